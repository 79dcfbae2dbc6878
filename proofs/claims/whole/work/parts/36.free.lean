/-! Freeing, and a collection as a whole. -/
section FREE
variable {b : Nat} {h : Hp} {A : Nat → Nat} {S : St} {sf : Int32} {Q : Option AV ⊕ String → Hp → Prop}
theorem TI.af {h' : Hp} {T n c : Nat} {l obs z : List Nat} (hT : TI h T l n obs) (hF : AF c z h h') : TI h' T l n obs := by
  obtain ⟨z1, z2, z3, z4, z5, z6, z7, z8, z9, z10⟩ := hT
  obtain ⟨t1, t2, t3, t4, t5, tI, tR, t6⟩ := hF
  have e6 : fR h' 6 = fR h 6 := funext fun x => tR 6 x (by decide) (Or.inl (by decide))
  refine ⟨by rw [t1]; exact z1, by rw [tR 23 _ (by decide) (Or.inl (by decide))]; exact z2, by rw [tR 24 _ (by decide) (Or.inl (by decide))]; exact z3, by rw [tI 25 _ (Or.inl (by decide))]; exact z4, by rw [tI 26 _ (Or.inl (by decide))]; exact z5, by rw [e6]; exact z6, z7, z8, fun a ha => by rw [tI 4 _ (Or.inl (by decide))]; exact z9 a ha, fun i a e => by rw [tI 5 _ (Or.inl (by decide))]; exact z10 i a e⟩
theorem c_free {l L : List Nat} {n : Nat} (hC : CI (b, l) h A S) (hW : WF S) (hch : chn h (A 33) (ob S) S) (hcy : chn h (A 32) [] S) (hT : TI h (A 34) l n (ob S)) (hL : L = (ob S).filter (fun a => decide (a ∈ l)))
    (h1 : ∀ h', CI (b, L) h' A (wC (wC (wO S L) 1 (nI L.length)) 0 (nI (us (wO S L)))) → FC A h h' → Q (.inl (some (vi (cn S 0 - nI (us (wO S L)))))) h') : vc_X6_freeUnreached (A 0) h Q := by
  obtain ⟨⟨f1, f2, f3, f4, f5, f6, f7⟩, ⟨g1, g2, g3, g4, g5, g6⟩, ⟨l1, l2, l3⟩, m1, m2, m3⟩ := hC.1
  intro P22 P50 q22 q50
  have loop : ∀ (m z : List Nat) (h' : Hp), z ++ m = ob S → AF (A 33) z h h' → chn h' (A 33) (z.filter (fun a => decide (a ∈ l))) S → P22 (cn S 0) m.head? h' := by
    intro m
    induction m with
    | nil =>
      intro z h' hz hF hc
      have hzo : z = ob S := by simpa using hz
      subst hzo
      rw [← hL] at hc
      obtain ⟨t1, t2, t3, t4, t5, tI, tR, t6⟩ := hF
      have c1 : CF h' A := hC.1.congr (eqT.of t1 t2) (fun k q1 q2 => tR k _ (by omega) (Or.inl ⟨by omega, by omega⟩))
      have hsub : ∀ a ∈ L, a ∈ ob S ∧ a ∈ l := fun a ha => by rw [hL] at ha; simpa using List.mem_filter.mp ha
      have hC' : CI (b, L) h' A (wO S L) := by
        refine ⟨c1, CG.congr (S := S) hC.2.1 (by rw [t5]) (tI 35 _ (Or.inl (by decide))) (tI 27 _ (Or.inl (by decide))) (by rw [t3]) (by rw [t3]), ⟨fun a ha => ?_, fun a ha a' ha' k1 k2 hne => ?_⟩, ⟨L, [], by simp; rfl, hc, ?_⟩, ?_⟩
        · refine COa.congr (S := S) (hC.2.2.1.1 a (hsub a ha).1) (eqT.of t1 t2) (fun k hk => tI k _ (Or.inl (by simp at hk; omega))) (fun k hk => tR k _ (by simp at hk; omega) (Or.inl (by simp at hk; omega))) (fun x _ => tR 17 _ (by decide) (Or.inl (by decide))) (fun _ _ _ => by rw [t5]) (fun _ _ _ => by rw [t4])
        · rw [tR 8 _ (by decide) (Or.inl (by decide)), tR 8 _ (by decide) (Or.inl (by decide)), tR 9 _ (by decide) (Or.inl (by decide)), tR 9 _ (by decide) (Or.inl (by decide))]
          exact hC.2.2.1.2 a (hsub a ha).1 a' (hsub a' ha').1 k1 k2 hne
        · exact hcy.congr (tR 19 _ (by decide) (Or.inr m1)) (tR 20 _ (by decide) (Or.inr m1)) (tI 21 _ (Or.inr m1)) (tI 22 _ (Or.inr m1)) (fun x hx => by cases hx)
        · obtain ⟨n', hn', e26, hi⟩ := hC.2.2.2.2
          refine ⟨n', hn', by rw [tI 26 _ (Or.inl (by decide))]; exact e26, fun a ha => ?_⟩
          rw [tR 7 _ (by decide) (Or.inl (by decide)), tI 4 _ (Or.inl (by decide))]
          exact hi a (hsub a ha).2
      refine q22 _ _ _ ⟨fun _ => ⟨c1.1.1, A 33, c1.1.2.2.2.2.2.1, c1.2.1.2.2.2.2.1, A 31, c1.1.2.2.2.1, c1.2.1.2.2.1, by rw [c1.2.2.1.2.2]; unfold vp_in; decide, by rw [c1.2.2.1.2.2]; unfold vp_in; decide, ?_⟩, fun a e => by cases e⟩
      rw [hc.2.2.1, hc.2.2.2.1]
      refine h1 _ ((hC'.setC (k := 1) _).setC (k := 0) _) ?_
      exact FC.qI (fun k hk => (m3 k hk).2.2) (FC.qI (fun k hk => (m3 k hk).2.2) (AF.FC ⟨t1, t2, t3, t4, t5, tI, tR, t6⟩))
    | cons a m ih =>
      intro z h' hz hF hc
      obtain ⟨t1, t2, t3, t4, t5, tI, tR, t6⟩ := id hF
      have hao : a ∈ ob S := by rw [← hz]; simp
      have hnd : (z ++ a :: m).Nodup := by rw [hz]; exact hW.1
      have hnd1 := List.nodup_append.mp hnd
      have haz : a ∉ z := fun e => hnd1.2.2 a e a List.mem_cons_self rfl
      have c1 : CF h' A := hC.1.congr (eqT.of t1 t2) (fun k q1 q2 => tR k _ (by omega) (Or.inl ⟨by omega, by omega⟩))
      have hth : ∀ x ∈ ob S, thg h' x := fun x hx => by unfold thg; rw [t1]; exact hC.thg hW hx
      have e3 : fR h' 3 a = m.head? := by
        rw [t6 a haz]
        have := hch.2.2.2.2
        rw [← hz] at this
        exact (lnk_app this).1
      refine q22 _ _ _ ⟨fun e => (by cases e), fun a' e => ?_⟩
      have e : some a = some a' := e
      cases e
      have hT' := hT.af hF
      refine ⟨hth a hao, c1.1.1, A 34, c1.1.2.2.2.2.2.2, c1.2.1.2.2.2.2.2, ?_⟩
      rw [e3]
      refine c_has (n := n) (l := l) hT' hao (hth a hao) (fun ml => ⟨fun z => absurd z (by decide), fun _ => ⟨c1.1.1, A 33, c1.1.2.2.2.2.2.1, c1.2.1.2.2.2.2.1, ?_⟩⟩) (fun ml => ⟨fun _ => q50 _ _ _ ?_, fun z => absurd rfl z⟩)
      · refine c_add c1.2.1.2.2.2.2.1 hc (List.Pairwise.filter _ hnd1.1) (fun e => haz (List.mem_filter.mp e).1) (fun x hx => hth x (by rw [← hz]; exact List.mem_append_left _ (List.mem_filter.mp hx).1)) (hth a hao) (by rw [tI 1 _ (Or.inl (by decide))]; exact (hC.2.2.1.1 a hao).2.1) (fun h2 k1 k2 => q50 _ _ _ ?_)
        refine ih (z ++ [a]) h2 (by simp [← hz]) ((hF.mono (fun x hx => List.mem_append_left _ hx)).trans (k2.mono (fun x hx => ?_))) ?_
        · rcases List.mem_append.mp hx with q | q
          · exact List.mem_append_left _ (List.mem_filter.mp q).1
          · exact List.mem_append_right _ q
        · rw [List.filter_append, List.filter_cons, if_pos (by simpa using ml)]; exact k1
      · refine ih (z ++ [a]) h' (by simp [← hz]) (hF.mono (fun x hx => List.mem_append_left _ hx)) ?_
        rw [List.filter_append, List.filter_cons, if_neg (by simpa using ml)]; simpa using hc
  refine ⟨f1, A 31, f4, g3, by rw [l3]; unfold vp_in; decide, A 33, f6, g5, g5, ?_⟩
  rw [hC.2.1.2.2.2.1 0 (by decide), hch.1]
  refine loop (ob S) [] _ (by simp) ⟨rfl, rfl, rfl, rfl, rfl, fun k x q => ?_, fun k x q1 q2 => ?_, fun x _ => ?_⟩ ⟨?_, ?_, ?_, ?_, trivial⟩
  · rw [fI_pI, if_neg (fun e => by rcases q with q | q; exact q.2 e.1; exact q e.2), fI_pI, if_neg (fun e => by rcases q with q | q; exact q.1 e.1; exact q e.2)]; rfl
  · show fR (pR (pR h 19 (A 33) none) 20 (A 33) none) k x = _
    rw [fR_pR, if_neg (fun e => by rcases q2 with q | q; exact q.2 e.1; exact q e.2), fR_pR, if_neg (fun e => by rcases q2 with q | q; exact q.1 e.1; exact q e.2)]
  · show fR (pR (pR h 19 (A 33) none) 20 (A 33) none) 3 x = _
    rw [fR_pR, if_neg (by simp), fR_pR, if_neg (by simp)]
  · show fR (pR (pR h 19 (A 33) none) 20 (A 33) none) 19 (A 33) = _
    rw [fR_pR, if_neg (by simp), fR_pR, if_pos ⟨rfl, rfl⟩]; rfl
  · show fR (pR (pR h 19 (A 33) none) 20 (A 33) none) 20 (A 33) = _
    rw [fR_pR, if_pos ⟨rfl, rfl⟩]; rfl
  · rw [fI_pI, if_neg (by simp), fI_pI, if_pos ⟨rfl, rfl⟩]; rfl
  · rw [fI_pI, if_pos ⟨rfl, rfl⟩]; rfl
/-! WF behind a collection. -/
theorem sum_filter_le (f : Nat → Nat) (p : Nat → Bool) : ∀ l : List Nat, ((l.filter p).map f).sum ≤ (l.map f).sum
  | [] => Nat.le_refl _
  | a :: l => by
    have := sum_filter_le f p l
    rw [List.filter_cons]
    split
    · simp only [List.map_cons, List.sum_cons]; omega
    · simp only [List.map_cons, List.sum_cons]; omega
theorem colA_facts (hW : WF S) (sf : Int32) : WF (colA S sf) ∧ stS (wC S 3 (cn S 3 + 1)) (colA S sf) ∧ (∀ x, re (colA S sf) x = if x ∈ gls S sf then none else re S x) ∧ (∀ x, va (colA S sf) x = if x ∈ gls S sf then none else va S x) ∧ (∀ x, cm (colA S sf) x = 0 → cm S x = 0) ∧ ∀ x b, b ∈ qu (colA S sf) x → b ∈ qu S x ∨ b ∈ gls S sf :=
  fold_lgo (S := wC S 3 (cn S 3 + 1)) (hW.setC _ (by decide) (by decide) (by decide)) (fun a ha => ⟨(mem_gls.mp ha).1, (mem_gls.mp ha).2.1⟩)
theorem WFcoll (hW : WF S) (sf : Int32) : WF (coll S sf) ∧ us (coll S sf) = us (wO (colA S sf) (rls S sf)) := by
  obtain ⟨c1, c2, c3, c4, c5, c6⟩ := colA_facts hW sf
  have ek : ∀ x, kd (colA S sf) x = kd S x := fun x => by show fI (colA S sf).1 0 x = _; rw [c2.2.1]; rfl
  have hus : us (coll S sf) = us (wO (colA S sf) (rls S sf)) := rfl
  have rl : ∀ x, Rch S sf x → x ∈ rls S sf := fun x hx => mem_rls.mpr ⟨Rch_ob hW hx, hx⟩
  have gl : ∀ x ∈ rls S sf, ls (kd S x) → x ∉ gls S sf → ∀ r, re S x = some r → Rch S sf r := fun x hx k hg r hr => by
    refine Classical.byContradiction fun z => hg (mem_gls.mpr ⟨(mem_rls.mp hx).1, k, (mem_rls.mp hx).2, r, hr, z⟩)
  have rcl := Rch_cls S sf
  have hle : us (wO (colA S sf) (rls S sf)) ≤ us (colA S sf) := by
    obtain ⟨pp, hpp⟩ : ∃ p : Nat → Bool, rls S sf = (ob (colA S sf)).filter p := by rw [c2.1]; exact ⟨_, rfl⟩
    show ((rls S sf).map (cl (colA S sf))).sum ≤ _
    rw [hpp]; exact sum_filter_le _ _ _
  obtain ⟨w1, w2, w3, w4, w5, w6, w7, w8, w9, w10, w11⟩ := c1
  refine ⟨⟨?_, fun a ha => ?_, ?_, w4, w5, ?_, ?_, ?_, w9, w10, fun i hi b hb => ?_⟩, hus⟩
  · show (rls S sf).Nodup
    unfold rls; exact List.Pairwise.filter _ hW.1
  · have ha : a ∈ rls S sf := ha
    have hra := (mem_rls.mp ha).2
    have hao := (mem_rls.mp ha).1
    obtain ⟨v1, v2, v3, v4, v5, v6, v7, v8, v9⟩ := w2 a (by rw [c2.1]; exact hao)
    refine ⟨v1, v2, v3, v4, v5, v6, fun j hj b hb => ?_, fun k => ?_, fun k => ?_⟩
    · refine rl b (rcl.2.1 a hra j ?_ b ?_)
      · have hj : j < tg (colA S sf).1 a := hj
        rw [c2.2.2.2.1] at hj; exact hj
      · have hb : aR (colA S sf).1 a j = some b := hb
        rw [c2.2.2.2.2.2.1] at hb; exact hb
    · have k : ls (kd (colA S sf) a) := k
      have k' : ls (kd S a) := by rw [← ek]; exact k
      obtain ⟨u1, u2, u3, u4⟩ := v8 k
      refine ⟨fun b hb => ?_, fun b hb => ?_, u3, fun hc q hq => ?_⟩
      · have hb : re (colA S sf) a = some b := hb
        rw [c3] at hb
        split at hb
        · cases hb
        · rename_i hg; exact rl b (gl a ha k' hg b hb)
      · have hb : va (colA S sf) a = some b := hb
        obtain ⟨x1, x2, x3⟩ := u2 b hb
        rw [c4] at hb
        split at hb
        · cases hb
        · rename_i hg
          refine ⟨?_, x2, x3⟩
          rw [ek] at x2
          rw [c3, if_neg hg] at x3
          cases hr : re S a with
          | none => exact absurd hr x3
          | some r => exact rl b (rcl.2.2.2.2.2 a hra x2 r b hr (gl a ha k' hg r hr) hb)
      · have hc : cm (colA S sf) a = 0 := hc
        have hq : fR (colA S sf).1 15 a = some q := hq
        obtain ⟨x1, x2⟩ := u4 hc q hq
        refine ⟨?_, x2⟩
        rw [c2.2.2.2.2.2.2.2.1] at hq
        exact rl q (rcl.2.2.2.1 a hra k' (c5 a hc) q hq)
    · have k : kd (colA S sf) a = 3 := k
      obtain ⟨u1, u2, u3⟩ := v9 k
      refine ⟨u1, fun b hb => ?_, fun q hq kq hne b hb => u3 q (by rw [c2.1]; exact (mem_rls.mp hq).1) kq hne b hb⟩
      obtain ⟨x1, x2, x3⟩ := u2 b hb
      refine ⟨?_, x2, x3⟩
      rcases c6 a b hb with z | z
      · exact rl b (rcl.2.2.1 a hra (by rw [← ek]; exact k) b z)
      · exact rl b (mem_gls.mp z).2.2.1
  · rw [hus]; exact Nat.le_trans hle w3
  · exact up1_same (up1 (cn (colA S sf)) 1 (nI (rls S sf).length)) 0 _
  · show up1 (up1 (cn (colA S sf)) 1 (nI (rls S sf).length)) 0 (nI (us (wO (colA S sf) (rls S sf)))) 1 = _
    rw [up1_ne (by decide)]; exact up1_same (cn (colA S sf)) 1 _
  · show up1 (up1 (cn (colA S sf)) 1 (nI (rls S sf).length)) 0 (nI (us (wO (colA S sf) (rls S sf)))) 7 = _
    rw [up1_ne (by decide), up1_ne (by decide)]; exact w8
  · have hi : i < nt (colA S sf) := hi
    have hb : rt (colA S sf) i = some b := hb
    rw [c2.2.2.2.2.2.2.2.2.2.1] at hi
    rw [c2.2.2.2.2.2.2.2.2.1] at hb
    exact rl b (rcl.1 i hi b hb)
end FREE
