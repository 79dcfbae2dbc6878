/-! The tour from the roots meets just what a collection keeps. -/
theorem nI_dec {m : Nat} : nI (m + 1) + (-1) = nI m := by
  have e : (-1 : Int32) = 0 - 1 := by decide
  have : nI (m + 1) + (-1) = nI (m + 1) - 1 := by rw [Int32.sub_eq_add_neg]
  rw [this]; exact nI_pred m
theorem nodup_len : ∀ {l m : List Nat}, l.Nodup → (∀ a ∈ l, a ∈ m) → l.length ≤ m.length
  | [], _, _, _ => Nat.zero_le _
  | a :: l, m, hn, hs => by
    have hn' := List.nodup_cons.mp hn
    have ha := hs a List.mem_cons_self
    have := nodup_len (l := l) (m := m.erase a) hn'.2 (fun b hb => (List.mem_erase_of_ne (fun e => hn'.1 (by rw [← e]; exact hb))).mpr (hs b (List.mem_cons_of_mem _ hb)))
    rw [List.length_erase_of_mem ha] at this
    have := List.length_pos_of_mem ha
    simp only [List.length_cons]
    omega
section REACH
variable {B : Nat × List Nat} {h : Hp} {A : Nat → Nat} {S : St} {sf : Int32} {Q : Option AV ⊕ String → Hp → Prop}
/-- the loop's invariant, k objects of the tour l led on from -/
def RI (h : Hp) (A : Nat → Nat) (S : St) (sf : Int32) (n k : Nat) (l : List Nat) (fp : Nat → List Nat) : Prop :=
  CX h A S ∧ TI h (A 34) l n (ob S) ∧ (∀ b ∈ l, Rch S sf b) ∧ (∀ i < nt S, ∀ b, rt S i = some b → b ∈ l) ∧ PF h S fp (fun p => ∃ i < k, l[i]? = some p) ∧ ∀ i < k, ∀ p, l[i]? = some p → Suc S sf l fp p ∧ fp p = []
theorem RI.end {n k : Nat} {l : List Nat} {fp : Nat → List Nat} (hI : RI h A S sf n k l fp) (hk : l.length ≤ k) : (∀ a, a ∈ l ↔ Rch S sf a) ∧ ∀ a ∈ l, fR h 7 a = none := by
  obtain ⟨c1, c2, c3, c4, c5, c6⟩ := hI
  have all : ∀ p ∈ l, Suc S sf l fp p ∧ fp p = [] := fun p hp => by
    obtain ⟨i, hi⟩ := List.getElem?_of_mem hp
    exact c6 i (by have := (List.getElem?_eq_some_iff.mp hi).1; omega) p hi
  refine ⟨fun a => ⟨c3 a, fun hr => ?_⟩, fun a ha => by rw [(c5.1 a (c2.2.2.2.2.2.2.2.1 a ha)).1, (all a ha).2]; rfl⟩
  refine hr (fun x => x ∈ l) ⟨c4, fun a ha => (all a ha).1.1, fun a ha => (all a ha).1.2.1, fun a ha => (all a ha).1.2.2.1, fun a ha => (all a ha).1.2.2.2.1, fun a ha k7 r b hr1 hrl hb => ?_⟩
  rcases (all a ha).1.2.2.2.2 k7 r b hr1 hb with q | q
  · exact q
  · rw [(all r hrl).2] at q; cases q
theorem c_reach (hC : CI B h A S) (hW : WF S) (hB2 : B.2 = ob S) (hB : B.1 + 1 < 2 ^ 31) (h1 : ∀ h' l n, n ≤ B.1 + 1 → CX h' A S → TI h' (A 34) l n (ob S) → (∀ a, a ∈ l ↔ Rch S sf a) → (∀ a ∈ l, fR h' 7 a = none) → TF h h' → Q (.inl none) h') : vc_X6_reachFromRoots (A 0) sf h Q := by
  have hlen := hW.len
  have hnt := hW.nt
  obtain ⟨n, hn, e26, hid⟩ := hC.2.2.2.2
  rw [hB2] at hid
  have hX : CX h A S := ⟨hC.1, hC.2.1, hC.2.2.1, hC.2.2.2.1⟩
  intro P9 P54 P71 P79 q9 q54 q71 q79
  obtain ⟨⟨f1, f2, f3, f4, f5, f6, f7⟩, ⟨g1, g2, g3, g4, g5, g6⟩, ⟨l1, l2, l3⟩, -⟩ := hC.1
  -- the walk along the tour
  have walk : ∀ (d k : Nat) (h' : Hp) (l : List Nat) (fp : Nat → List Nat), d + k = (ob S).length → RI h' A S sf (n + 1) k l fp → TF h h' → P54 (nI d) l[k]? h' := by
    intro d
    induction d with
    | zero =>
      intro k h' l fp hd hI hF
      have hll : l.length ≤ (ob S).length := nodup_len hI.2.1.2.2.2.2.2.2.1 hI.2.1.2.2.2.2.2.2.2.1
      have hfin := hI.end (by omega)
      have : l[k]? = none := List.getElem?_eq_none (by omega)
      rw [this]
      exact q54 _ _ _ ⟨fun _ => h1 h' l (n + 1) (by omega) hI.1 hI.2.1 hfin.1 hfin.2 hF, fun a e => by cases e⟩
    | succ d ih =>
      intro k h' l fp hd hI hF
      have hll : l.length ≤ (ob S).length := nodup_len hI.2.1.2.2.2.2.2.2.1 hI.2.1.2.2.2.2.2.2.2.1
      refine q54 _ _ _ ⟨fun e => ?_, fun a e => ⟨fun q => absurd q (nI_nle (by omega) (by omega)), fun _ => ?_⟩⟩
      · have hfin := hI.end (k := k) (List.getElem?_eq_none_iff.mp e)
        exact h1 h' l (n + 1) (by omega) hI.1 hI.2.1 hfin.1 hfin.2 hF
      · have hI0 := hI
        obtain ⟨c1, c2, c3, c4, c5, c6⟩ := hI
        have hal : a ∈ l := List.mem_of_getElem? e
        have hao := c2.2.2.2.2.2.2.2.1 a hal
        have hnd := c2.2.2.2.2.2.2.1
        have hkl := (List.getElem?_eq_some_iff.mp e).1
        have hDa : ¬ ∃ i < k, l[i]? = some a := by
          rintro ⟨i, hi, e2⟩
          have := (List.getElem?_inj (by omega) hnd).mp (e2.trans e.symm)
          omega
        have e34 : fR h' 34 (A 0) = some (A 34) := c1.1.1.2.2.2.2.2.2
        refine ⟨c1.1.1.1, c1.thg hW a hao, ?_⟩
        rw [e34]
        -- behind leading on
        have post : ∀ (h2 : Hp) (l' : List Nat) (fp' : Nat → List Nat), LdP h' h2 A S sf (n + 1) l l' fp fp' (fun p => ∃ i < k, l[i]? = some p) a → P71 (nI (d + 1)) l[k]? h2 := by
          intro h2 l' fp' ⟨p1, p2, p3, p4, p5, p6, p7, p8⟩
          have c1' := c1.tf hW p2
          have e34' : fR h2 34 (A 0) = some (A 34) := c1'.1.1.2.2.2.2.2.2
          refine q71 _ _ _ ⟨c1'.1.1.1, a, e, c1'.thg hW a hao, ?_⟩
          rw [e34']
          have key : vc_X4_leadOnAsKey a (some (A 34)) h2 (qv (fun h36 => P79 (nI (d + 1)) l[k]? h36) qn) := by
            refine c_leadKey c1' hW p1 (p3.mem hal) p4 p5 (fun p hp => ?_) (fun h3 l'' r1 r2 r3 r4 r5 r6 => ?_)
            · rcases hp with ⟨i, -, e2⟩ | rfl
              · exact p3.mem (List.mem_of_getElem? e2)
              · exact p3.mem hal
            · have c1'' := c1'.tf hW r2
              refine q79 _ _ _ ⟨a, e, c1''.thg hW a hao, ?_⟩
              have ea : l''[k]? = some a := r3.get (p3.get e)
              rw [nI_dec, lnk_get r1.2.2.2.2.2.1 ea]
              have conv : ∀ p, Suc S sf l' fp' p → Suc S sf l'' (up1 fp' a []) p := by
                intro p ⟨z1, z2, z3, z4, z5⟩
                refine ⟨fun j hj b hb => r3.mem (z1 j hj b hb), fun k3 b hb => r3.mem (z2 k3 b hb), fun k3 e3 b hb => r3.mem (z3 k3 e3 b hb), fun k3 e3 b hb => r3.mem (z4 k3 e3 b hb), fun k7 r b hr hb => ?_⟩
                rcases z5 k7 r b hr hb with y | y
                · exact Or.inl (r3.mem y)
                · by_cases er : r = a
                  · subst er; exact Or.inl (r6 p y b hb)
                  · exact Or.inr (by rw [up1_ne er]; exact y)
              refine ih (k + 1) h3 l'' (up1 fp' a []) (by omega) ⟨c1'', r1, r4, fun i hi b hb => r3.mem (p3.mem (c4 i hi b hb)), r5.mono (fun p hp => ?_), fun i hi p hp => ?_⟩ (hF.trans (p2.trans r2))
              · rcases hp with ⟨i, hi, e2⟩ | rfl
                · exact ⟨i, by omega, r3.get (p3.get e2)⟩
                · exact ⟨k, by omega, ea⟩
              · rcases Nat.lt_or_ge i k with q | q
                · have hil : l[i]? = some p := by
                    have h5 : i < l.length := by omega
                    have h6 := r3.get (p3.get (List.getElem?_eq_getElem h5))
                    rw [h6] at hp; cases hp
                    exact List.getElem?_eq_getElem h5
                  obtain ⟨s1, s2⟩ := c6 i q p hil
                  have hpl := List.mem_of_getElem? hil
                  have hfp : fp' p = [] := by rw [p7 p hpl]; exact s2
                  refine ⟨conv p ?_, ?_⟩
                  · obtain ⟨z1, z2, z3, z4, z5⟩ := s1
                    refine ⟨fun j hj b hb => p3.mem (z1 j hj b hb), fun k3 b hb => p3.mem (z2 k3 b hb), fun k3 e3 b hb => p3.mem (z3 k3 e3 b hb), fun k3 e3 b hb => p3.mem (z4 k3 e3 b hb), fun k7 r b hr hb => ?_⟩
                    rcases z5 k7 r b hr hb with y | y
                    · exact Or.inl (p3.mem y)
                    · exact Or.inr (p6 r p y)
                  · unfold up1; split
                    · rfl
                    · exact hfp
                · have : i = k := by omega
                  subst this
                  rw [ea] at hp; cases hp
                  exact ⟨conv a p8, up1_same _ _ _⟩
          exact ⟨fun _ => key, fun _ => key, fun _ => key⟩
        refine ⟨fun t => ?_, fun t => ?_, fun t => ?_⟩
        · exact c_leadH c1 hW c2 hal c3 c5 ((COa.t2 (hW.2.1 a hao) (c1.2.2.1.1 a hao)).mp t) post
        · exact c_leadQ c1 hW c2 hal c3 c5 ((COa.t3 (hW.2.1 a hao) (c1.2.2.1.1 a hao)).mp t) post
        · exact c_leadL c1 hW c2 hal hDa c3 c5 ((COa.t4 (hW.2.1 a hao) (c1.2.2.1.1 a hao)).mp t) post
  -- the roots
  have roots : ∀ (d i : Nat) (h' : Hp) (l : List Nat), d + i = nt S → CX h' A S → TI h' (A 34) l (n + 1) (ob S) → (∀ b ∈ l, Rch S sf b) → (∀ j < i, ∀ b, rt S j = some b → b ∈ l) → PF h' S (fun _ => []) (fun _ => False) → TF h h' → P9 (nI i) h' := by
    intro d
    induction d with
    | zero =>
      intro i h' l hd c1 c2 c3 c4 c5 hF
      obtain ⟨⟨f1, f2, f3, f4, f5, f6, f7⟩, ⟨g1, g2, g3, g4, g5, g6⟩, ⟨l1, l2, l3⟩, -⟩ := c1.1
      refine q9 _ _ ⟨f1, A 31, f4, g3, by rw [l3]; unfold vp_in; decide, fun _ => ⟨by rw [l3]; unfold vp_in; decide, A 34, f7, g6, ?_⟩, fun q => ?_⟩
      · rw [c1.2.1.2.2.2.1 1 (by decide), hW.2.2.2.2.2.2.1, c2.2.1, List.head?_eq_getElem?]
        exact walk (ob S).length 0 h' l (fun _ => []) (by omega) ⟨c1, c2, c3, fun j hj => c4 j (by omega), c5.mono (fun _ q => q.elim), fun i hi => by omega⟩ hF
      · rw [c1.2.1.2.2.2.1 7 (by decide), hW.2.2.2.2.2.2.2.1] at q
        exact absurd ((nI_le' (by omega) (by omega)).mpr (by omega)) q
    | succ d ih =>
      intro i h' l hd c1 c2 c3 c4 c5 hF
      obtain ⟨⟨f1, f2, f3, f4, f5, f6, f7⟩, ⟨g1, g2, g3, g4, g5, g6⟩, ⟨l1, l2, l3⟩, -⟩ := c1.1
      refine q9 _ _ ⟨f1, A 31, f4, g3, by rw [l3]; unfold vp_in; decide, fun q => ?_, fun _ => ⟨A 29, f2, g1, by rw [l1]; exact vin (by omega) (by decide), A 34, f7, g6, ?_⟩⟩
      · rw [c1.2.1.2.2.2.1 7 (by decide), hW.2.2.2.2.2.2.2.1] at q
        have := (nI_le' (by omega) (by omega)).mp q
        omega
      · rw [nI_clamp (by omega), c1.2.1.1 i (by omega), if_pos (by omega), nI_1]
        refine c_comeTo c2 (fun b hb => hW.2.2.2.2.2.2.2.2.2.2 i (by omega) b hb) (c1.thg hW) (fun h2 t2 tc => ih (i + 1) h2 _ (by omega) (c1.tf hW tc.1) t2 (fun b hb => ?_) (fun j hj b hb => ?_) (c5.tc tc) (hF.trans tc.1))
        · rcases mem_vis hb with q | q
          · exact c3 b q
          · exact (Rch_cls S sf).1 i (by omega) b q
        · rcases Nat.lt_or_ge j i with q | q
          · exact (vis_pre _ _).mem (c4 j q b hb)
          · have : j = i := by omega
            subst this; rw [hb]; exact vis_mem
  refine ⟨f1, A 34, f7, g6, c_begin (obs := ob S) g6 e26 (by omega) (fun a ha => ?_) (fun h2 t2 tc => ?_)⟩
  · obtain ⟨m, hm, e⟩ := (hid a ha).2
    exact ⟨m, hm, e⟩
  · refine roots (nt S) 0 h2 [] (by omega) (hX.tf hW tc.1) t2 (fun b hb => by cases hb) (fun j hj => by omega) ⟨fun r hr => ⟨?_, trivial⟩, fun r p hp => by cases hp⟩ tc.1
    rw [tc.2.1]; exact (hid r hr).1
end REACH
