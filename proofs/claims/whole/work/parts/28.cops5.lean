/-! Scopes. -/
def opS (S : St) (n : Nat) : St := (S.1, ob S, qu S, (fun i => if i < nt S then rt S i else none), nt S + n, nt S :: sc S, up1 (cn S) 7 (nI (nt S + n)), rm S)
def clS (S : St) (s : Nat) (r : List Nat) : St := (S.1, ob S, qu S, rt S, s, r, up1 (cn S) 7 (nI s), rm S)
section COP5
variable {B : Nat × List Nat} {h : Hp} {A : Nat → Nat} {S : St} {Q : Option AV ⊕ String → Hp → Prop}
theorem WFopen (hW : WF S) {n : Nat} (h1 : 1 ≤ n) (h2 : n ≤ 16) (h3 : (sc S).length < 20) : WF (opS S n) := by
  obtain ⟨w1, w2, w3, w4, w5, w6, w7, w8, w9, w10, w11⟩ := hW
  refine ⟨w1, w2, w3, w4, w5, ?_, ?_, up1_same (cn S) 7 _, ⟨by show nt S < nt S + n; omega, by show nt S + n ≤ nt S + 16; omega, w9⟩, by show (sc S).length + 1 ≤ 20; omega, fun i hi b hb => ?_⟩
  · show up1 (cn S) 7 (nI (nt S + n)) 0 = _; rw [up1_ne (by decide)]; exact w6
  · show up1 (cn S) 7 (nI (nt S + n)) 1 = _; rw [up1_ne (by decide)]; exact w7
  · have hb : (if i < nt S then rt S i else none) = some b := hb
    split at hb
    · rename_i e; exact w11 i e b hb
    · cases hb
theorem WFclose (hW : WF S) {s : Nat} {r : List Nat} (h1 : sc S = s :: r) : WF (clS S s r) := by
  obtain ⟨w1, w2, w3, w4, w5, w6, w7, w8, w9, w10, w11⟩ := hW
  rw [h1] at w9 w10
  refine ⟨w1, w2, w3, w4, w5, ?_, ?_, up1_same (cn S) 7 _, w9.2.2, by simp only [List.length_cons] at w10; show r.length ≤ 20; omega, fun i hi b hb => w11 i (by have := w9.1; have hi : i < s := hi; omega) b hb⟩
  · show up1 (cn S) 7 (nI s) 0 = _; rw [up1_ne (by decide)]; exact w6
  · show up1 (cn S) 7 (nI s) 1 = _; rw [up1_ne (by decide)]; exact w7
theorem scA.put {n : Nat} {x : Int32} : ∀ {l : List Nat}, scA h A l → l.length ≤ n → scA (qI h (A 30) n x) A l
  | [], _, _ => trivial
  | _ :: r, q, hn => ⟨by rw [aI_qI, if_neg (fun e => by have := e.2; simp only [List.length_cons] at hn; omega)]; exact q.1, scA.put q.2 (by simp only [List.length_cons] at hn; omega)⟩
theorem c_open (hC : CI B h A S) (hW : WF S) {x1 : Int32} (h1 : ¬ ((1 : Int32) ≤ x1 ∧ x1 ≤ 16) → Q (.inr xA) h) (h2 : ∀ n, 1 ≤ n → n ≤ 16 → x1 = nI n → (sc S).length = 20 → Q (.inr xS) h)
    (h3 : ∀ n, 1 ≤ n → n ≤ 16 → x1 = nI n → (sc S).length < 20 → ∀ h', CI B h' A (opS S n) → FC A h h' → Q (.inl (some (vi (nI (nt S))))) h') : vc_X6_open (A 0) x1 h Q := by
  obtain ⟨⟨f1, f2, f3, f4, f5, f6, f7⟩, ⟨g1, g2, g3, g4, g5, g6⟩, ⟨l1, l2, l3⟩, m1, m2, m3⟩ := hC.1
  have hn := hW.nt
  have hs20 := hW.2.2.2.2.2.2.2.2.2.1
  refine c_range (fun a b => ?_) h1
  have x0 : 0 ≤ x1 := by
    rw [Int32.le_iff_toInt_le] at a ⊢
    have e1 : (1 : Int32).toInt = 1 := by decide
    have e0 : (0 : Int32).toInt = 0 := rfl
    omega
  obtain ⟨n, hn2, rfl⟩ := nI_ex' x0
  have n1 : 1 ≤ n := (nI_le' (a := 1) (by decide) hn2).mp a
  have n16 : n ≤ 16 := (nI_le' (b := 16) hn2 (by decide)).mp b
  obtain ⟨c1, c2, c3, c4, c5⟩ := hC
  refine ⟨f1, fun q => ?_, fun q => ?_⟩
  · rw [c2.2.1] at q
    have hlt : (sc S).length < 20 := (nI_lt' (b := 20) (by omega) (by decide)).mp q
    have hv : vp_in (7 : Int32) (ln h (A 31)) := by rw [l3]; unfold vp_in; decide
    refine ⟨A 31, f4, g3, hv, A 30, f3, g2, by rw [c2.2.1, l2]; exact vin hlt (by decide), hv, ?_⟩
    rw [c2.2.2.2.1 7 (by decide), hW.2.2.2.2.2.2.2.1, c2.2.1, nI_clamp (by omega), nI_add, nI_1]
    refine h3 n n1 n16 rfl hlt _ ⟨?_, ⟨fun i hi => ?_, ?_, ?_, fun k hk => ?_, ?_⟩, ⟨fun b hb => (c3.1 b hb).congr (eqT.of rfl rfl) (fun k hk => ?_) (fun _ _ => rfl) (fun _ _ => rfl) (fun _ _ _ => rfl) (fun _ _ _ => rfl), c3.2⟩, CC.congr (S := S) c4 (fun c _ => ⟨rfl, rfl, ?_, ?_⟩) (fun _ _ => rfl), CT.congr (S := S) c5 ?_ (fun _ _ => ⟨rfl, ?_⟩)⟩ ?_
    · exact c1
    · show aR h (A 29) i = if i < nt S + n then (if i < nt S then rt S i else none) else none
      rw [c2.1 i hi]
      by_cases e : i < nt S
      · simp [e]; omega
      · simp [e]
    · show fI (pI _ 35 (A 0) (nI ((sc S).length + 1))) 35 (A 0) = nI ((sc S).length + 1)
      rw [fI_pI, if_pos ⟨rfl, rfl⟩]
    · refine ⟨?_, ?_⟩
      · rw [aI_qI, if_neg (fun e => m2 e.1), aI_pI, aI_qI, if_pos ⟨rfl, rfl⟩]
      · exact scA.congr (h := qI h (A 30) (sc S).length (nI (nt S))) (by rw [aIx _ _ _ _ _ m2]; rfl) (scA.put c2.2.2.1 (Nat.le_refl _))
    · rw [aI_qI]
      show _ = up1 (cn S) 7 (nI (nt S + n)) k
      unfold up1
      by_cases e : k = 7
      · simp [e]
      · simp [e]
        rw [aI_pI, aI_qI, if_neg (fun e => m2 e.1.symm)]
        exact c2.2.2.2.1 k hk
    · rw [fI_qI, fI_pI, if_neg (by simp)]; exact c2.2.2.2.2
    · rw [fI_qI, fI_pI, if_neg (by simp at hk; omega)]; rfl
    · rw [fI_qI, fI_pI, if_neg (by simp)]; rfl
    · rw [fI_qI, fI_pI, if_neg (by simp)]; rfl
    · rw [fI_qI, fI_pI, if_neg (by simp)]; rfl
    · rw [fI_qI, fI_pI, if_neg (by simp)]; rfl
    · exact FC.qI (fun k hk => (m3 k hk).2.2) (FC.pI (by decide) (FC.qI (fun k hk => (m3 k hk).2.1) FC.rfl'))
  · rw [c2.2.1] at q
    have : ¬ (sc S).length < 20 := fun e => q ((nI_lt' (b := 20) (by omega) (by decide)).mpr e)
    exact h2 n n1 n16 rfl (by omega)
theorem c_close (hC : CI B h A S) (hW : WF S) (h1 : sc S = [] → Q (.inr xS) h) (h2 : ∀ s r, sc S = s :: r → ∀ h', CI B h' A (clS S s r) → FC A h h' → Q (.inl (some (vi (nI s)))) h') : vc_X6_close (A 0) h Q := by
  obtain ⟨⟨f1, f2, f3, f4, f5, f6, f7⟩, ⟨g1, g2, g3, g4, g5, g6⟩, ⟨l1, l2, l3⟩, m1, m2, m3⟩ := hC.1
  have hn := hW.nt
  have hs20 := hW.2.2.2.2.2.2.2.2.2.1
  obtain ⟨c1, c2, c3, c4, c5⟩ := hC
  intro P hP
  refine ⟨f1, fun q => ?_, fun q => ?_⟩
  · rw [c2.2.1] at q
    cases hsc : sc S with
    | nil => rw [hsc] at q; exact absurd q (by decide)
    | cons s r =>
      have hsc2 := c2.2.2.1
      have h9 := hW.2.2.2.2.2.2.2.2.1
      rw [hsc] at hsc2 hs20 h9
      simp only [List.length_cons] at hs20
      have hs64 := scOK_le h9.2.2
      have hsn := h9.1
      have e35 : fI h 35 (A 0) - 1 = nI r.length := by rw [c2.2.1, hsc]; exact nI_pred _
      rw [fI_pI, if_pos ⟨rfl, rfl⟩, e35, nI_clamp (by omega)]
      refine ⟨A 30, f3, g2, by rw [l2]; exact vin (by omega) (by decide), ?_⟩
      rw [hsc2.1]
      -- the loop that clears roots
      have loop : ∀ (d j : Nat) (h' : Hp), d + j = nt S → s ≤ j → (tg h' = tg h ∧ ln h' = ln h ∧ fR h' = fR h ∧ aI h' = aI h ∧ aL h' = aL h ∧ fI h' = fI (pI h 35 (A 0) (nI r.length))) → (∀ x, x ≠ A 29 → aR h' x = aR h x) → (∀ i, aR h' (A 29) i = if s ≤ i ∧ i < j then none else aR h (A 29) i) → P (nI s) (nI j) h' := by
        intro d
        induction d with
        | zero =>
          intro j h' hd hj ⟨t1, t2, t3, t4, t5, t6⟩ hx hr
          refine hP _ _ _ ⟨by rw [t1]; exact f1, A 31, by rw [t3]; exact f4, by rw [t1]; exact g3, by rw [t2, l3]; unfold vp_in; decide, fun q2 => ⟨by rw [t2, l3]; unfold vp_in; decide, ?_⟩, fun q2 => ?_⟩
          · refine h2 s r hsc _ ⟨c1.congr (eqT.of t1 t2) (fun k _ _ => by rw [fR_qI, t3]), ⟨fun i hi => ?_, ?_, ?_, fun k hk => ?_, ?_⟩, ⟨fun b hb => (c3.1 b hb).congr (eqT.of t1 t2) (fun k hk => ?_) (fun _ _ => by rw [fR_qI, t3]) (fun _ _ => by rw [fR_qI, t3]) (fun kb r2 hr2 => ?_) (fun _ _ _ => by rw [aL_qI, t5]), c3.2.congr (fun _ _ => by rw [fR_qI, t3]) (fun _ _ => by rw [fR_qI, t3])⟩, CC.congr (S := S) c4 (fun c _ => ⟨by rw [fR_qI, t3], by rw [fR_qI, t3], ?_, ?_⟩) (fun _ _ => by rw [fR_qI, t3]), CT.congr (S := S) c5 ?_ (fun _ _ => ⟨by rw [fR_qI, t3], ?_⟩)⟩ ?_
            · show aR h' (A 29) i = if i < s then rt S i else none
              rw [hr i, c2.1 i hi]
              by_cases e : i < s
              · rw [if_neg (fun q => by omega), if_pos (by omega), if_pos e]
              · rw [if_neg e]
                by_cases e2 : i < j
                · rw [if_pos ⟨by omega, e2⟩]
                · rw [if_neg (fun q => e2 q.2), if_neg (by omega)]
            · rw [fI_qI, t6, fI_pI, if_pos ⟨rfl, rfl⟩]; rfl
            · exact scA.congr (h := h) (by rw [aIx _ _ _ _ _ m2, t4]) hsc2.2
            · rw [aI_qI]
              show _ = up1 (cn S) 7 (nI s) k
              unfold up1
              by_cases e : k = 7
              · simp [e]
              · simp [e]; rw [t4]; exact c2.2.2.2.1 k hk
            · rw [fI_qI, t6, fI_pI, if_neg (by simp)]; exact c2.2.2.2.2
            · rw [fI_qI, t6, fI_pI, if_neg (by simp at hk; omega)]
            · rw [aR_qI]
              refine hx r2 (fun e => ?_)
              obtain ⟨-, r', n, d1, d2, d3, d4, -⟩ := (c3.1 b hb).2.2.2.1 kb
              rw [hr2] at d1; cases d1; exact d4 e
            · rw [fI_qI, t6, fI_pI, if_neg (by simp)]
            · rw [fI_qI, t6, fI_pI, if_neg (by simp)]
            · rw [fI_qI, t6, fI_pI, if_neg (by simp)]
            · rw [fI_qI, t6, fI_pI, if_neg (by simp)]
            · refine FC.qI (fun k hk => (m3 k hk).2.2) ⟨fun k hk => ⟨?_, by rw [t3]⟩, fun k hk => ⟨by rw [t1], by rw [t2], by rw [t4], by rw [t5]⟩⟩
              rw [t6, fIx _ _ _ _ _ (by omega)]
          · rw [t4, c2.2.2.2.1 7 (by decide), hW.2.2.2.2.2.2.2.1] at q2
            exact absurd ((nI_le' (by omega) (by omega)).mpr (by omega)) q2
        | succ d ih =>
          intro j h' hd hj ⟨t1, t2, t3, t4, t5, t6⟩ hx hr
          refine hP _ _ _ ⟨by rw [t1]; exact f1, A 31, by rw [t3]; exact f4, by rw [t1]; exact g3, by rw [t2, l3]; unfold vp_in; decide, fun q2 => ?_, fun q2 => ?_⟩
          · rw [t4, c2.2.2.2.1 7 (by decide), hW.2.2.2.2.2.2.2.1] at q2
            have := (nI_le' (by omega) (by omega)).mp q2
            omega
          · refine ⟨A 29, by rw [t3]; exact f2, by rw [t1]; exact g1, by rw [t2, l1]; exact vin (by omega) (by decide), ?_⟩
            rw [nI_clamp (by omega), nI_1]
            refine ih (j + 1) _ (by omega) (by omega) ⟨t1, t2, t3, t4, t5, t6⟩ (fun x hx2 => by rw [aRx _ _ _ _ _ hx2]; exact hx x hx2) (fun i => ?_)
            rw [aR_qR, hr i]
            by_cases e : i = j
            · subst e
              rw [if_pos ⟨rfl, rfl⟩, if_pos ⟨hj, by omega⟩]
            · rw [if_neg (fun q => e q.2)]
              by_cases e2 : s ≤ i ∧ i < j
              · rw [if_pos e2, if_pos ⟨e2.1, by omega⟩]
              · rw [if_neg e2, if_neg (fun q => e2 ⟨q.1, by omega⟩)]
      exact loop (nt S - s) s _ (by omega) (Nat.le_refl _) ⟨rfl, rfl, rfl, rfl, rfl, rfl⟩ (fun _ _ => rfl) (fun i => by rw [if_neg (by omega)]; rfl)
  · rw [c2.2.1] at q
    refine h1 ?_
    cases hsc : sc S with
    | nil => rfl
    | cons s r =>
      rw [hsc] at q
      exact absurd ((nI_lt' (a := 0) (by decide) (by rw [hsc] at hs20; omega)).mpr (by simp)) q
end COP5
