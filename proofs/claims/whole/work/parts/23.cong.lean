/-! The class's invariant where little has changed. -/
section CONG
variable {B : Nat × List Nat} {h h' : Hp} {A : Nat → Nat} {S : St}
def eqT (h h' : Hp) : Prop := ∀ x, tg h x ≠ 0 → tg h' x = tg h x ∧ ln h' x = ln h x
theorem eqT.of (e1 : tg h' = tg h) (e2 : ln h' = ln h) : eqT h h' := fun x _ => by rw [e1, e2]; exact ⟨rfl, rfl⟩
theorem eqT.t {x t : Nat} (e : eqT h h') (ht : tg h x = t + 1) : tg h' x = t + 1 := by rw [(e x (by rw [ht]; simp)).1]; exact ht
theorem CF.congr (hC : CF h A) (eT : eqT h h') (eR : ∀ k, 29 ≤ k → k ≤ 34 → fR h' k (A 0) = fR h k (A 0)) : CF h' A := by
  obtain ⟨⟨f1, f2, f3, f4, f5, f6, f7⟩, ⟨g1, g2, g3, g4, g5, g6⟩, ⟨l1, l2, l3⟩, n1, n2, n3⟩ := hC
  refine ⟨⟨eT.t f1, ?_, ?_, ?_, ?_, ?_, ?_⟩, ⟨eT.t g1, eT.t g2, eT.t g3, eT.t g4, eT.t g5, eT.t g6⟩, ⟨?_, ?_, ?_⟩, n1, n2, fun k hk => ⟨?_, (n3 k hk).2⟩⟩
  · rw [eR 29 (by decide) (by decide)]; exact f2
  · rw [eR 30 (by decide) (by decide)]; exact f3
  · rw [eR 31 (by decide) (by decide)]; exact f4
  · rw [eR 32 (by decide) (by decide)]; exact f5
  · rw [eR 33 (by decide) (by decide)]; exact f6
  · rw [eR 34 (by decide) (by decide)]; exact f7
  · rw [(eT _ (by rw [g1]; decide)).2]; exact l1
  · rw [(eT _ (by rw [g2]; decide)).2]; exact l2
  · rw [(eT _ (by rw [g3]; decide)).2]; exact l3
  · rcases (n3 k hk).1 with q | q | q | q
    · exact Or.inl (eT.t q)
    · exact Or.inr (Or.inl (eT.t q))
    · exact Or.inr (Or.inr (Or.inl (eT.t q)))
    · exact Or.inr (Or.inr (Or.inr (eT.t q)))
theorem scA.congr (e : aI h' (A 30) = aI h (A 30)) : ∀ {l : List Nat}, scA h A l → scA h' A l
  | [], _ => trivial
  | _ :: _, q => ⟨by rw [e]; exact q.1, scA.congr e q.2⟩
theorem CG.congr (hC : CG h A S) (e1 : aR h' (A 29) = aR h (A 29)) (e2 : fI h' 35 (A 0) = fI h 35 (A 0)) (e3 : fI h' 27 (A 0) = fI h 27 (A 0)) (e4 : aI h' (A 30) = aI h (A 30)) (e5 : aI h' (A 31) = aI h (A 31)) : CG h' A S :=
  ⟨by rw [e1]; exact hC.1, by rw [e2]; exact hC.2.1, hC.2.2.1.congr e4, by rw [e5]; exact hC.2.2.2.1, by rw [e3]; exact hC.2.2.2.2⟩
theorem COa.congr {a : Nat} (hC : COa h A S a) (eT : eqT h h') (eI : ∀ k ∈ [0, 1, 2, 12, 16], fI h' k a = fI h k a) (eR : ∀ k ∈ [8, 9, 10, 11, 13, 14, 15, 17], fR h' k a = fR h k a) (e17 : ∀ b ∈ qu S a, fR h' 17 b = fR h 17 b)
    (eA : hd (kd S a) → ∀ r, fR h 8 a = some r → aR h' r = aR h r) (eL : hd (kd S a) → ∀ n, fR h 9 a = some n → aL h' n = aL h n) : COa h' A S a := by
  obtain ⟨c1, c2, c3, c4, c5, c6⟩ := hC
  refine ⟨by rw [eI 0 (by simp)]; exact c1, by rw [eI 1 (by simp)]; exact c2, by rw [eI 2 (by simp)]; exact c3, fun k => ?_, fun k => ?_, fun k => ?_⟩
  · obtain ⟨t, r, n, d1, d2, d3, d4, d5, d6, d7, d8, d9, d10⟩ := c4 k
    refine ⟨eT.t t, r, n, by rw [eR 8 (by simp)]; exact d1, eT.t d2, by rw [(eT r (by rw [d2]; decide)).2]; exact d3, d4, by rw [eA k r d1]; exact d5, by rw [eR 9 (by simp)]; exact d6, eT.t d7, by rw [(eT n (by rw [d7]; decide)).2]; exact d8, d9, by rw [eL k n d6]; exact d10⟩
  · obtain ⟨t, d1, d2, d3, d4⟩ := c5 k
    exact ⟨eT.t t, by rw [eR 10 (by simp)]; exact d1, by rw [eR 11 (by simp)]; exact d2, by rw [eI 12 (by simp)]; exact d3, lnk_congr d4 e17⟩
  · obtain ⟨t, d1, d2, d3, d4, d5⟩ := c6 k
    exact ⟨eT.t t, by rw [eR 13 (by simp)]; exact d1, by rw [eR 14 (by simp)]; exact d2, by rw [eR 15 (by simp)]; exact d3, by rw [eI 16 (by simp)]; exact d4, by rw [eR 17 (by simp)]; exact d5⟩
theorem COj.congr (hC : COj h S) (e8 : ∀ a ∈ ob S, fR h' 8 a = fR h 8 a) (e9 : ∀ a ∈ ob S, fR h' 9 a = fR h 9 a) : COj h' S := fun a ha b hb k1 k2 n => by
  rw [e8 a ha, e8 b hb, e9 a ha, e9 b hb]; exact hC a ha b hb k1 k2 n
theorem CO.congr (hC : CO h A S) (hW : WF S) (eT : eqT h h') (eI : ∀ a ∈ ob S, ∀ k ∈ [0, 1, 2, 12, 16], fI h' k a = fI h k a) (eR : ∀ a ∈ ob S, ∀ k ∈ [8, 9, 10, 11, 13, 14, 15, 17], fR h' k a = fR h k a)
    (eA : ∀ a ∈ ob S, hd (kd S a) → ∀ r, fR h 8 a = some r → aR h' r = aR h r) (eL : ∀ a ∈ ob S, hd (kd S a) → ∀ n, fR h 9 a = some n → aL h' n = aL h n) : CO h' A S := by
  refine ⟨fun a ha => ?_, hC.2.congr (fun a ha => eR a ha 8 (by simp)) (fun a ha => eR a ha 9 (by simp))⟩
  by_cases k : kd S a = 3
  · exact (hC.1 a ha).congr eT (eI a ha) (fun k hk => eR a ha k (by simp at hk ⊢; omega)) (fun b hb => eR b ((((hW.2.1 a ha).2.2.2.2.2.2.2.2 k).2.1 b hb).1) 17 (by simp)) (eA a ha) (eL a ha)
  · obtain ⟨c1, c2, c3, c4, c5, c6⟩ := hC.1 a ha
    have := COa.congr (h := h) (h' := h') (A := A) (S := (S.1, S.2.1, fun _ => [], S.2.2.2)) (a := a) ⟨c1, c2, c3, c4, fun q => absurd q k, c6⟩ eT (eI a ha) (fun k hk => eR a ha k (by simp at hk ⊢; omega)) (fun b hb => by cases hb) (eA a ha) (eL a ha)
    exact ⟨this.1, this.2.1, this.2.2.1, this.2.2.2.1, fun q => absurd q k, this.2.2.2.2.2⟩
theorem chn.congr {c : Nat} {l : List Nat} (hC : chn h c l S) (e1 : fR h' 19 c = fR h 19 c) (e2 : fR h' 20 c = fR h 20 c) (e3 : fI h' 21 c = fI h 21 c) (e4 : fI h' 22 c = fI h 22 c) (e5 : ∀ a ∈ l, fR h' 3 a = fR h 3 a) : chn h' c l S :=
  ⟨by rw [e1]; exact hC.1, by rw [e2]; exact hC.2.1, by rw [e3]; exact hC.2.2.1, by rw [e4]; exact hC.2.2.2.1, lnk_congr hC.2.2.2.2 e5⟩
theorem CC.congr (hC : CC h A S) (e1 : ∀ c, c = A 32 ∨ c = A 33 → fR h' 19 c = fR h 19 c ∧ fR h' 20 c = fR h 20 c ∧ fI h' 21 c = fI h 21 c ∧ fI h' 22 c = fI h 22 c) (e5 : ∀ a ∈ ob S, fR h' 3 a = fR h 3 a) : CC h' A S := by
  obtain ⟨lo, ly, hl, c1, c2⟩ := hC
  have a := e1 (A 33) (Or.inr rfl); have b := e1 (A 32) (Or.inl rfl)
  exact ⟨lo, ly, hl, c1.congr a.1 a.2.1 a.2.2.1 a.2.2.2 (fun x hx => e5 x (by rw [← hl]; exact List.mem_append_left _ hx)), c2.congr b.1 b.2.1 b.2.2.1 b.2.2.2 (fun x hx => e5 x (by rw [← hl]; exact List.mem_append_right _ hx))⟩
theorem CT.congr (hC : CT B h A S) (e1 : fI h' 26 (A 34) = fI h 26 (A 34)) (e2 : ∀ a ∈ B.2, fR h' 7 a = fR h 7 a ∧ fI h' 4 a = fI h 4 a) : CT B h' A S := by
  obtain ⟨n, hn, c1, c2⟩ := hC
  exact ⟨n, hn, by rw [e1]; exact c1, fun a ha => by rw [(e2 a ha).1, (e2 a ha).2]; exact c2 a ha⟩
end CONG
/-! Roots. -/
section CROOT
variable {B : Nat × List Nat} {h : Hp} {A : Nat → Nat} {S : St} {Q : Option AV ⊕ String → Hp → Prop}
theorem CI.setRoot (hC : CI B h A S) (hW : WF S) {i : Nat} (hi : i < nt S) (o : Option Nat) : CI B (qR h (A 29) i o) A (wR S i o) := by
  obtain ⟨c1, c2, c3, c4, c5⟩ := hC
  refine ⟨c1, ⟨fun j hj => ?_, c2.2.1, scA.congr (h := h) (h' := qR h (A 29) i o) rfl c2.2.2.1, c2.2.2.2⟩, ?_, c4, c5⟩
  · rw [aR_qR]
    show _ = if j < nt S then up1 (rt S) i o j else none
    unfold up1
    by_cases e : j = i
    · subst e; simp [hi]
    · simp [e]; exact c2.1 j hj
  · exact CO.congr (S := S) c3 hW (eqT.of rfl rfl) (fun _ _ _ _ => rfl) (fun _ _ _ _ => rfl) (fun a ha k r hr => aRx _ _ _ _ _ (fun e => by
      obtain ⟨-, r', n, d1, d2, d3, d4, -⟩ := (c3.1 a ha).2.2.2.1 k
      rw [hr] at d1; cases d1; exact d4 e)) (fun _ _ _ _ _ => rfl)
theorem WF.setRoot (hW : WF S) {i : Nat} {o : Option Nat} (ho : ∀ b, o = some b → b ∈ ob S) : WF (wR S i o) := by
  obtain ⟨w1, w2, w3, w4, w5, w6, w7, w8, w9, w10, w11⟩ := hW
  refine ⟨w1, w2, w3, w4, w5, w6, w7, w8, w9, w10, fun j hj b hb => ?_⟩
  have hb : up1 (rt S) i o j = some b := hb
  unfold up1 at hb
  split at hb
  · exact ho b hb
  · exact w11 j hj b hb
def one (o : Option Nat) : Int32 := if o = none then 0 else 1
theorem c_one {o : Option Nat} (h1 : Q (.inl (some (vi (one o)))) h) : vc_X6_oneIfObject o h Q := by
  unfold one at h1
  refine ⟨fun a e => ?_, fun e => ?_⟩
  · rw [e] at h1; exact h1
  · rw [e] at h1; exact h1
theorem c_putRoot (hC : CI B h A S) (hW : WF S) {i : Nat} (hi : i < nt S) {o : Option Nat} (ho : ∀ b, o = some b → b ∈ ob S) (h1 : ∀ h', CI B h' A (wR S i o) → FC A h h' → Q (.inl (some (vi (one o)))) h') : vc_X6_putRoot (A 0) (nI i) o h Q := by
  obtain ⟨⟨f1, f2, f3, f4, f5, f6, f7⟩, ⟨g1, g2, g3, g4, g5, g6⟩, ⟨l1, l2, l3⟩, -⟩ := hC.1
  have hn := hW.nt
  refine ⟨f1, A 29, f2, g1, by rw [l1]; exact vin (by omega) (by decide), fun b hb => hC.thg hW (ho b hb), c_one ?_⟩
  rw [nI_clamp (by omega)]
  exact h1 _ (hC.setRoot hW hi o) (FC.rfl'.qR)
/-- copy -/
theorem c_copy (hC : CI B h A S) (hW : WF S) {x1 x2 : Int32} (h1 : ¬ inR S x1 ∨ ¬ inN S x2 → Q (.inr xA) h) (h2 : ∀ i, i < nt S → x1 = nI i → inN S x2 → ∀ h', CI B h' A (wR S i (rtN S x2)) → FC A h h' → Q (.inl (some (vi (one (rtN S x2))))) h') : vc_X6_copy (A 0) x1 x2 h Q := by
  have f1 := hC.1.1.1
  refine ⟨f1, c_root hC hW (fun i hi e => ⟨f1, c_rootOrNone hC hW (fun hx => ⟨f1, c_atOrNone hC hW hx ?_⟩) (fun q => h1 (Or.inr q))⟩) (fun q => h1 (Or.inl q))⟩
  subst e
  exact ⟨f1, c_putRoot hC hW hi (fun b hb => rtN_ob hW hx hb) (h2 i hi rfl hx)⟩
/-- kind -/
theorem c_kind (hC : CI B h A S) (hW : WF S) {x1 : Int32} (h1 : ¬ inR S x1 → Q (.inr xA) h) (h2 : ∀ i, i < nt S → x1 = nI i → Q (.inl (some (vi (match rt S i with | none => -1 | some a => kd S a)))) h) : vc_X6_kind (A 0) x1 h Q := by
  obtain ⟨⟨f1, f2, f3, f4, f5, f6, f7⟩, ⟨g1, g2, g3, g4, g5, g6⟩, ⟨l1, l2, l3⟩, -⟩ := hC.1
  have hn := hW.nt
  refine ⟨f1, c_root hC hW (fun i hi e => ?_) h1⟩
  subst e
  refine ⟨f1, A 29, f2, g1, by rw [l1]; exact vin (by omega) (by decide), ?_⟩
  rw [nI_clamp (by omega), hC.root hW hi]
  have h3 := h2 i hi rfl
  refine ⟨fun a e => ?_, fun e => ?_⟩
  · rw [e] at h3
    have ha := hW.2.2.2.2.2.2.2.2.2.2 i hi a e
    refine ⟨hC.thg hW ha, ?_⟩
    rw [(hC.2.2.1.1 a ha).1]
    exact h3
  · rw [e] at h3; exact h3
/-- same -/
theorem c_same (hC : CI B h A S) (hW : WF S) {x1 x2 : Int32} (h1 : ¬ inR S x1 ∨ ¬ inR S x2 → Q (.inr xA) h) (h2 : ∀ i j, i < nt S → x1 = nI i → j < nt S → x2 = nI j → Q (.inl (some (vi (if rt S i = rt S j then 1 else 0)))) h) : vc_X6_same (A 0) x1 x2 h Q := by
  obtain ⟨⟨f1, f2, f3, f4, f5, f6, f7⟩, ⟨g1, g2, g3, g4, g5, g6⟩, ⟨l1, l2, l3⟩, -⟩ := hC.1
  have hn := hW.nt
  unfold vc_X6_same
  refine ⟨f1, c_root hC hW (fun i hi e => ⟨f1, c_root hC hW (fun j hj e2 => ?_) (fun q => h1 (Or.inr q))⟩) (fun q => h1 (Or.inl q))⟩
  subst e; subst e2
  refine ⟨f1, A 29, f2, g1, by rw [l1]; exact vin (by omega) (by decide), by rw [l1]; exact vin (by omega) (by decide), ?_⟩
  rw [nI_clamp (by omega), nI_clamp (by omega), hC.root hW hi, hC.root hW hj]
  have h3 := h2 i j hi rfl hj rfl
  exact ⟨fun q => by rw [if_neg q] at h3; exact h3, fun q => by rw [if_pos q] at h3; exact h3⟩
end CROOT
