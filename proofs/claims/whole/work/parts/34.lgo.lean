/-! Letting go. -/
def stS (S S' : St) : Prop := ob S' = ob S ∧ fI S'.1 0 = fI S.1 0 ∧ fI S'.1 2 = fI S.1 2 ∧ tg S'.1 = tg S.1 ∧ ln S'.1 = ln S.1 ∧ aR S'.1 = aR S.1 ∧ aL S'.1 = aL S.1 ∧ fR S'.1 15 = fR S.1 15 ∧ rt S' = rt S ∧ nt S' = nt S ∧ sc S' = sc S ∧ rm S' = rm S ∧ ∀ k, k ≠ 4 → k ≠ 5 → cn S' k = cn S k
theorem stS.rfl' {S : St} : stS S S := ⟨rfl, rfl, rfl, rfl, rfl, rfl, rfl, rfl, rfl, rfl, rfl, rfl, fun _ _ _ => rfl⟩
theorem stS.trans {S S1 S2 : St} (a : stS S S1) (b : stS S1 S2) : stS S S2 := by
  obtain ⟨a1, a2, a3, a4, a5, a6, a7, a8, a9, a10, a11, a12, a13⟩ := a
  obtain ⟨b1, b2, b3, b4, b5, b6, b7, b8, b9, b10, b11, b12, b13⟩ := b
  exact ⟨b1.trans a1, b2.trans a2, b3.trans a3, b4.trans a4, b5.trans a5, b6.trans a6, b7.trans a7, b8.trans a8, b9.trans a9, b10.trans a10, b11.trans a11, b12.trans a12, fun k q1 q2 => (b13 k q1 q2).trans (a13 k q1 q2)⟩
theorem stScl {S S1 : St} (a : stS S S1) : cl S1 = cl S := by
  funext x; show clN (fI S1.1 0 x) (tg S1.1 x + ln S1.1 x) = _; rw [a.2.1, a.2.2.2.1, a.2.2.2.2.1]; rfl
theorem stS_frg (S : St) (a : Nat) : stS S (frg S a) :=
  ⟨rfl, rfl, rfl, rfl, rfl, rfl, rfl, by show fR (pR (pR S.1 13 a none) 14 a none) 15 = _; rw [fRx _ _ _ _ _ (by decide), fRx _ _ _ _ _ (by decide)], rfl, rfl, rfl, rfl, fun _ _ _ => rfl⟩
theorem stS_wC (S : St) (k : Nat) (x : Int32) (hk : k = 4 ∨ k = 5) : stS S (wC S k x) := ⟨rfl, rfl, rfl, rfl, rfl, rfl, rfl, rfl, rfl, rfl, rfl, rfl, fun j q1 q2 => up1_ne (by omega)⟩
theorem stS_tell (S : St) (a : Nat) : stS S (tell S a) := by
  unfold tell
  cases li S a with
  | none => exact stS.rfl'
  | some q =>
    simp only; split
    · refine stS.trans (S1 := wQ (wH S (pI S.1 16 a 1)) q (qu S q ++ [a])) ⟨rfl, ?_, ?_, rfl, rfl, rfl, rfl, rfl, rfl, rfl, rfl, rfl, fun _ _ _ => rfl⟩ (stS_wC _ _ _ (Or.inl rfl))
      · exact fIx _ _ _ _ _ (by decide)
      · exact fIx _ _ _ _ _ (by decide)
    · exact stS.rfl'
theorem stS_lgo (S : St) (a : Nat) : stS S (lgo S a) := ((stS_frg S a).trans (stS_wC _ 5 _ (Or.inr rfl))).trans (stS_tell _ a)
/-- what letting go of a does -/
theorem tell_re (S : St) (a : Nat) : fR (tell S a).1 = fR S.1 := by
  unfold tell
  cases li S a with
  | none => rfl
  | some q => simp only; split <;> rfl
theorem lgo_re (S : St) (a x : Nat) : re (lgo S a) x = if x = a then none else re S x := by
  show fR (tell (wC (frg S a) 5 (cn S 5 + 1)) a).1 13 x = _
  rw [tell_re]
  show fR (pR (pR S.1 13 a none) 14 a none) 13 x = _
  rw [fR_pR, if_neg (by simp), fR_pR]; simp
theorem lgo_va (S : St) (a x : Nat) : va (lgo S a) x = if x = a then none else va S x := by
  show fR (tell (wC (frg S a) 5 (cn S 5 + 1)) a).1 14 x = _
  rw [tell_re]
  show fR (pR (pR S.1 13 a none) 14 a none) 14 x = _
  rw [fR_pR, fR_pR]; simp
theorem tell_cm (S : St) (a x : Nat) (h : cm (tell S a) x = 0) : cm S x = 0 := by
  unfold tell at h
  cases hl : li S a with
  | none => rw [hl] at h; exact h
  | some q =>
    rw [hl] at h
    simp only at h
    split at h
    · have h : fI (pI S.1 16 a 1) 16 x = 0 := h
      rw [fI_pI] at h
      split at h
      · exact absurd h (by decide)
      · exact h
    · exact h
theorem lgo_cm (S : St) (a x : Nat) (h : cm (lgo S a) x = 0) : cm S x = 0 := tell_cm (wC (frg S a) 5 (cn S 5 + 1)) a x h
theorem lgo_qu (S : St) (a x : Nat) {b : Nat} (h : b ∈ qu (lgo S a) x) : b ∈ qu S x ∨ b = a := by
  have h : b ∈ qu (tell (wC (frg S a) 5 (cn S 5 + 1)) a) x := h
  unfold tell at h
  cases hl : li (wC (frg S a) 5 (cn S 5 + 1)) a with
  | none => rw [hl] at h; exact Or.inl h
  | some q =>
    rw [hl] at h
    simp only at h
    split at h
    · have h : b ∈ up1 (qu S) q (qu S q ++ [a]) x := h
      unfold up1 at h
      split at h
      · rename_i e; subst e
        rcases List.mem_append.mp h with z | z
        · exact Or.inl z
        · exact Or.inr (List.mem_singleton.mp z)
      · exact Or.inl h
    · exact Or.inl h
theorem WFlgo {S : St} (hW : WF S) {a : Nat} (ha : a ∈ ob S) (hl : ls (kd S a)) : WF (lgo S a) := WFtell ((WFfrg hW a).setC _ (by decide) (by decide) (by decide)) ha hl
theorem fold_lgo {G : List Nat} : ∀ {S : St}, WF S → (∀ a ∈ G, a ∈ ob S ∧ ls (kd S a)) → WF (G.foldl lgo S) ∧ stS S (G.foldl lgo S) ∧ (∀ x, re (G.foldl lgo S) x = if x ∈ G then none else re S x) ∧ (∀ x, va (G.foldl lgo S) x = if x ∈ G then none else va S x) ∧ (∀ x, cm (G.foldl lgo S) x = 0 → cm S x = 0) ∧ ∀ x b, b ∈ qu (G.foldl lgo S) x → b ∈ qu S x ∨ b ∈ G := by
  induction G with
  | nil => intro S hW _; exact ⟨hW, stS.rfl', fun x => by simp, fun x => by simp, fun _ q => q, fun _ _ q => Or.inl q⟩
  | cons a G ih =>
    intro S hW hG
    have ha := hG a List.mem_cons_self
    have h2 := stS_lgo S a
    obtain ⟨i1, i2, i3, i4, i5, i6⟩ := ih (S := lgo S a) (WFlgo hW ha.1 ha.2) (fun b hb => by
      have := hG b (List.mem_cons_of_mem _ hb)
      rw [h2.1]; refine ⟨this.1, ?_⟩
      show ls (fI (lgo S a).1 0 b)
      rw [h2.2.1]; exact this.2)
    refine ⟨i1, h2.trans i2, fun x => ?_, fun x => ?_, fun x q => lgo_cm S a x (i5 x q), fun x b hb => ?_⟩
    · show re (G.foldl lgo (lgo S a)) x = _
      rw [i3, lgo_re]
      by_cases e : x ∈ G
      · simp [e]
      · simp [e]
    · show va (G.foldl lgo (lgo S a)) x = _
      rw [i4, lgo_va]
      by_cases e : x ∈ G
      · simp [e]
      · simp [e]
    · rcases i6 x b hb with z | z
      · rcases lgo_qu S a x z with y | y
        · exact Or.inl y
        · exact Or.inr (by rw [y]; exact List.mem_cons_self)
      · exact Or.inr (List.mem_cons_of_mem _ z)
noncomputable section LGO
def gp (S : St) (sf : Int32) (a : Nat) : Bool := by classical exact decide (ls (kd S a) ∧ Rch S sf a ∧ ∃ r, re S a = some r ∧ ¬ Rch S sf r)
theorem gp_iff {S : St} {sf : Int32} {a : Nat} : gp S sf a = true ↔ ls (kd S a) ∧ Rch S sf a ∧ ∃ r, re S a = some r ∧ ¬ Rch S sf r := by unfold gp; simp
theorem gls_eq (S : St) (sf : Int32) : gls S sf = (ob S).filter (gp S sf) := rfl
end LGO
