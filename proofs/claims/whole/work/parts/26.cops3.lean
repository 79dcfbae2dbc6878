/-! Coming to a queue, polling, hash, scopes. -/
section COP3
variable {B : Nat × List Nat} {h : Hp} {A : Nat → Nat} {S : St} {Q : Option AV ⊕ String → Hp → Prop}
theorem up1_same {α : Type} (f : Nat → α) (a : Nat) (x : α) : up1 f a x a = x := if_pos rfl
theorem up1_ne {α : Type} {f : Nat → α} {a b : Nat} {x : α} (hb : b ≠ a) : up1 f a x b = f b := if_neg hb
/-- 1 if told, else 0 -/
noncomputable def toldN (S : St) (a : Nat) : Int32 := by classical exact if tells S a then 1 else 0
theorem c_tell (hC : CI B h A S) (hW : WF S) {a : Nat} (ha : a ∈ ob S) (hl : ls (kd S a)) (h1 : ∀ h', CI B h' A (tell S a) → FC A h h' → FL h h' → Q (.inl (some (vi (toldN S a)))) h') : vc_X6_tellQueue (A 0) (some a) h Q := by
  have wa := (hW.2.1 a ha).2.2.2.2.2.2.2.1 hl
  obtain ⟨t, d1, d2, d3, d4, -⟩ := (hC.2.2.1.1 a ha).2.2.2.2.2 hl
  intro P hP
  refine ⟨a, rfl, t, fun e => hP h ?_, fun q hq => ?_⟩
  · rw [d3] at e
    have e1 : tell S a = S := by unfold tell; rw [e]
    have e2 : toldN S a = 0 := by unfold toldN; rw [if_neg]; exact fun q => q.1 e
    have := h1 h (by rw [e1]; exact hC) FC.rfl' FL.rfl'
    rw [e2] at this; exact this
  · rw [d3] at hq
    refine ⟨fun e => ?_, fun e => hP h ?_⟩
    · rw [d4] at e
      obtain ⟨hqo, hqk⟩ := wa.2.2.2 e q hq
      obtain ⟨tq, g1, g2, g3, g4⟩ := (hC.2.2.1.1 q hqo).2.2.2.2.1 hqk
      have haq : q ≠ a := fun e => by rw [e] at hqk; rw [hqk] at hl; exact no3_ls hl
      obtain ⟨⟨f1, f2, f3, f4, f5, f6, f7⟩, ⟨k1, k2, k3, k4, k5, k6⟩, ⟨l1, l2, l3⟩, -⟩ := hC.1
      have hv : vp_in (4 : Int32) 10 := by unfold vp_in; decide
      have e1 : tell S a = wC (wQ (wH S (pI S.1 16 a 1)) q (qu S q ++ [a])) 4 (cn S 4 + 1) := by unfold tell; rw [hq]; simp only; rw [if_pos e]
      have e2 : toldN S a = 1 := by unfold toldN; rw [if_pos]; exact ⟨by rw [hq]; simp, e⟩
      rw [e1, e2] at h1
      -- behind the queue's add
      have key : ∀ h1' : Hp, ((∃ b, (qu S q).getLast? = some b ∧ h1' = pR (pI h 16 a 1) 17 b (some a)) ∨ ((qu S q).getLast? = none ∧ h1' = pR (pI h 16 a 1) 10 q (some a))) →
          FC A h h1' → FL h h1' → tg h1' = tg h → fI h1' 12 q = nI (qu S q).length → tg h1' q = 3 ∧ qv (fun h6 => tg h6 (A 0) = 6 ∧ ∃ a10 : Nat, fR h6 31 (A 0) = some a10 ∧ tg h6 a10 = 8 ∧ vp_in (4 : Int32) (ln h6 a10) ∧ vp_in (4 : Int32) (ln h6 a10) ∧ Q (.inl (some (vi (1 : Int32)))) (qI h6 a10 4 ((aI h6 a10 4) + (1 : Int32)))) qn (.inl none) (pI (pR h1' 11 q (some a)) 12 q ((fI h1' 12 q) + 1)) := by
        intro h1' hh hF hL ht h12
        refine ⟨by rw [ht]; exact tq, ?_⟩
        rw [h12]
        have hC' := hC.come hW ha hl hq e hh
        have hF' : FC A h (pI (pR h1' 11 q (some a)) 12 q (nI (qu S q).length + 1)) := (hF.pR (by decide)).pI (by decide)
        have hL' : FL h (pI (pR h1' 11 q (some a)) 12 q (nI (qu S q).length + 1)) := (hL.pR (by decide)).pI (by decide)
        generalize pI (pR h1' 11 q (some a)) 12 q (nI (qu S q).length + 1) = h6 at hC' hF' hL'
        obtain ⟨⟨f1, f2, f3, f4, f5, f6, f7⟩, ⟨k1, k2, k3, k4, k5, k6⟩, ⟨l1, l2, l3⟩, -⟩ := hC'.1
        refine ⟨f1, A 31, f4, k3, by rw [l3]; exact hv, by rw [l3]; exact hv, ?_⟩
        rw [hC'.2.1.2.2.2.1 4 (by decide)]
        exact h1 _ (hC'.setC _) (hF'.qI (fun k hk => (hC'.1.2.2.2.2.2 k hk).2.2)) hL'.qI
      refine ⟨tq, ?_⟩
      intro P2 hP2
      refine ⟨tq, fun b hb => ?_, fun hb => ?_⟩
      · have hb : fR h 11 q = some b := hb
        rw [g2] at hb
        have hbm := (((hW.2.1 q hqo).2.2.2.2.2.2.2.2 hqk).2.1 b (List.mem_of_getLast? hb))
        refine ⟨((hC.2.2.1.1 b hbm.1).2.2.2.2.2 hbm.2.1).1, hP2 _ ?_⟩
        exact key _ (Or.inl ⟨b, hb, rfl⟩) ((FC.rfl'.pI (by decide)).pR (by decide)) ((FL.rfl'.pI (by decide)).pR (by decide)) rfl (by rw [fI_pR, fI_pI, if_neg (by simp)]; exact g3)
      · have hb : fR h 11 q = none := hb
        rw [g2] at hb
        refine hP2 _ ?_
        exact key _ (Or.inr ⟨hb, rfl⟩) ((FC.rfl'.pI (by decide)).pR (by decide)) ((FL.rfl'.pI (by decide)).pR (by decide)) rfl (by rw [fI_pR, fI_pI, if_neg (by simp)]; exact g3)
    · rw [d4] at e
      have e1 : tell S a = S := by unfold tell; rw [hq]; simp only; rw [if_neg e]
      have e2 : toldN S a = 0 := by unfold toldN; rw [if_neg]; exact fun q => e q.2
      have := h1 h (by rw [e1]; exact hC) FC.rfl' FL.rfl'
      rw [e2] at this; exact this
/-! WF of the abstract steps. -/
theorem us_wC (S : St) (k : Nat) (x : Int32) : us (wC S k x) = us S := rfl
theorem WF.setC (hW : WF S) {k : Nat} (x : Int32) (h0 : k ≠ 0) (h1 : k ≠ 1) (h7 : k ≠ 7) : WF (wC S k x) := by
  obtain ⟨w1, w2, w3, w4, w5, w6, w7, w8, w9, w10, w11⟩ := hW
  exact ⟨w1, w2, w3, w4, w5, by show up1 (cn S) k x 0 = _; rw [up1_ne (Ne.symm h0)]; exact w6, by show up1 (cn S) k x 1 = _; rw [up1_ne (Ne.symm h1)]; exact w7, by show up1 (cn S) k x 7 = _; rw [up1_ne (Ne.symm h7)]; exact w8, w9, w10, w11⟩
theorem WFfrg (hW : WF S) (a : Nat) : WF (frg S a) := by
  obtain ⟨w1, w2, w3⟩ := hW
  refine ⟨w1, fun b hb => ?_, w3⟩
  obtain ⟨v1, v2, v3, v4, v5, v6, v7, v8, v9⟩ := w2 b hb
  refine ⟨v1, v2, v3, v4, v5, v6, v7, fun k => ?_, v9⟩
  obtain ⟨u1, u2, u3, u4⟩ := v8 k
  refine ⟨fun c hc => ?_, fun c hc => ?_, u3, fun hc q hq => ?_⟩
  · have hc : fR (pR (pR S.1 13 a none) 14 a none) 13 b = some c := hc
    rw [fR_pR, if_neg (by simp), fR_pR] at hc
    split at hc
    · cases hc
    · exact u1 c hc
  · have hc : fR (pR (pR S.1 13 a none) 14 a none) 14 b = some c := hc
    rw [fR_pR, fR_pR] at hc
    split at hc
    · cases hc
    · rename_i e
      simp at e
      simp [e] at hc
      obtain ⟨x1, x2, x3⟩ := u2 c hc
      refine ⟨x1, x2, ?_⟩
      show fR (pR (pR S.1 13 a none) 14 a none) 13 b ≠ none
      rw [fR_pR, if_neg (by simp), fR_pR, if_neg (by simp [e])]
      exact x3
  · have hq : fR (pR (pR S.1 13 a none) 14 a none) 15 b = some q := hq
    rw [fR_pR, if_neg (by simp), fR_pR, if_neg (by simp)] at hq
    exact u4 hc q hq
theorem WFtell (hW : WF S) {a : Nat} (ha : a ∈ ob S) (hl : ls (kd S a)) : WF (tell S a) := by
  unfold tell
  cases hq : li S a with
  | none => exact hW
  | some q =>
    simp only
    by_cases hc : cm S a = 0
    · rw [if_pos hc]
      refine WF.setC ?_ _ (by decide) (by decide) (by decide)
      have wa := (hW.2.1 a ha).2.2.2.2.2.2.2.1 hl
      obtain ⟨hqo, hqk⟩ := wa.2.2.2 hc q hq
      have hna : ∀ x ∈ ob S, kd S x = 3 → a ∉ qu S x := fun x hx kx hm => by
        have := (((hW.2.1 x hx).2.2.2.2.2.2.2.2 kx).2.1 a hm).2.2
        rw [hc] at this; exact absurd this (by decide)
      have ek : ∀ x, fI (pI S.1 16 a 1) 0 x = kd S x := fun x => by rw [fI_pI, if_neg (by simp)]
      have em : ∀ x, fI (pI S.1 16 a 1) 16 x = if x = a then 1 else cm S x := fun x => by rw [fI_pI]; simp
      obtain ⟨w1, w2, w3, w4, w5, w6, w7, w8, w9, w10, w11⟩ := hW
      have eu : us (wQ (wH S (pI S.1 16 a 1)) q (qu S q ++ [a])) = us S := by
        show ((ob S).map (fun x => clN (fI (pI S.1 16 a 1) 0 x) _)).sum = _
        simp only [ek]; rfl
      refine ⟨w1, fun b hb => ?_, by rw [eu]; exact w3, w4, w5, by rw [eu]; exact w6, w7, w8, w9, w10, w11⟩
      obtain ⟨v1, v2, v3, v4, v5, v6, v7, v8, v9⟩ := w2 b hb
      refine ⟨?_, ?_, ?_, ?_, v5, v6, v7, fun k => ?_, fun k => ?_⟩
      · show hd (fI (pI S.1 16 a 1) 0 b) ∨ fI (pI S.1 16 a 1) 0 b = 3 ∨ ls (fI (pI S.1 16 a 1) 0 b)
        rw [ek]; exact v1
      · show ¬ hd (fI (pI S.1 16 a 1) 0 b) → _
        rw [ek]; exact v2
      · show fI (pI S.1 16 a 1) 0 b = 1 → _
        rw [ek]; exact v3
      · show fI (pI S.1 16 a 1) 0 b = 2 → _
        rw [ek]; exact v4
      · have k : ls (fI (pI S.1 16 a 1) 0 b) := k
        rw [ek] at k
        obtain ⟨u1, u2, u3, u4⟩ := v8 k
        refine ⟨u1, fun c hc => ?_, ?_, fun e => ?_⟩
        · obtain ⟨x1, x2, x3⟩ := u2 c hc
          exact ⟨x1, by show fI (pI S.1 16 a 1) 0 b = 7; rw [ek]; exact x2, x3⟩
        · show fI (pI S.1 16 a 1) 16 b = 0 ∨ fI (pI S.1 16 a 1) 16 b = 1
          rw [em]; split
          · exact Or.inr rfl
          · exact u3
        · have e : fI (pI S.1 16 a 1) 16 b = 0 := e
          rw [em] at e
          split at e
          · exact absurd e (by decide)
          · intro q2 hq2
            obtain ⟨x1, x2⟩ := u4 e q2 hq2
            exact ⟨x1, by show fI (pI S.1 16 a 1) 0 q2 = 3; rw [ek]; exact x2⟩
      · have k : fI (pI S.1 16 a 1) 0 b = 3 := k
        rw [ek] at k
        obtain ⟨u1, u2, u3⟩ := v9 k
        have mem : ∀ x c, c ∈ up1 (qu S) q (qu S q ++ [a]) x → c ∈ qu S x ∨ (x = q ∧ c = a) := fun x c hc => by
          unfold up1 at hc
          split at hc
          · rename_i e; subst e
            rcases List.mem_append.mp hc with y | y
            · exact Or.inl y
            · exact Or.inr ⟨rfl, List.mem_singleton.mp y⟩
          · exact Or.inl hc
        refine ⟨?_, fun c hcm => ?_, fun x hx kx hne c hcm hcx => ?_⟩
        · show (up1 (qu S) q (qu S q ++ [a]) b).Nodup
          unfold up1
          split
          · rename_i e; subst e
            rw [List.nodup_append]
            exact ⟨u1, List.nodup_cons.mpr ⟨List.not_mem_nil, List.nodup_nil⟩, fun y hy z hz e => hna b hb k (by rw [List.mem_singleton.mp hz] at e; rw [← e]; exact hy)⟩
          · exact u1
        · show c ∈ ob S ∧ ls (fI (pI S.1 16 a 1) 0 c) ∧ fI (pI S.1 16 a 1) 16 c = 1
          rw [ek, em]
          rcases mem b c hcm with y | ⟨-, rfl⟩
          · obtain ⟨x1, x2, x3⟩ := u2 c y
            refine ⟨x1, x2, ?_⟩
            split
            · rfl
            · exact x3
          · exact ⟨ha, hl, by simp⟩
        · have kx : fI (pI S.1 16 a 1) 0 x = 3 := kx
          rw [ek] at kx
          rcases mem b c hcm with y | ⟨e1, e2⟩
          · rcases mem x c hcx with y2 | ⟨e3, e4⟩
            · exact u3 x hx kx hne c y y2
            · rw [e4] at y; exact hna b hb k y
          · rcases mem x c hcx with y2 | ⟨e3, e4⟩
            · rw [e2] at y2; exact hna x hx kx y2
            · exact hne (e3.trans e1.symm)
    · rw [if_neg hc]; exact hW
/-- clear -/
theorem c_clear (hC : CI B h A S) (hW : WF S) {x1 x2 : Int32} (h1 : ¬ inR S x1 → Q (.inr xA) h) (h2 : ∀ i, i < nt S → x1 = nI i → (∀ a, rt S i = some a → ¬ ls (kd S a)) → Q (.inr xS) h)
    (h3 : ∀ i a, i < nt S → x1 = nI i → rt S i = some a → ls (kd S a) → x2 = 0 → ∀ h', CI B h' A (frg S a) → FC A h h' → Q (.inl (some (vi 0))) h')
    (h4 : ∀ i a, i < nt S → x1 = nI i → rt S i = some a → ls (kd S a) → ¬ x2 = 0 → ∀ h', CI B h' A (tell (frg S a) a) → FC A h h' → Q (.inl (some (vi (toldN (frg S a) a)))) h') : vc_X6_clear (A 0) x1 x2 h Q := by
  have f1 := hC.1.1.1
  refine ⟨f1, c_root hC hW (fun i hi e => ⟨f1, ?_⟩) h1⟩
  subst e
  refine c_looseAt hC hW hi (fun a ha k => ?_) (h2 i hi rfl)
  have hm := hW.2.2.2.2.2.2.2.2.2.2 i hi a ha
  have t := ((hC.2.2.1.1 a hm).2.2.2.2.2 k).1
  refine ⟨a, rfl, t, c_forget hC t (fun h9 hC9 hF9 _ => ⟨fun e => h3 i a hi rfl ha k e h9 hC9 hF9, fun e => ⟨hC9.1.1.1, c_tell hC9 (WFfrg hW a) hm k (fun h10 hC10 hF10 _ => h4 i a hi rfl ha k e h10 hC10 (hF9.trans hF10))⟩⟩)⟩
end COP3
