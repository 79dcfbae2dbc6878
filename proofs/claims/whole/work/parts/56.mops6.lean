/-! The model: clear, poll, scopes. -/
section MOP6
variable {g : Gh} {h : Hp} {A : Nat → Nat} {S : St} {Q : Option AV ⊕ String → Hp → Prop}
theorem m_comes (hM : MJ g h A S) (hW : WF S) {h0 : Hp} (hF : FM A h0 h) {c40 : Int32} (h40 : fI h 40 (A 40) = c40) {a : Nat} (ha : a ∈ ob S) (hl : ls (kd S a)) (h1 : ∀ h', MJ g h' A (tell S a) → FM A h0 h' → fI h' 40 (A 40) = c40 → (aI h' (A 53) = aI h (A 53) ∧ aI h' (A 54) = aI h (A 54)) → Q (.inl (some (vi (toldN S a)))) h') : vc_X7_comes (A 40) (nI (num g a)) h Q := by
  have wa := (hW.2.1 a ha).2.2.2.2.2.2.2.1 hl
  obtain ⟨o1, o2, o3, o4, o5⟩ := (hM.2.2.2.2 a ha).2.1 hl
  have hcl := hM.clamp ha
  intro P20 P77 q20 q77
  refine ⟨hM.1.1, A 50, hM.1.r k50, hM.1.t k50 rfl, hM.ix ha k50 (by decide), ?_⟩
  rw [hcl]
  -- not told
  have no : tell S a = S → toldN S a = 0 → P20 h := fun e1 e2 => by
    refine q20 _ ?_
    have := h1 h (by rw [e1]; exact hM) hF h40 ⟨rfl, rfl⟩
    rw [e2] at this; exact this
  by_cases hc : cm S a = 0
  · rw [o3 hc]
    cases hq : li S a with
    | none =>
      refine ⟨fun _ => no (by unfold tell; rw [hq]) (by unfold toldN; rw [if_neg]; exact fun z => z.1 hq), fun z => absurd rfl z⟩
    | some q =>
      obtain ⟨hqo, hqk⟩ := wa.2.2.2 hc q hq
      have wq := (hW.2.1 q hqo).2.2.2.2.2.2.2.2 hqk
      obtain ⟨p1, p2, p3, p4⟩ := (hM.2.2.2.2 q hqo).2.2.1 hqk
      have hclq := hM.clamp hqo
      have e1 : tell S a = wC (wQ (wH S (pI S.1 16 a 1)) q (qu S q ++ [a])) 4 (cn S 4 + 1) := by unfold tell; rw [hq]; simp only; rw [if_pos hc]
      have e2 : toldN S a = 1 := by unfold toldN; rw [if_pos]; exact ⟨by rw [hq]; simp, hc⟩
      rw [e1, e2] at h1
      have g68 : fI h 68 (A 40) = cn S 4 := hM.2.1.2.2.2.2.2.2.2.2.2.2.1
      have m1 := hM.1
      have hlast : ∀ b, (qu S q).getLast? = some b → b ∈ ob S := fun b hb => (wq.2.1 b (List.mem_of_getLast? hb)).1
      have hob : ∀ b, (qu S q).head? = some b → b ∈ ob S := fun b hb => (wq.2.1 b (List.mem_of_mem_head? hb)).1
      refine ⟨fun z => absurd z (hM.nz hqo), fun _ => ⟨A 52, m1.r k52, m1.t k52 rfl, hM.ix ha k52 (by decide), ?_⟩⟩
      rw [o4]
      refine ⟨fun _ => ?_, fun z => absurd hc z⟩
      show vp_in (nI (num g a)) (ln h (A 52)) ∧ ∃ a11 : Nat, fR h 47 (A 40) = some a11 ∧ tg h a11 = 8 ∧ vp_in (nI (num g a)) (ln h a11) ∧ ∃ a15 : Nat, fR h 48 (A 40) = some a15 ∧ tg h a15 = 8 ∧ vp_in (nI (num g q)) (ln h a15) ∧ ((¬ aI (qI (pI (qI h (A 52) (num g a) 1) 68 (A 40) (fI h 68 (A 40) + 1)) a11 (num g a) 0) a15 ((nI (num g q)).toNatClampNeg) = 0 → ∃ a19 : Nat, fR h 49 (A 40) = some a19 ∧ tg h a19 = 8 ∧ vp_in (nI (num g q)) (ln h a19) ∧ vp_in (aI (qI (pI (qI h (A 52) (num g a) 1) 68 (A 40) (fI h 68 (A 40) + 1)) a11 (num g a) 0) a19 ((nI (num g q)).toNatClampNeg)) (ln h a11) ∧ P77 (nI (num g q)) (qI (qI (pI (qI h (A 52) (num g a) 1) 68 (A 40) (fI h 68 (A 40) + 1)) a11 (num g a) 0) a11 ((aI (qI (pI (qI h (A 52) (num g a) 1) 68 (A 40) (fI h 68 (A 40) + 1)) a11 (num g a) 0) a19 ((nI (num g q)).toNatClampNeg)).toNatClampNeg) (nI (num g a)))) ∧ (aI (qI (pI (qI h (A 52) (num g a) 1) 68 (A 40) (fI h 68 (A 40) + 1)) a11 (num g a) 0) a15 ((nI (num g q)).toNatClampNeg) = 0 → vp_in (nI (num g q)) (ln h a15) ∧ P77 (nI (num g q)) (qI (qI (pI (qI h (A 52) (num g a) 1) 68 (A 40) (fI h 68 (A 40) + 1)) a11 (num g a) 0) a15 ((nI (num g q)).toNatClampNeg) (nI (num g a)))))
      rw [hclq, g68]
      refine ⟨hM.ix ha k52 (by decide), A 47, m1.r k47, m1.t k47 rfl, hM.ix ha k47 (by decide), A 48, m1.r k48, m1.t k48 rfl, hM.ix hqo k48 (by decide), ?_⟩
      have r48 : aI (qI (pI (qI h (A 52) (num g a) 1) 68 (A 40) (cn S 4 + 1)) (A 47) (num g a) 0) (A 48) (num g q) = enc g (qu S q).head? := by
        rw [aIx _ _ _ _ _ (m1.ne k48 k47 (by decide)), aI_pI, aIx _ _ _ _ _ (m1.ne k48 k52 (by decide))]; exact p1
      have r49 : aI (qI (pI (qI h (A 52) (num g a) 1) 68 (A 40) (cn S 4 + 1)) (A 47) (num g a) 0) (A 49) (num g q) = enc g (qu S q).getLast? := by
        rw [aIx _ _ _ _ _ (m1.ne k49 k47 (by decide)), aI_pI, aIx _ _ _ _ _ (m1.ne k49 k52 (by decide))]; exact p2
      rw [r48]
      have key : ∀ h1' : Hp, ((∃ b, (qu S q).getLast? = some b ∧ h1' = qI (qI (pI (qI h (A 52) (num g a) 1) 68 (A 40) (cn S 4 + 1)) (A 47) (num g a) 0) (A 47) (num g b) (nI (num g a))) ∨ ((qu S q).getLast? = none ∧ h1' = qI (qI (pI (qI h (A 52) (num g a) 1) 68 (A 40) (cn S 4 + 1)) (A 47) (num g a) 0) (A 48) (num g q) (nI (num g a)))) → FM A h0 h1' → fI h1' 40 (A 40) = c40 → MF h1' A → aI h1' (A 51) (num g q) = nI (qu S q).length → (∀ k, k = 53 ∨ k = 54 → aI h1' (A k) = aI h (A k)) → P77 (nI (num g q)) h1' := by
        intro h1' hh hF' h40' m1' r51 hsc
        have C := hM.come hW ha hl hq hc hh
        have vq : ∀ k, mky k → k ≤ 55 → vp_in (nI (num g q)) (ln h1' (A k)) := fun k hk h55 => m1'.v hk (by have := hM.nm hqo; unfold mln; rw [if_pos h55]; omega)
        refine q77 _ _ ⟨m1'.1, A 49, m1'.r k49, m1'.t k49 rfl, vq 49 k49 (by decide), A 51, m1'.r k51, m1'.t k51 rfl, vq 51 k51 (by decide), vq 51 k51 (by decide), ?_⟩
        rw [hclq, aIx _ _ _ _ _ (m1.ne k51 k49 (by decide)), r51]
        exact h1 _ C ((hF'.qI k49).qI k51) h40' ⟨by rw [aIx _ _ _ _ _ (m1.ne k53 k51 (by decide)), aIx _ _ _ _ _ (m1.ne k53 k49 (by decide))]; exact hsc 53 (Or.inl rfl), by rw [aIx _ _ _ _ _ (m1.ne k54 k51 (by decide)), aIx _ _ _ _ _ (m1.ne k54 k49 (by decide))]; exact hsc 54 (Or.inr rfl)⟩
      have F1 : FM A h0 (qI (pI (qI h (A 52) (num g a) 1) 68 (A 40) (cn S 4 + 1)) (A 47) (num g a) 0) := ((hF.qI k52).pI (by decide)).qI k47
      have z40 : fI (qI (pI (qI h (A 52) (num g a) 1) 68 (A 40) (cn S 4 + 1)) (A 47) (num g a) 0) 40 (A 40) = c40 := by rw [fI_qI, fIx _ _ _ _ _ (by decide), fI_qI]; exact h40
      have r51 : aI (qI (pI (qI h (A 52) (num g a) 1) 68 (A 40) (cn S 4 + 1)) (A 47) (num g a) 0) (A 51) (num g q) = nI (qu S q).length := by
        rw [aIx _ _ _ _ _ (m1.ne k51 k47 (by decide)), aI_pI, aIx _ _ _ _ _ (m1.ne k51 k52 (by decide))]; exact p3
      refine ⟨fun z => ?_, fun z => ?_⟩
      · have hnz : (qu S q).head? ≠ none := fun e => z ((hM.encz hob).mpr e)
        cases hgl : (qu S q).getLast? with
        | none =>
          have : qu S q = [] := List.getLast?_eq_none_iff.mp hgl
          rw [this] at hnz; exact absurd rfl hnz
        | some b =>
          have hbo := hlast b hgl
          refine ⟨A 49, m1.r k49, m1.t k49 rfl, hM.ix hqo k49 (by decide), ?_⟩
          rw [r49, hgl]
          show vp_in (nI (num g b)) (ln h (A 47)) ∧ P77 (nI (num g q)) (qI (qI (pI (qI h (A 52) (num g a) 1) 68 (A 40) (cn S 4 + 1)) (A 47) (num g a) 0) (A 47) ((nI (num g b)).toNatClampNeg) (nI (num g a)))
          rw [hM.clamp hbo]
          exact ⟨hM.ix hbo k47 (by decide), key _ (Or.inl ⟨b, hgl, rfl⟩) (F1.qI k47) z40 m1 (by rw [aIx _ _ _ _ _ (m1.ne k51 k47 (by decide))]; exact r51) (fun kk hkk => by
            have hk' : mky kk := by rcases hkk with rfl | rfl; exact k53; exact k54
            rw [aIx _ _ _ _ _ (m1.ne hk' k47 (by omega)), aIx _ _ _ _ _ (m1.ne hk' k47 (by omega)), aI_pI, aIx _ _ _ _ _ (m1.ne hk' k52 (by omega))])⟩
      · have hh := (hM.encz hob).mp z
        have : qu S q = [] := List.head?_eq_none_iff.mp hh
        exact ⟨hM.ix hqo k48 (by decide), key _ (Or.inr ⟨by rw [this]; rfl, rfl⟩) (F1.qI k48) z40 m1 (by rw [aIx _ _ _ _ _ (m1.ne k51 k48 (by decide))]; exact r51) (fun kk hkk => by
            have hk' : mky kk := by rcases hkk with rfl | rfl; exact k53; exact k54
            rw [aIx _ _ _ _ _ (m1.ne hk' k48 (by omega)), aIx _ _ _ _ _ (m1.ne hk' k47 (by omega)), aI_pI, aIx _ _ _ _ _ (m1.ne hk' k52 (by omega))])⟩
  · have e1 : tell S a = S := by
      unfold tell; cases li S a with
      | none => rfl
      | some q => simp only; rw [if_neg hc]
    have e2 : toldN S a = 0 := by unfold toldN; rw [if_neg]; exact fun z => hc z.2
    refine ⟨fun _ => no e1 e2, fun _ => ⟨A 52, hM.1.r k52, hM.1.t k52 rfl, hM.ix ha k52 (by decide), ?_⟩⟩
    rw [o4]
    exact ⟨fun z => absurd z hc, fun _ => no e1 e2⟩
theorem MJ.frg_ (hM : MJ g h A S) {a : Nat} (ha : a ∈ ob S) (hl : ls (kd S a)) : MJ g (qI (qI h (A 48) (num g a) 0) (A 49) (num g a) 0) A (frg S a) :=
  (hM.setL ha hl (Or.inl ⟨rfl, rfl⟩) none).setL (S := wH S (pR S.1 13 a none)) ha hl (Or.inr ⟨rfl, rfl⟩) none
theorem m_clear (hM : MJ g h A S) (hW : WF S) {x1 x2 : Int32} (h1 : ¬ inR S x1 → MQ_ g h A S 1 0 Q) (h2 : ∀ i, i < nt S → x1 = nI i → (∀ a, rt S i = some a → ¬ ls (kd S a)) → MQ_ g h A S 2 0 Q)
    (h3 : ∀ i a, i < nt S → x1 = nI i → rt S i = some a → ls (kd S a) → x2 = 0 → MQ_ g h A (frg S a) 0 0 Q)
    (h4 : ∀ i a, i < nt S → x1 = nI i → rt S i = some a → ls (kd S a) → ¬ x2 = 0 → MQ_ g h A (tell (frg S a) a) 0 (toldN (frg S a) a) Q) : vc_X7_clear (A 40) x1 x2 h Q := by
  obtain ⟨M0, F0, z0⟩ := m_start hM
  intro P68 q68
  refine ⟨hM.1.1, m_none M0 hW (fun i hi e => ⟨fun _ => ?_, fun z => absurd rfl z⟩) (fun q => ⟨fun z => absurd z (by decide), fun _ => ⟨M0.1.1, m_bad M0 F0 (h1 q)⟩⟩)⟩
  subst e
  have ho := hW.2.2.2.2.2.2.2.2.2.2 i hi
  refine ⟨M0.1.1, A 61, M0.1.r k61, M0.1.t k61 rfl, M0.rv hW hi, ?_⟩
  rw [M0.root hW hi]
  refine m_isLoose M0 hW ho (fun a hr hl => ⟨fun _ => ?_, fun z => absurd z (by decide)⟩) (fun q => ⟨fun z => absurd rfl z, fun _ => ⟨M0.1.1, m_wrong M0 F0 (h2 i hi rfl q)⟩⟩)
  have ha := ho a hr
  have h3' := fun e => h3 i a hi rfl hr hl e
  have h4' := fun e => h4 i a hi rfl hr hl e
  rw [hr]
  generalize pI h 40 (A 40) 0 = H at *
  refine ⟨M0.1.1, A 48, M0.1.r k48, M0.1.t k48 rfl, M0.ix ha k48 (by decide), A 49, M0.1.r k49, M0.1.t k49 rfl, M0.ix ha k49 (by decide), ?_⟩
  have M1 := M0.frg_ ha hl
  have F1 : FM A h (qI (qI H (A 48) (num g a) 0) (A 49) (num g a) 0) := (F0.qI k48).qI k49
  have z1 : fI (qI (qI H (A 48) (num g a) 0) (A 49) (num g a) 0) 40 (A 40) = 0 := z0
  show (x2 = 0 → P68 (qI (qI H (A 48) ((nI (num g a)).toNatClampNeg) 0) (A 49) ((nI (num g a)).toNatClampNeg) 0)) ∧ (¬ x2 = 0 → vc_X7_comes (A 40) (nI (num g a)) (qI (qI H (A 48) ((nI (num g a)).toNatClampNeg) 0) (A 49) ((nI (num g a)).toNatClampNeg) 0) _)
  rw [M0.clamp ha]
  refine ⟨fun e => q68 _ (h3' e _ M1 F1 z1), fun e => ?_⟩
  refine m_comes M1 (WFfrg hW a) F1 z1 ha hl (fun h' M' F' z' _ => ?_)
  have := h4' e h' M' F' z'
  unfold toldN at this ⊢
  split at this
  · rename_i t; rw [if_pos t]; exact ⟨fun z => absurd z (by decide), fun _ => this⟩
  · rename_i t; rw [if_neg t]; exact ⟨fun _ => q68 _ this, fun z => absurd rfl z⟩
/-- the first one of q is taken -/
theorem MJ.take (hM : MJ g h A S) (hW : WF S) {a q : Nat} {l : List Nat} (hqo : q ∈ ob S) (hqk : kd S q = 3) (hl : qu S q = a :: l) {h1 : Hp}
    (e1 : (∃ b, l.head? = some b ∧ h1 = qI h (A 48) (num g q) (enc g l.head?)) ∨ (l.head? = none ∧ h1 = qI (qI h (A 48) (num g q) (enc g l.head?)) (A 49) (num g q) 0)) :
    MJ g (qI (qI h1 (A 47) (num g a) 0) (A 51) (num g q) (nI (qu S q).length - 1)) A (wQ S q l) := by
  have hM0 := hM
  obtain ⟨m1, m2, m3, m4, m5⟩ := hM
  have wq := (hW.2.1 q hqo).2.2.2.2.2.2.2.2 hqk
  have hao := (wq.2.1 a (by rw [hl]; exact List.mem_cons_self))
  have hnd := wq.1
  rw [hl] at hnd
  have hnd := List.nodup_cons.mp hnd
  have eo : ∀ k', mky k' → k' ≠ 47 → k' ≠ 48 → k' ≠ 49 → k' ≠ 51 → aI (qI (qI h1 (A 47) (num g a) 0) (A 51) (num g q) (nI (qu S q).length - 1)) (A k') = aI h (A k') := fun k' hk' q1 q2 q3 q4 => by
    rw [aIx _ _ _ _ _ (m1.ne hk' k51 q4), aIx _ _ _ _ _ (m1.ne hk' k47 q1)]
    rcases e1 with ⟨b, -, rfl⟩ | ⟨-, rfl⟩
    · rw [aIx _ _ _ _ _ (m1.ne hk' k48 q2)]
    · rw [aIx _ _ _ _ _ (m1.ne hk' k49 q3), aIx _ _ _ _ _ (m1.ne hk' k48 q2)]
  have e51 : ∀ j, aI (qI (qI h1 (A 47) (num g a) 0) (A 51) (num g q) (nI (qu S q).length - 1)) (A 51) j = if j = num g q then nI (qu S q).length - 1 else aI h (A 51) j := fun j => by
    rw [aI_qI, aIx _ _ _ _ _ (m1.ne k51 k47 (by decide))]
    rcases e1 with ⟨b, -, rfl⟩ | ⟨-, rfl⟩
    · rw [aIx _ _ _ _ _ (m1.ne k51 k48 (by decide))]; simp
    · rw [aIx _ _ _ _ _ (m1.ne k51 k49 (by decide)), aIx _ _ _ _ _ (m1.ne k51 k48 (by decide))]; simp
  have e47 : ∀ j, aI (qI (qI h1 (A 47) (num g a) 0) (A 51) (num g q) (nI (qu S q).length - 1)) (A 47) j = if j = num g a then 0 else aI h (A 47) j := fun j => by
    rw [aIx _ _ _ _ _ (m1.ne k47 k51 (by decide)), aI_qI]
    rcases e1 with ⟨b, -, rfl⟩ | ⟨-, rfl⟩
    · rw [aIx _ _ _ _ _ (m1.ne k47 k48 (by decide))]; simp
    · rw [aIx _ _ _ _ _ (m1.ne k47 k49 (by decide)), aIx _ _ _ _ _ (m1.ne k47 k48 (by decide))]; simp
  have e48 : ∀ j, aI (qI (qI h1 (A 47) (num g a) 0) (A 51) (num g q) (nI (qu S q).length - 1)) (A 48) j = if j = num g q then enc g l.head? else aI h (A 48) j := fun j => by
    rw [aIx _ _ _ _ _ (m1.ne k48 k51 (by decide)), aIx _ _ _ _ _ (m1.ne k48 k47 (by decide))]
    rcases e1 with ⟨b, -, rfl⟩ | ⟨-, rfl⟩
    · rw [aI_qI]; simp
    · rw [aIx _ _ _ _ _ (m1.ne k48 k49 (by decide)), aI_qI]; simp
  have e49 : ∀ j, aI (qI (qI h1 (A 47) (num g a) 0) (A 51) (num g q) (nI (qu S q).length - 1)) (A 49) j = if j = num g q ∧ l.head? = none then 0 else aI h (A 49) j := fun j => by
    rw [aIx _ _ _ _ _ (m1.ne k49 k51 (by decide)), aIx _ _ _ _ _ (m1.ne k49 k47 (by decide))]
    rcases e1 with ⟨b, hb, rfl⟩ | ⟨hb, rfl⟩
    · rw [aIx _ _ _ _ _ (m1.ne k49 k48 (by decide)), if_neg (by rw [hb]; simp)]
    · rw [aI_qI, aIx _ _ _ _ _ (m1.ne k49 k48 (by decide)), hb]; simp
  have eT : tg (qI (qI h1 (A 47) (num g a) 0) (A 51) (num g q) (nI (qu S q).length - 1)) = tg h ∧ ln (qI (qI h1 (A 47) (num g a) 0) (A 51) (num g q) (nI (qu S q).length - 1)) = ln h ∧ fR (qI (qI h1 (A 47) (num g a) 0) (A 51) (num g q) (nI (qu S q).length - 1)) = fR h ∧ aL (qI (qI h1 (A 47) (num g a) 0) (A 51) (num g q) (nI (qu S q).length - 1)) = aL h ∧ fI (qI (qI h1 (A 47) (num g a) 0) (A 51) (num g q) (nI (qu S q).length - 1)) = fI h := by
    rcases e1 with ⟨b, -, rfl⟩ | ⟨-, rfl⟩ <;> exact ⟨rfl, rfl, rfl, rfl, rfl⟩
  generalize qI (qI h1 (A 47) (num g a) 0) (A 51) (num g q) (nI (qu S q).length - 1) = H at *
  refine ⟨?_, ?_, ⟨by rw [eo 61 k61 (by decide) (by decide) (by decide) (by decide)]; exact m3.1, scM.congr (h := h) (eo 62 k62 (by decide) (by decide) (by decide) (by decide)) m3.2⟩, ?_, fun b hb => ?_⟩
  · unfold MF; rw [eT.1, eT.2.1, eT.2.2.1]; exact m1
  · unfold MG; rw [eT.2.2.2.2]; exact m2
  · obtain ⟨n1, n2, n3, n4, n5, n6, n7, n8⟩ := m4
    exact ⟨n1, n2, n3, n4, n5, by rw [eo 42 k42 (by decide) (by decide) (by decide) (by decide)]; exact n6, mch_congr n7 (fun o ho => by rw [e47, if_neg (hM0.flne hW ho hao.1)]), n8⟩
  · obtain ⟨d1, d2, d3, d4⟩ := m5 b hb
    refine ⟨?_, fun kl => ?_, fun kq => ?_, ?_⟩
    · unfold MOd; rw [eo 42 k42 (by decide) (by decide) (by decide) (by decide), eo 43 k43 (by decide) (by decide) (by decide) (by decide), eo 44 k44 (by decide) (by decide) (by decide) (by decide), eo 45 k45 (by decide) (by decide) (by decide) (by decide), eo 46 k46 (by decide) (by decide) (by decide) (by decide)]; exact d1
    · have kl : ls (kd S b) := kl
      have hbq : b ≠ q := fun e => by rw [e, hqk] at kl; exact no3_ls kl
      have hnq := hM0.inj hb hqo hbq
      obtain ⟨o1, o2, o3, o4, o5⟩ := d2 kl
      refine ⟨by rw [e48, if_neg hnq]; exact o1, by rw [e49, if_neg (fun e => hnq e.1)]; exact o2, fun z => ?_, ?_, by rw [e51, if_neg hnq]; exact o5⟩
      · rw [eo 50 k50 (by decide) (by decide) (by decide) (by decide)]; exact o3 z
      · rw [eo 52 k52 (by decide) (by decide) (by decide) (by decide)]; exact o4
    · have kq : kd S b = 3 := kq
      obtain ⟨o1, o2, o3, o4⟩ := d3 kq
      have wb := (hW.2.1 b hb).2.2.2.2.2.2.2.2 kq
      show aI H (A 48) (num g b) = enc g (up1 (qu S) q l b).head? ∧ aI H (A 49) (num g b) = enc g (up1 (qu S) q l b).getLast? ∧ aI H (A 51) (num g b) = nI (up1 (qu S) q l b).length ∧ mch (aI H (A 47)) ((up1 (qu S) q l b).map (num g))
      by_cases eb : b = q
      · subst eb
        rw [up1_same]
        rw [hl] at o2 o3 o4
        refine ⟨by rw [e48, if_pos rfl], ?_, ?_, mch_congr o4.2 (fun x hx => ?_)⟩
        · rw [e49]
          cases l with
          | nil => simp [enc]
          | cons y l => simp [o2]
        · rw [e51, if_pos rfl, hl]; exact nI_pred _
        · obtain ⟨y, hy, e2⟩ := List.mem_map.mp hx
          rw [e47, if_neg (fun e => ?_)]
          have hyo := (wb.2.1 y (by rw [hl]; exact List.mem_cons_of_mem _ hy)).1
          exact hM0.inj hyo hao.1 (fun z => hnd.1 (by rw [← z]; exact hy)) (e2.trans e)
      · rw [up1_ne eb]
        have hnq := hM0.inj hb hqo eb
        refine ⟨by rw [e48, if_neg hnq]; exact o1, by rw [e49, if_neg (fun e => hnq e.1)]; exact o2, by rw [e51, if_neg hnq]; exact o3, mch_congr o4 (fun x hx => ?_)⟩
        obtain ⟨y, hy, e2⟩ := List.mem_map.mp hx
        rw [e47, if_neg (fun e => ?_)]
        have hyo := (wb.2.1 y hy).1
        have : y = a := m4.2.1 y hyo a hao.1 (e2.trans e)
        exact wb.2.2 q hqo hqk (Ne.symm eb) y hy (by rw [this, hl]; exact List.mem_cons_self)
    · unfold MOr; rw [eT.2.2.2.1]; exact d4
end MOP6
