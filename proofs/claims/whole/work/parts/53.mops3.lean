/-! The model: numbers, referents, give, hash, waiting. -/
section MOP3
variable {g : Gh} {h : Hp} {A : Nat → Nat} {S : St} {Q : Option AV ⊕ String → Hp → Prop}
theorem num_kd {S : St} {a : Nat} (hW : WFa S a) : (kd S a = 0 ∨ kd S a = 2 → hd (kd S a)) ∧ (¬ kd S a = 0 → ¬ kd S a = 2 → ¬ (hd (kd S a) ∧ 0 < nn S a)) := by
  refine ⟨fun q => ?_, fun q1 q2 z => ?_⟩
  · rcases q with e | e
    · exact Or.inl e
    · exact Or.inr (Or.inr e)
  · rcases z.1 with e | e | e
    · exact q1 e
    · have := hW.2.2.1 e; omega
    · exact q2 e
theorem m_noNumber (hM : MJ g h A S) (hW : WF S) {x1 x2 : Int32} (h1 : ¬ inR S x1 ∨ x2 < 0 → ∀ h', MJ g h' A S → FM A h h' → fI h' 40 (A 40) = 1 → Q (.inl (some (vi 1))) h') (h2 : ∀ i k, i < nt S → x1 = nI i → k < 2 ^ 31 → x2 = nI k → (∀ a, ¬ isNum S i k a) → ∀ h', MJ g h' A S → FM A h h' → fI h' 40 (A 40) = 2 → Q (.inl (some (vi 1))) h')
    (h3 : ∀ i k a, i < nt S → x1 = nI i → k < 2 ^ 31 → x2 = nI k → isNum S i k a → ∀ h', MJ g h' A S → FM A h h' → fI h' 40 (A 40) = 0 → Q (.inl (some (vi 0))) h') : vc_X7_noNumber (A 40) x1 x2 h Q := by
  obtain ⟨M0, F0, z0⟩ := m_start hM
  intro P17 P78 P63 P83 q17 q78 q63 q83
  have one_ : fI (pI (pI h 40 (A 40) 0) 40 (A 40) 1) 40 (A 40) = 1 := by rw [fI_pI, if_pos ⟨rfl, rfl⟩]
  have two_ : fI (pI (pI h 40 (A 40) 0) 40 (A 40) 2) 40 (A 40) = 2 := by rw [fI_pI, if_pos ⟨rfl, rfl⟩]
  have bad : (¬ inR S x1 ∨ x2 < 0) → P17 (pI h 40 (A 40) 0) := fun q => q17 _ ⟨M0.1.1, q83 _ ⟨M0.1.1, fun e => (by rw [one_] at e; exact absurd e (by decide)), fun _ => h1 q _ (M0.set40 (Or.inl rfl) 1) (F0.pI (by decide)) one_⟩⟩
  refine ⟨hM.1.1, m_none M0 hW (fun i hi e => ⟨fun z => absurd rfl z, fun _ => ⟨fun q => ?_, fun q => bad (Or.inr (i32_nle.mp q))⟩⟩) (fun q => ⟨fun _ => bad (Or.inl q), fun z => absurd z (by decide)⟩)⟩
  subst e
  obtain ⟨k, hk, rfl⟩ := nI_ex' q
  have ho := hW.2.2.2.2.2.2.2.2.2.2 i hi
  have wrong : (∀ a, ¬ isNum S i k a) → P78 (pI h 40 (A 40) 0) := fun q => q78 _ ⟨M0.1.1, q83 _ ⟨M0.1.1, fun e => (by rw [two_] at e; exact absurd e (by decide)), fun _ => h2 i k hi rfl hk rfl q _ (M0.set40 (Or.inl rfl) 2) (F0.pI (by decide)) two_⟩⟩
  have good : ∀ a, isNum S i k a → P83 (pI h 40 (A 40) 0) := fun a z => q83 _ ⟨M0.1.1, fun _ => h3 i k a hi rfl hk rfl z _ M0 F0 z0, fun e => absurd z0 e⟩
  clear bad one_ two_
  generalize pI h 40 (A 40) 0 = H at *
  refine ⟨M0.1.1, A 61, M0.1.r k61, M0.1.t k61 rfl, M0.rv hW hi, ?_⟩
  rw [M0.root hW hi]
  refine ⟨fun q => wrong fun a z => ?_, fun q => ⟨M0.rv hW hi, A 42, M0.1.r k42, M0.1.t k42 rfl, ?_⟩⟩
  · have := z.1; rw [(M0.encz ho).mp q] at this; cases this
  · cases hr : rt S i with
    | none => rw [hr] at q; exact absurd rfl q
    | some a =>
      have ha := ho a hr
      have h3000 := (hW.2.1 a ha).2.2.2.2.2.1
      have hn := num_kd (hW.2.1 a ha)
      -- the test of the index
      have p63 : (kd S a = 0 ∨ kd S a = 2) → P63 H := fun kk => by
        refine q63 _ ⟨M0.1.1, A 61, M0.1.r k61, M0.1.t k61 rfl, M0.rv hW hi, A 45, M0.1.r k45, M0.1.t k45 rfl, ?_⟩
        rw [M0.root hW hi, hr]
        refine ⟨M0.ix ha k45 (by decide), ?_⟩
        show (nI k < aI H (A 45) (nI (num g a)).toNatClampNeg → P83 H) ∧ (¬ nI k < aI H (A 45) (nI (num g a)).toNatClampNeg → P78 H)
        rw [M0.clamp ha, (M0.2.2.2.2 a ha).1.2.2.2.1]
        refine ⟨fun q2 => good a ⟨hr, hn.1 kk, (nI_lt' hk (by omega)).mp q2⟩, fun q2 => wrong fun b z => ?_⟩
        have := z.1; rw [hr] at this; cases this
        exact q2 ((nI_lt' hk (by omega)).mpr z.2.2)
      show vp_in (nI (num g a)) (ln H (A 42)) ∧ _
      refine ⟨M0.ix ha k42 (by decide), ?_⟩
      show (aI H (A 42) (nI (num g a)).toNatClampNeg = 0 → P63 H) ∧ (¬ aI H (A 42) (nI (num g a)).toNatClampNeg = 0 → vp_in (nI i) (ln H (A 61)) ∧ vp_in (nI (num g a)) (ln H (A 42)) ∧ ((¬ aI H (A 42) (nI (num g a)).toNatClampNeg = 2 → P78 H) ∧ (aI H (A 42) (nI (num g a)).toNatClampNeg = 2 → P63 H)))
      rw [M0.clamp ha, (M0.2.2.2.2 a ha).1.1]
      refine ⟨fun e => p63 (Or.inl e), fun e => ⟨M0.rv hW hi, M0.ix ha k42 (by decide), fun e2 => wrong fun b z => ?_, fun e2 => p63 (Or.inr e2)⟩⟩
      have := z.1; rw [hr] at this; cases this
      exact hn.2 e e2 ⟨z.2.1, by have := z.2.2; omega⟩
/-- as MQ_, for a long answer -/
def MQL (g : Gh) (h : Hp) (A : Nat → Nat) (S' : St) (c : Int32) (v : Int64) (Q : Option AV ⊕ String → Hp → Prop) : Prop := ∀ h', MJ g h' A S' → FM A h h' → fI h' 40 (A 40) = c → Q (.inl (some (vl v))) h'
theorem MJ.numv (hM : MJ g h A S) {a k : Nat} (ha : a ∈ ob S) (hk : k < nn S a) : nI (at_ g a) + nI (nr S a) + nI k = nI (at_ g a + nr S a + k) ∧ vp_in (nI (at_ g a + nr S a + k)) (ln h (A 56)) ∧ (nI (at_ g a + nr S a + k)).toNatClampNeg = at_ g a + nr S a + k := by
  have := hM.atv ha (j := nr S a + k) (by omega)
  rw [← Nat.add_assoc] at this
  exact ⟨by rw [nI_add, nI_add], this.2⟩
theorem m_set (hM : MJ g h A S) (hW : WF S) {x1 x2 : Int32} {z : Int64} (h1 : ¬ inR S x1 ∨ x2 < 0 → MQL g h A S 1 0 Q) (h2 : ∀ i k, i < nt S → x1 = nI i → k < 2 ^ 31 → x2 = nI k → (∀ a, ¬ isNum S i k a) → MQL g h A S 2 0 Q)
    (h3 : ∀ i k a, i < nt S → x1 = nI i → k < 2 ^ 31 → x2 = nI k → isNum S i k a → MQL g h A (wH S (qL S.1 a k z)) 0 (nv S a k) Q) : vc_X7_set (A 40) x1 x2 z h Q := by
  refine ⟨hM.1.1, m_noNumber hM hW (fun q h' M' F' z' => ⟨fun e => absurd e (by decide), fun _ => h1 q h' M' F' z'⟩) (fun i k hi e hk e2 q h' M' F' z' => ⟨fun e => absurd e (by decide), fun _ => h2 i k hi e hk e2 q h' M' F' z'⟩) (fun i k a hi e hk e2 q H M0 F0 z0 => ⟨fun _ => ?_, fun e => absurd rfl e⟩)⟩
  subst e; subst e2
  have ha := hW.2.2.2.2.2.2.2.2.2.2 i hi a q.1
  obtain ⟨e1, e2, e3⟩ := M0.numv ha q.2.2
  refine ⟨M0.1.1, A 61, M0.1.r k61, M0.1.t k61 rfl, M0.rv hW hi, A 43, M0.1.r k43, M0.1.t k43 rfl, ?_⟩
  rw [M0.root hW hi, q.1]
  show vp_in (nI (num g a)) (ln H (A 43)) ∧ _
  refine ⟨M0.ix ha k43 (by decide), M0.rv hW hi, A 44, M0.1.r k44, M0.1.t k44 rfl, M0.ix ha k44 (by decide), A 56, M0.1.r k56, M0.1.t k56 rfl, ?_⟩
  show vp_in (aI H (A 43) (nI (num g a)).toNatClampNeg + aI H (A 44) (nI (num g a)).toNatClampNeg + nI k) (ln H (A 56)) ∧ vp_in (aI H (A 43) (nI (num g a)).toNatClampNeg + aI H (A 44) (nI (num g a)).toNatClampNeg + nI k) (ln H (A 56)) ∧ Q (.inl (some (vl (aL H (A 56) ((aI H (A 43) (nI (num g a)).toNatClampNeg + aI H (A 44) (nI (num g a)).toNatClampNeg + nI k).toNatClampNeg))))) (qL H (A 56) ((aI H (A 43) (nI (num g a)).toNatClampNeg + aI H (A 44) (nI (num g a)).toNatClampNeg + nI k).toNatClampNeg) z)
  rw [M0.clamp ha, (M0.2.2.2.2 a ha).1.2.1, (M0.2.2.2.2 a ha).1.2.2.1, e1, e3, (M0.2.2.2.2 a ha).2.2.2.2 k q.2.2]
  exact ⟨e2, e2, h3 i k a hi rfl hk rfl q _ (M0.setNum ha q.2.2 z) (F0.qL k56) z0⟩
theorem m_get (hM : MJ g h A S) (hW : WF S) {x1 x2 : Int32} (h1 : ¬ inR S x1 ∨ x2 < 0 → MQL g h A S 1 0 Q) (h2 : ∀ i k, i < nt S → x1 = nI i → k < 2 ^ 31 → x2 = nI k → (∀ a, ¬ isNum S i k a) → MQL g h A S 2 0 Q)
    (h3 : ∀ i k a, i < nt S → x1 = nI i → k < 2 ^ 31 → x2 = nI k → isNum S i k a → MQL g h A S 0 (nv S a k) Q) : vc_X7_get (A 40) x1 x2 h Q := by
  refine ⟨hM.1.1, m_noNumber hM hW (fun q h' M' F' z' => ⟨fun e => absurd e (by decide), fun _ => h1 q h' M' F' z'⟩) (fun i k hi e hk e2 q h' M' F' z' => ⟨fun e => absurd e (by decide), fun _ => h2 i k hi e hk e2 q h' M' F' z'⟩) (fun i k a hi e hk e2 q H M0 F0 z0 => ⟨fun _ => ?_, fun e => absurd rfl e⟩)⟩
  subst e; subst e2
  have ha := hW.2.2.2.2.2.2.2.2.2.2 i hi a q.1
  obtain ⟨e1, e2, e3⟩ := M0.numv ha q.2.2
  refine ⟨M0.1.1, A 61, M0.1.r k61, M0.1.t k61 rfl, M0.rv hW hi, A 43, M0.1.r k43, M0.1.t k43 rfl, ?_⟩
  rw [M0.root hW hi, q.1]
  show vp_in (nI (num g a)) (ln H (A 43)) ∧ _
  refine ⟨M0.ix ha k43 (by decide), M0.rv hW hi, A 44, M0.1.r k44, M0.1.t k44 rfl, M0.ix ha k44 (by decide), A 56, M0.1.r k56, M0.1.t k56 rfl, ?_⟩
  show vp_in (aI H (A 43) (nI (num g a)).toNatClampNeg + aI H (A 44) (nI (num g a)).toNatClampNeg + nI k) (ln H (A 56)) ∧ Q (.inl (some (vl (aL H (A 56) ((aI H (A 43) (nI (num g a)).toNatClampNeg + aI H (A 44) (nI (num g a)).toNatClampNeg + nI k).toNatClampNeg))))) H
  rw [M0.clamp ha, (M0.2.2.2.2 a ha).1.2.1, (M0.2.2.2.2 a ha).1.2.2.1, e1, e3, (M0.2.2.2.2 a ha).2.2.2.2 k q.2.2]
  exact ⟨e2, h3 i k a hi rfl hk rfl q _ M0 F0 z0⟩
theorem m_waiting (hM : MJ g h A S) (hW : WF S) {x1 : Int32} (h1 : ¬ inR S x1 → MQ_ g h A S 1 0 Q) (h2 : ∀ i, i < nt S → x1 = nI i → (∀ a, rt S i = some a → ¬ kd S a = 3) → MQ_ g h A S 2 0 Q) (h3 : ∀ i a, i < nt S → x1 = nI i → rt S i = some a → kd S a = 3 → MQ_ g h A S 0 (nI (qu S a).length) Q) : vc_X7_waiting (A 40) x1 h Q := by
  obtain ⟨M0, F0, z0⟩ := m_start hM
  refine ⟨hM.1.1, m_none M0 hW (fun i hi e => ⟨fun _ => ⟨M0.1.1, ?_⟩, fun z => absurd rfl z⟩) (fun q => ⟨fun z => absurd z (by decide), fun _ => ⟨M0.1.1, m_bad M0 F0 (h1 q)⟩⟩)⟩
  subst e
  refine m_is M0 hW hi (fun a hr k => ⟨fun z => absurd z (by decide), fun _ => ?_⟩) (fun q => ⟨fun _ => ⟨M0.1.1, m_wrong M0 F0 (h2 i hi rfl q)⟩, fun z => absurd rfl z⟩)
  have ha := hW.2.2.2.2.2.2.2.2.2.2 i hi a hr
  have h4 := h3 i a hi rfl hr k _ M0 F0 z0
  generalize pI h 40 (A 40) 0 = H at *
  refine ⟨M0.1.1, A 61, M0.1.r k61, M0.1.t k61 rfl, M0.rv hW hi, A 51, M0.1.r k51, M0.1.t k51 rfl, ?_⟩
  rw [M0.root hW hi, hr]
  refine ⟨M0.ix ha k51 (by decide), ?_⟩
  show Q (.inl (some (vi (aI H (A 51) (nI (num g a)).toNatClampNeg)))) H
  rw [M0.clamp ha, ((M0.2.2.2.2 a ha).2.2.1 k).2.2.1]; exact h4
theorem m_referent (hM : MJ g h A S) (hW : WF S) {x1 x2 x3 : Int32} (h1 : ¬ inR S x1 ∨ ¬ inR S x2 → MQ_ g h A S 1 0 Q)
    (h2 : ∀ i j, i < nt S → x1 = nI i → j < nt S → x2 = nI j → (∀ a, rt S j = some a → ¬ (if x3 = 0 then ls (kd S a) else kd S a = 7)) → MQ_ g h A S 2 0 Q)
    (h3 : ∀ i j a, i < nt S → x1 = nI i → j < nt S → x2 = nI j → rt S j = some a → (if x3 = 0 then ls (kd S a) else kd S a = 7) → ∀ o, o = (if x3 = 0 then (if kd S a = 6 then none else re S a) else va S a) → (∀ b, o = some b → b ∈ ob S) → MQ_ g h A (wR S i o) 0 (one o) Q) : vc_X7_referent (A 40) x1 x2 x3 h Q := by
  obtain ⟨M0, F0, z0⟩ := m_start hM
  intro P21 P65 P60 P104 q21 q65 q60 q104
  have bad : (¬ inR S x1 ∨ ¬ inR S x2) → P21 (pI h 40 (A 40) 0) := fun q => q21 _ ⟨M0.1.1, m_bad M0 F0 (h1 q)⟩
  refine ⟨hM.1.1, m_none M0 hW (fun i hi e => ⟨fun z => absurd rfl z, fun _ => ⟨M0.1.1, m_none M0 hW (fun j hj e2 => ⟨fun _ => ?_, fun z => absurd rfl z⟩) (fun q => ⟨fun z => absurd z (by decide), fun _ => bad (Or.inr q)⟩)⟩⟩) (fun q => ⟨fun _ => bad (Or.inl q), fun z => absurd z (by decide)⟩)⟩
  subst e; subst e2
  have ho := hW.2.2.2.2.2.2.2.2.2.2 j hj
  have wrong : (∀ a, rt S j = some a → ¬ (if x3 = 0 then ls (kd S a) else kd S a = 7)) → P60 (pI h 40 (A 40) 0) := fun q => q60 _ ⟨M0.1.1, m_wrong M0 F0 (h2 i j hi rfl hj rfl q)⟩
  have h3' := fun a => h3 i j a hi rfl hj rfl
  clear bad
  generalize pI h 40 (A 40) 0 = H at *
  have good : ∀ a, rt S j = some a → (if x3 = 0 then ls (kd S a) else kd S a = 7) → P65 (nI (num g a)) H := fun a hr hk => by
    have ha := ho a hr
    have hl : ls (kd S a) := by split at hk; exact hk; rw [hk]; exact ls7
    have w := (hW.2.1 a ha).2.2.2.2.2.2.2.1 hl
    obtain ⟨o1, o2, o3, o4, o5⟩ := (M0.2.2.2.2 a ha).2.1 hl
    have fin : ∀ o, o = (if x3 = 0 then (if kd S a = 6 then none else re S a) else va S a) → (∀ b, o = some b → b ∈ ob S) → P104 (enc g o) (nI i) (some (A 40)) H := fun o eo hob => q104 _ _ _ _ ⟨A 40, rfl, M0.1.1, m_comesTo M0 hW F0 z0 hi hob (h3' a hr hk o eo hob)⟩
    refine q65 _ _ ⟨fun e3 => ⟨M0.1.1, A 42, M0.1.r k42, M0.1.t k42 rfl, M0.ix ha k42 (by decide), ?_⟩, fun e3 => ⟨M0.1.1, A 49, M0.1.r k49, M0.1.t k49 rfl, M0.ix ha k49 (by decide), ?_⟩⟩
    · rw [M0.clamp ha, (M0.2.2.2.2 a ha).1.1]
      refine ⟨fun q => ⟨A 48, M0.1.r k48, M0.1.t k48 rfl, M0.ix ha k48 (by decide), ?_⟩, fun q => ?_⟩
      · rw [o1]; exact fin _ (by rw [if_pos e3, if_neg q]) w.1
      · exact fin none (by rw [if_pos e3, if_pos q]) (fun b hb => by cases hb)
    · rw [M0.clamp ha, o2]; exact fin _ (by rw [if_neg e3]) (fun b hb => (w.2.1 b hb).1)
  refine ⟨M0.1.1, A 61, M0.1.r k61, M0.1.t k61 rfl, M0.rv hW hj, ?_⟩
  rw [M0.root hW hj]
  refine ⟨fun e3 => m_isLoose M0 hW ho (fun a hr hl => ⟨fun _ => ?_, fun z => absurd z (by decide)⟩) (fun q => ⟨fun z => absurd rfl z, fun _ => wrong fun a hr => ?_⟩), fun e3 => m_is M0 hW hj (fun a hr hk => ⟨fun _ => ?_, fun z => absurd z (by decide)⟩) (fun q => ⟨fun z => absurd rfl z, fun _ => wrong fun a hr => ?_⟩)⟩
  · rw [hr]; exact good a hr (by rw [if_pos e3]; exact hl)
  · rw [if_pos e3]; exact q a hr
  · rw [hr]; exact good a hr (by rw [if_neg e3]; exact hk)
  · rw [if_neg e3]; exact q a hr
end MOP3
