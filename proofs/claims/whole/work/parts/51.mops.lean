/-! The model's plain methods. -/
theorem k42 : mky 42 := by unfold mky; omega
theorem k43 : mky 43 := by unfold mky; omega
theorem k44 : mky 44 := by unfold mky; omega
theorem k45 : mky 45 := by unfold mky; omega
theorem k46 : mky 46 := by unfold mky; omega
theorem k47 : mky 47 := by unfold mky; omega
theorem k48 : mky 48 := by unfold mky; omega
theorem k49 : mky 49 := by unfold mky; omega
theorem k50 : mky 50 := by unfold mky; omega
theorem k51 : mky 51 := by unfold mky; omega
theorem k52 : mky 52 := by unfold mky; omega
theorem k53 : mky 53 := by unfold mky; omega
theorem k54 : mky 54 := by unfold mky; omega
theorem k55 : mky 55 := by unfold mky; omega
theorem k56 : mky 56 := by unfold mky; omega
theorem k61 : mky 61 := by unfold mky; omega
theorem k62 : mky 62 := by unfold mky; omega
section MOPS
variable {g : Gh} {h : Hp} {A : Nat → Nat} {S : St} {Q : Option AV ⊕ String → Hp → Prop}
theorem MF.r (hF : MF h A) {k : Nat} (hk : mky k) : fR h k (A 40) = some (A k) := (hF.2.1 k hk).1
theorem MF.t (hF : MF h A) {k t : Nat} (hk : mky k) (e : mtg k = t) : tg h (A k) = t := by rw [(hF.2.1 k hk).2.1]; exact e
/-- an object's number as an index -/
theorem MF.v (hF : MF h A) {k n : Nat} (hk : mky k) (hn : n < mln k) : vp_in (nI n) (ln h (A k)) := by
  rw [(hF.2.1 k hk).2.2]
  refine vin hn ?_
  unfold mln
  split
  · decide
  · split
    · decide
    · split <;> decide
theorem MF.ne (hF : MF h A) {j k : Nat} (hj : mky j) (hk : mky k) (e : j ≠ k) : A j ≠ A k := fun q => e (hF.2.2.1 j k hj hk q)
theorem MJ.nm (hM : MJ g h A S) {a : Nat} (ha : a ∈ ob S) : 1 ≤ num g a ∧ num g a < 15001 := by
  have := hM.2.2.2.1.1 a ha; have := hM.2.2.2.1.2.2.2.1; omega
theorem MJ.clamp (hM : MJ g h A S) {a : Nat} (ha : a ∈ ob S) : (nI (num g a)).toNatClampNeg = num g a := nI_clamp (by have := hM.nm ha; omega)
theorem MJ.nz (hM : MJ g h A S) {a : Nat} (ha : a ∈ ob S) : ¬ nI (num g a) = 0 := nI_ne0 (by have := hM.nm ha; omega) (by have := hM.nm ha; omega)
theorem MJ.encz (hM : MJ g h A S) {o : Option Nat} (ho : ∀ a, o = some a → a ∈ ob S) : enc g o = 0 ↔ o = none := by
  cases o with
  | none => exact ⟨fun _ => rfl, fun _ => rfl⟩
  | some a => exact ⟨fun e => absurd e (hM.nz (ho a rfl)), fun e => by cases e⟩
theorem MJ.ix (hM : MJ g h A S) {a k : Nat} (ha : a ∈ ob S) (hk : mky k) (h55 : k ≤ 55) : vp_in (nI (num g a)) (ln h (A k)) := hM.1.v hk (by have := hM.nm ha; unfold mln; rw [if_pos h55]; omega)
theorem MJ.rv (hM : MJ g h A S) (hW : WF S) {i : Nat} (hi : i < nt S) : vp_in (nI i) (ln h (A 61)) := hM.1.v k61 (by have := hW.nt; show i < 384; omega)
theorem MJ.set40 (hM : MJ g h A S) {k : Nat} (hk : k = 40 ∨ k = 74) (x : Int32) : MJ g (pI h k (A 40) x) A S := by
  obtain ⟨m1, m2, m3, m4, m5⟩ := hM
  have e : ∀ k', 41 ≤ k' → k' ≤ 73 → fI (pI h k (A 40) x) k' = fI h k' := fun k' q1 q2 => fIx _ _ _ _ _ (by omega)
  refine ⟨m1, ?_, ⟨m3.1, ?_⟩, m4, m5⟩
  · unfold MG; rw [e 41 (by decide) (by decide), e 57 (by decide) (by decide), e 58 (by decide) (by decide), e 59 (by decide) (by decide), e 60 (by decide) (by decide), e 63 (by decide) (by decide), e 64 (by decide) (by decide), e 65 (by decide) (by decide), e 66 (by decide) (by decide), e 67 (by decide) (by decide), e 68 (by decide) (by decide), e 69 (by decide) (by decide), e 70 (by decide) (by decide), e 71 (by decide) (by decide), e 72 (by decide) (by decide), e 73 (by decide) (by decide)]; exact m2
  · have : ∀ l, scM h A l → scM (pI h k (A 40) x) A l := fun l => by
      induction l with
      | nil => exact fun _ => trivial
      | cons s r ih => exact fun q => ⟨q.1, ih q.2⟩
    exact this _ m3.2
/-- how a model's method ends: c thrown, v answered -/
def MQ_ (g : Gh) (h : Hp) (A : Nat → Nat) (S' : St) (c v : Int32) (Q : Option AV ⊕ String → Hp → Prop) : Prop := ∀ h', MJ g h' A S' → FM A h h' → fI h' 40 (A 40) = c → Q (.inl (some (vi v))) h'
theorem m_bad (hM : MJ g h A S) {h0 : Hp} (hF : FM A h0 h) (h1 : MQ_ g h0 A S 1 0 Q) : vc_X7_bad (A 40) h Q := ⟨hM.1.1, h1 _ (hM.set40 (Or.inl rfl) 1) (hF.pI (by decide)) (by rw [fI_pI, if_pos ⟨rfl, rfl⟩])⟩
theorem m_wrong (hM : MJ g h A S) {h0 : Hp} (hF : FM A h0 h) (h1 : MQ_ g h0 A S 2 0 Q) : vc_X7_wrong (A 40) h Q := ⟨hM.1.1, h1 _ (hM.set40 (Or.inl rfl) 2) (hF.pI (by decide)) (by rw [fI_pI, if_pos ⟨rfl, rfl⟩])⟩
theorem inR_iff2 (hW : WF S) {x : Int32} : inR S x ↔ ¬ x < 0 ∧ x < nI (nt S) := by
  have hn := hW.nt
  constructor
  · rintro ⟨i, hi, rfl⟩
    exact ⟨nI_pos (by omega), (nI_lt' (by omega) (by omega)).mpr hi⟩
  · rintro ⟨h1, h2⟩
    obtain ⟨i, hi, rfl⟩ := nI_ex h1
    exact ⟨i, (nI_lt' hi (by omega)).mp h2, rfl⟩
theorem inN_iff2 (hW : WF S) {x : Int32} : inN S x ↔ ¬ x < -1 ∧ x < nI (nt S) := by
  have hn := hW.nt
  unfold inN
  rw [inR_iff2 hW]
  have e1 : (nI (nt S)).toInt = (nt S : Int) := nI_toInt (by omega)
  have e2 : (-1 : Int32).toInt = -1 := by decide
  have e3 : (0 : Int32).toInt = 0 := rfl
  rw [Int32.lt_iff_toInt_lt, Int32.lt_iff_toInt_lt, Int32.lt_iff_toInt_lt, e1, e2, e3, ← Int32.toInt_inj, e2]
  omega
theorem m_none (hM : MJ g h A S) (hW : WF S) {x : Int32} (h1 : ∀ i, i < nt S → x = nI i → Q (.inl (some (vi 0))) h) (h2 : ¬ inR S x → Q (.inl (some (vi 1))) h) : vc_X7_none (A 40) x h Q := by
  intro P hP
  refine ⟨fun q => hP h (h2 fun e => ((inR_iff2 hW).mp e).1 q), fun q => ⟨hM.1.1, fun q2 => ?_, fun q2 => hP h (h2 fun e => ?_)⟩⟩
  · rw [hM.2.1.2.2.2.2.2.1] at q2
    obtain ⟨i, hi, e⟩ := (inR_iff2 hW).mpr ⟨q, q2⟩
    exact h1 i hi e
  · rw [hM.2.1.2.2.2.2.2.1] at q2
    exact q2 ((inR_iff2 hW).mp e).2
theorem m_noneOrNull (hM : MJ g h A S) (hW : WF S) {x : Int32} (h1 : inN S x → Q (.inl (some (vi 0))) h) (h2 : ¬ inN S x → Q (.inl (some (vi 1))) h) : vc_X7_noneOrNull (A 40) x h Q := by
  intro P hP
  refine ⟨fun q => hP h (h2 fun e => ((inN_iff2 hW).mp e).1 q), fun q => ⟨hM.1.1, fun q2 => ?_, fun q2 => hP h (h2 fun e => ?_)⟩⟩
  · rw [hM.2.1.2.2.2.2.2.1] at q2
    exact h1 ((inN_iff2 hW).mpr ⟨q, q2⟩)
  · rw [hM.2.1.2.2.2.2.2.1] at q2
    exact q2 ((inN_iff2 hW).mp e).2
theorem m_of (hM : MJ g h A S) (hW : WF S) {x : Int32} (hx : inN S x) (h1 : Q (.inl (some (vi (enc g (rtN S x))))) h) : vc_X7_of (A 40) x h Q := by
  have hn := hW.nt
  rcases hx with rfl | ⟨i, hi, rfl⟩
  · exact ⟨fun q => absurd q (by decide), fun _ => h1⟩
  · refine ⟨fun _ => ⟨hM.1.1, A 61, hM.1.r k61, hM.1.t k61 rfl, hM.rv hW hi, ?_⟩, fun q => absurd (nI_pos' (by omega)) q⟩
    rw [nI_clamp (by omega), hM.2.2.1.1 i hi, ← rtN_nI (by omega)]
    exact h1
/-- the number in a root -/
theorem MJ.root (hM : MJ g h A S) (hW : WF S) {i : Nat} (hi : i < nt S) : aI h (A 61) (nI i).toNatClampNeg = enc g (rt S i) := by rw [nI_clamp (by have := hW.nt; omega)]; exact hM.2.2.1.1 i hi
theorem m_is (hM : MJ g h A S) (hW : WF S) {i : Nat} (hi : i < nt S) {k : Int32} (h1 : ∀ a, rt S i = some a → kd S a = k → Q (.inl (some (vi 1))) h) (h2 : (∀ a, rt S i = some a → ¬ kd S a = k) → Q (.inl (some (vi 0))) h) : vc_X7_is (A 40) (nI i) k h Q := by
  have ho := hW.2.2.2.2.2.2.2.2.2.2 i hi
  intro P hP
  refine ⟨hM.1.1, A 61, hM.1.r k61, hM.1.t k61 rfl, hM.rv hW hi, ?_⟩
  rw [hM.root hW hi]
  refine ⟨fun q => hP h (h2 fun a ha => ?_), fun q => ⟨hM.rv hW hi, A 42, hM.1.r k42, hM.1.t k42 rfl, ?_⟩⟩
  · rw [(hM.encz ho).mp q] at ha; cases ha
  · cases hr : rt S i with
    | none => rw [hr] at q; exact absurd rfl q
    | some a =>
      have ha := ho a hr
      refine ⟨hM.ix ha k42 (by decide), ?_⟩
      show (¬ aI h (A 42) (nI (num g a)).toNatClampNeg = k → P h) ∧ (aI h (A 42) (nI (num g a)).toNatClampNeg = k → Q (.inl (some (vi 1))) h)
      rw [hM.clamp ha, (hM.2.2.2.2 a ha).1.1]
      exact ⟨fun e => hP h (h2 fun b hb => by rw [hr] at hb; cases hb; exact e), fun e => h1 a hr e⟩
theorem lt4_ls {k : Int32} (hk : hd k ∨ k = 3 ∨ ls k) : ¬ k < 4 ↔ ls k := by
  rcases hk with (rfl | rfl | rfl) | rfl | (rfl | rfl | rfl | rfl) <;> simp [ls] <;> decide
theorem m_isLoose (hM : MJ g h A S) (hW : WF S) {o : Option Nat} (ho : ∀ a, o = some a → a ∈ ob S) (h1 : ∀ a, o = some a → ls (kd S a) → Q (.inl (some (vi 1))) h) (h2 : (∀ a, o = some a → ¬ ls (kd S a)) → Q (.inl (some (vi 0))) h) : vc_X7_isLoose (A 40) (enc g o) h Q := by
  intro P hP
  refine ⟨fun q => hP h (h2 fun a ha => ?_), fun q => ?_⟩
  · rw [(hM.encz ho).mp q] at ha; cases ha
  · cases o with
    | none => exact absurd rfl q
    | some a =>
      have ha := ho a rfl
      refine ⟨hM.1.1, A 42, hM.1.r k42, hM.1.t k42 rfl, hM.ix ha k42 (by decide), ?_⟩
      show (aI h (A 42) (nI (num g a)).toNatClampNeg < 4 → P h) ∧ (¬ aI h (A 42) (nI (num g a)).toNatClampNeg < 4 → Q (.inl (some (vi 1))) h)
      rw [hM.clamp ha, (hM.2.2.2.2 a ha).1.1]
      have hk := lt4_ls (hW.2.1 a ha).1
      exact ⟨fun e => hP h (h2 fun b hb l => by cases hb; exact hk.mpr l e), fun e => h1 a rfl (hk.mp e)⟩
/-- a root is set -/
theorem MJ.setRoot (hM : MJ g h A S) {i : Nat} (hi : i < nt S) (o : Option Nat) : MJ g (qI h (A 61) i (enc g o)) A (wR S i o) := by
  obtain ⟨m1, m2, m3, m4, m5⟩ := hM
  have e : ∀ k, mky k → k ≠ 61 → aI (qI h (A 61) i (enc g o)) (A k) = aI h (A k) := fun k hk q => aIx _ _ _ _ _ (m1.ne hk k61 q)
  refine ⟨m1, m2, ⟨fun j hj => ?_, ?_⟩, ?_, fun a ha => ?_⟩
  · rw [aI_qI]
    show _ = enc g (up1 (rt S) i o j)
    unfold up1
    by_cases q : j = i
    · simp [q]
    · simp [q]; exact m3.1 j hj
  · have : ∀ l, scM h A l → scM (qI h (A 61) i (enc g o)) A l := fun l => by
      induction l with
      | nil => exact fun _ => trivial
      | cons s r ih => exact fun q => ⟨by rw [e 62 k62 (by decide)]; exact q.1, ih q.2⟩
    exact this _ m3.2
  · unfold MN; rw [e 42 k42 (by decide), e 47 k47 (by decide)]; exact m4
  · have := m5 a ha
    unfold MOa MOd MOl MOq MOr at this ⊢
    rw [e 42 k42 (by decide), e 43 k43 (by decide), e 44 k44 (by decide), e 45 k45 (by decide), e 46 k46 (by decide), e 47 k47 (by decide), e 48 k48 (by decide), e 49 k49 (by decide), e 50 k50 (by decide), e 51 k51 (by decide), e 52 k52 (by decide)]
    exact this
theorem m_comesTo (hM : MJ g h A S) (hW : WF S) {h0 : Hp} (hF : FM A h0 h) (h40 : fI h 40 (A 40) = 0) {i : Nat} (hi : i < nt S) {o : Option Nat} (ho : ∀ a, o = some a → a ∈ ob S) (h1 : MQ_ g h0 A (wR S i o) 0 (one o) Q) : vc_X7_comesTo (A 40) (nI i) (enc g o) h Q := by
  refine ⟨hM.1.1, A 61, hM.1.r k61, hM.1.t k61 rfl, hM.rv hW hi, ?_⟩
  rw [nI_clamp (by have := hW.nt; omega)]
  have := h1 _ (hM.setRoot hi o) (hF.qI k61) h40
  unfold one at this
  refine ⟨fun q => ?_, fun q => ?_⟩
  · rw [if_neg (fun e => q ((hM.encz ho).mpr e))] at this; exact this
  · rw [if_pos ((hM.encz ho).mp q)] at this; exact this
theorem m_start (hM : MJ g h A S) : MJ g (pI h 40 (A 40) 0) A S ∧ FM A h (pI h 40 (A 40) 0) ∧ fI (pI h 40 (A 40) 0) 40 (A 40) = 0 := ⟨hM.set40 (Or.inl rfl) 0, FM.rfl'.pI (by decide), by rw [fI_pI, if_pos ⟨rfl, rfl⟩]⟩
theorem m_copy (hM : MJ g h A S) (hW : WF S) {x1 x2 : Int32} (h1 : ¬ inR S x1 ∨ ¬ inN S x2 → MQ_ g h A S 1 0 Q) (h2 : ∀ i, i < nt S → x1 = nI i → inN S x2 → MQ_ g h A (wR S i (rtN S x2)) 0 (one (rtN S x2)) Q) : vc_X7_copy (A 40) x1 x2 h Q := by
  obtain ⟨M0, F0, z0⟩ := m_start hM
  intro P hP
  refine ⟨hM.1.1, m_none M0 hW (fun i hi e => ⟨fun z => absurd rfl z, fun _ => ⟨M0.1.1, m_noneOrNull M0 hW (fun hx => ⟨fun _ => ⟨M0.1.1, m_of M0 hW hx ⟨M0.1.1, ?_⟩⟩, fun z => absurd rfl z⟩) (fun q => ⟨fun z => absurd z (by decide), fun _ => hP _ ⟨M0.1.1, m_bad M0 F0 (h1 (Or.inr q))⟩⟩)⟩⟩) (fun q => ⟨fun _ => hP _ ⟨M0.1.1, m_bad M0 F0 (h1 (Or.inl q))⟩, fun z => absurd z (by decide)⟩)⟩
  subst e
  exact m_comesTo M0 hW F0 z0 hi (fun a ha => rtN_ob hW hx ha) (h2 i hi rfl hx)
theorem m_kind (hM : MJ g h A S) (hW : WF S) {x1 : Int32} (h1 : ¬ inR S x1 → MQ_ g h A S 1 0 Q) (h2 : ∀ i, i < nt S → x1 = nI i → MQ_ g h A S 0 (match rt S i with | none => -1 | some a => kd S a) Q) : vc_X7_kind (A 40) x1 h Q := by
  obtain ⟨M0, F0, z0⟩ := m_start hM
  refine ⟨hM.1.1, m_none M0 hW (fun i hi e => ⟨fun _ => ?_, fun z => absurd rfl z⟩) (fun q => ⟨fun z => absurd z (by decide), fun _ => ⟨M0.1.1, m_bad M0 F0 (h1 q)⟩⟩)⟩
  subst e
  have ho := hW.2.2.2.2.2.2.2.2.2.2 i hi
  have h3 := h2 i hi rfl _ M0 F0 z0
  generalize pI h 40 (A 40) 0 = H at *
  refine ⟨M0.1.1, A 61, M0.1.r k61, M0.1.t k61 rfl, M0.rv hW hi, ?_⟩
  rw [M0.root hW hi]
  refine ⟨fun q => ⟨M0.rv hW hi, A 42, M0.1.r k42, M0.1.t k42 rfl, ?_⟩, fun q => ?_⟩
  · cases hr : rt S i with
    | none => rw [hr] at q; exact absurd rfl q
    | some a =>
      have ha := ho a hr
      rw [hr] at h3
      refine ⟨M0.ix ha k42 (by decide), ?_⟩
      show Q (.inl (some (vi (aI H (A 42) (nI (num g a)).toNatClampNeg)))) H
      rw [M0.clamp ha, (M0.2.2.2.2 a ha).1.1]; exact h3
  · rw [(M0.encz ho).mp q] at h3; exact h3
theorem m_same (hM : MJ g h A S) (hW : WF S) {x1 x2 : Int32} (h1 : ¬ inR S x1 ∨ ¬ inR S x2 → MQ_ g h A S 1 0 Q) (h2 : ∀ i j, i < nt S → x1 = nI i → j < nt S → x2 = nI j → MQ_ g h A S 0 (if rt S i = rt S j then 1 else 0) Q) : vc_X7_same (A 40) x1 x2 h Q := by
  obtain ⟨M0, F0, z0⟩ := m_start hM
  intro P hP
  have bad : (¬ inR S x1 ∨ ¬ inR S x2) → P (pI h 40 (A 40) 0) := fun q => hP _ ⟨M0.1.1, (m_bad M0 F0 (h1 q)).2⟩
  refine ⟨hM.1.1, m_none M0 hW (fun i hi e => ⟨fun z => absurd rfl z, fun _ => ⟨M0.1.1, m_none M0 hW (fun j hj e2 => ⟨fun _ => ?_, fun z => absurd rfl z⟩) (fun q => ⟨fun z => absurd z (by decide), fun _ => bad (Or.inr q)⟩)⟩⟩) (fun q => ⟨fun _ => bad (Or.inl q), fun z => absurd z (by decide)⟩)⟩
  subst e; subst e2
  have hoi := hW.2.2.2.2.2.2.2.2.2.2 i hi
  have hoj := hW.2.2.2.2.2.2.2.2.2.2 j hj
  have h3 := h2 i j hi rfl hj rfl _ M0 F0 z0
  generalize pI h 40 (A 40) 0 = H at *
  refine ⟨M0.1.1, A 61, M0.1.r k61, M0.1.t k61 rfl, M0.rv hW hi, M0.rv hW hj, ?_⟩
  rw [M0.root hW hi, M0.root hW hj]
  have key : enc g (rt S i) = enc g (rt S j) ↔ rt S i = rt S j := by
    refine ⟨fun e => ?_, fun e => by rw [e]⟩
    cases hr : rt S i with
    | none =>
      rw [hr] at e
      exact ((M0.encz hoj).mp e.symm).symm
    | some a =>
      cases hr2 : rt S j with
      | none => rw [hr, hr2] at e; exact absurd e (M0.nz (hoi a hr))
      | some c =>
        rw [hr, hr2] at e
        have n1 := M0.nm (hoi a hr); have n2 := M0.nm (hoj c hr2)
        have := nI_inj (by omega) (by omega) e
        rw [M0.2.2.2.1.2.1 a (hoi a hr) c (hoj c hr2) this]
  refine ⟨fun q => ?_, fun q => ?_⟩
  · rw [if_neg (fun e => q (key.mpr e))] at h3; exact h3
  · rw [if_pos (key.mp q)] at h3; exact h3
theorem m_every (hM : MJ g h A S) {x1 : Int32} (h1 : x1 < 0 → MQ_ g h A S 1 0 Q) (h2 : ¬ x1 < 0 → MQ_ g h A S 0 x1 Q) : vc_X7_every (A 40) x1 h Q := by
  obtain ⟨M0, F0, z0⟩ := m_start hM
  exact ⟨hM.1.1, fun q => h2 (i32_nlt.mpr q) _ M0 F0 z0, fun q => m_bad M0 F0 (h1 (i32_nle.mp q))⟩
theorem m_count (hM : MJ g h A S) (hW : WF S) {x1 : Int32} (h1 : ¬ (0 ≤ x1 ∧ x1 ≤ 9) → MQ_ g h A S 1 0 Q) (h2 : ∀ k, k < 10 → x1 = nI k → MQ_ g h A S 0 (cn S k) Q) : vc_X7_count (A 40) x1 h Q := by
  obtain ⟨M0, F0, z0⟩ := m_start hM
  obtain ⟨g1, g2, g3, g4, g5, g6, g7, g8, g9, g10, g11, g12, g13, g14, g15, g16⟩ := hM.2.1
  obtain ⟨w1, w2, w3, w4, w5, w6, w7, w8, -⟩ := hW
  have go : ∀ k, k < 10 → x1 = nI k → Q (.inl (some (vi (cn S k)))) (pI h 40 (A 40) 0) := fun k hk e => h2 k hk e _ M0 F0 z0
  refine ⟨hM.1.1, fun e => ?_, fun e => ?_, fun e => ?_, fun e => ?_, fun e => ?_, fun e => ?_, fun e => ?_, fun e => ?_, fun e => ?_, fun e => ?_, fun e => m_bad M0 F0 (h1 fun q => ?_)⟩
  · rw [g3, ← w6]; exact go 0 (by decide) e
  · rw [g8, ← w7]; exact go 1 (by decide) e
  · rw [g9]; exact go 2 (by decide) e
  · rw [g10]; exact go 3 (by decide) e
  · rw [g11]; exact go 4 (by decide) e
  · rw [g12]; exact go 5 (by decide) e
  · rw [g13]; exact go 6 (by decide) e
  · rw [g6, ← w8]; exact go 7 (by decide) e
  · rw [g14]; exact go 8 (by decide) e
  · rw [g15]; exact go 9 (by decide) e
  · have a := Int32.le_iff_toInt_le.mp q.1
    have b := Int32.le_iff_toInt_le.mp q.2
    have e0 : (0 : Int32).toInt = 0 := rfl
    have e9 : (9 : Int32).toInt = 9 := by decide
    omega
end MOPS
