/-! The model's methods on refs, numbers, referents. -/
section MOP2
variable {g : Gh} {h : Hp} {A : Nat → Nat} {S : St} {Q : Option AV ⊕ String → Hp → Prop}
theorem MF.rd (hF : MF h A) {k k' i j : Nat} {v : Int32} (hk : mky k) (hk' : mky k') : aI (qI h (A k) i v) (A k') j = if k' = k ∧ j = i then v else aI h (A k') j := by
  rw [aI_qI]
  by_cases e : k' = k
  · subst e; simp
  · rw [if_neg (fun q => hF.ne hk' hk e q.1), if_neg (fun q => e q.1)]
theorem scM.congr {h' : Hp} (e : aI h' (A 62) = aI h (A 62)) : ∀ {l : List Nat}, scM h A l → scM h' A l
  | [], _ => trivial
  | _ :: _, q => ⟨by rw [e]; exact q.1, scM.congr e q.2⟩
theorem l2i (x : Int32) : x.toInt64.toInt32 = x := Int32.toInt32_toInt64 x
/-- a cell of the row is set -/
theorem MJ.rowOut (hM : MJ g h A S) {a b p : Nat} (ha : a ∈ ob S) (hb : b ∈ ob S) (hne : b ≠ a) (h1 : at_ g a ≤ p) (h2 : p < at_ g a + (nr S a + nn S a)) : p < at_ g b ∨ at_ g b + (nr S b + nn S b) ≤ p := by
  by_cases e : 0 < nr S b + nn S b
  · rcases hM.2.2.2.1.2.2.2.2.2.2.2.2.2.2.1 b hb a ha hne e (by omega) with q | q
    · exact Or.inr (by omega)
    · exact Or.inl (by omega)
  · omega
theorem MJ.setRef (hM : MJ g h A S) {a k : Nat} (ha : a ∈ ob S) (hk : k < nr S a) (o : Option Nat) : MJ g (qL h (A 56) (at_ g a + k) (enc g o).toInt64) A (wH S (qR S.1 a k o)) := by
  have hM0 := hM
  obtain ⟨m1, m2, m3, m4, m5⟩ := hM
  refine ⟨m1, m2, ⟨m3.1, scM.congr (h := h) (h' := qL h (A 56) (at_ g a + k) (enc g o).toInt64) rfl m3.2⟩, m4, fun b hb => ?_⟩
  obtain ⟨d1, d2, d3, d4⟩ := m5 b hb
  refine ⟨d1, d2, d3, fun j hj => ?_, fun j hj => ?_⟩
  · rw [aL_qL]
    show _ = (enc g (aR (qR S.1 a k o) b j)).toInt64
    rw [aR_qR]
    by_cases e : b = a
    · subst e
      by_cases ej : j = k
      · simp [ej]
      · rw [if_neg (fun q => ej (by omega)), if_neg (fun q => ej q.2)]; exact d4.1 j hj
    · have hj : j < nr S b := hj
      rw [if_neg (fun q => by rcases hM0.rowOut ha hb e (p := at_ g a + k) (by omega) (by omega) with z | z <;> omega), if_neg (fun q => e q.1)]
      exact d4.1 j hj
  · rw [aL_qL]
    by_cases e : b = a
    · subst e
      have : nr (wH S (qR S.1 b k o)) b = nr S b := rfl
      rw [if_neg (fun q => by have := q.2; omega)]; exact d4.2 j hj
    · have hj : j < nn S b := hj
      have : nr (wH S (qR S.1 a k o)) b = nr S b := rfl
      rw [if_neg (fun q => by rcases hM0.rowOut ha hb e (p := at_ g a + k) (by omega) (by omega) with z | z <;> omega)]
      exact d4.2 j hj
theorem MJ.setNum (hM : MJ g h A S) {a k : Nat} (ha : a ∈ ob S) (hk : k < nn S a) (z : Int64) : MJ g (qL h (A 56) (at_ g a + nr S a + k) z) A (wH S (qL S.1 a k z)) := by
  have hM0 := hM
  obtain ⟨m1, m2, m3, m4, m5⟩ := hM
  refine ⟨m1, m2, ⟨m3.1, scM.congr (h := h) (h' := qL h (A 56) (at_ g a + nr S a + k) z) rfl m3.2⟩, m4, fun b hb => ?_⟩
  obtain ⟨d1, d2, d3, d4⟩ := m5 b hb
  refine ⟨d1, d2, d3, fun j hj => ?_, fun j hj => ?_⟩
  · have hj : j < nr S b := hj
    rw [aL_qL]
    by_cases e : b = a
    · subst e
      rw [if_neg (fun q => by omega)]; exact d4.1 j hj
    · rw [if_neg (fun q => by rcases hM0.rowOut ha hb e (p := at_ g a + nr S a + k) (by omega) (by omega) with z | z <;> omega)]
      exact d4.1 j hj
  · have hj : j < nn S b := hj
    have en : nr (wH S (qL S.1 a k z)) b = nr S b := rfl
    rw [aL_qL, en]
    show _ = aL (qL S.1 a k z) b j
    rw [aL_qL]
    by_cases e : b = a
    · subst e
      by_cases ej : j = k
      · simp [ej]
      · rw [if_neg (fun q => ej (by omega)), if_neg (fun q => ej q.2)]; exact d4.2 j hj
    · rw [if_neg (fun q => by rcases hM0.rowOut ha hb e (p := at_ g a + nr S a + k) (by omega) (by omega) with z | z <;> omega), if_neg (fun q => e q.1)]
      exact d4.2 j hj
theorem gt1 {S : St} {a : Nat} (hW : WFa S a) : ((1 : Int32) < kd S a → ¬ (hd (kd S a) ∧ 0 < nr S a)) ∧ (¬ (1 : Int32) < kd S a → hd (kd S a)) := by
  rcases hW.1 with e | e | e
  · refine ⟨fun q => ?_, fun _ => e⟩
    rcases e with e | e | e
    · rw [e] at q; exact absurd q (by decide)
    · rw [e] at q; exact absurd q (by decide)
    · have := hW.2.2.2.1 e; omega
  · refine ⟨fun _ q => no3_hd (by rw [e] at q; exact q.1), fun q => ?_⟩
    rw [e] at q; exact absurd (by decide) q
  · refine ⟨fun _ q => ls_nohd e q.1, fun q => ?_⟩
    rcases e with e | e | e | e <;> rw [e] at q <;> exact absurd (by decide) q
/-- the place of a ref -/
theorem MJ.atv (hM : MJ g h A S) {a j : Nat} (ha : a ∈ ob S) (hj : j < nr S a + nn S a) : nI (at_ g a) + nI j = nI (at_ g a + j) ∧ vp_in (nI (at_ g a + j)) (ln h (A 56)) ∧ (nI (at_ g a + j)).toNatClampNeg = at_ g a + j := by
  have h1 := hM.2.2.2.1.2.2.2.2.2.2.2.2.2.1 a ha
  have h2 := hM.2.2.2.1.2.2.2.2.2.2.2.2.1
  exact ⟨nI_add _ _, hM.1.v k56 (by show at_ g a + j < 31000; omega), nI_clamp (by omega)⟩
theorem m_link (hM : MJ g h A S) (hW : WF S) {x1 x2 x3 : Int32} (h1 : ¬ inR S x1 ∨ x2 < 0 ∨ ¬ inN S x3 → MQ_ g h A S 1 0 Q) (h2 : ∀ i k, i < nt S → x1 = nI i → k < 2 ^ 31 → x2 = nI k → inN S x3 → (∀ a, ¬ isRef S i k a) → MQ_ g h A S 2 0 Q)
    (h3 : ∀ i k a, i < nt S → x1 = nI i → k < 2 ^ 31 → x2 = nI k → inN S x3 → isRef S i k a → MQ_ g h A (wH S (qR S.1 a k (rtN S x3))) 0 (one (rtN S x3)) Q) : vc_X7_link (A 40) x1 x2 x3 h Q := by
  obtain ⟨M0, F0, z0⟩ := m_start hM
  intro P25 P65 q25 q65
  have bad : (¬ inR S x1 ∨ x2 < 0 ∨ ¬ inN S x3) → P25 (pI h 40 (A 40) 0) := fun q => q25 _ ⟨M0.1.1, m_bad M0 F0 (h1 q)⟩
  refine ⟨hM.1.1, m_none M0 hW (fun i hi e => ⟨fun z => absurd rfl z, fun _ => ⟨fun q => bad (Or.inr (Or.inl q)), fun q => ⟨M0.1.1, m_noneOrNull M0 hW (fun hx => ⟨fun _ => ?_, fun z => absurd rfl z⟩) (fun q => ⟨fun z => absurd z (by decide), fun _ => bad (Or.inr (Or.inr q))⟩)⟩⟩⟩) (fun q => ⟨fun _ => bad (Or.inl q), fun z => absurd z (by decide)⟩)⟩
  subst e
  obtain ⟨k, hk, rfl⟩ := nI_ex q
  have ho := hW.2.2.2.2.2.2.2.2.2.2 i hi
  have wrong : (∀ a, ¬ isRef S i k a) → P65 (pI h 40 (A 40) 0) := fun q => q65 _ ⟨M0.1.1, m_wrong M0 F0 (h2 i k hi rfl hk rfl hx q)⟩
  have h3' := fun a => h3 i k a hi rfl hk rfl hx
  generalize pI h 40 (A 40) 0 = H at *
  refine ⟨M0.1.1, A 61, M0.1.r k61, M0.1.t k61 rfl, M0.rv hW hi, ?_⟩
  rw [M0.root hW hi]
  refine ⟨fun q => wrong fun a z => ?_, fun q => ⟨A 42, M0.1.r k42, M0.1.t k42 rfl, ?_⟩⟩
  · have := z.1; rw [(M0.encz ho).mp q] at this; cases this
  · cases hr : rt S i with
    | none => rw [hr] at q; exact absurd rfl q
    | some a =>
      have ha := ho a hr
      have h3000 := (hW.2.1 a ha).2.2.2.2.1
      show vp_in (nI (num g a)) (ln H (A 42)) ∧ _
      refine ⟨M0.ix ha k42 (by decide), ?_⟩
      show ((1 : Int32) < aI H (A 42) (nI (num g a)).toNatClampNeg → P65 H) ∧ (¬ (1 : Int32) < aI H (A 42) (nI (num g a)).toNatClampNeg → _)
      rw [M0.clamp ha, (M0.2.2.2.2 a ha).1.1]
      have hg := gt1 (hW.2.1 a ha)
      refine ⟨fun q => wrong fun b z => ?_, fun q => ⟨A 44, M0.1.r k44, M0.1.t k44 rfl, M0.ix ha k44 (by decide), ?_⟩⟩
      · have := z.1; rw [hr] at this; cases this
        exact hg.1 q ⟨z.2.1, by have := z.2.2; omega⟩
      · show (nI k < aI H (A 44) (nI (num g a)).toNatClampNeg → _) ∧ (¬ nI k < aI H (A 44) (nI (num g a)).toNatClampNeg → P65 H)
        rw [M0.clamp ha, (M0.2.2.2.2 a ha).1.2.2.1]
        refine ⟨fun q2 => ?_, fun q2 => wrong fun b z => ?_⟩
        · have hkr := (nI_lt' hk (by omega)).mp q2
          refine ⟨A 43, M0.1.r k43, M0.1.t k43 rfl, M0.ix ha k43 (by decide), m_of M0 hW hx ?_⟩
          show ∃ a26 : Nat, fR H 56 (A 40) = some a26 ∧ tg H a26 = 9 ∧ vp_in (aI H (A 43) (nI (num g a)).toNatClampNeg + nI k) (ln H a26) ∧ tg H (A 40) = 7 ∧ vc_X7_of (A 40) x3 (qL H a26 ((aI H (A 43) (nI (num g a)).toNatClampNeg + nI k).toNatClampNeg) (enc g (rtN S x3)).toInt64) _
          rw [M0.clamp ha, (M0.2.2.2.2 a ha).1.2.1]
          obtain ⟨e1, e2, e3⟩ := M0.atv ha (j := k) (by omega)
          rw [e1, e3]
          refine ⟨A 56, M0.1.r k56, M0.1.t k56 rfl, e2, M0.1.1, ?_⟩
          have M1 := M0.setRef ha hkr (rtN S x3)
          have hR := h3' a ⟨hr, hg.2 q, hkr⟩ _ M1 (F0.qL k56) z0
          generalize qL H (A 56) (at_ g a + k) (enc g (rtN S x3)).toInt64 = H1 at *
          have e61 : aI H1 (A 61) = aI H1 (A 61) := rfl
          refine m_of (S := wH S (qR S.1 a k (rtN S x3))) M1 ?_ hx ?_
          · -- WF of the changed state, for the roots' range alone
            refine ⟨hW.1, fun b hb => ?_, hW.2.2⟩
            obtain ⟨v1, v2, v3, v4, v5, v6, v7, v8, v9⟩ := hW.2.1 b hb
            refine ⟨v1, v2, v3, v4, v5, v6, fun j hj c hc => ?_, v8, v9⟩
            have hc : aR (qR S.1 a k (rtN S x3)) b j = some c := hc
            rw [aR_qR] at hc
            split at hc
            · exact rtN_ob hW hx hc
            · exact v7 j hj c hc
          · show (¬ enc g (rtN S x3) = 0 → Q (.inl (some (vi 1))) H1) ∧ (enc g (rtN S x3) = 0 → Q (.inl (some (vi 0))) H1)
            have hz := M0.encz (fun c hc => rtN_ob hW hx hc)
            unfold one at hR
            refine ⟨fun z => ?_, fun z => ?_⟩
            · rw [if_neg (fun e => z (hz.mpr e))] at hR; exact hR
            · rw [if_pos (hz.mp z)] at hR; exact hR
        · have := z.1; rw [hr] at this; cases this
          exact q2 ((nI_lt' hk (by omega)).mpr z.2.2)
theorem m_fetch (hM : MJ g h A S) (hW : WF S) {x1 x2 x3 : Int32} (h1 : ¬ inR S x1 ∨ ¬ inR S x2 ∨ x3 < 0 → MQ_ g h A S 1 0 Q) (h2 : ∀ i j k, i < nt S → x1 = nI i → j < nt S → x2 = nI j → k < 2 ^ 31 → x3 = nI k → (∀ a, ¬ isRef S j k a) → MQ_ g h A S 2 0 Q)
    (h3 : ∀ i j k a, i < nt S → x1 = nI i → j < nt S → x2 = nI j → k < 2 ^ 31 → x3 = nI k → isRef S j k a → MQ_ g h A (wR S i (rf S a k)) 0 (one (rf S a k)) Q) : vc_X7_fetch (A 40) x1 x2 x3 h Q := by
  obtain ⟨M0, F0, z0⟩ := m_start hM
  intro P25 P65 q25 q65
  have bad : (¬ inR S x1 ∨ ¬ inR S x2 ∨ x3 < 0) → P25 (pI h 40 (A 40) 0) := fun q => q25 _ ⟨M0.1.1, m_bad M0 F0 (h1 q)⟩
  refine ⟨hM.1.1, m_none M0 hW (fun i hi e => ⟨fun z => absurd rfl z, fun _ => ⟨M0.1.1, m_none M0 hW (fun j hj e2 => ⟨fun z => absurd rfl z, fun _ => ⟨fun q => ?_, fun q => bad (Or.inr (Or.inr (i32_nle.mp q)))⟩⟩) (fun q => ⟨fun _ => bad (Or.inr (Or.inl q)), fun z => absurd z (by decide)⟩)⟩⟩) (fun q => ⟨fun _ => bad (Or.inl q), fun z => absurd z (by decide)⟩)⟩
  subst e; subst e2
  obtain ⟨k, hk, rfl⟩ := nI_ex' q
  have ho := hW.2.2.2.2.2.2.2.2.2.2 j hj
  have wrong : (∀ a, ¬ isRef S j k a) → P65 (pI h 40 (A 40) 0) := fun q => q65 _ ⟨M0.1.1, m_wrong M0 F0 (h2 i j k hi rfl hj rfl hk rfl q)⟩
  have h3' := fun a => h3 i j k a hi rfl hj rfl hk rfl
  generalize pI h 40 (A 40) 0 = H at *
  refine ⟨M0.1.1, A 61, M0.1.r k61, M0.1.t k61 rfl, M0.rv hW hj, ?_⟩
  rw [M0.root hW hj]
  refine ⟨fun q => wrong fun a z => ?_, fun q => ⟨A 42, M0.1.r k42, M0.1.t k42 rfl, ?_⟩⟩
  · have := z.1; rw [(M0.encz ho).mp q] at this; cases this
  · cases hr : rt S j with
    | none => rw [hr] at q; exact absurd rfl q
    | some a =>
      have ha := ho a hr
      have h3000 := (hW.2.1 a ha).2.2.2.2.1
      show vp_in (nI (num g a)) (ln H (A 42)) ∧ _
      refine ⟨M0.ix ha k42 (by decide), ?_⟩
      show ((1 : Int32) < aI H (A 42) (nI (num g a)).toNatClampNeg → P65 H) ∧ (¬ (1 : Int32) < aI H (A 42) (nI (num g a)).toNatClampNeg → _)
      rw [M0.clamp ha, (M0.2.2.2.2 a ha).1.1]
      have hg := gt1 (hW.2.1 a ha)
      refine ⟨fun q => wrong fun b z => ?_, fun q => ⟨A 44, M0.1.r k44, M0.1.t k44 rfl, M0.ix ha k44 (by decide), ?_⟩⟩
      · have := z.1; rw [hr] at this; cases this
        exact hg.1 q ⟨z.2.1, by have := z.2.2; omega⟩
      · show (nI k < aI H (A 44) (nI (num g a)).toNatClampNeg → _) ∧ (¬ nI k < aI H (A 44) (nI (num g a)).toNatClampNeg → P65 H)
        rw [M0.clamp ha, (M0.2.2.2.2 a ha).1.2.2.1]
        refine ⟨fun q2 => ?_, fun q2 => wrong fun b z => ?_⟩
        · have hkr := (nI_lt' hk (by omega)).mp q2
          refine ⟨A 43, M0.1.r k43, M0.1.t k43 rfl, M0.ix ha k43 (by decide), A 56, M0.1.r k56, M0.1.t k56 rfl, ?_⟩
          show vp_in (aI H (A 43) (nI (num g a)).toNatClampNeg + nI k) (ln H (A 56)) ∧ vc_X7_comesTo (A 40) (nI i) ((aL H (A 56) ((aI H (A 43) (nI (num g a)).toNatClampNeg + nI k).toNatClampNeg)).toInt32) H _
          rw [M0.clamp ha, (M0.2.2.2.2 a ha).1.2.1]
          obtain ⟨e1, e2, e3⟩ := M0.atv ha (j := k) (by omega)
          rw [e1, e3, (M0.2.2.2.2 a ha).2.2.2.1 k hkr, l2i]
          exact ⟨e2, m_comesTo M0 hW F0 z0 hi (fun c hc => (hW.2.1 a ha).2.2.2.2.2.2.1 k hkr c hc) (h3' a ⟨hr, hg.2 q, hkr⟩)⟩
        · have := z.1; rw [hr] at this; cases this
          exact q2 ((nI_lt' hk (by omega)).mpr z.2.2)
end MOP2
