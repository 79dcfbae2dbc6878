/-! The model: give, hash, clear, poll. -/
section MOP4
variable {g : Gh} {h : Hp} {A : Nat → Nat} {S : St} {Q : Option AV ⊕ String → Hp → Prop}
theorem kd_nn {S : St} {a : Nat} (hW : WFa S a) : kd S a ≠ -1 := by
  rcases hW.1 with (e | e | e) | e | (e | e | e | e) <;> rw [e] <;> decide
theorem MJ.flne (hM : MJ g h A S) (hW : WF S) {o a : Nat} (ho : o ∈ fl_ g) (ha : a ∈ ob S) : o ≠ num g a := fun e => by
  have h1 := (hM.2.2.2.1.2.2.2.2.2.1.1 o ho).2.2
  rw [e, (hM.2.2.2.2 a ha).1.1] at h1
  exact kd_nn (hW.2.1 a ha) h1
theorem MJ.inj (hM : MJ g h A S) {a b : Nat} (ha : a ∈ ob S) (hb : b ∈ ob S) (hne : a ≠ b) : num g a ≠ num g b := fun e => hne (hM.2.2.2.1.2.1 a ha b hb e)
theorem mch_congr {nx nx' : Nat → Int32} : ∀ {l : List Nat}, mch nx l → (∀ o ∈ l, nx' o = nx o) → mch nx' l
  | [], _, _ => trivial
  | _ :: _, q, e => ⟨by rw [e _ List.mem_cons_self]; exact q.1, mch_congr q.2 fun o ho => e o (List.mem_cons_of_mem _ ho)⟩
theorem mch_snoc {nx nx' : Nat → Int32} {a : Nat} : ∀ {l : List Nat}, mch nx l → (∀ b ∈ l, some b ≠ l.getLast? → nx' b = nx b) → (∀ b, l.getLast? = some b → nx' b = nI a) → nx' a = 0 → l.Nodup → mch nx' (l ++ [a])
  | [], _, _, _, h, _ => ⟨h, trivial⟩
  | [b], _, _, h2, h, _ => ⟨h2 b rfl, h, trivial⟩
  | b :: c :: l, hl, h1, h2, h, hn => by
    have hn' := List.nodup_cons.mp hn
    refine ⟨?_, mch_snoc (l := c :: l) hl.2 (fun d hd hne => h1 d (List.mem_cons_of_mem _ hd) (by simpa using hne)) (fun d hd => h2 d (by simpa using hd)) h hn'.2⟩
    rw [h1 b List.mem_cons_self (fun e => ?_)]
    · exact hl.1
    · have hm : b ∈ c :: l := List.mem_of_getLast? (by simpa using e.symm)
      exact hn'.1 hm
theorem MJ.setL (hM : MJ g h A S) {a k kk : Nat} (ha : a ∈ ob S) (hl : ls (kd S a)) (hk : (k = 48 ∧ kk = 13) ∨ (k = 49 ∧ kk = 14)) (o : Option Nat) : MJ g (qI h (A k) (num g a) (enc g o)) A (wH S (pR S.1 kk a o)) := by
  have hM0 := hM
  obtain ⟨m1, m2, m3, m4, m5⟩ := hM
  have hky : mky k := by rcases hk with ⟨rfl, -⟩ | ⟨rfl, -⟩; exact k48; exact k49
  have e : ∀ k', mky k' → k' ≠ k → aI (qI h (A k) (num g a) (enc g o)) (A k') = aI h (A k') := fun k' hk' q => aIx _ _ _ _ _ (m1.ne hk' hky q)
  have nk : ∀ k', (k' < 48 ∨ 49 < k') → k' ≠ k := fun k' q => by rcases hk with ⟨rfl, -⟩ | ⟨rfl, -⟩ <;> omega
  have e' : ∀ k', mky k' → (k' < 48 ∨ 49 < k') → aI (qI h (A k) (num g a) (enc g o)) (A k') = aI h (A k') := fun k' hk' q => e k' hk' (nk k' q)
  refine ⟨m1, m2, ⟨by rw [e' 61 k61 (by omega)]; exact m3.1, scM.congr (h := h) (e' 62 k62 (by omega)) m3.2⟩, by unfold MN; rw [e' 42 k42 (by omega), e' 47 k47 (by omega)]; exact m4, fun b hb => ?_⟩
  obtain ⟨d1, d2, d3, d4⟩ := m5 b hb
  have rdb : ∀ k', mky k' → b ≠ a → aI (qI h (A k) (num g a) (enc g o)) (A k') (num g b) = aI h (A k') (num g b) := fun k' hk' hne => by
    rw [m1.rd hky hk', if_neg (fun q => hM0.inj hb ha hne q.2)]
  refine ⟨?_, fun kl => ?_, fun kq => ?_, d4⟩
  · unfold MOd; rw [e' 42 k42 (by omega), e' 43 k43 (by omega), e' 44 k44 (by omega), e' 45 k45 (by omega), e' 46 k46 (by omega)]; exact d1
  · obtain ⟨o1, o2, o3, o4, o5⟩ := d2 kl
    refine ⟨?_, ?_, fun z => ?_, by rw [e' 52 k52 (by omega)]; exact o4, by rw [e' 51 k51 (by omega)]; exact o5⟩
    · show _ = enc g (fR (pR S.1 kk a o) 13 b)
      rw [m1.rd hky k48, fR_pR]
      by_cases eb : b = a
      · subst eb
        rcases hk with ⟨rfl, rfl⟩ | ⟨rfl, rfl⟩
        · simp
        · simp; exact o1
      · rw [if_neg (fun q => hM0.inj hb ha eb q.2), if_neg (fun q => eb q.2)]; exact o1
    · show _ = enc g (fR (pR S.1 kk a o) 14 b)
      rw [m1.rd hky k49, fR_pR]
      by_cases eb : b = a
      · subst eb
        rcases hk with ⟨rfl, rfl⟩ | ⟨rfl, rfl⟩
        · simp; exact o2
        · simp
      · rw [if_neg (fun q => hM0.inj hb ha eb q.2), if_neg (fun q => eb q.2)]; exact o2
    · show _ = enc g (fR (pR S.1 kk a o) 15 b)
      rw [e' 50 k50 (by omega), fRx _ _ _ _ _ (by rcases hk with ⟨-, rfl⟩ | ⟨-, rfl⟩ <;> decide)]; exact o3 z
  · have hne : b ≠ a := fun q => by subst q; exact no3_ls (by rw [show kd S b = 3 from kq] at hl; exact hl)
    obtain ⟨o1, o2, o3, o4⟩ := d3 kq
    exact ⟨by rw [rdb 48 k48 hne]; exact o1, by rw [rdb 49 k49 hne]; exact o2, by rw [e' 51 k51 (by omega)]; exact o3, by rw [e' 47 k47 (by omega)]; exact o4⟩
theorem m_give (hM : MJ g h A S) (hW : WF S) {x1 x2 : Int32} (h1 : ¬ inR S x1 ∨ ¬ inN S x2 → MQ_ g h A S 1 0 Q) (h2 : ∀ i, i < nt S → x1 = nI i → inN S x2 → (∀ a, rt S i = some a → ¬ kd S a = 7) → MQ_ g h A S 2 0 Q)
    (h3 : ∀ i a, i < nt S → x1 = nI i → inN S x2 → rt S i = some a → kd S a = 7 → re S a = none → MQ_ g h A S 0 0 Q)
    (h4 : ∀ i a, i < nt S → x1 = nI i → inN S x2 → rt S i = some a → kd S a = 7 → re S a ≠ none → MQ_ g h A (wH S (pR S.1 14 a (rtN S x2))) 0 1 Q) : vc_X7_give (A 40) x1 x2 h Q := by
  obtain ⟨M0, F0, z0⟩ := m_start hM
  intro P21 q21
  have bad : (¬ inR S x1 ∨ ¬ inN S x2) → P21 (pI h 40 (A 40) 0) := fun q => q21 _ ⟨M0.1.1, m_bad M0 F0 (h1 q)⟩
  refine ⟨hM.1.1, m_none M0 hW (fun i hi e => ⟨fun z => absurd rfl z, fun _ => ⟨M0.1.1, m_noneOrNull M0 hW (fun hx => ⟨fun _ => ⟨M0.1.1, ?_⟩, fun z => absurd rfl z⟩) (fun q => ⟨fun z => absurd z (by decide), fun _ => bad (Or.inr q)⟩)⟩⟩) (fun q => ⟨fun _ => bad (Or.inl q), fun z => absurd z (by decide)⟩)⟩
  subst e
  refine m_is M0 hW hi (fun a hr k => ⟨fun _ => ?_, fun z => absurd z (by decide)⟩) (fun q => ⟨fun z => absurd rfl z, fun _ => ⟨M0.1.1, m_wrong M0 F0 (h2 i hi rfl hx q)⟩⟩)
  have ha := hW.2.2.2.2.2.2.2.2.2.2 i hi a hr
  have hl : ls (kd S a) := by rw [k]; exact ls7
  have w := (hW.2.1 a ha).2.2.2.2.2.2.2.1 hl
  have h3' := fun e => h3 i a hi rfl hx hr k e _ M0 F0 z0
  have h4' := h4 i a hi rfl hx hr k
  clear bad
  generalize pI h 40 (A 40) 0 = H at *
  obtain ⟨o1, o2, o3, o4, o5⟩ := (M0.2.2.2.2 a ha).2.1 hl
  refine ⟨M0.1.1, A 61, M0.1.r k61, M0.1.t k61 rfl, M0.rv hW hi, A 48, M0.1.r k48, M0.1.t k48 rfl, ?_⟩
  rw [M0.root hW hi, hr]
  show vp_in (nI (num g a)) (ln H (A 48)) ∧ _
  refine ⟨M0.ix ha k48 (by decide), ?_⟩
  show (¬ aI H (A 48) (nI (num g a)).toNatClampNeg = 0 → vp_in (nI i) (ln H (A 61)) ∧ vc_X7_of (A 40) x2 H (qi (fun v21 h20 => ∃ a22 : Nat, fR H 49 (A 40) = some a22 ∧ tg h20 a22 = 8 ∧ vp_in (nI (num g a)) (ln h20 a22) ∧ Q (.inl (some (vi 1))) (qI h20 a22 (nI (num g a)).toNatClampNeg v21)) qn)) ∧ (aI H (A 48) (nI (num g a)).toNatClampNeg = 0 → Q (.inl (some (vi 0))) H)
  rw [M0.clamp ha, o1]
  refine ⟨fun q => ⟨M0.rv hW hi, m_of M0 hW hx ⟨A 49, M0.1.r k49, M0.1.t k49 rfl, M0.ix ha k49 (by decide), ?_⟩⟩, fun q => h3' ((M0.encz w.1).mp q)⟩
  exact h4' (fun e => q ((M0.encz w.1).mpr e)) _ (M0.setL ha hl (Or.inr ⟨rfl, rfl⟩) _) (F0.qI k49) z0
theorem MJ.setHash (hM : MJ g h A S) {a : Nat} (ha : a ∈ ob S) (x : Int32) : MJ g (qI (pI h 71 (A 40) x) (A 46) (num g a) x) A (wH (wC S 8 x) (pI S.1 2 a x)) := by
  have hM0 := hM
  obtain ⟨m1, m2, m3, m4, m5⟩ := hM
  have e : ∀ k', mky k' → k' ≠ 46 → aI (qI (pI h 71 (A 40) x) (A 46) (num g a) x) (A k') = aI h (A k') := fun k' hk' q => aIx _ _ _ _ _ (m1.ne hk' k46 q)
  have es : ∀ k, k ≠ 2 → fI (pI S.1 2 a x) k = fI S.1 k := fun k q => fIx _ _ _ _ _ q
  have e0 := es 0 (by decide); have e16 := es 16 (by decide)
  have hu : us (wH (wC S 8 x) (pI S.1 2 a x)) = us S := by
    show ((ob S).map (fun b => clN (fI (pI S.1 2 a x) 0 b) _)).sum = _
    rw [e0]; rfl
  have eg : ∀ k', k' ≠ 71 → fI (qI (pI h 71 (A 40) x) (A 46) (num g a) x) k' (A 40) = fI h k' (A 40) := fun k' q => by rw [fI_qI, fIx _ _ _ _ _ q]
  refine ⟨m1, ?_, ⟨by rw [e 61 k61 (by decide)]; exact m3.1, scM.congr (h := h) (e 62 k62 (by decide)) m3.2⟩, ?_, fun b hb => ?_⟩
  · obtain ⟨g1, g2, g3, g4, g5, g6, g7, g8, g9, g10, g11, g12, g13, g14, g15, g16⟩ := m2
    refine ⟨by rw [eg 41 (by decide)]; exact g1, by rw [eg 57 (by decide)]; exact g2, by rw [eg 58 (by decide), hu]; exact g3, by rw [eg 59 (by decide)]; exact g4, by rw [eg 60 (by decide)]; exact g5, by rw [eg 63 (by decide)]; exact g6, by rw [eg 64 (by decide)]; exact g7, by rw [eg 65 (by decide)]; exact g8, ?_, ?_, ?_, ?_, ?_, ?_, ?_, by rw [eg 73 (by decide)]; exact g16⟩
    · rw [eg 66 (by decide)]; show _ = up1 (cn S) 8 x 2; rw [up1_ne (by decide)]; exact g9
    · rw [eg 67 (by decide)]; show _ = up1 (cn S) 8 x 3; rw [up1_ne (by decide)]; exact g10
    · rw [eg 68 (by decide)]; show _ = up1 (cn S) 8 x 4; rw [up1_ne (by decide)]; exact g11
    · rw [eg 69 (by decide)]; show _ = up1 (cn S) 8 x 5; rw [up1_ne (by decide)]; exact g12
    · rw [eg 70 (by decide)]; show _ = up1 (cn S) 8 x 6; rw [up1_ne (by decide)]; exact g13
    · rw [fI_qI, fI_pI, if_pos ⟨rfl, rfl⟩]; exact (up1_same (cn S) 8 x).symm
    · rw [eg 72 (by decide)]; show _ = up1 (cn S) 8 x 9; rw [up1_ne (by decide)]; exact g15
  · unfold MN; rw [e 42 k42 (by decide), e 47 k47 (by decide)]
    show (∀ a ∈ ob S, 1 ≤ num g a ∧ num g a < nb g) ∧ (∀ a ∈ ob S, ∀ b ∈ ob S, num g a = num g b → a = b) ∧ 1 ≤ nb g ∧ nb g ≤ 15001 ∧ (fl_ g).Nodup ∧ ((∀ o ∈ fl_ g, 1 ≤ o ∧ o < nb g ∧ aI h (A 42) o = -1) ∧ ∀ o, nb g ≤ o → o < 15100 → aI h (A 42) o = -1) ∧ mch (aI h (A 47)) (fl_ g) ∧ (∀ o, 1 ≤ o → o < nb g → o ∈ fl_ g ∨ ∃ a ∈ ob S, num g a = o) ∧ tp g ≤ 31000 ∧
      (∀ a ∈ ob S, at_ g a + (nr S a + nn S a) ≤ tp g) ∧ (∀ a ∈ ob S, ∀ b ∈ ob S, a ≠ b → 0 < nr S a + nn S a → 0 < nr S b + nn S b → at_ g a + (nr S a + nn S a) ≤ at_ g b ∨ at_ g b + (nr S b + nn S b) ≤ at_ g a) ∧
      (ob S).Pairwise (fun c b => ls (fI (pI S.1 2 a x) 0 c) → ls (fI (pI S.1 2 a x) 0 b) → rk g c < rk g b) ∧ ∀ c ∈ ob S, ls (fI (pI S.1 2 a x) 0 c) → rk g c < rK g
    rw [e0]; exact m4
  · obtain ⟨d1, d2, d3, d4⟩ := m5 b hb
    refine ⟨?_, fun kl => ?_, fun kq => ?_, d4⟩
    · unfold MOd; rw [e 42 k42 (by decide), e 43 k43 (by decide), e 44 k44 (by decide), e 45 k45 (by decide)]
      refine ⟨?_, d1.2.1, d1.2.2.1, d1.2.2.2.1, ?_⟩
      · show _ = fI (pI S.1 2 a x) 0 b; rw [e0]; exact d1.1
      · show _ = fI (pI S.1 2 a x) 2 b
        rw [aI_qI, fI_pI]
        by_cases eb : b = a
        · subst eb; simp
        · rw [if_neg (fun q => hM0.inj hb ha eb q.2), if_neg (fun q => eb q.2)]; exact d1.2.2.2.2
    · have kl : ls (fI (pI S.1 2 a x) 0 b) := kl
      rw [e0] at kl
      obtain ⟨o1, o2, o3, o4, o5⟩ := d2 kl
      unfold MOl
      rw [e 48 k48 (by decide), e 49 k49 (by decide), e 50 k50 (by decide), e 51 k51 (by decide), e 52 k52 (by decide)]
      refine ⟨o1, o2, fun z => o3 ?_, ?_, o5⟩
      · have z : fI (pI S.1 2 a x) 16 b = 0 := z
        rw [e16] at z; exact z
      · show _ = fI (pI S.1 2 a x) 16 b; rw [e16]; exact o4
    · have kq : fI (pI S.1 2 a x) 0 b = 3 := kq
      rw [e0] at kq
      have := d3 kq
      unfold MOq at this ⊢
      rw [e 48 k48 (by decide), e 49 k49 (by decide), e 51 k51 (by decide), e 47 k47 (by decide)]; exact this
theorem m_hash (hM : MJ g h A S) (hW : WF S) {x1 : Int32} (h1 : ¬ inR S x1 → MQ_ g h A S 1 0 Q) (h2 : ∀ i, i < nt S → x1 = nI i → rt S i = none → MQ_ g h A S 0 0 Q) (h3 : ∀ i a, i < nt S → x1 = nI i → rt S i = some a → ¬ hs S a = 0 → MQ_ g h A S 0 (hs S a) Q)
    (h4 : ∀ i a, i < nt S → x1 = nI i → rt S i = some a → hs S a = 0 → MQ_ g h A (wH (wC S 8 (cn S 8 + 1)) (pI S.1 2 a (cn S 8 + 1))) 0 (cn S 8 + 1) Q) : vc_X7_hash (A 40) x1 h Q := by
  obtain ⟨M0, F0, z0⟩ := m_start hM
  intro P55 q55
  refine ⟨hM.1.1, m_none M0 hW (fun i hi e => ⟨fun _ => ?_, fun z => absurd rfl z⟩) (fun q => ⟨fun z => absurd z (by decide), fun _ => ⟨M0.1.1, m_bad M0 F0 (h1 q)⟩⟩)⟩
  subst e
  have ho := hW.2.2.2.2.2.2.2.2.2.2 i hi
  have h2' := fun e => h2 i hi rfl e _ M0 F0 z0
  have h3' := fun a e q => h3 i a hi rfl e q _ M0 F0 z0
  have h4' := fun a => h4 i a hi rfl
  generalize pI h 40 (A 40) 0 = H at *
  refine ⟨M0.1.1, A 61, M0.1.r k61, M0.1.t k61 rfl, M0.rv hW hi, ?_⟩
  rw [M0.root hW hi]
  refine ⟨fun q => ?_, fun q => ⟨A 46, M0.1.r k46, M0.1.t k46 rfl, ?_⟩⟩
  · have hr := (M0.encz ho).mp q
    refine q55 _ _ ⟨fun z => absurd q z, fun _ => h2' hr⟩
  · cases hr : rt S i with
    | none => rw [hr] at q; exact absurd rfl q
    | some a =>
      have ha := ho a hr
      have hz := M0.nz ha
      show vp_in (nI (num g a)) (ln H (A 46)) ∧ _
      refine ⟨M0.ix ha k46 (by decide), ?_⟩
      show (¬ aI H (A 46) (nI (num g a)).toNatClampNeg = 0 → P55 (nI (num g a)) H) ∧ (aI H (A 46) (nI (num g a)).toNatClampNeg = 0 → vp_in (nI (num g a)) (ln H (A 46)) ∧ P55 (nI (num g a)) (qI (pI H 71 (A 40) (fI H 71 (A 40) + 1)) (A 46) (nI (num g a)).toNatClampNeg (fI H 71 (A 40) + 1)))
      rw [M0.clamp ha, (M0.2.2.2.2 a ha).1.2.2.2.2, M0.2.1.2.2.2.2.2.2.2.2.2.2.2.2.2.1]
      refine ⟨fun q => q55 _ _ ⟨fun _ => ⟨M0.1.1, A 46, M0.1.r k46, M0.1.t k46 rfl, M0.ix ha k46 (by decide), ?_⟩, fun z => absurd z hz⟩, fun q => ⟨M0.ix ha k46 (by decide), q55 _ _ ⟨fun _ => ?_, fun z => absurd z hz⟩⟩⟩
      · rw [M0.clamp ha, (M0.2.2.2.2 a ha).1.2.2.2.2]; exact h3' a hr q
      · have M1 := M0.setHash ha (cn S 8 + 1)
        have := h4' a hr q _ M1 ((F0.pI (by decide)).qI k46) z0
        refine ⟨M0.1.1, A 46, M0.1.r k46, M0.1.t k46 rfl, M0.ix ha k46 (by decide), ?_⟩
        rw [M0.clamp ha, aI_qI, if_pos ⟨rfl, rfl⟩]; exact this
end MOP4
