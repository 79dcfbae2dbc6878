/-! The conditions of methods, and their walks (m3). -/
def vc_X7_thrown (t : Nat) (h : Hp) (Q : Option AV ⊕ String → Hp → Prop) : Prop :=
    tg h t = 7 ∧ Q (.inl (some (vi (fI h 40 t)))) h
set_option maxRecDepth 20000 in
theorem s_X7_thrown {t : Nat} {h : Hp} {Q : Option AV ⊕ String → Hp → Prop} {lv : Nat} (hlv : lv + 0 ≤ 12) (hv : vc_X7_thrown t h Q) (l : Launch) (D : va_G) (dA : Nat → ClassId) (sz : Nat) (hst : l.stackTraces = false) : Ctr l D dA sz (Cond.code yX7_thrown cX7_thrown 1 (some .int)) yX7_thrown lv [vr (some t)] h 0 0 Q := by
  refine Ctr.of (lo := [some (vr (some t))]) hst (by decide) (by simp [ena, isL]) rfl ?_
  intro G hg hlim C
  unfold vc_X7_thrown at hv
  refine j_aload_n C dX7_thrown_0 rfl ?_
  obtain ⟨g1, hv⟩ := hv
  refine gf_X7_1 C rfl g1 dX7_thrown_1 ?_
  exact j_iret C dX7_thrown_4 (hlim _ _ (by omega) (by omega)) hv
def vc_X7_bad (t : Nat) (h : Hp) (Q : Option AV ⊕ String → Hp → Prop) : Prop :=
    tg h t = 7 ∧ Q (.inl (some (vi (0 : Int32)))) (pI h 40 t (1 : Int32))
set_option maxRecDepth 20000 in
theorem s_X7_bad {t : Nat} {h : Hp} {Q : Option AV ⊕ String → Hp → Prop} {lv : Nat} (hlv : lv + 0 ≤ 12) (hv : vc_X7_bad t h Q) (l : Launch) (D : va_G) (dA : Nat → ClassId) (sz : Nat) (hst : l.stackTraces = false) : Ctr l D dA sz (Cond.code yX7_bad cX7_bad 1 (some .int)) yX7_bad lv [vr (some t)] h 0 0 Q := by
  refine Ctr.of (lo := [some (vr (some t))]) hst (by decide) (by simp [ena, isL]) rfl ?_
  intro G hg hlim C
  unfold vc_X7_bad at hv
  refine j_aload_n C dX7_bad_0 rfl ?_
  refine j_iconst (v := (1 : Int32)) C dX7_bad_1 (by decide) ?_
  obtain ⟨g1, hv⟩ := hv
  refine pf_X7_1 C rfl g1 dX7_bad_2 ?_
  refine j_iconst (v := (0 : Int32)) C dX7_bad_5 (by decide) ?_
  exact j_iret C dX7_bad_6 (hlim _ _ (by omega) (by omega)) hv
def vc_X7_wrong (t : Nat) (h : Hp) (Q : Option AV ⊕ String → Hp → Prop) : Prop :=
    tg h t = 7 ∧ Q (.inl (some (vi (0 : Int32)))) (pI h 40 t (2 : Int32))
set_option maxRecDepth 20000 in
theorem s_X7_wrong {t : Nat} {h : Hp} {Q : Option AV ⊕ String → Hp → Prop} {lv : Nat} (hlv : lv + 0 ≤ 12) (hv : vc_X7_wrong t h Q) (l : Launch) (D : va_G) (dA : Nat → ClassId) (sz : Nat) (hst : l.stackTraces = false) : Ctr l D dA sz (Cond.code yX7_wrong cX7_wrong 1 (some .int)) yX7_wrong lv [vr (some t)] h 0 0 Q := by
  refine Ctr.of (lo := [some (vr (some t))]) hst (by decide) (by simp [ena, isL]) rfl ?_
  intro G hg hlim C
  unfold vc_X7_wrong at hv
  refine j_aload_n C dX7_wrong_0 rfl ?_
  refine j_iconst (v := (2 : Int32)) C dX7_wrong_1 (by decide) ?_
  obtain ⟨g1, hv⟩ := hv
  refine pf_X7_1 C rfl g1 dX7_wrong_2 ?_
  refine j_iconst (v := (0 : Int32)) C dX7_wrong_5 (by decide) ?_
  exact j_iret C dX7_wrong_6 (hlim _ _ (by omega) (by omega)) hv
def vc_X7_none (t : Nat) (x1 : Int32) (h : Hp) (Q : Option AV ⊕ String → Hp → Prop) : Prop :=
    ∀ (P12 : Hp → Prop),
    (∀  (h : Hp), (Q (.inl (some (vi (1 : Int32)))) h) → P12 h) →
    ((x1 < 0 → P12 h) ∧ (¬ x1 < 0 → tg h t = 7 ∧ ((x1 < (fI h 63 t) → Q (.inl (some (vi (0 : Int32)))) h) ∧ (¬ x1 < (fI h 63 t) → P12 h))))
set_option maxRecDepth 20000 in
theorem s_X7_none {t : Nat} {x1 : Int32} {h : Hp} {Q : Option AV ⊕ String → Hp → Prop} {lv : Nat} (hlv : lv + 0 ≤ 12) (hv : vc_X7_none t x1 h Q) (l : Launch) (D : va_G) (dA : Nat → ClassId) (sz : Nat) (hst : l.stackTraces = false) : Ctr l D dA sz (Cond.code yX7_none cX7_none 2 (some .boolean)) yX7_none lv [vr (some t), vi x1] h 0 0 Q := by
  refine Ctr.of (lo := [some (vr (some t)), some (vi x1)]) hst (by decide) (by simp [ena, isL]) rfl ?_
  intro G hg hlim C
  unfold vc_X7_none at hv
  have hv := hv (fun  h => J G Q 12 [none, none] [] h 0 0)
  have hv := hv (by
      intro  h hv
      refine j_iconst (v := (1 : Int32)) C dX7_none_12 (by decide) ?_
      refine j_goto (tgt := 17) C dX7_none_13 (by decide) ?_
      exact j_zret C (Or.inr rfl) dX7_none_17 (hlim _ _ (by omega) (by omega)) hv)
  refine j_iload_n C dX7_none_0 rfl ?_
  refine j_if_lt (tgt := 12) C dX7_none_1 (by decide) ⟨fun q3 => ?_, fun q3 => ?_⟩
  · have hv := hv.1 q3
    exact j_sub (by exact trivial) hv
  · have hv := hv.2 q3
    refine j_iload_n C dX7_none_4 rfl ?_
    refine j_aload_n C dX7_none_5 rfl ?_
    obtain ⟨g1, hv⟩ := hv
    refine gf_X7_70 C rfl g1 dX7_none_6 ?_
    refine j_icmp_lt (tgt := 16) C dX7_none_9 (by decide) ⟨fun q2 => ?_, fun q2 => ?_⟩
    · have hv := hv.1 q2
      refine j_iconst (v := (0 : Int32)) C dX7_none_16 (by decide) ?_
      exact j_zret C (Or.inl rfl) dX7_none_17 (hlim _ _ (by omega) (by omega)) hv
    · have hv := hv.2 q2
      exact j_sub (by exact trivial) hv
def vc_X7_noneOrNull (t : Nat) (x1 : Int32) (h : Hp) (Q : Option AV ⊕ String → Hp → Prop) : Prop :=
    ∀ (P13 : Hp → Prop),
    (∀  (h : Hp), (Q (.inl (some (vi (1 : Int32)))) h) → P13 h) →
    ((x1 < (-1 : Int32) → P13 h) ∧ (¬ x1 < (-1 : Int32) → tg h t = 7 ∧ ((x1 < (fI h 63 t) → Q (.inl (some (vi (0 : Int32)))) h) ∧ (¬ x1 < (fI h 63 t) → P13 h))))
set_option maxRecDepth 20000 in
theorem s_X7_noneOrNull {t : Nat} {x1 : Int32} {h : Hp} {Q : Option AV ⊕ String → Hp → Prop} {lv : Nat} (hlv : lv + 0 ≤ 12) (hv : vc_X7_noneOrNull t x1 h Q) (l : Launch) (D : va_G) (dA : Nat → ClassId) (sz : Nat) (hst : l.stackTraces = false) : Ctr l D dA sz (Cond.code yX7_noneOrNull cX7_noneOrNull 2 (some .boolean)) yX7_noneOrNull lv [vr (some t), vi x1] h 0 0 Q := by
  refine Ctr.of (lo := [some (vr (some t)), some (vi x1)]) hst (by decide) (by simp [ena, isL]) rfl ?_
  intro G hg hlim C
  unfold vc_X7_noneOrNull at hv
  have hv := hv (fun  h => J G Q 13 [none, none] [] h 0 0)
  have hv := hv (by
      intro  h hv
      refine j_iconst (v := (1 : Int32)) C dX7_noneOrNull_13 (by decide) ?_
      refine j_goto (tgt := 18) C dX7_noneOrNull_14 (by decide) ?_
      exact j_zret C (Or.inr rfl) dX7_noneOrNull_18 (hlim _ _ (by omega) (by omega)) hv)
  refine j_iload_n C dX7_noneOrNull_0 rfl ?_
  refine j_iconst (v := (-1 : Int32)) C dX7_noneOrNull_1 (by decide) ?_
  refine j_icmp_lt (tgt := 13) C dX7_noneOrNull_2 (by decide) ⟨fun q3 => ?_, fun q3 => ?_⟩
  · have hv := hv.1 q3
    exact j_sub (by exact trivial) hv
  · have hv := hv.2 q3
    refine j_iload_n C dX7_noneOrNull_5 rfl ?_
    refine j_aload_n C dX7_noneOrNull_6 rfl ?_
    obtain ⟨g1, hv⟩ := hv
    refine gf_X7_70 C rfl g1 dX7_noneOrNull_7 ?_
    refine j_icmp_lt (tgt := 17) C dX7_noneOrNull_10 (by decide) ⟨fun q2 => ?_, fun q2 => ?_⟩
    · have hv := hv.1 q2
      refine j_iconst (v := (0 : Int32)) C dX7_noneOrNull_17 (by decide) ?_
      exact j_zret C (Or.inl rfl) dX7_noneOrNull_18 (hlim _ _ (by omega) (by omega)) hv
    · have hv := hv.2 q2
      exact j_sub (by exact trivial) hv
def vc_X7_of (t : Nat) (x1 : Int32) (h : Hp) (Q : Option AV ⊕ String → Hp → Prop) : Prop :=
    ((0 ≤ x1 → tg h t = 7 ∧ ∃ a2 : Nat, fR h 61 t = some a2 ∧ tg h a2 = 8 ∧ vp_in x1 (ln h a2) ∧ Q (.inl (some (vi (aI h a2 x1.toNatClampNeg)))) h) ∧ (¬ 0 ≤ x1 → Q (.inl (some (vi (0 : Int32)))) h))
set_option maxRecDepth 20000 in
theorem s_X7_of {t : Nat} {x1 : Int32} {h : Hp} {Q : Option AV ⊕ String → Hp → Prop} {lv : Nat} (hlv : lv + 0 ≤ 12) (hv : vc_X7_of t x1 h Q) (l : Launch) (D : va_G) (dA : Nat → ClassId) (sz : Nat) (hst : l.stackTraces = false) : Ctr l D dA sz (Cond.code yX7_of cX7_of 2 (some .int)) yX7_of lv [vr (some t), vi x1] h 0 0 Q := by
  refine Ctr.of (lo := [some (vr (some t)), some (vi x1)]) hst (by decide) (by simp [ena, isL]) rfl ?_
  intro G hg hlim C
  unfold vc_X7_of at hv
  refine j_iload_n C dX7_of_0 rfl ?_
  refine j_if_ge (tgt := 8) C dX7_of_1 (by decide) ⟨fun q6 => ?_, fun q6 => ?_⟩
  · have hv := hv.1 q6
    refine j_aload_n C dX7_of_8 rfl ?_
    obtain ⟨g1, hv⟩ := hv
    refine gf_X7_64 C rfl g1 dX7_of_9 ?_
    refine j_iload_n C dX7_of_12 rfl ?_
    obtain ⟨a2, e3, hv⟩ := hv
    obtain ⟨g4, hv⟩ := hv
    obtain ⟨b5, hv⟩ := hv
    refine k_iald (j := x1.toNatClampNeg) C e3 g4 b5 rfl dX7_of_13 ?_
    exact j_iret C dX7_of_14 (hlim _ _ (by omega) (by omega)) hv
  · have hv := hv.2 q6
    refine j_iconst (v := (0 : Int32)) C dX7_of_4 (by decide) ?_
    refine j_goto (tgt := 14) C dX7_of_5 (by decide) ?_
    exact j_iret C dX7_of_14 (hlim _ _ (by omega) (by omega)) hv
def vc_X7_is (t : Nat) (x1 : Int32) (x2 : Int32) (h : Hp) (Q : Option AV ⊕ String → Hp → Prop) : Prop :=
    ∀ (P28 : Hp → Prop),
    (∀  (h : Hp), (Q (.inl (some (vi (0 : Int32)))) h) → P28 h) →
    tg h t = 7 ∧ ∃ a2 : Nat, fR h 61 t = some a2 ∧ tg h a2 = 8 ∧ vp_in x1 (ln h a2) ∧ (((aI h a2 x1.toNatClampNeg) = 0 → P28 h) ∧ (¬ (aI h a2 x1.toNatClampNeg) = 0 → vp_in x1 (ln h a2) ∧ ∃ a7 : Nat, fR h 42 t = some a7 ∧ tg h a7 = 8 ∧ vp_in (aI h a2 x1.toNatClampNeg) (ln h a7) ∧ ((¬ (aI h a7 ((aI h a2 x1.toNatClampNeg).toNatClampNeg)) = x2 → P28 h) ∧ ((aI h a7 ((aI h a2 x1.toNatClampNeg).toNatClampNeg)) = x2 → Q (.inl (some (vi (1 : Int32)))) h))))
set_option maxRecDepth 20000 in
theorem s_X7_is {t : Nat} {x1 : Int32} {x2 : Int32} {h : Hp} {Q : Option AV ⊕ String → Hp → Prop} {lv : Nat} (hlv : lv + 0 ≤ 12) (hv : vc_X7_is t x1 x2 h Q) (l : Launch) (D : va_G) (dA : Nat → ClassId) (sz : Nat) (hst : l.stackTraces = false) : Ctr l D dA sz (Cond.code yX7_is cX7_is 3 (some .boolean)) yX7_is lv [vr (some t), vi x1, vi x2] h 0 0 Q := by
  refine Ctr.of (lo := [some (vr (some t)), some (vi x1), some (vi x2)]) hst (by decide) (by simp [ena, isL]) rfl ?_
  intro G hg hlim C
  unfold vc_X7_is at hv
  have hv := hv (fun  h => J G Q 28 [none, none, none] [] h 0 0)
  have hv := hv (by
      intro  h hv
      refine j_iconst (v := (0 : Int32)) C dX7_is_28 (by decide) ?_
      exact j_zret C (Or.inl rfl) dX7_is_29 (hlim _ _ (by omega) (by omega)) hv)
  refine j_aload_n C dX7_is_0 rfl ?_
  obtain ⟨g1, hv⟩ := hv
  refine gf_X7_64 C rfl g1 dX7_is_1 ?_
  refine j_iload_n C dX7_is_4 rfl ?_
  obtain ⟨a2, e3, hv⟩ := hv
  obtain ⟨g4, hv⟩ := hv
  obtain ⟨b5, hv⟩ := hv
  refine k_iald (j := x1.toNatClampNeg) C e3 g4 b5 rfl dX7_is_5 ?_
  refine j_if_eq (tgt := 28) C dX7_is_6 (by decide) ⟨fun q12 => ?_, fun q12 => ?_⟩
  · have hv := hv.1 q12
    exact j_sub (by exact trivial) hv
  · have hv := hv.2 q12
    refine j_aload_n C dX7_is_9 rfl ?_
    refine gf_X7_13 C rfl g1 dX7_is_10 ?_
    refine j_aload_n C dX7_is_13 rfl ?_
    refine gf_X7_64 C rfl g1 dX7_is_14 ?_
    refine j_iload_n C dX7_is_17 rfl ?_
    obtain ⟨b6, hv⟩ := hv
    refine k_iald (j := x1.toNatClampNeg) C e3 g4 b6 rfl dX7_is_18 ?_
    obtain ⟨a7, e8, hv⟩ := hv
    obtain ⟨g9, hv⟩ := hv
    obtain ⟨b10, hv⟩ := hv
    refine k_iald (j := (aI h a2 x1.toNatClampNeg).toNatClampNeg) C e8 g9 b10 rfl dX7_is_19 ?_
    refine j_iload_n C dX7_is_20 rfl ?_
    refine j_icmp_ne (tgt := 28) C dX7_is_21 (by decide) ⟨fun q11 => ?_, fun q11 => ?_⟩
    · have hv := hv.1 q11
      exact j_sub (by exact trivial) hv
    · have hv := hv.2 q11
      refine j_iconst (v := (1 : Int32)) C dX7_is_24 (by decide) ?_
      refine j_goto (tgt := 29) C dX7_is_25 (by decide) ?_
      exact j_zret C (Or.inr rfl) dX7_is_29 (hlim _ _ (by omega) (by omega)) hv
def vc_X7_isLoose (t : Nat) (x1 : Int32) (h : Hp) (Q : Option AV ⊕ String → Hp → Prop) : Prop :=
    ∀ (P18 : Hp → Prop),
    (∀  (h : Hp), (Q (.inl (some (vi (0 : Int32)))) h) → P18 h) →
    ((x1 = 0 → P18 h) ∧ (¬ x1 = 0 → tg h t = 7 ∧ ∃ a2 : Nat, fR h 42 t = some a2 ∧ tg h a2 = 8 ∧ vp_in x1 (ln h a2) ∧ (((aI h a2 x1.toNatClampNeg) < (4 : Int32) → P18 h) ∧ (¬ (aI h a2 x1.toNatClampNeg) < (4 : Int32) → Q (.inl (some (vi (1 : Int32)))) h))))
set_option maxRecDepth 20000 in
theorem s_X7_isLoose {t : Nat} {x1 : Int32} {h : Hp} {Q : Option AV ⊕ String → Hp → Prop} {lv : Nat} (hlv : lv + 0 ≤ 12) (hv : vc_X7_isLoose t x1 h Q) (l : Launch) (D : va_G) (dA : Nat → ClassId) (sz : Nat) (hst : l.stackTraces = false) : Ctr l D dA sz (Cond.code yX7_isLoose cX7_isLoose 2 (some .boolean)) yX7_isLoose lv [vr (some t), vi x1] h 0 0 Q := by
  refine Ctr.of (lo := [some (vr (some t)), some (vi x1)]) hst (by decide) (by simp [ena, isL]) rfl ?_
  intro G hg hlim C
  unfold vc_X7_isLoose at hv
  have hv := hv (fun  h => J G Q 18 [none, none] [] h 0 0)
  have hv := hv (by
      intro  h hv
      refine j_iconst (v := (0 : Int32)) C dX7_isLoose_18 (by decide) ?_
      exact j_zret C (Or.inl rfl) dX7_isLoose_19 (hlim _ _ (by omega) (by omega)) hv)
  refine j_iload_n C dX7_isLoose_0 rfl ?_
  refine j_if_eq (tgt := 18) C dX7_isLoose_1 (by decide) ⟨fun q7 => ?_, fun q7 => ?_⟩
  · have hv := hv.1 q7
    exact j_sub (by exact trivial) hv
  · have hv := hv.2 q7
    refine j_aload_n C dX7_isLoose_4 rfl ?_
    obtain ⟨g1, hv⟩ := hv
    refine gf_X7_13 C rfl g1 dX7_isLoose_5 ?_
    refine j_iload_n C dX7_isLoose_8 rfl ?_
    obtain ⟨a2, e3, hv⟩ := hv
    obtain ⟨g4, hv⟩ := hv
    obtain ⟨b5, hv⟩ := hv
    refine k_iald (j := x1.toNatClampNeg) C e3 g4 b5 rfl dX7_isLoose_9 ?_
    refine j_iconst (v := (4 : Int32)) C dX7_isLoose_10 (by decide) ?_
    refine j_icmp_lt (tgt := 18) C dX7_isLoose_11 (by decide) ⟨fun q6 => ?_, fun q6 => ?_⟩
    · have hv := hv.1 q6
      exact j_sub (by exact trivial) hv
    · have hv := hv.2 q6
      refine j_iconst (v := (1 : Int32)) C dX7_isLoose_14 (by decide) ?_
      refine j_goto (tgt := 19) C dX7_isLoose_15 (by decide) ?_
      exact j_zret C (Or.inr rfl) dX7_isLoose_19 (hlim _ _ (by omega) (by omega)) hv
def vc_X7_cells (x1 : Int32) (x2 : Int32) (h : Hp) (Q : Option AV ⊕ String → Hp → Prop) : Prop :=
    (((2 : Int32) < x1 → ((¬ x1 = (3 : Int32) → ((¬ x1 = (7 : Int32) → Q (.inl (some (vi (4 : Int32)))) h) ∧ (x1 = (7 : Int32) → Q (.inl (some (vi (5 : Int32)))) h))) ∧ (x1 = (3 : Int32) → Q (.inl (some (vi (3 : Int32)))) h))) ∧ (¬ (2 : Int32) < x1 → Q (.inl (some (vi ((2 : Int32) + x2)))) h))
set_option maxRecDepth 20000 in
theorem s_X7_cells {x1 : Int32} {x2 : Int32} {h : Hp} {Q : Option AV ⊕ String → Hp → Prop} {lv : Nat} (hlv : lv + 0 ≤ 12) (hv : vc_X7_cells x1 x2 h Q) (l : Launch) (D : va_G) (dA : Nat → ClassId) (sz : Nat) (hst : l.stackTraces = false) : Ctr l D dA sz (Cond.code yX7_cells cX7_cells 2 (some .int)) yX7_cells lv [vi x1, vi x2] h 0 0 Q := by
  refine Ctr.of (lo := [some (vi x1), some (vi x2)]) hst (by decide) (by simp [ena, isL]) rfl ?_
  intro G hg hlim C
  unfold vc_X7_cells at hv
  refine j_iload_n C dX7_cells_0 rfl ?_
  refine j_iconst (v := (2 : Int32)) C dX7_cells_1 (by decide) ?_
  refine j_icmp_gt (tgt := 11) C dX7_cells_2 (by decide) ⟨fun q3 => ?_, fun q3 => ?_⟩
  · have hv := hv.1 q3
    refine j_iload_n C dX7_cells_11 rfl ?_
    refine j_iconst (v := (3 : Int32)) C dX7_cells_12 (by decide) ?_
    refine j_icmp_ne (tgt := 20) C dX7_cells_13 (by decide) ⟨fun q2 => ?_, fun q2 => ?_⟩
    · have hv := hv.1 q2
      refine j_iload_n C dX7_cells_20 rfl ?_
      refine j_bipush (v := (7 : Int32)) C dX7_cells_21 (by decide) ?_
      refine j_icmp_ne (tgt := 30) C dX7_cells_23 (by decide) ⟨fun q1 => ?_, fun q1 => ?_⟩
      · have hv := hv.1 q1
        refine j_iconst (v := (4 : Int32)) C dX7_cells_30 (by decide) ?_
        exact j_iret C dX7_cells_31 (hlim _ _ (by omega) (by omega)) hv
      · have hv := hv.2 q1
        refine j_iconst (v := (5 : Int32)) C dX7_cells_26 (by decide) ?_
        refine j_goto (tgt := 31) C dX7_cells_27 (by decide) ?_
        exact j_iret C dX7_cells_31 (hlim _ _ (by omega) (by omega)) hv
    · have hv := hv.2 q2
      refine j_iconst (v := (3 : Int32)) C dX7_cells_16 (by decide) ?_
      refine j_goto (tgt := 31) C dX7_cells_17 (by decide) ?_
      exact j_iret C dX7_cells_31 (hlim _ _ (by omega) (by omega)) hv
  · have hv := hv.2 q3
    refine j_iconst (v := (2 : Int32)) C dX7_cells_5 (by decide) ?_
    refine j_iload_n C dX7_cells_6 rfl ?_
    refine j_iadd C dX7_cells_7 ?_
    refine j_goto (tgt := 31) C dX7_cells_8 (by decide) ?_
    exact j_iret C dX7_cells_31 (hlim _ _ (by omega) (by omega)) hv
def vc_X7_cellsOf (t : Nat) (x1 : Int32) (h : Hp) (Q : Option AV ⊕ String → Hp → Prop) : Prop :=
    tg h t = 7 ∧ ∃ a2 : Nat, fR h 42 t = some a2 ∧ tg h a2 = 8 ∧ vp_in x1 (ln h a2) ∧ ∃ a6 : Nat, fR h 44 t = some a6 ∧ tg h a6 = 8 ∧ vp_in x1 (ln h a6) ∧ ∃ a10 : Nat, fR h 45 t = some a10 ∧ tg h a10 = 8 ∧ vp_in x1 (ln h a10) ∧ vc_X7_cells (aI h a2 x1.toNatClampNeg) ((aI h a6 x1.toNatClampNeg) + (aI h a10 x1.toNatClampNeg)) h (qi (fun v15 h14 => Q (.inl (some (vi v15))) h14) qn)
set_option maxRecDepth 20000 in
theorem s_X7_cellsOf {t : Nat} {x1 : Int32} {h : Hp} {Q : Option AV ⊕ String → Hp → Prop} {lv : Nat} (hlv : lv + 1 ≤ 12) (hv : vc_X7_cellsOf t x1 h Q) (l : Launch) (D : va_G) (dA : Nat → ClassId) (sz : Nat) (hst : l.stackTraces = false) : Ctr l D dA sz (Cond.code yX7_cellsOf cX7_cellsOf 2 (some .int)) yX7_cellsOf lv [vr (some t), vi x1] h 0 0 Q := by
  refine Ctr.of (lo := [some (vr (some t)), some (vi x1)]) hst (by decide) (by simp [ena, isL]) rfl ?_
  intro G hg hlim C
  unfold vc_X7_cellsOf at hv
  refine j_aload_n C dX7_cellsOf_0 rfl ?_
  obtain ⟨g1, hv⟩ := hv
  refine gf_X7_13 C rfl g1 dX7_cellsOf_1 ?_
  refine j_iload_n C dX7_cellsOf_4 rfl ?_
  obtain ⟨a2, e3, hv⟩ := hv
  obtain ⟨g4, hv⟩ := hv
  obtain ⟨b5, hv⟩ := hv
  refine k_iald (j := x1.toNatClampNeg) C e3 g4 b5 rfl dX7_cellsOf_5 ?_
  refine j_aload_n C dX7_cellsOf_6 rfl ?_
  refine gf_X7_20 C rfl g1 dX7_cellsOf_7 ?_
  refine j_iload_n C dX7_cellsOf_10 rfl ?_
  obtain ⟨a6, e7, hv⟩ := hv
  obtain ⟨g8, hv⟩ := hv
  obtain ⟨b9, hv⟩ := hv
  refine k_iald (j := x1.toNatClampNeg) C e7 g8 b9 rfl dX7_cellsOf_11 ?_
  refine j_aload_n C dX7_cellsOf_12 rfl ?_
  refine gf_X7_23 C rfl g1 dX7_cellsOf_13 ?_
  refine j_iload_n C dX7_cellsOf_16 rfl ?_
  obtain ⟨a10, e11, hv⟩ := hv
  obtain ⟨g12, hv⟩ := hv
  obtain ⟨b13, hv⟩ := hv
  refine k_iald (j := x1.toNatClampNeg) C e11 g12 b13 rfl dX7_cellsOf_17 ?_
  refine j_iadd C dX7_cellsOf_18 ?_
  refine k_callS C [vi (aI h a2 x1.toNatClampNeg), vi ((aI h a6 x1.toNatClampNeg) + (aI h a10 x1.toNatClampNeg))] ms_X7_76 rfl (fun l D dA sz hl => s_X7_cells (by omega) hv l D dA sz hl) rfl (by omega) (Nat.le_of_ble_eq_true rfl) (hlim _ _ (by omega) (by omega)) dX7_cellsOf_19 (fun _ _ q => False.elim q) (fun v h14 hq => ?_)
  obtain ⟨v15, rfl, hv⟩ := qi_inv hq
  exact j_iret C dX7_cellsOf_22 (hlim _ _ (by omega) (by omega)) hv
def vc_X7_reach (t : Nat) (x1 : Int32) (h : Hp) (Q : Option AV ⊕ String → Hp → Prop) : Prop :=
    ((x1 = 0 → Q (.inl none) h) ∧ (¬ x1 = 0 → tg h t = 7 ∧ ∃ a2 : Nat, fR h 53 t = some a2 ∧ tg h a2 = 10 ∧ vp_in x1 (ln h a2) ∧ (((aI h a2 x1.toNatClampNeg) = 0 → vp_in x1 (ln h a2) ∧ ∃ a7 : Nat, fR h 54 t = some a7 ∧ tg h a7 = 8 ∧ vp_in (fI h 74 t) (ln h a7) ∧ Q (.inl none) (qI (pI (qI h a2 x1.toNatClampNeg (1 : Int32)) 74 t ((fI h 74 t) + (1 : Int32))) a7 ((fI h 74 t).toNatClampNeg) x1)) ∧ (¬ (aI h a2 x1.toNatClampNeg) = 0 → Q (.inl none) h))))
set_option maxRecDepth 20000 in
theorem s_X7_reach {t : Nat} {x1 : Int32} {h : Hp} {Q : Option AV ⊕ String → Hp → Prop} {lv : Nat} (hlv : lv + 0 ≤ 12) (hv : vc_X7_reach t x1 h Q) (l : Launch) (D : va_G) (dA : Nat → ClassId) (sz : Nat) (hst : l.stackTraces = false) : Ctr l D dA sz (Cond.code yX7_reach cX7_reach 2 none) yX7_reach lv [vr (some t), vi x1] h 0 0 Q := by
  refine Ctr.of (lo := [some (vr (some t)), some (vi x1)]) hst (by decide) (by simp [ena, isL]) rfl ?_
  intro G hg hlim C
  unfold vc_X7_reach at hv
  refine j_iload_n C dX7_reach_0 rfl ?_
  refine j_if_eq (tgt := 13) C dX7_reach_1 (by decide) ⟨fun q12 => ?_, fun q12 => ?_⟩
  · have hv := hv.1 q12
    exact j_vret C dX7_reach_13 (hlim _ _ (by omega) (by omega)) hv
  · have hv := hv.2 q12
    refine j_aload_n C dX7_reach_4 rfl ?_
    obtain ⟨g1, hv⟩ := hv
    refine gf_X7_48 C rfl g1 dX7_reach_5 ?_
    refine j_iload_n C dX7_reach_8 rfl ?_
    obtain ⟨a2, e3, hv⟩ := hv
    obtain ⟨g4, hv⟩ := hv
    obtain ⟨b5, hv⟩ := hv
    refine k_zald (j := x1.toNatClampNeg) C e3 g4 b5 rfl dX7_reach_9 ?_
    refine j_if_eq (tgt := 14) C dX7_reach_10 (by decide) ⟨fun q11 => ?_, fun q11 => ?_⟩
    · have hv := hv.1 q11
      refine j_aload_n C dX7_reach_14 rfl ?_
      refine gf_X7_48 C rfl g1 dX7_reach_15 ?_
      refine j_iload_n C dX7_reach_18 rfl ?_
      refine j_iconst (v := (1 : Int32)) C dX7_reach_19 (by decide) ?_
      obtain ⟨b6, hv⟩ := hv
      refine k_zast (j := x1.toNatClampNeg) C e3 g4 b6 rfl (Or.inr rfl) dX7_reach_20 ?_
      refine j_aload_n C dX7_reach_21 rfl ?_
      refine gf_X7_51 C rfl g1 dX7_reach_22 ?_
      refine j_aload_n C dX7_reach_25 rfl ?_
      refine j_dup C dX7_reach_26 rfl ?_
      refine gf_X7_108 C rfl g1 dX7_reach_27 ?_
      refine j_dup_x1 C dX7_reach_30 rfl rfl ?_
      refine j_iconst (v := (1 : Int32)) C dX7_reach_31 (by decide) ?_
      refine j_iadd C dX7_reach_32 ?_
      refine pf_X7_108 C rfl g1 dX7_reach_33 ?_
      refine j_iload_n C dX7_reach_36 rfl ?_
      obtain ⟨a7, e8, hv⟩ := hv
      obtain ⟨g9, hv⟩ := hv
      obtain ⟨b10, hv⟩ := hv
      refine k_iast (j := (fI h 74 t).toNatClampNeg) C e8 g9 b10 rfl dX7_reach_37 ?_
      exact j_vret C dX7_reach_38 (hlim _ _ (by omega) (by omega)) hv
    · have hv := hv.2 q11
      exact j_vret C dX7_reach_13 (hlim _ _ (by omega) (by omega)) hv
def vc_X7_spread (t : Nat) (x1 : Int32) (h : Hp) (Q : Option AV ⊕ String → Hp → Prop) : Prop :=
    ∀ (P0 : Hp → Prop) (P26 : Int32 → Int32 → Hp → Prop) (P96 : Int32 → Hp → Prop) (P77 : Int32 → Int32 → Hp → Prop) (P120 : Int32 → Hp → Prop) (P149 : Hp → Prop),
    (∀  (h : Hp), (tg h t = 7 ∧ (((fI h 74 t) ≤ 0 → Q (.inl none) h) ∧ (¬ (fI h 74 t) ≤ 0 → ∃ a2 : Nat, fR h 54 t = some a2 ∧ tg h a2 = 8 ∧ vp_in ((fI h 74 t) - (1 : Int32)) (ln h a2) ∧ P26 (aI h a2 (((fI h 74 t) - (1 : Int32)).toNatClampNeg)) (0 : Int32) (pI h 74 t ((fI h 74 t) - (1 : Int32)))))) → P0 h) →
    (∀ (y2 : Int32) (y3 : Int32) (h : Hp), (tg h t = 7 ∧ ∃ a8 : Nat, fR h 44 t = some a8 ∧ tg h a8 = 8 ∧ vp_in y2 (ln h a8) ∧ (((aI h a8 y2.toNatClampNeg) ≤ y3 → ∃ a12 : Nat, fR h 42 t = some a12 ∧ tg h a12 = 8 ∧ vp_in y2 (ln h a12) ∧ ((¬ (aI h a12 y2.toNatClampNeg) = (3 : Int32) → P96 y2 h) ∧ ((aI h a12 y2.toNatClampNeg) = (3 : Int32) → ∃ a16 : Nat, fR h 48 t = some a16 ∧ tg h a16 = 8 ∧ vp_in y2 (ln h a16) ∧ P77 y2 (aI h a16 y2.toNatClampNeg) h))) ∧ (¬ (aI h a8 y2.toNatClampNeg) ≤ y3 → ∃ a21 : Nat, fR h 43 t = some a21 ∧ tg h a21 = 8 ∧ vp_in y2 (ln h a21) ∧ ∃ a25 : Nat, fR h 56 t = some a25 ∧ tg h a25 = 9 ∧ vp_in ((aI h a21 y2.toNatClampNeg) + y3) (ln h a25) ∧ vc_X7_reach t ((aL h a25 (((aI h a21 y2.toNatClampNeg) + y3).toNatClampNeg)).toInt32) h (qv (fun h29 => P26 y2 (y3 + 1) h29) qn)))) → P26 y2 y3 h) →
    (∀ (y2 : Int32) (h : Hp), (tg h t = 7 ∧ ∃ a33 : Nat, fR h 42 t = some a33 ∧ tg h a33 = 8 ∧ vp_in y2 (ln h a33) ∧ ((¬ (aI h a33 y2.toNatClampNeg) = (4 : Int32) → P120 y2 h) ∧ ((aI h a33 y2.toNatClampNeg) = (4 : Int32) → ((¬ x1 = 0 → P120 y2 h) ∧ (x1 = 0 → ∃ a37 : Nat, fR h 48 t = some a37 ∧ tg h a37 = 8 ∧ vp_in y2 (ln h a37) ∧ vc_X7_reach t (aI h a37 y2.toNatClampNeg) h (qv (fun h41 => P120 y2 h41) qn)))))) → P96 y2 h) →
    (∀ (y2 : Int32) (y3 : Int32) (h : Hp), (((y3 = 0 → P96 y2 h) ∧ (¬ y3 = 0 → tg h t = 7 ∧ vc_X7_reach t y3 h (qv (fun h45 => tg h45 t = 7 ∧ ∃ a49 : Nat, fR h45 47 t = some a49 ∧ tg h45 a49 = 8 ∧ vp_in y3 (ln h45 a49) ∧ P77 y2 (aI h45 a49 y3.toNatClampNeg) h45) qn)))) → P77 y2 y3 h) →
    (∀ (y2 : Int32) (h : Hp), (tg h t = 7 ∧ ∃ a55 : Nat, fR h 42 t = some a55 ∧ tg h a55 = 8 ∧ vp_in y2 (ln h a55) ∧ (((aI h a55 y2.toNatClampNeg) < (4 : Int32) → P149 h) ∧ (¬ (aI h a55 y2.toNatClampNeg) < (4 : Int32) → ∃ a59 : Nat, fR h 52 t = some a59 ∧ tg h a59 = 10 ∧ vp_in y2 (ln h a59) ∧ ((¬ (aI h a59 y2.toNatClampNeg) = 0 → P149 h) ∧ ((aI h a59 y2.toNatClampNeg) = 0 → ∃ a63 : Nat, fR h 50 t = some a63 ∧ tg h a63 = 8 ∧ vp_in y2 (ln h a63) ∧ vc_X7_reach t (aI h a63 y2.toNatClampNeg) h (qv (fun h67 => P149 h67) qn)))))) → P120 y2 h) →
    (∀  (h : Hp), (P0 h) → P149 h) →
    P0 h
set_option maxRecDepth 20000 in
theorem s_X7_spread {t : Nat} {x1 : Int32} {h : Hp} {Q : Option AV ⊕ String → Hp → Prop} {lv : Nat} (hlv : lv + 1 ≤ 12) (hv : vc_X7_spread t x1 h Q) (l : Launch) (D : va_G) (dA : Nat → ClassId) (sz : Nat) (hst : l.stackTraces = false) : Ctr l D dA sz (Cond.code yX7_spread cX7_spread 4 none) yX7_spread lv [vr (some t), vi x1] h 0 0 Q := by
  refine Ctr.of (lo := [some (vr (some t)), some (vi x1), none, none]) hst (by decide) (by simp [ena, isL]) rfl ?_
  intro G hg hlim C
  unfold vc_X7_spread at hv
  have hv := hv (fun  h => J G Q 0 [some (vr (some t)), some (vi x1), none, none] [] h 0 0) (fun y2 y3 h => J G Q 26 [some (vr (some t)), some (vi x1), some (vi y2), some (vi y3)] [] h 0 0) (fun y2 h => J G Q 96 [some (vr (some t)), some (vi x1), some (vi y2), none] [] h 0 0) (fun y2 y3 h => J G Q 77 [some (vr (some t)), some (vi x1), some (vi y2), some (vi y3)] [] h 0 0) (fun y2 h => J G Q 120 [some (vr (some t)), some (vi x1), some (vi y2), none] [] h 0 0) (fun  h => J G Q 149 [some (vr (some t)), some (vi x1), none, none] [] h 0 0)
  have hv := hv (by
      intro  h hv
      refine j_aload_n C dX7_spread_0 rfl ?_
      obtain ⟨g1, hv⟩ := hv
      refine gf_X7_108 C rfl g1 dX7_spread_1 ?_
      refine j_if_le (tgt := 152) C dX7_spread_4 (by decide) ⟨fun q6 => ?_, fun q6 => ?_⟩
      · have hv := hv.1 q6
        exact j_vret C dX7_spread_152 (hlim _ _ (by omega) (by omega)) hv
      · have hv := hv.2 q6
        refine j_aload_n C dX7_spread_7 rfl ?_
        refine gf_X7_51 C rfl g1 dX7_spread_8 ?_
        refine j_aload_n C dX7_spread_11 rfl ?_
        refine j_dup C dX7_spread_12 rfl ?_
        refine gf_X7_108 C rfl g1 dX7_spread_13 ?_
        refine j_iconst (v := (1 : Int32)) C dX7_spread_16 (by decide) ?_
        refine j_isub C dX7_spread_17 ?_
        refine j_dup_x1 C dX7_spread_18 rfl rfl ?_
        refine pf_X7_108 C rfl g1 dX7_spread_19 ?_
        obtain ⟨a2, e3, hv⟩ := hv
        obtain ⟨g4, hv⟩ := hv
        obtain ⟨b5, hv⟩ := hv
        refine k_iald (j := ((fI h 74 t) - (1 : Int32)).toNatClampNeg) C e3 g4 b5 rfl dX7_spread_22 ?_
        refine j_istore_n (lo' := [some (vr (some t)), some (vi x1), some (vi (aI h a2 (((fI h 74 t) - (1 : Int32)).toNatClampNeg))), none]) C dX7_spread_23 (Nat.le_of_ble_eq_true rfl) rfl ?_
        refine j_iconst (v := (0 : Int32)) C dX7_spread_24 (by decide) ?_
        refine j_istore_n (lo' := [some (vr (some t)), some (vi x1), some (vi (aI h a2 (((fI h 74 t) - (1 : Int32)).toNatClampNeg))), some (vi (0 : Int32))]) C dX7_spread_25 (Nat.le_of_ble_eq_true rfl) rfl ?_
        exact j_sub (by exact (And.intro rfl (And.intro rfl (And.intro rfl (And.intro rfl trivial))))) hv)
  have hv := hv (by
      intro y2 y3 h hv
      refine j_iload_n C dX7_spread_26 rfl ?_
      refine j_aload_n C dX7_spread_27 rfl ?_
      obtain ⟨g7, hv⟩ := hv
      refine gf_X7_20 C rfl g7 dX7_spread_28 ?_
      refine j_iload_n C dX7_spread_31 rfl ?_
      obtain ⟨a8, e9, hv⟩ := hv
      obtain ⟨g10, hv⟩ := hv
      obtain ⟨b11, hv⟩ := hv
      refine k_iald (j := y2.toNatClampNeg) C e9 g10 b11 rfl dX7_spread_32 ?_
      refine j_icmp_ge (tgt := 60) C dX7_spread_33 (by decide) ⟨fun q31 => ?_, fun q31 => ?_⟩
      · have hv := hv.1 q31
        refine j_aload_n C dX7_spread_60 rfl ?_
        refine gf_X7_13 C rfl g7 dX7_spread_61 ?_
        refine j_iload_n C dX7_spread_64 rfl ?_
        obtain ⟨a12, e13, hv⟩ := hv
        obtain ⟨g14, hv⟩ := hv
        obtain ⟨b15, hv⟩ := hv
        refine k_iald (j := y2.toNatClampNeg) C e13 g14 b15 rfl dX7_spread_65 ?_
        refine j_iconst (v := (3 : Int32)) C dX7_spread_66 (by decide) ?_
        refine j_icmp_ne (tgt := 96) C dX7_spread_67 (by decide) ⟨fun q20 => ?_, fun q20 => ?_⟩
        · have hv := hv.1 q20
          exact j_sub (by exact (And.intro rfl (And.intro rfl (And.intro rfl trivial)))) hv
        · have hv := hv.2 q20
          refine j_aload_n C dX7_spread_70 rfl ?_
          refine gf_X7_32 C rfl g7 dX7_spread_71 ?_
          refine j_iload_n C dX7_spread_74 rfl ?_
          obtain ⟨a16, e17, hv⟩ := hv
          obtain ⟨g18, hv⟩ := hv
          obtain ⟨b19, hv⟩ := hv
          refine k_iald (j := y2.toNatClampNeg) C e17 g18 b19 rfl dX7_spread_75 ?_
          refine j_istore_n (lo' := [some (vr (some t)), some (vi x1), some (vi y2), some (vi (aI h a16 y2.toNatClampNeg))]) C dX7_spread_76 (Nat.le_of_ble_eq_true rfl) rfl ?_
          exact j_sub (by exact (And.intro rfl (And.intro rfl (And.intro rfl (And.intro rfl trivial))))) hv
      · have hv := hv.2 q31
        refine j_aload_n C dX7_spread_36 rfl ?_
        refine j_aload_n C dX7_spread_37 rfl ?_
        refine gf_X7_57 C rfl g7 dX7_spread_38 ?_
        refine j_aload_n C dX7_spread_41 rfl ?_
        refine gf_X7_17 C rfl g7 dX7_spread_42 ?_
        refine j_iload_n C dX7_spread_45 rfl ?_
        obtain ⟨a21, e22, hv⟩ := hv
        obtain ⟨g23, hv⟩ := hv
        obtain ⟨b24, hv⟩ := hv
        refine k_iald (j := y2.toNatClampNeg) C e22 g23 b24 rfl dX7_spread_46 ?_
        refine j_iload_n C dX7_spread_47 rfl ?_
        refine j_iadd C dX7_spread_48 ?_
        obtain ⟨a25, e26, hv⟩ := hv
        obtain ⟨g27, hv⟩ := hv
        obtain ⟨b28, hv⟩ := hv
        refine k_lald (j := ((aI h a21 y2.toNatClampNeg) + y3).toNatClampNeg) C e26 g27 b28 rfl dX7_spread_49 ?_
        refine j_l2i C dX7_spread_50 ?_
        refine k_callV C 6 [vi ((aL h a25 (((aI h a21 y2.toNatClampNeg) + y3).toNatClampNeg)).toInt32)] mv_X7_111 rfl rfl (fun l D dA sz hl => s_X7_reach (by omega) hv l D dA sz hl) rfl rfl (by decide) g7 rfl (by omega) (Nat.le_of_ble_eq_true rfl) (hlim _ _ (by omega) (by omega)) dX7_spread_51 (fun _ _ q => False.elim q) (fun v h29 hq => ?_)
        obtain ⟨rfl, hv⟩ := qv_inv hq
        refine j_iinc (v := y3 + 1) (lo' := [some (vr (some t)), some (vi x1), some (vi y2), some (vi (y3 + 1))]) C dX7_spread_54 rfl rfl rfl ?_
        refine j_goto (tgt := 26) C dX7_spread_57 (by decide) ?_
        exact j_sub (by exact (And.intro rfl (And.intro rfl (And.intro rfl (And.intro rfl trivial))))) hv)
  have hv := hv (by
      intro y2 h hv
      refine j_aload_n C dX7_spread_96 rfl ?_
      obtain ⟨g32, hv⟩ := hv
      refine gf_X7_13 C rfl g32 dX7_spread_97 ?_
      refine j_iload_n C dX7_spread_100 rfl ?_
      obtain ⟨a33, e34, hv⟩ := hv
      obtain ⟨g35, hv⟩ := hv
      obtain ⟨b36, hv⟩ := hv
      refine k_iald (j := y2.toNatClampNeg) C e34 g35 b36 rfl dX7_spread_101 ?_
      refine j_iconst (v := (4 : Int32)) C dX7_spread_102 (by decide) ?_
      refine j_icmp_ne (tgt := 120) C dX7_spread_103 (by decide) ⟨fun q44 => ?_, fun q44 => ?_⟩
      · have hv := hv.1 q44
        exact j_sub (by exact (And.intro rfl (And.intro rfl (And.intro rfl trivial)))) hv
      · have hv := hv.2 q44
        refine j_iload_n C dX7_spread_106 rfl ?_
        refine j_if_ne (tgt := 120) C dX7_spread_107 (by decide) ⟨fun q43 => ?_, fun q43 => ?_⟩
        · have hv := hv.1 q43
          exact j_sub (by exact (And.intro rfl (And.intro rfl (And.intro rfl trivial)))) hv
        · have hv := hv.2 q43
          refine j_aload_n C dX7_spread_110 rfl ?_
          refine j_aload_n C dX7_spread_111 rfl ?_
          refine gf_X7_32 C rfl g32 dX7_spread_112 ?_
          refine j_iload_n C dX7_spread_115 rfl ?_
          obtain ⟨a37, e38, hv⟩ := hv
          obtain ⟨g39, hv⟩ := hv
          obtain ⟨b40, hv⟩ := hv
          refine k_iald (j := y2.toNatClampNeg) C e38 g39 b40 rfl dX7_spread_116 ?_
          refine k_callV C 6 [vi (aI h a37 y2.toNatClampNeg)] mv_X7_111 rfl rfl (fun l D dA sz hl => s_X7_reach (by omega) hv l D dA sz hl) rfl rfl (by decide) g32 rfl (by omega) (Nat.le_of_ble_eq_true rfl) (hlim _ _ (by omega) (by omega)) dX7_spread_117 (fun _ _ q => False.elim q) (fun v h41 hq => ?_)
          obtain ⟨rfl, hv⟩ := qv_inv hq
          exact j_sub (by exact (And.intro rfl (And.intro rfl (And.intro rfl trivial)))) hv)
  have hv := hv (by
      intro y2 y3 h hv
      refine j_iload_n C dX7_spread_77 rfl ?_
      refine j_if_eq (tgt := 96) C dX7_spread_78 (by decide) ⟨fun q53 => ?_, fun q53 => ?_⟩
      · have hv := hv.1 q53
        exact j_sub (by exact (And.intro rfl (And.intro rfl (And.intro rfl trivial)))) hv
      · have hv := hv.2 q53
        refine j_aload_n C dX7_spread_81 rfl ?_
        refine j_iload_n C dX7_spread_82 rfl ?_
        obtain ⟨g47, hv⟩ := hv
        refine k_callV C 6 [vi y3] mv_X7_111 rfl rfl (fun l D dA sz hl => s_X7_reach (by omega) hv l D dA sz hl) rfl rfl (by decide) g47 rfl (by omega) (Nat.le_of_ble_eq_true rfl) (hlim _ _ (by omega) (by omega)) dX7_spread_83 (fun _ _ q => False.elim q) (fun v h45 hq => ?_)
        obtain ⟨rfl, hv⟩ := qv_inv hq
        refine j_aload_n C dX7_spread_86 rfl ?_
        obtain ⟨g48, hv⟩ := hv
        refine gf_X7_29 C rfl g48 dX7_spread_87 ?_
        refine j_iload_n C dX7_spread_90 rfl ?_
        obtain ⟨a49, e50, hv⟩ := hv
        obtain ⟨g51, hv⟩ := hv
        obtain ⟨b52, hv⟩ := hv
        refine k_iald (j := y3.toNatClampNeg) C e50 g51 b52 rfl dX7_spread_91 ?_
        refine j_istore_n (lo' := [some (vr (some t)), some (vi x1), some (vi y2), some (vi (aI h45 a49 y3.toNatClampNeg))]) C dX7_spread_92 (Nat.le_of_ble_eq_true rfl) rfl ?_
        refine j_goto (tgt := 77) C dX7_spread_93 (by decide) ?_
        exact j_sub (by exact (And.intro rfl (And.intro rfl (And.intro rfl (And.intro rfl trivial))))) hv)
  have hv := hv (by
      intro y2 h hv
      refine j_aload_n C dX7_spread_120 rfl ?_
      obtain ⟨g54, hv⟩ := hv
      refine gf_X7_13 C rfl g54 dX7_spread_121 ?_
      refine j_iload_n C dX7_spread_124 rfl ?_
      obtain ⟨a55, e56, hv⟩ := hv
      obtain ⟨g57, hv⟩ := hv
      obtain ⟨b58, hv⟩ := hv
      refine k_iald (j := y2.toNatClampNeg) C e56 g57 b58 rfl dX7_spread_125 ?_
      refine j_iconst (v := (4 : Int32)) C dX7_spread_126 (by decide) ?_
      refine j_icmp_lt (tgt := 149) C dX7_spread_127 (by decide) ⟨fun q70 => ?_, fun q70 => ?_⟩
      · have hv := hv.1 q70
        exact j_sub (by exact (And.intro rfl (And.intro rfl trivial))) hv
      · have hv := hv.2 q70
        refine j_aload_n C dX7_spread_130 rfl ?_
        refine gf_X7_44 C rfl g54 dX7_spread_131 ?_
        refine j_iload_n C dX7_spread_134 rfl ?_
        obtain ⟨a59, e60, hv⟩ := hv
        obtain ⟨g61, hv⟩ := hv
        obtain ⟨b62, hv⟩ := hv
        refine k_zald (j := y2.toNatClampNeg) C e60 g61 b62 rfl dX7_spread_135 ?_
        refine j_if_ne (tgt := 149) C dX7_spread_136 (by decide) ⟨fun q69 => ?_, fun q69 => ?_⟩
        · have hv := hv.1 q69
          exact j_sub (by exact (And.intro rfl (And.intro rfl trivial))) hv
        · have hv := hv.2 q69
          refine j_aload_n C dX7_spread_139 rfl ?_
          refine j_aload_n C dX7_spread_140 rfl ?_
          refine gf_X7_38 C rfl g54 dX7_spread_141 ?_
          refine j_iload_n C dX7_spread_144 rfl ?_
          obtain ⟨a63, e64, hv⟩ := hv
          obtain ⟨g65, hv⟩ := hv
          obtain ⟨b66, hv⟩ := hv
          refine k_iald (j := y2.toNatClampNeg) C e64 g65 b66 rfl dX7_spread_145 ?_
          refine k_callV C 6 [vi (aI h a63 y2.toNatClampNeg)] mv_X7_111 rfl rfl (fun l D dA sz hl => s_X7_reach (by omega) hv l D dA sz hl) rfl rfl (by decide) g54 rfl (by omega) (Nat.le_of_ble_eq_true rfl) (hlim _ _ (by omega) (by omega)) dX7_spread_146 (fun _ _ q => False.elim q) (fun v h67 hq => ?_)
          obtain ⟨rfl, hv⟩ := qv_inv hq
          exact j_sub (by exact (And.intro rfl (And.intro rfl trivial))) hv)
  have hv := hv (by
      intro  h hv
      refine j_goto (tgt := 0) C dX7_spread_149 (by decide) ?_
      exact j_sub (by exact (And.intro rfl (And.intro rfl trivial))) hv)
  exact j_sub (by exact (And.intro rfl (And.intro rfl trivial))) hv
def vc_X7_comes (t : Nat) (x1 : Int32) (h : Hp) (Q : Option AV ⊕ String → Hp → Prop) : Prop :=
    ∀ (P20 : Hp → Prop) (P77 : Int32 → Hp → Prop),
    (∀  (h : Hp), (Q (.inl (some (vi (0 : Int32)))) h) → P20 h) →
    (∀ (y2 : Int32) (h : Hp), (tg h t = 7 ∧ ∃ a29 : Nat, fR h 49 t = some a29 ∧ tg h a29 = 8 ∧ vp_in y2 (ln h a29) ∧ ∃ a33 : Nat, fR h 51 t = some a33 ∧ tg h a33 = 8 ∧ vp_in y2 (ln h a33) ∧ vp_in y2 (ln h a33) ∧ Q (.inl (some (vi (1 : Int32)))) (qI (qI h a29 y2.toNatClampNeg x1) a33 y2.toNatClampNeg ((aI (qI h a29 y2.toNatClampNeg x1) a33 y2.toNatClampNeg) + (1 : Int32)))) → P77 y2 h) →
    tg h t = 7 ∧ ∃ a2 : Nat, fR h 50 t = some a2 ∧ tg h a2 = 8 ∧ vp_in x1 (ln h a2) ∧ (((aI h a2 x1.toNatClampNeg) = 0 → P20 h) ∧ (¬ (aI h a2 x1.toNatClampNeg) = 0 → ∃ a6 : Nat, fR h 52 t = some a6 ∧ tg h a6 = 10 ∧ vp_in x1 (ln h a6) ∧ (((aI h a6 x1.toNatClampNeg) = 0 → vp_in x1 (ln h a6) ∧ ∃ a11 : Nat, fR h 47 t = some a11 ∧ tg h a11 = 8 ∧ vp_in x1 (ln h a11) ∧ ∃ a15 : Nat, fR h 48 t = some a15 ∧ tg h a15 = 8 ∧ vp_in (aI h a2 x1.toNatClampNeg) (ln h a15) ∧ ((¬ (aI (qI (pI (qI h a6 x1.toNatClampNeg (1 : Int32)) 68 t ((fI h 68 t) + (1 : Int32))) a11 x1.toNatClampNeg (0 : Int32)) a15 ((aI h a2 x1.toNatClampNeg).toNatClampNeg)) = 0 → ∃ a19 : Nat, fR h 49 t = some a19 ∧ tg h a19 = 8 ∧ vp_in (aI h a2 x1.toNatClampNeg) (ln h a19) ∧ vp_in (aI (qI (pI (qI h a6 x1.toNatClampNeg (1 : Int32)) 68 t ((fI h 68 t) + (1 : Int32))) a11 x1.toNatClampNeg (0 : Int32)) a19 ((aI h a2 x1.toNatClampNeg).toNatClampNeg)) (ln h a11) ∧ P77 (aI h a2 x1.toNatClampNeg) (qI (qI (pI (qI h a6 x1.toNatClampNeg (1 : Int32)) 68 t ((fI h 68 t) + (1 : Int32))) a11 x1.toNatClampNeg (0 : Int32)) a11 ((aI (qI (pI (qI h a6 x1.toNatClampNeg (1 : Int32)) 68 t ((fI h 68 t) + (1 : Int32))) a11 x1.toNatClampNeg (0 : Int32)) a19 ((aI h a2 x1.toNatClampNeg).toNatClampNeg)).toNatClampNeg) x1)) ∧ ((aI (qI (pI (qI h a6 x1.toNatClampNeg (1 : Int32)) 68 t ((fI h 68 t) + (1 : Int32))) a11 x1.toNatClampNeg (0 : Int32)) a15 ((aI h a2 x1.toNatClampNeg).toNatClampNeg)) = 0 → vp_in (aI h a2 x1.toNatClampNeg) (ln h a15) ∧ P77 (aI h a2 x1.toNatClampNeg) (qI (qI (pI (qI h a6 x1.toNatClampNeg (1 : Int32)) 68 t ((fI h 68 t) + (1 : Int32))) a11 x1.toNatClampNeg (0 : Int32)) a15 ((aI h a2 x1.toNatClampNeg).toNatClampNeg) x1)))) ∧ (¬ (aI h a6 x1.toNatClampNeg) = 0 → P20 h))))
set_option maxRecDepth 20000 in
theorem s_X7_comes {t : Nat} {x1 : Int32} {h : Hp} {Q : Option AV ⊕ String → Hp → Prop} {lv : Nat} (hlv : lv + 0 ≤ 12) (hv : vc_X7_comes t x1 h Q) (l : Launch) (D : va_G) (dA : Nat → ClassId) (sz : Nat) (hst : l.stackTraces = false) : Ctr l D dA sz (Cond.code yX7_comes cX7_comes 3 (some .boolean)) yX7_comes lv [vr (some t), vi x1] h 0 0 Q := by
  refine Ctr.of (lo := [some (vr (some t)), some (vi x1), none]) hst (by decide) (by simp [ena, isL]) rfl ?_
  intro G hg hlim C
  unfold vc_X7_comes at hv
  have hv := hv (fun  h => J G Q 20 [none, none, none] [] h 0 0) (fun y2 h => J G Q 77 [some (vr (some t)), some (vi x1), some (vi y2)] [] h 0 0)
  have hv := hv (by
      intro  h hv
      refine j_iconst (v := (0 : Int32)) C dX7_comes_20 (by decide) ?_
      exact j_zret C (Or.inl rfl) dX7_comes_21 (hlim _ _ (by omega) (by omega)) hv)
  have hv := hv (by
      intro y2 h hv
      refine j_aload_n C dX7_comes_77 rfl ?_
      obtain ⟨g28, hv⟩ := hv
      refine gf_X7_35 C rfl g28 dX7_comes_78 ?_
      refine j_iload_n C dX7_comes_81 rfl ?_
      refine j_iload_n C dX7_comes_82 rfl ?_
      obtain ⟨a29, e30, hv⟩ := hv
      obtain ⟨g31, hv⟩ := hv
      obtain ⟨b32, hv⟩ := hv
      refine k_iast (j := y2.toNatClampNeg) C e30 g31 b32 rfl dX7_comes_83 ?_
      refine j_aload_n C dX7_comes_84 rfl ?_
      refine gf_X7_41 C rfl g28 dX7_comes_85 ?_
      refine j_iload_n C dX7_comes_88 rfl ?_
      refine j_dup2 C dX7_comes_89 rfl rfl ?_
      obtain ⟨a33, e34, hv⟩ := hv
      obtain ⟨g35, hv⟩ := hv
      obtain ⟨b36, hv⟩ := hv
      refine k_iald (j := y2.toNatClampNeg) C e34 g35 b36 rfl dX7_comes_90 ?_
      refine j_iconst (v := (1 : Int32)) C dX7_comes_91 (by decide) ?_
      refine j_iadd C dX7_comes_92 ?_
      obtain ⟨b37, hv⟩ := hv
      refine k_iast (j := y2.toNatClampNeg) C e34 g35 b37 rfl dX7_comes_93 ?_
      refine j_iconst (v := (1 : Int32)) C dX7_comes_94 (by decide) ?_
      exact j_zret C (Or.inr rfl) dX7_comes_95 (hlim _ _ (by omega) (by omega)) hv)
  refine j_aload_n C dX7_comes_0 rfl ?_
  obtain ⟨g1, hv⟩ := hv
  refine gf_X7_38 C rfl g1 dX7_comes_1 ?_
  refine j_iload_n C dX7_comes_4 rfl ?_
  obtain ⟨a2, e3, hv⟩ := hv
  obtain ⟨g4, hv⟩ := hv
  obtain ⟨b5, hv⟩ := hv
  refine k_iald (j := x1.toNatClampNeg) C e3 g4 b5 rfl dX7_comes_5 ?_
  refine j_istore_n (lo' := [some (vr (some t)), some (vi x1), some (vi (aI h a2 x1.toNatClampNeg))]) C dX7_comes_6 (Nat.le_of_ble_eq_true rfl) rfl ?_
  refine j_iload_n C dX7_comes_7 rfl ?_
  refine j_if_eq (tgt := 20) C dX7_comes_8 (by decide) ⟨fun q27 => ?_, fun q27 => ?_⟩
  · have hv := hv.1 q27
    exact j_sub (by exact trivial) hv
  · have hv := hv.2 q27
    refine j_aload_n C dX7_comes_11 rfl ?_
    refine gf_X7_44 C rfl g1 dX7_comes_12 ?_
    refine j_iload_n C dX7_comes_15 rfl ?_
    obtain ⟨a6, e7, hv⟩ := hv
    obtain ⟨g8, hv⟩ := hv
    obtain ⟨b9, hv⟩ := hv
    refine k_zald (j := x1.toNatClampNeg) C e7 g8 b9 rfl dX7_comes_16 ?_
    refine j_if_eq (tgt := 22) C dX7_comes_17 (by decide) ⟨fun q26 => ?_, fun q26 => ?_⟩
    · have hv := hv.1 q26
      refine j_aload_n C dX7_comes_22 rfl ?_
      refine gf_X7_44 C rfl g1 dX7_comes_23 ?_
      refine j_iload_n C dX7_comes_26 rfl ?_
      refine j_iconst (v := (1 : Int32)) C dX7_comes_27 (by decide) ?_
      obtain ⟨b10, hv⟩ := hv
      refine k_zast (j := x1.toNatClampNeg) C e7 g8 b10 rfl (Or.inr rfl) dX7_comes_28 ?_
      refine j_aload_n C dX7_comes_29 rfl ?_
      refine j_dup C dX7_comes_30 rfl ?_
      refine gf_X7_133 C rfl g1 dX7_comes_31 ?_
      refine j_iconst (v := (1 : Int32)) C dX7_comes_34 (by decide) ?_
      refine j_iadd C dX7_comes_35 ?_
      refine pf_X7_133 C rfl g1 dX7_comes_36 ?_
      refine j_aload_n C dX7_comes_39 rfl ?_
      refine gf_X7_29 C rfl g1 dX7_comes_40 ?_
      refine j_iload_n C dX7_comes_43 rfl ?_
      refine j_iconst (v := (0 : Int32)) C dX7_comes_44 (by decide) ?_
      obtain ⟨a11, e12, hv⟩ := hv
      obtain ⟨g13, hv⟩ := hv
      obtain ⟨b14, hv⟩ := hv
      refine k_iast (j := x1.toNatClampNeg) C e12 g13 b14 rfl dX7_comes_45 ?_
      refine j_aload_n C dX7_comes_46 rfl ?_
      refine gf_X7_32 C rfl g1 dX7_comes_47 ?_
      refine j_iload_n C dX7_comes_50 rfl ?_
      obtain ⟨a15, e16, hv⟩ := hv
      obtain ⟨g17, hv⟩ := hv
      obtain ⟨b18, hv⟩ := hv
      refine k_iald (j := (aI h a2 x1.toNatClampNeg).toNatClampNeg) C e16 g17 b18 rfl dX7_comes_51 ?_
      refine j_if_ne (tgt := 65) C dX7_comes_52 (by decide) ⟨fun q25 => ?_, fun q25 => ?_⟩
      · have hv := hv.1 q25
        refine j_aload_n C dX7_comes_65 rfl ?_
        refine gf_X7_29 C rfl g1 dX7_comes_66 ?_
        refine j_aload_n C dX7_comes_69 rfl ?_
        refine gf_X7_35 C rfl g1 dX7_comes_70 ?_
        refine j_iload_n C dX7_comes_73 rfl ?_
        obtain ⟨a19, e20, hv⟩ := hv
        obtain ⟨g21, hv⟩ := hv
        obtain ⟨b22, hv⟩ := hv
        refine k_iald (j := (aI h a2 x1.toNatClampNeg).toNatClampNeg) C e20 g21 b22 rfl dX7_comes_74 ?_
        refine j_iload_n C dX7_comes_75 rfl ?_
        obtain ⟨b23, hv⟩ := hv
        refine k_iast (j := (aI (qI (pI (qI h a6 x1.toNatClampNeg (1 : Int32)) 68 t ((fI h 68 t) + (1 : Int32))) a11 x1.toNatClampNeg (0 : Int32)) a19 ((aI h a2 x1.toNatClampNeg).toNatClampNeg)).toNatClampNeg) C e12 g13 b23 rfl dX7_comes_76 ?_
        exact j_sub (by exact (And.intro rfl (And.intro rfl (And.intro rfl trivial)))) hv
      · have hv := hv.2 q25
        refine j_aload_n C dX7_comes_55 rfl ?_
        refine gf_X7_32 C rfl g1 dX7_comes_56 ?_
        refine j_iload_n C dX7_comes_59 rfl ?_
        refine j_iload_n C dX7_comes_60 rfl ?_
        obtain ⟨b24, hv⟩ := hv
        refine k_iast (j := (aI h a2 x1.toNatClampNeg).toNatClampNeg) C e16 g17 b24 rfl dX7_comes_61 ?_
        refine j_goto (tgt := 77) C dX7_comes_62 (by decide) ?_
        exact j_sub (by exact (And.intro rfl (And.intro rfl (And.intro rfl trivial)))) hv
    · have hv := hv.2 q26
      exact j_sub (by exact trivial) hv
def vc_X7_collectAll (t : Nat) (x1 : Int32) (h : Hp) (Q : Option AV ⊕ String → Hp → Prop) : Prop :=
    ∀ (P17 : Int32 → Int32 → Hp → Prop) (P45 : Int32 → Int32 → Hp → Prop) (P76 : Int32 → Int32 → Hp → Prop) (P202 : Int32 → Int32 → Int32 → Hp → Prop) (P85 : Int32 → Int32 → Int32 → Hp → Prop) (P281 : Int32 → Int32 → Int32 → Hp → Prop) (P269 : Int32 → Int32 → Int32 → Hp → Prop) (P187 : Int32 → Int32 → Int32 → Hp → Prop) (P396 : Int32 → Int32 → Int32 → Hp → Prop) (P290 : Int32 → Int32 → Int32 → Int32 → Hp → Prop) (P460 : Int32 → Int32 → Hp → Prop) (P310 : Int32 → Int32 → Int32 → Int32 → Int32 → Int32 → Hp → Prop) (P542 : Int32 → Int32 → Hp → Prop) (P369 : Int32 → Int32 → Int32 → Int32 → Int32 → Int32 → Hp → Prop),
    (∀ (y2 : Int32) (y3 : Int32) (h : Hp), (tg h t = 7 ∧ (((fI h 59 t) ≤ y3 → P45 y2 (0 : Int32) (pI h 74 t (0 : Int32))) ∧ (¬ (fI h 59 t) ≤ y3 → ∃ a3 : Nat, fR h 53 t = some a3 ∧ tg h a3 = 10 ∧ vp_in y3 (ln h a3) ∧ P17 y2 (y3 + 1) (qI h a3 y3.toNatClampNeg (0 : Int32))))) → P17 y2 y3 h) →
    (∀ (y2 : Int32) (y3 : Int32) (h : Hp), (tg h t = 7 ∧ (((fI h 63 t) ≤ y3 → vc_X7_spread t x1 h (qv (fun h9 => P76 y2 (1 : Int32) h9) qn)) ∧ (¬ (fI h 63 t) ≤ y3 → ∃ a11 : Nat, fR h 61 t = some a11 ∧ tg h a11 = 8 ∧ vp_in y3 (ln h a11) ∧ vc_X7_reach t (aI h a11 y3.toNatClampNeg) h (qv (fun h15 => P45 y2 (y3 + 1) h15) qn)))) → P45 y2 y3 h) →
    (∀ (y2 : Int32) (y3 : Int32) (h : Hp), (((y3 = 0 → P202 y2 (0 : Int32) (1 : Int32) h) ∧ (¬ y3 = 0 → P85 y2 (0 : Int32) (1 : Int32) h))) → P76 y2 y3 h) →
    (∀ (y2 : Int32) (y4 : Int32) (y5 : Int32) (h : Hp), (tg h t = 7 ∧ (((fI h 59 t) ≤ y5 → P281 y2 y4 (y4 / (2 : Int32)) h) ∧ (¬ (fI h 59 t) ≤ y5 → ∃ a20 : Nat, fR h 42 t = some a20 ∧ tg h a20 = 8 ∧ vp_in y5 (ln h a20) ∧ (((aI h a20 y5.toNatClampNeg) < (4 : Int32) → P269 y2 y4 y5 h) ∧ (¬ (aI h a20 y5.toNatClampNeg) < (4 : Int32) → ∃ a24 : Nat, fR h 53 t = some a24 ∧ tg h a24 = 10 ∧ vp_in y5 (ln h a24) ∧ (((aI h a24 y5.toNatClampNeg) = 0 → P269 y2 y4 y5 h) ∧ (¬ (aI h a24 y5.toNatClampNeg) = 0 → ∃ a28 : Nat, fR h 48 t = some a28 ∧ tg h a28 = 8 ∧ vp_in y5 (ln h a28) ∧ (((aI h a28 y5.toNatClampNeg) = 0 → P269 y2 y4 y5 h) ∧ (¬ (aI h a28 y5.toNatClampNeg) = 0 → vp_in y5 (ln h a28) ∧ vp_in (aI h a28 y5.toNatClampNeg) (ln h a24) ∧ ((¬ (aI h a24 ((aI h a28 y5.toNatClampNeg).toNatClampNeg)) = 0 → P269 y2 y4 y5 h) ∧ ((aI h a24 ((aI h a28 y5.toNatClampNeg).toNatClampNeg)) = 0 → ∃ a34 : Nat, fR h 54 t = some a34 ∧ tg h a34 = 8 ∧ vp_in y4 (ln h a34) ∧ P269 y2 (y4 + 1) y5 (qI h a34 y4.toNatClampNeg y5)))))))))))) → P202 y2 y4 y5 h) →
    (∀ (y2 : Int32) (y3 : Int32) (y4 : Int32) (h : Hp), (tg h t = 7 ∧ (((fI h 59 t) ≤ y4 → P76 y2 y3 h) ∧ (¬ (fI h 59 t) ≤ y4 → ∃ a44 : Nat, fR h 42 t = some a44 ∧ tg h a44 = 8 ∧ vp_in y4 (ln h a44) ∧ ((¬ (aI h a44 y4.toNatClampNeg) = (7 : Int32) → P187 y2 y3 y4 h) ∧ ((aI h a44 y4.toNatClampNeg) = (7 : Int32) → ∃ a48 : Nat, fR h 53 t = some a48 ∧ tg h a48 = 10 ∧ vp_in y4 (ln h a48) ∧ (((aI h a48 y4.toNatClampNeg) = 0 → P187 y2 y3 y4 h) ∧ (¬ (aI h a48 y4.toNatClampNeg) = 0 → ∃ a52 : Nat, fR h 48 t = some a52 ∧ tg h a52 = 8 ∧ vp_in y4 (ln h a52) ∧ (((aI h a52 y4.toNatClampNeg) = 0 → P187 y2 y3 y4 h) ∧ (¬ (aI h a52 y4.toNatClampNeg) = 0 → vp_in y4 (ln h a52) ∧ vp_in (aI h a52 y4.toNatClampNeg) (ln h a48) ∧ (((aI h a48 ((aI h a52 y4.toNatClampNeg).toNatClampNeg)) = 0 → P187 y2 y3 y4 h) ∧ (¬ (aI h a48 ((aI h a52 y4.toNatClampNeg).toNatClampNeg)) = 0 → ∃ a58 : Nat, fR h 49 t = some a58 ∧ tg h a58 = 8 ∧ vp_in y4 (ln h a58) ∧ (((aI h a58 y4.toNatClampNeg) = 0 → P187 y2 y3 y4 h) ∧ (¬ (aI h a58 y4.toNatClampNeg) = 0 → vp_in y4 (ln h a58) ∧ vp_in (aI h a58 y4.toNatClampNeg) (ln h a48) ∧ (((aI h a48 ((aI h a58 y4.toNatClampNeg).toNatClampNeg)) = 0 → vp_in y4 (ln h a58) ∧ vc_X7_reach t (aI h a58 y4.toNatClampNeg) h (qv (fun h65 => tg h65 t = 7 ∧ vc_X7_spread t x1 h65 (qv (fun h67 => P187 y2 (1 : Int32) y4 h67) qn)) qn)) ∧ (¬ (aI h a48 ((aI h a58 y4.toNatClampNeg).toNatClampNeg)) = 0 → P187 y2 y3 y4 h))))))))))))))) → P85 y2 y3 y4 h) →
    (∀ (y2 : Int32) (y4 : Int32) (y5 : Int32) (h : Hp), (((y5 ≤ 0 → P396 y2 y4 (0 : Int32) h) ∧ (¬ y5 ≤ 0 → P290 y2 y4 y5 y5 h))) → P281 y2 y4 y5 h) →
    (∀ (y2 : Int32) (y4 : Int32) (y5 : Int32) (h : Hp), (P202 y2 y4 (y5 + 1) h) → P269 y2 y4 y5 h) →
    (∀ (y2 : Int32) (y3 : Int32) (y4 : Int32) (h : Hp), (P85 y2 y3 (y4 + 1) h) → P187 y2 y3 y4 h) →
    (∀ (y2 : Int32) (y4 : Int32) (y5 : Int32) (h : Hp), (((y4 ≤ y5 → P460 y2 (1 : Int32) h) ∧ (¬ y4 ≤ y5 → tg h t = 7 ∧ ∃ a79 : Nat, fR h 54 t = some a79 ∧ tg h a79 = 8 ∧ vp_in y5 (ln h a79) ∧ ∃ a83 : Nat, fR h 48 t = some a83 ∧ tg h a83 = 8 ∧ vp_in (aI h a79 y5.toNatClampNeg) (ln h a83) ∧ vp_in y5 (ln h a79) ∧ ∃ a88 : Nat, fR h 49 t = some a88 ∧ tg h a88 = 8 ∧ vp_in (aI (qI (pI h 69 t ((fI h 69 t) + (1 : Int32))) a83 ((aI h a79 y5.toNatClampNeg).toNatClampNeg) (0 : Int32)) a79 y5.toNatClampNeg) (ln h a88) ∧ vp_in y5 (ln h a79) ∧ vc_X7_comes t (aI (qI (qI (pI h 69 t ((fI h 69 t) + (1 : Int32))) a83 ((aI h a79 y5.toNatClampNeg).toNatClampNeg) (0 : Int32)) a88 ((aI (qI (pI h 69 t ((fI h 69 t) + (1 : Int32))) a83 ((aI h a79 y5.toNatClampNeg).toNatClampNeg) (0 : Int32)) a79 y5.toNatClampNeg).toNatClampNeg) (0 : Int32)) a79 y5.toNatClampNeg) (qI (qI (pI h 69 t ((fI h 69 t) + (1 : Int32))) a83 ((aI h a79 y5.toNatClampNeg).toNatClampNeg) (0 : Int32)) a88 ((aI (qI (pI h 69 t ((fI h 69 t) + (1 : Int32))) a83 ((aI h a79 y5.toNatClampNeg).toNatClampNeg) (0 : Int32)) a79 y5.toNatClampNeg).toNatClampNeg) (0 : Int32)) (qi (fun v94 h93 => P396 y2 y4 (y5 + 1) h93) qn)))) → P396 y2 y4 y5 h) →
    (∀ (y2 : Int32) (y4 : Int32) (y5 : Int32) (y6 : Int32) (h : Hp), (((y4 ≤ y6 → P281 y2 y4 (y5 / (2 : Int32)) h) ∧ (¬ y4 ≤ y6 → tg h t = 7 ∧ ∃ a97 : Nat, fR h 54 t = some a97 ∧ tg h a97 = 8 ∧ vp_in y6 (ln h a97) ∧ P310 y2 y4 y5 y6 (aI h a97 y6.toNatClampNeg) y6 h))) → P290 y2 y4 y5 y6 h) →
    (∀ (y2 : Int32) (y5 : Int32) (h : Hp), (tg h t = 7 ∧ (((fI h 59 t) ≤ y5 → Q (.inl (some (vi (y2 - (fI h 58 t))))) h) ∧ (¬ (fI h 59 t) ≤ y5 → ∃ a103 : Nat, fR h 42 t = some a103 ∧ tg h a103 = 8 ∧ vp_in y5 (ln h a103) ∧ (((aI h a103 y5.toNatClampNeg) < 0 → P542 y2 y5 h) ∧ (¬ (aI h a103 y5.toNatClampNeg) < 0 → ∃ a107 : Nat, fR h 53 t = some a107 ∧ tg h a107 = 10 ∧ vp_in y5 (ln h a107) ∧ (((aI h a107 y5.toNatClampNeg) = 0 → vc_X7_cellsOf t y5 h (qi (fun v112 h111 => tg h111 t = 7 ∧ ∃ a114 : Nat, fR h111 42 t = some a114 ∧ tg h111 a114 = 8 ∧ vp_in y5 (ln h111 a114) ∧ ∃ a118 : Nat, fR h111 47 t = some a118 ∧ tg h111 a118 = 8 ∧ vp_in y5 (ln h111 a118) ∧ P542 y2 y5 (pI (qI (qI (pI (pI h111 58 t ((fI h 58 t) - v112)) 65 t ((fI h111 65 t) - (1 : Int32))) a114 y5.toNatClampNeg (-1 : Int32)) a118 y5.toNatClampNeg (fI h111 60 t)) 60 t y5)) qn)) ∧ (¬ (aI h a107 y5.toNatClampNeg) = 0 → P542 y2 y5 h))))))) → P460 y2 y5 h) →
    (∀ (y2 : Int32) (y4 : Int32) (y5 : Int32) (y6 : Int32) (y7 : Int32) (y8 : Int32) (h : Hp), (((y8 < y5 → P369 y2 y4 y5 y6 y7 y8 h) ∧ (¬ y8 < y5 → tg h t = 7 ∧ ∃ a126 : Nat, fR h 54 t = some a126 ∧ tg h a126 = 8 ∧ vp_in (y8 - y5) (ln h a126) ∧ ∃ a130 : Nat, fR h 51 t = some a130 ∧ tg h a130 = 8 ∧ vp_in (aI h a126 ((y8 - y5).toNatClampNeg)) (ln h a130) ∧ vp_in y7 (ln h a130) ∧ (((aI h a130 ((aI h a126 ((y8 - y5).toNatClampNeg)).toNatClampNeg)) ≤ (aI h a130 y7.toNatClampNeg) → P369 y2 y4 y5 y6 y7 y8 h) ∧ (¬ (aI h a130 ((aI h a126 ((y8 - y5).toNatClampNeg)).toNatClampNeg)) ≤ (aI h a130 y7.toNatClampNeg) → vp_in (y8 - y5) (ln h a126) ∧ vp_in y8 (ln h a126) ∧ P310 y2 y4 y5 y6 y7 (y8 - y5) (qI h a126 y8.toNatClampNeg (aI h a126 ((y8 - y5).toNatClampNeg)))))))) → P310 y2 y4 y5 y6 y7 y8 h) →
    (∀ (y2 : Int32) (y5 : Int32) (h : Hp), (P460 y2 (y5 + 1) h) → P542 y2 y5 h) →
    (∀ (y2 : Int32) (y4 : Int32) (y5 : Int32) (y6 : Int32) (y7 : Int32) (y8 : Int32) (h : Hp), (tg h t = 7 ∧ ∃ a140 : Nat, fR h 54 t = some a140 ∧ tg h a140 = 8 ∧ vp_in y8 (ln h a140) ∧ P290 y2 y4 y5 (y6 + 1) (qI h a140 y8.toNatClampNeg y7)) → P369 y2 y4 y5 y6 y7 y8 h) →
    tg h t = 7 ∧ P17 (fI h 58 t) (1 : Int32) (pI h 67 t ((fI h 67 t) + (1 : Int32)))
set_option maxRecDepth 20000 in
theorem s_X7_collectAll {t : Nat} {x1 : Int32} {h : Hp} {Q : Option AV ⊕ String → Hp → Prop} {lv : Nat} (hlv : lv + 2 ≤ 12) (hv : vc_X7_collectAll t x1 h Q) (l : Launch) (D : va_G) (dA : Nat → ClassId) (sz : Nat) (hst : l.stackTraces = false) : Ctr l D dA sz (Cond.code yX7_collectAll cX7_collectAll 9 (some .int)) yX7_collectAll lv [vr (some t), vi x1] h 0 0 Q := by
  refine Ctr.of (lo := [some (vr (some t)), some (vi x1), none, none, none, none, none, none, none]) hst (by decide) (by simp [ena, isL]) rfl ?_
  intro G hg hlim C
  unfold vc_X7_collectAll at hv
  have hv := hv (fun y2 y3 h => J G Q 17 [some (vr (some t)), some (vi x1), some (vi y2), some (vi y3), none, none, none, none, none] [] h 0 0) (fun y2 y3 h => J G Q 45 [some (vr (some t)), some (vi x1), some (vi y2), some (vi y3), none, none, none, none, none] [] h 0 0) (fun y2 y3 h => J G Q 76 [some (vr (some t)), some (vi x1), some (vi y2), some (vi y3), none, none, none, none, none] [] h 0 0) (fun y2 y4 y5 h => J G Q 202 [some (vr (some t)), none, some (vi y2), none, some (vi y4), some (vi y5), none, none, none] [] h 0 0) (fun y2 y3 y4 h => J G Q 85 [some (vr (some t)), some (vi x1), some (vi y2), some (vi y3), some (vi y4), none, none, none, none] [] h 0 0) (fun y2 y4 y5 h => J G Q 281 [some (vr (some t)), none, some (vi y2), none, some (vi y4), some (vi y5), none, none, none] [] h 0 0) (fun y2 y4 y5 h => J G Q 269 [some (vr (some t)), none, some (vi y2), none, some (vi y4), some (vi y5), none, none, none] [] h 0 0) (fun y2 y3 y4 h => J G Q 187 [some (vr (some t)), some (vi x1), some (vi y2), some (vi y3), some (vi y4), none, none, none, none] [] h 0 0) (fun y2 y4 y5 h => J G Q 396 [some (vr (some t)), none, some (vi y2), none, some (vi y4), some (vi y5), none, none, none] [] h 0 0) (fun y2 y4 y5 y6 h => J G Q 290 [some (vr (some t)), none, some (vi y2), none, some (vi y4), some (vi y5), some (vi y6), none, none] [] h 0 0) (fun y2 y5 h => J G Q 460 [some (vr (some t)), none, some (vi y2), none, none, some (vi y5), none, none, none] [] h 0 0) (fun y2 y4 y5 y6 y7 y8 h => J G Q 310 [some (vr (some t)), none, some (vi y2), none, some (vi y4), some (vi y5), some (vi y6), some (vi y7), some (vi y8)] [] h 0 0) (fun y2 y5 h => J G Q 542 [some (vr (some t)), none, some (vi y2), none, none, some (vi y5), none, none, none] [] h 0 0) (fun y2 y4 y5 y6 y7 y8 h => J G Q 369 [some (vr (some t)), none, some (vi y2), none, some (vi y4), some (vi y5), some (vi y6), some (vi y7), some (vi y8)] [] h 0 0)
  have hv := hv (by
      intro y2 y3 h hv
      refine j_iload_n C dX7_collectAll_17 rfl ?_
      refine j_aload_n C dX7_collectAll_18 rfl ?_
      obtain ⟨g2, hv⟩ := hv
      refine gf_X7_61 C rfl g2 dX7_collectAll_19 ?_
      refine j_icmp_ge (tgt := 38) C dX7_collectAll_22 (by decide) ⟨fun q7 => ?_, fun q7 => ?_⟩
      · have hv := hv.1 q7
        refine j_aload_n C dX7_collectAll_38 rfl ?_
        refine j_iconst (v := (0 : Int32)) C dX7_collectAll_39 (by decide) ?_
        refine pf_X7_108 C rfl g2 dX7_collectAll_40 ?_
        refine j_iconst (v := (0 : Int32)) C dX7_collectAll_43 (by decide) ?_
        refine j_istore_n (lo' := [some (vr (some t)), some (vi x1), some (vi y2), some (vi (0 : Int32)), none, none, none, none, none]) C dX7_collectAll_44 (Nat.le_of_ble_eq_true rfl) rfl ?_
        exact j_sub (by exact (And.intro rfl (And.intro rfl (And.intro rfl (And.intro rfl trivial))))) hv
      · have hv := hv.2 q7
        refine j_aload_n C dX7_collectAll_25 rfl ?_
        refine gf_X7_48 C rfl g2 dX7_collectAll_26 ?_
        refine j_iload_n C dX7_collectAll_29 rfl ?_
        refine j_iconst (v := (0 : Int32)) C dX7_collectAll_30 (by decide) ?_
        obtain ⟨a3, e4, hv⟩ := hv
        obtain ⟨g5, hv⟩ := hv
        obtain ⟨b6, hv⟩ := hv
        refine k_zast (j := y3.toNatClampNeg) C e4 g5 b6 rfl (Or.inl rfl) dX7_collectAll_31 ?_
        refine j_iinc (v := y3 + 1) (lo' := [some (vr (some t)), some (vi x1), some (vi y2), some (vi (y3 + 1)), none, none, none, none, none]) C dX7_collectAll_32 rfl rfl rfl ?_
        refine j_goto (tgt := 17) C dX7_collectAll_35 (by decide) ?_
        exact j_sub (by exact (And.intro rfl (And.intro rfl (And.intro rfl (And.intro rfl trivial))))) hv)
  have hv := hv (by
      intro y2 y3 h hv
      refine j_iload_n C dX7_collectAll_45 rfl ?_
      refine j_aload_n C dX7_collectAll_46 rfl ?_
      obtain ⟨g8, hv⟩ := hv
      refine gf_X7_70 C rfl g8 dX7_collectAll_47 ?_
      refine j_icmp_ge (tgt := 69) C dX7_collectAll_50 (by decide) ⟨fun q17 => ?_, fun q17 => ?_⟩
      · have hv := hv.1 q17
        refine j_aload_n C dX7_collectAll_69 rfl ?_
        refine j_iload_n C dX7_collectAll_70 rfl ?_
        refine k_callV C 6 [vi x1] mv_X7_118 rfl rfl (fun l D dA sz hl => s_X7_spread (by omega) hv l D dA sz hl) rfl rfl (by decide) g8 rfl (by omega) (Nat.le_of_ble_eq_true rfl) (hlim _ _ (by omega) (by omega)) dX7_collectAll_71 (fun _ _ q => False.elim q) (fun v h9 hq => ?_)
        obtain ⟨rfl, hv⟩ := qv_inv hq
        refine j_iconst (v := (1 : Int32)) C dX7_collectAll_74 (by decide) ?_
        refine j_istore_n (lo' := [some (vr (some t)), some (vi x1), some (vi y2), some (vi (1 : Int32)), none, none, none, none, none]) C dX7_collectAll_75 (Nat.le_of_ble_eq_true rfl) rfl ?_
        exact j_sub (by exact (And.intro rfl (And.intro rfl (And.intro rfl (And.intro rfl trivial))))) hv
      · have hv := hv.2 q17
        refine j_aload_n C dX7_collectAll_53 rfl ?_
        refine j_aload_n C dX7_collectAll_54 rfl ?_
        refine gf_X7_64 C rfl g8 dX7_collectAll_55 ?_
        refine j_iload_n C dX7_collectAll_58 rfl ?_
        obtain ⟨a11, e12, hv⟩ := hv
        obtain ⟨g13, hv⟩ := hv
        obtain ⟨b14, hv⟩ := hv
        refine k_iald (j := y3.toNatClampNeg) C e12 g13 b14 rfl dX7_collectAll_59 ?_
        refine k_callV C 6 [vi (aI h a11 y3.toNatClampNeg)] mv_X7_111 rfl rfl (fun l D dA sz hl => s_X7_reach (by omega) hv l D dA sz hl) rfl rfl (by decide) g8 rfl (by omega) (Nat.le_of_ble_eq_true rfl) (hlim _ _ (by omega) (by omega)) dX7_collectAll_60 (fun _ _ q => False.elim q) (fun v h15 hq => ?_)
        obtain ⟨rfl, hv⟩ := qv_inv hq
        refine j_iinc (v := y3 + 1) (lo' := [some (vr (some t)), some (vi x1), some (vi y2), some (vi (y3 + 1)), none, none, none, none, none]) C dX7_collectAll_63 rfl rfl rfl ?_
        refine j_goto (tgt := 45) C dX7_collectAll_66 (by decide) ?_
        exact j_sub (by exact (And.intro rfl (And.intro rfl (And.intro rfl (And.intro rfl trivial))))) hv)
  have hv := hv (by
      intro y2 y3 h hv
      refine j_iload_n C dX7_collectAll_76 rfl ?_
      refine j_if_eq (tgt := 196) C dX7_collectAll_77 (by decide) ⟨fun q18 => ?_, fun q18 => ?_⟩
      · have hv := hv.1 q18
        refine j_iconst (v := (0 : Int32)) C dX7_collectAll_196 (by decide) ?_
        refine j_istore (lo' := [some (vr (some t)), some (vi x1), some (vi y2), some (vi y3), some (vi (0 : Int32)), none, none, none, none]) C dX7_collectAll_197 (Nat.le_of_ble_eq_true rfl) rfl ?_
        refine j_iconst (v := (1 : Int32)) C dX7_collectAll_199 (by decide) ?_
        refine j_istore (lo' := [some (vr (some t)), some (vi x1), some (vi y2), some (vi y3), some (vi (0 : Int32)), some (vi (1 : Int32)), none, none, none]) C dX7_collectAll_200 (Nat.le_of_ble_eq_true rfl) rfl ?_
        exact j_sub (by exact (And.intro rfl (And.intro rfl (And.intro rfl (And.intro rfl trivial))))) hv
      · have hv := hv.2 q18
        refine j_iconst (v := (0 : Int32)) C dX7_collectAll_80 (by decide) ?_
        refine j_istore_n (lo' := [some (vr (some t)), some (vi x1), some (vi y2), some (vi (0 : Int32)), none, none, none, none, none]) C dX7_collectAll_81 (Nat.le_of_ble_eq_true rfl) rfl ?_
        refine j_iconst (v := (1 : Int32)) C dX7_collectAll_82 (by decide) ?_
        refine j_istore (lo' := [some (vr (some t)), some (vi x1), some (vi y2), some (vi (0 : Int32)), some (vi (1 : Int32)), none, none, none, none]) C dX7_collectAll_83 (Nat.le_of_ble_eq_true rfl) rfl ?_
        exact j_sub (by exact (And.intro rfl (And.intro rfl (And.intro rfl (And.intro rfl (And.intro rfl trivial)))))) hv)
  have hv := hv (by
      intro y2 y4 y5 h hv
      refine j_iload C dX7_collectAll_202 rfl ?_
      refine j_aload_n C dX7_collectAll_204 rfl ?_
      obtain ⟨g19, hv⟩ := hv
      refine gf_X7_61 C rfl g19 dX7_collectAll_205 ?_
      refine j_icmp_ge (tgt := 275) C dX7_collectAll_208 (by decide) ⟨fun q42 => ?_, fun q42 => ?_⟩
      · have hv := hv.1 q42
        refine j_iload C dX7_collectAll_275 rfl ?_
        refine j_iconst (v := (2 : Int32)) C dX7_collectAll_277 (by decide) ?_
        refine j_idiv C dX7_collectAll_278 (by decide) ?_
        refine j_istore (lo' := [some (vr (some t)), none, some (vi y2), none, some (vi y4), some (vi (y4 / (2 : Int32))), none, none, none]) C dX7_collectAll_279 (Nat.le_of_ble_eq_true rfl) rfl ?_
        exact j_sub (by exact (And.intro rfl (And.intro rfl (And.intro rfl (And.intro rfl trivial))))) hv
      · have hv := hv.2 q42
        refine j_aload_n C dX7_collectAll_211 rfl ?_
        refine gf_X7_13 C rfl g19 dX7_collectAll_212 ?_
        refine j_iload C dX7_collectAll_215 rfl ?_
        obtain ⟨a20, e21, hv⟩ := hv
        obtain ⟨g22, hv⟩ := hv
        obtain ⟨b23, hv⟩ := hv
        refine k_iald (j := y5.toNatClampNeg) C e21 g22 b23 rfl dX7_collectAll_217 ?_
        refine j_iconst (v := (4 : Int32)) C dX7_collectAll_218 (by decide) ?_
        refine j_icmp_lt (tgt := 269) C dX7_collectAll_219 (by decide) ⟨fun q41 => ?_, fun q41 => ?_⟩
        · have hv := hv.1 q41
          exact j_sub (by exact (And.intro rfl (And.intro rfl (And.intro rfl (And.intro rfl trivial))))) hv
        · have hv := hv.2 q41
          refine j_aload_n C dX7_collectAll_222 rfl ?_
          refine gf_X7_48 C rfl g19 dX7_collectAll_223 ?_
          refine j_iload C dX7_collectAll_226 rfl ?_
          obtain ⟨a24, e25, hv⟩ := hv
          obtain ⟨g26, hv⟩ := hv
          obtain ⟨b27, hv⟩ := hv
          refine k_zald (j := y5.toNatClampNeg) C e25 g26 b27 rfl dX7_collectAll_228 ?_
          refine j_if_eq (tgt := 269) C dX7_collectAll_229 (by decide) ⟨fun q40 => ?_, fun q40 => ?_⟩
          · have hv := hv.1 q40
            exact j_sub (by exact (And.intro rfl (And.intro rfl (And.intro rfl (And.intro rfl trivial))))) hv
          · have hv := hv.2 q40
            refine j_aload_n C dX7_collectAll_232 rfl ?_
            refine gf_X7_32 C rfl g19 dX7_collectAll_233 ?_
            refine j_iload C dX7_collectAll_236 rfl ?_
            obtain ⟨a28, e29, hv⟩ := hv
            obtain ⟨g30, hv⟩ := hv
            obtain ⟨b31, hv⟩ := hv
            refine k_iald (j := y5.toNatClampNeg) C e29 g30 b31 rfl dX7_collectAll_238 ?_
            refine j_if_eq (tgt := 269) C dX7_collectAll_239 (by decide) ⟨fun q39 => ?_, fun q39 => ?_⟩
            · have hv := hv.1 q39
              exact j_sub (by exact (And.intro rfl (And.intro rfl (And.intro rfl (And.intro rfl trivial))))) hv
            · have hv := hv.2 q39
              refine j_aload_n C dX7_collectAll_242 rfl ?_
              refine gf_X7_48 C rfl g19 dX7_collectAll_243 ?_
              refine j_aload_n C dX7_collectAll_246 rfl ?_
              refine gf_X7_32 C rfl g19 dX7_collectAll_247 ?_
              refine j_iload C dX7_collectAll_250 rfl ?_
              obtain ⟨b32, hv⟩ := hv
              refine k_iald (j := y5.toNatClampNeg) C e29 g30 b32 rfl dX7_collectAll_252 ?_
              obtain ⟨b33, hv⟩ := hv
              refine k_zald (j := (aI h a28 y5.toNatClampNeg).toNatClampNeg) C e25 g26 b33 rfl dX7_collectAll_253 ?_
              refine j_if_ne (tgt := 269) C dX7_collectAll_254 (by decide) ⟨fun q38 => ?_, fun q38 => ?_⟩
              · have hv := hv.1 q38
                exact j_sub (by exact (And.intro rfl (And.intro rfl (And.intro rfl (And.intro rfl trivial))))) hv
              · have hv := hv.2 q38
                refine j_aload_n C dX7_collectAll_257 rfl ?_
                refine gf_X7_51 C rfl g19 dX7_collectAll_258 ?_
                refine j_iload C dX7_collectAll_261 rfl ?_
                refine j_iinc (v := y4 + 1) (lo' := [some (vr (some t)), none, some (vi y2), none, some (vi (y4 + 1)), some (vi y5), none, none, none]) C dX7_collectAll_263 rfl rfl rfl ?_
                refine j_iload C dX7_collectAll_266 rfl ?_
                obtain ⟨a34, e35, hv⟩ := hv
                obtain ⟨g36, hv⟩ := hv
                obtain ⟨b37, hv⟩ := hv
                refine k_iast (j := y4.toNatClampNeg) C e35 g36 b37 rfl dX7_collectAll_268 ?_
                exact j_sub (by exact (And.intro rfl (And.intro rfl (And.intro rfl (And.intro rfl trivial))))) hv)
  have hv := hv (by
      intro y2 y3 y4 h hv
      refine j_iload C dX7_collectAll_85 rfl ?_
      refine j_aload_n C dX7_collectAll_87 rfl ?_
      obtain ⟨g43, hv⟩ := hv
      refine gf_X7_61 C rfl g43 dX7_collectAll_88 ?_
      refine j_icmp_ge (tgt := 193) C dX7_collectAll_91 (by decide) ⟨fun q76 => ?_, fun q76 => ?_⟩
      · have hv := hv.1 q76
        refine j_goto (tgt := 76) C dX7_collectAll_193 (by decide) ?_
        exact j_sub (by exact (And.intro rfl (And.intro rfl (And.intro rfl (And.intro rfl trivial))))) hv
      · have hv := hv.2 q76
        refine j_aload_n C dX7_collectAll_94 rfl ?_
        refine gf_X7_13 C rfl g43 dX7_collectAll_95 ?_
        refine j_iload C dX7_collectAll_98 rfl ?_
        obtain ⟨a44, e45, hv⟩ := hv
        obtain ⟨g46, hv⟩ := hv
        obtain ⟨b47, hv⟩ := hv
        refine k_iald (j := y4.toNatClampNeg) C e45 g46 b47 rfl dX7_collectAll_100 ?_
        refine j_bipush (v := (7 : Int32)) C dX7_collectAll_101 (by decide) ?_
        refine j_icmp_ne (tgt := 187) C dX7_collectAll_103 (by decide) ⟨fun q75 => ?_, fun q75 => ?_⟩
        · have hv := hv.1 q75
          exact j_sub (by exact (And.intro rfl (And.intro rfl (And.intro rfl (And.intro rfl (And.intro rfl trivial)))))) hv
        · have hv := hv.2 q75
          refine j_aload_n C dX7_collectAll_106 rfl ?_
          refine gf_X7_48 C rfl g43 dX7_collectAll_107 ?_
          refine j_iload C dX7_collectAll_110 rfl ?_
          obtain ⟨a48, e49, hv⟩ := hv
          obtain ⟨g50, hv⟩ := hv
          obtain ⟨b51, hv⟩ := hv
          refine k_zald (j := y4.toNatClampNeg) C e49 g50 b51 rfl dX7_collectAll_112 ?_
          refine j_if_eq (tgt := 187) C dX7_collectAll_113 (by decide) ⟨fun q74 => ?_, fun q74 => ?_⟩
          · have hv := hv.1 q74
            exact j_sub (by exact (And.intro rfl (And.intro rfl (And.intro rfl (And.intro rfl (And.intro rfl trivial)))))) hv
          · have hv := hv.2 q74
            refine j_aload_n C dX7_collectAll_116 rfl ?_
            refine gf_X7_32 C rfl g43 dX7_collectAll_117 ?_
            refine j_iload C dX7_collectAll_120 rfl ?_
            obtain ⟨a52, e53, hv⟩ := hv
            obtain ⟨g54, hv⟩ := hv
            obtain ⟨b55, hv⟩ := hv
            refine k_iald (j := y4.toNatClampNeg) C e53 g54 b55 rfl dX7_collectAll_122 ?_
            refine j_if_eq (tgt := 187) C dX7_collectAll_123 (by decide) ⟨fun q73 => ?_, fun q73 => ?_⟩
            · have hv := hv.1 q73
              exact j_sub (by exact (And.intro rfl (And.intro rfl (And.intro rfl (And.intro rfl (And.intro rfl trivial)))))) hv
            · have hv := hv.2 q73
              refine j_aload_n C dX7_collectAll_126 rfl ?_
              refine gf_X7_48 C rfl g43 dX7_collectAll_127 ?_
              refine j_aload_n C dX7_collectAll_130 rfl ?_
              refine gf_X7_32 C rfl g43 dX7_collectAll_131 ?_
              refine j_iload C dX7_collectAll_134 rfl ?_
              obtain ⟨b56, hv⟩ := hv
              refine k_iald (j := y4.toNatClampNeg) C e53 g54 b56 rfl dX7_collectAll_136 ?_
              obtain ⟨b57, hv⟩ := hv
              refine k_zald (j := (aI h a52 y4.toNatClampNeg).toNatClampNeg) C e49 g50 b57 rfl dX7_collectAll_137 ?_
              refine j_if_eq (tgt := 187) C dX7_collectAll_138 (by decide) ⟨fun q72 => ?_, fun q72 => ?_⟩
              · have hv := hv.1 q72
                exact j_sub (by exact (And.intro rfl (And.intro rfl (And.intro rfl (And.intro rfl (And.intro rfl trivial)))))) hv
              · have hv := hv.2 q72
                refine j_aload_n C dX7_collectAll_141 rfl ?_
                refine gf_X7_35 C rfl g43 dX7_collectAll_142 ?_
                refine j_iload C dX7_collectAll_145 rfl ?_
                obtain ⟨a58, e59, hv⟩ := hv
                obtain ⟨g60, hv⟩ := hv
                obtain ⟨b61, hv⟩ := hv
                refine k_iald (j := y4.toNatClampNeg) C e59 g60 b61 rfl dX7_collectAll_147 ?_
                refine j_if_eq (tgt := 187) C dX7_collectAll_148 (by decide) ⟨fun q71 => ?_, fun q71 => ?_⟩
                · have hv := hv.1 q71
                  exact j_sub (by exact (And.intro rfl (And.intro rfl (And.intro rfl (And.intro rfl (And.intro rfl trivial)))))) hv
                · have hv := hv.2 q71
                  refine j_aload_n C dX7_collectAll_151 rfl ?_
                  refine gf_X7_48 C rfl g43 dX7_collectAll_152 ?_
                  refine j_aload_n C dX7_collectAll_155 rfl ?_
                  refine gf_X7_35 C rfl g43 dX7_collectAll_156 ?_
                  refine j_iload C dX7_collectAll_159 rfl ?_
                  obtain ⟨b62, hv⟩ := hv
                  refine k_iald (j := y4.toNatClampNeg) C e59 g60 b62 rfl dX7_collectAll_161 ?_
                  obtain ⟨b63, hv⟩ := hv
                  refine k_zald (j := (aI h a58 y4.toNatClampNeg).toNatClampNeg) C e49 g50 b63 rfl dX7_collectAll_162 ?_
                  refine j_if_eq (tgt := 169) C dX7_collectAll_163 (by decide) ⟨fun q70 => ?_, fun q70 => ?_⟩
                  · have hv := hv.1 q70
                    refine j_aload_n C dX7_collectAll_169 rfl ?_
                    refine j_aload_n C dX7_collectAll_170 rfl ?_
                    refine gf_X7_35 C rfl g43 dX7_collectAll_171 ?_
                    refine j_iload C dX7_collectAll_174 rfl ?_
                    obtain ⟨b64, hv⟩ := hv
                    refine k_iald (j := y4.toNatClampNeg) C e59 g60 b64 rfl dX7_collectAll_176 ?_
                    refine k_callV C 6 [vi (aI h a58 y4.toNatClampNeg)] mv_X7_111 rfl rfl (fun l D dA sz hl => s_X7_reach (by omega) hv l D dA sz hl) rfl rfl (by decide) g43 rfl (by omega) (Nat.le_of_ble_eq_true rfl) (hlim _ _ (by omega) (by omega)) dX7_collectAll_177 (fun _ _ q => False.elim q) (fun v h65 hq => ?_)
                    obtain ⟨rfl, hv⟩ := qv_inv hq
                    refine j_aload_n C dX7_collectAll_180 rfl ?_
                    refine j_iload_n C dX7_collectAll_181 rfl ?_
                    obtain ⟨g69, hv⟩ := hv
                    refine k_callV C 6 [vi x1] mv_X7_118 rfl rfl (fun l D dA sz hl => s_X7_spread (by omega) hv l D dA sz hl) rfl rfl (by decide) g69 rfl (by omega) (Nat.le_of_ble_eq_true rfl) (hlim _ _ (by omega) (by omega)) dX7_collectAll_182 (fun _ _ q => False.elim q) (fun v h67 hq => ?_)
                    obtain ⟨rfl, hv⟩ := qv_inv hq
                    refine j_iconst (v := (1 : Int32)) C dX7_collectAll_185 (by decide) ?_
                    refine j_istore_n (lo' := [some (vr (some t)), some (vi x1), some (vi y2), some (vi (1 : Int32)), some (vi y4), none, none, none, none]) C dX7_collectAll_186 (Nat.le_of_ble_eq_true rfl) rfl ?_
                    exact j_sub (by exact (And.intro rfl (And.intro rfl (And.intro rfl (And.intro rfl (And.intro rfl trivial)))))) hv
                  · have hv := hv.2 q70
                    refine j_goto (tgt := 187) C dX7_collectAll_166 (by decide) ?_
                    exact j_sub (by exact (And.intro rfl (And.intro rfl (And.intro rfl (And.intro rfl (And.intro rfl trivial)))))) hv)
  have hv := hv (by
      intro y2 y4 y5 h hv
      refine j_iload C dX7_collectAll_281 rfl ?_
      refine j_if_le (tgt := 393) C dX7_collectAll_283 (by decide) ⟨fun q77 => ?_, fun q77 => ?_⟩
      · have hv := hv.1 q77
        refine j_iconst (v := (0 : Int32)) C dX7_collectAll_393 (by decide) ?_
        refine j_istore (lo' := [some (vr (some t)), none, some (vi y2), none, some (vi y4), some (vi (0 : Int32)), none, none, none]) C dX7_collectAll_394 (Nat.le_of_ble_eq_true rfl) rfl ?_
        exact j_sub (by exact (And.intro rfl (And.intro rfl (And.intro rfl (And.intro rfl trivial))))) hv
      · have hv := hv.2 q77
        refine j_iload C dX7_collectAll_286 rfl ?_
        refine j_istore (lo' := [some (vr (some t)), none, some (vi y2), none, some (vi y4), some (vi y5), some (vi y5), none, none]) C dX7_collectAll_288 (Nat.le_of_ble_eq_true rfl) rfl ?_
        exact j_sub (by exact (And.intro rfl (And.intro rfl (And.intro rfl (And.intro rfl (And.intro rfl trivial)))))) hv)
  have hv := hv (by
      intro y2 y4 y5 h hv
      refine j_iinc (v := y5 + 1) (lo' := [some (vr (some t)), none, some (vi y2), none, some (vi y4), some (vi (y5 + 1)), none, none, none]) C dX7_collectAll_269 rfl rfl rfl ?_
      refine j_goto (tgt := 202) C dX7_collectAll_272 (by decide) ?_
      exact j_sub (by exact (And.intro rfl (And.intro rfl (And.intro rfl (And.intro rfl trivial))))) hv)
  have hv := hv (by
      intro y2 y3 y4 h hv
      refine j_iinc (v := y4 + 1) (lo' := [some (vr (some t)), some (vi x1), some (vi y2), some (vi y3), some (vi (y4 + 1)), none, none, none, none]) C dX7_collectAll_187 rfl rfl rfl ?_
      refine j_goto (tgt := 85) C dX7_collectAll_190 (by decide) ?_
      exact j_sub (by exact (And.intro rfl (And.intro rfl (And.intro rfl (And.intro rfl (And.intro rfl trivial)))))) hv)
  have hv := hv (by
      intro y2 y4 y5 h hv
      refine j_iload C dX7_collectAll_396 rfl ?_
      refine j_iload C dX7_collectAll_398 rfl ?_
      refine j_icmp_ge (tgt := 457) C dX7_collectAll_400 (by decide) ⟨fun q95 => ?_, fun q95 => ?_⟩
      · have hv := hv.1 q95
        refine j_iconst (v := (1 : Int32)) C dX7_collectAll_457 (by decide) ?_
        refine j_istore (lo' := [some (vr (some t)), none, some (vi y2), none, some (vi y4), some (vi (1 : Int32)), none, none, none]) C dX7_collectAll_458 (Nat.le_of_ble_eq_true rfl) rfl ?_
        exact j_sub (by exact (And.intro rfl (And.intro rfl (And.intro rfl trivial)))) hv
      · have hv := hv.2 q95
        refine j_aload_n C dX7_collectAll_403 rfl ?_
        refine j_dup C dX7_collectAll_404 rfl ?_
        obtain ⟨g78, hv⟩ := hv
        refine gf_X7_122 C rfl g78 dX7_collectAll_405 ?_
        refine j_iconst (v := (1 : Int32)) C dX7_collectAll_408 (by decide) ?_
        refine j_iadd C dX7_collectAll_409 ?_
        refine pf_X7_122 C rfl g78 dX7_collectAll_410 ?_
        refine j_aload_n C dX7_collectAll_413 rfl ?_
        refine gf_X7_32 C rfl g78 dX7_collectAll_414 ?_
        refine j_aload_n C dX7_collectAll_417 rfl ?_
        refine gf_X7_51 C rfl g78 dX7_collectAll_418 ?_
        refine j_iload C dX7_collectAll_421 rfl ?_
        obtain ⟨a79, e80, hv⟩ := hv
        obtain ⟨g81, hv⟩ := hv
        obtain ⟨b82, hv⟩ := hv
        refine k_iald (j := y5.toNatClampNeg) C e80 g81 b82 rfl dX7_collectAll_423 ?_
        refine j_iconst (v := (0 : Int32)) C dX7_collectAll_424 (by decide) ?_
        obtain ⟨a83, e84, hv⟩ := hv
        obtain ⟨g85, hv⟩ := hv
        obtain ⟨b86, hv⟩ := hv
        refine k_iast (j := (aI h a79 y5.toNatClampNeg).toNatClampNeg) C e84 g85 b86 rfl dX7_collectAll_425 ?_
        refine j_aload_n C dX7_collectAll_426 rfl ?_
        refine gf_X7_35 C rfl g78 dX7_collectAll_427 ?_
        refine j_aload_n C dX7_collectAll_430 rfl ?_
        refine gf_X7_51 C rfl g78 dX7_collectAll_431 ?_
        refine j_iload C dX7_collectAll_434 rfl ?_
        obtain ⟨b87, hv⟩ := hv
        refine k_iald (j := y5.toNatClampNeg) C e80 g81 b87 rfl dX7_collectAll_436 ?_
        refine j_iconst (v := (0 : Int32)) C dX7_collectAll_437 (by decide) ?_
        obtain ⟨a88, e89, hv⟩ := hv
        obtain ⟨g90, hv⟩ := hv
        obtain ⟨b91, hv⟩ := hv
        refine k_iast (j := (aI (qI (pI h 69 t ((fI h 69 t) + (1 : Int32))) a83 ((aI h a79 y5.toNatClampNeg).toNatClampNeg) (0 : Int32)) a79 y5.toNatClampNeg).toNatClampNeg) C e89 g90 b91 rfl dX7_collectAll_438 ?_
        refine j_aload_n C dX7_collectAll_439 rfl ?_
        refine j_aload_n C dX7_collectAll_440 rfl ?_
        refine gf_X7_51 C rfl g78 dX7_collectAll_441 ?_
        refine j_iload C dX7_collectAll_444 rfl ?_
        obtain ⟨b92, hv⟩ := hv
        refine k_iald (j := y5.toNatClampNeg) C e80 g81 b92 rfl dX7_collectAll_446 ?_
        refine k_callV C 6 [vi (aI (qI (qI (pI h 69 t ((fI h 69 t) + (1 : Int32))) a83 ((aI h a79 y5.toNatClampNeg).toNatClampNeg) (0 : Int32)) a88 ((aI (qI (pI h 69 t ((fI h 69 t) + (1 : Int32))) a83 ((aI h a79 y5.toNatClampNeg).toNatClampNeg) (0 : Int32)) a79 y5.toNatClampNeg).toNatClampNeg) (0 : Int32)) a79 y5.toNatClampNeg)] mv_X7_125 rfl rfl (fun l D dA sz hl => s_X7_comes (by omega) hv l D dA sz hl) rfl rfl (by decide) g78 rfl (by omega) (Nat.le_of_ble_eq_true rfl) (hlim _ _ (by omega) (by omega)) dX7_collectAll_447 (fun _ _ q => False.elim q) (fun v h93 hq => ?_)
        obtain ⟨v94, rfl, hv⟩ := qi_inv hq
        refine j_pop C dX7_collectAll_450 rfl ?_
        refine j_iinc (v := y5 + 1) (lo' := [some (vr (some t)), none, some (vi y2), none, some (vi y4), some (vi (y5 + 1)), none, none, none]) C dX7_collectAll_451 rfl rfl rfl ?_
        refine j_goto (tgt := 396) C dX7_collectAll_454 (by decide) ?_
        exact j_sub (by exact (And.intro rfl (And.intro rfl (And.intro rfl (And.intro rfl trivial))))) hv)
  have hv := hv (by
      intro y2 y4 y5 y6 h hv
      refine j_iload C dX7_collectAll_290 rfl ?_
      refine j_iload C dX7_collectAll_292 rfl ?_
      refine j_icmp_ge (tgt := 384) C dX7_collectAll_294 (by decide) ⟨fun q101 => ?_, fun q101 => ?_⟩
      · have hv := hv.1 q101
        refine j_iload C dX7_collectAll_384 rfl ?_
        refine j_iconst (v := (2 : Int32)) C dX7_collectAll_386 (by decide) ?_
        refine j_idiv C dX7_collectAll_387 (by decide) ?_
        refine j_istore (lo' := [some (vr (some t)), none, some (vi y2), none, some (vi y4), some (vi (y5 / (2 : Int32))), some (vi y6), none, none]) C dX7_collectAll_388 (Nat.le_of_ble_eq_true rfl) rfl ?_
        refine j_goto (tgt := 281) C dX7_collectAll_390 (by decide) ?_
        exact j_sub (by exact (And.intro rfl (And.intro rfl (And.intro rfl (And.intro rfl trivial))))) hv
      · have hv := hv.2 q101
        refine j_aload_n C dX7_collectAll_297 rfl ?_
        obtain ⟨g96, hv⟩ := hv
        refine gf_X7_51 C rfl g96 dX7_collectAll_298 ?_
        refine j_iload C dX7_collectAll_301 rfl ?_
        obtain ⟨a97, e98, hv⟩ := hv
        obtain ⟨g99, hv⟩ := hv
        obtain ⟨b100, hv⟩ := hv
        refine k_iald (j := y6.toNatClampNeg) C e98 g99 b100 rfl dX7_collectAll_303 ?_
        refine j_istore (lo' := [some (vr (some t)), none, some (vi y2), none, some (vi y4), some (vi y5), some (vi y6), some (vi (aI h a97 y6.toNatClampNeg)), none]) C dX7_collectAll_304 (Nat.le_of_ble_eq_true rfl) rfl ?_
        refine j_iload C dX7_collectAll_306 rfl ?_
        refine j_istore (lo' := [some (vr (some t)), none, some (vi y2), none, some (vi y4), some (vi y5), some (vi y6), some (vi (aI h a97 y6.toNatClampNeg)), some (vi y6)]) C dX7_collectAll_308 (Nat.le_of_ble_eq_true rfl) rfl ?_
        exact j_sub (by exact (And.intro rfl (And.intro rfl (And.intro rfl (And.intro rfl (And.intro rfl (And.intro rfl (And.intro rfl trivial)))))))) hv)
  have hv := hv (by
      intro y2 y5 h hv
      refine j_iload C dX7_collectAll_460 rfl ?_
      refine j_aload_n C dX7_collectAll_462 rfl ?_
      obtain ⟨g102, hv⟩ := hv
      refine gf_X7_61 C rfl g102 dX7_collectAll_463 ?_
      refine j_icmp_ge (tgt := 548) C dX7_collectAll_466 (by decide) ⟨fun q124 => ?_, fun q124 => ?_⟩
      · have hv := hv.1 q124
        refine j_iload_n C dX7_collectAll_548 rfl ?_
        refine j_aload_n C dX7_collectAll_549 rfl ?_
        refine gf_X7_80 C rfl g102 dX7_collectAll_550 ?_
        refine j_isub C dX7_collectAll_553 ?_
        exact j_iret C dX7_collectAll_554 (hlim _ _ (by omega) (by omega)) hv
      · have hv := hv.2 q124
        refine j_aload_n C dX7_collectAll_469 rfl ?_
        refine gf_X7_13 C rfl g102 dX7_collectAll_470 ?_
        refine j_iload C dX7_collectAll_473 rfl ?_
        obtain ⟨a103, e104, hv⟩ := hv
        obtain ⟨g105, hv⟩ := hv
        obtain ⟨b106, hv⟩ := hv
        refine k_iald (j := y5.toNatClampNeg) C e104 g105 b106 rfl dX7_collectAll_475 ?_
        refine j_if_lt (tgt := 542) C dX7_collectAll_476 (by decide) ⟨fun q123 => ?_, fun q123 => ?_⟩
        · have hv := hv.1 q123
          exact j_sub (by exact (And.intro rfl (And.intro rfl (And.intro rfl trivial)))) hv
        · have hv := hv.2 q123
          refine j_aload_n C dX7_collectAll_479 rfl ?_
          refine gf_X7_48 C rfl g102 dX7_collectAll_480 ?_
          refine j_iload C dX7_collectAll_483 rfl ?_
          obtain ⟨a107, e108, hv⟩ := hv
          obtain ⟨g109, hv⟩ := hv
          obtain ⟨b110, hv⟩ := hv
          refine k_zald (j := y5.toNatClampNeg) C e108 g109 b110 rfl dX7_collectAll_485 ?_
          refine j_if_eq (tgt := 492) C dX7_collectAll_486 (by decide) ⟨fun q122 => ?_, fun q122 => ?_⟩
          · have hv := hv.1 q122
            refine j_aload_n C dX7_collectAll_492 rfl ?_
            refine j_dup C dX7_collectAll_493 rfl ?_
            refine gf_X7_80 C rfl g102 dX7_collectAll_494 ?_
            refine j_aload_n C dX7_collectAll_497 rfl ?_
            refine j_iload C dX7_collectAll_498 rfl ?_
            refine k_callV C 6 [vi y5] mv_X7_129 rfl rfl (fun l D dA sz hl => s_X7_cellsOf (by omega) hv l D dA sz hl) rfl rfl (by decide) g102 rfl (by omega) (Nat.le_of_ble_eq_true rfl) (hlim _ _ (by omega) (by omega)) dX7_collectAll_500 (fun _ _ q => False.elim q) (fun v h111 hq => ?_)
            obtain ⟨v112, rfl, hv⟩ := qi_inv hq
            refine j_isub C dX7_collectAll_503 ?_
            obtain ⟨g113, hv⟩ := hv
            refine pf_X7_80 C rfl g113 dX7_collectAll_504 ?_
            refine j_aload_n C dX7_collectAll_507 rfl ?_
            refine j_dup C dX7_collectAll_508 rfl ?_
            refine gf_X7_99 C rfl g113 dX7_collectAll_509 ?_
            refine j_iconst (v := (1 : Int32)) C dX7_collectAll_512 (by decide) ?_
            refine j_isub C dX7_collectAll_513 ?_
            refine pf_X7_99 C rfl g113 dX7_collectAll_514 ?_
            refine j_aload_n C dX7_collectAll_517 rfl ?_
            refine gf_X7_13 C rfl g113 dX7_collectAll_518 ?_
            refine j_iload C dX7_collectAll_521 rfl ?_
            refine j_iconst (v := (-1 : Int32)) C dX7_collectAll_523 (by decide) ?_
            obtain ⟨a114, e115, hv⟩ := hv
            obtain ⟨g116, hv⟩ := hv
            obtain ⟨b117, hv⟩ := hv
            refine k_iast (j := y5.toNatClampNeg) C e115 g116 b117 rfl dX7_collectAll_524 ?_
            refine j_aload_n C dX7_collectAll_525 rfl ?_
            refine gf_X7_29 C rfl g113 dX7_collectAll_526 ?_
            refine j_iload C dX7_collectAll_529 rfl ?_
            refine j_aload_n C dX7_collectAll_531 rfl ?_
            refine gf_X7_90 C rfl g113 dX7_collectAll_532 ?_
            obtain ⟨a118, e119, hv⟩ := hv
            obtain ⟨g120, hv⟩ := hv
            obtain ⟨b121, hv⟩ := hv
            refine k_iast (j := y5.toNatClampNeg) C e119 g120 b121 rfl dX7_collectAll_535 ?_
            refine j_aload_n C dX7_collectAll_536 rfl ?_
            refine j_iload C dX7_collectAll_537 rfl ?_
            refine pf_X7_90 C rfl g113 dX7_collectAll_539 ?_
            exact j_sub (by exact (And.intro rfl (And.intro rfl (And.intro rfl trivial)))) hv
          · have hv := hv.2 q122
            refine j_goto (tgt := 542) C dX7_collectAll_489 (by decide) ?_
            exact j_sub (by exact (And.intro rfl (And.intro rfl (And.intro rfl trivial)))) hv)
  have hv := hv (by
      intro y2 y4 y5 y6 y7 y8 h hv
      refine j_iload C dX7_collectAll_310 rfl ?_
      refine j_iload C dX7_collectAll_312 rfl ?_
      refine j_icmp_lt (tgt := 369) C dX7_collectAll_314 (by decide) ⟨fun q138 => ?_, fun q138 => ?_⟩
      · have hv := hv.1 q138
        exact j_sub (by exact (And.intro rfl (And.intro rfl (And.intro rfl (And.intro rfl (And.intro rfl (And.intro rfl (And.intro rfl trivial)))))))) hv
      · have hv := hv.2 q138
        refine j_aload_n C dX7_collectAll_317 rfl ?_
        obtain ⟨g125, hv⟩ := hv
        refine gf_X7_41 C rfl g125 dX7_collectAll_318 ?_
        refine j_aload_n C dX7_collectAll_321 rfl ?_
        refine gf_X7_51 C rfl g125 dX7_collectAll_322 ?_
        refine j_iload C dX7_collectAll_325 rfl ?_
        refine j_iload C dX7_collectAll_327 rfl ?_
        refine j_isub C dX7_collectAll_329 ?_
        obtain ⟨a126, e127, hv⟩ := hv
        obtain ⟨g128, hv⟩ := hv
        obtain ⟨b129, hv⟩ := hv
        refine k_iald (j := (y8 - y5).toNatClampNeg) C e127 g128 b129 rfl dX7_collectAll_330 ?_
        obtain ⟨a130, e131, hv⟩ := hv
        obtain ⟨g132, hv⟩ := hv
        obtain ⟨b133, hv⟩ := hv
        refine k_iald (j := (aI h a126 ((y8 - y5).toNatClampNeg)).toNatClampNeg) C e131 g132 b133 rfl dX7_collectAll_331 ?_
        refine j_aload_n C dX7_collectAll_332 rfl ?_
        refine gf_X7_41 C rfl g125 dX7_collectAll_333 ?_
        refine j_iload C dX7_collectAll_336 rfl ?_
        obtain ⟨b134, hv⟩ := hv
        refine k_iald (j := y7.toNatClampNeg) C e131 g132 b134 rfl dX7_collectAll_338 ?_
        refine j_icmp_le (tgt := 369) C dX7_collectAll_339 (by decide) ⟨fun q137 => ?_, fun q137 => ?_⟩
        · have hv := hv.1 q137
          exact j_sub (by exact (And.intro rfl (And.intro rfl (And.intro rfl (And.intro rfl (And.intro rfl (And.intro rfl (And.intro rfl trivial)))))))) hv
        · have hv := hv.2 q137
          refine j_aload_n C dX7_collectAll_342 rfl ?_
          refine gf_X7_51 C rfl g125 dX7_collectAll_343 ?_
          refine j_iload C dX7_collectAll_346 rfl ?_
          refine j_aload_n C dX7_collectAll_348 rfl ?_
          refine gf_X7_51 C rfl g125 dX7_collectAll_349 ?_
          refine j_iload C dX7_collectAll_352 rfl ?_
          refine j_iload C dX7_collectAll_354 rfl ?_
          refine j_isub C dX7_collectAll_356 ?_
          obtain ⟨b135, hv⟩ := hv
          refine k_iald (j := (y8 - y5).toNatClampNeg) C e127 g128 b135 rfl dX7_collectAll_357 ?_
          obtain ⟨b136, hv⟩ := hv
          refine k_iast (j := y8.toNatClampNeg) C e127 g128 b136 rfl dX7_collectAll_358 ?_
          refine j_iload C dX7_collectAll_359 rfl ?_
          refine j_iload C dX7_collectAll_361 rfl ?_
          refine j_isub C dX7_collectAll_363 ?_
          refine j_istore (lo' := [some (vr (some t)), none, some (vi y2), none, some (vi y4), some (vi y5), some (vi y6), some (vi y7), some (vi (y8 - y5))]) C dX7_collectAll_364 (Nat.le_of_ble_eq_true rfl) rfl ?_
          refine j_goto (tgt := 310) C dX7_collectAll_366 (by decide) ?_
          exact j_sub (by exact (And.intro rfl (And.intro rfl (And.intro rfl (And.intro rfl (And.intro rfl (And.intro rfl (And.intro rfl trivial)))))))) hv)
  have hv := hv (by
      intro y2 y5 h hv
      refine j_iinc (v := y5 + 1) (lo' := [some (vr (some t)), none, some (vi y2), none, none, some (vi (y5 + 1)), none, none, none]) C dX7_collectAll_542 rfl rfl rfl ?_
      refine j_goto (tgt := 460) C dX7_collectAll_545 (by decide) ?_
      exact j_sub (by exact (And.intro rfl (And.intro rfl (And.intro rfl trivial)))) hv)
  have hv := hv (by
      intro y2 y4 y5 y6 y7 y8 h hv
      refine j_aload_n C dX7_collectAll_369 rfl ?_
      obtain ⟨g139, hv⟩ := hv
      refine gf_X7_51 C rfl g139 dX7_collectAll_370 ?_
      refine j_iload C dX7_collectAll_373 rfl ?_
      refine j_iload C dX7_collectAll_375 rfl ?_
      obtain ⟨a140, e141, hv⟩ := hv
      obtain ⟨g142, hv⟩ := hv
      obtain ⟨b143, hv⟩ := hv
      refine k_iast (j := y8.toNatClampNeg) C e141 g142 b143 rfl dX7_collectAll_377 ?_
      refine j_iinc (v := y6 + 1) (lo' := [some (vr (some t)), none, some (vi y2), none, some (vi y4), some (vi y5), some (vi (y6 + 1)), some (vi y7), some (vi y8)]) C dX7_collectAll_378 rfl rfl rfl ?_
      refine j_goto (tgt := 290) C dX7_collectAll_381 (by decide) ?_
      exact j_sub (by exact (And.intro rfl (And.intro rfl (And.intro rfl (And.intro rfl (And.intro rfl trivial)))))) hv)
  refine j_aload_n C dX7_collectAll_0 rfl ?_
  refine j_dup C dX7_collectAll_1 rfl ?_
  obtain ⟨g1, hv⟩ := hv
  refine gf_X7_115 C rfl g1 dX7_collectAll_2 ?_
  refine j_iconst (v := (1 : Int32)) C dX7_collectAll_5 (by decide) ?_
  refine j_iadd C dX7_collectAll_6 ?_
  refine pf_X7_115 C rfl g1 dX7_collectAll_7 ?_
  refine j_aload_n C dX7_collectAll_10 rfl ?_
  refine gf_X7_80 C rfl g1 dX7_collectAll_11 ?_
  refine j_istore_n (lo' := [some (vr (some t)), some (vi x1), some (vi (fI h 58 t)), none, none, none, none, none, none]) C dX7_collectAll_14 (Nat.le_of_ble_eq_true rfl) rfl ?_
  refine j_iconst (v := (1 : Int32)) C dX7_collectAll_15 (by decide) ?_
  refine j_istore_n (lo' := [some (vr (some t)), some (vi x1), some (vi (fI h 58 t)), some (vi (1 : Int32)), none, none, none, none, none]) C dX7_collectAll_16 (Nat.le_of_ble_eq_true rfl) rfl ?_
  exact j_sub (by exact (And.intro rfl (And.intro rfl (And.intro rfl (And.intro rfl trivial))))) hv
def vc_X7_push (t : Nat) (h : Hp) (Q : Option AV ⊕ String → Hp → Prop) : Prop :=
    ∀ (P4 : Int32 → Int32 → Hp → Prop) (P41 : Int32 → Int32 → Hp → Prop) (P31 : Int32 → Int32 → Hp → Prop) (P144 : Int32 → Int32 → Int32 → Hp → Prop) (P47 : Int32 → Int32 → Int32 → Hp → Prop) (P177 : Int32 → Int32 → Int32 → Int32 → Int32 → Int32 → Hp → Prop) (P63 : Int32 → Int32 → Int32 → Int32 → Int32 → Hp → Prop) (P118 : Int32 → Int32 → Int32 → Int32 → Int32 → Hp → Prop),
    (∀ (y1 : Int32) (y2 : Int32) (h : Hp), (tg h t = 7 ∧ (((fI h 59 t) ≤ y2 → P41 y1 (y1 / (2 : Int32)) h) ∧ (¬ (fI h 59 t) ≤ y2 → ∃ a2 : Nat, fR h 42 t = some a2 ∧ tg h a2 = 8 ∧ vp_in y2 (ln h a2) ∧ (((aI h a2 y2.toNatClampNeg) < 0 → P31 y1 y2 h) ∧ (¬ (aI h a2 y2.toNatClampNeg) < 0 → ∃ a6 : Nat, fR h 54 t = some a6 ∧ tg h a6 = 8 ∧ vp_in y1 (ln h a6) ∧ P31 (y1 + 1) y2 (qI h a6 y1.toNatClampNeg y2)))))) → P4 y1 y2 h) →
    (∀ (y1 : Int32) (y2 : Int32) (h : Hp), (((y2 ≤ 0 → P144 y1 (0 : Int32) (0 : Int32) h) ∧ (¬ y2 ≤ 0 → P47 y1 y2 y2 h))) → P41 y1 y2 h) →
    (∀ (y1 : Int32) (y2 : Int32) (h : Hp), (P4 y1 (y2 + 1) h) → P31 y1 y2 h) →
    (∀ (y1 : Int32) (y2 : Int32) (y3 : Int32) (h : Hp), (((y1 ≤ y3 → tg h t = 7 ∧ Q (.inl none) (pI h 57 t y2)) ∧ (¬ y1 ≤ y3 → tg h t = 7 ∧ ∃ a15 : Nat, fR h 54 t = some a15 ∧ tg h a15 = 8 ∧ vp_in y3 (ln h a15) ∧ ∃ a19 : Nat, fR h 44 t = some a19 ∧ tg h a19 = 8 ∧ vp_in (aI h a15 y3.toNatClampNeg) (ln h a19) ∧ ∃ a23 : Nat, fR h 45 t = some a23 ∧ tg h a23 = 8 ∧ vp_in (aI h a15 y3.toNatClampNeg) (ln h a23) ∧ P177 y1 y2 y3 (aI h a15 y3.toNatClampNeg) ((aI h a19 ((aI h a15 y3.toNatClampNeg).toNatClampNeg)) + (aI h a23 ((aI h a15 y3.toNatClampNeg).toNatClampNeg))) (0 : Int32) h))) → P144 y1 y2 y3 h) →
    (∀ (y1 : Int32) (y2 : Int32) (y3 : Int32) (h : Hp), (((y1 ≤ y3 → P41 y1 (y2 / (2 : Int32)) h) ∧ (¬ y1 ≤ y3 → tg h t = 7 ∧ ∃ a29 : Nat, fR h 54 t = some a29 ∧ tg h a29 = 8 ∧ vp_in y3 (ln h a29) ∧ P63 y1 y2 y3 (aI h a29 y3.toNatClampNeg) y3 h))) → P47 y1 y2 y3 h) →
    (∀ (y1 : Int32) (y2 : Int32) (y3 : Int32) (y4 : Int32) (y5 : Int32) (y6 : Int32) (h : Hp), (((y5 ≤ y6 → tg h t = 7 ∧ ∃ a35 : Nat, fR h 43 t = some a35 ∧ tg h a35 = 8 ∧ vp_in y4 (ln h a35) ∧ P144 y1 (y2 + y5) (y3 + 1) (qI h a35 y4.toNatClampNeg y2)) ∧ (¬ y5 ≤ y6 → tg h t = 7 ∧ ∃ a40 : Nat, fR h 43 t = some a40 ∧ tg h a40 = 8 ∧ vp_in y4 (ln h a40) ∧ ∃ a44 : Nat, fR h 56 t = some a44 ∧ tg h a44 = 9 ∧ vp_in ((aI h a40 y4.toNatClampNeg) + y6) (ln h a44) ∧ vp_in (y2 + y6) (ln h a44) ∧ P177 y1 y2 y3 y4 y5 (y6 + 1) (qL h a44 ((y2 + y6).toNatClampNeg) (aL h a44 (((aI h a40 y4.toNatClampNeg) + y6).toNatClampNeg)))))) → P177 y1 y2 y3 y4 y5 y6 h) →
    (∀ (y1 : Int32) (y2 : Int32) (y3 : Int32) (y4 : Int32) (y5 : Int32) (h : Hp), (((y5 < y2 → P118 y1 y2 y3 y4 y5 h) ∧ (¬ y5 < y2 → tg h t = 7 ∧ ∃ a51 : Nat, fR h 54 t = some a51 ∧ tg h a51 = 8 ∧ vp_in (y5 - y2) (ln h a51) ∧ ∃ a55 : Nat, fR h 43 t = some a55 ∧ tg h a55 = 8 ∧ vp_in (aI h a51 ((y5 - y2).toNatClampNeg)) (ln h a55) ∧ vp_in y4 (ln h a55) ∧ (((aI h a55 ((aI h a51 ((y5 - y2).toNatClampNeg)).toNatClampNeg)) ≤ (aI h a55 y4.toNatClampNeg) → P118 y1 y2 y3 y4 y5 h) ∧ (¬ (aI h a55 ((aI h a51 ((y5 - y2).toNatClampNeg)).toNatClampNeg)) ≤ (aI h a55 y4.toNatClampNeg) → vp_in (y5 - y2) (ln h a51) ∧ vp_in y5 (ln h a51) ∧ P63 y1 y2 y3 y4 (y5 - y2) (qI h a51 y5.toNatClampNeg (aI h a51 ((y5 - y2).toNatClampNeg)))))))) → P63 y1 y2 y3 y4 y5 h) →
    (∀ (y1 : Int32) (y2 : Int32) (y3 : Int32) (y4 : Int32) (y5 : Int32) (h : Hp), (tg h t = 7 ∧ ∃ a65 : Nat, fR h 54 t = some a65 ∧ tg h a65 = 8 ∧ vp_in y5 (ln h a65) ∧ P47 y1 y2 (y3 + 1) (qI h a65 y5.toNatClampNeg y4)) → P118 y1 y2 y3 y4 y5 h) →
    P4 (0 : Int32) (1 : Int32) h
set_option maxRecDepth 20000 in
theorem s_X7_push {t : Nat} {h : Hp} {Q : Option AV ⊕ String → Hp → Prop} {lv : Nat} (hlv : lv + 0 ≤ 12) (hv : vc_X7_push t h Q) (l : Launch) (D : va_G) (dA : Nat → ClassId) (sz : Nat) (hst : l.stackTraces = false) : Ctr l D dA sz (Cond.code yX7_push cX7_push 7 none) yX7_push lv [vr (some t)] h 0 0 Q := by
  refine Ctr.of (lo := [some (vr (some t)), none, none, none, none, none, none]) hst (by decide) (by simp [ena, isL]) rfl ?_
  intro G hg hlim C
  unfold vc_X7_push at hv
  have hv := hv (fun y1 y2 h => J G Q 4 [some (vr (some t)), some (vi y1), some (vi y2), none, none, none, none] [] h 0 0) (fun y1 y2 h => J G Q 41 [some (vr (some t)), some (vi y1), some (vi y2), none, none, none, none] [] h 0 0) (fun y1 y2 h => J G Q 31 [some (vr (some t)), some (vi y1), some (vi y2), none, none, none, none] [] h 0 0) (fun y1 y2 y3 h => J G Q 144 [some (vr (some t)), some (vi y1), some (vi y2), some (vi y3), none, none, none] [] h 0 0) (fun y1 y2 y3 h => J G Q 47 [some (vr (some t)), some (vi y1), some (vi y2), some (vi y3), none, none, none] [] h 0 0) (fun y1 y2 y3 y4 y5 y6 h => J G Q 177 [some (vr (some t)), some (vi y1), some (vi y2), some (vi y3), some (vi y4), some (vi y5), some (vi y6)] [] h 0 0) (fun y1 y2 y3 y4 y5 h => J G Q 63 [some (vr (some t)), some (vi y1), some (vi y2), some (vi y3), some (vi y4), some (vi y5), none] [] h 0 0) (fun y1 y2 y3 y4 y5 h => J G Q 118 [some (vr (some t)), some (vi y1), some (vi y2), some (vi y3), some (vi y4), some (vi y5), none] [] h 0 0)
  have hv := hv (by
      intro y1 y2 h hv
      refine j_iload_n C dX7_push_4 rfl ?_
      refine j_aload_n C dX7_push_5 rfl ?_
      obtain ⟨g1, hv⟩ := hv
      refine gf_X7_61 C rfl g1 dX7_push_6 ?_
      refine j_icmp_ge (tgt := 37) C dX7_push_9 (by decide) ⟨fun q11 => ?_, fun q11 => ?_⟩
      · have hv := hv.1 q11
        refine j_iload_n C dX7_push_37 rfl ?_
        refine j_iconst (v := (2 : Int32)) C dX7_push_38 (by decide) ?_
        refine j_idiv C dX7_push_39 (by decide) ?_
        refine j_istore_n (lo' := [some (vr (some t)), some (vi y1), some (vi (y1 / (2 : Int32))), none, none, none, none]) C dX7_push_40 (Nat.le_of_ble_eq_true rfl) rfl ?_
        exact j_sub (by exact (And.intro rfl (And.intro rfl (And.intro rfl trivial)))) hv
      · have hv := hv.2 q11
        refine j_aload_n C dX7_push_12 rfl ?_
        refine gf_X7_13 C rfl g1 dX7_push_13 ?_
        refine j_iload_n C dX7_push_16 rfl ?_
        obtain ⟨a2, e3, hv⟩ := hv
        obtain ⟨g4, hv⟩ := hv
        obtain ⟨b5, hv⟩ := hv
        refine k_iald (j := y2.toNatClampNeg) C e3 g4 b5 rfl dX7_push_17 ?_
        refine j_if_lt (tgt := 31) C dX7_push_18 (by decide) ⟨fun q10 => ?_, fun q10 => ?_⟩
        · have hv := hv.1 q10
          exact j_sub (by exact (And.intro rfl (And.intro rfl (And.intro rfl trivial)))) hv
        · have hv := hv.2 q10
          refine j_aload_n C dX7_push_21 rfl ?_
          refine gf_X7_51 C rfl g1 dX7_push_22 ?_
          refine j_iload_n C dX7_push_25 rfl ?_
          refine j_iinc (v := y1 + 1) (lo' := [some (vr (some t)), some (vi (y1 + 1)), some (vi y2), none, none, none, none]) C dX7_push_26 rfl rfl rfl ?_
          refine j_iload_n C dX7_push_29 rfl ?_
          obtain ⟨a6, e7, hv⟩ := hv
          obtain ⟨g8, hv⟩ := hv
          obtain ⟨b9, hv⟩ := hv
          refine k_iast (j := y1.toNatClampNeg) C e7 g8 b9 rfl dX7_push_30 ?_
          exact j_sub (by exact (And.intro rfl (And.intro rfl (And.intro rfl trivial)))) hv)
  have hv := hv (by
      intro y1 y2 h hv
      refine j_iload_n C dX7_push_41 rfl ?_
      refine j_if_le (tgt := 140) C dX7_push_42 (by decide) ⟨fun q12 => ?_, fun q12 => ?_⟩
      · have hv := hv.1 q12
        refine j_iconst (v := (0 : Int32)) C dX7_push_140 (by decide) ?_
        refine j_istore_n (lo' := [some (vr (some t)), some (vi y1), some (vi (0 : Int32)), none, none, none, none]) C dX7_push_141 (Nat.le_of_ble_eq_true rfl) rfl ?_
        refine j_iconst (v := (0 : Int32)) C dX7_push_142 (by decide) ?_
        refine j_istore_n (lo' := [some (vr (some t)), some (vi y1), some (vi (0 : Int32)), some (vi (0 : Int32)), none, none, none]) C dX7_push_143 (Nat.le_of_ble_eq_true rfl) rfl ?_
        exact j_sub (by exact (And.intro rfl (And.intro rfl (And.intro rfl (And.intro rfl trivial))))) hv
      · have hv := hv.2 q12
        refine j_iload_n C dX7_push_45 rfl ?_
        refine j_istore_n (lo' := [some (vr (some t)), some (vi y1), some (vi y2), some (vi y2), none, none, none]) C dX7_push_46 (Nat.le_of_ble_eq_true rfl) rfl ?_
        exact j_sub (by exact (And.intro rfl (And.intro rfl (And.intro rfl (And.intro rfl trivial))))) hv)
  have hv := hv (by
      intro y1 y2 h hv
      refine j_iinc (v := y2 + 1) (lo' := [some (vr (some t)), some (vi y1), some (vi (y2 + 1)), none, none, none, none]) C dX7_push_31 rfl rfl rfl ?_
      refine j_goto (tgt := 4) C dX7_push_34 (by decide) ?_
      exact j_sub (by exact (And.intro rfl (And.intro rfl (And.intro rfl trivial)))) hv)
  have hv := hv (by
      intro y1 y2 y3 h hv
      refine j_iload_n C dX7_push_144 rfl ?_
      refine j_iload_n C dX7_push_145 rfl ?_
      refine j_icmp_ge (tgt := 233) C dX7_push_146 (by decide) ⟨fun q27 => ?_, fun q27 => ?_⟩
      · have hv := hv.1 q27
        refine j_aload_n C dX7_push_233 rfl ?_
        refine j_iload_n C dX7_push_234 rfl ?_
        obtain ⟨g13, hv⟩ := hv
        refine pf_X7_93 C rfl g13 dX7_push_235 ?_
        exact j_vret C dX7_push_238 (hlim _ _ (by omega) (by omega)) hv
      · have hv := hv.2 q27
        refine j_aload_n C dX7_push_149 rfl ?_
        obtain ⟨g14, hv⟩ := hv
        refine gf_X7_51 C rfl g14 dX7_push_150 ?_
        refine j_iload_n C dX7_push_153 rfl ?_
        obtain ⟨a15, e16, hv⟩ := hv
        obtain ⟨g17, hv⟩ := hv
        obtain ⟨b18, hv⟩ := hv
        refine k_iald (j := y3.toNatClampNeg) C e16 g17 b18 rfl dX7_push_154 ?_
        refine j_istore (lo' := [some (vr (some t)), some (vi y1), some (vi y2), some (vi y3), some (vi (aI h a15 y3.toNatClampNeg)), none, none]) C dX7_push_155 (Nat.le_of_ble_eq_true rfl) rfl ?_
        refine j_aload_n C dX7_push_157 rfl ?_
        refine gf_X7_20 C rfl g14 dX7_push_158 ?_
        refine j_iload C dX7_push_161 rfl ?_
        obtain ⟨a19, e20, hv⟩ := hv
        obtain ⟨g21, hv⟩ := hv
        obtain ⟨b22, hv⟩ := hv
        refine k_iald (j := (aI h a15 y3.toNatClampNeg).toNatClampNeg) C e20 g21 b22 rfl dX7_push_163 ?_
        refine j_aload_n C dX7_push_164 rfl ?_
        refine gf_X7_23 C rfl g14 dX7_push_165 ?_
        refine j_iload C dX7_push_168 rfl ?_
        obtain ⟨a23, e24, hv⟩ := hv
        obtain ⟨g25, hv⟩ := hv
        obtain ⟨b26, hv⟩ := hv
        refine k_iald (j := (aI h a15 y3.toNatClampNeg).toNatClampNeg) C e24 g25 b26 rfl dX7_push_170 ?_
        refine j_iadd C dX7_push_171 ?_
        refine j_istore (lo' := [some (vr (some t)), some (vi y1), some (vi y2), some (vi y3), some (vi (aI h a15 y3.toNatClampNeg)), some (vi ((aI h a19 ((aI h a15 y3.toNatClampNeg).toNatClampNeg)) + (aI h a23 ((aI h a15 y3.toNatClampNeg).toNatClampNeg)))), none]) C dX7_push_172 (Nat.le_of_ble_eq_true rfl) rfl ?_
        refine j_iconst (v := (0 : Int32)) C dX7_push_174 (by decide) ?_
        refine j_istore (lo' := [some (vr (some t)), some (vi y1), some (vi y2), some (vi y3), some (vi (aI h a15 y3.toNatClampNeg)), some (vi ((aI h a19 ((aI h a15 y3.toNatClampNeg).toNatClampNeg)) + (aI h a23 ((aI h a15 y3.toNatClampNeg).toNatClampNeg)))), some (vi (0 : Int32))]) C dX7_push_175 (Nat.le_of_ble_eq_true rfl) rfl ?_
        exact j_sub (by exact (And.intro rfl (And.intro rfl (And.intro rfl (And.intro rfl (And.intro rfl (And.intro rfl (And.intro rfl trivial)))))))) hv)
  have hv := hv (by
      intro y1 y2 y3 h hv
      refine j_iload_n C dX7_push_47 rfl ?_
      refine j_iload_n C dX7_push_48 rfl ?_
      refine j_icmp_ge (tgt := 133) C dX7_push_49 (by decide) ⟨fun q33 => ?_, fun q33 => ?_⟩
      · have hv := hv.1 q33
        refine j_iload_n C dX7_push_133 rfl ?_
        refine j_iconst (v := (2 : Int32)) C dX7_push_134 (by decide) ?_
        refine j_idiv C dX7_push_135 (by decide) ?_
        refine j_istore_n (lo' := [some (vr (some t)), some (vi y1), some (vi (y2 / (2 : Int32))), some (vi y3), none, none, none]) C dX7_push_136 (Nat.le_of_ble_eq_true rfl) rfl ?_
        refine j_goto (tgt := 41) C dX7_push_137 (by decide) ?_
        exact j_sub (by exact (And.intro rfl (And.intro rfl (And.intro rfl trivial)))) hv
      · have hv := hv.2 q33
        refine j_aload_n C dX7_push_52 rfl ?_
        obtain ⟨g28, hv⟩ := hv
        refine gf_X7_51 C rfl g28 dX7_push_53 ?_
        refine j_iload_n C dX7_push_56 rfl ?_
        obtain ⟨a29, e30, hv⟩ := hv
        obtain ⟨g31, hv⟩ := hv
        obtain ⟨b32, hv⟩ := hv
        refine k_iald (j := y3.toNatClampNeg) C e30 g31 b32 rfl dX7_push_57 ?_
        refine j_istore (lo' := [some (vr (some t)), some (vi y1), some (vi y2), some (vi y3), some (vi (aI h a29 y3.toNatClampNeg)), none, none]) C dX7_push_58 (Nat.le_of_ble_eq_true rfl) rfl ?_
        refine j_iload_n C dX7_push_60 rfl ?_
        refine j_istore (lo' := [some (vr (some t)), some (vi y1), some (vi y2), some (vi y3), some (vi (aI h a29 y3.toNatClampNeg)), some (vi y3), none]) C dX7_push_61 (Nat.le_of_ble_eq_true rfl) rfl ?_
        exact j_sub (by exact (And.intro rfl (And.intro rfl (And.intro rfl (And.intro rfl (And.intro rfl (And.intro rfl trivial))))))) hv)
  have hv := hv (by
      intro y1 y2 y3 y4 y5 y6 h hv
      refine j_iload C dX7_push_177 rfl ?_
      refine j_iload C dX7_push_179 rfl ?_
      refine j_icmp_ge (tgt := 214) C dX7_push_181 (by decide) ⟨fun q49 => ?_, fun q49 => ?_⟩
      · have hv := hv.1 q49
        refine j_aload_n C dX7_push_214 rfl ?_
        obtain ⟨g34, hv⟩ := hv
        refine gf_X7_17 C rfl g34 dX7_push_215 ?_
        refine j_iload C dX7_push_218 rfl ?_
        refine j_iload_n C dX7_push_220 rfl ?_
        obtain ⟨a35, e36, hv⟩ := hv
        obtain ⟨g37, hv⟩ := hv
        obtain ⟨b38, hv⟩ := hv
        refine k_iast (j := y4.toNatClampNeg) C e36 g37 b38 rfl dX7_push_221 ?_
        refine j_iload_n C dX7_push_222 rfl ?_
        refine j_iload C dX7_push_223 rfl ?_
        refine j_iadd C dX7_push_225 ?_
        refine j_istore_n (lo' := [some (vr (some t)), some (vi y1), some (vi (y2 + y5)), some (vi y3), some (vi y4), some (vi y5), some (vi y6)]) C dX7_push_226 (Nat.le_of_ble_eq_true rfl) rfl ?_
        refine j_iinc (v := y3 + 1) (lo' := [some (vr (some t)), some (vi y1), some (vi (y2 + y5)), some (vi (y3 + 1)), some (vi y4), some (vi y5), some (vi y6)]) C dX7_push_227 rfl rfl rfl ?_
        refine j_goto (tgt := 144) C dX7_push_230 (by decide) ?_
        exact j_sub (by exact (And.intro rfl (And.intro rfl (And.intro rfl (And.intro rfl trivial))))) hv
      · have hv := hv.2 q49
        refine j_aload_n C dX7_push_184 rfl ?_
        obtain ⟨g39, hv⟩ := hv
        refine gf_X7_57 C rfl g39 dX7_push_185 ?_
        refine j_iload_n C dX7_push_188 rfl ?_
        refine j_iload C dX7_push_189 rfl ?_
        refine j_iadd C dX7_push_191 ?_
        refine j_aload_n C dX7_push_192 rfl ?_
        refine gf_X7_57 C rfl g39 dX7_push_193 ?_
        refine j_aload_n C dX7_push_196 rfl ?_
        refine gf_X7_17 C rfl g39 dX7_push_197 ?_
        refine j_iload C dX7_push_200 rfl ?_
        obtain ⟨a40, e41, hv⟩ := hv
        obtain ⟨g42, hv⟩ := hv
        obtain ⟨b43, hv⟩ := hv
        refine k_iald (j := y4.toNatClampNeg) C e41 g42 b43 rfl dX7_push_202 ?_
        refine j_iload C dX7_push_203 rfl ?_
        refine j_iadd C dX7_push_205 ?_
        obtain ⟨a44, e45, hv⟩ := hv
        obtain ⟨g46, hv⟩ := hv
        obtain ⟨b47, hv⟩ := hv
        refine k_lald (j := ((aI h a40 y4.toNatClampNeg) + y6).toNatClampNeg) C e45 g46 b47 rfl dX7_push_206 ?_
        obtain ⟨b48, hv⟩ := hv
        refine k_last (j := (y2 + y6).toNatClampNeg) C e45 g46 b48 rfl dX7_push_207 ?_
        refine j_iinc (v := y6 + 1) (lo' := [some (vr (some t)), some (vi y1), some (vi y2), some (vi y3), some (vi y4), some (vi y5), some (vi (y6 + 1))]) C dX7_push_208 rfl rfl rfl ?_
        refine j_goto (tgt := 177) C dX7_push_211 (by decide) ?_
        exact j_sub (by exact (And.intro rfl (And.intro rfl (And.intro rfl (And.intro rfl (And.intro rfl (And.intro rfl (And.intro rfl trivial)))))))) hv)
  have hv := hv (by
      intro y1 y2 y3 y4 y5 h hv
      refine j_iload C dX7_push_63 rfl ?_
      refine j_iload_n C dX7_push_65 rfl ?_
      refine j_icmp_lt (tgt := 118) C dX7_push_66 (by decide) ⟨fun q63 => ?_, fun q63 => ?_⟩
      · have hv := hv.1 q63
        exact j_sub (by exact (And.intro rfl (And.intro rfl (And.intro rfl (And.intro rfl (And.intro rfl (And.intro rfl trivial))))))) hv
      · have hv := hv.2 q63
        refine j_aload_n C dX7_push_69 rfl ?_
        obtain ⟨g50, hv⟩ := hv
        refine gf_X7_17 C rfl g50 dX7_push_70 ?_
        refine j_aload_n C dX7_push_73 rfl ?_
        refine gf_X7_51 C rfl g50 dX7_push_74 ?_
        refine j_iload C dX7_push_77 rfl ?_
        refine j_iload_n C dX7_push_79 rfl ?_
        refine j_isub C dX7_push_80 ?_
        obtain ⟨a51, e52, hv⟩ := hv
        obtain ⟨g53, hv⟩ := hv
        obtain ⟨b54, hv⟩ := hv
        refine k_iald (j := (y5 - y2).toNatClampNeg) C e52 g53 b54 rfl dX7_push_81 ?_
        obtain ⟨a55, e56, hv⟩ := hv
        obtain ⟨g57, hv⟩ := hv
        obtain ⟨b58, hv⟩ := hv
        refine k_iald (j := (aI h a51 ((y5 - y2).toNatClampNeg)).toNatClampNeg) C e56 g57 b58 rfl dX7_push_82 ?_
        refine j_aload_n C dX7_push_83 rfl ?_
        refine gf_X7_17 C rfl g50 dX7_push_84 ?_
        refine j_iload C dX7_push_87 rfl ?_
        obtain ⟨b59, hv⟩ := hv
        refine k_iald (j := y4.toNatClampNeg) C e56 g57 b59 rfl dX7_push_89 ?_
        refine j_icmp_le (tgt := 118) C dX7_push_90 (by decide) ⟨fun q62 => ?_, fun q62 => ?_⟩
        · have hv := hv.1 q62
          exact j_sub (by exact (And.intro rfl (And.intro rfl (And.intro rfl (And.intro rfl (And.intro rfl (And.intro rfl trivial))))))) hv
        · have hv := hv.2 q62
          refine j_aload_n C dX7_push_93 rfl ?_
          refine gf_X7_51 C rfl g50 dX7_push_94 ?_
          refine j_iload C dX7_push_97 rfl ?_
          refine j_aload_n C dX7_push_99 rfl ?_
          refine gf_X7_51 C rfl g50 dX7_push_100 ?_
          refine j_iload C dX7_push_103 rfl ?_
          refine j_iload_n C dX7_push_105 rfl ?_
          refine j_isub C dX7_push_106 ?_
          obtain ⟨b60, hv⟩ := hv
          refine k_iald (j := (y5 - y2).toNatClampNeg) C e52 g53 b60 rfl dX7_push_107 ?_
          obtain ⟨b61, hv⟩ := hv
          refine k_iast (j := y5.toNatClampNeg) C e52 g53 b61 rfl dX7_push_108 ?_
          refine j_iload C dX7_push_109 rfl ?_
          refine j_iload_n C dX7_push_111 rfl ?_
          refine j_isub C dX7_push_112 ?_
          refine j_istore (lo' := [some (vr (some t)), some (vi y1), some (vi y2), some (vi y3), some (vi y4), some (vi (y5 - y2)), none]) C dX7_push_113 (Nat.le_of_ble_eq_true rfl) rfl ?_
          refine j_goto (tgt := 63) C dX7_push_115 (by decide) ?_
          exact j_sub (by exact (And.intro rfl (And.intro rfl (And.intro rfl (And.intro rfl (And.intro rfl (And.intro rfl trivial))))))) hv)
  have hv := hv (by
      intro y1 y2 y3 y4 y5 h hv
      refine j_aload_n C dX7_push_118 rfl ?_
      obtain ⟨g64, hv⟩ := hv
      refine gf_X7_51 C rfl g64 dX7_push_119 ?_
      refine j_iload C dX7_push_122 rfl ?_
      refine j_iload C dX7_push_124 rfl ?_
      obtain ⟨a65, e66, hv⟩ := hv
      obtain ⟨g67, hv⟩ := hv
      obtain ⟨b68, hv⟩ := hv
      refine k_iast (j := y5.toNatClampNeg) C e66 g67 b68 rfl dX7_push_126 ?_
      refine j_iinc (v := y3 + 1) (lo' := [some (vr (some t)), some (vi y1), some (vi y2), some (vi (y3 + 1)), some (vi y4), some (vi y5), none]) C dX7_push_127 rfl rfl rfl ?_
      refine j_goto (tgt := 47) C dX7_push_130 (by decide) ?_
      exact j_sub (by exact (And.intro rfl (And.intro rfl (And.intro rfl (And.intro rfl trivial))))) hv)
  refine j_iconst (v := (0 : Int32)) C dX7_push_0 (by decide) ?_
  refine j_istore_n (lo' := [some (vr (some t)), some (vi (0 : Int32)), none, none, none, none, none]) C dX7_push_1 (Nat.le_of_ble_eq_true rfl) rfl ?_
  refine j_iconst (v := (1 : Int32)) C dX7_push_2 (by decide) ?_
  refine j_istore_n (lo' := [some (vr (some t)), some (vi (0 : Int32)), some (vi (1 : Int32)), none, none, none, none]) C dX7_push_3 (Nat.le_of_ble_eq_true rfl) rfl ?_
  exact j_sub (by exact (And.intro rfl (And.intro rfl (And.intro rfl trivial)))) hv
def vc_X7_make (t : Nat) (x1 : Int32) (x2 : Int32) (x3 : Int32) (h : Hp) (Q : Option AV ⊕ String → Hp → Prop) : Prop :=
    ∀ (P29 : Int32 → Hp → Prop) (P49 : Int32 → Hp → Prop) (P113 : Int32 → Int32 → Hp → Prop) (P131 : Int32 → Int32 → Hp → Prop) (P217 : Int32 → Int32 → Int32 → Hp → Prop) (P306 : Int32 → Hp → Prop),
    (∀ (y4 : Int32) (h : Hp), (tg h t = 7 ∧ ((((fI h 58 t) + y4) ≤ (fI h 41 t) → P49 y4 h) ∧ (¬ ((fI h 58 t) + y4) ≤ (fI h 41 t) → vc_X7_collectAll t (1 : Int32) h (qi (fun v9 h8 => P49 y4 h8) qn)))) → P29 y4 h) →
    (∀ (y4 : Int32) (h : Hp), (tg h t = 7 ∧ ((((fI h 58 t) + y4) ≤ (fI h 41 t) → (((fI h 60 t) = 0 → P113 y4 (fI h 59 t) (pI h 59 t ((fI h 59 t) + (1 : Int32)))) ∧ (¬ (fI h 60 t) = 0 → ∃ a12 : Nat, fR h 47 t = some a12 ∧ tg h a12 = 8 ∧ vp_in (fI h 60 t) (ln h a12) ∧ P113 y4 (fI h 60 t) (pI h 60 t (aI h a12 ((fI h 60 t).toNatClampNeg)))))) ∧ (¬ ((fI h 58 t) + y4) ≤ (fI h 41 t) → Q (.inl (some (vi (0 : Int32)))) (pI h 72 t ((fI h 72 t) + (1 : Int32)))))) → P49 y4 h) →
    (∀ (y4 : Int32) (y5 : Int32) (h : Hp), (tg h t = 7 ∧ (((((fI h 57 t) + x2) + x3) ≤ (31000 : Int32) → P131 y4 y5 h) ∧ (¬ (((fI h 57 t) + x2) + x3) ≤ (31000 : Int32) → vc_X7_push t h (qv (fun h19 => P131 y4 y5 h19) qn)))) → P113 y4 y5 h) →
    (∀ (y4 : Int32) (y5 : Int32) (h : Hp), (tg h t = 7 ∧ ∃ a23 : Nat, fR h 42 t = some a23 ∧ tg h a23 = 8 ∧ vp_in y5 (ln h a23) ∧ ∃ a27 : Nat, fR h 43 t = some a27 ∧ tg h a27 = 8 ∧ vp_in y5 (ln h a27) ∧ ∃ a31 : Nat, fR h 44 t = some a31 ∧ tg h a31 = 8 ∧ vp_in y5 (ln h a31) ∧ (∀ h35 : Hp, h35 = (qI (qI (qI h a23 y5.toNatClampNeg x1) a27 y5.toNatClampNeg (fI h 57 t)) a31 y5.toNatClampNeg x2) → ∃ a37 : Nat, fR h35 45 t = some a37 ∧ tg h35 a37 = 8 ∧ vp_in y5 (ln h35 a37) ∧ ∃ a41 : Nat, fR h35 46 t = some a41 ∧ tg h35 a41 = 8 ∧ vp_in y5 (ln h35 a41) ∧ ∃ a45 : Nat, fR h35 47 t = some a45 ∧ tg h35 a45 = 8 ∧ vp_in y5 (ln h35 a45) ∧ (∀ h49 : Hp, h49 = (qI (qI (qI h35 a37 y5.toNatClampNeg x3) a41 y5.toNatClampNeg (0 : Int32)) a45 y5.toNatClampNeg (0 : Int32)) → ∃ a51 : Nat, fR h49 48 t = some a51 ∧ tg h49 a51 = 8 ∧ vp_in y5 (ln h49 a51) ∧ ∃ a55 : Nat, fR h49 49 t = some a55 ∧ tg h49 a55 = 8 ∧ vp_in y5 (ln h49 a55) ∧ ∃ a59 : Nat, fR h49 50 t = some a59 ∧ tg h49 a59 = 8 ∧ vp_in y5 (ln h49 a59) ∧ (∀ h63 : Hp, h63 = (qI (qI (qI h49 a51 y5.toNatClampNeg (0 : Int32)) a55 y5.toNatClampNeg (0 : Int32)) a59 y5.toNatClampNeg (0 : Int32)) → ∃ a65 : Nat, fR h63 52 t = some a65 ∧ tg h63 a65 = 10 ∧ vp_in y5 (ln h63 a65) ∧ P217 y4 y5 (0 : Int32) (qI h63 a65 y5.toNatClampNeg (0 : Int32)))))) → P131 y4 y5 h) →
    (∀ (y4 : Int32) (y5 : Int32) (y6 : Int32) (h : Hp), ((((x2 + x3) ≤ y6 → tg h t = 7 ∧ (∀ h70 : Hp, h70 = (pI (pI (pI h 57 t ((fI h 57 t) + (x2 + x3))) 58 t ((fI h 58 t) + y4)) 65 t ((fI h 65 t) + (1 : Int32))) → (((fI h70 58 t) ≤ (fI h70 70 t) → P306 y5 (pI h70 66 t ((fI h70 66 t) + (1 : Int32)))) ∧ (¬ (fI h70 58 t) ≤ (fI h70 70 t) → P306 y5 (pI (pI h70 66 t ((fI h70 66 t) + (1 : Int32))) 70 t (fI h70 58 t)))))) ∧ (¬ (x2 + x3) ≤ y6 → tg h t = 7 ∧ ∃ a74 : Nat, fR h 56 t = some a74 ∧ tg h a74 = 9 ∧ vp_in ((fI h 57 t) + y6) (ln h a74) ∧ P217 y4 y5 (y6 + 1) (qL h a74 (((fI h 57 t) + y6).toNatClampNeg) (0 : Int64))))) → P217 y4 y5 y6 h) →
    (∀ (y5 : Int32) (h : Hp), (Q (.inl (some (vi y5))) h) → P306 y5 h) →
    vc_X7_cells x1 (x2 + x3) h (qi (fun v2 h1 => tg h1 t = 7 ∧ ((((fI h1 58 t) + v2) ≤ (fI h1 41 t) → P29 v2 h1) ∧ (¬ ((fI h1 58 t) + v2) ≤ (fI h1 41 t) → vc_X7_collectAll t (0 : Int32) h1 (qi (fun v5 h4 => P29 v2 h4) qn)))) qn)
set_option maxRecDepth 20000 in
theorem s_X7_make {t : Nat} {x1 : Int32} {x2 : Int32} {x3 : Int32} {h : Hp} {Q : Option AV ⊕ String → Hp → Prop} {lv : Nat} (hlv : lv + 3 ≤ 12) (hv : vc_X7_make t x1 x2 x3 h Q) (l : Launch) (D : va_G) (dA : Nat → ClassId) (sz : Nat) (hst : l.stackTraces = false) : Ctr l D dA sz (Cond.code yX7_make cX7_make 7 (some .int)) yX7_make lv [vr (some t), vi x1, vi x2, vi x3] h 0 0 Q := by
  refine Ctr.of (lo := [some (vr (some t)), some (vi x1), some (vi x2), some (vi x3), none, none, none]) hst (by decide) (by simp [ena, isL]) rfl ?_
  intro G hg hlim C
  unfold vc_X7_make at hv
  have hv := hv (fun y4 h => J G Q 29 [some (vr (some t)), some (vi x1), some (vi x2), some (vi x3), some (vi y4), none, none] [] h 0 0) (fun y4 h => J G Q 49 [some (vr (some t)), some (vi x1), some (vi x2), some (vi x3), some (vi y4), none, none] [] h 0 0) (fun y4 y5 h => J G Q 113 [some (vr (some t)), some (vi x1), some (vi x2), some (vi x3), some (vi y4), some (vi y5), none] [] h 0 0) (fun y4 y5 h => J G Q 131 [some (vr (some t)), some (vi x1), some (vi x2), some (vi x3), some (vi y4), some (vi y5), none] [] h 0 0) (fun y4 y5 y6 h => J G Q 217 [some (vr (some t)), none, some (vi x2), some (vi x3), some (vi y4), some (vi y5), some (vi y6)] [] h 0 0) (fun y5 h => J G Q 306 [none, none, none, none, none, some (vi y5), none] [] h 0 0)
  have hv := hv (by
      intro y4 h hv
      refine j_aload_n C dX7_make_29 rfl ?_
      obtain ⟨g7, hv⟩ := hv
      refine gf_X7_80 C rfl g7 dX7_make_30 ?_
      refine j_iload C dX7_make_33 rfl ?_
      refine j_iadd C dX7_make_35 ?_
      refine j_aload_n C dX7_make_36 rfl ?_
      refine gf_X7_73 C rfl g7 dX7_make_37 ?_
      refine j_icmp_le (tgt := 49) C dX7_make_40 (by decide) ⟨fun q10 => ?_, fun q10 => ?_⟩
      · have hv := hv.1 q10
        exact j_sub (by exact (And.intro rfl (And.intro rfl (And.intro rfl (And.intro rfl (And.intro rfl trivial)))))) hv
      · have hv := hv.2 q10
        refine j_aload_n C dX7_make_43 rfl ?_
        refine j_iconst (v := (1 : Int32)) C dX7_make_44 (by decide) ?_
        refine k_callV C 6 [vi (1 : Int32)] mv_X7_83 rfl rfl (fun l D dA sz hl => s_X7_collectAll (by omega) hv l D dA sz hl) rfl rfl (by decide) g7 rfl (by omega) (Nat.le_of_ble_eq_true rfl) (hlim _ _ (by omega) (by omega)) dX7_make_45 (fun _ _ q => False.elim q) (fun v h8 hq => ?_)
        obtain ⟨v9, rfl, hv⟩ := qi_inv hq
        refine j_pop C dX7_make_48 rfl ?_
        exact j_sub (by exact (And.intro rfl (And.intro rfl (And.intro rfl (And.intro rfl (And.intro rfl trivial)))))) hv)
  have hv := hv (by
      intro y4 h hv
      refine j_aload_n C dX7_make_49 rfl ?_
      obtain ⟨g11, hv⟩ := hv
      refine gf_X7_80 C rfl g11 dX7_make_50 ?_
      refine j_iload C dX7_make_53 rfl ?_
      refine j_iadd C dX7_make_55 ?_
      refine j_aload_n C dX7_make_56 rfl ?_
      refine gf_X7_73 C rfl g11 dX7_make_57 ?_
      refine j_icmp_le (tgt := 75) C dX7_make_60 (by decide) ⟨fun q17 => ?_, fun q17 => ?_⟩
      · have hv := hv.1 q17
        refine j_aload_n C dX7_make_75 rfl ?_
        refine gf_X7_90 C rfl g11 dX7_make_76 ?_
        refine j_istore (lo' := [some (vr (some t)), some (vi x1), some (vi x2), some (vi x3), some (vi y4), some (vi (fI h 60 t)), none]) C dX7_make_79 (Nat.le_of_ble_eq_true rfl) rfl ?_
        refine j_iload C dX7_make_81 rfl ?_
        refine j_if_eq (tgt := 100) C dX7_make_83 (by decide) ⟨fun q16 => ?_, fun q16 => ?_⟩
        · have hv := hv.1 q16
          refine j_aload_n C dX7_make_100 rfl ?_
          refine j_dup C dX7_make_101 rfl ?_
          refine gf_X7_61 C rfl g11 dX7_make_102 ?_
          refine j_dup_x1 C dX7_make_105 rfl rfl ?_
          refine j_iconst (v := (1 : Int32)) C dX7_make_106 (by decide) ?_
          refine j_iadd C dX7_make_107 ?_
          refine pf_X7_61 C rfl g11 dX7_make_108 ?_
          refine j_istore (lo' := [some (vr (some t)), some (vi x1), some (vi x2), some (vi x3), some (vi y4), some (vi (fI h 59 t)), none]) C dX7_make_111 (Nat.le_of_ble_eq_true rfl) rfl ?_
          exact j_sub (by exact (And.intro rfl (And.intro rfl (And.intro rfl (And.intro rfl (And.intro rfl (And.intro rfl trivial))))))) hv
        · have hv := hv.2 q16
          refine j_aload_n C dX7_make_86 rfl ?_
          refine j_aload_n C dX7_make_87 rfl ?_
          refine gf_X7_29 C rfl g11 dX7_make_88 ?_
          refine j_iload C dX7_make_91 rfl ?_
          obtain ⟨a12, e13, hv⟩ := hv
          obtain ⟨g14, hv⟩ := hv
          obtain ⟨b15, hv⟩ := hv
          refine k_iald (j := (fI h 60 t).toNatClampNeg) C e13 g14 b15 rfl dX7_make_93 ?_
          refine pf_X7_90 C rfl g11 dX7_make_94 ?_
          refine j_goto (tgt := 113) C dX7_make_97 (by decide) ?_
          exact j_sub (by exact (And.intro rfl (And.intro rfl (And.intro rfl (And.intro rfl (And.intro rfl (And.intro rfl trivial))))))) hv
      · have hv := hv.2 q17
        refine j_aload_n C dX7_make_63 rfl ?_
        refine j_dup C dX7_make_64 rfl ?_
        refine gf_X7_87 C rfl g11 dX7_make_65 ?_
        refine j_iconst (v := (1 : Int32)) C dX7_make_68 (by decide) ?_
        refine j_iadd C dX7_make_69 ?_
        refine pf_X7_87 C rfl g11 dX7_make_70 ?_
        refine j_iconst (v := (0 : Int32)) C dX7_make_73 (by decide) ?_
        exact j_iret C dX7_make_74 (hlim _ _ (by omega) (by omega)) hv)
  have hv := hv (by
      intro y4 y5 h hv
      refine j_aload_n C dX7_make_113 rfl ?_
      obtain ⟨g18, hv⟩ := hv
      refine gf_X7_93 C rfl g18 dX7_make_114 ?_
      refine j_iload_n C dX7_make_117 rfl ?_
      refine j_iadd C dX7_make_118 ?_
      refine j_iload_n C dX7_make_119 rfl ?_
      refine j_iadd C dX7_make_120 ?_
      refine j_sipush (v := (31000 : Int32)) C dX7_make_121 (by decide) ?_
      refine j_icmp_le (tgt := 131) C dX7_make_124 (by decide) ⟨fun q21 => ?_, fun q21 => ?_⟩
      · have hv := hv.1 q21
        exact j_sub (by exact (And.intro rfl (And.intro rfl (And.intro rfl (And.intro rfl (And.intro rfl (And.intro rfl trivial))))))) hv
      · have hv := hv.2 q21
        refine j_aload_n C dX7_make_127 rfl ?_
        refine k_callV C 6 [] mv_X7_96 rfl rfl (fun l D dA sz hl => s_X7_push (by omega) hv l D dA sz hl) rfl rfl (by decide) g18 rfl (by omega) (Nat.le_of_ble_eq_true rfl) (hlim _ _ (by omega) (by omega)) dX7_make_128 (fun _ _ q => False.elim q) (fun v h19 hq => ?_)
        obtain ⟨rfl, hv⟩ := qv_inv hq
        exact j_sub (by exact (And.intro rfl (And.intro rfl (And.intro rfl (And.intro rfl (And.intro rfl (And.intro rfl trivial))))))) hv)
  have hv := hv (by
      intro y4 y5 h hv
      refine j_aload_n C dX7_make_131 rfl ?_
      obtain ⟨g22, hv⟩ := hv
      refine gf_X7_13 C rfl g22 dX7_make_132 ?_
      refine j_iload C dX7_make_135 rfl ?_
      refine j_iload_n C dX7_make_137 rfl ?_
      obtain ⟨a23, e24, hv⟩ := hv
      obtain ⟨g25, hv⟩ := hv
      obtain ⟨b26, hv⟩ := hv
      refine k_iast (j := y5.toNatClampNeg) C e24 g25 b26 rfl dX7_make_138 ?_
      refine j_aload_n C dX7_make_139 rfl ?_
      refine gf_X7_17 C rfl g22 dX7_make_140 ?_
      refine j_iload C dX7_make_143 rfl ?_
      refine j_aload_n C dX7_make_145 rfl ?_
      refine gf_X7_93 C rfl g22 dX7_make_146 ?_
      obtain ⟨a27, e28, hv⟩ := hv
      obtain ⟨g29, hv⟩ := hv
      obtain ⟨b30, hv⟩ := hv
      refine k_iast (j := y5.toNatClampNeg) C e28 g29 b30 rfl dX7_make_149 ?_
      refine j_aload_n C dX7_make_150 rfl ?_
      refine gf_X7_20 C rfl g22 dX7_make_151 ?_
      refine j_iload C dX7_make_154 rfl ?_
      refine j_iload_n C dX7_make_156 rfl ?_
      obtain ⟨a31, e32, hv⟩ := hv
      obtain ⟨g33, hv⟩ := hv
      obtain ⟨b34, hv⟩ := hv
      refine k_iast (j := y5.toNatClampNeg) C e32 g33 b34 rfl dX7_make_157 ?_
      refine j_name (fun h35 E36 => ?_)
      have hv := hv h35 E36
      have g22 : tg h35 t = 7 := by rw [E36]; exact g22
      have g25 : tg h35 a23 = 8 := by rw [E36]; exact g25
      have g29 : tg h35 a27 = 8 := by rw [E36]; exact g29
      have g33 : tg h35 a31 = 8 := by rw [E36]; exact g33
      refine j_aload_n C dX7_make_158 rfl ?_
      refine gf_X7_23 C rfl g22 dX7_make_159 ?_
      refine j_iload C dX7_make_162 rfl ?_
      refine j_iload_n C dX7_make_164 rfl ?_
      obtain ⟨a37, e38, hv⟩ := hv
      obtain ⟨g39, hv⟩ := hv
      obtain ⟨b40, hv⟩ := hv
      refine k_iast (j := y5.toNatClampNeg) C e38 g39 b40 rfl dX7_make_165 ?_
      refine j_aload_n C dX7_make_166 rfl ?_
      refine gf_X7_26 C rfl g22 dX7_make_167 ?_
      refine j_iload C dX7_make_170 rfl ?_
      refine j_iconst (v := (0 : Int32)) C dX7_make_172 (by decide) ?_
      obtain ⟨a41, e42, hv⟩ := hv
      obtain ⟨g43, hv⟩ := hv
      obtain ⟨b44, hv⟩ := hv
      refine k_iast (j := y5.toNatClampNeg) C e42 g43 b44 rfl dX7_make_173 ?_
      refine j_aload_n C dX7_make_174 rfl ?_
      refine gf_X7_29 C rfl g22 dX7_make_175 ?_
      refine j_iload C dX7_make_178 rfl ?_
      refine j_iconst (v := (0 : Int32)) C dX7_make_180 (by decide) ?_
      obtain ⟨a45, e46, hv⟩ := hv
      obtain ⟨g47, hv⟩ := hv
      obtain ⟨b48, hv⟩ := hv
      refine k_iast (j := y5.toNatClampNeg) C e46 g47 b48 rfl dX7_make_181 ?_
      refine j_name (fun h49 E50 => ?_)
      have hv := hv h49 E50
      have g22 : tg h49 t = 7 := by rw [E50]; exact g22
      have g25 : tg h49 a23 = 8 := by rw [E50]; exact g25
      have g29 : tg h49 a27 = 8 := by rw [E50]; exact g29
      have g33 : tg h49 a31 = 8 := by rw [E50]; exact g33
      have g39 : tg h49 a37 = 8 := by rw [E50]; exact g39
      have g43 : tg h49 a41 = 8 := by rw [E50]; exact g43
      have g47 : tg h49 a45 = 8 := by rw [E50]; exact g47
      refine j_aload_n C dX7_make_182 rfl ?_
      refine gf_X7_32 C rfl g22 dX7_make_183 ?_
      refine j_iload C dX7_make_186 rfl ?_
      refine j_iconst (v := (0 : Int32)) C dX7_make_188 (by decide) ?_
      obtain ⟨a51, e52, hv⟩ := hv
      obtain ⟨g53, hv⟩ := hv
      obtain ⟨b54, hv⟩ := hv
      refine k_iast (j := y5.toNatClampNeg) C e52 g53 b54 rfl dX7_make_189 ?_
      refine j_aload_n C dX7_make_190 rfl ?_
      refine gf_X7_35 C rfl g22 dX7_make_191 ?_
      refine j_iload C dX7_make_194 rfl ?_
      refine j_iconst (v := (0 : Int32)) C dX7_make_196 (by decide) ?_
      obtain ⟨a55, e56, hv⟩ := hv
      obtain ⟨g57, hv⟩ := hv
      obtain ⟨b58, hv⟩ := hv
      refine k_iast (j := y5.toNatClampNeg) C e56 g57 b58 rfl dX7_make_197 ?_
      refine j_aload_n C dX7_make_198 rfl ?_
      refine gf_X7_38 C rfl g22 dX7_make_199 ?_
      refine j_iload C dX7_make_202 rfl ?_
      refine j_iconst (v := (0 : Int32)) C dX7_make_204 (by decide) ?_
      obtain ⟨a59, e60, hv⟩ := hv
      obtain ⟨g61, hv⟩ := hv
      obtain ⟨b62, hv⟩ := hv
      refine k_iast (j := y5.toNatClampNeg) C e60 g61 b62 rfl dX7_make_205 ?_
      refine j_name (fun h63 E64 => ?_)
      have hv := hv h63 E64
      have g22 : tg h63 t = 7 := by rw [E64]; exact g22
      have g25 : tg h63 a23 = 8 := by rw [E64]; exact g25
      have g29 : tg h63 a27 = 8 := by rw [E64]; exact g29
      have g33 : tg h63 a31 = 8 := by rw [E64]; exact g33
      have g39 : tg h63 a37 = 8 := by rw [E64]; exact g39
      have g43 : tg h63 a41 = 8 := by rw [E64]; exact g43
      have g47 : tg h63 a45 = 8 := by rw [E64]; exact g47
      have g53 : tg h63 a51 = 8 := by rw [E64]; exact g53
      have g57 : tg h63 a55 = 8 := by rw [E64]; exact g57
      have g61 : tg h63 a59 = 8 := by rw [E64]; exact g61
      refine j_aload_n C dX7_make_206 rfl ?_
      refine gf_X7_44 C rfl g22 dX7_make_207 ?_
      refine j_iload C dX7_make_210 rfl ?_
      refine j_iconst (v := (0 : Int32)) C dX7_make_212 (by decide) ?_
      obtain ⟨a65, e66, hv⟩ := hv
      obtain ⟨g67, hv⟩ := hv
      obtain ⟨b68, hv⟩ := hv
      refine k_zast (j := y5.toNatClampNeg) C e66 g67 b68 rfl (Or.inl rfl) dX7_make_213 ?_
      refine j_iconst (v := (0 : Int32)) C dX7_make_214 (by decide) ?_
      refine j_istore (lo' := [some (vr (some t)), some (vi x1), some (vi x2), some (vi x3), some (vi y4), some (vi y5), some (vi (0 : Int32))]) C dX7_make_215 (Nat.le_of_ble_eq_true rfl) rfl ?_
      exact j_sub (by exact (And.intro rfl (And.intro rfl (And.intro rfl (And.intro rfl (And.intro rfl (And.intro rfl trivial))))))) hv)
  have hv := hv (by
      intro y4 y5 y6 h hv
      refine j_iload C dX7_make_217 rfl ?_
      refine j_iload_n C dX7_make_219 rfl ?_
      refine j_iload_n C dX7_make_220 rfl ?_
      refine j_iadd C dX7_make_221 ?_
      refine j_icmp_ge (tgt := 244) C dX7_make_222 (by decide) ⟨fun q78 => ?_, fun q78 => ?_⟩
      · have hv := hv.1 q78
        refine j_aload_n C dX7_make_244 rfl ?_
        refine j_dup C dX7_make_245 rfl ?_
        obtain ⟨g69, hv⟩ := hv
        refine gf_X7_93 C rfl g69 dX7_make_246 ?_
        refine j_iload_n C dX7_make_249 rfl ?_
        refine j_iload_n C dX7_make_250 rfl ?_
        refine j_iadd C dX7_make_251 ?_
        refine j_iadd C dX7_make_252 ?_
        refine pf_X7_93 C rfl g69 dX7_make_253 ?_
        refine j_aload_n C dX7_make_256 rfl ?_
        refine j_dup C dX7_make_257 rfl ?_
        refine gf_X7_80 C rfl g69 dX7_make_258 ?_
        refine j_iload C dX7_make_261 rfl ?_
        refine j_iadd C dX7_make_263 ?_
        refine pf_X7_80 C rfl g69 dX7_make_264 ?_
        refine j_aload_n C dX7_make_267 rfl ?_
        refine j_dup C dX7_make_268 rfl ?_
        refine gf_X7_99 C rfl g69 dX7_make_269 ?_
        refine j_iconst (v := (1 : Int32)) C dX7_make_272 (by decide) ?_
        refine j_iadd C dX7_make_273 ?_
        refine pf_X7_99 C rfl g69 dX7_make_274 ?_
        refine j_name (fun h70 E71 => ?_)
        have hv := hv h70 E71
        have g69 : tg h70 t = 7 := by rw [E71]; exact g69
        refine j_aload_n C dX7_make_277 rfl ?_
        refine j_dup C dX7_make_278 rfl ?_
        refine gf_X7_102 C rfl g69 dX7_make_279 ?_
        refine j_iconst (v := (1 : Int32)) C dX7_make_282 (by decide) ?_
        refine j_iadd C dX7_make_283 ?_
        refine pf_X7_102 C rfl g69 dX7_make_284 ?_
        refine j_aload_n C dX7_make_287 rfl ?_
        refine gf_X7_80 C rfl g69 dX7_make_288 ?_
        refine j_aload_n C dX7_make_291 rfl ?_
        refine gf_X7_105 C rfl g69 dX7_make_292 ?_
        refine j_icmp_le (tgt := 306) C dX7_make_295 (by decide) ⟨fun q72 => ?_, fun q72 => ?_⟩
        · have hv := hv.1 q72
          exact j_sub (by exact (And.intro rfl trivial)) hv
        · have hv := hv.2 q72
          refine j_aload_n C dX7_make_298 rfl ?_
          refine j_aload_n C dX7_make_299 rfl ?_
          refine gf_X7_80 C rfl g69 dX7_make_300 ?_
          refine pf_X7_105 C rfl g69 dX7_make_303 ?_
          exact j_sub (by exact (And.intro rfl trivial)) hv
      · have hv := hv.2 q78
        refine j_aload_n C dX7_make_225 rfl ?_
        obtain ⟨g73, hv⟩ := hv
        refine gf_X7_57 C rfl g73 dX7_make_226 ?_
        refine j_aload_n C dX7_make_229 rfl ?_
        refine gf_X7_93 C rfl g73 dX7_make_230 ?_
        refine j_iload C dX7_make_233 rfl ?_
        refine j_iadd C dX7_make_235 ?_
        refine j_lconst (v := (0 : Int64)) C dX7_make_236 (by decide) ?_
        obtain ⟨a74, e75, hv⟩ := hv
        obtain ⟨g76, hv⟩ := hv
        obtain ⟨b77, hv⟩ := hv
        refine k_last (j := ((fI h 57 t) + y6).toNatClampNeg) C e75 g76 b77 rfl dX7_make_237 ?_
        refine j_iinc (v := y6 + 1) (lo' := [some (vr (some t)), none, some (vi x2), some (vi x3), some (vi y4), some (vi y5), some (vi (y6 + 1))]) C dX7_make_238 rfl rfl rfl ?_
        refine j_goto (tgt := 217) C dX7_make_241 (by decide) ?_
        exact j_sub (by exact (And.intro rfl (And.intro rfl (And.intro rfl (And.intro rfl (And.intro rfl (And.intro rfl trivial))))))) hv)
  have hv := hv (by
      intro y5 h hv
      refine j_iload C dX7_make_306 rfl ?_
      exact j_iret C dX7_make_308 (hlim _ _ (by omega) (by omega)) hv)
  refine j_iload_n C dX7_make_0 rfl ?_
  refine j_iload_n C dX7_make_1 rfl ?_
  refine j_iload_n C dX7_make_2 rfl ?_
  refine j_iadd C dX7_make_3 ?_
  refine k_callS C [vi x1, vi (x2 + x3)] ms_X7_76 rfl (fun l D dA sz hl => s_X7_cells (by omega) hv l D dA sz hl) rfl (by omega) (Nat.le_of_ble_eq_true rfl) (hlim _ _ (by omega) (by omega)) dX7_make_4 (fun _ _ q => False.elim q) (fun v h1 hq => ?_)
  obtain ⟨v2, rfl, hv⟩ := qi_inv hq
  refine j_istore (lo' := [some (vr (some t)), some (vi x1), some (vi x2), some (vi x3), some (vi v2), none, none]) C dX7_make_7 (Nat.le_of_ble_eq_true rfl) rfl ?_
  refine j_aload_n C dX7_make_9 rfl ?_
  obtain ⟨g3, hv⟩ := hv
  refine gf_X7_80 C rfl g3 dX7_make_10 ?_
  refine j_iload C dX7_make_13 rfl ?_
  refine j_iadd C dX7_make_15 ?_
  refine j_aload_n C dX7_make_16 rfl ?_
  refine gf_X7_73 C rfl g3 dX7_make_17 ?_
  refine j_icmp_le (tgt := 29) C dX7_make_20 (by decide) ⟨fun q6 => ?_, fun q6 => ?_⟩
  · have hv := hv.1 q6
    exact j_sub (by exact (And.intro rfl (And.intro rfl (And.intro rfl (And.intro rfl (And.intro rfl trivial)))))) hv
  · have hv := hv.2 q6
    refine j_aload_n C dX7_make_23 rfl ?_
    refine j_iconst (v := (0 : Int32)) C dX7_make_24 (by decide) ?_
    refine k_callV C 6 [vi (0 : Int32)] mv_X7_83 rfl rfl (fun l D dA sz hl => s_X7_collectAll (by omega) hv l D dA sz hl) rfl rfl (by decide) g3 rfl (by omega) (Nat.le_of_ble_eq_true rfl) (hlim _ _ (by omega) (by omega)) dX7_make_25 (fun _ _ q => False.elim q) (fun v h4 hq => ?_)
    obtain ⟨v5, rfl, hv⟩ := qi_inv hq
    refine j_pop C dX7_make_28 rfl ?_
    exact j_sub (by exact (And.intro rfl (And.intro rfl (And.intro rfl (And.intro rfl (And.intro rfl trivial)))))) hv
def vc_X7_made (t : Nat) (x1 : Int32) (x2 : Int32) (h : Hp) (Q : Option AV ⊕ String → Hp → Prop) : Prop :=
    ((¬ x2 = 0 → tg h t = 7 ∧ ∃ a2 : Nat, fR h 61 t = some a2 ∧ tg h a2 = 8 ∧ vp_in x1 (ln h a2) ∧ vc_X7_cellsOf t x2 (qI h a2 x1.toNatClampNeg x2) (qi (fun v7 h6 => Q (.inl (some (vi v7))) h6) qn)) ∧ (x2 = 0 → Q (.inl (some (vi (0 : Int32)))) h))
set_option maxRecDepth 20000 in
theorem s_X7_made {t : Nat} {x1 : Int32} {x2 : Int32} {h : Hp} {Q : Option AV ⊕ String → Hp → Prop} {lv : Nat} (hlv : lv + 2 ≤ 12) (hv : vc_X7_made t x1 x2 h Q) (l : Launch) (D : va_G) (dA : Nat → ClassId) (sz : Nat) (hst : l.stackTraces = false) : Ctr l D dA sz (Cond.code yX7_made cX7_made 3 (some .int)) yX7_made lv [vr (some t), vi x1, vi x2] h 0 0 Q := by
  refine Ctr.of (lo := [some (vr (some t)), some (vi x1), some (vi x2)]) hst (by decide) (by simp [ena, isL]) rfl ?_
  intro G hg hlim C
  unfold vc_X7_made at hv
  refine j_iload_n C dX7_made_0 rfl ?_
  refine j_if_ne (tgt := 6) C dX7_made_1 (by decide) ⟨fun q8 => ?_, fun q8 => ?_⟩
  · have hv := hv.1 q8
    refine j_aload_n C dX7_made_6 rfl ?_
    obtain ⟨g1, hv⟩ := hv
    refine gf_X7_64 C rfl g1 dX7_made_7 ?_
    refine j_iload_n C dX7_made_10 rfl ?_
    refine j_iload_n C dX7_made_11 rfl ?_
    obtain ⟨a2, e3, hv⟩ := hv
    obtain ⟨g4, hv⟩ := hv
    obtain ⟨b5, hv⟩ := hv
    refine k_iast (j := x1.toNatClampNeg) C e3 g4 b5 rfl dX7_made_12 ?_
    refine j_aload_n C dX7_made_13 rfl ?_
    refine j_iload_n C dX7_made_14 rfl ?_
    refine k_callV C 6 [vi x2] mv_X7_129 rfl rfl (fun l D dA sz hl => s_X7_cellsOf (by omega) hv l D dA sz hl) rfl rfl (by decide) g1 rfl (by omega) (Nat.le_of_ble_eq_true rfl) (hlim _ _ (by omega) (by omega)) dX7_made_15 (fun _ _ q => False.elim q) (fun v h6 hq => ?_)
    obtain ⟨v7, rfl, hv⟩ := qi_inv hq
    exact j_iret C dX7_made_18 (hlim _ _ (by omega) (by omega)) hv
  · have hv := hv.2 q8
    refine j_iconst (v := (0 : Int32)) C dX7_made_4 (by decide) ?_
    exact j_iret C dX7_made_5 (hlim _ _ (by omega) (by omega)) hv
def vc_X7_makeLoose (t : Nat) (x1 : Int32) (x2 : Int32) (x3 : Int32) (x4 : Int32) (x5 : Int32) (h : Hp) (Q : Option AV ⊕ String → Hp → Prop) : Prop :=
    ∀ (P58 : Int32 → Hp → Prop),
    (∀ (y6 : Int32) (h : Hp), (tg h t = 7 ∧ vc_X7_made t x1 y6 h (qi (fun v23 h22 => Q (.inl (some (vi v23))) h22) qn)) → P58 y6 h) →
    tg h t = 7 ∧ vc_X7_make t x2 (0 : Int32) (0 : Int32) h (qi (fun v2 h1 => ((v2 = 0 → P58 v2 h1) ∧ (¬ v2 = 0 → tg h1 t = 7 ∧ ∃ a5 : Nat, fR h1 48 t = some a5 ∧ tg h1 a5 = 8 ∧ vp_in v2 (ln h1 a5) ∧ ∃ a9 : Nat, fR h1 49 t = some a9 ∧ tg h1 a9 = 8 ∧ vp_in v2 (ln h1 a9) ∧ ∃ a13 : Nat, fR h1 50 t = some a13 ∧ tg h1 a13 = 8 ∧ vp_in v2 (ln h1 a13) ∧ ∃ a17 : Nat, fR h1 51 t = some a17 ∧ tg h1 a17 = 8 ∧ vp_in v2 (ln h1 a17) ∧ P58 v2 (qI (pI (qI (qI (qI h1 a5 v2.toNatClampNeg x3) a9 v2.toNatClampNeg x4) a13 v2.toNatClampNeg x5) 73 t ((fI h1 73 t) + (1 : Int32))) a17 v2.toNatClampNeg (fI h1 73 t))))) qn)
set_option maxRecDepth 20000 in
theorem s_X7_makeLoose {t : Nat} {x1 : Int32} {x2 : Int32} {x3 : Int32} {x4 : Int32} {x5 : Int32} {h : Hp} {Q : Option AV ⊕ String → Hp → Prop} {lv : Nat} (hlv : lv + 4 ≤ 12) (hv : vc_X7_makeLoose t x1 x2 x3 x4 x5 h Q) (l : Launch) (D : va_G) (dA : Nat → ClassId) (sz : Nat) (hst : l.stackTraces = false) : Ctr l D dA sz (Cond.code yX7_makeLoose cX7_makeLoose 7 (some .int)) yX7_makeLoose lv [vr (some t), vi x1, vi x2, vi x3, vi x4, vi x5] h 0 0 Q := by
  refine Ctr.of (lo := [some (vr (some t)), some (vi x1), some (vi x2), some (vi x3), some (vi x4), some (vi x5), none]) hst (by decide) (by simp [ena, isL]) rfl ?_
  intro G hg hlim C
  unfold vc_X7_makeLoose at hv
  have hv := hv (fun y6 h => J G Q 58 [some (vr (some t)), some (vi x1), none, none, none, none, some (vi y6)] [] h 0 0)
  have hv := hv (by
      intro y6 h hv
      refine j_aload_n C dX7_makeLoose_58 rfl ?_
      refine j_iload_n C dX7_makeLoose_59 rfl ?_
      refine j_iload C dX7_makeLoose_60 rfl ?_
      obtain ⟨g24, hv⟩ := hv
      refine k_callV C 6 [vi x1, vi y6] mv_X7_147 rfl rfl (fun l D dA sz hl => s_X7_made (by omega) hv l D dA sz hl) rfl rfl (by decide) g24 rfl (by omega) (Nat.le_of_ble_eq_true rfl) (hlim _ _ (by omega) (by omega)) dX7_makeLoose_62 (fun _ _ q => False.elim q) (fun v h22 hq => ?_)
      obtain ⟨v23, rfl, hv⟩ := qi_inv hq
      exact j_iret C dX7_makeLoose_65 (hlim _ _ (by omega) (by omega)) hv)
  refine j_aload_n C dX7_makeLoose_0 rfl ?_
  refine j_iload_n C dX7_makeLoose_1 rfl ?_
  refine j_iconst (v := (0 : Int32)) C dX7_makeLoose_2 (by decide) ?_
  refine j_iconst (v := (0 : Int32)) C dX7_makeLoose_3 (by decide) ?_
  obtain ⟨g3, hv⟩ := hv
  refine k_callV C 6 [vi x2, vi (0 : Int32), vi (0 : Int32)] mv_X7_143 rfl rfl (fun l D dA sz hl => s_X7_make (by omega) hv l D dA sz hl) rfl rfl (by decide) g3 rfl (by omega) (Nat.le_of_ble_eq_true rfl) (hlim _ _ (by omega) (by omega)) dX7_makeLoose_4 (fun _ _ q => False.elim q) (fun v h1 hq => ?_)
  obtain ⟨v2, rfl, hv⟩ := qi_inv hq
  refine j_istore (lo' := [some (vr (some t)), some (vi x1), some (vi x2), some (vi x3), some (vi x4), some (vi x5), some (vi v2)]) C dX7_makeLoose_7 (Nat.le_of_ble_eq_true rfl) rfl ?_
  refine j_iload C dX7_makeLoose_9 rfl ?_
  refine j_if_eq (tgt := 58) C dX7_makeLoose_11 (by decide) ⟨fun q21 => ?_, fun q21 => ?_⟩
  · have hv := hv.1 q21
    exact j_sub (by exact (And.intro rfl (And.intro rfl (And.intro rfl trivial)))) hv
  · have hv := hv.2 q21
    refine j_aload_n C dX7_makeLoose_14 rfl ?_
    obtain ⟨g4, hv⟩ := hv
    refine gf_X7_32 C rfl g4 dX7_makeLoose_15 ?_
    refine j_iload C dX7_makeLoose_18 rfl ?_
    refine j_iload_n C dX7_makeLoose_20 rfl ?_
    obtain ⟨a5, e6, hv⟩ := hv
    obtain ⟨g7, hv⟩ := hv
    obtain ⟨b8, hv⟩ := hv
    refine k_iast (j := v2.toNatClampNeg) C e6 g7 b8 rfl dX7_makeLoose_21 ?_
    refine j_aload_n C dX7_makeLoose_22 rfl ?_
    refine gf_X7_35 C rfl g4 dX7_makeLoose_23 ?_
    refine j_iload C dX7_makeLoose_26 rfl ?_
    refine j_iload C dX7_makeLoose_28 rfl ?_
    obtain ⟨a9, e10, hv⟩ := hv
    obtain ⟨g11, hv⟩ := hv
    obtain ⟨b12, hv⟩ := hv
    refine k_iast (j := v2.toNatClampNeg) C e10 g11 b12 rfl dX7_makeLoose_30 ?_
    refine j_aload_n C dX7_makeLoose_31 rfl ?_
    refine gf_X7_38 C rfl g4 dX7_makeLoose_32 ?_
    refine j_iload C dX7_makeLoose_35 rfl ?_
    refine j_iload C dX7_makeLoose_37 rfl ?_
    obtain ⟨a13, e14, hv⟩ := hv
    obtain ⟨g15, hv⟩ := hv
    obtain ⟨b16, hv⟩ := hv
    refine k_iast (j := v2.toNatClampNeg) C e14 g15 b16 rfl dX7_makeLoose_39 ?_
    refine j_aload_n C dX7_makeLoose_40 rfl ?_
    refine gf_X7_41 C rfl g4 dX7_makeLoose_41 ?_
    refine j_iload C dX7_makeLoose_44 rfl ?_
    refine j_aload_n C dX7_makeLoose_46 rfl ?_
    refine j_dup C dX7_makeLoose_47 rfl ?_
    refine gf_X7_150 C rfl g4 dX7_makeLoose_48 ?_
    refine j_dup_x1 C dX7_makeLoose_51 rfl rfl ?_
    refine j_iconst (v := (1 : Int32)) C dX7_makeLoose_52 (by decide) ?_
    refine j_iadd C dX7_makeLoose_53 ?_
    refine pf_X7_150 C rfl g4 dX7_makeLoose_54 ?_
    obtain ⟨a17, e18, hv⟩ := hv
    obtain ⟨g19, hv⟩ := hv
    obtain ⟨b20, hv⟩ := hv
    refine k_iast (j := v2.toNatClampNeg) C e18 g19 b20 rfl dX7_makeLoose_57 ?_
    exact j_sub (by exact (And.intro rfl (And.intro rfl (And.intro rfl trivial)))) hv
def vc_X7_comesTo (t : Nat) (x1 : Int32) (x2 : Int32) (h : Hp) (Q : Option AV ⊕ String → Hp → Prop) : Prop :=
    tg h t = 7 ∧ ∃ a2 : Nat, fR h 61 t = some a2 ∧ tg h a2 = 8 ∧ vp_in x1 (ln h a2) ∧ ((¬ x2 = 0 → Q (.inl (some (vi (1 : Int32)))) (qI h a2 x1.toNatClampNeg x2)) ∧ (x2 = 0 → Q (.inl (some (vi (0 : Int32)))) (qI h a2 x1.toNatClampNeg x2)))
set_option maxRecDepth 20000 in
theorem s_X7_comesTo {t : Nat} {x1 : Int32} {x2 : Int32} {h : Hp} {Q : Option AV ⊕ String → Hp → Prop} {lv : Nat} (hlv : lv + 0 ≤ 12) (hv : vc_X7_comesTo t x1 x2 h Q) (l : Launch) (D : va_G) (dA : Nat → ClassId) (sz : Nat) (hst : l.stackTraces = false) : Ctr l D dA sz (Cond.code yX7_comesTo cX7_comesTo 3 (some .int)) yX7_comesTo lv [vr (some t), vi x1, vi x2] h 0 0 Q := by
  refine Ctr.of (lo := [some (vr (some t)), some (vi x1), some (vi x2)]) hst (by decide) (by simp [ena, isL]) rfl ?_
  intro G hg hlim C
  unfold vc_X7_comesTo at hv
  refine j_aload_n C dX7_comesTo_0 rfl ?_
  obtain ⟨g1, hv⟩ := hv
  refine gf_X7_64 C rfl g1 dX7_comesTo_1 ?_
  refine j_iload_n C dX7_comesTo_4 rfl ?_
  refine j_iload_n C dX7_comesTo_5 rfl ?_
  obtain ⟨a2, e3, hv⟩ := hv
  obtain ⟨g4, hv⟩ := hv
  obtain ⟨b5, hv⟩ := hv
  refine k_iast (j := x1.toNatClampNeg) C e3 g4 b5 rfl dX7_comesTo_6 ?_
  refine j_iload_n C dX7_comesTo_7 rfl ?_
  refine j_if_ne (tgt := 15) C dX7_comesTo_8 (by decide) ⟨fun q6 => ?_, fun q6 => ?_⟩
  · have hv := hv.1 q6
    refine j_iconst (v := (1 : Int32)) C dX7_comesTo_15 (by decide) ?_
    exact j_iret C dX7_comesTo_16 (hlim _ _ (by omega) (by omega)) hv
  · have hv := hv.2 q6
    refine j_iconst (v := (0 : Int32)) C dX7_comesTo_11 (by decide) ?_
    refine j_goto (tgt := 16) C dX7_comesTo_12 (by decide) ?_
    exact j_iret C dX7_comesTo_16 (hlim _ _ (by omega) (by omega)) hv
def vc_X7_noNumber (t : Nat) (x1 : Int32) (x2 : Int32) (h : Hp) (Q : Option AV ⊕ String → Hp → Prop) : Prop :=
    ∀ (P17 : Hp → Prop) (P78 : Hp → Prop) (P63 : Hp → Prop) (P83 : Hp → Prop),
    (∀  (h : Hp), (tg h t = 7 ∧ P83 (pI h 40 t (1 : Int32))) → P17 h) →
    (∀  (h : Hp), (tg h t = 7 ∧ P83 (pI h 40 t (2 : Int32))) → P78 h) →
    (∀  (h : Hp), (tg h t = 7 ∧ ∃ a24 : Nat, fR h 61 t = some a24 ∧ tg h a24 = 8 ∧ vp_in x1 (ln h a24) ∧ ∃ a28 : Nat, fR h 45 t = some a28 ∧ tg h a28 = 8 ∧ vp_in (aI h a24 x1.toNatClampNeg) (ln h a28) ∧ ((x2 < (aI h a28 ((aI h a24 x1.toNatClampNeg).toNatClampNeg)) → P83 h) ∧ (¬ x2 < (aI h a28 ((aI h a24 x1.toNatClampNeg).toNatClampNeg)) → P78 h))) → P63 h) →
    (∀  (h : Hp), (tg h t = 7 ∧ (((fI h 40 t) = 0 → Q (.inl (some (vi (0 : Int32)))) h) ∧ (¬ (fI h 40 t) = 0 → Q (.inl (some (vi (1 : Int32)))) h))) → P83 h) →
    tg h t = 7 ∧ vc_X7_none t x1 (pI h 40 t (0 : Int32)) (qi (fun v3 h2 => ((¬ v3 = 0 → P17 h2) ∧ (v3 = 0 → ((0 ≤ x2 → tg h2 t = 7 ∧ ∃ a5 : Nat, fR h2 61 t = some a5 ∧ tg h2 a5 = 8 ∧ vp_in x1 (ln h2 a5) ∧ (((aI h2 a5 x1.toNatClampNeg) = 0 → P78 h2) ∧ (¬ (aI h2 a5 x1.toNatClampNeg) = 0 → vp_in x1 (ln h2 a5) ∧ ∃ a10 : Nat, fR h2 42 t = some a10 ∧ tg h2 a10 = 8 ∧ vp_in (aI h2 a5 x1.toNatClampNeg) (ln h2 a10) ∧ (((aI h2 a10 ((aI h2 a5 x1.toNatClampNeg).toNatClampNeg)) = 0 → P63 h2) ∧ (¬ (aI h2 a10 ((aI h2 a5 x1.toNatClampNeg).toNatClampNeg)) = 0 → vp_in x1 (ln h2 a5) ∧ vp_in (aI h2 a5 x1.toNatClampNeg) (ln h2 a10) ∧ ((¬ (aI h2 a10 ((aI h2 a5 x1.toNatClampNeg).toNatClampNeg)) = (2 : Int32) → P78 h2) ∧ ((aI h2 a10 ((aI h2 a5 x1.toNatClampNeg).toNatClampNeg)) = (2 : Int32) → P63 h2))))))) ∧ (¬ 0 ≤ x2 → P17 h2))))) qn)
set_option maxRecDepth 20000 in
theorem s_X7_noNumber {t : Nat} {x1 : Int32} {x2 : Int32} {h : Hp} {Q : Option AV ⊕ String → Hp → Prop} {lv : Nat} (hlv : lv + 1 ≤ 12) (hv : vc_X7_noNumber t x1 x2 h Q) (l : Launch) (D : va_G) (dA : Nat → ClassId) (sz : Nat) (hst : l.stackTraces = false) : Ctr l D dA sz (Cond.code yX7_noNumber cX7_noNumber 3 (some .boolean)) yX7_noNumber lv [vr (some t), vi x1, vi x2] h 0 0 Q := by
  refine Ctr.of (lo := [some (vr (some t)), some (vi x1), some (vi x2)]) hst (by decide) (by simp [ena, isL]) rfl ?_
  intro G hg hlim C
  unfold vc_X7_noNumber at hv
  have hv := hv (fun  h => J G Q 17 [some (vr (some t)), none, none] [] h 0 0) (fun  h => J G Q 78 [some (vr (some t)), none, none] [] h 0 0) (fun  h => J G Q 63 [some (vr (some t)), some (vi x1), some (vi x2)] [] h 0 0) (fun  h => J G Q 83 [some (vr (some t)), none, none] [] h 0 0)
  have hv := hv (by
      intro  h hv
      refine j_aload_n C dX7_noNumber_17 rfl ?_
      refine j_iconst (v := (1 : Int32)) C dX7_noNumber_18 (by decide) ?_
      obtain ⟨g21, hv⟩ := hv
      refine pf_X7_1 C rfl g21 dX7_noNumber_19 ?_
      refine j_goto (tgt := 83) C dX7_noNumber_22 (by decide) ?_
      exact j_sub (by exact (And.intro rfl trivial)) hv)
  have hv := hv (by
      intro  h hv
      refine j_aload_n C dX7_noNumber_78 rfl ?_
      refine j_iconst (v := (2 : Int32)) C dX7_noNumber_79 (by decide) ?_
      obtain ⟨g22, hv⟩ := hv
      refine pf_X7_1 C rfl g22 dX7_noNumber_80 ?_
      exact j_sub (by exact (And.intro rfl trivial)) hv)
  have hv := hv (by
      intro  h hv
      refine j_iload_n C dX7_noNumber_63 rfl ?_
      refine j_aload_n C dX7_noNumber_64 rfl ?_
      obtain ⟨g23, hv⟩ := hv
      refine gf_X7_23 C rfl g23 dX7_noNumber_65 ?_
      refine j_aload_n C dX7_noNumber_68 rfl ?_
      refine gf_X7_64 C rfl g23 dX7_noNumber_69 ?_
      refine j_iload_n C dX7_noNumber_72 rfl ?_
      obtain ⟨a24, e25, hv⟩ := hv
      obtain ⟨g26, hv⟩ := hv
      obtain ⟨b27, hv⟩ := hv
      refine k_iald (j := x1.toNatClampNeg) C e25 g26 b27 rfl dX7_noNumber_73 ?_
      obtain ⟨a28, e29, hv⟩ := hv
      obtain ⟨g30, hv⟩ := hv
      obtain ⟨b31, hv⟩ := hv
      refine k_iald (j := (aI h a24 x1.toNatClampNeg).toNatClampNeg) C e29 g30 b31 rfl dX7_noNumber_74 ?_
      refine j_icmp_lt (tgt := 83) C dX7_noNumber_75 (by decide) ⟨fun q32 => ?_, fun q32 => ?_⟩
      · have hv := hv.1 q32
        exact j_sub (by exact (And.intro rfl trivial)) hv
      · have hv := hv.2 q32
        exact j_sub (by exact (And.intro rfl trivial)) hv)
  have hv := hv (by
      intro  h hv
      refine j_aload_n C dX7_noNumber_83 rfl ?_
      obtain ⟨g33, hv⟩ := hv
      refine gf_X7_1 C rfl g33 dX7_noNumber_84 ?_
      refine j_if_eq (tgt := 94) C dX7_noNumber_87 (by decide) ⟨fun q34 => ?_, fun q34 => ?_⟩
      · have hv := hv.1 q34
        refine j_iconst (v := (0 : Int32)) C dX7_noNumber_94 (by decide) ?_
        exact j_zret C (Or.inl rfl) dX7_noNumber_95 (hlim _ _ (by omega) (by omega)) hv
      · have hv := hv.2 q34
        refine j_iconst (v := (1 : Int32)) C dX7_noNumber_90 (by decide) ?_
        refine j_goto (tgt := 95) C dX7_noNumber_91 (by decide) ?_
        exact j_zret C (Or.inr rfl) dX7_noNumber_95 (hlim _ _ (by omega) (by omega)) hv)
  refine j_aload_n C dX7_noNumber_0 rfl ?_
  refine j_iconst (v := (0 : Int32)) C dX7_noNumber_1 (by decide) ?_
  obtain ⟨g1, hv⟩ := hv
  refine pf_X7_1 C rfl g1 dX7_noNumber_2 ?_
  refine j_aload_n C dX7_noNumber_5 rfl ?_
  refine j_iload_n C dX7_noNumber_6 rfl ?_
  refine k_callV C 6 [vi x1] mv_X7_136 rfl rfl (fun l D dA sz hl => s_X7_none (by omega) hv l D dA sz hl) rfl rfl (by decide) g1 rfl (by omega) (Nat.le_of_ble_eq_true rfl) (hlim _ _ (by omega) (by omega)) dX7_noNumber_7 (fun _ _ q => False.elim q) (fun v h2 hq => ?_)
  obtain ⟨v3, rfl, hv⟩ := qi_inv hq
  refine j_if_ne (tgt := 17) C dX7_noNumber_10 (by decide) ⟨fun q20 => ?_, fun q20 => ?_⟩
  · have hv := hv.1 q20
    exact j_sub (by exact (And.intro rfl trivial)) hv
  · have hv := hv.2 q20
    refine j_iload_n C dX7_noNumber_13 rfl ?_
    refine j_if_ge (tgt := 25) C dX7_noNumber_14 (by decide) ⟨fun q19 => ?_, fun q19 => ?_⟩
    · have hv := hv.1 q19
      refine j_aload_n C dX7_noNumber_25 rfl ?_
      obtain ⟨g4, hv⟩ := hv
      refine gf_X7_64 C rfl g4 dX7_noNumber_26 ?_
      refine j_iload_n C dX7_noNumber_29 rfl ?_
      obtain ⟨a5, e6, hv⟩ := hv
      obtain ⟨g7, hv⟩ := hv
      obtain ⟨b8, hv⟩ := hv
      refine k_iald (j := x1.toNatClampNeg) C e6 g7 b8 rfl dX7_noNumber_30 ?_
      refine j_if_eq (tgt := 78) C dX7_noNumber_31 (by decide) ⟨fun q18 => ?_, fun q18 => ?_⟩
      · have hv := hv.1 q18
        exact j_sub (by exact (And.intro rfl trivial)) hv
      · have hv := hv.2 q18
        refine j_aload_n C dX7_noNumber_34 rfl ?_
        refine gf_X7_13 C rfl g4 dX7_noNumber_35 ?_
        refine j_aload_n C dX7_noNumber_38 rfl ?_
        refine gf_X7_64 C rfl g4 dX7_noNumber_39 ?_
        refine j_iload_n C dX7_noNumber_42 rfl ?_
        obtain ⟨b9, hv⟩ := hv
        refine k_iald (j := x1.toNatClampNeg) C e6 g7 b9 rfl dX7_noNumber_43 ?_
        obtain ⟨a10, e11, hv⟩ := hv
        obtain ⟨g12, hv⟩ := hv
        obtain ⟨b13, hv⟩ := hv
        refine k_iald (j := (aI h2 a5 x1.toNatClampNeg).toNatClampNeg) C e11 g12 b13 rfl dX7_noNumber_44 ?_
        refine j_if_eq (tgt := 63) C dX7_noNumber_45 (by decide) ⟨fun q17 => ?_, fun q17 => ?_⟩
        · have hv := hv.1 q17
          exact j_sub (by exact (And.intro rfl (And.intro rfl (And.intro rfl trivial)))) hv
        · have hv := hv.2 q17
          refine j_aload_n C dX7_noNumber_48 rfl ?_
          refine gf_X7_13 C rfl g4 dX7_noNumber_49 ?_
          refine j_aload_n C dX7_noNumber_52 rfl ?_
          refine gf_X7_64 C rfl g4 dX7_noNumber_53 ?_
          refine j_iload_n C dX7_noNumber_56 rfl ?_
          obtain ⟨b14, hv⟩ := hv
          refine k_iald (j := x1.toNatClampNeg) C e6 g7 b14 rfl dX7_noNumber_57 ?_
          obtain ⟨b15, hv⟩ := hv
          refine k_iald (j := (aI h2 a5 x1.toNatClampNeg).toNatClampNeg) C e11 g12 b15 rfl dX7_noNumber_58 ?_
          refine j_iconst (v := (2 : Int32)) C dX7_noNumber_59 (by decide) ?_
          refine j_icmp_ne (tgt := 78) C dX7_noNumber_60 (by decide) ⟨fun q16 => ?_, fun q16 => ?_⟩
          · have hv := hv.1 q16
            exact j_sub (by exact (And.intro rfl trivial)) hv
          · have hv := hv.2 q16
            exact j_sub (by exact (And.intro rfl (And.intro rfl (And.intro rfl trivial)))) hv
    · have hv := hv.2 q19
      exact j_sub (by exact (And.intro rfl trivial)) hv
