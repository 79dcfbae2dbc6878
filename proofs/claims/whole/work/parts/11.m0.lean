def vc_X5_init (t : Nat) (h : Hp) (Q : Option AV ⊕ String → Hp → Prop) : Prop :=
    Q (.inl none) h
set_option maxRecDepth 20000 in
theorem s_X5_init {t : Nat} {h : Hp} {Q : Option AV ⊕ String → Hp → Prop} {lv : Nat} (hlv : lv + 1 ≤ 12) (hv : vc_X5_init t h Q) (l : Launch) (D : va_G) (dA : Nat → ClassId) (sz : Nat) (hst : l.stackTraces = false) : Ctr l D dA sz (Cond.code yX5_init cX5_init 1 none) yX5_init lv [vr (some t)] h 0 0 Q := by
  refine Ctr.of (lo := [some (vr (some t))]) hst (by decide) (by simp [ena, isL]) rfl ?_
  intro G hg hlim C
  unfold vc_X5_init at hv
  refine j_aload_n C dX5_init_0 rfl ?_
  refine k_objInit C rfl wg_53 rfl (by omega) (by decide) dX5_init_1 ?_
  exact j_vret C dX5_init_4 (hlim _ _ (by omega) (by omega)) hv
def vc_X5_begin (t : Nat) (h : Hp) (Q : Option AV ⊕ String → Hp → Prop) : Prop :=
    tg h t = 5 ∧ Q (.inl none) (pI (pI (pR (pR h 23 t none) 24 t none) 25 t (0 : Int32)) 26 t ((fI h 26 t) + (1 : Int32)))
set_option maxRecDepth 20000 in
theorem s_X5_begin {t : Nat} {h : Hp} {Q : Option AV ⊕ String → Hp → Prop} {lv : Nat} (hlv : lv + 0 ≤ 12) (hv : vc_X5_begin t h Q) (l : Launch) (D : va_G) (dA : Nat → ClassId) (sz : Nat) (hst : l.stackTraces = false) : Ctr l D dA sz (Cond.code yX5_begin cX5_begin 1 none) yX5_begin lv [vr (some t)] h 0 0 Q := by
  refine Ctr.of (lo := [some (vr (some t))]) hst (by decide) (by simp [ena, isL]) rfl ?_
  intro G hg hlim C
  unfold vc_X5_begin at hv
  refine j_aload_n C dX5_begin_0 rfl ?_
  refine j_null C dX5_begin_1 ?_
  obtain ⟨g1, hv⟩ := hv
  refine pf_X5_7 C rfl g1 dX5_begin_2 ?_
  refine j_aload_n C dX5_begin_5 rfl ?_
  refine j_null C dX5_begin_6 ?_
  refine pf_X5_13 C rfl g1 dX5_begin_7 ?_
  refine j_aload_n C dX5_begin_10 rfl ?_
  refine j_iconst (v := (0 : Int32)) C dX5_begin_11 (by decide) ?_
  refine pf_X5_16 C rfl g1 dX5_begin_12 ?_
  refine j_aload_n C dX5_begin_15 rfl ?_
  refine j_dup C dX5_begin_16 rfl ?_
  refine gf_X5_20 C rfl g1 dX5_begin_17 ?_
  refine j_iconst (v := (1 : Int32)) C dX5_begin_20 (by decide) ?_
  refine j_iadd C dX5_begin_21 ?_
  refine pf_X5_20 C rfl g1 dX5_begin_22 ?_
  exact j_vret C dX5_begin_25 (hlim _ _ (by omega) (by omega)) hv
def vc_X5_has (t : Nat) (o1 : Option Nat) (h : Hp) (Q : Option AV ⊕ String → Hp → Prop) : Prop :=
    ∃ a1 : Nat, o1 = some a1 ∧ thg h a1 ∧ tg h t = 5 ∧ ((¬ (fI h 4 a1) = (fI h 26 t) → Q (.inl (some (vi (0 : Int32)))) h) ∧ ((fI h 4 a1) = (fI h 26 t) → Q (.inl (some (vi (1 : Int32)))) h))
set_option maxRecDepth 20000 in
theorem s_X5_has {t : Nat} {o1 : Option Nat} {h : Hp} {Q : Option AV ⊕ String → Hp → Prop} {lv : Nat} (hlv : lv + 0 ≤ 12) (hv : vc_X5_has t o1 h Q) (l : Launch) (D : va_G) (dA : Nat → ClassId) (sz : Nat) (hst : l.stackTraces = false) : Ctr l D dA sz (Cond.code yX5_has cX5_has 2 (some .boolean)) yX5_has lv [vr (some t), vr o1] h 0 0 Q := by
  refine Ctr.of (lo := [some (vr (some t)), some (vr o1)]) hst (by decide) (by simp [ena, isL]) rfl ?_
  intro G hg hlim C
  unfold vc_X5_has at hv
  refine j_aload_n C dX5_has_0 rfl ?_
  obtain ⟨a1, e2, hv⟩ := hv
  obtain ⟨g3, hv⟩ := hv
  refine gf_X5_23 C e2 g3 dX5_has_1 ?_
  refine j_aload_n C dX5_has_4 rfl ?_
  obtain ⟨g4, hv⟩ := hv
  refine gf_X5_20 C rfl g4 dX5_has_5 ?_
  refine j_icmp_ne (tgt := 15) C dX5_has_8 (by decide) ⟨fun q5 => ?_, fun q5 => ?_⟩
  · have hv := hv.1 q5
    refine j_iconst (v := (0 : Int32)) C dX5_has_15 (by decide) ?_
    exact j_zret C (Or.inl rfl) dX5_has_16 (hlim _ _ (by omega) (by omega)) hv
  · have hv := hv.2 q5
    refine j_iconst (v := (1 : Int32)) C dX5_has_11 (by decide) ?_
    refine j_goto (tgt := 16) C dX5_has_12 (by decide) ?_
    exact j_zret C (Or.inr rfl) dX5_has_16 (hlim _ _ (by omega) (by omega)) hv
def vc_X5_comeTo (t : Nat) (o1 : Option Nat) (h : Hp) (Q : Option AV ⊕ String → Hp → Prop) : Prop :=
    ∀ (P49 : Hp → Prop),
    (∀  (h : Hp), (tg h t = 5 ∧ ∃ a13 : Nat, o1 = some a13 ∧ thg h a13 ∧ Q (.inl none) (pI (pI (pR h 24 t o1) 25 t ((fI h 25 t) + (1 : Int32))) 5 a13 (fI (pI (pR h 24 t o1) 25 t ((fI h 25 t) + (1 : Int32))) 25 t))) → P49 h) →
    ((o1 = none → Q (.inl none) h) ∧ (∀ a1 : Nat, o1 = some a1 → tg h t = 5 ∧ vc_X5_has t o1 h (qi (fun v4 h3 => ((v4 = 0 → tg h3 t = 5 ∧ thg h3 a1 ∧ ((∀ a8 : Nat, fR h3 24 t = some a8 → thg h3 a8 ∧ P49 (pR (pR (pI h3 4 a1 (fI h3 26 t)) 6 a1 none) 6 a8 o1)) ∧ (fR h3 24 t = none → P49 (pR (pR (pI h3 4 a1 (fI h3 26 t)) 6 a1 none) 23 t o1)))) ∧ (¬ v4 = 0 → Q (.inl none) h3))) qn)))
set_option maxRecDepth 20000 in
theorem s_X5_comeTo {t : Nat} {o1 : Option Nat} {h : Hp} {Q : Option AV ⊕ String → Hp → Prop} {lv : Nat} (hlv : lv + 1 ≤ 12) (hv : vc_X5_comeTo t o1 h Q) (l : Launch) (D : va_G) (dA : Nat → ClassId) (sz : Nat) (hst : l.stackTraces = false) : Ctr l D dA sz (Cond.code yX5_comeTo cX5_comeTo 2 none) yX5_comeTo lv [vr (some t), vr o1] h 0 0 Q := by
  refine Ctr.of (lo := [some (vr (some t)), some (vr o1)]) hst (by decide) (by simp [ena, isL]) rfl ?_
  intro G hg hlim C
  unfold vc_X5_comeTo at hv
  have hv := hv (fun  h => J G Q 49 [some (vr (some t)), some (vr o1)] [] h 0 0)
  have hv := hv (by
      intro  h hv
      refine j_aload_n C dX5_comeTo_49 rfl ?_
      refine j_aload_n C dX5_comeTo_50 rfl ?_
      obtain ⟨g12, hv⟩ := hv
      refine pf_X5_13 C rfl g12 dX5_comeTo_51 ?_
      refine j_aload_n C dX5_comeTo_54 rfl ?_
      refine j_dup C dX5_comeTo_55 rfl ?_
      refine gf_X5_16 C rfl g12 dX5_comeTo_56 ?_
      refine j_iconst (v := (1 : Int32)) C dX5_comeTo_59 (by decide) ?_
      refine j_iadd C dX5_comeTo_60 ?_
      refine pf_X5_16 C rfl g12 dX5_comeTo_61 ?_
      refine j_aload_n C dX5_comeTo_64 rfl ?_
      refine j_aload_n C dX5_comeTo_65 rfl ?_
      refine gf_X5_16 C rfl g12 dX5_comeTo_66 ?_
      obtain ⟨a13, e14, hv⟩ := hv
      obtain ⟨g15, hv⟩ := hv
      refine pf_X5_35 C e14 g15 dX5_comeTo_69 ?_
      exact j_vret C dX5_comeTo_72 (hlim _ _ (by omega) (by omega)) hv)
  refine j_aload_n C dX5_comeTo_0 rfl ?_
  refine j_ifnull (tgt := 12) C dX5_comeTo_1 (by decide) ⟨fun e2 => ?_, fun a1 e2 => ?_⟩
  · have hv := hv.1 e2
    exact j_vret C dX5_comeTo_12 (hlim _ _ (by omega) (by omega)) hv
  · have hv := hv.2 a1 e2
    refine j_aload_n C dX5_comeTo_4 rfl ?_
    refine j_aload_n C dX5_comeTo_5 rfl ?_
    obtain ⟨g5, hv⟩ := hv
    refine k_callV C 4 [vr o1] mv_X5_28 rfl rfl (fun l D dA sz hl => s_X5_has (by omega) hv l D dA sz hl) rfl rfl (by decide) g5 rfl (by omega) (by decide) (hlim _ _ (by omega) (by omega)) dX5_comeTo_6 (fun _ _ q => False.elim q) (fun v h3 hq => ?_)
    obtain ⟨v4, rfl, hv⟩ := qi_inv hq
    refine j_if_eq (tgt := 13) C dX5_comeTo_9 (by decide) ⟨fun q11 => ?_, fun q11 => ?_⟩
    · have hv := hv.1 q11
      refine j_aload_n C dX5_comeTo_13 rfl ?_
      refine j_aload_n C dX5_comeTo_14 rfl ?_
      obtain ⟨g6, hv⟩ := hv
      refine gf_X5_20 C rfl g6 dX5_comeTo_15 ?_
      obtain ⟨g7, hv⟩ := hv
      refine pf_X5_23 C e2 g7 dX5_comeTo_18 ?_
      refine j_aload_n C dX5_comeTo_21 rfl ?_
      refine j_null C dX5_comeTo_22 ?_
      refine pf_X5_32 C e2 g7 dX5_comeTo_23 ?_
      refine j_aload_n C dX5_comeTo_26 rfl ?_
      refine gf_X5_13 C rfl g6 dX5_comeTo_27 ?_
      refine j_ifnonnull (tgt := 41) C dX5_comeTo_30 (by decide) ⟨fun a8 e9 => ?_, fun e9 => ?_⟩
      · have hv := hv.1 a8 e9
        refine j_aload_n C dX5_comeTo_41 rfl ?_
        refine gf_X5_13 C rfl g6 dX5_comeTo_42 ?_
        refine j_aload_n C dX5_comeTo_45 rfl ?_
        obtain ⟨g10, hv⟩ := hv
        refine pf_X5_32 C e9 g10 dX5_comeTo_46 ?_
        exact j_sub (by exact (And.intro rfl (And.intro rfl trivial))) hv
      · have hv := hv.2 e9
        refine j_aload_n C dX5_comeTo_33 rfl ?_
        refine j_aload_n C dX5_comeTo_34 rfl ?_
        refine pf_X5_7 C rfl g6 dX5_comeTo_35 ?_
        refine j_goto (tgt := 49) C dX5_comeTo_38 (by decide) ?_
        exact j_sub (by exact (And.intro rfl (And.intro rfl trivial))) hv
    · have hv := hv.2 q11
      exact j_vret C dX5_comeTo_12 (hlim _ _ (by omega) (by omega)) hv
def vc_X0_init (t : Nat) (h : Hp) (Q : Option AV ⊕ String → Hp → Prop) : Prop :=
    Q (.inl none) h
set_option maxRecDepth 20000 in
theorem s_X0_init {t : Nat} {h : Hp} {Q : Option AV ⊕ String → Hp → Prop} {lv : Nat} (hlv : lv + 1 ≤ 12) (hv : vc_X0_init t h Q) (l : Launch) (D : va_G) (dA : Nat → ClassId) (sz : Nat) (hst : l.stackTraces = false) : Ctr l D dA sz (Cond.code yX0_init cX0_init 1 none) yX0_init lv [vr (some t)] h 0 0 Q := by
  refine Ctr.of (lo := [some (vr (some t))]) hst (by decide) (by simp [ena, isL]) rfl ?_
  intro G hg hlim C
  unfold vc_X0_init at hv
  refine j_aload_n C dX0_init_0 rfl ?_
  refine k_objInit C rfl wg_30 rfl (by omega) (by decide) dX0_init_1 ?_
  exact j_vret C dX0_init_4 (hlim _ _ (by omega) (by omega)) hv
def vc_X0_empty (t : Nat) (h : Hp) (Q : Option AV ⊕ String → Hp → Prop) : Prop :=
    tg h t = 1 ∧ Q (.inl none) (pI (pI (pR (pR h 19 t none) 20 t none) 21 t (0 : Int32)) 22 t (0 : Int32))
set_option maxRecDepth 20000 in
theorem s_X0_empty {t : Nat} {h : Hp} {Q : Option AV ⊕ String → Hp → Prop} {lv : Nat} (hlv : lv + 0 ≤ 12) (hv : vc_X0_empty t h Q) (l : Launch) (D : va_G) (dA : Nat → ClassId) (sz : Nat) (hst : l.stackTraces = false) : Ctr l D dA sz (Cond.code yX0_empty cX0_empty 1 none) yX0_empty lv [vr (some t)] h 0 0 Q := by
  refine Ctr.of (lo := [some (vr (some t))]) hst (by decide) (by simp [ena, isL]) rfl ?_
  intro G hg hlim C
  unfold vc_X0_empty at hv
  refine j_aload_n C dX0_empty_0 rfl ?_
  refine j_null C dX0_empty_1 ?_
  obtain ⟨g1, hv⟩ := hv
  refine pf_X0_18 C rfl g1 dX0_empty_2 ?_
  refine j_aload_n C dX0_empty_5 rfl ?_
  refine j_null C dX0_empty_6 ?_
  refine pf_X0_13 C rfl g1 dX0_empty_7 ?_
  refine j_aload_n C dX0_empty_10 rfl ?_
  refine j_iconst (v := (0 : Int32)) C dX0_empty_11 (by decide) ?_
  refine pf_X0_21 C rfl g1 dX0_empty_12 ?_
  refine j_aload_n C dX0_empty_15 rfl ?_
  refine j_iconst (v := (0 : Int32)) C dX0_empty_16 (by decide) ?_
  refine pf_X0_25 C rfl g1 dX0_empty_17 ?_
  exact j_vret C dX0_empty_20 (hlim _ _ (by omega) (by omega)) hv
def vc_X0_add (t : Nat) (o1 : Option Nat) (h : Hp) (Q : Option AV ⊕ String → Hp → Prop) : Prop :=
    ∀ (P28 : Hp → Prop),
    (∀  (h : Hp), (tg h t = 1 ∧ ∃ a9 : Nat, o1 = some a9 ∧ thg h a9 ∧ Q (.inl none) (pI (pI (pR h 20 t o1) 21 t ((fI h 21 t) + (1 : Int32))) 22 t ((fI h 22 t) + (fI h 1 a9)))) → P28 h) →
    ∃ a1 : Nat, o1 = some a1 ∧ thg h a1 ∧ tg h t = 1 ∧ ((∀ a5 : Nat, fR h 20 t = some a5 → thg h a5 ∧ P28 (pR (pR h 3 a1 none) 3 a5 o1)) ∧ (fR h 20 t = none → P28 (pR (pR h 3 a1 none) 19 t o1)))
set_option maxRecDepth 20000 in
theorem s_X0_add {t : Nat} {o1 : Option Nat} {h : Hp} {Q : Option AV ⊕ String → Hp → Prop} {lv : Nat} (hlv : lv + 0 ≤ 12) (hv : vc_X0_add t o1 h Q) (l : Launch) (D : va_G) (dA : Nat → ClassId) (sz : Nat) (hst : l.stackTraces = false) : Ctr l D dA sz (Cond.code yX0_add cX0_add 2 none) yX0_add lv [vr (some t), vr o1] h 0 0 Q := by
  refine Ctr.of (lo := [some (vr (some t)), some (vr o1)]) hst (by decide) (by simp [ena, isL]) rfl ?_
  intro G hg hlim C
  unfold vc_X0_add at hv
  have hv := hv (fun  h => J G Q 28 [some (vr (some t)), some (vr o1)] [] h 0 0)
  have hv := hv (by
      intro  h hv
      refine j_aload_n C dX0_add_28 rfl ?_
      refine j_aload_n C dX0_add_29 rfl ?_
      obtain ⟨g8, hv⟩ := hv
      refine pf_X0_13 C rfl g8 dX0_add_30 ?_
      refine j_aload_n C dX0_add_33 rfl ?_
      refine j_dup C dX0_add_34 rfl ?_
      refine gf_X0_21 C rfl g8 dX0_add_35 ?_
      refine j_iconst (v := (1 : Int32)) C dX0_add_38 (by decide) ?_
      refine j_iadd C dX0_add_39 ?_
      refine pf_X0_21 C rfl g8 dX0_add_40 ?_
      refine j_aload_n C dX0_add_43 rfl ?_
      refine j_dup C dX0_add_44 rfl ?_
      refine gf_X0_25 C rfl g8 dX0_add_45 ?_
      refine j_aload_n C dX0_add_48 rfl ?_
      obtain ⟨a9, e10, hv⟩ := hv
      obtain ⟨g11, hv⟩ := hv
      refine gf_X0_28 C e10 g11 dX0_add_49 ?_
      refine j_iadd C dX0_add_52 ?_
      refine pf_X0_25 C rfl g8 dX0_add_53 ?_
      exact j_vret C dX0_add_56 (hlim _ _ (by omega) (by omega)) hv)
  refine j_aload_n C dX0_add_0 rfl ?_
  refine j_null C dX0_add_1 ?_
  obtain ⟨a1, e2, hv⟩ := hv
  obtain ⟨g3, hv⟩ := hv
  refine pf_X0_7 C e2 g3 dX0_add_2 ?_
  refine j_aload_n C dX0_add_5 rfl ?_
  obtain ⟨g4, hv⟩ := hv
  refine gf_X0_13 C rfl g4 dX0_add_6 ?_
  refine j_ifnonnull (tgt := 20) C dX0_add_9 (by decide) ⟨fun a5 e6 => ?_, fun e6 => ?_⟩
  · have hv := hv.1 a5 e6
    refine j_aload_n C dX0_add_20 rfl ?_
    refine gf_X0_13 C rfl g4 dX0_add_21 ?_
    refine j_aload_n C dX0_add_24 rfl ?_
    obtain ⟨g7, hv⟩ := hv
    refine pf_X0_7 C e6 g7 dX0_add_25 ?_
    exact j_sub (by exact (And.intro rfl (And.intro rfl trivial))) hv
  · have hv := hv.2 e6
    refine j_aload_n C dX0_add_12 rfl ?_
    refine j_aload_n C dX0_add_13 rfl ?_
    refine pf_X0_18 C rfl g4 dX0_add_14 ?_
    refine j_goto (tgt := 28) C dX0_add_17 (by decide) ?_
    exact j_sub (by exact (And.intro rfl (And.intro rfl trivial))) hv
def vc_X0_takeAll (t : Nat) (o1 : Option Nat) (h : Hp) (Q : Option AV ⊕ String → Hp → Prop) : Prop :=
    ∀ (P37 : Hp → Prop),
    (∀  (h : Hp), (∃ a10 : Nat, o1 = some a10 ∧ tg h a10 = 1 ∧ tg h t = 1 ∧ vc_X0_empty a10 (pI (pI (pR h 20 t (fR h 20 a10)) 21 t ((fI h 21 t) + (fI h 21 a10))) 22 t ((fI h 22 t) + (fI h 22 a10))) (qv (fun h14 => Q (.inl none) h14) qn)) → P37 h) →
    ∃ a1 : Nat, o1 = some a1 ∧ tg h a1 = 1 ∧ ((∀ a4 : Nat, fR h 19 a1 = some a4 → tg h t = 1 ∧ ((∀ a7 : Nat, fR h 20 t = some a7 → thg h a7 ∧ P37 (pR h 3 a7 (fR h 19 a1))) ∧ (fR h 20 t = none → P37 (pR h 19 t (fR h 19 a1))))) ∧ (fR h 19 a1 = none → Q (.inl none) h))
set_option maxRecDepth 20000 in
theorem s_X0_takeAll {t : Nat} {o1 : Option Nat} {h : Hp} {Q : Option AV ⊕ String → Hp → Prop} {lv : Nat} (hlv : lv + 1 ≤ 12) (hv : vc_X0_takeAll t o1 h Q) (l : Launch) (D : va_G) (dA : Nat → ClassId) (sz : Nat) (hst : l.stackTraces = false) : Ctr l D dA sz (Cond.code yX0_takeAll cX0_takeAll 2 none) yX0_takeAll lv [vr (some t), vr o1] h 0 0 Q := by
  refine Ctr.of (lo := [some (vr (some t)), some (vr o1)]) hst (by decide) (by simp [ena, isL]) rfl ?_
  intro G hg hlim C
  unfold vc_X0_takeAll at hv
  have hv := hv (fun  h => J G Q 37 [some (vr (some t)), some (vr o1)] [] h 0 0)
  have hv := hv (by
      intro  h hv
      refine j_aload_n C dX0_takeAll_37 rfl ?_
      refine j_aload_n C dX0_takeAll_38 rfl ?_
      obtain ⟨a10, e11, hv⟩ := hv
      obtain ⟨g12, hv⟩ := hv
      refine gf_X0_13 C e11 g12 dX0_takeAll_39 ?_
      obtain ⟨g13, hv⟩ := hv
      refine pf_X0_13 C rfl g13 dX0_takeAll_42 ?_
      refine j_aload_n C dX0_takeAll_45 rfl ?_
      refine j_dup C dX0_takeAll_46 rfl ?_
      refine gf_X0_21 C rfl g13 dX0_takeAll_47 ?_
      refine j_aload_n C dX0_takeAll_50 rfl ?_
      refine gf_X0_21 C e11 g12 dX0_takeAll_51 ?_
      refine j_iadd C dX0_takeAll_54 ?_
      refine pf_X0_21 C rfl g13 dX0_takeAll_55 ?_
      refine j_aload_n C dX0_takeAll_58 rfl ?_
      refine j_dup C dX0_takeAll_59 rfl ?_
      refine gf_X0_25 C rfl g13 dX0_takeAll_60 ?_
      refine j_aload_n C dX0_takeAll_63 rfl ?_
      refine gf_X0_25 C e11 g12 dX0_takeAll_64 ?_
      refine j_iadd C dX0_takeAll_67 ?_
      refine pf_X0_25 C rfl g13 dX0_takeAll_68 ?_
      refine j_aload_n C dX0_takeAll_71 rfl ?_
      refine k_callV C 0 [] mv_X0_29 e11 rfl (fun l D dA sz hl => s_X0_empty (by omega) hv l D dA sz hl) rfl rfl (by decide) g12 rfl (by omega) (by decide) (hlim _ _ (by omega) (by omega)) dX0_takeAll_72 (fun _ _ q => False.elim q) (fun v h14 hq => ?_)
      obtain ⟨rfl, hv⟩ := qv_inv hq
      exact j_vret C dX0_takeAll_75 (hlim _ _ (by omega) (by omega)) hv)
  refine j_aload_n C dX0_takeAll_0 rfl ?_
  obtain ⟨a1, e2, hv⟩ := hv
  obtain ⟨g3, hv⟩ := hv
  refine gf_X0_18 C e2 g3 dX0_takeAll_1 ?_
  refine j_ifnonnull (tgt := 8) C dX0_takeAll_4 (by decide) ⟨fun a4 e5 => ?_, fun e5 => ?_⟩
  · have hv := hv.1 a4 e5
    refine j_aload_n C dX0_takeAll_8 rfl ?_
    obtain ⟨g6, hv⟩ := hv
    refine gf_X0_13 C rfl g6 dX0_takeAll_9 ?_
    refine j_ifnonnull (tgt := 26) C dX0_takeAll_12 (by decide) ⟨fun a7 e8 => ?_, fun e8 => ?_⟩
    · have hv := hv.1 a7 e8
      refine j_aload_n C dX0_takeAll_26 rfl ?_
      refine gf_X0_13 C rfl g6 dX0_takeAll_27 ?_
      refine j_aload_n C dX0_takeAll_30 rfl ?_
      refine gf_X0_18 C e2 g3 dX0_takeAll_31 ?_
      obtain ⟨g9, hv⟩ := hv
      refine pf_X0_7 C e8 g9 dX0_takeAll_34 ?_
      exact j_sub (by exact (And.intro rfl (And.intro rfl trivial))) hv
    · have hv := hv.2 e8
      refine j_aload_n C dX0_takeAll_15 rfl ?_
      refine j_aload_n C dX0_takeAll_16 rfl ?_
      refine gf_X0_18 C e2 g3 dX0_takeAll_17 ?_
      refine pf_X0_18 C rfl g6 dX0_takeAll_20 ?_
      refine j_goto (tgt := 37) C dX0_takeAll_23 (by decide) ?_
      exact j_sub (by exact (And.intro rfl (And.intro rfl trivial))) hv
  · have hv := hv.2 e5
    exact j_vret C dX0_takeAll_7 (hlim _ _ (by omega) (by omega)) hv
def vc_X2_add (t : Nat) (o1 : Option Nat) (h : Hp) (Q : Option AV ⊕ String → Hp → Prop) : Prop :=
    ∀ (P23 : Hp → Prop),
    (∀  (h : Hp), (tg h t = 3 ∧ Q (.inl none) (pI (pR h 11 t o1) 12 t ((fI h 12 t) + (1 : Int32)))) → P23 h) →
    tg h t = 3 ∧ ((∀ a2 : Nat, fR h 11 t = some a2 → tg h a2 = 4 ∧ P23 (pR h 17 a2 o1)) ∧ (fR h 11 t = none → P23 (pR h 10 t o1)))
set_option maxRecDepth 20000 in
theorem s_X2_add {t : Nat} {o1 : Option Nat} {h : Hp} {Q : Option AV ⊕ String → Hp → Prop} {lv : Nat} (hlv : lv + 0 ≤ 12) (hv : vc_X2_add t o1 h Q) (l : Launch) (D : va_G) (dA : Nat → ClassId) (sz : Nat) (hst : l.stackTraces = false) : Ctr l D dA sz (Cond.code yX2_add cX2_add 2 none) yX2_add lv [vr (some t), vr o1] h 0 0 Q := by
  refine Ctr.of (lo := [some (vr (some t)), some (vr o1)]) hst (by decide) (by simp [ena, isL]) rfl ?_
  intro G hg hlim C
  unfold vc_X2_add at hv
  have hv := hv (fun  h => J G Q 23 [some (vr (some t)), some (vr o1)] [] h 0 0)
  have hv := hv (by
      intro  h hv
      refine j_aload_n C dX2_add_23 rfl ?_
      refine j_aload_n C dX2_add_24 rfl ?_
      obtain ⟨g5, hv⟩ := hv
      refine pf_X2_9 C rfl g5 dX2_add_25 ?_
      refine j_aload_n C dX2_add_28 rfl ?_
      refine j_dup C dX2_add_29 rfl ?_
      refine gf_X2_23 C rfl g5 dX2_add_30 ?_
      refine j_iconst (v := (1 : Int32)) C dX2_add_33 (by decide) ?_
      refine j_iadd C dX2_add_34 ?_
      refine pf_X2_23 C rfl g5 dX2_add_35 ?_
      exact j_vret C dX2_add_38 (hlim _ _ (by omega) (by omega)) hv)
  refine j_aload_n C dX2_add_0 rfl ?_
  obtain ⟨g1, hv⟩ := hv
  refine gf_X2_9 C rfl g1 dX2_add_1 ?_
  refine j_ifnonnull (tgt := 15) C dX2_add_4 (by decide) ⟨fun a2 e3 => ?_, fun e3 => ?_⟩
  · have hv := hv.1 a2 e3
    refine j_aload_n C dX2_add_15 rfl ?_
    refine gf_X2_9 C rfl g1 dX2_add_16 ?_
    refine j_aload_n C dX2_add_19 rfl ?_
    obtain ⟨g4, hv⟩ := hv
    refine pf_X2_18 C e3 g4 dX2_add_20 ?_
    exact j_sub (by exact (And.intro rfl (And.intro rfl trivial))) hv
  · have hv := hv.2 e3
    refine j_aload_n C dX2_add_7 rfl ?_
    refine j_aload_n C dX2_add_8 rfl ?_
    refine pf_X2_15 C rfl g1 dX2_add_9 ?_
    refine j_goto (tgt := 23) C dX2_add_12 (by decide) ?_
    exact j_sub (by exact (And.intro rfl (And.intro rfl trivial))) hv
def vc_X2_takeFirst (t : Nat) (h : Hp) (Q : Option AV ⊕ String → Hp → Prop) : Prop :=
    ∀ (P36 : Option Nat → Hp → Prop),
    (∀ (u1 : Option Nat) (h : Hp), (tg h t = 3 ∧ Q (.inl (some (vr u1))) (pI h 12 t ((fI h 12 t) - (1 : Int32)))) → P36 u1 h) →
    tg h t = 3 ∧ ((∀ a2 : Nat, fR h 10 t = some a2 → tg h a2 = 4 ∧ ((∀ a5 : Nat, fR (pR h 10 t (fR h 17 a2)) 10 t = some a5 → P36 (fR h 10 t) (pR (pR h 10 t (fR h 17 a2)) 17 a2 none)) ∧ (fR (pR h 10 t (fR h 17 a2)) 10 t = none → P36 (fR h 10 t) (pR (pR (pR h 10 t (fR h 17 a2)) 17 a2 none) 11 t none)))) ∧ (fR h 10 t = none → Q (.inl (some (vr none))) h))
set_option maxRecDepth 20000 in
theorem s_X2_takeFirst {t : Nat} {h : Hp} {Q : Option AV ⊕ String → Hp → Prop} {lv : Nat} (hlv : lv + 0 ≤ 12) (hv : vc_X2_takeFirst t h Q) (l : Launch) (D : va_G) (dA : Nat → ClassId) (sz : Nat) (hst : l.stackTraces = false) : Ctr l D dA sz (Cond.code yX2_takeFirst cX2_takeFirst 2 (some (.object "RefHeap$Loose"))) yX2_takeFirst lv [vr (some t)] h 0 0 Q := by
  refine Ctr.of (lo := [some (vr (some t)), none]) hst (by decide) (by simp [ena, isL]) rfl ?_
  intro G hg hlim C
  unfold vc_X2_takeFirst at hv
  have hv := hv (fun u1 h => J G Q 36 [some (vr (some t)), some (vr u1)] [] h 0 0)
  have hv := hv (by
      intro u1 h hv
      refine j_aload_n C dX2_takeFirst_36 rfl ?_
      refine j_dup C dX2_takeFirst_37 rfl ?_
      obtain ⟨g7, hv⟩ := hv
      refine gf_X2_23 C rfl g7 dX2_takeFirst_38 ?_
      refine j_iconst (v := (1 : Int32)) C dX2_takeFirst_41 (by decide) ?_
      refine j_isub C dX2_takeFirst_42 ?_
      refine pf_X2_23 C rfl g7 dX2_takeFirst_43 ?_
      refine j_aload_n C dX2_takeFirst_46 rfl ?_
      exact j_aret C dX2_takeFirst_47 (hlim _ _ (by omega) (by omega)) hv)
  refine j_aload_n C dX2_takeFirst_0 rfl ?_
  obtain ⟨g1, hv⟩ := hv
  refine gf_X2_15 C rfl g1 dX2_takeFirst_1 ?_
  refine j_astore_n (lo' := [some (vr (some t)), some (vr (fR h 10 t))]) C dX2_takeFirst_4 (Nat.le_of_ble_eq_true rfl) rfl ?_
  refine j_aload_n C dX2_takeFirst_5 rfl ?_
  refine j_ifnonnull (tgt := 11) C dX2_takeFirst_6 (by decide) ⟨fun a2 e3 => ?_, fun e3 => ?_⟩
  · have hv := hv.1 a2 e3
    refine j_aload_n C dX2_takeFirst_11 rfl ?_
    refine j_aload_n C dX2_takeFirst_12 rfl ?_
    obtain ⟨g4, hv⟩ := hv
    refine gf_X2_18 C e3 g4 dX2_takeFirst_13 ?_
    refine pf_X2_15 C rfl g1 dX2_takeFirst_16 ?_
    refine j_aload_n C dX2_takeFirst_19 rfl ?_
    refine j_null C dX2_takeFirst_20 ?_
    refine pf_X2_18 C e3 g4 dX2_takeFirst_21 ?_
    refine j_aload_n C dX2_takeFirst_24 rfl ?_
    refine gf_X2_15 C rfl g1 dX2_takeFirst_25 ?_
    refine j_ifnonnull (tgt := 36) C dX2_takeFirst_28 (by decide) ⟨fun a5 e6 => ?_, fun e6 => ?_⟩
    · have hv := hv.1 a5 e6
      exact j_sub (by exact (And.intro rfl (And.intro rfl trivial))) hv
    · have hv := hv.2 e6
      refine j_aload_n C dX2_takeFirst_31 rfl ?_
      refine j_null C dX2_takeFirst_32 ?_
      refine pf_X2_9 C rfl g1 dX2_takeFirst_33 ?_
      exact j_sub (by exact (And.intro rfl (And.intro rfl trivial))) hv
  · have hv := hv.2 e3
    refine j_null C dX2_takeFirst_9 ?_
    exact j_aret C dX2_takeFirst_10 (hlim _ _ (by omega) (by omega)) hv
def vc_X3_forget (t : Nat) (h : Hp) (Q : Option AV ⊕ String → Hp → Prop) : Prop :=
    tg h t = 4 ∧ Q (.inl none) (pR (pR h 13 t none) 14 t none)
set_option maxRecDepth 20000 in
theorem s_X3_forget {t : Nat} {h : Hp} {Q : Option AV ⊕ String → Hp → Prop} {lv : Nat} (hlv : lv + 0 ≤ 12) (hv : vc_X3_forget t h Q) (l : Launch) (D : va_G) (dA : Nat → ClassId) (sz : Nat) (hst : l.stackTraces = false) : Ctr l D dA sz (Cond.code yX3_forget cX3_forget 1 none) yX3_forget lv [vr (some t)] h 0 0 Q := by
  refine Ctr.of (lo := [some (vr (some t))]) hst (by decide) (by simp [ena, isL]) rfl ?_
  intro G hg hlim C
  unfold vc_X3_forget at hv
  refine j_aload_n C dX3_forget_0 rfl ?_
  refine j_null C dX3_forget_1 ?_
  obtain ⟨g1, hv⟩ := hv
  refine pf_X3_9 C rfl g1 dX3_forget_2 ?_
  refine j_aload_n C dX3_forget_5 rfl ?_
  refine j_null C dX3_forget_6 ?_
  refine pf_X3_15 C rfl g1 dX3_forget_7 ?_
  exact j_vret C dX3_forget_10 (hlim _ _ (by omega) (by omega)) hv
