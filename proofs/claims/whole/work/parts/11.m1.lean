/-! The conditions of methods, and their walks (m1). -/
def vc_X4_init (t : Nat) (x1 : Int32) (x2 : Int32) (h : Hp) (Q : Option AV ⊕ String → Hp → Prop) : Prop :=
    thg h t ∧ Q (.inl none) (pI (pI h 0 t x1) 1 t x2)
set_option maxRecDepth 20000 in
theorem s_X4_init {t : Nat} {x1 : Int32} {x2 : Int32} {h : Hp} {Q : Option AV ⊕ String → Hp → Prop} {lv : Nat} (hlv : lv + 1 ≤ 12) (hv : vc_X4_init t x1 x2 h Q) (l : Launch) (D : va_G) (dA : Nat → ClassId) (sz : Nat) (hst : l.stackTraces = false) : Ctr l D dA sz (Cond.code yX4_init cX4_init 3 none) yX4_init lv [vr (some t), vi x1, vi x2] h 0 0 Q := by
  refine Ctr.of (lo := [some (vr (some t)), some (vi x1), some (vi x2)]) hst (by decide) (by simp [ena, isL]) rfl ?_
  intro G hg hlim C
  unfold vc_X4_init at hv
  refine j_aload_n C dX4_init_0 rfl ?_
  refine k_objInit C rfl wg_300 rfl (by omega) (Nat.le_of_ble_eq_true rfl) dX4_init_1 ?_
  refine j_aload_n C dX4_init_4 rfl ?_
  refine j_iload_n C dX4_init_5 rfl ?_
  obtain ⟨g1, hv⟩ := hv
  refine pf_X4_7 C rfl rfl g1 dX4_init_6 ?_
  refine j_aload_n C dX4_init_9 rfl ?_
  refine j_iload_n C dX4_init_10 rfl ?_
  refine pf_X4_13 C rfl rfl g1 dX4_init_11 ?_
  exact j_vret C dX4_init_14 (hlim _ _ (by omega) (by omega)) hv
def vc_X1_init (t : Nat) (x1 : Int32) (x2 : Int32) (x3 : Int32) (x4 : Int32) (h : Hp) (Q : Option AV ⊕ String → Hp → Prop) : Prop :=
    vc_X4_init t x1 x2 h (qv (fun h1 => ¬ x3 < 0 ∧ x3.toNatClampNeg ≤ 3000 ∧ (∀ a3 : Nat, tg h1 a3 = 0 → tg (nA h1 a3 11 x3.toNatClampNeg) t = 2 ∧ ¬ x4 < 0 ∧ x4.toNatClampNeg ≤ 3000 ∧ (∀ a9 : Nat, tg (nA h1 a3 11 x3.toNatClampNeg) a9 = 0 → Q (.inl none) (pR (nA (pR (nA h1 a3 11 x3.toNatClampNeg) 8 t (some a3)) a9 9 x4.toNatClampNeg) 9 t (some a9))))) qn)
set_option maxRecDepth 20000 in
theorem s_X1_init {t : Nat} {x1 : Int32} {x2 : Int32} {x3 : Int32} {x4 : Int32} {h : Hp} {Q : Option AV ⊕ String → Hp → Prop} {lv : Nat} (hlv : lv + 2 ≤ 12) (hv : vc_X1_init t x1 x2 x3 x4 h Q) (l : Launch) (D : va_G) (dA : Nat → ClassId) (sz : Nat) (hst : l.stackTraces = false) : Ctr l D dA sz (Cond.code yX1_init cX1_init 5 none) yX1_init lv [vr (some t), vi x1, vi x2, vi x3, vi x4] h 2 6000 Q := by
  refine Ctr.of (lo := [some (vr (some t)), some (vi x1), some (vi x2), some (vi x3), some (vi x4)]) hst (by decide) (by simp [ena, isL]) rfl ?_
  intro G hg hlim C
  unfold vc_X1_init at hv
  refine j_aload_n C dX1_init_0 rfl ?_
  refine j_iload_n C dX1_init_1 rfl ?_
  refine j_iload_n C dX1_init_2 rfl ?_
  refine k_callI C [vi x1, vi x2] mi_X1_1 rfl rfl (fun l D dA sz hl => s_X4_init (by omega) hv l D dA sz hl) (fun _ _ q => q) rfl (by omega) (Nat.le_of_ble_eq_true rfl) (hlim _ _ (by omega) (by omega)) dX1_init_3 (fun v h1 hq => ?_)
  obtain ⟨rfl, hv⟩ := qv_inv hq
  refine j_aload_n C dX1_init_6 rfl ?_
  refine j_iload_n C dX1_init_7 rfl ?_
  obtain ⟨z5, z6, hv⟩ := hv
  refine k_newq (N := x3.toNatClampNeg) C wg_301 z5 rfl (by omega) (hlim _ _ (by omega) (by omega)) dX1_init_8 (fun a3 f4 => ?_)
  have hv := hv a3 f4
  have g7 : tg (nA h1 a3 11 x3.toNatClampNeg) a3 = 11 := tA2
  obtain ⟨g8, hv⟩ := hv
  refine pf_X1_7 C rfl rfl g8 dX1_init_11 ?_
  refine j_aload_n C dX1_init_14 rfl ?_
  refine j_iload C dX1_init_15 rfl ?_
  obtain ⟨z11, z12, hv⟩ := hv
  refine k_newa (N := x4.toNatClampNeg) C (Or.inr (Or.inl ⟨rfl, rfl, rfl⟩)) wg_345 z11 rfl (by omega) (hlim _ _ (by omega) (by omega)) dX1_init_17 (fun a9 f10 => ?_)
  have hv := hv a9 f10
  have g7 : tg (nA (nA h1 a3 11 x3.toNatClampNeg) a9 9 x4.toNatClampNeg) a3 = 11 := tA1 f10 g7
  have g8 : tg (nA (nA h1 a3 11 x3.toNatClampNeg) a9 9 x4.toNatClampNeg) t = 2 := tA1 f10 g8
  have g13 : tg (nA (nA h1 a3 11 x3.toNatClampNeg) a9 9 x4.toNatClampNeg) a9 = 9 := tA2
  refine pf_X1_13 C rfl rfl g8 dX1_init_19 ?_
  exact j_vret C dX1_init_22 (hlim _ _ (by omega) (by omega)) hv
def vc_X2_init (t : Nat) (h : Hp) (Q : Option AV ⊕ String → Hp → Prop) : Prop :=
    vc_X4_init t (3 : Int32) (3 : Int32) h (qv (fun h1 => Q (.inl none) h1) qn)
set_option maxRecDepth 20000 in
theorem s_X2_init {t : Nat} {h : Hp} {Q : Option AV ⊕ String → Hp → Prop} {lv : Nat} (hlv : lv + 2 ≤ 12) (hv : vc_X2_init t h Q) (l : Launch) (D : va_G) (dA : Nat → ClassId) (sz : Nat) (hst : l.stackTraces = false) : Ctr l D dA sz (Cond.code yX2_init cX2_init 1 none) yX2_init lv [vr (some t)] h 0 0 Q := by
  refine Ctr.of (lo := [some (vr (some t))]) hst (by decide) (by simp [ena, isL]) rfl ?_
  intro G hg hlim C
  unfold vc_X2_init at hv
  refine j_aload_n C dX2_init_0 rfl ?_
  refine j_iconst (v := (3 : Int32)) C dX2_init_1 (by decide) ?_
  refine j_iconst (v := (3 : Int32)) C dX2_init_2 (by decide) ?_
  refine k_callI C [vi (3 : Int32), vi (3 : Int32)] mi_X2_3 rfl rfl (fun l D dA sz hl => s_X4_init (by omega) hv l D dA sz hl) (fun _ _ q => q) rfl (by omega) (Nat.le_of_ble_eq_true rfl) (hlim _ _ (by omega) (by omega)) dX2_init_3 (fun v h1 hq => ?_)
  obtain ⟨rfl, hv⟩ := qv_inv hq
  exact j_vret C dX2_init_6 (hlim _ _ (by omega) (by omega)) hv
def vc_X3_init (t : Nat) (x1 : Int32) (x2 : Int32) (o3 : Option Nat) (o4 : Option Nat) (o5 : Option Nat) (h : Hp) (Q : Option AV ⊕ String → Hp → Prop) : Prop :=
    vc_X4_init t x1 x2 h (qv (fun h1 => tg h1 t = 4 ∧ Q (.inl none) (pR (pR (pR h1 13 t o3) 14 t o4) 15 t o5)) qn)
set_option maxRecDepth 20000 in
theorem s_X3_init {t : Nat} {x1 : Int32} {x2 : Int32} {o3 : Option Nat} {o4 : Option Nat} {o5 : Option Nat} {h : Hp} {Q : Option AV ⊕ String → Hp → Prop} {lv : Nat} (hlv : lv + 2 ≤ 12) (hv : vc_X3_init t x1 x2 o3 o4 o5 h Q) (l : Launch) (D : va_G) (dA : Nat → ClassId) (sz : Nat) (hst : l.stackTraces = false) : Ctr l D dA sz (Cond.code yX3_init cX3_init 6 none) yX3_init lv [vr (some t), vi x1, vi x2, vr o3, vr o4, vr o5] h 0 0 Q := by
  refine Ctr.of (lo := [some (vr (some t)), some (vi x1), some (vi x2), some (vr o3), some (vr o4), some (vr o5)]) hst (by decide) (by simp [ena, isL]) rfl ?_
  intro G hg hlim C
  unfold vc_X3_init at hv
  refine j_aload_n C dX3_init_0 rfl ?_
  refine j_iload_n C dX3_init_1 rfl ?_
  refine j_iload_n C dX3_init_2 rfl ?_
  refine k_callI C [vi x1, vi x2] mi_X3_3 rfl rfl (fun l D dA sz hl => s_X4_init (by omega) hv l D dA sz hl) (fun _ _ q => q) rfl (by omega) (Nat.le_of_ble_eq_true rfl) (hlim _ _ (by omega) (by omega)) dX3_init_3 (fun v h1 hq => ?_)
  obtain ⟨rfl, hv⟩ := qv_inv hq
  refine j_aload_n C dX3_init_6 rfl ?_
  refine j_aload_n C dX3_init_7 rfl ?_
  obtain ⟨g3, hv⟩ := hv
  refine pf_X3_9 C rfl g3 dX3_init_8 ?_
  refine j_aload_n C dX3_init_11 rfl ?_
  refine j_aload C dX3_init_12 rfl ?_
  refine pf_X3_15 C rfl g3 dX3_init_14 ?_
  refine j_aload_n C dX3_init_17 rfl ?_
  refine j_aload C dX3_init_18 rfl ?_
  refine pf_X3_18 C rfl rfl g3 dX3_init_20 ?_
  exact j_vret C dX3_init_23 (hlim _ _ (by omega) (by omega)) hv
def vc_X4_digestOn (t : Nat) (z1 : Int64) (o2 : Option Nat) (h : Hp) (Q : Option AV ⊕ String → Hp → Prop) : Prop :=
    vc_X6_mix z1 (0 : Int64) h (ql (fun v2 h1 => vc_X6_mix v2 (0 : Int64) h1 (ql (fun v4 h3 => Q (.inl (some (vl v4))) h3) qn)) qn)
set_option maxRecDepth 20000 in
theorem s_X4_digestOn {t : Nat} {z1 : Int64} {o2 : Option Nat} {h : Hp} {Q : Option AV ⊕ String → Hp → Prop} {lv : Nat} (hlv : lv + 1 ≤ 12) (hv : vc_X4_digestOn t z1 o2 h Q) (l : Launch) (D : va_G) (dA : Nat → ClassId) (sz : Nat) (hst : l.stackTraces = false) : Ctr l D dA sz (Cond.code yX4_digestOn cX4_digestOn 4 (some .long)) yX4_digestOn lv [vr (some t), vl z1, vr o2] h 0 0 Q := by
  refine Ctr.of (lo := [some (vr (some t)), some (vl z1), none, some (vr o2)]) hst (by decide) (by simp [ena, isL]) rfl ?_
  intro G hg hlim C
  unfold vc_X4_digestOn at hv
  refine j_lload_n C dX4_digestOn_0 rfl ?_
  refine j_lconst (v := (0 : Int64)) C dX4_digestOn_1 (by decide) ?_
  refine k_callSN C [vl z1, vl (0 : Int64)] ms_X4_16 rfl (fun l D dA sz hl => s_X6_mix (by omega) hv l D dA sz hl) (fun _ _ q => q) rfl (by omega) (Nat.le_of_ble_eq_true rfl) (hlim _ _ (by omega) (by omega)) dX4_digestOn_2 (fun v h1 hq => ?_)
  obtain ⟨v2, rfl, hv⟩ := ql_inv hq
  refine j_lconst (v := (0 : Int64)) C dX4_digestOn_5 (by decide) ?_
  refine k_callSN C [vl v2, vl (0 : Int64)] ms_X4_16 rfl (fun l D dA sz hl => s_X6_mix (by omega) hv l D dA sz hl) (fun _ _ q => q) rfl (by omega) (Nat.le_of_ble_eq_true rfl) (hlim _ _ (by omega) (by omega)) dX4_digestOn_6 (fun v h3 hq => ?_)
  obtain ⟨v4, rfl, hv⟩ := ql_inv hq
  exact j_lret C dX4_digestOn_9 (hlim _ _ (by omega) (by omega)) hv
def vc_X1_digestOn (t : Nat) (z1 : Int64) (o2 : Option Nat) (h : Hp) (Q : Option AV ⊕ String → Hp → Prop) : Prop :=
    ∀ (P26 : Int64 → Option Nat → Int32 → Int32 → Hp → Prop) (P101 : Int64 → Option Nat → Int32 → Int32 → Hp → Prop) (P63 : Option Nat → Int32 → Int32 → Int64 → Int64 → Hp → Prop),
    (∀ (z4 : Int64) (u6 : Option Nat) (y7 : Int32) (y8 : Int32) (h : Hp), (((y7 ≤ y8 → tg h t = 2 ∧ ∃ a12 : Nat, fR h 9 t = some a12 ∧ tg h a12 = 9 ∧ vc_X6_mix z4 ((nI (ln h a12)).toInt64) h (ql (fun v16 h15 => tg h15 t = 2 ∧ ∃ a18 : Nat, fR h15 9 t = some a18 ∧ tg h15 a18 = 9 ∧ P101 v16 (fR h15 9 t) (nI (ln h15 a18)) (0 : Int32) h15) qn)) ∧ (¬ y7 ≤ y8 → ∃ a21 : Nat, u6 = some a21 ∧ tg h a21 = 11 ∧ vp_in y8 (ln h a21) ∧ ∃ a25 : Nat, o2 = some a25 ∧ tg h a25 = 5 ∧ vc_X5_comeTo a25 (aR h a21 y8.toNatClampNeg) h (qv (fun h27 => ((∀ a30 : Nat, aR h a21 y8.toNatClampNeg = some a30 → thg h27 a30 ∧ P63 u6 y7 y8 ((fI h27 5 a30).toInt64) z4 h27) ∧ (aR h a21 y8.toNatClampNeg = none → P63 u6 y7 y8 (0 : Int64) z4 h27))) qn)))) → P26 z4 u6 y7 y8 h) →
    (∀ (z4 : Int64) (u6 : Option Nat) (y7 : Int32) (y8 : Int32) (h : Hp), (((y7 ≤ y8 → Q (.inl (some (vl z4))) h) ∧ (¬ y7 ≤ y8 → ∃ a34 : Nat, u6 = some a34 ∧ tg h a34 = 9 ∧ vp_in y8 (ln h a34) ∧ vc_X6_mix z4 (aL h a34 y8.toNatClampNeg) h (ql (fun v39 h38 => P101 v39 u6 y7 (y8 + 1) h38) qn)))) → P101 z4 u6 y7 y8 h) →
    (∀ (u6 : Option Nat) (y7 : Int32) (y8 : Int32) (s0 : Int64) (s1 : Int64) (h : Hp), (vc_X6_mix s1 s0 h (ql (fun v42 h41 => P26 v42 u6 y7 (y8 + 1) h41) qn)) → P63 u6 y7 y8 s0 s1 h) →
    tg h t = 2 ∧ ∃ a2 : Nat, fR h 8 t = some a2 ∧ tg h a2 = 11 ∧ vc_X6_mix z1 ((nI (ln h a2)).toInt64) h (ql (fun v6 h5 => tg h5 t = 2 ∧ ∃ a8 : Nat, fR h5 8 t = some a8 ∧ tg h5 a8 = 11 ∧ P26 v6 (fR h5 8 t) (nI (ln h5 a8)) (0 : Int32) h5) qn)
set_option maxRecDepth 20000 in
theorem s_X1_digestOn {t : Nat} {z1 : Int64} {o2 : Option Nat} {h : Hp} {Q : Option AV ⊕ String → Hp → Prop} {lv : Nat} (hlv : lv + 2 ≤ 12) (hv : vc_X1_digestOn t z1 o2 h Q) (l : Launch) (D : va_G) (dA : Nat → ClassId) (sz : Nat) (hst : l.stackTraces = false) : Ctr l D dA sz (Cond.code yX1_digestOn cX1_digestOn 11 (some .long)) yX1_digestOn lv [vr (some t), vl z1, vr o2] h 0 0 Q := by
  refine Ctr.of (lo := [some (vr (some t)), some (vl z1), none, some (vr o2), none, none, none, none, none, none, none]) hst (by decide) (by simp [ena, isL]) rfl ?_
  intro G hg hlim C
  unfold vc_X1_digestOn at hv
  have hv := hv (fun z4 u6 y7 y8 h => J G Q 26 [some (vr (some t)), none, none, some (vr o2), some (vl z4), none, some (vr u6), some (vi y7), some (vi y8), none, none] [] h 0 0) (fun z4 u6 y7 y8 h => J G Q 101 [none, none, none, none, some (vl z4), none, some (vr u6), some (vi y7), some (vi y8), none, none] [] h 0 0) (fun u6 y7 y8 s0 s1 h => J G Q 63 [some (vr (some t)), none, none, some (vr o2), none, none, some (vr u6), some (vi y7), some (vi y8), none, none] [vl s0, vl s1] h 0 0)
  have hv := hv (by
      intro z4 u6 y7 y8 h hv
      refine j_iload C dX1_digestOn_26 rfl ?_
      refine j_iload C dX1_digestOn_28 rfl ?_
      refine j_icmp_ge (tgt := 74) C dX1_digestOn_30 (by decide) ⟨fun q33 => ?_, fun q33 => ?_⟩
      · have hv := hv.1 q33
        refine j_lload C dX1_digestOn_74 rfl ?_
        refine j_aload_n C dX1_digestOn_76 rfl ?_
        obtain ⟨g11, hv⟩ := hv
        refine gf_X1_13 C rfl g11 dX1_digestOn_77 ?_
        obtain ⟨a12, e13, hv⟩ := hv
        obtain ⟨g14, hv⟩ := hv
        refine k_alen C e13 (Or.inr (Or.inl g14)) dX1_digestOn_80 ?_
        refine j_i2l C dX1_digestOn_81 ?_
        refine k_callSN C [vl z4, vl ((nI (ln h a12)).toInt64)] ms_X1_23 rfl (fun l D dA sz hl => s_X6_mix (by omega) hv l D dA sz hl) (fun _ _ q => q) rfl (by omega) (Nat.le_of_ble_eq_true rfl) (hlim _ _ (by omega) (by omega)) dX1_digestOn_82 (fun v h15 hq => ?_)
        obtain ⟨v16, rfl, hv⟩ := ql_inv hq
        refine j_lstore (lo' := [some (vr (some t)), none, none, some (vr o2), some (vl v16), none, some (vr u6), some (vi y7), some (vi y8), none, none]) C dX1_digestOn_85 (Nat.le_of_ble_eq_true rfl) rfl ?_
        refine j_aload_n C dX1_digestOn_87 rfl ?_
        obtain ⟨g17, hv⟩ := hv
        refine gf_X1_13 C rfl g17 dX1_digestOn_88 ?_
        refine j_astore (lo' := [some (vr (some t)), none, none, some (vr o2), some (vl v16), none, some (vr (fR h15 9 t)), some (vi y7), some (vi y8), none, none]) C dX1_digestOn_91 (Nat.le_of_ble_eq_true rfl) rfl ?_
        refine j_aload C dX1_digestOn_93 rfl ?_
        obtain ⟨a18, e19, hv⟩ := hv
        obtain ⟨g20, hv⟩ := hv
        refine k_alen C e19 (Or.inr (Or.inl g20)) dX1_digestOn_95 ?_
        refine j_istore (lo' := [some (vr (some t)), none, none, some (vr o2), some (vl v16), none, some (vr (fR h15 9 t)), some (vi (nI (ln h15 a18))), some (vi y8), none, none]) C dX1_digestOn_96 (Nat.le_of_ble_eq_true rfl) rfl ?_
        refine j_iconst (v := (0 : Int32)) C dX1_digestOn_98 (by decide) ?_
        refine j_istore (lo' := [some (vr (some t)), none, none, some (vr o2), some (vl v16), none, some (vr (fR h15 9 t)), some (vi (nI (ln h15 a18))), some (vi (0 : Int32)), none, none]) C dX1_digestOn_99 (Nat.le_of_ble_eq_true rfl) rfl ?_
        exact j_sub (by exact (And.intro rfl (And.intro rfl (And.intro rfl (And.intro rfl trivial))))) hv
      · have hv := hv.2 q33
        refine j_aload C dX1_digestOn_33 rfl ?_
        refine j_iload C dX1_digestOn_35 rfl ?_
        obtain ⟨a21, e22, hv⟩ := hv
        obtain ⟨g23, hv⟩ := hv
        obtain ⟨b24, hv⟩ := hv
        refine k_aald (j := y8.toNatClampNeg) C e22 g23 b24 rfl dX1_digestOn_37 ?_
        refine j_astore (lo' := [some (vr (some t)), none, none, some (vr o2), some (vl z4), none, some (vr u6), some (vi y7), some (vi y8), some (vr (aR h a21 y8.toNatClampNeg)), none]) C dX1_digestOn_38 (Nat.le_of_ble_eq_true rfl) rfl ?_
        refine j_aload_n C dX1_digestOn_40 rfl ?_
        refine j_aload C dX1_digestOn_41 rfl ?_
        obtain ⟨a25, e26, hv⟩ := hv
        obtain ⟨g29, hv⟩ := hv
        refine k_callV C 4 [vr (aR h a21 y8.toNatClampNeg)] mv_X1_17 e26 rfl (fun l D dA sz hl => s_X5_comeTo (by omega) hv l D dA sz hl) rfl rfl (by decide) g29 rfl (by omega) (Nat.le_of_ble_eq_true rfl) (hlim _ _ (by omega) (by omega)) dX1_digestOn_43 (fun _ _ q => False.elim q) (fun v h27 hq => ?_)
        obtain ⟨rfl, hv⟩ := qv_inv hq
        refine j_lload C dX1_digestOn_46 rfl ?_
        refine j_aload C dX1_digestOn_48 rfl ?_
        refine j_ifnonnull (tgt := 57) C dX1_digestOn_50 (by decide) ⟨fun a30 e31 => ?_, fun e31 => ?_⟩
        · have hv := hv.1 a30 e31
          refine j_aload C dX1_digestOn_57 rfl ?_
          obtain ⟨g32, hv⟩ := hv
          refine gf_X1_29 C e31 g32 dX1_digestOn_59 ?_
          refine j_i2l C dX1_digestOn_62 ?_
          exact j_sub (by exact (And.intro rfl (And.intro rfl (And.intro rfl (And.intro rfl (And.intro rfl trivial)))))) hv
        · have hv := hv.2 e31
          refine j_lconst (v := (0 : Int64)) C dX1_digestOn_53 (by decide) ?_
          refine j_goto (tgt := 63) C dX1_digestOn_54 (by decide) ?_
          exact j_sub (by exact (And.intro rfl (And.intro rfl (And.intro rfl (And.intro rfl (And.intro rfl trivial)))))) hv)
  have hv := hv (by
      intro z4 u6 y7 y8 h hv
      refine j_iload C dX1_digestOn_101 rfl ?_
      refine j_iload C dX1_digestOn_103 rfl ?_
      refine j_icmp_ge (tgt := 130) C dX1_digestOn_105 (by decide) ⟨fun q40 => ?_, fun q40 => ?_⟩
      · have hv := hv.1 q40
        refine j_lload C dX1_digestOn_130 rfl ?_
        exact j_lret C dX1_digestOn_132 (hlim _ _ (by omega) (by omega)) hv
      · have hv := hv.2 q40
        refine j_aload C dX1_digestOn_108 rfl ?_
        refine j_iload C dX1_digestOn_110 rfl ?_
        obtain ⟨a34, e35, hv⟩ := hv
        obtain ⟨g36, hv⟩ := hv
        obtain ⟨b37, hv⟩ := hv
        refine k_lald (j := y8.toNatClampNeg) C e35 g36 b37 rfl dX1_digestOn_112 ?_
        refine j_lstore (lo' := [none, none, none, none, some (vl z4), none, some (vr u6), some (vi y7), some (vi y8), some (vl (aL h a34 y8.toNatClampNeg)), none]) C dX1_digestOn_113 (Nat.le_of_ble_eq_true rfl) rfl ?_
        refine j_lload C dX1_digestOn_115 rfl ?_
        refine j_lload C dX1_digestOn_117 rfl ?_
        refine k_callSN C [vl z4, vl (aL h a34 y8.toNatClampNeg)] ms_X1_23 rfl (fun l D dA sz hl => s_X6_mix (by omega) hv l D dA sz hl) (fun _ _ q => q) rfl (by omega) (Nat.le_of_ble_eq_true rfl) (hlim _ _ (by omega) (by omega)) dX1_digestOn_119 (fun v h38 hq => ?_)
        obtain ⟨v39, rfl, hv⟩ := ql_inv hq
        refine j_lstore (lo' := [none, none, none, none, some (vl v39), none, some (vr u6), some (vi y7), some (vi y8), some (vl (aL h a34 y8.toNatClampNeg)), none]) C dX1_digestOn_122 (Nat.le_of_ble_eq_true rfl) rfl ?_
        refine j_iinc (v := y8 + 1) (lo' := [none, none, none, none, some (vl v39), none, some (vr u6), some (vi y7), some (vi (y8 + 1)), some (vl (aL h a34 y8.toNatClampNeg)), none]) C dX1_digestOn_124 rfl rfl rfl ?_
        refine j_goto (tgt := 101) C dX1_digestOn_127 (by decide) ?_
        exact j_sub (by exact (And.intro rfl (And.intro rfl (And.intro rfl (And.intro rfl trivial))))) hv)
  have hv := hv (by
      intro u6 y7 y8 s0 s1 h hv
      refine k_callSN C [vl s1, vl s0] ms_X1_23 rfl (fun l D dA sz hl => s_X6_mix (by omega) hv l D dA sz hl) (fun _ _ q => q) rfl (by omega) (Nat.le_of_ble_eq_true rfl) (hlim _ _ (by omega) (by omega)) dX1_digestOn_63 (fun v h41 hq => ?_)
      obtain ⟨v42, rfl, hv⟩ := ql_inv hq
      refine j_lstore (lo' := [some (vr (some t)), none, none, some (vr o2), some (vl v42), none, some (vr u6), some (vi y7), some (vi y8), none, none]) C dX1_digestOn_66 (Nat.le_of_ble_eq_true rfl) rfl ?_
      refine j_iinc (v := y8 + 1) (lo' := [some (vr (some t)), none, none, some (vr o2), some (vl v42), none, some (vr u6), some (vi y7), some (vi (y8 + 1)), none, none]) C dX1_digestOn_68 rfl rfl rfl ?_
      refine j_goto (tgt := 26) C dX1_digestOn_71 (by decide) ?_
      exact j_sub (by exact (And.intro rfl (And.intro rfl (And.intro rfl (And.intro rfl (And.intro rfl (And.intro rfl trivial))))))) hv)
  refine j_lload_n C dX1_digestOn_0 rfl ?_
  refine j_aload_n C dX1_digestOn_1 rfl ?_
  obtain ⟨g1, hv⟩ := hv
  refine gf_X1_7 C rfl g1 dX1_digestOn_2 ?_
  obtain ⟨a2, e3, hv⟩ := hv
  obtain ⟨g4, hv⟩ := hv
  refine k_alen C e3 (Or.inr (Or.inr g4)) dX1_digestOn_5 ?_
  refine j_i2l C dX1_digestOn_6 ?_
  refine k_callSN C [vl z1, vl ((nI (ln h a2)).toInt64)] ms_X1_23 rfl (fun l D dA sz hl => s_X6_mix (by omega) hv l D dA sz hl) (fun _ _ q => q) rfl (by omega) (Nat.le_of_ble_eq_true rfl) (hlim _ _ (by omega) (by omega)) dX1_digestOn_7 (fun v h5 hq => ?_)
  obtain ⟨v6, rfl, hv⟩ := ql_inv hq
  refine j_lstore (lo' := [some (vr (some t)), some (vl z1), none, some (vr o2), some (vl v6), none, none, none, none, none, none]) C dX1_digestOn_10 (Nat.le_of_ble_eq_true rfl) rfl ?_
  refine j_aload_n C dX1_digestOn_12 rfl ?_
  obtain ⟨g7, hv⟩ := hv
  refine gf_X1_7 C rfl g7 dX1_digestOn_13 ?_
  refine j_astore (lo' := [some (vr (some t)), some (vl z1), none, some (vr o2), some (vl v6), none, some (vr (fR h5 8 t)), none, none, none, none]) C dX1_digestOn_16 (Nat.le_of_ble_eq_true rfl) rfl ?_
  refine j_aload C dX1_digestOn_18 rfl ?_
  obtain ⟨a8, e9, hv⟩ := hv
  obtain ⟨g10, hv⟩ := hv
  refine k_alen C e9 (Or.inr (Or.inr g10)) dX1_digestOn_20 ?_
  refine j_istore (lo' := [some (vr (some t)), some (vl z1), none, some (vr o2), some (vl v6), none, some (vr (fR h5 8 t)), some (vi (nI (ln h5 a8))), none, none, none]) C dX1_digestOn_21 (Nat.le_of_ble_eq_true rfl) rfl ?_
  refine j_iconst (v := (0 : Int32)) C dX1_digestOn_23 (by decide) ?_
  refine j_istore (lo' := [some (vr (some t)), some (vl z1), none, some (vr o2), some (vl v6), none, some (vr (fR h5 8 t)), some (vi (nI (ln h5 a8))), some (vi (0 : Int32)), none, none]) C dX1_digestOn_24 (Nat.le_of_ble_eq_true rfl) rfl ?_
  exact j_sub (by exact (And.intro rfl (And.intro rfl (And.intro rfl (And.intro rfl (And.intro rfl (And.intro rfl trivial))))))) hv
def vc_X1_leadOn (t : Nat) (o1 : Option Nat) (x2 : Int32) (h : Hp) (Q : Option AV ⊕ String → Hp → Prop) : Prop :=
    ∀ (P12 : Option Nat → Int32 → Int32 → Hp → Prop),
    (∀ (u3 : Option Nat) (y4 : Int32) (y5 : Int32) (h : Hp), (((y4 ≤ y5 → Q (.inl none) h) ∧ (¬ y4 ≤ y5 → ∃ a5 : Nat, u3 = some a5 ∧ tg h a5 = 11 ∧ vp_in y5 (ln h a5) ∧ ∃ a9 : Nat, o1 = some a9 ∧ tg h a9 = 5 ∧ vc_X5_comeTo a9 (aR h a5 y5.toNatClampNeg) h (qv (fun h11 => P12 u3 y4 (y5 + 1) h11) qn)))) → P12 u3 y4 y5 h) →
    tg h t = 2 ∧ ∃ a2 : Nat, fR h 8 t = some a2 ∧ tg h a2 = 11 ∧ P12 (fR h 8 t) (nI (ln h a2)) (0 : Int32) h
set_option maxRecDepth 20000 in
theorem s_X1_leadOn {t : Nat} {o1 : Option Nat} {x2 : Int32} {h : Hp} {Q : Option AV ⊕ String → Hp → Prop} {lv : Nat} (hlv : lv + 2 ≤ 12) (hv : vc_X1_leadOn t o1 x2 h Q) (l : Launch) (D : va_G) (dA : Nat → ClassId) (sz : Nat) (hst : l.stackTraces = false) : Ctr l D dA sz (Cond.code yX1_leadOn cX1_leadOn 7 none) yX1_leadOn lv [vr (some t), vr o1, vi x2] h 0 0 Q := by
  refine Ctr.of (lo := [some (vr (some t)), some (vr o1), some (vi x2), none, none, none, none]) hst (by decide) (by simp [ena, isL]) rfl ?_
  intro G hg hlim C
  unfold vc_X1_leadOn at hv
  have hv := hv (fun u3 y4 y5 h => J G Q 12 [none, some (vr o1), none, some (vr u3), some (vi y4), some (vi y5), none] [] h 0 0)
  have hv := hv (by
      intro u3 y4 y5 h hv
      refine j_iload C dX1_leadOn_12 rfl ?_
      refine j_iload C dX1_leadOn_14 rfl ?_
      refine j_icmp_ge (tgt := 37) C dX1_leadOn_16 (by decide) ⟨fun q14 => ?_, fun q14 => ?_⟩
      · have hv := hv.1 q14
        exact j_vret C dX1_leadOn_37 (hlim _ _ (by omega) (by omega)) hv
      · have hv := hv.2 q14
        refine j_aload_n C dX1_leadOn_19 rfl ?_
        refine j_iload C dX1_leadOn_20 rfl ?_
        obtain ⟨a5, e6, hv⟩ := hv
        obtain ⟨g7, hv⟩ := hv
        obtain ⟨b8, hv⟩ := hv
        refine k_aald (j := y5.toNatClampNeg) C e6 g7 b8 rfl dX1_leadOn_22 ?_
        refine j_astore (lo' := [none, some (vr o1), none, some (vr u3), some (vi y4), some (vi y5), some (vr (aR h a5 y5.toNatClampNeg))]) C dX1_leadOn_23 (Nat.le_of_ble_eq_true rfl) rfl ?_
        refine j_aload_n C dX1_leadOn_25 rfl ?_
        refine j_aload C dX1_leadOn_26 rfl ?_
        obtain ⟨a9, e10, hv⟩ := hv
        obtain ⟨g13, hv⟩ := hv
        refine k_callV C 4 [vr (aR h a5 y5.toNatClampNeg)] mv_X1_17 e10 rfl (fun l D dA sz hl => s_X5_comeTo (by omega) hv l D dA sz hl) rfl rfl (by decide) g13 rfl (by omega) (Nat.le_of_ble_eq_true rfl) (hlim _ _ (by omega) (by omega)) dX1_leadOn_28 (fun _ _ q => False.elim q) (fun v h11 hq => ?_)
        obtain ⟨rfl, hv⟩ := qv_inv hq
        refine j_iinc (v := y5 + 1) (lo' := [none, some (vr o1), none, some (vr u3), some (vi y4), some (vi (y5 + 1)), some (vr (aR h a5 y5.toNatClampNeg))]) C dX1_leadOn_31 rfl rfl rfl ?_
        refine j_goto (tgt := 12) C dX1_leadOn_34 (by decide) ?_
        exact j_sub (by exact (And.intro rfl (And.intro rfl (And.intro rfl (And.intro rfl trivial))))) hv)
  refine j_aload_n C dX1_leadOn_0 rfl ?_
  obtain ⟨g1, hv⟩ := hv
  refine gf_X1_7 C rfl g1 dX1_leadOn_1 ?_
  refine j_astore_n (lo' := [some (vr (some t)), some (vr o1), some (vi x2), some (vr (fR h 8 t)), none, none, none]) C dX1_leadOn_4 (Nat.le_of_ble_eq_true rfl) rfl ?_
  refine j_aload_n C dX1_leadOn_5 rfl ?_
  obtain ⟨a2, e3, hv⟩ := hv
  obtain ⟨g4, hv⟩ := hv
  refine k_alen C e3 (Or.inr (Or.inr g4)) dX1_leadOn_6 ?_
  refine j_istore (lo' := [some (vr (some t)), some (vr o1), some (vi x2), some (vr (fR h 8 t)), some (vi (nI (ln h a2))), none, none]) C dX1_leadOn_7 (Nat.le_of_ble_eq_true rfl) rfl ?_
  refine j_iconst (v := (0 : Int32)) C dX1_leadOn_9 (by decide) ?_
  refine j_istore (lo' := [some (vr (some t)), some (vr o1), some (vi x2), some (vr (fR h 8 t)), some (vi (nI (ln h a2))), some (vi (0 : Int32)), none]) C dX1_leadOn_10 (Nat.le_of_ble_eq_true rfl) rfl ?_
  exact j_sub (by exact (And.intro rfl (And.intro rfl (And.intro rfl (And.intro rfl trivial))))) hv
def vc_X2_leadOn (t : Nat) (o1 : Option Nat) (x2 : Int32) (h : Hp) (Q : Option AV ⊕ String → Hp → Prop) : Prop :=
    ∀ (P5 : Option Nat → Hp → Prop),
    (∀ (u3 : Option Nat) (h : Hp), (((u3 = none → Q (.inl none) h) ∧ (∀ a2 : Nat, u3 = some a2 → ∃ a4 : Nat, o1 = some a4 ∧ tg h a4 = 5 ∧ vc_X5_comeTo a4 u3 h (qv (fun h6 => tg h6 a2 = 4 ∧ P5 (fR h6 17 a2) h6) qn)))) → P5 u3 h) →
    tg h t = 3 ∧ P5 (fR h 10 t) h
set_option maxRecDepth 20000 in
theorem s_X2_leadOn {t : Nat} {o1 : Option Nat} {x2 : Int32} {h : Hp} {Q : Option AV ⊕ String → Hp → Prop} {lv : Nat} (hlv : lv + 2 ≤ 12) (hv : vc_X2_leadOn t o1 x2 h Q) (l : Launch) (D : va_G) (dA : Nat → ClassId) (sz : Nat) (hst : l.stackTraces = false) : Ctr l D dA sz (Cond.code yX2_leadOn cX2_leadOn 4 none) yX2_leadOn lv [vr (some t), vr o1, vi x2] h 0 0 Q := by
  refine Ctr.of (lo := [some (vr (some t)), some (vr o1), some (vi x2), none]) hst (by decide) (by simp [ena, isL]) rfl ?_
  intro G hg hlim C
  unfold vc_X2_leadOn at hv
  have hv := hv (fun u3 h => J G Q 5 [none, some (vr o1), none, some (vr u3)] [] h 0 0)
  have hv := hv (by
      intro u3 h hv
      refine j_aload_n C dX2_leadOn_5 rfl ?_
      refine j_ifnull (tgt := 22) C dX2_leadOn_6 (by decide) ⟨fun e3 => ?_, fun a2 e3 => ?_⟩
      · have hv := hv.1 e3
        exact j_vret C dX2_leadOn_22 (hlim _ _ (by omega) (by omega)) hv
      · have hv := hv.2 a2 e3
        refine j_aload_n C dX2_leadOn_9 rfl ?_
        refine j_aload_n C dX2_leadOn_10 rfl ?_
        obtain ⟨a4, e5, hv⟩ := hv
        obtain ⟨g8, hv⟩ := hv
        refine k_callV C 4 [vr u3] mv_X2_27 e5 rfl (fun l D dA sz hl => s_X5_comeTo (by omega) hv l D dA sz hl) rfl rfl (by decide) g8 rfl (by omega) (Nat.le_of_ble_eq_true rfl) (hlim _ _ (by omega) (by omega)) dX2_leadOn_11 (fun _ _ q => False.elim q) (fun v h6 hq => ?_)
        obtain ⟨rfl, hv⟩ := qv_inv hq
        refine j_aload_n C dX2_leadOn_14 rfl ?_
        obtain ⟨g9, hv⟩ := hv
        refine gf_X2_18 C e3 g9 dX2_leadOn_15 ?_
        refine j_astore_n (lo' := [none, some (vr o1), none, some (vr (fR h6 17 a2))]) C dX2_leadOn_18 (Nat.le_of_ble_eq_true rfl) rfl ?_
        refine j_goto (tgt := 5) C dX2_leadOn_19 (by decide) ?_
        exact j_sub (by exact (And.intro rfl (And.intro rfl trivial))) hv)
  refine j_aload_n C dX2_leadOn_0 rfl ?_
  obtain ⟨g1, hv⟩ := hv
  refine gf_X2_15 C rfl g1 dX2_leadOn_1 ?_
  refine j_astore_n (lo' := [some (vr (some t)), some (vr o1), some (vi x2), some (vr (fR h 10 t))]) C dX2_leadOn_4 (Nat.le_of_ble_eq_true rfl) rfl ?_
  exact j_sub (by exact (And.intro rfl (And.intro rfl trivial))) hv
def vc_X3_leadOn (t : Nat) (o1 : Option Nat) (x2 : Int32) (h : Hp) (Q : Option AV ⊕ String → Hp → Prop) : Prop :=
    ∀ (P15 : Hp → Prop) (P35 : Hp → Prop),
    (∀  (h : Hp), (tg h t = 4 ∧ ((¬ (fI h 0 t) = (4 : Int32) → P35 h) ∧ ((fI h 0 t) = (4 : Int32) → ((¬ x2 = 0 → P35 h) ∧ (x2 = 0 → ∃ a9 : Nat, o1 = some a9 ∧ tg h a9 = 5 ∧ vc_X5_comeTo a9 (fR h 13 t) h (qv (fun h11 => P35 h11) qn)))))) → P15 h) →
    (∀  (h : Hp), (tg h t = 4 ∧ ((¬ (fI h 0 t) = (7 : Int32) → Q (.inl none) h) ∧ ((fI h 0 t) = (7 : Int32) → ((fR h 13 t = none → Q (.inl none) h) ∧ (∀ a17 : Nat, fR h 13 t = some a17 → ∃ a19 : Nat, o1 = some a19 ∧ tg h a19 = 5 ∧ vc_X5_has a19 (fR h 13 t) h (qi (fun v22 h21 => ((v22 = 0 → tg h21 t = 4 ∧ ∃ a25 : Nat, fR h21 13 t = some a25 ∧ thg h21 a25 ∧ Q (.inl none) (pR (pR h21 18 t (fR h21 7 a25)) 7 a25 (some t))) ∧ (¬ v22 = 0 → tg h21 t = 4 ∧ tg h21 a19 = 5 ∧ vc_X5_comeTo a19 (fR h21 14 t) h21 (qv (fun h29 => Q (.inl none) h29) qn)))) qn)))))) → P35 h) →
    tg h t = 4 ∧ ((¬ (fI h 16 t) = 0 → P15 h) ∧ ((fI h 16 t) = 0 → ∃ a2 : Nat, o1 = some a2 ∧ tg h a2 = 5 ∧ vc_X5_comeTo a2 (fR h 15 t) h (qv (fun h4 => P15 h4) qn)))
set_option maxRecDepth 20000 in
theorem s_X3_leadOn {t : Nat} {o1 : Option Nat} {x2 : Int32} {h : Hp} {Q : Option AV ⊕ String → Hp → Prop} {lv : Nat} (hlv : lv + 2 ≤ 12) (hv : vc_X3_leadOn t o1 x2 h Q) (l : Launch) (D : va_G) (dA : Nat → ClassId) (sz : Nat) (hst : l.stackTraces = false) : Ctr l D dA sz (Cond.code yX3_leadOn cX3_leadOn 3 none) yX3_leadOn lv [vr (some t), vr o1, vi x2] h 0 0 Q := by
  refine Ctr.of (lo := [some (vr (some t)), some (vr o1), some (vi x2)]) hst (by decide) (by simp [ena, isL]) rfl ?_
  intro G hg hlim C
  unfold vc_X3_leadOn at hv
  have hv := hv (fun  h => J G Q 15 [some (vr (some t)), some (vr o1), some (vi x2)] [] h 0 0) (fun  h => J G Q 35 [some (vr (some t)), some (vr o1), none] [] h 0 0)
  have hv := hv (by
      intro  h hv
      refine j_aload_n C dX3_leadOn_15 rfl ?_
      obtain ⟨g8, hv⟩ := hv
      refine gf_X3_36 C rfl g8 dX3_leadOn_16 ?_
      refine j_iconst (v := (4 : Int32)) C dX3_leadOn_19 (by decide) ?_
      refine j_icmp_ne (tgt := 35) C dX3_leadOn_20 (by decide) ⟨fun q15 => ?_, fun q15 => ?_⟩
      · have hv := hv.1 q15
        exact j_sub (by exact (And.intro rfl (And.intro rfl trivial))) hv
      · have hv := hv.2 q15
        refine j_iload_n C dX3_leadOn_23 rfl ?_
        refine j_if_ne (tgt := 35) C dX3_leadOn_24 (by decide) ⟨fun q14 => ?_, fun q14 => ?_⟩
        · have hv := hv.1 q14
          exact j_sub (by exact (And.intro rfl (And.intro rfl trivial))) hv
        · have hv := hv.2 q14
          refine j_aload_n C dX3_leadOn_27 rfl ?_
          refine j_aload_n C dX3_leadOn_28 rfl ?_
          refine gf_X3_9 C rfl g8 dX3_leadOn_29 ?_
          obtain ⟨a9, e10, hv⟩ := hv
          obtain ⟨g13, hv⟩ := hv
          refine k_callV C 4 [vr (fR h 13 t)] mv_X3_32 e10 rfl (fun l D dA sz hl => s_X5_comeTo (by omega) hv l D dA sz hl) rfl rfl (by decide) g13 rfl (by omega) (Nat.le_of_ble_eq_true rfl) (hlim _ _ (by omega) (by omega)) dX3_leadOn_32 (fun _ _ q => False.elim q) (fun v h11 hq => ?_)
          obtain ⟨rfl, hv⟩ := qv_inv hq
          exact j_sub (by exact (And.intro rfl (And.intro rfl trivial))) hv)
  have hv := hv (by
      intro  h hv
      refine j_aload_n C dX3_leadOn_35 rfl ?_
      obtain ⟨g16, hv⟩ := hv
      refine gf_X3_36 C rfl g16 dX3_leadOn_36 ?_
      refine j_bipush (v := (7 : Int32)) C dX3_leadOn_39 (by decide) ?_
      refine j_icmp_ne (tgt := 92) C dX3_leadOn_41 (by decide) ⟨fun q33 => ?_, fun q33 => ?_⟩
      · have hv := hv.1 q33
        exact j_vret C dX3_leadOn_92 (hlim _ _ (by omega) (by omega)) hv
      · have hv := hv.2 q33
        refine j_aload_n C dX3_leadOn_44 rfl ?_
        refine gf_X3_9 C rfl g16 dX3_leadOn_45 ?_
        refine j_ifnull (tgt := 92) C dX3_leadOn_48 (by decide) ⟨fun e18 => ?_, fun a17 e18 => ?_⟩
        · have hv := hv.1 e18
          exact j_vret C dX3_leadOn_92 (hlim _ _ (by omega) (by omega)) hv
        · have hv := hv.2 a17 e18
          refine j_aload_n C dX3_leadOn_51 rfl ?_
          refine j_aload_n C dX3_leadOn_52 rfl ?_
          refine gf_X3_9 C rfl g16 dX3_leadOn_53 ?_
          obtain ⟨a19, e20, hv⟩ := hv
          obtain ⟨g23, hv⟩ := hv
          refine k_callV C 4 [vr (fR h 13 t)] mv_X3_22 e20 rfl (fun l D dA sz hl => s_X5_has (by omega) hv l D dA sz hl) rfl rfl (by decide) g23 rfl (by omega) (Nat.le_of_ble_eq_true rfl) (hlim _ _ (by omega) (by omega)) dX3_leadOn_56 (fun _ _ q => False.elim q) (fun v h21 hq => ?_)
          obtain ⟨v22, rfl, hv⟩ := qi_inv hq
          refine j_if_eq (tgt := 73) C dX3_leadOn_59 (by decide) ⟨fun q32 => ?_, fun q32 => ?_⟩
          · have hv := hv.1 q32
            refine j_aload_n C dX3_leadOn_73 rfl ?_
            refine j_aload_n C dX3_leadOn_74 rfl ?_
            obtain ⟨g24, hv⟩ := hv
            refine gf_X3_9 C rfl g24 dX3_leadOn_75 ?_
            obtain ⟨a25, e26, hv⟩ := hv
            obtain ⟨g27, hv⟩ := hv
            refine gf_X3_40 C e26 g27 dX3_leadOn_78 ?_
            refine pf_X3_44 C rfl g24 dX3_leadOn_81 ?_
            refine j_aload_n C dX3_leadOn_84 rfl ?_
            refine gf_X3_9 C rfl g24 dX3_leadOn_85 ?_
            refine j_aload_n C dX3_leadOn_88 rfl ?_
            refine pf_X3_40 C e26 g27 dX3_leadOn_89 ?_
            exact j_vret C dX3_leadOn_92 (hlim _ _ (by omega) (by omega)) hv
          · have hv := hv.2 q32
            refine j_aload_n C dX3_leadOn_62 rfl ?_
            refine j_aload_n C dX3_leadOn_63 rfl ?_
            obtain ⟨g28, hv⟩ := hv
            refine gf_X3_15 C rfl g28 dX3_leadOn_64 ?_
            obtain ⟨g31, hv⟩ := hv
            refine k_callV C 4 [vr (fR h21 14 t)] mv_X3_32 e20 rfl (fun l D dA sz hl => s_X5_comeTo (by omega) hv l D dA sz hl) rfl rfl (by decide) g31 rfl (by omega) (Nat.le_of_ble_eq_true rfl) (hlim _ _ (by omega) (by omega)) dX3_leadOn_67 (fun _ _ q => False.elim q) (fun v h29 hq => ?_)
            obtain ⟨rfl, hv⟩ := qv_inv hq
            refine j_goto (tgt := 92) C dX3_leadOn_70 (by decide) ?_
            exact j_vret C dX3_leadOn_92 (hlim _ _ (by omega) (by omega)) hv)
  refine j_aload_n C dX3_leadOn_0 rfl ?_
  obtain ⟨g1, hv⟩ := hv
  refine gf_X3_28 C rfl g1 dX3_leadOn_1 ?_
  refine j_if_ne (tgt := 15) C dX3_leadOn_4 (by decide) ⟨fun q7 => ?_, fun q7 => ?_⟩
  · have hv := hv.1 q7
    exact j_sub (by exact (And.intro rfl (And.intro rfl (And.intro rfl trivial)))) hv
  · have hv := hv.2 q7
    refine j_aload_n C dX3_leadOn_7 rfl ?_
    refine j_aload_n C dX3_leadOn_8 rfl ?_
    refine gf_X3_18 C rfl g1 dX3_leadOn_9 ?_
    obtain ⟨a2, e3, hv⟩ := hv
    obtain ⟨g6, hv⟩ := hv
    refine k_callV C 4 [vr (fR h 15 t)] mv_X3_32 e3 rfl (fun l D dA sz hl => s_X5_comeTo (by omega) hv l D dA sz hl) rfl rfl (by decide) g6 rfl (by omega) (Nat.le_of_ble_eq_true rfl) (hlim _ _ (by omega) (by omega)) dX3_leadOn_12 (fun _ _ q => False.elim q) (fun v h4 hq => ?_)
    obtain ⟨rfl, hv⟩ := qv_inv hq
    exact j_sub (by exact (And.intro rfl (And.intro rfl (And.intro rfl trivial)))) hv
def vc_X3_refersOutside (t : Nat) (o1 : Option Nat) (h : Hp) (Q : Option AV ⊕ String → Hp → Prop) : Prop :=
    ∀ (P22 : Hp → Prop),
    (∀  (h : Hp), (Q (.inl (some (vi (0 : Int32)))) h) → P22 h) →
    tg h t = 4 ∧ ((fR h 13 t = none → P22 h) ∧ (∀ a2 : Nat, fR h 13 t = some a2 → ∃ a4 : Nat, o1 = some a4 ∧ tg h a4 = 5 ∧ vc_X5_has a4 (fR h 13 t) h (qi (fun v7 h6 => ((¬ v7 = 0 → P22 h6) ∧ (v7 = 0 → Q (.inl (some (vi (1 : Int32)))) h6))) qn)))
set_option maxRecDepth 20000 in
theorem s_X3_refersOutside {t : Nat} {o1 : Option Nat} {h : Hp} {Q : Option AV ⊕ String → Hp → Prop} {lv : Nat} (hlv : lv + 1 ≤ 12) (hv : vc_X3_refersOutside t o1 h Q) (l : Launch) (D : va_G) (dA : Nat → ClassId) (sz : Nat) (hst : l.stackTraces = false) : Ctr l D dA sz (Cond.code yX3_refersOutside cX3_refersOutside 2 (some .boolean)) yX3_refersOutside lv [vr (some t), vr o1] h 0 0 Q := by
  refine Ctr.of (lo := [some (vr (some t)), some (vr o1)]) hst (by decide) (by simp [ena, isL]) rfl ?_
  intro G hg hlim C
  unfold vc_X3_refersOutside at hv
  have hv := hv (fun  h => J G Q 22 [none, none] [] h 0 0)
  have hv := hv (by
      intro  h hv
      refine j_iconst (v := (0 : Int32)) C dX3_refersOutside_22 (by decide) ?_
      exact j_zret C (Or.inl rfl) dX3_refersOutside_23 (hlim _ _ (by omega) (by omega)) hv)
  refine j_aload_n C dX3_refersOutside_0 rfl ?_
  obtain ⟨g1, hv⟩ := hv
  refine gf_X3_9 C rfl g1 dX3_refersOutside_1 ?_
  refine j_ifnull (tgt := 22) C dX3_refersOutside_4 (by decide) ⟨fun e3 => ?_, fun a2 e3 => ?_⟩
  · have hv := hv.1 e3
    exact j_sub (by exact trivial) hv
  · have hv := hv.2 a2 e3
    refine j_aload_n C dX3_refersOutside_7 rfl ?_
    refine j_aload_n C dX3_refersOutside_8 rfl ?_
    refine gf_X3_9 C rfl g1 dX3_refersOutside_9 ?_
    obtain ⟨a4, e5, hv⟩ := hv
    obtain ⟨g8, hv⟩ := hv
    refine k_callV C 4 [vr (fR h 13 t)] mv_X3_22 e5 rfl (fun l D dA sz hl => s_X5_has (by omega) hv l D dA sz hl) rfl rfl (by decide) g8 rfl (by omega) (Nat.le_of_ble_eq_true rfl) (hlim _ _ (by omega) (by omega)) dX3_refersOutside_12 (fun _ _ q => False.elim q) (fun v h6 hq => ?_)
    obtain ⟨v7, rfl, hv⟩ := qi_inv hq
    refine j_if_ne (tgt := 22) C dX3_refersOutside_15 (by decide) ⟨fun q9 => ?_, fun q9 => ?_⟩
    · have hv := hv.1 q9
      exact j_sub (by exact trivial) hv
    · have hv := hv.2 q9
      refine j_iconst (v := (1 : Int32)) C dX3_refersOutside_18 (by decide) ?_
      refine j_goto (tgt := 23) C dX3_refersOutside_19 (by decide) ?_
      exact j_zret C (Or.inr rfl) dX3_refersOutside_23 (hlim _ _ (by omega) (by omega)) hv
def vc_X4_leadOnAsKey (t : Nat) (o1 : Option Nat) (h : Hp) (Q : Option AV ⊕ String → Hp → Prop) : Prop :=
    ∀ (P5 : Option Nat → Hp → Prop),
    (∀ (u2 : Option Nat) (h : Hp), (((u2 = none → thg h t ∧ Q (.inl none) (pR h 7 t none)) ∧ (∀ a2 : Nat, u2 = some a2 → tg h a2 = 4 ∧ ∃ a6 : Nat, o1 = some a6 ∧ tg h a6 = 5 ∧ vc_X5_comeTo a6 (fR h 14 a2) h (qv (fun h8 => tg h8 a2 = 4 ∧ P5 (fR h8 18 a2) h8) qn)))) → P5 u2 h) →
    thg h t ∧ P5 (fR h 7 t) h
set_option maxRecDepth 20000 in
theorem s_X4_leadOnAsKey {t : Nat} {o1 : Option Nat} {h : Hp} {Q : Option AV ⊕ String → Hp → Prop} {lv : Nat} (hlv : lv + 2 ≤ 12) (hv : vc_X4_leadOnAsKey t o1 h Q) (l : Launch) (D : va_G) (dA : Nat → ClassId) (sz : Nat) (hst : l.stackTraces = false) : Ctr l D dA sz (Cond.code yX4_leadOnAsKey cX4_leadOnAsKey 3 none) yX4_leadOnAsKey lv [vr (some t), vr o1] h 0 0 Q := by
  refine Ctr.of (lo := [some (vr (some t)), some (vr o1), none]) hst (by decide) (by simp [ena, isL]) rfl ?_
  intro G hg hlim C
  unfold vc_X4_leadOnAsKey at hv
  have hv := hv (fun u2 h => J G Q 5 [some (vr (some t)), some (vr o1), some (vr u2)] [] h 0 0)
  have hv := hv (by
      intro u2 h hv
      refine j_aload_n C dX4_leadOnAsKey_5 rfl ?_
      refine j_ifnull (tgt := 25) C dX4_leadOnAsKey_6 (by decide) ⟨fun e3 => ?_, fun a2 e3 => ?_⟩
      · have hv := hv.1 e3
        refine j_aload_n C dX4_leadOnAsKey_25 rfl ?_
        refine j_null C dX4_leadOnAsKey_26 ?_
        obtain ⟨g4, hv⟩ := hv
        refine pf_X4_22 C rfl g4 dX4_leadOnAsKey_27 ?_
        exact j_vret C dX4_leadOnAsKey_30 (hlim _ _ (by omega) (by omega)) hv
      · have hv := hv.2 a2 e3
        refine j_aload_n C dX4_leadOnAsKey_9 rfl ?_
        refine j_aload_n C dX4_leadOnAsKey_10 rfl ?_
        obtain ⟨g5, hv⟩ := hv
        refine gf_X4_26 C e3 g5 dX4_leadOnAsKey_11 ?_
        obtain ⟨a6, e7, hv⟩ := hv
        obtain ⟨g10, hv⟩ := hv
        refine k_callV C 4 [vr (fR h 14 a2)] mv_X4_32 e7 rfl (fun l D dA sz hl => s_X5_comeTo (by omega) hv l D dA sz hl) rfl rfl (by decide) g10 rfl (by omega) (Nat.le_of_ble_eq_true rfl) (hlim _ _ (by omega) (by omega)) dX4_leadOnAsKey_14 (fun _ _ q => False.elim q) (fun v h8 hq => ?_)
        obtain ⟨rfl, hv⟩ := qv_inv hq
        refine j_aload_n C dX4_leadOnAsKey_17 rfl ?_
        obtain ⟨g11, hv⟩ := hv
        refine gf_X4_38 C e3 g11 dX4_leadOnAsKey_18 ?_
        refine j_astore_n (lo' := [some (vr (some t)), some (vr o1), some (vr (fR h8 18 a2))]) C dX4_leadOnAsKey_21 (Nat.le_of_ble_eq_true rfl) rfl ?_
        refine j_goto (tgt := 5) C dX4_leadOnAsKey_22 (by decide) ?_
        exact j_sub (by exact (And.intro rfl (And.intro rfl (And.intro rfl trivial)))) hv)
  refine j_aload_n C dX4_leadOnAsKey_0 rfl ?_
  obtain ⟨g1, hv⟩ := hv
  refine gf_X4_22 C rfl g1 dX4_leadOnAsKey_1 ?_
  refine j_astore_n (lo' := [some (vr (some t)), some (vr o1), some (vr (fR h 7 t))]) C dX4_leadOnAsKey_4 (Nat.le_of_ble_eq_true rfl) rfl ?_
  exact j_sub (by exact (And.intro rfl (And.intro rfl (And.intro rfl trivial)))) hv
def vc_X6_carryOver (t : Nat) (h : Hp) (Q : Option AV ⊕ String → Hp → Prop) : Prop :=
    tg h t = 6 ∧ ∃ a2 : Nat, fR h 33 t = some a2 ∧ tg h a2 = 1 ∧ vc_X0_takeAll a2 (fR h 32 t) h (qv (fun h4 => Q (.inl none) h4) qn)
set_option maxRecDepth 20000 in
theorem s_X6_carryOver {t : Nat} {h : Hp} {Q : Option AV ⊕ String → Hp → Prop} {lv : Nat} (hlv : lv + 2 ≤ 12) (hv : vc_X6_carryOver t h Q) (l : Launch) (D : va_G) (dA : Nat → ClassId) (sz : Nat) (hst : l.stackTraces = false) : Ctr l D dA sz (Cond.code yX6_carryOver cX6_carryOver 1 none) yX6_carryOver lv [vr (some t)] h 0 0 Q := by
  refine Ctr.of (lo := [some (vr (some t))]) hst (by decide) (by simp [ena, isL]) rfl ?_
  intro G hg hlim C
  unfold vc_X6_carryOver at hv
  refine j_aload_n C dX6_carryOver_0 rfl ?_
  obtain ⟨g1, hv⟩ := hv
  refine gf_X6_29 C rfl g1 dX6_carryOver_1 ?_
  refine j_aload_n C dX6_carryOver_4 rfl ?_
  refine gf_X6_25 C rfl g1 dX6_carryOver_5 ?_
  obtain ⟨a2, e3, hv⟩ := hv
  obtain ⟨g6, hv⟩ := hv
  refine k_callV C 0 [vr (fR h 32 t)] mv_X6_249 e3 rfl (fun l D dA sz hl => s_X0_takeAll (by omega) hv l D dA sz hl) rfl rfl (by decide) g6 rfl (by omega) (Nat.le_of_ble_eq_true rfl) (hlim _ _ (by omega) (by omega)) dX6_carryOver_8 (fun _ _ q => False.elim q) (fun v h4 hq => ?_)
  obtain ⟨rfl, hv⟩ := qv_inv hq
  exact j_vret C dX6_carryOver_11 (hlim _ _ (by omega) (by omega)) hv
def vc_X6_isCarryDue (t : Nat) (h : Hp) (Q : Option AV ⊕ String → Hp → Prop) : Prop :=
    tg h t = 6 ∧ ((¬ (fI h 36 t) = 0 → (((fI h 37 t) < (fI h 36 t) → Q (.inl (some (vi (0 : Int32)))) h) ∧ (¬ (fI h 37 t) < (fI h 36 t) → Q (.inl (some (vi (1 : Int32)))) h))) ∧ ((fI h 36 t) = 0 → ∃ a3 : Nat, fR h 32 t = some a3 ∧ tg h a3 = 1 ∧ (((fI h 22 a3) < (fI h 28 t) → Q (.inl (some (vi (0 : Int32)))) h) ∧ (¬ (fI h 22 a3) < (fI h 28 t) → Q (.inl (some (vi (1 : Int32)))) h))))
set_option maxRecDepth 20000 in
theorem s_X6_isCarryDue {t : Nat} {h : Hp} {Q : Option AV ⊕ String → Hp → Prop} {lv : Nat} (hlv : lv + 0 ≤ 12) (hv : vc_X6_isCarryDue t h Q) (l : Launch) (D : va_G) (dA : Nat → ClassId) (sz : Nat) (hst : l.stackTraces = false) : Ctr l D dA sz (Cond.code yX6_isCarryDue cX6_isCarryDue 1 (some .boolean)) yX6_isCarryDue lv [vr (some t)] h 0 0 Q := by
  refine Ctr.of (lo := [some (vr (some t))]) hst (by decide) (by simp [ena, isL]) rfl ?_
  intro G hg hlim C
  unfold vc_X6_isCarryDue at hv
  refine j_aload_n C dX6_isCarryDue_0 rfl ?_
  obtain ⟨g1, hv⟩ := hv
  refine gf_X6_176 C rfl g1 dX6_isCarryDue_1 ?_
  refine j_if_ne (tgt := 29) C dX6_isCarryDue_4 (by decide) ⟨fun q7 => ?_, fun q7 => ?_⟩
  · have hv := hv.1 q7
    refine j_aload_n C dX6_isCarryDue_29 rfl ?_
    refine gf_X6_179 C rfl g1 dX6_isCarryDue_30 ?_
    refine j_aload_n C dX6_isCarryDue_33 rfl ?_
    refine gf_X6_176 C rfl g1 dX6_isCarryDue_34 ?_
    refine j_icmp_lt (tgt := 44) C dX6_isCarryDue_37 (by decide) ⟨fun q2 => ?_, fun q2 => ?_⟩
    · have hv := hv.1 q2
      refine j_iconst (v := (0 : Int32)) C dX6_isCarryDue_44 (by decide) ?_
      exact j_zret C (Or.inl rfl) dX6_isCarryDue_45 (hlim _ _ (by omega) (by omega)) hv
    · have hv := hv.2 q2
      refine j_iconst (v := (1 : Int32)) C dX6_isCarryDue_40 (by decide) ?_
      refine j_goto (tgt := 45) C dX6_isCarryDue_41 (by decide) ?_
      exact j_zret C (Or.inr rfl) dX6_isCarryDue_45 (hlim _ _ (by omega) (by omega)) hv
  · have hv := hv.2 q7
    refine j_aload_n C dX6_isCarryDue_7 rfl ?_
    refine gf_X6_25 C rfl g1 dX6_isCarryDue_8 ?_
    obtain ⟨a3, e4, hv⟩ := hv
    obtain ⟨g5, hv⟩ := hv
    refine gf_X6_248 C e4 g5 dX6_isCarryDue_11 ?_
    refine j_aload_n C dX6_isCarryDue_14 rfl ?_
    refine gf_X6_52 C rfl g1 dX6_isCarryDue_15 ?_
    refine j_icmp_lt (tgt := 25) C dX6_isCarryDue_18 (by decide) ⟨fun q6 => ?_, fun q6 => ?_⟩
    · have hv := hv.1 q6
      refine j_iconst (v := (0 : Int32)) C dX6_isCarryDue_25 (by decide) ?_
      refine j_goto (tgt := 45) C dX6_isCarryDue_26 (by decide) ?_
      exact j_zret C (Or.inl rfl) dX6_isCarryDue_45 (hlim _ _ (by omega) (by omega)) hv
    · have hv := hv.2 q6
      refine j_iconst (v := (1 : Int32)) C dX6_isCarryDue_21 (by decide) ?_
      refine j_goto (tgt := 45) C dX6_isCarryDue_22 (by decide) ?_
      exact j_zret C (Or.inr rfl) dX6_isCarryDue_45 (hlim _ _ (by omega) (by omega)) hv
def vc_X6_keep (t : Nat) (x1 : Int32) (o2 : Option Nat) (h : Hp) (Q : Option AV ⊕ String → Hp → Prop) : Prop :=
    ∀ (P97 : Hp → Prop),
    (∀  (h : Hp), (∃ a35 : Nat, o2 = some a35 ∧ thg h a35 ∧ Q (.inl (some (vi (fI h 1 a35)))) h) → P97 h) →
    tg h t = 6 ∧ ∃ a2 : Nat, fR h 31 t = some a2 ∧ tg h a2 = 8 ∧ vp_in (2 : Int32) (ln h a2) ∧ vp_in (2 : Int32) (ln h a2) ∧ vp_in (1 : Int32) (ln h a2) ∧ vp_in (1 : Int32) (ln h a2) ∧ vp_in (0 : Int32) (ln h a2) ∧ ∃ a10 : Nat, o2 = some a10 ∧ thg h a10 ∧ vp_in (0 : Int32) (ln h a2) ∧ vp_in (6 : Int32) (ln h a2) ∧ vp_in (0 : Int32) (ln h a2) ∧ vp_in (6 : Int32) (ln h a2) ∧ ∃ a17 : Nat, fR h 29 t = some a17 ∧ tg h a17 = 11 ∧ vp_in x1 (ln h a17) ∧ (∀ b : Nat, o2 = some b → thg h b) ∧ ∃ a22 : Nat, fR h 32 t = some a22 ∧ tg h a22 = 1 ∧ vc_X0_add a22 o2 (qR (qI (qI (qI (qI h a2 2 ((aI h a2 2) + (1 : Int32))) a2 1 ((aI (qI h a2 2 ((aI h a2 2) + (1 : Int32))) a2 1) + (1 : Int32))) a2 0 ((aI (qI (qI h a2 2 ((aI h a2 2) + (1 : Int32))) a2 1 ((aI (qI h a2 2 ((aI h a2 2) + (1 : Int32))) a2 1) + (1 : Int32))) a2 0) + (fI h 1 a10))) a2 6 (j_mx (aI (qI (qI (qI h a2 2 ((aI h a2 2) + (1 : Int32))) a2 1 ((aI (qI h a2 2 ((aI h a2 2) + (1 : Int32))) a2 1) + (1 : Int32))) a2 0 ((aI (qI (qI h a2 2 ((aI h a2 2) + (1 : Int32))) a2 1 ((aI (qI h a2 2 ((aI h a2 2) + (1 : Int32))) a2 1) + (1 : Int32))) a2 0) + (fI h 1 a10))) a2 6) (aI (qI (qI (qI h a2 2 ((aI h a2 2) + (1 : Int32))) a2 1 ((aI (qI h a2 2 ((aI h a2 2) + (1 : Int32))) a2 1) + (1 : Int32))) a2 0 ((aI (qI (qI h a2 2 ((aI h a2 2) + (1 : Int32))) a2 1 ((aI (qI h a2 2 ((aI h a2 2) + (1 : Int32))) a2 1) + (1 : Int32))) a2 0) + (fI h 1 a10))) a2 0))) a17 x1.toNatClampNeg o2) (qv (fun h24 => tg h24 t = 6 ∧ vc_X6_isCarryDue t (pI h24 37 t ((fI h24 37 t) + (1 : Int32))) (qi (fun v29 h28 => ((v29 = 0 → P97 h28) ∧ (¬ v29 = 0 → tg h28 t = 6 ∧ vc_X6_carryOver t h28 (qv (fun h30 => tg h30 t = 6 ∧ P97 (pI h30 37 t (0 : Int32))) qn)))) qn)) qn)
set_option maxRecDepth 20000 in
theorem s_X6_keep {t : Nat} {x1 : Int32} {o2 : Option Nat} {h : Hp} {Q : Option AV ⊕ String → Hp → Prop} {lv : Nat} (hlv : lv + 3 ≤ 12) (hv : vc_X6_keep t x1 o2 h Q) (l : Launch) (D : va_G) (dA : Nat → ClassId) (sz : Nat) (hst : l.stackTraces = false) : Ctr l D dA sz (Cond.code yX6_keep cX6_keep 3 (some .int)) yX6_keep lv [vr (some t), vi x1, vr o2] h 0 0 Q := by
  refine Ctr.of (lo := [some (vr (some t)), some (vi x1), some (vr o2)]) hst (by decide) (by simp [ena, isL]) rfl ?_
  intro G hg hlim C
  unfold vc_X6_keep at hv
  have hv := hv (fun  h => J G Q 97 [none, none, some (vr o2)] [] h 0 0)
  have hv := hv (by
      intro  h hv
      refine j_aload_n C dX6_keep_97 rfl ?_
      obtain ⟨a35, e36, hv⟩ := hv
      obtain ⟨g37, hv⟩ := hv
      refine gf_X6_235 C e36 g37 dX6_keep_98 ?_
      exact j_iret C dX6_keep_101 (hlim _ _ (by omega) (by omega)) hv)
  refine j_aload_n C dX6_keep_0 rfl ?_
  obtain ⟨g1, hv⟩ := hv
  refine gf_X6_19 C rfl g1 dX6_keep_1 ?_
  refine j_iconst (v := (2 : Int32)) C dX6_keep_4 (by decide) ?_
  refine j_dup2 C dX6_keep_5 rfl rfl ?_
  obtain ⟨a2, e3, hv⟩ := hv
  obtain ⟨g4, hv⟩ := hv
  obtain ⟨b5, hv⟩ := hv
  refine k_iald (j := 2) C e3 g4 b5 (by decide) dX6_keep_6 ?_
  refine j_iconst (v := (1 : Int32)) C dX6_keep_7 (by decide) ?_
  refine j_iadd C dX6_keep_8 ?_
  obtain ⟨b6, hv⟩ := hv
  refine k_iast (j := 2) C e3 g4 b6 (by decide) dX6_keep_9 ?_
  refine j_aload_n C dX6_keep_10 rfl ?_
  refine gf_X6_19 C rfl g1 dX6_keep_11 ?_
  refine j_iconst (v := (1 : Int32)) C dX6_keep_14 (by decide) ?_
  refine j_dup2 C dX6_keep_15 rfl rfl ?_
  obtain ⟨b7, hv⟩ := hv
  refine k_iald (j := 1) C e3 g4 b7 (by decide) dX6_keep_16 ?_
  refine j_iconst (v := (1 : Int32)) C dX6_keep_17 (by decide) ?_
  refine j_iadd C dX6_keep_18 ?_
  obtain ⟨b8, hv⟩ := hv
  refine k_iast (j := 1) C e3 g4 b8 (by decide) dX6_keep_19 ?_
  refine j_aload_n C dX6_keep_20 rfl ?_
  refine gf_X6_19 C rfl g1 dX6_keep_21 ?_
  refine j_iconst (v := (0 : Int32)) C dX6_keep_24 (by decide) ?_
  refine j_dup2 C dX6_keep_25 rfl rfl ?_
  obtain ⟨b9, hv⟩ := hv
  refine k_iald (j := 0) C e3 g4 b9 (by decide) dX6_keep_26 ?_
  refine j_aload_n C dX6_keep_27 rfl ?_
  obtain ⟨a10, e11, hv⟩ := hv
  obtain ⟨g12, hv⟩ := hv
  refine gf_X6_235 C e11 g12 dX6_keep_28 ?_
  refine j_iadd C dX6_keep_31 ?_
  obtain ⟨b13, hv⟩ := hv
  refine k_iast (j := 0) C e3 g4 b13 (by decide) dX6_keep_32 ?_
  refine j_aload_n C dX6_keep_33 rfl ?_
  refine gf_X6_19 C rfl g1 dX6_keep_34 ?_
  refine j_bipush (v := (6 : Int32)) C dX6_keep_37 (by decide) ?_
  refine j_aload_n C dX6_keep_39 rfl ?_
  refine gf_X6_19 C rfl g1 dX6_keep_40 ?_
  refine j_bipush (v := (6 : Int32)) C dX6_keep_43 (by decide) ?_
  obtain ⟨b14, hv⟩ := hv
  refine k_iald (j := 6) C e3 g4 b14 (by decide) dX6_keep_45 ?_
  refine j_aload_n C dX6_keep_46 rfl ?_
  refine gf_X6_19 C rfl g1 dX6_keep_47 ?_
  refine j_iconst (v := (0 : Int32)) C dX6_keep_50 (by decide) ?_
  obtain ⟨b15, hv⟩ := hv
  refine k_iald (j := 0) C e3 g4 b15 (by decide) dX6_keep_51 ?_
  refine k_max C wg_71 rfl (by omega) (Nat.le_of_ble_eq_true rfl) (hlim _ _ (by omega) (by omega)) dX6_keep_52 ?_
  obtain ⟨b16, hv⟩ := hv
  refine k_iast (j := 6) C e3 g4 b16 (by decide) dX6_keep_55 ?_
  refine j_aload_n C dX6_keep_56 rfl ?_
  refine gf_X6_11 C rfl g1 dX6_keep_57 ?_
  refine j_iload_n C dX6_keep_60 rfl ?_
  refine j_aload_n C dX6_keep_61 rfl ?_
  obtain ⟨a17, e18, hv⟩ := hv
  obtain ⟨g19, hv⟩ := hv
  obtain ⟨b20, hv⟩ := hv
  obtain ⟨z21, hv⟩ := hv
  refine k_aast (j := x1.toNatClampNeg) C e18 g19 b20 rfl z21 dX6_keep_62 ?_
  refine j_aload_n C dX6_keep_63 rfl ?_
  refine gf_X6_25 C rfl g1 dX6_keep_64 ?_
  refine j_aload_n C dX6_keep_67 rfl ?_
  obtain ⟨a22, e23, hv⟩ := hv
  obtain ⟨g26, hv⟩ := hv
  refine k_callV C 0 [vr o2] mv_X6_238 e23 rfl (fun l D dA sz hl => s_X0_add (by omega) hv l D dA sz hl) rfl rfl (by decide) g26 rfl (by omega) (Nat.le_of_ble_eq_true rfl) (hlim _ _ (by omega) (by omega)) dX6_keep_68 (fun _ _ q => False.elim q) (fun v h24 hq => ?_)
  obtain ⟨rfl, hv⟩ := qv_inv hq
  refine j_aload_n C dX6_keep_71 rfl ?_
  refine j_dup C dX6_keep_72 rfl ?_
  obtain ⟨g27, hv⟩ := hv
  refine gf_X6_179 C rfl g27 dX6_keep_73 ?_
  refine j_iconst (v := (1 : Int32)) C dX6_keep_76 (by decide) ?_
  refine j_iadd C dX6_keep_77 ?_
  refine pf_X6_179 C rfl g27 dX6_keep_78 ?_
  refine j_aload_n C dX6_keep_81 rfl ?_
  refine k_callV C 5 [] mv_X6_241 rfl rfl (fun l D dA sz hl => s_X6_isCarryDue (by omega) hv l D dA sz hl) rfl rfl (by decide) g27 rfl (by omega) (Nat.le_of_ble_eq_true rfl) (hlim _ _ (by omega) (by omega)) dX6_keep_82 (fun _ _ q => False.elim q) (fun v h28 hq => ?_)
  obtain ⟨v29, rfl, hv⟩ := qi_inv hq
  refine j_if_eq (tgt := 97) C dX6_keep_85 (by decide) ⟨fun q34 => ?_, fun q34 => ?_⟩
  · have hv := hv.1 q34
    exact j_sub (by exact (And.intro rfl trivial)) hv
  · have hv := hv.2 q34
    refine j_aload_n C dX6_keep_88 rfl ?_
    obtain ⟨g32, hv⟩ := hv
    refine k_callV C 5 [] mv_X6_245 rfl rfl (fun l D dA sz hl => s_X6_carryOver (by omega) hv l D dA sz hl) rfl rfl (by decide) g32 rfl (by omega) (Nat.le_of_ble_eq_true rfl) (hlim _ _ (by omega) (by omega)) dX6_keep_89 (fun _ _ q => False.elim q) (fun v h30 hq => ?_)
    obtain ⟨rfl, hv⟩ := qv_inv hq
    refine j_aload_n C dX6_keep_92 rfl ?_
    refine j_iconst (v := (0 : Int32)) C dX6_keep_93 (by decide) ?_
    obtain ⟨g33, hv⟩ := hv
    refine pf_X6_179 C rfl g33 dX6_keep_94 ?_
    exact j_sub (by exact (And.intro rfl trivial)) hv
def vc_X6_reachFromRoots (t : Nat) (x1 : Int32) (h : Hp) (Q : Option AV ⊕ String → Hp → Prop) : Prop :=
    ∀ (P9 : Int32 → Hp → Prop) (P54 : Int32 → Option Nat → Hp → Prop) (P71 : Int32 → Option Nat → Hp → Prop) (P79 : Int32 → Option Nat → Hp → Prop),
    (∀ (y2 : Int32) (h : Hp), (tg h t = 6 ∧ ∃ a8 : Nat, fR h 31 t = some a8 ∧ tg h a8 = 8 ∧ vp_in (7 : Int32) (ln h a8) ∧ (((aI h a8 7) ≤ y2 → vp_in (1 : Int32) (ln h a8) ∧ ∃ a13 : Nat, fR h 34 t = some a13 ∧ tg h a13 = 5 ∧ P54 (aI h a8 1) (fR h 23 a13) h) ∧ (¬ (aI h a8 7) ≤ y2 → ∃ a16 : Nat, fR h 29 t = some a16 ∧ tg h a16 = 11 ∧ vp_in y2 (ln h a16) ∧ ∃ a20 : Nat, fR h 34 t = some a20 ∧ tg h a20 = 5 ∧ vc_X5_comeTo a20 (aR h a16 y2.toNatClampNeg) h (qv (fun h22 => P9 (y2 + 1) h22) qn)))) → P9 y2 h) →
    (∀ (y2 : Int32) (u3 : Option Nat) (h : Hp), (((u3 = none → Q (.inl none) h) ∧ (∀ a26 : Nat, u3 = some a26 → ((y2 ≤ 0 → Q (.inl none) h) ∧ (¬ y2 ≤ 0 → tg h t = 6 ∧ thg h a26 ∧ ((tg h a26 = 2 → vc_X1_leadOn a26 (fR h 34 t) x1 h (qv (fun h29 => P71 y2 u3 h29) qn)) ∧ (tg h a26 = 3 → vc_X2_leadOn a26 (fR h 34 t) x1 h (qv (fun h29 => P71 y2 u3 h29) qn)) ∧ (tg h a26 = 4 → vc_X3_leadOn a26 (fR h 34 t) x1 h (qv (fun h29 => P71 y2 u3 h29) qn)))))))) → P54 y2 u3 h) →
    (∀ (y2 : Int32) (u3 : Option Nat) (h : Hp), (tg h t = 6 ∧ ∃ a34 : Nat, u3 = some a34 ∧ thg h a34 ∧ ((tg h a34 = 2 → vc_X4_leadOnAsKey a34 (fR h 34 t) h (qv (fun h36 => P79 y2 u3 h36) qn)) ∧ (tg h a34 = 3 → vc_X4_leadOnAsKey a34 (fR h 34 t) h (qv (fun h36 => P79 y2 u3 h36) qn)) ∧ (tg h a34 = 4 → vc_X4_leadOnAsKey a34 (fR h 34 t) h (qv (fun h36 => P79 y2 u3 h36) qn)))) → P71 y2 u3 h) →
    (∀ (y2 : Int32) (u3 : Option Nat) (h : Hp), (∃ a39 : Nat, u3 = some a39 ∧ thg h a39 ∧ P54 (y2 + (-1)) (fR h 6 a39) h) → P79 y2 u3 h) →
    tg h t = 6 ∧ ∃ a2 : Nat, fR h 34 t = some a2 ∧ tg h a2 = 5 ∧ vc_X5_begin a2 h (qv (fun h4 => P9 (0 : Int32) h4) qn)
set_option maxRecDepth 20000 in
theorem s_X6_reachFromRoots {t : Nat} {x1 : Int32} {h : Hp} {Q : Option AV ⊕ String → Hp → Prop} {lv : Nat} (hlv : lv + 3 ≤ 12) (hv : vc_X6_reachFromRoots t x1 h Q) (l : Launch) (D : va_G) (dA : Nat → ClassId) (sz : Nat) (hst : l.stackTraces = false) : Ctr l D dA sz (Cond.code yX6_reachFromRoots cX6_reachFromRoots 4 none) yX6_reachFromRoots lv [vr (some t), vi x1] h 0 0 Q := by
  refine Ctr.of (lo := [some (vr (some t)), some (vi x1), none, none]) hst (by decide) (by simp [ena, isL]) rfl ?_
  intro G hg hlim C
  unfold vc_X6_reachFromRoots at hv
  have hv := hv (fun y2 h => J G Q 9 [some (vr (some t)), some (vi x1), some (vi y2), none] [] h 0 0) (fun y2 u3 h => J G Q 54 [some (vr (some t)), some (vi x1), some (vi y2), some (vr u3)] [] h 0 0) (fun y2 u3 h => J G Q 71 [some (vr (some t)), some (vi x1), some (vi y2), some (vr u3)] [] h 0 0) (fun y2 u3 h => J G Q 79 [some (vr (some t)), some (vi x1), some (vi y2), some (vr u3)] [] h 0 0)
  have hv := hv (by
      intro y2 h hv
      refine j_iload_n C dX6_reachFromRoots_9 rfl ?_
      refine j_aload_n C dX6_reachFromRoots_10 rfl ?_
      obtain ⟨g7, hv⟩ := hv
      refine gf_X6_19 C rfl g7 dX6_reachFromRoots_11 ?_
      refine j_bipush (v := (7 : Int32)) C dX6_reachFromRoots_14 (by decide) ?_
      obtain ⟨a8, e9, hv⟩ := hv
      obtain ⟨g10, hv⟩ := hv
      obtain ⟨b11, hv⟩ := hv
      refine k_iald (j := 7) C e9 g10 b11 (by decide) dX6_reachFromRoots_16 ?_
      refine j_icmp_ge (tgt := 39) C dX6_reachFromRoots_17 (by decide) ⟨fun q25 => ?_, fun q25 => ?_⟩
      · have hv := hv.1 q25
        refine j_aload_n C dX6_reachFromRoots_39 rfl ?_
        refine gf_X6_19 C rfl g7 dX6_reachFromRoots_40 ?_
        refine j_iconst (v := (1 : Int32)) C dX6_reachFromRoots_43 (by decide) ?_
        obtain ⟨b12, hv⟩ := hv
        refine k_iald (j := 1) C e9 g10 b12 (by decide) dX6_reachFromRoots_44 ?_
        refine j_istore_n (lo' := [some (vr (some t)), some (vi x1), some (vi (aI h a8 1)), none]) C dX6_reachFromRoots_45 (Nat.le_of_ble_eq_true rfl) rfl ?_
        refine j_aload_n C dX6_reachFromRoots_46 rfl ?_
        refine gf_X6_35 C rfl g7 dX6_reachFromRoots_47 ?_
        obtain ⟨a13, e14, hv⟩ := hv
        obtain ⟨g15, hv⟩ := hv
        refine gf_X6_191 C e14 g15 dX6_reachFromRoots_50 ?_
        refine j_astore_n (lo' := [some (vr (some t)), some (vi x1), some (vi (aI h a8 1)), some (vr (fR h 23 a13))]) C dX6_reachFromRoots_53 (Nat.le_of_ble_eq_true rfl) rfl ?_
        exact j_sub (by exact (And.intro rfl (And.intro rfl (And.intro rfl (And.intro rfl trivial))))) hv
      · have hv := hv.2 q25
        refine j_aload_n C dX6_reachFromRoots_20 rfl ?_
        refine gf_X6_35 C rfl g7 dX6_reachFromRoots_21 ?_
        refine j_aload_n C dX6_reachFromRoots_24 rfl ?_
        refine gf_X6_11 C rfl g7 dX6_reachFromRoots_25 ?_
        refine j_iload_n C dX6_reachFromRoots_28 rfl ?_
        obtain ⟨a16, e17, hv⟩ := hv
        obtain ⟨g18, hv⟩ := hv
        obtain ⟨b19, hv⟩ := hv
        refine k_aald (j := y2.toNatClampNeg) C e17 g18 b19 rfl dX6_reachFromRoots_29 ?_
        obtain ⟨a20, e21, hv⟩ := hv
        obtain ⟨g24, hv⟩ := hv
        refine k_callV C 4 [vr (aR h a16 y2.toNatClampNeg)] mv_X6_187 e21 rfl (fun l D dA sz hl => s_X5_comeTo (by omega) hv l D dA sz hl) rfl rfl (by decide) g24 rfl (by omega) (Nat.le_of_ble_eq_true rfl) (hlim _ _ (by omega) (by omega)) dX6_reachFromRoots_30 (fun _ _ q => False.elim q) (fun v h22 hq => ?_)
        obtain ⟨rfl, hv⟩ := qv_inv hq
        refine j_iinc (v := y2 + 1) (lo' := [some (vr (some t)), some (vi x1), some (vi (y2 + 1)), none]) C dX6_reachFromRoots_33 rfl rfl rfl ?_
        refine j_goto (tgt := 9) C dX6_reachFromRoots_36 (by decide) ?_
        exact j_sub (by exact (And.intro rfl (And.intro rfl (And.intro rfl trivial)))) hv)
  have hv := hv (by
      intro y2 u3 h hv
      refine j_aload_n C dX6_reachFromRoots_54 rfl ?_
      refine j_ifnull (tgt := 90) C dX6_reachFromRoots_55 (by decide) ⟨fun e27 => ?_, fun a26 e27 => ?_⟩
      · have hv := hv.1 e27
        exact j_vret C dX6_reachFromRoots_90 (hlim _ _ (by omega) (by omega)) hv
      · have hv := hv.2 a26 e27
        refine j_iload_n C dX6_reachFromRoots_58 rfl ?_
        refine j_if_le (tgt := 90) C dX6_reachFromRoots_59 (by decide) ⟨fun q32 => ?_, fun q32 => ?_⟩
        · have hv := hv.1 q32
          exact j_vret C dX6_reachFromRoots_90 (hlim _ _ (by omega) (by omega)) hv
        · have hv := hv.2 q32
          refine j_aload_n C dX6_reachFromRoots_62 rfl ?_
          refine j_aload_n C dX6_reachFromRoots_63 rfl ?_
          obtain ⟨g28, hv⟩ := hv
          refine gf_X6_35 C rfl g28 dX6_reachFromRoots_64 ?_
          refine j_iload_n C dX6_reachFromRoots_67 rfl ?_
          obtain ⟨g31, hv⟩ := hv
          rcases g31 with gU | gU | gU
          · refine k_callU (q := (RX1, TX1, 10)) C 1 [vr (fR h 34 t), vi x1] mu_X6_264_X1 e27 rfl (fun l D dA sz hl => s_X1_leadOn (by omega) (hv.1 gU) l D dA sz hl) (fun _ _ q => q) rfl (by decide) gU rfl (by omega) (Nat.le_of_ble_eq_true rfl) (hlim _ _ (by omega) (by omega)) dX6_reachFromRoots_68 (fun v h29 hq => ?_)
            obtain ⟨rfl, hv⟩ := qv_inv hq
            exact j_sub (by exact (And.intro rfl (And.intro rfl (And.intro rfl (And.intro rfl trivial))))) hv
          · refine k_callU (q := (RX2, TX2, 11)) C 2 [vr (fR h 34 t), vi x1] mu_X6_264_X2 e27 rfl (fun l D dA sz hl => s_X2_leadOn (by omega) (hv.2.1 gU) l D dA sz hl) (fun _ _ q => q) rfl (by decide) gU rfl (by omega) (Nat.le_of_ble_eq_true rfl) (hlim _ _ (by omega) (by omega)) dX6_reachFromRoots_68 (fun v h29 hq => ?_)
            obtain ⟨rfl, hv⟩ := qv_inv hq
            exact j_sub (by exact (And.intro rfl (And.intro rfl (And.intro rfl (And.intro rfl trivial))))) hv
          · refine k_callU (q := (RX3, TX3, 14)) C 3 [vr (fR h 34 t), vi x1] mu_X6_264_X3 e27 rfl (fun l D dA sz hl => s_X3_leadOn (by omega) (hv.2.2 gU) l D dA sz hl) (fun _ _ q => q) rfl (by decide) gU rfl (by omega) (Nat.le_of_ble_eq_true rfl) (hlim _ _ (by omega) (by omega)) dX6_reachFromRoots_68 (fun v h29 hq => ?_)
            obtain ⟨rfl, hv⟩ := qv_inv hq
            exact j_sub (by exact (And.intro rfl (And.intro rfl (And.intro rfl (And.intro rfl trivial))))) hv)
  have hv := hv (by
      intro y2 u3 h hv
      refine j_aload_n C dX6_reachFromRoots_71 rfl ?_
      refine j_aload_n C dX6_reachFromRoots_72 rfl ?_
      obtain ⟨g33, hv⟩ := hv
      refine gf_X6_35 C rfl g33 dX6_reachFromRoots_73 ?_
      obtain ⟨a34, e35, hv⟩ := hv
      obtain ⟨g38, hv⟩ := hv
      rcases g38 with gU | gU | gU
      · refine k_callU (q := (RX1, TX1, 10)) C 1 [vr (fR h 34 t)] mu_X6_268_X1 e35 rfl (fun l D dA sz hl => s_X4_leadOnAsKey (by omega) (hv.1 gU) l D dA sz hl) (fun _ _ q => q) rfl (by decide) gU rfl (by omega) (Nat.le_of_ble_eq_true rfl) (hlim _ _ (by omega) (by omega)) dX6_reachFromRoots_76 (fun v h36 hq => ?_)
        obtain ⟨rfl, hv⟩ := qv_inv hq
        exact j_sub (by exact (And.intro rfl (And.intro rfl (And.intro rfl (And.intro rfl trivial))))) hv
      · refine k_callU (q := (RX2, TX2, 11)) C 2 [vr (fR h 34 t)] mu_X6_268_X2 e35 rfl (fun l D dA sz hl => s_X4_leadOnAsKey (by omega) (hv.2.1 gU) l D dA sz hl) (fun _ _ q => q) rfl (by decide) gU rfl (by omega) (Nat.le_of_ble_eq_true rfl) (hlim _ _ (by omega) (by omega)) dX6_reachFromRoots_76 (fun v h36 hq => ?_)
        obtain ⟨rfl, hv⟩ := qv_inv hq
        exact j_sub (by exact (And.intro rfl (And.intro rfl (And.intro rfl (And.intro rfl trivial))))) hv
      · refine k_callU (q := (RX3, TX3, 14)) C 3 [vr (fR h 34 t)] mu_X6_268_X3 e35 rfl (fun l D dA sz hl => s_X4_leadOnAsKey (by omega) (hv.2.2 gU) l D dA sz hl) (fun _ _ q => q) rfl (by decide) gU rfl (by omega) (Nat.le_of_ble_eq_true rfl) (hlim _ _ (by omega) (by omega)) dX6_reachFromRoots_76 (fun v h36 hq => ?_)
        obtain ⟨rfl, hv⟩ := qv_inv hq
        exact j_sub (by exact (And.intro rfl (And.intro rfl (And.intro rfl (And.intro rfl trivial))))) hv)
  have hv := hv (by
      intro y2 u3 h hv
      refine j_iinc (v := y2 + (-1)) (lo' := [some (vr (some t)), some (vi x1), some (vi (y2 + (-1))), some (vr u3)]) C dX6_reachFromRoots_79 rfl rfl rfl ?_
      refine j_aload_n C dX6_reachFromRoots_82 rfl ?_
      obtain ⟨a39, e40, hv⟩ := hv
      obtain ⟨g41, hv⟩ := hv
      refine gf_X6_202 C e40 g41 dX6_reachFromRoots_83 ?_
      refine j_astore_n (lo' := [some (vr (some t)), some (vi x1), some (vi (y2 + (-1))), some (vr (fR h 6 a39))]) C dX6_reachFromRoots_86 (Nat.le_of_ble_eq_true rfl) rfl ?_
      refine j_goto (tgt := 54) C dX6_reachFromRoots_87 (by decide) ?_
      exact j_sub (by exact (And.intro rfl (And.intro rfl (And.intro rfl (And.intro rfl trivial))))) hv)
  refine j_aload_n C dX6_reachFromRoots_0 rfl ?_
  obtain ⟨g1, hv⟩ := hv
  refine gf_X6_35 C rfl g1 dX6_reachFromRoots_1 ?_
  obtain ⟨a2, e3, hv⟩ := hv
  obtain ⟨g6, hv⟩ := hv
  refine k_callV C 4 [] mv_X6_184 e3 rfl (fun l D dA sz hl => s_X5_begin (by omega) hv l D dA sz hl) rfl rfl (by decide) g6 rfl (by omega) (Nat.le_of_ble_eq_true rfl) (hlim _ _ (by omega) (by omega)) dX6_reachFromRoots_4 (fun _ _ q => False.elim q) (fun v h4 hq => ?_)
  obtain ⟨rfl, hv⟩ := qv_inv hq
  refine j_iconst (v := (0 : Int32)) C dX6_reachFromRoots_7 (by decide) ?_
  refine j_istore_n (lo' := [some (vr (some t)), some (vi x1), some (vi (0 : Int32)), none]) C dX6_reachFromRoots_8 (Nat.le_of_ble_eq_true rfl) rfl ?_
  exact j_sub (by exact (And.intro rfl (And.intro rfl (And.intro rfl trivial)))) hv
def vc_X6_letGoOfUnreached (t : Nat) (h : Hp) (Q : Option AV ⊕ String → Hp → Prop) : Prop :=
    ∀ (P8 : Option Nat → Hp → Prop) (P66 : Option Nat → Hp → Prop),
    (∀ (u1 : Option Nat) (h : Hp), (((u1 = none → Q (.inl none) h) ∧ (∀ a5 : Nat, u1 = some a5 → (∀ b : Nat, u1 = some b → thg h b) ∧ ((∀ a8 : Nat, u1 = some a8 → tg h a8 = 4 → tg h t = 6 ∧ ∃ a13 : Nat, fR h 34 t = some a13 ∧ tg h a13 = 5 ∧ vc_X5_has a13 u1 h (qi (fun v16 h15 => ((v16 = 0 → P66 u1 h15) ∧ (¬ v16 = 0 → tg h15 t = 6 ∧ tg h15 a8 = 4 ∧ vc_X3_refersOutside a8 (fR h15 34 t) h15 (qi (fun v20 h19 => ((v20 = 0 → P66 u1 h19) ∧ (¬ v20 = 0 → tg h19 a8 = 4 ∧ vc_X3_forget a8 h19 (qv (fun h22 => tg h22 t = 6 ∧ ∃ a26 : Nat, fR h22 31 t = some a26 ∧ tg h22 a26 = 8 ∧ vp_in (5 : Int32) (ln h22 a26) ∧ vp_in (5 : Int32) (ln h22 a26) ∧ vc_X6_tellQueue t u1 (qI h22 a26 5 ((aI h22 a26 5) + (1 : Int32))) (qi (fun v32 h31 => P66 u1 h31) qn)) qn)))) qn)))) qn)) ∧ ((∀ b : Nat, u1 = some b → tg h b ≠ 4) → P66 u1 h))))) → P8 u1 h) →
    (∀ (u1 : Option Nat) (h : Hp), (∃ a35 : Nat, u1 = some a35 ∧ thg h a35 ∧ P8 (fR h 3 a35) h) → P66 u1 h) →
    tg h t = 6 ∧ ∃ a2 : Nat, fR h 33 t = some a2 ∧ tg h a2 = 1 ∧ P8 (fR h 19 a2) h
set_option maxRecDepth 20000 in
theorem s_X6_letGoOfUnreached {t : Nat} {h : Hp} {Q : Option AV ⊕ String → Hp → Prop} {lv : Nat} (hlv : lv + 2 ≤ 12) (hv : vc_X6_letGoOfUnreached t h Q) (l : Launch) (D : va_G) (dA : Nat → ClassId) (sz : Nat) (hst : l.stackTraces = false) : Ctr l D dA sz (Cond.code yX6_letGoOfUnreached cX6_letGoOfUnreached 3 none) yX6_letGoOfUnreached lv [vr (some t)] h 0 0 Q := by
  refine Ctr.of (lo := [some (vr (some t)), none, none]) hst (by decide) (by simp [ena, isL]) rfl ?_
  intro G hg hlim C
  unfold vc_X6_letGoOfUnreached at hv
  have hv := hv (fun u1 h => J G Q 8 [some (vr (some t)), some (vr u1), none] [] h 0 0) (fun u1 h => J G Q 66 [some (vr (some t)), some (vr u1), none] [] h 0 0)
  have hv := hv (by
      intro u1 h hv
      refine j_aload_n C dX6_letGoOfUnreached_8 rfl ?_
      refine j_ifnull (tgt := 74) C dX6_letGoOfUnreached_9 (by decide) ⟨fun e6 => ?_, fun a5 e6 => ?_⟩
      · have hv := hv.1 e6
        exact j_vret C dX6_letGoOfUnreached_74 (hlim _ _ (by omega) (by omega)) hv
      · have hv := hv.2 a5 e6
        refine j_aload_n C dX6_letGoOfUnreached_12 rfl ?_
        obtain ⟨z7, hv⟩ := hv
        refine k_inst C (ci := 3) (Or.inr (Or.inr ⟨rfl, rfl⟩)) wn_959 wg_172 z7 dX6_letGoOfUnreached_13 (fun a8 e9 g10 => ?_) (fun q11 => ?_)
        · have hv := hv.1 a8 e9 g10
          refine j_if_eq (tgt := 66) C dX6_letGoOfUnreached_16 (by decide) ⟨fun q => absurd q (by decide), fun _ => ?_⟩
          refine j_aload_n C dX6_letGoOfUnreached_19 rfl ?_
          refine k_cast C (ci := 3) e9 (Or.inr (Or.inr ⟨rfl, rfl⟩)) wn_959 wg_172 g10 dX6_letGoOfUnreached_20 ?_
          refine j_astore_n (lo' := [some (vr (some t)), some (vr u1), some (vr u1)]) C dX6_letGoOfUnreached_23 (Nat.le_of_ble_eq_true rfl) rfl ?_
          refine j_aload_n C dX6_letGoOfUnreached_24 rfl ?_
          obtain ⟨g12, hv⟩ := hv
          refine gf_X6_35 C rfl g12 dX6_letGoOfUnreached_25 ?_
          refine j_aload_n C dX6_letGoOfUnreached_28 rfl ?_
          obtain ⟨a13, e14, hv⟩ := hv
          obtain ⟨g17, hv⟩ := hv
          refine k_callV C 4 [vr u1] mv_X6_273 e14 rfl (fun l D dA sz hl => s_X5_has (by omega) hv l D dA sz hl) rfl rfl (by decide) g17 rfl (by omega) (Nat.le_of_ble_eq_true rfl) (hlim _ _ (by omega) (by omega)) dX6_letGoOfUnreached_29 (fun _ _ q => False.elim q) (fun v h15 hq => ?_)
          obtain ⟨v16, rfl, hv⟩ := qi_inv hq
          refine j_if_eq (tgt := 66) C dX6_letGoOfUnreached_32 (by decide) ⟨fun q34 => ?_, fun q34 => ?_⟩
          · have hv := hv.1 q34
            exact j_sub (by exact (And.intro rfl (And.intro rfl trivial))) hv
          · have hv := hv.2 q34
            refine j_aload_n C dX6_letGoOfUnreached_35 rfl ?_
            refine j_aload_n C dX6_letGoOfUnreached_36 rfl ?_
            obtain ⟨g18, hv⟩ := hv
            refine gf_X6_35 C rfl g18 dX6_letGoOfUnreached_37 ?_
            obtain ⟨g21, hv⟩ := hv
            refine k_callV C 3 [vr (fR h15 34 t)] mv_X6_277 e9 rfl (fun l D dA sz hl => s_X3_refersOutside (by omega) hv l D dA sz hl) rfl rfl (by decide) g21 rfl (by omega) (Nat.le_of_ble_eq_true rfl) (hlim _ _ (by omega) (by omega)) dX6_letGoOfUnreached_40 (fun _ _ q => False.elim q) (fun v h19 hq => ?_)
            obtain ⟨v20, rfl, hv⟩ := qi_inv hq
            refine j_if_eq (tgt := 66) C dX6_letGoOfUnreached_43 (by decide) ⟨fun q33 => ?_, fun q33 => ?_⟩
            · have hv := hv.1 q33
              exact j_sub (by exact (And.intro rfl (And.intro rfl trivial))) hv
            · have hv := hv.2 q33
              refine j_aload_n C dX6_letGoOfUnreached_46 rfl ?_
              obtain ⟨g24, hv⟩ := hv
              refine k_callV C 3 [] mv_X6_139 e9 rfl (fun l D dA sz hl => s_X3_forget (by omega) hv l D dA sz hl) rfl rfl (by decide) g24 rfl (by omega) (Nat.le_of_ble_eq_true rfl) (hlim _ _ (by omega) (by omega)) dX6_letGoOfUnreached_47 (fun _ _ q => False.elim q) (fun v h22 hq => ?_)
              obtain ⟨rfl, hv⟩ := qv_inv hq
              refine j_aload_n C dX6_letGoOfUnreached_50 rfl ?_
              obtain ⟨g25, hv⟩ := hv
              refine gf_X6_19 C rfl g25 dX6_letGoOfUnreached_51 ?_
              refine j_iconst (v := (5 : Int32)) C dX6_letGoOfUnreached_54 (by decide) ?_
              refine j_dup2 C dX6_letGoOfUnreached_55 rfl rfl ?_
              obtain ⟨a26, e27, hv⟩ := hv
              obtain ⟨g28, hv⟩ := hv
              obtain ⟨b29, hv⟩ := hv
              refine k_iald (j := 5) C e27 g28 b29 (by decide) dX6_letGoOfUnreached_56 ?_
              refine j_iconst (v := (1 : Int32)) C dX6_letGoOfUnreached_57 (by decide) ?_
              refine j_iadd C dX6_letGoOfUnreached_58 ?_
              obtain ⟨b30, hv⟩ := hv
              refine k_iast (j := 5) C e27 g28 b30 (by decide) dX6_letGoOfUnreached_59 ?_
              refine j_aload_n C dX6_letGoOfUnreached_60 rfl ?_
              refine j_aload_n C dX6_letGoOfUnreached_61 rfl ?_
              refine k_callV C 5 [vr u1] mv_X6_142 rfl rfl (fun l D dA sz hl => s_X6_tellQueue (by omega) hv l D dA sz hl) rfl rfl (by decide) g25 rfl (by omega) (Nat.le_of_ble_eq_true rfl) (hlim _ _ (by omega) (by omega)) dX6_letGoOfUnreached_62 (fun _ _ q => False.elim q) (fun v h31 hq => ?_)
              obtain ⟨v32, rfl, hv⟩ := qi_inv hq
              refine j_pop C dX6_letGoOfUnreached_65 rfl ?_
              exact j_sub (by exact (And.intro rfl (And.intro rfl trivial))) hv
        · have hv := hv.2 q11
          refine j_if_eq (tgt := 66) C dX6_letGoOfUnreached_16 (by decide) ⟨fun _ => ?_, fun q => absurd q (by decide)⟩
          exact j_sub (by exact (And.intro rfl (And.intro rfl trivial))) hv)
  have hv := hv (by
      intro u1 h hv
      refine j_aload_n C dX6_letGoOfUnreached_66 rfl ?_
      obtain ⟨a35, e36, hv⟩ := hv
      obtain ⟨g37, hv⟩ := hv
      refine gf_X6_281 C e36 g37 dX6_letGoOfUnreached_67 ?_
      refine j_astore_n (lo' := [some (vr (some t)), some (vr (fR h 3 a35)), none]) C dX6_letGoOfUnreached_70 (Nat.le_of_ble_eq_true rfl) rfl ?_
      refine j_goto (tgt := 8) C dX6_letGoOfUnreached_71 (by decide) ?_
      exact j_sub (by exact (And.intro rfl (And.intro rfl trivial))) hv)
  refine j_aload_n C dX6_letGoOfUnreached_0 rfl ?_
  obtain ⟨g1, hv⟩ := hv
  refine gf_X6_29 C rfl g1 dX6_letGoOfUnreached_1 ?_
  obtain ⟨a2, e3, hv⟩ := hv
  obtain ⟨g4, hv⟩ := hv
  refine gf_X6_272 C e3 g4 dX6_letGoOfUnreached_4 ?_
  refine j_astore_n (lo' := [some (vr (some t)), some (vr (fR h 19 a2)), none]) C dX6_letGoOfUnreached_7 (Nat.le_of_ble_eq_true rfl) rfl ?_
  exact j_sub (by exact (And.intro rfl (And.intro rfl trivial))) hv
def vc_X6_freeUnreached (t : Nat) (h : Hp) (Q : Option AV ⊕ String → Hp → Prop) : Prop :=
    ∀ (P22 : Int32 → Option Nat → Hp → Prop) (P50 : Int32 → Option Nat → Hp → Prop),
    (∀ (y1 : Int32) (u2 : Option Nat) (h : Hp), (((u2 = none → tg h t = 6 ∧ ∃ a14 : Nat, fR h 33 t = some a14 ∧ tg h a14 = 1 ∧ ∃ a17 : Nat, fR h 31 t = some a17 ∧ tg h a17 = 8 ∧ vp_in (1 : Int32) (ln h a17) ∧ vp_in (0 : Int32) (ln h a17) ∧ Q (.inl (some (vi (y1 - (fI h 22 a14))))) (qI (qI h a17 1 (fI h 21 a14)) a17 0 (fI h 22 a14))) ∧ (∀ a11 : Nat, u2 = some a11 → thg h a11 ∧ tg h t = 6 ∧ ∃ a24 : Nat, fR h 34 t = some a24 ∧ tg h a24 = 5 ∧ vc_X5_has a24 u2 h (qi (fun v27 h26 => ((v27 = 0 → P50 y1 (fR h 3 a11) h26) ∧ (¬ v27 = 0 → tg h26 t = 6 ∧ ∃ a30 : Nat, fR h26 33 t = some a30 ∧ tg h26 a30 = 1 ∧ vc_X0_add a30 u2 h26 (qv (fun h32 => P50 y1 (fR h 3 a11) h32) qn)))) qn)))) → P22 y1 u2 h) →
    (∀ (y1 : Int32) (u3 : Option Nat) (h : Hp), (P22 y1 u3 h) → P50 y1 u3 h) →
    tg h t = 6 ∧ ∃ a2 : Nat, fR h 31 t = some a2 ∧ tg h a2 = 8 ∧ vp_in (0 : Int32) (ln h a2) ∧ ∃ a6 : Nat, fR h 33 t = some a6 ∧ tg h a6 = 1 ∧ vc_X0_empty a6 h (qv (fun h9 => P22 (aI h a2 0) (fR h 19 a6) h9) qn)
set_option maxRecDepth 20000 in
theorem s_X6_freeUnreached {t : Nat} {h : Hp} {Q : Option AV ⊕ String → Hp → Prop} {lv : Nat} (hlv : lv + 1 ≤ 12) (hv : vc_X6_freeUnreached t h Q) (l : Launch) (D : va_G) (dA : Nat → ClassId) (sz : Nat) (hst : l.stackTraces = false) : Ctr l D dA sz (Cond.code yX6_freeUnreached cX6_freeUnreached 4 (some .int)) yX6_freeUnreached lv [vr (some t)] h 0 0 Q := by
  refine Ctr.of (lo := [some (vr (some t)), none, none, none]) hst (by decide) (by simp [ena, isL]) rfl ?_
  intro G hg hlim C
  unfold vc_X6_freeUnreached at hv
  have hv := hv (fun y1 u2 h => J G Q 22 [some (vr (some t)), some (vi y1), some (vr u2), none] [] h 0 0) (fun y1 u3 h => J G Q 50 [some (vr (some t)), some (vi y1), none, some (vr u3)] [] h 0 0)
  have hv := hv (by
      intro y1 u2 h hv
      refine j_aload_n C dX6_freeUnreached_22 rfl ?_
      refine j_ifnull (tgt := 55) C dX6_freeUnreached_23 (by decide) ⟨fun e12 => ?_, fun a11 e12 => ?_⟩
      · have hv := hv.1 e12
        refine j_aload_n C dX6_freeUnreached_55 rfl ?_
        obtain ⟨g13, hv⟩ := hv
        refine gf_X6_19 C rfl g13 dX6_freeUnreached_56 ?_
        refine j_iconst (v := (1 : Int32)) C dX6_freeUnreached_59 (by decide) ?_
        refine j_aload_n C dX6_freeUnreached_60 rfl ?_
        refine gf_X6_29 C rfl g13 dX6_freeUnreached_61 ?_
        obtain ⟨a14, e15, hv⟩ := hv
        obtain ⟨g16, hv⟩ := hv
        refine gf_X6_287 C e15 g16 dX6_freeUnreached_64 ?_
        obtain ⟨a17, e18, hv⟩ := hv
        obtain ⟨g19, hv⟩ := hv
        obtain ⟨b20, hv⟩ := hv
        refine k_iast (j := 1) C e18 g19 b20 (by decide) dX6_freeUnreached_67 ?_
        refine j_aload_n C dX6_freeUnreached_68 rfl ?_
        refine gf_X6_19 C rfl g13 dX6_freeUnreached_69 ?_
        refine j_iconst (v := (0 : Int32)) C dX6_freeUnreached_72 (by decide) ?_
        refine j_aload_n C dX6_freeUnreached_73 rfl ?_
        refine gf_X6_29 C rfl g13 dX6_freeUnreached_74 ?_
        refine gf_X6_248 C e15 g16 dX6_freeUnreached_77 ?_
        obtain ⟨b21, hv⟩ := hv
        refine k_iast (j := 0) C e18 g19 b21 (by decide) dX6_freeUnreached_80 ?_
        refine j_iload_n C dX6_freeUnreached_81 rfl ?_
        refine j_aload_n C dX6_freeUnreached_82 rfl ?_
        refine gf_X6_29 C rfl g13 dX6_freeUnreached_83 ?_
        refine gf_X6_248 C e15 g16 dX6_freeUnreached_86 ?_
        refine j_isub C dX6_freeUnreached_89 ?_
        exact j_iret C dX6_freeUnreached_90 (hlim _ _ (by omega) (by omega)) hv
      · have hv := hv.2 a11 e12
        refine j_aload_n C dX6_freeUnreached_26 rfl ?_
        obtain ⟨g22, hv⟩ := hv
        refine gf_X6_281 C e12 g22 dX6_freeUnreached_27 ?_
        refine j_astore_n (lo' := [some (vr (some t)), some (vi y1), some (vr u2), some (vr (fR h 3 a11))]) C dX6_freeUnreached_30 (Nat.le_of_ble_eq_true rfl) rfl ?_
        refine j_aload_n C dX6_freeUnreached_31 rfl ?_
        obtain ⟨g23, hv⟩ := hv
        refine gf_X6_35 C rfl g23 dX6_freeUnreached_32 ?_
        refine j_aload_n C dX6_freeUnreached_35 rfl ?_
        obtain ⟨a24, e25, hv⟩ := hv
        obtain ⟨g28, hv⟩ := hv
        refine k_callV C 4 [vr u2] mv_X6_273 e25 rfl (fun l D dA sz hl => s_X5_has (by omega) hv l D dA sz hl) rfl rfl (by decide) g28 rfl (by omega) (Nat.le_of_ble_eq_true rfl) (hlim _ _ (by omega) (by omega)) dX6_freeUnreached_36 (fun _ _ q => False.elim q) (fun v h26 hq => ?_)
        obtain ⟨v27, rfl, hv⟩ := qi_inv hq
        refine j_if_eq (tgt := 50) C dX6_freeUnreached_39 (by decide) ⟨fun q35 => ?_, fun q35 => ?_⟩
        · have hv := hv.1 q35
          exact j_sub (by exact (And.intro rfl (And.intro rfl (And.intro rfl trivial)))) hv
        · have hv := hv.2 q35
          refine j_aload_n C dX6_freeUnreached_42 rfl ?_
          obtain ⟨g29, hv⟩ := hv
          refine gf_X6_29 C rfl g29 dX6_freeUnreached_43 ?_
          refine j_aload_n C dX6_freeUnreached_46 rfl ?_
          obtain ⟨a30, e31, hv⟩ := hv
          obtain ⟨g34, hv⟩ := hv
          refine k_callV C 0 [vr u2] mv_X6_238 e31 rfl (fun l D dA sz hl => s_X0_add (by omega) hv l D dA sz hl) rfl rfl (by decide) g34 rfl (by omega) (Nat.le_of_ble_eq_true rfl) (hlim _ _ (by omega) (by omega)) dX6_freeUnreached_47 (fun _ _ q => False.elim q) (fun v h32 hq => ?_)
          obtain ⟨rfl, hv⟩ := qv_inv hq
          exact j_sub (by exact (And.intro rfl (And.intro rfl (And.intro rfl trivial)))) hv)
  have hv := hv (by
      intro y1 u3 h hv
      refine j_aload_n C dX6_freeUnreached_50 rfl ?_
      refine j_astore_n (lo' := [some (vr (some t)), some (vi y1), some (vr u3), some (vr u3)]) C dX6_freeUnreached_51 (Nat.le_of_ble_eq_true rfl) rfl ?_
      refine j_goto (tgt := 22) C dX6_freeUnreached_52 (by decide) ?_
      exact j_sub (by exact (And.intro rfl (And.intro rfl (And.intro rfl trivial)))) hv)
  refine j_aload_n C dX6_freeUnreached_0 rfl ?_
  obtain ⟨g1, hv⟩ := hv
  refine gf_X6_19 C rfl g1 dX6_freeUnreached_1 ?_
  refine j_iconst (v := (0 : Int32)) C dX6_freeUnreached_4 (by decide) ?_
  obtain ⟨a2, e3, hv⟩ := hv
  obtain ⟨g4, hv⟩ := hv
  obtain ⟨b5, hv⟩ := hv
  refine k_iald (j := 0) C e3 g4 b5 (by decide) dX6_freeUnreached_5 ?_
  refine j_istore_n (lo' := [some (vr (some t)), some (vi (aI h a2 0)), none, none]) C dX6_freeUnreached_6 (Nat.le_of_ble_eq_true rfl) rfl ?_
  refine j_aload_n C dX6_freeUnreached_7 rfl ?_
  refine gf_X6_29 C rfl g1 dX6_freeUnreached_8 ?_
  obtain ⟨a6, e7, hv⟩ := hv
  obtain ⟨g8, hv⟩ := hv
  refine gf_X6_272 C e7 g8 dX6_freeUnreached_11 ?_
  refine j_astore_n (lo' := [some (vr (some t)), some (vi (aI h a2 0)), some (vr (fR h 19 a6)), none]) C dX6_freeUnreached_14 (Nat.le_of_ble_eq_true rfl) rfl ?_
  refine j_aload_n C dX6_freeUnreached_15 rfl ?_
  refine gf_X6_29 C rfl g1 dX6_freeUnreached_16 ?_
  refine k_callV C 0 [] mv_X6_284 e7 rfl (fun l D dA sz hl => s_X0_empty (by omega) hv l D dA sz hl) rfl rfl (by decide) g8 rfl (by omega) (Nat.le_of_ble_eq_true rfl) (hlim _ _ (by omega) (by omega)) dX6_freeUnreached_19 (fun _ _ q => False.elim q) (fun v h9 hq => ?_)
  obtain ⟨rfl, hv⟩ := qv_inv hq
  exact j_sub (by exact (And.intro rfl (And.intro rfl (And.intro rfl trivial)))) hv
def vc_X6_collectWhole (t : Nat) (x1 : Int32) (h : Hp) (Q : Option AV ⊕ String → Hp → Prop) : Prop :=
    tg h t = 6 ∧ ∃ a2 : Nat, fR h 31 t = some a2 ∧ tg h a2 = 8 ∧ vp_in (3 : Int32) (ln h a2) ∧ vp_in (3 : Int32) (ln h a2) ∧ vc_X6_carryOver t (qI h a2 3 ((aI h a2 3) + (1 : Int32))) (qv (fun h7 => tg h7 t = 6 ∧ vc_X6_reachFromRoots t x1 h7 (qv (fun h9 => tg h9 t = 6 ∧ vc_X6_letGoOfUnreached t h9 (qv (fun h12 => tg h12 t = 6 ∧ vc_X6_freeUnreached t h12 (qi (fun v16 h15 => Q (.inl (some (vi v16))) h15) qn)) qn)) qn)) qn)
set_option maxRecDepth 20000 in
theorem s_X6_collectWhole {t : Nat} {x1 : Int32} {h : Hp} {Q : Option AV ⊕ String → Hp → Prop} {lv : Nat} (hlv : lv + 4 ≤ 12) (hv : vc_X6_collectWhole t x1 h Q) (l : Launch) (D : va_G) (dA : Nat → ClassId) (sz : Nat) (hst : l.stackTraces = false) : Ctr l D dA sz (Cond.code yX6_collectWhole cX6_collectWhole 2 (some .int)) yX6_collectWhole lv [vr (some t), vi x1] h 0 0 Q := by
  refine Ctr.of (lo := [some (vr (some t)), some (vi x1)]) hst (by decide) (by simp [ena, isL]) rfl ?_
  intro G hg hlim C
  unfold vc_X6_collectWhole at hv
  refine j_aload_n C dX6_collectWhole_0 rfl ?_
  obtain ⟨g1, hv⟩ := hv
  refine gf_X6_19 C rfl g1 dX6_collectWhole_1 ?_
  refine j_iconst (v := (3 : Int32)) C dX6_collectWhole_4 (by decide) ?_
  refine j_dup2 C dX6_collectWhole_5 rfl rfl ?_
  obtain ⟨a2, e3, hv⟩ := hv
  obtain ⟨g4, hv⟩ := hv
  obtain ⟨b5, hv⟩ := hv
  refine k_iald (j := 3) C e3 g4 b5 (by decide) dX6_collectWhole_6 ?_
  refine j_iconst (v := (1 : Int32)) C dX6_collectWhole_7 (by decide) ?_
  refine j_iadd C dX6_collectWhole_8 ?_
  obtain ⟨b6, hv⟩ := hv
  refine k_iast (j := 3) C e3 g4 b6 (by decide) dX6_collectWhole_9 ?_
  refine j_aload_n C dX6_collectWhole_10 rfl ?_
  refine k_callV C 5 [] mv_X6_245 rfl rfl (fun l D dA sz hl => s_X6_carryOver (by omega) hv l D dA sz hl) rfl rfl (by decide) g1 rfl (by omega) (Nat.le_of_ble_eq_true rfl) (hlim _ _ (by omega) (by omega)) dX6_collectWhole_11 (fun _ _ q => False.elim q) (fun v h7 hq => ?_)
  obtain ⟨rfl, hv⟩ := qv_inv hq
  refine j_aload_n C dX6_collectWhole_14 rfl ?_
  refine j_iload_n C dX6_collectWhole_15 rfl ?_
  obtain ⟨g11, hv⟩ := hv
  refine k_callV C 5 [vi x1] mv_X6_253 rfl rfl (fun l D dA sz hl => s_X6_reachFromRoots (by omega) hv l D dA sz hl) rfl rfl (by decide) g11 rfl (by omega) (Nat.le_of_ble_eq_true rfl) (hlim _ _ (by omega) (by omega)) dX6_collectWhole_16 (fun _ _ q => False.elim q) (fun v h9 hq => ?_)
  obtain ⟨rfl, hv⟩ := qv_inv hq
  refine j_aload_n C dX6_collectWhole_19 rfl ?_
  obtain ⟨g14, hv⟩ := hv
  refine k_callV C 5 [] mv_X6_257 rfl rfl (fun l D dA sz hl => s_X6_letGoOfUnreached (by omega) hv l D dA sz hl) rfl rfl (by decide) g14 rfl (by omega) (Nat.le_of_ble_eq_true rfl) (hlim _ _ (by omega) (by omega)) dX6_collectWhole_20 (fun _ _ q => False.elim q) (fun v h12 hq => ?_)
  obtain ⟨rfl, hv⟩ := qv_inv hq
  refine j_aload_n C dX6_collectWhole_23 rfl ?_
  obtain ⟨g17, hv⟩ := hv
  refine k_callV C 5 [] mv_X6_260 rfl rfl (fun l D dA sz hl => s_X6_freeUnreached (by omega) hv l D dA sz hl) rfl rfl (by decide) g17 rfl (by omega) (Nat.le_of_ble_eq_true rfl) (hlim _ _ (by omega) (by omega)) dX6_collectWhole_24 (fun _ _ q => False.elim q) (fun v h15 hq => ?_)
  obtain ⟨v16, rfl, hv⟩ := qi_inv hq
  exact j_iret C dX6_collectWhole_27 (hlim _ _ (by omega) (by omega)) hv
def vc_X6_makeRoom (t : Nat) (x1 : Int32) (h : Hp) (Q : Option AV ⊕ String → Hp → Prop) : Prop :=
    ∀ (P14 : Hp → Prop) (P28 : Hp → Prop),
    (∀  (h : Hp), (tg h t = 6 ∧ vc_X6_fits t x1 h (qi (fun v9 h8 => ((¬ v9 = 0 → P28 h8) ∧ (v9 = 0 → tg h8 t = 6 ∧ vc_X6_collectWhole t (1 : Int32) h8 (qi (fun v12 h11 => P28 h11) qn)))) qn)) → P14 h) →
    (∀  (h : Hp), (tg h t = 6 ∧ vc_X6_fits t x1 h (qi (fun v16 h15 => ((¬ v16 = 0 → Q (.inl (some (vi (1 : Int32)))) h15) ∧ (v16 = 0 → tg h15 t = 6 ∧ ∃ a19 : Nat, fR h15 31 t = some a19 ∧ tg h15 a19 = 8 ∧ vp_in (9 : Int32) (ln h15 a19) ∧ vp_in (9 : Int32) (ln h15 a19) ∧ Q (.inl (some (vi (0 : Int32)))) (qI h15 a19 9 ((aI h15 a19 9) + (1 : Int32)))))) qn)) → P28 h) →
    tg h t = 6 ∧ vc_X6_fits t x1 h (qi (fun v2 h1 => ((¬ v2 = 0 → P14 h1) ∧ (v2 = 0 → tg h1 t = 6 ∧ vc_X6_collectWhole t (0 : Int32) h1 (qi (fun v5 h4 => P14 h4) qn)))) qn)
set_option maxRecDepth 20000 in
theorem s_X6_makeRoom {t : Nat} {x1 : Int32} {h : Hp} {Q : Option AV ⊕ String → Hp → Prop} {lv : Nat} (hlv : lv + 5 ≤ 12) (hv : vc_X6_makeRoom t x1 h Q) (l : Launch) (D : va_G) (dA : Nat → ClassId) (sz : Nat) (hst : l.stackTraces = false) : Ctr l D dA sz (Cond.code yX6_makeRoom cX6_makeRoom 2 (some .boolean)) yX6_makeRoom lv [vr (some t), vi x1] h 0 0 Q := by
  refine Ctr.of (lo := [some (vr (some t)), some (vi x1)]) hst (by decide) (by simp [ena, isL]) rfl ?_
  intro G hg hlim C
  unfold vc_X6_makeRoom at hv
  have hv := hv (fun  h => J G Q 14 [some (vr (some t)), some (vi x1)] [] h 0 0) (fun  h => J G Q 28 [some (vr (some t)), some (vi x1)] [] h 0 0)
  have hv := hv (by
      intro  h hv
      refine j_aload_n C dX6_makeRoom_14 rfl ?_
      refine j_iload_n C dX6_makeRoom_15 rfl ?_
      obtain ⟨g10, hv⟩ := hv
      refine k_callV C 5 [vi x1] mv_X6_232 rfl rfl (fun l D dA sz hl => s_X6_fits (by omega) hv l D dA sz hl) rfl rfl (by decide) g10 rfl (by omega) (Nat.le_of_ble_eq_true rfl) (hlim _ _ (by omega) (by omega)) dX6_makeRoom_16 (fun _ _ q => False.elim q) (fun v h8 hq => ?_)
      obtain ⟨v9, rfl, hv⟩ := qi_inv hq
      refine j_if_ne (tgt := 28) C dX6_makeRoom_19 (by decide) ⟨fun q14 => ?_, fun q14 => ?_⟩
      · have hv := hv.1 q14
        exact j_sub (by exact (And.intro rfl (And.intro rfl trivial))) hv
      · have hv := hv.2 q14
        refine j_aload_n C dX6_makeRoom_22 rfl ?_
        refine j_iconst (v := (1 : Int32)) C dX6_makeRoom_23 (by decide) ?_
        obtain ⟨g13, hv⟩ := hv
        refine k_callV C 5 [vi (1 : Int32)] mv_X6_172 rfl rfl (fun l D dA sz hl => s_X6_collectWhole (by omega) hv l D dA sz hl) rfl rfl (by decide) g13 rfl (by omega) (Nat.le_of_ble_eq_true rfl) (hlim _ _ (by omega) (by omega)) dX6_makeRoom_24 (fun _ _ q => False.elim q) (fun v h11 hq => ?_)
        obtain ⟨v12, rfl, hv⟩ := qi_inv hq
        refine j_pop C dX6_makeRoom_27 rfl ?_
        exact j_sub (by exact (And.intro rfl (And.intro rfl trivial))) hv)
  have hv := hv (by
      intro  h hv
      refine j_aload_n C dX6_makeRoom_28 rfl ?_
      refine j_iload_n C dX6_makeRoom_29 rfl ?_
      obtain ⟨g17, hv⟩ := hv
      refine k_callV C 5 [vi x1] mv_X6_232 rfl rfl (fun l D dA sz hl => s_X6_fits (by omega) hv l D dA sz hl) rfl rfl (by decide) g17 rfl (by omega) (Nat.le_of_ble_eq_true rfl) (hlim _ _ (by omega) (by omega)) dX6_makeRoom_30 (fun _ _ q => False.elim q) (fun v h15 hq => ?_)
      obtain ⟨v16, rfl, hv⟩ := qi_inv hq
      refine j_if_ne (tgt := 49) C dX6_makeRoom_33 (by decide) ⟨fun q24 => ?_, fun q24 => ?_⟩
      · have hv := hv.1 q24
        refine j_iconst (v := (1 : Int32)) C dX6_makeRoom_49 (by decide) ?_
        exact j_zret C (Or.inr rfl) dX6_makeRoom_50 (hlim _ _ (by omega) (by omega)) hv
      · have hv := hv.2 q24
        refine j_aload_n C dX6_makeRoom_36 rfl ?_
        obtain ⟨g18, hv⟩ := hv
        refine gf_X6_19 C rfl g18 dX6_makeRoom_37 ?_
        refine j_bipush (v := (9 : Int32)) C dX6_makeRoom_40 (by decide) ?_
        refine j_dup2 C dX6_makeRoom_42 rfl rfl ?_
        obtain ⟨a19, e20, hv⟩ := hv
        obtain ⟨g21, hv⟩ := hv
        obtain ⟨b22, hv⟩ := hv
        refine k_iald (j := 9) C e20 g21 b22 (by decide) dX6_makeRoom_43 ?_
        refine j_iconst (v := (1 : Int32)) C dX6_makeRoom_44 (by decide) ?_
        refine j_iadd C dX6_makeRoom_45 ?_
        obtain ⟨b23, hv⟩ := hv
        refine k_iast (j := 9) C e20 g21 b23 (by decide) dX6_makeRoom_46 ?_
        refine j_iconst (v := (0 : Int32)) C dX6_makeRoom_47 (by decide) ?_
        exact j_zret C (Or.inl rfl) dX6_makeRoom_48 (hlim _ _ (by omega) (by omega)) hv)
  refine j_aload_n C dX6_makeRoom_0 rfl ?_
  refine j_iload_n C dX6_makeRoom_1 rfl ?_
  obtain ⟨g3, hv⟩ := hv
  refine k_callV C 5 [vi x1] mv_X6_232 rfl rfl (fun l D dA sz hl => s_X6_fits (by omega) hv l D dA sz hl) rfl rfl (by decide) g3 rfl (by omega) (Nat.le_of_ble_eq_true rfl) (hlim _ _ (by omega) (by omega)) dX6_makeRoom_2 (fun _ _ q => False.elim q) (fun v h1 hq => ?_)
  obtain ⟨v2, rfl, hv⟩ := qi_inv hq
  refine j_if_ne (tgt := 14) C dX6_makeRoom_5 (by decide) ⟨fun q7 => ?_, fun q7 => ?_⟩
  · have hv := hv.1 q7
    exact j_sub (by exact (And.intro rfl (And.intro rfl trivial))) hv
  · have hv := hv.2 q7
    refine j_aload_n C dX6_makeRoom_8 rfl ?_
    refine j_iconst (v := (0 : Int32)) C dX6_makeRoom_9 (by decide) ?_
    obtain ⟨g6, hv⟩ := hv
    refine k_callV C 5 [vi (0 : Int32)] mv_X6_172 rfl rfl (fun l D dA sz hl => s_X6_collectWhole (by omega) hv l D dA sz hl) rfl rfl (by decide) g6 rfl (by omega) (Nat.le_of_ble_eq_true rfl) (hlim _ _ (by omega) (by omega)) dX6_makeRoom_10 (fun _ _ q => False.elim q) (fun v h4 hq => ?_)
    obtain ⟨v5, rfl, hv⟩ := qi_inv hq
    refine j_pop C dX6_makeRoom_13 rfl ?_
    exact j_sub (by exact (And.intro rfl (And.intro rfl trivial))) hv
