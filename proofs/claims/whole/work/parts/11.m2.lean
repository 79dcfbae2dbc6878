/-! The conditions of methods, and their walks (m2). -/
def vc_X6_init (t : Nat) (x1 : Int32) (x2 : Int32) (h : Hp) (Q : Option AV ⊕ String → Hp → Prop) : Prop :=
    (∀ a1 : Nat, tg h a1 = 0 → tg (nA h a1 11 384) t = 6 ∧ (∀ a7 : Nat, tg (nA h a1 11 384) a7 = 0 → (∀ a12 : Nat, tg (nA (nA h a1 11 384) a7 8 20) a12 = 0 → (∀ a17 : Nat, tg (nA (nA (nA h a1 11 384) a7 8 20) a12 8 10) a17 = 0 → vc_X0_init a17 (nO (pR (nA (pR (nA (pR (nA h a1 11 384) 29 t (some a1)) a7 8 20) 30 t (some a7)) a12 8 10) 31 t (some a12)) a17 1) (qv (fun h20 => tg h20 t = 6 ∧ (∀ a23 : Nat, tg h20 a23 = 0 → vc_X0_init a23 (nO (pR h20 32 t (some a17)) a23 1) (qv (fun h26 => tg h26 t = 6 ∧ (∀ a29 : Nat, tg h26 a29 = 0 → vc_X5_init a29 (nO (pR h26 33 t (some a23)) a29 5) (qv (fun h32 => tg h32 t = 6 ∧ ∃ a35 : Nat, fR h32 31 t = some a35 ∧ tg h32 a35 = 8 ∧ vp_in (7 : Int32) (ln h32 a35) ∧ Q (.inl none) (qI (pI (pI (pR h32 34 t (some a29)) 27 t (j_mx (600 : Int32) (j_mi (30000 : Int32) x1))) 28 t (j_mx (64 : Int32) (j_mi (4000 : Int32) x2))) a35 7 (64 : Int32))) qn))) qn))) qn)))))
set_option maxRecDepth 20000 in
theorem s_X6_init {t : Nat} {x1 : Int32} {x2 : Int32} {h : Hp} {Q : Option AV ⊕ String → Hp → Prop} {lv : Nat} (hlv : lv + 2 ≤ 12) (hv : vc_X6_init t x1 x2 h Q) (l : Launch) (D : va_G) (dA : Nat → ClassId) (sz : Nat) (hst : l.stackTraces = false) : Ctr l D dA sz (Cond.code yX6_init cX6_init 3 none) yX6_init lv [vr (some t), vi x1, vi x2] h 6 426 Q := by
  refine Ctr.of (lo := [some (vr (some t)), some (vi x1), some (vi x2)]) hst (by decide) (by simp [ena, isL]) rfl ?_
  intro G hg hlim C
  unfold vc_X6_init at hv
  refine j_aload_n C dX6_init_0 rfl ?_
  refine k_objInit C rfl wg_20 rfl (by omega) (Nat.le_of_ble_eq_true rfl) dX6_init_1 ?_
  refine j_aload_n C dX6_init_4 rfl ?_
  refine j_sipush (v := (384 : Int32)) C dX6_init_5 (by decide) ?_
  refine k_newq (N := 384) C wg_23 (by decide) (by decide) (by decide) (hlim _ _ (by omega) (by omega)) dX6_init_8 (fun a1 f2 => ?_)
  have hv := hv a1 f2
  have g5 : tg (nA h a1 11 384) a1 = 11 := tA2
  obtain ⟨g6, hv⟩ := hv
  refine pf_X6_11 C rfl rfl g6 dX6_init_11 ?_
  refine j_aload_n C dX6_init_14 rfl ?_
  refine j_bipush (v := (20 : Int32)) C dX6_init_15 (by decide) ?_
  refine k_newa (N := 20) C (Or.inl ⟨rfl, rfl, rfl⟩) wg_47 (by decide) (by decide) (by decide) (hlim _ _ (by omega) (by omega)) dX6_init_17 (fun a7 f8 => ?_)
  have hv := hv a7 f8
  have g5 : tg (nA (nA h a1 11 384) a7 8 20) a1 = 11 := tA1 f8 g5
  have g6 : tg (nA (nA h a1 11 384) a7 8 20) t = 6 := tA1 f8 g6
  have g11 : tg (nA (nA h a1 11 384) a7 8 20) a7 = 8 := tA2
  refine pf_X6_15 C rfl rfl g6 dX6_init_19 ?_
  refine j_aload_n C dX6_init_22 rfl ?_
  refine j_bipush (v := (10 : Int32)) C dX6_init_23 (by decide) ?_
  refine k_newa (N := 10) C (Or.inl ⟨rfl, rfl, rfl⟩) wg_47 (by decide) (by decide) (by decide) (hlim _ _ (by omega) (by omega)) dX6_init_25 (fun a12 f13 => ?_)
  have hv := hv a12 f13
  have g5 : tg (nA (nA (nA h a1 11 384) a7 8 20) a12 8 10) a1 = 11 := tA1 f13 g5
  have g6 : tg (nA (nA (nA h a1 11 384) a7 8 20) a12 8 10) t = 6 := tA1 f13 g6
  have g11 : tg (nA (nA (nA h a1 11 384) a7 8 20) a12 8 10) a7 = 8 := tA1 f13 g11
  have g16 : tg (nA (nA (nA h a1 11 384) a7 8 20) a12 8 10) a12 = 8 := tA2
  refine pf_X6_19 C rfl rfl g6 dX6_init_27 ?_
  refine j_aload_n C dX6_init_30 rfl ?_
  refine j_new C (ci := 0) rfl inX0 tyX0_ok dfX0 wg_25 wg_26 wg_2 (by decide) (hlim _ _ (by omega) (by omega)) dX6_init_31 (fun a17 f18 => ?_)
  have hv := hv a17 f18
  have g5 : tg (nO (nA (nA (nA h a1 11 384) a7 8 20) a12 8 10) a17 1) a1 = 11 := tO1 f18 g5
  have g6 : tg (nO (nA (nA (nA h a1 11 384) a7 8 20) a12 8 10) a17 1) t = 6 := tO1 f18 g6
  have g11 : tg (nO (nA (nA (nA h a1 11 384) a7 8 20) a12 8 10) a17 1) a7 = 8 := tO1 f18 g11
  have g16 : tg (nO (nA (nA (nA h a1 11 384) a7 8 20) a12 8 10) a17 1) a12 = 8 := tO1 f18 g16
  have g19 : tg (nO (nA (nA (nA h a1 11 384) a7 8 20) a12 8 10) a17 1) a17 = 1 := tO2
  refine j_dup C dX6_init_34 rfl ?_
  refine k_callIN C [] mi_X6_24 rfl rfl (fun l D dA sz hl => s_X0_init (by omega) hv l D dA sz hl) (fun _ _ q => q) rfl (by omega) (Nat.le_of_ble_eq_true rfl) (hlim _ _ (by omega) (by omega)) dX6_init_35 (fun v h20 hq => ?_)
  obtain ⟨rfl, hv⟩ := qv_inv hq
  obtain ⟨g22, hv⟩ := hv
  refine pf_X6_25 C rfl rfl g22 dX6_init_38 ?_
  refine j_aload_n C dX6_init_41 rfl ?_
  refine j_new C (ci := 0) rfl inX0 tyX0_ok dfX0 wg_25 wg_26 wg_2 (by decide) (hlim _ _ (by omega) (by omega)) dX6_init_42 (fun a23 f24 => ?_)
  have hv := hv a23 f24
  have g22 : tg (nO h20 a23 1) t = 6 := tO1 f24 g22
  have g25 : tg (nO h20 a23 1) a23 = 1 := tO2
  refine j_dup C dX6_init_45 rfl ?_
  refine k_callIN C [] mi_X6_24 rfl rfl (fun l D dA sz hl => s_X0_init (by omega) hv l D dA sz hl) (fun _ _ q => q) rfl (by omega) (Nat.le_of_ble_eq_true rfl) (hlim _ _ (by omega) (by omega)) dX6_init_46 (fun v h26 hq => ?_)
  obtain ⟨rfl, hv⟩ := qv_inv hq
  obtain ⟨g28, hv⟩ := hv
  refine pf_X6_29 C rfl rfl g28 dX6_init_49 ?_
  refine j_aload_n C dX6_init_52 rfl ?_
  refine j_new C (ci := 4) rfl inX5 tyX5_ok dfX5 wg_48 wg_49 wg_3 (by decide) (hlim _ _ (by omega) (by omega)) dX6_init_53 (fun a29 f30 => ?_)
  have hv := hv a29 f30
  have g28 : tg (nO h26 a29 5) t = 6 := tO1 f30 g28
  have g31 : tg (nO h26 a29 5) a29 = 5 := tO2
  refine j_dup C dX6_init_56 rfl ?_
  refine k_callIN C [] mi_X6_34 rfl rfl (fun l D dA sz hl => s_X5_init (by omega) hv l D dA sz hl) (fun _ _ q => q) rfl (by omega) (Nat.le_of_ble_eq_true rfl) (hlim _ _ (by omega) (by omega)) dX6_init_57 (fun v h32 hq => ?_)
  obtain ⟨rfl, hv⟩ := qv_inv hq
  obtain ⟨g34, hv⟩ := hv
  refine pf_X6_35 C rfl rfl g34 dX6_init_60 ?_
  refine j_aload_n C dX6_init_63 rfl ?_
  refine j_sipush (v := (600 : Int32)) C dX6_init_64 (by decide) ?_
  refine j_sipush (v := (30000 : Int32)) C dX6_init_67 (by decide) ?_
  refine j_iload_n C dX6_init_70 rfl ?_
  refine k_min C wg_68 rfl (by omega) (Nat.le_of_ble_eq_true rfl) (hlim _ _ (by omega) (by omega)) dX6_init_71 ?_
  refine k_max C wg_71 rfl (by omega) (Nat.le_of_ble_eq_true rfl) (hlim _ _ (by omega) (by omega)) dX6_init_74 ?_
  refine pf_X6_48 C rfl rfl g34 dX6_init_77 ?_
  refine j_aload_n C dX6_init_80 rfl ?_
  refine j_bipush (v := (64 : Int32)) C dX6_init_81 (by decide) ?_
  refine j_sipush (v := (4000 : Int32)) C dX6_init_83 (by decide) ?_
  refine j_iload_n C dX6_init_86 rfl ?_
  refine k_min C wg_68 rfl (by omega) (Nat.le_of_ble_eq_true rfl) (hlim _ _ (by omega) (by omega)) dX6_init_87 ?_
  refine k_max C wg_71 rfl (by omega) (Nat.le_of_ble_eq_true rfl) (hlim _ _ (by omega) (by omega)) dX6_init_90 ?_
  refine pf_X6_52 C rfl rfl g34 dX6_init_93 ?_
  refine j_aload_n C dX6_init_96 rfl ?_
  refine gf_X6_19 C rfl g34 dX6_init_97 ?_
  refine j_bipush (v := (7 : Int32)) C dX6_init_100 (by decide) ?_
  refine j_bipush (v := (64 : Int32)) C dX6_init_102 (by decide) ?_
  obtain ⟨a35, e36, hv⟩ := hv
  obtain ⟨g37, hv⟩ := hv
  obtain ⟨b38, hv⟩ := hv
  refine k_iast (j := 7) C e36 g37 b38 (by decide) dX6_init_104 ?_
  exact j_vret C dX6_init_105 (hlim _ _ (by omega) (by omega)) hv
def vc_X6_plain (t : Nat) (x1 : Int32) (x2 : Int32) (x3 : Int32) (h : Hp) (Q : Option AV ⊕ String → Hp → Prop) : Prop :=
    tg h t = 6 ∧ vc_X6_checkRoot t x1 h (qv (fun h1 => vc_X6_checkRange x2 (0 : Int32) (20 : Int32) h1 (qv (fun h4 => vc_X6_checkRange x3 (0 : Int32) (20 : Int32) h4 (qv (fun h6 => tg h6 t = 6 ∧ vc_X6_makeRoom t (((2 : Int32) + x2) + x3) h6 (qi (fun v9 h8 => ((v9 = 0 → Q (.inl (some (vi (0 : Int32)))) h8) ∧ (¬ v9 = 0 → (∀ a11 : Nat, tg h8 a11 = 0 → vc_X1_init a11 (0 : Int32) (((2 : Int32) + x2) + x3) x2 x3 (nO h8 a11 2) (qv (fun h14 => tg h14 t = 6 ∧ vc_X6_keep t x1 (some a11) h14 (qi (fun v17 h16 => Q (.inl (some (vi v17))) h16) qn)) qn))))) qn)) (fun E hE => Q (.inr E) hE))) (fun E hE => Q (.inr E) hE))) (fun E hE => Q (.inr E) hE))
set_option maxRecDepth 20000 in
theorem s_X6_plain {t : Nat} {x1 : Int32} {x2 : Int32} {x3 : Int32} {h : Hp} {Q : Option AV ⊕ String → Hp → Prop} {lv : Nat} (hlv : lv + 8 ≤ 12) (hv : vc_X6_plain t x1 x2 x3 h Q) (l : Launch) (D : va_G) (dA : Nat → ClassId) (sz : Nat) (hst : l.stackTraces = false) : Ctr l D dA sz (Cond.code yX6_plain cX6_plain 5 (some .int)) yX6_plain lv [vr (some t), vi x1, vi x2, vi x3] h 6 6028 Q := by
  refine Ctr.of (lo := [some (vr (some t)), some (vi x1), some (vi x2), some (vi x3), none]) hst (by decide) (by simp [ena, isL]) rfl ?_
  intro G hg hlim C
  unfold vc_X6_plain at hv
  refine j_aload_n C dX6_plain_0 rfl ?_
  refine j_iload_n C dX6_plain_1 rfl ?_
  obtain ⟨g3, hv⟩ := hv
  refine k_callV C 5 [vi x1] mv_X6_55 rfl rfl (fun l D dA sz hl => s_X6_checkRoot (by omega) hv l D dA sz hl) rfl rfl (by decide) g3 rfl (by omega) (Nat.le_of_ble_eq_true rfl) (hlim _ _ (by omega) (by omega)) dX6_plain_2 (fun _ _ q => jx_out C (hlim _ _ (by omega) (by omega)) q) (fun v h1 hq => ?_)
  obtain ⟨rfl, hv⟩ := qv_inv hq
  refine j_iload_n C dX6_plain_5 rfl ?_
  refine j_iconst (v := (0 : Int32)) C dX6_plain_6 (by decide) ?_
  refine j_bipush (v := (20 : Int32)) C dX6_plain_7 (by decide) ?_
  refine k_callS C [vi x2, vi (0 : Int32), vi (20 : Int32)] ms_X6_59 rfl (fun l D dA sz hl => s_X6_checkRange (by omega) hv l D dA sz hl) rfl (by omega) (Nat.le_of_ble_eq_true rfl) (hlim _ _ (by omega) (by omega)) dX6_plain_9 (fun _ _ q => jx_out C (hlim _ _ (by omega) (by omega)) q) (fun v h4 hq => ?_)
  obtain ⟨rfl, hv⟩ := qv_inv hq
  refine j_iload_n C dX6_plain_12 rfl ?_
  refine j_iconst (v := (0 : Int32)) C dX6_plain_13 (by decide) ?_
  refine j_bipush (v := (20 : Int32)) C dX6_plain_14 (by decide) ?_
  refine k_callS C [vi x3, vi (0 : Int32), vi (20 : Int32)] ms_X6_59 rfl (fun l D dA sz hl => s_X6_checkRange (by omega) hv l D dA sz hl) rfl (by omega) (Nat.le_of_ble_eq_true rfl) (hlim _ _ (by omega) (by omega)) dX6_plain_16 (fun _ _ q => jx_out C (hlim _ _ (by omega) (by omega)) q) (fun v h6 hq => ?_)
  obtain ⟨rfl, hv⟩ := qv_inv hq
  refine j_iconst (v := (2 : Int32)) C dX6_plain_19 (by decide) ?_
  refine j_iload_n C dX6_plain_20 rfl ?_
  refine j_iadd C dX6_plain_21 ?_
  refine j_iload_n C dX6_plain_22 rfl ?_
  refine j_iadd C dX6_plain_23 ?_
  refine j_istore (lo' := [some (vr (some t)), some (vi x1), some (vi x2), some (vi x3), some (vi (((2 : Int32) + x2) + x3))]) C dX6_plain_24 (Nat.le_of_ble_eq_true rfl) rfl ?_
  refine j_aload_n C dX6_plain_26 rfl ?_
  refine j_iload C dX6_plain_27 rfl ?_
  obtain ⟨g10, hv⟩ := hv
  refine k_callV C 5 [vi (((2 : Int32) + x2) + x3)] mv_X6_63 rfl rfl (fun l D dA sz hl => s_X6_makeRoom (by omega) hv l D dA sz hl) rfl rfl (by decide) g10 rfl (by omega) (Nat.le_of_ble_eq_true rfl) (hlim _ _ (by omega) (by omega)) dX6_plain_29 (fun _ _ q => False.elim q) (fun v h8 hq => ?_)
  obtain ⟨v9, rfl, hv⟩ := qi_inv hq
  refine j_if_eq (tgt := 55) C dX6_plain_32 (by decide) ⟨fun q19 => ?_, fun q19 => ?_⟩
  · have hv := hv.1 q19
    refine j_iconst (v := (0 : Int32)) C dX6_plain_55 (by decide) ?_
    exact j_iret C dX6_plain_56 (hlim _ _ (by omega) (by omega)) hv
  · have hv := hv.2 q19
    refine j_aload_n C dX6_plain_35 rfl ?_
    refine j_iload_n C dX6_plain_36 rfl ?_
    refine j_new C (ci := 1) rfl inX1 tyX1_ok dfX1 wg_292 wg_293 wg_11 (by decide) (hlim _ _ (by omega) (by omega)) dX6_plain_37 (fun a11 f12 => ?_)
    have hv := hv a11 f12
    have g13 : tg (nO h8 a11 2) a11 = 2 := tO2
    refine j_dup C dX6_plain_40 rfl ?_
    refine j_iconst (v := (0 : Int32)) C dX6_plain_41 (by decide) ?_
    refine j_iload C dX6_plain_42 rfl ?_
    refine j_iload_n C dX6_plain_44 rfl ?_
    refine j_iload_n C dX6_plain_45 rfl ?_
    refine k_callI C [vi (0 : Int32), vi (((2 : Int32) + x2) + x3), vi x2, vi x3] mi_X6_69 rfl rfl (fun l D dA sz hl => s_X1_init (by omega) hv l D dA sz hl) (fun _ _ q => q) rfl (by omega) (Nat.le_of_ble_eq_true rfl) (hlim _ _ (by omega) (by omega)) dX6_plain_46 (fun v h14 hq => ?_)
    obtain ⟨rfl, hv⟩ := qv_inv hq
    obtain ⟨g18, hv⟩ := hv
    refine k_callV C 5 [vi x1, vr (some a11)] mv_X6_72 rfl rfl (fun l D dA sz hl => s_X6_keep (by omega) hv l D dA sz hl) rfl rfl (by decide) g18 rfl (by omega) (Nat.le_of_ble_eq_true rfl) (hlim _ _ (by omega) (by omega)) dX6_plain_49 (fun _ _ q => False.elim q) (fun v h16 hq => ?_)
    obtain ⟨v17, rfl, hv⟩ := qi_inv hq
    refine j_goto (tgt := 56) C dX6_plain_52 (by decide) ?_
    exact j_iret C dX6_plain_56 (hlim _ _ (by omega) (by omega)) hv
def vc_X6_row (t : Nat) (x1 : Int32) (x2 : Int32) (x3 : Int32) (h : Hp) (Q : Option AV ⊕ String → Hp → Prop) : Prop :=
    ∀ (P62 : Option Nat → Int32 → Option Nat → Hp → Prop),
    (∀ (v0 : Option Nat) (w1 : Int32) (v2 : Option Nat) (h : Hp), (∃ a21 : Nat, v2 = some a21 ∧ tg h a21 = 6 ∧ vc_X6_keep a21 w1 v0 h (qi (fun v24 h23 => Q (.inl (some (vi v24))) h23) qn)) → P62 v0 w1 v2 h) →
    tg h t = 6 ∧ vc_X6_checkRoot t x1 h (qv (fun h1 => vc_X6_checkRange x2 (0 : Int32) (3000 : Int32) h1 (qv (fun h4 => tg h4 t = 6 ∧ vc_X6_makeRoom t ((2 : Int32) + x2) h4 (qi (fun v7 h6 => ((¬ v7 = 0 → ((x3 = 0 → (∀ a9 : Nat, tg h6 a9 = 0 → vc_X1_init a9 (2 : Int32) ((2 : Int32) + x2) (0 : Int32) x2 (nO h6 a9 2) (qv (fun h12 => P62 (some a9) x1 (some t) h12) qn))) ∧ (¬ x3 = 0 → (∀ a14 : Nat, tg h6 a14 = 0 → vc_X1_init a14 (1 : Int32) ((2 : Int32) + x2) x2 (0 : Int32) (nO h6 a14 2) (qv (fun h17 => P62 (some a14) x1 (some t) h17) qn))))) ∧ (v7 = 0 → Q (.inl (some (vi (0 : Int32)))) h6))) qn)) (fun E hE => Q (.inr E) hE))) (fun E hE => Q (.inr E) hE))
set_option maxRecDepth 20000 in
theorem s_X6_row {t : Nat} {x1 : Int32} {x2 : Int32} {x3 : Int32} {h : Hp} {Q : Option AV ⊕ String → Hp → Prop} {lv : Nat} (hlv : lv + 8 ≤ 12) (hv : vc_X6_row t x1 x2 x3 h Q) (l : Launch) (D : va_G) (dA : Nat → ClassId) (sz : Nat) (hst : l.stackTraces = false) : Ctr l D dA sz (Cond.code yX6_row cX6_row 5 (some .int)) yX6_row lv [vr (some t), vi x1, vi x2, vi x3] h 5 6022 Q := by
  refine Ctr.of (lo := [some (vr (some t)), some (vi x1), some (vi x2), some (vi x3), none]) hst (by decide) (by simp [ena, isL]) rfl ?_
  intro G hg hlim C
  unfold vc_X6_row at hv
  have hv := hv (fun v0 w1 v2 h => J G Q 62 [none, none, none, none, none] [vr v0, vi w1, vr v2] h 5 6022)
  have hv := hv (by
      intro v0 w1 v2 h hv
      obtain ⟨a21, e22, hv⟩ := hv
      obtain ⟨g25, hv⟩ := hv
      refine k_callV C 5 [vi w1, vr v0] mv_X6_72 e22 rfl (fun l D dA sz hl => s_X6_keep (by omega) hv l D dA sz hl) rfl rfl (by decide) g25 rfl (by omega) (Nat.le_of_ble_eq_true rfl) (hlim _ _ (by omega) (by omega)) dX6_row_62 (fun _ _ q => False.elim q) (fun v h23 hq => ?_)
      obtain ⟨v24, rfl, hv⟩ := qi_inv hq
      exact j_iret C dX6_row_65 (hlim _ _ (by omega) (by omega)) hv)
  refine j_aload_n C dX6_row_0 rfl ?_
  refine j_iload_n C dX6_row_1 rfl ?_
  obtain ⟨g3, hv⟩ := hv
  refine k_callV C 5 [vi x1] mv_X6_55 rfl rfl (fun l D dA sz hl => s_X6_checkRoot (by omega) hv l D dA sz hl) rfl rfl (by decide) g3 rfl (by omega) (Nat.le_of_ble_eq_true rfl) (hlim _ _ (by omega) (by omega)) dX6_row_2 (fun _ _ q => jx_out C (hlim _ _ (by omega) (by omega)) q) (fun v h1 hq => ?_)
  obtain ⟨rfl, hv⟩ := qv_inv hq
  refine j_iload_n C dX6_row_5 rfl ?_
  refine j_iconst (v := (0 : Int32)) C dX6_row_6 (by decide) ?_
  refine j_sipush (v := (3000 : Int32)) C dX6_row_7 (by decide) ?_
  refine k_callS C [vi x2, vi (0 : Int32), vi (3000 : Int32)] ms_X6_59 rfl (fun l D dA sz hl => s_X6_checkRange (by omega) hv l D dA sz hl) rfl (by omega) (Nat.le_of_ble_eq_true rfl) (hlim _ _ (by omega) (by omega)) dX6_row_10 (fun _ _ q => jx_out C (hlim _ _ (by omega) (by omega)) q) (fun v h4 hq => ?_)
  obtain ⟨rfl, hv⟩ := qv_inv hq
  refine j_iconst (v := (2 : Int32)) C dX6_row_13 (by decide) ?_
  refine j_iload_n C dX6_row_14 rfl ?_
  refine j_iadd C dX6_row_15 ?_
  refine j_istore (lo' := [some (vr (some t)), some (vi x1), some (vi x2), some (vi x3), some (vi ((2 : Int32) + x2))]) C dX6_row_16 (Nat.le_of_ble_eq_true rfl) rfl ?_
  refine j_aload_n C dX6_row_18 rfl ?_
  refine j_iload C dX6_row_19 rfl ?_
  obtain ⟨g8, hv⟩ := hv
  refine k_callV C 5 [vi ((2 : Int32) + x2)] mv_X6_63 rfl rfl (fun l D dA sz hl => s_X6_makeRoom (by omega) hv l D dA sz hl) rfl rfl (by decide) g8 rfl (by omega) (Nat.le_of_ble_eq_true rfl) (hlim _ _ (by omega) (by omega)) dX6_row_21 (fun _ _ q => False.elim q) (fun v h6 hq => ?_)
  obtain ⟨v7, rfl, hv⟩ := qi_inv hq
  refine j_if_ne (tgt := 29) C dX6_row_24 (by decide) ⟨fun q20 => ?_, fun q20 => ?_⟩
  · have hv := hv.1 q20
    refine j_aload_n C dX6_row_29 rfl ?_
    refine j_iload_n C dX6_row_30 rfl ?_
    refine j_iload_n C dX6_row_31 rfl ?_
    refine j_if_eq (tgt := 50) C dX6_row_32 (by decide) ⟨fun q19 => ?_, fun q19 => ?_⟩
    · have hv := hv.1 q19
      refine j_new C (ci := 1) rfl inX1 tyX1_ok dfX1 wg_292 wg_293 wg_11 (by decide) (hlim _ _ (by omega) (by omega)) dX6_row_50 (fun a9 f10 => ?_)
      have hv := hv a9 f10
      have g11 : tg (nO h6 a9 2) a9 = 2 := tO2
      refine j_dup C dX6_row_53 rfl ?_
      refine j_iconst (v := (2 : Int32)) C dX6_row_54 (by decide) ?_
      refine j_iload C dX6_row_55 rfl ?_
      refine j_iconst (v := (0 : Int32)) C dX6_row_57 (by decide) ?_
      refine j_iload_n C dX6_row_58 rfl ?_
      refine k_callI C [vi (2 : Int32), vi ((2 : Int32) + x2), vi (0 : Int32), vi x2] mi_X6_69 rfl rfl (fun l D dA sz hl => s_X1_init (by omega) hv l D dA sz hl) (fun _ _ q => q) rfl (by omega) (Nat.le_of_ble_eq_true rfl) (hlim _ _ (by omega) (by omega)) dX6_row_59 (fun v h12 hq => ?_)
      obtain ⟨rfl, hv⟩ := qv_inv hq
      exact j_sub (by exact trivial) hv
    · have hv := hv.2 q19
      refine j_new C (ci := 1) rfl inX1 tyX1_ok dfX1 wg_292 wg_293 wg_11 (by decide) (hlim _ _ (by omega) (by omega)) dX6_row_35 (fun a14 f15 => ?_)
      have hv := hv a14 f15
      have g16 : tg (nO h6 a14 2) a14 = 2 := tO2
      refine j_dup C dX6_row_38 rfl ?_
      refine j_iconst (v := (1 : Int32)) C dX6_row_39 (by decide) ?_
      refine j_iload C dX6_row_40 rfl ?_
      refine j_iload_n C dX6_row_42 rfl ?_
      refine j_iconst (v := (0 : Int32)) C dX6_row_43 (by decide) ?_
      refine k_callI C [vi (1 : Int32), vi ((2 : Int32) + x2), vi x2, vi (0 : Int32)] mi_X6_69 rfl rfl (fun l D dA sz hl => s_X1_init (by omega) hv l D dA sz hl) (fun _ _ q => q) rfl (by omega) (Nat.le_of_ble_eq_true rfl) (hlim _ _ (by omega) (by omega)) dX6_row_44 (fun v h17 hq => ?_)
      obtain ⟨rfl, hv⟩ := qv_inv hq
      refine j_goto (tgt := 62) C dX6_row_47 (by decide) ?_
      exact j_sub (by exact trivial) hv
  · have hv := hv.2 q20
    refine j_iconst (v := (0 : Int32)) C dX6_row_27 (by decide) ?_
    exact j_iret C dX6_row_28 (hlim _ _ (by omega) (by omega)) hv
def vc_X6_queue (t : Nat) (x1 : Int32) (h : Hp) (Q : Option AV ⊕ String → Hp → Prop) : Prop :=
    tg h t = 6 ∧ vc_X6_checkRoot t x1 h (qv (fun h1 => tg h1 t = 6 ∧ vc_X6_makeRoom t (3 : Int32) h1 (qi (fun v5 h4 => ((v5 = 0 → Q (.inl (some (vi (0 : Int32)))) h4) ∧ (¬ v5 = 0 → (∀ a7 : Nat, tg h4 a7 = 0 → vc_X2_init a7 (nO h4 a7 3) (qv (fun h10 => tg h10 t = 6 ∧ vc_X6_keep t x1 (some a7) h10 (qi (fun v13 h12 => Q (.inl (some (vi v13))) h12) qn)) qn))))) qn)) (fun E hE => Q (.inr E) hE))
set_option maxRecDepth 20000 in
theorem s_X6_queue {t : Nat} {x1 : Int32} {h : Hp} {Q : Option AV ⊕ String → Hp → Prop} {lv : Nat} (hlv : lv + 8 ≤ 12) (hv : vc_X6_queue t x1 h Q) (l : Launch) (D : va_G) (dA : Nat → ClassId) (sz : Nat) (hst : l.stackTraces = false) : Ctr l D dA sz (Cond.code yX6_queue cX6_queue 2 (some .int)) yX6_queue lv [vr (some t), vi x1] h 2 17 Q := by
  refine Ctr.of (lo := [some (vr (some t)), some (vi x1)]) hst (by decide) (by simp [ena, isL]) rfl ?_
  intro G hg hlim C
  unfold vc_X6_queue at hv
  refine j_aload_n C dX6_queue_0 rfl ?_
  refine j_iload_n C dX6_queue_1 rfl ?_
  obtain ⟨g3, hv⟩ := hv
  refine k_callV C 5 [vi x1] mv_X6_55 rfl rfl (fun l D dA sz hl => s_X6_checkRoot (by omega) hv l D dA sz hl) rfl rfl (by decide) g3 rfl (by omega) (Nat.le_of_ble_eq_true rfl) (hlim _ _ (by omega) (by omega)) dX6_queue_2 (fun _ _ q => jx_out C (hlim _ _ (by omega) (by omega)) q) (fun v h1 hq => ?_)
  obtain ⟨rfl, hv⟩ := qv_inv hq
  refine j_aload_n C dX6_queue_5 rfl ?_
  refine j_iconst (v := (3 : Int32)) C dX6_queue_6 (by decide) ?_
  obtain ⟨g6, hv⟩ := hv
  refine k_callV C 5 [vi (3 : Int32)] mv_X6_63 rfl rfl (fun l D dA sz hl => s_X6_makeRoom (by omega) hv l D dA sz hl) rfl rfl (by decide) g6 rfl (by omega) (Nat.le_of_ble_eq_true rfl) (hlim _ _ (by omega) (by omega)) dX6_queue_7 (fun _ _ q => False.elim q) (fun v h4 hq => ?_)
  obtain ⟨v5, rfl, hv⟩ := qi_inv hq
  refine j_if_eq (tgt := 28) C dX6_queue_10 (by decide) ⟨fun q15 => ?_, fun q15 => ?_⟩
  · have hv := hv.1 q15
    refine j_iconst (v := (0 : Int32)) C dX6_queue_28 (by decide) ?_
    exact j_iret C dX6_queue_29 (hlim _ _ (by omega) (by omega)) hv
  · have hv := hv.2 q15
    refine j_aload_n C dX6_queue_13 rfl ?_
    refine j_iload_n C dX6_queue_14 rfl ?_
    refine j_new C (ci := 2) rfl inX2 tyX2_ok dfX2 wg_368 wg_369 wg_12 (by decide) (hlim _ _ (by omega) (by omega)) dX6_queue_15 (fun a7 f8 => ?_)
    have hv := hv a7 f8
    have g9 : tg (nO h4 a7 3) a7 = 3 := tO2
    refine j_dup C dX6_queue_18 rfl ?_
    refine k_callI C [] mi_X6_78 rfl rfl (fun l D dA sz hl => s_X2_init (by omega) hv l D dA sz hl) (fun _ _ q => q) rfl (by omega) (Nat.le_of_ble_eq_true rfl) (hlim _ _ (by omega) (by omega)) dX6_queue_19 (fun v h10 hq => ?_)
    obtain ⟨rfl, hv⟩ := qv_inv hq
    obtain ⟨g14, hv⟩ := hv
    refine k_callV C 5 [vi x1, vr (some a7)] mv_X6_72 rfl rfl (fun l D dA sz hl => s_X6_keep (by omega) hv l D dA sz hl) rfl rfl (by decide) g14 rfl (by omega) (Nat.le_of_ble_eq_true rfl) (hlim _ _ (by omega) (by omega)) dX6_queue_22 (fun _ _ q => False.elim q) (fun v h12 hq => ?_)
    obtain ⟨v13, rfl, hv⟩ := qi_inv hq
    refine j_goto (tgt := 29) C dX6_queue_25 (by decide) ?_
    exact j_iret C dX6_queue_29 (hlim _ _ (by omega) (by omega)) hv
def vc_X6_loose (t : Nat) (x1 : Int32) (x2 : Int32) (x3 : Int32) (x4 : Int32) (h : Hp) (Q : Option AV ⊕ String → Hp → Prop) : Prop :=
    tg h t = 6 ∧ vc_X6_checkRoot t x1 h (qv (fun h1 => vc_X6_checkRange x2 (0 : Int32) (2 : Int32) h1 (qv (fun h4 => tg h4 t = 6 ∧ vc_X6_checkRoot t x3 h4 (qv (fun h6 => tg h6 t = 6 ∧ vc_X6_checkRootOrNone t x4 h6 (qv (fun h9 => tg h9 t = 6 ∧ vc_X6_objectAt t x3 h9 (qr (fun v13 h12 => tg h12 t = 6 ∧ vc_X6_lineAtOrNone t x4 h12 (qr (fun v16 h15 => tg h15 t = 6 ∧ vc_X6_makeRoom t (4 : Int32) h15 (qi (fun v19 h18 => ((v19 = 0 → Q (.inl (some (vi (0 : Int32)))) h18) ∧ (¬ v19 = 0 → (∀ a21 : Nat, tg h18 a21 = 0 → vc_X3_init a21 ((4 : Int32) + x2) (4 : Int32) v13 none v16 (nO h18 a21 4) (qv (fun h24 => tg h24 t = 6 ∧ vc_X6_keep t x1 (some a21) h24 (qi (fun v27 h26 => Q (.inl (some (vi v27))) h26) qn)) qn))))) qn)) (fun E hE => Q (.inr E) hE))) (fun E hE => Q (.inr E) hE))) (fun E hE => Q (.inr E) hE))) (fun E hE => Q (.inr E) hE))) (fun E hE => Q (.inr E) hE))) (fun E hE => Q (.inr E) hE))
set_option maxRecDepth 20000 in
theorem s_X6_loose {t : Nat} {x1 : Int32} {x2 : Int32} {x3 : Int32} {x4 : Int32} {h : Hp} {Q : Option AV ⊕ String → Hp → Prop} {lv : Nat} (hlv : lv + 8 ≤ 12) (hv : vc_X6_loose t x1 x2 x3 x4 h Q) (l : Launch) (D : va_G) (dA : Nat → ClassId) (sz : Nat) (hst : l.stackTraces = false) : Ctr l D dA sz (Cond.code yX6_loose cX6_loose 7 (some .int)) yX6_loose lv [vr (some t), vi x1, vi x2, vi x3, vi x4] h 7 50 Q := by
  refine Ctr.of (lo := [some (vr (some t)), some (vi x1), some (vi x2), some (vi x3), some (vi x4), none, none]) hst (by decide) (by simp [ena, isL]) rfl ?_
  intro G hg hlim C
  unfold vc_X6_loose at hv
  refine j_aload_n C dX6_loose_0 rfl ?_
  refine j_iload_n C dX6_loose_1 rfl ?_
  obtain ⟨g3, hv⟩ := hv
  refine k_callV C 5 [vi x1] mv_X6_55 rfl rfl (fun l D dA sz hl => s_X6_checkRoot (by omega) hv l D dA sz hl) rfl rfl (by decide) g3 rfl (by omega) (Nat.le_of_ble_eq_true rfl) (hlim _ _ (by omega) (by omega)) dX6_loose_2 (fun _ _ q => jx_out C (hlim _ _ (by omega) (by omega)) q) (fun v h1 hq => ?_)
  obtain ⟨rfl, hv⟩ := qv_inv hq
  refine j_iload_n C dX6_loose_5 rfl ?_
  refine j_iconst (v := (0 : Int32)) C dX6_loose_6 (by decide) ?_
  refine j_iconst (v := (2 : Int32)) C dX6_loose_7 (by decide) ?_
  refine k_callS C [vi x2, vi (0 : Int32), vi (2 : Int32)] ms_X6_59 rfl (fun l D dA sz hl => s_X6_checkRange (by omega) hv l D dA sz hl) rfl (by omega) (Nat.le_of_ble_eq_true rfl) (hlim _ _ (by omega) (by omega)) dX6_loose_8 (fun _ _ q => jx_out C (hlim _ _ (by omega) (by omega)) q) (fun v h4 hq => ?_)
  obtain ⟨rfl, hv⟩ := qv_inv hq
  refine j_aload_n C dX6_loose_11 rfl ?_
  refine j_iload_n C dX6_loose_12 rfl ?_
  obtain ⟨g8, hv⟩ := hv
  refine k_callV C 5 [vi x3] mv_X6_55 rfl rfl (fun l D dA sz hl => s_X6_checkRoot (by omega) hv l D dA sz hl) rfl rfl (by decide) g8 rfl (by omega) (Nat.le_of_ble_eq_true rfl) (hlim _ _ (by omega) (by omega)) dX6_loose_13 (fun _ _ q => jx_out C (hlim _ _ (by omega) (by omega)) q) (fun v h6 hq => ?_)
  obtain ⟨rfl, hv⟩ := qv_inv hq
  refine j_aload_n C dX6_loose_16 rfl ?_
  refine j_iload C dX6_loose_17 rfl ?_
  obtain ⟨g11, hv⟩ := hv
  refine k_callV C 5 [vi x4] mv_X6_79 rfl rfl (fun l D dA sz hl => s_X6_checkRootOrNone (by omega) hv l D dA sz hl) rfl rfl (by decide) g11 rfl (by omega) (Nat.le_of_ble_eq_true rfl) (hlim _ _ (by omega) (by omega)) dX6_loose_19 (fun _ _ q => jx_out C (hlim _ _ (by omega) (by omega)) q) (fun v h9 hq => ?_)
  obtain ⟨rfl, hv⟩ := qv_inv hq
  refine j_aload_n C dX6_loose_22 rfl ?_
  refine j_iload_n C dX6_loose_23 rfl ?_
  obtain ⟨g14, hv⟩ := hv
  refine k_callV C 5 [vi x3] mv_X6_82 rfl rfl (fun l D dA sz hl => s_X6_objectAt (by omega) hv l D dA sz hl) rfl rfl (by decide) g14 rfl (by omega) (Nat.le_of_ble_eq_true rfl) (hlim _ _ (by omega) (by omega)) dX6_loose_24 (fun _ _ q => jx_out C (hlim _ _ (by omega) (by omega)) q) (fun v h12 hq => ?_)
  obtain ⟨v13, rfl, hv⟩ := qr_inv hq
  refine j_astore (lo' := [some (vr (some t)), some (vi x1), some (vi x2), some (vi x3), some (vi x4), some (vr v13), none]) C dX6_loose_27 (Nat.le_of_ble_eq_true rfl) rfl ?_
  refine j_aload_n C dX6_loose_29 rfl ?_
  refine j_iload C dX6_loose_30 rfl ?_
  obtain ⟨g17, hv⟩ := hv
  refine k_callV C 5 [vi x4] mv_X6_86 rfl rfl (fun l D dA sz hl => s_X6_lineAtOrNone (by omega) hv l D dA sz hl) rfl rfl (by decide) g17 rfl (by omega) (Nat.le_of_ble_eq_true rfl) (hlim _ _ (by omega) (by omega)) dX6_loose_32 (fun _ _ q => jx_out C (hlim _ _ (by omega) (by omega)) q) (fun v h15 hq => ?_)
  obtain ⟨v16, rfl, hv⟩ := qr_inv hq
  refine j_astore (lo' := [some (vr (some t)), some (vi x1), some (vi x2), some (vi x3), some (vi x4), some (vr v13), some (vr v16)]) C dX6_loose_35 (Nat.le_of_ble_eq_true rfl) rfl ?_
  refine j_aload_n C dX6_loose_37 rfl ?_
  refine j_iconst (v := (4 : Int32)) C dX6_loose_38 (by decide) ?_
  obtain ⟨g20, hv⟩ := hv
  refine k_callV C 5 [vi (4 : Int32)] mv_X6_63 rfl rfl (fun l D dA sz hl => s_X6_makeRoom (by omega) hv l D dA sz hl) rfl rfl (by decide) g20 rfl (by omega) (Nat.le_of_ble_eq_true rfl) (hlim _ _ (by omega) (by omega)) dX6_loose_39 (fun _ _ q => False.elim q) (fun v h18 hq => ?_)
  obtain ⟨v19, rfl, hv⟩ := qi_inv hq
  refine j_if_eq (tgt := 69) C dX6_loose_42 (by decide) ⟨fun q29 => ?_, fun q29 => ?_⟩
  · have hv := hv.1 q29
    refine j_iconst (v := (0 : Int32)) C dX6_loose_69 (by decide) ?_
    exact j_iret C dX6_loose_70 (hlim _ _ (by omega) (by omega)) hv
  · have hv := hv.2 q29
    refine j_aload_n C dX6_loose_45 rfl ?_
    refine j_iload_n C dX6_loose_46 rfl ?_
    refine j_new C (ci := 3) rfl inX3 tyX3_ok dfX3 wg_172 wg_434 wg_14 (by decide) (hlim _ _ (by omega) (by omega)) dX6_loose_47 (fun a21 f22 => ?_)
    have hv := hv a21 f22
    have g23 : tg (nO h18 a21 4) a21 = 4 := tO2
    refine j_dup C dX6_loose_50 rfl ?_
    refine j_iconst (v := (4 : Int32)) C dX6_loose_51 (by decide) ?_
    refine j_iload_n C dX6_loose_52 rfl ?_
    refine j_iadd C dX6_loose_53 ?_
    refine j_iconst (v := (4 : Int32)) C dX6_loose_54 (by decide) ?_
    refine j_aload C dX6_loose_55 rfl ?_
    refine j_null C dX6_loose_57 ?_
    refine j_aload C dX6_loose_58 rfl ?_
    refine k_callI C [vi ((4 : Int32) + x2), vi (4 : Int32), vr v13, vr none, vr v16] mi_X6_92 rfl rfl (fun l D dA sz hl => s_X3_init (by omega) hv l D dA sz hl) (fun _ _ q => q) rfl (by omega) (Nat.le_of_ble_eq_true rfl) (hlim _ _ (by omega) (by omega)) dX6_loose_60 (fun v h24 hq => ?_)
    obtain ⟨rfl, hv⟩ := qv_inv hq
    obtain ⟨g28, hv⟩ := hv
    refine k_callV C 5 [vi x1, vr (some a21)] mv_X6_72 rfl rfl (fun l D dA sz hl => s_X6_keep (by omega) hv l D dA sz hl) rfl rfl (by decide) g28 rfl (by omega) (Nat.le_of_ble_eq_true rfl) (hlim _ _ (by omega) (by omega)) dX6_loose_63 (fun _ _ q => False.elim q) (fun v h26 hq => ?_)
    obtain ⟨v27, rfl, hv⟩ := qi_inv hq
    refine j_goto (tgt := 70) C dX6_loose_66 (by decide) ?_
    exact j_iret C dX6_loose_70 (hlim _ _ (by omega) (by omega)) hv
def vc_X6_pair (t : Nat) (x1 : Int32) (x2 : Int32) (x3 : Int32) (x4 : Int32) (h : Hp) (Q : Option AV ⊕ String → Hp → Prop) : Prop :=
    tg h t = 6 ∧ vc_X6_checkRoot t x1 h (qv (fun h1 => tg h1 t = 6 ∧ vc_X6_checkRoot t x2 h1 (qv (fun h4 => tg h4 t = 6 ∧ vc_X6_checkRootOrNone t x3 h4 (qv (fun h7 => tg h7 t = 6 ∧ vc_X6_checkRootOrNone t x4 h7 (qv (fun h10 => tg h10 t = 6 ∧ vc_X6_objectAt t x2 h10 (qr (fun v14 h13 => tg h13 t = 6 ∧ vc_X6_atOrNone t x3 h13 (qr (fun v17 h16 => tg h16 t = 6 ∧ vc_X6_lineAtOrNone t x4 h16 (qr (fun v20 h19 => tg h19 t = 6 ∧ vc_X6_makeRoom t (5 : Int32) h19 (qi (fun v23 h22 => ((v23 = 0 → Q (.inl (some (vi (0 : Int32)))) h22) ∧ (¬ v23 = 0 → (∀ a25 : Nat, tg h22 a25 = 0 → vc_X3_init a25 (7 : Int32) (5 : Int32) v14 v17 v20 (nO h22 a25 4) (qv (fun h28 => tg h28 t = 6 ∧ vc_X6_keep t x1 (some a25) h28 (qi (fun v31 h30 => Q (.inl (some (vi v31))) h30) qn)) qn))))) qn)) (fun E hE => Q (.inr E) hE))) qn)) (fun E hE => Q (.inr E) hE))) (fun E hE => Q (.inr E) hE))) (fun E hE => Q (.inr E) hE))) (fun E hE => Q (.inr E) hE))) (fun E hE => Q (.inr E) hE))
set_option maxRecDepth 20000 in
theorem s_X6_pair {t : Nat} {x1 : Int32} {x2 : Int32} {x3 : Int32} {x4 : Int32} {h : Hp} {Q : Option AV ⊕ String → Hp → Prop} {lv : Nat} (hlv : lv + 8 ≤ 12) (hv : vc_X6_pair t x1 x2 x3 x4 h Q) (l : Launch) (D : va_G) (dA : Nat → ClassId) (sz : Nat) (hst : l.stackTraces = false) : Ctr l D dA sz (Cond.code yX6_pair cX6_pair 8 (some .int)) yX6_pair lv [vr (some t), vi x1, vi x2, vi x3, vi x4] h 7 50 Q := by
  refine Ctr.of (lo := [some (vr (some t)), some (vi x1), some (vi x2), some (vi x3), some (vi x4), none, none, none]) hst (by decide) (by simp [ena, isL]) rfl ?_
  intro G hg hlim C
  unfold vc_X6_pair at hv
  refine j_aload_n C dX6_pair_0 rfl ?_
  refine j_iload_n C dX6_pair_1 rfl ?_
  obtain ⟨g3, hv⟩ := hv
  refine k_callV C 5 [vi x1] mv_X6_55 rfl rfl (fun l D dA sz hl => s_X6_checkRoot (by omega) hv l D dA sz hl) rfl rfl (by decide) g3 rfl (by omega) (Nat.le_of_ble_eq_true rfl) (hlim _ _ (by omega) (by omega)) dX6_pair_2 (fun _ _ q => jx_out C (hlim _ _ (by omega) (by omega)) q) (fun v h1 hq => ?_)
  obtain ⟨rfl, hv⟩ := qv_inv hq
  refine j_aload_n C dX6_pair_5 rfl ?_
  refine j_iload_n C dX6_pair_6 rfl ?_
  obtain ⟨g6, hv⟩ := hv
  refine k_callV C 5 [vi x2] mv_X6_55 rfl rfl (fun l D dA sz hl => s_X6_checkRoot (by omega) hv l D dA sz hl) rfl rfl (by decide) g6 rfl (by omega) (Nat.le_of_ble_eq_true rfl) (hlim _ _ (by omega) (by omega)) dX6_pair_7 (fun _ _ q => jx_out C (hlim _ _ (by omega) (by omega)) q) (fun v h4 hq => ?_)
  obtain ⟨rfl, hv⟩ := qv_inv hq
  refine j_aload_n C dX6_pair_10 rfl ?_
  refine j_iload_n C dX6_pair_11 rfl ?_
  obtain ⟨g9, hv⟩ := hv
  refine k_callV C 5 [vi x3] mv_X6_79 rfl rfl (fun l D dA sz hl => s_X6_checkRootOrNone (by omega) hv l D dA sz hl) rfl rfl (by decide) g9 rfl (by omega) (Nat.le_of_ble_eq_true rfl) (hlim _ _ (by omega) (by omega)) dX6_pair_12 (fun _ _ q => jx_out C (hlim _ _ (by omega) (by omega)) q) (fun v h7 hq => ?_)
  obtain ⟨rfl, hv⟩ := qv_inv hq
  refine j_aload_n C dX6_pair_15 rfl ?_
  refine j_iload C dX6_pair_16 rfl ?_
  obtain ⟨g12, hv⟩ := hv
  refine k_callV C 5 [vi x4] mv_X6_79 rfl rfl (fun l D dA sz hl => s_X6_checkRootOrNone (by omega) hv l D dA sz hl) rfl rfl (by decide) g12 rfl (by omega) (Nat.le_of_ble_eq_true rfl) (hlim _ _ (by omega) (by omega)) dX6_pair_18 (fun _ _ q => jx_out C (hlim _ _ (by omega) (by omega)) q) (fun v h10 hq => ?_)
  obtain ⟨rfl, hv⟩ := qv_inv hq
  refine j_aload_n C dX6_pair_21 rfl ?_
  refine j_iload_n C dX6_pair_22 rfl ?_
  obtain ⟨g15, hv⟩ := hv
  refine k_callV C 5 [vi x2] mv_X6_82 rfl rfl (fun l D dA sz hl => s_X6_objectAt (by omega) hv l D dA sz hl) rfl rfl (by decide) g15 rfl (by omega) (Nat.le_of_ble_eq_true rfl) (hlim _ _ (by omega) (by omega)) dX6_pair_23 (fun _ _ q => jx_out C (hlim _ _ (by omega) (by omega)) q) (fun v h13 hq => ?_)
  obtain ⟨v14, rfl, hv⟩ := qr_inv hq
  refine j_astore (lo' := [some (vr (some t)), some (vi x1), some (vi x2), some (vi x3), some (vi x4), some (vr v14), none, none]) C dX6_pair_26 (Nat.le_of_ble_eq_true rfl) rfl ?_
  refine j_aload_n C dX6_pair_28 rfl ?_
  refine j_iload_n C dX6_pair_29 rfl ?_
  obtain ⟨g18, hv⟩ := hv
  refine k_callV C 5 [vi x3] mv_X6_95 rfl rfl (fun l D dA sz hl => s_X6_atOrNone (by omega) hv l D dA sz hl) rfl rfl (by decide) g18 rfl (by omega) (Nat.le_of_ble_eq_true rfl) (hlim _ _ (by omega) (by omega)) dX6_pair_30 (fun _ _ q => False.elim q) (fun v h16 hq => ?_)
  obtain ⟨v17, rfl, hv⟩ := qr_inv hq
  refine j_astore (lo' := [some (vr (some t)), some (vi x1), some (vi x2), some (vi x3), some (vi x4), some (vr v14), some (vr v17), none]) C dX6_pair_33 (Nat.le_of_ble_eq_true rfl) rfl ?_
  refine j_aload_n C dX6_pair_35 rfl ?_
  refine j_iload C dX6_pair_36 rfl ?_
  obtain ⟨g21, hv⟩ := hv
  refine k_callV C 5 [vi x4] mv_X6_86 rfl rfl (fun l D dA sz hl => s_X6_lineAtOrNone (by omega) hv l D dA sz hl) rfl rfl (by decide) g21 rfl (by omega) (Nat.le_of_ble_eq_true rfl) (hlim _ _ (by omega) (by omega)) dX6_pair_38 (fun _ _ q => jx_out C (hlim _ _ (by omega) (by omega)) q) (fun v h19 hq => ?_)
  obtain ⟨v20, rfl, hv⟩ := qr_inv hq
  refine j_astore (lo' := [some (vr (some t)), some (vi x1), some (vi x2), some (vi x3), some (vi x4), some (vr v14), some (vr v17), some (vr v20)]) C dX6_pair_41 (Nat.le_of_ble_eq_true rfl) rfl ?_
  refine j_aload_n C dX6_pair_43 rfl ?_
  refine j_iconst (v := (5 : Int32)) C dX6_pair_44 (by decide) ?_
  obtain ⟨g24, hv⟩ := hv
  refine k_callV C 5 [vi (5 : Int32)] mv_X6_63 rfl rfl (fun l D dA sz hl => s_X6_makeRoom (by omega) hv l D dA sz hl) rfl rfl (by decide) g24 rfl (by omega) (Nat.le_of_ble_eq_true rfl) (hlim _ _ (by omega) (by omega)) dX6_pair_45 (fun _ _ q => False.elim q) (fun v h22 hq => ?_)
  obtain ⟨v23, rfl, hv⟩ := qi_inv hq
  refine j_if_eq (tgt := 75) C dX6_pair_48 (by decide) ⟨fun q33 => ?_, fun q33 => ?_⟩
  · have hv := hv.1 q33
    refine j_iconst (v := (0 : Int32)) C dX6_pair_75 (by decide) ?_
    exact j_iret C dX6_pair_76 (hlim _ _ (by omega) (by omega)) hv
  · have hv := hv.2 q33
    refine j_aload_n C dX6_pair_51 rfl ?_
    refine j_iload_n C dX6_pair_52 rfl ?_
    refine j_new C (ci := 3) rfl inX3 tyX3_ok dfX3 wg_172 wg_434 wg_14 (by decide) (hlim _ _ (by omega) (by omega)) dX6_pair_53 (fun a25 f26 => ?_)
    have hv := hv a25 f26
    have g27 : tg (nO h22 a25 4) a25 = 4 := tO2
    refine j_dup C dX6_pair_56 rfl ?_
    refine j_bipush (v := (7 : Int32)) C dX6_pair_57 (by decide) ?_
    refine j_iconst (v := (5 : Int32)) C dX6_pair_59 (by decide) ?_
    refine j_aload C dX6_pair_60 rfl ?_
    refine j_aload C dX6_pair_62 rfl ?_
    refine j_aload C dX6_pair_64 rfl ?_
    refine k_callI C [vi (7 : Int32), vi (5 : Int32), vr v14, vr v17, vr v20] mi_X6_92 rfl rfl (fun l D dA sz hl => s_X3_init (by omega) hv l D dA sz hl) (fun _ _ q => q) rfl (by omega) (Nat.le_of_ble_eq_true rfl) (hlim _ _ (by omega) (by omega)) dX6_pair_66 (fun v h28 hq => ?_)
    obtain ⟨rfl, hv⟩ := qv_inv hq
    obtain ⟨g32, hv⟩ := hv
    refine k_callV C 5 [vi x1, vr (some a25)] mv_X6_72 rfl rfl (fun l D dA sz hl => s_X6_keep (by omega) hv l D dA sz hl) rfl rfl (by decide) g32 rfl (by omega) (Nat.le_of_ble_eq_true rfl) (hlim _ _ (by omega) (by omega)) dX6_pair_69 (fun _ _ q => False.elim q) (fun v h30 hq => ?_)
    obtain ⟨v31, rfl, hv⟩ := qi_inv hq
    refine j_goto (tgt := 76) C dX6_pair_72 (by decide) ?_
    exact j_iret C dX6_pair_76 (hlim _ _ (by omega) (by omega)) hv
def vc_X6_copy (t : Nat) (x1 : Int32) (x2 : Int32) (h : Hp) (Q : Option AV ⊕ String → Hp → Prop) : Prop :=
    tg h t = 6 ∧ vc_X6_checkRoot t x1 h (qv (fun h1 => tg h1 t = 6 ∧ vc_X6_checkRootOrNone t x2 h1 (qv (fun h4 => tg h4 t = 6 ∧ vc_X6_atOrNone t x2 h4 (qr (fun v8 h7 => tg h7 t = 6 ∧ vc_X6_putRoot t x1 v8 h7 (qi (fun v11 h10 => Q (.inl (some (vi v11))) h10) qn)) qn)) (fun E hE => Q (.inr E) hE))) (fun E hE => Q (.inr E) hE))
set_option maxRecDepth 20000 in
theorem s_X6_copy {t : Nat} {x1 : Int32} {x2 : Int32} {h : Hp} {Q : Option AV ⊕ String → Hp → Prop} {lv : Nat} (hlv : lv + 8 ≤ 12) (hv : vc_X6_copy t x1 x2 h Q) (l : Launch) (D : va_G) (dA : Nat → ClassId) (sz : Nat) (hst : l.stackTraces = false) : Ctr l D dA sz (Cond.code yX6_copy cX6_copy 3 (some .int)) yX6_copy lv [vr (some t), vi x1, vi x2] h 2 12 Q := by
  refine Ctr.of (lo := [some (vr (some t)), some (vi x1), some (vi x2)]) hst (by decide) (by simp [ena, isL]) rfl ?_
  intro G hg hlim C
  unfold vc_X6_copy at hv
  refine j_aload_n C dX6_copy_0 rfl ?_
  refine j_iload_n C dX6_copy_1 rfl ?_
  obtain ⟨g3, hv⟩ := hv
  refine k_callV C 5 [vi x1] mv_X6_55 rfl rfl (fun l D dA sz hl => s_X6_checkRoot (by omega) hv l D dA sz hl) rfl rfl (by decide) g3 rfl (by omega) (Nat.le_of_ble_eq_true rfl) (hlim _ _ (by omega) (by omega)) dX6_copy_2 (fun _ _ q => jx_out C (hlim _ _ (by omega) (by omega)) q) (fun v h1 hq => ?_)
  obtain ⟨rfl, hv⟩ := qv_inv hq
  refine j_aload_n C dX6_copy_5 rfl ?_
  refine j_iload_n C dX6_copy_6 rfl ?_
  obtain ⟨g6, hv⟩ := hv
  refine k_callV C 5 [vi x2] mv_X6_79 rfl rfl (fun l D dA sz hl => s_X6_checkRootOrNone (by omega) hv l D dA sz hl) rfl rfl (by decide) g6 rfl (by omega) (Nat.le_of_ble_eq_true rfl) (hlim _ _ (by omega) (by omega)) dX6_copy_7 (fun _ _ q => jx_out C (hlim _ _ (by omega) (by omega)) q) (fun v h4 hq => ?_)
  obtain ⟨rfl, hv⟩ := qv_inv hq
  refine j_aload_n C dX6_copy_10 rfl ?_
  refine j_iload_n C dX6_copy_11 rfl ?_
  refine j_aload_n C dX6_copy_12 rfl ?_
  refine j_iload_n C dX6_copy_13 rfl ?_
  obtain ⟨g9, hv⟩ := hv
  refine k_callV C 5 [vi x2] mv_X6_95 rfl rfl (fun l D dA sz hl => s_X6_atOrNone (by omega) hv l D dA sz hl) rfl rfl (by decide) g9 rfl (by omega) (Nat.le_of_ble_eq_true rfl) (hlim _ _ (by omega) (by omega)) dX6_copy_14 (fun _ _ q => False.elim q) (fun v h7 hq => ?_)
  obtain ⟨v8, rfl, hv⟩ := qr_inv hq
  obtain ⟨g12, hv⟩ := hv
  refine k_callV C 5 [vi x1, vr v8] mv_X6_98 rfl rfl (fun l D dA sz hl => s_X6_putRoot (by omega) hv l D dA sz hl) rfl rfl (by decide) g12 rfl (by omega) (Nat.le_of_ble_eq_true rfl) (hlim _ _ (by omega) (by omega)) dX6_copy_17 (fun _ _ q => False.elim q) (fun v h10 hq => ?_)
  obtain ⟨v11, rfl, hv⟩ := qi_inv hq
  exact j_iret C dX6_copy_20 (hlim _ _ (by omega) (by omega)) hv
def vc_X6_link (t : Nat) (x1 : Int32) (x2 : Int32) (x3 : Int32) (h : Hp) (Q : Option AV ⊕ String → Hp → Prop) : Prop :=
    tg h t = 6 ∧ vc_X6_checkRoot t x1 h (qv (fun h1 => vc_X6_checkNotNegative x2 h1 (qv (fun h4 => tg h4 t = 6 ∧ vc_X6_checkRootOrNone t x3 h4 (qv (fun h6 => tg h6 t = 6 ∧ vc_X6_holderOfRef t x1 x2 h6 (qr (fun v10 h9 => ∃ a12 : Nat, v10 = some a12 ∧ tg h9 a12 = 2 ∧ tg h9 t = 6 ∧ vc_X6_atOrNone t x3 h9 (qr (fun v16 h15 => ∃ a18 : Nat, fR h9 8 a12 = some a18 ∧ tg h15 a18 = 11 ∧ vp_in x2 (ln h15 a18) ∧ (∀ b : Nat, v16 = some b → thg h15 b) ∧ tg h15 a12 = 2 ∧ ∃ a24 : Nat, fR h15 8 a12 = some a24 ∧ tg h15 a24 = 11 ∧ vp_in x2 (ln h15 a24) ∧ vc_X6_oneIfObject (aR (qR h15 a18 x2.toNatClampNeg v16) a24 x2.toNatClampNeg) (qR h15 a18 x2.toNatClampNeg v16) (qi (fun v29 h28 => Q (.inl (some (vi v29))) h28) qn)) qn)) (fun E hE => Q (.inr E) hE))) (fun E hE => Q (.inr E) hE))) (fun E hE => Q (.inr E) hE))) (fun E hE => Q (.inr E) hE))
set_option maxRecDepth 20000 in
theorem s_X6_link {t : Nat} {x1 : Int32} {x2 : Int32} {x3 : Int32} {h : Hp} {Q : Option AV ⊕ String → Hp → Prop} {lv : Nat} (hlv : lv + 8 ≤ 12) (hv : vc_X6_link t x1 x2 x3 h Q) (l : Launch) (D : va_G) (dA : Nat → ClassId) (sz : Nat) (hst : l.stackTraces = false) : Ctr l D dA sz (Cond.code yX6_link cX6_link 5 (some .int)) yX6_link lv [vr (some t), vi x1, vi x2, vi x3] h 5 30 Q := by
  refine Ctr.of (lo := [some (vr (some t)), some (vi x1), some (vi x2), some (vi x3), none]) hst (by decide) (by simp [ena, isL]) rfl ?_
  intro G hg hlim C
  unfold vc_X6_link at hv
  refine j_aload_n C dX6_link_0 rfl ?_
  refine j_iload_n C dX6_link_1 rfl ?_
  obtain ⟨g3, hv⟩ := hv
  refine k_callV C 5 [vi x1] mv_X6_55 rfl rfl (fun l D dA sz hl => s_X6_checkRoot (by omega) hv l D dA sz hl) rfl rfl (by decide) g3 rfl (by omega) (Nat.le_of_ble_eq_true rfl) (hlim _ _ (by omega) (by omega)) dX6_link_2 (fun _ _ q => jx_out C (hlim _ _ (by omega) (by omega)) q) (fun v h1 hq => ?_)
  obtain ⟨rfl, hv⟩ := qv_inv hq
  refine j_iload_n C dX6_link_5 rfl ?_
  refine k_callS C [vi x2] ms_X6_101 rfl (fun l D dA sz hl => s_X6_checkNotNegative (by omega) hv l D dA sz hl) rfl (by omega) (Nat.le_of_ble_eq_true rfl) (hlim _ _ (by omega) (by omega)) dX6_link_6 (fun _ _ q => jx_out C (hlim _ _ (by omega) (by omega)) q) (fun v h4 hq => ?_)
  obtain ⟨rfl, hv⟩ := qv_inv hq
  refine j_aload_n C dX6_link_9 rfl ?_
  refine j_iload_n C dX6_link_10 rfl ?_
  obtain ⟨g8, hv⟩ := hv
  refine k_callV C 5 [vi x3] mv_X6_79 rfl rfl (fun l D dA sz hl => s_X6_checkRootOrNone (by omega) hv l D dA sz hl) rfl rfl (by decide) g8 rfl (by omega) (Nat.le_of_ble_eq_true rfl) (hlim _ _ (by omega) (by omega)) dX6_link_11 (fun _ _ q => jx_out C (hlim _ _ (by omega) (by omega)) q) (fun v h6 hq => ?_)
  obtain ⟨rfl, hv⟩ := qv_inv hq
  refine j_aload_n C dX6_link_14 rfl ?_
  refine j_iload_n C dX6_link_15 rfl ?_
  refine j_iload_n C dX6_link_16 rfl ?_
  obtain ⟨g11, hv⟩ := hv
  refine k_callV C 5 [vi x1, vi x2] mv_X6_104 rfl rfl (fun l D dA sz hl => s_X6_holderOfRef (by omega) hv l D dA sz hl) rfl rfl (by decide) g11 rfl (by omega) (Nat.le_of_ble_eq_true rfl) (hlim _ _ (by omega) (by omega)) dX6_link_17 (fun _ _ q => jx_out C (hlim _ _ (by omega) (by omega)) q) (fun v h9 hq => ?_)
  obtain ⟨v10, rfl, hv⟩ := qr_inv hq
  refine j_astore (lo' := [some (vr (some t)), some (vi x1), some (vi x2), some (vi x3), some (vr v10)]) C dX6_link_20 (Nat.le_of_ble_eq_true rfl) rfl ?_
  refine j_aload C dX6_link_22 rfl ?_
  obtain ⟨a12, e13, hv⟩ := hv
  obtain ⟨g14, hv⟩ := hv
  refine gf_X6_108 C e13 g14 dX6_link_24 ?_
  refine j_iload_n C dX6_link_27 rfl ?_
  refine j_aload_n C dX6_link_28 rfl ?_
  refine j_iload_n C dX6_link_29 rfl ?_
  obtain ⟨g17, hv⟩ := hv
  refine k_callV C 5 [vi x3] mv_X6_95 rfl rfl (fun l D dA sz hl => s_X6_atOrNone (by omega) hv l D dA sz hl) rfl rfl (by decide) g17 rfl (by omega) (Nat.le_of_ble_eq_true rfl) (hlim _ _ (by omega) (by omega)) dX6_link_30 (fun _ _ q => False.elim q) (fun v h15 hq => ?_)
  obtain ⟨v16, rfl, hv⟩ := qr_inv hq
  obtain ⟨a18, e19, hv⟩ := hv
  obtain ⟨g20, hv⟩ := hv
  obtain ⟨b21, hv⟩ := hv
  obtain ⟨z22, hv⟩ := hv
  refine k_aast (j := x2.toNatClampNeg) C e19 g20 b21 rfl z22 dX6_link_33 ?_
  refine j_aload C dX6_link_34 rfl ?_
  obtain ⟨g23, hv⟩ := hv
  refine gf_X6_108 C e13 g23 dX6_link_36 ?_
  refine j_iload_n C dX6_link_39 rfl ?_
  obtain ⟨a24, e25, hv⟩ := hv
  obtain ⟨g26, hv⟩ := hv
  obtain ⟨b27, hv⟩ := hv
  refine k_aald (j := x2.toNatClampNeg) C e25 g26 b27 rfl dX6_link_40 ?_
  refine k_callS C [vr (aR (qR h15 a18 x2.toNatClampNeg v16) a24 x2.toNatClampNeg)] ms_X6_111 rfl (fun l D dA sz hl => s_X6_oneIfObject (by omega) hv l D dA sz hl) rfl (by omega) (Nat.le_of_ble_eq_true rfl) (hlim _ _ (by omega) (by omega)) dX6_link_41 (fun _ _ q => False.elim q) (fun v h28 hq => ?_)
  obtain ⟨v29, rfl, hv⟩ := qi_inv hq
  exact j_iret C dX6_link_44 (hlim _ _ (by omega) (by omega)) hv
def vc_X6_fetch (t : Nat) (x1 : Int32) (x2 : Int32) (x3 : Int32) (h : Hp) (Q : Option AV ⊕ String → Hp → Prop) : Prop :=
    tg h t = 6 ∧ vc_X6_checkRoot t x1 h (qv (fun h1 => tg h1 t = 6 ∧ vc_X6_checkRoot t x2 h1 (qv (fun h4 => vc_X6_checkNotNegative x3 h4 (qv (fun h7 => tg h7 t = 6 ∧ vc_X6_holderOfRef t x2 x3 h7 (qr (fun v10 h9 => ∃ a12 : Nat, v10 = some a12 ∧ tg h9 a12 = 2 ∧ ∃ a15 : Nat, fR h9 8 a12 = some a15 ∧ tg h9 a15 = 11 ∧ vp_in x3 (ln h9 a15) ∧ tg h9 t = 6 ∧ vc_X6_putRoot t x1 (aR h9 a15 x3.toNatClampNeg) h9 (qi (fun v20 h19 => Q (.inl (some (vi v20))) h19) qn)) (fun E hE => Q (.inr E) hE))) (fun E hE => Q (.inr E) hE))) (fun E hE => Q (.inr E) hE))) (fun E hE => Q (.inr E) hE))
set_option maxRecDepth 20000 in
theorem s_X6_fetch {t : Nat} {x1 : Int32} {x2 : Int32} {x3 : Int32} {h : Hp} {Q : Option AV ⊕ String → Hp → Prop} {lv : Nat} (hlv : lv + 8 ≤ 12) (hv : vc_X6_fetch t x1 x2 x3 h Q) (l : Launch) (D : va_G) (dA : Nat → ClassId) (sz : Nat) (hst : l.stackTraces = false) : Ctr l D dA sz (Cond.code yX6_fetch cX6_fetch 4 (some .int)) yX6_fetch lv [vr (some t), vi x1, vi x2, vi x3] h 5 30 Q := by
  refine Ctr.of (lo := [some (vr (some t)), some (vi x1), some (vi x2), some (vi x3)]) hst (by decide) (by simp [ena, isL]) rfl ?_
  intro G hg hlim C
  unfold vc_X6_fetch at hv
  refine j_aload_n C dX6_fetch_0 rfl ?_
  refine j_iload_n C dX6_fetch_1 rfl ?_
  obtain ⟨g3, hv⟩ := hv
  refine k_callV C 5 [vi x1] mv_X6_55 rfl rfl (fun l D dA sz hl => s_X6_checkRoot (by omega) hv l D dA sz hl) rfl rfl (by decide) g3 rfl (by omega) (Nat.le_of_ble_eq_true rfl) (hlim _ _ (by omega) (by omega)) dX6_fetch_2 (fun _ _ q => jx_out C (hlim _ _ (by omega) (by omega)) q) (fun v h1 hq => ?_)
  obtain ⟨rfl, hv⟩ := qv_inv hq
  refine j_aload_n C dX6_fetch_5 rfl ?_
  refine j_iload_n C dX6_fetch_6 rfl ?_
  obtain ⟨g6, hv⟩ := hv
  refine k_callV C 5 [vi x2] mv_X6_55 rfl rfl (fun l D dA sz hl => s_X6_checkRoot (by omega) hv l D dA sz hl) rfl rfl (by decide) g6 rfl (by omega) (Nat.le_of_ble_eq_true rfl) (hlim _ _ (by omega) (by omega)) dX6_fetch_7 (fun _ _ q => jx_out C (hlim _ _ (by omega) (by omega)) q) (fun v h4 hq => ?_)
  obtain ⟨rfl, hv⟩ := qv_inv hq
  refine j_iload_n C dX6_fetch_10 rfl ?_
  refine k_callS C [vi x3] ms_X6_101 rfl (fun l D dA sz hl => s_X6_checkNotNegative (by omega) hv l D dA sz hl) rfl (by omega) (Nat.le_of_ble_eq_true rfl) (hlim _ _ (by omega) (by omega)) dX6_fetch_11 (fun _ _ q => jx_out C (hlim _ _ (by omega) (by omega)) q) (fun v h7 hq => ?_)
  obtain ⟨rfl, hv⟩ := qv_inv hq
  refine j_aload_n C dX6_fetch_14 rfl ?_
  refine j_iload_n C dX6_fetch_15 rfl ?_
  refine j_aload_n C dX6_fetch_16 rfl ?_
  refine j_iload_n C dX6_fetch_17 rfl ?_
  refine j_iload_n C dX6_fetch_18 rfl ?_
  obtain ⟨g11, hv⟩ := hv
  refine k_callV C 5 [vi x2, vi x3] mv_X6_104 rfl rfl (fun l D dA sz hl => s_X6_holderOfRef (by omega) hv l D dA sz hl) rfl rfl (by decide) g11 rfl (by omega) (Nat.le_of_ble_eq_true rfl) (hlim _ _ (by omega) (by omega)) dX6_fetch_19 (fun _ _ q => jx_out C (hlim _ _ (by omega) (by omega)) q) (fun v h9 hq => ?_)
  obtain ⟨v10, rfl, hv⟩ := qr_inv hq
  obtain ⟨a12, e13, hv⟩ := hv
  obtain ⟨g14, hv⟩ := hv
  refine gf_X6_108 C e13 g14 dX6_fetch_22 ?_
  refine j_iload_n C dX6_fetch_25 rfl ?_
  obtain ⟨a15, e16, hv⟩ := hv
  obtain ⟨g17, hv⟩ := hv
  obtain ⟨b18, hv⟩ := hv
  refine k_aald (j := x3.toNatClampNeg) C e16 g17 b18 rfl dX6_fetch_26 ?_
  obtain ⟨g21, hv⟩ := hv
  refine k_callV C 5 [vi x1, vr (aR h9 a15 x3.toNatClampNeg)] mv_X6_98 rfl rfl (fun l D dA sz hl => s_X6_putRoot (by omega) hv l D dA sz hl) rfl rfl (by decide) g21 rfl (by omega) (Nat.le_of_ble_eq_true rfl) (hlim _ _ (by omega) (by omega)) dX6_fetch_27 (fun _ _ q => False.elim q) (fun v h19 hq => ?_)
  obtain ⟨v20, rfl, hv⟩ := qi_inv hq
  exact j_iret C dX6_fetch_30 (hlim _ _ (by omega) (by omega)) hv
def vc_X6_set (t : Nat) (x1 : Int32) (x2 : Int32) (z3 : Int64) (h : Hp) (Q : Option AV ⊕ String → Hp → Prop) : Prop :=
    tg h t = 6 ∧ vc_X6_checkRoot t x1 h (qv (fun h1 => vc_X6_checkNotNegative x2 h1 (qv (fun h4 => tg h4 t = 6 ∧ vc_X6_holderOfNumber t x1 x2 h4 (qr (fun v7 h6 => ∃ a9 : Nat, v7 = some a9 ∧ tg h6 a9 = 2 ∧ ∃ a12 : Nat, fR h6 9 a9 = some a12 ∧ tg h6 a12 = 9 ∧ vp_in x2 (ln h6 a12) ∧ vp_in x2 (ln h6 a12) ∧ Q (.inl (some (vl (aL h6 a12 x2.toNatClampNeg)))) (qL h6 a12 x2.toNatClampNeg z3)) (fun E hE => Q (.inr E) hE))) (fun E hE => Q (.inr E) hE))) (fun E hE => Q (.inr E) hE))
set_option maxRecDepth 20000 in
theorem s_X6_set {t : Nat} {x1 : Int32} {x2 : Int32} {z3 : Int64} {h : Hp} {Q : Option AV ⊕ String → Hp → Prop} {lv : Nat} (hlv : lv + 8 ≤ 12) (hv : vc_X6_set t x1 x2 z3 h Q) (l : Launch) (D : va_G) (dA : Nat → ClassId) (sz : Nat) (hst : l.stackTraces = false) : Ctr l D dA sz (Cond.code yX6_set cX6_set 8 (some .long)) yX6_set lv [vr (some t), vi x1, vi x2, vl z3] h 4 24 Q := by
  refine Ctr.of (lo := [some (vr (some t)), some (vi x1), some (vi x2), some (vl z3), none, none, none, none]) hst (by decide) (by simp [ena, isL]) rfl ?_
  intro G hg hlim C
  unfold vc_X6_set at hv
  refine j_aload_n C dX6_set_0 rfl ?_
  refine j_iload_n C dX6_set_1 rfl ?_
  obtain ⟨g3, hv⟩ := hv
  refine k_callV C 5 [vi x1] mv_X6_55 rfl rfl (fun l D dA sz hl => s_X6_checkRoot (by omega) hv l D dA sz hl) rfl rfl (by decide) g3 rfl (by omega) (Nat.le_of_ble_eq_true rfl) (hlim _ _ (by omega) (by omega)) dX6_set_2 (fun _ _ q => jx_out C (hlim _ _ (by omega) (by omega)) q) (fun v h1 hq => ?_)
  obtain ⟨rfl, hv⟩ := qv_inv hq
  refine j_iload_n C dX6_set_5 rfl ?_
  refine k_callS C [vi x2] ms_X6_101 rfl (fun l D dA sz hl => s_X6_checkNotNegative (by omega) hv l D dA sz hl) rfl (by omega) (Nat.le_of_ble_eq_true rfl) (hlim _ _ (by omega) (by omega)) dX6_set_6 (fun _ _ q => jx_out C (hlim _ _ (by omega) (by omega)) q) (fun v h4 hq => ?_)
  obtain ⟨rfl, hv⟩ := qv_inv hq
  refine j_aload_n C dX6_set_9 rfl ?_
  refine j_iload_n C dX6_set_10 rfl ?_
  refine j_iload_n C dX6_set_11 rfl ?_
  obtain ⟨g8, hv⟩ := hv
  refine k_callV C 5 [vi x1, vi x2] mv_X6_115 rfl rfl (fun l D dA sz hl => s_X6_holderOfNumber (by omega) hv l D dA sz hl) rfl rfl (by decide) g8 rfl (by omega) (Nat.le_of_ble_eq_true rfl) (hlim _ _ (by omega) (by omega)) dX6_set_12 (fun _ _ q => jx_out C (hlim _ _ (by omega) (by omega)) q) (fun v h6 hq => ?_)
  obtain ⟨v7, rfl, hv⟩ := qr_inv hq
  refine j_astore (lo' := [some (vr (some t)), some (vi x1), some (vi x2), some (vl z3), none, some (vr v7), none, none]) C dX6_set_15 (Nat.le_of_ble_eq_true rfl) rfl ?_
  refine j_aload C dX6_set_17 rfl ?_
  obtain ⟨a9, e10, hv⟩ := hv
  obtain ⟨g11, hv⟩ := hv
  refine gf_X6_118 C e10 g11 dX6_set_19 ?_
  refine j_iload_n C dX6_set_22 rfl ?_
  obtain ⟨a12, e13, hv⟩ := hv
  obtain ⟨g14, hv⟩ := hv
  obtain ⟨b15, hv⟩ := hv
  refine k_lald (j := x2.toNatClampNeg) C e13 g14 b15 rfl dX6_set_23 ?_
  refine j_lstore (lo' := [some (vr (some t)), some (vi x1), some (vi x2), some (vl z3), none, some (vr v7), some (vl (aL h6 a12 x2.toNatClampNeg)), none]) C dX6_set_24 (Nat.le_of_ble_eq_true rfl) rfl ?_
  refine j_aload C dX6_set_26 rfl ?_
  refine gf_X6_118 C e10 g11 dX6_set_28 ?_
  refine j_iload_n C dX6_set_31 rfl ?_
  refine j_lload_n C dX6_set_32 rfl ?_
  obtain ⟨b16, hv⟩ := hv
  refine k_last (j := x2.toNatClampNeg) C e13 g14 b16 rfl dX6_set_33 ?_
  refine j_lload C dX6_set_34 rfl ?_
  exact j_lret C dX6_set_36 (hlim _ _ (by omega) (by omega)) hv
def vc_X6_get (t : Nat) (x1 : Int32) (x2 : Int32) (h : Hp) (Q : Option AV ⊕ String → Hp → Prop) : Prop :=
    tg h t = 6 ∧ vc_X6_checkRoot t x1 h (qv (fun h1 => vc_X6_checkNotNegative x2 h1 (qv (fun h4 => tg h4 t = 6 ∧ vc_X6_holderOfNumber t x1 x2 h4 (qr (fun v7 h6 => ∃ a9 : Nat, v7 = some a9 ∧ tg h6 a9 = 2 ∧ ∃ a12 : Nat, fR h6 9 a9 = some a12 ∧ tg h6 a12 = 9 ∧ vp_in x2 (ln h6 a12) ∧ Q (.inl (some (vl (aL h6 a12 x2.toNatClampNeg)))) h6) (fun E hE => Q (.inr E) hE))) (fun E hE => Q (.inr E) hE))) (fun E hE => Q (.inr E) hE))
set_option maxRecDepth 20000 in
theorem s_X6_get {t : Nat} {x1 : Int32} {x2 : Int32} {h : Hp} {Q : Option AV ⊕ String → Hp → Prop} {lv : Nat} (hlv : lv + 8 ≤ 12) (hv : vc_X6_get t x1 x2 h Q) (l : Launch) (D : va_G) (dA : Nat → ClassId) (sz : Nat) (hst : l.stackTraces = false) : Ctr l D dA sz (Cond.code yX6_get cX6_get 3 (some .long)) yX6_get lv [vr (some t), vi x1, vi x2] h 4 24 Q := by
  refine Ctr.of (lo := [some (vr (some t)), some (vi x1), some (vi x2)]) hst (by decide) (by simp [ena, isL]) rfl ?_
  intro G hg hlim C
  unfold vc_X6_get at hv
  refine j_aload_n C dX6_get_0 rfl ?_
  refine j_iload_n C dX6_get_1 rfl ?_
  obtain ⟨g3, hv⟩ := hv
  refine k_callV C 5 [vi x1] mv_X6_55 rfl rfl (fun l D dA sz hl => s_X6_checkRoot (by omega) hv l D dA sz hl) rfl rfl (by decide) g3 rfl (by omega) (Nat.le_of_ble_eq_true rfl) (hlim _ _ (by omega) (by omega)) dX6_get_2 (fun _ _ q => jx_out C (hlim _ _ (by omega) (by omega)) q) (fun v h1 hq => ?_)
  obtain ⟨rfl, hv⟩ := qv_inv hq
  refine j_iload_n C dX6_get_5 rfl ?_
  refine k_callS C [vi x2] ms_X6_101 rfl (fun l D dA sz hl => s_X6_checkNotNegative (by omega) hv l D dA sz hl) rfl (by omega) (Nat.le_of_ble_eq_true rfl) (hlim _ _ (by omega) (by omega)) dX6_get_6 (fun _ _ q => jx_out C (hlim _ _ (by omega) (by omega)) q) (fun v h4 hq => ?_)
  obtain ⟨rfl, hv⟩ := qv_inv hq
  refine j_aload_n C dX6_get_9 rfl ?_
  refine j_iload_n C dX6_get_10 rfl ?_
  refine j_iload_n C dX6_get_11 rfl ?_
  obtain ⟨g8, hv⟩ := hv
  refine k_callV C 5 [vi x1, vi x2] mv_X6_115 rfl rfl (fun l D dA sz hl => s_X6_holderOfNumber (by omega) hv l D dA sz hl) rfl rfl (by decide) g8 rfl (by omega) (Nat.le_of_ble_eq_true rfl) (hlim _ _ (by omega) (by omega)) dX6_get_12 (fun _ _ q => jx_out C (hlim _ _ (by omega) (by omega)) q) (fun v h6 hq => ?_)
  obtain ⟨v7, rfl, hv⟩ := qr_inv hq
  obtain ⟨a9, e10, hv⟩ := hv
  obtain ⟨g11, hv⟩ := hv
  refine gf_X6_118 C e10 g11 dX6_get_15 ?_
  refine j_iload_n C dX6_get_18 rfl ?_
  obtain ⟨a12, e13, hv⟩ := hv
  obtain ⟨g14, hv⟩ := hv
  obtain ⟨b15, hv⟩ := hv
  refine k_lald (j := x2.toNatClampNeg) C e13 g14 b15 rfl dX6_get_19 ?_
  exact j_lret C dX6_get_20 (hlim _ _ (by omega) (by omega)) hv
def vc_X6_referent (t : Nat) (x1 : Int32) (x2 : Int32) (x3 : Int32) (h : Hp) (Q : Option AV ⊕ String → Hp → Prop) : Prop :=
    ∀ (P56 : Option Nat → Int32 → Option Nat → Hp → Prop),
    (∀ (v0 : Option Nat) (w1 : Int32) (v2 : Option Nat) (h : Hp), (∃ a24 : Nat, v2 = some a24 ∧ tg h a24 = 6 ∧ vc_X6_putRoot a24 w1 v0 h (qi (fun v27 h26 => Q (.inl (some (vi v27))) h26) qn)) → P56 v0 w1 v2 h) →
    tg h t = 6 ∧ vc_X6_checkRoot t x1 h (qv (fun h1 => tg h1 t = 6 ∧ vc_X6_checkRoot t x2 h1 (qv (fun h4 => ((x3 = 0 → tg h4 t = 6 ∧ vc_X6_looseAt t x2 h4 (qr (fun v8 h7 => ∃ a10 : Nat, v8 = some a10 ∧ tg h7 a10 = 4 ∧ ((¬ (fI h7 0 a10) = (6 : Int32) → P56 (fR h7 13 a10) x1 (some t) h7) ∧ ((fI h7 0 a10) = (6 : Int32) → P56 none x1 (some t) h7))) (fun E hE => Q (.inr E) hE))) ∧ (¬ x3 = 0 → tg h4 t = 6 ∧ vc_X6_pairAt t x2 h4 (qr (fun v15 h14 => ∃ a17 : Nat, v15 = some a17 ∧ tg h14 a17 = 4 ∧ tg h14 t = 6 ∧ vc_X6_putRoot t x1 (fR h14 14 a17) h14 (qi (fun v21 h20 => Q (.inl (some (vi v21))) h20) qn)) (fun E hE => Q (.inr E) hE))))) (fun E hE => Q (.inr E) hE))) (fun E hE => Q (.inr E) hE))
set_option maxRecDepth 20000 in
theorem s_X6_referent {t : Nat} {x1 : Int32} {x2 : Int32} {x3 : Int32} {h : Hp} {Q : Option AV ⊕ String → Hp → Prop} {lv : Nat} (hlv : lv + 8 ≤ 12) (hv : vc_X6_referent t x1 x2 x3 h Q) (l : Launch) (D : va_G) (dA : Nat → ClassId) (sz : Nat) (hst : l.stackTraces = false) : Ctr l D dA sz (Cond.code yX6_referent cX6_referent 5 (some .int)) yX6_referent lv [vr (some t), vi x1, vi x2, vi x3] h 4 24 Q := by
  refine Ctr.of (lo := [some (vr (some t)), some (vi x1), some (vi x2), some (vi x3), none]) hst (by decide) (by simp [ena, isL]) rfl ?_
  intro G hg hlim C
  unfold vc_X6_referent at hv
  have hv := hv (fun v0 w1 v2 h => J G Q 56 [none, none, none, none, none] [vr v0, vi w1, vr v2] h 3 18)
  have hv := hv (by
      intro v0 w1 v2 h hv
      obtain ⟨a24, e25, hv⟩ := hv
      obtain ⟨g28, hv⟩ := hv
      refine k_callV C 5 [vi w1, vr v0] mv_X6_98 e25 rfl (fun l D dA sz hl => s_X6_putRoot (by omega) hv l D dA sz hl) rfl rfl (by decide) g28 rfl (by omega) (Nat.le_of_ble_eq_true rfl) (hlim _ _ (by omega) (by omega)) dX6_referent_56 (fun _ _ q => False.elim q) (fun v h26 hq => ?_)
      obtain ⟨v27, rfl, hv⟩ := qi_inv hq
      exact j_iret C dX6_referent_59 (hlim _ _ (by omega) (by omega)) hv)
  refine j_aload_n C dX6_referent_0 rfl ?_
  refine j_iload_n C dX6_referent_1 rfl ?_
  obtain ⟨g3, hv⟩ := hv
  refine k_callV C 5 [vi x1] mv_X6_55 rfl rfl (fun l D dA sz hl => s_X6_checkRoot (by omega) hv l D dA sz hl) rfl rfl (by decide) g3 rfl (by omega) (Nat.le_of_ble_eq_true rfl) (hlim _ _ (by omega) (by omega)) dX6_referent_2 (fun _ _ q => jx_out C (hlim _ _ (by omega) (by omega)) q) (fun v h1 hq => ?_)
  obtain ⟨rfl, hv⟩ := qv_inv hq
  refine j_aload_n C dX6_referent_5 rfl ?_
  refine j_iload_n C dX6_referent_6 rfl ?_
  obtain ⟨g6, hv⟩ := hv
  refine k_callV C 5 [vi x2] mv_X6_55 rfl rfl (fun l D dA sz hl => s_X6_checkRoot (by omega) hv l D dA sz hl) rfl rfl (by decide) g6 rfl (by omega) (Nat.le_of_ble_eq_true rfl) (hlim _ _ (by omega) (by omega)) dX6_referent_7 (fun _ _ q => jx_out C (hlim _ _ (by omega) (by omega)) q) (fun v h4 hq => ?_)
  obtain ⟨rfl, hv⟩ := qv_inv hq
  refine j_iload_n C dX6_referent_10 rfl ?_
  refine j_if_eq (tgt := 28) C dX6_referent_11 (by decide) ⟨fun q23 => ?_, fun q23 => ?_⟩
  · have hv := hv.1 q23
    refine j_aload_n C dX6_referent_28 rfl ?_
    refine j_iload_n C dX6_referent_29 rfl ?_
    obtain ⟨g9, hv⟩ := hv
    refine k_callV C 5 [vi x2] mv_X6_130 rfl rfl (fun l D dA sz hl => s_X6_looseAt (by omega) hv l D dA sz hl) rfl rfl (by decide) g9 rfl (by omega) (Nat.le_of_ble_eq_true rfl) (hlim _ _ (by omega) (by omega)) dX6_referent_30 (fun _ _ q => jx_out C (hlim _ _ (by omega) (by omega)) q) (fun v h7 hq => ?_)
    obtain ⟨v8, rfl, hv⟩ := qr_inv hq
    refine j_astore (lo' := [some (vr (some t)), some (vi x1), some (vi x2), some (vi x3), some (vr v8)]) C dX6_referent_33 (Nat.le_of_ble_eq_true rfl) rfl ?_
    refine j_aload_n C dX6_referent_35 rfl ?_
    refine j_iload_n C dX6_referent_36 rfl ?_
    refine j_aload C dX6_referent_37 rfl ?_
    obtain ⟨a10, e11, hv⟩ := hv
    obtain ⟨g12, hv⟩ := hv
    refine gf_X6_133 C e11 g12 dX6_referent_39 ?_
    refine j_bipush (v := (6 : Int32)) C dX6_referent_42 (by decide) ?_
    refine j_icmp_ne (tgt := 51) C dX6_referent_44 (by decide) ⟨fun q13 => ?_, fun q13 => ?_⟩
    · have hv := hv.1 q13
      refine j_aload C dX6_referent_51 rfl ?_
      refine gf_X6_136 C e11 g12 dX6_referent_53 ?_
      exact j_sub (by exact trivial) hv
    · have hv := hv.2 q13
      refine j_null C dX6_referent_47 ?_
      refine j_goto (tgt := 56) C dX6_referent_48 (by decide) ?_
      exact j_sub (by exact trivial) hv
  · have hv := hv.2 q23
    refine j_aload_n C dX6_referent_14 rfl ?_
    refine j_iload_n C dX6_referent_15 rfl ?_
    refine j_aload_n C dX6_referent_16 rfl ?_
    refine j_iload_n C dX6_referent_17 rfl ?_
    obtain ⟨g16, hv⟩ := hv
    refine k_callV C 5 [vi x2] mv_X6_122 rfl rfl (fun l D dA sz hl => s_X6_pairAt (by omega) hv l D dA sz hl) rfl rfl (by decide) g16 rfl (by omega) (Nat.le_of_ble_eq_true rfl) (hlim _ _ (by omega) (by omega)) dX6_referent_18 (fun _ _ q => jx_out C (hlim _ _ (by omega) (by omega)) q) (fun v h14 hq => ?_)
    obtain ⟨v15, rfl, hv⟩ := qr_inv hq
    obtain ⟨a17, e18, hv⟩ := hv
    obtain ⟨g19, hv⟩ := hv
    refine gf_X6_126 C e18 g19 dX6_referent_21 ?_
    obtain ⟨g22, hv⟩ := hv
    refine k_callV C 5 [vi x1, vr (fR h14 14 a17)] mv_X6_98 rfl rfl (fun l D dA sz hl => s_X6_putRoot (by omega) hv l D dA sz hl) rfl rfl (by decide) g22 rfl (by omega) (Nat.le_of_ble_eq_true rfl) (hlim _ _ (by omega) (by omega)) dX6_referent_24 (fun _ _ q => False.elim q) (fun v h20 hq => ?_)
    obtain ⟨v21, rfl, hv⟩ := qi_inv hq
    exact j_iret C dX6_referent_27 (hlim _ _ (by omega) (by omega)) hv
def vc_X6_give (t : Nat) (x1 : Int32) (x2 : Int32) (h : Hp) (Q : Option AV ⊕ String → Hp → Prop) : Prop :=
    tg h t = 6 ∧ vc_X6_checkRoot t x1 h (qv (fun h1 => tg h1 t = 6 ∧ vc_X6_checkRootOrNone t x2 h1 (qv (fun h4 => tg h4 t = 6 ∧ vc_X6_pairAt t x1 h4 (qr (fun v8 h7 => ∃ a10 : Nat, v8 = some a10 ∧ tg h7 a10 = 4 ∧ ((∀ a13 : Nat, fR h7 13 a10 = some a13 → tg h7 t = 6 ∧ vc_X6_atOrNone t x2 h7 (qr (fun v16 h15 => tg h15 a10 = 4 ∧ Q (.inl (some (vi (1 : Int32)))) (pR h15 14 a10 v16)) qn)) ∧ (fR h7 13 a10 = none → Q (.inl (some (vi (0 : Int32)))) h7))) (fun E hE => Q (.inr E) hE))) (fun E hE => Q (.inr E) hE))) (fun E hE => Q (.inr E) hE))
set_option maxRecDepth 20000 in
theorem s_X6_give {t : Nat} {x1 : Int32} {x2 : Int32} {h : Hp} {Q : Option AV ⊕ String → Hp → Prop} {lv : Nat} (hlv : lv + 8 ≤ 12) (hv : vc_X6_give t x1 x2 h Q) (l : Launch) (D : va_G) (dA : Nat → ClassId) (sz : Nat) (hst : l.stackTraces = false) : Ctr l D dA sz (Cond.code yX6_give cX6_give 4 (some .int)) yX6_give lv [vr (some t), vi x1, vi x2] h 4 24 Q := by
  refine Ctr.of (lo := [some (vr (some t)), some (vi x1), some (vi x2), none]) hst (by decide) (by simp [ena, isL]) rfl ?_
  intro G hg hlim C
  unfold vc_X6_give at hv
  refine j_aload_n C dX6_give_0 rfl ?_
  refine j_iload_n C dX6_give_1 rfl ?_
  obtain ⟨g3, hv⟩ := hv
  refine k_callV C 5 [vi x1] mv_X6_55 rfl rfl (fun l D dA sz hl => s_X6_checkRoot (by omega) hv l D dA sz hl) rfl rfl (by decide) g3 rfl (by omega) (Nat.le_of_ble_eq_true rfl) (hlim _ _ (by omega) (by omega)) dX6_give_2 (fun _ _ q => jx_out C (hlim _ _ (by omega) (by omega)) q) (fun v h1 hq => ?_)
  obtain ⟨rfl, hv⟩ := qv_inv hq
  refine j_aload_n C dX6_give_5 rfl ?_
  refine j_iload_n C dX6_give_6 rfl ?_
  obtain ⟨g6, hv⟩ := hv
  refine k_callV C 5 [vi x2] mv_X6_79 rfl rfl (fun l D dA sz hl => s_X6_checkRootOrNone (by omega) hv l D dA sz hl) rfl rfl (by decide) g6 rfl (by omega) (Nat.le_of_ble_eq_true rfl) (hlim _ _ (by omega) (by omega)) dX6_give_7 (fun _ _ q => jx_out C (hlim _ _ (by omega) (by omega)) q) (fun v h4 hq => ?_)
  obtain ⟨rfl, hv⟩ := qv_inv hq
  refine j_aload_n C dX6_give_10 rfl ?_
  refine j_iload_n C dX6_give_11 rfl ?_
  obtain ⟨g9, hv⟩ := hv
  refine k_callV C 5 [vi x1] mv_X6_122 rfl rfl (fun l D dA sz hl => s_X6_pairAt (by omega) hv l D dA sz hl) rfl rfl (by decide) g9 rfl (by omega) (Nat.le_of_ble_eq_true rfl) (hlim _ _ (by omega) (by omega)) dX6_give_12 (fun _ _ q => jx_out C (hlim _ _ (by omega) (by omega)) q) (fun v h7 hq => ?_)
  obtain ⟨v8, rfl, hv⟩ := qr_inv hq
  refine j_astore_n (lo' := [some (vr (some t)), some (vi x1), some (vi x2), some (vr v8)]) C dX6_give_15 (Nat.le_of_ble_eq_true rfl) rfl ?_
  refine j_aload_n C dX6_give_16 rfl ?_
  obtain ⟨a10, e11, hv⟩ := hv
  obtain ⟨g12, hv⟩ := hv
  refine gf_X6_136 C e11 g12 dX6_give_17 ?_
  refine j_ifnonnull (tgt := 25) C dX6_give_20 (by decide) ⟨fun a13 e14 => ?_, fun e14 => ?_⟩
  · have hv := hv.1 a13 e14
    refine j_aload_n C dX6_give_25 rfl ?_
    refine j_aload_n C dX6_give_26 rfl ?_
    refine j_iload_n C dX6_give_27 rfl ?_
    obtain ⟨g17, hv⟩ := hv
    refine k_callV C 5 [vi x2] mv_X6_95 rfl rfl (fun l D dA sz hl => s_X6_atOrNone (by omega) hv l D dA sz hl) rfl rfl (by decide) g17 rfl (by omega) (Nat.le_of_ble_eq_true rfl) (hlim _ _ (by omega) (by omega)) dX6_give_28 (fun _ _ q => False.elim q) (fun v h15 hq => ?_)
    obtain ⟨v16, rfl, hv⟩ := qr_inv hq
    obtain ⟨g18, hv⟩ := hv
    refine pf_X6_126 C e11 g18 dX6_give_31 ?_
    refine j_iconst (v := (1 : Int32)) C dX6_give_34 (by decide) ?_
    exact j_iret C dX6_give_35 (hlim _ _ (by omega) (by omega)) hv
  · have hv := hv.2 e14
    refine j_iconst (v := (0 : Int32)) C dX6_give_23 (by decide) ?_
    exact j_iret C dX6_give_24 (hlim _ _ (by omega) (by omega)) hv
def vc_X6_clear (t : Nat) (x1 : Int32) (x2 : Int32) (h : Hp) (Q : Option AV ⊕ String → Hp → Prop) : Prop :=
    tg h t = 6 ∧ vc_X6_checkRoot t x1 h (qv (fun h1 => tg h1 t = 6 ∧ vc_X6_looseAt t x1 h1 (qr (fun v5 h4 => ∃ a7 : Nat, v5 = some a7 ∧ tg h4 a7 = 4 ∧ vc_X3_forget a7 h4 (qv (fun h9 => ((x2 = 0 → Q (.inl (some (vi (0 : Int32)))) h9) ∧ (¬ x2 = 0 → tg h9 t = 6 ∧ vc_X6_tellQueue t v5 h9 (qi (fun v13 h12 => Q (.inl (some (vi v13))) h12) qn)))) qn)) (fun E hE => Q (.inr E) hE))) (fun E hE => Q (.inr E) hE))
set_option maxRecDepth 20000 in
theorem s_X6_clear {t : Nat} {x1 : Int32} {x2 : Int32} {h : Hp} {Q : Option AV ⊕ String → Hp → Prop} {lv : Nat} (hlv : lv + 8 ≤ 12) (hv : vc_X6_clear t x1 x2 h Q) (l : Launch) (D : va_G) (dA : Nat → ClassId) (sz : Nat) (hst : l.stackTraces = false) : Ctr l D dA sz (Cond.code yX6_clear cX6_clear 4 (some .int)) yX6_clear lv [vr (some t), vi x1, vi x2] h 2 12 Q := by
  refine Ctr.of (lo := [some (vr (some t)), some (vi x1), some (vi x2), none]) hst (by decide) (by simp [ena, isL]) rfl ?_
  intro G hg hlim C
  unfold vc_X6_clear at hv
  refine j_aload_n C dX6_clear_0 rfl ?_
  refine j_iload_n C dX6_clear_1 rfl ?_
  obtain ⟨g3, hv⟩ := hv
  refine k_callV C 5 [vi x1] mv_X6_55 rfl rfl (fun l D dA sz hl => s_X6_checkRoot (by omega) hv l D dA sz hl) rfl rfl (by decide) g3 rfl (by omega) (Nat.le_of_ble_eq_true rfl) (hlim _ _ (by omega) (by omega)) dX6_clear_2 (fun _ _ q => jx_out C (hlim _ _ (by omega) (by omega)) q) (fun v h1 hq => ?_)
  obtain ⟨rfl, hv⟩ := qv_inv hq
  refine j_aload_n C dX6_clear_5 rfl ?_
  refine j_iload_n C dX6_clear_6 rfl ?_
  obtain ⟨g6, hv⟩ := hv
  refine k_callV C 5 [vi x1] mv_X6_130 rfl rfl (fun l D dA sz hl => s_X6_looseAt (by omega) hv l D dA sz hl) rfl rfl (by decide) g6 rfl (by omega) (Nat.le_of_ble_eq_true rfl) (hlim _ _ (by omega) (by omega)) dX6_clear_7 (fun _ _ q => jx_out C (hlim _ _ (by omega) (by omega)) q) (fun v h4 hq => ?_)
  obtain ⟨v5, rfl, hv⟩ := qr_inv hq
  refine j_astore_n (lo' := [some (vr (some t)), some (vi x1), some (vi x2), some (vr v5)]) C dX6_clear_10 (Nat.le_of_ble_eq_true rfl) rfl ?_
  refine j_aload_n C dX6_clear_11 rfl ?_
  obtain ⟨a7, e8, hv⟩ := hv
  obtain ⟨g11, hv⟩ := hv
  refine k_callV C 3 [] mv_X6_139 e8 rfl (fun l D dA sz hl => s_X3_forget (by omega) hv l D dA sz hl) rfl rfl (by decide) g11 rfl (by omega) (Nat.le_of_ble_eq_true rfl) (hlim _ _ (by omega) (by omega)) dX6_clear_12 (fun _ _ q => False.elim q) (fun v h9 hq => ?_)
  obtain ⟨rfl, hv⟩ := qv_inv hq
  refine j_iload_n C dX6_clear_15 rfl ?_
  refine j_if_eq (tgt := 27) C dX6_clear_16 (by decide) ⟨fun q15 => ?_, fun q15 => ?_⟩
  · have hv := hv.1 q15
    refine j_iconst (v := (0 : Int32)) C dX6_clear_27 (by decide) ?_
    exact j_iret C dX6_clear_28 (hlim _ _ (by omega) (by omega)) hv
  · have hv := hv.2 q15
    refine j_aload_n C dX6_clear_19 rfl ?_
    refine j_aload_n C dX6_clear_20 rfl ?_
    obtain ⟨g14, hv⟩ := hv
    refine k_callV C 5 [vr v5] mv_X6_142 rfl rfl (fun l D dA sz hl => s_X6_tellQueue (by omega) hv l D dA sz hl) rfl rfl (by decide) g14 rfl (by omega) (Nat.le_of_ble_eq_true rfl) (hlim _ _ (by omega) (by omega)) dX6_clear_21 (fun _ _ q => False.elim q) (fun v h12 hq => ?_)
    obtain ⟨v13, rfl, hv⟩ := qi_inv hq
    refine j_goto (tgt := 28) C dX6_clear_24 (by decide) ?_
    exact j_iret C dX6_clear_28 (hlim _ _ (by omega) (by omega)) hv
def vc_X6_poll (t : Nat) (x1 : Int32) (x2 : Int32) (h : Hp) (Q : Option AV ⊕ String → Hp → Prop) : Prop :=
    tg h t = 6 ∧ vc_X6_checkRoot t x1 h (qv (fun h1 => tg h1 t = 6 ∧ vc_X6_checkRoot t x2 h1 (qv (fun h4 => tg h4 t = 6 ∧ vc_X6_lineAt t x2 h4 (qr (fun v8 h7 => ∃ a10 : Nat, v8 = some a10 ∧ tg h7 a10 = 3 ∧ vc_X2_takeFirst a10 h7 (qr (fun v13 h12 => tg h12 t = 6 ∧ vc_X6_putRoot t x1 v13 h12 (qi (fun v16 h15 => Q (.inl (some (vi v16))) h15) qn)) qn)) (fun E hE => Q (.inr E) hE))) (fun E hE => Q (.inr E) hE))) (fun E hE => Q (.inr E) hE))
set_option maxRecDepth 20000 in
theorem s_X6_poll {t : Nat} {x1 : Int32} {x2 : Int32} {h : Hp} {Q : Option AV ⊕ String → Hp → Prop} {lv : Nat} (hlv : lv + 8 ≤ 12) (hv : vc_X6_poll t x1 x2 h Q) (l : Launch) (D : va_G) (dA : Nat → ClassId) (sz : Nat) (hst : l.stackTraces = false) : Ctr l D dA sz (Cond.code yX6_poll cX6_poll 3 (some .int)) yX6_poll lv [vr (some t), vi x1, vi x2] h 3 18 Q := by
  refine Ctr.of (lo := [some (vr (some t)), some (vi x1), some (vi x2)]) hst (by decide) (by simp [ena, isL]) rfl ?_
  intro G hg hlim C
  unfold vc_X6_poll at hv
  refine j_aload_n C dX6_poll_0 rfl ?_
  refine j_iload_n C dX6_poll_1 rfl ?_
  obtain ⟨g3, hv⟩ := hv
  refine k_callV C 5 [vi x1] mv_X6_55 rfl rfl (fun l D dA sz hl => s_X6_checkRoot (by omega) hv l D dA sz hl) rfl rfl (by decide) g3 rfl (by omega) (Nat.le_of_ble_eq_true rfl) (hlim _ _ (by omega) (by omega)) dX6_poll_2 (fun _ _ q => jx_out C (hlim _ _ (by omega) (by omega)) q) (fun v h1 hq => ?_)
  obtain ⟨rfl, hv⟩ := qv_inv hq
  refine j_aload_n C dX6_poll_5 rfl ?_
  refine j_iload_n C dX6_poll_6 rfl ?_
  obtain ⟨g6, hv⟩ := hv
  refine k_callV C 5 [vi x2] mv_X6_55 rfl rfl (fun l D dA sz hl => s_X6_checkRoot (by omega) hv l D dA sz hl) rfl rfl (by decide) g6 rfl (by omega) (Nat.le_of_ble_eq_true rfl) (hlim _ _ (by omega) (by omega)) dX6_poll_7 (fun _ _ q => jx_out C (hlim _ _ (by omega) (by omega)) q) (fun v h4 hq => ?_)
  obtain ⟨rfl, hv⟩ := qv_inv hq
  refine j_aload_n C dX6_poll_10 rfl ?_
  refine j_iload_n C dX6_poll_11 rfl ?_
  refine j_aload_n C dX6_poll_12 rfl ?_
  refine j_iload_n C dX6_poll_13 rfl ?_
  obtain ⟨g9, hv⟩ := hv
  refine k_callV C 5 [vi x2] mv_X6_146 rfl rfl (fun l D dA sz hl => s_X6_lineAt (by omega) hv l D dA sz hl) rfl rfl (by decide) g9 rfl (by omega) (Nat.le_of_ble_eq_true rfl) (hlim _ _ (by omega) (by omega)) dX6_poll_14 (fun _ _ q => jx_out C (hlim _ _ (by omega) (by omega)) q) (fun v h7 hq => ?_)
  obtain ⟨v8, rfl, hv⟩ := qr_inv hq
  obtain ⟨a10, e11, hv⟩ := hv
  obtain ⟨g14, hv⟩ := hv
  refine k_callV C 2 [] mv_X6_149 e11 rfl (fun l D dA sz hl => s_X2_takeFirst (by omega) hv l D dA sz hl) rfl rfl (by decide) g14 rfl (by omega) (Nat.le_of_ble_eq_true rfl) (hlim _ _ (by omega) (by omega)) dX6_poll_17 (fun _ _ q => False.elim q) (fun v h12 hq => ?_)
  obtain ⟨v13, rfl, hv⟩ := qr_inv hq
  obtain ⟨g17, hv⟩ := hv
  refine k_callV C 5 [vi x1, vr v13] mv_X6_98 rfl rfl (fun l D dA sz hl => s_X6_putRoot (by omega) hv l D dA sz hl) rfl rfl (by decide) g17 rfl (by omega) (Nat.le_of_ble_eq_true rfl) (hlim _ _ (by omega) (by omega)) dX6_poll_20 (fun _ _ q => False.elim q) (fun v h15 hq => ?_)
  obtain ⟨v16, rfl, hv⟩ := qi_inv hq
  exact j_iret C dX6_poll_23 (hlim _ _ (by omega) (by omega)) hv
def vc_X6_waiting (t : Nat) (x1 : Int32) (h : Hp) (Q : Option AV ⊕ String → Hp → Prop) : Prop :=
    tg h t = 6 ∧ vc_X6_checkRoot t x1 h (qv (fun h1 => tg h1 t = 6 ∧ vc_X6_lineAt t x1 h1 (qr (fun v5 h4 => ∃ a7 : Nat, v5 = some a7 ∧ tg h4 a7 = 3 ∧ Q (.inl (some (vi (fI h4 12 a7)))) h4) (fun E hE => Q (.inr E) hE))) (fun E hE => Q (.inr E) hE))
set_option maxRecDepth 20000 in
theorem s_X6_waiting {t : Nat} {x1 : Int32} {h : Hp} {Q : Option AV ⊕ String → Hp → Prop} {lv : Nat} (hlv : lv + 8 ≤ 12) (hv : vc_X6_waiting t x1 h Q) (l : Launch) (D : va_G) (dA : Nat → ClassId) (sz : Nat) (hst : l.stackTraces = false) : Ctr l D dA sz (Cond.code yX6_waiting cX6_waiting 2 (some .int)) yX6_waiting lv [vr (some t), vi x1] h 2 12 Q := by
  refine Ctr.of (lo := [some (vr (some t)), some (vi x1)]) hst (by decide) (by simp [ena, isL]) rfl ?_
  intro G hg hlim C
  unfold vc_X6_waiting at hv
  refine j_aload_n C dX6_waiting_0 rfl ?_
  refine j_iload_n C dX6_waiting_1 rfl ?_
  obtain ⟨g3, hv⟩ := hv
  refine k_callV C 5 [vi x1] mv_X6_55 rfl rfl (fun l D dA sz hl => s_X6_checkRoot (by omega) hv l D dA sz hl) rfl rfl (by decide) g3 rfl (by omega) (Nat.le_of_ble_eq_true rfl) (hlim _ _ (by omega) (by omega)) dX6_waiting_2 (fun _ _ q => jx_out C (hlim _ _ (by omega) (by omega)) q) (fun v h1 hq => ?_)
  obtain ⟨rfl, hv⟩ := qv_inv hq
  refine j_aload_n C dX6_waiting_5 rfl ?_
  refine j_iload_n C dX6_waiting_6 rfl ?_
  obtain ⟨g6, hv⟩ := hv
  refine k_callV C 5 [vi x1] mv_X6_146 rfl rfl (fun l D dA sz hl => s_X6_lineAt (by omega) hv l D dA sz hl) rfl rfl (by decide) g6 rfl (by omega) (Nat.le_of_ble_eq_true rfl) (hlim _ _ (by omega) (by omega)) dX6_waiting_7 (fun _ _ q => jx_out C (hlim _ _ (by omega) (by omega)) q) (fun v h4 hq => ?_)
  obtain ⟨v5, rfl, hv⟩ := qr_inv hq
  obtain ⟨a7, e8, hv⟩ := hv
  obtain ⟨g9, hv⟩ := hv
  refine gf_X6_153 C e8 g9 dX6_waiting_10 ?_
  exact j_iret C dX6_waiting_13 (hlim _ _ (by omega) (by omega)) hv
def vc_X6_kind (t : Nat) (x1 : Int32) (h : Hp) (Q : Option AV ⊕ String → Hp → Prop) : Prop :=
    tg h t = 6 ∧ vc_X6_checkRoot t x1 h (qv (fun h1 => tg h1 t = 6 ∧ ∃ a5 : Nat, fR h1 29 t = some a5 ∧ tg h1 a5 = 11 ∧ vp_in x1 (ln h1 a5) ∧ ((∀ a9 : Nat, aR h1 a5 x1.toNatClampNeg = some a9 → thg h1 a9 ∧ Q (.inl (some (vi (fI h1 0 a9)))) h1) ∧ (aR h1 a5 x1.toNatClampNeg = none → Q (.inl (some (vi (-1 : Int32)))) h1))) (fun E hE => Q (.inr E) hE))
set_option maxRecDepth 20000 in
theorem s_X6_kind {t : Nat} {x1 : Int32} {h : Hp} {Q : Option AV ⊕ String → Hp → Prop} {lv : Nat} (hlv : lv + 8 ≤ 12) (hv : vc_X6_kind t x1 h Q) (l : Launch) (D : va_G) (dA : Nat → ClassId) (sz : Nat) (hst : l.stackTraces = false) : Ctr l D dA sz (Cond.code yX6_kind cX6_kind 3 (some .int)) yX6_kind lv [vr (some t), vi x1] h 1 6 Q := by
  refine Ctr.of (lo := [some (vr (some t)), some (vi x1), none]) hst (by decide) (by simp [ena, isL]) rfl ?_
  intro G hg hlim C
  unfold vc_X6_kind at hv
  refine j_aload_n C dX6_kind_0 rfl ?_
  refine j_iload_n C dX6_kind_1 rfl ?_
  obtain ⟨g3, hv⟩ := hv
  refine k_callV C 5 [vi x1] mv_X6_55 rfl rfl (fun l D dA sz hl => s_X6_checkRoot (by omega) hv l D dA sz hl) rfl rfl (by decide) g3 rfl (by omega) (Nat.le_of_ble_eq_true rfl) (hlim _ _ (by omega) (by omega)) dX6_kind_2 (fun _ _ q => jx_out C (hlim _ _ (by omega) (by omega)) q) (fun v h1 hq => ?_)
  obtain ⟨rfl, hv⟩ := qv_inv hq
  refine j_aload_n C dX6_kind_5 rfl ?_
  obtain ⟨g4, hv⟩ := hv
  refine gf_X6_11 C rfl g4 dX6_kind_6 ?_
  refine j_iload_n C dX6_kind_9 rfl ?_
  obtain ⟨a5, e6, hv⟩ := hv
  obtain ⟨g7, hv⟩ := hv
  obtain ⟨b8, hv⟩ := hv
  refine k_aald (j := x1.toNatClampNeg) C e6 g7 b8 rfl dX6_kind_10 ?_
  refine j_astore_n (lo' := [some (vr (some t)), some (vi x1), some (vr (aR h1 a5 x1.toNatClampNeg))]) C dX6_kind_11 (Nat.le_of_ble_eq_true rfl) rfl ?_
  refine j_aload_n C dX6_kind_12 rfl ?_
  refine j_ifnonnull (tgt := 20) C dX6_kind_13 (by decide) ⟨fun a9 e10 => ?_, fun e10 => ?_⟩
  · have hv := hv.1 a9 e10
    refine j_aload_n C dX6_kind_20 rfl ?_
    obtain ⟨g11, hv⟩ := hv
    refine gf_X6_156 C e10 g11 dX6_kind_21 ?_
    exact j_iret C dX6_kind_24 (hlim _ _ (by omega) (by omega)) hv
  · have hv := hv.2 e10
    refine j_iconst (v := (-1 : Int32)) C dX6_kind_16 (by decide) ?_
    refine j_goto (tgt := 24) C dX6_kind_17 (by decide) ?_
    exact j_iret C dX6_kind_24 (hlim _ _ (by omega) (by omega)) hv
def vc_X6_hash (t : Nat) (x1 : Int32) (h : Hp) (Q : Option AV ⊕ String → Hp → Prop) : Prop :=
    ∀ (P47 : Option Nat → Hp → Prop),
    (∀ (u2 : Option Nat) (h : Hp), (∃ a19 : Nat, u2 = some a19 ∧ thg h a19 ∧ Q (.inl (some (vi (fI h 2 a19)))) h) → P47 u2 h) →
    tg h t = 6 ∧ vc_X6_checkRoot t x1 h (qv (fun h1 => tg h1 t = 6 ∧ ∃ a5 : Nat, fR h1 29 t = some a5 ∧ tg h1 a5 = 11 ∧ vp_in x1 (ln h1 a5) ∧ ((∀ a9 : Nat, aR h1 a5 x1.toNatClampNeg = some a9 → thg h1 a9 ∧ ((¬ (fI h1 2 a9) = 0 → P47 (aR h1 a5 x1.toNatClampNeg) h1) ∧ ((fI h1 2 a9) = 0 → ∃ a12 : Nat, fR h1 31 t = some a12 ∧ tg h1 a12 = 8 ∧ vp_in (8 : Int32) (ln h1 a12) ∧ vp_in (8 : Int32) (ln h1 a12) ∧ vp_in (8 : Int32) (ln h1 a12) ∧ P47 (aR h1 a5 x1.toNatClampNeg) (pI (qI h1 a12 8 ((aI h1 a12 8) + (1 : Int32))) 2 a9 (aI (qI h1 a12 8 ((aI h1 a12 8) + (1 : Int32))) a12 8))))) ∧ (aR h1 a5 x1.toNatClampNeg = none → Q (.inl (some (vi (0 : Int32)))) h1))) (fun E hE => Q (.inr E) hE))
set_option maxRecDepth 20000 in
theorem s_X6_hash {t : Nat} {x1 : Int32} {h : Hp} {Q : Option AV ⊕ String → Hp → Prop} {lv : Nat} (hlv : lv + 8 ≤ 12) (hv : vc_X6_hash t x1 h Q) (l : Launch) (D : va_G) (dA : Nat → ClassId) (sz : Nat) (hst : l.stackTraces = false) : Ctr l D dA sz (Cond.code yX6_hash cX6_hash 3 (some .int)) yX6_hash lv [vr (some t), vi x1] h 1 6 Q := by
  refine Ctr.of (lo := [some (vr (some t)), some (vi x1), none]) hst (by decide) (by simp [ena, isL]) rfl ?_
  intro G hg hlim C
  unfold vc_X6_hash at hv
  have hv := hv (fun u2 h => J G Q 47 [none, none, some (vr u2)] [] h 1 6)
  have hv := hv (by
      intro u2 h hv
      refine j_aload_n C dX6_hash_47 rfl ?_
      obtain ⟨a19, e20, hv⟩ := hv
      obtain ⟨g21, hv⟩ := hv
      refine gf_X6_157 C e20 g21 dX6_hash_48 ?_
      exact j_iret C dX6_hash_51 (hlim _ _ (by omega) (by omega)) hv)
  refine j_aload_n C dX6_hash_0 rfl ?_
  refine j_iload_n C dX6_hash_1 rfl ?_
  obtain ⟨g3, hv⟩ := hv
  refine k_callV C 5 [vi x1] mv_X6_55 rfl rfl (fun l D dA sz hl => s_X6_checkRoot (by omega) hv l D dA sz hl) rfl rfl (by decide) g3 rfl (by omega) (Nat.le_of_ble_eq_true rfl) (hlim _ _ (by omega) (by omega)) dX6_hash_2 (fun _ _ q => jx_out C (hlim _ _ (by omega) (by omega)) q) (fun v h1 hq => ?_)
  obtain ⟨rfl, hv⟩ := qv_inv hq
  refine j_aload_n C dX6_hash_5 rfl ?_
  obtain ⟨g4, hv⟩ := hv
  refine gf_X6_11 C rfl g4 dX6_hash_6 ?_
  refine j_iload_n C dX6_hash_9 rfl ?_
  obtain ⟨a5, e6, hv⟩ := hv
  obtain ⟨g7, hv⟩ := hv
  obtain ⟨b8, hv⟩ := hv
  refine k_aald (j := x1.toNatClampNeg) C e6 g7 b8 rfl dX6_hash_10 ?_
  refine j_astore_n (lo' := [some (vr (some t)), some (vi x1), some (vr (aR h1 a5 x1.toNatClampNeg))]) C dX6_hash_11 (Nat.le_of_ble_eq_true rfl) rfl ?_
  refine j_aload_n C dX6_hash_12 rfl ?_
  refine j_ifnonnull (tgt := 18) C dX6_hash_13 (by decide) ⟨fun a9 e10 => ?_, fun e10 => ?_⟩
  · have hv := hv.1 a9 e10
    refine j_aload_n C dX6_hash_18 rfl ?_
    obtain ⟨g11, hv⟩ := hv
    refine gf_X6_157 C e10 g11 dX6_hash_19 ?_
    refine j_if_ne (tgt := 47) C dX6_hash_22 (by decide) ⟨fun q18 => ?_, fun q18 => ?_⟩
    · have hv := hv.1 q18
      exact j_sub (by exact (And.intro rfl trivial)) hv
    · have hv := hv.2 q18
      refine j_aload_n C dX6_hash_25 rfl ?_
      refine gf_X6_19 C rfl g4 dX6_hash_26 ?_
      refine j_bipush (v := (8 : Int32)) C dX6_hash_29 (by decide) ?_
      refine j_dup2 C dX6_hash_31 rfl rfl ?_
      obtain ⟨a12, e13, hv⟩ := hv
      obtain ⟨g14, hv⟩ := hv
      obtain ⟨b15, hv⟩ := hv
      refine k_iald (j := 8) C e13 g14 b15 (by decide) dX6_hash_32 ?_
      refine j_iconst (v := (1 : Int32)) C dX6_hash_33 (by decide) ?_
      refine j_iadd C dX6_hash_34 ?_
      obtain ⟨b16, hv⟩ := hv
      refine k_iast (j := 8) C e13 g14 b16 (by decide) dX6_hash_35 ?_
      refine j_aload_n C dX6_hash_36 rfl ?_
      refine j_aload_n C dX6_hash_37 rfl ?_
      refine gf_X6_19 C rfl g4 dX6_hash_38 ?_
      refine j_bipush (v := (8 : Int32)) C dX6_hash_41 (by decide) ?_
      obtain ⟨b17, hv⟩ := hv
      refine k_iald (j := 8) C e13 g14 b17 (by decide) dX6_hash_43 ?_
      refine pf_X6_157 C e10 g11 dX6_hash_44 ?_
      exact j_sub (by exact (And.intro rfl trivial)) hv
  · have hv := hv.2 e10
    refine j_iconst (v := (0 : Int32)) C dX6_hash_16 (by decide) ?_
    exact j_iret C dX6_hash_17 (hlim _ _ (by omega) (by omega)) hv
def vc_X6_same (t : Nat) (x1 : Int32) (x2 : Int32) (h : Hp) (Q : Option AV ⊕ String → Hp → Prop) : Prop :=
    tg h t = 6 ∧ vc_X6_checkRoot t x1 h (qv (fun h1 => tg h1 t = 6 ∧ vc_X6_checkRoot t x2 h1 (qv (fun h4 => tg h4 t = 6 ∧ ∃ a8 : Nat, fR h4 29 t = some a8 ∧ tg h4 a8 = 11 ∧ vp_in x1 (ln h4 a8) ∧ vp_in x2 (ln h4 a8) ∧ ((¬ (aR h4 a8 x1.toNatClampNeg) = (aR h4 a8 x2.toNatClampNeg) → Q (.inl (some (vi (0 : Int32)))) h4) ∧ ((aR h4 a8 x1.toNatClampNeg) = (aR h4 a8 x2.toNatClampNeg) → Q (.inl (some (vi (1 : Int32)))) h4))) (fun E hE => Q (.inr E) hE))) (fun E hE => Q (.inr E) hE))
set_option maxRecDepth 20000 in
theorem s_X6_same {t : Nat} {x1 : Int32} {x2 : Int32} {h : Hp} {Q : Option AV ⊕ String → Hp → Prop} {lv : Nat} (hlv : lv + 8 ≤ 12) (hv : vc_X6_same t x1 x2 h Q) (l : Launch) (D : va_G) (dA : Nat → ClassId) (sz : Nat) (hst : l.stackTraces = false) : Ctr l D dA sz (Cond.code yX6_same cX6_same 3 (some .boolean)) yX6_same lv [vr (some t), vi x1, vi x2] h 2 12 Q := by
  refine Ctr.of (lo := [some (vr (some t)), some (vi x1), some (vi x2)]) hst (by decide) (by simp [ena, isL]) rfl ?_
  intro G hg hlim C
  unfold vc_X6_same at hv
  refine j_aload_n C dX6_same_0 rfl ?_
  refine j_iload_n C dX6_same_1 rfl ?_
  obtain ⟨g3, hv⟩ := hv
  refine k_callV C 5 [vi x1] mv_X6_55 rfl rfl (fun l D dA sz hl => s_X6_checkRoot (by omega) hv l D dA sz hl) rfl rfl (by decide) g3 rfl (by omega) (Nat.le_of_ble_eq_true rfl) (hlim _ _ (by omega) (by omega)) dX6_same_2 (fun _ _ q => jx_out C (hlim _ _ (by omega) (by omega)) q) (fun v h1 hq => ?_)
  obtain ⟨rfl, hv⟩ := qv_inv hq
  refine j_aload_n C dX6_same_5 rfl ?_
  refine j_iload_n C dX6_same_6 rfl ?_
  obtain ⟨g6, hv⟩ := hv
  refine k_callV C 5 [vi x2] mv_X6_55 rfl rfl (fun l D dA sz hl => s_X6_checkRoot (by omega) hv l D dA sz hl) rfl rfl (by decide) g6 rfl (by omega) (Nat.le_of_ble_eq_true rfl) (hlim _ _ (by omega) (by omega)) dX6_same_7 (fun _ _ q => jx_out C (hlim _ _ (by omega) (by omega)) q) (fun v h4 hq => ?_)
  obtain ⟨rfl, hv⟩ := qv_inv hq
  refine j_aload_n C dX6_same_10 rfl ?_
  obtain ⟨g7, hv⟩ := hv
  refine gf_X6_11 C rfl g7 dX6_same_11 ?_
  refine j_iload_n C dX6_same_14 rfl ?_
  obtain ⟨a8, e9, hv⟩ := hv
  obtain ⟨g10, hv⟩ := hv
  obtain ⟨b11, hv⟩ := hv
  refine k_aald (j := x1.toNatClampNeg) C e9 g10 b11 rfl dX6_same_15 ?_
  refine j_aload_n C dX6_same_16 rfl ?_
  refine gf_X6_11 C rfl g7 dX6_same_17 ?_
  refine j_iload_n C dX6_same_20 rfl ?_
  obtain ⟨b12, hv⟩ := hv
  refine k_aald (j := x2.toNatClampNeg) C e9 g10 b12 rfl dX6_same_21 ?_
  refine j_acmp_ne (tgt := 29) C dX6_same_22 (by decide) ⟨fun q13 => ?_, fun q13 => ?_⟩
  · have hv := hv.1 q13
    refine j_iconst (v := (0 : Int32)) C dX6_same_29 (by decide) ?_
    exact j_zret C (Or.inl rfl) dX6_same_30 (hlim _ _ (by omega) (by omega)) hv
  · have hv := hv.2 q13
    refine j_iconst (v := (1 : Int32)) C dX6_same_25 (by decide) ?_
    refine j_goto (tgt := 30) C dX6_same_26 (by decide) ?_
    exact j_zret C (Or.inr rfl) dX6_same_30 (hlim _ _ (by omega) (by omega)) hv
def vc_X6_open (t : Nat) (x1 : Int32) (h : Hp) (Q : Option AV ⊕ String → Hp → Prop) : Prop :=
    vc_X6_checkRange x1 (1 : Int32) (16 : Int32) h (qv (fun h1 => tg h1 t = 6 ∧ (((fI h1 35 t) < (20 : Int32) → ∃ a4 : Nat, fR h1 31 t = some a4 ∧ tg h1 a4 = 8 ∧ vp_in (7 : Int32) (ln h1 a4) ∧ ∃ a8 : Nat, fR h1 30 t = some a8 ∧ tg h1 a8 = 8 ∧ vp_in (fI h1 35 t) (ln h1 a8) ∧ vp_in (7 : Int32) (ln h1 a4) ∧ Q (.inl (some (vi (aI h1 a4 7)))) (qI (pI (qI h1 a8 ((fI h1 35 t).toNatClampNeg) (aI h1 a4 7)) 35 t ((fI h1 35 t) + (1 : Int32))) a4 7 ((aI h1 a4 7) + x1))) ∧ (¬ (fI h1 35 t) < (20 : Int32) → Q (.inr xS) h1))) (fun E hE => Q (.inr E) hE))
set_option maxRecDepth 20000 in
theorem s_X6_open {t : Nat} {x1 : Int32} {h : Hp} {Q : Option AV ⊕ String → Hp → Prop} {lv : Nat} (hlv : lv + 7 ≤ 12) (hv : vc_X6_open t x1 h Q) (l : Launch) (D : va_G) (dA : Nat → ClassId) (sz : Nat) (hst : l.stackTraces = false) : Ctr l D dA sz (Cond.code yX6_open cX6_open 3 (some .int)) yX6_open lv [vr (some t), vi x1] h 2 12 Q := by
  refine Ctr.of (lo := [some (vr (some t)), some (vi x1), none]) hst (by decide) (by simp [ena, isL]) rfl ?_
  intro G hg hlim C
  unfold vc_X6_open at hv
  refine j_iload_n C dX6_open_0 rfl ?_
  refine j_iconst (v := (1 : Int32)) C dX6_open_1 (by decide) ?_
  refine j_bipush (v := (16 : Int32)) C dX6_open_2 (by decide) ?_
  refine k_callS C [vi x1, vi (1 : Int32), vi (16 : Int32)] ms_X6_59 rfl (fun l D dA sz hl => s_X6_checkRange (by omega) hv l D dA sz hl) rfl (by omega) (Nat.le_of_ble_eq_true rfl) (hlim _ _ (by omega) (by omega)) dX6_open_4 (fun _ _ q => jx_out C (hlim _ _ (by omega) (by omega)) q) (fun v h1 hq => ?_)
  obtain ⟨rfl, hv⟩ := qv_inv hq
  refine j_aload_n C dX6_open_7 rfl ?_
  obtain ⟨g3, hv⟩ := hv
  refine gf_X6_160 C rfl g3 dX6_open_8 ?_
  refine j_bipush (v := (20 : Int32)) C dX6_open_11 (by decide) ?_
  refine j_icmp_lt (tgt := 26) C dX6_open_13 (by decide) ⟨fun q15 => ?_, fun q15 => ?_⟩
  · have hv := hv.1 q15
    refine j_aload_n C dX6_open_26 rfl ?_
    refine gf_X6_19 C rfl g3 dX6_open_27 ?_
    refine j_bipush (v := (7 : Int32)) C dX6_open_30 (by decide) ?_
    obtain ⟨a4, e5, hv⟩ := hv
    obtain ⟨g6, hv⟩ := hv
    obtain ⟨b7, hv⟩ := hv
    refine k_iald (j := 7) C e5 g6 b7 (by decide) dX6_open_32 ?_
    refine j_istore_n (lo' := [some (vr (some t)), some (vi x1), some (vi (aI h1 a4 7))]) C dX6_open_33 (Nat.le_of_ble_eq_true rfl) rfl ?_
    refine j_aload_n C dX6_open_34 rfl ?_
    refine gf_X6_15 C rfl g3 dX6_open_35 ?_
    refine j_aload_n C dX6_open_38 rfl ?_
    refine gf_X6_160 C rfl g3 dX6_open_39 ?_
    refine j_iload_n C dX6_open_42 rfl ?_
    obtain ⟨a8, e9, hv⟩ := hv
    obtain ⟨g10, hv⟩ := hv
    obtain ⟨b11, hv⟩ := hv
    refine k_iast (j := (fI h1 35 t).toNatClampNeg) C e9 g10 b11 rfl dX6_open_43 ?_
    refine j_aload_n C dX6_open_44 rfl ?_
    refine j_dup C dX6_open_45 rfl ?_
    refine gf_X6_160 C rfl g3 dX6_open_46 ?_
    refine j_iconst (v := (1 : Int32)) C dX6_open_49 (by decide) ?_
    refine j_iadd C dX6_open_50 ?_
    refine pf_X6_160 C rfl g3 dX6_open_51 ?_
    refine j_aload_n C dX6_open_54 rfl ?_
    refine gf_X6_19 C rfl g3 dX6_open_55 ?_
    refine j_bipush (v := (7 : Int32)) C dX6_open_58 (by decide) ?_
    refine j_iload_n C dX6_open_60 rfl ?_
    refine j_iload_n C dX6_open_61 rfl ?_
    refine j_iadd C dX6_open_62 ?_
    obtain ⟨b12, hv⟩ := hv
    refine k_iast (j := 7) C e5 g6 b12 (by decide) dX6_open_63 ?_
    refine j_iload_n C dX6_open_64 rfl ?_
    exact j_iret C dX6_open_65 (hlim _ _ (by omega) (by omega)) hv
  · have hv := hv.2 q15
    exact k_throws C (is := 165) (tx := "too many scopes are open") (by simp [strs]) dX6_open_16 dX6_open_19 dX6_open_20 dX6_open_22 dX6_open_25 rfl (by omega) (Nat.le_of_ble_eq_true rfl) (hlim _ _ (by omega) (by omega)) hv
def vc_X6_close (t : Nat) (h : Hp) (Q : Option AV ⊕ String → Hp → Prop) : Prop :=
    ∀ (P39 : Int32 → Int32 → Hp → Prop),
    (∀ (y1 : Int32) (y2 : Int32) (h : Hp), (tg h t = 6 ∧ ∃ a10 : Nat, fR h 31 t = some a10 ∧ tg h a10 = 8 ∧ vp_in (7 : Int32) (ln h a10) ∧ (((aI h a10 7) ≤ y2 → vp_in (7 : Int32) (ln h a10) ∧ Q (.inl (some (vi y1))) (qI h a10 7 y1)) ∧ (¬ (aI h a10 7) ≤ y2 → ∃ a15 : Nat, fR h 29 t = some a15 ∧ tg h a15 = 11 ∧ vp_in y2 (ln h a15) ∧ P39 y1 (y2 + 1) (qR h a15 y2.toNatClampNeg none)))) → P39 y1 y2 h) →
    tg h t = 6 ∧ ((0 < (fI h 35 t) → ∃ a2 : Nat, fR h 30 t = some a2 ∧ tg h a2 = 8 ∧ vp_in (fI (pI h 35 t ((fI h 35 t) - (1 : Int32))) 35 t) (ln h a2) ∧ P39 (aI h a2 ((fI (pI h 35 t ((fI h 35 t) - (1 : Int32))) 35 t).toNatClampNeg)) (aI h a2 ((fI (pI h 35 t ((fI h 35 t) - (1 : Int32))) 35 t).toNatClampNeg)) (pI h 35 t ((fI h 35 t) - (1 : Int32)))) ∧ (¬ 0 < (fI h 35 t) → Q (.inr xS) h))
set_option maxRecDepth 20000 in
theorem s_X6_close {t : Nat} {h : Hp} {Q : Option AV ⊕ String → Hp → Prop} {lv : Nat} (hlv : lv + 6 ≤ 12) (hv : vc_X6_close t h Q) (l : Launch) (D : va_G) (dA : Nat → ClassId) (sz : Nat) (hst : l.stackTraces = false) : Ctr l D dA sz (Cond.code yX6_close cX6_close 3 (some .int)) yX6_close lv [vr (some t)] h 1 6 Q := by
  refine Ctr.of (lo := [some (vr (some t)), none, none]) hst (by decide) (by simp [ena, isL]) rfl ?_
  intro G hg hlim C
  unfold vc_X6_close at hv
  have hv := hv (fun y1 y2 h => J G Q 39 [some (vr (some t)), some (vi y1), some (vi y2)] [] h 0 0)
  have hv := hv (by
      intro y1 y2 h hv
      refine j_iload_n C dX6_close_39 rfl ?_
      refine j_aload_n C dX6_close_40 rfl ?_
      obtain ⟨g9, hv⟩ := hv
      refine gf_X6_19 C rfl g9 dX6_close_41 ?_
      refine j_bipush (v := (7 : Int32)) C dX6_close_44 (by decide) ?_
      obtain ⟨a10, e11, hv⟩ := hv
      obtain ⟨g12, hv⟩ := hv
      obtain ⟨b13, hv⟩ := hv
      refine k_iald (j := 7) C e11 g12 b13 (by decide) dX6_close_46 ?_
      refine j_icmp_ge (tgt := 63) C dX6_close_47 (by decide) ⟨fun q19 => ?_, fun q19 => ?_⟩
      · have hv := hv.1 q19
        refine j_aload_n C dX6_close_63 rfl ?_
        refine gf_X6_19 C rfl g9 dX6_close_64 ?_
        refine j_bipush (v := (7 : Int32)) C dX6_close_67 (by decide) ?_
        refine j_iload_n C dX6_close_69 rfl ?_
        obtain ⟨b14, hv⟩ := hv
        refine k_iast (j := 7) C e11 g12 b14 (by decide) dX6_close_70 ?_
        refine j_iload_n C dX6_close_71 rfl ?_
        exact j_iret C dX6_close_72 (hlim _ _ (by omega) (by omega)) hv
      · have hv := hv.2 q19
        refine j_aload_n C dX6_close_50 rfl ?_
        refine gf_X6_11 C rfl g9 dX6_close_51 ?_
        refine j_iload_n C dX6_close_54 rfl ?_
        refine j_null C dX6_close_55 ?_
        obtain ⟨a15, e16, hv⟩ := hv
        obtain ⟨g17, hv⟩ := hv
        obtain ⟨b18, hv⟩ := hv
        refine k_aast (j := y2.toNatClampNeg) C e16 g17 b18 rfl (fun _ q => absurd q (by simp)) dX6_close_56 ?_
        refine j_iinc (v := y2 + 1) (lo' := [some (vr (some t)), some (vi y1), some (vi (y2 + 1))]) C dX6_close_57 rfl rfl rfl ?_
        refine j_goto (tgt := 39) C dX6_close_60 (by decide) ?_
        exact j_sub (by exact (And.intro rfl (And.intro rfl (And.intro rfl trivial)))) hv)
  refine j_aload_n C dX6_close_0 rfl ?_
  obtain ⟨g1, hv⟩ := hv
  refine gf_X6_160 C rfl g1 dX6_close_1 ?_
  refine j_if_gt (tgt := 17) C dX6_close_4 (by decide) ⟨fun q8 => ?_, fun q8 => ?_⟩
  · have hv := hv.1 q8
    refine j_aload_n C dX6_close_17 rfl ?_
    refine j_dup C dX6_close_18 rfl ?_
    refine gf_X6_160 C rfl g1 dX6_close_19 ?_
    refine j_iconst (v := (1 : Int32)) C dX6_close_22 (by decide) ?_
    refine j_isub C dX6_close_23 ?_
    refine pf_X6_160 C rfl g1 dX6_close_24 ?_
    refine j_aload_n C dX6_close_27 rfl ?_
    refine gf_X6_15 C rfl g1 dX6_close_28 ?_
    refine j_aload_n C dX6_close_31 rfl ?_
    refine gf_X6_160 C rfl g1 dX6_close_32 ?_
    obtain ⟨a2, e3, hv⟩ := hv
    obtain ⟨g4, hv⟩ := hv
    obtain ⟨b5, hv⟩ := hv
    refine k_iald (j := (fI (pI h 35 t ((fI h 35 t) - (1 : Int32))) 35 t).toNatClampNeg) C e3 g4 b5 rfl dX6_close_35 ?_
    refine j_istore_n (lo' := [some (vr (some t)), some (vi (aI h a2 ((fI (pI h 35 t ((fI h 35 t) - (1 : Int32))) 35 t).toNatClampNeg))), none]) C dX6_close_36 (Nat.le_of_ble_eq_true rfl) rfl ?_
    refine j_iload_n C dX6_close_37 rfl ?_
    refine j_istore_n (lo' := [some (vr (some t)), some (vi (aI h a2 ((fI (pI h 35 t ((fI h 35 t) - (1 : Int32))) 35 t).toNatClampNeg))), some (vi (aI h a2 ((fI (pI h 35 t ((fI h 35 t) - (1 : Int32))) 35 t).toNatClampNeg)))]) C dX6_close_38 (Nat.le_of_ble_eq_true rfl) rfl ?_
    exact j_sub (by exact (And.intro rfl (And.intro rfl (And.intro rfl trivial)))) hv
  · have hv := hv.2 q8
    exact k_throws C (is := 170) (tx := "no scope is open") (by simp [strs]) dX6_close_7 dX6_close_10 dX6_close_11 dX6_close_13 dX6_close_16 rfl (by omega) (Nat.le_of_ble_eq_true rfl) (hlim _ _ (by omega) (by omega)) hv
def vc_X6_collect (t : Nat) (x1 : Int32) (h : Hp) (Q : Option AV ⊕ String → Hp → Prop) : Prop :=
    tg h t = 6 ∧ vc_X6_collectWhole t x1 h (qi (fun v2 h1 => Q (.inl (some (vi v2))) h1) qn)
set_option maxRecDepth 20000 in
theorem s_X6_collect {t : Nat} {x1 : Int32} {h : Hp} {Q : Option AV ⊕ String → Hp → Prop} {lv : Nat} (hlv : lv + 5 ≤ 12) (hv : vc_X6_collect t x1 h Q) (l : Launch) (D : va_G) (dA : Nat → ClassId) (sz : Nat) (hst : l.stackTraces = false) : Ctr l D dA sz (Cond.code yX6_collect cX6_collect 2 (some .int)) yX6_collect lv [vr (some t), vi x1] h 0 0 Q := by
  refine Ctr.of (lo := [some (vr (some t)), some (vi x1)]) hst (by decide) (by simp [ena, isL]) rfl ?_
  intro G hg hlim C
  unfold vc_X6_collect at hv
  refine j_aload_n C dX6_collect_0 rfl ?_
  refine j_iload_n C dX6_collect_1 rfl ?_
  obtain ⟨g3, hv⟩ := hv
  refine k_callV C 5 [vi x1] mv_X6_172 rfl rfl (fun l D dA sz hl => s_X6_collectWhole (by omega) hv l D dA sz hl) rfl rfl (by decide) g3 rfl (by omega) (Nat.le_of_ble_eq_true rfl) (hlim _ _ (by omega) (by omega)) dX6_collect_2 (fun _ _ q => False.elim q) (fun v h1 hq => ?_)
  obtain ⟨v2, rfl, hv⟩ := qi_inv hq
  exact j_iret C dX6_collect_5 (hlim _ _ (by omega) (by omega)) hv
def vc_X6_every (t : Nat) (x1 : Int32) (h : Hp) (Q : Option AV ⊕ String → Hp → Prop) : Prop :=
    vc_X6_checkNotNegative x1 h (qv (fun h1 => tg h1 t = 6 ∧ Q (.inl (some (vi x1))) (pI (pI h1 36 t x1) 37 t (0 : Int32))) (fun E hE => Q (.inr E) hE))
set_option maxRecDepth 20000 in
theorem s_X6_every {t : Nat} {x1 : Int32} {h : Hp} {Q : Option AV ⊕ String → Hp → Prop} {lv : Nat} (hlv : lv + 7 ≤ 12) (hv : vc_X6_every t x1 h Q) (l : Launch) (D : va_G) (dA : Nat → ClassId) (sz : Nat) (hst : l.stackTraces = false) : Ctr l D dA sz (Cond.code yX6_every cX6_every 2 (some .int)) yX6_every lv [vr (some t), vi x1] h 1 6 Q := by
  refine Ctr.of (lo := [some (vr (some t)), some (vi x1)]) hst (by decide) (by simp [ena, isL]) rfl ?_
  intro G hg hlim C
  unfold vc_X6_every at hv
  refine j_iload_n C dX6_every_0 rfl ?_
  refine k_callS C [vi x1] ms_X6_101 rfl (fun l D dA sz hl => s_X6_checkNotNegative (by omega) hv l D dA sz hl) rfl (by omega) (Nat.le_of_ble_eq_true rfl) (hlim _ _ (by omega) (by omega)) dX6_every_1 (fun _ _ q => jx_out C (hlim _ _ (by omega) (by omega)) q) (fun v h1 hq => ?_)
  obtain ⟨rfl, hv⟩ := qv_inv hq
  refine j_aload_n C dX6_every_4 rfl ?_
  refine j_iload_n C dX6_every_5 rfl ?_
  obtain ⟨g3, hv⟩ := hv
  refine pf_X6_176 C rfl g3 dX6_every_6 ?_
  refine j_aload_n C dX6_every_9 rfl ?_
  refine j_iconst (v := (0 : Int32)) C dX6_every_10 (by decide) ?_
  refine pf_X6_179 C rfl g3 dX6_every_11 ?_
  refine j_iload_n C dX6_every_14 rfl ?_
  exact j_iret C dX6_every_15 (hlim _ _ (by omega) (by omega)) hv
def vc_X6_count (t : Nat) (x1 : Int32) (h : Hp) (Q : Option AV ⊕ String → Hp → Prop) : Prop :=
    vc_X6_checkRange x1 (0 : Int32) (9 : Int32) h (qv (fun h1 => tg h1 t = 6 ∧ ∃ a4 : Nat, fR h1 31 t = some a4 ∧ tg h1 a4 = 8 ∧ vp_in x1 (ln h1 a4) ∧ Q (.inl (some (vi (aI h1 a4 x1.toNatClampNeg)))) h1) (fun E hE => Q (.inr E) hE))
set_option maxRecDepth 20000 in
theorem s_X6_count {t : Nat} {x1 : Int32} {h : Hp} {Q : Option AV ⊕ String → Hp → Prop} {lv : Nat} (hlv : lv + 7 ≤ 12) (hv : vc_X6_count t x1 h Q) (l : Launch) (D : va_G) (dA : Nat → ClassId) (sz : Nat) (hst : l.stackTraces = false) : Ctr l D dA sz (Cond.code yX6_count cX6_count 2 (some .int)) yX6_count lv [vr (some t), vi x1] h 1 6 Q := by
  refine Ctr.of (lo := [some (vr (some t)), some (vi x1)]) hst (by decide) (by simp [ena, isL]) rfl ?_
  intro G hg hlim C
  unfold vc_X6_count at hv
  refine j_iload_n C dX6_count_0 rfl ?_
  refine j_iconst (v := (0 : Int32)) C dX6_count_1 (by decide) ?_
  refine j_bipush (v := (9 : Int32)) C dX6_count_2 (by decide) ?_
  refine k_callS C [vi x1, vi (0 : Int32), vi (9 : Int32)] ms_X6_59 rfl (fun l D dA sz hl => s_X6_checkRange (by omega) hv l D dA sz hl) rfl (by omega) (Nat.le_of_ble_eq_true rfl) (hlim _ _ (by omega) (by omega)) dX6_count_4 (fun _ _ q => jx_out C (hlim _ _ (by omega) (by omega)) q) (fun v h1 hq => ?_)
  obtain ⟨rfl, hv⟩ := qv_inv hq
  refine j_aload_n C dX6_count_7 rfl ?_
  obtain ⟨g3, hv⟩ := hv
  refine gf_X6_19 C rfl g3 dX6_count_8 ?_
  refine j_iload_n C dX6_count_11 rfl ?_
  obtain ⟨a4, e5, hv⟩ := hv
  obtain ⟨g6, hv⟩ := hv
  obtain ⟨b7, hv⟩ := hv
  refine k_iald (j := x1.toNatClampNeg) C e5 g6 b7 rfl dX6_count_12 ?_
  exact j_iret C dX6_count_13 (hlim _ _ (by omega) (by omega)) hv
def vc_X6_digest (t : Nat) (x1 : Int32) (h : Hp) (Q : Option AV ⊕ String → Hp → Prop) : Prop :=
    ∀ (P46 : Int64 → Int32 → Option Nat → Hp → Prop) (P89 : Int64 → Hp → Prop) (P75 : Int32 → Option Nat → Int64 → Hp → Prop),
    (∀ (z2 : Int64) (y4 : Int32) (u5 : Option Nat) (h : Hp), (((u5 = none → P89 z2 h) ∧ (∀ a28 : Nat, u5 = some a28 → ((y4 ≤ 0 → P89 z2 h) ∧ (¬ y4 ≤ 0 → thg h a28 ∧ vc_X6_mix z2 ((fI h 0 a28).toInt64) h (ql (fun v32 h31 => tg h31 t = 6 ∧ thg h31 a28 ∧ ((tg h31 a28 = 2 → vc_X1_digestOn a28 v32 (fR h31 34 t) h31 (ql (fun v35 h34 => P75 y4 u5 v35 h34) qn)) ∧ (tg h31 a28 = 3 → vc_X4_digestOn a28 v32 (fR h31 34 t) h31 (ql (fun v35 h34 => P75 y4 u5 v35 h34) qn)) ∧ (tg h31 a28 = 4 → vc_X4_digestOn a28 v32 (fR h31 34 t) h31 (ql (fun v35 h34 => P75 y4 u5 v35 h34) qn)))) qn)))))) → P46 z2 y4 u5 h) →
    (∀ (z2 : Int64) (h : Hp), (Q (.inl (some (vl z2))) h) → P89 z2 h) →
    (∀ (y4 : Int32) (u5 : Option Nat) (s0 : Int64) (h : Hp), (∃ a38 : Nat, u5 = some a38 ∧ thg h a38 ∧ P46 s0 (y4 + (-1)) (fR h 6 a38) h) → P75 y4 u5 s0 h) →
    tg h t = 6 ∧ vc_X6_checkRoot t x1 h (qv (fun h1 => tg h1 t = 6 ∧ ∃ a5 : Nat, fR h1 34 t = some a5 ∧ tg h1 a5 = 5 ∧ vc_X5_begin a5 h1 (qv (fun h7 => tg h7 t = 6 ∧ ∃ a11 : Nat, fR h7 29 t = some a11 ∧ tg h7 a11 = 11 ∧ vp_in x1 (ln h7 a11) ∧ ∃ a15 : Nat, fR h7 34 t = some a15 ∧ tg h7 a15 = 5 ∧ vc_X5_comeTo a15 (aR h7 a11 x1.toNatClampNeg) h7 (qv (fun h17 => tg h17 t = 6 ∧ ∃ a21 : Nat, fR h17 31 t = some a21 ∧ tg h17 a21 = 8 ∧ vp_in (1 : Int32) (ln h17 a21) ∧ ∃ a25 : Nat, fR h17 34 t = some a25 ∧ tg h17 a25 = 5 ∧ P46 (7 : Int64) (aI h17 a21 1) (fR h17 23 a25) h17) qn)) qn)) (fun E hE => Q (.inr E) hE))
set_option maxRecDepth 20000 in
theorem s_X6_digest {t : Nat} {x1 : Int32} {h : Hp} {Q : Option AV ⊕ String → Hp → Prop} {lv : Nat} (hlv : lv + 8 ≤ 12) (hv : vc_X6_digest t x1 h Q) (l : Launch) (D : va_G) (dA : Nat → ClassId) (sz : Nat) (hst : l.stackTraces = false) : Ctr l D dA sz (Cond.code yX6_digest cX6_digest 6 (some .long)) yX6_digest lv [vr (some t), vi x1] h 1 6 Q := by
  refine Ctr.of (lo := [some (vr (some t)), some (vi x1), none, none, none, none]) hst (by decide) (by simp [ena, isL]) rfl ?_
  intro G hg hlim C
  unfold vc_X6_digest at hv
  have hv := hv (fun z2 y4 u5 h => J G Q 46 [some (vr (some t)), none, some (vl z2), none, some (vi y4), some (vr u5)] [] h 1 6) (fun z2 h => J G Q 89 [none, none, some (vl z2), none, none, none] [] h 1 6) (fun y4 u5 s0 h => J G Q 75 [some (vr (some t)), none, none, none, some (vi y4), some (vr u5)] [vl s0] h 1 6)
  have hv := hv (by
      intro z2 y4 u5 h hv
      refine j_aload C dX6_digest_46 rfl ?_
      refine j_ifnull (tgt := 89) C dX6_digest_48 (by decide) ⟨fun e29 => ?_, fun a28 e29 => ?_⟩
      · have hv := hv.1 e29
        exact j_sub (by exact (And.intro rfl trivial)) hv
      · have hv := hv.2 a28 e29
        refine j_iload C dX6_digest_51 rfl ?_
        refine j_if_le (tgt := 89) C dX6_digest_53 (by decide) ⟨fun q37 => ?_, fun q37 => ?_⟩
        · have hv := hv.1 q37
          exact j_sub (by exact (And.intro rfl trivial)) hv
        · have hv := hv.2 q37
          refine j_aload C dX6_digest_56 rfl ?_
          refine j_lload_n C dX6_digest_58 rfl ?_
          refine j_aload C dX6_digest_59 rfl ?_
          obtain ⟨g30, hv⟩ := hv
          refine gf_X6_156 C e29 g30 dX6_digest_61 ?_
          refine j_i2l C dX6_digest_64 ?_
          refine k_callS C [vl z2, vl ((fI h 0 a28).toInt64)] ms_X6_194 rfl (fun l D dA sz hl => s_X6_mix (by omega) hv l D dA sz hl) rfl (by omega) (Nat.le_of_ble_eq_true rfl) (hlim _ _ (by omega) (by omega)) dX6_digest_65 (fun _ _ q => False.elim q) (fun v h31 hq => ?_)
          obtain ⟨v32, rfl, hv⟩ := ql_inv hq
          refine j_aload_n C dX6_digest_68 rfl ?_
          obtain ⟨g33, hv⟩ := hv
          refine gf_X6_35 C rfl g33 dX6_digest_69 ?_
          obtain ⟨g36, hv⟩ := hv
          rcases g36 with gU | gU | gU
          · refine k_callU (q := (RX1, TX1, 10)) C 1 [vl v32, vr (fR h31 34 t)] mu_X6_198_X1 e29 rfl (fun l D dA sz hl => s_X1_digestOn (by omega) (hv.1 gU) l D dA sz hl) (fun _ _ q => q) rfl (by decide) gU rfl (by omega) (Nat.le_of_ble_eq_true rfl) (hlim _ _ (by omega) (by omega)) dX6_digest_72 (fun v h34 hq => ?_)
            obtain ⟨v35, rfl, hv⟩ := ql_inv hq
            exact j_sub (by exact (And.intro rfl (And.intro rfl (And.intro rfl trivial)))) hv
          · refine k_callU (q := (RX2, TX2, 11)) C 2 [vl v32, vr (fR h31 34 t)] mu_X6_198_X2 e29 rfl (fun l D dA sz hl => s_X4_digestOn (by omega) (hv.2.1 gU) l D dA sz hl) (fun _ _ q => q) rfl (by decide) gU rfl (by omega) (Nat.le_of_ble_eq_true rfl) (hlim _ _ (by omega) (by omega)) dX6_digest_72 (fun v h34 hq => ?_)
            obtain ⟨v35, rfl, hv⟩ := ql_inv hq
            exact j_sub (by exact (And.intro rfl (And.intro rfl (And.intro rfl trivial)))) hv
          · refine k_callU (q := (RX3, TX3, 14)) C 3 [vl v32, vr (fR h31 34 t)] mu_X6_198_X3 e29 rfl (fun l D dA sz hl => s_X4_digestOn (by omega) (hv.2.2 gU) l D dA sz hl) (fun _ _ q => q) rfl (by decide) gU rfl (by omega) (Nat.le_of_ble_eq_true rfl) (hlim _ _ (by omega) (by omega)) dX6_digest_72 (fun v h34 hq => ?_)
            obtain ⟨v35, rfl, hv⟩ := ql_inv hq
            exact j_sub (by exact (And.intro rfl (And.intro rfl (And.intro rfl trivial)))) hv)
  have hv := hv (by
      intro z2 h hv
      refine j_lload_n C dX6_digest_89 rfl ?_
      exact j_lret C dX6_digest_90 (hlim _ _ (by omega) (by omega)) hv)
  have hv := hv (by
      intro y4 u5 s0 h hv
      refine j_lstore_n (lo' := [some (vr (some t)), none, some (vl s0), none, some (vi y4), some (vr u5)]) C dX6_digest_75 (Nat.le_of_ble_eq_true rfl) rfl ?_
      refine j_iinc (v := y4 + (-1)) (lo' := [some (vr (some t)), none, some (vl s0), none, some (vi (y4 + (-1))), some (vr u5)]) C dX6_digest_76 rfl rfl rfl ?_
      refine j_aload C dX6_digest_79 rfl ?_
      obtain ⟨a38, e39, hv⟩ := hv
      obtain ⟨g40, hv⟩ := hv
      refine gf_X6_202 C e39 g40 dX6_digest_81 ?_
      refine j_astore (lo' := [some (vr (some t)), none, some (vl s0), none, some (vi (y4 + (-1))), some (vr (fR h 6 a38))]) C dX6_digest_84 (Nat.le_of_ble_eq_true rfl) rfl ?_
      refine j_goto (tgt := 46) C dX6_digest_86 (by decide) ?_
      exact j_sub (by exact (And.intro rfl (And.intro rfl (And.intro rfl (And.intro rfl trivial))))) hv)
  refine j_aload_n C dX6_digest_0 rfl ?_
  refine j_iload_n C dX6_digest_1 rfl ?_
  obtain ⟨g3, hv⟩ := hv
  refine k_callV C 5 [vi x1] mv_X6_55 rfl rfl (fun l D dA sz hl => s_X6_checkRoot (by omega) hv l D dA sz hl) rfl rfl (by decide) g3 rfl (by omega) (Nat.le_of_ble_eq_true rfl) (hlim _ _ (by omega) (by omega)) dX6_digest_2 (fun _ _ q => jx_out C (hlim _ _ (by omega) (by omega)) q) (fun v h1 hq => ?_)
  obtain ⟨rfl, hv⟩ := qv_inv hq
  refine j_ldc2 C wg_651 dX6_digest_5 ?_
  refine j_lstore_n (lo' := [some (vr (some t)), some (vi x1), some (vl (7 : Int64)), none, none, none]) C dX6_digest_8 (Nat.le_of_ble_eq_true rfl) rfl ?_
  refine j_aload_n C dX6_digest_9 rfl ?_
  obtain ⟨g4, hv⟩ := hv
  refine gf_X6_35 C rfl g4 dX6_digest_10 ?_
  obtain ⟨a5, e6, hv⟩ := hv
  obtain ⟨g9, hv⟩ := hv
  refine k_callV C 4 [] mv_X6_184 e6 rfl (fun l D dA sz hl => s_X5_begin (by omega) hv l D dA sz hl) rfl rfl (by decide) g9 rfl (by omega) (Nat.le_of_ble_eq_true rfl) (hlim _ _ (by omega) (by omega)) dX6_digest_13 (fun _ _ q => False.elim q) (fun v h7 hq => ?_)
  obtain ⟨rfl, hv⟩ := qv_inv hq
  refine j_aload_n C dX6_digest_16 rfl ?_
  obtain ⟨g10, hv⟩ := hv
  refine gf_X6_35 C rfl g10 dX6_digest_17 ?_
  refine j_aload_n C dX6_digest_20 rfl ?_
  refine gf_X6_11 C rfl g10 dX6_digest_21 ?_
  refine j_iload_n C dX6_digest_24 rfl ?_
  obtain ⟨a11, e12, hv⟩ := hv
  obtain ⟨g13, hv⟩ := hv
  obtain ⟨b14, hv⟩ := hv
  refine k_aald (j := x1.toNatClampNeg) C e12 g13 b14 rfl dX6_digest_25 ?_
  obtain ⟨a15, e16, hv⟩ := hv
  obtain ⟨g19, hv⟩ := hv
  refine k_callV C 4 [vr (aR h7 a11 x1.toNatClampNeg)] mv_X6_187 e16 rfl (fun l D dA sz hl => s_X5_comeTo (by omega) hv l D dA sz hl) rfl rfl (by decide) g19 rfl (by omega) (Nat.le_of_ble_eq_true rfl) (hlim _ _ (by omega) (by omega)) dX6_digest_26 (fun _ _ q => False.elim q) (fun v h17 hq => ?_)
  obtain ⟨rfl, hv⟩ := qv_inv hq
  refine j_aload_n C dX6_digest_29 rfl ?_
  obtain ⟨g20, hv⟩ := hv
  refine gf_X6_19 C rfl g20 dX6_digest_30 ?_
  refine j_iconst (v := (1 : Int32)) C dX6_digest_33 (by decide) ?_
  obtain ⟨a21, e22, hv⟩ := hv
  obtain ⟨g23, hv⟩ := hv
  obtain ⟨b24, hv⟩ := hv
  refine k_iald (j := 1) C e22 g23 b24 (by decide) dX6_digest_34 ?_
  refine j_istore (lo' := [some (vr (some t)), some (vi x1), some (vl (7 : Int64)), none, some (vi (aI h17 a21 1)), none]) C dX6_digest_35 (Nat.le_of_ble_eq_true rfl) rfl ?_
  refine j_aload_n C dX6_digest_37 rfl ?_
  refine gf_X6_35 C rfl g20 dX6_digest_38 ?_
  obtain ⟨a25, e26, hv⟩ := hv
  obtain ⟨g27, hv⟩ := hv
  refine gf_X6_191 C e26 g27 dX6_digest_41 ?_
  refine j_astore (lo' := [some (vr (some t)), some (vi x1), some (vl (7 : Int64)), none, some (vi (aI h17 a21 1)), some (vr (fR h17 23 a25))]) C dX6_digest_44 (Nat.le_of_ble_eq_true rfl) rfl ?_
  exact j_sub (by exact (And.intro rfl (And.intro rfl (And.intro rfl (And.intro rfl trivial))))) hv
