/-! The conditions of methods, and their walks: what must hold for a method to end as Q allows. -/
theorem tO1 {h : Hp} {a b t t' : Nat} (f : tg h a = 0) (g : tg h b = t' + 1) : tg (nO h a t) b = t' + 1 := by
  show up1 (tg h) a t b = _
  unfold up1
  rw [if_neg (fun e => by rw [e, f] at g; cases g)]; exact g
theorem tO2 {h : Hp} {a t : Nat} : tg (nO h a t) a = t := if_pos rfl
theorem tO3 {h : Hp} {a b t : Nat} (f : tg h a = 0) (g : thg h b) : thg (nO h a t) b := by
  rcases g with g | g | g
  · exact Or.inl (tO1 f g)
  · exact Or.inr (Or.inl (tO1 f g))
  · exact Or.inr (Or.inr (tO1 f g))
theorem tA1 {h : Hp} {a b t z t' : Nat} (f : tg h a = 0) (g : tg h b = t' + 1) : tg (nA h a t z) b = t' + 1 := tO1 (t := t) f g
theorem tA2 {h : Hp} {a t z : Nat} : tg (nA h a t z) a = t := if_pos rfl
theorem tA3 {h : Hp} {a b t z : Nat} (f : tg h a = 0) (g : thg h b) : thg (nA h a t z) b := tO3 (t := t) f g
theorem sw_9 (x : Int32) : x = 0 ∨ x = 1 ∨ x = 2 ∨ x = 3 ∨ x = 4 ∨ x = 5 ∨ x = 6 ∨ x = 7 ∨ x = 8 ∨ x = 9 ∨ (x.toInt < 0 ∨ 9 < x.toInt) := by
  have hk : ∀ c : Int32, x.toInt = c.toInt → x = c := fun c hc => Int32.toInt_inj.mp hc
  have h0 := hk 0; have h1 := hk 1; have h2 := hk 2; have h3 := hk 3; have h4 := hk 4; have h5 := hk 5; have h6 := hk 6; have h7 := hk 7; have h8 := hk 8; have h9 := hk 9
  by_cases a : x.toInt < 0 ∨ 9 < x.toInt
  · simp [a]
  · have : x.toInt = 0 ∨ x.toInt = 1 ∨ x.toInt = 2 ∨ x.toInt = 3 ∨ x.toInt = 4 ∨ x.toInt = 5 ∨ x.toInt = 6 ∨ x.toInt = 7 ∨ x.toInt = 8 ∨ x.toInt = 9 := by omega
    rcases this with q | q | q | q | q | q | q | q | q | q
    · simp [h0 q]
    · simp [h1 q]
    · simp [h2 q]
    · simp [h3 q]
    · simp [h4 q]
    · simp [h5 q]
    · simp [h6 q]
    · simp [h7 q]
    · simp [h8 q]
    · simp [h9 q]
def vc_X5_init (t : Nat) (h : Hp) (Q : Option AV ⊕ String → Hp → Prop) : Prop :=
    Q (.inl none) h
set_option maxRecDepth 20000 in
theorem s_X5_init {t : Nat} {h : Hp} {Q : Option AV ⊕ String → Hp → Prop} {lv : Nat} (hlv : lv + 1 ≤ 12) (hv : vc_X5_init t h Q) (l : Launch) (D : va_G) (dA : Nat → ClassId) (sz : Nat) (hst : l.stackTraces = false) : Ctr l D dA sz (Cond.code yX5_init cX5_init 1 none) yX5_init lv [vr (some t)] h 0 0 Q := by
  refine Ctr.of (lo := [some (vr (some t))]) hst (by decide) (by simp [ena, isL]) rfl ?_
  intro G hg hlim C
  unfold vc_X5_init at hv
  refine j_aload_n C dX5_init_0 rfl ?_
  refine k_objInit C rfl wg_53 rfl (by omega) (Nat.le_of_ble_eq_true rfl) dX5_init_1 ?_
  exact j_vret C dX5_init_4 (hlim _ _ (by omega) (by omega)) hv
def vc_X5_begin (t : Nat) (h : Hp) (Q : Option AV ⊕ String → Hp → Prop) : Prop :=
    tg h t = 5 ∧ Q (.inl none) (pI (pI (pR (pR h 23 t none) 24 t none) 25 t (0 : Int32)) 26 t ((fI h 26 t) + (1 : Int32)))
set_option maxRecDepth 20000 in
theorem s_X5_begin {t : Nat} {h : Hp} {Q : Option AV ⊕ String → Hp → Prop} {lv : Nat} (hlv : lv + 0 ≤ 12) (hv : vc_X5_begin t h Q) (l : Launch) (D : va_G) (dA : Nat → ClassId) (sz : Nat) (hst : l.stackTraces = false) : Ctr l D dA sz (Cond.code yX5_begin cX5_begin 1 none) yX5_begin lv [vr (some t)] h 0 0 Q := by
  refine Ctr.of (lo := [some (vr (some t))]) hst (by decide) (by simp [ena, isL]) rfl ?_
  intro G hg hlim C
  unfold vc_X5_begin at hv
  refine j_aload_n C dX5_begin_0 rfl ?_
  refine j_null C dX5_begin_1 ?_
  obtain ⟨g1, hv⟩ := hv
  refine pf_X5_7 C rfl g1 dX5_begin_2 ?_
  refine j_aload_n C dX5_begin_5 rfl ?_
  refine j_null C dX5_begin_6 ?_
  refine pf_X5_13 C rfl g1 dX5_begin_7 ?_
  refine j_aload_n C dX5_begin_10 rfl ?_
  refine j_iconst (v := (0 : Int32)) C dX5_begin_11 (by decide) ?_
  refine pf_X5_16 C rfl g1 dX5_begin_12 ?_
  refine j_aload_n C dX5_begin_15 rfl ?_
  refine j_dup C dX5_begin_16 rfl ?_
  refine gf_X5_20 C rfl g1 dX5_begin_17 ?_
  refine j_iconst (v := (1 : Int32)) C dX5_begin_20 (by decide) ?_
  refine j_iadd C dX5_begin_21 ?_
  refine pf_X5_20 C rfl g1 dX5_begin_22 ?_
  exact j_vret C dX5_begin_25 (hlim _ _ (by omega) (by omega)) hv
def vc_X5_has (t : Nat) (o1 : Option Nat) (h : Hp) (Q : Option AV ⊕ String → Hp → Prop) : Prop :=
    ∃ a1 : Nat, o1 = some a1 ∧ thg h a1 ∧ tg h t = 5 ∧ ((¬ (fI h 4 a1) = (fI h 26 t) → Q (.inl (some (vi (0 : Int32)))) h) ∧ ((fI h 4 a1) = (fI h 26 t) → Q (.inl (some (vi (1 : Int32)))) h))
set_option maxRecDepth 20000 in
theorem s_X5_has {t : Nat} {o1 : Option Nat} {h : Hp} {Q : Option AV ⊕ String → Hp → Prop} {lv : Nat} (hlv : lv + 0 ≤ 12) (hv : vc_X5_has t o1 h Q) (l : Launch) (D : va_G) (dA : Nat → ClassId) (sz : Nat) (hst : l.stackTraces = false) : Ctr l D dA sz (Cond.code yX5_has cX5_has 2 (some .boolean)) yX5_has lv [vr (some t), vr o1] h 0 0 Q := by
  refine Ctr.of (lo := [some (vr (some t)), some (vr o1)]) hst (by decide) (by simp [ena, isL]) rfl ?_
  intro G hg hlim C
  unfold vc_X5_has at hv
  refine j_aload_n C dX5_has_0 rfl ?_
  obtain ⟨a1, e2, hv⟩ := hv
  obtain ⟨g3, hv⟩ := hv
  refine gf_X5_23 C e2 g3 dX5_has_1 ?_
  refine j_aload_n C dX5_has_4 rfl ?_
  obtain ⟨g4, hv⟩ := hv
  refine gf_X5_20 C rfl g4 dX5_has_5 ?_
  refine j_icmp_ne (tgt := 15) C dX5_has_8 (by decide) ⟨fun q5 => ?_, fun q5 => ?_⟩
  · have hv := hv.1 q5
    refine j_iconst (v := (0 : Int32)) C dX5_has_15 (by decide) ?_
    exact j_zret C (Or.inl rfl) dX5_has_16 (hlim _ _ (by omega) (by omega)) hv
  · have hv := hv.2 q5
    refine j_iconst (v := (1 : Int32)) C dX5_has_11 (by decide) ?_
    refine j_goto (tgt := 16) C dX5_has_12 (by decide) ?_
    exact j_zret C (Or.inr rfl) dX5_has_16 (hlim _ _ (by omega) (by omega)) hv
def vc_X5_comeTo (t : Nat) (o1 : Option Nat) (h : Hp) (Q : Option AV ⊕ String → Hp → Prop) : Prop :=
    ∀ (P49 : Hp → Prop),
    (∀  (h : Hp), (tg h t = 5 ∧ ∃ a13 : Nat, o1 = some a13 ∧ thg h a13 ∧ Q (.inl none) (pI (pI (pR h 24 t o1) 25 t ((fI h 25 t) + (1 : Int32))) 5 a13 (fI (pI (pR h 24 t o1) 25 t ((fI h 25 t) + (1 : Int32))) 25 t))) → P49 h) →
    ((o1 = none → Q (.inl none) h) ∧ (∀ a1 : Nat, o1 = some a1 → tg h t = 5 ∧ vc_X5_has t o1 h (qi (fun v4 h3 => ((v4 = 0 → tg h3 t = 5 ∧ thg h3 a1 ∧ ((∀ a8 : Nat, fR h3 24 t = some a8 → thg h3 a8 ∧ P49 (pR (pR (pI h3 4 a1 (fI h3 26 t)) 6 a1 none) 6 a8 o1)) ∧ (fR h3 24 t = none → P49 (pR (pR (pI h3 4 a1 (fI h3 26 t)) 6 a1 none) 23 t o1)))) ∧ (¬ v4 = 0 → Q (.inl none) h3))) qn)))
set_option maxRecDepth 20000 in
theorem s_X5_comeTo {t : Nat} {o1 : Option Nat} {h : Hp} {Q : Option AV ⊕ String → Hp → Prop} {lv : Nat} (hlv : lv + 1 ≤ 12) (hv : vc_X5_comeTo t o1 h Q) (l : Launch) (D : va_G) (dA : Nat → ClassId) (sz : Nat) (hst : l.stackTraces = false) : Ctr l D dA sz (Cond.code yX5_comeTo cX5_comeTo 2 none) yX5_comeTo lv [vr (some t), vr o1] h 0 0 Q := by
  refine Ctr.of (lo := [some (vr (some t)), some (vr o1)]) hst (by decide) (by simp [ena, isL]) rfl ?_
  intro G hg hlim C
  unfold vc_X5_comeTo at hv
  have hv := hv (fun  h => J G Q 49 [some (vr (some t)), some (vr o1)] [] h 0 0)
  have hv := hv (by
      intro  h hv
      refine j_aload_n C dX5_comeTo_49 rfl ?_
      refine j_aload_n C dX5_comeTo_50 rfl ?_
      obtain ⟨g12, hv⟩ := hv
      refine pf_X5_13 C rfl g12 dX5_comeTo_51 ?_
      refine j_aload_n C dX5_comeTo_54 rfl ?_
      refine j_dup C dX5_comeTo_55 rfl ?_
      refine gf_X5_16 C rfl g12 dX5_comeTo_56 ?_
      refine j_iconst (v := (1 : Int32)) C dX5_comeTo_59 (by decide) ?_
      refine j_iadd C dX5_comeTo_60 ?_
      refine pf_X5_16 C rfl g12 dX5_comeTo_61 ?_
      refine j_aload_n C dX5_comeTo_64 rfl ?_
      refine j_aload_n C dX5_comeTo_65 rfl ?_
      refine gf_X5_16 C rfl g12 dX5_comeTo_66 ?_
      obtain ⟨a13, e14, hv⟩ := hv
      obtain ⟨g15, hv⟩ := hv
      refine pf_X5_35 C e14 g15 dX5_comeTo_69 ?_
      exact j_vret C dX5_comeTo_72 (hlim _ _ (by omega) (by omega)) hv)
  refine j_aload_n C dX5_comeTo_0 rfl ?_
  refine j_ifnull (tgt := 12) C dX5_comeTo_1 (by decide) ⟨fun e2 => ?_, fun a1 e2 => ?_⟩
  · have hv := hv.1 e2
    exact j_vret C dX5_comeTo_12 (hlim _ _ (by omega) (by omega)) hv
  · have hv := hv.2 a1 e2
    refine j_aload_n C dX5_comeTo_4 rfl ?_
    refine j_aload_n C dX5_comeTo_5 rfl ?_
    obtain ⟨g5, hv⟩ := hv
    refine k_callV C 4 [vr o1] mv_X5_28 rfl rfl (fun l D dA sz hl => s_X5_has (by omega) hv l D dA sz hl) rfl rfl (by decide) g5 rfl (by omega) (Nat.le_of_ble_eq_true rfl) (hlim _ _ (by omega) (by omega)) dX5_comeTo_6 (fun _ _ q => False.elim q) (fun v h3 hq => ?_)
    obtain ⟨v4, rfl, hv⟩ := qi_inv hq
    refine j_if_eq (tgt := 13) C dX5_comeTo_9 (by decide) ⟨fun q11 => ?_, fun q11 => ?_⟩
    · have hv := hv.1 q11
      refine j_aload_n C dX5_comeTo_13 rfl ?_
      refine j_aload_n C dX5_comeTo_14 rfl ?_
      obtain ⟨g6, hv⟩ := hv
      refine gf_X5_20 C rfl g6 dX5_comeTo_15 ?_
      obtain ⟨g7, hv⟩ := hv
      refine pf_X5_23 C e2 g7 dX5_comeTo_18 ?_
      refine j_aload_n C dX5_comeTo_21 rfl ?_
      refine j_null C dX5_comeTo_22 ?_
      refine pf_X5_32 C e2 g7 dX5_comeTo_23 ?_
      refine j_aload_n C dX5_comeTo_26 rfl ?_
      refine gf_X5_13 C rfl g6 dX5_comeTo_27 ?_
      refine j_ifnonnull (tgt := 41) C dX5_comeTo_30 (by decide) ⟨fun a8 e9 => ?_, fun e9 => ?_⟩
      · have hv := hv.1 a8 e9
        refine j_aload_n C dX5_comeTo_41 rfl ?_
        refine gf_X5_13 C rfl g6 dX5_comeTo_42 ?_
        refine j_aload_n C dX5_comeTo_45 rfl ?_
        obtain ⟨g10, hv⟩ := hv
        refine pf_X5_32 C e9 g10 dX5_comeTo_46 ?_
        exact j_sub (by exact (And.intro rfl (And.intro rfl trivial))) hv
      · have hv := hv.2 e9
        refine j_aload_n C dX5_comeTo_33 rfl ?_
        refine j_aload_n C dX5_comeTo_34 rfl ?_
        refine pf_X5_7 C rfl g6 dX5_comeTo_35 ?_
        refine j_goto (tgt := 49) C dX5_comeTo_38 (by decide) ?_
        exact j_sub (by exact (And.intro rfl (And.intro rfl trivial))) hv
    · have hv := hv.2 q11
      exact j_vret C dX5_comeTo_12 (hlim _ _ (by omega) (by omega)) hv
def vc_X0_init (t : Nat) (h : Hp) (Q : Option AV ⊕ String → Hp → Prop) : Prop :=
    Q (.inl none) h
set_option maxRecDepth 20000 in
theorem s_X0_init {t : Nat} {h : Hp} {Q : Option AV ⊕ String → Hp → Prop} {lv : Nat} (hlv : lv + 1 ≤ 12) (hv : vc_X0_init t h Q) (l : Launch) (D : va_G) (dA : Nat → ClassId) (sz : Nat) (hst : l.stackTraces = false) : Ctr l D dA sz (Cond.code yX0_init cX0_init 1 none) yX0_init lv [vr (some t)] h 0 0 Q := by
  refine Ctr.of (lo := [some (vr (some t))]) hst (by decide) (by simp [ena, isL]) rfl ?_
  intro G hg hlim C
  unfold vc_X0_init at hv
  refine j_aload_n C dX0_init_0 rfl ?_
  refine k_objInit C rfl wg_30 rfl (by omega) (Nat.le_of_ble_eq_true rfl) dX0_init_1 ?_
  exact j_vret C dX0_init_4 (hlim _ _ (by omega) (by omega)) hv
def vc_X0_empty (t : Nat) (h : Hp) (Q : Option AV ⊕ String → Hp → Prop) : Prop :=
    tg h t = 1 ∧ Q (.inl none) (pI (pI (pR (pR h 19 t none) 20 t none) 21 t (0 : Int32)) 22 t (0 : Int32))
set_option maxRecDepth 20000 in
theorem s_X0_empty {t : Nat} {h : Hp} {Q : Option AV ⊕ String → Hp → Prop} {lv : Nat} (hlv : lv + 0 ≤ 12) (hv : vc_X0_empty t h Q) (l : Launch) (D : va_G) (dA : Nat → ClassId) (sz : Nat) (hst : l.stackTraces = false) : Ctr l D dA sz (Cond.code yX0_empty cX0_empty 1 none) yX0_empty lv [vr (some t)] h 0 0 Q := by
  refine Ctr.of (lo := [some (vr (some t))]) hst (by decide) (by simp [ena, isL]) rfl ?_
  intro G hg hlim C
  unfold vc_X0_empty at hv
  refine j_aload_n C dX0_empty_0 rfl ?_
  refine j_null C dX0_empty_1 ?_
  obtain ⟨g1, hv⟩ := hv
  refine pf_X0_18 C rfl g1 dX0_empty_2 ?_
  refine j_aload_n C dX0_empty_5 rfl ?_
  refine j_null C dX0_empty_6 ?_
  refine pf_X0_13 C rfl g1 dX0_empty_7 ?_
  refine j_aload_n C dX0_empty_10 rfl ?_
  refine j_iconst (v := (0 : Int32)) C dX0_empty_11 (by decide) ?_
  refine pf_X0_21 C rfl g1 dX0_empty_12 ?_
  refine j_aload_n C dX0_empty_15 rfl ?_
  refine j_iconst (v := (0 : Int32)) C dX0_empty_16 (by decide) ?_
  refine pf_X0_25 C rfl g1 dX0_empty_17 ?_
  exact j_vret C dX0_empty_20 (hlim _ _ (by omega) (by omega)) hv
def vc_X0_add (t : Nat) (o1 : Option Nat) (h : Hp) (Q : Option AV ⊕ String → Hp → Prop) : Prop :=
    ∀ (P28 : Hp → Prop),
    (∀  (h : Hp), (tg h t = 1 ∧ ∃ a9 : Nat, o1 = some a9 ∧ thg h a9 ∧ Q (.inl none) (pI (pI (pR h 20 t o1) 21 t ((fI h 21 t) + (1 : Int32))) 22 t ((fI h 22 t) + (fI h 1 a9)))) → P28 h) →
    ∃ a1 : Nat, o1 = some a1 ∧ thg h a1 ∧ tg h t = 1 ∧ ((∀ a5 : Nat, fR h 20 t = some a5 → thg h a5 ∧ P28 (pR (pR h 3 a1 none) 3 a5 o1)) ∧ (fR h 20 t = none → P28 (pR (pR h 3 a1 none) 19 t o1)))
set_option maxRecDepth 20000 in
theorem s_X0_add {t : Nat} {o1 : Option Nat} {h : Hp} {Q : Option AV ⊕ String → Hp → Prop} {lv : Nat} (hlv : lv + 0 ≤ 12) (hv : vc_X0_add t o1 h Q) (l : Launch) (D : va_G) (dA : Nat → ClassId) (sz : Nat) (hst : l.stackTraces = false) : Ctr l D dA sz (Cond.code yX0_add cX0_add 2 none) yX0_add lv [vr (some t), vr o1] h 0 0 Q := by
  refine Ctr.of (lo := [some (vr (some t)), some (vr o1)]) hst (by decide) (by simp [ena, isL]) rfl ?_
  intro G hg hlim C
  unfold vc_X0_add at hv
  have hv := hv (fun  h => J G Q 28 [some (vr (some t)), some (vr o1)] [] h 0 0)
  have hv := hv (by
      intro  h hv
      refine j_aload_n C dX0_add_28 rfl ?_
      refine j_aload_n C dX0_add_29 rfl ?_
      obtain ⟨g8, hv⟩ := hv
      refine pf_X0_13 C rfl g8 dX0_add_30 ?_
      refine j_aload_n C dX0_add_33 rfl ?_
      refine j_dup C dX0_add_34 rfl ?_
      refine gf_X0_21 C rfl g8 dX0_add_35 ?_
      refine j_iconst (v := (1 : Int32)) C dX0_add_38 (by decide) ?_
      refine j_iadd C dX0_add_39 ?_
      refine pf_X0_21 C rfl g8 dX0_add_40 ?_
      refine j_aload_n C dX0_add_43 rfl ?_
      refine j_dup C dX0_add_44 rfl ?_
      refine gf_X0_25 C rfl g8 dX0_add_45 ?_
      refine j_aload_n C dX0_add_48 rfl ?_
      obtain ⟨a9, e10, hv⟩ := hv
      obtain ⟨g11, hv⟩ := hv
      refine gf_X0_28 C e10 g11 dX0_add_49 ?_
      refine j_iadd C dX0_add_52 ?_
      refine pf_X0_25 C rfl g8 dX0_add_53 ?_
      exact j_vret C dX0_add_56 (hlim _ _ (by omega) (by omega)) hv)
  refine j_aload_n C dX0_add_0 rfl ?_
  refine j_null C dX0_add_1 ?_
  obtain ⟨a1, e2, hv⟩ := hv
  obtain ⟨g3, hv⟩ := hv
  refine pf_X0_7 C e2 g3 dX0_add_2 ?_
  refine j_aload_n C dX0_add_5 rfl ?_
  obtain ⟨g4, hv⟩ := hv
  refine gf_X0_13 C rfl g4 dX0_add_6 ?_
  refine j_ifnonnull (tgt := 20) C dX0_add_9 (by decide) ⟨fun a5 e6 => ?_, fun e6 => ?_⟩
  · have hv := hv.1 a5 e6
    refine j_aload_n C dX0_add_20 rfl ?_
    refine gf_X0_13 C rfl g4 dX0_add_21 ?_
    refine j_aload_n C dX0_add_24 rfl ?_
    obtain ⟨g7, hv⟩ := hv
    refine pf_X0_7 C e6 g7 dX0_add_25 ?_
    exact j_sub (by exact (And.intro rfl (And.intro rfl trivial))) hv
  · have hv := hv.2 e6
    refine j_aload_n C dX0_add_12 rfl ?_
    refine j_aload_n C dX0_add_13 rfl ?_
    refine pf_X0_18 C rfl g4 dX0_add_14 ?_
    refine j_goto (tgt := 28) C dX0_add_17 (by decide) ?_
    exact j_sub (by exact (And.intro rfl (And.intro rfl trivial))) hv
def vc_X0_takeAll (t : Nat) (o1 : Option Nat) (h : Hp) (Q : Option AV ⊕ String → Hp → Prop) : Prop :=
    ∀ (P37 : Hp → Prop),
    (∀  (h : Hp), (∃ a10 : Nat, o1 = some a10 ∧ tg h a10 = 1 ∧ tg h t = 1 ∧ vc_X0_empty a10 (pI (pI (pR h 20 t (fR h 20 a10)) 21 t ((fI h 21 t) + (fI h 21 a10))) 22 t ((fI h 22 t) + (fI h 22 a10))) (qv (fun h14 => Q (.inl none) h14) qn)) → P37 h) →
    ∃ a1 : Nat, o1 = some a1 ∧ tg h a1 = 1 ∧ ((∀ a4 : Nat, fR h 19 a1 = some a4 → tg h t = 1 ∧ ((∀ a7 : Nat, fR h 20 t = some a7 → thg h a7 ∧ P37 (pR h 3 a7 (fR h 19 a1))) ∧ (fR h 20 t = none → P37 (pR h 19 t (fR h 19 a1))))) ∧ (fR h 19 a1 = none → Q (.inl none) h))
set_option maxRecDepth 20000 in
theorem s_X0_takeAll {t : Nat} {o1 : Option Nat} {h : Hp} {Q : Option AV ⊕ String → Hp → Prop} {lv : Nat} (hlv : lv + 1 ≤ 12) (hv : vc_X0_takeAll t o1 h Q) (l : Launch) (D : va_G) (dA : Nat → ClassId) (sz : Nat) (hst : l.stackTraces = false) : Ctr l D dA sz (Cond.code yX0_takeAll cX0_takeAll 2 none) yX0_takeAll lv [vr (some t), vr o1] h 0 0 Q := by
  refine Ctr.of (lo := [some (vr (some t)), some (vr o1)]) hst (by decide) (by simp [ena, isL]) rfl ?_
  intro G hg hlim C
  unfold vc_X0_takeAll at hv
  have hv := hv (fun  h => J G Q 37 [some (vr (some t)), some (vr o1)] [] h 0 0)
  have hv := hv (by
      intro  h hv
      refine j_aload_n C dX0_takeAll_37 rfl ?_
      refine j_aload_n C dX0_takeAll_38 rfl ?_
      obtain ⟨a10, e11, hv⟩ := hv
      obtain ⟨g12, hv⟩ := hv
      refine gf_X0_13 C e11 g12 dX0_takeAll_39 ?_
      obtain ⟨g13, hv⟩ := hv
      refine pf_X0_13 C rfl g13 dX0_takeAll_42 ?_
      refine j_aload_n C dX0_takeAll_45 rfl ?_
      refine j_dup C dX0_takeAll_46 rfl ?_
      refine gf_X0_21 C rfl g13 dX0_takeAll_47 ?_
      refine j_aload_n C dX0_takeAll_50 rfl ?_
      refine gf_X0_21 C e11 g12 dX0_takeAll_51 ?_
      refine j_iadd C dX0_takeAll_54 ?_
      refine pf_X0_21 C rfl g13 dX0_takeAll_55 ?_
      refine j_aload_n C dX0_takeAll_58 rfl ?_
      refine j_dup C dX0_takeAll_59 rfl ?_
      refine gf_X0_25 C rfl g13 dX0_takeAll_60 ?_
      refine j_aload_n C dX0_takeAll_63 rfl ?_
      refine gf_X0_25 C e11 g12 dX0_takeAll_64 ?_
      refine j_iadd C dX0_takeAll_67 ?_
      refine pf_X0_25 C rfl g13 dX0_takeAll_68 ?_
      refine j_aload_n C dX0_takeAll_71 rfl ?_
      refine k_callV C 0 [] mv_X0_29 e11 rfl (fun l D dA sz hl => s_X0_empty (by omega) hv l D dA sz hl) rfl rfl (by decide) g12 rfl (by omega) (Nat.le_of_ble_eq_true rfl) (hlim _ _ (by omega) (by omega)) dX0_takeAll_72 (fun _ _ q => False.elim q) (fun v h14 hq => ?_)
      obtain ⟨rfl, hv⟩ := qv_inv hq
      exact j_vret C dX0_takeAll_75 (hlim _ _ (by omega) (by omega)) hv)
  refine j_aload_n C dX0_takeAll_0 rfl ?_
  obtain ⟨a1, e2, hv⟩ := hv
  obtain ⟨g3, hv⟩ := hv
  refine gf_X0_18 C e2 g3 dX0_takeAll_1 ?_
  refine j_ifnonnull (tgt := 8) C dX0_takeAll_4 (by decide) ⟨fun a4 e5 => ?_, fun e5 => ?_⟩
  · have hv := hv.1 a4 e5
    refine j_aload_n C dX0_takeAll_8 rfl ?_
    obtain ⟨g6, hv⟩ := hv
    refine gf_X0_13 C rfl g6 dX0_takeAll_9 ?_
    refine j_ifnonnull (tgt := 26) C dX0_takeAll_12 (by decide) ⟨fun a7 e8 => ?_, fun e8 => ?_⟩
    · have hv := hv.1 a7 e8
      refine j_aload_n C dX0_takeAll_26 rfl ?_
      refine gf_X0_13 C rfl g6 dX0_takeAll_27 ?_
      refine j_aload_n C dX0_takeAll_30 rfl ?_
      refine gf_X0_18 C e2 g3 dX0_takeAll_31 ?_
      obtain ⟨g9, hv⟩ := hv
      refine pf_X0_7 C e8 g9 dX0_takeAll_34 ?_
      exact j_sub (by exact (And.intro rfl (And.intro rfl trivial))) hv
    · have hv := hv.2 e8
      refine j_aload_n C dX0_takeAll_15 rfl ?_
      refine j_aload_n C dX0_takeAll_16 rfl ?_
      refine gf_X0_18 C e2 g3 dX0_takeAll_17 ?_
      refine pf_X0_18 C rfl g6 dX0_takeAll_20 ?_
      refine j_goto (tgt := 37) C dX0_takeAll_23 (by decide) ?_
      exact j_sub (by exact (And.intro rfl (And.intro rfl trivial))) hv
  · have hv := hv.2 e5
    exact j_vret C dX0_takeAll_7 (hlim _ _ (by omega) (by omega)) hv
def vc_X2_add (t : Nat) (o1 : Option Nat) (h : Hp) (Q : Option AV ⊕ String → Hp → Prop) : Prop :=
    ∀ (P23 : Hp → Prop),
    (∀  (h : Hp), (tg h t = 3 ∧ Q (.inl none) (pI (pR h 11 t o1) 12 t ((fI h 12 t) + (1 : Int32)))) → P23 h) →
    tg h t = 3 ∧ ((∀ a2 : Nat, fR h 11 t = some a2 → tg h a2 = 4 ∧ P23 (pR h 17 a2 o1)) ∧ (fR h 11 t = none → P23 (pR h 10 t o1)))
set_option maxRecDepth 20000 in
theorem s_X2_add {t : Nat} {o1 : Option Nat} {h : Hp} {Q : Option AV ⊕ String → Hp → Prop} {lv : Nat} (hlv : lv + 0 ≤ 12) (hv : vc_X2_add t o1 h Q) (l : Launch) (D : va_G) (dA : Nat → ClassId) (sz : Nat) (hst : l.stackTraces = false) : Ctr l D dA sz (Cond.code yX2_add cX2_add 2 none) yX2_add lv [vr (some t), vr o1] h 0 0 Q := by
  refine Ctr.of (lo := [some (vr (some t)), some (vr o1)]) hst (by decide) (by simp [ena, isL]) rfl ?_
  intro G hg hlim C
  unfold vc_X2_add at hv
  have hv := hv (fun  h => J G Q 23 [some (vr (some t)), some (vr o1)] [] h 0 0)
  have hv := hv (by
      intro  h hv
      refine j_aload_n C dX2_add_23 rfl ?_
      refine j_aload_n C dX2_add_24 rfl ?_
      obtain ⟨g5, hv⟩ := hv
      refine pf_X2_9 C rfl g5 dX2_add_25 ?_
      refine j_aload_n C dX2_add_28 rfl ?_
      refine j_dup C dX2_add_29 rfl ?_
      refine gf_X2_23 C rfl g5 dX2_add_30 ?_
      refine j_iconst (v := (1 : Int32)) C dX2_add_33 (by decide) ?_
      refine j_iadd C dX2_add_34 ?_
      refine pf_X2_23 C rfl g5 dX2_add_35 ?_
      exact j_vret C dX2_add_38 (hlim _ _ (by omega) (by omega)) hv)
  refine j_aload_n C dX2_add_0 rfl ?_
  obtain ⟨g1, hv⟩ := hv
  refine gf_X2_9 C rfl g1 dX2_add_1 ?_
  refine j_ifnonnull (tgt := 15) C dX2_add_4 (by decide) ⟨fun a2 e3 => ?_, fun e3 => ?_⟩
  · have hv := hv.1 a2 e3
    refine j_aload_n C dX2_add_15 rfl ?_
    refine gf_X2_9 C rfl g1 dX2_add_16 ?_
    refine j_aload_n C dX2_add_19 rfl ?_
    obtain ⟨g4, hv⟩ := hv
    refine pf_X2_18 C e3 g4 dX2_add_20 ?_
    exact j_sub (by exact (And.intro rfl (And.intro rfl trivial))) hv
  · have hv := hv.2 e3
    refine j_aload_n C dX2_add_7 rfl ?_
    refine j_aload_n C dX2_add_8 rfl ?_
    refine pf_X2_15 C rfl g1 dX2_add_9 ?_
    refine j_goto (tgt := 23) C dX2_add_12 (by decide) ?_
    exact j_sub (by exact (And.intro rfl (And.intro rfl trivial))) hv
def vc_X2_takeFirst (t : Nat) (h : Hp) (Q : Option AV ⊕ String → Hp → Prop) : Prop :=
    ∀ (P36 : Option Nat → Hp → Prop),
    (∀ (u1 : Option Nat) (h : Hp), (tg h t = 3 ∧ Q (.inl (some (vr u1))) (pI h 12 t ((fI h 12 t) - (1 : Int32)))) → P36 u1 h) →
    tg h t = 3 ∧ ((∀ a2 : Nat, fR h 10 t = some a2 → tg h a2 = 4 ∧ ((∀ a5 : Nat, fR (pR h 10 t (fR h 17 a2)) 10 t = some a5 → P36 (fR h 10 t) (pR (pR h 10 t (fR h 17 a2)) 17 a2 none)) ∧ (fR (pR h 10 t (fR h 17 a2)) 10 t = none → P36 (fR h 10 t) (pR (pR (pR h 10 t (fR h 17 a2)) 17 a2 none) 11 t none)))) ∧ (fR h 10 t = none → Q (.inl (some (vr none))) h))
set_option maxRecDepth 20000 in
theorem s_X2_takeFirst {t : Nat} {h : Hp} {Q : Option AV ⊕ String → Hp → Prop} {lv : Nat} (hlv : lv + 0 ≤ 12) (hv : vc_X2_takeFirst t h Q) (l : Launch) (D : va_G) (dA : Nat → ClassId) (sz : Nat) (hst : l.stackTraces = false) : Ctr l D dA sz (Cond.code yX2_takeFirst cX2_takeFirst 2 (some (.object "RefHeap$Loose"))) yX2_takeFirst lv [vr (some t)] h 0 0 Q := by
  refine Ctr.of (lo := [some (vr (some t)), none]) hst (by decide) (by simp [ena, isL]) rfl ?_
  intro G hg hlim C
  unfold vc_X2_takeFirst at hv
  have hv := hv (fun u1 h => J G Q 36 [some (vr (some t)), some (vr u1)] [] h 0 0)
  have hv := hv (by
      intro u1 h hv
      refine j_aload_n C dX2_takeFirst_36 rfl ?_
      refine j_dup C dX2_takeFirst_37 rfl ?_
      obtain ⟨g7, hv⟩ := hv
      refine gf_X2_23 C rfl g7 dX2_takeFirst_38 ?_
      refine j_iconst (v := (1 : Int32)) C dX2_takeFirst_41 (by decide) ?_
      refine j_isub C dX2_takeFirst_42 ?_
      refine pf_X2_23 C rfl g7 dX2_takeFirst_43 ?_
      refine j_aload_n C dX2_takeFirst_46 rfl ?_
      exact j_aret C dX2_takeFirst_47 (hlim _ _ (by omega) (by omega)) hv)
  refine j_aload_n C dX2_takeFirst_0 rfl ?_
  obtain ⟨g1, hv⟩ := hv
  refine gf_X2_15 C rfl g1 dX2_takeFirst_1 ?_
  refine j_astore_n (lo' := [some (vr (some t)), some (vr (fR h 10 t))]) C dX2_takeFirst_4 (Nat.le_of_ble_eq_true rfl) rfl ?_
  refine j_aload_n C dX2_takeFirst_5 rfl ?_
  refine j_ifnonnull (tgt := 11) C dX2_takeFirst_6 (by decide) ⟨fun a2 e3 => ?_, fun e3 => ?_⟩
  · have hv := hv.1 a2 e3
    refine j_aload_n C dX2_takeFirst_11 rfl ?_
    refine j_aload_n C dX2_takeFirst_12 rfl ?_
    obtain ⟨g4, hv⟩ := hv
    refine gf_X2_18 C e3 g4 dX2_takeFirst_13 ?_
    refine pf_X2_15 C rfl g1 dX2_takeFirst_16 ?_
    refine j_aload_n C dX2_takeFirst_19 rfl ?_
    refine j_null C dX2_takeFirst_20 ?_
    refine pf_X2_18 C e3 g4 dX2_takeFirst_21 ?_
    refine j_aload_n C dX2_takeFirst_24 rfl ?_
    refine gf_X2_15 C rfl g1 dX2_takeFirst_25 ?_
    refine j_ifnonnull (tgt := 36) C dX2_takeFirst_28 (by decide) ⟨fun a5 e6 => ?_, fun e6 => ?_⟩
    · have hv := hv.1 a5 e6
      exact j_sub (by exact (And.intro rfl (And.intro rfl trivial))) hv
    · have hv := hv.2 e6
      refine j_aload_n C dX2_takeFirst_31 rfl ?_
      refine j_null C dX2_takeFirst_32 ?_
      refine pf_X2_9 C rfl g1 dX2_takeFirst_33 ?_
      exact j_sub (by exact (And.intro rfl (And.intro rfl trivial))) hv
  · have hv := hv.2 e3
    refine j_null C dX2_takeFirst_9 ?_
    exact j_aret C dX2_takeFirst_10 (hlim _ _ (by omega) (by omega)) hv
def vc_X3_forget (t : Nat) (h : Hp) (Q : Option AV ⊕ String → Hp → Prop) : Prop :=
    tg h t = 4 ∧ Q (.inl none) (pR (pR h 13 t none) 14 t none)
set_option maxRecDepth 20000 in
theorem s_X3_forget {t : Nat} {h : Hp} {Q : Option AV ⊕ String → Hp → Prop} {lv : Nat} (hlv : lv + 0 ≤ 12) (hv : vc_X3_forget t h Q) (l : Launch) (D : va_G) (dA : Nat → ClassId) (sz : Nat) (hst : l.stackTraces = false) : Ctr l D dA sz (Cond.code yX3_forget cX3_forget 1 none) yX3_forget lv [vr (some t)] h 0 0 Q := by
  refine Ctr.of (lo := [some (vr (some t))]) hst (by decide) (by simp [ena, isL]) rfl ?_
  intro G hg hlim C
  unfold vc_X3_forget at hv
  refine j_aload_n C dX3_forget_0 rfl ?_
  refine j_null C dX3_forget_1 ?_
  obtain ⟨g1, hv⟩ := hv
  refine pf_X3_9 C rfl g1 dX3_forget_2 ?_
  refine j_aload_n C dX3_forget_5 rfl ?_
  refine j_null C dX3_forget_6 ?_
  refine pf_X3_15 C rfl g1 dX3_forget_7 ?_
  exact j_vret C dX3_forget_10 (hlim _ _ (by omega) (by omega)) hv
def vc_X6_mix (z1 : Int64) (z2 : Int64) (h : Hp) (Q : Option AV ⊕ String → Hp → Prop) : Prop :=
    Q (.inl (some (vl (((31 : Int64) * z1) + z2)))) h
set_option maxRecDepth 20000 in
theorem s_X6_mix {z1 : Int64} {z2 : Int64} {h : Hp} {Q : Option AV ⊕ String → Hp → Prop} {lv : Nat} (hlv : lv + 0 ≤ 12) (hv : vc_X6_mix z1 z2 h Q) (l : Launch) (D : va_G) (dA : Nat → ClassId) (sz : Nat) (hst : l.stackTraces = false) : Ctr l D dA sz (Cond.code yX6_mix cX6_mix 4 (some .long)) yX6_mix lv [vl z1, vl z2] h 0 0 Q := by
  refine Ctr.of (lo := [some (vl z1), none, some (vl z2), none]) hst (by decide) (by simp [ena, isL]) rfl ?_
  intro G hg hlim C
  unfold vc_X6_mix at hv
  refine j_ldc2 C wg_655 dX6_mix_0 ?_
  refine j_lload_n C dX6_mix_3 rfl ?_
  refine j_lmul C dX6_mix_4 ?_
  refine j_lload_n C dX6_mix_5 rfl ?_
  refine j_ladd C dX6_mix_6 ?_
  exact j_lret C dX6_mix_7 (hlim _ _ (by omega) (by omega)) hv
def vc_X6_oneIfObject (o1 : Option Nat) (h : Hp) (Q : Option AV ⊕ String → Hp → Prop) : Prop :=
    ((∀ a1 : Nat, o1 = some a1 → Q (.inl (some (vi (1 : Int32)))) h) ∧ (o1 = none → Q (.inl (some (vi (0 : Int32)))) h))
set_option maxRecDepth 20000 in
theorem s_X6_oneIfObject {o1 : Option Nat} {h : Hp} {Q : Option AV ⊕ String → Hp → Prop} {lv : Nat} (hlv : lv + 0 ≤ 12) (hv : vc_X6_oneIfObject o1 h Q) (l : Launch) (D : va_G) (dA : Nat → ClassId) (sz : Nat) (hst : l.stackTraces = false) : Ctr l D dA sz (Cond.code yX6_oneIfObject cX6_oneIfObject 1 (some .int)) yX6_oneIfObject lv [vr o1] h 0 0 Q := by
  refine Ctr.of (lo := [some (vr o1)]) hst (by decide) (by simp [ena, isL]) rfl ?_
  intro G hg hlim C
  unfold vc_X6_oneIfObject at hv
  refine j_aload_n C dX6_oneIfObject_0 rfl ?_
  refine j_ifnonnull (tgt := 8) C dX6_oneIfObject_1 (by decide) ⟨fun a1 e2 => ?_, fun e2 => ?_⟩
  · have hv := hv.1 a1 e2
    refine j_iconst (v := (1 : Int32)) C dX6_oneIfObject_8 (by decide) ?_
    exact j_iret C dX6_oneIfObject_9 (hlim _ _ (by omega) (by omega)) hv
  · have hv := hv.2 e2
    refine j_iconst (v := (0 : Int32)) C dX6_oneIfObject_4 (by decide) ?_
    refine j_goto (tgt := 9) C dX6_oneIfObject_5 (by decide) ?_
    exact j_iret C dX6_oneIfObject_9 (hlim _ _ (by omega) (by omega)) hv
def vc_X6_checkRange (x1 : Int32) (x2 : Int32) (x3 : Int32) (h : Hp) (Q : Option AV ⊕ String → Hp → Prop) : Prop :=
    ∀ (P10 : Hp → Prop),
    (∀  (h : Hp), (Q (.inr xA) h) → P10 h) →
    ((x1 < x2 → P10 h) ∧ (¬ x1 < x2 → ((x1 ≤ x3 → Q (.inl none) h) ∧ (¬ x1 ≤ x3 → P10 h))))
set_option maxRecDepth 20000 in
theorem s_X6_checkRange {x1 : Int32} {x2 : Int32} {x3 : Int32} {h : Hp} {Q : Option AV ⊕ String → Hp → Prop} {lv : Nat} (hlv : lv + 6 ≤ 12) (hv : vc_X6_checkRange x1 x2 x3 h Q) (l : Launch) (D : va_G) (dA : Nat → ClassId) (sz : Nat) (hst : l.stackTraces = false) : Ctr l D dA sz (Cond.code yX6_checkRange cX6_checkRange 3 none) yX6_checkRange lv [vi x1, vi x2, vi x3] h 1 6 Q := by
  refine Ctr.of (lo := [some (vi x1), some (vi x2), some (vi x3)]) hst (by decide) (by simp [ena, isL]) rfl ?_
  intro G hg hlim C
  unfold vc_X6_checkRange at hv
  have hv := hv (fun  h => J G Q 10 [none, none, none] [] h 0 0)
  have hv := hv (by
      intro  h hv
      exact k_throwa C (is := 209) (tx := "a number is out of its range") (by simp [strs]) dX6_checkRange_10 dX6_checkRange_13 dX6_checkRange_14 dX6_checkRange_16 dX6_checkRange_19 rfl (by omega) (Nat.le_of_ble_eq_true rfl) (hlim _ _ (by omega) (by omega)) hv)
  refine j_iload_n C dX6_checkRange_0 rfl ?_
  refine j_iload_n C dX6_checkRange_1 rfl ?_
  refine j_icmp_lt (tgt := 10) C dX6_checkRange_2 (by decide) ⟨fun q2 => ?_, fun q2 => ?_⟩
  · have hv := hv.1 q2
    exact j_sub (by exact trivial) hv
  · have hv := hv.2 q2
    refine j_iload_n C dX6_checkRange_5 rfl ?_
    refine j_iload_n C dX6_checkRange_6 rfl ?_
    refine j_icmp_le (tgt := 20) C dX6_checkRange_7 (by decide) ⟨fun q1 => ?_, fun q1 => ?_⟩
    · have hv := hv.1 q1
      exact j_vret C dX6_checkRange_20 (hlim _ _ (by omega) (by omega)) hv
    · have hv := hv.2 q1
      exact j_sub (by exact trivial) hv
def vc_X6_checkNotNegative (x1 : Int32) (h : Hp) (Q : Option AV ⊕ String → Hp → Prop) : Prop :=
    ((0 ≤ x1 → Q (.inl none) h) ∧ (¬ 0 ≤ x1 → Q (.inr xA) h))
set_option maxRecDepth 20000 in
theorem s_X6_checkNotNegative {x1 : Int32} {h : Hp} {Q : Option AV ⊕ String → Hp → Prop} {lv : Nat} (hlv : lv + 6 ≤ 12) (hv : vc_X6_checkNotNegative x1 h Q) (l : Launch) (D : va_G) (dA : Nat → ClassId) (sz : Nat) (hst : l.stackTraces = false) : Ctr l D dA sz (Cond.code yX6_checkNotNegative cX6_checkNotNegative 1 none) yX6_checkNotNegative lv [vi x1] h 1 6 Q := by
  refine Ctr.of (lo := [some (vi x1)]) hst (by decide) (by simp [ena, isL]) rfl ?_
  intro G hg hlim C
  unfold vc_X6_checkNotNegative at hv
  refine j_iload_n C dX6_checkNotNegative_0 rfl ?_
  refine j_if_ge (tgt := 14) C dX6_checkNotNegative_1 (by decide) ⟨fun q3 => ?_, fun q3 => ?_⟩
  · have hv := hv.1 q3
    exact j_vret C dX6_checkNotNegative_14 (hlim _ _ (by omega) (by omega)) hv
  · have hv := hv.2 q3
    exact k_throwa C (is := 212) (tx := "a number is below 0") (by simp [strs]) dX6_checkNotNegative_4 dX6_checkNotNegative_7 dX6_checkNotNegative_8 dX6_checkNotNegative_10 dX6_checkNotNegative_13 rfl (by omega) (Nat.le_of_ble_eq_true rfl) (hlim _ _ (by omega) (by omega)) hv
def vc_X6_checkRoot (t : Nat) (x1 : Int32) (h : Hp) (Q : Option AV ⊕ String → Hp → Prop) : Prop :=
    tg h t = 6 ∧ ∃ a2 : Nat, fR h 31 t = some a2 ∧ tg h a2 = 8 ∧ vp_in (7 : Int32) (ln h a2) ∧ vc_X6_checkRange x1 (0 : Int32) ((aI h a2 7) - (1 : Int32)) h (qv (fun h6 => Q (.inl none) h6) (fun E hE => Q (.inr E) hE))
set_option maxRecDepth 20000 in
theorem s_X6_checkRoot {t : Nat} {x1 : Int32} {h : Hp} {Q : Option AV ⊕ String → Hp → Prop} {lv : Nat} (hlv : lv + 7 ≤ 12) (hv : vc_X6_checkRoot t x1 h Q) (l : Launch) (D : va_G) (dA : Nat → ClassId) (sz : Nat) (hst : l.stackTraces = false) : Ctr l D dA sz (Cond.code yX6_checkRoot cX6_checkRoot 2 none) yX6_checkRoot lv [vr (some t), vi x1] h 1 6 Q := by
  refine Ctr.of (lo := [some (vr (some t)), some (vi x1)]) hst (by decide) (by simp [ena, isL]) rfl ?_
  intro G hg hlim C
  unfold vc_X6_checkRoot at hv
  refine j_iload_n C dX6_checkRoot_0 rfl ?_
  refine j_iconst (v := (0 : Int32)) C dX6_checkRoot_1 (by decide) ?_
  refine j_aload_n C dX6_checkRoot_2 rfl ?_
  obtain ⟨g1, hv⟩ := hv
  refine gf_X6_19 C rfl g1 dX6_checkRoot_3 ?_
  refine j_bipush (v := (7 : Int32)) C dX6_checkRoot_6 (by decide) ?_
  obtain ⟨a2, e3, hv⟩ := hv
  obtain ⟨g4, hv⟩ := hv
  obtain ⟨b5, hv⟩ := hv
  refine k_iald (j := 7) C e3 g4 b5 (by decide) dX6_checkRoot_8 ?_
  refine j_iconst (v := (1 : Int32)) C dX6_checkRoot_9 (by decide) ?_
  refine j_isub C dX6_checkRoot_10 ?_
  refine k_callS C [vi x1, vi (0 : Int32), vi ((aI h a2 7) - (1 : Int32))] ms_X6_59 rfl (fun l D dA sz hl => s_X6_checkRange (by omega) hv l D dA sz hl) rfl (by omega) (Nat.le_of_ble_eq_true rfl) (hlim _ _ (by omega) (by omega)) dX6_checkRoot_11 (fun _ _ q => jx_out C (hlim _ _ (by omega) (by omega)) q) (fun v h6 hq => ?_)
  obtain ⟨rfl, hv⟩ := qv_inv hq
  exact j_vret C dX6_checkRoot_14 (hlim _ _ (by omega) (by omega)) hv
def vc_X6_checkRootOrNone (t : Nat) (x1 : Int32) (h : Hp) (Q : Option AV ⊕ String → Hp → Prop) : Prop :=
    tg h t = 6 ∧ ∃ a2 : Nat, fR h 31 t = some a2 ∧ tg h a2 = 8 ∧ vp_in (7 : Int32) (ln h a2) ∧ vc_X6_checkRange x1 (-1 : Int32) ((aI h a2 7) - (1 : Int32)) h (qv (fun h6 => Q (.inl none) h6) (fun E hE => Q (.inr E) hE))
set_option maxRecDepth 20000 in
theorem s_X6_checkRootOrNone {t : Nat} {x1 : Int32} {h : Hp} {Q : Option AV ⊕ String → Hp → Prop} {lv : Nat} (hlv : lv + 7 ≤ 12) (hv : vc_X6_checkRootOrNone t x1 h Q) (l : Launch) (D : va_G) (dA : Nat → ClassId) (sz : Nat) (hst : l.stackTraces = false) : Ctr l D dA sz (Cond.code yX6_checkRootOrNone cX6_checkRootOrNone 2 none) yX6_checkRootOrNone lv [vr (some t), vi x1] h 1 6 Q := by
  refine Ctr.of (lo := [some (vr (some t)), some (vi x1)]) hst (by decide) (by simp [ena, isL]) rfl ?_
  intro G hg hlim C
  unfold vc_X6_checkRootOrNone at hv
  refine j_iload_n C dX6_checkRootOrNone_0 rfl ?_
  refine j_iconst (v := (-1 : Int32)) C dX6_checkRootOrNone_1 (by decide) ?_
  refine j_aload_n C dX6_checkRootOrNone_2 rfl ?_
  obtain ⟨g1, hv⟩ := hv
  refine gf_X6_19 C rfl g1 dX6_checkRootOrNone_3 ?_
  refine j_bipush (v := (7 : Int32)) C dX6_checkRootOrNone_6 (by decide) ?_
  obtain ⟨a2, e3, hv⟩ := hv
  obtain ⟨g4, hv⟩ := hv
  obtain ⟨b5, hv⟩ := hv
  refine k_iald (j := 7) C e3 g4 b5 (by decide) dX6_checkRootOrNone_8 ?_
  refine j_iconst (v := (1 : Int32)) C dX6_checkRootOrNone_9 (by decide) ?_
  refine j_isub C dX6_checkRootOrNone_10 ?_
  refine k_callS C [vi x1, vi (-1 : Int32), vi ((aI h a2 7) - (1 : Int32))] ms_X6_59 rfl (fun l D dA sz hl => s_X6_checkRange (by omega) hv l D dA sz hl) rfl (by omega) (Nat.le_of_ble_eq_true rfl) (hlim _ _ (by omega) (by omega)) dX6_checkRootOrNone_11 (fun _ _ q => jx_out C (hlim _ _ (by omega) (by omega)) q) (fun v h6 hq => ?_)
  obtain ⟨rfl, hv⟩ := qv_inv hq
  exact j_vret C dX6_checkRootOrNone_14 (hlim _ _ (by omega) (by omega)) hv
def vc_X6_atOrNone (t : Nat) (x1 : Int32) (h : Hp) (Q : Option AV ⊕ String → Hp → Prop) : Prop :=
    ((¬ x1 = (-1 : Int32) → tg h t = 6 ∧ ∃ a2 : Nat, fR h 29 t = some a2 ∧ tg h a2 = 11 ∧ vp_in x1 (ln h a2) ∧ Q (.inl (some (vr (aR h a2 x1.toNatClampNeg)))) h) ∧ (x1 = (-1 : Int32) → Q (.inl (some (vr none))) h))
set_option maxRecDepth 20000 in
theorem s_X6_atOrNone {t : Nat} {x1 : Int32} {h : Hp} {Q : Option AV ⊕ String → Hp → Prop} {lv : Nat} (hlv : lv + 0 ≤ 12) (hv : vc_X6_atOrNone t x1 h Q) (l : Launch) (D : va_G) (dA : Nat → ClassId) (sz : Nat) (hst : l.stackTraces = false) : Ctr l D dA sz (Cond.code yX6_atOrNone cX6_atOrNone 2 (some (.object "RefHeap$Thing"))) yX6_atOrNone lv [vr (some t), vi x1] h 0 0 Q := by
  refine Ctr.of (lo := [some (vr (some t)), some (vi x1)]) hst (by decide) (by simp [ena, isL]) rfl ?_
  intro G hg hlim C
  unfold vc_X6_atOrNone at hv
  refine j_iload_n C dX6_atOrNone_0 rfl ?_
  refine j_iconst (v := (-1 : Int32)) C dX6_atOrNone_1 (by decide) ?_
  refine j_icmp_ne (tgt := 9) C dX6_atOrNone_2 (by decide) ⟨fun q6 => ?_, fun q6 => ?_⟩
  · have hv := hv.1 q6
    refine j_aload_n C dX6_atOrNone_9 rfl ?_
    obtain ⟨g1, hv⟩ := hv
    refine gf_X6_11 C rfl g1 dX6_atOrNone_10 ?_
    refine j_iload_n C dX6_atOrNone_13 rfl ?_
    obtain ⟨a2, e3, hv⟩ := hv
    obtain ⟨g4, hv⟩ := hv
    obtain ⟨b5, hv⟩ := hv
    refine k_aald (j := x1.toNatClampNeg) C e3 g4 b5 rfl dX6_atOrNone_14 ?_
    exact j_aret C dX6_atOrNone_15 (hlim _ _ (by omega) (by omega)) hv
  · have hv := hv.2 q6
    refine j_null C dX6_atOrNone_5 ?_
    refine j_goto (tgt := 15) C dX6_atOrNone_6 (by decide) ?_
    exact j_aret C dX6_atOrNone_15 (hlim _ _ (by omega) (by omega)) hv
def vc_X6_putRoot (t : Nat) (x1 : Int32) (o2 : Option Nat) (h : Hp) (Q : Option AV ⊕ String → Hp → Prop) : Prop :=
    tg h t = 6 ∧ ∃ a2 : Nat, fR h 29 t = some a2 ∧ tg h a2 = 11 ∧ vp_in x1 (ln h a2) ∧ (∀ b : Nat, o2 = some b → thg h b) ∧ vc_X6_oneIfObject o2 (qR h a2 x1.toNatClampNeg o2) (qi (fun v8 h7 => Q (.inl (some (vi v8))) h7) qn)
set_option maxRecDepth 20000 in
theorem s_X6_putRoot {t : Nat} {x1 : Int32} {o2 : Option Nat} {h : Hp} {Q : Option AV ⊕ String → Hp → Prop} {lv : Nat} (hlv : lv + 1 ≤ 12) (hv : vc_X6_putRoot t x1 o2 h Q) (l : Launch) (D : va_G) (dA : Nat → ClassId) (sz : Nat) (hst : l.stackTraces = false) : Ctr l D dA sz (Cond.code yX6_putRoot cX6_putRoot 3 (some .int)) yX6_putRoot lv [vr (some t), vi x1, vr o2] h 0 0 Q := by
  refine Ctr.of (lo := [some (vr (some t)), some (vi x1), some (vr o2)]) hst (by decide) (by simp [ena, isL]) rfl ?_
  intro G hg hlim C
  unfold vc_X6_putRoot at hv
  refine j_aload_n C dX6_putRoot_0 rfl ?_
  obtain ⟨g1, hv⟩ := hv
  refine gf_X6_11 C rfl g1 dX6_putRoot_1 ?_
  refine j_iload_n C dX6_putRoot_4 rfl ?_
  refine j_aload_n C dX6_putRoot_5 rfl ?_
  obtain ⟨a2, e3, hv⟩ := hv
  obtain ⟨g4, hv⟩ := hv
  obtain ⟨b5, hv⟩ := hv
  obtain ⟨z6, hv⟩ := hv
  refine k_aast (j := x1.toNatClampNeg) C e3 g4 b5 rfl z6 dX6_putRoot_6 ?_
  refine j_aload_n C dX6_putRoot_7 rfl ?_
  refine k_callS C [vr o2] ms_X6_111 rfl (fun l D dA sz hl => s_X6_oneIfObject (by omega) hv l D dA sz hl) rfl (by omega) (Nat.le_of_ble_eq_true rfl) (hlim _ _ (by omega) (by omega)) dX6_putRoot_8 (fun _ _ q => False.elim q) (fun v h7 hq => ?_)
  obtain ⟨v8, rfl, hv⟩ := qi_inv hq
  exact j_iret C dX6_putRoot_11 (hlim _ _ (by omega) (by omega)) hv
def vc_X6_objectAt (t : Nat) (x1 : Int32) (h : Hp) (Q : Option AV ⊕ String → Hp → Prop) : Prop :=
    tg h t = 6 ∧ ∃ a2 : Nat, fR h 29 t = some a2 ∧ tg h a2 = 11 ∧ vp_in x1 (ln h a2) ∧ ((∀ a6 : Nat, aR h a2 x1.toNatClampNeg = some a6 → Q (.inl (some (vr (aR h a2 x1.toNatClampNeg)))) h) ∧ (aR h a2 x1.toNatClampNeg = none → Q (.inr xS) h))
set_option maxRecDepth 20000 in
theorem s_X6_objectAt {t : Nat} {x1 : Int32} {h : Hp} {Q : Option AV ⊕ String → Hp → Prop} {lv : Nat} (hlv : lv + 6 ≤ 12) (hv : vc_X6_objectAt t x1 h Q) (l : Launch) (D : va_G) (dA : Nat → ClassId) (sz : Nat) (hst : l.stackTraces = false) : Ctr l D dA sz (Cond.code yX6_objectAt cX6_objectAt 3 (some (.object "RefHeap$Thing"))) yX6_objectAt lv [vr (some t), vi x1] h 1 6 Q := by
  refine Ctr.of (lo := [some (vr (some t)), some (vi x1), none]) hst (by decide) (by simp [ena, isL]) rfl ?_
  intro G hg hlim C
  unfold vc_X6_objectAt at hv
  refine j_aload_n C dX6_objectAt_0 rfl ?_
  obtain ⟨g1, hv⟩ := hv
  refine gf_X6_11 C rfl g1 dX6_objectAt_1 ?_
  refine j_iload_n C dX6_objectAt_4 rfl ?_
  obtain ⟨a2, e3, hv⟩ := hv
  obtain ⟨g4, hv⟩ := hv
  obtain ⟨b5, hv⟩ := hv
  refine k_aald (j := x1.toNatClampNeg) C e3 g4 b5 rfl dX6_objectAt_5 ?_
  refine j_astore_n (lo' := [some (vr (some t)), some (vi x1), some (vr (aR h a2 x1.toNatClampNeg))]) C dX6_objectAt_6 (Nat.le_of_ble_eq_true rfl) rfl ?_
  refine j_aload_n C dX6_objectAt_7 rfl ?_
  refine j_ifnonnull (tgt := 21) C dX6_objectAt_8 (by decide) ⟨fun a6 e7 => ?_, fun e7 => ?_⟩
  · have hv := hv.1 a6 e7
    refine j_aload_n C dX6_objectAt_21 rfl ?_
    exact j_aret C dX6_objectAt_22 (hlim _ _ (by omega) (by omega)) hv
  · have hv := hv.2 e7
    exact k_throws C (is := 214) (tx := "the root is null") (by simp [strs]) dX6_objectAt_11 dX6_objectAt_14 dX6_objectAt_15 dX6_objectAt_17 dX6_objectAt_20 rfl (by omega) (Nat.le_of_ble_eq_true rfl) (hlim _ _ (by omega) (by omega)) hv
def vc_X6_lineAt (t : Nat) (x1 : Int32) (h : Hp) (Q : Option AV ⊕ String → Hp → Prop) : Prop :=
    tg h t = 6 ∧ ∃ a2 : Nat, fR h 29 t = some a2 ∧ tg h a2 = 11 ∧ vp_in x1 (ln h a2) ∧ (∀ b : Nat, aR h a2 x1.toNatClampNeg = some b → thg h b) ∧ ((∀ a7 : Nat, aR h a2 x1.toNatClampNeg = some a7 → tg h a7 = 3 → Q (.inl (some (vr (aR h a2 x1.toNatClampNeg)))) h) ∧ ((∀ b : Nat, aR h a2 x1.toNatClampNeg = some b → tg h b ≠ 3) → Q (.inr xS) h))
set_option maxRecDepth 20000 in
theorem s_X6_lineAt {t : Nat} {x1 : Int32} {h : Hp} {Q : Option AV ⊕ String → Hp → Prop} {lv : Nat} (hlv : lv + 6 ≤ 12) (hv : vc_X6_lineAt t x1 h Q) (l : Launch) (D : va_G) (dA : Nat → ClassId) (sz : Nat) (hst : l.stackTraces = false) : Ctr l D dA sz (Cond.code yX6_lineAt cX6_lineAt 4 (some (.object "RefHeap$Line"))) yX6_lineAt lv [vr (some t), vi x1] h 1 6 Q := by
  refine Ctr.of (lo := [some (vr (some t)), some (vi x1), none, none]) hst (by decide) (by simp [ena, isL]) rfl ?_
  intro G hg hlim C
  unfold vc_X6_lineAt at hv
  refine j_aload_n C dX6_lineAt_0 rfl ?_
  obtain ⟨g1, hv⟩ := hv
  refine gf_X6_11 C rfl g1 dX6_lineAt_1 ?_
  refine j_iload_n C dX6_lineAt_4 rfl ?_
  obtain ⟨a2, e3, hv⟩ := hv
  obtain ⟨g4, hv⟩ := hv
  obtain ⟨b5, hv⟩ := hv
  refine k_aald (j := x1.toNatClampNeg) C e3 g4 b5 rfl dX6_lineAt_5 ?_
  refine j_astore_n (lo' := [some (vr (some t)), some (vi x1), none, some (vr (aR h a2 x1.toNatClampNeg))]) C dX6_lineAt_6 (Nat.le_of_ble_eq_true rfl) rfl ?_
  refine j_aload_n C dX6_lineAt_7 rfl ?_
  obtain ⟨z6, hv⟩ := hv
  refine k_inst C (ci := 2) (Or.inr (Or.inl ⟨rfl, rfl⟩)) wn_960 wg_368 z6 dX6_lineAt_8 (fun a7 e8 g9 => ?_) (fun q10 => ?_)
  · have hv := hv.1 a7 e8 g9
    refine j_if_eq (tgt := 21) C dX6_lineAt_11 (by decide) ⟨fun q => absurd q (by decide), fun _ => ?_⟩
    refine j_aload_n C dX6_lineAt_14 rfl ?_
    refine k_cast C (ci := 2) e8 (Or.inr (Or.inl ⟨rfl, rfl⟩)) wn_960 wg_368 g9 dX6_lineAt_15 ?_
    refine j_astore_n (lo' := [some (vr (some t)), some (vi x1), some (vr (aR h a2 x1.toNatClampNeg)), some (vr (aR h a2 x1.toNatClampNeg))]) C dX6_lineAt_18 (Nat.le_of_ble_eq_true rfl) rfl ?_
    refine j_aload_n C dX6_lineAt_19 rfl ?_
    exact j_aret C dX6_lineAt_20 (hlim _ _ (by omega) (by omega)) hv
  · have hv := hv.2 q10
    refine j_if_eq (tgt := 21) C dX6_lineAt_11 (by decide) ⟨fun _ => ?_, fun q => absurd q (by decide)⟩
    exact k_throws C (is := 216) (tx := "the root is no queue") (by simp [strs]) dX6_lineAt_21 dX6_lineAt_24 dX6_lineAt_25 dX6_lineAt_27 dX6_lineAt_30 rfl (by omega) (Nat.le_of_ble_eq_true rfl) (hlim _ _ (by omega) (by omega)) hv
def vc_X6_lineAtOrNone (t : Nat) (x1 : Int32) (h : Hp) (Q : Option AV ⊕ String → Hp → Prop) : Prop :=
    ((¬ x1 = (-1 : Int32) → tg h t = 6 ∧ vc_X6_lineAt t x1 h (qr (fun v2 h1 => Q (.inl (some (vr v2))) h1) (fun E hE => Q (.inr E) hE))) ∧ (x1 = (-1 : Int32) → Q (.inl (some (vr none))) h))
set_option maxRecDepth 20000 in
theorem s_X6_lineAtOrNone {t : Nat} {x1 : Int32} {h : Hp} {Q : Option AV ⊕ String → Hp → Prop} {lv : Nat} (hlv : lv + 7 ≤ 12) (hv : vc_X6_lineAtOrNone t x1 h Q) (l : Launch) (D : va_G) (dA : Nat → ClassId) (sz : Nat) (hst : l.stackTraces = false) : Ctr l D dA sz (Cond.code yX6_lineAtOrNone cX6_lineAtOrNone 2 (some (.object "RefHeap$Line"))) yX6_lineAtOrNone lv [vr (some t), vi x1] h 1 6 Q := by
  refine Ctr.of (lo := [some (vr (some t)), some (vi x1)]) hst (by decide) (by simp [ena, isL]) rfl ?_
  intro G hg hlim C
  unfold vc_X6_lineAtOrNone at hv
  refine j_iload_n C dX6_lineAtOrNone_0 rfl ?_
  refine j_iconst (v := (-1 : Int32)) C dX6_lineAtOrNone_1 (by decide) ?_
  refine j_icmp_ne (tgt := 9) C dX6_lineAtOrNone_2 (by decide) ⟨fun q4 => ?_, fun q4 => ?_⟩
  · have hv := hv.1 q4
    refine j_aload_n C dX6_lineAtOrNone_9 rfl ?_
    refine j_iload_n C dX6_lineAtOrNone_10 rfl ?_
    obtain ⟨g3, hv⟩ := hv
    refine k_callV C 5 [vi x1] mv_X6_146 rfl rfl (fun l D dA sz hl => s_X6_lineAt (by omega) hv l D dA sz hl) rfl rfl (by decide) g3 rfl (by omega) (Nat.le_of_ble_eq_true rfl) (hlim _ _ (by omega) (by omega)) dX6_lineAtOrNone_11 (fun _ _ q => jx_out C (hlim _ _ (by omega) (by omega)) q) (fun v h1 hq => ?_)
    obtain ⟨v2, rfl, hv⟩ := qr_inv hq
    exact j_aret C dX6_lineAtOrNone_14 (hlim _ _ (by omega) (by omega)) hv
  · have hv := hv.2 q4
    refine j_null C dX6_lineAtOrNone_5 ?_
    refine j_goto (tgt := 14) C dX6_lineAtOrNone_6 (by decide) ?_
    exact j_aret C dX6_lineAtOrNone_14 (hlim _ _ (by omega) (by omega)) hv
def vc_X6_looseAt (t : Nat) (x1 : Int32) (h : Hp) (Q : Option AV ⊕ String → Hp → Prop) : Prop :=
    tg h t = 6 ∧ ∃ a2 : Nat, fR h 29 t = some a2 ∧ tg h a2 = 11 ∧ vp_in x1 (ln h a2) ∧ (∀ b : Nat, aR h a2 x1.toNatClampNeg = some b → thg h b) ∧ ((∀ a7 : Nat, aR h a2 x1.toNatClampNeg = some a7 → tg h a7 = 4 → Q (.inl (some (vr (aR h a2 x1.toNatClampNeg)))) h) ∧ ((∀ b : Nat, aR h a2 x1.toNatClampNeg = some b → tg h b ≠ 4) → Q (.inr xS) h))
set_option maxRecDepth 20000 in
theorem s_X6_looseAt {t : Nat} {x1 : Int32} {h : Hp} {Q : Option AV ⊕ String → Hp → Prop} {lv : Nat} (hlv : lv + 6 ≤ 12) (hv : vc_X6_looseAt t x1 h Q) (l : Launch) (D : va_G) (dA : Nat → ClassId) (sz : Nat) (hst : l.stackTraces = false) : Ctr l D dA sz (Cond.code yX6_looseAt cX6_looseAt 4 (some (.object "RefHeap$Loose"))) yX6_looseAt lv [vr (some t), vi x1] h 1 6 Q := by
  refine Ctr.of (lo := [some (vr (some t)), some (vi x1), none, none]) hst (by decide) (by simp [ena, isL]) rfl ?_
  intro G hg hlim C
  unfold vc_X6_looseAt at hv
  refine j_aload_n C dX6_looseAt_0 rfl ?_
  obtain ⟨g1, hv⟩ := hv
  refine gf_X6_11 C rfl g1 dX6_looseAt_1 ?_
  refine j_iload_n C dX6_looseAt_4 rfl ?_
  obtain ⟨a2, e3, hv⟩ := hv
  obtain ⟨g4, hv⟩ := hv
  obtain ⟨b5, hv⟩ := hv
  refine k_aald (j := x1.toNatClampNeg) C e3 g4 b5 rfl dX6_looseAt_5 ?_
  refine j_astore_n (lo' := [some (vr (some t)), some (vi x1), none, some (vr (aR h a2 x1.toNatClampNeg))]) C dX6_looseAt_6 (Nat.le_of_ble_eq_true rfl) rfl ?_
  refine j_aload_n C dX6_looseAt_7 rfl ?_
  obtain ⟨z6, hv⟩ := hv
  refine k_inst C (ci := 3) (Or.inr (Or.inr ⟨rfl, rfl⟩)) wn_959 wg_172 z6 dX6_looseAt_8 (fun a7 e8 g9 => ?_) (fun q10 => ?_)
  · have hv := hv.1 a7 e8 g9
    refine j_if_eq (tgt := 21) C dX6_looseAt_11 (by decide) ⟨fun q => absurd q (by decide), fun _ => ?_⟩
    refine j_aload_n C dX6_looseAt_14 rfl ?_
    refine k_cast C (ci := 3) e8 (Or.inr (Or.inr ⟨rfl, rfl⟩)) wn_959 wg_172 g9 dX6_looseAt_15 ?_
    refine j_astore_n (lo' := [some (vr (some t)), some (vi x1), some (vr (aR h a2 x1.toNatClampNeg)), some (vr (aR h a2 x1.toNatClampNeg))]) C dX6_looseAt_18 (Nat.le_of_ble_eq_true rfl) rfl ?_
    refine j_aload_n C dX6_looseAt_19 rfl ?_
    exact j_aret C dX6_looseAt_20 (hlim _ _ (by omega) (by omega)) hv
  · have hv := hv.2 q10
    refine j_if_eq (tgt := 21) C dX6_looseAt_11 (by decide) ⟨fun _ => ?_, fun q => absurd q (by decide)⟩
    exact k_throws C (is := 218) (tx := "the root is no loose object") (by simp [strs]) dX6_looseAt_21 dX6_looseAt_24 dX6_looseAt_25 dX6_looseAt_27 dX6_looseAt_30 rfl (by omega) (Nat.le_of_ble_eq_true rfl) (hlim _ _ (by omega) (by omega)) hv
def vc_X6_pairAt (t : Nat) (x1 : Int32) (h : Hp) (Q : Option AV ⊕ String → Hp → Prop) : Prop :=
    tg h t = 6 ∧ vc_X6_looseAt t x1 h (qr (fun v2 h1 => ∃ a4 : Nat, v2 = some a4 ∧ tg h1 a4 = 4 ∧ (((fI h1 0 a4) = (7 : Int32) → Q (.inl (some (vr v2))) h1) ∧ (¬ (fI h1 0 a4) = (7 : Int32) → Q (.inr xS) h1))) (fun E hE => Q (.inr E) hE))
set_option maxRecDepth 20000 in
theorem s_X6_pairAt {t : Nat} {x1 : Int32} {h : Hp} {Q : Option AV ⊕ String → Hp → Prop} {lv : Nat} (hlv : lv + 7 ≤ 12) (hv : vc_X6_pairAt t x1 h Q) (l : Launch) (D : va_G) (dA : Nat → ClassId) (sz : Nat) (hst : l.stackTraces = false) : Ctr l D dA sz (Cond.code yX6_pairAt cX6_pairAt 3 (some (.object "RefHeap$Loose"))) yX6_pairAt lv [vr (some t), vi x1] h 2 12 Q := by
  refine Ctr.of (lo := [some (vr (some t)), some (vi x1), none]) hst (by decide) (by simp [ena, isL]) rfl ?_
  intro G hg hlim C
  unfold vc_X6_pairAt at hv
  refine j_aload_n C dX6_pairAt_0 rfl ?_
  refine j_iload_n C dX6_pairAt_1 rfl ?_
  obtain ⟨g3, hv⟩ := hv
  refine k_callV C 5 [vi x1] mv_X6_130 rfl rfl (fun l D dA sz hl => s_X6_looseAt (by omega) hv l D dA sz hl) rfl rfl (by decide) g3 rfl (by omega) (Nat.le_of_ble_eq_true rfl) (hlim _ _ (by omega) (by omega)) dX6_pairAt_2 (fun _ _ q => jx_out C (hlim _ _ (by omega) (by omega)) q) (fun v h1 hq => ?_)
  obtain ⟨v2, rfl, hv⟩ := qr_inv hq
  refine j_astore_n (lo' := [some (vr (some t)), some (vi x1), some (vr v2)]) C dX6_pairAt_5 (Nat.le_of_ble_eq_true rfl) rfl ?_
  refine j_aload_n C dX6_pairAt_6 rfl ?_
  obtain ⟨a4, e5, hv⟩ := hv
  obtain ⟨g6, hv⟩ := hv
  refine gf_X6_133 C e5 g6 dX6_pairAt_7 ?_
  refine j_bipush (v := (7 : Int32)) C dX6_pairAt_10 (by decide) ?_
  refine j_icmp_eq (tgt := 25) C dX6_pairAt_12 (by decide) ⟨fun q9 => ?_, fun q9 => ?_⟩
  · have hv := hv.1 q9
    refine j_aload_n C dX6_pairAt_25 rfl ?_
    exact j_aret C dX6_pairAt_26 (hlim _ _ (by omega) (by omega)) hv
  · have hv := hv.2 q9
    exact k_throws C (is := 220) (tx := "the root is no pair") (by simp [strs]) dX6_pairAt_15 dX6_pairAt_18 dX6_pairAt_19 dX6_pairAt_21 dX6_pairAt_24 rfl (by omega) (Nat.le_of_ble_eq_true rfl) (hlim _ _ (by omega) (by omega)) hv
def vc_X6_holderAt (t : Nat) (x1 : Int32) (h : Hp) (Q : Option AV ⊕ String → Hp → Prop) : Prop :=
    tg h t = 6 ∧ ∃ a2 : Nat, fR h 29 t = some a2 ∧ tg h a2 = 11 ∧ vp_in x1 (ln h a2) ∧ (∀ b : Nat, aR h a2 x1.toNatClampNeg = some b → thg h b) ∧ ((∀ a7 : Nat, aR h a2 x1.toNatClampNeg = some a7 → tg h a7 = 2 → Q (.inl (some (vr (aR h a2 x1.toNatClampNeg)))) h) ∧ ((∀ b : Nat, aR h a2 x1.toNatClampNeg = some b → tg h b ≠ 2) → Q (.inr xS) h))
set_option maxRecDepth 20000 in
theorem s_X6_holderAt {t : Nat} {x1 : Int32} {h : Hp} {Q : Option AV ⊕ String → Hp → Prop} {lv : Nat} (hlv : lv + 6 ≤ 12) (hv : vc_X6_holderAt t x1 h Q) (l : Launch) (D : va_G) (dA : Nat → ClassId) (sz : Nat) (hst : l.stackTraces = false) : Ctr l D dA sz (Cond.code yX6_holderAt cX6_holderAt 4 (some (.object "RefHeap$Holder"))) yX6_holderAt lv [vr (some t), vi x1] h 1 6 Q := by
  refine Ctr.of (lo := [some (vr (some t)), some (vi x1), none, none]) hst (by decide) (by simp [ena, isL]) rfl ?_
  intro G hg hlim C
  unfold vc_X6_holderAt at hv
  refine j_aload_n C dX6_holderAt_0 rfl ?_
  obtain ⟨g1, hv⟩ := hv
  refine gf_X6_11 C rfl g1 dX6_holderAt_1 ?_
  refine j_iload_n C dX6_holderAt_4 rfl ?_
  obtain ⟨a2, e3, hv⟩ := hv
  obtain ⟨g4, hv⟩ := hv
  obtain ⟨b5, hv⟩ := hv
  refine k_aald (j := x1.toNatClampNeg) C e3 g4 b5 rfl dX6_holderAt_5 ?_
  refine j_astore_n (lo' := [some (vr (some t)), some (vi x1), none, some (vr (aR h a2 x1.toNatClampNeg))]) C dX6_holderAt_6 (Nat.le_of_ble_eq_true rfl) rfl ?_
  refine j_aload_n C dX6_holderAt_7 rfl ?_
  obtain ⟨z6, hv⟩ := hv
  refine k_inst C (ci := 1) (Or.inl ⟨rfl, rfl⟩) wn_961 wg_292 z6 dX6_holderAt_8 (fun a7 e8 g9 => ?_) (fun q10 => ?_)
  · have hv := hv.1 a7 e8 g9
    refine j_if_eq (tgt := 21) C dX6_holderAt_11 (by decide) ⟨fun q => absurd q (by decide), fun _ => ?_⟩
    refine j_aload_n C dX6_holderAt_14 rfl ?_
    refine k_cast C (ci := 1) e8 (Or.inl ⟨rfl, rfl⟩) wn_961 wg_292 g9 dX6_holderAt_15 ?_
    refine j_astore_n (lo' := [some (vr (some t)), some (vi x1), some (vr (aR h a2 x1.toNatClampNeg)), some (vr (aR h a2 x1.toNatClampNeg))]) C dX6_holderAt_18 (Nat.le_of_ble_eq_true rfl) rfl ?_
    refine j_aload_n C dX6_holderAt_19 rfl ?_
    exact j_aret C dX6_holderAt_20 (hlim _ _ (by omega) (by omega)) hv
  · have hv := hv.2 q10
    refine j_if_eq (tgt := 21) C dX6_holderAt_11 (by decide) ⟨fun _ => ?_, fun q => absurd q (by decide)⟩
    exact k_throws C (is := 222) (tx := "the root is neither plain nor a row") (by simp [strs]) dX6_holderAt_21 dX6_holderAt_24 dX6_holderAt_25 dX6_holderAt_27 dX6_holderAt_30 rfl (by omega) (Nat.le_of_ble_eq_true rfl) (hlim _ _ (by omega) (by omega)) hv
def vc_X6_holderOfRef (t : Nat) (x1 : Int32) (x2 : Int32) (h : Hp) (Q : Option AV ⊕ String → Hp → Prop) : Prop :=
    tg h t = 6 ∧ vc_X6_holderAt t x1 h (qr (fun v2 h1 => ∃ a4 : Nat, v2 = some a4 ∧ tg h1 a4 = 2 ∧ ∃ a7 : Nat, fR h1 8 a4 = some a7 ∧ tg h1 a7 = 11 ∧ ((x2 < (nI (ln h1 a7)) → Q (.inl (some (vr v2))) h1) ∧ (¬ x2 < (nI (ln h1 a7)) → Q (.inr xS) h1))) (fun E hE => Q (.inr E) hE))
set_option maxRecDepth 20000 in
theorem s_X6_holderOfRef {t : Nat} {x1 : Int32} {x2 : Int32} {h : Hp} {Q : Option AV ⊕ String → Hp → Prop} {lv : Nat} (hlv : lv + 7 ≤ 12) (hv : vc_X6_holderOfRef t x1 x2 h Q) (l : Launch) (D : va_G) (dA : Nat → ClassId) (sz : Nat) (hst : l.stackTraces = false) : Ctr l D dA sz (Cond.code yX6_holderOfRef cX6_holderOfRef 4 (some (.object "RefHeap$Holder"))) yX6_holderOfRef lv [vr (some t), vi x1, vi x2] h 2 12 Q := by
  refine Ctr.of (lo := [some (vr (some t)), some (vi x1), some (vi x2), none]) hst (by decide) (by simp [ena, isL]) rfl ?_
  intro G hg hlim C
  unfold vc_X6_holderOfRef at hv
  refine j_aload_n C dX6_holderOfRef_0 rfl ?_
  refine j_iload_n C dX6_holderOfRef_1 rfl ?_
  obtain ⟨g3, hv⟩ := hv
  refine k_callV C 5 [vi x1] mv_X6_224 rfl rfl (fun l D dA sz hl => s_X6_holderAt (by omega) hv l D dA sz hl) rfl rfl (by decide) g3 rfl (by omega) (Nat.le_of_ble_eq_true rfl) (hlim _ _ (by omega) (by omega)) dX6_holderOfRef_2 (fun _ _ q => jx_out C (hlim _ _ (by omega) (by omega)) q) (fun v h1 hq => ?_)
  obtain ⟨v2, rfl, hv⟩ := qr_inv hq
  refine j_astore_n (lo' := [some (vr (some t)), some (vi x1), some (vi x2), some (vr v2)]) C dX6_holderOfRef_5 (Nat.le_of_ble_eq_true rfl) rfl ?_
  refine j_iload_n C dX6_holderOfRef_6 rfl ?_
  refine j_aload_n C dX6_holderOfRef_7 rfl ?_
  obtain ⟨a4, e5, hv⟩ := hv
  obtain ⟨g6, hv⟩ := hv
  refine gf_X6_108 C e5 g6 dX6_holderOfRef_8 ?_
  obtain ⟨a7, e8, hv⟩ := hv
  obtain ⟨g9, hv⟩ := hv
  refine k_alen C e8 (Or.inr (Or.inr g9)) dX6_holderOfRef_11 ?_
  refine j_icmp_lt (tgt := 25) C dX6_holderOfRef_12 (by decide) ⟨fun q12 => ?_, fun q12 => ?_⟩
  · have hv := hv.1 q12
    refine j_aload_n C dX6_holderOfRef_25 rfl ?_
    exact j_aret C dX6_holderOfRef_26 (hlim _ _ (by omega) (by omega)) hv
  · have hv := hv.2 q12
    exact k_throws C (is := 228) (tx := "there is no such ref") (by simp [strs]) dX6_holderOfRef_15 dX6_holderOfRef_18 dX6_holderOfRef_19 dX6_holderOfRef_21 dX6_holderOfRef_24 rfl (by omega) (Nat.le_of_ble_eq_true rfl) (hlim _ _ (by omega) (by omega)) hv
def vc_X6_holderOfNumber (t : Nat) (x1 : Int32) (x2 : Int32) (h : Hp) (Q : Option AV ⊕ String → Hp → Prop) : Prop :=
    tg h t = 6 ∧ vc_X6_holderAt t x1 h (qr (fun v2 h1 => ∃ a4 : Nat, v2 = some a4 ∧ tg h1 a4 = 2 ∧ ∃ a7 : Nat, fR h1 9 a4 = some a7 ∧ tg h1 a7 = 9 ∧ ((x2 < (nI (ln h1 a7)) → Q (.inl (some (vr v2))) h1) ∧ (¬ x2 < (nI (ln h1 a7)) → Q (.inr xS) h1))) (fun E hE => Q (.inr E) hE))
set_option maxRecDepth 20000 in
theorem s_X6_holderOfNumber {t : Nat} {x1 : Int32} {x2 : Int32} {h : Hp} {Q : Option AV ⊕ String → Hp → Prop} {lv : Nat} (hlv : lv + 7 ≤ 12) (hv : vc_X6_holderOfNumber t x1 x2 h Q) (l : Launch) (D : va_G) (dA : Nat → ClassId) (sz : Nat) (hst : l.stackTraces = false) : Ctr l D dA sz (Cond.code yX6_holderOfNumber cX6_holderOfNumber 4 (some (.object "RefHeap$Holder"))) yX6_holderOfNumber lv [vr (some t), vi x1, vi x2] h 2 12 Q := by
  refine Ctr.of (lo := [some (vr (some t)), some (vi x1), some (vi x2), none]) hst (by decide) (by simp [ena, isL]) rfl ?_
  intro G hg hlim C
  unfold vc_X6_holderOfNumber at hv
  refine j_aload_n C dX6_holderOfNumber_0 rfl ?_
  refine j_iload_n C dX6_holderOfNumber_1 rfl ?_
  obtain ⟨g3, hv⟩ := hv
  refine k_callV C 5 [vi x1] mv_X6_224 rfl rfl (fun l D dA sz hl => s_X6_holderAt (by omega) hv l D dA sz hl) rfl rfl (by decide) g3 rfl (by omega) (Nat.le_of_ble_eq_true rfl) (hlim _ _ (by omega) (by omega)) dX6_holderOfNumber_2 (fun _ _ q => jx_out C (hlim _ _ (by omega) (by omega)) q) (fun v h1 hq => ?_)
  obtain ⟨v2, rfl, hv⟩ := qr_inv hq
  refine j_astore_n (lo' := [some (vr (some t)), some (vi x1), some (vi x2), some (vr v2)]) C dX6_holderOfNumber_5 (Nat.le_of_ble_eq_true rfl) rfl ?_
  refine j_iload_n C dX6_holderOfNumber_6 rfl ?_
  refine j_aload_n C dX6_holderOfNumber_7 rfl ?_
  obtain ⟨a4, e5, hv⟩ := hv
  obtain ⟨g6, hv⟩ := hv
  refine gf_X6_118 C e5 g6 dX6_holderOfNumber_8 ?_
  obtain ⟨a7, e8, hv⟩ := hv
  obtain ⟨g9, hv⟩ := hv
  refine k_alen C e8 (Or.inr (Or.inl g9)) dX6_holderOfNumber_11 ?_
  refine j_icmp_lt (tgt := 25) C dX6_holderOfNumber_12 (by decide) ⟨fun q12 => ?_, fun q12 => ?_⟩
  · have hv := hv.1 q12
    refine j_aload_n C dX6_holderOfNumber_25 rfl ?_
    exact j_aret C dX6_holderOfNumber_26 (hlim _ _ (by omega) (by omega)) hv
  · have hv := hv.2 q12
    exact k_throws C (is := 230) (tx := "there is no such number") (by simp [strs]) dX6_holderOfNumber_15 dX6_holderOfNumber_18 dX6_holderOfNumber_19 dX6_holderOfNumber_21 dX6_holderOfNumber_24 rfl (by omega) (Nat.le_of_ble_eq_true rfl) (hlim _ _ (by omega) (by omega)) hv
def vc_X6_fits (t : Nat) (x1 : Int32) (h : Hp) (Q : Option AV ⊕ String → Hp → Prop) : Prop :=
    tg h t = 6 ∧ ∃ a2 : Nat, fR h 31 t = some a2 ∧ tg h a2 = 8 ∧ vp_in (0 : Int32) (ln h a2) ∧ (((fI h 27 t) < ((aI h a2 0) + x1) → Q (.inl (some (vi (0 : Int32)))) h) ∧ (¬ (fI h 27 t) < ((aI h a2 0) + x1) → Q (.inl (some (vi (1 : Int32)))) h))
set_option maxRecDepth 20000 in
theorem s_X6_fits {t : Nat} {x1 : Int32} {h : Hp} {Q : Option AV ⊕ String → Hp → Prop} {lv : Nat} (hlv : lv + 0 ≤ 12) (hv : vc_X6_fits t x1 h Q) (l : Launch) (D : va_G) (dA : Nat → ClassId) (sz : Nat) (hst : l.stackTraces = false) : Ctr l D dA sz (Cond.code yX6_fits cX6_fits 2 (some .boolean)) yX6_fits lv [vr (some t), vi x1] h 0 0 Q := by
  refine Ctr.of (lo := [some (vr (some t)), some (vi x1)]) hst (by decide) (by simp [ena, isL]) rfl ?_
  intro G hg hlim C
  unfold vc_X6_fits at hv
  refine j_aload_n C dX6_fits_0 rfl ?_
  obtain ⟨g1, hv⟩ := hv
  refine gf_X6_19 C rfl g1 dX6_fits_1 ?_
  refine j_iconst (v := (0 : Int32)) C dX6_fits_4 (by decide) ?_
  obtain ⟨a2, e3, hv⟩ := hv
  obtain ⟨g4, hv⟩ := hv
  obtain ⟨b5, hv⟩ := hv
  refine k_iald (j := 0) C e3 g4 b5 (by decide) dX6_fits_5 ?_
  refine j_iload_n C dX6_fits_6 rfl ?_
  refine j_iadd C dX6_fits_7 ?_
  refine j_aload_n C dX6_fits_8 rfl ?_
  refine gf_X6_48 C rfl g1 dX6_fits_9 ?_
  refine j_icmp_gt (tgt := 19) C dX6_fits_12 (by decide) ⟨fun q6 => ?_, fun q6 => ?_⟩
  · have hv := hv.1 q6
    refine j_iconst (v := (0 : Int32)) C dX6_fits_19 (by decide) ?_
    exact j_zret C (Or.inl rfl) dX6_fits_20 (hlim _ _ (by omega) (by omega)) hv
  · have hv := hv.2 q6
    refine j_iconst (v := (1 : Int32)) C dX6_fits_15 (by decide) ?_
    refine j_goto (tgt := 20) C dX6_fits_16 (by decide) ?_
    exact j_zret C (Or.inr rfl) dX6_fits_20 (hlim _ _ (by omega) (by omega)) hv
def vc_X6_tellQueue (t : Nat) (o1 : Option Nat) (h : Hp) (Q : Option AV ⊕ String → Hp → Prop) : Prop :=
    ∀ (P14 : Hp → Prop),
    (∀  (h : Hp), (Q (.inl (some (vi (0 : Int32)))) h) → P14 h) →
    ∃ a1 : Nat, o1 = some a1 ∧ tg h a1 = 4 ∧ ((fR h 15 a1 = none → P14 h) ∧ (∀ a4 : Nat, fR h 15 a1 = some a4 → (((fI h 16 a1) = 0 → tg h a4 = 3 ∧ vc_X2_add a4 o1 (pI h 16 a1 (1 : Int32)) (qv (fun h6 => tg h6 t = 6 ∧ ∃ a10 : Nat, fR h6 31 t = some a10 ∧ tg h6 a10 = 8 ∧ vp_in (4 : Int32) (ln h6 a10) ∧ vp_in (4 : Int32) (ln h6 a10) ∧ Q (.inl (some (vi (1 : Int32)))) (qI h6 a10 4 ((aI h6 a10 4) + (1 : Int32)))) qn)) ∧ (¬ (fI h 16 a1) = 0 → P14 h))))
set_option maxRecDepth 20000 in
theorem s_X6_tellQueue {t : Nat} {o1 : Option Nat} {h : Hp} {Q : Option AV ⊕ String → Hp → Prop} {lv : Nat} (hlv : lv + 1 ≤ 12) (hv : vc_X6_tellQueue t o1 h Q) (l : Launch) (D : va_G) (dA : Nat → ClassId) (sz : Nat) (hst : l.stackTraces = false) : Ctr l D dA sz (Cond.code yX6_tellQueue cX6_tellQueue 2 (some .int)) yX6_tellQueue lv [vr (some t), vr o1] h 0 0 Q := by
  refine Ctr.of (lo := [some (vr (some t)), some (vr o1)]) hst (by decide) (by simp [ena, isL]) rfl ?_
  intro G hg hlim C
  unfold vc_X6_tellQueue at hv
  have hv := hv (fun  h => J G Q 14 [none, none] [] h 0 0)
  have hv := hv (by
      intro  h hv
      refine j_iconst (v := (0 : Int32)) C dX6_tellQueue_14 (by decide) ?_
      exact j_iret C dX6_tellQueue_15 (hlim _ _ (by omega) (by omega)) hv)
  refine j_aload_n C dX6_tellQueue_0 rfl ?_
  obtain ⟨a1, e2, hv⟩ := hv
  obtain ⟨g3, hv⟩ := hv
  refine gf_X6_288 C e2 g3 dX6_tellQueue_1 ?_
  refine j_ifnull (tgt := 14) C dX6_tellQueue_4 (by decide) ⟨fun e5 => ?_, fun a4 e5 => ?_⟩
  · have hv := hv.1 e5
    exact j_sub (by exact trivial) hv
  · have hv := hv.2 a4 e5
    refine j_aload_n C dX6_tellQueue_7 rfl ?_
    refine gf_X6_292 C e2 g3 dX6_tellQueue_8 ?_
    refine j_if_eq (tgt := 16) C dX6_tellQueue_11 (by decide) ⟨fun q15 => ?_, fun q15 => ?_⟩
    · have hv := hv.1 q15
      refine j_aload_n C dX6_tellQueue_16 rfl ?_
      refine j_iconst (v := (1 : Int32)) C dX6_tellQueue_17 (by decide) ?_
      refine pf_X6_292 C (Or.inr rfl) e2 g3 dX6_tellQueue_18 ?_
      refine j_aload_n C dX6_tellQueue_21 rfl ?_
      refine gf_X6_288 C e2 g3 dX6_tellQueue_22 ?_
      refine j_aload_n C dX6_tellQueue_25 rfl ?_
      obtain ⟨g8, hv⟩ := hv
      refine k_callV C 2 [vr o1] mv_X6_296 e5 rfl (fun l D dA sz hl => s_X2_add (by omega) hv l D dA sz hl) rfl rfl (by decide) g8 rfl (by omega) (Nat.le_of_ble_eq_true rfl) (hlim _ _ (by omega) (by omega)) dX6_tellQueue_26 (fun _ _ q => False.elim q) (fun v h6 hq => ?_)
      obtain ⟨rfl, hv⟩ := qv_inv hq
      refine j_aload_n C dX6_tellQueue_29 rfl ?_
      obtain ⟨g9, hv⟩ := hv
      refine gf_X6_19 C rfl g9 dX6_tellQueue_30 ?_
      refine j_iconst (v := (4 : Int32)) C dX6_tellQueue_33 (by decide) ?_
      refine j_dup2 C dX6_tellQueue_34 rfl rfl ?_
      obtain ⟨a10, e11, hv⟩ := hv
      obtain ⟨g12, hv⟩ := hv
      obtain ⟨b13, hv⟩ := hv
      refine k_iald (j := 4) C e11 g12 b13 (by decide) dX6_tellQueue_35 ?_
      refine j_iconst (v := (1 : Int32)) C dX6_tellQueue_36 (by decide) ?_
      refine j_iadd C dX6_tellQueue_37 ?_
      obtain ⟨b14, hv⟩ := hv
      refine k_iast (j := 4) C e11 g12 b14 (by decide) dX6_tellQueue_38 ?_
      refine j_iconst (v := (1 : Int32)) C dX6_tellQueue_39 (by decide) ?_
      exact j_iret C dX6_tellQueue_40 (hlim _ _ (by omega) (by omega)) hv
    · have hv := hv.2 q15
      exact j_sub (by exact trivial) hv
