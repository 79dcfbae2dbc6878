/-! The conditions of methods, and their walks (m5). -/
def vc_L_plain (o1 : Option Nat) (x2 : Int32) (x3 : Int32) (x4 : Int32) (o5 : Option Nat) (h : Hp) (Q : Option AV ⊕ String → Hp → Prop) : Prop :=
    ∃ a1 : Nat, o1 = some a1 ∧ tg h a1 = 6 ∧ vc_X6_plain a1 x2 x3 x4 h (qi (fun v4 h3 => ∃ a6 : Nat, o5 = some a6 ∧ tg h3 a6 = 9 ∧ vp_in (0 : Int32) (ln h3 a6) ∧ Q (.inl (some (vi (0 : Int32)))) (qL h3 a6 0 v4.toInt64)) (fun E h3 => (E = xA ∧ Q (.inl (some (vi (1 : Int32)))) h3)))
set_option maxRecDepth 20000 in
theorem s_L_plain {o1 : Option Nat} {x2 : Int32} {x3 : Int32} {x4 : Int32} {o5 : Option Nat} {h : Hp} {Q : Option AV ⊕ String → Hp → Prop} {lv : Nat} (hlv : lv + 9 ≤ 12) (hv : vc_L_plain o1 x2 x3 x4 o5 h Q) (l : Launch) (D : va_G) (dA : Nat → ClassId) (sz : Nat) (hst : l.stackTraces = false) : Ctr l D dA sz (Cond.codeWith yL_plain cL_plain 6 (some .int) [((0 : Nat), (12 : Nat), (15 : Nat), (13 : Nat))]) yL_plain lv [vr o1, vi x2, vi x3, vi x4, vr o5] h 6 6028 Q := by
  refine Ctr.ofH (lo := [some (vr o1), some (vi x2), some (vi x3), some (vi x4), some (vr o5), none]) hst (by decide) (by simp [ena, isL]) rfl ?_
  intro G hg hlim C
  unfold vc_L_plain at hv
  refine j_aload C dL_plain_0 rfl ?_
  refine j_iconst (v := (0 : Int32)) C dL_plain_2 (by decide) ?_
  refine j_aload_n C dL_plain_3 rfl ?_
  refine j_iload_n C dL_plain_4 rfl ?_
  refine j_iload_n C dL_plain_5 rfl ?_
  refine j_iload_n C dL_plain_6 rfl ?_
  obtain ⟨a1, e2, hv⟩ := hv
  obtain ⟨g5, hv⟩ := hv
  refine k_callV C 5 [vi x2, vi x3, vi x4] mv_L_7 e2 rfl (fun l D dA sz hl => s_X6_plain (by omega) hv l D dA sz hl) rfl rfl (by decide) g5 rfl (by omega) (Nat.le_of_ble_eq_true rfl) (hlim _ _ (by omega) (by omega)) dL_plain_7 (fun E h3 hq => ?_) (fun v h3 hq => ?_)
  · obtain ⟨rfl, hv⟩ := hq
    refine jx_catch C [] (⟨0, 12, 15, 13⟩ : ExceptionTableEntry) [] rfl (fun z hz => by cases hz) (by decide) (by decide) wg_205 wn_219 (fun qx => ?_)
    show J G Q 15 _ _ _ _ _
    refine j_astore (lo' := [some (vr o1), some (vi x2), some (vi x3), some (vi x4), some (vr o5), some (vr (some qx))]) C dL_plain_15 (Nat.le_of_ble_eq_true rfl) rfl ?_
    refine j_iconst (v := (1 : Int32)) C dL_plain_17 (by decide) ?_
    exact j_iret C dL_plain_18 (hlim _ _ (by omega) (by omega)) hv
  · obtain ⟨v4, rfl, hv⟩ := qi_inv hq
    refine j_i2l C dL_plain_10 ?_
    obtain ⟨a6, e7, hv⟩ := hv
    obtain ⟨g8, hv⟩ := hv
    obtain ⟨b9, hv⟩ := hv
    refine k_last (j := 0) C e7 g8 b9 (by decide) dL_plain_11 ?_
    refine j_goto (tgt := 19) C dL_plain_12 (by decide) ?_
    refine j_iconst (v := (0 : Int32)) C dL_plain_19 (by decide) ?_
    exact j_iret C dL_plain_20 (hlim _ _ (by omega) (by omega)) hv
def vc_L_row (o1 : Option Nat) (x2 : Int32) (x3 : Int32) (x4 : Int32) (o5 : Option Nat) (h : Hp) (Q : Option AV ⊕ String → Hp → Prop) : Prop :=
    ∃ a1 : Nat, o1 = some a1 ∧ tg h a1 = 6 ∧ vc_X6_row a1 x2 x3 x4 h (qi (fun v4 h3 => ∃ a6 : Nat, o5 = some a6 ∧ tg h3 a6 = 9 ∧ vp_in (0 : Int32) (ln h3 a6) ∧ Q (.inl (some (vi (0 : Int32)))) (qL h3 a6 0 v4.toInt64)) (fun E h3 => (E = xA ∧ Q (.inl (some (vi (1 : Int32)))) h3)))
set_option maxRecDepth 20000 in
theorem s_L_row {o1 : Option Nat} {x2 : Int32} {x3 : Int32} {x4 : Int32} {o5 : Option Nat} {h : Hp} {Q : Option AV ⊕ String → Hp → Prop} {lv : Nat} (hlv : lv + 9 ≤ 12) (hv : vc_L_row o1 x2 x3 x4 o5 h Q) (l : Launch) (D : va_G) (dA : Nat → ClassId) (sz : Nat) (hst : l.stackTraces = false) : Ctr l D dA sz (Cond.codeWith yL_row cL_row 6 (some .int) [((0 : Nat), (12 : Nat), (15 : Nat), (13 : Nat))]) yL_row lv [vr o1, vi x2, vi x3, vi x4, vr o5] h 5 6022 Q := by
  refine Ctr.ofH (lo := [some (vr o1), some (vi x2), some (vi x3), some (vi x4), some (vr o5), none]) hst (by decide) (by simp [ena, isL]) rfl ?_
  intro G hg hlim C
  unfold vc_L_row at hv
  refine j_aload C dL_row_0 rfl ?_
  refine j_iconst (v := (0 : Int32)) C dL_row_2 (by decide) ?_
  refine j_aload_n C dL_row_3 rfl ?_
  refine j_iload_n C dL_row_4 rfl ?_
  refine j_iload_n C dL_row_5 rfl ?_
  refine j_iload_n C dL_row_6 rfl ?_
  obtain ⟨a1, e2, hv⟩ := hv
  obtain ⟨g5, hv⟩ := hv
  refine k_callV C 5 [vi x2, vi x3, vi x4] mv_L_15 e2 rfl (fun l D dA sz hl => s_X6_row (by omega) hv l D dA sz hl) rfl rfl (by decide) g5 rfl (by omega) (Nat.le_of_ble_eq_true rfl) (hlim _ _ (by omega) (by omega)) dL_row_7 (fun E h3 hq => ?_) (fun v h3 hq => ?_)
  · obtain ⟨rfl, hv⟩ := hq
    refine jx_catch C [] (⟨0, 12, 15, 13⟩ : ExceptionTableEntry) [] rfl (fun z hz => by cases hz) (by decide) (by decide) wg_205 wn_219 (fun qx => ?_)
    show J G Q 15 _ _ _ _ _
    refine j_astore (lo' := [some (vr o1), some (vi x2), some (vi x3), some (vi x4), some (vr o5), some (vr (some qx))]) C dL_row_15 (Nat.le_of_ble_eq_true rfl) rfl ?_
    refine j_iconst (v := (1 : Int32)) C dL_row_17 (by decide) ?_
    exact j_iret C dL_row_18 (hlim _ _ (by omega) (by omega)) hv
  · obtain ⟨v4, rfl, hv⟩ := qi_inv hq
    refine j_i2l C dL_row_10 ?_
    obtain ⟨a6, e7, hv⟩ := hv
    obtain ⟨g8, hv⟩ := hv
    obtain ⟨b9, hv⟩ := hv
    refine k_last (j := 0) C e7 g8 b9 (by decide) dL_row_11 ?_
    refine j_goto (tgt := 19) C dL_row_12 (by decide) ?_
    refine j_iconst (v := (0 : Int32)) C dL_row_19 (by decide) ?_
    exact j_iret C dL_row_20 (hlim _ _ (by omega) (by omega)) hv
def vc_L_queue (o1 : Option Nat) (x2 : Int32) (o3 : Option Nat) (h : Hp) (Q : Option AV ⊕ String → Hp → Prop) : Prop :=
    ∃ a1 : Nat, o1 = some a1 ∧ tg h a1 = 6 ∧ vc_X6_queue a1 x2 h (qi (fun v4 h3 => ∃ a6 : Nat, o3 = some a6 ∧ tg h3 a6 = 9 ∧ vp_in (0 : Int32) (ln h3 a6) ∧ Q (.inl (some (vi (0 : Int32)))) (qL h3 a6 0 v4.toInt64)) (fun E h3 => (E = xA ∧ Q (.inl (some (vi (1 : Int32)))) h3)))
set_option maxRecDepth 20000 in
theorem s_L_queue {o1 : Option Nat} {x2 : Int32} {o3 : Option Nat} {h : Hp} {Q : Option AV ⊕ String → Hp → Prop} {lv : Nat} (hlv : lv + 9 ≤ 12) (hv : vc_L_queue o1 x2 o3 h Q) (l : Launch) (D : va_G) (dA : Nat → ClassId) (sz : Nat) (hst : l.stackTraces = false) : Ctr l D dA sz (Cond.codeWith yL_queue cL_queue 4 (some .int) [((0 : Nat), (9 : Nat), (12 : Nat), (13 : Nat))]) yL_queue lv [vr o1, vi x2, vr o3] h 2 17 Q := by
  refine Ctr.ofH (lo := [some (vr o1), some (vi x2), some (vr o3), none]) hst (by decide) (by simp [ena, isL]) rfl ?_
  intro G hg hlim C
  unfold vc_L_queue at hv
  refine j_aload_n C dL_queue_0 rfl ?_
  refine j_iconst (v := (0 : Int32)) C dL_queue_1 (by decide) ?_
  refine j_aload_n C dL_queue_2 rfl ?_
  refine j_iload_n C dL_queue_3 rfl ?_
  obtain ⟨a1, e2, hv⟩ := hv
  obtain ⟨g5, hv⟩ := hv
  refine k_callV C 5 [vi x2] mv_L_19 e2 rfl (fun l D dA sz hl => s_X6_queue (by omega) hv l D dA sz hl) rfl rfl (by decide) g5 rfl (by omega) (Nat.le_of_ble_eq_true rfl) (hlim _ _ (by omega) (by omega)) dL_queue_4 (fun E h3 hq => ?_) (fun v h3 hq => ?_)
  · obtain ⟨rfl, hv⟩ := hq
    refine jx_catch C [] (⟨0, 9, 12, 13⟩ : ExceptionTableEntry) [] rfl (fun z hz => by cases hz) (by decide) (by decide) wg_205 wn_219 (fun qx => ?_)
    show J G Q 12 _ _ _ _ _
    refine j_astore_n (lo' := [some (vr o1), some (vi x2), some (vr o3), some (vr (some qx))]) C dL_queue_12 (Nat.le_of_ble_eq_true rfl) rfl ?_
    refine j_iconst (v := (1 : Int32)) C dL_queue_13 (by decide) ?_
    exact j_iret C dL_queue_14 (hlim _ _ (by omega) (by omega)) hv
  · obtain ⟨v4, rfl, hv⟩ := qi_inv hq
    refine j_i2l C dL_queue_7 ?_
    obtain ⟨a6, e7, hv⟩ := hv
    obtain ⟨g8, hv⟩ := hv
    obtain ⟨b9, hv⟩ := hv
    refine k_last (j := 0) C e7 g8 b9 (by decide) dL_queue_8 ?_
    refine j_goto (tgt := 15) C dL_queue_9 (by decide) ?_
    refine j_iconst (v := (0 : Int32)) C dL_queue_15 (by decide) ?_
    exact j_iret C dL_queue_16 (hlim _ _ (by omega) (by omega)) hv
def vc_L_loose (o1 : Option Nat) (x2 : Int32) (x3 : Int32) (x4 : Int32) (x5 : Int32) (o6 : Option Nat) (h : Hp) (Q : Option AV ⊕ String → Hp → Prop) : Prop :=
    ∃ a1 : Nat, o1 = some a1 ∧ tg h a1 = 6 ∧ vc_X6_loose a1 x2 x3 x4 x5 h (qi (fun v4 h3 => ∃ a6 : Nat, o6 = some a6 ∧ tg h3 a6 = 9 ∧ vp_in (0 : Int32) (ln h3 a6) ∧ Q (.inl (some (vi (0 : Int32)))) (qL h3 a6 0 v4.toInt64)) (fun E h3 => (E = xA ∧ Q (.inl (some (vi (1 : Int32)))) h3) ∨ (E = xS ∧ Q (.inl (some (vi (2 : Int32)))) h3)))
set_option maxRecDepth 20000 in
theorem s_L_loose {o1 : Option Nat} {x2 : Int32} {x3 : Int32} {x4 : Int32} {x5 : Int32} {o6 : Option Nat} {h : Hp} {Q : Option AV ⊕ String → Hp → Prop} {lv : Nat} (hlv : lv + 9 ≤ 12) (hv : vc_L_loose o1 x2 x3 x4 x5 o6 h Q) (l : Launch) (D : va_G) (dA : Nat → ClassId) (sz : Nat) (hst : l.stackTraces = false) : Ctr l D dA sz (Cond.codeWith yL_loose cL_loose 7 (some .int) [((0 : Nat), (14 : Nat), (17 : Nat), (13 : Nat)), ((0 : Nat), (14 : Nat), (21 : Nat), (27 : Nat))]) yL_loose lv [vr o1, vi x2, vi x3, vi x4, vi x5, vr o6] h 7 50 Q := by
  refine Ctr.ofH (lo := [some (vr o1), some (vi x2), some (vi x3), some (vi x4), some (vi x5), some (vr o6), none]) hst (by decide) (by simp [ena, isL]) rfl ?_
  intro G hg hlim C
  unfold vc_L_loose at hv
  refine j_aload C dL_loose_0 rfl ?_
  refine j_iconst (v := (0 : Int32)) C dL_loose_2 (by decide) ?_
  refine j_aload_n C dL_loose_3 rfl ?_
  refine j_iload_n C dL_loose_4 rfl ?_
  refine j_iload_n C dL_loose_5 rfl ?_
  refine j_iload_n C dL_loose_6 rfl ?_
  refine j_iload C dL_loose_7 rfl ?_
  obtain ⟨a1, e2, hv⟩ := hv
  obtain ⟨g5, hv⟩ := hv
  refine k_callV C 5 [vi x2, vi x3, vi x4, vi x5] mv_L_23 e2 rfl (fun l D dA sz hl => s_X6_loose (by omega) hv l D dA sz hl) rfl rfl (by decide) g5 rfl (by omega) (Nat.le_of_ble_eq_true rfl) (hlim _ _ (by omega) (by omega)) dL_loose_9 (fun E h3 hq => ?_) (fun v h3 hq => ?_)
  · rcases hq with ⟨rfl, hv⟩ | ⟨rfl, hv⟩
    · refine jx_catch C [] (⟨0, 14, 17, 13⟩ : ExceptionTableEntry) [(⟨0, 14, 21, 27⟩ : ExceptionTableEntry)] rfl (fun z hz => by cases hz) (by decide) (by decide) wg_205 wn_219 (fun qx => ?_)
      show J G Q 17 _ _ _ _ _
      refine j_astore (lo' := [some (vr o1), some (vi x2), some (vi x3), some (vi x4), some (vi x5), some (vr o6), some (vr (some qx))]) C dL_loose_17 (Nat.le_of_ble_eq_true rfl) rfl ?_
      refine j_iconst (v := (1 : Int32)) C dL_loose_19 (by decide) ?_
      exact j_iret C dL_loose_20 (hlim _ _ (by omega) (by omega)) hv
    · refine jx_catch C [(⟨0, 14, 17, 13⟩ : ExceptionTableEntry)] (⟨0, 14, 21, 27⟩ : ExceptionTableEntry) [] rfl (fun z hz => Or.inr (by rw [List.mem_singleton.mp hz]; exact ⟨by decide, xA, wg_205, by simp [ncs, xA, xS]⟩)) (by decide) (by decide) wg_396 wn_411 (fun qx => ?_)
      show J G Q 21 _ _ _ _ _
      refine j_astore (lo' := [some (vr o1), some (vi x2), some (vi x3), some (vi x4), some (vi x5), some (vr o6), some (vr (some qx))]) C dL_loose_21 (Nat.le_of_ble_eq_true rfl) rfl ?_
      refine j_iconst (v := (2 : Int32)) C dL_loose_23 (by decide) ?_
      exact j_iret C dL_loose_24 (hlim _ _ (by omega) (by omega)) hv
  · obtain ⟨v4, rfl, hv⟩ := qi_inv hq
    refine j_i2l C dL_loose_12 ?_
    obtain ⟨a6, e7, hv⟩ := hv
    obtain ⟨g8, hv⟩ := hv
    obtain ⟨b9, hv⟩ := hv
    refine k_last (j := 0) C e7 g8 b9 (by decide) dL_loose_13 ?_
    refine j_goto (tgt := 25) C dL_loose_14 (by decide) ?_
    refine j_iconst (v := (0 : Int32)) C dL_loose_25 (by decide) ?_
    exact j_iret C dL_loose_26 (hlim _ _ (by omega) (by omega)) hv
def vc_L_pair (o1 : Option Nat) (x2 : Int32) (x3 : Int32) (x4 : Int32) (x5 : Int32) (o6 : Option Nat) (h : Hp) (Q : Option AV ⊕ String → Hp → Prop) : Prop :=
    ∃ a1 : Nat, o1 = some a1 ∧ tg h a1 = 6 ∧ vc_X6_pair a1 x2 x3 x4 x5 h (qi (fun v4 h3 => ∃ a6 : Nat, o6 = some a6 ∧ tg h3 a6 = 9 ∧ vp_in (0 : Int32) (ln h3 a6) ∧ Q (.inl (some (vi (0 : Int32)))) (qL h3 a6 0 v4.toInt64)) (fun E h3 => (E = xA ∧ Q (.inl (some (vi (1 : Int32)))) h3) ∨ (E = xS ∧ Q (.inl (some (vi (2 : Int32)))) h3)))
set_option maxRecDepth 20000 in
theorem s_L_pair {o1 : Option Nat} {x2 : Int32} {x3 : Int32} {x4 : Int32} {x5 : Int32} {o6 : Option Nat} {h : Hp} {Q : Option AV ⊕ String → Hp → Prop} {lv : Nat} (hlv : lv + 9 ≤ 12) (hv : vc_L_pair o1 x2 x3 x4 x5 o6 h Q) (l : Launch) (D : va_G) (dA : Nat → ClassId) (sz : Nat) (hst : l.stackTraces = false) : Ctr l D dA sz (Cond.codeWith yL_pair cL_pair 7 (some .int) [((0 : Nat), (14 : Nat), (17 : Nat), (13 : Nat)), ((0 : Nat), (14 : Nat), (21 : Nat), (27 : Nat))]) yL_pair lv [vr o1, vi x2, vi x3, vi x4, vi x5, vr o6] h 7 50 Q := by
  refine Ctr.ofH (lo := [some (vr o1), some (vi x2), some (vi x3), some (vi x4), some (vi x5), some (vr o6), none]) hst (by decide) (by simp [ena, isL]) rfl ?_
  intro G hg hlim C
  unfold vc_L_pair at hv
  refine j_aload C dL_pair_0 rfl ?_
  refine j_iconst (v := (0 : Int32)) C dL_pair_2 (by decide) ?_
  refine j_aload_n C dL_pair_3 rfl ?_
  refine j_iload_n C dL_pair_4 rfl ?_
  refine j_iload_n C dL_pair_5 rfl ?_
  refine j_iload_n C dL_pair_6 rfl ?_
  refine j_iload C dL_pair_7 rfl ?_
  obtain ⟨a1, e2, hv⟩ := hv
  obtain ⟨g5, hv⟩ := hv
  refine k_callV C 5 [vi x2, vi x3, vi x4, vi x5] mv_L_29 e2 rfl (fun l D dA sz hl => s_X6_pair (by omega) hv l D dA sz hl) rfl rfl (by decide) g5 rfl (by omega) (Nat.le_of_ble_eq_true rfl) (hlim _ _ (by omega) (by omega)) dL_pair_9 (fun E h3 hq => ?_) (fun v h3 hq => ?_)
  · rcases hq with ⟨rfl, hv⟩ | ⟨rfl, hv⟩
    · refine jx_catch C [] (⟨0, 14, 17, 13⟩ : ExceptionTableEntry) [(⟨0, 14, 21, 27⟩ : ExceptionTableEntry)] rfl (fun z hz => by cases hz) (by decide) (by decide) wg_205 wn_219 (fun qx => ?_)
      show J G Q 17 _ _ _ _ _
      refine j_astore (lo' := [some (vr o1), some (vi x2), some (vi x3), some (vi x4), some (vi x5), some (vr o6), some (vr (some qx))]) C dL_pair_17 (Nat.le_of_ble_eq_true rfl) rfl ?_
      refine j_iconst (v := (1 : Int32)) C dL_pair_19 (by decide) ?_
      exact j_iret C dL_pair_20 (hlim _ _ (by omega) (by omega)) hv
    · refine jx_catch C [(⟨0, 14, 17, 13⟩ : ExceptionTableEntry)] (⟨0, 14, 21, 27⟩ : ExceptionTableEntry) [] rfl (fun z hz => Or.inr (by rw [List.mem_singleton.mp hz]; exact ⟨by decide, xA, wg_205, by simp [ncs, xA, xS]⟩)) (by decide) (by decide) wg_396 wn_411 (fun qx => ?_)
      show J G Q 21 _ _ _ _ _
      refine j_astore (lo' := [some (vr o1), some (vi x2), some (vi x3), some (vi x4), some (vi x5), some (vr o6), some (vr (some qx))]) C dL_pair_21 (Nat.le_of_ble_eq_true rfl) rfl ?_
      refine j_iconst (v := (2 : Int32)) C dL_pair_23 (by decide) ?_
      exact j_iret C dL_pair_24 (hlim _ _ (by omega) (by omega)) hv
  · obtain ⟨v4, rfl, hv⟩ := qi_inv hq
    refine j_i2l C dL_pair_12 ?_
    obtain ⟨a6, e7, hv⟩ := hv
    obtain ⟨g8, hv⟩ := hv
    obtain ⟨b9, hv⟩ := hv
    refine k_last (j := 0) C e7 g8 b9 (by decide) dL_pair_13 ?_
    refine j_goto (tgt := 25) C dL_pair_14 (by decide) ?_
    refine j_iconst (v := (0 : Int32)) C dL_pair_25 (by decide) ?_
    exact j_iret C dL_pair_26 (hlim _ _ (by omega) (by omega)) hv
def vc_L_copy (o1 : Option Nat) (x2 : Int32) (x3 : Int32) (o4 : Option Nat) (h : Hp) (Q : Option AV ⊕ String → Hp → Prop) : Prop :=
    ∃ a1 : Nat, o1 = some a1 ∧ tg h a1 = 6 ∧ vc_X6_copy a1 x2 x3 h (qi (fun v4 h3 => ∃ a6 : Nat, o4 = some a6 ∧ tg h3 a6 = 9 ∧ vp_in (0 : Int32) (ln h3 a6) ∧ Q (.inl (some (vi (0 : Int32)))) (qL h3 a6 0 v4.toInt64)) (fun E h3 => (E = xA ∧ Q (.inl (some (vi (1 : Int32)))) h3)))
set_option maxRecDepth 20000 in
theorem s_L_copy {o1 : Option Nat} {x2 : Int32} {x3 : Int32} {o4 : Option Nat} {h : Hp} {Q : Option AV ⊕ String → Hp → Prop} {lv : Nat} (hlv : lv + 9 ≤ 12) (hv : vc_L_copy o1 x2 x3 o4 h Q) (l : Launch) (D : va_G) (dA : Nat → ClassId) (sz : Nat) (hst : l.stackTraces = false) : Ctr l D dA sz (Cond.codeWith yL_copy cL_copy 5 (some .int) [((0 : Nat), (10 : Nat), (13 : Nat), (13 : Nat))]) yL_copy lv [vr o1, vi x2, vi x3, vr o4] h 2 12 Q := by
  refine Ctr.ofH (lo := [some (vr o1), some (vi x2), some (vi x3), some (vr o4), none]) hst (by decide) (by simp [ena, isL]) rfl ?_
  intro G hg hlim C
  unfold vc_L_copy at hv
  refine j_aload_n C dL_copy_0 rfl ?_
  refine j_iconst (v := (0 : Int32)) C dL_copy_1 (by decide) ?_
  refine j_aload_n C dL_copy_2 rfl ?_
  refine j_iload_n C dL_copy_3 rfl ?_
  refine j_iload_n C dL_copy_4 rfl ?_
  obtain ⟨a1, e2, hv⟩ := hv
  obtain ⟨g5, hv⟩ := hv
  refine k_callV C 5 [vi x2, vi x3] mv_L_32 e2 rfl (fun l D dA sz hl => s_X6_copy (by omega) hv l D dA sz hl) rfl rfl (by decide) g5 rfl (by omega) (Nat.le_of_ble_eq_true rfl) (hlim _ _ (by omega) (by omega)) dL_copy_5 (fun E h3 hq => ?_) (fun v h3 hq => ?_)
  · obtain ⟨rfl, hv⟩ := hq
    refine jx_catch C [] (⟨0, 10, 13, 13⟩ : ExceptionTableEntry) [] rfl (fun z hz => by cases hz) (by decide) (by decide) wg_205 wn_219 (fun qx => ?_)
    show J G Q 13 _ _ _ _ _
    refine j_astore (lo' := [some (vr o1), some (vi x2), some (vi x3), some (vr o4), some (vr (some qx))]) C dL_copy_13 (Nat.le_of_ble_eq_true rfl) rfl ?_
    refine j_iconst (v := (1 : Int32)) C dL_copy_15 (by decide) ?_
    exact j_iret C dL_copy_16 (hlim _ _ (by omega) (by omega)) hv
  · obtain ⟨v4, rfl, hv⟩ := qi_inv hq
    refine j_i2l C dL_copy_8 ?_
    obtain ⟨a6, e7, hv⟩ := hv
    obtain ⟨g8, hv⟩ := hv
    obtain ⟨b9, hv⟩ := hv
    refine k_last (j := 0) C e7 g8 b9 (by decide) dL_copy_9 ?_
    refine j_goto (tgt := 17) C dL_copy_10 (by decide) ?_
    refine j_iconst (v := (0 : Int32)) C dL_copy_17 (by decide) ?_
    exact j_iret C dL_copy_18 (hlim _ _ (by omega) (by omega)) hv
def vc_L_link (o1 : Option Nat) (x2 : Int32) (x3 : Int32) (x4 : Int32) (o5 : Option Nat) (h : Hp) (Q : Option AV ⊕ String → Hp → Prop) : Prop :=
    ∃ a1 : Nat, o1 = some a1 ∧ tg h a1 = 6 ∧ vc_X6_link a1 x2 x3 x4 h (qi (fun v4 h3 => ∃ a6 : Nat, o5 = some a6 ∧ tg h3 a6 = 9 ∧ vp_in (0 : Int32) (ln h3 a6) ∧ Q (.inl (some (vi (0 : Int32)))) (qL h3 a6 0 v4.toInt64)) (fun E h3 => (E = xA ∧ Q (.inl (some (vi (1 : Int32)))) h3) ∨ (E = xS ∧ Q (.inl (some (vi (2 : Int32)))) h3)))
set_option maxRecDepth 20000 in
theorem s_L_link {o1 : Option Nat} {x2 : Int32} {x3 : Int32} {x4 : Int32} {o5 : Option Nat} {h : Hp} {Q : Option AV ⊕ String → Hp → Prop} {lv : Nat} (hlv : lv + 9 ≤ 12) (hv : vc_L_link o1 x2 x3 x4 o5 h Q) (l : Launch) (D : va_G) (dA : Nat → ClassId) (sz : Nat) (hst : l.stackTraces = false) : Ctr l D dA sz (Cond.codeWith yL_link cL_link 6 (some .int) [((0 : Nat), (12 : Nat), (15 : Nat), (13 : Nat)), ((0 : Nat), (12 : Nat), (19 : Nat), (27 : Nat))]) yL_link lv [vr o1, vi x2, vi x3, vi x4, vr o5] h 5 30 Q := by
  refine Ctr.ofH (lo := [some (vr o1), some (vi x2), some (vi x3), some (vi x4), some (vr o5), none]) hst (by decide) (by simp [ena, isL]) rfl ?_
  intro G hg hlim C
  unfold vc_L_link at hv
  refine j_aload C dL_link_0 rfl ?_
  refine j_iconst (v := (0 : Int32)) C dL_link_2 (by decide) ?_
  refine j_aload_n C dL_link_3 rfl ?_
  refine j_iload_n C dL_link_4 rfl ?_
  refine j_iload_n C dL_link_5 rfl ?_
  refine j_iload_n C dL_link_6 rfl ?_
  obtain ⟨a1, e2, hv⟩ := hv
  obtain ⟨g5, hv⟩ := hv
  refine k_callV C 5 [vi x2, vi x3, vi x4] mv_L_36 e2 rfl (fun l D dA sz hl => s_X6_link (by omega) hv l D dA sz hl) rfl rfl (by decide) g5 rfl (by omega) (Nat.le_of_ble_eq_true rfl) (hlim _ _ (by omega) (by omega)) dL_link_7 (fun E h3 hq => ?_) (fun v h3 hq => ?_)
  · rcases hq with ⟨rfl, hv⟩ | ⟨rfl, hv⟩
    · refine jx_catch C [] (⟨0, 12, 15, 13⟩ : ExceptionTableEntry) [(⟨0, 12, 19, 27⟩ : ExceptionTableEntry)] rfl (fun z hz => by cases hz) (by decide) (by decide) wg_205 wn_219 (fun qx => ?_)
      show J G Q 15 _ _ _ _ _
      refine j_astore (lo' := [some (vr o1), some (vi x2), some (vi x3), some (vi x4), some (vr o5), some (vr (some qx))]) C dL_link_15 (Nat.le_of_ble_eq_true rfl) rfl ?_
      refine j_iconst (v := (1 : Int32)) C dL_link_17 (by decide) ?_
      exact j_iret C dL_link_18 (hlim _ _ (by omega) (by omega)) hv
    · refine jx_catch C [(⟨0, 12, 15, 13⟩ : ExceptionTableEntry)] (⟨0, 12, 19, 27⟩ : ExceptionTableEntry) [] rfl (fun z hz => Or.inr (by rw [List.mem_singleton.mp hz]; exact ⟨by decide, xA, wg_205, by simp [ncs, xA, xS]⟩)) (by decide) (by decide) wg_396 wn_411 (fun qx => ?_)
      show J G Q 19 _ _ _ _ _
      refine j_astore (lo' := [some (vr o1), some (vi x2), some (vi x3), some (vi x4), some (vr o5), some (vr (some qx))]) C dL_link_19 (Nat.le_of_ble_eq_true rfl) rfl ?_
      refine j_iconst (v := (2 : Int32)) C dL_link_21 (by decide) ?_
      exact j_iret C dL_link_22 (hlim _ _ (by omega) (by omega)) hv
  · obtain ⟨v4, rfl, hv⟩ := qi_inv hq
    refine j_i2l C dL_link_10 ?_
    obtain ⟨a6, e7, hv⟩ := hv
    obtain ⟨g8, hv⟩ := hv
    obtain ⟨b9, hv⟩ := hv
    refine k_last (j := 0) C e7 g8 b9 (by decide) dL_link_11 ?_
    refine j_goto (tgt := 23) C dL_link_12 (by decide) ?_
    refine j_iconst (v := (0 : Int32)) C dL_link_23 (by decide) ?_
    exact j_iret C dL_link_24 (hlim _ _ (by omega) (by omega)) hv
def vc_L_fetch (o1 : Option Nat) (x2 : Int32) (x3 : Int32) (x4 : Int32) (o5 : Option Nat) (h : Hp) (Q : Option AV ⊕ String → Hp → Prop) : Prop :=
    ∃ a1 : Nat, o1 = some a1 ∧ tg h a1 = 6 ∧ vc_X6_fetch a1 x2 x3 x4 h (qi (fun v4 h3 => ∃ a6 : Nat, o5 = some a6 ∧ tg h3 a6 = 9 ∧ vp_in (0 : Int32) (ln h3 a6) ∧ Q (.inl (some (vi (0 : Int32)))) (qL h3 a6 0 v4.toInt64)) (fun E h3 => (E = xA ∧ Q (.inl (some (vi (1 : Int32)))) h3) ∨ (E = xS ∧ Q (.inl (some (vi (2 : Int32)))) h3)))
set_option maxRecDepth 20000 in
theorem s_L_fetch {o1 : Option Nat} {x2 : Int32} {x3 : Int32} {x4 : Int32} {o5 : Option Nat} {h : Hp} {Q : Option AV ⊕ String → Hp → Prop} {lv : Nat} (hlv : lv + 9 ≤ 12) (hv : vc_L_fetch o1 x2 x3 x4 o5 h Q) (l : Launch) (D : va_G) (dA : Nat → ClassId) (sz : Nat) (hst : l.stackTraces = false) : Ctr l D dA sz (Cond.codeWith yL_fetch cL_fetch 6 (some .int) [((0 : Nat), (12 : Nat), (15 : Nat), (13 : Nat)), ((0 : Nat), (12 : Nat), (19 : Nat), (27 : Nat))]) yL_fetch lv [vr o1, vi x2, vi x3, vi x4, vr o5] h 5 30 Q := by
  refine Ctr.ofH (lo := [some (vr o1), some (vi x2), some (vi x3), some (vi x4), some (vr o5), none]) hst (by decide) (by simp [ena, isL]) rfl ?_
  intro G hg hlim C
  unfold vc_L_fetch at hv
  refine j_aload C dL_fetch_0 rfl ?_
  refine j_iconst (v := (0 : Int32)) C dL_fetch_2 (by decide) ?_
  refine j_aload_n C dL_fetch_3 rfl ?_
  refine j_iload_n C dL_fetch_4 rfl ?_
  refine j_iload_n C dL_fetch_5 rfl ?_
  refine j_iload_n C dL_fetch_6 rfl ?_
  obtain ⟨a1, e2, hv⟩ := hv
  obtain ⟨g5, hv⟩ := hv
  refine k_callV C 5 [vi x2, vi x3, vi x4] mv_L_39 e2 rfl (fun l D dA sz hl => s_X6_fetch (by omega) hv l D dA sz hl) rfl rfl (by decide) g5 rfl (by omega) (Nat.le_of_ble_eq_true rfl) (hlim _ _ (by omega) (by omega)) dL_fetch_7 (fun E h3 hq => ?_) (fun v h3 hq => ?_)
  · rcases hq with ⟨rfl, hv⟩ | ⟨rfl, hv⟩
    · refine jx_catch C [] (⟨0, 12, 15, 13⟩ : ExceptionTableEntry) [(⟨0, 12, 19, 27⟩ : ExceptionTableEntry)] rfl (fun z hz => by cases hz) (by decide) (by decide) wg_205 wn_219 (fun qx => ?_)
      show J G Q 15 _ _ _ _ _
      refine j_astore (lo' := [some (vr o1), some (vi x2), some (vi x3), some (vi x4), some (vr o5), some (vr (some qx))]) C dL_fetch_15 (Nat.le_of_ble_eq_true rfl) rfl ?_
      refine j_iconst (v := (1 : Int32)) C dL_fetch_17 (by decide) ?_
      exact j_iret C dL_fetch_18 (hlim _ _ (by omega) (by omega)) hv
    · refine jx_catch C [(⟨0, 12, 15, 13⟩ : ExceptionTableEntry)] (⟨0, 12, 19, 27⟩ : ExceptionTableEntry) [] rfl (fun z hz => Or.inr (by rw [List.mem_singleton.mp hz]; exact ⟨by decide, xA, wg_205, by simp [ncs, xA, xS]⟩)) (by decide) (by decide) wg_396 wn_411 (fun qx => ?_)
      show J G Q 19 _ _ _ _ _
      refine j_astore (lo' := [some (vr o1), some (vi x2), some (vi x3), some (vi x4), some (vr o5), some (vr (some qx))]) C dL_fetch_19 (Nat.le_of_ble_eq_true rfl) rfl ?_
      refine j_iconst (v := (2 : Int32)) C dL_fetch_21 (by decide) ?_
      exact j_iret C dL_fetch_22 (hlim _ _ (by omega) (by omega)) hv
  · obtain ⟨v4, rfl, hv⟩ := qi_inv hq
    refine j_i2l C dL_fetch_10 ?_
    obtain ⟨a6, e7, hv⟩ := hv
    obtain ⟨g8, hv⟩ := hv
    obtain ⟨b9, hv⟩ := hv
    refine k_last (j := 0) C e7 g8 b9 (by decide) dL_fetch_11 ?_
    refine j_goto (tgt := 23) C dL_fetch_12 (by decide) ?_
    refine j_iconst (v := (0 : Int32)) C dL_fetch_23 (by decide) ?_
    exact j_iret C dL_fetch_24 (hlim _ _ (by omega) (by omega)) hv
def vc_L_set (o1 : Option Nat) (x2 : Int32) (x3 : Int32) (z4 : Int64) (o5 : Option Nat) (h : Hp) (Q : Option AV ⊕ String → Hp → Prop) : Prop :=
    ∃ a1 : Nat, o1 = some a1 ∧ tg h a1 = 6 ∧ vc_X6_set a1 x2 x3 z4 h (ql (fun v4 h3 => ∃ a6 : Nat, o5 = some a6 ∧ tg h3 a6 = 9 ∧ vp_in (0 : Int32) (ln h3 a6) ∧ Q (.inl (some (vi (0 : Int32)))) (qL h3 a6 0 v4)) (fun E h3 => (E = xA ∧ Q (.inl (some (vi (1 : Int32)))) h3) ∨ (E = xS ∧ Q (.inl (some (vi (2 : Int32)))) h3)))
set_option maxRecDepth 20000 in
theorem s_L_set {o1 : Option Nat} {x2 : Int32} {x3 : Int32} {z4 : Int64} {o5 : Option Nat} {h : Hp} {Q : Option AV ⊕ String → Hp → Prop} {lv : Nat} (hlv : lv + 9 ≤ 12) (hv : vc_L_set o1 x2 x3 z4 o5 h Q) (l : Launch) (D : va_G) (dA : Nat → ClassId) (sz : Nat) (hst : l.stackTraces = false) : Ctr l D dA sz (Cond.codeWith yL_set cL_set 7 (some .int) [((0 : Nat), (11 : Nat), (14 : Nat), (13 : Nat)), ((0 : Nat), (11 : Nat), (18 : Nat), (27 : Nat))]) yL_set lv [vr o1, vi x2, vi x3, vl z4, vr o5] h 4 24 Q := by
  refine Ctr.ofH (lo := [some (vr o1), some (vi x2), some (vi x3), some (vl z4), none, some (vr o5), none]) hst (by decide) (by simp [ena, isL]) rfl ?_
  intro G hg hlim C
  unfold vc_L_set at hv
  refine j_aload C dL_set_0 rfl ?_
  refine j_iconst (v := (0 : Int32)) C dL_set_2 (by decide) ?_
  refine j_aload_n C dL_set_3 rfl ?_
  refine j_iload_n C dL_set_4 rfl ?_
  refine j_iload_n C dL_set_5 rfl ?_
  refine j_lload_n C dL_set_6 rfl ?_
  obtain ⟨a1, e2, hv⟩ := hv
  obtain ⟨g5, hv⟩ := hv
  refine k_callV C 5 [vi x2, vi x3, vl z4] mv_L_42 e2 rfl (fun l D dA sz hl => s_X6_set (by omega) hv l D dA sz hl) rfl rfl (by decide) g5 rfl (by omega) (Nat.le_of_ble_eq_true rfl) (hlim _ _ (by omega) (by omega)) dL_set_7 (fun E h3 hq => ?_) (fun v h3 hq => ?_)
  · rcases hq with ⟨rfl, hv⟩ | ⟨rfl, hv⟩
    · refine jx_catch C [] (⟨0, 11, 14, 13⟩ : ExceptionTableEntry) [(⟨0, 11, 18, 27⟩ : ExceptionTableEntry)] rfl (fun z hz => by cases hz) (by decide) (by decide) wg_205 wn_219 (fun qx => ?_)
      show J G Q 14 _ _ _ _ _
      refine j_astore (lo' := [some (vr o1), some (vi x2), some (vi x3), some (vl z4), none, some (vr o5), some (vr (some qx))]) C dL_set_14 (Nat.le_of_ble_eq_true rfl) rfl ?_
      refine j_iconst (v := (1 : Int32)) C dL_set_16 (by decide) ?_
      exact j_iret C dL_set_17 (hlim _ _ (by omega) (by omega)) hv
    · refine jx_catch C [(⟨0, 11, 14, 13⟩ : ExceptionTableEntry)] (⟨0, 11, 18, 27⟩ : ExceptionTableEntry) [] rfl (fun z hz => Or.inr (by rw [List.mem_singleton.mp hz]; exact ⟨by decide, xA, wg_205, by simp [ncs, xA, xS]⟩)) (by decide) (by decide) wg_396 wn_411 (fun qx => ?_)
      show J G Q 18 _ _ _ _ _
      refine j_astore (lo' := [some (vr o1), some (vi x2), some (vi x3), some (vl z4), none, some (vr o5), some (vr (some qx))]) C dL_set_18 (Nat.le_of_ble_eq_true rfl) rfl ?_
      refine j_iconst (v := (2 : Int32)) C dL_set_20 (by decide) ?_
      exact j_iret C dL_set_21 (hlim _ _ (by omega) (by omega)) hv
  · obtain ⟨v4, rfl, hv⟩ := ql_inv hq
    obtain ⟨a6, e7, hv⟩ := hv
    obtain ⟨g8, hv⟩ := hv
    obtain ⟨b9, hv⟩ := hv
    refine k_last (j := 0) C e7 g8 b9 (by decide) dL_set_10 ?_
    refine j_goto (tgt := 22) C dL_set_11 (by decide) ?_
    refine j_iconst (v := (0 : Int32)) C dL_set_22 (by decide) ?_
    exact j_iret C dL_set_23 (hlim _ _ (by omega) (by omega)) hv
def vc_L_get (o1 : Option Nat) (x2 : Int32) (x3 : Int32) (o4 : Option Nat) (h : Hp) (Q : Option AV ⊕ String → Hp → Prop) : Prop :=
    ∃ a1 : Nat, o1 = some a1 ∧ tg h a1 = 6 ∧ vc_X6_get a1 x2 x3 h (ql (fun v4 h3 => ∃ a6 : Nat, o4 = some a6 ∧ tg h3 a6 = 9 ∧ vp_in (0 : Int32) (ln h3 a6) ∧ Q (.inl (some (vi (0 : Int32)))) (qL h3 a6 0 v4)) (fun E h3 => (E = xA ∧ Q (.inl (some (vi (1 : Int32)))) h3) ∨ (E = xS ∧ Q (.inl (some (vi (2 : Int32)))) h3)))
set_option maxRecDepth 20000 in
theorem s_L_get {o1 : Option Nat} {x2 : Int32} {x3 : Int32} {o4 : Option Nat} {h : Hp} {Q : Option AV ⊕ String → Hp → Prop} {lv : Nat} (hlv : lv + 9 ≤ 12) (hv : vc_L_get o1 x2 x3 o4 h Q) (l : Launch) (D : va_G) (dA : Nat → ClassId) (sz : Nat) (hst : l.stackTraces = false) : Ctr l D dA sz (Cond.codeWith yL_get cL_get 5 (some .int) [((0 : Nat), (9 : Nat), (12 : Nat), (13 : Nat)), ((0 : Nat), (9 : Nat), (16 : Nat), (27 : Nat))]) yL_get lv [vr o1, vi x2, vi x3, vr o4] h 4 24 Q := by
  refine Ctr.ofH (lo := [some (vr o1), some (vi x2), some (vi x3), some (vr o4), none]) hst (by decide) (by simp [ena, isL]) rfl ?_
  intro G hg hlim C
  unfold vc_L_get at hv
  refine j_aload_n C dL_get_0 rfl ?_
  refine j_iconst (v := (0 : Int32)) C dL_get_1 (by decide) ?_
  refine j_aload_n C dL_get_2 rfl ?_
  refine j_iload_n C dL_get_3 rfl ?_
  refine j_iload_n C dL_get_4 rfl ?_
  obtain ⟨a1, e2, hv⟩ := hv
  obtain ⟨g5, hv⟩ := hv
  refine k_callV C 5 [vi x2, vi x3] mv_L_46 e2 rfl (fun l D dA sz hl => s_X6_get (by omega) hv l D dA sz hl) rfl rfl (by decide) g5 rfl (by omega) (Nat.le_of_ble_eq_true rfl) (hlim _ _ (by omega) (by omega)) dL_get_5 (fun E h3 hq => ?_) (fun v h3 hq => ?_)
  · rcases hq with ⟨rfl, hv⟩ | ⟨rfl, hv⟩
    · refine jx_catch C [] (⟨0, 9, 12, 13⟩ : ExceptionTableEntry) [(⟨0, 9, 16, 27⟩ : ExceptionTableEntry)] rfl (fun z hz => by cases hz) (by decide) (by decide) wg_205 wn_219 (fun qx => ?_)
      show J G Q 12 _ _ _ _ _
      refine j_astore (lo' := [some (vr o1), some (vi x2), some (vi x3), some (vr o4), some (vr (some qx))]) C dL_get_12 (Nat.le_of_ble_eq_true rfl) rfl ?_
      refine j_iconst (v := (1 : Int32)) C dL_get_14 (by decide) ?_
      exact j_iret C dL_get_15 (hlim _ _ (by omega) (by omega)) hv
    · refine jx_catch C [(⟨0, 9, 12, 13⟩ : ExceptionTableEntry)] (⟨0, 9, 16, 27⟩ : ExceptionTableEntry) [] rfl (fun z hz => Or.inr (by rw [List.mem_singleton.mp hz]; exact ⟨by decide, xA, wg_205, by simp [ncs, xA, xS]⟩)) (by decide) (by decide) wg_396 wn_411 (fun qx => ?_)
      show J G Q 16 _ _ _ _ _
      refine j_astore (lo' := [some (vr o1), some (vi x2), some (vi x3), some (vr o4), some (vr (some qx))]) C dL_get_16 (Nat.le_of_ble_eq_true rfl) rfl ?_
      refine j_iconst (v := (2 : Int32)) C dL_get_18 (by decide) ?_
      exact j_iret C dL_get_19 (hlim _ _ (by omega) (by omega)) hv
  · obtain ⟨v4, rfl, hv⟩ := ql_inv hq
    obtain ⟨a6, e7, hv⟩ := hv
    obtain ⟨g8, hv⟩ := hv
    obtain ⟨b9, hv⟩ := hv
    refine k_last (j := 0) C e7 g8 b9 (by decide) dL_get_8 ?_
    refine j_goto (tgt := 20) C dL_get_9 (by decide) ?_
    refine j_iconst (v := (0 : Int32)) C dL_get_20 (by decide) ?_
    exact j_iret C dL_get_21 (hlim _ _ (by omega) (by omega)) hv
def vc_L_referent (o1 : Option Nat) (x2 : Int32) (x3 : Int32) (x4 : Int32) (o5 : Option Nat) (h : Hp) (Q : Option AV ⊕ String → Hp → Prop) : Prop :=
    ∃ a1 : Nat, o1 = some a1 ∧ tg h a1 = 6 ∧ vc_X6_referent a1 x2 x3 x4 h (qi (fun v4 h3 => ∃ a6 : Nat, o5 = some a6 ∧ tg h3 a6 = 9 ∧ vp_in (0 : Int32) (ln h3 a6) ∧ Q (.inl (some (vi (0 : Int32)))) (qL h3 a6 0 v4.toInt64)) (fun E h3 => (E = xA ∧ Q (.inl (some (vi (1 : Int32)))) h3) ∨ (E = xS ∧ Q (.inl (some (vi (2 : Int32)))) h3)))
set_option maxRecDepth 20000 in
theorem s_L_referent {o1 : Option Nat} {x2 : Int32} {x3 : Int32} {x4 : Int32} {o5 : Option Nat} {h : Hp} {Q : Option AV ⊕ String → Hp → Prop} {lv : Nat} (hlv : lv + 9 ≤ 12) (hv : vc_L_referent o1 x2 x3 x4 o5 h Q) (l : Launch) (D : va_G) (dA : Nat → ClassId) (sz : Nat) (hst : l.stackTraces = false) : Ctr l D dA sz (Cond.codeWith yL_referent cL_referent 6 (some .int) [((0 : Nat), (12 : Nat), (15 : Nat), (13 : Nat)), ((0 : Nat), (12 : Nat), (19 : Nat), (27 : Nat))]) yL_referent lv [vr o1, vi x2, vi x3, vi x4, vr o5] h 4 24 Q := by
  refine Ctr.ofH (lo := [some (vr o1), some (vi x2), some (vi x3), some (vi x4), some (vr o5), none]) hst (by decide) (by simp [ena, isL]) rfl ?_
  intro G hg hlim C
  unfold vc_L_referent at hv
  refine j_aload C dL_referent_0 rfl ?_
  refine j_iconst (v := (0 : Int32)) C dL_referent_2 (by decide) ?_
  refine j_aload_n C dL_referent_3 rfl ?_
  refine j_iload_n C dL_referent_4 rfl ?_
  refine j_iload_n C dL_referent_5 rfl ?_
  refine j_iload_n C dL_referent_6 rfl ?_
  obtain ⟨a1, e2, hv⟩ := hv
  obtain ⟨g5, hv⟩ := hv
  refine k_callV C 5 [vi x2, vi x3, vi x4] mv_L_50 e2 rfl (fun l D dA sz hl => s_X6_referent (by omega) hv l D dA sz hl) rfl rfl (by decide) g5 rfl (by omega) (Nat.le_of_ble_eq_true rfl) (hlim _ _ (by omega) (by omega)) dL_referent_7 (fun E h3 hq => ?_) (fun v h3 hq => ?_)
  · rcases hq with ⟨rfl, hv⟩ | ⟨rfl, hv⟩
    · refine jx_catch C [] (⟨0, 12, 15, 13⟩ : ExceptionTableEntry) [(⟨0, 12, 19, 27⟩ : ExceptionTableEntry)] rfl (fun z hz => by cases hz) (by decide) (by decide) wg_205 wn_219 (fun qx => ?_)
      show J G Q 15 _ _ _ _ _
      refine j_astore (lo' := [some (vr o1), some (vi x2), some (vi x3), some (vi x4), some (vr o5), some (vr (some qx))]) C dL_referent_15 (Nat.le_of_ble_eq_true rfl) rfl ?_
      refine j_iconst (v := (1 : Int32)) C dL_referent_17 (by decide) ?_
      exact j_iret C dL_referent_18 (hlim _ _ (by omega) (by omega)) hv
    · refine jx_catch C [(⟨0, 12, 15, 13⟩ : ExceptionTableEntry)] (⟨0, 12, 19, 27⟩ : ExceptionTableEntry) [] rfl (fun z hz => Or.inr (by rw [List.mem_singleton.mp hz]; exact ⟨by decide, xA, wg_205, by simp [ncs, xA, xS]⟩)) (by decide) (by decide) wg_396 wn_411 (fun qx => ?_)
      show J G Q 19 _ _ _ _ _
      refine j_astore (lo' := [some (vr o1), some (vi x2), some (vi x3), some (vi x4), some (vr o5), some (vr (some qx))]) C dL_referent_19 (Nat.le_of_ble_eq_true rfl) rfl ?_
      refine j_iconst (v := (2 : Int32)) C dL_referent_21 (by decide) ?_
      exact j_iret C dL_referent_22 (hlim _ _ (by omega) (by omega)) hv
  · obtain ⟨v4, rfl, hv⟩ := qi_inv hq
    refine j_i2l C dL_referent_10 ?_
    obtain ⟨a6, e7, hv⟩ := hv
    obtain ⟨g8, hv⟩ := hv
    obtain ⟨b9, hv⟩ := hv
    refine k_last (j := 0) C e7 g8 b9 (by decide) dL_referent_11 ?_
    refine j_goto (tgt := 23) C dL_referent_12 (by decide) ?_
    refine j_iconst (v := (0 : Int32)) C dL_referent_23 (by decide) ?_
    exact j_iret C dL_referent_24 (hlim _ _ (by omega) (by omega)) hv
def vc_L_give (o1 : Option Nat) (x2 : Int32) (x3 : Int32) (o4 : Option Nat) (h : Hp) (Q : Option AV ⊕ String → Hp → Prop) : Prop :=
    ∃ a1 : Nat, o1 = some a1 ∧ tg h a1 = 6 ∧ vc_X6_give a1 x2 x3 h (qi (fun v4 h3 => ∃ a6 : Nat, o4 = some a6 ∧ tg h3 a6 = 9 ∧ vp_in (0 : Int32) (ln h3 a6) ∧ Q (.inl (some (vi (0 : Int32)))) (qL h3 a6 0 v4.toInt64)) (fun E h3 => (E = xA ∧ Q (.inl (some (vi (1 : Int32)))) h3) ∨ (E = xS ∧ Q (.inl (some (vi (2 : Int32)))) h3)))
set_option maxRecDepth 20000 in
theorem s_L_give {o1 : Option Nat} {x2 : Int32} {x3 : Int32} {o4 : Option Nat} {h : Hp} {Q : Option AV ⊕ String → Hp → Prop} {lv : Nat} (hlv : lv + 9 ≤ 12) (hv : vc_L_give o1 x2 x3 o4 h Q) (l : Launch) (D : va_G) (dA : Nat → ClassId) (sz : Nat) (hst : l.stackTraces = false) : Ctr l D dA sz (Cond.codeWith yL_give cL_give 5 (some .int) [((0 : Nat), (10 : Nat), (13 : Nat), (13 : Nat)), ((0 : Nat), (10 : Nat), (17 : Nat), (27 : Nat))]) yL_give lv [vr o1, vi x2, vi x3, vr o4] h 4 24 Q := by
  refine Ctr.ofH (lo := [some (vr o1), some (vi x2), some (vi x3), some (vr o4), none]) hst (by decide) (by simp [ena, isL]) rfl ?_
  intro G hg hlim C
  unfold vc_L_give at hv
  refine j_aload_n C dL_give_0 rfl ?_
  refine j_iconst (v := (0 : Int32)) C dL_give_1 (by decide) ?_
  refine j_aload_n C dL_give_2 rfl ?_
  refine j_iload_n C dL_give_3 rfl ?_
  refine j_iload_n C dL_give_4 rfl ?_
  obtain ⟨a1, e2, hv⟩ := hv
  obtain ⟨g5, hv⟩ := hv
  refine k_callV C 5 [vi x2, vi x3] mv_L_53 e2 rfl (fun l D dA sz hl => s_X6_give (by omega) hv l D dA sz hl) rfl rfl (by decide) g5 rfl (by omega) (Nat.le_of_ble_eq_true rfl) (hlim _ _ (by omega) (by omega)) dL_give_5 (fun E h3 hq => ?_) (fun v h3 hq => ?_)
  · rcases hq with ⟨rfl, hv⟩ | ⟨rfl, hv⟩
    · refine jx_catch C [] (⟨0, 10, 13, 13⟩ : ExceptionTableEntry) [(⟨0, 10, 17, 27⟩ : ExceptionTableEntry)] rfl (fun z hz => by cases hz) (by decide) (by decide) wg_205 wn_219 (fun qx => ?_)
      show J G Q 13 _ _ _ _ _
      refine j_astore (lo' := [some (vr o1), some (vi x2), some (vi x3), some (vr o4), some (vr (some qx))]) C dL_give_13 (Nat.le_of_ble_eq_true rfl) rfl ?_
      refine j_iconst (v := (1 : Int32)) C dL_give_15 (by decide) ?_
      exact j_iret C dL_give_16 (hlim _ _ (by omega) (by omega)) hv
    · refine jx_catch C [(⟨0, 10, 13, 13⟩ : ExceptionTableEntry)] (⟨0, 10, 17, 27⟩ : ExceptionTableEntry) [] rfl (fun z hz => Or.inr (by rw [List.mem_singleton.mp hz]; exact ⟨by decide, xA, wg_205, by simp [ncs, xA, xS]⟩)) (by decide) (by decide) wg_396 wn_411 (fun qx => ?_)
      show J G Q 17 _ _ _ _ _
      refine j_astore (lo' := [some (vr o1), some (vi x2), some (vi x3), some (vr o4), some (vr (some qx))]) C dL_give_17 (Nat.le_of_ble_eq_true rfl) rfl ?_
      refine j_iconst (v := (2 : Int32)) C dL_give_19 (by decide) ?_
      exact j_iret C dL_give_20 (hlim _ _ (by omega) (by omega)) hv
  · obtain ⟨v4, rfl, hv⟩ := qi_inv hq
    refine j_i2l C dL_give_8 ?_
    obtain ⟨a6, e7, hv⟩ := hv
    obtain ⟨g8, hv⟩ := hv
    obtain ⟨b9, hv⟩ := hv
    refine k_last (j := 0) C e7 g8 b9 (by decide) dL_give_9 ?_
    refine j_goto (tgt := 21) C dL_give_10 (by decide) ?_
    refine j_iconst (v := (0 : Int32)) C dL_give_21 (by decide) ?_
    exact j_iret C dL_give_22 (hlim _ _ (by omega) (by omega)) hv
def vc_L_clear (o1 : Option Nat) (x2 : Int32) (x3 : Int32) (o4 : Option Nat) (h : Hp) (Q : Option AV ⊕ String → Hp → Prop) : Prop :=
    ∃ a1 : Nat, o1 = some a1 ∧ tg h a1 = 6 ∧ vc_X6_clear a1 x2 x3 h (qi (fun v4 h3 => ∃ a6 : Nat, o4 = some a6 ∧ tg h3 a6 = 9 ∧ vp_in (0 : Int32) (ln h3 a6) ∧ Q (.inl (some (vi (0 : Int32)))) (qL h3 a6 0 v4.toInt64)) (fun E h3 => (E = xA ∧ Q (.inl (some (vi (1 : Int32)))) h3) ∨ (E = xS ∧ Q (.inl (some (vi (2 : Int32)))) h3)))
set_option maxRecDepth 20000 in
theorem s_L_clear {o1 : Option Nat} {x2 : Int32} {x3 : Int32} {o4 : Option Nat} {h : Hp} {Q : Option AV ⊕ String → Hp → Prop} {lv : Nat} (hlv : lv + 9 ≤ 12) (hv : vc_L_clear o1 x2 x3 o4 h Q) (l : Launch) (D : va_G) (dA : Nat → ClassId) (sz : Nat) (hst : l.stackTraces = false) : Ctr l D dA sz (Cond.codeWith yL_clear cL_clear 5 (some .int) [((0 : Nat), (10 : Nat), (13 : Nat), (13 : Nat)), ((0 : Nat), (10 : Nat), (17 : Nat), (27 : Nat))]) yL_clear lv [vr o1, vi x2, vi x3, vr o4] h 2 12 Q := by
  refine Ctr.ofH (lo := [some (vr o1), some (vi x2), some (vi x3), some (vr o4), none]) hst (by decide) (by simp [ena, isL]) rfl ?_
  intro G hg hlim C
  unfold vc_L_clear at hv
  refine j_aload_n C dL_clear_0 rfl ?_
  refine j_iconst (v := (0 : Int32)) C dL_clear_1 (by decide) ?_
  refine j_aload_n C dL_clear_2 rfl ?_
  refine j_iload_n C dL_clear_3 rfl ?_
  refine j_iload_n C dL_clear_4 rfl ?_
  obtain ⟨a1, e2, hv⟩ := hv
  obtain ⟨g5, hv⟩ := hv
  refine k_callV C 5 [vi x2, vi x3] mv_L_56 e2 rfl (fun l D dA sz hl => s_X6_clear (by omega) hv l D dA sz hl) rfl rfl (by decide) g5 rfl (by omega) (Nat.le_of_ble_eq_true rfl) (hlim _ _ (by omega) (by omega)) dL_clear_5 (fun E h3 hq => ?_) (fun v h3 hq => ?_)
  · rcases hq with ⟨rfl, hv⟩ | ⟨rfl, hv⟩
    · refine jx_catch C [] (⟨0, 10, 13, 13⟩ : ExceptionTableEntry) [(⟨0, 10, 17, 27⟩ : ExceptionTableEntry)] rfl (fun z hz => by cases hz) (by decide) (by decide) wg_205 wn_219 (fun qx => ?_)
      show J G Q 13 _ _ _ _ _
      refine j_astore (lo' := [some (vr o1), some (vi x2), some (vi x3), some (vr o4), some (vr (some qx))]) C dL_clear_13 (Nat.le_of_ble_eq_true rfl) rfl ?_
      refine j_iconst (v := (1 : Int32)) C dL_clear_15 (by decide) ?_
      exact j_iret C dL_clear_16 (hlim _ _ (by omega) (by omega)) hv
    · refine jx_catch C [(⟨0, 10, 13, 13⟩ : ExceptionTableEntry)] (⟨0, 10, 17, 27⟩ : ExceptionTableEntry) [] rfl (fun z hz => Or.inr (by rw [List.mem_singleton.mp hz]; exact ⟨by decide, xA, wg_205, by simp [ncs, xA, xS]⟩)) (by decide) (by decide) wg_396 wn_411 (fun qx => ?_)
      show J G Q 17 _ _ _ _ _
      refine j_astore (lo' := [some (vr o1), some (vi x2), some (vi x3), some (vr o4), some (vr (some qx))]) C dL_clear_17 (Nat.le_of_ble_eq_true rfl) rfl ?_
      refine j_iconst (v := (2 : Int32)) C dL_clear_19 (by decide) ?_
      exact j_iret C dL_clear_20 (hlim _ _ (by omega) (by omega)) hv
  · obtain ⟨v4, rfl, hv⟩ := qi_inv hq
    refine j_i2l C dL_clear_8 ?_
    obtain ⟨a6, e7, hv⟩ := hv
    obtain ⟨g8, hv⟩ := hv
    obtain ⟨b9, hv⟩ := hv
    refine k_last (j := 0) C e7 g8 b9 (by decide) dL_clear_9 ?_
    refine j_goto (tgt := 21) C dL_clear_10 (by decide) ?_
    refine j_iconst (v := (0 : Int32)) C dL_clear_21 (by decide) ?_
    exact j_iret C dL_clear_22 (hlim _ _ (by omega) (by omega)) hv
def vc_L_poll (o1 : Option Nat) (x2 : Int32) (x3 : Int32) (o4 : Option Nat) (h : Hp) (Q : Option AV ⊕ String → Hp → Prop) : Prop :=
    ∃ a1 : Nat, o1 = some a1 ∧ tg h a1 = 6 ∧ vc_X6_poll a1 x2 x3 h (qi (fun v4 h3 => ∃ a6 : Nat, o4 = some a6 ∧ tg h3 a6 = 9 ∧ vp_in (0 : Int32) (ln h3 a6) ∧ Q (.inl (some (vi (0 : Int32)))) (qL h3 a6 0 v4.toInt64)) (fun E h3 => (E = xA ∧ Q (.inl (some (vi (1 : Int32)))) h3) ∨ (E = xS ∧ Q (.inl (some (vi (2 : Int32)))) h3)))
set_option maxRecDepth 20000 in
theorem s_L_poll {o1 : Option Nat} {x2 : Int32} {x3 : Int32} {o4 : Option Nat} {h : Hp} {Q : Option AV ⊕ String → Hp → Prop} {lv : Nat} (hlv : lv + 9 ≤ 12) (hv : vc_L_poll o1 x2 x3 o4 h Q) (l : Launch) (D : va_G) (dA : Nat → ClassId) (sz : Nat) (hst : l.stackTraces = false) : Ctr l D dA sz (Cond.codeWith yL_poll cL_poll 5 (some .int) [((0 : Nat), (10 : Nat), (13 : Nat), (13 : Nat)), ((0 : Nat), (10 : Nat), (17 : Nat), (27 : Nat))]) yL_poll lv [vr o1, vi x2, vi x3, vr o4] h 3 18 Q := by
  refine Ctr.ofH (lo := [some (vr o1), some (vi x2), some (vi x3), some (vr o4), none]) hst (by decide) (by simp [ena, isL]) rfl ?_
  intro G hg hlim C
  unfold vc_L_poll at hv
  refine j_aload_n C dL_poll_0 rfl ?_
  refine j_iconst (v := (0 : Int32)) C dL_poll_1 (by decide) ?_
  refine j_aload_n C dL_poll_2 rfl ?_
  refine j_iload_n C dL_poll_3 rfl ?_
  refine j_iload_n C dL_poll_4 rfl ?_
  obtain ⟨a1, e2, hv⟩ := hv
  obtain ⟨g5, hv⟩ := hv
  refine k_callV C 5 [vi x2, vi x3] mv_L_60 e2 rfl (fun l D dA sz hl => s_X6_poll (by omega) hv l D dA sz hl) rfl rfl (by decide) g5 rfl (by omega) (Nat.le_of_ble_eq_true rfl) (hlim _ _ (by omega) (by omega)) dL_poll_5 (fun E h3 hq => ?_) (fun v h3 hq => ?_)
  · rcases hq with ⟨rfl, hv⟩ | ⟨rfl, hv⟩
    · refine jx_catch C [] (⟨0, 10, 13, 13⟩ : ExceptionTableEntry) [(⟨0, 10, 17, 27⟩ : ExceptionTableEntry)] rfl (fun z hz => by cases hz) (by decide) (by decide) wg_205 wn_219 (fun qx => ?_)
      show J G Q 13 _ _ _ _ _
      refine j_astore (lo' := [some (vr o1), some (vi x2), some (vi x3), some (vr o4), some (vr (some qx))]) C dL_poll_13 (Nat.le_of_ble_eq_true rfl) rfl ?_
      refine j_iconst (v := (1 : Int32)) C dL_poll_15 (by decide) ?_
      exact j_iret C dL_poll_16 (hlim _ _ (by omega) (by omega)) hv
    · refine jx_catch C [(⟨0, 10, 13, 13⟩ : ExceptionTableEntry)] (⟨0, 10, 17, 27⟩ : ExceptionTableEntry) [] rfl (fun z hz => Or.inr (by rw [List.mem_singleton.mp hz]; exact ⟨by decide, xA, wg_205, by simp [ncs, xA, xS]⟩)) (by decide) (by decide) wg_396 wn_411 (fun qx => ?_)
      show J G Q 17 _ _ _ _ _
      refine j_astore (lo' := [some (vr o1), some (vi x2), some (vi x3), some (vr o4), some (vr (some qx))]) C dL_poll_17 (Nat.le_of_ble_eq_true rfl) rfl ?_
      refine j_iconst (v := (2 : Int32)) C dL_poll_19 (by decide) ?_
      exact j_iret C dL_poll_20 (hlim _ _ (by omega) (by omega)) hv
  · obtain ⟨v4, rfl, hv⟩ := qi_inv hq
    refine j_i2l C dL_poll_8 ?_
    obtain ⟨a6, e7, hv⟩ := hv
    obtain ⟨g8, hv⟩ := hv
    obtain ⟨b9, hv⟩ := hv
    refine k_last (j := 0) C e7 g8 b9 (by decide) dL_poll_9 ?_
    refine j_goto (tgt := 21) C dL_poll_10 (by decide) ?_
    refine j_iconst (v := (0 : Int32)) C dL_poll_21 (by decide) ?_
    exact j_iret C dL_poll_22 (hlim _ _ (by omega) (by omega)) hv
def vc_L_waiting (o1 : Option Nat) (x2 : Int32) (o3 : Option Nat) (h : Hp) (Q : Option AV ⊕ String → Hp → Prop) : Prop :=
    ∃ a1 : Nat, o1 = some a1 ∧ tg h a1 = 6 ∧ vc_X6_waiting a1 x2 h (qi (fun v4 h3 => ∃ a6 : Nat, o3 = some a6 ∧ tg h3 a6 = 9 ∧ vp_in (0 : Int32) (ln h3 a6) ∧ Q (.inl (some (vi (0 : Int32)))) (qL h3 a6 0 v4.toInt64)) (fun E h3 => (E = xA ∧ Q (.inl (some (vi (1 : Int32)))) h3) ∨ (E = xS ∧ Q (.inl (some (vi (2 : Int32)))) h3)))
set_option maxRecDepth 20000 in
theorem s_L_waiting {o1 : Option Nat} {x2 : Int32} {o3 : Option Nat} {h : Hp} {Q : Option AV ⊕ String → Hp → Prop} {lv : Nat} (hlv : lv + 9 ≤ 12) (hv : vc_L_waiting o1 x2 o3 h Q) (l : Launch) (D : va_G) (dA : Nat → ClassId) (sz : Nat) (hst : l.stackTraces = false) : Ctr l D dA sz (Cond.codeWith yL_waiting cL_waiting 4 (some .int) [((0 : Nat), (9 : Nat), (12 : Nat), (13 : Nat)), ((0 : Nat), (9 : Nat), (15 : Nat), (27 : Nat))]) yL_waiting lv [vr o1, vi x2, vr o3] h 2 12 Q := by
  refine Ctr.ofH (lo := [some (vr o1), some (vi x2), some (vr o3), none]) hst (by decide) (by simp [ena, isL]) rfl ?_
  intro G hg hlim C
  unfold vc_L_waiting at hv
  refine j_aload_n C dL_waiting_0 rfl ?_
  refine j_iconst (v := (0 : Int32)) C dL_waiting_1 (by decide) ?_
  refine j_aload_n C dL_waiting_2 rfl ?_
  refine j_iload_n C dL_waiting_3 rfl ?_
  obtain ⟨a1, e2, hv⟩ := hv
  obtain ⟨g5, hv⟩ := hv
  refine k_callV C 5 [vi x2] mv_L_63 e2 rfl (fun l D dA sz hl => s_X6_waiting (by omega) hv l D dA sz hl) rfl rfl (by decide) g5 rfl (by omega) (Nat.le_of_ble_eq_true rfl) (hlim _ _ (by omega) (by omega)) dL_waiting_4 (fun E h3 hq => ?_) (fun v h3 hq => ?_)
  · rcases hq with ⟨rfl, hv⟩ | ⟨rfl, hv⟩
    · refine jx_catch C [] (⟨0, 9, 12, 13⟩ : ExceptionTableEntry) [(⟨0, 9, 15, 27⟩ : ExceptionTableEntry)] rfl (fun z hz => by cases hz) (by decide) (by decide) wg_205 wn_219 (fun qx => ?_)
      show J G Q 12 _ _ _ _ _
      refine j_astore_n (lo' := [some (vr o1), some (vi x2), some (vr o3), some (vr (some qx))]) C dL_waiting_12 (Nat.le_of_ble_eq_true rfl) rfl ?_
      refine j_iconst (v := (1 : Int32)) C dL_waiting_13 (by decide) ?_
      exact j_iret C dL_waiting_14 (hlim _ _ (by omega) (by omega)) hv
    · refine jx_catch C [(⟨0, 9, 12, 13⟩ : ExceptionTableEntry)] (⟨0, 9, 15, 27⟩ : ExceptionTableEntry) [] rfl (fun z hz => Or.inr (by rw [List.mem_singleton.mp hz]; exact ⟨by decide, xA, wg_205, by simp [ncs, xA, xS]⟩)) (by decide) (by decide) wg_396 wn_411 (fun qx => ?_)
      show J G Q 15 _ _ _ _ _
      refine j_astore_n (lo' := [some (vr o1), some (vi x2), some (vr o3), some (vr (some qx))]) C dL_waiting_15 (Nat.le_of_ble_eq_true rfl) rfl ?_
      refine j_iconst (v := (2 : Int32)) C dL_waiting_16 (by decide) ?_
      exact j_iret C dL_waiting_17 (hlim _ _ (by omega) (by omega)) hv
  · obtain ⟨v4, rfl, hv⟩ := qi_inv hq
    refine j_i2l C dL_waiting_7 ?_
    obtain ⟨a6, e7, hv⟩ := hv
    obtain ⟨g8, hv⟩ := hv
    obtain ⟨b9, hv⟩ := hv
    refine k_last (j := 0) C e7 g8 b9 (by decide) dL_waiting_8 ?_
    refine j_goto (tgt := 18) C dL_waiting_9 (by decide) ?_
    refine j_iconst (v := (0 : Int32)) C dL_waiting_18 (by decide) ?_
    exact j_iret C dL_waiting_19 (hlim _ _ (by omega) (by omega)) hv
def vc_L_kind (o1 : Option Nat) (x2 : Int32) (o3 : Option Nat) (h : Hp) (Q : Option AV ⊕ String → Hp → Prop) : Prop :=
    ∃ a1 : Nat, o1 = some a1 ∧ tg h a1 = 6 ∧ vc_X6_kind a1 x2 h (qi (fun v4 h3 => ∃ a6 : Nat, o3 = some a6 ∧ tg h3 a6 = 9 ∧ vp_in (0 : Int32) (ln h3 a6) ∧ Q (.inl (some (vi (0 : Int32)))) (qL h3 a6 0 v4.toInt64)) (fun E h3 => (E = xA ∧ Q (.inl (some (vi (1 : Int32)))) h3)))
set_option maxRecDepth 20000 in
theorem s_L_kind {o1 : Option Nat} {x2 : Int32} {o3 : Option Nat} {h : Hp} {Q : Option AV ⊕ String → Hp → Prop} {lv : Nat} (hlv : lv + 9 ≤ 12) (hv : vc_L_kind o1 x2 o3 h Q) (l : Launch) (D : va_G) (dA : Nat → ClassId) (sz : Nat) (hst : l.stackTraces = false) : Ctr l D dA sz (Cond.codeWith yL_kind cL_kind 4 (some .int) [((0 : Nat), (9 : Nat), (12 : Nat), (13 : Nat))]) yL_kind lv [vr o1, vi x2, vr o3] h 1 6 Q := by
  refine Ctr.ofH (lo := [some (vr o1), some (vi x2), some (vr o3), none]) hst (by decide) (by simp [ena, isL]) rfl ?_
  intro G hg hlim C
  unfold vc_L_kind at hv
  refine j_aload_n C dL_kind_0 rfl ?_
  refine j_iconst (v := (0 : Int32)) C dL_kind_1 (by decide) ?_
  refine j_aload_n C dL_kind_2 rfl ?_
  refine j_iload_n C dL_kind_3 rfl ?_
  obtain ⟨a1, e2, hv⟩ := hv
  obtain ⟨g5, hv⟩ := hv
  refine k_callV C 5 [vi x2] mv_L_66 e2 rfl (fun l D dA sz hl => s_X6_kind (by omega) hv l D dA sz hl) rfl rfl (by decide) g5 rfl (by omega) (Nat.le_of_ble_eq_true rfl) (hlim _ _ (by omega) (by omega)) dL_kind_4 (fun E h3 hq => ?_) (fun v h3 hq => ?_)
  · obtain ⟨rfl, hv⟩ := hq
    refine jx_catch C [] (⟨0, 9, 12, 13⟩ : ExceptionTableEntry) [] rfl (fun z hz => by cases hz) (by decide) (by decide) wg_205 wn_219 (fun qx => ?_)
    show J G Q 12 _ _ _ _ _
    refine j_astore_n (lo' := [some (vr o1), some (vi x2), some (vr o3), some (vr (some qx))]) C dL_kind_12 (Nat.le_of_ble_eq_true rfl) rfl ?_
    refine j_iconst (v := (1 : Int32)) C dL_kind_13 (by decide) ?_
    exact j_iret C dL_kind_14 (hlim _ _ (by omega) (by omega)) hv
  · obtain ⟨v4, rfl, hv⟩ := qi_inv hq
    refine j_i2l C dL_kind_7 ?_
    obtain ⟨a6, e7, hv⟩ := hv
    obtain ⟨g8, hv⟩ := hv
    obtain ⟨b9, hv⟩ := hv
    refine k_last (j := 0) C e7 g8 b9 (by decide) dL_kind_8 ?_
    refine j_goto (tgt := 15) C dL_kind_9 (by decide) ?_
    refine j_iconst (v := (0 : Int32)) C dL_kind_15 (by decide) ?_
    exact j_iret C dL_kind_16 (hlim _ _ (by omega) (by omega)) hv
def vc_L_hash (o1 : Option Nat) (x2 : Int32) (o3 : Option Nat) (h : Hp) (Q : Option AV ⊕ String → Hp → Prop) : Prop :=
    ∃ a1 : Nat, o1 = some a1 ∧ tg h a1 = 6 ∧ vc_X6_hash a1 x2 h (qi (fun v4 h3 => ∃ a6 : Nat, o3 = some a6 ∧ tg h3 a6 = 9 ∧ vp_in (0 : Int32) (ln h3 a6) ∧ Q (.inl (some (vi (0 : Int32)))) (qL h3 a6 0 v4.toInt64)) (fun E h3 => (E = xA ∧ Q (.inl (some (vi (1 : Int32)))) h3)))
set_option maxRecDepth 20000 in
theorem s_L_hash {o1 : Option Nat} {x2 : Int32} {o3 : Option Nat} {h : Hp} {Q : Option AV ⊕ String → Hp → Prop} {lv : Nat} (hlv : lv + 9 ≤ 12) (hv : vc_L_hash o1 x2 o3 h Q) (l : Launch) (D : va_G) (dA : Nat → ClassId) (sz : Nat) (hst : l.stackTraces = false) : Ctr l D dA sz (Cond.codeWith yL_hash cL_hash 4 (some .int) [((0 : Nat), (9 : Nat), (12 : Nat), (13 : Nat))]) yL_hash lv [vr o1, vi x2, vr o3] h 1 6 Q := by
  refine Ctr.ofH (lo := [some (vr o1), some (vi x2), some (vr o3), none]) hst (by decide) (by simp [ena, isL]) rfl ?_
  intro G hg hlim C
  unfold vc_L_hash at hv
  refine j_aload_n C dL_hash_0 rfl ?_
  refine j_iconst (v := (0 : Int32)) C dL_hash_1 (by decide) ?_
  refine j_aload_n C dL_hash_2 rfl ?_
  refine j_iload_n C dL_hash_3 rfl ?_
  obtain ⟨a1, e2, hv⟩ := hv
  obtain ⟨g5, hv⟩ := hv
  refine k_callV C 5 [vi x2] mv_L_69 e2 rfl (fun l D dA sz hl => s_X6_hash (by omega) hv l D dA sz hl) rfl rfl (by decide) g5 rfl (by omega) (Nat.le_of_ble_eq_true rfl) (hlim _ _ (by omega) (by omega)) dL_hash_4 (fun E h3 hq => ?_) (fun v h3 hq => ?_)
  · obtain ⟨rfl, hv⟩ := hq
    refine jx_catch C [] (⟨0, 9, 12, 13⟩ : ExceptionTableEntry) [] rfl (fun z hz => by cases hz) (by decide) (by decide) wg_205 wn_219 (fun qx => ?_)
    show J G Q 12 _ _ _ _ _
    refine j_astore_n (lo' := [some (vr o1), some (vi x2), some (vr o3), some (vr (some qx))]) C dL_hash_12 (Nat.le_of_ble_eq_true rfl) rfl ?_
    refine j_iconst (v := (1 : Int32)) C dL_hash_13 (by decide) ?_
    exact j_iret C dL_hash_14 (hlim _ _ (by omega) (by omega)) hv
  · obtain ⟨v4, rfl, hv⟩ := qi_inv hq
    refine j_i2l C dL_hash_7 ?_
    obtain ⟨a6, e7, hv⟩ := hv
    obtain ⟨g8, hv⟩ := hv
    obtain ⟨b9, hv⟩ := hv
    refine k_last (j := 0) C e7 g8 b9 (by decide) dL_hash_8 ?_
    refine j_goto (tgt := 15) C dL_hash_9 (by decide) ?_
    refine j_iconst (v := (0 : Int32)) C dL_hash_15 (by decide) ?_
    exact j_iret C dL_hash_16 (hlim _ _ (by omega) (by omega)) hv
def vc_L_same (o1 : Option Nat) (x2 : Int32) (x3 : Int32) (o4 : Option Nat) (h : Hp) (Q : Option AV ⊕ String → Hp → Prop) : Prop :=
    ∀ (P16 : Int64 → Int32 → Option Nat → Hp → Prop),
    (∀ (s0 : Int64) (w1 : Int32) (v2 : Option Nat) (h : Hp), (∃ a7 : Nat, v2 = some a7 ∧ tg h a7 = 9 ∧ vp_in w1 (ln h a7) ∧ Q (.inl (some (vi (0 : Int32)))) (qL h a7 w1.toNatClampNeg s0)) → P16 s0 w1 v2 h) →
    ∃ a1 : Nat, o1 = some a1 ∧ tg h a1 = 6 ∧ vc_X6_same a1 x2 x3 h (qi (fun v4 h3 => ((v4 = 0 → P16 (0 : Int64) (0 : Int32) o4 h3) ∧ (¬ v4 = 0 → P16 (1 : Int64) (0 : Int32) o4 h3))) (fun E h3 => (E = xA ∧ Q (.inl (some (vi (1 : Int32)))) h3)))
set_option maxRecDepth 20000 in
theorem s_L_same {o1 : Option Nat} {x2 : Int32} {x3 : Int32} {o4 : Option Nat} {h : Hp} {Q : Option AV ⊕ String → Hp → Prop} {lv : Nat} (hlv : lv + 9 ≤ 12) (hv : vc_L_same o1 x2 x3 o4 h Q) (l : Launch) (D : va_G) (dA : Nat → ClassId) (sz : Nat) (hst : l.stackTraces = false) : Ctr l D dA sz (Cond.codeWith yL_same cL_same 5 (some .int) [((0 : Nat), (17 : Nat), (20 : Nat), (13 : Nat))]) yL_same lv [vr o1, vi x2, vi x3, vr o4] h 2 12 Q := by
  refine Ctr.ofH (lo := [some (vr o1), some (vi x2), some (vi x3), some (vr o4), none]) hst (by decide) (by simp [ena, isL]) rfl ?_
  intro G hg hlim C
  unfold vc_L_same at hv
  have hv := hv (fun s0 w1 v2 h => J G Q 16 [none, none, none, none, none] [vl s0, vi w1, vr v2] h 2 12)
  have hv := hv (by
      intro s0 w1 v2 h hv
      obtain ⟨a7, e8, hv⟩ := hv
      obtain ⟨g9, hv⟩ := hv
      obtain ⟨b10, hv⟩ := hv
      refine k_last (j := w1.toNatClampNeg) C e8 g9 b10 rfl dL_same_16 ?_
      refine j_goto (tgt := 24) C dL_same_17 (by decide) ?_
      refine j_iconst (v := (0 : Int32)) C dL_same_24 (by decide) ?_
      exact j_iret C dL_same_25 (hlim _ _ (by omega) (by omega)) hv)
  refine j_aload_n C dL_same_0 rfl ?_
  refine j_iconst (v := (0 : Int32)) C dL_same_1 (by decide) ?_
  refine j_aload_n C dL_same_2 rfl ?_
  refine j_iload_n C dL_same_3 rfl ?_
  refine j_iload_n C dL_same_4 rfl ?_
  obtain ⟨a1, e2, hv⟩ := hv
  obtain ⟨g5, hv⟩ := hv
  refine k_callV C 5 [vi x2, vi x3] mv_L_72 e2 rfl (fun l D dA sz hl => s_X6_same (by omega) hv l D dA sz hl) rfl rfl (by decide) g5 rfl (by omega) (Nat.le_of_ble_eq_true rfl) (hlim _ _ (by omega) (by omega)) dL_same_5 (fun E h3 hq => ?_) (fun v h3 hq => ?_)
  · obtain ⟨rfl, hv⟩ := hq
    refine jx_catch C [] (⟨0, 17, 20, 13⟩ : ExceptionTableEntry) [] rfl (fun z hz => by cases hz) (by decide) (by decide) wg_205 wn_219 (fun qx => ?_)
    show J G Q 20 _ _ _ _ _
    refine j_astore (lo' := [some (vr o1), some (vi x2), some (vi x3), some (vr o4), some (vr (some qx))]) C dL_same_20 (Nat.le_of_ble_eq_true rfl) rfl ?_
    refine j_iconst (v := (1 : Int32)) C dL_same_22 (by decide) ?_
    exact j_iret C dL_same_23 (hlim _ _ (by omega) (by omega)) hv
  · obtain ⟨v4, rfl, hv⟩ := qi_inv hq
    refine j_if_eq (tgt := 15) C dL_same_8 (by decide) ⟨fun q6 => ?_, fun q6 => ?_⟩
    · have hv := hv.1 q6
      refine j_lconst (v := (0 : Int64)) C dL_same_15 (by decide) ?_
      exact j_sub (by exact trivial) hv
    · have hv := hv.2 q6
      refine j_lconst (v := (1 : Int64)) C dL_same_11 (by decide) ?_
      refine j_goto (tgt := 16) C dL_same_12 (by decide) ?_
      exact j_sub (by exact trivial) hv
def vc_L_open (o1 : Option Nat) (x2 : Int32) (o3 : Option Nat) (h : Hp) (Q : Option AV ⊕ String → Hp → Prop) : Prop :=
    ∃ a1 : Nat, o1 = some a1 ∧ tg h a1 = 6 ∧ vc_X6_open a1 x2 h (qi (fun v4 h3 => ∃ a6 : Nat, o3 = some a6 ∧ tg h3 a6 = 9 ∧ vp_in (0 : Int32) (ln h3 a6) ∧ Q (.inl (some (vi (0 : Int32)))) (qL h3 a6 0 v4.toInt64)) (fun E h3 => (E = xA ∧ Q (.inl (some (vi (1 : Int32)))) h3) ∨ (E = xS ∧ Q (.inl (some (vi (2 : Int32)))) h3)))
set_option maxRecDepth 20000 in
theorem s_L_open {o1 : Option Nat} {x2 : Int32} {o3 : Option Nat} {h : Hp} {Q : Option AV ⊕ String → Hp → Prop} {lv : Nat} (hlv : lv + 8 ≤ 12) (hv : vc_L_open o1 x2 o3 h Q) (l : Launch) (D : va_G) (dA : Nat → ClassId) (sz : Nat) (hst : l.stackTraces = false) : Ctr l D dA sz (Cond.codeWith yL_open cL_open 4 (some .int) [((0 : Nat), (9 : Nat), (12 : Nat), (13 : Nat)), ((0 : Nat), (9 : Nat), (15 : Nat), (27 : Nat))]) yL_open lv [vr o1, vi x2, vr o3] h 2 12 Q := by
  refine Ctr.ofH (lo := [some (vr o1), some (vi x2), some (vr o3), none]) hst (by decide) (by simp [ena, isL]) rfl ?_
  intro G hg hlim C
  unfold vc_L_open at hv
  refine j_aload_n C dL_open_0 rfl ?_
  refine j_iconst (v := (0 : Int32)) C dL_open_1 (by decide) ?_
  refine j_aload_n C dL_open_2 rfl ?_
  refine j_iload_n C dL_open_3 rfl ?_
  obtain ⟨a1, e2, hv⟩ := hv
  obtain ⟨g5, hv⟩ := hv
  refine k_callV C 5 [vi x2] mv_L_76 e2 rfl (fun l D dA sz hl => s_X6_open (by omega) hv l D dA sz hl) rfl rfl (by decide) g5 rfl (by omega) (Nat.le_of_ble_eq_true rfl) (hlim _ _ (by omega) (by omega)) dL_open_4 (fun E h3 hq => ?_) (fun v h3 hq => ?_)
  · rcases hq with ⟨rfl, hv⟩ | ⟨rfl, hv⟩
    · refine jx_catch C [] (⟨0, 9, 12, 13⟩ : ExceptionTableEntry) [(⟨0, 9, 15, 27⟩ : ExceptionTableEntry)] rfl (fun z hz => by cases hz) (by decide) (by decide) wg_205 wn_219 (fun qx => ?_)
      show J G Q 12 _ _ _ _ _
      refine j_astore_n (lo' := [some (vr o1), some (vi x2), some (vr o3), some (vr (some qx))]) C dL_open_12 (Nat.le_of_ble_eq_true rfl) rfl ?_
      refine j_iconst (v := (1 : Int32)) C dL_open_13 (by decide) ?_
      exact j_iret C dL_open_14 (hlim _ _ (by omega) (by omega)) hv
    · refine jx_catch C [(⟨0, 9, 12, 13⟩ : ExceptionTableEntry)] (⟨0, 9, 15, 27⟩ : ExceptionTableEntry) [] rfl (fun z hz => Or.inr (by rw [List.mem_singleton.mp hz]; exact ⟨by decide, xA, wg_205, by simp [ncs, xA, xS]⟩)) (by decide) (by decide) wg_396 wn_411 (fun qx => ?_)
      show J G Q 15 _ _ _ _ _
      refine j_astore_n (lo' := [some (vr o1), some (vi x2), some (vr o3), some (vr (some qx))]) C dL_open_15 (Nat.le_of_ble_eq_true rfl) rfl ?_
      refine j_iconst (v := (2 : Int32)) C dL_open_16 (by decide) ?_
      exact j_iret C dL_open_17 (hlim _ _ (by omega) (by omega)) hv
  · obtain ⟨v4, rfl, hv⟩ := qi_inv hq
    refine j_i2l C dL_open_7 ?_
    obtain ⟨a6, e7, hv⟩ := hv
    obtain ⟨g8, hv⟩ := hv
    obtain ⟨b9, hv⟩ := hv
    refine k_last (j := 0) C e7 g8 b9 (by decide) dL_open_8 ?_
    refine j_goto (tgt := 18) C dL_open_9 (by decide) ?_
    refine j_iconst (v := (0 : Int32)) C dL_open_18 (by decide) ?_
    exact j_iret C dL_open_19 (hlim _ _ (by omega) (by omega)) hv
def vc_L_close (o1 : Option Nat) (o2 : Option Nat) (h : Hp) (Q : Option AV ⊕ String → Hp → Prop) : Prop :=
    ∃ a1 : Nat, o1 = some a1 ∧ tg h a1 = 6 ∧ vc_X6_close a1 h (qi (fun v4 h3 => ∃ a6 : Nat, o2 = some a6 ∧ tg h3 a6 = 9 ∧ vp_in (0 : Int32) (ln h3 a6) ∧ Q (.inl (some (vi (0 : Int32)))) (qL h3 a6 0 v4.toInt64)) (fun E h3 => (E = xS ∧ Q (.inl (some (vi (1 : Int32)))) h3)))
set_option maxRecDepth 20000 in
theorem s_L_close {o1 : Option Nat} {o2 : Option Nat} {h : Hp} {Q : Option AV ⊕ String → Hp → Prop} {lv : Nat} (hlv : lv + 7 ≤ 12) (hv : vc_L_close o1 o2 h Q) (l : Launch) (D : va_G) (dA : Nat → ClassId) (sz : Nat) (hst : l.stackTraces = false) : Ctr l D dA sz (Cond.codeWith yL_close cL_close 3 (some .int) [((0 : Nat), (8 : Nat), (11 : Nat), (27 : Nat))]) yL_close lv [vr o1, vr o2] h 1 6 Q := by
  refine Ctr.ofH (lo := [some (vr o1), some (vr o2), none]) hst (by decide) (by simp [ena, isL]) rfl ?_
  intro G hg hlim C
  unfold vc_L_close at hv
  refine j_aload_n C dL_close_0 rfl ?_
  refine j_iconst (v := (0 : Int32)) C dL_close_1 (by decide) ?_
  refine j_aload_n C dL_close_2 rfl ?_
  obtain ⟨a1, e2, hv⟩ := hv
  obtain ⟨g5, hv⟩ := hv
  refine k_callV C 5 [] mv_L_79 e2 rfl (fun l D dA sz hl => s_X6_close (by omega) hv l D dA sz hl) rfl rfl (by decide) g5 rfl (by omega) (Nat.le_of_ble_eq_true rfl) (hlim _ _ (by omega) (by omega)) dL_close_3 (fun E h3 hq => ?_) (fun v h3 hq => ?_)
  · obtain ⟨rfl, hv⟩ := hq
    refine jx_catch C [] (⟨0, 8, 11, 27⟩ : ExceptionTableEntry) [] rfl (fun z hz => by cases hz) (by decide) (by decide) wg_396 wn_411 (fun qx => ?_)
    show J G Q 11 _ _ _ _ _
    refine j_astore_n (lo' := [some (vr o1), some (vr o2), some (vr (some qx))]) C dL_close_11 (Nat.le_of_ble_eq_true rfl) rfl ?_
    refine j_iconst (v := (1 : Int32)) C dL_close_12 (by decide) ?_
    exact j_iret C dL_close_13 (hlim _ _ (by omega) (by omega)) hv
  · obtain ⟨v4, rfl, hv⟩ := qi_inv hq
    refine j_i2l C dL_close_6 ?_
    obtain ⟨a6, e7, hv⟩ := hv
    obtain ⟨g8, hv⟩ := hv
    obtain ⟨b9, hv⟩ := hv
    refine k_last (j := 0) C e7 g8 b9 (by decide) dL_close_7 ?_
    refine j_goto (tgt := 14) C dL_close_8 (by decide) ?_
    refine j_iconst (v := (0 : Int32)) C dL_close_14 (by decide) ?_
    exact j_iret C dL_close_15 (hlim _ _ (by omega) (by omega)) hv
def vc_L_every (o1 : Option Nat) (x2 : Int32) (o3 : Option Nat) (h : Hp) (Q : Option AV ⊕ String → Hp → Prop) : Prop :=
    ∃ a1 : Nat, o1 = some a1 ∧ tg h a1 = 6 ∧ vc_X6_every a1 x2 h (qi (fun v4 h3 => ∃ a6 : Nat, o3 = some a6 ∧ tg h3 a6 = 9 ∧ vp_in (0 : Int32) (ln h3 a6) ∧ Q (.inl (some (vi (0 : Int32)))) (qL h3 a6 0 v4.toInt64)) (fun E h3 => (E = xA ∧ Q (.inl (some (vi (1 : Int32)))) h3)))
set_option maxRecDepth 20000 in
theorem s_L_every {o1 : Option Nat} {x2 : Int32} {o3 : Option Nat} {h : Hp} {Q : Option AV ⊕ String → Hp → Prop} {lv : Nat} (hlv : lv + 8 ≤ 12) (hv : vc_L_every o1 x2 o3 h Q) (l : Launch) (D : va_G) (dA : Nat → ClassId) (sz : Nat) (hst : l.stackTraces = false) : Ctr l D dA sz (Cond.codeWith yL_every cL_every 4 (some .int) [((0 : Nat), (9 : Nat), (12 : Nat), (13 : Nat))]) yL_every lv [vr o1, vi x2, vr o3] h 1 6 Q := by
  refine Ctr.ofH (lo := [some (vr o1), some (vi x2), some (vr o3), none]) hst (by decide) (by simp [ena, isL]) rfl ?_
  intro G hg hlim C
  unfold vc_L_every at hv
  refine j_aload_n C dL_every_0 rfl ?_
  refine j_iconst (v := (0 : Int32)) C dL_every_1 (by decide) ?_
  refine j_aload_n C dL_every_2 rfl ?_
  refine j_iload_n C dL_every_3 rfl ?_
  obtain ⟨a1, e2, hv⟩ := hv
  obtain ⟨g5, hv⟩ := hv
  refine k_callV C 5 [vi x2] mv_L_83 e2 rfl (fun l D dA sz hl => s_X6_every (by omega) hv l D dA sz hl) rfl rfl (by decide) g5 rfl (by omega) (Nat.le_of_ble_eq_true rfl) (hlim _ _ (by omega) (by omega)) dL_every_4 (fun E h3 hq => ?_) (fun v h3 hq => ?_)
  · obtain ⟨rfl, hv⟩ := hq
    refine jx_catch C [] (⟨0, 9, 12, 13⟩ : ExceptionTableEntry) [] rfl (fun z hz => by cases hz) (by decide) (by decide) wg_205 wn_219 (fun qx => ?_)
    show J G Q 12 _ _ _ _ _
    refine j_astore_n (lo' := [some (vr o1), some (vi x2), some (vr o3), some (vr (some qx))]) C dL_every_12 (Nat.le_of_ble_eq_true rfl) rfl ?_
    refine j_iconst (v := (1 : Int32)) C dL_every_13 (by decide) ?_
    exact j_iret C dL_every_14 (hlim _ _ (by omega) (by omega)) hv
  · obtain ⟨v4, rfl, hv⟩ := qi_inv hq
    refine j_i2l C dL_every_7 ?_
    obtain ⟨a6, e7, hv⟩ := hv
    obtain ⟨g8, hv⟩ := hv
    obtain ⟨b9, hv⟩ := hv
    refine k_last (j := 0) C e7 g8 b9 (by decide) dL_every_8 ?_
    refine j_goto (tgt := 15) C dL_every_9 (by decide) ?_
    refine j_iconst (v := (0 : Int32)) C dL_every_15 (by decide) ?_
    exact j_iret C dL_every_16 (hlim _ _ (by omega) (by omega)) hv
def vc_L_count (o1 : Option Nat) (x2 : Int32) (o3 : Option Nat) (h : Hp) (Q : Option AV ⊕ String → Hp → Prop) : Prop :=
    ∃ a1 : Nat, o1 = some a1 ∧ tg h a1 = 6 ∧ vc_X6_count a1 x2 h (qi (fun v4 h3 => ∃ a6 : Nat, o3 = some a6 ∧ tg h3 a6 = 9 ∧ vp_in (0 : Int32) (ln h3 a6) ∧ Q (.inl (some (vi (0 : Int32)))) (qL h3 a6 0 v4.toInt64)) (fun E h3 => (E = xA ∧ Q (.inl (some (vi (1 : Int32)))) h3)))
set_option maxRecDepth 20000 in
theorem s_L_count {o1 : Option Nat} {x2 : Int32} {o3 : Option Nat} {h : Hp} {Q : Option AV ⊕ String → Hp → Prop} {lv : Nat} (hlv : lv + 8 ≤ 12) (hv : vc_L_count o1 x2 o3 h Q) (l : Launch) (D : va_G) (dA : Nat → ClassId) (sz : Nat) (hst : l.stackTraces = false) : Ctr l D dA sz (Cond.codeWith yL_count cL_count 4 (some .int) [((0 : Nat), (9 : Nat), (12 : Nat), (13 : Nat))]) yL_count lv [vr o1, vi x2, vr o3] h 1 6 Q := by
  refine Ctr.ofH (lo := [some (vr o1), some (vi x2), some (vr o3), none]) hst (by decide) (by simp [ena, isL]) rfl ?_
  intro G hg hlim C
  unfold vc_L_count at hv
  refine j_aload_n C dL_count_0 rfl ?_
  refine j_iconst (v := (0 : Int32)) C dL_count_1 (by decide) ?_
  refine j_aload_n C dL_count_2 rfl ?_
  refine j_iload_n C dL_count_3 rfl ?_
  obtain ⟨a1, e2, hv⟩ := hv
  obtain ⟨g5, hv⟩ := hv
  refine k_callV C 5 [vi x2] mv_L_86 e2 rfl (fun l D dA sz hl => s_X6_count (by omega) hv l D dA sz hl) rfl rfl (by decide) g5 rfl (by omega) (Nat.le_of_ble_eq_true rfl) (hlim _ _ (by omega) (by omega)) dL_count_4 (fun E h3 hq => ?_) (fun v h3 hq => ?_)
  · obtain ⟨rfl, hv⟩ := hq
    refine jx_catch C [] (⟨0, 9, 12, 13⟩ : ExceptionTableEntry) [] rfl (fun z hz => by cases hz) (by decide) (by decide) wg_205 wn_219 (fun qx => ?_)
    show J G Q 12 _ _ _ _ _
    refine j_astore_n (lo' := [some (vr o1), some (vi x2), some (vr o3), some (vr (some qx))]) C dL_count_12 (Nat.le_of_ble_eq_true rfl) rfl ?_
    refine j_iconst (v := (1 : Int32)) C dL_count_13 (by decide) ?_
    exact j_iret C dL_count_14 (hlim _ _ (by omega) (by omega)) hv
  · obtain ⟨v4, rfl, hv⟩ := qi_inv hq
    refine j_i2l C dL_count_7 ?_
    obtain ⟨a6, e7, hv⟩ := hv
    obtain ⟨g8, hv⟩ := hv
    obtain ⟨b9, hv⟩ := hv
    refine k_last (j := 0) C e7 g8 b9 (by decide) dL_count_8 ?_
    refine j_goto (tgt := 15) C dL_count_9 (by decide) ?_
    refine j_iconst (v := (0 : Int32)) C dL_count_15 (by decide) ?_
    exact j_iret C dL_count_16 (hlim _ _ (by omega) (by omega)) hv
def vc_L_digest (o1 : Option Nat) (x2 : Int32) (o3 : Option Nat) (h : Hp) (Q : Option AV ⊕ String → Hp → Prop) : Prop :=
    ∃ a1 : Nat, o1 = some a1 ∧ tg h a1 = 6 ∧ vc_X6_digest a1 x2 h (ql (fun v4 h3 => ∃ a6 : Nat, o3 = some a6 ∧ tg h3 a6 = 9 ∧ vp_in (0 : Int32) (ln h3 a6) ∧ Q (.inl (some (vi (0 : Int32)))) (qL h3 a6 0 v4)) (fun E h3 => (E = xA ∧ Q (.inl (some (vi (1 : Int32)))) h3)))
set_option maxRecDepth 20000 in
theorem s_L_digest {o1 : Option Nat} {x2 : Int32} {o3 : Option Nat} {h : Hp} {Q : Option AV ⊕ String → Hp → Prop} {lv : Nat} (hlv : lv + 9 ≤ 12) (hv : vc_L_digest o1 x2 o3 h Q) (l : Launch) (D : va_G) (dA : Nat → ClassId) (sz : Nat) (hst : l.stackTraces = false) : Ctr l D dA sz (Cond.codeWith yL_digest cL_digest 4 (some .int) [((0 : Nat), (8 : Nat), (11 : Nat), (13 : Nat))]) yL_digest lv [vr o1, vi x2, vr o3] h 1 6 Q := by
  refine Ctr.ofH (lo := [some (vr o1), some (vi x2), some (vr o3), none]) hst (by decide) (by simp [ena, isL]) rfl ?_
  intro G hg hlim C
  unfold vc_L_digest at hv
  refine j_aload_n C dL_digest_0 rfl ?_
  refine j_iconst (v := (0 : Int32)) C dL_digest_1 (by decide) ?_
  refine j_aload_n C dL_digest_2 rfl ?_
  refine j_iload_n C dL_digest_3 rfl ?_
  obtain ⟨a1, e2, hv⟩ := hv
  obtain ⟨g5, hv⟩ := hv
  refine k_callV C 5 [vi x2] mv_L_89 e2 rfl (fun l D dA sz hl => s_X6_digest (by omega) hv l D dA sz hl) rfl rfl (by decide) g5 rfl (by omega) (Nat.le_of_ble_eq_true rfl) (hlim _ _ (by omega) (by omega)) dL_digest_4 (fun E h3 hq => ?_) (fun v h3 hq => ?_)
  · obtain ⟨rfl, hv⟩ := hq
    refine jx_catch C [] (⟨0, 8, 11, 13⟩ : ExceptionTableEntry) [] rfl (fun z hz => by cases hz) (by decide) (by decide) wg_205 wn_219 (fun qx => ?_)
    show J G Q 11 _ _ _ _ _
    refine j_astore_n (lo' := [some (vr o1), some (vi x2), some (vr o3), some (vr (some qx))]) C dL_digest_11 (Nat.le_of_ble_eq_true rfl) rfl ?_
    refine j_iconst (v := (1 : Int32)) C dL_digest_12 (by decide) ?_
    exact j_iret C dL_digest_13 (hlim _ _ (by omega) (by omega)) hv
  · obtain ⟨v4, rfl, hv⟩ := ql_inv hq
    obtain ⟨a6, e7, hv⟩ := hv
    obtain ⟨g8, hv⟩ := hv
    obtain ⟨b9, hv⟩ := hv
    refine k_last (j := 0) C e7 g8 b9 (by decide) dL_digest_7 ?_
    refine j_goto (tgt := 14) C dL_digest_8 (by decide) ?_
    refine j_iconst (v := (0 : Int32)) C dL_digest_14 (by decide) ?_
    exact j_iret C dL_digest_15 (hlim _ _ (by omega) (by omega)) hv
