theorem inX0 : ∀ w ∈ u_ws RX0 TX0 4, w ∈ BG := by
  intro w hw
  obtain ⟨k, hk, rfl⟩ := List.mem_map.mp hw
  have hk := List.mem_range.mp hk
  match k, hk with
  | 0, _ => exact wg_38
  | 1, _ => exact wg_40
  | 2, _ => exact wg_42
  | 3, _ => exact wg_44
  | _ + 4, h => exact absurd h (by omega)
theorem dfX0 : ∀ j, j < 4 → defaultValue (tyX0 j) = vp_V ((fl 0).map dfv) j := by decide +kernel
theorem inX1 : ∀ w ∈ u_ws RX1 TX1 10, w ∈ BG := by
  intro w hw
  obtain ⟨k, hk, rfl⟩ := List.mem_map.mp hw
  have hk := List.mem_range.mp hk
  match k, hk with
  | 0, _ => exact wg_328
  | 1, _ => exact wg_330
  | 2, _ => exact wg_332
  | 3, _ => exact wg_334
  | 4, _ => exact wg_336
  | 5, _ => exact wg_338
  | 6, _ => exact wg_340
  | 7, _ => exact wg_342
  | 8, _ => exact wg_324
  | 9, _ => exact wg_326
  | _ + 10, h => exact absurd h (by omega)
theorem dfX1 : ∀ j, j < 10 → defaultValue (tyX1 j) = vp_V ((fl 1).map dfv) j := by decide +kernel
theorem inX2 : ∀ w ∈ u_ws RX2 TX2 11, w ∈ BG := by
  intro w hw
  obtain ⟨k, hk, rfl⟩ := List.mem_map.mp hw
  have hk := List.mem_range.mp hk
  match k, hk with
  | 0, _ => exact wg_384
  | 1, _ => exact wg_385
  | 2, _ => exact wg_386
  | 3, _ => exact wg_387
  | 4, _ => exact wg_388
  | 5, _ => exact wg_389
  | 6, _ => exact wg_390
  | 7, _ => exact wg_391
  | 8, _ => exact wg_378
  | 9, _ => exact wg_380
  | 10, _ => exact wg_382
  | _ + 11, h => exact absurd h (by omega)
theorem dfX2 : ∀ j, j < 11 → defaultValue (tyX2 j) = vp_V ((fl 2).map dfv) j := by decide +kernel
theorem inX3 : ∀ w ∈ u_ws RX3 TX3 14, w ∈ BG := by
  intro w hw
  obtain ⟨k, hk, rfl⟩ := List.mem_map.mp hw
  have hk := List.mem_range.mp hk
  match k, hk with
  | 0, _ => exact wg_463
  | 1, _ => exact wg_464
  | 2, _ => exact wg_465
  | 3, _ => exact wg_466
  | 4, _ => exact wg_467
  | 5, _ => exact wg_468
  | 6, _ => exact wg_469
  | 7, _ => exact wg_470
  | 8, _ => exact wg_451
  | 9, _ => exact wg_453
  | 10, _ => exact wg_455
  | 11, _ => exact wg_457
  | 12, _ => exact wg_459
  | 13, _ => exact wg_461
  | _ + 14, h => exact absurd h (by omega)
theorem dfX3 : ∀ j, j < 14 → defaultValue (tyX3 j) = vp_V ((fl 3).map dfv) j := by decide +kernel
theorem inX5 : ∀ w ∈ u_ws RX5 TX5 4, w ∈ BG := by
  intro w hw
  obtain ⟨k, hk, rfl⟩ := List.mem_map.mp hw
  have hk := List.mem_range.mp hk
  match k, hk with
  | 0, _ => exact wg_59
  | 1, _ => exact wg_61
  | 2, _ => exact wg_63
  | 3, _ => exact wg_65
  | _ + 4, h => exact absurd h (by omega)
theorem dfX5 : ∀ j, j < 4 → defaultValue (tyX5 j) = vp_V ((fl 4).map dfv) j := by decide +kernel
theorem inX6 : ∀ w ∈ u_ws RX6 TX6 11, w ∈ BG := by
  intro w hw
  obtain ⟨k, hk, rfl⟩ := List.mem_map.mp hw
  have hk := List.mem_range.mp hk
  match k, hk with
  | 0, _ => exact wg_85
  | 1, _ => exact wg_87
  | 2, _ => exact wg_89
  | 3, _ => exact wg_91
  | 4, _ => exact wg_93
  | 5, _ => exact wg_95
  | 6, _ => exact wg_97
  | 7, _ => exact wg_99
  | 8, _ => exact wg_101
  | 9, _ => exact wg_103
  | 10, _ => exact wg_105
  | _ + 11, h => exact absurd h (by omega)
theorem dfX6 : ∀ j, j < 11 → defaultValue (tyX6 j) = vp_V ((fl 5).map dfv) j := by decide +kernel
theorem inX7 : ∀ w ∈ u_ws RX7 TX7 35, w ∈ BG := by
  intro w hw
  obtain ⟨k, hk, rfl⟩ := List.mem_map.mp hw
  have hk := List.mem_range.mp hk
  match k, hk with
  | 0, _ => exact wg_712
  | 1, _ => exact wg_714
  | 2, _ => exact wg_716
  | 3, _ => exact wg_718
  | 4, _ => exact wg_720
  | 5, _ => exact wg_722
  | 6, _ => exact wg_724
  | 7, _ => exact wg_726
  | 8, _ => exact wg_728
  | 9, _ => exact wg_730
  | 10, _ => exact wg_732
  | 11, _ => exact wg_734
  | 12, _ => exact wg_736
  | 13, _ => exact wg_738
  | 14, _ => exact wg_740
  | 15, _ => exact wg_742
  | 16, _ => exact wg_744
  | 17, _ => exact wg_746
  | 18, _ => exact wg_748
  | 19, _ => exact wg_750
  | 20, _ => exact wg_752
  | 21, _ => exact wg_754
  | 22, _ => exact wg_756
  | 23, _ => exact wg_758
  | 24, _ => exact wg_760
  | 25, _ => exact wg_762
  | 26, _ => exact wg_764
  | 27, _ => exact wg_766
  | 28, _ => exact wg_768
  | 29, _ => exact wg_770
  | 30, _ => exact wg_772
  | 31, _ => exact wg_774
  | 32, _ => exact wg_776
  | 33, _ => exact wg_778
  | 34, _ => exact wg_780
  | _ + 35, h => exact absurd h (by omega)
theorem dfX7 : ∀ j, j < 35 → defaultValue (tyX7 j) = vp_V ((fl 6).map dfv) j := by decide +kernel
theorem nr_i (x : Int32) : narrow .int (tv (vi x)) = tv (vi x) := rfl
theorem nr_z {x : Int32} (h : x = 0 ∨ x = 1) : narrow .boolean (tv (vi x)) = tv (vi x) := by rcases h with rfl | rfl <;> rfl
theorem ft_z {x : Int32} (h : x = 0 ∨ x = 1) : fits .boolean (tv (vi x)) = true := by rcases h with rfl | rfl <;> rfl
theorem nr_o {C : String} (o : Option Nat) : narrow (.object C) (tv (vr o)) = tv (vr o) := by cases o <;> rfl
theorem ft_o {C : String} (o : Option Nat) : fits (.object C) (tv (vr o)) = true := by cases o <;> rfl
theorem nr_a {t : FieldType} (o : Option Nat) : narrow (.array t) (tv (vr o)) = tv (vr o) := by cases o <;> rfl
theorem ft_a {t : FieldType} (o : Option Nat) : fits (.array t) (tv (vr o)) = true := by cases o <;> rfl
section SITES
variable {G : Cx} {cc : ByteArray} {nL : Nat} {nm : String} {rt : Option FieldType} {tb : List ExceptionTableEntry} {Q : Option AV ⊕ String → Hp → Prop} {pc : Nat} {lo : List (Option AV)} {st : List AV} {h : Hp} {k n : Nat}
theorem gf_X0_18 (C : OK G cc nL RX0 rt tb nm) {o : Option Nat} {a : Nat} (e : o = some a) (ht : tg h a = 1) (hd : decode cc pc = .ok (.getfield 18, 3)) (K : J G Q (pc + 3) lo (vr (fR h 19 a) :: st) h k n) : J G Q pc lo (vr o :: st) h k n := by
  subst e
  exact j_get C (ci := 0) (kk := 0) rfl inX0 (by decide) wg_31 (Or.inl rfl) rfl (by decide) ht hd K
theorem pf_X0_18 (C : OK G cc nL RX0 rt tb nm) {o : Option Nat} {a : Nat} {x : Option Nat} (e : o = some a) (ht : tg h a = 1) (hd : decode cc pc = .ok (.putfield 18, 3)) (K : J G Q (pc + 3) lo st (pR h 19 a x) k n) : J G Q pc lo (vr x :: vr o :: st) h k n := by
  subst e
  exact j_put C (ci := 0) (kk := 0) (v := vr x) rfl inX0 (by decide) wg_31 (Or.inl rfl) tyX0_ok nmX0 (Or.inl rfl) (nr_o x) (ft_o x) rfl rfl (by decide) ht hd K
theorem gf_X6_272 (C : OK G cc nL RX6 rt tb nm) {o : Option Nat} {a : Nat} (e : o = some a) (ht : tg h a = 1) (hd : decode cc pc = .ok (.getfield 272, 3)) (K : J G Q (pc + 3) lo (vr (fR h 19 a) :: st) h k n) : J G Q pc lo (vr o :: st) h k n := by
  subst e
  exact j_get C (ci := 0) (kk := 0) rfl inX0 (by decide) wg_32 (Or.inl rfl) rfl (by decide) ht hd K
theorem pf_X6_272 (C : OK G cc nL RX6 rt tb nm) {o : Option Nat} {a : Nat} {x : Option Nat} (e : o = some a) (ht : tg h a = 1) (hd : decode cc pc = .ok (.putfield 272, 3)) (K : J G Q (pc + 3) lo st (pR h 19 a x) k n) : J G Q pc lo (vr x :: vr o :: st) h k n := by
  subst e
  exact j_put C (ci := 0) (kk := 0) (v := vr x) rfl inX0 (by decide) wg_32 (Or.inl rfl) tyX0_ok nmX0 (Or.inl rfl) (nr_o x) (ft_o x) rfl rfl (by decide) ht hd K
theorem gf_X0_13 (C : OK G cc nL RX0 rt tb nm) {o : Option Nat} {a : Nat} (e : o = some a) (ht : tg h a = 1) (hd : decode cc pc = .ok (.getfield 13, 3)) (K : J G Q (pc + 3) lo (vr (fR h 20 a) :: st) h k n) : J G Q pc lo (vr o :: st) h k n := by
  subst e
  exact j_get C (ci := 0) (kk := 1) rfl inX0 (by decide) wg_33 (Or.inl rfl) rfl (by decide) ht hd K
theorem pf_X0_13 (C : OK G cc nL RX0 rt tb nm) {o : Option Nat} {a : Nat} {x : Option Nat} (e : o = some a) (ht : tg h a = 1) (hd : decode cc pc = .ok (.putfield 13, 3)) (K : J G Q (pc + 3) lo st (pR h 20 a x) k n) : J G Q pc lo (vr x :: vr o :: st) h k n := by
  subst e
  exact j_put C (ci := 0) (kk := 1) (v := vr x) rfl inX0 (by decide) wg_33 (Or.inl rfl) tyX0_ok nmX0 (Or.inl rfl) (nr_o x) (ft_o x) rfl rfl (by decide) ht hd K
theorem gf_X0_21 (C : OK G cc nL RX0 rt tb nm) {o : Option Nat} {a : Nat} (e : o = some a) (ht : tg h a = 1) (hd : decode cc pc = .ok (.getfield 21, 3)) (K : J G Q (pc + 3) lo (vi (fI h 21 a) :: st) h k n) : J G Q pc lo (vr o :: st) h k n := by
  subst e
  exact j_get C (ci := 0) (kk := 2) rfl inX0 (by decide) wg_34 (Or.inl rfl) rfl (by decide) ht hd K
theorem pf_X0_21 (C : OK G cc nL RX0 rt tb nm) {o : Option Nat} {a : Nat} {x : Int32} (e : o = some a) (ht : tg h a = 1) (hd : decode cc pc = .ok (.putfield 21, 3)) (K : J G Q (pc + 3) lo st (pI h 21 a x) k n) : J G Q pc lo (vi x :: vr o :: st) h k n := by
  subst e
  exact j_put C (ci := 0) (kk := 2) (v := vi x) rfl inX0 (by decide) wg_34 (Or.inl rfl) tyX0_ok nmX0 (Or.inl rfl) rfl rfl rfl rfl (by decide) ht hd K
theorem gf_X6_287 (C : OK G cc nL RX6 rt tb nm) {o : Option Nat} {a : Nat} (e : o = some a) (ht : tg h a = 1) (hd : decode cc pc = .ok (.getfield 287, 3)) (K : J G Q (pc + 3) lo (vi (fI h 21 a) :: st) h k n) : J G Q pc lo (vr o :: st) h k n := by
  subst e
  exact j_get C (ci := 0) (kk := 2) rfl inX0 (by decide) wg_35 (Or.inl rfl) rfl (by decide) ht hd K
theorem pf_X6_287 (C : OK G cc nL RX6 rt tb nm) {o : Option Nat} {a : Nat} {x : Int32} (e : o = some a) (ht : tg h a = 1) (hd : decode cc pc = .ok (.putfield 287, 3)) (K : J G Q (pc + 3) lo st (pI h 21 a x) k n) : J G Q pc lo (vi x :: vr o :: st) h k n := by
  subst e
  exact j_put C (ci := 0) (kk := 2) (v := vi x) rfl inX0 (by decide) wg_35 (Or.inl rfl) tyX0_ok nmX0 (Or.inl rfl) rfl rfl rfl rfl (by decide) ht hd K
theorem gf_X0_25 (C : OK G cc nL RX0 rt tb nm) {o : Option Nat} {a : Nat} (e : o = some a) (ht : tg h a = 1) (hd : decode cc pc = .ok (.getfield 25, 3)) (K : J G Q (pc + 3) lo (vi (fI h 22 a) :: st) h k n) : J G Q pc lo (vr o :: st) h k n := by
  subst e
  exact j_get C (ci := 0) (kk := 3) rfl inX0 (by decide) wg_36 (Or.inl rfl) rfl (by decide) ht hd K
theorem pf_X0_25 (C : OK G cc nL RX0 rt tb nm) {o : Option Nat} {a : Nat} {x : Int32} (e : o = some a) (ht : tg h a = 1) (hd : decode cc pc = .ok (.putfield 25, 3)) (K : J G Q (pc + 3) lo st (pI h 22 a x) k n) : J G Q pc lo (vi x :: vr o :: st) h k n := by
  subst e
  exact j_put C (ci := 0) (kk := 3) (v := vi x) rfl inX0 (by decide) wg_36 (Or.inl rfl) tyX0_ok nmX0 (Or.inl rfl) rfl rfl rfl rfl (by decide) ht hd K
theorem gf_X6_248 (C : OK G cc nL RX6 rt tb nm) {o : Option Nat} {a : Nat} (e : o = some a) (ht : tg h a = 1) (hd : decode cc pc = .ok (.getfield 248, 3)) (K : J G Q (pc + 3) lo (vi (fI h 22 a) :: st) h k n) : J G Q pc lo (vr o :: st) h k n := by
  subst e
  exact j_get C (ci := 0) (kk := 3) rfl inX0 (by decide) wg_37 (Or.inl rfl) rfl (by decide) ht hd K
theorem pf_X6_248 (C : OK G cc nL RX6 rt tb nm) {o : Option Nat} {a : Nat} {x : Int32} (e : o = some a) (ht : tg h a = 1) (hd : decode cc pc = .ok (.putfield 248, 3)) (K : J G Q (pc + 3) lo st (pI h 22 a x) k n) : J G Q pc lo (vi x :: vr o :: st) h k n := by
  subst e
  exact j_put C (ci := 0) (kk := 3) (v := vi x) rfl inX0 (by decide) wg_37 (Or.inl rfl) tyX0_ok nmX0 (Or.inl rfl) rfl rfl rfl rfl (by decide) ht hd K
theorem gf_X5_7 (C : OK G cc nL RX5 rt tb nm) {o : Option Nat} {a : Nat} (e : o = some a) (ht : tg h a = 5) (hd : decode cc pc = .ok (.getfield 7, 3)) (K : J G Q (pc + 3) lo (vr (fR h 23 a) :: st) h k n) : J G Q pc lo (vr o :: st) h k n := by
  subst e
  exact j_get C (ci := 4) (kk := 0) rfl inX5 (by decide) wg_54 (Or.inl rfl) rfl (by decide) ht hd K
theorem pf_X5_7 (C : OK G cc nL RX5 rt tb nm) {o : Option Nat} {a : Nat} {x : Option Nat} (e : o = some a) (ht : tg h a = 5) (hd : decode cc pc = .ok (.putfield 7, 3)) (K : J G Q (pc + 3) lo st (pR h 23 a x) k n) : J G Q pc lo (vr x :: vr o :: st) h k n := by
  subst e
  exact j_put C (ci := 4) (kk := 0) (v := vr x) rfl inX5 (by decide) wg_54 (Or.inl rfl) tyX5_ok nmX5 (Or.inl rfl) (nr_o x) (ft_o x) rfl rfl (by decide) ht hd K
theorem gf_X6_191 (C : OK G cc nL RX6 rt tb nm) {o : Option Nat} {a : Nat} (e : o = some a) (ht : tg h a = 5) (hd : decode cc pc = .ok (.getfield 191, 3)) (K : J G Q (pc + 3) lo (vr (fR h 23 a) :: st) h k n) : J G Q pc lo (vr o :: st) h k n := by
  subst e
  exact j_get C (ci := 4) (kk := 0) rfl inX5 (by decide) wg_55 (Or.inl rfl) rfl (by decide) ht hd K
theorem pf_X6_191 (C : OK G cc nL RX6 rt tb nm) {o : Option Nat} {a : Nat} {x : Option Nat} (e : o = some a) (ht : tg h a = 5) (hd : decode cc pc = .ok (.putfield 191, 3)) (K : J G Q (pc + 3) lo st (pR h 23 a x) k n) : J G Q pc lo (vr x :: vr o :: st) h k n := by
  subst e
  exact j_put C (ci := 4) (kk := 0) (v := vr x) rfl inX5 (by decide) wg_55 (Or.inl rfl) tyX5_ok nmX5 (Or.inl rfl) (nr_o x) (ft_o x) rfl rfl (by decide) ht hd K
theorem gf_X5_13 (C : OK G cc nL RX5 rt tb nm) {o : Option Nat} {a : Nat} (e : o = some a) (ht : tg h a = 5) (hd : decode cc pc = .ok (.getfield 13, 3)) (K : J G Q (pc + 3) lo (vr (fR h 24 a) :: st) h k n) : J G Q pc lo (vr o :: st) h k n := by
  subst e
  exact j_get C (ci := 4) (kk := 1) rfl inX5 (by decide) wg_56 (Or.inl rfl) rfl (by decide) ht hd K
theorem pf_X5_13 (C : OK G cc nL RX5 rt tb nm) {o : Option Nat} {a : Nat} {x : Option Nat} (e : o = some a) (ht : tg h a = 5) (hd : decode cc pc = .ok (.putfield 13, 3)) (K : J G Q (pc + 3) lo st (pR h 24 a x) k n) : J G Q pc lo (vr x :: vr o :: st) h k n := by
  subst e
  exact j_put C (ci := 4) (kk := 1) (v := vr x) rfl inX5 (by decide) wg_56 (Or.inl rfl) tyX5_ok nmX5 (Or.inl rfl) (nr_o x) (ft_o x) rfl rfl (by decide) ht hd K
theorem gf_X5_16 (C : OK G cc nL RX5 rt tb nm) {o : Option Nat} {a : Nat} (e : o = some a) (ht : tg h a = 5) (hd : decode cc pc = .ok (.getfield 16, 3)) (K : J G Q (pc + 3) lo (vi (fI h 25 a) :: st) h k n) : J G Q pc lo (vr o :: st) h k n := by
  subst e
  exact j_get C (ci := 4) (kk := 2) rfl inX5 (by decide) wg_57 (Or.inl rfl) rfl (by decide) ht hd K
theorem pf_X5_16 (C : OK G cc nL RX5 rt tb nm) {o : Option Nat} {a : Nat} {x : Int32} (e : o = some a) (ht : tg h a = 5) (hd : decode cc pc = .ok (.putfield 16, 3)) (K : J G Q (pc + 3) lo st (pI h 25 a x) k n) : J G Q pc lo (vi x :: vr o :: st) h k n := by
  subst e
  exact j_put C (ci := 4) (kk := 2) (v := vi x) rfl inX5 (by decide) wg_57 (Or.inl rfl) tyX5_ok nmX5 (Or.inl rfl) rfl rfl rfl rfl (by decide) ht hd K
theorem gf_X5_20 (C : OK G cc nL RX5 rt tb nm) {o : Option Nat} {a : Nat} (e : o = some a) (ht : tg h a = 5) (hd : decode cc pc = .ok (.getfield 20, 3)) (K : J G Q (pc + 3) lo (vi (fI h 26 a) :: st) h k n) : J G Q pc lo (vr o :: st) h k n := by
  subst e
  exact j_get C (ci := 4) (kk := 3) rfl inX5 (by decide) wg_58 (Or.inl rfl) rfl (by decide) ht hd K
theorem pf_X5_20 (C : OK G cc nL RX5 rt tb nm) {o : Option Nat} {a : Nat} {x : Int32} (e : o = some a) (ht : tg h a = 5) (hd : decode cc pc = .ok (.putfield 20, 3)) (K : J G Q (pc + 3) lo st (pI h 26 a x) k n) : J G Q pc lo (vi x :: vr o :: st) h k n := by
  subst e
  exact j_put C (ci := 4) (kk := 3) (v := vi x) rfl inX5 (by decide) wg_58 (Or.inl rfl) tyX5_ok nmX5 (Or.inl rfl) rfl rfl rfl rfl (by decide) ht hd K
theorem gf_X6_48 (C : OK G cc nL RX6 rt tb nm) {o : Option Nat} {a : Nat} (e : o = some a) (ht : tg h a = 6) (hd : decode cc pc = .ok (.getfield 48, 3)) (K : J G Q (pc + 3) lo (vi (fI h 27 a) :: st) h k n) : J G Q pc lo (vr o :: st) h k n := by
  subst e
  exact j_get C (ci := 5) (kk := 0) rfl inX6 (by decide) wg_74 (Or.inl rfl) rfl (by decide) ht hd K
theorem pf_X6_48 (C : OK G cc nL RX6 rt tb nm) {o : Option Nat} {a : Nat} {x : Int32} (hnm : nm = "<init>") (e : o = some a) (ht : tg h a = 6) (hd : decode cc pc = .ok (.putfield 48, 3)) (K : J G Q (pc + 3) lo st (pI h 27 a x) k n) : J G Q pc lo (vi x :: vr o :: st) h k n := by
  subst e
  exact j_put C (ci := 5) (kk := 0) (v := vi x) rfl inX6 (by decide) wg_74 (Or.inl rfl) tyX6_ok nmX6 (Or.inr ⟨rfl, hnm, rfl⟩) rfl rfl rfl rfl (by decide) ht hd K
theorem gf_X6_52 (C : OK G cc nL RX6 rt tb nm) {o : Option Nat} {a : Nat} (e : o = some a) (ht : tg h a = 6) (hd : decode cc pc = .ok (.getfield 52, 3)) (K : J G Q (pc + 3) lo (vi (fI h 28 a) :: st) h k n) : J G Q pc lo (vr o :: st) h k n := by
  subst e
  exact j_get C (ci := 5) (kk := 1) rfl inX6 (by decide) wg_75 (Or.inl rfl) rfl (by decide) ht hd K
theorem pf_X6_52 (C : OK G cc nL RX6 rt tb nm) {o : Option Nat} {a : Nat} {x : Int32} (hnm : nm = "<init>") (e : o = some a) (ht : tg h a = 6) (hd : decode cc pc = .ok (.putfield 52, 3)) (K : J G Q (pc + 3) lo st (pI h 28 a x) k n) : J G Q pc lo (vi x :: vr o :: st) h k n := by
  subst e
  exact j_put C (ci := 5) (kk := 1) (v := vi x) rfl inX6 (by decide) wg_75 (Or.inl rfl) tyX6_ok nmX6 (Or.inr ⟨rfl, hnm, rfl⟩) rfl rfl rfl rfl (by decide) ht hd K
theorem gf_X6_11 (C : OK G cc nL RX6 rt tb nm) {o : Option Nat} {a : Nat} (e : o = some a) (ht : tg h a = 6) (hd : decode cc pc = .ok (.getfield 11, 3)) (K : J G Q (pc + 3) lo (vr (fR h 29 a) :: st) h k n) : J G Q pc lo (vr o :: st) h k n := by
  subst e
  exact j_get C (ci := 5) (kk := 2) rfl inX6 (by decide) wg_76 (Or.inl rfl) rfl (by decide) ht hd K
theorem pf_X6_11 (C : OK G cc nL RX6 rt tb nm) {o : Option Nat} {a : Nat} {x : Option Nat} (hnm : nm = "<init>") (e : o = some a) (ht : tg h a = 6) (hd : decode cc pc = .ok (.putfield 11, 3)) (K : J G Q (pc + 3) lo st (pR h 29 a x) k n) : J G Q pc lo (vr x :: vr o :: st) h k n := by
  subst e
  exact j_put C (ci := 5) (kk := 2) (v := vr x) rfl inX6 (by decide) wg_76 (Or.inl rfl) tyX6_ok nmX6 (Or.inr ⟨rfl, hnm, rfl⟩) (nr_a x) (ft_a x) rfl rfl (by decide) ht hd K
theorem gf_X6_15 (C : OK G cc nL RX6 rt tb nm) {o : Option Nat} {a : Nat} (e : o = some a) (ht : tg h a = 6) (hd : decode cc pc = .ok (.getfield 15, 3)) (K : J G Q (pc + 3) lo (vr (fR h 30 a) :: st) h k n) : J G Q pc lo (vr o :: st) h k n := by
  subst e
  exact j_get C (ci := 5) (kk := 3) rfl inX6 (by decide) wg_77 (Or.inl rfl) rfl (by decide) ht hd K
theorem pf_X6_15 (C : OK G cc nL RX6 rt tb nm) {o : Option Nat} {a : Nat} {x : Option Nat} (hnm : nm = "<init>") (e : o = some a) (ht : tg h a = 6) (hd : decode cc pc = .ok (.putfield 15, 3)) (K : J G Q (pc + 3) lo st (pR h 30 a x) k n) : J G Q pc lo (vr x :: vr o :: st) h k n := by
  subst e
  exact j_put C (ci := 5) (kk := 3) (v := vr x) rfl inX6 (by decide) wg_77 (Or.inl rfl) tyX6_ok nmX6 (Or.inr ⟨rfl, hnm, rfl⟩) (nr_a x) (ft_a x) rfl rfl (by decide) ht hd K
theorem gf_X6_19 (C : OK G cc nL RX6 rt tb nm) {o : Option Nat} {a : Nat} (e : o = some a) (ht : tg h a = 6) (hd : decode cc pc = .ok (.getfield 19, 3)) (K : J G Q (pc + 3) lo (vr (fR h 31 a) :: st) h k n) : J G Q pc lo (vr o :: st) h k n := by
  subst e
  exact j_get C (ci := 5) (kk := 4) rfl inX6 (by decide) wg_78 (Or.inl rfl) rfl (by decide) ht hd K
theorem pf_X6_19 (C : OK G cc nL RX6 rt tb nm) {o : Option Nat} {a : Nat} {x : Option Nat} (hnm : nm = "<init>") (e : o = some a) (ht : tg h a = 6) (hd : decode cc pc = .ok (.putfield 19, 3)) (K : J G Q (pc + 3) lo st (pR h 31 a x) k n) : J G Q pc lo (vr x :: vr o :: st) h k n := by
  subst e
  exact j_put C (ci := 5) (kk := 4) (v := vr x) rfl inX6 (by decide) wg_78 (Or.inl rfl) tyX6_ok nmX6 (Or.inr ⟨rfl, hnm, rfl⟩) (nr_a x) (ft_a x) rfl rfl (by decide) ht hd K
theorem gf_X6_25 (C : OK G cc nL RX6 rt tb nm) {o : Option Nat} {a : Nat} (e : o = some a) (ht : tg h a = 6) (hd : decode cc pc = .ok (.getfield 25, 3)) (K : J G Q (pc + 3) lo (vr (fR h 32 a) :: st) h k n) : J G Q pc lo (vr o :: st) h k n := by
  subst e
  exact j_get C (ci := 5) (kk := 5) rfl inX6 (by decide) wg_79 (Or.inl rfl) rfl (by decide) ht hd K
theorem pf_X6_25 (C : OK G cc nL RX6 rt tb nm) {o : Option Nat} {a : Nat} {x : Option Nat} (hnm : nm = "<init>") (e : o = some a) (ht : tg h a = 6) (hd : decode cc pc = .ok (.putfield 25, 3)) (K : J G Q (pc + 3) lo st (pR h 32 a x) k n) : J G Q pc lo (vr x :: vr o :: st) h k n := by
  subst e
  exact j_put C (ci := 5) (kk := 5) (v := vr x) rfl inX6 (by decide) wg_79 (Or.inl rfl) tyX6_ok nmX6 (Or.inr ⟨rfl, hnm, rfl⟩) (nr_o x) (ft_o x) rfl rfl (by decide) ht hd K
theorem gf_X6_29 (C : OK G cc nL RX6 rt tb nm) {o : Option Nat} {a : Nat} (e : o = some a) (ht : tg h a = 6) (hd : decode cc pc = .ok (.getfield 29, 3)) (K : J G Q (pc + 3) lo (vr (fR h 33 a) :: st) h k n) : J G Q pc lo (vr o :: st) h k n := by
  subst e
  exact j_get C (ci := 5) (kk := 6) rfl inX6 (by decide) wg_80 (Or.inl rfl) rfl (by decide) ht hd K
theorem pf_X6_29 (C : OK G cc nL RX6 rt tb nm) {o : Option Nat} {a : Nat} {x : Option Nat} (hnm : nm = "<init>") (e : o = some a) (ht : tg h a = 6) (hd : decode cc pc = .ok (.putfield 29, 3)) (K : J G Q (pc + 3) lo st (pR h 33 a x) k n) : J G Q pc lo (vr x :: vr o :: st) h k n := by
  subst e
  exact j_put C (ci := 5) (kk := 6) (v := vr x) rfl inX6 (by decide) wg_80 (Or.inl rfl) tyX6_ok nmX6 (Or.inr ⟨rfl, hnm, rfl⟩) (nr_o x) (ft_o x) rfl rfl (by decide) ht hd K
theorem gf_X6_35 (C : OK G cc nL RX6 rt tb nm) {o : Option Nat} {a : Nat} (e : o = some a) (ht : tg h a = 6) (hd : decode cc pc = .ok (.getfield 35, 3)) (K : J G Q (pc + 3) lo (vr (fR h 34 a) :: st) h k n) : J G Q pc lo (vr o :: st) h k n := by
  subst e
  exact j_get C (ci := 5) (kk := 7) rfl inX6 (by decide) wg_81 (Or.inl rfl) rfl (by decide) ht hd K
theorem pf_X6_35 (C : OK G cc nL RX6 rt tb nm) {o : Option Nat} {a : Nat} {x : Option Nat} (hnm : nm = "<init>") (e : o = some a) (ht : tg h a = 6) (hd : decode cc pc = .ok (.putfield 35, 3)) (K : J G Q (pc + 3) lo st (pR h 34 a x) k n) : J G Q pc lo (vr x :: vr o :: st) h k n := by
  subst e
  exact j_put C (ci := 5) (kk := 7) (v := vr x) rfl inX6 (by decide) wg_81 (Or.inl rfl) tyX6_ok nmX6 (Or.inr ⟨rfl, hnm, rfl⟩) (nr_o x) (ft_o x) rfl rfl (by decide) ht hd K
theorem gf_X6_160 (C : OK G cc nL RX6 rt tb nm) {o : Option Nat} {a : Nat} (e : o = some a) (ht : tg h a = 6) (hd : decode cc pc = .ok (.getfield 160, 3)) (K : J G Q (pc + 3) lo (vi (fI h 35 a) :: st) h k n) : J G Q pc lo (vr o :: st) h k n := by
  subst e
  exact j_get C (ci := 5) (kk := 8) rfl inX6 (by decide) wg_82 (Or.inl rfl) rfl (by decide) ht hd K
theorem pf_X6_160 (C : OK G cc nL RX6 rt tb nm) {o : Option Nat} {a : Nat} {x : Int32} (e : o = some a) (ht : tg h a = 6) (hd : decode cc pc = .ok (.putfield 160, 3)) (K : J G Q (pc + 3) lo st (pI h 35 a x) k n) : J G Q pc lo (vi x :: vr o :: st) h k n := by
  subst e
  exact j_put C (ci := 5) (kk := 8) (v := vi x) rfl inX6 (by decide) wg_82 (Or.inl rfl) tyX6_ok nmX6 (Or.inl rfl) rfl rfl rfl rfl (by decide) ht hd K
theorem gf_X6_176 (C : OK G cc nL RX6 rt tb nm) {o : Option Nat} {a : Nat} (e : o = some a) (ht : tg h a = 6) (hd : decode cc pc = .ok (.getfield 176, 3)) (K : J G Q (pc + 3) lo (vi (fI h 36 a) :: st) h k n) : J G Q pc lo (vr o :: st) h k n := by
  subst e
  exact j_get C (ci := 5) (kk := 9) rfl inX6 (by decide) wg_83 (Or.inl rfl) rfl (by decide) ht hd K
theorem pf_X6_176 (C : OK G cc nL RX6 rt tb nm) {o : Option Nat} {a : Nat} {x : Int32} (e : o = some a) (ht : tg h a = 6) (hd : decode cc pc = .ok (.putfield 176, 3)) (K : J G Q (pc + 3) lo st (pI h 36 a x) k n) : J G Q pc lo (vi x :: vr o :: st) h k n := by
  subst e
  exact j_put C (ci := 5) (kk := 9) (v := vi x) rfl inX6 (by decide) wg_83 (Or.inl rfl) tyX6_ok nmX6 (Or.inl rfl) rfl rfl rfl rfl (by decide) ht hd K
theorem gf_X6_179 (C : OK G cc nL RX6 rt tb nm) {o : Option Nat} {a : Nat} (e : o = some a) (ht : tg h a = 6) (hd : decode cc pc = .ok (.getfield 179, 3)) (K : J G Q (pc + 3) lo (vi (fI h 37 a) :: st) h k n) : J G Q pc lo (vr o :: st) h k n := by
  subst e
  exact j_get C (ci := 5) (kk := 10) rfl inX6 (by decide) wg_84 (Or.inl rfl) rfl (by decide) ht hd K
theorem pf_X6_179 (C : OK G cc nL RX6 rt tb nm) {o : Option Nat} {a : Nat} {x : Int32} (e : o = some a) (ht : tg h a = 6) (hd : decode cc pc = .ok (.putfield 179, 3)) (K : J G Q (pc + 3) lo st (pI h 37 a x) k n) : J G Q pc lo (vi x :: vr o :: st) h k n := by
  subst e
  exact j_put C (ci := 5) (kk := 10) (v := vi x) rfl inX6 (by decide) wg_84 (Or.inl rfl) tyX6_ok nmX6 (Or.inl rfl) rfl rfl rfl rfl (by decide) ht hd K
theorem gf_X1_7 (C : OK G cc nL RX1 rt tb nm) {o : Option Nat} {a : Nat} (e : o = some a) (ht : tg h a = 2) (hd : decode cc pc = .ok (.getfield 7, 3)) (K : J G Q (pc + 3) lo (vr (fR h 8 a) :: st) h k n) : J G Q pc lo (vr o :: st) h k n := by
  subst e
  exact j_get C (ci := 1) (kk := 8) rfl inX1 (by decide) wg_302 (Or.inl rfl) rfl (by decide) ht hd K
theorem pf_X1_7 (C : OK G cc nL RX1 rt tb nm) {o : Option Nat} {a : Nat} {x : Option Nat} (hnm : nm = "<init>") (e : o = some a) (ht : tg h a = 2) (hd : decode cc pc = .ok (.putfield 7, 3)) (K : J G Q (pc + 3) lo st (pR h 8 a x) k n) : J G Q pc lo (vr x :: vr o :: st) h k n := by
  subst e
  exact j_put C (ci := 1) (kk := 8) (v := vr x) rfl inX1 (by decide) wg_302 (Or.inl rfl) tyX1_ok nmX1 (Or.inr ⟨rfl, hnm, rfl⟩) (nr_a x) (ft_a x) rfl rfl (by decide) ht hd K
theorem gf_X6_108 (C : OK G cc nL RX6 rt tb nm) {o : Option Nat} {a : Nat} (e : o = some a) (ht : tg h a = 2) (hd : decode cc pc = .ok (.getfield 108, 3)) (K : J G Q (pc + 3) lo (vr (fR h 8 a) :: st) h k n) : J G Q pc lo (vr o :: st) h k n := by
  subst e
  exact j_get C (ci := 1) (kk := 8) rfl inX1 (by decide) wg_303 (Or.inl rfl) rfl (by decide) ht hd K
theorem gf_X1_13 (C : OK G cc nL RX1 rt tb nm) {o : Option Nat} {a : Nat} (e : o = some a) (ht : tg h a = 2) (hd : decode cc pc = .ok (.getfield 13, 3)) (K : J G Q (pc + 3) lo (vr (fR h 9 a) :: st) h k n) : J G Q pc lo (vr o :: st) h k n := by
  subst e
  exact j_get C (ci := 1) (kk := 9) rfl inX1 (by decide) wg_304 (Or.inl rfl) rfl (by decide) ht hd K
theorem pf_X1_13 (C : OK G cc nL RX1 rt tb nm) {o : Option Nat} {a : Nat} {x : Option Nat} (hnm : nm = "<init>") (e : o = some a) (ht : tg h a = 2) (hd : decode cc pc = .ok (.putfield 13, 3)) (K : J G Q (pc + 3) lo st (pR h 9 a x) k n) : J G Q pc lo (vr x :: vr o :: st) h k n := by
  subst e
  exact j_put C (ci := 1) (kk := 9) (v := vr x) rfl inX1 (by decide) wg_304 (Or.inl rfl) tyX1_ok nmX1 (Or.inr ⟨rfl, hnm, rfl⟩) (nr_a x) (ft_a x) rfl rfl (by decide) ht hd K
theorem gf_X6_118 (C : OK G cc nL RX6 rt tb nm) {o : Option Nat} {a : Nat} (e : o = some a) (ht : tg h a = 2) (hd : decode cc pc = .ok (.getfield 118, 3)) (K : J G Q (pc + 3) lo (vr (fR h 9 a) :: st) h k n) : J G Q pc lo (vr o :: st) h k n := by
  subst e
  exact j_get C (ci := 1) (kk := 9) rfl inX1 (by decide) wg_305 (Or.inl rfl) rfl (by decide) ht hd K
theorem gf_X4_7 (C : OK G cc nL RX4 rt tb nm) {o : Option Nat} {a : Nat} (e : o = some a) (ht : thg h a) (hd : decode cc pc = .ok (.getfield 7, 3)) (K : J G Q (pc + 3) lo (vi (fI h 0 a) :: st) h k n) : J G Q pc lo (vr o :: st) h k n := by
  subst e
  rcases ht with ht | ht | ht
  · exact j_get C (ci := 1) (kk := 0) rfl inX1 (by decide) wg_306 (Or.inl rfl) rfl (by decide) ht hd K
  · exact j_get C (ci := 2) (kk := 0) rfl inX2 (by decide) wg_306 (Or.inl rfl) rfl (by decide) ht hd K
  · exact j_get C (ci := 3) (kk := 0) rfl inX3 (by decide) wg_306 (Or.inl rfl) rfl (by decide) ht hd K
theorem pf_X4_7 (C : OK G cc nL RX4 rt tb nm) {o : Option Nat} {a : Nat} {x : Int32} (hnm : nm = "<init>") (e : o = some a) (ht : thg h a) (hd : decode cc pc = .ok (.putfield 7, 3)) (K : J G Q (pc + 3) lo st (pI h 0 a x) k n) : J G Q pc lo (vi x :: vr o :: st) h k n := by
  subst e
  rcases ht with ht | ht | ht
  · exact j_put C (ci := 1) (kk := 0) (v := vi x) rfl inX1 (by decide) wg_306 (Or.inl rfl) tyX1_ok nmX1 (Or.inr ⟨rfl, hnm, rfl⟩) rfl rfl rfl rfl (by decide) ht hd K
  · exact j_put C (ci := 2) (kk := 0) (v := vi x) rfl inX2 (by decide) wg_306 (Or.inl rfl) tyX2_ok nmX2 (Or.inr ⟨rfl, hnm, rfl⟩) rfl rfl rfl rfl (by decide) ht hd K
  · exact j_put C (ci := 3) (kk := 0) (v := vi x) rfl inX3 (by decide) wg_306 (Or.inl rfl) tyX3_ok nmX3 (Or.inr ⟨rfl, hnm, rfl⟩) rfl rfl rfl rfl (by decide) ht hd K
theorem gf_X3_36 (C : OK G cc nL RX3 rt tb nm) {o : Option Nat} {a : Nat} (e : o = some a) (ht : tg h a = 4) (hd : decode cc pc = .ok (.getfield 36, 3)) (K : J G Q (pc + 3) lo (vi (fI h 0 a) :: st) h k n) : J G Q pc lo (vr o :: st) h k n := by
  subst e
  exact j_get C (ci := 3) (kk := 0) rfl inX3 (by decide) wg_307 (Or.inr wg_308) rfl (by decide) ht hd K
theorem gf_X6_133 (C : OK G cc nL RX6 rt tb nm) {o : Option Nat} {a : Nat} (e : o = some a) (ht : tg h a = 4) (hd : decode cc pc = .ok (.getfield 133, 3)) (K : J G Q (pc + 3) lo (vi (fI h 0 a) :: st) h k n) : J G Q pc lo (vr o :: st) h k n := by
  subst e
  exact j_get C (ci := 3) (kk := 0) rfl inX3 (by decide) wg_309 (Or.inr wg_308) rfl (by decide) ht hd K
theorem gf_X6_156 (C : OK G cc nL RX6 rt tb nm) {o : Option Nat} {a : Nat} (e : o = some a) (ht : thg h a) (hd : decode cc pc = .ok (.getfield 156, 3)) (K : J G Q (pc + 3) lo (vi (fI h 0 a) :: st) h k n) : J G Q pc lo (vr o :: st) h k n := by
  subst e
  rcases ht with ht | ht | ht
  · exact j_get C (ci := 1) (kk := 0) rfl inX1 (by decide) wg_310 (Or.inl rfl) rfl (by decide) ht hd K
  · exact j_get C (ci := 2) (kk := 0) rfl inX2 (by decide) wg_310 (Or.inl rfl) rfl (by decide) ht hd K
  · exact j_get C (ci := 3) (kk := 0) rfl inX3 (by decide) wg_310 (Or.inl rfl) rfl (by decide) ht hd K
theorem gf_X4_13 (C : OK G cc nL RX4 rt tb nm) {o : Option Nat} {a : Nat} (e : o = some a) (ht : thg h a) (hd : decode cc pc = .ok (.getfield 13, 3)) (K : J G Q (pc + 3) lo (vi (fI h 1 a) :: st) h k n) : J G Q pc lo (vr o :: st) h k n := by
  subst e
  rcases ht with ht | ht | ht
  · exact j_get C (ci := 1) (kk := 1) rfl inX1 (by decide) wg_311 (Or.inl rfl) rfl (by decide) ht hd K
  · exact j_get C (ci := 2) (kk := 1) rfl inX2 (by decide) wg_311 (Or.inl rfl) rfl (by decide) ht hd K
  · exact j_get C (ci := 3) (kk := 1) rfl inX3 (by decide) wg_311 (Or.inl rfl) rfl (by decide) ht hd K
theorem pf_X4_13 (C : OK G cc nL RX4 rt tb nm) {o : Option Nat} {a : Nat} {x : Int32} (hnm : nm = "<init>") (e : o = some a) (ht : thg h a) (hd : decode cc pc = .ok (.putfield 13, 3)) (K : J G Q (pc + 3) lo st (pI h 1 a x) k n) : J G Q pc lo (vi x :: vr o :: st) h k n := by
  subst e
  rcases ht with ht | ht | ht
  · exact j_put C (ci := 1) (kk := 1) (v := vi x) rfl inX1 (by decide) wg_311 (Or.inl rfl) tyX1_ok nmX1 (Or.inr ⟨rfl, hnm, rfl⟩) rfl rfl rfl rfl (by decide) ht hd K
  · exact j_put C (ci := 2) (kk := 1) (v := vi x) rfl inX2 (by decide) wg_311 (Or.inl rfl) tyX2_ok nmX2 (Or.inr ⟨rfl, hnm, rfl⟩) rfl rfl rfl rfl (by decide) ht hd K
  · exact j_put C (ci := 3) (kk := 1) (v := vi x) rfl inX3 (by decide) wg_311 (Or.inl rfl) tyX3_ok nmX3 (Or.inr ⟨rfl, hnm, rfl⟩) rfl rfl rfl rfl (by decide) ht hd K
theorem gf_X0_28 (C : OK G cc nL RX0 rt tb nm) {o : Option Nat} {a : Nat} (e : o = some a) (ht : thg h a) (hd : decode cc pc = .ok (.getfield 28, 3)) (K : J G Q (pc + 3) lo (vi (fI h 1 a) :: st) h k n) : J G Q pc lo (vr o :: st) h k n := by
  subst e
  rcases ht with ht | ht | ht
  · exact j_get C (ci := 1) (kk := 1) rfl inX1 (by decide) wg_312 (Or.inl rfl) rfl (by decide) ht hd K
  · exact j_get C (ci := 2) (kk := 1) rfl inX2 (by decide) wg_312 (Or.inl rfl) rfl (by decide) ht hd K
  · exact j_get C (ci := 3) (kk := 1) rfl inX3 (by decide) wg_312 (Or.inl rfl) rfl (by decide) ht hd K
theorem gf_X6_235 (C : OK G cc nL RX6 rt tb nm) {o : Option Nat} {a : Nat} (e : o = some a) (ht : thg h a) (hd : decode cc pc = .ok (.getfield 235, 3)) (K : J G Q (pc + 3) lo (vi (fI h 1 a) :: st) h k n) : J G Q pc lo (vr o :: st) h k n := by
  subst e
  rcases ht with ht | ht | ht
  · exact j_get C (ci := 1) (kk := 1) rfl inX1 (by decide) wg_313 (Or.inl rfl) rfl (by decide) ht hd K
  · exact j_get C (ci := 2) (kk := 1) rfl inX2 (by decide) wg_313 (Or.inl rfl) rfl (by decide) ht hd K
  · exact j_get C (ci := 3) (kk := 1) rfl inX3 (by decide) wg_313 (Or.inl rfl) rfl (by decide) ht hd K
theorem gf_X6_157 (C : OK G cc nL RX6 rt tb nm) {o : Option Nat} {a : Nat} (e : o = some a) (ht : thg h a) (hd : decode cc pc = .ok (.getfield 157, 3)) (K : J G Q (pc + 3) lo (vi (fI h 2 a) :: st) h k n) : J G Q pc lo (vr o :: st) h k n := by
  subst e
  rcases ht with ht | ht | ht
  · exact j_get C (ci := 1) (kk := 2) rfl inX1 (by decide) wg_314 (Or.inl rfl) rfl (by decide) ht hd K
  · exact j_get C (ci := 2) (kk := 2) rfl inX2 (by decide) wg_314 (Or.inl rfl) rfl (by decide) ht hd K
  · exact j_get C (ci := 3) (kk := 2) rfl inX3 (by decide) wg_314 (Or.inl rfl) rfl (by decide) ht hd K
theorem pf_X6_157 (C : OK G cc nL RX6 rt tb nm) {o : Option Nat} {a : Nat} {x : Int32} (e : o = some a) (ht : thg h a) (hd : decode cc pc = .ok (.putfield 157, 3)) (K : J G Q (pc + 3) lo st (pI h 2 a x) k n) : J G Q pc lo (vi x :: vr o :: st) h k n := by
  subst e
  rcases ht with ht | ht | ht
  · exact j_put C (ci := 1) (kk := 2) (v := vi x) rfl inX1 (by decide) wg_314 (Or.inl rfl) tyX1_ok nmX1 (Or.inl rfl) rfl rfl rfl rfl (by decide) ht hd K
  · exact j_put C (ci := 2) (kk := 2) (v := vi x) rfl inX2 (by decide) wg_314 (Or.inl rfl) tyX2_ok nmX2 (Or.inl rfl) rfl rfl rfl rfl (by decide) ht hd K
  · exact j_put C (ci := 3) (kk := 2) (v := vi x) rfl inX3 (by decide) wg_314 (Or.inl rfl) tyX3_ok nmX3 (Or.inl rfl) rfl rfl rfl rfl (by decide) ht hd K
theorem gf_X0_7 (C : OK G cc nL RX0 rt tb nm) {o : Option Nat} {a : Nat} (e : o = some a) (ht : thg h a) (hd : decode cc pc = .ok (.getfield 7, 3)) (K : J G Q (pc + 3) lo (vr (fR h 3 a) :: st) h k n) : J G Q pc lo (vr o :: st) h k n := by
  subst e
  rcases ht with ht | ht | ht
  · exact j_get C (ci := 1) (kk := 3) rfl inX1 (by decide) wg_315 (Or.inl rfl) rfl (by decide) ht hd K
  · exact j_get C (ci := 2) (kk := 3) rfl inX2 (by decide) wg_315 (Or.inl rfl) rfl (by decide) ht hd K
  · exact j_get C (ci := 3) (kk := 3) rfl inX3 (by decide) wg_315 (Or.inl rfl) rfl (by decide) ht hd K
theorem pf_X0_7 (C : OK G cc nL RX0 rt tb nm) {o : Option Nat} {a : Nat} {x : Option Nat} (e : o = some a) (ht : thg h a) (hd : decode cc pc = .ok (.putfield 7, 3)) (K : J G Q (pc + 3) lo st (pR h 3 a x) k n) : J G Q pc lo (vr x :: vr o :: st) h k n := by
  subst e
  rcases ht with ht | ht | ht
  · exact j_put C (ci := 1) (kk := 3) (v := vr x) rfl inX1 (by decide) wg_315 (Or.inl rfl) tyX1_ok nmX1 (Or.inl rfl) (nr_o x) (ft_o x) rfl rfl (by decide) ht hd K
  · exact j_put C (ci := 2) (kk := 3) (v := vr x) rfl inX2 (by decide) wg_315 (Or.inl rfl) tyX2_ok nmX2 (Or.inl rfl) (nr_o x) (ft_o x) rfl rfl (by decide) ht hd K
  · exact j_put C (ci := 3) (kk := 3) (v := vr x) rfl inX3 (by decide) wg_315 (Or.inl rfl) tyX3_ok nmX3 (Or.inl rfl) (nr_o x) (ft_o x) rfl rfl (by decide) ht hd K
theorem gf_X6_281 (C : OK G cc nL RX6 rt tb nm) {o : Option Nat} {a : Nat} (e : o = some a) (ht : thg h a) (hd : decode cc pc = .ok (.getfield 281, 3)) (K : J G Q (pc + 3) lo (vr (fR h 3 a) :: st) h k n) : J G Q pc lo (vr o :: st) h k n := by
  subst e
  rcases ht with ht | ht | ht
  · exact j_get C (ci := 1) (kk := 3) rfl inX1 (by decide) wg_316 (Or.inl rfl) rfl (by decide) ht hd K
  · exact j_get C (ci := 2) (kk := 3) rfl inX2 (by decide) wg_316 (Or.inl rfl) rfl (by decide) ht hd K
  · exact j_get C (ci := 3) (kk := 3) rfl inX3 (by decide) wg_316 (Or.inl rfl) rfl (by decide) ht hd K
theorem pf_X6_281 (C : OK G cc nL RX6 rt tb nm) {o : Option Nat} {a : Nat} {x : Option Nat} (e : o = some a) (ht : thg h a) (hd : decode cc pc = .ok (.putfield 281, 3)) (K : J G Q (pc + 3) lo st (pR h 3 a x) k n) : J G Q pc lo (vr x :: vr o :: st) h k n := by
  subst e
  rcases ht with ht | ht | ht
  · exact j_put C (ci := 1) (kk := 3) (v := vr x) rfl inX1 (by decide) wg_316 (Or.inl rfl) tyX1_ok nmX1 (Or.inl rfl) (nr_o x) (ft_o x) rfl rfl (by decide) ht hd K
  · exact j_put C (ci := 2) (kk := 3) (v := vr x) rfl inX2 (by decide) wg_316 (Or.inl rfl) tyX2_ok nmX2 (Or.inl rfl) (nr_o x) (ft_o x) rfl rfl (by decide) ht hd K
  · exact j_put C (ci := 3) (kk := 3) (v := vr x) rfl inX3 (by decide) wg_316 (Or.inl rfl) tyX3_ok nmX3 (Or.inl rfl) (nr_o x) (ft_o x) rfl rfl (by decide) ht hd K
theorem gf_X5_23 (C : OK G cc nL RX5 rt tb nm) {o : Option Nat} {a : Nat} (e : o = some a) (ht : thg h a) (hd : decode cc pc = .ok (.getfield 23, 3)) (K : J G Q (pc + 3) lo (vi (fI h 4 a) :: st) h k n) : J G Q pc lo (vr o :: st) h k n := by
  subst e
  rcases ht with ht | ht | ht
  · exact j_get C (ci := 1) (kk := 4) rfl inX1 (by decide) wg_317 (Or.inl rfl) rfl (by decide) ht hd K
  · exact j_get C (ci := 2) (kk := 4) rfl inX2 (by decide) wg_317 (Or.inl rfl) rfl (by decide) ht hd K
  · exact j_get C (ci := 3) (kk := 4) rfl inX3 (by decide) wg_317 (Or.inl rfl) rfl (by decide) ht hd K
theorem pf_X5_23 (C : OK G cc nL RX5 rt tb nm) {o : Option Nat} {a : Nat} {x : Int32} (e : o = some a) (ht : thg h a) (hd : decode cc pc = .ok (.putfield 23, 3)) (K : J G Q (pc + 3) lo st (pI h 4 a x) k n) : J G Q pc lo (vi x :: vr o :: st) h k n := by
  subst e
  rcases ht with ht | ht | ht
  · exact j_put C (ci := 1) (kk := 4) (v := vi x) rfl inX1 (by decide) wg_317 (Or.inl rfl) tyX1_ok nmX1 (Or.inl rfl) rfl rfl rfl rfl (by decide) ht hd K
  · exact j_put C (ci := 2) (kk := 4) (v := vi x) rfl inX2 (by decide) wg_317 (Or.inl rfl) tyX2_ok nmX2 (Or.inl rfl) rfl rfl rfl rfl (by decide) ht hd K
  · exact j_put C (ci := 3) (kk := 4) (v := vi x) rfl inX3 (by decide) wg_317 (Or.inl rfl) tyX3_ok nmX3 (Or.inl rfl) rfl rfl rfl rfl (by decide) ht hd K
theorem gf_X1_29 (C : OK G cc nL RX1 rt tb nm) {o : Option Nat} {a : Nat} (e : o = some a) (ht : thg h a) (hd : decode cc pc = .ok (.getfield 29, 3)) (K : J G Q (pc + 3) lo (vi (fI h 5 a) :: st) h k n) : J G Q pc lo (vr o :: st) h k n := by
  subst e
  rcases ht with ht | ht | ht
  · exact j_get C (ci := 1) (kk := 5) rfl inX1 (by decide) wg_318 (Or.inl rfl) rfl (by decide) ht hd K
  · exact j_get C (ci := 2) (kk := 5) rfl inX2 (by decide) wg_318 (Or.inl rfl) rfl (by decide) ht hd K
  · exact j_get C (ci := 3) (kk := 5) rfl inX3 (by decide) wg_318 (Or.inl rfl) rfl (by decide) ht hd K
theorem pf_X1_29 (C : OK G cc nL RX1 rt tb nm) {o : Option Nat} {a : Nat} {x : Int32} (e : o = some a) (ht : thg h a) (hd : decode cc pc = .ok (.putfield 29, 3)) (K : J G Q (pc + 3) lo st (pI h 5 a x) k n) : J G Q pc lo (vi x :: vr o :: st) h k n := by
  subst e
  rcases ht with ht | ht | ht
  · exact j_put C (ci := 1) (kk := 5) (v := vi x) rfl inX1 (by decide) wg_318 (Or.inl rfl) tyX1_ok nmX1 (Or.inl rfl) rfl rfl rfl rfl (by decide) ht hd K
  · exact j_put C (ci := 2) (kk := 5) (v := vi x) rfl inX2 (by decide) wg_318 (Or.inl rfl) tyX2_ok nmX2 (Or.inl rfl) rfl rfl rfl rfl (by decide) ht hd K
  · exact j_put C (ci := 3) (kk := 5) (v := vi x) rfl inX3 (by decide) wg_318 (Or.inl rfl) tyX3_ok nmX3 (Or.inl rfl) rfl rfl rfl rfl (by decide) ht hd K
theorem gf_X5_35 (C : OK G cc nL RX5 rt tb nm) {o : Option Nat} {a : Nat} (e : o = some a) (ht : thg h a) (hd : decode cc pc = .ok (.getfield 35, 3)) (K : J G Q (pc + 3) lo (vi (fI h 5 a) :: st) h k n) : J G Q pc lo (vr o :: st) h k n := by
  subst e
  rcases ht with ht | ht | ht
  · exact j_get C (ci := 1) (kk := 5) rfl inX1 (by decide) wg_319 (Or.inl rfl) rfl (by decide) ht hd K
  · exact j_get C (ci := 2) (kk := 5) rfl inX2 (by decide) wg_319 (Or.inl rfl) rfl (by decide) ht hd K
  · exact j_get C (ci := 3) (kk := 5) rfl inX3 (by decide) wg_319 (Or.inl rfl) rfl (by decide) ht hd K
theorem pf_X5_35 (C : OK G cc nL RX5 rt tb nm) {o : Option Nat} {a : Nat} {x : Int32} (e : o = some a) (ht : thg h a) (hd : decode cc pc = .ok (.putfield 35, 3)) (K : J G Q (pc + 3) lo st (pI h 5 a x) k n) : J G Q pc lo (vi x :: vr o :: st) h k n := by
  subst e
  rcases ht with ht | ht | ht
  · exact j_put C (ci := 1) (kk := 5) (v := vi x) rfl inX1 (by decide) wg_319 (Or.inl rfl) tyX1_ok nmX1 (Or.inl rfl) rfl rfl rfl rfl (by decide) ht hd K
  · exact j_put C (ci := 2) (kk := 5) (v := vi x) rfl inX2 (by decide) wg_319 (Or.inl rfl) tyX2_ok nmX2 (Or.inl rfl) rfl rfl rfl rfl (by decide) ht hd K
  · exact j_put C (ci := 3) (kk := 5) (v := vi x) rfl inX3 (by decide) wg_319 (Or.inl rfl) tyX3_ok nmX3 (Or.inl rfl) rfl rfl rfl rfl (by decide) ht hd K
theorem gf_X5_32 (C : OK G cc nL RX5 rt tb nm) {o : Option Nat} {a : Nat} (e : o = some a) (ht : thg h a) (hd : decode cc pc = .ok (.getfield 32, 3)) (K : J G Q (pc + 3) lo (vr (fR h 6 a) :: st) h k n) : J G Q pc lo (vr o :: st) h k n := by
  subst e
  rcases ht with ht | ht | ht
  · exact j_get C (ci := 1) (kk := 6) rfl inX1 (by decide) wg_320 (Or.inl rfl) rfl (by decide) ht hd K
  · exact j_get C (ci := 2) (kk := 6) rfl inX2 (by decide) wg_320 (Or.inl rfl) rfl (by decide) ht hd K
  · exact j_get C (ci := 3) (kk := 6) rfl inX3 (by decide) wg_320 (Or.inl rfl) rfl (by decide) ht hd K
theorem pf_X5_32 (C : OK G cc nL RX5 rt tb nm) {o : Option Nat} {a : Nat} {x : Option Nat} (e : o = some a) (ht : thg h a) (hd : decode cc pc = .ok (.putfield 32, 3)) (K : J G Q (pc + 3) lo st (pR h 6 a x) k n) : J G Q pc lo (vr x :: vr o :: st) h k n := by
  subst e
  rcases ht with ht | ht | ht
  · exact j_put C (ci := 1) (kk := 6) (v := vr x) rfl inX1 (by decide) wg_320 (Or.inl rfl) tyX1_ok nmX1 (Or.inl rfl) (nr_o x) (ft_o x) rfl rfl (by decide) ht hd K
  · exact j_put C (ci := 2) (kk := 6) (v := vr x) rfl inX2 (by decide) wg_320 (Or.inl rfl) tyX2_ok nmX2 (Or.inl rfl) (nr_o x) (ft_o x) rfl rfl (by decide) ht hd K
  · exact j_put C (ci := 3) (kk := 6) (v := vr x) rfl inX3 (by decide) wg_320 (Or.inl rfl) tyX3_ok nmX3 (Or.inl rfl) (nr_o x) (ft_o x) rfl rfl (by decide) ht hd K
theorem gf_X6_202 (C : OK G cc nL RX6 rt tb nm) {o : Option Nat} {a : Nat} (e : o = some a) (ht : thg h a) (hd : decode cc pc = .ok (.getfield 202, 3)) (K : J G Q (pc + 3) lo (vr (fR h 6 a) :: st) h k n) : J G Q pc lo (vr o :: st) h k n := by
  subst e
  rcases ht with ht | ht | ht
  · exact j_get C (ci := 1) (kk := 6) rfl inX1 (by decide) wg_321 (Or.inl rfl) rfl (by decide) ht hd K
  · exact j_get C (ci := 2) (kk := 6) rfl inX2 (by decide) wg_321 (Or.inl rfl) rfl (by decide) ht hd K
  · exact j_get C (ci := 3) (kk := 6) rfl inX3 (by decide) wg_321 (Or.inl rfl) rfl (by decide) ht hd K
theorem pf_X6_202 (C : OK G cc nL RX6 rt tb nm) {o : Option Nat} {a : Nat} {x : Option Nat} (e : o = some a) (ht : thg h a) (hd : decode cc pc = .ok (.putfield 202, 3)) (K : J G Q (pc + 3) lo st (pR h 6 a x) k n) : J G Q pc lo (vr x :: vr o :: st) h k n := by
  subst e
  rcases ht with ht | ht | ht
  · exact j_put C (ci := 1) (kk := 6) (v := vr x) rfl inX1 (by decide) wg_321 (Or.inl rfl) tyX1_ok nmX1 (Or.inl rfl) (nr_o x) (ft_o x) rfl rfl (by decide) ht hd K
  · exact j_put C (ci := 2) (kk := 6) (v := vr x) rfl inX2 (by decide) wg_321 (Or.inl rfl) tyX2_ok nmX2 (Or.inl rfl) (nr_o x) (ft_o x) rfl rfl (by decide) ht hd K
  · exact j_put C (ci := 3) (kk := 6) (v := vr x) rfl inX3 (by decide) wg_321 (Or.inl rfl) tyX3_ok nmX3 (Or.inl rfl) (nr_o x) (ft_o x) rfl rfl (by decide) ht hd K
theorem gf_X4_22 (C : OK G cc nL RX4 rt tb nm) {o : Option Nat} {a : Nat} (e : o = some a) (ht : thg h a) (hd : decode cc pc = .ok (.getfield 22, 3)) (K : J G Q (pc + 3) lo (vr (fR h 7 a) :: st) h k n) : J G Q pc lo (vr o :: st) h k n := by
  subst e
  rcases ht with ht | ht | ht
  · exact j_get C (ci := 1) (kk := 7) rfl inX1 (by decide) wg_322 (Or.inl rfl) rfl (by decide) ht hd K
  · exact j_get C (ci := 2) (kk := 7) rfl inX2 (by decide) wg_322 (Or.inl rfl) rfl (by decide) ht hd K
  · exact j_get C (ci := 3) (kk := 7) rfl inX3 (by decide) wg_322 (Or.inl rfl) rfl (by decide) ht hd K
theorem pf_X4_22 (C : OK G cc nL RX4 rt tb nm) {o : Option Nat} {a : Nat} {x : Option Nat} (e : o = some a) (ht : thg h a) (hd : decode cc pc = .ok (.putfield 22, 3)) (K : J G Q (pc + 3) lo st (pR h 7 a x) k n) : J G Q pc lo (vr x :: vr o :: st) h k n := by
  subst e
  rcases ht with ht | ht | ht
  · exact j_put C (ci := 1) (kk := 7) (v := vr x) rfl inX1 (by decide) wg_322 (Or.inl rfl) tyX1_ok nmX1 (Or.inl rfl) (nr_o x) (ft_o x) rfl rfl (by decide) ht hd K
  · exact j_put C (ci := 2) (kk := 7) (v := vr x) rfl inX2 (by decide) wg_322 (Or.inl rfl) tyX2_ok nmX2 (Or.inl rfl) (nr_o x) (ft_o x) rfl rfl (by decide) ht hd K
  · exact j_put C (ci := 3) (kk := 7) (v := vr x) rfl inX3 (by decide) wg_322 (Or.inl rfl) tyX3_ok nmX3 (Or.inl rfl) (nr_o x) (ft_o x) rfl rfl (by decide) ht hd K
theorem gf_X3_40 (C : OK G cc nL RX3 rt tb nm) {o : Option Nat} {a : Nat} (e : o = some a) (ht : thg h a) (hd : decode cc pc = .ok (.getfield 40, 3)) (K : J G Q (pc + 3) lo (vr (fR h 7 a) :: st) h k n) : J G Q pc lo (vr o :: st) h k n := by
  subst e
  rcases ht with ht | ht | ht
  · exact j_get C (ci := 1) (kk := 7) rfl inX1 (by decide) wg_323 (Or.inl rfl) rfl (by decide) ht hd K
  · exact j_get C (ci := 2) (kk := 7) rfl inX2 (by decide) wg_323 (Or.inl rfl) rfl (by decide) ht hd K
  · exact j_get C (ci := 3) (kk := 7) rfl inX3 (by decide) wg_323 (Or.inl rfl) rfl (by decide) ht hd K
theorem pf_X3_40 (C : OK G cc nL RX3 rt tb nm) {o : Option Nat} {a : Nat} {x : Option Nat} (e : o = some a) (ht : thg h a) (hd : decode cc pc = .ok (.putfield 40, 3)) (K : J G Q (pc + 3) lo st (pR h 7 a x) k n) : J G Q pc lo (vr x :: vr o :: st) h k n := by
  subst e
  rcases ht with ht | ht | ht
  · exact j_put C (ci := 1) (kk := 7) (v := vr x) rfl inX1 (by decide) wg_323 (Or.inl rfl) tyX1_ok nmX1 (Or.inl rfl) (nr_o x) (ft_o x) rfl rfl (by decide) ht hd K
  · exact j_put C (ci := 2) (kk := 7) (v := vr x) rfl inX2 (by decide) wg_323 (Or.inl rfl) tyX2_ok nmX2 (Or.inl rfl) (nr_o x) (ft_o x) rfl rfl (by decide) ht hd K
  · exact j_put C (ci := 3) (kk := 7) (v := vr x) rfl inX3 (by decide) wg_323 (Or.inl rfl) tyX3_ok nmX3 (Or.inl rfl) (nr_o x) (ft_o x) rfl rfl (by decide) ht hd K
theorem gf_X2_15 (C : OK G cc nL RX2 rt tb nm) {o : Option Nat} {a : Nat} (e : o = some a) (ht : tg h a = 3) (hd : decode cc pc = .ok (.getfield 15, 3)) (K : J G Q (pc + 3) lo (vr (fR h 10 a) :: st) h k n) : J G Q pc lo (vr o :: st) h k n := by
  subst e
  exact j_get C (ci := 2) (kk := 8) rfl inX2 (by decide) wg_374 (Or.inl rfl) rfl (by decide) ht hd K
theorem pf_X2_15 (C : OK G cc nL RX2 rt tb nm) {o : Option Nat} {a : Nat} {x : Option Nat} (e : o = some a) (ht : tg h a = 3) (hd : decode cc pc = .ok (.putfield 15, 3)) (K : J G Q (pc + 3) lo st (pR h 10 a x) k n) : J G Q pc lo (vr x :: vr o :: st) h k n := by
  subst e
  exact j_put C (ci := 2) (kk := 8) (v := vr x) rfl inX2 (by decide) wg_374 (Or.inl rfl) tyX2_ok nmX2 (Or.inl rfl) (nr_o x) (ft_o x) rfl rfl (by decide) ht hd K
theorem gf_X2_9 (C : OK G cc nL RX2 rt tb nm) {o : Option Nat} {a : Nat} (e : o = some a) (ht : tg h a = 3) (hd : decode cc pc = .ok (.getfield 9, 3)) (K : J G Q (pc + 3) lo (vr (fR h 11 a) :: st) h k n) : J G Q pc lo (vr o :: st) h k n := by
  subst e
  exact j_get C (ci := 2) (kk := 9) rfl inX2 (by decide) wg_375 (Or.inl rfl) rfl (by decide) ht hd K
theorem pf_X2_9 (C : OK G cc nL RX2 rt tb nm) {o : Option Nat} {a : Nat} {x : Option Nat} (e : o = some a) (ht : tg h a = 3) (hd : decode cc pc = .ok (.putfield 9, 3)) (K : J G Q (pc + 3) lo st (pR h 11 a x) k n) : J G Q pc lo (vr x :: vr o :: st) h k n := by
  subst e
  exact j_put C (ci := 2) (kk := 9) (v := vr x) rfl inX2 (by decide) wg_375 (Or.inl rfl) tyX2_ok nmX2 (Or.inl rfl) (nr_o x) (ft_o x) rfl rfl (by decide) ht hd K
theorem gf_X2_23 (C : OK G cc nL RX2 rt tb nm) {o : Option Nat} {a : Nat} (e : o = some a) (ht : tg h a = 3) (hd : decode cc pc = .ok (.getfield 23, 3)) (K : J G Q (pc + 3) lo (vi (fI h 12 a) :: st) h k n) : J G Q pc lo (vr o :: st) h k n := by
  subst e
  exact j_get C (ci := 2) (kk := 10) rfl inX2 (by decide) wg_376 (Or.inl rfl) rfl (by decide) ht hd K
theorem pf_X2_23 (C : OK G cc nL RX2 rt tb nm) {o : Option Nat} {a : Nat} {x : Int32} (e : o = some a) (ht : tg h a = 3) (hd : decode cc pc = .ok (.putfield 23, 3)) (K : J G Q (pc + 3) lo st (pI h 12 a x) k n) : J G Q pc lo (vi x :: vr o :: st) h k n := by
  subst e
  exact j_put C (ci := 2) (kk := 10) (v := vi x) rfl inX2 (by decide) wg_376 (Or.inl rfl) tyX2_ok nmX2 (Or.inl rfl) rfl rfl rfl rfl (by decide) ht hd K
theorem gf_X6_153 (C : OK G cc nL RX6 rt tb nm) {o : Option Nat} {a : Nat} (e : o = some a) (ht : tg h a = 3) (hd : decode cc pc = .ok (.getfield 153, 3)) (K : J G Q (pc + 3) lo (vi (fI h 12 a) :: st) h k n) : J G Q pc lo (vr o :: st) h k n := by
  subst e
  exact j_get C (ci := 2) (kk := 10) rfl inX2 (by decide) wg_377 (Or.inl rfl) rfl (by decide) ht hd K
theorem pf_X6_153 (C : OK G cc nL RX6 rt tb nm) {o : Option Nat} {a : Nat} {x : Int32} (e : o = some a) (ht : tg h a = 3) (hd : decode cc pc = .ok (.putfield 153, 3)) (K : J G Q (pc + 3) lo st (pI h 12 a x) k n) : J G Q pc lo (vi x :: vr o :: st) h k n := by
  subst e
  exact j_put C (ci := 2) (kk := 10) (v := vi x) rfl inX2 (by decide) wg_377 (Or.inl rfl) tyX2_ok nmX2 (Or.inl rfl) rfl rfl rfl rfl (by decide) ht hd K
theorem gf_X3_9 (C : OK G cc nL RX3 rt tb nm) {o : Option Nat} {a : Nat} (e : o = some a) (ht : tg h a = 4) (hd : decode cc pc = .ok (.getfield 9, 3)) (K : J G Q (pc + 3) lo (vr (fR h 13 a) :: st) h k n) : J G Q pc lo (vr o :: st) h k n := by
  subst e
  exact j_get C (ci := 3) (kk := 8) rfl inX3 (by decide) wg_439 (Or.inl rfl) rfl (by decide) ht hd K
theorem pf_X3_9 (C : OK G cc nL RX3 rt tb nm) {o : Option Nat} {a : Nat} {x : Option Nat} (e : o = some a) (ht : tg h a = 4) (hd : decode cc pc = .ok (.putfield 9, 3)) (K : J G Q (pc + 3) lo st (pR h 13 a x) k n) : J G Q pc lo (vr x :: vr o :: st) h k n := by
  subst e
  exact j_put C (ci := 3) (kk := 8) (v := vr x) rfl inX3 (by decide) wg_439 (Or.inl rfl) tyX3_ok nmX3 (Or.inl rfl) (nr_o x) (ft_o x) rfl rfl (by decide) ht hd K
theorem gf_X6_136 (C : OK G cc nL RX6 rt tb nm) {o : Option Nat} {a : Nat} (e : o = some a) (ht : tg h a = 4) (hd : decode cc pc = .ok (.getfield 136, 3)) (K : J G Q (pc + 3) lo (vr (fR h 13 a) :: st) h k n) : J G Q pc lo (vr o :: st) h k n := by
  subst e
  exact j_get C (ci := 3) (kk := 8) rfl inX3 (by decide) wg_440 (Or.inl rfl) rfl (by decide) ht hd K
theorem pf_X6_136 (C : OK G cc nL RX6 rt tb nm) {o : Option Nat} {a : Nat} {x : Option Nat} (e : o = some a) (ht : tg h a = 4) (hd : decode cc pc = .ok (.putfield 136, 3)) (K : J G Q (pc + 3) lo st (pR h 13 a x) k n) : J G Q pc lo (vr x :: vr o :: st) h k n := by
  subst e
  exact j_put C (ci := 3) (kk := 8) (v := vr x) rfl inX3 (by decide) wg_440 (Or.inl rfl) tyX3_ok nmX3 (Or.inl rfl) (nr_o x) (ft_o x) rfl rfl (by decide) ht hd K
theorem gf_X3_15 (C : OK G cc nL RX3 rt tb nm) {o : Option Nat} {a : Nat} (e : o = some a) (ht : tg h a = 4) (hd : decode cc pc = .ok (.getfield 15, 3)) (K : J G Q (pc + 3) lo (vr (fR h 14 a) :: st) h k n) : J G Q pc lo (vr o :: st) h k n := by
  subst e
  exact j_get C (ci := 3) (kk := 9) rfl inX3 (by decide) wg_441 (Or.inl rfl) rfl (by decide) ht hd K
theorem pf_X3_15 (C : OK G cc nL RX3 rt tb nm) {o : Option Nat} {a : Nat} {x : Option Nat} (e : o = some a) (ht : tg h a = 4) (hd : decode cc pc = .ok (.putfield 15, 3)) (K : J G Q (pc + 3) lo st (pR h 14 a x) k n) : J G Q pc lo (vr x :: vr o :: st) h k n := by
  subst e
  exact j_put C (ci := 3) (kk := 9) (v := vr x) rfl inX3 (by decide) wg_441 (Or.inl rfl) tyX3_ok nmX3 (Or.inl rfl) (nr_o x) (ft_o x) rfl rfl (by decide) ht hd K
theorem gf_X4_26 (C : OK G cc nL RX4 rt tb nm) {o : Option Nat} {a : Nat} (e : o = some a) (ht : tg h a = 4) (hd : decode cc pc = .ok (.getfield 26, 3)) (K : J G Q (pc + 3) lo (vr (fR h 14 a) :: st) h k n) : J G Q pc lo (vr o :: st) h k n := by
  subst e
  exact j_get C (ci := 3) (kk := 9) rfl inX3 (by decide) wg_442 (Or.inl rfl) rfl (by decide) ht hd K
theorem pf_X4_26 (C : OK G cc nL RX4 rt tb nm) {o : Option Nat} {a : Nat} {x : Option Nat} (e : o = some a) (ht : tg h a = 4) (hd : decode cc pc = .ok (.putfield 26, 3)) (K : J G Q (pc + 3) lo st (pR h 14 a x) k n) : J G Q pc lo (vr x :: vr o :: st) h k n := by
  subst e
  exact j_put C (ci := 3) (kk := 9) (v := vr x) rfl inX3 (by decide) wg_442 (Or.inl rfl) tyX3_ok nmX3 (Or.inl rfl) (nr_o x) (ft_o x) rfl rfl (by decide) ht hd K
theorem gf_X6_126 (C : OK G cc nL RX6 rt tb nm) {o : Option Nat} {a : Nat} (e : o = some a) (ht : tg h a = 4) (hd : decode cc pc = .ok (.getfield 126, 3)) (K : J G Q (pc + 3) lo (vr (fR h 14 a) :: st) h k n) : J G Q pc lo (vr o :: st) h k n := by
  subst e
  exact j_get C (ci := 3) (kk := 9) rfl inX3 (by decide) wg_443 (Or.inl rfl) rfl (by decide) ht hd K
theorem pf_X6_126 (C : OK G cc nL RX6 rt tb nm) {o : Option Nat} {a : Nat} {x : Option Nat} (e : o = some a) (ht : tg h a = 4) (hd : decode cc pc = .ok (.putfield 126, 3)) (K : J G Q (pc + 3) lo st (pR h 14 a x) k n) : J G Q pc lo (vr x :: vr o :: st) h k n := by
  subst e
  exact j_put C (ci := 3) (kk := 9) (v := vr x) rfl inX3 (by decide) wg_443 (Or.inl rfl) tyX3_ok nmX3 (Or.inl rfl) (nr_o x) (ft_o x) rfl rfl (by decide) ht hd K
theorem gf_X3_18 (C : OK G cc nL RX3 rt tb nm) {o : Option Nat} {a : Nat} (e : o = some a) (ht : tg h a = 4) (hd : decode cc pc = .ok (.getfield 18, 3)) (K : J G Q (pc + 3) lo (vr (fR h 15 a) :: st) h k n) : J G Q pc lo (vr o :: st) h k n := by
  subst e
  exact j_get C (ci := 3) (kk := 10) rfl inX3 (by decide) wg_444 (Or.inl rfl) rfl (by decide) ht hd K
theorem pf_X3_18 (C : OK G cc nL RX3 rt tb nm) {o : Option Nat} {a : Nat} {x : Option Nat} (hnm : nm = "<init>") (e : o = some a) (ht : tg h a = 4) (hd : decode cc pc = .ok (.putfield 18, 3)) (K : J G Q (pc + 3) lo st (pR h 15 a x) k n) : J G Q pc lo (vr x :: vr o :: st) h k n := by
  subst e
  exact j_put C (ci := 3) (kk := 10) (v := vr x) rfl inX3 (by decide) wg_444 (Or.inl rfl) tyX3_ok nmX3 (Or.inr ⟨rfl, hnm, rfl⟩) (nr_o x) (ft_o x) rfl rfl (by decide) ht hd K
theorem gf_X6_288 (C : OK G cc nL RX6 rt tb nm) {o : Option Nat} {a : Nat} (e : o = some a) (ht : tg h a = 4) (hd : decode cc pc = .ok (.getfield 288, 3)) (K : J G Q (pc + 3) lo (vr (fR h 15 a) :: st) h k n) : J G Q pc lo (vr o :: st) h k n := by
  subst e
  exact j_get C (ci := 3) (kk := 10) rfl inX3 (by decide) wg_445 (Or.inl rfl) rfl (by decide) ht hd K
theorem gf_X3_28 (C : OK G cc nL RX3 rt tb nm) {o : Option Nat} {a : Nat} (e : o = some a) (ht : tg h a = 4) (hd : decode cc pc = .ok (.getfield 28, 3)) (K : J G Q (pc + 3) lo (vi (fI h 16 a) :: st) h k n) : J G Q pc lo (vr o :: st) h k n := by
  subst e
  exact j_get C (ci := 3) (kk := 11) rfl inX3 (by decide) wg_446 (Or.inl rfl) rfl (by decide) ht hd K
theorem pf_X3_28 (C : OK G cc nL RX3 rt tb nm) {o : Option Nat} {a : Nat} {x : Int32} (h01 : x = 0 ∨ x = 1) (e : o = some a) (ht : tg h a = 4) (hd : decode cc pc = .ok (.putfield 28, 3)) (K : J G Q (pc + 3) lo st (pI h 16 a x) k n) : J G Q pc lo (vi x :: vr o :: st) h k n := by
  subst e
  exact j_put C (ci := 3) (kk := 11) (v := vi x) rfl inX3 (by decide) wg_446 (Or.inl rfl) tyX3_ok nmX3 (Or.inl rfl) (nr_z h01) (ft_z h01) rfl rfl (by decide) ht hd K
theorem gf_X6_292 (C : OK G cc nL RX6 rt tb nm) {o : Option Nat} {a : Nat} (e : o = some a) (ht : tg h a = 4) (hd : decode cc pc = .ok (.getfield 292, 3)) (K : J G Q (pc + 3) lo (vi (fI h 16 a) :: st) h k n) : J G Q pc lo (vr o :: st) h k n := by
  subst e
  exact j_get C (ci := 3) (kk := 11) rfl inX3 (by decide) wg_447 (Or.inl rfl) rfl (by decide) ht hd K
theorem pf_X6_292 (C : OK G cc nL RX6 rt tb nm) {o : Option Nat} {a : Nat} {x : Int32} (h01 : x = 0 ∨ x = 1) (e : o = some a) (ht : tg h a = 4) (hd : decode cc pc = .ok (.putfield 292, 3)) (K : J G Q (pc + 3) lo st (pI h 16 a x) k n) : J G Q pc lo (vi x :: vr o :: st) h k n := by
  subst e
  exact j_put C (ci := 3) (kk := 11) (v := vi x) rfl inX3 (by decide) wg_447 (Or.inl rfl) tyX3_ok nmX3 (Or.inl rfl) (nr_z h01) (ft_z h01) rfl rfl (by decide) ht hd K
theorem gf_X2_18 (C : OK G cc nL RX2 rt tb nm) {o : Option Nat} {a : Nat} (e : o = some a) (ht : tg h a = 4) (hd : decode cc pc = .ok (.getfield 18, 3)) (K : J G Q (pc + 3) lo (vr (fR h 17 a) :: st) h k n) : J G Q pc lo (vr o :: st) h k n := by
  subst e
  exact j_get C (ci := 3) (kk := 12) rfl inX3 (by decide) wg_448 (Or.inl rfl) rfl (by decide) ht hd K
theorem pf_X2_18 (C : OK G cc nL RX2 rt tb nm) {o : Option Nat} {a : Nat} {x : Option Nat} (e : o = some a) (ht : tg h a = 4) (hd : decode cc pc = .ok (.putfield 18, 3)) (K : J G Q (pc + 3) lo st (pR h 17 a x) k n) : J G Q pc lo (vr x :: vr o :: st) h k n := by
  subst e
  exact j_put C (ci := 3) (kk := 12) (v := vr x) rfl inX3 (by decide) wg_448 (Or.inl rfl) tyX3_ok nmX3 (Or.inl rfl) (nr_o x) (ft_o x) rfl rfl (by decide) ht hd K
theorem gf_X4_38 (C : OK G cc nL RX4 rt tb nm) {o : Option Nat} {a : Nat} (e : o = some a) (ht : tg h a = 4) (hd : decode cc pc = .ok (.getfield 38, 3)) (K : J G Q (pc + 3) lo (vr (fR h 18 a) :: st) h k n) : J G Q pc lo (vr o :: st) h k n := by
  subst e
  exact j_get C (ci := 3) (kk := 13) rfl inX3 (by decide) wg_449 (Or.inl rfl) rfl (by decide) ht hd K
theorem pf_X4_38 (C : OK G cc nL RX4 rt tb nm) {o : Option Nat} {a : Nat} {x : Option Nat} (e : o = some a) (ht : tg h a = 4) (hd : decode cc pc = .ok (.putfield 38, 3)) (K : J G Q (pc + 3) lo st (pR h 18 a x) k n) : J G Q pc lo (vr x :: vr o :: st) h k n := by
  subst e
  exact j_put C (ci := 3) (kk := 13) (v := vr x) rfl inX3 (by decide) wg_449 (Or.inl rfl) tyX3_ok nmX3 (Or.inl rfl) (nr_o x) (ft_o x) rfl rfl (by decide) ht hd K
theorem gf_X3_44 (C : OK G cc nL RX3 rt tb nm) {o : Option Nat} {a : Nat} (e : o = some a) (ht : tg h a = 4) (hd : decode cc pc = .ok (.getfield 44, 3)) (K : J G Q (pc + 3) lo (vr (fR h 18 a) :: st) h k n) : J G Q pc lo (vr o :: st) h k n := by
  subst e
  exact j_get C (ci := 3) (kk := 13) rfl inX3 (by decide) wg_450 (Or.inl rfl) rfl (by decide) ht hd K
theorem pf_X3_44 (C : OK G cc nL RX3 rt tb nm) {o : Option Nat} {a : Nat} {x : Option Nat} (e : o = some a) (ht : tg h a = 4) (hd : decode cc pc = .ok (.putfield 44, 3)) (K : J G Q (pc + 3) lo st (pR h 18 a x) k n) : J G Q pc lo (vr x :: vr o :: st) h k n := by
  subst e
  exact j_put C (ci := 3) (kk := 13) (v := vr x) rfl inX3 (by decide) wg_450 (Or.inl rfl) tyX3_ok nmX3 (Or.inl rfl) (nr_o x) (ft_o x) rfl rfl (by decide) ht hd K
theorem gf_X7_1 (C : OK G cc nL RX7 rt tb nm) {o : Option Nat} {a : Nat} (e : o = some a) (ht : tg h a = 7) (hd : decode cc pc = .ok (.getfield 1, 3)) (K : J G Q (pc + 3) lo (vi (fI h 40 a) :: st) h k n) : J G Q pc lo (vr o :: st) h k n := by
  subst e
  exact j_get C (ci := 6) (kk := 0) rfl inX7 (by decide) wg_677 (Or.inl rfl) rfl (by decide) ht hd K
theorem pf_X7_1 (C : OK G cc nL RX7 rt tb nm) {o : Option Nat} {a : Nat} {x : Int32} (e : o = some a) (ht : tg h a = 7) (hd : decode cc pc = .ok (.putfield 1, 3)) (K : J G Q (pc + 3) lo st (pI h 40 a x) k n) : J G Q pc lo (vi x :: vr o :: st) h k n := by
  subst e
  exact j_put C (ci := 6) (kk := 0) (v := vi x) rfl inX7 (by decide) wg_677 (Or.inl rfl) tyX7_ok nmX7 (Or.inl rfl) rfl rfl rfl rfl (by decide) ht hd K
theorem gf_X7_73 (C : OK G cc nL RX7 rt tb nm) {o : Option Nat} {a : Nat} (e : o = some a) (ht : tg h a = 7) (hd : decode cc pc = .ok (.getfield 73, 3)) (K : J G Q (pc + 3) lo (vi (fI h 41 a) :: st) h k n) : J G Q pc lo (vr o :: st) h k n := by
  subst e
  exact j_get C (ci := 6) (kk := 1) rfl inX7 (by decide) wg_678 (Or.inl rfl) rfl (by decide) ht hd K
theorem pf_X7_73 (C : OK G cc nL RX7 rt tb nm) {o : Option Nat} {a : Nat} {x : Int32} (hnm : nm = "<init>") (e : o = some a) (ht : tg h a = 7) (hd : decode cc pc = .ok (.putfield 73, 3)) (K : J G Q (pc + 3) lo st (pI h 41 a x) k n) : J G Q pc lo (vi x :: vr o :: st) h k n := by
  subst e
  exact j_put C (ci := 6) (kk := 1) (v := vi x) rfl inX7 (by decide) wg_678 (Or.inl rfl) tyX7_ok nmX7 (Or.inr ⟨rfl, hnm, rfl⟩) rfl rfl rfl rfl (by decide) ht hd K
theorem gf_X7_13 (C : OK G cc nL RX7 rt tb nm) {o : Option Nat} {a : Nat} (e : o = some a) (ht : tg h a = 7) (hd : decode cc pc = .ok (.getfield 13, 3)) (K : J G Q (pc + 3) lo (vr (fR h 42 a) :: st) h k n) : J G Q pc lo (vr o :: st) h k n := by
  subst e
  exact j_get C (ci := 6) (kk := 2) rfl inX7 (by decide) wg_679 (Or.inl rfl) rfl (by decide) ht hd K
theorem pf_X7_13 (C : OK G cc nL RX7 rt tb nm) {o : Option Nat} {a : Nat} {x : Option Nat} (hnm : nm = "<init>") (e : o = some a) (ht : tg h a = 7) (hd : decode cc pc = .ok (.putfield 13, 3)) (K : J G Q (pc + 3) lo st (pR h 42 a x) k n) : J G Q pc lo (vr x :: vr o :: st) h k n := by
  subst e
  exact j_put C (ci := 6) (kk := 2) (v := vr x) rfl inX7 (by decide) wg_679 (Or.inl rfl) tyX7_ok nmX7 (Or.inr ⟨rfl, hnm, rfl⟩) (nr_a x) (ft_a x) rfl rfl (by decide) ht hd K
theorem gf_X7_17 (C : OK G cc nL RX7 rt tb nm) {o : Option Nat} {a : Nat} (e : o = some a) (ht : tg h a = 7) (hd : decode cc pc = .ok (.getfield 17, 3)) (K : J G Q (pc + 3) lo (vr (fR h 43 a) :: st) h k n) : J G Q pc lo (vr o :: st) h k n := by
  subst e
  exact j_get C (ci := 6) (kk := 3) rfl inX7 (by decide) wg_680 (Or.inl rfl) rfl (by decide) ht hd K
theorem pf_X7_17 (C : OK G cc nL RX7 rt tb nm) {o : Option Nat} {a : Nat} {x : Option Nat} (hnm : nm = "<init>") (e : o = some a) (ht : tg h a = 7) (hd : decode cc pc = .ok (.putfield 17, 3)) (K : J G Q (pc + 3) lo st (pR h 43 a x) k n) : J G Q pc lo (vr x :: vr o :: st) h k n := by
  subst e
  exact j_put C (ci := 6) (kk := 3) (v := vr x) rfl inX7 (by decide) wg_680 (Or.inl rfl) tyX7_ok nmX7 (Or.inr ⟨rfl, hnm, rfl⟩) (nr_a x) (ft_a x) rfl rfl (by decide) ht hd K
theorem gf_X7_20 (C : OK G cc nL RX7 rt tb nm) {o : Option Nat} {a : Nat} (e : o = some a) (ht : tg h a = 7) (hd : decode cc pc = .ok (.getfield 20, 3)) (K : J G Q (pc + 3) lo (vr (fR h 44 a) :: st) h k n) : J G Q pc lo (vr o :: st) h k n := by
  subst e
  exact j_get C (ci := 6) (kk := 4) rfl inX7 (by decide) wg_681 (Or.inl rfl) rfl (by decide) ht hd K
theorem pf_X7_20 (C : OK G cc nL RX7 rt tb nm) {o : Option Nat} {a : Nat} {x : Option Nat} (hnm : nm = "<init>") (e : o = some a) (ht : tg h a = 7) (hd : decode cc pc = .ok (.putfield 20, 3)) (K : J G Q (pc + 3) lo st (pR h 44 a x) k n) : J G Q pc lo (vr x :: vr o :: st) h k n := by
  subst e
  exact j_put C (ci := 6) (kk := 4) (v := vr x) rfl inX7 (by decide) wg_681 (Or.inl rfl) tyX7_ok nmX7 (Or.inr ⟨rfl, hnm, rfl⟩) (nr_a x) (ft_a x) rfl rfl (by decide) ht hd K
theorem gf_X7_23 (C : OK G cc nL RX7 rt tb nm) {o : Option Nat} {a : Nat} (e : o = some a) (ht : tg h a = 7) (hd : decode cc pc = .ok (.getfield 23, 3)) (K : J G Q (pc + 3) lo (vr (fR h 45 a) :: st) h k n) : J G Q pc lo (vr o :: st) h k n := by
  subst e
  exact j_get C (ci := 6) (kk := 5) rfl inX7 (by decide) wg_682 (Or.inl rfl) rfl (by decide) ht hd K
theorem pf_X7_23 (C : OK G cc nL RX7 rt tb nm) {o : Option Nat} {a : Nat} {x : Option Nat} (hnm : nm = "<init>") (e : o = some a) (ht : tg h a = 7) (hd : decode cc pc = .ok (.putfield 23, 3)) (K : J G Q (pc + 3) lo st (pR h 45 a x) k n) : J G Q pc lo (vr x :: vr o :: st) h k n := by
  subst e
  exact j_put C (ci := 6) (kk := 5) (v := vr x) rfl inX7 (by decide) wg_682 (Or.inl rfl) tyX7_ok nmX7 (Or.inr ⟨rfl, hnm, rfl⟩) (nr_a x) (ft_a x) rfl rfl (by decide) ht hd K
theorem gf_X7_26 (C : OK G cc nL RX7 rt tb nm) {o : Option Nat} {a : Nat} (e : o = some a) (ht : tg h a = 7) (hd : decode cc pc = .ok (.getfield 26, 3)) (K : J G Q (pc + 3) lo (vr (fR h 46 a) :: st) h k n) : J G Q pc lo (vr o :: st) h k n := by
  subst e
  exact j_get C (ci := 6) (kk := 6) rfl inX7 (by decide) wg_683 (Or.inl rfl) rfl (by decide) ht hd K
theorem pf_X7_26 (C : OK G cc nL RX7 rt tb nm) {o : Option Nat} {a : Nat} {x : Option Nat} (hnm : nm = "<init>") (e : o = some a) (ht : tg h a = 7) (hd : decode cc pc = .ok (.putfield 26, 3)) (K : J G Q (pc + 3) lo st (pR h 46 a x) k n) : J G Q pc lo (vr x :: vr o :: st) h k n := by
  subst e
  exact j_put C (ci := 6) (kk := 6) (v := vr x) rfl inX7 (by decide) wg_683 (Or.inl rfl) tyX7_ok nmX7 (Or.inr ⟨rfl, hnm, rfl⟩) (nr_a x) (ft_a x) rfl rfl (by decide) ht hd K
theorem gf_X7_29 (C : OK G cc nL RX7 rt tb nm) {o : Option Nat} {a : Nat} (e : o = some a) (ht : tg h a = 7) (hd : decode cc pc = .ok (.getfield 29, 3)) (K : J G Q (pc + 3) lo (vr (fR h 47 a) :: st) h k n) : J G Q pc lo (vr o :: st) h k n := by
  subst e
  exact j_get C (ci := 6) (kk := 7) rfl inX7 (by decide) wg_684 (Or.inl rfl) rfl (by decide) ht hd K
theorem pf_X7_29 (C : OK G cc nL RX7 rt tb nm) {o : Option Nat} {a : Nat} {x : Option Nat} (hnm : nm = "<init>") (e : o = some a) (ht : tg h a = 7) (hd : decode cc pc = .ok (.putfield 29, 3)) (K : J G Q (pc + 3) lo st (pR h 47 a x) k n) : J G Q pc lo (vr x :: vr o :: st) h k n := by
  subst e
  exact j_put C (ci := 6) (kk := 7) (v := vr x) rfl inX7 (by decide) wg_684 (Or.inl rfl) tyX7_ok nmX7 (Or.inr ⟨rfl, hnm, rfl⟩) (nr_a x) (ft_a x) rfl rfl (by decide) ht hd K
theorem gf_X7_32 (C : OK G cc nL RX7 rt tb nm) {o : Option Nat} {a : Nat} (e : o = some a) (ht : tg h a = 7) (hd : decode cc pc = .ok (.getfield 32, 3)) (K : J G Q (pc + 3) lo (vr (fR h 48 a) :: st) h k n) : J G Q pc lo (vr o :: st) h k n := by
  subst e
  exact j_get C (ci := 6) (kk := 8) rfl inX7 (by decide) wg_685 (Or.inl rfl) rfl (by decide) ht hd K
theorem pf_X7_32 (C : OK G cc nL RX7 rt tb nm) {o : Option Nat} {a : Nat} {x : Option Nat} (hnm : nm = "<init>") (e : o = some a) (ht : tg h a = 7) (hd : decode cc pc = .ok (.putfield 32, 3)) (K : J G Q (pc + 3) lo st (pR h 48 a x) k n) : J G Q pc lo (vr x :: vr o :: st) h k n := by
  subst e
  exact j_put C (ci := 6) (kk := 8) (v := vr x) rfl inX7 (by decide) wg_685 (Or.inl rfl) tyX7_ok nmX7 (Or.inr ⟨rfl, hnm, rfl⟩) (nr_a x) (ft_a x) rfl rfl (by decide) ht hd K
theorem gf_X7_35 (C : OK G cc nL RX7 rt tb nm) {o : Option Nat} {a : Nat} (e : o = some a) (ht : tg h a = 7) (hd : decode cc pc = .ok (.getfield 35, 3)) (K : J G Q (pc + 3) lo (vr (fR h 49 a) :: st) h k n) : J G Q pc lo (vr o :: st) h k n := by
  subst e
  exact j_get C (ci := 6) (kk := 9) rfl inX7 (by decide) wg_686 (Or.inl rfl) rfl (by decide) ht hd K
theorem pf_X7_35 (C : OK G cc nL RX7 rt tb nm) {o : Option Nat} {a : Nat} {x : Option Nat} (hnm : nm = "<init>") (e : o = some a) (ht : tg h a = 7) (hd : decode cc pc = .ok (.putfield 35, 3)) (K : J G Q (pc + 3) lo st (pR h 49 a x) k n) : J G Q pc lo (vr x :: vr o :: st) h k n := by
  subst e
  exact j_put C (ci := 6) (kk := 9) (v := vr x) rfl inX7 (by decide) wg_686 (Or.inl rfl) tyX7_ok nmX7 (Or.inr ⟨rfl, hnm, rfl⟩) (nr_a x) (ft_a x) rfl rfl (by decide) ht hd K
theorem gf_X7_38 (C : OK G cc nL RX7 rt tb nm) {o : Option Nat} {a : Nat} (e : o = some a) (ht : tg h a = 7) (hd : decode cc pc = .ok (.getfield 38, 3)) (K : J G Q (pc + 3) lo (vr (fR h 50 a) :: st) h k n) : J G Q pc lo (vr o :: st) h k n := by
  subst e
  exact j_get C (ci := 6) (kk := 10) rfl inX7 (by decide) wg_687 (Or.inl rfl) rfl (by decide) ht hd K
theorem pf_X7_38 (C : OK G cc nL RX7 rt tb nm) {o : Option Nat} {a : Nat} {x : Option Nat} (hnm : nm = "<init>") (e : o = some a) (ht : tg h a = 7) (hd : decode cc pc = .ok (.putfield 38, 3)) (K : J G Q (pc + 3) lo st (pR h 50 a x) k n) : J G Q pc lo (vr x :: vr o :: st) h k n := by
  subst e
  exact j_put C (ci := 6) (kk := 10) (v := vr x) rfl inX7 (by decide) wg_687 (Or.inl rfl) tyX7_ok nmX7 (Or.inr ⟨rfl, hnm, rfl⟩) (nr_a x) (ft_a x) rfl rfl (by decide) ht hd K
theorem gf_X7_41 (C : OK G cc nL RX7 rt tb nm) {o : Option Nat} {a : Nat} (e : o = some a) (ht : tg h a = 7) (hd : decode cc pc = .ok (.getfield 41, 3)) (K : J G Q (pc + 3) lo (vr (fR h 51 a) :: st) h k n) : J G Q pc lo (vr o :: st) h k n := by
  subst e
  exact j_get C (ci := 6) (kk := 11) rfl inX7 (by decide) wg_688 (Or.inl rfl) rfl (by decide) ht hd K
theorem pf_X7_41 (C : OK G cc nL RX7 rt tb nm) {o : Option Nat} {a : Nat} {x : Option Nat} (hnm : nm = "<init>") (e : o = some a) (ht : tg h a = 7) (hd : decode cc pc = .ok (.putfield 41, 3)) (K : J G Q (pc + 3) lo st (pR h 51 a x) k n) : J G Q pc lo (vr x :: vr o :: st) h k n := by
  subst e
  exact j_put C (ci := 6) (kk := 11) (v := vr x) rfl inX7 (by decide) wg_688 (Or.inl rfl) tyX7_ok nmX7 (Or.inr ⟨rfl, hnm, rfl⟩) (nr_a x) (ft_a x) rfl rfl (by decide) ht hd K
theorem gf_X7_44 (C : OK G cc nL RX7 rt tb nm) {o : Option Nat} {a : Nat} (e : o = some a) (ht : tg h a = 7) (hd : decode cc pc = .ok (.getfield 44, 3)) (K : J G Q (pc + 3) lo (vr (fR h 52 a) :: st) h k n) : J G Q pc lo (vr o :: st) h k n := by
  subst e
  exact j_get C (ci := 6) (kk := 12) rfl inX7 (by decide) wg_689 (Or.inl rfl) rfl (by decide) ht hd K
theorem pf_X7_44 (C : OK G cc nL RX7 rt tb nm) {o : Option Nat} {a : Nat} {x : Option Nat} (hnm : nm = "<init>") (e : o = some a) (ht : tg h a = 7) (hd : decode cc pc = .ok (.putfield 44, 3)) (K : J G Q (pc + 3) lo st (pR h 52 a x) k n) : J G Q pc lo (vr x :: vr o :: st) h k n := by
  subst e
  exact j_put C (ci := 6) (kk := 12) (v := vr x) rfl inX7 (by decide) wg_689 (Or.inl rfl) tyX7_ok nmX7 (Or.inr ⟨rfl, hnm, rfl⟩) (nr_a x) (ft_a x) rfl rfl (by decide) ht hd K
theorem gf_X7_48 (C : OK G cc nL RX7 rt tb nm) {o : Option Nat} {a : Nat} (e : o = some a) (ht : tg h a = 7) (hd : decode cc pc = .ok (.getfield 48, 3)) (K : J G Q (pc + 3) lo (vr (fR h 53 a) :: st) h k n) : J G Q pc lo (vr o :: st) h k n := by
  subst e
  exact j_get C (ci := 6) (kk := 13) rfl inX7 (by decide) wg_690 (Or.inl rfl) rfl (by decide) ht hd K
theorem pf_X7_48 (C : OK G cc nL RX7 rt tb nm) {o : Option Nat} {a : Nat} {x : Option Nat} (hnm : nm = "<init>") (e : o = some a) (ht : tg h a = 7) (hd : decode cc pc = .ok (.putfield 48, 3)) (K : J G Q (pc + 3) lo st (pR h 53 a x) k n) : J G Q pc lo (vr x :: vr o :: st) h k n := by
  subst e
  exact j_put C (ci := 6) (kk := 13) (v := vr x) rfl inX7 (by decide) wg_690 (Or.inl rfl) tyX7_ok nmX7 (Or.inr ⟨rfl, hnm, rfl⟩) (nr_a x) (ft_a x) rfl rfl (by decide) ht hd K
theorem gf_X7_51 (C : OK G cc nL RX7 rt tb nm) {o : Option Nat} {a : Nat} (e : o = some a) (ht : tg h a = 7) (hd : decode cc pc = .ok (.getfield 51, 3)) (K : J G Q (pc + 3) lo (vr (fR h 54 a) :: st) h k n) : J G Q pc lo (vr o :: st) h k n := by
  subst e
  exact j_get C (ci := 6) (kk := 14) rfl inX7 (by decide) wg_691 (Or.inl rfl) rfl (by decide) ht hd K
theorem pf_X7_51 (C : OK G cc nL RX7 rt tb nm) {o : Option Nat} {a : Nat} {x : Option Nat} (hnm : nm = "<init>") (e : o = some a) (ht : tg h a = 7) (hd : decode cc pc = .ok (.putfield 51, 3)) (K : J G Q (pc + 3) lo st (pR h 54 a x) k n) : J G Q pc lo (vr x :: vr o :: st) h k n := by
  subst e
  exact j_put C (ci := 6) (kk := 14) (v := vr x) rfl inX7 (by decide) wg_691 (Or.inl rfl) tyX7_ok nmX7 (Or.inr ⟨rfl, hnm, rfl⟩) (nr_a x) (ft_a x) rfl rfl (by decide) ht hd K
theorem gf_X7_54 (C : OK G cc nL RX7 rt tb nm) {o : Option Nat} {a : Nat} (e : o = some a) (ht : tg h a = 7) (hd : decode cc pc = .ok (.getfield 54, 3)) (K : J G Q (pc + 3) lo (vr (fR h 55 a) :: st) h k n) : J G Q pc lo (vr o :: st) h k n := by
  subst e
  exact j_get C (ci := 6) (kk := 15) rfl inX7 (by decide) wg_692 (Or.inl rfl) rfl (by decide) ht hd K
theorem pf_X7_54 (C : OK G cc nL RX7 rt tb nm) {o : Option Nat} {a : Nat} {x : Option Nat} (hnm : nm = "<init>") (e : o = some a) (ht : tg h a = 7) (hd : decode cc pc = .ok (.putfield 54, 3)) (K : J G Q (pc + 3) lo st (pR h 55 a x) k n) : J G Q pc lo (vr x :: vr o :: st) h k n := by
  subst e
  exact j_put C (ci := 6) (kk := 15) (v := vr x) rfl inX7 (by decide) wg_692 (Or.inl rfl) tyX7_ok nmX7 (Or.inr ⟨rfl, hnm, rfl⟩) (nr_a x) (ft_a x) rfl rfl (by decide) ht hd K
theorem gf_X7_57 (C : OK G cc nL RX7 rt tb nm) {o : Option Nat} {a : Nat} (e : o = some a) (ht : tg h a = 7) (hd : decode cc pc = .ok (.getfield 57, 3)) (K : J G Q (pc + 3) lo (vr (fR h 56 a) :: st) h k n) : J G Q pc lo (vr o :: st) h k n := by
  subst e
  exact j_get C (ci := 6) (kk := 16) rfl inX7 (by decide) wg_693 (Or.inl rfl) rfl (by decide) ht hd K
theorem pf_X7_57 (C : OK G cc nL RX7 rt tb nm) {o : Option Nat} {a : Nat} {x : Option Nat} (hnm : nm = "<init>") (e : o = some a) (ht : tg h a = 7) (hd : decode cc pc = .ok (.putfield 57, 3)) (K : J G Q (pc + 3) lo st (pR h 56 a x) k n) : J G Q pc lo (vr x :: vr o :: st) h k n := by
  subst e
  exact j_put C (ci := 6) (kk := 16) (v := vr x) rfl inX7 (by decide) wg_693 (Or.inl rfl) tyX7_ok nmX7 (Or.inr ⟨rfl, hnm, rfl⟩) (nr_a x) (ft_a x) rfl rfl (by decide) ht hd K
theorem gf_X7_93 (C : OK G cc nL RX7 rt tb nm) {o : Option Nat} {a : Nat} (e : o = some a) (ht : tg h a = 7) (hd : decode cc pc = .ok (.getfield 93, 3)) (K : J G Q (pc + 3) lo (vi (fI h 57 a) :: st) h k n) : J G Q pc lo (vr o :: st) h k n := by
  subst e
  exact j_get C (ci := 6) (kk := 17) rfl inX7 (by decide) wg_694 (Or.inl rfl) rfl (by decide) ht hd K
theorem pf_X7_93 (C : OK G cc nL RX7 rt tb nm) {o : Option Nat} {a : Nat} {x : Int32} (e : o = some a) (ht : tg h a = 7) (hd : decode cc pc = .ok (.putfield 93, 3)) (K : J G Q (pc + 3) lo st (pI h 57 a x) k n) : J G Q pc lo (vi x :: vr o :: st) h k n := by
  subst e
  exact j_put C (ci := 6) (kk := 17) (v := vi x) rfl inX7 (by decide) wg_694 (Or.inl rfl) tyX7_ok nmX7 (Or.inl rfl) rfl rfl rfl rfl (by decide) ht hd K
theorem gf_X7_80 (C : OK G cc nL RX7 rt tb nm) {o : Option Nat} {a : Nat} (e : o = some a) (ht : tg h a = 7) (hd : decode cc pc = .ok (.getfield 80, 3)) (K : J G Q (pc + 3) lo (vi (fI h 58 a) :: st) h k n) : J G Q pc lo (vr o :: st) h k n := by
  subst e
  exact j_get C (ci := 6) (kk := 18) rfl inX7 (by decide) wg_695 (Or.inl rfl) rfl (by decide) ht hd K
theorem pf_X7_80 (C : OK G cc nL RX7 rt tb nm) {o : Option Nat} {a : Nat} {x : Int32} (e : o = some a) (ht : tg h a = 7) (hd : decode cc pc = .ok (.putfield 80, 3)) (K : J G Q (pc + 3) lo st (pI h 58 a x) k n) : J G Q pc lo (vi x :: vr o :: st) h k n := by
  subst e
  exact j_put C (ci := 6) (kk := 18) (v := vi x) rfl inX7 (by decide) wg_695 (Or.inl rfl) tyX7_ok nmX7 (Or.inl rfl) rfl rfl rfl rfl (by decide) ht hd K
theorem gf_X7_61 (C : OK G cc nL RX7 rt tb nm) {o : Option Nat} {a : Nat} (e : o = some a) (ht : tg h a = 7) (hd : decode cc pc = .ok (.getfield 61, 3)) (K : J G Q (pc + 3) lo (vi (fI h 59 a) :: st) h k n) : J G Q pc lo (vr o :: st) h k n := by
  subst e
  exact j_get C (ci := 6) (kk := 19) rfl inX7 (by decide) wg_696 (Or.inl rfl) rfl (by decide) ht hd K
theorem pf_X7_61 (C : OK G cc nL RX7 rt tb nm) {o : Option Nat} {a : Nat} {x : Int32} (e : o = some a) (ht : tg h a = 7) (hd : decode cc pc = .ok (.putfield 61, 3)) (K : J G Q (pc + 3) lo st (pI h 59 a x) k n) : J G Q pc lo (vi x :: vr o :: st) h k n := by
  subst e
  exact j_put C (ci := 6) (kk := 19) (v := vi x) rfl inX7 (by decide) wg_696 (Or.inl rfl) tyX7_ok nmX7 (Or.inl rfl) rfl rfl rfl rfl (by decide) ht hd K
theorem gf_X7_90 (C : OK G cc nL RX7 rt tb nm) {o : Option Nat} {a : Nat} (e : o = some a) (ht : tg h a = 7) (hd : decode cc pc = .ok (.getfield 90, 3)) (K : J G Q (pc + 3) lo (vi (fI h 60 a) :: st) h k n) : J G Q pc lo (vr o :: st) h k n := by
  subst e
  exact j_get C (ci := 6) (kk := 20) rfl inX7 (by decide) wg_697 (Or.inl rfl) rfl (by decide) ht hd K
theorem pf_X7_90 (C : OK G cc nL RX7 rt tb nm) {o : Option Nat} {a : Nat} {x : Int32} (e : o = some a) (ht : tg h a = 7) (hd : decode cc pc = .ok (.putfield 90, 3)) (K : J G Q (pc + 3) lo st (pI h 60 a x) k n) : J G Q pc lo (vi x :: vr o :: st) h k n := by
  subst e
  exact j_put C (ci := 6) (kk := 20) (v := vi x) rfl inX7 (by decide) wg_697 (Or.inl rfl) tyX7_ok nmX7 (Or.inl rfl) rfl rfl rfl rfl (by decide) ht hd K
theorem gf_X7_64 (C : OK G cc nL RX7 rt tb nm) {o : Option Nat} {a : Nat} (e : o = some a) (ht : tg h a = 7) (hd : decode cc pc = .ok (.getfield 64, 3)) (K : J G Q (pc + 3) lo (vr (fR h 61 a) :: st) h k n) : J G Q pc lo (vr o :: st) h k n := by
  subst e
  exact j_get C (ci := 6) (kk := 21) rfl inX7 (by decide) wg_698 (Or.inl rfl) rfl (by decide) ht hd K
theorem pf_X7_64 (C : OK G cc nL RX7 rt tb nm) {o : Option Nat} {a : Nat} {x : Option Nat} (hnm : nm = "<init>") (e : o = some a) (ht : tg h a = 7) (hd : decode cc pc = .ok (.putfield 64, 3)) (K : J G Q (pc + 3) lo st (pR h 61 a x) k n) : J G Q pc lo (vr x :: vr o :: st) h k n := by
  subst e
  exact j_put C (ci := 6) (kk := 21) (v := vr x) rfl inX7 (by decide) wg_698 (Or.inl rfl) tyX7_ok nmX7 (Or.inr ⟨rfl, hnm, rfl⟩) (nr_a x) (ft_a x) rfl rfl (by decide) ht hd K
theorem gf_X7_67 (C : OK G cc nL RX7 rt tb nm) {o : Option Nat} {a : Nat} (e : o = some a) (ht : tg h a = 7) (hd : decode cc pc = .ok (.getfield 67, 3)) (K : J G Q (pc + 3) lo (vr (fR h 62 a) :: st) h k n) : J G Q pc lo (vr o :: st) h k n := by
  subst e
  exact j_get C (ci := 6) (kk := 22) rfl inX7 (by decide) wg_699 (Or.inl rfl) rfl (by decide) ht hd K
theorem pf_X7_67 (C : OK G cc nL RX7 rt tb nm) {o : Option Nat} {a : Nat} {x : Option Nat} (hnm : nm = "<init>") (e : o = some a) (ht : tg h a = 7) (hd : decode cc pc = .ok (.putfield 67, 3)) (K : J G Q (pc + 3) lo st (pR h 62 a x) k n) : J G Q pc lo (vr x :: vr o :: st) h k n := by
  subst e
  exact j_put C (ci := 6) (kk := 22) (v := vr x) rfl inX7 (by decide) wg_699 (Or.inl rfl) tyX7_ok nmX7 (Or.inr ⟨rfl, hnm, rfl⟩) (nr_a x) (ft_a x) rfl rfl (by decide) ht hd K
theorem gf_X7_70 (C : OK G cc nL RX7 rt tb nm) {o : Option Nat} {a : Nat} (e : o = some a) (ht : tg h a = 7) (hd : decode cc pc = .ok (.getfield 70, 3)) (K : J G Q (pc + 3) lo (vi (fI h 63 a) :: st) h k n) : J G Q pc lo (vr o :: st) h k n := by
  subst e
  exact j_get C (ci := 6) (kk := 23) rfl inX7 (by decide) wg_700 (Or.inl rfl) rfl (by decide) ht hd K
theorem pf_X7_70 (C : OK G cc nL RX7 rt tb nm) {o : Option Nat} {a : Nat} {x : Int32} (e : o = some a) (ht : tg h a = 7) (hd : decode cc pc = .ok (.putfield 70, 3)) (K : J G Q (pc + 3) lo st (pI h 63 a x) k n) : J G Q pc lo (vi x :: vr o :: st) h k n := by
  subst e
  exact j_put C (ci := 6) (kk := 23) (v := vi x) rfl inX7 (by decide) wg_700 (Or.inl rfl) tyX7_ok nmX7 (Or.inl rfl) rfl rfl rfl rfl (by decide) ht hd K
theorem gf_X7_182 (C : OK G cc nL RX7 rt tb nm) {o : Option Nat} {a : Nat} (e : o = some a) (ht : tg h a = 7) (hd : decode cc pc = .ok (.getfield 182, 3)) (K : J G Q (pc + 3) lo (vi (fI h 64 a) :: st) h k n) : J G Q pc lo (vr o :: st) h k n := by
  subst e
  exact j_get C (ci := 6) (kk := 24) rfl inX7 (by decide) wg_701 (Or.inl rfl) rfl (by decide) ht hd K
theorem pf_X7_182 (C : OK G cc nL RX7 rt tb nm) {o : Option Nat} {a : Nat} {x : Int32} (e : o = some a) (ht : tg h a = 7) (hd : decode cc pc = .ok (.putfield 182, 3)) (K : J G Q (pc + 3) lo st (pI h 64 a x) k n) : J G Q pc lo (vi x :: vr o :: st) h k n := by
  subst e
  exact j_put C (ci := 6) (kk := 24) (v := vi x) rfl inX7 (by decide) wg_701 (Or.inl rfl) tyX7_ok nmX7 (Or.inl rfl) rfl rfl rfl rfl (by decide) ht hd K
theorem gf_X7_99 (C : OK G cc nL RX7 rt tb nm) {o : Option Nat} {a : Nat} (e : o = some a) (ht : tg h a = 7) (hd : decode cc pc = .ok (.getfield 99, 3)) (K : J G Q (pc + 3) lo (vi (fI h 65 a) :: st) h k n) : J G Q pc lo (vr o :: st) h k n := by
  subst e
  exact j_get C (ci := 6) (kk := 25) rfl inX7 (by decide) wg_702 (Or.inl rfl) rfl (by decide) ht hd K
theorem pf_X7_99 (C : OK G cc nL RX7 rt tb nm) {o : Option Nat} {a : Nat} {x : Int32} (e : o = some a) (ht : tg h a = 7) (hd : decode cc pc = .ok (.putfield 99, 3)) (K : J G Q (pc + 3) lo st (pI h 65 a x) k n) : J G Q pc lo (vi x :: vr o :: st) h k n := by
  subst e
  exact j_put C (ci := 6) (kk := 25) (v := vi x) rfl inX7 (by decide) wg_702 (Or.inl rfl) tyX7_ok nmX7 (Or.inl rfl) rfl rfl rfl rfl (by decide) ht hd K
theorem gf_X7_102 (C : OK G cc nL RX7 rt tb nm) {o : Option Nat} {a : Nat} (e : o = some a) (ht : tg h a = 7) (hd : decode cc pc = .ok (.getfield 102, 3)) (K : J G Q (pc + 3) lo (vi (fI h 66 a) :: st) h k n) : J G Q pc lo (vr o :: st) h k n := by
  subst e
  exact j_get C (ci := 6) (kk := 26) rfl inX7 (by decide) wg_703 (Or.inl rfl) rfl (by decide) ht hd K
theorem pf_X7_102 (C : OK G cc nL RX7 rt tb nm) {o : Option Nat} {a : Nat} {x : Int32} (e : o = some a) (ht : tg h a = 7) (hd : decode cc pc = .ok (.putfield 102, 3)) (K : J G Q (pc + 3) lo st (pI h 66 a x) k n) : J G Q pc lo (vi x :: vr o :: st) h k n := by
  subst e
  exact j_put C (ci := 6) (kk := 26) (v := vi x) rfl inX7 (by decide) wg_703 (Or.inl rfl) tyX7_ok nmX7 (Or.inl rfl) rfl rfl rfl rfl (by decide) ht hd K
theorem gf_X7_115 (C : OK G cc nL RX7 rt tb nm) {o : Option Nat} {a : Nat} (e : o = some a) (ht : tg h a = 7) (hd : decode cc pc = .ok (.getfield 115, 3)) (K : J G Q (pc + 3) lo (vi (fI h 67 a) :: st) h k n) : J G Q pc lo (vr o :: st) h k n := by
  subst e
  exact j_get C (ci := 6) (kk := 27) rfl inX7 (by decide) wg_704 (Or.inl rfl) rfl (by decide) ht hd K
theorem pf_X7_115 (C : OK G cc nL RX7 rt tb nm) {o : Option Nat} {a : Nat} {x : Int32} (e : o = some a) (ht : tg h a = 7) (hd : decode cc pc = .ok (.putfield 115, 3)) (K : J G Q (pc + 3) lo st (pI h 67 a x) k n) : J G Q pc lo (vi x :: vr o :: st) h k n := by
  subst e
  exact j_put C (ci := 6) (kk := 27) (v := vi x) rfl inX7 (by decide) wg_704 (Or.inl rfl) tyX7_ok nmX7 (Or.inl rfl) rfl rfl rfl rfl (by decide) ht hd K
theorem gf_X7_133 (C : OK G cc nL RX7 rt tb nm) {o : Option Nat} {a : Nat} (e : o = some a) (ht : tg h a = 7) (hd : decode cc pc = .ok (.getfield 133, 3)) (K : J G Q (pc + 3) lo (vi (fI h 68 a) :: st) h k n) : J G Q pc lo (vr o :: st) h k n := by
  subst e
  exact j_get C (ci := 6) (kk := 28) rfl inX7 (by decide) wg_705 (Or.inl rfl) rfl (by decide) ht hd K
theorem pf_X7_133 (C : OK G cc nL RX7 rt tb nm) {o : Option Nat} {a : Nat} {x : Int32} (e : o = some a) (ht : tg h a = 7) (hd : decode cc pc = .ok (.putfield 133, 3)) (K : J G Q (pc + 3) lo st (pI h 68 a x) k n) : J G Q pc lo (vi x :: vr o :: st) h k n := by
  subst e
  exact j_put C (ci := 6) (kk := 28) (v := vi x) rfl inX7 (by decide) wg_705 (Or.inl rfl) tyX7_ok nmX7 (Or.inl rfl) rfl rfl rfl rfl (by decide) ht hd K
theorem gf_X7_122 (C : OK G cc nL RX7 rt tb nm) {o : Option Nat} {a : Nat} (e : o = some a) (ht : tg h a = 7) (hd : decode cc pc = .ok (.getfield 122, 3)) (K : J G Q (pc + 3) lo (vi (fI h 69 a) :: st) h k n) : J G Q pc lo (vr o :: st) h k n := by
  subst e
  exact j_get C (ci := 6) (kk := 29) rfl inX7 (by decide) wg_706 (Or.inl rfl) rfl (by decide) ht hd K
theorem pf_X7_122 (C : OK G cc nL RX7 rt tb nm) {o : Option Nat} {a : Nat} {x : Int32} (e : o = some a) (ht : tg h a = 7) (hd : decode cc pc = .ok (.putfield 122, 3)) (K : J G Q (pc + 3) lo st (pI h 69 a x) k n) : J G Q pc lo (vi x :: vr o :: st) h k n := by
  subst e
  exact j_put C (ci := 6) (kk := 29) (v := vi x) rfl inX7 (by decide) wg_706 (Or.inl rfl) tyX7_ok nmX7 (Or.inl rfl) rfl rfl rfl rfl (by decide) ht hd K
theorem gf_X7_105 (C : OK G cc nL RX7 rt tb nm) {o : Option Nat} {a : Nat} (e : o = some a) (ht : tg h a = 7) (hd : decode cc pc = .ok (.getfield 105, 3)) (K : J G Q (pc + 3) lo (vi (fI h 70 a) :: st) h k n) : J G Q pc lo (vr o :: st) h k n := by
  subst e
  exact j_get C (ci := 6) (kk := 30) rfl inX7 (by decide) wg_707 (Or.inl rfl) rfl (by decide) ht hd K
theorem pf_X7_105 (C : OK G cc nL RX7 rt tb nm) {o : Option Nat} {a : Nat} {x : Int32} (e : o = some a) (ht : tg h a = 7) (hd : decode cc pc = .ok (.putfield 105, 3)) (K : J G Q (pc + 3) lo st (pI h 70 a x) k n) : J G Q pc lo (vi x :: vr o :: st) h k n := by
  subst e
  exact j_put C (ci := 6) (kk := 30) (v := vi x) rfl inX7 (by decide) wg_707 (Or.inl rfl) tyX7_ok nmX7 (Or.inl rfl) rfl rfl rfl rfl (by decide) ht hd K
theorem gf_X7_179 (C : OK G cc nL RX7 rt tb nm) {o : Option Nat} {a : Nat} (e : o = some a) (ht : tg h a = 7) (hd : decode cc pc = .ok (.getfield 179, 3)) (K : J G Q (pc + 3) lo (vi (fI h 71 a) :: st) h k n) : J G Q pc lo (vr o :: st) h k n := by
  subst e
  exact j_get C (ci := 6) (kk := 31) rfl inX7 (by decide) wg_708 (Or.inl rfl) rfl (by decide) ht hd K
theorem pf_X7_179 (C : OK G cc nL RX7 rt tb nm) {o : Option Nat} {a : Nat} {x : Int32} (e : o = some a) (ht : tg h a = 7) (hd : decode cc pc = .ok (.putfield 179, 3)) (K : J G Q (pc + 3) lo st (pI h 71 a x) k n) : J G Q pc lo (vi x :: vr o :: st) h k n := by
  subst e
  exact j_put C (ci := 6) (kk := 31) (v := vi x) rfl inX7 (by decide) wg_708 (Or.inl rfl) tyX7_ok nmX7 (Or.inl rfl) rfl rfl rfl rfl (by decide) ht hd K
theorem gf_X7_87 (C : OK G cc nL RX7 rt tb nm) {o : Option Nat} {a : Nat} (e : o = some a) (ht : tg h a = 7) (hd : decode cc pc = .ok (.getfield 87, 3)) (K : J G Q (pc + 3) lo (vi (fI h 72 a) :: st) h k n) : J G Q pc lo (vr o :: st) h k n := by
  subst e
  exact j_get C (ci := 6) (kk := 32) rfl inX7 (by decide) wg_709 (Or.inl rfl) rfl (by decide) ht hd K
theorem pf_X7_87 (C : OK G cc nL RX7 rt tb nm) {o : Option Nat} {a : Nat} {x : Int32} (e : o = some a) (ht : tg h a = 7) (hd : decode cc pc = .ok (.putfield 87, 3)) (K : J G Q (pc + 3) lo st (pI h 72 a x) k n) : J G Q pc lo (vi x :: vr o :: st) h k n := by
  subst e
  exact j_put C (ci := 6) (kk := 32) (v := vi x) rfl inX7 (by decide) wg_709 (Or.inl rfl) tyX7_ok nmX7 (Or.inl rfl) rfl rfl rfl rfl (by decide) ht hd K
theorem gf_X7_150 (C : OK G cc nL RX7 rt tb nm) {o : Option Nat} {a : Nat} (e : o = some a) (ht : tg h a = 7) (hd : decode cc pc = .ok (.getfield 150, 3)) (K : J G Q (pc + 3) lo (vi (fI h 73 a) :: st) h k n) : J G Q pc lo (vr o :: st) h k n := by
  subst e
  exact j_get C (ci := 6) (kk := 33) rfl inX7 (by decide) wg_710 (Or.inl rfl) rfl (by decide) ht hd K
theorem pf_X7_150 (C : OK G cc nL RX7 rt tb nm) {o : Option Nat} {a : Nat} {x : Int32} (e : o = some a) (ht : tg h a = 7) (hd : decode cc pc = .ok (.putfield 150, 3)) (K : J G Q (pc + 3) lo st (pI h 73 a x) k n) : J G Q pc lo (vi x :: vr o :: st) h k n := by
  subst e
  exact j_put C (ci := 6) (kk := 33) (v := vi x) rfl inX7 (by decide) wg_710 (Or.inl rfl) tyX7_ok nmX7 (Or.inl rfl) rfl rfl rfl rfl (by decide) ht hd K
theorem gf_X7_108 (C : OK G cc nL RX7 rt tb nm) {o : Option Nat} {a : Nat} (e : o = some a) (ht : tg h a = 7) (hd : decode cc pc = .ok (.getfield 108, 3)) (K : J G Q (pc + 3) lo (vi (fI h 74 a) :: st) h k n) : J G Q pc lo (vr o :: st) h k n := by
  subst e
  exact j_get C (ci := 6) (kk := 34) rfl inX7 (by decide) wg_711 (Or.inl rfl) rfl (by decide) ht hd K
theorem pf_X7_108 (C : OK G cc nL RX7 rt tb nm) {o : Option Nat} {a : Nat} {x : Int32} (e : o = some a) (ht : tg h a = 7) (hd : decode cc pc = .ok (.putfield 108, 3)) (K : J G Q (pc + 3) lo st (pI h 74 a x) k n) : J G Q pc lo (vi x :: vr o :: st) h k n := by
  subst e
  exact j_put C (ci := 6) (kk := 34) (v := vi x) rfl inX7 (by decide) wg_711 (Or.inl rfl) tyX7_ok nmX7 (Or.inl rfl) rfl rfl rfl rfl (by decide) ht hd K
end SITES
def yX4_leadOn : MethodName := ⟨RX4, "leadOn", "(LRefHeap$Tour;Z)V"⟩
theorem mi_L_99 : MI RL 99 yX6_init cX6_init 3 2 := ⟨wg_17, wg_18, wg_1, wg_19, ⟨by decide +kernel, by decide +kernel⟩, by decide +kernel, by decide, rfl⟩
theorem mi_X6_24 : MIN RX6 "RefHeap" 24 yX0_init cX0_init 1 0 := ⟨wn_27, wg_28, wg_2, wg_29, ⟨by decide +kernel, by decide +kernel⟩, by decide +kernel, by decide, rfl⟩
theorem mi_X6_34 : MIN RX6 "RefHeap" 34 yX5_init cX5_init 1 0 := ⟨wn_50, wg_51, wg_3, wg_52, ⟨by decide +kernel, by decide +kernel⟩, by decide +kernel, by decide, rfl⟩
theorem mv_L_178 : MV RL 178 yX6_collect cX6_collect 2 (some .int) 1 := ⟨wg_108, wg_109, wg_110, wg_1, wg_111, ⟨by decide +kernel, by decide +kernel⟩, by decide +kernel, by decide⟩
theorem mv_X6_172 : MV RX6 172 yX6_collectWhole cX6_collectWhole 2 (some .int) 1 := ⟨wg_112, wg_114, ws_0, wg_1, wg_115, ⟨by decide +kernel, by decide +kernel⟩, by decide +kernel, by decide⟩
theorem mv_X6_245 : MV RX6 245 yX6_carryOver cX6_carryOver 1 none 0 := ⟨wg_116, wg_118, ws_1, wg_1, wg_119, ⟨by decide +kernel, by decide +kernel⟩, by decide +kernel, by decide⟩
theorem mv_X6_249 : MV RX6 249 yX0_takeAll cX0_takeAll 2 none 1 := ⟨wg_120, wg_121, wg_122, wg_2, wg_123, ⟨by decide +kernel, by decide +kernel⟩, by decide +kernel, by decide⟩
theorem mv_X0_29 : MV RX0 29 yX0_empty cX0_empty 1 none 0 := ⟨wg_124, wg_125, wg_126, wg_2, wg_127, ⟨by decide +kernel, by decide +kernel⟩, by decide +kernel, by decide⟩
theorem mv_X6_253 : MV RX6 253 yX6_reachFromRoots cX6_reachFromRoots 4 none 1 := ⟨wg_128, wg_130, ws_2, wg_1, wg_131, ⟨by decide +kernel, by decide +kernel⟩, by decide +kernel, by decide⟩
theorem mv_X6_184 : MV RX6 184 yX5_begin cX5_begin 1 none 0 := ⟨wg_132, wg_133, wg_134, wg_3, wg_135, ⟨by decide +kernel, by decide +kernel⟩, by decide +kernel, by decide⟩
theorem mv_X6_187 : MV RX6 187 yX5_comeTo cX5_comeTo 2 none 1 := ⟨wg_136, wg_137, wg_138, wg_3, wg_139, ⟨by decide +kernel, by decide +kernel⟩, by decide +kernel, by decide⟩
theorem mv_X5_28 : MV RX5 28 yX5_has cX5_has 2 (some .boolean) 1 := ⟨wg_140, wg_141, wg_142, wg_3, wg_143, ⟨by decide +kernel, by decide +kernel⟩, by decide +kernel, by decide⟩
theorem mu_X6_264_X1 : MU RX6 264 RX1 "RefHeap$Thing" yX4_leadOn yX1_leadOn cX1_leadOn 7 none 2 := ⟨wg_144, wg_146, wg_147, wg_148, wg_11, wg_149, ⟨by decide +kernel, by decide +kernel⟩, by decide +kernel, by decide, Or.inl wn_145⟩
theorem mu_X6_264_X2 : MU RX6 264 RX2 "RefHeap$Thing" yX4_leadOn yX2_leadOn cX2_leadOn 4 none 2 := ⟨wg_144, wg_146, wg_151, wg_152, wg_12, wg_153, ⟨by decide +kernel, by decide +kernel⟩, by decide +kernel, by decide, Or.inl wn_145⟩
theorem mu_X6_264_X3 : MU RX6 264 RX3 "RefHeap$Thing" yX4_leadOn yX3_leadOn cX3_leadOn 3 none 2 := ⟨wg_144, wg_146, wg_155, wg_156, wg_14, wg_157, ⟨by decide +kernel, by decide +kernel⟩, by decide +kernel, by decide, Or.inl wn_145⟩
theorem mv_X1_17 : MV RX1 17 yX5_comeTo cX5_comeTo 2 none 1 := ⟨wg_150, wg_137, wg_138, wg_3, wg_139, ⟨by decide +kernel, by decide +kernel⟩, by decide +kernel, by decide⟩
theorem mv_X2_27 : MV RX2 27 yX5_comeTo cX5_comeTo 2 none 1 := ⟨wg_154, wg_137, wg_138, wg_3, wg_139, ⟨by decide +kernel, by decide +kernel⟩, by decide +kernel, by decide⟩
theorem mv_X3_32 : MV RX3 32 yX5_comeTo cX5_comeTo 2 none 1 := ⟨wg_158, wg_137, wg_138, wg_3, wg_139, ⟨by decide +kernel, by decide +kernel⟩, by decide +kernel, by decide⟩
theorem mv_X3_22 : MV RX3 22 yX5_has cX5_has 2 (some .boolean) 1 := ⟨wg_159, wg_141, wg_142, wg_3, wg_143, ⟨by decide +kernel, by decide +kernel⟩, by decide +kernel, by decide⟩
theorem mu_X6_268_X1 : MU RX6 268 RX1 "RefHeap$Thing" yX4_leadOnAsKey yX4_leadOnAsKey cX4_leadOnAsKey 3 none 1 := ⟨wg_160, wg_162, wg_163, wg_161, wg_10, wg_166, ⟨by decide +kernel, by decide +kernel⟩, by decide +kernel, by decide, Or.inr ⟨wg_161, _, _, _, wg_166⟩⟩
theorem mu_X6_268_X2 : MU RX6 268 RX2 "RefHeap$Thing" yX4_leadOnAsKey yX4_leadOnAsKey cX4_leadOnAsKey 3 none 1 := ⟨wg_160, wg_162, wg_164, wg_161, wg_10, wg_166, ⟨by decide +kernel, by decide +kernel⟩, by decide +kernel, by decide, Or.inr ⟨wg_161, _, _, _, wg_166⟩⟩
theorem mu_X6_268_X3 : MU RX6 268 RX3 "RefHeap$Thing" yX4_leadOnAsKey yX4_leadOnAsKey cX4_leadOnAsKey 3 none 1 := ⟨wg_160, wg_162, wg_165, wg_161, wg_10, wg_166, ⟨by decide +kernel, by decide +kernel⟩, by decide +kernel, by decide, Or.inr ⟨wg_161, _, _, _, wg_166⟩⟩
theorem mv_X4_32 : MV RX4 32 yX5_comeTo cX5_comeTo 2 none 1 := ⟨wg_167, wg_137, wg_138, wg_3, wg_139, ⟨by decide +kernel, by decide +kernel⟩, by decide +kernel, by decide⟩
theorem mv_X6_257 : MV RX6 257 yX6_letGoOfUnreached cX6_letGoOfUnreached 3 none 0 := ⟨wg_168, wg_170, ws_3, wg_1, wg_171, ⟨by decide +kernel, by decide +kernel⟩, by decide +kernel, by decide⟩
theorem mv_X6_273 : MV RX6 273 yX5_has cX5_has 2 (some .boolean) 1 := ⟨wg_173, wg_141, wg_142, wg_3, wg_143, ⟨by decide +kernel, by decide +kernel⟩, by decide +kernel, by decide⟩
theorem mv_X6_277 : MV RX6 277 yX3_refersOutside cX3_refersOutside 2 (some .boolean) 1 := ⟨wg_174, wg_175, wg_176, wg_14, wg_177, ⟨by decide +kernel, by decide +kernel⟩, by decide +kernel, by decide⟩
theorem mv_X6_139 : MV RX6 139 yX3_forget cX3_forget 1 none 0 := ⟨wg_178, wg_179, wg_180, wg_14, wg_181, ⟨by decide +kernel, by decide +kernel⟩, by decide +kernel, by decide⟩
theorem mv_X6_142 : MV RX6 142 yX6_tellQueue cX6_tellQueue 2 (some .int) 1 := ⟨wg_182, wg_184, ws_4, wg_1, wg_185, ⟨by decide +kernel, by decide +kernel⟩, by decide +kernel, by decide⟩
theorem mv_X6_296 : MV RX6 296 yX2_add cX2_add 2 none 1 := ⟨wg_186, wg_187, wg_188, wg_12, wg_189, ⟨by decide +kernel, by decide +kernel⟩, by decide +kernel, by decide⟩
theorem mv_X6_260 : MV RX6 260 yX6_freeUnreached cX6_freeUnreached 4 (some .int) 0 := ⟨wg_190, wg_192, ws_5, wg_1, wg_193, ⟨by decide +kernel, by decide +kernel⟩, by decide +kernel, by decide⟩
theorem mv_X6_284 : MV RX6 284 yX0_empty cX0_empty 1 none 0 := ⟨wg_194, wg_125, wg_126, wg_2, wg_127, ⟨by decide +kernel, by decide +kernel⟩, by decide +kernel, by decide⟩
theorem mv_X6_238 : MV RX6 238 yX0_add cX0_add 2 none 1 := ⟨wg_195, wg_196, wg_197, wg_2, wg_198, ⟨by decide +kernel, by decide +kernel⟩, by decide +kernel, by decide⟩
theorem ms_L_93 : MS RL 93 yL_cell cL_cell 2 (some .int) 2 := ⟨wg_199, wg_200, wg_0, wg_201, ⟨by decide +kernel, by decide +kernel⟩, by decide +kernel, by decide⟩
theorem ms_L_105 : MSH RL 105 yL_plain cL_plain 6 (some .int) [((0 : Nat), (12 : Nat), (15 : Nat), (13 : Nat))] 5 := ⟨wg_202, wg_203, wg_0, wg_204, ⟨by decide +kernel, by decide +kernel⟩, by decide +kernel, by decide⟩
theorem mv_L_7 : MV RL 7 yX6_plain cX6_plain 5 (some .int) 3 := ⟨wg_206, wg_207, wg_208, wg_1, wg_209, ⟨by decide +kernel, by decide +kernel⟩, by decide +kernel, by decide⟩
theorem mv_X6_55 : MV RX6 55 yX6_checkRoot cX6_checkRoot 2 none 1 := ⟨wg_210, wg_212, ws_6, wg_1, wg_213, ⟨by decide +kernel, by decide +kernel⟩, by decide +kernel, by decide⟩
theorem ms_X6_59 : MS RX6 59 yX6_checkRange cX6_checkRange 3 none 3 := ⟨wg_214, wg_215, wg_1, wg_216, ⟨by decide +kernel, by decide +kernel⟩, by decide +kernel, by decide⟩
theorem mv_X6_63 : MV RX6 63 yX6_makeRoom cX6_makeRoom 2 (some .boolean) 1 := ⟨wg_284, wg_286, ws_8, wg_1, wg_287, ⟨by decide +kernel, by decide +kernel⟩, by decide +kernel, by decide⟩
theorem mv_X6_232 : MV RX6 232 yX6_fits cX6_fits 2 (some .boolean) 1 := ⟨wg_288, wg_290, ws_9, wg_1, wg_291, ⟨by decide +kernel, by decide +kernel⟩, by decide +kernel, by decide⟩
theorem mi_X6_69 : MI RX6 69 yX1_init cX1_init 5 4 := ⟨wg_294, wg_295, wg_11, wg_296, ⟨by decide +kernel, by decide +kernel⟩, by decide +kernel, by decide, rfl⟩
theorem mi_X1_1 : MI RX1 1 yX4_init cX4_init 3 2 := ⟨wg_297, wg_298, wg_10, wg_299, ⟨by decide +kernel, by decide +kernel⟩, by decide +kernel, by decide, rfl⟩
theorem mv_X6_72 : MV RX6 72 yX6_keep cX6_keep 3 (some .int) 2 := ⟨wg_346, wg_348, ws_10, wg_1, wg_349, ⟨by decide +kernel, by decide +kernel⟩, by decide +kernel, by decide⟩
theorem mv_X6_241 : MV RX6 241 yX6_isCarryDue cX6_isCarryDue 1 (some .boolean) 0 := ⟨wg_350, wg_352, ws_11, wg_1, wg_353, ⟨by decide +kernel, by decide +kernel⟩, by decide +kernel, by decide⟩
theorem ms_L_112 : MSH RL 112 yL_row cL_row 6 (some .int) [((0 : Nat), (12 : Nat), (15 : Nat), (13 : Nat))] 5 := ⟨wg_354, wg_355, wg_0, wg_356, ⟨by decide +kernel, by decide +kernel⟩, by decide +kernel, by decide⟩
theorem mv_L_15 : MV RL 15 yX6_row cX6_row 5 (some .int) 3 := ⟨wg_357, wg_358, wg_359, wg_1, wg_360, ⟨by decide +kernel, by decide +kernel⟩, by decide +kernel, by decide⟩
theorem ms_L_116 : MSH RL 116 yL_queue cL_queue 4 (some .int) [((0 : Nat), (9 : Nat), (12 : Nat), (13 : Nat))] 3 := ⟨wg_361, wg_362, wg_0, wg_363, ⟨by decide +kernel, by decide +kernel⟩, by decide +kernel, by decide⟩
theorem mv_L_19 : MV RL 19 yX6_queue cX6_queue 2 (some .int) 1 := ⟨wg_364, wg_365, wg_366, wg_1, wg_367, ⟨by decide +kernel, by decide +kernel⟩, by decide +kernel, by decide⟩
theorem mi_X6_78 : MI RX6 78 yX2_init cX2_init 1 0 := ⟨wg_370, wg_371, wg_12, wg_372, ⟨by decide +kernel, by decide +kernel⟩, by decide +kernel, by decide, rfl⟩
theorem mi_X2_3 : MI RX2 3 yX4_init cX4_init 3 2 := ⟨wg_373, wg_298, wg_10, wg_299, ⟨by decide +kernel, by decide +kernel⟩, by decide +kernel, by decide, rfl⟩
theorem ms_L_120 : MSH RL 120 yL_loose cL_loose 7 (some .int) [((0 : Nat), (14 : Nat), (17 : Nat), (13 : Nat)), ((0 : Nat), (14 : Nat), (21 : Nat), (27 : Nat))] 6 := ⟨wg_393, wg_394, wg_0, wg_395, ⟨by decide +kernel, by decide +kernel⟩, by decide +kernel, by decide⟩
theorem mv_L_23 : MV RL 23 yX6_loose cX6_loose 7 (some .int) 4 := ⟨wg_397, wg_398, wg_399, wg_1, wg_400, ⟨by decide +kernel, by decide +kernel⟩, by decide +kernel, by decide⟩
theorem mv_X6_79 : MV RX6 79 yX6_checkRootOrNone cX6_checkRootOrNone 2 none 1 := ⟨wg_401, wg_403, ws_12, wg_1, wg_404, ⟨by decide +kernel, by decide +kernel⟩, by decide +kernel, by decide⟩
theorem mv_X6_82 : MV RX6 82 yX6_objectAt cX6_objectAt 3 (some (.object "RefHeap$Thing")) 1 := ⟨wg_405, wg_407, ws_13, wg_1, wg_408, ⟨by decide +kernel, by decide +kernel⟩, by decide +kernel, by decide⟩
theorem mv_X6_86 : MV RX6 86 yX6_lineAtOrNone cX6_lineAtOrNone 2 (some (.object "RefHeap$Line")) 1 := ⟨wg_425, wg_427, ws_14, wg_1, wg_428, ⟨by decide +kernel, by decide +kernel⟩, by decide +kernel, by decide⟩
theorem mv_X6_146 : MV RX6 146 yX6_lineAt cX6_lineAt 4 (some (.object "RefHeap$Line")) 1 := ⟨wg_429, wg_431, ws_15, wg_1, wg_432, ⟨by decide +kernel, by decide +kernel⟩, by decide +kernel, by decide⟩
theorem mi_X6_92 : MI RX6 92 yX3_init cX3_init 6 5 := ⟨wg_435, wg_436, wg_14, wg_437, ⟨by decide +kernel, by decide +kernel⟩, by decide +kernel, by decide, rfl⟩
theorem mi_X3_3 : MI RX3 3 yX4_init cX4_init 3 2 := ⟨wg_438, wg_298, wg_10, wg_299, ⟨by decide +kernel, by decide +kernel⟩, by decide +kernel, by decide, rfl⟩
theorem ms_L_124 : MSH RL 124 yL_pair cL_pair 7 (some .int) [((0 : Nat), (14 : Nat), (17 : Nat), (13 : Nat)), ((0 : Nat), (14 : Nat), (21 : Nat), (27 : Nat))] 6 := ⟨wg_472, wg_473, wg_0, wg_474, ⟨by decide +kernel, by decide +kernel⟩, by decide +kernel, by decide⟩
theorem mv_L_29 : MV RL 29 yX6_pair cX6_pair 8 (some .int) 4 := ⟨wg_475, wg_476, wg_477, wg_1, wg_478, ⟨by decide +kernel, by decide +kernel⟩, by decide +kernel, by decide⟩
theorem mv_X6_95 : MV RX6 95 yX6_atOrNone cX6_atOrNone 2 (some (.object "RefHeap$Thing")) 1 := ⟨wg_479, wg_481, ws_16, wg_1, wg_482, ⟨by decide +kernel, by decide +kernel⟩, by decide +kernel, by decide⟩
theorem ms_L_127 : MSH RL 127 yL_copy cL_copy 5 (some .int) [((0 : Nat), (10 : Nat), (13 : Nat), (13 : Nat))] 4 := ⟨wg_483, wg_484, wg_0, wg_485, ⟨by decide +kernel, by decide +kernel⟩, by decide +kernel, by decide⟩
theorem mv_L_32 : MV RL 32 yX6_copy cX6_copy 3 (some .int) 2 := ⟨wg_486, wg_487, wg_488, wg_1, wg_489, ⟨by decide +kernel, by decide +kernel⟩, by decide +kernel, by decide⟩
theorem mv_X6_98 : MV RX6 98 yX6_putRoot cX6_putRoot 3 (some .int) 2 := ⟨wg_490, wg_492, ws_17, wg_1, wg_493, ⟨by decide +kernel, by decide +kernel⟩, by decide +kernel, by decide⟩
theorem ms_X6_111 : MS RX6 111 yX6_oneIfObject cX6_oneIfObject 1 (some .int) 1 := ⟨wg_494, wg_495, wg_1, wg_496, ⟨by decide +kernel, by decide +kernel⟩, by decide +kernel, by decide⟩
theorem ms_L_131 : MSH RL 131 yL_link cL_link 6 (some .int) [((0 : Nat), (12 : Nat), (15 : Nat), (13 : Nat)), ((0 : Nat), (12 : Nat), (19 : Nat), (27 : Nat))] 5 := ⟨wg_497, wg_498, wg_0, wg_499, ⟨by decide +kernel, by decide +kernel⟩, by decide +kernel, by decide⟩
theorem mv_L_36 : MV RL 36 yX6_link cX6_link 5 (some .int) 3 := ⟨wg_500, wg_501, wg_502, wg_1, wg_503, ⟨by decide +kernel, by decide +kernel⟩, by decide +kernel, by decide⟩
theorem ms_X6_101 : MS RX6 101 yX6_checkNotNegative cX6_checkNotNegative 1 none 1 := ⟨wg_504, wg_505, wg_1, wg_506, ⟨by decide +kernel, by decide +kernel⟩, by decide +kernel, by decide⟩
theorem mv_X6_104 : MV RX6 104 yX6_holderOfRef cX6_holderOfRef 4 (some (.object "RefHeap$Holder")) 2 := ⟨wg_508, wg_510, ws_18, wg_1, wg_511, ⟨by decide +kernel, by decide +kernel⟩, by decide +kernel, by decide⟩
theorem mv_X6_224 : MV RX6 224 yX6_holderAt cX6_holderAt 4 (some (.object "RefHeap$Holder")) 1 := ⟨wg_512, wg_514, ws_19, wg_1, wg_515, ⟨by decide +kernel, by decide +kernel⟩, by decide +kernel, by decide⟩
theorem ms_L_134 : MSH RL 134 yL_fetch cL_fetch 6 (some .int) [((0 : Nat), (12 : Nat), (15 : Nat), (13 : Nat)), ((0 : Nat), (12 : Nat), (19 : Nat), (27 : Nat))] 5 := ⟨wg_518, wg_519, wg_0, wg_520, ⟨by decide +kernel, by decide +kernel⟩, by decide +kernel, by decide⟩
theorem mv_L_39 : MV RL 39 yX6_fetch cX6_fetch 4 (some .int) 3 := ⟨wg_521, wg_522, wg_523, wg_1, wg_524, ⟨by decide +kernel, by decide +kernel⟩, by decide +kernel, by decide⟩
theorem ms_L_139 : MSH RL 139 yL_set cL_set 7 (some .int) [((0 : Nat), (11 : Nat), (14 : Nat), (13 : Nat)), ((0 : Nat), (11 : Nat), (18 : Nat), (27 : Nat))] 5 := ⟨wg_525, wg_526, wg_0, wg_527, ⟨by decide +kernel, by decide +kernel⟩, by decide +kernel, by decide⟩
theorem mv_L_42 : MV RL 42 yX6_set cX6_set 8 (some .long) 3 := ⟨wg_528, wg_529, wg_530, wg_1, wg_531, ⟨by decide +kernel, by decide +kernel⟩, by decide +kernel, by decide⟩
theorem mv_X6_115 : MV RX6 115 yX6_holderOfNumber cX6_holderOfNumber 4 (some (.object "RefHeap$Holder")) 2 := ⟨wg_532, wg_534, ws_20, wg_1, wg_535, ⟨by decide +kernel, by decide +kernel⟩, by decide +kernel, by decide⟩
theorem ms_L_143 : MSH RL 143 yL_get cL_get 5 (some .int) [((0 : Nat), (9 : Nat), (12 : Nat), (13 : Nat)), ((0 : Nat), (9 : Nat), (16 : Nat), (27 : Nat))] 4 := ⟨wg_537, wg_538, wg_0, wg_539, ⟨by decide +kernel, by decide +kernel⟩, by decide +kernel, by decide⟩
theorem mv_L_46 : MV RL 46 yX6_get cX6_get 3 (some .long) 2 := ⟨wg_540, wg_541, wg_542, wg_1, wg_543, ⟨by decide +kernel, by decide +kernel⟩, by decide +kernel, by decide⟩
theorem ms_L_146 : MSH RL 146 yL_referent cL_referent 6 (some .int) [((0 : Nat), (12 : Nat), (15 : Nat), (13 : Nat)), ((0 : Nat), (12 : Nat), (19 : Nat), (27 : Nat))] 5 := ⟨wg_544, wg_545, wg_0, wg_546, ⟨by decide +kernel, by decide +kernel⟩, by decide +kernel, by decide⟩
theorem mv_L_50 : MV RL 50 yX6_referent cX6_referent 5 (some .int) 3 := ⟨wg_547, wg_548, wg_549, wg_1, wg_550, ⟨by decide +kernel, by decide +kernel⟩, by decide +kernel, by decide⟩
theorem mv_X6_122 : MV RX6 122 yX6_pairAt cX6_pairAt 3 (some (.object "RefHeap$Loose")) 1 := ⟨wg_551, wg_553, ws_21, wg_1, wg_554, ⟨by decide +kernel, by decide +kernel⟩, by decide +kernel, by decide⟩
theorem mv_X6_130 : MV RX6 130 yX6_looseAt cX6_looseAt 4 (some (.object "RefHeap$Loose")) 1 := ⟨wg_555, wg_557, ws_22, wg_1, wg_558, ⟨by decide +kernel, by decide +kernel⟩, by decide +kernel, by decide⟩
theorem ms_L_149 : MSH RL 149 yL_give cL_give 5 (some .int) [((0 : Nat), (10 : Nat), (13 : Nat), (13 : Nat)), ((0 : Nat), (10 : Nat), (17 : Nat), (27 : Nat))] 4 := ⟨wg_561, wg_562, wg_0, wg_563, ⟨by decide +kernel, by decide +kernel⟩, by decide +kernel, by decide⟩
theorem mv_L_53 : MV RL 53 yX6_give cX6_give 4 (some .int) 2 := ⟨wg_564, wg_565, wg_566, wg_1, wg_567, ⟨by decide +kernel, by decide +kernel⟩, by decide +kernel, by decide⟩
theorem ms_L_152 : MSH RL 152 yL_clear cL_clear 5 (some .int) [((0 : Nat), (10 : Nat), (13 : Nat), (13 : Nat)), ((0 : Nat), (10 : Nat), (17 : Nat), (27 : Nat))] 4 := ⟨wg_568, wg_569, wg_0, wg_570, ⟨by decide +kernel, by decide +kernel⟩, by decide +kernel, by decide⟩
theorem mv_L_56 : MV RL 56 yX6_clear cX6_clear 4 (some .int) 2 := ⟨wg_571, wg_572, wg_573, wg_1, wg_574, ⟨by decide +kernel, by decide +kernel⟩, by decide +kernel, by decide⟩
theorem ms_L_156 : MSH RL 156 yL_poll cL_poll 5 (some .int) [((0 : Nat), (10 : Nat), (13 : Nat), (13 : Nat)), ((0 : Nat), (10 : Nat), (17 : Nat), (27 : Nat))] 4 := ⟨wg_575, wg_576, wg_0, wg_577, ⟨by decide +kernel, by decide +kernel⟩, by decide +kernel, by decide⟩
theorem mv_L_60 : MV RL 60 yX6_poll cX6_poll 3 (some .int) 2 := ⟨wg_578, wg_579, wg_580, wg_1, wg_581, ⟨by decide +kernel, by decide +kernel⟩, by decide +kernel, by decide⟩
theorem mv_X6_149 : MV RX6 149 yX2_takeFirst cX2_takeFirst 2 (some (.object "RefHeap$Loose")) 0 := ⟨wg_582, wg_583, wg_584, wg_12, wg_585, ⟨by decide +kernel, by decide +kernel⟩, by decide +kernel, by decide⟩
theorem ms_L_159 : MSH RL 159 yL_waiting cL_waiting 4 (some .int) [((0 : Nat), (9 : Nat), (12 : Nat), (13 : Nat)), ((0 : Nat), (9 : Nat), (15 : Nat), (27 : Nat))] 3 := ⟨wg_586, wg_587, wg_0, wg_588, ⟨by decide +kernel, by decide +kernel⟩, by decide +kernel, by decide⟩
theorem mv_L_63 : MV RL 63 yX6_waiting cX6_waiting 2 (some .int) 1 := ⟨wg_589, wg_590, wg_591, wg_1, wg_592, ⟨by decide +kernel, by decide +kernel⟩, by decide +kernel, by decide⟩
theorem ms_L_162 : MSH RL 162 yL_kind cL_kind 4 (some .int) [((0 : Nat), (9 : Nat), (12 : Nat), (13 : Nat))] 3 := ⟨wg_593, wg_594, wg_0, wg_595, ⟨by decide +kernel, by decide +kernel⟩, by decide +kernel, by decide⟩
theorem mv_L_66 : MV RL 66 yX6_kind cX6_kind 3 (some .int) 1 := ⟨wg_596, wg_597, wg_598, wg_1, wg_599, ⟨by decide +kernel, by decide +kernel⟩, by decide +kernel, by decide⟩
theorem ms_L_165 : MSH RL 165 yL_hash cL_hash 4 (some .int) [((0 : Nat), (9 : Nat), (12 : Nat), (13 : Nat))] 3 := ⟨wg_600, wg_601, wg_0, wg_602, ⟨by decide +kernel, by decide +kernel⟩, by decide +kernel, by decide⟩
theorem mv_L_69 : MV RL 69 yX6_hash cX6_hash 3 (some .int) 1 := ⟨wg_603, wg_604, wg_605, wg_1, wg_606, ⟨by decide +kernel, by decide +kernel⟩, by decide +kernel, by decide⟩
theorem ms_L_168 : MSH RL 168 yL_same cL_same 5 (some .int) [((0 : Nat), (17 : Nat), (20 : Nat), (13 : Nat))] 4 := ⟨wg_607, wg_608, wg_0, wg_609, ⟨by decide +kernel, by decide +kernel⟩, by decide +kernel, by decide⟩
theorem mv_L_72 : MV RL 72 yX6_same cX6_same 3 (some .boolean) 2 := ⟨wg_610, wg_611, wg_612, wg_1, wg_613, ⟨by decide +kernel, by decide +kernel⟩, by decide +kernel, by decide⟩
theorem ms_L_171 : MSH RL 171 yL_open cL_open 4 (some .int) [((0 : Nat), (9 : Nat), (12 : Nat), (13 : Nat)), ((0 : Nat), (9 : Nat), (15 : Nat), (27 : Nat))] 3 := ⟨wg_614, wg_615, wg_0, wg_616, ⟨by decide +kernel, by decide +kernel⟩, by decide +kernel, by decide⟩
theorem mv_L_76 : MV RL 76 yX6_open cX6_open 3 (some .int) 1 := ⟨wg_617, wg_618, wg_619, wg_1, wg_620, ⟨by decide +kernel, by decide +kernel⟩, by decide +kernel, by decide⟩
theorem ms_L_174 : MSH RL 174 yL_close cL_close 3 (some .int) [((0 : Nat), (8 : Nat), (11 : Nat), (27 : Nat))] 2 := ⟨wg_622, wg_623, wg_0, wg_624, ⟨by decide +kernel, by decide +kernel⟩, by decide +kernel, by decide⟩
theorem mv_L_79 : MV RL 79 yX6_close cX6_close 3 (some .int) 0 := ⟨wg_625, wg_626, wg_627, wg_1, wg_628, ⟨by decide +kernel, by decide +kernel⟩, by decide +kernel, by decide⟩
theorem ms_L_183 : MSH RL 183 yL_every cL_every 4 (some .int) [((0 : Nat), (9 : Nat), (12 : Nat), (13 : Nat))] 3 := ⟨wg_630, wg_631, wg_0, wg_632, ⟨by decide +kernel, by decide +kernel⟩, by decide +kernel, by decide⟩
theorem mv_L_83 : MV RL 83 yX6_every cX6_every 2 (some .int) 1 := ⟨wg_633, wg_634, wg_635, wg_1, wg_636, ⟨by decide +kernel, by decide +kernel⟩, by decide +kernel, by decide⟩
theorem ms_L_186 : MSH RL 186 yL_count cL_count 4 (some .int) [((0 : Nat), (9 : Nat), (12 : Nat), (13 : Nat))] 3 := ⟨wg_637, wg_638, wg_0, wg_639, ⟨by decide +kernel, by decide +kernel⟩, by decide +kernel, by decide⟩
theorem mv_L_86 : MV RL 86 yX6_count cX6_count 2 (some .int) 1 := ⟨wg_640, wg_641, wg_642, wg_1, wg_643, ⟨by decide +kernel, by decide +kernel⟩, by decide +kernel, by decide⟩
theorem ms_L_189 : MSH RL 189 yL_digest cL_digest 4 (some .int) [((0 : Nat), (8 : Nat), (11 : Nat), (13 : Nat))] 3 := ⟨wg_644, wg_645, wg_0, wg_646, ⟨by decide +kernel, by decide +kernel⟩, by decide +kernel, by decide⟩
theorem mv_L_89 : MV RL 89 yX6_digest cX6_digest 6 (some .long) 1 := ⟨wg_647, wg_648, wg_649, wg_1, wg_650, ⟨by decide +kernel, by decide +kernel⟩, by decide +kernel, by decide⟩
theorem ms_X6_194 : MS RX6 194 yX6_mix cX6_mix 4 (some .long) 2 := ⟨wg_652, wg_653, wg_1, wg_654, ⟨by decide +kernel, by decide +kernel⟩, by decide +kernel, by decide⟩
theorem mu_X6_198_X1 : MU RX6 198 RX1 "RefHeap$Thing" yX4_digestOn yX1_digestOn cX1_digestOn 11 (some .long) 2 := ⟨wg_656, wg_658, wg_659, wg_660, wg_11, wg_661, ⟨by decide +kernel, by decide +kernel⟩, by decide +kernel, by decide, Or.inr ⟨wg_657, _, _, _, wg_665⟩⟩
theorem mu_X6_198_X2 : MU RX6 198 RX2 "RefHeap$Thing" yX4_digestOn yX4_digestOn cX4_digestOn 4 (some .long) 2 := ⟨wg_656, wg_658, wg_663, wg_657, wg_10, wg_665, ⟨by decide +kernel, by decide +kernel⟩, by decide +kernel, by decide, Or.inr ⟨wg_657, _, _, _, wg_665⟩⟩
theorem mu_X6_198_X3 : MU RX6 198 RX3 "RefHeap$Thing" yX4_digestOn yX4_digestOn cX4_digestOn 4 (some .long) 2 := ⟨wg_656, wg_658, wg_664, wg_657, wg_10, wg_665, ⟨by decide +kernel, by decide +kernel⟩, by decide +kernel, by decide, Or.inr ⟨wg_657, _, _, _, wg_665⟩⟩
theorem ms_X1_23 : MSN RX1 "RefHeap" 23 yX6_mix cX6_mix 4 (some .long) 2 := ⟨wn_662, wg_653, wg_1, wg_654, ⟨by decide +kernel, by decide +kernel⟩, by decide +kernel, by decide⟩
theorem ms_X4_16 : MSN RX4 "RefHeap" 16 yX6_mix cX6_mix 4 (some .long) 2 := ⟨wn_666, wg_653, wg_1, wg_654, ⟨by decide +kernel, by decide +kernel⟩, by decide +kernel, by decide⟩
theorem mv_L_109 : MV RL 109 yX7_thrown cX7_thrown 1 (some .int) 0 := ⟨wg_667, wg_668, wg_669, wg_5, wg_670, ⟨by decide +kernel, by decide +kernel⟩, by decide +kernel, by decide⟩
theorem mi_L_104 : MI RL 104 yX7_init cX7_init 4 2 := ⟨wg_673, wg_674, wg_5, wg_675, ⟨by decide +kernel, by decide +kernel⟩, by decide +kernel, by decide, rfl⟩
theorem mv_L_108 : MV RL 108 yX7_plain cX7_plain 4 (some .int) 3 := ⟨wg_784, wg_785, wg_786, wg_5, wg_787, ⟨by decide +kernel, by decide +kernel⟩, by decide +kernel, by decide⟩
theorem mv_X7_136 : MV RX7 136 yX7_none cX7_none 2 (some .boolean) 1 := ⟨wg_788, wg_790, ws_23, wg_5, wg_791, ⟨by decide +kernel, by decide +kernel⟩, by decide +kernel, by decide⟩
theorem mv_X7_139 : MV RX7 139 yX7_bad cX7_bad 1 (some .int) 0 := ⟨wg_792, wg_794, ws_24, wg_5, wg_795, ⟨by decide +kernel, by decide +kernel⟩, by decide +kernel, by decide⟩
theorem mv_X7_143 : MV RX7 143 yX7_make cX7_make 7 (some .int) 3 := ⟨wg_796, wg_798, ws_25, wg_5, wg_799, ⟨by decide +kernel, by decide +kernel⟩, by decide +kernel, by decide⟩
theorem ms_X7_76 : MS RX7 76 yX7_cells cX7_cells 2 (some .int) 2 := ⟨wg_800, wg_801, wg_5, wg_802, ⟨by decide +kernel, by decide +kernel⟩, by decide +kernel, by decide⟩
theorem mv_X7_83 : MV RX7 83 yX7_collectAll cX7_collectAll 9 (some .int) 1 := ⟨wg_803, wg_805, ws_26, wg_5, wg_806, ⟨by decide +kernel, by decide +kernel⟩, by decide +kernel, by decide⟩
theorem mv_X7_111 : MV RX7 111 yX7_reach cX7_reach 2 none 1 := ⟨wg_807, wg_809, ws_27, wg_5, wg_810, ⟨by decide +kernel, by decide +kernel⟩, by decide +kernel, by decide⟩
theorem mv_X7_118 : MV RX7 118 yX7_spread cX7_spread 4 none 1 := ⟨wg_811, wg_813, ws_28, wg_5, wg_814, ⟨by decide +kernel, by decide +kernel⟩, by decide +kernel, by decide⟩
theorem mv_X7_125 : MV RX7 125 yX7_comes cX7_comes 3 (some .boolean) 1 := ⟨wg_815, wg_817, ws_29, wg_5, wg_818, ⟨by decide +kernel, by decide +kernel⟩, by decide +kernel, by decide⟩
theorem mv_X7_129 : MV RX7 129 yX7_cellsOf cX7_cellsOf 2 (some .int) 1 := ⟨wg_819, wg_821, ws_30, wg_5, wg_822, ⟨by decide +kernel, by decide +kernel⟩, by decide +kernel, by decide⟩
theorem mv_X7_96 : MV RX7 96 yX7_push cX7_push 7 none 0 := ⟨wg_823, wg_825, ws_31, wg_5, wg_826, ⟨by decide +kernel, by decide +kernel⟩, by decide +kernel, by decide⟩
theorem mv_X7_147 : MV RX7 147 yX7_made cX7_made 3 (some .int) 2 := ⟨wg_827, wg_829, ws_32, wg_5, wg_830, ⟨by decide +kernel, by decide +kernel⟩, by decide +kernel, by decide⟩
theorem mv_L_115 : MV RL 115 yX7_row cX7_row 4 (some .int) 3 := ⟨wg_831, wg_832, wg_833, wg_5, wg_834, ⟨by decide +kernel, by decide +kernel⟩, by decide +kernel, by decide⟩
theorem mv_L_119 : MV RL 119 yX7_queue cX7_queue 3 (some .int) 1 := ⟨wg_835, wg_836, wg_837, wg_5, wg_838, ⟨by decide +kernel, by decide +kernel⟩, by decide +kernel, by decide⟩
theorem mv_L_123 : MV RL 123 yX7_loose cX7_loose 5 (some .int) 4 := ⟨wg_839, wg_840, wg_841, wg_5, wg_842, ⟨by decide +kernel, by decide +kernel⟩, by decide +kernel, by decide⟩
theorem mv_X7_153 : MV RX7 153 yX7_noneOrNull cX7_noneOrNull 2 (some .boolean) 1 := ⟨wg_843, wg_845, ws_33, wg_5, wg_846, ⟨by decide +kernel, by decide +kernel⟩, by decide +kernel, by decide⟩
theorem mv_X7_156 : MV RX7 156 yX7_is cX7_is 3 (some .boolean) 2 := ⟨wg_847, wg_849, ws_34, wg_5, wg_850, ⟨by decide +kernel, by decide +kernel⟩, by decide +kernel, by decide⟩
theorem mv_X7_160 : MV RX7 160 yX7_wrong cX7_wrong 1 (some .int) 0 := ⟨wg_851, wg_853, ws_35, wg_5, wg_854, ⟨by decide +kernel, by decide +kernel⟩, by decide +kernel, by decide⟩
theorem mv_X7_163 : MV RX7 163 yX7_of cX7_of 2 (some .int) 1 := ⟨wg_855, wg_857, ws_36, wg_5, wg_858, ⟨by decide +kernel, by decide +kernel⟩, by decide +kernel, by decide⟩
theorem mv_X7_166 : MV RX7 166 yX7_makeLoose cX7_makeLoose 7 (some .int) 5 := ⟨wg_859, wg_861, ws_37, wg_5, wg_862, ⟨by decide +kernel, by decide +kernel⟩, by decide +kernel, by decide⟩
theorem mv_L_126 : MV RL 126 yX7_pair cX7_pair 5 (some .int) 4 := ⟨wg_863, wg_864, wg_865, wg_5, wg_866, ⟨by decide +kernel, by decide +kernel⟩, by decide +kernel, by decide⟩
theorem mv_L_130 : MV RL 130 yX7_copy cX7_copy 3 (some .int) 2 := ⟨wg_867, wg_868, wg_869, wg_5, wg_870, ⟨by decide +kernel, by decide +kernel⟩, by decide +kernel, by decide⟩
theorem mv_X7_170 : MV RX7 170 yX7_comesTo cX7_comesTo 3 (some .int) 2 := ⟨wg_871, wg_873, ws_38, wg_5, wg_874, ⟨by decide +kernel, by decide +kernel⟩, by decide +kernel, by decide⟩
theorem mv_L_133 : MV RL 133 yX7_link cX7_link 5 (some .int) 3 := ⟨wg_875, wg_876, wg_877, wg_5, wg_878, ⟨by decide +kernel, by decide +kernel⟩, by decide +kernel, by decide⟩
theorem mv_L_136 : MV RL 136 yX7_fetch cX7_fetch 5 (some .int) 3 := ⟨wg_879, wg_880, wg_881, wg_5, wg_882, ⟨by decide +kernel, by decide +kernel⟩, by decide +kernel, by decide⟩
theorem mv_L_142 : MV RL 142 yX7_set cX7_set 8 (some .long) 3 := ⟨wg_883, wg_884, wg_885, wg_5, wg_886, ⟨by decide +kernel, by decide +kernel⟩, by decide +kernel, by decide⟩
theorem mv_X7_173 : MV RX7 173 yX7_noNumber cX7_noNumber 3 (some .boolean) 2 := ⟨wg_887, wg_889, ws_39, wg_5, wg_890, ⟨by decide +kernel, by decide +kernel⟩, by decide +kernel, by decide⟩
theorem mv_L_145 : MV RL 145 yX7_get cX7_get 3 (some .long) 2 := ⟨wg_891, wg_892, wg_893, wg_5, wg_894, ⟨by decide +kernel, by decide +kernel⟩, by decide +kernel, by decide⟩
theorem mv_L_148 : MV RL 148 yX7_referent cX7_referent 5 (some .int) 3 := ⟨wg_895, wg_896, wg_897, wg_5, wg_898, ⟨by decide +kernel, by decide +kernel⟩, by decide +kernel, by decide⟩
theorem mv_X7_176 : MV RX7 176 yX7_isLoose cX7_isLoose 2 (some .boolean) 1 := ⟨wg_899, wg_901, ws_40, wg_5, wg_902, ⟨by decide +kernel, by decide +kernel⟩, by decide +kernel, by decide⟩
theorem mv_L_151 : MV RL 151 yX7_give cX7_give 3 (some .int) 2 := ⟨wg_903, wg_904, wg_905, wg_5, wg_906, ⟨by decide +kernel, by decide +kernel⟩, by decide +kernel, by decide⟩
theorem mv_L_155 : MV RL 155 yX7_clear cX7_clear 4 (some .int) 2 := ⟨wg_907, wg_908, wg_909, wg_5, wg_910, ⟨by decide +kernel, by decide +kernel⟩, by decide +kernel, by decide⟩
theorem mv_L_158 : MV RL 158 yX7_poll cX7_poll 5 (some .int) 2 := ⟨wg_911, wg_912, wg_913, wg_5, wg_914, ⟨by decide +kernel, by decide +kernel⟩, by decide +kernel, by decide⟩
theorem mv_L_161 : MV RL 161 yX7_waiting cX7_waiting 2 (some .int) 1 := ⟨wg_915, wg_916, wg_917, wg_5, wg_918, ⟨by decide +kernel, by decide +kernel⟩, by decide +kernel, by decide⟩
theorem mv_L_164 : MV RL 164 yX7_kind cX7_kind 2 (some .int) 1 := ⟨wg_919, wg_920, wg_921, wg_5, wg_922, ⟨by decide +kernel, by decide +kernel⟩, by decide +kernel, by decide⟩
theorem mv_L_167 : MV RL 167 yX7_hash cX7_hash 3 (some .int) 1 := ⟨wg_923, wg_924, wg_925, wg_5, wg_926, ⟨by decide +kernel, by decide +kernel⟩, by decide +kernel, by decide⟩
theorem mv_L_170 : MV RL 170 yX7_same cX7_same 3 (some .boolean) 2 := ⟨wg_927, wg_928, wg_929, wg_5, wg_930, ⟨by decide +kernel, by decide +kernel⟩, by decide +kernel, by decide⟩
theorem mv_L_173 : MV RL 173 yX7_open cX7_open 3 (some .int) 1 := ⟨wg_931, wg_932, wg_933, wg_5, wg_934, ⟨by decide +kernel, by decide +kernel⟩, by decide +kernel, by decide⟩
theorem mv_L_177 : MV RL 177 yX7_close cX7_close 1 (some .int) 0 := ⟨wg_935, wg_936, wg_937, wg_5, wg_938, ⟨by decide +kernel, by decide +kernel⟩, by decide +kernel, by decide⟩
theorem mv_L_182 : MV RL 182 yX7_collect cX7_collect 2 (some .int) 1 := ⟨wg_939, wg_940, wg_941, wg_5, wg_942, ⟨by decide +kernel, by decide +kernel⟩, by decide +kernel, by decide⟩
theorem mv_L_185 : MV RL 185 yX7_every cX7_every 2 (some .int) 1 := ⟨wg_943, wg_944, wg_945, wg_5, wg_946, ⟨by decide +kernel, by decide +kernel⟩, by decide +kernel, by decide⟩
theorem mv_L_188 : MV RL 188 yX7_count cX7_count 2 (some .int) 1 := ⟨wg_947, wg_948, wg_949, wg_5, wg_950, ⟨by decide +kernel, by decide +kernel⟩, by decide +kernel, by decide⟩
theorem mv_L_191 : MV RL 191 yX7_digest cX7_digest 9 (some .long) 1 := ⟨wg_951, wg_952, wg_953, wg_5, wg_954, ⟨by decide +kernel, by decide +kernel⟩, by decide +kernel, by decide⟩
