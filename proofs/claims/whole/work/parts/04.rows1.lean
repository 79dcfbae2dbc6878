section RW1
variable {G : Cx} {cc : ByteArray} {nL : Nat} {own nm : String} {rt : Option FieldType} {tb : List ExceptionTableEntry} {Q : Option AV ⊕ String → Hp → Prop} {pc : Nat} {lo : List (Option AV)} {st : List AV} {h : Hp} {k n : Nat}
theorem j_iconst (C : OK G cc nL own rt tb nm) {z : Int} {v : Int32} (hd : decode cc pc = .ok (.iconst z, 1)) (hv : Int32.ofInt z = v) (K : J G Q (pc + 1) lo (vi v :: st) h k n) : J G Q pc lo (st) h k n := by
  obtain ⟨p, l, e, s, m, args, below, meth, c, D, dA, sz, lv, mc, ms⟩ := G
  obtain ⟨hx, hb, -⟩ := C
  intro H locs ls hH hS hL
  exact lv_iconst hx hb hd hv (K H locs ls hH hS hL)
theorem j_bipush (C : OK G cc nL own rt tb nm) {z : Int} {v : Int32} (hd : decode cc pc = .ok (.bipush z, 2)) (hv : (Int8.ofInt z).toInt32 = v) (K : J G Q (pc + 2) lo (vi v :: st) h k n) : J G Q pc lo (st) h k n := by
  obtain ⟨p, l, e, s, m, args, below, meth, c, D, dA, sz, lv, mc, ms⟩ := G
  obtain ⟨hx, hb, -⟩ := C
  intro H locs ls hH hS hL
  exact lv_bipush hx hb hd hv (K H locs ls hH hS hL)
theorem j_sipush (C : OK G cc nL own rt tb nm) {z : Int} {v : Int32} (hd : decode cc pc = .ok (.sipush z, 3)) (hv : (Int16.ofInt z).toInt32 = v) (K : J G Q (pc + 3) lo (vi v :: st) h k n) : J G Q pc lo (st) h k n := by
  obtain ⟨p, l, e, s, m, args, below, meth, c, D, dA, sz, lv, mc, ms⟩ := G
  obtain ⟨hx, hb, -⟩ := C
  intro H locs ls hH hS hL
  exact lv_sipush hx hb hd hv (K H locs ls hH hS hL)
theorem j_lconst (C : OK G cc nL own rt tb nm) {z : Fin 2} {v : Int64} (hd : decode cc pc = .ok (.lconst z, 1)) (hv : Int64.ofNat (z : Nat) = v) (K : J G Q (pc + 1) lo (vl v :: st) h k n) : J G Q pc lo (st) h k n := by
  obtain ⟨p, l, e, s, m, args, below, meth, c, D, dA, sz, lv, mc, ms⟩ := G
  obtain ⟨hx, hb, -⟩ := C
  intro H locs ls hH hS hL
  exact lv_lconst hx hb hd hv (K H locs ls hH hS hL)
theorem j_null (C : OK G cc nL own rt tb nm) (hd : decode cc pc = .ok (.aconst_null, 1)) (K : J G Q (pc + 1) lo (vr none :: st) h k n) : J G Q pc lo (st) h k n := by
  obtain ⟨p, l, e, s, m, args, below, meth, c, D, dA, sz, lv, mc, ms⟩ := G
  obtain ⟨hx, hb, -⟩ := C
  intro H locs ls hH hS hL
  exact lv_null hx hb hd (K H locs ls hH hS hL)
theorem j_iload_n (C : OK G cc nL own rt tb nm) {z : Fin 4} {x : Int32} (hd : decode cc pc = .ok (.iload_n z, 1)) (hl : lo[(z : Nat)]? = some (some (vi x))) (K : J G Q (pc + 1) lo (vi x :: st) h k n) : J G Q pc lo (st) h k n := by
  obtain ⟨p, l, e, s, m, args, below, meth, c, D, dA, sz, lv, mc, ms⟩ := G
  obtain ⟨hx, hb, -⟩ := C
  intro H locs ls hH hS hL
  exact lv_iload_n hx hb hd rfl (hL.2.2 _ _ hl) (K H locs ls hH hS hL)
theorem j_iload (C : OK G cc nL own rt tb nm) {z : Nat} {x : Int32} (hd : decode cc pc = .ok (.iload z, 2)) (hl : lo[z]? = some (some (vi x))) (K : J G Q (pc + 2) lo (vi x :: st) h k n) : J G Q pc lo (st) h k n := by
  obtain ⟨p, l, e, s, m, args, below, meth, c, D, dA, sz, lv, mc, ms⟩ := G
  obtain ⟨hx, hb, -⟩ := C
  intro H locs ls hH hS hL
  exact lv_iload hx hb hd (hL.2.2 _ _ hl) (K H locs ls hH hS hL)
theorem j_lload_n (C : OK G cc nL own rt tb nm) {z : Fin 4} {x : Int64} (hd : decode cc pc = .ok (.lload_n z, 1)) (hl : lo[(z : Nat)]? = some (some (vl x))) (K : J G Q (pc + 1) lo (vl x :: st) h k n) : J G Q pc lo (st) h k n := by
  obtain ⟨p, l, e, s, m, args, below, meth, c, D, dA, sz, lv, mc, ms⟩ := G
  obtain ⟨hx, hb, -⟩ := C
  intro H locs ls hH hS hL
  exact lv_lload_n hx hb hd rfl (hL.2.2 _ _ hl) (K H locs ls hH hS hL)
theorem j_lload (C : OK G cc nL own rt tb nm) {z : Nat} {x : Int64} (hd : decode cc pc = .ok (.lload z, 2)) (hl : lo[z]? = some (some (vl x))) (K : J G Q (pc + 2) lo (vl x :: st) h k n) : J G Q pc lo (st) h k n := by
  obtain ⟨p, l, e, s, m, args, below, meth, c, D, dA, sz, lv, mc, ms⟩ := G
  obtain ⟨hx, hb, -⟩ := C
  intro H locs ls hH hS hL
  exact lv_lload hx hb hd (hL.2.2 _ _ hl) (K H locs ls hH hS hL)
theorem j_aload_n (C : OK G cc nL own rt tb nm) {z : Fin 4} {x : Option Nat} (hd : decode cc pc = .ok (.aload_n z, 1)) (hl : lo[(z : Nat)]? = some (some (vr x))) (K : J G Q (pc + 1) lo (vr x :: st) h k n) : J G Q pc lo (st) h k n := by
  obtain ⟨p, l, e, s, m, args, below, meth, c, D, dA, sz, lv, mc, ms⟩ := G
  obtain ⟨hx, hb, -⟩ := C
  intro H locs ls hH hS hL
  cases x with
  | none => exact lv_aload_nN hx hb hd rfl (hL.2.2 _ _ hl) (K H locs ls hH hS hL)
  | some a => exact lv_aload_n hx hb hd rfl (hL.2.2 _ _ hl) (K H locs ls hH hS hL)
theorem j_aload (C : OK G cc nL own rt tb nm) {z : Nat} {x : Option Nat} (hd : decode cc pc = .ok (.aload z, 2)) (hl : lo[(z : Nat)]? = some (some (vr x))) (K : J G Q (pc + 2) lo (vr x :: st) h k n) : J G Q pc lo (st) h k n := by
  obtain ⟨p, l, e, s, m, args, below, meth, c, D, dA, sz, lv, mc, ms⟩ := G
  obtain ⟨hx, hb, -⟩ := C
  intro H locs ls hH hS hL
  cases x with
  | none => exact lv_aloadN hx hb hd (hL.2.2 _ _ hl) (K H locs ls hH hS hL)
  | some a => exact lv_aload hx hb hd (hL.2.2 _ _ hl) (K H locs ls hH hS hL)
theorem j_iadd (C : OK G cc nL own rt tb nm) {x y : Int32} (hd : decode cc pc = .ok (.iadd, 1)) (K : J G Q (pc + 1) lo (vi (x + y) :: st) h k n) : J G Q pc lo (vi y :: vi x :: st) h k n := by
  obtain ⟨p, l, e, s, m, args, below, meth, c, D, dA, sz, lv, mc, ms⟩ := G
  obtain ⟨hx, hb, -⟩ := C
  intro H locs ls hH hS hL
  exact lv_iadd hx hb hd (K H locs ls hH hS hL)
theorem j_isub (C : OK G cc nL own rt tb nm) {x y : Int32} (hd : decode cc pc = .ok (.isub, 1)) (K : J G Q (pc + 1) lo (vi (x - y) :: st) h k n) : J G Q pc lo (vi y :: vi x :: st) h k n := by
  obtain ⟨p, l, e, s, m, args, below, meth, c, D, dA, sz, lv, mc, ms⟩ := G
  obtain ⟨hx, hb, -⟩ := C
  intro H locs ls hH hS hL
  exact lv_isub hx hb hd (K H locs ls hH hS hL)
theorem j_iand (C : OK G cc nL own rt tb nm) {x y : Int32} (hd : decode cc pc = .ok (.iand, 1)) (K : J G Q (pc + 1) lo (vi (x &&& y) :: st) h k n) : J G Q pc lo (vi y :: vi x :: st) h k n := by
  obtain ⟨p, l, e, s, m, args, below, meth, c, D, dA, sz, lv, mc, ms⟩ := G
  obtain ⟨hx, hb, -⟩ := C
  intro H locs ls hH hS hL
  exact lv_iand hx hb hd (K H locs ls hH hS hL)
theorem j_idiv (C : OK G cc nL own rt tb nm) {x y : Int32} (hd : decode cc pc = .ok (.idiv, 1)) (hne : ¬ y = 0) (K : J G Q (pc + 1) lo (vi (x / y) :: st) h k n) : J G Q pc lo (vi y :: vi x :: st) h k n := by
  obtain ⟨p, l, e, s, m, args, below, meth, c, D, dA, sz, lv, mc, ms⟩ := G
  obtain ⟨hx, hb, -⟩ := C
  intro H locs ls hH hS hL
  exact lv_idiv hx hb hd hne (K H locs ls hH hS hL)
theorem j_ladd (C : OK G cc nL own rt tb nm) {x y : Int64} (hd : decode cc pc = .ok (.ladd, 1)) (K : J G Q (pc + 1) lo (vl (x + y) :: st) h k n) : J G Q pc lo (vl y :: vl x :: st) h k n := by
  obtain ⟨p, l, e, s, m, args, below, meth, c, D, dA, sz, lv, mc, ms⟩ := G
  obtain ⟨hx, hb, -⟩ := C
  intro H locs ls hH hS hL
  exact lv_ladd hx hb hd (K H locs ls hH hS hL)
theorem j_lmul (C : OK G cc nL own rt tb nm) {x y : Int64} (hd : decode cc pc = .ok (.lmul, 1)) (K : J G Q (pc + 1) lo (vl (x * y) :: st) h k n) : J G Q pc lo (vl y :: vl x :: st) h k n := by
  obtain ⟨p, l, e, s, m, args, below, meth, c, D, dA, sz, lv, mc, ms⟩ := G
  obtain ⟨hx, hb, -⟩ := C
  intro H locs ls hH hS hL
  exact lv_lmul hx hb hd (K H locs ls hH hS hL)
theorem j_land (C : OK G cc nL own rt tb nm) {x y : Int64} (hd : decode cc pc = .ok (.land, 1)) (K : J G Q (pc + 1) lo (vl (x &&& y) :: st) h k n) : J G Q pc lo (vl y :: vl x :: st) h k n := by
  obtain ⟨p, l, e, s, m, args, below, meth, c, D, dA, sz, lv, mc, ms⟩ := G
  obtain ⟨hx, hb, -⟩ := C
  intro H locs ls hH hS hL
  exact lv_land hx hb hd (K H locs ls hH hS hL)
theorem j_lor (C : OK G cc nL own rt tb nm) {x y : Int64} (hd : decode cc pc = .ok (.lor, 1)) (K : J G Q (pc + 1) lo (vl (x ||| y) :: st) h k n) : J G Q pc lo (vl y :: vl x :: st) h k n := by
  obtain ⟨p, l, e, s, m, args, below, meth, c, D, dA, sz, lv, mc, ms⟩ := G
  obtain ⟨hx, hb, -⟩ := C
  intro H locs ls hH hS hL
  exact lv_lor hx hb hd (K H locs ls hH hS hL)
theorem j_lshl (C : OK G cc nL own rt tb nm) {x : Int64} {y : Int32} (hd : decode cc pc = .ok (.lshl, 1)) (K : J G Q (pc + 1) lo (vl (x <<< (y.toInt64 &&& 63)) :: st) h k n) : J G Q pc lo (vi y :: vl x :: st) h k n := by
  obtain ⟨p, l, e, s, m, args, below, meth, c, D, dA, sz, lv, mc, ms⟩ := G
  obtain ⟨hx, hb, -⟩ := C
  intro H locs ls hH hS hL
  exact lv_lshl hx hb hd rfl (K H locs ls hH hS hL)
theorem j_i2l (C : OK G cc nL own rt tb nm) {x : Int32} (hd : decode cc pc = .ok (.i2l, 1)) (K : J G Q (pc + 1) lo (vl x.toInt64 :: st) h k n) : J G Q pc lo (vi x :: st) h k n := by
  obtain ⟨p, l, e, s, m, args, below, meth, c, D, dA, sz, lv, mc, ms⟩ := G
  obtain ⟨hx, hb, -⟩ := C
  intro H locs ls hH hS hL
  exact lv_i2l hx hb hd rfl (K H locs ls hH hS hL)
theorem j_l2i (C : OK G cc nL own rt tb nm) {x : Int64} (hd : decode cc pc = .ok (.l2i, 1)) (K : J G Q (pc + 1) lo (vi x.toInt32 :: st) h k n) : J G Q pc lo (vl x :: st) h k n := by
  obtain ⟨p, l, e, s, m, args, below, meth, c, D, dA, sz, lv, mc, ms⟩ := G
  obtain ⟨hx, hb, -⟩ := C
  intro H locs ls hH hS hL
  exact lv_l2i hx hb hd rfl (K H locs ls hH hS hL)
theorem j_lcmp (C : OK G cc nL own rt tb nm) {x y : Int64} (hd : decode cc pc = .ok (.lcmp, 1)) (K : J G Q (pc + 1) lo (vi (lg_cmp x y) :: st) h k n) : J G Q pc lo (vl y :: vl x :: st) h k n := by
  obtain ⟨p, l, e, s, m, args, below, meth, c, D, dA, sz, lv, mc, ms⟩ := G
  obtain ⟨hx, hb, -⟩ := C
  intro H locs ls hH hS hL
  exact W.lcmp hx hb hd (K H locs ls hH hS hL)
theorem j_dup (C : OK G cc nL own rt tb nm) {v : AV} (hd : decode cc pc = .ok (.dup, 1)) (hc : isL v = false) (K : J G Q (pc + 1) lo (v :: v :: st) h k n) : J G Q pc lo (v :: st) h k n := by
  obtain ⟨p, l, e, s, m, args, below, meth, c, D, dA, sz, lv, mc, ms⟩ := G
  obtain ⟨hx, hb, -⟩ := C
  intro H locs ls hH hS hL
  exact lv_dup hx hb hd (tv_c1 hc) (K H locs ls hH hS hL)
theorem j_pop (C : OK G cc nL own rt tb nm) {v : AV} (hd : decode cc pc = .ok (.pop, 1)) (hc : isL v = false) (K : J G Q (pc + 1) lo (st) h k n) : J G Q pc lo (v :: st) h k n := by
  obtain ⟨p, l, e, s, m, args, below, meth, c, D, dA, sz, lv, mc, ms⟩ := G
  obtain ⟨hx, hb, -⟩ := C
  intro H locs ls hH hS hL
  exact lv_pop hx hb hd (tv_c1 hc) (K H locs ls hH hS hL)
theorem j_dup_x1 (C : OK G cc nL own rt tb nm) {v w : AV} (hd : decode cc pc = .ok (.dup_x1, 1)) (hc : isL v = false) (hw : isL w = false) (K : J G Q (pc + 1) lo (v :: w :: v :: st) h k n) : J G Q pc lo (v :: w :: st) h k n := by
  obtain ⟨p, l, e, s, m, args, below, meth, c, D, dA, sz, lv, mc, ms⟩ := G
  obtain ⟨hx, hb, -⟩ := C
  intro H locs ls hH hS hL
  exact lv_dup_x1 hx hb hd (tv_c1 hc) (tv_c1 hw) (K H locs ls hH hS hL)
theorem j_dup2 (C : OK G cc nL own rt tb nm) {v w : AV} (hd : decode cc pc = .ok (.dup2, 1)) (hc : isL v = false) (hw : isL w = false) (K : J G Q (pc + 1) lo (v :: w :: v :: w :: st) h k n) : J G Q pc lo (v :: w :: st) h k n := by
  obtain ⟨p, l, e, s, m, args, below, meth, c, D, dA, sz, lv, mc, ms⟩ := G
  obtain ⟨hx, hb, -⟩ := C
  intro H locs ls hH hS hL
  exact lv_dup2_11 hx hb hd (tv_c1 hc) (tv_c1 hw) (K H locs ls hH hS hL)
theorem j_if_eq (C : OK G cc nL own rt tb nm) {x : Int32} {off : Int} {tgt : Nat} (hd : decode cc pc = .ok (.ifCond .eq off, 3)) (ht : (pc : Int) + off = (tgt : Int)) (K : (x = 0 → J G Q tgt lo st h k n) ∧ (¬ x = 0 → J G Q (pc + 3) lo st h k n)) : J G Q pc lo (vi x :: st) h k n := by
  obtain ⟨p, l, e, s, m, args, below, meth, c, D, dA, sz, lv, mc, ms⟩ := G
  obtain ⟨hx, hb, -⟩ := C
  intro H locs ls hH hS hL
  exact lv_if_eq hx hb hd ht (fun q => K.1 q H locs ls hH hS hL) (fun q => K.2 q H locs ls hH hS hL)
theorem j_icmp_eq (C : OK G cc nL own rt tb nm) {x y : Int32} {off : Int} {tgt : Nat} (hd : decode cc pc = .ok (.if_icmp .eq off, 3)) (ht : (pc : Int) + off = (tgt : Int)) (K : (x = y → J G Q tgt lo st h k n) ∧ (¬ x = y → J G Q (pc + 3) lo st h k n)) : J G Q pc lo (vi y :: vi x :: st) h k n := by
  obtain ⟨p, l, e, s, m, args, below, meth, c, D, dA, sz, lv, mc, ms⟩ := G
  obtain ⟨hx, hb, -⟩ := C
  intro H locs ls hH hS hL
  exact lv_icmp_eq hx hb hd ht (fun q => K.1 q H locs ls hH hS hL) (fun q => K.2 q H locs ls hH hS hL)
theorem j_if_ne (C : OK G cc nL own rt tb nm) {x : Int32} {off : Int} {tgt : Nat} (hd : decode cc pc = .ok (.ifCond .ne off, 3)) (ht : (pc : Int) + off = (tgt : Int)) (K : (¬ x = 0 → J G Q tgt lo st h k n) ∧ (x = 0 → J G Q (pc + 3) lo st h k n)) : J G Q pc lo (vi x :: st) h k n := by
  obtain ⟨p, l, e, s, m, args, below, meth, c, D, dA, sz, lv, mc, ms⟩ := G
  obtain ⟨hx, hb, -⟩ := C
  intro H locs ls hH hS hL
  exact lv_if_ne hx hb hd ht (fun q => K.1 q H locs ls hH hS hL) (fun q => K.2 q H locs ls hH hS hL)
theorem j_icmp_ne (C : OK G cc nL own rt tb nm) {x y : Int32} {off : Int} {tgt : Nat} (hd : decode cc pc = .ok (.if_icmp .ne off, 3)) (ht : (pc : Int) + off = (tgt : Int)) (K : (¬ x = y → J G Q tgt lo st h k n) ∧ (x = y → J G Q (pc + 3) lo st h k n)) : J G Q pc lo (vi y :: vi x :: st) h k n := by
  obtain ⟨p, l, e, s, m, args, below, meth, c, D, dA, sz, lv, mc, ms⟩ := G
  obtain ⟨hx, hb, -⟩ := C
  intro H locs ls hH hS hL
  exact lv_icmp_ne hx hb hd ht (fun q => K.1 q H locs ls hH hS hL) (fun q => K.2 q H locs ls hH hS hL)
theorem j_if_lt (C : OK G cc nL own rt tb nm) {x : Int32} {off : Int} {tgt : Nat} (hd : decode cc pc = .ok (.ifCond .lt off, 3)) (ht : (pc : Int) + off = (tgt : Int)) (K : (x < 0 → J G Q tgt lo st h k n) ∧ (¬ x < 0 → J G Q (pc + 3) lo st h k n)) : J G Q pc lo (vi x :: st) h k n := by
  obtain ⟨p, l, e, s, m, args, below, meth, c, D, dA, sz, lv, mc, ms⟩ := G
  obtain ⟨hx, hb, -⟩ := C
  intro H locs ls hH hS hL
  exact lv_if_lt hx hb hd ht (fun q => K.1 q H locs ls hH hS hL) (fun q => K.2 q H locs ls hH hS hL)
theorem j_icmp_lt (C : OK G cc nL own rt tb nm) {x y : Int32} {off : Int} {tgt : Nat} (hd : decode cc pc = .ok (.if_icmp .lt off, 3)) (ht : (pc : Int) + off = (tgt : Int)) (K : (x < y → J G Q tgt lo st h k n) ∧ (¬ x < y → J G Q (pc + 3) lo st h k n)) : J G Q pc lo (vi y :: vi x :: st) h k n := by
  obtain ⟨p, l, e, s, m, args, below, meth, c, D, dA, sz, lv, mc, ms⟩ := G
  obtain ⟨hx, hb, -⟩ := C
  intro H locs ls hH hS hL
  exact lv_icmp_lt hx hb hd ht (fun q => K.1 q H locs ls hH hS hL) (fun q => K.2 q H locs ls hH hS hL)
theorem j_if_ge (C : OK G cc nL own rt tb nm) {x : Int32} {off : Int} {tgt : Nat} (hd : decode cc pc = .ok (.ifCond .ge off, 3)) (ht : (pc : Int) + off = (tgt : Int)) (K : (0 ≤ x → J G Q tgt lo st h k n) ∧ (¬ 0 ≤ x → J G Q (pc + 3) lo st h k n)) : J G Q pc lo (vi x :: st) h k n := by
  obtain ⟨p, l, e, s, m, args, below, meth, c, D, dA, sz, lv, mc, ms⟩ := G
  obtain ⟨hx, hb, -⟩ := C
  intro H locs ls hH hS hL
  exact lv_if_ge hx hb hd ht (fun q => K.1 q H locs ls hH hS hL) (fun q => K.2 q H locs ls hH hS hL)
theorem j_icmp_ge (C : OK G cc nL own rt tb nm) {x y : Int32} {off : Int} {tgt : Nat} (hd : decode cc pc = .ok (.if_icmp .ge off, 3)) (ht : (pc : Int) + off = (tgt : Int)) (K : (y ≤ x → J G Q tgt lo st h k n) ∧ (¬ y ≤ x → J G Q (pc + 3) lo st h k n)) : J G Q pc lo (vi y :: vi x :: st) h k n := by
  obtain ⟨p, l, e, s, m, args, below, meth, c, D, dA, sz, lv, mc, ms⟩ := G
  obtain ⟨hx, hb, -⟩ := C
  intro H locs ls hH hS hL
  exact lv_icmp_ge hx hb hd ht (fun q => K.1 q H locs ls hH hS hL) (fun q => K.2 q H locs ls hH hS hL)
theorem j_if_gt (C : OK G cc nL own rt tb nm) {x : Int32} {off : Int} {tgt : Nat} (hd : decode cc pc = .ok (.ifCond .gt off, 3)) (ht : (pc : Int) + off = (tgt : Int)) (K : (0 < x → J G Q tgt lo st h k n) ∧ (¬ 0 < x → J G Q (pc + 3) lo st h k n)) : J G Q pc lo (vi x :: st) h k n := by
  obtain ⟨p, l, e, s, m, args, below, meth, c, D, dA, sz, lv, mc, ms⟩ := G
  obtain ⟨hx, hb, -⟩ := C
  intro H locs ls hH hS hL
  exact lv_if_gt hx hb hd ht (fun q => K.1 q H locs ls hH hS hL) (fun q => K.2 q H locs ls hH hS hL)
theorem j_icmp_gt (C : OK G cc nL own rt tb nm) {x y : Int32} {off : Int} {tgt : Nat} (hd : decode cc pc = .ok (.if_icmp .gt off, 3)) (ht : (pc : Int) + off = (tgt : Int)) (K : (y < x → J G Q tgt lo st h k n) ∧ (¬ y < x → J G Q (pc + 3) lo st h k n)) : J G Q pc lo (vi y :: vi x :: st) h k n := by
  obtain ⟨p, l, e, s, m, args, below, meth, c, D, dA, sz, lv, mc, ms⟩ := G
  obtain ⟨hx, hb, -⟩ := C
  intro H locs ls hH hS hL
  exact lv_icmp_gt hx hb hd ht (fun q => K.1 q H locs ls hH hS hL) (fun q => K.2 q H locs ls hH hS hL)
theorem j_if_le (C : OK G cc nL own rt tb nm) {x : Int32} {off : Int} {tgt : Nat} (hd : decode cc pc = .ok (.ifCond .le off, 3)) (ht : (pc : Int) + off = (tgt : Int)) (K : (x ≤ 0 → J G Q tgt lo st h k n) ∧ (¬ x ≤ 0 → J G Q (pc + 3) lo st h k n)) : J G Q pc lo (vi x :: st) h k n := by
  obtain ⟨p, l, e, s, m, args, below, meth, c, D, dA, sz, lv, mc, ms⟩ := G
  obtain ⟨hx, hb, -⟩ := C
  intro H locs ls hH hS hL
  exact lv_if_le hx hb hd ht (fun q => K.1 q H locs ls hH hS hL) (fun q => K.2 q H locs ls hH hS hL)
theorem j_icmp_le (C : OK G cc nL own rt tb nm) {x y : Int32} {off : Int} {tgt : Nat} (hd : decode cc pc = .ok (.if_icmp .le off, 3)) (ht : (pc : Int) + off = (tgt : Int)) (K : (x ≤ y → J G Q tgt lo st h k n) ∧ (¬ x ≤ y → J G Q (pc + 3) lo st h k n)) : J G Q pc lo (vi y :: vi x :: st) h k n := by
  obtain ⟨p, l, e, s, m, args, below, meth, c, D, dA, sz, lv, mc, ms⟩ := G
  obtain ⟨hx, hb, -⟩ := C
  intro H locs ls hH hS hL
  exact lv_icmp_le hx hb hd ht (fun q => K.1 q H locs ls hH hS hL) (fun q => K.2 q H locs ls hH hS hL)
theorem j_goto (C : OK G cc nL own rt tb nm) {off : Int} {tgt : Nat} (hd : decode cc pc = .ok (.goto off, 3)) (ht : (pc : Int) + off = (tgt : Int)) (K : J G Q tgt lo st h k n) : J G Q pc lo st h k n := by
  obtain ⟨p, l, e, s, m, args, below, meth, c, D, dA, sz, lv, mc, ms⟩ := G
  obtain ⟨hx, hb, -⟩ := C
  intro H locs ls hH hS hL
  exact lv_goto hx hb hd ht (K H locs ls hH hS hL)
theorem j_ifnull (C : OK G cc nL own rt tb nm) {x : Option Nat} {off : Int} {tgt : Nat} (hd : decode cc pc = .ok (.ifnull off, 3)) (ht : (pc : Int) + off = (tgt : Int)) (K : (x = none → J G Q tgt lo st h k n) ∧ (∀ a : Nat, x = some a → J G Q (pc + 3) lo st h k n)) : J G Q pc lo (vr x :: st) h k n := by
  obtain ⟨p, l, e, s, m, args, below, meth, c, D, dA, sz, lv, mc, ms⟩ := G
  obtain ⟨hx, hb, -⟩ := C
  intro H locs ls hH hS hL
  cases x with
  | none => exact lv_ifnullN hx hb hd ht (K.1 rfl H locs ls hH hS hL)
  | some a => exact lv_ifnull hx hb hd (K.2 a rfl H locs ls hH hS hL)
theorem j_ifnonnull (C : OK G cc nL own rt tb nm) {x : Option Nat} {off : Int} {tgt : Nat} (hd : decode cc pc = .ok (.ifnonnull off, 3)) (ht : (pc : Int) + off = (tgt : Int)) (K : (∀ a : Nat, x = some a → J G Q tgt lo st h k n) ∧ (x = none → J G Q (pc + 3) lo st h k n)) : J G Q pc lo (vr x :: st) h k n := by
  obtain ⟨p, l, e, s, m, args, below, meth, c, D, dA, sz, lv, mc, ms⟩ := G
  obtain ⟨hx, hb, -⟩ := C
  intro H locs ls hH hS hL
  cases x with
  | none => exact lv_ifnonnullN hx hb hd (K.2 rfl H locs ls hH hS hL)
  | some a => exact lv_ifnonnull hx hb hd ht (K.1 a rfl H locs ls hH hS hL)
theorem j_acmp_ne (C : OK G cc nL own rt tb nm) {x y : Option Nat} {off : Int} {tgt : Nat} (hd : decode cc pc = .ok (.if_acmp .ne off, 3)) (ht : (pc : Int) + off = (tgt : Int)) (K : (¬ x = y → J G Q tgt lo st h k n) ∧ (x = y → J G Q (pc + 3) lo st h k n)) : J G Q pc lo (vr y :: vr x :: st) h k n := by
  obtain ⟨p, l, e, s, m, args, below, meth, c, D, dA, sz, lv, mc, ms⟩ := G
  obtain ⟨hx, hb, -⟩ := C
  intro H locs ls hH hS hL
  exact lv_acmp_ne hx hb hd ht (fun q => K.1 q H locs ls hH hS hL) (fun q => K.2 q H locs ls hH hS hL)
theorem j_tableIn (C : OK G cc nL own rt tb nm) {dflt l0 hi : Int} {offs : Array Int} {len : Nat} {x : Int32} {off : Int} {tgt : Nat} (hd : decode cc pc = .ok (.tableswitch dflt l0 hi offs, len)) (h1 : ¬ x.toInt < l0) (h2 : ¬ hi < x.toInt) (ho : offs[(x.toInt - l0).toNat]? = some off) (ht : (pc : Int) + off = (tgt : Int)) (K : J G Q tgt lo st h k n) : J G Q pc lo (vi x :: st) h k n := by
  obtain ⟨p, l, e, s, m, args, below, meth, c, D, dA, sz, lv, mc, ms⟩ := G
  obtain ⟨hx, hb, -⟩ := C
  intro H locs ls hH hS hL
  exact lv_tableIn hx hb hd h1 h2 ho ht (K H locs ls hH hS hL)
theorem j_tableOut (C : OK G cc nL own rt tb nm) {dflt l0 hi : Int} {offs : Array Int} {len : Nat} {x : Int32} {tgt : Nat} (hd : decode cc pc = .ok (.tableswitch dflt l0 hi offs, len)) (h1 : x.toInt < l0 ∨ hi < x.toInt) (ht : (pc : Int) + dflt = (tgt : Int)) (K : J G Q tgt lo st h k n) : J G Q pc lo (vi x :: st) h k n := by
  obtain ⟨p, l, e, s, m, args, below, meth, c, D, dA, sz, lv, mc, ms⟩ := G
  obtain ⟨hx, hb, -⟩ := C
  intro H locs ls hH hS hL
  exact lv_tableOut hx hb hd h1 ht (K H locs ls hH hS hL)
theorem j_istore_n (C : OK G cc nL own rt tb nm) {z : Fin 4} {x : Int32} {lo' : List (Option AV)} (hd : decode cc pc = .ok (.istore_n z, 1)) (hn : (z : Nat) < lo.length) (hl : s1 lo (z : Nat) (vi x) = lo') (K : J G Q (pc + 1) lo' st h k n) : J G Q pc lo (vi x :: st) h k n := by
  obtain ⟨p, l, e, s, m, args, below, meth, c, D, dA, sz, lv, mc, ms⟩ := G
  obtain ⟨hx, hb, -⟩ := C
  intro H locs ls hH hS hL
  exact lv_istore_n hx hb hd rfl (LR.has hL) hn rfl (fun ls' h' => K H locs ls' hH hS (LR.s1 hL hn h' hl))
theorem j_istore (C : OK G cc nL own rt tb nm) {z : Nat} {x : Int32} {lo' : List (Option AV)} (hd : decode cc pc = .ok (.istore z, 2)) (hn : (z : Nat) < lo.length) (hl : s1 lo (z : Nat) (vi x) = lo') (K : J G Q (pc + 2) lo' st h k n) : J G Q pc lo (vi x :: st) h k n := by
  obtain ⟨p, l, e, s, m, args, below, meth, c, D, dA, sz, lv, mc, ms⟩ := G
  obtain ⟨hx, hb, -⟩ := C
  intro H locs ls hH hS hL
  exact lv_istore hx hb hd (LR.has hL) hn rfl (fun ls' h' => K H locs ls' hH hS (LR.s1 hL hn h' hl))
theorem j_lstore_n (C : OK G cc nL own rt tb nm) {z : Fin 4} {x : Int64} {lo' : List (Option AV)} (hd : decode cc pc = .ok (.lstore_n z, 1)) (hn : (z : Nat) + 1 < lo.length) (hl : s2 lo (z : Nat) (vl x) = lo') (K : J G Q (pc + 1) lo' st h k n) : J G Q pc lo (vl x :: st) h k n := by
  obtain ⟨p, l, e, s, m, args, below, meth, c, D, dA, sz, lv, mc, ms⟩ := G
  obtain ⟨hx, hb, -⟩ := C
  intro H locs ls hH hS hL
  exact lv_lstore_n hx hb hd rfl (LR.has hL) hn rfl (fun ls' h' => K H locs ls' hH hS (LR.s2 hL hn h' hl))
theorem j_lstore (C : OK G cc nL own rt tb nm) {z : Nat} {x : Int64} {lo' : List (Option AV)} (hd : decode cc pc = .ok (.lstore z, 2)) (hn : (z : Nat) + 1 < lo.length) (hl : s2 lo (z : Nat) (vl x) = lo') (K : J G Q (pc + 2) lo' st h k n) : J G Q pc lo (vl x :: st) h k n := by
  obtain ⟨p, l, e, s, m, args, below, meth, c, D, dA, sz, lv, mc, ms⟩ := G
  obtain ⟨hx, hb, -⟩ := C
  intro H locs ls hH hS hL
  exact lv_lstore hx hb hd (LR.has hL) hn rfl (fun ls' h' => K H locs ls' hH hS (LR.s2 hL hn h' hl))
theorem j_astore_n (C : OK G cc nL own rt tb nm) {z : Fin 4} {x : Option Nat} {lo' : List (Option AV)} (hd : decode cc pc = .ok (.astore_n z, 1)) (hn : (z : Nat) < lo.length) (hl : s1 lo (z : Nat) (vr x) = lo') (K : J G Q (pc + 1) lo' st h k n) : J G Q pc lo (vr x :: st) h k n := by
  obtain ⟨p, l, e, s, m, args, below, meth, c, D, dA, sz, lv, mc, ms⟩ := G
  obtain ⟨hx, hb, -⟩ := C
  intro H locs ls hH hS hL
  cases x with
  | none => exact lv_astore_nN hx hb hd rfl (LR.has hL) hn rfl (fun ls' h' => K H locs ls' hH hS (LR.s1 (v := vr none) hL hn h' hl))
  | some a => exact lv_astore_n hx hb hd rfl (LR.has hL) hn rfl (fun ls' h' => K H locs ls' hH hS (LR.s1 (v := vr (some a)) hL hn h' hl))
theorem j_astore (C : OK G cc nL own rt tb nm) {z : Nat} {x : Option Nat} {lo' : List (Option AV)} (hd : decode cc pc = .ok (.astore z, 2)) (hn : (z : Nat) < lo.length) (hl : s1 lo (z : Nat) (vr x) = lo') (K : J G Q (pc + 2) lo' st h k n) : J G Q pc lo (vr x :: st) h k n := by
  obtain ⟨p, l, e, s, m, args, below, meth, c, D, dA, sz, lv, mc, ms⟩ := G
  obtain ⟨hx, hb, -⟩ := C
  intro H locs ls hH hS hL
  cases x with
  | none => exact lv_astoreN hx hb hd (LR.has hL) hn rfl (fun ls' h' => K H locs ls' hH hS (LR.s1 (v := vr none) hL hn h' hl))
  | some a => exact lv_astore hx hb hd (LR.has hL) hn rfl (fun ls' h' => K H locs ls' hH hS (LR.s1 (v := vr (some a)) hL hn h' hl))
theorem j_iinc (C : OK G cc nL own rt tb nm) {z : Nat} {d : Int} {x v : Int32} {lo' : List (Option AV)} (hd : decode cc pc = .ok (.iinc z d, 3)) (hx0 : lo[z]? = some (some (vi x))) (hv : x + Int32.ofInt d = v) (hl : s1 lo z (vi v) = lo') (K : J G Q (pc + 3) lo' st h k n) : J G Q pc lo st h k n := by
  obtain ⟨p, l, e, s, m, args, below, meth, c, D, dA, sz, lv, mc, ms⟩ := G
  obtain ⟨hx, hb, -⟩ := C
  intro H locs ls hH hS hL
  have hn : z < lo.length := (List.getElem?_eq_some_iff.mp hx0).1
  obtain ⟨j, hj⟩ := LR.find hx0
  exact lv_iinc hx hb hd (LR.has hL) hj hv hn rfl (fun ls' h' => K H locs ls' hH hS (LR.s1 (v := vi v) hL hn h' hl))
theorem j_widen {k' n' : Nat} (hk : k ≤ k') (hn : n ≤ n') (K : J G Q pc lo st h k' n') : J G Q pc lo st h k n := by
  obtain ⟨p, l, e, s, m, args, below, meth, c, D, dA, sz, lv, mc, ms⟩ := G
  intro H locs ls hH hS hL
  exact W.widen hk hn (K H locs ls hH hS hL)
end RW1
