/-! THE LAW'S SCRIPT: its ints, its length, and the law's own reading of it. -/
def SC (G : Cx) (b L : Nat) (xs : Nat → Int32) : Prop :=
  match G with
  | (_, _, _, s, _, _, _, _, _, _, _, sz, _, _, _) => va_X b L xs s s.heap ∧ b < sz
def cel (L : Nat) (xs : Nat → Int32) (x : Int32) : Int32 := if x < Int32.ofNat L then xs x.toNatClampNeg else 0
section RW7
variable {G : Cx} {cc : ByteArray} {nL : Nat} {own nm : String} {rt : Option FieldType} {tb : List ExceptionTableEntry} {Q : Option AV ⊕ String → Hp → Prop} {pc : Nat} {lo : List (Option AV)} {st : List AV} {h : Hp} {k n b L : Nat} {xs : Nat → Int32}
theorem j_sld (C : OK G cc nL own rt tb nm) (hX : SC G b L xs) {i : Int32} (hi : vp_in i L) (hd : decode cc pc = .ok (.iaload, 1)) (K : J G Q (pc + 1) lo (vi (xs i.toNatClampNeg) :: st) h k n) : J G Q pc lo (vi i :: vr (some b) :: st) h k n := by
  obtain ⟨p, l, e, s, m, args, below, meth, c, D, dA, sz, lv, mc, ms⟩ := G
  obtain ⟨hx, hb, -, hown, hts, -, -, hWD, hsz, -⟩ := C
  intro H locs ls hH hS hL
  exact va_sld hx hb hX.1 (Nat.lt_of_lt_of_le hX.2 hsz) (Nat.not_le.mpr hX.2) hS hi hd (K H locs ls hH hS hL)
theorem j_slen (C : OK G cc nL own rt tb nm) (hX : SC G b L xs) (hd : decode cc pc = .ok (.arraylength, 1)) (K : J G Q (pc + 1) lo (vi (Int32.ofNat L) :: st) h k n) : J G Q pc lo (vr (some b) :: st) h k n := by
  obtain ⟨p, l, e, s, m, args, below, meth, c, D, dA, sz, lv, mc, ms⟩ := G
  obtain ⟨hx, hb, -, hown, hts, -, -, hWD, hsz, -⟩ := C
  intro H locs ls hH hS hL
  exact va_slen hx hb hX.1 (Nat.lt_of_lt_of_le hX.2 hsz) (Nat.not_le.mpr hX.2) hS hd (K H locs ls hH hS hL)
def cPc (D : va_G) (dA : Nat → ClassId) (sz b L : Nat) (xs : Nat → Int32) (x : Int32) (h : Hp) : Array Value → State → Prop := va_Pc [.ref b, .int x] (fun U => WD D dA sz U ∧ HR D dA sz h U.heap ∧ sz ≤ U.heap.size ∧ va_X b L xs U U.heap ∧ b < sz)
theorem c_cell {l : Launch} {D : va_G} {dA : Nat → ClassId} {sz lv : Nat} {x : Int32} (hst : l.stackTraces = false) (hlv : lv ≤ 12) (h0 : ¬ x < 0) (hL : L ≤ 2562) (hQ : Q (.inl (some (vi (cel L xs x)))) h) : vx_Met l yL_cell (Cond.code yL_cell cL_cell 2 (some .int) :: BG) (rmo lv 0 0) (cPc D dA sz b L xs x h) (cQ D dA sz Q) (cX D dA sz Q) 0 0 (fun q => sz ≤ q) := by
  refine vx_ofW (cc := cL_cell) (maxL := 2) (ret := some .int) (by decide) rfl ?_
  intro p e s m args below meth c s₁ B hml ht hv
  obtain ⟨rfl, hWD, hH, hsz, hX, hb⟩ := hv
  have hts := atoms_spec (ws := Cond.code yL_cell cL_cell 2 (some .int) :: BG) B.pre
  have htb : c.exceptionTable.toList = [] := by
    cases he : c.exceptionTable.toList with
    | nil => rfl
    | cons x r => exact (ht x (by rw [he]; exact List.mem_cons_self)).elim
  have C : OK (p, l, e, s, m, ([.ref b, .int x] : List Value).toArray, below, meth, c, D, dA, sz, lv, 0, 0) cL_cell 2 yL_cell.cls (some .int) [] yL_cell.name :=
    ⟨B.exec, B.bytes, hml, findClass_of_methodNamed B.named, fun w hw => hts w (List.mem_cons_of_mem _ hw), B.notSynchronized, B.returns, hWD, hsz, hst, htb, (name_of_methodNamed B.named B.method).1⟩
  have hS : SC (p, l, e, s, m, ([.ref b, .int x] : List Value).toArray, below, meth, c, D, dA, sz, lv, 0, 0) b L xs := ⟨hX, hb⟩
  generalize hG : ((p, l, e, s, m, ([.ref b, .int x] : List Value).toArray, below, meth, c, D, dA, sz, lv, 0, 0) : Cx) = G at C hS
  have hJ : J G Q 0 [some (vr (some b)), some (vi x)] [] h 0 0 := by
    have hend : ∀ y : Int32, y = cel L xs x → J G Q 13 [some (vr (some b)), some (vi x)] [vi y] h 0 0 := fun y hy => by
      refine j_iret C dL_cell_13 (by rw [← hG]; exact ⟨Nat.le_refl _, Nat.le_refl _⟩) ?_
      rw [hy]; exact hQ
    refine j_iload_n C dL_cell_0 rfl ?_
    refine j_aload_n C dL_cell_1 rfl ?_
    refine j_slen C hS dL_cell_2 ?_
    refine j_icmp_ge (tgt := 12) C dL_cell_3 (by decide) ⟨fun q => ?_, fun q => ?_⟩
    · refine j_iconst (v := 0) C dL_cell_12 (by decide) ?_
      exact hend 0 (by unfold cel; rw [if_neg (fun q2 => by have := Int32.lt_iff_toInt_lt.mp q2; have := Int32.le_iff_toInt_le.mp q; omega)])
    · refine j_aload_n C dL_cell_6 rfl ?_
      refine j_iload_n C dL_cell_7 rfl ?_
      have q' : x < Int32.ofNat L := by
        have e1 : ¬ (Int32.ofNat L).toInt ≤ x.toInt := fun q2 => q (Int32.le_iff_toInt_le.mpr q2)
        exact Int32.lt_iff_toInt_lt.mpr (by omega)
      refine j_sld C hS ?_ dL_cell_8 ?_
      · rintro (h1 | h1)
        · exact h0 h1
        · have e1 : (Int32.ofNat L).toInt = (L : Int) := Int32.toInt_ofNat_of_lt (by omega)
          have e2 := Int32.lt_iff_toInt_lt.mp q'
          rw [e1] at e2
          have e3 : (x.toNatClampNeg : Int) = x.toInt := by
            have : 0 ≤ x.toInt := by
              have e4 : ¬ x.toInt < (0 : Int32).toInt := fun q2 => h0 (Int32.lt_iff_toInt_lt.mpr q2)
              have e5 : (0 : Int32).toInt = 0 := rfl
              omega
            show (x.toInt.toNat : Int) = x.toInt
            omega
          omega
      · refine j_goto (tgt := 13) C dL_cell_9 (by decide) ?_
        exact hend _ (by unfold cel; rw [if_pos q'])
  subst hG
  rw [lg_entry_eq]
  exact hJ s.heap [] _ hH va_S.rf (LR.entry (av := [vr (some b), vi x]) (nL := 2) (by simp [ena, isL]))
theorem j_cell (C : OK G cc nL RL rt tb nm) (hX : SC G b L xs) {x : Int32} (h0 : ¬ x < 0) (hL : L ≤ 2562) (hn : lo.length = nL) (hlv : glv G + 1 ≤ 12) (hw : (st.map wt).sum ≤ 8) (hl : lim G k n) (hd : decode cc pc = .ok (.invokestatic 93, 3))
    (K : J G Q (pc + 3) lo (vi (cel L xs x) :: st) h k n) : J G Q pc lo (vi x :: vr (some b) :: st) h k n := by
  obtain ⟨p, l, e, s, m, args, below, meth, c, D, dA, sz, lv, mc, ms⟩ := G
  obtain ⟨hx, hb, hml, hown, hts, -, -, hWD, hsz, hst, -⟩ := C
  obtain ⟨w1, w2, w4, w5, w6, w7, w8⟩ := ms_L_93
  intro H locs ls hH hS hLL
  have hR := rm_le (mc := mc) (ms := ms) (mc' := 0) (ms' := 0) (show lv + 1 ≤ 12 from hlv) w8
  refine j_aft (mc' := 0) (ms' := 0) (Q' := fun o h' => o = .inl (some (vi (cel L xs x))) ∧ h' = h) (a' := ([vr (some b), vi x].map tv).toArray) hsz hS hLL (vx_runS (As := [.ref b, .int x]) (g := F0 m pc ls ((vi x :: vr (some b) :: st).map tv)) (nL := nL) ⟨hx, hb, hml, hown, hts⟩ (c_cell (D := D) (dA := dA) (sz := sz) (h := h) (lv := lv + 1) hst (by exact hlv) h0 hL ⟨rfl, rfl⟩)
    ⟨⟨rfl, rfl, hR.1, hR.2, BG_pay hts w5, List.mem_cons_self, hts _ w5, hts _ w4, w6, len_of w7, hts _ w1⟩, hts _ w2⟩
    ⟨fun a U g mk hq => by
      obtain ⟨h1, h2, h3, h4, h5, h6⟩ := hq
      exact ⟨h1, WD.same h2 rfl rfl, h3, h4, va_X.moved (Vm.Alike.refl U.vm) h5, h6⟩, fun U hU hW => ⟨rfl, hWD.go hW (fun a h1 h2 => by rw [hU]; exact hS.2.1 a h1 h2), by rw [hU]; exact hH, by rw [hU]; exact Nat.le_trans hsz hS.1, va_X.moved hW.alike (hX.1.kept (by rw [hU]; exact hS.2.1 b (Nat.lt_of_lt_of_le hX.2 hsz) (Nat.not_le.mpr hX.2))), hX.2⟩⟩ rfl rfl (by rw [← hn]; exact hLL.1) rfl (st_le hw) hd hl) ?_ ?_
  · rintro v h' ⟨hv, rfl⟩
    cases hv
    exact K
  · rintro E h' ⟨hv, -⟩
    cases hv
end RW7
theorem sw_23 (x : Int32) : x = 0 ∨ x = 1 ∨ x = 2 ∨ x = 3 ∨ x = 4 ∨ x = 5 ∨ x = 6 ∨ x = 7 ∨ x = 8 ∨ x = 9 ∨ x = 10 ∨ x = 11 ∨ x = 12 ∨ x = 13 ∨ x = 14 ∨ x = 15 ∨ x = 16 ∨ x = 17 ∨ x = 18 ∨ x = 19 ∨ x = 20 ∨ x = 21 ∨ x = 22 ∨ x = 23 ∨ (x.toInt < 0 ∨ 23 < x.toInt) := by
  have hk : ∀ c : Int32, x.toInt = c.toInt → x = c := fun c hc => Int32.toInt_inj.mp hc
  by_cases a : x.toInt < 0 ∨ 23 < x.toInt
  · simp [a]
  · have hh : ∀ y : Int, 0 ≤ y → y ≤ 23 → y = 0 ∨ y = 1 ∨ y = 2 ∨ y = 3 ∨ y = 4 ∨ y = 5 ∨ y = 6 ∨ y = 7 ∨ y = 8 ∨ y = 9 ∨ y = 10 ∨ y = 11 ∨ y = 12 ∨ y = 13 ∨ y = 14 ∨ y = 15 ∨ y = 16 ∨ y = 17 ∨ y = 18 ∨ y = 19 ∨ y = 20 ∨ y = 21 ∨ y = 22 ∨ y = 23 := fun y _ _ => by omega
    rcases hh x.toInt (by omega) (by omega) with q | q | q | q | q | q | q | q | q | q | q | q | q | q | q | q | q | q | q | q | q | q | q | q
    · exact Or.inl (hk 0 q)
    all_goals first
      | (simp [hk 1 q]; done) | (simp [hk 2 q]; done) | (simp [hk 3 q]; done) | (simp [hk 4 q]; done) | (simp [hk 5 q]; done) | (simp [hk 6 q]; done) | (simp [hk 7 q]; done) | (simp [hk 8 q]; done) | (simp [hk 9 q]; done) | (simp [hk 10 q]; done) | (simp [hk 11 q]; done) | (simp [hk 12 q]; done)
      | (simp [hk 13 q]; done) | (simp [hk 14 q]; done) | (simp [hk 15 q]; done) | (simp [hk 16 q]; done) | (simp [hk 17 q]; done) | (simp [hk 18 q]; done) | (simp [hk 19 q]; done) | (simp [hk 20 q]; done) | (simp [hk 21 q]; done) | (simp [hk 22 q]; done) | (simp [hk 23 q]; done)
