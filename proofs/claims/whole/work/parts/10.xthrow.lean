/-! THROWS, MAX AND MIN, NEW ARRAYS, and what the wrappers catch. -/
def xw : List Cond := tables_1.take 25 ++ ((tables_1.drop 217).take 66 ++ ((tables_1.drop 409).take 16 ++ (tables_1.drop 958).take 1))
theorem xw_in : ∀ w ∈ xw, w ∈ lw_tbl := by
  intro w hw
  refine List.mem_append_right _ ?_
  rcases List.mem_append.mp hw with h | h
  · exact List.mem_of_mem_take h
  · rcases List.mem_append.mp h with h | h
    · exact List.mem_of_mem_drop (List.mem_of_mem_take h)
    · rcases List.mem_append.mp h with h | h
      · exact List.mem_of_mem_drop (List.mem_of_mem_take h)
      · exact List.mem_of_mem_drop (List.mem_of_mem_take h)
def xok (w : Cond) : Bool := decide (w ∈ xw) && (goodWord w || (nwk w && w.onTables))
def xup : List String := ["java/lang/RuntimeException", "java/lang/Exception"]
def xA : String := "java/lang/IllegalArgumentException"
def xS : String := "java/lang/IllegalStateException"
theorem xa_ok : ((Cond.classLink RX6 207 xA :: Cond.initialized xA :: vx_atS RX6 211 xA xup).all xok) = true := by decide +kernel
theorem xs_ok : ((Cond.classLink RX6 163 xS :: Cond.initialized xS :: vx_atS RX6 167 xS xup).all xok) = true := by decide +kernel
theorem xok_at {D : va_G} {dA : Nat → ClassId} {sz : Nat} {s : State} {args : Array Value} (hWD : WD D dA sz s) (hts : ∀ w ∈ BG, w.before args s = true) {L : List Cond} (h : L.all xok = true) : ∀ w ∈ L, w.before args s = true := by
  intro w hw
  have := List.all_eq_true.mp h w hw
  simp only [xok, Bool.and_eq_true, Bool.or_eq_true, decide_eq_true_eq] at this
  obtain ⟨h1, h2 | ⟨h2, h3⟩⟩ := this
  · exact hts w (List.mem_filter.mpr ⟨xw_in w h1, h2⟩)
  · exact va_tabs h3 rfl (hWD.2.2.1 w (xw_in w h1) h2)
theorem xok_ot {L : List Cond} (h : L.all xok = true) : ∀ w ∈ L, vx_ot w = true := by
  intro w hw
  have := List.all_eq_true.mp h w hw
  simp only [xok, Bool.and_eq_true, Bool.or_eq_true, decide_eq_true_eq] at this
  simp only [vx_ot, Bool.or_eq_true]
  obtain ⟨h1, h2 | ⟨h2, h3⟩⟩ := this
  · exact Or.inr h2
  · exact Or.inl h3
theorem HR.grow {D : va_G} {dA : Nat → ClassId} {sz : Nat} {h : Hp} {H H1 : Heap} (hH : HR D dA sz h H) (ho : ∀ q : Nat, q < H.size → H1[q]? = H[q]?) : HR D dA sz h H1 := by
  intro a e he
  obtain ⟨h1, h2⟩ := hH a e he
  exact ⟨h1, h2.kept (ho a h2.lt)⟩
section RW6
variable {G : Cx} {cc : ByteArray} {nL : Nat} {own nm : String} {rt : Option FieldType} {tb : List ExceptionTableEntry} {Q : Option AV ⊕ String → Hp → Prop} {pc : Nat} {lo : List (Option AV)} {st : List AV} {h : Hp} {k n : Nat}
theorem k_throw {cls : String} {ik ic : Nat} (hok : ((Cond.classLink RX6 ik cls :: Cond.initialized cls :: vx_atS RX6 ic cls xup).all xok) = true) (hcls : Bundle.fit cls = true) (C : OK G cc nL RX6 rt [] nm) {is : Nat} {tx : String} (hs : (is, tx) ∈ strs) (d0 : decode cc pc = .ok (.new ik, 3)) (d3 : decode cc (pc + 3) = .ok (.dup, 1)) (d4 : decode cc (pc + 4) = .ok (.ldc is, 2)) (d6 : decode cc (pc + 6) = .ok (.invokespecial ic, 3)) (d9 : decode cc (pc + 9) = .ok (.athrow, 1))
    (hn : lo.length = nL) (hlv : glv G + 6 ≤ 12) (hw : (st.map wt).sum ≤ 8) (hl : lim G (k + 1) (n + 6)) (K : Q (.inr cls) h) : J G Q pc lo st h k n := by
  obtain ⟨p, l, e, s, m, args, below, meth, c, D, dA, sz, lv, mc, ms⟩ := G
  obtain ⟨hx, hb, hml, hown, hts, hlocks, -, hWD, hsz, hlst, htb, -⟩ := C
  intro H locs ls hH hS hL
  have hlv' : lv + 6 ≤ 12 := hlv
  obtain ⟨sa, hsa⟩ := hWD.2.2.2.2.1 _ hs
  have hat := xok_at hWD hts hok
  refine vx_throwS hx hb hlst (own := RX6) (cls := cls) (names := xup) hown hcls (by decide) (hat _ (List.mem_cons_self ..)) (hat _ (List.mem_cons_of_mem _ (List.mem_cons_self ..))) hsa (fun w hw => hat w (List.mem_cons_of_mem _ (List.mem_cons_of_mem _ hw))) (xok_ot hok) hWD.2.2.2.2.2.1 hWD.2.2.2.2.2.2 hS (by rw [hml, ← hn]; exact hL.1) d0 d3 d4 d6 d9 (fun x hx => by rw [htb] at hx; cases hx) ?_ ?_ hl.1 hl.2 hlocks ?_ hS.2.2 hl.1 hl.2
  · show 2 + 3 < 12 - lv; omega
  · show _ + (13 * 3 + 43) ≤ 450 - 30 * lv
    rw [wt_sum]; omega
  · intro t _ hz ho
    have hS' := hS.grow hz ho
    exact ⟨h, K, hH.grow ho, hS'.F rfl⟩
theorem k_throwa (C : OK G cc nL RX6 rt [] nm) {is : Nat} {tx : String} (hs : (is, tx) ∈ strs) (d0 : decode cc pc = .ok (.new 207, 3)) (d3 : decode cc (pc + 3) = .ok (.dup, 1)) (d4 : decode cc (pc + 4) = .ok (.ldc is, 2)) (d6 : decode cc (pc + 6) = .ok (.invokespecial 211, 3)) (d9 : decode cc (pc + 9) = .ok (.athrow, 1))
    (hn : lo.length = nL) (hlv : glv G + 6 ≤ 12) (hw : (st.map wt).sum ≤ 8) (hl : lim G (k + 1) (n + 6)) (K : Q (.inr xA) h) : J G Q pc lo st h k n := k_throw xa_ok (by decide) C hs d0 d3 d4 d6 d9 hn hlv hw hl K
theorem k_throws (C : OK G cc nL RX6 rt [] nm) {is : Nat} {tx : String} (hs : (is, tx) ∈ strs) (d0 : decode cc pc = .ok (.new 163, 3)) (d3 : decode cc (pc + 3) = .ok (.dup, 1)) (d4 : decode cc (pc + 4) = .ok (.ldc is, 2)) (d6 : decode cc (pc + 6) = .ok (.invokespecial 167, 3)) (d9 : decode cc (pc + 9) = .ok (.athrow, 1))
    (hn : lo.length = nL) (hlv : glv G + 6 ≤ 12) (hw : (st.map wt).sum ≤ 8) (hl : lim G (k + 1) (n + 6)) (K : Q (.inr xS) h) : J G Q pc lo st h k n := k_throw xs_ok (by decide) C hs d0 d3 d4 d6 d9 hn hlv hw hl K
def j_mx (x y : Int32) : Int32 := if x < y then y else x
def j_mi (x y : Int32) : Int32 := if y < x then y else x
theorem k_max (C : OK G cc nL own rt tb nm) {idx : Nat} {x y : Int32} (w1 : Cond.methodLink own idx Lib.Math.max.name ∈ BG) (hn : lo.length = nL) (hlv : glv G + 1 ≤ 12) (hw : (st.map wt).sum ≤ 8) (hl : lim G k n) (hd : decode cc pc = .ok (.invokestatic idx, 3)) (K : J G Q (pc + 3) lo (vi (j_mx x y) :: st) h k n) : J G Q pc lo (vi y :: vi x :: st) h k n := by
  obtain ⟨p, l, e, s, m, args, below, meth, c, D, dA, sz, lv, mc, ms⟩ := G
  obtain ⟨hx, hb, hml, hown, hts, -⟩ := C
  intro H locs ls hH hS hL
  have hlv' : lv + 1 ≤ 12 := hlv
  refine va_mmax hx hb (by rw [hml, ← hn]; exact hL.1.symm) hown (hts _ w1) (hts _ wg_72) (hts _ wg_4) (hts _ wg_73) (show 1 ≤ 12 - lv by omega) ?_ hl.1 hl.2 hd (K H locs ls hH hS hL)
  show _ + 13 ≤ 450 - 30 * lv
  rw [wt_sum]; omega
theorem k_min (C : OK G cc nL own rt tb nm) {idx : Nat} {x y : Int32} (w1 : Cond.methodLink own idx Lib.Math.min.name ∈ BG) (hn : lo.length = nL) (hlv : glv G + 1 ≤ 12) (hw : (st.map wt).sum ≤ 8) (hl : lim G k n) (hd : decode cc pc = .ok (.invokestatic idx, 3)) (K : J G Q (pc + 3) lo (vi (j_mi x y) :: st) h k n) : J G Q pc lo (vi y :: vi x :: st) h k n := by
  obtain ⟨p, l, e, s, m, args, below, meth, c, D, dA, sz, lv, mc, ms⟩ := G
  obtain ⟨hx, hb, hml, hown, hts, -⟩ := C
  intro H locs ls hH hS hL
  have hlv' : lv + 1 ≤ 12 := hlv
  refine va_mmin hx hb (by rw [hml, ← hn]; exact hL.1.symm) hown (hts _ w1) (hts _ wg_69) (hts _ wg_4) (hts _ wg_70) (show 1 ≤ 12 - lv by omega) ?_ hl.1 hl.2 hd (K H locs ls hH hS hL)
  show _ + 13 ≤ 450 - 30 * lv
  rw [wt_sum]; omega
theorem k_newa (C : OK G cc nL own rt tb nm) {x : Int32} {N : Nat} {ty : ArrayType} {ti t : Nat} (hti : (ty = .int ∧ ti = 0 ∧ t = 8) ∨ (ty = .long ∧ ti = 1 ∧ t = 9) ∨ (ty = .boolean ∧ ti = 2 ∧ t = 10)) (hA : Cond.arrayClass (newarray.typeOf ty) ∈ BG) (h0 : ¬ x < 0) (hN : x.toNatClampNeg = N) (hby : N ≤ 1000000) (hl : lim G (k + 1) (n + N)) (hd : decode cc pc = .ok (.newarray ty, 2))
    (K : ∀ a : Nat, tg h a = 0 → J G Q (pc + 2) lo (vr (some a) :: st) (nA h a t N) (k + 1) (n + N)) : J G Q pc lo (vi x :: st) h k n := by subst hN; exact j_newa C hti hA h0 hby hl hd K
theorem k_newq (C : OK G cc nL own rt tb nm) {x : Int32} {N : Nat} {idx : Nat} (hcl : Cond.classLink own idx "RefHeap$Thing" ∈ BG) (h0 : ¬ x < 0) (hN : x.toNatClampNeg = N) (hby : N ≤ 1000000) (hl : lim G (k + 1) (n + N)) (hd : decode cc pc = .ok (.anewarray idx, 3))
    (K : ∀ a : Nat, tg h a = 0 → J G Q (pc + 3) lo (vr (some a) :: st) (nA h a 11 N) (k + 1) (n + N)) : J G Q pc lo (vi x :: st) h k n := by subst hN; exact j_newq C hcl h0 hby hl hd K
theorem jx_catch {E : String} (C : OK G cc nL own rt tb nm) (pre : List ExceptionTableEntry) (x : ExceptionTableEntry) (suf : List ExceptionTableEntry) (hsplit : tb = pre ++ x :: suf) (hpass : ∀ z ∈ pre, covers z pc = false ∨ (z.catchType ≠ 0 ∧ ∃ nm : String, Cond.classLink own z.catchType nm ∈ BG ∧ (E, nm) ∈ ncs)) (hx : covers x pc = true) (h0 : x.catchType ≠ 0) {name : String}
    (hlink : Cond.classLink own x.catchType name ∈ BG) (hcast : Cond.castable E name ∈ lw_tbl) (K : ∀ q : Nat, J G Q x.handlerPc lo [vr (some q)] h k n) : JX G Q pc E lo st h k n := by
  obtain ⟨p, l, e, s, m, args, below, meth, c, D, dA, sz, lv, mc, ms⟩ := G
  obtain ⟨hx', hb, -, hown, hts, hlocks, -, hWD, -, -, htb, -⟩ := C
  intro H locs ls q ce hH hS hL h1 h2 h3
  refine vx_catch (own := own) (name := name) (E := E) hown pre x suf (htb.trans hsplit) (fun z hz => ?_) hx h0 (hts _ hlink) (va_tabs (by rfl) rfl (hWD.2.2.1 _ hcast rfl)) h1 h2 h3 (K q H locs ls hH hS hL)
  rcases hpass z hz with h | ⟨h, nm, h4, h5⟩
  · exact Or.inl h
  · exact Or.inr ⟨h, nm, hts _ h4, hWD.2.2.2.1 _ h5⟩
theorem j_name (K : ∀ h' : Hp, h' = h → J G Q pc lo st h' k n) : J G Q pc lo st h k n := K h rfl
end RW6
