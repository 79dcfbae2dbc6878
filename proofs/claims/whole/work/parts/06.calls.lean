/-! NEW CELLS, CASTS, CONTRACTS, CALLS over the judgement J. -/
def glv (G : Cx) : Nat :=
  match G with
  | (_, _, _, _, _, _, _, _, _, _, _, _, lv, _, _) => lv
def dfv : Nat ⊕ Nat → Value
  | .inl _ => .int 0
  | .inr _ => .null
def wt : AV → Nat
  | .inr (.inr _) => 2
  | _ => 1
theorem wt_sum : ∀ st : List AV, ((st.map tv).map fun v => v.category).sum = (st.map wt).sum := by
  intro st
  induction st with
  | nil => rfl
  | cons v r ih =>
    have hv : (tv v).category = wt v := by
      rcases v with x | o | x
      · rfl
      · cases o <;> rfl
      · rfl
    simp only [List.map_cons, List.sum_cons, hv]
    rw [← ih]
theorem tg_nO (h : Hp) (a t b : Nat) : tg (nO h a t) b = if b = a then t else tg h b := rfl
theorem ce_nO {dA : Nat → ClassId} {h : Hp} {a t b : Nat} (hb : b ≠ a) : ce dA (nO h a t) b = ce dA h b :=
  ce_same (by rw [tg_nO, if_neg hb]) (fun g => by show (if b = a then (0 : Int32) else fI h g b) = _; rw [if_neg hb]) (fun g => by show (if b = a then none else fR h g b) = _; rw [if_neg hb]) rfl rfl rfl rfl
theorem ce_nA {dA : Nat → ClassId} {h : Hp} {a t z b : Nat} (hb : b ≠ a) : ce dA (nA h a t z) b = ce dA h b :=
  ce_same (by show (if b = a then t else tg h b) = _; rw [if_neg hb]) (fun _ => rfl) (fun _ => rfl) (by show (if b = a then z else ln h b) = _; rw [if_neg hb]) (by show (if b = a then (fun _ => 0) else aI h b) = _; rw [if_neg hb]) (by show (if b = a then (fun _ => 0) else aL h b) = _; rw [if_neg hb]) (by show (if b = a then (fun _ => none) else aR h b) = _; rw [if_neg hb])
theorem fv_nO (h : Hp) (a t : Nat) : fv (nO h a t) a = dfv := by
  funext f
  cases f with
  | inl g => show Value.int (if a = a then 0 else _) = _; rw [if_pos rfl]; rfl
  | inr g => show va_rf (if a = a then none else _) = _; rw [if_pos rfl]; rfl
theorem tg_nA (h : Hp) (a t z : Nat) : tg (nA h a t z) a = t := if_pos rfl
theorem ln_nA (h : Hp) (a t z : Nat) : ln (nA h a t z) a = z := if_pos rfl
theorem aI_nA (h : Hp) (a t z : Nat) : aI (nA h a t z) a = fun _ => 0 := if_pos rfl
theorem aL_nA (h : Hp) (a t z : Nat) : aL (nA h a t z) a = fun _ => 0 := if_pos rfl
theorem aR_nA (h : Hp) (a t z : Nat) : aR (nA h a t z) a = fun _ => none := if_pos rfl
theorem va_S.grow {A : Nat → Prop} {H0 H H1 : Heap} {locs : List Loc} (hS : va_S A H0 H locs) (hz : H.size ≤ H1.size) (o1 : ∀ q : Nat, q < H.size → H1[q]? = H[q]?) : va_S A H0 H1 locs :=
  ⟨Nat.le_trans hS.1 hz, fun x h1 h2 => (o1 x (Nat.lt_of_lt_of_le h1 hS.1)).trans (hS.2.1 x h1 h2), hS.2.2⟩
section RW3
variable {G : Cx} {cc : ByteArray} {nL : Nat} {own nm : String} {rt : Option FieldType} {tb : List ExceptionTableEntry} {Q : Option AV ⊕ String → Hp → Prop} {pc : Nat} {lo : List (Option AV)} {st : List AV} {h : Hp} {k n : Nat}
theorem j_new (C : OK G cc nL own rt tb nm) {ci idx N : Nat} {Cn : String} {T : u_T} {ty0 : Nat → FieldType} (hc : vwCl[ci]? = some (Cn, T, N)) (hin : ∀ w ∈ u_ws Cn T N, w ∈ BG) (hty : ∀ k, k < N → parseFieldDescriptor (T k).2.2.1 = some (ty0 k)) (hdf : ∀ j, j < N → defaultValue (ty0 j) = vp_V ((fl ci).map dfv) j)
    (hcl : Cond.classLink own idx Cn ∈ BG) (hinst : Cond.instantiable Cn N ∈ BG) (hini : Cond.initialized Cn ∈ BG) (h7 : ci < 7) (hl : lim G (k + 1) (n + N)) (hd : decode cc pc = .ok (.new idx, 3)) (K : ∀ a : Nat, tg h a = 0 → J G Q (pc + 3) lo (vr (some a) :: st) (nO h a (ci + 1)) (k + 1) (n + N)) : J G Q pc lo st h k n := by
  obtain ⟨p, l, e, s, m, args, below, meth, c, D, dA, sz, lv, mc, ms⟩ := G
  obtain ⟨hx, hb, -, hown, hts, -, -, hWD, hsz, -⟩ := C
  intro H locs ls hH hS hL
  have hKn := hWD.1.1 ci _ hc
  refine W.newcK hx hb hown (hts _ hcl) (hts _ hinst) (hts _ hini) rfl hd hl.1 hl.2 hKn.2.1 rfl fun H1 kC hkC e1 z1 o1 => ?_
  refine K H.size (hH.lt (Nat.le_refl _)) H1 locs ls (hH.new o1 (Nat.le_trans hsz hS.1) (fun b hb => ce_nO hb) (fun e' he' => ?_)) (hS.grow (by omega) o1) hL
  rw [ce_obj (ci := ci) (by rw [tg_nO, if_pos rfl]) h7, fv_nO] at he'
  cases he'
  exact ⟨_, hc, (u_born ty0 hts hin hKn hkC e1 hty).to hdf⟩
theorem j_newa (C : OK G cc nL own rt tb nm) {x : Int32} {ty : ArrayType} {ti t : Nat} (hti : (ty = .int ∧ ti = 0 ∧ t = 8) ∨ (ty = .long ∧ ti = 1 ∧ t = 9) ∨ (ty = .boolean ∧ ti = 2 ∧ t = 10)) (hA : Cond.arrayClass (newarray.typeOf ty) ∈ BG) (h0 : ¬ x < 0) (hby : x.toNatClampNeg ≤ 1000000) (hl : lim G (k + 1) (n + x.toNatClampNeg)) (hd : decode cc pc = .ok (.newarray ty, 2))
    (K : ∀ a : Nat, tg h a = 0 → J G Q (pc + 2) lo (vr (some a) :: st) (nA h a t x.toNatClampNeg) (k + 1) (n + x.toNatClampNeg)) : J G Q pc lo (vi x :: st) h k n := by
  obtain ⟨p, l, e, s, m, args, below, meth, c, D, dA, sz, lv, mc, ms⟩ := G
  obtain ⟨hx, hb, -, hown, hts, -, -, hWD, hsz, -⟩ := C
  intro H locs ls hH hS hL
  refine va_newaK hx hb (hts _ hA) (g := F0 m pc ls (.int x :: st.map tv)) rfl hd rfl h0 rfl ?_ hl.1 hl.2 rfl fun H1 cA e1 z1 o1 hAr hNm => ?_
  · rcases hti with ⟨rfl, -⟩ | ⟨rfl, -⟩ | ⟨rfl, -⟩
    · show _ * 4 ≤ _; omega
    · show _ * 8 ≤ _; omega
    · show _ * 1 ≤ _; omega
  refine K H.size (hH.lt (Nat.le_refl _)) H1 locs ls (hH.new o1 (Nat.le_trans hsz hS.1) (fun b hb => ce_nA hb) (fun e' he' => ?_)) (hS.grow (by omega) o1) hL
  rcases hti with ⟨rfl, rfl, rfl⟩ | ⟨rfl, rfl, rfl⟩ | ⟨rfl, rfl, rfl⟩
  · rw [ce_i (tg_nA _ _ _ _), ln_nA, aI_nA] at he'
    cases he'
    have hc : cA = dA 0 := Option.some.inj (hNm.symm.trans (hWD.1.2 0 _ rfl).2)
    subst hc
    exact e1
  · rw [ce_l (tg_nA _ _ _ _), ln_nA, aL_nA] at he'
    cases he'
    have hc : cA = dA 1 := Option.some.inj (hNm.symm.trans (hWD.1.2 1 _ rfl).2)
    subst hc
    exact e1
  · rw [ce_z (tg_nA _ _ _ _), ln_nA, aI_nA] at he'
    cases he'
    have hc : cA = dA 2 := Option.some.inj (hNm.symm.trans (hWD.1.2 2 _ rfl).2)
    subst hc
    exact e1
theorem j_newq (C : OK G cc nL own rt tb nm) {x : Int32} {idx : Nat} (hcl : Cond.classLink own idx "RefHeap$Thing" ∈ BG) (h0 : ¬ x < 0) (hby : x.toNatClampNeg ≤ 1000000) (hl : lim G (k + 1) (n + x.toNatClampNeg)) (hd : decode cc pc = .ok (.anewarray idx, 3))
    (K : ∀ a : Nat, tg h a = 0 → J G Q (pc + 3) lo (vr (some a) :: st) (nA h a 11 x.toNatClampNeg) (k + 1) (n + x.toNatClampNeg)) : J G Q pc lo (vi x :: st) h k n := by
  obtain ⟨p, l, e, s, m, args, below, meth, c, D, dA, sz, lv, mc, ms⟩ := G
  obtain ⟨hx, hb, -, hown, hts, -, -, hWD, hsz, -⟩ := C
  intro H locs ls hH hS hL
  refine W.anew hx hb hown (hts _ hcl) (va_AO.use hWD.2.1) (g := F0 m pc ls (.int x :: st.map tv)) rfl hd rfl h0 (by omega) hl.1 hl.2 fun cA kA comp f1 f2 f3 f4 => ?_
  have o1 : ∀ q : Nat, q < H.size → (H.push ({ cls := cA, slots := Array.replicate x.toNatClampNeg .null, vm := .none } : Cell))[q]? = H[q]? := fun q hq => by rw [Array.getElem?_push, if_neg (Nat.ne_of_lt hq)]
  refine K H.size (hH.lt (Nat.le_refl _)) _ locs ls (hH.new o1 (Nat.le_trans hsz hS.1) (fun b hb => ce_nA hb) (fun e' he' => ?_)) (hS.grow (by rw [Array.size_push]; omega) o1) hL
  rw [ce_q (tg_nA _ _ _ _), ln_nA, aR_nA] at he'
  cases he'
  obtain ⟨-, -, -, -, -, f5⟩ := (hWD.1.2 3 _ rfl).2
  have hc : cA = dA 3 := Option.some.inj (f1.symm.trans f5)
  subst hc
  show (H.push _)[H.size]? = some (vp_cell _ _)
  rw [Array.getElem?_push_size, vp_cell_q, ← arrV_new]
  rfl
/-- an object of the heap as a receiver -/
theorem recvOf {D : va_G} {dA : Nat → ClassId} {sz : Nat} {H : Heap} {s : State} {a ci : Nat} {q : vw_C} (hWD : WD D dA sz s) (hH : HR D dA sz h H) (hc : vwCl[ci]? = some q) (h7 : ci < 7) (ht : tg h a = ci + 1) : ∃ cell : Cell, H[a]? = some cell ∧ cell.vm.isStatics = false ∧ s.vm.findClass q.1 = some cell.cls :=
  va_recv hWD.1 (one_P (hH.obj ht h7).2) hc (q0 := 0) rfl
def thg (h : Hp) (a : Nat) : Prop := tg h a = 2 ∨ tg h a = 3 ∨ tg h a = 4
theorem nwk_in {D : va_G} {dA : Nat → ClassId} {sz : Nat} {s : State} (hWD : WD D dA sz s) {w : Cond} (hw : w ∈ lw_tbl) (hn : nwk w = true) : va_Nw w s := hWD.2.2.1 w hw hn
theorem j_aast (C : OK G cc nL own rt tb nm) (wH : Cond.castable "RefHeap$Holder" "RefHeap$Thing" ∈ lw_tbl) (wL : Cond.castable "RefHeap$Line" "RefHeap$Thing" ∈ lw_tbl) (wO : Cond.castable "RefHeap$Loose" "RefHeap$Thing" ∈ lw_tbl) {a : Nat} {i : Int32} {x : Option Nat} (ht : tg h a = 11) (hi : vp_in i (ln h a)) (hv : ∀ b, x = some b → thg h b) (hd : decode cc pc = .ok (.aastore, 1)) (K : J G Q (pc + 1) lo st (qR h a i.toNatClampNeg x) k n) : J G Q pc lo (vr x :: vi i :: vr (some a) :: st) h k n := by
  obtain ⟨p, l, e, s, m, args, below, meth, c, D, dA, sz, lv, mc, ms⟩ := G
  obtain ⟨hx, hb, -, hown, hts, -, -, hWD, -⟩ := C
  intro H locs ls hH hS hL
  obtain ⟨hsz, hat⟩ := hH a _ (ce_q ht)
  have fin : ∀ H1 : Heap, H1[a]? = some ((vp_cell (dA 3) (ln h a, .inr (.inr (.inr (.inr (aR h a)))))).setSlot i.toNatClampNeg (va_rf x)) → H1.size = H.size → (∀ q, q ≠ a → H1[q]? = H[q]?) → W p l e (rmo lv mc ms) s m args below meth c H1 (locs ++ [⟨a, i.toNatClampNeg⟩]) k n (vx_MQ below (cQ D dA sz Q) (cX D dA sz Q) args s mc ms (fun q => sz ≤ q)) (F0 m (pc + 1) ls (st.map tv)) := by
    intro H1 e1 z oq
    refine K H1 _ ls (hH.set oq hsz (fun b hb => ce_same rfl (fun _ => rfl) (fun _ => rfl) rfl rfl rfl (up2_off _ _ _ hb)) (fun e' he' => ?_)) (hS.put z oq hsz) hL
    rw [ce_q (h := qR h a i.toNatClampNeg x) ht] at he'
    cases he'
    show H1[a]? = some (vp_cell _ _)
    rw [e1, vp_cell_q, vp_cell_q, arrV_store]
    congr 2
    funext q
    show _ = va_rf (up2 (aR h) a i.toNatClampNeg x a q)
    by_cases hq : q = i.toNatClampNeg
    · subst hq; simp [updV, up2]
    · simp [updV, up2, hq]
  cases x with
  | none => exact va_WaastN (C := "RefHeap$Thing") hx hb hat ((hWD.1.2 3 _ rfl).1 (ln h a) (fun j => va_rf (aR h a j))) (fun q => by cases q) (by show ¬ (i < 0 ∨ (arrV _ _ _).slots.size ≤ _); rw [arrV_size]; exact hi) rfl rfl hd fin
  | some b =>
    have hlt : i.toNatClampNeg < ln h a := Nat.not_le.mp fun q => hi (Or.inr q)
    have h0 : ¬ i < 0 := fun q => hi (Or.inl q)
    obtain ⟨kA, comp, k1, k2, k3, -⟩ := (hWD.1.2 3 _ rfl).2
    obtain ⟨cellV, g1, g2, t0, f2, f3⟩ : ∃ cellV : Cell, H[b]? = some cellV ∧ cellV.vm.isStatics = false ∧ ∃ t0, s.vm.findClass "RefHeap$Thing" = some t0 ∧ s.vm.assignable cellV.cls t0 = true := by
      rcases hv b rfl with hb | hb | hb
      · obtain ⟨cell, h1, h2, h3⟩ := recvOf hWD hH (ci := 1) rfl (by decide) hb
        obtain ⟨c0, t0, f1, f2, f3⟩ := Cond.castable_spec (va_Nw.use (A := args) rfl (nwk_in hWD wH rfl))
        cases h3.symm.trans f1
        exact ⟨cell, h1, h2, t0, f2, f3⟩
      · obtain ⟨cell, h1, h2, h3⟩ := recvOf hWD hH (ci := 2) rfl (by decide) hb
        obtain ⟨c0, t0, f1, f2, f3⟩ := Cond.castable_spec (va_Nw.use (A := args) rfl (nwk_in hWD wL rfl))
        cases h3.symm.trans f1
        exact ⟨cell, h1, h2, t0, f2, f3⟩
      · obtain ⟨cell, h1, h2, h3⟩ := recvOf hWD hH (ci := 3) rfl (by decide) hb
        obtain ⟨c0, t0, f1, f2, f3⟩ := Cond.castable_spec (va_Nw.use (A := args) rfl (nwk_in hWD wO rfl))
        cases h3.symm.trans f1
        exact ⟨cell, h1, h2, t0, f2, f3⟩
    cases k3.symm.trans f2
    obtain ⟨kcomp, hkcomp, -⟩ := Vm.findClass_spec k3
    obtain ⟨kv, hkv⟩ := Vm.classAt_of_assignable f3 ⟨kcomp, hkcomp⟩
    exact W.aast hx hb hat (fun q hq => by cases hq) (fun q => by cases q) k1 k2 rfl hkcomp ⟨h0, by show _ < (arrV _ _ _).slots.size; rw [arrV_size]; exact hlt⟩ g1 (fun q hq => by rw [hq] at g2; cases g2) hkv f3 rfl rfl hd fin
theorem j_ldc2 (C : OK G cc nL own rt tb nm) {idx : Nat} {v : Int64} (hw : Cond.constantLong own idx v ∈ BG) (hd : decode cc pc = .ok (.ldc2_w idx, 3)) (K : J G Q (pc + 3) lo (vl v :: st) h k n) : J G Q pc lo st h k n := by
  obtain ⟨p, l, e, s, m, args, below, meth, c, D, dA, sz, lv, mc, ms⟩ := G
  obtain ⟨hx, hb, -, hown, hts, -⟩ := C
  intro H locs ls hH hS hL
  exact lv_ldc2 hx hb hown (hts _ hw) hd (K H locs ls hH hS hL)
theorem j_ldc (C : OK G cc nL own rt tb nm) {idx : Nat} {v : Int32} (hw : Cond.constant own idx v ∈ BG) (hd : decode cc pc = .ok (.ldc idx, 2)) (K : J G Q (pc + 2) lo (vi v :: st) h k n) : J G Q pc lo st h k n := by
  obtain ⟨p, l, e, s, m, args, below, meth, c, D, dA, sz, lv, mc, ms⟩ := G
  obtain ⟨hx, hb, -, hown, hts, -⟩ := C
  intro H locs ls hH hS hL
  exact lv_ldc hx hb hown (hts _ hw) hd (K H locs ls hH hS hL)
theorem j_objInit (C : OK G cc nL own rt tb nm) {idx a : Nat} (w1 : Cond.methodLink own idx objectInit ∈ BG) (w2 : Cond.instanceMethod objectInit ∈ BG) (w3 : Cond.code objectInit ⟨#[0xb1]⟩ 1 none ∈ BG) (hn : lo.length = nL) (hlv : glv G ≤ 11) (hw : (st.map wt).sum ≤ 8) (hd : decode cc pc = .ok (.invokespecial idx, 3)) (K : J G Q (pc + 3) lo st h k n) : J G Q pc lo (vr (some a) :: st) h k n := by
  obtain ⟨p, l, e, s, m, args, below, meth, c, D, dA, sz, lv, mc, ms⟩ := G
  obtain ⟨hx, hb, hml, hown, hts, -⟩ := C
  intro H locs ls hH hS hL
  have hlv' : lv ≤ 11 := hlv
  refine W.objInit hx hb hown (hts _ w1) (hts _ w2) (hts _ w3) (g := F0 m pc ls (.ref a :: st.map tv)) rfl (by rw [hml, ← hn]; exact hL.1) rfl hd (show 1 ≤ 12 - lv by omega) ?_ (K H locs ls hH hS hL)
  show 2 * 0 + _ + 12 ≤ 450 - 30 * lv
  rw [wt_sum]
  omega
/-- casts and tests of the class of a Thing -/
theorem j_inst (C : OK G cc nL own rt tb nm) {ci idx : Nat} {Cn : String} (hci : (ci = 1 ∧ Cn = "RefHeap$Holder") ∨ (ci = 2 ∧ Cn = "RefHeap$Line") ∨ (ci = 3 ∧ Cn = "RefHeap$Loose")) {x : Option Nat} (wc : Cond.castable Cn Cn ∈ lw_tbl) (hw : Cond.classLink own idx Cn ∈ BG) (hv : ∀ b, x = some b → thg h b) (hd : decode cc pc = .ok (.instanceof idx, 3))
    (K : ((∃ b, x = some b ∧ tg h b = ci + 1) → J G Q (pc + 3) lo (vi 1 :: st) h k n) ∧ ((∀ b, x = some b → tg h b ≠ ci + 1) → J G Q (pc + 3) lo (vi 0 :: st) h k n)) : J G Q pc lo (vr x :: st) h k n := by
  obtain ⟨p, l, e, s, m, args, below, meth, c, D, dA, sz, lv, mc, ms⟩ := G
  obtain ⟨hx, hb, -, hown, hts, -, -, hWD, -⟩ := C
  intro H locs ls hH hS hL
  cases x with
  | none => exact lv_instN hx hb hd (K.2 (fun b hb => by cases hb) H locs ls hH hS hL)
  | some b =>
    by_cases he : tg h b = ci + 1
    · have hr : ∃ cell : Cell, H[b]? = some cell ∧ cell.vm.isStatics = false ∧ s.vm.findClass Cn = some cell.cls := by
        rcases hci with ⟨rfl, rfl⟩ | ⟨rfl, rfl⟩ | ⟨rfl, rfl⟩
        · exact recvOf hWD hH (ci := 1) rfl (by decide) he
        · exact recvOf hWD hH (ci := 2) rfl (by decide) he
        · exact recvOf hWD hH (ci := 3) rfl (by decide) he
      exact va_instY hx hb hown (hts _ hw) (nwk_in hWD wc rfl) hr hd (K.1 ⟨b, rfl, he⟩ H locs ls hH hS hL)
    · have hk := K.2 (fun b' hb' => by cases hb'; exact he) H locs ls hH hS hL
      have no : ∀ (cj : Nat) (q : vw_C), vwCl[cj]? = some q → cj < 7 → tg h b = cj + 1 → (q.1, Cn) ∈ ncs → W p l e (rmo lv mc ms) s m args below meth c H locs k n (vx_MQ below (cQ D dA sz Q) (cX D dA sz Q) args s mc ms (fun q => sz ≤ q)) (F0 m pc ls (.ref b :: st.map tv)) := fun cj q hq h7 ht hm => va_instNo hx hb hown (hts _ hw) (hWD.2.2.2.1 _ hm) (recvOf hWD hH hq h7 ht) hd hk
      rcases hv b rfl with ht | ht | ht
      · rcases hci with ⟨rfl, rfl⟩ | ⟨rfl, rfl⟩ | ⟨rfl, rfl⟩
        · exact absurd ht he
        · exact no 1 _ rfl (by decide) ht (by decide +kernel)
        · exact no 1 _ rfl (by decide) ht (by decide +kernel)
      · rcases hci with ⟨rfl, rfl⟩ | ⟨rfl, rfl⟩ | ⟨rfl, rfl⟩
        · exact no 2 _ rfl (by decide) ht (by decide +kernel)
        · exact absurd ht he
        · exact no 2 _ rfl (by decide) ht (by decide +kernel)
      · rcases hci with ⟨rfl, rfl⟩ | ⟨rfl, rfl⟩ | ⟨rfl, rfl⟩
        · exact no 3 _ rfl (by decide) ht (by decide +kernel)
        · exact no 3 _ rfl (by decide) ht (by decide +kernel)
        · exact absurd ht he
theorem j_cast (C : OK G cc nL own rt tb nm) {ci idx a : Nat} {Cn : String} (hci : (ci = 1 ∧ Cn = "RefHeap$Holder") ∨ (ci = 2 ∧ Cn = "RefHeap$Line") ∨ (ci = 3 ∧ Cn = "RefHeap$Loose")) (wc : Cond.castable Cn Cn ∈ lw_tbl) (hw : Cond.classLink own idx Cn ∈ BG) (ht : tg h a = ci + 1) (hd : decode cc pc = .ok (.checkcast idx, 3)) (K : J G Q (pc + 3) lo (vr (some a) :: st) h k n) : J G Q pc lo (vr (some a) :: st) h k n := by
  obtain ⟨p, l, e, s, m, args, below, meth, c, D, dA, sz, lv, mc, ms⟩ := G
  obtain ⟨hx, hb, -, hown, hts, -, -, hWD, -⟩ := C
  intro H locs ls hH hS hL
  have hr : ∃ cell : Cell, H[a]? = some cell ∧ cell.vm.isStatics = false ∧ s.vm.findClass Cn = some cell.cls := by
    rcases hci with ⟨rfl, rfl⟩ | ⟨rfl, rfl⟩ | ⟨rfl, rfl⟩
    · exact recvOf hWD hH (ci := 1) rfl (by decide) ht
    · exact recvOf hWD hH (ci := 2) rfl (by decide) ht
    · exact recvOf hWD hH (ci := 3) rfl (by decide) ht
  exact va_castY hx hb hown (hts _ hw) (nwk_in hWD wc rfl) hr hd (K H locs ls hH hS hL)
/-- thrown objects: the judgement with one thrown over the frame -/
def JX (G : Cx) (Q : Option AV ⊕ String → Hp → Prop) (pc : Nat) (E : String) (lo : List (Option AV)) (st : List AV) (h : Hp) (k n : Nat) : Prop :=
  match G with
  | (p, l, e, s, m, args, below, meth, c, D, dA, sz, lv, mc, ms) => ∀ (H : Heap) (locs : List Loc) (ls : Array Slot) (q : Addr) (ce : Cell), HR D dA sz h H → va_S (fun q => sz ≤ q) s.heap H locs → LR ls lo → H[q]? = some ce → ce.vm = .none → s.vm.findClass E = some ce.cls → vx_W p l e (rmo lv mc ms) s m args below meth c H locs k n (vx_MQ below (cQ D dA sz Q) (cX D dA sz Q) args s mc ms (fun q => sz ≤ q)) (F0 m pc ls (st.map tv)) q
theorem jx_out {E : String} (C : OK G cc nL own rt [] nm) (hl : lim G k n) (K : Q (.inr E) h) : JX G Q pc E lo st h k n := by
  obtain ⟨p, l, e, s, m, args, below, meth, c, D, dA, sz, lv, mc, ms⟩ := G
  obtain ⟨hx, hb, -, hown, hts, hlocks, -, hWD, -, -, htb, -⟩ := C
  intro H locs ls q ce hH hS hL h1 h2 h3
  exact vx_out (fun x hx => by rw [htb] at hx; cases hx) hlocks h1 h2 h3 (fun t ht _ => ⟨h, K, by rw [ht]; exact hH, hS.F ht⟩) hS.2.2 hl.1 hl.2
/-- a contract for a method without a table, from a walk of its body -/
def ena : List AV → List (Option AV)
  | [] => []
  | v :: r => if isL v then some v :: none :: ena r else some v :: ena r
def ent (av : List AV) (nL : Nat) : List (Option AV) := ena av ++ List.replicate (nL - (ena av).length) none
theorem ena_len : ∀ av : List AV, (ena av).length = (lg_sl (av.map tv)).length := by
  intro av
  induction av with
  | nil => rfl
  | cons v r ih =>
    rcases v with x | o | x
    · show (ena r).length + 1 = (Slot.val (.int x) :: lg_sl (r.map tv)).length
      simp [ih]
    · have : lg_sl ((vr o :: r).map tv) = .val (va_rf o) :: lg_sl (r.map tv) := by cases o <;> rfl
      rw [this]
      show (ena r).length + 1 = _
      simp [ih]
    · show (ena r).length + 1 + 1 = (Slot.val (.long x) :: .second :: lg_sl (r.map tv)).length
      simp [ih]
theorem ena_mem : ∀ (av : List AV) (d i : Nat) (v : AV), (ena av)[i]? = some (some v) → (d + i, tv v) ∈ lv_args d (av.map tv) := by
  intro av
  induction av with
  | nil => intro d i v h; simp [ena] at h
  | cons w r ih =>
    intro d i v h
    have key : ∀ (e : Nat) (hw : isL w = false), (some w :: ena r)[i]? = some (some v) → lv_args d ((w :: r).map tv) = (d, tv w) :: lv_args (d + 1) (r.map tv) → (d + i, tv v) ∈ lv_args d ((w :: r).map tv) := by
      intro _ _ h1 h2
      rw [h2]
      cases i with
      | zero => simp at h1; rw [h1]; exact List.mem_cons_self
      | succ i =>
        have := ih (d + 1) i v (by simpa using h1)
        exact List.mem_cons_of_mem _ (by rw [show d + (i + 1) = d + 1 + i by omega]; exact this)
    rcases w with x | o | x
    · exact key 0 rfl h rfl
    · exact key 0 rfl h (by cases o <;> rfl)
    · have h2 : lv_args d ((vl x :: r).map tv) = (d, .long x) :: lv_args (d + 2) (r.map tv) := rfl
      have h1 : (some (vl x) :: none :: ena r)[i]? = some (some v) := h
      rw [h2]
      match i, h1 with
      | 0, h1 => simp at h1; rw [← h1]; exact List.mem_cons_self
      | 1, h1 => simp at h1
      | i + 2, h1 =>
        have := ih (d + 2) i v (by simpa using h1)
        exact List.mem_cons_of_mem _ (by rw [show d + (i + 2) = d + 2 + i by omega]; exact this)
theorem LR.entry {av : List AV} {nL : Nat} (hn : (ena av).length ≤ nL) : LR (lg_sl (av.map tv) ++ List.replicate (nL - (lg_sl (av.map tv)).length) Slot.unset).toArray (ent av nL) := by
  have h := lv_entry (av.map tv) (n := nL) (by rw [← ena_len]; exact hn)
  refine ⟨by rw [h.1]; unfold ent; rw [List.length_append, List.length_replicate]; omega, h.2.1, fun i v hi => ?_⟩
  unfold ent at hi
  rw [List.getElem?_append] at hi
  split at hi
  · have := h.2.2 _ (ena_mem av 0 i v hi)
    simpa using this
  · rw [List.getElem?_replicate] at hi
    split at hi
    · cases hi
    · cases hi
end RW3
theorem Ctr.of {l : Launch} {D : va_G} {dA : Nat → ClassId} {sz : Nat} {y : MethodName} {cc : ByteArray} {nL : Nat} {rt : Option FieldType} {lv : Nat} {av : List AV} {h : Hp} {mc ms : Nat} {Q : Option AV ⊕ String → Hp → Prop} {lo : List (Option AV)}
    (hst : l.stackTraces = false) (hy : plainName y.cls = true) (hn : (ena av).length ≤ nL) (hlo : ent av nL = lo)
    (body : ∀ G : Cx, glv G = lv → (∀ k n, k ≤ mc → n ≤ ms → lim G k n) → OK G cc nL y.cls rt [] y.name → J G Q 0 lo [] h 0 0) : Ctr l D dA sz (Cond.code y cc nL rt) y lv av h mc ms Q := by
  subst hlo
  refine vx_ofW (cc := cc) (maxL := nL) (ret := rt) hy rfl ?_
  intro p e s m args below meth c s₁ B hml ht hv
  obtain ⟨rfl, hWD, hH, hsz⟩ := hv
  have hts := atoms_spec (ws := Cond.code y cc nL rt :: BG) B.pre
  have htb : c.exceptionTable.toList = [] := by
    cases he : c.exceptionTable.toList with
    | nil => rfl
    | cons x r => exact (ht x (by rw [he]; exact List.mem_cons_self)).elim
  have hJ := body (p, l, e, s, m, (av.map tv).toArray, below, meth, c, D, dA, sz, lv, mc, ms) rfl (fun k n h1 h2 => ⟨h1, h2⟩)
    ⟨B.exec, B.bytes, hml, findClass_of_methodNamed B.named, fun w hw => hts w (List.mem_cons_of_mem _ hw), B.notSynchronized, B.returns, hWD, hsz, hst, htb, (name_of_methodNamed B.named B.method).1⟩
  rw [lg_entry_eq]
  exact hJ s.heap [] _ hH va_S.rf (LR.entry hn)
theorem Ctr.ofH {l : Launch} {D : va_G} {dA : Nat → ClassId} {sz : Nat} {y : MethodName} {cc : ByteArray} {nL : Nat} {rt : Option FieldType} {hh : List (Nat × Nat × Nat × Nat)} {lv : Nat} {av : List AV} {h : Hp} {mc ms : Nat} {Q : Option AV ⊕ String → Hp → Prop} {lo : List (Option AV)}
    (hst : l.stackTraces = false) (hy : plainName y.cls = true) (hn : (ena av).length ≤ nL) (hlo : ent av nL = lo)
    (body : ∀ G : Cx, glv G = lv → (∀ k n, k ≤ mc → n ≤ ms → lim G k n) → OK G cc nL y.cls rt (tableOf hh) y.name → J G Q 0 lo [] h 0 0) : Ctr l D dA sz (Cond.codeWith y cc nL rt hh) y lv av h mc ms Q := by
  subst hlo
  refine vx_ofWH (cc := cc) (maxL := nL) (ret := rt) (hh := hh) hy rfl ?_
  intro p e s m args below meth c s₁ B hml hv
  obtain ⟨rfl, hWD, hH, hsz⟩ := hv
  have hts := atoms_spec (ws := Cond.codeWith y cc nL rt hh :: BG) B.pre
  have hJ := body (p, l, e, s, m, (av.map tv).toArray, below, meth, c, D, dA, sz, lv, mc, ms) rfl (fun k n h1 h2 => ⟨h1, h2⟩)
    ⟨B.exec, B.bytes, hml, findClass_of_methodNamed B.named, fun w hw => hts w (List.mem_cons_of_mem _ hw), B.notSynchronized, B.returns, hWD, hsz, hst, vx_table (x := y) B (hts _ List.mem_cons_self), (name_of_methodNamed B.named B.method).1⟩
  rw [lg_entry_eq]
  exact hJ s.heap [] _ hH va_S.rf (LR.entry hn)
