/-! FIELDS, ARRAYS, NEW CELLS, ENDS over the judgement J. -/
def lim (G : Cx) (k n : Nat) : Prop :=
  match G with
  | (_, _, _, _, _, _, _, _, _, _, _, _, _, mc, ms) => k ≤ mc ∧ n ≤ ms
def fav (h : Hp) (a : Nat) : Nat ⊕ Nat → AV
  | .inl g => vi (fI h g a)
  | .inr g => vr (fR h g a)
theorem tv_fav (h : Hp) (a : Nat) (f : Nat ⊕ Nat) : tv (fav h a f) = fv h a f := by cases f <;> rfl
theorem ce_obj {dA : Nat → ClassId} {h : Hp} {a ci : Nat} (ht : tg h a = ci + 1) (hc : ci < 7) : ce dA h a = some (.inr (ci, (fl ci).map (fv h a))) := by
  unfold ce
  rw [ht]
  match ci, hc with
  | 0, _ => rfl
  | 1, _ => rfl
  | 2, _ => rfl
  | 3, _ => rfl
  | 4, _ => rfl
  | 5, _ => rfl
  | 6, _ => rfl
theorem HR.obj {D : va_G} {dA : Nat → ClassId} {sz : Nat} {h : Hp} {H : Heap} {a ci : Nat} (hH : HR D dA sz h H) (ht : tg h a = ci + 1) (hc : ci < 7) : sz ≤ a ∧ va_at D vwCl (a, .inr (ci, (fl ci).map (fv h a))) H := hH a _ (ce_obj ht hc)
theorem ce_i {dA : Nat → ClassId} {h : Hp} {a : Nat} (ht : tg h a = 8) : ce dA h a = some (.inl (dA 0, ln h a, .inl (aI h a))) := by unfold ce; rw [ht] <;> rfl
theorem ce_l {dA : Nat → ClassId} {h : Hp} {a : Nat} (ht : tg h a = 9) : ce dA h a = some (.inl (dA 1, ln h a, .inr (.inl (aL h a)))) := by unfold ce; rw [ht] <;> rfl
theorem ce_z {dA : Nat → ClassId} {h : Hp} {a : Nat} (ht : tg h a = 10) : ce dA h a = some (.inl (dA 2, ln h a, .inl (aI h a))) := by unfold ce; rw [ht] <;> rfl
theorem ce_q {dA : Nat → ClassId} {h : Hp} {a : Nat} (ht : tg h a = 11) : ce dA h a = some (.inl (dA 3, ln h a, .inr (.inr (.inr (.inr (aR h a)))))) := by unfold ce; rw [ht] <;> rfl
theorem ce_none {dA : Nat → ClassId} {h : Hp} {a : Nat} (hn : ce dA h a = none) : tg h a = 0 := by
  unfold ce at hn
  split at hn <;> first | assumption | cases hn
theorem ce_same {dA : Nat → ClassId} {h h' : Hp} {b : Nat} (h1 : tg h' b = tg h b) (h2 : ∀ g, fI h' g b = fI h g b) (h3 : ∀ g, fR h' g b = fR h g b) (h4 : ln h' b = ln h b) (h5 : aI h' b = aI h b) (h6 : aL h' b = aL h b) (h7 : aR h' b = aR h b) : ce dA h' b = ce dA h b := by
  have hf : fv h' b = fv h b := by
    funext f
    cases f with
    | inl g => simp only [fv, h2]
    | inr g => simp only [fv, h3]
  unfold ce
  rw [h1, hf, h4, h5, h6, h7]
theorem one_P {D : va_G} {q : Nat × va_E} {H : Heap} (h : va_at D vwCl q H) : va_P D vwCl [q] H := by
  intro k q' hk
  match k, hk with
  | 0, hk => cases hk; exact h
  | k + 1, hk => simp at hk
theorem HR.set {D : va_G} {dA : Nat → ClassId} {sz : Nat} {h h' : Hp} {H H1 : Heap} {a : Nat} (hH : HR D dA sz h H) (ho : ∀ q : Nat, q ≠ a → H1[q]? = H[q]?) (hs : sz ≤ a) (hc : ∀ b, b ≠ a → ce dA h' b = ce dA h b) (ha : ∀ e, ce dA h' a = some e → va_at D vwCl (a, e) H1) : HR D dA sz h' H1 := by
  intro b e he
  by_cases hb : b = a
  · subst hb; exact ⟨hs, ha e he⟩
  · rw [hc b hb] at he
    obtain ⟨h1, h2⟩ := hH b e he
    exact ⟨h1, h2.kept (ho b hb)⟩
theorem HR.lt {D : va_G} {dA : Nat → ClassId} {sz : Nat} {h : Hp} {H : Heap} (hH : HR D dA sz h H) {a : Nat} (ha : H.size ≤ a) : tg h a = 0 := by
  apply ce_none (dA := dA)
  cases he : ce dA h a with
  | none => rfl
  | some e => exact absurd (hH a e he).2.lt (Nat.not_lt.mpr ha)
theorem HR.new {D : va_G} {dA : Nat → ClassId} {sz : Nat} {h h' : Hp} {H H1 : Heap} (hH : HR D dA sz h H) (ho : ∀ q : Nat, q < H.size → H1[q]? = H[q]?) (hs : sz ≤ H.size) (hc : ∀ b, b ≠ H.size → ce dA h' b = ce dA h b) (ha : ∀ e, ce dA h' H.size = some e → va_at D vwCl (H.size, e) H1) : HR D dA sz h' H1 := by
  intro b e he
  by_cases hb : b = H.size
  · subst hb; exact ⟨hs, ha e he⟩
  · rw [hc b hb] at he
    obtain ⟨h1, h2⟩ := hH b e he
    exact ⟨h1, h2.kept (ho b h2.lt)⟩
def okv : Nat ⊕ Nat → AV → Bool
  | .inl _, .inl _ => true
  | .inr _, .inr (.inl _) => true
  | _, _ => false
def wr (h : Hp) (f : Nat ⊕ Nat) (a : Nat) (v : AV) : Hp :=
  match f, v with
  | .inl g, .inl x => pI h g a x
  | .inr g, .inr (.inl o) => pR h g a o
  | _, _ => h
theorem fv_wr {h : Hp} {f : Nat ⊕ Nat} {a : Nat} {v : AV} (hv : okv f v = true) (b : Nat) (f' : Nat ⊕ Nat) : fv (wr h f a v) b f' = if b = a ∧ f' = f then tv v else fv h b f' := by
  rcases f with g | g <;> rcases v with x | o | x <;> first | (cases hv; done) | skip
  · rcases f' with g' | g'
    · show Value.int (up2 (fI h) g a x g' b) = _
      unfold up2
      by_cases h1 : g' = g
      · subst h1
        by_cases h2 : b = a
        · subst h2; simp [tv]
        · simp [h2, fv]
      · simp [h1, fv]
    · show va_rf (fR h g' b) = _
      simp [fv]
  · rcases f' with g' | g'
    · show Value.int (fI h g' b) = _
      simp [fv]
    · show va_rf (up2 (fR h) g a o g' b) = _
      unfold up2
      by_cases h1 : g' = g
      · subst h1
        by_cases h2 : b = a
        · subst h2; simp [tv]
        · simp [h2, fv]
      · simp [h1, fv]
theorem tg_wr (h : Hp) (f : Nat ⊕ Nat) (a : Nat) (v : AV) : tg (wr h f a v) = tg h := by
  rcases f with g | g <;> rcases v with x | o | x <;> rfl
theorem ce_wr {dA : Nat → ClassId} {h : Hp} {f : Nat ⊕ Nat} {a : Nat} {v : AV} (hv : okv f v = true) {b : Nat} (hb : b ≠ a) : ce dA (wr h f a v) b = ce dA h b := by
  have hf : fv (wr h f a v) b = fv h b := by
    funext f'
    rw [fv_wr hv, if_neg (fun q => hb q.1)]
  have hr : (wr h f a v).2.2.2 = h.2.2.2 := by rcases f with g | g <;> rcases v with x | o | x <;> rfl
  unfold ce ln aI aL aR
  rw [tg_wr, hf, hr]
def flb : Bool := (List.range 7).all fun ci => (List.range 35).all fun i => (List.range 35).all fun j => decide (i = j) || (!(decide ((fl ci)[i]? = (fl ci)[j]?)) || decide ((fl ci)[i]? = none))
theorem flb_ok : flb = true := by decide +kernel
theorem fl_inj (ci : Nat) (h7 : ci < 7) (i : Nat) (hi : i < 35) (j : Nat) (hj : j < 35) (he : (fl ci)[i]? = (fl ci)[j]?) (hn : (fl ci)[i]? ≠ none) : i = j := by
  have h := List.all_eq_true.mp (List.all_eq_true.mp (List.all_eq_true.mp flb_ok ci (List.mem_range.mpr h7)) i (List.mem_range.mpr hi)) j (List.mem_range.mpr hj)
  simp only [Bool.or_eq_true, decide_eq_true_eq, Bool.not_eq_true', decide_eq_false_iff_not] at h
  rcases h with h | h | h
  · exact h
  · exact absurd he h
  · exact absurd h hn
theorem fl_len : ∀ ci, ci < 7 → (fl ci).length ≤ 35 := by decide +kernel
theorem fl_set {h : Hp} {f : Nat ⊕ Nat} {a : Nat} {v : AV} (hv : okv f v = true) {ci kk : Nat} (h7 : ci < 7) (hf : (fl ci)[kk]? = some f) : (fl ci).map (fv (wr h f a v) a) = ((fl ci).map (fv h a)).set kk (tv v) := by
  have hlen := fl_len ci h7
  have hkl : kk < (fl ci).length := (List.getElem?_eq_some_iff.mp hf).1
  apply List.ext_getElem?
  intro j
  rw [List.getElem?_map, List.getElem?_set]
  by_cases hj : kk = j
  · subst hj
    rw [if_pos rfl, hf]
    simp only [Option.map_some, List.length_map, hkl, if_true]
    rw [fv_wr hv, if_pos ⟨rfl, rfl⟩]
  · rw [if_neg hj, List.getElem?_map]
    cases hx : (fl ci)[j]? with
    | none => rfl
    | some f' =>
      have hjl : j < (fl ci).length := (List.getElem?_eq_some_iff.mp hx).1
      have hne : f' ≠ f := fun e => hj (fl_inj ci h7 kk (by omega) j (by omega) (by rw [hf, hx, e]) (by rw [hf]; simp))
      simp only [Option.map_some]
      rw [fv_wr hv, if_neg (fun q => hne q.2)]
section RW2
variable {G : Cx} {cc : ByteArray} {nL : Nat} {own nm : String} {rt : Option FieldType} {tb : List ExceptionTableEntry} {Q : Option AV ⊕ String → Hp → Prop} {pc : Nat} {lo : List (Option AV)} {st : List AV} {h : Hp} {k n : Nat}
theorem j_get (C : OK G cc nL own rt tb nm) {ci kk idx a : Nat} {Cn ref : String} {T : u_T} {N : Nat} {f : Nat ⊕ Nat} (hc : vwCl[ci]? = some (Cn, T, N)) (hin : ∀ w ∈ u_ws Cn T N, w ∈ BG) (hk : kk < N) (hlink : Cond.fieldLink own idx ref (T kk).2.1 (T kk).2.2.1 ∈ BG) (hsame : ref = (T kk).1 ∨ Cond.sameField ref (T kk).1 (T kk).2.1 (T kk).2.2.1 ∈ BG)
    (hf : (fl ci)[kk]? = some f) (h7 : ci < 7) (ht : tg h a = ci + 1) (hd : decode cc pc = .ok (.getfield idx, 3)) (K : J G Q (pc + 3) lo (fav h a f :: st) h k n) : J G Q pc lo (vr (some a) :: st) h k n := by
  obtain ⟨p, l, e, s, m, args, below, meth, c, D, dA, sz, lv, mc, ms⟩ := G
  obtain ⟨hx, hb, -, hown, hts, -, -, hWD, -⟩ := C
  intro H locs ls hH hS hL
  refine va_get hx hb hts hin hown hWD.1 (one_P (hH.obj ht h7).2) 0 rfl hc kk hk (hts _ hlink) ?_ (v := tv (fav h a f)) ?_ hd (K H locs ls hH hS hL)
  · intro x hx'
    rcases hsame with rfl | hs
    · exact hx'
    · exact u_same (hts _ hs) x hx'
  · rw [List.getElem?_map, hf, tv_fav]; rfl
theorem j_put (C : OK G cc nL own rt tb nm) {ci kk idx a : Nat} {Cn ref : String} {T : u_T} {N : Nat} {f : Nat ⊕ Nat} (hc : vwCl[ci]? = some (Cn, T, N)) (hin : ∀ w ∈ u_ws Cn T N, w ∈ BG) (hk : kk < N) (hlink : Cond.fieldLink own idx ref (T kk).2.1 (T kk).2.2.1 ∈ BG) (hsame : ref = (T kk).1 ∨ Cond.sameField ref (T kk).1 (T kk).2.1 (T kk).2.2.1 ∈ BG)
    {ty0 : Nat → FieldType} (hty : ∀ k, k < N → parseFieldDescriptor (T k).2.2.1 = some (ty0 k)) (hnm : ∀ a, a < N → ∀ b, b < N → a ≠ b → (T a).2.1 ≠ (T b).2.1) (hfin : (T kk).2.2.2 = false ∨ ((T kk).2.2.2 = true ∧ nm = "<init>" ∧ (T kk).1 = own)) {v : AV} (hn : narrow (ty0 kk) (tv v) = tv v) (hfit : fits (ty0 kk) (tv v) = true)
    (hf : (fl ci)[kk]? = some f) (hv : okv f v = true) (h7 : ci < 7) (ht : tg h a = ci + 1) (hd : decode cc pc = .ok (.putfield idx, 3)) (K : J G Q (pc + 3) lo st (wr h f a v) k n) : J G Q pc lo (v :: vr (some a) :: st) h k n := by
  obtain ⟨p, l, e, s, m, args, below, meth, c, D, dA, sz, lv, mc, ms⟩ := G
  obtain ⟨hx, hb, -, hown, hts, -, -, hWD, -, -, -, hnmm⟩ := C
  intro H locs ls hH hS hL
  have hap := va_apart (own := own) hts hin ty0 hty hnm hWD.1 hc
  obtain ⟨hsza, r, h1, cell, q1, q2, q3, q4⟩ := hH.obj ht h7
  have hr : r = (Cn, T, N) := Option.some.inj (h1.symm.trans hc)
  subst hr
  obtain ⟨hSl, hfc, kC, hkC, hkind⟩ := hWD.1.1 ci _ hc
  obtain ⟨cf, kf, fi, fd, hi, hsl⟩ := hSl kk hk
  have hi' : s.fieldFound? ref (T kk).2.1 (T kk).2.2.1 = some (cf, kf, fi, fd) := by
    rcases hsame with rfl | hs
    · exact hi
    · exact u_same (hts _ hs) _ hi
  have hst := (u_facts hfc hkC (u_lays hts hin hk) hi).1
  have hlen : kk < ((fl ci).map (fv h a)).length := by rw [List.length_map]; exact (List.getElem?_eq_some_iff.mp hf).1
  have fin : ∀ H' : Heap, H'[a]? = some (cell.setSlot (D.2 ci kk) (tv v)) → H'.size = H.size → (∀ q, q ≠ a → H'[q]? = H[q]?) → W p l e (rmo lv mc ms) s m args below meth c H' (locs ++ [⟨a, D.2 ci kk⟩]) k n (vx_MQ below (cQ D dA sz Q) (cX D dA sz Q) args s mc ms (fun q => sz ≤ q)) (F0 m (pc + 3) ls (st.map tv)) := by
    intro H' e1 e2 e3
    refine K H' _ ls (hH.set e3 hsza (fun b hb => ce_wr hv hb) (fun e' he' => ?_)) (hS.put e2 e3 hsza) hL
    rw [ce_obj (by rw [tg_wr]; exact ht) h7] at he'
    cases he'
    rw [fl_set hv h7 hf]
    exact ⟨_, hc, t_OB.to (V := updV (vp_V ((fl ci).map (fv h a))) kk (tv v)) ⟨_, e1, q2, q3, t_set q4 hap hk (tv v)⟩ (fun j _ => vp_updV_set hlen (tv v) j)⟩
  have hlay := hts _ (hin _ (u_in_lay hk))
  unfold u_lay at hlay
  rcases hfin with hfin | ⟨hfin, hini, hdecl⟩
  · rw [if_neg (by rw [hfin]; decide)] at hlay
    have h6 := u_store hfc hkC hkind hlay hi (hty kk hk) hn hfit
    refine W.putK hx hb (f := fd) ⟨hown, hts _ hlink, ⟨_, _, _, hi'⟩, hst⟩ (by rw [q2]; exact h6) q1 q3 (by rw [hsl]; exact k2_hasslot (q4 kk hk)) rfl rfl hd fun H' e1 e2 e3 => ?_
    rw [hsl] at e1 ⊢
    exact fin H' e1 e2 e3
  · rw [if_pos hfin] at hlay
    have hcf : m.cls = cf := by
      obtain ⟨_, _, c', _, _, _, -, -, hf', -, -, -, hown2, -⟩ := Cond.laysFinal_spec hlay
      have e1 : c' = cf := by have := hi.symm.trans hf'; simp at this; exact this.1.symm
      rw [hdecl] at hown2
      rw [← e1]; exact Option.some.inj (hown.symm.trans hown2)
    have h6 := u_fits hfc hkC hkind (Or.inr hlay) hi (hty kk hk) hn hfit
    refine W.putFinK hx hb hown (hts _ hlink) hi' hst hcf (by rw [hnmm]; exact hini) (by rw [q2]; exact h6) q1 q3 (by rw [hsl]; exact k2_hasslot (q4 kk hk)) rfl rfl hd fun H' e1 e2 e3 => ?_
    rw [hsl] at e1 ⊢
    exact fin H' e1 e2 e3
theorem j_iald (C : OK G cc nL own rt tb nm) {a : Nat} {i : Int32} (ht : tg h a = 8) (hi : vp_in i (ln h a)) (hd : decode cc pc = .ok (.iaload, 1)) (K : J G Q (pc + 1) lo (vi (aI h a i.toNatClampNeg) :: st) h k n) : J G Q pc lo (vi i :: vr (some a) :: st) h k n := by
  obtain ⟨p, l, e, s, m, args, below, meth, c, D, dA, sz, lv, mc, ms⟩ := G
  obtain ⟨hx, hb, -, hown, hts, -, -, hWD, -⟩ := C
  intro H locs ls hH hS hL
  exact va_iald hx hb hWD.1 (one_P (hH a _ (ce_i ht)).2) 0 0 rfl rfl hi hd (K H locs ls hH hS hL)
theorem j_lald (C : OK G cc nL own rt tb nm) {a : Nat} {i : Int32} (ht : tg h a = 9) (hi : vp_in i (ln h a)) (hd : decode cc pc = .ok (.laload, 1)) (K : J G Q (pc + 1) lo (vl (aL h a i.toNatClampNeg) :: st) h k n) : J G Q pc lo (vi i :: vr (some a) :: st) h k n := by
  obtain ⟨p, l, e, s, m, args, below, meth, c, D, dA, sz, lv, mc, ms⟩ := G
  obtain ⟨hx, hb, -, hown, hts, -, -, hWD, -⟩ := C
  intro H locs ls hH hS hL
  exact va_lald hx hb hWD.1 (one_P (hH a _ (ce_l ht)).2) 0 1 rfl rfl hi hd (K H locs ls hH hS hL)
theorem j_zald (C : OK G cc nL own rt tb nm) {a : Nat} {i : Int32} (ht : tg h a = 10) (hi : vp_in i (ln h a)) (hd : decode cc pc = .ok (.baload, 1)) (K : J G Q (pc + 1) lo (vi (aI h a i.toNatClampNeg) :: st) h k n) : J G Q pc lo (vi i :: vr (some a) :: st) h k n := by
  obtain ⟨p, l, e, s, m, args, below, meth, c, D, dA, sz, lv, mc, ms⟩ := G
  obtain ⟨hx, hb, -, hown, hts, -, -, hWD, -⟩ := C
  intro H locs ls hH hS hL
  exact va_zald hx hb hWD.1 (one_P (hH a _ (ce_z ht)).2) 0 2 rfl rfl hi hd (K H locs ls hH hS hL)
theorem j_aald (C : OK G cc nL own rt tb nm) {a : Nat} {i : Int32} (ht : tg h a = 11) (hi : vp_in i (ln h a)) (hd : decode cc pc = .ok (.aaload, 1)) (K : J G Q (pc + 1) lo (vr (aR h a i.toNatClampNeg) :: st) h k n) : J G Q pc lo (vi i :: vr (some a) :: st) h k n := by
  obtain ⟨p, l, e, s, m, args, below, meth, c, D, dA, sz, lv, mc, ms⟩ := G
  obtain ⟨hx, hb, -, hown, hts, -, -, hWD, -⟩ := C
  intro H locs ls hH hS hL
  exact va_aldq hx hb hWD.1 (one_P (hH a _ (ce_q ht)).2) 0 3 rfl rfl hi hd (K H locs ls hH hS hL)
theorem j_alen (C : OK G cc nL own rt tb nm) {a : Nat} (ht : tg h a = 8 ∨ tg h a = 9 ∨ tg h a = 11) (hd : decode cc pc = .ok (.arraylength, 1)) (K : J G Q (pc + 1) lo (vi (nI (ln h a)) :: st) h k n) : J G Q pc lo (vr (some a) :: st) h k n := by
  obtain ⟨p, l, e, s, m, args, below, meth, c, D, dA, sz, lv, mc, ms⟩ := G
  obtain ⟨hx, hb, -, hown, hts, -, -, hWD, -⟩ := C
  intro H locs ls hH hS hL
  rcases ht with ht | ht | ht
  · exact W.alen (n := nI (ln h a)) hx hb ((hH a _ (ce_i ht)).2) ((hWD.1.2 0 _ rfl).1 (ln h a) (fun j => .int (aI h a j))) (by rw [vp_cell_i, arrV_size] <;> rfl) rfl rfl hd (K H locs ls hH hS hL)
  · exact W.alen (n := nI (ln h a)) hx hb ((hH a _ (ce_l ht)).2) ((hWD.1.2 1 _ rfl).1 (ln h a) (fun j => .long (aL h a j))) (by rw [vp_cell_l, arrV_size] <;> rfl) rfl rfl hd (K H locs ls hH hS hL)
  · exact W.alen (n := nI (ln h a)) hx hb ((hH a _ (ce_q ht)).2) ((hWD.1.2 3 _ rfl).1 (ln h a) (fun j => va_rf (aR h a j))) (by rw [vp_cell_q, arrV_size] <;> rfl) rfl rfl hd (K H locs ls hH hS hL)
theorem up2_row {α : Type} (f : Nat → Nat → α) (a i : Nat) (x : α) : up2 f a i x a = fun j => if j = i then x else f a j := by
  funext j; simp [up2]
theorem up2_off {α : Type} (f : Nat → Nat → α) {a b : Nat} (i : Nat) (x : α) (hb : b ≠ a) : up2 f a i x b = f b := by
  funext j; simp [up2, hb]
theorem j_iast (C : OK G cc nL own rt tb nm) {a : Nat} {i x : Int32} (ht : tg h a = 8) (hi : vp_in i (ln h a)) (hd : decode cc pc = .ok (.iastore, 1)) (K : J G Q (pc + 1) lo st (qI h a i.toNatClampNeg x) k n) : J G Q pc lo (vi x :: vi i :: vr (some a) :: st) h k n := by
  obtain ⟨p, l, e, s, m, args, below, meth, c, D, dA, sz, lv, mc, ms⟩ := G
  obtain ⟨hx, hb, -, hown, hts, -, -, hWD, -⟩ := C
  intro H locs ls hH hS hL
  obtain ⟨hsz, hat⟩ := hH a _ (ce_i ht)
  refine W.iast hx hb hat ((hWD.1.2 0 _ rfl).1 (ln h a) (fun j => .int (aI h a j))) (fun q => by cases q) (by show ¬ (i < 0 ∨ (arrV _ _ _).slots.size ≤ _); rw [arrV_size]; exact hi) rfl rfl hd fun H1 e1 z oq => ?_
  refine K H1 _ ls (hH.set oq hsz (fun b hb => ce_same rfl (fun _ => rfl) (fun _ => rfl) rfl (up2_off _ _ _ hb) rfl rfl) (fun e' he' => ?_)) (hS.put z oq hsz) hL
  rw [ce_i (h := qI h a i.toNatClampNeg x) ht] at he'
  cases he'
  show H1[a]? = some (vp_cell _ _)
  rw [e1, vp_cell_i, vp_cell_i, arrV_store]
  congr 2
  funext q
  show _ = Value.int (up2 (aI h) a i.toNatClampNeg x a q)
  by_cases hq : q = i.toNatClampNeg
  · subst hq; simp [updV, up2]
  · simp [updV, up2, hq]
theorem j_last (C : OK G cc nL own rt tb nm) {a : Nat} {i : Int32} {x : Int64} (ht : tg h a = 9) (hi : vp_in i (ln h a)) (hd : decode cc pc = .ok (.lastore, 1)) (K : J G Q (pc + 1) lo st (qL h a i.toNatClampNeg x) k n) : J G Q pc lo (vl x :: vi i :: vr (some a) :: st) h k n := by
  obtain ⟨p, l, e, s, m, args, below, meth, c, D, dA, sz, lv, mc, ms⟩ := G
  obtain ⟨hx, hb, -, hown, hts, -, -, hWD, -⟩ := C
  intro H locs ls hH hS hL
  obtain ⟨hsz, hat⟩ := hH a _ (ce_l ht)
  refine W.last hx hb hat ((hWD.1.2 1 _ rfl).1 (ln h a) (fun j => .long (aL h a j))) (fun q => by cases q) (by show ¬ (i < 0 ∨ (arrV _ _ _).slots.size ≤ _); rw [arrV_size]; exact hi) rfl rfl hd fun H1 e1 z oq => ?_
  refine K H1 _ ls (hH.set oq hsz (fun b hb => ce_same rfl (fun _ => rfl) (fun _ => rfl) rfl rfl (up2_off _ _ _ hb) rfl) (fun e' he' => ?_)) (hS.put z oq hsz) hL
  rw [ce_l (h := qL h a i.toNatClampNeg x) ht] at he'
  cases he'
  show H1[a]? = some (vp_cell _ _)
  rw [e1, vp_cell_l, vp_cell_l, arrV_store]
  congr 2
  funext q
  show _ = Value.long (up2 (aL h) a i.toNatClampNeg x a q)
  by_cases hq : q = i.toNatClampNeg
  · subst hq; simp [updV, up2]
  · simp [updV, up2, hq]
theorem j_zast (C : OK G cc nL own rt tb nm) {a : Nat} {i x : Int32} (ht : tg h a = 10) (hi : vp_in i (ln h a)) (h01 : x = 0 ∨ x = 1) (hd : decode cc pc = .ok (.bastore, 1)) (K : J G Q (pc + 1) lo st (qI h a i.toNatClampNeg x) k n) : J G Q pc lo (vi x :: vi i :: vr (some a) :: st) h k n := by
  obtain ⟨p, l, e, s, m, args, below, meth, c, D, dA, sz, lv, mc, ms⟩ := G
  obtain ⟨hx, hb, -, hown, hts, -, -, hWD, -⟩ := C
  intro H locs ls hH hS hL
  have hnar : narrow .boolean (.int x) = .int x := by rcases h01 with rfl | rfl <;> rfl
  obtain ⟨hsz, hat⟩ := hH a _ (ce_z ht)
  refine W.zast hx hb hat ((hWD.1.2 2 _ rfl).1 (ln h a) (fun j => .int (aI h a j))) (fun q => by cases q) (by show ¬ (i < 0 ∨ (arrV _ _ _).slots.size ≤ _); rw [arrV_size]; exact hi) rfl rfl hd fun H1 e1 z oq => ?_
  refine K H1 _ ls (hH.set oq hsz (fun b hb => ce_same rfl (fun _ => rfl) (fun _ => rfl) rfl (up2_off _ _ _ hb) rfl rfl) (fun e' he' => ?_)) (hS.put z oq hsz) hL
  rw [ce_z (h := qI h a i.toNatClampNeg x) ht] at he'
  cases he'
  show H1[a]? = some (vp_cell _ _)
  rw [e1, hnar, vp_cell_i, vp_cell_i, arrV_store]
  congr 2
  funext q
  show _ = Value.int (up2 (aI h) a i.toNatClampNeg x a q)
  by_cases hq : q = i.toNatClampNeg
  · subst hq; simp [updV, up2]
  · simp [updV, up2, hq]
/-- returns -/
theorem j_iret (C : OK G cc nL own (some .int) tb nm) {x : Int32} (hd : decode cc pc = .ok (.ireturn, 1)) (hl : lim G k n) (K : Q (.inl (some (vi x))) h) : J G Q pc lo [vi x] h k n := by
  obtain ⟨p, l, e, s, m, args, below, meth, c, D, dA, sz, lv, mc, ms⟩ := G
  obtain ⟨hx, hb, -, hown, hts, hlocks, hr, hWD, -⟩ := C
  intro H locs ls hH hS hL
  exact W.widen hl.1 hl.2 (vx_ret (W.iret (v := x) hx hb hr (fun t ht hW => ⟨some (vi x), h, rfl, K, by rw [ht]; exact hH, hS.F ht⟩) hS.2.2 hd))
theorem j_zret (C : OK G cc nL own (some .boolean) tb nm) {x : Int32} (h01 : x = 0 ∨ x = 1) (hd : decode cc pc = .ok (.ireturn, 1)) (hl : lim G k n) (K : Q (.inl (some (vi x))) h) : J G Q pc lo [vi x] h k n := by
  obtain ⟨p, l, e, s, m, args, below, meth, c, D, dA, sz, lv, mc, ms⟩ := G
  obtain ⟨hx, hb, -, hown, hts, hlocks, hr, hWD, -⟩ := C
  intro H locs ls hH hS hL
  have hnar : narrow .boolean (.int x) = .int x := by rcases h01 with rfl | rfl <;> rfl
  exact W.widen hl.1 hl.2 (vx_ret (W.zret (v := x) hx hb hr hnar (fun t ht hW => ⟨some (vi x), h, rfl, K, by rw [ht]; exact hH, hS.F ht⟩) hS.2.2 hd))
theorem j_lret (C : OK G cc nL own (some .long) tb nm) {x : Int64} (hd : decode cc pc = .ok (.lreturn, 1)) (hl : lim G k n) (K : Q (.inl (some (vl x))) h) : J G Q pc lo [vl x] h k n := by
  obtain ⟨p, l, e, s, m, args, below, meth, c, D, dA, sz, lv, mc, ms⟩ := G
  obtain ⟨hx, hb, -, hown, hts, hlocks, hr, hWD, -⟩ := C
  intro H locs ls hH hS hL
  exact W.widen hl.1 hl.2 (vx_ret (W.lret (v := x) hx hb hr (fun t ht hW => ⟨some (vl x), h, rfl, K, by rw [ht]; exact hH, hS.F ht⟩) hS.2.2 hd))
theorem j_vret (C : OK G cc nL own none tb nm) (hd : decode cc pc = .ok (.return_, 1)) (hl : lim G k n) (K : Q (.inl none) h) : J G Q pc lo [] h k n := by
  obtain ⟨p, l, e, s, m, args, below, meth, c, D, dA, sz, lv, mc, ms⟩ := G
  obtain ⟨hx, hb, -, hown, hts, hlocks, hr, hWD, -⟩ := C
  intro H locs ls hH hS hL
  exact W.widen hl.1 hl.2 (vx_ret (W.vret hx hb hr (fun t ht hW => ⟨none, h, rfl, K, by rw [ht]; exact hH, hS.F ht⟩) hS.2.2 hd))
theorem j_aret {cl : String} (C : OK G cc nL own (some (.object cl)) tb nm) {x : Option Nat} (hd : decode cc pc = .ok (.areturn, 1)) (hl : lim G k n) (K : Q (.inl (some (vr x))) h) : J G Q pc lo [vr x] h k n := by
  obtain ⟨p, l, e, s, m, args, below, meth, c, D, dA, sz, lv, mc, ms⟩ := G
  obtain ⟨hx, hb, -, hown, hts, hlocks, hr, hWD, -⟩ := C
  intro H locs ls hH hS hL
  exact W.widen hl.1 hl.2 (vx_ret (W.aret (v := va_rf x) hx hb hr (Or.inl ⟨cl, rfl⟩) (va_rf_or x) (fun t ht hW => ⟨some (vr x), h, rfl, K, by rw [ht]; exact hH, hS.F ht⟩) hS.2.2 hd))
end RW2
