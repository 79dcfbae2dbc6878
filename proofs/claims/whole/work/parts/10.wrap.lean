/-! THE SAME ROWS, as the printed walks use them: a reference is named by an equation, an index by its number. -/
def qi (f : Int32 → Hp → Prop) (x : String → Hp → Prop) : Option AV ⊕ String → Hp → Prop
  | .inl (some (.inl v)), h => f v h
  | .inr E, h => x E h
  | _, _ => False
def ql (f : Int64 → Hp → Prop) (x : String → Hp → Prop) : Option AV ⊕ String → Hp → Prop
  | .inl (some (.inr (.inr v))), h => f v h
  | .inr E, h => x E h
  | _, _ => False
def qr (f : Option Nat → Hp → Prop) (x : String → Hp → Prop) : Option AV ⊕ String → Hp → Prop
  | .inl (some (.inr (.inl v))), h => f v h
  | .inr E, h => x E h
  | _, _ => False
def qv (f : Hp → Prop) (x : String → Hp → Prop) : Option AV ⊕ String → Hp → Prop
  | .inl none, h => f h
  | .inr E, h => x E h
  | _, _ => False
def qn : String → Hp → Prop := fun _ _ => False
theorem qi_inv {f : Int32 → Hp → Prop} {x : String → Hp → Prop} {v : Option AV} {h : Hp} (hq : qi f x (.inl v) h) : ∃ y : Int32, v = some (vi y) ∧ f y h := by
  rcases v with _ | y | o | y
  · exact hq.elim
  · exact ⟨y, rfl, hq⟩
  · exact hq.elim
  · exact hq.elim
theorem ql_inv {f : Int64 → Hp → Prop} {x : String → Hp → Prop} {v : Option AV} {h : Hp} (hq : ql f x (.inl v) h) : ∃ y : Int64, v = some (vl y) ∧ f y h := by
  rcases v with _ | y | o | y
  · exact hq.elim
  · exact hq.elim
  · exact hq.elim
  · exact ⟨y, rfl, hq⟩
theorem qr_inv {f : Option Nat → Hp → Prop} {x : String → Hp → Prop} {v : Option AV} {h : Hp} (hq : qr f x (.inl v) h) : ∃ y : Option Nat, v = some (vr y) ∧ f y h := by
  rcases v with _ | y | o | y
  · exact hq.elim
  · exact hq.elim
  · exact ⟨o, rfl, hq⟩
  · exact hq.elim
theorem qv_inv {f : Hp → Prop} {x : String → Hp → Prop} {v : Option AV} {h : Hp} (hq : qv f x (.inl v) h) : v = none ∧ f h := by
  rcases v with _ | y
  · exact ⟨rfl, hq⟩
  · exact hq.elim
def sbl : List (Option AV) → List (Option AV) → Prop
  | [], [] => True
  | none :: r, _ :: s => sbl r s
  | some v :: r, x :: s => x = some v ∧ sbl r s
  | _, _ => False
theorem sbl_len : ∀ (a b : List (Option AV)), sbl a b → a.length = b.length
  | [], [], _ => rfl
  | [], _ :: _, h => h.elim
  | none :: _, [], h => h.elim
  | some _ :: _, [], h => h.elim
  | none :: r, _ :: s, h => by simp [sbl_len r s h]
  | some v :: r, x :: s, h => by simp [sbl_len r s h.2]
theorem sbl_at : ∀ (a b : List (Option AV)), sbl a b → ∀ (i : Nat) (v : AV), a[i]? = some (some v) → b[i]? = some (some v)
  | [], [], _, i, v, hi => by simp at hi
  | [], _ :: _, h, _, _, _ => h.elim
  | none :: _, [], h, _, _, _ => h.elim
  | some _ :: _, [], h, _, _, _ => h.elim
  | none :: r, _ :: s, h, 0, v, hi => by simp at hi
  | none :: r, _ :: s, h, i + 1, v, hi => by simpa using sbl_at r s h i v (by simpa using hi)
  | some w :: r, x :: s, h, 0, v, hi => by simp at hi; simp [h.1, hi]
  | some w :: r, x :: s, h, i + 1, v, hi => by simpa using sbl_at r s h.2 i v (by simpa using hi)
section RW5
variable {G : Cx} {cc : ByteArray} {nL : Nat} {own nm : String} {rt : Option FieldType} {tb : List ExceptionTableEntry} {Q : Option AV ⊕ String → Hp → Prop} {pc : Nat} {lo : List (Option AV)} {st : List AV} {h : Hp} {k n : Nat}
theorem j_sub {lo' : List (Option AV)} (hs : sbl lo' lo) (K : J G Q pc lo' st h k n) : J G Q pc lo st h k n := by
  obtain ⟨p, l, e, s, m, args, below, meth, c, D, dA, sz, lv, mc, ms⟩ := G
  intro H locs ls hH hS hL
  exact K H locs ls hH hS ⟨by rw [sbl_len _ _ hs]; exact hL.1, hL.2.1, fun i v hi => hL.2.2 i v (sbl_at _ _ hs i v hi)⟩
theorem k_iald (C : OK G cc nL own rt tb nm) {o : Option Nat} {a j : Nat} {i : Int32} (e : o = some a) (ht : tg h a = 8) (hi : vp_in i (ln h a)) (hj : i.toNatClampNeg = j) (hd : decode cc pc = .ok (.iaload, 1)) (K : J G Q (pc + 1) lo (vi (aI h a j) :: st) h k n) : J G Q pc lo (vi i :: vr o :: st) h k n := by subst e; subst hj; exact j_iald C ht hi hd K
theorem k_lald (C : OK G cc nL own rt tb nm) {o : Option Nat} {a j : Nat} {i : Int32} (e : o = some a) (ht : tg h a = 9) (hi : vp_in i (ln h a)) (hj : i.toNatClampNeg = j) (hd : decode cc pc = .ok (.laload, 1)) (K : J G Q (pc + 1) lo (vl (aL h a j) :: st) h k n) : J G Q pc lo (vi i :: vr o :: st) h k n := by subst e; subst hj; exact j_lald C ht hi hd K
theorem k_zald (C : OK G cc nL own rt tb nm) {o : Option Nat} {a j : Nat} {i : Int32} (e : o = some a) (ht : tg h a = 10) (hi : vp_in i (ln h a)) (hj : i.toNatClampNeg = j) (hd : decode cc pc = .ok (.baload, 1)) (K : J G Q (pc + 1) lo (vi (aI h a j) :: st) h k n) : J G Q pc lo (vi i :: vr o :: st) h k n := by subst e; subst hj; exact j_zald C ht hi hd K
theorem k_aald (C : OK G cc nL own rt tb nm) {o : Option Nat} {a j : Nat} {i : Int32} (e : o = some a) (ht : tg h a = 11) (hi : vp_in i (ln h a)) (hj : i.toNatClampNeg = j) (hd : decode cc pc = .ok (.aaload, 1)) (K : J G Q (pc + 1) lo (vr (aR h a j) :: st) h k n) : J G Q pc lo (vi i :: vr o :: st) h k n := by subst e; subst hj; exact j_aald C ht hi hd K
theorem k_alen (C : OK G cc nL own rt tb nm) {o : Option Nat} {a : Nat} (e : o = some a) (ht : tg h a = 8 ∨ tg h a = 9 ∨ tg h a = 11) (hd : decode cc pc = .ok (.arraylength, 1)) (K : J G Q (pc + 1) lo (vi (nI (ln h a)) :: st) h k n) : J G Q pc lo (vr o :: st) h k n := by subst e; exact j_alen C ht hd K
theorem k_iast (C : OK G cc nL own rt tb nm) {o : Option Nat} {a j : Nat} {i x : Int32} (e : o = some a) (ht : tg h a = 8) (hi : vp_in i (ln h a)) (hj : i.toNatClampNeg = j) (hd : decode cc pc = .ok (.iastore, 1)) (K : J G Q (pc + 1) lo st (qI h a j x) k n) : J G Q pc lo (vi x :: vi i :: vr o :: st) h k n := by subst e; subst hj; exact j_iast C ht hi hd K
theorem k_last (C : OK G cc nL own rt tb nm) {o : Option Nat} {a j : Nat} {i : Int32} {x : Int64} (e : o = some a) (ht : tg h a = 9) (hi : vp_in i (ln h a)) (hj : i.toNatClampNeg = j) (hd : decode cc pc = .ok (.lastore, 1)) (K : J G Q (pc + 1) lo st (qL h a j x) k n) : J G Q pc lo (vl x :: vi i :: vr o :: st) h k n := by subst e; subst hj; exact j_last C ht hi hd K
theorem k_zast (C : OK G cc nL own rt tb nm) {o : Option Nat} {a j : Nat} {i x : Int32} (e : o = some a) (ht : tg h a = 10) (hi : vp_in i (ln h a)) (hj : i.toNatClampNeg = j) (h01 : x = 0 ∨ x = 1) (hd : decode cc pc = .ok (.bastore, 1)) (K : J G Q (pc + 1) lo st (qI h a j x) k n) : J G Q pc lo (vi x :: vi i :: vr o :: st) h k n := by subst e; subst hj; exact j_zast C ht hi h01 hd K
theorem k_aast (C : OK G cc nL own rt tb nm) {o x : Option Nat} {a j : Nat} {i : Int32} (e : o = some a) (ht : tg h a = 11) (hi : vp_in i (ln h a)) (hj : i.toNatClampNeg = j) (hv : ∀ b, x = some b → thg h b) (hd : decode cc pc = .ok (.aastore, 1)) (K : J G Q (pc + 1) lo st (qR h a j x) k n) : J G Q pc lo (vr x :: vi i :: vr o :: st) h k n := by subst e; subst hj; exact j_aast C wn_962 wn_963 wn_964 ht hi hv hd K
theorem k_objInit (C : OK G cc nL own rt tb nm) {o : Option Nat} {idx a : Nat} (e : o = some a) (w1 : Cond.methodLink own idx objectInit ∈ BG) (hn : lo.length = nL) (hlv : glv G ≤ 11) (hw : (st.map wt).sum ≤ 8) (hd : decode cc pc = .ok (.invokespecial idx, 3)) (K : J G Q (pc + 3) lo st h k n) : J G Q pc lo (vr o :: st) h k n := by subst e; exact j_objInit C w1 wg_21 wg_22 hn hlv hw hd K
theorem k_inst (C : OK G cc nL own rt tb nm) {ci idx : Nat} {Cn : String} (hci : (ci = 1 ∧ Cn = "RefHeap$Holder") ∨ (ci = 2 ∧ Cn = "RefHeap$Line") ∨ (ci = 3 ∧ Cn = "RefHeap$Loose")) {x : Option Nat} (wc : Cond.castable Cn Cn ∈ lw_tbl) (hw : Cond.classLink own idx Cn ∈ BG) (hv : ∀ b, x = some b → thg h b) (hd : decode cc pc = .ok (.instanceof idx, 3))
    (K1 : ∀ b, x = some b → tg h b = ci + 1 → J G Q (pc + 3) lo (vi 1 :: st) h k n) (K2 : (∀ b, x = some b → tg h b ≠ ci + 1) → J G Q (pc + 3) lo (vi 0 :: st) h k n) : J G Q pc lo (vr x :: st) h k n :=
  j_inst C hci wc hw hv hd ⟨fun ⟨b, h1, h2⟩ => K1 b h1 h2, K2⟩
theorem k_cast (C : OK G cc nL own rt tb nm) {ci idx a : Nat} {Cn : String} {o : Option Nat} (e : o = some a) (hci : (ci = 1 ∧ Cn = "RefHeap$Holder") ∨ (ci = 2 ∧ Cn = "RefHeap$Line") ∨ (ci = 3 ∧ Cn = "RefHeap$Loose")) (wc : Cond.castable Cn Cn ∈ lw_tbl) (hw : Cond.classLink own idx Cn ∈ BG) (ht : tg h a = ci + 1) (hd : decode cc pc = .ok (.checkcast idx, 3)) (K : J G Q (pc + 3) lo (vr o :: st) h k n) : J G Q pc lo (vr o :: st) h k n := by subst e; exact j_cast C hci wc hw ht hd K
theorem k_callV (C : OK G cc nL own rt tb nm) {o : Option Nat} {S : List AV} {idx a : Nat} (ci : Nat) {y : MethodName} {cy : ByteArray} {ny : Nat} {ry : Option FieldType} (As : List AV) {mc' ms' : Nat} {Q' : Option AV ⊕ String → Hp → Prop} {q : vw_C} (w : MV own idx y cy ny ry As.length) (e : o = some a) (hs : S = As.reverse ++ vr o :: st)
    (hM : ∀ (l : Launch) (D : va_G) (dA : Nat → ClassId) (sz : Nat), l.stackTraces = false → Ctr l D dA sz (Cond.code y cy ny ry) y (glv G + 1) (vr (some a) :: As) h mc' ms' Q')
    (hq : vwCl[ci]? = some q) (hqy : q.1 = y.cls) (h7 : ci < 7) (ht : tg h a = ci + 1) (hn : lo.length = nL) (hlv : glv G + 1 ≤ 12) (hw : (st.map wt).sum ≤ 8) (hl : lim G (k + mc') (n + ms')) (hd : decode cc pc = .ok (.invokevirtual idx, 3))
    (KX : ∀ E h', Q' (.inr E) h' → JX G Q pc E lo st h' (k + mc') (n + ms')) (KR : ∀ v h', Q' (.inl v) h' → J G Q (pc + 3) lo (v.toList ++ st) h' (k + mc') (n + ms')) : J G Q pc lo S h k n := by subst e; subst hs; exact j_callV C w hM hq hqy h7 ht hn hlv hw hl hd KR KX
theorem k_callS (C : OK G cc nL own rt tb nm) {S : List AV} {idx : Nat} {y : MethodName} {cy : ByteArray} {ny : Nat} {ry : Option FieldType} (As : List AV) {mc' ms' : Nat} {Q' : Option AV ⊕ String → Hp → Prop} (w : MS own idx y cy ny ry As.length) (hs : S = As.reverse ++ st)
    (hM : ∀ (l : Launch) (D : va_G) (dA : Nat → ClassId) (sz : Nat), l.stackTraces = false → Ctr l D dA sz (Cond.code y cy ny ry) y (glv G + 1) As h mc' ms' Q')
    (hn : lo.length = nL) (hlv : glv G + 1 ≤ 12) (hw : (st.map wt).sum ≤ 8) (hl : lim G (k + mc') (n + ms')) (hd : decode cc pc = .ok (.invokestatic idx, 3))
    (KX : ∀ E h', Q' (.inr E) h' → JX G Q pc E lo st h' (k + mc') (n + ms')) (KR : ∀ v h', Q' (.inl v) h' → J G Q (pc + 3) lo (v.toList ++ st) h' (k + mc') (n + ms')) : J G Q pc lo S h k n := by subst hs; exact j_callS C w hM hn hlv hw hl hd KR KX
theorem k_callSN (C : OK G cc nL own rt tb nm) {S : List AV} {idx : Nat} {host : String} {y : MethodName} {cy : ByteArray} {ny : Nat} {ry : Option FieldType} (As : List AV) {mc' ms' : Nat} {Q' : Option AV ⊕ String → Hp → Prop} (w : MSN own host idx y cy ny ry As.length) (hs : S = As.reverse ++ st)
    (hM : ∀ (l : Launch) (D : va_G) (dA : Nat → ClassId) (sz : Nat), l.stackTraces = false → Ctr l D dA sz (Cond.code y cy ny ry) y (glv G + 1) As h mc' ms' Q') (hno : ∀ E h', ¬ Q' (.inr E) h')
    (hn : lo.length = nL) (hlv : glv G + 1 ≤ 12) (hw : (st.map wt).sum ≤ 8) (hl : lim G (k + mc') (n + ms')) (hd : decode cc pc = .ok (.invokestatic idx, 3))
    (KR : ∀ v h', Q' (.inl v) h' → J G Q (pc + 3) lo (v.toList ++ st) h' (k + mc') (n + ms')) : J G Q pc lo S h k n := by subst hs; exact j_callSN C w hM hno hn hlv hw hl hd KR
theorem k_callSH (C : OK G cc nL own rt tb nm) {S : List AV} {idx : Nat} {y : MethodName} {cy : ByteArray} {ny : Nat} {ry : Option FieldType} {hh : List (Nat × Nat × Nat × Nat)} (As : List AV) {mc' ms' : Nat} {Q' : Option AV ⊕ String → Hp → Prop} (w : MSH own idx y cy ny ry hh As.length) (hs : S = As.reverse ++ st)
    (hM : ∀ (l : Launch) (D : va_G) (dA : Nat → ClassId) (sz : Nat), l.stackTraces = false → Ctr l D dA sz (Cond.codeWith y cy ny ry hh) y (glv G + 1) As h mc' ms' Q') (hno : ∀ E h', ¬ Q' (.inr E) h')
    (hn : lo.length = nL) (hlv : glv G + 1 ≤ 12) (hw : (st.map wt).sum ≤ 8) (hl : lim G (k + mc') (n + ms')) (hd : decode cc pc = .ok (.invokestatic idx, 3))
    (KR : ∀ v h', Q' (.inl v) h' → J G Q (pc + 3) lo (v.toList ++ st) h' (k + mc') (n + ms')) : J G Q pc lo S h k n := by subst hs; exact j_callSH C w hM hno hn hlv hw hl hd KR
theorem k_callI (C : OK G cc nL own rt tb nm) {o : Option Nat} {S : List AV} {idx a : Nat} {y : MethodName} {cy : ByteArray} {ny : Nat} (As : List AV) {mc' ms' : Nat} {Q' : Option AV ⊕ String → Hp → Prop} (w : MI own idx y cy ny As.length) (e : o = some a) (hs : S = As.reverse ++ vr o :: st)
    (hM : ∀ (l : Launch) (D : va_G) (dA : Nat → ClassId) (sz : Nat), l.stackTraces = false → Ctr l D dA sz (Cond.code y cy ny none) y (glv G + 1) (vr (some a) :: As) h mc' ms' Q') (hno : ∀ E h', ¬ Q' (.inr E) h')
    (hn : lo.length = nL) (hlv : glv G + 1 ≤ 12) (hw : (st.map wt).sum ≤ 8) (hl : lim G (k + mc') (n + ms')) (hd : decode cc pc = .ok (.invokespecial idx, 3))
    (KR : ∀ v h', Q' (.inl v) h' → J G Q (pc + 3) lo (v.toList ++ st) h' (k + mc') (n + ms')) : J G Q pc lo S h k n := by subst e; subst hs; exact j_callI C w hM hno hn hlv hw hl hd KR
theorem k_callIN (C : OK G cc nL own rt tb nm) {o : Option Nat} {S : List AV} {idx a : Nat} {host : String} {y : MethodName} {cy : ByteArray} {ny : Nat} (As : List AV) {mc' ms' : Nat} {Q' : Option AV ⊕ String → Hp → Prop} (w : MIN own host idx y cy ny As.length) (e : o = some a) (hs : S = As.reverse ++ vr o :: st)
    (hM : ∀ (l : Launch) (D : va_G) (dA : Nat → ClassId) (sz : Nat), l.stackTraces = false → Ctr l D dA sz (Cond.code y cy ny none) y (glv G + 1) (vr (some a) :: As) h mc' ms' Q') (hno : ∀ E h', ¬ Q' (.inr E) h')
    (hn : lo.length = nL) (hlv : glv G + 1 ≤ 12) (hw : (st.map wt).sum ≤ 8) (hl : lim G (k + mc') (n + ms')) (hd : decode cc pc = .ok (.invokespecial idx, 3))
    (KR : ∀ v h', Q' (.inl v) h' → J G Q (pc + 3) lo (v.toList ++ st) h' (k + mc') (n + ms')) : J G Q pc lo S h k n := by subst e; subst hs; exact j_callIN C w hM hno hn hlv hw hl hd KR
theorem k_callU (C : OK G cc nL own rt tb nm) {o : Option Nat} {S : List AV} {idx a : Nat} (ci : Nat) {owner : String} {x y : MethodName} {cy : ByteArray} {ny : Nat} {ry : Option FieldType} (As : List AV) {mc' ms' : Nat} {Q' : Option AV ⊕ String → Hp → Prop} {q : vw_C} (w : MU own idx q.1 owner x y cy ny ry As.length) (e : o = some a) (hs : S = As.reverse ++ vr o :: st)
    (hM : ∀ (l : Launch) (D : va_G) (dA : Nat → ClassId) (sz : Nat), l.stackTraces = false → Ctr l D dA sz (Cond.code y cy ny ry) y (glv G + 1) (vr (some a) :: As) h mc' ms' Q') (hno : ∀ E h', ¬ Q' (.inr E) h')
    (hq : vwCl[ci]? = some q) (h7 : ci < 7) (ht : tg h a = ci + 1) (hn : lo.length = nL) (hlv : glv G + 1 ≤ 12) (hw : (st.map wt).sum ≤ 8) (hl : lim G (k + mc') (n + ms')) (hd : decode cc pc = .ok (.invokevirtual idx, 3))
    (KR : ∀ v h', Q' (.inl v) h' → J G Q (pc + 3) lo (v.toList ++ st) h' (k + mc') (n + ms')) : J G Q pc lo S h k n := by subst e; subst hs; exact j_callU C w hM hno hq h7 ht hn hlv hw hl hd KR
end RW5
