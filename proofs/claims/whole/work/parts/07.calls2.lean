/-! CALLS: by the callee's contract; what it answers or throws goes on. -/
theorem cP_blind {D : va_G} {dA : Nat → ClassId} {sz : Nat} {av : List AV} {h : Hp} : FrameBlind (cP D dA sz av h) := by
  intro a U g mk hq
  obtain ⟨h1, h2, h3, h4⟩ := hq
  exact ⟨h1, WD.same h2 rfl rfl, h3, h4⟩
theorem cP_at {D : va_G} {dA : Nat → ClassId} {sz : Nat} {av : List AV} {h : Hp} {s : State} {H : Heap} {locs : List Loc} (hWD : WD D dA sz s) (hsz : sz ≤ s.heap.size) (hH : HR D dA sz h H) (hS : va_S (fun q => sz ≤ q) s.heap H locs) (U : State) (hU : U.heap = H) (hW : s.WarmedH U.vm) : cP D dA sz av h (av.map tv).toArray U :=
  ⟨rfl, hWD.go hW (fun a h1 h2 => by rw [hU]; exact hS.2.1 a h1 h2), by rw [hU]; exact hH, by rw [hU]; exact Nat.le_trans hsz hS.1⟩
/-- a contract of a method that throws nothing -/
theorem Ctr.met {l : Launch} {D : va_G} {dA : Nat → ClassId} {sz : Nat} {hd : Cond} {y : MethodName} {lv : Nat} {av : List AV} {h : Hp} {mc ms : Nat} {Q : Option AV ⊕ String → Hp → Prop} (hc : Ctr l D dA sz hd y lv av h mc ms Q) (hn : ∀ E h', ¬ Q (.inr E) h') : Met l y (hd :: BG) (rmo lv mc ms) (cP D dA sz av h) (cQ D dA sz Q) mc ms (fun q => sz ≤ q) := by
  intro p e h1 h2 h3 s m args below h4 h5 h6 h7
  obtain ⟨n, o, a1, a2, a3, a4⟩ := hc p e h1 h2 h3 s m args below h4 h5 h6 h7
  refine ⟨n, o, a1, a2, a3, ?_⟩
  rcases a4 with a4 | ⟨q, -, E, ce, L, ⟨h', hq, -⟩, -⟩
  · exact a4
  · exact absurd hq (hn E h')
/-- weaker ends -/
theorem Ctr.mono {l : Launch} {D : va_G} {dA : Nat → ClassId} {sz : Nat} {hd : Cond} {y : MethodName} {lv : Nat} {av : List AV} {h : Hp} {mc ms : Nat} {Q Q' : Option AV ⊕ String → Hp → Prop} (hc : Ctr l D dA sz hd y lv av h mc ms Q) (hq : ∀ o h', Q o h' → Q' o h') : Ctr l D dA sz hd y lv av h mc ms Q' := by
  intro p e h1 h2 h3 s m args below h4 h5 h6 h7
  obtain ⟨n, o, a1, a2, a3, a4⟩ := hc p e h1 h2 h3 s m args below h4 h5 h6 h7
  refine ⟨n, o, a1, a2, a3, ?_⟩
  rcases a4 with ⟨⟨v, h', b1, b2, b3⟩, b4⟩ | ⟨q, b0, E, ce, L, ⟨h', b1, b2⟩, b3⟩
  · exact Or.inl ⟨⟨v, h', b1, hq _ _ b2, b3⟩, b4⟩
  · exact Or.inr ⟨q, b0, E, ce, L, ⟨h', hq _ _ b1, b2⟩, b3⟩
theorem toList_map (v : Option AV) (st : List AV) : (v.map tv).toList ++ st.map tv = (v.toList ++ st).map tv := by cases v <;> rfl
/-- what a call by a name needs of the words: virtual (of the receiver's own class), static, of an overridden or abstract name, of a constructor; the last two also of a nest mate -/
def MV (own : String) (idx : Nat) (y : MethodName) (cc : ByteArray) (nL : Nat) (rt : Option FieldType) (n : Nat) : Prop :=
  Cond.methodLink own idx y ∈ BG ∧ Cond.instanceMethod y ∈ BG ∧ Cond.selects y.cls y y ∈ BG ∧ Cond.initialized y.cls ∈ BG ∧ Cond.code y cc nL rt ∈ BG ∧ (y.cls ≠ "java/lang/invoke/MethodHandle" ∧ y.cls ≠ "java/lang/invoke/VarHandle") ∧ (parseMethodDescriptor y.desc).map (fun d => d.parameters.length) = some n ∧ nL ≤ 11
def MS (own : String) (idx : Nat) (y : MethodName) (cc : ByteArray) (nL : Nat) (rt : Option FieldType) (n : Nat) : Prop :=
  Cond.methodLink own idx y ∈ BG ∧ Cond.static y ∈ BG ∧ Cond.initialized y.cls ∈ BG ∧ Cond.code y cc nL rt ∈ BG ∧ (y.cls ≠ "java/lang/invoke/MethodHandle" ∧ y.cls ≠ "java/lang/invoke/VarHandle") ∧ (parseMethodDescriptor y.desc).map (fun d => d.parameters.length) = some n ∧ nL ≤ 11
def MSH (own : String) (idx : Nat) (y : MethodName) (cc : ByteArray) (nL : Nat) (rt : Option FieldType) (hh : List (Nat × Nat × Nat × Nat)) (n : Nat) : Prop :=
  Cond.methodLink own idx y ∈ BG ∧ Cond.static y ∈ BG ∧ Cond.initialized y.cls ∈ BG ∧ Cond.codeWith y cc nL rt hh ∈ BG ∧ (y.cls ≠ "java/lang/invoke/MethodHandle" ∧ y.cls ≠ "java/lang/invoke/VarHandle") ∧ (parseMethodDescriptor y.desc).map (fun d => d.parameters.length) = some n ∧ nL ≤ 11
def MSN (own host : String) (idx : Nat) (y : MethodName) (cc : ByteArray) (nL : Nat) (rt : Option FieldType) (n : Nat) : Prop :=
  Cond.methodLinkNest own idx y host ∈ lw_tbl ∧ Cond.static y ∈ BG ∧ Cond.initialized y.cls ∈ BG ∧ Cond.code y cc nL rt ∈ BG ∧ (y.cls ≠ "java/lang/invoke/MethodHandle" ∧ y.cls ≠ "java/lang/invoke/VarHandle") ∧ (parseMethodDescriptor y.desc).map (fun d => d.parameters.length) = some n ∧ nL ≤ 11
def MI (own : String) (idx : Nat) (y : MethodName) (cc : ByteArray) (nL : Nat) (n : Nat) : Prop :=
  Cond.methodLink own idx y ∈ BG ∧ Cond.instanceMethod y ∈ BG ∧ Cond.initialized y.cls ∈ BG ∧ Cond.code y cc nL none ∈ BG ∧ (y.cls ≠ "java/lang/invoke/MethodHandle" ∧ y.cls ≠ "java/lang/invoke/VarHandle") ∧ (parseMethodDescriptor y.desc).map (fun d => d.parameters.length) = some n ∧ nL ≤ 11 ∧ y.name = "<init>"
def MIN (own host : String) (idx : Nat) (y : MethodName) (cc : ByteArray) (nL : Nat) (n : Nat) : Prop :=
  Cond.methodLinkNest own idx y host ∈ lw_tbl ∧ Cond.instanceMethod y ∈ BG ∧ Cond.initialized y.cls ∈ BG ∧ Cond.code y cc nL none ∈ BG ∧ (y.cls ≠ "java/lang/invoke/MethodHandle" ∧ y.cls ≠ "java/lang/invoke/VarHandle") ∧ (parseMethodDescriptor y.desc).map (fun d => d.parameters.length) = some n ∧ nL ≤ 11 ∧ y.name = "<init>"
def MU (own : String) (idx : Nat) (Cn owner : String) (x y : MethodName) (cc : ByteArray) (nL : Nat) (rt : Option FieldType) (n : Nat) : Prop :=
  Cond.methodLink own idx x ∈ BG ∧ Cond.sameMethod x.cls owner x.name x.desc ∈ BG ∧ Cond.selects Cn x y ∈ BG ∧ Cond.instanceMethod y ∈ BG ∧ Cond.initialized y.cls ∈ BG ∧ Cond.code y cc nL rt ∈ BG ∧ (owner ≠ "java/lang/invoke/MethodHandle" ∧ owner ≠ "java/lang/invoke/VarHandle") ∧ (parseMethodDescriptor x.desc).map (fun d => d.parameters.length) = some n ∧ nL ≤ 11 ∧
  (Cond.declares ⟨owner, x.name, x.desc⟩ ∈ lw_tbl ∨ (Cond.instanceMethod ⟨owner, x.name, x.desc⟩ ∈ BG ∧ ∃ b m r, Cond.code ⟨owner, x.name, x.desc⟩ b m r ∈ BG))
theorem len_of {y : MethodName} {n : Nat} (h : (parseMethodDescriptor y.desc).map (fun d => d.parameters.length) = some n) (sig : MethodDescriptor) (hs : parseMethodDescriptor y.desc = some sig) : n = sig.parameters.length := by
  rw [hs] at h
  exact (Option.some.inj h).symm
theorem BG_pay {args : Array Value} {s : State} (hts : ∀ w ∈ BG, w.before args s = true) {hd : Cond} (hm : hd ∈ BG) : ∀ w ∈ hd :: BG, ∀ (a' : Array Value) (U : State), s.WarmedH U.vm → w.before a' U = true :=
  pay_in hts (BG_good (List.mem_filter.mp hm).1 (List.mem_filter.mp hm).2 (fun _ h => h))
section RW4
variable {G : Cx} {cc : ByteArray} {nL : Nat} {own nm : String} {rt : Option FieldType} {tb : List ExceptionTableEntry} {Q : Option AV ⊕ String → Hp → Prop} {pc : Nat} {lo : List (Option AV)} {st : List AV} {h : Hp} {k n : Nat}
/-- behind a call that returns or throws -/
theorem j_aft {p : Program} {l : Launch} {e : Env} {s : State} {m : MethodId} {args : Array Value} {below : List Frame} {meth : Method} {c : Code} {D : va_G} {dA : Nat → ClassId} {sz lv mc ms : Nat} {H : Heap} {locs : List Loc} {ls : Array Slot} {mc' ms' : Nat} {Q' : Option AV ⊕ String → Hp → Prop} {a' : Array Value} {st0 : List Value}
    (hsz : sz ≤ s.heap.size) (hS : va_S (fun q => sz ≤ q) s.heap H locs) (hL : LR ls lo) (hr : vx_Run p l e (rmo lv mc ms) s m args below meth c H locs k n mc' ms' (F0 m pc ls st0) (st.map tv) (cQ D dA sz Q' a') (cX D dA sz Q') (fun q => sz ≤ q))
    (KR : ∀ v h', Q' (.inl v) h' → J (p, l, e, s, m, args, below, meth, c, D, dA, sz, lv, mc, ms) Q (pc + 3) lo (v.toList ++ st) h' (k + mc') (n + ms'))
    (KX : ∀ E h', Q' (.inr E) h' → JX (p, l, e, s, m, args, below, meth, c, D, dA, sz, lv, mc, ms) Q pc E lo st h' (k + mc') (n + ms')) :
    W p l e (rmo lv mc ms) s m args below meth c H locs k n (vx_MQ below (cQ D dA sz Q) (cX D dA sz Q) args s mc ms (fun q => sz ≤ q)) (F0 m pc ls st0) := by
  have hsub : ∀ q : Nat, q < H.size → sz ≤ q → sz ≤ q := fun _ _ h => h
  intro T hT X
  rcases hr T hT X with ⟨v, st₀, t, T', L, h0, X', hLo, e1, e2, ⟨w, h', hv, hq, hH', hF⟩, stp⟩ | ⟨q, st₀, t, T', L, E, ce, h0, X', hLo, e1, e2, ⟨h', hq, hH', hF⟩, hce, hcv, hcl, stp⟩
  · cases hv
    obtain ⟨k1, k2, k3⟩ := vx_keep h0 e1 hS hsub (fun _ h => h) hLo hF
    rw [← e1] at hH'
    obtain ⟨t2, a1, b1⟩ := KR w h' hq T'.heap _ ls hH' k3 hL T' rfl X'
    rw [← toList_map] at a1
    exact ⟨t2, stp t2 a1, b1⟩
  · obtain ⟨k1, k2, k3⟩ := vx_keep h0 e1 hS hsub (fun _ h => h) hLo hF
    rw [← e1] at hH'
    obtain ⟨t2, a1, b1⟩ := KX E h' hq T'.heap _ ls q ce hH' k3 hL (by rw [e1]; exact hce) hcv hcl T' rfl X'
    exact ⟨t2, stp.trans a1, b1⟩
/-- a run that only returns, as one that may throw -/
theorem run_of {p : Program} {l : Launch} {e : Env} {R : Room} {s : State} {m : MethodId} {args : Array Value} {below : List Frame} {meth : Method} {c : Code} {H : Heap} {locs : List Loc} {mc' ms' : Nat} {g : JFrame} {rest : List Value} {Qa : State → Outcome → State → Prop} {XC : String → State → State → Prop} {free : Addr → Prop}
    (h : va_Run p l e R s m args below meth c H locs k n mc' ms' g rest Qa free) : vx_Run p l e R s m args below meth c H locs k n mc' ms' g rest Qa XC free := fun T hT X => Or.inl (h T hT X)
theorem rm_le {lv nL' mc ms mc' ms' : Nat} (hlv : lv + 1 ≤ 12) (hn : nL' ≤ 11) : (rmo (lv + 1) mc' ms').frames + 1 ≤ (rmo lv mc ms).frames ∧ 8 + (nL' + 11) + (rmo (lv + 1) mc' ms').locals ≤ (rmo lv mc ms).locals := by
  refine ⟨?_, ?_⟩
  · show 12 - (lv + 1) + 1 ≤ 12 - lv; omega
  · show 8 + (nL' + 11) + (450 - 30 * (lv + 1)) ≤ 450 - 30 * lv; omega
theorem st_le {m : MethodId} {ls : Array Slot} {s0 : List Value} (hw : (st.map wt).sum ≤ 8) : 2 * (F0 m pc ls s0).monitorRoom + ((st.map tv).map fun v => v.category).sum ≤ 8 := by
  show 2 * 0 + _ ≤ 8
  rw [wt_sum]; omega
theorem rev_map (As : List AV) (x : List AV) : (As.reverse ++ x).map tv = (As.map tv).reverse ++ x.map tv := by rw [List.map_append, List.map_reverse]
theorem j_callV (C : OK G cc nL own rt tb nm) {idx a ci : Nat} {y : MethodName} {cy : ByteArray} {ny : Nat} {ry : Option FieldType} {As : List AV} {mc' ms' : Nat} {Q' : Option AV ⊕ String → Hp → Prop} {q : vw_C} (w : MV own idx y cy ny ry As.length)
    (hM : ∀ (l : Launch) (D : va_G) (dA : Nat → ClassId) (sz : Nat), l.stackTraces = false → Ctr l D dA sz (Cond.code y cy ny ry) y (glv G + 1) (vr (some a) :: As) h mc' ms' Q')
    (hq : vwCl[ci]? = some q) (hqy : q.1 = y.cls) (h7 : ci < 7) (ht : tg h a = ci + 1) (hn : lo.length = nL) (hlv : glv G + 1 ≤ 12) (hw : (st.map wt).sum ≤ 8) (hl : lim G (k + mc') (n + ms')) (hd : decode cc pc = .ok (.invokevirtual idx, 3))
    (KR : ∀ v h', Q' (.inl v) h' → J G Q (pc + 3) lo (v.toList ++ st) h' (k + mc') (n + ms')) (KX : ∀ E h', Q' (.inr E) h' → JX G Q pc E lo st h' (k + mc') (n + ms')) : J G Q pc lo (As.reverse ++ vr (some a) :: st) h k n := by
  obtain ⟨p, l, e, s, m, args, below, meth, c, D, dA, sz, lv, mc, ms⟩ := G
  obtain ⟨hx, hb, hml, hown, hts, -, -, hWD, hsz, hst, -⟩ := C
  obtain ⟨w1, w2, w3, w4, w5, w6, w7, w8⟩ := w
  intro H locs ls hH hS hL
  have hr := recvOf hWD hH hq h7 ht
  rw [hqy] at hr
  have hR := rm_le (mc := mc) (ms := ms) (mc' := mc') (ms' := ms') (show lv + 1 ≤ 12 from hlv) w8
  refine j_aft (a' := (Value.ref a :: As.map tv).toArray) hsz hS hL (vx_runV (g := F0 m pc ls ((As.reverse ++ vr (some a) :: st).map tv)) (nL := nL) ⟨hx, hb, hml, hown, hts⟩ (hM l D dA sz hst)
    ⟨⟨rfl, rfl, hR.1, hR.2, BG_pay hts w5, List.mem_cons_self, hts _ w5, hts _ w4, w6, len_of w7, hts _ w1⟩, hts _ w2, hts _ w3⟩
    ⟨cP_blind, hr, fun U hU hW => cP_at hWD hsz hH hS U hU hW⟩ rfl (by rw [List.length_map]) (by rw [← hn]; exact hL.1) (rev_map As (vr (some a) :: st)) (st_le hw) hd hl) KR KX
theorem j_callS (C : OK G cc nL own rt tb nm) {idx : Nat} {y : MethodName} {cy : ByteArray} {ny : Nat} {ry : Option FieldType} {As : List AV} {mc' ms' : Nat} {Q' : Option AV ⊕ String → Hp → Prop} (w : MS own idx y cy ny ry As.length)
    (hM : ∀ (l : Launch) (D : va_G) (dA : Nat → ClassId) (sz : Nat), l.stackTraces = false → Ctr l D dA sz (Cond.code y cy ny ry) y (glv G + 1) As h mc' ms' Q')
    (hn : lo.length = nL) (hlv : glv G + 1 ≤ 12) (hw : (st.map wt).sum ≤ 8) (hl : lim G (k + mc') (n + ms')) (hd : decode cc pc = .ok (.invokestatic idx, 3))
    (KR : ∀ v h', Q' (.inl v) h' → J G Q (pc + 3) lo (v.toList ++ st) h' (k + mc') (n + ms')) (KX : ∀ E h', Q' (.inr E) h' → JX G Q pc E lo st h' (k + mc') (n + ms')) : J G Q pc lo (As.reverse ++ st) h k n := by
  obtain ⟨p, l, e, s, m, args, below, meth, c, D, dA, sz, lv, mc, ms⟩ := G
  obtain ⟨hx, hb, hml, hown, hts, -, -, hWD, hsz, hst, -⟩ := C
  obtain ⟨w1, w2, w4, w5, w6, w7, w8⟩ := w
  intro H locs ls hH hS hL
  have hR := rm_le (mc := mc) (ms := ms) (mc' := mc') (ms' := ms') (show lv + 1 ≤ 12 from hlv) w8
  refine j_aft (a' := (As.map tv).toArray) hsz hS hL (vx_runS (g := F0 m pc ls ((As.reverse ++ st).map tv)) (nL := nL) ⟨hx, hb, hml, hown, hts⟩ (hM l D dA sz hst)
    ⟨⟨rfl, rfl, hR.1, hR.2, BG_pay hts w5, List.mem_cons_self, hts _ w5, hts _ w4, w6, len_of w7, hts _ w1⟩, hts _ w2⟩
    ⟨cP_blind, fun U hU hW => cP_at hWD hsz hH hS U hU hW⟩ rfl (by rw [List.length_map]) (by rw [← hn]; exact hL.1) (rev_map As st) (st_le hw) hd hl) KR KX
theorem j_callSH (C : OK G cc nL own rt tb nm) {idx : Nat} {y : MethodName} {cy : ByteArray} {ny : Nat} {ry : Option FieldType} {hh : List (Nat × Nat × Nat × Nat)} {As : List AV} {mc' ms' : Nat} {Q' : Option AV ⊕ String → Hp → Prop} (w : MSH own idx y cy ny ry hh As.length)
    (hM : ∀ (l : Launch) (D : va_G) (dA : Nat → ClassId) (sz : Nat), l.stackTraces = false → Ctr l D dA sz (Cond.codeWith y cy ny ry hh) y (glv G + 1) As h mc' ms' Q') (hno : ∀ E h', ¬ Q' (.inr E) h')
    (hn : lo.length = nL) (hlv : glv G + 1 ≤ 12) (hw : (st.map wt).sum ≤ 8) (hl : lim G (k + mc') (n + ms')) (hd : decode cc pc = .ok (.invokestatic idx, 3))
    (KR : ∀ v h', Q' (.inl v) h' → J G Q (pc + 3) lo (v.toList ++ st) h' (k + mc') (n + ms')) : J G Q pc lo (As.reverse ++ st) h k n := by
  obtain ⟨p, l, e, s, m, args, below, meth, c, D, dA, sz, lv, mc, ms⟩ := G
  obtain ⟨hx, hb, hml, hown, hts, -, -, hWD, hsz, hst, -⟩ := C
  obtain ⟨w1, w2, w4, w5, w6, w7, w8⟩ := w
  intro H locs ls hH hS hL
  have hR := rm_le (mc := mc) (ms := ms) (mc' := mc') (ms' := ms') (show lv + 1 ≤ 12 from hlv) w8
  refine j_aft (a' := (As.map tv).toArray) hsz hS hL (run_of (vx_runSW (g := F0 m pc ls ((As.reverse ++ st).map tv)) (nL := nL) ⟨hx, hb, hml, hown, hts⟩ ((hM l D dA sz hst).met hno)
    ⟨⟨rfl, rfl, hR.1, hR.2, BG_pay hts w5, List.mem_cons_self⟩, hts _ w5, hts _ w4, w6, len_of w7, hts _ w1, hts _ w2⟩
    ⟨cP_blind, fun U hU hW => cP_at hWD hsz hH hS U hU hW⟩ rfl (by rw [List.length_map]) (by rw [← hn]; exact hL.1) (rev_map As st) (st_le hw) hd hl)) KR (fun E h' hq => absurd hq (hno E h'))
theorem j_callSN (C : OK G cc nL own rt tb nm) {idx : Nat} {host : String} {y : MethodName} {cy : ByteArray} {ny : Nat} {ry : Option FieldType} {As : List AV} {mc' ms' : Nat} {Q' : Option AV ⊕ String → Hp → Prop} (w : MSN own host idx y cy ny ry As.length)
    (hM : ∀ (l : Launch) (D : va_G) (dA : Nat → ClassId) (sz : Nat), l.stackTraces = false → Ctr l D dA sz (Cond.code y cy ny ry) y (glv G + 1) As h mc' ms' Q') (hno : ∀ E h', ¬ Q' (.inr E) h')
    (hn : lo.length = nL) (hlv : glv G + 1 ≤ 12) (hw : (st.map wt).sum ≤ 8) (hl : lim G (k + mc') (n + ms')) (hd : decode cc pc = .ok (.invokestatic idx, 3))
    (KR : ∀ v h', Q' (.inl v) h' → J G Q (pc + 3) lo (v.toList ++ st) h' (k + mc') (n + ms')) : J G Q pc lo (As.reverse ++ st) h k n := by
  obtain ⟨p, l, e, s, m, args, below, meth, c, D, dA, sz, lv, mc, ms⟩ := G
  obtain ⟨hx, hb, hml, hown, hts, -, -, hWD, hsz, hst, -⟩ := C
  obtain ⟨w1, w2, w4, w5, w6, w7, w8⟩ := w
  intro H locs ls hH hS hL
  have hR := rm_le (mc := mc) (ms := ms) (mc' := mc') (ms' := ms') (show lv + 1 ≤ 12 from hlv) w8
  refine j_aft (a' := (As.map tv).toArray) hsz hS hL (run_of (va_runSN (g := F0 m pc ls ((As.reverse ++ st).map tv)) (nL := nL) ⟨hx, hb, hml, hown, hts⟩ ((hM l D dA sz hst).met hno)
    ⟨⟨⟨rfl, rfl, hR.1, hR.2, BG_pay hts w5, List.mem_cons_self⟩, hts _ w5, hts _ w4, w6, len_of w7, va_Nw.use rfl (nwk_in hWD w1 rfl)⟩, hts _ w2, trivial⟩
    ⟨cP_blind, fun U hU hW => cP_at hWD hsz hH hS U hU hW⟩ rfl (by rw [List.length_map]) (by rw [← hn]; exact hL.1) (rev_map As st) (st_le hw) hd hl)) KR (fun E h' hq => absurd hq (hno E h'))
theorem j_callI (C : OK G cc nL own rt tb nm) {idx a : Nat} {y : MethodName} {cy : ByteArray} {ny : Nat} {As : List AV} {mc' ms' : Nat} {Q' : Option AV ⊕ String → Hp → Prop} (w : MI own idx y cy ny As.length)
    (hM : ∀ (l : Launch) (D : va_G) (dA : Nat → ClassId) (sz : Nat), l.stackTraces = false → Ctr l D dA sz (Cond.code y cy ny none) y (glv G + 1) (vr (some a) :: As) h mc' ms' Q') (hno : ∀ E h', ¬ Q' (.inr E) h')
    (hn : lo.length = nL) (hlv : glv G + 1 ≤ 12) (hw : (st.map wt).sum ≤ 8) (hl : lim G (k + mc') (n + ms')) (hd : decode cc pc = .ok (.invokespecial idx, 3))
    (KR : ∀ v h', Q' (.inl v) h' → J G Q (pc + 3) lo (v.toList ++ st) h' (k + mc') (n + ms')) : J G Q pc lo (As.reverse ++ vr (some a) :: st) h k n := by
  obtain ⟨p, l, e, s, m, args, below, meth, c, D, dA, sz, lv, mc, ms⟩ := G
  obtain ⟨hx, hb, hml, hown, hts, -, -, hWD, hsz, hst, -⟩ := C
  obtain ⟨w1, w2, w4, w5, w6, w7, w8, w9⟩ := w
  intro H locs ls hH hS hL
  have hR := rm_le (mc := mc) (ms := ms) (mc' := mc') (ms' := ms') (show lv + 1 ≤ 12 from hlv) w8
  refine j_aft (a' := (Value.ref a :: As.map tv).toArray) hsz hS hL (run_of (va_runI (g := F0 m pc ls ((As.reverse ++ vr (some a) :: st).map tv)) (nL := nL) ⟨hx, hb, hml, hown, hts⟩ ((hM l D dA sz hst).met hno)
    ⟨⟨rfl, rfl, hR.1, hR.2, BG_pay hts w5, List.mem_cons_self, hts _ w5, hts _ w4, w6, len_of w7, hts _ w1⟩, w9, hts _ w2⟩
    ⟨cP_blind, fun U hU hW => cP_at (av := vr (some a) :: As) hWD hsz hH hS U hU hW⟩ rfl (by rw [List.length_map]) (by rw [← hn]; exact hL.1) (rev_map As (vr (some a) :: st)) (st_le hw) hd hl)) KR (fun E h' hq => absurd hq (hno E h'))
theorem j_callIN (C : OK G cc nL own rt tb nm) {idx a : Nat} {host : String} {y : MethodName} {cy : ByteArray} {ny : Nat} {As : List AV} {mc' ms' : Nat} {Q' : Option AV ⊕ String → Hp → Prop} (w : MIN own host idx y cy ny As.length)
    (hM : ∀ (l : Launch) (D : va_G) (dA : Nat → ClassId) (sz : Nat), l.stackTraces = false → Ctr l D dA sz (Cond.code y cy ny none) y (glv G + 1) (vr (some a) :: As) h mc' ms' Q') (hno : ∀ E h', ¬ Q' (.inr E) h')
    (hn : lo.length = nL) (hlv : glv G + 1 ≤ 12) (hw : (st.map wt).sum ≤ 8) (hl : lim G (k + mc') (n + ms')) (hd : decode cc pc = .ok (.invokespecial idx, 3))
    (KR : ∀ v h', Q' (.inl v) h' → J G Q (pc + 3) lo (v.toList ++ st) h' (k + mc') (n + ms')) : J G Q pc lo (As.reverse ++ vr (some a) :: st) h k n := by
  obtain ⟨p, l, e, s, m, args, below, meth, c, D, dA, sz, lv, mc, ms⟩ := G
  obtain ⟨hx, hb, hml, hown, hts, -, -, hWD, hsz, hst, -⟩ := C
  obtain ⟨w1, w2, w4, w5, w6, w7, w8, w9⟩ := w
  intro H locs ls hH hS hL
  have hR := rm_le (mc := mc) (ms := ms) (mc' := mc') (ms' := ms') (show lv + 1 ≤ 12 from hlv) w8
  refine j_aft (a' := (Value.ref a :: As.map tv).toArray) hsz hS hL (run_of (va_runIN (g := F0 m pc ls ((As.reverse ++ vr (some a) :: st).map tv)) (nL := nL) ⟨hx, hb, hml, hown, hts⟩ ((hM l D dA sz hst).met hno)
    ⟨⟨⟨rfl, rfl, hR.1, hR.2, BG_pay hts w5, List.mem_cons_self⟩, hts _ w5, hts _ w4, w6, len_of w7, va_Nw.use rfl (nwk_in hWD w1 rfl)⟩, w9, hts _ w2⟩
    ⟨cP_blind, fun U hU hW => cP_at (av := vr (some a) :: As) hWD hsz hH hS U hU hW⟩ rfl (by rw [List.length_map]) (by rw [← hn]; exact hL.1) (rev_map As (vr (some a) :: st)) (st_le hw) hd hl)) KR (fun E h' hq => absurd hq (hno E h'))
theorem j_callU (C : OK G cc nL own rt tb nm) {idx a ci : Nat} {owner : String} {x y : MethodName} {cy : ByteArray} {ny : Nat} {ry : Option FieldType} {As : List AV} {mc' ms' : Nat} {Q' : Option AV ⊕ String → Hp → Prop} {q : vw_C} (w : MU own idx q.1 owner x y cy ny ry As.length)
    (hM : ∀ (l : Launch) (D : va_G) (dA : Nat → ClassId) (sz : Nat), l.stackTraces = false → Ctr l D dA sz (Cond.code y cy ny ry) y (glv G + 1) (vr (some a) :: As) h mc' ms' Q') (hno : ∀ E h', ¬ Q' (.inr E) h')
    (hq : vwCl[ci]? = some q) (h7 : ci < 7) (ht : tg h a = ci + 1) (hn : lo.length = nL) (hlv : glv G + 1 ≤ 12) (hw : (st.map wt).sum ≤ 8) (hl : lim G (k + mc') (n + ms')) (hd : decode cc pc = .ok (.invokevirtual idx, 3))
    (KR : ∀ v h', Q' (.inl v) h' → J G Q (pc + 3) lo (v.toList ++ st) h' (k + mc') (n + ms')) : J G Q pc lo (As.reverse ++ vr (some a) :: st) h k n := by
  obtain ⟨p, l, e, s, m, args, below, meth, c, D, dA, sz, lv, mc, ms⟩ := G
  obtain ⟨hx, hb, hml, hown, hts, -, -, hWD, hsz, hst, -⟩ := C
  obtain ⟨w1, w2, w3, w4, w5, w6, w7, w8, w9, w10⟩ := w
  intro H locs ls hH hS hL
  have hr := recvOf hWD hH hq h7 ht
  have hR := rm_le (mc := mc) (ms := ms) (mc' := mc') (ms' := ms') (show lv + 1 ≤ 12 from hlv) w9
  have hdc : va_Decl s ⟨owner, x.name, x.desc⟩ := by
    rcases w10 with h1 | ⟨h1, b, m9, r, h2⟩
    · exact va_Decl.abs (nwk_in hWD h1 rfl)
    · exact va_Decl.of (hts _ h1) (hts _ h2)
  refine j_aft (a' := (Value.ref a :: As.map tv).toArray) hsz hS hL (run_of (va_runU (owner := owner) (x := x) (g := F0 m pc ls ((As.reverse ++ vr (some a) :: st).map tv)) (nL := nL) ⟨hx, hb, hml, hown, hts⟩ ((hM l D dA sz hst).met hno)
    ⟨⟨rfl, rfl, hR.1, hR.2, BG_pay hts w6, List.mem_cons_self⟩, hts _ w6, hts _ w5, w7, len_of w8, hts _ w1, hts _ w2, hdc, hts _ w3, hts _ w4⟩
    ⟨cP_blind, hr, fun U hU hW => cP_at (av := vr (some a) :: As) hWD hsz hH hS U hU hW⟩ rfl (by rw [List.length_map]) (by rw [← hn]; exact hL.1) (rev_map As (vr (some a) :: st)) (st_le hw) hd hl)) KR (fun E h' hq => absurd hq (hno E h'))
end RW4
