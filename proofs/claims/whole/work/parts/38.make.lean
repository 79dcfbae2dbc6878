/-! New objects. -/
section MAKE
variable {b : Nat} {h : Hp} {A : Nat → Nat} {S : St} {Q : Option AV ⊕ String → Hp → Prop}
/-- h1 is h0 with the new cell a and its arrays -/
def NW (h0 h1 : Hp) (a : Nat) : Prop :=
  tg h0 a = 0 ∧ eqT h0 h1 ∧ (∀ k x, x ≠ a → fI h1 k x = fI h0 k x ∧ fR h1 k x = fR h0 k x) ∧ ∀ x, tg h0 x ≠ 0 → aI h1 x = aI h0 x ∧ aL h1 x = aL h0 x ∧ aR h1 x = aR h0 x
theorem NW.ne {h0 h1 : Hp} {a x t : Nat} (w : NW h0 h1 a) (ht : tg h0 x = t + 1) : x ≠ a := fun e => by rw [e, w.1] at ht; cases ht
theorem NW.FC {h0 h1 : Hp} {a : Nat} (w : NW h0 h1 a) (hC : CF h0 A) : FC A h0 h1 := by
  have ht : ∀ k, 40 ≤ k → tg h0 (A k) ≠ 0 := fun k hk => by rcases (hC.2.2.2.2.2 k hk).1 with e | e | e | e <;> rw [e] <;> decide
  refine ⟨fun k hk => w.2.2.1 k _ (fun e => ht 40 (Nat.le_refl _) (by rw [e]; exact w.1)), fun k hk => ⟨(w.2.1 _ (ht k hk)).1, (w.2.1 _ (ht k hk)).2, (w.2.2.2 _ (ht k hk)).1, (w.2.2.2 _ (ht k hk)).2.1⟩⟩
theorem thg_ne {x : Nat} (ht : thg h x) : tg h x ≠ 0 := by rcases ht with e | e | e <;> rw [e] <;> decide
theorem CI.new {h1 : Hp} {a : Nat} (hC : CI (b, ob S) h A S) (hW : WF S) (w : NW h h1 a) : CI (b, ob S) h1 A S := by
  have hob : ∀ x ∈ ob S, x ≠ a := fun x hx e => thg_ne (hC.thg hW hx) (by rw [e]; exact w.1)
  obtain ⟨c1, c2, c3, c4, c5⟩ := hC
  have c1' := c1
  obtain ⟨⟨f1, f2, f3, f4, f5, f6, f7⟩, ⟨g1, g2, g3, g4, g5, g6⟩, ⟨l1, l2, l3⟩, m1, m2, m3⟩ := c1'
  refine ⟨c1.congr w.2.1 (fun k _ _ => (w.2.2.1 k _ (w.ne f1)).2), c2.congr (w.2.2.2 _ (by rw [g1]; decide)).2.2 (w.2.2.1 _ _ (w.ne f1)).1 (w.2.2.1 _ _ (w.ne f1)).1 (w.2.2.2 _ (by rw [g2]; decide)).1 (w.2.2.2 _ (by rw [g3]; decide)).1,
    c3.congr hW w.2.1 (fun x hx k _ => (w.2.2.1 k x (hob x hx)).1) (fun x hx k _ => (w.2.2.1 k x (hob x hx)).2) (fun x hx k r hr => ?_) (fun x hx k n hn => ?_), c4.congr (fun c hc => ?_) (fun x hx => (w.2.2.1 3 x (hob x hx)).2), c5.congr (w.2.2.1 _ _ (w.ne g6)).1 (fun x hx => ⟨(w.2.2.1 7 x (hob x hx)).2, (w.2.2.1 4 x (hob x hx)).1⟩)⟩
  · obtain ⟨-, r', n, d1, d2, -⟩ := (c3.1 x hx).2.2.2.1 k
    rw [hr] at d1; cases d1
    exact (w.2.2.2 r (by rw [d2]; decide)).2.2
  · obtain ⟨-, r', n', d1, d2, d3, d4, d5, d6, d7, -⟩ := (c3.1 x hx).2.2.2.1 k
    rw [hn] at d6; cases d6
    exact (w.2.2.2 n (by rw [d7]; decide)).2.1
  · have : c ≠ a := by rcases hc with rfl | rfl; exact w.ne g4; exact w.ne g5
    exact ⟨(w.2.2.1 19 c this).2, (w.2.2.1 20 c this).2, (w.2.2.1 21 c this).1, (w.2.2.1 22 c this).1⟩
/-- the abstract data of an object -/
def eqD (S S' : St) (x : Nat) : Prop := (∀ k, fI S'.1 k x = fI S.1 k x) ∧ (∀ k, fR S'.1 k x = fR S.1 k x) ∧ tg S'.1 x = tg S.1 x ∧ ln S'.1 x = ln S.1 x ∧ aR S'.1 x = aR S.1 x ∧ aL S'.1 x = aL S.1 x ∧ qu S' x = qu S x
theorem eqD.cl {S S' : St} {x : Nat} (e : eqD S S' x) : cl S' x = cl S x := by
  show clN (fI S'.1 0 x) (tg S'.1 x + ln S'.1 x) = clN (fI S.1 0 x) (tg S.1 x + ln S.1 x)
  rw [e.1, e.2.2.1, e.2.2.2.1]
theorem COa.data {S' : St} {x : Nat} (hC : COa h A S x) (e : eqD S S' x) : COa h A S' x := by
  obtain ⟨c1, c2, c3, c4, c5, c6⟩ := hC
  have e0 : kd S' x = kd S x := e.1 0
  refine ⟨by rw [e0]; exact c1, by rw [e.cl]; exact c2, by show _ = fI S'.1 2 x; rw [e.1]; exact c3, ?_, ?_, ?_⟩
  · rw [e0]; intro k
    obtain ⟨t, r, n, d1, d2, d3, d4, d5, d6, d7, d8, d9, d10⟩ := c4 k
    refine ⟨t, r, n, d1, d2, ?_, d4, ?_, d6, d7, ?_, d9, ?_⟩
    · show _ = tg S'.1 x; rw [e.2.2.1]; exact d3
    · show ∀ j < tg S'.1 x, _ = aR S'.1 x j; rw [e.2.2.1, e.2.2.2.2.1]; exact d5
    · show _ = ln S'.1 x; rw [e.2.2.2.1]; exact d8
    · show ∀ j < ln S'.1 x, _ = aL S'.1 x j; rw [e.2.2.2.1, e.2.2.2.2.2.1]; exact d10
  · rw [e0]; intro k
    obtain ⟨t, d⟩ := c5 k
    refine ⟨t, ?_⟩
    unfold COq; rw [e.2.2.2.2.2.2]; exact d
  · rw [e0]; intro k
    obtain ⟨t, d1, d2, d3, d4, d5⟩ := c6 k
    refine ⟨t, ?_, ?_, ?_, ?_, ?_⟩
    · show _ = fR S'.1 13 x; rw [e.2.1]; exact d1
    · show _ = fR S'.1 14 x; rw [e.2.1]; exact d2
    · show _ = fR S'.1 15 x; rw [e.2.1]; exact d3
    · show _ = fI S'.1 16 x; rw [e.1]; exact d4
    · show fI S'.1 16 x = 0 → _; rw [e.1]; exact d5
theorem map_cl {S S' : St} {l : List Nat} (e : ∀ x ∈ l, cl S' x = cl S x) : (l.map (cl S')).sum = (l.map (cl S)).sum := by rw [List.map_congr_left e]
theorem CI.data {B : Nat × List Nat} {S' : St} (hC : CI B h A S) (e : ∀ x ∈ ob S, eqD S S' x) (eo : ob S' = ob S) (er : rt S' = rt S) (en : nt S' = nt S) (es : sc S' = sc S) (ec : cn S' = cn S) (em : rm S' = rm S) : CI B h A S' := by
  obtain ⟨c1, c2, c3, ⟨lo, ly, c4, c5, c6⟩, c7⟩ := hC
  have hcl : ∀ x ∈ lo ++ ly, cl S' x = cl S x := fun x hx => (e x (by rw [← c4]; exact hx)).cl
  refine ⟨c1, ?_, ⟨fun x hx => (c3.1 x (by rw [← eo]; exact hx)).data (e x (by rw [← eo]; exact hx)), fun x hx y hy kx ky hne => ?_⟩, ⟨lo, ly, by rw [eo]; exact c4, ?_, ?_⟩, c7⟩
  · unfold CG; rw [er, en, es, ec, em]; exact c2
  · rw [eo] at hx hy
    have kx : hd (fI S'.1 0 x) := kx
    have ky : hd (fI S'.1 0 y) := ky
    rw [(e x hx).1] at kx; rw [(e y hy).1] at ky
    exact c3.2 x hx y hy kx ky hne
  · exact ⟨c5.1, c5.2.1, c5.2.2.1, by rw [map_cl (fun x hx => hcl x (List.mem_append_left _ hx))]; exact c5.2.2.2.1, c5.2.2.2.2⟩
  · exact ⟨c6.1, c6.2.1, c6.2.2.1, by rw [map_cl (fun x hx => hcl x (List.mem_append_right _ hx))]; exact c6.2.2.2.1, c6.2.2.2.2⟩
theorem WFa.data {S' : St} {x : Nat} (hW : WF S) (hx : x ∈ ob S) (e : ∀ y ∈ ob S, eqD S S' y) (eo : ∀ y ∈ ob S, y ∈ ob S') (hq : ∀ q ∈ ob S', kd S' q = 3 → q ∈ ob S ∨ qu S' q = []) : WFa S' x := by
  obtain ⟨v1, v2, v3, v4, v5, v6, v7, v8, v9⟩ := hW.2.1 x hx
  have ex := e x hx
  have e0 : ∀ y ∈ ob S, kd S' y = kd S y := fun y hy => (e y hy).1 0
  have e16 : ∀ y ∈ ob S, cm S' y = cm S y := fun y hy => (e y hy).1 16
  have er : nr S' x = nr S x := ex.2.2.1
  have en : nn S' x = nn S x := ex.2.2.2.1
  have e13 : re S' x = re S x := ex.2.1 13
  have e14 : va S' x = va S x := ex.2.1 14
  have e15 : li S' x = li S x := ex.2.1 15
  unfold WFa
  rw [e0 x hx, er, en, e13, e14, e15, e16 x hx]
  refine ⟨v1, v2, v3, v4, v5, v6, fun j hj c hc => ?_, fun k => ?_, fun k => ?_⟩
  · have hc : aR S'.1 x j = some c := hc
    rw [ex.2.2.2.2.1] at hc
    exact eo c (v7 j hj c hc)
  · obtain ⟨u1, u2, u3, u4⟩ := v8 k
    refine ⟨fun c hc => eo c (u1 c hc), fun c hc => ⟨eo c (u2 c hc).1, (u2 c hc).2⟩, u3, fun z q hq => ?_⟩
    obtain ⟨x1, x2⟩ := u4 z q hq
    exact ⟨eo q x1, by rw [e0 q x1]; exact x2⟩
  · obtain ⟨u1, u2, u3⟩ := v9 k
    rw [ex.2.2.2.2.2.2]
    refine ⟨u1, fun c hc => ?_, fun q hq' kq hne c hc hcq => ?_⟩
    · obtain ⟨x1, x2, x3⟩ := u2 c hc
      exact ⟨eo c x1, by rw [e0 c x1]; exact x2, by rw [e16 c x1]; exact x3⟩
    · rcases hq q hq' kq with z | z
      · rw [(e q z).2.2.2.2.2.2] at hcq
        rw [e0 q z] at kq
        exact u3 q z kq hne c hc hcq
      · rw [z] at hcq; cases hcq
/-- the shape that a new object must have -/
def NSh (S : St) (k : Int32) (n1 n2 : Nat) (o1 o2 o3 : Option Nat) : Prop :=
  (hd k ∨ k = 3 ∨ ls k) ∧ (¬ hd k → n1 = 0 ∧ n2 = 0) ∧ (k = 1 → n2 = 0) ∧ (k = 2 → n1 = 0) ∧ n1 ≤ 3000 ∧ n2 ≤ 3000 ∧
  (ls k → (∀ c, o1 = some c → c ∈ ob S) ∧ (∀ c, o2 = some c → c ∈ ob S ∧ k = 7 ∧ o1 ≠ none) ∧ ∀ q, o3 = some q → q ∈ ob S ∧ kd S q = 3)
theorem mk_new {a i n1 n2 : Nat} {k : Int32} {o1 o2 o3 : Option Nat} : kd (mkS S a i k n1 n2 o1 o2 o3) a = k ∧ hs (mkS S a i k n1 n2 o1 o2 o3) a = 0 ∧ cm (mkS S a i k n1 n2 o1 o2 o3) a = 0 ∧ re (mkS S a i k n1 n2 o1 o2 o3) a = o1 ∧ va (mkS S a i k n1 n2 o1 o2 o3) a = o2 ∧ li (mkS S a i k n1 n2 o1 o2 o3) a = o3 ∧ nr (mkS S a i k n1 n2 o1 o2 o3) a = n1 ∧ nn (mkS S a i k n1 n2 o1 o2 o3) a = n2 ∧ (∀ j, rf (mkS S a i k n1 n2 o1 o2 o3) a j = none) ∧ (∀ j, nv (mkS S a i k n1 n2 o1 o2 o3) a j = 0) ∧ qu (mkS S a i k n1 n2 o1 o2 o3) a = [] := by
  unfold mkS
  refine ⟨?_, ?_, ?_, ?_, ?_, ?_, ?_, ?_, fun j => ?_, fun j => ?_, up1_same _ _ _⟩
  · simp [kd, fI_pR, fI_pI]
  · simp [hs, fI_pR, fI_pI, fI_nA, fI_nO']
  · simp [cm, fI_pR, fI_pI, fI_nA, fI_nO']
  · simp [re, fR_pR]
  · simp [va, fR_pR]
  · simp [li, fR_pR]
  · simp [nr, tg_pR, tg_pI, tg_nA']
  · simp [nn, ln_pR, ln_pI, ln_nA']
  · simp [rf, aR_pR, aR_pI, aR_nA']
  · simp [nv, aL_pR, aL_pI, aL_nA']
theorem mk_old {a i n1 n2 x : Nat} {k : Int32} {o1 o2 o3 : Option Nat} (hx : x ≠ a) : eqD S (mkS S a i k n1 n2 o1 o2 o3) x := by
  unfold mkS
  refine ⟨fun j => ?_, fun j => ?_, ?_, ?_, ?_, ?_, up1_ne hx⟩
  · simp [fI_pR, fI_pI, fI_nA, fI_nO', hx]
  · simp [fR_pR, fR_pI, fR_nA, fR_nO', hx]
  · simp [tg_pR, tg_pI, tg_nA', tg_nO', hx]
  · simp [ln_pR, ln_pI, ln_nA', ln_nO, hx]
  · funext j; simp [aR_pR, aR_pI, aR_nA', aR_nO, hx]
  · funext j; simp [aL_pR, aL_pI, aL_nA', aL_nO, hx]
theorem mk_cl {a i n1 n2 : Nat} {k : Int32} {o1 o2 o3 : Option Nat} : cl (mkS S a i k n1 n2 o1 o2 o3) a = clN k (n1 + n2) := by
  obtain ⟨e1, -, -, -, -, -, e2, e3, -⟩ := mk_new (S := S) (a := a) (i := i) (n1 := n1) (n2 := n2) (k := k) (o1 := o1) (o2 := o2) (o3 := o3)
  unfold cl; rw [e1, e2, e3]
theorem mk_us {a i n1 n2 : Nat} {k : Int32} {o1 o2 o3 : Option Nat} (ha : a ∉ ob S) : us (mkS S a i k n1 n2 o1 o2 o3) = us S + clN k (n1 + n2) := by
  show ((ob S ++ [a]).map (cl (mkS S a i k n1 n2 o1 o2 o3))).sum = _
  rw [List.map_append, List.sum_append, map_cl (S := S) (fun x hx => (mk_old (fun e => ha (by rw [← e]; exact hx))).cl)]
  simp [mk_cl, us]
theorem WFmake {a i n1 n2 : Nat} {k : Int32} {o1 o2 o3 : Option Nat} (hW : WF S) (ha : a ∉ ob S) (hN : NSh S k n1 n2 o1 o2 o3) (hf : fitS S (clN k (n1 + n2))) : WF (mkS S a i k n1 n2 o1 o2 o3) := by
  have hold : ∀ x ∈ ob S, eqD S (mkS S a i k n1 n2 o1 o2 o3) x := fun x hx => mk_old (fun e => ha (by rw [← e]; exact hx))
  have hmem : ∀ x ∈ ob S, x ∈ ob (mkS S a i k n1 n2 o1 o2 o3) := fun x hx => List.mem_append_left _ hx
  have hu := mk_us (S := S) (i := i) (n1 := n1) (n2 := n2) (k := k) (o1 := o1) (o2 := o2) (o3 := o3) ha
  obtain ⟨e1, e2, e3, e4, e5, e6, e7, e8, e9, e10, e11⟩ := mk_new (S := S) (a := a) (i := i) (n1 := n1) (n2 := n2) (k := k) (o1 := o1) (o2 := o2) (o3 := o3)
  have hq : ∀ q ∈ ob (mkS S a i k n1 n2 o1 o2 o3), kd (mkS S a i k n1 n2 o1 o2 o3) q = 3 → q ∈ ob S ∨ qu (mkS S a i k n1 n2 o1 o2 o3) q = [] := fun q hq _ => by
    rcases List.mem_append.mp hq with z | z
    · exact Or.inl z
    · rw [List.mem_singleton.mp z]; exact Or.inr e11
  have hW0 := hW
  obtain ⟨w1, w2, w3, w4, w5, w6, w7, w8, w9, w10, w11⟩ := hW
  obtain ⟨n_1, n_2, n_3, n_4, n_5, n_6, n_7⟩ := hN
  refine ⟨?_, fun x hx => ?_, by rw [hu]; exact hf, w4, w5, ?_, ?_, ?_, w9, w10, fun j hj c hc => ?_⟩
  · show (ob S ++ [a]).Nodup
    rw [List.nodup_append]
    exact ⟨w1, List.nodup_cons.mpr ⟨List.not_mem_nil, List.nodup_nil⟩, fun y hy z hz e => ha (by rw [List.mem_singleton.mp hz] at e; rw [← e]; exact hy)⟩
  · rcases List.mem_append.mp hx with z | z
    · exact WFa.data hW0 z hold hmem hq
    · rw [List.mem_singleton.mp z]
      unfold WFa
      rw [e1, e3, e4, e5, e6, e7, e8, e11]
      refine ⟨n_1, n_2, n_3, n_4, n_5, n_6, fun j hj c hc => ?_, fun kl => ?_, fun _ => ⟨List.nodup_nil, fun c hc => (by cases hc), fun q hq kq hne c hc => by cases hc⟩⟩
      · rw [e9] at hc; cases hc
      · obtain ⟨u1, u2, u3⟩ := n_7 kl
        refine ⟨fun c hc => hmem c (u1 c hc), fun c hc => ⟨hmem c (u2 c hc).1, (u2 c hc).2⟩, Or.inl rfl, fun _ q hq => ?_⟩
        obtain ⟨x1, x2⟩ := u3 q hq
        exact ⟨hmem q x1, by rw [show kd (mkS S a i k n1 n2 o1 o2 o3) q = kd S q from (hold q x1).1 0]; exact x2⟩
  · show up1 (up1 (up1 (up1 (cn S) 2 (cn S 2 + 1)) 1 (cn S 1 + 1)) 0 (cn S 0 + nI (clN k (n1 + n2)))) 6 (j_mx (cn S 6) (cn S 0 + nI (clN k (n1 + n2)))) 0 = _
    rw [up1_ne (by decide), up1_same, hu, w6, nI_add]
  · show up1 (up1 (up1 (up1 (cn S) 2 (cn S 2 + 1)) 1 (cn S 1 + 1)) 0 (cn S 0 + nI (clN k (n1 + n2)))) 6 (j_mx (cn S 6) (cn S 0 + nI (clN k (n1 + n2)))) 1 = nI (ob S ++ [a]).length
    rw [up1_ne (by decide), up1_ne (by decide), up1_same, w7, nI_1]; simp
  · show up1 (up1 (up1 (up1 (cn S) 2 (cn S 2 + 1)) 1 (cn S 1 + 1)) 0 (cn S 0 + nI (clN k (n1 + n2)))) 6 (j_mx (cn S 6) (cn S 0 + nI (clN k (n1 + n2)))) 7 = _
    rw [up1_ne (by decide), up1_ne (by decide), up1_ne (by decide), up1_ne (by decide)]; exact w8
  · have hc : up1 (rt S) i (some a) j = some c := hc
    unfold up1 at hc
    split at hc
    · cases hc; exact List.mem_append_right _ (List.mem_singleton.mpr rfl)
    · exact hmem c (w11 j hj c hc)
end MAKE
