/-! Keeping a new object. -/
section KEEP
variable {b : Nat} {h : Hp} {A : Nat → Nat} {S : St} {Q : Option AV ⊕ String → Hp → Prop}
theorem CI.setRoot2 {B : Nat × List Nat} (hC : CI B h A S) {i : Nat} (hi : i < nt S) (o : Option Nat) : CI B (qR h (A 29) i o) A (wR S i o) := by
  obtain ⟨c1, c2, c3, c4, c5⟩ := hC
  refine ⟨c1, ⟨fun j hj => ?_, c2.2.1, scA.congr (h := h) (h' := qR h (A 29) i o) rfl c2.2.2.1, c2.2.2.2⟩, ⟨fun x hx => ?_, c3.2⟩, c4, c5⟩
  · rw [aR_qR]
    show _ = if j < nt S then up1 (rt S) i o j else none
    unfold up1
    by_cases e : j = i
    · subst e; simp [hi]
    · simp [e]; exact c2.1 j hj
  · exact COa.congr (S := S) (c3.1 x hx) (eqT.of rfl rfl) (fun _ _ => rfl) (fun _ _ => rfl) (fun _ _ => rfl) (fun k r hr => aRx _ _ _ _ _ (fun e => by
      obtain ⟨-, r', n, d1, d2, d3, d4, -⟩ := (c3.1 x hx).2.2.2.1 k
      rw [hr] at d1; cases d1; exact d4 e)) (fun _ _ _ => rfl)
theorem CI.set37 {B : Nat × List Nat} (hC : CI B h A S) {k : Nat} (hk : k = 36 ∨ k = 37) (x : Int32) : CI B (pI h k (A 0) x) A S := by
  obtain ⟨c1, c2, c3, c4, c5⟩ := hC
  have e : ∀ k', k' < 36 → fI (pI h k (A 0) x) k' = fI h k' := fun k' q => fIx _ _ _ _ _ (by omega)
  refine ⟨c1, c2.congr rfl (by rw [e _ (by decide)]) (by rw [e _ (by decide)]) rfl rfl, ⟨fun a ha => (c3.1 a ha).congr (eqT.of rfl rfl) (fun k' hk' => by rw [e _ (by simp at hk'; omega)]) (fun _ _ => rfl) (fun _ _ => rfl) (fun _ _ _ => rfl) (fun _ _ _ => rfl), c3.2⟩, c4.congr (fun c _ => ⟨rfl, rfl, by rw [e _ (by decide)], by rw [e _ (by decide)]⟩) (fun _ _ => rfl), c5.congr (by rw [e _ (by decide)]) (fun a _ => ⟨rfl, by rw [e _ (by decide)]⟩)⟩
/-- the young chain takes the new object -/
theorem CI.added {h' : Hp} {S' : St} {a : Nat} {lo ly : List Nat} (hC : CI (b, ob S) h A S) (hW : WF S) (e : ∀ x ∈ ob S, eqD S S' x) (eo : ob S' = ob S ++ [a]) (er : rt S' = rt S) (en : nt S' = nt S) (es : sc S' = sc S) (ec : cn S' = cn S) (em : rm S' = rm S)
    (hl : lo ++ ly = ob S) (ch : chn h (A 33) lo S) (cy : chn h' (A 32) (ly ++ [a]) S') (hF : AF (A 32) (ly ++ [a]) h h') (ha : a ∉ ob S) (hCa : COa h A S' a) (hj : hd (kd S' a) → ∀ x ∈ ob S, hd (kd S x) → fR h 8 a ≠ fR h 8 x ∧ fR h 9 a ≠ fR h 9 x) (h7 : fR h 7 a = none) (h4 : fI h 4 a = nI 0) (hq : qu S' a = []) : CI (b, ob S') h' A S' := by
  obtain ⟨t1, t2, t3, t4, t5, tI, tR, t6⟩ := hF
  obtain ⟨c1, c2, c3, c4, c5⟩ := hC
  have m1 := c1.2.2.2.1
  have hI : ∀ k x, k ≠ 21 → k ≠ 22 → fI h' k x = fI h k x := fun k x q1 q2 => tI k x (Or.inl ⟨q1, q2⟩)
  have hR : ∀ k x, k ≠ 3 → k ≠ 19 → k ≠ 20 → fR h' k x = fR h k x := fun k x q1 q2 q3 => tR k x q1 (Or.inl ⟨q2, q3⟩)
  have hnd : (lo ++ ly).Nodup := by rw [hl]; exact hW.1
  refine ⟨c1.congr (eqT.of t1 t2) (fun k _ _ => hR k _ (by omega) (by omega) (by omega)), ?_, ⟨fun x hx => ?_, fun x hx y hy kx ky hne => ?_⟩, ⟨lo, ly ++ [a], by rw [eo, ← hl, List.append_assoc], ?_, cy⟩, ?_⟩
  · have := c2.congr (h' := h') (by rw [t5]) (hI 35 _ (by decide) (by decide)) (hI 27 _ (by decide) (by decide)) (by rw [t3]) (by rw [t3])
    unfold CG; rw [er, en, es, ec, em]; exact this
  · have key : ∀ y, COa h A S' y → (∀ z ∈ qu S' y, True) → COa h' A S' y := fun y hy _ =>
      hy.congr (eqT.of t1 t2) (fun k hk => hI k _ (by simp at hk; omega) (by simp at hk; omega)) (fun k hk => hR k _ (by simp at hk; omega) (by simp at hk; omega) (by simp at hk; omega)) (fun z _ => hR 17 _ (by decide) (by decide) (by decide)) (fun _ _ _ => by rw [t5]) (fun _ _ _ => by rw [t4])
    rw [eo] at hx
    rcases List.mem_append.mp hx with z | z
    · exact key x ((c3.1 x z).data (e x z)) (fun _ _ => trivial)
    · rw [List.mem_singleton.mp z]; exact key a hCa (fun _ _ => trivial)
  · rw [hR 8 _ (by decide) (by decide) (by decide), hR 8 _ (by decide) (by decide) (by decide), hR 9 _ (by decide) (by decide) (by decide), hR 9 _ (by decide) (by decide) (by decide)]
    rw [eo] at hx hy
    have k0 : ∀ z ∈ ob S, hd (kd S' z) → hd (kd S z) := fun z hz q => by have q : hd (fI S'.1 0 z) := q; rw [(e z hz).1] at q; exact q
    rcases List.mem_append.mp hx with zx | zx
    · rcases List.mem_append.mp hy with zy | zy
      · exact c3.2 x zx y zy (k0 x zx kx) (k0 y zy ky) hne
      · rw [List.mem_singleton.mp zy] at ky ⊢
        have := hj ky x zx (k0 x zx kx)
        exact ⟨fun q => this.1 q.symm, fun q => this.2 q.symm⟩
    · rw [List.mem_singleton.mp zx] at kx hne ⊢
      rcases List.mem_append.mp hy with zy | zy
      · exact hj kx y zy (k0 y zy ky)
      · exact absurd (List.mem_singleton.mp zy).symm hne
  · have hm : A 33 ≠ A 32 := Ne.symm m1
    refine ⟨by rw [tR 19 _ (by decide) (Or.inr hm)]; exact ch.1, by rw [tR 20 _ (by decide) (Or.inr hm)]; exact ch.2.1, by rw [tI 21 _ (Or.inr hm)]; exact ch.2.2.1, ?_, lnk_congr ch.2.2.2.2 (fun x hx => t6 x (fun q => ?_))⟩
    · rw [tI 22 _ (Or.inr hm), map_cl (S := S) (fun x hx => (e x (by rw [← hl]; exact List.mem_append_left _ hx)).cl)]; exact ch.2.2.2.1
    · rcases List.mem_append.mp q with z | z
      · exact (List.nodup_append.mp hnd).2.2 x hx x z rfl
      · exact ha (by rw [← hl, ← List.mem_singleton.mp z]; exact List.mem_append_left _ hx)
  · obtain ⟨n, hn, e26, hi⟩ := c5
    refine ⟨n, hn, by rw [hI 26 _ (by decide) (by decide)]; exact e26, fun x hx => ?_⟩
    have hx : x ∈ ob S' := hx
    rw [eo] at hx
    rw [hR 7 _ (by decide) (by decide) (by decide), hI 4 _ (by decide) (by decide)]
    rcases List.mem_append.mp hx with z | z
    · exact hi x z
    · rw [List.mem_singleton.mp z]; exact ⟨h7, 0, Nat.zero_le _, h4⟩
theorem c_keep {a i n1 n2 : Nat} {k : Int32} {o1 o2 o3 : Option Nat} (hC : CI (b, ob S) h A S) (hW : WF S) (hW' : WF (mkS S a i k n1 n2 o1 o2 o3)) (ha : a ∉ ob S) (hi : i < nt S) (hth : thg h a) (hCa : COa h A (mkS S a i k n1 n2 o1 o2 o3) a)
    (hj : hd k → ∀ x ∈ ob S, hd (kd S x) → fR h 8 a ≠ fR h 8 x ∧ fR h 9 a ≠ fR h 9 x) (h7 : fR h 7 a = none) (h4 : fI h 4 a = nI 0) (h1 : ∀ h', CI (b, ob (mkS S a i k n1 n2 o1 o2 o3)) h' A (mkS S a i k n1 n2 o1 o2 o3) → FC A h h' → Q (.inl (some (vi (nI (clN k (n1 + n2)))))) h') : vc_X6_keep (A 0) (nI i) (some a) h Q := by
  obtain ⟨⟨f1, f2, f3, f4, f5, f6, f7⟩, ⟨g1, g2, g3, g4, g5, g6⟩, ⟨l1, l2, l3⟩, m1, m2, m3⟩ := hC.1
  have hn := hW.nt
  have v2 : vp_in (2 : Int32) (ln h (A 31)) := by rw [l3]; unfold vp_in; decide
  have v1 : vp_in (1 : Int32) (ln h (A 31)) := by rw [l3]; unfold vp_in; decide
  have v0 : vp_in (0 : Int32) (ln h (A 31)) := by rw [l3]; unfold vp_in; decide
  have v6 : vp_in (6 : Int32) (ln h (A 31)) := by rw [l3]; unfold vp_in; decide
  obtain ⟨e1, e2, e3, e4, e5, e6, e7, e8, e9, e10, e11⟩ := mk_new (S := S) (a := a) (i := i) (n1 := n1) (n2 := n2) (k := k) (o1 := o1) (o2 := o2) (o3 := o3)
  have hold : ∀ x ∈ ob S, eqD S (mkS S a i k n1 n2 o1 o2 o3) x := fun x hx => mk_old (fun e => ha (by rw [← e]; exact hx))
  have hcl : fI h 1 a = nI (clN k (n1 + n2)) := by rw [hCa.2.1, mk_cl]
  intro P97 q97
  refine ⟨f1, A 31, f4, g3, v2, v2, v1, v1, v0, a, rfl, hth, v0, v6, v0, v6, A 29, f2, g1, by rw [l1]; exact vin (by omega) (by decide), fun x hx => (by cases hx; exact hth), A 32, f5, g4, ?_⟩
  rw [nI_clamp (by omega), hcl]
  simp only [aI_qI, hC.2.1.2.2.2.1 0 (by decide), hC.2.1.2.2.2.1 1 (by decide), hC.2.1.2.2.2.1 2 (by decide), hC.2.1.2.2.2.1 6 (by decide)]
  simp only [true_and, and_self, and_true, and_false, if_true, if_false, Nat.reduceEqDiff, reduceIte]
  -- the state but for the chain
  have hC1 : CI (b, ob S) h A ((mkS S a i k n1 n2 o1 o2 o3).1, ob S, qu (mkS S a i k n1 n2 o1 o2 o3), rt S, nt S, sc S, cn S, rm S) := hC.data (fun x hx => hold x hx) rfl rfl rfl rfl rfl rfl
  have hC2 := ((((hC1.setC (k := 2) (cn S 2 + 1)).setC (k := 1) (cn S 1 + 1)).setC (k := 0) (cn S 0 + nI (clN k (n1 + n2)))).setC (k := 6) (j_mx (cn S 6) (cn S 0 + nI (clN k (n1 + n2))))).setRoot2 (i := i) hi (some a)
  have F2 : FC A h (qR (qI (qI (qI (qI h (A 31) 2 (cn S 2 + 1)) (A 31) 1 (cn S 1 + 1)) (A 31) 0 (cn S 0 + nI (clN k (n1 + n2)))) (A 31) 6 (j_mx (cn S 6) (cn S 0 + nI (clN k (n1 + n2))))) (A 29) i (some a)) :=
    FC.qR (FC.qI (fun k hk => (m3 k hk).2.2) (FC.qI (fun k hk => (m3 k hk).2.2) (FC.qI (fun k hk => (m3 k hk).2.2) (FC.qI (fun k hk => (m3 k hk).2.2) FC.rfl'))))
  have hCa2 : COa (qR (qI (qI (qI (qI h (A 31) 2 (cn S 2 + 1)) (A 31) 1 (cn S 1 + 1)) (A 31) 0 (cn S 0 + nI (clN k (n1 + n2)))) (A 31) 6 (j_mx (cn S 6) (cn S 0 + nI (clN k (n1 + n2))))) (A 29) i (some a)) A (mkS S a i k n1 n2 o1 o2 o3) a :=
    hCa.congr (eqT.of rfl rfl) (fun _ _ => rfl) (fun _ _ => rfl) (fun _ _ => rfl) (fun kk r hr => aRx _ _ _ _ _ (fun e => by
      obtain ⟨-, r', n, d1, d2, d3, d4, -⟩ := hCa.2.2.2.1 kk
      rw [hr] at d1; cases d1; exact d4 e)) (fun _ _ _ => rfl)
  have hth2 : ∀ x, thg h x → thg (qR (qI (qI (qI (qI h (A 31) 2 (cn S 2 + 1)) (A 31) 1 (cn S 1 + 1)) (A 31) 0 (cn S 0 + nI (clN k (n1 + n2)))) (A 31) 6 (j_mx (cn S 6) (cn S 0 + nI (clN k (n1 + n2))))) (A 29) i (some a)) x := fun _ q => q
  have hcl2 : fI (qR (qI (qI (qI (qI h (A 31) 2 (cn S 2 + 1)) (A 31) 1 (cn S 1 + 1)) (A 31) 0 (cn S 0 + nI (clN k (n1 + n2)))) (A 31) 6 (j_mx (cn S 6) (cn S 0 + nI (clN k (n1 + n2))))) (A 29) i (some a)) 1 a = nI (cl (mkS S a i k n1 n2 o1 o2 o3) a) := hCa.2.1
  have h72 : fR (qR (qI (qI (qI (qI h (A 31) 2 (cn S 2 + 1)) (A 31) 1 (cn S 1 + 1)) (A 31) 0 (cn S 0 + nI (clN k (n1 + n2)))) (A 31) 6 (j_mx (cn S 6) (cn S 0 + nI (clN k (n1 + n2))))) (A 29) i (some a)) = fR h := rfl
  have h42 : fI (qR (qI (qI (qI (qI h (A 31) 2 (cn S 2 + 1)) (A 31) 1 (cn S 1 + 1)) (A 31) 0 (cn S 0 + nI (clN k (n1 + n2)))) (A 31) 6 (j_mx (cn S 6) (cn S 0 + nI (clN k (n1 + n2))))) (A 29) i (some a)) = fI h := rfl
  have hC2' : CI (b, ob S) (qR (qI (qI (qI (qI h (A 31) 2 (cn S 2 + 1)) (A 31) 1 (cn S 1 + 1)) (A 31) 0 (cn S 0 + nI (clN k (n1 + n2)))) (A 31) 6 (j_mx (cn S 6) (cn S 0 + nI (clN k (n1 + n2))))) (A 29) i (some a)) A (wO (mkS S a i k n1 n2 o1 o2 o3) (ob S)) := hC2
  clear hC2 hC1
  generalize qR (qI (qI (qI (qI h (A 31) 2 (cn S 2 + 1)) (A 31) 1 (cn S 1 + 1)) (A 31) 0 (cn S 0 + nI (clN k (n1 + n2)))) (A 31) 6 (j_mx (cn S 6) (cn S 0 + nI (clN k (n1 + n2))))) (A 29) i (some a) = H2 at *
  have c4' := hC2'.2.2.2.1
  obtain ⟨lo, ly, hl, ch, cy⟩ := c4'
  have hl : lo ++ ly = ob S := hl
  have hnd : (lo ++ ly).Nodup := by rw [hl]; exact hW.1
  have W2 : WF (wO (mkS S a i k n1 n2 o1 o2 o3) (ob S)) ∨ True := Or.inr trivial
  refine c_add (S := mkS S a i k n1 n2 o1 o2 o3) (l := ly) hC2'.1.2.1.2.2.2.1 cy (List.nodup_append.mp hnd).2.1 (fun q => ha (by rw [← hl]; exact List.mem_append_right _ q)) (fun x hx => hth2 x (hC.thg hW (by rw [← hl]; exact List.mem_append_right _ hx))) (hth2 a hth) hcl2 (fun h3 cy3 F3 => ?_)
  have hC3 : CI (b, ob (mkS S a i k n1 n2 o1 o2 o3)) h3 A (mkS S a i k n1 n2 o1 o2 o3) := by
    have hWx : (ob S).Nodup := hW.1
    obtain ⟨t1, t2, t3, t4, t5, tI, tR, t6⟩ := id F3
    have hI : ∀ k x, k ≠ 21 → k ≠ 22 → fI h3 k x = fI H2 k x := fun k x q1 q2 => tI k x (Or.inl ⟨q1, q2⟩)
    have hR : ∀ k x, k ≠ 3 → k ≠ 19 → k ≠ 20 → fR h3 k x = fR H2 k x := fun k x q1 q2 q3 => tR k x q1 (Or.inl ⟨q2, q3⟩)
    obtain ⟨c1, c2, c3, -, c5⟩ := hC2'
    refine ⟨c1.congr (eqT.of t1 t2) (fun k _ _ => hR k _ (by omega) (by omega) (by omega)), c2.congr (h' := h3) (by rw [t5]) (hI 35 _ (by decide) (by decide)) (hI 27 _ (by decide) (by decide)) (by rw [t3]) (by rw [t3]), ⟨fun x hx => ?_, fun x hx y hy kx ky hne => ?_⟩, ⟨lo, ly ++ [a], by rw [← List.append_assoc, hl]; rfl, ?_, cy3⟩, ?_⟩
    · have key : ∀ y, COa H2 A (mkS S a i k n1 n2 o1 o2 o3) y → COa h3 A (mkS S a i k n1 n2 o1 o2 o3) y := fun y hy =>
        hy.congr (eqT.of t1 t2) (fun k hk => hI k _ (by simp at hk; omega) (by simp at hk; omega)) (fun k hk => hR k _ (by simp at hk; omega) (by simp at hk; omega) (by simp at hk; omega)) (fun z _ => hR 17 _ (by decide) (by decide) (by decide)) (fun _ _ _ => by rw [t5]) (fun _ _ _ => by rw [t4])
      rcases List.mem_append.mp hx with z | z
      · exact key x (c3.1 x z)
      · rw [List.mem_singleton.mp z]; exact key a hCa2
    · rw [hR 8 _ (by decide) (by decide) (by decide), hR 8 _ (by decide) (by decide) (by decide), hR 9 _ (by decide) (by decide) (by decide), hR 9 _ (by decide) (by decide) (by decide)]
      have k0 : ∀ z ∈ ob S, hd (kd (mkS S a i k n1 n2 o1 o2 o3) z) → hd (kd S z) := fun z hz q => by have q : hd (fI (mkS S a i k n1 n2 o1 o2 o3).1 0 z) := q; rw [(hold z hz).1] at q; exact q
      rcases List.mem_append.mp hx with zx | zx
      · rcases List.mem_append.mp hy with zy | zy
        · exact c3.2 x zx y zy kx ky hne
        · rw [List.mem_singleton.mp zy] at ky ⊢
          rw [e1] at ky
          have := hj ky x zx (k0 x zx kx)
          rw [h72]
          exact ⟨fun q => this.1 q.symm, fun q => this.2 q.symm⟩
      · rw [List.mem_singleton.mp zx] at kx hne ⊢
        rw [e1] at kx
        rcases List.mem_append.mp hy with zy | zy
        · rw [h72]; exact hj kx y zy (k0 y zy ky)
        · exact absurd (List.mem_singleton.mp zy).symm hne
    · have hm : A 33 ≠ A 32 := Ne.symm m1
      refine ⟨by rw [tR 19 _ (by decide) (Or.inr hm)]; exact ch.1, by rw [tR 20 _ (by decide) (Or.inr hm)]; exact ch.2.1, by rw [tI 21 _ (Or.inr hm)]; exact ch.2.2.1, by rw [tI 22 _ (Or.inr hm)]; exact ch.2.2.2.1, lnk_congr ch.2.2.2.2 (fun x hx => t6 x (fun q => ?_))⟩
      rcases List.mem_append.mp q with z | z
      · exact (List.nodup_append.mp hnd).2.2 x hx x z rfl
      · exact ha (by rw [← hl, ← List.mem_singleton.mp z]; exact List.mem_append_left _ hx)
    · obtain ⟨n, hn, e26, hi⟩ := c5
      refine ⟨n, hn, by rw [hI 26 _ (by decide) (by decide)]; exact e26, fun x hx => ?_⟩
      rw [hR 7 _ (by decide) (by decide) (by decide), hI 4 _ (by decide) (by decide)]
      rcases List.mem_append.mp hx with z | z
      · exact hi x z
      · rw [List.mem_singleton.mp z, h72, h42]; exact ⟨h7, 0, Nat.zero_le _, h4⟩
  have F3' : FC A h h3 := F2.trans F3.FC
  have hth3 : ∀ h4, CI (b, ob (mkS S a i k n1 n2 o1 o2 o3)) h4 A (mkS S a i k n1 n2 o1 o2 o3) → FC A h h4 → P97 h4 := fun h4 C4 F4 => by
    have hm : a ∈ ob (mkS S a i k n1 n2 o1 o2 o3) := List.mem_append_right _ (List.mem_singleton.mpr rfl)
    refine q97 _ ⟨a, rfl, C4.thg hW' hm, ?_⟩
    rw [(C4.2.2.1.1 a hm).2.1, mk_cl]
    exact h1 h4 C4 F4
  refine ⟨hC3.1.1.1, ?_⟩
  have hC4 := hC3.set37 (k := 37) (Or.inr rfl) (fI h3 37 (A 0) + 1)
  have F4 : FC A h (pI h3 37 (A 0) (fI h3 37 (A 0) + 1)) := F3'.pI (by decide)
  generalize pI h3 37 (A 0) (fI h3 37 (A 0) + 1) = h4 at hC4 F4
  have no : (0 : Int32) = 0 := rfl
  have fin0 : ((0 : Int32) = 0 → P97 h4) ∧ (¬ (0 : Int32) = 0 → tg h4 (A 0) = 6 ∧ vc_X6_carryOver (A 0) h4 (qv (fun h30 => tg h30 (A 0) = 6 ∧ P97 (pI h30 37 (A 0) (0 : Int32))) qn)) := ⟨fun _ => hth3 h4 hC4 F4, fun z => absurd rfl z⟩
  have fin1 : ((1 : Int32) = 0 → P97 h4) ∧ (¬ (1 : Int32) = 0 → tg h4 (A 0) = 6 ∧ vc_X6_carryOver (A 0) h4 (qv (fun h30 => tg h30 (A 0) = 6 ∧ P97 (pI h30 37 (A 0) (0 : Int32))) qn)) := ⟨fun z => absurd z (by decide), fun _ => ⟨hC4.1.1.1, c_carry hC4 hW' (fun h5 C5 _ _ F5 => ⟨C5.1.1.1, hth3 _ (C5.set37 (k := 37) (Or.inr rfl) 0) ((F4.trans F5).pI (by decide))⟩)⟩⟩
  refine ⟨hC4.1.1.1, fun _ => ⟨fun _ => fin0, fun _ => fin1⟩, fun _ => ⟨A 32, hC4.1.1.2.2.2.2.1, hC4.1.2.1.2.2.2.1, fun _ => fin0, fun _ => fin1⟩⟩
end KEEP
