/-! The model's new objects. -/
section MNEW
variable {g : Gh} {h : Hp} {A : Nat → Nat} {S : St} {Q : Option AV ⊕ String → Hp → Prop}
theorem enc_up {a o : Nat} {fl : List Nat} {at' rk' : Nat → Nat} {n t r : Nat} {x : Option Nat} (ha : a ∉ ob S) (hx : ∀ y, x = some y → y ∈ ob S) : enc (up1 (num g) a o, fl, at', rk', n, t, r) x = enc g x := by
  cases x with
  | none => rfl
  | some y => show nI (up1 (num g) a o y) = nI (num g y); rw [up1_ne (fun e => ha (by rw [← e]; exact hx y rfl))]
theorem mk_fin {o i n1 n2 a r : Nat} {k : Int32} {o1 o2 o3 : Option Nat} (hK : MK g h A S o k n1 n2) (hW : WF S) (ha : a ∉ ob S) (hN : NSh S k n1 n2 o1 o2 o3) {h' : Hp} (hF' : MF h' A)
    (e : ∀ k', 42 ≤ k' → k' ≤ 52 → ∀ x, x ≠ o → aI h' (A k') x = aI h (A k') x) (eo : ∀ k', (k' = 42 ∨ k' = 43 ∨ k' = 44 ∨ k' = 45 ∨ k' = 46 ∨ k' = 52) → aI h' (A k') o = aI h (A k') o)
    (e61 : ∀ x, aI h' (A 61) x = if x = i then nI o else aI h (A 61) x) (e62 : aI h' (A 62) = aI h (A 62)) (eL : aL h' (A 56) = aL h (A 56)) (eF : ∀ k', k' ≠ 73 → fI h' k' (A 40) = fI h k' (A 40)) (eK : fI h' 73 (A 40) = nI r)
    (hl : ls k → aI h' (A 48) o = enc g o1 ∧ aI h' (A 49) o = enc g o2 ∧ aI h' (A 50) o = enc g o3 ∧ aI h' (A 51) o = nI (rK g) ∧ r = rK g + 1) (hl' : ¬ ls k → r = rK g) (h3 : k = 3 → aI h' (A 48) o = 0 ∧ aI h' (A 49) o = 0 ∧ aI h' (A 51) o = 0) :
    MJ (up1 (num g) a o, fl_ g, up1 (at_ g) a (tp g), up1 (rk g) a (rK g), nb g, tp g + (n1 + n2), r) h' A (mkS S a i k n1 n2 o1 o2 o3) := by
  obtain ⟨H, ⟨a1, a2, a3, a4, a5, a6, a7, a8, a9, a10, a11, a12, a13, a14, a15, a16⟩, ⟨b42, b43, b44, b45, b46, b48, b49, b50, b52⟩, bL, htp⟩ := hK
  have oa := H.oa hW e (fun x _ => by rw [eL])
  obtain ⟨m1, m2, ⟨n_1, n_2, n_3, n_4, ⟨n_5, n_5'⟩, n_6, n_7, n_8, n_9, n_10, n_11, n_12, n_13, n_14⟩, m4⟩ := H
  obtain ⟨s1, s2, s3, s4, s5, s6, s7⟩ := hN
  have hus := mk_us (S := S) (a := a) (i := i) (n1 := n1) (n2 := n2) (k := k) (o1 := o1) (o2 := o2) (o3 := o3) ha
  obtain ⟨w1, w2, w3, w4, w5, w6, w7, w8, w9, w10, w11⟩ := mk_new (S := S) (a := a) (i := i) (n1 := n1) (n2 := n2) (k := k) (o1 := o1) (o2 := o2) (o3 := o3)
  have old : ∀ x ∈ ob S, x ≠ a ∧ eqD S (mkS S a i k n1 n2 o1 o2 o3) x := fun x hx => ⟨fun z => ha (by rw [← z]; exact hx), mk_old (fun z => ha (by rw [← z]; exact hx))⟩
  have hob : ∀ x, x ∈ ob (mkS S a i k n1 n2 o1 o2 o3) → x ∈ ob S ∨ x = a := fun x hx => by
    rcases List.mem_append.mp hx with z | z
    · exact Or.inl z
    · exact Or.inr (List.mem_singleton.mp z)
  have cnu : ∀ j, j ≠ 2 → j ≠ 1 → j ≠ 0 → j ≠ 6 → cn (mkS S a i k n1 n2 o1 o2 o3) j = cn S j := fun j q1 q2 q3 q4 => by
    show up1 (up1 (up1 (up1 (cn S) 2 (cn S 2 + 1)) 1 (cn S 1 + 1)) 0 (cn S 0 + nI (clN k (n1 + n2)))) 6 (j_mx (cn S 6) (cn S 0 + nI (clN k (n1 + n2)))) j = _
    rw [up1_ne q4, up1_ne q3, up1_ne q2, up1_ne q1]
  have c2 : cn (mkS S a i k n1 n2 o1 o2 o3) 2 = cn S 2 + 1 := by
    show up1 (up1 (up1 (up1 (cn S) 2 (cn S 2 + 1)) 1 (cn S 1 + 1)) 0 (cn S 0 + nI (clN k (n1 + n2)))) 6 (j_mx (cn S 6) (cn S 0 + nI (clN k (n1 + n2)))) 2 = _
    rw [up1_ne (by decide), up1_ne (by decide), up1_ne (by decide), up1_same]
  have c6 : cn (mkS S a i k n1 n2 o1 o2 o3) 6 = j_mx (cn S 6) (nI (us S + clN k (n1 + n2))) := by
    show up1 (up1 (up1 (up1 (cn S) 2 (cn S 2 + 1)) 1 (cn S 1 + 1)) 0 (cn S 0 + nI (clN k (n1 + n2)))) 6 (j_mx (cn S 6) (cn S 0 + nI (clN k (n1 + n2)))) 6 = _
    rw [up1_same, hW.2.2.2.2.2.1, nI_add]
  have una : ∀ x ∈ ob S, up1 (num g) a o x = num g x := fun x hx => up1_ne (old x hx).1
  have uaa : ∀ x ∈ ob S, up1 (at_ g) a (tp g) x = at_ g x := fun x hx => up1_ne (old x hx).1
  have uka : ∀ x ∈ ob S, up1 (rk g) a (rK g) x = rk g x := fun x hx => up1_ne (old x hx).1
  refine ⟨hF', ⟨by rw [eF 41 (by decide)]; exact a1, by rw [eF 57 (by decide)]; exact a2, by rw [eF 58 (by decide), hus]; exact a3, by rw [eF 59 (by decide)]; exact a4, by rw [eF 60 (by decide)]; exact a5, by rw [eF 63 (by decide)]; exact a6, by rw [eF 64 (by decide)]; exact a7, ?_, by rw [eF 66 (by decide), c2]; exact a9, by rw [eF 67 (by decide), cnu 3 (by decide) (by decide) (by decide) (by decide)]; exact a10, by rw [eF 68 (by decide), cnu 4 (by decide) (by decide) (by decide) (by decide)]; exact a11, by rw [eF 69 (by decide), cnu 5 (by decide) (by decide) (by decide) (by decide)]; exact a12, by rw [eF 70 (by decide), c6]; exact a13, by rw [eF 71 (by decide), cnu 8 (by decide) (by decide) (by decide) (by decide)]; exact a14, by rw [eF 72 (by decide), cnu 9 (by decide) (by decide) (by decide) (by decide)]; exact a15, eK⟩, ⟨fun j hj => ?_, scM.congr (h := h) e62 m2.2⟩, ⟨fun x hx => ?_, fun x hx y hy hxy => ?_, (by show 1 ≤ nb g; omega), n_3, n_4, ⟨fun x hx => ?_, fun x hx1 hx2 => ?_⟩, mch_congr n_6 (fun x hx => e 47 (by decide) (by decide) x (n_5 x hx).2.2.1), fun x hx1 hx2 => ?_, htp, fun x hx => ?_, fun x hx y hy hxy sx sy => ?_, ?_, fun x hx kl => ?_⟩, fun x hx => ?_⟩
  · rw [eF 65 (by decide)]; show _ = nI (ob S ++ [a]).length; rw [a8]; simp
  · rw [e61]
    show _ = enc _ (up1 (rt S) i (some a) j)
    by_cases q : j = i
    · subst q; rw [if_pos rfl, up1_same]
      show nI o = nI (up1 (num g) a o a); rw [up1_same]
    · rw [if_neg q, up1_ne q, enc_up ha (fun y hy => hW.2.2.2.2.2.2.2.2.2.2 j hj y hy)]; exact m2.1 j hj
  · show 1 ≤ up1 (num g) a o x ∧ up1 (num g) a o x < nb g
    rcases hob x hx with z | z
    · rw [una x z]; exact ⟨(n_1 x z).1, (n_1 x z).2.1⟩
    · rw [z, up1_same]; exact ⟨n_13, n_14⟩
  · have hxy : up1 (num g) a o x = up1 (num g) a o y := hxy
    rcases hob x hx with z | z
    · rcases hob y hy with w | w
      · rw [una x z, una y w] at hxy; exact n_2 x z y w hxy
      · rw [una x z, w, up1_same] at hxy; exact absurd hxy (n_1 x z).2.2
    · rcases hob y hy with w | w
      · rw [una y w, z, up1_same] at hxy; exact absurd hxy.symm (n_1 y w).2.2
      · rw [z, w]
  · obtain ⟨z1, z2, z3, z4⟩ := n_5 x hx
    exact ⟨z1, z2, by rw [e 42 (by decide) (by decide) x z3]; exact z4⟩
  · have hx1 : nb g ≤ x := hx1
    rw [e 42 (by decide) (by decide) x (by omega)]; exact n_5' x hx1 hx2
  · rcases n_7 x hx1 hx2 with z | z | ⟨y, hy, z⟩
    · exact Or.inl z
    · exact Or.inr ⟨a, List.mem_append_right _ (List.mem_singleton.mpr rfl), by show up1 (num g) a o a = x; rw [up1_same]; exact z.symm⟩
    · exact Or.inr ⟨y, List.mem_append_left _ hy, by show up1 (num g) a o y = x; rw [una y hy]; exact z⟩
  · show up1 (at_ g) a (tp g) x + (tg _ x + ln _ x) ≤ tp g + (n1 + n2)
    rcases hob x hx with z | z
    · rw [uaa x z, (old x z).2.2.2.1, (old x z).2.2.2.2.1]
      have := n_9 x z
      show at_ g x + (nr S x + nn S x) ≤ _
      omega
    · rw [z, up1_same]
      show tp g + (nr (mkS S a i k n1 n2 o1 o2 o3) a + nn (mkS S a i k n1 n2 o1 o2 o3) a) ≤ _
      rw [w7, w8]; omega
  · have sx : 0 < tg (mkS S a i k n1 n2 o1 o2 o3).1 x + ln (mkS S a i k n1 n2 o1 o2 o3).1 x := sx
    have sy : 0 < tg (mkS S a i k n1 n2 o1 o2 o3).1 y + ln (mkS S a i k n1 n2 o1 o2 o3).1 y := sy
    show up1 (at_ g) a (tp g) x + (tg _ x + ln _ x) ≤ up1 (at_ g) a (tp g) y ∨ up1 (at_ g) a (tp g) y + (tg _ y + ln _ y) ≤ up1 (at_ g) a (tp g) x
    rcases hob x hx with z | z
    · rcases hob y hy with w | w
      · rw [uaa x z, uaa y w, (old x z).2.2.2.1, (old x z).2.2.2.2.1, (old y w).2.2.2.1, (old y w).2.2.2.2.1]
        rw [(old x z).2.2.2.1, (old x z).2.2.2.2.1] at sx
        rw [(old y w).2.2.2.1, (old y w).2.2.2.2.1] at sy
        exact n_10 x z y w hxy sx sy
      · rw [uaa x z, w, up1_same, (old x z).2.2.2.1, (old x z).2.2.2.2.1]
        exact Or.inl (n_9 x z)
    · rcases hob y hy with w | w
      · rw [uaa y w, z, up1_same, (old y w).2.2.2.1, (old y w).2.2.2.2.1]
        exact Or.inr (n_9 y w)
      · exact absurd (z.trans w.symm) hxy
  · show (ob S ++ [a]).Pairwise _
    rw [List.pairwise_append]
    refine ⟨List.Pairwise.imp_of_mem (fun {x y} hx hy hxy => ?_) n_11, List.pairwise_singleton _ _, fun x hx y hy => ?_⟩
    · show ls (fI (mkS S a i k n1 n2 o1 o2 o3).1 0 x) → ls (fI (mkS S a i k n1 n2 o1 o2 o3).1 0 y) → up1 (rk g) a (rK g) x < up1 (rk g) a (rK g) y
      rw [uka x hx, uka y hy, (old x hx).2.1, (old y hy).2.1]; exact hxy
    · rw [List.mem_singleton.mp hy]
      show ls (fI (mkS S a i k n1 n2 o1 o2 o3).1 0 x) → _ → up1 (rk g) a (rK g) x < up1 (rk g) a (rK g) a
      rw [uka x hx, up1_same, (old x hx).2.1]; exact fun q _ => n_12 x hx q
  · show up1 (rk g) a (rK g) x < r
    rcases hob x hx with z | z
    · have kl : ls (fI (mkS S a i k n1 n2 o1 o2 o3).1 0 x) := kl
      rw [(old x z).2.1] at kl
      rw [uka x z]
      have := n_12 x z kl
      by_cases q : ls k
      · have := (hl q).2.2.2.2; omega
      · have := hl' q; omega
    · have kl : ls (kd (mkS S a i k n1 n2 o1 o2 o3) x) := kl
      rw [z, w1] at kl
      rw [z, up1_same]
      have := (hl kl).2.2.2.2; omega
  · rcases hob x hx with z | z
    · obtain ⟨d1, d2, d3, d4⟩ := oa x z
      have ex := (old x z).2
      have wx := hW.2.1 x z
      have k0 : kd (mkS S a i k n1 n2 o1 o2 o3) x = kd S x := ex.1 0
      refine ⟨?_, fun kl => ?_, fun kq => ?_, ?_⟩
      · show aI h' (A 42) (up1 (num g) a o x) = _ ∧ aI h' (A 43) (up1 (num g) a o x) = nI (up1 (at_ g) a (tp g) x) ∧ aI h' (A 44) (up1 (num g) a o x) = nI (tg (mkS S a i k n1 n2 o1 o2 o3).1 x) ∧ aI h' (A 45) (up1 (num g) a o x) = nI (ln (mkS S a i k n1 n2 o1 o2 o3).1 x) ∧ aI h' (A 46) (up1 (num g) a o x) = fI (mkS S a i k n1 n2 o1 o2 o3).1 2 x
        rw [una x z, uaa x z, k0, ex.1 2, ex.2.2.1, ex.2.2.2.1]; exact d1
      · rw [k0] at kl
        obtain ⟨l1, l2, l3, l4, l5⟩ := d2 kl
        obtain ⟨v1, v2, v3, v4⟩ := wx.2.2.2.2.2.2.2.1 kl
        have r1 : re (mkS S a i k n1 n2 o1 o2 o3) x = re S x := ex.2.1 13
        have r2 : va (mkS S a i k n1 n2 o1 o2 o3) x = va S x := ex.2.1 14
        have r3 : li (mkS S a i k n1 n2 o1 o2 o3) x = li S x := ex.2.1 15
        have r4 : cm (mkS S a i k n1 n2 o1 o2 o3) x = cm S x := ex.1 16
        show aI h' (A 48) (up1 (num g) a o x) = _ ∧ aI h' (A 49) (up1 (num g) a o x) = _ ∧ (_ → aI h' (A 50) (up1 (num g) a o x) = _) ∧ aI h' (A 52) (up1 (num g) a o x) = _ ∧ aI h' (A 51) (up1 (num g) a o x) = nI (up1 (rk g) a (rK g) x)
        rw [una x z, uka x z, r1, r2, r3, r4]
        exact ⟨by rw [enc_up ha v1]; exact l1, by rw [enc_up ha (fun y hy => (v2 y hy).1)]; exact l2, fun q => by rw [enc_up ha (fun y hy => (v4 q y hy).1)]; exact l3 q, l4, l5⟩
      · rw [k0] at kq
        obtain ⟨l1, l2, l3, l4⟩ := d3 kq
        obtain ⟨v1, v2, v3⟩ := wx.2.2.2.2.2.2.2.2 kq
        have r1 : qu (mkS S a i k n1 n2 o1 o2 o3) x = qu S x := ex.2.2.2.2.2.2
        unfold MOq
        rw [r1]
        show aI h' (A 48) (up1 (num g) a o x) = _ ∧ aI h' (A 49) (up1 (num g) a o x) = _ ∧ aI h' (A 51) (up1 (num g) a o x) = _ ∧ mch (aI h' (A 47)) ((qu S x).map (up1 (num g) a o))
        have hm : (qu S x).map (up1 (num g) a o) = (qu S x).map (num g) := List.map_congr_left (fun y hy => una y (v2 y hy).1)
        rw [una x z, hm]
        exact ⟨by rw [enc_up ha (fun y hy => (v2 y (List.mem_of_mem_head? hy)).1)]; exact l1, by rw [enc_up ha (fun y hy => (v2 y (List.mem_of_getLast? hy)).1)]; exact l2, l3, l4⟩
      · obtain ⟨l1, l2⟩ := d4
        refine ⟨fun j hj => ?_, fun j hj => ?_⟩
        · have hj : j < tg (mkS S a i k n1 n2 o1 o2 o3).1 x := hj
          rw [ex.2.2.1] at hj
          show aL h' (A 56) (up1 (at_ g) a (tp g) x + j) = (enc _ (aR (mkS S a i k n1 n2 o1 o2 o3).1 x j)).toInt64
          rw [uaa x z, ex.2.2.2.2.1, enc_up ha (fun y hy => wx.2.2.2.2.2.2.1 j hj y hy)]; exact l1 j hj
        · have hj : j < ln (mkS S a i k n1 n2 o1 o2 o3).1 x := hj
          rw [ex.2.2.2.1] at hj
          show aL h' (A 56) (up1 (at_ g) a (tp g) x + tg (mkS S a i k n1 n2 o1 o2 o3).1 x + j) = aL (mkS S a i k n1 n2 o1 o2 o3).1 x j
          rw [uaa x z, ex.2.2.1, ex.2.2.2.2.2.1]; exact l2 j hj
    · rw [z]
      have ua : up1 (num g) a o a = o := up1_same _ _ _
      have ut : up1 (at_ g) a (tp g) a = tp g := up1_same _ _ _
      have uk : up1 (rk g) a (rK g) a = rK g := up1_same _ _ _
      refine ⟨?_, fun kl => ?_, fun kq => ?_, fun j hj => ?_, fun j hj => ?_⟩
      · show aI h' (A 42) (up1 (num g) a o a) = _ ∧ aI h' (A 43) (up1 (num g) a o a) = nI (up1 (at_ g) a (tp g) a) ∧ aI h' (A 44) (up1 (num g) a o a) = _ ∧ aI h' (A 45) (up1 (num g) a o a) = _ ∧ aI h' (A 46) (up1 (num g) a o a) = _
        rw [ua, ut, w1, w2, w7, w8, eo 42 (by omega), eo 43 (by omega), eo 44 (by omega), eo 45 (by omega), eo 46 (by omega)]
        exact ⟨b42, b43, b44, b45, b46⟩
      · rw [w1] at kl
        obtain ⟨l1, l2, l3, l4, l5⟩ := hl kl
        obtain ⟨v1, v2, v3⟩ := s7 kl
        show aI h' (A 48) (up1 (num g) a o a) = _ ∧ aI h' (A 49) (up1 (num g) a o a) = _ ∧ (_ → aI h' (A 50) (up1 (num g) a o a) = _) ∧ aI h' (A 52) (up1 (num g) a o a) = _ ∧ aI h' (A 51) (up1 (num g) a o a) = nI (up1 (rk g) a (rK g) a)
        rw [ua, uk, w3, w4, w5, w6, eo 52 (by omega)]
        exact ⟨by rw [enc_up ha v1]; exact l1, by rw [enc_up ha (fun y hy => (v2 y hy).1)]; exact l2, fun _ => by rw [enc_up ha (fun y hy => (v3 y hy).1)]; exact l3, b52, l4⟩
      · rw [w1] at kq
        obtain ⟨l1, l2, l3⟩ := h3 kq
        unfold MOq
        rw [w11]
        show aI h' (A 48) (up1 (num g) a o a) = 0 ∧ aI h' (A 49) (up1 (num g) a o a) = 0 ∧ aI h' (A 51) (up1 (num g) a o a) = nI 0 ∧ True
        rw [ua, nI_0]; exact ⟨l1, l2, l3, trivial⟩
      · have hj : j < nr (mkS S a i k n1 n2 o1 o2 o3) a := hj
        rw [w7] at hj
        show aL h' (A 56) (up1 (at_ g) a (tp g) a + j) = (enc _ (rf (mkS S a i k n1 n2 o1 o2 o3) a j)).toInt64
        rw [ut, w9, eL, bL j (by omega)]; rfl
      · have hj : j < nn (mkS S a i k n1 n2 o1 o2 o3) a := hj
        rw [w8] at hj
        show aL h' (A 56) (up1 (at_ g) a (tp g) a + nr (mkS S a i k n1 n2 o1 o2 o3) a + j) = nv (mkS S a i k n1 n2 o1 o2 o3) a j
        rw [ut, w7, w10, eL, Nat.add_assoc, bL _ (by omega)]
end MNEW
