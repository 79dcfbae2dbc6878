/-! The model's making. -/
section MMAKE
variable {g : Gh} {h : Hp} {A : Nat → Nat} {S : St} {Q : Option AV ⊕ String → Hp → Prop}
/-- the numbers, where o is kept for a new object -/
def MNo (g : Gh) (h : Hp) (A : Nat → Nat) (S : St) (o : Nat) : Prop :=
  (∀ a ∈ ob S, 1 ≤ num g a ∧ num g a < nb g ∧ num g a ≠ o) ∧ (∀ a ∈ ob S, ∀ b ∈ ob S, num g a = num g b → a = b) ∧ nb g ≤ 15001 ∧ (fl_ g).Nodup ∧ ((∀ x ∈ fl_ g, 1 ≤ x ∧ x < nb g ∧ x ≠ o ∧ aI h (A 42) x = -1) ∧ ∀ x, nb g ≤ x → x < 15100 → aI h (A 42) x = -1) ∧ mch (aI h (A 47)) (fl_ g) ∧
  (∀ x, 1 ≤ x → x < nb g → x ∈ fl_ g ∨ x = o ∨ ∃ a ∈ ob S, num g a = x) ∧ tp g ≤ 31000 ∧ (∀ a ∈ ob S, at_ g a + (nr S a + nn S a) ≤ tp g) ∧ (∀ a ∈ ob S, ∀ b ∈ ob S, a ≠ b → 0 < nr S a + nn S a → 0 < nr S b + nn S b → at_ g a + (nr S a + nn S a) ≤ at_ g b ∨ at_ g b + (nr S b + nn S b) ≤ at_ g a) ∧
  (ob S).Pairwise (fun a b => ls (kd S a) → ls (kd S b) → rk g a < rk g b) ∧ (∀ a ∈ ob S, ls (kd S a) → rk g a < rK g) ∧ 1 ≤ o ∧ o < nb g
def MH (g : Gh) (h : Hp) (A : Nat → Nat) (S : St) (o : Nat) : Prop := MF h A ∧ MR g h A S ∧ MNo g h A S o ∧ ∀ a ∈ ob S, MOa g h A S a
theorem MH.oa {h' : Hp} {o : Nat} (hM : MH g h A S o) (hW : WF S) (e : ∀ k, 42 ≤ k → k ≤ 52 → ∀ x, x ≠ o → aI h' (A k) x = aI h (A k) x) (eL : ∀ x < tp g, aL h' (A 56) x = aL h (A 56) x) : ∀ a ∈ ob S, MOa g h' A S a := by
  obtain ⟨m1, m2, ⟨n1, n2, n3, n4, ⟨n5, n5'⟩, n6, n7, n8, n9, n10, n11, n12, n13, n14⟩, m4⟩ := hM
  intro a ha
  have na := (n1 a ha).2.2
  obtain ⟨d1, d2, d3, d4⟩ := m4 a ha
  refine ⟨?_, fun kl => ?_, fun kq => ?_, ?_⟩
  · unfold MOd at d1 ⊢
    rw [e 42 (by decide) (by decide) _ na, e 43 (by decide) (by decide) _ na, e 44 (by decide) (by decide) _ na, e 45 (by decide) (by decide) _ na, e 46 (by decide) (by decide) _ na]; exact d1
  · have := d2 kl
    unfold MOl at this ⊢
    rw [e 48 (by decide) (by decide) _ na, e 49 (by decide) (by decide) _ na, e 50 (by decide) (by decide) _ na, e 51 (by decide) (by decide) _ na, e 52 (by decide) (by decide) _ na]; exact this
  · obtain ⟨o1, o2, o3, o4⟩ := d3 kq
    refine ⟨by rw [e 48 (by decide) (by decide) _ na]; exact o1, by rw [e 49 (by decide) (by decide) _ na]; exact o2, by rw [e 51 (by decide) (by decide) _ na]; exact o3, mch_congr o4 (fun x hx => ?_)⟩
    obtain ⟨c, hc, ec⟩ := List.mem_map.mp hx
    have hco := (((hW.2.1 a ha).2.2.2.2.2.2.2.2 kq).2.1 c hc).1
    exact e 47 (by decide) (by decide) x (by rw [← ec]; exact (n1 c hco).2.2)
  · have := n9 a ha
    exact ⟨fun j hj => by rw [eL _ (by omega)]; exact d4.1 j hj, fun j hj => by rw [eL _ (by omega)]; exact d4.2 j hj⟩
theorem MH.congr {h' : Hp} {o : Nat} (hM : MH g h A S o) (hW : WF S) (hF' : MF h' A) (e : ∀ k, 42 ≤ k → k ≤ 52 → ∀ x, x ≠ o → aI h' (A k) x = aI h (A k) x) (e61 : aI h' (A 61) = aI h (A 61)) (e62 : aI h' (A 62) = aI h (A 62)) (eL : ∀ x < tp g, aL h' (A 56) x = aL h (A 56) x) : MH g h' A S o := by
  have oa := hM.oa hW e eL
  obtain ⟨m1, m2, ⟨n1, n2, n3, n4, ⟨n5, n5'⟩, n6, n7, n8, n9, n10, n11, n12, n13, n14⟩, m4⟩ := hM
  refine ⟨hF', ⟨by rw [e61]; exact m2.1, scM.congr (h := h) e62 m2.2⟩, ⟨n1, n2, n3, n4, ⟨fun x hx => ?_, fun x hx1 hx2 => ?_⟩, mch_congr n6 (fun x hx => e 47 (by decide) (by decide) x (n5 x hx).2.2.1), n7, n8, n9, n10, n11, n12, n13, n14⟩, oa⟩
  · obtain ⟨z1, z2, z3, z4⟩ := n5 x hx
    exact ⟨z1, z2, z3, by rw [e 42 (by decide) (by decide) x z3]; exact z4⟩
  · rw [e 42 (by decide) (by decide) x (by omega)]; exact n5' x hx1 hx2
def MKs (g : Gh) (h : Hp) (A : Nat → Nat) (S : St) (c n : Nat) : Prop :=
  fI h 41 (A 40) = nI (rm S) ∧ fI h 57 (A 40) = nI (tp g + n) ∧ fI h 58 (A 40) = nI (us S + c) ∧ fI h 59 (A 40) = nI (nb g) ∧ fI h 60 (A 40) = nI ((fl_ g).headD 0) ∧ fI h 63 (A 40) = nI (nt S) ∧ fI h 64 (A 40) = nI (sc S).length ∧ fI h 65 (A 40) = nI ((ob S).length + 1) ∧
  fI h 66 (A 40) = cn S 2 + 1 ∧ fI h 67 (A 40) = cn S 3 ∧ fI h 68 (A 40) = cn S 4 ∧ fI h 69 (A 40) = cn S 5 ∧ fI h 70 (A 40) = j_mx (cn S 6) (nI (us S + c)) ∧ fI h 71 (A 40) = cn S 8 ∧ fI h 72 (A 40) = cn S 9 ∧ fI h 73 (A 40) = nI (rK g)
def MKn (g : Gh) (h : Hp) (A : Nat → Nat) (o : Nat) (k : Int32) (n1 n2 : Nat) : Prop :=
  aI h (A 42) o = k ∧ aI h (A 43) o = nI (tp g) ∧ aI h (A 44) o = nI n1 ∧ aI h (A 45) o = nI n2 ∧ aI h (A 46) o = 0 ∧ aI h (A 48) o = 0 ∧ aI h (A 49) o = 0 ∧ aI h (A 50) o = 0 ∧ aI h (A 52) o = 0
def MK (g : Gh) (h : Hp) (A : Nat → Nat) (S : St) (o : Nat) (k : Int32) (n1 n2 : Nat) : Prop :=
  MH g h A S o ∧ MKs g h A S (clN k (n1 + n2)) (n1 + n2) ∧ MKn g h A o k n1 n2 ∧ (∀ j < n1 + n2, aL h (A 56) (tp g + j) = 0) ∧ tp g + (n1 + n2) ≤ 31000
theorem fit_iff (hM : MJ g h A S) (hW : WF S) {c : Nat} (hc : c ≤ 3002) : fI h 58 (A 40) + nI c ≤ fI h 41 (A 40) ↔ fitS S c := by
  have hu := hW.2.2.1; have hr := hW.2.2.2.2.1
  rw [hM.2.1.2.2.1, hM.2.1.1, nI_add, nI_le' (by omega) (by omega)]; exact Iff.rfl
theorem kd_nneg {a : Nat} (wa : WFa S a) : ¬ kd S a < 0 := by rcases wa.1 with (e | e | e) | e | (e | e | e | e) <;> rw [e] <;> decide
theorem sz_le {a : Nat} (wa : WFa S a) : szO S a ≤ cl S a := by
  unfold szO
  by_cases q : hd (kd S a)
  · have : cl S a = 2 + (nr S a + nn S a) := by unfold cl; rcases q with e | e | e <;> rw [e] <;> rfl
    omega
  · have := wa.2.1 q; omega
theorem sum_le_sum {f f' : Nat → Nat} : ∀ {l : List Nat}, (∀ a ∈ l, f a ≤ f' a) → (l.map f).sum ≤ (l.map f').sum
  | [], _ => Nat.le_refl _
  | a :: l, h => by
    have h1 := h a List.mem_cons_self
    have h2 := sum_le_sum (l := l) (fun b hb => h b (List.mem_cons_of_mem _ hb))
    simp only [List.map_cons, List.sum_cons]; omega
theorem cl_new {k : Int32} {n1 n2 : Nat} (hk0 : ¬ hd k → n1 = 0 ∧ n2 = 0) : n1 + n2 ≤ clN k (n1 + n2) := by
  by_cases q : hd k
  · have : clN k (n1 + n2) = 2 + (n1 + n2) := by rcases q with rfl | rfl | rfl <;> rfl
    omega
  · have := hk0 q; omega
theorem cl2 (k : Int32) (n : Nat) : 2 ≤ clN k n := by
  unfold clN; split <;> try split <;> try split
  all_goals omega
theorem cl3002 {k : Int32} {n : Nat} (hn : n ≤ 3000) : clN k n ≤ 3002 := by
  unfold clN; split <;> try split <;> try split
  all_goals omega
/-- the numbers suffice -/
theorem MJ.room (hM : MJ g h A S) (hfl : fl_ g = []) : nb g ≤ (ob S).length + 1 := by
  have key : (List.range' 1 (nb g - 1)).length ≤ ((ob S).map (num g)).length := nodup_len List.nodup_range' (fun o ho => by
    obtain ⟨q1, q2⟩ := List.mem_range'_1.mp ho
    rcases hM.2.2.2.1.2.2.2.2.2.2.2.1 o q1 (by omega) with z | ⟨a, ha, e⟩
    · rw [hfl] at z; cases z
    · exact List.mem_map.mpr ⟨a, ha, e⟩)
  rw [List.length_range', List.length_map] at key
  omega
end MMAKE
