/-! Sorting with gaps. -/
def PM (n : Nat) (f0 f : Nat → Nat) : Prop := (∀ i < n, ∃ j < n, f i = f0 j) ∧ (∀ j < n, ∃ i < n, f i = f0 j) ∧ ∀ i j, i < n → j < n → f i = f j → i = j
theorem PM.swap {n : Nat} {f0 f f' : Nat → Nat} {i j : Nat} (hp : PM n f0 f) (hi : i < n) (hj : j < n) (e : ∀ k, f' k = if k = i then f j else if k = j then f i else f k) : PM n f0 f' := by
  have ei : f' i = f j := by rw [e, if_pos rfl]
  have ej : f' j = f i := by
    rw [e]; split
    · rename_i q; rw [q]
    · rw [if_pos rfl]
  have eo : ∀ k, k ≠ i → k ≠ j → f' k = f k := fun k q1 q2 => by rw [e, if_neg q1, if_neg q2]
  -- f' k = f (s k)
  have hs : ∀ k, k < n → ∃ m, m < n ∧ f' k = f m ∧ (k = i → m = j) ∧ (k = j → m = i) ∧ (k ≠ i → k ≠ j → m = k) := fun k hk => by
    by_cases q1 : k = i
    · exact ⟨j, hj, by rw [q1, ei], fun _ => rfl, fun q => by rw [← q, q1], fun z => absurd q1 z⟩
    · by_cases q2 : k = j
      · exact ⟨i, hi, by rw [q2, ej], fun z => absurd z q1, fun _ => rfl, fun _ z => absurd q2 z⟩
      · exact ⟨k, hk, eo k q1 q2, fun z => absurd z q1, fun z => absurd z q2, fun _ _ => rfl⟩
  refine ⟨fun k hk => ?_, fun m hm => ?_, fun a b ha hb hab => ?_⟩
  · obtain ⟨m, hm, em, -⟩ := hs k hk
    obtain ⟨z, hz, ez⟩ := hp.1 m hm
    exact ⟨z, hz, em.trans ez⟩
  · obtain ⟨k, hk, ek⟩ := hp.2.1 m hm
    by_cases q1 : k = i
    · exact ⟨j, hj, by rw [ej, ← q1]; exact ek⟩
    · by_cases q2 : k = j
      · exact ⟨i, hi, by rw [ei, ← q2]; exact ek⟩
      · exact ⟨k, hk, by rw [eo k q1 q2]; exact ek⟩
  · obtain ⟨m1, h1, e1, x1, y1, z1⟩ := hs a ha
    obtain ⟨m2, h2, e2, x2, y2, z2⟩ := hs b hb
    have hm := hp.2.2 m1 m2 h1 h2 (by rw [← e1, ← e2]; exact hab)
    by_cases a1 : a = i
    · by_cases b1 : b = i
      · rw [a1, b1]
      · have := x1 a1
        by_cases b2 : b = j
        · have := y2 b2; omega
        · have := z2 b1 b2; omega
    · by_cases a2 : a = j
      · have := y1 a2
        by_cases b1 : b = i
        · have := x2 b1; omega
        · by_cases b2 : b = j
          · rw [a2, b2]
          · have := z2 b1 b2; omega
      · have := z1 a1 a2
        by_cases b1 : b = i
        · have := x2 b1; omega
        · by_cases b2 : b = j
          · have := y2 b2; omega
          · have := z2 b1 b2; omega
theorem shell {n : Nat} {key : Nat → Nat} {I : Hp → (Nat → Nat) → Prop} {PG : Nat → Hp → Prop} {PL : Nat → Nat → Hp → Prop} {PW : Nat → Nat → Nat → Nat → Hp → Prop} {f0 : Nat → Nat}
    (rE : ∀ h f, I h f → PM n f0 f → (∀ a b, a < b → b < n → key (f a) ≤ key (f b)) → PG 0 h)
    (rG : ∀ gap h f, 0 < gap → gap ≤ n → I h f → PL gap gap h → PG gap h)
    (rL0 : ∀ gap h f, 0 < gap → gap ≤ n → I h f → PG (gap / 2) h → PL gap n h)
    (rL : ∀ gap i h f, 0 < gap → gap ≤ i → i < n → I h f → PW gap i (f i) i h → PL gap i h)
    (rW0 : ∀ gap i o j h f, 0 < gap → gap ≤ n → j ≤ i → i < n → I h f → (∃ m < n, o = f0 m) → (∀ k < n, ∃ m < n, f k = f0 m) → (j < gap ∨ (gap ≤ j ∧ key (f (j - gap)) ≤ key o)) → (∀ h', I h' (up1 f j o) → PL gap (i + 1) h') → PW gap i o j h)
    (rW1 : ∀ gap i o j h f, 0 < gap → gap ≤ j → j ≤ i → i < n → I h f → (∃ m < n, o = f0 m) → (∀ k < n, ∃ m < n, f k = f0 m) → ¬ key (f (j - gap)) ≤ key o → (∀ h', I h' (up1 f j (f (j - gap))) → PW gap i o (j - gap) h') → PW gap i o j h) :
    ∀ h f, I h f → PM n f0 f → PG (n / 2) h := by
  have main : ∀ (gap : Nat) (h : Hp) (f : Nat → Nat), gap ≤ n → I h f → PM n f0 f → (gap = 0 → ∀ a b, a < b → b < n → key (f a) ≤ key (f b)) → PG gap h := by
    intro gap
    induction gap using Nat.strongRecOn with
    | _ gap ih =>
    intro h f hgn hI hP hs
    by_cases g0 : gap = 0
    · subst g0; exact rE h f hI hP (hs rfl)
    · have gp : 0 < gap := Nat.pos_of_ne_zero g0
      refine rG gap h f gp hgn hI ?_
      have outer : ∀ (d i : Nat) (h : Hp) (f : Nat → Nat), d + i = n → gap ≤ i → I h f → PM n f0 f → (gap = 1 → ∀ a b, a < b → b < i → key (f a) ≤ key (f b)) → PL gap i h := by
        intro d
        induction d with
        | zero =>
          intro i h f hd hgi hI hP hso
          have : i = n := by omega
          subst this
          refine rL0 gap h f gp hgn hI (ih (gap / 2) (Nat.div_lt_self gp (by decide)) h f (by omega) hI hP (fun e => hso (by omega)))
        | succ d ihd =>
          intro i h f hd hgi hI hP hso
          refine rL gap i h f gp hgi (by omega) hI ?_
          have inner : ∀ (j : Nat) (h : Hp) (f : Nat → Nat) (o : Nat), j ≤ i → I h f → (∃ m < n, o = f0 m) → (∀ k < n, ∃ m < n, f k = f0 m) → PM n f0 (up1 f j o) → (gap = 1 → (∀ a b, a < b → b ≤ i → a ≠ j → b ≠ j → key (f a) ≤ key (f b)) ∧ ∀ b, j < b → b ≤ i → key o ≤ key (f b)) → PW gap i o j h := by
            intro j
            induction j using Nat.strongRecOn with
            | _ j ihj =>
            intro h f o hji hI ho hv hP hoi
            have store : (j < gap ∨ (gap ≤ j ∧ key (f (j - gap)) ≤ key o)) → PW gap i o j h := fun hc => by
              refine rW0 gap i o j h f gp hgn hji (by omega) hI ho hv hc (fun h' hI' => ihd (i + 1) h' (up1 f j o) (by omega) (by omega) hI' hP (fun g1 a b hab hbi => ?_))
              obtain ⟨q1, q2⟩ := hoi g1
              by_cases ea : a = j
              · subst ea
                rw [up1_same, up1_ne (by omega)]
                exact q2 b hab (by omega)
              · by_cases eb : b = j
                · subst eb
                  rw [up1_same, up1_ne ea]
                  rcases hc with z | ⟨z1, z2⟩
                  · omega
                  · rw [g1] at z2
                    by_cases e3 : a = b - 1
                    · rw [e3]; exact z2
                    · exact Nat.le_trans (q1 a (b - 1) (by omega) (by omega) (by omega) (by omega)) z2
                · rw [up1_ne ea, up1_ne eb]; exact q1 a b hab (by omega) ea eb
            by_cases c1 : j < gap
            · exact store (Or.inl c1)
            · by_cases c2 : key (f (j - gap)) ≤ key o
              · exact store (Or.inr ⟨by omega, c2⟩)
              · have hjn : j - gap ≠ j := by omega
                refine rW1 gap i o j h f gp (by omega) hji (by omega) hI ho hv c2 (fun h' hI' => ihj (j - gap) (by omega) h' _ o (by omega) hI' ho (fun k hk => ?_) ?_ (fun g1 => ?_))
                · unfold up1; split
                  · exact hv (j - gap) (by omega)
                  · exact hv k hk
                · refine hP.swap (i := j - gap) (j := j) (by omega) (by omega) (fun k => ?_)
                  unfold up1
                  by_cases e1 : k = j - gap
                  · simp [e1]
                  · by_cases e2 : k = j
                    · subst e2; simp [e1, hjn]
                    · simp [e1, e2]
                · obtain ⟨q1, q2⟩ := hoi g1
                  subst g1
                  refine ⟨fun a b hab hbi ha hb => ?_, fun b hb hbi => ?_⟩
                  · by_cases ea : a = j
                    · subst ea
                      rw [up1_same, up1_ne (by omega)]
                      exact q1 (a - 1) b (by omega) hbi (by omega) (by omega)
                    · by_cases eb : b = j
                      · subst eb
                        rw [up1_same, up1_ne ea]
                        exact q1 a (b - 1) (by omega) (by omega) ea (by omega)
                      · rw [up1_ne ea, up1_ne eb]; exact q1 a b hab hbi ea eb
                  · by_cases eb : b = j
                    · subst eb
                      rw [up1_same]; omega
                    · rw [up1_ne eb]; exact q2 b (by omega) hbi
          refine inner i h f (f i) (Nat.le_refl _) hI (hP.1 i (by omega)) hP.1 ?_ (fun g1 => ⟨fun a b hab hbi ha hb => hso g1 a b hab (by omega), fun b hb hbi => by omega⟩)
          have : up1 f i (f i) = f := funext fun k => by unfold up1; split <;> simp [*]
          rw [this]; exact hP
      exact outer (n - gap) gap h f (by omega) (Nat.le_refl _) hI hP (fun g1 a b hab hb => by omega)
  intro h f hI hP
  exact main (n / 2) h f (Nat.div_le_self _ _) hI hP (fun e a b hab hb => by omega)
/-- lists that have the same members and are sorted alike are the same -/
theorem sorted_unique {key : Nat → Nat} : ∀ {l m : List Nat}, l.Pairwise (fun a b => key a < key b) → m.Pairwise (fun a b => key a < key b) → (∀ x, x ∈ l ↔ x ∈ m) → l = m
  | [], [], _, _, _ => rfl
  | [], b :: m, _, _, h => by have := (h b).mpr List.mem_cons_self; cases this
  | a :: l, [], _, _, h => by have := (h a).mp List.mem_cons_self; cases this
  | a :: l, b :: m, hl, hm, h => by
    have hl' := List.pairwise_cons.mp hl
    have hm' := List.pairwise_cons.mp hm
    have hab : a = b := by
      rcases List.mem_cons.mp ((h a).mp List.mem_cons_self) with e | e
      · exact e
      · rcases List.mem_cons.mp ((h b).mpr List.mem_cons_self) with e2 | e2
        · exact e2.symm
        · have := hl'.1 b e2; have := hm'.1 a e; omega
    subst hab
    have : l = m := sorted_unique hl'.2 hm'.2 (fun x => by
      constructor
      · intro hx
        rcases List.mem_cons.mp ((h x).mp (List.mem_cons_of_mem _ hx)) with e | e
        · subst e; have := hl'.1 x hx; omega
        · exact e
      · intro hx
        rcases List.mem_cons.mp ((h x).mpr (List.mem_cons_of_mem _ hx)) with e | e
        · subst e; have := hm'.1 x hx; omega
        · exact e)
    rw [this]
