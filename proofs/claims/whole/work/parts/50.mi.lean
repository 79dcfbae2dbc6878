/-! THE MODEL'S SIDE. A k: the model's array k (42 kind, 43 at, 44 refs, 45 nums, 46 hashOf, 47 next, 48 referent, 49 value, 50 queueOf, 51 rank, 52 came, 53 reached, 54 todo, 55 place, 56 row, 61 root, 62 scope); A 40 the model. -/
def mky (k : Nat) : Prop := (42 ≤ k ∧ k ≤ 56) ∨ k = 61 ∨ k = 62
def mtg (k : Nat) : Nat := if k = 52 ∨ k = 53 then 10 else if k = 56 then 9 else 8
def mln (k : Nat) : Nat := if k ≤ 55 then 15100 else if k = 56 then 31000 else if k = 61 then 384 else 20
def MF (h : Hp) (A : Nat → Nat) : Prop :=
  tg h (A 40) = 7 ∧ (∀ k, mky k → fR h k (A 40) = some (A k) ∧ tg h (A k) = mtg k ∧ ln h (A k) = mln k) ∧ (∀ j k, mky j → mky k → A j = A k → j = k) ∧ ∀ k, mky k → A 41 ≠ A k
/-- the numbers of objects, the free numbers, places in the row, ranks; how many numbers, the row's top, how many ranks -/
abbrev Gh : Type := (Nat → Nat) × List Nat × (Nat → Nat) × (Nat → Nat) × Nat × Nat × Nat
abbrev num (g : Gh) : Nat → Nat := g.1
abbrev fl_ (g : Gh) : List Nat := g.2.1
abbrev at_ (g : Gh) : Nat → Nat := g.2.2.1
abbrev rk (g : Gh) : Nat → Nat := g.2.2.2.1
abbrev nb (g : Gh) : Nat := g.2.2.2.2.1
abbrev tp (g : Gh) : Nat := g.2.2.2.2.2.1
abbrev rK (g : Gh) : Nat := g.2.2.2.2.2.2
def enc (g : Gh) (o : Option Nat) : Int32 :=
  match o with
  | none => 0
  | some a => nI (num g a)
def MG (g : Gh) (h : Hp) (A : Nat → Nat) (S : St) : Prop :=
  fI h 41 (A 40) = nI (rm S) ∧ fI h 57 (A 40) = nI (tp g) ∧ fI h 58 (A 40) = nI (us S) ∧ fI h 59 (A 40) = nI (nb g) ∧ fI h 60 (A 40) = nI ((fl_ g).headD 0) ∧ fI h 63 (A 40) = nI (nt S) ∧ fI h 64 (A 40) = nI (sc S).length ∧ fI h 65 (A 40) = nI (ob S).length ∧
  fI h 66 (A 40) = cn S 2 ∧ fI h 67 (A 40) = cn S 3 ∧ fI h 68 (A 40) = cn S 4 ∧ fI h 69 (A 40) = cn S 5 ∧ fI h 70 (A 40) = cn S 6 ∧ fI h 71 (A 40) = cn S 8 ∧ fI h 72 (A 40) = cn S 9 ∧ fI h 73 (A 40) = nI (rK g)
def scM (h : Hp) (A : Nat → Nat) : List Nat → Prop
  | [] => True
  | s :: r => aI h (A 62) r.length = nI s ∧ scM h A r
def MR (g : Gh) (h : Hp) (A : Nat → Nat) (S : St) : Prop := (∀ i < nt S, aI h (A 61) i = enc g (rt S i)) ∧ scM h A (sc S)
/-- chains by numbers -/
def mch (nx : Nat → Int32) : List Nat → Prop
  | [] => True
  | o :: l => nx o = nI (l.headD 0) ∧ mch nx l
def MN (g : Gh) (h : Hp) (A : Nat → Nat) (S : St) : Prop :=
  (∀ a ∈ ob S, 1 ≤ num g a ∧ num g a < nb g) ∧ (∀ a ∈ ob S, ∀ b ∈ ob S, num g a = num g b → a = b) ∧ 1 ≤ nb g ∧ nb g ≤ 15001 ∧ (fl_ g).Nodup ∧ ((∀ o ∈ fl_ g, 1 ≤ o ∧ o < nb g ∧ aI h (A 42) o = -1) ∧ ∀ o, nb g ≤ o → o < 15100 → aI h (A 42) o = -1) ∧ mch (aI h (A 47)) (fl_ g) ∧ (∀ o, 1 ≤ o → o < nb g → o ∈ fl_ g ∨ ∃ a ∈ ob S, num g a = o) ∧ tp g ≤ 31000 ∧
  (∀ a ∈ ob S, at_ g a + (nr S a + nn S a) ≤ tp g) ∧ (∀ a ∈ ob S, ∀ b ∈ ob S, a ≠ b → 0 < nr S a + nn S a → 0 < nr S b + nn S b → at_ g a + (nr S a + nn S a) ≤ at_ g b ∨ at_ g b + (nr S b + nn S b) ≤ at_ g a) ∧
  (ob S).Pairwise (fun a b => ls (kd S a) → ls (kd S b) → rk g a < rk g b) ∧ ∀ a ∈ ob S, ls (kd S a) → rk g a < rK g
def MOd (g : Gh) (h : Hp) (A : Nat → Nat) (S : St) (a : Nat) : Prop :=
  aI h (A 42) (num g a) = kd S a ∧ aI h (A 43) (num g a) = nI (at_ g a) ∧ aI h (A 44) (num g a) = nI (nr S a) ∧ aI h (A 45) (num g a) = nI (nn S a) ∧ aI h (A 46) (num g a) = hs S a
def MOl (g : Gh) (h : Hp) (A : Nat → Nat) (S : St) (a : Nat) : Prop :=
  aI h (A 48) (num g a) = enc g (re S a) ∧ aI h (A 49) (num g a) = enc g (va S a) ∧ (cm S a = 0 → aI h (A 50) (num g a) = enc g (li S a)) ∧ aI h (A 52) (num g a) = cm S a ∧ aI h (A 51) (num g a) = nI (rk g a)
def MOq (g : Gh) (h : Hp) (A : Nat → Nat) (S : St) (a : Nat) : Prop :=
  aI h (A 48) (num g a) = enc g (qu S a).head? ∧ aI h (A 49) (num g a) = enc g (qu S a).getLast? ∧ aI h (A 51) (num g a) = nI (qu S a).length ∧ mch (aI h (A 47)) ((qu S a).map (num g))
def MOr (g : Gh) (h : Hp) (A : Nat → Nat) (S : St) (a : Nat) : Prop :=
  (∀ j < nr S a, aL h (A 56) (at_ g a + j) = (enc g (rf S a j)).toInt64) ∧ ∀ j < nn S a, aL h (A 56) (at_ g a + nr S a + j) = nv S a j
def MOa (g : Gh) (h : Hp) (A : Nat → Nat) (S : St) (a : Nat) : Prop := MOd g h A S a ∧ (ls (kd S a) → MOl g h A S a) ∧ (kd S a = 3 → MOq g h A S a) ∧ MOr g h A S a
def MJ (g : Gh) (h : Hp) (A : Nat → Nat) (S : St) : Prop := MF h A ∧ MG g h A S ∧ MR g h A S ∧ MN g h A S ∧ ∀ a ∈ ob S, MOa g h A S a
/-- what the model leaves as it is -/
def FM (A : Nat → Nat) (h h' : Hp) : Prop := tg h' = tg h ∧ ln h' = ln h ∧ fR h' = fR h ∧ aR h' = aR h ∧ (∀ k, k < 40 → fI h' k = fI h k) ∧ ∀ x, (∀ k, mky k → x ≠ A k) → aI h' x = aI h x ∧ aL h' x = aL h x
theorem FM.rfl' {A : Nat → Nat} {h : Hp} : FM A h h := ⟨rfl, rfl, rfl, rfl, fun _ _ => rfl, fun _ _ => ⟨rfl, rfl⟩⟩
theorem FM.trans {A : Nat → Nat} {h h1 h2 : Hp} (a : FM A h h1) (b : FM A h1 h2) : FM A h h2 :=
  ⟨b.1.trans a.1, b.2.1.trans a.2.1, b.2.2.1.trans a.2.2.1, b.2.2.2.1.trans a.2.2.2.1, fun k hk => (b.2.2.2.2.1 k hk).trans (a.2.2.2.2.1 k hk), fun x hx => ⟨(b.2.2.2.2.2 x hx).1.trans (a.2.2.2.2.2 x hx).1, (b.2.2.2.2.2 x hx).2.trans (a.2.2.2.2.2 x hx).2⟩⟩
theorem FM.pI {A : Nat → Nat} {h h1 : Hp} {k a : Nat} {x : Int32} (hk : 40 ≤ k) (y : FM A h h1) : FM A h (pI h1 k a x) :=
  y.trans ⟨rfl, rfl, rfl, rfl, fun k' hk' => fIx _ _ _ _ _ (by omega), fun _ _ => ⟨rfl, rfl⟩⟩
theorem FM.qI {A : Nat → Nat} {h h1 : Hp} {k i : Nat} {x : Int32} (hk : mky k) (y : FM A h h1) : FM A h (qI h1 (A k) i x) :=
  y.trans ⟨rfl, rfl, rfl, rfl, fun _ _ => rfl, fun x hx => ⟨aIx _ _ _ _ _ (hx k hk), rfl⟩⟩
theorem FM.qL {A : Nat → Nat} {h h1 : Hp} {k i : Nat} {x : Int64} (hk : mky k) (y : FM A h h1) : FM A h (qL h1 (A k) i x) :=
  y.trans ⟨rfl, rfl, rfl, rfl, fun _ _ => rfl, fun x hx => ⟨rfl, aLx _ _ _ _ _ (hx k hk)⟩⟩
theorem MF.fm {A : Nat → Nat} {h h' : Hp} (hM : MF h A) (y : FM A h h') : MF h' A := by
  unfold MF; rw [y.1, y.2.1, y.2.2.1]; exact hM
/-- the class's cells don't change -/
theorem CI.fm {B : Nat × List Nat} {h h' : Hp} {A : Nat → Nat} {S : St} (hC : CI B h A S) (y : FM A h h') : CI B h' A S := by
  obtain ⟨c1, c2, c3, c4, c5⟩ := hC
  obtain ⟨t1, t2, t3, t4, t5, t6⟩ := y
  have hk40 : ∀ k, mky k → 40 ≤ k := fun k hk => by unfold mky at hk; omega
  have hm := c1.2.2.2.2.2
  have a30 := (t6 (A 30) (fun k hk => Ne.symm (hm k (hk40 k hk)).2.1)).1
  have a31 := (t6 (A 31) (fun k hk => Ne.symm (hm k (hk40 k hk)).2.2)).1
  refine ⟨c1.congr (eqT.of t1 t2) (fun k _ _ => by rw [t3]), c2.congr (by rw [t4]) (by rw [t5 35 (by decide)]) (by rw [t5 27 (by decide)]) a30 a31, ⟨fun x hx => ?_, c3.2.congr (fun _ _ => by rw [t3]) (fun _ _ => by rw [t3])⟩, c4.congr (fun c _ => ⟨by rw [t3], by rw [t3], by rw [t5 21 (by decide)], by rw [t5 22 (by decide)]⟩) (fun _ _ => by rw [t3]), c5.congr (by rw [t5 26 (by decide)]) (fun _ _ => ⟨by rw [t3], by rw [t5 4 (by decide)]⟩)⟩
  refine (c3.1 x hx).congr (eqT.of t1 t2) (fun k hk => by rw [t5 k (by simp at hk; omega)]) (fun _ _ => by rw [t3]) (fun _ _ => by rw [t3]) (fun _ _ _ => by rw [t4]) (fun k n hn => ?_)
  obtain ⟨-, r, n', d1, d2, d3, d4, d5, d6, d7, d8, d9, -⟩ := (c3.1 x hx).2.2.2.1 k
  rw [hn] at d6; cases d6
  exact (t6 n (fun k hk => d9 k (hk40 k hk))).2
/-- the model's cells don't change where the class works -/
theorem MJ.fc {g : Gh} {h h' : Hp} {A : Nat → Nat} {S : St} (hM : MJ g h A S) (y : FC A h h') : MJ g h' A S := by
  obtain ⟨m1, m2, m3, m4, m5⟩ := hM
  obtain ⟨y1, y2⟩ := y
  have hk40 : ∀ k, mky k → 40 ≤ k := fun k hk => by unfold mky at hk; omega
  have yI : ∀ k, mky k → aI h' (A k) = aI h (A k) := fun k hk => (y2 k (hk40 k hk)).2.2.1
  have yL := (y2 56 (by decide)).2.2.2
  have eI : ∀ k, 40 ≤ k → fI h' k (A 40) = fI h k (A 40) := fun k hk => (y1 k hk).1
  refine ⟨⟨by rw [(y2 40 (by decide)).1]; exact m1.1, fun k hk => ⟨by rw [(y1 k (hk40 k hk)).2]; exact (m1.2.1 k hk).1, by rw [(y2 k (hk40 k hk)).1]; exact (m1.2.1 k hk).2.1, by rw [(y2 k (hk40 k hk)).2.1]; exact (m1.2.1 k hk).2.2⟩, m1.2.2⟩, ?_, ⟨by rw [yI 61 (by unfold mky; omega)]; exact m3.1, ?_⟩, ?_, fun a ha => ?_⟩
  · unfold MG; rw [eI 41 (by decide), eI 57 (by decide), eI 58 (by decide), eI 59 (by decide), eI 60 (by decide), eI 63 (by decide), eI 64 (by decide), eI 65 (by decide), eI 66 (by decide), eI 67 (by decide), eI 68 (by decide), eI 69 (by decide), eI 70 (by decide), eI 71 (by decide), eI 72 (by decide), eI 73 (by decide)]; exact m2
  · have : ∀ l, scM h A l → scM h' A l := fun l => by
      induction l with
      | nil => exact fun _ => trivial
      | cons s r ih => exact fun q => ⟨by rw [yI 62 (by unfold mky; omega)]; exact q.1, ih q.2⟩
    exact this _ m3.2
  · unfold MN; rw [yI 42 (by unfold mky; omega), yI 47 (by unfold mky; omega)]; exact m4
  · have := m5 a ha
    unfold MOa MOd MOl MOq MOr at this ⊢
    rw [yI 42 (by unfold mky; omega), yI 43 (by unfold mky; omega), yI 44 (by unfold mky; omega), yI 45 (by unfold mky; omega), yI 46 (by unfold mky; omega), yI 47 (by unfold mky; omega), yI 48 (by unfold mky; omega), yI 49 (by unfold mky; omega), yI 50 (by unfold mky; omega), yI 51 (by unfold mky; omega), yI 52 (by unfold mky; omega), yL]
    exact this
