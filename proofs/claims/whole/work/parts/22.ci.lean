/-! THE CLASS'S SIDE: what its cells say of the abstract state. A k: the cell that the field k of the heap's object (A 0) holds (29 roots, 30 starts of scopes, 31 counters, 32 young, 33 old, 34 tour); A 40 the model, A 41 the law's answer, A k the model's array k. -/
def CF (h : Hp) (A : Nat → Nat) : Prop :=
  (tg h (A 0) = 6 ∧ fR h 29 (A 0) = some (A 29) ∧ fR h 30 (A 0) = some (A 30) ∧ fR h 31 (A 0) = some (A 31) ∧ fR h 32 (A 0) = some (A 32) ∧ fR h 33 (A 0) = some (A 33) ∧ fR h 34 (A 0) = some (A 34)) ∧
  (tg h (A 29) = 11 ∧ tg h (A 30) = 8 ∧ tg h (A 31) = 8 ∧ tg h (A 32) = 1 ∧ tg h (A 33) = 1 ∧ tg h (A 34) = 5) ∧ (ln h (A 29) = 384 ∧ ln h (A 30) = 20 ∧ ln h (A 31) = 10) ∧ A 32 ≠ A 33 ∧ A 30 ≠ A 31 ∧
  ∀ k, 40 ≤ k → (tg h (A k) = 7 ∨ tg h (A k) = 8 ∨ tg h (A k) = 9 ∨ tg h (A k) = 10) ∧ A k ≠ A 30 ∧ A k ≠ A 31
def scA (h : Hp) (A : Nat → Nat) : List Nat → Prop
  | [] => True
  | s :: r => aI h (A 30) r.length = nI s ∧ scA h A r
def CG (h : Hp) (A : Nat → Nat) (S : St) : Prop :=
  (∀ i < 384, aR h (A 29) i = if i < nt S then rt S i else none) ∧ fI h 35 (A 0) = nI (sc S).length ∧ scA h A (sc S) ∧ (∀ k < 10, aI h (A 31) k = cn S k) ∧ fI h 27 (A 0) = nI (rm S)
def chn (h : Hp) (c : Nat) (l : List Nat) (S : St) : Prop :=
  fR h 19 c = l.head? ∧ fR h 20 c = l.getLast? ∧ fI h 21 c = nI l.length ∧ fI h 22 c = nI ((l.map (cl S)).sum) ∧ lnk (fR h 3) l
/-- refs and numbers of a plain one or a row -/
def COh (h : Hp) (A : Nat → Nat) (S : St) (a : Nat) : Prop :=
  ∃ r n : Nat, fR h 8 a = some r ∧ tg h r = 11 ∧ ln h r = nr S a ∧ r ≠ A 29 ∧ (∀ j < nr S a, aR h r j = rf S a j) ∧ fR h 9 a = some n ∧ tg h n = 9 ∧ ln h n = nn S a ∧ (∀ k, 40 ≤ k → n ≠ A k) ∧ ∀ j < nn S a, aL h n j = nv S a j
def COq (h : Hp) (S : St) (a : Nat) : Prop := fR h 10 a = (qu S a).head? ∧ fR h 11 a = (qu S a).getLast? ∧ fI h 12 a = nI (qu S a).length ∧ lnk (fR h 17) (qu S a)
def COl (h : Hp) (S : St) (a : Nat) : Prop := fR h 13 a = re S a ∧ fR h 14 a = va S a ∧ fR h 15 a = li S a ∧ fI h 16 a = cm S a ∧ (cm S a = 0 → fR h 17 a = none)
def COa (h : Hp) (A : Nat → Nat) (S : St) (a : Nat) : Prop :=
  fI h 0 a = kd S a ∧ fI h 1 a = nI (cl S a) ∧ fI h 2 a = hs S a ∧ (hd (kd S a) → tg h a = 2 ∧ COh h A S a) ∧ (kd S a = 3 → tg h a = 3 ∧ COq h S a) ∧ (ls (kd S a) → tg h a = 4 ∧ COl h S a)
/-- no two objects share an array -/
def COj (h : Hp) (S : St) : Prop := ∀ a ∈ ob S, ∀ b ∈ ob S, hd (kd S a) → hd (kd S b) → a ≠ b → fR h 8 a ≠ fR h 8 b ∧ fR h 9 a ≠ fR h 9 b
def CO (h : Hp) (A : Nat → Nat) (S : St) : Prop := (∀ a ∈ ob S, COa h A S a) ∧ COj h S
def CC (h : Hp) (A : Nat → Nat) (S : St) : Prop := ∃ lo ly : List Nat, lo ++ ly = ob S ∧ chn h (A 33) lo S ∧ chn h (A 32) ly S
def CT (B : Nat × List Nat) (h : Hp) (A : Nat → Nat) (_ : St) : Prop := ∃ n ≤ B.1, fI h 26 (A 34) = nI n ∧ ∀ a ∈ B.2, fR h 7 a = none ∧ ∃ m ≤ n, fI h 4 a = nI m
def CI (B : Nat × List Nat) (h : Hp) (A : Nat → Nat) (S : St) : Prop := CF h A ∧ CG h A S ∧ CO h A S ∧ CC h A S ∧ CT B h A S
/-- what the class leaves as it is -/
def FC (A : Nat → Nat) (h h' : Hp) : Prop := (∀ k, 40 ≤ k → fI h' k (A 40) = fI h k (A 40) ∧ fR h' k (A 40) = fR h k (A 40)) ∧ ∀ k, 40 ≤ k → tg h' (A k) = tg h (A k) ∧ ln h' (A k) = ln h (A k) ∧ aI h' (A k) = aI h (A k) ∧ aL h' (A k) = aL h (A k)
theorem FC.rfl' {A : Nat → Nat} {h : Hp} : FC A h h := ⟨fun _ _ => ⟨rfl, rfl⟩, fun _ _ => ⟨rfl, rfl, rfl, rfl⟩⟩
theorem FC.trans {A : Nat → Nat} {h h1 h2 : Hp} (x : FC A h h1) (y : FC A h1 h2) : FC A h h2 :=
  ⟨fun k hk => ⟨(y.1 k hk).1.trans (x.1 k hk).1, (y.1 k hk).2.trans (x.1 k hk).2⟩, fun k hk => ⟨(y.2 k hk).1.trans (x.2 k hk).1, (y.2 k hk).2.1.trans (x.2 k hk).2.1, (y.2 k hk).2.2.1.trans (x.2 k hk).2.2.1, (y.2 k hk).2.2.2.trans (x.2 k hk).2.2.2⟩⟩
theorem FC.pI {A : Nat → Nat} {h h1 : Hp} {k a : Nat} {x : Int32} (hk : k < 40) (y : FC A h h1) : FC A h (pI h1 k a x) :=
  y.trans ⟨fun k' hk' => ⟨congrFun (fIx _ _ _ _ _ (by omega)) _, rfl⟩, fun _ _ => ⟨rfl, rfl, rfl, rfl⟩⟩
theorem FC.pR {A : Nat → Nat} {h h1 : Hp} {k a : Nat} {x : Option Nat} (hk : k < 40) (y : FC A h h1) : FC A h (pR h1 k a x) :=
  y.trans ⟨fun k' hk' => ⟨rfl, congrFun (fRx _ _ _ _ _ (by omega)) _⟩, fun _ _ => ⟨rfl, rfl, rfl, rfl⟩⟩
theorem FC.qR {A : Nat → Nat} {h h1 : Hp} {a i : Nat} {x : Option Nat} (y : FC A h h1) : FC A h (qR h1 a i x) :=
  y.trans ⟨fun k' hk' => ⟨rfl, rfl⟩, fun _ _ => ⟨rfl, rfl, rfl, rfl⟩⟩
theorem FC.qI {A : Nat → Nat} {h h1 : Hp} {a i : Nat} {x : Int32} (ha : ∀ k, 40 ≤ k → A k ≠ a) (y : FC A h h1) : FC A h (qI h1 a i x) :=
  y.trans ⟨fun k' hk' => ⟨rfl, rfl⟩, fun k hk => ⟨rfl, rfl, aIx _ _ _ _ _ (ha k hk), rfl⟩⟩
theorem FC.qL {A : Nat → Nat} {h h1 : Hp} {a i : Nat} {x : Int64} (ha : ∀ k, 40 ≤ k → A k ≠ a) (y : FC A h h1) : FC A h (qL h1 a i x) :=
  y.trans ⟨fun k' hk' => ⟨rfl, rfl⟩, fun k hk => ⟨rfl, rfl, rfl, aLx _ _ _ _ _ (ha k hk)⟩⟩
theorem COa.thg {h : Hp} {A : Nat → Nat} {S : St} {a : Nat} (hW : WFa S a) (hC : COa h A S a) : thg h a := by
  rcases hW.1 with k | k | k
  · exact Or.inl (hC.2.2.2.1 k).1
  · exact Or.inr (Or.inl (hC.2.2.2.2.1 k).1)
  · exact Or.inr (Or.inr (hC.2.2.2.2.2 k).1)
theorem COa.t2 {h : Hp} {A : Nat → Nat} {S : St} {a : Nat} (hW : WFa S a) (hC : COa h A S a) : tg h a = 2 ↔ hd (kd S a) := by
  refine ⟨fun e => ?_, fun k => (hC.2.2.2.1 k).1⟩
  rcases hW.1 with k | k | k
  · exact k
  · rw [(hC.2.2.2.2.1 k).1] at e; cases e
  · rw [(hC.2.2.2.2.2 k).1] at e; cases e
theorem COa.t3 {h : Hp} {A : Nat → Nat} {S : St} {a : Nat} (hW : WFa S a) (hC : COa h A S a) : tg h a = 3 ↔ kd S a = 3 := by
  refine ⟨fun e => ?_, fun k => (hC.2.2.2.2.1 k).1⟩
  rcases hW.1 with k | k | k
  · rw [(hC.2.2.2.1 k).1] at e; cases e
  · exact k
  · rw [(hC.2.2.2.2.2 k).1] at e; cases e
theorem COa.t4 {h : Hp} {A : Nat → Nat} {S : St} {a : Nat} (hW : WFa S a) (hC : COa h A S a) : tg h a = 4 ↔ ls (kd S a) := by
  refine ⟨fun e => ?_, fun k => (hC.2.2.2.2.2 k).1⟩
  rcases hW.1 with k | k | k
  · rw [(hC.2.2.2.1 k).1] at e; cases e
  · rw [(hC.2.2.2.2.1 k).1] at e; cases e
  · exact k
theorem CI.thg {B : Nat × List Nat} {h : Hp} {A : Nat → Nat} {S : St} (hC : CI B h A S) (hW : WF S) {a : Nat} (ha : a ∈ ob S) : thg h a := COa.thg (hW.2.1 a ha) (hC.2.2.1.1 a ha)
/-- the root i, as an int in range -/
theorem CI.root {B : Nat × List Nat} {h : Hp} {A : Nat → Nat} {S : St} (hC : CI B h A S) (hW : WF S) {i : Nat} (hi : i < nt S) : aR h (A 29) i = rt S i := by
  rw [hC.2.1.1 i (by have := hW.nt; omega), if_pos hi]
theorem CI.rthg {B : Nat × List Nat} {h : Hp} {A : Nat → Nat} {S : St} (hC : CI B h A S) (hW : WF S) {i : Nat} (hi : i < nt S) {b : Nat} (hb : aR h (A 29) i = some b) : b ∈ ob S := by
  rw [hC.root hW hi] at hb; exact hW.2.2.2.2.2.2.2.2.2.2 i hi b hb
/-! Checks. -/
section CHK
variable {B : Nat × List Nat} {h : Hp} {A : Nat → Nat} {S : St} {Q : Option AV ⊕ String → Hp → Prop}
theorem c_range {x1 x2 x3 : Int32} (h1 : x2 ≤ x1 → x1 ≤ x3 → Q (.inl none) h) (h2 : ¬ (x2 ≤ x1 ∧ x1 ≤ x3) → Q (.inr xA) h) : vc_X6_checkRange x1 x2 x3 h Q := by
  intro P hP
  refine ⟨fun q => hP h (h2 fun e => absurd q (i32_nlt.mpr e.1)), fun q => ⟨fun q2 => h1 (i32_nlt.mp q) q2, fun q2 => hP h (h2 fun e => q2 e.2)⟩⟩
theorem c_notNeg {x1 : Int32} (h1 : ∀ i : Nat, i < 2 ^ 31 → x1 = nI i → Q (.inl none) h) (h2 : x1 < 0 → Q (.inr xA) h) : vc_X6_checkNotNegative x1 h Q := by
  refine ⟨fun a => ?_, fun a => h2 (Decidable.byContradiction fun q => a (i32_nlt.mp q))⟩
  obtain ⟨i, hi, e⟩ := nI_ex' a
  exact h1 i hi e
def inR (S : St) (x : Int32) : Prop := ∃ i : Nat, i < nt S ∧ x = nI i
theorem inR_iff {S : St} (hW : WF S) {x : Int32} : inR S x ↔ 0 ≤ x ∧ x ≤ nI (nt S) - 1 := by
  have hn := hW.nt
  have e : nI (nt S) - 1 = nI (nt S - 1) := nI_sub (b := 1) (by omega)
  rw [e]
  constructor
  · rintro ⟨i, hi, rfl⟩
    exact ⟨nI_pos' (by omega), (nI_le' (by omega) (by omega)).mpr (by omega)⟩
  · rintro ⟨h1, h2⟩
    obtain ⟨i, hi, rfl⟩ := nI_ex' h1
    exact ⟨i, by have := (nI_le' hi (by omega)).mp h2; omega, rfl⟩
theorem c_root (hC : CI B h A S) (hW : WF S) {x1 : Int32} (h1 : ∀ i : Nat, i < nt S → x1 = nI i → Q (.inl none) h) (h2 : ¬ inR S x1 → Q (.inr xA) h) : vc_X6_checkRoot (A 0) x1 h Q := by
  obtain ⟨⟨f1, f2, f3, f4, f5, f6, f7⟩, ⟨g1, g2, g3, g4, g5, g6⟩, ⟨l1, l2, l3⟩, -⟩ := hC.1
  refine ⟨f1, A 31, f4, g3, by rw [l3]; unfold vp_in; decide, ?_⟩
  rw [hC.2.1.2.2.2.1 7 (by decide), hW.2.2.2.2.2.2.2.1]
  refine c_range (fun a b => ?_) (fun a => ?_)
  · obtain ⟨i, hi, e⟩ := (inR_iff hW).mpr ⟨a, b⟩
    exact h1 i hi e
  · exact h2 fun e => a ((inR_iff hW).mp e)
def inN (S : St) (x : Int32) : Prop := x = -1 ∨ inR S x
theorem inN_iff {S : St} (hW : WF S) {x : Int32} : inN S x ↔ -1 ≤ x ∧ x ≤ nI (nt S) - 1 := by
  have hn := hW.nt
  unfold inN
  rw [inR_iff hW]
  have e : nI (nt S) - 1 = nI (nt S - 1) := nI_sub (b := 1) (by omega)
  rw [e]
  have e1 : (nI (nt S - 1)).toInt = (nt S - 1 : Nat) := nI_toInt (by omega)
  have e2 : (-1 : Int32).toInt = -1 := by decide
  have e3 : (0 : Int32).toInt = 0 := rfl
  rw [Int32.le_iff_toInt_le, Int32.le_iff_toInt_le, Int32.le_iff_toInt_le, e1, e2, e3, ← Int32.toInt_inj, e2]
  omega
theorem c_rootOrNone (hC : CI B h A S) (hW : WF S) {x1 : Int32} (h1 : inN S x1 → Q (.inl none) h) (h2 : ¬ inN S x1 → Q (.inr xA) h) : vc_X6_checkRootOrNone (A 0) x1 h Q := by
  obtain ⟨⟨f1, f2, f3, f4, f5, f6, f7⟩, ⟨g1, g2, g3, g4, g5, g6⟩, ⟨l1, l2, l3⟩, -⟩ := hC.1
  refine ⟨f1, A 31, f4, g3, by rw [l3]; unfold vp_in; decide, ?_⟩
  rw [hC.2.1.2.2.2.1 7 (by decide), hW.2.2.2.2.2.2.2.1]
  exact c_range (fun a b => h1 ((inN_iff hW).mpr ⟨a, b⟩)) (fun a => h2 fun e => a ((inN_iff hW).mp e))
/-- the object in a root, or null for -1 -/
def rtN (S : St) (x : Int32) : Option Nat := if x = -1 then none else rt S x.toNatClampNeg
theorem nI_nm1 {i : Nat} (hi : i < 2 ^ 31) : nI i ≠ -1 := fun e => by
  have := congrArg Int32.toInt e
  rw [nI_toInt hi] at this
  have e2 : (-1 : Int32).toInt = -1 := by decide
  omega
theorem rtN_nI {S : St} {i : Nat} (hi : i < 2 ^ 31) : rtN S (nI i) = rt S i := by unfold rtN; rw [if_neg (nI_nm1 hi), nI_clamp hi]
theorem rtN_ob {S : St} (hW : WF S) {x : Int32} (hx : inN S x) {b : Nat} (hb : rtN S x = some b) : b ∈ ob S := by
  rcases hx with rfl | ⟨i, hi, rfl⟩
  · cases hb
  · rw [rtN_nI (by have := hW.nt; omega)] at hb
    exact hW.2.2.2.2.2.2.2.2.2.2 i hi b hb
theorem c_atOrNone (hC : CI B h A S) (hW : WF S) {x1 : Int32} (hx : inN S x1) (h1 : Q (.inl (some (vr (rtN S x1)))) h) : vc_X6_atOrNone (A 0) x1 h Q := by
  obtain ⟨⟨f1, f2, f3, f4, f5, f6, f7⟩, ⟨g1, g2, g3, g4, g5, g6⟩, ⟨l1, l2, l3⟩, -⟩ := hC.1
  have hn := hW.nt
  rcases hx with rfl | ⟨i, hi, rfl⟩
  · exact ⟨fun q => absurd rfl q, fun _ => h1⟩
  · refine ⟨fun q => ⟨f1, A 29, f2, g1, by rw [l1]; exact vin (by omega) (by decide), ?_⟩, fun q => absurd q (nI_nm1 (by omega))⟩
    rw [nI_clamp (by omega), hC.root hW hi, ← rtN_nI (by omega)]
    exact h1
end CHK
