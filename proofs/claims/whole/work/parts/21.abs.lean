/-! THE ABSTRACT STATE. Objects are named by the addresses of the class's cells. In its Hp: tg a the number of refs of a, ln a that of its numbers; fI 0 kind, 2 hash, 16 came; fR 13 referent, 14 value, 15 line; aR a j a ref, aL a j a number. Then: the objects in the order of making; what waits in each queue; the roots; how many roots; the starts of the open scopes, the last first; the counters; the room. -/
abbrev St : Type := Hp × List Nat × (Nat → List Nat) × (Nat → Option Nat) × Nat × List Nat × (Nat → Int32) × Nat
abbrev ob (S : St) : List Nat := S.2.1
abbrev qu (S : St) : Nat → List Nat := S.2.2.1
abbrev rt (S : St) : Nat → Option Nat := S.2.2.2.1
abbrev nt (S : St) : Nat := S.2.2.2.2.1
abbrev sc (S : St) : List Nat := S.2.2.2.2.2.1
abbrev cn (S : St) : Nat → Int32 := S.2.2.2.2.2.2.1
abbrev rm (S : St) : Nat := S.2.2.2.2.2.2.2
abbrev kd (S : St) (a : Nat) : Int32 := fI S.1 0 a
abbrev hs (S : St) (a : Nat) : Int32 := fI S.1 2 a
abbrev cm (S : St) (a : Nat) : Int32 := fI S.1 16 a
abbrev re (S : St) (a : Nat) : Option Nat := fR S.1 13 a
abbrev va (S : St) (a : Nat) : Option Nat := fR S.1 14 a
abbrev li (S : St) (a : Nat) : Option Nat := fR S.1 15 a
abbrev nr (S : St) (a : Nat) : Nat := tg S.1 a
abbrev nn (S : St) (a : Nat) : Nat := ln S.1 a
abbrev rf (S : St) (a j : Nat) : Option Nat := aR S.1 a j
abbrev nv (S : St) (a j : Nat) : Int64 := aL S.1 a j
/-- the kinds: plain and rows; loose ones -/
def hd (k : Int32) : Prop := k = 0 ∨ k = 1 ∨ k = 2
def ls (k : Int32) : Prop := k = 4 ∨ k = 5 ∨ k = 6 ∨ k = 7
def clN (k : Int32) (n : Nat) : Nat := if k = 3 then 3 else if k = 7 then 5 else if k = 4 ∨ k = 5 ∨ k = 6 then 4 else 2 + n
def cl (S : St) (a : Nat) : Nat := clN (kd S a) (nr S a + nn S a)
def us (S : St) : Nat := ((ob S).map (cl S)).sum
def scOK : Nat → List Nat → Prop
  | n, [] => n = 64
  | n, s :: r => s < n ∧ n ≤ s + 16 ∧ scOK s r
theorem scOK_le : ∀ {n : Nat} {l : List Nat}, scOK n l → 64 ≤ n ∧ n ≤ 64 + 16 * l.length
  | _, [], h => by cases h; exact ⟨Nat.le_refl _, by simp⟩
  | n, s :: r, h => by
    have := scOK_le h.2.2
    have h1 := h.1; have h2 := h.2.1
    simp only [List.length_cons]
    omega
/-- an object's own shape -/
def WFa (S : St) (a : Nat) : Prop :=
  (hd (kd S a) ∨ kd S a = 3 ∨ ls (kd S a)) ∧ (¬ hd (kd S a) → nr S a = 0 ∧ nn S a = 0) ∧ (kd S a = 1 → nn S a = 0) ∧ (kd S a = 2 → nr S a = 0) ∧ nr S a ≤ 3000 ∧ nn S a ≤ 3000 ∧
  (∀ j < nr S a, ∀ b, rf S a j = some b → b ∈ ob S) ∧
  (ls (kd S a) → (∀ b, re S a = some b → b ∈ ob S) ∧ (∀ b, va S a = some b → b ∈ ob S ∧ kd S a = 7 ∧ re S a ≠ none) ∧ (cm S a = 0 ∨ cm S a = 1) ∧ (cm S a = 0 → ∀ q, li S a = some q → q ∈ ob S ∧ kd S q = 3)) ∧
  (kd S a = 3 → (qu S a).Nodup ∧ (∀ b ∈ qu S a, b ∈ ob S ∧ ls (kd S b) ∧ cm S b = 1) ∧ ∀ q ∈ ob S, kd S q = 3 → q ≠ a → ∀ b ∈ qu S a, b ∉ qu S q)
def WF (S : St) : Prop :=
  (ob S).Nodup ∧ (∀ a ∈ ob S, WFa S a) ∧ us S ≤ rm S ∧ 600 ≤ rm S ∧ rm S ≤ 30000 ∧ cn S 0 = nI (us S) ∧ cn S 1 = nI (ob S).length ∧ cn S 7 = nI (nt S) ∧ scOK (nt S) (sc S) ∧ (sc S).length ≤ 20 ∧ ∀ i < nt S, ∀ b, rt S i = some b → b ∈ ob S
theorem cl_ge (S : St) (a : Nat) : 2 ≤ cl S a := by
  unfold cl clN; split <;> try split <;> try split
  all_goals omega
theorem us_ge (S : St) (l : List Nat) : 2 * l.length ≤ (l.map (cl S)).sum := by
  induction l with
  | nil => simp
  | cons a l ih => have := cl_ge S a; simp only [List.map_cons, List.sum_cons, List.length_cons]; omega
theorem WF.len {S : St} (h : WF S) : (ob S).length ≤ 15000 := by
  have := us_ge S (ob S)
  have h1 := h.2.2.1; have h2 := h.2.2.2.2.1
  unfold us at h1
  omega
theorem WF.nt {S : St} (h : WF S) : 64 ≤ nt S ∧ nt S ≤ 384 := by
  have := scOK_le h.2.2.2.2.2.2.2.2.1
  have h1 := h.2.2.2.2.2.2.2.2.2.1
  omega
/-! What a whole collection keeps. -/
def Cls (S : St) (sf : Int32) (X : Nat → Prop) : Prop :=
  (∀ i < nt S, ∀ b, rt S i = some b → X b) ∧ (∀ a, X a → ∀ j < nr S a, ∀ b, rf S a j = some b → X b) ∧ (∀ a, X a → kd S a = 3 → ∀ b ∈ qu S a, X b) ∧
  (∀ a, X a → ls (kd S a) → cm S a = 0 → ∀ b, li S a = some b → X b) ∧ (∀ a, X a → kd S a = 4 → sf = 0 → ∀ b, re S a = some b → X b) ∧
  (∀ a, X a → kd S a = 7 → ∀ r b, re S a = some r → X r → va S a = some b → X b)
def Rch (S : St) (sf : Int32) (a : Nat) : Prop := ∀ X : Nat → Prop, Cls S sf X → X a
theorem Rch_cls (S : St) (sf : Int32) : Cls S sf (Rch S sf) :=
  ⟨fun i hi b hb X hX => hX.1 i hi b hb, fun a ha j hj b hb X hX => hX.2.1 a (ha X hX) j hj b hb, fun a ha hk b hb X hX => hX.2.2.1 a (ha X hX) hk b hb, fun a ha hk hc b hb X hX => hX.2.2.2.1 a (ha X hX) hk hc b hb,
   fun a ha hk hs b hb X hX => hX.2.2.2.2.1 a (ha X hX) hk hs b hb, fun a ha hk r b hr hR hb X hX => hX.2.2.2.2.2 a (ha X hX) hk r b hr (hR X hX) hb⟩
theorem ls_no3 {k : Int32} (h : ls k) : k ≠ 3 := by rcases h with rfl | rfl | rfl | rfl <;> decide
theorem ls_nohd {k : Int32} (h : ls k) : ¬ hd k := by rcases h with rfl | rfl | rfl | rfl <;> simp [hd] <;> decide
theorem hd_no3 {k : Int32} (h : hd k) : k ≠ 3 := by rcases h with rfl | rfl | rfl <;> decide
theorem no3_hd : ¬ hd 3 := by simp [hd]
theorem no3_ls : ¬ ls 3 := by simp [ls]
theorem ls4 : ls 4 := Or.inl rfl
theorem ls7 : ls 7 := Or.inr (Or.inr (Or.inr rfl))
theorem Rch_ob {S : St} (hW : WF S) {sf : Int32} {a : Nat} (h : Rch S sf a) : a ∈ ob S := by
  refine h (fun x => x ∈ ob S) ⟨fun i hi b hb => hW.2.2.2.2.2.2.2.2.2.2 i hi b hb, fun a ha j hj b hb => (hW.2.1 a ha).2.2.2.2.2.2.1 j hj b hb, fun a ha hk b hb => (((hW.2.1 a ha).2.2.2.2.2.2.2.2 hk).2.1 b hb).1, fun a ha hk hc b hb => (((hW.2.1 a ha).2.2.2.2.2.2.2.1 hk).2.2.2 hc b hb).1,
    fun a ha hk _ b hb => ((hW.2.1 a ha).2.2.2.2.2.2.2.1 (by rw [hk]; exact ls4)).1 b hb, fun a ha hk r b _ _ hb => (((hW.2.1 a ha).2.2.2.2.2.2.2.1 (by rw [hk]; exact ls7)).2.1 b hb).1⟩
noncomputable section ABS
def rls (S : St) (sf : Int32) : List Nat := by classical exact (ob S).filter (fun a => decide (Rch S sf a))
def gls (S : St) (sf : Int32) : List Nat := by classical exact (ob S).filter (fun a => decide (ls (kd S a) ∧ Rch S sf a ∧ ∃ r, re S a = some r ∧ ¬ Rch S sf r))
theorem mem_rls {S : St} {sf : Int32} {a : Nat} : a ∈ rls S sf ↔ a ∈ ob S ∧ Rch S sf a := by unfold rls; simp
theorem mem_gls {S : St} {sf : Int32} {a : Nat} : a ∈ gls S sf ↔ a ∈ ob S ∧ ls (kd S a) ∧ Rch S sf a ∧ ∃ r, re S a = some r ∧ ¬ Rch S sf r := by unfold gls; simp
/-- counters -/
def wC (S : St) (k : Nat) (x : Int32) : St := (S.1, S.2.1, S.2.2.1, S.2.2.2.1, S.2.2.2.2.1, S.2.2.2.2.2.1, up1 (cn S) k x, S.2.2.2.2.2.2.2)
def wH (S : St) (x : Hp) : St := (x, S.2)
def wQ (S : St) (a : Nat) (l : List Nat) : St := (S.1, S.2.1, up1 (qu S) a l, S.2.2.2)
def wR (S : St) (i : Nat) (o : Option Nat) : St := (S.1, S.2.1, S.2.2.1, up1 (rt S) i o, S.2.2.2.2)
def wO (S : St) (l : List Nat) : St := (S.1, l, S.2.2)
/-- a loose one comes to its queue, if it has one and hasn't yet come -/
def tells (S : St) (a : Nat) : Prop := li S a ≠ none ∧ cm S a = 0
def tell (S : St) (a : Nat) : St :=
  match li S a with
  | none => S
  | some q => if cm S a = 0 then wC (wQ (wH S (pI S.1 16 a 1)) q (qu S q ++ [a])) 4 (cn S 4 + 1) else S
def frg (S : St) (a : Nat) : St := wH S (pR (pR S.1 13 a none) 14 a none)
def lgo (S : St) (a : Nat) : St := tell (wC (frg S a) 5 (cn S 5 + 1)) a
def colA (S : St) (sf : Int32) : St := (gls S sf).foldl lgo (wC S 3 (cn S 3 + 1))
def coll (S : St) (sf : Int32) : St :=
  let S1 := wO (colA S sf) (rls S sf)
  wC (wC S1 1 (nI (rls S sf).length)) 0 (nI (us S1))
/-- room for c cells -/
def fitS (S : St) (c : Nat) : Prop := us S + c ≤ rm S
def roomA (S : St) (c : Nat) : St := by classical exact if fitS S c then S else coll S 0
def roomB (S : St) (c : Nat) : St := by classical exact if fitS (roomA S c) c then roomA S c else coll (roomA S c) 1
/-- a new object a of kind k with n1 refs and n2 numbers, in the root i -/
def mkS (S : St) (a i : Nat) (k : Int32) (n1 n2 : Nat) (o1 o2 o3 : Option Nat) : St :=
  let c := clN k (n1 + n2)
  (pR (pR (pR (pI (nA (nO S.1 a n1) a n1 n2) 0 a k) 13 a o1) 14 a o2) 15 a o3, ob S ++ [a], up1 (qu S) a [], up1 (rt S) i (some a), nt S, sc S,
    up1 (up1 (up1 (up1 (cn S) 2 (cn S 2 + 1)) 1 (cn S 1 + 1)) 0 (cn S 0 + nI c)) 6 (j_mx (cn S 6) (cn S 0 + nI c)), rm S)
end ABS
