/-! THE PURE PART: numbers, lists, the heap's reads. -/
theorem nI_lt' {a b : Nat} (ha : a < 2 ^ 31) (hb : b < 2 ^ 31) : nI a < nI b ↔ a < b := by
  rw [Int32.lt_iff_toInt_lt, nI_toInt ha, nI_toInt hb]; omega
theorem nI_le' {a b : Nat} (ha : a < 2 ^ 31) (hb : b < 2 ^ 31) : nI a ≤ nI b ↔ a ≤ b := by
  rw [Int32.le_iff_toInt_le, nI_toInt ha, nI_toInt hb]; omega
theorem nI_in' {j n : Nat} (hj : j < 2 ^ 31) : vp_in (nI j) n ↔ j < n := by
  unfold vp_in
  rw [nI_clamp hj]
  constructor
  · intro h; exact Nat.not_le.mp fun q => h (Or.inr q)
  · rintro h (q | q)
    · exact nI_pos hj q
    · omega
theorem nI_ex {x : Int32} (h : ¬ x < 0) : ∃ n : Nat, n < 2 ^ 31 ∧ x = nI n := by
  have h0 : 0 ≤ x.toInt := by
    have e : ¬ x.toInt < (0 : Int32).toInt := fun q => h (Int32.lt_iff_toInt_lt.mpr q)
    have : (0 : Int32).toInt = 0 := rfl
    omega
  have h1 := Int32.toInt_lt x
  refine ⟨x.toInt.toNat, by omega, Int32.toInt_inj.mp ?_⟩
  rw [nI_toInt (by omega)]; omega
theorem nI_ex' {x : Int32} (h : 0 ≤ x) : ∃ n : Nat, n < 2 ^ 31 ∧ x = nI n := nI_ex (fun q => by
  have := Int32.lt_iff_toInt_lt.mp q; have := Int32.le_iff_toInt_le.mp h; omega)
theorem i32_nlt {x y : Int32} : ¬ x < y ↔ y ≤ x := by rw [Int32.lt_iff_toInt_lt, Int32.le_iff_toInt_le]; omega
theorem i32_nle {x y : Int32} : ¬ x ≤ y ↔ y < x := by rw [Int32.lt_iff_toInt_lt, Int32.le_iff_toInt_le]; omega
theorem nI_sub {a b : Nat} (h : b ≤ a) : nI a - nI b = nI (a - b) := by
  have : nI a = nI (a - b) + nI b := by rw [nI_add, Nat.sub_add_cancel h]
  rw [this]; exact Int32.add_sub_cancel _ _
theorem nI_inj {a b : Nat} (ha : a < 2 ^ 31) (hb : b < 2 ^ 31) (h : nI a = nI b) : a = b := (nI_eq ha hb).mp h
theorem nI_z {a : Nat} (ha : a < 2 ^ 31) : nI a = 0 ↔ a = 0 := by rw [← nI_0]; exact nI_eq ha (by decide)
theorem vin {j n : Nat} (h : j < n) (hn : n < 2 ^ 31) : vp_in (nI j) n := (nI_in' (by omega)).mpr h
/-- lists linked by a field -/
def lnk (nx : Nat → Option Nat) : List Nat → Prop
  | [] => True
  | a :: l => nx a = l.head? ∧ lnk nx l
theorem lnk_congr {nx nx' : Nat → Option Nat} : ∀ {l : List Nat}, lnk nx l → (∀ a ∈ l, nx' a = nx a) → lnk nx' l
  | [], _, _ => trivial
  | a :: l, h, e => ⟨by rw [e a List.mem_cons_self]; exact h.1, lnk_congr h.2 fun b hb => e b (List.mem_cons_of_mem _ hb)⟩
theorem lnk_snoc {nx nx' : Nat → Option Nat} {a : Nat} : ∀ {l : List Nat}, lnk nx l → (∀ b ∈ l, some b ≠ l.getLast? → nx' b = nx b) → (∀ b, l.getLast? = some b → nx' b = some a) → nx' a = none → l.Nodup → lnk nx' (l ++ [a])
  | [], _, _, _, h, _ => ⟨h, trivial⟩
  | [b], _, _, h2, h, _ => ⟨h2 b rfl, h, trivial⟩
  | b :: c :: l, hl, h1, h2, h, hn => by
    have hn' := List.nodup_cons.mp hn
    refine ⟨?_, lnk_snoc (l := c :: l) hl.2 (fun d hd hne => h1 d (List.mem_cons_of_mem _ hd) (by simpa using hne)) (fun d hd => h2 d (by simpa using hd)) h hn'.2⟩
    rw [h1 b List.mem_cons_self (fun e => ?_)]
    · exact hl.1
    · have hm : b ∈ c :: l := List.mem_of_getLast? (by simpa using e.symm)
      exact hn'.1 hm
theorem lnk_app {nx : Nat → Option Nat} : ∀ {l m : List Nat}, lnk nx (l ++ m) → lnk nx m
  | [], _, h => h
  | _ :: l, m, h => lnk_app (l := l) h.2
/-- two lists, one behind the other -/
theorem lnk_join {nx nx' : Nat → Option Nat} {m : List Nat} : ∀ {l : List Nat}, lnk nx l → lnk nx' m → (∀ b ∈ l, some b ≠ l.getLast? → nx' b = nx b) → (∀ b, l.getLast? = some b → nx' b = m.head?) → l.Nodup → lnk nx' (l ++ m)
  | [], _, h, _, _, _ => h
  | [b], _, h, _, h2, _ => ⟨h2 b rfl, h⟩
  | b :: c :: l, hl, hm, h1, h2, hn => by
    have hn' := List.nodup_cons.mp hn
    refine ⟨?_, lnk_join (l := c :: l) hl.2 hm (fun d hd hne => h1 d (List.mem_cons_of_mem _ hd) (by simpa using hne)) (fun d hd => h2 d (by simpa using hd)) hn'.2⟩
    rw [h1 b List.mem_cons_self (fun e => ?_)]
    · exact hl.1
    · have hm : b ∈ c :: l := List.mem_of_getLast? (by simpa using e.symm)
      exact hn'.1 hm
section READS
variable (h : Hp) (k a k' a' i : Nat) (x : Int32) (z : Int64) (o : Option Nat) (t n : Nat)
theorem up2_eq {α : Type} (f : Nat → Nat → α) (x : α) : up2 f k a x k' a' = if k' = k ∧ a' = a then x else f k' a' := by
  unfold up2; by_cases h1 : k' = k <;> by_cases h2 : a' = a <;> simp [h1, h2]
theorem fI_pI : fI (pI h k a x) k' a' = if k' = k ∧ a' = a then x else fI h k' a' := up2_eq k a k' a' (fI h) x
theorem fR_pR : fR (pR h k a o) k' a' = if k' = k ∧ a' = a then o else fR h k' a' := up2_eq k a k' a' (fR h) o
theorem aI_qI : aI (qI h a i x) a' k' = if a' = a ∧ k' = i then x else aI h a' k' := up2_eq a i a' k' (aI h) x
theorem aL_qL : aL (qL h a i z) a' k' = if a' = a ∧ k' = i then z else aL h a' k' := up2_eq a i a' k' (aL h) z
theorem aR_qR : aR (qR h a i o) a' k' = if a' = a ∧ k' = i then o else aR h a' k' := up2_eq a i a' k' (aR h) o
theorem tg_pI : tg (pI h k a x) = tg h := rfl
theorem tg_pR : tg (pR h k a o) = tg h := rfl
theorem tg_qI : tg (qI h a i x) = tg h := rfl
theorem tg_qL : tg (qL h a i z) = tg h := rfl
theorem tg_qR : tg (qR h a i o) = tg h := rfl
theorem ln_pI : ln (pI h k a x) = ln h := rfl
theorem ln_pR : ln (pR h k a o) = ln h := rfl
theorem ln_qI : ln (qI h a i x) = ln h := rfl
theorem ln_qL : ln (qL h a i z) = ln h := rfl
theorem ln_qR : ln (qR h a i o) = ln h := rfl
theorem fR_pI : fR (pI h k a x) = fR h := rfl
theorem fI_pR : fI (pR h k a o) = fI h := rfl
theorem fI_qI : fI (qI h a i x) = fI h := rfl
theorem fI_qL : fI (qL h a i z) = fI h := rfl
theorem fI_qR : fI (qR h a i o) = fI h := rfl
theorem fR_qI : fR (qI h a i x) = fR h := rfl
theorem fR_qL : fR (qL h a i z) = fR h := rfl
theorem fR_qR : fR (qR h a i o) = fR h := rfl
theorem aI_pI : aI (pI h k a x) = aI h := rfl
theorem aI_pR : aI (pR h k a o) = aI h := rfl
theorem aI_qL : aI (qL h a i z) = aI h := rfl
theorem aI_qR : aI (qR h a i o) = aI h := rfl
theorem aL_pI : aL (pI h k a x) = aL h := rfl
theorem aL_pR : aL (pR h k a o) = aL h := rfl
theorem aL_qI : aL (qI h a i x) = aL h := rfl
theorem aL_qR : aL (qR h a i o) = aL h := rfl
theorem aR_pI : aR (pI h k a x) = aR h := rfl
theorem aR_pR : aR (pR h k a o) = aR h := rfl
theorem aR_qI : aR (qI h a i x) = aR h := rfl
theorem aR_qL : aR (qL h a i z) = aR h := rfl
theorem tg_nO' : tg (nO h a t) a' = if a' = a then t else tg h a' := rfl
theorem tg_nA' : tg (nA h a t n) a' = if a' = a then t else tg h a' := rfl
theorem fI_nO' : fI (nO h a t) k' a' = if a' = a then 0 else fI h k' a' := rfl
theorem fR_nO' : fR (nO h a t) k' a' = if a' = a then none else fR h k' a' := rfl
theorem fI_nA : fI (nA h a t n) = fI h := rfl
theorem fR_nA : fR (nA h a t n) = fR h := rfl
theorem ln_nO : ln (nO h a t) = ln h := rfl
theorem ln_nA' : ln (nA h a t n) a' = if a' = a then n else ln h a' := rfl
theorem aI_nO : aI (nO h a t) = aI h := rfl
theorem aL_nO : aL (nO h a t) = aL h := rfl
theorem aR_nO : aR (nO h a t) = aR h := rfl
theorem aI_nA' : aI (nA h a t n) a' k' = if a' = a then 0 else aI h a' k' := by show up1 (aI h) a (fun _ => 0) a' k' = _; unfold up1; by_cases e : a' = a <;> simp [e]
theorem aL_nA' : aL (nA h a t n) a' k' = if a' = a then 0 else aL h a' k' := by show up1 (aL h) a (fun _ => 0) a' k' = _; unfold up1; by_cases e : a' = a <;> simp [e]
theorem aR_nA' : aR (nA h a t n) a' k' = if a' = a then none else aR h a' k' := by show up1 (aR h) a (fun _ => none) a' k' = _; unfold up1; by_cases e : a' = a <;> simp [e]
theorem fIx (hk : k' ≠ k) : fI (pI h k a x) k' = fI h k' := by funext b; rw [fI_pI, if_neg (fun q => hk q.1)]
theorem fRx (hk : k' ≠ k) : fR (pR h k a o) k' = fR h k' := by funext b; rw [fR_pR, if_neg (fun q => hk q.1)]
theorem aIx (hk : a' ≠ a) : aI (qI h a i x) a' = aI h a' := by funext b; rw [aI_qI, if_neg (fun q => hk q.1)]
theorem aLx (hk : a' ≠ a) : aL (qL h a i z) a' = aL h a' := by funext b; rw [aL_qL, if_neg (fun q => hk q.1)]
theorem aRx (hk : a' ≠ a) : aR (qR h a i o) a' = aR h a' := by funext b; rw [aR_qR, if_neg (fun q => hk q.1)]
end READS
