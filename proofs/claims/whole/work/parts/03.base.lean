/-! THE HEAP BY FIELDS, THE JUDGEMENT J, CONTRACTS.
A value of the machine as this text sees it: an int, a reference or null, a long. -/
abbrev AV : Type := Int32 ⊕ Option Nat ⊕ Int64
abbrev vi (x : Int32) : AV := .inl x
abbrev vr (o : Option Nat) : AV := .inr (.inl o)
abbrev vl (x : Int64) : AV := .inr (.inr x)
def tv : AV → Value
  | .inl x => .int x
  | .inr (.inl o) => va_rf o
  | .inr (.inr x) => .long x
def isL : AV → Bool
  | .inr (.inr _) => true
  | _ => false
theorem tv_c1 {v : AV} (h : isL v = false) : (tv v).category = 1 := by
  rcases v with x | o | x
  · rfl
  · cases o <;> rfl
  · cases h
theorem tv_c2 {v : AV} : ((tv v).category == 2) = isL v := by
  rcases v with x | o | x
  · rfl
  · cases o <;> rfl
  · rfl
/-- the local variables, by their places -/
def asg : Nat → List (Option AV) → List (Nat × Value)
  | _, [] => []
  | i, none :: r => asg (i + 1) r
  | i, some v :: r => (i, tv v) :: asg (i + 1) r
theorem asg_mem {q : Nat × Value} : ∀ (lo : List (Option AV)) (i : Nat), q ∈ asg i lo ↔ ∃ (d : Nat) (v : AV), lo[d]? = some (some v) ∧ q = (i + d, tv v) := by
  intro lo
  induction lo with
  | nil => intro i; simp [asg]
  | cons x r ih =>
    intro i
    have hr : q ∈ asg (i + 1) r ↔ ∃ (d : Nat) (v : AV), (x :: r)[d + 1]? = some (some v) ∧ q = (i + (d + 1), tv v) := by
      rw [ih (i + 1)]
      constructor
      · rintro ⟨d, v, h1, h2⟩; exact ⟨d, v, by simpa using h1, by rw [h2]; congr 1; omega⟩
      · rintro ⟨d, v, h1, h2⟩; exact ⟨d, v, by simpa using h1, by rw [h2]; congr 1; omega⟩
    cases x with
    | none =>
      show q ∈ asg (i + 1) r ↔ _
      rw [hr]
      constructor
      · rintro ⟨d, v, h1, h2⟩; exact ⟨d + 1, v, h1, h2⟩
      · rintro ⟨d, v, h1, h2⟩
        cases d with
        | zero => simp at h1
        | succ d => exact ⟨d, v, h1, h2⟩
    | some w =>
      show q ∈ (i, tv w) :: asg (i + 1) r ↔ _
      rw [List.mem_cons, hr]
      constructor
      · rintro (h | ⟨d, v, h1, h2⟩)
        · exact ⟨0, w, by simp, by rw [h]; rfl⟩
        · exact ⟨d + 1, v, h1, h2⟩
      · rintro ⟨d, v, h1, h2⟩
        cases d with
        | zero => left; simp at h1; rw [h2, h1]; rfl
        | succ d => right; exact ⟨d, v, h1, h2⟩
def LR (ls : Array Slot) (lo : List (Option AV)) : Prop := ls.size = lo.length ∧ lv_wf ls ∧ ∀ (i : Nat) (v : AV), lo[i]? = some (some v) → ls[i]? = some (.val (tv v))
theorem LR.has {ls : Array Slot} {lo : List (Option AV)} (h : LR ls lo) : lv_has ls lo.length (asg 0 lo) := by
  refine ⟨h.1, h.2.1, fun q hq => ?_⟩
  obtain ⟨d, v, h1, h2⟩ := (asg_mem lo 0).mp hq
  rw [h2]
  simpa using h.2.2 d v h1
theorem LR.find {lo : List (Option AV)} {z : Nat} {v : AV} (h : lo[z]? = some (some v)) : ∃ j : Nat, (asg 0 lo)[j]? = some (z, tv v) :=
  List.getElem?_of_mem ((asg_mem lo 0).mpr ⟨z, v, h, by rw [Nat.zero_add]⟩)
def kz : Option AV → Option AV
  | some (.inr (.inr _)) => none
  | x => x
theorem kz_some {x : Option AV} {w : AV} (h : kz x = some w) : x = some w ∧ isL w = false := by
  rcases x with _ | x
  · cases h
  · rcases x with x | o | x
    · cases h; exact ⟨rfl, rfl⟩
    · cases h; exact ⟨rfl, rfl⟩
    · cases h
def s1 : List (Option AV) → Nat → AV → List (Option AV)
  | [], _, _ => []
  | _ :: r, 0, v => some v :: r
  | x :: r, 1, v => kz x :: s1 r 0 v
  | x :: r, i + 2, v => x :: s1 r (i + 1) v
theorem s1_len : ∀ (lo : List (Option AV)) (i : Nat) (v : AV), (s1 lo i v).length = lo.length := by
  intro lo
  induction lo with
  | nil => intro i v; simp [s1]
  | cons x r ih =>
    intro i v
    match i with
    | 0 => simp [s1]
    | 1 => simp [s1, ih]
    | i + 2 => simp [s1, ih]
theorem s1_at : ∀ (lo : List (Option AV)) (i : Nat) (v : AV) (j : Nat) (w : AV), (s1 lo i v)[j]? = some (some w) → (j = i ∧ w = v) ∨ (j ≠ i ∧ lo[j]? = some (some w) ∧ (j + 1 = i → isL w = false)) := by
  intro lo
  induction lo with
  | nil => intro i v j w h; simp [s1] at h
  | cons x r ih =>
    intro i v j w h
    match i, j with
    | 0, 0 => left; simp [s1] at h; exact ⟨rfl, h.symm⟩
    | 0, j + 1 => right; simp [s1] at h; exact ⟨by omega, by simpa using h, fun e => by omega⟩
    | 1, 0 => right; simp [s1] at h; have := kz_some h; exact ⟨by omega, by simp [this.1], fun _ => this.2⟩
    | 1, j + 1 =>
      simp only [s1, List.getElem?_cons_succ] at h
      rcases ih 0 v j w h with ⟨h1, h2⟩ | ⟨h1, h2, h3⟩
      · left; exact ⟨by omega, h2⟩
      · right; exact ⟨by omega, by simpa using h2, fun e => by omega⟩
    | i + 2, 0 => right; simp [s1] at h; exact ⟨by omega, by simp [h], fun e => by omega⟩
    | i + 2, j + 1 =>
      simp only [s1, List.getElem?_cons_succ] at h
      rcases ih (i + 1) v j w h with ⟨h1, h2⟩ | ⟨h1, h2, h3⟩
      · left; exact ⟨by omega, h2⟩
      · right; exact ⟨by omega, by simpa using h2, fun e => h3 (by omega)⟩
def s2 : List (Option AV) → Nat → AV → List (Option AV)
  | [], _, _ => []
  | [_], 0, v => [some v]
  | _ :: _ :: r, 0, v => some v :: none :: r
  | x :: r, 1, v => kz x :: s2 r 0 v
  | x :: r, i + 2, v => x :: s2 r (i + 1) v
theorem s2_len : ∀ (lo : List (Option AV)) (i : Nat) (v : AV), (s2 lo i v).length = lo.length := by
  intro lo
  induction lo with
  | nil => intro i v; simp [s2]
  | cons x r ih =>
    intro i v
    match i with
    | 0 => cases r <;> simp [s2]
    | 1 => cases r <;> simp [s2, ih]
    | i + 2 => cases r <;> simp [s2, ih]
theorem s2_at : ∀ (lo : List (Option AV)) (i : Nat) (v : AV) (j : Nat) (w : AV), (s2 lo i v)[j]? = some (some w) → (j = i ∧ w = v) ∨ (j ≠ i ∧ j ≠ i + 1 ∧ lo[j]? = some (some w) ∧ (j + 1 = i → isL w = false)) := by
  intro lo
  induction lo with
  | nil => intro i v j w h; simp [s2] at h
  | cons x r ih =>
    intro i v j w h
    match i, j with
    | 0, 0 => left; cases r <;> simp [s2] at h <;> exact ⟨rfl, h.symm⟩
    | 0, 1 => cases r <;> simp [s2] at h
    | 0, j + 2 =>
      right
      cases r with
      | nil => simp [s2] at h
      | cons y r => simp [s2] at h; exact ⟨by omega, by omega, by simpa using h, fun e => by omega⟩
    | 1, 0 => right; cases r <;> simp [s2] at h <;> (have := kz_some h; exact ⟨by omega, by omega, by simp [this.1], fun _ => this.2⟩)
    | 1, j + 1 =>
      have h' : (s2 r 0 v)[j]? = some (some w) := by cases r <;> simpa [s2] using h
      rcases ih 0 v j w h' with ⟨h1, h2⟩ | ⟨h1, h2, h3, h4⟩
      · left; exact ⟨by omega, h2⟩
      · right; exact ⟨by omega, by omega, by simpa using h3, fun e => by omega⟩
    | i + 2, 0 => right; cases r <;> simp [s2] at h <;> exact ⟨by omega, by omega, by simp [h], fun e => by omega⟩
    | i + 2, j + 1 =>
      have h' : (s2 r (i + 1) v)[j]? = some (some w) := by cases r <;> simpa [s2] using h
      rcases ih (i + 1) v j w h' with ⟨h1, h2⟩ | ⟨h1, h2, h3, h4⟩
      · left; exact ⟨by omega, h2⟩
      · right; exact ⟨by omega, by omega, by simpa using h3, fun e => h4 (by omega)⟩
theorem LR.s1 {ls ls' : Array Slot} {lo lo' : List (Option AV)} {i : Nat} {v : AV} {w : Value} (hL : LR ls lo) (hn : i < lo.length) (h : lv_has ls' lo.length ((i, w) :: (asg 0 lo).filter (fun q => !(q.1 == i) && !(q.1 + 1 == i && q.2.category == 2)))) (hl : s1 lo i v = lo') (hw : tv v = w := by rfl) : LR ls' lo' := by
  subst hl; subst hw
  refine ⟨by rw [s1_len]; exact h.1, h.2.1, fun j u hj => ?_⟩
  rcases s1_at lo i v j u hj with ⟨rfl, rfl⟩ | ⟨h1, h2, h3⟩
  · exact h.2.2 _ List.mem_cons_self
  · refine h.2.2 (j, tv u) (List.mem_cons_of_mem _ (List.mem_filter.mpr ⟨(asg_mem lo 0).mpr ⟨j, u, h2, by rw [Nat.zero_add]⟩, ?_⟩))
    simp only [tv_c2]
    by_cases e : j + 1 = i
    · simp [h1, h3 e]
    · simp [h1, e]
theorem LR.s2 {ls ls' : Array Slot} {lo lo' : List (Option AV)} {i : Nat} {v : AV} {w : Value} (hL : LR ls lo) (hn : i + 1 < lo.length) (h : lv_has ls' lo.length ((i, w) :: (asg 0 lo).filter (fun q => !(q.1 == i) && (!(q.1 == i + 1) && !(q.1 + 1 == i && q.2.category == 2))))) (hl : s2 lo i v = lo') (hw : tv v = w := by rfl) : LR ls' lo' := by
  subst hl; subst hw
  refine ⟨by rw [s2_len]; exact h.1, h.2.1, fun j u hj => ?_⟩
  rcases s2_at lo i v j u hj with ⟨rfl, rfl⟩ | ⟨h1, h1', h2, h3⟩
  · exact h.2.2 _ List.mem_cons_self
  · refine h.2.2 (j, tv u) (List.mem_cons_of_mem _ (List.mem_filter.mpr ⟨(asg_mem lo 0).mpr ⟨j, u, h2, by rw [Nat.zero_add]⟩, ?_⟩))
    simp only [tv_c2]
    by_cases e : j + 1 = i
    · simp [h1, h1', h3 e]
    · simp [h1, h1', e]
/-- THE HEAP: what kind of cell stands at an address (0: none that is told of; 1 Chain, 2 Holder, 3 Line, 4 Loose, 5 Tour, 6 RefHeap, 7 RefHeapModel, 8 int[], 9 long[], 10 boolean[], 11 Thing[]); the int fields and the reference fields, by their number and the address; lengths; ints, longs and references in arrays. -/
abbrev Hp : Type := (Nat → Nat) × (Nat → Nat → Int32) × (Nat → Nat → Option Nat) × (Nat → Nat) × (Nat → Nat → Int32) × (Nat → Nat → Int64) × (Nat → Nat → Option Nat)
def tg (h : Hp) : Nat → Nat := h.1
def fI (h : Hp) : Nat → Nat → Int32 := h.2.1
def fR (h : Hp) : Nat → Nat → Option Nat := h.2.2.1
def ln (h : Hp) : Nat → Nat := h.2.2.2.1
def aI (h : Hp) : Nat → Nat → Int32 := h.2.2.2.2.1
def aL (h : Hp) : Nat → Nat → Int64 := h.2.2.2.2.2.1
def aR (h : Hp) : Nat → Nat → Option Nat := h.2.2.2.2.2.2
def up2 {α : Type} (f : Nat → Nat → α) (k a : Nat) (x : α) : Nat → Nat → α := fun k' a' => if k' = k then (if a' = a then x else f k' a') else f k' a'
def up1 {α : Type} (f : Nat → α) (a : Nat) (x : α) : Nat → α := fun a' => if a' = a then x else f a'
def upc {α : Type} (f : Nat → Nat → α) (a : Nat) (x : α) : Nat → Nat → α := fun k' a' => if a' = a then x else f k' a'
def pI (h : Hp) (k a : Nat) (x : Int32) : Hp := (h.1, up2 (fI h) k a x, h.2.2)
def pR (h : Hp) (k a : Nat) (x : Option Nat) : Hp := (h.1, h.2.1, up2 (fR h) k a x, h.2.2.2)
def qI (h : Hp) (a i : Nat) (x : Int32) : Hp := (h.1, h.2.1, h.2.2.1, h.2.2.2.1, up2 (aI h) a i x, h.2.2.2.2.2)
def qL (h : Hp) (a i : Nat) (x : Int64) : Hp := (h.1, h.2.1, h.2.2.1, h.2.2.2.1, h.2.2.2.2.1, up2 (aL h) a i x, h.2.2.2.2.2.2)
def qR (h : Hp) (a i : Nat) (x : Option Nat) : Hp := (h.1, h.2.1, h.2.2.1, h.2.2.2.1, h.2.2.2.2.1, h.2.2.2.2.2.1, up2 (aR h) a i x)
/-- a new object: all its fields 0 or null -/
def nO (h : Hp) (a t : Nat) : Hp := (up1 (tg h) a t, upc (fI h) a 0, upc (fR h) a none, h.2.2.2)
/-- a new array -/
def nA (h : Hp) (a t n : Nat) : Hp := (up1 (tg h) a t, h.2.1, h.2.2.1, up1 (ln h) a n, up1 (aI h) a (fun _ => 0), up1 (aL h) a (fun _ => 0), up1 (aR h) a (fun _ => none))
/-- the fields of the classes of vwCl by their slots: an int field's number or a reference field's -/
def fl : Nat → List (Nat ⊕ Nat)
  | 0 => [.inr 19, .inr 20, .inl 21, .inl 22]
  | 1 => [.inl 0, .inl 1, .inl 2, .inr 3, .inl 4, .inl 5, .inr 6, .inr 7, .inr 8, .inr 9]
  | 2 => [.inl 0, .inl 1, .inl 2, .inr 3, .inl 4, .inl 5, .inr 6, .inr 7, .inr 10, .inr 11, .inl 12]
  | 3 => [.inl 0, .inl 1, .inl 2, .inr 3, .inl 4, .inl 5, .inr 6, .inr 7, .inr 13, .inr 14, .inr 15, .inl 16, .inr 17, .inr 18]
  | 4 => [.inr 23, .inr 24, .inl 25, .inl 26]
  | 5 => [.inl 27, .inl 28, .inr 29, .inr 30, .inr 31, .inr 32, .inr 33, .inr 34, .inl 35, .inl 36, .inl 37]
  | 6 => [.inl 40, .inl 41, .inr 42, .inr 43, .inr 44, .inr 45, .inr 46, .inr 47, .inr 48, .inr 49, .inr 50, .inr 51, .inr 52, .inr 53, .inr 54, .inr 55, .inr 56, .inl 57, .inl 58, .inl 59, .inl 60, .inr 61, .inr 62, .inl 63, .inl 64, .inl 65, .inl 66, .inl 67, .inl 68, .inl 69, .inl 70, .inl 71, .inl 72, .inl 73, .inl 74]
  | _ => []
def fv (h : Hp) (a : Nat) : Nat ⊕ Nat → Value
  | .inl g => .int (fI h g a)
  | .inr g => va_rf (fR h g a)
def ce (dA : Nat → ClassId) (h : Hp) (a : Nat) : Option va_E :=
  match tg h a with
  | 0 => none
  | 8 => some (.inl (dA 0, ln h a, .inl (aI h a)))
  | 9 => some (.inl (dA 1, ln h a, .inr (.inl (aL h a))))
  | 10 => some (.inl (dA 2, ln h a, .inl (aI h a)))
  | 11 => some (.inl (dA 3, ln h a, .inr (.inr (.inr (.inr (aR h a))))))
  | t + 1 => some (.inr (t, (fl t).map (fv h a)))
def HR (D : va_G) (dA : Nat → ClassId) (sz : Nat) (h : Hp) (H : Heap) : Prop := ∀ (a : Nat) (e : va_E), ce dA h a = some e → sz ≤ a ∧ va_at D vwCl (a, e) H
def tys (dA : Nat → ClassId) : List (ClassId × FieldType) := [(dA 0, .int), (dA 1, .long), (dA 2, .boolean), (dA 3, .object "RefHeap$Thing")]
/-- words that hold along the whole run though they aren't among the good ones -/
def nwk : Cond → Bool
  | .castable .. => true
  | .declares _ => true
  | .methodLinkNest .. => true
  | _ => false
theorem nwk_warm {w : Cond} {s U : State} (hW : s.WarmedH U.vm) (h : nwk w = true) (hZ : va_Nw w s) : va_Nw w U := by
  cases w <;> first | (exact va_Nw.warmC hW hZ) | (exact va_Nw.warmD hW hZ) | (exact va_Nw.warmM hW hZ) | (exact absurd h (by simp [nwk]))
def ncs : List (String × String) := [("RefHeap$Holder", "RefHeap$Line"), ("RefHeap$Holder", "RefHeap$Loose"), ("RefHeap$Line", "RefHeap$Holder"), ("RefHeap$Line", "RefHeap$Loose"), ("RefHeap$Loose", "RefHeap$Holder"), ("RefHeap$Loose", "RefHeap$Line"), ("java/lang/IllegalStateException", "java/lang/IllegalArgumentException")]
def strs : List (Nat × String) := [(165, "too many scopes are open"), (170, "no scope is open"), (209, "a number is out of its range"), (212, "a number is below 0"), (214, "the root is null"), (216, "the root is no queue"), (218, "the root is no loose object"), (220, "the root is no pair"), (222, "the root is neither plain nor a row"), (228, "there is no such ref"), (230, "there is no such number")]
/-- what holds of the tables and of the cells that were there before the law began, at every state of the run -/
def WD (D : va_G) (dA : Nat → ClassId) (sz : Nat) (U : State) : Prop :=
  va_K D vwCl (tys dA) U ∧ va_AO "RefHeap$Thing" U ∧ (∀ w ∈ lw_tbl, nwk w = true → va_Nw w U) ∧ (∀ q ∈ ncs, va_Nc q.1 q.2 U) ∧ (∀ q ∈ strs, ∃ sa : Nat, vk_R RX6 q.1 q.2 sa U) ∧
  vx_Zq Bundle.tN "UNASSIGNED_STACK" Bundle.steD (fun q => sz ≤ q) U U.heap ∧ vx_Zq Bundle.tN "SUPPRESSED_SENTINEL" Bundle.listD (fun q => sz ≤ q) U U.heap
theorem WD.go {D : va_G} {dA : Nat → ClassId} {sz : Nat} {s U : State} (h : WD D dA sz s) (hW : s.WarmedH U.vm) (hq : ∀ a : Nat, a < s.heap.size → ¬ sz ≤ a → U.heap[a]? = s.heap[a]?) : WD D dA sz U := by
  obtain ⟨h1, h2, h3, h4, h5, h6, h7⟩ := h
  refine ⟨va_K.moved hW.alike h1, va_AO.moved hW.alike h2, fun w hw hn => nwk_warm hW hn (h3 w hw hn), fun q hq => va_Nc.moved hW.alike (h4 q hq), fun q hq => ?_, vx_Zq.moved hW.alike (h6.kept hq), vx_Zq.moved hW.alike (h7.kept hq)⟩
  obtain ⟨sa, hsa⟩ := h5 q hq
  exact ⟨sa, hsa.warm hW⟩
theorem WD.same {D : va_G} {dA : Nat → ClassId} {sz : Nat} {s U : State} (h : WD D dA sz s) (hv : U.vm = s.vm) (hh : U.heap = s.heap) : WD D dA sz U :=
  h.go (by rw [hv]; exact State.WarmedH.refl s) (fun a _ _ => by rw [hh])
/-- the good words -/
def BG : List Cond := lw_tbl.filter goodWord
theorem BG_good {hd : Cond} (hm : hd ∈ lw_tbl) (hg : goodWord hd = true) {big : List Cond} (hb : ∀ w ∈ BG, w ∈ big) : GoodIn big (hd :: BG) := by
  have hB : hd ∈ BG := List.mem_filter.mpr ⟨hm, hg⟩
  intro w hw
  rcases List.mem_cons.mp hw with rfl | h
  · exact ⟨hb _ hB, good_of_word hg⟩
  · exact ⟨hb w h, good_of_word (List.mem_filter.mp h).2⟩
def rmo (lv mc ms : Nat) : Room := { frames := 12 - lv, cells := mc, slots := ms, locals := 450 - 30 * lv }
def cQ (D : va_G) (dA : Nat → ClassId) (sz : Nat) (Q : Option AV ⊕ String → Hp → Prop) : Array Value → State → Outcome → State → Prop := fun _ st o t =>
  ∃ (v : Option AV) (h : Hp), o = .returned (v.map tv) ∧ Q (.inl v) h ∧ HR D dA sz h t.heap ∧ va_F (fun q => sz ≤ q) st t
def cX (D : va_G) (dA : Nat → ClassId) (sz : Nat) (Q : Option AV ⊕ String → Hp → Prop) : String → State → State → Prop := fun E st t =>
  ∃ h : Hp, Q (.inr E) h ∧ HR D dA sz h t.heap ∧ va_F (fun q => sz ≤ q) st t
def cP (D : va_G) (dA : Nat → ClassId) (sz : Nat) (av : List AV) (h : Hp) : Array Value → State → Prop := va_Pc (av.map tv) (fun U => WD D dA sz U ∧ HR D dA sz h U.heap ∧ sz ≤ U.heap.size)
/-- A CONTRACT: called at level lv with av in the heap h, the method ends with an outcome and a heap that Q allows (a value or none; or a thrown object of the class so named); at most mc cells of ms slots are new. -/
def Ctr (l : Launch) (D : va_G) (dA : Nat → ClassId) (sz : Nat) (hd : Cond) (y : MethodName) (lv : Nat) (av : List AV) (h : Hp) (mc ms : Nat) (Q : Option AV ⊕ String → Hp → Prop) : Prop :=
  vx_Met l y (hd :: BG) (rmo lv mc ms) (cP D dA sz av h) (cQ D dA sz Q) (cX D dA sz Q) mc ms (fun q => sz ≤ q)
/-- where a walk is: program, launch, environment, the state at the method's start, the method, its arguments, the frames below, its data and code; the tables' numbers; the first new address; level, cells and slots of the contract -/
abbrev Cx : Type := Program × Launch × Env × State × MethodId × Array Value × List Frame × Method × Code × va_G × (Nat → ClassId) × Nat × Nat × Nat × Nat
def OK (G : Cx) (cc : ByteArray) (nL : Nat) (own : String) (rt : Option FieldType) (tb : List ExceptionTableEntry) (nm : String) : Prop :=
  match G with
  | (p, l, _, s, m, args, _, meth, c, D, dA, sz, _, _, _) => p.tables.exec = Jvm.exec ∧ c.code = cc ∧ c.maxLocals = nL ∧ s.vm.findClass own = some m.cls ∧ (∀ w ∈ BG, w.before args s = true) ∧ meth.locks = false ∧ meth.sig.returnType = rt ∧ WD D dA sz s ∧ sz ≤ s.heap.size ∧ l.stackTraces = false ∧ c.exceptionTable.toList = tb ∧ meth.name = nm
/-- THE JUDGEMENT: from pc, with these local variables, this stack, the heap h, k cells of n slots made so far, the method comes to an end that Q allows -/
def J (G : Cx) (Q : Option AV ⊕ String → Hp → Prop) (pc : Nat) (lo : List (Option AV)) (st : List AV) (h : Hp) (k n : Nat) : Prop :=
  match G with
  | (p, l, e, s, m, args, below, meth, c, D, dA, sz, lv, mc, ms) => ∀ (H : Heap) (locs : List Loc) (ls : Array Slot), HR D dA sz h H → va_S (fun q => sz ≤ q) s.heap H locs → LR ls lo → W p l e (rmo lv mc ms) s m args below meth c H locs k n (vx_MQ below (cQ D dA sz Q) (cX D dA sz Q) args s mc ms (fun q => sz ≤ q)) (F0 m pc ls (st.map tv))
theorem bg {args : Array Value} {s : State} (h : ∀ w ∈ BG, w.before args s = true) {w : Cond} (hm : w ∈ lw_tbl) (hg : goodWord w = true) : w.before args s = true := h w (List.mem_filter.mpr ⟨hm, hg⟩)
