/-! THE TOUR. -/
def pre (l m : List Nat) : Prop := ∃ x, m = l ++ x
theorem pre.refl {l : List Nat} : pre l l := ⟨[], by simp⟩
theorem pre.trans {l m k : List Nat} (a : pre l m) (b : pre m k) : pre l k := by
  obtain ⟨x, rfl⟩ := a; obtain ⟨y, rfl⟩ := b; exact ⟨x ++ y, by simp⟩
theorem pre.mem {l m : List Nat} (a : pre l m) {b : Nat} (h : b ∈ l) : b ∈ m := by obtain ⟨x, rfl⟩ := a; exact List.mem_append_left _ h
theorem pre.get {l m : List Nat} (a : pre l m) {i b : Nat} (h : l[i]? = some b) : m[i]? = some b := by
  obtain ⟨x, rfl⟩ := a
  rw [List.getElem?_append_left (List.getElem?_eq_some_iff.mp h).1]; exact h
theorem lnk_get {nx : Nat → Option Nat} : ∀ {l : List Nat} {i a : Nat}, lnk nx l → l[i]? = some a → nx a = l[i + 1]?
  | [], _, _, _, h => by simp at h
  | b :: l, 0, a, hl, h => by simp at h; subst h; rw [hl.1]; simp [List.head?_eq_getElem?]
  | b :: l, i + 1, a, hl, h => by simpa using lnk_get (l := l) (i := i) hl.2 (by simpa using h)
/-- one comes to o -/
def vis (l : List Nat) (o : Option Nat) : List Nat :=
  match o with
  | none => l
  | some a => if a ∈ l then l else l ++ [a]
theorem vis_pre (l : List Nat) (o : Option Nat) : pre l (vis l o) := by
  unfold vis
  cases o with
  | none => exact pre.refl
  | some a => simp only; split
              · exact pre.refl
              · exact ⟨[a], rfl⟩
theorem vis_mem {l : List Nat} {a : Nat} : a ∈ vis l (some a) := by
  unfold vis; simp only; split
  · assumption
  · simp
theorem mem_vis {l : List Nat} {o : Option Nat} {b : Nat} (h : b ∈ vis l o) : b ∈ l ∨ o = some b := by
  unfold vis at h
  cases o with
  | none => exact Or.inl h
  | some a =>
    simp only at h
    split at h
    · exact Or.inl h
    · rcases List.mem_append.mp h with q | q
      · exact Or.inl q
      · rw [List.mem_singleton.mp q]; exact Or.inr rfl
def TI (h : Hp) (T : Nat) (l : List Nat) (n : Nat) (obs : List Nat) : Prop :=
  tg h T = 5 ∧ fR h 23 T = l.head? ∧ fR h 24 T = l.getLast? ∧ fI h 25 T = nI l.length ∧ fI h 26 T = nI n ∧ lnk (fR h 6) l ∧ l.Nodup ∧ (∀ a ∈ l, a ∈ obs) ∧ (∀ a ∈ obs, (fI h 4 a = nI n ↔ a ∈ l) ∧ ∃ m, m ≤ n ∧ fI h 4 a = nI m) ∧ ∀ i a, l[i]? = some a → fI h 5 a = nI (i + 1)
/-- what a tour leaves as it is -/
def TF (h h' : Hp) : Prop := tg h' = tg h ∧ ln h' = ln h ∧ aI h' = aI h ∧ aL h' = aL h ∧ aR h' = aR h ∧ (∀ k, k ≠ 4 → k ≠ 5 → k ≠ 25 → k ≠ 26 → fI h' k = fI h k) ∧ ∀ k, k ≠ 6 → k ≠ 7 → k ≠ 18 → k ≠ 23 → k ≠ 24 → fR h' k = fR h k
def TC (h h' : Hp) : Prop := TF h h' ∧ fR h' 7 = fR h 7 ∧ fR h' 18 = fR h 18
theorem TF.rfl' {h : Hp} : TF h h := ⟨rfl, rfl, rfl, rfl, rfl, fun _ _ _ _ _ => rfl, fun _ _ _ _ _ _ => rfl⟩
theorem TF.trans {h h1 h2 : Hp} (a : TF h h1) (b : TF h1 h2) : TF h h2 :=
  ⟨b.1.trans a.1, b.2.1.trans a.2.1, b.2.2.1.trans a.2.2.1, b.2.2.2.1.trans a.2.2.2.1, b.2.2.2.2.1.trans a.2.2.2.2.1, fun k q1 q2 q3 q4 => (b.2.2.2.2.2.1 k q1 q2 q3 q4).trans (a.2.2.2.2.2.1 k q1 q2 q3 q4), fun k q1 q2 q3 q4 q5 => (b.2.2.2.2.2.2 k q1 q2 q3 q4 q5).trans (a.2.2.2.2.2.2 k q1 q2 q3 q4 q5)⟩
theorem TC.rfl' {h : Hp} : TC h h := ⟨TF.rfl', rfl, rfl⟩
theorem TC.trans {h h1 h2 : Hp} (a : TC h h1) (b : TC h1 h2) : TC h h2 := ⟨a.1.trans b.1, b.2.1.trans a.2.1, b.2.2.trans a.2.2⟩
theorem TF.FC {A : Nat → Nat} {h h' : Hp} (a : TF h h') : FC A h h' :=
  ⟨fun k hk => ⟨congrFun (a.2.2.2.2.2.1 k (by omega) (by omega) (by omega) (by omega)) _, congrFun (a.2.2.2.2.2.2 k (by omega) (by omega) (by omega) (by omega) (by omega)) _⟩, fun k _ => ⟨by rw [a.1], by rw [a.2.1], by rw [a.2.2.1], by rw [a.2.2.2.1]⟩⟩
def CX (h : Hp) (A : Nat → Nat) (S : St) : Prop := CF h A ∧ CG h A S ∧ CO h A S ∧ CC h A S
theorem CX.tf {h h' : Hp} {A : Nat → Nat} {S : St} (hC : CX h A S) (hW : WF S) (a : TF h h') : CX h' A S := by
  obtain ⟨t1, t2, t3, t4, t5, tI, tR⟩ := a
  obtain ⟨c1, c2, c3, c4⟩ := hC
  refine ⟨c1.congr (eqT.of t1 t2) (fun k _ _ => by rw [tR k (by omega) (by omega) (by omega) (by omega) (by omega)]), c2.congr (by rw [t5]) (by rw [tI 35 (by decide) (by decide) (by decide) (by decide)]) (by rw [tI 27 (by decide) (by decide) (by decide) (by decide)]) (by rw [t3]) (by rw [t3]),
    c3.congr hW (eqT.of t1 t2) (fun x _ k hk => ?_) (fun x _ k hk => ?_) (fun _ _ _ _ _ => by rw [t5]) (fun _ _ _ _ _ => by rw [t4]), c4.congr (fun c _ => ⟨?_, ?_, ?_, ?_⟩) (fun x _ => ?_)⟩
  · simp at hk; rw [tI k (by omega) (by omega) (by omega) (by omega)]
  · simp at hk; rw [tR k (by omega) (by omega) (by omega) (by omega) (by omega)]
  · rw [tR 19 (by decide) (by decide) (by decide) (by decide) (by decide)]
  · rw [tR 20 (by decide) (by decide) (by decide) (by decide) (by decide)]
  · rw [tI 21 (by decide) (by decide) (by decide) (by decide)]
  · rw [tI 22 (by decide) (by decide) (by decide) (by decide)]
  · rw [tR 3 (by decide) (by decide) (by decide) (by decide) (by decide)]
section TOUR
variable {h : Hp} {T n : Nat} {l obs : List Nat} {Q : Option AV ⊕ String → Hp → Prop}
theorem c_has (hT : TI h T l n obs) {a : Nat} (ha : a ∈ obs) (hth : thg h a) (h1 : a ∈ l → Q (.inl (some (vi 1))) h) (h2 : a ∉ l → Q (.inl (some (vi 0))) h) : vc_X5_has T (some a) h Q := by
  obtain ⟨t, -, -, -, e26, -, -, -, e4, -⟩ := hT
  refine ⟨a, rfl, hth, t, fun q => ?_, fun q => ?_⟩
  · rw [e26] at q; exact h2 fun m => q ((e4 a ha).1.mpr m)
  · rw [e26] at q; exact h1 ((e4 a ha).1.mp q)
theorem c_begin (ht : tg h T = 5) (e26 : fI h 26 T = nI n) (hn : n + 1 < 2 ^ 31) (hi : ∀ a ∈ obs, ∃ m, m ≤ n ∧ fI h 4 a = nI m) (h1 : ∀ h', TI h' T [] (n + 1) obs → TC h h' → Q (.inl none) h') : vc_X5_begin T h Q := by
  refine ⟨ht, h1 _ ⟨ht, ?_, ?_, ?_, ?_, trivial, List.nodup_nil, fun a ha => (by cases ha), fun a ha => ⟨⟨fun e => ?_, fun e => (by cases e)⟩, ?_⟩, fun i a e => (by simp at e)⟩ ⟨⟨rfl, rfl, rfl, rfl, rfl, fun k q1 q2 q3 q4 => ?_, fun k q1 q2 q3 q4 q5 => ?_⟩, ?_, ?_⟩⟩
  · simp [fR_pI, fR_pR]
  · simp [fR_pI, fR_pR]
  · simp [fI_pI]; rfl
  · rw [fI_pI, if_pos ⟨rfl, rfl⟩, e26]; exact nI_1 n
  · rw [fI_pI, if_neg (by simp), fI_pI, if_neg (by simp)] at e
    obtain ⟨m, hm, e2⟩ := hi a ha
    have e : fI h 4 a = nI (n + 1) := e
    rw [e2] at e
    have := nI_inj (by omega) hn e
    omega
  · obtain ⟨m, hm, e2⟩ := hi a ha
    refine ⟨m, by omega, ?_⟩
    rw [fI_pI, if_neg (by simp), fI_pI, if_neg (by simp)]; exact e2
  · rw [fIx _ _ _ _ _ q4, fIx _ _ _ _ _ q3]; rfl
  · show fR (pR (pR h 23 T none) 24 T none) k = _
    rw [fRx _ _ _ _ _ q5, fRx _ _ _ _ _ q4]
  · show fR (pR (pR h 23 T none) 24 T none) 7 = _
    rw [fRx _ _ _ _ _ (by decide), fRx _ _ _ _ _ (by decide)]
  · show fR (pR (pR h 23 T none) 24 T none) 18 = _
    rw [fRx _ _ _ _ _ (by decide), fRx _ _ _ _ _ (by decide)]
theorem c_comeTo (hT : TI h T l n obs) {o : Option Nat} (ho : ∀ a, o = some a → a ∈ obs) (hth : ∀ a ∈ obs, thg h a) (h1 : ∀ h', TI h' T (vis l o) n obs → TC h h' → Q (.inl none) h') : vc_X5_comeTo T o h Q := by
  intro P hP
  refine ⟨fun e => ?_, fun a e => ?_⟩
  · subst e; exact h1 h hT TC.rfl'
  · subst e
    have ha := ho a rfl
    refine ⟨hT.1, c_has hT ha (hth a ha) (fun m => ⟨fun q => absurd q (by decide), fun _ => ?_⟩) (fun m => ⟨fun _ => ?_, fun q => absurd rfl q⟩)⟩
    · have := h1 h (by unfold vis; simp only; rw [if_pos m]; exact hT) TC.rfl'
      exact this
    · have hv : vis l (some a) = l ++ [a] := by unfold vis; simp only; rw [if_neg m]
      rw [hv] at h1
      obtain ⟨t, e23, e24, e25, e26, el, end_, eo, e4, e5⟩ := hT
      refine ⟨t, hth a ha, ?_⟩
      rw [e24, e26]
      have key : ∀ h2 : Hp, ((∃ b, l.getLast? = some b ∧ h2 = pR (pR (pI h 4 a (nI n)) 6 a none) 6 b (some a)) ∨ (l.getLast? = none ∧ h2 = pR (pR (pI h 4 a (nI n)) 6 a none) 23 T (some a))) → P h2 := by
        intro h2 hh
        have eI2 : fI h2 = fI (pI h 4 a (nI n)) := by rcases hh with ⟨b, -, rfl⟩ | ⟨-, rfl⟩ <;> rfl
        have eT2 : tg h2 = tg h ∧ ln h2 = ln h ∧ aI h2 = aI h ∧ aL h2 = aL h ∧ aR h2 = aR h := by rcases hh with ⟨b, -, rfl⟩ | ⟨-, rfl⟩ <;> exact ⟨rfl, rfl, rfl, rfl, rfl⟩
        have eR2 : ∀ k, k ≠ 6 → k ≠ 23 → fR h2 k = fR h k := fun k q1 q2 => by
          rcases hh with ⟨b, -, rfl⟩ | ⟨-, rfl⟩
          · rw [fRx _ _ _ _ _ q1, fRx _ _ _ _ _ q1]; rfl
          · rw [fRx _ _ _ _ _ q2, fRx _ _ _ _ _ q1]; rfl
        have eR6 : ∀ x, fR h2 6 x = if some x = l.getLast? then some a else if x = a then none else fR h 6 x := fun x => by
          rcases hh with ⟨b, hb, rfl⟩ | ⟨hb, rfl⟩
          · rw [fR_pR, fR_pR, hb]; simp; rfl
          · rw [fR_pR, fR_pR, hb]; simp; rfl
        have eR23 : fR h2 23 T = if l.getLast? = none then some a else fR h 23 T := by
          rcases hh with ⟨b, hb, rfl⟩ | ⟨hb, rfl⟩
          · rw [fR_pR, if_neg (by simp), fR_pR, if_neg (by simp), hb]; simp; rfl
          · rw [fR_pR, if_pos ⟨rfl, rfl⟩, hb]; simp
        have e25' : fI h2 25 T = nI l.length := by rw [eI2, fI_pI, if_neg (by simp)]; exact e25
        refine hP h2 ⟨by rw [eT2.1]; exact t, a, rfl, ?_, ?_⟩
        · unfold thg; rw [eT2.1]; exact hth a ha
        · rw [fI_pI, if_pos ⟨rfl, rfl⟩, e25', nI_1]
          refine h1 _ ⟨by show tg h2 T = 5; rw [eT2.1]; exact t, ?_, ?_, ?_, ?_, ?_, ?_, ?_, ?_, ?_⟩ ⟨⟨eT2.1, eT2.2.1, eT2.2.2.1, eT2.2.2.2.1, eT2.2.2.2.2, fun k q1 q2 q3 q4 => ?_, fun k q1 q2 q3 q4 q5 => ?_⟩, ?_, ?_⟩
          · rw [fR_pI, fR_pI, fR_pR, if_neg (by simp), eR23, e23]
            cases l with
            | nil => rfl
            | cons y m => simp [List.getLast?_cons]
          · rw [fR_pI, fR_pI, fR_pR, if_pos ⟨rfl, rfl⟩]; simp
          · rw [fI_pI, if_neg (by simp), fI_pI, if_pos ⟨rfl, rfl⟩]; simp
          · rw [fI_pI, if_neg (by simp), fI_pI, if_neg (by simp)]
            show fI h2 26 T = _
            rw [eI2, fI_pI, if_neg (by simp)]; exact e26
          · have e6 : fR (pI (pI (pR h2 24 T (some a)) 25 T (nI (l.length + 1))) 5 a (nI (l.length + 1))) 6 = fR h2 6 := by
              rw [fR_pI, fR_pI]; exact fRx _ _ _ _ _ (by decide)
            rw [e6]
            refine lnk_snoc el (fun b hb hne => ?_) (fun b hb => ?_) ?_ end_
            · rw [eR6, if_neg hne, if_neg (fun e => m (by rw [← e]; exact hb))]
            · rw [eR6, if_pos hb.symm]
            · rw [eR6, if_neg (fun e => m (List.mem_of_getLast? e.symm)), if_pos rfl]
          · rw [List.nodup_append]
            exact ⟨end_, List.nodup_cons.mpr ⟨List.not_mem_nil, List.nodup_nil⟩, fun y hy z hz e => m (by rw [List.mem_singleton.mp hz] at e; rw [← e]; exact hy)⟩
          · intro b hb
            rcases List.mem_append.mp hb with q | q
            · exact eo b q
            · rw [List.mem_singleton.mp q]; exact ha
          · intro b hb
            rw [fI_pI, if_neg (by simp), fI_pI, if_neg (by simp)]
            show (fI h2 4 b = nI n ↔ _) ∧ ∃ m, m ≤ n ∧ fI h2 4 b = nI m
            rw [eI2, fI_pI]
            by_cases e : b = a
            · subst e; simp; exact ⟨n, Nat.le_refl _, rfl⟩
            · simp [e]; exact e4 b hb
          · intro i b hb
            rw [fI_pI]
            by_cases e : b = a
            · subst e
              rw [if_pos ⟨rfl, rfl⟩]
              have : i = l.length := by
                rcases Nat.lt_trichotomy i l.length with q | q | q
                · rw [List.getElem?_append_left q] at hb
                  exact absurd (List.mem_of_getElem? hb) m
                · exact q
                · rw [List.getElem?_append_right (by omega)] at hb
                  rw [List.getElem?_eq_none (by simp; omega)] at hb
                  cases hb
              rw [this]
            · rw [if_neg (fun q => e q.2), fI_pI, if_neg (by simp)]
              show fI h2 5 b = _
              rw [eI2, fI_pI, if_neg (by simp)]
              refine e5 i b ?_
              rcases Nat.lt_or_ge i l.length with q | q
              · rw [List.getElem?_append_left q] at hb; exact hb
              · rw [List.getElem?_append_right q] at hb
                have hb := List.mem_of_getElem? hb
                exact absurd (List.mem_singleton.mp hb) e
          · rw [fIx _ _ _ _ _ q2, fIx _ _ _ _ _ q3]
            show fI h2 k = _
            rw [eI2, fIx _ _ _ _ _ q1]
          · rw [fR_pI, fR_pI, fRx _ _ _ _ _ q5]; exact eR2 k q1 q4
          · rw [fR_pI, fR_pI, fRx _ _ _ _ _ (by decide)]; exact eR2 7 (by decide) (by decide)
          · rw [fR_pI, fR_pI, fRx _ _ _ _ _ (by decide)]; exact eR2 18 (by decide) (by decide)
      refine ⟨fun b hb => ⟨hth b (eo b (List.mem_of_getLast? hb)), key _ (Or.inl ⟨b, hb, rfl⟩)⟩, fun hb => key _ (Or.inr ⟨hb, rfl⟩)⟩
end TOUR
