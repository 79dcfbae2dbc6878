/-! The model's pushing together. -/
section MPUSH
variable {g : Gh} {h : Hp} {A : Nat → Nat} {S : St} {Q : Option AV ⊕ String → Hp → Prop}
def psum (s : Nat → Nat) : Nat → Nat
  | 0 => 0
  | n + 1 => psum s n + s n
theorem psum_mono (s : Nat → Nat) {m n : Nat} (hm : m ≤ n) : psum s m ≤ psum s n := by
  induction n with
  | zero => have : m = 0 := by omega
            subst this; exact Nat.le_refl _
  | succ n ih =>
    rcases Nat.lt_or_ge m (n + 1) with q | q
    · have := ih (by omega); show psum s m ≤ psum s n + s n; omega
    · have : m = n + 1 := by omega
      subst this; exact Nat.le_refl _
theorem psum_list (s : Nat → Nat) (n : Nat) : psum s n = ((List.range n).map s).sum := by
  induction n with
  | zero => rfl
  | succ n ih => rw [List.range_succ, List.map_append, List.sum_append]; simp [psum, ih]
theorem sum_same (f : Nat → Nat) : ∀ {l m : List Nat}, l.Nodup → m.Nodup → (∀ a, a ∈ l ↔ a ∈ m) → (l.map f).sum = (m.map f).sum ∧ l.length = m.length := by
  intro l
  induction l with
  | nil =>
    intro m _ _ hm
    cases m with
    | nil => exact ⟨rfl, rfl⟩
    | cons b m => have := (hm b).mpr List.mem_cons_self; cases this
  | cons b l ihl =>
    intro m hl hm hmm
    have hl' := List.nodup_cons.mp hl
    have hbm := (hmm b).mp List.mem_cons_self
    obtain ⟨s1, s2⟩ := sum_del f hm hbm
    obtain ⟨i1, i2⟩ := ihl (m := m.filter (fun x => decide (x ≠ b))) hl'.2 (List.Pairwise.filter _ hm) (fun a => by
      rw [List.mem_filter]; simp only [decide_eq_true_eq]
      constructor
      · intro z; exact ⟨(hmm a).mp (List.mem_cons_of_mem _ z), fun e => hl'.1 (by rw [← e]; exact z)⟩
      · rintro ⟨x1, x2⟩
        rcases List.mem_cons.mp ((hmm a).mpr x1) with e | e
        · exact absurd e x2
        · exact e)
    simp only [List.map_cons, List.sum_cons, List.length_cons]
    omega
def PU (A : Nat → Nat) (h h' : Hp) : Prop := tg h' = tg h ∧ ln h' = ln h ∧ fR h' = fR h ∧ aR h' = aR h ∧ (∀ k, k ≠ 57 → fI h' k = fI h k) ∧ (∀ x, x ≠ A 43 → x ≠ A 54 → aI h' x = aI h x) ∧ ∀ x, x ≠ A 56 → aL h' x = aL h x
theorem PU.rfl' : PU A h h := ⟨rfl, rfl, rfl, rfl, fun _ _ => rfl, fun _ _ _ => rfl, fun _ _ => rfl⟩
theorem PU.trans {h1 h2 : Hp} (a : PU A h h1) (b : PU A h1 h2) : PU A h h2 :=
  ⟨b.1.trans a.1, b.2.1.trans a.2.1, b.2.2.1.trans a.2.2.1, b.2.2.2.1.trans a.2.2.2.1, fun k hk => (b.2.2.2.2.1 k hk).trans (a.2.2.2.2.1 k hk), fun x h1 h2 => (b.2.2.2.2.2.1 x h1 h2).trans (a.2.2.2.2.2.1 x h1 h2), fun x hx => (b.2.2.2.2.2.2 x hx).trans (a.2.2.2.2.2.2 x hx)⟩
theorem PU.FM {h' : Hp} (a : PU A h h') : FM A h h' := ⟨a.1, a.2.1, a.2.2.1, a.2.2.2.1, fun k hk => a.2.2.2.2.1 k (by omega), fun x hx => ⟨a.2.2.2.2.2.1 x (hx 43 k43) (hx 54 k54), a.2.2.2.2.2.2 x (hx 56 k56)⟩⟩
theorem PU.q54 {h1 : Hp} (a : PU A h h1) (i : Nat) (x : Int32) : PU A h (qI h1 (A 54) i x) := a.trans ⟨rfl, rfl, rfl, rfl, fun _ _ => rfl, fun y _ q => aIx _ _ _ _ _ q, fun _ _ => rfl⟩
theorem PU.q43 {h1 : Hp} (a : PU A h h1) (i : Nat) (x : Int32) : PU A h (qI h1 (A 43) i x) := a.trans ⟨rfl, rfl, rfl, rfl, fun _ _ => rfl, fun y q _ => aIx _ _ _ _ _ q, fun _ _ => rfl⟩
theorem PU.q56 {h1 : Hp} (a : PU A h h1) (i : Nat) (x : Int64) : PU A h (qL h1 (A 56) i x) := a.trans ⟨rfl, rfl, rfl, rfl, fun _ _ => rfl, fun y _ _ => rfl, fun y q => aLx _ _ _ _ _ q⟩
theorem PU.p57 {h1 : Hp} (a : PU A h h1) (x : Int32) : PU A h (pI h1 57 (A 40) x) := a.trans ⟨rfl, rfl, rfl, rfl, fun k q => fIx _ _ _ _ _ q, fun y _ _ => rfl, fun y _ => rfl⟩
def szO (S : St) (a : Nat) : Nat := nr S a + nn S a
theorem m_push (hF : MF h A) {N : Nat} (hN : N ≤ 15002) (hN1 : 1 ≤ N) (g59 : fI h 59 (A 40) = nI N) (hnd : (ob S).Nodup) (h1 : ∀ a ∈ ob S, 1 ≤ num g a ∧ num g a < N) (h2 : ∀ a ∈ ob S, ∀ b ∈ ob S, num g a = num g b → a = b)
    (h3 : ∀ o, 1 ≤ o → o < N → (aI h (A 42) o = -1 ∧ ∀ a ∈ ob S, num g a ≠ o) ∨ ∃ a ∈ ob S, num g a = o) (h4 : ∀ a ∈ ob S, MOd g h A S a) (h4k : ∀ a ∈ ob S, ¬ kd S a < 0) (h5 : ∀ a ∈ ob S, at_ g a + szO S a ≤ 31000)
    (h6 : ∀ a ∈ ob S, ∀ b ∈ ob S, a ≠ b → 0 < szO S a → 0 < szO S b → at_ g a + szO S a ≤ at_ g b ∨ at_ g b + szO S b ≤ at_ g a) {T : Nat} (hT : ((ob S).map (szO S)).sum = T) (hT2 : T ≤ 30000)
    (hQ : ∀ (h' : Hp) (at' : Nat → Nat), PU A h h' → fI h' 57 (A 40) = nI T → (∀ a ∈ ob S, aI h' (A 43) (num g a) = nI (at' a) ∧ at' a + szO S a ≤ T ∧ ∀ j < szO S a, aL h' (A 56) (at' a + j) = aL h (A 56) (at_ g a + j)) → (∀ a ∈ ob S, ∀ b ∈ ob S, a ≠ b → 0 < szO S a → 0 < szO S b → at' a + szO S a ≤ at' b ∨ at' b + szO S b ≤ at' a) → Q (.inl none) h') : vc_X7_push (A 40) h Q := by
  intro P4 P41 P31 P144 P47 P177 P63 P118 q4 q41 q31 q144 q47 q177 q63 q118
  -- (C) moving
  have stageC : ∀ (n : Nat) (X : Nat → Nat), n ≤ 15002 → (∀ i < n, X i ∈ ob S) → (∀ i j, i < n → j < n → X i = X j → i = j) → (∀ a ∈ ob S, ∃ i < n, X i = a) → (∀ i j, i < j → j < n → at_ g (X i) ≤ at_ g (X j)) → ∀ (d i : Nat) (h' : Hp), d + i = n → PU A h h' →
      (∀ k < i, aI h' (A 43) (num g (X k)) = nI (psum (fun m => szO S (X m)) k) ∧ ∀ j < szO S (X k), aL h' (A 56) (psum (fun m => szO S (X m)) k + j) = aL h (A 56) (at_ g (X k) + j)) →
      (∀ k, i ≤ k → k < n → aI h' (A 43) (num g (X k)) = nI (at_ g (X k)) ∧ ∀ j < szO S (X k), aL h' (A 56) (at_ g (X k) + j) = aL h (A 56) (at_ g (X k) + j)) → (∀ k < n, aI h' (A 54) k = nI (num g (X k))) → P144 (nI n) (nI (psum (fun m => szO S (X m)) i)) (nI i) h' := by
    intro n X hn hXo hXi hXs hso
    have hTn : psum (fun m => szO S (X m)) n = T := by
      rw [← hT, psum_list]
      have : (List.range n).map (fun m => szO S (X m)) = ((List.range n).map X).map (szO S) := by simp
      rw [this]
      refine (sum_same (szO S) ?_ hnd (fun a => ?_)).1
      · unfold List.Nodup
        rw [List.pairwise_map]
        refine List.Pairwise.imp_of_mem (R := fun a b => a < b) (fun {a b} ha hb hab e => ?_) List.pairwise_lt_range
        have := hXi a b (List.mem_range.mp ha) (List.mem_range.mp hb) e; omega
      · rw [List.mem_map]
        constructor
        · rintro ⟨i, hi, rfl⟩; exact hXo i (List.mem_range.mp hi)
        · intro ha
          obtain ⟨i, hi, e⟩ := hXs a ha
          exact ⟨i, List.mem_range.mpr hi, e⟩
    generalize hs : (fun m => szO S (X m)) = s at *
    have es : ∀ m, szO S (X m) = s m := fun m => by rw [← hs]
    have hle : ∀ m ≤ n, psum s m ≤ 30000 := fun m hm => by have := psum_mono s hm; omega
    have hP : ∀ m k, m ≤ k → k < n → 0 < s k → psum s m ≤ at_ g (X k) := by
      intro m
      induction m with
      | zero => intro k _ _ _; exact Nat.zero_le _
      | succ m ih =>
        intro k hmk hkn hsk
        show psum s m + s m ≤ _
        by_cases z : s m = 0
        · have := ih k (by omega) hkn hsk; omega
        · have i1 := ih m (Nat.le_refl _) (by omega) (by omega)
          have hne : X m ≠ X k := fun e => by have := hXi m k (by omega) hkn e; omega
          have so := hso m k (by omega) hkn
          rcases h6 (X m) (hXo m (by omega)) (X k) (hXo k hkn) hne (by rw [es]; omega) (by rw [es]; omega) with w | w
          · rw [es] at w; omega
          · rw [es] at w; omega
    intro d
    induction d with
    | zero =>
      intro i h' hd' F' c1 c2 c3
      have : i = n := by omega
      subst this
      have M' := hF.fm F'.FM
      refine q144 _ _ _ _ ⟨fun _ => ⟨M'.1, ?_⟩, fun q => absurd ((nI_le' (by omega) (by omega)).mpr (Nat.le_refl _)) q⟩
      rw [hTn]
      have hat : ∀ k < i, (aI h' (A 43) (num g (X k))).toNatClampNeg = psum s k := fun k hk => by rw [(c1 k hk).1]; exact nI_clamp (by have := hle k (by omega); omega)
      refine hQ _ (fun a => (aI h' (A 43) (num g a)).toNatClampNeg) (F'.p57 _) (by rw [fI_pI, if_pos ⟨rfl, rfl⟩]) (fun a ha => ?_) (fun a ha b hb hab sa sb => ?_)
      · obtain ⟨k, hk, rfl⟩ := hXs a ha
        show aI h' (A 43) (num g (X k)) = _ ∧ (aI h' (A 43) (num g (X k))).toNatClampNeg + szO S (X k) ≤ T ∧ ∀ j < szO S (X k), aL h' (A 56) ((aI h' (A 43) (num g (X k))).toNatClampNeg + j) = _
        rw [hat k hk]
        refine ⟨(c1 k hk).1, ?_, (c1 k hk).2⟩
        have := psum_mono s (show k + 1 ≤ i by omega)
        have e : psum s (k + 1) = psum s k + s k := rfl
        rw [es]; omega
      · obtain ⟨k, hk, rfl⟩ := hXs a ha
        obtain ⟨m, hm, rfl⟩ := hXs b hb
        show (aI h' (A 43) (num g (X k))).toNatClampNeg + _ ≤ (aI h' (A 43) (num g (X m))).toNatClampNeg ∨ (aI h' (A 43) (num g (X m))).toNatClampNeg + _ ≤ (aI h' (A 43) (num g (X k))).toNatClampNeg
        rw [hat k hk, hat m hm, es, es]
        have e1 : psum s (k + 1) = psum s k + s k := rfl
        have e2 : psum s (m + 1) = psum s m + s m := rfl
        rcases Nat.lt_trichotomy k m with w | w | w
        · have := psum_mono s (show k + 1 ≤ m by omega); exact Or.inl (by omega)
        · exact absurd (by rw [w]) hab
        · have := psum_mono s (show m + 1 ≤ k by omega); exact Or.inr (by omega)
    | succ d ih =>
      intro i h' hd' F' c1 c2 c3
      have hin : i < n := by omega
      have hXo' := hXo i hin
      have hnum := h1 _ hXo'
      have M' := hF.fm F'.FM
      have md := h4 _ hXo'
      have e44 : aI h' (A 44) = aI h (A 44) := F'.2.2.2.2.2.1 _ (hF.ne k44 k43 (by decide)) (hF.ne k44 k54 (by decide))
      have e45 : aI h' (A 45) = aI h (A 45) := F'.2.2.2.2.2.1 _ (hF.ne k45 k43 (by decide)) (hF.ne k45 k54 (by decide))
      have hsz : s i ≤ 31000 := by have := h5 _ hXo'; rw [es] at this; omega
      have hpi := hle i (by omega)
      have hat5 : at_ g (X i) + s i ≤ 31000 := by have := h5 _ hXo'; rw [es] at this; exact this
      have v (k : Nat) (hk : mky k) (h55 : k ≤ 55) : vp_in (nI (num g (X i))) (ln h' (A k)) := M'.v hk (by unfold mln; rw [if_pos h55]; omega)
      refine q144 _ _ _ _ ⟨fun q => ?_, fun _ => ⟨M'.1, A 54, M'.r k54, M'.t k54 rfl, M'.v k54 (by show i < 15100; omega), A 44, M'.r k44, M'.t k44 rfl, ?_⟩⟩
      · have := (nI_le' (by omega) (by omega)).mp q; omega
      rw [nI_clamp (show i < 2 ^ 31 by omega), c3 i hin, nI_clamp (show num g (X i) < 2 ^ 31 by omega)]
      refine ⟨v 44 k44 (by decide), A 45, M'.r k45, M'.t k45 rfl, v 45 k45 (by decide), ?_⟩
      rw [e44, e45, md.2.2.1, md.2.2.2.1, nI_add]
      have esi : nr S (X i) + nn S (X i) = s i := es i
      rw [esi]
      have inner : ∀ (e j : Nat) (h' : Hp), e + j = s i → PU A h h' →
          (∀ k < i, aI h' (A 43) (num g (X k)) = nI (psum s k) ∧ ∀ j < szO S (X k), aL h' (A 56) (psum s k + j) = aL h (A 56) (at_ g (X k) + j)) →
          aI h' (A 43) (num g (X i)) = nI (at_ g (X i)) → (∀ j' < j, aL h' (A 56) (psum s i + j') = aL h (A 56) (at_ g (X i) + j')) → (∀ j', j ≤ j' → j' < s i → aL h' (A 56) (at_ g (X i) + j') = aL h (A 56) (at_ g (X i) + j')) →
          (∀ k, i < k → k < n → aI h' (A 43) (num g (X k)) = nI (at_ g (X k)) ∧ ∀ j < szO S (X k), aL h' (A 56) (at_ g (X k) + j) = aL h (A 56) (at_ g (X k) + j)) → (∀ k < n, aI h' (A 54) k = nI (num g (X k))) → P177 (nI n) (nI (psum s i)) (nI i) (nI (num g (X i))) (nI (s i)) (nI j) h' := by
        intro e
        induction e with
        | zero =>
          intro j h' he F' c1 ci d1 d2 c2 c3
          have : j = s i := by omega
          subst this
          have M' := hF.fm F'.FM
          refine q177 _ _ _ _ _ _ _ ⟨fun _ => ⟨M'.1, A 43, M'.r k43, M'.t k43 rfl, M'.v k43 (by show num g (X i) < 15100; omega), ?_⟩, fun q => absurd ((nI_le' (by omega) (by omega)).mpr (Nat.le_refl _)) q⟩
          rw [nI_add, nI_1, nI_clamp (show num g (X i) < 2 ^ 31 by omega)]
          have e43 : ∀ x, aI (qI h' (A 43) (num g (X i)) (nI (psum s i))) (A 43) x = if x = num g (X i) then nI (psum s i) else aI h' (A 43) x := fun x => by rw [aI_qI]; simp
          refine ih (i + 1) _ (by omega) (F'.q43 _ _) (fun k hk => ?_) (fun k hk hkn => ?_) (fun k hk => ?_)
          · rw [e43]
            by_cases q : k = i
            · subst q; rw [if_pos rfl]
              exact ⟨rfl, fun j hj => d1 j (by rw [es] at hj; exact hj)⟩
            · rw [if_neg (fun z => q (hXi k i (by omega) hin (h2 _ (hXo k (by omega)) _ hXo' z)))]
              exact c1 k (by omega)
          · rw [e43, if_neg (fun z => by have := hXi k i hkn hin (h2 _ (hXo k hkn) _ hXo' z); omega)]
            exact c2 k (by omega) hkn
          · rw [aIx _ _ _ _ _ (hF.ne k54 k43 (by decide))]; exact c3 k hk
        | succ e ihe =>
          intro j h' he F' c1 ci d1 d2 c2 c3
          have M' := hF.fm F'.FM
          have hji : j < s i := by omega
          have hPi := hP i i (Nat.le_refl _) hin (by omega)
          have hpi1 := hle (i + 1) (by omega)
          have hpi1 : psum s i + s i ≤ 30000 := hpi1
          refine q177 _ _ _ _ _ _ _ ⟨fun q => ?_, fun _ => ⟨M'.1, A 43, M'.r k43, M'.t k43 rfl, M'.v k43 (by show num g (X i) < 15100; omega), A 56, M'.r k56, M'.t k56 rfl, ?_⟩⟩
          · have := (nI_le' (by omega) (by omega)).mp q; omega
          rw [nI_clamp (show num g (X i) < 2 ^ 31 by omega), ci, nI_add, nI_add, nI_1, nI_clamp (show at_ g (X i) + j < 2 ^ 31 by omega), nI_clamp (show psum s i + j < 2 ^ 31 by omega), d2 j (Nat.le_refl _) hji]
          refine ⟨M'.v k56 (by show at_ g (X i) + j < 31000; omega), M'.v k56 (by show psum s i + j < 31000; omega), ?_⟩
          have eL : ∀ x, aL (qL h' (A 56) (psum s i + j) (aL h (A 56) (at_ g (X i) + j))) (A 56) x = if x = psum s i + j then aL h (A 56) (at_ g (X i) + j) else aL h' (A 56) x := fun x => by rw [aL_qL]; simp
          refine ihe (j + 1) _ (by omega) (F'.q56 _ _) (fun k hk => ⟨(c1 k hk).1, fun j' hj' => ?_⟩) ci (fun j' hj' => ?_) (fun j' hj1 hj2 => ?_) (fun k hk hkn => ⟨(c2 k hk hkn).1, fun j' hj' => ?_⟩) c3
          · have e1 : psum s (k + 1) = psum s k + s k := rfl
            have := psum_mono s (show k + 1 ≤ i by omega)
            have hj2 : j' < s k := by rw [es] at hj'; exact hj'
            rw [eL, if_neg (by omega)]; exact (c1 k hk).2 j' hj'
          · rw [eL]
            by_cases q : j' = j
            · subst q; rw [if_pos rfl]
            · rw [if_neg (by omega)]; exact d1 j' (by omega)
          · rw [eL, if_neg (by omega)]; exact d2 j' (by omega) hj2
          · have hj2 : j' < s k := by rw [es] at hj'; exact hj'
            have := hP (i + 1) k (by omega) hkn (by omega)
            have e1 : psum s (i + 1) = psum s i + s i := rfl
            rw [eL, if_neg (by omega)]; exact (c2 k hk hkn).2 j' hj'
      exact inner (s i) 0 h' (by omega) F' c1 (c2 i (Nat.le_refl _) hin).1 (fun j' hj' => by omega) (fun j' _ hj' => (c2 i (Nat.le_refl _) hin).2 j' (by rw [es]; exact hj')) (fun k hk hkn => c2 k (by omega) hkn) c3
  -- (B) sorting
  have stageB : ∀ (n : Nat) (f : Nat → Nat) (h' : Hp), n ≤ 15002 → PU A h h' → aI h' (A 43) = aI h (A 43) → aL h' = aL h → (∀ i < n, aI h' (A 54) i = nI (f i)) → (∀ i < n, ∃ a ∈ ob S, f i = num g a) → (∀ a ∈ ob S, ∃ i < n, f i = num g a) → (∀ i j, i < n → j < n → f i = f j → i = j) → P41 (nI n) (nI (n / 2)) h' := by
    intro n f0 h' hn F' e43' eL' htd hc1 hc2 hinj
    have hkey : ∀ a ∈ ob S, aI h (A 43) (num g a) = nI (at_ g a) := fun a ha => (h4 a ha).2.1
    have hkN : ∀ a ∈ ob S, (aI h (A 43) (num g a)).toNatClampNeg = at_ g a := fun a ha => by rw [hkey a ha]; exact nI_clamp (by have := h5 a ha; omega)
    have key43 : ∀ m < n, aI h (A 43) (f0 m) = nI ((aI h (A 43) (f0 m)).toNatClampNeg) ∧ (aI h (A 43) (f0 m)).toNatClampNeg < 2 ^ 31 ∧ f0 m < 15002 := fun m hm => by
      obtain ⟨a, ha, e⟩ := hc1 m hm
      rw [e, hkN a ha, hkey a ha]
      exact ⟨rfl, by have := h5 a ha; omega, by have := h1 a ha; omega⟩
    refine shell (n := n) (key := fun x => (aI h (A 43) x).toNatClampNeg) (I := fun h2 f => PU A h h2 ∧ aI h2 (A 43) = aI h (A 43) ∧ aL h2 = aL h ∧ ∀ i < n, aI h2 (A 54) i = nI (f i))
      (PG := fun gap h2 => P41 (nI n) (nI gap) h2) (PL := fun gap i h2 => P47 (nI n) (nI gap) (nI i) h2) (PW := fun gap i o j h2 => P63 (nI n) (nI gap) (nI i) (nI o) (nI j) h2) (f0 := f0) ?_ ?_ ?_ ?_ ?_ ?_ h' f0 ⟨F', e43', eL', htd⟩ ⟨fun i hi => ⟨i, hi, rfl⟩, fun i hi => ⟨i, hi, rfl⟩, hinj⟩
    · rintro h2' f ⟨F2, e43, eL, t2⟩ hP hs
      refine q41 _ _ _ ⟨fun _ => ?_, fun q => absurd (by decide) q⟩
      have hX : ∀ i, ∃ a, i < n → a ∈ ob S ∧ f i = num g a := fun i => by
        by_cases q : i < n
        · obtain ⟨j, hj, e⟩ := hP.1 i q
          obtain ⟨a, ha, e2⟩ := hc1 j hj
          exact ⟨a, fun _ => ⟨ha, by rw [e, e2]⟩⟩
        · exact ⟨0, fun z => absurd z q⟩
      obtain ⟨X, hX⟩ : ∃ X : Nat → Nat, ∀ i, i < n → X i ∈ ob S ∧ f i = num g (X i) := ⟨fun i => Classical.choose (hX i), fun i => Classical.choose_spec (hX i)⟩
      have hfX : ∀ i < n, f i = num g (X i) := fun i hi => (hX i hi).2
      refine stageC n X hn (fun i hi => (hX i hi).1) (fun i j hi hj e => hP.2.2 i j hi hj (by rw [hfX i hi, hfX j hj, e])) (fun a ha => ?_) (fun i j hij hj => ?_) n 0 h2' (by omega) F2 (fun k hk => by omega) (fun k _ hk => ⟨by rw [e43]; exact hkey _ (hX k hk).1, fun j hj => by rw [eL]⟩) (fun k hk => by rw [t2 k hk, hfX k hk])
      · obtain ⟨j, hj, e⟩ := hc2 a ha
        obtain ⟨i, hi, e2⟩ := hP.2.1 j hj
        exact ⟨i, hi, h2 _ (hX i hi).1 a ha (by rw [← hfX i hi, e2, e])⟩
      · have := hs i j hij hj
        rw [hfX i (by omega), hfX j hj] at this
        have this : (aI h (A 43) (num g (X i))).toNatClampNeg ≤ (aI h (A 43) (num g (X j))).toNatClampNeg := this
        rw [hkN _ (hX i (by omega)).1, hkN _ (hX j hj).1] at this; exact this
    · rintro gap h2' f g0 gn ⟨F2, e43, eL, t2⟩ hL
      exact q41 _ _ _ ⟨fun q => absurd q (nI_nle g0 (by omega)), fun _ => hL⟩
    · rintro gap h2' f g0 gn ⟨F2, e43, eL, t2⟩ hG
      refine q47 _ _ _ _ ⟨fun _ => ?_, fun q => absurd ((nI_le' (by omega) (by omega)).mpr (Nat.le_refl _)) q⟩
      rw [nI_half (by omega)]; exact hG
    · rintro gap i h2' f g0 gi hin ⟨F2, e43, eL, t2⟩ hWk
      have M2 := hF.fm F2.FM
      refine q47 _ _ _ _ ⟨fun q => ?_, fun _ => ⟨M2.1, A 54, M2.r k54, M2.t k54 rfl, M2.v k54 (by show i < 15100; omega), ?_⟩⟩
      · have := (nI_le' (by omega) (by omega)).mp q; omega
      · rw [nI_clamp (by omega), t2 i hin]; exact hWk
    · rintro gap i o j h2' f g0 gn hji hin ⟨F2, e43, eL, t2⟩ ⟨m, hm, eo⟩ hv hcase hnx
      have M2 := hF.fm F2.FM
      have store : P118 (nI n) (nI gap) (nI i) (nI o) (nI j) h2' := by
        refine q118 _ _ _ _ _ _ ⟨M2.1, A 54, M2.r k54, M2.t k54 rfl, M2.v k54 (by show j < 15100; omega), ?_⟩
        rw [nI_clamp (by omega), nI_1]
        refine hnx _ ⟨F2.q54 _ _, ?_, eL, fun x hx => ?_⟩
        · rw [aIx _ _ _ _ _ (hF.ne k43 k54 (by decide))]; exact e43
        · rw [aI_qI]; unfold up1
          by_cases e : x = j
          · simp [e]
          · simp [e]; exact t2 x hx
      refine q63 _ _ _ _ _ _ ⟨fun _ => store, fun q => ?_⟩
      have hgj : gap ≤ j := Nat.not_lt.mp fun z => q ((nI_lt' (by omega) (by omega)).mpr z)
      obtain ⟨m', hm', e'⟩ := hv (j - gap) (by omega)
      obtain ⟨k1, k2, k3⟩ := key43 m' hm'
      obtain ⟨k4, k5, k6⟩ := key43 m hm
      refine ⟨M2.1, A 54, M2.r k54, M2.t k54 rfl, ?_⟩
      rw [nI_sub hgj, nI_clamp (show j - gap < 2 ^ 31 by omega), t2 (j - gap) (by omega), nI_clamp (show f (j - gap) < 2 ^ 31 by rw [e']; omega), nI_clamp (show o < 2 ^ 31 by rw [eo]; omega)]
      refine ⟨M2.v k54 (by show j - gap < 15100; omega), A 43, M2.r k43, M2.t k43 rfl, M2.v k43 (by show f (j - gap) < 15100; rw [e']; omega), M2.v k43 (by show o < 15100; rw [eo]; omega), fun _ => store, fun q2 => ?_⟩
      exfalso
      rcases hcase with z | ⟨-, z⟩
      · omega
      · refine q2 ?_
        rw [e43, e', eo, k1, k4]
        rw [e', eo] at z
        exact (nI_le' k2 k5).mpr z
    · rintro gap i o j h2' f g0 hgj hji hin ⟨F2, e43, eL, t2⟩ ⟨m, hm, eo⟩ hv hgt hnx
      have M2 := hF.fm F2.FM
      obtain ⟨m', hm', e'⟩ := hv (j - gap) (by omega)
      obtain ⟨k1, k2, k3⟩ := key43 m' hm'
      obtain ⟨k4, k5, k6⟩ := key43 m hm
      refine q63 _ _ _ _ _ _ ⟨fun q => ?_, fun q => ?_⟩
      · have := (nI_lt' (by omega) (by omega)).mp q; omega
      · refine ⟨M2.1, A 54, M2.r k54, M2.t k54 rfl, ?_⟩
        rw [nI_sub hgj, nI_clamp (show j - gap < 2 ^ 31 by omega), t2 (j - gap) (by omega), nI_clamp (show f (j - gap) < 2 ^ 31 by rw [e']; omega), nI_clamp (show o < 2 ^ 31 by rw [eo]; omega), nI_clamp (show j < 2 ^ 31 by omega)]
        have vj : vp_in (nI (j - gap)) (ln h2' (A 54)) := M2.v k54 (by show j - gap < 15100; omega)
        refine ⟨vj, A 43, M2.r k43, M2.t k43 rfl, M2.v k43 (by show f (j - gap) < 15100; rw [e']; omega), M2.v k43 (by show o < 15100; rw [eo]; omega), fun q2 => ?_, fun _ => ⟨vj, M2.v k54 (by show j < 15100; omega), ?_⟩⟩
        · exfalso
          refine hgt ?_
          rw [e43, e', eo, k1, k4] at q2
          rw [e', eo]
          exact (nI_le' k2 k5).mp q2
        · refine hnx _ ⟨F2.q54 _ _, ?_, eL, fun x hx => ?_⟩
          · rw [aIx _ _ _ _ _ (hF.ne k43 k54 (by decide))]; exact e43
          · rw [aI_qI]; unfold up1
            by_cases e : x = j
            · simp [e]
            · simp [e]; exact t2 x hx
  -- (A) those that are there
  have stageA : ∀ (d o n : Nat) (f : Nat → Nat) (h' : Hp), d + o = N → 1 ≤ o → n < o → PU A h h' → aI h' (A 43) = aI h (A 43) → aL h' = aL h → (∀ i < n, aI h' (A 54) i = nI (f i)) → (∀ i < n, f i < o ∧ ∃ a ∈ ob S, f i = num g a) → (∀ a ∈ ob S, num g a < o → ∃ i < n, f i = num g a) → (∀ i j, i < n → j < n → f i = f j → i = j) → P4 (nI n) (nI o) h' := by
    intro d
    induction d with
    | zero =>
      intro o n f h' hd ho hno F' e43 eL htd hc1 hc2 hinj
      have : o = N := by omega
      subst this
      have M' := hF.fm F'.FM
      have g59' : fI h' 59 (A 40) = nI o := by rw [F'.2.2.2.2.1 59 (by decide)]; exact g59
      refine q4 _ _ _ ⟨M'.1, fun _ => ?_, fun q => ?_⟩
      · rw [nI_half (by omega)]
        exact stageB n f h' (by omega) F' e43 eL htd (fun i hi => (hc1 i hi).2) (fun a ha => hc2 a ha (h1 a ha).2) hinj
      · rw [g59'] at q; exact absurd ((nI_le' (by omega) (by omega)).mpr (Nat.le_refl _)) q
    | succ d ih =>
      intro o n f h' hd ho hno F' e43 eL htd hc1 hc2 hinj
      have M' := hF.fm F'.FM
      have g59' : fI h' 59 (A 40) = nI N := by rw [F'.2.2.2.2.1 59 (by decide)]; exact g59
      have e42 : aI h' (A 42) = aI h (A 42) := F'.2.2.2.2.2.1 _ (hF.ne k42 k43 (by decide)) (hF.ne k42 k54 (by decide))
      have co : (nI o).toNatClampNeg = o := nI_clamp (by omega)
      refine q4 _ _ _ ⟨M'.1, fun q => ?_, fun _ => ⟨A 42, M'.r k42, M'.t k42 rfl, M'.v k42 (by show o < 15100; omega), ?_⟩⟩
      · rw [g59'] at q; have := (nI_le' (by omega) (by omega)).mp q; omega
      · rw [co, e42]
        rcases h3 o ho (by omega) with ⟨x1, x2⟩ | ⟨a, ha, x1⟩
        · rw [x1]
          refine ⟨fun _ => q31 _ _ _ ?_, fun q => absurd (by decide) q⟩
          rw [nI_1]
          exact ih (o + 1) n f h' (by omega) (by omega) (by omega) F' e43 eL htd (fun i hi => ⟨by have := (hc1 i hi).1; omega, (hc1 i hi).2⟩) (fun b hb hlt => hc2 b hb (by have := x2 b hb; omega)) hinj
        · rw [← x1, (h4 a ha).1, x1]
          refine ⟨fun q => absurd q (h4k a ha), fun _ => ⟨A 54, M'.r k54, M'.t k54 rfl, M'.v k54 (by show n < 15100; omega), q31 _ _ _ ?_⟩⟩
          rw [nI_clamp (show n < 2 ^ 31 by omega), nI_1, nI_1]
          refine ih (o + 1) (n + 1) (up1 f n o) _ (by omega) (by omega) (by omega) (F'.q54 _ _) (by rw [aIx _ _ _ _ _ (hF.ne k43 k54 (by decide))]; exact e43) eL (fun i hi => ?_) (fun i hi => ?_) (fun b hb hlt => ?_) (fun i j hi hj e => ?_)
          · rw [aI_qI]; unfold up1
            by_cases e : i = n
            · simp [e]
            · simp [e]; exact htd i (by omega)
          · unfold up1
            by_cases e : i = n
            · rw [if_pos e]; exact ⟨by omega, a, ha, x1.symm⟩
            · rw [if_neg e]; have := hc1 i (by omega); exact ⟨by omega, this.2⟩
          · by_cases e : num g b = o
            · exact ⟨n, by omega, by rw [up1_same]; exact e.symm⟩
            · obtain ⟨i, hi, e2⟩ := hc2 b hb (by omega)
              exact ⟨i, by omega, by rw [up1_ne (by omega)]; exact e2⟩
          · unfold up1 at e
            by_cases e1 : i = n
            · by_cases e2 : j = n
              · rw [e1, e2]
              · rw [if_pos e1, if_neg e2] at e
                have := (hc1 j (by omega)).1; omega
            · by_cases e2 : j = n
              · rw [if_neg e1, if_pos e2] at e
                have := (hc1 i (by omega)).1; omega
              · rw [if_neg e1, if_neg e2] at e
                exact hinj i j (by omega) (by omega) e
  exact stageA (N - 1) 1 0 (fun _ => 0) h (by omega) (Nat.le_refl _) (by omega) PU.rfl' rfl rfl (fun i hi => by omega) (fun i hi => by omega) (fun a ha hlt => by have := (h1 a ha).1; omega) (fun i j hi => by omega)
end MPUSH
