/-! The class's plain methods. -/
section COPS
variable {B : Nat × List Nat} {h : Hp} {A : Nat → Nat} {S : St} {Q : Option AV ⊕ String → Hp → Prop}
theorem c_count (hC : CI B h A S) {x1 : Int32} (h1 : ¬ (0 ≤ x1 ∧ x1 ≤ 9) → Q (.inr xA) h) (h2 : ∀ k, k < 10 → x1 = nI k → Q (.inl (some (vi (cn S k)))) h) : vc_X6_count (A 0) x1 h Q := by
  obtain ⟨⟨f1, f2, f3, f4, f5, f6, f7⟩, ⟨g1, g2, g3, g4, g5, g6⟩, ⟨l1, l2, l3⟩, -⟩ := hC.1
  refine c_range (fun a b => ?_) h1
  obtain ⟨k, hk, rfl⟩ := nI_ex' a
  have hk9 : k < 10 := by have := (nI_le' (b := 9) hk (by decide)).mp b; omega
  refine ⟨f1, A 31, f4, g3, by rw [l3]; exact vin hk9 (by decide), ?_⟩
  rw [nI_clamp hk, hC.2.1.2.2.2.1 k hk9]
  exact h2 k hk9 rfl
theorem c_every (hC : CI B h A S) {x1 : Int32} (h1 : x1 < 0 → Q (.inr xA) h) (h2 : ¬ x1 < 0 → ∀ h', CI B h' A S → FC A h h' → Q (.inl (some (vi x1))) h') : vc_X6_every (A 0) x1 h Q := by
  have f1 := hC.1.1.1
  obtain ⟨c1, c2, c3, c4, c5⟩ := hC
  refine c_notNeg (fun i hi e => ⟨f1, h2 (by rw [e]; exact nI_pos hi) _ ⟨c1, ?_, ?_, ?_, ?_⟩ ((FC.rfl'.pI (by decide)).pI (by decide))⟩) h1
  · exact c2.congr rfl (by simp [fI_pI]) (by simp [fI_pI]) rfl rfl
  · refine ⟨fun a ha => (c3.1 a ha).congr (eqT.of rfl rfl) (fun k hk => ?_) (fun _ _ => rfl) (fun _ _ => rfl) (fun _ _ _ => rfl) (fun _ _ _ => rfl), c3.2⟩
    rw [fIx _ _ _ _ _ (by simp at hk; omega), fIx _ _ _ _ _ (by simp at hk; omega)]
  · exact c4.congr (fun c _ => ⟨rfl, rfl, by simp [fI_pI], by simp [fI_pI]⟩) (fun _ _ => rfl)
  · exact c5.congr (by simp [fI_pI]) (fun a _ => ⟨rfl, by simp [fI_pI]⟩)
/-- the object in a root that is of the wanted kind, or a throw -/
theorem c_holderAt (hC : CI B h A S) (hW : WF S) {i : Nat} (hi : i < nt S) (h1 : ∀ a, rt S i = some a → hd (kd S a) → Q (.inl (some (vr (some a)))) h) (h2 : (∀ a, rt S i = some a → ¬ hd (kd S a)) → Q (.inr xS) h) : vc_X6_holderAt (A 0) (nI i) h Q := by
  obtain ⟨⟨f1, f2, f3, f4, f5, f6, f7⟩, ⟨g1, g2, g3, g4, g5, g6⟩, ⟨l1, l2, l3⟩, -⟩ := hC.1
  have hn := hW.nt
  have ho := hW.2.2.2.2.2.2.2.2.2.2 i hi
  refine ⟨f1, A 29, f2, g1, by rw [l1]; exact vin (by omega) (by decide), ?_⟩
  rw [nI_clamp (by omega), hC.root hW hi]
  refine ⟨fun b hb => hC.thg hW (ho b hb), fun a ha ht => ?_, fun q => h2 fun a ha k => q a ha ((COa.t2 (hW.2.1 a (ho a ha)) (hC.2.2.1.1 a (ho a ha))).mpr k)⟩
  rw [ha]
  exact h1 a ha ((COa.t2 (hW.2.1 a (ho a ha)) (hC.2.2.1.1 a (ho a ha))).mp ht)
theorem c_lineAt (hC : CI B h A S) (hW : WF S) {i : Nat} (hi : i < nt S) (h1 : ∀ a, rt S i = some a → kd S a = 3 → Q (.inl (some (vr (some a)))) h) (h2 : (∀ a, rt S i = some a → ¬ kd S a = 3) → Q (.inr xS) h) : vc_X6_lineAt (A 0) (nI i) h Q := by
  obtain ⟨⟨f1, f2, f3, f4, f5, f6, f7⟩, ⟨g1, g2, g3, g4, g5, g6⟩, ⟨l1, l2, l3⟩, -⟩ := hC.1
  have hn := hW.nt
  have ho := hW.2.2.2.2.2.2.2.2.2.2 i hi
  refine ⟨f1, A 29, f2, g1, by rw [l1]; exact vin (by omega) (by decide), ?_⟩
  rw [nI_clamp (by omega), hC.root hW hi]
  refine ⟨fun b hb => hC.thg hW (ho b hb), fun a ha ht => ?_, fun q => h2 fun a ha k => q a ha ((COa.t3 (hW.2.1 a (ho a ha)) (hC.2.2.1.1 a (ho a ha))).mpr k)⟩
  rw [ha]
  exact h1 a ha ((COa.t3 (hW.2.1 a (ho a ha)) (hC.2.2.1.1 a (ho a ha))).mp ht)
theorem c_looseAt (hC : CI B h A S) (hW : WF S) {i : Nat} (hi : i < nt S) (h1 : ∀ a, rt S i = some a → ls (kd S a) → Q (.inl (some (vr (some a)))) h) (h2 : (∀ a, rt S i = some a → ¬ ls (kd S a)) → Q (.inr xS) h) : vc_X6_looseAt (A 0) (nI i) h Q := by
  obtain ⟨⟨f1, f2, f3, f4, f5, f6, f7⟩, ⟨g1, g2, g3, g4, g5, g6⟩, ⟨l1, l2, l3⟩, -⟩ := hC.1
  have hn := hW.nt
  have ho := hW.2.2.2.2.2.2.2.2.2.2 i hi
  refine ⟨f1, A 29, f2, g1, by rw [l1]; exact vin (by omega) (by decide), ?_⟩
  rw [nI_clamp (by omega), hC.root hW hi]
  refine ⟨fun b hb => hC.thg hW (ho b hb), fun a ha ht => ?_, fun q => h2 fun a ha k => q a ha ((COa.t4 (hW.2.1 a (ho a ha)) (hC.2.2.1.1 a (ho a ha))).mpr k)⟩
  rw [ha]
  exact h1 a ha ((COa.t4 (hW.2.1 a (ho a ha)) (hC.2.2.1.1 a (ho a ha))).mp ht)
theorem c_pairAt (hC : CI B h A S) (hW : WF S) {i : Nat} (hi : i < nt S) (h1 : ∀ a, rt S i = some a → kd S a = 7 → Q (.inl (some (vr (some a)))) h) (h2 : (∀ a, rt S i = some a → ¬ kd S a = 7) → Q (.inr xS) h) : vc_X6_pairAt (A 0) (nI i) h Q := by
  have ho := hW.2.2.2.2.2.2.2.2.2.2 i hi
  refine ⟨hC.1.1.1, c_looseAt hC hW hi (fun a ha k => ⟨a, rfl, ((hC.2.2.1.1 a (ho a ha)).2.2.2.2.2 k).1, fun e => ?_, fun e => ?_⟩) (fun q => h2 fun a ha e => q a ha (by rw [e]; exact ls7))⟩
  · rw [(hC.2.2.1.1 a (ho a ha)).1] at e; exact h1 a ha e
  · rw [(hC.2.2.1.1 a (ho a ha)).1] at e; exact h2 fun b hb => by rw [ha] at hb; cases hb; exact e
theorem c_lineAtOrNone (hC : CI B h A S) (hW : WF S) {x : Int32} (hx : inN S x) (h1 : (∀ a, rtN S x = some a → kd S a = 3) → (x ≠ -1 → rtN S x ≠ none) → Q (.inl (some (vr (rtN S x)))) h) (h2 : x ≠ -1 → (∀ a, rtN S x = some a → ¬ kd S a = 3) → Q (.inr xS) h) : vc_X6_lineAtOrNone (A 0) x h Q := by
  have hn := hW.nt
  rcases hx with rfl | ⟨i, hi, rfl⟩
  · refine ⟨fun q => absurd rfl q, fun _ => h1 (fun a ha => by cases ha) (fun q => absurd rfl q)⟩
  · rw [rtN_nI (by omega)] at h1 h2
    refine ⟨fun _ => ⟨hC.1.1.1, c_lineAt hC hW hi (fun a ha k => ?_) (fun q => h2 (nI_nm1 (by omega)) q)⟩, fun q => absurd q (nI_nm1 (by omega))⟩
    have := h1 (fun b hb => by rw [ha] at hb; cases hb; exact k) (fun _ => by rw [ha]; simp)
    rw [ha] at this; exact this
theorem c_objectAt (hC : CI B h A S) (hW : WF S) {i : Nat} (hi : i < nt S) (h1 : ∀ a, rt S i = some a → Q (.inl (some (vr (some a)))) h) (h2 : rt S i = none → Q (.inr xS) h) : vc_X6_objectAt (A 0) (nI i) h Q := by
  obtain ⟨⟨f1, f2, f3, f4, f5, f6, f7⟩, ⟨g1, g2, g3, g4, g5, g6⟩, ⟨l1, l2, l3⟩, -⟩ := hC.1
  have hn := hW.nt
  refine ⟨f1, A 29, f2, g1, by rw [l1]; exact vin (by omega) (by decide), ?_⟩
  rw [nI_clamp (by omega), hC.root hW hi]
  exact ⟨fun a ha => by rw [ha]; exact h1 a ha, h2⟩
def isRef (S : St) (i k a : Nat) : Prop := rt S i = some a ∧ hd (kd S a) ∧ k < nr S a
def isNum (S : St) (i k a : Nat) : Prop := rt S i = some a ∧ hd (kd S a) ∧ k < nn S a
theorem c_holderOfRef (hC : CI B h A S) (hW : WF S) {i k : Nat} (hi : i < nt S) (hk : k < 2 ^ 31) (h1 : ∀ a, isRef S i k a → Q (.inl (some (vr (some a)))) h) (h2 : (∀ a, ¬ isRef S i k a) → Q (.inr xS) h) : vc_X6_holderOfRef (A 0) (nI i) (nI k) h Q := by
  have ho := hW.2.2.2.2.2.2.2.2.2.2 i hi
  refine ⟨hC.1.1.1, c_holderAt hC hW hi (fun a ha kk => ?_) (fun q => h2 fun a e => q a e.1 e.2.1)⟩
  obtain ⟨t, r, n, d1, d2, d3, -⟩ := (hC.2.2.1.1 a (ho a ha)).2.2.2.1 kk
  have h3000 := (hW.2.1 a (ho a ha)).2.2.2.2.1
  refine ⟨a, rfl, t, r, d1, d2, ?_, ?_⟩
  · intro q; rw [d3] at q
    exact h1 a ⟨ha, kk, (nI_lt' hk (by omega)).mp q⟩
  · intro q; rw [d3] at q
    refine h2 fun b e => q ?_
    have := e.1; rw [ha] at this; cases this
    exact (nI_lt' hk (by omega)).mpr e.2.2
theorem c_holderOfNumber (hC : CI B h A S) (hW : WF S) {i k : Nat} (hi : i < nt S) (hk : k < 2 ^ 31) (h1 : ∀ a, isNum S i k a → Q (.inl (some (vr (some a)))) h) (h2 : (∀ a, ¬ isNum S i k a) → Q (.inr xS) h) : vc_X6_holderOfNumber (A 0) (nI i) (nI k) h Q := by
  have ho := hW.2.2.2.2.2.2.2.2.2.2 i hi
  refine ⟨hC.1.1.1, c_holderAt hC hW hi (fun a ha kk => ?_) (fun q => h2 fun a e => q a e.1 e.2.1)⟩
  obtain ⟨t, r, n, d1, d2, d3, d4, d5, d6, d7, d8, -⟩ := (hC.2.2.1.1 a (ho a ha)).2.2.2.1 kk
  have h3000 := (hW.2.1 a (ho a ha)).2.2.2.2.2.1
  refine ⟨a, rfl, t, n, d6, d7, ?_, ?_⟩
  · intro q; rw [d8] at q
    exact h1 a ⟨ha, kk, (nI_lt' hk (by omega)).mp q⟩
  · intro q; rw [d8] at q
    refine h2 fun b e => q ?_
    have := e.1; rw [ha] at this; cases this
    exact (nI_lt' hk (by omega)).mpr e.2.2
/-! A ref, a number, a value is set. -/
theorem CI.setRef (hC : CI B h A S) (hW : WF S) {a k r : Nat} (ha : a ∈ ob S) (hk : hd (kd S a)) (hr : fR h 8 a = some r) (o : Option Nat) : CI B (qR h r k o) A (wH S (qR S.1 a k o)) := by
  obtain ⟨c1, c2, c3, c4, c5⟩ := hC
  obtain ⟨t, r', n, d1, d2, d3, d4, d5, d6⟩ := (c3.1 a ha).2.2.2.1 hk
  rw [hr] at d1; cases d1
  refine ⟨c1, c2.congr (aRx _ _ _ _ _ (Ne.symm d4)) rfl rfl rfl rfl, ⟨fun b hb => ?_, c3.2⟩, c4, c5⟩
  by_cases e : b = a
  · subst e
    obtain ⟨e1, e2, e3, e4, e5, e6⟩ := c3.1 b hb
    refine ⟨e1, e2, e3, fun _ => ⟨t, r, n, hr, d2, d3, d4, fun j hj => ?_, d6⟩, e5, e6⟩
    rw [aR_qR]
    show _ = aR (qR S.1 b k o) b j
    rw [aR_qR]
    by_cases ej : j = k
    · simp [ej]
    · simp [ej]; exact d5 j hj
  · have := (c3.1 b hb).congr (h' := qR h r k o) (eqT.of rfl rfl) (fun _ _ => rfl) (fun _ _ => rfl) (fun _ _ => rfl) (fun kb r2 hr2 => aRx _ _ _ _ _ (fun e2 => by
      subst e2; exact (c3.2 a ha b hb hk kb (Ne.symm e)).1 (hr.trans hr2.symm))) (fun _ _ _ => rfl)
    obtain ⟨e1, e2, e3, e4, e5, e6⟩ := this
    refine ⟨e1, e2, e3, fun kb => ?_, e5, e6⟩
    obtain ⟨tb, rb, nb, b1, b2, b3, b4, b5, b6⟩ := e4 kb
    refine ⟨tb, rb, nb, b1, b2, b3, b4, fun j hj => ?_, b6⟩
    rw [b5 j hj]
    show _ = aR (qR S.1 a k o) b j
    rw [aR_qR, if_neg (fun q => e q.1)]
theorem CI.setNum (hC : CI B h A S) (hW : WF S) {a k n : Nat} (ha : a ∈ ob S) (hk : hd (kd S a)) (hr : fR h 9 a = some n) (z : Int64) : CI B (qL h n k z) A (wH S (qL S.1 a k z)) := by
  obtain ⟨c1, c2, c3, c4, c5⟩ := hC
  obtain ⟨t, r, n', d1, d2, d3, d4, d5, d6, d7, d8, d9, d10⟩ := (c3.1 a ha).2.2.2.1 hk
  rw [hr] at d6; cases d6
  refine ⟨c1, c2.congr rfl rfl rfl rfl rfl, ⟨fun b hb => ?_, c3.2⟩, c4, c5⟩
  by_cases e : b = a
  · subst e
    obtain ⟨e1, e2, e3, e4, e5, e6⟩ := c3.1 b hb
    refine ⟨e1, e2, e3, fun _ => ⟨t, r, n, d1, d2, d3, d4, d5, hr, d7, d8, d9, fun j hj => ?_⟩, e5, e6⟩
    rw [aL_qL]
    show _ = aL (qL S.1 b k z) b j
    rw [aL_qL]
    by_cases ej : j = k
    · simp [ej]
    · simp [ej]; exact d10 j hj
  · have := (c3.1 b hb).congr (h' := qL h n k z) (eqT.of rfl rfl) (fun _ _ => rfl) (fun _ _ => rfl) (fun _ _ => rfl) (fun _ _ _ => rfl) (fun kb r2 hr2 => aLx _ _ _ _ _ (fun e2 => by
      subst e2; exact (c3.2 a ha b hb hk kb (Ne.symm e)).2 (hr.trans hr2.symm)))
    obtain ⟨e1, e2, e3, e4, e5, e6⟩ := this
    refine ⟨e1, e2, e3, fun kb => ?_, e5, e6⟩
    obtain ⟨tb, rb, nb, b1, b2, b3, b4, b5, b6, b7, b8, b9, b10⟩ := e4 kb
    refine ⟨tb, rb, nb, b1, b2, b3, b4, b5, b6, b7, b8, b9, fun j hj => ?_⟩
    rw [b10 j hj]
    show _ = aL (qL S.1 a k z) b j
    rw [aL_qL, if_neg (fun q => e q.1)]
theorem c_link (hC : CI B h A S) (hW : WF S) {x1 x2 x3 : Int32} (h1 : ¬ inR S x1 ∨ x2 < 0 ∨ ¬ inN S x3 → Q (.inr xA) h) (h2 : ∀ i k, i < nt S → x1 = nI i → k < 2 ^ 31 → x2 = nI k → inN S x3 → (∀ a, ¬ isRef S i k a) → Q (.inr xS) h)
    (h3 : ∀ i k a, i < nt S → x1 = nI i → k < 2 ^ 31 → x2 = nI k → inN S x3 → isRef S i k a → ∀ h', CI B h' A (wH S (qR S.1 a k (rtN S x3))) → FC A h h' → Q (.inl (some (vi (one (rtN S x3))))) h') : vc_X6_link (A 0) x1 x2 x3 h Q := by
  have f1 := hC.1.1.1
  refine ⟨f1, c_root hC hW (fun i hi e => c_notNeg (fun k hk e2 => ⟨f1, c_rootOrNone hC hW (fun hx => ⟨f1, ?_⟩) (fun q => h1 (Or.inr (Or.inr q)))⟩) (fun q => h1 (Or.inr (Or.inl q)))) (fun q => h1 (Or.inl q))⟩
  subst e; subst e2
  refine c_holderOfRef hC hW hi hk (fun a hr => ?_) (fun q => h2 i k hi rfl hk rfl hx q)
  have ha := hW.2.2.2.2.2.2.2.2.2.2 i hi a hr.1
  obtain ⟨t, r, n, d1, d2, d3, d4, d5, d6⟩ := (hC.2.2.1.1 a ha).2.2.2.1 hr.2.1
  have h3000 := (hW.2.1 a ha).2.2.2.2.1
  have hkr := hr.2.2
  refine ⟨a, rfl, t, f1, c_atOrNone hC hW hx ?_⟩
  have hin : vp_in (nI k) (ln h r) := by rw [d3]; exact vin hkr (by omega)
  refine ⟨r, d1, d2, hin, fun b hb => hC.thg hW (rtN_ob hW hx hb), t, r, d1, d2, hin, c_one ?_⟩
  rw [nI_clamp hk, aR_qR, if_pos ⟨rfl, rfl⟩]
  exact h3 i k a hi rfl hk rfl hx hr _ (hC.setRef hW ha hr.2.1 d1 _) (FC.rfl'.qR)
theorem c_fetch (hC : CI B h A S) (hW : WF S) {x1 x2 x3 : Int32} (h1 : ¬ inR S x1 ∨ ¬ inR S x2 ∨ x3 < 0 → Q (.inr xA) h) (h2 : ∀ i j k, i < nt S → x1 = nI i → j < nt S → x2 = nI j → k < 2 ^ 31 → x3 = nI k → (∀ a, ¬ isRef S j k a) → Q (.inr xS) h)
    (h3 : ∀ i j k a, i < nt S → x1 = nI i → j < nt S → x2 = nI j → k < 2 ^ 31 → x3 = nI k → isRef S j k a → ∀ h', CI B h' A (wR S i (rf S a k)) → FC A h h' → Q (.inl (some (vi (one (rf S a k))))) h') : vc_X6_fetch (A 0) x1 x2 x3 h Q := by
  have f1 := hC.1.1.1
  refine ⟨f1, c_root hC hW (fun i hi e => ⟨f1, c_root hC hW (fun j hj e1 => c_notNeg (fun k hk e2 => ⟨f1, ?_⟩) (fun q => h1 (Or.inr (Or.inr q)))) (fun q => h1 (Or.inr (Or.inl q)))⟩) (fun q => h1 (Or.inl q))⟩
  subst e; subst e1; subst e2
  refine c_holderOfRef hC hW hj hk (fun a hr => ?_) (fun q => h2 i j k hi rfl hj rfl hk rfl q)
  have ha := hW.2.2.2.2.2.2.2.2.2.2 j hj a hr.1
  obtain ⟨t, r, n, d1, d2, d3, d4, d5, d6⟩ := (hC.2.2.1.1 a ha).2.2.2.1 hr.2.1
  have h3000 := (hW.2.1 a ha).2.2.2.2.1
  have hkr := hr.2.2
  refine ⟨a, rfl, t, r, d1, d2, by rw [d3]; exact vin hkr (by omega), f1, ?_⟩
  rw [nI_clamp hk, d5 k hkr]
  exact c_putRoot hC hW hi (fun b hb => (hW.2.1 a ha).2.2.2.2.2.2.1 k hkr b hb) (h3 i j k a hi rfl hj rfl hk rfl hr)
theorem c_set (hC : CI B h A S) (hW : WF S) {x1 x2 : Int32} {z : Int64} (h1 : ¬ inR S x1 ∨ x2 < 0 → Q (.inr xA) h) (h2 : ∀ i k, i < nt S → x1 = nI i → k < 2 ^ 31 → x2 = nI k → (∀ a, ¬ isNum S i k a) → Q (.inr xS) h)
    (h3 : ∀ i k a, i < nt S → x1 = nI i → k < 2 ^ 31 → x2 = nI k → isNum S i k a → ∀ h', CI B h' A (wH S (qL S.1 a k z)) → FC A h h' → Q (.inl (some (vl (nv S a k)))) h') : vc_X6_set (A 0) x1 x2 z h Q := by
  have f1 := hC.1.1.1
  refine ⟨f1, c_root hC hW (fun i hi e => c_notNeg (fun k hk e2 => ⟨f1, ?_⟩) (fun q => h1 (Or.inr q))) (fun q => h1 (Or.inl q))⟩
  subst e; subst e2
  refine c_holderOfNumber hC hW hi hk (fun a hr => ?_) (fun q => h2 i k hi rfl hk rfl q)
  have ha := hW.2.2.2.2.2.2.2.2.2.2 i hi a hr.1
  obtain ⟨t, r, n, d1, d2, d3, d4, d5, d6, d7, d8, d9, d10⟩ := (hC.2.2.1.1 a ha).2.2.2.1 hr.2.1
  have h3000 := (hW.2.1 a ha).2.2.2.2.2.1
  have hkr := hr.2.2
  have hin : vp_in (nI k) (ln h n) := by rw [d8]; exact vin hkr (by omega)
  refine ⟨a, rfl, t, n, d6, d7, hin, hin, ?_⟩
  rw [nI_clamp hk, d10 k hkr]
  exact h3 i k a hi rfl hk rfl hr _ (hC.setNum hW ha hr.2.1 d6 _) (FC.rfl'.qL (fun k hk => Ne.symm (d9 k hk)))
theorem c_get (hC : CI B h A S) (hW : WF S) {x1 x2 : Int32} (h1 : ¬ inR S x1 ∨ x2 < 0 → Q (.inr xA) h) (h2 : ∀ i k, i < nt S → x1 = nI i → k < 2 ^ 31 → x2 = nI k → (∀ a, ¬ isNum S i k a) → Q (.inr xS) h)
    (h3 : ∀ i k a, i < nt S → x1 = nI i → k < 2 ^ 31 → x2 = nI k → isNum S i k a → Q (.inl (some (vl (nv S a k)))) h) : vc_X6_get (A 0) x1 x2 h Q := by
  have f1 := hC.1.1.1
  refine ⟨f1, c_root hC hW (fun i hi e => c_notNeg (fun k hk e2 => ⟨f1, ?_⟩) (fun q => h1 (Or.inr q))) (fun q => h1 (Or.inl q))⟩
  subst e; subst e2
  refine c_holderOfNumber hC hW hi hk (fun a hr => ?_) (fun q => h2 i k hi rfl hk rfl q)
  have ha := hW.2.2.2.2.2.2.2.2.2.2 i hi a hr.1
  obtain ⟨t, r, n, d1, d2, d3, d4, d5, d6, d7, d8, d9, d10⟩ := (hC.2.2.1.1 a ha).2.2.2.1 hr.2.1
  have h3000 := (hW.2.1 a ha).2.2.2.2.2.1
  have hkr := hr.2.2
  refine ⟨a, rfl, t, n, d6, d7, by rw [d8]; exact vin hkr (by omega), ?_⟩
  rw [nI_clamp hk, d10 k hkr]
  exact h3 i k a hi rfl hk rfl hr
end COPS
