/-! Loose ones, pairs, collect; the class's start. -/
section NEW2
variable {b : Nat} {h : Hp} {A : Nat → Nat} {S : St} {Q : Option AV ⊕ String → Hp → Prop}
theorem room_rt (hW : WF S) (c : Nat) {x : Int32} (hx : inN S x) {y : Nat} (hy : rtN S x = some y) : y ∈ ob (roomB S c) := by
  have e := room_same (c := c) hW
  have : rtN (roomB S c) x = some y := by unfold rtN; rw [e.1]; exact hy
  refine rtN_ob (roomB_wf hW c) ?_ this
  unfold inN inR; rw [e.2.1]; exact hx
theorem c_loose (hC : CI (b, ob S) h A S) (hW : WF S) (hb : b + 2 < 2 ^ 31) {x1 x2 x3 x4 : Int32} (h1 : ¬ inR S x1 ∨ ¬ (0 ≤ x2 ∧ x2 ≤ 2) ∨ ¬ inR S x3 ∨ ¬ inN S x4 → Q (.inr xA) h)
    (h2 : inR S x1 → (0 ≤ x2 ∧ x2 ≤ 2) → inR S x3 → inN S x4 → (rtN S x3 = none ∨ (x4 ≠ -1 ∧ ∀ a, rtN S x4 = some a → ¬ kd S a = 3)) → Q (.inr xS) h)
    (h3 : ∀ i m, i < nt S → x1 = nI i → m ≤ 2 → x2 = nI m → inR S x3 → inN S x4 → rtN S x3 ≠ none → (∀ a, rtN S x4 = some a → kd S a = 3) → (x4 ≠ -1 → rtN S x4 ≠ none) → MkP b h A S i (4 + x2) 0 0 (rtN S x3) none (rtN S x4) Q) : vc_X6_loose (A 0) x1 x2 x3 x4 h Q := by
  have f1 := hC.1.1.1
  have hnt := hW.nt
  refine ⟨f1, c_root hC hW (fun i hi e => c_range (fun a1 a2 => ⟨f1, c_root hC hW (fun j hj e3 => ⟨f1, c_rootOrNone hC hW (fun hx4 => ⟨f1, ?_⟩) (fun q => h1 (Or.inr (Or.inr (Or.inr q))))⟩) (fun q => h1 (Or.inr (Or.inr (Or.inl q))))⟩) (fun q => h1 (Or.inr (Or.inl q)))) (fun q => h1 (Or.inl q))⟩
  subst e; subst e3
  have r1 : inR S (nI i) := ⟨i, hi, rfl⟩
  have r3 : inR S (nI j) := ⟨j, hj, rfl⟩
  have ej : rtN S (nI j) = rt S j := rtN_nI (by omega)
  refine c_objectAt hC hW hj (fun y hy => ⟨f1, ?_⟩) (fun e => h2 r1 ⟨a1, a2⟩ r3 hx4 (Or.inl (by rw [ej]; exact e)))
  refine c_lineAtOrNone hC hW hx4 (fun q1 q2 => ⟨f1, ?_⟩) (fun q1 q2 => h2 r1 ⟨a1, a2⟩ r3 hx4 (Or.inr ⟨q1, q2⟩))
  obtain ⟨m, hm, rfl⟩ := nI_ex' a1
  have m2 : m ≤ 2 := (nI_le' (b := 2) hm (by decide)).mp a2
  have hk : (4 : Int32) + nI m = 4 ∨ (4 : Int32) + nI m = 5 ∨ (4 : Int32) + nI m = 6 := by
    rcases (show m = 0 ∨ m = 1 ∨ m = 2 by omega) with rfl | rfl | rfl
    · exact Or.inl (by decide)
    · exact Or.inr (Or.inl (by decide))
    · exact Or.inr (Or.inr (by decide))
  have hl : ls (4 + nI m) := by rcases hk with e | e | e <;> rw [e] <;> simp [ls]
  have hc : clN (4 + nI m) (0 + 0) = 4 := by rcases hk with e | e | e <;> rw [e] <;> decide
  obtain ⟨p1, p2⟩ := h3 i m hi rfl m2 rfl r3 hx4 (by rw [ej, hy]; simp) q1 q2
  rw [hc] at p1 p2
  have hN : NSh (roomB S 4) (4 + nI m) 0 0 (rtN S (nI j)) none (rtN S x4) := by
    refine ⟨Or.inr (Or.inr hl), fun _ => ⟨rfl, rfl⟩, fun _ => rfl, fun _ => rfl, by omega, by omega, fun _ => ⟨fun c hc => room_rt hW 4 (Or.inr r3) hc, fun c hc => (by cases hc), fun q hq => ⟨room_rt hW 4 hx4 hq, ?_⟩⟩⟩
    show fI (roomB S 4).1 0 q = 3
    rw [(room_same hW).2.2.2.2]; exact q1 q hq
  refine c_room (c := 4) hC hW hb (by omega) (fun hf h' C' F' => ⟨fun z => absurd z (by decide), fun _ a ha => ?_⟩) (fun hf h' C' F' => ⟨fun _ => p1 hf h' C' F', fun z => absurd rfl z⟩)
  refine ⟨Or.inr (Or.inr tO2), tO2, ?_⟩
  refine c_newPlain (k := 4 + nI m) (o1 := rtN S (nI j)) (o2 := none) (o3 := rtN S x4) (tt := 4) C' (roomB_wf hW _) (ls_nohd hl) hN (by show fitS _ (clN _ (0 + 0)); rw [hc]; exact hf) (by rw [(room_same hW).2.1]; exact hi) ha (Or.inr ⟨rfl, hl⟩) (Or.inl ?_) (fun hao h'' C'' F'' => ?_)
  · rw [ej, hy]
    show _ = pR (pR (pR (pI (pI (nO h' a 4) 0 a (4 + nI m)) 1 a (nI (clN (4 + nI m) (0 + 0)))) 13 a (some y)) 14 a none) 15 a (rtN S x4)
    rw [hc]; rfl
  · show Q (.inl (some (vi (nI (clN (4 + nI m) (0 + 0)))))) h''
    rw [hc]; exact p2 hf hN a h'' hao C'' (F'.trans F'')
theorem c_pair (hC : CI (b, ob S) h A S) (hW : WF S) (hb : b + 2 < 2 ^ 31) {x1 x2 x3 x4 : Int32} (h1 : ¬ inR S x1 ∨ ¬ inR S x2 ∨ ¬ inN S x3 ∨ ¬ inN S x4 → Q (.inr xA) h)
    (h2 : inR S x1 → inR S x2 → inN S x3 → inN S x4 → (rtN S x2 = none ∨ (x4 ≠ -1 ∧ ∀ a, rtN S x4 = some a → ¬ kd S a = 3)) → Q (.inr xS) h)
    (h3 : ∀ i, i < nt S → x1 = nI i → inR S x2 → inN S x3 → inN S x4 → rtN S x2 ≠ none → (∀ a, rtN S x4 = some a → kd S a = 3) → (x4 ≠ -1 → rtN S x4 ≠ none) → MkP b h A S i 7 0 0 (rtN S x2) (rtN S x3) (rtN S x4) Q) : vc_X6_pair (A 0) x1 x2 x3 x4 h Q := by
  have f1 := hC.1.1.1
  have hnt := hW.nt
  refine ⟨f1, c_root hC hW (fun i hi e => ⟨f1, c_root hC hW (fun j hj e3 => ⟨f1, c_rootOrNone hC hW (fun hx3 => ⟨f1, c_rootOrNone hC hW (fun hx4 => ⟨f1, ?_⟩) (fun q => h1 (Or.inr (Or.inr (Or.inr q))))⟩) (fun q => h1 (Or.inr (Or.inr (Or.inl q))))⟩) (fun q => h1 (Or.inr (Or.inl q)))⟩) (fun q => h1 (Or.inl q))⟩
  subst e; subst e3
  have r1 : inR S (nI i) := ⟨i, hi, rfl⟩
  have r3 : inR S (nI j) := ⟨j, hj, rfl⟩
  have ej : rtN S (nI j) = rt S j := rtN_nI (by omega)
  refine c_objectAt hC hW hj (fun y hy => ⟨f1, c_atOrNone hC hW hx3 ⟨f1, ?_⟩⟩) (fun e => h2 r1 r3 hx3 hx4 (Or.inl (by rw [ej]; exact e)))
  refine c_lineAtOrNone hC hW hx4 (fun q1 q2 => ⟨f1, ?_⟩) (fun q1 q2 => h2 r1 r3 hx3 hx4 (Or.inr ⟨q1, q2⟩))
  have hc : clN 7 (0 + 0) = 5 := by decide
  obtain ⟨p1, p2⟩ := h3 i hi rfl r3 hx3 hx4 (by rw [ej, hy]; simp) q1 q2
  rw [hc] at p1 p2
  have hN : NSh (roomB S 5) 7 0 0 (rtN S (nI j)) (rtN S x3) (rtN S x4) := by
    refine ⟨Or.inr (Or.inr ls7), fun _ => ⟨rfl, rfl⟩, fun _ => rfl, fun _ => rfl, by omega, by omega, fun _ => ⟨fun c hc => room_rt hW 5 (Or.inr r3) hc, fun c hc => ⟨room_rt hW 5 hx3 hc, rfl, by rw [ej, hy]; simp⟩, fun q hq => ⟨room_rt hW 5 hx4 hq, ?_⟩⟩⟩
    show fI (roomB S 5).1 0 q = 3
    rw [(room_same hW).2.2.2.2]; exact q1 q hq
  refine c_room (c := 5) hC hW hb (by omega) (fun hf h' C' F' => ⟨fun z => absurd z (by decide), fun _ a ha => ?_⟩) (fun hf h' C' F' => ⟨fun _ => p1 hf h' C' F', fun z => absurd rfl z⟩)
  refine ⟨Or.inr (Or.inr tO2), tO2, ?_⟩
  refine c_newPlain (k := 7) (o1 := rtN S (nI j)) (o2 := rtN S x3) (o3 := rtN S x4) (tt := 4) C' (roomB_wf hW _) (ls_nohd ls7) hN (by show fitS _ (clN _ (0 + 0)); rw [hc]; exact hf) (by rw [(room_same hW).2.1]; exact hi) ha (Or.inr ⟨rfl, ls7⟩) (Or.inl ?_) (fun hao h'' C'' F'' => ?_)
  · rw [ej, hy]; rfl
  · exact p2 hf hN a h'' hao C'' (F'.trans F'')
theorem c_coll (hC : CI (b, ob S) h A S) (hW : WF S) (hb : b + 1 < 2 ^ 31) {sf : Int32} (h1 : ∀ h', CI (b + 1, ob (coll S sf)) h' A (coll S sf) → FC A h h' → Q (.inl (some (vi (nI (us S) - nI (us (coll S sf)))))) h') : vc_X6_collect (A 0) sf h Q :=
  ⟨hC.1.1.1, c_collect hC hW hb h1⟩
end NEW2
