/-! The class's methods on loose ones and queues. -/
section COP2
variable {B : Nat × List Nat} {h : Hp} {A : Nat → Nat} {S : St} {Q : Option AV ⊕ String → Hp → Prop}
theorem c_waiting (hC : CI B h A S) (hW : WF S) {x1 : Int32} (h1 : ¬ inR S x1 → Q (.inr xA) h) (h2 : ∀ i, i < nt S → x1 = nI i → (∀ a, rt S i = some a → ¬ kd S a = 3) → Q (.inr xS) h)
    (h3 : ∀ i a, i < nt S → x1 = nI i → rt S i = some a → kd S a = 3 → Q (.inl (some (vi (nI (qu S a).length)))) h) : vc_X6_waiting (A 0) x1 h Q := by
  have f1 := hC.1.1.1
  refine ⟨f1, c_root hC hW (fun i hi e => ⟨f1, ?_⟩) h1⟩
  subst e
  refine c_lineAt hC hW hi (fun a ha k => ?_) (h2 i hi rfl)
  have hm := hW.2.2.2.2.2.2.2.2.2.2 i hi a ha
  obtain ⟨t, d1, d2, d3, d4⟩ := (hC.2.2.1.1 a hm).2.2.2.2.1 k
  refine ⟨a, rfl, t, ?_⟩
  rw [d3]
  exact h3 i a hi rfl ha k
theorem c_referent (hC : CI B h A S) (hW : WF S) {x1 x2 x3 : Int32} (h1 : ¬ inR S x1 ∨ ¬ inR S x2 → Q (.inr xA) h)
    (h2 : ∀ i j, i < nt S → x1 = nI i → j < nt S → x2 = nI j → (∀ a, rt S j = some a → ¬ (if x3 = 0 then ls (kd S a) else kd S a = 7)) → Q (.inr xS) h)
    (h3 : ∀ i j a, i < nt S → x1 = nI i → j < nt S → x2 = nI j → rt S j = some a → (if x3 = 0 then ls (kd S a) else kd S a = 7) → ∀ o, o = (if x3 = 0 then (if kd S a = 6 then none else re S a) else va S a) → (∀ b, o = some b → b ∈ ob S) → ∀ h', CI B h' A (wR S i o) → FC A h h' → Q (.inl (some (vi (one o)))) h') : vc_X6_referent (A 0) x1 x2 x3 h Q := by
  have f1 := hC.1.1.1
  intro P hP
  refine ⟨f1, c_root hC hW (fun i hi e => ⟨f1, c_root hC hW (fun j hj e1 => ?_) (fun q => h1 (Or.inr q))⟩) (fun q => h1 (Or.inl q))⟩
  subst e; subst e1
  refine ⟨fun e3 => ⟨f1, ?_⟩, fun e3 => ⟨f1, ?_⟩⟩
  · refine c_looseAt hC hW hj (fun a ha k => ?_) (fun q => h2 i j hi rfl hj rfl (fun a ha => by rw [if_pos e3]; exact q a ha))
    have hm := hW.2.2.2.2.2.2.2.2.2.2 j hj a ha
    obtain ⟨t, d1, d2, d3, d4, -⟩ := (hC.2.2.1.1 a hm).2.2.2.2.2 k
    have hre := ((hW.2.1 a hm).2.2.2.2.2.2.2.1 k).1
    refine ⟨a, rfl, t, ?_, ?_⟩
    · intro q; rw [(hC.2.2.1.1 a hm).1] at q
      refine hP _ _ _ _ ⟨A 0, rfl, f1, ?_⟩
      rw [d1]
      exact c_putRoot hC hW hi hre (h3 i j a hi rfl hj rfl ha (by rw [if_pos e3]; exact k) _ (by rw [if_pos e3, if_neg q]) hre)
    · intro q; rw [(hC.2.2.1.1 a hm).1] at q
      refine hP _ _ _ _ ⟨A 0, rfl, f1, ?_⟩
      exact c_putRoot hC hW hi (fun b hb => by cases hb) (h3 i j a hi rfl hj rfl ha (by rw [if_pos e3]; exact k) none (by rw [if_pos e3, if_pos q]) (fun b hb => by cases hb))
  · refine c_pairAt hC hW hj (fun a ha k => ?_) (fun q => h2 i j hi rfl hj rfl (fun a ha => by rw [if_neg e3]; exact q a ha))
    have hm := hW.2.2.2.2.2.2.2.2.2.2 j hj a ha
    have kl : ls (kd S a) := by rw [k]; exact ls7
    obtain ⟨t, d1, d2, d3, d4, -⟩ := (hC.2.2.1.1 a hm).2.2.2.2.2 kl
    have hva : ∀ b, va S a = some b → b ∈ ob S := fun b hb => (((hW.2.1 a hm).2.2.2.2.2.2.2.1 kl).2.1 b hb).1
    refine ⟨a, rfl, t, f1, ?_⟩
    rw [d2]
    exact c_putRoot hC hW hi hva (h3 i j a hi rfl hj rfl ha (by rw [if_neg e3]; exact k) _ (by rw [if_neg e3]) hva)
/-- a loose one's referent or value is set -/
theorem CI.setLoose (hC : CI B h A S) {a k : Nat} (hk : k = 13 ∨ k = 14) (o : Option Nat) : CI B (pR h k a o) A (wH S (pR S.1 k a o)) := by
  obtain ⟨c1, c2, c3, c4, c5⟩ := hC
  have ek : ∀ k', (k' < 13 ∨ 14 < k') → fR (pR h k a o) k' = fR h k' := fun k' q => fRx _ _ _ _ _ (by omega)
  refine ⟨c1.congr (eqT.of rfl rfl) (fun k' q1 q2 => by rw [ek k' (by omega)]), c2.congr rfl rfl rfl rfl rfl, ⟨fun b hb => ?_, ?_⟩, c4.congr (fun c _ => ⟨by rw [ek 19 (by omega)], by rw [ek 20 (by omega)], rfl, rfl⟩) (fun _ _ => by rw [ek 3 (by omega)]), c5.congr rfl (fun _ _ => ⟨by rw [ek 7 (by omega)], rfl⟩)⟩
  · obtain ⟨e1, e2, e3, e4, e5, e6⟩ := c3.1 b hb
    refine ⟨e1, e2, e3, fun kb => ?_, fun kb => ?_, fun kb => ?_⟩
    · obtain ⟨t, r, n, d1, d2, d3, d4, d5, d6, d7⟩ := e4 kb
      exact ⟨t, r, n, by rw [ek 8 (by omega)]; exact d1, d2, d3, d4, d5, by rw [ek 9 (by omega)]; exact d6, d7⟩
    · obtain ⟨t, d1, d2, d3, d4⟩ := e5 kb
      exact ⟨t, by rw [ek 10 (by omega)]; exact d1, by rw [ek 11 (by omega)]; exact d2, d3, by rw [ek 17 (by omega)]; exact d4⟩
    · obtain ⟨t, d1, d2, d3, d4, d5⟩ := e6 kb
      refine ⟨t, ?_, ?_, ?_, d4, by rw [ek 17 (by omega)]; exact d5⟩
      · show fR (pR h k a o) 13 b = fR (pR S.1 k a o) 13 b
        rw [fR_pR, fR_pR, d1]
      · show fR (pR h k a o) 14 b = fR (pR S.1 k a o) 14 b
        rw [fR_pR, fR_pR, d2]
      · show fR (pR h k a o) 15 b = fR (pR S.1 k a o) 15 b
        rw [fR_pR, fR_pR, d3]
  · exact fun a' ha' b hb k1 k2 n => by rw [ek 8 (by omega), ek 9 (by omega)]; exact c3.2 a' ha' b hb k1 k2 n
theorem c_give (hC : CI B h A S) (hW : WF S) {x1 x2 : Int32} (h1 : ¬ inR S x1 ∨ ¬ inN S x2 → Q (.inr xA) h) (h2 : ∀ i, i < nt S → x1 = nI i → inN S x2 → (∀ a, rt S i = some a → ¬ kd S a = 7) → Q (.inr xS) h)
    (h3 : ∀ i a, i < nt S → x1 = nI i → inN S x2 → rt S i = some a → kd S a = 7 → re S a = none → Q (.inl (some (vi 0))) h)
    (h4 : ∀ i a, i < nt S → x1 = nI i → inN S x2 → rt S i = some a → kd S a = 7 → re S a ≠ none → ∀ h', CI B h' A (wH S (pR S.1 14 a (rtN S x2))) → FC A h h' → Q (.inl (some (vi 1))) h') : vc_X6_give (A 0) x1 x2 h Q := by
  have f1 := hC.1.1.1
  refine ⟨f1, c_root hC hW (fun i hi e => ⟨f1, c_rootOrNone hC hW (fun hx => ⟨f1, ?_⟩) (fun q => h1 (Or.inr q))⟩) (fun q => h1 (Or.inl q))⟩
  subst e
  refine c_pairAt hC hW hi (fun a ha k => ?_) (fun q => h2 i hi rfl hx q)
  have hm := hW.2.2.2.2.2.2.2.2.2.2 i hi a ha
  obtain ⟨t, d1, d2, d3, d4, -⟩ := (hC.2.2.1.1 a hm).2.2.2.2.2 (by rw [k]; exact ls7)
  refine ⟨a, rfl, t, fun b hb => ⟨f1, c_atOrNone hC hW hx ⟨t, ?_⟩⟩, fun e => ?_⟩
  · rw [d1] at hb
    exact h4 i a hi rfl hx ha k (by rw [hb]; simp) _ (hC.setLoose (Or.inr rfl) _) (FC.rfl'.pR (by decide))
  · rw [d1] at e
    exact h3 i a hi rfl hx ha k e
/-- what letting go and telling leave as they are -/
def FL (h h' : Hp) : Prop := tg h' = tg h ∧ ln h' = ln h ∧ (∀ k, k ≠ 12 → k ≠ 16 → fI h' k = fI h k) ∧ ∀ k, k ≠ 10 → k ≠ 11 → k ≠ 13 → k ≠ 14 → k ≠ 17 → fR h' k = fR h k
theorem FL.rfl' {h : Hp} : FL h h := ⟨rfl, rfl, fun _ _ _ => rfl, fun _ _ _ _ _ _ => rfl⟩
theorem FL.trans {h h1 h2 : Hp} (x : FL h h1) (y : FL h1 h2) : FL h h2 := ⟨y.1.trans x.1, y.2.1.trans x.2.1, fun k a b => (y.2.2.1 k a b).trans (x.2.2.1 k a b), fun k a b c d e => (y.2.2.2 k a b c d e).trans (x.2.2.2 k a b c d e)⟩
theorem FL.pI {h h1 : Hp} {k a : Nat} {x : Int32} (hk : k = 12 ∨ k = 16) (y : FL h h1) : FL h (pI h1 k a x) :=
  y.trans ⟨rfl, rfl, fun k' q1 q2 => fIx _ _ _ _ _ (by omega), fun _ _ _ _ _ _ => rfl⟩
theorem FL.pR {h h1 : Hp} {k a : Nat} {x : Option Nat} (hk : k = 10 ∨ k = 11 ∨ k = 13 ∨ k = 14 ∨ k = 17) (y : FL h h1) : FL h (pR h1 k a x) :=
  y.trans ⟨rfl, rfl, fun _ _ _ => rfl, fun k' _ _ _ _ _ => fRx _ _ _ _ _ (by omega)⟩
theorem FL.qI {h h1 : Hp} {a i : Nat} {x : Int32} (y : FL h h1) : FL h (qI h1 a i x) := y.trans ⟨rfl, rfl, fun _ _ _ => rfl, fun _ _ _ _ _ _ => rfl⟩
theorem c_forget (hC : CI B h A S) {a : Nat} (ht : tg h a = 4) (h1 : ∀ h', CI B h' A (frg S a) → FC A h h' → FL h h' → Q (.inl none) h') : vc_X3_forget a h Q :=
  ⟨ht, h1 _ ((hC.setLoose (Or.inl rfl) none).setLoose (Or.inr rfl) none) ((FC.rfl'.pR (by decide)).pR (by decide)) ((FL.rfl'.pR (by decide)).pR (by decide))⟩
theorem CI.setC (hC : CI B h A S) {k : Nat} (x : Int32) : CI B (qI h (A 31) k x) A (wC S k x) := by
  obtain ⟨c1, c2, c3, c4, c5⟩ := hC
  refine ⟨c1, ⟨c2.1, c2.2.1, scA.congr (h := h) (h' := qI h (A 31) k x) (aIx _ _ _ _ _ c1.2.2.2.2.1) c2.2.2.1, fun j hj => ?_, c2.2.2.2.2⟩, ⟨fun b hb => (c3.1 b hb).congr (eqT.of rfl rfl) (fun _ _ => rfl) (fun _ _ => rfl) (fun _ _ => rfl) (fun _ _ _ => rfl) (fun _ _ _ => rfl), c3.2⟩, c4, c5⟩
  rw [aI_qI]
  show _ = up1 (cn S) k x j
  unfold up1
  by_cases e : j = k
  · simp [e]
  · simp [e]; exact c2.2.2.2.1 j hj
theorem FCcnt {h1 : Hp} {k : Nat} {x : Int32} (hC : CF h A) (y : FC A h h1) : FC A h (qI h1 (A 31) k x) := y.qI (fun k hk => (hC.2.2.2.2.2 k hk).2.2)
/-- the heap when a has come to the queue q -/
theorem CI.come (hC : CI B h A S) (hW : WF S) {a q : Nat} (ha : a ∈ ob S) (hl : ls (kd S a)) (hq : li S a = some q) (hc : cm S a = 0) {h1 : Hp}
    (e1 : (∃ b, (qu S q).getLast? = some b ∧ h1 = pR (pI h 16 a 1) 17 b (some a)) ∨ ((qu S q).getLast? = none ∧ h1 = pR (pI h 16 a 1) 10 q (some a))) :
    CI B (pI (pR h1 11 q (some a)) 12 q (nI (qu S q).length + 1)) A (wQ (wH S (pI S.1 16 a 1)) q (qu S q ++ [a])) := by
  obtain ⟨c1, c2, c3, c4, c5⟩ := hC
  have wa := (hW.2.1 a ha).2.2.2.2.2.2.2.1 hl
  obtain ⟨hqo, hqk⟩ := wa.2.2.2 hc q hq
  have wq := (hW.2.1 q hqo).2.2.2.2.2.2.2.2 hqk
  have hna : ∀ x ∈ ob S, kd S x = 3 → a ∉ qu S x := fun x hx kx hm => by
    have := (((hW.2.1 x hx).2.2.2.2.2.2.2.2 kx).2.1 a hm).2.2
    rw [hc] at this; exact absurd this (by decide)
  have haq : a ≠ q := fun e => by rw [e] at hl; exact no3_ls (by rw [hqk] at hl; exact hl)
  -- what the heap says now
  have eI : ∀ k x, fI (pI (pR h1 11 q (some a)) 12 q (nI (qu S q).length + 1)) k x = if k = 12 ∧ x = q then nI (qu S q).length + 1 else if k = 16 ∧ x = a then 1 else fI h k x := fun k x => by
    rw [fI_pI, fI_pR]
    rcases e1 with ⟨b, -, rfl⟩ | ⟨-, rfl⟩ <;> rw [fI_pR, fI_pI]
  have eR : ∀ k x, k ≠ 10 → k ≠ 11 → k ≠ 17 → fR (pI (pR h1 11 q (some a)) 12 q (nI (qu S q).length + 1)) k x = fR h k x := fun k x q1 q2 q3 => by
    rw [fR_pI, fR_pR, if_neg (fun e => q2 e.1)]
    rcases e1 with ⟨b, -, rfl⟩ | ⟨-, rfl⟩
    · rw [fR_pR, if_neg (fun e => q3 e.1), fR_pI]
    · rw [fR_pR, if_neg (fun e => q1 e.1), fR_pI]
  have eR11 : ∀ x, fR (pI (pR h1 11 q (some a)) 12 q (nI (qu S q).length + 1)) 11 x = if x = q then some a else fR h 11 x := fun x => by
    rw [fR_pI, fR_pR]
    rcases e1 with ⟨b, -, rfl⟩ | ⟨-, rfl⟩ <;> simp [fR_pR, fR_pI]
  have eR10 : ∀ x, fR (pI (pR h1 11 q (some a)) 12 q (nI (qu S q).length + 1)) 10 x = if x = q ∧ (qu S q).getLast? = none then some a else fR h 10 x := fun x => by
    rw [fR_pI, fR_pR, if_neg (by simp)]
    rcases e1 with ⟨b, hb, rfl⟩ | ⟨hb, rfl⟩
    · rw [fR_pR, if_neg (by simp), fR_pI, if_neg (by rw [hb]; simp)]
    · rw [fR_pR, fR_pI]; simp [hb]
  have eR17 : ∀ x, fR (pI (pR h1 11 q (some a)) 12 q (nI (qu S q).length + 1)) 17 x = if some x = (qu S q).getLast? then some a else fR h 17 x := fun x => by
    rw [fR_pI, fR_pR, if_neg (by simp)]
    rcases e1 with ⟨b, hb, rfl⟩ | ⟨hb, rfl⟩
    · rw [fR_pR, fR_pI, hb]; simp
    · rw [fR_pR, fR_pI, hb]; simp
  have eT : tg (pI (pR h1 11 q (some a)) 12 q (nI (qu S q).length + 1)) = tg h ∧ ln (pI (pR h1 11 q (some a)) 12 q (nI (qu S q).length + 1)) = ln h ∧ aI (pI (pR h1 11 q (some a)) 12 q (nI (qu S q).length + 1)) = aI h ∧ aL (pI (pR h1 11 q (some a)) 12 q (nI (qu S q).length + 1)) = aL h ∧ aR (pI (pR h1 11 q (some a)) 12 q (nI (qu S q).length + 1)) = aR h := by
    rcases e1 with ⟨b, -, rfl⟩ | ⟨-, rfl⟩ <;> exact ⟨rfl, rfl, rfl, rfl, rfl⟩
  generalize pI (pR h1 11 q (some a)) 12 q (nI (qu S q).length + 1) = h' at *
  obtain ⟨t1, t2, t3, t4, t5⟩ := eT
  refine ⟨c1.congr (eqT.of t1 t2) (fun k q1 q2 => eR k _ (by omega) (by omega) (by omega)), CG.congr (S := S) c2 (by rw [t5]) (by rw [eI]; simp) (by rw [eI]; simp) (by rw [t3]) (by rw [t3]), ⟨fun x hx => ?_, ?_⟩, CC.congr (S := S) c4 (fun c _ => ⟨eR _ _ (by decide) (by decide) (by decide), eR _ _ (by decide) (by decide) (by decide), by rw [eI]; simp, by rw [eI]; simp⟩) (fun x _ => eR _ _ (by decide) (by decide) (by decide)), CT.congr (S := S) c5 (by rw [eI]; simp) (fun x _ => ⟨eR _ _ (by decide) (by decide) (by decide), by rw [eI]; simp⟩)⟩
  · obtain ⟨d1, d2, d3, d4, d5, d6⟩ := c3.1 x hx
    refine ⟨?_, ?_, ?_, fun kx => ?_, fun kx => ?_, fun kx => ?_⟩
    · rw [eI]; simp; show _ = fI (pI S.1 16 a 1) 0 x; rw [fI_pI]; simp; exact d1
    · rw [eI]; simp; show _ = nI (clN (fI (pI S.1 16 a 1) 0 x) _); rw [fI_pI]; simp; exact d2
    · rw [eI]; simp; show _ = fI (pI S.1 16 a 1) 2 x; rw [fI_pI]; simp; exact d3
    · have kx' : hd (kd S x) := by have : hd (fI (pI S.1 16 a 1) 0 x) := kx; rw [fI_pI] at this; simpa using this
      obtain ⟨t, r, n, g1, g2, g3, g4, g5, g6, g7, g8, g9, g10⟩ := d4 kx'
      exact ⟨by rw [t1]; exact t, r, n, by rw [eR _ _ (by decide) (by decide) (by decide)]; exact g1, by rw [t1]; exact g2, by rw [t2]; exact g3, g4, by rw [t5]; exact g5, by rw [eR _ _ (by decide) (by decide) (by decide)]; exact g6, by rw [t1]; exact g7, by rw [t2]; exact g8, g9, by rw [t4]; exact g10⟩
    · have kx' : kd S x = 3 := by have : fI (pI S.1 16 a 1) 0 x = 3 := kx; rw [fI_pI] at this; simpa using this
      obtain ⟨t, g1, g2, g3, g4⟩ := d5 kx'
      refine ⟨by rw [t1]; exact t, ?_⟩
      show fR h' 10 x = (up1 (qu S) q (qu S q ++ [a]) x).head? ∧ fR h' 11 x = (up1 (qu S) q (qu S q ++ [a]) x).getLast? ∧ fI h' 12 x = nI (up1 (qu S) q (qu S q ++ [a]) x).length ∧ lnk (fR h' 17) (up1 (qu S) q (qu S q ++ [a]) x)
      unfold up1
      by_cases exq : x = q
      · subst exq
        simp only [if_true]
        refine ⟨?_, ?_, ?_, ?_⟩
        · rw [eR10, g1]
          cases hl : qu S x with
          | nil => simp
          | cons y l => simp [List.getLast?_cons]
        · rw [eR11]; simp
        · rw [eI]; simp [nI_succ]
        · refine lnk_snoc g4 (fun b hb hne => ?_) (fun b hb => ?_) ?_ wq.1
          · rw [eR17, if_neg hne]
          · rw [eR17, if_pos hb.symm]
          · rw [eR17, if_neg (fun e => hna x hx kx' (List.mem_of_getLast? e.symm))]
            exact ((c3.1 a ha).2.2.2.2.2 hl).2.2.2.2.2 hc
      · simp only [exq, if_false]
        refine ⟨?_, ?_, ?_, lnk_congr g4 (fun b hb => ?_)⟩
        · rw [eR10, if_neg (fun e => exq e.1)]; exact g1
        · rw [eR11, if_neg exq]; exact g2
        · rw [eI]; simp [exq]; exact g3
        · rw [eR17, if_neg (fun e => ?_)]
          exact ((hW.2.1 x hx).2.2.2.2.2.2.2.2 kx').2.2 q hqo hqk (Ne.symm exq) b hb (List.mem_of_getLast? e.symm)
    · have kx' : ls (kd S x) := by have : ls (fI (pI S.1 16 a 1) 0 x) := kx; rw [fI_pI] at this; simpa using this
      obtain ⟨t, g1, g2, g3, g4, g5⟩ := d6 kx'
      refine ⟨by rw [t1]; exact t, by rw [eR _ _ (by decide) (by decide) (by decide)]; exact g1, by rw [eR _ _ (by decide) (by decide) (by decide)]; exact g2, by rw [eR _ _ (by decide) (by decide) (by decide)]; exact g3, ?_, ?_⟩
      · rw [eI]; show _ = fI (pI S.1 16 a 1) 16 x; rw [fI_pI]; simp; rw [g4]
      · intro e
        have e : fI (pI S.1 16 a 1) 16 x = 0 := e
        rw [fI_pI] at e
        by_cases ex : x = a
        · simp [ex] at e
        · simp [ex] at e
          rw [eR17, if_neg (fun e2 => ?_)]
          · exact g5 e
          · have := ((wq.2.1 x (List.mem_of_getLast? e2.symm)).2.2)
            rw [show cm S x = 0 from e] at this; exact absurd this (by decide)
  · intro x hx y hy kx ky n
    have kx' : hd (kd S x) := by have : hd (fI (pI S.1 16 a 1) 0 x) := kx; rw [fI_pI] at this; simpa using this
    have ky' : hd (kd S y) := by have : hd (fI (pI S.1 16 a 1) 0 y) := ky; rw [fI_pI] at this; simpa using this
    rw [eR _ _ (by decide) (by decide) (by decide), eR _ _ (by decide) (by decide) (by decide), eR _ _ (by decide) (by decide) (by decide), eR _ _ (by decide) (by decide) (by decide)]
    exact c3.2 x hx y hy kx' ky' n
end COP2
