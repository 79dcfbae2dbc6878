/-! Polling, hash, scopes. -/
section COP4
variable {B : Nat × List Nat} {h : Hp} {A : Nat → Nat} {S : St} {Q : Option AV ⊕ String → Hp → Prop}
/-- the heap when the first one of q was taken -/
theorem CI.take (hC : CI B h A S) (hW : WF S) {a q : Nat} {l : List Nat} (hqo : q ∈ ob S) (hqk : kd S q = 3) (hl : qu S q = a :: l) {h1 : Hp}
    (e1 : (∃ b, l.head? = some b ∧ h1 = pR (pR h 10 q l.head?) 17 a none) ∨ (l.head? = none ∧ h1 = pR (pR (pR h 10 q l.head?) 17 a none) 11 q none)) :
    CI B (pI h1 12 q (nI (qu S q).length - 1)) A (wQ S q l) := by
  obtain ⟨c1, c2, c3, c4, c5⟩ := hC
  have wq := (hW.2.1 q hqo).2.2.2.2.2.2.2.2 hqk
  have hnd := wq.1
  rw [hl] at hnd
  have hnd := List.nodup_cons.mp hnd
  have eI : ∀ k x, fI (pI h1 12 q (nI (qu S q).length - 1)) k x = if k = 12 ∧ x = q then nI (qu S q).length - 1 else fI h k x := fun k x => by
    rw [fI_pI]
    rcases e1 with ⟨b, -, rfl⟩ | ⟨-, rfl⟩ <;> rfl
  have eR : ∀ k x, k ≠ 10 → k ≠ 11 → k ≠ 17 → fR (pI h1 12 q (nI (qu S q).length - 1)) k x = fR h k x := fun k x q1 q2 q3 => by
    rw [fR_pI]
    rcases e1 with ⟨b, -, rfl⟩ | ⟨-, rfl⟩
    · rw [fR_pR, if_neg (fun e => q3 e.1), fR_pR, if_neg (fun e => q1 e.1)]
    · rw [fR_pR, if_neg (fun e => q2 e.1), fR_pR, if_neg (fun e => q3 e.1), fR_pR, if_neg (fun e => q1 e.1)]
  have eR10 : ∀ x, fR (pI h1 12 q (nI (qu S q).length - 1)) 10 x = if x = q then l.head? else fR h 10 x := fun x => by
    rw [fR_pI]
    rcases e1 with ⟨b, hb, rfl⟩ | ⟨hb, rfl⟩ <;> simp [fR_pR]
  have eR11 : ∀ x, fR (pI h1 12 q (nI (qu S q).length - 1)) 11 x = if x = q ∧ l.head? = none then none else fR h 11 x := fun x => by
    rw [fR_pI]
    rcases e1 with ⟨b, hb, rfl⟩ | ⟨hb, rfl⟩
    · rw [fR_pR, if_neg (by simp), fR_pR, if_neg (by simp), if_neg (by rw [hb]; simp)]
    · rw [fR_pR]; simp only [hb, true_and, and_true]
      split
      · rfl
      · rw [fR_pR, if_neg (by simp), fR_pR, if_neg (by simp)]
  have eR17 : ∀ x, fR (pI h1 12 q (nI (qu S q).length - 1)) 17 x = if x = a then none else fR h 17 x := fun x => by
    rw [fR_pI]
    rcases e1 with ⟨b, hb, rfl⟩ | ⟨hb, rfl⟩ <;> simp [fR_pR]
  have eT : tg (pI h1 12 q (nI (qu S q).length - 1)) = tg h ∧ ln (pI h1 12 q (nI (qu S q).length - 1)) = ln h ∧ aI (pI h1 12 q (nI (qu S q).length - 1)) = aI h ∧ aL (pI h1 12 q (nI (qu S q).length - 1)) = aL h ∧ aR (pI h1 12 q (nI (qu S q).length - 1)) = aR h := by
    rcases e1 with ⟨b, -, rfl⟩ | ⟨-, rfl⟩ <;> exact ⟨rfl, rfl, rfl, rfl, rfl⟩
  generalize pI h1 12 q (nI (qu S q).length - 1) = h' at *
  obtain ⟨t1, t2, t3, t4, t5⟩ := eT
  refine ⟨c1.congr (eqT.of t1 t2) (fun k q1 q2 => eR k _ (by omega) (by omega) (by omega)), CG.congr (S := S) c2 (by rw [t5]) (by rw [eI]; simp) (by rw [eI]; simp) (by rw [t3]) (by rw [t3]), ⟨fun x hx => ?_, ?_⟩, CC.congr (S := S) c4 (fun c _ => ⟨eR _ _ (by decide) (by decide) (by decide), eR _ _ (by decide) (by decide) (by decide), by rw [eI]; simp, by rw [eI]; simp⟩) (fun x _ => eR _ _ (by decide) (by decide) (by decide)), CT.congr (S := S) c5 (by rw [eI]; simp) (fun x _ => ⟨eR _ _ (by decide) (by decide) (by decide), by rw [eI]; simp⟩)⟩
  · obtain ⟨d1, d2, d3, d4, d5, d6⟩ := c3.1 x hx
    refine ⟨by rw [eI, if_neg (by simp)]; exact d1, by rw [eI, if_neg (by simp)]; exact d2, by rw [eI, if_neg (by simp)]; exact d3, fun kx => ?_, fun kx => ?_, fun kx => ?_⟩
    · obtain ⟨t, r, n, g1, g2, g3, g4, g5, g6, g7, g8, g9, g10⟩ := d4 kx
      exact ⟨by rw [t1]; exact t, r, n, by rw [eR _ _ (by decide) (by decide) (by decide)]; exact g1, by rw [t1]; exact g2, by rw [t2]; exact g3, g4, by rw [t5]; exact g5, by rw [eR _ _ (by decide) (by decide) (by decide)]; exact g6, by rw [t1]; exact g7, by rw [t2]; exact g8, g9, by rw [t4]; exact g10⟩
    · obtain ⟨t, g1, g2, g3, g4⟩ := d5 kx
      refine ⟨by rw [t1]; exact t, ?_⟩
      show fR h' 10 x = (up1 (qu S) q l x).head? ∧ fR h' 11 x = (up1 (qu S) q l x).getLast? ∧ fI h' 12 x = nI (up1 (qu S) q l x).length ∧ lnk (fR h' 17) (up1 (qu S) q l x)
      by_cases exq : x = q
      · subst exq
        rw [up1_same]
        rw [hl] at g2 g3 g4
        refine ⟨by rw [eR10, if_pos rfl], ?_, ?_, lnk_congr g4.2 (fun b hb => ?_)⟩
        · rw [eR11]
          cases l with
          | nil => simp
          | cons y l => simp [g2]
        · rw [eI, if_pos ⟨rfl, rfl⟩, hl]
          exact nI_pred _
        · rw [eR17, if_neg (fun e => hnd.1 (by rw [← e]; exact hb))]
      · rw [up1_ne exq]
        refine ⟨by rw [eR10, if_neg exq]; exact g1, by rw [eR11, if_neg (fun e => exq e.1)]; exact g2, by rw [eI, if_neg (fun e => exq e.2)]; exact g3, lnk_congr g4 (fun b hb => ?_)⟩
        rw [eR17, if_neg (fun e => ?_)]
        exact ((hW.2.1 x hx).2.2.2.2.2.2.2.2 kx).2.2 q hqo hqk (Ne.symm exq) b hb (by rw [hl, e]; exact List.mem_cons_self)
    · obtain ⟨t, g1, g2, g3, g4, g5⟩ := d6 kx
      refine ⟨by rw [t1]; exact t, by rw [eR _ _ (by decide) (by decide) (by decide)]; exact g1, by rw [eR _ _ (by decide) (by decide) (by decide)]; exact g2, by rw [eR _ _ (by decide) (by decide) (by decide)]; exact g3, by rw [eI, if_neg (by simp)]; exact g4, fun e => ?_⟩
      rw [eR17]
      split
      · rfl
      · exact g5 e
  · intro x hx y hy kx ky n
    rw [eR _ _ (by decide) (by decide) (by decide), eR _ _ (by decide) (by decide) (by decide), eR _ _ (by decide) (by decide) (by decide), eR _ _ (by decide) (by decide) (by decide)]
    exact c3.2 x hx y hy kx ky n
theorem WFtake (hW : WF S) {a q : Nat} {l : List Nat} (hqo : q ∈ ob S) (hqk : kd S q = 3) (hl : qu S q = a :: l) : WF (wQ S q l) := by
  obtain ⟨w1, w2, w3⟩ := hW
  refine ⟨w1, fun b hb => ?_, w3⟩
  obtain ⟨v1, v2, v3, v4, v5, v6, v7, v8, v9⟩ := w2 b hb
  have mem : ∀ x c, c ∈ up1 (qu S) q l x → c ∈ qu S x := fun x c hc => by
    unfold up1 at hc
    split at hc
    · rename_i e; subst e; rw [hl]; exact List.mem_cons_of_mem _ hc
    · exact hc
  refine ⟨v1, v2, v3, v4, v5, v6, v7, v8, fun k => ?_⟩
  obtain ⟨u1, u2, u3⟩ := v9 k
  refine ⟨?_, fun c hc => u2 c (mem b c hc), fun x hx kx hne c hc hcx => u3 x hx kx hne c (mem b c hc) (mem x c hcx)⟩
  show (up1 (qu S) q l b).Nodup
  unfold up1
  split
  · rename_i e; subst e; rw [hl] at u1; exact (List.nodup_cons.mp u1).2
  · exact u1
theorem c_poll (hC : CI B h A S) (hW : WF S) {x1 x2 : Int32} (h1 : ¬ inR S x1 ∨ ¬ inR S x2 → Q (.inr xA) h) (h2 : ∀ i j, i < nt S → x1 = nI i → j < nt S → x2 = nI j → (∀ a, rt S j = some a → ¬ kd S a = 3) → Q (.inr xS) h)
    (h3 : ∀ i j q, i < nt S → x1 = nI i → j < nt S → x2 = nI j → rt S j = some q → kd S q = 3 → qu S q = [] → ∀ h', CI B h' A (wR S i none) → FC A h h' → Q (.inl (some (vi 0))) h')
    (h4 : ∀ i j q a l, i < nt S → x1 = nI i → j < nt S → x2 = nI j → rt S j = some q → kd S q = 3 → qu S q = a :: l → ∀ h', CI B h' A (wR (wQ S q l) i (some a)) → FC A h h' → Q (.inl (some (vi 1))) h') : vc_X6_poll (A 0) x1 x2 h Q := by
  have f1 := hC.1.1.1
  refine ⟨f1, c_root hC hW (fun i hi e => ⟨f1, c_root hC hW (fun j hj e1 => ⟨f1, ?_⟩) (fun q => h1 (Or.inr q))⟩) (fun q => h1 (Or.inl q))⟩
  subst e; subst e1
  refine c_lineAt hC hW hj (fun q hq k => ?_) (h2 i j hi rfl hj rfl)
  have hqo := hW.2.2.2.2.2.2.2.2.2.2 j hj q hq
  obtain ⟨tq, g1, g2, g3, g4⟩ := (hC.2.2.1.1 q hqo).2.2.2.2.1 k
  have wq := (hW.2.1 q hqo).2.2.2.2.2.2.2.2 k
  refine ⟨q, rfl, tq, ?_⟩
  intro P hP
  refine ⟨tq, fun a ha => ?_, fun e => ?_⟩
  · rw [g1] at ha
    cases hl : qu S q with
    | nil => rw [hl] at ha; cases ha
    | cons a' l =>
      rw [hl] at ha; cases ha
      have hm := wq.2.1 a (by rw [hl]; exact List.mem_cons_self)
      have ta := ((hC.2.2.1.1 a hm.1).2.2.2.2.2 hm.2.1).1
      rw [hl] at g4
      have en : fR h 17 a = l.head? := g4.1
      have hW' := WFtake hW hqo k hl
      have fin : ∀ h1' : Hp, ((∃ b, l.head? = some b ∧ h1' = pR (pR h 10 q l.head?) 17 a none) ∨ (l.head? = none ∧ h1' = pR (pR (pR h 10 q l.head?) 17 a none) 11 q none)) → FC A h h1' → tg h1' = tg h → fI h1' 12 q = fI h 12 q → P (fR h 10 q) h1' := by
        intro h1' hh hF ht h12
        refine hP _ _ ⟨by rw [ht]; exact tq, ?_⟩
        have hC' := hC.take hW hqo k hl hh
        rw [h12, g3, g1, hl]
        rw [hl] at hC'
        refine ⟨hC'.1.1.1, ?_⟩
        exact c_putRoot hC' hW' hi (fun b hb => by cases hb; exact hm.1) (fun h' hC'' hF' => h4 i j q a l hi rfl hj rfl hq k hl h' hC'' ((hF.pI (by decide)).trans hF'))
      refine ⟨ta, fun b hb => ?_, fun hb => ?_⟩
      · rw [en, fR_pR, if_pos ⟨rfl, rfl⟩] at hb
        rw [en]
        exact fin _ (Or.inl ⟨b, hb, rfl⟩) ((FC.rfl'.pR (by decide)).pR (by decide)) rfl rfl
      · rw [en, fR_pR, if_pos ⟨rfl, rfl⟩] at hb
        rw [en]
        exact fin _ (Or.inr ⟨hb, rfl⟩) (((FC.rfl'.pR (by decide)).pR (by decide)).pR (by decide)) rfl rfl
  · rw [g1] at e
    have hl : qu S q = [] := List.head?_eq_none_iff.mp e
    exact ⟨f1, c_putRoot hC hW hi (fun b hb => by cases hb) (fun h' hC' hF' => h3 i j q hi rfl hj rfl hq k hl h' hC' hF')⟩
/-- hash -/
theorem CI.setHash (hC : CI B h A S) {a : Nat} (x : Int32) : CI B (pI h 2 a x) A (wH S (pI S.1 2 a x)) := by
  obtain ⟨c1, c2, c3, c4, c5⟩ := hC
  have ek : ∀ k, k ≠ 2 → fI (pI h 2 a x) k = fI h k := fun k q => fIx _ _ _ _ _ q
  have es : ∀ k, k ≠ 2 → fI (pI S.1 2 a x) k = fI S.1 k := fun k q => fIx _ _ _ _ _ q
  have ecl : ∀ b, cl (wH S (pI S.1 2 a x)) b = cl S b := fun b => by show clN (fI (pI S.1 2 a x) 0 b) _ = _; rw [es 0 (by decide)]; rfl
  refine ⟨c1, CG.congr (S := S) c2 rfl (by rw [ek _ (by decide)]) (by rw [ek _ (by decide)]) rfl rfl, ⟨fun b hb => ?_, ?_⟩, ?_, CT.congr (S := S) c5 (by rw [ek _ (by decide)]) (fun _ _ => ⟨rfl, by rw [ek _ (by decide)]⟩)⟩
  · obtain ⟨e1, e2, e3, e4, e5, e6⟩ := c3.1 b hb
    have ekd : kd (wH S (pI S.1 2 a x)) b = kd S b := by show fI (pI S.1 2 a x) 0 b = _; rw [es 0 (by decide)]
    refine ⟨by rw [ekd, ek 0 (by decide)]; exact e1, by rw [ecl, ek 1 (by decide)]; exact e2, ?_, ?_, ?_, ?_⟩
    · show fI (pI h 2 a x) 2 b = fI (pI S.1 2 a x) 2 b
      rw [fI_pI, fI_pI, e3]
    · rw [ekd]; exact e4
    · rw [ekd]; intro k
      obtain ⟨t, d1, d2, d3, d4⟩ := e5 k
      exact ⟨t, d1, d2, by rw [ek 12 (by decide)]; exact d3, d4⟩
    · rw [ekd]; intro k
      obtain ⟨t, d1, d2, d3, d4, d5⟩ := e6 k
      refine ⟨t, d1, d2, d3, ?_, ?_⟩
      · show _ = fI (pI S.1 2 a x) 16 b
        rw [ek 16 (by decide), es 16 (by decide)]; exact d4
      · intro e
        have e : fI (pI S.1 2 a x) 16 b = 0 := e
        rw [es 16 (by decide)] at e
        exact d5 e
  · intro x1 hx1 y hy kx ky n
    have kx : hd (fI (pI S.1 2 a x) 0 x1) := kx
    have ky : hd (fI (pI S.1 2 a x) 0 y) := ky
    rw [es 0 (by decide)] at kx ky
    exact c3.2 x1 hx1 y hy kx ky n
  · obtain ⟨lo, ly, hl, k1, k2⟩ := c4
    have hf : cl (wH S (pI S.1 2 a x)) = cl S := funext ecl
    refine ⟨lo, ly, hl, ?_, ?_⟩
    · obtain ⟨z1, z2, z3, z4, z5⟩ := k1
      exact ⟨z1, z2, by rw [ek 21 (by decide)]; exact z3, by rw [ek 22 (by decide), hf]; exact z4, z5⟩
    · obtain ⟨z1, z2, z3, z4, z5⟩ := k2
      exact ⟨z1, z2, by rw [ek 21 (by decide)]; exact z3, by rw [ek 22 (by decide), hf]; exact z4, z5⟩
theorem WFhash (hW : WF S) (a : Nat) (x : Int32) : WF (wH S (pI S.1 2 a x)) := by
  have es : ∀ k, k ≠ 2 → fI (pI S.1 2 a x) k = fI S.1 k := fun k q => fIx _ _ _ _ _ q
  have e0 := es 0 (by decide); have e16 := es 16 (by decide)
  have hf : cl (wH S (pI S.1 2 a x)) = cl S := funext fun b => by show clN (fI (pI S.1 2 a x) 0 b) _ = _; rw [e0]; rfl
  have hu : us (wH S (pI S.1 2 a x)) = us S := by show ((ob S).map (cl (wH S (pI S.1 2 a x)))).sum = _; rw [hf]; rfl
  obtain ⟨w1, w2, w3, w4, w5, w6, w7⟩ := hW
  refine ⟨w1, fun b hb => ?_, by rw [hu]; exact w3, w4, w5, by rw [hu]; exact w6, w7⟩
  have := w2 b hb
  unfold WFa at this ⊢
  show (hd (fI (pI S.1 2 a x) 0 b) ∨ fI (pI S.1 2 a x) 0 b = 3 ∨ ls (fI (pI S.1 2 a x) 0 b)) ∧ (¬ hd (fI (pI S.1 2 a x) 0 b) → nr S b = 0 ∧ nn S b = 0) ∧ (fI (pI S.1 2 a x) 0 b = 1 → nn S b = 0) ∧ (fI (pI S.1 2 a x) 0 b = 2 → nr S b = 0) ∧ nr S b ≤ 3000 ∧ nn S b ≤ 3000 ∧
    (∀ j < nr S b, ∀ c, rf S b j = some c → c ∈ ob S) ∧
    (ls (fI (pI S.1 2 a x) 0 b) → (∀ c, re S b = some c → c ∈ ob S) ∧ (∀ c, va S b = some c → c ∈ ob S ∧ fI (pI S.1 2 a x) 0 b = 7 ∧ re S b ≠ none) ∧ (fI (pI S.1 2 a x) 16 b = 0 ∨ fI (pI S.1 2 a x) 16 b = 1) ∧ (fI (pI S.1 2 a x) 16 b = 0 → ∀ q, li S b = some q → q ∈ ob S ∧ fI (pI S.1 2 a x) 0 q = 3)) ∧
    (fI (pI S.1 2 a x) 0 b = 3 → (qu S b).Nodup ∧ (∀ c ∈ qu S b, c ∈ ob S ∧ ls (fI (pI S.1 2 a x) 0 c) ∧ fI (pI S.1 2 a x) 16 c = 1) ∧ ∀ q ∈ ob S, fI (pI S.1 2 a x) 0 q = 3 → q ≠ b → ∀ c ∈ qu S b, c ∉ qu S q)
  rw [e0, e16]
  exact this
theorem c_hash (hC : CI B h A S) (hW : WF S) {x1 : Int32} (h1 : ¬ inR S x1 → Q (.inr xA) h) (h2 : ∀ i, i < nt S → x1 = nI i → rt S i = none → Q (.inl (some (vi 0))) h)
    (h3 : ∀ i a, i < nt S → x1 = nI i → rt S i = some a → ¬ hs S a = 0 → Q (.inl (some (vi (hs S a)))) h)
    (h4 : ∀ i a, i < nt S → x1 = nI i → rt S i = some a → hs S a = 0 → ∀ h', CI B h' A (wH (wC S 8 (cn S 8 + 1)) (pI S.1 2 a (cn S 8 + 1))) → FC A h h' → Q (.inl (some (vi (cn S 8 + 1)))) h') : vc_X6_hash (A 0) x1 h Q := by
  obtain ⟨⟨f1, f2, f3, f4, f5, f6, f7⟩, ⟨g1, g2, g3, g4, g5, g6⟩, ⟨l1, l2, l3⟩, -⟩ := hC.1
  have hn := hW.nt
  intro P hP
  refine ⟨f1, c_root hC hW (fun i hi e => ?_) h1⟩
  subst e
  refine ⟨f1, A 29, f2, g1, by rw [l1]; exact vin (by omega) (by decide), ?_⟩
  rw [nI_clamp (by omega), hC.root hW hi]
  refine ⟨fun a ha => ?_, fun e => h2 i hi rfl e⟩
  have hm := hW.2.2.2.2.2.2.2.2.2.2 i hi a ha
  have ht := hC.thg hW hm
  have eh := (hC.2.2.1.1 a hm).2.2.1
  refine ⟨ht, fun q => ?_, fun q => ?_⟩
  · rw [eh] at q
    rw [ha]
    refine hP _ _ ⟨a, rfl, ht, ?_⟩
    rw [eh]
    exact h3 i a hi rfl ha q
  · rw [eh] at q
    have hv : vp_in (8 : Int32) (ln h (A 31)) := by rw [l3]; unfold vp_in; decide
    refine ⟨A 31, f4, g3, hv, hv, hv, ?_⟩
    rw [ha, aI_qI, if_pos ⟨rfl, rfl⟩, hC.2.1.2.2.2.1 8 (by decide)]
    refine hP _ _ ⟨a, rfl, ht, ?_⟩
    rw [fI_pI, if_pos ⟨rfl, rfl⟩]
    exact h4 i a hi rfl ha q _ ((hC.setC (cn S 8 + 1) (k := 8)).setHash (cn S 8 + 1)) (((FCcnt hC.1 FC.rfl')).pI (by decide))
end COP4
