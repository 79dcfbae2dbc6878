/-! Chains. -/
section CHAIN
variable {B : Nat × List Nat} {h : Hp} {A : Nat → Nat} {S : St} {Q : Option AV ⊕ String → Hp → Prop}
/-- what adding to the chain c, whose objects are l, leaves as it is -/
def AF (c : Nat) (l : List Nat) (h h' : Hp) : Prop :=
  tg h' = tg h ∧ ln h' = ln h ∧ aI h' = aI h ∧ aL h' = aL h ∧ aR h' = aR h ∧ (∀ k x, (k ≠ 21 ∧ k ≠ 22) ∨ x ≠ c → fI h' k x = fI h k x) ∧ (∀ k x, k ≠ 3 → (k ≠ 19 ∧ k ≠ 20) ∨ x ≠ c → fR h' k x = fR h k x) ∧ ∀ x, x ∉ l → fR h' 3 x = fR h 3 x
theorem AF.rfl' {c : Nat} {l : List Nat} : AF c l h h := ⟨rfl, rfl, rfl, rfl, rfl, fun _ _ _ => rfl, fun _ _ _ _ => rfl, fun _ _ => rfl⟩
theorem AF.trans {c : Nat} {l : List Nat} {h1 h2 : Hp} (a : AF c l h h1) (b : AF c l h1 h2) : AF c l h h2 :=
  ⟨b.1.trans a.1, b.2.1.trans a.2.1, b.2.2.1.trans a.2.2.1, b.2.2.2.1.trans a.2.2.2.1, b.2.2.2.2.1.trans a.2.2.2.2.1, fun k x q => (b.2.2.2.2.2.1 k x q).trans (a.2.2.2.2.2.1 k x q), fun k x q1 q2 => (b.2.2.2.2.2.2.1 k x q1 q2).trans (a.2.2.2.2.2.2.1 k x q1 q2), fun x q => (b.2.2.2.2.2.2.2 x q).trans (a.2.2.2.2.2.2.2 x q)⟩
theorem AF.mono {c : Nat} {l m : List Nat} {h1 : Hp} (a : AF c l h h1) (hs : ∀ x ∈ l, x ∈ m) : AF c m h h1 :=
  ⟨a.1, a.2.1, a.2.2.1, a.2.2.2.1, a.2.2.2.2.1, a.2.2.2.2.2.1, a.2.2.2.2.2.2.1, fun x q => a.2.2.2.2.2.2.2 x (fun e => q (hs x e))⟩
theorem AF.FC {c : Nat} {l : List Nat} {h1 : Hp} (a : AF c l h h1) : FC A h h1 :=
  ⟨fun k hk => ⟨a.2.2.2.2.2.1 k _ (Or.inl ⟨by omega, by omega⟩), a.2.2.2.2.2.2.1 k _ (by omega) (Or.inl ⟨by omega, by omega⟩)⟩, fun k _ => ⟨by rw [a.1], by rw [a.2.1], by rw [a.2.2.1], by rw [a.2.2.2.1]⟩⟩
theorem c_add {c : Nat} {l : List Nat} {a : Nat} (ht : tg h c = 1) (hc : chn h c l S) (hn : l.Nodup) (ha : a ∉ l) (hth : ∀ x ∈ l, thg h x) (hta : thg h a) (hcl : fI h 1 a = nI (cl S a)) (h1 : ∀ h', chn h' c (l ++ [a]) S → AF c (l ++ [a]) h h' → Q (.inl none) h') : vc_X0_add c (some a) h Q := by
  obtain ⟨e19, e20, e21, e22, el⟩ := hc
  intro P hP
  refine ⟨a, rfl, hta, ht, ?_⟩
  rw [e20]
  have key : ∀ h2 : Hp, ((∃ b, l.getLast? = some b ∧ h2 = pR (pR h 3 a none) 3 b (some a)) ∨ (l.getLast? = none ∧ h2 = pR (pR h 3 a none) 19 c (some a))) → P h2 := by
    intro h2 hh
    have eI2 : fI h2 = fI h := by rcases hh with ⟨b, -, rfl⟩ | ⟨-, rfl⟩ <;> rfl
    have eT2 : tg h2 = tg h ∧ ln h2 = ln h ∧ aI h2 = aI h ∧ aL h2 = aL h ∧ aR h2 = aR h := by rcases hh with ⟨b, -, rfl⟩ | ⟨-, rfl⟩ <;> exact ⟨rfl, rfl, rfl, rfl, rfl⟩
    have eR2 : ∀ k x, k ≠ 3 → k ≠ 19 ∨ x ≠ c → fR h2 k x = fR h k x := fun k x q1 q2 => by
      rcases hh with ⟨b, -, rfl⟩ | ⟨-, rfl⟩
      · rw [fR_pR, if_neg (fun e => q1 e.1), fR_pR, if_neg (fun e => q1 e.1)]
      · rw [fR_pR, if_neg (fun e => by rcases q2 with q2 | q2; exact q2 e.1; exact q2 e.2), fR_pR, if_neg (fun e => q1 e.1)]
    have eR3 : ∀ x, fR h2 3 x = if some x = l.getLast? then some a else if x = a then none else fR h 3 x := fun x => by
      rcases hh with ⟨b, hb, rfl⟩ | ⟨hb, rfl⟩
      · rw [fR_pR, fR_pR, hb]; simp
      · rw [fR_pR, fR_pR, hb]; simp
    have eR19 : fR h2 19 c = if l.getLast? = none then some a else fR h 19 c := by
      rcases hh with ⟨b, hb, rfl⟩ | ⟨hb, rfl⟩
      · rw [fR_pR, if_neg (by simp), fR_pR, if_neg (by simp), hb]; simp
      · rw [fR_pR, if_pos ⟨rfl, rfl⟩, hb]; simp
    refine hP h2 ⟨by rw [eT2.1]; exact ht, a, rfl, by unfold thg; rw [eT2.1]; exact hta, ?_⟩
    rw [eI2, e21, e22, hcl, nI_1, nI_add]
    refine h1 _ ⟨?_, ?_, ?_, ?_, ?_⟩ ⟨eT2.1, eT2.2.1, eT2.2.2.1, eT2.2.2.2.1, eT2.2.2.2.2, fun k x q => ?_, fun k x q1 q2 => ?_, fun x q => ?_⟩
    · show fR (pR h2 20 c (some a)) 19 c = _
      rw [fR_pR, if_neg (by simp), eR19, e19]
      cases l with
      | nil => rfl
      | cons y m => simp [List.getLast?_cons]
    · show fR (pR h2 20 c (some a)) 20 c = _
      rw [fR_pR, if_pos ⟨rfl, rfl⟩]; simp
    · rw [fI_pI, if_neg (by simp), fI_pI, if_pos ⟨rfl, rfl⟩]; simp
    · rw [fI_pI, if_pos ⟨rfl, rfl⟩]; simp
    · show lnk (fR (pR h2 20 c (some a)) 3) _
      rw [fRx _ _ _ _ _ (by decide)]
      refine lnk_snoc el (fun b hb hne => ?_) (fun b hb => ?_) ?_ hn
      · rw [eR3, if_neg hne, if_neg (fun e => ha (by rw [← e]; exact hb))]
      · rw [eR3, if_pos hb.symm]
      · rw [eR3, if_neg (fun e => ha (List.mem_of_getLast? e.symm)), if_pos rfl]
    · rw [fI_pI, fI_pI]
      show _ = fI h k x
      rw [if_neg (fun e => by rcases q with q | q; exact q.2 e.1; exact q e.2), if_neg (fun e => by rcases q with q | q; exact q.1 e.1; exact q e.2)]
      show fI h2 k x = _
      rw [eI2]
    · show fR (pR h2 20 c (some a)) k x = _
      rw [fR_pR, if_neg (fun e => by rcases q2 with q | q; exact q.2 e.1; exact q e.2)]
      exact eR2 k x q1 (by rcases q2 with q | q; exact Or.inl q.1; exact Or.inr q)
    · show fR (pR h2 20 c (some a)) 3 x = _
      rw [fR_pR, if_neg (by simp), eR3, if_neg (fun e => q (List.mem_append_left _ (List.mem_of_getLast? e.symm))), if_neg (fun e => q (by rw [e]; simp))]
  exact ⟨fun b hb => ⟨hth b (List.mem_of_getLast? hb), key _ (Or.inl ⟨b, hb, rfl⟩)⟩, fun hb => key _ (Or.inr ⟨hb, rfl⟩)⟩
theorem CI.chains (hC : CI B h A S) {h' : Hp} (hT : tg h' = tg h ∧ ln h' = ln h ∧ aI h' = aI h ∧ aL h' = aL h ∧ aR h' = aR h) (eI : ∀ k, k ≠ 21 → k ≠ 22 → fI h' k = fI h k) (eR : ∀ k, k ≠ 3 → k ≠ 19 → k ≠ 20 → fR h' k = fR h k) (hW : WF S) (hc : CC h' A S) : CI B h' A S := by
  obtain ⟨c1, c2, c3, c4, c5⟩ := hC
  obtain ⟨t1, t2, t3, t4, t5⟩ := hT
  refine ⟨c1.congr (eqT.of t1 t2) (fun k _ _ => by rw [eR k (by omega) (by omega) (by omega)]), c2.congr (by rw [t5]) (by rw [eI _ (by decide) (by decide)]) (by rw [eI _ (by decide) (by decide)]) (by rw [t3]) (by rw [t3]), c3.congr hW (eqT.of t1 t2) (fun x _ k hk => ?_) (fun x _ k hk => ?_) (fun _ _ _ _ _ => by rw [t5]) (fun _ _ _ _ _ => by rw [t4]), hc, c5.congr (by rw [eI _ (by decide) (by decide)]) (fun x _ => ⟨by rw [eR _ (by decide) (by decide) (by decide)], by rw [eI _ (by decide) (by decide)]⟩)⟩
  · simp at hk; rw [eI k (by omega) (by omega)]
  · simp at hk; rw [eR k (by omega) (by omega) (by omega)]
/-- all objects in the old chain -/
theorem c_carry (hC : CI B h A S) (hW : WF S) (h1 : ∀ h', CI B h' A S → chn h' (A 33) (ob S) S → chn h' (A 32) [] S → FC A h h' → Q (.inl none) h') : vc_X6_carryOver (A 0) h Q := by
  have hC0 := hC
  obtain ⟨⟨f1, f2, f3, f4, f5, f6, f7⟩, ⟨g1, g2, g3, g4, g5, g6⟩, ⟨l1, l2, l3⟩, m1, m2, m3⟩ := hC.1
  obtain ⟨lo, ly, hob, ⟨a1, a2, a3, a4, a5⟩, ⟨b1, b2, b3, b4, b5⟩⟩ := hC.2.2.2.1
  have hnd : (lo ++ ly).Nodup := by rw [hob]; exact hW.1
  have hndl := (List.nodup_append.mp hnd).1
  have hth : ∀ x ∈ lo ++ ly, thg h x := fun x hx => hC.thg hW (by rw [← hob]; exact hx)
  refine ⟨f1, A 33, f6, g5, ?_⟩
  rw [f5]
  intro P hP
  refine ⟨A 32, rfl, g4, fun y hy => ⟨g5, ?_⟩, fun e => ?_⟩
  · rw [a2]
    have key : ∀ h2 : Hp, ((∃ b, lo.getLast? = some b ∧ h2 = pR h 3 b ly.head?) ∨ (lo.getLast? = none ∧ h2 = pR h 19 (A 33) ly.head?)) → P h2 := by
      intro h2 hh
      have eI2 : fI h2 = fI h := by rcases hh with ⟨b, -, rfl⟩ | ⟨-, rfl⟩ <;> rfl
      have eT2 : tg h2 = tg h ∧ ln h2 = ln h ∧ aI h2 = aI h ∧ aL h2 = aL h ∧ aR h2 = aR h := by rcases hh with ⟨b, -, rfl⟩ | ⟨-, rfl⟩ <;> exact ⟨rfl, rfl, rfl, rfl, rfl⟩
      have eR2 : ∀ k, k ≠ 3 → k ≠ 19 → fR h2 k = fR h k := fun k q1 q2 => by
        rcases hh with ⟨b, -, rfl⟩ | ⟨-, rfl⟩
        · exact fRx _ _ _ _ _ q1
        · exact fRx _ _ _ _ _ q2
      have eR3 : ∀ x, fR h2 3 x = if some x = lo.getLast? then ly.head? else fR h 3 x := fun x => by
        rcases hh with ⟨b, hb, rfl⟩ | ⟨hb, rfl⟩
        · rw [fR_pR, hb]; simp
        · rw [fR_pR, hb]; simp
      have eR19 : fR h2 19 (A 33) = if lo.getLast? = none then ly.head? else fR h 19 (A 33) := by
        rcases hh with ⟨b, hb, rfl⟩ | ⟨hb, rfl⟩
        · rw [fR_pR, if_neg (by simp), hb]; simp
        · rw [fR_pR, if_pos ⟨rfl, rfl⟩, hb]; simp
      refine hP h2 ⟨A 32, rfl, by rw [eT2.1]; exact g4, by rw [eT2.1]; exact g5, ?_⟩
      rw [eI2, eR2 20 (by decide) (by decide), b2, a3, a4, b3, b4, nI_add, nI_add]
      refine ⟨by show tg h2 (A 32) = 1; rw [eT2.1]; exact g4, ?_⟩
      have ec : chn (pI (pI (pR (pR (pI (pI (pR h2 20 (A 33) ly.getLast?) 21 (A 33) (nI (lo.length + ly.length))) 22 (A 33) (nI ((lo.map (cl S)).sum + (ly.map (cl S)).sum))) 19 (A 32) none) 20 (A 32) none) 21 (A 32) 0) 22 (A 32) 0) (A 33) (ob S) S := by
        refine ⟨?_, ?_, ?_, ?_, ?_⟩
        · show fR (pR (pR (pR h2 20 (A 33) ly.getLast?) 19 (A 32) none) 20 (A 32) none) 19 (A 33) = _
          rw [fR_pR, if_neg (by simp), fR_pR, if_neg (fun e => m1 e.2.symm), fR_pR, if_neg (by simp), eR19, a1, ← hob]
          cases lo with
          | nil => simp
          | cons z m => simp [List.getLast?_cons]
        · show fR (pR (pR (pR h2 20 (A 33) ly.getLast?) 19 (A 32) none) 20 (A 32) none) 20 (A 33) = _
          rw [fR_pR, if_neg (fun e => m1 e.2.symm), fR_pR, if_neg (by simp), fR_pR, if_pos ⟨rfl, rfl⟩, ← hob]
          cases hly : ly with
          | nil => rw [hly] at b1; rw [b1] at hy; cases hy
          | cons z m => simp [List.getLast?_append, List.getLast?_cons]
        · rw [fI_pI, if_neg (by simp), fI_pI, if_neg (fun e => m1 e.2.symm)]
          rw [fI_pR, fI_pR, fI_pI, if_neg (by simp), fI_pI, if_pos ⟨rfl, rfl⟩, ← hob]; simp
        · rw [fI_pI, if_neg (fun e => m1 e.2.symm), fI_pI, if_neg (by simp)]
          rw [fI_pR, fI_pR, fI_pI, if_pos ⟨rfl, rfl⟩, ← hob]; simp
        · show lnk (fR (pR (pR (pR h2 20 (A 33) ly.getLast?) 19 (A 32) none) 20 (A 32) none) 3) _
          rw [fRx _ _ _ _ _ (by decide), fRx _ _ _ _ _ (by decide), fRx _ _ _ _ _ (by decide), ← hob]
          refine lnk_join a5 (lnk_congr b5 (fun x hx => ?_)) (fun b hb hne => ?_) (fun b hb => ?_) hndl
          · rw [eR3, if_neg (fun e => (List.nodup_append.mp hnd).2.2 x (List.mem_of_getLast? e.symm) x hx rfl)]
          · rw [eR3, if_neg hne]
          · rw [eR3, if_pos hb.symm]
      have ey : chn (pI (pI (pR (pR (pI (pI (pR h2 20 (A 33) ly.getLast?) 21 (A 33) (nI (lo.length + ly.length))) 22 (A 33) (nI ((lo.map (cl S)).sum + (ly.map (cl S)).sum))) 19 (A 32) none) 20 (A 32) none) 21 (A 32) 0) 22 (A 32) 0) (A 32) [] S := by
        refine ⟨?_, ?_, ?_, ?_, trivial⟩
        · rw [fR_pI, fR_pI, fR_pR, if_neg (by simp), fR_pR, if_pos ⟨rfl, rfl⟩]; rfl
        · rw [fR_pI, fR_pI, fR_pR, if_pos ⟨rfl, rfl⟩]; rfl
        · rw [fI_pI, if_neg (by simp), fI_pI, if_pos ⟨rfl, rfl⟩]; rfl
        · rw [fI_pI, if_pos ⟨rfl, rfl⟩]; rfl
      have eIf : ∀ k, k ≠ 21 → k ≠ 22 → fI (pI (pI (pR (pR (pI (pI (pR h2 20 (A 33) ly.getLast?) 21 (A 33) (nI (lo.length + ly.length))) 22 (A 33) (nI ((lo.map (cl S)).sum + (ly.map (cl S)).sum))) 19 (A 32) none) 20 (A 32) none) 21 (A 32) 0) 22 (A 32) 0) k = fI h k := fun k q1 q2 => by
        rw [fIx _ _ _ _ _ q2, fIx _ _ _ _ _ q1, fI_pR, fI_pR, fIx _ _ _ _ _ q2, fIx _ _ _ _ _ q1, fI_pR, eI2]
      have eRf : ∀ k, k ≠ 3 → k ≠ 19 → k ≠ 20 → fR (pI (pI (pR (pR (pI (pI (pR h2 20 (A 33) ly.getLast?) 21 (A 33) (nI (lo.length + ly.length))) 22 (A 33) (nI ((lo.map (cl S)).sum + (ly.map (cl S)).sum))) 19 (A 32) none) 20 (A 32) none) 21 (A 32) 0) 22 (A 32) 0) k = fR h k := fun k q1 q2 q3 => by
        rw [fR_pI, fR_pI, fRx _ _ _ _ _ q3, fRx _ _ _ _ _ q2, fR_pI, fR_pI, fRx _ _ _ _ _ q3, eR2 k q1 q2]
      refine h1 _ (hC0.chains eT2 eIf eRf hW ⟨ob S, [], by simp, ec, ey⟩) ec ey ⟨fun k hk => ⟨congrFun (eIf k (by omega) (by omega)) _, congrFun (eRf k (by omega) (by omega) (by omega)) _⟩, fun k hk => ⟨by show tg h2 _ = _; rw [eT2.1], by show ln h2 _ = _; rw [eT2.2.1], by show aI h2 _ = _; rw [eT2.2.2.1], by show aL h2 _ = _; rw [eT2.2.2.2.1]⟩⟩
    rw [b1]
    exact ⟨fun b hb => ⟨hth b (List.mem_append_left _ (List.mem_of_getLast? hb)), key _ (Or.inl ⟨b, hb, rfl⟩)⟩, fun hb => key _ (Or.inr ⟨hb, rfl⟩)⟩
  · rw [b1] at e
    have hly : ly = [] := List.head?_eq_none_iff.mp e
    subst hly
    have hlo : lo = ob S := by simpa using hob
    subst hlo
    exact h1 h hC0 ⟨a1, a2, a3, a4, a5⟩ ⟨b1, b2, b3, b4, b5⟩ FC.rfl'
end CHAIN
