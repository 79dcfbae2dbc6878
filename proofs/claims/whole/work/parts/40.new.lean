/-! The constructors, and the methods that make. -/
section NEW
variable {b : Nat} {h : Hp} {A : Nat → Nat} {S : St} {Q : Option AV ⊕ String → Hp → Prop}
theorem fresh_ob (hC : CI (b, ob S) h A S) (hW : WF S) {a : Nat} (ha : tg h a = 0) : a ∉ ob S := fun e => thg_ne (hC.thg hW e) ha
theorem c_newHolder (hC : CI (b, ob S) h A S) (hW : WF S) {i n1 n2 : Nat} {k : Int32} (hk : hd k) (hN : NSh S k n1 n2 none none none) (hf : fitS S (clN k (n1 + n2))) (hi : i < nt S) {a : Nat} (ha : tg h a = 0) {R : Hp → Prop} (hRR : ∀ H, (tg H (A 0) = 6 ∧ vc_X6_keep (A 0) (nI i) (some a) H (qi (fun v17 h16 => Q (.inl (some (vi v17))) h16) qn)) → R H)
    (h1 : a ∉ ob S → ∀ h', CI (b, ob (mkS S a i k n1 n2 none none none)) h' A (mkS S a i k n1 n2 none none none) → FC A h h' → Q (.inl (some (vi (nI (clN k (n1 + n2)))))) h') :
    vc_X1_init a k (nI (clN k (n1 + n2))) (nI n1) (nI n2) (nO h a 2) (qv R qn) := by
  have hao := fresh_ob hC hW ha
  have h3000 := hN.2.2.2.2.1; have h3001 := hN.2.2.2.2.2.1
  refine ⟨Or.inl tO2, nI_pos (by omega), by rw [nI_clamp (by omega)]; exact h3000, fun r hr => ⟨tA1 (t' := 1) hr tO2, nI_pos (by omega), by rw [nI_clamp (by omega)]; exact h3001, fun n hn => ?_⟩⟩
  rw [nI_clamp (by omega)] at hn ⊢
  rw [nI_clamp (by omega)]
  have hr' : tg (nO h a 2) r = 0 := hr
  have hn' : tg (nA (pI (pI (nO h a 2) 0 a k) 1 a (nI (clN k (n1 + n2)))) r 11 n1) n = 0 := hn
  have era : r ≠ a := fun e => by rw [e, tO2] at hr'; cases hr'
  have er0 : tg h r = 0 := by rw [tg_nO', if_neg era] at hr'; exact hr'
  have enr : n ≠ r := fun e => by rw [e, tA2] at hn'; cases hn'
  have hn2 : tg (nO h a 2) n = 0 := by rw [tg_nA', if_neg enr] at hn'; exact hn'
  have ena : n ≠ a := fun e => by rw [e, tO2] at hn2; cases hn2
  have en0 : tg h n = 0 := by rw [tg_nO', if_neg ena] at hn2; exact hn2
  have hT : ∀ x, tg (pR (nA (pR (nA (pI (pI (nO h a 2) 0 a k) 1 a (nI (clN k (n1 + n2)))) r 11 n1) 8 a (some r)) n 9 n2) 9 a (some n)) x = if x = n then 9 else if x = r then 11 else if x = a then 2 else tg h x := fun x => by
    rw [tg_pR, tg_nA', tg_pR, tg_nA', tg_pI, tg_pI, tg_nO']
  have hLn : ∀ x, ln (pR (nA (pR (nA (pI (pI (nO h a 2) 0 a k) 1 a (nI (clN k (n1 + n2)))) r 11 n1) 8 a (some r)) n 9 n2) 9 a (some n)) x = if x = n then n2 else if x = r then n1 else ln h x := fun x => by
    rw [ln_pR, ln_nA', ln_pR, ln_nA', ln_pI, ln_pI, ln_nO]
  have hI : ∀ j x, fI (pR (nA (pR (nA (pI (pI (nO h a 2) 0 a k) 1 a (nI (clN k (n1 + n2)))) r 11 n1) 8 a (some r)) n 9 n2) 9 a (some n)) j x = if j = 1 ∧ x = a then nI (clN k (n1 + n2)) else if j = 0 ∧ x = a then k else if x = a then 0 else fI h j x := fun j x => by
    rw [fI_pR, fI_nA, fI_pR, fI_nA, fI_pI, fI_pI, fI_nO']
  have hR : ∀ j x, fR (pR (nA (pR (nA (pI (pI (nO h a 2) 0 a k) 1 a (nI (clN k (n1 + n2)))) r 11 n1) 8 a (some r)) n 9 n2) 9 a (some n)) j x = if j = 9 ∧ x = a then some n else if j = 8 ∧ x = a then some r else if x = a then none else fR h j x := fun j x => by
    rw [fR_pR, fR_nA, fR_pR, fR_nA, fR_pI, fR_pI, fR_nO']
  have haI : ∀ x, x ≠ n → x ≠ r → aI (pR (nA (pR (nA (pI (pI (nO h a 2) 0 a k) 1 a (nI (clN k (n1 + n2)))) r 11 n1) 8 a (some r)) n 9 n2) 9 a (some n)) x = aI h x := fun x q1 q2 => funext fun j => by
    rw [aI_pR, aI_nA', if_neg q1, aI_pR, aI_nA', if_neg q2]; rfl
  have haL : ∀ x, aL (pR (nA (pR (nA (pI (pI (nO h a 2) 0 a k) 1 a (nI (clN k (n1 + n2)))) r 11 n1) 8 a (some r)) n 9 n2) 9 a (some n)) x = if x = n then fun _ => 0 else if x = r then fun _ => 0 else aL h x := fun x => by
    funext j; rw [aL_pR, aL_nA', aL_pR, aL_nA']; split <;> try rfl
    split <;> rfl
  have haR : ∀ x, aR (pR (nA (pR (nA (pI (pI (nO h a 2) 0 a k) 1 a (nI (clN k (n1 + n2)))) r 11 n1) 8 a (some r)) n 9 n2) 9 a (some n)) x = if x = n then fun _ => none else if x = r then fun _ => none else aR h x := fun x => by
    funext j; rw [aR_pR, aR_nA', aR_pR, aR_nA']; split <;> try rfl
    split <;> rfl
  refine hRR (pR (nA (pR (nA (pI (pI (nO h a 2) 0 a k) 1 a (nI (clN k (n1 + n2)))) r 11 n1) 8 a (some r)) n 9 n2) 9 a (some n)) ?_
  generalize pR (nA (pR (nA (pI (pI (nO h a 2) 0 a k) 1 a (nI (clN k (n1 + n2)))) r 11 n1) 8 a (some r)) n 9 n2) 9 a (some n) = H at *
  have tne : ∀ {x : Nat}, tg h x ≠ 0 → x ≠ n ∧ x ≠ r ∧ x ≠ a := fun {x} q => ⟨fun e => q (by rw [e]; exact en0), fun e => q (by rw [e]; exact er0), fun e => q (by rw [e]; exact ha)⟩
  have w : NW h H a := by
    refine ⟨ha, fun x hx => ?_, fun j x hx => ⟨?_, ?_⟩, fun x hx => ?_⟩
    · obtain ⟨q1, q2, q3⟩ := tne hx
      rw [hT, hLn, if_neg q1, if_neg q2, if_neg q3, if_neg q1, if_neg q2]; exact ⟨rfl, rfl⟩
    · rw [hI, if_neg (fun e => hx e.2), if_neg (fun e => hx e.2), if_neg hx]
    · rw [hR, if_neg (fun e => hx e.2), if_neg (fun e => hx e.2), if_neg hx]
    · obtain ⟨q1, q2, q3⟩ := tne hx
      exact ⟨haI x q1 q2, by rw [haL, if_neg q1, if_neg q2], by rw [haR, if_neg q1, if_neg q2]⟩
  have hC' := hC.new hW w
  obtain ⟨e1, e2, e3, e4, e5, e6, e7, e8, e9, e10, e11⟩ := mk_new (S := S) (a := a) (i := i) (n1 := n1) (n2 := n2) (k := k) (o1 := none) (o2 := none) (o3 := none)
  have tka : ∀ k, 40 ≤ k → tg h (A k) ≠ 0 := fun k hk => by rcases (hC.1.2.2.2.2.2 k hk).1 with e | e | e | e <;> rw [e] <;> decide
  refine ⟨hC'.1.1.1, c_keep hC' hW (WFmake hW hao hN hf) hao hi (Or.inl (by rw [hT, if_neg (Ne.symm ena), if_neg (Ne.symm era), if_pos rfl])) ⟨?_, ?_, ?_, fun _ => ⟨?_, r, n, ?_, ?_, ?_, ?_, fun j hj => ?_, ?_, ?_, ?_, fun k hk e => ?_, fun j hj => ?_⟩, fun q => ?_, fun q => ?_⟩ (fun _ x hx kx => ?_) ?_ ?_ (fun h' C' F' => h1 hao h' C' ((w.FC hC.1).trans F'))⟩
  · rw [e1, hI, if_neg (by simp), if_pos ⟨rfl, rfl⟩]
  · rw [mk_cl, hI, if_pos ⟨rfl, rfl⟩]
  · rw [e2, hI, if_neg (by simp), if_neg (by simp), if_pos rfl]
  · rw [hT, if_neg (Ne.symm ena), if_neg (Ne.symm era), if_pos rfl]
  · rw [hR, if_neg (by simp), if_pos ⟨rfl, rfl⟩]
  · rw [hT, if_neg (Ne.symm enr), if_pos rfl]
  · rw [e7, hLn, if_neg (Ne.symm enr), if_pos rfl]
  · exact fun e => by have := hC.1.2.1.1; rw [← e, er0] at this; cases this
  · rw [e9, haR, if_neg (Ne.symm enr), if_pos rfl]
  · rw [hR, if_pos ⟨rfl, rfl⟩]
  · rw [hT, if_pos rfl]
  · rw [e8, hLn, if_pos rfl]
  · exact tka k hk (by rw [← e]; exact en0)
  · rw [e10, haL, if_pos rfl]
  · exact absurd hk (by rw [e1] at q; rw [q]; exact no3_hd)
  · rw [e1] at q; exact absurd hk (ls_nohd q)
  · have hxa : x ≠ a := fun e => hao (by rw [← e]; exact hx)
    obtain ⟨-, r', n', d1, d2, d3, d4, d5, d6, d7, -⟩ := (hC.2.2.1.1 x hx).2.2.2.1 kx
    rw [hR 8 a, hR 9 a, if_neg (by simp), if_pos ⟨rfl, rfl⟩, if_pos ⟨rfl, rfl⟩, hR 8 x, hR 9 x, if_neg (fun e => hxa e.2), if_neg (fun e => hxa e.2), if_neg hxa, if_neg (fun e => hxa e.2), if_neg (fun e => hxa e.2), if_neg hxa, d1, d6]
    refine ⟨fun e => ?_, fun e => ?_⟩
    · cases e; rw [er0] at d2; cases d2
    · cases e; rw [en0] at d7; cases d7
  · rw [hR, if_neg (by simp), if_neg (by simp), if_pos rfl]
  · rw [hI, if_neg (by simp), if_neg (by simp), if_pos rfl]; exact nI_0.symm
/-- a queue or a loose one: no arrays -/
theorem c_newPlain (hC : CI (b, ob S) h A S) (hW : WF S) {i : Nat} {k : Int32} {o1 o2 o3 : Option Nat} (hk : ¬ hd k) (hN : NSh S k 0 0 o1 o2 o3) (hf : fitS S (clN k 0)) (hi : i < nt S) {a : Nat} (ha : tg h a = 0) {H : Hp} {tt : Nat} (htt : (tt = 3 ∧ k = 3 ∧ o1 = none ∧ o2 = none ∧ o3 = none) ∨ (tt = 4 ∧ ls k))
    (hH : H = pR (pR (pR (pI (pI (nO h a tt) 0 a k) 1 a (nI (clN k 0))) 13 a o1) 14 a o2) 15 a o3 ∨ (tt = 3 ∧ H = pI (pI (nO h a tt) 0 a k) 1 a (nI (clN k 0))))
    (h1 : a ∉ ob S → ∀ h', CI (b, ob (mkS S a i k 0 0 o1 o2 o3)) h' A (mkS S a i k 0 0 o1 o2 o3) → FC A h h' → Q (.inl (some (vi (nI (clN k 0))))) h') :
    tg H (A 0) = 6 ∧ vc_X6_keep (A 0) (nI i) (some a) H (qi (fun v17 h16 => Q (.inl (some (vi v17))) h16) qn) := by
  have hao := fresh_ob hC hW ha
  have hT : ∀ x, tg H x = if x = a then tt else tg h x := fun x => by
    rcases hH with rfl | ⟨-, rfl⟩ <;> rfl
  have hLn : ln H = ln h := by rcases hH with rfl | ⟨-, rfl⟩ <;> rfl
  have hI : ∀ j x, fI H j x = if j = 1 ∧ x = a then nI (clN k 0) else if j = 0 ∧ x = a then k else if x = a then 0 else fI h j x := fun j x => by
    rcases hH with rfl | ⟨-, rfl⟩
    · rw [fI_pR, fI_pR, fI_pR, fI_pI, fI_pI, fI_nO']
    · rw [fI_pI, fI_pI, fI_nO']
  have hR : ∀ j x, x ≠ a ∨ (j ≠ 13 ∧ j ≠ 14 ∧ j ≠ 15) → fR H j x = if x = a then none else fR h j x := fun j x q => by
    rcases hH with rfl | ⟨-, rfl⟩
    · rw [fR_pR, if_neg (fun e => by rcases q with q | q; exact q e.2; exact q.2.2 e.1), fR_pR, if_neg (fun e => by rcases q with q | q; exact q e.2; exact q.2.1 e.1), fR_pR, if_neg (fun e => by rcases q with q | q; exact q e.2; exact q.1 e.1), fR_pI, fR_pI, fR_nO']
    · rw [fR_pI, fR_pI, fR_nO']
  have hRl : tt = 4 → fR H 13 a = o1 ∧ fR H 14 a = o2 ∧ fR H 15 a = o3 := fun e => by
    rcases hH with rfl | ⟨e2, -⟩
    · simp [fR_pR]
    · rw [e] at e2; cases e2
  have haI : aI H = aI h ∧ aL H = aL h ∧ aR H = aR h := by rcases hH with rfl | ⟨-, rfl⟩ <;> exact ⟨rfl, rfl, rfl⟩
  have w : NW h H a := by
    refine ⟨ha, fun x hx => ?_, fun j x hx => ⟨?_, ?_⟩, fun x hx => ⟨by rw [haI.1], by rw [haI.2.1], by rw [haI.2.2]⟩⟩
    · have : x ≠ a := fun e => hx (by rw [e]; exact ha)
      rw [hT, if_neg this, hLn]; exact ⟨rfl, rfl⟩
    · rw [hI, if_neg (fun e => hx e.2), if_neg (fun e => hx e.2), if_neg hx]
    · rw [hR j x (Or.inl hx), if_neg hx]
  have hC' := hC.new hW w
  obtain ⟨e1, e2, e3, e4, e5, e6, e7, e8, e9, e10, e11⟩ := mk_new (S := S) (a := a) (i := i) (n1 := 0) (n2 := 0) (k := k) (o1 := o1) (o2 := o2) (o3 := o3)
  have ta : tg H a = tt := by rw [hT, if_pos rfl]
  refine ⟨hC'.1.1.1, c_keep hC' hW (WFmake hW hao hN hf) hao hi ?_ ⟨?_, ?_, ?_, fun q => ?_, fun q => ?_, fun q => ?_⟩ (fun q => absurd q hk) ?_ ?_ (fun h' C' F' => h1 hao h' C' ((w.FC hC.1).trans F'))⟩
  · rcases htt with ⟨rfl, -⟩ | ⟨rfl, -⟩
    · exact Or.inr (Or.inl ta)
    · exact Or.inr (Or.inr ta)
  · rw [e1, hI, if_neg (by simp), if_pos ⟨rfl, rfl⟩]
  · rw [mk_cl, hI, if_pos ⟨rfl, rfl⟩]
  · rw [e2, hI, if_neg (by simp), if_neg (by simp), if_pos rfl]
  · rw [e1] at q; exact absurd q hk
  · rw [e1] at q
    rcases htt with ⟨rfl, -⟩ | ⟨rfl, z⟩
    · refine ⟨ta, ?_⟩
      unfold COq
      rw [e11, hR 10 a (Or.inr (by decide)), if_pos rfl, hR 11 a (Or.inr (by decide)), if_pos rfl, hI, if_neg (by simp), if_neg (by simp), if_pos rfl]
      exact ⟨rfl, rfl, rfl, trivial⟩
    · rw [q] at z; exact absurd z no3_ls
  · rw [e1] at q
    rcases htt with ⟨rfl, z, -⟩ | ⟨rfl, z⟩
    · rw [z] at q; exact absurd q no3_ls
    · obtain ⟨r1, r2, r3⟩ := hRl rfl
      refine ⟨ta, by rw [e4]; exact r1, by rw [e5]; exact r2, by rw [e6]; exact r3, ?_, fun _ => ?_⟩
      · rw [e3, hI, if_neg (by simp), if_neg (by simp), if_pos rfl]
      · rw [hR 17 a (Or.inr (by decide)), if_pos rfl]
  · rw [hR 7 a (Or.inr (by decide)), if_pos rfl]
  · rw [hI, if_neg (by simp), if_neg (by simp), if_pos rfl]; exact nI_0.symm
/-- what making a new object of kind k gives, or not -/
def MkP (b : Nat) (h : Hp) (A : Nat → Nat) (S : St) (i : Nat) (k : Int32) (n1 n2 : Nat) (o1 o2 o3 : Option Nat) (Q : Option AV ⊕ String → Hp → Prop) : Prop :=
  (¬ fitS (roomB S (clN k (n1 + n2))) (clN k (n1 + n2)) → ∀ h', CI (b + 2, ob (roomB S (clN k (n1 + n2)))) h' A (wC (roomB S (clN k (n1 + n2))) 9 (cn (roomB S (clN k (n1 + n2))) 9 + 1)) → FC A h h' → Q (.inl (some (vi 0))) h') ∧
  (fitS (roomB S (clN k (n1 + n2))) (clN k (n1 + n2)) → NSh (roomB S (clN k (n1 + n2))) k n1 n2 o1 o2 o3 → ∀ a h', a ∉ ob (roomB S (clN k (n1 + n2))) → CI (b + 2, ob (mkS (roomB S (clN k (n1 + n2))) a i k n1 n2 o1 o2 o3)) h' A (mkS (roomB S (clN k (n1 + n2))) a i k n1 n2 o1 o2 o3) → FC A h h' → Q (.inl (some (vi (nI (clN k (n1 + n2)))))) h')
theorem room_same {S : St} {c : Nat} (hW : WF S) : rt (roomB S c) = rt S ∧ nt (roomB S c) = nt S ∧ sc (roomB S c) = sc S ∧ rm (roomB S c) = rm S ∧ fI (roomB S c).1 0 = fI S.1 0 := by
  have key : ∀ (S : St) (sf : Int32), WF S → rt (coll S sf) = rt S ∧ nt (coll S sf) = nt S ∧ sc (coll S sf) = sc S ∧ rm (coll S sf) = rm S ∧ fI (coll S sf).1 0 = fI S.1 0 := fun S sf hW => by
    obtain ⟨-, c2, -⟩ := colA_facts hW sf
    exact ⟨c2.2.2.2.2.2.2.2.2.1, c2.2.2.2.2.2.2.2.2.2.1, c2.2.2.2.2.2.2.2.2.2.2.1, c2.2.2.2.2.2.2.2.2.2.2.2.1, c2.2.1⟩
  have hA : rt (roomA S c) = rt S ∧ nt (roomA S c) = nt S ∧ sc (roomA S c) = sc S ∧ rm (roomA S c) = rm S ∧ fI (roomA S c).1 0 = fI S.1 0 := by
    unfold roomA; split
    · exact ⟨rfl, rfl, rfl, rfl, rfl⟩
    · exact key S 0 hW
  unfold roomB; split
  · exact hA
  · obtain ⟨k1, k2, k3, k4, k5⟩ := key (roomA S c) 1 (roomA_wf hW c)
    exact ⟨k1.trans hA.1, k2.trans hA.2.1, k3.trans hA.2.2.1, k4.trans hA.2.2.2.1, k5.trans hA.2.2.2.2⟩
theorem c_plain (hC : CI (b, ob S) h A S) (hW : WF S) (hb : b + 2 < 2 ^ 31) {x1 x2 x3 : Int32} (h1 : ¬ inR S x1 ∨ ¬ (0 ≤ x2 ∧ x2 ≤ 20) ∨ ¬ (0 ≤ x3 ∧ x3 ≤ 20) → Q (.inr xA) h) (h2 : ∀ i n1 n2, i < nt S → x1 = nI i → n1 ≤ 20 → x2 = nI n1 → n2 ≤ 20 → x3 = nI n2 → MkP b h A S i 0 n1 n2 none none none Q) : vc_X6_plain (A 0) x1 x2 x3 h Q := by
  have f1 := hC.1.1.1
  refine ⟨f1, c_root hC hW (fun i hi e => c_range (fun a1 a2 => c_range (fun b1 b2 => ⟨f1, ?_⟩) (fun q => h1 (Or.inr (Or.inr q)))) (fun q => h1 (Or.inr (Or.inl q)))) (fun q => h1 (Or.inl q))⟩
  subst e
  obtain ⟨n1, hn1, rfl⟩ := nI_ex' a1
  obtain ⟨n2, hn2, rfl⟩ := nI_ex' b1
  have m1 : n1 ≤ 20 := (nI_le' (b := 20) hn1 (by decide)).mp a2
  have m2 : n2 ≤ 20 := (nI_le' (b := 20) hn2 (by decide)).mp b2
  have ec : (2 : Int32) + nI n1 + nI n2 = nI (clN 0 (n1 + n2)) := by
    show nI 2 + nI n1 + nI n2 = _
    rw [nI_add, nI_add]; unfold clN; simp [Nat.add_assoc]
  have hc : clN 0 (n1 + n2) = 2 + (n1 + n2) := by unfold clN; simp
  rw [ec]
  obtain ⟨p1, p2⟩ := h2 i n1 n2 hi rfl m1 rfl m2 rfl
  have hNS : NSh (roomB S (clN 0 (n1 + n2))) 0 n1 n2 none none none := ⟨Or.inl (Or.inl rfl), fun q => absurd (Or.inl rfl) q, fun q => absurd q (by decide), fun q => absurd q (by decide), by omega, by omega, fun q => absurd (Or.inl rfl) (ls_nohd q)⟩
  refine c_room hC hW hb (by rw [hc]; omega) (fun hf h' C' F' => ⟨fun z => absurd z (by decide), fun _ a ha => ?_⟩) (fun hf h' C' F' => ⟨fun _ => p1 hf h' C' F', fun z => absurd rfl z⟩)
  exact c_newHolder C' (roomB_wf hW _) (Or.inl rfl) hNS hf (by rw [(room_same hW).2.1]; exact hi) ha (fun _ q => q) (fun hao h'' C'' F'' => p2 hf hNS a h'' hao C'' (F'.trans F''))
theorem c_row (hC : CI (b, ob S) h A S) (hW : WF S) (hb : b + 2 < 2 ^ 31) {x1 x2 x3 : Int32} (h1 : ¬ inR S x1 ∨ ¬ (0 ≤ x2 ∧ x2 ≤ 3000) → Q (.inr xA) h) (h2 : ∀ i n, i < nt S → x1 = nI i → n ≤ 3000 → x2 = nI n → x3 = 0 → MkP b h A S i 2 0 n none none none Q) (h3 : ∀ i n, i < nt S → x1 = nI i → n ≤ 3000 → x2 = nI n → ¬ x3 = 0 → MkP b h A S i 1 n 0 none none none Q) : vc_X6_row (A 0) x1 x2 x3 h Q := by
  have f1 := hC.1.1.1
  intro P q62
  refine ⟨f1, c_root hC hW (fun i hi e => c_range (fun a1 a2 => ⟨f1, ?_⟩) (fun q => h1 (Or.inr q))) (fun q => h1 (Or.inl q))⟩
  subst e
  obtain ⟨n, hn, rfl⟩ := nI_ex' a1
  have m : n ≤ 3000 := (nI_le' (b := 3000) hn (by decide)).mp a2
  have ec : (2 : Int32) + nI n = nI (2 + n) := nI_add 2 n
  have hc2 : clN 2 (0 + n) = 2 + n := by unfold clN; simp
  have hc1 : clN 1 (n + 0) = 2 + n := by unfold clN; simp
  rw [ec]
  have hN2 : NSh (roomB S (2 + n)) 2 0 n none none none := ⟨Or.inl (Or.inr (Or.inr rfl)), fun q => absurd (Or.inr (Or.inr rfl)) q, fun q => absurd q (by decide), fun _ => rfl, by omega, by omega, fun q => absurd (Or.inr (Or.inr rfl)) (ls_nohd q)⟩
  have hN1 : NSh (roomB S (2 + n)) 1 n 0 none none none := ⟨Or.inl (Or.inr (Or.inl rfl)), fun q => absurd (Or.inr (Or.inl rfl)) q, fun _ => rfl, fun q => absurd q (by decide), by omega, by omega, fun q => absurd (Or.inr (Or.inl rfl)) (ls_nohd q)⟩
  refine c_room hC hW hb (by omega) (fun hf h' C' F' => ⟨fun _ => ⟨fun e3 a ha => ?_, fun e3 a ha => ?_⟩, fun z => absurd z (by decide)⟩) (fun hf h' C' F' => ⟨fun z => absurd rfl z, fun _ => ?_⟩)
  · obtain ⟨p1, p2⟩ := h2 i n hi rfl m rfl e3
    rw [hc2] at p1 p2
    have := c_newHolder (n1 := 0) (n2 := n) (k := 2) (Q := Q) C' (roomB_wf hW _) (Or.inr (Or.inr rfl)) hN2 (by rw [hc2]; exact hf) (by rw [(room_same hW).2.1]; exact hi) ha (R := fun h12 => P (some a) (nI i) (some (A 0)) h12) (fun H q => q62 _ _ _ _ ⟨A 0, rfl, q⟩) (fun hao h'' C'' F'' => by rw [hc2]; exact p2 hf hN2 a h'' hao C'' (F'.trans F''))
    rw [hc2] at this
    exact this
  · obtain ⟨p1, p2⟩ := h3 i n hi rfl m rfl e3
    rw [hc1] at p1 p2
    have := c_newHolder (n1 := n) (n2 := 0) (k := 1) (Q := Q) C' (roomB_wf hW _) (Or.inr (Or.inl rfl)) hN1 (by rw [hc1]; exact hf) (by rw [(room_same hW).2.1]; exact hi) ha (R := fun h12 => P (some a) (nI i) (some (A 0)) h12) (fun H q => q62 _ _ _ _ ⟨A 0, rfl, q⟩) (fun hao h'' C'' F'' => by rw [hc1]; exact p2 hf hN1 a h'' hao C'' (F'.trans F''))
    rw [hc1] at this
    exact this
  · by_cases e3 : x3 = 0
    · obtain ⟨p1, p2⟩ := h2 i n hi rfl m rfl e3
      rw [hc2] at p1
      exact p1 hf h' C' F'
    · obtain ⟨p1, p2⟩ := h3 i n hi rfl m rfl e3
      rw [hc1] at p1
      exact p1 hf h' C' F'
theorem c_queue (hC : CI (b, ob S) h A S) (hW : WF S) (hb : b + 2 < 2 ^ 31) {x1 : Int32} (h1 : ¬ inR S x1 → Q (.inr xA) h) (h2 : ∀ i, i < nt S → x1 = nI i → MkP b h A S i 3 0 0 none none none Q) : vc_X6_queue (A 0) x1 h Q := by
  have f1 := hC.1.1.1
  refine ⟨f1, c_root hC hW (fun i hi e => ⟨f1, ?_⟩) h1⟩
  subst e
  have hc : clN 3 (0 + 0) = 3 := by unfold clN; simp
  obtain ⟨p1, p2⟩ := h2 i hi rfl
  rw [hc] at p1 p2
  have hN : NSh (roomB S 3) 3 0 0 none none none := ⟨Or.inr (Or.inl rfl), fun _ => ⟨rfl, rfl⟩, fun q => absurd q (by decide), fun q => absurd q (by decide), by omega, by omega, fun q => absurd q no3_ls⟩
  refine c_room (c := 3) hC hW hb (by omega) (fun hf h' C' F' => ⟨fun z => absurd z (by decide), fun _ a ha => ?_⟩) (fun hf h' C' F' => ⟨fun _ => p1 hf h' C' F', fun z => absurd rfl z⟩)
  refine ⟨Or.inr (Or.inl tO2), ?_⟩
  exact c_newPlain (k := 3) (o1 := none) (o2 := none) (o3 := none) (tt := 3) C' (roomB_wf hW _) no3_hd hN (by show fitS _ (clN 3 (0 + 0)); rw [hc]; exact hf) (by rw [(room_same hW).2.1]; exact hi) ha (Or.inl ⟨rfl, rfl, rfl, rfl, rfl⟩) (Or.inr ⟨rfl, rfl⟩) (fun hao h'' C'' F'' => p2 hf hN a h'' hao C'' (F'.trans F''))
end NEW
