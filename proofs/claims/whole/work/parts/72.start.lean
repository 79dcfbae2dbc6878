/-! Both begun; what the law keeps. -/
noncomputable def A_ (B1 B2 : Nat → Nat) (t a : Nat) : Nat → Nat := fun k => if k < 40 then B1 k else if k = 41 then a else if (42 ≤ k ∧ k ≤ 56) ∨ k = 61 ∨ k = 62 then B2 k else t
def g0_ : Gh := (fun _ => 0, [], fun _ => 0, fun _ => 0, 1, 0, 0)
theorem start_ {h4 h9 : Hp} {t a r : Nat} {B1 B2 : Nat → Nat} (X : XI h4 B1 (nI r)) (M : MI_ h4 h9 t B2 (nI r)) (ha : tg h9 a = 0) :
    A_ B1 B2 t a 0 = B1 0 ∧ A_ B1 B2 t a 40 = t ∧ A_ B1 B2 t a 41 = a ∧ CI (0, ob (S0_ r)) (nA h9 a 9 1) (A_ B1 B2 t a) (S0_ r) ∧ MJ g0_ (nA h9 a 9 1) (A_ B1 B2 t a) (S0_ r) ∧ tg (nA h9 a 9 1) (A_ B1 B2 t a 41) = 9 ∧ ln (nA h9 a 9 1) (A_ B1 B2 t a 41) = 1 := by
  obtain ⟨m1, m2, m3, m4, m5, m6, m7, m8, m9, m10⟩ := M
  have e1 : ∀ k, k < 40 → A_ B1 B2 t a k = B1 k := fun k hk => if_pos hk
  have e40 : A_ B1 B2 t a 40 = t := by unfold A_; rw [if_neg (by decide), if_neg (by decide), if_neg (by decide)]
  have e41 : A_ B1 B2 t a 41 = a := by unfold A_; rw [if_neg (by decide), if_pos rfl]
  have em : ∀ k, mky k → A_ B1 B2 t a k = B2 k := fun k hk => by unfold A_; unfold mky at hk; rw [if_neg (by omega), if_neg (by omega), if_pos hk]
  have eo : ∀ k, 40 ≤ k → A_ B1 B2 t a k = t ∨ A_ B1 B2 t a k = a ∨ (mky k ∧ A_ B1 B2 t a k = B2 k) := fun k hk => by
    by_cases q : mky k
    · exact Or.inr (Or.inr ⟨q, em k q⟩)
    · by_cases w : k = 41
      · subst w; exact Or.inr (Or.inl e41)
      · refine Or.inl ?_
        unfold A_; unfold mky at q; rw [if_neg (by omega), if_neg w, if_neg q]
  have X9 := X.fz m3
  have FN : FZ h9 (nA h9 a 9 1) := FZ.rfl'.nA ha
  have XN := X9.fz FN
  have hta : t ≠ a := fun e => by rw [e, ha] at m1; cases m1
  have hBa : ∀ k, mky k → B2 k ≠ a := fun k hk e => by have := (m4 k hk).2.1; rw [e, ha] at this; exact (mtg_ne k).1 this.symm
  have tgA : tg (nA h9 a 9 1) a = 9 := by rw [tg_nA', if_pos rfl]
  have tgT : tg (nA h9 a 9 1) t = 7 := by rw [tg_nA', if_neg hta]; exact m1
  have lnA : ln (nA h9 a 9 1) a = 1 := by rw [ln_nA', if_pos rfl]
  generalize nA h9 a 9 1 = H at *
  have fT := FN t (by rw [m1]; decide)
  have fB : ∀ k, mky k → _ := fun k hk => FN (B2 k) (by rw [(m4 k hk).2.1]; exact (mtg_ne k).1)
  obtain ⟨⟨x1, x2, x3, x4, x5, x6, x7⟩, ⟨y1, y2, y3, y4, y5, y6⟩, ⟨z1, z2, z3⟩, d1, d2, w1, w2, w3, w4, w5, w6⟩ := XN
  have old : ∀ j, j < 40 → tg h4 (B1 j) ≠ 0 → ∀ k, 40 ≤ k → A_ B1 B2 t a k ≠ B1 j := fun j _ hj k hk e => by
    rcases eo k hk with q | q | ⟨q1, q2⟩
    · rw [← e, q] at hj; exact hj m2
    · rw [← e, q] at hj
      have := (m3 a hj).1
      rw [ha] at this; exact hj this.symm
    · rw [← e, q2] at hj; exact hj (m4 k q1).2.2.2.1
  have h30 : tg h4 (B1 30) ≠ 0 := by rw [X.2.1.2.1]; decide
  have h31 : tg h4 (B1 31) ≠ 0 := by rw [X.2.1.2.2.1]; decide
  refine ⟨e1 0 (by decide), e40, e41, ⟨⟨?_, ?_, ?_, ?_, ?_, fun k hk => ⟨?_, ?_, ?_⟩⟩, ⟨fun i hi => ?_, ?_, trivial, fun k hk => ?_, ?_⟩, ⟨fun b hb => (by cases hb), fun b hb => (by cases hb)⟩, ⟨[], [], rfl, ?_, ?_⟩, ⟨0, Nat.le_refl _, ?_, fun b hb => (by cases hb)⟩⟩, ⟨⟨?_, fun k hk => ?_, fun j k hj hk e => ?_, fun k hk => ?_⟩, ?_, ⟨fun i hi => ?_, trivial⟩, ⟨fun b hb => (by cases hb), fun b hb => (by cases hb), Nat.le_refl _, (by show 1 ≤ 15001; decide), List.nodup_nil, ⟨fun o ho => (by cases ho), fun o h1 h2 => ?_⟩, trivial, fun o h1 h2 => ?_, Nat.zero_le _, fun b hb => (by cases hb), fun b hb => (by cases hb), List.Pairwise.nil, fun b hb => (by cases hb)⟩, fun b hb => (by cases hb)⟩, by rw [e41]; exact tgA, by rw [e41]; exact lnA⟩
  · rw [e1 0 (by decide), e1 29 (by decide), e1 30 (by decide), e1 31 (by decide), e1 32 (by decide), e1 33 (by decide), e1 34 (by decide)]; exact ⟨x1, x2, x3, x4, x5, x6, x7⟩
  · rw [e1 29 (by decide), e1 30 (by decide), e1 31 (by decide), e1 32 (by decide), e1 33 (by decide), e1 34 (by decide)]; exact ⟨y1, y2, y3, y4, y5, y6⟩
  · rw [e1 29 (by decide), e1 30 (by decide), e1 31 (by decide)]; exact ⟨z1, z2, z3⟩
  · rw [e1 32 (by decide), e1 33 (by decide)]; exact d1
  · rw [e1 30 (by decide), e1 31 (by decide)]; exact d2
  · rcases eo k hk with q | q | ⟨q1, q2⟩
    · rw [q]; exact Or.inl tgT
    · rw [q]; exact Or.inr (Or.inr (Or.inl tgA))
    · rw [q2, (fB k q1).1, (m4 k q1).2.1]
      unfold mtg
      split
      · exact Or.inr (Or.inr (Or.inr rfl))
      · split
        · exact Or.inr (Or.inr (Or.inl rfl))
        · exact Or.inr (Or.inl rfl)
  · rw [e1 30 (by decide)]; exact old 30 (by decide) h30 k hk
  · rw [e1 31 (by decide)]; exact old 31 (by decide) h31 k hk
  · rw [e1 29 (by decide), w1]; show none = if i < 64 then none else none; split <;> rfl
  · rw [e1 0 (by decide), w2]; show 0 = nI 0; rw [nI_0]
  · rw [e1 31 (by decide), w3]; rfl
  · rw [e1 0 (by decide)]; exact w4
  · rw [e1 33 (by decide)]
    obtain ⟨q1, q2, q3, q4⟩ := w5 (B1 33) (Or.inr rfl)
    exact ⟨q1, q2, by rw [q3]; exact nI_0.symm, by rw [q4]; exact nI_0.symm, trivial⟩
  · rw [e1 32 (by decide)]
    obtain ⟨q1, q2, q3, q4⟩ := w5 (B1 32) (Or.inl rfl)
    exact ⟨q1, q2, by rw [q3]; exact nI_0.symm, by rw [q4]; exact nI_0.symm, trivial⟩
  · rw [e1 34 (by decide), w6]; exact nI_0.symm
  · rw [e40]; exact tgT
  · rw [e40, em k hk, fT.2.2.2.1, (fB k hk).1, (fB k hk).2.1]; exact ⟨(m4 k hk).1, (m4 k hk).2.1, (m4 k hk).2.2.1⟩
  · rw [em j hj, em k hk] at e; exact m5 j k hj hk e
  · rw [e41, em k hk]; exact fun e => hBa k hk e.symm
  · have s : ∀ k, k ≠ 59 → k ≠ 63 → k ≠ 41 → fI H k t = 0 := fun k q1 q2 q3 => by rw [fT.2.2.1]; exact m10 k q1 q2 q3
    have c : ∀ k, k ≠ 7 → cn (S0_ r) k = 0 := fun k q => (by show up1 (fun _ => (0 : Int32)) 7 64 k = 0; rw [up1_ne q])
    unfold MG
    rw [e40, fT.2.2.1 41, m9, fT.2.2.1 59, m7, fT.2.2.1 63, m8, s 57 (by decide) (by decide) (by decide), s 58 (by decide) (by decide) (by decide), s 60 (by decide) (by decide) (by decide), s 64 (by decide) (by decide) (by decide), s 65 (by decide) (by decide) (by decide), s 66 (by decide) (by decide) (by decide), s 67 (by decide) (by decide) (by decide), s 68 (by decide) (by decide) (by decide), s 69 (by decide) (by decide) (by decide), s 70 (by decide) (by decide) (by decide), s 71 (by decide) (by decide) (by decide), s 72 (by decide) (by decide) (by decide), s 73 (by decide) (by decide) (by decide), c 2 (by decide), c 3 (by decide), c 4 (by decide), c 5 (by decide), c 6 (by decide), c 8 (by decide), c 9 (by decide)]
    have u0 : us (S0_ r) = 0 := rfl
    rw [u0]
    refine ⟨rfl, ?_, ?_, ?_, ?_, ?_, ?_, ?_, rfl, rfl, rfl, rfl, rfl, rfl, rfl, ?_⟩
    · exact nI_0.symm
    · exact nI_0.symm
    · rfl
    · exact nI_0.symm
    · rfl
    · exact nI_0.symm
    · exact nI_0.symm
    · exact nI_0.symm
  · rw [em 61 k61, (fB 61 k61).2.2.2.2.1]; exact (m4 61 k61).2.2.2.2 (by decide) i
  · have h1 : 1 ≤ o := h1
    rw [em 42 k42, (fB 42 k42).2.2.2.2.1]; exact m6 o h2
  · have h2 : o < 1 := h2
    omega
section LAWI
variable {A : Nat → Nat} {b K : Nat} {h : Hp} {S : St} {g : Gh} {P : Hp → Prop} {R0 : Hp → Prop}
theorem WFlink (hW : WF S) {a k : Nat} {o : Option Nat} (ho : ∀ c, o = some c → c ∈ ob S) : WF (wH S (qR S.1 a k o)) := by
  obtain ⟨w1, w2, w3⟩ := hW
  refine ⟨w1, fun b hb => ?_, w3⟩
  obtain ⟨v1, v2, v3, v4, v5, v6, v7, v8⟩ := w2 b hb
  refine ⟨v1, v2, v3, v4, v5, v6, fun j hj c hc => ?_, v8⟩
  have hc : aR (qR S.1 a k o) b j = some c := hc
  rw [aR_qR] at hc
  split at hc
  · exact ho c hc
  · exact v7 j hj c hc
theorem WFset (hW : WF S) {a k : Nat} {z : Int64} : WF (wH S (qL S.1 a k z)) := hW
theorem WFgive (hW : WF S) {a : Nat} {o : Option Nat} (hk : kd S a = 7) (hr : re S a ≠ none) (ho : ∀ c, o = some c → c ∈ ob S) : WF (wH S (pR S.1 14 a o)) := by
  obtain ⟨w1, w2, w3⟩ := hW
  refine ⟨w1, fun b hb => ?_, w3⟩
  obtain ⟨v1, v2, v3, v4, v5, v6, v7, v8, v9⟩ := w2 b hb
  refine ⟨v1, v2, v3, v4, v5, v6, v7, fun kl => ?_, v9⟩
  obtain ⟨u1, u2, u3, u4⟩ := v8 kl
  refine ⟨fun c hc => ?_, fun c hc => ?_, u3, fun hc q hq => ?_⟩
  · have hc : fR (pR S.1 14 a o) 13 b = some c := hc
    rw [fRx _ _ _ _ _ (by decide)] at hc; exact u1 c hc
  · have hc : fR (pR S.1 14 a o) 14 b = some c := hc
    have e13 : fR (pR S.1 14 a o) 13 = fR S.1 13 := fRx _ _ _ _ _ (by decide)
    show c ∈ ob S ∧ kd S b = 7 ∧ fR (pR S.1 14 a o) 13 b ≠ none
    rw [e13]
    rw [fR_pR] at hc
    by_cases e : b = a
    · subst e; rw [if_pos ⟨rfl, rfl⟩] at hc; exact ⟨ho c hc, hk, hr⟩
    · rw [if_neg (fun q => e q.2)] at hc; exact u2 c hc
  · have hq : fR (pR S.1 14 a o) 15 b = some q := hq
    rw [fRx _ _ _ _ _ (by decide)] at hq; exact u4 hc q hq
theorem CI.out {B : Nat × List Nat} {z : Int64} (hC : CI B h A S) : CI B (qL h (A 41) 0 z) A S := by
  obtain ⟨c1, c2, c3, c4, c5⟩ := hC
  refine ⟨c1.congr (eqT.of rfl rfl) (fun k _ _ => rfl), c2.congr rfl rfl rfl rfl rfl, ⟨fun x hx => ?_, c3.2.congr (fun _ _ => rfl) (fun _ _ => rfl)⟩, c4.congr (fun c _ => ⟨rfl, rfl, rfl, rfl⟩) (fun _ _ => rfl), c5.congr rfl (fun _ _ => ⟨rfl, rfl⟩)⟩
  refine (c3.1 x hx).congr (eqT.of rfl rfl) (fun k hk => rfl) (fun _ _ => rfl) (fun _ _ => rfl) (fun _ _ _ => rfl) (fun k n hn => ?_)
  obtain ⟨-, r, n', d1, d2, d3, d4, d5, d6, d7, d8, d9, -⟩ := (c3.1 x hx).2.2.2.1 k
  rw [hn] at d6; cases d6
  exact aLx _ _ _ _ _ (d9 41 (by decide))
theorem MJ.out {z : Int64} (hM : MJ g h A S) : MJ g (qL h (A 41) 0 z) A S := by
  obtain ⟨m1, m2, m3, m4, m5⟩ := hM
  refine ⟨m1, m2, ⟨m3.1, scM.congr (h := h) (h' := qL h (A 41) 0 z) rfl m3.2⟩, m4, fun b hb => ?_⟩
  obtain ⟨d1, d2, d3, d4⟩ := m5 b hb
  refine ⟨d1, d2, d3, ?_⟩
  unfold MOr; rw [aLx _ _ _ _ _ (Ne.symm (m1.2.2.2 56 k56))]; exact d4
/-- what the law keeps from call to call -/
def LI (A : Nat → Nat) (b K : Nat) (h : Hp) (S : St) (g : Gh) : Prop := CI (b, ob S) h A S ∧ MJ g h A S ∧ WF S ∧ tg h (A 41) = 9 ∧ ln h (A 41) = 1 ∧ rK g ≤ K
/-- the law's comparing -/
def Fin_ (A : Nat → Nat) (v : Int32) (z : Int64) (P R0 : Hp → Prop) (h : Hp) : Prop :=
  tg h (A 40) = 7 ∧ vc_X7_thrown (A 40) h (qi (fun v33 h32 => ((v33 = v → ((¬ v = 0 → P h32) ∧ (v = 0 → ∃ a35 : Nat, some (A 41) = some a35 ∧ tg h32 a35 = 9 ∧ vp_in (0 : Int32) (ln h32 a35) ∧ (((lg_cmp (aL h32 a35 0) z) = 0 → P h32) ∧ (¬ (lg_cmp (aL h32 a35 0) z) = 0 → R0 h32))))) ∧ (¬ v33 = v → R0 h32))) qn)
theorem fin_bad {v : Int32} {z : Int64} (hv : ¬ v = 0) (h1 : tg h (A 40) = 7) (h2 : fI h 40 (A 40) = v) (h3 : P h) : Fin_ A v z P R0 h := ⟨h1, h1, by
  show (fI h 40 (A 40) = v → _) ∧ (¬ fI h 40 (A 40) = v → _)
  exact ⟨fun _ => ⟨fun _ => h3, fun q => absurd q hv⟩, fun q => absurd h2 q⟩⟩
theorem vp0 {n : Nat} (h : n = 1) : vp_in (0 : Int32) n := by subst h; unfold vp_in; decide
theorem cmp_self (z : Int64) : lg_cmp z z = 0 := by unfold lg_cmp; simp
theorem fin_good {z : Int64} (h1 : tg h (A 40) = 7) (h2 : fI h 40 (A 40) = 0) (h3 : tg h (A 41) = 9) (h4 : ln h (A 41) = 1) (h5 : aL h (A 41) 0 = z) (h6 : P h) : Fin_ A 0 z P R0 h := ⟨h1, h1, by
  show (fI h 40 (A 40) = 0 → _) ∧ (¬ fI h 40 (A 40) = 0 → _)
  exact ⟨fun _ => ⟨fun q => absurd rfl q, fun _ => ⟨A 41, rfl, h3, vp0 h4, fun _ => h6, fun q => absurd (by rw [h5]; exact cmp_self z) q⟩⟩, fun q => absurd h2 q⟩⟩
/-- where the law goes on -/
def Go (A : Nat → Nat) (b K : Nat) (P : Hp → Prop) : Prop := ∀ h' S' g' b', b' ≤ b + 2 → LI A b' (K + 1) h' S' g' → P h'
theorem LI.fm {h' : Hp} {g' : Gh} (I : LI A b K h S g) (F : FM A h h') (M : MJ g' h' A S) (hk : rK g' ≤ rK g) : LI A b (K + 1) h' S g' := ⟨I.1.fm F, M, I.2.2.1, by rw [F.1]; exact I.2.2.2.1, by rw [F.2.1]; exact I.2.2.2.2.1, by have := I.2.2.2.2.2; omega⟩
theorem LI.ex {c : Int32} (I : LI A b K h S g) (hP : Go A b K P) (hc : ¬ c = 0) : MQ_ g h A S c 0 (qi (fun v h29 => Fin_ A c v.toInt64 P R0 h29) qn) := fun h' M' F' z' => fin_bad hc M'.1.1 z' (hP h' S g b (by omega) (I.fm F' M' (Nat.le_refl _)))
theorem LI.exL {c : Int32} (I : LI A b K h S g) (hP : Go A b K P) (hc : ¬ c = 0) : MQL g h A S c 0 (ql (fun v h29 => Fin_ A c v P R0 h29) qn) := fun h' M' F' z' => fin_bad hc M'.1.1 z' (hP h' S g b (by omega) (I.fm F' M' (Nat.le_refl _)))
theorem LI.mid {h' : Hp} {z : Int64} (I : LI A b K h S g) (F : FC A h h') : MJ g (qL h' (A 41) 0 z) A S := (I.2.1.fc F).out
theorem LI.o9 {h' : Hp} (I : LI A b K h S g) (F : FC A h h') : tg h' (A 41) = 9 ∧ ln h' (A 41) = 1 := ⟨by rw [(F.2 41 (by decide)).1]; exact I.2.2.2.1, by rw [(F.2 41 (by decide)).2.1]; exact I.2.2.2.2.1⟩
theorem LI.end_ {h' h3 : Hp} {z : Int64} {S' : St} {g' : Gh} {b' : Nat} (I : LI A b K h S g) (hP : Go A b K P) (F : FC A h h') (C' : CI (b', ob S') h' A S') (hb : b' ≤ b + 2) (W' : WF S') (M3 : MJ g' h3 A S') (hk : rK g' ≤ rK g + 1) (F3 : FM A (qL h' (A 41) 0 z) h3) (z3 : fI h3 40 (A 40) = 0) : Fin_ A 0 z P R0 h3 := by
  obtain ⟨o1, o2⟩ := I.o9 F
  have t3 : tg h3 (A 41) = 9 := by rw [F3.1]; exact o1
  have l3 : ln h3 (A 41) = 1 := by rw [F3.2.1]; exact o2
  have a3 : aL h3 (A 41) 0 = z := by rw [(F3.2.2.2.2.2 (A 41) (fun k hk => M3.1.2.2.2 k hk)).2, aL_qL, if_pos ⟨rfl, rfl⟩]
  exact fin_good M3.1.1 z3 t3 l3 a3 (hP h3 S' g' b' hb ⟨(C'.out (z := z)).fm F3, M3, W', t3, l3, by have := I.2.2.2.2.2; omega⟩)
theorem LI.good {h' : Hp} {v : Int32} {S' : St} {b' : Nat} (I : LI A b K h S g) (hP : Go A b K P) (F : FC A h h') (C' : CI (b', ob S') h' A S') (hb : b' ≤ b + 2) (W' : WF S') : MQ_ g (qL h' (A 41) 0 v.toInt64) A S' 0 v (qi (fun v h29 => Fin_ A 0 v.toInt64 P R0 h29) qn) := fun h3 M3 F3 z3 => I.end_ hP F C' hb W' M3 (by omega) F3 z3
theorem LI.goodL {h' : Hp} {v : Int64} {S' : St} {b' : Nat} (I : LI A b K h S g) (hP : Go A b K P) (F : FC A h h') (C' : CI (b', ob S') h' A S') (hb : b' ≤ b + 2) (W' : WF S') : MQL g (qL h' (A 41) 0 v) A S' 0 v (ql (fun v h29 => Fin_ A 0 v P R0 h29) qn) := fun h3 M3 F3 z3 => I.end_ hP F C' hb W' M3 (by omega) F3 z3
end LAWI
