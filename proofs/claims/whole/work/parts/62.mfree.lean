/-! The model's freeing. -/
section MFREE
variable {g : Gh} {h : Hp} {A : Nat → Nat} {S : St} {sf : Int32} {Q : Option AV ⊕ String → Hp → Prop}
theorem m_cells {k : Int32} {n : Nat} (hk : hd k ∨ k = 3 ∨ ls k) (h1 : Q (.inl (some (vi (nI (clN k n))))) h) : vc_X7_cells k (nI n) h Q := by
  have e2 : hd k → clN k n = 2 + n := fun q => by rcases q with rfl | rfl | rfl <;> unfold clN <;> simp
  rcases hk with q | rfl | q
  · rw [e2 q] at h1
    have e : ¬ (2 : Int32) < k := by rcases q with rfl | rfl | rfl <;> decide
    refine ⟨fun z => absurd z e, fun _ => ?_⟩
    have : (2 : Int32) + nI n = nI (2 + n) := nI_add 2 n
    rw [this]; exact h1
  · exact ⟨fun _ => ⟨fun z => absurd rfl z, fun _ => h1⟩, fun z => absurd (by decide) z⟩
  · rcases q with rfl | rfl | rfl | rfl
    · exact ⟨fun _ => ⟨fun _ => ⟨fun _ => h1, fun z => absurd z (by decide)⟩, fun z => absurd z (by decide)⟩, fun z => absurd (by decide) z⟩
    · exact ⟨fun _ => ⟨fun _ => ⟨fun _ => h1, fun z => absurd z (by decide)⟩, fun z => absurd z (by decide)⟩, fun z => absurd (by decide) z⟩
    · exact ⟨fun _ => ⟨fun _ => ⟨fun _ => h1, fun z => absurd z (by decide)⟩, fun z => absurd z (by decide)⟩, fun z => absurd (by decide) z⟩
    · exact ⟨fun _ => ⟨fun _ => ⟨fun z => absurd rfl z, fun _ => h1⟩, fun z => absurd z (by decide)⟩, fun z => absurd (by decide) z⟩
theorem sum_del (f : Nat → Nat) : ∀ {l : List Nat} {a : Nat}, l.Nodup → a ∈ l → (l.map f).sum = f a + ((l.filter (fun x => decide (x ≠ a))).map f).sum ∧ l.length = 1 + (l.filter (fun x => decide (x ≠ a))).length
  | [], _, _, h => by cases h
  | b :: l, a, hn, h => by
    have hn' := List.nodup_cons.mp hn
    by_cases e : b = a
    · subst e
      have : l.filter (fun x => decide (x ≠ b)) = l := List.filter_eq_self.mpr (fun x hx => by simp; exact fun q => hn'.1 (by rw [← q]; exact hx))
      rw [List.filter_cons, if_neg (by simp), this]
      simp; omega
    · have hm : a ∈ l := by rcases List.mem_cons.mp h with z | z; exact absurd z.symm e; exact z
      obtain ⟨i1, i2⟩ := sum_del f hn'.2 hm
      rw [List.filter_cons, if_pos (by simpa using e)]
      simp only [List.map_cons, List.sum_cons, List.length_cons]
      omega
/-- the state of freeing, at the number o; R are kept, fl free, L there -/
def FI (g : Gh) (h : Hp) (A : Nat → Nat) (S : St) (R L fl : List Nat) (o : Nat) : Prop :=
  MF h A ∧ (fI h 41 (A 40) = nI (rm S) ∧ fI h 57 (A 40) = nI (tp g) ∧ fI h 58 (A 40) = nI ((L.map (cl S)).sum) ∧ fI h 59 (A 40) = nI (nb g) ∧ fI h 60 (A 40) = nI (fl.headD 0) ∧ fI h 63 (A 40) = nI (nt S) ∧ fI h 64 (A 40) = nI (sc S).length ∧ fI h 65 (A 40) = nI L.length ∧
  fI h 66 (A 40) = cn S 2 ∧ fI h 67 (A 40) = cn S 3 ∧ fI h 68 (A 40) = cn S 4 ∧ fI h 69 (A 40) = cn S 5 ∧ fI h 70 (A 40) = cn S 6 ∧ fI h 71 (A 40) = cn S 8 ∧ fI h 72 (A 40) = cn S 9 ∧ fI h 73 (A 40) = nI (rK g)) ∧
  MR g h A S ∧ L.Nodup ∧ (∀ a, a ∈ L ↔ a ∈ ob S ∧ (a ∈ R ∨ o ≤ num g a)) ∧ (∀ a ∈ ob S, aI h (A 53) (num g a) = if a ∈ R then 1 else 0) ∧
  (fl.Nodup ∧ ((∀ x ∈ fl, 1 ≤ x ∧ x < nb g ∧ aI h (A 42) x = -1) ∧ ∀ x, nb g ≤ x → x < 15100 → aI h (A 42) x = -1) ∧ mch (aI h (A 47)) fl ∧ ∀ x, 1 ≤ x → x < nb g → x ∈ fl ∨ ∃ a ∈ L, num g a = x) ∧
  (∀ a ∈ R, MOa g h A S a) ∧ ∀ a ∈ L, MOd g h A S a
theorem m_free (hW : WF S) (hN : MN g h A S) {R : List Nat} (hR : ∀ a ∈ R, a ∈ ob S) (hq : ∀ a ∈ R, kd S a = 3 → ∀ b ∈ qu S a, b ∈ R) {P460 P542 : Int32 → Int32 → Hp → Prop} {y : Int32}
    (q460 : ∀ (y2 : Int32) (y5 : Int32) (h : Hp), (tg h (A 40) = 7 ∧ (((fI h 59 (A 40)) ≤ y5 → Q (.inl (some (vi (y2 - (fI h 58 (A 40)))))) h) ∧ (¬ (fI h 59 (A 40)) ≤ y5 → ∃ a103 : Nat, fR h 42 (A 40) = some a103 ∧ tg h a103 = 8 ∧ vp_in y5 (ln h a103) ∧ (((aI h a103 y5.toNatClampNeg) < 0 → P542 y2 y5 h) ∧ (¬ (aI h a103 y5.toNatClampNeg) < 0 → ∃ a107 : Nat, fR h 53 (A 40) = some a107 ∧ tg h a107 = 10 ∧ vp_in y5 (ln h a107) ∧ (((aI h a107 y5.toNatClampNeg) = 0 → vc_X7_cellsOf (A 40) y5 h (qi (fun v112 h111 => tg h111 (A 40) = 7 ∧ ∃ a114 : Nat, fR h111 42 (A 40) = some a114 ∧ tg h111 a114 = 8 ∧ vp_in y5 (ln h111 a114) ∧ ∃ a118 : Nat, fR h111 47 (A 40) = some a118 ∧ tg h111 a118 = 8 ∧ vp_in y5 (ln h111 a118) ∧ P542 y2 y5 (pI (qI (qI (pI (pI h111 58 (A 40) ((fI h 58 (A 40)) - v112)) 65 (A 40) ((fI h111 65 (A 40)) - (1 : Int32))) a114 y5.toNatClampNeg (-1 : Int32)) a118 y5.toNatClampNeg (fI h111 60 (A 40))) 60 (A 40) y5)) qn)) ∧ (¬ (aI h a107 y5.toNatClampNeg) = 0 → P542 y2 y5 h))))))) → P460 y2 y5 h)
    (q542 : ∀ (y2 : Int32) (y5 : Int32) (h : Hp), (P460 y2 (y5 + 1) h) → P542 y2 y5 h)
    (h1 : ∀ h' L fl, FI g h' A S R L fl (nb g) → FM A h h' → fI h' 40 (A 40) = fI h 40 (A 40) → Q (.inl (some (vi (y - nI ((L.map (cl S)).sum))))) h') :
    ∀ (d o : Nat) (h' : Hp) (L fl : List Nat), d + o = nb g → 1 ≤ o → FI g h' A S R L fl o → FM A h h' → fI h' 40 (A 40) = fI h 40 (A 40) → P460 y (nI o) h' := by
  have hnb := hN.2.2.2.1
  intro d
  induction d with
  | zero =>
    intro o h' L fl hd ho hF hM z40
    have : o = nb g := by omega
    subst this
    obtain ⟨f1, ⟨a1, a2, a3, a4, a5, a6, a7, a8, a9⟩, f3, f4, f5, f6, f7, f8, f9⟩ := id hF
    refine q460 _ _ _ ⟨f1.1, fun _ => ?_, fun q => ?_⟩
    · rw [a3]; exact h1 h' L fl hF hM z40
    · rw [a4] at q; exact absurd ((nI_le' (by omega) (by omega)).mpr (Nat.le_refl _)) q
  | succ d ih =>
    intro o h' L fl hd ho hF hM z40
    obtain ⟨f1, ⟨a1, a2, a3, a4, a5, a6, a7, a8, a9, a10, a11, a12, a13, a14, a15, a16⟩, f3, f4, f5, f6, ⟨f7a, f7b, f7c, f7d⟩, f8, f9⟩ := id hF
    have vo : ∀ k, mky k → k ≤ 55 → vp_in (nI o) (ln h' (A k)) := fun k hk h55 => f1.v hk (by unfold mln; rw [if_pos h55]; omega)
    have co : (nI o).toNatClampNeg = o := nI_clamp (by omega)
    -- nothing freed at o
    have stay : (∀ a ∈ L, num g a = o → a ∈ R) → P542 y (nI o) h' := fun hs => by
      refine q542 _ _ _ ?_
      rw [nI_1]
      refine ih (o + 1) h' L fl (by omega) (by omega) ⟨f1, ⟨a1, a2, a3, a4, a5, a6, a7, a8, a9, a10, a11, a12, a13, a14, a15, a16⟩, f3, f4, fun a => ?_, f6, ⟨f7a, f7b, f7c, f7d⟩, f8, f9⟩ hM z40
      rw [f5 a]
      constructor
      · rintro ⟨z1, z2⟩
        refine ⟨z1, ?_⟩
        rcases z2 with z | z
        · exact Or.inl z
        · by_cases e : num g a = o
          · exact Or.inl (hs a ((f5 a).mpr ⟨z1, Or.inr z⟩) e)
          · exact Or.inr (by omega)
      · rintro ⟨z1, z2⟩
        exact ⟨z1, by rcases z2 with z | z; exact Or.inl z; exact Or.inr (by omega)⟩
    refine q460 _ _ _ ⟨f1.1, fun q => ?_, fun _ => ⟨A 42, f1.r k42, f1.t k42 rfl, vo 42 k42 (by decide), ?_⟩⟩
    · rw [a4] at q
      have := (nI_le' (by omega) (by omega)).mp q; omega
    · rw [co]
      rcases f7d o ho (by omega) with z | ⟨a, haL, hao⟩
      · rw [(f7b.1 o z).2.2]
        refine ⟨fun _ => stay fun a ha e => ?_, fun q => absurd (by decide) q⟩
        have e2 := (f9 a ha).1
        rw [e, (f7b.1 o z).2.2] at e2
        exact absurd e2.symm (kd_nn (hW.2.1 a ((f5 a).mp ha).1))
      · have hob := ((f5 a).mp haL).1
        have wa := hW.2.1 a hob
        have hd9 := f9 a haL
        rw [← hao, hd9.1]
        have nneg : ¬ kd S a < 0 := by rcases wa.1 with (e | e | e) | e | (e | e | e | e) <;> rw [e] <;> decide
        have uniq : ∀ b ∈ ob S, num g b = num g a → b = a := fun b hb e => hN.2.1 b hb a hob e
        refine ⟨fun q => absurd q nneg, fun _ => ⟨A 53, f1.r k53, f1.t k53 rfl, by rw [hao]; exact vo 53 k53 (by decide), ?_⟩⟩
        rw [f6 a hob]
        by_cases hr : a ∈ R
        · rw [if_pos hr]
          refine ⟨fun q => absurd q (by decide), fun _ => ?_⟩
          rw [hao]
          exact stay fun b hb e => by rw [uniq b ((f5 b).mp hb).1 (by rw [e, hao])]; exact hr
        · rw [if_neg hr]
          refine ⟨fun _ => ?_, fun q => absurd rfl q⟩
          -- it is freed
          refine ⟨f1.1, A 42, f1.r k42, f1.t k42 rfl, by rw [hao]; exact vo 42 k42 (by decide), A 44, f1.r k44, f1.t k44 rfl, by rw [hao]; exact vo 44 k44 (by decide), A 45, f1.r k45, f1.t k45 rfl, by rw [hao]; exact vo 45 k45 (by decide), ?_⟩
          rw [hao, co, ← hao, hd9.1, hd9.2.2.1, hd9.2.2.2.1, nI_add]
          refine m_cells wa.1 ⟨f1.1, A 42, f1.r k42, f1.t k42 rfl, by rw [hao]; exact vo 42 k42 (by decide), A 47, f1.r k47, f1.t k47 rfl, by rw [hao]; exact vo 47 k47 (by decide), q542 _ _ _ ?_⟩
          show P460 y (nI (num g a) + 1) (pI (qI (qI (pI (pI h' 58 (A 40) (fI h' 58 (A 40) - nI (cl S a))) 65 (A 40) (fI h' 65 (A 40) - 1)) (A 42) (num g a) (-1)) (A 47) (num g a) (fI h' 60 (A 40))) 60 (A 40) (nI (num g a)))
          rw [hao, nI_1, a3, a8, a5]
          obtain ⟨s1, s2⟩ := sum_del (cl S) f4 haL
          have es1 : nI ((L.map (cl S)).sum) - nI (cl S a) = nI (((L.filter (fun x => decide (x ≠ a))).map (cl S)).sum) := by rw [s1, nI_sub (by omega), Nat.add_sub_cancel_left]
          have es2 : nI L.length - 1 = nI (L.filter (fun x => decide (x ≠ a))).length := by rw [s2, Nat.add_comm]; exact nI_pred _
          rw [es1, es2]
          -- the new heap
          have eI : ∀ k, k ≠ 58 → k ≠ 60 → k ≠ 65 → fI (pI (qI (qI (pI (pI h' 58 (A 40) (nI (((L.filter (fun x => decide (x ≠ a))).map (cl S)).sum))) 65 (A 40) (nI (L.filter (fun x => decide (x ≠ a))).length)) (A 42) o (-1)) (A 47) o (nI (fl.headD 0))) 60 (A 40) (nI o)) k = fI h' k := fun k q1 q2 q3 => by
            rw [fIx _ _ _ _ _ q2, fI_qI, fI_qI, fIx _ _ _ _ _ q3, fIx _ _ _ _ _ q1]
          have eA : ∀ k, mky k → k ≠ 42 → k ≠ 47 → aI (pI (qI (qI (pI (pI h' 58 (A 40) (nI (((L.filter (fun x => decide (x ≠ a))).map (cl S)).sum))) 65 (A 40) (nI (L.filter (fun x => decide (x ≠ a))).length)) (A 42) o (-1)) (A 47) o (nI (fl.headD 0))) 60 (A 40) (nI o)) (A k) = aI h' (A k) := fun k hk q1 q2 => by
            rw [aI_pI, aIx _ _ _ _ _ (f1.ne hk k47 q2), aIx _ _ _ _ _ (f1.ne hk k42 q1)]; rfl
          have e42 : ∀ x, aI (pI (qI (qI (pI (pI h' 58 (A 40) (nI (((L.filter (fun x => decide (x ≠ a))).map (cl S)).sum))) 65 (A 40) (nI (L.filter (fun x => decide (x ≠ a))).length)) (A 42) o (-1)) (A 47) o (nI (fl.headD 0))) 60 (A 40) (nI o)) (A 42) x = if x = o then -1 else aI h' (A 42) x := fun x => by
            rw [aI_pI, aIx _ _ _ _ _ (f1.ne k42 k47 (by decide)), aI_qI]; simp; rfl
          have e47 : ∀ x, aI (pI (qI (qI (pI (pI h' 58 (A 40) (nI (((L.filter (fun x => decide (x ≠ a))).map (cl S)).sum))) 65 (A 40) (nI (L.filter (fun x => decide (x ≠ a))).length)) (A 42) o (-1)) (A 47) o (nI (fl.headD 0))) 60 (A 40) (nI o)) (A 47) x = if x = o then nI (fl.headD 0) else aI h' (A 47) x := fun x => by
            rw [aI_pI, aI_qI, aIx _ _ _ _ _ (f1.ne k47 k42 (by decide))]; simp; rfl
          have F' : FM A h (pI (qI (qI (pI (pI h' 58 (A 40) (nI (((L.filter (fun x => decide (x ≠ a))).map (cl S)).sum))) 65 (A 40) (nI (L.filter (fun x => decide (x ≠ a))).length)) (A 42) o (-1)) (A 47) o (nI (fl.headD 0))) 60 (A 40) (nI o)) := ((((hM.pI (by decide)).pI (by decide)).qI k42).qI k47).pI (by decide)
          have eL : aL (pI (qI (qI (pI (pI h' 58 (A 40) (nI (((L.filter (fun x => decide (x ≠ a))).map (cl S)).sum))) 65 (A 40) (nI (L.filter (fun x => decide (x ≠ a))).length)) (A 42) o (-1)) (A 47) o (nI (fl.headD 0))) 60 (A 40) (nI o)) = aL h' := rfl
          have e58 : fI (pI (qI (qI (pI (pI h' 58 (A 40) (nI (((L.filter (fun x => decide (x ≠ a))).map (cl S)).sum))) 65 (A 40) (nI (L.filter (fun x => decide (x ≠ a))).length)) (A 42) o (-1)) (A 47) o (nI (fl.headD 0))) 60 (A 40) (nI o)) 58 (A 40) = nI (((L.filter (fun x => decide (x ≠ a))).map (cl S)).sum) := by rw [fIx _ _ _ _ _ (by decide), fI_qI, fI_qI, fIx _ _ _ _ _ (by decide), fI_pI, if_pos ⟨rfl, rfl⟩]
          have e65 : fI (pI (qI (qI (pI (pI h' 58 (A 40) (nI (((L.filter (fun x => decide (x ≠ a))).map (cl S)).sum))) 65 (A 40) (nI (L.filter (fun x => decide (x ≠ a))).length)) (A 42) o (-1)) (A 47) o (nI (fl.headD 0))) 60 (A 40) (nI o)) 65 (A 40) = nI (L.filter (fun x => decide (x ≠ a))).length := by rw [fIx _ _ _ _ _ (by decide), fI_qI, fI_qI, fI_pI, if_pos ⟨rfl, rfl⟩]
          have e60 : fI (pI (qI (qI (pI (pI h' 58 (A 40) (nI (((L.filter (fun x => decide (x ≠ a))).map (cl S)).sum))) 65 (A 40) (nI (L.filter (fun x => decide (x ≠ a))).length)) (A 42) o (-1)) (A 47) o (nI (fl.headD 0))) 60 (A 40) (nI o)) 60 (A 40) = nI o := by rw [fI_pI, if_pos ⟨rfl, rfl⟩]
          have mf' : MF (pI (qI (qI (pI (pI h' 58 (A 40) (nI (((L.filter (fun x => decide (x ≠ a))).map (cl S)).sum))) 65 (A 40) (nI (L.filter (fun x => decide (x ≠ a))).length)) (A 42) o (-1)) (A 47) o (nI (fl.headD 0))) 60 (A 40) (nI o)) A := f1
          generalize pI (qI (qI (pI (pI h' 58 (A 40) (nI (((L.filter (fun x => decide (x ≠ a))).map (cl S)).sum))) 65 (A 40) (nI (L.filter (fun x => decide (x ≠ a))).length)) (A 42) o (-1)) (A 47) o (nI (fl.headD 0))) 60 (A 40) (nI o) = H at *
          have ofl : o ∉ fl := fun z => by
            have := (f7b.1 o z).2.2
            rw [← hao, hd9.1] at this
            exact kd_nn wa this
          have nao : ∀ b ∈ ob S, b ≠ a → num g b ≠ o := fun b hb hne e => hne (uniq b hb (by rw [e, hao]))
          have oneg : ∀ b ∈ ob S, b ≠ a → MOd g h' A S b → MOd g H A S b := fun b hb hne md => by
            unfold MOd at md ⊢
            rw [eA 43 k43 (by decide) (by decide), eA 44 k44 (by decide) (by decide), eA 45 k45 (by decide) (by decide), eA 46 k46 (by decide) (by decide), e42, if_neg (nao b hb hne)]; exact md
          refine ih (o + 1) H (L.filter (fun x => decide (x ≠ a))) (o :: fl) (by omega) (by omega) ⟨mf', ⟨?_, ?_, e58, ?_, e60, ?_, ?_, e65, ?_, ?_, ?_, ?_, ?_, ?_, ?_, ?_⟩, ⟨?_, ?_⟩, List.Pairwise.filter _ f4, fun b => ?_, fun b hb => ?_, ⟨List.nodup_cons.mpr ⟨ofl, f7a⟩, ⟨fun x hx => ?_, fun x hx1 hx2 => ?_⟩, ⟨by rw [e47, if_pos rfl], mch_congr f7c (fun x hx => by rw [e47, if_neg (fun e => ofl (by rw [← e]; exact hx))])⟩, fun x hx1 hx2 => ?_⟩, fun b hb => ?_, fun b hb => ?_⟩ F' ?_
          · rw [eI 41 (by decide) (by decide) (by decide)]; exact a1
          · rw [eI 57 (by decide) (by decide) (by decide)]; exact a2
          · rw [eI 59 (by decide) (by decide) (by decide)]; exact a4
          · rw [eI 63 (by decide) (by decide) (by decide)]; exact a6
          · rw [eI 64 (by decide) (by decide) (by decide)]; exact a7
          · rw [eI 66 (by decide) (by decide) (by decide)]; exact a9
          · rw [eI 67 (by decide) (by decide) (by decide)]; exact a10
          · rw [eI 68 (by decide) (by decide) (by decide)]; exact a11
          · rw [eI 69 (by decide) (by decide) (by decide)]; exact a12
          · rw [eI 70 (by decide) (by decide) (by decide)]; exact a13
          · rw [eI 71 (by decide) (by decide) (by decide)]; exact a14
          · rw [eI 72 (by decide) (by decide) (by decide)]; exact a15
          · rw [eI 73 (by decide) (by decide) (by decide)]; exact a16
          · rw [eA 61 k61 (by decide) (by decide)]; exact f3.1
          · exact scM.congr (h := h') (eA 62 k62 (by decide) (by decide)) f3.2
          · rw [List.mem_filter, f5 b]
            simp only [decide_eq_true_eq]
            constructor
            · rintro ⟨⟨z1, z2⟩, z3⟩
              refine ⟨z1, ?_⟩
              rcases z2 with z | z
              · exact Or.inl z
              · have := nao b z1 z3; exact Or.inr (by omega)
            · rintro ⟨z1, z2⟩
              refine ⟨⟨z1, by rcases z2 with z | z; exact Or.inl z; exact Or.inr (by omega)⟩, fun e => ?_⟩
              subst e
              rcases z2 with z | z
              · exact hr z
              · omega
          · rw [eA 53 k53 (by decide) (by decide)]; exact f6 b hb
          · rcases List.mem_cons.mp hx with e | e
            · subst e; exact ⟨ho, by omega, by rw [e42, if_pos rfl]⟩
            · have := f7b.1 x e
              exact ⟨this.1, this.2.1, by rw [e42, if_neg (fun q => ofl (by rw [← q]; exact e))]; exact this.2.2⟩
          · rw [e42, if_neg (by omega)]; exact f7b.2 x hx1 hx2
          · rcases f7d x hx1 hx2 with z | ⟨b, hb, e⟩
            · exact Or.inl (List.mem_cons_of_mem _ z)
            · by_cases eb : b = a
              · subst eb; exact Or.inl (by rw [← e, hao]; exact List.mem_cons_self)
              · exact Or.inr ⟨b, List.mem_filter.mpr ⟨hb, by simpa using eb⟩, e⟩
          · have hbo := hR b hb
            have hba : b ≠ a := fun e => hr (by rw [← e]; exact hb)
            obtain ⟨d1, d2, d3, d4⟩ := f8 b hb
            refine ⟨oneg b hbo hba d1, fun kl => ?_, fun kq => ?_, ?_⟩
            · have := d2 kl
              unfold MOl at this ⊢
              rw [eA 48 k48 (by decide) (by decide), eA 49 k49 (by decide) (by decide), eA 50 k50 (by decide) (by decide), eA 51 k51 (by decide) (by decide), eA 52 k52 (by decide) (by decide)]; exact this
            · obtain ⟨o1, o2, o3, o4⟩ := d3 kq
              refine ⟨by rw [eA 48 k48 (by decide) (by decide)]; exact o1, by rw [eA 49 k49 (by decide) (by decide)]; exact o2, by rw [eA 51 k51 (by decide) (by decide)]; exact o3, mch_congr o4 (fun x hx => ?_)⟩
              obtain ⟨c, hc, e⟩ := List.mem_map.mp hx
              have hcR := hq b hb kq c hc
              rw [e47, if_neg (fun q => nao c (hR c hcR) (fun z => hr (by rw [← z]; exact hcR)) (e.trans q))]
            · unfold MOr; rw [eL]; exact d4
          · obtain ⟨hbL, hne⟩ := List.mem_filter.mp hb
            have hne : b ≠ a := by simpa using hne
            exact oneg b ((f5 b).mp hbL).1 hne (f9 b hbL)
          · rw [eI 40 (by decide) (by decide) (by decide)]; exact z40
end MFREE
