/-! The model's collection. -/
section MCOLL
variable {g : Gh} {h : Hp} {A : Nat → Nat} {S : St} {sf : Int32} {Q : Option AV ⊕ String → Hp → Prop}
theorem nI_half {n : Nat} (hn : n < 2 ^ 31) : nI n / 2 = nI (n / 2) := by
  apply Int32.toInt_inj.mp
  rw [Int32.toInt_div, nI_toInt hn, nI_toInt (by omega)]
  have e : (2 : Int32).toInt = 2 := by decide
  rw [e]
  have h1 : ((n : Int).tdiv 2) = ((n / 2 : Nat) : Int) := by
    rw [Int.tdiv_eq_ediv_of_nonneg (by omega)]; omega
  rw [h1]
  exact Int.bmod_eq_of_le (by omega) (by omega)
theorem MJ.setCnt (hM : MJ g h A S) {k j : Nat} {x : Int32} (hk : (k = 67 ∧ j = 3) ∨ (k = 69 ∧ j = 5) ∨ (k = 72 ∧ j = 9)) : MJ g (pI h k (A 40) x) A (wC S j x) := by
  obtain ⟨m1, m2, m3, m4, m5⟩ := hM
  obtain ⟨a1, a2, a3, a4, a5, a6, a7, a8, a9, a10, a11, a12, a13, a14, a15, a16⟩ := m2
  have e : ∀ k', k' ≠ k → fI (pI h k (A 40) x) k' (A 40) = fI h k' (A 40) := fun k' q => by rw [fIx _ _ _ _ _ q]
  have ej : ∀ j', j' ≠ j → cn (wC S j x) j' = cn S j' := fun j' q => up1_ne q
  have es : cn (wC S j x) j = x := up1_same _ _ _
  have ek : fI (pI h k (A 40) x) k (A 40) = x := by rw [fI_pI, if_pos ⟨rfl, rfl⟩]
  refine ⟨m1, ?_, ⟨m3.1, scM.congr (h := h) (h' := pI h k (A 40) x) rfl m3.2⟩, m4, m5⟩
  rcases hk with ⟨rfl, rfl⟩ | ⟨rfl, rfl⟩ | ⟨rfl, rfl⟩
  · exact ⟨by rw [e 41 (by decide)]; exact a1, by rw [e 57 (by decide)]; exact a2, by rw [e 58 (by decide)]; exact a3, by rw [e 59 (by decide)]; exact a4, by rw [e 60 (by decide)]; exact a5, by rw [e 63 (by decide)]; exact a6, by rw [e 64 (by decide)]; exact a7, by rw [e 65 (by decide)]; exact a8, by rw [e 66 (by decide), ej 2 (by decide)]; exact a9, by rw [ek, es], by rw [e 68 (by decide), ej 4 (by decide)]; exact a11, by rw [e 69 (by decide), ej 5 (by decide)]; exact a12, by rw [e 70 (by decide), ej 6 (by decide)]; exact a13, by rw [e 71 (by decide), ej 8 (by decide)]; exact a14, by rw [e 72 (by decide), ej 9 (by decide)]; exact a15, by rw [e 73 (by decide)]; exact a16⟩
  · exact ⟨by rw [e 41 (by decide)]; exact a1, by rw [e 57 (by decide)]; exact a2, by rw [e 58 (by decide)]; exact a3, by rw [e 59 (by decide)]; exact a4, by rw [e 60 (by decide)]; exact a5, by rw [e 63 (by decide)]; exact a6, by rw [e 64 (by decide)]; exact a7, by rw [e 65 (by decide)]; exact a8, by rw [e 66 (by decide), ej 2 (by decide)]; exact a9, by rw [e 67 (by decide), ej 3 (by decide)]; exact a10, by rw [e 68 (by decide), ej 4 (by decide)]; exact a11, by rw [ek, es], by rw [e 70 (by decide), ej 6 (by decide)]; exact a13, by rw [e 71 (by decide), ej 8 (by decide)]; exact a14, by rw [e 72 (by decide), ej 9 (by decide)]; exact a15, by rw [e 73 (by decide)]; exact a16⟩
  · exact ⟨by rw [e 41 (by decide)]; exact a1, by rw [e 57 (by decide)]; exact a2, by rw [e 58 (by decide)]; exact a3, by rw [e 59 (by decide)]; exact a4, by rw [e 60 (by decide)]; exact a5, by rw [e 63 (by decide)]; exact a6, by rw [e 64 (by decide)]; exact a7, by rw [e 65 (by decide)]; exact a8, by rw [e 66 (by decide), ej 2 (by decide)]; exact a9, by rw [e 67 (by decide), ej 3 (by decide)]; exact a10, by rw [e 68 (by decide), ej 4 (by decide)]; exact a11, by rw [e 69 (by decide), ej 5 (by decide)]; exact a12, by rw [e 70 (by decide), ej 6 (by decide)]; exact a13, by rw [e 71 (by decide), ej 8 (by decide)]; exact a14, by rw [ek, es], by rw [e 73 (by decide)]; exact a16⟩
/-- pairs that are reached with their referents have their values reached -/
def POk (S : St) (l : List Nat) (a : Nat) : Prop := kd S a = 7 → a ∈ l → ∀ r b, re S a = some r → r ∈ l → va S a = some b → b ∈ l
theorem l_Rch {l : List Nat} (h1 : ∀ i < nt S, ∀ b, rt S i = some b → b ∈ l) (h2 : ∀ a ∈ l, SuM S sf l a) (h3 : ∀ a ∈ l, POk S l a) (h4 : ∀ b ∈ l, Rch S sf b) : ∀ a, a ∈ l ↔ Rch S sf a := fun a =>
  ⟨h4 a, fun hr => hr (fun x => x ∈ l) ⟨h1, fun x hx => (h2 x hx).1, fun x hx => (h2 x hx).2.1, fun x hx => (h2 x hx).2.2.2, fun x hx => (h2 x hx).2.2.1, fun x hx k r b hr hrl hb => h3 x hx k hx r b hr hrl hb⟩⟩
/-- what stands at a number -/
theorem MJ.who (hM : MJ g h A S) {o : Nat} (h1 : 1 ≤ o) (h2 : o < nb g) : (o ∈ fl_ g ∧ aI h (A 42) o = -1 ∧ ∀ a ∈ ob S, num g a = o → False) ∨ ∃ a ∈ ob S, num g a = o ∧ aI h (A 42) o = kd S a := by
  rcases hM.2.2.2.1.2.2.2.2.2.2.2.1 o h1 h2 with z | ⟨a, ha, e⟩
  · by_cases q : ∃ a ∈ ob S, num g a = o
    · obtain ⟨a, ha, e⟩ := q
      exact Or.inr ⟨a, ha, e, by rw [← e]; exact (hM.2.2.2.2 a ha).1.1⟩
    · exact Or.inl ⟨z, (hM.2.2.2.1.2.2.2.2.2.1.1 o z).2.2, fun a ha e => q ⟨a, ha, e⟩⟩
  · exact Or.inr ⟨a, ha, e, by rw [← e]; exact (hM.2.2.2.2 a ha).1.1⟩
theorem MJ.vn (hM : MJ g h A S) {o k : Nat} (h2 : o < nb g) (hk : mky k) (h55 : k ≤ 55) : vp_in (nI o) (ln h (A k)) := hM.1.v hk (by have := hM.2.2.2.1.2.2.2.1; unfold mln; rw [if_pos h55]; omega)
theorem m_collectAll (hM : MJ g h A S) (hW : WF S) (hRK : rK g < 2 ^ 31) (h1 : ∀ g' h', MJ g' h' A (coll S sf) → rK g' = rK g → num g' = num g → FM A h h' → fI h' 40 (A 40) = fI h 40 (A 40) → Q (.inl (some (vi (nI (us S) - nI (us (coll S sf)))))) h') : vc_X7_collectAll (A 40) sf h Q := by
  have hlen := hW.len
  have hnt := hW.nt
  have hnb := hM.2.2.2.1.2.2.2.1
  have hnb1 := hM.2.2.2.1.2.2.1
  have rc := Rch_cls S sf
  have M0 : MJ g (pI h 67 (A 40) (cn S 3 + 1)) A (wC S 3 (cn S 3 + 1)) := hM.setCnt (Or.inl ⟨rfl, rfl⟩)
  have W0 : WF (wC S 3 (cn S 3 + 1)) := hW.setC _ (by decide) (by decide) (by decide)
  have F0 : FM A h (pI h 67 (A 40) (cn S 3 + 1)) := FM.rfl'.pI (by decide)
  have z0 : fI (pI h 67 (A 40) (cn S 3 + 1)) 40 (A 40) = fI h 40 (A 40) := by rw [fIx _ _ _ _ _ (by decide)]
  have g67 : fI h 67 (A 40) = cn S 3 := hM.2.1.2.2.2.2.2.2.2.2.2.1
  have g58 : fI h 58 (A 40) = nI (us S) := hM.2.1.2.2.1
  intro P17 P45 P76 P202 P85 P281 P269 P187 P396 P290 P460 P310 P542 P369 q17 q45 q76 q202 q85 q281 q269 q187 q396 q290 q460 q310 q542 q369
  refine ⟨hM.1.1, ?_⟩
  rw [g67, g58]
  generalize pI h 67 (A 40) (cn S 3 + 1) = h0 at M0 F0 z0
  have colF := colA_facts hW sf
  -- (7) freeing
  have stage7 : ∀ h' : Hp, MJ g h' A (colA S sf) → FM A h h' → fI h' 40 (A 40) = fI h 40 (A 40) → (∀ a ∈ ob S, aI h' (A 53) (num g a) = if a ∈ rls S sf then 1 else 0) → P460 (nI (us S)) 1 h' := by
    intro h' M' F' z' hre
    obtain ⟨c1, c2, c3, c4, c5, c6⟩ := colF
    have eob : ob (colA S sf) = ob S := c2.1
    obtain ⟨m1, m2, m3, m4, m5⟩ := id M'
    have hsub : ∀ a ∈ rls S sf, a ∈ ob (colA S sf) := fun a ha => by rw [eob]; exact (mem_rls.mp ha).1
    refine m_free (Q := Q) (g := g) (h := h') (S := colA S sf) (R := rls S sf) c1 m4 hsub (fun a ha k b hb => ?_) q460 q542 (fun h'' L fl FI_ F'' z'' => ?_) (nb g - 1) 1 h' (ob S) (fl_ g) (by omega) (Nat.le_refl _) ⟨m1, ?_, m3, hW.1, fun a => ?_, by rw [eob]; exact hre, ⟨m4.2.2.2.2.1, m4.2.2.2.2.2.1, m4.2.2.2.2.2.2.1, ?_⟩, fun a ha => m5 a (hsub a ha), fun a ha => (m5 a (by rw [eob]; exact ha)).1⟩ FM.rfl' rfl
    · have k' : kd S a = 3 := by have : fI (colA S sf).1 0 a = 3 := k; rw [c2.2.1] at this; exact this
      rcases c6 a b hb with z | z
      · exact mem_rls.mpr ⟨(((hW.2.1 a (mem_rls.mp ha).1).2.2.2.2.2.2.2.2 k').2.1 b z).1, rc.2.2.1 a (mem_rls.mp ha).2 k' b z⟩
      · exact mem_rls.mpr ⟨(mem_gls.mp z).1, (mem_gls.mp z).2.2.1⟩
    · obtain ⟨f1, ⟨a1, a2, a3, a4, a5, a6, a7, a8, a9, a10, a11, a12, a13, a14, a15, a16⟩, f3, f4, f5, f6, ⟨f7a, f7b, f7c, f7d⟩, f8, f9⟩ := FI_
      have hLm : ∀ a, a ∈ L ↔ a ∈ rls S sf := fun a => by
        rw [f5 a]
        constructor
        · rintro ⟨x1, x2⟩
          rcases x2 with z | z
          · exact z
          · have := (m4.1 a x1).2; omega
        · intro z; exact ⟨hsub a z, Or.inl z⟩
      -- L is the kept list up to order: sums and lengths
      have hperm : (L.map (cl (colA S sf))).sum = ((rls S sf).map (cl (colA S sf))).sum ∧ L.length = (rls S sf).length := by
        have hnd : (rls S sf).Nodup := by unfold rls; exact List.Pairwise.filter _ hW.1
        have key : ∀ (l m : List Nat), l.Nodup → m.Nodup → (∀ a, a ∈ l ↔ a ∈ m) → (l.map (cl (colA S sf))).sum = (m.map (cl (colA S sf))).sum ∧ l.length = m.length := by
          intro l
          induction l with
          | nil =>
            intro m _ _ hm
            cases m with
            | nil => exact ⟨rfl, rfl⟩
            | cons b m => have := (hm b).mpr List.mem_cons_self; cases this
          | cons b l ihl =>
            intro m hl hm hmm
            have hl' := List.nodup_cons.mp hl
            have hbm := (hmm b).mp List.mem_cons_self
            obtain ⟨s1, s2⟩ := sum_del (cl (colA S sf)) hm hbm
            obtain ⟨i1, i2⟩ := ihl (m.filter (fun x => decide (x ≠ b))) hl'.2 (List.Pairwise.filter _ hm) (fun a => by
              rw [List.mem_filter]; simp only [decide_eq_true_eq]
              constructor
              · intro z; exact ⟨(hmm a).mp (List.mem_cons_of_mem _ z), fun e => hl'.1 (by rw [← e]; exact z)⟩
              · rintro ⟨x1, x2⟩
                rcases List.mem_cons.mp ((hmm a).mpr x1) with e | e
                · exact absurd e x2
                · exact e)
            simp only [List.map_cons, List.sum_cons, List.length_cons]
            omega
        exact key L (rls S sf) f4 hnd hLm
      have eus : us (coll S sf) = (L.map (cl (colA S sf))).sum := hperm.1.symm
      rw [← eus]
      have ecn : ∀ j, j ≠ 0 → j ≠ 1 → cn (coll S sf) j = cn (colA S sf) j := fun j q0 q1 => by
        show up1 (up1 (cn (colA S sf)) 1 (nI (rls S sf).length)) 0 (nI (us (wO (colA S sf) (rls S sf)))) j = _
        rw [up1_ne q0, up1_ne q1]
      refine h1 (num g, fl, at_ g, rk g, nb g, tp g, rK g) h'' ⟨f1, ⟨a1, a2, by rw [eus]; exact a3, a4, a5, a6, a7, by rw [a8, hperm.2]; rfl, ?_, ?_, ?_, ?_, ?_, ?_, ?_, a16⟩, f3, ⟨fun a ha => m4.1 a (hsub a ha), fun a ha b hb => m4.2.1 a (hsub a ha) b (hsub b hb), m4.2.2.1, m4.2.2.2.1, f7a, f7b, f7c, fun x hx1 hx2 => ?_, m4.2.2.2.2.2.2.2.2.1, fun a ha => m4.2.2.2.2.2.2.2.2.2.1 a (hsub a ha), fun a ha b hb => m4.2.2.2.2.2.2.2.2.2.2.1 a (hsub a ha) b (hsub b hb), ?_, fun a ha => m4.2.2.2.2.2.2.2.2.2.2.2.2 a (hsub a ha)⟩, fun a ha => f8 a ha⟩ rfl rfl (F'.trans F'') (z''.trans z')
      · rw [ecn 2 (by decide) (by decide)]; exact a9
      · rw [ecn 3 (by decide) (by decide)]; exact a10
      · rw [ecn 4 (by decide) (by decide)]; exact a11
      · rw [ecn 5 (by decide) (by decide)]; exact a12
      · rw [ecn 6 (by decide) (by decide)]; exact a13
      · rw [ecn 8 (by decide) (by decide)]; exact a14
      · rw [ecn 9 (by decide) (by decide)]; exact a15
      · rcases f7d x hx1 hx2 with z | ⟨a, ha, e⟩
        · exact Or.inl z
        · exact Or.inr ⟨a, (hLm a).mp ha, e⟩
      · have := m4.2.2.2.2.2.2.2.2.2.2.2.1
        show (rls S sf).Pairwise _
        rw [eob] at this
        unfold rls
        exact List.Pairwise.filter _ this
    · obtain ⟨a1, a2, a3, a4, a5, a6, a7, a8, a9⟩ := m2
      refine ⟨a1, a2, ?_, a4, a5, a6, a7, by rw [a8, eob], a9⟩
      rw [a3]; unfold us; rw [eob]
    · rw [eob]
      exact ⟨fun z => ⟨z, Or.inr (M'.nm (by rw [eob]; exact z)).1⟩, fun z => z.1⟩
    · have := m4.2.2.2.2.2.2.2.1
      rw [eob] at this; exact this
  -- (6) letting go
  have stage6 : ∀ (n : Nat) (f : Nat → Nat), (List.range n).map f = (gls S sf).map (num g) → ∀ (m z : List Nat) (Sz : St) (h' : Hp), z ++ m = gls S sf → stS (wC S 3 (cn S 3 + 1)) Sz → WF Sz → m.foldl lgo Sz = colA S sf → MJ g h' A Sz → FM A h h' → fI h' 40 (A 40) = fI h 40 (A 40) → (∀ a ∈ ob S, aI h' (A 53) (num g a) = if a ∈ rls S sf then 1 else 0) → (∀ i < n, aI h' (A 54) i = nI (f i)) → P396 (nI (us S)) (nI n) (nI z.length) h' := by
    intro n f hf m
    have hnlen : n = (gls S sf).length := by have := congrArg List.length hf; simpa using this
    have hgl : (gls S sf).length ≤ 15000 := by
      have : (gls S sf).length ≤ (ob S).length := by unfold gls; exact List.length_filter_le _ _
      omega
    induction m with
    | nil =>
      intro z Sz h' hz hs hWz hfold M' F' z' hre htd
      have : z.length = n := by rw [hnlen, ← hz]; simp
      rw [this]
      refine q396 _ _ _ _ ⟨fun _ => ?_, fun q => absurd ((nI_le' (by omega) (by omega)).mpr (Nat.le_refl _)) q⟩
      have e : Sz = colA S sf := hfold
      rw [e] at M'
      exact stage7 h' M' F' z' hre
    | cons a m ih =>
      intro z Sz h' hz hs hWz hfold M' F' z' hre htd
      have hzn : z.length < n := by rw [hnlen, ← hz]; simp
      have hag : a ∈ gls S sf := by rw [← hz]; simp
      have hao : a ∈ ob S := (mem_gls.mp hag).1
      have haz : a ∈ ob Sz := by rw [hs.1]; exact hao
      have ek : kd Sz a = kd S a := by show fI Sz.1 0 a = _; rw [hs.2.1]; rfl
      have hl : ls (kd Sz a) := by rw [ek]; exact (mem_gls.mp hag).2.1
      have hfz : f z.length = num g a := by
        have e1 : ((List.range n).map f)[z.length]? = some (f z.length) := by simp [hzn]
        rw [hf, ← hz] at e1
        simp at e1
        exact e1.symm
      have M1 := M'.setCnt (k := 69) (j := 5) (x := cn Sz 5 + 1) (Or.inr (Or.inl ⟨rfl, rfl⟩))
      have M2 : MJ g (qI (qI (pI h' 69 (A 40) (cn Sz 5 + 1)) (A 48) (num g a) 0) (A 49) (num g a) 0) A (wC (frg Sz a) 5 (cn Sz 5 + 1)) := M1.frg_ (S := wC Sz 5 (cn Sz 5 + 1)) haz hl
      have F2 : FM A h (qI (qI (pI h' 69 (A 40) (cn Sz 5 + 1)) (A 48) (num g a) 0) (A 49) (num g a) 0) := ((F'.pI (by decide)).qI k48).qI k49
      have z2 : fI (qI (qI (pI h' 69 (A 40) (cn Sz 5 + 1)) (A 48) (num g a) 0) (A 49) (num g a) 0) 40 (A 40) = fI h 40 (A 40) := by rw [fI_qI, fI_qI, fIx _ _ _ _ _ (by decide)]; exact z'
      have W2 : WF (wC (frg Sz a) 5 (cn Sz 5 + 1)) := (WFfrg hWz a).setC _ (by decide) (by decide) (by decide)
      have td : aI h' (A 54) z.length = nI (num g a) := by rw [htd _ hzn, hfz]
      have g69 : fI h' 69 (A 40) = cn Sz 5 := M'.2.1.2.2.2.2.2.2.2.2.2.2.2.1
      have vz : vp_in (nI z.length) (ln h' (A 54)) := M'.1.v k54 (by show z.length < 15100; omega)
      refine q396 _ _ _ _ ⟨fun q => ?_, fun _ => ⟨M'.1.1, A 54, M'.1.r k54, M'.1.t k54 rfl, vz, A 48, M'.1.r k48, M'.1.t k48 rfl, ?_⟩⟩
      · have := (nI_le' (by omega) (by omega)).mp q; omega
      · have r54a : aI (qI (pI h' 69 (A 40) (cn Sz 5 + 1)) (A 48) (num g a) 0) (A 54) z.length = nI (num g a) := by rw [aIx _ _ _ _ _ (M'.1.ne k54 k48 (by decide)), aI_pI]; exact td
        have r54b : aI (qI (qI (pI h' 69 (A 40) (cn Sz 5 + 1)) (A 48) (num g a) 0) (A 49) (num g a) 0) (A 54) z.length = nI (num g a) := by rw [aIx _ _ _ _ _ (M'.1.ne k54 k49 (by decide))]; exact r54a
        rw [nI_clamp (show z.length < 2 ^ 31 by omega), td, g69, M'.clamp haz, r54a, M'.clamp haz]
        refine ⟨M'.ix haz k48 (by decide), vz, A 49, M'.1.r k49, M'.1.t k49 rfl, ?_⟩
        rw [r54b]
        refine ⟨M'.ix haz k49 (by decide), vz, m_comes M2 W2 F2 z2 haz hl (fun h3 M3 F3 z3 hsc => ?_)⟩
        show P396 (nI (us S)) (nI n) (nI z.length + 1) h3
        rw [nI_1]
        have e53 : aI h3 (A 53) = aI h' (A 53) := by rw [hsc.1, aIx _ _ _ _ _ (M'.1.ne k53 k49 (by decide)), aIx _ _ _ _ _ (M'.1.ne k53 k48 (by decide)), aI_pI]
        have e54 : aI h3 (A 54) = aI h' (A 54) := by rw [hsc.2, aIx _ _ _ _ _ (M'.1.ne k54 k49 (by decide)), aIx _ _ _ _ _ (M'.1.ne k54 k48 (by decide)), aI_pI]
        have := ih (z ++ [a]) (lgo Sz a) h3 (by simp [← hz]) (hs.trans (stS_lgo Sz a)) (WFlgo hWz haz hl) hfold M3 F3 z3 (by rw [e53]; exact hre) (by rw [e54]; exact htd)
        simpa using this
  -- (5) sorting
  have hRob : ∀ a, a ∈ rls S sf ↔ Rch S sf a := fun a => ⟨fun z => (mem_rls.mp z).2, fun z => mem_rls.mpr ⟨Rch_ob hW z, z⟩⟩
  have hls : ∀ a ∈ gls S sf, a ∈ ob S ∧ ls (kd S a) := fun a ha => ⟨(mem_gls.mp ha).1, (mem_gls.mp ha).2.1⟩
  have stage5 : ∀ (n : Nat) (f : Nat → Nat) (h' : Hp), MJ g h' A (wC S 3 (cn S 3 + 1)) → FM A h h' → fI h' 40 (A 40) = fI h 40 (A 40) → (∀ a ∈ ob S, aI h' (A 53) (num g a) = if a ∈ rls S sf then 1 else 0) → n < 15001 → (∀ i < n, aI h' (A 54) i = nI (f i)) → (∀ i < n, ∃ a ∈ gls S sf, f i = num g a) → (∀ a ∈ gls S sf, ∃ i < n, f i = num g a) → (∀ i j, i < n → j < n → f i = f j → i = j) → P281 (nI (us S)) (nI n) (nI (n / 2)) h' := by
    intro n f0 h' M' F' z' hre hn htd hc1 hc2 hinj
    have hrk : ∀ a ∈ gls S sf, rk g a < rK g := fun a ha => M'.2.2.2.1.2.2.2.2.2.2.2.2.2.2.2.2 a (hls a ha).1 (hls a ha).2
    have hkey : ∀ a ∈ gls S sf, aI h' (A 51) (num g a) = nI (rk g a) := fun a ha => ((M'.2.2.2.2 a (hls a ha).1).2.1 (hls a ha).2).2.2.2.2
    have hkN : ∀ a ∈ gls S sf, (aI h' (A 51) (num g a)).toNatClampNeg = rk g a := fun a ha => by rw [hkey a ha]; exact nI_clamp (by have := hrk a ha; omega)
    have key51 : ∀ m < n, aI h' (A 51) (f0 m) = nI ((aI h' (A 51) (f0 m)).toNatClampNeg) ∧ (aI h' (A 51) (f0 m)).toNatClampNeg < 2 ^ 31 ∧ f0 m < 15001 := fun m hm => by
      obtain ⟨a, ha, e⟩ := hc1 m hm
      rw [e, hkN a ha, hkey a ha]
      exact ⟨rfl, by have := hrk a ha; omega, (M'.nm (hls a ha).1).2⟩
    refine shell (n := n) (key := fun x => (aI h' (A 51) x).toNatClampNeg) (I := fun h2 f => MJ g h2 A (wC S 3 (cn S 3 + 1)) ∧ FM A h h2 ∧ fI h2 40 (A 40) = fI h 40 (A 40) ∧ (∀ a ∈ ob S, aI h2 (A 53) (num g a) = if a ∈ rls S sf then 1 else 0) ∧ aI h2 (A 51) = aI h' (A 51) ∧ ∀ i < n, aI h2 (A 54) i = nI (f i))
      (PG := fun gap h2 => P281 (nI (us S)) (nI n) (nI gap) h2) (PL := fun gap i h2 => P290 (nI (us S)) (nI n) (nI gap) (nI i) h2) (PW := fun gap i o j h2 => P310 (nI (us S)) (nI n) (nI gap) (nI i) (nI o) (nI j) h2) (f0 := f0) ?_ ?_ ?_ ?_ ?_ ?_ h' f0 ⟨M', F', z', hre, rfl, htd⟩ ⟨fun i hi => ⟨i, hi, rfl⟩, fun i hi => ⟨i, hi, rfl⟩, hinj⟩
    · rintro h2 f ⟨M2, F2, z2, r2, e51, t2⟩ hP hs
      refine q281 _ _ _ _ ⟨fun _ => ?_, fun q => absurd (by decide) q⟩
      refine stage6 n f ?_ (gls S sf) [] (wC S 3 (cn S 3 + 1)) h2 (by simp) stS.rfl' W0 rfl M2 F2 z2 r2 t2
      refine sorted_unique (key := fun x => (aI h' (A 51) x).toNatClampNeg) ?_ ?_ (fun x => ?_)
      · rw [List.pairwise_map]
        refine List.Pairwise.imp_of_mem (R := fun a b => a < b) (fun {a b} ha hb hab => ?_) (List.pairwise_lt_range)
        have ha := List.mem_range.mp ha; have hb := List.mem_range.mp hb
        have hle := hs a b hab hb
        obtain ⟨ja, hja, ea⟩ := hP.1 a ha
        obtain ⟨jb, hjb, eb⟩ := hP.1 b hb
        obtain ⟨x, hx, ex⟩ := hc1 ja hja
        obtain ⟨y, hy, ey⟩ := hc1 jb hjb
        have hne : f a ≠ f b := fun e => by have := hP.2.2 a b ha hb e; omega
        have hxy : x ≠ y := fun e => hne (by rw [ea, ex, eb, ey, e])
        have hr : rk g x ≠ rk g y := by
          have pw := M'.2.2.2.1.2.2.2.2.2.2.2.2.2.2.2.1
          intro e
          have : ∀ (L : List Nat), L.Pairwise (fun a b => ls (kd S a) → ls (kd S b) → rk g a < rk g b) → ∀ u ∈ L, ∀ v ∈ L, u ≠ v → ls (kd S u) → ls (kd S v) → rk g u ≠ rk g v := by
            intro L
            induction L with
            | nil => intro _ u hu; cases hu
            | cons w L ihL =>
              intro hp u hu v hv huv ku kv
              have hp' := List.pairwise_cons.mp hp
              rcases List.mem_cons.mp hu with z1 | z1
              · rcases List.mem_cons.mp hv with z2 | z2
                · exact absurd (z1.trans z2.symm) huv
                · subst z1; have := hp'.1 v z2 ku kv; omega
              · rcases List.mem_cons.mp hv with z2 | z2
                · subst z2; have := hp'.1 u z1 kv ku; omega
                · exact ihL hp'.2 u z1 v z2 huv ku kv
          exact this (ob S) pw x (hls x hx).1 y (hls y hy).1 hxy (hls x hx).2 (hls y hy).2 e
        have ka : (aI h' (A 51) (f a)).toNatClampNeg = rk g x := by rw [ea, ex]; exact hkN x hx
        have kb : (aI h' (A 51) (f b)).toNatClampNeg = rk g y := by rw [eb, ey]; exact hkN y hy
        show (aI h' (A 51) (f a)).toNatClampNeg < (aI h' (A 51) (f b)).toNatClampNeg
        have hle : (aI h' (A 51) (f a)).toNatClampNeg ≤ (aI h' (A 51) (f b)).toNatClampNeg := hle
        rw [ka, kb] at hle ⊢
        omega
      · rw [List.pairwise_map]
        have pw := M'.2.2.2.1.2.2.2.2.2.2.2.2.2.2.2.1
        have pg : (gls S sf).Pairwise (fun a b => ls (kd S a) → ls (kd S b) → rk g a < rk g b) := by unfold gls; exact List.Pairwise.filter _ pw
        refine List.Pairwise.imp_of_mem (fun {a b} ha hb hab => ?_) pg
        show (aI h' (A 51) (num g a)).toNatClampNeg < (aI h' (A 51) (num g b)).toNatClampNeg
        rw [hkN a ha, hkN b hb]
        exact hab (hls a ha).2 (hls b hb).2
      · rw [List.mem_map, List.mem_map]
        constructor
        · rintro ⟨i, hi, rfl⟩
          obtain ⟨j, hj, e⟩ := hP.1 i (List.mem_range.mp hi)
          obtain ⟨a, ha, e2⟩ := hc1 j hj
          exact ⟨a, ha, by rw [e, e2]⟩
        · rintro ⟨a, ha, rfl⟩
          obtain ⟨j, hj, e⟩ := hc2 a ha
          obtain ⟨i, hi, e2⟩ := hP.2.1 j hj
          exact ⟨i, List.mem_range.mpr hi, by rw [e2, e]⟩
    · rintro gap h2 f g0 gn ⟨M2, F2, z2, r2, e51, t2⟩ hL
      exact q281 _ _ _ _ ⟨fun q => absurd q (nI_nle g0 (by omega)), fun _ => hL⟩
    · rintro gap h2 f g0 gn ⟨M2, F2, z2, r2, e51, t2⟩ hG
      refine q290 _ _ _ _ _ ⟨fun _ => ?_, fun q => absurd ((nI_le' (by omega) (by omega)).mpr (Nat.le_refl _)) q⟩
      rw [nI_half (by omega)]; exact hG
    · rintro gap i h2 f g0 gi hin ⟨M2, F2, z2, r2, e51, t2⟩ hWk
      refine q290 _ _ _ _ _ ⟨fun q => ?_, fun _ => ⟨M2.1.1, A 54, M2.1.r k54, M2.1.t k54 rfl, M2.1.v k54 (by show i < 15100; omega), ?_⟩⟩
      · have := (nI_le' (by omega) (by omega)).mp q; omega
      · rw [nI_clamp (by omega), t2 i hin]; exact hWk
    · rintro gap i o j h2 f g0 gn hji hin ⟨M2, F2, z2, r2, e51, t2⟩ ⟨m, hm, eo⟩ hv hcase hnx
      have store : P369 (nI (us S)) (nI n) (nI gap) (nI i) (nI o) (nI j) h2 := by
        refine q369 _ _ _ _ _ _ _ ⟨M2.1.1, A 54, M2.1.r k54, M2.1.t k54 rfl, M2.1.v k54 (by show j < 15100; omega), ?_⟩
        rw [nI_clamp (by omega), nI_1]
        have sfx : SF A h2 (qI h2 (A 54) j (nI o)) := ⟨rfl, rfl, rfl, rfl, rfl, fun _ _ => rfl, fun x _ q => aIx _ _ _ _ _ q⟩
        refine hnx _ ⟨M2.sf sfx, F2.qI k54, z2, ?_, ?_, fun x hx => ?_⟩
        · rw [aIx _ _ _ _ _ (M2.1.ne k53 k54 (by decide))]; exact r2
        · rw [aIx _ _ _ _ _ (M2.1.ne k51 k54 (by decide))]; exact e51
        · rw [aI_qI]; unfold up1
          by_cases e : x = j
          · simp [e]
          · simp [e]; exact t2 x hx
      refine q310 _ _ _ _ _ _ _ ⟨fun _ => store, fun q => ?_⟩
      have hgj : gap ≤ j := Nat.not_lt.mp fun z => q ((nI_lt' (by omega) (by omega)).mpr z)
      obtain ⟨m', hm', e'⟩ := hv (j - gap) (by omega)
      obtain ⟨k1, k2, k3⟩ := key51 m' hm'
      obtain ⟨k4, k5, k6⟩ := key51 m hm
      refine ⟨M2.1.1, A 54, M2.1.r k54, M2.1.t k54 rfl, ?_⟩
      rw [nI_sub hgj, nI_clamp (show j - gap < 2 ^ 31 by omega), t2 (j - gap) (by omega), nI_clamp (show f (j - gap) < 2 ^ 31 by rw [e']; omega), nI_clamp (show o < 2 ^ 31 by rw [eo]; omega)]
      refine ⟨M2.1.v k54 (by show j - gap < 15100; omega), A 51, M2.1.r k51, M2.1.t k51 rfl, M2.1.v k51 (by show f (j - gap) < 15100; rw [e']; omega), M2.1.v k51 (by show o < 15100; rw [eo]; omega), fun _ => store, fun q2 => ?_⟩
      exfalso
      rcases hcase with z | ⟨-, z⟩
      · omega
      · refine q2 ?_
        rw [e51, e', eo, k1, k4]
        rw [e', eo] at z
        exact (nI_le' k2 k5).mpr z
    · rintro gap i o j h2 f g0 hgj hji hin ⟨M2, F2, z2, r2, e51, t2⟩ ⟨m, hm, eo⟩ hv hgt hnx
      obtain ⟨m', hm', e'⟩ := hv (j - gap) (by omega)
      obtain ⟨k1, k2, k3⟩ := key51 m' hm'
      obtain ⟨k4, k5, k6⟩ := key51 m hm
      refine q310 _ _ _ _ _ _ _ ⟨fun q => ?_, fun q => ?_⟩
      · have := (nI_lt' (by omega) (by omega)).mp q; omega
      · refine ⟨M2.1.1, A 54, M2.1.r k54, M2.1.t k54 rfl, ?_⟩
        rw [nI_sub hgj, nI_clamp (show j - gap < 2 ^ 31 by omega), t2 (j - gap) (by omega), nI_clamp (show f (j - gap) < 2 ^ 31 by rw [e']; omega), nI_clamp (show o < 2 ^ 31 by rw [eo]; omega), nI_clamp (show j < 2 ^ 31 by omega)]
        have vj : vp_in (nI (j - gap)) (ln h2 (A 54)) := M2.1.v k54 (by show j - gap < 15100; omega)
        refine ⟨vj, A 51, M2.1.r k51, M2.1.t k51 rfl, M2.1.v k51 (by show f (j - gap) < 15100; rw [e']; omega), M2.1.v k51 (by show o < 15100; rw [eo]; omega), fun q2 => ?_, fun _ => ⟨vj, M2.1.v k54 (by show j < 15100; omega), ?_⟩⟩
        · exfalso
          refine hgt ?_
          rw [e51, e', eo, k1, k4] at q2
          rw [e', eo]
          exact (nI_le' k2 k5).mp q2
        · have sfx : SF A h2 (qI h2 (A 54) j (nI (f (j - gap)))) := ⟨rfl, rfl, rfl, rfl, rfl, fun _ _ => rfl, fun x _ q => aIx _ _ _ _ _ q⟩
          refine hnx _ ⟨M2.sf sfx, F2.qI k54, z2, ?_, ?_, fun x hx => ?_⟩
          · rw [aIx _ _ _ _ _ (M2.1.ne k53 k54 (by decide))]; exact r2
          · rw [aIx _ _ _ _ _ (M2.1.ne k51 k54 (by decide))]; exact e51
          · rw [aI_qI]; unfold up1
            by_cases e : x = j
            · simp [e]
            · simp [e]; exact t2 x hx
  -- (4) those that are let go
  have stage4 : ∀ (d o n : Nat) (f : Nat → Nat) (h' : Hp), d + o = nb g → 1 ≤ o → n < o → MJ g h' A (wC S 3 (cn S 3 + 1)) → FM A h h' → fI h' 40 (A 40) = fI h 40 (A 40) → (∀ a ∈ ob S, aI h' (A 53) (num g a) = if a ∈ rls S sf then 1 else 0) → (∀ i < n, aI h' (A 54) i = nI (f i)) → (∀ i < n, f i < o ∧ ∃ a ∈ gls S sf, f i = num g a) → (∀ a ∈ gls S sf, num g a < o → ∃ i < n, f i = num g a) → (∀ i j, i < n → j < n → f i = f j → i = j) → P202 (nI (us S)) (nI n) (nI o) h' := by
    intro d
    induction d with
    | zero =>
      intro o n f h' hd ho hno M' F' z' hre htd hc1 hc2 hinj
      have : o = nb g := by omega
      subst this
      have g59 : fI h' 59 (A 40) = nI (nb g) := M'.2.1.2.2.2.1
      refine q202 _ _ _ _ ⟨M'.1.1, fun _ => ?_, fun q => ?_⟩
      · rw [nI_half (by omega)]
        exact stage5 n f h' M' F' z' hre (by omega) htd (fun i hi => (hc1 i hi).2) (fun a ha => hc2 a ha (M'.2.2.2.1.1 a (hls a ha).1).2) hinj
      · rw [g59] at q; exact absurd ((nI_le' (by omega) (by omega)).mpr (Nat.le_refl _)) q
    | succ d ih =>
      intro o n f h' hd ho hno M' F' z' hre htd hc1 hc2 hinj
      have g59 : fI h' 59 (A 40) = nI (nb g) := M'.2.1.2.2.2.1
      have co : (nI o).toNatClampNeg = o := nI_clamp (by omega)
      have hon : o < nb g := by omega
      have skip : (∀ a ∈ gls S sf, num g a ≠ o) → P269 (nI (us S)) (nI n) (nI o) h' := fun hs => by
        refine q269 _ _ _ _ ?_
        rw [nI_1]
        exact ih (o + 1) n f h' (by omega) (by omega) (by omega) M' F' z' hre htd (fun i hi => ⟨by have := (hc1 i hi).1; omega, (hc1 i hi).2⟩) (fun a ha hlt => hc2 a ha (by have := hs a ha; omega)) hinj
      refine q202 _ _ _ _ ⟨M'.1.1, fun q => ?_, fun _ => ⟨A 42, M'.1.r k42, M'.1.t k42 rfl, M'.vn hon k42 (by decide), ?_⟩⟩
      · rw [g59] at q; have := (nI_le' (by omega) (by omega)).mp q; omega
      · rw [co]
        rcases M'.who ho hon with ⟨x1, x2, x3⟩ | ⟨a, ha, x1, x2⟩
        · rw [x2]
          exact ⟨fun _ => skip fun a ha e => x3 a (hls a ha).1 e, fun q => absurd (by decide) q⟩
        · rw [x2]
          have ha : a ∈ ob S := ha
          have wa := hW.2.1 a ha
          have uniq : ∀ b ∈ ob S, num g b = o → b = a := fun b hb e => M'.2.2.2.1.2.1 b hb a ha (e.trans x1.symm)
          have nogl : a ∉ gls S sf → P269 (nI (us S)) (nI n) (nI o) h' := fun z => skip fun b hb e => z (by rw [← uniq b (hls b hb).1 e]; exact hb)
          show (kd S a < 4 → _) ∧ (¬ kd S a < 4 → _)
          refine ⟨fun q => nogl fun z => (lt4_ls wa.1).mpr (hls a z).2 q, fun q => ?_⟩
          have kl : ls (kd S a) := (lt4_ls wa.1).mp q
          have o1 := ((M'.2.2.2.2 a ha).2.1 kl).1
          have o1 : aI h' (A 48) (num g a) = enc g (re S a) := o1
          refine ⟨A 53, M'.1.r k53, M'.1.t k53 rfl, M'.vn hon k53 (by decide), ?_⟩
          rw [← x1, hre a ha]
          by_cases hr : a ∈ rls S sf
          · rw [if_pos hr]
            refine ⟨fun z => absurd z (by decide), fun _ => ⟨A 48, M'.1.r k48, M'.1.t k48 rfl, M'.ix ha k48 (by decide), ?_⟩⟩
            rw [o1]
            have hob : ∀ r, re S a = some r → r ∈ ob S := (wa.2.2.2.2.2.2.2.1 kl).1
            refine ⟨fun z => ?_, fun z => ⟨M'.ix ha k48 (by decide), ?_⟩⟩
            · have := (M'.encz hob).mp z
              rw [x1]
              exact nogl fun y => by obtain ⟨-, -, -, r, hr2, -⟩ := mem_gls.mp y; rw [this] at hr2; cases hr2
            · cases hre2 : re S a with
              | none => rw [hre2] at z; exact absurd rfl z
              | some r =>
                have hro := hob r hre2
                refine ⟨M'.ix hro k53 (by decide), ?_⟩
                show (¬ aI h' (A 53) ((nI (num g r)).toNatClampNeg) = 0 → _) ∧ (aI h' (A 53) ((nI (num g r)).toNatClampNeg) = 0 → _)
                rw [M'.clamp hro, hre r hro]
                by_cases hrr : r ∈ rls S sf
                · rw [if_pos hrr]
                  refine ⟨fun _ => ?_, fun y => absurd y (by decide)⟩
                  rw [x1]
                  exact nogl fun y => by obtain ⟨-, -, -, r', hr2, hn⟩ := mem_gls.mp y; rw [hre2] at hr2; cases hr2; exact hn ((hRob r).mp hrr)
                · rw [if_neg hrr]
                  refine ⟨fun y => absurd rfl y, fun _ => ⟨A 54, M'.1.r k54, M'.1.t k54 rfl, M'.1.v k54 (by show n < 15100; omega), ?_⟩⟩
                  have hag : a ∈ gls S sf := mem_gls.mpr ⟨ha, kl, (hRob a).mp hr, r, hre2, fun y => hrr ((hRob r).mpr y)⟩
                  rw [nI_clamp (show n < 2 ^ 31 by omega), nI_1, x1]
                  refine q269 _ _ _ _ ?_
                  rw [nI_1]
                  have sfx : SF A h' (qI h' (A 54) n (nI o)) := ⟨rfl, rfl, rfl, rfl, rfl, fun _ _ => rfl, fun x _ q => aIx _ _ _ _ _ q⟩
                  refine ih (o + 1) (n + 1) (up1 f n o) _ (by omega) (by omega) (by omega) (M'.sf sfx) (F'.qI k54) z' ?_ (fun i hi => ?_) (fun i hi => ?_) (fun b hb hlt => ?_) (fun i j hi hj e => ?_)
                  · rw [aIx _ _ _ _ _ (M'.1.ne k53 k54 (by decide))]; exact hre
                  · rw [aI_qI]; unfold up1
                    by_cases e : i = n
                    · simp [e]
                    · simp [e]; exact htd i (by omega)
                  · unfold up1
                    by_cases e : i = n
                    · rw [if_pos e]; exact ⟨by omega, a, hag, x1.symm⟩
                    · rw [if_neg e]; have := hc1 i (by omega); exact ⟨by omega, this.2⟩
                  · by_cases e : num g b = o
                    · exact ⟨n, by omega, by rw [up1_same]; exact e.symm⟩
                    · obtain ⟨i, hi, e2⟩ := hc2 b hb (by omega)
                      exact ⟨i, by omega, by rw [up1_ne (by omega)]; exact e2⟩
                  · unfold up1 at e
                    by_cases e1 : i = n
                    · by_cases e2 : j = n
                      · rw [e1, e2]
                      · rw [if_pos e1, if_neg e2] at e
                        have := (hc1 j (by omega)).1; omega
                    · by_cases e2 : j = n
                      · rw [if_neg e1, if_pos e2] at e
                        have := (hc1 i (by omega)).1; omega
                      · rw [if_neg e1, if_neg e2] at e
                        exact hinj i j (by omega) (by omega) e
          · rw [if_neg hr]
            refine ⟨fun _ => ?_, fun z => absurd rfl z⟩
            rw [x1]
            exact nogl fun z => hr ((hRob a).mpr (mem_gls.mp z).2.2.1)
  -- (3) pairs
  have stage3 : ∀ (d : Nat) (h' : Hp) (l : List Nat), (ob S).length - l.length ≤ d → MJ g h' A (wC S 3 (cn S 3 + 1)) → RS g h' A (wC S 3 (cn S 3 + 1)) l [] → FM A h h' → fI h' 40 (A 40) = fI h 40 (A 40) → (∀ a ∈ l, SuM S sf l a) → (∀ b ∈ l, Rch S sf b) → (∀ i < nt S, ∀ b, rt S i = some b → b ∈ l) → P76 (nI (us S)) 1 h' := by
    intro d
    induction d using Nat.strongRecOn with
    | _ d ihd =>
    intro h' l0 hd0 M0' R0 F0' z0' hs0 hr0 hroot0
    refine q76 _ _ _ ⟨fun q => absurd q (by decide), fun _ => ?_⟩
    have pass : ∀ (e o : Nat) (y3 : Int32) (h' : Hp) (l : List Nat), e + o = nb g → 1 ≤ o → MJ g h' A (wC S 3 (cn S 3 + 1)) → RS g h' A (wC S 3 (cn S 3 + 1)) l [] → FM A h h' → fI h' 40 (A 40) = fI h 40 (A 40) → (∀ a ∈ l, SuM S sf l a) → (∀ b ∈ l, Rch S sf b) → pre l0 l → ((y3 = 0 ∧ ∀ a ∈ ob S, num g a < o → POk S l a) ∨ (y3 = 1 ∧ l0.length < l.length)) → P85 (nI (us S)) y3 (nI o) h' := by
      intro e
      induction e with
      | zero =>
        intro o y3 h' l he ho M' R' F' z' hs hr hp hy
        have : o = nb g := by omega
        subst this
        have g59 : fI h' 59 (A 40) = nI (nb g) := M'.2.1.2.2.2.1
        refine q85 _ _ _ _ ⟨M'.1.1, fun _ => ?_, fun q => ?_⟩
        · have hll := nodup_len R'.2.2.2.1 R'.2.2.2.2.1
          have hll : l.length ≤ (ob S).length := hll
          rcases hy with ⟨rfl, hy⟩ | ⟨rfl, hy⟩
          · refine q76 _ _ _ ⟨fun _ => ?_, fun q => absurd rfl q⟩
            have hfull := l_Rch (S := S) (sf := sf) (fun i hi b hb => hp.mem (hroot0 i hi b hb)) hs (fun a ha => hy a (R'.2.2.2.2.1 a ha) (M'.2.2.2.1.1 a (R'.2.2.2.2.1 a ha)).2) hr
            refine stage4 (nb g - 1) 1 0 (fun _ => 0) h' (by omega) (Nat.le_refl _) (by omega) M' F' z' (fun a ha => ?_) (fun i hi => by omega) (fun i hi => by omega) (fun a ha hlt => ?_) (fun i j hi => by omega)
            · rw [R'.2.1 a ha]
              by_cases q : a ∈ l
              · rw [if_pos q, if_pos ((hRob a).mpr ((hfull a).mp q))]
              · rw [if_neg q, if_neg (fun z => q ((hfull a).mpr ((hRob a).mp z)))]
            · have := (M'.nm (hls a ha).1).1; omega
          · exact ihd ((ob S).length - l.length) (by omega) h' l (Nat.le_refl _) M' R' F' z' hs hr (fun i hi b hb => hp.mem (hroot0 i hi b hb))
        · rw [g59] at q; exact absurd ((nI_le' (by omega) (by omega)).mpr (Nat.le_refl _)) q
      | succ e ih =>
        intro o y3 h' l he ho M' R' F' z' hs hr hp hy
        have g59 : fI h' 59 (A 40) = nI (nb g) := M'.2.1.2.2.2.1
        have co : (nI o).toNatClampNeg = o := nI_clamp (by omega)
        have hon : o < nb g := by omega
        have skip : (∀ a ∈ ob S, num g a = o → POk S l a) → P187 (nI (us S)) y3 (nI o) h' := fun hsk => by
          refine q187 _ _ _ _ ?_
          rw [nI_1]
          refine ih (o + 1) y3 h' l (by omega) (by omega) M' R' F' z' hs hr hp ?_
          rcases hy with ⟨y, hy⟩ | hy
          · refine Or.inl ⟨y, fun a ha hlt => ?_⟩
            by_cases q : num g a = o
            · exact hsk a ha q
            · exact hy a ha (by omega)
          · exact Or.inr hy
        refine q85 _ _ _ _ ⟨M'.1.1, fun q => ?_, fun _ => ⟨A 42, M'.1.r k42, M'.1.t k42 rfl, M'.vn hon k42 (by decide), ?_⟩⟩
        · rw [g59] at q; have := (nI_le' (by omega) (by omega)).mp q; omega
        · rw [co]
          rcases M'.who ho hon with ⟨x1, x2, x3⟩ | ⟨a, ha, x1, x2⟩
          · rw [x2]
            exact ⟨fun _ => skip fun a ha e => (x3 a ha e).elim, fun q => absurd q (by decide)⟩
          · rw [x2]
            have ha : a ∈ ob S := ha
            have wa := hW.2.1 a ha
            have uniq : ∀ b ∈ ob S, num g b = o → b = a := fun b hb e => M'.2.2.2.1.2.1 b hb a ha (e.trans x1.symm)
            have sk : POk S l a → P187 (nI (us S)) y3 (nI o) h' := fun z => skip fun b hb e => by rw [uniq b hb e]; exact z
            show (¬ kd S a = 7 → _) ∧ (kd S a = 7 → _)
            refine ⟨fun q => sk fun k => absurd k q, fun k7 => ⟨A 53, M'.1.r k53, M'.1.t k53 rfl, M'.vn hon k53 (by decide), ?_⟩⟩
            have kl : ls (kd S a) := by rw [k7]; exact ls7
            obtain ⟨o1, o2, -⟩ := (M'.2.2.2.2 a ha).2.1 kl
            have o1 : aI h' (A 48) (num g a) = enc g (re S a) := o1
            have o2 : aI h' (A 49) (num g a) = enc g (va S a) := o2
            have wl := wa.2.2.2.2.2.2.2.1 kl
            have hvo : ∀ b, va S a = some b → b ∈ ob S := fun b hb => (wl.2.1 b hb).1
            rw [← x1, R'.2.1 a ha]
            by_cases hal : a ∈ l
            · rw [if_pos hal]
              refine ⟨fun z => absurd z (by decide), fun _ => ⟨A 48, M'.1.r k48, M'.1.t k48 rfl, M'.ix ha k48 (by decide), ?_⟩⟩
              rw [o1]
              refine ⟨fun z => ?_, fun z => ⟨M'.ix ha k48 (by decide), ?_⟩⟩
              · have := (M'.encz wl.1).mp z
                rw [x1]
                exact sk fun _ _ r b hr2 => by rw [this] at hr2; cases hr2
              · cases hre2 : re S a with
                | none => rw [hre2] at z; exact absurd rfl z
                | some r =>
                  have hro := wl.1 r hre2
                  refine ⟨M'.ix hro k53 (by decide), ?_⟩
                  show (aI h' (A 53) ((nI (num g r)).toNatClampNeg) = 0 → _) ∧ (¬ aI h' (A 53) ((nI (num g r)).toNatClampNeg) = 0 → _)
                  rw [M'.clamp hro, R'.2.1 r hro]
                  by_cases hrl : r ∈ l
                  · rw [if_pos hrl]
                    refine ⟨fun y => absurd y (by decide), fun _ => ⟨A 49, M'.1.r k49, M'.1.t k49 rfl, M'.ix ha k49 (by decide), ?_⟩⟩
                    rw [o2]
                    refine ⟨fun y => ?_, fun y => ⟨M'.ix ha k49 (by decide), ?_⟩⟩
                    · have := (M'.encz hvo).mp y
                      rw [x1]
                      exact sk fun _ _ r' b _ _ hb => by rw [this] at hb; cases hb
                    · cases hva : va S a with
                      | none => rw [hva] at y; exact absurd rfl y
                      | some b =>
                        have hbo := hvo b hva
                        refine ⟨M'.ix hbo k53 (by decide), ?_⟩
                        show (aI h' (A 53) ((nI (num g b)).toNatClampNeg) = 0 → _) ∧ (¬ aI h' (A 53) ((nI (num g b)).toNatClampNeg) = 0 → _)
                        rw [M'.clamp hbo, R'.2.1 b hbo]
                        by_cases hbl : b ∈ l
                        · rw [if_pos hbl]
                          refine ⟨fun w => absurd w (by decide), fun _ => ?_⟩
                          rw [x1]
                          exact sk fun _ _ r' b' _ _ hb' => by rw [hva] at hb'; cases hb'; exact hbl
                        · rw [if_neg hbl]
                          refine ⟨fun _ => ⟨M'.ix ha k49 (by decide), ?_⟩, fun w => absurd rfl w⟩
                          refine m_reach (S := wC S 3 (cn S 3 + 1)) (sf := sf) (o := some b) M' W0 R' (fun c hc => by cases hc; exact hbo) (fun _ _ => Or.inr trivial) (fun _ c hc => by cases hc; exact rc.2.2.2.2.2 a (hr a hal) k7 r b hre2 (hr r hrl) hva) (fun h2 l2 s2 M2 R2 F2 X2 c2 => ⟨M2.1.1, ?_⟩)
                          refine m_spread (S := wC S 3 (cn S 3 + 1)) (sf := sf) M2 W0 R2 (fun x hx => ?_) (X2.2.2.2.2.1 hr) (fun h3 l3 M3 R3 F3 p3 len3 s3 r3 => ?_)
                          · rcases X2.2.2.1 x hx with w | w
                            · exact Or.inr ((hs x w).mono X2.1)
                            · exact Or.inl w
                          · rw [x1]
                            refine q187 _ _ _ _ ?_
                            rw [nI_1]
                            refine ih (o + 1) 1 h3 l3 (by omega) (by omega) M3 R3 (F'.trans (F2.FM.trans F3.FM)) ?_ s3 r3 (hp.trans (X2.1.trans p3)) (Or.inr ⟨rfl, ?_⟩)
                            · rw [F3.2.2.2.2.2.1 40 (by decide), F2.2.2.2.2.2.1 40 (by decide)]; exact z'
                            · obtain ⟨x, hx⟩ := X2.1
                              have hbl2 := c2 b rfl
                              have : l.length < l2.length := by
                                cases x with
                                | nil => rw [hx] at hbl2; simp at hbl2; exact absurd hbl2 hbl
                                | cons w x => rw [hx]; simp
                              obtain ⟨y0, hy0⟩ := hp
                              have : l0.length ≤ l.length := by rw [hy0]; simp
                              omega
                  · rw [if_neg hrl]
                    refine ⟨fun _ => ?_, fun y => absurd rfl y⟩
                    rw [x1]
                    exact sk fun _ _ r' b hr2 hrl2 => by rw [hre2] at hr2; cases hr2; exact absurd hrl2 hrl
            · rw [if_neg hal]
              refine ⟨fun _ => ?_, fun z => absurd rfl z⟩
              rw [x1]
              exact sk fun _ y => absurd y hal
    exact pass (nb g - 1) 1 0 h' l0 (by omega) (Nat.le_refl _) M0' R0 F0' z0' hs0 hr0 pre.refl (Or.inl ⟨rfl, fun a ha hlt => by have := (M0'.nm ha).1; omega⟩)
  -- (2) the roots
  have stage2 : ∀ (d i : Nat) (h' : Hp) (l st : List Nat), d + i = nt S → MJ g h' A (wC S 3 (cn S 3 + 1)) → RS g h' A (wC S 3 (cn S 3 + 1)) l st → FM A h h' → fI h' 40 (A 40) = fI h 40 (A 40) → (∀ b ∈ l, Rch S sf b) → (∀ x ∈ l, x ∈ st) → (∀ j < i, ∀ b, rt S j = some b → b ∈ l) → P45 (nI (us S)) (nI i) h' := by
    intro d
    induction d with
    | zero =>
      intro i h' l st hd M' R' F' z' hr hst hro
      have g63 : fI h' 63 (A 40) = nI (nt S) := M'.2.1.2.2.2.2.2.1
      refine q45 _ _ _ ⟨M'.1.1, fun _ => ?_, fun q => ?_⟩
      · refine m_spread (S := wC S 3 (cn S 3 + 1)) (sf := sf) M' W0 R' (fun x hx => Or.inl (hst x hx)) hr (fun h3 l3 M3 R3 F3 p3 len3 s3 r3 => ?_)
        refine stage3 _ h3 l3 (Nat.le_refl _) M3 R3 (F'.trans F3.FM) ?_ s3 r3 (fun j hj b hb => p3.mem (hro j (by omega) b hb))
        rw [F3.2.2.2.2.2.1 40 (by decide)]; exact z'
      · rw [g63] at q; exact absurd ((nI_le' (by omega) (by omega)).mpr (by omega)) q
    | succ d ih =>
      intro i h' l st hd M' R' F' z' hr hst hro
      have g63 : fI h' 63 (A 40) = nI (nt S) := M'.2.1.2.2.2.2.2.1
      have hi : i < nt S := by omega
      refine q45 _ _ _ ⟨M'.1.1, fun q => ?_, fun _ => ⟨A 61, M'.1.r k61, M'.1.t k61 rfl, M'.rv W0 hi, ?_⟩⟩
      · rw [g63] at q; have := (nI_le' (by omega) (by omega)).mp q; omega
      · rw [M'.root W0 hi, nI_1]
        refine m_reach (S := wC S 3 (cn S 3 + 1)) (sf := sf) M' W0 R' (fun b hb => hW.2.2.2.2.2.2.2.2.2.2 i hi b hb) (fun _ _ => Or.inr trivial) (fun _ b hb => rc.1 i hi b hb) (fun h2 l2 s2 M2 R2 F2 X2 c2 => ?_)
        refine ih (i + 1) h2 l2 s2 (by omega) M2 R2 (F'.trans F2.FM) ?_ (X2.2.2.2.2.1 hr) (fun x hx => ?_) (fun j hj b hb => ?_)
        · rw [F2.2.2.2.2.2.1 40 (by decide)]; exact z'
        · rcases X2.2.2.1 x hx with w | w
          · exact X2.2.1 x (hst x w)
          · exact w
        · rcases Nat.lt_or_ge j i with w | w
          · exact X2.1.mem (hro j w b hb)
          · have : j = i := by omega
            subst this; exact c2 b hb
  -- (1) nothing reached
  have stage1 : ∀ (d o : Nat) (h' : Hp), d + o = nb g → 1 ≤ o → MJ g h' A (wC S 3 (cn S 3 + 1)) → FM A h h' → fI h' 40 (A 40) = fI h 40 (A 40) → (∀ x, 1 ≤ x → x < o → aI h' (A 53) x = 0) → P17 (nI (us S)) (nI o) h' := by
    intro d
    induction d with
    | zero =>
      intro o h' hd ho M' F' z' hc
      have g59 : fI h' 59 (A 40) = nI (nb g) := M'.2.1.2.2.2.1
      have : o = nb g := by omega
      subst this
      refine q17 _ _ _ ⟨M'.1.1, fun _ => ?_, fun q => ?_⟩
      · have sfx : SF A h' (pI h' 74 (A 40) 0) := ⟨rfl, rfl, rfl, rfl, rfl, fun k q => fIx _ _ _ _ _ q, fun _ _ _ => rfl⟩
        refine stage2 (nt S) 0 _ [] [] (by omega) (M'.sf sfx) ⟨by rw [fI_pI, if_pos ⟨rfl, rfl⟩]; rfl, fun a ha => ?_, trivial, List.nodup_nil, fun a ha => (by cases ha), fun a ha => (by cases ha), List.nodup_nil⟩ (F'.pI (by decide)) (by rw [fIx _ _ _ _ _ (by decide)]; exact z') (fun b hb => by cases hb) (fun x hx => by cases hx) (fun j hj => by omega)
        rw [if_neg List.not_mem_nil]
        exact hc _ (M'.nm ha).1 (M'.2.2.2.1.1 a ha).2
      · rw [g59] at q; exact absurd ((nI_le' (by omega) (by omega)).mpr (Nat.le_refl _)) q
    | succ d ih =>
      intro o h' hd ho M' F' z' hc
      have g59 : fI h' 59 (A 40) = nI (nb g) := M'.2.1.2.2.2.1
      refine q17 _ _ _ ⟨M'.1.1, fun q => ?_, fun _ => ⟨A 53, M'.1.r k53, M'.1.t k53 rfl, M'.vn (by omega) k53 (by decide), ?_⟩⟩
      · rw [g59] at q; have := (nI_le' (by omega) (by omega)).mp q; omega
      · rw [nI_clamp (by omega), nI_1]
        have sfx : SF A h' (qI h' (A 53) o 0) := ⟨rfl, rfl, rfl, rfl, rfl, fun _ _ => rfl, fun x q _ => aIx _ _ _ _ _ q⟩
        refine ih (o + 1) _ (by omega) (by omega) (M'.sf sfx) (F'.qI k53) z' (fun x hx1 hx2 => ?_)
        rw [aI_qI]
        by_cases e : x = o
        · rw [if_pos ⟨rfl, e⟩]
        · rw [if_neg (fun q => e q.2)]; exact hc x hx1 (by omega)
  exact stage1 (nb g - 1) 1 h0 (by omega) (Nat.le_refl _) M0 F0 z0 (fun x hx1 hx2 => by omega)
end MCOLL
