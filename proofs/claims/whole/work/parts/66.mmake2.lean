/-! The model's making, gone through. -/
section MMAKE2
variable {g : Gh} {h : Hp} {A : Nat → Nat} {S : St} {Q : Option AV ⊕ String → Hp → Prop}
theorem MH.pI {o k a : Nat} {x : Int32} (H : MH g h A S o) (hW : WF S) : MH g (pI h k a x) A S o := H.congr hW H.1 (fun _ _ _ _ _ => rfl) rfl rfl (fun _ _ => rfl)
theorem MG.q {h' : Hp} (hM : MG g h A S) (e : fI h' = fI h) : MG g h' A S := by unfold MG; rw [e]; exact hM
theorem m_make (hM : MJ g h A S) (hW : WF S) (hRK : rK g < 2 ^ 31) {k : Int32} {n1 n2 : Nat} (hk : hd k ∨ k = 3 ∨ ls k) (hk0 : ¬ hd k → n1 = 0 ∧ n2 = 0) (hn : n1 + n2 ≤ 3000)
    (h1 : ¬ fitS (roomB S (clN k (n1 + n2))) (clN k (n1 + n2)) → ∀ g' h', MJ g' h' A (wC (roomB S (clN k (n1 + n2))) 9 (cn (roomB S (clN k (n1 + n2))) 9 + 1)) → rK g' = rK g → FM A h h' → fI h' 40 (A 40) = fI h 40 (A 40) → Q (.inl (some (vi 0))) h')
    (h2 : fitS (roomB S (clN k (n1 + n2))) (clN k (n1 + n2)) → ∀ g' h' o, MK g' h' A (roomB S (clN k (n1 + n2))) o k n1 n2 → rK g' = rK g → num g' = num g → FM A h h' → fI h' 40 (A 40) = fI h 40 (A 40) → Q (.inl (some (vi (nI o)))) h') : vc_X7_make (A 40) k (nI n1) (nI n2) h Q := by
  have hc := cl3002 (k := k) hn
  have hc2 := cl2 k (n1 + n2)
  have hcn := cl_new hk0
  obtain ⟨c, hcc⟩ : ∃ c, c = clN k (n1 + n2) := ⟨_, rfl⟩
  rw [← hcc] at h1 h2 hc hc2 hcn
  have WB := roomB_wf hW c
  have WA := roomA_wf hW c
  have e31 : (31000 : Int32) = nI 31000 := rfl
  intro P29 P49 P113 P131 P217 P306 q29 q49 q113 q131 q217 q306
  -- (5) filling
  have stage5 : ∀ (g' : Gh) (h' : Hp) (o : Nat), fitS (roomB S c) c → MH g' h' A (roomB S c) o → MG g' h' A (roomB S c) → tp g' + (n1 + n2) ≤ 31000 → rK g' = rK g → num g' = num g → FM A h h' → fI h' 40 (A 40) = fI h 40 (A 40) → P131 (nI c) (nI o) h' := by
    intro g' h' o hfit H' G' htp eK eN F' z'
    obtain ⟨f1, -, hno, -⟩ := id H'
    have ho : o < nb g' := hno.2.2.2.2.2.2.2.2.2.2.2.2.2
    have ho1 := hno.2.2.2.2.2.2.2.2.2.2.2.2.1
    have hnb := hno.2.2.1
    have co : (nI o).toNatClampNeg = o := nI_clamp (by omega)
    have vo : ∀ k, mky k → k ≤ 55 → vp_in (nI o) (ln h' (A k)) := fun k hk h55 => f1.v hk (by unfold mln; rw [if_pos h55]; omega)
    have g57 : fI h' 57 (A 40) = nI (tp g') := G'.2.1
    have loop : ∀ (d j : Nat) (h2' : Hp), d + j = n1 + n2 → MH g' h2' A (roomB S c) o → MG g' h2' A (roomB S c) → MKn g' h2' A o k n1 n2 → (∀ j' < j, aL h2' (A 56) (tp g' + j') = 0) → FM A h h2' → fI h2' 40 (A 40) = fI h 40 (A 40) → P217 (nI c) (nI o) (nI j) h2' := by
      intro d
      induction d with
      | zero =>
        intro j h2' hd' H2 G2 N2 L2 F2 z2
        have : j = n1 + n2 := by omega
        subst this
        obtain ⟨a1, a2, a3, a4, a5, a6, a7, a8, a9, a10, a11, a12, a13, a14, a15, a16⟩ := G2
        refine q217 _ _ _ _ ⟨fun _ => ⟨H2.1.1, fun h70 e70 => ?_⟩, fun q => absurd (by rw [nI_add]; exact (nI_le' (by omega) (by omega)).mpr (Nat.le_refl _)) q⟩
        rw [nI_add, a2, a3, a8, nI_add, nI_add, nI_1] at e70
        have hus := WB.2.2.1; have hrm := WB.2.2.2.2.1
        have e58 : fI h70 58 (A 40) = nI (us (roomB S c) + c) := by rw [e70, fIx _ _ _ _ _ (by decide), fI_pI, if_pos ⟨rfl, rfl⟩]
        have e57 : fI h70 57 (A 40) = nI (tp g' + (n1 + n2)) := by rw [e70, fIx _ _ _ _ _ (by decide), fIx _ _ _ _ _ (by decide), fI_pI, if_pos ⟨rfl, rfl⟩]
        have e65 : fI h70 65 (A 40) = nI ((ob (roomB S c)).length + 1) := by rw [e70, fI_pI, if_pos ⟨rfl, rfl⟩]
        have eo : ∀ k', k' ≠ 57 → k' ≠ 58 → k' ≠ 65 → fI h70 k' = fI h2' k' := fun k' q1 q2 q3 => by rw [e70, fIx _ _ _ _ _ q3, fIx _ _ _ _ _ q2, fIx _ _ _ _ _ q1]
        have F70 : FM A h h70 := by rw [e70]; exact ((F2.pI (by decide)).pI (by decide)).pI (by decide)
        have H70 : MH g' h70 A (roomB S c) o := by rw [e70]; exact ((H2.pI WB).pI WB).pI WB
        have N70 : MKn g' h70 A o k n1 n2 := by rw [e70]; exact N2
        have L70 : ∀ j' < n1 + n2, aL h70 (A 56) (tp g' + j') = 0 := by rw [e70]; exact L2
        clear e70
        have fin : ∀ (H : Hp), (∀ k', k' ≠ 66 → k' ≠ 70 → fI H k' (A 40) = fI h70 k' (A 40)) → fI H 66 (A 40) = cn (roomB S c) 2 + 1 → fI H 70 (A 40) = j_mx (cn (roomB S c) 6) (nI (us (roomB S c) + c)) → FM A h H → MH g' H A (roomB S c) o → MKn g' H A o k n1 n2 → (∀ j' < n1 + n2, aL H (A 56) (tp g' + j') = 0) → P306 (nI o) H := by
          intro H b1 b2 b3 FH HH NH LH
          have b0 : ∀ k', k' ≠ 57 → k' ≠ 58 → k' ≠ 65 → k' ≠ 66 → k' ≠ 70 → fI H k' (A 40) = fI h2' k' (A 40) := fun k' q1 q2 q3 q4 q5 => by rw [b1 k' q4 q5, eo k' q1 q2 q3]
          refine q306 _ _ (h2 hfit g' H o ⟨HH, ?_, NH, LH, htp⟩ eK eN FH ?_)
          · rw [← hcc]
            exact ⟨by rw [b0 41 (by decide) (by decide) (by decide) (by decide) (by decide)]; exact a1, by rw [b1 57 (by decide) (by decide)]; exact e57, by rw [b1 58 (by decide) (by decide)]; exact e58, by rw [b0 59 (by decide) (by decide) (by decide) (by decide) (by decide)]; exact a4, by rw [b0 60 (by decide) (by decide) (by decide) (by decide) (by decide)]; exact a5, by rw [b0 63 (by decide) (by decide) (by decide) (by decide) (by decide)]; exact a6, by rw [b0 64 (by decide) (by decide) (by decide) (by decide) (by decide)]; exact a7, by rw [b1 65 (by decide) (by decide)]; exact e65, b2, by rw [b0 67 (by decide) (by decide) (by decide) (by decide) (by decide)]; exact a10, by rw [b0 68 (by decide) (by decide) (by decide) (by decide) (by decide)]; exact a11, by rw [b0 69 (by decide) (by decide) (by decide) (by decide) (by decide)]; exact a12, b3, by rw [b0 71 (by decide) (by decide) (by decide) (by decide) (by decide)]; exact a14, by rw [b0 72 (by decide) (by decide) (by decide) (by decide) (by decide)]; exact a15, by rw [b0 73 (by decide) (by decide) (by decide) (by decide) (by decide)]; exact a16⟩
          · rw [b0 40 (by decide) (by decide) (by decide) (by decide) (by decide)]; exact z2
        rw [e58, eo 70 (by decide) (by decide) (by decide), eo 66 (by decide) (by decide) (by decide), a13, a9]
        refine ⟨fun q => fin _ (fun k' q1 q2 => by rw [fIx _ _ _ _ _ q1]) (by rw [fI_pI, if_pos ⟨rfl, rfl⟩]) ?_ (F70.pI (by decide)) (H70.pI WB) N70 L70, fun q => fin _ (fun k' q1 q2 => by rw [fIx _ _ _ _ _ q2, fIx _ _ _ _ _ q1]) (by rw [fIx _ _ _ _ _ (by decide), fI_pI, if_pos ⟨rfl, rfl⟩]) ?_ ((F70.pI (by decide)).pI (by decide)) ((H70.pI WB).pI WB) N70 L70⟩
        · rw [fIx _ _ _ _ _ (by decide), eo 70 (by decide) (by decide) (by decide), a13]; unfold j_mx; rw [if_neg (i32_nlt.mpr q)]
        · rw [fI_pI, if_pos ⟨rfl, rfl⟩]; unfold j_mx; rw [if_pos (i32_nle.mp q)]
      | succ d ih =>
        intro j h2' hd' H2 G2 N2 L2 F2 z2
        have g57 : fI h2' 57 (A 40) = nI (tp g') := G2.2.1
        refine q217 _ _ _ _ ⟨fun q => ?_, fun _ => ⟨H2.1.1, A 56, H2.1.r k56, H2.1.t k56 rfl, ?_⟩⟩
        · rw [nI_add] at q; have := (nI_le' (by omega) (by omega)).mp q; omega
        rw [g57, nI_add, nI_1, nI_clamp (show tp g' + j < 2 ^ 31 by omega)]
        refine ⟨H2.1.v k56 (by show tp g' + j < 31000; omega), ih (j + 1) _ (by omega) (H2.congr WB H2.1 (fun _ _ _ _ _ => rfl) rfl rfl (fun x hx => ?_)) G2 N2 (fun j' hj' => ?_) (F2.qL k56) z2⟩
        · rw [aL_qL, if_neg (by omega)]
        · rw [aL_qL]
          by_cases e : j' = j
          · rw [if_pos ⟨rfl, by rw [e]⟩]
          · rw [if_neg (by omega)]; exact L2 j' (by omega)
    have vq : ∀ (H : Hp), MF H A → ∀ k, mky k → k ≤ 55 → vp_in (nI o) (ln H (A k)) := fun H fH k hk h55 => fH.v hk (by unfold mln; rw [if_pos h55]; omega)
    refine q131 _ _ _ ⟨f1.1, A 42, f1.r k42, f1.t k42 rfl, vo 42 k42 (by decide), A 43, f1.r k43, f1.t k43 rfl, vo 43 k43 (by decide), A 44, f1.r k44, f1.t k44 rfl, vo 44 k44 (by decide), fun h35 e35 => ?_⟩
    rw [co, g57] at e35
    have f35 : MF h35 A := by rw [e35]; exact f1.fm (((FM.rfl'.qI k42).qI k43).qI k44)
    refine ⟨A 45, f35.r k45, f35.t k45 rfl, vq h35 f35 45 k45 (by decide), A 46, f35.r k46, f35.t k46 rfl, vq h35 f35 46 k46 (by decide), A 47, f35.r k47, f35.t k47 rfl, vq h35 f35 47 k47 (by decide), fun h49 e49 => ?_⟩
    rw [co] at e49
    have f49 : MF h49 A := by rw [e49]; exact f35.fm (((FM.rfl'.qI k45).qI k46).qI k47)
    refine ⟨A 48, f49.r k48, f49.t k48 rfl, vq h49 f49 48 k48 (by decide), A 49, f49.r k49, f49.t k49 rfl, vq h49 f49 49 k49 (by decide), A 50, f49.r k50, f49.t k50 rfl, vq h49 f49 50 k50 (by decide), fun h63 e63 => ?_⟩
    rw [co] at e63
    have f63 : MF h63 A := by rw [e63]; exact f49.fm (((FM.rfl'.qI k48).qI k49).qI k50)
    refine ⟨A 52, f63.r k52, f63.t k52 rfl, vq h63 f63 52 k52 (by decide), ?_⟩
    rw [co, e63, e49, e35]
    clear f63 f49 f35
    have FX := (((((((((((FM.rfl' : FM A h' h')).qI (i := o) (x := k) k42).qI (i := o) (x := nI (tp g')) k43).qI (i := o) (x := nI n1) k44).qI (i := o) (x := nI n2) k45).qI (i := o) (x := 0) k46).qI (i := o) (x := 0) k47).qI (i := o) (x := 0) k48).qI (i := o) (x := 0) k49).qI (i := o) (x := 0) k50).qI (i := o) (x := 0) k52
    refine loop (n1 + n2) 0 _ (by omega) (H'.congr WB (f1.fm FX) (fun k' _ _ x hx => ?_) ?_ ?_ (fun _ _ => by simp only [aL_qI])) (G'.q (by simp only [fI_qI])) ⟨by rw [aIx _ _ _ _ _ (f1.ne k42 k52 (by decide)), aIx _ _ _ _ _ (f1.ne k42 k50 (by decide)), aIx _ _ _ _ _ (f1.ne k42 k49 (by decide)), aIx _ _ _ _ _ (f1.ne k42 k48 (by decide)), aIx _ _ _ _ _ (f1.ne k42 k47 (by decide)), aIx _ _ _ _ _ (f1.ne k42 k46 (by decide)), aIx _ _ _ _ _ (f1.ne k42 k45 (by decide)), aIx _ _ _ _ _ (f1.ne k42 k44 (by decide)), aIx _ _ _ _ _ (f1.ne k42 k43 (by decide)), aI_qI, if_pos ⟨rfl, rfl⟩], by rw [aIx _ _ _ _ _ (f1.ne k43 k52 (by decide)), aIx _ _ _ _ _ (f1.ne k43 k50 (by decide)), aIx _ _ _ _ _ (f1.ne k43 k49 (by decide)), aIx _ _ _ _ _ (f1.ne k43 k48 (by decide)), aIx _ _ _ _ _ (f1.ne k43 k47 (by decide)), aIx _ _ _ _ _ (f1.ne k43 k46 (by decide)), aIx _ _ _ _ _ (f1.ne k43 k45 (by decide)), aIx _ _ _ _ _ (f1.ne k43 k44 (by decide)), aI_qI, if_pos ⟨rfl, rfl⟩], by rw [aIx _ _ _ _ _ (f1.ne k44 k52 (by decide)), aIx _ _ _ _ _ (f1.ne k44 k50 (by decide)), aIx _ _ _ _ _ (f1.ne k44 k49 (by decide)), aIx _ _ _ _ _ (f1.ne k44 k48 (by decide)), aIx _ _ _ _ _ (f1.ne k44 k47 (by decide)), aIx _ _ _ _ _ (f1.ne k44 k46 (by decide)), aIx _ _ _ _ _ (f1.ne k44 k45 (by decide)), aI_qI, if_pos ⟨rfl, rfl⟩], by rw [aIx _ _ _ _ _ (f1.ne k45 k52 (by decide)), aIx _ _ _ _ _ (f1.ne k45 k50 (by decide)), aIx _ _ _ _ _ (f1.ne k45 k49 (by decide)), aIx _ _ _ _ _ (f1.ne k45 k48 (by decide)), aIx _ _ _ _ _ (f1.ne k45 k47 (by decide)), aIx _ _ _ _ _ (f1.ne k45 k46 (by decide)), aI_qI, if_pos ⟨rfl, rfl⟩], by rw [aIx _ _ _ _ _ (f1.ne k46 k52 (by decide)), aIx _ _ _ _ _ (f1.ne k46 k50 (by decide)), aIx _ _ _ _ _ (f1.ne k46 k49 (by decide)), aIx _ _ _ _ _ (f1.ne k46 k48 (by decide)), aIx _ _ _ _ _ (f1.ne k46 k47 (by decide)), aI_qI, if_pos ⟨rfl, rfl⟩], by rw [aIx _ _ _ _ _ (f1.ne k48 k52 (by decide)), aIx _ _ _ _ _ (f1.ne k48 k50 (by decide)), aIx _ _ _ _ _ (f1.ne k48 k49 (by decide)), aI_qI, if_pos ⟨rfl, rfl⟩], by rw [aIx _ _ _ _ _ (f1.ne k49 k52 (by decide)), aIx _ _ _ _ _ (f1.ne k49 k50 (by decide)), aI_qI, if_pos ⟨rfl, rfl⟩], by rw [aIx _ _ _ _ _ (f1.ne k50 k52 (by decide)), aI_qI, if_pos ⟨rfl, rfl⟩], by rw [aI_qI, if_pos ⟨rfl, rfl⟩]⟩ (fun j' hj' => by omega) (F'.trans FX) (by simp only [fI_qI]; exact z')
    · simp only [aI_qI, hx, and_false, if_false]
    · rw [aIx _ _ _ _ _ (f1.ne k61 k52 (by decide)), aIx _ _ _ _ _ (f1.ne k61 k50 (by decide)), aIx _ _ _ _ _ (f1.ne k61 k49 (by decide)), aIx _ _ _ _ _ (f1.ne k61 k48 (by decide)), aIx _ _ _ _ _ (f1.ne k61 k47 (by decide)), aIx _ _ _ _ _ (f1.ne k61 k46 (by decide)), aIx _ _ _ _ _ (f1.ne k61 k45 (by decide)), aIx _ _ _ _ _ (f1.ne k61 k44 (by decide)), aIx _ _ _ _ _ (f1.ne k61 k43 (by decide)), aIx _ _ _ _ _ (f1.ne k61 k42 (by decide))]
    · rw [aIx _ _ _ _ _ (f1.ne k62 k52 (by decide)), aIx _ _ _ _ _ (f1.ne k62 k50 (by decide)), aIx _ _ _ _ _ (f1.ne k62 k49 (by decide)), aIx _ _ _ _ _ (f1.ne k62 k48 (by decide)), aIx _ _ _ _ _ (f1.ne k62 k47 (by decide)), aIx _ _ _ _ _ (f1.ne k62 k46 (by decide)), aIx _ _ _ _ _ (f1.ne k62 k45 (by decide)), aIx _ _ _ _ _ (f1.ne k62 k44 (by decide)), aIx _ _ _ _ _ (f1.ne k62 k43 (by decide)), aIx _ _ _ _ _ (f1.ne k62 k42 (by decide))]
  -- (4) the row's room
  have stage4 : ∀ (g' : Gh) (h' : Hp) (o : Nat), fitS (roomB S c) c → MH g' h' A (roomB S c) o → MG g' h' A (roomB S c) → aI h' (A 42) o = -1 → rK g' = rK g → num g' = num g → FM A h h' → fI h' 40 (A 40) = fI h 40 (A 40) → P113 (nI c) (nI o) h' := by
    intro g' h' o hfit H' G' k1 eK eN F' z'
    obtain ⟨f1, mr, ⟨n_1, n_2, n_3, n_4, n_5, n_6, n_7, n_8, n_9, n_10, n_11, n_12, n_13, n_14⟩, mo⟩ := id H'
    have g57 : fI h' 57 (A 40) = nI (tp g') := G'.2.1
    have g59 : fI h' 59 (A 40) = nI (nb g') := G'.2.2.2.1
    have hus := WB.2.2.1; have hrm := WB.2.2.2.2.1
    refine q113 _ _ _ ⟨f1.1, fun q => ?_, fun q => ?_⟩
    · rw [g57, nI_add, nI_add, e31] at q
      have := (nI_le' (by omega) (by omega)).mp q
      exact stage5 g' h' o hfit H' G' (by omega) eK eN F' z'
    · have hsum : ((ob (roomB S c)).map (szO (roomB S c))).sum ≤ us (roomB S c) := sum_le_sum (fun a ha => sz_le (WB.2.1 a ha))
      refine m_push (g := g') (S := roomB S c) (N := nb g') f1 (by omega) (by omega) g59 WB.1 (fun a ha => ⟨(n_1 a ha).1, (n_1 a ha).2.1⟩) n_2 (fun x hx1 hx2 => ?_) (fun a ha => (mo a ha).1) (fun a ha => kd_nneg (WB.2.1 a ha)) (fun a ha => ?_) n_10 (T := ((ob (roomB S c)).map (szO (roomB S c))).sum) rfl (by omega) (fun h2' at' U e57 d1 d2 => ?_)
      · rcases n_7 x hx1 hx2 with z | z | z
        · by_cases w : ∃ a ∈ ob (roomB S c), num g' a = x
          · exact Or.inr w
          · exact Or.inl ⟨(n_5.1 x z).2.2.2, fun a ha e => w ⟨a, ha, e⟩⟩
        · rw [z]; exact Or.inl ⟨k1, fun a ha => (n_1 a ha).2.2⟩
        · exact Or.inr z
      · have := n_9 a ha
        show at_ g' a + (nr (roomB S c) a + nn (roomB S c) a) ≤ 31000
        omega
      · have eI : ∀ k', mky k' → k' ≠ 43 → k' ≠ 54 → aI h2' (A k') = aI h' (A k') := fun k' hk q1 q2 => U.2.2.2.2.2.1 _ (f1.ne hk k43 q1) (f1.ne hk k54 q2)
        have eF : ∀ k', k' ≠ 57 → fI h2' k' = fI h' k' := U.2.2.2.2.1
        obtain ⟨a1, a2, a3, a4, a5, a6, a7, a8, a9, a10, a11, a12, a13, a14, a15, a16⟩ := G'
        have hfit' : us (roomB S c) + c ≤ rm (roomB S c) := hfit
        refine stage5 (num g', fl_ g', at', rk g', nb g', ((ob (roomB S c)).map (szO (roomB S c))).sum, rK g') h2' o hfit ⟨f1.fm U.FM, ⟨by rw [eI 61 k61 (by decide) (by decide)]; exact mr.1, scM.congr (h := h') (eI 62 k62 (by decide) (by decide)) mr.2⟩, ⟨n_1, n_2, n_3, n_4, by rw [eI 42 k42 (by decide) (by decide)]; exact n_5, by rw [eI 47 k47 (by decide) (by decide)]; exact n_6, n_7, ?_, fun a ha => (d1 a ha).2.1, d2, n_11, n_12, n_13, n_14⟩, fun a ha => ?_⟩ ?_ ?_ eK eN (F'.trans U.FM) (by rw [eF 40 (by decide)]; exact z')
        · show ((ob (roomB S c)).map (szO (roomB S c))).sum ≤ 31000
          omega
        · obtain ⟨m1, m2, m3, m4⟩ := mo a ha
          obtain ⟨x1, x2, x3⟩ := d1 a ha
          refine ⟨⟨by rw [eI 42 k42 (by decide) (by decide)]; exact m1.1, x1, by rw [eI 44 k44 (by decide) (by decide)]; exact m1.2.2.1, by rw [eI 45 k45 (by decide) (by decide)]; exact m1.2.2.2.1, by rw [eI 46 k46 (by decide) (by decide)]; exact m1.2.2.2.2⟩, fun kl => ?_, fun kq => ?_, fun j hj => ?_, fun j hj => ?_⟩
          · have := m2 kl
            unfold MOl at this ⊢
            rw [eI 48 k48 (by decide) (by decide), eI 49 k49 (by decide) (by decide), eI 50 k50 (by decide) (by decide), eI 51 k51 (by decide) (by decide), eI 52 k52 (by decide) (by decide)]; exact this
          · have := m3 kq
            unfold MOq at this ⊢
            rw [eI 48 k48 (by decide) (by decide), eI 49 k49 (by decide) (by decide), eI 47 k47 (by decide) (by decide), eI 51 k51 (by decide) (by decide)]; exact this
          · show aL h2' (A 56) (at' a + j) = _
            rw [x3 j (by unfold szO; omega)]; exact m4.1 j hj
          · show aL h2' (A 56) (at' a + nr (roomB S c) a + j) = _
            rw [Nat.add_assoc, x3 _ (by unfold szO; omega), ← Nat.add_assoc]; exact m4.2 j hj
        · exact ⟨by rw [eF 41 (by decide)]; exact a1, e57, by rw [eF 58 (by decide)]; exact a3, by rw [eF 59 (by decide)]; exact a4, by rw [eF 60 (by decide)]; exact a5, by rw [eF 63 (by decide)]; exact a6, by rw [eF 64 (by decide)]; exact a7, by rw [eF 65 (by decide)]; exact a8, by rw [eF 66 (by decide)]; exact a9, by rw [eF 67 (by decide)]; exact a10, by rw [eF 68 (by decide)]; exact a11, by rw [eF 69 (by decide)]; exact a12, by rw [eF 70 (by decide)]; exact a13, by rw [eF 71 (by decide)]; exact a14, by rw [eF 72 (by decide)]; exact a15, by rw [eF 73 (by decide)]; exact a16⟩
        · show ((ob (roomB S c)).map (szO (roomB S c))).sum + (n1 + n2) ≤ 31000
          omega
  -- (3) a number
  have stage3 : ∀ (g' : Gh) (h' : Hp), MJ g' h' A (roomB S c) → rK g' = rK g → num g' = num g → FM A h h' → fI h' 40 (A 40) = fI h 40 (A 40) → P49 (nI c) h' := by
    intro g' h' M' eK eN F' z'
    have hfi := fit_iff M' WB hc
    obtain ⟨f1, G', mr, mn, mo⟩ := id M'
    obtain ⟨a1, a2, a3, a4, a5, a6, a7, a8, a9, a10, a11, a12, a13, a14, a15, a16⟩ := id G'
    refine q49 _ _ ⟨f1.1, fun q => ?_, fun q => ?_⟩
    · have hfit := hfi.mp q
      have hfit' : us (roomB S c) + c ≤ rm (roomB S c) := hfit
      have hrm := WB.2.2.2.2.1
      obtain ⟨n_1, n_2, n_3, n_4, n_5, n_6, n_7, n_8, n_9, n_10, n_11, n_12, n_13⟩ := mn
      cases hfl : fl_ g' with
      | nil =>
        rw [hfl] at a5 n_5 n_6 n_7 n_8
        have h60 : fI h' 60 (A 40) = 0 := by rw [a5]; exact nI_0
        have hnb := M'.room hfl
        have hlen := us_ge (roomB S c) (ob (roomB S c))
        have hlen2 : us (roomB S c) = ((ob (roomB S c)).map (cl (roomB S c))).sum := rfl
        refine ⟨fun _ => ?_, fun z => absurd h60 z⟩
        rw [a4, nI_1]
        have e : ∀ k', k' ≠ 59 → fI (pI h' 59 (A 40) (nI (nb g' + 1))) k' (A 40) = fI h' k' (A 40) := fun k' q => by rw [fIx _ _ _ _ _ q]
        refine stage4 (num g', [], at_ g', rk g', nb g' + 1, tp g', rK g') _ (nb g') hfit ⟨f1, ⟨mr.1, scM.congr (h := h') (h' := pI h' 59 (A 40) (nI (nb g' + 1))) rfl mr.2⟩, ⟨fun a ha => ⟨(n_1 a ha).1, ?_, ?_⟩, n_2, ?_, List.nodup_nil, ⟨fun x hx => (by cases hx), fun x hx1 hx2 => ?_⟩, trivial, fun x hx1 hx2 => ?_, n_9, n_10, n_11, n_12, n_13, ?_, ?_⟩, mo⟩ ?_ ?_ eK eN (F'.pI (by decide)) (by rw [e 40 (by decide)]; exact z')
        · show num g' a < nb g' + 1
          have := (n_1 a ha).2; omega
        · have := (n_1 a ha).2; show num g' a ≠ nb g'; omega
        · show nb g' + 1 ≤ 15001
          omega
        · have hx1 : nb g' + 1 ≤ x := hx1
          exact n_6.2 x (by omega) hx2
        · have hx2 : x < nb g' + 1 := hx2
          by_cases e : x = nb g'
          · exact Or.inr (Or.inl e)
          · rcases n_8 x hx1 (by omega) with z | z
            · cases z
            · exact Or.inr (Or.inr z)
        · exact n_3
        · show nb g' < nb g' + 1
          omega
        · exact ⟨by rw [e 41 (by decide)]; exact a1, by rw [e 57 (by decide)]; exact a2, by rw [e 58 (by decide)]; exact a3, by rw [fI_pI, if_pos ⟨rfl, rfl⟩], by rw [e 60 (by decide)]; exact a5, by rw [e 63 (by decide)]; exact a6, by rw [e 64 (by decide)]; exact a7, by rw [e 65 (by decide)]; exact a8, by rw [e 66 (by decide)]; exact a9, by rw [e 67 (by decide)]; exact a10, by rw [e 68 (by decide)]; exact a11, by rw [e 69 (by decide)]; exact a12, by rw [e 70 (by decide)]; exact a13, by rw [e 71 (by decide)]; exact a14, by rw [e 72 (by decide)]; exact a15, by rw [e 73 (by decide)]; exact a16⟩
        · exact n_6.2 _ (Nat.le_refl _) (by omega)
      | cons o fl =>
        rw [hfl] at a5 n_5 n_6 n_7 n_8
        have hof := n_6.1 o List.mem_cons_self
        have hnd := List.nodup_cons.mp n_5
        have h60 : fI h' 60 (A 40) = nI o := a5
        have co : (nI o).toNatClampNeg = o := nI_clamp (by omega)
        have e47 : aI h' (A 47) o = nI (fl.headD 0) := n_7.1
        refine ⟨fun z => ?_, fun _ => ⟨A 47, f1.r k47, f1.t k47 rfl, ?_⟩⟩
        · rw [h60] at z; exact absurd z (nI_ne0 (by omega) (by omega))
        rw [h60, co, e47]
        have e : ∀ k', k' ≠ 60 → fI (pI h' 60 (A 40) (nI (fl.headD 0))) k' (A 40) = fI h' k' (A 40) := fun k' q => by rw [fIx _ _ _ _ _ q]
        have hno : ∀ a ∈ ob (roomB S c), num g' a ≠ o := fun a ha z => by
          have := (mo a ha).1.1
          rw [z, hof.2.2] at this
          exact kd_nneg (WB.2.1 a ha) (by rw [← this]; decide)
        refine ⟨f1.v k47 (by show o < 15100; omega), stage4 (num g', fl, at_ g', rk g', nb g', tp g', rK g') _ o hfit ⟨f1, ⟨mr.1, scM.congr (h := h') (h' := pI h' 60 (A 40) (nI (fl.headD 0))) rfl mr.2⟩, ⟨fun a ha => ⟨(n_1 a ha).1, (n_1 a ha).2, hno a ha⟩, n_2, n_4, hnd.2, ⟨fun x hx => ?_, n_6.2⟩, n_7.2, fun x hx1 hx2 => ?_, n_9, n_10, n_11, n_12, n_13, hof.1, hof.2.1⟩, mo⟩ ?_ hof.2.2 eK eN (F'.pI (by decide)) (by rw [e 40 (by decide)]; exact z')⟩
        · have := n_6.1 x (List.mem_cons_of_mem _ hx)
          exact ⟨this.1, this.2.1, fun z => hnd.1 (by rw [← z]; exact hx), this.2.2⟩
        · rcases n_8 x hx1 hx2 with z | z
          · rcases List.mem_cons.mp z with w | w
            · exact Or.inr (Or.inl w)
            · exact Or.inl w
          · exact Or.inr (Or.inr z)
        · exact ⟨by rw [e 41 (by decide)]; exact a1, by rw [e 57 (by decide)]; exact a2, by rw [e 58 (by decide)]; exact a3, by rw [e 59 (by decide)]; exact a4, by rw [fI_pI, if_pos ⟨rfl, rfl⟩], by rw [e 63 (by decide)]; exact a6, by rw [e 64 (by decide)]; exact a7, by rw [e 65 (by decide)]; exact a8, by rw [e 66 (by decide)]; exact a9, by rw [e 67 (by decide)]; exact a10, by rw [e 68 (by decide)]; exact a11, by rw [e 69 (by decide)]; exact a12, by rw [e 70 (by decide)]; exact a13, by rw [e 71 (by decide)]; exact a14, by rw [e 72 (by decide)]; exact a15, by rw [e 73 (by decide)]; exact a16⟩
    · have nfit : ¬ fitS (roomB S c) c := fun z => q (hfi.mpr z)
      rw [a15]
      exact h1 nfit g' _ (M'.setCnt (Or.inr (Or.inr ⟨rfl, rfl⟩))) eK (F'.pI (by decide)) (by rw [fIx _ _ _ _ _ (by decide)]; exact z')
  -- (2), (1) room
  have stage2 : ∀ (g' : Gh) (h' : Hp), MJ g' h' A (roomA S c) → rK g' = rK g → num g' = num g → FM A h h' → fI h' 40 (A 40) = fI h 40 (A 40) → P29 (nI c) h' := by
    intro g' h' M' eK eN F' z'
    have hfi := fit_iff M' WA hc
    refine q29 _ _ ⟨M'.1.1, fun q => ?_, fun q => ?_⟩
    · have er : roomB S c = roomA S c := by unfold roomB; rw [if_pos (hfi.mp q)]
      exact stage3 g' h' (by rw [er]; exact M') eK eN F' z'
    · have er : roomB S c = coll (roomA S c) 1 := by unfold roomB; rw [if_neg (fun z => q (hfi.mpr z))]
      refine m_collectAll (sf := 1) M' WA (by rw [eK]; exact hRK) (fun g'' h'' M'' eK'' eN'' F'' z'' => ?_)
      exact stage3 g'' h'' (by rw [er]; exact M'') (eK''.trans eK) (eN''.trans eN) (F'.trans F'') (z''.trans z')
  have hfi := fit_iff hM hW hc
  rw [nI_add]
  refine m_cells hk ?_
  rw [← hcc]
  refine ⟨hM.1.1, fun q => ?_, fun q => ?_⟩
  · have er : roomA S c = S := by unfold roomA; rw [if_pos (hfi.mp q)]
    exact stage2 g h (by rw [er]; exact hM) rfl rfl FM.rfl' rfl
  · have er : roomA S c = coll S 0 := by unfold roomA; rw [if_neg (fun z => q (hfi.mpr z))]
    refine m_collectAll (sf := 0) hM hW hRK (fun g'' h'' M'' eK'' eN'' F'' z'' => ?_)
    exact stage2 g'' h'' (by rw [er]; exact M'') eK'' eN'' F'' z''
end MMAKE2
