/-! The model: poll, open, close. -/
section MOP7
variable {g : Gh} {h : Hp} {A : Nat → Nat} {S : St} {Q : Option AV ⊕ String → Hp → Prop}
theorem m_poll (hM : MJ g h A S) (hW : WF S) {x1 x2 : Int32} (h1 : ¬ inR S x1 ∨ ¬ inR S x2 → MQ_ g h A S 1 0 Q) (h2 : ∀ i j, i < nt S → x1 = nI i → j < nt S → x2 = nI j → (∀ a, rt S j = some a → ¬ kd S a = 3) → MQ_ g h A S 2 0 Q)
    (h3 : ∀ i j q, i < nt S → x1 = nI i → j < nt S → x2 = nI j → rt S j = some q → kd S q = 3 → qu S q = [] → MQ_ g h A (wR S i none) 0 0 Q)
    (h4 : ∀ i j q a l, i < nt S → x1 = nI i → j < nt S → x2 = nI j → rt S j = some q → kd S q = 3 → qu S q = a :: l → MQ_ g h A (wR (wQ S q l) i (some a)) 0 1 Q) : vc_X7_poll (A 40) x1 x2 h Q := by
  obtain ⟨M0, F0, z0⟩ := m_start hM
  intro P21 P108 P90 q21 q108 q90
  have bad : (¬ inR S x1 ∨ ¬ inR S x2) → P21 (pI h 40 (A 40) 0) := fun q => q21 _ ⟨M0.1.1, m_bad M0 F0 (h1 q)⟩
  refine ⟨hM.1.1, m_none M0 hW (fun i hi e => ⟨fun z => absurd rfl z, fun _ => ⟨M0.1.1, m_none M0 hW (fun j hj e2 => ⟨fun _ => ⟨M0.1.1, ?_⟩, fun z => absurd rfl z⟩) (fun q => ⟨fun z => absurd z (by decide), fun _ => bad (Or.inr q)⟩)⟩⟩) (fun q => ⟨fun _ => bad (Or.inl q), fun z => absurd z (by decide)⟩)⟩
  subst e; subst e2
  refine m_is M0 hW hj (fun q hr k => ⟨fun _ => ?_, fun z => absurd z (by decide)⟩) (fun q => ⟨fun z => absurd rfl z, fun _ => ⟨M0.1.1, m_wrong M0 F0 (h2 i j hi rfl hj rfl q)⟩⟩)
  have hqo := hW.2.2.2.2.2.2.2.2.2.2 j hj q hr
  have wq := (hW.2.1 q hqo).2.2.2.2.2.2.2.2 k
  have h3' := h3 i j q hi rfl hj rfl hr k
  have h4' := fun a l => h4 i j q a l hi rfl hj rfl hr k
  clear bad
  generalize pI h 40 (A 40) 0 = H at *
  obtain ⟨p1, p2, p3, p4⟩ := (M0.2.2.2.2 q hqo).2.2.1 k
  have hclq := M0.clamp hqo
  refine ⟨M0.1.1, A 61, M0.1.r k61, M0.1.t k61 rfl, M0.rv hW hj, A 48, M0.1.r k48, M0.1.t k48 rfl, ?_⟩
  rw [M0.root hW hj, hr]
  show vp_in (nI (num g q)) (ln H (A 48)) ∧ ((aI H (A 48) (nI (num g q)).toNatClampNeg = 0 → P108 (aI H (A 48) (nI (num g q)).toNatClampNeg) H) ∧ (¬ aI H (A 48) (nI (num g q)).toNatClampNeg = 0 → ∃ a19 : Nat, fR H 47 (A 40) = some a19 ∧ tg H a19 = 8 ∧ vp_in (aI H (A 48) (nI (num g q)).toNatClampNeg) (ln H a19) ∧ vp_in (nI (num g q)) (ln H (A 48)) ∧ vp_in (aI H (A 48) (nI (num g q)).toNatClampNeg) (ln H a19) ∧ ((¬ aI (qI H (A 48) (nI (num g q)).toNatClampNeg (aI H a19 (aI H (A 48) (nI (num g q)).toNatClampNeg).toNatClampNeg)) a19 (aI H (A 48) (nI (num g q)).toNatClampNeg).toNatClampNeg = 0 → P90 (nI (num g q)) (aI H (A 48) (nI (num g q)).toNatClampNeg) (qI H (A 48) (nI (num g q)).toNatClampNeg (aI H a19 (aI H (A 48) (nI (num g q)).toNatClampNeg).toNatClampNeg))) ∧ (aI (qI H (A 48) (nI (num g q)).toNatClampNeg (aI H a19 (aI H (A 48) (nI (num g q)).toNatClampNeg).toNatClampNeg)) a19 (aI H (A 48) (nI (num g q)).toNatClampNeg).toNatClampNeg = 0 → ∃ a25 : Nat, fR H 49 (A 40) = some a25 ∧ tg H a25 = 8 ∧ vp_in (nI (num g q)) (ln H a25) ∧ P90 (nI (num g q)) (aI H (A 48) (nI (num g q)).toNatClampNeg) (qI (qI H (A 48) (nI (num g q)).toNatClampNeg (aI H a19 (aI H (A 48) (nI (num g q)).toNatClampNeg).toNatClampNeg)) a25 (nI (num g q)).toNatClampNeg 0)))))
  rw [hclq, p1]
  refine ⟨M0.ix hqo k48 (by decide), fun z => ?_, fun z => ?_⟩
  · have hob : ∀ b, (qu S q).head? = some b → b ∈ ob S := fun b hb => (wq.2.1 b (List.mem_of_mem_head? hb)).1
    have hh := (M0.encz hob).mp z
    have hl : qu S q = [] := List.head?_eq_none_iff.mp hh
    rw [hh]
    exact q108 _ _ ⟨M0.1.1, m_comesTo M0 hW F0 z0 hi (fun b hb => by cases hb) (h3' hl)⟩
  · cases hl : qu S q with
    | nil => rw [hl] at z; exact absurd rfl z
    | cons a l =>
      have hao := wq.2.1 a (by rw [hl]; exact List.mem_cons_self)
      have hcla := M0.clamp hao.1
      rw [hl] at p4
      have hW' := WFtake hW hqo k hl
      have hlo : ∀ b, l.head? = some b → b ∈ ob S := fun b hb => (wq.2.1 b (by rw [hl]; exact List.mem_cons_of_mem _ (List.mem_of_mem_head? hb))).1
      have en : aI H (A 47) (num g a) = enc g l.head? := by
        rw [p4.1]
        cases l with
        | nil => rfl
        | cons y l => rfl
      show ∃ a19 : Nat, fR H 47 (A 40) = some a19 ∧ tg H a19 = 8 ∧ vp_in (nI (num g a)) (ln H a19) ∧ vp_in (nI (num g q)) (ln H (A 48)) ∧ vp_in (nI (num g a)) (ln H a19) ∧ ((¬ aI (qI H (A 48) (num g q) (aI H a19 (nI (num g a)).toNatClampNeg)) a19 (nI (num g a)).toNatClampNeg = 0 → P90 (nI (num g q)) (nI (num g a)) (qI H (A 48) (num g q) (aI H a19 (nI (num g a)).toNatClampNeg))) ∧ (aI (qI H (A 48) (num g q) (aI H a19 (nI (num g a)).toNatClampNeg)) a19 (nI (num g a)).toNatClampNeg = 0 → ∃ a25 : Nat, fR H 49 (A 40) = some a25 ∧ tg H a25 = 8 ∧ vp_in (nI (num g q)) (ln H a25) ∧ P90 (nI (num g q)) (nI (num g a)) (qI (qI H (A 48) (num g q) (aI H a19 (nI (num g a)).toNatClampNeg)) a25 (num g q) 0)))
      refine ⟨A 47, M0.1.r k47, M0.1.t k47 rfl, M0.ix hao.1 k47 (by decide), M0.ix hqo k48 (by decide), M0.ix hao.1 k47 (by decide), ?_⟩
      rw [hcla, en, aIx _ _ _ _ _ (M0.1.ne k47 k48 (by decide)), en]
      have key : ∀ h1', ((∃ b, l.head? = some b ∧ h1' = qI H (A 48) (num g q) (enc g l.head?)) ∨ (l.head? = none ∧ h1' = qI (qI H (A 48) (num g q) (enc g l.head?)) (A 49) (num g q) 0)) → FM A h h1' → fI h1' 40 (A 40) = 0 → MF h1' A → aI h1' (A 51) (num g q) = nI (qu S q).length → P90 (nI (num g q)) (nI (num g a)) h1' := by
        intro h1' hh F1 z1 m1 r51
        have M1 := M0.take hW hqo k hl hh
        have v : ∀ x ∈ ob S, ∀ kk, mky kk → kk ≤ 55 → vp_in (nI (num g x)) (ln h1' (A kk)) := fun x hx kk hkk h55 => m1.v hkk (by have := M0.nm hx; unfold mln; rw [if_pos h55]; omega)
        refine q90 _ _ _ ⟨m1.1, A 47, m1.r k47, m1.t k47 rfl, v a hao.1 47 k47 (by decide), A 51, m1.r k51, m1.t k51 rfl, v q hqo 51 k51 (by decide), v q hqo 51 k51 (by decide), ?_⟩
        rw [hcla, hclq, aIx _ _ _ _ _ (M0.1.ne k51 k47 (by decide)), r51]
        refine q108 _ _ ⟨M1.1.1, ?_⟩
        exact m_comesTo (o := some a) M1 hW' ((F1.qI k47).qI k51) z1 hi (fun b hb => by cases hb; exact hao.1) (h4' a l hl)
      refine ⟨fun y => ?_, fun y => ⟨A 49, M0.1.r k49, M0.1.t k49 rfl, M0.ix hqo k49 (by decide), ?_⟩⟩
      · cases hh : l.head? with
        | none => rw [hh] at y; exact absurd rfl y
        | some b =>
          rw [← hh]
          exact key _ (Or.inl ⟨b, hh, rfl⟩) (F0.qI k48) z0 M0.1 (by rw [aIx _ _ _ _ _ (M0.1.ne k51 k48 (by decide))]; exact p3)
      · exact key _ (Or.inr ⟨(M0.encz hlo).mp y, rfl⟩) ((F0.qI k48).qI k49) z0 M0.1 (by rw [aIx _ _ _ _ _ (M0.1.ne k51 k49 (by decide)), aIx _ _ _ _ _ (M0.1.ne k51 k48 (by decide))]; exact p3)
theorem scM.put {n : Nat} {x : Int32} : ∀ {l : List Nat}, scM h A l → l.length ≤ n → scM (qI h (A 62) n x) A l
  | [], _, _ => trivial
  | _ :: r, q, hn => ⟨by rw [aI_qI, if_neg (fun e => by have := e.2; simp only [List.length_cons] at hn; omega)]; exact q.1, scM.put q.2 (by simp only [List.length_cons] at hn; omega)⟩
theorem m_open (hM : MJ g h A S) (hW : WF S) {x1 : Int32} (h1 : ¬ ((1 : Int32) ≤ x1 ∧ x1 ≤ 16) → MQ_ g h A S 1 0 Q) (h2 : ∀ n, 1 ≤ n → n ≤ 16 → x1 = nI n → (sc S).length = 20 → MQ_ g h A S 2 0 Q) (h3 : ∀ n, 1 ≤ n → n ≤ 16 → x1 = nI n → (sc S).length < 20 → MQ_ g h A (opS S n) 0 (nI (nt S)) Q) : vc_X7_open (A 40) x1 h Q := by
  obtain ⟨M0, F0, z0⟩ := m_start hM
  have hn := hW.nt
  have hs20 := hW.2.2.2.2.2.2.2.2.2.1
  have h9 := scOK_le hW.2.2.2.2.2.2.2.2.1
  have g63 : fI h 63 (A 40) = nI (nt S) := hM.2.1.2.2.2.2.2.1
  have g64 : fI h 64 (A 40) = nI (sc S).length := hM.2.1.2.2.2.2.2.2.1
  intro P16 P57 q16 q57
  refine ⟨hM.1.1, fun q => q16 _ ⟨M0.1.1, m_bad M0 F0 (h1 fun z => absurd q (i32_nlt.mpr z.1))⟩, fun q => ⟨fun q2 => ?_, fun q2 => q16 _ ⟨M0.1.1, m_bad M0 F0 (h1 fun z => q2 z.2)⟩⟩⟩
  have x0 : 0 ≤ x1 := by
    have a := i32_nlt.mp q
    rw [Int32.le_iff_toInt_le] at a ⊢
    have e1 : (1 : Int32).toInt = 1 := by decide
    have e0 : (0 : Int32).toInt = 0 := rfl
    omega
  obtain ⟨n, hn2, rfl⟩ := nI_ex' x0
  have n1 : 1 ≤ n := (nI_le' (a := 1) (by decide) hn2).mp (i32_nlt.mp q)
  have n16 : n ≤ 16 := (nI_le' (b := 16) hn2 (by decide)).mp q2
  rw [g64, g63]
  refine ⟨fun e => ?_, fun e => m_wrong M0 F0 (h2 n n1 n16 rfl (nI_inj (b := 20) (by omega) (by decide) e))⟩
  have hlt : (sc S).length < 20 := by
    have : (sc S).length ≠ 20 := fun z => e (by rw [z]; rfl)
    omega
  refine ⟨A 62, hM.1.r k62, hM.1.t k62 rfl, hM.1.v k62 (by show _ < 20; exact hlt), ?_⟩
  rw [nI_clamp (by omega), nI_1]
  -- the loop that clears roots
  have loop : ∀ (d j : Nat) (h' : Hp), d + j = n → MF h' A → FM A h h' → (∀ k, k ≠ 40 → k ≠ 63 → k ≠ 64 → fI h' k (A 40) = fI h k (A 40)) → fI h' 40 (A 40) = 0 → fI h' 63 (A 40) = nI (nt S + j) → fI h' 64 (A 40) = nI ((sc S).length + 1) → (∀ k, mky k → k ≠ 61 → k ≠ 62 → aI h' (A k) = aI h (A k)) → aL h' = aL h → aI h' (A 62) (sc S).length = nI (nt S) → scM h' A (sc S) → (∀ i < nt S, aI h' (A 61) i = enc g (rt S i)) → (∀ i, nt S ≤ i → i < nt S + j → aI h' (A 61) i = 0) → P57 (nI j) h' := by
    intro d
    induction d with
    | zero =>
      intro j h' hd mf fm eF z40 e63 e64 eA eL e62 esc er1 er2
      have hj : j = n := by omega
      subst hj
      refine q57 _ _ ⟨fun _ => ⟨mf.1, ?_⟩, fun z => absurd ((nI_le' hn2 hn2).mpr (Nat.le_refl _)) z⟩
      rw [e63, nI_sub (by omega), Nat.add_sub_cancel]
      obtain ⟨m1, m2, m3, m4, m5⟩ := hM
      refine h3 j n1 n16 rfl hlt h' ⟨mf, ?_, ⟨fun i hi => ?_, e62, esc⟩, ?_, fun b hb => ?_⟩ fm z40
      · obtain ⟨a1, a2, a3, a4, a5, a6, a7, a8, a9, a10, a11, a12, a13, a14, a15, a16⟩ := m2
        refine ⟨by rw [eF 41 (by decide) (by decide) (by decide)]; exact a1, by rw [eF 57 (by decide) (by decide) (by decide)]; exact a2, by rw [eF 58 (by decide) (by decide) (by decide)]; exact a3, by rw [eF 59 (by decide) (by decide) (by decide)]; exact a4, by rw [eF 60 (by decide) (by decide) (by decide)]; exact a5, e63, e64, by rw [eF 65 (by decide) (by decide) (by decide)]; exact a8, ?_, ?_, ?_, ?_, ?_, ?_, ?_, by rw [eF 73 (by decide) (by decide) (by decide)]; exact a16⟩
        · rw [eF 66 (by decide) (by decide) (by decide)]; show _ = up1 (cn S) 7 (nI (nt S + j)) 2; rw [up1_ne (by decide)]; exact a9
        · rw [eF 67 (by decide) (by decide) (by decide)]; show _ = up1 (cn S) 7 (nI (nt S + j)) 3; rw [up1_ne (by decide)]; exact a10
        · rw [eF 68 (by decide) (by decide) (by decide)]; show _ = up1 (cn S) 7 (nI (nt S + j)) 4; rw [up1_ne (by decide)]; exact a11
        · rw [eF 69 (by decide) (by decide) (by decide)]; show _ = up1 (cn S) 7 (nI (nt S + j)) 5; rw [up1_ne (by decide)]; exact a12
        · rw [eF 70 (by decide) (by decide) (by decide)]; show _ = up1 (cn S) 7 (nI (nt S + j)) 6; rw [up1_ne (by decide)]; exact a13
        · rw [eF 71 (by decide) (by decide) (by decide)]; show _ = up1 (cn S) 7 (nI (nt S + j)) 8; rw [up1_ne (by decide)]; exact a14
        · rw [eF 72 (by decide) (by decide) (by decide)]; show _ = up1 (cn S) 7 (nI (nt S + j)) 9; rw [up1_ne (by decide)]; exact a15
      · have hi : i < nt S + j := hi
        show _ = enc g (if i < nt S then rt S i else none)
        by_cases z : i < nt S
        · rw [if_pos z]; exact er1 i z
        · rw [if_neg z]; exact er2 i (by omega) hi
      · unfold MN; rw [eA 42 k42 (by decide) (by decide), eA 47 k47 (by decide) (by decide)]; exact m4
      · have := m5 b hb
        unfold MOa MOd MOl MOq MOr at this ⊢
        rw [eA 42 k42 (by decide) (by decide), eA 43 k43 (by decide) (by decide), eA 44 k44 (by decide) (by decide), eA 45 k45 (by decide) (by decide), eA 46 k46 (by decide) (by decide), eA 47 k47 (by decide) (by decide), eA 48 k48 (by decide) (by decide), eA 49 k49 (by decide) (by decide), eA 50 k50 (by decide) (by decide), eA 51 k51 (by decide) (by decide), eA 52 k52 (by decide) (by decide), eL]
        exact this
    | succ d ih =>
      intro j h' hd mf fm eF z40 e63 e64 eA eL e62 esc er1 er2
      refine q57 _ _ ⟨fun z => ?_, fun _ => ⟨mf.1, A 61, mf.r k61, mf.t k61 rfl, ?_⟩⟩
      · have := (nI_le' hn2 (by omega)).mp z; omega
      · rw [e63]
        refine ⟨mf.v k61 (by show _ < 384; omega), ?_⟩
        rw [nI_clamp (by omega), nI_1, nI_1]
        refine ih (j + 1) _ (by omega) mf ((fm.pI (by decide)).qI k61) (fun k q1 q2 q3 => ?_) ?_ ?_ ?_ (fun k hk q1 q2 => ?_) eL ?_ ?_ (fun i hi => ?_) (fun i hi1 hi2 => ?_)
        · rw [fI_qI, fIx _ _ _ _ _ q2]; exact eF k q1 q2 q3
        · rw [fI_qI, fIx _ _ _ _ _ (by decide)]; exact z40
        · rw [fI_qI, fI_pI, if_pos ⟨rfl, rfl⟩, Nat.add_assoc]
        · rw [fI_qI, fIx _ _ _ _ _ (by decide)]; exact e64
        · rw [aIx _ _ _ _ _ (mf.ne hk k61 q1)]; exact eA k hk q1 q2
        · rw [aIx _ _ _ _ _ (mf.ne k62 k61 (by decide))]; exact e62
        · exact scM.congr (h := h') (by rw [aIx _ _ _ _ _ (mf.ne k62 k61 (by decide))]; rfl) esc
        · rw [aI_qI, if_neg (fun z => by have := z.2; omega)]; exact er1 i hi
        · rw [aI_qI]
          by_cases z : i = nt S + j
          · rw [if_pos ⟨rfl, z⟩]
          · rw [if_neg (fun y => z y.2)]; exact er2 i hi1 (by omega)
  refine loop n 0 _ (by omega) hM.1 (((F0.pI (by decide))).qI k62) (fun k q1 q2 q3 => ?_) ?_ ?_ ?_ (fun k hk q1 q2 => ?_) rfl ?_ ?_ (fun i hi => ?_) (fun i hi1 hi2 => by omega)
  · rw [fI_qI, fIx _ _ _ _ _ q3, fIx _ _ _ _ _ q1]
  · rw [fI_qI, fIx _ _ _ _ _ (by decide)]; exact z0
  · rw [fI_qI, fIx _ _ _ _ _ (by decide), fIx _ _ _ _ _ (by decide)]; exact g63
  · rw [fI_qI, fI_pI, if_pos ⟨rfl, rfl⟩]
  · rw [aIx _ _ _ _ _ (hM.1.ne hk k62 q2)]; rfl
  · rw [aI_qI, if_pos ⟨rfl, rfl⟩]
  · exact scM.put (scM.congr (h := h) (h' := pI (pI h 40 (A 40) 0) 64 (A 40) (nI ((sc S).length + 1))) rfl hM.2.2.1.2) (Nat.le_refl _)
  · rw [aIx _ _ _ _ _ (hM.1.ne k61 k62 (by decide))]; exact hM.2.2.1.1 i hi
theorem m_close (hM : MJ g h A S) (hW : WF S) (h1 : sc S = [] → MQ_ g h A S 1 0 Q) (h2 : ∀ s r, sc S = s :: r → MQ_ g h A (clS S s r) 0 (nI s) Q) : vc_X7_close (A 40) h Q := by
  obtain ⟨M0, F0, z0⟩ := m_start hM
  have hn := hW.nt
  have hs20 := hW.2.2.2.2.2.2.2.2.2.1
  have h9 := hW.2.2.2.2.2.2.2.2.1
  have g64 : fI h 64 (A 40) = nI (sc S).length := hM.2.1.2.2.2.2.2.2.1
  refine ⟨hM.1.1, fun q => ?_, fun q => ?_⟩
  · rw [g64] at q ⊢
    cases hsc : sc S with
    | nil => rw [hsc] at q; exact absurd rfl q
    | cons s r =>
      have hsc2 := hM.2.2.1.2
      rw [hsc] at hsc2 hs20 h9
      simp only [List.length_cons] at hs20 ⊢
      rw [nI_pred]
      refine ⟨A 62, hM.1.r k62, hM.1.t k62 rfl, hM.1.v k62 (by show _ < 20; omega), ?_⟩
      rw [nI_clamp (by omega), hsc2.1, fI_pI, if_pos ⟨rfl, rfl⟩]
      obtain ⟨m1, m2, m3, m4, m5⟩ := hM
      have eF : ∀ k, k ≠ 40 → k ≠ 63 → k ≠ 64 → fI (pI (pI (pI h 40 (A 40) 0) 64 (A 40) (nI r.length)) 63 (A 40) (nI s)) k (A 40) = fI h k (A 40) := fun k q1 q2 q3 => by
        rw [fIx _ _ _ _ _ q2, fIx _ _ _ _ _ q3, fIx _ _ _ _ _ q1]
      have hsn := h9.1
      refine h2 s r hsc _ ⟨m1, ?_, ⟨fun i hi => m3.1 i (by have hi : i < s := hi; omega), scM.congr (h := h) (h' := pI (pI (pI h 40 (A 40) 0) 64 (A 40) (nI r.length)) 63 (A 40) (nI s)) rfl hsc2.2⟩, m4, m5⟩ ((F0.pI (by decide)).pI (by decide)) ?_
      · obtain ⟨a1, a2, a3, a4, a5, a6, a7, a8, a9, a10, a11, a12, a13, a14, a15, a16⟩ := m2
        refine ⟨by rw [eF 41 (by decide) (by decide) (by decide)]; exact a1, by rw [eF 57 (by decide) (by decide) (by decide)]; exact a2, by rw [eF 58 (by decide) (by decide) (by decide)]; exact a3, by rw [eF 59 (by decide) (by decide) (by decide)]; exact a4, by rw [eF 60 (by decide) (by decide) (by decide)]; exact a5, by rw [fI_pI, if_pos ⟨rfl, rfl⟩]; rfl, by rw [fIx _ _ _ _ _ (by decide), fI_pI, if_pos ⟨rfl, rfl⟩]; rfl, by rw [eF 65 (by decide) (by decide) (by decide)]; exact a8, ?_, ?_, ?_, ?_, ?_, ?_, ?_, by rw [eF 73 (by decide) (by decide) (by decide)]; exact a16⟩
        · rw [eF 66 (by decide) (by decide) (by decide)]; show _ = up1 (cn S) 7 (nI s) 2; rw [up1_ne (by decide)]; exact a9
        · rw [eF 67 (by decide) (by decide) (by decide)]; show _ = up1 (cn S) 7 (nI s) 3; rw [up1_ne (by decide)]; exact a10
        · rw [eF 68 (by decide) (by decide) (by decide)]; show _ = up1 (cn S) 7 (nI s) 4; rw [up1_ne (by decide)]; exact a11
        · rw [eF 69 (by decide) (by decide) (by decide)]; show _ = up1 (cn S) 7 (nI s) 5; rw [up1_ne (by decide)]; exact a12
        · rw [eF 70 (by decide) (by decide) (by decide)]; show _ = up1 (cn S) 7 (nI s) 6; rw [up1_ne (by decide)]; exact a13
        · rw [eF 71 (by decide) (by decide) (by decide)]; show _ = up1 (cn S) 7 (nI s) 8; rw [up1_ne (by decide)]; exact a14
        · rw [eF 72 (by decide) (by decide) (by decide)]; show _ = up1 (cn S) 7 (nI s) 9; rw [up1_ne (by decide)]; exact a15
      · rw [fIx _ _ _ _ _ (by decide), fIx _ _ _ _ _ (by decide)]; exact z0
  · rw [g64] at q
    have hsc : sc S = [] := by
      cases hsc : sc S with
      | nil => rfl
      | cons s r => rw [hsc] at q hs20; exact absurd q (nI_ne0 (by simp) (by simp only [List.length_cons] at hs20 ⊢; omega))
    exact (m_bad M0 F0 (h1 hsc)).2
end MOP7
