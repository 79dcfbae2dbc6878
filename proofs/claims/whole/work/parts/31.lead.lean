/-! Leading on. -/
def PF (h : Hp) (S : St) (fp : Nat → List Nat) (D : Nat → Prop) : Prop :=
  (∀ r ∈ ob S, fR h 7 r = (fp r).head? ∧ lnk (fR h 18) (fp r)) ∧ ∀ r p, p ∈ fp r → D p ∧ p ∈ ob S ∧ kd S p = 7 ∧ re S p = some r
def Suc (S : St) (sf : Int32) (l : List Nat) (fp : Nat → List Nat) (a : Nat) : Prop :=
  (∀ j < nr S a, ∀ b, rf S a j = some b → b ∈ l) ∧ (kd S a = 3 → ∀ b ∈ qu S a, b ∈ l) ∧ (ls (kd S a) → cm S a = 0 → ∀ b, li S a = some b → b ∈ l) ∧ (kd S a = 4 → sf = 0 → ∀ b, re S a = some b → b ∈ l) ∧ (kd S a = 7 → ∀ r b, re S a = some r → va S a = some b → b ∈ l ∨ a ∈ fp r)
theorem PF.tc {h h' : Hp} {S : St} {fp : Nat → List Nat} {D : Nat → Prop} (hP : PF h S fp D) (hc : TC h h') : PF h' S fp D := ⟨fun r hr => by rw [hc.2.1, hc.2.2]; exact hP.1 r hr, hP.2⟩
theorem PF.mono {h : Hp} {S : St} {fp : Nat → List Nat} {D D' : Nat → Prop} (hP : PF h S fp D) (hD : ∀ p, D p → D' p) : PF h S fp D' := ⟨hP.1, fun r p hp => ⟨hD p (hP.2 r p hp).1, (hP.2 r p hp).2⟩⟩
/-- what leading on from a gives -/
def LdP (h h' : Hp) (A : Nat → Nat) (S : St) (sf : Int32) (n : Nat) (l l' : List Nat) (fp fp' : Nat → List Nat) (D : Nat → Prop) (a : Nat) : Prop :=
  TI h' (A 34) l' n (ob S) ∧ TF h h' ∧ pre l l' ∧ (∀ b ∈ l', Rch S sf b) ∧ PF h' S fp' (fun p => D p ∨ p = a) ∧ (∀ r p, p ∈ fp r → p ∈ fp' r) ∧ (∀ r ∈ l, fp' r = fp r) ∧ Suc S sf l' fp' a
section LEAD
variable {h : Hp} {A : Nat → Nat} {S : St} {sf : Int32} {n : Nat} {l : List Nat} {fp : Nat → List Nat} {D : Nat → Prop} {a : Nat} {Q : Option AV ⊕ String → Hp → Prop}
theorem CX.thg (hC : CX h A S) (hW : WF S) : ∀ a ∈ ob S, thg h a := fun a ha => COa.thg (hW.2.1 a ha) (hC.2.2.1.1 a ha)
theorem c_leadH (hC : CX h A S) (hW : WF S) (hT : TI h (A 34) l n (ob S)) (ha : a ∈ l) (hR : ∀ b ∈ l, Rch S sf b) (hP : PF h S fp D) (hk : hd (kd S a)) {x2 : Int32} (h1 : ∀ h' l' fp', LdP h h' A S sf n l l' fp fp' D a → Q (.inl none) h') : vc_X1_leadOn a (some (A 34)) x2 h Q := by
  have hao := hT.2.2.2.2.2.2.2.1 a ha
  obtain ⟨t, r, nn_, d1, d2, d3, d4, d5, d6⟩ := (hC.2.2.1.1 a hao).2.2.2.1 hk
  have h3000 := (hW.2.1 a hao).2.2.2.2.1
  intro P hQ
  refine ⟨t, r, d1, d2, ?_⟩
  rw [d1, d3]
  have loop : ∀ (d j : Nat) (h' : Hp) (l' : List Nat), d + j = nr S a → TI h' (A 34) l' n (ob S) → TC h h' → pre l l' → (∀ b ∈ l', Rch S sf b) → (∀ i < j, ∀ b, rf S a i = some b → b ∈ l') → P (some r) (nI (nr S a)) (nI j) h' := by
    intro d
    induction d with
    | zero =>
      intro j h' l' hd hT' hc hp hR' hj
      refine hQ _ _ _ _ ⟨fun _ => h1 h' l' fp ⟨hT', hc.1, hp, hR', (hP.tc hc).mono (fun _ q => Or.inl q), fun _ _ q => q, fun _ _ => rfl, fun i hi => hj i (by omega), fun k => absurd k (hd_no3 hk), fun k => absurd hk (ls_nohd k), fun k => ?_, fun k => ?_⟩, fun q => absurd ((nI_le' (by omega) (by omega)).mpr (by omega)) q⟩
      · exact absurd hk (ls_nohd (by rw [k]; exact ls4))
      · exact absurd hk (ls_nohd (by rw [k]; exact ls7))
    | succ d ih =>
      intro j h' l' hd hT' hc hp hR' hj
      have hC' := hC.tf hW hc.1
      refine hQ _ _ _ _ ⟨fun q => ?_, fun q => ⟨r, rfl, by rw [hc.1.1]; exact d2, by rw [hc.1.2.1, d3]; exact vin (by omega) (by omega), A 34, rfl, hT'.1, ?_⟩⟩
      · have := (nI_le' (by omega) (by omega)).mp q; omega
      · rw [nI_clamp (by omega), hc.1.2.2.2.2.1, d5 j (by omega), nI_1]
        have hb : ∀ b, rf S a j = some b → b ∈ ob S := fun b hb => (hW.2.1 a hao).2.2.2.2.2.2.1 j (by omega) b hb
        refine c_comeTo hT' hb (hC'.thg hW) (fun h2 hT2 hc2 => ih (j + 1) h2 _ (by omega) hT2 (hc.trans hc2) (hp.trans (vis_pre _ _)) (fun b hb2 => ?_) (fun i hi b hb2 => ?_))
        · rcases mem_vis hb2 with q | q
          · exact hR' b q
          · exact (Rch_cls S sf).2.1 a (hR a ha) j (by omega) b q
        · rcases Nat.lt_or_ge i j with q | q
          · exact (vis_pre _ _).mem (hj i q b hb2)
          · have : i = j := by omega
            subst this; rw [hb2]; exact vis_mem
  exact loop (nr S a) 0 h l (by omega) hT TC.rfl' pre.refl hR (fun i hi => by omega)
theorem c_leadQ (hC : CX h A S) (hW : WF S) (hT : TI h (A 34) l n (ob S)) (ha : a ∈ l) (hR : ∀ b ∈ l, Rch S sf b) (hP : PF h S fp D) (hk : kd S a = 3) {x2 : Int32} (h1 : ∀ h' l' fp', LdP h h' A S sf n l l' fp fp' D a → Q (.inl none) h') : vc_X2_leadOn a (some (A 34)) x2 h Q := by
  have hao := hT.2.2.2.2.2.2.2.1 a ha
  obtain ⟨t, d1, d2, d3, d4⟩ := (hC.2.2.1.1 a hao).2.2.2.2.1 hk
  have wq := (hW.2.1 a hao).2.2.2.2.2.2.2.2 hk
  have hnr := ((hW.2.1 a hao).2.1 (by rw [hk]; exact no3_hd)).1
  intro P hQ
  refine ⟨t, ?_⟩
  rw [d1]
  have loop : ∀ (m z : List Nat) (h' : Hp) (l' : List Nat), z ++ m = qu S a → lnk (fR h 17) m → TI h' (A 34) l' n (ob S) → TC h h' → pre l l' → (∀ b ∈ l', Rch S sf b) → (∀ b ∈ z, b ∈ l') → P m.head? h' := by
    intro m
    induction m with
    | nil =>
      intro z h' l' hz hl hT' hc hp hR' hj
      refine hQ _ _ ⟨fun _ => h1 h' l' fp ⟨hT', hc.1, hp, hR', (hP.tc hc).mono (fun _ q => Or.inl q), fun _ _ q => q, fun _ _ => rfl, fun i hi => by omega, fun _ b hb => hj b (by rw [← hz] at hb; simpa using hb), fun k => absurd k (by rw [hk]; exact no3_ls), fun k => absurd k (by rw [hk]; decide), fun k => absurd k (by rw [hk]; decide)⟩, fun b hb => by cases hb⟩
    | cons b m ih =>
      intro z h' l' hz hl hT' hc hp hR' hj
      have hC' := hC.tf hW hc.1
      have hbm := wq.2.1 b (by rw [← hz]; simp)
      refine hQ _ _ ⟨fun q => (by cases q), fun b' hb' => ⟨A 34, rfl, hT'.1, ?_⟩⟩
      have hb' : some b = some b' := hb'
      cases hb'
      refine c_comeTo hT' (o := some b) (fun c hc => by cases hc; exact hbm.1) (hC'.thg hW) (fun h2 hT2 hc2 => ?_)
      have hC2 := hC'.tf hW hc2.1
      refine ⟨((hC2.2.2.1.1 b hbm.1).2.2.2.2.2 hbm.2.1).1, ?_⟩
      rw [hc2.1.2.2.2.2.2.2 17 (by decide) (by decide) (by decide) (by decide) (by decide), hc.1.2.2.2.2.2.2 17 (by decide) (by decide) (by decide) (by decide) (by decide), hl.1]
      refine ih (z ++ [b]) h2 _ (by simp [← hz]) hl.2 hT2 (hc.trans hc2) (hp.trans (vis_pre _ _)) (fun c hc2 => ?_) (fun c hc2 => ?_)
      · rcases mem_vis hc2 with q | q
        · exact hR' c q
        · cases q; exact (Rch_cls S sf).2.2.1 a (hR a ha) hk b (by rw [← hz]; simp)
      · rcases List.mem_append.mp hc2 with q | q
        · exact (vis_pre _ _).mem (hj c q)
        · rw [List.mem_singleton.mp q]; exact vis_mem
  exact loop (qu S a) [] h l (by simp) d4 hT TC.rfl' pre.refl hR (fun b hb => by cases hb)
theorem c_leadL (hC : CX h A S) (hW : WF S) (hT : TI h (A 34) l n (ob S)) (ha : a ∈ l) (hD : ¬ D a) (hR : ∀ b ∈ l, Rch S sf b) (hP : PF h S fp D) (hk : ls (kd S a)) (h1 : ∀ h' l' fp', LdP h h' A S sf n l l' fp fp' D a → Q (.inl none) h') : vc_X3_leadOn a (some (A 34)) sf h Q := by
  have hao := hT.2.2.2.2.2.2.2.1 a ha
  have hRa := hR a ha
  obtain ⟨t, d1, d2, d3, d4, -⟩ := (hC.2.2.1.1 a hao).2.2.2.2.2 hk
  have d0 := (hC.2.2.1.1 a hao).1
  obtain ⟨w1, w2, w3, w4⟩ := (hW.2.1 a hao).2.2.2.2.2.2.2.1 hk
  have hnr := ((hW.2.1 a hao).2.1 (ls_nohd hk)).1
  intro P15 P35 q15 q35
  -- the third step
  have step3 : ∀ (h' : Hp) (l' : List Nat), TI h' (A 34) l' n (ob S) → TC h h' → pre l l' → (∀ b ∈ l', Rch S sf b) → (cm S a = 0 → ∀ b, li S a = some b → b ∈ l') → (kd S a = 4 → sf = 0 → ∀ b, re S a = some b → b ∈ l') → P35 h' := by
    intro h' l' hT' hc hp hR' e1 e2
    have hC' := hC.tf hW hc.1
    have i0 : fI h' 0 a = kd S a := by rw [hc.1.2.2.2.2.2.1 0 (by decide) (by decide) (by decide) (by decide)]; exact d0
    have i13 : fR h' 13 a = re S a := by rw [hc.1.2.2.2.2.2.2 13 (by decide) (by decide) (by decide) (by decide) (by decide)]; exact d1
    have i14 : fR h' 14 a = va S a := by rw [hc.1.2.2.2.2.2.2 14 (by decide) (by decide) (by decide) (by decide) (by decide)]; exact d2
    have t' : tg h' a = 4 := by rw [hc.1.1]; exact t
    have base : ∀ (h2 : Hp) (l2 : List Nat), TI h2 (A 34) l2 n (ob S) → TC h h2 → pre l l2 → (∀ b ∈ l2, Rch S sf b) → pre l' l2 → (kd S a = 7 → ∀ r b, re S a = some r → va S a = some b → b ∈ l2) → Q (.inl none) h2 := fun h2 l2 g1 g2 g3 g4 g5 g6 =>
      h1 h2 l2 fp ⟨g1, g2.1, g3, g4, (hP.tc g2).mono (fun _ q => Or.inl q), fun _ _ q => q, fun _ _ => rfl, fun i hi => by omega, fun k => absurd k (ls_no3 hk), fun _ e b hb => g5.mem (e1 e b hb), fun k e b hb => g5.mem (e2 k e b hb), fun k r b hr hb => Or.inl (g6 k r b hr hb)⟩
    refine q35 _ ⟨t', fun q => ?_, fun q => ⟨fun e => ?_, fun r hr => ⟨A 34, rfl, hT'.1, ?_⟩⟩⟩
    · rw [i0] at q
      exact base h' l' hT' hc hp hR' pre.refl (fun k => absurd k q)
    · rw [i13] at e
      exact base h' l' hT' hc hp hR' pre.refl (fun _ r b hr => by rw [e] at hr; cases hr)
    · rw [i0] at q
      rw [i13] at hr ⊢
      rw [hr]
      have hro := w1 r hr
      refine c_has hT' hro (hC'.thg hW r hro) (fun m => ⟨fun z => absurd z (by decide), fun _ => ⟨t', hT'.1, ?_⟩⟩) (fun m => ⟨fun _ => ⟨t', r, by rw [i13]; exact hr, hC'.thg hW r hro, ?_⟩, fun z => absurd rfl z⟩)
      · rw [i14]
        refine c_comeTo hT' (fun b hb => (w2 b hb).1) (hC'.thg hW) (fun h2 hT2 hc2 => base h2 _ hT2 (hc.trans hc2) (hp.trans (vis_pre _ _)) (fun b hb => ?_) (vis_pre _ _) (fun _ r' b _ hb => by rw [hb]; exact vis_mem))
        rcases mem_vis hb with z | z
        · exact hR' b z
        · exact (Rch_cls S sf).2.2.2.2.2 a hRa q r b hr (hR' r m) z
      · -- the pair waits at its referent
        have hPc := hP.tc hc
        have hnr2 : r ∉ l := fun z => m (hp.mem z)
        have hna : ∀ x, a ∉ fp x := fun x z => hD (hP.2 x a z).1
        have eR : ∀ k, k ≠ 7 → k ≠ 18 → fR (pR (pR h' 18 a (fR h' 7 r)) 7 r (some a)) k = fR h' k := fun k z1 z2 => by rw [fRx _ _ _ _ _ z1, fRx _ _ _ _ _ z2]
        refine h1 _ l' (up1 fp r (a :: fp r)) ⟨?_, ?_, hp, hR', ⟨fun x hx => ?_, fun x p hpx => ?_⟩, fun x p hpx => ?_, fun x hx => up1_ne (fun e => hnr2 (by rw [← e]; exact hx)), fun i hi => by omega, fun k => absurd k (ls_no3 hk), fun _ e b hb => e1 e b hb, fun k e b hb => e2 k e b hb, fun k r' b hr' hb => Or.inr ?_⟩
        · obtain ⟨z1, z2, z3, z4, z5, z6, z7⟩ := hT'
          exact ⟨z1, by rw [eR 23 (by decide) (by decide)]; exact z2, by rw [eR 24 (by decide) (by decide)]; exact z3, z4, z5, by rw [eR 6 (by decide) (by decide)]; exact z6, z7⟩
        · refine hc.1.trans ⟨rfl, rfl, rfl, rfl, rfl, fun k _ _ _ _ => rfl, fun k y1 y2 y3 y4 y5 => eR k y2 y3⟩
        · obtain ⟨g1, g2⟩ := hPc.1 x hx
          have e7 : fR (pR (pR h' 18 a (fR h' 7 r)) 7 r (some a)) 7 x = if x = r then some a else fR h' 7 x := by rw [fR_pR, fR_pR]; simp
          have e18 : ∀ y, fR (pR (pR h' 18 a (fR h' 7 r)) 7 r (some a)) 18 y = if y = a then fR h' 7 r else fR h' 18 y := fun y => by rw [fR_pR, if_neg (by simp), fR_pR]; simp
          rw [e7]
          by_cases ex : x = r
          · subst ex
            rw [up1_same, if_pos rfl]
            refine ⟨rfl, ?_, lnk_congr g2 (fun y hy => ?_)⟩
            · rw [e18, if_pos rfl]; exact g1
            · rw [e18, if_neg (fun e => hna x (by rw [← e]; exact hy))]
          · rw [up1_ne ex, if_neg ex]
            exact ⟨g1, lnk_congr g2 (fun y hy => by rw [e18, if_neg (fun e => hna x (by rw [← e]; exact hy))])⟩
        · unfold up1 at hpx
          split at hpx
          · rename_i ex; subst ex
            rcases List.mem_cons.mp hpx with z | z
            · rw [z]; exact ⟨Or.inr rfl, hao, q, hr⟩
            · exact ⟨Or.inl (hP.2 x p z).1, (hP.2 x p z).2⟩
          · exact ⟨Or.inl (hP.2 x p hpx).1, (hP.2 x p hpx).2⟩
        · unfold up1
          split
          · rename_i ex; subst ex; exact List.mem_cons_of_mem _ hpx
          · exact hpx
        · rw [hr] at hr'; cases hr'
          rw [up1_same]; exact List.mem_cons_self
  -- the second
  have step2 : ∀ (h' : Hp) (l' : List Nat), TI h' (A 34) l' n (ob S) → TC h h' → pre l l' → (∀ b ∈ l', Rch S sf b) → (cm S a = 0 → ∀ b, li S a = some b → b ∈ l') → P15 h' := by
    intro h' l' hT' hc hp hR' e1
    have hC' := hC.tf hW hc.1
    have i0 : fI h' 0 a = kd S a := by rw [hc.1.2.2.2.2.2.1 0 (by decide) (by decide) (by decide) (by decide)]; exact d0
    have i13 : fR h' 13 a = re S a := by rw [hc.1.2.2.2.2.2.2 13 (by decide) (by decide) (by decide) (by decide) (by decide)]; exact d1
    refine q15 _ ⟨by rw [hc.1.1]; exact t, fun q => ?_, fun q => ⟨fun q2 => ?_, fun q2 => ⟨A 34, rfl, hT'.1, ?_⟩⟩⟩
    · rw [i0] at q; exact step3 h' l' hT' hc hp hR' e1 (fun k => absurd k q)
    · exact step3 h' l' hT' hc hp hR' e1 (fun _ e => absurd e q2)
    · rw [i0] at q
      rw [i13]
      refine c_comeTo hT' w1 (hC'.thg hW) (fun h2 hT2 hc2 => step3 h2 _ hT2 (hc.trans hc2) (hp.trans (vis_pre _ _)) (fun b hb => ?_) (fun e b hb => (vis_pre _ _).mem (e1 e b hb)) (fun _ _ b hb => by rw [hb]; exact vis_mem))
      rcases mem_vis hb with z | z
      · exact hR' b z
      · exact (Rch_cls S sf).2.2.2.2.1 a hRa q q2 b z
  refine ⟨t, fun q => ?_, fun q => ⟨A 34, rfl, hT.1, ?_⟩⟩
  · rw [d4] at q; exact step2 h l hT TC.rfl' pre.refl hR (fun e => absurd e q)
  · rw [d4] at q
    rw [d3]
    refine c_comeTo hT (fun b hb => (w4 q b hb).1) (hC.thg hW) (fun h2 hT2 hc2 => step2 h2 _ hT2 hc2 (vis_pre _ _) (fun b hb => ?_) (fun _ b hb => by rw [hb]; exact vis_mem))
    rcases mem_vis hb with z | z
    · exact hR b z
    · exact (Rch_cls S sf).2.2.2.1 a hRa hk q b z
theorem c_leadKey (hC : CX h A S) (hW : WF S) (hT : TI h (A 34) l n (ob S)) (ha : a ∈ l) (hR : ∀ b ∈ l, Rch S sf b) (hP : PF h S fp D) (hD : ∀ p, D p → p ∈ l)
    (h1 : ∀ h' l', TI h' (A 34) l' n (ob S) → TF h h' → pre l l' → (∀ b ∈ l', Rch S sf b) → PF h' S (up1 fp a []) D → (∀ p ∈ fp a, ∀ b, va S p = some b → b ∈ l') → Q (.inl none) h') : vc_X4_leadOnAsKey a (some (A 34)) h Q := by
  have hao := hT.2.2.2.2.2.2.2.1 a ha
  have hRa := hR a ha
  obtain ⟨p1, p2⟩ := hP.1 a hao
  intro P hQ
  refine ⟨hC.thg hW a hao, ?_⟩
  rw [p1]
  have loop : ∀ (m z : List Nat) (h' : Hp) (l' : List Nat), z ++ m = fp a → lnk (fR h 18) m → TI h' (A 34) l' n (ob S) → TC h h' → pre l l' → (∀ b ∈ l', Rch S sf b) → (∀ p ∈ z, ∀ b, va S p = some b → b ∈ l') → P m.head? h' := by
    intro m
    induction m with
    | nil =>
      intro z h' l' hz hl hT' hc hp hR' hj
      have hC' := hC.tf hW hc.1
      refine hQ _ _ ⟨fun _ => ⟨hC'.thg hW a hao, h1 _ l' ?_ ?_ hp hR' ⟨fun r hr => ?_, fun r p hpr => ?_⟩ (fun p hp => hj p (by rw [← hz] at hp; simpa using hp))⟩, fun b hb => by cases hb⟩
      · obtain ⟨z1, z2, z3, z4, z5, z6, z7⟩ := hT'
        exact ⟨z1, by rw [fRx _ _ _ _ _ (by decide)]; exact z2, by rw [fRx _ _ _ _ _ (by decide)]; exact z3, z4, z5, by rw [fRx _ _ _ _ _ (by decide)]; exact z6, z7⟩
      · exact hc.1.trans ⟨rfl, rfl, rfl, rfl, rfl, fun k _ _ _ _ => rfl, fun k y1 y2 y3 y4 y5 => fRx _ _ _ _ _ y2⟩
      · obtain ⟨g1, g2⟩ := (hP.tc hc).1 r hr
        rw [fR_pR, fRx _ _ _ _ _ (by decide : (18 : Nat) ≠ 7)]
        by_cases e : r = a
        · subst e; rw [if_pos ⟨rfl, rfl⟩, up1_same]; exact ⟨rfl, trivial⟩
        · rw [if_neg (fun q => e q.2), up1_ne e]; exact ⟨g1, g2⟩
      · unfold up1 at hpr
        split at hpr
        · cases hpr
        · exact hP.2 r p hpr
    | cons p m ih =>
      intro z h' l' hz hl hT' hc hp hR' hj
      have hC' := hC.tf hW hc.1
      have hpa : p ∈ fp a := by rw [← hz]; simp
      obtain ⟨y1, y2, y3, y4⟩ := hP.2 a p hpa
      have kp : ls (kd S p) := by rw [y3]; exact ls7
      have tp := ((hC'.2.2.1.1 p y2).2.2.2.2.2 kp)
      have wp := (hW.2.1 p y2).2.2.2.2.2.2.2.1 kp
      refine hQ _ _ ⟨fun q => (by cases q), fun p' hp' => ?_⟩
      have hp' : some p = some p' := hp'
      cases hp'
      refine ⟨tp.1, A 34, rfl, hT'.1, ?_⟩
      rw [tp.2.2.1]
      refine c_comeTo hT' (fun b hb => (wp.2.1 b hb).1) (hC'.thg hW) (fun h2 hT2 hc2 => ?_)
      have hC2 := hC'.tf hW hc2.1
      refine ⟨((hC2.2.2.1.1 p y2).2.2.2.2.2 kp).1, ?_⟩
      rw [hc2.2.2, hc.2.2, hl.1]
      refine ih (z ++ [p]) h2 _ (by simp [← hz]) hl.2 hT2 (hc.trans hc2) (hp.trans (vis_pre _ _)) (fun b hb => ?_) (fun p2 hp2 b hb => ?_)
      · rcases mem_vis hb with q | q
        · exact hR' b q
        · exact (Rch_cls S sf).2.2.2.2.2 p (hR p (hD p y1)) y3 a b y4 hRa q
      · rcases List.mem_append.mp hp2 with q | q
        · exact (vis_pre _ _).mem (hj p2 q b hb)
        · rw [List.mem_singleton.mp q] at hb; rw [hb]; exact vis_mem
  exact loop (fp a) [] h l (by simp) p2 hT TC.rfl' pre.refl hR (fun p hp => by cases hp)
end LEAD
