/-! The model's makers, the rest. -/
section MNEW3
variable {g : Gh} {h : Hp} {A : Nat → Nat} {S : St} {Q : Option AV ⊕ String → Hp → Prop}
theorem m_row (a : Nat) (hM : MJ g h A S) (hW : WF S) (hRK : rK g < 2 ^ 31) {x1 x2 x3 : Int32} (h1 : ¬ inR S x1 ∨ ¬ (0 ≤ x2 ∧ x2 ≤ 3000) → MQ_ g h A S 1 0 Q) (h2 : ∀ i n, i < nt S → x1 = nI i → n ≤ 3000 → x2 = nI n → x3 = 0 → MkR g h A S a i 2 0 n none none none Q) (h3 : ∀ i n, i < nt S → x1 = nI i → n ≤ 3000 → x2 = nI n → ¬ x3 = 0 → MkR g h A S a i 1 n 0 none none none Q) : vc_X7_row (A 40) x1 x2 x3 h Q := by
  intro P24 P52 q24 q52
  obtain ⟨M0, F0, z0⟩ := m_start hM
  have bad : (¬ inR S x1 ∨ ¬ (0 ≤ x2 ∧ x2 ≤ 3000)) → P24 (pI h 40 (A 40) 0) := fun q => q24 _ ⟨M0.1.1, m_bad M0 F0 (h1 q)⟩
  have e30 : (3000 : Int32) = nI 3000 := rfl
  refine ⟨hM.1.1, m_none M0 hW (fun i hi e => ⟨fun q => absurd rfl q, fun _ => ⟨fun q => bad (Or.inr fun z => i32_nlt.mpr z.1 q), fun p1 => ⟨fun p2 => ?_, fun q => bad (Or.inr fun z => q z.2)⟩⟩⟩) (fun q => ⟨fun _ => bad (Or.inl q), fun z => absurd z (by decide)⟩)⟩
  obtain ⟨n, b1, rfl⟩ := nI_ex p1
  have c1 : n ≤ 3000 := by rw [e30] at p2; exact (nI_le' b1 (by decide)).mp p2
  subst e
  refine ⟨fun q => ⟨M0.1.1, ?_⟩, fun q => ⟨M0.1.1, ?_⟩⟩
  · exact m_hold (n1 := 0) (n2 := n) M0 hW hRK F0 z0 (Or.inr (Or.inr rfl)) (by omega) hi (h2 i n hi rfl c1 rfl q) (fun v H w => q52 _ _ _ _ ⟨A 40, rfl, w.1, w.2⟩)
  · exact m_hold (n1 := n) (n2 := 0) M0 hW hRK F0 z0 (Or.inr (Or.inl rfl)) (by omega) hi (h3 i n hi rfl c1 rfl q) (fun v H w => q52 _ _ _ _ ⟨A 40, rfl, w.1, w.2⟩)
theorem m_queue (a : Nat) (hM : MJ g h A S) (hW : WF S) (hRK : rK g < 2 ^ 31) {x1 : Int32} (h1 : ¬ inR S x1 → MQ_ g h A S 1 0 Q) (h2 : ∀ i, i < nt S → x1 = nI i → MkR g h A S a i 3 0 0 none none none Q) : vc_X7_queue (A 40) x1 h Q := by
  intro P37 q37
  obtain ⟨M0, F0, z0⟩ := m_start hM
  refine ⟨hM.1.1, m_none M0 hW (fun i hi e => ⟨fun _ => ⟨M0.1.1, ?_⟩, fun q => absurd rfl q⟩) (fun q => ⟨fun z => absurd z (by decide), fun _ => ⟨M0.1.1, m_bad M0 F0 (h1 q)⟩⟩)⟩
  subst e
  have R := h2 i hi rfl
  have hi' : i < nt (roomB S (clN 3 (0 + 0))) := by rw [(room_same hW).2.1]; exact hi
  refine m_make (n1 := 0) (n2 := 0) M0 hW hRK (Or.inr (Or.inl rfl)) (fun _ => ⟨rfl, rfl⟩) (by decide) (fun nf g' h' M' eK F' z' => ⟨fun _ => q37 _ _ ⟨M'.1.1, m_made0 M'.1 (R.1 nf g' h' M' (by omega) (F0.trans F') (z'.trans z0))⟩, fun q => absurd rfl q⟩) (fun ft g' h' o K' eK eN F' z' => ?_)
  have hno := K'.1.2.2.1
  have ho : o < nb g' := hno.2.2.2.2.2.2.2.2.2.2.2.2.2
  have ho1 : 1 ≤ o := hno.2.2.2.2.2.2.2.2.2.2.2.2.1
  have hnb := hno.2.2.1
  have f1 := K'.1.1
  refine ⟨fun q => absurd q (nI_ne0 (by omega) (by omega)), fun _ => ⟨f1.1, A 51, f1.r k51, f1.t k51 rfl, f1.v k51 (by show o < 15100; omega), q37 _ _ ⟨f1.1, ?_⟩⟩⟩
  rw [nI_clamp (show o < 2 ^ 31 by omega)]
  obtain ⟨ha, hN, hQ⟩ := R.2 ft
  have x : ∀ k', mky k' → k' ≠ 51 → aI (qI h' (A 51) o 0) (A k') = aI h' (A k') := fun k' hk q => aIx _ _ _ _ _ (f1.ne hk k51 q)
  obtain ⟨b42, b43, b44, b45, b46, b48, b49, b50, b52⟩ := K'.2.2.1
  refine m_end K' (roomB_wf hW _) ha hN hi' (FM.rfl'.qI k51) (fun k' q1 q2 y hy => by rw [aI_qI, if_neg (fun z => hy z.2)]) (fun k' q => by rw [x k' (by unfold mky; omega) (by omega)]) (x 61 k61 (by decide)) (x 62 k62 (by decide)) rfl (fun _ _ => rfl) K'.2.1.2.2.2.2.2.2.2.2.2.2.2.2.2.2.2 (fun q => absurd rfl (ls_no3 q)) (fun _ => rfl) (fun _ => ⟨by rw [x 48 k48 (by decide)]; exact b48, by rw [x 49 k49 (by decide)]; exact b49, by rw [aI_qI, if_pos ⟨rfl, rfl⟩]⟩) (fun g'' h'' M'' eK'' F'' z'' => hQ g'' h'' M'' (by omega) (F0.trans (F'.trans F'')) (z''.trans (z'.trans z0)))
theorem m_makeLoose (hM : MJ g h A S) (hW : WF S) (hRK : rK g < 2 ^ 31) {h0 : Hp} (hF : FM A h0 h) (z0 : fI h 40 (A 40) = 0) {k : Int32} {i a : Nat} {o1 o2 o3 : Option Nat} (hk : ls k) (hi : i < nt S) (h1 : MkR g h0 A S a i k 0 0 o1 o2 o3 Q) : vc_X7_makeLoose (A 40) (nI i) k (enc g o1) (enc g o2) (enc g o3) h Q := by
  intro P58 q58
  have hi' : i < nt (roomB S (clN k (0 + 0))) := by rw [(room_same hW).2.1]; exact hi
  refine ⟨hM.1.1, m_make (n1 := 0) (n2 := 0) hM hW hRK (Or.inr (Or.inr hk)) (fun _ => ⟨rfl, rfl⟩) (by decide) (fun nf g' h' M' eK F' z' => ⟨fun _ => q58 _ _ ⟨M'.1.1, m_made0 M'.1 (h1.1 nf g' h' M' (by omega) (hF.trans F') (z'.trans z0))⟩, fun q => absurd rfl q⟩) (fun ft g' h' o K' eK eN F' z' => ?_)⟩
  have hno := K'.1.2.2.1
  have ho : o < nb g' := hno.2.2.2.2.2.2.2.2.2.2.2.2.2
  have ho1 : 1 ≤ o := hno.2.2.2.2.2.2.2.2.2.2.2.2.1
  have hnb := hno.2.2.1
  have f1 := K'.1.1
  have g73 : fI h' 73 (A 40) = nI (rK g') := K'.2.1.2.2.2.2.2.2.2.2.2.2.2.2.2.2.2
  have ee : ∀ x, enc g' x = enc g x := fun x => by cases x with | none => rfl | some y => show nI (num g' y) = nI (num g y); rw [eN]
  have v : ∀ k, mky k → k ≤ 55 → vp_in (nI o) (ln h' (A k)) := fun k hk h55 => f1.v hk (by unfold mln; rw [if_pos h55]; omega)
  refine ⟨fun q => absurd q (nI_ne0 (by omega) (by omega)), fun _ => ⟨f1.1, A 48, f1.r k48, f1.t k48 rfl, v 48 k48 (by decide), A 49, f1.r k49, f1.t k49 rfl, v 49 k49 (by decide), A 50, f1.r k50, f1.t k50 rfl, v 50 k50 (by decide), A 51, f1.r k51, f1.t k51 rfl, v 51 k51 (by decide), q58 _ _ ⟨f1.1, ?_⟩⟩⟩
  rw [nI_clamp (show o < 2 ^ 31 by omega), g73, nI_1, ← ee o1, ← ee o2, ← ee o3]
  obtain ⟨ha, hN, hQ⟩ := h1.2 ft
  have F5 : FM A h' (qI (pI (qI (qI (qI h' (A 48) o (enc g' o1)) (A 49) o (enc g' o2)) (A 50) o (enc g' o3)) 73 (A 40) (nI (rK g' + 1))) (A 51) o (nI (rK g'))) := ((((FM.rfl'.qI k48).qI k49).qI k50).pI (by decide)).qI k51
  have x : ∀ k', mky k' → k' ≠ 51 → k' ≠ 50 → k' ≠ 49 → k' ≠ 48 → aI (qI (pI (qI (qI (qI h' (A 48) o (enc g' o1)) (A 49) o (enc g' o2)) (A 50) o (enc g' o3)) 73 (A 40) (nI (rK g' + 1))) (A 51) o (nI (rK g'))) (A k') = aI h' (A k') := fun k' hk q1 q2 q3 q4 => by
    rw [aIx _ _ _ _ _ (f1.ne hk k51 q1), aI_pI, aIx _ _ _ _ _ (f1.ne hk k50 q2), aIx _ _ _ _ _ (f1.ne hk k49 q3), aIx _ _ _ _ _ (f1.ne hk k48 q4)]
  refine m_end (r := rK g' + 1) K' (roomB_wf hW _) ha hN hi' F5 (fun k' q1 q2 y hy => by simp only [aI_qI, aI_pI, hy, and_false, if_false]) (fun k' q => by rw [x k' (by unfold mky; omega) (by omega) (by omega) (by omega) (by omega)]) (x 61 k61 (by decide) (by decide) (by decide) (by decide)) (x 62 k62 (by decide) (by decide) (by decide) (by decide)) (by simp only [aL_qI, aL_pI]) (fun k' q => by rw [fI_qI, fIx _ _ _ _ _ q, fI_qI, fI_qI, fI_qI]) (by rw [fI_qI, fI_pI, if_pos ⟨rfl, rfl⟩]) (fun _ => ⟨?_, ?_, ?_, ?_, rfl⟩) (fun q => absurd hk q) (fun q => absurd q (ls_no3 hk)) (fun g'' h'' M'' eK'' F'' z'' => hQ g'' h'' M'' (by omega) (hF.trans (F'.trans F'')) (z''.trans (z'.trans z0)))
  · rw [aIx _ _ _ _ _ (f1.ne k48 k51 (by decide)), aI_pI, aIx _ _ _ _ _ (f1.ne k48 k50 (by decide)), aIx _ _ _ _ _ (f1.ne k48 k49 (by decide)), aI_qI, if_pos ⟨rfl, rfl⟩]
  · rw [aIx _ _ _ _ _ (f1.ne k49 k51 (by decide)), aI_pI, aIx _ _ _ _ _ (f1.ne k49 k50 (by decide)), aI_qI, if_pos ⟨rfl, rfl⟩]
  · rw [aIx _ _ _ _ _ (f1.ne k50 k51 (by decide)), aI_pI, aI_qI, if_pos ⟨rfl, rfl⟩]
  · rw [aI_qI, if_pos ⟨rfl, rfl⟩]
theorem m_loose (a : Nat) (hM : MJ g h A S) (hW : WF S) (hRK : rK g < 2 ^ 31) {x1 x2 x3 x4 : Int32} (h1 : ¬ inR S x1 ∨ ¬ (0 ≤ x2 ∧ x2 ≤ 2) ∨ ¬ inR S x3 ∨ ¬ inN S x4 → MQ_ g h A S 1 0 Q)
    (h2 : inR S x1 → (0 ≤ x2 ∧ x2 ≤ 2) → inR S x3 → inN S x4 → (rtN S x3 = none ∨ (x4 ≠ -1 ∧ ∀ a, rtN S x4 = some a → ¬ kd S a = 3)) → MQ_ g h A S 2 0 Q)
    (h3 : ∀ i m, i < nt S → x1 = nI i → m ≤ 2 → x2 = nI m → inR S x3 → inN S x4 → rtN S x3 ≠ none → (∀ a, rtN S x4 = some a → kd S a = 3) → (x4 ≠ -1 → rtN S x4 ≠ none) → MkR g h A S a i (4 + x2) 0 0 (rtN S x3) none (rtN S x4) Q) : vc_X7_loose (A 40) x1 x2 x3 x4 h Q := by
  intro P39 P68 P73 q39 q68 q73
  obtain ⟨M0, F0, z0⟩ := m_start hM
  have hnt := hW.nt
  have bad : (¬ inR S x1 ∨ ¬ (0 ≤ x2 ∧ x2 ≤ 2) ∨ ¬ inR S x3 ∨ ¬ inN S x4) → P39 (pI h 40 (A 40) 0) := fun q => q39 _ ⟨M0.1.1, m_bad M0 F0 (h1 q)⟩
  have e2 : (2 : Int32) = nI 2 := rfl
  refine ⟨hM.1.1, m_none M0 hW (fun i hi e => ⟨fun q => absurd rfl q, fun _ => ⟨fun q => bad (Or.inr (Or.inl fun z => i32_nlt.mpr z.1 q)), fun p1 => ⟨fun q => bad (Or.inr (Or.inl fun z => i32_nlt.mpr z.2 q)), fun p2 => ⟨M0.1.1, m_none M0 hW (fun j hj e3 => ⟨fun q => absurd rfl q, fun _ => ⟨M0.1.1, m_noneOrNull M0 hW (fun hx4 => ⟨fun _ => ⟨M0.1.1, A 61, M0.1.r k61, M0.1.t k61 rfl, ?_⟩, fun q => absurd rfl q⟩) (fun q => ⟨fun z => absurd z (by decide), fun _ => bad (Or.inr (Or.inr (Or.inr q)))⟩)⟩⟩) (fun q => ⟨fun _ => bad (Or.inr (Or.inr (Or.inl q))), fun z => absurd z (by decide)⟩)⟩⟩⟩⟩) (fun q => ⟨fun _ => bad (Or.inl q), fun z => absurd z (by decide)⟩)⟩
  obtain ⟨m, b1, rfl⟩ := nI_ex p1
  have c1 : m ≤ 2 := by have := i32_nlt.mp p2; rw [e2] at this; exact (nI_le' b1 (by decide)).mp this
  subst e; subst e3
  have hR3 : inR S (nI j) := ⟨j, hj, rfl⟩
  have hx2 : 0 ≤ nI m ∧ nI m ≤ 2 := ⟨nI_pos' b1, by rw [e2]; exact (nI_le' b1 (by decide)).mpr c1⟩
  have er : rtN S (nI j) = rt S j := rtN_nI (by omega)
  have hrob : ∀ b, rt S j = some b → b ∈ ob S := fun b hb => hW.2.2.2.2.2.2.2.2.2.2 j hj b hb
  refine ⟨M0.rv hW hj, ?_⟩
  rw [M0.root hW hj]
  have lk : ls (4 + nI m) := by
    have : m = 0 ∨ m = 1 ∨ m = 2 := by omega
    rcases this with rfl | rfl | rfl
    · exact Or.inl (by decide)
    · exact Or.inr (Or.inl (by decide))
    · exact Or.inr (Or.inr (Or.inl (by decide)))
  refine ⟨fun q => q68 _ ⟨M0.1.1, m_wrong M0 F0 (h2 ⟨i, hi, rfl⟩ hx2 hR3 hx4 (Or.inl (by rw [er]; exact (M0.encz hrob).mp q)))⟩, fun q => ?_⟩
  have hne : rtN S (nI j) ≠ none := by rw [er]; exact fun z => q ((M0.encz hrob).mpr z)
  have good : (∀ b, rtN S x4 = some b → kd S b = 3) → (x4 ≠ -1 → rtN S x4 ≠ none) → P73 (pI h 40 (A 40) 0) := fun w1 w2 => by
    refine q73 _ ⟨M0.1.1, A 61, M0.1.r k61, M0.1.t k61 rfl, M0.rv hW hj, m_of M0 hW hx4 ⟨M0.1.1, ?_⟩⟩
    rw [M0.root hW hj, ← er]
    exact m_makeLoose (o2 := none) M0 hW hRK F0 z0 lk hi (h3 i m hi rfl c1 rfl hR3 hx4 hne w1 w2)
  rcases hx4 with rfl | ⟨t, ht, rfl⟩
  · exact ⟨fun _ => good (fun b hb => by unfold rtN at hb; rw [if_pos rfl] at hb; cases hb) (fun z => absurd rfl z), fun z => absurd (by decide) z⟩
  · have e4 : rtN S (nI t) = rt S t := rtN_nI (by omega)
    have hm1 : nI t ≠ -1 := nI_nm1 (by omega)
    refine ⟨fun z => absurd z (nI_pos (by omega)), fun _ => m_is M0 hW ht (fun b hb kb => ⟨fun _ => good (fun c hc => by rw [e4, hb] at hc; cases hc; exact kb) (fun _ => by rw [e4, hb]; simp), fun z => absurd z (by decide)⟩) (fun hno => ⟨fun z => absurd rfl z, fun _ => q68 _ ⟨M0.1.1, m_wrong M0 F0 (h2 ⟨i, hi, rfl⟩ hx2 hR3 (Or.inr ⟨t, ht, rfl⟩) (Or.inr ⟨hm1, fun b hb => hno b (by rw [← e4]; exact hb)⟩))⟩⟩)⟩
theorem m_pair (a : Nat) (hM : MJ g h A S) (hW : WF S) (hRK : rK g < 2 ^ 31) {x1 x2 x3 x4 : Int32} (h1 : ¬ inR S x1 ∨ ¬ inR S x2 ∨ ¬ inN S x3 ∨ ¬ inN S x4 → MQ_ g h A S 1 0 Q)
    (h2 : inR S x1 → inR S x2 → inN S x3 → inN S x4 → (rtN S x2 = none ∨ (x4 ≠ -1 ∧ ∀ a, rtN S x4 = some a → ¬ kd S a = 3)) → MQ_ g h A S 2 0 Q)
    (h3 : ∀ i, i < nt S → x1 = nI i → inR S x2 → inN S x3 → inN S x4 → rtN S x2 ≠ none → (∀ a, rtN S x4 = some a → kd S a = 3) → (x4 ≠ -1 → rtN S x4 ≠ none) → MkR g h A S a i 7 0 0 (rtN S x2) (rtN S x3) (rtN S x4) Q) : vc_X7_pair (A 40) x1 x2 x3 x4 h Q := by
  intro P38 P67 P72 q38 q67 q72
  obtain ⟨M0, F0, z0⟩ := m_start hM
  have hnt := hW.nt
  have bad : (¬ inR S x1 ∨ ¬ inR S x2 ∨ ¬ inN S x3 ∨ ¬ inN S x4) → P38 (pI h 40 (A 40) 0) := fun q => q38 _ ⟨M0.1.1, m_bad M0 F0 (h1 q)⟩
  refine ⟨hM.1.1, m_none M0 hW (fun i hi e => ⟨fun q => absurd rfl q, fun _ => ⟨M0.1.1, m_none M0 hW (fun j hj e3 => ⟨fun q => absurd rfl q, fun _ => ⟨M0.1.1, m_noneOrNull M0 hW (fun hx3 => ⟨fun q => absurd rfl q, fun _ => ⟨M0.1.1, m_noneOrNull M0 hW (fun hx4 => ⟨fun _ => ⟨M0.1.1, A 61, M0.1.r k61, M0.1.t k61 rfl, ?_⟩, fun q => absurd rfl q⟩) (fun q => ⟨fun z => absurd z (by decide), fun _ => bad (Or.inr (Or.inr (Or.inr q)))⟩)⟩⟩) (fun q => ⟨fun _ => bad (Or.inr (Or.inr (Or.inl q))), fun z => absurd z (by decide)⟩)⟩⟩) (fun q => ⟨fun _ => bad (Or.inr (Or.inl q)), fun z => absurd z (by decide)⟩)⟩⟩) (fun q => ⟨fun _ => bad (Or.inl q), fun z => absurd z (by decide)⟩)⟩
  subst e; subst e3
  have hR3 : inR S (nI j) := ⟨j, hj, rfl⟩
  have er : rtN S (nI j) = rt S j := rtN_nI (by omega)
  have hrob : ∀ b, rt S j = some b → b ∈ ob S := fun b hb => hW.2.2.2.2.2.2.2.2.2.2 j hj b hb
  refine ⟨M0.rv hW hj, ?_⟩
  rw [M0.root hW hj]
  refine ⟨fun q => q67 _ ⟨M0.1.1, m_wrong M0 F0 (h2 ⟨i, hi, rfl⟩ hR3 hx3 hx4 (Or.inl (by rw [er]; exact (M0.encz hrob).mp q)))⟩, fun q => ?_⟩
  have hne : rtN S (nI j) ≠ none := by rw [er]; exact fun z => q ((M0.encz hrob).mpr z)
  have good : (∀ b, rtN S x4 = some b → kd S b = 3) → (x4 ≠ -1 → rtN S x4 ≠ none) → P72 (pI h 40 (A 40) 0) := fun w1 w2 => by
    refine q72 _ ⟨M0.1.1, A 61, M0.1.r k61, M0.1.t k61 rfl, M0.rv hW hj, m_of M0 hW hx3 ⟨M0.1.1, m_of M0 hW hx4 ⟨M0.1.1, ?_⟩⟩⟩
    rw [M0.root hW hj, ← er]
    exact m_makeLoose M0 hW hRK F0 z0 ls7 hi (h3 i hi rfl hR3 hx3 hx4 hne w1 w2)
  rcases hx4 with rfl | ⟨t, ht, rfl⟩
  · exact ⟨fun _ => good (fun b hb => by unfold rtN at hb; rw [if_pos rfl] at hb; cases hb) (fun z => absurd rfl z), fun z => absurd (by decide) z⟩
  · have e4 : rtN S (nI t) = rt S t := rtN_nI (by omega)
    have hm1 : nI t ≠ -1 := nI_nm1 (by omega)
    refine ⟨fun z => absurd z (nI_pos (by omega)), fun _ => m_is M0 hW ht (fun b hb kb => ⟨fun _ => good (fun c hc => by rw [e4, hb] at hc; cases hc; exact kb) (fun _ => by rw [e4, hb]; simp), fun z => absurd z (by decide)⟩) (fun hno => ⟨fun z => absurd rfl z, fun _ => q67 _ ⟨M0.1.1, m_wrong M0 F0 (h2 ⟨i, hi, rfl⟩ hR3 hx3 (Or.inr ⟨t, ht, rfl⟩) (Or.inr ⟨hm1, fun b hb => hno b (by rw [← e4]; exact hb)⟩))⟩⟩)⟩
theorem m_coll (hM : MJ g h A S) (hW : WF S) (hRK : rK g < 2 ^ 31) {sf : Int32} (h1 : ∀ g' h', MJ g' h' A (coll S sf) → rK g' = rK g → FM A h h' → fI h' 40 (A 40) = 0 → Q (.inl (some (vi (nI (us S) - nI (us (coll S sf)))))) h') : vc_X7_collect (A 40) sf h Q := by
  obtain ⟨M0, F0, z0⟩ := m_start hM
  exact ⟨hM.1.1, m_collectAll M0 hW hRK (fun g' h' M' eK _ F' z' => h1 g' h' M' eK (F0.trans F') (z'.trans z0))⟩
end MNEW3
