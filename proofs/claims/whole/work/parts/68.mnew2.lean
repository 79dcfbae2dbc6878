/-! The model's makers. -/
section MNEW2
variable {g : Gh} {h : Hp} {A : Nat → Nat} {S : St} {Q : Option AV ⊕ String → Hp → Prop}
theorem m_end {o i n1 n2 a r : Nat} {k : Int32} {o1 o2 o3 : Option Nat} (hK : MK g h A S o k n1 n2) (hW : WF S) (ha : a ∉ ob S) (hN : NSh S k n1 n2 o1 o2 o3) (hi : i < nt S) {h5 : Hp} (F5 : FM A h h5)
    (e : ∀ k', 42 ≤ k' → k' ≤ 52 → ∀ x, x ≠ o → aI h5 (A k') x = aI h (A k') x) (eo : ∀ k', (k' = 42 ∨ k' = 43 ∨ k' = 44 ∨ k' = 45 ∨ k' = 46 ∨ k' = 52) → aI h5 (A k') o = aI h (A k') o)
    (e61 : aI h5 (A 61) = aI h (A 61)) (e62 : aI h5 (A 62) = aI h (A 62)) (eL : aL h5 (A 56) = aL h (A 56)) (eF : ∀ k', k' ≠ 73 → fI h5 k' (A 40) = fI h k' (A 40)) (eK : fI h5 73 (A 40) = nI r)
    (hl : ls k → aI h5 (A 48) o = enc g o1 ∧ aI h5 (A 49) o = enc g o2 ∧ aI h5 (A 50) o = enc g o3 ∧ aI h5 (A 51) o = nI (rK g) ∧ r = rK g + 1) (hl' : ¬ ls k → r = rK g) (h3 : k = 3 → aI h5 (A 48) o = 0 ∧ aI h5 (A 49) o = 0 ∧ aI h5 (A 51) o = 0)
    (h1 : ∀ g' h', MJ g' h' A (mkS S a i k n1 n2 o1 o2 o3) → rK g' = r → FM A h h' → fI h' 40 (A 40) = fI h 40 (A 40) → Q (.inl (some (vi (nI (clN k (n1 + n2)))))) h') : vc_X7_made (A 40) (nI i) (nI o) h5 Q := by
  have f1 := hK.1.1
  have f5 := f1.fm F5
  have hno := hK.1.2.2.1
  have ho : o < nb g := hno.2.2.2.2.2.2.2.2.2.2.2.2.2
  have ho1 : 1 ≤ o := hno.2.2.2.2.2.2.2.2.2.2.2.2.1
  have hnb := hno.2.2.1
  have hnt := hW.nt
  obtain ⟨b42, b43, b44, b45, -⟩ := hK.2.2.1
  have co : (nI o).toNatClampNeg = o := nI_clamp (by omega)
  have F6 : FM A h5 (qI h5 (A 61) i (nI o)) := FM.rfl'.qI k61
  have f6 := f5.fm F6
  have vo : ∀ k, mky k → k ≤ 55 → vp_in (nI o) (ln (qI h5 (A 61) i (nI o)) (A k)) := fun k hk h55 => f6.v hk (by unfold mln; rw [if_pos h55]; omega)
  have x : ∀ k', mky k' → k' ≠ 61 → aI (qI h5 (A 61) i (nI o)) (A k') = aI h5 (A k') := fun k' hk q => aIx _ _ _ _ _ (f5.ne hk k61 q)
  have M6 := mk_fin hK hW ha hN f6 (i := i) (r := r) (fun k' q1 q2 y hy => by rw [x k' (by unfold mky; omega) (by omega)]; exact e k' q1 q2 y hy) (fun k' q => by rw [x k' (by unfold mky; omega) (by omega)]; exact eo k' q) (fun y => by rw [aI_qI, e61]; simp) (by rw [x 62 k62 (by decide)]; exact e62) (by rw [aL_qI]; exact eL) (fun k' q => by rw [fI_qI]; exact eF k' q) (by rw [fI_qI]; exact eK)
    (by rw [x 48 k48 (by decide), x 49 k49 (by decide), x 50 k50 (by decide), x 51 k51 (by decide)]; exact hl) hl' (by rw [x 48 k48 (by decide), x 49 k49 (by decide), x 51 k51 (by decide)]; exact h3)
  have z6 : fI (qI h5 (A 61) i (nI o)) 40 (A 40) = fI h 40 (A 40) := by rw [fI_qI]; exact eF 40 (by decide)
  refine ⟨fun _ => ⟨f5.1, A 61, f5.r k61, f5.t k61 rfl, f5.v k61 (by show i < 384; omega), ?_⟩, fun q => absurd q (nI_ne0 (by omega) (by omega))⟩
  rw [nI_clamp (show i < 2 ^ 31 by omega)]
  refine ⟨f6.1, A 42, f6.r k42, f6.t k42 rfl, vo 42 k42 (by decide), A 44, f6.r k44, f6.t k44 rfl, vo 44 k44 (by decide), A 45, f6.r k45, f6.t k45 rfl, vo 45 k45 (by decide), ?_⟩
  rw [co, x 42 k42 (by decide), x 44 k44 (by decide), x 45 k45 (by decide), eo 42 (by omega), eo 44 (by omega), eo 45 (by omega), b42, b44, b45, nI_add]
  exact m_cells hN.1 (h1 _ _ M6 rfl (F5.trans F6) z6)
/-- what a maker of the model gives, where the class has made a -/
def MkR (g : Gh) (h : Hp) (A : Nat → Nat) (S : St) (a i : Nat) (k : Int32) (n1 n2 : Nat) (o1 o2 o3 : Option Nat) (Q : Option AV ⊕ String → Hp → Prop) : Prop :=
  (¬ fitS (roomB S (clN k (n1 + n2))) (clN k (n1 + n2)) → ∀ g' h', MJ g' h' A (wC (roomB S (clN k (n1 + n2))) 9 (cn (roomB S (clN k (n1 + n2))) 9 + 1)) → rK g' ≤ rK g + 1 → FM A h h' → fI h' 40 (A 40) = 0 → Q (.inl (some (vi 0))) h') ∧
  (fitS (roomB S (clN k (n1 + n2))) (clN k (n1 + n2)) → a ∉ ob (roomB S (clN k (n1 + n2))) ∧ NSh (roomB S (clN k (n1 + n2))) k n1 n2 o1 o2 o3 ∧ ∀ g' h', MJ g' h' A (mkS (roomB S (clN k (n1 + n2))) a i k n1 n2 o1 o2 o3) → rK g' ≤ rK g + 1 → FM A h h' → fI h' 40 (A 40) = 0 → Q (.inl (some (vi (nI (clN k (n1 + n2)))))) h')
theorem m_made0 (hM : MF h A) (h1 : Q (.inl (some (vi 0))) h) {x : Int32} : vc_X7_made (A 40) x 0 h Q := ⟨fun q => absurd rfl q, fun _ => h1⟩
theorem m_hold (hM : MJ g h A S) (hW : WF S) (hRK : rK g < 2 ^ 31) {h0 : Hp} (hF : FM A h0 h) (z0 : fI h 40 (A 40) = 0) {k : Int32} {n1 n2 i : Nat} (hk : hd k) (hn : n1 + n2 ≤ 3000) (hi : i < nt S) {a : Nat} (h1 : MkR g h0 A S a i k n1 n2 none none none Q)
    {R : Int32 → Hp → Prop} (hR : ∀ v H, (tg H (A 40) = 7 ∧ vc_X7_made (A 40) (nI i) v H Q) → R v H) : vc_X7_make (A 40) k (nI n1) (nI n2) h (qi R qn) := by
  have hi' : i < nt (roomB S (clN k (n1 + n2))) := by rw [(room_same hW).2.1]; exact hi
  refine m_make hM hW hRK (Or.inl hk) (fun q => absurd hk q) hn (fun nf g' h' M' eK F' z' => hR _ _ ⟨M'.1.1, m_made0 M'.1 (h1.1 nf g' h' M' (by omega) (hF.trans F') (z'.trans z0))⟩) (fun ft g' h' o K' eK eN F' z' => hR _ _ ⟨K'.1.1.1, ?_⟩)
  obtain ⟨ha, hN, hQ⟩ := h1.2 ft
  exact m_end K' (roomB_wf hW _) ha hN hi' FM.rfl' (fun _ _ _ _ _ => rfl) (fun _ _ => rfl) rfl rfl rfl (fun _ _ => rfl) K'.2.1.2.2.2.2.2.2.2.2.2.2.2.2.2.2.2 (fun q => absurd hk (ls_nohd q)) (fun _ => rfl) (fun q => absurd q (hd_no3 hk)) (fun g'' h'' M'' eK'' F'' z'' => hQ g'' h'' M'' (by omega) (hF.trans (F'.trans F'')) (z''.trans (z'.trans z0)))
theorem m_plain (a : Nat) (hM : MJ g h A S) (hW : WF S) (hRK : rK g < 2 ^ 31) {x1 x2 x3 : Int32} (h1 : ¬ inR S x1 ∨ ¬ (0 ≤ x2 ∧ x2 ≤ 20) ∨ ¬ (0 ≤ x3 ∧ x3 ≤ 20) → MQ_ g h A S 1 0 Q) (h2 : ∀ i n1 n2, i < nt S → x1 = nI i → n1 ≤ 20 → x2 = nI n1 → n2 ≤ 20 → x3 = nI n2 → MkR g h A S a i 0 n1 n2 none none none Q) : vc_X7_plain (A 40) x1 x2 x3 h Q := by
  intro P33 q33
  obtain ⟨M0, F0, z0⟩ := m_start hM
  have bad : (¬ inR S x1 ∨ ¬ (0 ≤ x2 ∧ x2 ≤ 20) ∨ ¬ (0 ≤ x3 ∧ x3 ≤ 20)) → P33 (pI h 40 (A 40) 0) := fun q => q33 _ ⟨M0.1.1, m_bad M0 F0 (h1 q)⟩
  have e20 : (20 : Int32) = nI 20 := rfl
  refine ⟨hM.1.1, m_none M0 hW (fun i hi e => ⟨fun q => absurd rfl q, fun _ => ⟨fun q => bad (Or.inr (Or.inl fun z => i32_nlt.mpr z.1 q)), fun p1 => ⟨fun q => bad (Or.inr (Or.inl fun z => i32_nlt.mpr z.2 q)), fun p2 => ⟨fun q => bad (Or.inr (Or.inr fun z => i32_nlt.mpr z.1 q)), fun p3 => ⟨fun p4 => ?_, fun q => bad (Or.inr (Or.inr fun z => q z.2))⟩⟩⟩⟩⟩) (fun q => ⟨fun _ => bad (Or.inl q), fun z => absurd z (by decide)⟩)⟩
  obtain ⟨n1, b1, rfl⟩ := nI_ex p1
  obtain ⟨n2, b2, rfl⟩ := nI_ex p3
  have c1 : n1 ≤ 20 := by have := i32_nlt.mp p2; rw [e20] at this; exact (nI_le' b1 (by decide)).mp this
  have c2 : n2 ≤ 20 := by rw [e20] at p4; exact (nI_le' b2 (by decide)).mp p4
  subst e
  exact ⟨M0.1.1, m_hold M0 hW hRK F0 z0 (Or.inl rfl) (by omega) hi (h2 i n1 n2 hi rfl c1 rfl c2 rfl) (fun v H q => q)⟩
end MNEW2
