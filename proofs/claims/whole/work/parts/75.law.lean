/-! The law: every call answers as the model does. -/
theorem l_end {L y : Nat} (hL : L ≤ 2562) (hy : y ≤ 2562) (h : ¬ (Int32.ofNat L - (5 : Int32) < nI y)) : y + 5 ≤ L := by
  have e : (Int32.ofNat L - (5 : Int32)).toInt = (L : Int) - 5 := by
    rw [Int32.toInt_sub]
    have h1 : (Int32.ofNat L).toInt = (L : Int) := nI_toInt (n := L) (by omega)
    have h2 : (5 : Int32).toInt = 5 := by decide
    rw [h1, h2]
    exact Int.bmod_eq_of_le (by omega) (by omega)
  rw [Int32.lt_iff_toInt_lt, e, nI_toInt (by omega)] at h
  omega
theorem law_ {L : Nat} {xs : Nat → Int32} {Q : Option AV ⊕ String → Hp → Prop} (hL : L ≤ 2562) (hQ : ∀ h, Q (.inl (some (vi (1 : Int32)))) h) : vc_L_law L xs hz0 Q := by
  intro P43 P168 P248 P344 P400 P492 P584 P652 P732 P812 P923 P990 P1086 P1154 P1238 P1306 P1362 P1418 P1474 P1549 P1605 P1649 P1690 P1746 P1802 P1857 P275 P1017 P1175 P1540 P1664 P308 P1050 P1202 P1682
  intro q43 q168 q248 q344 q400 q492 q584 q652 q732 q812 q923 q990 q1086 q1154 q1238 q1306 q1362 q1418 q1474 q1549 q1605 q1649 q1690 q1746 q1802 q1857 q275 q1017 q1175 q1540 q1664 q308 q1050 q1202 q1682
  intro a1 f1
  obtain ⟨r, r1, r2, er⟩ := rmv_ex (cel L xs 0)
  refine c_init (fun h4 B1 e0 X => ?_)
  intro a6 f6
  refine m_init f6 (fun h9 B2 M => ?_)
  intro a11 f11
  rw [er] at X M
  obtain ⟨d0, d40, d41, CC, MM, t9, l9⟩ := start_ X M f11
  have W0 := WF0 r1 r2
  generalize A_ B1 B2 a6 a11 = A at *
  generalize nA h9 a11 9 1 = H at *
  have loop : ∀ (d j : Nat) (h : Hp) (S : St) (g : Gh) (b K : Nat), d + j = 513 → j ≤ 512 → LI A b K h S g → b ≤ 2 * j → K ≤ j → P43 (some (A 0)) (some (A 40)) (some (A 41)) (nI (2 + 5 * j)) h := by
    intro d
    induction d with
    | zero => intro j h S g b K hd hj; omega
    | succ d ih =>
      intro j h S g b K hd hj I hb2 hKj
      have cy : (nI (2 + 5 * j)).toNatClampNeg = 2 + 5 * j := nI_clamp (by omega)
      have bd : (nI (2 + 5 * j)).toNatClampNeg ≤ 2562 := by rw [cy]; omega
      have e5 : nI (2 + 5 * j) + 5 = nI (2 + 5 * (j + 1)) := by
        have : nI (2 + 5 * j) + nI 5 = nI (2 + 5 * (j + 1)) := by rw [nI_add]; congr 1
        exact this
      refine q43 _ _ _ _ _ ⟨bd, fun _ => hQ h, fun q => ?_⟩
      have hl : 2 + 5 * j + 5 ≤ L := l_end hL (by omega) q
      have hb : b + 2 < 2 ^ 31 := by omega
      have hK : K < 2 ^ 31 := by omega
      have hG : Go A b K (fun h => P1857 (some (A 0)) (some (A 40)) (some (A 41)) (nI (2 + 5 * j)) h) := fun h' S' g' b' hb' I' => q1857 _ _ _ _ _ ⟨bd, by rw [e5, cy, nI_clamp (by omega)]; omega, by rw [e5]; exact ih (j + 1) h' S' g' b' (K + 1) (by omega) (by omega) I' (by omega) (by omega)⟩
      have v0 : vp_in (nI (2 + 5 * j)) L := vin (by omega) (by omega)
      have v1 : vp_in (nI (2 + 5 * j) + (1 : Int32)) L := by rw [nI_1]; exact vin (by omega) (by omega)
      have v2 : vp_in (nI (2 + 5 * j) + (2 : Int32)) L := by
        have : vp_in (nI (2 + 5 * j) + nI 2) L := by rw [nI_add]; exact vin (by omega) (by omega)
        exact this
      have v3 : vp_in (nI (2 + 5 * j) + (3 : Int32)) L := by
        have : vp_in (nI (2 + 5 * j) + nI 3) L := by rw [nI_add]; exact vin (by omega) (by omega)
        exact this
      have v4 : vp_in (nI (2 + 5 * j) + (4 : Int32)) L := by
        have : vp_in (nI (2 + 5 * j) + nI 4) L := by rw [nI_add]; exact vin (by omega) (by omega)
        exact this
      refine ⟨v0, ?_, ?_, ?_, ?_, ?_, ?_, ?_, ?_, ?_, ?_, ?_, ?_, ?_, ?_, ?_, ?_, ?_, ?_, ?_, ?_, ?_, ?_, ?_, ?_, fun _ => hG h S g b (by omega) ⟨I.1, I.2.1, I.2.2.1, I.2.2.2.1, I.2.2.2.2.1, by have := I.2.2.2.2.2; omega⟩⟩
      · exact fun _ => q168 _ _ _ _ _ ⟨bd, v1, v2, v3, g_plain (R0 := fun h => Q (.inl (some (vi (0 : Int32)))) h) I hG hb hK (fun v H t q => ⟨v1, v2, v3, A 40, rfl, t, q⟩)⟩
      · exact fun _ => q248 _ _ _ _ _ ⟨bd, v1, v2, v3, fun z => q275 _ _ _ _ _ _ _ _ _ ⟨bd, g_row (R0 := fun h => Q (.inl (some (vi (0 : Int32)))) h) I hG hb hK (by exact fun v w h f => ⟨A 40, rfl, f⟩) (fun v H t q => ⟨v1, v2, v3, fun _ => q308 _ _ _ _ _ _ _ _ _ _ ⟨bd, A 40, rfl, t, q⟩, fun z' => absurd z z'⟩)⟩, fun z => q275 _ _ _ _ _ _ _ _ _ ⟨bd, g_row (R0 := fun h => Q (.inl (some (vi (0 : Int32)))) h) I hG hb hK (by exact fun v w h f => ⟨A 40, rfl, f⟩) (fun v H t q => ⟨v1, v2, v3, fun z' => absurd z' z, fun _ => q308 _ _ _ _ _ _ _ _ _ _ ⟨bd, A 40, rfl, t, q⟩⟩)⟩⟩
      · exact fun _ => q344 _ _ _ _ _ ⟨bd, v1, g_queue (R0 := fun h => Q (.inl (some (vi (0 : Int32)))) h) I hG hb hK (fun v H t q => ⟨v1, A 40, rfl, t, q⟩)⟩
      · exact fun _ => q400 _ _ _ _ _ ⟨bd, v1, v2, v3, v4, g_loose (R0 := fun h => Q (.inl (some (vi (0 : Int32)))) h) I hG hb hK (fun v H t q => ⟨v1, v2, v3, v4, A 40, rfl, t, q⟩)⟩
      · exact fun _ => q492 _ _ _ _ _ ⟨bd, v1, v2, v3, v4, g_pair (R0 := fun h => Q (.inl (some (vi (0 : Int32)))) h) I hG hb hK (fun v H t q => ⟨v1, v2, v3, v4, A 40, rfl, t, q⟩)⟩
      · exact fun _ => q584 _ _ _ _ _ ⟨bd, v1, v2, g_copy (R0 := fun h => Q (.inl (some (vi (0 : Int32)))) h) I hG (fun v H t q => ⟨v1, v2, A 40, rfl, t, q⟩)⟩
      · exact fun _ => q652 _ _ _ _ _ ⟨bd, v1, v2, v3, g_link (R0 := fun h => Q (.inl (some (vi (0 : Int32)))) h) I hG (fun v H t q => ⟨v1, v2, v3, A 40, rfl, t, q⟩)⟩
      · exact fun _ => q732 _ _ _ _ _ ⟨bd, v1, v2, v3, g_fetch (R0 := fun h => Q (.inl (some (vi (0 : Int32)))) h) I hG (fun v H t q => ⟨v1, v2, v3, A 40, rfl, t, q⟩)⟩
      · exact fun _ => q812 _ _ _ _ _ ⟨bd, v1, v2, v3, v4, g_set (R0 := fun h => Q (.inl (some (vi (0 : Int32)))) h) I hG (fun v H t q => ⟨v1, v2, v3, v4, A 40, rfl, t, q⟩)⟩
      · exact fun _ => q923 _ _ _ _ _ ⟨bd, v1, v2, g_get (R0 := fun h => Q (.inl (some (vi (0 : Int32)))) h) I hG (fun v H t q => ⟨v1, v2, A 40, rfl, t, q⟩)⟩
      · exact fun _ => q990 _ _ _ _ _ ⟨bd, v1, v2, v3, fun z => q1017 _ _ _ _ _ _ _ _ _ ⟨bd, g_referent (R0 := fun h => Q (.inl (some (vi (0 : Int32)))) h) I hG (by exact fun v w h f => ⟨A 40, rfl, f⟩) (fun v H t q => ⟨v1, v2, v3, fun _ => q1050 _ _ _ _ _ _ _ _ _ _ ⟨bd, A 40, rfl, t, q⟩, fun z' => absurd z z'⟩)⟩, fun z => q1017 _ _ _ _ _ _ _ _ _ ⟨bd, g_referent (R0 := fun h => Q (.inl (some (vi (0 : Int32)))) h) I hG (by exact fun v w h f => ⟨A 40, rfl, f⟩) (fun v H t q => ⟨v1, v2, v3, fun z' => absurd z' z, fun _ => q1050 _ _ _ _ _ _ _ _ _ _ ⟨bd, A 40, rfl, t, q⟩⟩)⟩⟩
      · exact fun _ => q1086 _ _ _ _ _ ⟨bd, v1, v2, g_give (R0 := fun h => Q (.inl (some (vi (0 : Int32)))) h) I hG (fun v H t q => ⟨v1, v2, A 40, rfl, t, q⟩)⟩
      · exact fun _ => q1154 _ _ _ _ _ ⟨bd, v1, v2, fun z => q1175 _ _ _ _ _ _ _ _ ⟨bd, g_clear (R0 := fun h => Q (.inl (some (vi (0 : Int32)))) h) I hG (by exact fun v w h f => ⟨A 40, rfl, f⟩) (fun v H t q => ⟨v1, v2, fun _ => q1202 _ _ _ _ _ _ _ _ _ ⟨bd, A 40, rfl, t, q⟩, fun z' => absurd z z'⟩)⟩, fun z => q1175 _ _ _ _ _ _ _ _ ⟨bd, g_clear (R0 := fun h => Q (.inl (some (vi (0 : Int32)))) h) I hG (by exact fun v w h f => ⟨A 40, rfl, f⟩) (fun v H t q => ⟨v1, v2, fun z' => absurd z' z, fun _ => q1202 _ _ _ _ _ _ _ _ _ ⟨bd, A 40, rfl, t, q⟩⟩)⟩⟩
      · exact fun _ => q1238 _ _ _ _ _ ⟨bd, v1, v2, g_poll (R0 := fun h => Q (.inl (some (vi (0 : Int32)))) h) I hG (fun v H t q => ⟨v1, v2, A 40, rfl, t, q⟩)⟩
      · exact fun _ => q1306 _ _ _ _ _ ⟨bd, v1, g_waiting (R0 := fun h => Q (.inl (some (vi (0 : Int32)))) h) I hG (fun v H t q => ⟨v1, A 40, rfl, t, q⟩)⟩
      · exact fun _ => q1362 _ _ _ _ _ ⟨bd, v1, g_kind (R0 := fun h => Q (.inl (some (vi (0 : Int32)))) h) I hG (fun v H t q => ⟨v1, A 40, rfl, t, q⟩)⟩
      · exact fun _ => q1418 _ _ _ _ _ ⟨bd, v1, g_hash (R0 := fun h => Q (.inl (some (vi (0 : Int32)))) h) I hG (fun v H t q => ⟨v1, A 40, rfl, t, q⟩)⟩
      · exact fun _ => q1474 _ _ _ _ _ ⟨bd, v1, v2, g_same (R0 := fun h => Q (.inl (some (vi (0 : Int32)))) h) (P5 := fun z z' h => P1540 (some (A 0)) (some (A 40)) (some (A 41)) (nI (2 + 5 * j)) z z' h) I hG (fun z h p => q1540 _ _ _ _ _ _ _ ⟨bd, fun _ => p, fun q => absurd (cmp_self z) q⟩) (fun v H t q => ⟨v1, v2, A 40, rfl, t, q⟩)⟩
      · exact fun _ => q1549 _ _ _ _ _ ⟨bd, v1, g_open (R0 := fun h => Q (.inl (some (vi (0 : Int32)))) h) I hG (fun v H t q => ⟨v1, A 40, rfl, t, q⟩)⟩
      · exact fun _ => q1605 _ _ _ _ _ ⟨bd, g_close (R0 := fun h => Q (.inl (some (vi (0 : Int32)))) h) I hG (fun v H t q => ⟨A 40, rfl, t, q⟩)⟩
      · exact fun _ => q1649 _ _ _ _ _ ⟨bd, v1, fun z => q1664 _ _ _ _ _ _ _ ⟨bd, A 0, rfl, I.1.1.1.1, g_coll (R0 := fun h => Q (.inl (some (vi (0 : Int32)))) h) I hG hb hK (fun v H t q => ⟨v1, fun _ => q1682 _ _ _ _ _ _ _ _ ⟨bd, A 40, rfl, t, q⟩, fun z' => absurd z z'⟩)⟩, fun z => q1664 _ _ _ _ _ _ _ ⟨bd, A 0, rfl, I.1.1.1.1, g_coll (R0 := fun h => Q (.inl (some (vi (0 : Int32)))) h) I hG hb hK (fun v H t q => ⟨v1, fun z' => absurd z' z, fun _ => q1682 _ _ _ _ _ _ _ _ ⟨bd, A 40, rfl, t, q⟩⟩)⟩⟩
      · exact fun _ => q1690 _ _ _ _ _ ⟨bd, v1, g_every (R0 := fun h => Q (.inl (some (vi (0 : Int32)))) h) I hG (fun v H t q => ⟨v1, A 40, rfl, t, q⟩)⟩
      · exact fun _ => q1746 _ _ _ _ _ ⟨bd, v1, g_count (R0 := fun h => Q (.inl (some (vi (0 : Int32)))) h) I hG (fun v H t q => ⟨v1, A 40, rfl, t, q⟩)⟩
      · exact fun _ => q1802 _ _ _ _ _ ⟨bd, v1, g_digest (R0 := fun h => Q (.inl (some (vi (0 : Int32)))) h) I hG (by omega) (fun v H t q => ⟨v1, A 40, rfl, t, q⟩)⟩
  have := loop 513 0 H (S0_ r) g0_ 0 0 (by omega) (by omega) ⟨CC, MM, W0, t9, l9, Nat.le_refl _⟩ (by omega) (by omega)
  rw [d0, e0, d40, d41] at this
  exact this
theorem lawOK : LawOK := fun L xs hL => law_ hL (fun _ => rfl)
