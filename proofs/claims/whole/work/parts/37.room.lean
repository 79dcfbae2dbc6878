/-! A whole collection of the class; making room. -/
section ROOM
variable {b : Nat} {h : Hp} {A : Nat → Nat} {S : St} {sf : Int32} {Q : Option AV ⊕ String → Hp → Prop}
theorem chn.tf {h' : Hp} {c : Nat} {l : List Nat} (hc : chn h c l S) (hF : TF h h') : chn h' c l S := by
  obtain ⟨z1, z2, z3, z4, z5⟩ := hc
  obtain ⟨t1, t2, t3, t4, t5, tI, tR⟩ := hF
  exact ⟨by rw [tR 19 (by decide) (by decide) (by decide) (by decide) (by decide)]; exact z1, by rw [tR 20 (by decide) (by decide) (by decide) (by decide) (by decide)]; exact z2, by rw [tI 21 (by decide) (by decide) (by decide) (by decide)]; exact z3, by rw [tI 22 (by decide) (by decide) (by decide) (by decide)]; exact z4, by rw [tR 3 (by decide) (by decide) (by decide) (by decide) (by decide)]; exact z5⟩
theorem CI.mono {b' : Nat} {L : List Nat} (hC : CI (b, L) h A S) (hb : b ≤ b') : CI (b', L) h A S := by
  obtain ⟨c1, c2, c3, c4, n, hn, c5⟩ := hC
  exact ⟨c1, c2, c3, c4, n, Nat.le_trans hn hb, c5⟩
theorem c_collect (hC : CI (b, ob S) h A S) (hW : WF S) (hb : b + 1 < 2 ^ 31) (h1 : ∀ h', CI (b + 1, ob (coll S sf)) h' A (coll S sf) → FC A h h' → Q (.inl (some (vi (nI (us S) - nI (us (coll S sf)))))) h') : vc_X6_collectWhole (A 0) sf h Q := by
  obtain ⟨⟨f1, f2, f3, f4, f5, f6, f7⟩, ⟨g1, g2, g3, g4, g5, g6⟩, ⟨l1, l2, l3⟩, m1, m2, m3⟩ := hC.1
  have hv : vp_in (3 : Int32) (ln h (A 31)) := by rw [l3]; unfold vp_in; decide
  refine ⟨f1, A 31, f4, g3, hv, hv, ?_⟩
  rw [hC.2.1.2.2.2.1 3 (by decide)]
  have hC1 := hC.setC (k := 3) (cn S 3 + 1)
  have hW1 : WF (wC S 3 (cn S 3 + 1)) := hW.setC _ (by decide) (by decide) (by decide)
  have F1 : FC A h (qI h (A 31) 3 (cn S 3 + 1)) := FCcnt hC.1 FC.rfl'
  refine c_carry hC1 hW1 (fun h2 C2 ch2 cy2 F2 => ⟨C2.1.1.1, ?_⟩)
  refine c_reach (sf := sf) C2 hW1 rfl hb (fun h3 l n hn X3 T3 hl h7 TF3 => ⟨X3.1.1.1, ?_⟩)
  have C3 : CI (b + 1, l) h3 A (wC S 3 (cn S 3 + 1)) := ⟨X3.1, X3.2.1, X3.2.2.1, X3.2.2.2, n, hn, T3.2.2.2.2.1, fun a ha => ⟨h7 a ha, n, Nat.le_refl _, (T3.2.2.2.2.2.2.2.2.1 a (T3.2.2.2.2.2.2.2.1 a ha)).1.mpr ha⟩⟩
  refine c_letGo (sf := sf) C3 hW1 (ch2.tf TF3) (cy2.tf TF3) T3 hl (fun h4 C4 ch4 cy4 T4 F4 => ⟨C4.1.1.1, ?_⟩)
  obtain ⟨w1, w2, -⟩ := colA_facts hW sf
  have eob : ob (colA S sf) = ob S := w2.1
  have C4 : CI (b + 1, l) h4 A (colA S sf) := C4
  have ch4 : chn h4 (A 33) (ob S) (colA S sf) := ch4
  have cy4 : chn h4 (A 32) [] (colA S sf) := cy4
  have hL : rls S sf = (ob (colA S sf)).filter (fun a => decide (a ∈ l)) := by
    rw [eob]
    unfold rls
    refine List.filter_congr (fun a _ => ?_)
    have := hl a
    exact decide_eq_decide.mpr (this.symm)
  refine c_free C4 w1 (by rw [eob]; exact ch4) cy4 (by rw [eob]; exact T4) hL (fun h5 C5 F5 => ?_)
  have e0 : cn (colA S sf) 0 = nI (us S) := by rw [w2.2.2.2.2.2.2.2.2.2.2.2.2 0 (by decide) (by decide)]; exact hW.2.2.2.2.2.1
  rw [e0]
  exact h1 h5 C5 (F1.trans (F2.trans (TF3.FC.trans (F4.trans F5))))
theorem c_fits (hC : CI (b, ob S) h A S) (hW : WF S) {c : Nat} (hc : c ≤ 3002) (h1 : fitS S c → Q (.inl (some (vi 1))) h) (h2 : ¬ fitS S c → Q (.inl (some (vi 0))) h) : vc_X6_fits (A 0) (nI c) h Q := by
  obtain ⟨⟨f1, f2, f3, f4, f5, f6, f7⟩, ⟨g1, g2, g3, g4, g5, g6⟩, ⟨l1, l2, l3⟩, m1, m2, m3⟩ := hC.1
  have hu := hW.2.2.1; have hr := hW.2.2.2.2.1
  refine ⟨f1, A 31, f4, g3, by rw [l3]; unfold vp_in; decide, ?_⟩
  rw [hC.2.1.2.2.2.1 0 (by decide), hW.2.2.2.2.2.1, hC.2.1.2.2.2.2, nI_add]
  refine ⟨fun q => h2 fun e => ?_, fun q => h1 ?_⟩
  · have := (nI_lt' (by omega) (by omega)).mp q
    unfold fitS at e; omega
  · unfold fitS
    have : ¬ rm S < us S + c := fun e => q ((nI_lt' (by omega) (by omega)).mpr e)
    omega
theorem roomA_wf (hW : WF S) (c : Nat) : WF (roomA S c) := by
  unfold roomA; split
  · exact hW
  · exact (WFcoll hW 0).1
theorem roomB_wf (hW : WF S) (c : Nat) : WF (roomB S c) := by
  unfold roomB; split
  · exact roomA_wf hW c
  · exact (WFcoll (roomA_wf hW c) 1).1
theorem c_room (hC : CI (b, ob S) h A S) (hW : WF S) (hb : b + 2 < 2 ^ 31) {c : Nat} (hc : c ≤ 3002) (h1 : fitS (roomB S c) c → ∀ h', CI (b + 2, ob (roomB S c)) h' A (roomB S c) → FC A h h' → Q (.inl (some (vi 1))) h')
    (h2 : ¬ fitS (roomB S c) c → ∀ h', CI (b + 2, ob (roomB S c)) h' A (wC (roomB S c) 9 (cn (roomB S c) 9 + 1)) → FC A h h' → Q (.inl (some (vi 0))) h') : vc_X6_makeRoom (A 0) (nI c) h Q := by
  intro P14 P28 q14 q28
  have step3 : ∀ h', CI (b + 2, ob (roomB S c)) h' A (roomB S c) → FC A h h' → P28 h' := by
    intro h' C' F'
    have W' := roomB_wf hW c
    refine q28 _ ⟨C'.1.1.1, c_fits C' W' hc (fun e => ⟨fun _ => h1 e h' C' F', fun z => absurd z (by decide)⟩) (fun e => ⟨fun z => absurd rfl z, fun _ => ?_⟩)⟩
    obtain ⟨⟨f1, f2, f3, f4, f5, f6, f7⟩, ⟨g1, g2, g3, g4, g5, g6⟩, ⟨l1, l2, l3⟩, m1, m2, m3⟩ := C'.1
    have hv : vp_in (9 : Int32) (ln h' (A 31)) := by rw [l3]; unfold vp_in; decide
    refine ⟨f1, A 31, f4, g3, hv, hv, ?_⟩
    rw [C'.2.1.2.2.2.1 9 (by decide)]
    exact h2 e _ (C'.setC _) (FC.qI (fun k hk => (m3 k hk).2.2) F')
  have step2 : ∀ h', CI (b + 1, ob (roomA S c)) h' A (roomA S c) → FC A h h' → P14 h' := by
    intro h' C' F'
    have W' := roomA_wf hW c
    refine q14 _ ⟨C'.1.1.1, c_fits C' W' hc (fun e => ⟨fun _ => ?_, fun z => absurd z (by decide)⟩) (fun e => ⟨fun z => absurd rfl z, fun _ => ⟨C'.1.1.1, ?_⟩⟩)⟩
    · have er : roomB S c = roomA S c := by unfold roomB; rw [if_pos e]
      exact step3 h' (by rw [er]; exact C'.mono (by omega)) F'
    · have er : roomB S c = coll (roomA S c) 1 := by unfold roomB; rw [if_neg e]
      refine c_collect (sf := 1) C' W' (by omega) (fun h'' C'' F'' => ?_)
      exact step3 h'' (by rw [er]; exact C'') (F'.trans F'')
  refine ⟨hC.1.1.1, c_fits hC hW hc (fun e => ⟨fun _ => ?_, fun z => absurd z (by decide)⟩) (fun e => ⟨fun z => absurd rfl z, fun _ => ⟨hC.1.1.1, ?_⟩⟩)⟩
  · have er : roomA S c = S := by unfold roomA; rw [if_pos e]
    exact step2 h (by rw [er]; exact hC.mono (by omega)) FC.rfl'
  · have er : roomA S c = coll S 0 := by unfold roomA; rw [if_neg e]
    refine c_collect (sf := 0) hC hW (by omega) (fun h'' C'' F'' => ?_)
    exact step2 h'' (by rw [er]; exact C'') F''
end ROOM
