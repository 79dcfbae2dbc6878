/-! THE CLAIM OUT OF THE LAW'S CONDITIONS. -/
def hz0 : Hp := (fun _ => 0, fun _ _ => 0, fun _ _ => none, fun _ => 0, fun _ _ => 0, fun _ _ => 0, fun _ _ => none)
theorem HR_z {D : va_G} {dA : Nat → ClassId} {sz : Nat} {H : Heap} : HR D dA sz hz0 H := fun a e h => by cases h
theorem arr_start {args : Array Value} {s : State} {ty : FieldType} (hn : ∀ C, ty ≠ .object C) (h : (Cond.arrayClass ty).before args s = true) : ∃ cA, ArrOfT s cA ty ∧ va_RA s cA ty := by
  obtain ⟨cA, kA, comp, h1, h2, h3⟩ := Cond.arrayClass_spec h
  refine ⟨cA, fun n z => ⟨fun k h => (by cases h), kA, h2, comp, h3⟩, ?_⟩
  cases ty <;> first | exact h1 | exact absurd rfl (hn _)
theorem arr_startO {args : Array Value} {s : State} {C : String} (h : (Cond.arrayOver (.object C)).before args s = true) : ∃ cA, ArrOfT s cA (.object C) ∧ va_RA s cA (.object C) := by
  obtain ⟨comp, cA, kA, h1, h2, h3, h4, h5⟩ := Cond.arrayOver_spec h
  exact ⟨cA, fun n z => ⟨fun k h => (by cases h), kA, h3, comp, h4⟩, kA, comp, h3, h4, h1, h5⟩
theorem WD_start {args : Array Value} {s : State} (hts : ∀ w ∈ lw_tbl, w.before args s = true) (hgv : (Jvm.Cond.and given_1 narrow_1).before args s = true) : ∃ (D : va_G) (dA : Nat → ClassId), WD D dA s.heap.size s := by
  have hs := flat_of_before _ hgv
  have hB : ∀ w ∈ BG, w.before args s = true := fun w hw => hts w (List.mem_filter.mp hw).1
  obtain ⟨c0, i0, hk0⟩ := u_known (C := RX0) (T := TX0) (N := 4) (n := 4) hB inX0 (hB _ wg_26)
  obtain ⟨c1, i1, hk1⟩ := u_known (C := RX1) (T := TX1) (N := 10) (n := 10) hB inX1 (hB _ wg_293)
  obtain ⟨c2, i2, hk2⟩ := u_known (C := RX2) (T := TX2) (N := 11) (n := 11) hB inX2 (hB _ wg_369)
  obtain ⟨c3, i3, hk3⟩ := u_known (C := RX3) (T := TX3) (N := 14) (n := 14) hB inX3 (hB _ wg_434)
  obtain ⟨c4, i4, hk4⟩ := u_known (C := RX5) (T := TX5) (N := 4) (n := 4) hB inX5 (hB _ wg_49)
  obtain ⟨c5, i5, hk5⟩ := u_known (C := RX6) (T := TX6) (N := 11) (n := 11) hB inX6 (hB _ wg_16)
  obtain ⟨c6, i6, hk6⟩ := u_known (C := RX7) (T := TX7) (N := 35) (n := 35) hB inX7 (hB _ wg_672)
  obtain ⟨a0, ha0⟩ := arr_start (ty := .int) (fun _ h => by cases h) (hB _ wg_47)
  obtain ⟨a1, ha1⟩ := arr_start (ty := .long) (fun _ h => by cases h) (hB _ wg_345)
  obtain ⟨a2, ha2⟩ := arr_start (ty := .boolean) (fun _ h => by cases h) (hB _ wg_783)
  obtain ⟨a3, ha3⟩ := arr_startO (C := "RefHeap$Thing") (hts _ (List.mem_append_right _ (List.mem_of_getElem? (i := 24) (by decide +kernel))))
  refine ⟨(fun k => if k = 0 then c0 else if k = 1 then c1 else if k = 2 then c2 else if k = 3 then c3 else if k = 4 then c4 else if k = 5 then c5 else c6, fun k => if k = 0 then i0 else if k = 1 then i1 else if k = 2 then i2 else if k = 3 then i3 else if k = 4 then i4 else if k = 5 then i5 else i6), fun k => if k = 0 then a0 else if k = 1 then a1 else if k = 2 then a2 else a3, ⟨?_, ?_⟩, va_AO.of (A := args) (hts (Cond.arrayOver (.object "RefHeap$Thing")) (List.mem_append_right _ (List.mem_of_getElem? (i := 24) (by decide +kernel)))), ?_, ?_, ?_, ?_, ?_⟩
  · intro k q hq
    match k, hq with
    | 0, hq => cases hq; exact hk0
    | 1, hq => cases hq; exact hk1
    | 2, hq => cases hq; exact hk2
    | 3, hq => cases hq; exact hk3
    | 4, hq => cases hq; exact hk4
    | 5, hq => cases hq; exact hk5
    | 6, hq => cases hq; exact hk6
    | k + 7, hq => simp [vwCl] at hq
  · intro k q hq
    match k, hq with
    | 0, hq => cases hq; exact ha0
    | 1, hq => cases hq; exact ha1
    | 2, hq => cases hq; exact ha2
    | 3, hq => cases hq; exact ha3
    | k + 4, hq => simp [tys] at hq
  · intro w hw hn
    refine va_Nw.of ?_ (hts w hw)
    cases w <;> first | rfl | (exact absurd hn (by simp [nwk]))
  · intro q hq
    simp only [ncs, List.mem_cons, List.not_mem_nil, or_false] at hq
    rcases hq with rfl | rfl | rfl | rfl | rfl | rfl | rfl
    · exact va_Nc.of (hs (Cond.not (Cond.castable "RefHeap$Holder" "RefHeap$Line")) (by decide +kernel))
    · exact va_Nc.of (hs (Cond.not (Cond.castable "RefHeap$Holder" "RefHeap$Loose")) (by decide +kernel))
    · exact va_Nc.of (hs (Cond.not (Cond.castable "RefHeap$Line" "RefHeap$Holder")) (by decide +kernel))
    · exact va_Nc.of (hs (Cond.not (Cond.castable "RefHeap$Line" "RefHeap$Loose")) (by decide +kernel))
    · exact va_Nc.of (hs (Cond.not (Cond.castable "RefHeap$Loose" "RefHeap$Holder")) (by decide +kernel))
    · exact va_Nc.of (hs (Cond.not (Cond.castable "RefHeap$Loose" "RefHeap$Line")) (by decide +kernel))
    · exact va_Nc.of (hs (Cond.not (Cond.castable "java/lang/IllegalStateException" "java/lang/IllegalArgumentException")) (by decide +kernel))
  · intro q hq
    simp only [strs, List.mem_cons, List.not_mem_nil, or_false] at hq
    rcases hq with rfl | rfl | rfl | rfl | rfl | rfl | rfl | rfl | rfl | rfl | rfl
    · obtain ⟨a, -, -, -, h1, -⟩ := Cond.exactly_spec (hs (Cond.exactly (.string "RefHeap" 165) "java/lang/String") (by decide +kernel))
      exact ⟨a, vk_R.of (hts _ (List.mem_append_right _ (List.mem_of_getElem? (i := 621) (by decide +kernel)))) h1⟩
    · obtain ⟨a, -, -, -, h1, -⟩ := Cond.exactly_spec (hs (Cond.exactly (.string "RefHeap" 170) "java/lang/String") (by decide +kernel))
      exact ⟨a, vk_R.of (hts _ (List.mem_append_right _ (List.mem_of_getElem? (i := 629) (by decide +kernel)))) h1⟩
    · obtain ⟨a, -, -, -, h1, -⟩ := Cond.exactly_spec (hs (Cond.exactly (.string "RefHeap" 209) "java/lang/String") (by decide +kernel))
      exact ⟨a, vk_R.of (hts _ (List.mem_append_right _ (List.mem_of_getElem? (i := 257) (by decide +kernel)))) h1⟩
    · obtain ⟨a, -, -, -, h1, -⟩ := Cond.exactly_spec (hs (Cond.exactly (.string "RefHeap" 212) "java/lang/String") (by decide +kernel))
      exact ⟨a, vk_R.of (hts _ (List.mem_append_right _ (List.mem_of_getElem? (i := 507) (by decide +kernel)))) h1⟩
    · obtain ⟨a, -, -, -, h1, -⟩ := Cond.exactly_spec (hs (Cond.exactly (.string "RefHeap" 214) "java/lang/String") (by decide +kernel))
      exact ⟨a, vk_R.of (hts _ (List.mem_append_right _ (List.mem_of_getElem? (i := 418) (by decide +kernel)))) h1⟩
    · obtain ⟨a, -, -, -, h1, -⟩ := Cond.exactly_spec (hs (Cond.exactly (.string "RefHeap" 216) "java/lang/String") (by decide +kernel))
      exact ⟨a, vk_R.of (hts _ (List.mem_append_right _ (List.mem_of_getElem? (i := 433) (by decide +kernel)))) h1⟩
    · obtain ⟨a, -, -, -, h1, -⟩ := Cond.exactly_spec (hs (Cond.exactly (.string "RefHeap" 218) "java/lang/String") (by decide +kernel))
      exact ⟨a, vk_R.of (hts _ (List.mem_append_right _ (List.mem_of_getElem? (i := 559) (by decide +kernel)))) h1⟩
    · obtain ⟨a, -, -, -, h1, -⟩ := Cond.exactly_spec (hs (Cond.exactly (.string "RefHeap" 220) "java/lang/String") (by decide +kernel))
      exact ⟨a, vk_R.of (hts _ (List.mem_append_right _ (List.mem_of_getElem? (i := 560) (by decide +kernel)))) h1⟩
    · obtain ⟨a, -, -, -, h1, -⟩ := Cond.exactly_spec (hs (Cond.exactly (.string "RefHeap" 222) "java/lang/String") (by decide +kernel))
      exact ⟨a, vk_R.of (hts _ (List.mem_append_right _ (List.mem_of_getElem? (i := 516) (by decide +kernel)))) h1⟩
    · obtain ⟨a, -, -, -, h1, -⟩ := Cond.exactly_spec (hs (Cond.exactly (.string "RefHeap" 228) "java/lang/String") (by decide +kernel))
      exact ⟨a, vk_R.of (hts _ (List.mem_append_right _ (List.mem_of_getElem? (i := 517) (by decide +kernel)))) h1⟩
    · obtain ⟨a, -, -, -, h1, -⟩ := Cond.exactly_spec (hs (Cond.exactly (.string "RefHeap" 230) "java/lang/String") (by decide +kernel))
      exact ⟨a, vk_R.of (hts _ (List.mem_append_right _ (List.mem_of_getElem? (i := 536) (by decide +kernel)))) h1⟩
  · exact vx_Zqof (hts _ (List.mem_append_right _ (List.mem_of_getElem? (i := 244) (by decide +kernel)))) (hB _ wg_6) (hs (Cond.isRef (.static Bundle.tN "UNASSIGNED_STACK" Bundle.steD)) (by decide +kernel)) (fun a h1 h2 => Nat.not_le.mpr h1 h2)
  · exact vx_Zqof (hts _ (List.mem_append_right _ (List.mem_of_getElem? (i := 246) (by decide +kernel)))) (hB _ wg_6) (hs (Cond.isRef (.static Bundle.tN "SUPPRESSED_SENTINEL" Bundle.listD)) (by decide +kernel)) (fun a h1 h2 => Nat.not_le.mpr h1 h2)
