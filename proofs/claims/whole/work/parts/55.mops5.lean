/-! The model: coming to a queue, clear, poll. -/
section MOP5
variable {g : Gh} {h : Hp} {A : Nat → Nat} {S : St} {Q : Option AV ⊕ String → Hp → Prop}
theorem map_nodup {f : Nat → Nat} : ∀ {l : List Nat}, l.Nodup → (∀ a ∈ l, ∀ b ∈ l, f a = f b → a = b) → (l.map f).Nodup
  | [], _, _ => List.nodup_nil
  | a :: l, h, hf => by
    have h' := List.nodup_cons.mp h
    rw [List.map_cons, List.nodup_cons]
    refine ⟨fun q => ?_, map_nodup h'.2 (fun x hx y hy => hf x (List.mem_cons_of_mem _ hx) y (List.mem_cons_of_mem _ hy))⟩
    obtain ⟨b, hb, e⟩ := List.mem_map.mp q
    exact h'.1 (by rw [← hf b (List.mem_cons_of_mem _ hb) a List.mem_cons_self e]; exact hb)
/-- the heap when a has come to its queue q -/
theorem MJ.come (hM : MJ g h A S) (hW : WF S) {a q : Nat} (ha : a ∈ ob S) (hl : ls (kd S a)) (hq : li S a = some q) (hc : cm S a = 0) {h1 : Hp}
    (e1 : (∃ b, (qu S q).getLast? = some b ∧ h1 = qI (qI (pI (qI h (A 52) (num g a) 1) 68 (A 40) (cn S 4 + 1)) (A 47) (num g a) 0) (A 47) (num g b) (nI (num g a))) ∨ ((qu S q).getLast? = none ∧ h1 = qI (qI (pI (qI h (A 52) (num g a) 1) 68 (A 40) (cn S 4 + 1)) (A 47) (num g a) 0) (A 48) (num g q) (nI (num g a)))) :
    MJ g (qI (qI h1 (A 49) (num g q) (nI (num g a))) (A 51) (num g q) (nI (qu S q).length + 1)) A (wC (wQ (wH S (pI S.1 16 a 1)) q (qu S q ++ [a])) 4 (cn S 4 + 1)) := by
  have hM0 := hM
  obtain ⟨m1, m2, m3, m4, m5⟩ := hM
  have wa := (hW.2.1 a ha).2.2.2.2.2.2.2.1 hl
  obtain ⟨hqo, hqk⟩ := wa.2.2.2 hc q hq
  have wq := (hW.2.1 q hqo).2.2.2.2.2.2.2.2 hqk
  have hna : ∀ x ∈ ob S, kd S x = 3 → a ∉ qu S x := fun x hx kx hm => by
    have := (((hW.2.1 x hx).2.2.2.2.2.2.2.2 kx).2.1 a hm).2.2
    rw [hc] at this; exact absurd this (by decide)
  have haq : a ≠ q := fun e => by rw [e] at hl; exact no3_ls (by rw [hqk] at hl; exact hl)
  have hlast : ∀ b, (qu S q).getLast? = some b → b ∈ ob S ∧ ls (kd S b) ∧ b ∈ qu S q := fun b hb => by
    have hm := List.mem_of_getLast? hb
    exact ⟨(wq.2.1 b hm).1, (wq.2.1 b hm).2.1, hm⟩
  -- arrays that don't change
  have eo : ∀ k', mky k' → k' ≠ 47 → k' ≠ 48 → k' ≠ 49 → k' ≠ 51 → k' ≠ 52 → aI (qI (qI h1 (A 49) (num g q) (nI (num g a))) (A 51) (num g q) (nI (qu S q).length + 1)) (A k') = aI h (A k') := fun k' hk' q1 q2 q3 q4 q5 => by
    rw [aIx _ _ _ _ _ (m1.ne hk' k51 q4), aIx _ _ _ _ _ (m1.ne hk' k49 q3)]
    rcases e1 with ⟨b, -, rfl⟩ | ⟨-, rfl⟩
    · rw [aIx _ _ _ _ _ (m1.ne hk' k47 q1), aIx _ _ _ _ _ (m1.ne hk' k47 q1), aI_pI, aIx _ _ _ _ _ (m1.ne hk' k52 q5)]
    · rw [aIx _ _ _ _ _ (m1.ne hk' k48 q2), aIx _ _ _ _ _ (m1.ne hk' k47 q1), aI_pI, aIx _ _ _ _ _ (m1.ne hk' k52 q5)]
  have e52 : ∀ j, aI (qI (qI h1 (A 49) (num g q) (nI (num g a))) (A 51) (num g q) (nI (qu S q).length + 1)) (A 52) j = if j = num g a then 1 else aI h (A 52) j := fun j => by
    rw [aIx _ _ _ _ _ (m1.ne k52 k51 (by decide)), aIx _ _ _ _ _ (m1.ne k52 k49 (by decide))]
    rcases e1 with ⟨b, -, rfl⟩ | ⟨-, rfl⟩
    · rw [aIx _ _ _ _ _ (m1.ne k52 k47 (by decide)), aIx _ _ _ _ _ (m1.ne k52 k47 (by decide)), aI_pI, aI_qI]; simp
    · rw [aIx _ _ _ _ _ (m1.ne k52 k48 (by decide)), aIx _ _ _ _ _ (m1.ne k52 k47 (by decide)), aI_pI, aI_qI]; simp
  have e51 : ∀ j, aI (qI (qI h1 (A 49) (num g q) (nI (num g a))) (A 51) (num g q) (nI (qu S q).length + 1)) (A 51) j = if j = num g q then nI (qu S q).length + 1 else aI h (A 51) j := fun j => by
    rw [aI_qI, aIx _ _ _ _ _ (m1.ne k51 k49 (by decide))]
    rcases e1 with ⟨b, -, rfl⟩ | ⟨-, rfl⟩
    · rw [aIx _ _ _ _ _ (m1.ne k51 k47 (by decide)), aIx _ _ _ _ _ (m1.ne k51 k47 (by decide)), aI_pI, aIx _ _ _ _ _ (m1.ne k51 k52 (by decide))]; simp
    · rw [aIx _ _ _ _ _ (m1.ne k51 k48 (by decide)), aIx _ _ _ _ _ (m1.ne k51 k47 (by decide)), aI_pI, aIx _ _ _ _ _ (m1.ne k51 k52 (by decide))]; simp
  have e49 : ∀ j, aI (qI (qI h1 (A 49) (num g q) (nI (num g a))) (A 51) (num g q) (nI (qu S q).length + 1)) (A 49) j = if j = num g q then nI (num g a) else aI h (A 49) j := fun j => by
    rw [aIx _ _ _ _ _ (m1.ne k49 k51 (by decide)), aI_qI]
    rcases e1 with ⟨b, -, rfl⟩ | ⟨-, rfl⟩
    · rw [aIx _ _ _ _ _ (m1.ne k49 k47 (by decide)), aIx _ _ _ _ _ (m1.ne k49 k47 (by decide)), aI_pI, aIx _ _ _ _ _ (m1.ne k49 k52 (by decide))]; simp
    · rw [aIx _ _ _ _ _ (m1.ne k49 k48 (by decide)), aIx _ _ _ _ _ (m1.ne k49 k47 (by decide)), aI_pI, aIx _ _ _ _ _ (m1.ne k49 k52 (by decide))]; simp
  have e48 : ∀ j, aI (qI (qI h1 (A 49) (num g q) (nI (num g a))) (A 51) (num g q) (nI (qu S q).length + 1)) (A 48) j = if j = num g q ∧ (qu S q).getLast? = none then nI (num g a) else aI h (A 48) j := fun j => by
    rw [aIx _ _ _ _ _ (m1.ne k48 k51 (by decide)), aIx _ _ _ _ _ (m1.ne k48 k49 (by decide))]
    rcases e1 with ⟨b, hb, rfl⟩ | ⟨hb, rfl⟩
    · rw [aIx _ _ _ _ _ (m1.ne k48 k47 (by decide)), aIx _ _ _ _ _ (m1.ne k48 k47 (by decide)), aI_pI, aIx _ _ _ _ _ (m1.ne k48 k52 (by decide)), if_neg (by rw [hb]; simp)]
    · rw [aI_qI, aIx _ _ _ _ _ (m1.ne k48 k47 (by decide)), aI_pI, aIx _ _ _ _ _ (m1.ne k48 k52 (by decide)), hb]; simp
  have e47 : ∀ j, aI (qI (qI h1 (A 49) (num g q) (nI (num g a))) (A 51) (num g q) (nI (qu S q).length + 1)) (A 47) j = if some j = (qu S q).getLast?.map (num g) then nI (num g a) else if j = num g a then 0 else aI h (A 47) j := fun j => by
    rw [aIx _ _ _ _ _ (m1.ne k47 k51 (by decide)), aIx _ _ _ _ _ (m1.ne k47 k49 (by decide))]
    rcases e1 with ⟨b, hb, rfl⟩ | ⟨hb, rfl⟩
    · rw [aI_qI, aI_qI, aI_pI, aIx _ _ _ _ _ (m1.ne k47 k52 (by decide)), hb]; simp
    · rw [aIx _ _ _ _ _ (m1.ne k47 k48 (by decide)), aI_qI, aI_pI, aIx _ _ _ _ _ (m1.ne k47 k52 (by decide)), hb]; simp
  have eF : ∀ k', k' ≠ 68 → fI (qI (qI h1 (A 49) (num g q) (nI (num g a))) (A 51) (num g q) (nI (qu S q).length + 1)) k' (A 40) = fI h k' (A 40) := fun k' q1 => by
    rcases e1 with ⟨b, -, rfl⟩ | ⟨-, rfl⟩ <;> (show fI (pI _ 68 (A 40) _) k' (A 40) = _; rw [fIx _ _ _ _ _ q1]; rfl)
  have eF68 : fI (qI (qI h1 (A 49) (num g q) (nI (num g a))) (A 51) (num g q) (nI (qu S q).length + 1)) 68 (A 40) = cn S 4 + 1 := by
    rcases e1 with ⟨b, -, rfl⟩ | ⟨-, rfl⟩ <;> (rw [fI_qI, fI_qI, fI_qI, fI_qI, fI_pI, if_pos ⟨rfl, rfl⟩])
  have eT : tg (qI (qI h1 (A 49) (num g q) (nI (num g a))) (A 51) (num g q) (nI (qu S q).length + 1)) = tg h ∧ ln (qI (qI h1 (A 49) (num g q) (nI (num g a))) (A 51) (num g q) (nI (qu S q).length + 1)) = ln h ∧ fR (qI (qI h1 (A 49) (num g q) (nI (num g a))) (A 51) (num g q) (nI (qu S q).length + 1)) = fR h ∧ aL (qI (qI h1 (A 49) (num g q) (nI (num g a))) (A 51) (num g q) (nI (qu S q).length + 1)) = aL h := by
    rcases e1 with ⟨b, -, rfl⟩ | ⟨-, rfl⟩ <;> exact ⟨rfl, rfl, rfl, rfl⟩
  generalize qI (qI h1 (A 49) (num g q) (nI (num g a))) (A 51) (num g q) (nI (qu S q).length + 1) = H at *
  have ek : ∀ x, fI (pI S.1 16 a 1) 0 x = kd S x := fun x => by rw [fI_pI, if_neg (by simp)]
  have em : ∀ x, fI (pI S.1 16 a 1) 16 x = if x = a then 1 else cm S x := fun x => by rw [fI_pI]; simp
  have hu : us (wC (wQ (wH S (pI S.1 16 a 1)) q (qu S q ++ [a])) 4 (cn S 4 + 1)) = us S := by
    show ((ob S).map (fun b => clN (fI (pI S.1 16 a 1) 0 b) _)).sum = _
    simp only [ek]; rfl
  refine ⟨?_, ?_, ⟨by rw [eo 61 k61 (by decide) (by decide) (by decide) (by decide) (by decide)]; exact m3.1, scM.congr (h := h) (eo 62 k62 (by decide) (by decide) (by decide) (by decide) (by decide)) m3.2⟩, ?_, fun b hb => ?_⟩
  · unfold MF; rw [eT.1, eT.2.1, eT.2.2.1]; exact m1
  · obtain ⟨g1, g2, g3, g4, g5, g6, g7, g8, g9, g10, g11, g12, g13, g14, g15, g16⟩ := m2
    refine ⟨by rw [eF 41 (by decide)]; exact g1, by rw [eF 57 (by decide)]; exact g2, by rw [eF 58 (by decide), hu]; exact g3, by rw [eF 59 (by decide)]; exact g4, by rw [eF 60 (by decide)]; exact g5, by rw [eF 63 (by decide)]; exact g6, by rw [eF 64 (by decide)]; exact g7, by rw [eF 65 (by decide)]; exact g8, ?_, ?_, ?_, ?_, ?_, ?_, ?_, by rw [eF 73 (by decide)]; exact g16⟩
    · rw [eF 66 (by decide)]; show _ = up1 (cn S) 4 (cn S 4 + 1) 2; rw [up1_ne (by decide)]; exact g9
    · rw [eF 67 (by decide)]; show _ = up1 (cn S) 4 (cn S 4 + 1) 3; rw [up1_ne (by decide)]; exact g10
    · rw [eF68]; exact (up1_same (cn S) 4 _).symm
    · rw [eF 69 (by decide)]; show _ = up1 (cn S) 4 (cn S 4 + 1) 5; rw [up1_ne (by decide)]; exact g12
    · rw [eF 70 (by decide)]; show _ = up1 (cn S) 4 (cn S 4 + 1) 6; rw [up1_ne (by decide)]; exact g13
    · rw [eF 71 (by decide)]; show _ = up1 (cn S) 4 (cn S 4 + 1) 8; rw [up1_ne (by decide)]; exact g14
    · rw [eF 72 (by decide)]; show _ = up1 (cn S) 4 (cn S 4 + 1) 9; rw [up1_ne (by decide)]; exact g15
  · obtain ⟨n1, n2, n3, n4, n5, n6, n7, n8, n9, n10, n11, n12, n13⟩ := m4
    refine ⟨n1, n2, n3, n4, n5, by rw [eo 42 k42 (by decide) (by decide) (by decide) (by decide) (by decide)]; exact n6, mch_congr n7 (fun o ho => ?_), n8, n9, n10, n11, ?_, fun c hc' kc => n13 c hc' (by have kc : ls (fI (pI S.1 16 a 1) 0 c) := kc; rw [ek] at kc; exact kc)⟩
    · rw [e47, if_neg (fun e => ?_), if_neg (hM0.flne hW ho ha)]
      cases hgl : (qu S q).getLast? with
      | none => rw [hgl] at e; cases e
      | some b =>
        rw [hgl] at e
        exact hM0.flne hW ho (hlast b hgl).1 (Option.some.inj e)
    · show (ob S).Pairwise (fun c b => ls (fI (pI S.1 16 a 1) 0 c) → ls (fI (pI S.1 16 a 1) 0 b) → rk g c < rk g b)
      simp only [ek]; exact n12
  · obtain ⟨d1, d2, d3, d4⟩ := m5 b hb
    refine ⟨?_, fun kl => ?_, fun kq => ?_, ?_⟩
    · unfold MOd; rw [eo 42 k42 (by decide) (by decide) (by decide) (by decide) (by decide), eo 43 k43 (by decide) (by decide) (by decide) (by decide) (by decide), eo 44 k44 (by decide) (by decide) (by decide) (by decide) (by decide), eo 45 k45 (by decide) (by decide) (by decide) (by decide) (by decide), eo 46 k46 (by decide) (by decide) (by decide) (by decide) (by decide)]
      refine ⟨?_, d1.2.1, d1.2.2.1, d1.2.2.2.1, ?_⟩
      · show _ = fI (pI S.1 16 a 1) 0 b; rw [ek]; exact d1.1
      · show _ = fI (pI S.1 16 a 1) 2 b; rw [fI_pI, if_neg (by simp)]; exact d1.2.2.2.2
    · have kl : ls (fI (pI S.1 16 a 1) 0 b) := kl
      rw [ek] at kl
      have hbq : b ≠ q := fun e => by rw [e, hqk] at kl; exact no3_ls kl
      have hnq := hM0.inj hb hqo hbq
      obtain ⟨o1, o2, o3, o4, o5⟩ := d2 kl
      refine ⟨by rw [e48, if_neg (fun e => hnq e.1)]; exact o1, by rw [e49, if_neg hnq]; exact o2, fun z => ?_, ?_, by rw [e51, if_neg hnq]; exact o5⟩
      · have z : fI (pI S.1 16 a 1) 16 b = 0 := z
        rw [em] at z
        split at z
        · exact absurd z (by decide)
        · rw [eo 50 k50 (by decide) (by decide) (by decide) (by decide) (by decide)]; exact o3 z
      · show _ = fI (pI S.1 16 a 1) 16 b
        rw [em, e52]
        by_cases eb : b = a
        · subst eb; simp
        · rw [if_neg (hM0.inj hb ha eb), if_neg eb]; exact o4
    · have kq : fI (pI S.1 16 a 1) 0 b = 3 := kq
      rw [ek] at kq
      obtain ⟨o1, o2, o3, o4⟩ := d3 kq
      have wb := (hW.2.1 b hb).2.2.2.2.2.2.2.2 kq
      show aI H (A 48) (num g b) = enc g (up1 (qu S) q (qu S q ++ [a]) b).head? ∧ aI H (A 49) (num g b) = enc g (up1 (qu S) q (qu S q ++ [a]) b).getLast? ∧ aI H (A 51) (num g b) = nI (up1 (qu S) q (qu S q ++ [a]) b).length ∧ mch (aI H (A 47)) ((up1 (qu S) q (qu S q ++ [a]) b).map (num g))
      by_cases eb : b = q
      · subst eb
        rw [up1_same]
        refine ⟨?_, by rw [e49, if_pos rfl]; simp [enc], by rw [e51, if_pos rfl]; simp [nI_succ], ?_⟩
        · rw [e48, o1]
          cases hl : qu S b with
          | nil => simp [enc]
          | cons y l => simp [List.getLast?_cons]
        · rw [List.map_append]
          refine mch_snoc o4 (fun x hx hne => ?_) (fun x hx => ?_) ?_ (map_nodup wb.1 (fun x hx y hy e => m4.2.1 x (wb.2.1 x hx).1 y (wb.2.1 y hy).1 e))
          · rw [List.getLast?_map] at hne
            rw [e47, if_neg hne, if_neg (fun e => ?_)]
            obtain ⟨y, hy, e2⟩ := List.mem_map.mp hx
            exact hM0.inj (wb.2.1 y hy).1 ha (fun z => hna b hb kq (by rw [← z]; exact hy)) (e2.trans e)
          · rw [List.getLast?_map] at hx
            rw [e47, if_pos hx.symm]
          · rw [e47, if_neg (fun e => ?_), if_pos rfl]
            cases hgl : (qu S b).getLast? with
            | none => rw [hgl] at e; cases e
            | some y =>
              rw [hgl] at e
              have hy := hlast y hgl
              exact hM0.inj ha hy.1 (fun z => hna b hb kq (by rw [z]; exact hy.2.2)) (Option.some.inj e)
      · rw [up1_ne eb]
        have hnq := hM0.inj hb hqo eb
        refine ⟨by rw [e48, if_neg (fun e => hnq e.1)]; exact o1, by rw [e49, if_neg hnq]; exact o2, by rw [e51, if_neg hnq]; exact o3, mch_congr o4 (fun x hx => ?_)⟩
        obtain ⟨y, hy, e2⟩ := List.mem_map.mp hx
        have hyo := (wb.2.1 y hy).1
        rw [e47, if_neg (fun e => ?_), if_neg (fun e => hM0.inj hyo ha (fun z => hna b hb kq (by rw [← z]; exact hy)) (e2.trans e))]
        cases hgl : (qu S q).getLast? with
        | none => rw [hgl] at e; cases e
        | some y2 =>
          rw [hgl] at e
          have hy2 := hlast y2 hgl
          have : y = y2 := m4.2.1 y hyo y2 hy2.1 (e2.trans (Option.some.inj e))
          exact wb.2.2 q hqo hqk (Ne.symm eb) y hy (by rw [this]; exact hy2.2.2)
    · unfold MOr; rw [eT.2.2.2]; exact d4
end MOP5
