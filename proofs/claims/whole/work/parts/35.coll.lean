/-! A whole collection. -/
section COLL
variable {B : Nat × List Nat} {h : Hp} {A : Nat → Nat} {S : St} {sf : Int32} {Q : Option AV ⊕ String → Hp → Prop}
theorem TI.fl {h' : Hp} {T n : Nat} {l obs : List Nat} (hT : TI h T l n obs) (hF : FL h h') : TI h' T l n obs := by
  obtain ⟨z1, z2, z3, z4, z5, z6, z7, z8, z9, z10⟩ := hT
  obtain ⟨t1, t2, t3, t4⟩ := hF
  exact ⟨by rw [t1]; exact z1, by rw [t4 23 (by decide) (by decide) (by decide) (by decide) (by decide)]; exact z2, by rw [t4 24 (by decide) (by decide) (by decide) (by decide) (by decide)]; exact z3, by rw [t3 25 (by decide) (by decide)]; exact z4, by rw [t3 26 (by decide) (by decide)]; exact z5, by rw [t4 6 (by decide) (by decide) (by decide) (by decide) (by decide)]; exact z6, z7, z8, by rw [t3 4 (by decide) (by decide)]; exact z9, by rw [t3 5 (by decide) (by decide)]; exact z10⟩
theorem chn.fl {h' : Hp} {c : Nat} {l : List Nat} {S' : St} (hc : chn h c l S) (hF : FL h h') (hs : cl S' = cl S) : chn h' c l S' := by
  obtain ⟨z1, z2, z3, z4, z5⟩ := hc
  obtain ⟨t1, t2, t3, t4⟩ := hF
  exact ⟨by rw [t4 19 (by decide) (by decide) (by decide) (by decide) (by decide)]; exact z1, by rw [t4 20 (by decide) (by decide) (by decide) (by decide) (by decide)]; exact z2, by rw [t3 21 (by decide) (by decide)]; exact z3, by rw [t3 22 (by decide) (by decide), hs]; exact z4, by rw [t4 3 (by decide) (by decide) (by decide) (by decide) (by decide)]; exact z5⟩
theorem c_letGo {l : List Nat} {n : Nat} (hC : CI B h A S) (hW : WF S) (hch : chn h (A 33) (ob S) S) (hcy : chn h (A 32) [] S) (hT : TI h (A 34) l n (ob S)) (hl : ∀ a, a ∈ l ↔ Rch S sf a)
    (h1 : ∀ h', CI B h' A ((gls S sf).foldl lgo S) → chn h' (A 33) (ob S) ((gls S sf).foldl lgo S) → chn h' (A 32) [] ((gls S sf).foldl lgo S) → TI h' (A 34) l n (ob S) → FC A h h' → Q (.inl none) h') : vc_X6_letGoOfUnreached (A 0) h Q := by
  obtain ⟨⟨f1, f2, f3, f4, f5, f6, f7⟩, ⟨g1, g2, g3, g4, g5, g6⟩, ⟨l1, l2, l3⟩, -⟩ := hC.1
  intro P8 P66 q8 q66
  refine ⟨f1, A 33, f6, g5, ?_⟩
  rw [hch.1]
  rw [gls_eq] at h1
  have loop : ∀ (m z : List Nat) (Sz : St) (h' : Hp), z ++ m = ob S → stS S Sz → WF Sz → (∀ x ∈ m, re Sz x = re S x) → CI B h' A Sz → FL h h' → FC A h h' → (m.filter (gp S sf)).foldl lgo Sz = ((ob S).filter (gp S sf)).foldl lgo S → P8 m.head? h' := by
    intro m
    induction m with
    | nil =>
      intro z Sz h' hz hs hWz hre hCz hL hF hfold
      refine q8 _ _ ⟨fun _ => ?_, fun a e => by cases e⟩
      rw [← hfold] at h1
      have hcl : cl Sz = cl S := stScl hs
      exact h1 h' hCz (hch.fl hL hcl) (hcy.fl hL hcl) (hT.fl hL) hF
    | cons a m ih =>
      intro z Sz h' hz hs hWz hre hCz hL hF hfold
      have hao : a ∈ ob S := by rw [← hz]; simp
      have haz : a ∈ ob Sz := by rw [hs.1]; exact hao
      have hth : thg h' a := hCz.thg hWz haz
      have hnd : (z ++ a :: m).Nodup := by rw [hz]; exact hW.1
      have ham : a ∉ m := (List.nodup_cons.mp (List.nodup_append.mp hnd).2.1).1
      have ek : kd Sz a = kd S a := by show fI Sz.1 0 a = _; rw [hs.2.1]
      have hT' := hT.fl hL
      have e34 : fR h' 34 (A 0) = some (A 34) := hCz.1.1.2.2.2.2.2.2
      -- going on
      have nx : ∀ (S2 : St) (h2 : Hp), stS S S2 → WF S2 → (∀ x ∈ m, re S2 x = re S x) → CI B h2 A S2 → FL h h2 → FC A h h2 → (m.filter (gp S sf)).foldl lgo S2 = ((ob S).filter (gp S sf)).foldl lgo S → P66 (some a) h2 := by
        intro S2 h2 w1 w2 w3 w4 w5 w6 w7
        refine q66 _ _ ⟨a, rfl, w4.thg w2 (by rw [w1.1]; exact hao), ?_⟩
        have e3 : fR h2 3 a = m.head? := by
          rw [w5.2.2.2 3 (by decide) (by decide) (by decide) (by decide) (by decide)]
          have := hch.2.2.2.2
          rw [← hz] at this
          exact (lnk_app this).1
        rw [e3]
        exact ih (z ++ [a]) S2 h2 (by simp [← hz]) w1 w2 w3 w4 w5 w6 w7
      have stay : gp S sf a = false → P66 (some a) h' := fun e => by
        refine nx Sz h' hs hWz (fun x hx => hre x (List.mem_cons_of_mem _ hx)) hCz hL hF ?_
        rw [← hfold, List.filter_cons, e]; rfl
      refine q8 _ _ ⟨fun e => (by cases e), fun a' e => ⟨fun b hb => ?_, fun a8 e8 t4 => ?_, fun q => ?_⟩⟩
      · cases hb; exact hth
      · have e8 : some a = some a8 := e8
        cases e8
        have kl : ls (kd S a) := by rw [← ek]; exact (COa.t4 (hWz.2.1 a haz) (hCz.2.2.1.1 a haz)).mp t4
        have klz : ls (kd Sz a) := by rw [ek]; exact kl
        obtain ⟨tz, d1, d2, d3, d4, d5⟩ := (hCz.2.2.1.1 a haz).2.2.2.2.2 klz
        have era : re Sz a = re S a := hre a List.mem_cons_self
        refine ⟨hCz.1.1.1, A 34, e34, hT'.1, c_has hT' hao hth (fun ml => ⟨fun z => absurd z (by decide), fun _ => ⟨hCz.1.1.1, t4, ?_⟩⟩) (fun ml => ⟨fun _ => stay ?_, fun z => absurd rfl z⟩)⟩
        · -- it refers
          rw [e34]
          intro P22 q22
          refine ⟨t4, fun e => q22 _ ⟨fun _ => stay ?_, fun z => absurd rfl z⟩, fun r hr => ⟨A 34, rfl, hT'.1, ?_⟩⟩
          · rw [d1, era] at e
            refine Bool.eq_false_iff.mpr fun z => ?_
            obtain ⟨-, -, r, hr, -⟩ := gp_iff.mp z
            rw [e] at hr; cases hr
          · rw [d1, era] at hr ⊢
            rw [hr]
            have hro : r ∈ ob S := ((hW.2.1 a hao).2.2.2.2.2.2.2.1 kl).1 r hr
            refine c_has hT' hro (hCz.thg hWz (by rw [hs.1]; exact hro)) (fun mr => ⟨fun _ => q22 _ ⟨fun _ => stay ?_, fun z => absurd rfl z⟩, fun z => absurd z (by decide)⟩) (fun mr => ⟨fun z => absurd rfl z, fun _ => ⟨fun z => absurd z (by decide), fun _ => ⟨t4, ?_⟩⟩⟩)
            · refine Bool.eq_false_iff.mpr fun z => ?_
              obtain ⟨-, -, r', hr', hn⟩ := gp_iff.mp z
              rw [hr] at hr'; cases hr'
              exact hn ((hl r).mp mr)
            · have hg : gp S sf a = true := gp_iff.mpr ⟨kl, (hl a).mp ml, r, hr, fun z => mr ((hl r).mpr z)⟩
              refine c_forget hCz t4 (fun h9 c9 F9 L9 => ?_)
              obtain ⟨⟨u1, u2, u3, u4, u5, u6, u7⟩, ⟨k1, k2, k3, k4, k5, k6⟩, ⟨y1, y2, y3⟩, -⟩ := c9.1
              refine ⟨u1, A 31, u4, k3, by rw [y3]; unfold vp_in; decide, by rw [y3]; unfold vp_in; decide, ?_⟩
              rw [c9.2.1.2.2.2.1 5 (by decide)]
              have c10 := c9.setC (k := 5) (cn (frg Sz a) 5 + 1)
              have W10 : WF (wC (frg Sz a) 5 (cn Sz 5 + 1)) := (WFfrg hWz a).setC _ (by decide) (by decide) (by decide)
              refine c_tell (S := wC (frg Sz a) 5 (cn Sz 5 + 1)) c10 W10 haz klz (fun h11 c11 F11 L11 => ?_)
              refine nx (lgo Sz a) h11 (hs.trans (stS_lgo Sz a)) (WFlgo hWz haz klz) (fun x hx => ?_) c11 ((hL.trans L9).trans (FL.rfl'.qI.trans L11)) ((hF.trans F9).trans ((FCcnt c9.1 FC.rfl').trans F11)) ?_
              · rw [lgo_re, if_neg (fun e => ham (by rw [← e]; exact hx))]
                exact hre x (List.mem_cons_of_mem _ hx)
              · rw [← hfold, List.filter_cons, hg]; rfl
        · refine Bool.eq_false_iff.mpr fun z => ?_
          obtain ⟨-, hr, -⟩ := gp_iff.mp z
          exact ml ((hl a).mpr hr)
      · refine stay (Bool.eq_false_iff.mpr fun z => ?_)
        obtain ⟨kl, -⟩ := gp_iff.mp z
        exact q a rfl ((COa.t4 (hWz.2.1 a haz) (hCz.2.2.1.1 a haz)).mpr (by rw [ek]; exact kl))
  exact loop (ob S) [] S h (by simp) stS.rfl' hW (fun _ _ => rfl) hC FL.rfl' FC.rfl' rfl
end COLL
