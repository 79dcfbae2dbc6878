/-! The model's digest. -/
section MDIG
variable {g : Gh} {h : Hp} {A : Nat → Nat} {S : St} {Q : Option AV ⊕ String → Hp → Prop}
def SD (A : Nat → Nat) (h h' : Hp) : Prop := tg h' = tg h ∧ ln h' = ln h ∧ fR h' = fR h ∧ aL h' = aL h ∧ aR h' = aR h ∧ fI h' = fI h ∧ ∀ x, x ≠ A 54 → x ≠ A 55 → aI h' x = aI h x
theorem SD.FM {h' : Hp} (a : SD A h h') : FM A h h' := ⟨a.1, a.2.1, a.2.2.1, a.2.2.2.2.1, fun k hk => by rw [a.2.2.2.2.2.1], fun x hx => ⟨a.2.2.2.2.2.2 x (hx 54 k54) (hx 55 k55), by rw [a.2.2.2.1]⟩⟩
theorem SD.q54 {i : Nat} {x : Int32} : SD A h (qI h (A 54) i x) := ⟨rfl, rfl, rfl, rfl, rfl, rfl, fun y q _ => aIx _ _ _ _ _ q⟩
theorem SD.q55 {i : Nat} {x : Int32} : SD A h (qI h (A 55) i x) := ⟨rfl, rfl, rfl, rfl, rfl, rfl, fun y _ q => aIx _ _ _ _ _ q⟩
theorem MJ.sd {h' : Hp} (hM : MJ g h A S) (a : SD A h h') : MJ g h' A S := by
  obtain ⟨t1, t2, t3, t4, t5, tI, tA⟩ := a
  obtain ⟨m1, m2, m3, m4, m5⟩ := hM
  have e : ∀ k, mky k → k ≠ 54 → k ≠ 55 → aI h' (A k) = aI h (A k) := fun k hk q1 q2 => tA _ (m1.ne hk k54 q1) (m1.ne hk k55 q2)
  refine ⟨by unfold MF; rw [t1, t2, t3]; exact m1, by unfold MG; rw [tI]; exact m2, ⟨by rw [e 61 k61 (by decide) (by decide)]; exact m3.1, scM.congr (h := h) (e 62 k62 (by decide) (by decide)) m3.2⟩, by unfold MN; rw [e 42 k42 (by decide) (by decide), e 47 k47 (by decide) (by decide)]; exact m4, fun b hb => ?_⟩
  have := m5 b hb
  unfold MOa MOd MOl MOq MOr at this ⊢
  rw [e 42 k42 (by decide) (by decide), e 43 k43 (by decide) (by decide), e 44 k44 (by decide) (by decide), e 45 k45 (by decide) (by decide), e 46 k46 (by decide) (by decide), e 47 k47 (by decide) (by decide), e 48 k48 (by decide) (by decide), e 49 k49 (by decide) (by decide), e 50 k50 (by decide) (by decide), e 51 k51 (by decide) (by decide), e 52 k52 (by decide) (by decide), t4]
  exact this
theorem pos_old {x : List Nat} : ∀ {l : List Nat} {a : Nat}, a ∈ l → pos (l ++ x) a = pos l a
  | [], _, h => by cases h
  | b :: r, a, h => by
    show (if b = a then 0 else pos (r ++ x) a + 1) = if b = a then 0 else pos r a + 1
    by_cases e : b = a
    · rw [if_pos e, if_pos e]
    · rw [if_neg e, if_neg e]
      rcases List.mem_cons.mp h with z | z
      · exact absurd z.symm e
      · rw [pos_old z]
theorem pos_new : ∀ {l : List Nat} {a : Nat}, a ∉ l → pos (l ++ [a]) a = l.length
  | [], a, _ => by simp [pos]
  | b :: r, a, h => by
    show (if b = a then 0 else pos (r ++ [a]) a + 1) = _
    rw [if_neg (fun e => h (by rw [e]; exact List.mem_cons_self)), pos_new (fun q => h (List.mem_cons_of_mem _ q))]; simp
/-- l stands in todo, and each one's place in it -/
def DI (g : Gh) (h : Hp) (A : Nat → Nat) (S : St) (l : List Nat) : Prop :=
  (∀ i b, l[i]? = some b → aI h (A 54) i = nI (num g b)) ∧ (∀ a ∈ ob S, aI h (A 55) (num g a) = if a ∈ l then nI (pos l a + 1) else 0) ∧ l.Nodup ∧ ∀ a ∈ l, a ∈ ob S
theorem DI.add {l : List Nat} {c : Nat} (hD : DI g h A S l) (hM : MJ g h A S) (hc : c ∈ ob S) (hl : c ∉ l) : DI g (qI (qI h (A 54) l.length (nI (num g c))) (A 55) (num g c) (nI (l.length + 1))) A S (l ++ [c]) := by
  obtain ⟨d1, d2, d3, d4⟩ := hD
  refine ⟨fun i b hb => ?_, fun a ha => ?_, ?_, fun a ha => ?_⟩
  · rw [aIx _ _ _ _ _ (hM.1.ne k54 k55 (by decide)), aI_qI]
    rcases Nat.lt_trichotomy i l.length with q | q | q
    · rw [if_neg (fun z => by omega)]
      rw [List.getElem?_append_left q] at hb; exact d1 i b hb
    · subst q; rw [if_pos ⟨rfl, rfl⟩]
      simp at hb; rw [hb]
    · rw [List.getElem?_eq_none (by simp; omega)] at hb; cases hb
  · rw [aI_qI]
    by_cases q : a = c
    · subst q; rw [if_pos ⟨rfl, rfl⟩, if_pos (by simp), pos_new hl]
    · rw [if_neg (fun z => q (hM.2.2.2.1.2.1 a ha c hc z.2)), aIx _ _ _ _ _ (hM.1.ne k55 k54 (by decide)), d2 a ha]
      by_cases w : a ∈ l
      · rw [if_pos w, if_pos (List.mem_append_left _ w), pos_old w]
      · rw [if_neg w, if_neg (by simp; exact ⟨w, q⟩)]
  · rw [List.nodup_append]
    exact ⟨d3, List.nodup_cons.mpr ⟨List.not_mem_nil, List.nodup_nil⟩, fun y hy z hz e => hl (by rw [List.mem_singleton.mp hz] at e; rw [← e]; exact hy)⟩
  · rcases List.mem_append.mp ha with z | z
    · exact d4 a z
    · rw [List.mem_singleton.mp z]; exact hc
theorem m_digest (hM : MJ g h A S) (hW : WF S) {x1 : Int32} (h1 : ¬ inR S x1 → MQL g h A S 1 0 Q) (h2 : ∀ i, i < nt S → x1 = nI i → MQL g h A S 0 (dig S i) Q) : vc_X7_digest (A 40) x1 h Q := by
  intro P37 P95 P144 P258 P210 P231 q37 q95 q144 q258 q210 q231
  obtain ⟨M0, F0, z0⟩ := m_start hM
  have hnt := hW.nt
  have hlen := hW.len
  have hnb := hM.2.2.2.1.2.2.2.1
  have hnb1 := hM.2.2.2.1.2.2.1
  refine ⟨hM.1.1, m_none M0 hW (fun i hi e => ⟨fun _ => ⟨M0.1.1, A 61, M0.1.r k61, M0.1.t k61 rfl, ?_⟩, fun q => absurd rfl q⟩) (fun q => ⟨fun z => absurd z (by decide), fun _ => ⟨M0.1.1, m_bad M0 F0 (h1 q)⟩⟩)⟩
  subst e
  have hrob : ∀ b, rt S i = some b → b ∈ ob S := fun b hb => hW.2.2.2.2.2.2.2.2.2.2 i hi b hb
  refine ⟨M0.rv hW hi, ?_⟩
  rw [M0.root hW hi]
  refine ⟨fun q => ?_, fun q => ?_⟩
  rotate_left
  · have en := (M0.encz hrob).mp q
    have ed : dig S i = 7 := by
      show digL S (ob S).length 0 (vis [] (rt S i)) 7 = 7
      rw [en]
      cases (ob S).length with
      | zero => rfl
      | succ d => rfl
    have := h2 i hi rfl _ M0 F0 z0
    rw [ed] at this; exact this
  -- there is a root
  obtain ⟨a0, ea0⟩ : ∃ a0, rt S i = some a0 := by
    cases hr : rt S i with
    | none => rw [hr] at q; exact absurd rfl q
    | some a0 => exact ⟨a0, rfl⟩
  have ha0 := hrob a0 ea0
  -- the walk
  have walk : ∀ (d k : Nat) (h' : Hp) (l : List Nat) (z : Int64), d + k = (ob S).length → k ≤ l.length → MJ g h' A S → DI g h' A S l → FM A h h' → fI h' 40 (A 40) = 0 → digL S d k l z = dig S i → P95 z (nI l.length) (nI k) h' := by
    intro d
    induction d with
    | zero =>
      intro k h' l z hdk hkl M' D' F' z' he
      have hll := nodup_len D'.2.2.1 D'.2.2.2
      refine q95 _ _ _ _ ⟨fun _ => ?_, fun w => absurd ((nI_le' (by omega) (by omega)).mpr (by omega)) w⟩
      have he : z = dig S i := he
      rw [he]; exact h2 i hi rfl h' M' F' z'
    | succ d ih =>
      intro k h' l z hdk hkl M' D' F' z' he
      have hll := nodup_len D'.2.2.1 D'.2.2.2
      by_cases hk : k = l.length
      · refine q95 _ _ _ _ ⟨fun _ => ?_, fun w => absurd ((nI_le' (by omega) (by omega)).mpr (by omega)) w⟩
        have he : z = dig S i := by rw [← he]; unfold digL; rw [List.getElem?_eq_none (by omega)]
        rw [he]; exact h2 i hi rfl h' M' F' z'
      · have hkl' : k < l.length := by omega
        have hget : l[k]? = some l[k] := List.getElem?_eq_getElem hkl'
        generalize l[k] = a at hget
        have hal : a ∈ l := List.mem_of_getElem? hget
        have hao := D'.2.2.2 a hal
        have wa := hW.2.1 a hao
        have he' : digL S d (k + 1) (digO S a l z).1 (digO S a l z).2 = dig S i := by rw [← he]; conv => rhs; unfold digL; rw [hget]
        have hna := M'.nm hao
        have td := D'.1 k a hget
        obtain ⟨e42, e43, e44, e45, -⟩ := (M'.2.2.2.2 a hao).1
        have h3000 := wa.2.2.2.2.1; have h3001 := wa.2.2.2.2.2.1
        have hat := M'.2.2.2.1.2.2.2.2.2.2.2.2.2.1 a hao
        have htp := M'.2.2.2.1.2.2.2.2.2.2.2.2.1
        refine q95 _ _ _ _ ⟨fun w => ?_, fun _ => ⟨M'.1.1, A 54, M'.1.r k54, M'.1.t k54 rfl, M'.1.v k54 (by show k < 15100; omega), A 42, M'.1.r k42, M'.1.t k42 rfl, ?_⟩⟩
        · have := (nI_le' (by omega) (by omega)).mp w; omega
        rw [nI_clamp (show k < 2 ^ 31 by omega), td, M'.clamp hao]
        refine ⟨M'.ix hao k42 (by decide), A 44, M'.1.r k44, M'.1.t k44 rfl, M'.ix hao k44 (by decide), ?_⟩
        rw [e42, e44]
        -- numbers
        have nums : ∀ (d' j : Nat) (z : Int64) (h' : Hp) (l : List Nat), d' + j = nn S a → MJ g h' A S → P95 (digN (nv S a) d' j z) (nI l.length) (nI (k + 1)) h' → P258 z (nI l.length) (nI k) (nI (num g a)) (nI j) h' := by
          intro d'
          induction d' with
          | zero =>
            intro j z h' l hdj M' hq
            obtain ⟨e42, e43, e44, e45, -⟩ := (M'.2.2.2.2 a hao).1
            refine q258 _ _ _ _ _ _ ⟨M'.1.1, A 45, M'.1.r k45, M'.1.t k45 rfl, M'.ix hao k45 (by decide), fun _ => ?_, fun w => absurd ?_ w⟩
            · rw [nI_1]; exact hq
            · rw [M'.clamp hao, e45]; exact (nI_le' (by omega) (by omega)).mpr (by omega)
          | succ d' ihd =>
            intro j z h' l hdj M' hq
            obtain ⟨e42, e43, e44, e45, -⟩ := (M'.2.2.2.2 a hao).1
            have er := (M'.2.2.2.2 a hao).2.2.2.2 j (by omega)
            refine q258 _ _ _ _ _ _ ⟨M'.1.1, A 45, M'.1.r k45, M'.1.t k45 rfl, M'.ix hao k45 (by decide), fun w => ?_, fun _ => ⟨A 43, M'.1.r k43, M'.1.t k43 rfl, M'.ix hao k43 (by decide), A 44, M'.1.r k44, M'.1.t k44 rfl, M'.ix hao k44 (by decide), A 56, M'.1.r k56, M'.1.t k56 rfl, ?_⟩⟩
            · rw [M'.clamp hao, e45] at w; have := (nI_le' (by omega) (by omega)).mp w; omega
            rw [M'.clamp hao, e43, e44, nI_add, nI_add, nI_1, nI_clamp (show at_ g a + nr S a + j < 2 ^ 31 by omega), er]
            exact ⟨M'.1.v k56 (by show at_ g a + nr S a + j < 31000; omega), ihd (j + 1) _ h' l (by omega) M' hq⟩
        -- refs
        have refs : ∀ (d' j : Nat) (z' : Int64) (h' : Hp) (l' : List Nat), d' + j = nr S a → MJ g h' A S → DI g h' A S l' → FM A h h' → fI h' 40 (A 40) = 0 → pre l l' → (digR (rf S a) d' j l' z' = digR (rf S a) (nr S a) 0 l (31 * (31 * z + (kd S a).toInt64) + (nI (nr S a)).toInt64)) → P144 z' (nI l'.length) (nI k) (nI (num g a)) (nI j) h' := by
          intro d'
          induction d' with
          | zero =>
            intro j z' h' l' hdj M' D' F' z40 hp he
            obtain ⟨e42, e43, e44, e45, -⟩ := (M'.2.2.2.2 a hao).1
            refine q144 _ _ _ _ _ _ ⟨M'.1.1, A 44, M'.1.r k44, M'.1.t k44 rfl, M'.ix hao k44 (by decide), fun _ => ⟨A 45, M'.1.r k45, M'.1.t k45 rfl, M'.ix hao k45 (by decide), ?_⟩, fun w => absurd ?_ w⟩
            · rw [M'.clamp hao, e45]
              have el : l' = (digO S a l z).1 := congrArg Prod.fst he
              have ez : z' = (digR (rf S a) (nr S a) 0 l (31 * (31 * z + (kd S a).toInt64) + (nI (nr S a)).toInt64)).2 := congrArg Prod.snd he
              refine nums (nn S a) 0 _ h' l' (by omega) M' ?_
              have e2 : digN (nv S a) (nn S a) 0 (31 * z' + (nI (nn S a)).toInt64) = (digO S a l z).2 := by rw [ez]; rfl
              rw [e2]
              refine ih (k + 1) h' l' _ (by omega) ?_ M' D' F' z40 (by rw [el]; exact he')
              obtain ⟨y, ey⟩ := hp
              rw [ey]; simp; omega
            · rw [M'.clamp hao, e44]; exact (nI_le' (by omega) (by omega)).mpr (by omega)
          | succ d' ihd =>
            intro j z' h' l' hdj M' D' F' z40 hp he
            obtain ⟨e42, e43, e44, e45, -⟩ := (M'.2.2.2.2 a hao).1
            have er := (M'.2.2.2.2 a hao).2.2.2.1 j (by omega)
            have hcb : ∀ c, rf S a j = some c → c ∈ ob S := fun c hc => wa.2.2.2.2.2.2.1 j (by omega) c hc
            have hll' := nodup_len D'.2.2.1 D'.2.2.2
            refine q144 _ _ _ _ _ _ ⟨M'.1.1, A 44, M'.1.r k44, M'.1.t k44 rfl, M'.ix hao k44 (by decide), fun w => ?_, fun _ => ⟨A 43, M'.1.r k43, M'.1.t k43 rfl, M'.ix hao k43 (by decide), A 56, M'.1.r k56, M'.1.t k56 rfl, ?_⟩⟩
            · rw [M'.clamp hao, e44] at w; have := (nI_le' (by omega) (by omega)).mp w; omega
            rw [M'.clamp hao, e43, nI_add, nI_clamp (show at_ g a + j < 2 ^ 31 by omega), er, l2i]
            refine ⟨M'.1.v k56 (by show at_ g a + j < 31000; omega), ?_⟩
            have step : ∀ (h2' : Hp) (l2 : List Nat), MJ g h2' A S → DI g h2' A S l2 → FM A h h2' → fI h2' 40 (A 40) = 0 → l2 = vis l' (rf S a j) → P210 z' (nI l2.length) (nI k) (nI (num g a)) (nI j) (enc g (rf S a j)) h2' := by
              intro h2' l2 M2 D2 F2 z2 el
              have cont : P144 (31 * z' + plc (vis l' (rf S a j)) (rf S a j)) (nI l2.length) (nI k) (nI (num g a)) (nI (j + 1)) h2' := by
                refine ihd (j + 1) _ h2' l2 (by omega) M2 D2 F2 z2 (by rw [el]; exact hp.trans (vis_pre _ _)) ?_
                rw [← he, el]; rfl
              cases hc : rf S a j with
              | none =>
                rw [hc] at cont el
                refine q210 _ _ _ _ _ _ _ ⟨fun w => absurd rfl w, fun _ => q231 _ _ _ _ _ _ _ ?_⟩
                rw [nI_1]; exact cont
              | some c =>
                rw [hc] at cont el
                have hco := hcb c hc
                have hcl : c ∈ l2 := by rw [el]; exact vis_mem
                refine q210 _ _ _ _ _ _ _ ⟨fun _ => ⟨M2.1.1, A 55, M2.1.r k55, M2.1.t k55 rfl, M2.ix hco k55 (by decide), q231 _ _ _ _ _ _ _ ?_⟩, fun w => absurd w (M2.nz hco)⟩
                show P144 (31 * z' + (aI h2' (A 55) (nI (num g c)).toNatClampNeg).toInt64) (nI l2.length) (nI k) (nI (num g a)) (nI j + 1) h2'
                rw [nI_1, M2.clamp hco, D2.2.1 c hco, if_pos hcl, el]
                rw [el] at cont; exact cont
            refine ⟨fun w => ?_, fun w => ?_⟩
            · have en := (M'.encz hcb).mp w
              exact step h' l' M' D' F' z40 (by rw [en]; rfl)
            · cases hc : rf S a j with
              | none => rw [hc] at w; exact absurd rfl w
              | some c =>
                have hco := hcb c hc
                have hnc := M'.nm hco
                have st2 := step
                rw [hc] at st2
                refine ⟨A 55, M'.1.r k55, M'.1.t k55 rfl, M'.ix hco k55 (by decide), ?_⟩
                show (¬ aI h' (A 55) (nI (num g c)).toNatClampNeg = 0 → _) ∧ (aI h' (A 55) (nI (num g c)).toNatClampNeg = 0 → _)
                rw [M'.clamp hco, D'.2.1 c hco]
                by_cases hcl : c ∈ l'
                · rw [if_pos hcl]
                  refine ⟨fun _ => st2 h' l' M' D' F' z40 (by unfold vis; simp only; rw [if_pos hcl]), fun y => absurd y ?_⟩
                  have hp' : pos l' c < l'.length := by
                    have := pos_get hcl
                    exact (List.getElem?_eq_some_iff.mp this).1
                  exact nI_ne0 (by omega) (by omega)
                · rw [if_neg hcl]
                  refine ⟨fun y => absurd rfl y, fun _ => ⟨A 54, M'.1.r k54, M'.1.t k54 rfl, M'.1.v k54 (by show l'.length < 15100; omega), M'.ix hco k55 (by decide), ?_⟩⟩
                  show P210 z' (nI l'.length + 1) (nI k) (nI (num g a)) (nI j) (nI (num g c)) (qI (qI h' (A 54) (nI l'.length).toNatClampNeg (nI (num g c))) (A 55) (nI (num g c)).toNatClampNeg (nI l'.length + 1))
                  rw [nI_1, M'.clamp hco, nI_clamp (show l'.length < 2 ^ 31 by omega)]
                  have el : l' ++ [c] = vis l' (some c) := by unfold vis; simp only; rw [if_neg hcl]
                  have hln : (l' ++ [c]).length = l'.length + 1 := by simp
                  rw [← hln]
                  have D2 := D'.add M' hco hcl
                  rw [← hln] at D2
                  exact st2 _ _ ((M'.sd SD.q54).sd SD.q55) D2 (F'.trans (FM.trans SD.q54.FM SD.q55.FM)) z40 el
        exact refs (nr S a) 0 _ h' l (by omega) M' D' F' z' pre.refl rfl
  -- clearing
  have clear_ : ∀ (d o : Nat) (h' : Hp), d + o = nb g → 1 ≤ o → MJ g h' A S → FM A h h' → fI h' 40 (A 40) = 0 → (∀ x, 1 ≤ x → x < o → aI h' (A 55) x = 0) → P37 7 (nI o) h' := by
    intro d
    induction d with
    | zero =>
      intro o h' hd ho M' F' z' hc
      have : o = nb g := by omega
      subst this
      have g59 : fI h' 59 (A 40) = nI (nb g) := M'.2.1.2.2.2.1
      have v0 : vp_in (0 : Int32) (ln h' (A 54)) := by rw [← nI_0]; exact M'.1.v k54 (by decide)
      refine q37 _ _ _ ⟨M'.1.1, fun _ => ⟨A 61, M'.1.r k61, M'.1.t k61 rfl, M'.rv hW hi, A 54, M'.1.r k54, M'.1.t k54 rfl, v0, M'.rv hW hi, A 55, M'.1.r k55, M'.1.t k55 rfl, ?_⟩, fun w => ?_⟩
      · have er : aI h' (A 61) (nI i).toNatClampNeg = nI (num g a0) := by rw [M'.root hW hi, ea0]; rfl
        rw [aIx _ _ _ _ _ (M'.1.ne k61 k54 (by decide)), er, M'.clamp ha0]
        refine ⟨M'.ix ha0 k55 (by decide), ?_⟩
        have D0 : DI g h' A S [] := ⟨fun i b hb => by simp at hb, fun a ha => by rw [if_neg List.not_mem_nil]; exact hc _ (M'.nm ha).1 (M'.2.2.2.1.1 a ha).2, List.nodup_nil, fun a ha => by cases ha⟩
        have D1 := D0.add M' ha0 List.not_mem_nil
        have := walk (ob S).length 0 _ [a0] 7 (by omega) (by simp) ((M'.sd SD.q54).sd SD.q55) D1 (F'.trans (FM.trans SD.q54.FM SD.q55.FM)) z' (by show digL S _ 0 [a0] 7 = digL S (ob S).length 0 (vis [] (rt S i)) 7; rw [ea0]; rfl)
        exact this
      · rw [g59] at w; exact absurd ((nI_le' (by omega) (by omega)).mpr (Nat.le_refl _)) w
    | succ d ih =>
      intro o h' hd ho M' F' z' hc
      have g59 : fI h' 59 (A 40) = nI (nb g) := M'.2.1.2.2.2.1
      refine q37 _ _ _ ⟨M'.1.1, fun w => ?_, fun _ => ⟨A 55, M'.1.r k55, M'.1.t k55 rfl, M'.vn (by omega) k55 (by decide), ?_⟩⟩
      · rw [g59] at w; have := (nI_le' (by omega) (by omega)).mp w; omega
      · rw [nI_clamp (by omega), nI_1]
        refine ih (o + 1) _ (by omega) (by omega) (M'.sd SD.q55) (F'.qI k55) z' (fun x hx1 hx2 => ?_)
        rw [aI_qI]
        by_cases e : x = o
        · rw [if_pos ⟨rfl, e⟩]
        · rw [if_neg (fun q => e q.2)]; exact hc x hx1 (by omega)
  exact clear_ (nb g - 1) 1 _ (by omega) (Nat.le_refl _) M0 F0 z0 (fun x hx1 hx2 => by omega)
end MDIG
