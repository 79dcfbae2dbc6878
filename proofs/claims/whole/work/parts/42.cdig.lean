/-! The digest. -/
def pos : List Nat → Nat → Nat
  | [], _ => 0
  | b :: r, a => if b = a then 0 else pos r a + 1
theorem pos_get : ∀ {l : List Nat} {a : Nat}, a ∈ l → l[pos l a]? = some a
  | [], _, h => by cases h
  | b :: r, a, h => by
    unfold pos
    split
    · rename_i e; subst e; rfl
    · rename_i e
      rcases List.mem_cons.mp h with z | z
      · exact absurd z.symm e
      · simpa using pos_get z
def plc (l : List Nat) (o : Option Nat) : Int64 :=
  match o with
  | none => 0
  | some a => (nI (pos l a + 1)).toInt64
def digR (f : Nat → Option Nat) : Nat → Nat → List Nat → Int64 → List Nat × Int64
  | 0, _, l, z => (l, z)
  | d + 1, j, l, z => digR f d (j + 1) (vis l (f j)) (31 * z + plc (vis l (f j)) (f j))
def digN (g : Nat → Int64) : Nat → Nat → Int64 → Int64
  | 0, _, z => z
  | d + 1, j, z => digN g d (j + 1) (31 * z + g j)
def digO (S : St) (a : Nat) (l : List Nat) (z : Int64) : List Nat × Int64 :=
  ((digR (rf S a) (nr S a) 0 l (31 * (31 * z + (kd S a).toInt64) + (nI (nr S a)).toInt64)).1, digN (nv S a) (nn S a) 0 (31 * (digR (rf S a) (nr S a) 0 l (31 * (31 * z + (kd S a).toInt64) + (nI (nr S a)).toInt64)).2 + (nI (nn S a)).toInt64))
def digL (S : St) : Nat → Nat → List Nat → Int64 → Int64
  | 0, _, _, z => z
  | d + 1, k, l, z =>
    match l[k]? with
    | none => z
    | some a => digL S d (k + 1) (digO S a l z).1 (digO S a l z).2
def dig (S : St) (i : Nat) : Int64 := digL S (ob S).length 0 (vis [] (rt S i)) 7
section CDIG
variable {b : Nat} {h : Hp} {A : Nat → Nat} {S : St} {n : Nat} {l : List Nat} {Q : Option AV ⊕ String → Hp → Prop}
theorem c_digH (hC : CX h A S) (hW : WF S) (hT : TI h (A 34) l n (ob S)) {a : Nat} (ha : a ∈ ob S) (hk : hd (kd S a)) {z : Int64} (h1 : ∀ h', TI h' (A 34) (digO S a l z).1 n (ob S) → TC h h' → Q (.inl (some (vl (digO S a l z).2))) h') : vc_X1_digestOn a (31 * z + (kd S a).toInt64) (some (A 34)) h Q := by
  obtain ⟨t, r, nu, d1, d2, d3, d4, d5, d6, d7, d8, d9, d10⟩ := (hC.2.2.1.1 a ha).2.2.2.1 hk
  have h3000 := (hW.2.1 a ha).2.2.2.2.1; have h3001 := (hW.2.1 a ha).2.2.2.2.2.1
  intro P26 P101 P63 q26 q101 q63
  -- numbers
  have nums : ∀ (d j : Nat) (z' : Int64) (h' : Hp), d + j = nn S a → TC h h' → (∀ zz, zz = digN (nv S a) d j z' → Q (.inl (some (vl zz))) h') → P101 z' (some nu) (nI (nn S a)) (nI j) h' := by
    intro d
    induction d with
    | zero =>
      intro j z' h' hd hc hq
      exact q101 _ _ _ _ _ ⟨fun _ => hq z' rfl, fun q => absurd ((nI_le' (by omega) (by omega)).mpr (by omega)) q⟩
    | succ d ih =>
      intro j z' h' hd hc hq
      refine q101 _ _ _ _ _ ⟨fun q => ?_, fun _ => ⟨nu, rfl, by rw [hc.1.1]; exact d7, by rw [hc.1.2.1, d8]; exact vin (by omega) (by omega), ?_⟩⟩
      · have := (nI_le' (by omega) (by omega)).mp q; omega
      · show P101 (31 * z' + aL h' nu (nI j).toNatClampNeg) (some nu) (nI (nn S a)) (nI j + 1) h'
        rw [nI_clamp (by omega), hc.1.2.2.2.1, d10 j (by omega), nI_1]
        exact ih (j + 1) _ h' (by omega) hc hq
  -- refs
  have refs : ∀ (d j : Nat) (z' : Int64) (h' : Hp) (l' : List Nat), d + j = nr S a → TI h' (A 34) l' n (ob S) → TC h h' → (digR (rf S a) d j l' z' = digR (rf S a) (nr S a) 0 l (31 * (31 * z + (kd S a).toInt64) + (nI (nr S a)).toInt64)) → P26 z' (some r) (nI (nr S a)) (nI j) h' := by
    intro d
    induction d with
    | zero =>
      intro j z' h' l' hd hT' hc he
      have hC' := hC.tf hW hc.1
      have i9 : fR h' 9 a = some nu := by rw [hc.1.2.2.2.2.2.2 9 (by decide) (by decide) (by decide) (by decide) (by decide)]; exact d6
      have t' : tg h' a = 2 := by rw [hc.1.1]; exact t
      have tn : tg h' nu = 9 := by rw [hc.1.1]; exact d7
      have lnn : ln h' nu = nn S a := by rw [hc.1.2.1]; exact d8
      refine q26 _ _ _ _ _ ⟨fun _ => ⟨t', nu, i9, tn, ?_⟩, fun q => absurd ((nI_le' (by omega) (by omega)).mpr (by omega)) q⟩
      show tg h' a = 2 ∧ ∃ a18 : Nat, fR h' 9 a = some a18 ∧ tg h' a18 = 9 ∧ P101 (31 * z' + (nI (ln h' nu)).toInt64) (fR h' 9 a) (nI (ln h' a18)) 0 h'
      refine ⟨t', nu, i9, tn, ?_⟩
      rw [i9, lnn]
      refine nums (nn S a) 0 _ h' (by omega) hc (fun zz hzz => ?_)
      have el : l' = (digO S a l z).1 := congrArg Prod.fst he
      have ez : z' = (digR (rf S a) (nr S a) 0 l (31 * (31 * z + (kd S a).toInt64) + (nI (nr S a)).toInt64)).2 := congrArg Prod.snd he
      have e2 : zz = (digO S a l z).2 := by rw [hzz, ez]; rfl
      rw [e2]
      exact h1 h' (by rw [← el]; exact hT') hc
    | succ d ih =>
      intro j z' h' l' hd hT' hc he
      have hC' := hC.tf hW hc.1
      refine q26 _ _ _ _ _ ⟨fun q => ?_, fun _ => ⟨r, rfl, by rw [hc.1.1]; exact d2, by rw [hc.1.2.1, d3]; exact vin (by omega) (by omega), A 34, rfl, hT'.1, ?_⟩⟩
      · have := (nI_le' (by omega) (by omega)).mp q; omega
      · rw [nI_clamp (by omega), hc.1.2.2.2.2.1, d5 j (by omega)]
        have hb : ∀ c, rf S a j = some c → c ∈ ob S := fun c hc => (hW.2.1 a ha).2.2.2.2.2.2.1 j (by omega) c hc
        refine c_comeTo hT' hb (hC'.thg hW) (fun h2 hT2 hc2 => ?_)
        have hC2 := hC'.tf hW hc2.1
        refine ⟨fun c hcc => ⟨hC2.thg hW c (hb c hcc), q63 _ _ _ _ _ _ ?_⟩, fun hcc => q63 _ _ _ _ _ _ ?_⟩
        · show P26 (31 * z' + (fI h2 5 c).toInt64) (some r) (nI (nr S a)) (nI j + 1) h2
          rw [nI_1]
          have hm : c ∈ vis l' (rf S a j) := by rw [hcc]; exact vis_mem
          rw [hT2.2.2.2.2.2.2.2.2.2 _ c (pos_get hm)]
          refine ih (j + 1) _ h2 _ (by omega) hT2 (hc.trans hc2) ?_
          rw [← he]
          show _ = digR (rf S a) d (j + 1) (vis l' (rf S a j)) (31 * z' + plc (vis l' (rf S a j)) (rf S a j))
          rw [hcc]; rfl
        · show P26 (31 * z' + 0) (some r) (nI (nr S a)) (nI j + 1) h2
          rw [nI_1]
          refine ih (j + 1) _ h2 _ (by omega) hT2 (hc.trans hc2) ?_
          rw [← he]
          show _ = digR (rf S a) d (j + 1) (vis l' (rf S a j)) (31 * z' + plc (vis l' (rf S a j)) (rf S a j))
          rw [hcc]; rfl
  refine ⟨t, r, d1, d2, ?_⟩
  show tg h a = 2 ∧ ∃ a8 : Nat, fR h 8 a = some a8 ∧ tg h a8 = 11 ∧ P26 (31 * (31 * z + (kd S a).toInt64) + (nI (ln h r)).toInt64) (fR h 8 a) (nI (ln h a8)) 0 h
  refine ⟨t, r, d1, d2, ?_⟩
  rw [d1, d3]
  exact refs (nr S a) 0 _ h l (by omega) hT TC.rfl' rfl
theorem digR_mem {f : Nat → Option Nat} {obs : List Nat} : ∀ (d j : Nat) (l : List Nat) (z : Int64), (∀ i, j ≤ i → i < j + d → ∀ c, f i = some c → c ∈ obs) → (∀ c ∈ l, c ∈ obs) → pre l (digR f d j l z).1 ∧ ∀ c ∈ (digR f d j l z).1, c ∈ obs
  | 0, _, l, _, _, hl => ⟨pre.refl, hl⟩
  | d + 1, j, l, z, hf, hl => by
    have := digR_mem (f := f) (obs := obs) d (j + 1) (vis l (f j)) (31 * z + plc (vis l (f j)) (f j)) (fun i h1 h2 => hf i (by omega) (by omega)) (fun c hc => by
      rcases mem_vis hc with q | q
      · exact hl c q
      · exact hf j (Nat.le_refl _) (by omega) c q)
    exact ⟨(vis_pre _ _).trans this.1, this.2⟩
theorem c_digest (hC : CI (b, ob S) h A S) (hW : WF S) (hb : b + 1 < 2 ^ 31) {x1 : Int32} (h1 : ¬ inR S x1 → Q (.inr xA) h) (h2 : ∀ i, i < nt S → x1 = nI i → ∀ h', CI (b + 1, ob S) h' A S → FC A h h' → Q (.inl (some (vl (dig S i)))) h') : vc_X6_digest (A 0) x1 h Q := by
  have hlen := hW.len
  have hnt := hW.nt
  obtain ⟨n, hn, e26, hid⟩ := hC.2.2.2.2
  have hX : CX h A S := ⟨hC.1, hC.2.1, hC.2.2.1, hC.2.2.2.1⟩
  obtain ⟨⟨f1, f2, f3, f4, f5, f6, f7⟩, ⟨g1, g2, g3, g4, g5, g6⟩, ⟨l1, l2, l3⟩, -⟩ := hC.1
  intro P46 P89 P75 q46 q89 q75
  refine ⟨f1, c_root hC hW (fun i hi e => ?_) h1⟩
  subst e
  -- the end
  have fin : ∀ (h' : Hp) (l : List Nat) (z : Int64), TI h' (A 34) l (n + 1) (ob S) → TC h h' → z = dig S i → P89 z h' := by
    intro h' l z hT' hc hz
    have hX' := hX.tf hW hc.1
    refine q89 _ _ ?_
    rw [hz]
    refine h2 i hi rfl h' ⟨hX'.1, hX'.2.1, hX'.2.2.1, hX'.2.2.2, n + 1, by omega, hT'.2.2.2.2.1, fun a ha => ⟨by rw [hc.2.1]; exact (hid a ha).1, ?_⟩⟩ hc.1.FC
    obtain ⟨m, hm, e⟩ := (hT'.2.2.2.2.2.2.2.2.1 a ha).2
    exact ⟨m, hm, e⟩
  have walk : ∀ (d k : Nat) (h' : Hp) (l : List Nat) (z : Int64), d + k = (ob S).length → TI h' (A 34) l (n + 1) (ob S) → TC h h' → digL S d k l z = dig S i → P46 z (nI d) l[k]? h' := by
    intro d
    induction d with
    | zero =>
      intro k h' l z hdk hT' hc he
      refine q46 _ _ _ _ ⟨fun _ => fin h' l z hT' hc he, fun a e => ⟨fun _ => fin h' l z hT' hc he, fun q => absurd (by decide) q⟩⟩
    | succ d ih =>
      intro k h' l z hdk hT' hc he
      have hX' := hX.tf hW hc.1
      refine q46 _ _ _ _ ⟨fun e => fin h' l z hT' hc ?_, fun a e => ⟨fun q => absurd q (nI_nle (by omega) (by omega)), fun _ => ?_⟩⟩
      · rw [← he]; unfold digL; rw [e]
      · have hal : a ∈ l := List.mem_of_getElem? e
        have hao := hT'.2.2.2.2.2.2.2.1 a hal
        have e34 : fR h' 34 (A 0) = some (A 34) := hX'.1.1.2.2.2.2.2.2
        have he' : digL S d (k + 1) (digO S a l z).1 (digO S a l z).2 = dig S i := by rw [← he]; conv => rhs; unfold digL; rw [e]
        refine ⟨hX'.thg hW a hao, ?_⟩
        show tg h' (A 0) = 6 ∧ _
        refine ⟨hX'.1.1.1, hX'.thg hW a hao, ?_⟩
        rw [(hX'.2.2.1.1 a hao).1, e34]
        have go : ∀ h2, TI h2 (A 34) (digO S a l z).1 (n + 1) (ob S) → TC h' h2 → pre l (digO S a l z).1 → P75 (nI (d + 1)) l[k]? (digO S a l z).2 h2 := by
          intro h2 hT2 hc2 hp
          have hX2 := hX'.tf hW hc2.1
          refine q75 _ _ _ _ ⟨a, e, hX2.thg hW a hao, ?_⟩
          rw [nI_dec, lnk_get hT2.2.2.2.2.2.1 (hp.get e)]
          exact ih (k + 1) h2 _ _ (by omega) hT2 (hc.trans hc2) he'
        have hpre : pre l (digO S a l z).1 := (digR_mem (obs := ob S) (nr S a) 0 l _ (fun j _ hj c hcc => (hW.2.1 a hao).2.2.2.2.2.2.1 j (by omega) c hcc) (fun c hcc => hT'.2.2.2.2.2.2.2.1 c hcc)).1
        have other : ¬ hd (kd S a) → vc_X4_digestOn a (31 * z + (kd S a).toInt64) (some (A 34)) h' (ql (fun v35 h34 => P75 (nI (d + 1)) l[k]? v35 h34) qn) := by
          intro nk
          obtain ⟨k1, k2⟩ := (hW.2.1 a hao).2.1 nk
          have eO : digO S a l z = (l, 31 * (31 * (31 * z + (kd S a).toInt64) + 0) + 0) := by
            unfold digO; rw [k1, k2]; rfl
          have := go h' (by rw [eO]; exact hT') TC.rfl' hpre
          rw [eO] at this
          exact this
        refine ⟨fun t => ?_, fun t => other ?_, fun t => other ?_⟩
        · exact c_digH hX' hW hT' hao ((COa.t2 (hW.2.1 a hao) (hX'.2.2.1.1 a hao)).mp t) (fun h2 hT2 hc2 => go h2 hT2 hc2 hpre)
        · rw [(COa.t3 (hW.2.1 a hao) (hX'.2.2.1.1 a hao)).mp t]; exact no3_hd
        · exact ls_nohd ((COa.t4 (hW.2.1 a hao) (hX'.2.2.1.1 a hao)).mp t)
  refine ⟨f1, A 34, f7, g6, c_begin (obs := ob S) g6 e26 (by omega) (fun a ha => ?_) (fun h2 t2 tc => ?_)⟩
  · obtain ⟨m, hm, e⟩ := (hid a ha).2
    exact ⟨m, hm, e⟩
  · have hX2 := hX.tf hW tc.1
    obtain ⟨⟨f1, f2, f3, f4, f5, f6, f7⟩, ⟨g1, g2, g3, g4, g5, g6⟩, ⟨l1, l2, l3⟩, -⟩ := hX2.1
    refine ⟨f1, A 29, f2, g1, by rw [l1]; exact vin (by omega) (by decide), A 34, f7, g6, ?_⟩
    rw [nI_clamp (by omega), hX2.2.1.1 i (by omega), if_pos hi]
    refine c_comeTo t2 (fun c hc => hW.2.2.2.2.2.2.2.2.2.2 i hi c hc) (hX2.thg hW) (fun h3 t3 tc3 => ?_)
    have hX3 := hX2.tf hW tc3.1
    obtain ⟨⟨f1, f2, f3, f4, f5, f6, f7⟩, ⟨g1, g2, g3, g4, g5, g6⟩, ⟨l1, l2, l3⟩, -⟩ := hX3.1
    refine ⟨f1, A 31, f4, g3, by rw [l3]; unfold vp_in; decide, A 34, f7, g6, ?_⟩
    rw [hX3.2.1.2.2.2.1 1 (by decide), hW.2.2.2.2.2.2.1, t3.2.1, List.head?_eq_getElem?]
    exact walk (ob S).length 0 h3 _ 7 (by omega) t3 (tc.trans tc3) rfl
end CDIG
