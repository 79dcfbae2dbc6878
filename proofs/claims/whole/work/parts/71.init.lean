/-! The start of both. -/
def FZ (h h' : Hp) : Prop := ∀ x, tg h x ≠ 0 → tg h' x = tg h x ∧ ln h' x = ln h x ∧ (∀ k, fI h' k x = fI h k x) ∧ (∀ k, fR h' k x = fR h k x) ∧ aI h' x = aI h x ∧ aL h' x = aL h x ∧ aR h' x = aR h x
theorem FZ.rfl' {h : Hp} : FZ h h := fun _ _ => ⟨rfl, rfl, fun _ => rfl, fun _ => rfl, rfl, rfl, rfl⟩
theorem FZ.trans {h h1 h2 : Hp} (a : FZ h h1) (b : FZ h1 h2) : FZ h h2 := fun x hx => by
  obtain ⟨a1, a2, a3, a4, a5, a6, a7⟩ := a x hx
  obtain ⟨b1, b2, b3, b4, b5, b6, b7⟩ := b x (by rw [a1]; exact hx)
  exact ⟨b1.trans a1, b2.trans a2, fun k => (b3 k).trans (a3 k), fun k => (b4 k).trans (a4 k), b5.trans a5, b6.trans a6, b7.trans a7⟩
theorem FZ.nO {h h1 : Hp} {a t : Nat} (y : FZ h h1) (ha : tg h1 a = 0) : FZ h (nO h1 a t) := y.trans fun x hx => by
  have hne : x ≠ a := fun e => hx (by rw [e]; exact ha)
  exact ⟨by rw [tg_nO', if_neg hne], rfl, fun k => by rw [fI_nO', if_neg hne], fun k => by rw [fR_nO', if_neg hne], rfl, rfl, rfl⟩
theorem FZ.nA {h h1 : Hp} {a t n : Nat} (y : FZ h h1) (ha : tg h1 a = 0) : FZ h (nA h1 a t n) := y.trans fun x hx => by
  have hne : x ≠ a := fun e => hx (by rw [e]; exact ha)
  exact ⟨by rw [tg_nA', if_neg hne], by rw [ln_nA', if_neg hne], fun k => rfl, fun k => rfl, funext fun j => by rw [aI_nA', if_neg hne], funext fun j => by rw [aL_nA', if_neg hne], funext fun j => by rw [aR_nA', if_neg hne]⟩
theorem FZ.pR {h h1 : Hp} {k a : Nat} {o : Option Nat} (y : FZ h h1) (ha : tg h a = 0) : FZ h (pR h1 k a o) := fun x hx => by
  have hne : x ≠ a := fun e => hx (by rw [e]; exact ha)
  obtain ⟨a1, a2, a3, a4, a5, a6, a7⟩ := y x hx
  exact ⟨a1, a2, a3, fun k' => by rw [fR_pR, if_neg (fun q => hne q.2)]; exact a4 k', a5, a6, a7⟩
theorem FZ.pI {h h1 : Hp} {k a : Nat} {o : Int32} (y : FZ h h1) (ha : tg h a = 0) : FZ h (pI h1 k a o) := fun x hx => by
  have hne : x ≠ a := fun e => hx (by rw [e]; exact ha)
  obtain ⟨a1, a2, a3, a4, a5, a6, a7⟩ := y x hx
  exact ⟨a1, a2, fun k' => by rw [fI_pI, if_neg (fun q => hne q.2)]; exact a3 k', a4, a5, a6, a7⟩
theorem FZ.qI {h h1 : Hp} {k a : Nat} {o : Int32} (y : FZ h h1) (ha : tg h a = 0) : FZ h (qI h1 a k o) := fun x hx => by
  have hne : x ≠ a := fun e => hx (by rw [e]; exact ha)
  obtain ⟨a1, a2, a3, a4, a5, a6, a7⟩ := y x hx
  exact ⟨a1, a2, a3, a4, by rw [aIx _ _ _ _ _ hne]; exact a5, a6, a7⟩
theorem FZ.fresh {h h1 : Hp} {a : Nat} (y : FZ h h1) (ha : tg h1 a = 0) : tg h a = 0 := by
  by_cases q : tg h a = 0
  · exact q
  · rw [(y a q).1] at ha; exact absurd ha q
/-- the room -/
def rmv (x : Int32) : Int32 := j_mx 600 (j_mi 30000 x)
theorem rmv_ex (x : Int32) : ∃ r : Nat, 600 ≤ r ∧ r ≤ 30000 ∧ rmv x = nI r := by
  have e6 : (600 : Int32) = nI 600 := rfl
  have e3 : (30000 : Int32) = nI 30000 := rfl
  unfold rmv j_mx j_mi
  by_cases q : x < 30000
  · rw [if_pos q]
    by_cases w : 600 < x
    · rw [if_pos w]
      have hp : ¬ x < 0 := fun z => by
        have h1 := Int32.lt_iff_toInt_lt.mp z; have h2 := Int32.lt_iff_toInt_lt.mp w
        have : (600 : Int32).toInt = 600 := by decide
        have : (0 : Int32).toInt = 0 := by decide
        omega
      obtain ⟨r, hr, rfl⟩ := nI_ex hp
      rw [e3] at q; rw [e6] at w
      have := (nI_lt' hr (by decide)).mp q; have := (nI_lt' (by decide) hr).mp w
      exact ⟨r, by omega, by omega, rfl⟩
    · rw [if_neg w]; exact ⟨600, by decide, by decide, rfl⟩
  · rw [if_neg q, if_pos (by decide)]; exact ⟨30000, by decide, by decide, rfl⟩
theorem rmv_m {x : Int32} {P : Int32 → Prop} (hp : P (rmv x)) : ((600 : Int32) ≤ x → ((x ≤ (30000 : Int32) → P x) ∧ (¬ x ≤ (30000 : Int32) → P 30000))) ∧ (¬ (600 : Int32) ≤ x → P 600) := by
  have e600 : (600 : Int32).toInt = 600 := by decide
  have e300 : (30000 : Int32).toInt = 30000 := by decide
  have lt : ∀ a b : Int32, a < b ↔ a.toInt < b.toInt := fun a b => Int32.lt_iff_toInt_lt
  have le : ∀ a b : Int32, a ≤ b ↔ a.toInt ≤ b.toInt := fun a b => Int32.le_iff_toInt_le
  refine ⟨fun a => ⟨fun b => ?_, fun b => ?_⟩, fun a => ?_⟩
  · have e : rmv x = x := by
      apply Int32.toInt_inj.mp
      rw [le] at a b
      have e1 : j_mi 30000 x = x := by
        unfold j_mi
        by_cases q : x < 30000
        · rw [if_pos q]
        · rw [if_neg q]; rw [lt] at q; exact Int32.toInt_inj.mp (by omega)
      unfold rmv j_mx; rw [e1]
      by_cases q : 600 < x
      · rw [if_pos q]
      · rw [if_neg q]; rw [lt] at q; omega
    rw [e] at hp; exact hp
  · have e : rmv x = 30000 := by
      rw [le] at b
      have e1 : j_mi 30000 x = 30000 := by unfold j_mi; rw [if_neg (by rw [lt]; omega)]
      unfold rmv; rw [e1]; decide
    rw [e] at hp; exact hp
  · have e : rmv x = 600 := by
      rw [le] at a
      have e1 : j_mi 30000 x = x := by unfold j_mi; rw [if_pos (by rw [lt]; omega)]
      unfold rmv j_mx; rw [e1, if_neg (by rw [lt]; omega)]
    rw [e] at hp; exact hp
/-- the first state -/
def S0_ (r : Nat) : St := (hz0, [], fun _ => [], fun _ => none, 64, [], up1 (fun _ => 0) 7 64, r)
theorem WF0 {r : Nat} (h1 : 600 ≤ r) (h2 : r ≤ 30000) : WF (S0_ r) := by
  refine ⟨List.nodup_nil, fun a ha => (by cases ha), Nat.zero_le _, h1, h2, ?_, ?_, ?_, rfl, Nat.zero_le _, fun i _ b hb => (by cases hb)⟩
  · show up1 (fun _ => (0 : Int32)) 7 64 0 = nI 0; rw [up1_ne (by decide), nI_0]
  · show up1 (fun _ => (0 : Int32)) 7 64 1 = nI 0; rw [up1_ne (by decide), nI_0]
  · show up1 (fun _ => (0 : Int32)) 7 64 7 = nI 64; rw [up1_same]; rfl
/-- what the class's start leaves -/
def XI (h : Hp) (B : Nat → Nat) (x : Int32) : Prop :=
  (tg h (B 0) = 6 ∧ fR h 29 (B 0) = some (B 29) ∧ fR h 30 (B 0) = some (B 30) ∧ fR h 31 (B 0) = some (B 31) ∧ fR h 32 (B 0) = some (B 32) ∧ fR h 33 (B 0) = some (B 33) ∧ fR h 34 (B 0) = some (B 34)) ∧
  (tg h (B 29) = 11 ∧ tg h (B 30) = 8 ∧ tg h (B 31) = 8 ∧ tg h (B 32) = 1 ∧ tg h (B 33) = 1 ∧ tg h (B 34) = 5) ∧ (ln h (B 29) = 384 ∧ ln h (B 30) = 20 ∧ ln h (B 31) = 10) ∧ B 32 ≠ B 33 ∧ B 30 ≠ B 31 ∧
  (∀ i, aR h (B 29) i = none) ∧ fI h 35 (B 0) = 0 ∧ (∀ k, aI h (B 31) k = if k = 7 then 64 else 0) ∧ fI h 27 (B 0) = x ∧ (∀ c, c = B 32 ∨ c = B 33 → fR h 19 c = none ∧ fR h 20 c = none ∧ fI h 21 c = 0 ∧ fI h 22 c = 0) ∧ fI h 26 (B 34) = 0
theorem XI.fz {h h' : Hp} {B : Nat → Nat} {x : Int32} (X : XI h B x) (y : FZ h h') : XI h' B x := by
  obtain ⟨⟨a1, a2, a3, a4, a5, a6, a7⟩, ⟨b1, b2, b3, b4, b5, b6⟩, ⟨c1, c2, c3⟩, d1, d2, e1, e2, e3, e4, e5, e6⟩ := X
  obtain ⟨p1, p2, p3, p4, p5, p6, p7⟩ := y (B 0) (by rw [a1]; decide)
  obtain ⟨q1, q2, q3, q4, q5, q6, q7⟩ := y (B 29) (by rw [b1]; decide)
  obtain ⟨r1, r2, r3, r4, r5, r6, r7⟩ := y (B 30) (by rw [b2]; decide)
  obtain ⟨s1, s2, s3, s4, s5, s6, s7⟩ := y (B 31) (by rw [b3]; decide)
  have t2 := y (B 32) (by rw [b4]; decide)
  have t3 := y (B 33) (by rw [b5]; decide)
  have t4 := y (B 34) (by rw [b6]; decide)
  refine ⟨⟨p1.trans a1, by rw [p4]; exact a2, by rw [p4]; exact a3, by rw [p4]; exact a4, by rw [p4]; exact a5, by rw [p4]; exact a6, by rw [p4]; exact a7⟩, ⟨q1.trans b1, r1.trans b2, s1.trans b3, t2.1.trans b4, t3.1.trans b5, t4.1.trans b6⟩, ⟨q2.trans c1, r2.trans c2, s2.trans c3⟩, d1, d2, by rw [q7]; exact e1, by rw [p3]; exact e2, by rw [s5]; exact e3, by rw [p3]; exact e4, fun c hc => ?_, by rw [t4.2.2.1]; exact e6⟩
  have tc : (∀ k, fI h' k c = fI h k c) ∧ (∀ k, fR h' k c = fR h k c) := by rcases hc with rfl | rfl; exact ⟨t2.2.2.1, t2.2.2.2.1⟩; exact ⟨t3.2.2.1, t3.2.2.2.1⟩
  rw [tc.2, tc.2, tc.1, tc.1]; exact e5 c hc
/-- the model's arrays made so far -/
def AL (h4 h : Hp) (t : Nat) (B : Nat → Nat) (K : List Nat) (s : Nat → Int32) : Prop :=
  tg h t = 7 ∧ tg h4 t = 0 ∧ FZ h4 h ∧ (∀ k ∈ K, mky k ∧ fR h k t = some (B k) ∧ tg h (B k) = mtg k ∧ ln h (B k) = mln k ∧ (∀ i, aI h (B k) i = 0) ∧ tg h4 (B k) = 0) ∧ (∀ j ∈ K, ∀ k ∈ K, B j = B k → j = k) ∧ ∀ k, fI h k t = s k
theorem mtg_ne (k : Nat) : mtg k ≠ 0 ∧ mtg k ≠ 7 := by unfold mtg; split; decide; split; decide; decide
theorem AL.add {h4 h : Hp} {t : Nat} {B : Nat → Nat} {K : List Nat} {s : Nat → Int32} (H : AL h4 h t B K s) {k a : Nat} (hk : mky k) (hK : k ∉ K) (ha : tg h a = 0) : AL h4 (pR (nA h a (mtg k) (mln k)) k t (some a)) t (up1 B k a) (k :: K) s := by
  obtain ⟨a1, a2, a3, a4, a5, a6⟩ := H
  have hta : t ≠ a := fun e => by rw [e, ha] at a1; cases a1
  have ha4 := a3.fresh ha
  have hBa : ∀ j ∈ K, B j ≠ a := fun j hj e => by have := (a4 j hj).2.2.1; rw [e, ha] at this; exact (mtg_ne j).1 this.symm
  have hkj : ∀ j ∈ K, j ≠ k := fun j hj e => hK (by rw [← e]; exact hj)
  refine ⟨by rw [tg_pR, tg_nA', if_neg hta]; exact a1, a2, (a3.nA ha).pR a2, fun j hj => ?_, fun i hi j hj e => ?_, a6⟩
  · rcases List.mem_cons.mp hj with z | z
    · subst z
      rw [up1_same]
      exact ⟨hk, by rw [fR_pR, if_pos ⟨rfl, rfl⟩], by rw [tg_pR, tg_nA', if_pos rfl], by rw [ln_pR, ln_nA', if_pos rfl], fun i => by rw [aI_pR, aI_nA', if_pos rfl], ha4⟩
    · rw [up1_ne (hkj j z)]
      obtain ⟨b0, b1, b2, b3, b4, b5⟩ := a4 j z
      have hne := hBa j z
      exact ⟨b0, by rw [fR_pR, if_neg (fun q => hkj j z q.1)]; exact b1, by rw [tg_pR, tg_nA', if_neg hne]; exact b2, by rw [ln_pR, ln_nA', if_neg hne]; exact b3, fun i => by rw [aI_pR, aI_nA', if_neg hne]; exact b4 i, b5⟩
  · rcases List.mem_cons.mp hi with z | z
    · rcases List.mem_cons.mp hj with w | w
      · rw [z, w]
      · rw [z, up1_same, up1_ne (hkj j w)] at e; exact absurd e.symm (hBa j w)
    · rcases List.mem_cons.mp hj with w | w
      · rw [w, up1_same, up1_ne (hkj i z)] at e; exact absurd e (hBa i z)
      · rw [up1_ne (hkj i z), up1_ne (hkj j w)] at e; exact a5 i z j w e
theorem AL.put {h4 h : Hp} {t : Nat} {B : Nat → Nat} {K : List Nat} {s : Nat → Int32} (H : AL h4 h t B K s) (k : Nat) (x : Int32) : AL h4 (pI h k t x) t B K (up1 s k x) := by
  obtain ⟨a1, a2, a3, a4, a5, a6⟩ := H
  refine ⟨a1, a2, a3.pI a2, a4, a5, fun k' => ?_⟩
  rw [fI_pI]; unfold up1
  by_cases e : k' = k
  · rw [if_pos ⟨e, rfl⟩, if_pos e]
  · rw [if_neg (fun q => e q.1), if_neg e]; exact a6 k'
def ctg (k : Nat) : Nat := if k = 29 then 11 else if k = 30 ∨ k = 31 then 8 else if k = 32 ∨ k = 33 then 1 else 5
def cln (k : Nat) : Nat := if k = 29 then 384 else if k = 30 then 20 else 10
theorem ctg_ne (k : Nat) : ctg k ≠ 0 ∧ ctg k ≠ 6 := by unfold ctg; split; decide; split; decide; split; decide; decide
/-- the class's cells made so far -/
def CL (h : Hp) (t : Nat) (B : Nat → Nat) (K : List Nat) : Prop :=
  tg h t = 6 ∧ (∀ k ∈ K, fR h k t = some (B k) ∧ tg h (B k) = ctg k ∧ (k ≤ 31 → ln h (B k) = cln k ∧ (∀ i, aI h (B k) i = 0) ∧ ∀ i, aR h (B k) i = none) ∧ (32 ≤ k → (∀ j, fI h j (B k) = 0) ∧ ∀ j, fR h j (B k) = none)) ∧ (∀ j ∈ K, ∀ k ∈ K, B j = B k → j = k) ∧ ∀ k, fI h k t = 0
theorem CL.inj {h : Hp} {t : Nat} {B : Nat → Nat} {K : List Nat} {k a : Nat} (H : CL h t B K) (ha : tg h a = 0) (hK : k ∉ K) : ∀ i ∈ k :: K, ∀ j ∈ k :: K, up1 B k a i = up1 B k a j → i = j := by
  have hBa : ∀ j ∈ K, B j ≠ a := fun j hj e => by have := (H.2.1 j hj).2.1; rw [e, ha] at this; exact (ctg_ne j).1 this.symm
  have hkj : ∀ j ∈ K, j ≠ k := fun j hj e => hK (by rw [← e]; exact hj)
  intro i hi j hj e
  rcases List.mem_cons.mp hi with z | z
  · rcases List.mem_cons.mp hj with w | w
    · rw [z, w]
    · rw [z, up1_same, up1_ne (hkj j w)] at e; exact absurd e.symm (hBa j w)
  · rcases List.mem_cons.mp hj with w | w
    · rw [w, up1_same, up1_ne (hkj i z)] at e; exact absurd e (hBa i z)
    · rw [up1_ne (hkj i z), up1_ne (hkj j w)] at e; exact H.2.2.1 i z j w e
theorem CL.addA {h : Hp} {t : Nat} {B : Nat → Nat} {K : List Nat} {k a : Nat} (H : CL h t B K) (hk : k ≤ 31) (hK : k ∉ K) (ha : tg h a = 0) : CL (pR (nA h a (ctg k) (cln k)) k t (some a)) t (up1 B k a) (k :: K) := by
  have hinj := H.inj ha hK
  obtain ⟨a1, a4, a5, a6⟩ := H
  have hta : t ≠ a := fun e => by rw [e, ha] at a1; cases a1
  have hBa : ∀ j ∈ K, B j ≠ a := fun j hj e => by have := (a4 j hj).2.1; rw [e, ha] at this; exact (ctg_ne j).1 this.symm
  have hBt : ∀ j ∈ K, B j ≠ t := fun j hj e => by have := (a4 j hj).2.1; rw [e, a1] at this; exact (ctg_ne j).2 this.symm
  have hkj : ∀ j ∈ K, j ≠ k := fun j hj e => hK (by rw [← e]; exact hj)
  refine ⟨by rw [tg_pR, tg_nA', if_neg hta]; exact a1, fun j hj => ?_, hinj, a6⟩
  rcases List.mem_cons.mp hj with z | z
  · subst z
    rw [up1_same]
    exact ⟨by rw [fR_pR, if_pos ⟨rfl, rfl⟩], by rw [tg_pR, tg_nA', if_pos rfl], fun _ => ⟨by rw [ln_pR, ln_nA', if_pos rfl], fun i => by rw [aI_pR, aI_nA', if_pos rfl], fun i => by rw [aR_pR, aR_nA', if_pos rfl]⟩, fun q => by omega⟩
  · rw [up1_ne (hkj j z)]
    obtain ⟨b1, b2, b3, b4⟩ := a4 j z
    have hne := hBa j z
    refine ⟨by rw [fR_pR, if_neg (fun q => hkj j z q.1)]; exact b1, by rw [tg_pR, tg_nA', if_neg hne]; exact b2, fun q => ?_, fun q => ?_⟩
    · obtain ⟨c1, c2, c3⟩ := b3 q
      exact ⟨by rw [ln_pR, ln_nA', if_neg hne]; exact c1, fun i => by rw [aI_pR, aI_nA', if_neg hne]; exact c2 i, fun i => by rw [aR_pR, aR_nA', if_neg hne]; exact c3 i⟩
    · obtain ⟨c1, c2⟩ := b4 q
      exact ⟨fun i => by rw [fI_pR, fI_nA]; exact c1 i, fun i => by rw [fR_pR, if_neg (fun w => hBt j z w.2), fR_nA]; exact c2 i⟩
theorem CL.addO {h : Hp} {t : Nat} {B : Nat → Nat} {K : List Nat} {k a : Nat} (H : CL h t B K) (hk : 32 ≤ k) (hK : k ∉ K) (ha : tg h a = 0) : CL (pR (nO h a (ctg k)) k t (some a)) t (up1 B k a) (k :: K) := by
  have hinj := H.inj ha hK
  obtain ⟨a1, a4, a5, a6⟩ := H
  have hta : t ≠ a := fun e => by rw [e, ha] at a1; cases a1
  have hBa : ∀ j ∈ K, B j ≠ a := fun j hj e => by have := (a4 j hj).2.1; rw [e, ha] at this; exact (ctg_ne j).1 this.symm
  have hBt : ∀ j ∈ K, B j ≠ t := fun j hj e => by have := (a4 j hj).2.1; rw [e, a1] at this; exact (ctg_ne j).2 this.symm
  have hkj : ∀ j ∈ K, j ≠ k := fun j hj e => hK (by rw [← e]; exact hj)
  refine ⟨by rw [tg_pR, tg_nO', if_neg hta]; exact a1, fun j hj => ?_, hinj, fun i => by rw [fI_pR, fI_nO', if_neg hta]; exact a6 i⟩
  rcases List.mem_cons.mp hj with z | z
  · subst z
    rw [up1_same]
    exact ⟨by rw [fR_pR, if_pos ⟨rfl, rfl⟩], by rw [tg_pR, tg_nO', if_pos rfl], fun q => by omega, fun _ => ⟨fun i => by rw [fI_pR, fI_nO', if_pos rfl], fun i => by rw [fR_pR, if_neg (fun w => hta w.2.symm), fR_nO', if_pos rfl]⟩⟩
  · rw [up1_ne (hkj j z)]
    obtain ⟨b1, b2, b3, b4⟩ := a4 j z
    have hne := hBa j z
    refine ⟨by rw [fR_pR, if_neg (fun q => hkj j z q.1), fR_nO', if_neg hta]; exact b1, by rw [tg_pR, tg_nO', if_neg hne]; exact b2, fun q => ?_, fun q => ?_⟩
    · obtain ⟨c1, c2, c3⟩ := b3 q
      exact ⟨by rw [ln_pR, ln_nO]; exact c1, fun i => by rw [aI_pR, aI_nO]; exact c2 i, fun i => by rw [aR_pR, aR_nO]; exact c3 i⟩
    · obtain ⟨c1, c2⟩ := b4 q
      exact ⟨fun i => by rw [fI_pR, fI_nO', if_neg hne]; exact c1 i, fun i => by rw [fR_pR, if_neg (fun w => hBt j z w.2), fR_nO', if_neg hne]; exact c2 i⟩
theorem CL.toXI {h : Hp} {t : Nat} {B : Nat → Nat} (H : CL h t B [34, 33, 32, 31, 30, 29]) (x y : Int32) : XI (qI (pI (pI h 27 t x) 28 t y) (B 31) 7 64) (up1 B 0 t) x := by
  obtain ⟨a1, a4, a5, a6⟩ := H
  have u : ∀ k, k ≠ 0 → up1 B 0 t k = B k := fun k q => up1_ne q
  have u0 : up1 B 0 t 0 = t := up1_same _ _ _
  unfold XI
  rw [u0, u 29 (by decide), u 30 (by decide), u 31 (by decide), u 32 (by decide), u 33 (by decide), u 34 (by decide)]
  have p29 := a4 29 (by simp); have p30 := a4 30 (by simp); have p31 := a4 31 (by simp); have p32 := a4 32 (by simp); have p33 := a4 33 (by simp); have p34 := a4 34 (by simp)
  have hBt : ∀ j, tg h (B j) = ctg j → B j ≠ t := fun j q e => by rw [e, a1] at q; exact (ctg_ne j).2 q.symm
  refine ⟨⟨a1, p29.1, p30.1, p31.1, p32.1, p33.1, p34.1⟩, ⟨p29.2.1, p30.2.1, p31.2.1, p32.2.1, p33.2.1, p34.2.1⟩, ⟨(p29.2.2.1 (by decide)).1, (p30.2.2.1 (by decide)).1, (p31.2.2.1 (by decide)).1⟩, fun e => ?_, fun e => ?_, (p29.2.2.1 (by decide)).2.2, ?_, fun k => ?_, ?_, fun c hc => ?_, ?_⟩
  · have := a5 32 (by simp) 33 (by simp) e; omega
  · have := a5 30 (by simp) 31 (by simp) e; omega
  · rw [fI_qI, fIx _ _ _ _ _ (by decide), fIx _ _ _ _ _ (by decide)]; exact a6 35
  · rw [aI_qI]
    by_cases e : k = 7
    · rw [if_pos ⟨rfl, e⟩, if_pos e]
    · rw [if_neg (fun q => e q.2), if_neg e]; exact (p31.2.2.1 (by decide)).2.1 k
  · rw [fI_qI, fIx _ _ _ _ _ (by decide), fI_pI, if_pos ⟨rfl, rfl⟩]
  · have pc : (∀ j, fI h j c = 0) ∧ ∀ j, fR h j c = none := by rcases hc with rfl | rfl; exact p32.2.2.2 (by decide); exact p33.2.2.2 (by decide)
    exact ⟨pc.2 19, pc.2 20, by rw [fI_qI, fIx _ _ _ _ _ (by decide), fIx _ _ _ _ _ (by decide)]; exact pc.1 21, by rw [fI_qI, fIx _ _ _ _ _ (by decide), fIx _ _ _ _ _ (by decide)]; exact pc.1 22⟩
  · rw [fI_qI, fIx _ _ _ _ _ (by decide), fIx _ _ _ _ _ (by decide)]; exact (p34.2.2.2 (by decide)).1 26
section INIT
variable {Q : Option AV ⊕ String → Hp → Prop}
theorem c_init {h : Hp} {a : Nat} {x y : Int32} (h1 : ∀ h' B, B 0 = a → XI h' B (rmv x) → Q (.inl none) h') : vc_X6_init a x y (nO h a 6) Q := by
  have C0 : CL (nO h a 6) a (fun _ => 0) [] := ⟨by rw [tg_nO', if_pos rfl], fun k hk => (by cases hk), fun k hk => (by cases hk), fun k => by rw [fI_nO', if_pos rfl]⟩
  generalize nO h a 6 = h0 at C0
  have c29 : ctg 29 = 11 := by decide
  have d29 : cln 29 = 384 := by decide
  have c30 : ctg 30 = 8 := by decide
  have d30 : cln 30 = 20 := by decide
  have c31 : ctg 31 = 8 := by decide
  have d31 : cln 31 = 10 := by decide
  have c32 : ctg 32 = 1 := by decide
  have c33 : ctg 33 = 1 := by decide
  have c34 : ctg 34 = 5 := by decide
  intro a1 f1
  have C1 := C0.addA (k := 29) (by decide) (by simp) f1
  rw [c29, d29] at C1
  have e1 : ∀ z, tg (nA h0 a1 11 384) z = tg (pR (nA h0 a1 11 384) 29 a (some a1)) z := fun z => (by first | rw [tg_pR] | rw [ln_pR])
  refine ⟨by rw [e1]; exact C1.1, fun a7 f7 a12 f12 a17 f17 => ?_⟩
  have e2 : tg (nA (nA h0 a1 11 384) a7 8 20) a12 = tg (nA (pR (nA h0 a1 11 384) 29 a (some a1)) a7 8 20) a12 := by simp only [tg_nA', tg_pR]
  rw [e2] at f12
  have e3 : tg (nA (nA (nA h0 a1 11 384) a7 8 20) a12 8 10) a17 = tg (nA (pR (nA (pR (nA h0 a1 11 384) 29 a (some a1)) a7 8 20) 30 a (some a7)) a12 8 10) a17 := by simp only [tg_nA', tg_pR]
  rw [e3] at f17
  rw [e1] at f7
  show (qv _ qn) (.inl none) (nO (pR (nA (pR (nA (pR (nA h0 a1 11 384) 29 a (some a1)) a7 8 20) 30 a (some a7)) a12 8 10) 31 a (some a12)) a17 1)
  have f12 : tg (nA (pR (nA h0 a1 11 384) 29 a (some a1)) a7 8 20) a12 = 0 := f12
  have f17 : tg (nA (pR (nA (pR (nA h0 a1 11 384) 29 a (some a1)) a7 8 20) 30 a (some a7)) a12 8 10) a17 = 0 := f17
  generalize pR (nA h0 a1 11 384) 29 a (some a1) = h2 at *
  have C2 := C1.addA (k := 30) (by decide) (by simp) f7
  rw [c30, d30] at C2
  have f12 : tg (pR (nA h2 a7 8 20) 30 a (some a7)) a12 = 0 := f12
  have f17 : tg (nA (pR (nA h2 a7 8 20) 30 a (some a7)) a12 8 10) a17 = 0 := f17
  show (qv _ qn) (.inl none) (nO (pR (nA (pR (nA h2 a7 8 20) 30 a (some a7)) a12 8 10) 31 a (some a12)) a17 1)
  generalize pR (nA h2 a7 8 20) 30 a (some a7) = h3 at *
  have C3 := C2.addA (k := 31) (by decide) (by simp) f12
  rw [c31, d31] at C3
  have f17 : tg (pR (nA h3 a12 8 10) 31 a (some a12)) a17 = 0 := f17
  show (qv _ qn) (.inl none) (nO (pR (nA h3 a12 8 10) 31 a (some a12)) a17 1)
  generalize pR (nA h3 a12 8 10) 31 a (some a12) = h4 at *
  have C4 := C3.addO (k := 32) (by decide) (by simp) f17
  rw [c32] at C4
  show tg (nO h4 a17 1) a = 6 ∧ ∀ a23 : Nat, tg (nO h4 a17 1) a23 = 0 → (qv _ qn) (.inl none) (nO (pR (nO h4 a17 1) 32 a (some a17)) a23 1)
  have e5 : ∀ z, tg (nO h4 a17 1) z = tg (pR (nO h4 a17 1) 32 a (some a17)) z := fun z => (by first | rw [tg_pR] | rw [ln_pR])
  refine ⟨by rw [e5]; exact C4.1, fun a23 f23 => ?_⟩
  rw [e5] at f23
  generalize pR (nO h4 a17 1) 32 a (some a17) = h5 at *
  have C5 := C4.addO (k := 33) (by decide) (by simp) f23
  rw [c33] at C5
  show tg (nO h5 a23 1) a = 6 ∧ ∀ a29 : Nat, tg (nO h5 a23 1) a29 = 0 → (qv _ qn) (.inl none) (nO (pR (nO h5 a23 1) 33 a (some a23)) a29 5)
  have e6 : ∀ z, tg (nO h5 a23 1) z = tg (pR (nO h5 a23 1) 33 a (some a23)) z := fun z => (by first | rw [tg_pR] | rw [ln_pR])
  refine ⟨by rw [e6]; exact C5.1, fun a29 f29 => ?_⟩
  rw [e6] at f29
  generalize pR (nO h5 a23 1) 33 a (some a23) = h6 at *
  have C6 := C5.addO (k := 34) (by decide) (by simp) f29
  rw [c34] at C6
  show tg (nO h6 a29 5) a = 6 ∧ ∃ a35 : Nat, fR (nO h6 a29 5) 31 a = some a35 ∧ tg (nO h6 a29 5) a35 = 8 ∧ vp_in (7 : Int32) (ln (nO h6 a29 5) a35) ∧ Q (.inl none) (qI (pI (pI (pR (nO h6 a29 5) 34 a (some a29)) 27 a (rmv x)) 28 a (j_mx (64 : Int32) (j_mi (4000 : Int32) y))) a35 7 (64 : Int32))
  have e7 : ∀ z, tg (nO h6 a29 5) z = tg (pR (nO h6 a29 5) 34 a (some a29)) z := fun z => (by first | rw [tg_pR] | rw [ln_pR])
  have e8 : fR (nO h6 a29 5) 31 a = fR (pR (nO h6 a29 5) 34 a (some a29)) 31 a := by rw [fRx _ _ _ _ _ (by decide)]
  have e9 : ∀ z, ln (nO h6 a29 5) z = ln (pR (nO h6 a29 5) 34 a (some a29)) z := fun z => (by first | rw [tg_pR] | rw [ln_pR])
  generalize pR (nO h6 a29 5) 34 a (some a29) = h7 at *
  rw [e8, e7]
  obtain ⟨q1, q2, q3, -⟩ := C6.2.1 31 (by simp)
  have e31 := (q3 (by decide)).1
  refine ⟨C6.1, _, q1, by rw [e7, q2]; exact c31, by rw [e9, e31, d31]; unfold vp_in; decide, h1 _ _ ?_ (C6.toXI (rmv x) _)⟩
  exact up1_same _ _ _
/-- what the model's start leaves -/
def MI_ (h4 h : Hp) (t : Nat) (B : Nat → Nat) (x : Int32) : Prop :=
  tg h t = 7 ∧ tg h4 t = 0 ∧ FZ h4 h ∧ (∀ k, mky k → fR h k t = some (B k) ∧ tg h (B k) = mtg k ∧ ln h (B k) = mln k ∧ tg h4 (B k) = 0 ∧ (k ≠ 42 → ∀ i, aI h (B k) i = 0)) ∧ (∀ j k, mky j → mky k → B j = B k → j = k) ∧ (∀ i < 15100, aI h (B 42) i = -1) ∧ fI h 59 t = 1 ∧ fI h 63 t = 64 ∧ fI h 41 t = x ∧ ∀ k, k ≠ 59 → k ≠ 63 → k ≠ 41 → fI h k t = 0
theorem m_init {h4 : Hp} {t : Nat} {x y : Int32} (ht : tg h4 t = 0) (h1 : ∀ h' B, MI_ h4 h' t B (rmv x) → Q (.inl none) h') : vc_X7_init t x y (nO h4 t 7) Q := by
  have C0 : AL h4 (nO h4 t 7) t (fun _ => 0) [] (fun _ => 0) := ⟨by rw [tg_nO', if_pos rfl], ht, FZ.rfl'.nO ht, fun k hk => (by cases hk), fun k hk => (by cases hk), fun k => by rw [fI_nO', if_pos rfl]⟩
  generalize nO h4 t 7 = h0 at C0
  have l55 : ∀ k, k ≤ 55 → mln k = 15100 := fun k hk => by unfold mln; rw [if_pos hk]
  intro P195 P200 q195 q200 a1 f1
  have C1 := C0.add k42 (by decide) f1
  rw [show mtg 42 = 8 by decide, l55 42 (by decide)] at C1
  refine ⟨by rw [← tg_pR (nA h0 a1 8 15100) 42 t (some a1)]; exact C1.1, fun a7 f7 h12 e12 a14 f14 a19 f19 h24 e24 a26 f26 a31 f31 h36 e36 a38 f38 a43 f43 h48 e48 a50 f50 a55 f55 h60 e60 a62 f62 a67 f67 h72 e72 a74 f74 a79 f79 h84 e84 a86 f86 a91 f91 h96 e96 a98 f98 h103 e103 => ?_⟩
  have C2 := C1.add k43 (by decide) (by rw [tg_pR]; exact f7)
  rw [show mtg 43 = 8 by decide, l55 43 (by decide), ← e12] at C2
  have C3 := C2.add k44 (by decide) f14
  rw [show mtg 44 = 8 by decide, l55 44 (by decide)] at C3
  have C4 := C3.add k45 (by decide) (by rw [tg_pR]; exact f19)
  rw [show mtg 45 = 8 by decide, l55 45 (by decide), ← e24] at C4
  have C5 := C4.add k46 (by decide) f26
  rw [show mtg 46 = 8 by decide, l55 46 (by decide)] at C5
  have C6 := C5.add k47 (by decide) (by rw [tg_pR]; exact f31)
  rw [show mtg 47 = 8 by decide, l55 47 (by decide), ← e36] at C6
  have C7 := C6.add k48 (by decide) f38
  rw [show mtg 48 = 8 by decide, l55 48 (by decide)] at C7
  have C8 := C7.add k49 (by decide) (by rw [tg_pR]; exact f43)
  rw [show mtg 49 = 8 by decide, l55 49 (by decide), ← e48] at C8
  have C9 := C8.add k50 (by decide) f50
  rw [show mtg 50 = 8 by decide, l55 50 (by decide)] at C9
  have C10 := C9.add k51 (by decide) (by rw [tg_pR]; exact f55)
  rw [show mtg 51 = 8 by decide, l55 51 (by decide), ← e60] at C10
  have C11 := C10.add k52 (by decide) f62
  rw [show mtg 52 = 10 by decide, l55 52 (by decide)] at C11
  have C12 := C11.add k53 (by decide) (by rw [tg_pR]; exact f67)
  rw [show mtg 53 = 10 by decide, l55 53 (by decide), ← e72] at C12
  have C13 := C12.add k54 (by decide) f74
  rw [show mtg 54 = 8 by decide, l55 54 (by decide)] at C13
  have C14 := C13.add k55 (by decide) (by rw [tg_pR]; exact f79)
  rw [show mtg 55 = 8 by decide, l55 55 (by decide), ← e84] at C14
  have C15 := (C14.add k56 (by decide) f86).put 59 1
  rw [show mtg 56 = 9 by decide, show mln 56 = 31000 by decide] at C15
  have C16 := C15.add k61 (by decide) (by rw [tg_pI, tg_pR]; exact f91)
  rw [show mtg 61 = 8 by decide, show mln 61 = 384 by decide, ← e96] at C16
  have C17 := (C16.add k62 (by decide) (by rw [tg_pR]; exact f98)).put 63 64
  rw [show mtg 62 = 8 by decide, show mln 62 = 20 by decide, ← e103] at C17
  have C18 := C17.put 41 (rmv x)
  refine rmv_m (P := fun v => P195 v (some t) h103) (q195 _ _ _ ⟨t, rfl, C17.1, ?_⟩)
  generalize pI h103 41 t (rmv x) = H at C18
  generalize up1 (up1 (up1 (up1 (up1 (up1 (up1 (up1 (up1 (up1 (up1 (up1 (up1 (up1 (up1 (up1 (up1 (fun _ => 0) 42 a1) 43 a7) 44 a14) 45 a19) 46 a26) 47 a31) 48 a38) 49 a43) 50 a50) 51 a55) 52 a62) 53 a67) 54 a74) 55 a79) 56 a86) 61 a91) 62 a98 = B at C18
  clear C0 C1 C2 C3 C4 C5 C6 C7 C8 C9 C10 C11 C12 C13 C14 C15 C16 C17
  obtain ⟨b1, b2, b3, b4, b5, b6⟩ := C18
  have hK : ∀ k, mky k → k ∈ [62, 61, 56, 55, 54, 53, 52, 51, 50, 49, 48, 47, 46, 45, 44, 43, 42] := fun k hk => by unfold mky at hk; simp; omega
  have p42 := b4 42 (hK 42 k42)
  have e151 : (15100 : Int32) = nI 15100 := rfl
  have fill : ∀ (d i : Nat) (h' : Hp), d + i = 15100 → tg h' = tg H → ln h' = ln H → fR h' = fR H → fI h' = fI H → (∀ z, z ≠ B 42 → aI h' z = aI H z) → FZ h4 h' → (∀ z < i, aI h' (B 42) z = -1) → P200 (nI i) h' := by
    intro d
    induction d with
    | zero =>
      intro i h' hd t1 t2 t3 t4 t5 t6 t7
      have : i = 15100 := by omega
      subst this
      refine q200 _ _ ⟨fun _ => h1 h' B ⟨by rw [t1]; exact b1, b2, t6, fun k hk => ?_, fun j k hj hk e => b5 j (hK j hj) k (hK k hk) e, t7, by rw [t4, b6]; rfl, by rw [t4, b6]; rfl, by rw [t4, b6]; exact up1_same _ _ _, fun k q1 q2 q3 => by rw [t4, b6, up1_ne q3, up1_ne q2, up1_ne q1]⟩, fun q => absurd (by rw [e151]; exact (nI_le' (by decide) (by decide)).mpr (Nat.le_refl _)) q⟩
      obtain ⟨-, c1, c2, c3, c4, c5⟩ := b4 k (hK k hk)
      exact ⟨by rw [t3]; exact c1, by rw [t1]; exact c2, by rw [t2]; exact c3, c5, fun q i => by rw [t5 _ (fun e => q (b5 k (hK k hk) 42 (hK 42 k42) e))]; exact c4 i⟩
    | succ d ih =>
      intro i h' hd t1 t2 t3 t4 t5 t6 t7
      have vi_ : vp_in (nI i) (ln h' (B 42)) := by rw [t2, p42.2.2.2.1]; exact vin (by show i < 15100; omega) (by decide)
      refine q200 _ _ ⟨fun q => ?_, fun _ => ⟨by rw [t1]; exact b1, B 42, by rw [t3]; exact p42.2.1, by rw [t1]; exact p42.2.2.1, vi_, ?_⟩⟩
      · rw [e151] at q; have := (nI_le' (by decide) (by omega)).mp q; omega
      · rw [nI_1, nI_clamp (by omega)]
        refine ih (i + 1) _ (by omega) t1 t2 t3 t4 (fun z hz => by rw [aIx _ _ _ _ _ hz]; exact t5 z hz) (t6.qI p42.2.2.2.2.2) (fun z hz => ?_)
        rw [aI_qI]
        by_cases e : z = i
        · rw [if_pos ⟨rfl, e⟩]
        · rw [if_neg (fun q => e q.2)]; exact t7 z (by omega)
  rw [← nI_0]
  exact fill 15100 0 H (by omega) rfl rfl rfl rfl (fun _ _ => rfl) b3 (fun z hz => by omega)
end INIT
