/-! The model's reaching. -/
def stk (g : Gh) (h : Hp) (A : Nat → Nat) : List Nat → Prop
  | [] => True
  | a :: r => aI h (A 54) r.length = nI (num g a) ∧ stk g h A r
/-- what reaching leaves as it is -/
def SF (A : Nat → Nat) (h h' : Hp) : Prop := tg h' = tg h ∧ ln h' = ln h ∧ fR h' = fR h ∧ aL h' = aL h ∧ aR h' = aR h ∧ (∀ k, k ≠ 74 → fI h' k = fI h k) ∧ ∀ x, x ≠ A 53 → x ≠ A 54 → aI h' x = aI h x
theorem SF.rfl' {A : Nat → Nat} {h : Hp} : SF A h h := ⟨rfl, rfl, rfl, rfl, rfl, fun _ _ => rfl, fun _ _ _ => rfl⟩
theorem SF.trans {A : Nat → Nat} {h h1 h2 : Hp} (a : SF A h h1) (b : SF A h1 h2) : SF A h h2 :=
  ⟨b.1.trans a.1, b.2.1.trans a.2.1, b.2.2.1.trans a.2.2.1, b.2.2.2.1.trans a.2.2.2.1, b.2.2.2.2.1.trans a.2.2.2.2.1, fun k q => (b.2.2.2.2.2.1 k q).trans (a.2.2.2.2.2.1 k q), fun x q1 q2 => (b.2.2.2.2.2.2 x q1 q2).trans (a.2.2.2.2.2.2 x q1 q2)⟩
theorem SF.FM {A : Nat → Nat} {h h' : Hp} (a : SF A h h') : FM A h h' := ⟨a.1, a.2.1, a.2.2.1, a.2.2.2.2.1, fun k hk => a.2.2.2.2.2.1 k (by omega), fun x hx => ⟨a.2.2.2.2.2.2 x (hx 53 k53) (hx 54 k54), by rw [a.2.2.2.1]⟩⟩
theorem MJ.sf {g : Gh} {h h' : Hp} {A : Nat → Nat} {S : St} (hM : MJ g h A S) (a : SF A h h') : MJ g h' A S := by
  obtain ⟨t1, t2, t3, t4, t5, tI, tA⟩ := a
  obtain ⟨m1, m2, m3, m4, m5⟩ := hM
  have e : ∀ k, mky k → k ≠ 53 → k ≠ 54 → aI h' (A k) = aI h (A k) := fun k hk q1 q2 => tA _ (m1.ne hk k53 q1) (m1.ne hk k54 q2)
  refine ⟨by unfold MF; rw [t1, t2, t3]; exact m1, ?_, ⟨by rw [e 61 k61 (by decide) (by decide)]; exact m3.1, scM.congr (h := h) (e 62 k62 (by decide) (by decide)) m3.2⟩, by unfold MN; rw [e 42 k42 (by decide) (by decide), e 47 k47 (by decide) (by decide)]; exact m4, fun b hb => ?_⟩
  · unfold MG; rw [tI 41 (by decide), tI 57 (by decide), tI 58 (by decide), tI 59 (by decide), tI 60 (by decide), tI 63 (by decide), tI 64 (by decide), tI 65 (by decide), tI 66 (by decide), tI 67 (by decide), tI 68 (by decide), tI 69 (by decide), tI 70 (by decide), tI 71 (by decide), tI 72 (by decide), tI 73 (by decide)]; exact m2
  · have := m5 b hb
    unfold MOa MOd MOl MOq MOr at this ⊢
    rw [e 42 k42 (by decide) (by decide), e 43 k43 (by decide) (by decide), e 44 k44 (by decide) (by decide), e 45 k45 (by decide) (by decide), e 46 k46 (by decide) (by decide), e 47 k47 (by decide) (by decide), e 48 k48 (by decide) (by decide), e 49 k49 (by decide) (by decide), e 50 k50 (by decide) (by decide), e 51 k51 (by decide) (by decide), e 52 k52 (by decide) (by decide), t4]
    exact this
/-- l is reached; st still waits -/
def RS (g : Gh) (h : Hp) (A : Nat → Nat) (S : St) (l st : List Nat) : Prop :=
  fI h 74 (A 40) = nI st.length ∧ (∀ a ∈ ob S, aI h (A 53) (num g a) = if a ∈ l then 1 else 0) ∧ stk g h A st ∧ l.Nodup ∧ (∀ a ∈ l, a ∈ ob S) ∧ (∀ a ∈ st, a ∈ l) ∧ st.Nodup
/-- more is reached -/
def RX (S : St) (sf : Int32) (l st l' st' : List Nat) : Prop :=
  pre l l' ∧ (∀ x ∈ st, x ∈ st') ∧ (∀ x ∈ l', x ∈ l ∨ x ∈ st') ∧ 2 * ((ob S).length - l'.length) + st'.length ≤ 2 * ((ob S).length - l.length) + st.length ∧ ((∀ b ∈ l, Rch S sf b) → ∀ b ∈ l', Rch S sf b) ∧ l.length ≤ l'.length
theorem RX.refl {S : St} {sf : Int32} {l st : List Nat} : RX S sf l st l st := ⟨pre.refl, fun _ q => q, fun _ q => Or.inl q, Nat.le_refl _, fun q => q, Nat.le_refl _⟩
theorem RX.trans {S : St} {sf : Int32} {l st l1 st1 l2 st2 : List Nat} (a : RX S sf l st l1 st1) (b : RX S sf l1 st1 l2 st2) : RX S sf l st l2 st2 :=
  ⟨a.1.trans b.1, fun x q => b.2.1 x (a.2.1 x q), fun x q => by
    rcases b.2.2.1 x q with z | z
    · rcases a.2.2.1 x z with y | y
      · exact Or.inl y
      · exact Or.inr (b.2.1 x y)
    · exact Or.inr z, Nat.le_trans b.2.2.2.1 a.2.2.2.1, fun q => b.2.2.2.2.1 (a.2.2.2.2.1 q), Nat.le_trans a.2.2.2.2.2 b.2.2.2.2.2⟩
section MREACH
variable {g : Gh} {h : Hp} {A : Nat → Nat} {S : St} {sf : Int32} {l st : List Nat} {Q : Option AV ⊕ String → Hp → Prop}
theorem stk_put {x : Int32} {n : Nat} : ∀ {st : List Nat}, stk g h A st → st.length ≤ n → stk g (qI h (A 54) n x) A st
  | [], _, _ => trivial
  | a :: r, q, hn => ⟨by rw [aI_qI, if_neg (fun e => by have := e.2; simp only [List.length_cons] at hn; omega)]; exact q.1, stk_put q.2 (by simp only [List.length_cons] at hn; omega)⟩
theorem stk_congr {h' : Hp} (e : aI h' (A 54) = aI h (A 54)) : ∀ {st : List Nat}, stk g h A st → stk g h' A st
  | [], _ => trivial
  | _ :: _, q => ⟨by rw [e]; exact q.1, stk_congr e q.2⟩
theorem m_reach (hM : MJ g h A S) (hW : WF S) (hR : RS g h A S l st) {o : Option Nat} (ho : ∀ a, o = some a → a ∈ ob S) (hs : ∀ a, o = some a → Rch S sf a ∨ True) (hr : (∀ b ∈ l, Rch S sf b) → ∀ a, o = some a → Rch S sf a) (h1 : ∀ h' l' st', MJ g h' A S → RS g h' A S l' st' → SF A h h' → RX S sf l st l' st' → (∀ a, o = some a → a ∈ l') → Q (.inl none) h') : vc_X7_reach (A 40) (enc g o) h Q := by
  have hlen := hW.len
  obtain ⟨r1, r2, r3, r4, r5, r6, r7⟩ := id hR
  refine ⟨fun e => ?_, fun e => ?_⟩
  · have := (hM.encz ho).mp e
    exact h1 h l st hM hR SF.rfl' RX.refl (fun a ha => by rw [this] at ha; cases ha)
  · cases o with
    | none => exact absurd rfl e
    | some a =>
      have ha := ho a rfl
      have hl15 := nodup_len r4 r5
      have hst := nodup_len r7 (fun x hx => r5 x (r6 x hx))
      refine ⟨hM.1.1, A 53, hM.1.r k53, hM.1.t k53 rfl, hM.ix ha k53 (by decide), ?_⟩
      show (aI h (A 53) (nI (num g a)).toNatClampNeg = 0 → _) ∧ _
      rw [show (enc g (some a)).toNatClampNeg = num g a from hM.clamp ha, show (nI (num g a)).toNatClampNeg = num g a from hM.clamp ha, r2 a ha]
      by_cases hal : a ∈ l
      · rw [if_pos hal]
        exact ⟨fun z => absurd z (by decide), fun _ => h1 h l st hM hR SF.rfl' RX.refl (fun b hb => by cases hb; exact hal)⟩
      · rw [if_neg hal]
        refine ⟨fun _ => ⟨hM.ix ha k53 (by decide), A 54, hM.1.r k54, hM.1.t k54 rfl, ?_⟩, fun z => absurd rfl z⟩
        rw [r1]
        have hlt : st.length < 15100 := by omega
        refine ⟨hM.1.v k54 (by show st.length < 15100; exact hlt), ?_⟩
        rw [nI_clamp (by omega), nI_1]
        have sf' : SF A h (qI (pI (qI h (A 53) (num g a) 1) 74 (A 40) (nI (st.length + 1))) (A 54) st.length (nI (num g a))) :=
          ⟨rfl, rfl, rfl, rfl, rfl, fun k q => by rw [fI_qI, fIx _ _ _ _ _ q]; rfl, fun x q1 q2 => by rw [aIx _ _ _ _ _ q2, aI_pI, aIx _ _ _ _ _ q1]⟩
        have hnst : a ∉ st := fun z => hal (r6 a z)
        have hll : l.length + 1 ≤ (ob S).length := by
          have := nodup_len (l := a :: l) (m := ob S) (List.nodup_cons.mpr ⟨hal, r4⟩) (fun x hx => by rcases List.mem_cons.mp hx with z | z; rw [z]; exact ha; exact r5 x z)
          simpa using this
        refine h1 _ (l ++ [a]) (a :: st) (hM.sf sf') ⟨?_, fun b hb => ?_, ⟨?_, ?_⟩, ?_, fun x hx => ?_, fun x hx => ?_, List.nodup_cons.mpr ⟨hnst, r7⟩⟩ sf' ⟨⟨[a], rfl⟩, fun x hx => List.mem_cons_of_mem _ hx, fun x hx => ?_, ?_, fun q b hb => ?_, by simp⟩ (fun b hb => by cases hb; simp)
        · rw [fI_qI, fI_pI, if_pos ⟨rfl, rfl⟩]; simp
        · rw [aIx _ _ _ _ _ (hM.1.ne k53 k54 (by decide)), aI_pI, aI_qI]
          by_cases eb : b = a
          · subst eb; simp
          · rw [if_neg (fun q => hM.inj hb ha eb q.2), r2 b hb]; simp [eb]
        · rw [aI_qI, if_pos ⟨rfl, rfl⟩]; rfl
        · exact stk_put (stk_congr (h := h) (by rw [aI_pI, aIx _ _ _ _ _ (hM.1.ne k54 k53 (by decide))]) r3) (Nat.le_refl _)
        · rw [List.nodup_append]
          exact ⟨r4, List.nodup_cons.mpr ⟨List.not_mem_nil, List.nodup_nil⟩, fun y hy z hz e => hal (by rw [List.mem_singleton.mp hz] at e; rw [← e]; exact hy)⟩
        · rcases List.mem_append.mp hx with z | z
          · exact r5 x z
          · rw [List.mem_singleton.mp z]; exact ha
        · rcases List.mem_cons.mp hx with z | z
          · rw [z]; simp
          · exact List.mem_append_left _ (r6 x z)
        · rcases List.mem_append.mp hx with z | z
          · exact Or.inl z
          · exact Or.inr (by rw [List.mem_singleton.mp z]; exact List.mem_cons_self)
        · simp only [List.length_append, List.length_cons, List.length_nil]; omega
        · rcases List.mem_append.mp hb with z | z
          · exact q b z
          · rw [List.mem_singleton.mp z]; exact hr q a rfl
/-- what spreading from a reaches -/
def SuM (S : St) (sf : Int32) (l : List Nat) (a : Nat) : Prop :=
  (∀ j < nr S a, ∀ b, rf S a j = some b → b ∈ l) ∧ (kd S a = 3 → ∀ b ∈ qu S a, b ∈ l) ∧ (kd S a = 4 → sf = 0 → ∀ b, re S a = some b → b ∈ l) ∧ (ls (kd S a) → cm S a = 0 → ∀ b, li S a = some b → b ∈ l)
theorem SuM.mono {l' : List Nat} {a : Nat} (hs : SuM S sf l a) (hp : pre l l') : SuM S sf l' a :=
  ⟨fun j hj b hb => hp.mem (hs.1 j hj b hb), fun k b hb => hp.mem (hs.2.1 k b hb), fun k e b hb => hp.mem (hs.2.2.1 k e b hb), fun k e b hb => hp.mem (hs.2.2.2 k e b hb)⟩
theorem m_spread (hM : MJ g h A S) (hW : WF S) (hR : RS g h A S l st) (hi : ∀ a ∈ l, a ∈ st ∨ SuM S sf l a) (hrl : ∀ b ∈ l, Rch S sf b) (h1 : ∀ h' l', MJ g h' A S → RS g h' A S l' [] → SF A h h' → pre l l' → l.length ≤ l'.length → (∀ a ∈ l', SuM S sf l' a) → (∀ b ∈ l', Rch S sf b) → Q (.inl none) h') : vc_X7_spread (A 40) sf h Q := by
  have hlen := hW.len
  have rc := Rch_cls S sf
  intro P0 P26 P96 P77 P120 P149 q0 q26 q96 q77 q120 q149
  have main : ∀ (d : Nat) (h' : Hp) (l' st' : List Nat), 2 * ((ob S).length - l'.length) + st'.length ≤ d → MJ g h' A S → RS g h' A S l' st' → SF A h h' → pre l l' → l.length ≤ l'.length → (∀ a ∈ l', a ∈ st' ∨ SuM S sf l' a) → (∀ b ∈ l', Rch S sf b) → P0 h' := by
    intro d
    induction d with
    | zero =>
      intro h' l' st' hd M' R' F' hp hle hi' hr'
      have hst : st' = [] := List.length_eq_zero_iff.mp (by omega)
      subst hst
      refine q0 _ ⟨M'.1.1, fun _ => h1 h' l' M' R' F' hp hle (fun a ha => by rcases hi' a ha with z | z; cases z; exact z) hr', fun q => ?_⟩
      rw [R'.1] at q; exact absurd (by decide) q
    | succ d ih =>
      intro h' l' st' hd M' R' F' hp hle hi' hr'
      cases st' with
      | nil =>
        refine q0 _ ⟨M'.1.1, fun _ => h1 h' l' M' R' F' hp hle (fun a ha => by rcases hi' a ha with z | z; cases z; exact z) hr', fun q => ?_⟩
        rw [R'.1] at q; exact absurd (by decide) q
      | cons a s =>
        obtain ⟨r1, r2, r3, r4, r5, r6, r7⟩ := id R'
        have hal := r6 a List.mem_cons_self
        have ha := r5 a hal
        have hRa := hr' a hal
        have hst := nodup_len r7 (fun x hx => r5 x (r6 x hx))
        simp only [List.length_cons] at hst r1
        have wa := hW.2.1 a ha
        refine q0 _ ⟨M'.1.1, fun q => ?_, fun _ => ⟨A 54, M'.1.r k54, M'.1.t k54 rfl, ?_⟩⟩
        · rw [r1] at q; exact absurd q (nI_nle (by omega) (by omega))
        · rw [r1, nI_pred]
          refine ⟨M'.1.v k54 (by show s.length < 15100; omega), ?_⟩
          rw [nI_clamp (by omega), r3.1]
          have sfp : SF A h' (pI h' 74 (A 40) (nI s.length)) := ⟨rfl, rfl, rfl, rfl, rfl, fun k q => fIx _ _ _ _ _ q, fun _ _ _ => rfl⟩
          have M1 := M'.sf sfp
          have R1 : RS g (pI h' 74 (A 40) (nI s.length)) A S l' s := ⟨by rw [fI_pI, if_pos ⟨rfl, rfl⟩], r2, stk_congr (h := h') (h' := pI h' 74 (A 40) (nI s.length)) rfl r3.2, r4, r5, fun x hx => r6 x (List.mem_cons_of_mem _ hx), (List.nodup_cons.mp r7).2⟩
          -- the end of a's turn
          have fin : ∀ (h2 : Hp) (l2 s2 : List Nat), MJ g h2 A S → RS g h2 A S l2 s2 → SF A h' h2 → RX S sf l' s l2 s2 → SuM S sf l2 a → P149 h2 := by
            intro h2 l2 s2 M2 R2 F2 X2 hs
            refine q149 _ (ih h2 l2 s2 ?_ M2 R2 (F'.trans F2) (hp.trans X2.1) (by have := X2.2.2.2.2.2; omega) (fun x hx => ?_) (X2.2.2.2.2.1 hr'))
            · have := X2.2.2.2.1; simp only [List.length_cons] at hd; omega
            · rcases X2.2.2.1 x hx with z | z
              · rcases hi' x z with y | y
                · rcases List.mem_cons.mp y with e | e
                  · rw [e]; exact Or.inr hs
                  · exact Or.inl (X2.2.1 x e)
                · exact Or.inr (y.mono X2.1)
              · exact Or.inl z
          -- fourth: the queue that it will come to
          have s4 : ∀ (h2 : Hp) (l2 s2 : List Nat), MJ g h2 A S → RS g h2 A S l2 s2 → SF A h' h2 → RX S sf l' s l2 s2 → (∀ j < nr S a, ∀ b, rf S a j = some b → b ∈ l2) → (kd S a = 3 → ∀ b ∈ qu S a, b ∈ l2) → (kd S a = 4 → sf = 0 → ∀ b, re S a = some b → b ∈ l2) → P120 (nI (num g a)) h2 := by
            intro h2 l2 s2 M2 R2 F2 X2 c1 c2 c3
            refine q120 _ _ ⟨M2.1.1, A 42, M2.1.r k42, M2.1.t k42 rfl, M2.ix ha k42 (by decide), ?_⟩
            rw [M2.clamp ha, (M2.2.2.2.2 a ha).1.1]
            refine ⟨fun q => fin h2 l2 s2 M2 R2 F2 X2 ⟨c1, c2, c3, fun k => absurd q ((lt4_ls wa.1).mpr k)⟩, fun q => ⟨A 52, M2.1.r k52, M2.1.t k52 rfl, M2.ix ha k52 (by decide), ?_⟩⟩
            have kl := (lt4_ls wa.1).mp q
            obtain ⟨o1, o2, o3, o4, o5⟩ := (M2.2.2.2.2 a ha).2.1 kl
            rw [o4]
            refine ⟨fun q2 => fin h2 l2 s2 M2 R2 F2 X2 ⟨c1, c2, c3, fun _ e => absurd e q2⟩, fun q2 => ⟨A 50, M2.1.r k50, M2.1.t k50 rfl, M2.ix ha k50 (by decide), ?_⟩⟩
            rw [o3 q2]
            refine m_reach (sf := sf) M2 hW R2 (fun b hb => ((wa.2.2.2.2.2.2.2.1 kl).2.2.2 q2 b hb).1) (fun _ _ => Or.inr trivial) (fun _ b hb => rc.2.2.2.1 a hRa kl q2 b hb) (fun h3 l3 s3 M3 R3 F3 X3 c4 => ?_)
            exact fin h3 l3 s3 M3 R3 (F2.trans F3) (X2.trans X3) ⟨fun j hj b hb => X3.1.mem (c1 j hj b hb), fun k b hb => X3.1.mem (c2 k b hb), fun k e b hb => X3.1.mem (c3 k e b hb), fun _ _ b hb => c4 b hb⟩
          -- third: the softly held
          have s3 : ∀ (h2 : Hp) (l2 s2 : List Nat), MJ g h2 A S → RS g h2 A S l2 s2 → SF A h' h2 → RX S sf l' s l2 s2 → (∀ j < nr S a, ∀ b, rf S a j = some b → b ∈ l2) → (kd S a = 3 → ∀ b ∈ qu S a, b ∈ l2) → P96 (nI (num g a)) h2 := by
            intro h2 l2 s2 M2 R2 F2 X2 c1 c2
            refine q96 _ _ ⟨M2.1.1, A 42, M2.1.r k42, M2.1.t k42 rfl, M2.ix ha k42 (by decide), ?_⟩
            rw [M2.clamp ha, (M2.2.2.2.2 a ha).1.1]
            refine ⟨fun q => s4 h2 l2 s2 M2 R2 F2 X2 c1 c2 (fun k => absurd k q), fun q => ⟨fun q2 => s4 h2 l2 s2 M2 R2 F2 X2 c1 c2 (fun _ e => absurd e q2), fun q2 => ⟨A 48, M2.1.r k48, M2.1.t k48 rfl, M2.ix ha k48 (by decide), ?_⟩⟩⟩
            have kl : ls (kd S a) := by rw [q]; exact ls4
            rw [((M2.2.2.2.2 a ha).2.1 kl).1]
            refine m_reach (sf := sf) M2 hW R2 (fun b hb => (wa.2.2.2.2.2.2.2.1 kl).1 b hb) (fun _ _ => Or.inr trivial) (fun _ b hb => rc.2.2.2.2.1 a hRa q q2 b hb) (fun h3 l3 s3 M3 R3 F3 X3 c4 => ?_)
            exact s4 h3 l3 s3 M3 R3 (F2.trans F3) (X2.trans X3) (fun j hj b hb => X3.1.mem (c1 j hj b hb)) (fun k b hb => X3.1.mem (c2 k b hb)) (fun _ _ b hb => c4 b hb)
          -- second: a queue's own
          have sq : kd S a = 3 → ∀ (m z : List Nat) (h2 : Hp) (l2 s2 : List Nat), z ++ m = qu S a → MJ g h2 A S → RS g h2 A S l2 s2 → SF A h' h2 → RX S sf l' s l2 s2 → (∀ j < nr S a, ∀ b, rf S a j = some b → b ∈ l2) → (∀ b ∈ z, b ∈ l2) → mch (aI h2 (A 47)) (m.map (num g)) → P77 (nI (num g a)) (enc g m.head?) h2 := by
            intro k3 m
            induction m with
            | nil =>
              intro z h2 l2 s2 hz M2 R2 F2 X2 c1 c2 _
              exact q77 _ _ _ ⟨fun _ => s3 h2 l2 s2 M2 R2 F2 X2 c1 (fun _ b hb => c2 b (by rw [← hz] at hb; simpa using hb)), fun z => absurd rfl z⟩
            | cons b m ih2 =>
              intro z h2 l2 s2 hz M2 R2 F2 X2 c1 c2 hm
              have hbq : b ∈ qu S a := by rw [← hz]; simp
              have hb := ((wa.2.2.2.2.2.2.2.2 k3).2.1 b hbq).1
              refine q77 _ _ _ ⟨fun e => absurd e (M2.nz hb), fun _ => ⟨M2.1.1, ?_⟩⟩
              refine m_reach (sf := sf) (o := some b) M2 hW R2 (fun c hc => by cases hc; exact hb) (fun _ _ => Or.inr trivial) (fun _ c hc => by cases hc; exact rc.2.2.1 a hRa k3 b hbq) (fun h3 l3 s3 M3 R3 F3 X3 c4 => ?_)
              refine ⟨M3.1.1, A 47, M3.1.r k47, M3.1.t k47 rfl, M3.ix hb k47 (by decide), ?_⟩
              have e47 : aI h3 (A 47) = aI h2 (A 47) := F3.2.2.2.2.2.2 _ (M2.1.ne k47 k53 (by decide)) (M2.1.ne k47 k54 (by decide))
              show P77 (nI (num g a)) (aI h3 (A 47) (nI (num g b)).toNatClampNeg) h3
              rw [M3.clamp hb, e47, hm.1]
              have he : nI ((m.map (num g)).headD 0) = enc g m.head? := by cases m <;> rfl
              rw [he]
              refine ih2 (z ++ [b]) h3 l3 s3 (by simp [← hz]) M3 R3 (F2.trans F3) (X2.trans X3) (fun j hj c hc => X3.1.mem (c1 j hj c hc)) (fun c hc => ?_) (by rw [e47]; exact hm.2)
              rcases List.mem_append.mp hc with y | y
              · exact X3.1.mem (c2 c y)
              · rw [List.mem_singleton.mp y]; exact c4 b rfl
          -- first: refs
          have s1 : ∀ (dd j : Nat) (h2 : Hp) (l2 s2 : List Nat), dd + j = nr S a → MJ g h2 A S → RS g h2 A S l2 s2 → SF A h' h2 → RX S sf l' s l2 s2 → (∀ i < j, ∀ b, rf S a i = some b → b ∈ l2) → P26 (nI (num g a)) (nI j) h2 := by
            intro dd
            induction dd with
            | zero =>
              intro j h2 l2 s2 hd2 M2 R2 F2 X2 c1
              have h3000 := wa.2.2.2.2.1
              refine q26 _ _ _ ⟨M2.1.1, A 44, M2.1.r k44, M2.1.t k44 rfl, M2.ix ha k44 (by decide), ?_⟩
              rw [M2.clamp ha, (M2.2.2.2.2 a ha).1.2.2.1]
              refine ⟨fun _ => ⟨A 42, M2.1.r k42, M2.1.t k42 rfl, M2.ix ha k42 (by decide), ?_⟩, fun q => absurd ((nI_le' (by omega) (by omega)).mpr (by omega)) q⟩
              rw [(M2.2.2.2.2 a ha).1.1]
              have c1' : ∀ j < nr S a, ∀ b, rf S a j = some b → b ∈ l2 := fun i hi => c1 i (by omega)
              refine ⟨fun q => s3 h2 l2 s2 M2 R2 F2 X2 c1' (fun k => absurd k q), fun q => ⟨A 48, M2.1.r k48, M2.1.t k48 rfl, M2.ix ha k48 (by decide), ?_⟩⟩
              have mq := (M2.2.2.2.2 a ha).2.2.1 q
              rw [mq.1]
              exact sq q (qu S a) [] h2 l2 s2 (by simp) M2 R2 F2 X2 c1' (fun b hb => by cases hb) mq.2.2.2
            | succ dd ih2 =>
              intro j h2 l2 s2 hd2 M2 R2 F2 X2 c1
              have h3000 := wa.2.2.2.2.1
              refine q26 _ _ _ ⟨M2.1.1, A 44, M2.1.r k44, M2.1.t k44 rfl, M2.ix ha k44 (by decide), ?_⟩
              rw [M2.clamp ha, (M2.2.2.2.2 a ha).1.2.2.1]
              refine ⟨fun q => ?_, fun _ => ⟨A 43, M2.1.r k43, M2.1.t k43 rfl, M2.ix ha k43 (by decide), A 56, M2.1.r k56, M2.1.t k56 rfl, ?_⟩⟩
              · have := (nI_le' (by omega) (by omega)).mp q; omega
              · rw [(M2.2.2.2.2 a ha).1.2.1]
                obtain ⟨e1, e2, e3⟩ := M2.atv ha (j := j) (by omega)
                rw [e1, e3, (M2.2.2.2.2 a ha).2.2.2.1 j (by omega), l2i, nI_1]
                refine ⟨e2, m_reach (sf := sf) M2 hW R2 (fun b hb => wa.2.2.2.2.2.2.1 j (by omega) b hb) (fun _ _ => Or.inr trivial) (fun _ b hb => rc.2.1 a hRa j (by omega) b hb) (fun h3 l3 s3 M3 R3 F3 X3 c4 => ?_)⟩
                refine ih2 (j + 1) h3 l3 s3 (by omega) M3 R3 (F2.trans F3) (X2.trans X3) (fun i hi b hb => ?_)
                rcases Nat.lt_or_ge i j with y | y
                · exact X3.1.mem (c1 i y b hb)
                · have : i = j := by omega
                  subst this; exact c4 b hb
          exact s1 (nr S a) 0 _ l' s (by omega) M1 R1 sfp RX.refl (fun i hi => by omega)
  exact main _ h l st (Nat.le_refl _) hM hR SF.rfl' pre.refl (Nat.le_refl _) hi hrl
end MREACH
