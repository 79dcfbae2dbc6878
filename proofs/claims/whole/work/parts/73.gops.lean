/-! The calls, one by one. -/
section GOPS
variable {A : Nat → Nat} {b K : Nat} {h : Hp} {S : St} {g : Gh} {P : Hp → Prop} {R0 : Hp → Prop}
theorem MQ_.imp {h0 : Hp} {S' : St} {c v : Int32} {F F' : Int32 → Hp → Prop} (q : MQ_ g h0 A S' c v (qi F qn)) (f : ∀ w h, F w h → F' w h) : MQ_ g h0 A S' c v (qi F' qn) := fun h' M' F' z' => f _ _ (q h' M' F' z')
theorem ieq (hW : WF S) {i j : Nat} {x : Int32} (hi : i < nt S) (hj : j < nt S) (e : x = nI i) (e' : x = nI j) : i = j := nI_inj (by have := hW.nt; omega) (by have := hW.nt; omega) (e.symm.trans e')
theorem keq {k k' : Nat} {x : Int32} (h1 : k < 2 ^ 31) (h2 : k' < 2 ^ 31) (e : x = nI k) (e' : x = nI k') : k = k' := nI_inj h1 h2 (e.symm.trans e')
theorem kpos {k : Nat} {x : Int32} (hk : k < 2 ^ 31) (e : x = nI k) : ¬ x < 0 := by rw [e]; exact nI_pos hk
theorem krng {k n : Nat} {x : Int32} (hk : k ≤ n) (hn : n < 2 ^ 31) (e : x = nI k) : 0 ≤ x ∧ x ≤ nI n := by rw [e]; exact ⟨nI_pos' (by omega), (nI_le' (by omega) hn).mpr hk⟩
theorem g_count {x1 : Int32} {R : Int32 → Hp → Prop} (I : LI A b K h S g) (hP : Go A b K P) (hR : ∀ v H, tg H (A 40) = 7 → vc_X7_count (A 40) x1 H (qi (fun v30 h29 => Fin_ A v v30.toInt64 P R0 h29) qn) → R v H) : vc_L_count (some (A 0)) x1 (some (A 41)) h (qi R qn) := by
  have e9 : (9 : Int32) = nI 9 := rfl
  refine ⟨A 0, rfl, I.1.1.1.1, c_count I.1 (fun q => ⟨rfl, hR 1 h I.2.1.1.1 (m_count I.2.1 I.2.2.1 (fun _ => I.ex hP (by decide)) (fun k hk e => absurd (by rw [e9]; exact krng (by omega) (by decide) e) q))⟩) (fun k hk e => ⟨A 41, rfl, I.2.2.2.1, vp0 I.2.2.2.2.1, hR 0 _ (I.mid FC.rfl').1.1 (m_count (I.mid FC.rfl') I.2.2.1 (fun q => absurd (by rw [e9]; exact krng (by omega) (by decide) e) q) (fun k' hk' e' => ?_))⟩)⟩
  cases keq (by omega) (by omega) e e'
  exact I.good hP FC.rfl' I.1 (by omega) I.2.2.1
theorem g_every {x1 : Int32} {R : Int32 → Hp → Prop} (I : LI A b K h S g) (hP : Go A b K P) (hR : ∀ v H, tg H (A 40) = 7 → vc_X7_every (A 40) x1 H (qi (fun v30 h29 => Fin_ A v v30.toInt64 P R0 h29) qn) → R v H) : vc_L_every (some (A 0)) x1 (some (A 41)) h (qi R qn) := by
  refine ⟨A 0, rfl, I.1.1.1.1, c_every I.1 (fun q => ⟨rfl, hR 1 h I.2.1.1.1 (m_every I.2.1 (fun _ => I.ex hP (by decide)) (fun q' => absurd q q'))⟩) (fun q h' C' F' => ⟨A 41, rfl, (I.o9 F').1, vp0 (I.o9 F').2, hR 0 _ (I.mid F').1.1 (m_every (I.mid F') (fun q' => absurd q' q) (fun _ => I.good hP F' C' (by omega) I.2.2.1))⟩)⟩
theorem g_kind {x1 : Int32} {R : Int32 → Hp → Prop} (I : LI A b K h S g) (hP : Go A b K P) (hR : ∀ v H, tg H (A 40) = 7 → vc_X7_kind (A 40) x1 H (qi (fun v30 h29 => Fin_ A v v30.toInt64 P R0 h29) qn) → R v H) : vc_L_kind (some (A 0)) x1 (some (A 41)) h (qi R qn) := by
  refine ⟨A 0, rfl, I.1.1.1.1, c_kind I.1 I.2.2.1 (fun q => ⟨rfl, hR 1 h I.2.1.1.1 (m_kind I.2.1 I.2.2.1 (fun _ => I.ex hP (by decide)) (fun i hi e => absurd ⟨i, hi, e⟩ q))⟩) (fun i hi e => ⟨A 41, rfl, I.2.2.2.1, vp0 I.2.2.2.2.1, hR 0 _ (I.mid FC.rfl').1.1 (m_kind (I.mid FC.rfl') I.2.2.1 (fun q => absurd ⟨i, hi, e⟩ q) (fun i' hi' e' => ?_))⟩)⟩
  cases ieq I.2.2.1 hi hi' e e'
  exact I.good hP FC.rfl' I.1 (by omega) I.2.2.1
theorem g_waiting {x1 : Int32} {R : Int32 → Hp → Prop} (I : LI A b K h S g) (hP : Go A b K P) (hR : ∀ v H, tg H (A 40) = 7 → vc_X7_waiting (A 40) x1 H (qi (fun v30 h29 => Fin_ A v v30.toInt64 P R0 h29) qn) → R v H) : vc_L_waiting (some (A 0)) x1 (some (A 41)) h (qi R qn) := by
  refine ⟨A 0, rfl, I.1.1.1.1, c_waiting I.1 I.2.2.1 (fun q => Or.inl ⟨rfl, hR 1 h I.2.1.1.1 (m_waiting I.2.1 I.2.2.1 (fun _ => I.ex hP (by decide)) (fun i hi e _ => absurd ⟨i, hi, e⟩ q) (fun i a hi e _ _ => absurd ⟨i, hi, e⟩ q))⟩) (fun i hi e q => Or.inr ⟨rfl, hR 2 h I.2.1.1.1 (m_waiting I.2.1 I.2.2.1 (fun q' => absurd ⟨i, hi, e⟩ q') (fun _ _ _ _ => I.ex hP (by decide)) (fun i' a hi' e' r k => ?_))⟩) (fun i a hi e r k => ⟨A 41, rfl, I.2.2.2.1, vp0 I.2.2.2.2.1, hR 0 _ (I.mid FC.rfl').1.1 (m_waiting (I.mid FC.rfl') I.2.2.1 (fun q => absurd ⟨i, hi, e⟩ q) (fun i' hi' e' q => ?_) (fun i' a' hi' e' r' k' => ?_))⟩)⟩
  · cases ieq I.2.2.1 hi hi' e e'; exact absurd k (q a r)
  · cases ieq I.2.2.1 hi hi' e e'; exact absurd k (q a r)
  · cases ieq I.2.2.1 hi hi' e e'; rw [r] at r'; cases r'
    exact I.good hP FC.rfl' I.1 (by omega) I.2.2.1
theorem g_get {x1 : Int32} {x2 : Int32} {R : Int32 → Hp → Prop} (I : LI A b K h S g) (hP : Go A b K P) (hR : ∀ v H, tg H (A 40) = 7 → vc_X7_get (A 40) x1 x2 H (ql (fun v30 h29 => Fin_ A v v30 P R0 h29) qn) → R v H) : vc_L_get (some (A 0)) x1 x2 (some (A 41)) h (qi R qn) := by
  refine ⟨A 0, rfl, I.1.1.1.1, c_get I.1 I.2.2.1 (fun q => Or.inl ⟨rfl, hR 1 h I.2.1.1.1 (m_get I.2.1 I.2.2.1 (fun _ => I.exL hP (by decide)) (fun i k hi e hk ek _ => (q.elim (fun q => q ⟨i, hi, e⟩) (fun q => kpos hk ek q)).elim) (fun i k a hi e hk ek _ => (q.elim (fun q => q ⟨i, hi, e⟩) (fun q => kpos hk ek q)).elim))⟩) (fun i k hi e hk ek q => Or.inr ⟨rfl, hR 2 h I.2.1.1.1 (m_get I.2.1 I.2.2.1 (fun q => (q.elim (fun q => q ⟨i, hi, e⟩) (fun q => kpos hk ek q)).elim) (fun _ _ _ _ _ _ _ => I.exL hP (by decide)) (fun i' k' a hi' e' hk' ek' n => ?_))⟩) (fun i k a hi e hk ek n => ⟨A 41, rfl, I.2.2.2.1, vp0 I.2.2.2.2.1, hR 0 _ (I.mid FC.rfl').1.1 (m_get (I.mid FC.rfl') I.2.2.1 (fun q => (q.elim (fun q => q ⟨i, hi, e⟩) (fun q => kpos hk ek q)).elim) (fun i' k' hi' e' hk' ek' q => ?_) (fun i' k' a' hi' e' hk' ek' n' => ?_))⟩)⟩
  · cases ieq I.2.2.1 hi hi' e e'; cases keq hk hk' ek ek'; exact absurd n (q a)
  · cases ieq I.2.2.1 hi hi' e e'; cases keq hk hk' ek ek'; exact absurd n (q a)
  · cases ieq I.2.2.1 hi hi' e e'; cases keq hk hk' ek ek'
    have ea := n.1.symm.trans n'.1; cases ea
    exact I.goodL hP FC.rfl' I.1 (by omega) I.2.2.1
theorem g_copy {x1 : Int32} {x2 : Int32} {R : Int32 → Hp → Prop} (I : LI A b K h S g) (hP : Go A b K P) (hR : ∀ v H, tg H (A 40) = 7 → vc_X7_copy (A 40) x1 x2 H (qi (fun v30 h29 => Fin_ A v v30.toInt64 P R0 h29) qn) → R v H) : vc_L_copy (some (A 0)) x1 x2 (some (A 41)) h (qi R qn) := by
  refine ⟨A 0, rfl, I.1.1.1.1, c_copy I.1 I.2.2.1 (fun q => ⟨rfl, hR 1 h I.2.1.1.1 (m_copy I.2.1 I.2.2.1 (fun _ => I.ex hP (by decide)) (fun i hi e hx => (q.elim (fun q => q ⟨i, hi, e⟩) (fun q => q hx)).elim))⟩) (fun i hi e hx h' C' F' => ⟨A 41, rfl, (I.o9 F').1, vp0 (I.o9 F').2, hR 0 _ (I.mid F').1.1 (m_copy (I.mid F') I.2.2.1 (fun q => (q.elim (fun q => q ⟨i, hi, e⟩) (fun q => q hx)).elim) (fun i' hi' e' _ => ?_))⟩)⟩
  cases ieq I.2.2.1 hi hi' e e'
  exact I.good hP F' C' (by omega) (I.2.2.1.setRoot (fun c hc => rtN_ob I.2.2.1 hx hc))
theorem g_link {x1 : Int32} {x2 : Int32} {x3 : Int32} {R : Int32 → Hp → Prop} (I : LI A b K h S g) (hP : Go A b K P) (hR : ∀ v H, tg H (A 40) = 7 → vc_X7_link (A 40) x1 x2 x3 H (qi (fun v30 h29 => Fin_ A v v30.toInt64 P R0 h29) qn) → R v H) : vc_L_link (some (A 0)) x1 x2 x3 (some (A 41)) h (qi R qn) := by
  have nb : ∀ i k, i < nt S → x1 = nI i → k < 2 ^ 31 → x2 = nI k → inN S x3 → ¬ (¬ inR S x1 ∨ x2 < 0 ∨ ¬ inN S x3) := fun i k hi e hk ek hx q => q.elim (fun q => q ⟨i, hi, e⟩) (fun q => q.elim (fun q => kpos hk ek q) (fun q => q hx))
  refine ⟨A 0, rfl, I.1.1.1.1, c_link I.1 I.2.2.1 (fun q => Or.inl ⟨rfl, hR 1 h I.2.1.1.1 (m_link I.2.1 I.2.2.1 (fun _ => I.ex hP (by decide)) (fun i k hi e hk ek hx _ => absurd q (nb i k hi e hk ek hx)) (fun i k a hi e hk ek hx _ => absurd q (nb i k hi e hk ek hx)))⟩) (fun i k hi e hk ek hx q => Or.inr ⟨rfl, hR 2 h I.2.1.1.1 (m_link I.2.1 I.2.2.1 (fun q => absurd q (nb i k hi e hk ek hx)) (fun _ _ _ _ _ _ _ _ => I.ex hP (by decide)) (fun i' k' a hi' e' hk' ek' hx' n => ?_))⟩) (fun i k a hi e hk ek hx n h' C' F' => ⟨A 41, rfl, (I.o9 F').1, vp0 (I.o9 F').2, hR 0 _ (I.mid F').1.1 (m_link (I.mid F') I.2.2.1 (fun q => absurd q (nb i k hi e hk ek hx)) (fun i' k' hi' e' hk' ek' _ q => ?_) (fun i' k' a' hi' e' hk' ek' _ n' => ?_))⟩)⟩
  · cases ieq I.2.2.1 hi hi' e e'; cases keq hk hk' ek ek'; exact absurd n (q a)
  · cases ieq I.2.2.1 hi hi' e e'; cases keq hk hk' ek ek'; exact absurd n (q a)
  · cases ieq I.2.2.1 hi hi' e e'; cases keq hk hk' ek ek'
    have ea := n.1.symm.trans n'.1; cases ea
    exact I.good hP F' C' (by omega) (WFlink I.2.2.1 (fun c hc => rtN_ob I.2.2.1 hx hc))
theorem g_fetch {x1 : Int32} {x2 : Int32} {x3 : Int32} {R : Int32 → Hp → Prop} (I : LI A b K h S g) (hP : Go A b K P) (hR : ∀ v H, tg H (A 40) = 7 → vc_X7_fetch (A 40) x1 x2 x3 H (qi (fun v30 h29 => Fin_ A v v30.toInt64 P R0 h29) qn) → R v H) : vc_L_fetch (some (A 0)) x1 x2 x3 (some (A 41)) h (qi R qn) := by
  have nb : ∀ i j k, i < nt S → x1 = nI i → j < nt S → x2 = nI j → k < 2 ^ 31 → x3 = nI k → ¬ (¬ inR S x1 ∨ ¬ inR S x2 ∨ x3 < 0) := fun i j k hi e hj ej hk ek q => q.elim (fun q => q ⟨i, hi, e⟩) (fun q => q.elim (fun q => q ⟨j, hj, ej⟩) (fun q => kpos hk ek q))
  refine ⟨A 0, rfl, I.1.1.1.1, c_fetch I.1 I.2.2.1 (fun q => Or.inl ⟨rfl, hR 1 h I.2.1.1.1 (m_fetch I.2.1 I.2.2.1 (fun _ => I.ex hP (by decide)) (fun i j k hi e hj ej hk ek _ => absurd q (nb i j k hi e hj ej hk ek)) (fun i j k a hi e hj ej hk ek _ => absurd q (nb i j k hi e hj ej hk ek)))⟩) (fun i j k hi e hj ej hk ek q => Or.inr ⟨rfl, hR 2 h I.2.1.1.1 (m_fetch I.2.1 I.2.2.1 (fun q => absurd q (nb i j k hi e hj ej hk ek)) (fun _ _ _ _ _ _ _ _ _ _ => I.ex hP (by decide)) (fun i' j' k' a hi' e' hj' ej' hk' ek' n => ?_))⟩) (fun i j k a hi e hj ej hk ek n h' C' F' => ⟨A 41, rfl, (I.o9 F').1, vp0 (I.o9 F').2, hR 0 _ (I.mid F').1.1 (m_fetch (I.mid F') I.2.2.1 (fun q => absurd q (nb i j k hi e hj ej hk ek)) (fun i' j' k' hi' e' hj' ej' hk' ek' q => ?_) (fun i' j' k' a' hi' e' hj' ej' hk' ek' n' => ?_))⟩)⟩
  · cases ieq I.2.2.1 hj hj' ej ej'; cases keq hk hk' ek ek'; exact absurd n (q a)
  · cases ieq I.2.2.1 hj hj' ej ej'; cases keq hk hk' ek ek'; exact absurd n (q a)
  · cases ieq I.2.2.1 hi hi' e e'; cases ieq I.2.2.1 hj hj' ej ej'; cases keq hk hk' ek ek'
    have ea := n.1.symm.trans n'.1; cases ea
    exact I.good hP F' C' (by omega) (I.2.2.1.setRoot (fun c hc => (I.2.2.1.2.1 a (I.2.2.1.2.2.2.2.2.2.2.2.2.2 j hj a n.1)).2.2.2.2.2.2.1 k n.2.2 c hc))
theorem g_set {x1 : Int32} {x2 : Int32} {z : Int64} {R : Int32 → Hp → Prop} (I : LI A b K h S g) (hP : Go A b K P) (hR : ∀ v H, tg H (A 40) = 7 → vc_X7_set (A 40) x1 x2 z H (ql (fun v30 h29 => Fin_ A v v30 P R0 h29) qn) → R v H) : vc_L_set (some (A 0)) x1 x2 z (some (A 41)) h (qi R qn) := by
  have nb : ∀ i k, i < nt S → x1 = nI i → k < 2 ^ 31 → x2 = nI k → ¬ (¬ inR S x1 ∨ x2 < 0) := fun i k hi e hk ek q => q.elim (fun q => q ⟨i, hi, e⟩) (fun q => kpos hk ek q)
  refine ⟨A 0, rfl, I.1.1.1.1, c_set I.1 I.2.2.1 (fun q => Or.inl ⟨rfl, hR 1 h I.2.1.1.1 (m_set I.2.1 I.2.2.1 (fun _ => I.exL hP (by decide)) (fun i k hi e hk ek _ => absurd q (nb i k hi e hk ek)) (fun i k a hi e hk ek _ => absurd q (nb i k hi e hk ek)))⟩) (fun i k hi e hk ek q => Or.inr ⟨rfl, hR 2 h I.2.1.1.1 (m_set I.2.1 I.2.2.1 (fun q => absurd q (nb i k hi e hk ek)) (fun _ _ _ _ _ _ _ => I.exL hP (by decide)) (fun i' k' a hi' e' hk' ek' n => ?_))⟩) (fun i k a hi e hk ek n h' C' F' => ⟨A 41, rfl, (I.o9 F').1, vp0 (I.o9 F').2, hR 0 _ (I.mid F').1.1 (m_set (I.mid F') I.2.2.1 (fun q => absurd q (nb i k hi e hk ek)) (fun i' k' hi' e' hk' ek' q => ?_) (fun i' k' a' hi' e' hk' ek' n' => ?_))⟩)⟩
  · cases ieq I.2.2.1 hi hi' e e'; cases keq hk hk' ek ek'; exact absurd n (q a)
  · cases ieq I.2.2.1 hi hi' e e'; cases keq hk hk' ek ek'; exact absurd n (q a)
  · cases ieq I.2.2.1 hi hi' e e'; cases keq hk hk' ek ek'
    have ea := n.1.symm.trans n'.1; cases ea
    exact I.goodL hP F' C' (by omega) (WFset I.2.2.1)
theorem g_referent {x1 : Int32} {x2 : Int32} {x3 : Int32} {R : Int32 → Hp → Prop} {F : Int32 → Int32 → Hp → Prop} (I : LI A b K h S g) (hP : Go A b K P) (hF : ∀ v w h, Fin_ A v w.toInt64 P R0 h → F v w h) (hR : ∀ v H, tg H (A 40) = 7 → vc_X7_referent (A 40) x1 x2 x3 H (qi (F v) qn) → R v H) : vc_L_referent (some (A 0)) x1 x2 x3 (some (A 41)) h (qi R qn) := by
  have nb : ∀ i j, i < nt S → x1 = nI i → j < nt S → x2 = nI j → ¬ (¬ inR S x1 ∨ ¬ inR S x2) := fun i j hi e hj ej q => q.elim (fun q => q ⟨i, hi, e⟩) (fun q => q ⟨j, hj, ej⟩)
  refine ⟨A 0, rfl, I.1.1.1.1, c_referent I.1 I.2.2.1 (fun q => Or.inl ⟨rfl, hR 1 h I.2.1.1.1 (m_referent I.2.1 I.2.2.1 (fun _ => (I.ex (c := 1) (R0 := R0) hP (by decide)).imp (hF 1)) (fun i j hi e hj ej _ => absurd q (nb i j hi e hj ej)) (fun i j a hi e hj ej _ _ _ _ _ => absurd q (nb i j hi e hj ej)))⟩) (fun i j hi e hj ej q => Or.inr ⟨rfl, hR 2 h I.2.1.1.1 (m_referent I.2.1 I.2.2.1 (fun q => absurd q (nb i j hi e hj ej)) (fun _ _ _ _ _ _ _ => (I.ex (c := 2) (R0 := R0) hP (by decide)).imp (hF 2)) (fun i' j' a hi' e' hj' ej' r n _ _ _ => ?_))⟩) (fun i j a hi e hj ej r n o eo ho h' C' F' => ⟨A 41, rfl, (I.o9 F').1, vp0 (I.o9 F').2, hR 0 _ (I.mid F').1.1 (m_referent (I.mid F') I.2.2.1 (fun q => absurd q (nb i j hi e hj ej)) (fun i' j' hi' e' hj' ej' q => ?_) (fun i' j' a' hi' e' hj' ej' r' n' o' eo' ho' => ?_))⟩)⟩
  · cases ieq I.2.2.1 hj hj' ej ej'; exact absurd n (q a r)
  · cases ieq I.2.2.1 hj hj' ej ej'; exact absurd n (q a r)
  · cases ieq I.2.2.1 hi hi' e e'; cases ieq I.2.2.1 hj hj' ej ej'
    rw [r] at r'; cases r'
    rw [← eo] at eo'; subst eo'
    exact (I.good hP F' C' (by omega) (I.2.2.1.setRoot ho) : MQ_ _ _ _ _ _ _ (qi (fun v h29 => Fin_ A 0 v.toInt64 P R0 h29) qn)).imp (hF 0)
theorem g_give {x1 : Int32} {x2 : Int32} {R : Int32 → Hp → Prop} (I : LI A b K h S g) (hP : Go A b K P) (hR : ∀ v H, tg H (A 40) = 7 → vc_X7_give (A 40) x1 x2 H (qi (fun v30 h29 => Fin_ A v v30.toInt64 P R0 h29) qn) → R v H) : vc_L_give (some (A 0)) x1 x2 (some (A 41)) h (qi R qn) := by
  have nb : ∀ i, i < nt S → x1 = nI i → inN S x2 → ¬ (¬ inR S x1 ∨ ¬ inN S x2) := fun i hi e hx q => q.elim (fun q => q ⟨i, hi, e⟩) (fun q => q hx)
  refine ⟨A 0, rfl, I.1.1.1.1, c_give I.1 I.2.2.1 (fun q => Or.inl ⟨rfl, hR 1 h I.2.1.1.1 (m_give I.2.1 I.2.2.1 (fun _ => I.ex hP (by decide)) (fun i hi e hx _ => absurd q (nb i hi e hx)) (fun i a hi e hx _ _ _ => absurd q (nb i hi e hx)) (fun i a hi e hx _ _ _ => absurd q (nb i hi e hx)))⟩) (fun i hi e hx q => Or.inr ⟨rfl, hR 2 h I.2.1.1.1 (m_give I.2.1 I.2.2.1 (fun q => absurd q (nb i hi e hx)) (fun _ _ _ _ _ => I.ex hP (by decide)) (fun i' a hi' e' _ r k _ => ?_) (fun i' a hi' e' _ r k _ => ?_))⟩) (fun i a hi e hx r k n => ⟨A 41, rfl, I.2.2.2.1, vp0 I.2.2.2.2.1, hR 0 _ (I.mid FC.rfl').1.1 (m_give (I.mid FC.rfl') I.2.2.1 (fun q => absurd q (nb i hi e hx)) (fun i' hi' e' _ q => ?_) (fun i' a' hi' e' _ r' k' n' => ?_) (fun i' a' hi' e' _ r' k' n' => ?_))⟩) (fun i a hi e hx r k n h' C' F' => ⟨A 41, rfl, (I.o9 F').1, vp0 (I.o9 F').2, hR 0 _ (I.mid F').1.1 (m_give (I.mid F') I.2.2.1 (fun q => absurd q (nb i hi e hx)) (fun i' hi' e' _ q => ?_) (fun i' a' hi' e' _ r' k' n' => ?_) (fun i' a' hi' e' _ r' k' n' => ?_))⟩)⟩
  · cases ieq I.2.2.1 hi hi' e e'; exact absurd k (q a r)
  · cases ieq I.2.2.1 hi hi' e e'; exact absurd k (q a r)
  · cases ieq I.2.2.1 hi hi' e e'; exact absurd k (q a r)
  · exact I.good hP FC.rfl' I.1 (by omega) I.2.2.1
  · cases ieq I.2.2.1 hi hi' e e'; rw [r] at r'; cases r'; exact absurd n n'
  · cases ieq I.2.2.1 hi hi' e e'; exact absurd k (q a r)
  · cases ieq I.2.2.1 hi hi' e e'; rw [r] at r'; cases r'; exact absurd n' n
  · cases ieq I.2.2.1 hi hi' e e'; rw [r] at r'; cases r'
    exact I.good hP F' C' (by omega) (WFgive I.2.2.1 k n (fun c hc => rtN_ob I.2.2.1 hx hc))
theorem g_clear {x1 : Int32} {x2 : Int32} {R : Int32 → Hp → Prop} {F : Int32 → Int32 → Hp → Prop} (I : LI A b K h S g) (hP : Go A b K P) (hF : ∀ v w h, Fin_ A v w.toInt64 P R0 h → F v w h) (hR : ∀ v H, tg H (A 40) = 7 → vc_X7_clear (A 40) x1 x2 H (qi (F v) qn) → R v H) : vc_L_clear (some (A 0)) x1 x2 (some (A 41)) h (qi R qn) := by
  refine ⟨A 0, rfl, I.1.1.1.1, c_clear I.1 I.2.2.1 (fun q => Or.inl ⟨rfl, hR 1 h I.2.1.1.1 (m_clear I.2.1 I.2.2.1 (fun _ => (I.ex (c := 1) (R0 := R0) hP (by decide)).imp (hF 1)) (fun i hi e _ => absurd ⟨i, hi, e⟩ q) (fun i a hi e _ _ _ => absurd ⟨i, hi, e⟩ q) (fun i a hi e _ _ _ => absurd ⟨i, hi, e⟩ q))⟩) (fun i hi e q => Or.inr ⟨rfl, hR 2 h I.2.1.1.1 (m_clear I.2.1 I.2.2.1 (fun q => absurd ⟨i, hi, e⟩ q) (fun _ _ _ _ => (I.ex (c := 2) (R0 := R0) hP (by decide)).imp (hF 2)) (fun i' a hi' e' r k _ => ?_) (fun i' a hi' e' r k _ => ?_))⟩) (fun i a hi e r k n h' C' F' => ⟨A 41, rfl, (I.o9 F').1, vp0 (I.o9 F').2, hR 0 _ (I.mid F').1.1 (m_clear (I.mid F') I.2.2.1 (fun q => absurd ⟨i, hi, e⟩ q) (fun i' hi' e' q => ?_) (fun i' a' hi' e' r' k' n' => ?_) (fun i' a' hi' e' r' k' n' => absurd n n'))⟩) (fun i a hi e r k n h' C' F' => ⟨A 41, rfl, (I.o9 F').1, vp0 (I.o9 F').2, hR 0 _ (I.mid F').1.1 (m_clear (I.mid F') I.2.2.1 (fun q => absurd ⟨i, hi, e⟩ q) (fun i' hi' e' q => ?_) (fun i' a' hi' e' r' k' n' => absurd n' n) (fun i' a' hi' e' r' k' n' => ?_))⟩)⟩
  · cases ieq I.2.2.1 hi hi' e e'; exact absurd k (q a r)
  · cases ieq I.2.2.1 hi hi' e e'; exact absurd k (q a r)
  · cases ieq I.2.2.1 hi hi' e e'; exact absurd k (q a r)
  · cases ieq I.2.2.1 hi hi' e e'; rw [r] at r'; cases r'
    exact (I.good hP F' C' (by omega) (WFfrg I.2.2.1 a) : MQ_ _ _ _ _ _ _ (qi (fun v h29 => Fin_ A 0 v.toInt64 P R0 h29) qn)).imp (hF 0)
  · cases ieq I.2.2.1 hi hi' e e'; exact absurd k (q a r)
  · cases ieq I.2.2.1 hi hi' e e'; rw [r] at r'; cases r'
    have ha : a ∈ ob S := I.2.2.1.2.2.2.2.2.2.2.2.2.2 i hi a r
    have W2 : WF (tell (frg S a) a) := WFtell (WFfrg I.2.2.1 a) ha k
    have eo : ob (tell (frg S a) a) = ob S := by
      unfold tell
      split
      · rfl
      · split <;> rfl
    exact (I.good hP F' (by rw [eo]; exact C') (by omega) W2 : MQ_ _ _ _ _ _ _ (qi (fun v h29 => Fin_ A 0 v.toInt64 P R0 h29) qn)).imp (hF 0)
theorem g_poll {x1 : Int32} {x2 : Int32} {R : Int32 → Hp → Prop} (I : LI A b K h S g) (hP : Go A b K P) (hR : ∀ v H, tg H (A 40) = 7 → vc_X7_poll (A 40) x1 x2 H (qi (fun v30 h29 => Fin_ A v v30.toInt64 P R0 h29) qn) → R v H) : vc_L_poll (some (A 0)) x1 x2 (some (A 41)) h (qi R qn) := by
  have nb : ∀ i j, i < nt S → x1 = nI i → j < nt S → x2 = nI j → ¬ (¬ inR S x1 ∨ ¬ inR S x2) := fun i j hi e hj ej q => q.elim (fun q => q ⟨i, hi, e⟩) (fun q => q ⟨j, hj, ej⟩)
  have hob : ∀ j a, j < nt S → rt S j = some a → a ∈ ob S := fun j a hj r => I.2.2.1.2.2.2.2.2.2.2.2.2.2 j hj a r
  refine ⟨A 0, rfl, I.1.1.1.1, c_poll I.1 I.2.2.1 (fun q => Or.inl ⟨rfl, hR 1 h I.2.1.1.1 (m_poll I.2.1 I.2.2.1 (fun _ => I.ex hP (by decide)) (fun i j hi e hj ej _ => absurd q (nb i j hi e hj ej)) (fun i j _ hi e hj ej _ _ _ => absurd q (nb i j hi e hj ej)) (fun i j _ _ _ hi e hj ej _ _ _ => absurd q (nb i j hi e hj ej)))⟩) (fun i j hi e hj ej q => Or.inr ⟨rfl, hR 2 h I.2.1.1.1 (m_poll I.2.1 I.2.2.1 (fun q => absurd q (nb i j hi e hj ej)) (fun _ _ _ _ _ _ _ => I.ex hP (by decide)) (fun i' j' a hi' e' hj' ej' r k _ => ?_) (fun i' j' a _ _ hi' e' hj' ej' r k _ => ?_))⟩) (fun i j a hi e hj ej r k n h' C' F' => ⟨A 41, rfl, (I.o9 F').1, vp0 (I.o9 F').2, hR 0 _ (I.mid F').1.1 (m_poll (I.mid F') I.2.2.1 (fun q => absurd q (nb i j hi e hj ej)) (fun i' j' hi' e' hj' ej' q => ?_) (fun i' j' a' hi' e' hj' ej' r' k' n' => ?_) (fun i' j' a' y l hi' e' hj' ej' r' k' n' => ?_))⟩) (fun i j a x l hi e hj ej r k n h' C' F' => ⟨A 41, rfl, (I.o9 F').1, vp0 (I.o9 F').2, hR 0 _ (I.mid F').1.1 (m_poll (I.mid F') I.2.2.1 (fun q => absurd q (nb i j hi e hj ej)) (fun i' j' hi' e' hj' ej' q => ?_) (fun i' j' a' hi' e' hj' ej' r' k' n' => ?_) (fun i' j' a' y l' hi' e' hj' ej' r' k' n' => ?_))⟩)⟩
  · cases ieq I.2.2.1 hj hj' ej ej'; exact absurd k (q a r)
  · cases ieq I.2.2.1 hj hj' ej ej'; exact absurd k (q a r)
  · cases ieq I.2.2.1 hj hj' ej ej'; exact absurd k (q a r)
  · cases ieq I.2.2.1 hi hi' e e'
    exact I.good hP F' C' (by omega) (I.2.2.1.setRoot (fun c hc => by cases hc))
  · cases ieq I.2.2.1 hj hj' ej ej'; rw [r] at r'; cases r'; rw [n] at n'; cases n'
  · cases ieq I.2.2.1 hj hj' ej ej'; exact absurd k (q a r)
  · cases ieq I.2.2.1 hj hj' ej ej'; rw [r] at r'; cases r'; rw [n] at n'; cases n'
  · cases ieq I.2.2.1 hi hi' e e'; cases ieq I.2.2.1 hj hj' ej ej'; rw [r] at r'; cases r'; rw [n] at n'; cases n'
    have hao := hob j a hj r
    have hx : x ∈ ob S := (((I.2.2.1.2.1 a hao).2.2.2.2.2.2.2.2 k).2.1 x (by rw [n]; exact List.mem_cons_self)).1
    exact I.good hP F' C' (by omega) ((WFtake I.2.2.1 hao k n).setRoot (fun c hc => by cases hc; exact hx))
theorem g_hash {x1 : Int32} {R : Int32 → Hp → Prop} (I : LI A b K h S g) (hP : Go A b K P) (hR : ∀ v H, tg H (A 40) = 7 → vc_X7_hash (A 40) x1 H (qi (fun v30 h29 => Fin_ A v v30.toInt64 P R0 h29) qn) → R v H) : vc_L_hash (some (A 0)) x1 (some (A 41)) h (qi R qn) := by
  refine ⟨A 0, rfl, I.1.1.1.1, c_hash I.1 I.2.2.1 (fun q => ⟨rfl, hR 1 h I.2.1.1.1 (m_hash I.2.1 I.2.2.1 (fun _ => I.ex hP (by decide)) (fun i hi e _ => absurd ⟨i, hi, e⟩ q) (fun i a hi e _ _ => absurd ⟨i, hi, e⟩ q) (fun i a hi e _ _ => absurd ⟨i, hi, e⟩ q))⟩) (fun i hi e r => ⟨A 41, rfl, I.2.2.2.1, vp0 I.2.2.2.2.1, hR 0 _ (I.mid FC.rfl').1.1 (m_hash (I.mid FC.rfl') I.2.2.1 (fun q => absurd ⟨i, hi, e⟩ q) (fun i' hi' e' r' => ?_) (fun i' a' hi' e' r' n' => ?_) (fun i' a' hi' e' r' n' => ?_))⟩) (fun i a hi e r n => ⟨A 41, rfl, I.2.2.2.1, vp0 I.2.2.2.2.1, hR 0 _ (I.mid FC.rfl').1.1 (m_hash (I.mid FC.rfl') I.2.2.1 (fun q => absurd ⟨i, hi, e⟩ q) (fun i' hi' e' r' => ?_) (fun i' a' hi' e' r' n' => ?_) (fun i' a' hi' e' r' n' => ?_))⟩) (fun i a hi e r n h' C' F' => ⟨A 41, rfl, (I.o9 F').1, vp0 (I.o9 F').2, hR 0 _ (I.mid F').1.1 (m_hash (I.mid F') I.2.2.1 (fun q => absurd ⟨i, hi, e⟩ q) (fun i' hi' e' r' => ?_) (fun i' a' hi' e' r' n' => ?_) (fun i' a' hi' e' r' n' => ?_))⟩)⟩
  · exact I.good hP FC.rfl' I.1 (by omega) I.2.2.1
  · cases ieq I.2.2.1 hi hi' e e'; rw [r] at r'; cases r'
  · cases ieq I.2.2.1 hi hi' e e'; rw [r] at r'; cases r'
  · cases ieq I.2.2.1 hi hi' e e'; rw [r] at r'; cases r'
  · cases ieq I.2.2.1 hi hi' e e'; rw [r] at r'; cases r'
    exact I.good hP FC.rfl' I.1 (by omega) I.2.2.1
  · cases ieq I.2.2.1 hi hi' e e'; rw [r] at r'; cases r'; exact absurd n' n
  · cases ieq I.2.2.1 hi hi' e e'; rw [r] at r'; cases r'
  · cases ieq I.2.2.1 hi hi' e e'; rw [r] at r'; cases r'; exact absurd n n'
  · cases ieq I.2.2.1 hi hi' e e'; rw [r] at r'; cases r'
    exact I.good hP F' C' (by omega) (WFhash (I.2.2.1.setC _ (by decide) (by decide) (by decide)) a _)
theorem g_open {x1 : Int32} {R : Int32 → Hp → Prop} (I : LI A b K h S g) (hP : Go A b K P) (hR : ∀ v H, tg H (A 40) = 7 → vc_X7_open (A 40) x1 H (qi (fun v30 h29 => Fin_ A v v30.toInt64 P R0 h29) qn) → R v H) : vc_L_open (some (A 0)) x1 (some (A 41)) h (qi R qn) := by
  have e16 : (16 : Int32) = nI 16 := rfl
  have e1 : (1 : Int32) = nI 1 := rfl
  have nb : ∀ n, 1 ≤ n → n ≤ 16 → x1 = nI n → (1 : Int32) ≤ x1 ∧ x1 ≤ 16 := fun n h1 h2 e => by rw [e, e1, e16]; exact ⟨(nI_le' (by decide) (by omega)).mpr h1, (nI_le' (by omega) (by decide)).mpr h2⟩
  refine ⟨A 0, rfl, I.1.1.1.1, c_open I.1 I.2.2.1 (fun q => Or.inl ⟨rfl, hR 1 h I.2.1.1.1 (m_open I.2.1 I.2.2.1 (fun _ => I.ex hP (by decide)) (fun n a1 a2 e _ => absurd (nb n a1 a2 e) q) (fun n a1 a2 e _ => absurd (nb n a1 a2 e) q))⟩) (fun n a1 a2 e s => Or.inr ⟨rfl, hR 2 h I.2.1.1.1 (m_open I.2.1 I.2.2.1 (fun q => absurd (nb n a1 a2 e) q) (fun _ _ _ _ _ => I.ex hP (by decide)) (fun n' _ _ _ s' => by omega))⟩) (fun n a1 a2 e s h' C' F' => ⟨A 41, rfl, (I.o9 F').1, vp0 (I.o9 F').2, hR 0 _ (I.mid F').1.1 (m_open (I.mid F') I.2.2.1 (fun q => absurd (nb n a1 a2 e) q) (fun n' _ _ _ s' => by omega) (fun n' b1 b2 e' s' => ?_))⟩)⟩
  cases keq (by omega) (by omega) e e'
  exact I.good hP F' C' (by omega) (WFopen I.2.2.1 a1 a2 s)
theorem g_close  {R : Int32 → Hp → Prop} (I : LI A b K h S g) (hP : Go A b K P) (hR : ∀ v H, tg H (A 40) = 7 → vc_X7_close (A 40) H (qi (fun v30 h29 => Fin_ A v v30.toInt64 P R0 h29) qn) → R v H) : vc_L_close (some (A 0)) (some (A 41)) h (qi R qn) := by
  refine ⟨A 0, rfl, I.1.1.1.1, c_close I.1 I.2.2.1 (fun q => ⟨rfl, hR 1 h I.2.1.1.1 (m_close I.2.1 I.2.2.1 (fun _ => I.ex hP (by decide)) (fun s r e => by rw [q] at e; cases e))⟩) (fun s r e h' C' F' => ⟨A 41, rfl, (I.o9 F').1, vp0 (I.o9 F').2, hR 0 _ (I.mid F').1.1 (m_close (I.mid F') I.2.2.1 (fun q => by rw [q] at e; cases e) (fun s' r' e' => ?_))⟩)⟩
  rw [e] at e'; cases e'
  exact I.good hP F' C' (by omega) (WFclose I.2.2.1 e)
theorem g_digest {x1 : Int32} {R : Int32 → Hp → Prop} (I : LI A b K h S g) (hP : Go A b K P) (hb : b + 1 < 2 ^ 31) (hR : ∀ v H, tg H (A 40) = 7 → vc_X7_digest (A 40) x1 H (ql (fun v30 h29 => Fin_ A v v30 P R0 h29) qn) → R v H) : vc_L_digest (some (A 0)) x1 (some (A 41)) h (qi R qn) := by
  refine ⟨A 0, rfl, I.1.1.1.1, c_digest I.1 I.2.2.1 hb (fun q => ⟨rfl, hR 1 h I.2.1.1.1 (m_digest I.2.1 I.2.2.1 (fun _ => I.exL hP (by decide)) (fun i hi e => absurd ⟨i, hi, e⟩ q))⟩) (fun i hi e h' C' F' => ⟨A 41, rfl, (I.o9 F').1, vp0 (I.o9 F').2, hR 0 _ (I.mid F').1.1 (m_digest (I.mid F') I.2.2.1 (fun q => absurd ⟨i, hi, e⟩ q) (fun i' hi' e' => ?_))⟩)⟩
  cases ieq I.2.2.1 hi hi' e e'
  exact I.goodL hP F' C' (by omega) I.2.2.1
end GOPS
