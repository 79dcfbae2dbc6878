/-! The calls that make and collect; same. -/
section GNEW
variable {A : Nat → Nat} {b K : Nat} {h : Hp} {S : St} {g : Gh} {P : Hp → Prop} {R0 : Hp → Prop}
theorem LI.mkN {h' : Hp} {a i n1 n2 : Nat} {k : Int32} {o1 o2 o3 : Option Nat} {F : Int32 → Hp → Prop} (I : LI A b K h S g) (hP : Go A b K P) (hF : ∀ w h, Fin_ A 0 w.toInt64 P R0 h → F w h) (nf : ¬ fitS (roomB S (clN k (n1 + n2))) (clN k (n1 + n2))) (C' : CI (b + 2, ob (roomB S (clN k (n1 + n2)))) h' A (wC (roomB S (clN k (n1 + n2))) 9 (cn (roomB S (clN k (n1 + n2))) 9 + 1))) (F' : FC A h h') : MkR g (qL h' (A 41) 0 (0 : Int32).toInt64) A S a i k n1 n2 o1 o2 o3 (qi F qn) :=
  ⟨fun _ g' h3 M3 hk F3 z3 => hF _ _ (I.end_ hP F' C' (by omega) ((roomB_wf I.2.2.1 _).setC _ (by decide) (by decide) (by decide)) M3 hk F3 z3), fun ft => absurd ft nf⟩
theorem LI.mkY {h' : Hp} {a i n1 n2 : Nat} {k : Int32} {o1 o2 o3 : Option Nat} {F : Int32 → Hp → Prop} (I : LI A b K h S g) (hP : Go A b K P) (hF : ∀ w h, Fin_ A 0 w.toInt64 P R0 h → F w h) (ft : fitS (roomB S (clN k (n1 + n2))) (clN k (n1 + n2))) (ha : a ∉ ob (roomB S (clN k (n1 + n2)))) (hN : NSh (roomB S (clN k (n1 + n2))) k n1 n2 o1 o2 o3) (C' : CI (b + 2, ob (mkS (roomB S (clN k (n1 + n2))) a i k n1 n2 o1 o2 o3)) h' A (mkS (roomB S (clN k (n1 + n2))) a i k n1 n2 o1 o2 o3)) (F' : FC A h h') : MkR g (qL h' (A 41) 0 (nI (clN k (n1 + n2))).toInt64) A S a i k n1 n2 o1 o2 o3 (qi F qn) :=
  ⟨fun nf => absurd ft nf, fun _ => ⟨ha, hN, fun g' h3 M3 hk F3 z3 => hF _ _ (I.end_ hP F' C' (by omega) (WFmake (roomB_wf I.2.2.1 _) ha hN ft) M3 hk F3 z3)⟩⟩
theorem g_plain {x1 x2 x3 : Int32} {R : Int32 → Hp → Prop} (I : LI A b K h S g) (hP : Go A b K P) (hb : b + 2 < 2 ^ 31) (hK : K < 2 ^ 31) (hR : ∀ v H, tg H (A 40) = 7 → vc_X7_plain (A 40) x1 x2 x3 H (qi (fun v30 h29 => Fin_ A v v30.toInt64 P R0 h29) qn) → R v H) : vc_L_plain (some (A 0)) x1 x2 x3 (some (A 41)) h (qi R qn) := by
  have hRK : rK g < 2 ^ 31 := by have := I.2.2.2.2.2; omega
  have e20 : (20 : Int32) = nI 20 := rfl
  have nb : ∀ i n1 n2, i < nt S → x1 = nI i → n1 ≤ 20 → x2 = nI n1 → n2 ≤ 20 → x3 = nI n2 → ¬ (¬ inR S x1 ∨ ¬ (0 ≤ x2 ∧ x2 ≤ 20) ∨ ¬ (0 ≤ x3 ∧ x3 ≤ 20)) := fun i n1 n2 hi e h1 e1 h2 e2 q => q.elim (fun q => q ⟨i, hi, e⟩) (fun q => q.elim (fun q => q (by rw [e20]; exact krng h1 (by decide) e1)) (fun q => q (by rw [e20]; exact krng h2 (by decide) e2)))
  refine ⟨A 0, rfl, I.1.1.1.1, c_plain I.1 I.2.2.1 hb (fun q => ⟨rfl, hR 1 h I.2.1.1.1 (m_plain 0 I.2.1 I.2.2.1 hRK (fun _ => I.ex hP (by decide)) (fun i n1 n2 hi e h1 e1 h2 e2 => absurd q (nb i n1 n2 hi e h1 e1 h2 e2)))⟩) (fun i n1 n2 hi e h1 e1 h2 e2 => ⟨fun nf h' C' F' => ⟨A 41, rfl, (I.o9 F').1, vp0 (I.o9 F').2, hR 0 _ (I.mid F').1.1 (m_plain 0 (I.mid F') I.2.2.1 hRK (fun q => absurd q (nb i n1 n2 hi e h1 e1 h2 e2)) (fun i' n1' n2' hi' e' h1' e1' h2' e2' => ?_))⟩, fun ft hN a h' ha C' F' => ⟨A 41, rfl, (I.o9 F').1, vp0 (I.o9 F').2, hR 0 _ (I.mid F').1.1 (m_plain a (I.mid F') I.2.2.1 hRK (fun q => absurd q (nb i n1 n2 hi e h1 e1 h2 e2)) (fun i' n1' n2' hi' e' h1' e1' h2' e2' => ?_))⟩⟩)⟩
  · cases ieq I.2.2.1 hi hi' e e'; cases keq (by omega) (by omega) e1 e1'; cases keq (by omega) (by omega) e2 e2'
    exact I.mkN hP (fun _ _ q => q) nf C' F'
  · cases ieq I.2.2.1 hi hi' e e'; cases keq (by omega) (by omega) e1 e1'; cases keq (by omega) (by omega) e2 e2'
    exact I.mkY hP (fun _ _ q => q) ft ha hN C' F'
theorem g_queue {x1 : Int32} {R : Int32 → Hp → Prop} (I : LI A b K h S g) (hP : Go A b K P) (hb : b + 2 < 2 ^ 31) (hK : K < 2 ^ 31) (hR : ∀ v H, tg H (A 40) = 7 → vc_X7_queue (A 40) x1 H (qi (fun v30 h29 => Fin_ A v v30.toInt64 P R0 h29) qn) → R v H) : vc_L_queue (some (A 0)) x1 (some (A 41)) h (qi R qn) := by
  have hRK : rK g < 2 ^ 31 := by have := I.2.2.2.2.2; omega
  refine ⟨A 0, rfl, I.1.1.1.1, c_queue I.1 I.2.2.1 hb (fun q => ⟨rfl, hR 1 h I.2.1.1.1 (m_queue 0 I.2.1 I.2.2.1 hRK (fun _ => I.ex hP (by decide)) (fun i hi e => absurd ⟨i, hi, e⟩ q))⟩) (fun i hi e => ⟨fun nf h' C' F' => ⟨A 41, rfl, (I.o9 F').1, vp0 (I.o9 F').2, hR 0 _ (I.mid F').1.1 (m_queue 0 (I.mid F') I.2.2.1 hRK (fun q => absurd ⟨i, hi, e⟩ q) (fun i' hi' e' => ?_))⟩, fun ft hN a h' ha C' F' => ⟨A 41, rfl, (I.o9 F').1, vp0 (I.o9 F').2, hR 0 _ (I.mid F').1.1 (m_queue a (I.mid F') I.2.2.1 hRK (fun q => absurd ⟨i, hi, e⟩ q) (fun i' hi' e' => ?_))⟩⟩)⟩
  · cases ieq I.2.2.1 hi hi' e e'
    exact I.mkN hP (fun _ _ q => q) nf C' F'
  · cases ieq I.2.2.1 hi hi' e e'
    exact I.mkY hP (fun _ _ q => q) ft ha hN C' F'
theorem g_row {x1 x2 x3 : Int32} {R : Int32 → Hp → Prop} {F : Int32 → Int32 → Hp → Prop} (I : LI A b K h S g) (hP : Go A b K P) (hb : b + 2 < 2 ^ 31) (hK : K < 2 ^ 31) (hF : ∀ v w h, Fin_ A v w.toInt64 P R0 h → F v w h) (hR : ∀ v H, tg H (A 40) = 7 → vc_X7_row (A 40) x1 x2 x3 H (qi (F v) qn) → R v H) : vc_L_row (some (A 0)) x1 x2 x3 (some (A 41)) h (qi R qn) := by
  have hRK : rK g < 2 ^ 31 := by have := I.2.2.2.2.2; omega
  have e30 : (3000 : Int32) = nI 3000 := rfl
  have nb : ∀ i n, i < nt S → x1 = nI i → n ≤ 3000 → x2 = nI n → ¬ (¬ inR S x1 ∨ ¬ (0 ≤ x2 ∧ x2 ≤ 3000)) := fun i n hi e h1 e1 q => q.elim (fun q => q ⟨i, hi, e⟩) (fun q => q (by rw [e30]; exact krng h1 (by decide) e1))
  refine ⟨A 0, rfl, I.1.1.1.1, c_row I.1 I.2.2.1 hb (fun q => ⟨rfl, hR 1 h I.2.1.1.1 (m_row 0 I.2.1 I.2.2.1 hRK (fun _ => (I.ex (c := 1) (R0 := R0) hP (by decide)).imp (hF 1)) (fun i n hi e h1 e1 _ => absurd q (nb i n hi e h1 e1)) (fun i n hi e h1 e1 _ => absurd q (nb i n hi e h1 e1)))⟩) (fun i n hi e h1 e1 z => ⟨fun nf h' C' F' => ⟨A 41, rfl, (I.o9 F').1, vp0 (I.o9 F').2, hR 0 _ (I.mid F').1.1 (m_row 0 (I.mid F') I.2.2.1 hRK (fun q => absurd q (nb i n hi e h1 e1)) (fun i' n' hi' e' h1' e1' z' => ?_) (fun i' n' hi' e' h1' e1' z' => absurd z z'))⟩, fun ft hN a h' ha C' F' => ⟨A 41, rfl, (I.o9 F').1, vp0 (I.o9 F').2, hR 0 _ (I.mid F').1.1 (m_row a (I.mid F') I.2.2.1 hRK (fun q => absurd q (nb i n hi e h1 e1)) (fun i' n' hi' e' h1' e1' z' => ?_) (fun i' n' hi' e' h1' e1' z' => absurd z z'))⟩⟩) (fun i n hi e h1 e1 z => ⟨fun nf h' C' F' => ⟨A 41, rfl, (I.o9 F').1, vp0 (I.o9 F').2, hR 0 _ (I.mid F').1.1 (m_row 0 (I.mid F') I.2.2.1 hRK (fun q => absurd q (nb i n hi e h1 e1)) (fun i' n' hi' e' h1' e1' z' => absurd z' z) (fun i' n' hi' e' h1' e1' z' => ?_))⟩, fun ft hN a h' ha C' F' => ⟨A 41, rfl, (I.o9 F').1, vp0 (I.o9 F').2, hR 0 _ (I.mid F').1.1 (m_row a (I.mid F') I.2.2.1 hRK (fun q => absurd q (nb i n hi e h1 e1)) (fun i' n' hi' e' h1' e1' z' => absurd z' z) (fun i' n' hi' e' h1' e1' z' => ?_))⟩⟩)⟩
  · cases ieq I.2.2.1 hi hi' e e'; cases keq (by omega) (by omega) e1 e1'
    exact I.mkN hP (hF 0) nf C' F'
  · cases ieq I.2.2.1 hi hi' e e'; cases keq (by omega) (by omega) e1 e1'
    exact I.mkY hP (hF 0) ft ha hN C' F'
  · cases ieq I.2.2.1 hi hi' e e'; cases keq (by omega) (by omega) e1 e1'
    exact I.mkN hP (hF 0) nf C' F'
  · cases ieq I.2.2.1 hi hi' e e'; cases keq (by omega) (by omega) e1 e1'
    exact I.mkY hP (hF 0) ft ha hN C' F'
theorem g_loose {x1 x2 x3 x4 : Int32} {R : Int32 → Hp → Prop} (I : LI A b K h S g) (hP : Go A b K P) (hb : b + 2 < 2 ^ 31) (hK : K < 2 ^ 31) (hR : ∀ v H, tg H (A 40) = 7 → vc_X7_loose (A 40) x1 x2 x3 x4 H (qi (fun v30 h29 => Fin_ A v v30.toInt64 P R0 h29) qn) → R v H) : vc_L_loose (some (A 0)) x1 x2 x3 x4 (some (A 41)) h (qi R qn) := by
  have hRK : rK g < 2 ^ 31 := by have := I.2.2.2.2.2; omega
  have e2 : (2 : Int32) = nI 2 := rfl
  have nb : inR S x1 → (0 ≤ x2 ∧ x2 ≤ 2) → inR S x3 → inN S x4 → ¬ (¬ inR S x1 ∨ ¬ (0 ≤ x2 ∧ x2 ≤ 2) ∨ ¬ inR S x3 ∨ ¬ inN S x4) := fun a1 a2 a3 a4 q => q.elim (fun q => q a1) (fun q => q.elim (fun q => q a2) (fun q => q.elim (fun q => q a3) (fun q => q a4)))
  have r2 : ∀ m, m ≤ 2 → x2 = nI m → 0 ≤ x2 ∧ x2 ≤ 2 := fun m h1 e1 => by rw [e2]; exact krng h1 (by decide) e1
  have nw : rtN S x3 ≠ none → (∀ a, rtN S x4 = some a → kd S a = 3) → (x4 ≠ -1 → rtN S x4 ≠ none) → ¬ (rtN S x3 = none ∨ (x4 ≠ -1 ∧ ∀ a, rtN S x4 = some a → ¬ kd S a = 3)) := fun a1 a2 a3 q => q.elim (fun q => a1 q) (fun q => by
    obtain ⟨y, hy⟩ : ∃ y, rtN S x4 = some y := by
      cases e : rtN S x4 with
      | none => exact absurd e (a3 q.1)
      | some y => exact ⟨y, rfl⟩
    exact q.2 y hy (a2 y hy))
  refine ⟨A 0, rfl, I.1.1.1.1, c_loose I.1 I.2.2.1 hb (fun q => Or.inl ⟨rfl, hR 1 h I.2.1.1.1 (m_loose 0 I.2.1 I.2.2.1 hRK (fun _ => I.ex hP (by decide)) (fun a1 a2 a3 a4 _ => absurd q (nb a1 a2 a3 a4)) (fun i m hi e h1 e1 a3 a4 _ _ _ => absurd q (nb ⟨i, hi, e⟩ (r2 m h1 e1) a3 a4)))⟩) (fun a1 a2 a3 a4 q => Or.inr ⟨rfl, hR 2 h I.2.1.1.1 (m_loose 0 I.2.1 I.2.2.1 hRK (fun q => absurd q (nb a1 a2 a3 a4)) (fun _ _ _ _ _ => I.ex hP (by decide)) (fun i m hi e h1 e1 _ _ b1 b2 b3 => absurd q (nw b1 b2 b3)))⟩) (fun i m hi e h1 e1 a3 a4 b1 b2 b3 => ⟨fun nf h' C' F' => ⟨A 41, rfl, (I.o9 F').1, vp0 (I.o9 F').2, hR 0 _ (I.mid F').1.1 (m_loose 0 (I.mid F') I.2.2.1 hRK (fun q => absurd q (nb ⟨i, hi, e⟩ (r2 m h1 e1) a3 a4)) (fun _ _ _ _ q => absurd q (nw b1 b2 b3)) (fun i' m' hi' e' h1' e1' _ _ _ _ _ => ?_))⟩, fun ft hN a h' ha C' F' => ⟨A 41, rfl, (I.o9 F').1, vp0 (I.o9 F').2, hR 0 _ (I.mid F').1.1 (m_loose a (I.mid F') I.2.2.1 hRK (fun q => absurd q (nb ⟨i, hi, e⟩ (r2 m h1 e1) a3 a4)) (fun _ _ _ _ q => absurd q (nw b1 b2 b3)) (fun i' m' hi' e' h1' e1' _ _ _ _ _ => ?_))⟩⟩)⟩
  · cases ieq I.2.2.1 hi hi' e e'
    exact I.mkN hP (fun _ _ q => q) nf C' F'
  · cases ieq I.2.2.1 hi hi' e e'
    exact I.mkY hP (fun _ _ q => q) ft ha hN C' F'
theorem g_pair {x1 x2 x3 x4 : Int32} {R : Int32 → Hp → Prop} (I : LI A b K h S g) (hP : Go A b K P) (hb : b + 2 < 2 ^ 31) (hK : K < 2 ^ 31) (hR : ∀ v H, tg H (A 40) = 7 → vc_X7_pair (A 40) x1 x2 x3 x4 H (qi (fun v30 h29 => Fin_ A v v30.toInt64 P R0 h29) qn) → R v H) : vc_L_pair (some (A 0)) x1 x2 x3 x4 (some (A 41)) h (qi R qn) := by
  have hRK : rK g < 2 ^ 31 := by have := I.2.2.2.2.2; omega
  have nb : inR S x1 → inR S x2 → inN S x3 → inN S x4 → ¬ (¬ inR S x1 ∨ ¬ inR S x2 ∨ ¬ inN S x3 ∨ ¬ inN S x4) := fun a1 a2 a3 a4 q => q.elim (fun q => q a1) (fun q => q.elim (fun q => q a2) (fun q => q.elim (fun q => q a3) (fun q => q a4)))
  have nw : rtN S x2 ≠ none → (∀ a, rtN S x4 = some a → kd S a = 3) → (x4 ≠ -1 → rtN S x4 ≠ none) → ¬ (rtN S x2 = none ∨ (x4 ≠ -1 ∧ ∀ a, rtN S x4 = some a → ¬ kd S a = 3)) := fun a1 a2 a3 q => q.elim (fun q => a1 q) (fun q => by
    obtain ⟨y, hy⟩ : ∃ y, rtN S x4 = some y := by
      cases e : rtN S x4 with
      | none => exact absurd e (a3 q.1)
      | some y => exact ⟨y, rfl⟩
    exact q.2 y hy (a2 y hy))
  refine ⟨A 0, rfl, I.1.1.1.1, c_pair I.1 I.2.2.1 hb (fun q => Or.inl ⟨rfl, hR 1 h I.2.1.1.1 (m_pair 0 I.2.1 I.2.2.1 hRK (fun _ => I.ex hP (by decide)) (fun a1 a2 a3 a4 _ => absurd q (nb a1 a2 a3 a4)) (fun i hi e a2 a3 a4 _ _ _ => absurd q (nb ⟨i, hi, e⟩ a2 a3 a4)))⟩) (fun a1 a2 a3 a4 q => Or.inr ⟨rfl, hR 2 h I.2.1.1.1 (m_pair 0 I.2.1 I.2.2.1 hRK (fun q => absurd q (nb a1 a2 a3 a4)) (fun _ _ _ _ _ => I.ex hP (by decide)) (fun i hi e _ _ _ b1 b2 b3 => absurd q (nw b1 b2 b3)))⟩) (fun i hi e a2 a3 a4 b1 b2 b3 => ⟨fun nf h' C' F' => ⟨A 41, rfl, (I.o9 F').1, vp0 (I.o9 F').2, hR 0 _ (I.mid F').1.1 (m_pair 0 (I.mid F') I.2.2.1 hRK (fun q => absurd q (nb ⟨i, hi, e⟩ a2 a3 a4)) (fun _ _ _ _ q => absurd q (nw b1 b2 b3)) (fun i' hi' e' _ _ _ _ _ _ => ?_))⟩, fun ft hN a h' ha C' F' => ⟨A 41, rfl, (I.o9 F').1, vp0 (I.o9 F').2, hR 0 _ (I.mid F').1.1 (m_pair a (I.mid F') I.2.2.1 hRK (fun q => absurd q (nb ⟨i, hi, e⟩ a2 a3 a4)) (fun _ _ _ _ q => absurd q (nw b1 b2 b3)) (fun i' hi' e' _ _ _ _ _ _ => ?_))⟩⟩)⟩
  · cases ieq I.2.2.1 hi hi' e e'
    exact I.mkN hP (fun _ _ q => q) nf C' F'
  · cases ieq I.2.2.1 hi hi' e e'
    exact I.mkY hP (fun _ _ q => q) ft ha hN C' F'
/-- same's comparing -/
def Fin5 (A : Nat → Nat) (v w : Int32) (P : Hp → Prop) (P5 : Int64 → Int64 → Hp → Prop) (R0 : Hp → Prop) (h : Hp) : Prop :=
  tg h (A 40) = 7 ∧ vc_X7_thrown (A 40) h (qi (fun v346 h345 => ((v346 = v → ((¬ v = 0 → P h345) ∧ (v = 0 → ∃ a348 : Nat, some (A 41) = some a348 ∧ tg h345 a348 = 9 ∧ vp_in (0 : Int32) (ln h345 a348) ∧ ((w = 0 → P5 (0 : Int64) (aL h345 a348 0) h345) ∧ (¬ w = 0 → P5 (1 : Int64) (aL h345 a348 0) h345))))) ∧ (¬ v346 = v → R0 h345))) qn)
theorem g_same {x1 x2 : Int32} {R : Int32 → Hp → Prop} {P5 : Int64 → Int64 → Hp → Prop} (I : LI A b K h S g) (hP : Go A b K P) (h5 : ∀ z h, P h → P5 z z h) (hR : ∀ v H, tg H (A 40) = 7 → vc_X7_same (A 40) x1 x2 H (qi (fun v30 h29 => Fin5 A v v30 P P5 R0 h29) qn) → R v H) : vc_L_same (some (A 0)) x1 x2 (some (A 41)) h (qi R qn) := by
  intro P16 q16
  have nb : ∀ i j, i < nt S → x1 = nI i → j < nt S → x2 = nI j → ¬ (¬ inR S x1 ∨ ¬ inR S x2) := fun i j hi e hj ej q => q.elim (fun q => q ⟨i, hi, e⟩) (fun q => q ⟨j, hj, ej⟩)
  have v0 : vp_in (0 : Int32) (ln h (A 41)) := vp0 I.2.2.2.2.1
  have key : ∀ (i j : Nat) (w : Int32) (z : Int64), i < nt S → x1 = nI i → j < nt S → x2 = nI j → w = (if rt S i = rt S j then 1 else 0) → ((w = 0 ∧ z = 0) ∨ (w = 1 ∧ z = 1)) → R 0 (qL h (A 41) 0 z) := by
    intro i j w z hi e hj ej hw hz
    refine hR 0 _ (I.mid FC.rfl').1.1 (m_same (I.mid FC.rfl') I.2.2.1 (fun q => absurd q (nb i j hi e hj ej)) (fun i' j' hi' e' hj' ej' => ?_))
    cases ieq I.2.2.1 hi hi' e e'; cases ieq I.2.2.1 hj hj' ej ej'
    rw [← hw]
    intro h3 M3 F3 z3
    have t3 : tg h3 (A 41) = 9 := by rw [F3.1]; exact I.2.2.2.1
    have l3 : ln h3 (A 41) = 1 := by rw [F3.2.1]; exact I.2.2.2.2.1
    have a3 : aL h3 (A 41) 0 = z := by rw [(F3.2.2.2.2.2 (A 41) (fun k hk => M3.1.2.2.2 k hk)).2, aL_qL, if_pos ⟨rfl, rfl⟩]
    have hp : P h3 := hP h3 S g b (by omega) ⟨(I.1.out (z := z)).fm F3, M3, I.2.2.1, t3, l3, by have := I.2.2.2.2.2; omega⟩
    refine ⟨M3.1.1, M3.1.1, ?_⟩
    show (fI h3 40 (A 40) = 0 → _) ∧ (¬ fI h3 40 (A 40) = 0 → _)
    refine ⟨fun _ => ⟨fun q => absurd rfl q, fun _ => ⟨A 41, rfl, t3, vp0 l3, fun q => ?_, fun q => ?_⟩⟩, fun q => absurd z3 q⟩
    · rcases hz with ⟨-, rfl⟩ | ⟨y, -⟩
      · rw [a3]; exact h5 0 h3 hp
      · rw [y] at q; exact absurd q (by decide)
    · rcases hz with ⟨y, -⟩ | ⟨-, rfl⟩
      · exact absurd y q
      · rw [a3]; exact h5 1 h3 hp
  refine ⟨A 0, rfl, I.1.1.1.1, c_same I.1 I.2.2.1 (fun q => ⟨rfl, hR 1 h I.2.1.1.1 (m_same I.2.1 I.2.2.1 (fun _ h' M' F' z' => ⟨M'.1.1, M'.1.1, ?_⟩) (fun i j hi e hj ej => absurd q (nb i j hi e hj ej)))⟩) (fun i j hi e hj ej => ⟨fun q => q16 _ _ _ _ ⟨A 41, rfl, I.2.2.2.1, v0, ?_⟩, fun q => q16 _ _ _ _ ⟨A 41, rfl, I.2.2.2.1, v0, ?_⟩⟩)⟩
  · show (fI h' 40 (A 40) = 1 → _) ∧ (¬ fI h' 40 (A 40) = 1 → _)
    exact ⟨fun _ => ⟨fun _ => hP h' S g b (by omega) (I.fm F' M' (Nat.le_refl _)), fun q => absurd q (by decide)⟩, fun q => absurd z' q⟩
  · exact key i j _ 0 hi e hj ej rfl (Or.inl ⟨q, rfl⟩)
  · refine key i j _ 1 hi e hj ej rfl (Or.inr ⟨?_, rfl⟩)
    by_cases w : rt S i = rt S j
    · rw [if_pos w]
    · rw [if_neg w] at q; exact absurd rfl q
theorem g_coll {sf : Int32} {R : Int32 → Hp → Prop} (I : LI A b K h S g) (hP : Go A b K P) (hb : b + 2 < 2 ^ 31) (hK : K < 2 ^ 31) (hR : ∀ v H, tg H (A 40) = 7 → vc_X7_collect (A 40) sf H (qi (fun v530 h529 => ((v = v530 → P h529) ∧ (¬ v = v530 → R0 h529))) qn) → R v H) : vc_X6_collect (A 0) sf h (qi R qn) := by
  have hRK : rK g < 2 ^ 31 := by have := I.2.2.2.2.2; omega
  refine c_coll I.1 I.2.2.1 (by omega) (fun h' C' F' => hR _ _ (I.2.1.fc F').1.1 (m_coll (I.2.1.fc F') I.2.2.1 hRK (fun g' h3 M3 eK F3 z3 => ⟨fun _ => hP h3 _ g' (b + 1) (by omega) ⟨C'.fm F3, M3, (WFcoll I.2.2.1 sf).1, by rw [F3.1]; exact (I.o9 F').1, by rw [F3.2.1]; exact (I.o9 F').2, by have := I.2.2.2.2.2; omega⟩, fun q => absurd rfl q⟩)))
end GNEW
