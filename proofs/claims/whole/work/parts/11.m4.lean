/-! The conditions of methods, and their walks (m4). -/
def vc_X7_init (t : Nat) (x1 : Int32) (x2 : Int32) (h : Hp) (Q : Option AV ⊕ String → Hp → Prop) : Prop :=
    ∀ (P195 : Int32 → Option Nat → Hp → Prop) (P200 : Int32 → Hp → Prop),
    (∀ (w0 : Int32) (v1 : Option Nat) (h : Hp), (∃ a107 : Nat, v1 = some a107 ∧ tg h a107 = 7 ∧ P200 (0 : Int32) (pI h 41 a107 w0)) → P195 w0 v1 h) →
    (∀ (y3 : Int32) (h : Hp), ((((15100 : Int32) ≤ y3 → Q (.inl none) h) ∧ (¬ (15100 : Int32) ≤ y3 → tg h t = 7 ∧ ∃ a111 : Nat, fR h 42 t = some a111 ∧ tg h a111 = 8 ∧ vp_in y3 (ln h a111) ∧ P200 (y3 + 1) (qI h a111 y3.toNatClampNeg (-1 : Int32))))) → P200 y3 h) →
    (∀ a1 : Nat, tg h a1 = 0 → tg (nA h a1 8 15100) t = 7 ∧ (∀ a7 : Nat, tg (nA h a1 8 15100) a7 = 0 → (∀ h12 : Hp, h12 = (pR (nA (pR (nA h a1 8 15100) 42 t (some a1)) a7 8 15100) 43 t (some a7)) → (∀ a14 : Nat, tg h12 a14 = 0 → (∀ a19 : Nat, tg (nA h12 a14 8 15100) a19 = 0 → (∀ h24 : Hp, h24 = (pR (nA (pR (nA h12 a14 8 15100) 44 t (some a14)) a19 8 15100) 45 t (some a19)) → (∀ a26 : Nat, tg h24 a26 = 0 → (∀ a31 : Nat, tg (nA h24 a26 8 15100) a31 = 0 → (∀ h36 : Hp, h36 = (pR (nA (pR (nA h24 a26 8 15100) 46 t (some a26)) a31 8 15100) 47 t (some a31)) → (∀ a38 : Nat, tg h36 a38 = 0 → (∀ a43 : Nat, tg (nA h36 a38 8 15100) a43 = 0 → (∀ h48 : Hp, h48 = (pR (nA (pR (nA h36 a38 8 15100) 48 t (some a38)) a43 8 15100) 49 t (some a43)) → (∀ a50 : Nat, tg h48 a50 = 0 → (∀ a55 : Nat, tg (nA h48 a50 8 15100) a55 = 0 → (∀ h60 : Hp, h60 = (pR (nA (pR (nA h48 a50 8 15100) 50 t (some a50)) a55 8 15100) 51 t (some a55)) → (∀ a62 : Nat, tg h60 a62 = 0 → (∀ a67 : Nat, tg (nA h60 a62 10 15100) a67 = 0 → (∀ h72 : Hp, h72 = (pR (nA (pR (nA h60 a62 10 15100) 52 t (some a62)) a67 10 15100) 53 t (some a67)) → (∀ a74 : Nat, tg h72 a74 = 0 → (∀ a79 : Nat, tg (nA h72 a74 8 15100) a79 = 0 → (∀ h84 : Hp, h84 = (pR (nA (pR (nA h72 a74 8 15100) 54 t (some a74)) a79 8 15100) 55 t (some a79)) → (∀ a86 : Nat, tg h84 a86 = 0 → (∀ a91 : Nat, tg (nA h84 a86 9 31000) a91 = 0 → (∀ h96 : Hp, h96 = (nA (pI (pR (nA h84 a86 9 31000) 56 t (some a86)) 59 t (1 : Int32)) a91 8 384) → (∀ a98 : Nat, tg h96 a98 = 0 → (∀ h103 : Hp, h103 = (pI (pR (nA (pR h96 61 t (some a91)) a98 8 20) 62 t (some a98)) 63 t (64 : Int32)) → (((600 : Int32) ≤ x1 → ((x1 ≤ (30000 : Int32) → P195 x1 (some t) h103) ∧ (¬ x1 ≤ (30000 : Int32) → P195 (30000 : Int32) (some t) h103))) ∧ (¬ (600 : Int32) ≤ x1 → P195 (600 : Int32) (some t) h103))))))))))))))))))))))))))))
set_option maxRecDepth 20000 in
theorem s_X7_init {t : Nat} {x1 : Int32} {x2 : Int32} {h : Hp} {Q : Option AV ⊕ String → Hp → Prop} {lv : Nat} (hlv : lv + 1 ≤ 12) (hv : vc_X7_init t x1 x2 h Q) (l : Launch) (D : va_G) (dA : Nat → ClassId) (sz : Nat) (hst : l.stackTraces = false) : Ctr l D dA sz (Cond.code yX7_init cX7_init 4 none) yX7_init lv [vr (some t), vi x1, vi x2] h 17 242804 Q := by
  refine Ctr.of (lo := [some (vr (some t)), some (vi x1), some (vi x2), none]) hst (by decide) (by simp [ena, isL]) rfl ?_
  intro G hg hlim C
  unfold vc_X7_init at hv
  have hv := hv (fun w0 v1 h => J G Q 195 [some (vr (some t)), none, none, none] [vi w0, vr v1] h 17 242804) (fun y3 h => J G Q 200 [some (vr (some t)), none, none, some (vi y3)] [] h 17 242804)
  have hv := hv (by
      intro w0 v1 h hv
      obtain ⟨a107, e108, hv⟩ := hv
      obtain ⟨g109, hv⟩ := hv
      refine pf_X7_73 C rfl e108 g109 dX7_init_195 ?_
      refine j_iconst (v := (0 : Int32)) C dX7_init_198 (by decide) ?_
      refine j_istore_n (lo' := [some (vr (some t)), none, none, some (vi (0 : Int32))]) C dX7_init_199 (Nat.le_of_ble_eq_true rfl) rfl ?_
      exact j_sub (by exact (And.intro rfl (And.intro rfl trivial))) hv)
  have hv := hv (by
      intro y3 h hv
      refine j_iload_n C dX7_init_200 rfl ?_
      refine j_sipush (v := (15100 : Int32)) C dX7_init_201 (by decide) ?_
      refine j_icmp_ge (tgt := 220) C dX7_init_204 (by decide) ⟨fun q115 => ?_, fun q115 => ?_⟩
      · have hv := hv.1 q115
        exact j_vret C dX7_init_220 (hlim _ _ (by omega) (by omega)) hv
      · have hv := hv.2 q115
        refine j_aload_n C dX7_init_207 rfl ?_
        obtain ⟨g110, hv⟩ := hv
        refine gf_X7_13 C rfl g110 dX7_init_208 ?_
        refine j_iload_n C dX7_init_211 rfl ?_
        refine j_iconst (v := (-1 : Int32)) C dX7_init_212 (by decide) ?_
        obtain ⟨a111, e112, hv⟩ := hv
        obtain ⟨g113, hv⟩ := hv
        obtain ⟨b114, hv⟩ := hv
        refine k_iast (j := y3.toNatClampNeg) C e112 g113 b114 rfl dX7_init_213 ?_
        refine j_iinc (v := y3 + 1) (lo' := [some (vr (some t)), none, none, some (vi (y3 + 1))]) C dX7_init_214 rfl rfl rfl ?_
        refine j_goto (tgt := 200) C dX7_init_217 (by decide) ?_
        exact j_sub (by exact (And.intro rfl (And.intro rfl trivial))) hv)
  refine j_aload_n C dX7_init_0 rfl ?_
  refine k_objInit C rfl wg_676 rfl (by omega) (Nat.le_of_ble_eq_true rfl) dX7_init_1 ?_
  refine j_aload_n C dX7_init_4 rfl ?_
  refine j_sipush (v := (15100 : Int32)) C dX7_init_5 (by decide) ?_
  refine k_newa (N := 15100) C (Or.inl ⟨rfl, rfl, rfl⟩) wg_47 (by decide) (by decide) (by decide) (hlim _ _ (by omega) (by omega)) dX7_init_8 (fun a1 f2 => ?_)
  have hv := hv a1 f2
  have g5 : tg (nA h a1 8 15100) a1 = 8 := tA2
  obtain ⟨g6, hv⟩ := hv
  refine pf_X7_13 C rfl rfl g6 dX7_init_10 ?_
  refine j_aload_n C dX7_init_13 rfl ?_
  refine j_sipush (v := (15100 : Int32)) C dX7_init_14 (by decide) ?_
  refine k_newa (N := 15100) C (Or.inl ⟨rfl, rfl, rfl⟩) wg_47 (by decide) (by decide) (by decide) (hlim _ _ (by omega) (by omega)) dX7_init_17 (fun a7 f8 => ?_)
  have hv := hv a7 f8
  have g5 : tg (nA (nA h a1 8 15100) a7 8 15100) a1 = 8 := tA1 f8 g5
  have g6 : tg (nA (nA h a1 8 15100) a7 8 15100) t = 7 := tA1 f8 g6
  have g11 : tg (nA (nA h a1 8 15100) a7 8 15100) a7 = 8 := tA2
  refine pf_X7_17 C rfl rfl g6 dX7_init_19 ?_
  refine j_name (fun h12 E13 => ?_)
  have hv := hv h12 E13
  have g5 : tg h12 a1 = 8 := by rw [E13]; exact g5
  have g6 : tg h12 t = 7 := by rw [E13]; exact g6
  have g11 : tg h12 a7 = 8 := by rw [E13]; exact g11
  refine j_aload_n C dX7_init_22 rfl ?_
  refine j_sipush (v := (15100 : Int32)) C dX7_init_23 (by decide) ?_
  refine k_newa (N := 15100) C (Or.inl ⟨rfl, rfl, rfl⟩) wg_47 (by decide) (by decide) (by decide) (hlim _ _ (by omega) (by omega)) dX7_init_26 (fun a14 f15 => ?_)
  have hv := hv a14 f15
  have g5 : tg (nA h12 a14 8 15100) a1 = 8 := tA1 f15 g5
  have g6 : tg (nA h12 a14 8 15100) t = 7 := tA1 f15 g6
  have g11 : tg (nA h12 a14 8 15100) a7 = 8 := tA1 f15 g11
  have g18 : tg (nA h12 a14 8 15100) a14 = 8 := tA2
  refine pf_X7_20 C rfl rfl g6 dX7_init_28 ?_
  refine j_aload_n C dX7_init_31 rfl ?_
  refine j_sipush (v := (15100 : Int32)) C dX7_init_32 (by decide) ?_
  refine k_newa (N := 15100) C (Or.inl ⟨rfl, rfl, rfl⟩) wg_47 (by decide) (by decide) (by decide) (hlim _ _ (by omega) (by omega)) dX7_init_35 (fun a19 f20 => ?_)
  have hv := hv a19 f20
  have g5 : tg (nA (nA h12 a14 8 15100) a19 8 15100) a1 = 8 := tA1 f20 g5
  have g6 : tg (nA (nA h12 a14 8 15100) a19 8 15100) t = 7 := tA1 f20 g6
  have g11 : tg (nA (nA h12 a14 8 15100) a19 8 15100) a7 = 8 := tA1 f20 g11
  have g18 : tg (nA (nA h12 a14 8 15100) a19 8 15100) a14 = 8 := tA1 f20 g18
  have g23 : tg (nA (nA h12 a14 8 15100) a19 8 15100) a19 = 8 := tA2
  refine pf_X7_23 C rfl rfl g6 dX7_init_37 ?_
  refine j_name (fun h24 E25 => ?_)
  have hv := hv h24 E25
  have g5 : tg h24 a1 = 8 := by rw [E25]; exact g5
  have g6 : tg h24 t = 7 := by rw [E25]; exact g6
  have g11 : tg h24 a7 = 8 := by rw [E25]; exact g11
  have g18 : tg h24 a14 = 8 := by rw [E25]; exact g18
  have g23 : tg h24 a19 = 8 := by rw [E25]; exact g23
  refine j_aload_n C dX7_init_40 rfl ?_
  refine j_sipush (v := (15100 : Int32)) C dX7_init_41 (by decide) ?_
  refine k_newa (N := 15100) C (Or.inl ⟨rfl, rfl, rfl⟩) wg_47 (by decide) (by decide) (by decide) (hlim _ _ (by omega) (by omega)) dX7_init_44 (fun a26 f27 => ?_)
  have hv := hv a26 f27
  have g5 : tg (nA h24 a26 8 15100) a1 = 8 := tA1 f27 g5
  have g6 : tg (nA h24 a26 8 15100) t = 7 := tA1 f27 g6
  have g11 : tg (nA h24 a26 8 15100) a7 = 8 := tA1 f27 g11
  have g18 : tg (nA h24 a26 8 15100) a14 = 8 := tA1 f27 g18
  have g23 : tg (nA h24 a26 8 15100) a19 = 8 := tA1 f27 g23
  have g30 : tg (nA h24 a26 8 15100) a26 = 8 := tA2
  refine pf_X7_26 C rfl rfl g6 dX7_init_46 ?_
  refine j_aload_n C dX7_init_49 rfl ?_
  refine j_sipush (v := (15100 : Int32)) C dX7_init_50 (by decide) ?_
  refine k_newa (N := 15100) C (Or.inl ⟨rfl, rfl, rfl⟩) wg_47 (by decide) (by decide) (by decide) (hlim _ _ (by omega) (by omega)) dX7_init_53 (fun a31 f32 => ?_)
  have hv := hv a31 f32
  have g5 : tg (nA (nA h24 a26 8 15100) a31 8 15100) a1 = 8 := tA1 f32 g5
  have g6 : tg (nA (nA h24 a26 8 15100) a31 8 15100) t = 7 := tA1 f32 g6
  have g11 : tg (nA (nA h24 a26 8 15100) a31 8 15100) a7 = 8 := tA1 f32 g11
  have g18 : tg (nA (nA h24 a26 8 15100) a31 8 15100) a14 = 8 := tA1 f32 g18
  have g23 : tg (nA (nA h24 a26 8 15100) a31 8 15100) a19 = 8 := tA1 f32 g23
  have g30 : tg (nA (nA h24 a26 8 15100) a31 8 15100) a26 = 8 := tA1 f32 g30
  have g35 : tg (nA (nA h24 a26 8 15100) a31 8 15100) a31 = 8 := tA2
  refine pf_X7_29 C rfl rfl g6 dX7_init_55 ?_
  refine j_name (fun h36 E37 => ?_)
  have hv := hv h36 E37
  have g5 : tg h36 a1 = 8 := by rw [E37]; exact g5
  have g6 : tg h36 t = 7 := by rw [E37]; exact g6
  have g11 : tg h36 a7 = 8 := by rw [E37]; exact g11
  have g18 : tg h36 a14 = 8 := by rw [E37]; exact g18
  have g23 : tg h36 a19 = 8 := by rw [E37]; exact g23
  have g30 : tg h36 a26 = 8 := by rw [E37]; exact g30
  have g35 : tg h36 a31 = 8 := by rw [E37]; exact g35
  refine j_aload_n C dX7_init_58 rfl ?_
  refine j_sipush (v := (15100 : Int32)) C dX7_init_59 (by decide) ?_
  refine k_newa (N := 15100) C (Or.inl ⟨rfl, rfl, rfl⟩) wg_47 (by decide) (by decide) (by decide) (hlim _ _ (by omega) (by omega)) dX7_init_62 (fun a38 f39 => ?_)
  have hv := hv a38 f39
  have g5 : tg (nA h36 a38 8 15100) a1 = 8 := tA1 f39 g5
  have g6 : tg (nA h36 a38 8 15100) t = 7 := tA1 f39 g6
  have g11 : tg (nA h36 a38 8 15100) a7 = 8 := tA1 f39 g11
  have g18 : tg (nA h36 a38 8 15100) a14 = 8 := tA1 f39 g18
  have g23 : tg (nA h36 a38 8 15100) a19 = 8 := tA1 f39 g23
  have g30 : tg (nA h36 a38 8 15100) a26 = 8 := tA1 f39 g30
  have g35 : tg (nA h36 a38 8 15100) a31 = 8 := tA1 f39 g35
  have g42 : tg (nA h36 a38 8 15100) a38 = 8 := tA2
  refine pf_X7_32 C rfl rfl g6 dX7_init_64 ?_
  refine j_aload_n C dX7_init_67 rfl ?_
  refine j_sipush (v := (15100 : Int32)) C dX7_init_68 (by decide) ?_
  refine k_newa (N := 15100) C (Or.inl ⟨rfl, rfl, rfl⟩) wg_47 (by decide) (by decide) (by decide) (hlim _ _ (by omega) (by omega)) dX7_init_71 (fun a43 f44 => ?_)
  have hv := hv a43 f44
  have g5 : tg (nA (nA h36 a38 8 15100) a43 8 15100) a1 = 8 := tA1 f44 g5
  have g6 : tg (nA (nA h36 a38 8 15100) a43 8 15100) t = 7 := tA1 f44 g6
  have g11 : tg (nA (nA h36 a38 8 15100) a43 8 15100) a7 = 8 := tA1 f44 g11
  have g18 : tg (nA (nA h36 a38 8 15100) a43 8 15100) a14 = 8 := tA1 f44 g18
  have g23 : tg (nA (nA h36 a38 8 15100) a43 8 15100) a19 = 8 := tA1 f44 g23
  have g30 : tg (nA (nA h36 a38 8 15100) a43 8 15100) a26 = 8 := tA1 f44 g30
  have g35 : tg (nA (nA h36 a38 8 15100) a43 8 15100) a31 = 8 := tA1 f44 g35
  have g42 : tg (nA (nA h36 a38 8 15100) a43 8 15100) a38 = 8 := tA1 f44 g42
  have g47 : tg (nA (nA h36 a38 8 15100) a43 8 15100) a43 = 8 := tA2
  refine pf_X7_35 C rfl rfl g6 dX7_init_73 ?_
  refine j_name (fun h48 E49 => ?_)
  have hv := hv h48 E49
  have g5 : tg h48 a1 = 8 := by rw [E49]; exact g5
  have g6 : tg h48 t = 7 := by rw [E49]; exact g6
  have g11 : tg h48 a7 = 8 := by rw [E49]; exact g11
  have g18 : tg h48 a14 = 8 := by rw [E49]; exact g18
  have g23 : tg h48 a19 = 8 := by rw [E49]; exact g23
  have g30 : tg h48 a26 = 8 := by rw [E49]; exact g30
  have g35 : tg h48 a31 = 8 := by rw [E49]; exact g35
  have g42 : tg h48 a38 = 8 := by rw [E49]; exact g42
  have g47 : tg h48 a43 = 8 := by rw [E49]; exact g47
  refine j_aload_n C dX7_init_76 rfl ?_
  refine j_sipush (v := (15100 : Int32)) C dX7_init_77 (by decide) ?_
  refine k_newa (N := 15100) C (Or.inl ⟨rfl, rfl, rfl⟩) wg_47 (by decide) (by decide) (by decide) (hlim _ _ (by omega) (by omega)) dX7_init_80 (fun a50 f51 => ?_)
  have hv := hv a50 f51
  have g5 : tg (nA h48 a50 8 15100) a1 = 8 := tA1 f51 g5
  have g6 : tg (nA h48 a50 8 15100) t = 7 := tA1 f51 g6
  have g11 : tg (nA h48 a50 8 15100) a7 = 8 := tA1 f51 g11
  have g18 : tg (nA h48 a50 8 15100) a14 = 8 := tA1 f51 g18
  have g23 : tg (nA h48 a50 8 15100) a19 = 8 := tA1 f51 g23
  have g30 : tg (nA h48 a50 8 15100) a26 = 8 := tA1 f51 g30
  have g35 : tg (nA h48 a50 8 15100) a31 = 8 := tA1 f51 g35
  have g42 : tg (nA h48 a50 8 15100) a38 = 8 := tA1 f51 g42
  have g47 : tg (nA h48 a50 8 15100) a43 = 8 := tA1 f51 g47
  have g54 : tg (nA h48 a50 8 15100) a50 = 8 := tA2
  refine pf_X7_38 C rfl rfl g6 dX7_init_82 ?_
  refine j_aload_n C dX7_init_85 rfl ?_
  refine j_sipush (v := (15100 : Int32)) C dX7_init_86 (by decide) ?_
  refine k_newa (N := 15100) C (Or.inl ⟨rfl, rfl, rfl⟩) wg_47 (by decide) (by decide) (by decide) (hlim _ _ (by omega) (by omega)) dX7_init_89 (fun a55 f56 => ?_)
  have hv := hv a55 f56
  have g5 : tg (nA (nA h48 a50 8 15100) a55 8 15100) a1 = 8 := tA1 f56 g5
  have g6 : tg (nA (nA h48 a50 8 15100) a55 8 15100) t = 7 := tA1 f56 g6
  have g11 : tg (nA (nA h48 a50 8 15100) a55 8 15100) a7 = 8 := tA1 f56 g11
  have g18 : tg (nA (nA h48 a50 8 15100) a55 8 15100) a14 = 8 := tA1 f56 g18
  have g23 : tg (nA (nA h48 a50 8 15100) a55 8 15100) a19 = 8 := tA1 f56 g23
  have g30 : tg (nA (nA h48 a50 8 15100) a55 8 15100) a26 = 8 := tA1 f56 g30
  have g35 : tg (nA (nA h48 a50 8 15100) a55 8 15100) a31 = 8 := tA1 f56 g35
  have g42 : tg (nA (nA h48 a50 8 15100) a55 8 15100) a38 = 8 := tA1 f56 g42
  have g47 : tg (nA (nA h48 a50 8 15100) a55 8 15100) a43 = 8 := tA1 f56 g47
  have g54 : tg (nA (nA h48 a50 8 15100) a55 8 15100) a50 = 8 := tA1 f56 g54
  have g59 : tg (nA (nA h48 a50 8 15100) a55 8 15100) a55 = 8 := tA2
  refine pf_X7_41 C rfl rfl g6 dX7_init_91 ?_
  refine j_name (fun h60 E61 => ?_)
  have hv := hv h60 E61
  have g5 : tg h60 a1 = 8 := by rw [E61]; exact g5
  have g6 : tg h60 t = 7 := by rw [E61]; exact g6
  have g11 : tg h60 a7 = 8 := by rw [E61]; exact g11
  have g18 : tg h60 a14 = 8 := by rw [E61]; exact g18
  have g23 : tg h60 a19 = 8 := by rw [E61]; exact g23
  have g30 : tg h60 a26 = 8 := by rw [E61]; exact g30
  have g35 : tg h60 a31 = 8 := by rw [E61]; exact g35
  have g42 : tg h60 a38 = 8 := by rw [E61]; exact g42
  have g47 : tg h60 a43 = 8 := by rw [E61]; exact g47
  have g54 : tg h60 a50 = 8 := by rw [E61]; exact g54
  have g59 : tg h60 a55 = 8 := by rw [E61]; exact g59
  refine j_aload_n C dX7_init_94 rfl ?_
  refine j_sipush (v := (15100 : Int32)) C dX7_init_95 (by decide) ?_
  refine k_newa (N := 15100) C (Or.inr (Or.inr ⟨rfl, rfl, rfl⟩)) wg_783 (by decide) (by decide) (by decide) (hlim _ _ (by omega) (by omega)) dX7_init_98 (fun a62 f63 => ?_)
  have hv := hv a62 f63
  have g5 : tg (nA h60 a62 10 15100) a1 = 8 := tA1 f63 g5
  have g6 : tg (nA h60 a62 10 15100) t = 7 := tA1 f63 g6
  have g11 : tg (nA h60 a62 10 15100) a7 = 8 := tA1 f63 g11
  have g18 : tg (nA h60 a62 10 15100) a14 = 8 := tA1 f63 g18
  have g23 : tg (nA h60 a62 10 15100) a19 = 8 := tA1 f63 g23
  have g30 : tg (nA h60 a62 10 15100) a26 = 8 := tA1 f63 g30
  have g35 : tg (nA h60 a62 10 15100) a31 = 8 := tA1 f63 g35
  have g42 : tg (nA h60 a62 10 15100) a38 = 8 := tA1 f63 g42
  have g47 : tg (nA h60 a62 10 15100) a43 = 8 := tA1 f63 g47
  have g54 : tg (nA h60 a62 10 15100) a50 = 8 := tA1 f63 g54
  have g59 : tg (nA h60 a62 10 15100) a55 = 8 := tA1 f63 g59
  have g66 : tg (nA h60 a62 10 15100) a62 = 10 := tA2
  refine pf_X7_44 C rfl rfl g6 dX7_init_100 ?_
  refine j_aload_n C dX7_init_103 rfl ?_
  refine j_sipush (v := (15100 : Int32)) C dX7_init_104 (by decide) ?_
  refine k_newa (N := 15100) C (Or.inr (Or.inr ⟨rfl, rfl, rfl⟩)) wg_783 (by decide) (by decide) (by decide) (hlim _ _ (by omega) (by omega)) dX7_init_107 (fun a67 f68 => ?_)
  have hv := hv a67 f68
  have g5 : tg (nA (nA h60 a62 10 15100) a67 10 15100) a1 = 8 := tA1 f68 g5
  have g6 : tg (nA (nA h60 a62 10 15100) a67 10 15100) t = 7 := tA1 f68 g6
  have g11 : tg (nA (nA h60 a62 10 15100) a67 10 15100) a7 = 8 := tA1 f68 g11
  have g18 : tg (nA (nA h60 a62 10 15100) a67 10 15100) a14 = 8 := tA1 f68 g18
  have g23 : tg (nA (nA h60 a62 10 15100) a67 10 15100) a19 = 8 := tA1 f68 g23
  have g30 : tg (nA (nA h60 a62 10 15100) a67 10 15100) a26 = 8 := tA1 f68 g30
  have g35 : tg (nA (nA h60 a62 10 15100) a67 10 15100) a31 = 8 := tA1 f68 g35
  have g42 : tg (nA (nA h60 a62 10 15100) a67 10 15100) a38 = 8 := tA1 f68 g42
  have g47 : tg (nA (nA h60 a62 10 15100) a67 10 15100) a43 = 8 := tA1 f68 g47
  have g54 : tg (nA (nA h60 a62 10 15100) a67 10 15100) a50 = 8 := tA1 f68 g54
  have g59 : tg (nA (nA h60 a62 10 15100) a67 10 15100) a55 = 8 := tA1 f68 g59
  have g66 : tg (nA (nA h60 a62 10 15100) a67 10 15100) a62 = 10 := tA1 f68 g66
  have g71 : tg (nA (nA h60 a62 10 15100) a67 10 15100) a67 = 10 := tA2
  refine pf_X7_48 C rfl rfl g6 dX7_init_109 ?_
  refine j_name (fun h72 E73 => ?_)
  have hv := hv h72 E73
  have g5 : tg h72 a1 = 8 := by rw [E73]; exact g5
  have g6 : tg h72 t = 7 := by rw [E73]; exact g6
  have g11 : tg h72 a7 = 8 := by rw [E73]; exact g11
  have g18 : tg h72 a14 = 8 := by rw [E73]; exact g18
  have g23 : tg h72 a19 = 8 := by rw [E73]; exact g23
  have g30 : tg h72 a26 = 8 := by rw [E73]; exact g30
  have g35 : tg h72 a31 = 8 := by rw [E73]; exact g35
  have g42 : tg h72 a38 = 8 := by rw [E73]; exact g42
  have g47 : tg h72 a43 = 8 := by rw [E73]; exact g47
  have g54 : tg h72 a50 = 8 := by rw [E73]; exact g54
  have g59 : tg h72 a55 = 8 := by rw [E73]; exact g59
  have g66 : tg h72 a62 = 10 := by rw [E73]; exact g66
  have g71 : tg h72 a67 = 10 := by rw [E73]; exact g71
  refine j_aload_n C dX7_init_112 rfl ?_
  refine j_sipush (v := (15100 : Int32)) C dX7_init_113 (by decide) ?_
  refine k_newa (N := 15100) C (Or.inl ⟨rfl, rfl, rfl⟩) wg_47 (by decide) (by decide) (by decide) (hlim _ _ (by omega) (by omega)) dX7_init_116 (fun a74 f75 => ?_)
  have hv := hv a74 f75
  have g5 : tg (nA h72 a74 8 15100) a1 = 8 := tA1 f75 g5
  have g6 : tg (nA h72 a74 8 15100) t = 7 := tA1 f75 g6
  have g11 : tg (nA h72 a74 8 15100) a7 = 8 := tA1 f75 g11
  have g18 : tg (nA h72 a74 8 15100) a14 = 8 := tA1 f75 g18
  have g23 : tg (nA h72 a74 8 15100) a19 = 8 := tA1 f75 g23
  have g30 : tg (nA h72 a74 8 15100) a26 = 8 := tA1 f75 g30
  have g35 : tg (nA h72 a74 8 15100) a31 = 8 := tA1 f75 g35
  have g42 : tg (nA h72 a74 8 15100) a38 = 8 := tA1 f75 g42
  have g47 : tg (nA h72 a74 8 15100) a43 = 8 := tA1 f75 g47
  have g54 : tg (nA h72 a74 8 15100) a50 = 8 := tA1 f75 g54
  have g59 : tg (nA h72 a74 8 15100) a55 = 8 := tA1 f75 g59
  have g66 : tg (nA h72 a74 8 15100) a62 = 10 := tA1 f75 g66
  have g71 : tg (nA h72 a74 8 15100) a67 = 10 := tA1 f75 g71
  have g78 : tg (nA h72 a74 8 15100) a74 = 8 := tA2
  refine pf_X7_51 C rfl rfl g6 dX7_init_118 ?_
  refine j_aload_n C dX7_init_121 rfl ?_
  refine j_sipush (v := (15100 : Int32)) C dX7_init_122 (by decide) ?_
  refine k_newa (N := 15100) C (Or.inl ⟨rfl, rfl, rfl⟩) wg_47 (by decide) (by decide) (by decide) (hlim _ _ (by omega) (by omega)) dX7_init_125 (fun a79 f80 => ?_)
  have hv := hv a79 f80
  have g5 : tg (nA (nA h72 a74 8 15100) a79 8 15100) a1 = 8 := tA1 f80 g5
  have g6 : tg (nA (nA h72 a74 8 15100) a79 8 15100) t = 7 := tA1 f80 g6
  have g11 : tg (nA (nA h72 a74 8 15100) a79 8 15100) a7 = 8 := tA1 f80 g11
  have g18 : tg (nA (nA h72 a74 8 15100) a79 8 15100) a14 = 8 := tA1 f80 g18
  have g23 : tg (nA (nA h72 a74 8 15100) a79 8 15100) a19 = 8 := tA1 f80 g23
  have g30 : tg (nA (nA h72 a74 8 15100) a79 8 15100) a26 = 8 := tA1 f80 g30
  have g35 : tg (nA (nA h72 a74 8 15100) a79 8 15100) a31 = 8 := tA1 f80 g35
  have g42 : tg (nA (nA h72 a74 8 15100) a79 8 15100) a38 = 8 := tA1 f80 g42
  have g47 : tg (nA (nA h72 a74 8 15100) a79 8 15100) a43 = 8 := tA1 f80 g47
  have g54 : tg (nA (nA h72 a74 8 15100) a79 8 15100) a50 = 8 := tA1 f80 g54
  have g59 : tg (nA (nA h72 a74 8 15100) a79 8 15100) a55 = 8 := tA1 f80 g59
  have g66 : tg (nA (nA h72 a74 8 15100) a79 8 15100) a62 = 10 := tA1 f80 g66
  have g71 : tg (nA (nA h72 a74 8 15100) a79 8 15100) a67 = 10 := tA1 f80 g71
  have g78 : tg (nA (nA h72 a74 8 15100) a79 8 15100) a74 = 8 := tA1 f80 g78
  have g83 : tg (nA (nA h72 a74 8 15100) a79 8 15100) a79 = 8 := tA2
  refine pf_X7_54 C rfl rfl g6 dX7_init_127 ?_
  refine j_name (fun h84 E85 => ?_)
  have hv := hv h84 E85
  have g5 : tg h84 a1 = 8 := by rw [E85]; exact g5
  have g6 : tg h84 t = 7 := by rw [E85]; exact g6
  have g11 : tg h84 a7 = 8 := by rw [E85]; exact g11
  have g18 : tg h84 a14 = 8 := by rw [E85]; exact g18
  have g23 : tg h84 a19 = 8 := by rw [E85]; exact g23
  have g30 : tg h84 a26 = 8 := by rw [E85]; exact g30
  have g35 : tg h84 a31 = 8 := by rw [E85]; exact g35
  have g42 : tg h84 a38 = 8 := by rw [E85]; exact g42
  have g47 : tg h84 a43 = 8 := by rw [E85]; exact g47
  have g54 : tg h84 a50 = 8 := by rw [E85]; exact g54
  have g59 : tg h84 a55 = 8 := by rw [E85]; exact g59
  have g66 : tg h84 a62 = 10 := by rw [E85]; exact g66
  have g71 : tg h84 a67 = 10 := by rw [E85]; exact g71
  have g78 : tg h84 a74 = 8 := by rw [E85]; exact g78
  have g83 : tg h84 a79 = 8 := by rw [E85]; exact g83
  refine j_aload_n C dX7_init_130 rfl ?_
  refine j_sipush (v := (31000 : Int32)) C dX7_init_131 (by decide) ?_
  refine k_newa (N := 31000) C (Or.inr (Or.inl ⟨rfl, rfl, rfl⟩)) wg_345 (by decide) (by decide) (by decide) (hlim _ _ (by omega) (by omega)) dX7_init_134 (fun a86 f87 => ?_)
  have hv := hv a86 f87
  have g5 : tg (nA h84 a86 9 31000) a1 = 8 := tA1 f87 g5
  have g6 : tg (nA h84 a86 9 31000) t = 7 := tA1 f87 g6
  have g11 : tg (nA h84 a86 9 31000) a7 = 8 := tA1 f87 g11
  have g18 : tg (nA h84 a86 9 31000) a14 = 8 := tA1 f87 g18
  have g23 : tg (nA h84 a86 9 31000) a19 = 8 := tA1 f87 g23
  have g30 : tg (nA h84 a86 9 31000) a26 = 8 := tA1 f87 g30
  have g35 : tg (nA h84 a86 9 31000) a31 = 8 := tA1 f87 g35
  have g42 : tg (nA h84 a86 9 31000) a38 = 8 := tA1 f87 g42
  have g47 : tg (nA h84 a86 9 31000) a43 = 8 := tA1 f87 g47
  have g54 : tg (nA h84 a86 9 31000) a50 = 8 := tA1 f87 g54
  have g59 : tg (nA h84 a86 9 31000) a55 = 8 := tA1 f87 g59
  have g66 : tg (nA h84 a86 9 31000) a62 = 10 := tA1 f87 g66
  have g71 : tg (nA h84 a86 9 31000) a67 = 10 := tA1 f87 g71
  have g78 : tg (nA h84 a86 9 31000) a74 = 8 := tA1 f87 g78
  have g83 : tg (nA h84 a86 9 31000) a79 = 8 := tA1 f87 g83
  have g90 : tg (nA h84 a86 9 31000) a86 = 9 := tA2
  refine pf_X7_57 C rfl rfl g6 dX7_init_136 ?_
  refine j_aload_n C dX7_init_139 rfl ?_
  refine j_iconst (v := (1 : Int32)) C dX7_init_140 (by decide) ?_
  refine pf_X7_61 C rfl g6 dX7_init_141 ?_
  refine j_aload_n C dX7_init_144 rfl ?_
  refine j_sipush (v := (384 : Int32)) C dX7_init_145 (by decide) ?_
  refine k_newa (N := 384) C (Or.inl ⟨rfl, rfl, rfl⟩) wg_47 (by decide) (by decide) (by decide) (hlim _ _ (by omega) (by omega)) dX7_init_148 (fun a91 f92 => ?_)
  have hv := hv a91 f92
  have g5 : tg (nA (nA h84 a86 9 31000) a91 8 384) a1 = 8 := tA1 f92 g5
  have g6 : tg (nA (nA h84 a86 9 31000) a91 8 384) t = 7 := tA1 f92 g6
  have g11 : tg (nA (nA h84 a86 9 31000) a91 8 384) a7 = 8 := tA1 f92 g11
  have g18 : tg (nA (nA h84 a86 9 31000) a91 8 384) a14 = 8 := tA1 f92 g18
  have g23 : tg (nA (nA h84 a86 9 31000) a91 8 384) a19 = 8 := tA1 f92 g23
  have g30 : tg (nA (nA h84 a86 9 31000) a91 8 384) a26 = 8 := tA1 f92 g30
  have g35 : tg (nA (nA h84 a86 9 31000) a91 8 384) a31 = 8 := tA1 f92 g35
  have g42 : tg (nA (nA h84 a86 9 31000) a91 8 384) a38 = 8 := tA1 f92 g42
  have g47 : tg (nA (nA h84 a86 9 31000) a91 8 384) a43 = 8 := tA1 f92 g47
  have g54 : tg (nA (nA h84 a86 9 31000) a91 8 384) a50 = 8 := tA1 f92 g54
  have g59 : tg (nA (nA h84 a86 9 31000) a91 8 384) a55 = 8 := tA1 f92 g59
  have g66 : tg (nA (nA h84 a86 9 31000) a91 8 384) a62 = 10 := tA1 f92 g66
  have g71 : tg (nA (nA h84 a86 9 31000) a91 8 384) a67 = 10 := tA1 f92 g71
  have g78 : tg (nA (nA h84 a86 9 31000) a91 8 384) a74 = 8 := tA1 f92 g78
  have g83 : tg (nA (nA h84 a86 9 31000) a91 8 384) a79 = 8 := tA1 f92 g83
  have g90 : tg (nA (nA h84 a86 9 31000) a91 8 384) a86 = 9 := tA1 f92 g90
  have g95 : tg (nA (nA h84 a86 9 31000) a91 8 384) a91 = 8 := tA2
  refine j_name (fun h96 E97 => ?_)
  have hv := hv h96 E97
  have g5 : tg h96 a1 = 8 := by rw [E97]; exact g5
  have g6 : tg h96 t = 7 := by rw [E97]; exact g6
  have g11 : tg h96 a7 = 8 := by rw [E97]; exact g11
  have g18 : tg h96 a14 = 8 := by rw [E97]; exact g18
  have g23 : tg h96 a19 = 8 := by rw [E97]; exact g23
  have g30 : tg h96 a26 = 8 := by rw [E97]; exact g30
  have g35 : tg h96 a31 = 8 := by rw [E97]; exact g35
  have g42 : tg h96 a38 = 8 := by rw [E97]; exact g42
  have g47 : tg h96 a43 = 8 := by rw [E97]; exact g47
  have g54 : tg h96 a50 = 8 := by rw [E97]; exact g54
  have g59 : tg h96 a55 = 8 := by rw [E97]; exact g59
  have g66 : tg h96 a62 = 10 := by rw [E97]; exact g66
  have g71 : tg h96 a67 = 10 := by rw [E97]; exact g71
  have g78 : tg h96 a74 = 8 := by rw [E97]; exact g78
  have g83 : tg h96 a79 = 8 := by rw [E97]; exact g83
  have g90 : tg h96 a86 = 9 := by rw [E97]; exact g90
  have g95 : tg h96 a91 = 8 := by rw [E97]; exact g95
  refine pf_X7_64 C rfl rfl g6 dX7_init_150 ?_
  refine j_aload_n C dX7_init_153 rfl ?_
  refine j_bipush (v := (20 : Int32)) C dX7_init_154 (by decide) ?_
  refine k_newa (N := 20) C (Or.inl ⟨rfl, rfl, rfl⟩) wg_47 (by decide) (by decide) (by decide) (hlim _ _ (by omega) (by omega)) dX7_init_156 (fun a98 f99 => ?_)
  have hv := hv a98 f99
  have g5 : tg (nA h96 a98 8 20) a1 = 8 := tA1 f99 g5
  have g6 : tg (nA h96 a98 8 20) t = 7 := tA1 f99 g6
  have g11 : tg (nA h96 a98 8 20) a7 = 8 := tA1 f99 g11
  have g18 : tg (nA h96 a98 8 20) a14 = 8 := tA1 f99 g18
  have g23 : tg (nA h96 a98 8 20) a19 = 8 := tA1 f99 g23
  have g30 : tg (nA h96 a98 8 20) a26 = 8 := tA1 f99 g30
  have g35 : tg (nA h96 a98 8 20) a31 = 8 := tA1 f99 g35
  have g42 : tg (nA h96 a98 8 20) a38 = 8 := tA1 f99 g42
  have g47 : tg (nA h96 a98 8 20) a43 = 8 := tA1 f99 g47
  have g54 : tg (nA h96 a98 8 20) a50 = 8 := tA1 f99 g54
  have g59 : tg (nA h96 a98 8 20) a55 = 8 := tA1 f99 g59
  have g66 : tg (nA h96 a98 8 20) a62 = 10 := tA1 f99 g66
  have g71 : tg (nA h96 a98 8 20) a67 = 10 := tA1 f99 g71
  have g78 : tg (nA h96 a98 8 20) a74 = 8 := tA1 f99 g78
  have g83 : tg (nA h96 a98 8 20) a79 = 8 := tA1 f99 g83
  have g90 : tg (nA h96 a98 8 20) a86 = 9 := tA1 f99 g90
  have g95 : tg (nA h96 a98 8 20) a91 = 8 := tA1 f99 g95
  have g102 : tg (nA h96 a98 8 20) a98 = 8 := tA2
  refine pf_X7_67 C rfl rfl g6 dX7_init_158 ?_
  refine j_aload_n C dX7_init_161 rfl ?_
  refine j_bipush (v := (64 : Int32)) C dX7_init_162 (by decide) ?_
  refine pf_X7_70 C rfl g6 dX7_init_164 ?_
  refine j_name (fun h103 E104 => ?_)
  have hv := hv h103 E104
  have g5 : tg h103 a1 = 8 := by rw [E104]; exact g5
  have g6 : tg h103 t = 7 := by rw [E104]; exact g6
  have g11 : tg h103 a7 = 8 := by rw [E104]; exact g11
  have g18 : tg h103 a14 = 8 := by rw [E104]; exact g18
  have g23 : tg h103 a19 = 8 := by rw [E104]; exact g23
  have g30 : tg h103 a26 = 8 := by rw [E104]; exact g30
  have g35 : tg h103 a31 = 8 := by rw [E104]; exact g35
  have g42 : tg h103 a38 = 8 := by rw [E104]; exact g42
  have g47 : tg h103 a43 = 8 := by rw [E104]; exact g47
  have g54 : tg h103 a50 = 8 := by rw [E104]; exact g54
  have g59 : tg h103 a55 = 8 := by rw [E104]; exact g59
  have g66 : tg h103 a62 = 10 := by rw [E104]; exact g66
  have g71 : tg h103 a67 = 10 := by rw [E104]; exact g71
  have g78 : tg h103 a74 = 8 := by rw [E104]; exact g78
  have g83 : tg h103 a79 = 8 := by rw [E104]; exact g83
  have g90 : tg h103 a86 = 9 := by rw [E104]; exact g90
  have g95 : tg h103 a91 = 8 := by rw [E104]; exact g95
  have g102 : tg h103 a98 = 8 := by rw [E104]; exact g102
  refine j_aload_n C dX7_init_167 rfl ?_
  refine j_iload_n C dX7_init_168 rfl ?_
  refine j_sipush (v := (600 : Int32)) C dX7_init_169 (by decide) ?_
  refine j_icmp_ge (tgt := 181) C dX7_init_172 (by decide) ⟨fun q106 => ?_, fun q106 => ?_⟩
  · have hv := hv.1 q106
    refine j_iload_n C dX7_init_181 rfl ?_
    refine j_sipush (v := (30000 : Int32)) C dX7_init_182 (by decide) ?_
    refine j_icmp_le (tgt := 194) C dX7_init_185 (by decide) ⟨fun q105 => ?_, fun q105 => ?_⟩
    · have hv := hv.1 q105
      refine j_iload_n C dX7_init_194 rfl ?_
      exact j_sub (by exact (And.intro rfl trivial)) hv
    · have hv := hv.2 q105
      refine j_sipush (v := (30000 : Int32)) C dX7_init_188 (by decide) ?_
      refine j_goto (tgt := 195) C dX7_init_191 (by decide) ?_
      exact j_sub (by exact (And.intro rfl trivial)) hv
  · have hv := hv.2 q106
    refine j_sipush (v := (600 : Int32)) C dX7_init_175 (by decide) ?_
    refine j_goto (tgt := 195) C dX7_init_178 (by decide) ?_
    exact j_sub (by exact (And.intro rfl trivial)) hv
def vc_X7_plain (t : Nat) (x1 : Int32) (x2 : Int32) (x3 : Int32) (h : Hp) (Q : Option AV ⊕ String → Hp → Prop) : Prop :=
    ∀ (P33 : Hp → Prop),
    (∀  (h : Hp), (tg h t = 7 ∧ vc_X7_bad t h (qi (fun v16 h15 => Q (.inl (some (vi v16))) h15) qn)) → P33 h) →
    tg h t = 7 ∧ vc_X7_none t x1 (pI h 40 t (0 : Int32)) (qi (fun v3 h2 => ((¬ v3 = 0 → P33 h2) ∧ (v3 = 0 → ((x2 < 0 → P33 h2) ∧ (¬ x2 < 0 → (((20 : Int32) < x2 → P33 h2) ∧ (¬ (20 : Int32) < x2 → ((x3 < 0 → P33 h2) ∧ (¬ x3 < 0 → ((x3 ≤ (20 : Int32) → tg h2 t = 7 ∧ vc_X7_make t (0 : Int32) x2 x3 h2 (qi (fun v5 h4 => tg h4 t = 7 ∧ vc_X7_made t x1 v5 h4 (qi (fun v8 h7 => Q (.inl (some (vi v8))) h7) qn)) qn)) ∧ (¬ x3 ≤ (20 : Int32) → P33 h2))))))))))) qn)
set_option maxRecDepth 20000 in
theorem s_X7_plain {t : Nat} {x1 : Int32} {x2 : Int32} {x3 : Int32} {h : Hp} {Q : Option AV ⊕ String → Hp → Prop} {lv : Nat} (hlv : lv + 4 ≤ 12) (hv : vc_X7_plain t x1 x2 x3 h Q) (l : Launch) (D : va_G) (dA : Nat → ClassId) (sz : Nat) (hst : l.stackTraces = false) : Ctr l D dA sz (Cond.code yX7_plain cX7_plain 4 (some .int)) yX7_plain lv [vr (some t), vi x1, vi x2, vi x3] h 0 0 Q := by
  refine Ctr.of (lo := [some (vr (some t)), some (vi x1), some (vi x2), some (vi x3)]) hst (by decide) (by simp [ena, isL]) rfl ?_
  intro G hg hlim C
  unfold vc_X7_plain at hv
  have hv := hv (fun  h => J G Q 33 [some (vr (some t)), none, none, none] [] h 0 0)
  have hv := hv (by
      intro  h hv
      refine j_aload_n C dX7_plain_33 rfl ?_
      obtain ⟨g17, hv⟩ := hv
      refine k_callV C 6 [] mv_X7_139 rfl rfl (fun l D dA sz hl => s_X7_bad (by omega) hv l D dA sz hl) rfl rfl (by decide) g17 rfl (by omega) (Nat.le_of_ble_eq_true rfl) (hlim _ _ (by omega) (by omega)) dX7_plain_34 (fun _ _ q => False.elim q) (fun v h15 hq => ?_)
      obtain ⟨v16, rfl, hv⟩ := qi_inv hq
      exact j_iret C dX7_plain_37 (hlim _ _ (by omega) (by omega)) hv)
  refine j_aload_n C dX7_plain_0 rfl ?_
  refine j_iconst (v := (0 : Int32)) C dX7_plain_1 (by decide) ?_
  obtain ⟨g1, hv⟩ := hv
  refine pf_X7_1 C rfl g1 dX7_plain_2 ?_
  refine j_aload_n C dX7_plain_5 rfl ?_
  refine j_iload_n C dX7_plain_6 rfl ?_
  refine k_callV C 6 [vi x1] mv_X7_136 rfl rfl (fun l D dA sz hl => s_X7_none (by omega) hv l D dA sz hl) rfl rfl (by decide) g1 rfl (by omega) (Nat.le_of_ble_eq_true rfl) (hlim _ _ (by omega) (by omega)) dX7_plain_7 (fun _ _ q => False.elim q) (fun v h2 hq => ?_)
  obtain ⟨v3, rfl, hv⟩ := qi_inv hq
  refine j_if_ne (tgt := 33) C dX7_plain_10 (by decide) ⟨fun q14 => ?_, fun q14 => ?_⟩
  · have hv := hv.1 q14
    exact j_sub (by exact (And.intro rfl trivial)) hv
  · have hv := hv.2 q14
    refine j_iload_n C dX7_plain_13 rfl ?_
    refine j_if_lt (tgt := 33) C dX7_plain_14 (by decide) ⟨fun q13 => ?_, fun q13 => ?_⟩
    · have hv := hv.1 q13
      exact j_sub (by exact (And.intro rfl trivial)) hv
    · have hv := hv.2 q13
      refine j_iload_n C dX7_plain_17 rfl ?_
      refine j_bipush (v := (20 : Int32)) C dX7_plain_18 (by decide) ?_
      refine j_icmp_gt (tgt := 33) C dX7_plain_20 (by decide) ⟨fun q12 => ?_, fun q12 => ?_⟩
      · have hv := hv.1 q12
        exact j_sub (by exact (And.intro rfl trivial)) hv
      · have hv := hv.2 q12
        refine j_iload_n C dX7_plain_23 rfl ?_
        refine j_if_lt (tgt := 33) C dX7_plain_24 (by decide) ⟨fun q11 => ?_, fun q11 => ?_⟩
        · have hv := hv.1 q11
          exact j_sub (by exact (And.intro rfl trivial)) hv
        · have hv := hv.2 q11
          refine j_iload_n C dX7_plain_27 rfl ?_
          refine j_bipush (v := (20 : Int32)) C dX7_plain_28 (by decide) ?_
          refine j_icmp_le (tgt := 38) C dX7_plain_30 (by decide) ⟨fun q10 => ?_, fun q10 => ?_⟩
          · have hv := hv.1 q10
            refine j_aload_n C dX7_plain_38 rfl ?_
            refine j_iload_n C dX7_plain_39 rfl ?_
            refine j_aload_n C dX7_plain_40 rfl ?_
            refine j_iconst (v := (0 : Int32)) C dX7_plain_41 (by decide) ?_
            refine j_iload_n C dX7_plain_42 rfl ?_
            refine j_iload_n C dX7_plain_43 rfl ?_
            obtain ⟨g6, hv⟩ := hv
            refine k_callV C 6 [vi (0 : Int32), vi x2, vi x3] mv_X7_143 rfl rfl (fun l D dA sz hl => s_X7_make (by omega) hv l D dA sz hl) rfl rfl (by decide) g6 rfl (by omega) (Nat.le_of_ble_eq_true rfl) (hlim _ _ (by omega) (by omega)) dX7_plain_44 (fun _ _ q => False.elim q) (fun v h4 hq => ?_)
            obtain ⟨v5, rfl, hv⟩ := qi_inv hq
            obtain ⟨g9, hv⟩ := hv
            refine k_callV C 6 [vi x1, vi v5] mv_X7_147 rfl rfl (fun l D dA sz hl => s_X7_made (by omega) hv l D dA sz hl) rfl rfl (by decide) g9 rfl (by omega) (Nat.le_of_ble_eq_true rfl) (hlim _ _ (by omega) (by omega)) dX7_plain_47 (fun _ _ q => False.elim q) (fun v h7 hq => ?_)
            obtain ⟨v8, rfl, hv⟩ := qi_inv hq
            exact j_iret C dX7_plain_50 (hlim _ _ (by omega) (by omega)) hv
          · have hv := hv.2 q10
            exact j_sub (by exact (And.intro rfl trivial)) hv
def vc_X7_row (t : Nat) (x1 : Int32) (x2 : Int32) (x3 : Int32) (h : Hp) (Q : Option AV ⊕ String → Hp → Prop) : Prop :=
    ∀ (P24 : Hp → Prop) (P52 : Int32 → Int32 → Option Nat → Hp → Prop),
    (∀  (h : Hp), (tg h t = 7 ∧ vc_X7_bad t h (qi (fun v15 h14 => Q (.inl (some (vi v15))) h14) qn)) → P24 h) →
    (∀ (w0 : Int32) (w1 : Int32) (v2 : Option Nat) (h : Hp), (∃ a17 : Nat, v2 = some a17 ∧ tg h a17 = 7 ∧ vc_X7_made a17 w1 w0 h (qi (fun v20 h19 => Q (.inl (some (vi v20))) h19) qn)) → P52 w0 w1 v2 h) →
    tg h t = 7 ∧ vc_X7_none t x1 (pI h 40 t (0 : Int32)) (qi (fun v3 h2 => ((¬ v3 = 0 → P24 h2) ∧ (v3 = 0 → ((x2 < 0 → P24 h2) ∧ (¬ x2 < 0 → ((x2 ≤ (3000 : Int32) → ((x3 = 0 → tg h2 t = 7 ∧ vc_X7_make t (2 : Int32) (0 : Int32) x2 h2 (qi (fun v5 h4 => P52 v5 x1 (some t) h4) qn)) ∧ (¬ x3 = 0 → tg h2 t = 7 ∧ vc_X7_make t (1 : Int32) x2 (0 : Int32) h2 (qi (fun v8 h7 => P52 v8 x1 (some t) h7) qn)))) ∧ (¬ x2 ≤ (3000 : Int32) → P24 h2))))))) qn)
set_option maxRecDepth 20000 in
theorem s_X7_row {t : Nat} {x1 : Int32} {x2 : Int32} {x3 : Int32} {h : Hp} {Q : Option AV ⊕ String → Hp → Prop} {lv : Nat} (hlv : lv + 4 ≤ 12) (hv : vc_X7_row t x1 x2 x3 h Q) (l : Launch) (D : va_G) (dA : Nat → ClassId) (sz : Nat) (hst : l.stackTraces = false) : Ctr l D dA sz (Cond.code yX7_row cX7_row 4 (some .int)) yX7_row lv [vr (some t), vi x1, vi x2, vi x3] h 0 0 Q := by
  refine Ctr.of (lo := [some (vr (some t)), some (vi x1), some (vi x2), some (vi x3)]) hst (by decide) (by simp [ena, isL]) rfl ?_
  intro G hg hlim C
  unfold vc_X7_row at hv
  have hv := hv (fun  h => J G Q 24 [some (vr (some t)), none, none, none] [] h 0 0) (fun w0 w1 v2 h => J G Q 52 [none, none, none, none] [vi w0, vi w1, vr v2] h 0 0)
  have hv := hv (by
      intro  h hv
      refine j_aload_n C dX7_row_24 rfl ?_
      obtain ⟨g16, hv⟩ := hv
      refine k_callV C 6 [] mv_X7_139 rfl rfl (fun l D dA sz hl => s_X7_bad (by omega) hv l D dA sz hl) rfl rfl (by decide) g16 rfl (by omega) (Nat.le_of_ble_eq_true rfl) (hlim _ _ (by omega) (by omega)) dX7_row_25 (fun _ _ q => False.elim q) (fun v h14 hq => ?_)
      obtain ⟨v15, rfl, hv⟩ := qi_inv hq
      exact j_iret C dX7_row_28 (hlim _ _ (by omega) (by omega)) hv)
  have hv := hv (by
      intro w0 w1 v2 h hv
      obtain ⟨a17, e18, hv⟩ := hv
      obtain ⟨g21, hv⟩ := hv
      refine k_callV C 6 [vi w1, vi w0] mv_X7_147 e18 rfl (fun l D dA sz hl => s_X7_made (by omega) hv l D dA sz hl) rfl rfl (by decide) g21 rfl (by omega) (Nat.le_of_ble_eq_true rfl) (hlim _ _ (by omega) (by omega)) dX7_row_52 (fun _ _ q => False.elim q) (fun v h19 hq => ?_)
      obtain ⟨v20, rfl, hv⟩ := qi_inv hq
      exact j_iret C dX7_row_55 (hlim _ _ (by omega) (by omega)) hv)
  refine j_aload_n C dX7_row_0 rfl ?_
  refine j_iconst (v := (0 : Int32)) C dX7_row_1 (by decide) ?_
  obtain ⟨g1, hv⟩ := hv
  refine pf_X7_1 C rfl g1 dX7_row_2 ?_
  refine j_aload_n C dX7_row_5 rfl ?_
  refine j_iload_n C dX7_row_6 rfl ?_
  refine k_callV C 6 [vi x1] mv_X7_136 rfl rfl (fun l D dA sz hl => s_X7_none (by omega) hv l D dA sz hl) rfl rfl (by decide) g1 rfl (by omega) (Nat.le_of_ble_eq_true rfl) (hlim _ _ (by omega) (by omega)) dX7_row_7 (fun _ _ q => False.elim q) (fun v h2 hq => ?_)
  obtain ⟨v3, rfl, hv⟩ := qi_inv hq
  refine j_if_ne (tgt := 24) C dX7_row_10 (by decide) ⟨fun q13 => ?_, fun q13 => ?_⟩
  · have hv := hv.1 q13
    exact j_sub (by exact (And.intro rfl trivial)) hv
  · have hv := hv.2 q13
    refine j_iload_n C dX7_row_13 rfl ?_
    refine j_if_lt (tgt := 24) C dX7_row_14 (by decide) ⟨fun q12 => ?_, fun q12 => ?_⟩
    · have hv := hv.1 q12
      exact j_sub (by exact (And.intro rfl trivial)) hv
    · have hv := hv.2 q12
      refine j_iload_n C dX7_row_17 rfl ?_
      refine j_sipush (v := (3000 : Int32)) C dX7_row_18 (by decide) ?_
      refine j_icmp_le (tgt := 29) C dX7_row_21 (by decide) ⟨fun q11 => ?_, fun q11 => ?_⟩
      · have hv := hv.1 q11
        refine j_aload_n C dX7_row_29 rfl ?_
        refine j_iload_n C dX7_row_30 rfl ?_
        refine j_iload_n C dX7_row_31 rfl ?_
        refine j_if_eq (tgt := 45) C dX7_row_32 (by decide) ⟨fun q10 => ?_, fun q10 => ?_⟩
        · have hv := hv.1 q10
          refine j_aload_n C dX7_row_45 rfl ?_
          refine j_iconst (v := (2 : Int32)) C dX7_row_46 (by decide) ?_
          refine j_iconst (v := (0 : Int32)) C dX7_row_47 (by decide) ?_
          refine j_iload_n C dX7_row_48 rfl ?_
          obtain ⟨g6, hv⟩ := hv
          refine k_callV C 6 [vi (2 : Int32), vi (0 : Int32), vi x2] mv_X7_143 rfl rfl (fun l D dA sz hl => s_X7_make (by omega) hv l D dA sz hl) rfl rfl (by decide) g6 rfl (by omega) (Nat.le_of_ble_eq_true rfl) (hlim _ _ (by omega) (by omega)) dX7_row_49 (fun _ _ q => False.elim q) (fun v h4 hq => ?_)
          obtain ⟨v5, rfl, hv⟩ := qi_inv hq
          exact j_sub (by exact trivial) hv
        · have hv := hv.2 q10
          refine j_aload_n C dX7_row_35 rfl ?_
          refine j_iconst (v := (1 : Int32)) C dX7_row_36 (by decide) ?_
          refine j_iload_n C dX7_row_37 rfl ?_
          refine j_iconst (v := (0 : Int32)) C dX7_row_38 (by decide) ?_
          obtain ⟨g9, hv⟩ := hv
          refine k_callV C 6 [vi (1 : Int32), vi x2, vi (0 : Int32)] mv_X7_143 rfl rfl (fun l D dA sz hl => s_X7_make (by omega) hv l D dA sz hl) rfl rfl (by decide) g9 rfl (by omega) (Nat.le_of_ble_eq_true rfl) (hlim _ _ (by omega) (by omega)) dX7_row_39 (fun _ _ q => False.elim q) (fun v h7 hq => ?_)
          obtain ⟨v8, rfl, hv⟩ := qi_inv hq
          refine j_goto (tgt := 52) C dX7_row_42 (by decide) ?_
          exact j_sub (by exact trivial) hv
      · have hv := hv.2 q11
        exact j_sub (by exact (And.intro rfl trivial)) hv
def vc_X7_queue (t : Nat) (x1 : Int32) (h : Hp) (Q : Option AV ⊕ String → Hp → Prop) : Prop :=
    ∀ (P37 : Int32 → Hp → Prop),
    (∀ (y2 : Int32) (h : Hp), (tg h t = 7 ∧ vc_X7_made t x1 y2 h (qi (fun v18 h17 => Q (.inl (some (vi v18))) h17) qn)) → P37 y2 h) →
    tg h t = 7 ∧ vc_X7_none t x1 (pI h 40 t (0 : Int32)) (qi (fun v3 h2 => ((v3 = 0 → tg h2 t = 7 ∧ vc_X7_make t (3 : Int32) (0 : Int32) (0 : Int32) h2 (qi (fun v5 h4 => ((v5 = 0 → P37 v5 h4) ∧ (¬ v5 = 0 → tg h4 t = 7 ∧ ∃ a8 : Nat, fR h4 51 t = some a8 ∧ tg h4 a8 = 8 ∧ vp_in v5 (ln h4 a8) ∧ P37 v5 (qI h4 a8 v5.toNatClampNeg (0 : Int32))))) qn)) ∧ (¬ v3 = 0 → tg h2 t = 7 ∧ vc_X7_bad t h2 (qi (fun v14 h13 => Q (.inl (some (vi v14))) h13) qn)))) qn)
set_option maxRecDepth 20000 in
theorem s_X7_queue {t : Nat} {x1 : Int32} {h : Hp} {Q : Option AV ⊕ String → Hp → Prop} {lv : Nat} (hlv : lv + 4 ≤ 12) (hv : vc_X7_queue t x1 h Q) (l : Launch) (D : va_G) (dA : Nat → ClassId) (sz : Nat) (hst : l.stackTraces = false) : Ctr l D dA sz (Cond.code yX7_queue cX7_queue 3 (some .int)) yX7_queue lv [vr (some t), vi x1] h 0 0 Q := by
  refine Ctr.of (lo := [some (vr (some t)), some (vi x1), none]) hst (by decide) (by simp [ena, isL]) rfl ?_
  intro G hg hlim C
  unfold vc_X7_queue at hv
  have hv := hv (fun y2 h => J G Q 37 [some (vr (some t)), some (vi x1), some (vi y2)] [] h 0 0)
  have hv := hv (by
      intro y2 h hv
      refine j_aload_n C dX7_queue_37 rfl ?_
      refine j_iload_n C dX7_queue_38 rfl ?_
      refine j_iload_n C dX7_queue_39 rfl ?_
      obtain ⟨g19, hv⟩ := hv
      refine k_callV C 6 [vi x1, vi y2] mv_X7_147 rfl rfl (fun l D dA sz hl => s_X7_made (by omega) hv l D dA sz hl) rfl rfl (by decide) g19 rfl (by omega) (Nat.le_of_ble_eq_true rfl) (hlim _ _ (by omega) (by omega)) dX7_queue_40 (fun _ _ q => False.elim q) (fun v h17 hq => ?_)
      obtain ⟨v18, rfl, hv⟩ := qi_inv hq
      exact j_iret C dX7_queue_43 (hlim _ _ (by omega) (by omega)) hv)
  refine j_aload_n C dX7_queue_0 rfl ?_
  refine j_iconst (v := (0 : Int32)) C dX7_queue_1 (by decide) ?_
  obtain ⟨g1, hv⟩ := hv
  refine pf_X7_1 C rfl g1 dX7_queue_2 ?_
  refine j_aload_n C dX7_queue_5 rfl ?_
  refine j_iload_n C dX7_queue_6 rfl ?_
  refine k_callV C 6 [vi x1] mv_X7_136 rfl rfl (fun l D dA sz hl => s_X7_none (by omega) hv l D dA sz hl) rfl rfl (by decide) g1 rfl (by omega) (Nat.le_of_ble_eq_true rfl) (hlim _ _ (by omega) (by omega)) dX7_queue_7 (fun _ _ q => False.elim q) (fun v h2 hq => ?_)
  obtain ⟨v3, rfl, hv⟩ := qi_inv hq
  refine j_if_eq (tgt := 18) C dX7_queue_10 (by decide) ⟨fun q16 => ?_, fun q16 => ?_⟩
  · have hv := hv.1 q16
    refine j_aload_n C dX7_queue_18 rfl ?_
    refine j_iconst (v := (3 : Int32)) C dX7_queue_19 (by decide) ?_
    refine j_iconst (v := (0 : Int32)) C dX7_queue_20 (by decide) ?_
    refine j_iconst (v := (0 : Int32)) C dX7_queue_21 (by decide) ?_
    obtain ⟨g6, hv⟩ := hv
    refine k_callV C 6 [vi (3 : Int32), vi (0 : Int32), vi (0 : Int32)] mv_X7_143 rfl rfl (fun l D dA sz hl => s_X7_make (by omega) hv l D dA sz hl) rfl rfl (by decide) g6 rfl (by omega) (Nat.le_of_ble_eq_true rfl) (hlim _ _ (by omega) (by omega)) dX7_queue_22 (fun _ _ q => False.elim q) (fun v h4 hq => ?_)
    obtain ⟨v5, rfl, hv⟩ := qi_inv hq
    refine j_istore_n (lo' := [some (vr (some t)), some (vi x1), some (vi v5)]) C dX7_queue_25 (Nat.le_of_ble_eq_true rfl) rfl ?_
    refine j_iload_n C dX7_queue_26 rfl ?_
    refine j_if_eq (tgt := 37) C dX7_queue_27 (by decide) ⟨fun q12 => ?_, fun q12 => ?_⟩
    · have hv := hv.1 q12
      exact j_sub (by exact (And.intro rfl (And.intro rfl (And.intro rfl trivial)))) hv
    · have hv := hv.2 q12
      refine j_aload_n C dX7_queue_30 rfl ?_
      obtain ⟨g7, hv⟩ := hv
      refine gf_X7_41 C rfl g7 dX7_queue_31 ?_
      refine j_iload_n C dX7_queue_34 rfl ?_
      refine j_iconst (v := (0 : Int32)) C dX7_queue_35 (by decide) ?_
      obtain ⟨a8, e9, hv⟩ := hv
      obtain ⟨g10, hv⟩ := hv
      obtain ⟨b11, hv⟩ := hv
      refine k_iast (j := v5.toNatClampNeg) C e9 g10 b11 rfl dX7_queue_36 ?_
      exact j_sub (by exact (And.intro rfl (And.intro rfl (And.intro rfl trivial)))) hv
  · have hv := hv.2 q16
    refine j_aload_n C dX7_queue_13 rfl ?_
    obtain ⟨g15, hv⟩ := hv
    refine k_callV C 6 [] mv_X7_139 rfl rfl (fun l D dA sz hl => s_X7_bad (by omega) hv l D dA sz hl) rfl rfl (by decide) g15 rfl (by omega) (Nat.le_of_ble_eq_true rfl) (hlim _ _ (by omega) (by omega)) dX7_queue_14 (fun _ _ q => False.elim q) (fun v h13 hq => ?_)
    obtain ⟨v14, rfl, hv⟩ := qi_inv hq
    exact j_iret C dX7_queue_17 (hlim _ _ (by omega) (by omega)) hv
def vc_X7_loose (t : Nat) (x1 : Int32) (x2 : Int32) (x3 : Int32) (x4 : Int32) (h : Hp) (Q : Option AV ⊕ String → Hp → Prop) : Prop :=
    ∀ (P39 : Hp → Prop) (P68 : Hp → Prop) (P73 : Hp → Prop),
    (∀  (h : Hp), (tg h t = 7 ∧ vc_X7_bad t h (qi (fun v26 h25 => Q (.inl (some (vi v26))) h25) qn)) → P39 h) →
    (∀  (h : Hp), (tg h t = 7 ∧ vc_X7_wrong t h (qi (fun v29 h28 => Q (.inl (some (vi v29))) h28) qn)) → P68 h) →
    (∀  (h : Hp), (tg h t = 7 ∧ ∃ a32 : Nat, fR h 61 t = some a32 ∧ tg h a32 = 8 ∧ vp_in x3 (ln h a32) ∧ vc_X7_of t x4 h (qi (fun v37 h36 => tg h36 t = 7 ∧ vc_X7_makeLoose t x1 ((4 : Int32) + x2) (aI h a32 x3.toNatClampNeg) (0 : Int32) v37 h36 (qi (fun v39 h38 => Q (.inl (some (vi v39))) h38) qn)) qn)) → P73 h) →
    tg h t = 7 ∧ vc_X7_none t x1 (pI h 40 t (0 : Int32)) (qi (fun v3 h2 => ((¬ v3 = 0 → P39 h2) ∧ (v3 = 0 → ((x2 < 0 → P39 h2) ∧ (¬ x2 < 0 → (((2 : Int32) < x2 → P39 h2) ∧ (¬ (2 : Int32) < x2 → tg h2 t = 7 ∧ vc_X7_none t x3 h2 (qi (fun v5 h4 => ((¬ v5 = 0 → P39 h4) ∧ (v5 = 0 → tg h4 t = 7 ∧ vc_X7_noneOrNull t x4 h4 (qi (fun v8 h7 => ((v8 = 0 → tg h7 t = 7 ∧ ∃ a11 : Nat, fR h7 61 t = some a11 ∧ tg h7 a11 = 8 ∧ vp_in x3 (ln h7 a11) ∧ (((aI h7 a11 x3.toNatClampNeg) = 0 → P68 h7) ∧ (¬ (aI h7 a11 x3.toNatClampNeg) = 0 → ((x4 < 0 → P73 h7) ∧ (¬ x4 < 0 → vc_X7_is t x4 (3 : Int32) h7 (qi (fun v16 h15 => ((¬ v16 = 0 → P73 h15) ∧ (v16 = 0 → P68 h15))) qn)))))) ∧ (¬ v8 = 0 → P39 h7))) qn)))) qn)))))))) qn)
set_option maxRecDepth 20000 in
theorem s_X7_loose {t : Nat} {x1 : Int32} {x2 : Int32} {x3 : Int32} {x4 : Int32} {h : Hp} {Q : Option AV ⊕ String → Hp → Prop} {lv : Nat} (hlv : lv + 5 ≤ 12) (hv : vc_X7_loose t x1 x2 x3 x4 h Q) (l : Launch) (D : va_G) (dA : Nat → ClassId) (sz : Nat) (hst : l.stackTraces = false) : Ctr l D dA sz (Cond.code yX7_loose cX7_loose 5 (some .int)) yX7_loose lv [vr (some t), vi x1, vi x2, vi x3, vi x4] h 0 0 Q := by
  refine Ctr.of (lo := [some (vr (some t)), some (vi x1), some (vi x2), some (vi x3), some (vi x4)]) hst (by decide) (by simp [ena, isL]) rfl ?_
  intro G hg hlim C
  unfold vc_X7_loose at hv
  have hv := hv (fun  h => J G Q 39 [some (vr (some t)), none, none, none, none] [] h 0 0) (fun  h => J G Q 68 [some (vr (some t)), none, none, none, none] [] h 0 0) (fun  h => J G Q 73 [some (vr (some t)), some (vi x1), some (vi x2), some (vi x3), some (vi x4)] [] h 0 0)
  have hv := hv (by
      intro  h hv
      refine j_aload_n C dX7_loose_39 rfl ?_
      obtain ⟨g27, hv⟩ := hv
      refine k_callV C 6 [] mv_X7_139 rfl rfl (fun l D dA sz hl => s_X7_bad (by omega) hv l D dA sz hl) rfl rfl (by decide) g27 rfl (by omega) (Nat.le_of_ble_eq_true rfl) (hlim _ _ (by omega) (by omega)) dX7_loose_40 (fun _ _ q => False.elim q) (fun v h25 hq => ?_)
      obtain ⟨v26, rfl, hv⟩ := qi_inv hq
      exact j_iret C dX7_loose_43 (hlim _ _ (by omega) (by omega)) hv)
  have hv := hv (by
      intro  h hv
      refine j_aload_n C dX7_loose_68 rfl ?_
      obtain ⟨g30, hv⟩ := hv
      refine k_callV C 6 [] mv_X7_160 rfl rfl (fun l D dA sz hl => s_X7_wrong (by omega) hv l D dA sz hl) rfl rfl (by decide) g30 rfl (by omega) (Nat.le_of_ble_eq_true rfl) (hlim _ _ (by omega) (by omega)) dX7_loose_69 (fun _ _ q => False.elim q) (fun v h28 hq => ?_)
      obtain ⟨v29, rfl, hv⟩ := qi_inv hq
      exact j_iret C dX7_loose_72 (hlim _ _ (by omega) (by omega)) hv)
  have hv := hv (by
      intro  h hv
      refine j_aload_n C dX7_loose_73 rfl ?_
      refine j_iload_n C dX7_loose_74 rfl ?_
      refine j_iconst (v := (4 : Int32)) C dX7_loose_75 (by decide) ?_
      refine j_iload_n C dX7_loose_76 rfl ?_
      refine j_iadd C dX7_loose_77 ?_
      refine j_aload_n C dX7_loose_78 rfl ?_
      obtain ⟨g31, hv⟩ := hv
      refine gf_X7_64 C rfl g31 dX7_loose_79 ?_
      refine j_iload_n C dX7_loose_82 rfl ?_
      obtain ⟨a32, e33, hv⟩ := hv
      obtain ⟨g34, hv⟩ := hv
      obtain ⟨b35, hv⟩ := hv
      refine k_iald (j := x3.toNatClampNeg) C e33 g34 b35 rfl dX7_loose_83 ?_
      refine j_iconst (v := (0 : Int32)) C dX7_loose_84 (by decide) ?_
      refine j_aload_n C dX7_loose_85 rfl ?_
      refine j_iload C dX7_loose_86 rfl ?_
      refine k_callV C 6 [vi x4] mv_X7_163 rfl rfl (fun l D dA sz hl => s_X7_of (by omega) hv l D dA sz hl) rfl rfl (by decide) g31 rfl (by omega) (Nat.le_of_ble_eq_true rfl) (hlim _ _ (by omega) (by omega)) dX7_loose_88 (fun _ _ q => False.elim q) (fun v h36 hq => ?_)
      obtain ⟨v37, rfl, hv⟩ := qi_inv hq
      obtain ⟨g40, hv⟩ := hv
      refine k_callV C 6 [vi x1, vi ((4 : Int32) + x2), vi (aI h a32 x3.toNatClampNeg), vi (0 : Int32), vi v37] mv_X7_166 rfl rfl (fun l D dA sz hl => s_X7_makeLoose (by omega) hv l D dA sz hl) rfl rfl (by decide) g40 rfl (by omega) (Nat.le_of_ble_eq_true rfl) (hlim _ _ (by omega) (by omega)) dX7_loose_91 (fun _ _ q => False.elim q) (fun v h38 hq => ?_)
      obtain ⟨v39, rfl, hv⟩ := qi_inv hq
      exact j_iret C dX7_loose_94 (hlim _ _ (by omega) (by omega)) hv)
  refine j_aload_n C dX7_loose_0 rfl ?_
  refine j_iconst (v := (0 : Int32)) C dX7_loose_1 (by decide) ?_
  obtain ⟨g1, hv⟩ := hv
  refine pf_X7_1 C rfl g1 dX7_loose_2 ?_
  refine j_aload_n C dX7_loose_5 rfl ?_
  refine j_iload_n C dX7_loose_6 rfl ?_
  refine k_callV C 6 [vi x1] mv_X7_136 rfl rfl (fun l D dA sz hl => s_X7_none (by omega) hv l D dA sz hl) rfl rfl (by decide) g1 rfl (by omega) (Nat.le_of_ble_eq_true rfl) (hlim _ _ (by omega) (by omega)) dX7_loose_7 (fun _ _ q => False.elim q) (fun v h2 hq => ?_)
  obtain ⟨v3, rfl, hv⟩ := qi_inv hq
  refine j_if_ne (tgt := 39) C dX7_loose_10 (by decide) ⟨fun q24 => ?_, fun q24 => ?_⟩
  · have hv := hv.1 q24
    exact j_sub (by exact (And.intro rfl trivial)) hv
  · have hv := hv.2 q24
    refine j_iload_n C dX7_loose_13 rfl ?_
    refine j_if_lt (tgt := 39) C dX7_loose_14 (by decide) ⟨fun q23 => ?_, fun q23 => ?_⟩
    · have hv := hv.1 q23
      exact j_sub (by exact (And.intro rfl trivial)) hv
    · have hv := hv.2 q23
      refine j_iload_n C dX7_loose_17 rfl ?_
      refine j_iconst (v := (2 : Int32)) C dX7_loose_18 (by decide) ?_
      refine j_icmp_gt (tgt := 39) C dX7_loose_19 (by decide) ⟨fun q22 => ?_, fun q22 => ?_⟩
      · have hv := hv.1 q22
        exact j_sub (by exact (And.intro rfl trivial)) hv
      · have hv := hv.2 q22
        refine j_aload_n C dX7_loose_22 rfl ?_
        refine j_iload_n C dX7_loose_23 rfl ?_
        obtain ⟨g6, hv⟩ := hv
        refine k_callV C 6 [vi x3] mv_X7_136 rfl rfl (fun l D dA sz hl => s_X7_none (by omega) hv l D dA sz hl) rfl rfl (by decide) g6 rfl (by omega) (Nat.le_of_ble_eq_true rfl) (hlim _ _ (by omega) (by omega)) dX7_loose_24 (fun _ _ q => False.elim q) (fun v h4 hq => ?_)
        obtain ⟨v5, rfl, hv⟩ := qi_inv hq
        refine j_if_ne (tgt := 39) C dX7_loose_27 (by decide) ⟨fun q21 => ?_, fun q21 => ?_⟩
        · have hv := hv.1 q21
          exact j_sub (by exact (And.intro rfl trivial)) hv
        · have hv := hv.2 q21
          refine j_aload_n C dX7_loose_30 rfl ?_
          refine j_iload C dX7_loose_31 rfl ?_
          obtain ⟨g9, hv⟩ := hv
          refine k_callV C 6 [vi x4] mv_X7_153 rfl rfl (fun l D dA sz hl => s_X7_noneOrNull (by omega) hv l D dA sz hl) rfl rfl (by decide) g9 rfl (by omega) (Nat.le_of_ble_eq_true rfl) (hlim _ _ (by omega) (by omega)) dX7_loose_33 (fun _ _ q => False.elim q) (fun v h7 hq => ?_)
          obtain ⟨v8, rfl, hv⟩ := qi_inv hq
          refine j_if_eq (tgt := 44) C dX7_loose_36 (by decide) ⟨fun q20 => ?_, fun q20 => ?_⟩
          · have hv := hv.1 q20
            refine j_aload_n C dX7_loose_44 rfl ?_
            obtain ⟨g10, hv⟩ := hv
            refine gf_X7_64 C rfl g10 dX7_loose_45 ?_
            refine j_iload_n C dX7_loose_48 rfl ?_
            obtain ⟨a11, e12, hv⟩ := hv
            obtain ⟨g13, hv⟩ := hv
            obtain ⟨b14, hv⟩ := hv
            refine k_iald (j := x3.toNatClampNeg) C e12 g13 b14 rfl dX7_loose_49 ?_
            refine j_if_eq (tgt := 68) C dX7_loose_50 (by decide) ⟨fun q19 => ?_, fun q19 => ?_⟩
            · have hv := hv.1 q19
              exact j_sub (by exact (And.intro rfl trivial)) hv
            · have hv := hv.2 q19
              refine j_iload C dX7_loose_53 rfl ?_
              refine j_if_lt (tgt := 73) C dX7_loose_55 (by decide) ⟨fun q18 => ?_, fun q18 => ?_⟩
              · have hv := hv.1 q18
                exact j_sub (by exact (And.intro rfl (And.intro rfl (And.intro rfl (And.intro rfl (And.intro rfl trivial)))))) hv
              · have hv := hv.2 q18
                refine j_aload_n C dX7_loose_58 rfl ?_
                refine j_iload C dX7_loose_59 rfl ?_
                refine j_iconst (v := (3 : Int32)) C dX7_loose_61 (by decide) ?_
                refine k_callV C 6 [vi x4, vi (3 : Int32)] mv_X7_156 rfl rfl (fun l D dA sz hl => s_X7_is (by omega) hv l D dA sz hl) rfl rfl (by decide) g10 rfl (by omega) (Nat.le_of_ble_eq_true rfl) (hlim _ _ (by omega) (by omega)) dX7_loose_62 (fun _ _ q => False.elim q) (fun v h15 hq => ?_)
                obtain ⟨v16, rfl, hv⟩ := qi_inv hq
                refine j_if_ne (tgt := 73) C dX7_loose_65 (by decide) ⟨fun q17 => ?_, fun q17 => ?_⟩
                · have hv := hv.1 q17
                  exact j_sub (by exact (And.intro rfl (And.intro rfl (And.intro rfl (And.intro rfl (And.intro rfl trivial)))))) hv
                · have hv := hv.2 q17
                  exact j_sub (by exact (And.intro rfl trivial)) hv
          · have hv := hv.2 q20
            exact j_sub (by exact (And.intro rfl trivial)) hv
def vc_X7_pair (t : Nat) (x1 : Int32) (x2 : Int32) (x3 : Int32) (x4 : Int32) (h : Hp) (Q : Option AV ⊕ String → Hp → Prop) : Prop :=
    ∀ (P38 : Hp → Prop) (P67 : Hp → Prop) (P72 : Hp → Prop),
    (∀  (h : Hp), (tg h t = 7 ∧ vc_X7_bad t h (qi (fun v28 h27 => Q (.inl (some (vi v28))) h27) qn)) → P38 h) →
    (∀  (h : Hp), (tg h t = 7 ∧ vc_X7_wrong t h (qi (fun v31 h30 => Q (.inl (some (vi v31))) h30) qn)) → P67 h) →
    (∀  (h : Hp), (tg h t = 7 ∧ ∃ a34 : Nat, fR h 61 t = some a34 ∧ tg h a34 = 8 ∧ vp_in x2 (ln h a34) ∧ vc_X7_of t x3 h (qi (fun v39 h38 => tg h38 t = 7 ∧ vc_X7_of t x4 h38 (qi (fun v41 h40 => tg h40 t = 7 ∧ vc_X7_makeLoose t x1 (7 : Int32) (aI h a34 x2.toNatClampNeg) v39 v41 h40 (qi (fun v44 h43 => Q (.inl (some (vi v44))) h43) qn)) qn)) qn)) → P72 h) →
    tg h t = 7 ∧ vc_X7_none t x1 (pI h 40 t (0 : Int32)) (qi (fun v3 h2 => ((¬ v3 = 0 → P38 h2) ∧ (v3 = 0 → tg h2 t = 7 ∧ vc_X7_none t x2 h2 (qi (fun v5 h4 => ((¬ v5 = 0 → P38 h4) ∧ (v5 = 0 → tg h4 t = 7 ∧ vc_X7_noneOrNull t x3 h4 (qi (fun v8 h7 => ((¬ v8 = 0 → P38 h7) ∧ (v8 = 0 → tg h7 t = 7 ∧ vc_X7_noneOrNull t x4 h7 (qi (fun v11 h10 => ((v11 = 0 → tg h10 t = 7 ∧ ∃ a14 : Nat, fR h10 61 t = some a14 ∧ tg h10 a14 = 8 ∧ vp_in x2 (ln h10 a14) ∧ (((aI h10 a14 x2.toNatClampNeg) = 0 → P67 h10) ∧ (¬ (aI h10 a14 x2.toNatClampNeg) = 0 → ((x4 < 0 → P72 h10) ∧ (¬ x4 < 0 → vc_X7_is t x4 (3 : Int32) h10 (qi (fun v19 h18 => ((¬ v19 = 0 → P72 h18) ∧ (v19 = 0 → P67 h18))) qn)))))) ∧ (¬ v11 = 0 → P38 h10))) qn)))) qn)))) qn)))) qn)
set_option maxRecDepth 20000 in
theorem s_X7_pair {t : Nat} {x1 : Int32} {x2 : Int32} {x3 : Int32} {x4 : Int32} {h : Hp} {Q : Option AV ⊕ String → Hp → Prop} {lv : Nat} (hlv : lv + 5 ≤ 12) (hv : vc_X7_pair t x1 x2 x3 x4 h Q) (l : Launch) (D : va_G) (dA : Nat → ClassId) (sz : Nat) (hst : l.stackTraces = false) : Ctr l D dA sz (Cond.code yX7_pair cX7_pair 5 (some .int)) yX7_pair lv [vr (some t), vi x1, vi x2, vi x3, vi x4] h 0 0 Q := by
  refine Ctr.of (lo := [some (vr (some t)), some (vi x1), some (vi x2), some (vi x3), some (vi x4)]) hst (by decide) (by simp [ena, isL]) rfl ?_
  intro G hg hlim C
  unfold vc_X7_pair at hv
  have hv := hv (fun  h => J G Q 38 [some (vr (some t)), none, none, none, none] [] h 0 0) (fun  h => J G Q 67 [some (vr (some t)), none, none, none, none] [] h 0 0) (fun  h => J G Q 72 [some (vr (some t)), some (vi x1), some (vi x2), some (vi x3), some (vi x4)] [] h 0 0)
  have hv := hv (by
      intro  h hv
      refine j_aload_n C dX7_pair_38 rfl ?_
      obtain ⟨g29, hv⟩ := hv
      refine k_callV C 6 [] mv_X7_139 rfl rfl (fun l D dA sz hl => s_X7_bad (by omega) hv l D dA sz hl) rfl rfl (by decide) g29 rfl (by omega) (Nat.le_of_ble_eq_true rfl) (hlim _ _ (by omega) (by omega)) dX7_pair_39 (fun _ _ q => False.elim q) (fun v h27 hq => ?_)
      obtain ⟨v28, rfl, hv⟩ := qi_inv hq
      exact j_iret C dX7_pair_42 (hlim _ _ (by omega) (by omega)) hv)
  have hv := hv (by
      intro  h hv
      refine j_aload_n C dX7_pair_67 rfl ?_
      obtain ⟨g32, hv⟩ := hv
      refine k_callV C 6 [] mv_X7_160 rfl rfl (fun l D dA sz hl => s_X7_wrong (by omega) hv l D dA sz hl) rfl rfl (by decide) g32 rfl (by omega) (Nat.le_of_ble_eq_true rfl) (hlim _ _ (by omega) (by omega)) dX7_pair_68 (fun _ _ q => False.elim q) (fun v h30 hq => ?_)
      obtain ⟨v31, rfl, hv⟩ := qi_inv hq
      exact j_iret C dX7_pair_71 (hlim _ _ (by omega) (by omega)) hv)
  have hv := hv (by
      intro  h hv
      refine j_aload_n C dX7_pair_72 rfl ?_
      refine j_iload_n C dX7_pair_73 rfl ?_
      refine j_bipush (v := (7 : Int32)) C dX7_pair_74 (by decide) ?_
      refine j_aload_n C dX7_pair_76 rfl ?_
      obtain ⟨g33, hv⟩ := hv
      refine gf_X7_64 C rfl g33 dX7_pair_77 ?_
      refine j_iload_n C dX7_pair_80 rfl ?_
      obtain ⟨a34, e35, hv⟩ := hv
      obtain ⟨g36, hv⟩ := hv
      obtain ⟨b37, hv⟩ := hv
      refine k_iald (j := x2.toNatClampNeg) C e35 g36 b37 rfl dX7_pair_81 ?_
      refine j_aload_n C dX7_pair_82 rfl ?_
      refine j_iload_n C dX7_pair_83 rfl ?_
      refine k_callV C 6 [vi x3] mv_X7_163 rfl rfl (fun l D dA sz hl => s_X7_of (by omega) hv l D dA sz hl) rfl rfl (by decide) g33 rfl (by omega) (Nat.le_of_ble_eq_true rfl) (hlim _ _ (by omega) (by omega)) dX7_pair_84 (fun _ _ q => False.elim q) (fun v h38 hq => ?_)
      obtain ⟨v39, rfl, hv⟩ := qi_inv hq
      refine j_aload_n C dX7_pair_87 rfl ?_
      refine j_iload C dX7_pair_88 rfl ?_
      obtain ⟨g42, hv⟩ := hv
      refine k_callV C 6 [vi x4] mv_X7_163 rfl rfl (fun l D dA sz hl => s_X7_of (by omega) hv l D dA sz hl) rfl rfl (by decide) g42 rfl (by omega) (Nat.le_of_ble_eq_true rfl) (hlim _ _ (by omega) (by omega)) dX7_pair_90 (fun _ _ q => False.elim q) (fun v h40 hq => ?_)
      obtain ⟨v41, rfl, hv⟩ := qi_inv hq
      obtain ⟨g45, hv⟩ := hv
      refine k_callV C 6 [vi x1, vi (7 : Int32), vi (aI h a34 x2.toNatClampNeg), vi v39, vi v41] mv_X7_166 rfl rfl (fun l D dA sz hl => s_X7_makeLoose (by omega) hv l D dA sz hl) rfl rfl (by decide) g45 rfl (by omega) (Nat.le_of_ble_eq_true rfl) (hlim _ _ (by omega) (by omega)) dX7_pair_93 (fun _ _ q => False.elim q) (fun v h43 hq => ?_)
      obtain ⟨v44, rfl, hv⟩ := qi_inv hq
      exact j_iret C dX7_pair_96 (hlim _ _ (by omega) (by omega)) hv)
  refine j_aload_n C dX7_pair_0 rfl ?_
  refine j_iconst (v := (0 : Int32)) C dX7_pair_1 (by decide) ?_
  obtain ⟨g1, hv⟩ := hv
  refine pf_X7_1 C rfl g1 dX7_pair_2 ?_
  refine j_aload_n C dX7_pair_5 rfl ?_
  refine j_iload_n C dX7_pair_6 rfl ?_
  refine k_callV C 6 [vi x1] mv_X7_136 rfl rfl (fun l D dA sz hl => s_X7_none (by omega) hv l D dA sz hl) rfl rfl (by decide) g1 rfl (by omega) (Nat.le_of_ble_eq_true rfl) (hlim _ _ (by omega) (by omega)) dX7_pair_7 (fun _ _ q => False.elim q) (fun v h2 hq => ?_)
  obtain ⟨v3, rfl, hv⟩ := qi_inv hq
  refine j_if_ne (tgt := 38) C dX7_pair_10 (by decide) ⟨fun q26 => ?_, fun q26 => ?_⟩
  · have hv := hv.1 q26
    exact j_sub (by exact (And.intro rfl trivial)) hv
  · have hv := hv.2 q26
    refine j_aload_n C dX7_pair_13 rfl ?_
    refine j_iload_n C dX7_pair_14 rfl ?_
    obtain ⟨g6, hv⟩ := hv
    refine k_callV C 6 [vi x2] mv_X7_136 rfl rfl (fun l D dA sz hl => s_X7_none (by omega) hv l D dA sz hl) rfl rfl (by decide) g6 rfl (by omega) (Nat.le_of_ble_eq_true rfl) (hlim _ _ (by omega) (by omega)) dX7_pair_15 (fun _ _ q => False.elim q) (fun v h4 hq => ?_)
    obtain ⟨v5, rfl, hv⟩ := qi_inv hq
    refine j_if_ne (tgt := 38) C dX7_pair_18 (by decide) ⟨fun q25 => ?_, fun q25 => ?_⟩
    · have hv := hv.1 q25
      exact j_sub (by exact (And.intro rfl trivial)) hv
    · have hv := hv.2 q25
      refine j_aload_n C dX7_pair_21 rfl ?_
      refine j_iload_n C dX7_pair_22 rfl ?_
      obtain ⟨g9, hv⟩ := hv
      refine k_callV C 6 [vi x3] mv_X7_153 rfl rfl (fun l D dA sz hl => s_X7_noneOrNull (by omega) hv l D dA sz hl) rfl rfl (by decide) g9 rfl (by omega) (Nat.le_of_ble_eq_true rfl) (hlim _ _ (by omega) (by omega)) dX7_pair_23 (fun _ _ q => False.elim q) (fun v h7 hq => ?_)
      obtain ⟨v8, rfl, hv⟩ := qi_inv hq
      refine j_if_ne (tgt := 38) C dX7_pair_26 (by decide) ⟨fun q24 => ?_, fun q24 => ?_⟩
      · have hv := hv.1 q24
        exact j_sub (by exact (And.intro rfl trivial)) hv
      · have hv := hv.2 q24
        refine j_aload_n C dX7_pair_29 rfl ?_
        refine j_iload C dX7_pair_30 rfl ?_
        obtain ⟨g12, hv⟩ := hv
        refine k_callV C 6 [vi x4] mv_X7_153 rfl rfl (fun l D dA sz hl => s_X7_noneOrNull (by omega) hv l D dA sz hl) rfl rfl (by decide) g12 rfl (by omega) (Nat.le_of_ble_eq_true rfl) (hlim _ _ (by omega) (by omega)) dX7_pair_32 (fun _ _ q => False.elim q) (fun v h10 hq => ?_)
        obtain ⟨v11, rfl, hv⟩ := qi_inv hq
        refine j_if_eq (tgt := 43) C dX7_pair_35 (by decide) ⟨fun q23 => ?_, fun q23 => ?_⟩
        · have hv := hv.1 q23
          refine j_aload_n C dX7_pair_43 rfl ?_
          obtain ⟨g13, hv⟩ := hv
          refine gf_X7_64 C rfl g13 dX7_pair_44 ?_
          refine j_iload_n C dX7_pair_47 rfl ?_
          obtain ⟨a14, e15, hv⟩ := hv
          obtain ⟨g16, hv⟩ := hv
          obtain ⟨b17, hv⟩ := hv
          refine k_iald (j := x2.toNatClampNeg) C e15 g16 b17 rfl dX7_pair_48 ?_
          refine j_if_eq (tgt := 67) C dX7_pair_49 (by decide) ⟨fun q22 => ?_, fun q22 => ?_⟩
          · have hv := hv.1 q22
            exact j_sub (by exact (And.intro rfl trivial)) hv
          · have hv := hv.2 q22
            refine j_iload C dX7_pair_52 rfl ?_
            refine j_if_lt (tgt := 72) C dX7_pair_54 (by decide) ⟨fun q21 => ?_, fun q21 => ?_⟩
            · have hv := hv.1 q21
              exact j_sub (by exact (And.intro rfl (And.intro rfl (And.intro rfl (And.intro rfl (And.intro rfl trivial)))))) hv
            · have hv := hv.2 q21
              refine j_aload_n C dX7_pair_57 rfl ?_
              refine j_iload C dX7_pair_58 rfl ?_
              refine j_iconst (v := (3 : Int32)) C dX7_pair_60 (by decide) ?_
              refine k_callV C 6 [vi x4, vi (3 : Int32)] mv_X7_156 rfl rfl (fun l D dA sz hl => s_X7_is (by omega) hv l D dA sz hl) rfl rfl (by decide) g13 rfl (by omega) (Nat.le_of_ble_eq_true rfl) (hlim _ _ (by omega) (by omega)) dX7_pair_61 (fun _ _ q => False.elim q) (fun v h18 hq => ?_)
              obtain ⟨v19, rfl, hv⟩ := qi_inv hq
              refine j_if_ne (tgt := 72) C dX7_pair_64 (by decide) ⟨fun q20 => ?_, fun q20 => ?_⟩
              · have hv := hv.1 q20
                exact j_sub (by exact (And.intro rfl (And.intro rfl (And.intro rfl (And.intro rfl (And.intro rfl trivial)))))) hv
              · have hv := hv.2 q20
                exact j_sub (by exact (And.intro rfl trivial)) hv
        · have hv := hv.2 q23
          exact j_sub (by exact (And.intro rfl trivial)) hv
def vc_X7_copy (t : Nat) (x1 : Int32) (x2 : Int32) (h : Hp) (Q : Option AV ⊕ String → Hp → Prop) : Prop :=
    ∀ (P21 : Hp → Prop),
    (∀  (h : Hp), (tg h t = 7 ∧ vc_X7_bad t h (qi (fun v16 h15 => Q (.inl (some (vi v16))) h15) qn)) → P21 h) →
    tg h t = 7 ∧ vc_X7_none t x1 (pI h 40 t (0 : Int32)) (qi (fun v3 h2 => ((¬ v3 = 0 → P21 h2) ∧ (v3 = 0 → tg h2 t = 7 ∧ vc_X7_noneOrNull t x2 h2 (qi (fun v5 h4 => ((v5 = 0 → tg h4 t = 7 ∧ vc_X7_of t x2 h4 (qi (fun v8 h7 => tg h7 t = 7 ∧ vc_X7_comesTo t x1 v8 h7 (qi (fun v11 h10 => Q (.inl (some (vi v11))) h10) qn)) qn)) ∧ (¬ v5 = 0 → P21 h4))) qn)))) qn)
set_option maxRecDepth 20000 in
theorem s_X7_copy {t : Nat} {x1 : Int32} {x2 : Int32} {h : Hp} {Q : Option AV ⊕ String → Hp → Prop} {lv : Nat} (hlv : lv + 1 ≤ 12) (hv : vc_X7_copy t x1 x2 h Q) (l : Launch) (D : va_G) (dA : Nat → ClassId) (sz : Nat) (hst : l.stackTraces = false) : Ctr l D dA sz (Cond.code yX7_copy cX7_copy 3 (some .int)) yX7_copy lv [vr (some t), vi x1, vi x2] h 0 0 Q := by
  refine Ctr.of (lo := [some (vr (some t)), some (vi x1), some (vi x2)]) hst (by decide) (by simp [ena, isL]) rfl ?_
  intro G hg hlim C
  unfold vc_X7_copy at hv
  have hv := hv (fun  h => J G Q 21 [some (vr (some t)), none, none] [] h 0 0)
  have hv := hv (by
      intro  h hv
      refine j_aload_n C dX7_copy_21 rfl ?_
      obtain ⟨g17, hv⟩ := hv
      refine k_callV C 6 [] mv_X7_139 rfl rfl (fun l D dA sz hl => s_X7_bad (by omega) hv l D dA sz hl) rfl rfl (by decide) g17 rfl (by omega) (Nat.le_of_ble_eq_true rfl) (hlim _ _ (by omega) (by omega)) dX7_copy_22 (fun _ _ q => False.elim q) (fun v h15 hq => ?_)
      obtain ⟨v16, rfl, hv⟩ := qi_inv hq
      exact j_iret C dX7_copy_25 (hlim _ _ (by omega) (by omega)) hv)
  refine j_aload_n C dX7_copy_0 rfl ?_
  refine j_iconst (v := (0 : Int32)) C dX7_copy_1 (by decide) ?_
  obtain ⟨g1, hv⟩ := hv
  refine pf_X7_1 C rfl g1 dX7_copy_2 ?_
  refine j_aload_n C dX7_copy_5 rfl ?_
  refine j_iload_n C dX7_copy_6 rfl ?_
  refine k_callV C 6 [vi x1] mv_X7_136 rfl rfl (fun l D dA sz hl => s_X7_none (by omega) hv l D dA sz hl) rfl rfl (by decide) g1 rfl (by omega) (Nat.le_of_ble_eq_true rfl) (hlim _ _ (by omega) (by omega)) dX7_copy_7 (fun _ _ q => False.elim q) (fun v h2 hq => ?_)
  obtain ⟨v3, rfl, hv⟩ := qi_inv hq
  refine j_if_ne (tgt := 21) C dX7_copy_10 (by decide) ⟨fun q14 => ?_, fun q14 => ?_⟩
  · have hv := hv.1 q14
    exact j_sub (by exact (And.intro rfl trivial)) hv
  · have hv := hv.2 q14
    refine j_aload_n C dX7_copy_13 rfl ?_
    refine j_iload_n C dX7_copy_14 rfl ?_
    obtain ⟨g6, hv⟩ := hv
    refine k_callV C 6 [vi x2] mv_X7_153 rfl rfl (fun l D dA sz hl => s_X7_noneOrNull (by omega) hv l D dA sz hl) rfl rfl (by decide) g6 rfl (by omega) (Nat.le_of_ble_eq_true rfl) (hlim _ _ (by omega) (by omega)) dX7_copy_15 (fun _ _ q => False.elim q) (fun v h4 hq => ?_)
    obtain ⟨v5, rfl, hv⟩ := qi_inv hq
    refine j_if_eq (tgt := 26) C dX7_copy_18 (by decide) ⟨fun q13 => ?_, fun q13 => ?_⟩
    · have hv := hv.1 q13
      refine j_aload_n C dX7_copy_26 rfl ?_
      refine j_iload_n C dX7_copy_27 rfl ?_
      refine j_aload_n C dX7_copy_28 rfl ?_
      refine j_iload_n C dX7_copy_29 rfl ?_
      obtain ⟨g9, hv⟩ := hv
      refine k_callV C 6 [vi x2] mv_X7_163 rfl rfl (fun l D dA sz hl => s_X7_of (by omega) hv l D dA sz hl) rfl rfl (by decide) g9 rfl (by omega) (Nat.le_of_ble_eq_true rfl) (hlim _ _ (by omega) (by omega)) dX7_copy_30 (fun _ _ q => False.elim q) (fun v h7 hq => ?_)
      obtain ⟨v8, rfl, hv⟩ := qi_inv hq
      obtain ⟨g12, hv⟩ := hv
      refine k_callV C 6 [vi x1, vi v8] mv_X7_170 rfl rfl (fun l D dA sz hl => s_X7_comesTo (by omega) hv l D dA sz hl) rfl rfl (by decide) g12 rfl (by omega) (Nat.le_of_ble_eq_true rfl) (hlim _ _ (by omega) (by omega)) dX7_copy_33 (fun _ _ q => False.elim q) (fun v h10 hq => ?_)
      obtain ⟨v11, rfl, hv⟩ := qi_inv hq
      exact j_iret C dX7_copy_36 (hlim _ _ (by omega) (by omega)) hv
    · have hv := hv.2 q13
      exact j_sub (by exact (And.intro rfl trivial)) hv
def vc_X7_link (t : Nat) (x1 : Int32) (x2 : Int32) (x3 : Int32) (h : Hp) (Q : Option AV ⊕ String → Hp → Prop) : Prop :=
    ∀ (P25 : Hp → Prop) (P65 : Hp → Prop),
    (∀  (h : Hp), (tg h t = 7 ∧ vc_X7_bad t h (qi (fun v41 h40 => Q (.inl (some (vi v41))) h40) qn)) → P25 h) →
    (∀  (h : Hp), (tg h t = 7 ∧ vc_X7_wrong t h (qi (fun v44 h43 => Q (.inl (some (vi v44))) h43) qn)) → P65 h) →
    tg h t = 7 ∧ vc_X7_none t x1 (pI h 40 t (0 : Int32)) (qi (fun v3 h2 => ((¬ v3 = 0 → P25 h2) ∧ (v3 = 0 → ((x2 < 0 → P25 h2) ∧ (¬ x2 < 0 → tg h2 t = 7 ∧ vc_X7_noneOrNull t x3 h2 (qi (fun v5 h4 => ((v5 = 0 → tg h4 t = 7 ∧ ∃ a8 : Nat, fR h4 61 t = some a8 ∧ tg h4 a8 = 8 ∧ vp_in x1 (ln h4 a8) ∧ (((aI h4 a8 x1.toNatClampNeg) = 0 → P65 h4) ∧ (¬ (aI h4 a8 x1.toNatClampNeg) = 0 → ∃ a12 : Nat, fR h4 42 t = some a12 ∧ tg h4 a12 = 8 ∧ vp_in (aI h4 a8 x1.toNatClampNeg) (ln h4 a12) ∧ (((1 : Int32) < (aI h4 a12 ((aI h4 a8 x1.toNatClampNeg).toNatClampNeg)) → P65 h4) ∧ (¬ (1 : Int32) < (aI h4 a12 ((aI h4 a8 x1.toNatClampNeg).toNatClampNeg)) → ∃ a16 : Nat, fR h4 44 t = some a16 ∧ tg h4 a16 = 8 ∧ vp_in (aI h4 a8 x1.toNatClampNeg) (ln h4 a16) ∧ ((x2 < (aI h4 a16 ((aI h4 a8 x1.toNatClampNeg).toNatClampNeg)) → ∃ a20 : Nat, fR h4 43 t = some a20 ∧ tg h4 a20 = 8 ∧ vp_in (aI h4 a8 x1.toNatClampNeg) (ln h4 a20) ∧ vc_X7_of t x3 h4 (qi (fun v25 h24 => ∃ a26 : Nat, fR h4 56 t = some a26 ∧ tg h24 a26 = 9 ∧ vp_in ((aI h4 a20 ((aI h4 a8 x1.toNatClampNeg).toNatClampNeg)) + x2) (ln h24 a26) ∧ tg h24 t = 7 ∧ vc_X7_of t x3 (qL h24 a26 (((aI h4 a20 ((aI h4 a8 x1.toNatClampNeg).toNatClampNeg)) + x2).toNatClampNeg) v25.toInt64) (qi (fun v31 h30 => ((¬ v31 = 0 → Q (.inl (some (vi (1 : Int32)))) h30) ∧ (v31 = 0 → Q (.inl (some (vi (0 : Int32)))) h30))) qn)) qn)) ∧ (¬ x2 < (aI h4 a16 ((aI h4 a8 x1.toNatClampNeg).toNatClampNeg)) → P65 h4))))))) ∧ (¬ v5 = 0 → P25 h4))) qn)))))) qn)
set_option maxRecDepth 20000 in
theorem s_X7_link {t : Nat} {x1 : Int32} {x2 : Int32} {x3 : Int32} {h : Hp} {Q : Option AV ⊕ String → Hp → Prop} {lv : Nat} (hlv : lv + 1 ≤ 12) (hv : vc_X7_link t x1 x2 x3 h Q) (l : Launch) (D : va_G) (dA : Nat → ClassId) (sz : Nat) (hst : l.stackTraces = false) : Ctr l D dA sz (Cond.code yX7_link cX7_link 5 (some .int)) yX7_link lv [vr (some t), vi x1, vi x2, vi x3] h 0 0 Q := by
  refine Ctr.of (lo := [some (vr (some t)), some (vi x1), some (vi x2), some (vi x3), none]) hst (by decide) (by simp [ena, isL]) rfl ?_
  intro G hg hlim C
  unfold vc_X7_link at hv
  have hv := hv (fun  h => J G Q 25 [some (vr (some t)), none, none, none, none] [] h 0 0) (fun  h => J G Q 65 [some (vr (some t)), none, none, none, none] [] h 0 0)
  have hv := hv (by
      intro  h hv
      refine j_aload_n C dX7_link_25 rfl ?_
      obtain ⟨g42, hv⟩ := hv
      refine k_callV C 6 [] mv_X7_139 rfl rfl (fun l D dA sz hl => s_X7_bad (by omega) hv l D dA sz hl) rfl rfl (by decide) g42 rfl (by omega) (Nat.le_of_ble_eq_true rfl) (hlim _ _ (by omega) (by omega)) dX7_link_26 (fun _ _ q => False.elim q) (fun v h40 hq => ?_)
      obtain ⟨v41, rfl, hv⟩ := qi_inv hq
      exact j_iret C dX7_link_29 (hlim _ _ (by omega) (by omega)) hv)
  have hv := hv (by
      intro  h hv
      refine j_aload_n C dX7_link_65 rfl ?_
      obtain ⟨g45, hv⟩ := hv
      refine k_callV C 6 [] mv_X7_160 rfl rfl (fun l D dA sz hl => s_X7_wrong (by omega) hv l D dA sz hl) rfl rfl (by decide) g45 rfl (by omega) (Nat.le_of_ble_eq_true rfl) (hlim _ _ (by omega) (by omega)) dX7_link_66 (fun _ _ q => False.elim q) (fun v h43 hq => ?_)
      obtain ⟨v44, rfl, hv⟩ := qi_inv hq
      exact j_iret C dX7_link_69 (hlim _ _ (by omega) (by omega)) hv)
  refine j_aload_n C dX7_link_0 rfl ?_
  refine j_iconst (v := (0 : Int32)) C dX7_link_1 (by decide) ?_
  obtain ⟨g1, hv⟩ := hv
  refine pf_X7_1 C rfl g1 dX7_link_2 ?_
  refine j_aload_n C dX7_link_5 rfl ?_
  refine j_iload_n C dX7_link_6 rfl ?_
  refine k_callV C 6 [vi x1] mv_X7_136 rfl rfl (fun l D dA sz hl => s_X7_none (by omega) hv l D dA sz hl) rfl rfl (by decide) g1 rfl (by omega) (Nat.le_of_ble_eq_true rfl) (hlim _ _ (by omega) (by omega)) dX7_link_7 (fun _ _ q => False.elim q) (fun v h2 hq => ?_)
  obtain ⟨v3, rfl, hv⟩ := qi_inv hq
  refine j_if_ne (tgt := 25) C dX7_link_10 (by decide) ⟨fun q39 => ?_, fun q39 => ?_⟩
  · have hv := hv.1 q39
    exact j_sub (by exact (And.intro rfl trivial)) hv
  · have hv := hv.2 q39
    refine j_iload_n C dX7_link_13 rfl ?_
    refine j_if_lt (tgt := 25) C dX7_link_14 (by decide) ⟨fun q38 => ?_, fun q38 => ?_⟩
    · have hv := hv.1 q38
      exact j_sub (by exact (And.intro rfl trivial)) hv
    · have hv := hv.2 q38
      refine j_aload_n C dX7_link_17 rfl ?_
      refine j_iload_n C dX7_link_18 rfl ?_
      obtain ⟨g6, hv⟩ := hv
      refine k_callV C 6 [vi x3] mv_X7_153 rfl rfl (fun l D dA sz hl => s_X7_noneOrNull (by omega) hv l D dA sz hl) rfl rfl (by decide) g6 rfl (by omega) (Nat.le_of_ble_eq_true rfl) (hlim _ _ (by omega) (by omega)) dX7_link_19 (fun _ _ q => False.elim q) (fun v h4 hq => ?_)
      obtain ⟨v5, rfl, hv⟩ := qi_inv hq
      refine j_if_eq (tgt := 30) C dX7_link_22 (by decide) ⟨fun q37 => ?_, fun q37 => ?_⟩
      · have hv := hv.1 q37
        refine j_aload_n C dX7_link_30 rfl ?_
        obtain ⟨g7, hv⟩ := hv
        refine gf_X7_64 C rfl g7 dX7_link_31 ?_
        refine j_iload_n C dX7_link_34 rfl ?_
        obtain ⟨a8, e9, hv⟩ := hv
        obtain ⟨g10, hv⟩ := hv
        obtain ⟨b11, hv⟩ := hv
        refine k_iald (j := x1.toNatClampNeg) C e9 g10 b11 rfl dX7_link_35 ?_
        refine j_istore (lo' := [some (vr (some t)), some (vi x1), some (vi x2), some (vi x3), some (vi (aI h4 a8 x1.toNatClampNeg))]) C dX7_link_36 (Nat.le_of_ble_eq_true rfl) rfl ?_
        refine j_iload C dX7_link_38 rfl ?_
        refine j_if_eq (tgt := 65) C dX7_link_40 (by decide) ⟨fun q36 => ?_, fun q36 => ?_⟩
        · have hv := hv.1 q36
          exact j_sub (by exact (And.intro rfl trivial)) hv
        · have hv := hv.2 q36
          refine j_aload_n C dX7_link_43 rfl ?_
          refine gf_X7_13 C rfl g7 dX7_link_44 ?_
          refine j_iload C dX7_link_47 rfl ?_
          obtain ⟨a12, e13, hv⟩ := hv
          obtain ⟨g14, hv⟩ := hv
          obtain ⟨b15, hv⟩ := hv
          refine k_iald (j := (aI h4 a8 x1.toNatClampNeg).toNatClampNeg) C e13 g14 b15 rfl dX7_link_49 ?_
          refine j_iconst (v := (1 : Int32)) C dX7_link_50 (by decide) ?_
          refine j_icmp_gt (tgt := 65) C dX7_link_51 (by decide) ⟨fun q35 => ?_, fun q35 => ?_⟩
          · have hv := hv.1 q35
            exact j_sub (by exact (And.intro rfl trivial)) hv
          · have hv := hv.2 q35
            refine j_iload_n C dX7_link_54 rfl ?_
            refine j_aload_n C dX7_link_55 rfl ?_
            refine gf_X7_20 C rfl g7 dX7_link_56 ?_
            refine j_iload C dX7_link_59 rfl ?_
            obtain ⟨a16, e17, hv⟩ := hv
            obtain ⟨g18, hv⟩ := hv
            obtain ⟨b19, hv⟩ := hv
            refine k_iald (j := (aI h4 a8 x1.toNatClampNeg).toNatClampNeg) C e17 g18 b19 rfl dX7_link_61 ?_
            refine j_icmp_lt (tgt := 70) C dX7_link_62 (by decide) ⟨fun q34 => ?_, fun q34 => ?_⟩
            · have hv := hv.1 q34
              refine j_aload_n C dX7_link_70 rfl ?_
              refine gf_X7_57 C rfl g7 dX7_link_71 ?_
              refine j_aload_n C dX7_link_74 rfl ?_
              refine gf_X7_17 C rfl g7 dX7_link_75 ?_
              refine j_iload C dX7_link_78 rfl ?_
              obtain ⟨a20, e21, hv⟩ := hv
              obtain ⟨g22, hv⟩ := hv
              obtain ⟨b23, hv⟩ := hv
              refine k_iald (j := (aI h4 a8 x1.toNatClampNeg).toNatClampNeg) C e21 g22 b23 rfl dX7_link_80 ?_
              refine j_iload_n C dX7_link_81 rfl ?_
              refine j_iadd C dX7_link_82 ?_
              refine j_aload_n C dX7_link_83 rfl ?_
              refine j_iload_n C dX7_link_84 rfl ?_
              refine k_callV C 6 [vi x3] mv_X7_163 rfl rfl (fun l D dA sz hl => s_X7_of (by omega) hv l D dA sz hl) rfl rfl (by decide) g7 rfl (by omega) (Nat.le_of_ble_eq_true rfl) (hlim _ _ (by omega) (by omega)) dX7_link_85 (fun _ _ q => False.elim q) (fun v h24 hq => ?_)
              obtain ⟨v25, rfl, hv⟩ := qi_inv hq
              refine j_i2l C dX7_link_88 ?_
              obtain ⟨a26, e27, hv⟩ := hv
              obtain ⟨g28, hv⟩ := hv
              obtain ⟨b29, hv⟩ := hv
              refine k_last (j := ((aI h4 a20 ((aI h4 a8 x1.toNatClampNeg).toNatClampNeg)) + x2).toNatClampNeg) C e27 g28 b29 rfl dX7_link_89 ?_
              refine j_aload_n C dX7_link_90 rfl ?_
              refine j_iload_n C dX7_link_91 rfl ?_
              obtain ⟨g32, hv⟩ := hv
              refine k_callV C 6 [vi x3] mv_X7_163 rfl rfl (fun l D dA sz hl => s_X7_of (by omega) hv l D dA sz hl) rfl rfl (by decide) g32 rfl (by omega) (Nat.le_of_ble_eq_true rfl) (hlim _ _ (by omega) (by omega)) dX7_link_92 (fun _ _ q => False.elim q) (fun v h30 hq => ?_)
              obtain ⟨v31, rfl, hv⟩ := qi_inv hq
              refine j_if_ne (tgt := 102) C dX7_link_95 (by decide) ⟨fun q33 => ?_, fun q33 => ?_⟩
              · have hv := hv.1 q33
                refine j_iconst (v := (1 : Int32)) C dX7_link_102 (by decide) ?_
                exact j_iret C dX7_link_103 (hlim _ _ (by omega) (by omega)) hv
              · have hv := hv.2 q33
                refine j_iconst (v := (0 : Int32)) C dX7_link_98 (by decide) ?_
                refine j_goto (tgt := 103) C dX7_link_99 (by decide) ?_
                exact j_iret C dX7_link_103 (hlim _ _ (by omega) (by omega)) hv
            · have hv := hv.2 q34
              exact j_sub (by exact (And.intro rfl trivial)) hv
      · have hv := hv.2 q37
        exact j_sub (by exact (And.intro rfl trivial)) hv
def vc_X7_fetch (t : Nat) (x1 : Int32) (x2 : Int32) (x3 : Int32) (h : Hp) (Q : Option AV ⊕ String → Hp → Prop) : Prop :=
    ∀ (P25 : Hp → Prop) (P65 : Hp → Prop),
    (∀  (h : Hp), (tg h t = 7 ∧ vc_X7_bad t h (qi (fun v37 h36 => Q (.inl (some (vi v37))) h36) qn)) → P25 h) →
    (∀  (h : Hp), (tg h t = 7 ∧ vc_X7_wrong t h (qi (fun v40 h39 => Q (.inl (some (vi v40))) h39) qn)) → P65 h) →
    tg h t = 7 ∧ vc_X7_none t x1 (pI h 40 t (0 : Int32)) (qi (fun v3 h2 => ((¬ v3 = 0 → P25 h2) ∧ (v3 = 0 → tg h2 t = 7 ∧ vc_X7_none t x2 h2 (qi (fun v5 h4 => ((¬ v5 = 0 → P25 h4) ∧ (v5 = 0 → ((0 ≤ x3 → tg h4 t = 7 ∧ ∃ a8 : Nat, fR h4 61 t = some a8 ∧ tg h4 a8 = 8 ∧ vp_in x2 (ln h4 a8) ∧ (((aI h4 a8 x2.toNatClampNeg) = 0 → P65 h4) ∧ (¬ (aI h4 a8 x2.toNatClampNeg) = 0 → ∃ a12 : Nat, fR h4 42 t = some a12 ∧ tg h4 a12 = 8 ∧ vp_in (aI h4 a8 x2.toNatClampNeg) (ln h4 a12) ∧ (((1 : Int32) < (aI h4 a12 ((aI h4 a8 x2.toNatClampNeg).toNatClampNeg)) → P65 h4) ∧ (¬ (1 : Int32) < (aI h4 a12 ((aI h4 a8 x2.toNatClampNeg).toNatClampNeg)) → ∃ a16 : Nat, fR h4 44 t = some a16 ∧ tg h4 a16 = 8 ∧ vp_in (aI h4 a8 x2.toNatClampNeg) (ln h4 a16) ∧ ((x3 < (aI h4 a16 ((aI h4 a8 x2.toNatClampNeg).toNatClampNeg)) → ∃ a20 : Nat, fR h4 43 t = some a20 ∧ tg h4 a20 = 8 ∧ vp_in (aI h4 a8 x2.toNatClampNeg) (ln h4 a20) ∧ ∃ a24 : Nat, fR h4 56 t = some a24 ∧ tg h4 a24 = 9 ∧ vp_in ((aI h4 a20 ((aI h4 a8 x2.toNatClampNeg).toNatClampNeg)) + x3) (ln h4 a24) ∧ vc_X7_comesTo t x1 ((aL h4 a24 (((aI h4 a20 ((aI h4 a8 x2.toNatClampNeg).toNatClampNeg)) + x3).toNatClampNeg)).toInt32) h4 (qi (fun v29 h28 => Q (.inl (some (vi v29))) h28) qn)) ∧ (¬ x3 < (aI h4 a16 ((aI h4 a8 x2.toNatClampNeg).toNatClampNeg)) → P65 h4))))))) ∧ (¬ 0 ≤ x3 → P25 h4))))) qn)))) qn)
set_option maxRecDepth 20000 in
theorem s_X7_fetch {t : Nat} {x1 : Int32} {x2 : Int32} {x3 : Int32} {h : Hp} {Q : Option AV ⊕ String → Hp → Prop} {lv : Nat} (hlv : lv + 1 ≤ 12) (hv : vc_X7_fetch t x1 x2 x3 h Q) (l : Launch) (D : va_G) (dA : Nat → ClassId) (sz : Nat) (hst : l.stackTraces = false) : Ctr l D dA sz (Cond.code yX7_fetch cX7_fetch 5 (some .int)) yX7_fetch lv [vr (some t), vi x1, vi x2, vi x3] h 0 0 Q := by
  refine Ctr.of (lo := [some (vr (some t)), some (vi x1), some (vi x2), some (vi x3), none]) hst (by decide) (by simp [ena, isL]) rfl ?_
  intro G hg hlim C
  unfold vc_X7_fetch at hv
  have hv := hv (fun  h => J G Q 25 [some (vr (some t)), none, none, none, none] [] h 0 0) (fun  h => J G Q 65 [some (vr (some t)), none, none, none, none] [] h 0 0)
  have hv := hv (by
      intro  h hv
      refine j_aload_n C dX7_fetch_25 rfl ?_
      obtain ⟨g38, hv⟩ := hv
      refine k_callV C 6 [] mv_X7_139 rfl rfl (fun l D dA sz hl => s_X7_bad (by omega) hv l D dA sz hl) rfl rfl (by decide) g38 rfl (by omega) (Nat.le_of_ble_eq_true rfl) (hlim _ _ (by omega) (by omega)) dX7_fetch_26 (fun _ _ q => False.elim q) (fun v h36 hq => ?_)
      obtain ⟨v37, rfl, hv⟩ := qi_inv hq
      exact j_iret C dX7_fetch_29 (hlim _ _ (by omega) (by omega)) hv)
  have hv := hv (by
      intro  h hv
      refine j_aload_n C dX7_fetch_65 rfl ?_
      obtain ⟨g41, hv⟩ := hv
      refine k_callV C 6 [] mv_X7_160 rfl rfl (fun l D dA sz hl => s_X7_wrong (by omega) hv l D dA sz hl) rfl rfl (by decide) g41 rfl (by omega) (Nat.le_of_ble_eq_true rfl) (hlim _ _ (by omega) (by omega)) dX7_fetch_66 (fun _ _ q => False.elim q) (fun v h39 hq => ?_)
      obtain ⟨v40, rfl, hv⟩ := qi_inv hq
      exact j_iret C dX7_fetch_69 (hlim _ _ (by omega) (by omega)) hv)
  refine j_aload_n C dX7_fetch_0 rfl ?_
  refine j_iconst (v := (0 : Int32)) C dX7_fetch_1 (by decide) ?_
  obtain ⟨g1, hv⟩ := hv
  refine pf_X7_1 C rfl g1 dX7_fetch_2 ?_
  refine j_aload_n C dX7_fetch_5 rfl ?_
  refine j_iload_n C dX7_fetch_6 rfl ?_
  refine k_callV C 6 [vi x1] mv_X7_136 rfl rfl (fun l D dA sz hl => s_X7_none (by omega) hv l D dA sz hl) rfl rfl (by decide) g1 rfl (by omega) (Nat.le_of_ble_eq_true rfl) (hlim _ _ (by omega) (by omega)) dX7_fetch_7 (fun _ _ q => False.elim q) (fun v h2 hq => ?_)
  obtain ⟨v3, rfl, hv⟩ := qi_inv hq
  refine j_if_ne (tgt := 25) C dX7_fetch_10 (by decide) ⟨fun q35 => ?_, fun q35 => ?_⟩
  · have hv := hv.1 q35
    exact j_sub (by exact (And.intro rfl trivial)) hv
  · have hv := hv.2 q35
    refine j_aload_n C dX7_fetch_13 rfl ?_
    refine j_iload_n C dX7_fetch_14 rfl ?_
    obtain ⟨g6, hv⟩ := hv
    refine k_callV C 6 [vi x2] mv_X7_136 rfl rfl (fun l D dA sz hl => s_X7_none (by omega) hv l D dA sz hl) rfl rfl (by decide) g6 rfl (by omega) (Nat.le_of_ble_eq_true rfl) (hlim _ _ (by omega) (by omega)) dX7_fetch_15 (fun _ _ q => False.elim q) (fun v h4 hq => ?_)
    obtain ⟨v5, rfl, hv⟩ := qi_inv hq
    refine j_if_ne (tgt := 25) C dX7_fetch_18 (by decide) ⟨fun q34 => ?_, fun q34 => ?_⟩
    · have hv := hv.1 q34
      exact j_sub (by exact (And.intro rfl trivial)) hv
    · have hv := hv.2 q34
      refine j_iload_n C dX7_fetch_21 rfl ?_
      refine j_if_ge (tgt := 30) C dX7_fetch_22 (by decide) ⟨fun q33 => ?_, fun q33 => ?_⟩
      · have hv := hv.1 q33
        refine j_aload_n C dX7_fetch_30 rfl ?_
        obtain ⟨g7, hv⟩ := hv
        refine gf_X7_64 C rfl g7 dX7_fetch_31 ?_
        refine j_iload_n C dX7_fetch_34 rfl ?_
        obtain ⟨a8, e9, hv⟩ := hv
        obtain ⟨g10, hv⟩ := hv
        obtain ⟨b11, hv⟩ := hv
        refine k_iald (j := x2.toNatClampNeg) C e9 g10 b11 rfl dX7_fetch_35 ?_
        refine j_istore (lo' := [some (vr (some t)), some (vi x1), some (vi x2), some (vi x3), some (vi (aI h4 a8 x2.toNatClampNeg))]) C dX7_fetch_36 (Nat.le_of_ble_eq_true rfl) rfl ?_
        refine j_iload C dX7_fetch_38 rfl ?_
        refine j_if_eq (tgt := 65) C dX7_fetch_40 (by decide) ⟨fun q32 => ?_, fun q32 => ?_⟩
        · have hv := hv.1 q32
          exact j_sub (by exact (And.intro rfl trivial)) hv
        · have hv := hv.2 q32
          refine j_aload_n C dX7_fetch_43 rfl ?_
          refine gf_X7_13 C rfl g7 dX7_fetch_44 ?_
          refine j_iload C dX7_fetch_47 rfl ?_
          obtain ⟨a12, e13, hv⟩ := hv
          obtain ⟨g14, hv⟩ := hv
          obtain ⟨b15, hv⟩ := hv
          refine k_iald (j := (aI h4 a8 x2.toNatClampNeg).toNatClampNeg) C e13 g14 b15 rfl dX7_fetch_49 ?_
          refine j_iconst (v := (1 : Int32)) C dX7_fetch_50 (by decide) ?_
          refine j_icmp_gt (tgt := 65) C dX7_fetch_51 (by decide) ⟨fun q31 => ?_, fun q31 => ?_⟩
          · have hv := hv.1 q31
            exact j_sub (by exact (And.intro rfl trivial)) hv
          · have hv := hv.2 q31
            refine j_iload_n C dX7_fetch_54 rfl ?_
            refine j_aload_n C dX7_fetch_55 rfl ?_
            refine gf_X7_20 C rfl g7 dX7_fetch_56 ?_
            refine j_iload C dX7_fetch_59 rfl ?_
            obtain ⟨a16, e17, hv⟩ := hv
            obtain ⟨g18, hv⟩ := hv
            obtain ⟨b19, hv⟩ := hv
            refine k_iald (j := (aI h4 a8 x2.toNatClampNeg).toNatClampNeg) C e17 g18 b19 rfl dX7_fetch_61 ?_
            refine j_icmp_lt (tgt := 70) C dX7_fetch_62 (by decide) ⟨fun q30 => ?_, fun q30 => ?_⟩
            · have hv := hv.1 q30
              refine j_aload_n C dX7_fetch_70 rfl ?_
              refine j_iload_n C dX7_fetch_71 rfl ?_
              refine j_aload_n C dX7_fetch_72 rfl ?_
              refine gf_X7_57 C rfl g7 dX7_fetch_73 ?_
              refine j_aload_n C dX7_fetch_76 rfl ?_
              refine gf_X7_17 C rfl g7 dX7_fetch_77 ?_
              refine j_iload C dX7_fetch_80 rfl ?_
              obtain ⟨a20, e21, hv⟩ := hv
              obtain ⟨g22, hv⟩ := hv
              obtain ⟨b23, hv⟩ := hv
              refine k_iald (j := (aI h4 a8 x2.toNatClampNeg).toNatClampNeg) C e21 g22 b23 rfl dX7_fetch_82 ?_
              refine j_iload_n C dX7_fetch_83 rfl ?_
              refine j_iadd C dX7_fetch_84 ?_
              obtain ⟨a24, e25, hv⟩ := hv
              obtain ⟨g26, hv⟩ := hv
              obtain ⟨b27, hv⟩ := hv
              refine k_lald (j := ((aI h4 a20 ((aI h4 a8 x2.toNatClampNeg).toNatClampNeg)) + x3).toNatClampNeg) C e25 g26 b27 rfl dX7_fetch_85 ?_
              refine j_l2i C dX7_fetch_86 ?_
              refine k_callV C 6 [vi x1, vi ((aL h4 a24 (((aI h4 a20 ((aI h4 a8 x2.toNatClampNeg).toNatClampNeg)) + x3).toNatClampNeg)).toInt32)] mv_X7_170 rfl rfl (fun l D dA sz hl => s_X7_comesTo (by omega) hv l D dA sz hl) rfl rfl (by decide) g7 rfl (by omega) (Nat.le_of_ble_eq_true rfl) (hlim _ _ (by omega) (by omega)) dX7_fetch_87 (fun _ _ q => False.elim q) (fun v h28 hq => ?_)
              obtain ⟨v29, rfl, hv⟩ := qi_inv hq
              exact j_iret C dX7_fetch_90 (hlim _ _ (by omega) (by omega)) hv
            · have hv := hv.2 q30
              exact j_sub (by exact (And.intro rfl trivial)) hv
      · have hv := hv.2 q33
        exact j_sub (by exact (And.intro rfl trivial)) hv
def vc_X7_set (t : Nat) (x1 : Int32) (x2 : Int32) (z3 : Int64) (h : Hp) (Q : Option AV ⊕ String → Hp → Prop) : Prop :=
    tg h t = 7 ∧ vc_X7_noNumber t x1 x2 h (qi (fun v2 h1 => ((v2 = 0 → tg h1 t = 7 ∧ ∃ a5 : Nat, fR h1 61 t = some a5 ∧ tg h1 a5 = 8 ∧ vp_in x1 (ln h1 a5) ∧ ∃ a9 : Nat, fR h1 43 t = some a9 ∧ tg h1 a9 = 8 ∧ vp_in (aI h1 a5 x1.toNatClampNeg) (ln h1 a9) ∧ vp_in x1 (ln h1 a5) ∧ ∃ a14 : Nat, fR h1 44 t = some a14 ∧ tg h1 a14 = 8 ∧ vp_in (aI h1 a5 x1.toNatClampNeg) (ln h1 a14) ∧ ∃ a18 : Nat, fR h1 56 t = some a18 ∧ tg h1 a18 = 9 ∧ vp_in (((aI h1 a9 ((aI h1 a5 x1.toNatClampNeg).toNatClampNeg)) + (aI h1 a14 ((aI h1 a5 x1.toNatClampNeg).toNatClampNeg))) + x2) (ln h1 a18) ∧ vp_in (((aI h1 a9 ((aI h1 a5 x1.toNatClampNeg).toNatClampNeg)) + (aI h1 a14 ((aI h1 a5 x1.toNatClampNeg).toNatClampNeg))) + x2) (ln h1 a18) ∧ Q (.inl (some (vl (aL h1 a18 ((((aI h1 a9 ((aI h1 a5 x1.toNatClampNeg).toNatClampNeg)) + (aI h1 a14 ((aI h1 a5 x1.toNatClampNeg).toNatClampNeg))) + x2).toNatClampNeg))))) (qL h1 a18 ((((aI h1 a9 ((aI h1 a5 x1.toNatClampNeg).toNatClampNeg)) + (aI h1 a14 ((aI h1 a5 x1.toNatClampNeg).toNatClampNeg))) + x2).toNatClampNeg) z3)) ∧ (¬ v2 = 0 → Q (.inl (some (vl (0 : Int64)))) h1))) qn)
set_option maxRecDepth 20000 in
theorem s_X7_set {t : Nat} {x1 : Int32} {x2 : Int32} {z3 : Int64} {h : Hp} {Q : Option AV ⊕ String → Hp → Prop} {lv : Nat} (hlv : lv + 2 ≤ 12) (hv : vc_X7_set t x1 x2 z3 h Q) (l : Launch) (D : va_G) (dA : Nat → ClassId) (sz : Nat) (hst : l.stackTraces = false) : Ctr l D dA sz (Cond.code yX7_set cX7_set 8 (some .long)) yX7_set lv [vr (some t), vi x1, vi x2, vl z3] h 0 0 Q := by
  refine Ctr.of (lo := [some (vr (some t)), some (vi x1), some (vi x2), some (vl z3), none, none, none, none]) hst (by decide) (by simp [ena, isL]) rfl ?_
  intro G hg hlim C
  unfold vc_X7_set at hv
  refine j_aload_n C dX7_set_0 rfl ?_
  refine j_iload_n C dX7_set_1 rfl ?_
  refine j_iload_n C dX7_set_2 rfl ?_
  obtain ⟨g3, hv⟩ := hv
  refine k_callV C 6 [vi x1, vi x2] mv_X7_173 rfl rfl (fun l D dA sz hl => s_X7_noNumber (by omega) hv l D dA sz hl) rfl rfl (by decide) g3 rfl (by omega) (Nat.le_of_ble_eq_true rfl) (hlim _ _ (by omega) (by omega)) dX7_set_3 (fun _ _ q => False.elim q) (fun v h1 hq => ?_)
  obtain ⟨v2, rfl, hv⟩ := qi_inv hq
  refine j_if_eq (tgt := 11) C dX7_set_6 (by decide) ⟨fun q23 => ?_, fun q23 => ?_⟩
  · have hv := hv.1 q23
    refine j_aload_n C dX7_set_11 rfl ?_
    obtain ⟨g4, hv⟩ := hv
    refine gf_X7_17 C rfl g4 dX7_set_12 ?_
    refine j_aload_n C dX7_set_15 rfl ?_
    refine gf_X7_64 C rfl g4 dX7_set_16 ?_
    refine j_iload_n C dX7_set_19 rfl ?_
    obtain ⟨a5, e6, hv⟩ := hv
    obtain ⟨g7, hv⟩ := hv
    obtain ⟨b8, hv⟩ := hv
    refine k_iald (j := x1.toNatClampNeg) C e6 g7 b8 rfl dX7_set_20 ?_
    obtain ⟨a9, e10, hv⟩ := hv
    obtain ⟨g11, hv⟩ := hv
    obtain ⟨b12, hv⟩ := hv
    refine k_iald (j := (aI h1 a5 x1.toNatClampNeg).toNatClampNeg) C e10 g11 b12 rfl dX7_set_21 ?_
    refine j_aload_n C dX7_set_22 rfl ?_
    refine gf_X7_20 C rfl g4 dX7_set_23 ?_
    refine j_aload_n C dX7_set_26 rfl ?_
    refine gf_X7_64 C rfl g4 dX7_set_27 ?_
    refine j_iload_n C dX7_set_30 rfl ?_
    obtain ⟨b13, hv⟩ := hv
    refine k_iald (j := x1.toNatClampNeg) C e6 g7 b13 rfl dX7_set_31 ?_
    obtain ⟨a14, e15, hv⟩ := hv
    obtain ⟨g16, hv⟩ := hv
    obtain ⟨b17, hv⟩ := hv
    refine k_iald (j := (aI h1 a5 x1.toNatClampNeg).toNatClampNeg) C e15 g16 b17 rfl dX7_set_32 ?_
    refine j_iadd C dX7_set_33 ?_
    refine j_iload_n C dX7_set_34 rfl ?_
    refine j_iadd C dX7_set_35 ?_
    refine j_istore (lo' := [some (vr (some t)), some (vi x1), some (vi x2), some (vl z3), none, some (vi (((aI h1 a9 ((aI h1 a5 x1.toNatClampNeg).toNatClampNeg)) + (aI h1 a14 ((aI h1 a5 x1.toNatClampNeg).toNatClampNeg))) + x2)), none, none]) C dX7_set_36 (Nat.le_of_ble_eq_true rfl) rfl ?_
    refine j_aload_n C dX7_set_38 rfl ?_
    refine gf_X7_57 C rfl g4 dX7_set_39 ?_
    refine j_iload C dX7_set_42 rfl ?_
    obtain ⟨a18, e19, hv⟩ := hv
    obtain ⟨g20, hv⟩ := hv
    obtain ⟨b21, hv⟩ := hv
    refine k_lald (j := (((aI h1 a9 ((aI h1 a5 x1.toNatClampNeg).toNatClampNeg)) + (aI h1 a14 ((aI h1 a5 x1.toNatClampNeg).toNatClampNeg))) + x2).toNatClampNeg) C e19 g20 b21 rfl dX7_set_44 ?_
    refine j_lstore (lo' := [some (vr (some t)), some (vi x1), some (vi x2), some (vl z3), none, some (vi (((aI h1 a9 ((aI h1 a5 x1.toNatClampNeg).toNatClampNeg)) + (aI h1 a14 ((aI h1 a5 x1.toNatClampNeg).toNatClampNeg))) + x2)), some (vl (aL h1 a18 ((((aI h1 a9 ((aI h1 a5 x1.toNatClampNeg).toNatClampNeg)) + (aI h1 a14 ((aI h1 a5 x1.toNatClampNeg).toNatClampNeg))) + x2).toNatClampNeg))), none]) C dX7_set_45 (Nat.le_of_ble_eq_true rfl) rfl ?_
    refine j_aload_n C dX7_set_47 rfl ?_
    refine gf_X7_57 C rfl g4 dX7_set_48 ?_
    refine j_iload C dX7_set_51 rfl ?_
    refine j_lload_n C dX7_set_53 rfl ?_
    obtain ⟨b22, hv⟩ := hv
    refine k_last (j := (((aI h1 a9 ((aI h1 a5 x1.toNatClampNeg).toNatClampNeg)) + (aI h1 a14 ((aI h1 a5 x1.toNatClampNeg).toNatClampNeg))) + x2).toNatClampNeg) C e19 g20 b22 rfl dX7_set_54 ?_
    refine j_lload C dX7_set_55 rfl ?_
    exact j_lret C dX7_set_57 (hlim _ _ (by omega) (by omega)) hv
  · have hv := hv.2 q23
    refine j_lconst (v := (0 : Int64)) C dX7_set_9 (by decide) ?_
    exact j_lret C dX7_set_10 (hlim _ _ (by omega) (by omega)) hv
def vc_X7_get (t : Nat) (x1 : Int32) (x2 : Int32) (h : Hp) (Q : Option AV ⊕ String → Hp → Prop) : Prop :=
    tg h t = 7 ∧ vc_X7_noNumber t x1 x2 h (qi (fun v2 h1 => ((v2 = 0 → tg h1 t = 7 ∧ ∃ a5 : Nat, fR h1 61 t = some a5 ∧ tg h1 a5 = 8 ∧ vp_in x1 (ln h1 a5) ∧ ∃ a9 : Nat, fR h1 43 t = some a9 ∧ tg h1 a9 = 8 ∧ vp_in (aI h1 a5 x1.toNatClampNeg) (ln h1 a9) ∧ vp_in x1 (ln h1 a5) ∧ ∃ a14 : Nat, fR h1 44 t = some a14 ∧ tg h1 a14 = 8 ∧ vp_in (aI h1 a5 x1.toNatClampNeg) (ln h1 a14) ∧ ∃ a18 : Nat, fR h1 56 t = some a18 ∧ tg h1 a18 = 9 ∧ vp_in (((aI h1 a9 ((aI h1 a5 x1.toNatClampNeg).toNatClampNeg)) + (aI h1 a14 ((aI h1 a5 x1.toNatClampNeg).toNatClampNeg))) + x2) (ln h1 a18) ∧ Q (.inl (some (vl (aL h1 a18 ((((aI h1 a9 ((aI h1 a5 x1.toNatClampNeg).toNatClampNeg)) + (aI h1 a14 ((aI h1 a5 x1.toNatClampNeg).toNatClampNeg))) + x2).toNatClampNeg))))) h1) ∧ (¬ v2 = 0 → Q (.inl (some (vl (0 : Int64)))) h1))) qn)
set_option maxRecDepth 20000 in
theorem s_X7_get {t : Nat} {x1 : Int32} {x2 : Int32} {h : Hp} {Q : Option AV ⊕ String → Hp → Prop} {lv : Nat} (hlv : lv + 2 ≤ 12) (hv : vc_X7_get t x1 x2 h Q) (l : Launch) (D : va_G) (dA : Nat → ClassId) (sz : Nat) (hst : l.stackTraces = false) : Ctr l D dA sz (Cond.code yX7_get cX7_get 3 (some .long)) yX7_get lv [vr (some t), vi x1, vi x2] h 0 0 Q := by
  refine Ctr.of (lo := [some (vr (some t)), some (vi x1), some (vi x2)]) hst (by decide) (by simp [ena, isL]) rfl ?_
  intro G hg hlim C
  unfold vc_X7_get at hv
  refine j_aload_n C dX7_get_0 rfl ?_
  refine j_iload_n C dX7_get_1 rfl ?_
  refine j_iload_n C dX7_get_2 rfl ?_
  obtain ⟨g3, hv⟩ := hv
  refine k_callV C 6 [vi x1, vi x2] mv_X7_173 rfl rfl (fun l D dA sz hl => s_X7_noNumber (by omega) hv l D dA sz hl) rfl rfl (by decide) g3 rfl (by omega) (Nat.le_of_ble_eq_true rfl) (hlim _ _ (by omega) (by omega)) dX7_get_3 (fun _ _ q => False.elim q) (fun v h1 hq => ?_)
  obtain ⟨v2, rfl, hv⟩ := qi_inv hq
  refine j_if_eq (tgt := 13) C dX7_get_6 (by decide) ⟨fun q22 => ?_, fun q22 => ?_⟩
  · have hv := hv.1 q22
    refine j_aload_n C dX7_get_13 rfl ?_
    obtain ⟨g4, hv⟩ := hv
    refine gf_X7_57 C rfl g4 dX7_get_14 ?_
    refine j_aload_n C dX7_get_17 rfl ?_
    refine gf_X7_17 C rfl g4 dX7_get_18 ?_
    refine j_aload_n C dX7_get_21 rfl ?_
    refine gf_X7_64 C rfl g4 dX7_get_22 ?_
    refine j_iload_n C dX7_get_25 rfl ?_
    obtain ⟨a5, e6, hv⟩ := hv
    obtain ⟨g7, hv⟩ := hv
    obtain ⟨b8, hv⟩ := hv
    refine k_iald (j := x1.toNatClampNeg) C e6 g7 b8 rfl dX7_get_26 ?_
    obtain ⟨a9, e10, hv⟩ := hv
    obtain ⟨g11, hv⟩ := hv
    obtain ⟨b12, hv⟩ := hv
    refine k_iald (j := (aI h1 a5 x1.toNatClampNeg).toNatClampNeg) C e10 g11 b12 rfl dX7_get_27 ?_
    refine j_aload_n C dX7_get_28 rfl ?_
    refine gf_X7_20 C rfl g4 dX7_get_29 ?_
    refine j_aload_n C dX7_get_32 rfl ?_
    refine gf_X7_64 C rfl g4 dX7_get_33 ?_
    refine j_iload_n C dX7_get_36 rfl ?_
    obtain ⟨b13, hv⟩ := hv
    refine k_iald (j := x1.toNatClampNeg) C e6 g7 b13 rfl dX7_get_37 ?_
    obtain ⟨a14, e15, hv⟩ := hv
    obtain ⟨g16, hv⟩ := hv
    obtain ⟨b17, hv⟩ := hv
    refine k_iald (j := (aI h1 a5 x1.toNatClampNeg).toNatClampNeg) C e15 g16 b17 rfl dX7_get_38 ?_
    refine j_iadd C dX7_get_39 ?_
    refine j_iload_n C dX7_get_40 rfl ?_
    refine j_iadd C dX7_get_41 ?_
    obtain ⟨a18, e19, hv⟩ := hv
    obtain ⟨g20, hv⟩ := hv
    obtain ⟨b21, hv⟩ := hv
    refine k_lald (j := (((aI h1 a9 ((aI h1 a5 x1.toNatClampNeg).toNatClampNeg)) + (aI h1 a14 ((aI h1 a5 x1.toNatClampNeg).toNatClampNeg))) + x2).toNatClampNeg) C e19 g20 b21 rfl dX7_get_42 ?_
    exact j_lret C dX7_get_43 (hlim _ _ (by omega) (by omega)) hv
  · have hv := hv.2 q22
    refine j_lconst (v := (0 : Int64)) C dX7_get_9 (by decide) ?_
    refine j_goto (tgt := 43) C dX7_get_10 (by decide) ?_
    exact j_lret C dX7_get_43 (hlim _ _ (by omega) (by omega)) hv
def vc_X7_referent (t : Nat) (x1 : Int32) (x2 : Int32) (x3 : Int32) (h : Hp) (Q : Option AV ⊕ String → Hp → Prop) : Prop :=
    ∀ (P21 : Hp → Prop) (P65 : Int32 → Hp → Prop) (P60 : Hp → Prop) (P104 : Int32 → Int32 → Option Nat → Hp → Prop),
    (∀  (h : Hp), (tg h t = 7 ∧ vc_X7_bad t h (qi (fun v22 h21 => Q (.inl (some (vi v22))) h21) qn)) → P21 h) →
    (∀ (y4 : Int32) (h : Hp), (((x3 = 0 → tg h t = 7 ∧ ∃ a25 : Nat, fR h 42 t = some a25 ∧ tg h a25 = 8 ∧ vp_in y4 (ln h a25) ∧ ((¬ (aI h a25 y4.toNatClampNeg) = (6 : Int32) → ∃ a29 : Nat, fR h 48 t = some a29 ∧ tg h a29 = 8 ∧ vp_in y4 (ln h a29) ∧ P104 (aI h a29 y4.toNatClampNeg) x1 (some t) h) ∧ ((aI h a25 y4.toNatClampNeg) = (6 : Int32) → P104 (0 : Int32) x1 (some t) h))) ∧ (¬ x3 = 0 → tg h t = 7 ∧ ∃ a35 : Nat, fR h 49 t = some a35 ∧ tg h a35 = 8 ∧ vp_in y4 (ln h a35) ∧ P104 (aI h a35 y4.toNatClampNeg) x1 (some t) h))) → P65 y4 h) →
    (∀  (h : Hp), (tg h t = 7 ∧ vc_X7_wrong t h (qi (fun v41 h40 => Q (.inl (some (vi v41))) h40) qn)) → P60 h) →
    (∀ (w0 : Int32) (w1 : Int32) (v2 : Option Nat) (h : Hp), (∃ a43 : Nat, v2 = some a43 ∧ tg h a43 = 7 ∧ vc_X7_comesTo a43 w1 w0 h (qi (fun v46 h45 => Q (.inl (some (vi v46))) h45) qn)) → P104 w0 w1 v2 h) →
    tg h t = 7 ∧ vc_X7_none t x1 (pI h 40 t (0 : Int32)) (qi (fun v3 h2 => ((¬ v3 = 0 → P21 h2) ∧ (v3 = 0 → tg h2 t = 7 ∧ vc_X7_none t x2 h2 (qi (fun v5 h4 => ((v5 = 0 → tg h4 t = 7 ∧ ∃ a8 : Nat, fR h4 61 t = some a8 ∧ tg h4 a8 = 8 ∧ vp_in x2 (ln h4 a8) ∧ ((x3 = 0 → vc_X7_isLoose t (aI h4 a8 x2.toNatClampNeg) h4 (qi (fun v13 h12 => ((¬ v13 = 0 → P65 (aI h4 a8 x2.toNatClampNeg) h12) ∧ (v13 = 0 → P60 h12))) qn)) ∧ (¬ x3 = 0 → vc_X7_is t x2 (7 : Int32) h4 (qi (fun v16 h15 => ((¬ v16 = 0 → P65 (aI h4 a8 x2.toNatClampNeg) h15) ∧ (v16 = 0 → P60 h15))) qn)))) ∧ (¬ v5 = 0 → P21 h4))) qn)))) qn)
set_option maxRecDepth 20000 in
theorem s_X7_referent {t : Nat} {x1 : Int32} {x2 : Int32} {x3 : Int32} {h : Hp} {Q : Option AV ⊕ String → Hp → Prop} {lv : Nat} (hlv : lv + 1 ≤ 12) (hv : vc_X7_referent t x1 x2 x3 h Q) (l : Launch) (D : va_G) (dA : Nat → ClassId) (sz : Nat) (hst : l.stackTraces = false) : Ctr l D dA sz (Cond.code yX7_referent cX7_referent 5 (some .int)) yX7_referent lv [vr (some t), vi x1, vi x2, vi x3] h 0 0 Q := by
  refine Ctr.of (lo := [some (vr (some t)), some (vi x1), some (vi x2), some (vi x3), none]) hst (by decide) (by simp [ena, isL]) rfl ?_
  intro G hg hlim C
  unfold vc_X7_referent at hv
  have hv := hv (fun  h => J G Q 21 [some (vr (some t)), none, none, none, none] [] h 0 0) (fun y4 h => J G Q 65 [some (vr (some t)), some (vi x1), none, some (vi x3), some (vi y4)] [] h 0 0) (fun  h => J G Q 60 [some (vr (some t)), none, none, none, none] [] h 0 0) (fun w0 w1 v2 h => J G Q 104 [none, none, none, none, none] [vi w0, vi w1, vr v2] h 0 0)
  have hv := hv (by
      intro  h hv
      refine j_aload_n C dX7_referent_21 rfl ?_
      obtain ⟨g23, hv⟩ := hv
      refine k_callV C 6 [] mv_X7_139 rfl rfl (fun l D dA sz hl => s_X7_bad (by omega) hv l D dA sz hl) rfl rfl (by decide) g23 rfl (by omega) (Nat.le_of_ble_eq_true rfl) (hlim _ _ (by omega) (by omega)) dX7_referent_22 (fun _ _ q => False.elim q) (fun v h21 hq => ?_)
      obtain ⟨v22, rfl, hv⟩ := qi_inv hq
      exact j_iret C dX7_referent_25 (hlim _ _ (by omega) (by omega)) hv)
  have hv := hv (by
      intro y4 h hv
      refine j_aload_n C dX7_referent_65 rfl ?_
      refine j_iload_n C dX7_referent_66 rfl ?_
      refine j_iload_n C dX7_referent_67 rfl ?_
      refine j_if_eq (tgt := 81) C dX7_referent_68 (by decide) ⟨fun q39 => ?_, fun q39 => ?_⟩
      · have hv := hv.1 q39
        refine j_aload_n C dX7_referent_81 rfl ?_
        obtain ⟨g24, hv⟩ := hv
        refine gf_X7_13 C rfl g24 dX7_referent_82 ?_
        refine j_iload C dX7_referent_85 rfl ?_
        obtain ⟨a25, e26, hv⟩ := hv
        obtain ⟨g27, hv⟩ := hv
        obtain ⟨b28, hv⟩ := hv
        refine k_iald (j := y4.toNatClampNeg) C e26 g27 b28 rfl dX7_referent_87 ?_
        refine j_bipush (v := (6 : Int32)) C dX7_referent_88 (by decide) ?_
        refine j_icmp_ne (tgt := 97) C dX7_referent_90 (by decide) ⟨fun q33 => ?_, fun q33 => ?_⟩
        · have hv := hv.1 q33
          refine j_aload_n C dX7_referent_97 rfl ?_
          refine gf_X7_32 C rfl g24 dX7_referent_98 ?_
          refine j_iload C dX7_referent_101 rfl ?_
          obtain ⟨a29, e30, hv⟩ := hv
          obtain ⟨g31, hv⟩ := hv
          obtain ⟨b32, hv⟩ := hv
          refine k_iald (j := y4.toNatClampNeg) C e30 g31 b32 rfl dX7_referent_103 ?_
          exact j_sub (by exact trivial) hv
        · have hv := hv.2 q33
          refine j_iconst (v := (0 : Int32)) C dX7_referent_93 (by decide) ?_
          refine j_goto (tgt := 104) C dX7_referent_94 (by decide) ?_
          exact j_sub (by exact trivial) hv
      · have hv := hv.2 q39
        refine j_aload_n C dX7_referent_71 rfl ?_
        obtain ⟨g34, hv⟩ := hv
        refine gf_X7_35 C rfl g34 dX7_referent_72 ?_
        refine j_iload C dX7_referent_75 rfl ?_
        obtain ⟨a35, e36, hv⟩ := hv
        obtain ⟨g37, hv⟩ := hv
        obtain ⟨b38, hv⟩ := hv
        refine k_iald (j := y4.toNatClampNeg) C e36 g37 b38 rfl dX7_referent_77 ?_
        refine j_goto (tgt := 104) C dX7_referent_78 (by decide) ?_
        exact j_sub (by exact trivial) hv)
  have hv := hv (by
      intro  h hv
      refine j_aload_n C dX7_referent_60 rfl ?_
      obtain ⟨g42, hv⟩ := hv
      refine k_callV C 6 [] mv_X7_160 rfl rfl (fun l D dA sz hl => s_X7_wrong (by omega) hv l D dA sz hl) rfl rfl (by decide) g42 rfl (by omega) (Nat.le_of_ble_eq_true rfl) (hlim _ _ (by omega) (by omega)) dX7_referent_61 (fun _ _ q => False.elim q) (fun v h40 hq => ?_)
      obtain ⟨v41, rfl, hv⟩ := qi_inv hq
      exact j_iret C dX7_referent_64 (hlim _ _ (by omega) (by omega)) hv)
  have hv := hv (by
      intro w0 w1 v2 h hv
      obtain ⟨a43, e44, hv⟩ := hv
      obtain ⟨g47, hv⟩ := hv
      refine k_callV C 6 [vi w1, vi w0] mv_X7_170 e44 rfl (fun l D dA sz hl => s_X7_comesTo (by omega) hv l D dA sz hl) rfl rfl (by decide) g47 rfl (by omega) (Nat.le_of_ble_eq_true rfl) (hlim _ _ (by omega) (by omega)) dX7_referent_104 (fun _ _ q => False.elim q) (fun v h45 hq => ?_)
      obtain ⟨v46, rfl, hv⟩ := qi_inv hq
      exact j_iret C dX7_referent_107 (hlim _ _ (by omega) (by omega)) hv)
  refine j_aload_n C dX7_referent_0 rfl ?_
  refine j_iconst (v := (0 : Int32)) C dX7_referent_1 (by decide) ?_
  obtain ⟨g1, hv⟩ := hv
  refine pf_X7_1 C rfl g1 dX7_referent_2 ?_
  refine j_aload_n C dX7_referent_5 rfl ?_
  refine j_iload_n C dX7_referent_6 rfl ?_
  refine k_callV C 6 [vi x1] mv_X7_136 rfl rfl (fun l D dA sz hl => s_X7_none (by omega) hv l D dA sz hl) rfl rfl (by decide) g1 rfl (by omega) (Nat.le_of_ble_eq_true rfl) (hlim _ _ (by omega) (by omega)) dX7_referent_7 (fun _ _ q => False.elim q) (fun v h2 hq => ?_)
  obtain ⟨v3, rfl, hv⟩ := qi_inv hq
  refine j_if_ne (tgt := 21) C dX7_referent_10 (by decide) ⟨fun q20 => ?_, fun q20 => ?_⟩
  · have hv := hv.1 q20
    exact j_sub (by exact (And.intro rfl trivial)) hv
  · have hv := hv.2 q20
    refine j_aload_n C dX7_referent_13 rfl ?_
    refine j_iload_n C dX7_referent_14 rfl ?_
    obtain ⟨g6, hv⟩ := hv
    refine k_callV C 6 [vi x2] mv_X7_136 rfl rfl (fun l D dA sz hl => s_X7_none (by omega) hv l D dA sz hl) rfl rfl (by decide) g6 rfl (by omega) (Nat.le_of_ble_eq_true rfl) (hlim _ _ (by omega) (by omega)) dX7_referent_15 (fun _ _ q => False.elim q) (fun v h4 hq => ?_)
    obtain ⟨v5, rfl, hv⟩ := qi_inv hq
    refine j_if_eq (tgt := 26) C dX7_referent_18 (by decide) ⟨fun q19 => ?_, fun q19 => ?_⟩
    · have hv := hv.1 q19
      refine j_aload_n C dX7_referent_26 rfl ?_
      obtain ⟨g7, hv⟩ := hv
      refine gf_X7_64 C rfl g7 dX7_referent_27 ?_
      refine j_iload_n C dX7_referent_30 rfl ?_
      obtain ⟨a8, e9, hv⟩ := hv
      obtain ⟨g10, hv⟩ := hv
      obtain ⟨b11, hv⟩ := hv
      refine k_iald (j := x2.toNatClampNeg) C e9 g10 b11 rfl dX7_referent_31 ?_
      refine j_istore (lo' := [some (vr (some t)), some (vi x1), some (vi x2), some (vi x3), some (vi (aI h4 a8 x2.toNatClampNeg))]) C dX7_referent_32 (Nat.le_of_ble_eq_true rfl) rfl ?_
      refine j_iload_n C dX7_referent_34 rfl ?_
      refine j_if_eq (tgt := 51) C dX7_referent_35 (by decide) ⟨fun q18 => ?_, fun q18 => ?_⟩
      · have hv := hv.1 q18
        refine j_aload_n C dX7_referent_51 rfl ?_
        refine j_iload C dX7_referent_52 rfl ?_
        refine k_callV C 6 [vi (aI h4 a8 x2.toNatClampNeg)] mv_X7_176 rfl rfl (fun l D dA sz hl => s_X7_isLoose (by omega) hv l D dA sz hl) rfl rfl (by decide) g7 rfl (by omega) (Nat.le_of_ble_eq_true rfl) (hlim _ _ (by omega) (by omega)) dX7_referent_54 (fun _ _ q => False.elim q) (fun v h12 hq => ?_)
        obtain ⟨v13, rfl, hv⟩ := qi_inv hq
        refine j_if_ne (tgt := 65) C dX7_referent_57 (by decide) ⟨fun q14 => ?_, fun q14 => ?_⟩
        · have hv := hv.1 q14
          exact j_sub (by exact (And.intro rfl (And.intro rfl (And.intro rfl (And.intro rfl trivial))))) hv
        · have hv := hv.2 q14
          exact j_sub (by exact (And.intro rfl trivial)) hv
      · have hv := hv.2 q18
        refine j_aload_n C dX7_referent_38 rfl ?_
        refine j_iload_n C dX7_referent_39 rfl ?_
        refine j_bipush (v := (7 : Int32)) C dX7_referent_40 (by decide) ?_
        refine k_callV C 6 [vi x2, vi (7 : Int32)] mv_X7_156 rfl rfl (fun l D dA sz hl => s_X7_is (by omega) hv l D dA sz hl) rfl rfl (by decide) g7 rfl (by omega) (Nat.le_of_ble_eq_true rfl) (hlim _ _ (by omega) (by omega)) dX7_referent_42 (fun _ _ q => False.elim q) (fun v h15 hq => ?_)
        obtain ⟨v16, rfl, hv⟩ := qi_inv hq
        refine j_if_ne (tgt := 65) C dX7_referent_45 (by decide) ⟨fun q17 => ?_, fun q17 => ?_⟩
        · have hv := hv.1 q17
          exact j_sub (by exact (And.intro rfl (And.intro rfl (And.intro rfl (And.intro rfl trivial))))) hv
        · have hv := hv.2 q17
          refine j_goto (tgt := 60) C dX7_referent_48 (by decide) ?_
          exact j_sub (by exact (And.intro rfl trivial)) hv
    · have hv := hv.2 q19
      exact j_sub (by exact (And.intro rfl trivial)) hv
def vc_X7_give (t : Nat) (x1 : Int32) (x2 : Int32) (h : Hp) (Q : Option AV ⊕ String → Hp → Prop) : Prop :=
    ∀ (P21 : Hp → Prop),
    (∀  (h : Hp), (tg h t = 7 ∧ vc_X7_bad t h (qi (fun v34 h33 => Q (.inl (some (vi v34))) h33) qn)) → P21 h) →
    tg h t = 7 ∧ vc_X7_none t x1 (pI h 40 t (0 : Int32)) (qi (fun v3 h2 => ((¬ v3 = 0 → P21 h2) ∧ (v3 = 0 → tg h2 t = 7 ∧ vc_X7_noneOrNull t x2 h2 (qi (fun v5 h4 => ((v5 = 0 → tg h4 t = 7 ∧ vc_X7_is t x1 (7 : Int32) h4 (qi (fun v8 h7 => ((¬ v8 = 0 → tg h7 t = 7 ∧ ∃ a11 : Nat, fR h7 61 t = some a11 ∧ tg h7 a11 = 8 ∧ vp_in x1 (ln h7 a11) ∧ ∃ a15 : Nat, fR h7 48 t = some a15 ∧ tg h7 a15 = 8 ∧ vp_in (aI h7 a11 x1.toNatClampNeg) (ln h7 a15) ∧ ((¬ (aI h7 a15 ((aI h7 a11 x1.toNatClampNeg).toNatClampNeg)) = 0 → vp_in x1 (ln h7 a11) ∧ vc_X7_of t x2 h7 (qi (fun v21 h20 => ∃ a22 : Nat, fR h7 49 t = some a22 ∧ tg h20 a22 = 8 ∧ vp_in (aI h7 a11 x1.toNatClampNeg) (ln h20 a22) ∧ Q (.inl (some (vi (1 : Int32)))) (qI h20 a22 ((aI h7 a11 x1.toNatClampNeg).toNatClampNeg) v21)) qn)) ∧ ((aI h7 a15 ((aI h7 a11 x1.toNatClampNeg).toNatClampNeg)) = 0 → Q (.inl (some (vi (0 : Int32)))) h7))) ∧ (v8 = 0 → tg h7 t = 7 ∧ vc_X7_wrong t h7 (qi (fun v28 h27 => Q (.inl (some (vi v28))) h27) qn)))) qn)) ∧ (¬ v5 = 0 → P21 h4))) qn)))) qn)
set_option maxRecDepth 20000 in
theorem s_X7_give {t : Nat} {x1 : Int32} {x2 : Int32} {h : Hp} {Q : Option AV ⊕ String → Hp → Prop} {lv : Nat} (hlv : lv + 1 ≤ 12) (hv : vc_X7_give t x1 x2 h Q) (l : Launch) (D : va_G) (dA : Nat → ClassId) (sz : Nat) (hst : l.stackTraces = false) : Ctr l D dA sz (Cond.code yX7_give cX7_give 3 (some .int)) yX7_give lv [vr (some t), vi x1, vi x2] h 0 0 Q := by
  refine Ctr.of (lo := [some (vr (some t)), some (vi x1), some (vi x2)]) hst (by decide) (by simp [ena, isL]) rfl ?_
  intro G hg hlim C
  unfold vc_X7_give at hv
  have hv := hv (fun  h => J G Q 21 [some (vr (some t)), none, none] [] h 0 0)
  have hv := hv (by
      intro  h hv
      refine j_aload_n C dX7_give_21 rfl ?_
      obtain ⟨g35, hv⟩ := hv
      refine k_callV C 6 [] mv_X7_139 rfl rfl (fun l D dA sz hl => s_X7_bad (by omega) hv l D dA sz hl) rfl rfl (by decide) g35 rfl (by omega) (Nat.le_of_ble_eq_true rfl) (hlim _ _ (by omega) (by omega)) dX7_give_22 (fun _ _ q => False.elim q) (fun v h33 hq => ?_)
      obtain ⟨v34, rfl, hv⟩ := qi_inv hq
      exact j_iret C dX7_give_25 (hlim _ _ (by omega) (by omega)) hv)
  refine j_aload_n C dX7_give_0 rfl ?_
  refine j_iconst (v := (0 : Int32)) C dX7_give_1 (by decide) ?_
  obtain ⟨g1, hv⟩ := hv
  refine pf_X7_1 C rfl g1 dX7_give_2 ?_
  refine j_aload_n C dX7_give_5 rfl ?_
  refine j_iload_n C dX7_give_6 rfl ?_
  refine k_callV C 6 [vi x1] mv_X7_136 rfl rfl (fun l D dA sz hl => s_X7_none (by omega) hv l D dA sz hl) rfl rfl (by decide) g1 rfl (by omega) (Nat.le_of_ble_eq_true rfl) (hlim _ _ (by omega) (by omega)) dX7_give_7 (fun _ _ q => False.elim q) (fun v h2 hq => ?_)
  obtain ⟨v3, rfl, hv⟩ := qi_inv hq
  refine j_if_ne (tgt := 21) C dX7_give_10 (by decide) ⟨fun q32 => ?_, fun q32 => ?_⟩
  · have hv := hv.1 q32
    exact j_sub (by exact (And.intro rfl trivial)) hv
  · have hv := hv.2 q32
    refine j_aload_n C dX7_give_13 rfl ?_
    refine j_iload_n C dX7_give_14 rfl ?_
    obtain ⟨g6, hv⟩ := hv
    refine k_callV C 6 [vi x2] mv_X7_153 rfl rfl (fun l D dA sz hl => s_X7_noneOrNull (by omega) hv l D dA sz hl) rfl rfl (by decide) g6 rfl (by omega) (Nat.le_of_ble_eq_true rfl) (hlim _ _ (by omega) (by omega)) dX7_give_15 (fun _ _ q => False.elim q) (fun v h4 hq => ?_)
    obtain ⟨v5, rfl, hv⟩ := qi_inv hq
    refine j_if_eq (tgt := 26) C dX7_give_18 (by decide) ⟨fun q31 => ?_, fun q31 => ?_⟩
    · have hv := hv.1 q31
      refine j_aload_n C dX7_give_26 rfl ?_
      refine j_iload_n C dX7_give_27 rfl ?_
      refine j_bipush (v := (7 : Int32)) C dX7_give_28 (by decide) ?_
      obtain ⟨g9, hv⟩ := hv
      refine k_callV C 6 [vi x1, vi (7 : Int32)] mv_X7_156 rfl rfl (fun l D dA sz hl => s_X7_is (by omega) hv l D dA sz hl) rfl rfl (by decide) g9 rfl (by omega) (Nat.le_of_ble_eq_true rfl) (hlim _ _ (by omega) (by omega)) dX7_give_30 (fun _ _ q => False.elim q) (fun v h7 hq => ?_)
      obtain ⟨v8, rfl, hv⟩ := qi_inv hq
      refine j_if_ne (tgt := 41) C dX7_give_33 (by decide) ⟨fun q30 => ?_, fun q30 => ?_⟩
      · have hv := hv.1 q30
        refine j_aload_n C dX7_give_41 rfl ?_
        obtain ⟨g10, hv⟩ := hv
        refine gf_X7_32 C rfl g10 dX7_give_42 ?_
        refine j_aload_n C dX7_give_45 rfl ?_
        refine gf_X7_64 C rfl g10 dX7_give_46 ?_
        refine j_iload_n C dX7_give_49 rfl ?_
        obtain ⟨a11, e12, hv⟩ := hv
        obtain ⟨g13, hv⟩ := hv
        obtain ⟨b14, hv⟩ := hv
        refine k_iald (j := x1.toNatClampNeg) C e12 g13 b14 rfl dX7_give_50 ?_
        obtain ⟨a15, e16, hv⟩ := hv
        obtain ⟨g17, hv⟩ := hv
        obtain ⟨b18, hv⟩ := hv
        refine k_iald (j := (aI h7 a11 x1.toNatClampNeg).toNatClampNeg) C e16 g17 b18 rfl dX7_give_51 ?_
        refine j_if_ne (tgt := 57) C dX7_give_52 (by decide) ⟨fun q26 => ?_, fun q26 => ?_⟩
        · have hv := hv.1 q26
          refine j_aload_n C dX7_give_57 rfl ?_
          refine gf_X7_35 C rfl g10 dX7_give_58 ?_
          refine j_aload_n C dX7_give_61 rfl ?_
          refine gf_X7_64 C rfl g10 dX7_give_62 ?_
          refine j_iload_n C dX7_give_65 rfl ?_
          obtain ⟨b19, hv⟩ := hv
          refine k_iald (j := x1.toNatClampNeg) C e12 g13 b19 rfl dX7_give_66 ?_
          refine j_aload_n C dX7_give_67 rfl ?_
          refine j_iload_n C dX7_give_68 rfl ?_
          refine k_callV C 6 [vi x2] mv_X7_163 rfl rfl (fun l D dA sz hl => s_X7_of (by omega) hv l D dA sz hl) rfl rfl (by decide) g10 rfl (by omega) (Nat.le_of_ble_eq_true rfl) (hlim _ _ (by omega) (by omega)) dX7_give_69 (fun _ _ q => False.elim q) (fun v h20 hq => ?_)
          obtain ⟨v21, rfl, hv⟩ := qi_inv hq
          obtain ⟨a22, e23, hv⟩ := hv
          obtain ⟨g24, hv⟩ := hv
          obtain ⟨b25, hv⟩ := hv
          refine k_iast (j := (aI h7 a11 x1.toNatClampNeg).toNatClampNeg) C e23 g24 b25 rfl dX7_give_72 ?_
          refine j_iconst (v := (1 : Int32)) C dX7_give_73 (by decide) ?_
          exact j_iret C dX7_give_74 (hlim _ _ (by omega) (by omega)) hv
        · have hv := hv.2 q26
          refine j_iconst (v := (0 : Int32)) C dX7_give_55 (by decide) ?_
          exact j_iret C dX7_give_56 (hlim _ _ (by omega) (by omega)) hv
      · have hv := hv.2 q30
        refine j_aload_n C dX7_give_36 rfl ?_
        obtain ⟨g29, hv⟩ := hv
        refine k_callV C 6 [] mv_X7_160 rfl rfl (fun l D dA sz hl => s_X7_wrong (by omega) hv l D dA sz hl) rfl rfl (by decide) g29 rfl (by omega) (Nat.le_of_ble_eq_true rfl) (hlim _ _ (by omega) (by omega)) dX7_give_37 (fun _ _ q => False.elim q) (fun v h27 hq => ?_)
        obtain ⟨v28, rfl, hv⟩ := qi_inv hq
        exact j_iret C dX7_give_40 (hlim _ _ (by omega) (by omega)) hv
    · have hv := hv.2 q31
      exact j_sub (by exact (And.intro rfl trivial)) hv
def vc_X7_clear (t : Nat) (x1 : Int32) (x2 : Int32) (h : Hp) (Q : Option AV ⊕ String → Hp → Prop) : Prop :=
    ∀ (P68 : Hp → Prop),
    (∀  (h : Hp), (Q (.inl (some (vi (0 : Int32)))) h) → P68 h) →
    tg h t = 7 ∧ vc_X7_none t x1 (pI h 40 t (0 : Int32)) (qi (fun v3 h2 => ((v3 = 0 → tg h2 t = 7 ∧ ∃ a5 : Nat, fR h2 61 t = some a5 ∧ tg h2 a5 = 8 ∧ vp_in x1 (ln h2 a5) ∧ vc_X7_isLoose t (aI h2 a5 x1.toNatClampNeg) h2 (qi (fun v10 h9 => ((¬ v10 = 0 → tg h9 t = 7 ∧ ∃ a12 : Nat, fR h9 48 t = some a12 ∧ tg h9 a12 = 8 ∧ vp_in (aI h2 a5 x1.toNatClampNeg) (ln h9 a12) ∧ ∃ a16 : Nat, fR h9 49 t = some a16 ∧ tg h9 a16 = 8 ∧ vp_in (aI h2 a5 x1.toNatClampNeg) (ln h9 a16) ∧ ((x2 = 0 → P68 (qI (qI h9 a12 ((aI h2 a5 x1.toNatClampNeg).toNatClampNeg) (0 : Int32)) a16 ((aI h2 a5 x1.toNatClampNeg).toNatClampNeg) (0 : Int32))) ∧ (¬ x2 = 0 → vc_X7_comes t (aI h2 a5 x1.toNatClampNeg) (qI (qI h9 a12 ((aI h2 a5 x1.toNatClampNeg).toNatClampNeg) (0 : Int32)) a16 ((aI h2 a5 x1.toNatClampNeg).toNatClampNeg) (0 : Int32)) (qi (fun v21 h20 => ((v21 = 0 → P68 h20) ∧ (¬ v21 = 0 → Q (.inl (some (vi (1 : Int32)))) h20))) qn)))) ∧ (v10 = 0 → tg h9 t = 7 ∧ vc_X7_wrong t h9 (qi (fun v25 h24 => Q (.inl (some (vi v25))) h24) qn)))) qn)) ∧ (¬ v3 = 0 → tg h2 t = 7 ∧ vc_X7_bad t h2 (qi (fun v29 h28 => Q (.inl (some (vi v29))) h28) qn)))) qn)
set_option maxRecDepth 20000 in
theorem s_X7_clear {t : Nat} {x1 : Int32} {x2 : Int32} {h : Hp} {Q : Option AV ⊕ String → Hp → Prop} {lv : Nat} (hlv : lv + 1 ≤ 12) (hv : vc_X7_clear t x1 x2 h Q) (l : Launch) (D : va_G) (dA : Nat → ClassId) (sz : Nat) (hst : l.stackTraces = false) : Ctr l D dA sz (Cond.code yX7_clear cX7_clear 4 (some .int)) yX7_clear lv [vr (some t), vi x1, vi x2] h 0 0 Q := by
  refine Ctr.of (lo := [some (vr (some t)), some (vi x1), some (vi x2), none]) hst (by decide) (by simp [ena, isL]) rfl ?_
  intro G hg hlim C
  unfold vc_X7_clear at hv
  have hv := hv (fun  h => J G Q 68 [none, none, none, none] [] h 0 0)
  have hv := hv (by
      intro  h hv
      refine j_iconst (v := (0 : Int32)) C dX7_clear_68 (by decide) ?_
      exact j_iret C dX7_clear_69 (hlim _ _ (by omega) (by omega)) hv)
  refine j_aload_n C dX7_clear_0 rfl ?_
  refine j_iconst (v := (0 : Int32)) C dX7_clear_1 (by decide) ?_
  obtain ⟨g1, hv⟩ := hv
  refine pf_X7_1 C rfl g1 dX7_clear_2 ?_
  refine j_aload_n C dX7_clear_5 rfl ?_
  refine j_iload_n C dX7_clear_6 rfl ?_
  refine k_callV C 6 [vi x1] mv_X7_136 rfl rfl (fun l D dA sz hl => s_X7_none (by omega) hv l D dA sz hl) rfl rfl (by decide) g1 rfl (by omega) (Nat.le_of_ble_eq_true rfl) (hlim _ _ (by omega) (by omega)) dX7_clear_7 (fun _ _ q => False.elim q) (fun v h2 hq => ?_)
  obtain ⟨v3, rfl, hv⟩ := qi_inv hq
  refine j_if_eq (tgt := 18) C dX7_clear_10 (by decide) ⟨fun q31 => ?_, fun q31 => ?_⟩
  · have hv := hv.1 q31
    refine j_aload_n C dX7_clear_18 rfl ?_
    obtain ⟨g4, hv⟩ := hv
    refine gf_X7_64 C rfl g4 dX7_clear_19 ?_
    refine j_iload_n C dX7_clear_22 rfl ?_
    obtain ⟨a5, e6, hv⟩ := hv
    obtain ⟨g7, hv⟩ := hv
    obtain ⟨b8, hv⟩ := hv
    refine k_iald (j := x1.toNatClampNeg) C e6 g7 b8 rfl dX7_clear_23 ?_
    refine j_istore_n (lo' := [some (vr (some t)), some (vi x1), some (vi x2), some (vi (aI h2 a5 x1.toNatClampNeg))]) C dX7_clear_24 (Nat.le_of_ble_eq_true rfl) rfl ?_
    refine j_aload_n C dX7_clear_25 rfl ?_
    refine j_iload_n C dX7_clear_26 rfl ?_
    refine k_callV C 6 [vi (aI h2 a5 x1.toNatClampNeg)] mv_X7_176 rfl rfl (fun l D dA sz hl => s_X7_isLoose (by omega) hv l D dA sz hl) rfl rfl (by decide) g4 rfl (by omega) (Nat.le_of_ble_eq_true rfl) (hlim _ _ (by omega) (by omega)) dX7_clear_27 (fun _ _ q => False.elim q) (fun v h9 hq => ?_)
    obtain ⟨v10, rfl, hv⟩ := qi_inv hq
    refine j_if_ne (tgt := 38) C dX7_clear_30 (by decide) ⟨fun q27 => ?_, fun q27 => ?_⟩
    · have hv := hv.1 q27
      refine j_aload_n C dX7_clear_38 rfl ?_
      obtain ⟨g11, hv⟩ := hv
      refine gf_X7_32 C rfl g11 dX7_clear_39 ?_
      refine j_iload_n C dX7_clear_42 rfl ?_
      refine j_iconst (v := (0 : Int32)) C dX7_clear_43 (by decide) ?_
      obtain ⟨a12, e13, hv⟩ := hv
      obtain ⟨g14, hv⟩ := hv
      obtain ⟨b15, hv⟩ := hv
      refine k_iast (j := (aI h2 a5 x1.toNatClampNeg).toNatClampNeg) C e13 g14 b15 rfl dX7_clear_44 ?_
      refine j_aload_n C dX7_clear_45 rfl ?_
      refine gf_X7_35 C rfl g11 dX7_clear_46 ?_
      refine j_iload_n C dX7_clear_49 rfl ?_
      refine j_iconst (v := (0 : Int32)) C dX7_clear_50 (by decide) ?_
      obtain ⟨a16, e17, hv⟩ := hv
      obtain ⟨g18, hv⟩ := hv
      obtain ⟨b19, hv⟩ := hv
      refine k_iast (j := (aI h2 a5 x1.toNatClampNeg).toNatClampNeg) C e17 g18 b19 rfl dX7_clear_51 ?_
      refine j_iload_n C dX7_clear_52 rfl ?_
      refine j_if_eq (tgt := 68) C dX7_clear_53 (by decide) ⟨fun q23 => ?_, fun q23 => ?_⟩
      · have hv := hv.1 q23
        exact j_sub (by exact trivial) hv
      · have hv := hv.2 q23
        refine j_aload_n C dX7_clear_56 rfl ?_
        refine j_iload_n C dX7_clear_57 rfl ?_
        refine k_callV C 6 [vi (aI h2 a5 x1.toNatClampNeg)] mv_X7_125 rfl rfl (fun l D dA sz hl => s_X7_comes (by omega) hv l D dA sz hl) rfl rfl (by decide) g11 rfl (by omega) (Nat.le_of_ble_eq_true rfl) (hlim _ _ (by omega) (by omega)) dX7_clear_58 (fun _ _ q => False.elim q) (fun v h20 hq => ?_)
        obtain ⟨v21, rfl, hv⟩ := qi_inv hq
        refine j_if_eq (tgt := 68) C dX7_clear_61 (by decide) ⟨fun q22 => ?_, fun q22 => ?_⟩
        · have hv := hv.1 q22
          exact j_sub (by exact trivial) hv
        · have hv := hv.2 q22
          refine j_iconst (v := (1 : Int32)) C dX7_clear_64 (by decide) ?_
          refine j_goto (tgt := 69) C dX7_clear_65 (by decide) ?_
          exact j_iret C dX7_clear_69 (hlim _ _ (by omega) (by omega)) hv
    · have hv := hv.2 q27
      refine j_aload_n C dX7_clear_33 rfl ?_
      obtain ⟨g26, hv⟩ := hv
      refine k_callV C 6 [] mv_X7_160 rfl rfl (fun l D dA sz hl => s_X7_wrong (by omega) hv l D dA sz hl) rfl rfl (by decide) g26 rfl (by omega) (Nat.le_of_ble_eq_true rfl) (hlim _ _ (by omega) (by omega)) dX7_clear_34 (fun _ _ q => False.elim q) (fun v h24 hq => ?_)
      obtain ⟨v25, rfl, hv⟩ := qi_inv hq
      exact j_iret C dX7_clear_37 (hlim _ _ (by omega) (by omega)) hv
  · have hv := hv.2 q31
    refine j_aload_n C dX7_clear_13 rfl ?_
    obtain ⟨g30, hv⟩ := hv
    refine k_callV C 6 [] mv_X7_139 rfl rfl (fun l D dA sz hl => s_X7_bad (by omega) hv l D dA sz hl) rfl rfl (by decide) g30 rfl (by omega) (Nat.le_of_ble_eq_true rfl) (hlim _ _ (by omega) (by omega)) dX7_clear_14 (fun _ _ q => False.elim q) (fun v h28 hq => ?_)
    obtain ⟨v29, rfl, hv⟩ := qi_inv hq
    exact j_iret C dX7_clear_17 (hlim _ _ (by omega) (by omega)) hv
def vc_X7_poll (t : Nat) (x1 : Int32) (x2 : Int32) (h : Hp) (Q : Option AV ⊕ String → Hp → Prop) : Prop :=
    ∀ (P21 : Hp → Prop) (P108 : Int32 → Hp → Prop) (P90 : Int32 → Int32 → Hp → Prop),
    (∀  (h : Hp), (tg h t = 7 ∧ vc_X7_bad t h (qi (fun v38 h37 => Q (.inl (some (vi v38))) h37) qn)) → P21 h) →
    (∀ (y4 : Int32) (h : Hp), (tg h t = 7 ∧ vc_X7_comesTo t x1 y4 h (qi (fun v41 h40 => Q (.inl (some (vi v41))) h40) qn)) → P108 y4 h) →
    (∀ (y3 : Int32) (y4 : Int32) (h : Hp), (tg h t = 7 ∧ ∃ a44 : Nat, fR h 47 t = some a44 ∧ tg h a44 = 8 ∧ vp_in y4 (ln h a44) ∧ ∃ a48 : Nat, fR h 51 t = some a48 ∧ tg h a48 = 8 ∧ vp_in y3 (ln h a48) ∧ vp_in y3 (ln h a48) ∧ P108 y4 (qI (qI h a44 y4.toNatClampNeg (0 : Int32)) a48 y3.toNatClampNeg ((aI (qI h a44 y4.toNatClampNeg (0 : Int32)) a48 y3.toNatClampNeg) - (1 : Int32)))) → P90 y3 y4 h) →
    tg h t = 7 ∧ vc_X7_none t x1 (pI h 40 t (0 : Int32)) (qi (fun v3 h2 => ((¬ v3 = 0 → P21 h2) ∧ (v3 = 0 → tg h2 t = 7 ∧ vc_X7_none t x2 h2 (qi (fun v5 h4 => ((v5 = 0 → tg h4 t = 7 ∧ vc_X7_is t x2 (3 : Int32) h4 (qi (fun v8 h7 => ((¬ v8 = 0 → tg h7 t = 7 ∧ ∃ a11 : Nat, fR h7 61 t = some a11 ∧ tg h7 a11 = 8 ∧ vp_in x2 (ln h7 a11) ∧ ∃ a15 : Nat, fR h7 48 t = some a15 ∧ tg h7 a15 = 8 ∧ vp_in (aI h7 a11 x2.toNatClampNeg) (ln h7 a15) ∧ (((aI h7 a15 ((aI h7 a11 x2.toNatClampNeg).toNatClampNeg)) = 0 → P108 (aI h7 a15 ((aI h7 a11 x2.toNatClampNeg).toNatClampNeg)) h7) ∧ (¬ (aI h7 a15 ((aI h7 a11 x2.toNatClampNeg).toNatClampNeg)) = 0 → ∃ a19 : Nat, fR h7 47 t = some a19 ∧ tg h7 a19 = 8 ∧ vp_in (aI h7 a15 ((aI h7 a11 x2.toNatClampNeg).toNatClampNeg)) (ln h7 a19) ∧ vp_in (aI h7 a11 x2.toNatClampNeg) (ln h7 a15) ∧ vp_in (aI h7 a15 ((aI h7 a11 x2.toNatClampNeg).toNatClampNeg)) (ln h7 a19) ∧ ((¬ (aI (qI h7 a15 ((aI h7 a11 x2.toNatClampNeg).toNatClampNeg) (aI h7 a19 ((aI h7 a15 ((aI h7 a11 x2.toNatClampNeg).toNatClampNeg)).toNatClampNeg))) a19 ((aI h7 a15 ((aI h7 a11 x2.toNatClampNeg).toNatClampNeg)).toNatClampNeg)) = 0 → P90 (aI h7 a11 x2.toNatClampNeg) (aI h7 a15 ((aI h7 a11 x2.toNatClampNeg).toNatClampNeg)) (qI h7 a15 ((aI h7 a11 x2.toNatClampNeg).toNatClampNeg) (aI h7 a19 ((aI h7 a15 ((aI h7 a11 x2.toNatClampNeg).toNatClampNeg)).toNatClampNeg)))) ∧ ((aI (qI h7 a15 ((aI h7 a11 x2.toNatClampNeg).toNatClampNeg) (aI h7 a19 ((aI h7 a15 ((aI h7 a11 x2.toNatClampNeg).toNatClampNeg)).toNatClampNeg))) a19 ((aI h7 a15 ((aI h7 a11 x2.toNatClampNeg).toNatClampNeg)).toNatClampNeg)) = 0 → ∃ a25 : Nat, fR h7 49 t = some a25 ∧ tg h7 a25 = 8 ∧ vp_in (aI h7 a11 x2.toNatClampNeg) (ln h7 a25) ∧ P90 (aI h7 a11 x2.toNatClampNeg) (aI h7 a15 ((aI h7 a11 x2.toNatClampNeg).toNatClampNeg)) (qI (qI h7 a15 ((aI h7 a11 x2.toNatClampNeg).toNatClampNeg) (aI h7 a19 ((aI h7 a15 ((aI h7 a11 x2.toNatClampNeg).toNatClampNeg)).toNatClampNeg))) a25 ((aI h7 a11 x2.toNatClampNeg).toNatClampNeg) (0 : Int32))))))) ∧ (v8 = 0 → tg h7 t = 7 ∧ vc_X7_wrong t h7 (qi (fun v32 h31 => Q (.inl (some (vi v32))) h31) qn)))) qn)) ∧ (¬ v5 = 0 → P21 h4))) qn)))) qn)
set_option maxRecDepth 20000 in
theorem s_X7_poll {t : Nat} {x1 : Int32} {x2 : Int32} {h : Hp} {Q : Option AV ⊕ String → Hp → Prop} {lv : Nat} (hlv : lv + 1 ≤ 12) (hv : vc_X7_poll t x1 x2 h Q) (l : Launch) (D : va_G) (dA : Nat → ClassId) (sz : Nat) (hst : l.stackTraces = false) : Ctr l D dA sz (Cond.code yX7_poll cX7_poll 5 (some .int)) yX7_poll lv [vr (some t), vi x1, vi x2] h 0 0 Q := by
  refine Ctr.of (lo := [some (vr (some t)), some (vi x1), some (vi x2), none, none]) hst (by decide) (by simp [ena, isL]) rfl ?_
  intro G hg hlim C
  unfold vc_X7_poll at hv
  have hv := hv (fun  h => J G Q 21 [some (vr (some t)), none, none, none, none] [] h 0 0) (fun y4 h => J G Q 108 [some (vr (some t)), some (vi x1), none, none, some (vi y4)] [] h 0 0) (fun y3 y4 h => J G Q 90 [some (vr (some t)), some (vi x1), none, some (vi y3), some (vi y4)] [] h 0 0)
  have hv := hv (by
      intro  h hv
      refine j_aload_n C dX7_poll_21 rfl ?_
      obtain ⟨g39, hv⟩ := hv
      refine k_callV C 6 [] mv_X7_139 rfl rfl (fun l D dA sz hl => s_X7_bad (by omega) hv l D dA sz hl) rfl rfl (by decide) g39 rfl (by omega) (Nat.le_of_ble_eq_true rfl) (hlim _ _ (by omega) (by omega)) dX7_poll_22 (fun _ _ q => False.elim q) (fun v h37 hq => ?_)
      obtain ⟨v38, rfl, hv⟩ := qi_inv hq
      exact j_iret C dX7_poll_25 (hlim _ _ (by omega) (by omega)) hv)
  have hv := hv (by
      intro y4 h hv
      refine j_aload_n C dX7_poll_108 rfl ?_
      refine j_iload_n C dX7_poll_109 rfl ?_
      refine j_iload C dX7_poll_110 rfl ?_
      obtain ⟨g42, hv⟩ := hv
      refine k_callV C 6 [vi x1, vi y4] mv_X7_170 rfl rfl (fun l D dA sz hl => s_X7_comesTo (by omega) hv l D dA sz hl) rfl rfl (by decide) g42 rfl (by omega) (Nat.le_of_ble_eq_true rfl) (hlim _ _ (by omega) (by omega)) dX7_poll_112 (fun _ _ q => False.elim q) (fun v h40 hq => ?_)
      obtain ⟨v41, rfl, hv⟩ := qi_inv hq
      exact j_iret C dX7_poll_115 (hlim _ _ (by omega) (by omega)) hv)
  have hv := hv (by
      intro y3 y4 h hv
      refine j_aload_n C dX7_poll_90 rfl ?_
      obtain ⟨g43, hv⟩ := hv
      refine gf_X7_29 C rfl g43 dX7_poll_91 ?_
      refine j_iload C dX7_poll_94 rfl ?_
      refine j_iconst (v := (0 : Int32)) C dX7_poll_96 (by decide) ?_
      obtain ⟨a44, e45, hv⟩ := hv
      obtain ⟨g46, hv⟩ := hv
      obtain ⟨b47, hv⟩ := hv
      refine k_iast (j := y4.toNatClampNeg) C e45 g46 b47 rfl dX7_poll_97 ?_
      refine j_aload_n C dX7_poll_98 rfl ?_
      refine gf_X7_41 C rfl g43 dX7_poll_99 ?_
      refine j_iload_n C dX7_poll_102 rfl ?_
      refine j_dup2 C dX7_poll_103 rfl rfl ?_
      obtain ⟨a48, e49, hv⟩ := hv
      obtain ⟨g50, hv⟩ := hv
      obtain ⟨b51, hv⟩ := hv
      refine k_iald (j := y3.toNatClampNeg) C e49 g50 b51 rfl dX7_poll_104 ?_
      refine j_iconst (v := (1 : Int32)) C dX7_poll_105 (by decide) ?_
      refine j_isub C dX7_poll_106 ?_
      obtain ⟨b52, hv⟩ := hv
      refine k_iast (j := y3.toNatClampNeg) C e49 g50 b52 rfl dX7_poll_107 ?_
      exact j_sub (by exact (And.intro rfl (And.intro rfl (And.intro rfl trivial)))) hv)
  refine j_aload_n C dX7_poll_0 rfl ?_
  refine j_iconst (v := (0 : Int32)) C dX7_poll_1 (by decide) ?_
  obtain ⟨g1, hv⟩ := hv
  refine pf_X7_1 C rfl g1 dX7_poll_2 ?_
  refine j_aload_n C dX7_poll_5 rfl ?_
  refine j_iload_n C dX7_poll_6 rfl ?_
  refine k_callV C 6 [vi x1] mv_X7_136 rfl rfl (fun l D dA sz hl => s_X7_none (by omega) hv l D dA sz hl) rfl rfl (by decide) g1 rfl (by omega) (Nat.le_of_ble_eq_true rfl) (hlim _ _ (by omega) (by omega)) dX7_poll_7 (fun _ _ q => False.elim q) (fun v h2 hq => ?_)
  obtain ⟨v3, rfl, hv⟩ := qi_inv hq
  refine j_if_ne (tgt := 21) C dX7_poll_10 (by decide) ⟨fun q36 => ?_, fun q36 => ?_⟩
  · have hv := hv.1 q36
    exact j_sub (by exact (And.intro rfl trivial)) hv
  · have hv := hv.2 q36
    refine j_aload_n C dX7_poll_13 rfl ?_
    refine j_iload_n C dX7_poll_14 rfl ?_
    obtain ⟨g6, hv⟩ := hv
    refine k_callV C 6 [vi x2] mv_X7_136 rfl rfl (fun l D dA sz hl => s_X7_none (by omega) hv l D dA sz hl) rfl rfl (by decide) g6 rfl (by omega) (Nat.le_of_ble_eq_true rfl) (hlim _ _ (by omega) (by omega)) dX7_poll_15 (fun _ _ q => False.elim q) (fun v h4 hq => ?_)
    obtain ⟨v5, rfl, hv⟩ := qi_inv hq
    refine j_if_eq (tgt := 26) C dX7_poll_18 (by decide) ⟨fun q35 => ?_, fun q35 => ?_⟩
    · have hv := hv.1 q35
      refine j_aload_n C dX7_poll_26 rfl ?_
      refine j_iload_n C dX7_poll_27 rfl ?_
      refine j_iconst (v := (3 : Int32)) C dX7_poll_28 (by decide) ?_
      obtain ⟨g9, hv⟩ := hv
      refine k_callV C 6 [vi x2, vi (3 : Int32)] mv_X7_156 rfl rfl (fun l D dA sz hl => s_X7_is (by omega) hv l D dA sz hl) rfl rfl (by decide) g9 rfl (by omega) (Nat.le_of_ble_eq_true rfl) (hlim _ _ (by omega) (by omega)) dX7_poll_29 (fun _ _ q => False.elim q) (fun v h7 hq => ?_)
      obtain ⟨v8, rfl, hv⟩ := qi_inv hq
      refine j_if_ne (tgt := 40) C dX7_poll_32 (by decide) ⟨fun q34 => ?_, fun q34 => ?_⟩
      · have hv := hv.1 q34
        refine j_aload_n C dX7_poll_40 rfl ?_
        obtain ⟨g10, hv⟩ := hv
        refine gf_X7_64 C rfl g10 dX7_poll_41 ?_
        refine j_iload_n C dX7_poll_44 rfl ?_
        obtain ⟨a11, e12, hv⟩ := hv
        obtain ⟨g13, hv⟩ := hv
        obtain ⟨b14, hv⟩ := hv
        refine k_iald (j := x2.toNatClampNeg) C e12 g13 b14 rfl dX7_poll_45 ?_
        refine j_istore_n (lo' := [some (vr (some t)), some (vi x1), some (vi x2), some (vi (aI h7 a11 x2.toNatClampNeg)), none]) C dX7_poll_46 (Nat.le_of_ble_eq_true rfl) rfl ?_
        refine j_aload_n C dX7_poll_47 rfl ?_
        refine gf_X7_32 C rfl g10 dX7_poll_48 ?_
        refine j_iload_n C dX7_poll_51 rfl ?_
        obtain ⟨a15, e16, hv⟩ := hv
        obtain ⟨g17, hv⟩ := hv
        obtain ⟨b18, hv⟩ := hv
        refine k_iald (j := (aI h7 a11 x2.toNatClampNeg).toNatClampNeg) C e16 g17 b18 rfl dX7_poll_52 ?_
        refine j_istore (lo' := [some (vr (some t)), some (vi x1), some (vi x2), some (vi (aI h7 a11 x2.toNatClampNeg)), some (vi (aI h7 a15 ((aI h7 a11 x2.toNatClampNeg).toNatClampNeg)))]) C dX7_poll_53 (Nat.le_of_ble_eq_true rfl) rfl ?_
        refine j_iload C dX7_poll_55 rfl ?_
        refine j_if_eq (tgt := 108) C dX7_poll_57 (by decide) ⟨fun q30 => ?_, fun q30 => ?_⟩
        · have hv := hv.1 q30
          exact j_sub (by exact (And.intro rfl (And.intro rfl (And.intro rfl trivial)))) hv
        · have hv := hv.2 q30
          refine j_aload_n C dX7_poll_60 rfl ?_
          refine gf_X7_32 C rfl g10 dX7_poll_61 ?_
          refine j_iload_n C dX7_poll_64 rfl ?_
          refine j_aload_n C dX7_poll_65 rfl ?_
          refine gf_X7_29 C rfl g10 dX7_poll_66 ?_
          refine j_iload C dX7_poll_69 rfl ?_
          obtain ⟨a19, e20, hv⟩ := hv
          obtain ⟨g21, hv⟩ := hv
          obtain ⟨b22, hv⟩ := hv
          refine k_iald (j := (aI h7 a15 ((aI h7 a11 x2.toNatClampNeg).toNatClampNeg)).toNatClampNeg) C e20 g21 b22 rfl dX7_poll_71 ?_
          obtain ⟨b23, hv⟩ := hv
          refine k_iast (j := (aI h7 a11 x2.toNatClampNeg).toNatClampNeg) C e16 g17 b23 rfl dX7_poll_72 ?_
          refine j_aload_n C dX7_poll_73 rfl ?_
          refine gf_X7_29 C rfl g10 dX7_poll_74 ?_
          refine j_iload C dX7_poll_77 rfl ?_
          obtain ⟨b24, hv⟩ := hv
          refine k_iald (j := (aI h7 a15 ((aI h7 a11 x2.toNatClampNeg).toNatClampNeg)).toNatClampNeg) C e20 g21 b24 rfl dX7_poll_79 ?_
          refine j_if_ne (tgt := 90) C dX7_poll_80 (by decide) ⟨fun q29 => ?_, fun q29 => ?_⟩
          · have hv := hv.1 q29
            exact j_sub (by exact (And.intro rfl (And.intro rfl (And.intro rfl (And.intro rfl trivial))))) hv
          · have hv := hv.2 q29
            refine j_aload_n C dX7_poll_83 rfl ?_
            refine gf_X7_35 C rfl g10 dX7_poll_84 ?_
            refine j_iload_n C dX7_poll_87 rfl ?_
            refine j_iconst (v := (0 : Int32)) C dX7_poll_88 (by decide) ?_
            obtain ⟨a25, e26, hv⟩ := hv
            obtain ⟨g27, hv⟩ := hv
            obtain ⟨b28, hv⟩ := hv
            refine k_iast (j := (aI h7 a11 x2.toNatClampNeg).toNatClampNeg) C e26 g27 b28 rfl dX7_poll_89 ?_
            exact j_sub (by exact (And.intro rfl (And.intro rfl (And.intro rfl (And.intro rfl trivial))))) hv
      · have hv := hv.2 q34
        refine j_aload_n C dX7_poll_35 rfl ?_
        obtain ⟨g33, hv⟩ := hv
        refine k_callV C 6 [] mv_X7_160 rfl rfl (fun l D dA sz hl => s_X7_wrong (by omega) hv l D dA sz hl) rfl rfl (by decide) g33 rfl (by omega) (Nat.le_of_ble_eq_true rfl) (hlim _ _ (by omega) (by omega)) dX7_poll_36 (fun _ _ q => False.elim q) (fun v h31 hq => ?_)
        obtain ⟨v32, rfl, hv⟩ := qi_inv hq
        exact j_iret C dX7_poll_39 (hlim _ _ (by omega) (by omega)) hv
    · have hv := hv.2 q35
      exact j_sub (by exact (And.intro rfl trivial)) hv
def vc_X7_waiting (t : Nat) (x1 : Int32) (h : Hp) (Q : Option AV ⊕ String → Hp → Prop) : Prop :=
    tg h t = 7 ∧ vc_X7_none t x1 (pI h 40 t (0 : Int32)) (qi (fun v3 h2 => ((v3 = 0 → tg h2 t = 7 ∧ vc_X7_is t x1 (3 : Int32) h2 (qi (fun v5 h4 => ((v5 = 0 → tg h4 t = 7 ∧ vc_X7_wrong t h4 (qi (fun v8 h7 => Q (.inl (some (vi v8))) h7) qn)) ∧ (¬ v5 = 0 → tg h4 t = 7 ∧ ∃ a11 : Nat, fR h4 61 t = some a11 ∧ tg h4 a11 = 8 ∧ vp_in x1 (ln h4 a11) ∧ ∃ a15 : Nat, fR h4 51 t = some a15 ∧ tg h4 a15 = 8 ∧ vp_in (aI h4 a11 x1.toNatClampNeg) (ln h4 a15) ∧ Q (.inl (some (vi (aI h4 a15 ((aI h4 a11 x1.toNatClampNeg).toNatClampNeg))))) h4))) qn)) ∧ (¬ v3 = 0 → tg h2 t = 7 ∧ vc_X7_bad t h2 (qi (fun v21 h20 => Q (.inl (some (vi v21))) h20) qn)))) qn)
set_option maxRecDepth 20000 in
theorem s_X7_waiting {t : Nat} {x1 : Int32} {h : Hp} {Q : Option AV ⊕ String → Hp → Prop} {lv : Nat} (hlv : lv + 1 ≤ 12) (hv : vc_X7_waiting t x1 h Q) (l : Launch) (D : va_G) (dA : Nat → ClassId) (sz : Nat) (hst : l.stackTraces = false) : Ctr l D dA sz (Cond.code yX7_waiting cX7_waiting 2 (some .int)) yX7_waiting lv [vr (some t), vi x1] h 0 0 Q := by
  refine Ctr.of (lo := [some (vr (some t)), some (vi x1)]) hst (by decide) (by simp [ena, isL]) rfl ?_
  intro G hg hlim C
  unfold vc_X7_waiting at hv
  refine j_aload_n C dX7_waiting_0 rfl ?_
  refine j_iconst (v := (0 : Int32)) C dX7_waiting_1 (by decide) ?_
  obtain ⟨g1, hv⟩ := hv
  refine pf_X7_1 C rfl g1 dX7_waiting_2 ?_
  refine j_aload_n C dX7_waiting_5 rfl ?_
  refine j_iload_n C dX7_waiting_6 rfl ?_
  refine k_callV C 6 [vi x1] mv_X7_136 rfl rfl (fun l D dA sz hl => s_X7_none (by omega) hv l D dA sz hl) rfl rfl (by decide) g1 rfl (by omega) (Nat.le_of_ble_eq_true rfl) (hlim _ _ (by omega) (by omega)) dX7_waiting_7 (fun _ _ q => False.elim q) (fun v h2 hq => ?_)
  obtain ⟨v3, rfl, hv⟩ := qi_inv hq
  refine j_if_eq (tgt := 18) C dX7_waiting_10 (by decide) ⟨fun q23 => ?_, fun q23 => ?_⟩
  · have hv := hv.1 q23
    refine j_aload_n C dX7_waiting_18 rfl ?_
    refine j_iload_n C dX7_waiting_19 rfl ?_
    refine j_iconst (v := (3 : Int32)) C dX7_waiting_20 (by decide) ?_
    obtain ⟨g6, hv⟩ := hv
    refine k_callV C 6 [vi x1, vi (3 : Int32)] mv_X7_156 rfl rfl (fun l D dA sz hl => s_X7_is (by omega) hv l D dA sz hl) rfl rfl (by decide) g6 rfl (by omega) (Nat.le_of_ble_eq_true rfl) (hlim _ _ (by omega) (by omega)) dX7_waiting_21 (fun _ _ q => False.elim q) (fun v h4 hq => ?_)
    obtain ⟨v5, rfl, hv⟩ := qi_inv hq
    refine j_if_eq (tgt := 41) C dX7_waiting_24 (by decide) ⟨fun q19 => ?_, fun q19 => ?_⟩
    · have hv := hv.1 q19
      refine j_aload_n C dX7_waiting_41 rfl ?_
      obtain ⟨g9, hv⟩ := hv
      refine k_callV C 6 [] mv_X7_160 rfl rfl (fun l D dA sz hl => s_X7_wrong (by omega) hv l D dA sz hl) rfl rfl (by decide) g9 rfl (by omega) (Nat.le_of_ble_eq_true rfl) (hlim _ _ (by omega) (by omega)) dX7_waiting_42 (fun _ _ q => False.elim q) (fun v h7 hq => ?_)
      obtain ⟨v8, rfl, hv⟩ := qi_inv hq
      exact j_iret C dX7_waiting_45 (hlim _ _ (by omega) (by omega)) hv
    · have hv := hv.2 q19
      refine j_aload_n C dX7_waiting_27 rfl ?_
      obtain ⟨g10, hv⟩ := hv
      refine gf_X7_41 C rfl g10 dX7_waiting_28 ?_
      refine j_aload_n C dX7_waiting_31 rfl ?_
      refine gf_X7_64 C rfl g10 dX7_waiting_32 ?_
      refine j_iload_n C dX7_waiting_35 rfl ?_
      obtain ⟨a11, e12, hv⟩ := hv
      obtain ⟨g13, hv⟩ := hv
      obtain ⟨b14, hv⟩ := hv
      refine k_iald (j := x1.toNatClampNeg) C e12 g13 b14 rfl dX7_waiting_36 ?_
      obtain ⟨a15, e16, hv⟩ := hv
      obtain ⟨g17, hv⟩ := hv
      obtain ⟨b18, hv⟩ := hv
      refine k_iald (j := (aI h4 a11 x1.toNatClampNeg).toNatClampNeg) C e16 g17 b18 rfl dX7_waiting_37 ?_
      refine j_goto (tgt := 45) C dX7_waiting_38 (by decide) ?_
      exact j_iret C dX7_waiting_45 (hlim _ _ (by omega) (by omega)) hv
  · have hv := hv.2 q23
    refine j_aload_n C dX7_waiting_13 rfl ?_
    obtain ⟨g22, hv⟩ := hv
    refine k_callV C 6 [] mv_X7_139 rfl rfl (fun l D dA sz hl => s_X7_bad (by omega) hv l D dA sz hl) rfl rfl (by decide) g22 rfl (by omega) (Nat.le_of_ble_eq_true rfl) (hlim _ _ (by omega) (by omega)) dX7_waiting_14 (fun _ _ q => False.elim q) (fun v h20 hq => ?_)
    obtain ⟨v21, rfl, hv⟩ := qi_inv hq
    exact j_iret C dX7_waiting_17 (hlim _ _ (by omega) (by omega)) hv
def vc_X7_kind (t : Nat) (x1 : Int32) (h : Hp) (Q : Option AV ⊕ String → Hp → Prop) : Prop :=
    tg h t = 7 ∧ vc_X7_none t x1 (pI h 40 t (0 : Int32)) (qi (fun v3 h2 => ((v3 = 0 → tg h2 t = 7 ∧ ∃ a5 : Nat, fR h2 61 t = some a5 ∧ tg h2 a5 = 8 ∧ vp_in x1 (ln h2 a5) ∧ ((¬ (aI h2 a5 x1.toNatClampNeg) = 0 → vp_in x1 (ln h2 a5) ∧ ∃ a10 : Nat, fR h2 42 t = some a10 ∧ tg h2 a10 = 8 ∧ vp_in (aI h2 a5 x1.toNatClampNeg) (ln h2 a10) ∧ Q (.inl (some (vi (aI h2 a10 ((aI h2 a5 x1.toNatClampNeg).toNatClampNeg))))) h2) ∧ ((aI h2 a5 x1.toNatClampNeg) = 0 → Q (.inl (some (vi (-1 : Int32)))) h2))) ∧ (¬ v3 = 0 → tg h2 t = 7 ∧ vc_X7_bad t h2 (qi (fun v16 h15 => Q (.inl (some (vi v16))) h15) qn)))) qn)
set_option maxRecDepth 20000 in
theorem s_X7_kind {t : Nat} {x1 : Int32} {h : Hp} {Q : Option AV ⊕ String → Hp → Prop} {lv : Nat} (hlv : lv + 1 ≤ 12) (hv : vc_X7_kind t x1 h Q) (l : Launch) (D : va_G) (dA : Nat → ClassId) (sz : Nat) (hst : l.stackTraces = false) : Ctr l D dA sz (Cond.code yX7_kind cX7_kind 2 (some .int)) yX7_kind lv [vr (some t), vi x1] h 0 0 Q := by
  refine Ctr.of (lo := [some (vr (some t)), some (vi x1)]) hst (by decide) (by simp [ena, isL]) rfl ?_
  intro G hg hlim C
  unfold vc_X7_kind at hv
  refine j_aload_n C dX7_kind_0 rfl ?_
  refine j_iconst (v := (0 : Int32)) C dX7_kind_1 (by decide) ?_
  obtain ⟨g1, hv⟩ := hv
  refine pf_X7_1 C rfl g1 dX7_kind_2 ?_
  refine j_aload_n C dX7_kind_5 rfl ?_
  refine j_iload_n C dX7_kind_6 rfl ?_
  refine k_callV C 6 [vi x1] mv_X7_136 rfl rfl (fun l D dA sz hl => s_X7_none (by omega) hv l D dA sz hl) rfl rfl (by decide) g1 rfl (by omega) (Nat.le_of_ble_eq_true rfl) (hlim _ _ (by omega) (by omega)) dX7_kind_7 (fun _ _ q => False.elim q) (fun v h2 hq => ?_)
  obtain ⟨v3, rfl, hv⟩ := qi_inv hq
  refine j_if_eq (tgt := 18) C dX7_kind_10 (by decide) ⟨fun q18 => ?_, fun q18 => ?_⟩
  · have hv := hv.1 q18
    refine j_aload_n C dX7_kind_18 rfl ?_
    obtain ⟨g4, hv⟩ := hv
    refine gf_X7_64 C rfl g4 dX7_kind_19 ?_
    refine j_iload_n C dX7_kind_22 rfl ?_
    obtain ⟨a5, e6, hv⟩ := hv
    obtain ⟨g7, hv⟩ := hv
    obtain ⟨b8, hv⟩ := hv
    refine k_iald (j := x1.toNatClampNeg) C e6 g7 b8 rfl dX7_kind_23 ?_
    refine j_if_ne (tgt := 31) C dX7_kind_24 (by decide) ⟨fun q14 => ?_, fun q14 => ?_⟩
    · have hv := hv.1 q14
      refine j_aload_n C dX7_kind_31 rfl ?_
      refine gf_X7_13 C rfl g4 dX7_kind_32 ?_
      refine j_aload_n C dX7_kind_35 rfl ?_
      refine gf_X7_64 C rfl g4 dX7_kind_36 ?_
      refine j_iload_n C dX7_kind_39 rfl ?_
      obtain ⟨b9, hv⟩ := hv
      refine k_iald (j := x1.toNatClampNeg) C e6 g7 b9 rfl dX7_kind_40 ?_
      obtain ⟨a10, e11, hv⟩ := hv
      obtain ⟨g12, hv⟩ := hv
      obtain ⟨b13, hv⟩ := hv
      refine k_iald (j := (aI h2 a5 x1.toNatClampNeg).toNatClampNeg) C e11 g12 b13 rfl dX7_kind_41 ?_
      exact j_iret C dX7_kind_42 (hlim _ _ (by omega) (by omega)) hv
    · have hv := hv.2 q14
      refine j_iconst (v := (-1 : Int32)) C dX7_kind_27 (by decide) ?_
      refine j_goto (tgt := 42) C dX7_kind_28 (by decide) ?_
      exact j_iret C dX7_kind_42 (hlim _ _ (by omega) (by omega)) hv
  · have hv := hv.2 q18
    refine j_aload_n C dX7_kind_13 rfl ?_
    obtain ⟨g17, hv⟩ := hv
    refine k_callV C 6 [] mv_X7_139 rfl rfl (fun l D dA sz hl => s_X7_bad (by omega) hv l D dA sz hl) rfl rfl (by decide) g17 rfl (by omega) (Nat.le_of_ble_eq_true rfl) (hlim _ _ (by omega) (by omega)) dX7_kind_14 (fun _ _ q => False.elim q) (fun v h15 hq => ?_)
    obtain ⟨v16, rfl, hv⟩ := qi_inv hq
    exact j_iret C dX7_kind_17 (hlim _ _ (by omega) (by omega)) hv
def vc_X7_hash (t : Nat) (x1 : Int32) (h : Hp) (Q : Option AV ⊕ String → Hp → Prop) : Prop :=
    ∀ (P55 : Int32 → Hp → Prop),
    (∀ (y2 : Int32) (h : Hp), (((¬ y2 = 0 → tg h t = 7 ∧ ∃ a21 : Nat, fR h 46 t = some a21 ∧ tg h a21 = 8 ∧ vp_in y2 (ln h a21) ∧ Q (.inl (some (vi (aI h a21 y2.toNatClampNeg)))) h) ∧ (y2 = 0 → Q (.inl (some (vi (0 : Int32)))) h))) → P55 y2 h) →
    tg h t = 7 ∧ vc_X7_none t x1 (pI h 40 t (0 : Int32)) (qi (fun v3 h2 => ((v3 = 0 → tg h2 t = 7 ∧ ∃ a5 : Nat, fR h2 61 t = some a5 ∧ tg h2 a5 = 8 ∧ vp_in x1 (ln h2 a5) ∧ (((aI h2 a5 x1.toNatClampNeg) = 0 → P55 (aI h2 a5 x1.toNatClampNeg) h2) ∧ (¬ (aI h2 a5 x1.toNatClampNeg) = 0 → ∃ a9 : Nat, fR h2 46 t = some a9 ∧ tg h2 a9 = 8 ∧ vp_in (aI h2 a5 x1.toNatClampNeg) (ln h2 a9) ∧ ((¬ (aI h2 a9 ((aI h2 a5 x1.toNatClampNeg).toNatClampNeg)) = 0 → P55 (aI h2 a5 x1.toNatClampNeg) h2) ∧ ((aI h2 a9 ((aI h2 a5 x1.toNatClampNeg).toNatClampNeg)) = 0 → vp_in (aI h2 a5 x1.toNatClampNeg) (ln h2 a9) ∧ P55 (aI h2 a5 x1.toNatClampNeg) (qI (pI h2 71 t ((fI h2 71 t) + (1 : Int32))) a9 ((aI h2 a5 x1.toNatClampNeg).toNatClampNeg) ((fI h2 71 t) + (1 : Int32)))))))) ∧ (¬ v3 = 0 → tg h2 t = 7 ∧ vc_X7_bad t h2 (qi (fun v17 h16 => Q (.inl (some (vi v17))) h16) qn)))) qn)
set_option maxRecDepth 20000 in
theorem s_X7_hash {t : Nat} {x1 : Int32} {h : Hp} {Q : Option AV ⊕ String → Hp → Prop} {lv : Nat} (hlv : lv + 1 ≤ 12) (hv : vc_X7_hash t x1 h Q) (l : Launch) (D : va_G) (dA : Nat → ClassId) (sz : Nat) (hst : l.stackTraces = false) : Ctr l D dA sz (Cond.code yX7_hash cX7_hash 3 (some .int)) yX7_hash lv [vr (some t), vi x1] h 0 0 Q := by
  refine Ctr.of (lo := [some (vr (some t)), some (vi x1), none]) hst (by decide) (by simp [ena, isL]) rfl ?_
  intro G hg hlim C
  unfold vc_X7_hash at hv
  have hv := hv (fun y2 h => J G Q 55 [some (vr (some t)), none, some (vi y2)] [] h 0 0)
  have hv := hv (by
      intro y2 h hv
      refine j_iload_n C dX7_hash_55 rfl ?_
      refine j_if_ne (tgt := 63) C dX7_hash_56 (by decide) ⟨fun q25 => ?_, fun q25 => ?_⟩
      · have hv := hv.1 q25
        refine j_aload_n C dX7_hash_63 rfl ?_
        obtain ⟨g20, hv⟩ := hv
        refine gf_X7_26 C rfl g20 dX7_hash_64 ?_
        refine j_iload_n C dX7_hash_67 rfl ?_
        obtain ⟨a21, e22, hv⟩ := hv
        obtain ⟨g23, hv⟩ := hv
        obtain ⟨b24, hv⟩ := hv
        refine k_iald (j := y2.toNatClampNeg) C e22 g23 b24 rfl dX7_hash_68 ?_
        exact j_iret C dX7_hash_69 (hlim _ _ (by omega) (by omega)) hv
      · have hv := hv.2 q25
        refine j_iconst (v := (0 : Int32)) C dX7_hash_59 (by decide) ?_
        refine j_goto (tgt := 69) C dX7_hash_60 (by decide) ?_
        exact j_iret C dX7_hash_69 (hlim _ _ (by omega) (by omega)) hv)
  refine j_aload_n C dX7_hash_0 rfl ?_
  refine j_iconst (v := (0 : Int32)) C dX7_hash_1 (by decide) ?_
  obtain ⟨g1, hv⟩ := hv
  refine pf_X7_1 C rfl g1 dX7_hash_2 ?_
  refine j_aload_n C dX7_hash_5 rfl ?_
  refine j_iload_n C dX7_hash_6 rfl ?_
  refine k_callV C 6 [vi x1] mv_X7_136 rfl rfl (fun l D dA sz hl => s_X7_none (by omega) hv l D dA sz hl) rfl rfl (by decide) g1 rfl (by omega) (Nat.le_of_ble_eq_true rfl) (hlim _ _ (by omega) (by omega)) dX7_hash_7 (fun _ _ q => False.elim q) (fun v h2 hq => ?_)
  obtain ⟨v3, rfl, hv⟩ := qi_inv hq
  refine j_if_eq (tgt := 18) C dX7_hash_10 (by decide) ⟨fun q19 => ?_, fun q19 => ?_⟩
  · have hv := hv.1 q19
    refine j_aload_n C dX7_hash_18 rfl ?_
    obtain ⟨g4, hv⟩ := hv
    refine gf_X7_64 C rfl g4 dX7_hash_19 ?_
    refine j_iload_n C dX7_hash_22 rfl ?_
    obtain ⟨a5, e6, hv⟩ := hv
    obtain ⟨g7, hv⟩ := hv
    obtain ⟨b8, hv⟩ := hv
    refine k_iald (j := x1.toNatClampNeg) C e6 g7 b8 rfl dX7_hash_23 ?_
    refine j_istore_n (lo' := [some (vr (some t)), some (vi x1), some (vi (aI h2 a5 x1.toNatClampNeg))]) C dX7_hash_24 (Nat.le_of_ble_eq_true rfl) rfl ?_
    refine j_iload_n C dX7_hash_25 rfl ?_
    refine j_if_eq (tgt := 55) C dX7_hash_26 (by decide) ⟨fun q15 => ?_, fun q15 => ?_⟩
    · have hv := hv.1 q15
      exact j_sub (by exact (And.intro rfl (And.intro rfl trivial))) hv
    · have hv := hv.2 q15
      refine j_aload_n C dX7_hash_29 rfl ?_
      refine gf_X7_26 C rfl g4 dX7_hash_30 ?_
      refine j_iload_n C dX7_hash_33 rfl ?_
      obtain ⟨a9, e10, hv⟩ := hv
      obtain ⟨g11, hv⟩ := hv
      obtain ⟨b12, hv⟩ := hv
      refine k_iald (j := (aI h2 a5 x1.toNatClampNeg).toNatClampNeg) C e10 g11 b12 rfl dX7_hash_34 ?_
      refine j_if_ne (tgt := 55) C dX7_hash_35 (by decide) ⟨fun q14 => ?_, fun q14 => ?_⟩
      · have hv := hv.1 q14
        exact j_sub (by exact (And.intro rfl (And.intro rfl trivial))) hv
      · have hv := hv.2 q14
        refine j_aload_n C dX7_hash_38 rfl ?_
        refine gf_X7_26 C rfl g4 dX7_hash_39 ?_
        refine j_iload_n C dX7_hash_42 rfl ?_
        refine j_aload_n C dX7_hash_43 rfl ?_
        refine j_dup C dX7_hash_44 rfl ?_
        refine gf_X7_179 C rfl g4 dX7_hash_45 ?_
        refine j_iconst (v := (1 : Int32)) C dX7_hash_48 (by decide) ?_
        refine j_iadd C dX7_hash_49 ?_
        refine j_dup_x1 C dX7_hash_50 rfl rfl ?_
        refine pf_X7_179 C rfl g4 dX7_hash_51 ?_
        obtain ⟨b13, hv⟩ := hv
        refine k_iast (j := (aI h2 a5 x1.toNatClampNeg).toNatClampNeg) C e10 g11 b13 rfl dX7_hash_54 ?_
        exact j_sub (by exact (And.intro rfl (And.intro rfl trivial))) hv
  · have hv := hv.2 q19
    refine j_aload_n C dX7_hash_13 rfl ?_
    obtain ⟨g18, hv⟩ := hv
    refine k_callV C 6 [] mv_X7_139 rfl rfl (fun l D dA sz hl => s_X7_bad (by omega) hv l D dA sz hl) rfl rfl (by decide) g18 rfl (by omega) (Nat.le_of_ble_eq_true rfl) (hlim _ _ (by omega) (by omega)) dX7_hash_14 (fun _ _ q => False.elim q) (fun v h16 hq => ?_)
    obtain ⟨v17, rfl, hv⟩ := qi_inv hq
    exact j_iret C dX7_hash_17 (hlim _ _ (by omega) (by omega)) hv
def vc_X7_same (t : Nat) (x1 : Int32) (x2 : Int32) (h : Hp) (Q : Option AV ⊕ String → Hp → Prop) : Prop :=
    ∀ (P21 : Hp → Prop),
    (∀  (h : Hp), (tg h t = 7 ∧ Q (.inl (some (vi (0 : Int32)))) (pI h 40 t (1 : Int32))) → P21 h) →
    tg h t = 7 ∧ vc_X7_none t x1 (pI h 40 t (0 : Int32)) (qi (fun v3 h2 => ((¬ v3 = 0 → P21 h2) ∧ (v3 = 0 → tg h2 t = 7 ∧ vc_X7_none t x2 h2 (qi (fun v5 h4 => ((v5 = 0 → tg h4 t = 7 ∧ ∃ a8 : Nat, fR h4 61 t = some a8 ∧ tg h4 a8 = 8 ∧ vp_in x1 (ln h4 a8) ∧ vp_in x2 (ln h4 a8) ∧ ((¬ (aI h4 a8 x1.toNatClampNeg) = (aI h4 a8 x2.toNatClampNeg) → Q (.inl (some (vi (0 : Int32)))) h4) ∧ ((aI h4 a8 x1.toNatClampNeg) = (aI h4 a8 x2.toNatClampNeg) → Q (.inl (some (vi (1 : Int32)))) h4))) ∧ (¬ v5 = 0 → P21 h4))) qn)))) qn)
set_option maxRecDepth 20000 in
theorem s_X7_same {t : Nat} {x1 : Int32} {x2 : Int32} {h : Hp} {Q : Option AV ⊕ String → Hp → Prop} {lv : Nat} (hlv : lv + 1 ≤ 12) (hv : vc_X7_same t x1 x2 h Q) (l : Launch) (D : va_G) (dA : Nat → ClassId) (sz : Nat) (hst : l.stackTraces = false) : Ctr l D dA sz (Cond.code yX7_same cX7_same 3 (some .boolean)) yX7_same lv [vr (some t), vi x1, vi x2] h 0 0 Q := by
  refine Ctr.of (lo := [some (vr (some t)), some (vi x1), some (vi x2)]) hst (by decide) (by simp [ena, isL]) rfl ?_
  intro G hg hlim C
  unfold vc_X7_same at hv
  have hv := hv (fun  h => J G Q 21 [some (vr (some t)), none, none] [] h 0 0)
  have hv := hv (by
      intro  h hv
      refine j_aload_n C dX7_same_21 rfl ?_
      refine j_iconst (v := (1 : Int32)) C dX7_same_22 (by decide) ?_
      obtain ⟨g16, hv⟩ := hv
      refine pf_X7_1 C rfl g16 dX7_same_23 ?_
      refine j_iconst (v := (0 : Int32)) C dX7_same_26 (by decide) ?_
      exact j_zret C (Or.inl rfl) dX7_same_27 (hlim _ _ (by omega) (by omega)) hv)
  refine j_aload_n C dX7_same_0 rfl ?_
  refine j_iconst (v := (0 : Int32)) C dX7_same_1 (by decide) ?_
  obtain ⟨g1, hv⟩ := hv
  refine pf_X7_1 C rfl g1 dX7_same_2 ?_
  refine j_aload_n C dX7_same_5 rfl ?_
  refine j_iload_n C dX7_same_6 rfl ?_
  refine k_callV C 6 [vi x1] mv_X7_136 rfl rfl (fun l D dA sz hl => s_X7_none (by omega) hv l D dA sz hl) rfl rfl (by decide) g1 rfl (by omega) (Nat.le_of_ble_eq_true rfl) (hlim _ _ (by omega) (by omega)) dX7_same_7 (fun _ _ q => False.elim q) (fun v h2 hq => ?_)
  obtain ⟨v3, rfl, hv⟩ := qi_inv hq
  refine j_if_ne (tgt := 21) C dX7_same_10 (by decide) ⟨fun q15 => ?_, fun q15 => ?_⟩
  · have hv := hv.1 q15
    exact j_sub (by exact (And.intro rfl trivial)) hv
  · have hv := hv.2 q15
    refine j_aload_n C dX7_same_13 rfl ?_
    refine j_iload_n C dX7_same_14 rfl ?_
    obtain ⟨g6, hv⟩ := hv
    refine k_callV C 6 [vi x2] mv_X7_136 rfl rfl (fun l D dA sz hl => s_X7_none (by omega) hv l D dA sz hl) rfl rfl (by decide) g6 rfl (by omega) (Nat.le_of_ble_eq_true rfl) (hlim _ _ (by omega) (by omega)) dX7_same_15 (fun _ _ q => False.elim q) (fun v h4 hq => ?_)
    obtain ⟨v5, rfl, hv⟩ := qi_inv hq
    refine j_if_eq (tgt := 28) C dX7_same_18 (by decide) ⟨fun q14 => ?_, fun q14 => ?_⟩
    · have hv := hv.1 q14
      refine j_aload_n C dX7_same_28 rfl ?_
      obtain ⟨g7, hv⟩ := hv
      refine gf_X7_64 C rfl g7 dX7_same_29 ?_
      refine j_iload_n C dX7_same_32 rfl ?_
      obtain ⟨a8, e9, hv⟩ := hv
      obtain ⟨g10, hv⟩ := hv
      obtain ⟨b11, hv⟩ := hv
      refine k_iald (j := x1.toNatClampNeg) C e9 g10 b11 rfl dX7_same_33 ?_
      refine j_aload_n C dX7_same_34 rfl ?_
      refine gf_X7_64 C rfl g7 dX7_same_35 ?_
      refine j_iload_n C dX7_same_38 rfl ?_
      obtain ⟨b12, hv⟩ := hv
      refine k_iald (j := x2.toNatClampNeg) C e9 g10 b12 rfl dX7_same_39 ?_
      refine j_icmp_ne (tgt := 47) C dX7_same_40 (by decide) ⟨fun q13 => ?_, fun q13 => ?_⟩
      · have hv := hv.1 q13
        refine j_iconst (v := (0 : Int32)) C dX7_same_47 (by decide) ?_
        exact j_zret C (Or.inl rfl) dX7_same_48 (hlim _ _ (by omega) (by omega)) hv
      · have hv := hv.2 q13
        refine j_iconst (v := (1 : Int32)) C dX7_same_43 (by decide) ?_
        refine j_goto (tgt := 48) C dX7_same_44 (by decide) ?_
        exact j_zret C (Or.inr rfl) dX7_same_48 (hlim _ _ (by omega) (by omega)) hv
    · have hv := hv.2 q14
      exact j_sub (by exact (And.intro rfl trivial)) hv
def vc_X7_open (t : Nat) (x1 : Int32) (h : Hp) (Q : Option AV ⊕ String → Hp → Prop) : Prop :=
    ∀ (P16 : Hp → Prop) (P57 : Int32 → Hp → Prop),
    (∀  (h : Hp), (tg h t = 7 ∧ vc_X7_bad t h (qi (fun v12 h11 => Q (.inl (some (vi v12))) h11) qn)) → P16 h) →
    (∀ (y2 : Int32) (h : Hp), (((x1 ≤ y2 → tg h t = 7 ∧ Q (.inl (some (vi ((fI h 63 t) - x1)))) h) ∧ (¬ x1 ≤ y2 → tg h t = 7 ∧ ∃ a16 : Nat, fR h 61 t = some a16 ∧ tg h a16 = 8 ∧ vp_in (fI h 63 t) (ln h a16) ∧ P57 (y2 + 1) (qI (pI h 63 t ((fI h 63 t) + (1 : Int32))) a16 ((fI h 63 t).toNatClampNeg) (0 : Int32))))) → P57 y2 h) →
    tg h t = 7 ∧ ((x1 < (1 : Int32) → P16 (pI h 40 t (0 : Int32))) ∧ (¬ x1 < (1 : Int32) → ((x1 ≤ (16 : Int32) → ((¬ (fI h 64 t) = (20 : Int32) → ∃ a2 : Nat, fR h 62 t = some a2 ∧ tg h a2 = 8 ∧ vp_in (fI h 64 t) (ln h a2) ∧ P57 (0 : Int32) (qI (pI (pI h 40 t (0 : Int32)) 64 t ((fI h 64 t) + (1 : Int32))) a2 ((fI h 64 t).toNatClampNeg) (fI h 63 t))) ∧ ((fI h 64 t) = (20 : Int32) → vc_X7_wrong t (pI h 40 t (0 : Int32)) (qi (fun v7 h6 => Q (.inl (some (vi v7))) h6) qn)))) ∧ (¬ x1 ≤ (16 : Int32) → P16 (pI h 40 t (0 : Int32))))))
set_option maxRecDepth 20000 in
theorem s_X7_open {t : Nat} {x1 : Int32} {h : Hp} {Q : Option AV ⊕ String → Hp → Prop} {lv : Nat} (hlv : lv + 1 ≤ 12) (hv : vc_X7_open t x1 h Q) (l : Launch) (D : va_G) (dA : Nat → ClassId) (sz : Nat) (hst : l.stackTraces = false) : Ctr l D dA sz (Cond.code yX7_open cX7_open 3 (some .int)) yX7_open lv [vr (some t), vi x1] h 0 0 Q := by
  refine Ctr.of (lo := [some (vr (some t)), some (vi x1), none]) hst (by decide) (by simp [ena, isL]) rfl ?_
  intro G hg hlim C
  unfold vc_X7_open at hv
  have hv := hv (fun  h => J G Q 16 [some (vr (some t)), none, none] [] h 0 0) (fun y2 h => J G Q 57 [some (vr (some t)), some (vi x1), some (vi y2)] [] h 0 0)
  have hv := hv (by
      intro  h hv
      refine j_aload_n C dX7_open_16 rfl ?_
      obtain ⟨g13, hv⟩ := hv
      refine k_callV C 6 [] mv_X7_139 rfl rfl (fun l D dA sz hl => s_X7_bad (by omega) hv l D dA sz hl) rfl rfl (by decide) g13 rfl (by omega) (Nat.le_of_ble_eq_true rfl) (hlim _ _ (by omega) (by omega)) dX7_open_17 (fun _ _ q => False.elim q) (fun v h11 hq => ?_)
      obtain ⟨v12, rfl, hv⟩ := qi_inv hq
      exact j_iret C dX7_open_20 (hlim _ _ (by omega) (by omega)) hv)
  have hv := hv (by
      intro y2 h hv
      refine j_iload_n C dX7_open_57 rfl ?_
      refine j_iload_n C dX7_open_58 rfl ?_
      refine j_icmp_ge (tgt := 85) C dX7_open_59 (by decide) ⟨fun q20 => ?_, fun q20 => ?_⟩
      · have hv := hv.1 q20
        refine j_aload_n C dX7_open_85 rfl ?_
        obtain ⟨g14, hv⟩ := hv
        refine gf_X7_70 C rfl g14 dX7_open_86 ?_
        refine j_iload_n C dX7_open_89 rfl ?_
        refine j_isub C dX7_open_90 ?_
        exact j_iret C dX7_open_91 (hlim _ _ (by omega) (by omega)) hv
      · have hv := hv.2 q20
        refine j_aload_n C dX7_open_62 rfl ?_
        obtain ⟨g15, hv⟩ := hv
        refine gf_X7_64 C rfl g15 dX7_open_63 ?_
        refine j_aload_n C dX7_open_66 rfl ?_
        refine j_dup C dX7_open_67 rfl ?_
        refine gf_X7_70 C rfl g15 dX7_open_68 ?_
        refine j_dup_x1 C dX7_open_71 rfl rfl ?_
        refine j_iconst (v := (1 : Int32)) C dX7_open_72 (by decide) ?_
        refine j_iadd C dX7_open_73 ?_
        refine pf_X7_70 C rfl g15 dX7_open_74 ?_
        refine j_iconst (v := (0 : Int32)) C dX7_open_77 (by decide) ?_
        obtain ⟨a16, e17, hv⟩ := hv
        obtain ⟨g18, hv⟩ := hv
        obtain ⟨b19, hv⟩ := hv
        refine k_iast (j := (fI h 63 t).toNatClampNeg) C e17 g18 b19 rfl dX7_open_78 ?_
        refine j_iinc (v := y2 + 1) (lo' := [some (vr (some t)), some (vi x1), some (vi (y2 + 1))]) C dX7_open_79 rfl rfl rfl ?_
        refine j_goto (tgt := 57) C dX7_open_82 (by decide) ?_
        exact j_sub (by exact (And.intro rfl (And.intro rfl (And.intro rfl trivial)))) hv)
  refine j_aload_n C dX7_open_0 rfl ?_
  refine j_iconst (v := (0 : Int32)) C dX7_open_1 (by decide) ?_
  obtain ⟨g1, hv⟩ := hv
  refine pf_X7_1 C rfl g1 dX7_open_2 ?_
  refine j_iload_n C dX7_open_5 rfl ?_
  refine j_iconst (v := (1 : Int32)) C dX7_open_6 (by decide) ?_
  refine j_icmp_lt (tgt := 16) C dX7_open_7 (by decide) ⟨fun q10 => ?_, fun q10 => ?_⟩
  · have hv := hv.1 q10
    exact j_sub (by exact (And.intro rfl trivial)) hv
  · have hv := hv.2 q10
    refine j_iload_n C dX7_open_10 rfl ?_
    refine j_bipush (v := (16 : Int32)) C dX7_open_11 (by decide) ?_
    refine j_icmp_le (tgt := 21) C dX7_open_13 (by decide) ⟨fun q9 => ?_, fun q9 => ?_⟩
    · have hv := hv.1 q9
      refine j_aload_n C dX7_open_21 rfl ?_
      refine gf_X7_182 C rfl g1 dX7_open_22 ?_
      refine j_bipush (v := (20 : Int32)) C dX7_open_25 (by decide) ?_
      refine j_icmp_ne (tgt := 35) C dX7_open_27 (by decide) ⟨fun q8 => ?_, fun q8 => ?_⟩
      · have hv := hv.1 q8
        refine j_aload_n C dX7_open_35 rfl ?_
        refine gf_X7_67 C rfl g1 dX7_open_36 ?_
        refine j_aload_n C dX7_open_39 rfl ?_
        refine j_dup C dX7_open_40 rfl ?_
        refine gf_X7_182 C rfl g1 dX7_open_41 ?_
        refine j_dup_x1 C dX7_open_44 rfl rfl ?_
        refine j_iconst (v := (1 : Int32)) C dX7_open_45 (by decide) ?_
        refine j_iadd C dX7_open_46 ?_
        refine pf_X7_182 C rfl g1 dX7_open_47 ?_
        refine j_aload_n C dX7_open_50 rfl ?_
        refine gf_X7_70 C rfl g1 dX7_open_51 ?_
        obtain ⟨a2, e3, hv⟩ := hv
        obtain ⟨g4, hv⟩ := hv
        obtain ⟨b5, hv⟩ := hv
        refine k_iast (j := (fI h 64 t).toNatClampNeg) C e3 g4 b5 rfl dX7_open_54 ?_
        refine j_iconst (v := (0 : Int32)) C dX7_open_55 (by decide) ?_
        refine j_istore_n (lo' := [some (vr (some t)), some (vi x1), some (vi (0 : Int32))]) C dX7_open_56 (Nat.le_of_ble_eq_true rfl) rfl ?_
        exact j_sub (by exact (And.intro rfl (And.intro rfl (And.intro rfl trivial)))) hv
      · have hv := hv.2 q8
        refine j_aload_n C dX7_open_30 rfl ?_
        refine k_callV C 6 [] mv_X7_160 rfl rfl (fun l D dA sz hl => s_X7_wrong (by omega) hv l D dA sz hl) rfl rfl (by decide) g1 rfl (by omega) (Nat.le_of_ble_eq_true rfl) (hlim _ _ (by omega) (by omega)) dX7_open_31 (fun _ _ q => False.elim q) (fun v h6 hq => ?_)
        obtain ⟨v7, rfl, hv⟩ := qi_inv hq
        exact j_iret C dX7_open_34 (hlim _ _ (by omega) (by omega)) hv
    · have hv := hv.2 q9
      exact j_sub (by exact (And.intro rfl trivial)) hv
def vc_X7_close (t : Nat) (h : Hp) (Q : Option AV ⊕ String → Hp → Prop) : Prop :=
    tg h t = 7 ∧ ((¬ (fI h 64 t) = 0 → ∃ a2 : Nat, fR h 62 t = some a2 ∧ tg h a2 = 8 ∧ vp_in ((fI h 64 t) - (1 : Int32)) (ln h a2) ∧ Q (.inl (some (vi (fI (pI (pI (pI h 40 t (0 : Int32)) 64 t ((fI h 64 t) - (1 : Int32))) 63 t (aI h a2 (((fI h 64 t) - (1 : Int32)).toNatClampNeg))) 63 t)))) (pI (pI (pI h 40 t (0 : Int32)) 64 t ((fI h 64 t) - (1 : Int32))) 63 t (aI h a2 (((fI h 64 t) - (1 : Int32)).toNatClampNeg)))) ∧ ((fI h 64 t) = 0 → Q (.inl (some (vi (0 : Int32)))) (pI (pI h 40 t (0 : Int32)) 40 t (1 : Int32))))
set_option maxRecDepth 20000 in
theorem s_X7_close {t : Nat} {h : Hp} {Q : Option AV ⊕ String → Hp → Prop} {lv : Nat} (hlv : lv + 0 ≤ 12) (hv : vc_X7_close t h Q) (l : Launch) (D : va_G) (dA : Nat → ClassId) (sz : Nat) (hst : l.stackTraces = false) : Ctr l D dA sz (Cond.code yX7_close cX7_close 1 (some .int)) yX7_close lv [vr (some t)] h 0 0 Q := by
  refine Ctr.of (lo := [some (vr (some t))]) hst (by decide) (by simp [ena, isL]) rfl ?_
  intro G hg hlim C
  unfold vc_X7_close at hv
  refine j_aload_n C dX7_close_0 rfl ?_
  refine j_iconst (v := (0 : Int32)) C dX7_close_1 (by decide) ?_
  obtain ⟨g1, hv⟩ := hv
  refine pf_X7_1 C rfl g1 dX7_close_2 ?_
  refine j_aload_n C dX7_close_5 rfl ?_
  refine gf_X7_182 C rfl g1 dX7_close_6 ?_
  refine j_if_ne (tgt := 19) C dX7_close_9 (by decide) ⟨fun q6 => ?_, fun q6 => ?_⟩
  · have hv := hv.1 q6
    refine j_aload_n C dX7_close_19 rfl ?_
    refine j_aload_n C dX7_close_20 rfl ?_
    refine gf_X7_67 C rfl g1 dX7_close_21 ?_
    refine j_aload_n C dX7_close_24 rfl ?_
    refine j_dup C dX7_close_25 rfl ?_
    refine gf_X7_182 C rfl g1 dX7_close_26 ?_
    refine j_iconst (v := (1 : Int32)) C dX7_close_29 (by decide) ?_
    refine j_isub C dX7_close_30 ?_
    refine j_dup_x1 C dX7_close_31 rfl rfl ?_
    refine pf_X7_182 C rfl g1 dX7_close_32 ?_
    obtain ⟨a2, e3, hv⟩ := hv
    obtain ⟨g4, hv⟩ := hv
    obtain ⟨b5, hv⟩ := hv
    refine k_iald (j := ((fI h 64 t) - (1 : Int32)).toNatClampNeg) C e3 g4 b5 rfl dX7_close_35 ?_
    refine pf_X7_70 C rfl g1 dX7_close_36 ?_
    refine j_aload_n C dX7_close_39 rfl ?_
    refine gf_X7_70 C rfl g1 dX7_close_40 ?_
    exact j_iret C dX7_close_43 (hlim _ _ (by omega) (by omega)) hv
  · have hv := hv.2 q6
    refine j_aload_n C dX7_close_12 rfl ?_
    refine j_iconst (v := (1 : Int32)) C dX7_close_13 (by decide) ?_
    refine pf_X7_1 C rfl g1 dX7_close_14 ?_
    refine j_iconst (v := (0 : Int32)) C dX7_close_17 (by decide) ?_
    exact j_iret C dX7_close_18 (hlim _ _ (by omega) (by omega)) hv
def vc_X7_collect (t : Nat) (x1 : Int32) (h : Hp) (Q : Option AV ⊕ String → Hp → Prop) : Prop :=
    tg h t = 7 ∧ vc_X7_collectAll t x1 (pI h 40 t (0 : Int32)) (qi (fun v3 h2 => Q (.inl (some (vi v3))) h2) qn)
set_option maxRecDepth 20000 in
theorem s_X7_collect {t : Nat} {x1 : Int32} {h : Hp} {Q : Option AV ⊕ String → Hp → Prop} {lv : Nat} (hlv : lv + 3 ≤ 12) (hv : vc_X7_collect t x1 h Q) (l : Launch) (D : va_G) (dA : Nat → ClassId) (sz : Nat) (hst : l.stackTraces = false) : Ctr l D dA sz (Cond.code yX7_collect cX7_collect 2 (some .int)) yX7_collect lv [vr (some t), vi x1] h 0 0 Q := by
  refine Ctr.of (lo := [some (vr (some t)), some (vi x1)]) hst (by decide) (by simp [ena, isL]) rfl ?_
  intro G hg hlim C
  unfold vc_X7_collect at hv
  refine j_aload_n C dX7_collect_0 rfl ?_
  refine j_iconst (v := (0 : Int32)) C dX7_collect_1 (by decide) ?_
  obtain ⟨g1, hv⟩ := hv
  refine pf_X7_1 C rfl g1 dX7_collect_2 ?_
  refine j_aload_n C dX7_collect_5 rfl ?_
  refine j_iload_n C dX7_collect_6 rfl ?_
  refine k_callV C 6 [vi x1] mv_X7_83 rfl rfl (fun l D dA sz hl => s_X7_collectAll (by omega) hv l D dA sz hl) rfl rfl (by decide) g1 rfl (by omega) (Nat.le_of_ble_eq_true rfl) (hlim _ _ (by omega) (by omega)) dX7_collect_7 (fun _ _ q => False.elim q) (fun v h2 hq => ?_)
  obtain ⟨v3, rfl, hv⟩ := qi_inv hq
  exact j_iret C dX7_collect_10 (hlim _ _ (by omega) (by omega)) hv
def vc_X7_every (t : Nat) (x1 : Int32) (h : Hp) (Q : Option AV ⊕ String → Hp → Prop) : Prop :=
    tg h t = 7 ∧ ((0 ≤ x1 → Q (.inl (some (vi x1))) (pI h 40 t (0 : Int32))) ∧ (¬ 0 ≤ x1 → vc_X7_bad t (pI h 40 t (0 : Int32)) (qi (fun v3 h2 => Q (.inl (some (vi v3))) h2) qn)))
set_option maxRecDepth 20000 in
theorem s_X7_every {t : Nat} {x1 : Int32} {h : Hp} {Q : Option AV ⊕ String → Hp → Prop} {lv : Nat} (hlv : lv + 1 ≤ 12) (hv : vc_X7_every t x1 h Q) (l : Launch) (D : va_G) (dA : Nat → ClassId) (sz : Nat) (hst : l.stackTraces = false) : Ctr l D dA sz (Cond.code yX7_every cX7_every 2 (some .int)) yX7_every lv [vr (some t), vi x1] h 0 0 Q := by
  refine Ctr.of (lo := [some (vr (some t)), some (vi x1)]) hst (by decide) (by simp [ena, isL]) rfl ?_
  intro G hg hlim C
  unfold vc_X7_every at hv
  refine j_aload_n C dX7_every_0 rfl ?_
  refine j_iconst (v := (0 : Int32)) C dX7_every_1 (by decide) ?_
  obtain ⟨g1, hv⟩ := hv
  refine pf_X7_1 C rfl g1 dX7_every_2 ?_
  refine j_iload_n C dX7_every_5 rfl ?_
  refine j_if_ge (tgt := 16) C dX7_every_6 (by decide) ⟨fun q4 => ?_, fun q4 => ?_⟩
  · have hv := hv.1 q4
    refine j_iload_n C dX7_every_16 rfl ?_
    exact j_iret C dX7_every_17 (hlim _ _ (by omega) (by omega)) hv
  · have hv := hv.2 q4
    refine j_aload_n C dX7_every_9 rfl ?_
    refine k_callV C 6 [] mv_X7_139 rfl rfl (fun l D dA sz hl => s_X7_bad (by omega) hv l D dA sz hl) rfl rfl (by decide) g1 rfl (by omega) (Nat.le_of_ble_eq_true rfl) (hlim _ _ (by omega) (by omega)) dX7_every_10 (fun _ _ q => False.elim q) (fun v h2 hq => ?_)
    obtain ⟨v3, rfl, hv⟩ := qi_inv hq
    refine j_goto (tgt := 17) C dX7_every_13 (by decide) ?_
    exact j_iret C dX7_every_17 (hlim _ _ (by omega) (by omega)) hv
def vc_X7_count (t : Nat) (x1 : Int32) (h : Hp) (Q : Option AV ⊕ String → Hp → Prop) : Prop :=
    tg h t = 7 ∧ ((x1 = 0 → Q (.inl (some (vi (fI h 58 t)))) (pI h 40 t (0 : Int32))) ∧ (x1 = 1 → Q (.inl (some (vi (fI h 65 t)))) (pI h 40 t (0 : Int32))) ∧ (x1 = 2 → Q (.inl (some (vi (fI h 66 t)))) (pI h 40 t (0 : Int32))) ∧ (x1 = 3 → Q (.inl (some (vi (fI h 67 t)))) (pI h 40 t (0 : Int32))) ∧ (x1 = 4 → Q (.inl (some (vi (fI h 68 t)))) (pI h 40 t (0 : Int32))) ∧ (x1 = 5 → Q (.inl (some (vi (fI h 69 t)))) (pI h 40 t (0 : Int32))) ∧ (x1 = 6 → Q (.inl (some (vi (fI h 70 t)))) (pI h 40 t (0 : Int32))) ∧ (x1 = 7 → Q (.inl (some (vi (fI h 63 t)))) (pI h 40 t (0 : Int32))) ∧ (x1 = 8 → Q (.inl (some (vi (fI h 71 t)))) (pI h 40 t (0 : Int32))) ∧ (x1 = 9 → Q (.inl (some (vi (fI h 72 t)))) (pI h 40 t (0 : Int32))) ∧ ((x1.toInt < 0 ∨ 9 < x1.toInt) → vc_X7_bad t (pI h 40 t (0 : Int32)) (qi (fun v4 h3 => Q (.inl (some (vi v4))) h3) qn)))
set_option maxRecDepth 20000 in
theorem s_X7_count {t : Nat} {x1 : Int32} {h : Hp} {Q : Option AV ⊕ String → Hp → Prop} {lv : Nat} (hlv : lv + 1 ≤ 12) (hv : vc_X7_count t x1 h Q) (l : Launch) (D : va_G) (dA : Nat → ClassId) (sz : Nat) (hst : l.stackTraces = false) : Ctr l D dA sz (Cond.code yX7_count cX7_count 2 (some .int)) yX7_count lv [vr (some t), vi x1] h 0 0 Q := by
  refine Ctr.of (lo := [some (vr (some t)), some (vi x1)]) hst (by decide) (by simp [ena, isL]) rfl ?_
  intro G hg hlim C
  unfold vc_X7_count at hv
  refine j_aload_n C dX7_count_0 rfl ?_
  refine j_iconst (v := (0 : Int32)) C dX7_count_1 (by decide) ?_
  obtain ⟨g1, hv⟩ := hv
  refine pf_X7_1 C rfl g1 dX7_count_2 ?_
  refine j_iload_n C dX7_count_5 rfl ?_
  rcases sw_9 x1 with q2 | q2 | q2 | q2 | q2 | q2 | q2 | q2 | q2 | q2 | q2
  · have hv := hv.1 q2
    refine j_tableIn (off := 54) (tgt := 60) C dX7_count_6 (by rw [q2]; decide) (by rw [q2]; decide) (by rw [q2]; decide +kernel) (by decide) ?_
    refine j_aload_n C dX7_count_60 rfl ?_
    refine gf_X7_80 C rfl g1 dX7_count_61 ?_
    exact j_iret C dX7_count_64 (hlim _ _ (by omega) (by omega)) hv
  · have hv := hv.2.1 q2
    refine j_tableIn (off := 59) (tgt := 65) C dX7_count_6 (by rw [q2]; decide) (by rw [q2]; decide) (by rw [q2]; decide +kernel) (by decide) ?_
    refine j_aload_n C dX7_count_65 rfl ?_
    refine gf_X7_99 C rfl g1 dX7_count_66 ?_
    exact j_iret C dX7_count_69 (hlim _ _ (by omega) (by omega)) hv
  · have hv := hv.2.2.1 q2
    refine j_tableIn (off := 64) (tgt := 70) C dX7_count_6 (by rw [q2]; decide) (by rw [q2]; decide) (by rw [q2]; decide +kernel) (by decide) ?_
    refine j_aload_n C dX7_count_70 rfl ?_
    refine gf_X7_102 C rfl g1 dX7_count_71 ?_
    exact j_iret C dX7_count_74 (hlim _ _ (by omega) (by omega)) hv
  · have hv := hv.2.2.2.1 q2
    refine j_tableIn (off := 69) (tgt := 75) C dX7_count_6 (by rw [q2]; decide) (by rw [q2]; decide) (by rw [q2]; decide +kernel) (by decide) ?_
    refine j_aload_n C dX7_count_75 rfl ?_
    refine gf_X7_115 C rfl g1 dX7_count_76 ?_
    exact j_iret C dX7_count_79 (hlim _ _ (by omega) (by omega)) hv
  · have hv := hv.2.2.2.2.1 q2
    refine j_tableIn (off := 74) (tgt := 80) C dX7_count_6 (by rw [q2]; decide) (by rw [q2]; decide) (by rw [q2]; decide +kernel) (by decide) ?_
    refine j_aload_n C dX7_count_80 rfl ?_
    refine gf_X7_133 C rfl g1 dX7_count_81 ?_
    exact j_iret C dX7_count_84 (hlim _ _ (by omega) (by omega)) hv
  · have hv := hv.2.2.2.2.2.1 q2
    refine j_tableIn (off := 79) (tgt := 85) C dX7_count_6 (by rw [q2]; decide) (by rw [q2]; decide) (by rw [q2]; decide +kernel) (by decide) ?_
    refine j_aload_n C dX7_count_85 rfl ?_
    refine gf_X7_122 C rfl g1 dX7_count_86 ?_
    exact j_iret C dX7_count_89 (hlim _ _ (by omega) (by omega)) hv
  · have hv := hv.2.2.2.2.2.2.1 q2
    refine j_tableIn (off := 84) (tgt := 90) C dX7_count_6 (by rw [q2]; decide) (by rw [q2]; decide) (by rw [q2]; decide +kernel) (by decide) ?_
    refine j_aload_n C dX7_count_90 rfl ?_
    refine gf_X7_105 C rfl g1 dX7_count_91 ?_
    exact j_iret C dX7_count_94 (hlim _ _ (by omega) (by omega)) hv
  · have hv := hv.2.2.2.2.2.2.2.1 q2
    refine j_tableIn (off := 89) (tgt := 95) C dX7_count_6 (by rw [q2]; decide) (by rw [q2]; decide) (by rw [q2]; decide +kernel) (by decide) ?_
    refine j_aload_n C dX7_count_95 rfl ?_
    refine gf_X7_70 C rfl g1 dX7_count_96 ?_
    exact j_iret C dX7_count_99 (hlim _ _ (by omega) (by omega)) hv
  · have hv := hv.2.2.2.2.2.2.2.2.1 q2
    refine j_tableIn (off := 94) (tgt := 100) C dX7_count_6 (by rw [q2]; decide) (by rw [q2]; decide) (by rw [q2]; decide +kernel) (by decide) ?_
    refine j_aload_n C dX7_count_100 rfl ?_
    refine gf_X7_179 C rfl g1 dX7_count_101 ?_
    exact j_iret C dX7_count_104 (hlim _ _ (by omega) (by omega)) hv
  · have hv := hv.2.2.2.2.2.2.2.2.2.1 q2
    refine j_tableIn (off := 99) (tgt := 105) C dX7_count_6 (by rw [q2]; decide) (by rw [q2]; decide) (by rw [q2]; decide +kernel) (by decide) ?_
    refine j_aload_n C dX7_count_105 rfl ?_
    refine gf_X7_87 C rfl g1 dX7_count_106 ?_
    exact j_iret C dX7_count_109 (hlim _ _ (by omega) (by omega)) hv
  · have hv := hv.2.2.2.2.2.2.2.2.2.2 q2
    refine j_tableOut (tgt := 110) C dX7_count_6 q2 (by decide) ?_
    refine j_aload_n C dX7_count_110 rfl ?_
    refine k_callV C 6 [] mv_X7_139 rfl rfl (fun l D dA sz hl => s_X7_bad (by omega) hv l D dA sz hl) rfl rfl (by decide) g1 rfl (by omega) (Nat.le_of_ble_eq_true rfl) (hlim _ _ (by omega) (by omega)) dX7_count_111 (fun _ _ q => False.elim q) (fun v h3 hq => ?_)
    obtain ⟨v4, rfl, hv⟩ := qi_inv hq
    exact j_iret C dX7_count_114 (hlim _ _ (by omega) (by omega)) hv
def vc_X7_digest (t : Nat) (x1 : Int32) (h : Hp) (Q : Option AV ⊕ String → Hp → Prop) : Prop :=
    ∀ (P37 : Int64 → Int32 → Hp → Prop) (P95 : Int64 → Int32 → Int32 → Hp → Prop) (P144 : Int64 → Int32 → Int32 → Int32 → Int32 → Hp → Prop) (P258 : Int64 → Int32 → Int32 → Int32 → Int32 → Hp → Prop) (P210 : Int64 → Int32 → Int32 → Int32 → Int32 → Int32 → Hp → Prop) (P231 : Int32 → Int32 → Int32 → Int32 → Int32 → Int64 → Hp → Prop),
    (∀ (z2 : Int64) (y4 : Int32) (h : Hp), (tg h t = 7 ∧ (((fI h 59 t) ≤ y4 → ∃ a15 : Nat, fR h 61 t = some a15 ∧ tg h a15 = 8 ∧ vp_in x1 (ln h a15) ∧ ∃ a19 : Nat, fR h 54 t = some a19 ∧ tg h a19 = 8 ∧ vp_in (0 : Int32) (ln h a19) ∧ vp_in x1 (ln h a15) ∧ ∃ a24 : Nat, fR h 55 t = some a24 ∧ tg h a24 = 8 ∧ vp_in (aI (qI h a19 0 (aI h a15 x1.toNatClampNeg)) a15 x1.toNatClampNeg) (ln h a24) ∧ P95 z2 ((0 : Int32) + 1) (0 : Int32) (qI (qI h a19 0 (aI h a15 x1.toNatClampNeg)) a24 ((aI (qI h a19 0 (aI h a15 x1.toNatClampNeg)) a15 x1.toNatClampNeg).toNatClampNeg) ((0 : Int32) + 1))) ∧ (¬ (fI h 59 t) ≤ y4 → ∃ a28 : Nat, fR h 55 t = some a28 ∧ tg h a28 = 8 ∧ vp_in y4 (ln h a28) ∧ P37 z2 (y4 + 1) (qI h a28 y4.toNatClampNeg (0 : Int32))))) → P37 z2 y4 h) →
    (∀ (z2 : Int64) (y4 : Int32) (y5 : Int32) (h : Hp), (((y4 ≤ y5 → Q (.inl (some (vl z2))) h) ∧ (¬ y4 ≤ y5 → tg h t = 7 ∧ ∃ a34 : Nat, fR h 54 t = some a34 ∧ tg h a34 = 8 ∧ vp_in y5 (ln h a34) ∧ ∃ a38 : Nat, fR h 42 t = some a38 ∧ tg h a38 = 8 ∧ vp_in (aI h a34 y5.toNatClampNeg) (ln h a38) ∧ ∃ a42 : Nat, fR h 44 t = some a42 ∧ tg h a42 = 8 ∧ vp_in (aI h a34 y5.toNatClampNeg) (ln h a42) ∧ P144 (((31 : Int64) * (((31 : Int64) * z2) + ((aI h a38 ((aI h a34 y5.toNatClampNeg).toNatClampNeg)).toInt64))) + ((aI h a42 ((aI h a34 y5.toNatClampNeg).toNatClampNeg)).toInt64)) y4 y5 (aI h a34 y5.toNatClampNeg) (0 : Int32) h))) → P95 z2 y4 y5 h) →
    (∀ (z2 : Int64) (y4 : Int32) (y5 : Int32) (y6 : Int32) (y7 : Int32) (h : Hp), (tg h t = 7 ∧ ∃ a48 : Nat, fR h 44 t = some a48 ∧ tg h a48 = 8 ∧ vp_in y6 (ln h a48) ∧ (((aI h a48 y6.toNatClampNeg) ≤ y7 → ∃ a52 : Nat, fR h 45 t = some a52 ∧ tg h a52 = 8 ∧ vp_in y6 (ln h a52) ∧ P258 (((31 : Int64) * z2) + ((aI h a52 y6.toNatClampNeg).toInt64)) y4 y5 y6 (0 : Int32) h) ∧ (¬ (aI h a48 y6.toNatClampNeg) ≤ y7 → ∃ a56 : Nat, fR h 43 t = some a56 ∧ tg h a56 = 8 ∧ vp_in y6 (ln h a56) ∧ ∃ a60 : Nat, fR h 56 t = some a60 ∧ tg h a60 = 9 ∧ vp_in ((aI h a56 y6.toNatClampNeg) + y7) (ln h a60) ∧ ((((aL h a60 (((aI h a56 y6.toNatClampNeg) + y7).toNatClampNeg)).toInt32) = 0 → P210 z2 y4 y5 y6 y7 ((aL h a60 (((aI h a56 y6.toNatClampNeg) + y7).toNatClampNeg)).toInt32) h) ∧ (¬ ((aL h a60 (((aI h a56 y6.toNatClampNeg) + y7).toNatClampNeg)).toInt32) = 0 → ∃ a64 : Nat, fR h 55 t = some a64 ∧ tg h a64 = 8 ∧ vp_in ((aL h a60 (((aI h a56 y6.toNatClampNeg) + y7).toNatClampNeg)).toInt32) (ln h a64) ∧ ((¬ (aI h a64 (((aL h a60 (((aI h a56 y6.toNatClampNeg) + y7).toNatClampNeg)).toInt32).toNatClampNeg)) = 0 → P210 z2 y4 y5 y6 y7 ((aL h a60 (((aI h a56 y6.toNatClampNeg) + y7).toNatClampNeg)).toInt32) h) ∧ ((aI h a64 (((aL h a60 (((aI h a56 y6.toNatClampNeg) + y7).toNatClampNeg)).toInt32).toNatClampNeg)) = 0 → ∃ a68 : Nat, fR h 54 t = some a68 ∧ tg h a68 = 8 ∧ vp_in y4 (ln h a68) ∧ vp_in ((aL h a60 (((aI h a56 y6.toNatClampNeg) + y7).toNatClampNeg)).toInt32) (ln h a64) ∧ P210 z2 (y4 + 1) y5 y6 y7 ((aL h a60 (((aI h a56 y6.toNatClampNeg) + y7).toNatClampNeg)).toInt32) (qI (qI h a68 y4.toNatClampNeg ((aL h a60 (((aI h a56 y6.toNatClampNeg) + y7).toNatClampNeg)).toInt32)) a64 (((aL h a60 (((aI h a56 y6.toNatClampNeg) + y7).toNatClampNeg)).toInt32).toNatClampNeg) (y4 + 1))))))))) → P144 z2 y4 y5 y6 y7 h) →
    (∀ (z2 : Int64) (y4 : Int32) (y5 : Int32) (y6 : Int32) (y7 : Int32) (h : Hp), (tg h t = 7 ∧ ∃ a77 : Nat, fR h 45 t = some a77 ∧ tg h a77 = 8 ∧ vp_in y6 (ln h a77) ∧ (((aI h a77 y6.toNatClampNeg) ≤ y7 → P95 z2 y4 (y5 + 1) h) ∧ (¬ (aI h a77 y6.toNatClampNeg) ≤ y7 → ∃ a81 : Nat, fR h 43 t = some a81 ∧ tg h a81 = 8 ∧ vp_in y6 (ln h a81) ∧ ∃ a85 : Nat, fR h 44 t = some a85 ∧ tg h a85 = 8 ∧ vp_in y6 (ln h a85) ∧ ∃ a89 : Nat, fR h 56 t = some a89 ∧ tg h a89 = 9 ∧ vp_in (((aI h a81 y6.toNatClampNeg) + (aI h a85 y6.toNatClampNeg)) + y7) (ln h a89) ∧ P258 (((31 : Int64) * z2) + (aL h a89 ((((aI h a81 y6.toNatClampNeg) + (aI h a85 y6.toNatClampNeg)) + y7).toNatClampNeg))) y4 y5 y6 (y7 + 1) h))) → P258 z2 y4 y5 y6 y7 h) →
    (∀ (z2 : Int64) (y4 : Int32) (y5 : Int32) (y6 : Int32) (y7 : Int32) (y8 : Int32) (h : Hp), (((¬ y8 = 0 → tg h t = 7 ∧ ∃ a95 : Nat, fR h 55 t = some a95 ∧ tg h a95 = 8 ∧ vp_in y8 (ln h a95) ∧ P231 y4 y5 y6 y7 (aI h a95 y8.toNatClampNeg) ((31 : Int64) * z2) h) ∧ (y8 = 0 → P231 y4 y5 y6 y7 (0 : Int32) ((31 : Int64) * z2) h))) → P210 z2 y4 y5 y6 y7 y8 h) →
    (∀ (y4 : Int32) (y5 : Int32) (y6 : Int32) (y7 : Int32) (w0 : Int32) (s1 : Int64) (h : Hp), (P144 (s1 + w0.toInt64) y4 y5 y6 (y7 + 1) h) → P231 y4 y5 y6 y7 w0 s1 h) →
    tg h t = 7 ∧ vc_X7_none t x1 (pI h 40 t (0 : Int32)) (qi (fun v3 h2 => ((v3 = 0 → tg h2 t = 7 ∧ ∃ a5 : Nat, fR h2 61 t = some a5 ∧ tg h2 a5 = 8 ∧ vp_in x1 (ln h2 a5) ∧ ((¬ (aI h2 a5 x1.toNatClampNeg) = 0 → P37 (7 : Int64) (1 : Int32) h2) ∧ ((aI h2 a5 x1.toNatClampNeg) = 0 → Q (.inl (some (vl (7 : Int64)))) h2))) ∧ (¬ v3 = 0 → tg h2 t = 7 ∧ vc_X7_bad t h2 (qi (fun v11 h10 => Q (.inl (some (vl v11.toInt64))) h10) qn)))) qn)
set_option maxRecDepth 20000 in
theorem s_X7_digest {t : Nat} {x1 : Int32} {h : Hp} {Q : Option AV ⊕ String → Hp → Prop} {lv : Nat} (hlv : lv + 1 ≤ 12) (hv : vc_X7_digest t x1 h Q) (l : Launch) (D : va_G) (dA : Nat → ClassId) (sz : Nat) (hst : l.stackTraces = false) : Ctr l D dA sz (Cond.code yX7_digest cX7_digest 9 (some .long)) yX7_digest lv [vr (some t), vi x1] h 0 0 Q := by
  refine Ctr.of (lo := [some (vr (some t)), some (vi x1), none, none, none, none, none, none, none]) hst (by decide) (by simp [ena, isL]) rfl ?_
  intro G hg hlim C
  unfold vc_X7_digest at hv
  have hv := hv (fun z2 y4 h => J G Q 37 [some (vr (some t)), some (vi x1), some (vl z2), none, some (vi y4), none, none, none, none] [] h 0 0) (fun z2 y4 y5 h => J G Q 95 [some (vr (some t)), none, some (vl z2), none, some (vi y4), some (vi y5), none, none, none] [] h 0 0) (fun z2 y4 y5 y6 y7 h => J G Q 144 [some (vr (some t)), none, some (vl z2), none, some (vi y4), some (vi y5), some (vi y6), some (vi y7), none] [] h 0 0) (fun z2 y4 y5 y6 y7 h => J G Q 258 [some (vr (some t)), none, some (vl z2), none, some (vi y4), some (vi y5), some (vi y6), some (vi y7), none] [] h 0 0) (fun z2 y4 y5 y6 y7 y8 h => J G Q 210 [some (vr (some t)), none, some (vl z2), none, some (vi y4), some (vi y5), some (vi y6), some (vi y7), some (vi y8)] [] h 0 0) (fun y4 y5 y6 y7 w0 s1 h => J G Q 231 [some (vr (some t)), none, none, none, some (vi y4), some (vi y5), some (vi y6), some (vi y7), none] [vi w0, vl s1] h 0 0)
  have hv := hv (by
      intro z2 y4 h hv
      refine j_iload C dX7_digest_37 rfl ?_
      refine j_aload_n C dX7_digest_39 rfl ?_
      obtain ⟨g14, hv⟩ := hv
      refine gf_X7_61 C rfl g14 dX7_digest_40 ?_
      refine j_icmp_ge (tgt := 60) C dX7_digest_43 (by decide) ⟨fun q32 => ?_, fun q32 => ?_⟩
      · have hv := hv.1 q32
        refine j_iconst (v := (0 : Int32)) C dX7_digest_60 (by decide) ?_
        refine j_istore (lo' := [some (vr (some t)), some (vi x1), some (vl z2), none, some (vi (0 : Int32)), none, none, none, none]) C dX7_digest_61 (Nat.le_of_ble_eq_true rfl) rfl ?_
        refine j_aload_n C dX7_digest_63 rfl ?_
        refine gf_X7_51 C rfl g14 dX7_digest_64 ?_
        refine j_iload C dX7_digest_67 rfl ?_
        refine j_iinc (v := (0 : Int32) + 1) (lo' := [some (vr (some t)), some (vi x1), some (vl z2), none, some (vi ((0 : Int32) + 1)), none, none, none, none]) C dX7_digest_69 rfl rfl rfl ?_
        refine j_aload_n C dX7_digest_72 rfl ?_
        refine gf_X7_64 C rfl g14 dX7_digest_73 ?_
        refine j_iload_n C dX7_digest_76 rfl ?_
        obtain ⟨a15, e16, hv⟩ := hv
        obtain ⟨g17, hv⟩ := hv
        obtain ⟨b18, hv⟩ := hv
        refine k_iald (j := x1.toNatClampNeg) C e16 g17 b18 rfl dX7_digest_77 ?_
        obtain ⟨a19, e20, hv⟩ := hv
        obtain ⟨g21, hv⟩ := hv
        obtain ⟨b22, hv⟩ := hv
        refine k_iast (j := 0) C e20 g21 b22 (by decide) dX7_digest_78 ?_
        refine j_aload_n C dX7_digest_79 rfl ?_
        refine gf_X7_54 C rfl g14 dX7_digest_80 ?_
        refine j_aload_n C dX7_digest_83 rfl ?_
        refine gf_X7_64 C rfl g14 dX7_digest_84 ?_
        refine j_iload_n C dX7_digest_87 rfl ?_
        obtain ⟨b23, hv⟩ := hv
        refine k_iald (j := x1.toNatClampNeg) C e16 g17 b23 rfl dX7_digest_88 ?_
        refine j_iload C dX7_digest_89 rfl ?_
        obtain ⟨a24, e25, hv⟩ := hv
        obtain ⟨g26, hv⟩ := hv
        obtain ⟨b27, hv⟩ := hv
        refine k_iast (j := (aI (qI h a19 0 (aI h a15 x1.toNatClampNeg)) a15 x1.toNatClampNeg).toNatClampNeg) C e25 g26 b27 rfl dX7_digest_91 ?_
        refine j_iconst (v := (0 : Int32)) C dX7_digest_92 (by decide) ?_
        refine j_istore (lo' := [some (vr (some t)), some (vi x1), some (vl z2), none, some (vi ((0 : Int32) + 1)), some (vi (0 : Int32)), none, none, none]) C dX7_digest_93 (Nat.le_of_ble_eq_true rfl) rfl ?_
        exact j_sub (by exact (And.intro rfl (And.intro rfl (And.intro rfl (And.intro rfl trivial))))) hv
      · have hv := hv.2 q32
        refine j_aload_n C dX7_digest_46 rfl ?_
        refine gf_X7_54 C rfl g14 dX7_digest_47 ?_
        refine j_iload C dX7_digest_50 rfl ?_
        refine j_iconst (v := (0 : Int32)) C dX7_digest_52 (by decide) ?_
        obtain ⟨a28, e29, hv⟩ := hv
        obtain ⟨g30, hv⟩ := hv
        obtain ⟨b31, hv⟩ := hv
        refine k_iast (j := y4.toNatClampNeg) C e29 g30 b31 rfl dX7_digest_53 ?_
        refine j_iinc (v := y4 + 1) (lo' := [some (vr (some t)), some (vi x1), some (vl z2), none, some (vi (y4 + 1)), none, none, none, none]) C dX7_digest_54 rfl rfl rfl ?_
        refine j_goto (tgt := 37) C dX7_digest_57 (by decide) ?_
        exact j_sub (by exact (And.intro rfl (And.intro rfl (And.intro rfl (And.intro rfl trivial))))) hv)
  have hv := hv (by
      intro z2 y4 y5 h hv
      refine j_iload C dX7_digest_95 rfl ?_
      refine j_iload C dX7_digest_97 rfl ?_
      refine j_icmp_ge (tgt := 312) C dX7_digest_99 (by decide) ⟨fun q46 => ?_, fun q46 => ?_⟩
      · have hv := hv.1 q46
        refine j_lload_n C dX7_digest_312 rfl ?_
        exact j_lret C dX7_digest_313 (hlim _ _ (by omega) (by omega)) hv
      · have hv := hv.2 q46
        refine j_aload_n C dX7_digest_102 rfl ?_
        obtain ⟨g33, hv⟩ := hv
        refine gf_X7_51 C rfl g33 dX7_digest_103 ?_
        refine j_iload C dX7_digest_106 rfl ?_
        obtain ⟨a34, e35, hv⟩ := hv
        obtain ⟨g36, hv⟩ := hv
        obtain ⟨b37, hv⟩ := hv
        refine k_iald (j := y5.toNatClampNeg) C e35 g36 b37 rfl dX7_digest_108 ?_
        refine j_istore (lo' := [some (vr (some t)), none, some (vl z2), none, some (vi y4), some (vi y5), some (vi (aI h a34 y5.toNatClampNeg)), none, none]) C dX7_digest_109 (Nat.le_of_ble_eq_true rfl) rfl ?_
        refine j_ldc2 C wg_956 dX7_digest_111 ?_
        refine j_lload_n C dX7_digest_114 rfl ?_
        refine j_lmul C dX7_digest_115 ?_
        refine j_aload_n C dX7_digest_116 rfl ?_
        refine gf_X7_13 C rfl g33 dX7_digest_117 ?_
        refine j_iload C dX7_digest_120 rfl ?_
        obtain ⟨a38, e39, hv⟩ := hv
        obtain ⟨g40, hv⟩ := hv
        obtain ⟨b41, hv⟩ := hv
        refine k_iald (j := (aI h a34 y5.toNatClampNeg).toNatClampNeg) C e39 g40 b41 rfl dX7_digest_122 ?_
        refine j_i2l C dX7_digest_123 ?_
        refine j_ladd C dX7_digest_124 ?_
        refine j_lstore_n (lo' := [some (vr (some t)), none, some (vl (((31 : Int64) * z2) + ((aI h a38 ((aI h a34 y5.toNatClampNeg).toNatClampNeg)).toInt64))), none, some (vi y4), some (vi y5), some (vi (aI h a34 y5.toNatClampNeg)), none, none]) C dX7_digest_125 (Nat.le_of_ble_eq_true rfl) rfl ?_
        refine j_ldc2 C wg_956 dX7_digest_126 ?_
        refine j_lload_n C dX7_digest_129 rfl ?_
        refine j_lmul C dX7_digest_130 ?_
        refine j_aload_n C dX7_digest_131 rfl ?_
        refine gf_X7_20 C rfl g33 dX7_digest_132 ?_
        refine j_iload C dX7_digest_135 rfl ?_
        obtain ⟨a42, e43, hv⟩ := hv
        obtain ⟨g44, hv⟩ := hv
        obtain ⟨b45, hv⟩ := hv
        refine k_iald (j := (aI h a34 y5.toNatClampNeg).toNatClampNeg) C e43 g44 b45 rfl dX7_digest_137 ?_
        refine j_i2l C dX7_digest_138 ?_
        refine j_ladd C dX7_digest_139 ?_
        refine j_lstore_n (lo' := [some (vr (some t)), none, some (vl (((31 : Int64) * (((31 : Int64) * z2) + ((aI h a38 ((aI h a34 y5.toNatClampNeg).toNatClampNeg)).toInt64))) + ((aI h a42 ((aI h a34 y5.toNatClampNeg).toNatClampNeg)).toInt64))), none, some (vi y4), some (vi y5), some (vi (aI h a34 y5.toNatClampNeg)), none, none]) C dX7_digest_140 (Nat.le_of_ble_eq_true rfl) rfl ?_
        refine j_iconst (v := (0 : Int32)) C dX7_digest_141 (by decide) ?_
        refine j_istore (lo' := [some (vr (some t)), none, some (vl (((31 : Int64) * (((31 : Int64) * z2) + ((aI h a38 ((aI h a34 y5.toNatClampNeg).toNatClampNeg)).toInt64))) + ((aI h a42 ((aI h a34 y5.toNatClampNeg).toNatClampNeg)).toInt64))), none, some (vi y4), some (vi y5), some (vi (aI h a34 y5.toNatClampNeg)), some (vi (0 : Int32)), none]) C dX7_digest_142 (Nat.le_of_ble_eq_true rfl) rfl ?_
        exact j_sub (by exact (And.intro rfl (And.intro rfl (And.intro rfl (And.intro rfl (And.intro rfl (And.intro rfl trivial))))))) hv)
  have hv := hv (by
      intro z2 y4 y5 y6 y7 h hv
      refine j_iload C dX7_digest_144 rfl ?_
      refine j_aload_n C dX7_digest_146 rfl ?_
      obtain ⟨g47, hv⟩ := hv
      refine gf_X7_20 C rfl g47 dX7_digest_147 ?_
      refine j_iload C dX7_digest_150 rfl ?_
      obtain ⟨a48, e49, hv⟩ := hv
      obtain ⟨g50, hv⟩ := hv
      obtain ⟨b51, hv⟩ := hv
      refine k_iald (j := y6.toNatClampNeg) C e49 g50 b51 rfl dX7_digest_152 ?_
      refine j_icmp_ge (tgt := 240) C dX7_digest_153 (by decide) ⟨fun q75 => ?_, fun q75 => ?_⟩
      · have hv := hv.1 q75
        refine j_ldc2 C wg_956 dX7_digest_240 ?_
        refine j_lload_n C dX7_digest_243 rfl ?_
        refine j_lmul C dX7_digest_244 ?_
        refine j_aload_n C dX7_digest_245 rfl ?_
        refine gf_X7_23 C rfl g47 dX7_digest_246 ?_
        refine j_iload C dX7_digest_249 rfl ?_
        obtain ⟨a52, e53, hv⟩ := hv
        obtain ⟨g54, hv⟩ := hv
        obtain ⟨b55, hv⟩ := hv
        refine k_iald (j := y6.toNatClampNeg) C e53 g54 b55 rfl dX7_digest_251 ?_
        refine j_i2l C dX7_digest_252 ?_
        refine j_ladd C dX7_digest_253 ?_
        refine j_lstore_n (lo' := [some (vr (some t)), none, some (vl (((31 : Int64) * z2) + ((aI h a52 y6.toNatClampNeg).toInt64))), none, some (vi y4), some (vi y5), some (vi y6), some (vi y7), none]) C dX7_digest_254 (Nat.le_of_ble_eq_true rfl) rfl ?_
        refine j_iconst (v := (0 : Int32)) C dX7_digest_255 (by decide) ?_
        refine j_istore (lo' := [some (vr (some t)), none, some (vl (((31 : Int64) * z2) + ((aI h a52 y6.toNatClampNeg).toInt64))), none, some (vi y4), some (vi y5), some (vi y6), some (vi (0 : Int32)), none]) C dX7_digest_256 (Nat.le_of_ble_eq_true rfl) rfl ?_
        exact j_sub (by exact (And.intro rfl (And.intro rfl (And.intro rfl (And.intro rfl (And.intro rfl (And.intro rfl trivial))))))) hv
      · have hv := hv.2 q75
        refine j_aload_n C dX7_digest_156 rfl ?_
        refine gf_X7_57 C rfl g47 dX7_digest_157 ?_
        refine j_aload_n C dX7_digest_160 rfl ?_
        refine gf_X7_17 C rfl g47 dX7_digest_161 ?_
        refine j_iload C dX7_digest_164 rfl ?_
        obtain ⟨a56, e57, hv⟩ := hv
        obtain ⟨g58, hv⟩ := hv
        obtain ⟨b59, hv⟩ := hv
        refine k_iald (j := y6.toNatClampNeg) C e57 g58 b59 rfl dX7_digest_166 ?_
        refine j_iload C dX7_digest_167 rfl ?_
        refine j_iadd C dX7_digest_169 ?_
        obtain ⟨a60, e61, hv⟩ := hv
        obtain ⟨g62, hv⟩ := hv
        obtain ⟨b63, hv⟩ := hv
        refine k_lald (j := ((aI h a56 y6.toNatClampNeg) + y7).toNatClampNeg) C e61 g62 b63 rfl dX7_digest_170 ?_
        refine j_l2i C dX7_digest_171 ?_
        refine j_istore (lo' := [some (vr (some t)), none, some (vl z2), none, some (vi y4), some (vi y5), some (vi y6), some (vi y7), some (vi ((aL h a60 (((aI h a56 y6.toNatClampNeg) + y7).toNatClampNeg)).toInt32))]) C dX7_digest_172 (Nat.le_of_ble_eq_true rfl) rfl ?_
        refine j_iload C dX7_digest_174 rfl ?_
        refine j_if_eq (tgt := 210) C dX7_digest_176 (by decide) ⟨fun q74 => ?_, fun q74 => ?_⟩
        · have hv := hv.1 q74
          exact j_sub (by exact (And.intro rfl (And.intro rfl (And.intro rfl (And.intro rfl (And.intro rfl (And.intro rfl (And.intro rfl trivial)))))))) hv
        · have hv := hv.2 q74
          refine j_aload_n C dX7_digest_179 rfl ?_
          refine gf_X7_54 C rfl g47 dX7_digest_180 ?_
          refine j_iload C dX7_digest_183 rfl ?_
          obtain ⟨a64, e65, hv⟩ := hv
          obtain ⟨g66, hv⟩ := hv
          obtain ⟨b67, hv⟩ := hv
          refine k_iald (j := ((aL h a60 (((aI h a56 y6.toNatClampNeg) + y7).toNatClampNeg)).toInt32).toNatClampNeg) C e65 g66 b67 rfl dX7_digest_185 ?_
          refine j_if_ne (tgt := 210) C dX7_digest_186 (by decide) ⟨fun q73 => ?_, fun q73 => ?_⟩
          · have hv := hv.1 q73
            exact j_sub (by exact (And.intro rfl (And.intro rfl (And.intro rfl (And.intro rfl (And.intro rfl (And.intro rfl (And.intro rfl trivial)))))))) hv
          · have hv := hv.2 q73
            refine j_aload_n C dX7_digest_189 rfl ?_
            refine gf_X7_51 C rfl g47 dX7_digest_190 ?_
            refine j_iload C dX7_digest_193 rfl ?_
            refine j_iinc (v := y4 + 1) (lo' := [some (vr (some t)), none, some (vl z2), none, some (vi (y4 + 1)), some (vi y5), some (vi y6), some (vi y7), some (vi ((aL h a60 (((aI h a56 y6.toNatClampNeg) + y7).toNatClampNeg)).toInt32))]) C dX7_digest_195 rfl rfl rfl ?_
            refine j_iload C dX7_digest_198 rfl ?_
            obtain ⟨a68, e69, hv⟩ := hv
            obtain ⟨g70, hv⟩ := hv
            obtain ⟨b71, hv⟩ := hv
            refine k_iast (j := y4.toNatClampNeg) C e69 g70 b71 rfl dX7_digest_200 ?_
            refine j_aload_n C dX7_digest_201 rfl ?_
            refine gf_X7_54 C rfl g47 dX7_digest_202 ?_
            refine j_iload C dX7_digest_205 rfl ?_
            refine j_iload C dX7_digest_207 rfl ?_
            obtain ⟨b72, hv⟩ := hv
            refine k_iast (j := ((aL h a60 (((aI h a56 y6.toNatClampNeg) + y7).toNatClampNeg)).toInt32).toNatClampNeg) C e65 g66 b72 rfl dX7_digest_209 ?_
            exact j_sub (by exact (And.intro rfl (And.intro rfl (And.intro rfl (And.intro rfl (And.intro rfl (And.intro rfl (And.intro rfl trivial)))))))) hv)
  have hv := hv (by
      intro z2 y4 y5 y6 y7 h hv
      refine j_iload C dX7_digest_258 rfl ?_
      refine j_aload_n C dX7_digest_260 rfl ?_
      obtain ⟨g76, hv⟩ := hv
      refine gf_X7_23 C rfl g76 dX7_digest_261 ?_
      refine j_iload C dX7_digest_264 rfl ?_
      obtain ⟨a77, e78, hv⟩ := hv
      obtain ⟨g79, hv⟩ := hv
      obtain ⟨b80, hv⟩ := hv
      refine k_iald (j := y6.toNatClampNeg) C e78 g79 b80 rfl dX7_digest_266 ?_
      refine j_icmp_ge (tgt := 306) C dX7_digest_267 (by decide) ⟨fun q93 => ?_, fun q93 => ?_⟩
      · have hv := hv.1 q93
        refine j_iinc (v := y5 + 1) (lo' := [some (vr (some t)), none, some (vl z2), none, some (vi y4), some (vi (y5 + 1)), some (vi y6), some (vi y7), none]) C dX7_digest_306 rfl rfl rfl ?_
        refine j_goto (tgt := 95) C dX7_digest_309 (by decide) ?_
        exact j_sub (by exact (And.intro rfl (And.intro rfl (And.intro rfl (And.intro rfl trivial))))) hv
      · have hv := hv.2 q93
        refine j_ldc2 C wg_956 dX7_digest_270 ?_
        refine j_lload_n C dX7_digest_273 rfl ?_
        refine j_lmul C dX7_digest_274 ?_
        refine j_aload_n C dX7_digest_275 rfl ?_
        refine gf_X7_57 C rfl g76 dX7_digest_276 ?_
        refine j_aload_n C dX7_digest_279 rfl ?_
        refine gf_X7_17 C rfl g76 dX7_digest_280 ?_
        refine j_iload C dX7_digest_283 rfl ?_
        obtain ⟨a81, e82, hv⟩ := hv
        obtain ⟨g83, hv⟩ := hv
        obtain ⟨b84, hv⟩ := hv
        refine k_iald (j := y6.toNatClampNeg) C e82 g83 b84 rfl dX7_digest_285 ?_
        refine j_aload_n C dX7_digest_286 rfl ?_
        refine gf_X7_20 C rfl g76 dX7_digest_287 ?_
        refine j_iload C dX7_digest_290 rfl ?_
        obtain ⟨a85, e86, hv⟩ := hv
        obtain ⟨g87, hv⟩ := hv
        obtain ⟨b88, hv⟩ := hv
        refine k_iald (j := y6.toNatClampNeg) C e86 g87 b88 rfl dX7_digest_292 ?_
        refine j_iadd C dX7_digest_293 ?_
        refine j_iload C dX7_digest_294 rfl ?_
        refine j_iadd C dX7_digest_296 ?_
        obtain ⟨a89, e90, hv⟩ := hv
        obtain ⟨g91, hv⟩ := hv
        obtain ⟨b92, hv⟩ := hv
        refine k_lald (j := (((aI h a81 y6.toNatClampNeg) + (aI h a85 y6.toNatClampNeg)) + y7).toNatClampNeg) C e90 g91 b92 rfl dX7_digest_297 ?_
        refine j_ladd C dX7_digest_298 ?_
        refine j_lstore_n (lo' := [some (vr (some t)), none, some (vl (((31 : Int64) * z2) + (aL h a89 ((((aI h a81 y6.toNatClampNeg) + (aI h a85 y6.toNatClampNeg)) + y7).toNatClampNeg)))), none, some (vi y4), some (vi y5), some (vi y6), some (vi y7), none]) C dX7_digest_299 (Nat.le_of_ble_eq_true rfl) rfl ?_
        refine j_iinc (v := y7 + 1) (lo' := [some (vr (some t)), none, some (vl (((31 : Int64) * z2) + (aL h a89 ((((aI h a81 y6.toNatClampNeg) + (aI h a85 y6.toNatClampNeg)) + y7).toNatClampNeg)))), none, some (vi y4), some (vi y5), some (vi y6), some (vi (y7 + 1)), none]) C dX7_digest_300 rfl rfl rfl ?_
        refine j_goto (tgt := 258) C dX7_digest_303 (by decide) ?_
        exact j_sub (by exact (And.intro rfl (And.intro rfl (And.intro rfl (And.intro rfl (And.intro rfl (And.intro rfl trivial))))))) hv)
  have hv := hv (by
      intro z2 y4 y5 y6 y7 y8 h hv
      refine j_ldc2 C wg_956 dX7_digest_210 ?_
      refine j_lload_n C dX7_digest_213 rfl ?_
      refine j_lmul C dX7_digest_214 ?_
      refine j_iload C dX7_digest_215 rfl ?_
      refine j_if_ne (tgt := 224) C dX7_digest_217 (by decide) ⟨fun q99 => ?_, fun q99 => ?_⟩
      · have hv := hv.1 q99
        refine j_aload_n C dX7_digest_224 rfl ?_
        obtain ⟨g94, hv⟩ := hv
        refine gf_X7_54 C rfl g94 dX7_digest_225 ?_
        refine j_iload C dX7_digest_228 rfl ?_
        obtain ⟨a95, e96, hv⟩ := hv
        obtain ⟨g97, hv⟩ := hv
        obtain ⟨b98, hv⟩ := hv
        refine k_iald (j := y8.toNatClampNeg) C e96 g97 b98 rfl dX7_digest_230 ?_
        exact j_sub (by exact (And.intro rfl (And.intro rfl (And.intro rfl (And.intro rfl (And.intro rfl trivial)))))) hv
      · have hv := hv.2 q99
        refine j_iconst (v := (0 : Int32)) C dX7_digest_220 (by decide) ?_
        refine j_goto (tgt := 231) C dX7_digest_221 (by decide) ?_
        exact j_sub (by exact (And.intro rfl (And.intro rfl (And.intro rfl (And.intro rfl (And.intro rfl trivial)))))) hv)
  have hv := hv (by
      intro y4 y5 y6 y7 w0 s1 h hv
      refine j_i2l C dX7_digest_231 ?_
      refine j_ladd C dX7_digest_232 ?_
      refine j_lstore_n (lo' := [some (vr (some t)), none, some (vl (s1 + w0.toInt64)), none, some (vi y4), some (vi y5), some (vi y6), some (vi y7), none]) C dX7_digest_233 (Nat.le_of_ble_eq_true rfl) rfl ?_
      refine j_iinc (v := y7 + 1) (lo' := [some (vr (some t)), none, some (vl (s1 + w0.toInt64)), none, some (vi y4), some (vi y5), some (vi y6), some (vi (y7 + 1)), none]) C dX7_digest_234 rfl rfl rfl ?_
      refine j_goto (tgt := 144) C dX7_digest_237 (by decide) ?_
      exact j_sub (by exact (And.intro rfl (And.intro rfl (And.intro rfl (And.intro rfl (And.intro rfl (And.intro rfl trivial))))))) hv)
  refine j_aload_n C dX7_digest_0 rfl ?_
  refine j_iconst (v := (0 : Int32)) C dX7_digest_1 (by decide) ?_
  obtain ⟨g1, hv⟩ := hv
  refine pf_X7_1 C rfl g1 dX7_digest_2 ?_
  refine j_aload_n C dX7_digest_5 rfl ?_
  refine j_iload_n C dX7_digest_6 rfl ?_
  refine k_callV C 6 [vi x1] mv_X7_136 rfl rfl (fun l D dA sz hl => s_X7_none (by omega) hv l D dA sz hl) rfl rfl (by decide) g1 rfl (by omega) (Nat.le_of_ble_eq_true rfl) (hlim _ _ (by omega) (by omega)) dX7_digest_7 (fun _ _ q => False.elim q) (fun v h2 hq => ?_)
  obtain ⟨v3, rfl, hv⟩ := qi_inv hq
  refine j_if_eq (tgt := 19) C dX7_digest_10 (by decide) ⟨fun q13 => ?_, fun q13 => ?_⟩
  · have hv := hv.1 q13
    refine j_ldc2 C wg_955 dX7_digest_19 ?_
    refine j_lstore_n (lo' := [some (vr (some t)), some (vi x1), some (vl (7 : Int64)), none, none, none, none, none, none]) C dX7_digest_22 (Nat.le_of_ble_eq_true rfl) rfl ?_
    refine j_aload_n C dX7_digest_23 rfl ?_
    obtain ⟨g4, hv⟩ := hv
    refine gf_X7_64 C rfl g4 dX7_digest_24 ?_
    refine j_iload_n C dX7_digest_27 rfl ?_
    obtain ⟨a5, e6, hv⟩ := hv
    obtain ⟨g7, hv⟩ := hv
    obtain ⟨b8, hv⟩ := hv
    refine k_iald (j := x1.toNatClampNeg) C e6 g7 b8 rfl dX7_digest_28 ?_
    refine j_if_ne (tgt := 34) C dX7_digest_29 (by decide) ⟨fun q9 => ?_, fun q9 => ?_⟩
    · have hv := hv.1 q9
      refine j_iconst (v := (1 : Int32)) C dX7_digest_34 (by decide) ?_
      refine j_istore (lo' := [some (vr (some t)), some (vi x1), some (vl (7 : Int64)), none, some (vi (1 : Int32)), none, none, none, none]) C dX7_digest_35 (Nat.le_of_ble_eq_true rfl) rfl ?_
      exact j_sub (by exact (And.intro rfl (And.intro rfl (And.intro rfl (And.intro rfl trivial))))) hv
    · have hv := hv.2 q9
      refine j_lload_n C dX7_digest_32 rfl ?_
      exact j_lret C dX7_digest_33 (hlim _ _ (by omega) (by omega)) hv
  · have hv := hv.2 q13
    refine j_aload_n C dX7_digest_13 rfl ?_
    obtain ⟨g12, hv⟩ := hv
    refine k_callV C 6 [] mv_X7_139 rfl rfl (fun l D dA sz hl => s_X7_bad (by omega) hv l D dA sz hl) rfl rfl (by decide) g12 rfl (by omega) (Nat.le_of_ble_eq_true rfl) (hlim _ _ (by omega) (by omega)) dX7_digest_14 (fun _ _ q => False.elim q) (fun v h10 hq => ?_)
    obtain ⟨v11, rfl, hv⟩ := qi_inv hq
    refine j_i2l C dX7_digest_17 ?_
    exact j_lret C dX7_digest_18 (hlim _ _ (by omega) (by omega)) hv
