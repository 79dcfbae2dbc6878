/-! The law: its conditions and its walk. -/
def vb_L_43 (L : Nat) (xs : Nat → Int32) (Q : Option AV ⊕ String → Hp → Prop) (P168 : Option Nat → Option Nat → Option Nat → Int32 → Hp → Prop) (P248 : Option Nat → Option Nat → Option Nat → Int32 → Hp → Prop) (P344 : Option Nat → Option Nat → Option Nat → Int32 → Hp → Prop) (P400 : Option Nat → Option Nat → Option Nat → Int32 → Hp → Prop) (P492 : Option Nat → Option Nat → Option Nat → Int32 → Hp → Prop) (P584 : Option Nat → Option Nat → Option Nat → Int32 → Hp → Prop) (P652 : Option Nat → Option Nat → Option Nat → Int32 → Hp → Prop) (P732 : Option Nat → Option Nat → Option Nat → Int32 → Hp → Prop) (P812 : Option Nat → Option Nat → Option Nat → Int32 → Hp → Prop) (P923 : Option Nat → Option Nat → Option Nat → Int32 → Hp → Prop) (P990 : Option Nat → Option Nat → Option Nat → Int32 → Hp → Prop) (P1086 : Option Nat → Option Nat → Option Nat → Int32 → Hp → Prop) (P1154 : Option Nat → Option Nat → Option Nat → Int32 → Hp → Prop) (P1238 : Option Nat → Option Nat → Option Nat → Int32 → Hp → Prop) (P1306 : Option Nat → Option Nat → Option Nat → Int32 → Hp → Prop) (P1362 : Option Nat → Option Nat → Option Nat → Int32 → Hp → Prop) (P1418 : Option Nat → Option Nat → Option Nat → Int32 → Hp → Prop) (P1474 : Option Nat → Option Nat → Option Nat → Int32 → Hp → Prop) (P1549 : Option Nat → Option Nat → Option Nat → Int32 → Hp → Prop) (P1605 : Option Nat → Option Nat → Option Nat → Int32 → Hp → Prop) (P1649 : Option Nat → Option Nat → Option Nat → Int32 → Hp → Prop) (P1690 : Option Nat → Option Nat → Option Nat → Int32 → Hp → Prop) (P1746 : Option Nat → Option Nat → Option Nat → Int32 → Hp → Prop) (P1802 : Option Nat → Option Nat → Option Nat → Int32 → Hp → Prop) (P1857 : Option Nat → Option Nat → Option Nat → Int32 → Hp → Prop) (u1 : Option Nat) (u2 : Option Nat) (u3 : Option Nat) (y4 : Int32) (h : Hp) : Prop :=
    y4.toNatClampNeg ≤ 2562 ∧ ((((Int32.ofNat L) - (5 : Int32)) < y4 → Q (.inl (some (vi (1 : Int32)))) h) ∧ (¬ ((Int32.ofNat L) - (5 : Int32)) < y4 → vp_in y4 L ∧ ((((xs y4.toNatClampNeg) &&& (31 : Int32)) = 0 → P168 u1 u2 u3 y4 h) ∧ (((xs y4.toNatClampNeg) &&& (31 : Int32)) = 1 → P248 u1 u2 u3 y4 h) ∧ (((xs y4.toNatClampNeg) &&& (31 : Int32)) = 2 → P344 u1 u2 u3 y4 h) ∧ (((xs y4.toNatClampNeg) &&& (31 : Int32)) = 3 → P400 u1 u2 u3 y4 h) ∧ (((xs y4.toNatClampNeg) &&& (31 : Int32)) = 4 → P492 u1 u2 u3 y4 h) ∧ (((xs y4.toNatClampNeg) &&& (31 : Int32)) = 5 → P584 u1 u2 u3 y4 h) ∧ (((xs y4.toNatClampNeg) &&& (31 : Int32)) = 6 → P652 u1 u2 u3 y4 h) ∧ (((xs y4.toNatClampNeg) &&& (31 : Int32)) = 7 → P732 u1 u2 u3 y4 h) ∧ (((xs y4.toNatClampNeg) &&& (31 : Int32)) = 8 → P812 u1 u2 u3 y4 h) ∧ (((xs y4.toNatClampNeg) &&& (31 : Int32)) = 9 → P923 u1 u2 u3 y4 h) ∧ (((xs y4.toNatClampNeg) &&& (31 : Int32)) = 10 → P990 u1 u2 u3 y4 h) ∧ (((xs y4.toNatClampNeg) &&& (31 : Int32)) = 11 → P1086 u1 u2 u3 y4 h) ∧ (((xs y4.toNatClampNeg) &&& (31 : Int32)) = 12 → P1154 u1 u2 u3 y4 h) ∧ (((xs y4.toNatClampNeg) &&& (31 : Int32)) = 13 → P1238 u1 u2 u3 y4 h) ∧ (((xs y4.toNatClampNeg) &&& (31 : Int32)) = 14 → P1306 u1 u2 u3 y4 h) ∧ (((xs y4.toNatClampNeg) &&& (31 : Int32)) = 15 → P1362 u1 u2 u3 y4 h) ∧ (((xs y4.toNatClampNeg) &&& (31 : Int32)) = 16 → P1418 u1 u2 u3 y4 h) ∧ (((xs y4.toNatClampNeg) &&& (31 : Int32)) = 17 → P1474 u1 u2 u3 y4 h) ∧ (((xs y4.toNatClampNeg) &&& (31 : Int32)) = 18 → P1549 u1 u2 u3 y4 h) ∧ (((xs y4.toNatClampNeg) &&& (31 : Int32)) = 19 → P1605 u1 u2 u3 y4 h) ∧ (((xs y4.toNatClampNeg) &&& (31 : Int32)) = 20 → P1649 u1 u2 u3 y4 h) ∧ (((xs y4.toNatClampNeg) &&& (31 : Int32)) = 21 → P1690 u1 u2 u3 y4 h) ∧ (((xs y4.toNatClampNeg) &&& (31 : Int32)) = 22 → P1746 u1 u2 u3 y4 h) ∧ (((xs y4.toNatClampNeg) &&& (31 : Int32)) = 23 → P1802 u1 u2 u3 y4 h) ∧ ((((xs y4.toNatClampNeg) &&& (31 : Int32)).toInt < 0 ∨ 23 < ((xs y4.toNatClampNeg) &&& (31 : Int32)).toInt) → P1857 u1 u2 u3 y4 h))))
def vb_L_168 (L : Nat) (xs : Nat → Int32) (Q : Option AV ⊕ String → Hp → Prop) (P1857 : Option Nat → Option Nat → Option Nat → Int32 → Hp → Prop) (u1 : Option Nat) (u2 : Option Nat) (u3 : Option Nat) (y4 : Int32) (h : Hp) : Prop :=
    y4.toNatClampNeg ≤ 2562 ∧ vp_in (y4 + (1 : Int32)) L ∧ vp_in (y4 + (2 : Int32)) L ∧ vp_in (y4 + (3 : Int32)) L ∧ vc_L_plain u1 (xs (y4 + (1 : Int32)).toNatClampNeg) (xs (y4 + (2 : Int32)).toNatClampNeg) (xs (y4 + (3 : Int32)).toNatClampNeg) u3 h (qi (fun v23 h22 => vp_in (y4 + (1 : Int32)) L ∧ vp_in (y4 + (2 : Int32)) L ∧ vp_in (y4 + (3 : Int32)) L ∧ ∃ a27 : Nat, u2 = some a27 ∧ tg h22 a27 = 7 ∧ vc_X7_plain a27 (xs (y4 + (1 : Int32)).toNatClampNeg) (xs (y4 + (2 : Int32)).toNatClampNeg) (xs (y4 + (3 : Int32)).toNatClampNeg) h22 (qi (fun v30 h29 => tg h29 a27 = 7 ∧ vc_X7_thrown a27 h29 (qi (fun v33 h32 => ((v33 = v23 → ((¬ v23 = 0 → P1857 u1 u2 u3 y4 h32) ∧ (v23 = 0 → ∃ a35 : Nat, u3 = some a35 ∧ tg h32 a35 = 9 ∧ vp_in (0 : Int32) (ln h32 a35) ∧ (((lg_cmp (aL h32 a35 0) v30.toInt64) = 0 → P1857 u1 u2 u3 y4 h32) ∧ (¬ (lg_cmp (aL h32 a35 0) v30.toInt64) = 0 → Q (.inl (some (vi (0 : Int32)))) h32))))) ∧ (¬ v33 = v23 → Q (.inl (some (vi (0 : Int32)))) h32))) qn)) qn)) qn)
def vb_L_248 (L : Nat) (xs : Nat → Int32) (Q : Option AV ⊕ String → Hp → Prop) (P275 : Option Nat → Option Nat → Option Nat → Int32 → Int32 → Int32 → Int32 → Option Nat → Hp → Prop) (u1 : Option Nat) (u2 : Option Nat) (u3 : Option Nat) (y4 : Int32) (h : Hp) : Prop :=
    y4.toNatClampNeg ≤ 2562 ∧ vp_in (y4 + (1 : Int32)) L ∧ vp_in (y4 + (2 : Int32)) L ∧ vp_in (y4 + (3 : Int32)) L ∧ (((xs (y4 + (3 : Int32)).toNatClampNeg) = 0 → P275 u1 u2 u3 y4 (0 : Int32) (xs (y4 + (2 : Int32)).toNatClampNeg) (xs (y4 + (1 : Int32)).toNatClampNeg) u1 h) ∧ (¬ (xs (y4 + (3 : Int32)).toNatClampNeg) = 0 → P275 u1 u2 u3 y4 (1 : Int32) (xs (y4 + (2 : Int32)).toNatClampNeg) (xs (y4 + (1 : Int32)).toNatClampNeg) u1 h))
def vb_L_344 (L : Nat) (xs : Nat → Int32) (Q : Option AV ⊕ String → Hp → Prop) (P1857 : Option Nat → Option Nat → Option Nat → Int32 → Hp → Prop) (u1 : Option Nat) (u2 : Option Nat) (u3 : Option Nat) (y4 : Int32) (h : Hp) : Prop :=
    y4.toNatClampNeg ≤ 2562 ∧ vp_in (y4 + (1 : Int32)) L ∧ vc_L_queue u1 (xs (y4 + (1 : Int32)).toNatClampNeg) u3 h (qi (fun v48 h47 => vp_in (y4 + (1 : Int32)) L ∧ ∃ a50 : Nat, u2 = some a50 ∧ tg h47 a50 = 7 ∧ vc_X7_queue a50 (xs (y4 + (1 : Int32)).toNatClampNeg) h47 (qi (fun v53 h52 => tg h52 a50 = 7 ∧ vc_X7_thrown a50 h52 (qi (fun v56 h55 => ((v56 = v48 → ((¬ v48 = 0 → P1857 u1 u2 u3 y4 h55) ∧ (v48 = 0 → ∃ a58 : Nat, u3 = some a58 ∧ tg h55 a58 = 9 ∧ vp_in (0 : Int32) (ln h55 a58) ∧ (((lg_cmp (aL h55 a58 0) v53.toInt64) = 0 → P1857 u1 u2 u3 y4 h55) ∧ (¬ (lg_cmp (aL h55 a58 0) v53.toInt64) = 0 → Q (.inl (some (vi (0 : Int32)))) h55))))) ∧ (¬ v56 = v48 → Q (.inl (some (vi (0 : Int32)))) h55))) qn)) qn)) qn)
def vb_L_400 (L : Nat) (xs : Nat → Int32) (Q : Option AV ⊕ String → Hp → Prop) (P1857 : Option Nat → Option Nat → Option Nat → Int32 → Hp → Prop) (u1 : Option Nat) (u2 : Option Nat) (u3 : Option Nat) (y4 : Int32) (h : Hp) : Prop :=
    y4.toNatClampNeg ≤ 2562 ∧ vp_in (y4 + (1 : Int32)) L ∧ vp_in (y4 + (2 : Int32)) L ∧ vp_in (y4 + (3 : Int32)) L ∧ vp_in (y4 + (4 : Int32)) L ∧ vc_L_loose u1 (xs (y4 + (1 : Int32)).toNatClampNeg) (xs (y4 + (2 : Int32)).toNatClampNeg) (xs (y4 + (3 : Int32)).toNatClampNeg) (xs (y4 + (4 : Int32)).toNatClampNeg) u3 h (qi (fun v70 h69 => vp_in (y4 + (1 : Int32)) L ∧ vp_in (y4 + (2 : Int32)) L ∧ vp_in (y4 + (3 : Int32)) L ∧ vp_in (y4 + (4 : Int32)) L ∧ ∃ a75 : Nat, u2 = some a75 ∧ tg h69 a75 = 7 ∧ vc_X7_loose a75 (xs (y4 + (1 : Int32)).toNatClampNeg) (xs (y4 + (2 : Int32)).toNatClampNeg) (xs (y4 + (3 : Int32)).toNatClampNeg) (xs (y4 + (4 : Int32)).toNatClampNeg) h69 (qi (fun v78 h77 => tg h77 a75 = 7 ∧ vc_X7_thrown a75 h77 (qi (fun v81 h80 => ((v81 = v70 → ((¬ v70 = 0 → P1857 u1 u2 u3 y4 h80) ∧ (v70 = 0 → ∃ a83 : Nat, u3 = some a83 ∧ tg h80 a83 = 9 ∧ vp_in (0 : Int32) (ln h80 a83) ∧ (((lg_cmp (aL h80 a83 0) v78.toInt64) = 0 → P1857 u1 u2 u3 y4 h80) ∧ (¬ (lg_cmp (aL h80 a83 0) v78.toInt64) = 0 → Q (.inl (some (vi (0 : Int32)))) h80))))) ∧ (¬ v81 = v70 → Q (.inl (some (vi (0 : Int32)))) h80))) qn)) qn)) qn)
def vb_L_492 (L : Nat) (xs : Nat → Int32) (Q : Option AV ⊕ String → Hp → Prop) (P1857 : Option Nat → Option Nat → Option Nat → Int32 → Hp → Prop) (u1 : Option Nat) (u2 : Option Nat) (u3 : Option Nat) (y4 : Int32) (h : Hp) : Prop :=
    y4.toNatClampNeg ≤ 2562 ∧ vp_in (y4 + (1 : Int32)) L ∧ vp_in (y4 + (2 : Int32)) L ∧ vp_in (y4 + (3 : Int32)) L ∧ vp_in (y4 + (4 : Int32)) L ∧ vc_L_pair u1 (xs (y4 + (1 : Int32)).toNatClampNeg) (xs (y4 + (2 : Int32)).toNatClampNeg) (xs (y4 + (3 : Int32)).toNatClampNeg) (xs (y4 + (4 : Int32)).toNatClampNeg) u3 h (qi (fun v95 h94 => vp_in (y4 + (1 : Int32)) L ∧ vp_in (y4 + (2 : Int32)) L ∧ vp_in (y4 + (3 : Int32)) L ∧ vp_in (y4 + (4 : Int32)) L ∧ ∃ a100 : Nat, u2 = some a100 ∧ tg h94 a100 = 7 ∧ vc_X7_pair a100 (xs (y4 + (1 : Int32)).toNatClampNeg) (xs (y4 + (2 : Int32)).toNatClampNeg) (xs (y4 + (3 : Int32)).toNatClampNeg) (xs (y4 + (4 : Int32)).toNatClampNeg) h94 (qi (fun v103 h102 => tg h102 a100 = 7 ∧ vc_X7_thrown a100 h102 (qi (fun v106 h105 => ((v106 = v95 → ((¬ v95 = 0 → P1857 u1 u2 u3 y4 h105) ∧ (v95 = 0 → ∃ a108 : Nat, u3 = some a108 ∧ tg h105 a108 = 9 ∧ vp_in (0 : Int32) (ln h105 a108) ∧ (((lg_cmp (aL h105 a108 0) v103.toInt64) = 0 → P1857 u1 u2 u3 y4 h105) ∧ (¬ (lg_cmp (aL h105 a108 0) v103.toInt64) = 0 → Q (.inl (some (vi (0 : Int32)))) h105))))) ∧ (¬ v106 = v95 → Q (.inl (some (vi (0 : Int32)))) h105))) qn)) qn)) qn)
def vb_L_584 (L : Nat) (xs : Nat → Int32) (Q : Option AV ⊕ String → Hp → Prop) (P1857 : Option Nat → Option Nat → Option Nat → Int32 → Hp → Prop) (u1 : Option Nat) (u2 : Option Nat) (u3 : Option Nat) (y4 : Int32) (h : Hp) : Prop :=
    y4.toNatClampNeg ≤ 2562 ∧ vp_in (y4 + (1 : Int32)) L ∧ vp_in (y4 + (2 : Int32)) L ∧ vc_L_copy u1 (xs (y4 + (1 : Int32)).toNatClampNeg) (xs (y4 + (2 : Int32)).toNatClampNeg) u3 h (qi (fun v118 h117 => vp_in (y4 + (1 : Int32)) L ∧ vp_in (y4 + (2 : Int32)) L ∧ ∃ a121 : Nat, u2 = some a121 ∧ tg h117 a121 = 7 ∧ vc_X7_copy a121 (xs (y4 + (1 : Int32)).toNatClampNeg) (xs (y4 + (2 : Int32)).toNatClampNeg) h117 (qi (fun v124 h123 => tg h123 a121 = 7 ∧ vc_X7_thrown a121 h123 (qi (fun v127 h126 => ((v127 = v118 → ((¬ v118 = 0 → P1857 u1 u2 u3 y4 h126) ∧ (v118 = 0 → ∃ a129 : Nat, u3 = some a129 ∧ tg h126 a129 = 9 ∧ vp_in (0 : Int32) (ln h126 a129) ∧ (((lg_cmp (aL h126 a129 0) v124.toInt64) = 0 → P1857 u1 u2 u3 y4 h126) ∧ (¬ (lg_cmp (aL h126 a129 0) v124.toInt64) = 0 → Q (.inl (some (vi (0 : Int32)))) h126))))) ∧ (¬ v127 = v118 → Q (.inl (some (vi (0 : Int32)))) h126))) qn)) qn)) qn)
def vb_L_652 (L : Nat) (xs : Nat → Int32) (Q : Option AV ⊕ String → Hp → Prop) (P1857 : Option Nat → Option Nat → Option Nat → Int32 → Hp → Prop) (u1 : Option Nat) (u2 : Option Nat) (u3 : Option Nat) (y4 : Int32) (h : Hp) : Prop :=
    y4.toNatClampNeg ≤ 2562 ∧ vp_in (y4 + (1 : Int32)) L ∧ vp_in (y4 + (2 : Int32)) L ∧ vp_in (y4 + (3 : Int32)) L ∧ vc_L_link u1 (xs (y4 + (1 : Int32)).toNatClampNeg) (xs (y4 + (2 : Int32)).toNatClampNeg) (xs (y4 + (3 : Int32)).toNatClampNeg) u3 h (qi (fun v140 h139 => vp_in (y4 + (1 : Int32)) L ∧ vp_in (y4 + (2 : Int32)) L ∧ vp_in (y4 + (3 : Int32)) L ∧ ∃ a144 : Nat, u2 = some a144 ∧ tg h139 a144 = 7 ∧ vc_X7_link a144 (xs (y4 + (1 : Int32)).toNatClampNeg) (xs (y4 + (2 : Int32)).toNatClampNeg) (xs (y4 + (3 : Int32)).toNatClampNeg) h139 (qi (fun v147 h146 => tg h146 a144 = 7 ∧ vc_X7_thrown a144 h146 (qi (fun v150 h149 => ((v150 = v140 → ((¬ v140 = 0 → P1857 u1 u2 u3 y4 h149) ∧ (v140 = 0 → ∃ a152 : Nat, u3 = some a152 ∧ tg h149 a152 = 9 ∧ vp_in (0 : Int32) (ln h149 a152) ∧ (((lg_cmp (aL h149 a152 0) v147.toInt64) = 0 → P1857 u1 u2 u3 y4 h149) ∧ (¬ (lg_cmp (aL h149 a152 0) v147.toInt64) = 0 → Q (.inl (some (vi (0 : Int32)))) h149))))) ∧ (¬ v150 = v140 → Q (.inl (some (vi (0 : Int32)))) h149))) qn)) qn)) qn)
def vb_L_732 (L : Nat) (xs : Nat → Int32) (Q : Option AV ⊕ String → Hp → Prop) (P1857 : Option Nat → Option Nat → Option Nat → Int32 → Hp → Prop) (u1 : Option Nat) (u2 : Option Nat) (u3 : Option Nat) (y4 : Int32) (h : Hp) : Prop :=
    y4.toNatClampNeg ≤ 2562 ∧ vp_in (y4 + (1 : Int32)) L ∧ vp_in (y4 + (2 : Int32)) L ∧ vp_in (y4 + (3 : Int32)) L ∧ vc_L_fetch u1 (xs (y4 + (1 : Int32)).toNatClampNeg) (xs (y4 + (2 : Int32)).toNatClampNeg) (xs (y4 + (3 : Int32)).toNatClampNeg) u3 h (qi (fun v163 h162 => vp_in (y4 + (1 : Int32)) L ∧ vp_in (y4 + (2 : Int32)) L ∧ vp_in (y4 + (3 : Int32)) L ∧ ∃ a167 : Nat, u2 = some a167 ∧ tg h162 a167 = 7 ∧ vc_X7_fetch a167 (xs (y4 + (1 : Int32)).toNatClampNeg) (xs (y4 + (2 : Int32)).toNatClampNeg) (xs (y4 + (3 : Int32)).toNatClampNeg) h162 (qi (fun v170 h169 => tg h169 a167 = 7 ∧ vc_X7_thrown a167 h169 (qi (fun v173 h172 => ((v173 = v163 → ((¬ v163 = 0 → P1857 u1 u2 u3 y4 h172) ∧ (v163 = 0 → ∃ a175 : Nat, u3 = some a175 ∧ tg h172 a175 = 9 ∧ vp_in (0 : Int32) (ln h172 a175) ∧ (((lg_cmp (aL h172 a175 0) v170.toInt64) = 0 → P1857 u1 u2 u3 y4 h172) ∧ (¬ (lg_cmp (aL h172 a175 0) v170.toInt64) = 0 → Q (.inl (some (vi (0 : Int32)))) h172))))) ∧ (¬ v173 = v163 → Q (.inl (some (vi (0 : Int32)))) h172))) qn)) qn)) qn)
def vb_L_812 (L : Nat) (xs : Nat → Int32) (Q : Option AV ⊕ String → Hp → Prop) (P1857 : Option Nat → Option Nat → Option Nat → Int32 → Hp → Prop) (u1 : Option Nat) (u2 : Option Nat) (u3 : Option Nat) (y4 : Int32) (h : Hp) : Prop :=
    y4.toNatClampNeg ≤ 2562 ∧ vp_in (y4 + (1 : Int32)) L ∧ vp_in (y4 + (2 : Int32)) L ∧ vp_in (y4 + (3 : Int32)) L ∧ vp_in (y4 + (4 : Int32)) L ∧ vc_L_set u1 (xs (y4 + (1 : Int32)).toNatClampNeg) (xs (y4 + (2 : Int32)).toNatClampNeg) ((((xs (y4 + (3 : Int32)).toNatClampNeg).toInt64) <<< ((32 : Int32).toInt64 &&& 63)) ||| (((xs (y4 + (4 : Int32)).toNatClampNeg).toInt64) &&& (4294967295 : Int64))) u3 h (qi (fun v187 h186 => vp_in (y4 + (1 : Int32)) L ∧ vp_in (y4 + (2 : Int32)) L ∧ vp_in (y4 + (3 : Int32)) L ∧ vp_in (y4 + (4 : Int32)) L ∧ ∃ a192 : Nat, u2 = some a192 ∧ tg h186 a192 = 7 ∧ vc_X7_set a192 (xs (y4 + (1 : Int32)).toNatClampNeg) (xs (y4 + (2 : Int32)).toNatClampNeg) ((((xs (y4 + (3 : Int32)).toNatClampNeg).toInt64) <<< ((32 : Int32).toInt64 &&& 63)) ||| (((xs (y4 + (4 : Int32)).toNatClampNeg).toInt64) &&& (4294967295 : Int64))) h186 (ql (fun v195 h194 => tg h194 a192 = 7 ∧ vc_X7_thrown a192 h194 (qi (fun v198 h197 => ((v198 = v187 → ((¬ v187 = 0 → P1857 u1 u2 u3 y4 h197) ∧ (v187 = 0 → ∃ a200 : Nat, u3 = some a200 ∧ tg h197 a200 = 9 ∧ vp_in (0 : Int32) (ln h197 a200) ∧ (((lg_cmp (aL h197 a200 0) v195) = 0 → P1857 u1 u2 u3 y4 h197) ∧ (¬ (lg_cmp (aL h197 a200 0) v195) = 0 → Q (.inl (some (vi (0 : Int32)))) h197))))) ∧ (¬ v198 = v187 → Q (.inl (some (vi (0 : Int32)))) h197))) qn)) qn)) qn)
def vb_L_923 (L : Nat) (xs : Nat → Int32) (Q : Option AV ⊕ String → Hp → Prop) (P1857 : Option Nat → Option Nat → Option Nat → Int32 → Hp → Prop) (u1 : Option Nat) (u2 : Option Nat) (u3 : Option Nat) (y4 : Int32) (h : Hp) : Prop :=
    y4.toNatClampNeg ≤ 2562 ∧ vp_in (y4 + (1 : Int32)) L ∧ vp_in (y4 + (2 : Int32)) L ∧ vc_L_get u1 (xs (y4 + (1 : Int32)).toNatClampNeg) (xs (y4 + (2 : Int32)).toNatClampNeg) u3 h (qi (fun v210 h209 => vp_in (y4 + (1 : Int32)) L ∧ vp_in (y4 + (2 : Int32)) L ∧ ∃ a213 : Nat, u2 = some a213 ∧ tg h209 a213 = 7 ∧ vc_X7_get a213 (xs (y4 + (1 : Int32)).toNatClampNeg) (xs (y4 + (2 : Int32)).toNatClampNeg) h209 (ql (fun v216 h215 => tg h215 a213 = 7 ∧ vc_X7_thrown a213 h215 (qi (fun v219 h218 => ((v219 = v210 → ((¬ v210 = 0 → P1857 u1 u2 u3 y4 h218) ∧ (v210 = 0 → ∃ a221 : Nat, u3 = some a221 ∧ tg h218 a221 = 9 ∧ vp_in (0 : Int32) (ln h218 a221) ∧ (((lg_cmp (aL h218 a221 0) v216) = 0 → P1857 u1 u2 u3 y4 h218) ∧ (¬ (lg_cmp (aL h218 a221 0) v216) = 0 → Q (.inl (some (vi (0 : Int32)))) h218))))) ∧ (¬ v219 = v210 → Q (.inl (some (vi (0 : Int32)))) h218))) qn)) qn)) qn)
def vb_L_990 (L : Nat) (xs : Nat → Int32) (Q : Option AV ⊕ String → Hp → Prop) (P1017 : Option Nat → Option Nat → Option Nat → Int32 → Int32 → Int32 → Int32 → Option Nat → Hp → Prop) (u1 : Option Nat) (u2 : Option Nat) (u3 : Option Nat) (y4 : Int32) (h : Hp) : Prop :=
    y4.toNatClampNeg ≤ 2562 ∧ vp_in (y4 + (1 : Int32)) L ∧ vp_in (y4 + (2 : Int32)) L ∧ vp_in (y4 + (3 : Int32)) L ∧ (((xs (y4 + (3 : Int32)).toNatClampNeg) = 0 → P1017 u1 u2 u3 y4 (0 : Int32) (xs (y4 + (2 : Int32)).toNatClampNeg) (xs (y4 + (1 : Int32)).toNatClampNeg) u1 h) ∧ (¬ (xs (y4 + (3 : Int32)).toNatClampNeg) = 0 → P1017 u1 u2 u3 y4 (1 : Int32) (xs (y4 + (2 : Int32)).toNatClampNeg) (xs (y4 + (1 : Int32)).toNatClampNeg) u1 h))
def vb_L_1086 (L : Nat) (xs : Nat → Int32) (Q : Option AV ⊕ String → Hp → Prop) (P1857 : Option Nat → Option Nat → Option Nat → Int32 → Hp → Prop) (u1 : Option Nat) (u2 : Option Nat) (u3 : Option Nat) (y4 : Int32) (h : Hp) : Prop :=
    y4.toNatClampNeg ≤ 2562 ∧ vp_in (y4 + (1 : Int32)) L ∧ vp_in (y4 + (2 : Int32)) L ∧ vc_L_give u1 (xs (y4 + (1 : Int32)).toNatClampNeg) (xs (y4 + (2 : Int32)).toNatClampNeg) u3 h (qi (fun v235 h234 => vp_in (y4 + (1 : Int32)) L ∧ vp_in (y4 + (2 : Int32)) L ∧ ∃ a238 : Nat, u2 = some a238 ∧ tg h234 a238 = 7 ∧ vc_X7_give a238 (xs (y4 + (1 : Int32)).toNatClampNeg) (xs (y4 + (2 : Int32)).toNatClampNeg) h234 (qi (fun v241 h240 => tg h240 a238 = 7 ∧ vc_X7_thrown a238 h240 (qi (fun v244 h243 => ((v244 = v235 → ((¬ v235 = 0 → P1857 u1 u2 u3 y4 h243) ∧ (v235 = 0 → ∃ a246 : Nat, u3 = some a246 ∧ tg h243 a246 = 9 ∧ vp_in (0 : Int32) (ln h243 a246) ∧ (((lg_cmp (aL h243 a246 0) v241.toInt64) = 0 → P1857 u1 u2 u3 y4 h243) ∧ (¬ (lg_cmp (aL h243 a246 0) v241.toInt64) = 0 → Q (.inl (some (vi (0 : Int32)))) h243))))) ∧ (¬ v244 = v235 → Q (.inl (some (vi (0 : Int32)))) h243))) qn)) qn)) qn)
def vb_L_1154 (L : Nat) (xs : Nat → Int32) (Q : Option AV ⊕ String → Hp → Prop) (P1175 : Option Nat → Option Nat → Option Nat → Int32 → Int32 → Int32 → Option Nat → Hp → Prop) (u1 : Option Nat) (u2 : Option Nat) (u3 : Option Nat) (y4 : Int32) (h : Hp) : Prop :=
    y4.toNatClampNeg ≤ 2562 ∧ vp_in (y4 + (1 : Int32)) L ∧ vp_in (y4 + (2 : Int32)) L ∧ (((xs (y4 + (2 : Int32)).toNatClampNeg) = 0 → P1175 u1 u2 u3 y4 (0 : Int32) (xs (y4 + (1 : Int32)).toNatClampNeg) u1 h) ∧ (¬ (xs (y4 + (2 : Int32)).toNatClampNeg) = 0 → P1175 u1 u2 u3 y4 (1 : Int32) (xs (y4 + (1 : Int32)).toNatClampNeg) u1 h))
def vb_L_1238 (L : Nat) (xs : Nat → Int32) (Q : Option AV ⊕ String → Hp → Prop) (P1857 : Option Nat → Option Nat → Option Nat → Int32 → Hp → Prop) (u1 : Option Nat) (u2 : Option Nat) (u3 : Option Nat) (y4 : Int32) (h : Hp) : Prop :=
    y4.toNatClampNeg ≤ 2562 ∧ vp_in (y4 + (1 : Int32)) L ∧ vp_in (y4 + (2 : Int32)) L ∧ vc_L_poll u1 (xs (y4 + (1 : Int32)).toNatClampNeg) (xs (y4 + (2 : Int32)).toNatClampNeg) u3 h (qi (fun v259 h258 => vp_in (y4 + (1 : Int32)) L ∧ vp_in (y4 + (2 : Int32)) L ∧ ∃ a262 : Nat, u2 = some a262 ∧ tg h258 a262 = 7 ∧ vc_X7_poll a262 (xs (y4 + (1 : Int32)).toNatClampNeg) (xs (y4 + (2 : Int32)).toNatClampNeg) h258 (qi (fun v265 h264 => tg h264 a262 = 7 ∧ vc_X7_thrown a262 h264 (qi (fun v268 h267 => ((v268 = v259 → ((¬ v259 = 0 → P1857 u1 u2 u3 y4 h267) ∧ (v259 = 0 → ∃ a270 : Nat, u3 = some a270 ∧ tg h267 a270 = 9 ∧ vp_in (0 : Int32) (ln h267 a270) ∧ (((lg_cmp (aL h267 a270 0) v265.toInt64) = 0 → P1857 u1 u2 u3 y4 h267) ∧ (¬ (lg_cmp (aL h267 a270 0) v265.toInt64) = 0 → Q (.inl (some (vi (0 : Int32)))) h267))))) ∧ (¬ v268 = v259 → Q (.inl (some (vi (0 : Int32)))) h267))) qn)) qn)) qn)
def vb_L_1306 (L : Nat) (xs : Nat → Int32) (Q : Option AV ⊕ String → Hp → Prop) (P1857 : Option Nat → Option Nat → Option Nat → Int32 → Hp → Prop) (u1 : Option Nat) (u2 : Option Nat) (u3 : Option Nat) (y4 : Int32) (h : Hp) : Prop :=
    y4.toNatClampNeg ≤ 2562 ∧ vp_in (y4 + (1 : Int32)) L ∧ vc_L_waiting u1 (xs (y4 + (1 : Int32)).toNatClampNeg) u3 h (qi (fun v279 h278 => vp_in (y4 + (1 : Int32)) L ∧ ∃ a281 : Nat, u2 = some a281 ∧ tg h278 a281 = 7 ∧ vc_X7_waiting a281 (xs (y4 + (1 : Int32)).toNatClampNeg) h278 (qi (fun v284 h283 => tg h283 a281 = 7 ∧ vc_X7_thrown a281 h283 (qi (fun v287 h286 => ((v287 = v279 → ((¬ v279 = 0 → P1857 u1 u2 u3 y4 h286) ∧ (v279 = 0 → ∃ a289 : Nat, u3 = some a289 ∧ tg h286 a289 = 9 ∧ vp_in (0 : Int32) (ln h286 a289) ∧ (((lg_cmp (aL h286 a289 0) v284.toInt64) = 0 → P1857 u1 u2 u3 y4 h286) ∧ (¬ (lg_cmp (aL h286 a289 0) v284.toInt64) = 0 → Q (.inl (some (vi (0 : Int32)))) h286))))) ∧ (¬ v287 = v279 → Q (.inl (some (vi (0 : Int32)))) h286))) qn)) qn)) qn)
def vb_L_1362 (L : Nat) (xs : Nat → Int32) (Q : Option AV ⊕ String → Hp → Prop) (P1857 : Option Nat → Option Nat → Option Nat → Int32 → Hp → Prop) (u1 : Option Nat) (u2 : Option Nat) (u3 : Option Nat) (y4 : Int32) (h : Hp) : Prop :=
    y4.toNatClampNeg ≤ 2562 ∧ vp_in (y4 + (1 : Int32)) L ∧ vc_L_kind u1 (xs (y4 + (1 : Int32)).toNatClampNeg) u3 h (qi (fun v298 h297 => vp_in (y4 + (1 : Int32)) L ∧ ∃ a300 : Nat, u2 = some a300 ∧ tg h297 a300 = 7 ∧ vc_X7_kind a300 (xs (y4 + (1 : Int32)).toNatClampNeg) h297 (qi (fun v303 h302 => tg h302 a300 = 7 ∧ vc_X7_thrown a300 h302 (qi (fun v306 h305 => ((v306 = v298 → ((¬ v298 = 0 → P1857 u1 u2 u3 y4 h305) ∧ (v298 = 0 → ∃ a308 : Nat, u3 = some a308 ∧ tg h305 a308 = 9 ∧ vp_in (0 : Int32) (ln h305 a308) ∧ (((lg_cmp (aL h305 a308 0) v303.toInt64) = 0 → P1857 u1 u2 u3 y4 h305) ∧ (¬ (lg_cmp (aL h305 a308 0) v303.toInt64) = 0 → Q (.inl (some (vi (0 : Int32)))) h305))))) ∧ (¬ v306 = v298 → Q (.inl (some (vi (0 : Int32)))) h305))) qn)) qn)) qn)
def vb_L_1418 (L : Nat) (xs : Nat → Int32) (Q : Option AV ⊕ String → Hp → Prop) (P1857 : Option Nat → Option Nat → Option Nat → Int32 → Hp → Prop) (u1 : Option Nat) (u2 : Option Nat) (u3 : Option Nat) (y4 : Int32) (h : Hp) : Prop :=
    y4.toNatClampNeg ≤ 2562 ∧ vp_in (y4 + (1 : Int32)) L ∧ vc_L_hash u1 (xs (y4 + (1 : Int32)).toNatClampNeg) u3 h (qi (fun v317 h316 => vp_in (y4 + (1 : Int32)) L ∧ ∃ a319 : Nat, u2 = some a319 ∧ tg h316 a319 = 7 ∧ vc_X7_hash a319 (xs (y4 + (1 : Int32)).toNatClampNeg) h316 (qi (fun v322 h321 => tg h321 a319 = 7 ∧ vc_X7_thrown a319 h321 (qi (fun v325 h324 => ((v325 = v317 → ((¬ v317 = 0 → P1857 u1 u2 u3 y4 h324) ∧ (v317 = 0 → ∃ a327 : Nat, u3 = some a327 ∧ tg h324 a327 = 9 ∧ vp_in (0 : Int32) (ln h324 a327) ∧ (((lg_cmp (aL h324 a327 0) v322.toInt64) = 0 → P1857 u1 u2 u3 y4 h324) ∧ (¬ (lg_cmp (aL h324 a327 0) v322.toInt64) = 0 → Q (.inl (some (vi (0 : Int32)))) h324))))) ∧ (¬ v325 = v317 → Q (.inl (some (vi (0 : Int32)))) h324))) qn)) qn)) qn)
def vb_L_1474 (L : Nat) (xs : Nat → Int32) (Q : Option AV ⊕ String → Hp → Prop) (P1857 : Option Nat → Option Nat → Option Nat → Int32 → Hp → Prop) (P1540 : Option Nat → Option Nat → Option Nat → Int32 → Int64 → Int64 → Hp → Prop) (u1 : Option Nat) (u2 : Option Nat) (u3 : Option Nat) (y4 : Int32) (h : Hp) : Prop :=
    y4.toNatClampNeg ≤ 2562 ∧ vp_in (y4 + (1 : Int32)) L ∧ vp_in (y4 + (2 : Int32)) L ∧ vc_L_same u1 (xs (y4 + (1 : Int32)).toNatClampNeg) (xs (y4 + (2 : Int32)).toNatClampNeg) u3 h (qi (fun v337 h336 => vp_in (y4 + (1 : Int32)) L ∧ vp_in (y4 + (2 : Int32)) L ∧ ∃ a340 : Nat, u2 = some a340 ∧ tg h336 a340 = 7 ∧ vc_X7_same a340 (xs (y4 + (1 : Int32)).toNatClampNeg) (xs (y4 + (2 : Int32)).toNatClampNeg) h336 (qi (fun v343 h342 => tg h342 a340 = 7 ∧ vc_X7_thrown a340 h342 (qi (fun v346 h345 => ((v346 = v337 → ((¬ v337 = 0 → P1857 u1 u2 u3 y4 h345) ∧ (v337 = 0 → ∃ a348 : Nat, u3 = some a348 ∧ tg h345 a348 = 9 ∧ vp_in (0 : Int32) (ln h345 a348) ∧ ((v343 = 0 → P1540 u1 u2 u3 y4 (0 : Int64) (aL h345 a348 0) h345) ∧ (¬ v343 = 0 → P1540 u1 u2 u3 y4 (1 : Int64) (aL h345 a348 0) h345))))) ∧ (¬ v346 = v337 → Q (.inl (some (vi (0 : Int32)))) h345))) qn)) qn)) qn)
def vb_L_1549 (L : Nat) (xs : Nat → Int32) (Q : Option AV ⊕ String → Hp → Prop) (P1857 : Option Nat → Option Nat → Option Nat → Int32 → Hp → Prop) (u1 : Option Nat) (u2 : Option Nat) (u3 : Option Nat) (y4 : Int32) (h : Hp) : Prop :=
    y4.toNatClampNeg ≤ 2562 ∧ vp_in (y4 + (1 : Int32)) L ∧ vc_L_open u1 (xs (y4 + (1 : Int32)).toNatClampNeg) u3 h (qi (fun v357 h356 => vp_in (y4 + (1 : Int32)) L ∧ ∃ a359 : Nat, u2 = some a359 ∧ tg h356 a359 = 7 ∧ vc_X7_open a359 (xs (y4 + (1 : Int32)).toNatClampNeg) h356 (qi (fun v362 h361 => tg h361 a359 = 7 ∧ vc_X7_thrown a359 h361 (qi (fun v365 h364 => ((v365 = v357 → ((¬ v357 = 0 → P1857 u1 u2 u3 y4 h364) ∧ (v357 = 0 → ∃ a367 : Nat, u3 = some a367 ∧ tg h364 a367 = 9 ∧ vp_in (0 : Int32) (ln h364 a367) ∧ (((lg_cmp (aL h364 a367 0) v362.toInt64) = 0 → P1857 u1 u2 u3 y4 h364) ∧ (¬ (lg_cmp (aL h364 a367 0) v362.toInt64) = 0 → Q (.inl (some (vi (0 : Int32)))) h364))))) ∧ (¬ v365 = v357 → Q (.inl (some (vi (0 : Int32)))) h364))) qn)) qn)) qn)
def vb_L_1605 (L : Nat) (xs : Nat → Int32) (Q : Option AV ⊕ String → Hp → Prop) (P1857 : Option Nat → Option Nat → Option Nat → Int32 → Hp → Prop) (u1 : Option Nat) (u2 : Option Nat) (u3 : Option Nat) (y4 : Int32) (h : Hp) : Prop :=
    y4.toNatClampNeg ≤ 2562 ∧ vc_L_close u1 u3 h (qi (fun v375 h374 => ∃ a376 : Nat, u2 = some a376 ∧ tg h374 a376 = 7 ∧ vc_X7_close a376 h374 (qi (fun v379 h378 => tg h378 a376 = 7 ∧ vc_X7_thrown a376 h378 (qi (fun v382 h381 => ((v382 = v375 → ((¬ v375 = 0 → P1857 u1 u2 u3 y4 h381) ∧ (v375 = 0 → ∃ a384 : Nat, u3 = some a384 ∧ tg h381 a384 = 9 ∧ vp_in (0 : Int32) (ln h381 a384) ∧ (((lg_cmp (aL h381 a384 0) v379.toInt64) = 0 → P1857 u1 u2 u3 y4 h381) ∧ (¬ (lg_cmp (aL h381 a384 0) v379.toInt64) = 0 → Q (.inl (some (vi (0 : Int32)))) h381))))) ∧ (¬ v382 = v375 → Q (.inl (some (vi (0 : Int32)))) h381))) qn)) qn)) qn)
def vb_L_1649 (L : Nat) (xs : Nat → Int32) (Q : Option AV ⊕ String → Hp → Prop) (P1664 : Option Nat → Option Nat → Option Nat → Int32 → Int32 → Option Nat → Hp → Prop) (u1 : Option Nat) (u2 : Option Nat) (u3 : Option Nat) (y4 : Int32) (h : Hp) : Prop :=
    y4.toNatClampNeg ≤ 2562 ∧ vp_in (y4 + (1 : Int32)) L ∧ (((xs (y4 + (1 : Int32)).toNatClampNeg) = 0 → P1664 u1 u2 u3 y4 (0 : Int32) u1 h) ∧ (¬ (xs (y4 + (1 : Int32)).toNatClampNeg) = 0 → P1664 u1 u2 u3 y4 (1 : Int32) u1 h))
def vb_L_1690 (L : Nat) (xs : Nat → Int32) (Q : Option AV ⊕ String → Hp → Prop) (P1857 : Option Nat → Option Nat → Option Nat → Int32 → Hp → Prop) (u1 : Option Nat) (u2 : Option Nat) (u3 : Option Nat) (y4 : Int32) (h : Hp) : Prop :=
    y4.toNatClampNeg ≤ 2562 ∧ vp_in (y4 + (1 : Int32)) L ∧ vc_L_every u1 (xs (y4 + (1 : Int32)).toNatClampNeg) u3 h (qi (fun v395 h394 => vp_in (y4 + (1 : Int32)) L ∧ ∃ a397 : Nat, u2 = some a397 ∧ tg h394 a397 = 7 ∧ vc_X7_every a397 (xs (y4 + (1 : Int32)).toNatClampNeg) h394 (qi (fun v400 h399 => tg h399 a397 = 7 ∧ vc_X7_thrown a397 h399 (qi (fun v403 h402 => ((v403 = v395 → ((¬ v395 = 0 → P1857 u1 u2 u3 y4 h402) ∧ (v395 = 0 → ∃ a405 : Nat, u3 = some a405 ∧ tg h402 a405 = 9 ∧ vp_in (0 : Int32) (ln h402 a405) ∧ (((lg_cmp (aL h402 a405 0) v400.toInt64) = 0 → P1857 u1 u2 u3 y4 h402) ∧ (¬ (lg_cmp (aL h402 a405 0) v400.toInt64) = 0 → Q (.inl (some (vi (0 : Int32)))) h402))))) ∧ (¬ v403 = v395 → Q (.inl (some (vi (0 : Int32)))) h402))) qn)) qn)) qn)
def vb_L_1746 (L : Nat) (xs : Nat → Int32) (Q : Option AV ⊕ String → Hp → Prop) (P1857 : Option Nat → Option Nat → Option Nat → Int32 → Hp → Prop) (u1 : Option Nat) (u2 : Option Nat) (u3 : Option Nat) (y4 : Int32) (h : Hp) : Prop :=
    y4.toNatClampNeg ≤ 2562 ∧ vp_in (y4 + (1 : Int32)) L ∧ vc_L_count u1 (xs (y4 + (1 : Int32)).toNatClampNeg) u3 h (qi (fun v414 h413 => vp_in (y4 + (1 : Int32)) L ∧ ∃ a416 : Nat, u2 = some a416 ∧ tg h413 a416 = 7 ∧ vc_X7_count a416 (xs (y4 + (1 : Int32)).toNatClampNeg) h413 (qi (fun v419 h418 => tg h418 a416 = 7 ∧ vc_X7_thrown a416 h418 (qi (fun v422 h421 => ((v422 = v414 → ((¬ v414 = 0 → P1857 u1 u2 u3 y4 h421) ∧ (v414 = 0 → ∃ a424 : Nat, u3 = some a424 ∧ tg h421 a424 = 9 ∧ vp_in (0 : Int32) (ln h421 a424) ∧ (((lg_cmp (aL h421 a424 0) v419.toInt64) = 0 → P1857 u1 u2 u3 y4 h421) ∧ (¬ (lg_cmp (aL h421 a424 0) v419.toInt64) = 0 → Q (.inl (some (vi (0 : Int32)))) h421))))) ∧ (¬ v422 = v414 → Q (.inl (some (vi (0 : Int32)))) h421))) qn)) qn)) qn)
def vb_L_1802 (L : Nat) (xs : Nat → Int32) (Q : Option AV ⊕ String → Hp → Prop) (P1857 : Option Nat → Option Nat → Option Nat → Int32 → Hp → Prop) (u1 : Option Nat) (u2 : Option Nat) (u3 : Option Nat) (y4 : Int32) (h : Hp) : Prop :=
    y4.toNatClampNeg ≤ 2562 ∧ vp_in (y4 + (1 : Int32)) L ∧ vc_L_digest u1 (xs (y4 + (1 : Int32)).toNatClampNeg) u3 h (qi (fun v433 h432 => vp_in (y4 + (1 : Int32)) L ∧ ∃ a435 : Nat, u2 = some a435 ∧ tg h432 a435 = 7 ∧ vc_X7_digest a435 (xs (y4 + (1 : Int32)).toNatClampNeg) h432 (ql (fun v438 h437 => tg h437 a435 = 7 ∧ vc_X7_thrown a435 h437 (qi (fun v441 h440 => ((v441 = v433 → ((¬ v433 = 0 → P1857 u1 u2 u3 y4 h440) ∧ (v433 = 0 → ∃ a443 : Nat, u3 = some a443 ∧ tg h440 a443 = 9 ∧ vp_in (0 : Int32) (ln h440 a443) ∧ (((lg_cmp (aL h440 a443 0) v438) = 0 → P1857 u1 u2 u3 y4 h440) ∧ (¬ (lg_cmp (aL h440 a443 0) v438) = 0 → Q (.inl (some (vi (0 : Int32)))) h440))))) ∧ (¬ v441 = v433 → Q (.inl (some (vi (0 : Int32)))) h440))) qn)) qn)) qn)
def vb_L_1857 (L : Nat) (xs : Nat → Int32) (Q : Option AV ⊕ String → Hp → Prop) (P43 : Option Nat → Option Nat → Option Nat → Int32 → Hp → Prop) (u1 : Option Nat) (u2 : Option Nat) (u3 : Option Nat) (y4 : Int32) (h : Hp) : Prop :=
    y4.toNatClampNeg ≤ 2562 ∧ (y4 + 5).toNatClampNeg = y4.toNatClampNeg + 5 ∧ P43 u1 u2 u3 (y4 + 5) h
def vb_L_275 (L : Nat) (xs : Nat → Int32) (Q : Option AV ⊕ String → Hp → Prop) (P308 : Option Nat → Option Nat → Option Nat → Int32 → Int32 → Int32 → Int32 → Int32 → Option Nat → Hp → Prop) (u1 : Option Nat) (u2 : Option Nat) (u3 : Option Nat) (y4 : Int32) (w0 : Int32) (w1 : Int32) (w2 : Int32) (v3 : Option Nat) (h : Hp) : Prop :=
    y4.toNatClampNeg ≤ 2562 ∧ vc_L_row v3 w2 w1 w0 u3 h (qi (fun v452 h451 => vp_in (y4 + (1 : Int32)) L ∧ vp_in (y4 + (2 : Int32)) L ∧ vp_in (y4 + (3 : Int32)) L ∧ (((xs (y4 + (3 : Int32)).toNatClampNeg) = 0 → P308 u1 u2 u3 y4 v452 (0 : Int32) (xs (y4 + (2 : Int32)).toNatClampNeg) (xs (y4 + (1 : Int32)).toNatClampNeg) u2 h451) ∧ (¬ (xs (y4 + (3 : Int32)).toNatClampNeg) = 0 → P308 u1 u2 u3 y4 v452 (1 : Int32) (xs (y4 + (2 : Int32)).toNatClampNeg) (xs (y4 + (1 : Int32)).toNatClampNeg) u2 h451))) qn)
def vb_L_1017 (L : Nat) (xs : Nat → Int32) (Q : Option AV ⊕ String → Hp → Prop) (P1050 : Option Nat → Option Nat → Option Nat → Int32 → Int32 → Int32 → Int32 → Int32 → Option Nat → Hp → Prop) (u1 : Option Nat) (u2 : Option Nat) (u3 : Option Nat) (y4 : Int32) (w0 : Int32) (w1 : Int32) (w2 : Int32) (v3 : Option Nat) (h : Hp) : Prop :=
    y4.toNatClampNeg ≤ 2562 ∧ vc_L_referent v3 w2 w1 w0 u3 h (qi (fun v458 h457 => vp_in (y4 + (1 : Int32)) L ∧ vp_in (y4 + (2 : Int32)) L ∧ vp_in (y4 + (3 : Int32)) L ∧ (((xs (y4 + (3 : Int32)).toNatClampNeg) = 0 → P1050 u1 u2 u3 y4 v458 (0 : Int32) (xs (y4 + (2 : Int32)).toNatClampNeg) (xs (y4 + (1 : Int32)).toNatClampNeg) u2 h457) ∧ (¬ (xs (y4 + (3 : Int32)).toNatClampNeg) = 0 → P1050 u1 u2 u3 y4 v458 (1 : Int32) (xs (y4 + (2 : Int32)).toNatClampNeg) (xs (y4 + (1 : Int32)).toNatClampNeg) u2 h457))) qn)
def vb_L_1175 (L : Nat) (xs : Nat → Int32) (Q : Option AV ⊕ String → Hp → Prop) (P1202 : Option Nat → Option Nat → Option Nat → Int32 → Int32 → Int32 → Int32 → Option Nat → Hp → Prop) (u1 : Option Nat) (u2 : Option Nat) (u3 : Option Nat) (y4 : Int32) (w0 : Int32) (w1 : Int32) (v2 : Option Nat) (h : Hp) : Prop :=
    y4.toNatClampNeg ≤ 2562 ∧ vc_L_clear v2 w1 w0 u3 h (qi (fun v464 h463 => vp_in (y4 + (1 : Int32)) L ∧ vp_in (y4 + (2 : Int32)) L ∧ (((xs (y4 + (2 : Int32)).toNatClampNeg) = 0 → P1202 u1 u2 u3 y4 v464 (0 : Int32) (xs (y4 + (1 : Int32)).toNatClampNeg) u2 h463) ∧ (¬ (xs (y4 + (2 : Int32)).toNatClampNeg) = 0 → P1202 u1 u2 u3 y4 v464 (1 : Int32) (xs (y4 + (1 : Int32)).toNatClampNeg) u2 h463))) qn)
def vb_L_1540 (L : Nat) (xs : Nat → Int32) (Q : Option AV ⊕ String → Hp → Prop) (P1857 : Option Nat → Option Nat → Option Nat → Int32 → Hp → Prop) (u1 : Option Nat) (u2 : Option Nat) (u3 : Option Nat) (y4 : Int32) (s0 : Int64) (s1 : Int64) (h : Hp) : Prop :=
    y4.toNatClampNeg ≤ 2562 ∧ (((lg_cmp s1 s0) = 0 → P1857 u1 u2 u3 y4 h) ∧ (¬ (lg_cmp s1 s0) = 0 → Q (.inl (some (vi (0 : Int32)))) h))
def vb_L_1664 (L : Nat) (xs : Nat → Int32) (Q : Option AV ⊕ String → Hp → Prop) (P1682 : Option Nat → Option Nat → Option Nat → Int32 → Int32 → Option Nat → Int32 → Hp → Prop) (u1 : Option Nat) (u2 : Option Nat) (u3 : Option Nat) (y4 : Int32) (w0 : Int32) (v1 : Option Nat) (h : Hp) : Prop :=
    y4.toNatClampNeg ≤ 2562 ∧ ∃ a469 : Nat, v1 = some a469 ∧ tg h a469 = 6 ∧ vc_X6_collect a469 w0 h (qi (fun v472 h471 => vp_in (y4 + (1 : Int32)) L ∧ (((xs (y4 + (1 : Int32)).toNatClampNeg) = 0 → P1682 u1 u2 u3 y4 (0 : Int32) u2 v472 h471) ∧ (¬ (xs (y4 + (1 : Int32)).toNatClampNeg) = 0 → P1682 u1 u2 u3 y4 (1 : Int32) u2 v472 h471))) qn)
def vb_L_308 (L : Nat) (xs : Nat → Int32) (Q : Option AV ⊕ String → Hp → Prop) (P1857 : Option Nat → Option Nat → Option Nat → Int32 → Hp → Prop) (u1 : Option Nat) (u2 : Option Nat) (u3 : Option Nat) (y4 : Int32) (y5 : Int32) (w0 : Int32) (w1 : Int32) (w2 : Int32) (v3 : Option Nat) (h : Hp) : Prop :=
    y4.toNatClampNeg ≤ 2562 ∧ ∃ a476 : Nat, v3 = some a476 ∧ tg h a476 = 7 ∧ vc_X7_row a476 w2 w1 w0 h (qi (fun v479 h478 => ∃ a481 : Nat, u2 = some a481 ∧ tg h478 a481 = 7 ∧ vc_X7_thrown a481 h478 (qi (fun v484 h483 => ((v484 = y5 → ((¬ y5 = 0 → P1857 u1 u2 u3 y4 h483) ∧ (y5 = 0 → ∃ a486 : Nat, u3 = some a486 ∧ tg h483 a486 = 9 ∧ vp_in (0 : Int32) (ln h483 a486) ∧ (((lg_cmp (aL h483 a486 0) v479.toInt64) = 0 → P1857 u1 u2 u3 y4 h483) ∧ (¬ (lg_cmp (aL h483 a486 0) v479.toInt64) = 0 → Q (.inl (some (vi (0 : Int32)))) h483))))) ∧ (¬ v484 = y5 → Q (.inl (some (vi (0 : Int32)))) h483))) qn)) qn)
def vb_L_1050 (L : Nat) (xs : Nat → Int32) (Q : Option AV ⊕ String → Hp → Prop) (P1857 : Option Nat → Option Nat → Option Nat → Int32 → Hp → Prop) (u1 : Option Nat) (u2 : Option Nat) (u3 : Option Nat) (y4 : Int32) (y5 : Int32) (w0 : Int32) (w1 : Int32) (w2 : Int32) (v3 : Option Nat) (h : Hp) : Prop :=
    y4.toNatClampNeg ≤ 2562 ∧ ∃ a493 : Nat, v3 = some a493 ∧ tg h a493 = 7 ∧ vc_X7_referent a493 w2 w1 w0 h (qi (fun v496 h495 => ∃ a498 : Nat, u2 = some a498 ∧ tg h495 a498 = 7 ∧ vc_X7_thrown a498 h495 (qi (fun v501 h500 => ((v501 = y5 → ((¬ y5 = 0 → P1857 u1 u2 u3 y4 h500) ∧ (y5 = 0 → ∃ a503 : Nat, u3 = some a503 ∧ tg h500 a503 = 9 ∧ vp_in (0 : Int32) (ln h500 a503) ∧ (((lg_cmp (aL h500 a503 0) v496.toInt64) = 0 → P1857 u1 u2 u3 y4 h500) ∧ (¬ (lg_cmp (aL h500 a503 0) v496.toInt64) = 0 → Q (.inl (some (vi (0 : Int32)))) h500))))) ∧ (¬ v501 = y5 → Q (.inl (some (vi (0 : Int32)))) h500))) qn)) qn)
def vb_L_1202 (L : Nat) (xs : Nat → Int32) (Q : Option AV ⊕ String → Hp → Prop) (P1857 : Option Nat → Option Nat → Option Nat → Int32 → Hp → Prop) (u1 : Option Nat) (u2 : Option Nat) (u3 : Option Nat) (y4 : Int32) (y5 : Int32) (w0 : Int32) (w1 : Int32) (v2 : Option Nat) (h : Hp) : Prop :=
    y4.toNatClampNeg ≤ 2562 ∧ ∃ a510 : Nat, v2 = some a510 ∧ tg h a510 = 7 ∧ vc_X7_clear a510 w1 w0 h (qi (fun v513 h512 => ∃ a515 : Nat, u2 = some a515 ∧ tg h512 a515 = 7 ∧ vc_X7_thrown a515 h512 (qi (fun v518 h517 => ((v518 = y5 → ((¬ y5 = 0 → P1857 u1 u2 u3 y4 h517) ∧ (y5 = 0 → ∃ a520 : Nat, u3 = some a520 ∧ tg h517 a520 = 9 ∧ vp_in (0 : Int32) (ln h517 a520) ∧ (((lg_cmp (aL h517 a520 0) v513.toInt64) = 0 → P1857 u1 u2 u3 y4 h517) ∧ (¬ (lg_cmp (aL h517 a520 0) v513.toInt64) = 0 → Q (.inl (some (vi (0 : Int32)))) h517))))) ∧ (¬ v518 = y5 → Q (.inl (some (vi (0 : Int32)))) h517))) qn)) qn)
def vb_L_1682 (L : Nat) (xs : Nat → Int32) (Q : Option AV ⊕ String → Hp → Prop) (P1857 : Option Nat → Option Nat → Option Nat → Int32 → Hp → Prop) (u1 : Option Nat) (u2 : Option Nat) (u3 : Option Nat) (y4 : Int32) (w0 : Int32) (v1 : Option Nat) (w2 : Int32) (h : Hp) : Prop :=
    y4.toNatClampNeg ≤ 2562 ∧ ∃ a527 : Nat, v1 = some a527 ∧ tg h a527 = 7 ∧ vc_X7_collect a527 w0 h (qi (fun v530 h529 => ((w2 = v530 → P1857 u1 u2 u3 y4 h529) ∧ (¬ w2 = v530 → Q (.inl (some (vi (0 : Int32)))) h529))) qn)
def vc_L_law (L : Nat) (xs : Nat → Int32) (h : Hp) (Q : Option AV ⊕ String → Hp → Prop) : Prop :=
    ∀ (P43 : Option Nat → Option Nat → Option Nat → Int32 → Hp → Prop) (P168 : Option Nat → Option Nat → Option Nat → Int32 → Hp → Prop) (P248 : Option Nat → Option Nat → Option Nat → Int32 → Hp → Prop) (P344 : Option Nat → Option Nat → Option Nat → Int32 → Hp → Prop) (P400 : Option Nat → Option Nat → Option Nat → Int32 → Hp → Prop) (P492 : Option Nat → Option Nat → Option Nat → Int32 → Hp → Prop) (P584 : Option Nat → Option Nat → Option Nat → Int32 → Hp → Prop) (P652 : Option Nat → Option Nat → Option Nat → Int32 → Hp → Prop) (P732 : Option Nat → Option Nat → Option Nat → Int32 → Hp → Prop) (P812 : Option Nat → Option Nat → Option Nat → Int32 → Hp → Prop) (P923 : Option Nat → Option Nat → Option Nat → Int32 → Hp → Prop) (P990 : Option Nat → Option Nat → Option Nat → Int32 → Hp → Prop) (P1086 : Option Nat → Option Nat → Option Nat → Int32 → Hp → Prop) (P1154 : Option Nat → Option Nat → Option Nat → Int32 → Hp → Prop) (P1238 : Option Nat → Option Nat → Option Nat → Int32 → Hp → Prop) (P1306 : Option Nat → Option Nat → Option Nat → Int32 → Hp → Prop) (P1362 : Option Nat → Option Nat → Option Nat → Int32 → Hp → Prop) (P1418 : Option Nat → Option Nat → Option Nat → Int32 → Hp → Prop) (P1474 : Option Nat → Option Nat → Option Nat → Int32 → Hp → Prop) (P1549 : Option Nat → Option Nat → Option Nat → Int32 → Hp → Prop) (P1605 : Option Nat → Option Nat → Option Nat → Int32 → Hp → Prop) (P1649 : Option Nat → Option Nat → Option Nat → Int32 → Hp → Prop) (P1690 : Option Nat → Option Nat → Option Nat → Int32 → Hp → Prop) (P1746 : Option Nat → Option Nat → Option Nat → Int32 → Hp → Prop) (P1802 : Option Nat → Option Nat → Option Nat → Int32 → Hp → Prop) (P1857 : Option Nat → Option Nat → Option Nat → Int32 → Hp → Prop) (P275 : Option Nat → Option Nat → Option Nat → Int32 → Int32 → Int32 → Int32 → Option Nat → Hp → Prop) (P1017 : Option Nat → Option Nat → Option Nat → Int32 → Int32 → Int32 → Int32 → Option Nat → Hp → Prop) (P1175 : Option Nat → Option Nat → Option Nat → Int32 → Int32 → Int32 → Option Nat → Hp → Prop) (P1540 : Option Nat → Option Nat → Option Nat → Int32 → Int64 → Int64 → Hp → Prop) (P1664 : Option Nat → Option Nat → Option Nat → Int32 → Int32 → Option Nat → Hp → Prop) (P308 : Option Nat → Option Nat → Option Nat → Int32 → Int32 → Int32 → Int32 → Int32 → Option Nat → Hp → Prop) (P1050 : Option Nat → Option Nat → Option Nat → Int32 → Int32 → Int32 → Int32 → Int32 → Option Nat → Hp → Prop) (P1202 : Option Nat → Option Nat → Option Nat → Int32 → Int32 → Int32 → Int32 → Option Nat → Hp → Prop) (P1682 : Option Nat → Option Nat → Option Nat → Int32 → Int32 → Option Nat → Int32 → Hp → Prop),
    (∀ (u1 : Option Nat) (u2 : Option Nat) (u3 : Option Nat) (y4 : Int32) (h : Hp), vb_L_43 L xs Q P168 P248 P344 P400 P492 P584 P652 P732 P812 P923 P990 P1086 P1154 P1238 P1306 P1362 P1418 P1474 P1549 P1605 P1649 P1690 P1746 P1802 P1857 u1 u2 u3 y4 h → P43 u1 u2 u3 y4 h) →
    (∀ (u1 : Option Nat) (u2 : Option Nat) (u3 : Option Nat) (y4 : Int32) (h : Hp), vb_L_168 L xs Q P1857 u1 u2 u3 y4 h → P168 u1 u2 u3 y4 h) →
    (∀ (u1 : Option Nat) (u2 : Option Nat) (u3 : Option Nat) (y4 : Int32) (h : Hp), vb_L_248 L xs Q P275 u1 u2 u3 y4 h → P248 u1 u2 u3 y4 h) →
    (∀ (u1 : Option Nat) (u2 : Option Nat) (u3 : Option Nat) (y4 : Int32) (h : Hp), vb_L_344 L xs Q P1857 u1 u2 u3 y4 h → P344 u1 u2 u3 y4 h) →
    (∀ (u1 : Option Nat) (u2 : Option Nat) (u3 : Option Nat) (y4 : Int32) (h : Hp), vb_L_400 L xs Q P1857 u1 u2 u3 y4 h → P400 u1 u2 u3 y4 h) →
    (∀ (u1 : Option Nat) (u2 : Option Nat) (u3 : Option Nat) (y4 : Int32) (h : Hp), vb_L_492 L xs Q P1857 u1 u2 u3 y4 h → P492 u1 u2 u3 y4 h) →
    (∀ (u1 : Option Nat) (u2 : Option Nat) (u3 : Option Nat) (y4 : Int32) (h : Hp), vb_L_584 L xs Q P1857 u1 u2 u3 y4 h → P584 u1 u2 u3 y4 h) →
    (∀ (u1 : Option Nat) (u2 : Option Nat) (u3 : Option Nat) (y4 : Int32) (h : Hp), vb_L_652 L xs Q P1857 u1 u2 u3 y4 h → P652 u1 u2 u3 y4 h) →
    (∀ (u1 : Option Nat) (u2 : Option Nat) (u3 : Option Nat) (y4 : Int32) (h : Hp), vb_L_732 L xs Q P1857 u1 u2 u3 y4 h → P732 u1 u2 u3 y4 h) →
    (∀ (u1 : Option Nat) (u2 : Option Nat) (u3 : Option Nat) (y4 : Int32) (h : Hp), vb_L_812 L xs Q P1857 u1 u2 u3 y4 h → P812 u1 u2 u3 y4 h) →
    (∀ (u1 : Option Nat) (u2 : Option Nat) (u3 : Option Nat) (y4 : Int32) (h : Hp), vb_L_923 L xs Q P1857 u1 u2 u3 y4 h → P923 u1 u2 u3 y4 h) →
    (∀ (u1 : Option Nat) (u2 : Option Nat) (u3 : Option Nat) (y4 : Int32) (h : Hp), vb_L_990 L xs Q P1017 u1 u2 u3 y4 h → P990 u1 u2 u3 y4 h) →
    (∀ (u1 : Option Nat) (u2 : Option Nat) (u3 : Option Nat) (y4 : Int32) (h : Hp), vb_L_1086 L xs Q P1857 u1 u2 u3 y4 h → P1086 u1 u2 u3 y4 h) →
    (∀ (u1 : Option Nat) (u2 : Option Nat) (u3 : Option Nat) (y4 : Int32) (h : Hp), vb_L_1154 L xs Q P1175 u1 u2 u3 y4 h → P1154 u1 u2 u3 y4 h) →
    (∀ (u1 : Option Nat) (u2 : Option Nat) (u3 : Option Nat) (y4 : Int32) (h : Hp), vb_L_1238 L xs Q P1857 u1 u2 u3 y4 h → P1238 u1 u2 u3 y4 h) →
    (∀ (u1 : Option Nat) (u2 : Option Nat) (u3 : Option Nat) (y4 : Int32) (h : Hp), vb_L_1306 L xs Q P1857 u1 u2 u3 y4 h → P1306 u1 u2 u3 y4 h) →
    (∀ (u1 : Option Nat) (u2 : Option Nat) (u3 : Option Nat) (y4 : Int32) (h : Hp), vb_L_1362 L xs Q P1857 u1 u2 u3 y4 h → P1362 u1 u2 u3 y4 h) →
    (∀ (u1 : Option Nat) (u2 : Option Nat) (u3 : Option Nat) (y4 : Int32) (h : Hp), vb_L_1418 L xs Q P1857 u1 u2 u3 y4 h → P1418 u1 u2 u3 y4 h) →
    (∀ (u1 : Option Nat) (u2 : Option Nat) (u3 : Option Nat) (y4 : Int32) (h : Hp), vb_L_1474 L xs Q P1857 P1540 u1 u2 u3 y4 h → P1474 u1 u2 u3 y4 h) →
    (∀ (u1 : Option Nat) (u2 : Option Nat) (u3 : Option Nat) (y4 : Int32) (h : Hp), vb_L_1549 L xs Q P1857 u1 u2 u3 y4 h → P1549 u1 u2 u3 y4 h) →
    (∀ (u1 : Option Nat) (u2 : Option Nat) (u3 : Option Nat) (y4 : Int32) (h : Hp), vb_L_1605 L xs Q P1857 u1 u2 u3 y4 h → P1605 u1 u2 u3 y4 h) →
    (∀ (u1 : Option Nat) (u2 : Option Nat) (u3 : Option Nat) (y4 : Int32) (h : Hp), vb_L_1649 L xs Q P1664 u1 u2 u3 y4 h → P1649 u1 u2 u3 y4 h) →
    (∀ (u1 : Option Nat) (u2 : Option Nat) (u3 : Option Nat) (y4 : Int32) (h : Hp), vb_L_1690 L xs Q P1857 u1 u2 u3 y4 h → P1690 u1 u2 u3 y4 h) →
    (∀ (u1 : Option Nat) (u2 : Option Nat) (u3 : Option Nat) (y4 : Int32) (h : Hp), vb_L_1746 L xs Q P1857 u1 u2 u3 y4 h → P1746 u1 u2 u3 y4 h) →
    (∀ (u1 : Option Nat) (u2 : Option Nat) (u3 : Option Nat) (y4 : Int32) (h : Hp), vb_L_1802 L xs Q P1857 u1 u2 u3 y4 h → P1802 u1 u2 u3 y4 h) →
    (∀ (u1 : Option Nat) (u2 : Option Nat) (u3 : Option Nat) (y4 : Int32) (h : Hp), vb_L_1857 L xs Q P43 u1 u2 u3 y4 h → P1857 u1 u2 u3 y4 h) →
    (∀ (u1 : Option Nat) (u2 : Option Nat) (u3 : Option Nat) (y4 : Int32) (w0 : Int32) (w1 : Int32) (w2 : Int32) (v3 : Option Nat) (h : Hp), vb_L_275 L xs Q P308 u1 u2 u3 y4 w0 w1 w2 v3 h → P275 u1 u2 u3 y4 w0 w1 w2 v3 h) →
    (∀ (u1 : Option Nat) (u2 : Option Nat) (u3 : Option Nat) (y4 : Int32) (w0 : Int32) (w1 : Int32) (w2 : Int32) (v3 : Option Nat) (h : Hp), vb_L_1017 L xs Q P1050 u1 u2 u3 y4 w0 w1 w2 v3 h → P1017 u1 u2 u3 y4 w0 w1 w2 v3 h) →
    (∀ (u1 : Option Nat) (u2 : Option Nat) (u3 : Option Nat) (y4 : Int32) (w0 : Int32) (w1 : Int32) (v2 : Option Nat) (h : Hp), vb_L_1175 L xs Q P1202 u1 u2 u3 y4 w0 w1 v2 h → P1175 u1 u2 u3 y4 w0 w1 v2 h) →
    (∀ (u1 : Option Nat) (u2 : Option Nat) (u3 : Option Nat) (y4 : Int32) (s0 : Int64) (s1 : Int64) (h : Hp), vb_L_1540 L xs Q P1857 u1 u2 u3 y4 s0 s1 h → P1540 u1 u2 u3 y4 s0 s1 h) →
    (∀ (u1 : Option Nat) (u2 : Option Nat) (u3 : Option Nat) (y4 : Int32) (w0 : Int32) (v1 : Option Nat) (h : Hp), vb_L_1664 L xs Q P1682 u1 u2 u3 y4 w0 v1 h → P1664 u1 u2 u3 y4 w0 v1 h) →
    (∀ (u1 : Option Nat) (u2 : Option Nat) (u3 : Option Nat) (y4 : Int32) (y5 : Int32) (w0 : Int32) (w1 : Int32) (w2 : Int32) (v3 : Option Nat) (h : Hp), vb_L_308 L xs Q P1857 u1 u2 u3 y4 y5 w0 w1 w2 v3 h → P308 u1 u2 u3 y4 y5 w0 w1 w2 v3 h) →
    (∀ (u1 : Option Nat) (u2 : Option Nat) (u3 : Option Nat) (y4 : Int32) (y5 : Int32) (w0 : Int32) (w1 : Int32) (w2 : Int32) (v3 : Option Nat) (h : Hp), vb_L_1050 L xs Q P1857 u1 u2 u3 y4 y5 w0 w1 w2 v3 h → P1050 u1 u2 u3 y4 y5 w0 w1 w2 v3 h) →
    (∀ (u1 : Option Nat) (u2 : Option Nat) (u3 : Option Nat) (y4 : Int32) (y5 : Int32) (w0 : Int32) (w1 : Int32) (v2 : Option Nat) (h : Hp), vb_L_1202 L xs Q P1857 u1 u2 u3 y4 y5 w0 w1 v2 h → P1202 u1 u2 u3 y4 y5 w0 w1 v2 h) →
    (∀ (u1 : Option Nat) (u2 : Option Nat) (u3 : Option Nat) (y4 : Int32) (w0 : Int32) (v1 : Option Nat) (w2 : Int32) (h : Hp), vb_L_1682 L xs Q P1857 u1 u2 u3 y4 w0 v1 w2 h → P1682 u1 u2 u3 y4 w0 v1 w2 h) →
    (∀ a1 : Nat, tg h a1 = 0 → vc_X6_init a1 (cel L xs (0 : Int32)) (cel L xs (1 : Int32)) (nO h a1 6) (qv (fun h4 => (∀ a6 : Nat, tg h4 a6 = 0 → vc_X7_init a6 (cel L xs (0 : Int32)) (cel L xs (1 : Int32)) (nO h4 a6 7) (qv (fun h9 => (∀ a11 : Nat, tg h9 a11 = 0 → P43 (some a1) (some a6) (some a11) (2 : Int32) (nA h9 a11 9 1))) qn))) qn))
set_option maxRecDepth 20000 in
set_option maxHeartbeats 2000000 in
theorem sb_L_43 {G : Cx} {tb : List ExceptionTableEntry} {nm : String} {b L : Nat} {xs : Nat → Int32} {Q : Option AV ⊕ String → Hp → Prop} {h : Hp} (hg : glv G = 0) (hlim : ∀ k n, k ≤ 600000 → n ≤ 7000000 → lim G k n) (C : OK G cL_law 8 RL (some .boolean) tb nm) (hX : SC G b L xs) (hL : L ≤ 2562) {u1 : Option Nat} {u2 : Option Nat} {u3 : Option Nat} {y4 : Int32} (hv : vb_L_43 L xs Q (fun u1 u2 u3 y4 h => J G Q 168 [some (vr (some b)), some (vr u1), some (vr u2), some (vr u3), some (vi y4), none, none, none] [] h (100 + 2 * y4.toNatClampNeg) (300000 + 1400 * y4.toNatClampNeg)) (fun u1 u2 u3 y4 h => J G Q 248 [some (vr (some b)), some (vr u1), some (vr u2), some (vr u3), some (vi y4), none, none, none] [] h (100 + 2 * y4.toNatClampNeg) (300000 + 1400 * y4.toNatClampNeg)) (fun u1 u2 u3 y4 h => J G Q 344 [some (vr (some b)), some (vr u1), some (vr u2), some (vr u3), some (vi y4), none, none, none] [] h (100 + 2 * y4.toNatClampNeg) (300000 + 1400 * y4.toNatClampNeg)) (fun u1 u2 u3 y4 h => J G Q 400 [some (vr (some b)), some (vr u1), some (vr u2), some (vr u3), some (vi y4), none, none, none] [] h (100 + 2 * y4.toNatClampNeg) (300000 + 1400 * y4.toNatClampNeg)) (fun u1 u2 u3 y4 h => J G Q 492 [some (vr (some b)), some (vr u1), some (vr u2), some (vr u3), some (vi y4), none, none, none] [] h (100 + 2 * y4.toNatClampNeg) (300000 + 1400 * y4.toNatClampNeg)) (fun u1 u2 u3 y4 h => J G Q 584 [some (vr (some b)), some (vr u1), some (vr u2), some (vr u3), some (vi y4), none, none, none] [] h (100 + 2 * y4.toNatClampNeg) (300000 + 1400 * y4.toNatClampNeg)) (fun u1 u2 u3 y4 h => J G Q 652 [some (vr (some b)), some (vr u1), some (vr u2), some (vr u3), some (vi y4), none, none, none] [] h (100 + 2 * y4.toNatClampNeg) (300000 + 1400 * y4.toNatClampNeg)) (fun u1 u2 u3 y4 h => J G Q 732 [some (vr (some b)), some (vr u1), some (vr u2), some (vr u3), some (vi y4), none, none, none] [] h (100 + 2 * y4.toNatClampNeg) (300000 + 1400 * y4.toNatClampNeg)) (fun u1 u2 u3 y4 h => J G Q 812 [some (vr (some b)), some (vr u1), some (vr u2), some (vr u3), some (vi y4), none, none, none] [] h (100 + 2 * y4.toNatClampNeg) (300000 + 1400 * y4.toNatClampNeg)) (fun u1 u2 u3 y4 h => J G Q 923 [some (vr (some b)), some (vr u1), some (vr u2), some (vr u3), some (vi y4), none, none, none] [] h (100 + 2 * y4.toNatClampNeg) (300000 + 1400 * y4.toNatClampNeg)) (fun u1 u2 u3 y4 h => J G Q 990 [some (vr (some b)), some (vr u1), some (vr u2), some (vr u3), some (vi y4), none, none, none] [] h (100 + 2 * y4.toNatClampNeg) (300000 + 1400 * y4.toNatClampNeg)) (fun u1 u2 u3 y4 h => J G Q 1086 [some (vr (some b)), some (vr u1), some (vr u2), some (vr u3), some (vi y4), none, none, none] [] h (100 + 2 * y4.toNatClampNeg) (300000 + 1400 * y4.toNatClampNeg)) (fun u1 u2 u3 y4 h => J G Q 1154 [some (vr (some b)), some (vr u1), some (vr u2), some (vr u3), some (vi y4), none, none, none] [] h (100 + 2 * y4.toNatClampNeg) (300000 + 1400 * y4.toNatClampNeg)) (fun u1 u2 u3 y4 h => J G Q 1238 [some (vr (some b)), some (vr u1), some (vr u2), some (vr u3), some (vi y4), none, none, none] [] h (100 + 2 * y4.toNatClampNeg) (300000 + 1400 * y4.toNatClampNeg)) (fun u1 u2 u3 y4 h => J G Q 1306 [some (vr (some b)), some (vr u1), some (vr u2), some (vr u3), some (vi y4), none, none, none] [] h (100 + 2 * y4.toNatClampNeg) (300000 + 1400 * y4.toNatClampNeg)) (fun u1 u2 u3 y4 h => J G Q 1362 [some (vr (some b)), some (vr u1), some (vr u2), some (vr u3), some (vi y4), none, none, none] [] h (100 + 2 * y4.toNatClampNeg) (300000 + 1400 * y4.toNatClampNeg)) (fun u1 u2 u3 y4 h => J G Q 1418 [some (vr (some b)), some (vr u1), some (vr u2), some (vr u3), some (vi y4), none, none, none] [] h (100 + 2 * y4.toNatClampNeg) (300000 + 1400 * y4.toNatClampNeg)) (fun u1 u2 u3 y4 h => J G Q 1474 [some (vr (some b)), some (vr u1), some (vr u2), some (vr u3), some (vi y4), none, none, none] [] h (100 + 2 * y4.toNatClampNeg) (300000 + 1400 * y4.toNatClampNeg)) (fun u1 u2 u3 y4 h => J G Q 1549 [some (vr (some b)), some (vr u1), some (vr u2), some (vr u3), some (vi y4), none, none, none] [] h (100 + 2 * y4.toNatClampNeg) (300000 + 1400 * y4.toNatClampNeg)) (fun u1 u2 u3 y4 h => J G Q 1605 [some (vr (some b)), some (vr u1), some (vr u2), some (vr u3), some (vi y4), none, none, none] [] h (100 + 2 * y4.toNatClampNeg) (300000 + 1400 * y4.toNatClampNeg)) (fun u1 u2 u3 y4 h => J G Q 1649 [some (vr (some b)), some (vr u1), some (vr u2), some (vr u3), some (vi y4), none, none, none] [] h (100 + 2 * y4.toNatClampNeg) (300000 + 1400 * y4.toNatClampNeg)) (fun u1 u2 u3 y4 h => J G Q 1690 [some (vr (some b)), some (vr u1), some (vr u2), some (vr u3), some (vi y4), none, none, none] [] h (100 + 2 * y4.toNatClampNeg) (300000 + 1400 * y4.toNatClampNeg)) (fun u1 u2 u3 y4 h => J G Q 1746 [some (vr (some b)), some (vr u1), some (vr u2), some (vr u3), some (vi y4), none, none, none] [] h (100 + 2 * y4.toNatClampNeg) (300000 + 1400 * y4.toNatClampNeg)) (fun u1 u2 u3 y4 h => J G Q 1802 [some (vr (some b)), some (vr u1), some (vr u2), some (vr u3), some (vi y4), none, none, none] [] h (100 + 2 * y4.toNatClampNeg) (300000 + 1400 * y4.toNatClampNeg)) (fun u1 u2 u3 y4 h => J G Q 1857 [some (vr (some b)), some (vr u1), some (vr u2), some (vr u3), some (vi y4), none, none, none] [] h (110 + 2 * y4.toNatClampNeg) (307000 + 1400 * y4.toNatClampNeg)) u1 u2 u3 y4 h) : J G Q 43 [some (vr (some b)), some (vr u1), some (vr u2), some (vr u3), some (vi y4), none, none, none] [] h (100 + 2 * y4.toNatClampNeg) (300000 + 1400 * y4.toNatClampNeg) := by
  unfold vb_L_43 at hv
  obtain ⟨hy4, hv⟩ := hv
  refine j_iload C dL_law_43 rfl ?_
  refine j_aload_n C dL_law_45 rfl ?_
  refine j_slen C hX dL_law_46 ?_
  refine j_iconst (v := (5 : Int32)) C dL_law_47 (by decide) ?_
  refine j_isub C dL_law_48 ?_
  refine j_icmp_gt (tgt := 1863) C dL_law_49 (by decide) ⟨fun q18 => ?_, fun q18 => ?_⟩
  · have hv := hv.1 q18
    refine j_iconst (v := (1 : Int32)) C dL_law_1863 (by decide) ?_
    exact j_zret C (Or.inr rfl) dL_law_1864 (hlim _ _ (by omega) (by omega)) hv
  · have hv := hv.2 q18
    refine j_aload_n C dL_law_52 rfl ?_
    refine j_iload C dL_law_53 rfl ?_
    obtain ⟨b16, hv⟩ := hv
    refine j_sld C hX b16 dL_law_55 ?_
    refine j_bipush (v := (31 : Int32)) C dL_law_56 (by decide) ?_
    refine j_iand C dL_law_58 ?_
    rcases sw_23 ((xs y4.toNatClampNeg) &&& (31 : Int32)) with q17 | q17 | q17 | q17 | q17 | q17 | q17 | q17 | q17 | q17 | q17 | q17 | q17 | q17 | q17 | q17 | q17 | q17 | q17 | q17 | q17 | q17 | q17 | q17 | q17
    · have hv := hv.1 q17
      refine j_tableIn (off := 109) (tgt := 168) C dL_law_59 (by rw [q17]; decide) (by rw [q17]; decide) (by rw [q17]; decide +kernel) (by decide) ?_
      refine j_widen (k' := 100 + 2 * y4.toNatClampNeg) (n' := 300000 + 1400 * y4.toNatClampNeg) (by omega) (by omega) ?_
      exact j_sub (by exact (And.intro rfl (And.intro rfl (And.intro rfl (And.intro rfl (And.intro rfl trivial)))))) hv
    · have hv := hv.2.1 q17
      refine j_tableIn (off := 189) (tgt := 248) C dL_law_59 (by rw [q17]; decide) (by rw [q17]; decide) (by rw [q17]; decide +kernel) (by decide) ?_
      refine j_widen (k' := 100 + 2 * y4.toNatClampNeg) (n' := 300000 + 1400 * y4.toNatClampNeg) (by omega) (by omega) ?_
      exact j_sub (by exact (And.intro rfl (And.intro rfl (And.intro rfl (And.intro rfl (And.intro rfl trivial)))))) hv
    · have hv := hv.2.2.1 q17
      refine j_tableIn (off := 285) (tgt := 344) C dL_law_59 (by rw [q17]; decide) (by rw [q17]; decide) (by rw [q17]; decide +kernel) (by decide) ?_
      refine j_widen (k' := 100 + 2 * y4.toNatClampNeg) (n' := 300000 + 1400 * y4.toNatClampNeg) (by omega) (by omega) ?_
      exact j_sub (by exact (And.intro rfl (And.intro rfl (And.intro rfl (And.intro rfl (And.intro rfl trivial)))))) hv
    · have hv := hv.2.2.2.1 q17
      refine j_tableIn (off := 341) (tgt := 400) C dL_law_59 (by rw [q17]; decide) (by rw [q17]; decide) (by rw [q17]; decide +kernel) (by decide) ?_
      refine j_widen (k' := 100 + 2 * y4.toNatClampNeg) (n' := 300000 + 1400 * y4.toNatClampNeg) (by omega) (by omega) ?_
      exact j_sub (by exact (And.intro rfl (And.intro rfl (And.intro rfl (And.intro rfl (And.intro rfl trivial)))))) hv
    · have hv := hv.2.2.2.2.1 q17
      refine j_tableIn (off := 433) (tgt := 492) C dL_law_59 (by rw [q17]; decide) (by rw [q17]; decide) (by rw [q17]; decide +kernel) (by decide) ?_
      refine j_widen (k' := 100 + 2 * y4.toNatClampNeg) (n' := 300000 + 1400 * y4.toNatClampNeg) (by omega) (by omega) ?_
      exact j_sub (by exact (And.intro rfl (And.intro rfl (And.intro rfl (And.intro rfl (And.intro rfl trivial)))))) hv
    · have hv := hv.2.2.2.2.2.1 q17
      refine j_tableIn (off := 525) (tgt := 584) C dL_law_59 (by rw [q17]; decide) (by rw [q17]; decide) (by rw [q17]; decide +kernel) (by decide) ?_
      refine j_widen (k' := 100 + 2 * y4.toNatClampNeg) (n' := 300000 + 1400 * y4.toNatClampNeg) (by omega) (by omega) ?_
      exact j_sub (by exact (And.intro rfl (And.intro rfl (And.intro rfl (And.intro rfl (And.intro rfl trivial)))))) hv
    · have hv := hv.2.2.2.2.2.2.1 q17
      refine j_tableIn (off := 593) (tgt := 652) C dL_law_59 (by rw [q17]; decide) (by rw [q17]; decide) (by rw [q17]; decide +kernel) (by decide) ?_
      refine j_widen (k' := 100 + 2 * y4.toNatClampNeg) (n' := 300000 + 1400 * y4.toNatClampNeg) (by omega) (by omega) ?_
      exact j_sub (by exact (And.intro rfl (And.intro rfl (And.intro rfl (And.intro rfl (And.intro rfl trivial)))))) hv
    · have hv := hv.2.2.2.2.2.2.2.1 q17
      refine j_tableIn (off := 673) (tgt := 732) C dL_law_59 (by rw [q17]; decide) (by rw [q17]; decide) (by rw [q17]; decide +kernel) (by decide) ?_
      refine j_widen (k' := 100 + 2 * y4.toNatClampNeg) (n' := 300000 + 1400 * y4.toNatClampNeg) (by omega) (by omega) ?_
      exact j_sub (by exact (And.intro rfl (And.intro rfl (And.intro rfl (And.intro rfl (And.intro rfl trivial)))))) hv
    · have hv := hv.2.2.2.2.2.2.2.2.1 q17
      refine j_tableIn (off := 753) (tgt := 812) C dL_law_59 (by rw [q17]; decide) (by rw [q17]; decide) (by rw [q17]; decide +kernel) (by decide) ?_
      refine j_widen (k' := 100 + 2 * y4.toNatClampNeg) (n' := 300000 + 1400 * y4.toNatClampNeg) (by omega) (by omega) ?_
      exact j_sub (by exact (And.intro rfl (And.intro rfl (And.intro rfl (And.intro rfl (And.intro rfl trivial)))))) hv
    · have hv := hv.2.2.2.2.2.2.2.2.2.1 q17
      refine j_tableIn (off := 864) (tgt := 923) C dL_law_59 (by rw [q17]; decide) (by rw [q17]; decide) (by rw [q17]; decide +kernel) (by decide) ?_
      refine j_widen (k' := 100 + 2 * y4.toNatClampNeg) (n' := 300000 + 1400 * y4.toNatClampNeg) (by omega) (by omega) ?_
      exact j_sub (by exact (And.intro rfl (And.intro rfl (And.intro rfl (And.intro rfl (And.intro rfl trivial)))))) hv
    · have hv := hv.2.2.2.2.2.2.2.2.2.2.1 q17
      refine j_tableIn (off := 931) (tgt := 990) C dL_law_59 (by rw [q17]; decide) (by rw [q17]; decide) (by rw [q17]; decide +kernel) (by decide) ?_
      refine j_widen (k' := 100 + 2 * y4.toNatClampNeg) (n' := 300000 + 1400 * y4.toNatClampNeg) (by omega) (by omega) ?_
      exact j_sub (by exact (And.intro rfl (And.intro rfl (And.intro rfl (And.intro rfl (And.intro rfl trivial)))))) hv
    · have hv := hv.2.2.2.2.2.2.2.2.2.2.2.1 q17
      refine j_tableIn (off := 1027) (tgt := 1086) C dL_law_59 (by rw [q17]; decide) (by rw [q17]; decide) (by rw [q17]; decide +kernel) (by decide) ?_
      refine j_widen (k' := 100 + 2 * y4.toNatClampNeg) (n' := 300000 + 1400 * y4.toNatClampNeg) (by omega) (by omega) ?_
      exact j_sub (by exact (And.intro rfl (And.intro rfl (And.intro rfl (And.intro rfl (And.intro rfl trivial)))))) hv
    · have hv := hv.2.2.2.2.2.2.2.2.2.2.2.2.1 q17
      refine j_tableIn (off := 1095) (tgt := 1154) C dL_law_59 (by rw [q17]; decide) (by rw [q17]; decide) (by rw [q17]; decide +kernel) (by decide) ?_
      refine j_widen (k' := 100 + 2 * y4.toNatClampNeg) (n' := 300000 + 1400 * y4.toNatClampNeg) (by omega) (by omega) ?_
      exact j_sub (by exact (And.intro rfl (And.intro rfl (And.intro rfl (And.intro rfl (And.intro rfl trivial)))))) hv
    · have hv := hv.2.2.2.2.2.2.2.2.2.2.2.2.2.1 q17
      refine j_tableIn (off := 1179) (tgt := 1238) C dL_law_59 (by rw [q17]; decide) (by rw [q17]; decide) (by rw [q17]; decide +kernel) (by decide) ?_
      refine j_widen (k' := 100 + 2 * y4.toNatClampNeg) (n' := 300000 + 1400 * y4.toNatClampNeg) (by omega) (by omega) ?_
      exact j_sub (by exact (And.intro rfl (And.intro rfl (And.intro rfl (And.intro rfl (And.intro rfl trivial)))))) hv
    · have hv := hv.2.2.2.2.2.2.2.2.2.2.2.2.2.2.1 q17
      refine j_tableIn (off := 1247) (tgt := 1306) C dL_law_59 (by rw [q17]; decide) (by rw [q17]; decide) (by rw [q17]; decide +kernel) (by decide) ?_
      refine j_widen (k' := 100 + 2 * y4.toNatClampNeg) (n' := 300000 + 1400 * y4.toNatClampNeg) (by omega) (by omega) ?_
      exact j_sub (by exact (And.intro rfl (And.intro rfl (And.intro rfl (And.intro rfl (And.intro rfl trivial)))))) hv
    · have hv := hv.2.2.2.2.2.2.2.2.2.2.2.2.2.2.2.1 q17
      refine j_tableIn (off := 1303) (tgt := 1362) C dL_law_59 (by rw [q17]; decide) (by rw [q17]; decide) (by rw [q17]; decide +kernel) (by decide) ?_
      refine j_widen (k' := 100 + 2 * y4.toNatClampNeg) (n' := 300000 + 1400 * y4.toNatClampNeg) (by omega) (by omega) ?_
      exact j_sub (by exact (And.intro rfl (And.intro rfl (And.intro rfl (And.intro rfl (And.intro rfl trivial)))))) hv
    · have hv := hv.2.2.2.2.2.2.2.2.2.2.2.2.2.2.2.2.1 q17
      refine j_tableIn (off := 1359) (tgt := 1418) C dL_law_59 (by rw [q17]; decide) (by rw [q17]; decide) (by rw [q17]; decide +kernel) (by decide) ?_
      refine j_widen (k' := 100 + 2 * y4.toNatClampNeg) (n' := 300000 + 1400 * y4.toNatClampNeg) (by omega) (by omega) ?_
      exact j_sub (by exact (And.intro rfl (And.intro rfl (And.intro rfl (And.intro rfl (And.intro rfl trivial)))))) hv
    · have hv := hv.2.2.2.2.2.2.2.2.2.2.2.2.2.2.2.2.2.1 q17
      refine j_tableIn (off := 1415) (tgt := 1474) C dL_law_59 (by rw [q17]; decide) (by rw [q17]; decide) (by rw [q17]; decide +kernel) (by decide) ?_
      refine j_widen (k' := 100 + 2 * y4.toNatClampNeg) (n' := 300000 + 1400 * y4.toNatClampNeg) (by omega) (by omega) ?_
      exact j_sub (by exact (And.intro rfl (And.intro rfl (And.intro rfl (And.intro rfl (And.intro rfl trivial)))))) hv
    · have hv := hv.2.2.2.2.2.2.2.2.2.2.2.2.2.2.2.2.2.2.1 q17
      refine j_tableIn (off := 1490) (tgt := 1549) C dL_law_59 (by rw [q17]; decide) (by rw [q17]; decide) (by rw [q17]; decide +kernel) (by decide) ?_
      refine j_widen (k' := 100 + 2 * y4.toNatClampNeg) (n' := 300000 + 1400 * y4.toNatClampNeg) (by omega) (by omega) ?_
      exact j_sub (by exact (And.intro rfl (And.intro rfl (And.intro rfl (And.intro rfl (And.intro rfl trivial)))))) hv
    · have hv := hv.2.2.2.2.2.2.2.2.2.2.2.2.2.2.2.2.2.2.2.1 q17
      refine j_tableIn (off := 1546) (tgt := 1605) C dL_law_59 (by rw [q17]; decide) (by rw [q17]; decide) (by rw [q17]; decide +kernel) (by decide) ?_
      refine j_widen (k' := 100 + 2 * y4.toNatClampNeg) (n' := 300000 + 1400 * y4.toNatClampNeg) (by omega) (by omega) ?_
      exact j_sub (by exact (And.intro rfl (And.intro rfl (And.intro rfl (And.intro rfl (And.intro rfl trivial)))))) hv
    · have hv := hv.2.2.2.2.2.2.2.2.2.2.2.2.2.2.2.2.2.2.2.2.1 q17
      refine j_tableIn (off := 1590) (tgt := 1649) C dL_law_59 (by rw [q17]; decide) (by rw [q17]; decide) (by rw [q17]; decide +kernel) (by decide) ?_
      refine j_widen (k' := 100 + 2 * y4.toNatClampNeg) (n' := 300000 + 1400 * y4.toNatClampNeg) (by omega) (by omega) ?_
      exact j_sub (by exact (And.intro rfl (And.intro rfl (And.intro rfl (And.intro rfl (And.intro rfl trivial)))))) hv
    · have hv := hv.2.2.2.2.2.2.2.2.2.2.2.2.2.2.2.2.2.2.2.2.2.1 q17
      refine j_tableIn (off := 1631) (tgt := 1690) C dL_law_59 (by rw [q17]; decide) (by rw [q17]; decide) (by rw [q17]; decide +kernel) (by decide) ?_
      refine j_widen (k' := 100 + 2 * y4.toNatClampNeg) (n' := 300000 + 1400 * y4.toNatClampNeg) (by omega) (by omega) ?_
      exact j_sub (by exact (And.intro rfl (And.intro rfl (And.intro rfl (And.intro rfl (And.intro rfl trivial)))))) hv
    · have hv := hv.2.2.2.2.2.2.2.2.2.2.2.2.2.2.2.2.2.2.2.2.2.2.1 q17
      refine j_tableIn (off := 1687) (tgt := 1746) C dL_law_59 (by rw [q17]; decide) (by rw [q17]; decide) (by rw [q17]; decide +kernel) (by decide) ?_
      refine j_widen (k' := 100 + 2 * y4.toNatClampNeg) (n' := 300000 + 1400 * y4.toNatClampNeg) (by omega) (by omega) ?_
      exact j_sub (by exact (And.intro rfl (And.intro rfl (And.intro rfl (And.intro rfl (And.intro rfl trivial)))))) hv
    · have hv := hv.2.2.2.2.2.2.2.2.2.2.2.2.2.2.2.2.2.2.2.2.2.2.2.1 q17
      refine j_tableIn (off := 1743) (tgt := 1802) C dL_law_59 (by rw [q17]; decide) (by rw [q17]; decide) (by rw [q17]; decide +kernel) (by decide) ?_
      refine j_widen (k' := 100 + 2 * y4.toNatClampNeg) (n' := 300000 + 1400 * y4.toNatClampNeg) (by omega) (by omega) ?_
      exact j_sub (by exact (And.intro rfl (And.intro rfl (And.intro rfl (And.intro rfl (And.intro rfl trivial)))))) hv
    · have hv := hv.2.2.2.2.2.2.2.2.2.2.2.2.2.2.2.2.2.2.2.2.2.2.2.2 q17
      refine j_tableOut (tgt := 1857) C dL_law_59 q17 (by decide) ?_
      refine j_widen (k' := 110 + 2 * y4.toNatClampNeg) (n' := 307000 + 1400 * y4.toNatClampNeg) (by omega) (by omega) ?_
      exact j_sub (by exact (And.intro rfl (And.intro rfl (And.intro rfl (And.intro rfl (And.intro rfl trivial)))))) hv
set_option maxRecDepth 20000 in
set_option maxHeartbeats 2000000 in
theorem sb_L_168 {G : Cx} {tb : List ExceptionTableEntry} {nm : String} {b L : Nat} {xs : Nat → Int32} {Q : Option AV ⊕ String → Hp → Prop} {h : Hp} (hg : glv G = 0) (hlim : ∀ k n, k ≤ 600000 → n ≤ 7000000 → lim G k n) (C : OK G cL_law 8 RL (some .boolean) tb nm) (hX : SC G b L xs) (hL : L ≤ 2562) {u1 : Option Nat} {u2 : Option Nat} {u3 : Option Nat} {y4 : Int32} (hv : vb_L_168 L xs Q (fun u1 u2 u3 y4 h => J G Q 1857 [some (vr (some b)), some (vr u1), some (vr u2), some (vr u3), some (vi y4), none, none, none] [] h (110 + 2 * y4.toNatClampNeg) (307000 + 1400 * y4.toNatClampNeg)) u1 u2 u3 y4 h) : J G Q 168 [some (vr (some b)), some (vr u1), some (vr u2), some (vr u3), some (vi y4), none, none, none] [] h (100 + 2 * y4.toNatClampNeg) (300000 + 1400 * y4.toNatClampNeg) := by
  unfold vb_L_168 at hv
  obtain ⟨hy4, hv⟩ := hv
  refine j_aload_n C dL_law_168 rfl ?_
  refine j_aload_n C dL_law_169 rfl ?_
  refine j_iload C dL_law_170 rfl ?_
  refine j_iconst (v := (1 : Int32)) C dL_law_172 (by decide) ?_
  refine j_iadd C dL_law_173 ?_
  obtain ⟨b19, hv⟩ := hv
  refine j_sld C hX b19 dL_law_174 ?_
  refine j_aload_n C dL_law_175 rfl ?_
  refine j_iload C dL_law_176 rfl ?_
  refine j_iconst (v := (2 : Int32)) C dL_law_178 (by decide) ?_
  refine j_iadd C dL_law_179 ?_
  obtain ⟨b20, hv⟩ := hv
  refine j_sld C hX b20 dL_law_180 ?_
  refine j_aload_n C dL_law_181 rfl ?_
  refine j_iload C dL_law_182 rfl ?_
  refine j_iconst (v := (3 : Int32)) C dL_law_184 (by decide) ?_
  refine j_iadd C dL_law_185 ?_
  obtain ⟨b21, hv⟩ := hv
  refine j_sld C hX b21 dL_law_186 ?_
  refine j_aload_n C dL_law_187 rfl ?_
  refine k_callSH C [vr u1, vi (xs (y4 + (1 : Int32)).toNatClampNeg), vi (xs (y4 + (2 : Int32)).toNatClampNeg), vi (xs (y4 + (3 : Int32)).toNatClampNeg), vr u3] ms_L_105 rfl (fun l D dA sz hl => s_L_plain (by omega) hv l D dA sz hl) (fun _ _ q => q) rfl (by omega) (Nat.le_of_ble_eq_true rfl) (hlim _ _ (by omega) (by omega)) dL_law_188 (fun v h22 hq => ?_)
  obtain ⟨v23, rfl, hv⟩ := qi_inv hq
  refine j_istore (lo' := [some (vr (some b)), some (vr u1), some (vr u2), some (vr u3), some (vi y4), some (vi v23), none, none]) C dL_law_191 (Nat.le_of_ble_eq_true rfl) rfl ?_
  refine j_aload_n C dL_law_193 rfl ?_
  refine j_aload_n C dL_law_194 rfl ?_
  refine j_iload C dL_law_195 rfl ?_
  refine j_iconst (v := (1 : Int32)) C dL_law_197 (by decide) ?_
  refine j_iadd C dL_law_198 ?_
  obtain ⟨b24, hv⟩ := hv
  refine j_sld C hX b24 dL_law_199 ?_
  refine j_aload_n C dL_law_200 rfl ?_
  refine j_iload C dL_law_201 rfl ?_
  refine j_iconst (v := (2 : Int32)) C dL_law_203 (by decide) ?_
  refine j_iadd C dL_law_204 ?_
  obtain ⟨b25, hv⟩ := hv
  refine j_sld C hX b25 dL_law_205 ?_
  refine j_aload_n C dL_law_206 rfl ?_
  refine j_iload C dL_law_207 rfl ?_
  refine j_iconst (v := (3 : Int32)) C dL_law_209 (by decide) ?_
  refine j_iadd C dL_law_210 ?_
  obtain ⟨b26, hv⟩ := hv
  refine j_sld C hX b26 dL_law_211 ?_
  obtain ⟨a27, e28, hv⟩ := hv
  obtain ⟨g31, hv⟩ := hv
  refine k_callV C 6 [vi (xs (y4 + (1 : Int32)).toNatClampNeg), vi (xs (y4 + (2 : Int32)).toNatClampNeg), vi (xs (y4 + (3 : Int32)).toNatClampNeg)] mv_L_108 e28 rfl (fun l D dA sz hl => s_X7_plain (by omega) hv l D dA sz hl) rfl rfl (by decide) g31 rfl (by omega) (Nat.le_of_ble_eq_true rfl) (hlim _ _ (by omega) (by omega)) dL_law_212 (fun _ _ q => False.elim q) (fun v h29 hq => ?_)
  obtain ⟨v30, rfl, hv⟩ := qi_inv hq
  refine j_istore (lo' := [some (vr (some b)), some (vr u1), some (vr u2), some (vr u3), some (vi y4), some (vi v23), some (vi v30), none]) C dL_law_215 (Nat.le_of_ble_eq_true rfl) rfl ?_
  refine j_aload_n C dL_law_217 rfl ?_
  obtain ⟨g34, hv⟩ := hv
  refine k_callV C 6 [] mv_L_109 e28 rfl (fun l D dA sz hl => s_X7_thrown (by omega) hv l D dA sz hl) rfl rfl (by decide) g34 rfl (by omega) (Nat.le_of_ble_eq_true rfl) (hlim _ _ (by omega) (by omega)) dL_law_218 (fun _ _ q => False.elim q) (fun v h32 hq => ?_)
  obtain ⟨v33, rfl, hv⟩ := qi_inv hq
  refine j_iload C dL_law_221 rfl ?_
  refine j_icmp_eq (tgt := 228) C dL_law_223 (by decide) ⟨fun q41 => ?_, fun q41 => ?_⟩
  · have hv := hv.1 q41
    refine j_iload C dL_law_228 rfl ?_
    refine j_if_ne (tgt := 245) C dL_law_230 (by decide) ⟨fun q40 => ?_, fun q40 => ?_⟩
    · have hv := hv.1 q40
      refine j_goto (tgt := 1857) C dL_law_245 (by decide) ?_
      refine j_widen (k' := 110 + 2 * y4.toNatClampNeg) (n' := 307000 + 1400 * y4.toNatClampNeg) (by omega) (by omega) ?_
      exact j_sub (by exact (And.intro rfl (And.intro rfl (And.intro rfl (And.intro rfl (And.intro rfl trivial)))))) hv
    · have hv := hv.2 q40
      refine j_aload_n C dL_law_233 rfl ?_
      refine j_iconst (v := (0 : Int32)) C dL_law_234 (by decide) ?_
      obtain ⟨a35, e36, hv⟩ := hv
      obtain ⟨g37, hv⟩ := hv
      obtain ⟨b38, hv⟩ := hv
      refine k_lald (j := 0) C e36 g37 b38 (by decide) dL_law_235 ?_
      refine j_iload C dL_law_236 rfl ?_
      refine j_i2l C dL_law_238 ?_
      refine j_lcmp C dL_law_239 ?_
      refine j_if_eq (tgt := 245) C dL_law_240 (by decide) ⟨fun q39 => ?_, fun q39 => ?_⟩
      · have hv := hv.1 q39
        refine j_goto (tgt := 1857) C dL_law_245 (by decide) ?_
        refine j_widen (k' := 110 + 2 * y4.toNatClampNeg) (n' := 307000 + 1400 * y4.toNatClampNeg) (by omega) (by omega) ?_
        exact j_sub (by exact (And.intro rfl (And.intro rfl (And.intro rfl (And.intro rfl (And.intro rfl trivial)))))) hv
      · have hv := hv.2 q39
        refine j_iconst (v := (0 : Int32)) C dL_law_243 (by decide) ?_
        exact j_zret C (Or.inl rfl) dL_law_244 (hlim _ _ (by omega) (by omega)) hv
  · have hv := hv.2 q41
    refine j_iconst (v := (0 : Int32)) C dL_law_226 (by decide) ?_
    exact j_zret C (Or.inl rfl) dL_law_227 (hlim _ _ (by omega) (by omega)) hv
set_option maxRecDepth 20000 in
set_option maxHeartbeats 2000000 in
theorem sb_L_248 {G : Cx} {tb : List ExceptionTableEntry} {nm : String} {b L : Nat} {xs : Nat → Int32} {Q : Option AV ⊕ String → Hp → Prop} {h : Hp} (hg : glv G = 0) (hlim : ∀ k n, k ≤ 600000 → n ≤ 7000000 → lim G k n) (C : OK G cL_law 8 RL (some .boolean) tb nm) (hX : SC G b L xs) (hL : L ≤ 2562) {u1 : Option Nat} {u2 : Option Nat} {u3 : Option Nat} {y4 : Int32} (hv : vb_L_248 L xs Q (fun u1 u2 u3 y4 w0 w1 w2 v3 h => J G Q 275 [some (vr (some b)), some (vr u1), some (vr u2), some (vr u3), some (vi y4), none, none, none] [vi w0, vi w1, vi w2, vr v3] h (100 + 2 * y4.toNatClampNeg) (300000 + 1400 * y4.toNatClampNeg)) u1 u2 u3 y4 h) : J G Q 248 [some (vr (some b)), some (vr u1), some (vr u2), some (vr u3), some (vi y4), none, none, none] [] h (100 + 2 * y4.toNatClampNeg) (300000 + 1400 * y4.toNatClampNeg) := by
  unfold vb_L_248 at hv
  obtain ⟨hy4, hv⟩ := hv
  refine j_aload_n C dL_law_248 rfl ?_
  refine j_aload_n C dL_law_249 rfl ?_
  refine j_iload C dL_law_250 rfl ?_
  refine j_iconst (v := (1 : Int32)) C dL_law_252 (by decide) ?_
  refine j_iadd C dL_law_253 ?_
  obtain ⟨b42, hv⟩ := hv
  refine j_sld C hX b42 dL_law_254 ?_
  refine j_aload_n C dL_law_255 rfl ?_
  refine j_iload C dL_law_256 rfl ?_
  refine j_iconst (v := (2 : Int32)) C dL_law_258 (by decide) ?_
  refine j_iadd C dL_law_259 ?_
  obtain ⟨b43, hv⟩ := hv
  refine j_sld C hX b43 dL_law_260 ?_
  refine j_aload_n C dL_law_261 rfl ?_
  refine j_iload C dL_law_262 rfl ?_
  refine j_iconst (v := (3 : Int32)) C dL_law_264 (by decide) ?_
  refine j_iadd C dL_law_265 ?_
  obtain ⟨b44, hv⟩ := hv
  refine j_sld C hX b44 dL_law_266 ?_
  refine j_if_eq (tgt := 274) C dL_law_267 (by decide) ⟨fun q45 => ?_, fun q45 => ?_⟩
  · have hv := hv.1 q45
    refine j_iconst (v := (0 : Int32)) C dL_law_274 (by decide) ?_
    refine j_widen (k' := 100 + 2 * y4.toNatClampNeg) (n' := 300000 + 1400 * y4.toNatClampNeg) (by omega) (by omega) ?_
    exact j_sub (by exact (And.intro rfl (And.intro rfl (And.intro rfl (And.intro rfl (And.intro rfl trivial)))))) hv
  · have hv := hv.2 q45
    refine j_iconst (v := (1 : Int32)) C dL_law_270 (by decide) ?_
    refine j_goto (tgt := 275) C dL_law_271 (by decide) ?_
    refine j_widen (k' := 100 + 2 * y4.toNatClampNeg) (n' := 300000 + 1400 * y4.toNatClampNeg) (by omega) (by omega) ?_
    exact j_sub (by exact (And.intro rfl (And.intro rfl (And.intro rfl (And.intro rfl (And.intro rfl trivial)))))) hv
set_option maxRecDepth 20000 in
set_option maxHeartbeats 2000000 in
theorem sb_L_344 {G : Cx} {tb : List ExceptionTableEntry} {nm : String} {b L : Nat} {xs : Nat → Int32} {Q : Option AV ⊕ String → Hp → Prop} {h : Hp} (hg : glv G = 0) (hlim : ∀ k n, k ≤ 600000 → n ≤ 7000000 → lim G k n) (C : OK G cL_law 8 RL (some .boolean) tb nm) (hX : SC G b L xs) (hL : L ≤ 2562) {u1 : Option Nat} {u2 : Option Nat} {u3 : Option Nat} {y4 : Int32} (hv : vb_L_344 L xs Q (fun u1 u2 u3 y4 h => J G Q 1857 [some (vr (some b)), some (vr u1), some (vr u2), some (vr u3), some (vi y4), none, none, none] [] h (110 + 2 * y4.toNatClampNeg) (307000 + 1400 * y4.toNatClampNeg)) u1 u2 u3 y4 h) : J G Q 344 [some (vr (some b)), some (vr u1), some (vr u2), some (vr u3), some (vi y4), none, none, none] [] h (100 + 2 * y4.toNatClampNeg) (300000 + 1400 * y4.toNatClampNeg) := by
  unfold vb_L_344 at hv
  obtain ⟨hy4, hv⟩ := hv
  refine j_aload_n C dL_law_344 rfl ?_
  refine j_aload_n C dL_law_345 rfl ?_
  refine j_iload C dL_law_346 rfl ?_
  refine j_iconst (v := (1 : Int32)) C dL_law_348 (by decide) ?_
  refine j_iadd C dL_law_349 ?_
  obtain ⟨b46, hv⟩ := hv
  refine j_sld C hX b46 dL_law_350 ?_
  refine j_aload_n C dL_law_351 rfl ?_
  refine k_callSH C [vr u1, vi (xs (y4 + (1 : Int32)).toNatClampNeg), vr u3] ms_L_116 rfl (fun l D dA sz hl => s_L_queue (by omega) hv l D dA sz hl) (fun _ _ q => q) rfl (by omega) (Nat.le_of_ble_eq_true rfl) (hlim _ _ (by omega) (by omega)) dL_law_352 (fun v h47 hq => ?_)
  obtain ⟨v48, rfl, hv⟩ := qi_inv hq
  refine j_istore (lo' := [some (vr (some b)), some (vr u1), some (vr u2), some (vr u3), some (vi y4), some (vi v48), none, none]) C dL_law_355 (Nat.le_of_ble_eq_true rfl) rfl ?_
  refine j_aload_n C dL_law_357 rfl ?_
  refine j_aload_n C dL_law_358 rfl ?_
  refine j_iload C dL_law_359 rfl ?_
  refine j_iconst (v := (1 : Int32)) C dL_law_361 (by decide) ?_
  refine j_iadd C dL_law_362 ?_
  obtain ⟨b49, hv⟩ := hv
  refine j_sld C hX b49 dL_law_363 ?_
  obtain ⟨a50, e51, hv⟩ := hv
  obtain ⟨g54, hv⟩ := hv
  refine k_callV C 6 [vi (xs (y4 + (1 : Int32)).toNatClampNeg)] mv_L_119 e51 rfl (fun l D dA sz hl => s_X7_queue (by omega) hv l D dA sz hl) rfl rfl (by decide) g54 rfl (by omega) (Nat.le_of_ble_eq_true rfl) (hlim _ _ (by omega) (by omega)) dL_law_364 (fun _ _ q => False.elim q) (fun v h52 hq => ?_)
  obtain ⟨v53, rfl, hv⟩ := qi_inv hq
  refine j_istore (lo' := [some (vr (some b)), some (vr u1), some (vr u2), some (vr u3), some (vi y4), some (vi v48), some (vi v53), none]) C dL_law_367 (Nat.le_of_ble_eq_true rfl) rfl ?_
  refine j_aload_n C dL_law_369 rfl ?_
  obtain ⟨g57, hv⟩ := hv
  refine k_callV C 6 [] mv_L_109 e51 rfl (fun l D dA sz hl => s_X7_thrown (by omega) hv l D dA sz hl) rfl rfl (by decide) g57 rfl (by omega) (Nat.le_of_ble_eq_true rfl) (hlim _ _ (by omega) (by omega)) dL_law_370 (fun _ _ q => False.elim q) (fun v h55 hq => ?_)
  obtain ⟨v56, rfl, hv⟩ := qi_inv hq
  refine j_iload C dL_law_373 rfl ?_
  refine j_icmp_eq (tgt := 380) C dL_law_375 (by decide) ⟨fun q64 => ?_, fun q64 => ?_⟩
  · have hv := hv.1 q64
    refine j_iload C dL_law_380 rfl ?_
    refine j_if_ne (tgt := 397) C dL_law_382 (by decide) ⟨fun q63 => ?_, fun q63 => ?_⟩
    · have hv := hv.1 q63
      refine j_goto (tgt := 1857) C dL_law_397 (by decide) ?_
      refine j_widen (k' := 110 + 2 * y4.toNatClampNeg) (n' := 307000 + 1400 * y4.toNatClampNeg) (by omega) (by omega) ?_
      exact j_sub (by exact (And.intro rfl (And.intro rfl (And.intro rfl (And.intro rfl (And.intro rfl trivial)))))) hv
    · have hv := hv.2 q63
      refine j_aload_n C dL_law_385 rfl ?_
      refine j_iconst (v := (0 : Int32)) C dL_law_386 (by decide) ?_
      obtain ⟨a58, e59, hv⟩ := hv
      obtain ⟨g60, hv⟩ := hv
      obtain ⟨b61, hv⟩ := hv
      refine k_lald (j := 0) C e59 g60 b61 (by decide) dL_law_387 ?_
      refine j_iload C dL_law_388 rfl ?_
      refine j_i2l C dL_law_390 ?_
      refine j_lcmp C dL_law_391 ?_
      refine j_if_eq (tgt := 397) C dL_law_392 (by decide) ⟨fun q62 => ?_, fun q62 => ?_⟩
      · have hv := hv.1 q62
        refine j_goto (tgt := 1857) C dL_law_397 (by decide) ?_
        refine j_widen (k' := 110 + 2 * y4.toNatClampNeg) (n' := 307000 + 1400 * y4.toNatClampNeg) (by omega) (by omega) ?_
        exact j_sub (by exact (And.intro rfl (And.intro rfl (And.intro rfl (And.intro rfl (And.intro rfl trivial)))))) hv
      · have hv := hv.2 q62
        refine j_iconst (v := (0 : Int32)) C dL_law_395 (by decide) ?_
        exact j_zret C (Or.inl rfl) dL_law_396 (hlim _ _ (by omega) (by omega)) hv
  · have hv := hv.2 q64
    refine j_iconst (v := (0 : Int32)) C dL_law_378 (by decide) ?_
    exact j_zret C (Or.inl rfl) dL_law_379 (hlim _ _ (by omega) (by omega)) hv
set_option maxRecDepth 20000 in
set_option maxHeartbeats 2000000 in
theorem sb_L_400 {G : Cx} {tb : List ExceptionTableEntry} {nm : String} {b L : Nat} {xs : Nat → Int32} {Q : Option AV ⊕ String → Hp → Prop} {h : Hp} (hg : glv G = 0) (hlim : ∀ k n, k ≤ 600000 → n ≤ 7000000 → lim G k n) (C : OK G cL_law 8 RL (some .boolean) tb nm) (hX : SC G b L xs) (hL : L ≤ 2562) {u1 : Option Nat} {u2 : Option Nat} {u3 : Option Nat} {y4 : Int32} (hv : vb_L_400 L xs Q (fun u1 u2 u3 y4 h => J G Q 1857 [some (vr (some b)), some (vr u1), some (vr u2), some (vr u3), some (vi y4), none, none, none] [] h (110 + 2 * y4.toNatClampNeg) (307000 + 1400 * y4.toNatClampNeg)) u1 u2 u3 y4 h) : J G Q 400 [some (vr (some b)), some (vr u1), some (vr u2), some (vr u3), some (vi y4), none, none, none] [] h (100 + 2 * y4.toNatClampNeg) (300000 + 1400 * y4.toNatClampNeg) := by
  unfold vb_L_400 at hv
  obtain ⟨hy4, hv⟩ := hv
  refine j_aload_n C dL_law_400 rfl ?_
  refine j_aload_n C dL_law_401 rfl ?_
  refine j_iload C dL_law_402 rfl ?_
  refine j_iconst (v := (1 : Int32)) C dL_law_404 (by decide) ?_
  refine j_iadd C dL_law_405 ?_
  obtain ⟨b65, hv⟩ := hv
  refine j_sld C hX b65 dL_law_406 ?_
  refine j_aload_n C dL_law_407 rfl ?_
  refine j_iload C dL_law_408 rfl ?_
  refine j_iconst (v := (2 : Int32)) C dL_law_410 (by decide) ?_
  refine j_iadd C dL_law_411 ?_
  obtain ⟨b66, hv⟩ := hv
  refine j_sld C hX b66 dL_law_412 ?_
  refine j_aload_n C dL_law_413 rfl ?_
  refine j_iload C dL_law_414 rfl ?_
  refine j_iconst (v := (3 : Int32)) C dL_law_416 (by decide) ?_
  refine j_iadd C dL_law_417 ?_
  obtain ⟨b67, hv⟩ := hv
  refine j_sld C hX b67 dL_law_418 ?_
  refine j_aload_n C dL_law_419 rfl ?_
  refine j_iload C dL_law_420 rfl ?_
  refine j_iconst (v := (4 : Int32)) C dL_law_422 (by decide) ?_
  refine j_iadd C dL_law_423 ?_
  obtain ⟨b68, hv⟩ := hv
  refine j_sld C hX b68 dL_law_424 ?_
  refine j_aload_n C dL_law_425 rfl ?_
  refine k_callSH C [vr u1, vi (xs (y4 + (1 : Int32)).toNatClampNeg), vi (xs (y4 + (2 : Int32)).toNatClampNeg), vi (xs (y4 + (3 : Int32)).toNatClampNeg), vi (xs (y4 + (4 : Int32)).toNatClampNeg), vr u3] ms_L_120 rfl (fun l D dA sz hl => s_L_loose (by omega) hv l D dA sz hl) (fun _ _ q => q) rfl (by omega) (Nat.le_of_ble_eq_true rfl) (hlim _ _ (by omega) (by omega)) dL_law_426 (fun v h69 hq => ?_)
  obtain ⟨v70, rfl, hv⟩ := qi_inv hq
  refine j_istore (lo' := [some (vr (some b)), some (vr u1), some (vr u2), some (vr u3), some (vi y4), some (vi v70), none, none]) C dL_law_429 (Nat.le_of_ble_eq_true rfl) rfl ?_
  refine j_aload_n C dL_law_431 rfl ?_
  refine j_aload_n C dL_law_432 rfl ?_
  refine j_iload C dL_law_433 rfl ?_
  refine j_iconst (v := (1 : Int32)) C dL_law_435 (by decide) ?_
  refine j_iadd C dL_law_436 ?_
  obtain ⟨b71, hv⟩ := hv
  refine j_sld C hX b71 dL_law_437 ?_
  refine j_aload_n C dL_law_438 rfl ?_
  refine j_iload C dL_law_439 rfl ?_
  refine j_iconst (v := (2 : Int32)) C dL_law_441 (by decide) ?_
  refine j_iadd C dL_law_442 ?_
  obtain ⟨b72, hv⟩ := hv
  refine j_sld C hX b72 dL_law_443 ?_
  refine j_aload_n C dL_law_444 rfl ?_
  refine j_iload C dL_law_445 rfl ?_
  refine j_iconst (v := (3 : Int32)) C dL_law_447 (by decide) ?_
  refine j_iadd C dL_law_448 ?_
  obtain ⟨b73, hv⟩ := hv
  refine j_sld C hX b73 dL_law_449 ?_
  refine j_aload_n C dL_law_450 rfl ?_
  refine j_iload C dL_law_451 rfl ?_
  refine j_iconst (v := (4 : Int32)) C dL_law_453 (by decide) ?_
  refine j_iadd C dL_law_454 ?_
  obtain ⟨b74, hv⟩ := hv
  refine j_sld C hX b74 dL_law_455 ?_
  obtain ⟨a75, e76, hv⟩ := hv
  obtain ⟨g79, hv⟩ := hv
  refine k_callV C 6 [vi (xs (y4 + (1 : Int32)).toNatClampNeg), vi (xs (y4 + (2 : Int32)).toNatClampNeg), vi (xs (y4 + (3 : Int32)).toNatClampNeg), vi (xs (y4 + (4 : Int32)).toNatClampNeg)] mv_L_123 e76 rfl (fun l D dA sz hl => s_X7_loose (by omega) hv l D dA sz hl) rfl rfl (by decide) g79 rfl (by omega) (Nat.le_of_ble_eq_true rfl) (hlim _ _ (by omega) (by omega)) dL_law_456 (fun _ _ q => False.elim q) (fun v h77 hq => ?_)
  obtain ⟨v78, rfl, hv⟩ := qi_inv hq
  refine j_istore (lo' := [some (vr (some b)), some (vr u1), some (vr u2), some (vr u3), some (vi y4), some (vi v70), some (vi v78), none]) C dL_law_459 (Nat.le_of_ble_eq_true rfl) rfl ?_
  refine j_aload_n C dL_law_461 rfl ?_
  obtain ⟨g82, hv⟩ := hv
  refine k_callV C 6 [] mv_L_109 e76 rfl (fun l D dA sz hl => s_X7_thrown (by omega) hv l D dA sz hl) rfl rfl (by decide) g82 rfl (by omega) (Nat.le_of_ble_eq_true rfl) (hlim _ _ (by omega) (by omega)) dL_law_462 (fun _ _ q => False.elim q) (fun v h80 hq => ?_)
  obtain ⟨v81, rfl, hv⟩ := qi_inv hq
  refine j_iload C dL_law_465 rfl ?_
  refine j_icmp_eq (tgt := 472) C dL_law_467 (by decide) ⟨fun q89 => ?_, fun q89 => ?_⟩
  · have hv := hv.1 q89
    refine j_iload C dL_law_472 rfl ?_
    refine j_if_ne (tgt := 489) C dL_law_474 (by decide) ⟨fun q88 => ?_, fun q88 => ?_⟩
    · have hv := hv.1 q88
      refine j_goto (tgt := 1857) C dL_law_489 (by decide) ?_
      refine j_widen (k' := 110 + 2 * y4.toNatClampNeg) (n' := 307000 + 1400 * y4.toNatClampNeg) (by omega) (by omega) ?_
      exact j_sub (by exact (And.intro rfl (And.intro rfl (And.intro rfl (And.intro rfl (And.intro rfl trivial)))))) hv
    · have hv := hv.2 q88
      refine j_aload_n C dL_law_477 rfl ?_
      refine j_iconst (v := (0 : Int32)) C dL_law_478 (by decide) ?_
      obtain ⟨a83, e84, hv⟩ := hv
      obtain ⟨g85, hv⟩ := hv
      obtain ⟨b86, hv⟩ := hv
      refine k_lald (j := 0) C e84 g85 b86 (by decide) dL_law_479 ?_
      refine j_iload C dL_law_480 rfl ?_
      refine j_i2l C dL_law_482 ?_
      refine j_lcmp C dL_law_483 ?_
      refine j_if_eq (tgt := 489) C dL_law_484 (by decide) ⟨fun q87 => ?_, fun q87 => ?_⟩
      · have hv := hv.1 q87
        refine j_goto (tgt := 1857) C dL_law_489 (by decide) ?_
        refine j_widen (k' := 110 + 2 * y4.toNatClampNeg) (n' := 307000 + 1400 * y4.toNatClampNeg) (by omega) (by omega) ?_
        exact j_sub (by exact (And.intro rfl (And.intro rfl (And.intro rfl (And.intro rfl (And.intro rfl trivial)))))) hv
      · have hv := hv.2 q87
        refine j_iconst (v := (0 : Int32)) C dL_law_487 (by decide) ?_
        exact j_zret C (Or.inl rfl) dL_law_488 (hlim _ _ (by omega) (by omega)) hv
  · have hv := hv.2 q89
    refine j_iconst (v := (0 : Int32)) C dL_law_470 (by decide) ?_
    exact j_zret C (Or.inl rfl) dL_law_471 (hlim _ _ (by omega) (by omega)) hv
set_option maxRecDepth 20000 in
set_option maxHeartbeats 2000000 in
theorem sb_L_492 {G : Cx} {tb : List ExceptionTableEntry} {nm : String} {b L : Nat} {xs : Nat → Int32} {Q : Option AV ⊕ String → Hp → Prop} {h : Hp} (hg : glv G = 0) (hlim : ∀ k n, k ≤ 600000 → n ≤ 7000000 → lim G k n) (C : OK G cL_law 8 RL (some .boolean) tb nm) (hX : SC G b L xs) (hL : L ≤ 2562) {u1 : Option Nat} {u2 : Option Nat} {u3 : Option Nat} {y4 : Int32} (hv : vb_L_492 L xs Q (fun u1 u2 u3 y4 h => J G Q 1857 [some (vr (some b)), some (vr u1), some (vr u2), some (vr u3), some (vi y4), none, none, none] [] h (110 + 2 * y4.toNatClampNeg) (307000 + 1400 * y4.toNatClampNeg)) u1 u2 u3 y4 h) : J G Q 492 [some (vr (some b)), some (vr u1), some (vr u2), some (vr u3), some (vi y4), none, none, none] [] h (100 + 2 * y4.toNatClampNeg) (300000 + 1400 * y4.toNatClampNeg) := by
  unfold vb_L_492 at hv
  obtain ⟨hy4, hv⟩ := hv
  refine j_aload_n C dL_law_492 rfl ?_
  refine j_aload_n C dL_law_493 rfl ?_
  refine j_iload C dL_law_494 rfl ?_
  refine j_iconst (v := (1 : Int32)) C dL_law_496 (by decide) ?_
  refine j_iadd C dL_law_497 ?_
  obtain ⟨b90, hv⟩ := hv
  refine j_sld C hX b90 dL_law_498 ?_
  refine j_aload_n C dL_law_499 rfl ?_
  refine j_iload C dL_law_500 rfl ?_
  refine j_iconst (v := (2 : Int32)) C dL_law_502 (by decide) ?_
  refine j_iadd C dL_law_503 ?_
  obtain ⟨b91, hv⟩ := hv
  refine j_sld C hX b91 dL_law_504 ?_
  refine j_aload_n C dL_law_505 rfl ?_
  refine j_iload C dL_law_506 rfl ?_
  refine j_iconst (v := (3 : Int32)) C dL_law_508 (by decide) ?_
  refine j_iadd C dL_law_509 ?_
  obtain ⟨b92, hv⟩ := hv
  refine j_sld C hX b92 dL_law_510 ?_
  refine j_aload_n C dL_law_511 rfl ?_
  refine j_iload C dL_law_512 rfl ?_
  refine j_iconst (v := (4 : Int32)) C dL_law_514 (by decide) ?_
  refine j_iadd C dL_law_515 ?_
  obtain ⟨b93, hv⟩ := hv
  refine j_sld C hX b93 dL_law_516 ?_
  refine j_aload_n C dL_law_517 rfl ?_
  refine k_callSH C [vr u1, vi (xs (y4 + (1 : Int32)).toNatClampNeg), vi (xs (y4 + (2 : Int32)).toNatClampNeg), vi (xs (y4 + (3 : Int32)).toNatClampNeg), vi (xs (y4 + (4 : Int32)).toNatClampNeg), vr u3] ms_L_124 rfl (fun l D dA sz hl => s_L_pair (by omega) hv l D dA sz hl) (fun _ _ q => q) rfl (by omega) (Nat.le_of_ble_eq_true rfl) (hlim _ _ (by omega) (by omega)) dL_law_518 (fun v h94 hq => ?_)
  obtain ⟨v95, rfl, hv⟩ := qi_inv hq
  refine j_istore (lo' := [some (vr (some b)), some (vr u1), some (vr u2), some (vr u3), some (vi y4), some (vi v95), none, none]) C dL_law_521 (Nat.le_of_ble_eq_true rfl) rfl ?_
  refine j_aload_n C dL_law_523 rfl ?_
  refine j_aload_n C dL_law_524 rfl ?_
  refine j_iload C dL_law_525 rfl ?_
  refine j_iconst (v := (1 : Int32)) C dL_law_527 (by decide) ?_
  refine j_iadd C dL_law_528 ?_
  obtain ⟨b96, hv⟩ := hv
  refine j_sld C hX b96 dL_law_529 ?_
  refine j_aload_n C dL_law_530 rfl ?_
  refine j_iload C dL_law_531 rfl ?_
  refine j_iconst (v := (2 : Int32)) C dL_law_533 (by decide) ?_
  refine j_iadd C dL_law_534 ?_
  obtain ⟨b97, hv⟩ := hv
  refine j_sld C hX b97 dL_law_535 ?_
  refine j_aload_n C dL_law_536 rfl ?_
  refine j_iload C dL_law_537 rfl ?_
  refine j_iconst (v := (3 : Int32)) C dL_law_539 (by decide) ?_
  refine j_iadd C dL_law_540 ?_
  obtain ⟨b98, hv⟩ := hv
  refine j_sld C hX b98 dL_law_541 ?_
  refine j_aload_n C dL_law_542 rfl ?_
  refine j_iload C dL_law_543 rfl ?_
  refine j_iconst (v := (4 : Int32)) C dL_law_545 (by decide) ?_
  refine j_iadd C dL_law_546 ?_
  obtain ⟨b99, hv⟩ := hv
  refine j_sld C hX b99 dL_law_547 ?_
  obtain ⟨a100, e101, hv⟩ := hv
  obtain ⟨g104, hv⟩ := hv
  refine k_callV C 6 [vi (xs (y4 + (1 : Int32)).toNatClampNeg), vi (xs (y4 + (2 : Int32)).toNatClampNeg), vi (xs (y4 + (3 : Int32)).toNatClampNeg), vi (xs (y4 + (4 : Int32)).toNatClampNeg)] mv_L_126 e101 rfl (fun l D dA sz hl => s_X7_pair (by omega) hv l D dA sz hl) rfl rfl (by decide) g104 rfl (by omega) (Nat.le_of_ble_eq_true rfl) (hlim _ _ (by omega) (by omega)) dL_law_548 (fun _ _ q => False.elim q) (fun v h102 hq => ?_)
  obtain ⟨v103, rfl, hv⟩ := qi_inv hq
  refine j_istore (lo' := [some (vr (some b)), some (vr u1), some (vr u2), some (vr u3), some (vi y4), some (vi v95), some (vi v103), none]) C dL_law_551 (Nat.le_of_ble_eq_true rfl) rfl ?_
  refine j_aload_n C dL_law_553 rfl ?_
  obtain ⟨g107, hv⟩ := hv
  refine k_callV C 6 [] mv_L_109 e101 rfl (fun l D dA sz hl => s_X7_thrown (by omega) hv l D dA sz hl) rfl rfl (by decide) g107 rfl (by omega) (Nat.le_of_ble_eq_true rfl) (hlim _ _ (by omega) (by omega)) dL_law_554 (fun _ _ q => False.elim q) (fun v h105 hq => ?_)
  obtain ⟨v106, rfl, hv⟩ := qi_inv hq
  refine j_iload C dL_law_557 rfl ?_
  refine j_icmp_eq (tgt := 564) C dL_law_559 (by decide) ⟨fun q114 => ?_, fun q114 => ?_⟩
  · have hv := hv.1 q114
    refine j_iload C dL_law_564 rfl ?_
    refine j_if_ne (tgt := 581) C dL_law_566 (by decide) ⟨fun q113 => ?_, fun q113 => ?_⟩
    · have hv := hv.1 q113
      refine j_goto (tgt := 1857) C dL_law_581 (by decide) ?_
      refine j_widen (k' := 110 + 2 * y4.toNatClampNeg) (n' := 307000 + 1400 * y4.toNatClampNeg) (by omega) (by omega) ?_
      exact j_sub (by exact (And.intro rfl (And.intro rfl (And.intro rfl (And.intro rfl (And.intro rfl trivial)))))) hv
    · have hv := hv.2 q113
      refine j_aload_n C dL_law_569 rfl ?_
      refine j_iconst (v := (0 : Int32)) C dL_law_570 (by decide) ?_
      obtain ⟨a108, e109, hv⟩ := hv
      obtain ⟨g110, hv⟩ := hv
      obtain ⟨b111, hv⟩ := hv
      refine k_lald (j := 0) C e109 g110 b111 (by decide) dL_law_571 ?_
      refine j_iload C dL_law_572 rfl ?_
      refine j_i2l C dL_law_574 ?_
      refine j_lcmp C dL_law_575 ?_
      refine j_if_eq (tgt := 581) C dL_law_576 (by decide) ⟨fun q112 => ?_, fun q112 => ?_⟩
      · have hv := hv.1 q112
        refine j_goto (tgt := 1857) C dL_law_581 (by decide) ?_
        refine j_widen (k' := 110 + 2 * y4.toNatClampNeg) (n' := 307000 + 1400 * y4.toNatClampNeg) (by omega) (by omega) ?_
        exact j_sub (by exact (And.intro rfl (And.intro rfl (And.intro rfl (And.intro rfl (And.intro rfl trivial)))))) hv
      · have hv := hv.2 q112
        refine j_iconst (v := (0 : Int32)) C dL_law_579 (by decide) ?_
        exact j_zret C (Or.inl rfl) dL_law_580 (hlim _ _ (by omega) (by omega)) hv
  · have hv := hv.2 q114
    refine j_iconst (v := (0 : Int32)) C dL_law_562 (by decide) ?_
    exact j_zret C (Or.inl rfl) dL_law_563 (hlim _ _ (by omega) (by omega)) hv
set_option maxRecDepth 20000 in
set_option maxHeartbeats 2000000 in
theorem sb_L_584 {G : Cx} {tb : List ExceptionTableEntry} {nm : String} {b L : Nat} {xs : Nat → Int32} {Q : Option AV ⊕ String → Hp → Prop} {h : Hp} (hg : glv G = 0) (hlim : ∀ k n, k ≤ 600000 → n ≤ 7000000 → lim G k n) (C : OK G cL_law 8 RL (some .boolean) tb nm) (hX : SC G b L xs) (hL : L ≤ 2562) {u1 : Option Nat} {u2 : Option Nat} {u3 : Option Nat} {y4 : Int32} (hv : vb_L_584 L xs Q (fun u1 u2 u3 y4 h => J G Q 1857 [some (vr (some b)), some (vr u1), some (vr u2), some (vr u3), some (vi y4), none, none, none] [] h (110 + 2 * y4.toNatClampNeg) (307000 + 1400 * y4.toNatClampNeg)) u1 u2 u3 y4 h) : J G Q 584 [some (vr (some b)), some (vr u1), some (vr u2), some (vr u3), some (vi y4), none, none, none] [] h (100 + 2 * y4.toNatClampNeg) (300000 + 1400 * y4.toNatClampNeg) := by
  unfold vb_L_584 at hv
  obtain ⟨hy4, hv⟩ := hv
  refine j_aload_n C dL_law_584 rfl ?_
  refine j_aload_n C dL_law_585 rfl ?_
  refine j_iload C dL_law_586 rfl ?_
  refine j_iconst (v := (1 : Int32)) C dL_law_588 (by decide) ?_
  refine j_iadd C dL_law_589 ?_
  obtain ⟨b115, hv⟩ := hv
  refine j_sld C hX b115 dL_law_590 ?_
  refine j_aload_n C dL_law_591 rfl ?_
  refine j_iload C dL_law_592 rfl ?_
  refine j_iconst (v := (2 : Int32)) C dL_law_594 (by decide) ?_
  refine j_iadd C dL_law_595 ?_
  obtain ⟨b116, hv⟩ := hv
  refine j_sld C hX b116 dL_law_596 ?_
  refine j_aload_n C dL_law_597 rfl ?_
  refine k_callSH C [vr u1, vi (xs (y4 + (1 : Int32)).toNatClampNeg), vi (xs (y4 + (2 : Int32)).toNatClampNeg), vr u3] ms_L_127 rfl (fun l D dA sz hl => s_L_copy (by omega) hv l D dA sz hl) (fun _ _ q => q) rfl (by omega) (Nat.le_of_ble_eq_true rfl) (hlim _ _ (by omega) (by omega)) dL_law_598 (fun v h117 hq => ?_)
  obtain ⟨v118, rfl, hv⟩ := qi_inv hq
  refine j_istore (lo' := [some (vr (some b)), some (vr u1), some (vr u2), some (vr u3), some (vi y4), some (vi v118), none, none]) C dL_law_601 (Nat.le_of_ble_eq_true rfl) rfl ?_
  refine j_aload_n C dL_law_603 rfl ?_
  refine j_aload_n C dL_law_604 rfl ?_
  refine j_iload C dL_law_605 rfl ?_
  refine j_iconst (v := (1 : Int32)) C dL_law_607 (by decide) ?_
  refine j_iadd C dL_law_608 ?_
  obtain ⟨b119, hv⟩ := hv
  refine j_sld C hX b119 dL_law_609 ?_
  refine j_aload_n C dL_law_610 rfl ?_
  refine j_iload C dL_law_611 rfl ?_
  refine j_iconst (v := (2 : Int32)) C dL_law_613 (by decide) ?_
  refine j_iadd C dL_law_614 ?_
  obtain ⟨b120, hv⟩ := hv
  refine j_sld C hX b120 dL_law_615 ?_
  obtain ⟨a121, e122, hv⟩ := hv
  obtain ⟨g125, hv⟩ := hv
  refine k_callV C 6 [vi (xs (y4 + (1 : Int32)).toNatClampNeg), vi (xs (y4 + (2 : Int32)).toNatClampNeg)] mv_L_130 e122 rfl (fun l D dA sz hl => s_X7_copy (by omega) hv l D dA sz hl) rfl rfl (by decide) g125 rfl (by omega) (Nat.le_of_ble_eq_true rfl) (hlim _ _ (by omega) (by omega)) dL_law_616 (fun _ _ q => False.elim q) (fun v h123 hq => ?_)
  obtain ⟨v124, rfl, hv⟩ := qi_inv hq
  refine j_istore (lo' := [some (vr (some b)), some (vr u1), some (vr u2), some (vr u3), some (vi y4), some (vi v118), some (vi v124), none]) C dL_law_619 (Nat.le_of_ble_eq_true rfl) rfl ?_
  refine j_aload_n C dL_law_621 rfl ?_
  obtain ⟨g128, hv⟩ := hv
  refine k_callV C 6 [] mv_L_109 e122 rfl (fun l D dA sz hl => s_X7_thrown (by omega) hv l D dA sz hl) rfl rfl (by decide) g128 rfl (by omega) (Nat.le_of_ble_eq_true rfl) (hlim _ _ (by omega) (by omega)) dL_law_622 (fun _ _ q => False.elim q) (fun v h126 hq => ?_)
  obtain ⟨v127, rfl, hv⟩ := qi_inv hq
  refine j_iload C dL_law_625 rfl ?_
  refine j_icmp_eq (tgt := 632) C dL_law_627 (by decide) ⟨fun q135 => ?_, fun q135 => ?_⟩
  · have hv := hv.1 q135
    refine j_iload C dL_law_632 rfl ?_
    refine j_if_ne (tgt := 649) C dL_law_634 (by decide) ⟨fun q134 => ?_, fun q134 => ?_⟩
    · have hv := hv.1 q134
      refine j_goto (tgt := 1857) C dL_law_649 (by decide) ?_
      refine j_widen (k' := 110 + 2 * y4.toNatClampNeg) (n' := 307000 + 1400 * y4.toNatClampNeg) (by omega) (by omega) ?_
      exact j_sub (by exact (And.intro rfl (And.intro rfl (And.intro rfl (And.intro rfl (And.intro rfl trivial)))))) hv
    · have hv := hv.2 q134
      refine j_aload_n C dL_law_637 rfl ?_
      refine j_iconst (v := (0 : Int32)) C dL_law_638 (by decide) ?_
      obtain ⟨a129, e130, hv⟩ := hv
      obtain ⟨g131, hv⟩ := hv
      obtain ⟨b132, hv⟩ := hv
      refine k_lald (j := 0) C e130 g131 b132 (by decide) dL_law_639 ?_
      refine j_iload C dL_law_640 rfl ?_
      refine j_i2l C dL_law_642 ?_
      refine j_lcmp C dL_law_643 ?_
      refine j_if_eq (tgt := 649) C dL_law_644 (by decide) ⟨fun q133 => ?_, fun q133 => ?_⟩
      · have hv := hv.1 q133
        refine j_goto (tgt := 1857) C dL_law_649 (by decide) ?_
        refine j_widen (k' := 110 + 2 * y4.toNatClampNeg) (n' := 307000 + 1400 * y4.toNatClampNeg) (by omega) (by omega) ?_
        exact j_sub (by exact (And.intro rfl (And.intro rfl (And.intro rfl (And.intro rfl (And.intro rfl trivial)))))) hv
      · have hv := hv.2 q133
        refine j_iconst (v := (0 : Int32)) C dL_law_647 (by decide) ?_
        exact j_zret C (Or.inl rfl) dL_law_648 (hlim _ _ (by omega) (by omega)) hv
  · have hv := hv.2 q135
    refine j_iconst (v := (0 : Int32)) C dL_law_630 (by decide) ?_
    exact j_zret C (Or.inl rfl) dL_law_631 (hlim _ _ (by omega) (by omega)) hv
set_option maxRecDepth 20000 in
set_option maxHeartbeats 2000000 in
theorem sb_L_652 {G : Cx} {tb : List ExceptionTableEntry} {nm : String} {b L : Nat} {xs : Nat → Int32} {Q : Option AV ⊕ String → Hp → Prop} {h : Hp} (hg : glv G = 0) (hlim : ∀ k n, k ≤ 600000 → n ≤ 7000000 → lim G k n) (C : OK G cL_law 8 RL (some .boolean) tb nm) (hX : SC G b L xs) (hL : L ≤ 2562) {u1 : Option Nat} {u2 : Option Nat} {u3 : Option Nat} {y4 : Int32} (hv : vb_L_652 L xs Q (fun u1 u2 u3 y4 h => J G Q 1857 [some (vr (some b)), some (vr u1), some (vr u2), some (vr u3), some (vi y4), none, none, none] [] h (110 + 2 * y4.toNatClampNeg) (307000 + 1400 * y4.toNatClampNeg)) u1 u2 u3 y4 h) : J G Q 652 [some (vr (some b)), some (vr u1), some (vr u2), some (vr u3), some (vi y4), none, none, none] [] h (100 + 2 * y4.toNatClampNeg) (300000 + 1400 * y4.toNatClampNeg) := by
  unfold vb_L_652 at hv
  obtain ⟨hy4, hv⟩ := hv
  refine j_aload_n C dL_law_652 rfl ?_
  refine j_aload_n C dL_law_653 rfl ?_
  refine j_iload C dL_law_654 rfl ?_
  refine j_iconst (v := (1 : Int32)) C dL_law_656 (by decide) ?_
  refine j_iadd C dL_law_657 ?_
  obtain ⟨b136, hv⟩ := hv
  refine j_sld C hX b136 dL_law_658 ?_
  refine j_aload_n C dL_law_659 rfl ?_
  refine j_iload C dL_law_660 rfl ?_
  refine j_iconst (v := (2 : Int32)) C dL_law_662 (by decide) ?_
  refine j_iadd C dL_law_663 ?_
  obtain ⟨b137, hv⟩ := hv
  refine j_sld C hX b137 dL_law_664 ?_
  refine j_aload_n C dL_law_665 rfl ?_
  refine j_iload C dL_law_666 rfl ?_
  refine j_iconst (v := (3 : Int32)) C dL_law_668 (by decide) ?_
  refine j_iadd C dL_law_669 ?_
  obtain ⟨b138, hv⟩ := hv
  refine j_sld C hX b138 dL_law_670 ?_
  refine j_aload_n C dL_law_671 rfl ?_
  refine k_callSH C [vr u1, vi (xs (y4 + (1 : Int32)).toNatClampNeg), vi (xs (y4 + (2 : Int32)).toNatClampNeg), vi (xs (y4 + (3 : Int32)).toNatClampNeg), vr u3] ms_L_131 rfl (fun l D dA sz hl => s_L_link (by omega) hv l D dA sz hl) (fun _ _ q => q) rfl (by omega) (Nat.le_of_ble_eq_true rfl) (hlim _ _ (by omega) (by omega)) dL_law_672 (fun v h139 hq => ?_)
  obtain ⟨v140, rfl, hv⟩ := qi_inv hq
  refine j_istore (lo' := [some (vr (some b)), some (vr u1), some (vr u2), some (vr u3), some (vi y4), some (vi v140), none, none]) C dL_law_675 (Nat.le_of_ble_eq_true rfl) rfl ?_
  refine j_aload_n C dL_law_677 rfl ?_
  refine j_aload_n C dL_law_678 rfl ?_
  refine j_iload C dL_law_679 rfl ?_
  refine j_iconst (v := (1 : Int32)) C dL_law_681 (by decide) ?_
  refine j_iadd C dL_law_682 ?_
  obtain ⟨b141, hv⟩ := hv
  refine j_sld C hX b141 dL_law_683 ?_
  refine j_aload_n C dL_law_684 rfl ?_
  refine j_iload C dL_law_685 rfl ?_
  refine j_iconst (v := (2 : Int32)) C dL_law_687 (by decide) ?_
  refine j_iadd C dL_law_688 ?_
  obtain ⟨b142, hv⟩ := hv
  refine j_sld C hX b142 dL_law_689 ?_
  refine j_aload_n C dL_law_690 rfl ?_
  refine j_iload C dL_law_691 rfl ?_
  refine j_iconst (v := (3 : Int32)) C dL_law_693 (by decide) ?_
  refine j_iadd C dL_law_694 ?_
  obtain ⟨b143, hv⟩ := hv
  refine j_sld C hX b143 dL_law_695 ?_
  obtain ⟨a144, e145, hv⟩ := hv
  obtain ⟨g148, hv⟩ := hv
  refine k_callV C 6 [vi (xs (y4 + (1 : Int32)).toNatClampNeg), vi (xs (y4 + (2 : Int32)).toNatClampNeg), vi (xs (y4 + (3 : Int32)).toNatClampNeg)] mv_L_133 e145 rfl (fun l D dA sz hl => s_X7_link (by omega) hv l D dA sz hl) rfl rfl (by decide) g148 rfl (by omega) (Nat.le_of_ble_eq_true rfl) (hlim _ _ (by omega) (by omega)) dL_law_696 (fun _ _ q => False.elim q) (fun v h146 hq => ?_)
  obtain ⟨v147, rfl, hv⟩ := qi_inv hq
  refine j_istore (lo' := [some (vr (some b)), some (vr u1), some (vr u2), some (vr u3), some (vi y4), some (vi v140), some (vi v147), none]) C dL_law_699 (Nat.le_of_ble_eq_true rfl) rfl ?_
  refine j_aload_n C dL_law_701 rfl ?_
  obtain ⟨g151, hv⟩ := hv
  refine k_callV C 6 [] mv_L_109 e145 rfl (fun l D dA sz hl => s_X7_thrown (by omega) hv l D dA sz hl) rfl rfl (by decide) g151 rfl (by omega) (Nat.le_of_ble_eq_true rfl) (hlim _ _ (by omega) (by omega)) dL_law_702 (fun _ _ q => False.elim q) (fun v h149 hq => ?_)
  obtain ⟨v150, rfl, hv⟩ := qi_inv hq
  refine j_iload C dL_law_705 rfl ?_
  refine j_icmp_eq (tgt := 712) C dL_law_707 (by decide) ⟨fun q158 => ?_, fun q158 => ?_⟩
  · have hv := hv.1 q158
    refine j_iload C dL_law_712 rfl ?_
    refine j_if_ne (tgt := 729) C dL_law_714 (by decide) ⟨fun q157 => ?_, fun q157 => ?_⟩
    · have hv := hv.1 q157
      refine j_goto (tgt := 1857) C dL_law_729 (by decide) ?_
      refine j_widen (k' := 110 + 2 * y4.toNatClampNeg) (n' := 307000 + 1400 * y4.toNatClampNeg) (by omega) (by omega) ?_
      exact j_sub (by exact (And.intro rfl (And.intro rfl (And.intro rfl (And.intro rfl (And.intro rfl trivial)))))) hv
    · have hv := hv.2 q157
      refine j_aload_n C dL_law_717 rfl ?_
      refine j_iconst (v := (0 : Int32)) C dL_law_718 (by decide) ?_
      obtain ⟨a152, e153, hv⟩ := hv
      obtain ⟨g154, hv⟩ := hv
      obtain ⟨b155, hv⟩ := hv
      refine k_lald (j := 0) C e153 g154 b155 (by decide) dL_law_719 ?_
      refine j_iload C dL_law_720 rfl ?_
      refine j_i2l C dL_law_722 ?_
      refine j_lcmp C dL_law_723 ?_
      refine j_if_eq (tgt := 729) C dL_law_724 (by decide) ⟨fun q156 => ?_, fun q156 => ?_⟩
      · have hv := hv.1 q156
        refine j_goto (tgt := 1857) C dL_law_729 (by decide) ?_
        refine j_widen (k' := 110 + 2 * y4.toNatClampNeg) (n' := 307000 + 1400 * y4.toNatClampNeg) (by omega) (by omega) ?_
        exact j_sub (by exact (And.intro rfl (And.intro rfl (And.intro rfl (And.intro rfl (And.intro rfl trivial)))))) hv
      · have hv := hv.2 q156
        refine j_iconst (v := (0 : Int32)) C dL_law_727 (by decide) ?_
        exact j_zret C (Or.inl rfl) dL_law_728 (hlim _ _ (by omega) (by omega)) hv
  · have hv := hv.2 q158
    refine j_iconst (v := (0 : Int32)) C dL_law_710 (by decide) ?_
    exact j_zret C (Or.inl rfl) dL_law_711 (hlim _ _ (by omega) (by omega)) hv
set_option maxRecDepth 20000 in
set_option maxHeartbeats 2000000 in
theorem sb_L_732 {G : Cx} {tb : List ExceptionTableEntry} {nm : String} {b L : Nat} {xs : Nat → Int32} {Q : Option AV ⊕ String → Hp → Prop} {h : Hp} (hg : glv G = 0) (hlim : ∀ k n, k ≤ 600000 → n ≤ 7000000 → lim G k n) (C : OK G cL_law 8 RL (some .boolean) tb nm) (hX : SC G b L xs) (hL : L ≤ 2562) {u1 : Option Nat} {u2 : Option Nat} {u3 : Option Nat} {y4 : Int32} (hv : vb_L_732 L xs Q (fun u1 u2 u3 y4 h => J G Q 1857 [some (vr (some b)), some (vr u1), some (vr u2), some (vr u3), some (vi y4), none, none, none] [] h (110 + 2 * y4.toNatClampNeg) (307000 + 1400 * y4.toNatClampNeg)) u1 u2 u3 y4 h) : J G Q 732 [some (vr (some b)), some (vr u1), some (vr u2), some (vr u3), some (vi y4), none, none, none] [] h (100 + 2 * y4.toNatClampNeg) (300000 + 1400 * y4.toNatClampNeg) := by
  unfold vb_L_732 at hv
  obtain ⟨hy4, hv⟩ := hv
  refine j_aload_n C dL_law_732 rfl ?_
  refine j_aload_n C dL_law_733 rfl ?_
  refine j_iload C dL_law_734 rfl ?_
  refine j_iconst (v := (1 : Int32)) C dL_law_736 (by decide) ?_
  refine j_iadd C dL_law_737 ?_
  obtain ⟨b159, hv⟩ := hv
  refine j_sld C hX b159 dL_law_738 ?_
  refine j_aload_n C dL_law_739 rfl ?_
  refine j_iload C dL_law_740 rfl ?_
  refine j_iconst (v := (2 : Int32)) C dL_law_742 (by decide) ?_
  refine j_iadd C dL_law_743 ?_
  obtain ⟨b160, hv⟩ := hv
  refine j_sld C hX b160 dL_law_744 ?_
  refine j_aload_n C dL_law_745 rfl ?_
  refine j_iload C dL_law_746 rfl ?_
  refine j_iconst (v := (3 : Int32)) C dL_law_748 (by decide) ?_
  refine j_iadd C dL_law_749 ?_
  obtain ⟨b161, hv⟩ := hv
  refine j_sld C hX b161 dL_law_750 ?_
  refine j_aload_n C dL_law_751 rfl ?_
  refine k_callSH C [vr u1, vi (xs (y4 + (1 : Int32)).toNatClampNeg), vi (xs (y4 + (2 : Int32)).toNatClampNeg), vi (xs (y4 + (3 : Int32)).toNatClampNeg), vr u3] ms_L_134 rfl (fun l D dA sz hl => s_L_fetch (by omega) hv l D dA sz hl) (fun _ _ q => q) rfl (by omega) (Nat.le_of_ble_eq_true rfl) (hlim _ _ (by omega) (by omega)) dL_law_752 (fun v h162 hq => ?_)
  obtain ⟨v163, rfl, hv⟩ := qi_inv hq
  refine j_istore (lo' := [some (vr (some b)), some (vr u1), some (vr u2), some (vr u3), some (vi y4), some (vi v163), none, none]) C dL_law_755 (Nat.le_of_ble_eq_true rfl) rfl ?_
  refine j_aload_n C dL_law_757 rfl ?_
  refine j_aload_n C dL_law_758 rfl ?_
  refine j_iload C dL_law_759 rfl ?_
  refine j_iconst (v := (1 : Int32)) C dL_law_761 (by decide) ?_
  refine j_iadd C dL_law_762 ?_
  obtain ⟨b164, hv⟩ := hv
  refine j_sld C hX b164 dL_law_763 ?_
  refine j_aload_n C dL_law_764 rfl ?_
  refine j_iload C dL_law_765 rfl ?_
  refine j_iconst (v := (2 : Int32)) C dL_law_767 (by decide) ?_
  refine j_iadd C dL_law_768 ?_
  obtain ⟨b165, hv⟩ := hv
  refine j_sld C hX b165 dL_law_769 ?_
  refine j_aload_n C dL_law_770 rfl ?_
  refine j_iload C dL_law_771 rfl ?_
  refine j_iconst (v := (3 : Int32)) C dL_law_773 (by decide) ?_
  refine j_iadd C dL_law_774 ?_
  obtain ⟨b166, hv⟩ := hv
  refine j_sld C hX b166 dL_law_775 ?_
  obtain ⟨a167, e168, hv⟩ := hv
  obtain ⟨g171, hv⟩ := hv
  refine k_callV C 6 [vi (xs (y4 + (1 : Int32)).toNatClampNeg), vi (xs (y4 + (2 : Int32)).toNatClampNeg), vi (xs (y4 + (3 : Int32)).toNatClampNeg)] mv_L_136 e168 rfl (fun l D dA sz hl => s_X7_fetch (by omega) hv l D dA sz hl) rfl rfl (by decide) g171 rfl (by omega) (Nat.le_of_ble_eq_true rfl) (hlim _ _ (by omega) (by omega)) dL_law_776 (fun _ _ q => False.elim q) (fun v h169 hq => ?_)
  obtain ⟨v170, rfl, hv⟩ := qi_inv hq
  refine j_istore (lo' := [some (vr (some b)), some (vr u1), some (vr u2), some (vr u3), some (vi y4), some (vi v163), some (vi v170), none]) C dL_law_779 (Nat.le_of_ble_eq_true rfl) rfl ?_
  refine j_aload_n C dL_law_781 rfl ?_
  obtain ⟨g174, hv⟩ := hv
  refine k_callV C 6 [] mv_L_109 e168 rfl (fun l D dA sz hl => s_X7_thrown (by omega) hv l D dA sz hl) rfl rfl (by decide) g174 rfl (by omega) (Nat.le_of_ble_eq_true rfl) (hlim _ _ (by omega) (by omega)) dL_law_782 (fun _ _ q => False.elim q) (fun v h172 hq => ?_)
  obtain ⟨v173, rfl, hv⟩ := qi_inv hq
  refine j_iload C dL_law_785 rfl ?_
  refine j_icmp_eq (tgt := 792) C dL_law_787 (by decide) ⟨fun q181 => ?_, fun q181 => ?_⟩
  · have hv := hv.1 q181
    refine j_iload C dL_law_792 rfl ?_
    refine j_if_ne (tgt := 809) C dL_law_794 (by decide) ⟨fun q180 => ?_, fun q180 => ?_⟩
    · have hv := hv.1 q180
      refine j_goto (tgt := 1857) C dL_law_809 (by decide) ?_
      refine j_widen (k' := 110 + 2 * y4.toNatClampNeg) (n' := 307000 + 1400 * y4.toNatClampNeg) (by omega) (by omega) ?_
      exact j_sub (by exact (And.intro rfl (And.intro rfl (And.intro rfl (And.intro rfl (And.intro rfl trivial)))))) hv
    · have hv := hv.2 q180
      refine j_aload_n C dL_law_797 rfl ?_
      refine j_iconst (v := (0 : Int32)) C dL_law_798 (by decide) ?_
      obtain ⟨a175, e176, hv⟩ := hv
      obtain ⟨g177, hv⟩ := hv
      obtain ⟨b178, hv⟩ := hv
      refine k_lald (j := 0) C e176 g177 b178 (by decide) dL_law_799 ?_
      refine j_iload C dL_law_800 rfl ?_
      refine j_i2l C dL_law_802 ?_
      refine j_lcmp C dL_law_803 ?_
      refine j_if_eq (tgt := 809) C dL_law_804 (by decide) ⟨fun q179 => ?_, fun q179 => ?_⟩
      · have hv := hv.1 q179
        refine j_goto (tgt := 1857) C dL_law_809 (by decide) ?_
        refine j_widen (k' := 110 + 2 * y4.toNatClampNeg) (n' := 307000 + 1400 * y4.toNatClampNeg) (by omega) (by omega) ?_
        exact j_sub (by exact (And.intro rfl (And.intro rfl (And.intro rfl (And.intro rfl (And.intro rfl trivial)))))) hv
      · have hv := hv.2 q179
        refine j_iconst (v := (0 : Int32)) C dL_law_807 (by decide) ?_
        exact j_zret C (Or.inl rfl) dL_law_808 (hlim _ _ (by omega) (by omega)) hv
  · have hv := hv.2 q181
    refine j_iconst (v := (0 : Int32)) C dL_law_790 (by decide) ?_
    exact j_zret C (Or.inl rfl) dL_law_791 (hlim _ _ (by omega) (by omega)) hv
set_option maxRecDepth 20000 in
set_option maxHeartbeats 2000000 in
theorem sb_L_812 {G : Cx} {tb : List ExceptionTableEntry} {nm : String} {b L : Nat} {xs : Nat → Int32} {Q : Option AV ⊕ String → Hp → Prop} {h : Hp} (hg : glv G = 0) (hlim : ∀ k n, k ≤ 600000 → n ≤ 7000000 → lim G k n) (C : OK G cL_law 8 RL (some .boolean) tb nm) (hX : SC G b L xs) (hL : L ≤ 2562) {u1 : Option Nat} {u2 : Option Nat} {u3 : Option Nat} {y4 : Int32} (hv : vb_L_812 L xs Q (fun u1 u2 u3 y4 h => J G Q 1857 [some (vr (some b)), some (vr u1), some (vr u2), some (vr u3), some (vi y4), none, none, none] [] h (110 + 2 * y4.toNatClampNeg) (307000 + 1400 * y4.toNatClampNeg)) u1 u2 u3 y4 h) : J G Q 812 [some (vr (some b)), some (vr u1), some (vr u2), some (vr u3), some (vi y4), none, none, none] [] h (100 + 2 * y4.toNatClampNeg) (300000 + 1400 * y4.toNatClampNeg) := by
  unfold vb_L_812 at hv
  obtain ⟨hy4, hv⟩ := hv
  refine j_aload_n C dL_law_812 rfl ?_
  refine j_aload_n C dL_law_813 rfl ?_
  refine j_iload C dL_law_814 rfl ?_
  refine j_iconst (v := (1 : Int32)) C dL_law_816 (by decide) ?_
  refine j_iadd C dL_law_817 ?_
  obtain ⟨b182, hv⟩ := hv
  refine j_sld C hX b182 dL_law_818 ?_
  refine j_aload_n C dL_law_819 rfl ?_
  refine j_iload C dL_law_820 rfl ?_
  refine j_iconst (v := (2 : Int32)) C dL_law_822 (by decide) ?_
  refine j_iadd C dL_law_823 ?_
  obtain ⟨b183, hv⟩ := hv
  refine j_sld C hX b183 dL_law_824 ?_
  refine j_aload_n C dL_law_825 rfl ?_
  refine j_iload C dL_law_826 rfl ?_
  refine j_iconst (v := (3 : Int32)) C dL_law_828 (by decide) ?_
  refine j_iadd C dL_law_829 ?_
  obtain ⟨b184, hv⟩ := hv
  refine j_sld C hX b184 dL_law_830 ?_
  refine j_i2l C dL_law_831 ?_
  refine j_bipush (v := (32 : Int32)) C dL_law_832 (by decide) ?_
  refine j_lshl C dL_law_834 ?_
  refine j_aload_n C dL_law_835 rfl ?_
  refine j_iload C dL_law_836 rfl ?_
  refine j_iconst (v := (4 : Int32)) C dL_law_838 (by decide) ?_
  refine j_iadd C dL_law_839 ?_
  obtain ⟨b185, hv⟩ := hv
  refine j_sld C hX b185 dL_law_840 ?_
  refine j_i2l C dL_law_841 ?_
  refine j_ldc2 C wg_957 dL_law_842 ?_
  refine j_land C dL_law_845 ?_
  refine j_lor C dL_law_846 ?_
  refine j_aload_n C dL_law_847 rfl ?_
  refine k_callSH C [vr u1, vi (xs (y4 + (1 : Int32)).toNatClampNeg), vi (xs (y4 + (2 : Int32)).toNatClampNeg), vl ((((xs (y4 + (3 : Int32)).toNatClampNeg).toInt64) <<< ((32 : Int32).toInt64 &&& 63)) ||| (((xs (y4 + (4 : Int32)).toNatClampNeg).toInt64) &&& (4294967295 : Int64))), vr u3] ms_L_139 rfl (fun l D dA sz hl => s_L_set (by omega) hv l D dA sz hl) (fun _ _ q => q) rfl (by omega) (Nat.le_of_ble_eq_true rfl) (hlim _ _ (by omega) (by omega)) dL_law_848 (fun v h186 hq => ?_)
  obtain ⟨v187, rfl, hv⟩ := qi_inv hq
  refine j_istore (lo' := [some (vr (some b)), some (vr u1), some (vr u2), some (vr u3), some (vi y4), some (vi v187), none, none]) C dL_law_851 (Nat.le_of_ble_eq_true rfl) rfl ?_
  refine j_aload_n C dL_law_853 rfl ?_
  refine j_aload_n C dL_law_854 rfl ?_
  refine j_iload C dL_law_855 rfl ?_
  refine j_iconst (v := (1 : Int32)) C dL_law_857 (by decide) ?_
  refine j_iadd C dL_law_858 ?_
  obtain ⟨b188, hv⟩ := hv
  refine j_sld C hX b188 dL_law_859 ?_
  refine j_aload_n C dL_law_860 rfl ?_
  refine j_iload C dL_law_861 rfl ?_
  refine j_iconst (v := (2 : Int32)) C dL_law_863 (by decide) ?_
  refine j_iadd C dL_law_864 ?_
  obtain ⟨b189, hv⟩ := hv
  refine j_sld C hX b189 dL_law_865 ?_
  refine j_aload_n C dL_law_866 rfl ?_
  refine j_iload C dL_law_867 rfl ?_
  refine j_iconst (v := (3 : Int32)) C dL_law_869 (by decide) ?_
  refine j_iadd C dL_law_870 ?_
  obtain ⟨b190, hv⟩ := hv
  refine j_sld C hX b190 dL_law_871 ?_
  refine j_i2l C dL_law_872 ?_
  refine j_bipush (v := (32 : Int32)) C dL_law_873 (by decide) ?_
  refine j_lshl C dL_law_875 ?_
  refine j_aload_n C dL_law_876 rfl ?_
  refine j_iload C dL_law_877 rfl ?_
  refine j_iconst (v := (4 : Int32)) C dL_law_879 (by decide) ?_
  refine j_iadd C dL_law_880 ?_
  obtain ⟨b191, hv⟩ := hv
  refine j_sld C hX b191 dL_law_881 ?_
  refine j_i2l C dL_law_882 ?_
  refine j_ldc2 C wg_957 dL_law_883 ?_
  refine j_land C dL_law_886 ?_
  refine j_lor C dL_law_887 ?_
  obtain ⟨a192, e193, hv⟩ := hv
  obtain ⟨g196, hv⟩ := hv
  refine k_callV C 6 [vi (xs (y4 + (1 : Int32)).toNatClampNeg), vi (xs (y4 + (2 : Int32)).toNatClampNeg), vl ((((xs (y4 + (3 : Int32)).toNatClampNeg).toInt64) <<< ((32 : Int32).toInt64 &&& 63)) ||| (((xs (y4 + (4 : Int32)).toNatClampNeg).toInt64) &&& (4294967295 : Int64)))] mv_L_142 e193 rfl (fun l D dA sz hl => s_X7_set (by omega) hv l D dA sz hl) rfl rfl (by decide) g196 rfl (by omega) (Nat.le_of_ble_eq_true rfl) (hlim _ _ (by omega) (by omega)) dL_law_888 (fun _ _ q => False.elim q) (fun v h194 hq => ?_)
  obtain ⟨v195, rfl, hv⟩ := ql_inv hq
  refine j_lstore (lo' := [some (vr (some b)), some (vr u1), some (vr u2), some (vr u3), some (vi y4), some (vi v187), some (vl v195), none]) C dL_law_891 (Nat.le_of_ble_eq_true rfl) rfl ?_
  refine j_aload_n C dL_law_893 rfl ?_
  obtain ⟨g199, hv⟩ := hv
  refine k_callV C 6 [] mv_L_109 e193 rfl (fun l D dA sz hl => s_X7_thrown (by omega) hv l D dA sz hl) rfl rfl (by decide) g199 rfl (by omega) (Nat.le_of_ble_eq_true rfl) (hlim _ _ (by omega) (by omega)) dL_law_894 (fun _ _ q => False.elim q) (fun v h197 hq => ?_)
  obtain ⟨v198, rfl, hv⟩ := qi_inv hq
  refine j_iload C dL_law_897 rfl ?_
  refine j_icmp_eq (tgt := 904) C dL_law_899 (by decide) ⟨fun q206 => ?_, fun q206 => ?_⟩
  · have hv := hv.1 q206
    refine j_iload C dL_law_904 rfl ?_
    refine j_if_ne (tgt := 920) C dL_law_906 (by decide) ⟨fun q205 => ?_, fun q205 => ?_⟩
    · have hv := hv.1 q205
      refine j_goto (tgt := 1857) C dL_law_920 (by decide) ?_
      refine j_widen (k' := 110 + 2 * y4.toNatClampNeg) (n' := 307000 + 1400 * y4.toNatClampNeg) (by omega) (by omega) ?_
      exact j_sub (by exact (And.intro rfl (And.intro rfl (And.intro rfl (And.intro rfl (And.intro rfl trivial)))))) hv
    · have hv := hv.2 q205
      refine j_aload_n C dL_law_909 rfl ?_
      refine j_iconst (v := (0 : Int32)) C dL_law_910 (by decide) ?_
      obtain ⟨a200, e201, hv⟩ := hv
      obtain ⟨g202, hv⟩ := hv
      obtain ⟨b203, hv⟩ := hv
      refine k_lald (j := 0) C e201 g202 b203 (by decide) dL_law_911 ?_
      refine j_lload C dL_law_912 rfl ?_
      refine j_lcmp C dL_law_914 ?_
      refine j_if_eq (tgt := 920) C dL_law_915 (by decide) ⟨fun q204 => ?_, fun q204 => ?_⟩
      · have hv := hv.1 q204
        refine j_goto (tgt := 1857) C dL_law_920 (by decide) ?_
        refine j_widen (k' := 110 + 2 * y4.toNatClampNeg) (n' := 307000 + 1400 * y4.toNatClampNeg) (by omega) (by omega) ?_
        exact j_sub (by exact (And.intro rfl (And.intro rfl (And.intro rfl (And.intro rfl (And.intro rfl trivial)))))) hv
      · have hv := hv.2 q204
        refine j_iconst (v := (0 : Int32)) C dL_law_918 (by decide) ?_
        exact j_zret C (Or.inl rfl) dL_law_919 (hlim _ _ (by omega) (by omega)) hv
  · have hv := hv.2 q206
    refine j_iconst (v := (0 : Int32)) C dL_law_902 (by decide) ?_
    exact j_zret C (Or.inl rfl) dL_law_903 (hlim _ _ (by omega) (by omega)) hv
set_option maxRecDepth 20000 in
set_option maxHeartbeats 2000000 in
theorem sb_L_923 {G : Cx} {tb : List ExceptionTableEntry} {nm : String} {b L : Nat} {xs : Nat → Int32} {Q : Option AV ⊕ String → Hp → Prop} {h : Hp} (hg : glv G = 0) (hlim : ∀ k n, k ≤ 600000 → n ≤ 7000000 → lim G k n) (C : OK G cL_law 8 RL (some .boolean) tb nm) (hX : SC G b L xs) (hL : L ≤ 2562) {u1 : Option Nat} {u2 : Option Nat} {u3 : Option Nat} {y4 : Int32} (hv : vb_L_923 L xs Q (fun u1 u2 u3 y4 h => J G Q 1857 [some (vr (some b)), some (vr u1), some (vr u2), some (vr u3), some (vi y4), none, none, none] [] h (110 + 2 * y4.toNatClampNeg) (307000 + 1400 * y4.toNatClampNeg)) u1 u2 u3 y4 h) : J G Q 923 [some (vr (some b)), some (vr u1), some (vr u2), some (vr u3), some (vi y4), none, none, none] [] h (100 + 2 * y4.toNatClampNeg) (300000 + 1400 * y4.toNatClampNeg) := by
  unfold vb_L_923 at hv
  obtain ⟨hy4, hv⟩ := hv
  refine j_aload_n C dL_law_923 rfl ?_
  refine j_aload_n C dL_law_924 rfl ?_
  refine j_iload C dL_law_925 rfl ?_
  refine j_iconst (v := (1 : Int32)) C dL_law_927 (by decide) ?_
  refine j_iadd C dL_law_928 ?_
  obtain ⟨b207, hv⟩ := hv
  refine j_sld C hX b207 dL_law_929 ?_
  refine j_aload_n C dL_law_930 rfl ?_
  refine j_iload C dL_law_931 rfl ?_
  refine j_iconst (v := (2 : Int32)) C dL_law_933 (by decide) ?_
  refine j_iadd C dL_law_934 ?_
  obtain ⟨b208, hv⟩ := hv
  refine j_sld C hX b208 dL_law_935 ?_
  refine j_aload_n C dL_law_936 rfl ?_
  refine k_callSH C [vr u1, vi (xs (y4 + (1 : Int32)).toNatClampNeg), vi (xs (y4 + (2 : Int32)).toNatClampNeg), vr u3] ms_L_143 rfl (fun l D dA sz hl => s_L_get (by omega) hv l D dA sz hl) (fun _ _ q => q) rfl (by omega) (Nat.le_of_ble_eq_true rfl) (hlim _ _ (by omega) (by omega)) dL_law_937 (fun v h209 hq => ?_)
  obtain ⟨v210, rfl, hv⟩ := qi_inv hq
  refine j_istore (lo' := [some (vr (some b)), some (vr u1), some (vr u2), some (vr u3), some (vi y4), some (vi v210), none, none]) C dL_law_940 (Nat.le_of_ble_eq_true rfl) rfl ?_
  refine j_aload_n C dL_law_942 rfl ?_
  refine j_aload_n C dL_law_943 rfl ?_
  refine j_iload C dL_law_944 rfl ?_
  refine j_iconst (v := (1 : Int32)) C dL_law_946 (by decide) ?_
  refine j_iadd C dL_law_947 ?_
  obtain ⟨b211, hv⟩ := hv
  refine j_sld C hX b211 dL_law_948 ?_
  refine j_aload_n C dL_law_949 rfl ?_
  refine j_iload C dL_law_950 rfl ?_
  refine j_iconst (v := (2 : Int32)) C dL_law_952 (by decide) ?_
  refine j_iadd C dL_law_953 ?_
  obtain ⟨b212, hv⟩ := hv
  refine j_sld C hX b212 dL_law_954 ?_
  obtain ⟨a213, e214, hv⟩ := hv
  obtain ⟨g217, hv⟩ := hv
  refine k_callV C 6 [vi (xs (y4 + (1 : Int32)).toNatClampNeg), vi (xs (y4 + (2 : Int32)).toNatClampNeg)] mv_L_145 e214 rfl (fun l D dA sz hl => s_X7_get (by omega) hv l D dA sz hl) rfl rfl (by decide) g217 rfl (by omega) (Nat.le_of_ble_eq_true rfl) (hlim _ _ (by omega) (by omega)) dL_law_955 (fun _ _ q => False.elim q) (fun v h215 hq => ?_)
  obtain ⟨v216, rfl, hv⟩ := ql_inv hq
  refine j_lstore (lo' := [some (vr (some b)), some (vr u1), some (vr u2), some (vr u3), some (vi y4), some (vi v210), some (vl v216), none]) C dL_law_958 (Nat.le_of_ble_eq_true rfl) rfl ?_
  refine j_aload_n C dL_law_960 rfl ?_
  obtain ⟨g220, hv⟩ := hv
  refine k_callV C 6 [] mv_L_109 e214 rfl (fun l D dA sz hl => s_X7_thrown (by omega) hv l D dA sz hl) rfl rfl (by decide) g220 rfl (by omega) (Nat.le_of_ble_eq_true rfl) (hlim _ _ (by omega) (by omega)) dL_law_961 (fun _ _ q => False.elim q) (fun v h218 hq => ?_)
  obtain ⟨v219, rfl, hv⟩ := qi_inv hq
  refine j_iload C dL_law_964 rfl ?_
  refine j_icmp_eq (tgt := 971) C dL_law_966 (by decide) ⟨fun q227 => ?_, fun q227 => ?_⟩
  · have hv := hv.1 q227
    refine j_iload C dL_law_971 rfl ?_
    refine j_if_ne (tgt := 987) C dL_law_973 (by decide) ⟨fun q226 => ?_, fun q226 => ?_⟩
    · have hv := hv.1 q226
      refine j_goto (tgt := 1857) C dL_law_987 (by decide) ?_
      refine j_widen (k' := 110 + 2 * y4.toNatClampNeg) (n' := 307000 + 1400 * y4.toNatClampNeg) (by omega) (by omega) ?_
      exact j_sub (by exact (And.intro rfl (And.intro rfl (And.intro rfl (And.intro rfl (And.intro rfl trivial)))))) hv
    · have hv := hv.2 q226
      refine j_aload_n C dL_law_976 rfl ?_
      refine j_iconst (v := (0 : Int32)) C dL_law_977 (by decide) ?_
      obtain ⟨a221, e222, hv⟩ := hv
      obtain ⟨g223, hv⟩ := hv
      obtain ⟨b224, hv⟩ := hv
      refine k_lald (j := 0) C e222 g223 b224 (by decide) dL_law_978 ?_
      refine j_lload C dL_law_979 rfl ?_
      refine j_lcmp C dL_law_981 ?_
      refine j_if_eq (tgt := 987) C dL_law_982 (by decide) ⟨fun q225 => ?_, fun q225 => ?_⟩
      · have hv := hv.1 q225
        refine j_goto (tgt := 1857) C dL_law_987 (by decide) ?_
        refine j_widen (k' := 110 + 2 * y4.toNatClampNeg) (n' := 307000 + 1400 * y4.toNatClampNeg) (by omega) (by omega) ?_
        exact j_sub (by exact (And.intro rfl (And.intro rfl (And.intro rfl (And.intro rfl (And.intro rfl trivial)))))) hv
      · have hv := hv.2 q225
        refine j_iconst (v := (0 : Int32)) C dL_law_985 (by decide) ?_
        exact j_zret C (Or.inl rfl) dL_law_986 (hlim _ _ (by omega) (by omega)) hv
  · have hv := hv.2 q227
    refine j_iconst (v := (0 : Int32)) C dL_law_969 (by decide) ?_
    exact j_zret C (Or.inl rfl) dL_law_970 (hlim _ _ (by omega) (by omega)) hv
set_option maxRecDepth 20000 in
set_option maxHeartbeats 2000000 in
theorem sb_L_990 {G : Cx} {tb : List ExceptionTableEntry} {nm : String} {b L : Nat} {xs : Nat → Int32} {Q : Option AV ⊕ String → Hp → Prop} {h : Hp} (hg : glv G = 0) (hlim : ∀ k n, k ≤ 600000 → n ≤ 7000000 → lim G k n) (C : OK G cL_law 8 RL (some .boolean) tb nm) (hX : SC G b L xs) (hL : L ≤ 2562) {u1 : Option Nat} {u2 : Option Nat} {u3 : Option Nat} {y4 : Int32} (hv : vb_L_990 L xs Q (fun u1 u2 u3 y4 w0 w1 w2 v3 h => J G Q 1017 [some (vr (some b)), some (vr u1), some (vr u2), some (vr u3), some (vi y4), none, none, none] [vi w0, vi w1, vi w2, vr v3] h (100 + 2 * y4.toNatClampNeg) (300000 + 1400 * y4.toNatClampNeg)) u1 u2 u3 y4 h) : J G Q 990 [some (vr (some b)), some (vr u1), some (vr u2), some (vr u3), some (vi y4), none, none, none] [] h (100 + 2 * y4.toNatClampNeg) (300000 + 1400 * y4.toNatClampNeg) := by
  unfold vb_L_990 at hv
  obtain ⟨hy4, hv⟩ := hv
  refine j_aload_n C dL_law_990 rfl ?_
  refine j_aload_n C dL_law_991 rfl ?_
  refine j_iload C dL_law_992 rfl ?_
  refine j_iconst (v := (1 : Int32)) C dL_law_994 (by decide) ?_
  refine j_iadd C dL_law_995 ?_
  obtain ⟨b228, hv⟩ := hv
  refine j_sld C hX b228 dL_law_996 ?_
  refine j_aload_n C dL_law_997 rfl ?_
  refine j_iload C dL_law_998 rfl ?_
  refine j_iconst (v := (2 : Int32)) C dL_law_1000 (by decide) ?_
  refine j_iadd C dL_law_1001 ?_
  obtain ⟨b229, hv⟩ := hv
  refine j_sld C hX b229 dL_law_1002 ?_
  refine j_aload_n C dL_law_1003 rfl ?_
  refine j_iload C dL_law_1004 rfl ?_
  refine j_iconst (v := (3 : Int32)) C dL_law_1006 (by decide) ?_
  refine j_iadd C dL_law_1007 ?_
  obtain ⟨b230, hv⟩ := hv
  refine j_sld C hX b230 dL_law_1008 ?_
  refine j_if_eq (tgt := 1016) C dL_law_1009 (by decide) ⟨fun q231 => ?_, fun q231 => ?_⟩
  · have hv := hv.1 q231
    refine j_iconst (v := (0 : Int32)) C dL_law_1016 (by decide) ?_
    refine j_widen (k' := 100 + 2 * y4.toNatClampNeg) (n' := 300000 + 1400 * y4.toNatClampNeg) (by omega) (by omega) ?_
    exact j_sub (by exact (And.intro rfl (And.intro rfl (And.intro rfl (And.intro rfl (And.intro rfl trivial)))))) hv
  · have hv := hv.2 q231
    refine j_iconst (v := (1 : Int32)) C dL_law_1012 (by decide) ?_
    refine j_goto (tgt := 1017) C dL_law_1013 (by decide) ?_
    refine j_widen (k' := 100 + 2 * y4.toNatClampNeg) (n' := 300000 + 1400 * y4.toNatClampNeg) (by omega) (by omega) ?_
    exact j_sub (by exact (And.intro rfl (And.intro rfl (And.intro rfl (And.intro rfl (And.intro rfl trivial)))))) hv
set_option maxRecDepth 20000 in
set_option maxHeartbeats 2000000 in
theorem sb_L_1086 {G : Cx} {tb : List ExceptionTableEntry} {nm : String} {b L : Nat} {xs : Nat → Int32} {Q : Option AV ⊕ String → Hp → Prop} {h : Hp} (hg : glv G = 0) (hlim : ∀ k n, k ≤ 600000 → n ≤ 7000000 → lim G k n) (C : OK G cL_law 8 RL (some .boolean) tb nm) (hX : SC G b L xs) (hL : L ≤ 2562) {u1 : Option Nat} {u2 : Option Nat} {u3 : Option Nat} {y4 : Int32} (hv : vb_L_1086 L xs Q (fun u1 u2 u3 y4 h => J G Q 1857 [some (vr (some b)), some (vr u1), some (vr u2), some (vr u3), some (vi y4), none, none, none] [] h (110 + 2 * y4.toNatClampNeg) (307000 + 1400 * y4.toNatClampNeg)) u1 u2 u3 y4 h) : J G Q 1086 [some (vr (some b)), some (vr u1), some (vr u2), some (vr u3), some (vi y4), none, none, none] [] h (100 + 2 * y4.toNatClampNeg) (300000 + 1400 * y4.toNatClampNeg) := by
  unfold vb_L_1086 at hv
  obtain ⟨hy4, hv⟩ := hv
  refine j_aload_n C dL_law_1086 rfl ?_
  refine j_aload_n C dL_law_1087 rfl ?_
  refine j_iload C dL_law_1088 rfl ?_
  refine j_iconst (v := (1 : Int32)) C dL_law_1090 (by decide) ?_
  refine j_iadd C dL_law_1091 ?_
  obtain ⟨b232, hv⟩ := hv
  refine j_sld C hX b232 dL_law_1092 ?_
  refine j_aload_n C dL_law_1093 rfl ?_
  refine j_iload C dL_law_1094 rfl ?_
  refine j_iconst (v := (2 : Int32)) C dL_law_1096 (by decide) ?_
  refine j_iadd C dL_law_1097 ?_
  obtain ⟨b233, hv⟩ := hv
  refine j_sld C hX b233 dL_law_1098 ?_
  refine j_aload_n C dL_law_1099 rfl ?_
  refine k_callSH C [vr u1, vi (xs (y4 + (1 : Int32)).toNatClampNeg), vi (xs (y4 + (2 : Int32)).toNatClampNeg), vr u3] ms_L_149 rfl (fun l D dA sz hl => s_L_give (by omega) hv l D dA sz hl) (fun _ _ q => q) rfl (by omega) (Nat.le_of_ble_eq_true rfl) (hlim _ _ (by omega) (by omega)) dL_law_1100 (fun v h234 hq => ?_)
  obtain ⟨v235, rfl, hv⟩ := qi_inv hq
  refine j_istore (lo' := [some (vr (some b)), some (vr u1), some (vr u2), some (vr u3), some (vi y4), some (vi v235), none, none]) C dL_law_1103 (Nat.le_of_ble_eq_true rfl) rfl ?_
  refine j_aload_n C dL_law_1105 rfl ?_
  refine j_aload_n C dL_law_1106 rfl ?_
  refine j_iload C dL_law_1107 rfl ?_
  refine j_iconst (v := (1 : Int32)) C dL_law_1109 (by decide) ?_
  refine j_iadd C dL_law_1110 ?_
  obtain ⟨b236, hv⟩ := hv
  refine j_sld C hX b236 dL_law_1111 ?_
  refine j_aload_n C dL_law_1112 rfl ?_
  refine j_iload C dL_law_1113 rfl ?_
  refine j_iconst (v := (2 : Int32)) C dL_law_1115 (by decide) ?_
  refine j_iadd C dL_law_1116 ?_
  obtain ⟨b237, hv⟩ := hv
  refine j_sld C hX b237 dL_law_1117 ?_
  obtain ⟨a238, e239, hv⟩ := hv
  obtain ⟨g242, hv⟩ := hv
  refine k_callV C 6 [vi (xs (y4 + (1 : Int32)).toNatClampNeg), vi (xs (y4 + (2 : Int32)).toNatClampNeg)] mv_L_151 e239 rfl (fun l D dA sz hl => s_X7_give (by omega) hv l D dA sz hl) rfl rfl (by decide) g242 rfl (by omega) (Nat.le_of_ble_eq_true rfl) (hlim _ _ (by omega) (by omega)) dL_law_1118 (fun _ _ q => False.elim q) (fun v h240 hq => ?_)
  obtain ⟨v241, rfl, hv⟩ := qi_inv hq
  refine j_istore (lo' := [some (vr (some b)), some (vr u1), some (vr u2), some (vr u3), some (vi y4), some (vi v235), some (vi v241), none]) C dL_law_1121 (Nat.le_of_ble_eq_true rfl) rfl ?_
  refine j_aload_n C dL_law_1123 rfl ?_
  obtain ⟨g245, hv⟩ := hv
  refine k_callV C 6 [] mv_L_109 e239 rfl (fun l D dA sz hl => s_X7_thrown (by omega) hv l D dA sz hl) rfl rfl (by decide) g245 rfl (by omega) (Nat.le_of_ble_eq_true rfl) (hlim _ _ (by omega) (by omega)) dL_law_1124 (fun _ _ q => False.elim q) (fun v h243 hq => ?_)
  obtain ⟨v244, rfl, hv⟩ := qi_inv hq
  refine j_iload C dL_law_1127 rfl ?_
  refine j_icmp_eq (tgt := 1134) C dL_law_1129 (by decide) ⟨fun q252 => ?_, fun q252 => ?_⟩
  · have hv := hv.1 q252
    refine j_iload C dL_law_1134 rfl ?_
    refine j_if_ne (tgt := 1151) C dL_law_1136 (by decide) ⟨fun q251 => ?_, fun q251 => ?_⟩
    · have hv := hv.1 q251
      refine j_goto (tgt := 1857) C dL_law_1151 (by decide) ?_
      refine j_widen (k' := 110 + 2 * y4.toNatClampNeg) (n' := 307000 + 1400 * y4.toNatClampNeg) (by omega) (by omega) ?_
      exact j_sub (by exact (And.intro rfl (And.intro rfl (And.intro rfl (And.intro rfl (And.intro rfl trivial)))))) hv
    · have hv := hv.2 q251
      refine j_aload_n C dL_law_1139 rfl ?_
      refine j_iconst (v := (0 : Int32)) C dL_law_1140 (by decide) ?_
      obtain ⟨a246, e247, hv⟩ := hv
      obtain ⟨g248, hv⟩ := hv
      obtain ⟨b249, hv⟩ := hv
      refine k_lald (j := 0) C e247 g248 b249 (by decide) dL_law_1141 ?_
      refine j_iload C dL_law_1142 rfl ?_
      refine j_i2l C dL_law_1144 ?_
      refine j_lcmp C dL_law_1145 ?_
      refine j_if_eq (tgt := 1151) C dL_law_1146 (by decide) ⟨fun q250 => ?_, fun q250 => ?_⟩
      · have hv := hv.1 q250
        refine j_goto (tgt := 1857) C dL_law_1151 (by decide) ?_
        refine j_widen (k' := 110 + 2 * y4.toNatClampNeg) (n' := 307000 + 1400 * y4.toNatClampNeg) (by omega) (by omega) ?_
        exact j_sub (by exact (And.intro rfl (And.intro rfl (And.intro rfl (And.intro rfl (And.intro rfl trivial)))))) hv
      · have hv := hv.2 q250
        refine j_iconst (v := (0 : Int32)) C dL_law_1149 (by decide) ?_
        exact j_zret C (Or.inl rfl) dL_law_1150 (hlim _ _ (by omega) (by omega)) hv
  · have hv := hv.2 q252
    refine j_iconst (v := (0 : Int32)) C dL_law_1132 (by decide) ?_
    exact j_zret C (Or.inl rfl) dL_law_1133 (hlim _ _ (by omega) (by omega)) hv
set_option maxRecDepth 20000 in
set_option maxHeartbeats 2000000 in
theorem sb_L_1154 {G : Cx} {tb : List ExceptionTableEntry} {nm : String} {b L : Nat} {xs : Nat → Int32} {Q : Option AV ⊕ String → Hp → Prop} {h : Hp} (hg : glv G = 0) (hlim : ∀ k n, k ≤ 600000 → n ≤ 7000000 → lim G k n) (C : OK G cL_law 8 RL (some .boolean) tb nm) (hX : SC G b L xs) (hL : L ≤ 2562) {u1 : Option Nat} {u2 : Option Nat} {u3 : Option Nat} {y4 : Int32} (hv : vb_L_1154 L xs Q (fun u1 u2 u3 y4 w0 w1 v2 h => J G Q 1175 [some (vr (some b)), some (vr u1), some (vr u2), some (vr u3), some (vi y4), none, none, none] [vi w0, vi w1, vr v2] h (100 + 2 * y4.toNatClampNeg) (300000 + 1400 * y4.toNatClampNeg)) u1 u2 u3 y4 h) : J G Q 1154 [some (vr (some b)), some (vr u1), some (vr u2), some (vr u3), some (vi y4), none, none, none] [] h (100 + 2 * y4.toNatClampNeg) (300000 + 1400 * y4.toNatClampNeg) := by
  unfold vb_L_1154 at hv
  obtain ⟨hy4, hv⟩ := hv
  refine j_aload_n C dL_law_1154 rfl ?_
  refine j_aload_n C dL_law_1155 rfl ?_
  refine j_iload C dL_law_1156 rfl ?_
  refine j_iconst (v := (1 : Int32)) C dL_law_1158 (by decide) ?_
  refine j_iadd C dL_law_1159 ?_
  obtain ⟨b253, hv⟩ := hv
  refine j_sld C hX b253 dL_law_1160 ?_
  refine j_aload_n C dL_law_1161 rfl ?_
  refine j_iload C dL_law_1162 rfl ?_
  refine j_iconst (v := (2 : Int32)) C dL_law_1164 (by decide) ?_
  refine j_iadd C dL_law_1165 ?_
  obtain ⟨b254, hv⟩ := hv
  refine j_sld C hX b254 dL_law_1166 ?_
  refine j_if_eq (tgt := 1174) C dL_law_1167 (by decide) ⟨fun q255 => ?_, fun q255 => ?_⟩
  · have hv := hv.1 q255
    refine j_iconst (v := (0 : Int32)) C dL_law_1174 (by decide) ?_
    refine j_widen (k' := 100 + 2 * y4.toNatClampNeg) (n' := 300000 + 1400 * y4.toNatClampNeg) (by omega) (by omega) ?_
    exact j_sub (by exact (And.intro rfl (And.intro rfl (And.intro rfl (And.intro rfl (And.intro rfl trivial)))))) hv
  · have hv := hv.2 q255
    refine j_iconst (v := (1 : Int32)) C dL_law_1170 (by decide) ?_
    refine j_goto (tgt := 1175) C dL_law_1171 (by decide) ?_
    refine j_widen (k' := 100 + 2 * y4.toNatClampNeg) (n' := 300000 + 1400 * y4.toNatClampNeg) (by omega) (by omega) ?_
    exact j_sub (by exact (And.intro rfl (And.intro rfl (And.intro rfl (And.intro rfl (And.intro rfl trivial)))))) hv
set_option maxRecDepth 20000 in
set_option maxHeartbeats 2000000 in
theorem sb_L_1238 {G : Cx} {tb : List ExceptionTableEntry} {nm : String} {b L : Nat} {xs : Nat → Int32} {Q : Option AV ⊕ String → Hp → Prop} {h : Hp} (hg : glv G = 0) (hlim : ∀ k n, k ≤ 600000 → n ≤ 7000000 → lim G k n) (C : OK G cL_law 8 RL (some .boolean) tb nm) (hX : SC G b L xs) (hL : L ≤ 2562) {u1 : Option Nat} {u2 : Option Nat} {u3 : Option Nat} {y4 : Int32} (hv : vb_L_1238 L xs Q (fun u1 u2 u3 y4 h => J G Q 1857 [some (vr (some b)), some (vr u1), some (vr u2), some (vr u3), some (vi y4), none, none, none] [] h (110 + 2 * y4.toNatClampNeg) (307000 + 1400 * y4.toNatClampNeg)) u1 u2 u3 y4 h) : J G Q 1238 [some (vr (some b)), some (vr u1), some (vr u2), some (vr u3), some (vi y4), none, none, none] [] h (100 + 2 * y4.toNatClampNeg) (300000 + 1400 * y4.toNatClampNeg) := by
  unfold vb_L_1238 at hv
  obtain ⟨hy4, hv⟩ := hv
  refine j_aload_n C dL_law_1238 rfl ?_
  refine j_aload_n C dL_law_1239 rfl ?_
  refine j_iload C dL_law_1240 rfl ?_
  refine j_iconst (v := (1 : Int32)) C dL_law_1242 (by decide) ?_
  refine j_iadd C dL_law_1243 ?_
  obtain ⟨b256, hv⟩ := hv
  refine j_sld C hX b256 dL_law_1244 ?_
  refine j_aload_n C dL_law_1245 rfl ?_
  refine j_iload C dL_law_1246 rfl ?_
  refine j_iconst (v := (2 : Int32)) C dL_law_1248 (by decide) ?_
  refine j_iadd C dL_law_1249 ?_
  obtain ⟨b257, hv⟩ := hv
  refine j_sld C hX b257 dL_law_1250 ?_
  refine j_aload_n C dL_law_1251 rfl ?_
  refine k_callSH C [vr u1, vi (xs (y4 + (1 : Int32)).toNatClampNeg), vi (xs (y4 + (2 : Int32)).toNatClampNeg), vr u3] ms_L_156 rfl (fun l D dA sz hl => s_L_poll (by omega) hv l D dA sz hl) (fun _ _ q => q) rfl (by omega) (Nat.le_of_ble_eq_true rfl) (hlim _ _ (by omega) (by omega)) dL_law_1252 (fun v h258 hq => ?_)
  obtain ⟨v259, rfl, hv⟩ := qi_inv hq
  refine j_istore (lo' := [some (vr (some b)), some (vr u1), some (vr u2), some (vr u3), some (vi y4), some (vi v259), none, none]) C dL_law_1255 (Nat.le_of_ble_eq_true rfl) rfl ?_
  refine j_aload_n C dL_law_1257 rfl ?_
  refine j_aload_n C dL_law_1258 rfl ?_
  refine j_iload C dL_law_1259 rfl ?_
  refine j_iconst (v := (1 : Int32)) C dL_law_1261 (by decide) ?_
  refine j_iadd C dL_law_1262 ?_
  obtain ⟨b260, hv⟩ := hv
  refine j_sld C hX b260 dL_law_1263 ?_
  refine j_aload_n C dL_law_1264 rfl ?_
  refine j_iload C dL_law_1265 rfl ?_
  refine j_iconst (v := (2 : Int32)) C dL_law_1267 (by decide) ?_
  refine j_iadd C dL_law_1268 ?_
  obtain ⟨b261, hv⟩ := hv
  refine j_sld C hX b261 dL_law_1269 ?_
  obtain ⟨a262, e263, hv⟩ := hv
  obtain ⟨g266, hv⟩ := hv
  refine k_callV C 6 [vi (xs (y4 + (1 : Int32)).toNatClampNeg), vi (xs (y4 + (2 : Int32)).toNatClampNeg)] mv_L_158 e263 rfl (fun l D dA sz hl => s_X7_poll (by omega) hv l D dA sz hl) rfl rfl (by decide) g266 rfl (by omega) (Nat.le_of_ble_eq_true rfl) (hlim _ _ (by omega) (by omega)) dL_law_1270 (fun _ _ q => False.elim q) (fun v h264 hq => ?_)
  obtain ⟨v265, rfl, hv⟩ := qi_inv hq
  refine j_istore (lo' := [some (vr (some b)), some (vr u1), some (vr u2), some (vr u3), some (vi y4), some (vi v259), some (vi v265), none]) C dL_law_1273 (Nat.le_of_ble_eq_true rfl) rfl ?_
  refine j_aload_n C dL_law_1275 rfl ?_
  obtain ⟨g269, hv⟩ := hv
  refine k_callV C 6 [] mv_L_109 e263 rfl (fun l D dA sz hl => s_X7_thrown (by omega) hv l D dA sz hl) rfl rfl (by decide) g269 rfl (by omega) (Nat.le_of_ble_eq_true rfl) (hlim _ _ (by omega) (by omega)) dL_law_1276 (fun _ _ q => False.elim q) (fun v h267 hq => ?_)
  obtain ⟨v268, rfl, hv⟩ := qi_inv hq
  refine j_iload C dL_law_1279 rfl ?_
  refine j_icmp_eq (tgt := 1286) C dL_law_1281 (by decide) ⟨fun q276 => ?_, fun q276 => ?_⟩
  · have hv := hv.1 q276
    refine j_iload C dL_law_1286 rfl ?_
    refine j_if_ne (tgt := 1303) C dL_law_1288 (by decide) ⟨fun q275 => ?_, fun q275 => ?_⟩
    · have hv := hv.1 q275
      refine j_goto (tgt := 1857) C dL_law_1303 (by decide) ?_
      refine j_widen (k' := 110 + 2 * y4.toNatClampNeg) (n' := 307000 + 1400 * y4.toNatClampNeg) (by omega) (by omega) ?_
      exact j_sub (by exact (And.intro rfl (And.intro rfl (And.intro rfl (And.intro rfl (And.intro rfl trivial)))))) hv
    · have hv := hv.2 q275
      refine j_aload_n C dL_law_1291 rfl ?_
      refine j_iconst (v := (0 : Int32)) C dL_law_1292 (by decide) ?_
      obtain ⟨a270, e271, hv⟩ := hv
      obtain ⟨g272, hv⟩ := hv
      obtain ⟨b273, hv⟩ := hv
      refine k_lald (j := 0) C e271 g272 b273 (by decide) dL_law_1293 ?_
      refine j_iload C dL_law_1294 rfl ?_
      refine j_i2l C dL_law_1296 ?_
      refine j_lcmp C dL_law_1297 ?_
      refine j_if_eq (tgt := 1303) C dL_law_1298 (by decide) ⟨fun q274 => ?_, fun q274 => ?_⟩
      · have hv := hv.1 q274
        refine j_goto (tgt := 1857) C dL_law_1303 (by decide) ?_
        refine j_widen (k' := 110 + 2 * y4.toNatClampNeg) (n' := 307000 + 1400 * y4.toNatClampNeg) (by omega) (by omega) ?_
        exact j_sub (by exact (And.intro rfl (And.intro rfl (And.intro rfl (And.intro rfl (And.intro rfl trivial)))))) hv
      · have hv := hv.2 q274
        refine j_iconst (v := (0 : Int32)) C dL_law_1301 (by decide) ?_
        exact j_zret C (Or.inl rfl) dL_law_1302 (hlim _ _ (by omega) (by omega)) hv
  · have hv := hv.2 q276
    refine j_iconst (v := (0 : Int32)) C dL_law_1284 (by decide) ?_
    exact j_zret C (Or.inl rfl) dL_law_1285 (hlim _ _ (by omega) (by omega)) hv
set_option maxRecDepth 20000 in
set_option maxHeartbeats 2000000 in
theorem sb_L_1306 {G : Cx} {tb : List ExceptionTableEntry} {nm : String} {b L : Nat} {xs : Nat → Int32} {Q : Option AV ⊕ String → Hp → Prop} {h : Hp} (hg : glv G = 0) (hlim : ∀ k n, k ≤ 600000 → n ≤ 7000000 → lim G k n) (C : OK G cL_law 8 RL (some .boolean) tb nm) (hX : SC G b L xs) (hL : L ≤ 2562) {u1 : Option Nat} {u2 : Option Nat} {u3 : Option Nat} {y4 : Int32} (hv : vb_L_1306 L xs Q (fun u1 u2 u3 y4 h => J G Q 1857 [some (vr (some b)), some (vr u1), some (vr u2), some (vr u3), some (vi y4), none, none, none] [] h (110 + 2 * y4.toNatClampNeg) (307000 + 1400 * y4.toNatClampNeg)) u1 u2 u3 y4 h) : J G Q 1306 [some (vr (some b)), some (vr u1), some (vr u2), some (vr u3), some (vi y4), none, none, none] [] h (100 + 2 * y4.toNatClampNeg) (300000 + 1400 * y4.toNatClampNeg) := by
  unfold vb_L_1306 at hv
  obtain ⟨hy4, hv⟩ := hv
  refine j_aload_n C dL_law_1306 rfl ?_
  refine j_aload_n C dL_law_1307 rfl ?_
  refine j_iload C dL_law_1308 rfl ?_
  refine j_iconst (v := (1 : Int32)) C dL_law_1310 (by decide) ?_
  refine j_iadd C dL_law_1311 ?_
  obtain ⟨b277, hv⟩ := hv
  refine j_sld C hX b277 dL_law_1312 ?_
  refine j_aload_n C dL_law_1313 rfl ?_
  refine k_callSH C [vr u1, vi (xs (y4 + (1 : Int32)).toNatClampNeg), vr u3] ms_L_159 rfl (fun l D dA sz hl => s_L_waiting (by omega) hv l D dA sz hl) (fun _ _ q => q) rfl (by omega) (Nat.le_of_ble_eq_true rfl) (hlim _ _ (by omega) (by omega)) dL_law_1314 (fun v h278 hq => ?_)
  obtain ⟨v279, rfl, hv⟩ := qi_inv hq
  refine j_istore (lo' := [some (vr (some b)), some (vr u1), some (vr u2), some (vr u3), some (vi y4), some (vi v279), none, none]) C dL_law_1317 (Nat.le_of_ble_eq_true rfl) rfl ?_
  refine j_aload_n C dL_law_1319 rfl ?_
  refine j_aload_n C dL_law_1320 rfl ?_
  refine j_iload C dL_law_1321 rfl ?_
  refine j_iconst (v := (1 : Int32)) C dL_law_1323 (by decide) ?_
  refine j_iadd C dL_law_1324 ?_
  obtain ⟨b280, hv⟩ := hv
  refine j_sld C hX b280 dL_law_1325 ?_
  obtain ⟨a281, e282, hv⟩ := hv
  obtain ⟨g285, hv⟩ := hv
  refine k_callV C 6 [vi (xs (y4 + (1 : Int32)).toNatClampNeg)] mv_L_161 e282 rfl (fun l D dA sz hl => s_X7_waiting (by omega) hv l D dA sz hl) rfl rfl (by decide) g285 rfl (by omega) (Nat.le_of_ble_eq_true rfl) (hlim _ _ (by omega) (by omega)) dL_law_1326 (fun _ _ q => False.elim q) (fun v h283 hq => ?_)
  obtain ⟨v284, rfl, hv⟩ := qi_inv hq
  refine j_istore (lo' := [some (vr (some b)), some (vr u1), some (vr u2), some (vr u3), some (vi y4), some (vi v279), some (vi v284), none]) C dL_law_1329 (Nat.le_of_ble_eq_true rfl) rfl ?_
  refine j_aload_n C dL_law_1331 rfl ?_
  obtain ⟨g288, hv⟩ := hv
  refine k_callV C 6 [] mv_L_109 e282 rfl (fun l D dA sz hl => s_X7_thrown (by omega) hv l D dA sz hl) rfl rfl (by decide) g288 rfl (by omega) (Nat.le_of_ble_eq_true rfl) (hlim _ _ (by omega) (by omega)) dL_law_1332 (fun _ _ q => False.elim q) (fun v h286 hq => ?_)
  obtain ⟨v287, rfl, hv⟩ := qi_inv hq
  refine j_iload C dL_law_1335 rfl ?_
  refine j_icmp_eq (tgt := 1342) C dL_law_1337 (by decide) ⟨fun q295 => ?_, fun q295 => ?_⟩
  · have hv := hv.1 q295
    refine j_iload C dL_law_1342 rfl ?_
    refine j_if_ne (tgt := 1359) C dL_law_1344 (by decide) ⟨fun q294 => ?_, fun q294 => ?_⟩
    · have hv := hv.1 q294
      refine j_goto (tgt := 1857) C dL_law_1359 (by decide) ?_
      refine j_widen (k' := 110 + 2 * y4.toNatClampNeg) (n' := 307000 + 1400 * y4.toNatClampNeg) (by omega) (by omega) ?_
      exact j_sub (by exact (And.intro rfl (And.intro rfl (And.intro rfl (And.intro rfl (And.intro rfl trivial)))))) hv
    · have hv := hv.2 q294
      refine j_aload_n C dL_law_1347 rfl ?_
      refine j_iconst (v := (0 : Int32)) C dL_law_1348 (by decide) ?_
      obtain ⟨a289, e290, hv⟩ := hv
      obtain ⟨g291, hv⟩ := hv
      obtain ⟨b292, hv⟩ := hv
      refine k_lald (j := 0) C e290 g291 b292 (by decide) dL_law_1349 ?_
      refine j_iload C dL_law_1350 rfl ?_
      refine j_i2l C dL_law_1352 ?_
      refine j_lcmp C dL_law_1353 ?_
      refine j_if_eq (tgt := 1359) C dL_law_1354 (by decide) ⟨fun q293 => ?_, fun q293 => ?_⟩
      · have hv := hv.1 q293
        refine j_goto (tgt := 1857) C dL_law_1359 (by decide) ?_
        refine j_widen (k' := 110 + 2 * y4.toNatClampNeg) (n' := 307000 + 1400 * y4.toNatClampNeg) (by omega) (by omega) ?_
        exact j_sub (by exact (And.intro rfl (And.intro rfl (And.intro rfl (And.intro rfl (And.intro rfl trivial)))))) hv
      · have hv := hv.2 q293
        refine j_iconst (v := (0 : Int32)) C dL_law_1357 (by decide) ?_
        exact j_zret C (Or.inl rfl) dL_law_1358 (hlim _ _ (by omega) (by omega)) hv
  · have hv := hv.2 q295
    refine j_iconst (v := (0 : Int32)) C dL_law_1340 (by decide) ?_
    exact j_zret C (Or.inl rfl) dL_law_1341 (hlim _ _ (by omega) (by omega)) hv
set_option maxRecDepth 20000 in
set_option maxHeartbeats 2000000 in
theorem sb_L_1362 {G : Cx} {tb : List ExceptionTableEntry} {nm : String} {b L : Nat} {xs : Nat → Int32} {Q : Option AV ⊕ String → Hp → Prop} {h : Hp} (hg : glv G = 0) (hlim : ∀ k n, k ≤ 600000 → n ≤ 7000000 → lim G k n) (C : OK G cL_law 8 RL (some .boolean) tb nm) (hX : SC G b L xs) (hL : L ≤ 2562) {u1 : Option Nat} {u2 : Option Nat} {u3 : Option Nat} {y4 : Int32} (hv : vb_L_1362 L xs Q (fun u1 u2 u3 y4 h => J G Q 1857 [some (vr (some b)), some (vr u1), some (vr u2), some (vr u3), some (vi y4), none, none, none] [] h (110 + 2 * y4.toNatClampNeg) (307000 + 1400 * y4.toNatClampNeg)) u1 u2 u3 y4 h) : J G Q 1362 [some (vr (some b)), some (vr u1), some (vr u2), some (vr u3), some (vi y4), none, none, none] [] h (100 + 2 * y4.toNatClampNeg) (300000 + 1400 * y4.toNatClampNeg) := by
  unfold vb_L_1362 at hv
  obtain ⟨hy4, hv⟩ := hv
  refine j_aload_n C dL_law_1362 rfl ?_
  refine j_aload_n C dL_law_1363 rfl ?_
  refine j_iload C dL_law_1364 rfl ?_
  refine j_iconst (v := (1 : Int32)) C dL_law_1366 (by decide) ?_
  refine j_iadd C dL_law_1367 ?_
  obtain ⟨b296, hv⟩ := hv
  refine j_sld C hX b296 dL_law_1368 ?_
  refine j_aload_n C dL_law_1369 rfl ?_
  refine k_callSH C [vr u1, vi (xs (y4 + (1 : Int32)).toNatClampNeg), vr u3] ms_L_162 rfl (fun l D dA sz hl => s_L_kind (by omega) hv l D dA sz hl) (fun _ _ q => q) rfl (by omega) (Nat.le_of_ble_eq_true rfl) (hlim _ _ (by omega) (by omega)) dL_law_1370 (fun v h297 hq => ?_)
  obtain ⟨v298, rfl, hv⟩ := qi_inv hq
  refine j_istore (lo' := [some (vr (some b)), some (vr u1), some (vr u2), some (vr u3), some (vi y4), some (vi v298), none, none]) C dL_law_1373 (Nat.le_of_ble_eq_true rfl) rfl ?_
  refine j_aload_n C dL_law_1375 rfl ?_
  refine j_aload_n C dL_law_1376 rfl ?_
  refine j_iload C dL_law_1377 rfl ?_
  refine j_iconst (v := (1 : Int32)) C dL_law_1379 (by decide) ?_
  refine j_iadd C dL_law_1380 ?_
  obtain ⟨b299, hv⟩ := hv
  refine j_sld C hX b299 dL_law_1381 ?_
  obtain ⟨a300, e301, hv⟩ := hv
  obtain ⟨g304, hv⟩ := hv
  refine k_callV C 6 [vi (xs (y4 + (1 : Int32)).toNatClampNeg)] mv_L_164 e301 rfl (fun l D dA sz hl => s_X7_kind (by omega) hv l D dA sz hl) rfl rfl (by decide) g304 rfl (by omega) (Nat.le_of_ble_eq_true rfl) (hlim _ _ (by omega) (by omega)) dL_law_1382 (fun _ _ q => False.elim q) (fun v h302 hq => ?_)
  obtain ⟨v303, rfl, hv⟩ := qi_inv hq
  refine j_istore (lo' := [some (vr (some b)), some (vr u1), some (vr u2), some (vr u3), some (vi y4), some (vi v298), some (vi v303), none]) C dL_law_1385 (Nat.le_of_ble_eq_true rfl) rfl ?_
  refine j_aload_n C dL_law_1387 rfl ?_
  obtain ⟨g307, hv⟩ := hv
  refine k_callV C 6 [] mv_L_109 e301 rfl (fun l D dA sz hl => s_X7_thrown (by omega) hv l D dA sz hl) rfl rfl (by decide) g307 rfl (by omega) (Nat.le_of_ble_eq_true rfl) (hlim _ _ (by omega) (by omega)) dL_law_1388 (fun _ _ q => False.elim q) (fun v h305 hq => ?_)
  obtain ⟨v306, rfl, hv⟩ := qi_inv hq
  refine j_iload C dL_law_1391 rfl ?_
  refine j_icmp_eq (tgt := 1398) C dL_law_1393 (by decide) ⟨fun q314 => ?_, fun q314 => ?_⟩
  · have hv := hv.1 q314
    refine j_iload C dL_law_1398 rfl ?_
    refine j_if_ne (tgt := 1415) C dL_law_1400 (by decide) ⟨fun q313 => ?_, fun q313 => ?_⟩
    · have hv := hv.1 q313
      refine j_goto (tgt := 1857) C dL_law_1415 (by decide) ?_
      refine j_widen (k' := 110 + 2 * y4.toNatClampNeg) (n' := 307000 + 1400 * y4.toNatClampNeg) (by omega) (by omega) ?_
      exact j_sub (by exact (And.intro rfl (And.intro rfl (And.intro rfl (And.intro rfl (And.intro rfl trivial)))))) hv
    · have hv := hv.2 q313
      refine j_aload_n C dL_law_1403 rfl ?_
      refine j_iconst (v := (0 : Int32)) C dL_law_1404 (by decide) ?_
      obtain ⟨a308, e309, hv⟩ := hv
      obtain ⟨g310, hv⟩ := hv
      obtain ⟨b311, hv⟩ := hv
      refine k_lald (j := 0) C e309 g310 b311 (by decide) dL_law_1405 ?_
      refine j_iload C dL_law_1406 rfl ?_
      refine j_i2l C dL_law_1408 ?_
      refine j_lcmp C dL_law_1409 ?_
      refine j_if_eq (tgt := 1415) C dL_law_1410 (by decide) ⟨fun q312 => ?_, fun q312 => ?_⟩
      · have hv := hv.1 q312
        refine j_goto (tgt := 1857) C dL_law_1415 (by decide) ?_
        refine j_widen (k' := 110 + 2 * y4.toNatClampNeg) (n' := 307000 + 1400 * y4.toNatClampNeg) (by omega) (by omega) ?_
        exact j_sub (by exact (And.intro rfl (And.intro rfl (And.intro rfl (And.intro rfl (And.intro rfl trivial)))))) hv
      · have hv := hv.2 q312
        refine j_iconst (v := (0 : Int32)) C dL_law_1413 (by decide) ?_
        exact j_zret C (Or.inl rfl) dL_law_1414 (hlim _ _ (by omega) (by omega)) hv
  · have hv := hv.2 q314
    refine j_iconst (v := (0 : Int32)) C dL_law_1396 (by decide) ?_
    exact j_zret C (Or.inl rfl) dL_law_1397 (hlim _ _ (by omega) (by omega)) hv
set_option maxRecDepth 20000 in
set_option maxHeartbeats 2000000 in
theorem sb_L_1418 {G : Cx} {tb : List ExceptionTableEntry} {nm : String} {b L : Nat} {xs : Nat → Int32} {Q : Option AV ⊕ String → Hp → Prop} {h : Hp} (hg : glv G = 0) (hlim : ∀ k n, k ≤ 600000 → n ≤ 7000000 → lim G k n) (C : OK G cL_law 8 RL (some .boolean) tb nm) (hX : SC G b L xs) (hL : L ≤ 2562) {u1 : Option Nat} {u2 : Option Nat} {u3 : Option Nat} {y4 : Int32} (hv : vb_L_1418 L xs Q (fun u1 u2 u3 y4 h => J G Q 1857 [some (vr (some b)), some (vr u1), some (vr u2), some (vr u3), some (vi y4), none, none, none] [] h (110 + 2 * y4.toNatClampNeg) (307000 + 1400 * y4.toNatClampNeg)) u1 u2 u3 y4 h) : J G Q 1418 [some (vr (some b)), some (vr u1), some (vr u2), some (vr u3), some (vi y4), none, none, none] [] h (100 + 2 * y4.toNatClampNeg) (300000 + 1400 * y4.toNatClampNeg) := by
  unfold vb_L_1418 at hv
  obtain ⟨hy4, hv⟩ := hv
  refine j_aload_n C dL_law_1418 rfl ?_
  refine j_aload_n C dL_law_1419 rfl ?_
  refine j_iload C dL_law_1420 rfl ?_
  refine j_iconst (v := (1 : Int32)) C dL_law_1422 (by decide) ?_
  refine j_iadd C dL_law_1423 ?_
  obtain ⟨b315, hv⟩ := hv
  refine j_sld C hX b315 dL_law_1424 ?_
  refine j_aload_n C dL_law_1425 rfl ?_
  refine k_callSH C [vr u1, vi (xs (y4 + (1 : Int32)).toNatClampNeg), vr u3] ms_L_165 rfl (fun l D dA sz hl => s_L_hash (by omega) hv l D dA sz hl) (fun _ _ q => q) rfl (by omega) (Nat.le_of_ble_eq_true rfl) (hlim _ _ (by omega) (by omega)) dL_law_1426 (fun v h316 hq => ?_)
  obtain ⟨v317, rfl, hv⟩ := qi_inv hq
  refine j_istore (lo' := [some (vr (some b)), some (vr u1), some (vr u2), some (vr u3), some (vi y4), some (vi v317), none, none]) C dL_law_1429 (Nat.le_of_ble_eq_true rfl) rfl ?_
  refine j_aload_n C dL_law_1431 rfl ?_
  refine j_aload_n C dL_law_1432 rfl ?_
  refine j_iload C dL_law_1433 rfl ?_
  refine j_iconst (v := (1 : Int32)) C dL_law_1435 (by decide) ?_
  refine j_iadd C dL_law_1436 ?_
  obtain ⟨b318, hv⟩ := hv
  refine j_sld C hX b318 dL_law_1437 ?_
  obtain ⟨a319, e320, hv⟩ := hv
  obtain ⟨g323, hv⟩ := hv
  refine k_callV C 6 [vi (xs (y4 + (1 : Int32)).toNatClampNeg)] mv_L_167 e320 rfl (fun l D dA sz hl => s_X7_hash (by omega) hv l D dA sz hl) rfl rfl (by decide) g323 rfl (by omega) (Nat.le_of_ble_eq_true rfl) (hlim _ _ (by omega) (by omega)) dL_law_1438 (fun _ _ q => False.elim q) (fun v h321 hq => ?_)
  obtain ⟨v322, rfl, hv⟩ := qi_inv hq
  refine j_istore (lo' := [some (vr (some b)), some (vr u1), some (vr u2), some (vr u3), some (vi y4), some (vi v317), some (vi v322), none]) C dL_law_1441 (Nat.le_of_ble_eq_true rfl) rfl ?_
  refine j_aload_n C dL_law_1443 rfl ?_
  obtain ⟨g326, hv⟩ := hv
  refine k_callV C 6 [] mv_L_109 e320 rfl (fun l D dA sz hl => s_X7_thrown (by omega) hv l D dA sz hl) rfl rfl (by decide) g326 rfl (by omega) (Nat.le_of_ble_eq_true rfl) (hlim _ _ (by omega) (by omega)) dL_law_1444 (fun _ _ q => False.elim q) (fun v h324 hq => ?_)
  obtain ⟨v325, rfl, hv⟩ := qi_inv hq
  refine j_iload C dL_law_1447 rfl ?_
  refine j_icmp_eq (tgt := 1454) C dL_law_1449 (by decide) ⟨fun q333 => ?_, fun q333 => ?_⟩
  · have hv := hv.1 q333
    refine j_iload C dL_law_1454 rfl ?_
    refine j_if_ne (tgt := 1471) C dL_law_1456 (by decide) ⟨fun q332 => ?_, fun q332 => ?_⟩
    · have hv := hv.1 q332
      refine j_goto (tgt := 1857) C dL_law_1471 (by decide) ?_
      refine j_widen (k' := 110 + 2 * y4.toNatClampNeg) (n' := 307000 + 1400 * y4.toNatClampNeg) (by omega) (by omega) ?_
      exact j_sub (by exact (And.intro rfl (And.intro rfl (And.intro rfl (And.intro rfl (And.intro rfl trivial)))))) hv
    · have hv := hv.2 q332
      refine j_aload_n C dL_law_1459 rfl ?_
      refine j_iconst (v := (0 : Int32)) C dL_law_1460 (by decide) ?_
      obtain ⟨a327, e328, hv⟩ := hv
      obtain ⟨g329, hv⟩ := hv
      obtain ⟨b330, hv⟩ := hv
      refine k_lald (j := 0) C e328 g329 b330 (by decide) dL_law_1461 ?_
      refine j_iload C dL_law_1462 rfl ?_
      refine j_i2l C dL_law_1464 ?_
      refine j_lcmp C dL_law_1465 ?_
      refine j_if_eq (tgt := 1471) C dL_law_1466 (by decide) ⟨fun q331 => ?_, fun q331 => ?_⟩
      · have hv := hv.1 q331
        refine j_goto (tgt := 1857) C dL_law_1471 (by decide) ?_
        refine j_widen (k' := 110 + 2 * y4.toNatClampNeg) (n' := 307000 + 1400 * y4.toNatClampNeg) (by omega) (by omega) ?_
        exact j_sub (by exact (And.intro rfl (And.intro rfl (And.intro rfl (And.intro rfl (And.intro rfl trivial)))))) hv
      · have hv := hv.2 q331
        refine j_iconst (v := (0 : Int32)) C dL_law_1469 (by decide) ?_
        exact j_zret C (Or.inl rfl) dL_law_1470 (hlim _ _ (by omega) (by omega)) hv
  · have hv := hv.2 q333
    refine j_iconst (v := (0 : Int32)) C dL_law_1452 (by decide) ?_
    exact j_zret C (Or.inl rfl) dL_law_1453 (hlim _ _ (by omega) (by omega)) hv
set_option maxRecDepth 20000 in
set_option maxHeartbeats 2000000 in
theorem sb_L_1474 {G : Cx} {tb : List ExceptionTableEntry} {nm : String} {b L : Nat} {xs : Nat → Int32} {Q : Option AV ⊕ String → Hp → Prop} {h : Hp} (hg : glv G = 0) (hlim : ∀ k n, k ≤ 600000 → n ≤ 7000000 → lim G k n) (C : OK G cL_law 8 RL (some .boolean) tb nm) (hX : SC G b L xs) (hL : L ≤ 2562) {u1 : Option Nat} {u2 : Option Nat} {u3 : Option Nat} {y4 : Int32} (hv : vb_L_1474 L xs Q (fun u1 u2 u3 y4 h => J G Q 1857 [some (vr (some b)), some (vr u1), some (vr u2), some (vr u3), some (vi y4), none, none, none] [] h (110 + 2 * y4.toNatClampNeg) (307000 + 1400 * y4.toNatClampNeg)) (fun u1 u2 u3 y4 s0 s1 h => J G Q 1540 [some (vr (some b)), some (vr u1), some (vr u2), some (vr u3), some (vi y4), none, none, none] [vl s0, vl s1] h (102 + 2 * y4.toNatClampNeg) (300012 + 1400 * y4.toNatClampNeg)) u1 u2 u3 y4 h) : J G Q 1474 [some (vr (some b)), some (vr u1), some (vr u2), some (vr u3), some (vi y4), none, none, none] [] h (100 + 2 * y4.toNatClampNeg) (300000 + 1400 * y4.toNatClampNeg) := by
  unfold vb_L_1474 at hv
  obtain ⟨hy4, hv⟩ := hv
  refine j_aload_n C dL_law_1474 rfl ?_
  refine j_aload_n C dL_law_1475 rfl ?_
  refine j_iload C dL_law_1476 rfl ?_
  refine j_iconst (v := (1 : Int32)) C dL_law_1478 (by decide) ?_
  refine j_iadd C dL_law_1479 ?_
  obtain ⟨b334, hv⟩ := hv
  refine j_sld C hX b334 dL_law_1480 ?_
  refine j_aload_n C dL_law_1481 rfl ?_
  refine j_iload C dL_law_1482 rfl ?_
  refine j_iconst (v := (2 : Int32)) C dL_law_1484 (by decide) ?_
  refine j_iadd C dL_law_1485 ?_
  obtain ⟨b335, hv⟩ := hv
  refine j_sld C hX b335 dL_law_1486 ?_
  refine j_aload_n C dL_law_1487 rfl ?_
  refine k_callSH C [vr u1, vi (xs (y4 + (1 : Int32)).toNatClampNeg), vi (xs (y4 + (2 : Int32)).toNatClampNeg), vr u3] ms_L_168 rfl (fun l D dA sz hl => s_L_same (by omega) hv l D dA sz hl) (fun _ _ q => q) rfl (by omega) (Nat.le_of_ble_eq_true rfl) (hlim _ _ (by omega) (by omega)) dL_law_1488 (fun v h336 hq => ?_)
  obtain ⟨v337, rfl, hv⟩ := qi_inv hq
  refine j_istore (lo' := [some (vr (some b)), some (vr u1), some (vr u2), some (vr u3), some (vi y4), some (vi v337), none, none]) C dL_law_1491 (Nat.le_of_ble_eq_true rfl) rfl ?_
  refine j_aload_n C dL_law_1493 rfl ?_
  refine j_aload_n C dL_law_1494 rfl ?_
  refine j_iload C dL_law_1495 rfl ?_
  refine j_iconst (v := (1 : Int32)) C dL_law_1497 (by decide) ?_
  refine j_iadd C dL_law_1498 ?_
  obtain ⟨b338, hv⟩ := hv
  refine j_sld C hX b338 dL_law_1499 ?_
  refine j_aload_n C dL_law_1500 rfl ?_
  refine j_iload C dL_law_1501 rfl ?_
  refine j_iconst (v := (2 : Int32)) C dL_law_1503 (by decide) ?_
  refine j_iadd C dL_law_1504 ?_
  obtain ⟨b339, hv⟩ := hv
  refine j_sld C hX b339 dL_law_1505 ?_
  obtain ⟨a340, e341, hv⟩ := hv
  obtain ⟨g344, hv⟩ := hv
  refine k_callV C 6 [vi (xs (y4 + (1 : Int32)).toNatClampNeg), vi (xs (y4 + (2 : Int32)).toNatClampNeg)] mv_L_170 e341 rfl (fun l D dA sz hl => s_X7_same (by omega) hv l D dA sz hl) rfl rfl (by decide) g344 rfl (by omega) (Nat.le_of_ble_eq_true rfl) (hlim _ _ (by omega) (by omega)) dL_law_1506 (fun _ _ q => False.elim q) (fun v h342 hq => ?_)
  obtain ⟨v343, rfl, hv⟩ := qi_inv hq
  refine j_istore (lo' := [some (vr (some b)), some (vr u1), some (vr u2), some (vr u3), some (vi y4), some (vi v337), some (vi v343), none]) C dL_law_1509 (Nat.le_of_ble_eq_true rfl) rfl ?_
  refine j_aload_n C dL_law_1511 rfl ?_
  obtain ⟨g347, hv⟩ := hv
  refine k_callV C 6 [] mv_L_109 e341 rfl (fun l D dA sz hl => s_X7_thrown (by omega) hv l D dA sz hl) rfl rfl (by decide) g347 rfl (by omega) (Nat.le_of_ble_eq_true rfl) (hlim _ _ (by omega) (by omega)) dL_law_1512 (fun _ _ q => False.elim q) (fun v h345 hq => ?_)
  obtain ⟨v346, rfl, hv⟩ := qi_inv hq
  refine j_iload C dL_law_1515 rfl ?_
  refine j_icmp_eq (tgt := 1522) C dL_law_1517 (by decide) ⟨fun q354 => ?_, fun q354 => ?_⟩
  · have hv := hv.1 q354
    refine j_iload C dL_law_1522 rfl ?_
    refine j_if_ne (tgt := 1546) C dL_law_1524 (by decide) ⟨fun q353 => ?_, fun q353 => ?_⟩
    · have hv := hv.1 q353
      refine j_goto (tgt := 1857) C dL_law_1546 (by decide) ?_
      refine j_widen (k' := 110 + 2 * y4.toNatClampNeg) (n' := 307000 + 1400 * y4.toNatClampNeg) (by omega) (by omega) ?_
      exact j_sub (by exact (And.intro rfl (And.intro rfl (And.intro rfl (And.intro rfl (And.intro rfl trivial)))))) hv
    · have hv := hv.2 q353
      refine j_aload_n C dL_law_1527 rfl ?_
      refine j_iconst (v := (0 : Int32)) C dL_law_1528 (by decide) ?_
      obtain ⟨a348, e349, hv⟩ := hv
      obtain ⟨g350, hv⟩ := hv
      obtain ⟨b351, hv⟩ := hv
      refine k_lald (j := 0) C e349 g350 b351 (by decide) dL_law_1529 ?_
      refine j_iload C dL_law_1530 rfl ?_
      refine j_if_eq (tgt := 1539) C dL_law_1532 (by decide) ⟨fun q352 => ?_, fun q352 => ?_⟩
      · have hv := hv.1 q352
        refine j_lconst (v := (0 : Int64)) C dL_law_1539 (by decide) ?_
        refine j_widen (k' := 102 + 2 * y4.toNatClampNeg) (n' := 300012 + 1400 * y4.toNatClampNeg) (by omega) (by omega) ?_
        exact j_sub (by exact (And.intro rfl (And.intro rfl (And.intro rfl (And.intro rfl (And.intro rfl trivial)))))) hv
      · have hv := hv.2 q352
        refine j_lconst (v := (1 : Int64)) C dL_law_1535 (by decide) ?_
        refine j_goto (tgt := 1540) C dL_law_1536 (by decide) ?_
        refine j_widen (k' := 102 + 2 * y4.toNatClampNeg) (n' := 300012 + 1400 * y4.toNatClampNeg) (by omega) (by omega) ?_
        exact j_sub (by exact (And.intro rfl (And.intro rfl (And.intro rfl (And.intro rfl (And.intro rfl trivial)))))) hv
  · have hv := hv.2 q354
    refine j_iconst (v := (0 : Int32)) C dL_law_1520 (by decide) ?_
    exact j_zret C (Or.inl rfl) dL_law_1521 (hlim _ _ (by omega) (by omega)) hv
set_option maxRecDepth 20000 in
set_option maxHeartbeats 2000000 in
theorem sb_L_1549 {G : Cx} {tb : List ExceptionTableEntry} {nm : String} {b L : Nat} {xs : Nat → Int32} {Q : Option AV ⊕ String → Hp → Prop} {h : Hp} (hg : glv G = 0) (hlim : ∀ k n, k ≤ 600000 → n ≤ 7000000 → lim G k n) (C : OK G cL_law 8 RL (some .boolean) tb nm) (hX : SC G b L xs) (hL : L ≤ 2562) {u1 : Option Nat} {u2 : Option Nat} {u3 : Option Nat} {y4 : Int32} (hv : vb_L_1549 L xs Q (fun u1 u2 u3 y4 h => J G Q 1857 [some (vr (some b)), some (vr u1), some (vr u2), some (vr u3), some (vi y4), none, none, none] [] h (110 + 2 * y4.toNatClampNeg) (307000 + 1400 * y4.toNatClampNeg)) u1 u2 u3 y4 h) : J G Q 1549 [some (vr (some b)), some (vr u1), some (vr u2), some (vr u3), some (vi y4), none, none, none] [] h (100 + 2 * y4.toNatClampNeg) (300000 + 1400 * y4.toNatClampNeg) := by
  unfold vb_L_1549 at hv
  obtain ⟨hy4, hv⟩ := hv
  refine j_aload_n C dL_law_1549 rfl ?_
  refine j_aload_n C dL_law_1550 rfl ?_
  refine j_iload C dL_law_1551 rfl ?_
  refine j_iconst (v := (1 : Int32)) C dL_law_1553 (by decide) ?_
  refine j_iadd C dL_law_1554 ?_
  obtain ⟨b355, hv⟩ := hv
  refine j_sld C hX b355 dL_law_1555 ?_
  refine j_aload_n C dL_law_1556 rfl ?_
  refine k_callSH C [vr u1, vi (xs (y4 + (1 : Int32)).toNatClampNeg), vr u3] ms_L_171 rfl (fun l D dA sz hl => s_L_open (by omega) hv l D dA sz hl) (fun _ _ q => q) rfl (by omega) (Nat.le_of_ble_eq_true rfl) (hlim _ _ (by omega) (by omega)) dL_law_1557 (fun v h356 hq => ?_)
  obtain ⟨v357, rfl, hv⟩ := qi_inv hq
  refine j_istore (lo' := [some (vr (some b)), some (vr u1), some (vr u2), some (vr u3), some (vi y4), some (vi v357), none, none]) C dL_law_1560 (Nat.le_of_ble_eq_true rfl) rfl ?_
  refine j_aload_n C dL_law_1562 rfl ?_
  refine j_aload_n C dL_law_1563 rfl ?_
  refine j_iload C dL_law_1564 rfl ?_
  refine j_iconst (v := (1 : Int32)) C dL_law_1566 (by decide) ?_
  refine j_iadd C dL_law_1567 ?_
  obtain ⟨b358, hv⟩ := hv
  refine j_sld C hX b358 dL_law_1568 ?_
  obtain ⟨a359, e360, hv⟩ := hv
  obtain ⟨g363, hv⟩ := hv
  refine k_callV C 6 [vi (xs (y4 + (1 : Int32)).toNatClampNeg)] mv_L_173 e360 rfl (fun l D dA sz hl => s_X7_open (by omega) hv l D dA sz hl) rfl rfl (by decide) g363 rfl (by omega) (Nat.le_of_ble_eq_true rfl) (hlim _ _ (by omega) (by omega)) dL_law_1569 (fun _ _ q => False.elim q) (fun v h361 hq => ?_)
  obtain ⟨v362, rfl, hv⟩ := qi_inv hq
  refine j_istore (lo' := [some (vr (some b)), some (vr u1), some (vr u2), some (vr u3), some (vi y4), some (vi v357), some (vi v362), none]) C dL_law_1572 (Nat.le_of_ble_eq_true rfl) rfl ?_
  refine j_aload_n C dL_law_1574 rfl ?_
  obtain ⟨g366, hv⟩ := hv
  refine k_callV C 6 [] mv_L_109 e360 rfl (fun l D dA sz hl => s_X7_thrown (by omega) hv l D dA sz hl) rfl rfl (by decide) g366 rfl (by omega) (Nat.le_of_ble_eq_true rfl) (hlim _ _ (by omega) (by omega)) dL_law_1575 (fun _ _ q => False.elim q) (fun v h364 hq => ?_)
  obtain ⟨v365, rfl, hv⟩ := qi_inv hq
  refine j_iload C dL_law_1578 rfl ?_
  refine j_icmp_eq (tgt := 1585) C dL_law_1580 (by decide) ⟨fun q373 => ?_, fun q373 => ?_⟩
  · have hv := hv.1 q373
    refine j_iload C dL_law_1585 rfl ?_
    refine j_if_ne (tgt := 1602) C dL_law_1587 (by decide) ⟨fun q372 => ?_, fun q372 => ?_⟩
    · have hv := hv.1 q372
      refine j_goto (tgt := 1857) C dL_law_1602 (by decide) ?_
      refine j_widen (k' := 110 + 2 * y4.toNatClampNeg) (n' := 307000 + 1400 * y4.toNatClampNeg) (by omega) (by omega) ?_
      exact j_sub (by exact (And.intro rfl (And.intro rfl (And.intro rfl (And.intro rfl (And.intro rfl trivial)))))) hv
    · have hv := hv.2 q372
      refine j_aload_n C dL_law_1590 rfl ?_
      refine j_iconst (v := (0 : Int32)) C dL_law_1591 (by decide) ?_
      obtain ⟨a367, e368, hv⟩ := hv
      obtain ⟨g369, hv⟩ := hv
      obtain ⟨b370, hv⟩ := hv
      refine k_lald (j := 0) C e368 g369 b370 (by decide) dL_law_1592 ?_
      refine j_iload C dL_law_1593 rfl ?_
      refine j_i2l C dL_law_1595 ?_
      refine j_lcmp C dL_law_1596 ?_
      refine j_if_eq (tgt := 1602) C dL_law_1597 (by decide) ⟨fun q371 => ?_, fun q371 => ?_⟩
      · have hv := hv.1 q371
        refine j_goto (tgt := 1857) C dL_law_1602 (by decide) ?_
        refine j_widen (k' := 110 + 2 * y4.toNatClampNeg) (n' := 307000 + 1400 * y4.toNatClampNeg) (by omega) (by omega) ?_
        exact j_sub (by exact (And.intro rfl (And.intro rfl (And.intro rfl (And.intro rfl (And.intro rfl trivial)))))) hv
      · have hv := hv.2 q371
        refine j_iconst (v := (0 : Int32)) C dL_law_1600 (by decide) ?_
        exact j_zret C (Or.inl rfl) dL_law_1601 (hlim _ _ (by omega) (by omega)) hv
  · have hv := hv.2 q373
    refine j_iconst (v := (0 : Int32)) C dL_law_1583 (by decide) ?_
    exact j_zret C (Or.inl rfl) dL_law_1584 (hlim _ _ (by omega) (by omega)) hv
set_option maxRecDepth 20000 in
set_option maxHeartbeats 2000000 in
theorem sb_L_1605 {G : Cx} {tb : List ExceptionTableEntry} {nm : String} {b L : Nat} {xs : Nat → Int32} {Q : Option AV ⊕ String → Hp → Prop} {h : Hp} (hg : glv G = 0) (hlim : ∀ k n, k ≤ 600000 → n ≤ 7000000 → lim G k n) (C : OK G cL_law 8 RL (some .boolean) tb nm) (hX : SC G b L xs) (hL : L ≤ 2562) {u1 : Option Nat} {u2 : Option Nat} {u3 : Option Nat} {y4 : Int32} (hv : vb_L_1605 L xs Q (fun u1 u2 u3 y4 h => J G Q 1857 [some (vr (some b)), some (vr u1), some (vr u2), some (vr u3), some (vi y4), none, none, none] [] h (110 + 2 * y4.toNatClampNeg) (307000 + 1400 * y4.toNatClampNeg)) u1 u2 u3 y4 h) : J G Q 1605 [some (vr (some b)), some (vr u1), some (vr u2), some (vr u3), some (vi y4), none, none, none] [] h (100 + 2 * y4.toNatClampNeg) (300000 + 1400 * y4.toNatClampNeg) := by
  unfold vb_L_1605 at hv
  obtain ⟨hy4, hv⟩ := hv
  refine j_aload_n C dL_law_1605 rfl ?_
  refine j_aload_n C dL_law_1606 rfl ?_
  refine k_callSH C [vr u1, vr u3] ms_L_174 rfl (fun l D dA sz hl => s_L_close (by omega) hv l D dA sz hl) (fun _ _ q => q) rfl (by omega) (Nat.le_of_ble_eq_true rfl) (hlim _ _ (by omega) (by omega)) dL_law_1607 (fun v h374 hq => ?_)
  obtain ⟨v375, rfl, hv⟩ := qi_inv hq
  refine j_istore (lo' := [some (vr (some b)), some (vr u1), some (vr u2), some (vr u3), some (vi y4), some (vi v375), none, none]) C dL_law_1610 (Nat.le_of_ble_eq_true rfl) rfl ?_
  refine j_aload_n C dL_law_1612 rfl ?_
  obtain ⟨a376, e377, hv⟩ := hv
  obtain ⟨g380, hv⟩ := hv
  refine k_callV C 6 [] mv_L_177 e377 rfl (fun l D dA sz hl => s_X7_close (by omega) hv l D dA sz hl) rfl rfl (by decide) g380 rfl (by omega) (Nat.le_of_ble_eq_true rfl) (hlim _ _ (by omega) (by omega)) dL_law_1613 (fun _ _ q => False.elim q) (fun v h378 hq => ?_)
  obtain ⟨v379, rfl, hv⟩ := qi_inv hq
  refine j_istore (lo' := [some (vr (some b)), some (vr u1), some (vr u2), some (vr u3), some (vi y4), some (vi v375), some (vi v379), none]) C dL_law_1616 (Nat.le_of_ble_eq_true rfl) rfl ?_
  refine j_aload_n C dL_law_1618 rfl ?_
  obtain ⟨g383, hv⟩ := hv
  refine k_callV C 6 [] mv_L_109 e377 rfl (fun l D dA sz hl => s_X7_thrown (by omega) hv l D dA sz hl) rfl rfl (by decide) g383 rfl (by omega) (Nat.le_of_ble_eq_true rfl) (hlim _ _ (by omega) (by omega)) dL_law_1619 (fun _ _ q => False.elim q) (fun v h381 hq => ?_)
  obtain ⟨v382, rfl, hv⟩ := qi_inv hq
  refine j_iload C dL_law_1622 rfl ?_
  refine j_icmp_eq (tgt := 1629) C dL_law_1624 (by decide) ⟨fun q390 => ?_, fun q390 => ?_⟩
  · have hv := hv.1 q390
    refine j_iload C dL_law_1629 rfl ?_
    refine j_if_ne (tgt := 1646) C dL_law_1631 (by decide) ⟨fun q389 => ?_, fun q389 => ?_⟩
    · have hv := hv.1 q389
      refine j_goto (tgt := 1857) C dL_law_1646 (by decide) ?_
      refine j_widen (k' := 110 + 2 * y4.toNatClampNeg) (n' := 307000 + 1400 * y4.toNatClampNeg) (by omega) (by omega) ?_
      exact j_sub (by exact (And.intro rfl (And.intro rfl (And.intro rfl (And.intro rfl (And.intro rfl trivial)))))) hv
    · have hv := hv.2 q389
      refine j_aload_n C dL_law_1634 rfl ?_
      refine j_iconst (v := (0 : Int32)) C dL_law_1635 (by decide) ?_
      obtain ⟨a384, e385, hv⟩ := hv
      obtain ⟨g386, hv⟩ := hv
      obtain ⟨b387, hv⟩ := hv
      refine k_lald (j := 0) C e385 g386 b387 (by decide) dL_law_1636 ?_
      refine j_iload C dL_law_1637 rfl ?_
      refine j_i2l C dL_law_1639 ?_
      refine j_lcmp C dL_law_1640 ?_
      refine j_if_eq (tgt := 1646) C dL_law_1641 (by decide) ⟨fun q388 => ?_, fun q388 => ?_⟩
      · have hv := hv.1 q388
        refine j_goto (tgt := 1857) C dL_law_1646 (by decide) ?_
        refine j_widen (k' := 110 + 2 * y4.toNatClampNeg) (n' := 307000 + 1400 * y4.toNatClampNeg) (by omega) (by omega) ?_
        exact j_sub (by exact (And.intro rfl (And.intro rfl (And.intro rfl (And.intro rfl (And.intro rfl trivial)))))) hv
      · have hv := hv.2 q388
        refine j_iconst (v := (0 : Int32)) C dL_law_1644 (by decide) ?_
        exact j_zret C (Or.inl rfl) dL_law_1645 (hlim _ _ (by omega) (by omega)) hv
  · have hv := hv.2 q390
    refine j_iconst (v := (0 : Int32)) C dL_law_1627 (by decide) ?_
    exact j_zret C (Or.inl rfl) dL_law_1628 (hlim _ _ (by omega) (by omega)) hv
set_option maxRecDepth 20000 in
set_option maxHeartbeats 2000000 in
theorem sb_L_1649 {G : Cx} {tb : List ExceptionTableEntry} {nm : String} {b L : Nat} {xs : Nat → Int32} {Q : Option AV ⊕ String → Hp → Prop} {h : Hp} (hg : glv G = 0) (hlim : ∀ k n, k ≤ 600000 → n ≤ 7000000 → lim G k n) (C : OK G cL_law 8 RL (some .boolean) tb nm) (hX : SC G b L xs) (hL : L ≤ 2562) {u1 : Option Nat} {u2 : Option Nat} {u3 : Option Nat} {y4 : Int32} (hv : vb_L_1649 L xs Q (fun u1 u2 u3 y4 w0 v1 h => J G Q 1664 [some (vr (some b)), some (vr u1), some (vr u2), some (vr u3), some (vi y4), none, none, none] [vi w0, vr v1] h (100 + 2 * y4.toNatClampNeg) (300000 + 1400 * y4.toNatClampNeg)) u1 u2 u3 y4 h) : J G Q 1649 [some (vr (some b)), some (vr u1), some (vr u2), some (vr u3), some (vi y4), none, none, none] [] h (100 + 2 * y4.toNatClampNeg) (300000 + 1400 * y4.toNatClampNeg) := by
  unfold vb_L_1649 at hv
  obtain ⟨hy4, hv⟩ := hv
  refine j_aload_n C dL_law_1649 rfl ?_
  refine j_aload_n C dL_law_1650 rfl ?_
  refine j_iload C dL_law_1651 rfl ?_
  refine j_iconst (v := (1 : Int32)) C dL_law_1653 (by decide) ?_
  refine j_iadd C dL_law_1654 ?_
  obtain ⟨b391, hv⟩ := hv
  refine j_sld C hX b391 dL_law_1655 ?_
  refine j_if_eq (tgt := 1663) C dL_law_1656 (by decide) ⟨fun q392 => ?_, fun q392 => ?_⟩
  · have hv := hv.1 q392
    refine j_iconst (v := (0 : Int32)) C dL_law_1663 (by decide) ?_
    refine j_widen (k' := 100 + 2 * y4.toNatClampNeg) (n' := 300000 + 1400 * y4.toNatClampNeg) (by omega) (by omega) ?_
    exact j_sub (by exact (And.intro rfl (And.intro rfl (And.intro rfl (And.intro rfl (And.intro rfl trivial)))))) hv
  · have hv := hv.2 q392
    refine j_iconst (v := (1 : Int32)) C dL_law_1659 (by decide) ?_
    refine j_goto (tgt := 1664) C dL_law_1660 (by decide) ?_
    refine j_widen (k' := 100 + 2 * y4.toNatClampNeg) (n' := 300000 + 1400 * y4.toNatClampNeg) (by omega) (by omega) ?_
    exact j_sub (by exact (And.intro rfl (And.intro rfl (And.intro rfl (And.intro rfl (And.intro rfl trivial)))))) hv
set_option maxRecDepth 20000 in
set_option maxHeartbeats 2000000 in
theorem sb_L_1690 {G : Cx} {tb : List ExceptionTableEntry} {nm : String} {b L : Nat} {xs : Nat → Int32} {Q : Option AV ⊕ String → Hp → Prop} {h : Hp} (hg : glv G = 0) (hlim : ∀ k n, k ≤ 600000 → n ≤ 7000000 → lim G k n) (C : OK G cL_law 8 RL (some .boolean) tb nm) (hX : SC G b L xs) (hL : L ≤ 2562) {u1 : Option Nat} {u2 : Option Nat} {u3 : Option Nat} {y4 : Int32} (hv : vb_L_1690 L xs Q (fun u1 u2 u3 y4 h => J G Q 1857 [some (vr (some b)), some (vr u1), some (vr u2), some (vr u3), some (vi y4), none, none, none] [] h (110 + 2 * y4.toNatClampNeg) (307000 + 1400 * y4.toNatClampNeg)) u1 u2 u3 y4 h) : J G Q 1690 [some (vr (some b)), some (vr u1), some (vr u2), some (vr u3), some (vi y4), none, none, none] [] h (100 + 2 * y4.toNatClampNeg) (300000 + 1400 * y4.toNatClampNeg) := by
  unfold vb_L_1690 at hv
  obtain ⟨hy4, hv⟩ := hv
  refine j_aload_n C dL_law_1690 rfl ?_
  refine j_aload_n C dL_law_1691 rfl ?_
  refine j_iload C dL_law_1692 rfl ?_
  refine j_iconst (v := (1 : Int32)) C dL_law_1694 (by decide) ?_
  refine j_iadd C dL_law_1695 ?_
  obtain ⟨b393, hv⟩ := hv
  refine j_sld C hX b393 dL_law_1696 ?_
  refine j_aload_n C dL_law_1697 rfl ?_
  refine k_callSH C [vr u1, vi (xs (y4 + (1 : Int32)).toNatClampNeg), vr u3] ms_L_183 rfl (fun l D dA sz hl => s_L_every (by omega) hv l D dA sz hl) (fun _ _ q => q) rfl (by omega) (Nat.le_of_ble_eq_true rfl) (hlim _ _ (by omega) (by omega)) dL_law_1698 (fun v h394 hq => ?_)
  obtain ⟨v395, rfl, hv⟩ := qi_inv hq
  refine j_istore (lo' := [some (vr (some b)), some (vr u1), some (vr u2), some (vr u3), some (vi y4), some (vi v395), none, none]) C dL_law_1701 (Nat.le_of_ble_eq_true rfl) rfl ?_
  refine j_aload_n C dL_law_1703 rfl ?_
  refine j_aload_n C dL_law_1704 rfl ?_
  refine j_iload C dL_law_1705 rfl ?_
  refine j_iconst (v := (1 : Int32)) C dL_law_1707 (by decide) ?_
  refine j_iadd C dL_law_1708 ?_
  obtain ⟨b396, hv⟩ := hv
  refine j_sld C hX b396 dL_law_1709 ?_
  obtain ⟨a397, e398, hv⟩ := hv
  obtain ⟨g401, hv⟩ := hv
  refine k_callV C 6 [vi (xs (y4 + (1 : Int32)).toNatClampNeg)] mv_L_185 e398 rfl (fun l D dA sz hl => s_X7_every (by omega) hv l D dA sz hl) rfl rfl (by decide) g401 rfl (by omega) (Nat.le_of_ble_eq_true rfl) (hlim _ _ (by omega) (by omega)) dL_law_1710 (fun _ _ q => False.elim q) (fun v h399 hq => ?_)
  obtain ⟨v400, rfl, hv⟩ := qi_inv hq
  refine j_istore (lo' := [some (vr (some b)), some (vr u1), some (vr u2), some (vr u3), some (vi y4), some (vi v395), some (vi v400), none]) C dL_law_1713 (Nat.le_of_ble_eq_true rfl) rfl ?_
  refine j_aload_n C dL_law_1715 rfl ?_
  obtain ⟨g404, hv⟩ := hv
  refine k_callV C 6 [] mv_L_109 e398 rfl (fun l D dA sz hl => s_X7_thrown (by omega) hv l D dA sz hl) rfl rfl (by decide) g404 rfl (by omega) (Nat.le_of_ble_eq_true rfl) (hlim _ _ (by omega) (by omega)) dL_law_1716 (fun _ _ q => False.elim q) (fun v h402 hq => ?_)
  obtain ⟨v403, rfl, hv⟩ := qi_inv hq
  refine j_iload C dL_law_1719 rfl ?_
  refine j_icmp_eq (tgt := 1726) C dL_law_1721 (by decide) ⟨fun q411 => ?_, fun q411 => ?_⟩
  · have hv := hv.1 q411
    refine j_iload C dL_law_1726 rfl ?_
    refine j_if_ne (tgt := 1743) C dL_law_1728 (by decide) ⟨fun q410 => ?_, fun q410 => ?_⟩
    · have hv := hv.1 q410
      refine j_goto (tgt := 1857) C dL_law_1743 (by decide) ?_
      refine j_widen (k' := 110 + 2 * y4.toNatClampNeg) (n' := 307000 + 1400 * y4.toNatClampNeg) (by omega) (by omega) ?_
      exact j_sub (by exact (And.intro rfl (And.intro rfl (And.intro rfl (And.intro rfl (And.intro rfl trivial)))))) hv
    · have hv := hv.2 q410
      refine j_aload_n C dL_law_1731 rfl ?_
      refine j_iconst (v := (0 : Int32)) C dL_law_1732 (by decide) ?_
      obtain ⟨a405, e406, hv⟩ := hv
      obtain ⟨g407, hv⟩ := hv
      obtain ⟨b408, hv⟩ := hv
      refine k_lald (j := 0) C e406 g407 b408 (by decide) dL_law_1733 ?_
      refine j_iload C dL_law_1734 rfl ?_
      refine j_i2l C dL_law_1736 ?_
      refine j_lcmp C dL_law_1737 ?_
      refine j_if_eq (tgt := 1743) C dL_law_1738 (by decide) ⟨fun q409 => ?_, fun q409 => ?_⟩
      · have hv := hv.1 q409
        refine j_goto (tgt := 1857) C dL_law_1743 (by decide) ?_
        refine j_widen (k' := 110 + 2 * y4.toNatClampNeg) (n' := 307000 + 1400 * y4.toNatClampNeg) (by omega) (by omega) ?_
        exact j_sub (by exact (And.intro rfl (And.intro rfl (And.intro rfl (And.intro rfl (And.intro rfl trivial)))))) hv
      · have hv := hv.2 q409
        refine j_iconst (v := (0 : Int32)) C dL_law_1741 (by decide) ?_
        exact j_zret C (Or.inl rfl) dL_law_1742 (hlim _ _ (by omega) (by omega)) hv
  · have hv := hv.2 q411
    refine j_iconst (v := (0 : Int32)) C dL_law_1724 (by decide) ?_
    exact j_zret C (Or.inl rfl) dL_law_1725 (hlim _ _ (by omega) (by omega)) hv
set_option maxRecDepth 20000 in
set_option maxHeartbeats 2000000 in
theorem sb_L_1746 {G : Cx} {tb : List ExceptionTableEntry} {nm : String} {b L : Nat} {xs : Nat → Int32} {Q : Option AV ⊕ String → Hp → Prop} {h : Hp} (hg : glv G = 0) (hlim : ∀ k n, k ≤ 600000 → n ≤ 7000000 → lim G k n) (C : OK G cL_law 8 RL (some .boolean) tb nm) (hX : SC G b L xs) (hL : L ≤ 2562) {u1 : Option Nat} {u2 : Option Nat} {u3 : Option Nat} {y4 : Int32} (hv : vb_L_1746 L xs Q (fun u1 u2 u3 y4 h => J G Q 1857 [some (vr (some b)), some (vr u1), some (vr u2), some (vr u3), some (vi y4), none, none, none] [] h (110 + 2 * y4.toNatClampNeg) (307000 + 1400 * y4.toNatClampNeg)) u1 u2 u3 y4 h) : J G Q 1746 [some (vr (some b)), some (vr u1), some (vr u2), some (vr u3), some (vi y4), none, none, none] [] h (100 + 2 * y4.toNatClampNeg) (300000 + 1400 * y4.toNatClampNeg) := by
  unfold vb_L_1746 at hv
  obtain ⟨hy4, hv⟩ := hv
  refine j_aload_n C dL_law_1746 rfl ?_
  refine j_aload_n C dL_law_1747 rfl ?_
  refine j_iload C dL_law_1748 rfl ?_
  refine j_iconst (v := (1 : Int32)) C dL_law_1750 (by decide) ?_
  refine j_iadd C dL_law_1751 ?_
  obtain ⟨b412, hv⟩ := hv
  refine j_sld C hX b412 dL_law_1752 ?_
  refine j_aload_n C dL_law_1753 rfl ?_
  refine k_callSH C [vr u1, vi (xs (y4 + (1 : Int32)).toNatClampNeg), vr u3] ms_L_186 rfl (fun l D dA sz hl => s_L_count (by omega) hv l D dA sz hl) (fun _ _ q => q) rfl (by omega) (Nat.le_of_ble_eq_true rfl) (hlim _ _ (by omega) (by omega)) dL_law_1754 (fun v h413 hq => ?_)
  obtain ⟨v414, rfl, hv⟩ := qi_inv hq
  refine j_istore (lo' := [some (vr (some b)), some (vr u1), some (vr u2), some (vr u3), some (vi y4), some (vi v414), none, none]) C dL_law_1757 (Nat.le_of_ble_eq_true rfl) rfl ?_
  refine j_aload_n C dL_law_1759 rfl ?_
  refine j_aload_n C dL_law_1760 rfl ?_
  refine j_iload C dL_law_1761 rfl ?_
  refine j_iconst (v := (1 : Int32)) C dL_law_1763 (by decide) ?_
  refine j_iadd C dL_law_1764 ?_
  obtain ⟨b415, hv⟩ := hv
  refine j_sld C hX b415 dL_law_1765 ?_
  obtain ⟨a416, e417, hv⟩ := hv
  obtain ⟨g420, hv⟩ := hv
  refine k_callV C 6 [vi (xs (y4 + (1 : Int32)).toNatClampNeg)] mv_L_188 e417 rfl (fun l D dA sz hl => s_X7_count (by omega) hv l D dA sz hl) rfl rfl (by decide) g420 rfl (by omega) (Nat.le_of_ble_eq_true rfl) (hlim _ _ (by omega) (by omega)) dL_law_1766 (fun _ _ q => False.elim q) (fun v h418 hq => ?_)
  obtain ⟨v419, rfl, hv⟩ := qi_inv hq
  refine j_istore (lo' := [some (vr (some b)), some (vr u1), some (vr u2), some (vr u3), some (vi y4), some (vi v414), some (vi v419), none]) C dL_law_1769 (Nat.le_of_ble_eq_true rfl) rfl ?_
  refine j_aload_n C dL_law_1771 rfl ?_
  obtain ⟨g423, hv⟩ := hv
  refine k_callV C 6 [] mv_L_109 e417 rfl (fun l D dA sz hl => s_X7_thrown (by omega) hv l D dA sz hl) rfl rfl (by decide) g423 rfl (by omega) (Nat.le_of_ble_eq_true rfl) (hlim _ _ (by omega) (by omega)) dL_law_1772 (fun _ _ q => False.elim q) (fun v h421 hq => ?_)
  obtain ⟨v422, rfl, hv⟩ := qi_inv hq
  refine j_iload C dL_law_1775 rfl ?_
  refine j_icmp_eq (tgt := 1782) C dL_law_1777 (by decide) ⟨fun q430 => ?_, fun q430 => ?_⟩
  · have hv := hv.1 q430
    refine j_iload C dL_law_1782 rfl ?_
    refine j_if_ne (tgt := 1799) C dL_law_1784 (by decide) ⟨fun q429 => ?_, fun q429 => ?_⟩
    · have hv := hv.1 q429
      refine j_goto (tgt := 1857) C dL_law_1799 (by decide) ?_
      refine j_widen (k' := 110 + 2 * y4.toNatClampNeg) (n' := 307000 + 1400 * y4.toNatClampNeg) (by omega) (by omega) ?_
      exact j_sub (by exact (And.intro rfl (And.intro rfl (And.intro rfl (And.intro rfl (And.intro rfl trivial)))))) hv
    · have hv := hv.2 q429
      refine j_aload_n C dL_law_1787 rfl ?_
      refine j_iconst (v := (0 : Int32)) C dL_law_1788 (by decide) ?_
      obtain ⟨a424, e425, hv⟩ := hv
      obtain ⟨g426, hv⟩ := hv
      obtain ⟨b427, hv⟩ := hv
      refine k_lald (j := 0) C e425 g426 b427 (by decide) dL_law_1789 ?_
      refine j_iload C dL_law_1790 rfl ?_
      refine j_i2l C dL_law_1792 ?_
      refine j_lcmp C dL_law_1793 ?_
      refine j_if_eq (tgt := 1799) C dL_law_1794 (by decide) ⟨fun q428 => ?_, fun q428 => ?_⟩
      · have hv := hv.1 q428
        refine j_goto (tgt := 1857) C dL_law_1799 (by decide) ?_
        refine j_widen (k' := 110 + 2 * y4.toNatClampNeg) (n' := 307000 + 1400 * y4.toNatClampNeg) (by omega) (by omega) ?_
        exact j_sub (by exact (And.intro rfl (And.intro rfl (And.intro rfl (And.intro rfl (And.intro rfl trivial)))))) hv
      · have hv := hv.2 q428
        refine j_iconst (v := (0 : Int32)) C dL_law_1797 (by decide) ?_
        exact j_zret C (Or.inl rfl) dL_law_1798 (hlim _ _ (by omega) (by omega)) hv
  · have hv := hv.2 q430
    refine j_iconst (v := (0 : Int32)) C dL_law_1780 (by decide) ?_
    exact j_zret C (Or.inl rfl) dL_law_1781 (hlim _ _ (by omega) (by omega)) hv
set_option maxRecDepth 20000 in
set_option maxHeartbeats 2000000 in
theorem sb_L_1802 {G : Cx} {tb : List ExceptionTableEntry} {nm : String} {b L : Nat} {xs : Nat → Int32} {Q : Option AV ⊕ String → Hp → Prop} {h : Hp} (hg : glv G = 0) (hlim : ∀ k n, k ≤ 600000 → n ≤ 7000000 → lim G k n) (C : OK G cL_law 8 RL (some .boolean) tb nm) (hX : SC G b L xs) (hL : L ≤ 2562) {u1 : Option Nat} {u2 : Option Nat} {u3 : Option Nat} {y4 : Int32} (hv : vb_L_1802 L xs Q (fun u1 u2 u3 y4 h => J G Q 1857 [some (vr (some b)), some (vr u1), some (vr u2), some (vr u3), some (vi y4), none, none, none] [] h (110 + 2 * y4.toNatClampNeg) (307000 + 1400 * y4.toNatClampNeg)) u1 u2 u3 y4 h) : J G Q 1802 [some (vr (some b)), some (vr u1), some (vr u2), some (vr u3), some (vi y4), none, none, none] [] h (100 + 2 * y4.toNatClampNeg) (300000 + 1400 * y4.toNatClampNeg) := by
  unfold vb_L_1802 at hv
  obtain ⟨hy4, hv⟩ := hv
  refine j_aload_n C dL_law_1802 rfl ?_
  refine j_aload_n C dL_law_1803 rfl ?_
  refine j_iload C dL_law_1804 rfl ?_
  refine j_iconst (v := (1 : Int32)) C dL_law_1806 (by decide) ?_
  refine j_iadd C dL_law_1807 ?_
  obtain ⟨b431, hv⟩ := hv
  refine j_sld C hX b431 dL_law_1808 ?_
  refine j_aload_n C dL_law_1809 rfl ?_
  refine k_callSH C [vr u1, vi (xs (y4 + (1 : Int32)).toNatClampNeg), vr u3] ms_L_189 rfl (fun l D dA sz hl => s_L_digest (by omega) hv l D dA sz hl) (fun _ _ q => q) rfl (by omega) (Nat.le_of_ble_eq_true rfl) (hlim _ _ (by omega) (by omega)) dL_law_1810 (fun v h432 hq => ?_)
  obtain ⟨v433, rfl, hv⟩ := qi_inv hq
  refine j_istore (lo' := [some (vr (some b)), some (vr u1), some (vr u2), some (vr u3), some (vi y4), some (vi v433), none, none]) C dL_law_1813 (Nat.le_of_ble_eq_true rfl) rfl ?_
  refine j_aload_n C dL_law_1815 rfl ?_
  refine j_aload_n C dL_law_1816 rfl ?_
  refine j_iload C dL_law_1817 rfl ?_
  refine j_iconst (v := (1 : Int32)) C dL_law_1819 (by decide) ?_
  refine j_iadd C dL_law_1820 ?_
  obtain ⟨b434, hv⟩ := hv
  refine j_sld C hX b434 dL_law_1821 ?_
  obtain ⟨a435, e436, hv⟩ := hv
  obtain ⟨g439, hv⟩ := hv
  refine k_callV C 6 [vi (xs (y4 + (1 : Int32)).toNatClampNeg)] mv_L_191 e436 rfl (fun l D dA sz hl => s_X7_digest (by omega) hv l D dA sz hl) rfl rfl (by decide) g439 rfl (by omega) (Nat.le_of_ble_eq_true rfl) (hlim _ _ (by omega) (by omega)) dL_law_1822 (fun _ _ q => False.elim q) (fun v h437 hq => ?_)
  obtain ⟨v438, rfl, hv⟩ := ql_inv hq
  refine j_lstore (lo' := [some (vr (some b)), some (vr u1), some (vr u2), some (vr u3), some (vi y4), some (vi v433), some (vl v438), none]) C dL_law_1825 (Nat.le_of_ble_eq_true rfl) rfl ?_
  refine j_aload_n C dL_law_1827 rfl ?_
  obtain ⟨g442, hv⟩ := hv
  refine k_callV C 6 [] mv_L_109 e436 rfl (fun l D dA sz hl => s_X7_thrown (by omega) hv l D dA sz hl) rfl rfl (by decide) g442 rfl (by omega) (Nat.le_of_ble_eq_true rfl) (hlim _ _ (by omega) (by omega)) dL_law_1828 (fun _ _ q => False.elim q) (fun v h440 hq => ?_)
  obtain ⟨v441, rfl, hv⟩ := qi_inv hq
  refine j_iload C dL_law_1831 rfl ?_
  refine j_icmp_eq (tgt := 1838) C dL_law_1833 (by decide) ⟨fun q449 => ?_, fun q449 => ?_⟩
  · have hv := hv.1 q449
    refine j_iload C dL_law_1838 rfl ?_
    refine j_if_ne (tgt := 1854) C dL_law_1840 (by decide) ⟨fun q448 => ?_, fun q448 => ?_⟩
    · have hv := hv.1 q448
      refine j_goto (tgt := 1857) C dL_law_1854 (by decide) ?_
      refine j_widen (k' := 110 + 2 * y4.toNatClampNeg) (n' := 307000 + 1400 * y4.toNatClampNeg) (by omega) (by omega) ?_
      exact j_sub (by exact (And.intro rfl (And.intro rfl (And.intro rfl (And.intro rfl (And.intro rfl trivial)))))) hv
    · have hv := hv.2 q448
      refine j_aload_n C dL_law_1843 rfl ?_
      refine j_iconst (v := (0 : Int32)) C dL_law_1844 (by decide) ?_
      obtain ⟨a443, e444, hv⟩ := hv
      obtain ⟨g445, hv⟩ := hv
      obtain ⟨b446, hv⟩ := hv
      refine k_lald (j := 0) C e444 g445 b446 (by decide) dL_law_1845 ?_
      refine j_lload C dL_law_1846 rfl ?_
      refine j_lcmp C dL_law_1848 ?_
      refine j_if_eq (tgt := 1854) C dL_law_1849 (by decide) ⟨fun q447 => ?_, fun q447 => ?_⟩
      · have hv := hv.1 q447
        refine j_goto (tgt := 1857) C dL_law_1854 (by decide) ?_
        refine j_widen (k' := 110 + 2 * y4.toNatClampNeg) (n' := 307000 + 1400 * y4.toNatClampNeg) (by omega) (by omega) ?_
        exact j_sub (by exact (And.intro rfl (And.intro rfl (And.intro rfl (And.intro rfl (And.intro rfl trivial)))))) hv
      · have hv := hv.2 q447
        refine j_iconst (v := (0 : Int32)) C dL_law_1852 (by decide) ?_
        exact j_zret C (Or.inl rfl) dL_law_1853 (hlim _ _ (by omega) (by omega)) hv
  · have hv := hv.2 q449
    refine j_iconst (v := (0 : Int32)) C dL_law_1836 (by decide) ?_
    exact j_zret C (Or.inl rfl) dL_law_1837 (hlim _ _ (by omega) (by omega)) hv
set_option maxRecDepth 20000 in
set_option maxHeartbeats 2000000 in
theorem sb_L_1857 {G : Cx} {tb : List ExceptionTableEntry} {nm : String} {b L : Nat} {xs : Nat → Int32} {Q : Option AV ⊕ String → Hp → Prop} {h : Hp} (hg : glv G = 0) (hlim : ∀ k n, k ≤ 600000 → n ≤ 7000000 → lim G k n) (C : OK G cL_law 8 RL (some .boolean) tb nm) (hX : SC G b L xs) (hL : L ≤ 2562) {u1 : Option Nat} {u2 : Option Nat} {u3 : Option Nat} {y4 : Int32} (hv : vb_L_1857 L xs Q (fun u1 u2 u3 y4 h => J G Q 43 [some (vr (some b)), some (vr u1), some (vr u2), some (vr u3), some (vi y4), none, none, none] [] h (100 + 2 * y4.toNatClampNeg) (300000 + 1400 * y4.toNatClampNeg)) u1 u2 u3 y4 h) : J G Q 1857 [some (vr (some b)), some (vr u1), some (vr u2), some (vr u3), some (vi y4), none, none, none] [] h (110 + 2 * y4.toNatClampNeg) (307000 + 1400 * y4.toNatClampNeg) := by
  unfold vb_L_1857 at hv
  obtain ⟨hy4, hv⟩ := hv
  refine j_iinc (v := y4 + 5) (lo' := [some (vr (some b)), some (vr u1), some (vr u2), some (vr u3), some (vi (y4 + 5)), none, none, none]) C dL_law_1857 rfl rfl rfl ?_
  refine j_goto (tgt := 43) C dL_law_1860 (by decide) ?_
  obtain ⟨z450, hv⟩ := hv
  refine j_widen (k' := 100 + 2 * (y4 + 5).toNatClampNeg) (n' := 300000 + 1400 * (y4 + 5).toNatClampNeg) (by omega) (by omega) ?_
  exact j_sub (by exact (And.intro rfl (And.intro rfl (And.intro rfl (And.intro rfl (And.intro rfl trivial)))))) hv
set_option maxRecDepth 20000 in
set_option maxHeartbeats 2000000 in
theorem sb_L_275 {G : Cx} {tb : List ExceptionTableEntry} {nm : String} {b L : Nat} {xs : Nat → Int32} {Q : Option AV ⊕ String → Hp → Prop} {h : Hp} (hg : glv G = 0) (hlim : ∀ k n, k ≤ 600000 → n ≤ 7000000 → lim G k n) (C : OK G cL_law 8 RL (some .boolean) tb nm) (hX : SC G b L xs) (hL : L ≤ 2562) {u1 : Option Nat} {u2 : Option Nat} {u3 : Option Nat} {y4 : Int32} {w0 : Int32} {w1 : Int32} {w2 : Int32} {v3 : Option Nat} (hv : vb_L_275 L xs Q (fun u1 u2 u3 y4 y5 w0 w1 w2 v3 h => J G Q 308 [some (vr (some b)), some (vr u1), some (vr u2), some (vr u3), some (vi y4), some (vi y5), none, none] [vi w0, vi w1, vi w2, vr v3] h (105 + 2 * y4.toNatClampNeg) (306022 + 1400 * y4.toNatClampNeg)) u1 u2 u3 y4 w0 w1 w2 v3 h) : J G Q 275 [some (vr (some b)), some (vr u1), some (vr u2), some (vr u3), some (vi y4), none, none, none] [vi w0, vi w1, vi w2, vr v3] h (100 + 2 * y4.toNatClampNeg) (300000 + 1400 * y4.toNatClampNeg) := by
  unfold vb_L_275 at hv
  obtain ⟨hy4, hv⟩ := hv
  refine j_aload_n C dL_law_275 rfl ?_
  refine k_callSH C [vr v3, vi w2, vi w1, vi w0, vr u3] ms_L_112 rfl (fun l D dA sz hl => s_L_row (by omega) hv l D dA sz hl) (fun _ _ q => q) rfl (by omega) (Nat.le_of_ble_eq_true rfl) (hlim _ _ (by omega) (by omega)) dL_law_276 (fun v h451 hq => ?_)
  obtain ⟨v452, rfl, hv⟩ := qi_inv hq
  refine j_istore (lo' := [some (vr (some b)), some (vr u1), some (vr u2), some (vr u3), some (vi y4), some (vi v452), none, none]) C dL_law_279 (Nat.le_of_ble_eq_true rfl) rfl ?_
  refine j_aload_n C dL_law_281 rfl ?_
  refine j_aload_n C dL_law_282 rfl ?_
  refine j_iload C dL_law_283 rfl ?_
  refine j_iconst (v := (1 : Int32)) C dL_law_285 (by decide) ?_
  refine j_iadd C dL_law_286 ?_
  obtain ⟨b453, hv⟩ := hv
  refine j_sld C hX b453 dL_law_287 ?_
  refine j_aload_n C dL_law_288 rfl ?_
  refine j_iload C dL_law_289 rfl ?_
  refine j_iconst (v := (2 : Int32)) C dL_law_291 (by decide) ?_
  refine j_iadd C dL_law_292 ?_
  obtain ⟨b454, hv⟩ := hv
  refine j_sld C hX b454 dL_law_293 ?_
  refine j_aload_n C dL_law_294 rfl ?_
  refine j_iload C dL_law_295 rfl ?_
  refine j_iconst (v := (3 : Int32)) C dL_law_297 (by decide) ?_
  refine j_iadd C dL_law_298 ?_
  obtain ⟨b455, hv⟩ := hv
  refine j_sld C hX b455 dL_law_299 ?_
  refine j_if_eq (tgt := 307) C dL_law_300 (by decide) ⟨fun q456 => ?_, fun q456 => ?_⟩
  · have hv := hv.1 q456
    refine j_iconst (v := (0 : Int32)) C dL_law_307 (by decide) ?_
    refine j_widen (k' := 105 + 2 * y4.toNatClampNeg) (n' := 306022 + 1400 * y4.toNatClampNeg) (by omega) (by omega) ?_
    exact j_sub (by exact (And.intro rfl (And.intro rfl (And.intro rfl (And.intro rfl (And.intro rfl (And.intro rfl trivial))))))) hv
  · have hv := hv.2 q456
    refine j_iconst (v := (1 : Int32)) C dL_law_303 (by decide) ?_
    refine j_goto (tgt := 308) C dL_law_304 (by decide) ?_
    refine j_widen (k' := 105 + 2 * y4.toNatClampNeg) (n' := 306022 + 1400 * y4.toNatClampNeg) (by omega) (by omega) ?_
    exact j_sub (by exact (And.intro rfl (And.intro rfl (And.intro rfl (And.intro rfl (And.intro rfl (And.intro rfl trivial))))))) hv
set_option maxRecDepth 20000 in
set_option maxHeartbeats 2000000 in
theorem sb_L_1017 {G : Cx} {tb : List ExceptionTableEntry} {nm : String} {b L : Nat} {xs : Nat → Int32} {Q : Option AV ⊕ String → Hp → Prop} {h : Hp} (hg : glv G = 0) (hlim : ∀ k n, k ≤ 600000 → n ≤ 7000000 → lim G k n) (C : OK G cL_law 8 RL (some .boolean) tb nm) (hX : SC G b L xs) (hL : L ≤ 2562) {u1 : Option Nat} {u2 : Option Nat} {u3 : Option Nat} {y4 : Int32} {w0 : Int32} {w1 : Int32} {w2 : Int32} {v3 : Option Nat} (hv : vb_L_1017 L xs Q (fun u1 u2 u3 y4 y5 w0 w1 w2 v3 h => J G Q 1050 [some (vr (some b)), some (vr u1), some (vr u2), some (vr u3), some (vi y4), some (vi y5), none, none] [vi w0, vi w1, vi w2, vr v3] h (104 + 2 * y4.toNatClampNeg) (300024 + 1400 * y4.toNatClampNeg)) u1 u2 u3 y4 w0 w1 w2 v3 h) : J G Q 1017 [some (vr (some b)), some (vr u1), some (vr u2), some (vr u3), some (vi y4), none, none, none] [vi w0, vi w1, vi w2, vr v3] h (100 + 2 * y4.toNatClampNeg) (300000 + 1400 * y4.toNatClampNeg) := by
  unfold vb_L_1017 at hv
  obtain ⟨hy4, hv⟩ := hv
  refine j_aload_n C dL_law_1017 rfl ?_
  refine k_callSH C [vr v3, vi w2, vi w1, vi w0, vr u3] ms_L_146 rfl (fun l D dA sz hl => s_L_referent (by omega) hv l D dA sz hl) (fun _ _ q => q) rfl (by omega) (Nat.le_of_ble_eq_true rfl) (hlim _ _ (by omega) (by omega)) dL_law_1018 (fun v h457 hq => ?_)
  obtain ⟨v458, rfl, hv⟩ := qi_inv hq
  refine j_istore (lo' := [some (vr (some b)), some (vr u1), some (vr u2), some (vr u3), some (vi y4), some (vi v458), none, none]) C dL_law_1021 (Nat.le_of_ble_eq_true rfl) rfl ?_
  refine j_aload_n C dL_law_1023 rfl ?_
  refine j_aload_n C dL_law_1024 rfl ?_
  refine j_iload C dL_law_1025 rfl ?_
  refine j_iconst (v := (1 : Int32)) C dL_law_1027 (by decide) ?_
  refine j_iadd C dL_law_1028 ?_
  obtain ⟨b459, hv⟩ := hv
  refine j_sld C hX b459 dL_law_1029 ?_
  refine j_aload_n C dL_law_1030 rfl ?_
  refine j_iload C dL_law_1031 rfl ?_
  refine j_iconst (v := (2 : Int32)) C dL_law_1033 (by decide) ?_
  refine j_iadd C dL_law_1034 ?_
  obtain ⟨b460, hv⟩ := hv
  refine j_sld C hX b460 dL_law_1035 ?_
  refine j_aload_n C dL_law_1036 rfl ?_
  refine j_iload C dL_law_1037 rfl ?_
  refine j_iconst (v := (3 : Int32)) C dL_law_1039 (by decide) ?_
  refine j_iadd C dL_law_1040 ?_
  obtain ⟨b461, hv⟩ := hv
  refine j_sld C hX b461 dL_law_1041 ?_
  refine j_if_eq (tgt := 1049) C dL_law_1042 (by decide) ⟨fun q462 => ?_, fun q462 => ?_⟩
  · have hv := hv.1 q462
    refine j_iconst (v := (0 : Int32)) C dL_law_1049 (by decide) ?_
    refine j_widen (k' := 104 + 2 * y4.toNatClampNeg) (n' := 300024 + 1400 * y4.toNatClampNeg) (by omega) (by omega) ?_
    exact j_sub (by exact (And.intro rfl (And.intro rfl (And.intro rfl (And.intro rfl (And.intro rfl (And.intro rfl trivial))))))) hv
  · have hv := hv.2 q462
    refine j_iconst (v := (1 : Int32)) C dL_law_1045 (by decide) ?_
    refine j_goto (tgt := 1050) C dL_law_1046 (by decide) ?_
    refine j_widen (k' := 104 + 2 * y4.toNatClampNeg) (n' := 300024 + 1400 * y4.toNatClampNeg) (by omega) (by omega) ?_
    exact j_sub (by exact (And.intro rfl (And.intro rfl (And.intro rfl (And.intro rfl (And.intro rfl (And.intro rfl trivial))))))) hv
set_option maxRecDepth 20000 in
set_option maxHeartbeats 2000000 in
theorem sb_L_1175 {G : Cx} {tb : List ExceptionTableEntry} {nm : String} {b L : Nat} {xs : Nat → Int32} {Q : Option AV ⊕ String → Hp → Prop} {h : Hp} (hg : glv G = 0) (hlim : ∀ k n, k ≤ 600000 → n ≤ 7000000 → lim G k n) (C : OK G cL_law 8 RL (some .boolean) tb nm) (hX : SC G b L xs) (hL : L ≤ 2562) {u1 : Option Nat} {u2 : Option Nat} {u3 : Option Nat} {y4 : Int32} {w0 : Int32} {w1 : Int32} {v2 : Option Nat} (hv : vb_L_1175 L xs Q (fun u1 u2 u3 y4 y5 w0 w1 v2 h => J G Q 1202 [some (vr (some b)), some (vr u1), some (vr u2), some (vr u3), some (vi y4), some (vi y5), none, none] [vi w0, vi w1, vr v2] h (102 + 2 * y4.toNatClampNeg) (300012 + 1400 * y4.toNatClampNeg)) u1 u2 u3 y4 w0 w1 v2 h) : J G Q 1175 [some (vr (some b)), some (vr u1), some (vr u2), some (vr u3), some (vi y4), none, none, none] [vi w0, vi w1, vr v2] h (100 + 2 * y4.toNatClampNeg) (300000 + 1400 * y4.toNatClampNeg) := by
  unfold vb_L_1175 at hv
  obtain ⟨hy4, hv⟩ := hv
  refine j_aload_n C dL_law_1175 rfl ?_
  refine k_callSH C [vr v2, vi w1, vi w0, vr u3] ms_L_152 rfl (fun l D dA sz hl => s_L_clear (by omega) hv l D dA sz hl) (fun _ _ q => q) rfl (by omega) (Nat.le_of_ble_eq_true rfl) (hlim _ _ (by omega) (by omega)) dL_law_1176 (fun v h463 hq => ?_)
  obtain ⟨v464, rfl, hv⟩ := qi_inv hq
  refine j_istore (lo' := [some (vr (some b)), some (vr u1), some (vr u2), some (vr u3), some (vi y4), some (vi v464), none, none]) C dL_law_1179 (Nat.le_of_ble_eq_true rfl) rfl ?_
  refine j_aload_n C dL_law_1181 rfl ?_
  refine j_aload_n C dL_law_1182 rfl ?_
  refine j_iload C dL_law_1183 rfl ?_
  refine j_iconst (v := (1 : Int32)) C dL_law_1185 (by decide) ?_
  refine j_iadd C dL_law_1186 ?_
  obtain ⟨b465, hv⟩ := hv
  refine j_sld C hX b465 dL_law_1187 ?_
  refine j_aload_n C dL_law_1188 rfl ?_
  refine j_iload C dL_law_1189 rfl ?_
  refine j_iconst (v := (2 : Int32)) C dL_law_1191 (by decide) ?_
  refine j_iadd C dL_law_1192 ?_
  obtain ⟨b466, hv⟩ := hv
  refine j_sld C hX b466 dL_law_1193 ?_
  refine j_if_eq (tgt := 1201) C dL_law_1194 (by decide) ⟨fun q467 => ?_, fun q467 => ?_⟩
  · have hv := hv.1 q467
    refine j_iconst (v := (0 : Int32)) C dL_law_1201 (by decide) ?_
    refine j_widen (k' := 102 + 2 * y4.toNatClampNeg) (n' := 300012 + 1400 * y4.toNatClampNeg) (by omega) (by omega) ?_
    exact j_sub (by exact (And.intro rfl (And.intro rfl (And.intro rfl (And.intro rfl (And.intro rfl (And.intro rfl trivial))))))) hv
  · have hv := hv.2 q467
    refine j_iconst (v := (1 : Int32)) C dL_law_1197 (by decide) ?_
    refine j_goto (tgt := 1202) C dL_law_1198 (by decide) ?_
    refine j_widen (k' := 102 + 2 * y4.toNatClampNeg) (n' := 300012 + 1400 * y4.toNatClampNeg) (by omega) (by omega) ?_
    exact j_sub (by exact (And.intro rfl (And.intro rfl (And.intro rfl (And.intro rfl (And.intro rfl (And.intro rfl trivial))))))) hv
set_option maxRecDepth 20000 in
set_option maxHeartbeats 2000000 in
theorem sb_L_1540 {G : Cx} {tb : List ExceptionTableEntry} {nm : String} {b L : Nat} {xs : Nat → Int32} {Q : Option AV ⊕ String → Hp → Prop} {h : Hp} (hg : glv G = 0) (hlim : ∀ k n, k ≤ 600000 → n ≤ 7000000 → lim G k n) (C : OK G cL_law 8 RL (some .boolean) tb nm) (hX : SC G b L xs) (hL : L ≤ 2562) {u1 : Option Nat} {u2 : Option Nat} {u3 : Option Nat} {y4 : Int32} {s0 : Int64} {s1 : Int64} (hv : vb_L_1540 L xs Q (fun u1 u2 u3 y4 h => J G Q 1857 [some (vr (some b)), some (vr u1), some (vr u2), some (vr u3), some (vi y4), none, none, none] [] h (110 + 2 * y4.toNatClampNeg) (307000 + 1400 * y4.toNatClampNeg)) u1 u2 u3 y4 s0 s1 h) : J G Q 1540 [some (vr (some b)), some (vr u1), some (vr u2), some (vr u3), some (vi y4), none, none, none] [vl s0, vl s1] h (102 + 2 * y4.toNatClampNeg) (300012 + 1400 * y4.toNatClampNeg) := by
  unfold vb_L_1540 at hv
  obtain ⟨hy4, hv⟩ := hv
  refine j_lcmp C dL_law_1540 ?_
  refine j_if_eq (tgt := 1546) C dL_law_1541 (by decide) ⟨fun q468 => ?_, fun q468 => ?_⟩
  · have hv := hv.1 q468
    refine j_goto (tgt := 1857) C dL_law_1546 (by decide) ?_
    refine j_widen (k' := 110 + 2 * y4.toNatClampNeg) (n' := 307000 + 1400 * y4.toNatClampNeg) (by omega) (by omega) ?_
    exact j_sub (by exact (And.intro rfl (And.intro rfl (And.intro rfl (And.intro rfl (And.intro rfl trivial)))))) hv
  · have hv := hv.2 q468
    refine j_iconst (v := (0 : Int32)) C dL_law_1544 (by decide) ?_
    exact j_zret C (Or.inl rfl) dL_law_1545 (hlim _ _ (by omega) (by omega)) hv
set_option maxRecDepth 20000 in
set_option maxHeartbeats 2000000 in
theorem sb_L_1664 {G : Cx} {tb : List ExceptionTableEntry} {nm : String} {b L : Nat} {xs : Nat → Int32} {Q : Option AV ⊕ String → Hp → Prop} {h : Hp} (hg : glv G = 0) (hlim : ∀ k n, k ≤ 600000 → n ≤ 7000000 → lim G k n) (C : OK G cL_law 8 RL (some .boolean) tb nm) (hX : SC G b L xs) (hL : L ≤ 2562) {u1 : Option Nat} {u2 : Option Nat} {u3 : Option Nat} {y4 : Int32} {w0 : Int32} {v1 : Option Nat} (hv : vb_L_1664 L xs Q (fun u1 u2 u3 y4 w0 v1 w2 h => J G Q 1682 [some (vr (some b)), some (vr u1), some (vr u2), some (vr u3), some (vi y4), none, none, none] [vi w0, vr v1, vi w2] h (100 + 2 * y4.toNatClampNeg) (300000 + 1400 * y4.toNatClampNeg)) u1 u2 u3 y4 w0 v1 h) : J G Q 1664 [some (vr (some b)), some (vr u1), some (vr u2), some (vr u3), some (vi y4), none, none, none] [vi w0, vr v1] h (100 + 2 * y4.toNatClampNeg) (300000 + 1400 * y4.toNatClampNeg) := by
  unfold vb_L_1664 at hv
  obtain ⟨hy4, hv⟩ := hv
  obtain ⟨a469, e470, hv⟩ := hv
  obtain ⟨g473, hv⟩ := hv
  refine k_callV C 5 [vi w0] mv_L_178 e470 rfl (fun l D dA sz hl => s_X6_collect (by omega) hv l D dA sz hl) rfl rfl (by decide) g473 rfl (by omega) (Nat.le_of_ble_eq_true rfl) (hlim _ _ (by omega) (by omega)) dL_law_1664 (fun _ _ q => False.elim q) (fun v h471 hq => ?_)
  obtain ⟨v472, rfl, hv⟩ := qi_inv hq
  refine j_aload_n C dL_law_1667 rfl ?_
  refine j_aload_n C dL_law_1668 rfl ?_
  refine j_iload C dL_law_1669 rfl ?_
  refine j_iconst (v := (1 : Int32)) C dL_law_1671 (by decide) ?_
  refine j_iadd C dL_law_1672 ?_
  obtain ⟨b474, hv⟩ := hv
  refine j_sld C hX b474 dL_law_1673 ?_
  refine j_if_eq (tgt := 1681) C dL_law_1674 (by decide) ⟨fun q475 => ?_, fun q475 => ?_⟩
  · have hv := hv.1 q475
    refine j_iconst (v := (0 : Int32)) C dL_law_1681 (by decide) ?_
    refine j_widen (k' := 100 + 2 * y4.toNatClampNeg) (n' := 300000 + 1400 * y4.toNatClampNeg) (by omega) (by omega) ?_
    exact j_sub (by exact (And.intro rfl (And.intro rfl (And.intro rfl (And.intro rfl (And.intro rfl trivial)))))) hv
  · have hv := hv.2 q475
    refine j_iconst (v := (1 : Int32)) C dL_law_1677 (by decide) ?_
    refine j_goto (tgt := 1682) C dL_law_1678 (by decide) ?_
    refine j_widen (k' := 100 + 2 * y4.toNatClampNeg) (n' := 300000 + 1400 * y4.toNatClampNeg) (by omega) (by omega) ?_
    exact j_sub (by exact (And.intro rfl (And.intro rfl (And.intro rfl (And.intro rfl (And.intro rfl trivial)))))) hv
set_option maxRecDepth 20000 in
set_option maxHeartbeats 2000000 in
theorem sb_L_308 {G : Cx} {tb : List ExceptionTableEntry} {nm : String} {b L : Nat} {xs : Nat → Int32} {Q : Option AV ⊕ String → Hp → Prop} {h : Hp} (hg : glv G = 0) (hlim : ∀ k n, k ≤ 600000 → n ≤ 7000000 → lim G k n) (C : OK G cL_law 8 RL (some .boolean) tb nm) (hX : SC G b L xs) (hL : L ≤ 2562) {u1 : Option Nat} {u2 : Option Nat} {u3 : Option Nat} {y4 : Int32} {y5 : Int32} {w0 : Int32} {w1 : Int32} {w2 : Int32} {v3 : Option Nat} (hv : vb_L_308 L xs Q (fun u1 u2 u3 y4 h => J G Q 1857 [some (vr (some b)), some (vr u1), some (vr u2), some (vr u3), some (vi y4), none, none, none] [] h (110 + 2 * y4.toNatClampNeg) (307000 + 1400 * y4.toNatClampNeg)) u1 u2 u3 y4 y5 w0 w1 w2 v3 h) : J G Q 308 [some (vr (some b)), some (vr u1), some (vr u2), some (vr u3), some (vi y4), some (vi y5), none, none] [vi w0, vi w1, vi w2, vr v3] h (105 + 2 * y4.toNatClampNeg) (306022 + 1400 * y4.toNatClampNeg) := by
  unfold vb_L_308 at hv
  obtain ⟨hy4, hv⟩ := hv
  obtain ⟨a476, e477, hv⟩ := hv
  obtain ⟨g480, hv⟩ := hv
  refine k_callV C 6 [vi w2, vi w1, vi w0] mv_L_115 e477 rfl (fun l D dA sz hl => s_X7_row (by omega) hv l D dA sz hl) rfl rfl (by decide) g480 rfl (by omega) (Nat.le_of_ble_eq_true rfl) (hlim _ _ (by omega) (by omega)) dL_law_308 (fun _ _ q => False.elim q) (fun v h478 hq => ?_)
  obtain ⟨v479, rfl, hv⟩ := qi_inv hq
  refine j_istore (lo' := [some (vr (some b)), some (vr u1), some (vr u2), some (vr u3), some (vi y4), some (vi y5), some (vi v479), none]) C dL_law_311 (Nat.le_of_ble_eq_true rfl) rfl ?_
  refine j_aload_n C dL_law_313 rfl ?_
  obtain ⟨a481, e482, hv⟩ := hv
  obtain ⟨g485, hv⟩ := hv
  refine k_callV C 6 [] mv_L_109 e482 rfl (fun l D dA sz hl => s_X7_thrown (by omega) hv l D dA sz hl) rfl rfl (by decide) g485 rfl (by omega) (Nat.le_of_ble_eq_true rfl) (hlim _ _ (by omega) (by omega)) dL_law_314 (fun _ _ q => False.elim q) (fun v h483 hq => ?_)
  obtain ⟨v484, rfl, hv⟩ := qi_inv hq
  refine j_iload C dL_law_317 rfl ?_
  refine j_icmp_eq (tgt := 324) C dL_law_319 (by decide) ⟨fun q492 => ?_, fun q492 => ?_⟩
  · have hv := hv.1 q492
    refine j_iload C dL_law_324 rfl ?_
    refine j_if_ne (tgt := 341) C dL_law_326 (by decide) ⟨fun q491 => ?_, fun q491 => ?_⟩
    · have hv := hv.1 q491
      refine j_goto (tgt := 1857) C dL_law_341 (by decide) ?_
      refine j_widen (k' := 110 + 2 * y4.toNatClampNeg) (n' := 307000 + 1400 * y4.toNatClampNeg) (by omega) (by omega) ?_
      exact j_sub (by exact (And.intro rfl (And.intro rfl (And.intro rfl (And.intro rfl (And.intro rfl trivial)))))) hv
    · have hv := hv.2 q491
      refine j_aload_n C dL_law_329 rfl ?_
      refine j_iconst (v := (0 : Int32)) C dL_law_330 (by decide) ?_
      obtain ⟨a486, e487, hv⟩ := hv
      obtain ⟨g488, hv⟩ := hv
      obtain ⟨b489, hv⟩ := hv
      refine k_lald (j := 0) C e487 g488 b489 (by decide) dL_law_331 ?_
      refine j_iload C dL_law_332 rfl ?_
      refine j_i2l C dL_law_334 ?_
      refine j_lcmp C dL_law_335 ?_
      refine j_if_eq (tgt := 341) C dL_law_336 (by decide) ⟨fun q490 => ?_, fun q490 => ?_⟩
      · have hv := hv.1 q490
        refine j_goto (tgt := 1857) C dL_law_341 (by decide) ?_
        refine j_widen (k' := 110 + 2 * y4.toNatClampNeg) (n' := 307000 + 1400 * y4.toNatClampNeg) (by omega) (by omega) ?_
        exact j_sub (by exact (And.intro rfl (And.intro rfl (And.intro rfl (And.intro rfl (And.intro rfl trivial)))))) hv
      · have hv := hv.2 q490
        refine j_iconst (v := (0 : Int32)) C dL_law_339 (by decide) ?_
        exact j_zret C (Or.inl rfl) dL_law_340 (hlim _ _ (by omega) (by omega)) hv
  · have hv := hv.2 q492
    refine j_iconst (v := (0 : Int32)) C dL_law_322 (by decide) ?_
    exact j_zret C (Or.inl rfl) dL_law_323 (hlim _ _ (by omega) (by omega)) hv
set_option maxRecDepth 20000 in
set_option maxHeartbeats 2000000 in
theorem sb_L_1050 {G : Cx} {tb : List ExceptionTableEntry} {nm : String} {b L : Nat} {xs : Nat → Int32} {Q : Option AV ⊕ String → Hp → Prop} {h : Hp} (hg : glv G = 0) (hlim : ∀ k n, k ≤ 600000 → n ≤ 7000000 → lim G k n) (C : OK G cL_law 8 RL (some .boolean) tb nm) (hX : SC G b L xs) (hL : L ≤ 2562) {u1 : Option Nat} {u2 : Option Nat} {u3 : Option Nat} {y4 : Int32} {y5 : Int32} {w0 : Int32} {w1 : Int32} {w2 : Int32} {v3 : Option Nat} (hv : vb_L_1050 L xs Q (fun u1 u2 u3 y4 h => J G Q 1857 [some (vr (some b)), some (vr u1), some (vr u2), some (vr u3), some (vi y4), none, none, none] [] h (110 + 2 * y4.toNatClampNeg) (307000 + 1400 * y4.toNatClampNeg)) u1 u2 u3 y4 y5 w0 w1 w2 v3 h) : J G Q 1050 [some (vr (some b)), some (vr u1), some (vr u2), some (vr u3), some (vi y4), some (vi y5), none, none] [vi w0, vi w1, vi w2, vr v3] h (104 + 2 * y4.toNatClampNeg) (300024 + 1400 * y4.toNatClampNeg) := by
  unfold vb_L_1050 at hv
  obtain ⟨hy4, hv⟩ := hv
  obtain ⟨a493, e494, hv⟩ := hv
  obtain ⟨g497, hv⟩ := hv
  refine k_callV C 6 [vi w2, vi w1, vi w0] mv_L_148 e494 rfl (fun l D dA sz hl => s_X7_referent (by omega) hv l D dA sz hl) rfl rfl (by decide) g497 rfl (by omega) (Nat.le_of_ble_eq_true rfl) (hlim _ _ (by omega) (by omega)) dL_law_1050 (fun _ _ q => False.elim q) (fun v h495 hq => ?_)
  obtain ⟨v496, rfl, hv⟩ := qi_inv hq
  refine j_istore (lo' := [some (vr (some b)), some (vr u1), some (vr u2), some (vr u3), some (vi y4), some (vi y5), some (vi v496), none]) C dL_law_1053 (Nat.le_of_ble_eq_true rfl) rfl ?_
  refine j_aload_n C dL_law_1055 rfl ?_
  obtain ⟨a498, e499, hv⟩ := hv
  obtain ⟨g502, hv⟩ := hv
  refine k_callV C 6 [] mv_L_109 e499 rfl (fun l D dA sz hl => s_X7_thrown (by omega) hv l D dA sz hl) rfl rfl (by decide) g502 rfl (by omega) (Nat.le_of_ble_eq_true rfl) (hlim _ _ (by omega) (by omega)) dL_law_1056 (fun _ _ q => False.elim q) (fun v h500 hq => ?_)
  obtain ⟨v501, rfl, hv⟩ := qi_inv hq
  refine j_iload C dL_law_1059 rfl ?_
  refine j_icmp_eq (tgt := 1066) C dL_law_1061 (by decide) ⟨fun q509 => ?_, fun q509 => ?_⟩
  · have hv := hv.1 q509
    refine j_iload C dL_law_1066 rfl ?_
    refine j_if_ne (tgt := 1083) C dL_law_1068 (by decide) ⟨fun q508 => ?_, fun q508 => ?_⟩
    · have hv := hv.1 q508
      refine j_goto (tgt := 1857) C dL_law_1083 (by decide) ?_
      refine j_widen (k' := 110 + 2 * y4.toNatClampNeg) (n' := 307000 + 1400 * y4.toNatClampNeg) (by omega) (by omega) ?_
      exact j_sub (by exact (And.intro rfl (And.intro rfl (And.intro rfl (And.intro rfl (And.intro rfl trivial)))))) hv
    · have hv := hv.2 q508
      refine j_aload_n C dL_law_1071 rfl ?_
      refine j_iconst (v := (0 : Int32)) C dL_law_1072 (by decide) ?_
      obtain ⟨a503, e504, hv⟩ := hv
      obtain ⟨g505, hv⟩ := hv
      obtain ⟨b506, hv⟩ := hv
      refine k_lald (j := 0) C e504 g505 b506 (by decide) dL_law_1073 ?_
      refine j_iload C dL_law_1074 rfl ?_
      refine j_i2l C dL_law_1076 ?_
      refine j_lcmp C dL_law_1077 ?_
      refine j_if_eq (tgt := 1083) C dL_law_1078 (by decide) ⟨fun q507 => ?_, fun q507 => ?_⟩
      · have hv := hv.1 q507
        refine j_goto (tgt := 1857) C dL_law_1083 (by decide) ?_
        refine j_widen (k' := 110 + 2 * y4.toNatClampNeg) (n' := 307000 + 1400 * y4.toNatClampNeg) (by omega) (by omega) ?_
        exact j_sub (by exact (And.intro rfl (And.intro rfl (And.intro rfl (And.intro rfl (And.intro rfl trivial)))))) hv
      · have hv := hv.2 q507
        refine j_iconst (v := (0 : Int32)) C dL_law_1081 (by decide) ?_
        exact j_zret C (Or.inl rfl) dL_law_1082 (hlim _ _ (by omega) (by omega)) hv
  · have hv := hv.2 q509
    refine j_iconst (v := (0 : Int32)) C dL_law_1064 (by decide) ?_
    exact j_zret C (Or.inl rfl) dL_law_1065 (hlim _ _ (by omega) (by omega)) hv
set_option maxRecDepth 20000 in
set_option maxHeartbeats 2000000 in
theorem sb_L_1202 {G : Cx} {tb : List ExceptionTableEntry} {nm : String} {b L : Nat} {xs : Nat → Int32} {Q : Option AV ⊕ String → Hp → Prop} {h : Hp} (hg : glv G = 0) (hlim : ∀ k n, k ≤ 600000 → n ≤ 7000000 → lim G k n) (C : OK G cL_law 8 RL (some .boolean) tb nm) (hX : SC G b L xs) (hL : L ≤ 2562) {u1 : Option Nat} {u2 : Option Nat} {u3 : Option Nat} {y4 : Int32} {y5 : Int32} {w0 : Int32} {w1 : Int32} {v2 : Option Nat} (hv : vb_L_1202 L xs Q (fun u1 u2 u3 y4 h => J G Q 1857 [some (vr (some b)), some (vr u1), some (vr u2), some (vr u3), some (vi y4), none, none, none] [] h (110 + 2 * y4.toNatClampNeg) (307000 + 1400 * y4.toNatClampNeg)) u1 u2 u3 y4 y5 w0 w1 v2 h) : J G Q 1202 [some (vr (some b)), some (vr u1), some (vr u2), some (vr u3), some (vi y4), some (vi y5), none, none] [vi w0, vi w1, vr v2] h (102 + 2 * y4.toNatClampNeg) (300012 + 1400 * y4.toNatClampNeg) := by
  unfold vb_L_1202 at hv
  obtain ⟨hy4, hv⟩ := hv
  obtain ⟨a510, e511, hv⟩ := hv
  obtain ⟨g514, hv⟩ := hv
  refine k_callV C 6 [vi w1, vi w0] mv_L_155 e511 rfl (fun l D dA sz hl => s_X7_clear (by omega) hv l D dA sz hl) rfl rfl (by decide) g514 rfl (by omega) (Nat.le_of_ble_eq_true rfl) (hlim _ _ (by omega) (by omega)) dL_law_1202 (fun _ _ q => False.elim q) (fun v h512 hq => ?_)
  obtain ⟨v513, rfl, hv⟩ := qi_inv hq
  refine j_istore (lo' := [some (vr (some b)), some (vr u1), some (vr u2), some (vr u3), some (vi y4), some (vi y5), some (vi v513), none]) C dL_law_1205 (Nat.le_of_ble_eq_true rfl) rfl ?_
  refine j_aload_n C dL_law_1207 rfl ?_
  obtain ⟨a515, e516, hv⟩ := hv
  obtain ⟨g519, hv⟩ := hv
  refine k_callV C 6 [] mv_L_109 e516 rfl (fun l D dA sz hl => s_X7_thrown (by omega) hv l D dA sz hl) rfl rfl (by decide) g519 rfl (by omega) (Nat.le_of_ble_eq_true rfl) (hlim _ _ (by omega) (by omega)) dL_law_1208 (fun _ _ q => False.elim q) (fun v h517 hq => ?_)
  obtain ⟨v518, rfl, hv⟩ := qi_inv hq
  refine j_iload C dL_law_1211 rfl ?_
  refine j_icmp_eq (tgt := 1218) C dL_law_1213 (by decide) ⟨fun q526 => ?_, fun q526 => ?_⟩
  · have hv := hv.1 q526
    refine j_iload C dL_law_1218 rfl ?_
    refine j_if_ne (tgt := 1235) C dL_law_1220 (by decide) ⟨fun q525 => ?_, fun q525 => ?_⟩
    · have hv := hv.1 q525
      refine j_goto (tgt := 1857) C dL_law_1235 (by decide) ?_
      refine j_widen (k' := 110 + 2 * y4.toNatClampNeg) (n' := 307000 + 1400 * y4.toNatClampNeg) (by omega) (by omega) ?_
      exact j_sub (by exact (And.intro rfl (And.intro rfl (And.intro rfl (And.intro rfl (And.intro rfl trivial)))))) hv
    · have hv := hv.2 q525
      refine j_aload_n C dL_law_1223 rfl ?_
      refine j_iconst (v := (0 : Int32)) C dL_law_1224 (by decide) ?_
      obtain ⟨a520, e521, hv⟩ := hv
      obtain ⟨g522, hv⟩ := hv
      obtain ⟨b523, hv⟩ := hv
      refine k_lald (j := 0) C e521 g522 b523 (by decide) dL_law_1225 ?_
      refine j_iload C dL_law_1226 rfl ?_
      refine j_i2l C dL_law_1228 ?_
      refine j_lcmp C dL_law_1229 ?_
      refine j_if_eq (tgt := 1235) C dL_law_1230 (by decide) ⟨fun q524 => ?_, fun q524 => ?_⟩
      · have hv := hv.1 q524
        refine j_goto (tgt := 1857) C dL_law_1235 (by decide) ?_
        refine j_widen (k' := 110 + 2 * y4.toNatClampNeg) (n' := 307000 + 1400 * y4.toNatClampNeg) (by omega) (by omega) ?_
        exact j_sub (by exact (And.intro rfl (And.intro rfl (And.intro rfl (And.intro rfl (And.intro rfl trivial)))))) hv
      · have hv := hv.2 q524
        refine j_iconst (v := (0 : Int32)) C dL_law_1233 (by decide) ?_
        exact j_zret C (Or.inl rfl) dL_law_1234 (hlim _ _ (by omega) (by omega)) hv
  · have hv := hv.2 q526
    refine j_iconst (v := (0 : Int32)) C dL_law_1216 (by decide) ?_
    exact j_zret C (Or.inl rfl) dL_law_1217 (hlim _ _ (by omega) (by omega)) hv
set_option maxRecDepth 20000 in
set_option maxHeartbeats 2000000 in
theorem sb_L_1682 {G : Cx} {tb : List ExceptionTableEntry} {nm : String} {b L : Nat} {xs : Nat → Int32} {Q : Option AV ⊕ String → Hp → Prop} {h : Hp} (hg : glv G = 0) (hlim : ∀ k n, k ≤ 600000 → n ≤ 7000000 → lim G k n) (C : OK G cL_law 8 RL (some .boolean) tb nm) (hX : SC G b L xs) (hL : L ≤ 2562) {u1 : Option Nat} {u2 : Option Nat} {u3 : Option Nat} {y4 : Int32} {w0 : Int32} {v1 : Option Nat} {w2 : Int32} (hv : vb_L_1682 L xs Q (fun u1 u2 u3 y4 h => J G Q 1857 [some (vr (some b)), some (vr u1), some (vr u2), some (vr u3), some (vi y4), none, none, none] [] h (110 + 2 * y4.toNatClampNeg) (307000 + 1400 * y4.toNatClampNeg)) u1 u2 u3 y4 w0 v1 w2 h) : J G Q 1682 [some (vr (some b)), some (vr u1), some (vr u2), some (vr u3), some (vi y4), none, none, none] [vi w0, vr v1, vi w2] h (100 + 2 * y4.toNatClampNeg) (300000 + 1400 * y4.toNatClampNeg) := by
  unfold vb_L_1682 at hv
  obtain ⟨hy4, hv⟩ := hv
  obtain ⟨a527, e528, hv⟩ := hv
  obtain ⟨g531, hv⟩ := hv
  refine k_callV C 6 [vi w0] mv_L_182 e528 rfl (fun l D dA sz hl => s_X7_collect (by omega) hv l D dA sz hl) rfl rfl (by decide) g531 rfl (by omega) (Nat.le_of_ble_eq_true rfl) (hlim _ _ (by omega) (by omega)) dL_law_1682 (fun _ _ q => False.elim q) (fun v h529 hq => ?_)
  obtain ⟨v530, rfl, hv⟩ := qi_inv hq
  refine j_icmp_eq (tgt := 1857) C dL_law_1685 (by decide) ⟨fun q532 => ?_, fun q532 => ?_⟩
  · have hv := hv.1 q532
    refine j_widen (k' := 110 + 2 * y4.toNatClampNeg) (n' := 307000 + 1400 * y4.toNatClampNeg) (by omega) (by omega) ?_
    exact j_sub (by exact (And.intro rfl (And.intro rfl (And.intro rfl (And.intro rfl (And.intro rfl trivial)))))) hv
  · have hv := hv.2 q532
    refine j_iconst (v := (0 : Int32)) C dL_law_1688 (by decide) ?_
    exact j_zret C (Or.inl rfl) dL_law_1689 (hlim _ _ (by omega) (by omega)) hv
set_option maxRecDepth 20000 in
theorem s_L_law {G : Cx} {tb : List ExceptionTableEntry} {nm : String} {b L : Nat} {xs : Nat → Int32} {Q : Option AV ⊕ String → Hp → Prop} {h : Hp} (hg : glv G = 0) (hlim : ∀ k n, k ≤ 600000 → n ≤ 7000000 → lim G k n) (C : OK G cL_law 8 RL (some .boolean) tb nm) (hX : SC G b L xs) (hL : L ≤ 2562) (hv : vc_L_law L xs h Q) : J G Q 0 [some (vr (some b)), none, none, none, none, none, none, none] [] h 0 0 := by
  unfold vc_L_law at hv
  have hv := hv (fun u1 u2 u3 y4 h => J G Q 43 [some (vr (some b)), some (vr u1), some (vr u2), some (vr u3), some (vi y4), none, none, none] [] h (100 + 2 * y4.toNatClampNeg) (300000 + 1400 * y4.toNatClampNeg)) (fun u1 u2 u3 y4 h => J G Q 168 [some (vr (some b)), some (vr u1), some (vr u2), some (vr u3), some (vi y4), none, none, none] [] h (100 + 2 * y4.toNatClampNeg) (300000 + 1400 * y4.toNatClampNeg)) (fun u1 u2 u3 y4 h => J G Q 248 [some (vr (some b)), some (vr u1), some (vr u2), some (vr u3), some (vi y4), none, none, none] [] h (100 + 2 * y4.toNatClampNeg) (300000 + 1400 * y4.toNatClampNeg)) (fun u1 u2 u3 y4 h => J G Q 344 [some (vr (some b)), some (vr u1), some (vr u2), some (vr u3), some (vi y4), none, none, none] [] h (100 + 2 * y4.toNatClampNeg) (300000 + 1400 * y4.toNatClampNeg)) (fun u1 u2 u3 y4 h => J G Q 400 [some (vr (some b)), some (vr u1), some (vr u2), some (vr u3), some (vi y4), none, none, none] [] h (100 + 2 * y4.toNatClampNeg) (300000 + 1400 * y4.toNatClampNeg)) (fun u1 u2 u3 y4 h => J G Q 492 [some (vr (some b)), some (vr u1), some (vr u2), some (vr u3), some (vi y4), none, none, none] [] h (100 + 2 * y4.toNatClampNeg) (300000 + 1400 * y4.toNatClampNeg)) (fun u1 u2 u3 y4 h => J G Q 584 [some (vr (some b)), some (vr u1), some (vr u2), some (vr u3), some (vi y4), none, none, none] [] h (100 + 2 * y4.toNatClampNeg) (300000 + 1400 * y4.toNatClampNeg)) (fun u1 u2 u3 y4 h => J G Q 652 [some (vr (some b)), some (vr u1), some (vr u2), some (vr u3), some (vi y4), none, none, none] [] h (100 + 2 * y4.toNatClampNeg) (300000 + 1400 * y4.toNatClampNeg)) (fun u1 u2 u3 y4 h => J G Q 732 [some (vr (some b)), some (vr u1), some (vr u2), some (vr u3), some (vi y4), none, none, none] [] h (100 + 2 * y4.toNatClampNeg) (300000 + 1400 * y4.toNatClampNeg)) (fun u1 u2 u3 y4 h => J G Q 812 [some (vr (some b)), some (vr u1), some (vr u2), some (vr u3), some (vi y4), none, none, none] [] h (100 + 2 * y4.toNatClampNeg) (300000 + 1400 * y4.toNatClampNeg)) (fun u1 u2 u3 y4 h => J G Q 923 [some (vr (some b)), some (vr u1), some (vr u2), some (vr u3), some (vi y4), none, none, none] [] h (100 + 2 * y4.toNatClampNeg) (300000 + 1400 * y4.toNatClampNeg)) (fun u1 u2 u3 y4 h => J G Q 990 [some (vr (some b)), some (vr u1), some (vr u2), some (vr u3), some (vi y4), none, none, none] [] h (100 + 2 * y4.toNatClampNeg) (300000 + 1400 * y4.toNatClampNeg)) (fun u1 u2 u3 y4 h => J G Q 1086 [some (vr (some b)), some (vr u1), some (vr u2), some (vr u3), some (vi y4), none, none, none] [] h (100 + 2 * y4.toNatClampNeg) (300000 + 1400 * y4.toNatClampNeg)) (fun u1 u2 u3 y4 h => J G Q 1154 [some (vr (some b)), some (vr u1), some (vr u2), some (vr u3), some (vi y4), none, none, none] [] h (100 + 2 * y4.toNatClampNeg) (300000 + 1400 * y4.toNatClampNeg)) (fun u1 u2 u3 y4 h => J G Q 1238 [some (vr (some b)), some (vr u1), some (vr u2), some (vr u3), some (vi y4), none, none, none] [] h (100 + 2 * y4.toNatClampNeg) (300000 + 1400 * y4.toNatClampNeg)) (fun u1 u2 u3 y4 h => J G Q 1306 [some (vr (some b)), some (vr u1), some (vr u2), some (vr u3), some (vi y4), none, none, none] [] h (100 + 2 * y4.toNatClampNeg) (300000 + 1400 * y4.toNatClampNeg)) (fun u1 u2 u3 y4 h => J G Q 1362 [some (vr (some b)), some (vr u1), some (vr u2), some (vr u3), some (vi y4), none, none, none] [] h (100 + 2 * y4.toNatClampNeg) (300000 + 1400 * y4.toNatClampNeg)) (fun u1 u2 u3 y4 h => J G Q 1418 [some (vr (some b)), some (vr u1), some (vr u2), some (vr u3), some (vi y4), none, none, none] [] h (100 + 2 * y4.toNatClampNeg) (300000 + 1400 * y4.toNatClampNeg)) (fun u1 u2 u3 y4 h => J G Q 1474 [some (vr (some b)), some (vr u1), some (vr u2), some (vr u3), some (vi y4), none, none, none] [] h (100 + 2 * y4.toNatClampNeg) (300000 + 1400 * y4.toNatClampNeg)) (fun u1 u2 u3 y4 h => J G Q 1549 [some (vr (some b)), some (vr u1), some (vr u2), some (vr u3), some (vi y4), none, none, none] [] h (100 + 2 * y4.toNatClampNeg) (300000 + 1400 * y4.toNatClampNeg)) (fun u1 u2 u3 y4 h => J G Q 1605 [some (vr (some b)), some (vr u1), some (vr u2), some (vr u3), some (vi y4), none, none, none] [] h (100 + 2 * y4.toNatClampNeg) (300000 + 1400 * y4.toNatClampNeg)) (fun u1 u2 u3 y4 h => J G Q 1649 [some (vr (some b)), some (vr u1), some (vr u2), some (vr u3), some (vi y4), none, none, none] [] h (100 + 2 * y4.toNatClampNeg) (300000 + 1400 * y4.toNatClampNeg)) (fun u1 u2 u3 y4 h => J G Q 1690 [some (vr (some b)), some (vr u1), some (vr u2), some (vr u3), some (vi y4), none, none, none] [] h (100 + 2 * y4.toNatClampNeg) (300000 + 1400 * y4.toNatClampNeg)) (fun u1 u2 u3 y4 h => J G Q 1746 [some (vr (some b)), some (vr u1), some (vr u2), some (vr u3), some (vi y4), none, none, none] [] h (100 + 2 * y4.toNatClampNeg) (300000 + 1400 * y4.toNatClampNeg)) (fun u1 u2 u3 y4 h => J G Q 1802 [some (vr (some b)), some (vr u1), some (vr u2), some (vr u3), some (vi y4), none, none, none] [] h (100 + 2 * y4.toNatClampNeg) (300000 + 1400 * y4.toNatClampNeg)) (fun u1 u2 u3 y4 h => J G Q 1857 [some (vr (some b)), some (vr u1), some (vr u2), some (vr u3), some (vi y4), none, none, none] [] h (110 + 2 * y4.toNatClampNeg) (307000 + 1400 * y4.toNatClampNeg)) (fun u1 u2 u3 y4 w0 w1 w2 v3 h => J G Q 275 [some (vr (some b)), some (vr u1), some (vr u2), some (vr u3), some (vi y4), none, none, none] [vi w0, vi w1, vi w2, vr v3] h (100 + 2 * y4.toNatClampNeg) (300000 + 1400 * y4.toNatClampNeg)) (fun u1 u2 u3 y4 w0 w1 w2 v3 h => J G Q 1017 [some (vr (some b)), some (vr u1), some (vr u2), some (vr u3), some (vi y4), none, none, none] [vi w0, vi w1, vi w2, vr v3] h (100 + 2 * y4.toNatClampNeg) (300000 + 1400 * y4.toNatClampNeg)) (fun u1 u2 u3 y4 w0 w1 v2 h => J G Q 1175 [some (vr (some b)), some (vr u1), some (vr u2), some (vr u3), some (vi y4), none, none, none] [vi w0, vi w1, vr v2] h (100 + 2 * y4.toNatClampNeg) (300000 + 1400 * y4.toNatClampNeg)) (fun u1 u2 u3 y4 s0 s1 h => J G Q 1540 [some (vr (some b)), some (vr u1), some (vr u2), some (vr u3), some (vi y4), none, none, none] [vl s0, vl s1] h (102 + 2 * y4.toNatClampNeg) (300012 + 1400 * y4.toNatClampNeg)) (fun u1 u2 u3 y4 w0 v1 h => J G Q 1664 [some (vr (some b)), some (vr u1), some (vr u2), some (vr u3), some (vi y4), none, none, none] [vi w0, vr v1] h (100 + 2 * y4.toNatClampNeg) (300000 + 1400 * y4.toNatClampNeg)) (fun u1 u2 u3 y4 y5 w0 w1 w2 v3 h => J G Q 308 [some (vr (some b)), some (vr u1), some (vr u2), some (vr u3), some (vi y4), some (vi y5), none, none] [vi w0, vi w1, vi w2, vr v3] h (105 + 2 * y4.toNatClampNeg) (306022 + 1400 * y4.toNatClampNeg)) (fun u1 u2 u3 y4 y5 w0 w1 w2 v3 h => J G Q 1050 [some (vr (some b)), some (vr u1), some (vr u2), some (vr u3), some (vi y4), some (vi y5), none, none] [vi w0, vi w1, vi w2, vr v3] h (104 + 2 * y4.toNatClampNeg) (300024 + 1400 * y4.toNatClampNeg)) (fun u1 u2 u3 y4 y5 w0 w1 v2 h => J G Q 1202 [some (vr (some b)), some (vr u1), some (vr u2), some (vr u3), some (vi y4), some (vi y5), none, none] [vi w0, vi w1, vr v2] h (102 + 2 * y4.toNatClampNeg) (300012 + 1400 * y4.toNatClampNeg)) (fun u1 u2 u3 y4 w0 v1 w2 h => J G Q 1682 [some (vr (some b)), some (vr u1), some (vr u2), some (vr u3), some (vi y4), none, none, none] [vi w0, vr v1, vi w2] h (100 + 2 * y4.toNatClampNeg) (300000 + 1400 * y4.toNatClampNeg))
  have hv := hv (fun u1 u2 u3 y4 h hv => sb_L_43 hg hlim C hX hL hv)
  have hv := hv (fun u1 u2 u3 y4 h hv => sb_L_168 hg hlim C hX hL hv)
  have hv := hv (fun u1 u2 u3 y4 h hv => sb_L_248 hg hlim C hX hL hv)
  have hv := hv (fun u1 u2 u3 y4 h hv => sb_L_344 hg hlim C hX hL hv)
  have hv := hv (fun u1 u2 u3 y4 h hv => sb_L_400 hg hlim C hX hL hv)
  have hv := hv (fun u1 u2 u3 y4 h hv => sb_L_492 hg hlim C hX hL hv)
  have hv := hv (fun u1 u2 u3 y4 h hv => sb_L_584 hg hlim C hX hL hv)
  have hv := hv (fun u1 u2 u3 y4 h hv => sb_L_652 hg hlim C hX hL hv)
  have hv := hv (fun u1 u2 u3 y4 h hv => sb_L_732 hg hlim C hX hL hv)
  have hv := hv (fun u1 u2 u3 y4 h hv => sb_L_812 hg hlim C hX hL hv)
  have hv := hv (fun u1 u2 u3 y4 h hv => sb_L_923 hg hlim C hX hL hv)
  have hv := hv (fun u1 u2 u3 y4 h hv => sb_L_990 hg hlim C hX hL hv)
  have hv := hv (fun u1 u2 u3 y4 h hv => sb_L_1086 hg hlim C hX hL hv)
  have hv := hv (fun u1 u2 u3 y4 h hv => sb_L_1154 hg hlim C hX hL hv)
  have hv := hv (fun u1 u2 u3 y4 h hv => sb_L_1238 hg hlim C hX hL hv)
  have hv := hv (fun u1 u2 u3 y4 h hv => sb_L_1306 hg hlim C hX hL hv)
  have hv := hv (fun u1 u2 u3 y4 h hv => sb_L_1362 hg hlim C hX hL hv)
  have hv := hv (fun u1 u2 u3 y4 h hv => sb_L_1418 hg hlim C hX hL hv)
  have hv := hv (fun u1 u2 u3 y4 h hv => sb_L_1474 hg hlim C hX hL hv)
  have hv := hv (fun u1 u2 u3 y4 h hv => sb_L_1549 hg hlim C hX hL hv)
  have hv := hv (fun u1 u2 u3 y4 h hv => sb_L_1605 hg hlim C hX hL hv)
  have hv := hv (fun u1 u2 u3 y4 h hv => sb_L_1649 hg hlim C hX hL hv)
  have hv := hv (fun u1 u2 u3 y4 h hv => sb_L_1690 hg hlim C hX hL hv)
  have hv := hv (fun u1 u2 u3 y4 h hv => sb_L_1746 hg hlim C hX hL hv)
  have hv := hv (fun u1 u2 u3 y4 h hv => sb_L_1802 hg hlim C hX hL hv)
  have hv := hv (fun u1 u2 u3 y4 h hv => sb_L_1857 hg hlim C hX hL hv)
  have hv := hv (fun u1 u2 u3 y4 w0 w1 w2 v3 h hv => sb_L_275 hg hlim C hX hL hv)
  have hv := hv (fun u1 u2 u3 y4 w0 w1 w2 v3 h hv => sb_L_1017 hg hlim C hX hL hv)
  have hv := hv (fun u1 u2 u3 y4 w0 w1 v2 h hv => sb_L_1175 hg hlim C hX hL hv)
  have hv := hv (fun u1 u2 u3 y4 s0 s1 h hv => sb_L_1540 hg hlim C hX hL hv)
  have hv := hv (fun u1 u2 u3 y4 w0 v1 h hv => sb_L_1664 hg hlim C hX hL hv)
  have hv := hv (fun u1 u2 u3 y4 y5 w0 w1 w2 v3 h hv => sb_L_308 hg hlim C hX hL hv)
  have hv := hv (fun u1 u2 u3 y4 y5 w0 w1 w2 v3 h hv => sb_L_1050 hg hlim C hX hL hv)
  have hv := hv (fun u1 u2 u3 y4 y5 w0 w1 v2 h hv => sb_L_1202 hg hlim C hX hL hv)
  have hv := hv (fun u1 u2 u3 y4 w0 v1 w2 h hv => sb_L_1682 hg hlim C hX hL hv)
  refine j_new C (ci := 5) rfl inX6 tyX6_ok dfX6 wg_15 wg_16 wg_1 (by decide) (hlim _ _ (by omega) (by omega)) dL_law_0 (fun a1 f2 => ?_)
  have hv := hv a1 f2
  have g3 : tg (nO h a1 6) a1 = 6 := tO2
  refine j_dup C dL_law_3 rfl ?_
  refine j_aload_n C dL_law_4 rfl ?_
  refine j_iconst (v := (0 : Int32)) C dL_law_5 (by decide) ?_
  refine j_cell C hX (by decide) hL rfl (by omega) (Nat.le_of_ble_eq_true rfl) (hlim _ _ (by omega) (by omega)) dL_law_6 ?_
  refine j_aload_n C dL_law_9 rfl ?_
  refine j_iconst (v := (1 : Int32)) C dL_law_10 (by decide) ?_
  refine j_cell C hX (by decide) hL rfl (by omega) (Nat.le_of_ble_eq_true rfl) (hlim _ _ (by omega) (by omega)) dL_law_11 ?_
  refine k_callI C [vi (cel L xs (0 : Int32)), vi (cel L xs (1 : Int32))] mi_L_99 rfl rfl (fun l D dA sz hl => s_X6_init (by omega) hv l D dA sz hl) (fun _ _ q => q) rfl (by omega) (Nat.le_of_ble_eq_true rfl) (hlim _ _ (by omega) (by omega)) dL_law_14 (fun v h4 hq => ?_)
  obtain ⟨rfl, hv⟩ := qv_inv hq
  refine j_astore_n (lo' := [some (vr (some b)), some (vr (some a1)), none, none, none, none, none, none]) C dL_law_17 (Nat.le_of_ble_eq_true rfl) rfl ?_
  refine j_new C (ci := 6) rfl inX7 tyX7_ok dfX7 wg_671 wg_672 wg_5 (by decide) (hlim _ _ (by omega) (by omega)) dL_law_18 (fun a6 f7 => ?_)
  have hv := hv a6 f7
  have g8 : tg (nO h4 a6 7) a6 = 7 := tO2
  refine j_dup C dL_law_21 rfl ?_
  refine j_aload_n C dL_law_22 rfl ?_
  refine j_iconst (v := (0 : Int32)) C dL_law_23 (by decide) ?_
  refine j_cell C hX (by decide) hL rfl (by omega) (Nat.le_of_ble_eq_true rfl) (hlim _ _ (by omega) (by omega)) dL_law_24 ?_
  refine j_aload_n C dL_law_27 rfl ?_
  refine j_iconst (v := (1 : Int32)) C dL_law_28 (by decide) ?_
  refine j_cell C hX (by decide) hL rfl (by omega) (Nat.le_of_ble_eq_true rfl) (hlim _ _ (by omega) (by omega)) dL_law_29 ?_
  refine k_callI C [vi (cel L xs (0 : Int32)), vi (cel L xs (1 : Int32))] mi_L_104 rfl rfl (fun l D dA sz hl => s_X7_init (by omega) hv l D dA sz hl) (fun _ _ q => q) rfl (by omega) (Nat.le_of_ble_eq_true rfl) (hlim _ _ (by omega) (by omega)) dL_law_32 (fun v h9 hq => ?_)
  obtain ⟨rfl, hv⟩ := qv_inv hq
  refine j_astore_n (lo' := [some (vr (some b)), some (vr (some a1)), some (vr (some a6)), none, none, none, none, none]) C dL_law_35 (Nat.le_of_ble_eq_true rfl) rfl ?_
  refine j_iconst (v := (1 : Int32)) C dL_law_36 (by decide) ?_
  refine k_newa (N := 1) C (Or.inr (Or.inl ⟨rfl, rfl, rfl⟩)) wg_345 (by decide) (by decide) (by decide) (hlim _ _ (by omega) (by omega)) dL_law_37 (fun a11 f12 => ?_)
  have hv := hv a11 f12
  have g15 : tg (nA h9 a11 9 1) a11 = 9 := tA2
  refine j_astore_n (lo' := [some (vr (some b)), some (vr (some a1)), some (vr (some a6)), some (vr (some a11)), none, none, none, none]) C dL_law_39 (Nat.le_of_ble_eq_true rfl) rfl ?_
  refine j_iconst (v := (2 : Int32)) C dL_law_40 (by decide) ?_
  refine j_istore (lo' := [some (vr (some b)), some (vr (some a1)), some (vr (some a6)), some (vr (some a11)), some (vi (2 : Int32)), none, none, none]) C dL_law_41 (Nat.le_of_ble_eq_true rfl) rfl ?_
  refine j_widen (k' := 100 + 2 * (2 : Int32).toNatClampNeg) (n' := 300000 + 1400 * (2 : Int32).toNatClampNeg) (by omega) (by omega) ?_
  exact j_sub (by exact (And.intro rfl (And.intro rfl (And.intro rfl (And.intro rfl (And.intro rfl trivial)))))) hv
