-- X2_tellsNumber (changes, room 1 22)
def P_X2_tellsNumber_209 (K : Int32 → XW → Prop) (B102 : XW → Int32 → Prop) (E215 : XW → Prop) (w : XW) (v2 : Int32) (v3 : Int32) (v4 : Int32) (v5 : Int32) (v6 : Int32) (v7 : Int32) (v8 : Int32) (v9 : Int32) : Prop := B102 w (v9 + (1 : Int32))
set_option maxRecDepth 10000 in
theorem s_X2_tellsNumber_209 {x : Mx} {g : Gd} {a : Nat → Nat} (C : Cx x g (sA 15 a) (xCl g a) cX2_tellsNumber 12 RX2 (some .boolean) 1 22) {K : Int32 → XW → Prop}  {v2 : Int32} {v3 : Int32} {v4 : Int32} {v5 : Int32} {v6 : Int32} {v7 : Int32} {v8 : Int32} {v9 : Int32} {B102 : XW → Int32 → Prop} {E215 : XW → Prop} (hB102 : ∀ (w : XW) (v9 : Int32), B102 w v9 → J x g (sA 15 a) (xCl g a) 12 (JQ x (sA 15 a) (QcI g (sA 15 a) (xCl g a) K)) w 102 [(0, .ref (a 3)), (2, .int v2), (3, .int v3), (4, .int v4), (5, .int v5), (6, .int v6), (7, .int v7), (8, .int v8), (9, .int v9)] []) (hE215 : ∀ (w : XW), E215 w → J x g (sA 15 a) (xCl g a) 12 (JQ x (sA 15 a) (QcI g (sA 15 a) (xCl g a) K)) w 215 [(0, .ref (a 3)), (3, .int v3), (6, .int v6)] []) {w : XW} (h : P_X2_tellsNumber_209 K B102 E215 w v2 v3 v4 v5 v6 v7 v8 v9) : J x g (sA 15 a) (xCl g a) 12 (JQ x (sA 15 a) (QcI g (sA 15 a) (xCl g a) K)) w 209 [(0, .ref (a 3)), (2, .int v2), (3, .int v3), (4, .int v4), (5, .int v5), (6, .int v6), (7, .int v7), (8, .int v8), (9, .int v9)] [] := by
  unfold P_X2_tellsNumber_209 at h
  refine J_iinc C 8 [(9, .int (v9 + (1 : Int32))), (0, .ref (a 3)), (2, .int v2), (3, .int v3), (4, .int v4), (5, .int v5), (6, .int v6), (7, .int v7), (8, .int v8)] dX2_tellsNumber_209 rfl rfl (by decide) rfl ?_
  refine J_goto (tgt := 102) C dX2_tellsNumber_212 (by decide) ?_
  refine J_lv [1, 2, 3, 4, 5, 6, 7, 8, 0] rfl ?_
  exact hB102 _ _ h
def P_X2_tellsNumber_102 (K : Int32 → XW → Prop) (E215 : XW → Prop) (v2 : Int32) (v3 : Int32) (v4 : Int32) (v5 : Int32) (v6 : Int32) (v7 : Int32) (v8 : Int32) : Nat → XW → Int32 → Prop
  | 0, _, _ => False
  | n + 1, w, v9 => (v4 ≤ v9 → E215 w) ∧ (¬ v4 ≤ v9 → P_X1_byteIn (fun r_6 => P_X2_signDue (fun r_7 => (r_7 = (-1 : Int32) → (r_6 < (48 : Int32) → K (0 : Int32) w) ∧ (¬ r_6 < (48 : Int32) → ((57 : Int32) < r_6 → K (0 : Int32) w) ∧ (¬ (57 : Int32) < r_6 → (¬ (fm_digits w) = (9 : Int32) → P_X2_tellsNumber_209 K (P_X2_tellsNumber_102 K E215 v2 v3 v4 v5 v6 v7 v8 n) E215 (fm_digits_s (fm_worth_s w ((((fm_worth w) * (10 : Int32)) + r_6) - (48 : Int32))) ((fm_digits (fm_worth_s w ((((fm_worth w) * (10 : Int32)) + r_6) - (48 : Int32)))) + (1 : Int32))) v2 v3 v4 v5 v6 v7 v8 v9) ∧ ((fm_digits w) = (9 : Int32) → K (0 : Int32) w)))) ∧ (¬ r_7 = (-1 : Int32) → (¬ r_6 = r_7 → K (0 : Int32) w) ∧ (r_6 = r_7 → (¬ v9 = v6 → P_X2_tellsNumber_209 K (P_X2_tellsNumber_102 K E215 v2 v3 v4 v5 v6 v7 v8 n) E215 w v2 v3 v4 v5 v6 v7 v8 v9) ∧ (v9 = v6 → K (0 : Int32) w)))) (v5 - v9) v7 v8) w v2 v9)
set_option maxRecDepth 10000 in
theorem s_X2_tellsNumber_102 {x : Mx} {g : Gd} {a : Nat → Nat} (C : Cx x g (sA 15 a) (xCl g a) cX2_tellsNumber 12 RX2 (some .boolean) 1 22) {K : Int32 → XW → Prop}  {v2 : Int32} {v3 : Int32} {v4 : Int32} {v5 : Int32} {v6 : Int32} {v7 : Int32} {v8 : Int32} {E215 : XW → Prop} (hE215 : ∀ (w : XW), E215 w → J x g (sA 15 a) (xCl g a) 12 (JQ x (sA 15 a) (QcI g (sA 15 a) (xCl g a) K)) w 215 [(0, .ref (a 3)), (3, .int v3), (6, .int v6)] []) : ∀ (n : Nat) (w : XW) (v9 : Int32), P_X2_tellsNumber_102 K E215 v2 v3 v4 v5 v6 v7 v8 n w v9 → J x g (sA 15 a) (xCl g a) 12 (JQ x (sA 15 a) (QcI g (sA 15 a) (xCl g a) K)) w 102 [(0, .ref (a 3)), (2, .int v2), (3, .int v3), (4, .int v4), (5, .int v5), (6, .int v6), (7, .int v7), (8, .int v8), (9, .int v9)] [] := by
  intro n
  induction n with
  | zero => intro w v9 h; exact h.elim
  | succ n ih =>
    intro w v9 h
    unfold P_X2_tellsNumber_102 at h
    refine J_iload C 8 dX2_tellsNumber_102 rfl ?_
    refine J_iload C 3 dX2_tellsNumber_104 rfl ?_
    refine J_icmp_ge (tgt := 215) C dX2_tellsNumber_106 (by decide) h (fun h => ?_) (fun h => ?_)
    · refine J_lv [0, 2, 5] rfl ?_
      exact hE215 _ h
    · refine J_aload_n C 0 dX2_tellsNumber_109 rfl rfl ?_
      refine G_fm_cut C mw_57 dX2_tellsNumber_110 ?_
      refine J_iload_n C 1 dX2_tellsNumber_113 rfl rfl ?_
      refine J_iload C 8 dX2_tellsNumber_114 rfl ?_
      refine k_X1_byteIn C mw_282 dX2_tellsNumber_116 ⟨Nat.le_of_ble_eq_true rfl, Nat.le_of_ble_eq_true rfl⟩ (Nat.le_of_ble_eq_true rfl) h (fun r_6 h => ?_)
      refine J_istore C [(10, .int r_6), (0, .ref (a 3)), (2, .int v2), (3, .int v3), (4, .int v4), (5, .int v5), (6, .int v6), (7, .int v7), (8, .int v8), (9, .int v9)] dX2_tellsNumber_119 (by decide) rfl ?_
      refine J_iload C 5 dX2_tellsNumber_121 rfl ?_
      refine J_iload C 9 dX2_tellsNumber_123 rfl ?_
      refine J_isub C dX2_tellsNumber_125 ?_
      refine J_iload C 7 dX2_tellsNumber_126 rfl ?_
      refine J_iload C 8 dX2_tellsNumber_128 rfl ?_
      refine k_X2_signDue C mw_292 dX2_tellsNumber_130 ⟨Nat.le_of_ble_eq_true rfl, Nat.le_of_ble_eq_true rfl⟩ (Nat.le_of_ble_eq_true rfl) h (fun r_7 h => ?_)
      refine J_istore C [(11, .int r_7), (10, .int r_6), (0, .ref (a 3)), (2, .int v2), (3, .int v3), (4, .int v4), (5, .int v5), (6, .int v6), (7, .int v7), (8, .int v8), (9, .int v9)] dX2_tellsNumber_133 (by decide) rfl ?_
      refine J_iload C 0 dX2_tellsNumber_135 rfl ?_
      refine J_iconst (v := (-1 : Int32)) C dX2_tellsNumber_137 (by decide) ?_
      refine J_icmp_eq (tgt := 157) C dX2_tellsNumber_138 (by decide) h (fun h => ?_) (fun h => ?_)
      · refine J_iload C 1 dX2_tellsNumber_157 rfl ?_
        refine J_bipush (v := (48 : Int32)) C dX2_tellsNumber_159 (by decide) ?_
        refine J_icmp_lt (tgt := 180) C dX2_tellsNumber_161 (by decide) h (fun h => ?_) (fun h => ?_)
        · refine J_iconst (v := (0 : Int32)) C dX2_tellsNumber_180 (by decide) ?_
          exact J_zret C dX2_tellsNumber_181 rfl h
        · refine J_iload C 1 dX2_tellsNumber_164 rfl ?_
          refine J_bipush (v := (57 : Int32)) C dX2_tellsNumber_166 (by decide) ?_
          refine J_icmp_gt (tgt := 180) C dX2_tellsNumber_168 (by decide) h (fun h => ?_) (fun h => ?_)
          · refine J_iconst (v := (0 : Int32)) C dX2_tellsNumber_180 (by decide) ?_
            exact J_zret C dX2_tellsNumber_181 rfl h
          · refine J_aload_n C 2 dX2_tellsNumber_171 rfl rfl ?_
            refine G_fm_digits C mw_62 dX2_tellsNumber_172 ?_
            refine J_bipush (v := (9 : Int32)) C dX2_tellsNumber_175 (by decide) ?_
            refine J_icmp_ne (tgt := 182) C dX2_tellsNumber_177 (by decide) h (fun h => ?_) (fun h => ?_)
            · refine J_aload_n C 2 dX2_tellsNumber_182 rfl rfl ?_
              refine J_aload_n C 2 dX2_tellsNumber_183 rfl rfl ?_
              refine G_fm_worth C mw_60 dX2_tellsNumber_184 ?_
              refine J_bipush (v := (10 : Int32)) C dX2_tellsNumber_187 (by decide) ?_
              refine J_imul C dX2_tellsNumber_189 ?_
              refine J_iload C 1 dX2_tellsNumber_190 rfl ?_
              refine J_iadd C dX2_tellsNumber_192 ?_
              refine J_bipush (v := (48 : Int32)) C dX2_tellsNumber_193 (by decide) ?_
              refine J_isub C dX2_tellsNumber_195 ?_
              refine S_fm_worth C mw_60 dX2_tellsNumber_196 ?_
              refine J_aload_n C 2 dX2_tellsNumber_199 rfl rfl ?_
              refine J_dup C dX2_tellsNumber_200 rfl ?_
              refine G_fm_digits C mw_62 dX2_tellsNumber_201 ?_
              refine J_iconst (v := (1 : Int32)) C dX2_tellsNumber_204 (by decide) ?_
              refine J_iadd C dX2_tellsNumber_205 ?_
              refine S_fm_digits C mw_62 dX2_tellsNumber_206 ?_
              refine J_lv [2, 3, 4, 5, 6, 7, 8, 9, 10] rfl ?_
              exact s_X2_tellsNumber_209 C ih hE215 h
            · refine J_iconst (v := (0 : Int32)) C dX2_tellsNumber_180 (by decide) ?_
              exact J_zret C dX2_tellsNumber_181 rfl h
      · refine J_iload C 1 dX2_tellsNumber_141 rfl ?_
        refine J_iload C 0 dX2_tellsNumber_143 rfl ?_
        refine J_icmp_ne (tgt := 155) C dX2_tellsNumber_145 (by decide) h (fun h => ?_) (fun h => ?_)
        · refine J_iconst (v := (0 : Int32)) C dX2_tellsNumber_155 (by decide) ?_
          exact J_zret C dX2_tellsNumber_156 rfl h
        · refine J_iload C 10 dX2_tellsNumber_148 rfl ?_
          refine J_iload C 7 dX2_tellsNumber_150 rfl ?_
          refine J_icmp_ne (tgt := 209) C dX2_tellsNumber_152 (by decide) h (fun h => ?_) (fun h => ?_)
          · refine J_lv [2, 3, 4, 5, 6, 7, 8, 9, 10] rfl ?_
            exact s_X2_tellsNumber_209 C ih hE215 h
          · refine J_iconst (v := (0 : Int32)) C dX2_tellsNumber_155 (by decide) ?_
            exact J_zret C dX2_tellsNumber_156 rfl h
def P_X2_tellsNumber_242 (K : Int32 → XW → Prop) (w : XW) (v3 : Int32) : Prop := ((fm_capped w) = 0 → K (1 : Int32) w) ∧ (¬ (fm_capped w) = 0 → P_X2_bigOf (fun r_9 => (r_9 ≤ (fm_worth w) → K (0 : Int32) w) ∧ (¬ r_9 ≤ (fm_worth w) → K (1 : Int32) w)) v3)
set_option maxRecDepth 10000 in
theorem s_X2_tellsNumber_242 {x : Mx} {g : Gd} {a : Nat → Nat} (C : Cx x g (sA 15 a) (xCl g a) cX2_tellsNumber 12 RX2 (some .boolean) 1 22) {K : Int32 → XW → Prop}  {v3 : Int32} {w : XW} (h : P_X2_tellsNumber_242 K w v3) : J x g (sA 15 a) (xCl g a) 12 (JQ x (sA 15 a) (QcI g (sA 15 a) (xCl g a) K)) w 242 [(0, .ref (a 3)), (3, .int v3)] [] := by
  unfold P_X2_tellsNumber_242 at h
  refine J_aload_n C 0 dX2_tellsNumber_242 rfl rfl ?_
  refine G_fm_capped C mw_59 dX2_tellsNumber_243 ?_
  refine J_if_eq (tgt := 260) C dX2_tellsNumber_246 (by decide) h (fun h => ?_) (fun h => ?_)
  · refine J_iconst (v := (1 : Int32)) C dX2_tellsNumber_260 (by decide) ?_
    refine J_goto (tgt := 265) C dX2_tellsNumber_261 (by decide) ?_
    exact J_zret C dX2_tellsNumber_265 rfl h
  · refine J_aload_n C 0 dX2_tellsNumber_249 rfl rfl ?_
    refine G_fm_worth C mw_60 dX2_tellsNumber_250 ?_
    refine J_iload_n C 1 dX2_tellsNumber_253 rfl rfl ?_
    refine k_X2_bigOf C mw_295 dX2_tellsNumber_254 ⟨Nat.le_of_ble_eq_true rfl, Nat.le_of_ble_eq_true rfl⟩ (Nat.le_of_ble_eq_true rfl) h (fun r_9 h => ?_)
    refine J_icmp_ge (tgt := 264) C dX2_tellsNumber_257 (by decide) h (fun h => ?_) (fun h => ?_)
    · refine J_iconst (v := (0 : Int32)) C dX2_tellsNumber_264 (by decide) ?_
      exact J_zret C dX2_tellsNumber_265 rfl h
    · refine J_iconst (v := (1 : Int32)) C dX2_tellsNumber_260 (by decide) ?_
      refine J_goto (tgt := 265) C dX2_tellsNumber_261 (by decide) ?_
      exact J_zret C dX2_tellsNumber_265 rfl h
def P_X2_tellsNumber_230 (K : Int32 → XW → Prop) (w : XW) (v3 : Int32) (v6 : Int32) : Prop := (v6 = 0 → P_X2_tellsNumber_242 K w v3) ∧ (¬ v6 = 0 → ((fm_worth w) = 0 → K (0 : Int32) w) ∧ (¬ (fm_worth w) = 0 → P_X2_tellsNumber_242 K w v3))
set_option maxRecDepth 10000 in
theorem s_X2_tellsNumber_230 {x : Mx} {g : Gd} {a : Nat → Nat} (C : Cx x g (sA 15 a) (xCl g a) cX2_tellsNumber 12 RX2 (some .boolean) 1 22) {K : Int32 → XW → Prop}  {v3 : Int32} {v6 : Int32} {w : XW} (h : P_X2_tellsNumber_230 K w v3 v6) : J x g (sA 15 a) (xCl g a) 12 (JQ x (sA 15 a) (QcI g (sA 15 a) (xCl g a) K)) w 230 [(0, .ref (a 3)), (3, .int v3), (6, .int v6)] [] := by
  unfold P_X2_tellsNumber_230 at h
  refine J_iload C 2 dX2_tellsNumber_230 rfl ?_
  refine J_if_eq (tgt := 242) C dX2_tellsNumber_232 (by decide) h (fun h => ?_) (fun h => ?_)
  · refine J_lv [0, 1] rfl ?_
    exact s_X2_tellsNumber_242 C h
  · refine J_aload_n C 0 dX2_tellsNumber_235 rfl rfl ?_
    refine G_fm_worth C mw_60 dX2_tellsNumber_236 ?_
    refine J_if_eq (tgt := 264) C dX2_tellsNumber_239 (by decide) h (fun h => ?_) (fun h => ?_)
    · refine J_iconst (v := (0 : Int32)) C dX2_tellsNumber_264 (by decide) ?_
      exact J_zret C dX2_tellsNumber_265 rfl h
    · refine J_lv [0, 1] rfl ?_
      exact s_X2_tellsNumber_242 C h
def P_X2_tellsNumber_98 (K : Int32 → XW → Prop) (w : XW) (v2 : Int32) (v3 : Int32) (v4 : Int32) (v5 : Int32) (v6 : Int32) (v7 : Int32) (v8 : Int32) : Prop := ∃ nf : Nat, P_X2_tellsNumber_102 K (fun w_8 => (¬ v6 = (1 : Int32) → P_X2_tellsNumber_230 K w_8 v3 v6) ∧ (v6 = (1 : Int32) → P_X2_tellsNumber_230 K (fm_worth_s w_8 (-(fm_worth w_8))) v3 v6)) v2 v3 v4 v5 v6 v7 v8 nf w v6
set_option maxRecDepth 10000 in
theorem s_X2_tellsNumber_98 {x : Mx} {g : Gd} {a : Nat → Nat} (C : Cx x g (sA 15 a) (xCl g a) cX2_tellsNumber 12 RX2 (some .boolean) 1 22) {K : Int32 → XW → Prop}  {v2 : Int32} {v3 : Int32} {v4 : Int32} {v5 : Int32} {v6 : Int32} {v7 : Int32} {v8 : Int32} {w : XW} (h : P_X2_tellsNumber_98 K w v2 v3 v4 v5 v6 v7 v8) : J x g (sA 15 a) (xCl g a) 12 (JQ x (sA 15 a) (QcI g (sA 15 a) (xCl g a) K)) w 98 [(0, .ref (a 3)), (2, .int v2), (3, .int v3), (4, .int v4), (5, .int v5), (6, .int v6), (7, .int v7), (8, .int v8)] [] := by
  unfold P_X2_tellsNumber_98 at h
  refine J_iload C 5 dX2_tellsNumber_98 rfl ?_
  refine J_istore C [(9, .int v6), (0, .ref (a 3)), (2, .int v2), (3, .int v3), (4, .int v4), (5, .int v5), (6, .int v6), (7, .int v7), (8, .int v8)] dX2_tellsNumber_100 (by decide) rfl ?_
  obtain ⟨nf, h⟩ := h
  refine J_lv [1, 2, 3, 4, 5, 6, 7, 8, 0] rfl ?_
  refine s_X2_tellsNumber_102 C (fun w_8 h => ?_) nf _ _ h
  · refine J_iload C 2 dX2_tellsNumber_215 rfl ?_
    refine J_iconst (v := (1 : Int32)) C dX2_tellsNumber_217 (by decide) ?_
    refine J_icmp_ne (tgt := 230) C dX2_tellsNumber_218 (by decide) h (fun h => ?_) (fun h => ?_)
    · refine J_lv [0, 1, 2] rfl ?_
      exact s_X2_tellsNumber_230 C h
    · refine J_aload_n C 0 dX2_tellsNumber_221 rfl rfl ?_
      refine J_aload_n C 0 dX2_tellsNumber_222 rfl rfl ?_
      refine G_fm_worth C mw_60 dX2_tellsNumber_223 ?_
      refine J_ineg C dX2_tellsNumber_226 ?_
      refine S_fm_worth C mw_60 dX2_tellsNumber_227 ?_
      refine J_lv [0, 1, 2] rfl ?_
      exact s_X2_tellsNumber_230 C h
def P_X2_tellsNumber_51 (K : Int32 → XW → Prop) (w : XW) (v1 : Int32) (v2 : Int32) (v3 : Int32) (v4 : Int32) (v5 : Int32) (s0 : Int32) : Prop := P_X2_pointOf (fun r_4 => P_X2_thousandsOf (fun r_5 => (v5 ≤ s0 → K (0 : Int32) w) ∧ (¬ v5 ≤ s0 → ((v5 - s0) ≤ (1 : Int32) → P_X2_tellsNumber_98 K w v2 v3 v4 v5 s0 r_4 r_5) ∧ (¬ (v5 - s0) ≤ (1 : Int32) → P_X1_byteIn (fun r_10 => (¬ r_10 = (48 : Int32) → P_X2_tellsNumber_98 K w v2 v3 v4 v5 s0 r_4 r_5) ∧ (r_10 = (48 : Int32) → K (0 : Int32) w)) w v2 s0))) v1) v1
set_option maxRecDepth 10000 in
theorem s_X2_tellsNumber_51 {x : Mx} {g : Gd} {a : Nat → Nat} (C : Cx x g (sA 15 a) (xCl g a) cX2_tellsNumber 12 RX2 (some .boolean) 1 22) {K : Int32 → XW → Prop}  {v1 : Int32} {v2 : Int32} {v3 : Int32} {v4 : Int32} {v5 : Int32} {s0 : Int32} {w : XW} (h : P_X2_tellsNumber_51 K w v1 v2 v3 v4 v5 s0) : J x g (sA 15 a) (xCl g a) 12 (JQ x (sA 15 a) (QcI g (sA 15 a) (xCl g a) K)) w 51 [(0, .ref (a 3)), (1, .int v1), (2, .int v2), (3, .int v3), (4, .int v4), (5, .int v5)] [.int s0] := by
  unfold P_X2_tellsNumber_51 at h
  refine J_istore C [(6, .int s0), (0, .ref (a 3)), (1, .int v1), (2, .int v2), (3, .int v3), (4, .int v4), (5, .int v5)] dX2_tellsNumber_51 (by decide) rfl ?_
  refine J_iload_n C 2 dX2_tellsNumber_53 rfl rfl ?_
  refine k_X2_pointOf C mw_286 dX2_tellsNumber_54 ⟨Nat.le_of_ble_eq_true rfl, Nat.le_of_ble_eq_true rfl⟩ (Nat.le_of_ble_eq_true rfl) h (fun r_4 h => ?_)
  refine J_istore C [(7, .int r_4), (6, .int s0), (0, .ref (a 3)), (1, .int v1), (2, .int v2), (3, .int v3), (4, .int v4), (5, .int v5)] dX2_tellsNumber_57 (by decide) rfl ?_
  refine J_iload_n C 3 dX2_tellsNumber_59 rfl rfl ?_
  refine k_X2_thousandsOf C mw_289 dX2_tellsNumber_60 ⟨Nat.le_of_ble_eq_true rfl, Nat.le_of_ble_eq_true rfl⟩ (Nat.le_of_ble_eq_true rfl) h (fun r_5 h => ?_)
  refine J_istore C [(8, .int r_5), (7, .int r_4), (6, .int s0), (0, .ref (a 3)), (1, .int v1), (2, .int v2), (3, .int v3), (4, .int v4), (5, .int v5)] dX2_tellsNumber_63 (by decide) rfl ?_
  refine J_iload C 8 dX2_tellsNumber_65 rfl ?_
  refine J_iload C 2 dX2_tellsNumber_67 rfl ?_
  refine J_icmp_le (tgt := 96) C dX2_tellsNumber_69 (by decide) h (fun h => ?_) (fun h => ?_)
  · refine J_iconst (v := (0 : Int32)) C dX2_tellsNumber_96 (by decide) ?_
    exact J_zret C dX2_tellsNumber_97 rfl h
  · refine J_iload C 8 dX2_tellsNumber_72 rfl ?_
    refine J_iload C 2 dX2_tellsNumber_74 rfl ?_
    refine J_isub C dX2_tellsNumber_76 ?_
    refine J_iconst (v := (1 : Int32)) C dX2_tellsNumber_77 (by decide) ?_
    refine J_icmp_le (tgt := 98) C dX2_tellsNumber_78 (by decide) h (fun h => ?_) (fun h => ?_)
    · refine J_lv [3, 5, 6, 7, 8, 2, 1, 0] rfl ?_
      exact s_X2_tellsNumber_98 C h
    · refine J_aload_n C 3 dX2_tellsNumber_81 rfl rfl ?_
      refine G_fm_cut C mw_57 dX2_tellsNumber_82 ?_
      refine J_iload_n C 5 dX2_tellsNumber_85 rfl rfl ?_
      refine J_iload C 2 dX2_tellsNumber_86 rfl ?_
      refine k_X1_byteIn C mw_282 dX2_tellsNumber_88 ⟨Nat.le_of_ble_eq_true rfl, Nat.le_of_ble_eq_true rfl⟩ (Nat.le_of_ble_eq_true rfl) h (fun r_10 h => ?_)
      refine J_bipush (v := (48 : Int32)) C dX2_tellsNumber_91 (by decide) ?_
      refine J_icmp_ne (tgt := 98) C dX2_tellsNumber_93 (by decide) h (fun h => ?_) (fun h => ?_)
      · refine J_lv [3, 5, 6, 7, 8, 2, 1, 0] rfl ?_
        exact s_X2_tellsNumber_98 C h
      · refine J_iconst (v := (0 : Int32)) C dX2_tellsNumber_96 (by decide) ?_
        exact J_zret C dX2_tellsNumber_97 rfl h
def P_X2_tellsNumber_30 (K : Int32 → XW → Prop) (w : XW) (v1 : Int32) (v2 : Int32) (v3 : Int32) (v4 : Int32) (s0 : Int32) : Prop := P_X1_byteIn (fun r_3 => (¬ r_3 = (45 : Int32) → P_X2_tellsNumber_51 K w v1 v2 v3 v4 s0 (0 : Int32)) ∧ (r_3 = (45 : Int32) → P_X2_tellsNumber_51 K w v1 v2 v3 v4 s0 (1 : Int32))) w v2 (0 : Int32)
set_option maxRecDepth 10000 in
theorem s_X2_tellsNumber_30 {x : Mx} {g : Gd} {a : Nat → Nat} (C : Cx x g (sA 15 a) (xCl g a) cX2_tellsNumber 12 RX2 (some .boolean) 1 22) {K : Int32 → XW → Prop}  {v1 : Int32} {v2 : Int32} {v3 : Int32} {v4 : Int32} {s0 : Int32} {w : XW} (h : P_X2_tellsNumber_30 K w v1 v2 v3 v4 s0) : J x g (sA 15 a) (xCl g a) 12 (JQ x (sA 15 a) (QcI g (sA 15 a) (xCl g a) K)) w 30 [(0, .ref (a 3)), (1, .int v1), (2, .int v2), (3, .int v3), (4, .int v4)] [.int s0] := by
  unfold P_X2_tellsNumber_30 at h
  refine J_istore C [(5, .int s0), (0, .ref (a 3)), (1, .int v1), (2, .int v2), (3, .int v3), (4, .int v4)] dX2_tellsNumber_30 (by decide) rfl ?_
  refine J_aload_n C 1 dX2_tellsNumber_32 rfl rfl ?_
  refine G_fm_cut C mw_57 dX2_tellsNumber_33 ?_
  refine J_iload_n C 3 dX2_tellsNumber_36 rfl rfl ?_
  refine J_iconst (v := (0 : Int32)) C dX2_tellsNumber_37 (by decide) ?_
  refine k_X1_byteIn C mw_282 dX2_tellsNumber_38 ⟨Nat.le_of_ble_eq_true rfl, Nat.le_of_ble_eq_true rfl⟩ (Nat.le_of_ble_eq_true rfl) h (fun r_3 h => ?_)
  refine J_bipush (v := (45 : Int32)) C dX2_tellsNumber_41 (by decide) ?_
  refine J_icmp_ne (tgt := 50) C dX2_tellsNumber_43 (by decide) h (fun h => ?_) (fun h => ?_)
  · refine J_iconst (v := (0 : Int32)) C dX2_tellsNumber_50 (by decide) ?_
    refine J_lv [1, 2, 3, 4, 5, 0] rfl ?_
    exact s_X2_tellsNumber_51 C h
  · refine J_iconst (v := (1 : Int32)) C dX2_tellsNumber_46 (by decide) ?_
    refine J_goto (tgt := 51) C dX2_tellsNumber_47 (by decide) ?_
    refine J_lv [1, 2, 3, 4, 5, 0] rfl ?_
    exact s_X2_tellsNumber_51 C h
def P_X2_tellsNumber (K : Int32 → XW → Prop) (w : XW) (v1 : Int32) (v2 : Int32) : Prop := P_X2_decimalsOf (fun r_1 => P_X1_lengthOf (fun r_2 => (r_1 ≤ 0 → P_X2_tellsNumber_30 K w v1 v2 r_1 r_2 r_2) ∧ (¬ r_1 ≤ 0 → P_X2_tellsNumber_30 K w v1 v2 r_1 r_2 ((r_2 - r_1) - (1 : Int32)))) w v2) v1
set_option maxRecDepth 10000 in
theorem s_X2_tellsNumber {x : Mx} {g : Gd} {a : Nat → Nat} (C : Cx x g (sA 15 a) (xCl g a) cX2_tellsNumber 12 RX2 (some .boolean) 1 22) {K : Int32 → XW → Prop}  {w : XW} {v1 : Int32} {v2 : Int32} (h : P_X2_tellsNumber K w v1 v2) : J x g (sA 15 a) (xCl g a) 12 (JQ x (sA 15 a) (QcI g (sA 15 a) (xCl g a) K)) w 0 [(0, .ref (a 3)), (1, .int v1), (2, .int v2)] [] := by
  unfold P_X2_tellsNumber at h
  refine J_iload_n C 1 dX2_tellsNumber_0 rfl rfl ?_
  refine k_X2_decimalsOf C mw_279 dX2_tellsNumber_1 ⟨Nat.le_of_ble_eq_true rfl, Nat.le_of_ble_eq_true rfl⟩ (Nat.le_of_ble_eq_true rfl) h (fun r_1 h => ?_)
  refine J_istore_n C [(3, .int r_1), (0, .ref (a 3)), (1, .int v1), (2, .int v2)] dX2_tellsNumber_4 rfl (by decide) rfl ?_
  refine J_aload_n C 1 dX2_tellsNumber_5 rfl rfl ?_
  refine G_fm_cut C mw_57 dX2_tellsNumber_6 ?_
  refine J_iload_n C 3 dX2_tellsNumber_9 rfl rfl ?_
  refine k_X1_lengthOf C mw_258 dX2_tellsNumber_10 ⟨Nat.le_of_ble_eq_true rfl, Nat.le_of_ble_eq_true rfl⟩ (Nat.le_of_ble_eq_true rfl) h (fun r_2 h => ?_)
  refine J_istore C [(4, .int r_2), (3, .int r_1), (0, .ref (a 3)), (1, .int v1), (2, .int v2)] dX2_tellsNumber_13 (by decide) rfl ?_
  refine J_iload_n C 1 dX2_tellsNumber_15 rfl rfl ?_
  refine J_if_le (tgt := 28) C dX2_tellsNumber_16 (by decide) h (fun h => ?_) (fun h => ?_)
  · refine J_iload C 0 dX2_tellsNumber_28 rfl ?_
    refine J_lv [2, 3, 4, 1, 0] rfl ?_
    exact s_X2_tellsNumber_30 C h
  · refine J_iload C 0 dX2_tellsNumber_19 rfl ?_
    refine J_iload_n C 1 dX2_tellsNumber_21 rfl rfl ?_
    refine J_isub C dX2_tellsNumber_22 ?_
    refine J_iconst (v := (1 : Int32)) C dX2_tellsNumber_23 (by decide) ?_
    refine J_isub C dX2_tellsNumber_24 ?_
    refine J_goto (tgt := 30) C dX2_tellsNumber_25 (by decide) ?_
    refine J_lv [2, 3, 4, 1, 0] rfl ?_
    exact s_X2_tellsNumber_30 C h
theorem c_X2_tellsNumber {l : Launch} {g : Gd} {a : Nat → Nat} {w : XW} {K : Int32 → XW → Prop} {v1 : Int32} {v2 : Int32} (h : P_X2_tellsNumber K w v1 v2) : Kt l yX2_tellsNumber cX2_tellsNumber 12 (some .boolean) 1 22 g (sA 15 a) (xCl g a) [.ref (a 3), .int v1, .int v2] w (QcI g (sA 15 a) (xCl g a) K) :=
  Kt_of (by decide +kernel) (Nat.le_of_ble_eq_true rfl) (fun x hx C => s_X2_tellsNumber C h)
theorem k_X2_tellsNumber {x : Mx} {g : Gd} {a : Nat → Nat} {cc : ByteArray} {nL : Nat} {own : String} {ret : Option FieldType} {F L : Nat} {Q : State → Prop} {w : XW} {pc : Nat} {lv : List (Nat × Value)} {st : List Value} (C : Cx x g (sA 15 a) (xCl g a) cc nL own ret F L) {index : Nat} {K : Int32 → XW → Prop} {v1 : Int32} {v2 : Int32} (h1 : Cond.methodLink own index yX2_tellsNumber ∈ gT) (hd : decode cc pc = .ok (.invokevirtual index, 3)) (hR : 1 + 1 ≤ F ∧ 8 + (12 + 11) + 22 ≤ L) (hst : (st.map fun v => v.category).sum ≤ 8) (h : P_X2_tellsNumber K w v1 v2) (k : ∀ (r : Int32) (w' : XW), K r w' → J x g (sA 15 a) (xCl g a) nL Q w' (pc + 3) lv (.int r :: st)) : J x g (sA 15 a) (xCl g a) nL Q w (pc) lv (.int v2 :: .int v1 :: .ref (a 3) :: st) :=
  J_callVi C (As := [.int v1, .int v2]) (b := a 3) (n := 2) (c_X2_tellsNumber h) h1 mw_277 mw_764 mw_4 mw_278 (by decide +kernel) hR rfl (rc_X2 C) hst hd k
-- X1_numberIn (pure, room 0 0)
def P_X1_numberIn_45 (K : Int32 → Prop) (w : XW) (v1 : Int32) (v2 : Int32) (v3 : Int32) : Nat → Int32 → Int32 → Prop
  | 0, _, _ => False
  | n + 1, v4, v5 => (v3 ≤ v5 → K v4) ∧ (¬ v3 ≤ v5 → vp_in v1 961 ∧ (vp_in (((cu_cellStart w v1.toNatClampNeg) + v2) + v5) 1200 ∧ (((cu_held w (((cu_cellStart w v1.toNatClampNeg) + v2) + v5).toNatClampNeg) < (48 : Int32) → K (-1 : Int32)) ∧ (¬ (cu_held w (((cu_cellStart w v1.toNatClampNeg) + v2) + v5).toNatClampNeg) < (48 : Int32) → ((cu_held w (((cu_cellStart w v1.toNatClampNeg) + v2) + v5).toNatClampNeg) ≤ (57 : Int32) → P_X1_numberIn_45 K w v1 v2 v3 n (((v4 * (10 : Int32)) + (cu_held w (((cu_cellStart w v1.toNatClampNeg) + v2) + v5).toNatClampNeg)) - (48 : Int32)) (v5 + (1 : Int32))) ∧ (¬ (cu_held w (((cu_cellStart w v1.toNatClampNeg) + v2) + v5).toNatClampNeg) ≤ (57 : Int32) → K (-1 : Int32))))))
set_option maxRecDepth 10000 in
theorem s_X1_numberIn_45 {x : Mx} {g : Gd} {a : Nat → Nat} (C : Cx x g (sA 15 a) (xCl g a) cX1_numberIn 7 RX1 (some .int) 0 0) {K : Int32 → Prop} {w : XW}  {v1 : Int32} {v2 : Int32} {v3 : Int32} : ∀ (n : Nat) (v4 : Int32) (v5 : Int32), P_X1_numberIn_45 K w v1 v2 v3 n v4 v5 → J x g (sA 15 a) (xCl g a) 7 (JQ x (sA 15 a) (QcI g (sA 15 a) (xCl g a) (fun r w' => K r ∧ w' = w))) w 45 [(0, .ref (a 1)), (1, .int v1), (2, .int v2), (3, .int v3), (4, .int v4), (5, .int v5)] [] := by
  intro n
  induction n with
  | zero => intro v4 v5 h; exact h.elim
  | succ n ih =>
    intro v4 v5 h
    unfold P_X1_numberIn_45 at h
    refine J_iload C 5 dX1_numberIn_45 rfl ?_
    refine J_iload_n C 3 dX1_numberIn_47 rfl rfl ?_
    refine J_icmp_ge (tgt := 104) C dX1_numberIn_48 (by decide) h (fun h => ?_) (fun h => ?_)
    · refine J_iload C 4 dX1_numberIn_104 rfl ?_
      exact J_iret C dX1_numberIn_106 ⟨h, rfl⟩
    · refine J_aload_n C 0 dX1_numberIn_51 rfl rfl ?_
      refine G_cu_held C mw_27 dX1_numberIn_52 ?_
      refine J_aload_n C 0 dX1_numberIn_55 rfl rfl ?_
      refine G_cu_cellStart C mw_28 dX1_numberIn_56 ?_
      refine J_iload_n C 1 dX1_numberIn_59 rfl rfl ?_
      refine L_cu_cellStart C dX1_numberIn_60 h (fun h => ?_)
      refine J_iload_n C 2 dX1_numberIn_61 rfl rfl ?_
      refine J_iadd C dX1_numberIn_62 ?_
      refine J_iload C 5 dX1_numberIn_63 rfl ?_
      refine J_iadd C dX1_numberIn_65 ?_
      refine L_cu_held C dX1_numberIn_66 h (fun h => ?_)
      refine J_istore C [(6, .int (cu_held w (((cu_cellStart w v1.toNatClampNeg) + v2) + v5).toNatClampNeg)), (0, .ref (a 1)), (1, .int v1), (2, .int v2), (3, .int v3), (4, .int v4), (5, .int v5)] dX1_numberIn_67 (by decide) rfl ?_
      refine J_iload C 0 dX1_numberIn_69 rfl ?_
      refine J_bipush (v := (48 : Int32)) C dX1_numberIn_71 (by decide) ?_
      refine J_icmp_lt (tgt := 83) C dX1_numberIn_73 (by decide) h (fun h => ?_) (fun h => ?_)
      · refine J_iconst (v := (-1 : Int32)) C dX1_numberIn_83 (by decide) ?_
        exact J_iret C dX1_numberIn_84 ⟨h, rfl⟩
      · refine J_iload C 0 dX1_numberIn_76 rfl ?_
        refine J_bipush (v := (57 : Int32)) C dX1_numberIn_78 (by decide) ?_
        refine J_icmp_le (tgt := 85) C dX1_numberIn_80 (by decide) h (fun h => ?_) (fun h => ?_)
        · refine J_iload C 5 dX1_numberIn_85 rfl ?_
          refine J_bipush (v := (10 : Int32)) C dX1_numberIn_87 (by decide) ?_
          refine J_imul C dX1_numberIn_89 ?_
          refine J_iload C 0 dX1_numberIn_90 rfl ?_
          refine J_iadd C dX1_numberIn_92 ?_
          refine J_bipush (v := (48 : Int32)) C dX1_numberIn_93 (by decide) ?_
          refine J_isub C dX1_numberIn_95 ?_
          refine J_istore C [(4, .int (((v4 * (10 : Int32)) + (cu_held w (((cu_cellStart w v1.toNatClampNeg) + v2) + v5).toNatClampNeg)) - (48 : Int32))), (6, .int (cu_held w (((cu_cellStart w v1.toNatClampNeg) + v2) + v5).toNatClampNeg)), (0, .ref (a 1)), (1, .int v1), (2, .int v2), (3, .int v3), (5, .int v5)] dX1_numberIn_96 (by decide) rfl ?_
          refine J_iinc C 6 [(5, .int (v5 + (1 : Int32))), (4, .int (((v4 * (10 : Int32)) + (cu_held w (((cu_cellStart w v1.toNatClampNeg) + v2) + v5).toNatClampNeg)) - (48 : Int32))), (6, .int (cu_held w (((cu_cellStart w v1.toNatClampNeg) + v2) + v5).toNatClampNeg)), (0, .ref (a 1)), (1, .int v1), (2, .int v2), (3, .int v3)] dX1_numberIn_98 rfl rfl (by decide) rfl ?_
          refine J_goto (tgt := 45) C dX1_numberIn_101 (by decide) ?_
          refine J_lv [3, 4, 5, 6, 1, 0] rfl ?_
          exact ih _ _ h
        · refine J_iconst (v := (-1 : Int32)) C dX1_numberIn_83 (by decide) ?_
          exact J_iret C dX1_numberIn_84 ⟨h, rfl⟩
def P_X1_numberIn (K : Int32 → Prop) (w : XW) (v1 : Int32) (v2 : Int32) (v3 : Int32) : Prop := (v1 < 0 → K (-1 : Int32)) ∧ (¬ v1 < 0 → ((cu_cells w) ≤ v1 → K (-1 : Int32)) ∧ (¬ (cu_cells w) ≤ v1 → (v2 < 0 → K (-1 : Int32)) ∧ (¬ v2 < 0 → vp_in (v1 + (1 : Int32)) 961 ∧ (vp_in v1 961 ∧ ((v2 ≤ (((cu_cellStart w (v1 + (1 : Int32)).toNatClampNeg) - (cu_cellStart w v1.toNatClampNeg)) - v3) → ∃ nf : Nat, P_X1_numberIn_45 K w v1 v2 v3 nf (0 : Int32) (0 : Int32)) ∧ (¬ v2 ≤ (((cu_cellStart w (v1 + (1 : Int32)).toNatClampNeg) - (cu_cellStart w v1.toNatClampNeg)) - v3) → K (-1 : Int32)))))))
set_option maxRecDepth 10000 in
theorem s_X1_numberIn {x : Mx} {g : Gd} {a : Nat → Nat} (C : Cx x g (sA 15 a) (xCl g a) cX1_numberIn 7 RX1 (some .int) 0 0) {K : Int32 → Prop} {w : XW}  {v1 : Int32} {v2 : Int32} {v3 : Int32} (h : P_X1_numberIn K w v1 v2 v3) : J x g (sA 15 a) (xCl g a) 7 (JQ x (sA 15 a) (QcI g (sA 15 a) (xCl g a) (fun r w' => K r ∧ w' = w))) w 0 [(0, .ref (a 1)), (1, .int v1), (2, .int v2), (3, .int v3)] [] := by
  unfold P_X1_numberIn at h
  refine J_iload_n C 1 dX1_numberIn_0 rfl rfl ?_
  refine J_if_lt (tgt := 37) C dX1_numberIn_1 (by decide) h (fun h => ?_) (fun h => ?_)
  · refine J_iconst (v := (-1 : Int32)) C dX1_numberIn_37 (by decide) ?_
    exact J_iret C dX1_numberIn_38 ⟨h, rfl⟩
  · refine J_iload_n C 1 dX1_numberIn_4 rfl rfl ?_
    refine J_aload_n C 0 dX1_numberIn_5 rfl rfl ?_
    refine G_cu_cells C mw_31 dX1_numberIn_6 ?_
    refine J_icmp_ge (tgt := 37) C dX1_numberIn_9 (by decide) h (fun h => ?_) (fun h => ?_)
    · refine J_iconst (v := (-1 : Int32)) C dX1_numberIn_37 (by decide) ?_
      exact J_iret C dX1_numberIn_38 ⟨h, rfl⟩
    · refine J_iload_n C 2 dX1_numberIn_12 rfl rfl ?_
      refine J_if_lt (tgt := 37) C dX1_numberIn_13 (by decide) h (fun h => ?_) (fun h => ?_)
      · refine J_iconst (v := (-1 : Int32)) C dX1_numberIn_37 (by decide) ?_
        exact J_iret C dX1_numberIn_38 ⟨h, rfl⟩
      · refine J_iload_n C 2 dX1_numberIn_16 rfl rfl ?_
        refine J_aload_n C 0 dX1_numberIn_17 rfl rfl ?_
        refine G_cu_cellStart C mw_28 dX1_numberIn_18 ?_
        refine J_iload_n C 1 dX1_numberIn_21 rfl rfl ?_
        refine J_iconst (v := (1 : Int32)) C dX1_numberIn_22 (by decide) ?_
        refine J_iadd C dX1_numberIn_23 ?_
        refine L_cu_cellStart C dX1_numberIn_24 h (fun h => ?_)
        refine J_aload_n C 0 dX1_numberIn_25 rfl rfl ?_
        refine G_cu_cellStart C mw_28 dX1_numberIn_26 ?_
        refine J_iload_n C 1 dX1_numberIn_29 rfl rfl ?_
        refine L_cu_cellStart C dX1_numberIn_30 h (fun h => ?_)
        refine J_isub C dX1_numberIn_31 ?_
        refine J_iload_n C 3 dX1_numberIn_32 rfl rfl ?_
        refine J_isub C dX1_numberIn_33 ?_
        refine J_icmp_le (tgt := 39) C dX1_numberIn_34 (by decide) h (fun h => ?_) (fun h => ?_)
        · refine J_iconst (v := (0 : Int32)) C dX1_numberIn_39 (by decide) ?_
          refine J_istore C [(4, .int (0 : Int32)), (0, .ref (a 1)), (1, .int v1), (2, .int v2), (3, .int v3)] dX1_numberIn_40 (by decide) rfl ?_
          refine J_iconst (v := (0 : Int32)) C dX1_numberIn_42 (by decide) ?_
          refine J_istore C [(5, .int (0 : Int32)), (4, .int (0 : Int32)), (0, .ref (a 1)), (1, .int v1), (2, .int v2), (3, .int v3)] dX1_numberIn_43 (by decide) rfl ?_
          obtain ⟨nf, h⟩ := h
          refine J_lv [2, 3, 4, 5, 1, 0] rfl ?_
          refine s_X1_numberIn_45 C  nf _ _ h
        · refine J_iconst (v := (-1 : Int32)) C dX1_numberIn_37 (by decide) ?_
          exact J_iret C dX1_numberIn_38 ⟨h, rfl⟩
theorem c_X1_numberIn {l : Launch} {g : Gd} {a : Nat → Nat} {w : XW} {K : Int32 → Prop} {v1 : Int32} {v2 : Int32} {v3 : Int32} (h : P_X1_numberIn K w v1 v2 v3) : Kt l yX1_numberIn cX1_numberIn 7 (some .int) 0 0 g (sA 15 a) (xCl g a) [.ref (a 1), .int v1, .int v2, .int v3] w (QcI g (sA 15 a) (xCl g a) (fun r w' => K r ∧ w' = w)) :=
  Kt_of (by decide +kernel) (Nat.le_of_ble_eq_true rfl) (fun x hx C => s_X1_numberIn C h)
theorem k_X1_numberIn {x : Mx} {g : Gd} {a : Nat → Nat} {cc : ByteArray} {nL : Nat} {own : String} {ret : Option FieldType} {F L : Nat} {Q : State → Prop} {w : XW} {pc : Nat} {lv : List (Nat × Value)} {st : List Value} (C : Cx x g (sA 15 a) (xCl g a) cc nL own ret F L) {index : Nat} {K : Int32 → Prop} {v1 : Int32} {v2 : Int32} {v3 : Int32} (h1 : Cond.methodLink own index yX1_numberIn ∈ gT) (hd : decode cc pc = .ok (.invokevirtual index, 3)) (hR : 0 + 1 ≤ F ∧ 8 + (7 + 11) + 0 ≤ L) (hst : (st.map fun v => v.category).sum ≤ 8) (h : P_X1_numberIn K w v1 v2 v3) (k : ∀ (r : Int32), K r → J x g (sA 15 a) (xCl g a) nL Q w (pc + 3) lv (.int r :: st)) : J x g (sA 15 a) (xCl g a) nL Q w (pc) lv (.int v3 :: .int v2 :: .int v1 :: .ref (a 1) :: st) :=
  J_callVi C (As := [.int v1, .int v2, .int v3]) (b := a 1) (n := 3) (c_X1_numberIn h) h1 mw_303 mw_304 mw_2 mw_305 (by decide +kernel) hR rfl (rc_X1 C) hst hd (fun r w' hK => by
    obtain ⟨hK, rfl⟩ := hK
    exact k r hK)
-- X2_daysOf (pure, room 0 0)
def P_X2_daysOf_56 (K : Int32 → Prop) (v1 : Int32) : Prop := vp_in (v1 - (1 : Int32)) 12 ∧ (K (tbN (v1 - (1 : Int32)).toNatClampNeg))
set_option maxRecDepth 10000 in
theorem s_X2_daysOf_56 {x : Mx} {g : Gd} {Wd : Type} {A : Nat → Prop} {cl : Wd → va_W} (C : Cx x g A cl cX2_daysOf 3 RX2 (some .int) 0 0) {K : Int32 → Prop} {w : Wd}  {v1 : Int32} (h : P_X2_daysOf_56 K v1) : J x g A cl 3 (JQ x A (QcI g A cl (fun r w' => K r ∧ w' = w))) w 56 [(1, .int v1)] [] := by
  unfold P_X2_daysOf_56 at h
  refine J_gets C C.2.2.2.2.2.2.2.1.2.2.2.2.2.2.1 mw_309 dX2_daysOf_56 ?_
  refine J_iload_n C 0 dX2_daysOf_59 rfl rfl ?_
  refine J_iconst (v := (1 : Int32)) C dX2_daysOf_60 (by decide) ?_
  refine J_isub C dX2_daysOf_61 ?_
  refine J_ti C C.2.2.2.2.2.2.2.1.2.2.2.2.2.2.2 dX2_daysOf_62 h (fun h => ?_)
  exact J_iret C dX2_daysOf_63 ⟨h, rfl⟩
def P_X2_daysOf_41 (K : Int32 → Prop) (v1 : Int32) (s0 : Int32) : Prop := (¬ v1 = (2 : Int32) → P_X2_daysOf_56 K v1) ∧ (v1 = (2 : Int32) → (s0 = 0 → P_X2_daysOf_56 K v1) ∧ (¬ s0 = 0 → K (29 : Int32)))
set_option maxRecDepth 10000 in
theorem s_X2_daysOf_41 {x : Mx} {g : Gd} {Wd : Type} {A : Nat → Prop} {cl : Wd → va_W} (C : Cx x g A cl cX2_daysOf 3 RX2 (some .int) 0 0) {K : Int32 → Prop} {w : Wd}  {v1 : Int32} {s0 : Int32} (h : P_X2_daysOf_41 K v1 s0) : J x g A cl 3 (JQ x A (QcI g A cl (fun r w' => K r ∧ w' = w))) w 41 [(1, .int v1)] [.int s0] := by
  unfold P_X2_daysOf_41 at h
  refine J_istore_n C [(2, .int s0), (1, .int v1)] dX2_daysOf_41 rfl (by decide) rfl ?_
  refine J_iload_n C 1 dX2_daysOf_42 rfl rfl ?_
  refine J_iconst (v := (2 : Int32)) C dX2_daysOf_43 (by decide) ?_
  refine J_icmp_ne (tgt := 56) C dX2_daysOf_44 (by decide) h (fun h => ?_) (fun h => ?_)
  · refine J_lv [1] rfl ?_
    exact s_X2_daysOf_56 C h
  · refine J_iload_n C 0 dX2_daysOf_47 rfl rfl ?_
    refine J_if_eq (tgt := 56) C dX2_daysOf_48 (by decide) h (fun h => ?_) (fun h => ?_)
    · refine J_lv [1] rfl ?_
      exact s_X2_daysOf_56 C h
    · refine J_bipush (v := (29 : Int32)) C dX2_daysOf_51 (by decide) ?_
      refine J_goto (tgt := 63) C dX2_daysOf_53 (by decide) ?_
      exact J_iret C dX2_daysOf_63 ⟨h, rfl⟩
def P_X2_daysOf_40 (K : Int32 → Prop) (v1 : Int32) : Prop := P_X2_daysOf_41 K v1 (0 : Int32)
set_option maxRecDepth 10000 in
theorem s_X2_daysOf_40 {x : Mx} {g : Gd} {Wd : Type} {A : Nat → Prop} {cl : Wd → va_W} (C : Cx x g A cl cX2_daysOf 3 RX2 (some .int) 0 0) {K : Int32 → Prop} {w : Wd}  {v1 : Int32} (h : P_X2_daysOf_40 K v1) : J x g A cl 3 (JQ x A (QcI g A cl (fun r w' => K r ∧ w' = w))) w 40 [(1, .int v1)] [] := by
  unfold P_X2_daysOf_40 at h
  refine J_iconst (v := (0 : Int32)) C dX2_daysOf_40 (by decide) ?_
  refine J_lv [0] rfl ?_
  exact s_X2_daysOf_41 C h
def P_X2_daysOf_36 (K : Int32 → Prop) (v1 : Int32) : Prop := P_X2_daysOf_41 K v1 (1 : Int32)
set_option maxRecDepth 10000 in
theorem s_X2_daysOf_36 {x : Mx} {g : Gd} {Wd : Type} {A : Nat → Prop} {cl : Wd → va_W} (C : Cx x g A cl cX2_daysOf 3 RX2 (some .int) 0 0) {K : Int32 → Prop} {w : Wd}  {v1 : Int32} (h : P_X2_daysOf_36 K v1) : J x g A cl 3 (JQ x A (QcI g A cl (fun r w' => K r ∧ w' = w))) w 36 [(1, .int v1)] [] := by
  unfold P_X2_daysOf_36 at h
  refine J_iconst (v := (1 : Int32)) C dX2_daysOf_36 (by decide) ?_
  refine J_goto (tgt := 41) C dX2_daysOf_37 (by decide) ?_
  refine J_lv [0] rfl ?_
  exact s_X2_daysOf_41 C h
def P_X2_daysOf (K : Int32 → Prop) (v0 : Int32) (v1 : Int32) : Prop := (v1 < (1 : Int32) → K (0 : Int32)) ∧ (¬ v1 < (1 : Int32) → (v1 ≤ (12 : Int32) → (¬ (v0 - v0 / (4 : Int32) * (4 : Int32)) = 0 → P_X2_daysOf_40 K v1) ∧ ((v0 - v0 / (4 : Int32) * (4 : Int32)) = 0 → (¬ (v0 - v0 / (100 : Int32) * (100 : Int32)) = 0 → P_X2_daysOf_36 K v1) ∧ ((v0 - v0 / (100 : Int32) * (100 : Int32)) = 0 → (¬ (v0 - v0 / (400 : Int32) * (400 : Int32)) = 0 → P_X2_daysOf_40 K v1) ∧ ((v0 - v0 / (400 : Int32) * (400 : Int32)) = 0 → P_X2_daysOf_36 K v1)))) ∧ (¬ v1 ≤ (12 : Int32) → K (0 : Int32)))
set_option maxRecDepth 10000 in
theorem s_X2_daysOf {x : Mx} {g : Gd} {Wd : Type} {A : Nat → Prop} {cl : Wd → va_W} (C : Cx x g A cl cX2_daysOf 3 RX2 (some .int) 0 0) {K : Int32 → Prop} {w : Wd}  {v0 : Int32} {v1 : Int32} (h : P_X2_daysOf K v0 v1) : J x g A cl 3 (JQ x A (QcI g A cl (fun r w' => K r ∧ w' = w))) w 0 [(0, .int v0), (1, .int v1)] [] := by
  unfold P_X2_daysOf at h
  refine J_iload_n C 1 dX2_daysOf_0 rfl rfl ?_
  refine J_iconst (v := (1 : Int32)) C dX2_daysOf_1 (by decide) ?_
  refine J_icmp_lt (tgt := 13) C dX2_daysOf_2 (by decide) h (fun h => ?_) (fun h => ?_)
  · refine J_iconst (v := (0 : Int32)) C dX2_daysOf_13 (by decide) ?_
    exact J_iret C dX2_daysOf_14 ⟨h, rfl⟩
  · refine J_iload_n C 1 dX2_daysOf_5 rfl rfl ?_
    refine J_gets C C.2.2.2.2.2.2.2.1.2.2.2.2.2.2.1 mw_309 dX2_daysOf_6 ?_
    refine J_tlen (v := (12 : Int32)) C C.2.2.2.2.2.2.2.1.2.2.2.2.2.2.2 rfl dX2_daysOf_9 ?_
    refine J_icmp_le (tgt := 15) C dX2_daysOf_10 (by decide) h (fun h => ?_) (fun h => ?_)
    · refine J_iload_n C 0 dX2_daysOf_15 rfl rfl ?_
      refine J_iconst (v := (4 : Int32)) C dX2_daysOf_16 (by decide) ?_
      refine J_irem C dX2_daysOf_17 (by decide) ?_
      refine J_if_ne (tgt := 40) C dX2_daysOf_18 (by decide) h (fun h => ?_) (fun h => ?_)
      · refine J_lv [1] rfl ?_
        exact s_X2_daysOf_40 C h
      · refine J_iload_n C 0 dX2_daysOf_21 rfl rfl ?_
        refine J_bipush (v := (100 : Int32)) C dX2_daysOf_22 (by decide) ?_
        refine J_irem C dX2_daysOf_24 (by decide) ?_
        refine J_if_ne (tgt := 36) C dX2_daysOf_25 (by decide) h (fun h => ?_) (fun h => ?_)
        · refine J_lv [1] rfl ?_
          exact s_X2_daysOf_36 C h
        · refine J_iload_n C 0 dX2_daysOf_28 rfl rfl ?_
          refine J_sipush (v := (400 : Int32)) C dX2_daysOf_29 (by decide) ?_
          refine J_irem C dX2_daysOf_32 (by decide) ?_
          refine J_if_ne (tgt := 40) C dX2_daysOf_33 (by decide) h (fun h => ?_) (fun h => ?_)
          · refine J_lv [1] rfl ?_
            exact s_X2_daysOf_40 C h
          · refine J_lv [1] rfl ?_
            exact s_X2_daysOf_36 C h
    · refine J_iconst (v := (0 : Int32)) C dX2_daysOf_13 (by decide) ?_
      exact J_iret C dX2_daysOf_14 ⟨h, rfl⟩
theorem c_X2_daysOf {l : Launch} {g : Gd} {Wd : Type} {A : Nat → Prop} {cl : Wd → va_W} {w : Wd} {K : Int32 → Prop} {v0 : Int32} {v1 : Int32} (h : P_X2_daysOf K v0 v1) : Kt l yX2_daysOf cX2_daysOf 3 (some .int) 0 0 g A cl [.int v0, .int v1] w (QcI g A cl (fun r w' => K r ∧ w' = w)) :=
  Kt_of (by decide +kernel) (Nat.le_of_ble_eq_true rfl) (fun x hx C => s_X2_daysOf C h)
theorem k_X2_daysOf {x : Mx} {g : Gd} {Wd : Type} {A : Nat → Prop} {cl : Wd → va_W} {cc : ByteArray} {nL : Nat} {own : String} {ret : Option FieldType} {F L : Nat} {Q : State → Prop} {w : Wd} {pc : Nat} {lv : List (Nat × Value)} {st : List Value} (C : Cx x g A cl cc nL own ret F L) {index : Nat} {K : Int32 → Prop} {v0 : Int32} {v1 : Int32} (h1 : Cond.methodLink own index yX2_daysOf ∈ gT) (hd : decode cc pc = .ok (.invokestatic index, 3)) (hR : 0 + 1 ≤ F ∧ 8 + (3 + 11) + 0 ≤ L) (hst : (st.map fun v => v.category).sum ≤ 8) (h : P_X2_daysOf K v0 v1) (k : ∀ (r : Int32), K r → J x g A cl nL Q w (pc + 3) lv (.int r :: st)) : J x g A cl nL Q w (pc) lv (.int v1 :: .int v0 :: st) :=
  J_callSi C (As := [.int v0, .int v1]) (n := 2) (c_X2_daysOf h) h1 mw_307 mw_4 mw_308 (by decide +kernel) hR rfl hst hd (fun r w' hK => by
    obtain ⟨hK, rfl⟩ := hK
    exact k r hK)
-- X2_tellsDay (changes, room 1 26)
def P_X2_tellsDay_176 (K : Int32 → XW → Prop) (w : XW) (v6 : Int32) (v7 : Int32) (s0 : Int32) (s1 : Int32) : Prop := P_X1_numberIn (fun r_6 => (v6 < (1600 : Int32) → K (0 : Int32) w) ∧ (¬ v6 < (1600 : Int32) → ((2999 : Int32) < v6 → K (0 : Int32) w) ∧ (¬ (2999 : Int32) < v6 → (r_6 < (1 : Int32) → K (0 : Int32) w) ∧ (¬ r_6 < (1 : Int32) → P_X2_daysOf (fun r_7 => (r_6 ≤ r_7 → K (1 : Int32) (fm_worth_s w (((v6 * (10000 : Int32)) + (v7 * (100 : Int32))) + r_6))) ∧ (¬ r_6 ≤ r_7 → K (0 : Int32) w)) v6 v7)))) w s1 s0 (2 : Int32)
set_option maxRecDepth 10000 in
theorem s_X2_tellsDay_176 {x : Mx} {g : Gd} {a : Nat → Nat} (C : Cx x g (sA 15 a) (xCl g a) cX2_tellsDay 9 RX2 (some .boolean) 1 26) {K : Int32 → XW → Prop}  {v6 : Int32} {v7 : Int32} {s0 : Int32} {s1 : Int32} {w : XW} (h : P_X2_tellsDay_176 K w v6 v7 s0 s1) : J x g (sA 15 a) (xCl g a) 9 (JQ x (sA 15 a) (QcI g (sA 15 a) (xCl g a) K)) w 176 [(0, .ref (a 3)), (6, .int v6), (7, .int v7)] [.int s0, .int s1, .ref (a 1)] := by
  unfold P_X2_tellsDay_176 at h
  refine J_iconst (v := (2 : Int32)) C dX2_tellsDay_176 (by decide) ?_
  refine k_X1_numberIn C mw_302 dX2_tellsDay_177 ⟨Nat.le_of_ble_eq_true rfl, Nat.le_of_ble_eq_true rfl⟩ (Nat.le_of_ble_eq_true rfl) h (fun r_6 h => ?_)
  refine J_istore C [(8, .int r_6), (0, .ref (a 3)), (6, .int v6), (7, .int v7)] dX2_tellsDay_180 (by decide) rfl ?_
  refine J_iload C 2 dX2_tellsDay_182 rfl ?_
  refine J_sipush (v := (1600 : Int32)) C dX2_tellsDay_184 (by decide) ?_
  refine J_icmp_lt (tgt := 216) C dX2_tellsDay_187 (by decide) h (fun h => ?_) (fun h => ?_)
  · refine J_iconst (v := (0 : Int32)) C dX2_tellsDay_216 (by decide) ?_
    exact J_zret C dX2_tellsDay_217 rfl h
  · refine J_iload C 2 dX2_tellsDay_190 rfl ?_
    refine J_sipush (v := (2999 : Int32)) C dX2_tellsDay_192 (by decide) ?_
    refine J_icmp_gt (tgt := 216) C dX2_tellsDay_195 (by decide) h (fun h => ?_) (fun h => ?_)
    · refine J_iconst (v := (0 : Int32)) C dX2_tellsDay_216 (by decide) ?_
      exact J_zret C dX2_tellsDay_217 rfl h
    · refine J_iload C 0 dX2_tellsDay_198 rfl ?_
      refine J_iconst (v := (1 : Int32)) C dX2_tellsDay_200 (by decide) ?_
      refine J_icmp_lt (tgt := 216) C dX2_tellsDay_201 (by decide) h (fun h => ?_) (fun h => ?_)
      · refine J_iconst (v := (0 : Int32)) C dX2_tellsDay_216 (by decide) ?_
        exact J_zret C dX2_tellsDay_217 rfl h
      · refine J_iload C 0 dX2_tellsDay_204 rfl ?_
        refine J_iload C 2 dX2_tellsDay_206 rfl ?_
        refine J_iload C 3 dX2_tellsDay_208 rfl ?_
        refine k_X2_daysOf C mw_306 dX2_tellsDay_210 ⟨Nat.le_of_ble_eq_true rfl, Nat.le_of_ble_eq_true rfl⟩ (Nat.le_of_ble_eq_true rfl) h (fun r_7 h => ?_)
        refine J_icmp_le (tgt := 218) C dX2_tellsDay_213 (by decide) h (fun h => ?_) (fun h => ?_)
        · refine J_aload_n C 1 dX2_tellsDay_218 rfl rfl ?_
          refine J_iload C 2 dX2_tellsDay_219 rfl ?_
          refine J_sipush (v := (10000 : Int32)) C dX2_tellsDay_221 (by decide) ?_
          refine J_imul C dX2_tellsDay_224 ?_
          refine J_iload C 3 dX2_tellsDay_225 rfl ?_
          refine J_bipush (v := (100 : Int32)) C dX2_tellsDay_227 (by decide) ?_
          refine J_imul C dX2_tellsDay_229 ?_
          refine J_iadd C dX2_tellsDay_230 ?_
          refine J_iload C 0 dX2_tellsDay_231 rfl ?_
          refine J_iadd C dX2_tellsDay_233 ?_
          refine S_fm_worth C mw_60 dX2_tellsDay_234 ?_
          refine J_iconst (v := (1 : Int32)) C dX2_tellsDay_237 (by decide) ?_
          exact J_zret C dX2_tellsDay_238 rfl h
        · refine J_iconst (v := (0 : Int32)) C dX2_tellsDay_216 (by decide) ?_
          exact J_zret C dX2_tellsDay_217 rfl h
def P_X2_tellsDay_146 (K : Int32 → XW → Prop) (w : XW) (v2 : Int32) (v3 : Int32) (v5 : Int32) (v6 : Int32) (s0 : Int32) (s1 : Int32) : Prop := P_X1_numberIn (fun r_5 => (v5 = 0 → (¬ v3 = 0 → P_X2_tellsDay_176 K w v6 r_5 (3 : Int32) v2) ∧ (v3 = 0 → P_X2_tellsDay_176 K w v6 r_5 (0 : Int32) v2)) ∧ (¬ v5 = 0 → P_X2_tellsDay_176 K w v6 r_5 (8 : Int32) v2)) w s1 s0 (2 : Int32)
set_option maxRecDepth 10000 in
theorem s_X2_tellsDay_146 {x : Mx} {g : Gd} {a : Nat → Nat} (C : Cx x g (sA 15 a) (xCl g a) cX2_tellsDay 9 RX2 (some .boolean) 1 26) {K : Int32 → XW → Prop}  {v2 : Int32} {v3 : Int32} {v5 : Int32} {v6 : Int32} {s0 : Int32} {s1 : Int32} {w : XW} (h : P_X2_tellsDay_146 K w v2 v3 v5 v6 s0 s1) : J x g (sA 15 a) (xCl g a) 9 (JQ x (sA 15 a) (QcI g (sA 15 a) (xCl g a) K)) w 146 [(0, .ref (a 3)), (2, .int v2), (3, .int v3), (5, .int v5), (6, .int v6)] [.int s0, .int s1, .ref (a 1)] := by
  unfold P_X2_tellsDay_146 at h
  refine J_iconst (v := (2 : Int32)) C dX2_tellsDay_146 (by decide) ?_
  refine k_X1_numberIn C mw_302 dX2_tellsDay_147 ⟨Nat.le_of_ble_eq_true rfl, Nat.le_of_ble_eq_true rfl⟩ (Nat.le_of_ble_eq_true rfl) h (fun r_5 h => ?_)
  refine J_istore C [(7, .int r_5), (0, .ref (a 3)), (2, .int v2), (3, .int v3), (5, .int v5), (6, .int v6)] dX2_tellsDay_150 (by decide) rfl ?_
  refine J_aload_n C 1 dX2_tellsDay_152 rfl rfl ?_
  refine G_fm_cut C mw_57 dX2_tellsDay_153 ?_
  refine J_iload_n C 2 dX2_tellsDay_156 rfl rfl ?_
  refine J_iload C 4 dX2_tellsDay_157 rfl ?_
  refine J_if_eq (tgt := 167) C dX2_tellsDay_159 (by decide) h (fun h => ?_) (fun h => ?_)
  · refine J_iload_n C 3 dX2_tellsDay_167 rfl rfl ?_
    refine J_if_ne (tgt := 175) C dX2_tellsDay_168 (by decide) h (fun h => ?_) (fun h => ?_)
    · refine J_iconst (v := (3 : Int32)) C dX2_tellsDay_175 (by decide) ?_
      refine J_lv [1, 5, 0] rfl ?_
      exact s_X2_tellsDay_176 C h
    · refine J_iconst (v := (0 : Int32)) C dX2_tellsDay_171 (by decide) ?_
      refine J_goto (tgt := 176) C dX2_tellsDay_172 (by decide) ?_
      refine J_lv [1, 5, 0] rfl ?_
      exact s_X2_tellsDay_176 C h
  · refine J_bipush (v := (8 : Int32)) C dX2_tellsDay_162 (by decide) ?_
    refine J_goto (tgt := 176) C dX2_tellsDay_164 (by decide) ?_
    refine J_lv [1, 5, 0] rfl ?_
    exact s_X2_tellsDay_176 C h
def P_X2_tellsDay_117 (K : Int32 → XW → Prop) (w : XW) (v2 : Int32) (v3 : Int32) (v5 : Int32) (s0 : Int32) (s1 : Int32) : Prop := P_X1_numberIn (fun r_4 => (v5 = 0 → (¬ v3 = 0 → P_X2_tellsDay_146 K w v2 v3 v5 r_4 (0 : Int32) v2) ∧ (v3 = 0 → P_X2_tellsDay_146 K w v2 v3 v5 r_4 (3 : Int32) v2)) ∧ (¬ v5 = 0 → P_X2_tellsDay_146 K w v2 v3 v5 r_4 (5 : Int32) v2)) w s1 s0 (4 : Int32)
set_option maxRecDepth 10000 in
theorem s_X2_tellsDay_117 {x : Mx} {g : Gd} {a : Nat → Nat} (C : Cx x g (sA 15 a) (xCl g a) cX2_tellsDay 9 RX2 (some .boolean) 1 26) {K : Int32 → XW → Prop}  {v2 : Int32} {v3 : Int32} {v5 : Int32} {s0 : Int32} {s1 : Int32} {w : XW} (h : P_X2_tellsDay_117 K w v2 v3 v5 s0 s1) : J x g (sA 15 a) (xCl g a) 9 (JQ x (sA 15 a) (QcI g (sA 15 a) (xCl g a) K)) w 117 [(0, .ref (a 3)), (2, .int v2), (3, .int v3), (5, .int v5)] [.int s0, .int s1, .ref (a 1)] := by
  unfold P_X2_tellsDay_117 at h
  refine J_iconst (v := (4 : Int32)) C dX2_tellsDay_117 (by decide) ?_
  refine k_X1_numberIn C mw_302 dX2_tellsDay_118 ⟨Nat.le_of_ble_eq_true rfl, Nat.le_of_ble_eq_true rfl⟩ (Nat.le_of_ble_eq_true rfl) h (fun r_4 h => ?_)
  refine J_istore C [(6, .int r_4), (0, .ref (a 3)), (2, .int v2), (3, .int v3), (5, .int v5)] dX2_tellsDay_121 (by decide) rfl ?_
  refine J_aload_n C 1 dX2_tellsDay_123 rfl rfl ?_
  refine G_fm_cut C mw_57 dX2_tellsDay_124 ?_
  refine J_iload_n C 2 dX2_tellsDay_127 rfl rfl ?_
  refine J_iload C 4 dX2_tellsDay_128 rfl ?_
  refine J_if_eq (tgt := 137) C dX2_tellsDay_130 (by decide) h (fun h => ?_) (fun h => ?_)
  · refine J_iload_n C 3 dX2_tellsDay_137 rfl rfl ?_
    refine J_if_ne (tgt := 145) C dX2_tellsDay_138 (by decide) h (fun h => ?_) (fun h => ?_)
    · refine J_iconst (v := (0 : Int32)) C dX2_tellsDay_145 (by decide) ?_
      refine J_lv [1, 2, 3, 4, 0] rfl ?_
      exact s_X2_tellsDay_146 C h
    · refine J_iconst (v := (3 : Int32)) C dX2_tellsDay_141 (by decide) ?_
      refine J_goto (tgt := 146) C dX2_tellsDay_142 (by decide) ?_
      refine J_lv [1, 2, 3, 4, 0] rfl ?_
      exact s_X2_tellsDay_146 C h
  · refine J_iconst (v := (5 : Int32)) C dX2_tellsDay_133 (by decide) ?_
    refine J_goto (tgt := 146) C dX2_tellsDay_134 (by decide) ?_
    refine J_lv [1, 2, 3, 4, 0] rfl ?_
    exact s_X2_tellsDay_146 C h
def P_X2_tellsDay_91 (K : Int32 → XW → Prop) (w : XW) (v2 : Int32) (v3 : Int32) (v4 : Int32) (v5 : Int32) (s0 : Int32) (s1 : Int32) : Prop := P_X1_byteIn (fun r_3 => (r_3 = v4 → (v5 = 0 → P_X2_tellsDay_117 K w v2 v3 v5 (6 : Int32) v2) ∧ (¬ v5 = 0 → P_X2_tellsDay_117 K w v2 v3 v5 (0 : Int32) v2)) ∧ (¬ r_3 = v4 → K (0 : Int32) w)) w s1 s0
set_option maxRecDepth 10000 in
theorem s_X2_tellsDay_91 {x : Mx} {g : Gd} {a : Nat → Nat} (C : Cx x g (sA 15 a) (xCl g a) cX2_tellsDay 9 RX2 (some .boolean) 1 26) {K : Int32 → XW → Prop}  {v2 : Int32} {v3 : Int32} {v4 : Int32} {v5 : Int32} {s0 : Int32} {s1 : Int32} {w : XW} (h : P_X2_tellsDay_91 K w v2 v3 v4 v5 s0 s1) : J x g (sA 15 a) (xCl g a) 9 (JQ x (sA 15 a) (QcI g (sA 15 a) (xCl g a) K)) w 91 [(0, .ref (a 3)), (2, .int v2), (3, .int v3), (4, .int v4), (5, .int v5)] [.int s0, .int s1, .ref (a 1)] := by
  unfold P_X2_tellsDay_91 at h
  refine k_X1_byteIn C mw_282 dX2_tellsDay_91 ⟨Nat.le_of_ble_eq_true rfl, Nat.le_of_ble_eq_true rfl⟩ (Nat.le_of_ble_eq_true rfl) h (fun r_3 h => ?_)
  refine J_iload C 3 dX2_tellsDay_94 rfl ?_
  refine J_icmp_eq (tgt := 101) C dX2_tellsDay_96 (by decide) h (fun h => ?_) (fun h => ?_)
  · refine J_aload_n C 0 dX2_tellsDay_101 rfl rfl ?_
    refine G_fm_cut C mw_57 dX2_tellsDay_102 ?_
    refine J_iload_n C 1 dX2_tellsDay_105 rfl rfl ?_
    refine J_iload C 4 dX2_tellsDay_106 rfl ?_
    refine J_if_eq (tgt := 115) C dX2_tellsDay_108 (by decide) h (fun h => ?_) (fun h => ?_)
    · refine J_bipush (v := (6 : Int32)) C dX2_tellsDay_115 (by decide) ?_
      refine J_lv [0, 1, 2, 4] rfl ?_
      exact s_X2_tellsDay_117 C h
    · refine J_iconst (v := (0 : Int32)) C dX2_tellsDay_111 (by decide) ?_
      refine J_goto (tgt := 117) C dX2_tellsDay_112 (by decide) ?_
      refine J_lv [0, 1, 2, 4] rfl ?_
      exact s_X2_tellsDay_117 C h
  · refine J_iconst (v := (0 : Int32)) C dX2_tellsDay_99 (by decide) ?_
    exact J_zret C dX2_tellsDay_100 rfl h
def P_X2_tellsDay_67 (K : Int32 → XW → Prop) (w : XW) (v2 : Int32) (v3 : Int32) (v4 : Int32) (v5 : Int32) (s0 : Int32) (s1 : Int32) : Prop := P_X1_byteIn (fun r_2 => (¬ r_2 = v4 → K (0 : Int32) w) ∧ (r_2 = v4 → (v5 = 0 → P_X2_tellsDay_91 K w v2 v3 v4 v5 (5 : Int32) v2) ∧ (¬ v5 = 0 → P_X2_tellsDay_91 K w v2 v3 v4 v5 (7 : Int32) v2))) w s1 s0
set_option maxRecDepth 10000 in
theorem s_X2_tellsDay_67 {x : Mx} {g : Gd} {a : Nat → Nat} (C : Cx x g (sA 15 a) (xCl g a) cX2_tellsDay 9 RX2 (some .boolean) 1 26) {K : Int32 → XW → Prop}  {v2 : Int32} {v3 : Int32} {v4 : Int32} {v5 : Int32} {s0 : Int32} {s1 : Int32} {w : XW} (h : P_X2_tellsDay_67 K w v2 v3 v4 v5 s0 s1) : J x g (sA 15 a) (xCl g a) 9 (JQ x (sA 15 a) (QcI g (sA 15 a) (xCl g a) K)) w 67 [(0, .ref (a 3)), (2, .int v2), (3, .int v3), (4, .int v4), (5, .int v5)] [.int s0, .int s1, .ref (a 1)] := by
  unfold P_X2_tellsDay_67 at h
  refine k_X1_byteIn C mw_282 dX2_tellsDay_67 ⟨Nat.le_of_ble_eq_true rfl, Nat.le_of_ble_eq_true rfl⟩ (Nat.le_of_ble_eq_true rfl) h (fun r_2 h => ?_)
  refine J_iload C 3 dX2_tellsDay_70 rfl ?_
  refine J_icmp_ne (tgt := 99) C dX2_tellsDay_72 (by decide) h (fun h => ?_) (fun h => ?_)
  · refine J_iconst (v := (0 : Int32)) C dX2_tellsDay_99 (by decide) ?_
    exact J_zret C dX2_tellsDay_100 rfl h
  · refine J_aload_n C 0 dX2_tellsDay_75 rfl rfl ?_
    refine G_fm_cut C mw_57 dX2_tellsDay_76 ?_
    refine J_iload_n C 1 dX2_tellsDay_79 rfl rfl ?_
    refine J_iload C 4 dX2_tellsDay_80 rfl ?_
    refine J_if_eq (tgt := 90) C dX2_tellsDay_82 (by decide) h (fun h => ?_) (fun h => ?_)
    · refine J_iconst (v := (5 : Int32)) C dX2_tellsDay_90 (by decide) ?_
      refine J_lv [0, 1, 2, 3, 4] rfl ?_
      exact s_X2_tellsDay_91 C h
    · refine J_bipush (v := (7 : Int32)) C dX2_tellsDay_85 (by decide) ?_
      refine J_goto (tgt := 91) C dX2_tellsDay_87 (by decide) ?_
      refine J_lv [0, 1, 2, 3, 4] rfl ?_
      exact s_X2_tellsDay_91 C h
def P_X2_tellsDay_50 (K : Int32 → XW → Prop) (w : XW) (v2 : Int32) (v3 : Int32) (v4 : Int32) (s0 : Int32) : Prop := (s0 = 0 → P_X2_tellsDay_67 K w v2 v3 v4 s0 (2 : Int32) v2) ∧ (¬ s0 = 0 → P_X2_tellsDay_67 K w v2 v3 v4 s0 (4 : Int32) v2)
set_option maxRecDepth 10000 in
theorem s_X2_tellsDay_50 {x : Mx} {g : Gd} {a : Nat → Nat} (C : Cx x g (sA 15 a) (xCl g a) cX2_tellsDay 9 RX2 (some .boolean) 1 26) {K : Int32 → XW → Prop}  {v2 : Int32} {v3 : Int32} {v4 : Int32} {s0 : Int32} {w : XW} (h : P_X2_tellsDay_50 K w v2 v3 v4 s0) : J x g (sA 15 a) (xCl g a) 9 (JQ x (sA 15 a) (QcI g (sA 15 a) (xCl g a) K)) w 50 [(0, .ref (a 3)), (2, .int v2), (3, .int v3), (4, .int v4)] [.int s0] := by
  unfold P_X2_tellsDay_50 at h
  refine J_istore C [(5, .int s0), (0, .ref (a 3)), (2, .int v2), (3, .int v3), (4, .int v4)] dX2_tellsDay_50 (by decide) rfl ?_
  refine J_aload_n C 1 dX2_tellsDay_52 rfl rfl ?_
  refine G_fm_cut C mw_57 dX2_tellsDay_53 ?_
  refine J_iload_n C 2 dX2_tellsDay_56 rfl rfl ?_
  refine J_iload C 0 dX2_tellsDay_57 rfl ?_
  refine J_if_eq (tgt := 66) C dX2_tellsDay_59 (by decide) h (fun h => ?_) (fun h => ?_)
  · refine J_iconst (v := (2 : Int32)) C dX2_tellsDay_66 (by decide) ?_
    refine J_lv [1, 2, 3, 4, 0] rfl ?_
    exact s_X2_tellsDay_67 C h
  · refine J_iconst (v := (4 : Int32)) C dX2_tellsDay_62 (by decide) ?_
    refine J_goto (tgt := 67) C dX2_tellsDay_63 (by decide) ?_
    refine J_lv [1, 2, 3, 4, 0] rfl ?_
    exact s_X2_tellsDay_67 C h
def P_X2_tellsDay (K : Int32 → XW → Prop) (w : XW) (v1 : Int32) (v2 : Int32) : Prop := P_X1_lengthOf (fun r_1 => (¬ r_1 = (10 : Int32) → K (0 : Int32) w) ∧ (r_1 = (10 : Int32) → ((22 : Int32) ≤ v1 → vp_in ((v1 - (22 : Int32)) - (v1 - (22 : Int32)) / (3 : Int32) * (3 : Int32)) 3 ∧ ((¬ ((v1 - (22 : Int32)) / (3 : Int32)) = (2 : Int32) → P_X2_tellsDay_50 K w v2 ((v1 - (22 : Int32)) / (3 : Int32)) (tbD ((v1 - (22 : Int32)) - (v1 - (22 : Int32)) / (3 : Int32) * (3 : Int32)).toNatClampNeg) (0 : Int32)) ∧ (((v1 - (22 : Int32)) / (3 : Int32)) = (2 : Int32) → P_X2_tellsDay_50 K w v2 ((v1 - (22 : Int32)) / (3 : Int32)) (tbD ((v1 - (22 : Int32)) - (v1 - (22 : Int32)) / (3 : Int32) * (3 : Int32)).toNatClampNeg) (1 : Int32)))) ∧ (¬ (22 : Int32) ≤ v1 → K (0 : Int32) w))) w v2
set_option maxRecDepth 10000 in
theorem s_X2_tellsDay {x : Mx} {g : Gd} {a : Nat → Nat} (C : Cx x g (sA 15 a) (xCl g a) cX2_tellsDay 9 RX2 (some .boolean) 1 26) {K : Int32 → XW → Prop}  {w : XW} {v1 : Int32} {v2 : Int32} (h : P_X2_tellsDay K w v1 v2) : J x g (sA 15 a) (xCl g a) 9 (JQ x (sA 15 a) (QcI g (sA 15 a) (xCl g a) K)) w 0 [(0, .ref (a 3)), (1, .int v1), (2, .int v2)] [] := by
  unfold P_X2_tellsDay at h
  refine J_aload_n C 0 dX2_tellsDay_0 rfl rfl ?_
  refine G_fm_cut C mw_57 dX2_tellsDay_1 ?_
  refine J_iload_n C 2 dX2_tellsDay_4 rfl rfl ?_
  refine k_X1_lengthOf C mw_258 dX2_tellsDay_5 ⟨Nat.le_of_ble_eq_true rfl, Nat.le_of_ble_eq_true rfl⟩ (Nat.le_of_ble_eq_true rfl) h (fun r_1 h => ?_)
  refine J_bipush (v := (10 : Int32)) C dX2_tellsDay_8 (by decide) ?_
  refine J_icmp_ne (tgt := 19) C dX2_tellsDay_10 (by decide) h (fun h => ?_) (fun h => ?_)
  · refine J_iconst (v := (0 : Int32)) C dX2_tellsDay_19 (by decide) ?_
    exact J_zret C dX2_tellsDay_20 rfl h
  · refine J_iload_n C 1 dX2_tellsDay_13 rfl rfl ?_
    refine J_bipush (v := (22 : Int32)) C dX2_tellsDay_14 (by decide) ?_
    refine J_icmp_ge (tgt := 21) C dX2_tellsDay_16 (by decide) h (fun h => ?_) (fun h => ?_)
    · refine J_iload_n C 1 dX2_tellsDay_21 rfl rfl ?_
      refine J_bipush (v := (22 : Int32)) C dX2_tellsDay_22 (by decide) ?_
      refine J_isub C dX2_tellsDay_24 ?_
      refine J_iconst (v := (3 : Int32)) C dX2_tellsDay_25 (by decide) ?_
      refine J_idiv C dX2_tellsDay_26 (by decide) ?_
      refine J_istore_n C [(3, .int ((v1 - (22 : Int32)) / (3 : Int32))), (0, .ref (a 3)), (1, .int v1), (2, .int v2)] dX2_tellsDay_27 rfl (by decide) rfl ?_
      refine J_gets C C.2.2.2.2.2.2.2.1.2.2.2.2.2.1.1 mw_301 dX2_tellsDay_28 ?_
      refine J_iload_n C 2 dX2_tellsDay_31 rfl rfl ?_
      refine J_bipush (v := (22 : Int32)) C dX2_tellsDay_32 (by decide) ?_
      refine J_isub C dX2_tellsDay_34 ?_
      refine J_iconst (v := (3 : Int32)) C dX2_tellsDay_35 (by decide) ?_
      refine J_irem C dX2_tellsDay_36 (by decide) ?_
      refine J_tc C C.2.2.2.2.2.2.2.1.2.2.2.2.2.1.2 dX2_tellsDay_37 h (fun h => ?_)
      refine J_istore C [(4, .int (tbD ((v1 - (22 : Int32)) - (v1 - (22 : Int32)) / (3 : Int32) * (3 : Int32)).toNatClampNeg)), (3, .int ((v1 - (22 : Int32)) / (3 : Int32))), (0, .ref (a 3)), (1, .int v1), (2, .int v2)] dX2_tellsDay_38 (by decide) rfl ?_
      refine J_iload_n C 1 dX2_tellsDay_40 rfl rfl ?_
      refine J_iconst (v := (2 : Int32)) C dX2_tellsDay_41 (by decide) ?_
      refine J_icmp_ne (tgt := 49) C dX2_tellsDay_42 (by decide) h (fun h => ?_) (fun h => ?_)
      · refine J_iconst (v := (0 : Int32)) C dX2_tellsDay_49 (by decide) ?_
        refine J_lv [2, 4, 1, 0] rfl ?_
        exact s_X2_tellsDay_50 C h
      · refine J_iconst (v := (1 : Int32)) C dX2_tellsDay_45 (by decide) ?_
        refine J_goto (tgt := 50) C dX2_tellsDay_46 (by decide) ?_
        refine J_lv [2, 4, 1, 0] rfl ?_
        exact s_X2_tellsDay_50 C h
    · refine J_iconst (v := (0 : Int32)) C dX2_tellsDay_19 (by decide) ?_
      exact J_zret C dX2_tellsDay_20 rfl h
theorem c_X2_tellsDay {l : Launch} {g : Gd} {a : Nat → Nat} {w : XW} {K : Int32 → XW → Prop} {v1 : Int32} {v2 : Int32} (h : P_X2_tellsDay K w v1 v2) : Kt l yX2_tellsDay cX2_tellsDay 9 (some .boolean) 1 26 g (sA 15 a) (xCl g a) [.ref (a 3), .int v1, .int v2] w (QcI g (sA 15 a) (xCl g a) K) :=
  Kt_of (by decide +kernel) (Nat.le_of_ble_eq_true rfl) (fun x hx C => s_X2_tellsDay C h)
theorem k_X2_tellsDay {x : Mx} {g : Gd} {a : Nat → Nat} {cc : ByteArray} {nL : Nat} {own : String} {ret : Option FieldType} {F L : Nat} {Q : State → Prop} {w : XW} {pc : Nat} {lv : List (Nat × Value)} {st : List Value} (C : Cx x g (sA 15 a) (xCl g a) cc nL own ret F L) {index : Nat} {K : Int32 → XW → Prop} {v1 : Int32} {v2 : Int32} (h1 : Cond.methodLink own index yX2_tellsDay ∈ gT) (hd : decode cc pc = .ok (.invokevirtual index, 3)) (hR : 1 + 1 ≤ F ∧ 8 + (9 + 11) + 26 ≤ L) (hst : (st.map fun v => v.category).sum ≤ 8) (h : P_X2_tellsDay K w v1 v2) (k : ∀ (r : Int32) (w' : XW), K r w' → J x g (sA 15 a) (xCl g a) nL Q w' (pc + 3) lv (.int r :: st)) : J x g (sA 15 a) (xCl g a) nL Q w (pc) lv (.int v2 :: .int v1 :: .ref (a 3) :: st) :=
  J_callVi C (As := [.int v1, .int v2]) (b := a 3) (n := 2) (c_X2_tellsDay h) h1 mw_299 mw_765 mw_4 mw_300 (by decide +kernel) hR rfl (rc_X2 C) hst hd k
-- X2_sortOf (pure, room 0 0)
def P_X2_sortOf_32 (K : Int32 → Prop) (v0 : Int32) : Prop := (v0 < (97 : Int32) → K v0) ∧ (¬ v0 < (97 : Int32) → ((122 : Int32) < v0 → K v0) ∧ (¬ (122 : Int32) < v0 → K (258 : Int32)))
set_option maxRecDepth 10000 in
theorem s_X2_sortOf_32 {x : Mx} {g : Gd} {Wd : Type} {A : Nat → Prop} {cl : Wd → va_W} (C : Cx x g A cl cX2_sortOf 1 RX2 (some .int) 0 0) {K : Int32 → Prop} {w : Wd}  {v0 : Int32} (h : P_X2_sortOf_32 K v0) : J x g A cl 1 (JQ x A (QcI g A cl (fun r w' => K r ∧ w' = w))) w 32 [(0, .int v0)] [] := by
  unfold P_X2_sortOf_32 at h
  refine J_iload_n C 0 dX2_sortOf_32 rfl rfl ?_
  refine J_bipush (v := (97 : Int32)) C dX2_sortOf_33 (by decide) ?_
  refine J_icmp_lt (tgt := 50) C dX2_sortOf_35 (by decide) h (fun h => ?_) (fun h => ?_)
  · refine J_iload_n C 0 dX2_sortOf_50 rfl rfl ?_
    exact J_iret C dX2_sortOf_51 ⟨h, rfl⟩
  · refine J_iload_n C 0 dX2_sortOf_38 rfl rfl ?_
    refine J_bipush (v := (122 : Int32)) C dX2_sortOf_39 (by decide) ?_
    refine J_icmp_gt (tgt := 50) C dX2_sortOf_41 (by decide) h (fun h => ?_) (fun h => ?_)
    · refine J_iload_n C 0 dX2_sortOf_50 rfl rfl ?_
      exact J_iret C dX2_sortOf_51 ⟨h, rfl⟩
    · refine J_sipush (v := (258 : Int32)) C dX2_sortOf_44 (by decide) ?_
      refine J_goto (tgt := 51) C dX2_sortOf_47 (by decide) ?_
      exact J_iret C dX2_sortOf_51 ⟨h, rfl⟩
def P_X2_sortOf_16 (K : Int32 → Prop) (v0 : Int32) : Prop := (v0 < (65 : Int32) → P_X2_sortOf_32 K v0) ∧ (¬ v0 < (65 : Int32) → ((90 : Int32) < v0 → P_X2_sortOf_32 K v0) ∧ (¬ (90 : Int32) < v0 → K (257 : Int32)))
set_option maxRecDepth 10000 in
theorem s_X2_sortOf_16 {x : Mx} {g : Gd} {Wd : Type} {A : Nat → Prop} {cl : Wd → va_W} (C : Cx x g A cl cX2_sortOf 1 RX2 (some .int) 0 0) {K : Int32 → Prop} {w : Wd}  {v0 : Int32} (h : P_X2_sortOf_16 K v0) : J x g A cl 1 (JQ x A (QcI g A cl (fun r w' => K r ∧ w' = w))) w 16 [(0, .int v0)] [] := by
  unfold P_X2_sortOf_16 at h
  refine J_iload_n C 0 dX2_sortOf_16 rfl rfl ?_
  refine J_bipush (v := (65 : Int32)) C dX2_sortOf_17 (by decide) ?_
  refine J_icmp_lt (tgt := 32) C dX2_sortOf_19 (by decide) h (fun h => ?_) (fun h => ?_)
  · refine J_lv [0] rfl ?_
    exact s_X2_sortOf_32 C h
  · refine J_iload_n C 0 dX2_sortOf_22 rfl rfl ?_
    refine J_bipush (v := (90 : Int32)) C dX2_sortOf_23 (by decide) ?_
    refine J_icmp_gt (tgt := 32) C dX2_sortOf_25 (by decide) h (fun h => ?_) (fun h => ?_)
    · refine J_lv [0] rfl ?_
      exact s_X2_sortOf_32 C h
    · refine J_sipush (v := (257 : Int32)) C dX2_sortOf_28 (by decide) ?_
      exact J_iret C dX2_sortOf_31 ⟨h, rfl⟩
def P_X2_sortOf (K : Int32 → Prop) (v0 : Int32) : Prop := (v0 < (48 : Int32) → P_X2_sortOf_16 K v0) ∧ (¬ v0 < (48 : Int32) → ((57 : Int32) < v0 → P_X2_sortOf_16 K v0) ∧ (¬ (57 : Int32) < v0 → K (256 : Int32)))
set_option maxRecDepth 10000 in
theorem s_X2_sortOf {x : Mx} {g : Gd} {Wd : Type} {A : Nat → Prop} {cl : Wd → va_W} (C : Cx x g A cl cX2_sortOf 1 RX2 (some .int) 0 0) {K : Int32 → Prop} {w : Wd}  {v0 : Int32} (h : P_X2_sortOf K v0) : J x g A cl 1 (JQ x A (QcI g A cl (fun r w' => K r ∧ w' = w))) w 0 [(0, .int v0)] [] := by
  unfold P_X2_sortOf at h
  refine J_iload_n C 0 dX2_sortOf_0 rfl rfl ?_
  refine J_bipush (v := (48 : Int32)) C dX2_sortOf_1 (by decide) ?_
  refine J_icmp_lt (tgt := 16) C dX2_sortOf_3 (by decide) h (fun h => ?_) (fun h => ?_)
  · refine J_lv [0] rfl ?_
    exact s_X2_sortOf_16 C h
  · refine J_iload_n C 0 dX2_sortOf_6 rfl rfl ?_
    refine J_bipush (v := (57 : Int32)) C dX2_sortOf_7 (by decide) ?_
    refine J_icmp_gt (tgt := 16) C dX2_sortOf_9 (by decide) h (fun h => ?_) (fun h => ?_)
    · refine J_lv [0] rfl ?_
      exact s_X2_sortOf_16 C h
    · refine J_sipush (v := (256 : Int32)) C dX2_sortOf_12 (by decide) ?_
      exact J_iret C dX2_sortOf_15 ⟨h, rfl⟩
theorem c_X2_sortOf {l : Launch} {g : Gd} {Wd : Type} {A : Nat → Prop} {cl : Wd → va_W} {w : Wd} {K : Int32 → Prop} {v0 : Int32} (h : P_X2_sortOf K v0) : Kt l yX2_sortOf cX2_sortOf 1 (some .int) 0 0 g A cl [.int v0] w (QcI g A cl (fun r w' => K r ∧ w' = w)) :=
  Kt_of (by decide +kernel) (Nat.le_of_ble_eq_true rfl) (fun x hx C => s_X2_sortOf C h)
theorem k_X2_sortOf {x : Mx} {g : Gd} {Wd : Type} {A : Nat → Prop} {cl : Wd → va_W} {cc : ByteArray} {nL : Nat} {own : String} {ret : Option FieldType} {F L : Nat} {Q : State → Prop} {w : Wd} {pc : Nat} {lv : List (Nat × Value)} {st : List Value} (C : Cx x g A cl cc nL own ret F L) {index : Nat} {K : Int32 → Prop} {v0 : Int32} (h1 : Cond.methodLink own index yX2_sortOf ∈ gT) (hd : decode cc pc = .ok (.invokestatic index, 3)) (hR : 0 + 1 ≤ F ∧ 8 + (1 + 11) + 0 ≤ L) (hst : (st.map fun v => v.category).sum ≤ 8) (h : P_X2_sortOf K v0) (k : ∀ (r : Int32), K r → J x g A cl nL Q w (pc + 3) lv (.int r :: st)) : J x g A cl nL Q w (pc) lv (.int v0 :: st) :=
  J_callSi C (As := [.int v0]) (n := 1) (c_X2_sortOf h) h1 mw_314 mw_4 mw_315 (by decide +kernel) hR rfl hst hd (fun r w' hK => by
    obtain ⟨hK, rfl⟩ := hK
    exact k r hK)
-- X2_tellsCode (pure, room 1 22)
def P_X2_tellsCode_39 (K : Int32 → Prop) (w : XW) (v1 : Int32) (v2 : Int32) : Nat → Int32 → Prop
  | 0, _ => False
  | n + 1, v3 => (v2 ≤ v3 → K (1 : Int32)) ∧ (¬ v2 ≤ v3 → P_X1_byteIn (fun r_3 => P_X2_sortOf (fun r_4 => P_X1_byteIn (fun r_5 => P_X2_sortOf (fun r_6 => (r_4 = r_6 → P_X2_tellsCode_39 K w v1 v2 n (v3 + (1 : Int32))) ∧ (¬ r_4 = r_6 → K (0 : Int32))) r_5) w (fm_first w) v3) r_3) w v1 v3)
set_option maxRecDepth 10000 in
theorem s_X2_tellsCode_39 {x : Mx} {g : Gd} {a : Nat → Nat} (C : Cx x g (sA 15 a) (xCl g a) cX2_tellsCode 4 RX2 (some .boolean) 1 22) {K : Int32 → Prop} {w : XW}  {v1 : Int32} {v2 : Int32} : ∀ (n : Nat) (v3 : Int32), P_X2_tellsCode_39 K w v1 v2 n v3 → J x g (sA 15 a) (xCl g a) 4 (JQ x (sA 15 a) (QcI g (sA 15 a) (xCl g a) (fun r w' => K r ∧ w' = w))) w 39 [(0, .ref (a 3)), (1, .int v1), (2, .int v2), (3, .int v3)] [] := by
  intro n
  induction n with
  | zero => intro v3 h; exact h.elim
  | succ n ih =>
    intro v3 h
    unfold P_X2_tellsCode_39 at h
    refine J_iload_n C 3 dX2_tellsCode_39 rfl rfl ?_
    refine J_iload_n C 2 dX2_tellsCode_40 rfl rfl ?_
    refine J_icmp_ge (tgt := 82) C dX2_tellsCode_41 (by decide) h (fun h => ?_) (fun h => ?_)
    · refine J_iconst (v := (1 : Int32)) C dX2_tellsCode_82 (by decide) ?_
      exact J_zret C dX2_tellsCode_83 rfl ⟨h, rfl⟩
    · refine J_aload_n C 0 dX2_tellsCode_44 rfl rfl ?_
      refine G_fm_cut C mw_57 dX2_tellsCode_45 ?_
      refine J_iload_n C 1 dX2_tellsCode_48 rfl rfl ?_
      refine J_iload_n C 3 dX2_tellsCode_49 rfl rfl ?_
      refine k_X1_byteIn C mw_282 dX2_tellsCode_50 ⟨Nat.le_of_ble_eq_true rfl, Nat.le_of_ble_eq_true rfl⟩ (Nat.le_of_ble_eq_true rfl) h (fun r_3 h => ?_)
      refine k_X2_sortOf C mw_313 dX2_tellsCode_53 ⟨Nat.le_of_ble_eq_true rfl, Nat.le_of_ble_eq_true rfl⟩ (Nat.le_of_ble_eq_true rfl) h (fun r_4 h => ?_)
      refine J_aload_n C 0 dX2_tellsCode_56 rfl rfl ?_
      refine G_fm_cut C mw_57 dX2_tellsCode_57 ?_
      refine J_aload_n C 0 dX2_tellsCode_60 rfl rfl ?_
      refine G_fm_first C mw_58 dX2_tellsCode_61 ?_
      refine J_iload_n C 3 dX2_tellsCode_64 rfl rfl ?_
      refine k_X1_byteIn C mw_282 dX2_tellsCode_65 ⟨Nat.le_of_ble_eq_true rfl, Nat.le_of_ble_eq_true rfl⟩ (Nat.le_of_ble_eq_true rfl) h (fun r_5 h => ?_)
      refine k_X2_sortOf C mw_313 dX2_tellsCode_68 ⟨Nat.le_of_ble_eq_true rfl, Nat.le_of_ble_eq_true rfl⟩ (Nat.le_of_ble_eq_true rfl) h (fun r_6 h => ?_)
      refine J_icmp_eq (tgt := 76) C dX2_tellsCode_71 (by decide) h (fun h => ?_) (fun h => ?_)
      · refine J_iinc C 3 [(3, .int (v3 + (1 : Int32))), (0, .ref (a 3)), (1, .int v1), (2, .int v2)] dX2_tellsCode_76 rfl rfl (by decide) rfl ?_
        refine J_goto (tgt := 39) C dX2_tellsCode_79 (by decide) ?_
        refine J_lv [1, 2, 3, 0] rfl ?_
        exact ih _ h
      · refine J_iconst (v := (0 : Int32)) C dX2_tellsCode_74 (by decide) ?_
        exact J_zret C dX2_tellsCode_75 rfl ⟨h, rfl⟩
def P_X2_tellsCode (K : Int32 → Prop) (w : XW) (v1 : Int32) : Prop := P_X1_lengthOf (fun r_1 => (r_1 < (1 : Int32) → K (0 : Int32)) ∧ (¬ r_1 < (1 : Int32) → ((20 : Int32) < r_1 → K (0 : Int32)) ∧ (¬ (20 : Int32) < r_1 → P_X1_lengthOf (fun r_2 => (r_2 = r_1 → ∃ nf : Nat, P_X2_tellsCode_39 K w v1 r_1 nf (0 : Int32)) ∧ (¬ r_2 = r_1 → K (0 : Int32))) w v1))) w (fm_first w)
set_option maxRecDepth 10000 in
theorem s_X2_tellsCode {x : Mx} {g : Gd} {a : Nat → Nat} (C : Cx x g (sA 15 a) (xCl g a) cX2_tellsCode 4 RX2 (some .boolean) 1 22) {K : Int32 → Prop} {w : XW}  {v1 : Int32} (h : P_X2_tellsCode K w v1) : J x g (sA 15 a) (xCl g a) 4 (JQ x (sA 15 a) (QcI g (sA 15 a) (xCl g a) (fun r w' => K r ∧ w' = w))) w 0 [(0, .ref (a 3)), (1, .int v1)] [] := by
  unfold P_X2_tellsCode at h
  refine J_aload_n C 0 dX2_tellsCode_0 rfl rfl ?_
  refine G_fm_cut C mw_57 dX2_tellsCode_1 ?_
  refine J_aload_n C 0 dX2_tellsCode_4 rfl rfl ?_
  refine G_fm_first C mw_58 dX2_tellsCode_5 ?_
  refine k_X1_lengthOf C mw_258 dX2_tellsCode_8 ⟨Nat.le_of_ble_eq_true rfl, Nat.le_of_ble_eq_true rfl⟩ (Nat.le_of_ble_eq_true rfl) h (fun r_1 h => ?_)
  refine J_istore_n C [(2, .int r_1), (0, .ref (a 3)), (1, .int v1)] dX2_tellsCode_11 rfl (by decide) rfl ?_
  refine J_iload_n C 0 dX2_tellsCode_12 rfl rfl ?_
  refine J_iconst (v := (1 : Int32)) C dX2_tellsCode_13 (by decide) ?_
  refine J_icmp_lt (tgt := 35) C dX2_tellsCode_14 (by decide) h (fun h => ?_) (fun h => ?_)
  · refine J_iconst (v := (0 : Int32)) C dX2_tellsCode_35 (by decide) ?_
    exact J_zret C dX2_tellsCode_36 rfl ⟨h, rfl⟩
  · refine J_iload_n C 0 dX2_tellsCode_17 rfl rfl ?_
    refine J_bipush (v := (20 : Int32)) C dX2_tellsCode_18 (by decide) ?_
    refine J_icmp_gt (tgt := 35) C dX2_tellsCode_20 (by decide) h (fun h => ?_) (fun h => ?_)
    · refine J_iconst (v := (0 : Int32)) C dX2_tellsCode_35 (by decide) ?_
      exact J_zret C dX2_tellsCode_36 rfl ⟨h, rfl⟩
    · refine J_aload_n C 1 dX2_tellsCode_23 rfl rfl ?_
      refine G_fm_cut C mw_57 dX2_tellsCode_24 ?_
      refine J_iload_n C 2 dX2_tellsCode_27 rfl rfl ?_
      refine k_X1_lengthOf C mw_258 dX2_tellsCode_28 ⟨Nat.le_of_ble_eq_true rfl, Nat.le_of_ble_eq_true rfl⟩ (Nat.le_of_ble_eq_true rfl) h (fun r_2 h => ?_)
      refine J_iload_n C 0 dX2_tellsCode_31 rfl rfl ?_
      refine J_icmp_eq (tgt := 37) C dX2_tellsCode_32 (by decide) h (fun h => ?_) (fun h => ?_)
      · refine J_iconst (v := (0 : Int32)) C dX2_tellsCode_37 (by decide) ?_
        refine J_istore_n C [(3, .int (0 : Int32)), (2, .int r_1), (0, .ref (a 3)), (1, .int v1)] dX2_tellsCode_38 rfl (by decide) rfl ?_
        obtain ⟨nf, h⟩ := h
        refine J_lv [2, 3, 1, 0] rfl ?_
        refine s_X2_tellsCode_39 C  nf _ h
      · refine J_iconst (v := (0 : Int32)) C dX2_tellsCode_35 (by decide) ?_
        exact J_zret C dX2_tellsCode_36 rfl ⟨h, rfl⟩
theorem c_X2_tellsCode {l : Launch} {g : Gd} {a : Nat → Nat} {w : XW} {K : Int32 → Prop} {v1 : Int32} (h : P_X2_tellsCode K w v1) : Kt l yX2_tellsCode cX2_tellsCode 4 (some .boolean) 1 22 g (sA 15 a) (xCl g a) [.ref (a 3), .int v1] w (QcI g (sA 15 a) (xCl g a) (fun r w' => K r ∧ w' = w)) :=
  Kt_of (by decide +kernel) (Nat.le_of_ble_eq_true rfl) (fun x hx C => s_X2_tellsCode C h)
theorem k_X2_tellsCode {x : Mx} {g : Gd} {a : Nat → Nat} {cc : ByteArray} {nL : Nat} {own : String} {ret : Option FieldType} {F L : Nat} {Q : State → Prop} {w : XW} {pc : Nat} {lv : List (Nat × Value)} {st : List Value} (C : Cx x g (sA 15 a) (xCl g a) cc nL own ret F L) {index : Nat} {K : Int32 → Prop} {v1 : Int32} (h1 : Cond.methodLink own index yX2_tellsCode ∈ gT) (hd : decode cc pc = .ok (.invokevirtual index, 3)) (hR : 1 + 1 ≤ F ∧ 8 + (4 + 11) + 22 ≤ L) (hst : (st.map fun v => v.category).sum ≤ 8) (h : P_X2_tellsCode K w v1) (k : ∀ (r : Int32), K r → J x g (sA 15 a) (xCl g a) nL Q w (pc + 3) lv (.int r :: st)) : J x g (sA 15 a) (xCl g a) nL Q w (pc) lv (.int v1 :: .ref (a 3) :: st) :=
  J_callVi C (As := [.int v1]) (b := a 3) (n := 1) (c_X2_tellsCode h) h1 mw_311 mw_766 mw_4 mw_312 (by decide +kernel) hR rfl (rc_X2 C) hst hd (fun r w' hK => by
    obtain ⟨hK, rfl⟩ := hK
    exact k r hK)
-- X2_tells (changes, room 6 131)
def P_X2_tells (K : Int32 → XW → Prop) (w : XW) (v1 : Int32) (v2 : Int32) : Prop := (¬ v1 = 0 → ((6 : Int32) < v1 → ((21 : Int32) < v1 → ((30 : Int32) < v1 → P_X2_tellsCode (fun r_1 => vz r_1 ∧ K r_1 (fm_digits_s (fm_worth_s w (0 : Int32)) (0 : Int32))) (fm_digits_s (fm_worth_s w (0 : Int32)) (0 : Int32)) v2) ∧ (¬ (30 : Int32) < v1 → P_X2_tellsDay (fun r_2 w_3 => vz r_2 ∧ K r_2 w_3) (fm_digits_s (fm_worth_s w (0 : Int32)) (0 : Int32)) v1 v2)) ∧ (¬ (21 : Int32) < v1 → P_X2_tellsNumber (fun r_4 w_5 => vz r_4 ∧ K r_4 w_5) (fm_digits_s (fm_worth_s w (0 : Int32)) (0 : Int32)) v1 v2)) ∧ (¬ (6 : Int32) < v1 → P_X2_tellsFlag (fun r_6 w_7 => vz r_6 ∧ K r_6 w_7) (fm_digits_s (fm_worth_s w (0 : Int32)) (0 : Int32)) v1 v2)) ∧ (v1 = 0 → K (1 : Int32) (fm_digits_s (fm_worth_s w (0 : Int32)) (0 : Int32)))
set_option maxRecDepth 10000 in
theorem s_X2_tells {x : Mx} {g : Gd} {a : Nat → Nat} (C : Cx x g (sA 15 a) (xCl g a) cX2_tells 3 RX2 (some .boolean) 6 131) {K : Int32 → XW → Prop}  {w : XW} {v1 : Int32} {v2 : Int32} (h : P_X2_tells K w v1 v2) : J x g (sA 15 a) (xCl g a) 3 (JQ x (sA 15 a) (QcI g (sA 15 a) (xCl g a) K)) w 0 [(0, .ref (a 3)), (1, .int v1), (2, .int v2)] [] := by
  unfold P_X2_tells at h
  refine J_aload_n C 0 dX2_tells_0 rfl rfl ?_
  refine J_iconst (v := (0 : Int32)) C dX2_tells_1 (by decide) ?_
  refine S_fm_worth C mw_60 dX2_tells_2 ?_
  refine J_aload_n C 0 dX2_tells_5 rfl rfl ?_
  refine J_iconst (v := (0 : Int32)) C dX2_tells_6 (by decide) ?_
  refine S_fm_digits C mw_62 dX2_tells_7 ?_
  refine J_iload_n C 1 dX2_tells_10 rfl rfl ?_
  refine J_if_ne (tgt := 16) C dX2_tells_11 (by decide) h (fun h => ?_) (fun h => ?_)
  · refine J_iload_n C 1 dX2_tells_16 rfl rfl ?_
    refine J_bipush (v := (6 : Int32)) C dX2_tells_17 (by decide) ?_
    refine J_icmp_gt (tgt := 29) C dX2_tells_19 (by decide) h (fun h => ?_) (fun h => ?_)
    · refine J_iload_n C 1 dX2_tells_29 rfl rfl ?_
      refine J_bipush (v := (21 : Int32)) C dX2_tells_30 (by decide) ?_
      refine J_icmp_gt (tgt := 42) C dX2_tells_32 (by decide) h (fun h => ?_) (fun h => ?_)
      · refine J_iload_n C 1 dX2_tells_42 rfl rfl ?_
        refine J_bipush (v := (30 : Int32)) C dX2_tells_43 (by decide) ?_
        refine J_icmp_gt (tgt := 55) C dX2_tells_45 (by decide) h (fun h => ?_) (fun h => ?_)
        · refine J_aload_n C 0 dX2_tells_55 rfl rfl ?_
          refine J_iload_n C 2 dX2_tells_56 rfl rfl ?_
          refine k_X2_tellsCode C mw_310 dX2_tells_57 ⟨Nat.le_of_ble_eq_true rfl, Nat.le_of_ble_eq_true rfl⟩ (Nat.le_of_ble_eq_true rfl) h (fun r_1 h => ?_)
          exact J_zret C dX2_tells_60 h.1.1 h.2
        · refine J_aload_n C 0 dX2_tells_48 rfl rfl ?_
          refine J_iload_n C 1 dX2_tells_49 rfl rfl ?_
          refine J_iload_n C 2 dX2_tells_50 rfl rfl ?_
          refine k_X2_tellsDay C mw_298 dX2_tells_51 ⟨Nat.le_of_ble_eq_true rfl, Nat.le_of_ble_eq_true rfl⟩ (Nat.le_of_ble_eq_true rfl) h (fun r_2 w_3 h => ?_)
          exact J_zret C dX2_tells_54 h.1.1 h.2
      · refine J_aload_n C 0 dX2_tells_35 rfl rfl ?_
        refine J_iload_n C 1 dX2_tells_36 rfl rfl ?_
        refine J_iload_n C 2 dX2_tells_37 rfl rfl ?_
        refine k_X2_tellsNumber C mw_276 dX2_tells_38 ⟨Nat.le_of_ble_eq_true rfl, Nat.le_of_ble_eq_true rfl⟩ (Nat.le_of_ble_eq_true rfl) h (fun r_4 w_5 h => ?_)
        exact J_zret C dX2_tells_41 h.1.1 h.2
    · refine J_aload_n C 0 dX2_tells_22 rfl rfl ?_
      refine J_iload_n C 1 dX2_tells_23 rfl rfl ?_
      refine J_iload_n C 2 dX2_tells_24 rfl rfl ?_
      refine k_X2_tellsFlag C mw_266 dX2_tells_25 ⟨Nat.le_of_ble_eq_true rfl, Nat.le_of_ble_eq_true rfl⟩ (Nat.le_of_ble_eq_true rfl) h (fun r_6 w_7 h => ?_)
      exact J_zret C dX2_tells_28 h.1.1 h.2
  · refine J_iconst (v := (1 : Int32)) C dX2_tells_14 (by decide) ?_
    exact J_zret C dX2_tells_15 rfl h
theorem c_X2_tells {l : Launch} {g : Gd} {a : Nat → Nat} {w : XW} {K : Int32 → XW → Prop} {v1 : Int32} {v2 : Int32} (h : P_X2_tells K w v1 v2) : Kt l yX2_tells cX2_tells 3 (some .boolean) 6 131 g (sA 15 a) (xCl g a) [.ref (a 3), .int v1, .int v2] w (QcI g (sA 15 a) (xCl g a) K) :=
  Kt_of (by decide +kernel) (Nat.le_of_ble_eq_true rfl) (fun x hx C => s_X2_tells C h)
theorem k_X2_tells {x : Mx} {g : Gd} {a : Nat → Nat} {cc : ByteArray} {nL : Nat} {own : String} {ret : Option FieldType} {F L : Nat} {Q : State → Prop} {w : XW} {pc : Nat} {lv : List (Nat × Value)} {st : List Value} (C : Cx x g (sA 15 a) (xCl g a) cc nL own ret F L) {index : Nat} {K : Int32 → XW → Prop} {v1 : Int32} {v2 : Int32} (h1 : Cond.methodLink own index yX2_tells ∈ gT) (hd : decode cc pc = .ok (.invokevirtual index, 3)) (hR : 6 + 1 ≤ F ∧ 8 + (3 + 11) + 131 ≤ L) (hst : (st.map fun v => v.category).sum ≤ 8) (h : P_X2_tells K w v1 v2) (k : ∀ (r : Int32) (w' : XW), K r w' → J x g (sA 15 a) (xCl g a) nL Q w' (pc + 3) lv (.int r :: st)) : J x g (sA 15 a) (xCl g a) nL Q w (pc) lv (.int v2 :: .int v1 :: .ref (a 3) :: st) :=
  J_callVi C (As := [.int v1, .int v2]) (b := a 3) (n := 2) (c_X2_tells h) h1 mw_263 mw_264 mw_4 mw_265 (by decide +kernel) hR rfl (rc_X2 C) hst hd k
-- X2_priceOfCode (pure, room 1 22)
def P_X2_priceOfCode_64 (K : Int32 → Prop) (B4 : Int32 → Int32 → Prop) (w : XW) (v1 : Int32) (v3 : Int32) (s0 : Int32) (s1 : Int32) : Prop := B4 (s1 + s0) (v3 + (1 : Int32))
set_option maxRecDepth 10000 in
theorem s_X2_priceOfCode_64 {x : Mx} {g : Gd} {a : Nat → Nat} (C : Cx x g (sA 15 a) (xCl g a) cX2_priceOfCode 5 RX2 (some .int) 1 22) {K : Int32 → Prop} {w : XW}  {v1 : Int32} {v3 : Int32} {s0 : Int32} {s1 : Int32} {B4 : Int32 → Int32 → Prop} (hB4 : ∀ (v2 : Int32) (v3 : Int32), B4 v2 v3 → J x g (sA 15 a) (xCl g a) 5 (JQ x (sA 15 a) (QcI g (sA 15 a) (xCl g a) (fun r w' => K r ∧ w' = w))) w 4 [(0, .ref (a 3)), (1, .int v1), (2, .int v2), (3, .int v3)] []) (h : P_X2_priceOfCode_64 K B4 w v1 v3 s0 s1) : J x g (sA 15 a) (xCl g a) 5 (JQ x (sA 15 a) (QcI g (sA 15 a) (xCl g a) (fun r w' => K r ∧ w' = w))) w 64 [(0, .ref (a 3)), (1, .int v1), (3, .int v3)] [.int s0, .int s1] := by
  unfold P_X2_priceOfCode_64 at h
  refine J_iadd C dX2_priceOfCode_64 ?_
  refine J_istore_n C [(2, .int (s1 + s0)), (0, .ref (a 3)), (1, .int v1), (3, .int v3)] dX2_priceOfCode_65 rfl (by decide) rfl ?_
  refine J_iinc C 3 [(3, .int (v3 + (1 : Int32))), (2, .int (s1 + s0)), (0, .ref (a 3)), (1, .int v1)] dX2_priceOfCode_66 rfl rfl (by decide) rfl ?_
  refine J_goto (tgt := 4) C dX2_priceOfCode_69 (by decide) ?_
  refine J_lv [2, 3, 1, 0] rfl ?_
  exact hB4 _ _ h
def P_X2_priceOfCode_59 (K : Int32 → Prop) (B4 : Int32 → Int32 → Prop) (w : XW) (v1 : Int32) (v3 : Int32) (s0 : Int32) : Prop := P_X2_priceOfCode_64 K B4 w v1 v3 (5 : Int32) s0
set_option maxRecDepth 10000 in
theorem s_X2_priceOfCode_59 {x : Mx} {g : Gd} {a : Nat → Nat} (C : Cx x g (sA 15 a) (xCl g a) cX2_priceOfCode 5 RX2 (some .int) 1 22) {K : Int32 → Prop} {w : XW}  {v1 : Int32} {v3 : Int32} {s0 : Int32} {B4 : Int32 → Int32 → Prop} (hB4 : ∀ (v2 : Int32) (v3 : Int32), B4 v2 v3 → J x g (sA 15 a) (xCl g a) 5 (JQ x (sA 15 a) (QcI g (sA 15 a) (xCl g a) (fun r w' => K r ∧ w' = w))) w 4 [(0, .ref (a 3)), (1, .int v1), (2, .int v2), (3, .int v3)] []) (h : P_X2_priceOfCode_59 K B4 w v1 v3 s0) : J x g (sA 15 a) (xCl g a) 5 (JQ x (sA 15 a) (QcI g (sA 15 a) (xCl g a) (fun r w' => K r ∧ w' = w))) w 59 [(0, .ref (a 3)), (1, .int v1), (3, .int v3)] [.int s0] := by
  unfold P_X2_priceOfCode_59 at h
  refine J_iconst (v := (5 : Int32)) C dX2_priceOfCode_59 (by decide) ?_
  refine J_goto (tgt := 64) C dX2_priceOfCode_60 (by decide) ?_
  refine J_lv [0, 1, 2] rfl ?_
  exact s_X2_priceOfCode_64 C hB4 h
def P_X2_priceOfCode_4 (K : Int32 → Prop) (w : XW) (v1 : Int32) : Nat → Int32 → Int32 → Prop
  | 0, _, _ => False
  | n + 1, v2, v3 => P_X1_lengthOf (fun r_1 => (r_1 ≤ v3 → K v2) ∧ (¬ r_1 ≤ v3 → P_X1_byteIn (fun r_2 => P_X2_sortOf (fun r_3 => (¬ r_3 = (256 : Int32) → (r_3 = (257 : Int32) → P_X2_priceOfCode_59 K (P_X2_priceOfCode_4 K w v1 n) w v1 v3 v2) ∧ (¬ r_3 = (257 : Int32) → (¬ r_3 = (258 : Int32) → P_X2_priceOfCode_64 K (P_X2_priceOfCode_4 K w v1 n) w v1 v3 (0 : Int32) v2) ∧ (r_3 = (258 : Int32) → P_X2_priceOfCode_59 K (P_X2_priceOfCode_4 K w v1 n) w v1 v3 v2))) ∧ (r_3 = (256 : Int32) → P_X2_priceOfCode_64 K (P_X2_priceOfCode_4 K w v1 n) w v1 v3 (4 : Int32) v2)) r_2) w v1 v3)) w v1
set_option maxRecDepth 10000 in
theorem s_X2_priceOfCode_4 {x : Mx} {g : Gd} {a : Nat → Nat} (C : Cx x g (sA 15 a) (xCl g a) cX2_priceOfCode 5 RX2 (some .int) 1 22) {K : Int32 → Prop} {w : XW}  {v1 : Int32} : ∀ (n : Nat) (v2 : Int32) (v3 : Int32), P_X2_priceOfCode_4 K w v1 n v2 v3 → J x g (sA 15 a) (xCl g a) 5 (JQ x (sA 15 a) (QcI g (sA 15 a) (xCl g a) (fun r w' => K r ∧ w' = w))) w 4 [(0, .ref (a 3)), (1, .int v1), (2, .int v2), (3, .int v3)] [] := by
  intro n
  induction n with
  | zero => intro v2 v3 h; exact h.elim
  | succ n ih =>
    intro v2 v3 h
    unfold P_X2_priceOfCode_4 at h
    refine J_iload_n C 3 dX2_priceOfCode_4 rfl rfl ?_
    refine J_aload_n C 0 dX2_priceOfCode_5 rfl rfl ?_
    refine G_fm_cut C mw_57 dX2_priceOfCode_6 ?_
    refine J_iload_n C 1 dX2_priceOfCode_9 rfl rfl ?_
    refine k_X1_lengthOf C mw_258 dX2_priceOfCode_10 ⟨Nat.le_of_ble_eq_true rfl, Nat.le_of_ble_eq_true rfl⟩ (Nat.le_of_ble_eq_true rfl) h (fun r_1 h => ?_)
    refine J_icmp_ge (tgt := 72) C dX2_priceOfCode_13 (by decide) h (fun h => ?_) (fun h => ?_)
    · refine J_iload_n C 2 dX2_priceOfCode_72 rfl rfl ?_
      exact J_iret C dX2_priceOfCode_73 ⟨h, rfl⟩
    · refine J_aload_n C 0 dX2_priceOfCode_16 rfl rfl ?_
      refine G_fm_cut C mw_57 dX2_priceOfCode_17 ?_
      refine J_iload_n C 1 dX2_priceOfCode_20 rfl rfl ?_
      refine J_iload_n C 3 dX2_priceOfCode_21 rfl rfl ?_
      refine k_X1_byteIn C mw_282 dX2_priceOfCode_22 ⟨Nat.le_of_ble_eq_true rfl, Nat.le_of_ble_eq_true rfl⟩ (Nat.le_of_ble_eq_true rfl) h (fun r_2 h => ?_)
      refine k_X2_sortOf C mw_313 dX2_priceOfCode_25 ⟨Nat.le_of_ble_eq_true rfl, Nat.le_of_ble_eq_true rfl⟩ (Nat.le_of_ble_eq_true rfl) h (fun r_3 h => ?_)
      refine J_istore C [(4, .int r_3), (0, .ref (a 3)), (1, .int v1), (2, .int v2), (3, .int v3)] dX2_priceOfCode_28 (by decide) rfl ?_
      refine J_iload_n C 3 dX2_priceOfCode_30 rfl rfl ?_
      refine J_iload C 0 dX2_priceOfCode_31 rfl ?_
      refine J_sipush (v := (256 : Int32)) C dX2_priceOfCode_33 (by decide) ?_
      refine J_icmp_ne (tgt := 43) C dX2_priceOfCode_36 (by decide) h (fun h => ?_) (fun h => ?_)
      · refine J_iload C 0 dX2_priceOfCode_43 rfl ?_
        refine J_sipush (v := (257 : Int32)) C dX2_priceOfCode_45 (by decide) ?_
        refine J_icmp_eq (tgt := 59) C dX2_priceOfCode_48 (by decide) h (fun h => ?_) (fun h => ?_)
        · refine J_lv [1, 2, 4] rfl ?_
          exact s_X2_priceOfCode_59 C ih h
        · refine J_iload C 0 dX2_priceOfCode_51 rfl ?_
          refine J_sipush (v := (258 : Int32)) C dX2_priceOfCode_53 (by decide) ?_
          refine J_icmp_ne (tgt := 63) C dX2_priceOfCode_56 (by decide) h (fun h => ?_) (fun h => ?_)
          · refine J_iconst (v := (0 : Int32)) C dX2_priceOfCode_63 (by decide) ?_
            refine J_lv [1, 2, 4] rfl ?_
            exact s_X2_priceOfCode_64 C ih h
          · refine J_lv [1, 2, 4] rfl ?_
            exact s_X2_priceOfCode_59 C ih h
      · refine J_iconst (v := (4 : Int32)) C dX2_priceOfCode_39 (by decide) ?_
        refine J_goto (tgt := 64) C dX2_priceOfCode_40 (by decide) ?_
        refine J_lv [1, 2, 4] rfl ?_
        exact s_X2_priceOfCode_64 C ih h
def P_X2_priceOfCode (K : Int32 → Prop) (w : XW) (v1 : Int32) : Prop := ∃ nf : Nat, P_X2_priceOfCode_4 K w v1 nf (0 : Int32) (0 : Int32)
set_option maxRecDepth 10000 in
theorem s_X2_priceOfCode {x : Mx} {g : Gd} {a : Nat → Nat} (C : Cx x g (sA 15 a) (xCl g a) cX2_priceOfCode 5 RX2 (some .int) 1 22) {K : Int32 → Prop} {w : XW}  {v1 : Int32} (h : P_X2_priceOfCode K w v1) : J x g (sA 15 a) (xCl g a) 5 (JQ x (sA 15 a) (QcI g (sA 15 a) (xCl g a) (fun r w' => K r ∧ w' = w))) w 0 [(0, .ref (a 3)), (1, .int v1)] [] := by
  unfold P_X2_priceOfCode at h
  refine J_iconst (v := (0 : Int32)) C dX2_priceOfCode_0 (by decide) ?_
  refine J_istore_n C [(2, .int (0 : Int32)), (0, .ref (a 3)), (1, .int v1)] dX2_priceOfCode_1 rfl (by decide) rfl ?_
  refine J_iconst (v := (0 : Int32)) C dX2_priceOfCode_2 (by decide) ?_
  refine J_istore_n C [(3, .int (0 : Int32)), (2, .int (0 : Int32)), (0, .ref (a 3)), (1, .int v1)] dX2_priceOfCode_3 rfl (by decide) rfl ?_
  obtain ⟨nf, h⟩ := h
  refine J_lv [2, 3, 1, 0] rfl ?_
  refine s_X2_priceOfCode_4 C  nf _ _ h
theorem c_X2_priceOfCode {l : Launch} {g : Gd} {a : Nat → Nat} {w : XW} {K : Int32 → Prop} {v1 : Int32} (h : P_X2_priceOfCode K w v1) : Kt l yX2_priceOfCode cX2_priceOfCode 5 (some .int) 1 22 g (sA 15 a) (xCl g a) [.ref (a 3), .int v1] w (QcI g (sA 15 a) (xCl g a) (fun r w' => K r ∧ w' = w)) :=
  Kt_of (by decide +kernel) (Nat.le_of_ble_eq_true rfl) (fun x hx C => s_X2_priceOfCode C h)
theorem k_X2_priceOfCode {x : Mx} {g : Gd} {a : Nat → Nat} {cc : ByteArray} {nL : Nat} {own : String} {ret : Option FieldType} {F L : Nat} {Q : State → Prop} {w : XW} {pc : Nat} {lv : List (Nat × Value)} {st : List Value} (C : Cx x g (sA 15 a) (xCl g a) cc nL own ret F L) {index : Nat} {K : Int32 → Prop} {v1 : Int32} (h1 : Cond.methodLink own index yX2_priceOfCode ∈ gT) (hd : decode cc pc = .ok (.invokevirtual index, 3)) (hR : 1 + 1 ≤ F ∧ 8 + (5 + 11) + 22 ≤ L) (hst : (st.map fun v => v.category).sum ≤ 8) (h : P_X2_priceOfCode K w v1) (k : ∀ (r : Int32), K r → J x g (sA 15 a) (xCl g a) nL Q w (pc + 3) lv (.int r :: st)) : J x g (sA 15 a) (xCl g a) nL Q w (pc) lv (.int v1 :: .ref (a 3) :: st) :=
  J_callVi C (As := [.int v1]) (b := a 3) (n := 1) (c_X2_priceOfCode h) h1 mw_321 mw_767 mw_4 mw_322 (by decide +kernel) hR rfl (rc_X2 C) hst hd (fun r w' hK => by
    obtain ⟨hK, rfl⟩ := hK
    exact k r hK)
-- X2_priceOfCell (pure, room 2 46)
def P_X2_priceOfCell (K : Int32 → Prop) (w : XW) (v1 : Int32) (v2 : Int32) : Prop := (¬ v1 = 0 → ((6 : Int32) < v1 → ((21 : Int32) < v1 → ((30 : Int32) < v1 → P_X2_priceOfCode (fun r_1 => K r_1) w v2) ∧ (¬ (30 : Int32) < v1 → K (16 : Int32))) ∧ (¬ (21 : Int32) < v1 → K ((4 : Int32) + ((4 : Int32) * (fm_digits w))))) ∧ (¬ (6 : Int32) < v1 → K (1 : Int32))) ∧ (v1 = 0 → P_X1_lengthOf (fun r_2 => K ((4 : Int32) + ((8 : Int32) * r_2))) w v2)
set_option maxRecDepth 10000 in
theorem s_X2_priceOfCell {x : Mx} {g : Gd} {a : Nat → Nat} (C : Cx x g (sA 15 a) (xCl g a) cX2_priceOfCell 3 RX2 (some .int) 2 46) {K : Int32 → Prop} {w : XW}  {v1 : Int32} {v2 : Int32} (h : P_X2_priceOfCell K w v1 v2) : J x g (sA 15 a) (xCl g a) 3 (JQ x (sA 15 a) (QcI g (sA 15 a) (xCl g a) (fun r w' => K r ∧ w' = w))) w 0 [(0, .ref (a 3)), (1, .int v1), (2, .int v2)] [] := by
  unfold P_X2_priceOfCell at h
  refine J_iload_n C 1 dX2_priceOfCell_0 rfl rfl ?_
  refine J_if_ne (tgt := 18) C dX2_priceOfCell_1 (by decide) h (fun h => ?_) (fun h => ?_)
  · refine J_iload_n C 1 dX2_priceOfCell_18 rfl rfl ?_
    refine J_bipush (v := (6 : Int32)) C dX2_priceOfCell_19 (by decide) ?_
    refine J_icmp_gt (tgt := 26) C dX2_priceOfCell_21 (by decide) h (fun h => ?_) (fun h => ?_)
    · refine J_iload_n C 1 dX2_priceOfCell_26 rfl rfl ?_
      refine J_bipush (v := (21 : Int32)) C dX2_priceOfCell_27 (by decide) ?_
      refine J_icmp_gt (tgt := 41) C dX2_priceOfCell_29 (by decide) h (fun h => ?_) (fun h => ?_)
      · refine J_iload_n C 1 dX2_priceOfCell_41 rfl rfl ?_
        refine J_bipush (v := (30 : Int32)) C dX2_priceOfCell_42 (by decide) ?_
        refine J_icmp_gt (tgt := 52) C dX2_priceOfCell_44 (by decide) h (fun h => ?_) (fun h => ?_)
        · refine J_aload_n C 0 dX2_priceOfCell_52 rfl rfl ?_
          refine J_iload_n C 2 dX2_priceOfCell_53 rfl rfl ?_
          refine k_X2_priceOfCode C mw_320 dX2_priceOfCell_54 ⟨Nat.le_of_ble_eq_true rfl, Nat.le_of_ble_eq_true rfl⟩ (Nat.le_of_ble_eq_true rfl) h (fun r_1 h => ?_)
          exact J_iret C dX2_priceOfCell_57 ⟨h, rfl⟩
        · refine J_bipush (v := (16 : Int32)) C dX2_priceOfCell_47 (by decide) ?_
          refine J_goto (tgt := 57) C dX2_priceOfCell_49 (by decide) ?_
          exact J_iret C dX2_priceOfCell_57 ⟨h, rfl⟩
      · refine J_iconst (v := (4 : Int32)) C dX2_priceOfCell_32 (by decide) ?_
        refine J_iconst (v := (4 : Int32)) C dX2_priceOfCell_33 (by decide) ?_
        refine J_aload_n C 0 dX2_priceOfCell_34 rfl rfl ?_
        refine G_fm_digits C mw_62 dX2_priceOfCell_35 ?_
        refine J_imul C dX2_priceOfCell_38 ?_
        refine J_iadd C dX2_priceOfCell_39 ?_
        exact J_iret C dX2_priceOfCell_40 ⟨h, rfl⟩
    · refine J_iconst (v := (1 : Int32)) C dX2_priceOfCell_24 (by decide) ?_
      exact J_iret C dX2_priceOfCell_25 ⟨h, rfl⟩
  · refine J_iconst (v := (4 : Int32)) C dX2_priceOfCell_4 (by decide) ?_
    refine J_bipush (v := (8 : Int32)) C dX2_priceOfCell_5 (by decide) ?_
    refine J_aload_n C 0 dX2_priceOfCell_7 rfl rfl ?_
    refine G_fm_cut C mw_57 dX2_priceOfCell_8 ?_
    refine J_iload_n C 2 dX2_priceOfCell_11 rfl rfl ?_
    refine k_X1_lengthOf C mw_258 dX2_priceOfCell_12 ⟨Nat.le_of_ble_eq_true rfl, Nat.le_of_ble_eq_true rfl⟩ (Nat.le_of_ble_eq_true rfl) h (fun r_2 h => ?_)
    refine J_imul C dX2_priceOfCell_15 ?_
    refine J_iadd C dX2_priceOfCell_16 ?_
    exact J_iret C dX2_priceOfCell_17 ⟨h, rfl⟩
theorem c_X2_priceOfCell {l : Launch} {g : Gd} {a : Nat → Nat} {w : XW} {K : Int32 → Prop} {v1 : Int32} {v2 : Int32} (h : P_X2_priceOfCell K w v1 v2) : Kt l yX2_priceOfCell cX2_priceOfCell 3 (some .int) 2 46 g (sA 15 a) (xCl g a) [.ref (a 3), .int v1, .int v2] w (QcI g (sA 15 a) (xCl g a) (fun r w' => K r ∧ w' = w)) :=
  Kt_of (by decide +kernel) (Nat.le_of_ble_eq_true rfl) (fun x hx C => s_X2_priceOfCell C h)
theorem k_X2_priceOfCell {x : Mx} {g : Gd} {a : Nat → Nat} {cc : ByteArray} {nL : Nat} {own : String} {ret : Option FieldType} {F L : Nat} {Q : State → Prop} {w : XW} {pc : Nat} {lv : List (Nat × Value)} {st : List Value} (C : Cx x g (sA 15 a) (xCl g a) cc nL own ret F L) {index : Nat} {K : Int32 → Prop} {v1 : Int32} {v2 : Int32} (h1 : Cond.methodLink own index yX2_priceOfCell ∈ gT) (hd : decode cc pc = .ok (.invokevirtual index, 3)) (hR : 2 + 1 ≤ F ∧ 8 + (3 + 11) + 46 ≤ L) (hst : (st.map fun v => v.category).sum ≤ 8) (h : P_X2_priceOfCell K w v1 v2) (k : ∀ (r : Int32), K r → J x g (sA 15 a) (xCl g a) nL Q w (pc + 3) lv (.int r :: st)) : J x g (sA 15 a) (xCl g a) nL Q w (pc) lv (.int v2 :: .int v1 :: .ref (a 3) :: st) :=
  J_callVi C (As := [.int v1, .int v2]) (b := a 3) (n := 2) (c_X2_priceOfCell h) h1 mw_317 mw_318 mw_4 mw_319 (by decide +kernel) hR rfl (rc_X2 C) hst hd (fun r w' hK => by
    obtain ⟨hK, rfl⟩ := hK
    exact k r hK)
-- X0_price (changes, room 7 153)
def P_X0_price_148 (K : Int32 → XW → Prop) (B63 : XW → Int32 → Int32 → Prop) (w : XW) (v1 : Int32) (v2 : Int32) (v3 : Int32) (v4 : Int32) (v5 : Int32) : Prop := B63 w v4 (v5 + (1 : Int32))
set_option maxRecDepth 10000 in
theorem s_X0_price_148 {x : Mx} {g : Gd} {a : Nat → Nat} (C : Cx x g (sA 15 a) (xCl g a) cX0_price 7 RX0 (some .int) 7 153) {K : Int32 → XW → Prop}  {v1 : Int32} {v2 : Int32} {v3 : Int32} {v4 : Int32} {v5 : Int32} {B63 : XW → Int32 → Int32 → Prop} (hB63 : ∀ (w : XW) (v4 : Int32) (v5 : Int32), B63 w v4 v5 → J x g (sA 15 a) (xCl g a) 7 (JQ x (sA 15 a) (QcI g (sA 15 a) (xCl g a) K)) w 63 [(0, .ref (a 2)), (1, .int v1), (2, .int v2), (3, .int v3), (4, .int v4), (5, .int v5)] []) {w : XW} (h : P_X0_price_148 K B63 w v1 v2 v3 v4 v5) : J x g (sA 15 a) (xCl g a) 7 (JQ x (sA 15 a) (QcI g (sA 15 a) (xCl g a) K)) w 148 [(0, .ref (a 2)), (1, .int v1), (2, .int v2), (3, .int v3), (4, .int v4), (5, .int v5)] [] := by
  unfold P_X0_price_148 at h
  refine J_iinc C 5 [(5, .int (v5 + (1 : Int32))), (0, .ref (a 2)), (1, .int v1), (2, .int v2), (3, .int v3), (4, .int v4)] dX0_price_148 rfl rfl (by decide) rfl ?_
  refine J_goto (tgt := 63) C dX0_price_151 (by decide) ?_
  refine J_lv [1, 2, 3, 4, 5, 0] rfl ?_
  exact hB63 _ _ _ h
def P_X0_price_63 (K : Int32 → XW → Prop) (v1 : Int32) (v2 : Int32) (v3 : Int32) : Nat → XW → Int32 → Int32 → Prop
  | 0, _, _, _ => False
  | n + 1, w, v4, v5 => ((cu_rows w) ≤ v5 → K v4 w) ∧ (¬ (cu_rows w) ≤ v5 → P_X1_isInColumns (fun r_2 => (r_2 = 0 → P_X0_price_148 K (P_X0_price_63 K v1 v2 v3 n) w v1 v2 v3 v4 v5) ∧ (¬ r_2 = 0 → P_X1_cellIn (fun r_3 => P_X0_isMissing (fun r_4 => (r_4 = 0 → P_X2_tells (fun r_5 w_6 => (r_5 = 0 → K (-1 : Int32) w_6) ∧ (¬ r_5 = 0 → P_X2_priceOfCell (fun r_7 => P_X0_price_148 K (P_X0_price_63 K v1 v2 v3 n) w_6 v1 v2 v3 (v4 + r_7) v5) w_6 v2 r_3)) w v2 r_3) ∧ (¬ r_4 = 0 → P_X0_price_148 K (P_X0_price_63 K v1 v2 v3 n) w v1 v2 v3 (v4 + (2 : Int32)) v5)) w r_3 v3) w v5 v1)) w v5)
set_option maxRecDepth 10000 in
theorem s_X0_price_63 {x : Mx} {g : Gd} {a : Nat → Nat} (C : Cx x g (sA 15 a) (xCl g a) cX0_price 7 RX0 (some .int) 7 153) {K : Int32 → XW → Prop}  {v1 : Int32} {v2 : Int32} {v3 : Int32} : ∀ (n : Nat) (w : XW) (v4 : Int32) (v5 : Int32), P_X0_price_63 K v1 v2 v3 n w v4 v5 → J x g (sA 15 a) (xCl g a) 7 (JQ x (sA 15 a) (QcI g (sA 15 a) (xCl g a) K)) w 63 [(0, .ref (a 2)), (1, .int v1), (2, .int v2), (3, .int v3), (4, .int v4), (5, .int v5)] [] := by
  intro n
  induction n with
  | zero => intro w v4 v5 h; exact h.elim
  | succ n ih =>
    intro w v4 v5 h
    unfold P_X0_price_63 at h
    refine J_iload C 5 dX0_price_63 rfl ?_
    refine J_aload_n C 0 dX0_price_65 rfl rfl ?_
    refine G_cs_cut C mw_72 dX0_price_66 ?_
    refine G_cu_rows C mw_33 dX0_price_69 ?_
    refine J_icmp_ge (tgt := 154) C dX0_price_72 (by decide) h (fun h => ?_) (fun h => ?_)
    · refine J_iload C 4 dX0_price_154 rfl ?_
      exact J_iret C dX0_price_156 h
    · refine J_aload_n C 0 dX0_price_75 rfl rfl ?_
      refine G_cs_cut C mw_72 dX0_price_76 ?_
      refine J_iload C 5 dX0_price_79 rfl ?_
      refine k_X1_isInColumns C mw_185 dX0_price_81 ⟨Nat.le_of_ble_eq_true rfl, Nat.le_of_ble_eq_true rfl⟩ (Nat.le_of_ble_eq_true rfl) h (fun r_2 h => ?_)
      refine J_if_eq (tgt := 148) C dX0_price_84 (by decide) h (fun h => ?_) (fun h => ?_)
      · refine J_lv [0, 1, 2, 3, 4, 5] rfl ?_
        exact s_X0_price_148 C ih h
      · refine J_aload_n C 0 dX0_price_87 rfl rfl ?_
        refine G_cs_cut C mw_72 dX0_price_88 ?_
        refine J_iload C 5 dX0_price_91 rfl ?_
        refine J_iload_n C 1 dX0_price_93 rfl rfl ?_
        refine k_X1_cellIn C mw_189 dX0_price_94 ⟨Nat.le_of_ble_eq_true rfl, Nat.le_of_ble_eq_true rfl⟩ (Nat.le_of_ble_eq_true rfl) h (fun r_3 h => ?_)
        refine J_istore C [(6, .int r_3), (0, .ref (a 2)), (1, .int v1), (2, .int v2), (3, .int v3), (4, .int v4), (5, .int v5)] dX0_price_97 (by decide) rfl ?_
        refine J_aload_n C 1 dX0_price_99 rfl rfl ?_
        refine J_iload C 0 dX0_price_100 rfl ?_
        refine J_iload_n C 4 dX0_price_102 rfl rfl ?_
        refine k_X0_isMissing C mw_193 dX0_price_103 ⟨Nat.le_of_ble_eq_true rfl, Nat.le_of_ble_eq_true rfl⟩ (Nat.le_of_ble_eq_true rfl) h (fun r_4 h => ?_)
        refine J_if_eq (tgt := 115) C dX0_price_106 (by decide) h (fun h => ?_) (fun h => ?_)
        · refine J_aload_n C 1 dX0_price_115 rfl rfl ?_
          refine G_cs_forms C mw_73 dX0_price_116 ?_
          refine J_iload_n C 3 dX0_price_119 rfl rfl ?_
          refine J_iload C 0 dX0_price_120 rfl ?_
          refine k_X2_tells C mw_262 dX0_price_122 ⟨Nat.le_of_ble_eq_true rfl, Nat.le_of_ble_eq_true rfl⟩ (Nat.le_of_ble_eq_true rfl) h (fun r_5 w_6 h => ?_)
          refine J_if_eq (tgt := 146) C dX0_price_125 (by decide) h (fun h => ?_) (fun h => ?_)
          · refine J_iconst (v := (-1 : Int32)) C dX0_price_146 (by decide) ?_
            exact J_iret C dX0_price_147 h
          · refine J_iload C 5 dX0_price_128 rfl ?_
            refine J_aload_n C 1 dX0_price_130 rfl rfl ?_
            refine G_cs_forms C mw_73 dX0_price_131 ?_
            refine J_iload_n C 3 dX0_price_134 rfl rfl ?_
            refine J_iload C 0 dX0_price_135 rfl ?_
            refine k_X2_priceOfCell C mw_316 dX0_price_137 ⟨Nat.le_of_ble_eq_true rfl, Nat.le_of_ble_eq_true rfl⟩ (Nat.le_of_ble_eq_true rfl) h (fun r_7 h => ?_)
            refine J_iadd C dX0_price_140 ?_
            refine J_istore C [(4, .int (v4 + r_7)), (6, .int r_3), (0, .ref (a 2)), (1, .int v1), (2, .int v2), (3, .int v3), (5, .int v5)] dX0_price_141 (by decide) rfl ?_
            refine J_goto (tgt := 148) C dX0_price_143 (by decide) ?_
            refine J_lv [2, 3, 4, 5, 0, 6] rfl ?_
            exact s_X0_price_148 C ih h
        · refine J_iinc C 5 [(4, .int (v4 + (2 : Int32))), (6, .int r_3), (0, .ref (a 2)), (1, .int v1), (2, .int v2), (3, .int v3), (5, .int v5)] dX0_price_109 rfl rfl (by decide) rfl ?_
          refine J_goto (tgt := 148) C dX0_price_112 (by decide) ?_
          refine J_lv [2, 3, 4, 5, 0, 6] rfl ?_
          exact s_X0_price_148 C ih h
def P_X0_price_57 (K : Int32 → XW → Prop) (w : XW) (v1 : Int32) (v2 : Int32) (v3 : Int32) (s0 : Int32) (s1 : Int32) : Prop := ∃ nf : Nat, P_X0_price_63 K v1 v2 v3 nf w (s1 + s0) (0 : Int32)
set_option maxRecDepth 10000 in
theorem s_X0_price_57 {x : Mx} {g : Gd} {a : Nat → Nat} (C : Cx x g (sA 15 a) (xCl g a) cX0_price 7 RX0 (some .int) 7 153) {K : Int32 → XW → Prop}  {v1 : Int32} {v2 : Int32} {v3 : Int32} {s0 : Int32} {s1 : Int32} {w : XW} (h : P_X0_price_57 K w v1 v2 v3 s0 s1) : J x g (sA 15 a) (xCl g a) 7 (JQ x (sA 15 a) (QcI g (sA 15 a) (xCl g a) K)) w 57 [(0, .ref (a 2)), (1, .int v1), (2, .int v2), (3, .int v3)] [.int s0, .int s1] := by
  unfold P_X0_price_57 at h
  refine J_iadd C dX0_price_57 ?_
  refine J_istore C [(4, .int (s1 + s0)), (0, .ref (a 2)), (1, .int v1), (2, .int v2), (3, .int v3)] dX0_price_58 (by decide) rfl ?_
  refine J_iconst (v := (0 : Int32)) C dX0_price_60 (by decide) ?_
  refine J_istore C [(5, .int (0 : Int32)), (4, .int (s1 + s0)), (0, .ref (a 2)), (1, .int v1), (2, .int v2), (3, .int v3)] dX0_price_61 (by decide) rfl ?_
  obtain ⟨nf, h⟩ := h
  refine J_lv [2, 3, 4, 5, 1, 0] rfl ?_
  refine s_X0_price_63 C  nf _ _ _ h
def P_X0_price_39 (K : Int32 → XW → Prop) (w : XW) (v1 : Int32) (v2 : Int32) (v3 : Int32) : Prop := P_X2_priceOfForm (fun r_1 => (v3 ≤ 0 → P_X0_price_57 K w v1 v2 v3 (0 : Int32) r_1) ∧ (¬ v3 ≤ 0 → P_X0_price_57 K w v1 v2 v3 (6 : Int32) r_1)) w v2
set_option maxRecDepth 10000 in
theorem s_X0_price_39 {x : Mx} {g : Gd} {a : Nat → Nat} (C : Cx x g (sA 15 a) (xCl g a) cX0_price 7 RX0 (some .int) 7 153) {K : Int32 → XW → Prop}  {v1 : Int32} {v2 : Int32} {v3 : Int32} {w : XW} (h : P_X0_price_39 K w v1 v2 v3) : J x g (sA 15 a) (xCl g a) 7 (JQ x (sA 15 a) (QcI g (sA 15 a) (xCl g a) K)) w 39 [(0, .ref (a 2)), (1, .int v1), (2, .int v2), (3, .int v3)] [] := by
  unfold P_X0_price_39 at h
  refine J_aload_n C 0 dX0_price_39 rfl rfl ?_
  refine G_cs_forms C mw_73 dX0_price_40 ?_
  refine J_iload_n C 2 dX0_price_43 rfl rfl ?_
  refine k_X2_priceOfForm C mw_254 dX0_price_44 ⟨Nat.le_of_ble_eq_true rfl, Nat.le_of_ble_eq_true rfl⟩ (Nat.le_of_ble_eq_true rfl) h (fun r_1 h => ?_)
  refine J_iload_n C 3 dX0_price_47 rfl rfl ?_
  refine J_if_le (tgt := 56) C dX0_price_48 (by decide) h (fun h => ?_) (fun h => ?_)
  · refine J_iconst (v := (0 : Int32)) C dX0_price_56 (by decide) ?_
    refine J_lv [0, 1, 2, 3] rfl ?_
    exact s_X0_price_57 C h
  · refine J_bipush (v := (6 : Int32)) C dX0_price_51 (by decide) ?_
    refine J_goto (tgt := 57) C dX0_price_53 (by decide) ?_
    refine J_lv [0, 1, 2, 3] rfl ?_
    exact s_X0_price_57 C h
def P_X0_price_25 (K : Int32 → XW → Prop) (w : XW) (v1 : Int32) (v2 : Int32) (v3 : Int32) : Prop := (¬ v3 = (4 : Int32) → P_X0_price_39 K w v1 v2 v3) ∧ (v3 = (4 : Int32) → P_X2_isNumber (fun r_8 => (¬ r_8 = 0 → P_X0_price_39 K w v1 v2 v3) ∧ (r_8 = 0 → K (-1 : Int32) w)) v2)
set_option maxRecDepth 10000 in
theorem s_X0_price_25 {x : Mx} {g : Gd} {a : Nat → Nat} (C : Cx x g (sA 15 a) (xCl g a) cX0_price 7 RX0 (some .int) 7 153) {K : Int32 → XW → Prop}  {v1 : Int32} {v2 : Int32} {v3 : Int32} {w : XW} (h : P_X0_price_25 K w v1 v2 v3) : J x g (sA 15 a) (xCl g a) 7 (JQ x (sA 15 a) (QcI g (sA 15 a) (xCl g a) K)) w 25 [(0, .ref (a 2)), (1, .int v1), (2, .int v2), (3, .int v3)] [] := by
  unfold P_X0_price_25 at h
  refine J_iload_n C 3 dX0_price_25 rfl rfl ?_
  refine J_iconst (v := (4 : Int32)) C dX0_price_26 (by decide) ?_
  refine J_icmp_ne (tgt := 39) C dX0_price_27 (by decide) h (fun h => ?_) (fun h => ?_)
  · refine J_lv [0, 1, 2, 3] rfl ?_
    exact s_X0_price_39 C h
  · refine J_iload_n C 2 dX0_price_30 rfl rfl ?_
    refine k_X2_isNumber C mw_251 dX0_price_31 ⟨Nat.le_of_ble_eq_true rfl, Nat.le_of_ble_eq_true rfl⟩ (Nat.le_of_ble_eq_true rfl) h (fun r_8 h => ?_)
    refine J_if_ne (tgt := 39) C dX0_price_34 (by decide) h (fun h => ?_) (fun h => ?_)
    · refine J_lv [0, 1, 2, 3] rfl ?_
      exact s_X0_price_39 C h
    · refine J_iconst (v := (-1 : Int32)) C dX0_price_37 (by decide) ?_
      exact J_iret C dX0_price_38 h
def P_X0_price (K : Int32 → XW → Prop) (w : XW) (v1 : Int32) (v2 : Int32) (v3 : Int32) : Prop := ((cs_firstPresent w) = (-1 : Int32) → K (-1 : Int32) w) ∧ (¬ (cs_firstPresent w) = (-1 : Int32) → (v3 ≤ 0 → P_X0_price_25 K w v1 v2 v3) ∧ (¬ v3 ≤ 0 → ((cs_surveyedMissing w) = 0 → K (-1 : Int32) w) ∧ (¬ (cs_surveyedMissing w) = 0 → (¬ v2 = 0 → P_X0_price_25 K w v1 v2 v3) ∧ (v2 = 0 → K (-1 : Int32) w))))
set_option maxRecDepth 10000 in
theorem s_X0_price {x : Mx} {g : Gd} {a : Nat → Nat} (C : Cx x g (sA 15 a) (xCl g a) cX0_price 7 RX0 (some .int) 7 153) {K : Int32 → XW → Prop}  {w : XW} {v1 : Int32} {v2 : Int32} {v3 : Int32} (h : P_X0_price K w v1 v2 v3) : J x g (sA 15 a) (xCl g a) 7 (JQ x (sA 15 a) (QcI g (sA 15 a) (xCl g a) K)) w 0 [(0, .ref (a 2)), (1, .int v1), (2, .int v2), (3, .int v3)] [] := by
  unfold P_X0_price at h
  refine J_aload_n C 0 dX0_price_0 rfl rfl ?_
  refine G_cs_firstPresent C mw_75 dX0_price_1 ?_
  refine J_iconst (v := (-1 : Int32)) C dX0_price_4 (by decide) ?_
  refine J_icmp_eq (tgt := 23) C dX0_price_5 (by decide) h (fun h => ?_) (fun h => ?_)
  · refine J_iconst (v := (-1 : Int32)) C dX0_price_23 (by decide) ?_
    exact J_iret C dX0_price_24 h
  · refine J_iload_n C 3 dX0_price_8 rfl rfl ?_
    refine J_if_le (tgt := 25) C dX0_price_9 (by decide) h (fun h => ?_) (fun h => ?_)
    · refine J_lv [0, 1, 2, 3] rfl ?_
      exact s_X0_price_25 C h
    · refine J_aload_n C 0 dX0_price_12 rfl rfl ?_
      refine G_cs_surveyedMissing C mw_74 dX0_price_13 ?_
      refine J_if_eq (tgt := 23) C dX0_price_16 (by decide) h (fun h => ?_) (fun h => ?_)
      · refine J_iconst (v := (-1 : Int32)) C dX0_price_23 (by decide) ?_
        exact J_iret C dX0_price_24 h
      · refine J_iload_n C 2 dX0_price_19 rfl rfl ?_
        refine J_if_ne (tgt := 25) C dX0_price_20 (by decide) h (fun h => ?_) (fun h => ?_)
        · refine J_lv [0, 1, 2, 3] rfl ?_
          exact s_X0_price_25 C h
        · refine J_iconst (v := (-1 : Int32)) C dX0_price_23 (by decide) ?_
          exact J_iret C dX0_price_24 h
theorem c_X0_price {l : Launch} {g : Gd} {a : Nat → Nat} {w : XW} {K : Int32 → XW → Prop} {v1 : Int32} {v2 : Int32} {v3 : Int32} (h : P_X0_price K w v1 v2 v3) : Kt l yX0_price cX0_price 7 (some .int) 7 153 g (sA 15 a) (xCl g a) [.ref (a 2), .int v1, .int v2, .int v3] w (QcI g (sA 15 a) (xCl g a) K) :=
  Kt_of (by decide +kernel) (Nat.le_of_ble_eq_true rfl) (fun x hx C => s_X0_price C h)
theorem k_X0_price {x : Mx} {g : Gd} {a : Nat → Nat} {cc : ByteArray} {nL : Nat} {own : String} {ret : Option FieldType} {F L : Nat} {Q : State → Prop} {w : XW} {pc : Nat} {lv : List (Nat × Value)} {st : List Value} (C : Cx x g (sA 15 a) (xCl g a) cc nL own ret F L) {index : Nat} {K : Int32 → XW → Prop} {v1 : Int32} {v2 : Int32} {v3 : Int32} (h1 : Cond.methodLink own index yX0_price ∈ gT) (hd : decode cc pc = .ok (.invokevirtual index, 3)) (hR : 7 + 1 ≤ F ∧ 8 + (7 + 11) + 153 ≤ L) (hst : (st.map fun v => v.category).sum ≤ 8) (h : P_X0_price K w v1 v2 v3) (k : ∀ (r : Int32) (w' : XW), K r w' → J x g (sA 15 a) (xCl g a) nL Q w' (pc + 3) lv (.int r :: st)) : J x g (sA 15 a) (xCl g a) nL Q w (pc) lv (.int v3 :: .int v2 :: .int v1 :: .ref (a 2) :: st) :=
  J_callVi C (As := [.int v1, .int v2, .int v3]) (b := a 2) (n := 3) (c_X0_price h) h1 mw_248 mw_249 mw_3 mw_250 (by decide +kernel) hR rfl (rc_X0 C) hst hd k
