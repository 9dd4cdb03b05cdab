-- X1_cutText (changes, room 3 68)
def P_X1_cutText_78 (K : XW → Prop) (B43 : XW → Int32 → Prop) (E87 : XW → Prop) (w : XW) (v4 : Int32) (v5 : Int32) (s0 : Int32) (s1 : Int32) (s2 : Int32) : Prop := P_X1_take (fun w_2 => B43 w_2 (v5 + (1 : Int32))) w s2 s1 s0
set_option maxRecDepth 10000 in
theorem s_X1_cutText_78 {x : Mx} {g : Gd} {a : Nat → Nat} (C : Cx x g (sA 15 a) (xCl g a) cX1_cutText 6 RX1 none 3 68) {K : XW → Prop}  {v4 : Int32} {v5 : Int32} {s0 : Int32} {s1 : Int32} {s2 : Int32} {B43 : XW → Int32 → Prop} {E87 : XW → Prop} (hB43 : ∀ (w : XW) (v5 : Int32), B43 w v5 → J x g (sA 15 a) (xCl g a) 6 (JQ x (sA 15 a) (QcV g (sA 15 a) (xCl g a) K)) w 43 [(0, .ref (a 1)), (1, .ref (a 4)), (4, .int v4), (5, .int v5)] []) (hE87 : ∀ (w : XW), E87 w → J x g (sA 15 a) (xCl g a) 6 (JQ x (sA 15 a) (QcV g (sA 15 a) (xCl g a) K)) w 87 [(0, .ref (a 1))] []) {w : XW} (h : P_X1_cutText_78 K B43 E87 w v4 v5 s0 s1 s2) : J x g (sA 15 a) (xCl g a) 6 (JQ x (sA 15 a) (QcV g (sA 15 a) (xCl g a) K)) w 78 [(0, .ref (a 1)), (1, .ref (a 4)), (4, .int v4), (5, .int v5)] [.int s0, .int s1, .int s2, .ref (a 1)] := by
  unfold P_X1_cutText_78 at h
  refine k_X1_take C mw_136 dX1_cutText_78 ⟨Nat.le_of_ble_eq_true rfl, Nat.le_of_ble_eq_true rfl⟩ (Nat.le_of_ble_eq_true rfl) h (fun w_2 h => ?_)
  refine J_iinc C 3 [(5, .int (v5 + (1 : Int32))), (0, .ref (a 1)), (1, .ref (a 4)), (4, .int v4)] dX1_cutText_81 rfl rfl (by decide) rfl ?_
  refine J_goto (tgt := 43) C dX1_cutText_84 (by decide) ?_
  refine J_lv [1, 2, 3, 0] rfl ?_
  exact hB43 _ _ h
def P_X1_cutText_43 (K : XW → Prop) (E87 : XW → Prop) (v4 : Int32) : Nat → XW → Int32 → Prop
  | 0, _, _ => False
  | n + 1, w, v5 => (v4 ≤ v5 → E87 w) ∧ (¬ v4 ≤ v5 → (¬ (cu_fault w) = 0 → E87 w) ∧ ((cu_fault w) = 0 → vp_in v5 1200 ∧ ((¬ (v5 + (1 : Int32)) = v4 → P_X1_cutText_78 K (P_X1_cutText_43 K E87 v4 n) E87 w v4 v5 (0 : Int32) v5 (rd_text w v5.toNatClampNeg)) ∧ ((v5 + (1 : Int32)) = v4 → P_X1_cutText_78 K (P_X1_cutText_43 K E87 v4 n) E87 w v4 v5 (1 : Int32) v5 (rd_text w v5.toNatClampNeg)))))
set_option maxRecDepth 10000 in
theorem s_X1_cutText_43 {x : Mx} {g : Gd} {a : Nat → Nat} (C : Cx x g (sA 15 a) (xCl g a) cX1_cutText 6 RX1 none 3 68) {K : XW → Prop}  {v4 : Int32} {E87 : XW → Prop} (hE87 : ∀ (w : XW), E87 w → J x g (sA 15 a) (xCl g a) 6 (JQ x (sA 15 a) (QcV g (sA 15 a) (xCl g a) K)) w 87 [(0, .ref (a 1))] []) : ∀ (n : Nat) (w : XW) (v5 : Int32), P_X1_cutText_43 K E87 v4 n w v5 → J x g (sA 15 a) (xCl g a) 6 (JQ x (sA 15 a) (QcV g (sA 15 a) (xCl g a) K)) w 43 [(0, .ref (a 1)), (1, .ref (a 4)), (4, .int v4), (5, .int v5)] [] := by
  intro n
  induction n with
  | zero => intro w v5 h; exact h.elim
  | succ n ih =>
    intro w v5 h
    unfold P_X1_cutText_43 at h
    refine J_iload C 3 dX1_cutText_43 rfl ?_
    refine J_iload C 2 dX1_cutText_45 rfl ?_
    refine J_icmp_ge (tgt := 87) C dX1_cutText_47 (by decide) h (fun h => ?_) (fun h => ?_)
    · refine J_lv [0] rfl ?_
      exact hE87 _ h
    · refine J_aload_n C 0 dX1_cutText_50 rfl rfl ?_
      refine G_cu_fault C mw_35 dX1_cutText_51 ?_
      refine J_if_ne (tgt := 87) C dX1_cutText_54 (by decide) h (fun h => ?_) (fun h => ?_)
      · refine J_lv [0] rfl ?_
        exact hE87 _ h
      · refine J_aload_n C 0 dX1_cutText_57 rfl rfl ?_
        refine J_aload_n C 1 dX1_cutText_58 rfl rfl ?_
        refine J_iload C 3 dX1_cutText_59 rfl ?_
        refine L_rd_text C dX1_cutText_61 h (fun h => ?_)
        refine J_iload C 3 dX1_cutText_62 rfl ?_
        refine J_iload C 3 dX1_cutText_64 rfl ?_
        refine J_iconst (v := (1 : Int32)) C dX1_cutText_66 (by decide) ?_
        refine J_iadd C dX1_cutText_67 ?_
        refine J_iload C 2 dX1_cutText_68 rfl ?_
        refine J_icmp_ne (tgt := 77) C dX1_cutText_70 (by decide) h (fun h => ?_) (fun h => ?_)
        · refine J_iconst (v := (0 : Int32)) C dX1_cutText_77 (by decide) ?_
          refine J_lv [0, 1, 2, 3] rfl ?_
          exact s_X1_cutText_78 C ih hE87 h
        · refine J_iconst (v := (1 : Int32)) C dX1_cutText_73 (by decide) ?_
          refine J_goto (tgt := 78) C dX1_cutText_74 (by decide) ?_
          refine J_lv [0, 1, 2, 3] rfl ?_
          exact s_X1_cutText_78 C ih hE87 h
def P_X1_cutText_87 (K : XW → Prop) (w : XW) : Prop := P_X1_finish (fun w_4 => K w_4) w
set_option maxRecDepth 10000 in
theorem s_X1_cutText_87 {x : Mx} {g : Gd} {a : Nat → Nat} (C : Cx x g (sA 15 a) (xCl g a) cX1_cutText 6 RX1 none 3 68) {K : XW → Prop}  {w : XW} (h : P_X1_cutText_87 K w) : J x g (sA 15 a) (xCl g a) 6 (JQ x (sA 15 a) (QcV g (sA 15 a) (xCl g a) K)) w 87 [(0, .ref (a 1))] [] := by
  unfold P_X1_cutText_87 at h
  refine J_aload_n C 0 dX1_cutText_87 rfl rfl ?_
  refine k_X1_finish C mw_142 dX1_cutText_88 ⟨Nat.le_of_ble_eq_true rfl, Nat.le_of_ble_eq_true rfl⟩ (Nat.le_of_ble_eq_true rfl) h (fun w_4 h => ?_)
  exact J_vret C dX1_cutText_91 h
def P_X1_cutText_40 (K : XW → Prop) (w : XW) (v4 : Int32) : Prop := ∃ nf : Nat, P_X1_cutText_43 K (fun w_3 => P_X1_cutText_87 K w_3) v4 nf w (0 : Int32)
set_option maxRecDepth 10000 in
theorem s_X1_cutText_40 {x : Mx} {g : Gd} {a : Nat → Nat} (C : Cx x g (sA 15 a) (xCl g a) cX1_cutText 6 RX1 none 3 68) {K : XW → Prop}  {v4 : Int32} {w : XW} (h : P_X1_cutText_40 K w v4) : J x g (sA 15 a) (xCl g a) 6 (JQ x (sA 15 a) (QcV g (sA 15 a) (xCl g a) K)) w 40 [(0, .ref (a 1)), (1, .ref (a 4)), (4, .int v4)] [] := by
  unfold P_X1_cutText_40 at h
  refine J_iconst (v := (0 : Int32)) C dX1_cutText_40 (by decide) ?_
  refine J_istore C [(5, .int (0 : Int32)), (0, .ref (a 1)), (1, .ref (a 4)), (4, .int v4)] dX1_cutText_41 (by decide) rfl ?_
  obtain ⟨nf, h⟩ := h
  refine J_lv [1, 2, 3, 0] rfl ?_
  refine s_X1_cutText_43 C (fun w_3 h => ?_) nf _ _ h
  · refine J_lv [0] rfl ?_
    exact s_X1_cutText_87 C h
def P_X1_cutText (K : XW → Prop) (w : XW) (v2 : Int32) (v3 : Int32) : Prop := P_X1_begin (fun w_1 => ((if (1200 : Int32) < v2 then (1200 : Int32) else v2) ≤ 0 → ((cu_headed w_1) = 0 → P_X1_cutText_40 K w_1 (if (1200 : Int32) < v2 then (1200 : Int32) else v2)) ∧ (¬ (cu_headed w_1) = 0 → P_X1_fail (fun w_5 => P_X1_cutText_40 K w_5 (if (1200 : Int32) < v2 then (1200 : Int32) else v2)) w_1 (4 : Int32) (0 : Int32))) ∧ (¬ (if (1200 : Int32) < v2 then (1200 : Int32) else v2) ≤ 0 → P_X1_openCell (fun w_6 => P_X1_cutText_40 K w_6 (if (1200 : Int32) < v2 then (1200 : Int32) else v2)) w_1 (0 : Int32) (1 : Int32))) w v3
set_option maxRecDepth 10000 in
theorem s_X1_cutText {x : Mx} {g : Gd} {a : Nat → Nat} (C : Cx x g (sA 15 a) (xCl g a) cX1_cutText 6 RX1 none 3 68) {K : XW → Prop}  {w : XW} {v2 : Int32} {v3 : Int32} (h : P_X1_cutText K w v2 v3) : J x g (sA 15 a) (xCl g a) 6 (JQ x (sA 15 a) (QcV g (sA 15 a) (xCl g a) K)) w 0 [(0, .ref (a 1)), (1, .ref (a 4)), (2, .int v2), (3, .int v3)] [] := by
  unfold P_X1_cutText at h
  refine J_aload_n C 0 dX1_cutText_0 rfl rfl ?_
  refine J_iload_n C 3 dX1_cutText_1 rfl rfl ?_
  refine k_X1_begin C mw_123 dX1_cutText_2 ⟨Nat.le_of_ble_eq_true rfl, Nat.le_of_ble_eq_true rfl⟩ (Nat.le_of_ble_eq_true rfl) h (fun w_1 h => ?_)
  refine J_iload_n C 2 dX1_cutText_5 rfl rfl ?_
  refine J_aload_n C 1 dX1_cutText_6 rfl rfl ?_
  refine N_rd_text C dX1_cutText_7 ?_
  refine J_min C mw_127 dX1_cutText_8 (Nat.le_of_ble_eq_true rfl) (Nat.le_of_ble_eq_true rfl) (Nat.le_of_ble_eq_true rfl) ?_
  refine J_istore C [(4, .int (if (1200 : Int32) < v2 then (1200 : Int32) else v2)), (0, .ref (a 1)), (1, .ref (a 4)), (2, .int v2), (3, .int v3)] dX1_cutText_11 (by decide) rfl ?_
  refine J_iload C 0 dX1_cutText_13 rfl ?_
  refine J_if_le (tgt := 27) C dX1_cutText_15 (by decide) h (fun h => ?_) (fun h => ?_)
  · refine J_aload_n C 1 dX1_cutText_27 rfl rfl ?_
    refine G_cu_headed C mw_41 dX1_cutText_28 ?_
    refine J_if_eq (tgt := 40) C dX1_cutText_31 (by decide) h (fun h => ?_) (fun h => ?_)
    · refine J_lv [1, 2, 0] rfl ?_
      exact s_X1_cutText_40 C h
    · refine J_aload_n C 1 dX1_cutText_34 rfl rfl ?_
      refine J_iconst (v := (4 : Int32)) C dX1_cutText_35 (by decide) ?_
      refine J_iconst (v := (0 : Int32)) C dX1_cutText_36 (by decide) ?_
      refine k_X1_fail C mw_133 dX1_cutText_37 ⟨Nat.le_of_ble_eq_true rfl, Nat.le_of_ble_eq_true rfl⟩ (Nat.le_of_ble_eq_true rfl) h (fun w_5 h => ?_)
      refine J_lv [1, 2, 0] rfl ?_
      exact s_X1_cutText_40 C h
  · refine J_aload_n C 1 dX1_cutText_18 rfl rfl ?_
    refine J_iconst (v := (0 : Int32)) C dX1_cutText_19 (by decide) ?_
    refine J_iconst (v := (1 : Int32)) C dX1_cutText_20 (by decide) ?_
    refine k_X1_openCell C mw_130 dX1_cutText_21 ⟨Nat.le_of_ble_eq_true rfl, Nat.le_of_ble_eq_true rfl⟩ (Nat.le_of_ble_eq_true rfl) h (fun w_6 h => ?_)
    refine J_goto (tgt := 40) C dX1_cutText_24 (by decide) ?_
    refine J_lv [1, 2, 0] rfl ?_
    exact s_X1_cutText_40 C h
theorem c_X1_cutText {l : Launch} {g : Gd} {a : Nat → Nat} {w : XW} {K : XW → Prop} {v2 : Int32} {v3 : Int32} (h : P_X1_cutText K w v2 v3) : Kt l yX1_cutText cX1_cutText 6 none 3 68 g (sA 15 a) (xCl g a) [.ref (a 1), .ref (a 4), .int v2, .int v3] w (QcV g (sA 15 a) (xCl g a) K) :=
  Kt_of (by decide +kernel) (Nat.le_of_ble_eq_true rfl) (fun x hx C => s_X1_cutText C h)
theorem k_X1_cutText {x : Mx} {g : Gd} {a : Nat → Nat} {cc : ByteArray} {nL : Nat} {own : String} {ret : Option FieldType} {F L : Nat} {Q : State → Prop} {w : XW} {pc : Nat} {lv : List (Nat × Value)} {st : List Value} (C : Cx x g (sA 15 a) (xCl g a) cc nL own ret F L) {index : Nat} {K : XW → Prop} {v2 : Int32} {v3 : Int32} (h1 : Cond.methodLink own index yX1_cutText ∈ gT) (hd : decode cc pc = .ok (.invokevirtual index, 3)) (hR : 3 + 1 ≤ F ∧ 8 + (6 + 11) + 68 ≤ L) (hst : (st.map fun v => v.category).sum ≤ 8) (h : P_X1_cutText K w v2 v3) (k : ∀  (w' : XW), K w' → J x g (sA 15 a) (xCl g a) nL Q w' (pc + 3) lv st) : J x g (sA 15 a) (xCl g a) nL Q w (pc) lv (.int v3 :: .int v2 :: .ref (a 4) :: .ref (a 1) :: st) :=
  J_callVv C (As := [.ref (a 4), .int v2, .int v3]) (b := a 1) (n := 3) (c_X1_cutText h) h1 mw_120 mw_121 mw_2 mw_122 (by decide +kernel) hR rfl (rc_X1 C) hst hd k
-- X1_width (pure, room 0 0)
def P_X1_width (K : Int32 → Prop) (w : XW) : Prop := ((cu_rows w) ≤ 0 → K (0 : Int32)) ∧ (¬ (cu_rows w) ≤ 0 → vp_in (1 : Int32) 81 ∧ (K (cu_rowStart w (1 : Int32).toNatClampNeg)))
set_option maxRecDepth 10000 in
theorem s_X1_width {x : Mx} {g : Gd} {a : Nat → Nat} (C : Cx x g (sA 15 a) (xCl g a) cX1_width 1 RX1 (some .int) 0 0) {K : Int32 → Prop} {w : XW}  (h : P_X1_width K w) : J x g (sA 15 a) (xCl g a) 1 (JQ x (sA 15 a) (QcI g (sA 15 a) (xCl g a) (fun r w' => K r ∧ w' = w))) w 0 [(0, .ref (a 1))] [] := by
  unfold P_X1_width at h
  refine J_aload_n C 0 dX1_width_0 rfl rfl ?_
  refine G_cu_rows C mw_32 dX1_width_1 ?_
  refine J_if_le (tgt := 16) C dX1_width_4 (by decide) h (fun h => ?_) (fun h => ?_)
  · refine J_iconst (v := (0 : Int32)) C dX1_width_16 (by decide) ?_
    exact J_iret C dX1_width_17 ⟨h, rfl⟩
  · refine J_aload_n C 0 dX1_width_7 rfl rfl ?_
    refine G_cu_rowStart C mw_29 dX1_width_8 ?_
    refine J_iconst (v := (1 : Int32)) C dX1_width_11 (by decide) ?_
    refine L_cu_rowStart C dX1_width_12 h (fun h => ?_)
    refine J_goto (tgt := 17) C dX1_width_13 (by decide) ?_
    exact J_iret C dX1_width_17 ⟨h, rfl⟩
theorem c_X1_width {l : Launch} {g : Gd} {a : Nat → Nat} {w : XW} {K : Int32 → Prop} (h : P_X1_width K w) : Kt l yX1_width cX1_width 1 (some .int) 0 0 g (sA 15 a) (xCl g a) [.ref (a 1)] w (QcI g (sA 15 a) (xCl g a) (fun r w' => K r ∧ w' = w)) :=
  Kt_of (by decide +kernel) (Nat.le_of_ble_eq_true rfl) (fun x hx C => s_X1_width C h)
theorem k_X1_width {x : Mx} {g : Gd} {a : Nat → Nat} {cc : ByteArray} {nL : Nat} {own : String} {ret : Option FieldType} {F L : Nat} {Q : State → Prop} {w : XW} {pc : Nat} {lv : List (Nat × Value)} {st : List Value} (C : Cx x g (sA 15 a) (xCl g a) cc nL own ret F L) {index : Nat} {K : Int32 → Prop} (h1 : Cond.methodLink own index yX1_width ∈ gT) (hd : decode cc pc = .ok (.invokevirtual index, 3)) (hR : 0 + 1 ≤ F ∧ 8 + (1 + 11) + 0 ≤ L) (hst : (st.map fun v => v.category).sum ≤ 8) (h : P_X1_width K w) (k : ∀ (r : Int32), K r → J x g (sA 15 a) (xCl g a) nL Q w (pc + 3) lv (.int r :: st)) : J x g (sA 15 a) (xCl g a) nL Q w (pc) lv (.ref (a 1) :: st) :=
  J_callVi C (As := []) (b := a 1) (n := 0) (c_X1_width h) h1 mw_166 mw_167 mw_2 mw_168 (by decide +kernel) hR rfl (rc_X1 C) hst hd (fun r w' hK => by
    obtain ⟨hK, rfl⟩ := hK
    exact k r hK)
-- X1_cellsOf (pure, room 0 0)
def P_X1_cellsOf (K : Int32 → Prop) (w : XW) (v1 : Int32) : Prop := (v1 < 0 → K (-1 : Int32)) ∧ (¬ v1 < 0 → (v1 < (cu_rows w) → vp_in (v1 + (1 : Int32)) 81 ∧ (vp_in v1 81 ∧ (K ((cu_rowStart w (v1 + (1 : Int32)).toNatClampNeg) - (cu_rowStart w v1.toNatClampNeg))))) ∧ (¬ v1 < (cu_rows w) → K (-1 : Int32)))
set_option maxRecDepth 10000 in
theorem s_X1_cellsOf {x : Mx} {g : Gd} {a : Nat → Nat} (C : Cx x g (sA 15 a) (xCl g a) cX1_cellsOf 2 RX1 (some .int) 0 0) {K : Int32 → Prop} {w : XW}  {v1 : Int32} (h : P_X1_cellsOf K w v1) : J x g (sA 15 a) (xCl g a) 2 (JQ x (sA 15 a) (QcI g (sA 15 a) (xCl g a) (fun r w' => K r ∧ w' = w))) w 0 [(0, .ref (a 1)), (1, .int v1)] [] := by
  unfold P_X1_cellsOf at h
  refine J_iload_n C 1 dX1_cellsOf_0 rfl rfl ?_
  refine J_if_lt (tgt := 12) C dX1_cellsOf_1 (by decide) h (fun h => ?_) (fun h => ?_)
  · refine J_iconst (v := (-1 : Int32)) C dX1_cellsOf_12 (by decide) ?_
    refine J_goto (tgt := 31) C dX1_cellsOf_13 (by decide) ?_
    exact J_iret C dX1_cellsOf_31 ⟨h, rfl⟩
  · refine J_iload_n C 1 dX1_cellsOf_4 rfl rfl ?_
    refine J_aload_n C 0 dX1_cellsOf_5 rfl rfl ?_
    refine G_cu_rows C mw_32 dX1_cellsOf_6 ?_
    refine J_icmp_lt (tgt := 16) C dX1_cellsOf_9 (by decide) h (fun h => ?_) (fun h => ?_)
    · refine J_aload_n C 0 dX1_cellsOf_16 rfl rfl ?_
      refine G_cu_rowStart C mw_29 dX1_cellsOf_17 ?_
      refine J_iload_n C 1 dX1_cellsOf_20 rfl rfl ?_
      refine J_iconst (v := (1 : Int32)) C dX1_cellsOf_21 (by decide) ?_
      refine J_iadd C dX1_cellsOf_22 ?_
      refine L_cu_rowStart C dX1_cellsOf_23 h (fun h => ?_)
      refine J_aload_n C 0 dX1_cellsOf_24 rfl rfl ?_
      refine G_cu_rowStart C mw_29 dX1_cellsOf_25 ?_
      refine J_iload_n C 1 dX1_cellsOf_28 rfl rfl ?_
      refine L_cu_rowStart C dX1_cellsOf_29 h (fun h => ?_)
      refine J_isub C dX1_cellsOf_30 ?_
      exact J_iret C dX1_cellsOf_31 ⟨h, rfl⟩
    · refine J_iconst (v := (-1 : Int32)) C dX1_cellsOf_12 (by decide) ?_
      refine J_goto (tgt := 31) C dX1_cellsOf_13 (by decide) ?_
      exact J_iret C dX1_cellsOf_31 ⟨h, rfl⟩
theorem c_X1_cellsOf {l : Launch} {g : Gd} {a : Nat → Nat} {w : XW} {K : Int32 → Prop} {v1 : Int32} (h : P_X1_cellsOf K w v1) : Kt l yX1_cellsOf cX1_cellsOf 2 (some .int) 0 0 g (sA 15 a) (xCl g a) [.ref (a 1), .int v1] w (QcI g (sA 15 a) (xCl g a) (fun r w' => K r ∧ w' = w)) :=
  Kt_of (by decide +kernel) (Nat.le_of_ble_eq_true rfl) (fun x hx C => s_X1_cellsOf C h)
theorem k_X1_cellsOf {x : Mx} {g : Gd} {a : Nat → Nat} {cc : ByteArray} {nL : Nat} {own : String} {ret : Option FieldType} {F L : Nat} {Q : State → Prop} {w : XW} {pc : Nat} {lv : List (Nat × Value)} {st : List Value} (C : Cx x g (sA 15 a) (xCl g a) cc nL own ret F L) {index : Nat} {K : Int32 → Prop} {v1 : Int32} (h1 : Cond.methodLink own index yX1_cellsOf ∈ gT) (hd : decode cc pc = .ok (.invokevirtual index, 3)) (hR : 0 + 1 ≤ F ∧ 8 + (2 + 11) + 0 ≤ L) (hst : (st.map fun v => v.category).sum ≤ 8) (h : P_X1_cellsOf K w v1) (k : ∀ (r : Int32), K r → J x g (sA 15 a) (xCl g a) nL Q w (pc + 3) lv (.int r :: st)) : J x g (sA 15 a) (xCl g a) nL Q w (pc) lv (.int v1 :: .ref (a 1) :: st) :=
  J_callVi C (As := [.int v1]) (b := a 1) (n := 1) (c_X1_cellsOf h) h1 mw_353 mw_354 mw_2 mw_355 (by decide +kernel) hR rfl (rc_X1 C) hst hd (fun r w' hK => by
    obtain ⟨hK, rfl⟩ := hK
    exact k r hK)
-- X1_oddRows (pure, room 1 21)
def P_X1_oddRows_26 (K : Int32 → Prop) (B4 : Int32 → Int32 → Prop) (w : XW) (v2 : Int32) (s0 : Int32) (s1 : Int32) : Prop := B4 (s1 + s0) (v2 + (1 : Int32))
set_option maxRecDepth 10000 in
theorem s_X1_oddRows_26 {x : Mx} {g : Gd} {a : Nat → Nat} (C : Cx x g (sA 15 a) (xCl g a) cX1_oddRows 3 RX1 (some .int) 1 21) {K : Int32 → Prop} {w : XW}  {v2 : Int32} {s0 : Int32} {s1 : Int32} {B4 : Int32 → Int32 → Prop} (hB4 : ∀ (v1 : Int32) (v2 : Int32), B4 v1 v2 → J x g (sA 15 a) (xCl g a) 3 (JQ x (sA 15 a) (QcI g (sA 15 a) (xCl g a) (fun r w' => K r ∧ w' = w))) w 4 [(0, .ref (a 1)), (1, .int v1), (2, .int v2)] []) (h : P_X1_oddRows_26 K B4 w v2 s0 s1) : J x g (sA 15 a) (xCl g a) 3 (JQ x (sA 15 a) (QcI g (sA 15 a) (xCl g a) (fun r w' => K r ∧ w' = w))) w 26 [(0, .ref (a 1)), (2, .int v2)] [.int s0, .int s1] := by
  unfold P_X1_oddRows_26 at h
  refine J_iadd C dX1_oddRows_26 ?_
  refine J_istore_n C [(1, .int (s1 + s0)), (0, .ref (a 1)), (2, .int v2)] dX1_oddRows_27 rfl (by decide) rfl ?_
  refine J_iinc C 2 [(2, .int (v2 + (1 : Int32))), (1, .int (s1 + s0)), (0, .ref (a 1))] dX1_oddRows_28 rfl rfl (by decide) rfl ?_
  refine J_goto (tgt := 4) C dX1_oddRows_31 (by decide) ?_
  refine J_lv [2, 1, 0] rfl ?_
  exact hB4 _ _ h
def P_X1_oddRows_4 (K : Int32 → Prop) (w : XW) : Nat → Int32 → Int32 → Prop
  | 0, _, _ => False
  | n + 1, v1, v2 => ((cu_rows w) ≤ v2 → K v1) ∧ (¬ (cu_rows w) ≤ v2 → P_X1_isOdd (fun r_1 => (r_1 = 0 → P_X1_oddRows_26 K (P_X1_oddRows_4 K w n) w v2 (0 : Int32) v1) ∧ (¬ r_1 = 0 → P_X1_oddRows_26 K (P_X1_oddRows_4 K w n) w v2 (1 : Int32) v1)) w v2)
set_option maxRecDepth 10000 in
theorem s_X1_oddRows_4 {x : Mx} {g : Gd} {a : Nat → Nat} (C : Cx x g (sA 15 a) (xCl g a) cX1_oddRows 3 RX1 (some .int) 1 21) {K : Int32 → Prop} {w : XW}  : ∀ (n : Nat) (v1 : Int32) (v2 : Int32), P_X1_oddRows_4 K w n v1 v2 → J x g (sA 15 a) (xCl g a) 3 (JQ x (sA 15 a) (QcI g (sA 15 a) (xCl g a) (fun r w' => K r ∧ w' = w))) w 4 [(0, .ref (a 1)), (1, .int v1), (2, .int v2)] [] := by
  intro n
  induction n with
  | zero => intro v1 v2 h; exact h.elim
  | succ n ih =>
    intro v1 v2 h
    unfold P_X1_oddRows_4 at h
    refine J_iload_n C 2 dX1_oddRows_4 rfl rfl ?_
    refine J_aload_n C 0 dX1_oddRows_5 rfl rfl ?_
    refine G_cu_rows C mw_32 dX1_oddRows_6 ?_
    refine J_icmp_ge (tgt := 34) C dX1_oddRows_9 (by decide) h (fun h => ?_) (fun h => ?_)
    · refine J_iload_n C 1 dX1_oddRows_34 rfl rfl ?_
      exact J_iret C dX1_oddRows_35 ⟨h, rfl⟩
    · refine J_iload_n C 1 dX1_oddRows_12 rfl rfl ?_
      refine J_aload_n C 0 dX1_oddRows_13 rfl rfl ?_
      refine J_iload_n C 2 dX1_oddRows_14 rfl rfl ?_
      refine k_X1_isOdd C mw_172 dX1_oddRows_15 ⟨Nat.le_of_ble_eq_true rfl, Nat.le_of_ble_eq_true rfl⟩ (Nat.le_of_ble_eq_true rfl) h (fun r_1 h => ?_)
      refine J_if_eq (tgt := 25) C dX1_oddRows_18 (by decide) h (fun h => ?_) (fun h => ?_)
      · refine J_iconst (v := (0 : Int32)) C dX1_oddRows_25 (by decide) ?_
        refine J_lv [0, 2] rfl ?_
        exact s_X1_oddRows_26 C ih h
      · refine J_iconst (v := (1 : Int32)) C dX1_oddRows_21 (by decide) ?_
        refine J_goto (tgt := 26) C dX1_oddRows_22 (by decide) ?_
        refine J_lv [0, 2] rfl ?_
        exact s_X1_oddRows_26 C ih h
def P_X1_oddRows (K : Int32 → Prop) (w : XW) : Prop := ∃ nf : Nat, P_X1_oddRows_4 K w nf (0 : Int32) (0 : Int32)
set_option maxRecDepth 10000 in
theorem s_X1_oddRows {x : Mx} {g : Gd} {a : Nat → Nat} (C : Cx x g (sA 15 a) (xCl g a) cX1_oddRows 3 RX1 (some .int) 1 21) {K : Int32 → Prop} {w : XW}  (h : P_X1_oddRows K w) : J x g (sA 15 a) (xCl g a) 3 (JQ x (sA 15 a) (QcI g (sA 15 a) (xCl g a) (fun r w' => K r ∧ w' = w))) w 0 [(0, .ref (a 1))] [] := by
  unfold P_X1_oddRows at h
  refine J_iconst (v := (0 : Int32)) C dX1_oddRows_0 (by decide) ?_
  refine J_istore_n C [(1, .int (0 : Int32)), (0, .ref (a 1))] dX1_oddRows_1 rfl (by decide) rfl ?_
  refine J_iconst (v := (0 : Int32)) C dX1_oddRows_2 (by decide) ?_
  refine J_istore_n C [(2, .int (0 : Int32)), (1, .int (0 : Int32)), (0, .ref (a 1))] dX1_oddRows_3 rfl (by decide) rfl ?_
  obtain ⟨nf, h⟩ := h
  refine J_lv [2, 1, 0] rfl ?_
  refine s_X1_oddRows_4 C  nf _ _ h
theorem c_X1_oddRows {l : Launch} {g : Gd} {a : Nat → Nat} {w : XW} {K : Int32 → Prop} (h : P_X1_oddRows K w) : Kt l yX1_oddRows cX1_oddRows 3 (some .int) 1 21 g (sA 15 a) (xCl g a) [.ref (a 1)] w (QcI g (sA 15 a) (xCl g a) (fun r w' => K r ∧ w' = w)) :=
  Kt_of (by decide +kernel) (Nat.le_of_ble_eq_true rfl) (fun x hx C => s_X1_oddRows C h)
theorem k_X1_oddRows {x : Mx} {g : Gd} {a : Nat → Nat} {cc : ByteArray} {nL : Nat} {own : String} {ret : Option FieldType} {F L : Nat} {Q : State → Prop} {w : XW} {pc : Nat} {lv : List (Nat × Value)} {st : List Value} (C : Cx x g (sA 15 a) (xCl g a) cc nL own ret F L) {index : Nat} {K : Int32 → Prop} (h1 : Cond.methodLink own index yX1_oddRows ∈ gT) (hd : decode cc pc = .ok (.invokevirtual index, 3)) (hR : 1 + 1 ≤ F ∧ 8 + (3 + 11) + 21 ≤ L) (hst : (st.map fun v => v.category).sum ≤ 8) (h : P_X1_oddRows K w) (k : ∀ (r : Int32), K r → J x g (sA 15 a) (xCl g a) nL Q w (pc + 3) lv (.int r :: st)) : J x g (sA 15 a) (xCl g a) nL Q w (pc) lv (.ref (a 1) :: st) :=
  J_callVi C (As := []) (b := a 1) (n := 0) (c_X1_oddRows h) h1 mw_340 mw_341 mw_2 mw_342 (by decide +kernel) hR rfl (rc_X1 C) hst hd (fun r w' hK => by
    obtain ⟨hK, rfl⟩ := hK
    exact k r hK)
-- X1_bytesOf (pure, room 0 0)
def P_X1_bytesOf (K : Int32 → Prop) (w : XW) (v1 : Int32) : Prop := (v1 < 0 → K (0 : Int32)) ∧ (¬ v1 < 0 → (v1 < (cu_rows w) → vp_in (v1 + (1 : Int32)) 81 ∧ (vp_in (cu_rowStart w (v1 + (1 : Int32)).toNatClampNeg) 961 ∧ (vp_in v1 81 ∧ (vp_in (cu_rowStart w v1.toNatClampNeg) 961 ∧ (K ((cu_cellStart w (cu_rowStart w (v1 + (1 : Int32)).toNatClampNeg).toNatClampNeg) - (cu_cellStart w (cu_rowStart w v1.toNatClampNeg).toNatClampNeg))))))) ∧ (¬ v1 < (cu_rows w) → K (0 : Int32)))
set_option maxRecDepth 10000 in
theorem s_X1_bytesOf {x : Mx} {g : Gd} {a : Nat → Nat} (C : Cx x g (sA 15 a) (xCl g a) cX1_bytesOf 2 RX1 (some .int) 0 0) {K : Int32 → Prop} {w : XW}  {v1 : Int32} (h : P_X1_bytesOf K w v1) : J x g (sA 15 a) (xCl g a) 2 (JQ x (sA 15 a) (QcI g (sA 15 a) (xCl g a) (fun r w' => K r ∧ w' = w))) w 0 [(0, .ref (a 1)), (1, .int v1)] [] := by
  unfold P_X1_bytesOf at h
  refine J_iload_n C 1 dX1_bytesOf_0 rfl rfl ?_
  refine J_if_lt (tgt := 12) C dX1_bytesOf_1 (by decide) h (fun h => ?_) (fun h => ?_)
  · refine J_iconst (v := (0 : Int32)) C dX1_bytesOf_12 (by decide) ?_
    refine J_goto (tgt := 41) C dX1_bytesOf_13 (by decide) ?_
    exact J_iret C dX1_bytesOf_41 ⟨h, rfl⟩
  · refine J_iload_n C 1 dX1_bytesOf_4 rfl rfl ?_
    refine J_aload_n C 0 dX1_bytesOf_5 rfl rfl ?_
    refine G_cu_rows C mw_32 dX1_bytesOf_6 ?_
    refine J_icmp_lt (tgt := 16) C dX1_bytesOf_9 (by decide) h (fun h => ?_) (fun h => ?_)
    · refine J_aload_n C 0 dX1_bytesOf_16 rfl rfl ?_
      refine G_cu_cellStart C mw_28 dX1_bytesOf_17 ?_
      refine J_aload_n C 0 dX1_bytesOf_20 rfl rfl ?_
      refine G_cu_rowStart C mw_29 dX1_bytesOf_21 ?_
      refine J_iload_n C 1 dX1_bytesOf_24 rfl rfl ?_
      refine J_iconst (v := (1 : Int32)) C dX1_bytesOf_25 (by decide) ?_
      refine J_iadd C dX1_bytesOf_26 ?_
      refine L_cu_rowStart C dX1_bytesOf_27 h (fun h => ?_)
      refine L_cu_cellStart C dX1_bytesOf_28 h (fun h => ?_)
      refine J_aload_n C 0 dX1_bytesOf_29 rfl rfl ?_
      refine G_cu_cellStart C mw_28 dX1_bytesOf_30 ?_
      refine J_aload_n C 0 dX1_bytesOf_33 rfl rfl ?_
      refine G_cu_rowStart C mw_29 dX1_bytesOf_34 ?_
      refine J_iload_n C 1 dX1_bytesOf_37 rfl rfl ?_
      refine L_cu_rowStart C dX1_bytesOf_38 h (fun h => ?_)
      refine L_cu_cellStart C dX1_bytesOf_39 h (fun h => ?_)
      refine J_isub C dX1_bytesOf_40 ?_
      exact J_iret C dX1_bytesOf_41 ⟨h, rfl⟩
    · refine J_iconst (v := (0 : Int32)) C dX1_bytesOf_12 (by decide) ?_
      refine J_goto (tgt := 41) C dX1_bytesOf_13 (by decide) ?_
      exact J_iret C dX1_bytesOf_41 ⟨h, rfl⟩
theorem c_X1_bytesOf {l : Launch} {g : Gd} {a : Nat → Nat} {w : XW} {K : Int32 → Prop} {v1 : Int32} (h : P_X1_bytesOf K w v1) : Kt l yX1_bytesOf cX1_bytesOf 2 (some .int) 0 0 g (sA 15 a) (xCl g a) [.ref (a 1), .int v1] w (QcI g (sA 15 a) (xCl g a) (fun r w' => K r ∧ w' = w)) :=
  Kt_of (by decide +kernel) (Nat.le_of_ble_eq_true rfl) (fun x hx C => s_X1_bytesOf C h)
theorem k_X1_bytesOf {x : Mx} {g : Gd} {a : Nat → Nat} {cc : ByteArray} {nL : Nat} {own : String} {ret : Option FieldType} {F L : Nat} {Q : State → Prop} {w : XW} {pc : Nat} {lv : List (Nat × Value)} {st : List Value} (C : Cx x g (sA 15 a) (xCl g a) cc nL own ret F L) {index : Nat} {K : Int32 → Prop} {v1 : Int32} (h1 : Cond.methodLink own index yX1_bytesOf ∈ gT) (hd : decode cc pc = .ok (.invokevirtual index, 3)) (hR : 0 + 1 ≤ F ∧ 8 + (2 + 11) + 0 ≤ L) (hst : (st.map fun v => v.category).sum ≤ 8) (h : P_X1_bytesOf K w v1) (k : ∀ (r : Int32), K r → J x g (sA 15 a) (xCl g a) nL Q w (pc + 3) lv (.int r :: st)) : J x g (sA 15 a) (xCl g a) nL Q w (pc) lv (.int v1 :: .ref (a 1) :: st) :=
  J_callVi C (As := [.int v1]) (b := a 1) (n := 1) (c_X1_bytesOf h) h1 mw_170 mw_761 mw_2 mw_171 (by decide +kernel) hR rfl (rc_X1 C) hst hd (fun r w' hK => by
    obtain ⟨hK, rfl⟩ := hK
    exact k r hK)
-- X1_priceBesideColumns (pure, room 1 21)
def P_X1_priceBesideColumns_71 (K : Int32 → Prop) (B41 : Int32 → Int32 → Prop) (w : XW) (v1 : Int32) (v2 : Int32) : Prop := B41 v1 (v2 + (1 : Int32))
set_option maxRecDepth 10000 in
theorem s_X1_priceBesideColumns_71 {x : Mx} {g : Gd} {a : Nat → Nat} (C : Cx x g (sA 15 a) (xCl g a) cX1_priceBesideColumns 3 RX1 (some .int) 1 21) {K : Int32 → Prop} {w : XW}  {v1 : Int32} {v2 : Int32} {B41 : Int32 → Int32 → Prop} (hB41 : ∀ (v1 : Int32) (v2 : Int32), B41 v1 v2 → J x g (sA 15 a) (xCl g a) 3 (JQ x (sA 15 a) (QcI g (sA 15 a) (xCl g a) (fun r w' => K r ∧ w' = w))) w 41 [(0, .ref (a 1)), (1, .int v1), (2, .int v2)] []) (h : P_X1_priceBesideColumns_71 K B41 w v1 v2) : J x g (sA 15 a) (xCl g a) 3 (JQ x (sA 15 a) (QcI g (sA 15 a) (xCl g a) (fun r w' => K r ∧ w' = w))) w 71 [(0, .ref (a 1)), (1, .int v1), (2, .int v2)] [] := by
  unfold P_X1_priceBesideColumns_71 at h
  refine J_iinc C 2 [(2, .int (v2 + (1 : Int32))), (0, .ref (a 1)), (1, .int v1)] dX1_priceBesideColumns_71 rfl rfl (by decide) rfl ?_
  refine J_goto (tgt := 41) C dX1_priceBesideColumns_74 (by decide) ?_
  refine J_lv [1, 2, 0] rfl ?_
  exact hB41 _ _ h
def P_X1_priceBesideColumns_41 (K : Int32 → Prop) (w : XW) : Nat → Int32 → Int32 → Prop
  | 0, _, _ => False
  | n + 1, v1, v2 => ((cu_rows w) ≤ v2 → K v1) ∧ (¬ (cu_rows w) ≤ v2 → P_X1_isOdd (fun r_1 => (r_1 = 0 → P_X1_priceBesideColumns_71 K (P_X1_priceBesideColumns_41 K w n) w v1 v2) ∧ (¬ r_1 = 0 → P_X1_bytesOf (fun r_2 => P_X1_priceBesideColumns_71 K (P_X1_priceBesideColumns_41 K w n) w (v1 + ((30 : Int32) + ((8 : Int32) * r_2))) v2) w v2)) w v2)
set_option maxRecDepth 10000 in
theorem s_X1_priceBesideColumns_41 {x : Mx} {g : Gd} {a : Nat → Nat} (C : Cx x g (sA 15 a) (xCl g a) cX1_priceBesideColumns 3 RX1 (some .int) 1 21) {K : Int32 → Prop} {w : XW}  : ∀ (n : Nat) (v1 : Int32) (v2 : Int32), P_X1_priceBesideColumns_41 K w n v1 v2 → J x g (sA 15 a) (xCl g a) 3 (JQ x (sA 15 a) (QcI g (sA 15 a) (xCl g a) (fun r w' => K r ∧ w' = w))) w 41 [(0, .ref (a 1)), (1, .int v1), (2, .int v2)] [] := by
  intro n
  induction n with
  | zero => intro v1 v2 h; exact h.elim
  | succ n ih =>
    intro v1 v2 h
    unfold P_X1_priceBesideColumns_41 at h
    refine J_iload_n C 2 dX1_priceBesideColumns_41 rfl rfl ?_
    refine J_aload_n C 0 dX1_priceBesideColumns_42 rfl rfl ?_
    refine G_cu_rows C mw_32 dX1_priceBesideColumns_43 ?_
    refine J_icmp_ge (tgt := 77) C dX1_priceBesideColumns_46 (by decide) h (fun h => ?_) (fun h => ?_)
    · refine J_iload_n C 1 dX1_priceBesideColumns_77 rfl rfl ?_
      exact J_iret C dX1_priceBesideColumns_78 ⟨h, rfl⟩
    · refine J_aload_n C 0 dX1_priceBesideColumns_49 rfl rfl ?_
      refine J_iload_n C 2 dX1_priceBesideColumns_50 rfl rfl ?_
      refine k_X1_isOdd C mw_172 dX1_priceBesideColumns_51 ⟨Nat.le_of_ble_eq_true rfl, Nat.le_of_ble_eq_true rfl⟩ (Nat.le_of_ble_eq_true rfl) h (fun r_1 h => ?_)
      refine J_if_eq (tgt := 71) C dX1_priceBesideColumns_54 (by decide) h (fun h => ?_) (fun h => ?_)
      · refine J_lv [0, 1, 2] rfl ?_
        exact s_X1_priceBesideColumns_71 C ih h
      · refine J_iload_n C 1 dX1_priceBesideColumns_57 rfl rfl ?_
        refine J_bipush (v := (30 : Int32)) C dX1_priceBesideColumns_58 (by decide) ?_
        refine J_bipush (v := (8 : Int32)) C dX1_priceBesideColumns_60 (by decide) ?_
        refine J_aload_n C 0 dX1_priceBesideColumns_62 rfl rfl ?_
        refine J_iload_n C 2 dX1_priceBesideColumns_63 rfl rfl ?_
        refine k_X1_bytesOf C mw_169 dX1_priceBesideColumns_64 ⟨Nat.le_of_ble_eq_true rfl, Nat.le_of_ble_eq_true rfl⟩ (Nat.le_of_ble_eq_true rfl) h (fun r_2 h => ?_)
        refine J_imul C dX1_priceBesideColumns_67 ?_
        refine J_iadd C dX1_priceBesideColumns_68 ?_
        refine J_iadd C dX1_priceBesideColumns_69 ?_
        refine J_istore_n C [(1, .int (v1 + ((30 : Int32) + ((8 : Int32) * r_2)))), (0, .ref (a 1)), (2, .int v2)] dX1_priceBesideColumns_70 rfl (by decide) rfl ?_
        refine J_lv [1, 0, 2] rfl ?_
        exact s_X1_priceBesideColumns_71 C ih h
def P_X1_priceBesideColumns_39 (K : Int32 → Prop) (w : XW) (v1 : Int32) : Prop := ∃ nf : Nat, P_X1_priceBesideColumns_41 K w nf v1 (0 : Int32)
set_option maxRecDepth 10000 in
theorem s_X1_priceBesideColumns_39 {x : Mx} {g : Gd} {a : Nat → Nat} (C : Cx x g (sA 15 a) (xCl g a) cX1_priceBesideColumns 3 RX1 (some .int) 1 21) {K : Int32 → Prop} {w : XW}  {v1 : Int32} (h : P_X1_priceBesideColumns_39 K w v1) : J x g (sA 15 a) (xCl g a) 3 (JQ x (sA 15 a) (QcI g (sA 15 a) (xCl g a) (fun r w' => K r ∧ w' = w))) w 39 [(0, .ref (a 1)), (1, .int v1)] [] := by
  unfold P_X1_priceBesideColumns_39 at h
  refine J_iconst (v := (0 : Int32)) C dX1_priceBesideColumns_39 (by decide) ?_
  refine J_istore_n C [(2, .int (0 : Int32)), (0, .ref (a 1)), (1, .int v1)] dX1_priceBesideColumns_40 rfl (by decide) rfl ?_
  obtain ⟨nf, h⟩ := h
  refine J_lv [1, 2, 0] rfl ?_
  refine s_X1_priceBesideColumns_41 C  nf _ _ h
def P_X1_priceBesideColumns_13 (K : Int32 → Prop) (w : XW) (s0 : Int32) : Prop := ((cu_headed w) = 0 → P_X1_priceBesideColumns_39 K w s0) ∧ (¬ (cu_headed w) = 0 → P_X1_width (fun r_3 => P_X1_bytesOf (fun r_4 => P_X1_priceBesideColumns_39 K w (s0 + (((4 : Int32) * r_3) + ((8 : Int32) * r_4)))) w (0 : Int32)) w)
set_option maxRecDepth 10000 in
theorem s_X1_priceBesideColumns_13 {x : Mx} {g : Gd} {a : Nat → Nat} (C : Cx x g (sA 15 a) (xCl g a) cX1_priceBesideColumns 3 RX1 (some .int) 1 21) {K : Int32 → Prop} {w : XW}  {s0 : Int32} (h : P_X1_priceBesideColumns_13 K w s0) : J x g (sA 15 a) (xCl g a) 3 (JQ x (sA 15 a) (QcI g (sA 15 a) (xCl g a) (fun r w' => K r ∧ w' = w))) w 13 [(0, .ref (a 1))] [.int s0] := by
  unfold P_X1_priceBesideColumns_13 at h
  refine J_istore_n C [(1, .int s0), (0, .ref (a 1))] dX1_priceBesideColumns_13 rfl (by decide) rfl ?_
  refine J_aload_n C 1 dX1_priceBesideColumns_14 rfl rfl ?_
  refine G_cu_headed C mw_41 dX1_priceBesideColumns_15 ?_
  refine J_if_eq (tgt := 39) C dX1_priceBesideColumns_18 (by decide) h (fun h => ?_) (fun h => ?_)
  · refine J_lv [1, 0] rfl ?_
    exact s_X1_priceBesideColumns_39 C h
  · refine J_iload_n C 0 dX1_priceBesideColumns_21 rfl rfl ?_
    refine J_iconst (v := (4 : Int32)) C dX1_priceBesideColumns_22 (by decide) ?_
    refine J_aload_n C 1 dX1_priceBesideColumns_23 rfl rfl ?_
    refine k_X1_width C mw_165 dX1_priceBesideColumns_24 ⟨Nat.le_of_ble_eq_true rfl, Nat.le_of_ble_eq_true rfl⟩ (Nat.le_of_ble_eq_true rfl) h (fun r_3 h => ?_)
    refine J_imul C dX1_priceBesideColumns_27 ?_
    refine J_bipush (v := (8 : Int32)) C dX1_priceBesideColumns_28 (by decide) ?_
    refine J_aload_n C 1 dX1_priceBesideColumns_30 rfl rfl ?_
    refine J_iconst (v := (0 : Int32)) C dX1_priceBesideColumns_31 (by decide) ?_
    refine k_X1_bytesOf C mw_169 dX1_priceBesideColumns_32 ⟨Nat.le_of_ble_eq_true rfl, Nat.le_of_ble_eq_true rfl⟩ (Nat.le_of_ble_eq_true rfl) h (fun r_4 h => ?_)
    refine J_imul C dX1_priceBesideColumns_35 ?_
    refine J_iadd C dX1_priceBesideColumns_36 ?_
    refine J_iadd C dX1_priceBesideColumns_37 ?_
    refine J_istore_n C [(1, .int (s0 + (((4 : Int32) * r_3) + ((8 : Int32) * r_4)))), (0, .ref (a 1))] dX1_priceBesideColumns_38 rfl (by decide) rfl ?_
    refine J_lv [1, 0] rfl ?_
    exact s_X1_priceBesideColumns_39 C h
def P_X1_priceBesideColumns (K : Int32 → Prop) (w : XW) : Prop := (¬ (cu_quote w) = (-1 : Int32) → P_X1_priceBesideColumns_13 K w (3 : Int32)) ∧ ((cu_quote w) = (-1 : Int32) → P_X1_priceBesideColumns_13 K w (0 : Int32))
set_option maxRecDepth 10000 in
theorem s_X1_priceBesideColumns {x : Mx} {g : Gd} {a : Nat → Nat} (C : Cx x g (sA 15 a) (xCl g a) cX1_priceBesideColumns 3 RX1 (some .int) 1 21) {K : Int32 → Prop} {w : XW}  (h : P_X1_priceBesideColumns K w) : J x g (sA 15 a) (xCl g a) 3 (JQ x (sA 15 a) (QcI g (sA 15 a) (xCl g a) (fun r w' => K r ∧ w' = w))) w 0 [(0, .ref (a 1))] [] := by
  unfold P_X1_priceBesideColumns at h
  refine J_aload_n C 0 dX1_priceBesideColumns_0 rfl rfl ?_
  refine G_cu_quote C mw_40 dX1_priceBesideColumns_1 ?_
  refine J_iconst (v := (-1 : Int32)) C dX1_priceBesideColumns_4 (by decide) ?_
  refine J_icmp_ne (tgt := 12) C dX1_priceBesideColumns_5 (by decide) h (fun h => ?_) (fun h => ?_)
  · refine J_iconst (v := (3 : Int32)) C dX1_priceBesideColumns_12 (by decide) ?_
    refine J_lv [0] rfl ?_
    exact s_X1_priceBesideColumns_13 C h
  · refine J_iconst (v := (0 : Int32)) C dX1_priceBesideColumns_8 (by decide) ?_
    refine J_goto (tgt := 13) C dX1_priceBesideColumns_9 (by decide) ?_
    refine J_lv [0] rfl ?_
    exact s_X1_priceBesideColumns_13 C h
theorem c_X1_priceBesideColumns {l : Launch} {g : Gd} {a : Nat → Nat} {w : XW} {K : Int32 → Prop} (h : P_X1_priceBesideColumns K w) : Kt l yX1_priceBesideColumns cX1_priceBesideColumns 3 (some .int) 1 21 g (sA 15 a) (xCl g a) [.ref (a 1)] w (QcI g (sA 15 a) (xCl g a) (fun r w' => K r ∧ w' = w)) :=
  Kt_of (by decide +kernel) (Nat.le_of_ble_eq_true rfl) (fun x hx C => s_X1_priceBesideColumns C h)
theorem k_X1_priceBesideColumns {x : Mx} {g : Gd} {a : Nat → Nat} {cc : ByteArray} {nL : Nat} {own : String} {ret : Option FieldType} {F L : Nat} {Q : State → Prop} {w : XW} {pc : Nat} {lv : List (Nat × Value)} {st : List Value} (C : Cx x g (sA 15 a) (xCl g a) cc nL own ret F L) {index : Nat} {K : Int32 → Prop} (h1 : Cond.methodLink own index yX1_priceBesideColumns ∈ gT) (hd : decode cc pc = .ok (.invokevirtual index, 3)) (hR : 1 + 1 ≤ F ∧ 8 + (3 + 11) + 21 ≤ L) (hst : (st.map fun v => v.category).sum ≤ 8) (h : P_X1_priceBesideColumns K w) (k : ∀ (r : Int32), K r → J x g (sA 15 a) (xCl g a) nL Q w (pc + 3) lv (.int r :: st)) : J x g (sA 15 a) (xCl g a) nL Q w (pc) lv (.ref (a 1) :: st) :=
  J_callVi C (As := []) (b := a 1) (n := 0) (c_X1_priceBesideColumns h) h1 mw_162 mw_163 mw_2 mw_164 (by decide +kernel) hR rfl (rc_X1 C) hst hd (fun r w' hK => by
    obtain ⟨hK, rfl⟩ := hK
    exact k r hK)
-- X3_tapeNumber (changes, room 0 0)
def P_X3_tapeNumber_3 (K : XW → Prop) (v1 : Int32) : Nat → XW → Int32 → Prop
  | 0, _, _ => False
  | n + 1, w, v2 => (v2 < 0 → K w) ∧ (¬ v2 < 0 → ((400 : Int32) ≤ (rd_tapeSize w) → K w) ∧ (¬ (400 : Int32) ≤ (rd_tapeSize w) → vp_in (rd_tapeSize w) 400 ∧ (P_X3_tapeNumber_3 K v1 n (rd_tapeSize_s (rd_tape_s w (upd (rd_tape w) (rd_tapeSize w).toNatClampNeg (((Int32.toUInt32 v1 >>> (Int32.toUInt32 v2 &&& Int32.toUInt32 31)).toInt32) &&& (255 : Int32)))) ((rd_tapeSize (rd_tape_s w (upd (rd_tape w) (rd_tapeSize w).toNatClampNeg (((Int32.toUInt32 v1 >>> (Int32.toUInt32 v2 &&& Int32.toUInt32 31)).toInt32) &&& (255 : Int32))))) + (1 : Int32))) (v2 + (-8 : Int32)))))
set_option maxRecDepth 10000 in
theorem s_X3_tapeNumber_3 {x : Mx} {g : Gd} {a : Nat → Nat} (C : Cx x g (sA 15 a) (xCl g a) cX3_tapeNumber 3 RX3 none 0 0) {K : XW → Prop}  {v1 : Int32} : ∀ (n : Nat) (w : XW) (v2 : Int32), P_X3_tapeNumber_3 K v1 n w v2 → J x g (sA 15 a) (xCl g a) 3 (JQ x (sA 15 a) (QcV g (sA 15 a) (xCl g a) K)) w 3 [(0, .ref (a 0)), (1, .int v1), (2, .int v2)] [] := by
  intro n
  induction n with
  | zero => intro w v2 h; exact h.elim
  | succ n ih =>
    intro w v2 h
    unfold P_X3_tapeNumber_3 at h
    refine J_iload_n C 2 dX3_tapeNumber_3 rfl rfl ?_
    refine J_if_lt (tgt := 49) C dX3_tapeNumber_4 (by decide) h (fun h => ?_) (fun h => ?_)
    · exact J_vret C dX3_tapeNumber_49 h
    · refine J_aload_n C 0 dX3_tapeNumber_7 rfl rfl ?_
      refine G_rd_tapeSize C mw_85 dX3_tapeNumber_8 ?_
      refine J_sipush (v := (400 : Int32)) C dX3_tapeNumber_11 (by decide) ?_
      refine J_icmp_ge (tgt := 49) C dX3_tapeNumber_14 (by decide) h (fun h => ?_) (fun h => ?_)
      · exact J_vret C dX3_tapeNumber_49 h
      · refine J_aload_n C 0 dX3_tapeNumber_17 rfl rfl ?_
        refine G_rd_tape C mw_80 dX3_tapeNumber_18 ?_
        refine J_aload_n C 0 dX3_tapeNumber_21 rfl rfl ?_
        refine G_rd_tapeSize C mw_85 dX3_tapeNumber_22 ?_
        refine J_iload_n C 1 dX3_tapeNumber_25 rfl rfl ?_
        refine J_iload_n C 2 dX3_tapeNumber_26 rfl rfl ?_
        refine J_iushr C dX3_tapeNumber_27 ?_
        refine J_sipush (v := (255 : Int32)) C dX3_tapeNumber_28 (by decide) ?_
        refine J_iand C dX3_tapeNumber_31 ?_
        refine U_rd_tape C dX3_tapeNumber_32 h (fun h => ?_)
        refine J_aload_n C 0 dX3_tapeNumber_33 rfl rfl ?_
        refine J_dup C dX3_tapeNumber_34 rfl ?_
        refine G_rd_tapeSize C mw_85 dX3_tapeNumber_35 ?_
        refine J_iconst (v := (1 : Int32)) C dX3_tapeNumber_38 (by decide) ?_
        refine J_iadd C dX3_tapeNumber_39 ?_
        refine S_rd_tapeSize C mw_85 dX3_tapeNumber_40 ?_
        refine J_iinc C 2 [(2, .int (v2 + (-8 : Int32))), (0, .ref (a 0)), (1, .int v1)] dX3_tapeNumber_43 rfl rfl (by decide) rfl ?_
        refine J_goto (tgt := 3) C dX3_tapeNumber_46 (by decide) ?_
        refine J_lv [1, 2, 0] rfl ?_
        exact ih _ _ h
def P_X3_tapeNumber (K : XW → Prop) (w : XW) (v1 : Int32) : Prop := ∃ nf : Nat, P_X3_tapeNumber_3 K v1 nf w (24 : Int32)
set_option maxRecDepth 10000 in
theorem s_X3_tapeNumber {x : Mx} {g : Gd} {a : Nat → Nat} (C : Cx x g (sA 15 a) (xCl g a) cX3_tapeNumber 3 RX3 none 0 0) {K : XW → Prop}  {w : XW} {v1 : Int32} (h : P_X3_tapeNumber K w v1) : J x g (sA 15 a) (xCl g a) 3 (JQ x (sA 15 a) (QcV g (sA 15 a) (xCl g a) K)) w 0 [(0, .ref (a 0)), (1, .int v1)] [] := by
  unfold P_X3_tapeNumber at h
  refine J_bipush (v := (24 : Int32)) C dX3_tapeNumber_0 (by decide) ?_
  refine J_istore_n C [(2, .int (24 : Int32)), (0, .ref (a 0)), (1, .int v1)] dX3_tapeNumber_2 rfl (by decide) rfl ?_
  obtain ⟨nf, h⟩ := h
  refine J_lv [1, 2, 0] rfl ?_
  refine s_X3_tapeNumber_3 C  nf _ _ h
theorem c_X3_tapeNumber {l : Launch} {g : Gd} {a : Nat → Nat} {w : XW} {K : XW → Prop} {v1 : Int32} (h : P_X3_tapeNumber K w v1) : Kt l yX3_tapeNumber cX3_tapeNumber 3 none 0 0 g (sA 15 a) (xCl g a) [.ref (a 0), .int v1] w (QcV g (sA 15 a) (xCl g a) K) :=
  Kt_of (by decide +kernel) (Nat.le_of_ble_eq_true rfl) (fun x hx C => s_X3_tapeNumber C h)
theorem k_X3_tapeNumber {x : Mx} {g : Gd} {a : Nat → Nat} {cc : ByteArray} {nL : Nat} {own : String} {ret : Option FieldType} {F L : Nat} {Q : State → Prop} {w : XW} {pc : Nat} {lv : List (Nat × Value)} {st : List Value} (C : Cx x g (sA 15 a) (xCl g a) cc nL own ret F L) {index : Nat} {K : XW → Prop} {v1 : Int32} (h1 : Cond.methodLink own index yX3_tapeNumber ∈ gT) (hd : decode cc pc = .ok (.invokevirtual index, 3)) (hR : 0 + 1 ≤ F ∧ 8 + (3 + 11) + 0 ≤ L) (hst : (st.map fun v => v.category).sum ≤ 8) (h : P_X3_tapeNumber K w v1) (k : ∀  (w' : XW), K w' → J x g (sA 15 a) (xCl g a) nL Q w' (pc + 3) lv st) : J x g (sA 15 a) (xCl g a) nL Q w (pc) lv (.int v1 :: .ref (a 0) :: st) :=
  J_callVv C (As := [.int v1]) (b := a 0) (n := 1) (c_X3_tapeNumber h) h1 mw_93 mw_751 mw_1 mw_94 (by decide +kernel) hR rfl (rc_X3 C) hst hd k
-- X3_feed (changes, room 1 22)
def P_X3_feed (K : Int32 → XW → Prop) (w : XW) (v1 : Int32) (v2 : Int32) (v3 : Int32) (v4 : Int32) (v5 : Int32) : Prop := ((rd_tapeSize w) ≤ (380 : Int32) → P_X3_tapeNumber (fun w_1 => P_X3_tapeNumber (fun w_2 => P_X3_tapeNumber (fun w_3 => P_X3_tapeNumber (fun w_4 => P_X3_tapeNumber (fun w_5 => K (rd_tapeSize w_5) w_5) w_4 v5) w_3 v4) w_2 v3) w_1 v2) w v1) ∧ (¬ (rd_tapeSize w) ≤ (380 : Int32) → K (-1 : Int32) w)
set_option maxRecDepth 10000 in
theorem s_X3_feed {x : Mx} {g : Gd} {a : Nat → Nat} (C : Cx x g (sA 15 a) (xCl g a) cX3_feed 6 RX3 (some .int) 1 22) {K : Int32 → XW → Prop}  {w : XW} {v1 : Int32} {v2 : Int32} {v3 : Int32} {v4 : Int32} {v5 : Int32} (h : P_X3_feed K w v1 v2 v3 v4 v5) : J x g (sA 15 a) (xCl g a) 6 (JQ x (sA 15 a) (QcI g (sA 15 a) (xCl g a) K)) w 0 [(0, .ref (a 0)), (1, .int v1), (2, .int v2), (3, .int v3), (4, .int v4), (5, .int v5)] [] := by
  unfold P_X3_feed at h
  refine J_aload_n C 0 dX3_feed_0 rfl rfl ?_
  refine G_rd_tapeSize C mw_85 dX3_feed_1 ?_
  refine J_sipush (v := (380 : Int32)) C dX3_feed_4 (by decide) ?_
  refine J_icmp_le (tgt := 12) C dX3_feed_7 (by decide) h (fun h => ?_) (fun h => ?_)
  · refine J_aload_n C 0 dX3_feed_12 rfl rfl ?_
    refine J_iload_n C 1 dX3_feed_13 rfl rfl ?_
    refine k_X3_tapeNumber C mw_92 dX3_feed_14 ⟨Nat.le_of_ble_eq_true rfl, Nat.le_of_ble_eq_true rfl⟩ (Nat.le_of_ble_eq_true rfl) h (fun w_1 h => ?_)
    refine J_aload_n C 0 dX3_feed_17 rfl rfl ?_
    refine J_iload_n C 2 dX3_feed_18 rfl rfl ?_
    refine k_X3_tapeNumber C mw_92 dX3_feed_19 ⟨Nat.le_of_ble_eq_true rfl, Nat.le_of_ble_eq_true rfl⟩ (Nat.le_of_ble_eq_true rfl) h (fun w_2 h => ?_)
    refine J_aload_n C 0 dX3_feed_22 rfl rfl ?_
    refine J_iload_n C 3 dX3_feed_23 rfl rfl ?_
    refine k_X3_tapeNumber C mw_92 dX3_feed_24 ⟨Nat.le_of_ble_eq_true rfl, Nat.le_of_ble_eq_true rfl⟩ (Nat.le_of_ble_eq_true rfl) h (fun w_3 h => ?_)
    refine J_aload_n C 0 dX3_feed_27 rfl rfl ?_
    refine J_iload C 4 dX3_feed_28 rfl ?_
    refine k_X3_tapeNumber C mw_92 dX3_feed_30 ⟨Nat.le_of_ble_eq_true rfl, Nat.le_of_ble_eq_true rfl⟩ (Nat.le_of_ble_eq_true rfl) h (fun w_4 h => ?_)
    refine J_aload_n C 0 dX3_feed_33 rfl rfl ?_
    refine J_iload C 5 dX3_feed_34 rfl ?_
    refine k_X3_tapeNumber C mw_92 dX3_feed_36 ⟨Nat.le_of_ble_eq_true rfl, Nat.le_of_ble_eq_true rfl⟩ (Nat.le_of_ble_eq_true rfl) h (fun w_5 h => ?_)
    refine J_aload_n C 0 dX3_feed_39 rfl rfl ?_
    refine G_rd_tapeSize C mw_85 dX3_feed_40 ?_
    exact J_iret C dX3_feed_43 h
  · refine J_iconst (v := (-1 : Int32)) C dX3_feed_10 (by decide) ?_
    exact J_iret C dX3_feed_11 h
theorem c_X3_feed {l : Launch} {g : Gd} {a : Nat → Nat} {w : XW} {K : Int32 → XW → Prop} {v1 : Int32} {v2 : Int32} {v3 : Int32} {v4 : Int32} {v5 : Int32} (h : P_X3_feed K w v1 v2 v3 v4 v5) : Kt l yX3_feed cX3_feed 6 (some .int) 1 22 g (sA 15 a) (xCl g a) [.ref (a 0), .int v1, .int v2, .int v3, .int v4, .int v5] w (QcI g (sA 15 a) (xCl g a) K) :=
  Kt_of (by decide +kernel) (Nat.le_of_ble_eq_true rfl) (fun x hx C => s_X3_feed C h)
theorem k_X3_feed {x : Mx} {g : Gd} {a : Nat → Nat} {cc : ByteArray} {nL : Nat} {own : String} {ret : Option FieldType} {F L : Nat} {Q : State → Prop} {w : XW} {pc : Nat} {lv : List (Nat × Value)} {st : List Value} (C : Cx x g (sA 15 a) (xCl g a) cc nL own ret F L) {index : Nat} {K : Int32 → XW → Prop} {v1 : Int32} {v2 : Int32} {v3 : Int32} {v4 : Int32} {v5 : Int32} (h1 : Cond.methodLink own index yX3_feed ∈ gT) (hd : decode cc pc = .ok (.invokevirtual index, 3)) (hR : 1 + 1 ≤ F ∧ 8 + (6 + 11) + 22 ≤ L) (hst : (st.map fun v => v.category).sum ≤ 8) (h : P_X3_feed K w v1 v2 v3 v4 v5) (k : ∀ (r : Int32) (w' : XW), K r w' → J x g (sA 15 a) (xCl g a) nL Q w' (pc + 3) lv (.int r :: st)) : J x g (sA 15 a) (xCl g a) nL Q w (pc) lv (.int v5 :: .int v4 :: .int v3 :: .int v2 :: .int v1 :: .ref (a 0) :: st) :=
  J_callVi C (As := [.int v1, .int v2, .int v3, .int v4, .int v5]) (b := a 0) (n := 5) (c_X3_feed h) h1 mw_89 mw_90 mw_1 mw_91 (by decide +kernel) hR rfl (rc_X3 C) hst hd k
-- X3_forgetReadings (changes, room 1 23)
def P_X3_forgetReadings (K : XW → Prop) (w : XW) : Prop := K (rd_prices_s (rd_cutBy_s w (-1 : Int32)) (ar_fill 24 (-2 : Int32) (rd_prices (rd_cutBy_s w (-1 : Int32)))))
set_option maxRecDepth 10000 in
theorem s_X3_forgetReadings {x : Mx} {g : Gd} {a : Nat → Nat} (C : Cx x g (sA 15 a) (xCl g a) cX3_forgetReadings 1 RX3 none 1 23) {K : XW → Prop}  {w : XW} (h : P_X3_forgetReadings K w) : J x g (sA 15 a) (xCl g a) 1 (JQ x (sA 15 a) (QcV g (sA 15 a) (xCl g a) K)) w 0 [(0, .ref (a 0))] [] := by
  unfold P_X3_forgetReadings at h
  refine J_aload_n C 0 dX3_forgetReadings_0 rfl rfl ?_
  refine J_iconst (v := (-1 : Int32)) C dX3_forgetReadings_1 (by decide) ?_
  refine S_rd_cutBy C mw_87 dX3_forgetReadings_2 ?_
  refine J_aload_n C 0 dX3_forgetReadings_5 rfl rfl ?_
  refine G_rd_prices C mw_83 dX3_forgetReadings_6 ?_
  refine J_bipush (v := (-2 : Int32)) C dX3_forgetReadings_9 (by decide) ?_
  refine J_fill C 6 rfl (sf := fun f => rd_prices_s (rd_cutBy_s w (-1 : Int32)) f) (fun f => rfl) (by decide) mw_76 dX3_forgetReadings_11 ⟨Nat.le_of_ble_eq_true rfl, Nat.le_of_ble_eq_true rfl⟩ (Nat.le_of_ble_eq_true rfl) ?_
  exact J_vret C dX3_forgetReadings_14 h
theorem c_X3_forgetReadings {l : Launch} {g : Gd} {a : Nat → Nat} {w : XW} {K : XW → Prop} (h : P_X3_forgetReadings K w) : Kt l yX3_forgetReadings cX3_forgetReadings 1 none 1 23 g (sA 15 a) (xCl g a) [.ref (a 0)] w (QcV g (sA 15 a) (xCl g a) K) :=
  Kt_of (by decide +kernel) (Nat.le_of_ble_eq_true rfl) (fun x hx C => s_X3_forgetReadings C h)
theorem k_X3_forgetReadings {x : Mx} {g : Gd} {a : Nat → Nat} {cc : ByteArray} {nL : Nat} {own : String} {ret : Option FieldType} {F L : Nat} {Q : State → Prop} {w : XW} {pc : Nat} {lv : List (Nat × Value)} {st : List Value} (C : Cx x g (sA 15 a) (xCl g a) cc nL own ret F L) {index : Nat} {K : XW → Prop} (h1 : Cond.methodLink own index yX3_forgetReadings ∈ gT) (hd : decode cc pc = .ok (.invokevirtual index, 3)) (hR : 1 + 1 ≤ F ∧ 8 + (1 + 11) + 23 ≤ L) (hst : (st.map fun v => v.category).sum ≤ 8) (h : P_X3_forgetReadings K w) (k : ∀  (w' : XW), K w' → J x g (sA 15 a) (xCl g a) nL Q w' (pc + 3) lv st) : J x g (sA 15 a) (xCl g a) nL Q w (pc) lv (.ref (a 0) :: st) :=
  J_callVv C (As := []) (b := a 0) (n := 0) (c_X3_forgetReadings h) h1 mw_103 mw_752 mw_1 mw_104 (by decide +kernel) hR rfl (rc_X3 C) hst hd k
-- X3_add (changes, room 2 43)
def P_X3_add (K : Int32 → XW → Prop) (w : XW) (v1 : Int32) : Prop := (v1 < 0 → K (-2 : Int32) w) ∧ (¬ v1 < 0 → (v1 ≤ (rd_tapeSize w) → (v1 ≤ ((1200 : Int32) - (rd_textSize w)) → cpOk (0 : Int32) (rd_textSize w) v1 400 1200 ∧ (P_X3_forgetReadings (fun w_1 => K (rd_textSize w_1) w_1) (rd_tapeSize_s (rd_textSize_s (rd_text_s w (va_cpy (rd_tape w) (rd_text w) (0 : Int32).toNatClampNeg (rd_textSize w).toNatClampNeg v1.toNatClampNeg)) ((rd_textSize (rd_text_s w (va_cpy (rd_tape w) (rd_text w) (0 : Int32).toNatClampNeg (rd_textSize w).toNatClampNeg v1.toNatClampNeg))) + v1)) (0 : Int32)))) ∧ (¬ v1 ≤ ((1200 : Int32) - (rd_textSize w)) → K (-1 : Int32) w)) ∧ (¬ v1 ≤ (rd_tapeSize w) → K (-2 : Int32) w))
set_option maxRecDepth 10000 in
theorem s_X3_add {x : Mx} {g : Gd} {a : Nat → Nat} (C : Cx x g (sA 15 a) (xCl g a) cX3_add 2 RX3 (some .int) 2 43) {K : Int32 → XW → Prop}  {w : XW} {v1 : Int32} (h : P_X3_add K w v1) : J x g (sA 15 a) (xCl g a) 2 (JQ x (sA 15 a) (QcI g (sA 15 a) (xCl g a) K)) w 0 [(0, .ref (a 0)), (1, .int v1)] [] := by
  unfold P_X3_add at h
  refine J_iload_n C 1 dX3_add_0 rfl rfl ?_
  refine J_if_lt (tgt := 12) C dX3_add_1 (by decide) h (fun h => ?_) (fun h => ?_)
  · refine J_bipush (v := (-2 : Int32)) C dX3_add_12 (by decide) ?_
    exact J_iret C dX3_add_14 h
  · refine J_iload_n C 1 dX3_add_4 rfl rfl ?_
    refine J_aload_n C 0 dX3_add_5 rfl rfl ?_
    refine G_rd_tapeSize C mw_85 dX3_add_6 ?_
    refine J_icmp_le (tgt := 15) C dX3_add_9 (by decide) h (fun h => ?_) (fun h => ?_)
    · refine J_iload_n C 1 dX3_add_15 rfl rfl ?_
      refine J_sipush (v := (1200 : Int32)) C dX3_add_16 (by decide) ?_
      refine J_aload_n C 0 dX3_add_19 rfl rfl ?_
      refine G_rd_textSize C mw_84 dX3_add_20 ?_
      refine J_isub C dX3_add_23 ?_
      refine J_icmp_le (tgt := 29) C dX3_add_24 (by decide) h (fun h => ?_) (fun h => ?_)
      · refine J_aload_n C 0 dX3_add_29 rfl rfl ?_
        refine G_rd_tape C mw_80 dX3_add_30 ?_
        refine J_iconst (v := (0 : Int32)) C dX3_add_33 (by decide) ?_
        refine J_aload_n C 0 dX3_add_34 rfl rfl ?_
        refine G_rd_text C mw_79 dX3_add_35 ?_
        refine J_aload_n C 0 dX3_add_38 rfl rfl ?_
        refine G_rd_textSize C mw_84 dX3_add_39 ?_
        refine J_iload_n C 1 dX3_add_42 rfl rfl ?_
        refine J_copy C 5 4 rfl rfl (w1 := rd_text_s w (va_cpy (rd_tape w) (rd_text w) (0 : Int32).toNatClampNeg (rd_textSize w).toNatClampNeg v1.toNatClampNeg)) rfl mw_99 dX3_add_43 (Nat.le_of_ble_eq_true rfl) (Nat.le_of_ble_eq_true rfl) (Nat.le_of_ble_eq_true rfl) h (fun h => ?_)
        refine J_aload_n C 0 dX3_add_46 rfl rfl ?_
        refine J_dup C dX3_add_47 rfl ?_
        refine G_rd_textSize C mw_84 dX3_add_48 ?_
        refine J_iload_n C 1 dX3_add_51 rfl rfl ?_
        refine J_iadd C dX3_add_52 ?_
        refine S_rd_textSize C mw_84 dX3_add_53 ?_
        refine J_aload_n C 0 dX3_add_56 rfl rfl ?_
        refine J_iconst (v := (0 : Int32)) C dX3_add_57 (by decide) ?_
        refine S_rd_tapeSize C mw_85 dX3_add_58 ?_
        refine J_aload_n C 0 dX3_add_61 rfl rfl ?_
        refine k_X3_forgetReadings C mw_102 dX3_add_62 ⟨Nat.le_of_ble_eq_true rfl, Nat.le_of_ble_eq_true rfl⟩ (Nat.le_of_ble_eq_true rfl) h (fun w_1 h => ?_)
        refine J_aload_n C 0 dX3_add_65 rfl rfl ?_
        refine G_rd_textSize C mw_84 dX3_add_66 ?_
        exact J_iret C dX3_add_69 h
      · refine J_iconst (v := (-1 : Int32)) C dX3_add_27 (by decide) ?_
        exact J_iret C dX3_add_28 h
    · refine J_bipush (v := (-2 : Int32)) C dX3_add_12 (by decide) ?_
      exact J_iret C dX3_add_14 h
theorem c_X3_add {l : Launch} {g : Gd} {a : Nat → Nat} {w : XW} {K : Int32 → XW → Prop} {v1 : Int32} (h : P_X3_add K w v1) : Kt l yX3_add cX3_add 2 (some .int) 2 43 g (sA 15 a) (xCl g a) [.ref (a 0), .int v1] w (QcI g (sA 15 a) (xCl g a) K) :=
  Kt_of (by decide +kernel) (Nat.le_of_ble_eq_true rfl) (fun x hx C => s_X3_add C h)
theorem k_X3_add {x : Mx} {g : Gd} {a : Nat → Nat} {cc : ByteArray} {nL : Nat} {own : String} {ret : Option FieldType} {F L : Nat} {Q : State → Prop} {w : XW} {pc : Nat} {lv : List (Nat × Value)} {st : List Value} (C : Cx x g (sA 15 a) (xCl g a) cc nL own ret F L) {index : Nat} {K : Int32 → XW → Prop} {v1 : Int32} (h1 : Cond.methodLink own index yX3_add ∈ gT) (hd : decode cc pc = .ok (.invokevirtual index, 3)) (hR : 2 + 1 ≤ F ∧ 8 + (2 + 11) + 43 ≤ L) (hst : (st.map fun v => v.category).sum ≤ 8) (h : P_X3_add K w v1) (k : ∀ (r : Int32) (w' : XW), K r w' → J x g (sA 15 a) (xCl g a) nL Q w' (pc + 3) lv (.int r :: st)) : J x g (sA 15 a) (xCl g a) nL Q w (pc) lv (.int v1 :: .ref (a 0) :: st) :=
  J_callVi C (As := [.int v1]) (b := a 0) (n := 1) (c_X3_add h) h1 mw_96 mw_97 mw_1 mw_98 (by decide +kernel) hR rfl (rc_X3 C) hst hd k
-- X3_clear (changes, room 2 43)
def P_X3_clear (K : XW → Prop) (w : XW) : Prop := P_X3_forgetReadings (fun w_1 => K w_1) (rd_used_s (rd_textSize_s w (0 : Int32)) (0 : Int32))
set_option maxRecDepth 10000 in
theorem s_X3_clear {x : Mx} {g : Gd} {a : Nat → Nat} (C : Cx x g (sA 15 a) (xCl g a) cX3_clear 1 RX3 none 2 43) {K : XW → Prop}  {w : XW} (h : P_X3_clear K w) : J x g (sA 15 a) (xCl g a) 1 (JQ x (sA 15 a) (QcV g (sA 15 a) (xCl g a) K)) w 0 [(0, .ref (a 0))] [] := by
  unfold P_X3_clear at h
  refine J_aload_n C 0 dX3_clear_0 rfl rfl ?_
  refine J_iconst (v := (0 : Int32)) C dX3_clear_1 (by decide) ?_
  refine S_rd_textSize C mw_84 dX3_clear_2 ?_
  refine J_aload_n C 0 dX3_clear_5 rfl rfl ?_
  refine J_iconst (v := (0 : Int32)) C dX3_clear_6 (by decide) ?_
  refine S_rd_used C mw_86 dX3_clear_7 ?_
  refine J_aload_n C 0 dX3_clear_10 rfl rfl ?_
  refine k_X3_forgetReadings C mw_102 dX3_clear_11 ⟨Nat.le_of_ble_eq_true rfl, Nat.le_of_ble_eq_true rfl⟩ (Nat.le_of_ble_eq_true rfl) h (fun w_1 h => ?_)
  exact J_vret C dX3_clear_14 h
theorem c_X3_clear {l : Launch} {g : Gd} {a : Nat → Nat} {w : XW} {K : XW → Prop} (h : P_X3_clear K w) : Kt l yX3_clear cX3_clear 1 none 2 43 g (sA 15 a) (xCl g a) [.ref (a 0)] w (QcV g (sA 15 a) (xCl g a) K) :=
  Kt_of (by decide +kernel) (Nat.le_of_ble_eq_true rfl) (fun x hx C => s_X3_clear C h)
theorem k_X3_clear {x : Mx} {g : Gd} {a : Nat → Nat} {cc : ByteArray} {nL : Nat} {own : String} {ret : Option FieldType} {F L : Nat} {Q : State → Prop} {w : XW} {pc : Nat} {lv : List (Nat × Value)} {st : List Value} (C : Cx x g (sA 15 a) (xCl g a) cc nL own ret F L) {index : Nat} {K : XW → Prop} (h1 : Cond.methodLink own index yX3_clear ∈ gT) (hd : decode cc pc = .ok (.invokevirtual index, 3)) (hR : 2 + 1 ≤ F ∧ 8 + (1 + 11) + 43 ≤ L) (hst : (st.map fun v => v.category).sum ≤ 8) (h : P_X3_clear K w) (k : ∀  (w' : XW), K w' → J x g (sA 15 a) (xCl g a) nL Q w' (pc + 3) lv st) : J x g (sA 15 a) (xCl g a) nL Q w (pc) lv (.ref (a 0) :: st) :=
  J_callVv C (As := []) (b := a 0) (n := 0) (c_X3_clear h) h1 mw_106 mw_107 mw_1 mw_108 (by decide +kernel) hR rfl (rc_X3 C) hst hd k
-- X3_isMake (pure, room 0 0)
def P_X3_isMake (K : Int32 → Prop) (v0 : Int32) : Prop := (v0 < 0 → K (0 : Int32)) ∧ (¬ v0 < 0 → ((24 : Int32) ≤ v0 → K (0 : Int32)) ∧ (¬ (24 : Int32) ≤ v0 → K (1 : Int32)))
set_option maxRecDepth 10000 in
theorem s_X3_isMake {x : Mx} {g : Gd} {Wd : Type} {A : Nat → Prop} {cl : Wd → va_W} (C : Cx x g A cl cX3_isMake 1 RX3 (some .boolean) 0 0) {K : Int32 → Prop} {w : Wd}  {v0 : Int32} (h : P_X3_isMake K v0) : J x g A cl 1 (JQ x A (QcI g A cl (fun r w' => K r ∧ w' = w))) w 0 [(0, .int v0)] [] := by
  unfold P_X3_isMake at h
  refine J_iload_n C 0 dX3_isMake_0 rfl rfl ?_
  refine J_if_lt (tgt := 14) C dX3_isMake_1 (by decide) h (fun h => ?_) (fun h => ?_)
  · refine J_iconst (v := (0 : Int32)) C dX3_isMake_14 (by decide) ?_
    exact J_zret C dX3_isMake_15 rfl ⟨h, rfl⟩
  · refine J_iload_n C 0 dX3_isMake_4 rfl rfl ?_
    refine J_bipush (v := (24 : Int32)) C dX3_isMake_5 (by decide) ?_
    refine J_icmp_ge (tgt := 14) C dX3_isMake_7 (by decide) h (fun h => ?_) (fun h => ?_)
    · refine J_iconst (v := (0 : Int32)) C dX3_isMake_14 (by decide) ?_
      exact J_zret C dX3_isMake_15 rfl ⟨h, rfl⟩
    · refine J_iconst (v := (1 : Int32)) C dX3_isMake_10 (by decide) ?_
      refine J_goto (tgt := 15) C dX3_isMake_11 (by decide) ?_
      exact J_zret C dX3_isMake_15 rfl ⟨h, rfl⟩
theorem c_X3_isMake {l : Launch} {g : Gd} {Wd : Type} {A : Nat → Prop} {cl : Wd → va_W} {w : Wd} {K : Int32 → Prop} {v0 : Int32} (h : P_X3_isMake K v0) : Kt l yX3_isMake cX3_isMake 1 (some .boolean) 0 0 g A cl [.int v0] w (QcI g A cl (fun r w' => K r ∧ w' = w)) :=
  Kt_of (by decide +kernel) (Nat.le_of_ble_eq_true rfl) (fun x hx C => s_X3_isMake C h)
theorem k_X3_isMake {x : Mx} {g : Gd} {Wd : Type} {A : Nat → Prop} {cl : Wd → va_W} {cc : ByteArray} {nL : Nat} {own : String} {ret : Option FieldType} {F L : Nat} {Q : State → Prop} {w : Wd} {pc : Nat} {lv : List (Nat × Value)} {st : List Value} (C : Cx x g A cl cc nL own ret F L) {index : Nat} {K : Int32 → Prop} {v0 : Int32} (h1 : Cond.methodLink own index yX3_isMake ∈ gT) (hd : decode cc pc = .ok (.invokestatic index, 3)) (hR : 0 + 1 ≤ F ∧ 8 + (1 + 11) + 0 ≤ L) (hst : (st.map fun v => v.category).sum ≤ 8) (h : P_X3_isMake K v0) (k : ∀ (r : Int32), K r → J x g A cl nL Q w (pc + 3) lv (.int r :: st)) : J x g A cl nL Q w (pc) lv (.int v0 :: st) :=
  J_callSi C (As := [.int v0]) (n := 1) (c_X3_isMake h) h1 mw_114 mw_1 mw_115 (by decide +kernel) hR rfl hst hd (fun r w' hK => by
    obtain ⟨hK, rfl⟩ := hK
    exact k r hK)
-- X3_cutTextBy (changes, room 4 93)
def P_X3_cutTextBy (K : XW → Prop) (w : XW) (v1 : Int32) : Prop := ((rd_cutBy w) = v1 → K w) ∧ (¬ (rd_cutBy w) = v1 → P_X1_cutText (fun w_1 => P_X0_forget (fun w_2 => K (rd_cutBy_s w_2 v1)) w_1) w (rd_textSize w) v1)
set_option maxRecDepth 10000 in
theorem s_X3_cutTextBy {x : Mx} {g : Gd} {a : Nat → Nat} (C : Cx x g (sA 15 a) (xCl g a) cX3_cutTextBy 2 RX3 none 4 93) {K : XW → Prop}  {w : XW} {v1 : Int32} (h : P_X3_cutTextBy K w v1) : J x g (sA 15 a) (xCl g a) 2 (JQ x (sA 15 a) (QcV g (sA 15 a) (xCl g a) K)) w 0 [(0, .ref (a 0)), (1, .int v1)] [] := by
  unfold P_X3_cutTextBy at h
  refine J_aload_n C 0 dX3_cutTextBy_0 rfl rfl ?_
  refine G_rd_cutBy C mw_87 dX3_cutTextBy_1 ?_
  refine J_iload_n C 1 dX3_cutTextBy_4 rfl rfl ?_
  refine J_icmp_eq (tgt := 36) C dX3_cutTextBy_5 (by decide) h (fun h => ?_) (fun h => ?_)
  · exact J_vret C dX3_cutTextBy_36 h
  · refine J_aload_n C 0 dX3_cutTextBy_8 rfl rfl ?_
    refine G_rd_cut C mw_81 dX3_cutTextBy_9 ?_
    refine J_aload_n C 0 dX3_cutTextBy_12 rfl rfl ?_
    refine G_rd_text C mw_79 dX3_cutTextBy_13 ?_
    refine J_aload_n C 0 dX3_cutTextBy_16 rfl rfl ?_
    refine G_rd_textSize C mw_84 dX3_cutTextBy_17 ?_
    refine J_iload_n C 1 dX3_cutTextBy_20 rfl rfl ?_
    refine k_X1_cutText C mw_119 dX3_cutTextBy_21 ⟨Nat.le_of_ble_eq_true rfl, Nat.le_of_ble_eq_true rfl⟩ (Nat.le_of_ble_eq_true rfl) h (fun w_1 h => ?_)
    refine J_aload_n C 0 dX3_cutTextBy_24 rfl rfl ?_
    refine G_rd_columns C mw_82 dX3_cutTextBy_25 ?_
    refine k_X0_forget C mw_145 dX3_cutTextBy_28 ⟨Nat.le_of_ble_eq_true rfl, Nat.le_of_ble_eq_true rfl⟩ (Nat.le_of_ble_eq_true rfl) h (fun w_2 h => ?_)
    refine J_aload_n C 0 dX3_cutTextBy_31 rfl rfl ?_
    refine J_iload_n C 1 dX3_cutTextBy_32 rfl rfl ?_
    refine S_rd_cutBy C mw_87 dX3_cutTextBy_33 ?_
    exact J_vret C dX3_cutTextBy_36 h
theorem c_X3_cutTextBy {l : Launch} {g : Gd} {a : Nat → Nat} {w : XW} {K : XW → Prop} {v1 : Int32} (h : P_X3_cutTextBy K w v1) : Kt l yX3_cutTextBy cX3_cutTextBy 2 none 4 93 g (sA 15 a) (xCl g a) [.ref (a 0), .int v1] w (QcV g (sA 15 a) (xCl g a) K) :=
  Kt_of (by decide +kernel) (Nat.le_of_ble_eq_true rfl) (fun x hx C => s_X3_cutTextBy C h)
theorem k_X3_cutTextBy {x : Mx} {g : Gd} {a : Nat → Nat} {cc : ByteArray} {nL : Nat} {own : String} {ret : Option FieldType} {F L : Nat} {Q : State → Prop} {w : XW} {pc : Nat} {lv : List (Nat × Value)} {st : List Value} (C : Cx x g (sA 15 a) (xCl g a) cc nL own ret F L) {index : Nat} {K : XW → Prop} {v1 : Int32} (h1 : Cond.methodLink own index yX3_cutTextBy ∈ gT) (hd : decode cc pc = .ok (.invokevirtual index, 3)) (hR : 4 + 1 ≤ F ∧ 8 + (2 + 11) + 93 ≤ L) (hst : (st.map fun v => v.category).sum ≤ 8) (h : P_X3_cutTextBy K w v1) (k : ∀  (w' : XW), K w' → J x g (sA 15 a) (xCl g a) nL Q w' (pc + 3) lv st) : J x g (sA 15 a) (xCl g a) nL Q w (pc) lv (.int v1 :: .ref (a 0) :: st) :=
  J_callVv C (As := [.int v1]) (b := a 0) (n := 1) (c_X3_cutTextBy h) h1 mw_117 mw_753 mw_1 mw_118 (by decide +kernel) hR rfl (rc_X3 C) hst hd k
-- X3_reads (changes, room 5 114)
def P_X3_reads (K : Int32 → XW → Prop) (w : XW) (v1 : Int32) : Prop := P_X3_isMake (fun r_1 => (¬ r_1 = 0 → P_X3_cutTextBy (fun w_2 => K (cu_fault w_2) w_2) w v1) ∧ (r_1 = 0 → K (-1 : Int32) w)) v1
set_option maxRecDepth 10000 in
theorem s_X3_reads {x : Mx} {g : Gd} {a : Nat → Nat} (C : Cx x g (sA 15 a) (xCl g a) cX3_reads 2 RX3 (some .int) 5 114) {K : Int32 → XW → Prop}  {w : XW} {v1 : Int32} (h : P_X3_reads K w v1) : J x g (sA 15 a) (xCl g a) 2 (JQ x (sA 15 a) (QcI g (sA 15 a) (xCl g a) K)) w 0 [(0, .ref (a 0)), (1, .int v1)] [] := by
  unfold P_X3_reads at h
  refine J_iload_n C 1 dX3_reads_0 rfl rfl ?_
  refine k_X3_isMake C mw_113 dX3_reads_1 ⟨Nat.le_of_ble_eq_true rfl, Nat.le_of_ble_eq_true rfl⟩ (Nat.le_of_ble_eq_true rfl) h (fun r_1 h => ?_)
  refine J_if_ne (tgt := 9) C dX3_reads_4 (by decide) h (fun h => ?_) (fun h => ?_)
  · refine J_aload_n C 0 dX3_reads_9 rfl rfl ?_
    refine J_iload_n C 1 dX3_reads_10 rfl rfl ?_
    refine k_X3_cutTextBy C mw_116 dX3_reads_11 ⟨Nat.le_of_ble_eq_true rfl, Nat.le_of_ble_eq_true rfl⟩ (Nat.le_of_ble_eq_true rfl) h (fun w_2 h => ?_)
    refine J_aload_n C 0 dX3_reads_14 rfl rfl ?_
    refine G_rd_cut C mw_81 dX3_reads_15 ?_
    refine G_cu_fault C mw_36 dX3_reads_18 ?_
    exact J_iret C dX3_reads_21 h
  · refine J_iconst (v := (-1 : Int32)) C dX3_reads_7 (by decide) ?_
    exact J_iret C dX3_reads_8 h
theorem c_X3_reads {l : Launch} {g : Gd} {a : Nat → Nat} {w : XW} {K : Int32 → XW → Prop} {v1 : Int32} (h : P_X3_reads K w v1) : Kt l yX3_reads cX3_reads 2 (some .int) 5 114 g (sA 15 a) (xCl g a) [.ref (a 0), .int v1] w (QcI g (sA 15 a) (xCl g a) K) :=
  Kt_of (by decide +kernel) (Nat.le_of_ble_eq_true rfl) (fun x hx C => s_X3_reads C h)
theorem k_X3_reads {x : Mx} {g : Gd} {a : Nat → Nat} {cc : ByteArray} {nL : Nat} {own : String} {ret : Option FieldType} {F L : Nat} {Q : State → Prop} {w : XW} {pc : Nat} {lv : List (Nat × Value)} {st : List Value} (C : Cx x g (sA 15 a) (xCl g a) cc nL own ret F L) {index : Nat} {K : Int32 → XW → Prop} {v1 : Int32} (h1 : Cond.methodLink own index yX3_reads ∈ gT) (hd : decode cc pc = .ok (.invokevirtual index, 3)) (hR : 5 + 1 ≤ F ∧ 8 + (2 + 11) + 114 ≤ L) (hst : (st.map fun v => v.category).sum ≤ 8) (h : P_X3_reads K w v1) (k : ∀ (r : Int32) (w' : XW), K r w' → J x g (sA 15 a) (xCl g a) nL Q w' (pc + 3) lv (.int r :: st)) : J x g (sA 15 a) (xCl g a) nL Q w (pc) lv (.int v1 :: .ref (a 0) :: st) :=
  J_callVi C (As := [.int v1]) (b := a 0) (n := 1) (c_X3_reads h) h1 mw_110 mw_111 mw_1 mw_112 (by decide +kernel) hR rfl (rc_X3 C) hst hd k
-- X3_faultAt (changes, room 5 114)
def P_X3_faultAt (K : Int32 → XW → Prop) (w : XW) (v1 : Int32) : Prop := P_X3_isMake (fun r_1 => (¬ r_1 = 0 → P_X3_cutTextBy (fun w_2 => K (cu_faultSpot w_2) w_2) w v1) ∧ (r_1 = 0 → K (-1 : Int32) w)) v1
set_option maxRecDepth 10000 in
theorem s_X3_faultAt {x : Mx} {g : Gd} {a : Nat → Nat} (C : Cx x g (sA 15 a) (xCl g a) cX3_faultAt 2 RX3 (some .int) 5 114) {K : Int32 → XW → Prop}  {w : XW} {v1 : Int32} (h : P_X3_faultAt K w v1) : J x g (sA 15 a) (xCl g a) 2 (JQ x (sA 15 a) (QcI g (sA 15 a) (xCl g a) K)) w 0 [(0, .ref (a 0)), (1, .int v1)] [] := by
  unfold P_X3_faultAt at h
  refine J_iload_n C 1 dX3_faultAt_0 rfl rfl ?_
  refine k_X3_isMake C mw_113 dX3_faultAt_1 ⟨Nat.le_of_ble_eq_true rfl, Nat.le_of_ble_eq_true rfl⟩ (Nat.le_of_ble_eq_true rfl) h (fun r_1 h => ?_)
  refine J_if_ne (tgt := 9) C dX3_faultAt_4 (by decide) h (fun h => ?_) (fun h => ?_)
  · refine J_aload_n C 0 dX3_faultAt_9 rfl rfl ?_
    refine J_iload_n C 1 dX3_faultAt_10 rfl rfl ?_
    refine k_X3_cutTextBy C mw_116 dX3_faultAt_11 ⟨Nat.le_of_ble_eq_true rfl, Nat.le_of_ble_eq_true rfl⟩ (Nat.le_of_ble_eq_true rfl) h (fun w_2 h => ?_)
    refine J_aload_n C 0 dX3_faultAt_14 rfl rfl ?_
    refine G_rd_cut C mw_81 dX3_faultAt_15 ?_
    refine G_cu_faultSpot C mw_38 dX3_faultAt_18 ?_
    exact J_iret C dX3_faultAt_21 h
  · refine J_iconst (v := (-1 : Int32)) C dX3_faultAt_7 (by decide) ?_
    exact J_iret C dX3_faultAt_8 h
theorem c_X3_faultAt {l : Launch} {g : Gd} {a : Nat → Nat} {w : XW} {K : Int32 → XW → Prop} {v1 : Int32} (h : P_X3_faultAt K w v1) : Kt l yX3_faultAt cX3_faultAt 2 (some .int) 5 114 g (sA 15 a) (xCl g a) [.ref (a 0), .int v1] w (QcI g (sA 15 a) (xCl g a) K) :=
  Kt_of (by decide +kernel) (Nat.le_of_ble_eq_true rfl) (fun x hx C => s_X3_faultAt C h)
theorem k_X3_faultAt {x : Mx} {g : Gd} {a : Nat → Nat} {cc : ByteArray} {nL : Nat} {own : String} {ret : Option FieldType} {F L : Nat} {Q : State → Prop} {w : XW} {pc : Nat} {lv : List (Nat × Value)} {st : List Value} (C : Cx x g (sA 15 a) (xCl g a) cc nL own ret F L) {index : Nat} {K : Int32 → XW → Prop} {v1 : Int32} (h1 : Cond.methodLink own index yX3_faultAt ∈ gT) (hd : decode cc pc = .ok (.invokevirtual index, 3)) (hR : 5 + 1 ≤ F ∧ 8 + (2 + 11) + 114 ≤ L) (hst : (st.map fun v => v.category).sum ≤ 8) (h : P_X3_faultAt K w v1) (k : ∀ (r : Int32) (w' : XW), K r w' → J x g (sA 15 a) (xCl g a) nL Q w' (pc + 3) lv (.int r :: st)) : J x g (sA 15 a) (xCl g a) nL Q w (pc) lv (.int v1 :: .ref (a 0) :: st) :=
  J_callVi C (As := [.int v1]) (b := a 0) (n := 1) (c_X3_faultAt h) h1 mw_151 mw_152 mw_1 mw_153 (by decide +kernel) hR rfl (rc_X3 C) hst hd k
-- X3_priceOfMake (changes, room 9 203)
def P_X3_priceOfMake_84 (K : Int32 → XW → Prop) (w : XW) (v1 : Int32) : Prop := vp_in v1 24 ∧ (K (rd_prices w v1.toNatClampNeg) w)
set_option maxRecDepth 10000 in
theorem s_X3_priceOfMake_84 {x : Mx} {g : Gd} {a : Nat → Nat} (C : Cx x g (sA 15 a) (xCl g a) cX3_priceOfMake 4 RX3 (some .int) 9 203) {K : Int32 → XW → Prop}  {v1 : Int32} {w : XW} (h : P_X3_priceOfMake_84 K w v1) : J x g (sA 15 a) (xCl g a) 4 (JQ x (sA 15 a) (QcI g (sA 15 a) (xCl g a) K)) w 84 [(0, .ref (a 0)), (1, .int v1)] [] := by
  unfold P_X3_priceOfMake_84 at h
  refine J_aload_n C 0 dX3_priceOfMake_84 rfl rfl ?_
  refine G_rd_prices C mw_83 dX3_priceOfMake_85 ?_
  refine J_iload_n C 1 dX3_priceOfMake_88 rfl rfl ?_
  refine L_rd_prices C dX3_priceOfMake_89 h (fun h => ?_)
  exact J_iret C dX3_priceOfMake_90 h
def P_X3_priceOfMake_26 (K : Int32 → XW → Prop) (E63 : XW → Int32 → Prop) (v1 : Int32) : Nat → XW → Int32 → Int32 → Prop
  | 0, _, _, _ => False
  | n + 1, w, v2, v3 => P_X1_width (fun r_3 => (r_3 ≤ v3 → E63 w v2) ∧ (¬ r_3 ≤ v3 → P_X0_choose (fun w_4 => vp_in v3 12 ∧ (P_X3_priceOfMake_26 K E63 v1 n w_4 (v2 + (cs_priceOf w_4 v3.toNatClampNeg)) (v3 + (1 : Int32)))) w v3)) w
set_option maxRecDepth 10000 in
theorem s_X3_priceOfMake_26 {x : Mx} {g : Gd} {a : Nat → Nat} (C : Cx x g (sA 15 a) (xCl g a) cX3_priceOfMake 4 RX3 (some .int) 9 203) {K : Int32 → XW → Prop}  {v1 : Int32} {E63 : XW → Int32 → Prop} (hE63 : ∀ (w : XW) (v2 : Int32), E63 w v2 → J x g (sA 15 a) (xCl g a) 4 (JQ x (sA 15 a) (QcI g (sA 15 a) (xCl g a) K)) w 63 [(0, .ref (a 0)), (1, .int v1), (2, .int v2)] []) : ∀ (n : Nat) (w : XW) (v2 : Int32) (v3 : Int32), P_X3_priceOfMake_26 K E63 v1 n w v2 v3 → J x g (sA 15 a) (xCl g a) 4 (JQ x (sA 15 a) (QcI g (sA 15 a) (xCl g a) K)) w 26 [(0, .ref (a 0)), (1, .int v1), (2, .int v2), (3, .int v3)] [] := by
  intro n
  induction n with
  | zero => intro w v2 v3 h; exact h.elim
  | succ n ih =>
    intro w v2 v3 h
    unfold P_X3_priceOfMake_26 at h
    refine J_iload_n C 3 dX3_priceOfMake_26 rfl rfl ?_
    refine J_aload_n C 0 dX3_priceOfMake_27 rfl rfl ?_
    refine G_rd_cut C mw_81 dX3_priceOfMake_28 ?_
    refine k_X1_width C mw_176 dX3_priceOfMake_31 ⟨Nat.le_of_ble_eq_true rfl, Nat.le_of_ble_eq_true rfl⟩ (Nat.le_of_ble_eq_true rfl) h (fun r_3 h => ?_)
    refine J_icmp_ge (tgt := 63) C dX3_priceOfMake_34 (by decide) h (fun h => ?_) (fun h => ?_)
    · refine J_lv [0, 1, 2] rfl ?_
      exact hE63 _ _ h
    · refine J_aload_n C 0 dX3_priceOfMake_37 rfl rfl ?_
      refine G_rd_columns C mw_82 dX3_priceOfMake_38 ?_
      refine J_iload_n C 3 dX3_priceOfMake_41 rfl rfl ?_
      refine k_X0_choose C mw_177 dX3_priceOfMake_42 ⟨Nat.le_of_ble_eq_true rfl, Nat.le_of_ble_eq_true rfl⟩ (Nat.le_of_ble_eq_true rfl) h (fun w_4 h => ?_)
      refine J_iload_n C 2 dX3_priceOfMake_45 rfl rfl ?_
      refine J_aload_n C 0 dX3_priceOfMake_46 rfl rfl ?_
      refine G_rd_columns C mw_82 dX3_priceOfMake_47 ?_
      refine G_cs_priceOf C mw_68 dX3_priceOfMake_50 ?_
      refine J_iload_n C 3 dX3_priceOfMake_53 rfl rfl ?_
      refine L_cs_priceOf C dX3_priceOfMake_54 h (fun h => ?_)
      refine J_iadd C dX3_priceOfMake_55 ?_
      refine J_istore_n C [(2, .int (v2 + (cs_priceOf w_4 v3.toNatClampNeg))), (0, .ref (a 0)), (1, .int v1), (3, .int v3)] dX3_priceOfMake_56 rfl (by decide) rfl ?_
      refine J_iinc C 3 [(3, .int (v3 + (1 : Int32))), (2, .int (v2 + (cs_priceOf w_4 v3.toNatClampNeg))), (0, .ref (a 0)), (1, .int v1)] dX3_priceOfMake_57 rfl rfl (by decide) rfl ?_
      refine J_goto (tgt := 26) C dX3_priceOfMake_60 (by decide) ?_
      refine J_lv [2, 3, 1, 0] rfl ?_
      exact ih _ _ _ h
def P_X3_priceOfMake_83 (K : Int32 → XW → Prop) (w : XW) (v1 : Int32) (s0 : Int32) (s1 : Int32) : Prop := vp_in s1 24 ∧ (P_X3_priceOfMake_84 K (rd_prices_s w (upd (rd_prices w) s1.toNatClampNeg s0)) v1)
set_option maxRecDepth 10000 in
theorem s_X3_priceOfMake_83 {x : Mx} {g : Gd} {a : Nat → Nat} (C : Cx x g (sA 15 a) (xCl g a) cX3_priceOfMake 4 RX3 (some .int) 9 203) {K : Int32 → XW → Prop}  {v1 : Int32} {s0 : Int32} {s1 : Int32} {w : XW} (h : P_X3_priceOfMake_83 K w v1 s0 s1) : J x g (sA 15 a) (xCl g a) 4 (JQ x (sA 15 a) (QcI g (sA 15 a) (xCl g a) K)) w 83 [(0, .ref (a 0)), (1, .int v1)] [.int s0, .int s1, .ref (a 6)] := by
  unfold P_X3_priceOfMake_83 at h
  refine U_rd_prices C dX3_priceOfMake_83 h (fun h => ?_)
  refine J_lv [0, 1] rfl ?_
  exact s_X3_priceOfMake_84 C h
def P_X3_priceOfMake (K : Int32 → XW → Prop) (w : XW) (v1 : Int32) : Prop := vp_in v1 24 ∧ ((¬ (rd_prices w v1.toNatClampNeg) = (-2 : Int32) → P_X3_priceOfMake_84 K w v1) ∧ ((rd_prices w v1.toNatClampNeg) = (-2 : Int32) → P_X3_cutTextBy (fun w_1 => P_X1_priceBesideColumns (fun r_2 => ∃ nf : Nat, P_X3_priceOfMake_26 K (fun w_5 v2_6 => (¬ (cu_fault w_5) = 0 → P_X3_priceOfMake_83 K w_5 v1 (-1 : Int32) v1) ∧ ((cu_fault w_5) = 0 → P_X3_priceOfMake_83 K w_5 v1 v2_6 v1)) v1 nf w_1 r_2 (0 : Int32)) w_1) w v1))
set_option maxRecDepth 10000 in
theorem s_X3_priceOfMake {x : Mx} {g : Gd} {a : Nat → Nat} (C : Cx x g (sA 15 a) (xCl g a) cX3_priceOfMake 4 RX3 (some .int) 9 203) {K : Int32 → XW → Prop}  {w : XW} {v1 : Int32} (h : P_X3_priceOfMake K w v1) : J x g (sA 15 a) (xCl g a) 4 (JQ x (sA 15 a) (QcI g (sA 15 a) (xCl g a) K)) w 0 [(0, .ref (a 0)), (1, .int v1)] [] := by
  unfold P_X3_priceOfMake at h
  refine J_aload_n C 0 dX3_priceOfMake_0 rfl rfl ?_
  refine G_rd_prices C mw_83 dX3_priceOfMake_1 ?_
  refine J_iload_n C 1 dX3_priceOfMake_4 rfl rfl ?_
  refine L_rd_prices C dX3_priceOfMake_5 h (fun h => ?_)
  refine J_bipush (v := (-2 : Int32)) C dX3_priceOfMake_6 (by decide) ?_
  refine J_icmp_ne (tgt := 84) C dX3_priceOfMake_8 (by decide) h (fun h => ?_) (fun h => ?_)
  · refine J_lv [0, 1] rfl ?_
    exact s_X3_priceOfMake_84 C h
  · refine J_aload_n C 0 dX3_priceOfMake_11 rfl rfl ?_
    refine J_iload_n C 1 dX3_priceOfMake_12 rfl rfl ?_
    refine k_X3_cutTextBy C mw_116 dX3_priceOfMake_13 ⟨Nat.le_of_ble_eq_true rfl, Nat.le_of_ble_eq_true rfl⟩ (Nat.le_of_ble_eq_true rfl) h (fun w_1 h => ?_)
    refine J_aload_n C 0 dX3_priceOfMake_16 rfl rfl ?_
    refine G_rd_cut C mw_81 dX3_priceOfMake_17 ?_
    refine k_X1_priceBesideColumns C mw_161 dX3_priceOfMake_20 ⟨Nat.le_of_ble_eq_true rfl, Nat.le_of_ble_eq_true rfl⟩ (Nat.le_of_ble_eq_true rfl) h (fun r_2 h => ?_)
    refine J_istore_n C [(2, .int r_2), (0, .ref (a 0)), (1, .int v1)] dX3_priceOfMake_23 rfl (by decide) rfl ?_
    refine J_iconst (v := (0 : Int32)) C dX3_priceOfMake_24 (by decide) ?_
    refine J_istore_n C [(3, .int (0 : Int32)), (2, .int r_2), (0, .ref (a 0)), (1, .int v1)] dX3_priceOfMake_25 rfl (by decide) rfl ?_
    obtain ⟨nf, h⟩ := h
    refine J_lv [2, 3, 1, 0] rfl ?_
    refine s_X3_priceOfMake_26 C (fun w_5 v2_6 h => ?_) nf _ _ _ h
    · refine J_aload_n C 0 dX3_priceOfMake_63 rfl rfl ?_
      refine G_rd_prices C mw_83 dX3_priceOfMake_64 ?_
      refine J_iload_n C 1 dX3_priceOfMake_67 rfl rfl ?_
      refine J_aload_n C 0 dX3_priceOfMake_68 rfl rfl ?_
      refine G_rd_cut C mw_81 dX3_priceOfMake_69 ?_
      refine G_cu_fault C mw_36 dX3_priceOfMake_72 ?_
      refine J_if_ne (tgt := 82) C dX3_priceOfMake_75 (by decide) h (fun h => ?_) (fun h => ?_)
      · refine J_iconst (v := (-1 : Int32)) C dX3_priceOfMake_82 (by decide) ?_
        refine J_lv [0, 1] rfl ?_
        exact s_X3_priceOfMake_83 C h
      · refine J_iload_n C 2 dX3_priceOfMake_78 rfl rfl ?_
        refine J_goto (tgt := 83) C dX3_priceOfMake_79 (by decide) ?_
        refine J_lv [0, 1] rfl ?_
        exact s_X3_priceOfMake_83 C h
theorem c_X3_priceOfMake {l : Launch} {g : Gd} {a : Nat → Nat} {w : XW} {K : Int32 → XW → Prop} {v1 : Int32} (h : P_X3_priceOfMake K w v1) : Kt l yX3_priceOfMake cX3_priceOfMake 4 (some .int) 9 203 g (sA 15 a) (xCl g a) [.ref (a 0), .int v1] w (QcI g (sA 15 a) (xCl g a) K) :=
  Kt_of (by decide +kernel) (Nat.le_of_ble_eq_true rfl) (fun x hx C => s_X3_priceOfMake C h)
theorem k_X3_priceOfMake {x : Mx} {g : Gd} {a : Nat → Nat} {cc : ByteArray} {nL : Nat} {own : String} {ret : Option FieldType} {F L : Nat} {Q : State → Prop} {w : XW} {pc : Nat} {lv : List (Nat × Value)} {st : List Value} (C : Cx x g (sA 15 a) (xCl g a) cc nL own ret F L) {index : Nat} {K : Int32 → XW → Prop} {v1 : Int32} (h1 : Cond.methodLink own index yX3_priceOfMake ∈ gT) (hd : decode cc pc = .ok (.invokevirtual index, 3)) (hR : 9 + 1 ≤ F ∧ 8 + (4 + 11) + 203 ≤ L) (hst : (st.map fun v => v.category).sum ≤ 8) (h : P_X3_priceOfMake K w v1) (k : ∀ (r : Int32) (w' : XW), K r w' → J x g (sA 15 a) (xCl g a) nL Q w' (pc + 3) lv (.int r :: st)) : J x g (sA 15 a) (xCl g a) nL Q w (pc) lv (.int v1 :: .ref (a 0) :: st) :=
  J_callVi C (As := [.int v1]) (b := a 0) (n := 1) (c_X3_priceOfMake h) h1 mw_159 mw_760 mw_1 mw_160 (by decide +kernel) hR rfl (rc_X3 C) hst hd k
-- X3_cost (changes, room 10 226)
def P_X3_cost (K : Int32 → XW → Prop) (w : XW) (v1 : Int32) : Prop := P_X3_isMake (fun r_1 => (r_1 = 0 → K (-1 : Int32) w) ∧ (¬ r_1 = 0 → P_X3_priceOfMake (fun r_2 w_3 => K r_2 w_3) w v1)) v1
set_option maxRecDepth 10000 in
theorem s_X3_cost {x : Mx} {g : Gd} {a : Nat → Nat} (C : Cx x g (sA 15 a) (xCl g a) cX3_cost 2 RX3 (some .int) 10 226) {K : Int32 → XW → Prop}  {w : XW} {v1 : Int32} (h : P_X3_cost K w v1) : J x g (sA 15 a) (xCl g a) 2 (JQ x (sA 15 a) (QcI g (sA 15 a) (xCl g a) K)) w 0 [(0, .ref (a 0)), (1, .int v1)] [] := by
  unfold P_X3_cost at h
  refine J_iload_n C 1 dX3_cost_0 rfl rfl ?_
  refine k_X3_isMake C mw_113 dX3_cost_1 ⟨Nat.le_of_ble_eq_true rfl, Nat.le_of_ble_eq_true rfl⟩ (Nat.le_of_ble_eq_true rfl) h (fun r_1 h => ?_)
  refine J_if_eq (tgt := 15) C dX3_cost_4 (by decide) h (fun h => ?_) (fun h => ?_)
  · refine J_iconst (v := (-1 : Int32)) C dX3_cost_15 (by decide) ?_
    exact J_iret C dX3_cost_16 h
  · refine J_aload_n C 0 dX3_cost_7 rfl rfl ?_
    refine J_iload_n C 1 dX3_cost_8 rfl rfl ?_
    refine k_X3_priceOfMake C mw_158 dX3_cost_9 ⟨Nat.le_of_ble_eq_true rfl, Nat.le_of_ble_eq_true rfl⟩ (Nat.le_of_ble_eq_true rfl) h (fun r_2 w_3 h => ?_)
    refine J_goto (tgt := 16) C dX3_cost_12 (by decide) ?_
    exact J_iret C dX3_cost_16 h
theorem c_X3_cost {l : Launch} {g : Gd} {a : Nat → Nat} {w : XW} {K : Int32 → XW → Prop} {v1 : Int32} (h : P_X3_cost K w v1) : Kt l yX3_cost cX3_cost 2 (some .int) 10 226 g (sA 15 a) (xCl g a) [.ref (a 0), .int v1] w (QcI g (sA 15 a) (xCl g a) K) :=
  Kt_of (by decide +kernel) (Nat.le_of_ble_eq_true rfl) (fun x hx C => s_X3_cost C h)
theorem k_X3_cost {x : Mx} {g : Gd} {a : Nat → Nat} {cc : ByteArray} {nL : Nat} {own : String} {ret : Option FieldType} {F L : Nat} {Q : State → Prop} {w : XW} {pc : Nat} {lv : List (Nat × Value)} {st : List Value} (C : Cx x g (sA 15 a) (xCl g a) cc nL own ret F L) {index : Nat} {K : Int32 → XW → Prop} {v1 : Int32} (h1 : Cond.methodLink own index yX3_cost ∈ gT) (hd : decode cc pc = .ok (.invokevirtual index, 3)) (hR : 10 + 1 ≤ F ∧ 8 + (2 + 11) + 226 ≤ L) (hst : (st.map fun v => v.category).sum ≤ 8) (h : P_X3_cost K w v1) (k : ∀ (r : Int32) (w' : XW), K r w' → J x g (sA 15 a) (xCl g a) nL Q w' (pc + 3) lv (.int r :: st)) : J x g (sA 15 a) (xCl g a) nL Q w (pc) lv (.int v1 :: .ref (a 0) :: st) :=
  J_callVi C (As := [.int v1]) (b := a 0) (n := 1) (c_X3_cost h) h1 mw_155 mw_156 mw_1 mw_157 (by decide +kernel) hR rfl (rc_X3 C) hst hd k
-- X3_best (changes, room 10 226)
def P_X3_best_41 (K : Int32 → XW → Prop) (B6 : XW → Int32 → Int32 → Int32 → Prop) (w : XW) (v1 : Int32) (v2 : Int32) (v3 : Int32) : Prop := B6 w v1 v2 (v3 + (1 : Int32))
set_option maxRecDepth 10000 in
theorem s_X3_best_41 {x : Mx} {g : Gd} {a : Nat → Nat} (C : Cx x g (sA 15 a) (xCl g a) cX3_best 5 RX3 (some .int) 10 226) {K : Int32 → XW → Prop}  {v1 : Int32} {v2 : Int32} {v3 : Int32} {B6 : XW → Int32 → Int32 → Int32 → Prop} (hB6 : ∀ (w : XW) (v1 : Int32) (v2 : Int32) (v3 : Int32), B6 w v1 v2 v3 → J x g (sA 15 a) (xCl g a) 5 (JQ x (sA 15 a) (QcI g (sA 15 a) (xCl g a) K)) w 6 [(0, .ref (a 0)), (1, .int v1), (2, .int v2), (3, .int v3)] []) {w : XW} (h : P_X3_best_41 K B6 w v1 v2 v3) : J x g (sA 15 a) (xCl g a) 5 (JQ x (sA 15 a) (QcI g (sA 15 a) (xCl g a) K)) w 41 [(0, .ref (a 0)), (1, .int v1), (2, .int v2), (3, .int v3)] [] := by
  unfold P_X3_best_41 at h
  refine J_iinc C 3 [(3, .int (v3 + (1 : Int32))), (0, .ref (a 0)), (1, .int v1), (2, .int v2)] dX3_best_41 rfl rfl (by decide) rfl ?_
  refine J_goto (tgt := 6) C dX3_best_44 (by decide) ?_
  refine J_lv [1, 2, 3, 0] rfl ?_
  exact hB6 _ _ _ _ h
def P_X3_best_36 (K : Int32 → XW → Prop) (B6 : XW → Int32 → Int32 → Int32 → Prop) (w : XW) (v3 : Int32) (v4 : Int32) : Prop := P_X3_best_41 K B6 w v3 v4 v3
set_option maxRecDepth 10000 in
theorem s_X3_best_36 {x : Mx} {g : Gd} {a : Nat → Nat} (C : Cx x g (sA 15 a) (xCl g a) cX3_best 5 RX3 (some .int) 10 226) {K : Int32 → XW → Prop}  {v3 : Int32} {v4 : Int32} {B6 : XW → Int32 → Int32 → Int32 → Prop} (hB6 : ∀ (w : XW) (v1 : Int32) (v2 : Int32) (v3 : Int32), B6 w v1 v2 v3 → J x g (sA 15 a) (xCl g a) 5 (JQ x (sA 15 a) (QcI g (sA 15 a) (xCl g a) K)) w 6 [(0, .ref (a 0)), (1, .int v1), (2, .int v2), (3, .int v3)] []) {w : XW} (h : P_X3_best_36 K B6 w v3 v4) : J x g (sA 15 a) (xCl g a) 5 (JQ x (sA 15 a) (QcI g (sA 15 a) (xCl g a) K)) w 36 [(0, .ref (a 0)), (3, .int v3), (4, .int v4)] [] := by
  unfold P_X3_best_36 at h
  refine J_iload_n C 1 dX3_best_36 rfl rfl ?_
  refine J_istore_n C [(1, .int v3), (0, .ref (a 0)), (3, .int v3), (4, .int v4)] dX3_best_37 rfl (by decide) rfl ?_
  refine J_iload C 3 dX3_best_38 rfl ?_
  refine J_istore_n C [(2, .int v4), (1, .int v3), (0, .ref (a 0)), (3, .int v3), (4, .int v4)] dX3_best_40 rfl (by decide) rfl ?_
  refine J_lv [2, 1, 0, 3] rfl ?_
  exact s_X3_best_41 C hB6 h
def P_X3_best_6 (K : Int32 → XW → Prop) : Nat → XW → Int32 → Int32 → Int32 → Prop
  | 0, _, _, _, _ => False
  | n + 1, w, v1, v2, v3 => ((24 : Int32) ≤ v3 → K v1 w) ∧ (¬ (24 : Int32) ≤ v3 → P_X3_priceOfMake (fun r_1 w_2 => (r_1 = (-1 : Int32) → P_X3_best_41 K (P_X3_best_6 K n) w_2 v1 v2 v3) ∧ (¬ r_1 = (-1 : Int32) → (v1 = (-1 : Int32) → P_X3_best_36 K (P_X3_best_6 K n) w_2 v3 r_1) ∧ (¬ v1 = (-1 : Int32) → (v2 ≤ r_1 → P_X3_best_41 K (P_X3_best_6 K n) w_2 v1 v2 v3) ∧ (¬ v2 ≤ r_1 → P_X3_best_36 K (P_X3_best_6 K n) w_2 v3 r_1)))) w v3)
set_option maxRecDepth 10000 in
theorem s_X3_best_6 {x : Mx} {g : Gd} {a : Nat → Nat} (C : Cx x g (sA 15 a) (xCl g a) cX3_best 5 RX3 (some .int) 10 226) {K : Int32 → XW → Prop}  : ∀ (n : Nat) (w : XW) (v1 : Int32) (v2 : Int32) (v3 : Int32), P_X3_best_6 K n w v1 v2 v3 → J x g (sA 15 a) (xCl g a) 5 (JQ x (sA 15 a) (QcI g (sA 15 a) (xCl g a) K)) w 6 [(0, .ref (a 0)), (1, .int v1), (2, .int v2), (3, .int v3)] [] := by
  intro n
  induction n with
  | zero => intro w v1 v2 v3 h; exact h.elim
  | succ n ih =>
    intro w v1 v2 v3 h
    unfold P_X3_best_6 at h
    refine J_iload_n C 3 dX3_best_6 rfl rfl ?_
    refine J_bipush (v := (24 : Int32)) C dX3_best_7 (by decide) ?_
    refine J_icmp_ge (tgt := 47) C dX3_best_9 (by decide) h (fun h => ?_) (fun h => ?_)
    · refine J_iload_n C 1 dX3_best_47 rfl rfl ?_
      exact J_iret C dX3_best_48 h
    · refine J_aload_n C 0 dX3_best_12 rfl rfl ?_
      refine J_iload_n C 3 dX3_best_13 rfl rfl ?_
      refine k_X3_priceOfMake C mw_158 dX3_best_14 ⟨Nat.le_of_ble_eq_true rfl, Nat.le_of_ble_eq_true rfl⟩ (Nat.le_of_ble_eq_true rfl) h (fun r_1 w_2 h => ?_)
      refine J_istore C [(4, .int r_1), (0, .ref (a 0)), (1, .int v1), (2, .int v2), (3, .int v3)] dX3_best_17 (by decide) rfl ?_
      refine J_iload C 0 dX3_best_19 rfl ?_
      refine J_iconst (v := (-1 : Int32)) C dX3_best_21 (by decide) ?_
      refine J_icmp_eq (tgt := 41) C dX3_best_22 (by decide) h (fun h => ?_) (fun h => ?_)
      · refine J_lv [1, 2, 3, 4] rfl ?_
        exact s_X3_best_41 C ih h
      · refine J_iload_n C 2 dX3_best_25 rfl rfl ?_
        refine J_iconst (v := (-1 : Int32)) C dX3_best_26 (by decide) ?_
        refine J_icmp_eq (tgt := 36) C dX3_best_27 (by decide) h (fun h => ?_) (fun h => ?_)
        · refine J_lv [1, 4, 0] rfl ?_
          exact s_X3_best_36 C ih h
        · refine J_iload C 0 dX3_best_30 rfl ?_
          refine J_iload_n C 3 dX3_best_32 rfl rfl ?_
          refine J_icmp_ge (tgt := 41) C dX3_best_33 (by decide) h (fun h => ?_) (fun h => ?_)
          · refine J_lv [1, 2, 3, 4] rfl ?_
            exact s_X3_best_41 C ih h
          · refine J_lv [1, 4, 0] rfl ?_
            exact s_X3_best_36 C ih h
def P_X3_best (K : Int32 → XW → Prop) (w : XW) : Prop := ∃ nf : Nat, P_X3_best_6 K nf w (-1 : Int32) (0 : Int32) (0 : Int32)
set_option maxRecDepth 10000 in
theorem s_X3_best {x : Mx} {g : Gd} {a : Nat → Nat} (C : Cx x g (sA 15 a) (xCl g a) cX3_best 5 RX3 (some .int) 10 226) {K : Int32 → XW → Prop}  {w : XW} (h : P_X3_best K w) : J x g (sA 15 a) (xCl g a) 5 (JQ x (sA 15 a) (QcI g (sA 15 a) (xCl g a) K)) w 0 [(0, .ref (a 0))] [] := by
  unfold P_X3_best at h
  refine J_iconst (v := (-1 : Int32)) C dX3_best_0 (by decide) ?_
  refine J_istore_n C [(1, .int (-1 : Int32)), (0, .ref (a 0))] dX3_best_1 rfl (by decide) rfl ?_
  refine J_iconst (v := (0 : Int32)) C dX3_best_2 (by decide) ?_
  refine J_istore_n C [(2, .int (0 : Int32)), (1, .int (-1 : Int32)), (0, .ref (a 0))] dX3_best_3 rfl (by decide) rfl ?_
  refine J_iconst (v := (0 : Int32)) C dX3_best_4 (by decide) ?_
  refine J_istore_n C [(3, .int (0 : Int32)), (2, .int (0 : Int32)), (1, .int (-1 : Int32)), (0, .ref (a 0))] dX3_best_5 rfl (by decide) rfl ?_
  obtain ⟨nf, h⟩ := h
  refine J_lv [3, 2, 1, 0] rfl ?_
  refine s_X3_best_6 C  nf _ _ _ _ h
theorem c_X3_best {l : Launch} {g : Gd} {a : Nat → Nat} {w : XW} {K : Int32 → XW → Prop} (h : P_X3_best K w) : Kt l yX3_best cX3_best 5 (some .int) 10 226 g (sA 15 a) (xCl g a) [.ref (a 0)] w (QcI g (sA 15 a) (xCl g a) K) :=
  Kt_of (by decide +kernel) (Nat.le_of_ble_eq_true rfl) (fun x hx C => s_X3_best C h)
theorem k_X3_best {x : Mx} {g : Gd} {a : Nat → Nat} {cc : ByteArray} {nL : Nat} {own : String} {ret : Option FieldType} {F L : Nat} {Q : State → Prop} {w : XW} {pc : Nat} {lv : List (Nat × Value)} {st : List Value} (C : Cx x g (sA 15 a) (xCl g a) cc nL own ret F L) {index : Nat} {K : Int32 → XW → Prop} (h1 : Cond.methodLink own index yX3_best ∈ gT) (hd : decode cc pc = .ok (.invokevirtual index, 3)) (hR : 10 + 1 ≤ F ∧ 8 + (5 + 11) + 226 ≤ L) (hst : (st.map fun v => v.category).sum ≤ 8) (h : P_X3_best K w) (k : ∀ (r : Int32) (w' : XW), K r w' → J x g (sA 15 a) (xCl g a) nL Q w' (pc + 3) lv (.int r :: st)) : J x g (sA 15 a) (xCl g a) nL Q w (pc) lv (.ref (a 0) :: st) :=
  J_callVi C (As := []) (b := a 0) (n := 0) (c_X3_best h) h1 mw_328 mw_329 mw_1 mw_330 (by decide +kernel) hR rfl (rc_X3 C) hst hd k
-- X3_use (changes, room 1 20)
def P_X3_use (K : Int32 → XW → Prop) (w : XW) (v1 : Int32) : Prop := P_X3_isMake (fun r_1 => (¬ r_1 = 0 → K (1 : Int32) (rd_used_s w v1)) ∧ (r_1 = 0 → K (0 : Int32) w)) v1
set_option maxRecDepth 10000 in
theorem s_X3_use {x : Mx} {g : Gd} {a : Nat → Nat} (C : Cx x g (sA 15 a) (xCl g a) cX3_use 2 RX3 (some .boolean) 1 20) {K : Int32 → XW → Prop}  {w : XW} {v1 : Int32} (h : P_X3_use K w v1) : J x g (sA 15 a) (xCl g a) 2 (JQ x (sA 15 a) (QcI g (sA 15 a) (xCl g a) K)) w 0 [(0, .ref (a 0)), (1, .int v1)] [] := by
  unfold P_X3_use at h
  refine J_iload_n C 1 dX3_use_0 rfl rfl ?_
  refine k_X3_isMake C mw_113 dX3_use_1 ⟨Nat.le_of_ble_eq_true rfl, Nat.le_of_ble_eq_true rfl⟩ (Nat.le_of_ble_eq_true rfl) h (fun r_1 h => ?_)
  refine J_if_ne (tgt := 9) C dX3_use_4 (by decide) h (fun h => ?_) (fun h => ?_)
  · refine J_aload_n C 0 dX3_use_9 rfl rfl ?_
    refine J_iload_n C 1 dX3_use_10 rfl rfl ?_
    refine S_rd_used C mw_86 dX3_use_11 ?_
    refine J_iconst (v := (1 : Int32)) C dX3_use_14 (by decide) ?_
    exact J_zret C dX3_use_15 rfl h
  · refine J_iconst (v := (0 : Int32)) C dX3_use_7 (by decide) ?_
    exact J_zret C dX3_use_8 rfl h
theorem c_X3_use {l : Launch} {g : Gd} {a : Nat → Nat} {w : XW} {K : Int32 → XW → Prop} {v1 : Int32} (h : P_X3_use K w v1) : Kt l yX3_use cX3_use 2 (some .boolean) 1 20 g (sA 15 a) (xCl g a) [.ref (a 0), .int v1] w (QcI g (sA 15 a) (xCl g a) K) :=
  Kt_of (by decide +kernel) (Nat.le_of_ble_eq_true rfl) (fun x hx C => s_X3_use C h)
theorem k_X3_use {x : Mx} {g : Gd} {a : Nat → Nat} {cc : ByteArray} {nL : Nat} {own : String} {ret : Option FieldType} {F L : Nat} {Q : State → Prop} {w : XW} {pc : Nat} {lv : List (Nat × Value)} {st : List Value} (C : Cx x g (sA 15 a) (xCl g a) cc nL own ret F L) {index : Nat} {K : Int32 → XW → Prop} {v1 : Int32} (h1 : Cond.methodLink own index yX3_use ∈ gT) (hd : decode cc pc = .ok (.invokevirtual index, 3)) (hR : 1 + 1 ≤ F ∧ 8 + (2 + 11) + 20 ≤ L) (hst : (st.map fun v => v.category).sum ≤ 8) (h : P_X3_use K w v1) (k : ∀ (r : Int32) (w' : XW), K r w' → J x g (sA 15 a) (xCl g a) nL Q w' (pc + 3) lv (.int r :: st)) : J x g (sA 15 a) (xCl g a) nL Q w (pc) lv (.int v1 :: .ref (a 0) :: st) :=
  J_callVi C (As := [.int v1]) (b := a 0) (n := 1) (c_X3_use h) h1 mw_332 mw_333 mw_1 mw_334 (by decide +kernel) hR rfl (rc_X3 C) hst hd k
-- X3_about (changes, room 5 114)
def P_X3_about (K : Int32 → XW → Prop) (w : XW) (v1 : Int32) : Prop := P_X3_cutTextBy (fun w_1 => (v1 = (0 : Int32) → K (cu_rows w_1) w_1) ∧ (v1 = (1 : Int32) → P_X1_width (fun r_2 => K r_2 w_1) w_1) ∧ (v1 = (2 : Int32) → P_X1_oddRows (fun r_3 => K r_3 w_1) w_1) ∧ (v1 = (3 : Int32) → K (rd_used w_1) w_1) ∧ (v1 = (4 : Int32) → K (rd_textSize w_1) w_1) ∧ (v1 = (5 : Int32) → K (rd_tapeSize w_1) w_1) ∧ (¬ v1 = (0 : Int32) → ¬ v1 = (1 : Int32) → ¬ v1 = (2 : Int32) → ¬ v1 = (3 : Int32) → ¬ v1 = (4 : Int32) → ¬ v1 = (5 : Int32) → K (-1 : Int32) w_1)) w (rd_used w)
set_option maxRecDepth 10000 in
theorem s_X3_about {x : Mx} {g : Gd} {a : Nat → Nat} (C : Cx x g (sA 15 a) (xCl g a) cX3_about 2 RX3 (some .int) 5 114) {K : Int32 → XW → Prop}  {w : XW} {v1 : Int32} (h : P_X3_about K w v1) : J x g (sA 15 a) (xCl g a) 2 (JQ x (sA 15 a) (QcI g (sA 15 a) (xCl g a) K)) w 0 [(0, .ref (a 0)), (1, .int v1)] [] := by
  unfold P_X3_about at h
  refine J_aload_n C 0 dX3_about_0 rfl rfl ?_
  refine J_aload_n C 0 dX3_about_1 rfl rfl ?_
  refine G_rd_used C mw_86 dX3_about_2 ?_
  refine k_X3_cutTextBy C mw_116 dX3_about_5 ⟨Nat.le_of_ble_eq_true rfl, Nat.le_of_ble_eq_true rfl⟩ (Nat.le_of_ble_eq_true rfl) h (fun w_1 h => ?_)
  refine J_iload_n C 1 dX3_about_8 rfl rfl ?_
  by_cases e0 : v1 = (0 : Int32)
  · replace h := h.1 e0
    refine J_tsIn (tgt := 48) C dX3_about_9 (by rw [e0]; decide) (by rw [e0]; decide) (by rw [e0]; rfl) (by decide) ?_
    refine J_aload_n C 0 dX3_about_48 rfl rfl ?_
    refine G_rd_cut C mw_81 dX3_about_49 ?_
    refine G_cu_rows C mw_34 dX3_about_52 ?_
    exact J_iret C dX3_about_55 h
  replace h := h.2
  by_cases e1 : v1 = (1 : Int32)
  · replace h := h.1 e1
    refine J_tsIn (tgt := 56) C dX3_about_9 (by rw [e1]; decide) (by rw [e1]; decide) (by rw [e1]; rfl) (by decide) ?_
    refine J_aload_n C 0 dX3_about_56 rfl rfl ?_
    refine G_rd_cut C mw_81 dX3_about_57 ?_
    refine k_X1_width C mw_176 dX3_about_60 ⟨Nat.le_of_ble_eq_true rfl, Nat.le_of_ble_eq_true rfl⟩ (Nat.le_of_ble_eq_true rfl) h (fun r_2 h => ?_)
    exact J_iret C dX3_about_63 h
  replace h := h.2
  by_cases e2 : v1 = (2 : Int32)
  · replace h := h.1 e2
    refine J_tsIn (tgt := 64) C dX3_about_9 (by rw [e2]; decide) (by rw [e2]; decide) (by rw [e2]; rfl) (by decide) ?_
    refine J_aload_n C 0 dX3_about_64 rfl rfl ?_
    refine G_rd_cut C mw_81 dX3_about_65 ?_
    refine k_X1_oddRows C mw_339 dX3_about_68 ⟨Nat.le_of_ble_eq_true rfl, Nat.le_of_ble_eq_true rfl⟩ (Nat.le_of_ble_eq_true rfl) h (fun r_3 h => ?_)
    exact J_iret C dX3_about_71 h
  replace h := h.2
  by_cases e3 : v1 = (3 : Int32)
  · replace h := h.1 e3
    refine J_tsIn (tgt := 72) C dX3_about_9 (by rw [e3]; decide) (by rw [e3]; decide) (by rw [e3]; rfl) (by decide) ?_
    refine J_aload_n C 0 dX3_about_72 rfl rfl ?_
    refine G_rd_used C mw_86 dX3_about_73 ?_
    exact J_iret C dX3_about_76 h
  replace h := h.2
  by_cases e4 : v1 = (4 : Int32)
  · replace h := h.1 e4
    refine J_tsIn (tgt := 77) C dX3_about_9 (by rw [e4]; decide) (by rw [e4]; decide) (by rw [e4]; rfl) (by decide) ?_
    refine J_aload_n C 0 dX3_about_77 rfl rfl ?_
    refine G_rd_textSize C mw_84 dX3_about_78 ?_
    exact J_iret C dX3_about_81 h
  replace h := h.2
  by_cases e5 : v1 = (5 : Int32)
  · replace h := h.1 e5
    refine J_tsIn (tgt := 82) C dX3_about_9 (by rw [e5]; decide) (by rw [e5]; decide) (by rw [e5]; rfl) (by decide) ?_
    refine J_aload_n C 0 dX3_about_82 rfl rfl ?_
    refine G_rd_tapeSize C mw_85 dX3_about_83 ?_
    exact J_iret C dX3_about_86 h
  replace h := h.2
  replace h := h e0 e1 e2 e3 e4 e5
  refine J_tsOut (tgt := 87) C dX3_about_9 (by have q0 := lv_neT (k := (0 : Int32)) (a := 0) e0 rfl; have q1 := lv_neT (k := (1 : Int32)) (a := 1) e1 rfl; have q2 := lv_neT (k := (2 : Int32)) (a := 2) e2 rfl; have q3 := lv_neT (k := (3 : Int32)) (a := 3) e3 rfl; have q4 := lv_neT (k := (4 : Int32)) (a := 4) e4 rfl; have q5 := lv_neT (k := (5 : Int32)) (a := 5) e5 rfl; omega) (by decide) ?_
  refine J_iconst (v := (-1 : Int32)) C dX3_about_87 (by decide) ?_
  exact J_iret C dX3_about_88 h
theorem c_X3_about {l : Launch} {g : Gd} {a : Nat → Nat} {w : XW} {K : Int32 → XW → Prop} {v1 : Int32} (h : P_X3_about K w v1) : Kt l yX3_about cX3_about 2 (some .int) 5 114 g (sA 15 a) (xCl g a) [.ref (a 0), .int v1] w (QcI g (sA 15 a) (xCl g a) K) :=
  Kt_of (by decide +kernel) (Nat.le_of_ble_eq_true rfl) (fun x hx C => s_X3_about C h)
theorem k_X3_about {x : Mx} {g : Gd} {a : Nat → Nat} {cc : ByteArray} {nL : Nat} {own : String} {ret : Option FieldType} {F L : Nat} {Q : State → Prop} {w : XW} {pc : Nat} {lv : List (Nat × Value)} {st : List Value} (C : Cx x g (sA 15 a) (xCl g a) cc nL own ret F L) {index : Nat} {K : Int32 → XW → Prop} {v1 : Int32} (h1 : Cond.methodLink own index yX3_about ∈ gT) (hd : decode cc pc = .ok (.invokevirtual index, 3)) (hR : 5 + 1 ≤ F ∧ 8 + (2 + 11) + 114 ≤ L) (hst : (st.map fun v => v.category).sum ≤ 8) (h : P_X3_about K w v1) (k : ∀ (r : Int32) (w' : XW), K r w' → J x g (sA 15 a) (xCl g a) nL Q w' (pc + 3) lv (.int r :: st)) : J x g (sA 15 a) (xCl g a) nL Q w (pc) lv (.int v1 :: .ref (a 0) :: st) :=
  J_callVi C (As := [.int v1]) (b := a 0) (n := 1) (c_X3_about h) h1 mw_336 mw_337 mw_1 mw_338 (by decide +kernel) hR rfl (rc_X3 C) hst hd k
-- X3_odd (changes, room 5 114)
def P_X3_odd_43 (K : Int32 → XW → Prop) (B12 : XW → Int32 → Int32 → Prop) (w : XW) (v2 : Int32) (v3 : Int32) : Prop := B12 w v2 (v3 + (1 : Int32))
set_option maxRecDepth 10000 in
theorem s_X3_odd_43 {x : Mx} {g : Gd} {a : Nat → Nat} (C : Cx x g (sA 15 a) (xCl g a) cX3_odd 4 RX3 (some .int) 5 114) {K : Int32 → XW → Prop}  {v2 : Int32} {v3 : Int32} {B12 : XW → Int32 → Int32 → Prop} (hB12 : ∀ (w : XW) (v2 : Int32) (v3 : Int32), B12 w v2 v3 → J x g (sA 15 a) (xCl g a) 4 (JQ x (sA 15 a) (QcI g (sA 15 a) (xCl g a) K)) w 12 [(0, .ref (a 0)), (2, .int v2), (3, .int v3)] []) {w : XW} (h : P_X3_odd_43 K B12 w v2 v3) : J x g (sA 15 a) (xCl g a) 4 (JQ x (sA 15 a) (QcI g (sA 15 a) (xCl g a) K)) w 43 [(0, .ref (a 0)), (2, .int v2), (3, .int v3)] [] := by
  unfold P_X3_odd_43 at h
  refine J_iinc C 2 [(3, .int (v3 + (1 : Int32))), (0, .ref (a 0)), (2, .int v2)] dX3_odd_43 rfl rfl (by decide) rfl ?_
  refine J_goto (tgt := 12) C dX3_odd_46 (by decide) ?_
  refine J_lv [1, 2, 0] rfl ?_
  exact hB12 _ _ _ h
def P_X3_odd_12 (K : Int32 → XW → Prop) : Nat → XW → Int32 → Int32 → Prop
  | 0, _, _, _ => False
  | n + 1, w, v2, v3 => ((cu_rows w) ≤ v3 → K (-1 : Int32) w) ∧ (¬ (cu_rows w) ≤ v3 → P_X1_isOdd (fun r_2 => (r_2 = 0 → P_X3_odd_43 K (P_X3_odd_12 K n) w v2 v3) ∧ (¬ r_2 = 0 → (¬ v2 = 0 → P_X3_odd_43 K (P_X3_odd_12 K n) w (v2 + (-1 : Int32)) v3) ∧ (v2 = 0 → K v3 w))) w v3)
set_option maxRecDepth 10000 in
theorem s_X3_odd_12 {x : Mx} {g : Gd} {a : Nat → Nat} (C : Cx x g (sA 15 a) (xCl g a) cX3_odd 4 RX3 (some .int) 5 114) {K : Int32 → XW → Prop}  : ∀ (n : Nat) (w : XW) (v2 : Int32) (v3 : Int32), P_X3_odd_12 K n w v2 v3 → J x g (sA 15 a) (xCl g a) 4 (JQ x (sA 15 a) (QcI g (sA 15 a) (xCl g a) K)) w 12 [(0, .ref (a 0)), (2, .int v2), (3, .int v3)] [] := by
  intro n
  induction n with
  | zero => intro w v2 v3 h; exact h.elim
  | succ n ih =>
    intro w v2 v3 h
    unfold P_X3_odd_12 at h
    refine J_iload_n C 2 dX3_odd_12 rfl rfl ?_
    refine J_aload_n C 0 dX3_odd_13 rfl rfl ?_
    refine G_rd_cut C mw_81 dX3_odd_14 ?_
    refine G_cu_rows C mw_34 dX3_odd_17 ?_
    refine J_icmp_ge (tgt := 49) C dX3_odd_20 (by decide) h (fun h => ?_) (fun h => ?_)
    · refine J_iconst (v := (-1 : Int32)) C dX3_odd_49 (by decide) ?_
      exact J_iret C dX3_odd_50 h
    · refine J_aload_n C 0 dX3_odd_23 rfl rfl ?_
      refine G_rd_cut C mw_81 dX3_odd_24 ?_
      refine J_iload_n C 2 dX3_odd_27 rfl rfl ?_
      refine k_X1_isOdd C mw_347 dX3_odd_28 ⟨Nat.le_of_ble_eq_true rfl, Nat.le_of_ble_eq_true rfl⟩ (Nat.le_of_ble_eq_true rfl) h (fun r_2 h => ?_)
      refine J_if_eq (tgt := 43) C dX3_odd_31 (by decide) h (fun h => ?_) (fun h => ?_)
      · refine J_lv [0, 1, 2] rfl ?_
        exact s_X3_odd_43 C ih h
      · refine J_iload_n C 1 dX3_odd_34 rfl rfl ?_
        refine J_if_ne (tgt := 40) C dX3_odd_35 (by decide) h (fun h => ?_) (fun h => ?_)
        · refine J_iinc C 1 [(2, .int (v2 + (-1 : Int32))), (0, .ref (a 0)), (3, .int v3)] dX3_odd_40 rfl rfl (by decide) rfl ?_
          refine J_lv [1, 0, 2] rfl ?_
          exact s_X3_odd_43 C ih h
        · refine J_iload_n C 2 dX3_odd_38 rfl rfl ?_
          exact J_iret C dX3_odd_39 h
def P_X3_odd (K : Int32 → XW → Prop) (w : XW) (v1 : Int32) : Prop := P_X3_cutTextBy (fun w_1 => ∃ nf : Nat, P_X3_odd_12 K nf w_1 v1 (0 : Int32)) w (rd_used w)
set_option maxRecDepth 10000 in
theorem s_X3_odd {x : Mx} {g : Gd} {a : Nat → Nat} (C : Cx x g (sA 15 a) (xCl g a) cX3_odd 4 RX3 (some .int) 5 114) {K : Int32 → XW → Prop}  {w : XW} {v1 : Int32} (h : P_X3_odd K w v1) : J x g (sA 15 a) (xCl g a) 4 (JQ x (sA 15 a) (QcI g (sA 15 a) (xCl g a) K)) w 0 [(0, .ref (a 0)), (1, .int v1)] [] := by
  unfold P_X3_odd at h
  refine J_aload_n C 0 dX3_odd_0 rfl rfl ?_
  refine J_aload_n C 0 dX3_odd_1 rfl rfl ?_
  refine G_rd_used C mw_86 dX3_odd_2 ?_
  refine k_X3_cutTextBy C mw_116 dX3_odd_5 ⟨Nat.le_of_ble_eq_true rfl, Nat.le_of_ble_eq_true rfl⟩ (Nat.le_of_ble_eq_true rfl) h (fun w_1 h => ?_)
  refine J_iload_n C 1 dX3_odd_8 rfl rfl ?_
  refine J_istore_n C [(2, .int v1), (0, .ref (a 0)), (1, .int v1)] dX3_odd_9 rfl (by decide) rfl ?_
  refine J_iconst (v := (0 : Int32)) C dX3_odd_10 (by decide) ?_
  refine J_istore_n C [(3, .int (0 : Int32)), (2, .int v1), (0, .ref (a 0)), (1, .int v1)] dX3_odd_11 rfl (by decide) rfl ?_
  obtain ⟨nf, h⟩ := h
  refine J_lv [2, 1, 0] rfl ?_
  refine s_X3_odd_12 C  nf _ _ _ h
theorem c_X3_odd {l : Launch} {g : Gd} {a : Nat → Nat} {w : XW} {K : Int32 → XW → Prop} {v1 : Int32} (h : P_X3_odd K w v1) : Kt l yX3_odd cX3_odd 4 (some .int) 5 114 g (sA 15 a) (xCl g a) [.ref (a 0), .int v1] w (QcI g (sA 15 a) (xCl g a) K) :=
  Kt_of (by decide +kernel) (Nat.le_of_ble_eq_true rfl) (fun x hx C => s_X3_odd C h)
theorem k_X3_odd {x : Mx} {g : Gd} {a : Nat → Nat} {cc : ByteArray} {nL : Nat} {own : String} {ret : Option FieldType} {F L : Nat} {Q : State → Prop} {w : XW} {pc : Nat} {lv : List (Nat × Value)} {st : List Value} (C : Cx x g (sA 15 a) (xCl g a) cc nL own ret F L) {index : Nat} {K : Int32 → XW → Prop} {v1 : Int32} (h1 : Cond.methodLink own index yX3_odd ∈ gT) (hd : decode cc pc = .ok (.invokevirtual index, 3)) (hR : 5 + 1 ≤ F ∧ 8 + (4 + 11) + 114 ≤ L) (hst : (st.map fun v => v.category).sum ≤ 8) (h : P_X3_odd K w v1) (k : ∀ (r : Int32) (w' : XW), K r w' → J x g (sA 15 a) (xCl g a) nL Q w' (pc + 3) lv (.int r :: st)) : J x g (sA 15 a) (xCl g a) nL Q w (pc) lv (.int v1 :: .ref (a 0) :: st) :=
  J_callVi C (As := [.int v1]) (b := a 0) (n := 1) (c_X3_odd h) h1 mw_344 mw_345 mw_1 mw_346 (by decide +kernel) hR rfl (rc_X3 C) hst hd k
-- X3_breadth (changes, room 5 114)
def P_X3_breadth (K : Int32 → XW → Prop) (w : XW) (v1 : Int32) : Prop := P_X3_cutTextBy (fun w_1 => P_X1_cellsOf (fun r_2 => K r_2 w_1) w_1 v1) w (rd_used w)
set_option maxRecDepth 10000 in
theorem s_X3_breadth {x : Mx} {g : Gd} {a : Nat → Nat} (C : Cx x g (sA 15 a) (xCl g a) cX3_breadth 2 RX3 (some .int) 5 114) {K : Int32 → XW → Prop}  {w : XW} {v1 : Int32} (h : P_X3_breadth K w v1) : J x g (sA 15 a) (xCl g a) 2 (JQ x (sA 15 a) (QcI g (sA 15 a) (xCl g a) K)) w 0 [(0, .ref (a 0)), (1, .int v1)] [] := by
  unfold P_X3_breadth at h
  refine J_aload_n C 0 dX3_breadth_0 rfl rfl ?_
  refine J_aload_n C 0 dX3_breadth_1 rfl rfl ?_
  refine G_rd_used C mw_86 dX3_breadth_2 ?_
  refine k_X3_cutTextBy C mw_116 dX3_breadth_5 ⟨Nat.le_of_ble_eq_true rfl, Nat.le_of_ble_eq_true rfl⟩ (Nat.le_of_ble_eq_true rfl) h (fun w_1 h => ?_)
  refine J_aload_n C 0 dX3_breadth_8 rfl rfl ?_
  refine G_rd_cut C mw_81 dX3_breadth_9 ?_
  refine J_iload_n C 1 dX3_breadth_12 rfl rfl ?_
  refine k_X1_cellsOf C mw_352 dX3_breadth_13 ⟨Nat.le_of_ble_eq_true rfl, Nat.le_of_ble_eq_true rfl⟩ (Nat.le_of_ble_eq_true rfl) h (fun r_2 h => ?_)
  exact J_iret C dX3_breadth_16 h
theorem c_X3_breadth {l : Launch} {g : Gd} {a : Nat → Nat} {w : XW} {K : Int32 → XW → Prop} {v1 : Int32} (h : P_X3_breadth K w v1) : Kt l yX3_breadth cX3_breadth 2 (some .int) 5 114 g (sA 15 a) (xCl g a) [.ref (a 0), .int v1] w (QcI g (sA 15 a) (xCl g a) K) :=
  Kt_of (by decide +kernel) (Nat.le_of_ble_eq_true rfl) (fun x hx C => s_X3_breadth C h)
theorem k_X3_breadth {x : Mx} {g : Gd} {a : Nat → Nat} {cc : ByteArray} {nL : Nat} {own : String} {ret : Option FieldType} {F L : Nat} {Q : State → Prop} {w : XW} {pc : Nat} {lv : List (Nat × Value)} {st : List Value} (C : Cx x g (sA 15 a) (xCl g a) cc nL own ret F L) {index : Nat} {K : Int32 → XW → Prop} {v1 : Int32} (h1 : Cond.methodLink own index yX3_breadth ∈ gT) (hd : decode cc pc = .ok (.invokevirtual index, 3)) (hR : 5 + 1 ≤ F ∧ 8 + (2 + 11) + 114 ≤ L) (hst : (st.map fun v => v.category).sum ≤ 8) (h : P_X3_breadth K w v1) (k : ∀ (r : Int32) (w' : XW), K r w' → J x g (sA 15 a) (xCl g a) nL Q w' (pc + 3) lv (.int r :: st)) : J x g (sA 15 a) (xCl g a) nL Q w (pc) lv (.int v1 :: .ref (a 0) :: st) :=
  J_callVi C (As := [.int v1]) (b := a 0) (n := 1) (c_X3_breadth h) h1 mw_349 mw_350 mw_1 mw_351 (by decide +kernel) hR rfl (rc_X3 C) hst hd k
-- X3_size (changes, room 5 114)
def P_X3_size (K : Int32 → XW → Prop) (w : XW) (v1 : Int32) (v2 : Int32) : Prop := P_X3_cutTextBy (fun w_1 => P_X1_cellIn (fun r_2 => P_X1_lengthOf (fun r_3 => K r_3 w_1) w_1 r_2) w_1 v1 v2) w (rd_used w)
set_option maxRecDepth 10000 in
theorem s_X3_size {x : Mx} {g : Gd} {a : Nat → Nat} (C : Cx x g (sA 15 a) (xCl g a) cX3_size 3 RX3 (some .int) 5 114) {K : Int32 → XW → Prop}  {w : XW} {v1 : Int32} {v2 : Int32} (h : P_X3_size K w v1 v2) : J x g (sA 15 a) (xCl g a) 3 (JQ x (sA 15 a) (QcI g (sA 15 a) (xCl g a) K)) w 0 [(0, .ref (a 0)), (1, .int v1), (2, .int v2)] [] := by
  unfold P_X3_size at h
  refine J_aload_n C 0 dX3_size_0 rfl rfl ?_
  refine J_aload_n C 0 dX3_size_1 rfl rfl ?_
  refine G_rd_used C mw_86 dX3_size_2 ?_
  refine k_X3_cutTextBy C mw_116 dX3_size_5 ⟨Nat.le_of_ble_eq_true rfl, Nat.le_of_ble_eq_true rfl⟩ (Nat.le_of_ble_eq_true rfl) h (fun w_1 h => ?_)
  refine J_aload_n C 0 dX3_size_8 rfl rfl ?_
  refine G_rd_cut C mw_81 dX3_size_9 ?_
  refine J_aload_n C 0 dX3_size_12 rfl rfl ?_
  refine G_rd_cut C mw_81 dX3_size_13 ?_
  refine J_iload_n C 1 dX3_size_16 rfl rfl ?_
  refine J_iload_n C 2 dX3_size_17 rfl rfl ?_
  refine k_X1_cellIn C mw_360 dX3_size_18 ⟨Nat.le_of_ble_eq_true rfl, Nat.le_of_ble_eq_true rfl⟩ (Nat.le_of_ble_eq_true rfl) h (fun r_2 h => ?_)
  refine k_X1_lengthOf C mw_361 dX3_size_21 ⟨Nat.le_of_ble_eq_true rfl, Nat.le_of_ble_eq_true rfl⟩ (Nat.le_of_ble_eq_true rfl) h (fun r_3 h => ?_)
  exact J_iret C dX3_size_24 h
theorem c_X3_size {l : Launch} {g : Gd} {a : Nat → Nat} {w : XW} {K : Int32 → XW → Prop} {v1 : Int32} {v2 : Int32} (h : P_X3_size K w v1 v2) : Kt l yX3_size cX3_size 3 (some .int) 5 114 g (sA 15 a) (xCl g a) [.ref (a 0), .int v1, .int v2] w (QcI g (sA 15 a) (xCl g a) K) :=
  Kt_of (by decide +kernel) (Nat.le_of_ble_eq_true rfl) (fun x hx C => s_X3_size C h)
theorem k_X3_size {x : Mx} {g : Gd} {a : Nat → Nat} {cc : ByteArray} {nL : Nat} {own : String} {ret : Option FieldType} {F L : Nat} {Q : State → Prop} {w : XW} {pc : Nat} {lv : List (Nat × Value)} {st : List Value} (C : Cx x g (sA 15 a) (xCl g a) cc nL own ret F L) {index : Nat} {K : Int32 → XW → Prop} {v1 : Int32} {v2 : Int32} (h1 : Cond.methodLink own index yX3_size ∈ gT) (hd : decode cc pc = .ok (.invokevirtual index, 3)) (hR : 5 + 1 ≤ F ∧ 8 + (3 + 11) + 114 ≤ L) (hst : (st.map fun v => v.category).sum ≤ 8) (h : P_X3_size K w v1 v2) (k : ∀ (r : Int32) (w' : XW), K r w' → J x g (sA 15 a) (xCl g a) nL Q w' (pc + 3) lv (.int r :: st)) : J x g (sA 15 a) (xCl g a) nL Q w (pc) lv (.int v2 :: .int v1 :: .ref (a 0) :: st) :=
  J_callVi C (As := [.int v1, .int v2]) (b := a 0) (n := 2) (c_X3_size h) h1 mw_357 mw_358 mw_1 mw_359 (by decide +kernel) hR rfl (rc_X3 C) hst hd k
-- X3_at (changes, room 5 114)
def P_X3_at (K : Int32 → XW → Prop) (w : XW) (v1 : Int32) (v2 : Int32) (v3 : Int32) : Prop := P_X3_cutTextBy (fun w_1 => P_X1_cellIn (fun r_2 => P_X1_byteIn (fun r_3 => K r_3 w_1) w_1 r_2 v3) w_1 v1 v2) w (rd_used w)
set_option maxRecDepth 10000 in
theorem s_X3_at {x : Mx} {g : Gd} {a : Nat → Nat} (C : Cx x g (sA 15 a) (xCl g a) cX3_at 4 RX3 (some .int) 5 114) {K : Int32 → XW → Prop}  {w : XW} {v1 : Int32} {v2 : Int32} {v3 : Int32} (h : P_X3_at K w v1 v2 v3) : J x g (sA 15 a) (xCl g a) 4 (JQ x (sA 15 a) (QcI g (sA 15 a) (xCl g a) K)) w 0 [(0, .ref (a 0)), (1, .int v1), (2, .int v2), (3, .int v3)] [] := by
  unfold P_X3_at at h
  refine J_aload_n C 0 dX3_at_0 rfl rfl ?_
  refine J_aload_n C 0 dX3_at_1 rfl rfl ?_
  refine G_rd_used C mw_86 dX3_at_2 ?_
  refine k_X3_cutTextBy C mw_116 dX3_at_5 ⟨Nat.le_of_ble_eq_true rfl, Nat.le_of_ble_eq_true rfl⟩ (Nat.le_of_ble_eq_true rfl) h (fun w_1 h => ?_)
  refine J_aload_n C 0 dX3_at_8 rfl rfl ?_
  refine G_rd_cut C mw_81 dX3_at_9 ?_
  refine J_aload_n C 0 dX3_at_12 rfl rfl ?_
  refine G_rd_cut C mw_81 dX3_at_13 ?_
  refine J_iload_n C 1 dX3_at_16 rfl rfl ?_
  refine J_iload_n C 2 dX3_at_17 rfl rfl ?_
  refine k_X1_cellIn C mw_360 dX3_at_18 ⟨Nat.le_of_ble_eq_true rfl, Nat.le_of_ble_eq_true rfl⟩ (Nat.le_of_ble_eq_true rfl) h (fun r_2 h => ?_)
  refine J_iload_n C 3 dX3_at_21 rfl rfl ?_
  refine k_X1_byteIn C mw_366 dX3_at_22 ⟨Nat.le_of_ble_eq_true rfl, Nat.le_of_ble_eq_true rfl⟩ (Nat.le_of_ble_eq_true rfl) h (fun r_3 h => ?_)
  exact J_iret C dX3_at_25 h
theorem c_X3_at {l : Launch} {g : Gd} {a : Nat → Nat} {w : XW} {K : Int32 → XW → Prop} {v1 : Int32} {v2 : Int32} {v3 : Int32} (h : P_X3_at K w v1 v2 v3) : Kt l yX3_at cX3_at 4 (some .int) 5 114 g (sA 15 a) (xCl g a) [.ref (a 0), .int v1, .int v2, .int v3] w (QcI g (sA 15 a) (xCl g a) K) :=
  Kt_of (by decide +kernel) (Nat.le_of_ble_eq_true rfl) (fun x hx C => s_X3_at C h)
theorem k_X3_at {x : Mx} {g : Gd} {a : Nat → Nat} {cc : ByteArray} {nL : Nat} {own : String} {ret : Option FieldType} {F L : Nat} {Q : State → Prop} {w : XW} {pc : Nat} {lv : List (Nat × Value)} {st : List Value} (C : Cx x g (sA 15 a) (xCl g a) cc nL own ret F L) {index : Nat} {K : Int32 → XW → Prop} {v1 : Int32} {v2 : Int32} {v3 : Int32} (h1 : Cond.methodLink own index yX3_at ∈ gT) (hd : decode cc pc = .ok (.invokevirtual index, 3)) (hR : 5 + 1 ≤ F ∧ 8 + (4 + 11) + 114 ≤ L) (hst : (st.map fun v => v.category).sum ≤ 8) (h : P_X3_at K w v1 v2 v3) (k : ∀ (r : Int32) (w' : XW), K r w' → J x g (sA 15 a) (xCl g a) nL Q w' (pc + 3) lv (.int r :: st)) : J x g (sA 15 a) (xCl g a) nL Q w (pc) lv (.int v3 :: .int v2 :: .int v1 :: .ref (a 0) :: st) :=
  J_callVi C (As := [.int v1, .int v2, .int v3]) (b := a 0) (n := 3) (c_X3_at h) h1 mw_363 mw_364 mw_1 mw_365 (by decide +kernel) hR rfl (rc_X3 C) hst hd k
-- X3_hasChosen (changes, room 9 203)
def P_X3_hasChosen (K : Int32 → XW → Prop) (w : XW) (v1 : Int32) : Prop := P_X3_cutTextBy (fun w_1 => (v1 < 0 → K (0 : Int32) w_1) ∧ (¬ v1 < 0 → P_X1_width (fun r_2 => (v1 < r_2 → P_X0_choose (fun w_3 => vp_in v1 12 ∧ (((cs_formOf w_3 v1.toNatClampNeg) = (-1 : Int32) → K (0 : Int32) w_3) ∧ (¬ (cs_formOf w_3 v1.toNatClampNeg) = (-1 : Int32) → K (1 : Int32) w_3))) w_1 v1) ∧ (¬ v1 < r_2 → K (0 : Int32) w_1)) w_1)) w (rd_used w)
set_option maxRecDepth 10000 in
theorem s_X3_hasChosen {x : Mx} {g : Gd} {a : Nat → Nat} (C : Cx x g (sA 15 a) (xCl g a) cX3_hasChosen 2 RX3 (some .boolean) 9 203) {K : Int32 → XW → Prop}  {w : XW} {v1 : Int32} (h : P_X3_hasChosen K w v1) : J x g (sA 15 a) (xCl g a) 2 (JQ x (sA 15 a) (QcI g (sA 15 a) (xCl g a) K)) w 0 [(0, .ref (a 0)), (1, .int v1)] [] := by
  unfold P_X3_hasChosen at h
  refine J_aload_n C 0 dX3_hasChosen_0 rfl rfl ?_
  refine J_aload_n C 0 dX3_hasChosen_1 rfl rfl ?_
  refine G_rd_used C mw_86 dX3_hasChosen_2 ?_
  refine k_X3_cutTextBy C mw_116 dX3_hasChosen_5 ⟨Nat.le_of_ble_eq_true rfl, Nat.le_of_ble_eq_true rfl⟩ (Nat.le_of_ble_eq_true rfl) h (fun w_1 h => ?_)
  refine J_iload_n C 1 dX3_hasChosen_8 rfl rfl ?_
  refine J_if_lt (tgt := 23) C dX3_hasChosen_9 (by decide) h (fun h => ?_) (fun h => ?_)
  · refine J_iconst (v := (0 : Int32)) C dX3_hasChosen_23 (by decide) ?_
    exact J_zret C dX3_hasChosen_24 rfl h
  · refine J_iload_n C 1 dX3_hasChosen_12 rfl rfl ?_
    refine J_aload_n C 0 dX3_hasChosen_13 rfl rfl ?_
    refine G_rd_cut C mw_81 dX3_hasChosen_14 ?_
    refine k_X1_width C mw_176 dX3_hasChosen_17 ⟨Nat.le_of_ble_eq_true rfl, Nat.le_of_ble_eq_true rfl⟩ (Nat.le_of_ble_eq_true rfl) h (fun r_2 h => ?_)
    refine J_icmp_lt (tgt := 25) C dX3_hasChosen_20 (by decide) h (fun h => ?_) (fun h => ?_)
    · refine J_aload_n C 0 dX3_hasChosen_25 rfl rfl ?_
      refine G_rd_columns C mw_82 dX3_hasChosen_26 ?_
      refine J_iload_n C 1 dX3_hasChosen_29 rfl rfl ?_
      refine k_X0_choose C mw_177 dX3_hasChosen_30 ⟨Nat.le_of_ble_eq_true rfl, Nat.le_of_ble_eq_true rfl⟩ (Nat.le_of_ble_eq_true rfl) h (fun w_3 h => ?_)
      refine J_aload_n C 0 dX3_hasChosen_33 rfl rfl ?_
      refine G_rd_columns C mw_82 dX3_hasChosen_34 ?_
      refine G_cs_formOf C mw_64 dX3_hasChosen_37 ?_
      refine J_iload_n C 1 dX3_hasChosen_40 rfl rfl ?_
      refine L_cs_formOf C dX3_hasChosen_41 h (fun h => ?_)
      refine J_iconst (v := (-1 : Int32)) C dX3_hasChosen_42 (by decide) ?_
      refine J_icmp_eq (tgt := 50) C dX3_hasChosen_43 (by decide) h (fun h => ?_) (fun h => ?_)
      · refine J_iconst (v := (0 : Int32)) C dX3_hasChosen_50 (by decide) ?_
        exact J_zret C dX3_hasChosen_51 rfl h
      · refine J_iconst (v := (1 : Int32)) C dX3_hasChosen_46 (by decide) ?_
        refine J_goto (tgt := 51) C dX3_hasChosen_47 (by decide) ?_
        exact J_zret C dX3_hasChosen_51 rfl h
    · refine J_iconst (v := (0 : Int32)) C dX3_hasChosen_23 (by decide) ?_
      exact J_zret C dX3_hasChosen_24 rfl h
theorem c_X3_hasChosen {l : Launch} {g : Gd} {a : Nat → Nat} {w : XW} {K : Int32 → XW → Prop} {v1 : Int32} (h : P_X3_hasChosen K w v1) : Kt l yX3_hasChosen cX3_hasChosen 2 (some .boolean) 9 203 g (sA 15 a) (xCl g a) [.ref (a 0), .int v1] w (QcI g (sA 15 a) (xCl g a) K) :=
  Kt_of (by decide +kernel) (Nat.le_of_ble_eq_true rfl) (fun x hx C => s_X3_hasChosen C h)
theorem k_X3_hasChosen {x : Mx} {g : Gd} {a : Nat → Nat} {cc : ByteArray} {nL : Nat} {own : String} {ret : Option FieldType} {F L : Nat} {Q : State → Prop} {w : XW} {pc : Nat} {lv : List (Nat × Value)} {st : List Value} (C : Cx x g (sA 15 a) (xCl g a) cc nL own ret F L) {index : Nat} {K : Int32 → XW → Prop} {v1 : Int32} (h1 : Cond.methodLink own index yX3_hasChosen ∈ gT) (hd : decode cc pc = .ok (.invokevirtual index, 3)) (hR : 9 + 1 ≤ F ∧ 8 + (2 + 11) + 203 ≤ L) (hst : (st.map fun v => v.category).sum ≤ 8) (h : P_X3_hasChosen K w v1) (k : ∀ (r : Int32) (w' : XW), K r w' → J x g (sA 15 a) (xCl g a) nL Q w' (pc + 3) lv (.int r :: st)) : J x g (sA 15 a) (xCl g a) nL Q w (pc) lv (.int v1 :: .ref (a 0) :: st) :=
  J_callVi C (As := [.int v1]) (b := a 0) (n := 1) (c_X3_hasChosen h) h1 mw_372 mw_769 mw_1 mw_373 (by decide +kernel) hR rfl (rc_X3 C) hst hd k
