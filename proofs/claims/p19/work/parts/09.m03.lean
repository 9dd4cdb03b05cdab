-- X4_cellAt (changes, room 4 93)
def P_X4_cellAt (K : Int32 → MW → Prop) (w : MW) (v1 : Int32) (v2 : Int32) : Prop := P_X4_load (fun w_1 => P_X4_isRow (fun r_2 => (r_2 = 0 → K (-1 : Int32) w_1) ∧ (¬ r_2 = 0 → P_X4_cellsOf (fun r_3 => P_X4_in (fun r_4 => (r_4 = 0 → K (-1 : Int32) w_1) ∧ (¬ r_4 = 0 → vp_in v1 81 ∧ (K ((md_rowFrom w_1 v1.toNatClampNeg) + v2) w_1))) v2 (0 : Int32) (r_3 - (1 : Int32))) w_1 v1)) w_1 v1) w (md_used w)
set_option maxRecDepth 10000 in
theorem s_X4_cellAt {x : Mx} {g : Gd} {a : Nat → Nat} (C : Cx x g (sA 12 a) (mCl g a) cX4_cellAt 3 RX4 (some .int) 4 93) {K : Int32 → MW → Prop}  {w : MW} {v1 : Int32} {v2 : Int32} (h : P_X4_cellAt K w v1 v2) : J x g (sA 12 a) (mCl g a) 3 (JQ x (sA 12 a) (QcI g (sA 12 a) (mCl g a) K)) w 0 [(0, .ref (a 0)), (1, .int v1), (2, .int v2)] [] := by
  unfold P_X4_cellAt at h
  refine J_aload_n C 0 dX4_cellAt_0 rfl rfl ?_
  refine J_aload_n C 0 dX4_cellAt_1 rfl rfl ?_
  refine G_md_used C mw_464 dX4_cellAt_2 ?_
  refine k_X4_load C mw_517 dX4_cellAt_5 ⟨Nat.le_of_ble_eq_true rfl, Nat.le_of_ble_eq_true rfl⟩ (Nat.le_of_ble_eq_true rfl) h (fun w_1 h => ?_)
  refine J_aload_n C 0 dX4_cellAt_8 rfl rfl ?_
  refine J_iload_n C 1 dX4_cellAt_9 rfl rfl ?_
  refine k_X4_isRow C mw_667 dX4_cellAt_10 ⟨Nat.le_of_ble_eq_true rfl, Nat.le_of_ble_eq_true rfl⟩ (Nat.le_of_ble_eq_true rfl) h (fun r_2 h => ?_)
  refine J_if_eq (tgt := 42) C dX4_cellAt_13 (by decide) h (fun h => ?_) (fun h => ?_)
  · refine J_iconst (v := (-1 : Int32)) C dX4_cellAt_42 (by decide) ?_
    exact J_iret C dX4_cellAt_43 h
  · refine J_iload_n C 2 dX4_cellAt_16 rfl rfl ?_
    refine J_iconst (v := (0 : Int32)) C dX4_cellAt_17 (by decide) ?_
    refine J_aload_n C 0 dX4_cellAt_18 rfl rfl ?_
    refine J_iload_n C 1 dX4_cellAt_19 rfl rfl ?_
    refine k_X4_cellsOf C mw_547 dX4_cellAt_20 ⟨Nat.le_of_ble_eq_true rfl, Nat.le_of_ble_eq_true rfl⟩ (Nat.le_of_ble_eq_true rfl) h (fun r_3 h => ?_)
    refine J_iconst (v := (1 : Int32)) C dX4_cellAt_23 (by decide) ?_
    refine J_isub C dX4_cellAt_24 ?_
    refine k_X4_in C mw_500 dX4_cellAt_25 ⟨Nat.le_of_ble_eq_true rfl, Nat.le_of_ble_eq_true rfl⟩ (Nat.le_of_ble_eq_true rfl) h (fun r_4 h => ?_)
    refine J_if_eq (tgt := 42) C dX4_cellAt_28 (by decide) h (fun h => ?_) (fun h => ?_)
    · refine J_iconst (v := (-1 : Int32)) C dX4_cellAt_42 (by decide) ?_
      exact J_iret C dX4_cellAt_43 h
    · refine J_aload_n C 0 dX4_cellAt_31 rfl rfl ?_
      refine G_md_rowFrom C mw_471 dX4_cellAt_32 ?_
      refine J_iload_n C 1 dX4_cellAt_35 rfl rfl ?_
      refine L_md_rowFrom C dX4_cellAt_36 h (fun h => ?_)
      refine J_iload_n C 2 dX4_cellAt_37 rfl rfl ?_
      refine J_iadd C dX4_cellAt_38 ?_
      refine J_goto (tgt := 43) C dX4_cellAt_39 (by decide) ?_
      exact J_iret C dX4_cellAt_43 h
theorem c_X4_cellAt {l : Launch} {g : Gd} {a : Nat → Nat} {w : MW} {K : Int32 → MW → Prop} {v1 : Int32} {v2 : Int32} (h : P_X4_cellAt K w v1 v2) : Kt l yX4_cellAt cX4_cellAt 3 (some .int) 4 93 g (sA 12 a) (mCl g a) [.ref (a 0), .int v1, .int v2] w (QcI g (sA 12 a) (mCl g a) K) :=
  Kt_of (by decide +kernel) (Nat.le_of_ble_eq_true rfl) (fun x hx C => s_X4_cellAt C h)
theorem k_X4_cellAt {x : Mx} {g : Gd} {a : Nat → Nat} {cc : ByteArray} {nL : Nat} {own : String} {ret : Option FieldType} {F L : Nat} {Q : State → Prop} {w : MW} {pc : Nat} {lv : List (Nat × Value)} {st : List Value} (C : Cx x g (sA 12 a) (mCl g a) cc nL own ret F L) {index : Nat} {K : Int32 → MW → Prop} {v1 : Int32} {v2 : Int32} (h1 : Cond.methodLink own index yX4_cellAt ∈ gT) (hd : decode cc pc = .ok (.invokevirtual index, 3)) (hR : 4 + 1 ≤ F ∧ 8 + (3 + 11) + 93 ≤ L) (hst : (st.map fun v => v.category).sum ≤ 8) (h : P_X4_cellAt K w v1 v2) (k : ∀ (r : Int32) (w' : MW), K r w' → J x g (sA 12 a) (mCl g a) nL Q w' (pc + 3) lv (.int r :: st)) : J x g (sA 12 a) (mCl g a) nL Q w (pc) lv (.int v2 :: .int v1 :: .ref (a 0) :: st) :=
  J_callVi C (As := [.int v1, .int v2]) (b := a 0) (n := 2) (c_X4_cellAt h) h1 mw_675 mw_800 mw_6 mw_676 (by decide +kernel) hR rfl (rc_X4 C) hst hd k
-- X4_size (changes, room 5 115)
def P_X4_size (K : Int32 → MW → Prop) (w : MW) (v1 : Int32) (v2 : Int32) : Prop := P_X4_cellAt (fun r_1 w_2 => (0 ≤ r_1 → vp_in r_1 960 ∧ (K (md_cellSize w_2 r_1.toNatClampNeg) w_2)) ∧ (¬ 0 ≤ r_1 → K (-1 : Int32) w_2)) w v1 v2
set_option maxRecDepth 10000 in
theorem s_X4_size {x : Mx} {g : Gd} {a : Nat → Nat} (C : Cx x g (sA 12 a) (mCl g a) cX4_size 4 RX4 (some .int) 5 115) {K : Int32 → MW → Prop}  {w : MW} {v1 : Int32} {v2 : Int32} (h : P_X4_size K w v1 v2) : J x g (sA 12 a) (mCl g a) 4 (JQ x (sA 12 a) (QcI g (sA 12 a) (mCl g a) K)) w 0 [(0, .ref (a 0)), (1, .int v1), (2, .int v2)] [] := by
  unfold P_X4_size at h
  refine J_aload_n C 0 dX4_size_0 rfl rfl ?_
  refine J_iload_n C 1 dX4_size_1 rfl rfl ?_
  refine J_iload_n C 2 dX4_size_2 rfl rfl ?_
  refine k_X4_cellAt C mw_674 dX4_size_3 ⟨Nat.le_of_ble_eq_true rfl, Nat.le_of_ble_eq_true rfl⟩ (Nat.le_of_ble_eq_true rfl) h (fun r_1 w_2 h => ?_)
  refine J_istore_n C [(3, .int r_1), (0, .ref (a 0)), (1, .int v1), (2, .int v2)] dX4_size_6 rfl (by decide) rfl ?_
  refine J_iload_n C 0 dX4_size_7 rfl rfl ?_
  refine J_if_ge (tgt := 15) C dX4_size_8 (by decide) h (fun h => ?_) (fun h => ?_)
  · refine J_aload_n C 1 dX4_size_15 rfl rfl ?_
    refine G_md_cellSize C mw_473 dX4_size_16 ?_
    refine J_iload_n C 0 dX4_size_19 rfl rfl ?_
    refine L_md_cellSize C dX4_size_20 h (fun h => ?_)
    exact J_iret C dX4_size_21 h
  · refine J_iconst (v := (-1 : Int32)) C dX4_size_11 (by decide) ?_
    refine J_goto (tgt := 21) C dX4_size_12 (by decide) ?_
    exact J_iret C dX4_size_21 h
theorem c_X4_size {l : Launch} {g : Gd} {a : Nat → Nat} {w : MW} {K : Int32 → MW → Prop} {v1 : Int32} {v2 : Int32} (h : P_X4_size K w v1 v2) : Kt l yX4_size cX4_size 4 (some .int) 5 115 g (sA 12 a) (mCl g a) [.ref (a 0), .int v1, .int v2] w (QcI g (sA 12 a) (mCl g a) K) :=
  Kt_of (by decide +kernel) (Nat.le_of_ble_eq_true rfl) (fun x hx C => s_X4_size C h)
theorem k_X4_size {x : Mx} {g : Gd} {a : Nat → Nat} {cc : ByteArray} {nL : Nat} {own : String} {ret : Option FieldType} {F L : Nat} {Q : State → Prop} {w : MW} {pc : Nat} {lv : List (Nat × Value)} {st : List Value} (C : Cx x g (sA 12 a) (mCl g a) cc nL own ret F L) {index : Nat} {K : Int32 → MW → Prop} {v1 : Int32} {v2 : Int32} (h1 : Cond.methodLink own index yX4_size ∈ gT) (hd : decode cc pc = .ok (.invokevirtual index, 3)) (hR : 5 + 1 ≤ F ∧ 8 + (4 + 11) + 115 ≤ L) (hst : (st.map fun v => v.category).sum ≤ 8) (h : P_X4_size K w v1 v2) (k : ∀ (r : Int32) (w' : MW), K r w' → J x g (sA 12 a) (mCl g a) nL Q w' (pc + 3) lv (.int r :: st)) : J x g (sA 12 a) (mCl g a) nL Q w (pc) lv (.int v2 :: .int v1 :: .ref (a 0) :: st) :=
  J_callVi C (As := [.int v1, .int v2]) (b := a 0) (n := 2) (c_X4_size h) h1 mw_671 mw_672 mw_6 mw_673 (by decide +kernel) hR rfl (rc_X4 C) hst hd k
-- X4_at (changes, room 5 115)
def P_X4_at (K : Int32 → MW → Prop) (w : MW) (v1 : Int32) (v2 : Int32) (v3 : Int32) : Prop := P_X4_cellAt (fun r_1 w_2 => (r_1 < 0 → K (-1 : Int32) w_2) ∧ (¬ r_1 < 0 → vp_in r_1 960 ∧ (P_X4_in (fun r_3 => (¬ r_3 = 0 → P_X4_byteOf (fun r_4 => K r_4 w_2) w_2 r_1 v3) ∧ (r_3 = 0 → K (-1 : Int32) w_2)) v3 (0 : Int32) ((md_cellSize w_2 r_1.toNatClampNeg) - (1 : Int32))))) w v1 v2
set_option maxRecDepth 10000 in
theorem s_X4_at {x : Mx} {g : Gd} {a : Nat → Nat} (C : Cx x g (sA 12 a) (mCl g a) cX4_at 5 RX4 (some .int) 5 115) {K : Int32 → MW → Prop}  {w : MW} {v1 : Int32} {v2 : Int32} {v3 : Int32} (h : P_X4_at K w v1 v2 v3) : J x g (sA 12 a) (mCl g a) 5 (JQ x (sA 12 a) (QcI g (sA 12 a) (mCl g a) K)) w 0 [(0, .ref (a 0)), (1, .int v1), (2, .int v2), (3, .int v3)] [] := by
  unfold P_X4_at at h
  refine J_aload_n C 0 dX4_at_0 rfl rfl ?_
  refine J_iload_n C 1 dX4_at_1 rfl rfl ?_
  refine J_iload_n C 2 dX4_at_2 rfl rfl ?_
  refine k_X4_cellAt C mw_674 dX4_at_3 ⟨Nat.le_of_ble_eq_true rfl, Nat.le_of_ble_eq_true rfl⟩ (Nat.le_of_ble_eq_true rfl) h (fun r_1 w_2 h => ?_)
  refine J_istore C [(4, .int r_1), (0, .ref (a 0)), (1, .int v1), (2, .int v2), (3, .int v3)] dX4_at_6 (by decide) rfl ?_
  refine J_iload C 0 dX4_at_8 rfl ?_
  refine J_if_lt (tgt := 30) C dX4_at_10 (by decide) h (fun h => ?_) (fun h => ?_)
  · refine J_iconst (v := (-1 : Int32)) C dX4_at_30 (by decide) ?_
    refine J_goto (tgt := 41) C dX4_at_31 (by decide) ?_
    exact J_iret C dX4_at_41 h
  · refine J_iload_n C 4 dX4_at_13 rfl rfl ?_
    refine J_iconst (v := (0 : Int32)) C dX4_at_14 (by decide) ?_
    refine J_aload_n C 1 dX4_at_15 rfl rfl ?_
    refine G_md_cellSize C mw_473 dX4_at_16 ?_
    refine J_iload C 0 dX4_at_19 rfl ?_
    refine L_md_cellSize C dX4_at_21 h (fun h => ?_)
    refine J_iconst (v := (1 : Int32)) C dX4_at_22 (by decide) ?_
    refine J_isub C dX4_at_23 ?_
    refine k_X4_in C mw_500 dX4_at_24 ⟨Nat.le_of_ble_eq_true rfl, Nat.le_of_ble_eq_true rfl⟩ (Nat.le_of_ble_eq_true rfl) h (fun r_3 h => ?_)
    refine J_if_ne (tgt := 34) C dX4_at_27 (by decide) h (fun h => ?_) (fun h => ?_)
    · refine J_aload_n C 1 dX4_at_34 rfl rfl ?_
      refine J_iload C 0 dX4_at_35 rfl ?_
      refine J_iload_n C 4 dX4_at_37 rfl rfl ?_
      refine k_X4_byteOf C mw_583 dX4_at_38 ⟨Nat.le_of_ble_eq_true rfl, Nat.le_of_ble_eq_true rfl⟩ (Nat.le_of_ble_eq_true rfl) h (fun r_4 h => ?_)
      exact J_iret C dX4_at_41 h
    · refine J_iconst (v := (-1 : Int32)) C dX4_at_30 (by decide) ?_
      refine J_goto (tgt := 41) C dX4_at_31 (by decide) ?_
      exact J_iret C dX4_at_41 h
theorem c_X4_at {l : Launch} {g : Gd} {a : Nat → Nat} {w : MW} {K : Int32 → MW → Prop} {v1 : Int32} {v2 : Int32} {v3 : Int32} (h : P_X4_at K w v1 v2 v3) : Kt l yX4_at cX4_at 5 (some .int) 5 115 g (sA 12 a) (mCl g a) [.ref (a 0), .int v1, .int v2, .int v3] w (QcI g (sA 12 a) (mCl g a) K) :=
  Kt_of (by decide +kernel) (Nat.le_of_ble_eq_true rfl) (fun x hx C => s_X4_at C h)
theorem k_X4_at {x : Mx} {g : Gd} {a : Nat → Nat} {cc : ByteArray} {nL : Nat} {own : String} {ret : Option FieldType} {F L : Nat} {Q : State → Prop} {w : MW} {pc : Nat} {lv : List (Nat × Value)} {st : List Value} (C : Cx x g (sA 12 a) (mCl g a) cc nL own ret F L) {index : Nat} {K : Int32 → MW → Prop} {v1 : Int32} {v2 : Int32} {v3 : Int32} (h1 : Cond.methodLink own index yX4_at ∈ gT) (hd : decode cc pc = .ok (.invokevirtual index, 3)) (hR : 5 + 1 ≤ F ∧ 8 + (5 + 11) + 115 ≤ L) (hst : (st.map fun v => v.category).sum ≤ 8) (h : P_X4_at K w v1 v2 v3) (k : ∀ (r : Int32) (w' : MW), K r w' → J x g (sA 12 a) (mCl g a) nL Q w' (pc + 3) lv (.int r :: st)) : J x g (sA 12 a) (mCl g a) nL Q w (pc) lv (.int v3 :: .int v2 :: .int v1 :: .ref (a 0) :: st) :=
  J_callVi C (As := [.int v1, .int v2, .int v3]) (b := a 0) (n := 3) (c_X4_at h) h1 mw_678 mw_679 mw_6 mw_680 (by decide +kernel) hR rfl (rc_X4 C) hst hd k
-- X4_isColumn (changes, room 9 203)
def P_X4_isColumn (K : Int32 → MW → Prop) (w : MW) (v1 : Int32) : Prop := P_X4_load (fun w_1 => P_X4_width (fun r_2 => P_X4_in (fun r_3 => (¬ r_3 = 0 → P_X4_gather (fun w_4 => P_X4_judge (fun w_5 => ((md_columnMany w_5) ≤ 0 → K (0 : Int32) w_5) ∧ (¬ (md_columnMany w_5) ≤ 0 → K (1 : Int32) w_5)) w_4) w_1 v1) ∧ (r_3 = 0 → K (0 : Int32) w_1)) v1 (0 : Int32) (r_2 - (1 : Int32))) w_1) w (md_used w)
set_option maxRecDepth 10000 in
theorem s_X4_isColumn {x : Mx} {g : Gd} {a : Nat → Nat} (C : Cx x g (sA 12 a) (mCl g a) cX4_isColumn 2 RX4 (some .boolean) 9 203) {K : Int32 → MW → Prop}  {w : MW} {v1 : Int32} (h : P_X4_isColumn K w v1) : J x g (sA 12 a) (mCl g a) 2 (JQ x (sA 12 a) (QcI g (sA 12 a) (mCl g a) K)) w 0 [(0, .ref (a 0)), (1, .int v1)] [] := by
  unfold P_X4_isColumn at h
  refine J_aload_n C 0 dX4_isColumn_0 rfl rfl ?_
  refine J_aload_n C 0 dX4_isColumn_1 rfl rfl ?_
  refine G_md_used C mw_464 dX4_isColumn_2 ?_
  refine k_X4_load C mw_517 dX4_isColumn_5 ⟨Nat.le_of_ble_eq_true rfl, Nat.le_of_ble_eq_true rfl⟩ (Nat.le_of_ble_eq_true rfl) h (fun w_1 h => ?_)
  refine J_iload_n C 1 dX4_isColumn_8 rfl rfl ?_
  refine J_iconst (v := (0 : Int32)) C dX4_isColumn_9 (by decide) ?_
  refine J_aload_n C 0 dX4_isColumn_10 rfl rfl ?_
  refine k_X4_width C mw_550 dX4_isColumn_11 ⟨Nat.le_of_ble_eq_true rfl, Nat.le_of_ble_eq_true rfl⟩ (Nat.le_of_ble_eq_true rfl) h (fun r_2 h => ?_)
  refine J_iconst (v := (1 : Int32)) C dX4_isColumn_14 (by decide) ?_
  refine J_isub C dX4_isColumn_15 ?_
  refine k_X4_in C mw_500 dX4_isColumn_16 ⟨Nat.le_of_ble_eq_true rfl, Nat.le_of_ble_eq_true rfl⟩ (Nat.le_of_ble_eq_true rfl) h (fun r_3 h => ?_)
  refine J_if_ne (tgt := 24) C dX4_isColumn_19 (by decide) h (fun h => ?_) (fun h => ?_)
  · refine J_aload_n C 0 dX4_isColumn_24 rfl rfl ?_
    refine J_iload_n C 1 dX4_isColumn_25 rfl rfl ?_
    refine k_X4_gather C mw_561 dX4_isColumn_26 ⟨Nat.le_of_ble_eq_true rfl, Nat.le_of_ble_eq_true rfl⟩ (Nat.le_of_ble_eq_true rfl) h (fun w_4 h => ?_)
    refine J_aload_n C 0 dX4_isColumn_29 rfl rfl ?_
    refine k_X4_judge C mw_567 dX4_isColumn_30 ⟨Nat.le_of_ble_eq_true rfl, Nat.le_of_ble_eq_true rfl⟩ (Nat.le_of_ble_eq_true rfl) h (fun w_5 h => ?_)
    refine J_aload_n C 0 dX4_isColumn_33 rfl rfl ?_
    refine G_md_columnMany C mw_482 dX4_isColumn_34 ?_
    refine J_if_le (tgt := 44) C dX4_isColumn_37 (by decide) h (fun h => ?_) (fun h => ?_)
    · refine J_iconst (v := (0 : Int32)) C dX4_isColumn_44 (by decide) ?_
      exact J_zret C dX4_isColumn_45 rfl h
    · refine J_iconst (v := (1 : Int32)) C dX4_isColumn_40 (by decide) ?_
      refine J_goto (tgt := 45) C dX4_isColumn_41 (by decide) ?_
      exact J_zret C dX4_isColumn_45 rfl h
  · refine J_iconst (v := (0 : Int32)) C dX4_isColumn_22 (by decide) ?_
    exact J_zret C dX4_isColumn_23 rfl h
theorem c_X4_isColumn {l : Launch} {g : Gd} {a : Nat → Nat} {w : MW} {K : Int32 → MW → Prop} {v1 : Int32} (h : P_X4_isColumn K w v1) : Kt l yX4_isColumn cX4_isColumn 2 (some .boolean) 9 203 g (sA 12 a) (mCl g a) [.ref (a 0), .int v1] w (QcI g (sA 12 a) (mCl g a) K) :=
  Kt_of (by decide +kernel) (Nat.le_of_ble_eq_true rfl) (fun x hx C => s_X4_isColumn C h)
theorem k_X4_isColumn {x : Mx} {g : Gd} {a : Nat → Nat} {cc : ByteArray} {nL : Nat} {own : String} {ret : Option FieldType} {F L : Nat} {Q : State → Prop} {w : MW} {pc : Nat} {lv : List (Nat × Value)} {st : List Value} (C : Cx x g (sA 12 a) (mCl g a) cc nL own ret F L) {index : Nat} {K : Int32 → MW → Prop} {v1 : Int32} (h1 : Cond.methodLink own index yX4_isColumn ∈ gT) (hd : decode cc pc = .ok (.invokevirtual index, 3)) (hR : 9 + 1 ≤ F ∧ 8 + (2 + 11) + 203 ≤ L) (hst : (st.map fun v => v.category).sum ≤ 8) (h : P_X4_isColumn K w v1) (k : ∀ (r : Int32) (w' : MW), K r w' → J x g (sA 12 a) (mCl g a) nL Q w' (pc + 3) lv (.int r :: st)) : J x g (sA 12 a) (mCl g a) nL Q w (pc) lv (.int v1 :: .ref (a 0) :: st) :=
  J_callVi C (As := [.int v1]) (b := a 0) (n := 1) (c_X4_isColumn h) h1 mw_686 mw_801 mw_6 mw_687 (by decide +kernel) hR rfl (rc_X4 C) hst hd k
-- X4_form (changes, room 10 224)
def P_X4_form (K : Int32 → MW → Prop) (w : MW) (v1 : Int32) : Prop := P_X4_isColumn (fun r_1 w_2 => (r_1 = 0 → K (-1 : Int32) w_2) ∧ (¬ r_1 = 0 → K (md_bestForm w_2) w_2)) w v1
set_option maxRecDepth 10000 in
theorem s_X4_form {x : Mx} {g : Gd} {a : Nat → Nat} (C : Cx x g (sA 12 a) (mCl g a) cX4_form 2 RX4 (some .int) 10 224) {K : Int32 → MW → Prop}  {w : MW} {v1 : Int32} (h : P_X4_form K w v1) : J x g (sA 12 a) (mCl g a) 2 (JQ x (sA 12 a) (QcI g (sA 12 a) (mCl g a) K)) w 0 [(0, .ref (a 0)), (1, .int v1)] [] := by
  unfold P_X4_form at h
  refine J_aload_n C 0 dX4_form_0 rfl rfl ?_
  refine J_iload_n C 1 dX4_form_1 rfl rfl ?_
  refine k_X4_isColumn C mw_685 dX4_form_2 ⟨Nat.le_of_ble_eq_true rfl, Nat.le_of_ble_eq_true rfl⟩ (Nat.le_of_ble_eq_true rfl) h (fun r_1 w_2 h => ?_)
  refine J_if_eq (tgt := 15) C dX4_form_5 (by decide) h (fun h => ?_) (fun h => ?_)
  · refine J_iconst (v := (-1 : Int32)) C dX4_form_15 (by decide) ?_
    exact J_iret C dX4_form_16 h
  · refine J_aload_n C 0 dX4_form_8 rfl rfl ?_
    refine G_md_bestForm C mw_483 dX4_form_9 ?_
    refine J_goto (tgt := 16) C dX4_form_12 (by decide) ?_
    exact J_iret C dX4_form_16 h
theorem c_X4_form {l : Launch} {g : Gd} {a : Nat → Nat} {w : MW} {K : Int32 → MW → Prop} {v1 : Int32} (h : P_X4_form K w v1) : Kt l yX4_form cX4_form 2 (some .int) 10 224 g (sA 12 a) (mCl g a) [.ref (a 0), .int v1] w (QcI g (sA 12 a) (mCl g a) K) :=
  Kt_of (by decide +kernel) (Nat.le_of_ble_eq_true rfl) (fun x hx C => s_X4_form C h)
theorem k_X4_form {x : Mx} {g : Gd} {a : Nat → Nat} {cc : ByteArray} {nL : Nat} {own : String} {ret : Option FieldType} {F L : Nat} {Q : State → Prop} {w : MW} {pc : Nat} {lv : List (Nat × Value)} {st : List Value} (C : Cx x g (sA 12 a) (mCl g a) cc nL own ret F L) {index : Nat} {K : Int32 → MW → Prop} {v1 : Int32} (h1 : Cond.methodLink own index yX4_form ∈ gT) (hd : decode cc pc = .ok (.invokevirtual index, 3)) (hR : 10 + 1 ≤ F ∧ 8 + (2 + 11) + 224 ≤ L) (hst : (st.map fun v => v.category).sum ≤ 8) (h : P_X4_form K w v1) (k : ∀ (r : Int32) (w' : MW), K r w' → J x g (sA 12 a) (mCl g a) nL Q w' (pc + 3) lv (.int r :: st)) : J x g (sA 12 a) (mCl g a) nL Q w (pc) lv (.int v1 :: .ref (a 0) :: st) :=
  J_callVi C (As := [.int v1]) (b := a 0) (n := 1) (c_X4_form h) h1 mw_682 mw_683 mw_6 mw_684 (by decide +kernel) hR rfl (rc_X4 C) hst hd k
-- X4_missing (changes, room 10 224)
def P_X4_missing (K : Int32 → MW → Prop) (w : MW) (v1 : Int32) : Prop := P_X4_isColumn (fun r_1 w_2 => (r_1 = 0 → K (-1 : Int32) w_2) ∧ (¬ r_1 = 0 → K (md_bestCode w_2) w_2)) w v1
set_option maxRecDepth 10000 in
theorem s_X4_missing {x : Mx} {g : Gd} {a : Nat → Nat} (C : Cx x g (sA 12 a) (mCl g a) cX4_missing 2 RX4 (some .int) 10 224) {K : Int32 → MW → Prop}  {w : MW} {v1 : Int32} (h : P_X4_missing K w v1) : J x g (sA 12 a) (mCl g a) 2 (JQ x (sA 12 a) (QcI g (sA 12 a) (mCl g a) K)) w 0 [(0, .ref (a 0)), (1, .int v1)] [] := by
  unfold P_X4_missing at h
  refine J_aload_n C 0 dX4_missing_0 rfl rfl ?_
  refine J_iload_n C 1 dX4_missing_1 rfl rfl ?_
  refine k_X4_isColumn C mw_685 dX4_missing_2 ⟨Nat.le_of_ble_eq_true rfl, Nat.le_of_ble_eq_true rfl⟩ (Nat.le_of_ble_eq_true rfl) h (fun r_1 w_2 h => ?_)
  refine J_if_eq (tgt := 15) C dX4_missing_5 (by decide) h (fun h => ?_) (fun h => ?_)
  · refine J_iconst (v := (-1 : Int32)) C dX4_missing_15 (by decide) ?_
    exact J_iret C dX4_missing_16 h
  · refine J_aload_n C 0 dX4_missing_8 rfl rfl ?_
    refine G_md_bestCode C mw_484 dX4_missing_9 ?_
    refine J_goto (tgt := 16) C dX4_missing_12 (by decide) ?_
    exact J_iret C dX4_missing_16 h
theorem c_X4_missing {l : Launch} {g : Gd} {a : Nat → Nat} {w : MW} {K : Int32 → MW → Prop} {v1 : Int32} (h : P_X4_missing K w v1) : Kt l yX4_missing cX4_missing 2 (some .int) 10 224 g (sA 12 a) (mCl g a) [.ref (a 0), .int v1] w (QcI g (sA 12 a) (mCl g a) K) :=
  Kt_of (by decide +kernel) (Nat.le_of_ble_eq_true rfl) (fun x hx C => s_X4_missing C h)
theorem k_X4_missing {x : Mx} {g : Gd} {a : Nat → Nat} {cc : ByteArray} {nL : Nat} {own : String} {ret : Option FieldType} {F L : Nat} {Q : State → Prop} {w : MW} {pc : Nat} {lv : List (Nat × Value)} {st : List Value} (C : Cx x g (sA 12 a) (mCl g a) cc nL own ret F L) {index : Nat} {K : Int32 → MW → Prop} {v1 : Int32} (h1 : Cond.methodLink own index yX4_missing ∈ gT) (hd : decode cc pc = .ok (.invokevirtual index, 3)) (hR : 10 + 1 ≤ F ∧ 8 + (2 + 11) + 224 ≤ L) (hst : (st.map fun v => v.category).sum ≤ 8) (h : P_X4_missing K w v1) (k : ∀ (r : Int32) (w' : MW), K r w' → J x g (sA 12 a) (mCl g a) nL Q w' (pc + 3) lv (.int r :: st)) : J x g (sA 12 a) (mCl g a) nL Q w (pc) lv (.int v1 :: .ref (a 0) :: st) :=
  J_callVi C (As := [.int v1]) (b := a 0) (n := 1) (c_X4_missing h) h1 mw_689 mw_690 mw_6 mw_691 (by decide +kernel) hR rfl (rc_X4 C) hst hd k
-- X4_lacks (changes, room 10 224)
def P_X4_lacks_45 (K : Int32 → MW → Prop) (B14 : MW → Int32 → Int32 → Prop) (w : MW) (v3 : Int32) (s0 : Int32) (s1 : Int32) : Prop := B14 w (s1 + s0) (v3 + (1 : Int32))
set_option maxRecDepth 10000 in
theorem s_X4_lacks_45 {x : Mx} {g : Gd} {a : Nat → Nat} (C : Cx x g (sA 12 a) (mCl g a) cX4_lacks 4 RX4 (some .int) 10 224) {K : Int32 → MW → Prop}  {v3 : Int32} {s0 : Int32} {s1 : Int32} {B14 : MW → Int32 → Int32 → Prop} (hB14 : ∀ (w : MW) (v2 : Int32) (v3 : Int32), B14 w v2 v3 → J x g (sA 12 a) (mCl g a) 4 (JQ x (sA 12 a) (QcI g (sA 12 a) (mCl g a) K)) w 14 [(0, .ref (a 0)), (2, .int v2), (3, .int v3)] []) {w : MW} (h : P_X4_lacks_45 K B14 w v3 s0 s1) : J x g (sA 12 a) (mCl g a) 4 (JQ x (sA 12 a) (QcI g (sA 12 a) (mCl g a) K)) w 45 [(0, .ref (a 0)), (3, .int v3)] [.int s0, .int s1] := by
  unfold P_X4_lacks_45 at h
  refine J_iadd C dX4_lacks_45 ?_
  refine J_istore_n C [(2, .int (s1 + s0)), (0, .ref (a 0)), (3, .int v3)] dX4_lacks_46 rfl (by decide) rfl ?_
  refine J_iinc C 2 [(3, .int (v3 + (1 : Int32))), (2, .int (s1 + s0)), (0, .ref (a 0))] dX4_lacks_47 rfl rfl (by decide) rfl ?_
  refine J_goto (tgt := 14) C dX4_lacks_50 (by decide) ?_
  refine J_lv [2, 1, 0] rfl ?_
  exact hB14 _ _ _ h
def P_X4_lacks_14 (K : Int32 → MW → Prop) : Nat → MW → Int32 → Int32 → Prop
  | 0, _, _, _ => False
  | n + 1, w, v2, v3 => ((md_columnMany w) ≤ v3 → K v2 w) ∧ (¬ (md_columnMany w) ≤ v3 → vp_in v3 80 ∧ (P_X4_isMissing (fun r_3 => (r_3 = 0 → P_X4_lacks_45 K (P_X4_lacks_14 K n) w v3 (0 : Int32) v2) ∧ (¬ r_3 = 0 → P_X4_lacks_45 K (P_X4_lacks_14 K n) w v3 (1 : Int32) v2)) w (md_column w v3.toNatClampNeg) (md_bestCode w)))
set_option maxRecDepth 10000 in
theorem s_X4_lacks_14 {x : Mx} {g : Gd} {a : Nat → Nat} (C : Cx x g (sA 12 a) (mCl g a) cX4_lacks 4 RX4 (some .int) 10 224) {K : Int32 → MW → Prop}  : ∀ (n : Nat) (w : MW) (v2 : Int32) (v3 : Int32), P_X4_lacks_14 K n w v2 v3 → J x g (sA 12 a) (mCl g a) 4 (JQ x (sA 12 a) (QcI g (sA 12 a) (mCl g a) K)) w 14 [(0, .ref (a 0)), (2, .int v2), (3, .int v3)] [] := by
  intro n
  induction n with
  | zero => intro w v2 v3 h; exact h.elim
  | succ n ih =>
    intro w v2 v3 h
    unfold P_X4_lacks_14 at h
    refine J_iload_n C 2 dX4_lacks_14 rfl rfl ?_
    refine J_aload_n C 0 dX4_lacks_15 rfl rfl ?_
    refine G_md_columnMany C mw_482 dX4_lacks_16 ?_
    refine J_icmp_ge (tgt := 53) C dX4_lacks_19 (by decide) h (fun h => ?_) (fun h => ?_)
    · refine J_iload_n C 1 dX4_lacks_53 rfl rfl ?_
      exact J_iret C dX4_lacks_54 h
    · refine J_iload_n C 1 dX4_lacks_22 rfl rfl ?_
      refine J_aload_n C 0 dX4_lacks_23 rfl rfl ?_
      refine J_aload_n C 0 dX4_lacks_24 rfl rfl ?_
      refine G_md_column C mw_480 dX4_lacks_25 ?_
      refine J_iload_n C 2 dX4_lacks_28 rfl rfl ?_
      refine L_md_column C dX4_lacks_29 h (fun h => ?_)
      refine J_aload_n C 0 dX4_lacks_30 rfl rfl ?_
      refine G_md_bestCode C mw_484 dX4_lacks_31 ?_
      refine k_X4_isMissing C mw_576 dX4_lacks_34 ⟨Nat.le_of_ble_eq_true rfl, Nat.le_of_ble_eq_true rfl⟩ (Nat.le_of_ble_eq_true rfl) h (fun r_3 h => ?_)
      refine J_if_eq (tgt := 44) C dX4_lacks_37 (by decide) h (fun h => ?_) (fun h => ?_)
      · refine J_iconst (v := (0 : Int32)) C dX4_lacks_44 (by decide) ?_
        refine J_lv [0, 2] rfl ?_
        exact s_X4_lacks_45 C ih h
      · refine J_iconst (v := (1 : Int32)) C dX4_lacks_40 (by decide) ?_
        refine J_goto (tgt := 45) C dX4_lacks_41 (by decide) ?_
        refine J_lv [0, 2] rfl ?_
        exact s_X4_lacks_45 C ih h
def P_X4_lacks (K : Int32 → MW → Prop) (w : MW) (v1 : Int32) : Prop := P_X4_isColumn (fun r_1 w_2 => (¬ r_1 = 0 → ∃ nf : Nat, P_X4_lacks_14 K nf w_2 (0 : Int32) (0 : Int32)) ∧ (r_1 = 0 → K (-1 : Int32) w_2)) w v1
set_option maxRecDepth 10000 in
theorem s_X4_lacks {x : Mx} {g : Gd} {a : Nat → Nat} (C : Cx x g (sA 12 a) (mCl g a) cX4_lacks 4 RX4 (some .int) 10 224) {K : Int32 → MW → Prop}  {w : MW} {v1 : Int32} (h : P_X4_lacks K w v1) : J x g (sA 12 a) (mCl g a) 4 (JQ x (sA 12 a) (QcI g (sA 12 a) (mCl g a) K)) w 0 [(0, .ref (a 0)), (1, .int v1)] [] := by
  unfold P_X4_lacks at h
  refine J_aload_n C 0 dX4_lacks_0 rfl rfl ?_
  refine J_iload_n C 1 dX4_lacks_1 rfl rfl ?_
  refine k_X4_isColumn C mw_685 dX4_lacks_2 ⟨Nat.le_of_ble_eq_true rfl, Nat.le_of_ble_eq_true rfl⟩ (Nat.le_of_ble_eq_true rfl) h (fun r_1 w_2 h => ?_)
  refine J_if_ne (tgt := 10) C dX4_lacks_5 (by decide) h (fun h => ?_) (fun h => ?_)
  · refine J_iconst (v := (0 : Int32)) C dX4_lacks_10 (by decide) ?_
    refine J_istore_n C [(2, .int (0 : Int32)), (0, .ref (a 0)), (1, .int v1)] dX4_lacks_11 rfl (by decide) rfl ?_
    refine J_iconst (v := (0 : Int32)) C dX4_lacks_12 (by decide) ?_
    refine J_istore_n C [(3, .int (0 : Int32)), (2, .int (0 : Int32)), (0, .ref (a 0)), (1, .int v1)] dX4_lacks_13 rfl (by decide) rfl ?_
    obtain ⟨nf, h⟩ := h
    refine J_lv [2, 1, 0] rfl ?_
    refine s_X4_lacks_14 C  nf _ _ _ h
  · refine J_iconst (v := (-1 : Int32)) C dX4_lacks_8 (by decide) ?_
    exact J_iret C dX4_lacks_9 h
theorem c_X4_lacks {l : Launch} {g : Gd} {a : Nat → Nat} {w : MW} {K : Int32 → MW → Prop} {v1 : Int32} (h : P_X4_lacks K w v1) : Kt l yX4_lacks cX4_lacks 4 (some .int) 10 224 g (sA 12 a) (mCl g a) [.ref (a 0), .int v1] w (QcI g (sA 12 a) (mCl g a) K) :=
  Kt_of (by decide +kernel) (Nat.le_of_ble_eq_true rfl) (fun x hx C => s_X4_lacks C h)
theorem k_X4_lacks {x : Mx} {g : Gd} {a : Nat → Nat} {cc : ByteArray} {nL : Nat} {own : String} {ret : Option FieldType} {F L : Nat} {Q : State → Prop} {w : MW} {pc : Nat} {lv : List (Nat × Value)} {st : List Value} (C : Cx x g (sA 12 a) (mCl g a) cc nL own ret F L) {index : Nat} {K : Int32 → MW → Prop} {v1 : Int32} (h1 : Cond.methodLink own index yX4_lacks ∈ gT) (hd : decode cc pc = .ok (.invokevirtual index, 3)) (hR : 10 + 1 ≤ F ∧ 8 + (4 + 11) + 224 ≤ L) (hst : (st.map fun v => v.category).sum ≤ 8) (h : P_X4_lacks K w v1) (k : ∀ (r : Int32) (w' : MW), K r w' → J x g (sA 12 a) (mCl g a) nL Q w' (pc + 3) lv (.int r :: st)) : J x g (sA 12 a) (mCl g a) nL Q w (pc) lv (.int v1 :: .ref (a 0) :: st) :=
  J_callVi C (As := [.int v1]) (b := a 0) (n := 1) (c_X4_lacks h) h1 mw_693 mw_694 mw_6 mw_695 (by decide +kernel) hR rfl (rc_X4 C) hst hd k
-- X4_costOf (changes, room 10 224)
def P_X4_costOf (K : Int32 → MW → Prop) (w : MW) (v1 : Int32) (v2 : Int32) (v3 : Int32) : Prop := P_X4_isColumn (fun r_1 w_2 => (r_1 = 0 → K (-1 : Int32) w_2) ∧ (¬ r_1 = 0 → P_X4_in (fun r_3 => (r_3 = 0 → K (-1 : Int32) w_2) ∧ (¬ r_3 = 0 → P_X4_in (fun r_4 => (r_4 = 0 → K (-1 : Int32) w_2) ∧ (¬ r_4 = 0 → P_X4_costBy (fun r_5 w_6 => K r_5 w_6) w_2 v2 v3)) v3 (0 : Int32) (4 : Int32))) v2 (0 : Int32) (31 : Int32))) w v1
set_option maxRecDepth 10000 in
theorem s_X4_costOf {x : Mx} {g : Gd} {a : Nat → Nat} (C : Cx x g (sA 12 a) (mCl g a) cX4_costOf 4 RX4 (some .int) 10 224) {K : Int32 → MW → Prop}  {w : MW} {v1 : Int32} {v2 : Int32} {v3 : Int32} (h : P_X4_costOf K w v1 v2 v3) : J x g (sA 12 a) (mCl g a) 4 (JQ x (sA 12 a) (QcI g (sA 12 a) (mCl g a) K)) w 0 [(0, .ref (a 0)), (1, .int v1), (2, .int v2), (3, .int v3)] [] := by
  unfold P_X4_costOf at h
  refine J_aload_n C 0 dX4_costOf_0 rfl rfl ?_
  refine J_iload_n C 1 dX4_costOf_1 rfl rfl ?_
  refine k_X4_isColumn C mw_685 dX4_costOf_2 ⟨Nat.le_of_ble_eq_true rfl, Nat.le_of_ble_eq_true rfl⟩ (Nat.le_of_ble_eq_true rfl) h (fun r_1 w_2 h => ?_)
  refine J_if_eq (tgt := 36) C dX4_costOf_5 (by decide) h (fun h => ?_) (fun h => ?_)
  · refine J_iconst (v := (-1 : Int32)) C dX4_costOf_36 (by decide) ?_
    exact J_iret C dX4_costOf_37 h
  · refine J_iload_n C 2 dX4_costOf_8 rfl rfl ?_
    refine J_iconst (v := (0 : Int32)) C dX4_costOf_9 (by decide) ?_
    refine J_bipush (v := (31 : Int32)) C dX4_costOf_10 (by decide) ?_
    refine k_X4_in C mw_500 dX4_costOf_12 ⟨Nat.le_of_ble_eq_true rfl, Nat.le_of_ble_eq_true rfl⟩ (Nat.le_of_ble_eq_true rfl) h (fun r_3 h => ?_)
    refine J_if_eq (tgt := 36) C dX4_costOf_15 (by decide) h (fun h => ?_) (fun h => ?_)
    · refine J_iconst (v := (-1 : Int32)) C dX4_costOf_36 (by decide) ?_
      exact J_iret C dX4_costOf_37 h
    · refine J_iload_n C 3 dX4_costOf_18 rfl rfl ?_
      refine J_iconst (v := (0 : Int32)) C dX4_costOf_19 (by decide) ?_
      refine J_iconst (v := (4 : Int32)) C dX4_costOf_20 (by decide) ?_
      refine k_X4_in C mw_500 dX4_costOf_21 ⟨Nat.le_of_ble_eq_true rfl, Nat.le_of_ble_eq_true rfl⟩ (Nat.le_of_ble_eq_true rfl) h (fun r_4 h => ?_)
      refine J_if_eq (tgt := 36) C dX4_costOf_24 (by decide) h (fun h => ?_) (fun h => ?_)
      · refine J_iconst (v := (-1 : Int32)) C dX4_costOf_36 (by decide) ?_
        exact J_iret C dX4_costOf_37 h
      · refine J_aload_n C 0 dX4_costOf_27 rfl rfl ?_
        refine J_iload_n C 2 dX4_costOf_28 rfl rfl ?_
        refine J_iload_n C 3 dX4_costOf_29 rfl rfl ?_
        refine k_X4_costBy C mw_570 dX4_costOf_30 ⟨Nat.le_of_ble_eq_true rfl, Nat.le_of_ble_eq_true rfl⟩ (Nat.le_of_ble_eq_true rfl) h (fun r_5 w_6 h => ?_)
        refine J_goto (tgt := 37) C dX4_costOf_33 (by decide) ?_
        exact J_iret C dX4_costOf_37 h
theorem c_X4_costOf {l : Launch} {g : Gd} {a : Nat → Nat} {w : MW} {K : Int32 → MW → Prop} {v1 : Int32} {v2 : Int32} {v3 : Int32} (h : P_X4_costOf K w v1 v2 v3) : Kt l yX4_costOf cX4_costOf 4 (some .int) 10 224 g (sA 12 a) (mCl g a) [.ref (a 0), .int v1, .int v2, .int v3] w (QcI g (sA 12 a) (mCl g a) K) :=
  Kt_of (by decide +kernel) (Nat.le_of_ble_eq_true rfl) (fun x hx C => s_X4_costOf C h)
theorem k_X4_costOf {x : Mx} {g : Gd} {a : Nat → Nat} {cc : ByteArray} {nL : Nat} {own : String} {ret : Option FieldType} {F L : Nat} {Q : State → Prop} {w : MW} {pc : Nat} {lv : List (Nat × Value)} {st : List Value} (C : Cx x g (sA 12 a) (mCl g a) cc nL own ret F L) {index : Nat} {K : Int32 → MW → Prop} {v1 : Int32} {v2 : Int32} {v3 : Int32} (h1 : Cond.methodLink own index yX4_costOf ∈ gT) (hd : decode cc pc = .ok (.invokevirtual index, 3)) (hR : 10 + 1 ≤ F ∧ 8 + (4 + 11) + 224 ≤ L) (hst : (st.map fun v => v.category).sum ≤ 8) (h : P_X4_costOf K w v1 v2 v3) (k : ∀ (r : Int32) (w' : MW), K r w' → J x g (sA 12 a) (mCl g a) nL Q w' (pc + 3) lv (.int r :: st)) : J x g (sA 12 a) (mCl g a) nL Q w (pc) lv (.int v3 :: .int v2 :: .int v1 :: .ref (a 0) :: st) :=
  J_callVi C (As := [.int v1, .int v2, .int v3]) (b := a 0) (n := 3) (c_X4_costOf h) h1 mw_697 mw_698 mw_6 mw_699 (by decide +kernel) hR rfl (rc_X4 C) hst hd k
-- X4_fits (changes, room 10 224)
def P_X4_fits_52 (K : Int32 → MW → Prop) (B26 : MW → Int32 → Int32 → Prop) (E60 : MW → Int32 → Prop) (w : MW) (v2 : Int32) (v3 : Int32) (v5 : Int32) (s0 : Int32) : Prop := B26 w s0 (v5 + (1 : Int32))
set_option maxRecDepth 10000 in
theorem s_X4_fits_52 {x : Mx} {g : Gd} {a : Nat → Nat} (C : Cx x g (sA 12 a) (mCl g a) cX4_fits 6 RX4 (some .int) 10 224) {K : Int32 → MW → Prop}  {v2 : Int32} {v3 : Int32} {v5 : Int32} {s0 : Int32} {B26 : MW → Int32 → Int32 → Prop} {E60 : MW → Int32 → Prop} (hB26 : ∀ (w : MW) (v4 : Int32) (v5 : Int32), B26 w v4 v5 → J x g (sA 12 a) (mCl g a) 6 (JQ x (sA 12 a) (QcI g (sA 12 a) (mCl g a) K)) w 26 [(0, .ref (a 0)), (2, .int v2), (3, .int v3), (4, .int v4), (5, .int v5)] []) (hE60 : ∀ (w : MW) (v4 : Int32), E60 w v4 → J x g (sA 12 a) (mCl g a) 6 (JQ x (sA 12 a) (QcI g (sA 12 a) (mCl g a) K)) w 60 [(0, .ref (a 0)), (2, .int v2), (3, .int v3), (4, .int v4)] []) {w : MW} (h : P_X4_fits_52 K B26 E60 w v2 v3 v5 s0) : J x g (sA 12 a) (mCl g a) 6 (JQ x (sA 12 a) (QcI g (sA 12 a) (mCl g a) K)) w 52 [(0, .ref (a 0)), (2, .int v2), (3, .int v3), (5, .int v5)] [.int s0] := by
  unfold P_X4_fits_52 at h
  refine J_istore C [(4, .int s0), (0, .ref (a 0)), (2, .int v2), (3, .int v3), (5, .int v5)] dX4_fits_52 (by decide) rfl ?_
  refine J_iinc C 4 [(5, .int (v5 + (1 : Int32))), (4, .int s0), (0, .ref (a 0)), (2, .int v2), (3, .int v3)] dX4_fits_54 rfl rfl (by decide) rfl ?_
  refine J_goto (tgt := 26) C dX4_fits_57 (by decide) ?_
  refine J_lv [2, 3, 4, 1, 0] rfl ?_
  exact hB26 _ _ _ h
def P_X4_fits_47 (K : Int32 → MW → Prop) (B26 : MW → Int32 → Int32 → Prop) (E60 : MW → Int32 → Prop) (w : MW) (v2 : Int32) (v3 : Int32) (v5 : Int32) : Prop := P_X4_fits_52 K B26 E60 w v2 v3 v5 (1 : Int32)
set_option maxRecDepth 10000 in
theorem s_X4_fits_47 {x : Mx} {g : Gd} {a : Nat → Nat} (C : Cx x g (sA 12 a) (mCl g a) cX4_fits 6 RX4 (some .int) 10 224) {K : Int32 → MW → Prop}  {v2 : Int32} {v3 : Int32} {v5 : Int32} {B26 : MW → Int32 → Int32 → Prop} {E60 : MW → Int32 → Prop} (hB26 : ∀ (w : MW) (v4 : Int32) (v5 : Int32), B26 w v4 v5 → J x g (sA 12 a) (mCl g a) 6 (JQ x (sA 12 a) (QcI g (sA 12 a) (mCl g a) K)) w 26 [(0, .ref (a 0)), (2, .int v2), (3, .int v3), (4, .int v4), (5, .int v5)] []) (hE60 : ∀ (w : MW) (v4 : Int32), E60 w v4 → J x g (sA 12 a) (mCl g a) 6 (JQ x (sA 12 a) (QcI g (sA 12 a) (mCl g a) K)) w 60 [(0, .ref (a 0)), (2, .int v2), (3, .int v3), (4, .int v4)] []) {w : MW} (h : P_X4_fits_47 K B26 E60 w v2 v3 v5) : J x g (sA 12 a) (mCl g a) 6 (JQ x (sA 12 a) (QcI g (sA 12 a) (mCl g a) K)) w 47 [(0, .ref (a 0)), (2, .int v2), (3, .int v3), (5, .int v5)] [] := by
  unfold P_X4_fits_47 at h
  refine J_iconst (v := (1 : Int32)) C dX4_fits_47 (by decide) ?_
  refine J_goto (tgt := 52) C dX4_fits_48 (by decide) ?_
  refine J_lv [0, 1, 2, 3] rfl ?_
  exact s_X4_fits_52 C hB26 hE60 h
def P_X4_fits_26 (K : Int32 → MW → Prop) (E60 : MW → Int32 → Prop) (v2 : Int32) (v3 : Int32) : Nat → MW → Int32 → Int32 → Prop
  | 0, _, _, _ => False
  | n + 1, w, v4, v5 => ((5 : Int32) ≤ v5 → E60 w v4) ∧ (¬ (5 : Int32) ≤ v5 → (¬ v4 = 0 → P_X4_fits_47 K (P_X4_fits_26 K E60 v2 v3 n) E60 w v2 v3 v5) ∧ (v4 = 0 → P_X4_costBy (fun r_3 w_4 => (r_3 < 0 → P_X4_fits_52 K (P_X4_fits_26 K E60 v2 v3 n) E60 w_4 v2 v3 v5 (0 : Int32)) ∧ (¬ r_3 < 0 → P_X4_fits_47 K (P_X4_fits_26 K E60 v2 v3 n) E60 w_4 v2 v3 v5)) w v3 v5))
set_option maxRecDepth 10000 in
theorem s_X4_fits_26 {x : Mx} {g : Gd} {a : Nat → Nat} (C : Cx x g (sA 12 a) (mCl g a) cX4_fits 6 RX4 (some .int) 10 224) {K : Int32 → MW → Prop}  {v2 : Int32} {v3 : Int32} {E60 : MW → Int32 → Prop} (hE60 : ∀ (w : MW) (v4 : Int32), E60 w v4 → J x g (sA 12 a) (mCl g a) 6 (JQ x (sA 12 a) (QcI g (sA 12 a) (mCl g a) K)) w 60 [(0, .ref (a 0)), (2, .int v2), (3, .int v3), (4, .int v4)] []) : ∀ (n : Nat) (w : MW) (v4 : Int32) (v5 : Int32), P_X4_fits_26 K E60 v2 v3 n w v4 v5 → J x g (sA 12 a) (mCl g a) 6 (JQ x (sA 12 a) (QcI g (sA 12 a) (mCl g a) K)) w 26 [(0, .ref (a 0)), (2, .int v2), (3, .int v3), (4, .int v4), (5, .int v5)] [] := by
  intro n
  induction n with
  | zero => intro w v4 v5 h; exact h.elim
  | succ n ih =>
    intro w v4 v5 h
    unfold P_X4_fits_26 at h
    refine J_iload C 4 dX4_fits_26 rfl ?_
    refine J_iconst (v := (5 : Int32)) C dX4_fits_28 (by decide) ?_
    refine J_icmp_ge (tgt := 60) C dX4_fits_29 (by decide) h (fun h => ?_) (fun h => ?_)
    · refine J_lv [0, 1, 2, 3] rfl ?_
      exact hE60 _ _ h
    · refine J_iload C 3 dX4_fits_32 rfl ?_
      refine J_if_ne (tgt := 47) C dX4_fits_34 (by decide) h (fun h => ?_) (fun h => ?_)
      · refine J_lv [0, 1, 2, 4] rfl ?_
        exact s_X4_fits_47 C ih hE60 h
      · refine J_aload_n C 0 dX4_fits_37 rfl rfl ?_
        refine J_iload_n C 2 dX4_fits_38 rfl rfl ?_
        refine J_iload C 4 dX4_fits_39 rfl ?_
        refine k_X4_costBy C mw_570 dX4_fits_41 ⟨Nat.le_of_ble_eq_true rfl, Nat.le_of_ble_eq_true rfl⟩ (Nat.le_of_ble_eq_true rfl) h (fun r_3 w_4 h => ?_)
        refine J_if_lt (tgt := 51) C dX4_fits_44 (by decide) h (fun h => ?_) (fun h => ?_)
        · refine J_iconst (v := (0 : Int32)) C dX4_fits_51 (by decide) ?_
          refine J_lv [0, 1, 2, 4] rfl ?_
          exact s_X4_fits_52 C ih hE60 h
        · refine J_lv [0, 1, 2, 4] rfl ?_
          exact s_X4_fits_47 C ih hE60 h
def P_X4_fits_71 (K : Int32 → MW → Prop) (B14 : MW → Int32 → Int32 → Prop) (w : MW) (v3 : Int32) (s0 : Int32) (s1 : Int32) : Prop := B14 w (s1 + s0) (v3 + (1 : Int32))
set_option maxRecDepth 10000 in
theorem s_X4_fits_71 {x : Mx} {g : Gd} {a : Nat → Nat} (C : Cx x g (sA 12 a) (mCl g a) cX4_fits 6 RX4 (some .int) 10 224) {K : Int32 → MW → Prop}  {v3 : Int32} {s0 : Int32} {s1 : Int32} {B14 : MW → Int32 → Int32 → Prop} (hB14 : ∀ (w : MW) (v2 : Int32) (v3 : Int32), B14 w v2 v3 → J x g (sA 12 a) (mCl g a) 6 (JQ x (sA 12 a) (QcI g (sA 12 a) (mCl g a) K)) w 14 [(0, .ref (a 0)), (2, .int v2), (3, .int v3)] []) {w : MW} (h : P_X4_fits_71 K B14 w v3 s0 s1) : J x g (sA 12 a) (mCl g a) 6 (JQ x (sA 12 a) (QcI g (sA 12 a) (mCl g a) K)) w 71 [(0, .ref (a 0)), (3, .int v3)] [.int s0, .int s1] := by
  unfold P_X4_fits_71 at h
  refine J_iadd C dX4_fits_71 ?_
  refine J_istore_n C [(2, .int (s1 + s0)), (0, .ref (a 0)), (3, .int v3)] dX4_fits_72 rfl (by decide) rfl ?_
  refine J_iinc C 2 [(3, .int (v3 + (1 : Int32))), (2, .int (s1 + s0)), (0, .ref (a 0))] dX4_fits_73 rfl rfl (by decide) rfl ?_
  refine J_goto (tgt := 14) C dX4_fits_76 (by decide) ?_
  refine J_lv [2, 1, 0] rfl ?_
  exact hB14 _ _ _ h
def P_X4_fits_14 (K : Int32 → MW → Prop) : Nat → MW → Int32 → Int32 → Prop
  | 0, _, _, _ => False
  | n + 1, w, v2, v3 => ((32 : Int32) ≤ v3 → K v2 w) ∧ (¬ (32 : Int32) ≤ v3 → ∃ nf : Nat, P_X4_fits_26 K (fun w_5 v4_6 => (v4_6 = 0 → P_X4_fits_71 K (P_X4_fits_14 K n) w_5 v3 (0 : Int32) v2) ∧ (¬ v4_6 = 0 → P_X4_fits_71 K (P_X4_fits_14 K n) w_5 v3 (1 : Int32) v2)) v2 v3 nf w (0 : Int32) (0 : Int32))
set_option maxRecDepth 10000 in
theorem s_X4_fits_14 {x : Mx} {g : Gd} {a : Nat → Nat} (C : Cx x g (sA 12 a) (mCl g a) cX4_fits 6 RX4 (some .int) 10 224) {K : Int32 → MW → Prop}  : ∀ (n : Nat) (w : MW) (v2 : Int32) (v3 : Int32), P_X4_fits_14 K n w v2 v3 → J x g (sA 12 a) (mCl g a) 6 (JQ x (sA 12 a) (QcI g (sA 12 a) (mCl g a) K)) w 14 [(0, .ref (a 0)), (2, .int v2), (3, .int v3)] [] := by
  intro n
  induction n with
  | zero => intro w v2 v3 h; exact h.elim
  | succ n ih =>
    intro w v2 v3 h
    unfold P_X4_fits_14 at h
    refine J_iload_n C 2 dX4_fits_14 rfl rfl ?_
    refine J_bipush (v := (32 : Int32)) C dX4_fits_15 (by decide) ?_
    refine J_icmp_ge (tgt := 79) C dX4_fits_17 (by decide) h (fun h => ?_) (fun h => ?_)
    · refine J_iload_n C 1 dX4_fits_79 rfl rfl ?_
      exact J_iret C dX4_fits_80 h
    · refine J_iconst (v := (0 : Int32)) C dX4_fits_20 (by decide) ?_
      refine J_istore C [(4, .int (0 : Int32)), (0, .ref (a 0)), (2, .int v2), (3, .int v3)] dX4_fits_21 (by decide) rfl ?_
      refine J_iconst (v := (0 : Int32)) C dX4_fits_23 (by decide) ?_
      refine J_istore C [(5, .int (0 : Int32)), (4, .int (0 : Int32)), (0, .ref (a 0)), (2, .int v2), (3, .int v3)] dX4_fits_24 (by decide) rfl ?_
      obtain ⟨nf, h⟩ := h
      refine J_lv [2, 3, 4, 1, 0] rfl ?_
      refine s_X4_fits_26 C (fun w_5 v4_6 h => ?_) nf _ _ _ h
      · refine J_iload_n C 1 dX4_fits_60 rfl rfl ?_
        refine J_iload C 3 dX4_fits_61 rfl ?_
        refine J_if_eq (tgt := 70) C dX4_fits_63 (by decide) h (fun h => ?_) (fun h => ?_)
        · refine J_iconst (v := (0 : Int32)) C dX4_fits_70 (by decide) ?_
          refine J_lv [0, 2] rfl ?_
          exact s_X4_fits_71 C ih h
        · refine J_iconst (v := (1 : Int32)) C dX4_fits_66 (by decide) ?_
          refine J_goto (tgt := 71) C dX4_fits_67 (by decide) ?_
          refine J_lv [0, 2] rfl ?_
          exact s_X4_fits_71 C ih h
def P_X4_fits (K : Int32 → MW → Prop) (w : MW) (v1 : Int32) : Prop := P_X4_isColumn (fun r_1 w_2 => (¬ r_1 = 0 → ∃ nf : Nat, P_X4_fits_14 K nf w_2 (0 : Int32) (0 : Int32)) ∧ (r_1 = 0 → K (-1 : Int32) w_2)) w v1
set_option maxRecDepth 10000 in
theorem s_X4_fits {x : Mx} {g : Gd} {a : Nat → Nat} (C : Cx x g (sA 12 a) (mCl g a) cX4_fits 6 RX4 (some .int) 10 224) {K : Int32 → MW → Prop}  {w : MW} {v1 : Int32} (h : P_X4_fits K w v1) : J x g (sA 12 a) (mCl g a) 6 (JQ x (sA 12 a) (QcI g (sA 12 a) (mCl g a) K)) w 0 [(0, .ref (a 0)), (1, .int v1)] [] := by
  unfold P_X4_fits at h
  refine J_aload_n C 0 dX4_fits_0 rfl rfl ?_
  refine J_iload_n C 1 dX4_fits_1 rfl rfl ?_
  refine k_X4_isColumn C mw_685 dX4_fits_2 ⟨Nat.le_of_ble_eq_true rfl, Nat.le_of_ble_eq_true rfl⟩ (Nat.le_of_ble_eq_true rfl) h (fun r_1 w_2 h => ?_)
  refine J_if_ne (tgt := 10) C dX4_fits_5 (by decide) h (fun h => ?_) (fun h => ?_)
  · refine J_iconst (v := (0 : Int32)) C dX4_fits_10 (by decide) ?_
    refine J_istore_n C [(2, .int (0 : Int32)), (0, .ref (a 0)), (1, .int v1)] dX4_fits_11 rfl (by decide) rfl ?_
    refine J_iconst (v := (0 : Int32)) C dX4_fits_12 (by decide) ?_
    refine J_istore_n C [(3, .int (0 : Int32)), (2, .int (0 : Int32)), (0, .ref (a 0)), (1, .int v1)] dX4_fits_13 rfl (by decide) rfl ?_
    obtain ⟨nf, h⟩ := h
    refine J_lv [2, 1, 0] rfl ?_
    refine s_X4_fits_14 C  nf _ _ _ h
  · refine J_iconst (v := (-1 : Int32)) C dX4_fits_8 (by decide) ?_
    exact J_iret C dX4_fits_9 h
theorem c_X4_fits {l : Launch} {g : Gd} {a : Nat → Nat} {w : MW} {K : Int32 → MW → Prop} {v1 : Int32} (h : P_X4_fits K w v1) : Kt l yX4_fits cX4_fits 6 (some .int) 10 224 g (sA 12 a) (mCl g a) [.ref (a 0), .int v1] w (QcI g (sA 12 a) (mCl g a) K) :=
  Kt_of (by decide +kernel) (Nat.le_of_ble_eq_true rfl) (fun x hx C => s_X4_fits C h)
theorem k_X4_fits {x : Mx} {g : Gd} {a : Nat → Nat} {cc : ByteArray} {nL : Nat} {own : String} {ret : Option FieldType} {F L : Nat} {Q : State → Prop} {w : MW} {pc : Nat} {lv : List (Nat × Value)} {st : List Value} (C : Cx x g (sA 12 a) (mCl g a) cc nL own ret F L) {index : Nat} {K : Int32 → MW → Prop} {v1 : Int32} (h1 : Cond.methodLink own index yX4_fits ∈ gT) (hd : decode cc pc = .ok (.invokevirtual index, 3)) (hR : 10 + 1 ≤ F ∧ 8 + (6 + 11) + 224 ≤ L) (hst : (st.map fun v => v.category).sum ≤ 8) (h : P_X4_fits K w v1) (k : ∀ (r : Int32) (w' : MW), K r w' → J x g (sA 12 a) (mCl g a) nL Q w' (pc + 3) lv (.int r :: st)) : J x g (sA 12 a) (mCl g a) nL Q w (pc) lv (.int v1 :: .ref (a 0) :: st) :=
  J_callVi C (As := [.int v1]) (b := a 0) (n := 1) (c_X4_fits h) h1 mw_701 mw_702 mw_6 mw_703 (by decide +kernel) hR rfl (rc_X4 C) hst hd k
-- X4_doubt (changes, room 10 224)
def P_X4_doubt_48 (K : Int32 → MW → Prop) (B20 : MW → Int32 → Prop) (E54 : MW → Prop) (w : MW) (v2 : Int32) (v3 : Int32) : Prop := B20 w (v3 + (1 : Int32))
set_option maxRecDepth 10000 in
theorem s_X4_doubt_48 {x : Mx} {g : Gd} {a : Nat → Nat} (C : Cx x g (sA 12 a) (mCl g a) cX4_doubt 4 RX4 (some .int) 10 224) {K : Int32 → MW → Prop}  {v2 : Int32} {v3 : Int32} {B20 : MW → Int32 → Prop} {E54 : MW → Prop} (hB20 : ∀ (w : MW) (v3 : Int32), B20 w v3 → J x g (sA 12 a) (mCl g a) 4 (JQ x (sA 12 a) (QcI g (sA 12 a) (mCl g a) K)) w 20 [(0, .ref (a 0)), (2, .int v2), (3, .int v3)] []) (hE54 : ∀ (w : MW), E54 w → J x g (sA 12 a) (mCl g a) 4 (JQ x (sA 12 a) (QcI g (sA 12 a) (mCl g a) K)) w 54 [(0, .ref (a 0)), (2, .int v2)] []) {w : MW} (h : P_X4_doubt_48 K B20 E54 w v2 v3) : J x g (sA 12 a) (mCl g a) 4 (JQ x (sA 12 a) (QcI g (sA 12 a) (mCl g a) K)) w 48 [(0, .ref (a 0)), (2, .int v2), (3, .int v3)] [] := by
  unfold P_X4_doubt_48 at h
  refine J_iinc C 2 [(3, .int (v3 + (1 : Int32))), (0, .ref (a 0)), (2, .int v2)] dX4_doubt_48 rfl rfl (by decide) rfl ?_
  refine J_goto (tgt := 20) C dX4_doubt_51 (by decide) ?_
  refine J_lv [1, 2, 0] rfl ?_
  exact hB20 _ _ h
def P_X4_doubt_20 (K : Int32 → MW → Prop) (E54 : MW → Prop) (v2 : Int32) : Nat → MW → Int32 → Prop
  | 0, _, _ => False
  | n + 1, w, v3 => ((5 : Int32) ≤ v3 → E54 w) ∧ (¬ (5 : Int32) ≤ v3 → (v2 = (md_bestForm w) → P_X4_doubt_48 K (P_X4_doubt_20 K E54 v2 n) E54 w v2 v3) ∧ (¬ v2 = (md_bestForm w) → P_X4_costBy (fun r_3 w_4 => (¬ r_3 = (md_bestCost w_4) → P_X4_doubt_48 K (P_X4_doubt_20 K E54 v2 n) E54 w_4 v2 v3) ∧ (r_3 = (md_bestCost w_4) → K v2 w_4)) w v2 v3))
set_option maxRecDepth 10000 in
theorem s_X4_doubt_20 {x : Mx} {g : Gd} {a : Nat → Nat} (C : Cx x g (sA 12 a) (mCl g a) cX4_doubt 4 RX4 (some .int) 10 224) {K : Int32 → MW → Prop}  {v2 : Int32} {E54 : MW → Prop} (hE54 : ∀ (w : MW), E54 w → J x g (sA 12 a) (mCl g a) 4 (JQ x (sA 12 a) (QcI g (sA 12 a) (mCl g a) K)) w 54 [(0, .ref (a 0)), (2, .int v2)] []) : ∀ (n : Nat) (w : MW) (v3 : Int32), P_X4_doubt_20 K E54 v2 n w v3 → J x g (sA 12 a) (mCl g a) 4 (JQ x (sA 12 a) (QcI g (sA 12 a) (mCl g a) K)) w 20 [(0, .ref (a 0)), (2, .int v2), (3, .int v3)] [] := by
  intro n
  induction n with
  | zero => intro w v3 h; exact h.elim
  | succ n ih =>
    intro w v3 h
    unfold P_X4_doubt_20 at h
    refine J_iload_n C 2 dX4_doubt_20 rfl rfl ?_
    refine J_iconst (v := (5 : Int32)) C dX4_doubt_21 (by decide) ?_
    refine J_icmp_ge (tgt := 54) C dX4_doubt_22 (by decide) h (fun h => ?_) (fun h => ?_)
    · refine J_lv [0, 1] rfl ?_
      exact hE54 _ h
    · refine J_iload_n C 1 dX4_doubt_25 rfl rfl ?_
      refine J_aload_n C 0 dX4_doubt_26 rfl rfl ?_
      refine G_md_bestForm C mw_483 dX4_doubt_27 ?_
      refine J_icmp_eq (tgt := 48) C dX4_doubt_30 (by decide) h (fun h => ?_) (fun h => ?_)
      · refine J_lv [0, 1, 2] rfl ?_
        exact s_X4_doubt_48 C ih hE54 h
      · refine J_aload_n C 0 dX4_doubt_33 rfl rfl ?_
        refine J_iload_n C 1 dX4_doubt_34 rfl rfl ?_
        refine J_iload_n C 2 dX4_doubt_35 rfl rfl ?_
        refine k_X4_costBy C mw_570 dX4_doubt_36 ⟨Nat.le_of_ble_eq_true rfl, Nat.le_of_ble_eq_true rfl⟩ (Nat.le_of_ble_eq_true rfl) h (fun r_3 w_4 h => ?_)
        refine J_aload_n C 0 dX4_doubt_39 rfl rfl ?_
        refine G_md_bestCost C mw_485 dX4_doubt_40 ?_
        refine J_icmp_ne (tgt := 48) C dX4_doubt_43 (by decide) h (fun h => ?_) (fun h => ?_)
        · refine J_lv [0, 1, 2] rfl ?_
          exact s_X4_doubt_48 C ih hE54 h
        · refine J_iload_n C 1 dX4_doubt_46 rfl rfl ?_
          exact J_iret C dX4_doubt_47 h
def P_X4_doubt_12 (K : Int32 → MW → Prop) : Nat → MW → Int32 → Prop
  | 0, _, _ => False
  | n + 1, w, v2 => ((32 : Int32) ≤ v2 → K (-1 : Int32) w) ∧ (¬ (32 : Int32) ≤ v2 → ∃ nf : Nat, P_X4_doubt_20 K (fun w_5 => P_X4_doubt_12 K n w_5 (v2 + (1 : Int32))) v2 nf w (0 : Int32))
set_option maxRecDepth 10000 in
theorem s_X4_doubt_12 {x : Mx} {g : Gd} {a : Nat → Nat} (C : Cx x g (sA 12 a) (mCl g a) cX4_doubt 4 RX4 (some .int) 10 224) {K : Int32 → MW → Prop}  : ∀ (n : Nat) (w : MW) (v2 : Int32), P_X4_doubt_12 K n w v2 → J x g (sA 12 a) (mCl g a) 4 (JQ x (sA 12 a) (QcI g (sA 12 a) (mCl g a) K)) w 12 [(0, .ref (a 0)), (2, .int v2)] [] := by
  intro n
  induction n with
  | zero => intro w v2 h; exact h.elim
  | succ n ih =>
    intro w v2 h
    unfold P_X4_doubt_12 at h
    refine J_iload_n C 1 dX4_doubt_12 rfl rfl ?_
    refine J_bipush (v := (32 : Int32)) C dX4_doubt_13 (by decide) ?_
    refine J_icmp_ge (tgt := 60) C dX4_doubt_15 (by decide) h (fun h => ?_) (fun h => ?_)
    · refine J_iconst (v := (-1 : Int32)) C dX4_doubt_60 (by decide) ?_
      exact J_iret C dX4_doubt_61 h
    · refine J_iconst (v := (0 : Int32)) C dX4_doubt_18 (by decide) ?_
      refine J_istore_n C [(3, .int (0 : Int32)), (0, .ref (a 0)), (2, .int v2)] dX4_doubt_19 rfl (by decide) rfl ?_
      obtain ⟨nf, h⟩ := h
      refine J_lv [1, 2, 0] rfl ?_
      refine s_X4_doubt_20 C (fun w_5 h => ?_) nf _ _ h
      · refine J_iinc C 1 [(2, .int (v2 + (1 : Int32))), (0, .ref (a 0))] dX4_doubt_54 rfl rfl (by decide) rfl ?_
        refine J_goto (tgt := 12) C dX4_doubt_57 (by decide) ?_
        refine J_lv [1, 0] rfl ?_
        exact ih _ _ h
def P_X4_doubt (K : Int32 → MW → Prop) (w : MW) (v1 : Int32) : Prop := P_X4_isColumn (fun r_1 w_2 => (¬ r_1 = 0 → ∃ nf : Nat, P_X4_doubt_12 K nf w_2 (0 : Int32)) ∧ (r_1 = 0 → K (-1 : Int32) w_2)) w v1
set_option maxRecDepth 10000 in
theorem s_X4_doubt {x : Mx} {g : Gd} {a : Nat → Nat} (C : Cx x g (sA 12 a) (mCl g a) cX4_doubt 4 RX4 (some .int) 10 224) {K : Int32 → MW → Prop}  {w : MW} {v1 : Int32} (h : P_X4_doubt K w v1) : J x g (sA 12 a) (mCl g a) 4 (JQ x (sA 12 a) (QcI g (sA 12 a) (mCl g a) K)) w 0 [(0, .ref (a 0)), (1, .int v1)] [] := by
  unfold P_X4_doubt at h
  refine J_aload_n C 0 dX4_doubt_0 rfl rfl ?_
  refine J_iload_n C 1 dX4_doubt_1 rfl rfl ?_
  refine k_X4_isColumn C mw_685 dX4_doubt_2 ⟨Nat.le_of_ble_eq_true rfl, Nat.le_of_ble_eq_true rfl⟩ (Nat.le_of_ble_eq_true rfl) h (fun r_1 w_2 h => ?_)
  refine J_if_ne (tgt := 10) C dX4_doubt_5 (by decide) h (fun h => ?_) (fun h => ?_)
  · refine J_iconst (v := (0 : Int32)) C dX4_doubt_10 (by decide) ?_
    refine J_istore_n C [(2, .int (0 : Int32)), (0, .ref (a 0)), (1, .int v1)] dX4_doubt_11 rfl (by decide) rfl ?_
    obtain ⟨nf, h⟩ := h
    refine J_lv [1, 0] rfl ?_
    refine s_X4_doubt_12 C  nf _ _ h
  · refine J_iconst (v := (-1 : Int32)) C dX4_doubt_8 (by decide) ?_
    exact J_iret C dX4_doubt_9 h
theorem c_X4_doubt {l : Launch} {g : Gd} {a : Nat → Nat} {w : MW} {K : Int32 → MW → Prop} {v1 : Int32} (h : P_X4_doubt K w v1) : Kt l yX4_doubt cX4_doubt 4 (some .int) 10 224 g (sA 12 a) (mCl g a) [.ref (a 0), .int v1] w (QcI g (sA 12 a) (mCl g a) K) :=
  Kt_of (by decide +kernel) (Nat.le_of_ble_eq_true rfl) (fun x hx C => s_X4_doubt C h)
theorem k_X4_doubt {x : Mx} {g : Gd} {a : Nat → Nat} {cc : ByteArray} {nL : Nat} {own : String} {ret : Option FieldType} {F L : Nat} {Q : State → Prop} {w : MW} {pc : Nat} {lv : List (Nat × Value)} {st : List Value} (C : Cx x g (sA 12 a) (mCl g a) cc nL own ret F L) {index : Nat} {K : Int32 → MW → Prop} {v1 : Int32} (h1 : Cond.methodLink own index yX4_doubt ∈ gT) (hd : decode cc pc = .ok (.invokevirtual index, 3)) (hR : 10 + 1 ≤ F ∧ 8 + (4 + 11) + 224 ≤ L) (hst : (st.map fun v => v.category).sum ≤ 8) (h : P_X4_doubt K w v1) (k : ∀ (r : Int32) (w' : MW), K r w' → J x g (sA 12 a) (mCl g a) nL Q w' (pc + 3) lv (.int r :: st)) : J x g (sA 12 a) (mCl g a) nL Q w (pc) lv (.int v1 :: .ref (a 0) :: st) :=
  J_callVi C (As := [.int v1]) (b := a 0) (n := 1) (c_X4_doubt h) h1 mw_705 mw_706 mw_6 mw_707 (by decide +kernel) hR rfl (rc_X4 C) hst hd k
-- X4_parts (changes, room 10 224)
def P_X4_parts_122 (K : Int32 → MW → Prop) (B51 : MW → Int32 → Prop) (E114 : MW → Int32 → Prop) (w : MW) (v2 : Int32) (v3 : Int32) (v4 : Int32) (v5 : Int32) (v6 : Int32) : Prop := B51 w (v6 + (1 : Int32))
set_option maxRecDepth 10000 in
theorem s_X4_parts_122 {x : Mx} {g : Gd} {a : Nat → Nat} (C : Cx x g (sA 12 a) (mCl g a) cX4_parts 8 RX4 (some .int) 10 224) {K : Int32 → MW → Prop}  {v2 : Int32} {v3 : Int32} {v4 : Int32} {v5 : Int32} {v6 : Int32} {B51 : MW → Int32 → Prop} {E114 : MW → Int32 → Prop} (hB51 : ∀ (w : MW) (v6 : Int32), B51 w v6 → J x g (sA 12 a) (mCl g a) 8 (JQ x (sA 12 a) (QcI g (sA 12 a) (mCl g a) K)) w 51 [(0, .ref (a 0)), (2, .int v2), (3, .int v3), (4, .int v4), (5, .int v5), (6, .int v6)] []) (hE114 : ∀ (w : MW) (v6 : Int32), E114 w v6 → J x g (sA 12 a) (mCl g a) 8 (JQ x (sA 12 a) (QcI g (sA 12 a) (mCl g a) K)) w 114 [(0, .ref (a 0)), (6, .int v6)] []) {w : MW} (h : P_X4_parts_122 K B51 E114 w v2 v3 v4 v5 v6) : J x g (sA 12 a) (mCl g a) 8 (JQ x (sA 12 a) (QcI g (sA 12 a) (mCl g a) K)) w 122 [(0, .ref (a 0)), (2, .int v2), (3, .int v3), (4, .int v4), (5, .int v5), (6, .int v6)] [] := by
  unfold P_X4_parts_122 at h
  refine J_iinc C 5 [(6, .int (v6 + (1 : Int32))), (0, .ref (a 0)), (2, .int v2), (3, .int v3), (4, .int v4), (5, .int v5)] dX4_parts_122 rfl rfl (by decide) rfl ?_
  refine J_goto (tgt := 51) C dX4_parts_125 (by decide) ?_
  refine J_lv [1, 2, 3, 4, 5, 0] rfl ?_
  exact hB51 _ _ h
def P_X4_parts_51 (K : Int32 → MW → Prop) (E114 : MW → Int32 → Prop) (v2 : Int32) (v3 : Int32) (v4 : Int32) (v5 : Int32) : Nat → MW → Int32 → Prop
  | 0, _, _ => False
  | n + 1, w, v6 => ((md_columnMany w) ≤ v6 → K (-1 : Int32) w) ∧ (¬ (md_columnMany w) ≤ v6 → vp_in v6 80 ∧ (P_X4_isMissing (fun r_7 => (r_7 = 0 → vp_in v6 80 ∧ (P_X4_tells (fun r_8 w_9 => vp_in v6 80 ∧ (P_X4_tells (fun r_10 w_11 => (r_8 = r_10 → P_X4_parts_122 K (P_X4_parts_51 K E114 v2 v3 v4 v5 n) E114 w_11 v2 v3 v4 v5 v6) ∧ (¬ r_8 = r_10 → E114 w_11 v6)) w_9 v3 (md_column w_9 v6.toNatClampNeg) v5)) w v2 (md_column w v6.toNatClampNeg) v5)) ∧ (¬ r_7 = 0 → P_X4_parts_122 K (P_X4_parts_51 K E114 v2 v3 v4 v5 n) E114 w v2 v3 v4 v5 v6)) w (md_column w v6.toNatClampNeg) v4))
set_option maxRecDepth 10000 in
theorem s_X4_parts_51 {x : Mx} {g : Gd} {a : Nat → Nat} (C : Cx x g (sA 12 a) (mCl g a) cX4_parts 8 RX4 (some .int) 10 224) {K : Int32 → MW → Prop}  {v2 : Int32} {v3 : Int32} {v4 : Int32} {v5 : Int32} {E114 : MW → Int32 → Prop} (hE114 : ∀ (w : MW) (v6 : Int32), E114 w v6 → J x g (sA 12 a) (mCl g a) 8 (JQ x (sA 12 a) (QcI g (sA 12 a) (mCl g a) K)) w 114 [(0, .ref (a 0)), (6, .int v6)] []) : ∀ (n : Nat) (w : MW) (v6 : Int32), P_X4_parts_51 K E114 v2 v3 v4 v5 n w v6 → J x g (sA 12 a) (mCl g a) 8 (JQ x (sA 12 a) (QcI g (sA 12 a) (mCl g a) K)) w 51 [(0, .ref (a 0)), (2, .int v2), (3, .int v3), (4, .int v4), (5, .int v5), (6, .int v6)] [] := by
  intro n
  induction n with
  | zero => intro w v6 h; exact h.elim
  | succ n ih =>
    intro w v6 h
    unfold P_X4_parts_51 at h
    refine J_iload C 5 dX4_parts_51 rfl ?_
    refine J_aload_n C 0 dX4_parts_53 rfl rfl ?_
    refine G_md_columnMany C mw_482 dX4_parts_54 ?_
    refine J_icmp_ge (tgt := 128) C dX4_parts_57 (by decide) h (fun h => ?_) (fun h => ?_)
    · refine J_iconst (v := (-1 : Int32)) C dX4_parts_128 (by decide) ?_
      exact J_iret C dX4_parts_129 h
    · refine J_aload_n C 0 dX4_parts_60 rfl rfl ?_
      refine J_aload_n C 0 dX4_parts_61 rfl rfl ?_
      refine G_md_column C mw_480 dX4_parts_62 ?_
      refine J_iload C 5 dX4_parts_65 rfl ?_
      refine L_md_column C dX4_parts_67 h (fun h => ?_)
      refine J_iload C 3 dX4_parts_68 rfl ?_
      refine k_X4_isMissing C mw_576 dX4_parts_70 ⟨Nat.le_of_ble_eq_true rfl, Nat.le_of_ble_eq_true rfl⟩ (Nat.le_of_ble_eq_true rfl) h (fun r_7 h => ?_)
      refine J_if_eq (tgt := 79) C dX4_parts_73 (by decide) h (fun h => ?_) (fun h => ?_)
      · refine J_aload_n C 0 dX4_parts_79 rfl rfl ?_
        refine J_iload_n C 1 dX4_parts_80 rfl rfl ?_
        refine J_aload_n C 0 dX4_parts_81 rfl rfl ?_
        refine G_md_column C mw_480 dX4_parts_82 ?_
        refine J_iload C 5 dX4_parts_85 rfl ?_
        refine L_md_column C dX4_parts_87 h (fun h => ?_)
        refine J_iload C 4 dX4_parts_88 rfl ?_
        refine k_X4_tells C mw_587 dX4_parts_90 ⟨Nat.le_of_ble_eq_true rfl, Nat.le_of_ble_eq_true rfl⟩ (Nat.le_of_ble_eq_true rfl) h (fun r_8 w_9 h => ?_)
        refine J_istore C [(7, .int r_8), (0, .ref (a 0)), (2, .int v2), (3, .int v3), (4, .int v4), (5, .int v5), (6, .int v6)] dX4_parts_93 (by decide) rfl ?_
        refine J_iload C 0 dX4_parts_95 rfl ?_
        refine J_aload_n C 1 dX4_parts_97 rfl rfl ?_
        refine J_iload_n C 3 dX4_parts_98 rfl rfl ?_
        refine J_aload_n C 1 dX4_parts_99 rfl rfl ?_
        refine G_md_column C mw_480 dX4_parts_100 ?_
        refine J_iload C 6 dX4_parts_103 rfl ?_
        refine L_md_column C dX4_parts_105 h (fun h => ?_)
        refine J_iload C 5 dX4_parts_106 rfl ?_
        refine k_X4_tells C mw_587 dX4_parts_108 ⟨Nat.le_of_ble_eq_true rfl, Nat.le_of_ble_eq_true rfl⟩ (Nat.le_of_ble_eq_true rfl) h (fun r_10 w_11 h => ?_)
        refine J_icmp_eq (tgt := 122) C dX4_parts_111 (by decide) h (fun h => ?_) (fun h => ?_)
        · refine J_lv [1, 2, 3, 4, 5, 6] rfl ?_
          exact s_X4_parts_122 C ih hE114 h
        · refine J_lv [1, 6] rfl ?_
          exact hE114 _ _ h
      · refine J_goto (tgt := 122) C dX4_parts_76 (by decide) ?_
        refine J_lv [0, 1, 2, 3, 4, 5] rfl ?_
        exact s_X4_parts_122 C ih hE114 h
def P_X4_parts (K : Int32 → MW → Prop) (w : MW) (v1 : Int32) (v2 : Int32) (v3 : Int32) (v4 : Int32) : Prop := P_X4_isColumn (fun r_1 w_2 => (r_1 = 0 → K (-1 : Int32) w_2) ∧ (¬ r_1 = 0 → P_X4_in (fun r_3 => (r_3 = 0 → K (-1 : Int32) w_2) ∧ (¬ r_3 = 0 → P_X4_in (fun r_4 => (r_4 = 0 → K (-1 : Int32) w_2) ∧ (¬ r_4 = 0 → P_X4_in (fun r_5 => (¬ r_5 = 0 → P_X4_firstOf (fun r_6 => ∃ nf : Nat, P_X4_parts_51 K (fun w_12 v6_13 => vp_in v6_13 80 ∧ (K (md_columnRow w_12 v6_13.toNatClampNeg) w_12)) v2 v3 v4 r_6 nf w_2 (0 : Int32)) w_2 v4) ∧ (r_5 = 0 → K (-1 : Int32) w_2)) v4 (0 : Int32) (4 : Int32))) v3 (0 : Int32) (31 : Int32))) v2 (0 : Int32) (31 : Int32))) w v1
set_option maxRecDepth 10000 in
theorem s_X4_parts {x : Mx} {g : Gd} {a : Nat → Nat} (C : Cx x g (sA 12 a) (mCl g a) cX4_parts 8 RX4 (some .int) 10 224) {K : Int32 → MW → Prop}  {w : MW} {v1 : Int32} {v2 : Int32} {v3 : Int32} {v4 : Int32} (h : P_X4_parts K w v1 v2 v3 v4) : J x g (sA 12 a) (mCl g a) 8 (JQ x (sA 12 a) (QcI g (sA 12 a) (mCl g a) K)) w 0 [(0, .ref (a 0)), (1, .int v1), (2, .int v2), (3, .int v3), (4, .int v4)] [] := by
  unfold P_X4_parts at h
  refine J_aload_n C 0 dX4_parts_0 rfl rfl ?_
  refine J_iload_n C 1 dX4_parts_1 rfl rfl ?_
  refine k_X4_isColumn C mw_685 dX4_parts_2 ⟨Nat.le_of_ble_eq_true rfl, Nat.le_of_ble_eq_true rfl⟩ (Nat.le_of_ble_eq_true rfl) h (fun r_1 w_2 h => ?_)
  refine J_if_eq (tgt := 38) C dX4_parts_5 (by decide) h (fun h => ?_) (fun h => ?_)
  · refine J_iconst (v := (-1 : Int32)) C dX4_parts_38 (by decide) ?_
    exact J_iret C dX4_parts_39 h
  · refine J_iload_n C 2 dX4_parts_8 rfl rfl ?_
    refine J_iconst (v := (0 : Int32)) C dX4_parts_9 (by decide) ?_
    refine J_bipush (v := (31 : Int32)) C dX4_parts_10 (by decide) ?_
    refine k_X4_in C mw_500 dX4_parts_12 ⟨Nat.le_of_ble_eq_true rfl, Nat.le_of_ble_eq_true rfl⟩ (Nat.le_of_ble_eq_true rfl) h (fun r_3 h => ?_)
    refine J_if_eq (tgt := 38) C dX4_parts_15 (by decide) h (fun h => ?_) (fun h => ?_)
    · refine J_iconst (v := (-1 : Int32)) C dX4_parts_38 (by decide) ?_
      exact J_iret C dX4_parts_39 h
    · refine J_iload_n C 3 dX4_parts_18 rfl rfl ?_
      refine J_iconst (v := (0 : Int32)) C dX4_parts_19 (by decide) ?_
      refine J_bipush (v := (31 : Int32)) C dX4_parts_20 (by decide) ?_
      refine k_X4_in C mw_500 dX4_parts_22 ⟨Nat.le_of_ble_eq_true rfl, Nat.le_of_ble_eq_true rfl⟩ (Nat.le_of_ble_eq_true rfl) h (fun r_4 h => ?_)
      refine J_if_eq (tgt := 38) C dX4_parts_25 (by decide) h (fun h => ?_) (fun h => ?_)
      · refine J_iconst (v := (-1 : Int32)) C dX4_parts_38 (by decide) ?_
        exact J_iret C dX4_parts_39 h
      · refine J_iload C 4 dX4_parts_28 rfl ?_
        refine J_iconst (v := (0 : Int32)) C dX4_parts_30 (by decide) ?_
        refine J_iconst (v := (4 : Int32)) C dX4_parts_31 (by decide) ?_
        refine k_X4_in C mw_500 dX4_parts_32 ⟨Nat.le_of_ble_eq_true rfl, Nat.le_of_ble_eq_true rfl⟩ (Nat.le_of_ble_eq_true rfl) h (fun r_5 h => ?_)
        refine J_if_ne (tgt := 40) C dX4_parts_35 (by decide) h (fun h => ?_) (fun h => ?_)
        · refine J_aload_n C 0 dX4_parts_40 rfl rfl ?_
          refine J_iload C 4 dX4_parts_41 rfl ?_
          refine k_X4_firstOf C mw_573 dX4_parts_43 ⟨Nat.le_of_ble_eq_true rfl, Nat.le_of_ble_eq_true rfl⟩ (Nat.le_of_ble_eq_true rfl) h (fun r_6 h => ?_)
          refine J_istore C [(5, .int r_6), (0, .ref (a 0)), (1, .int v1), (2, .int v2), (3, .int v3), (4, .int v4)] dX4_parts_46 (by decide) rfl ?_
          refine J_iconst (v := (0 : Int32)) C dX4_parts_48 (by decide) ?_
          refine J_istore C [(6, .int (0 : Int32)), (5, .int r_6), (0, .ref (a 0)), (1, .int v1), (2, .int v2), (3, .int v3), (4, .int v4)] dX4_parts_49 (by decide) rfl ?_
          obtain ⟨nf, h⟩ := h
          refine J_lv [2, 4, 5, 6, 1, 0] rfl ?_
          refine s_X4_parts_51 C (fun w_12 v6_13 h => ?_) nf _ _ h
          · refine J_aload_n C 0 dX4_parts_114 rfl rfl ?_
            refine G_md_columnRow C mw_481 dX4_parts_115 ?_
            refine J_iload C 1 dX4_parts_118 rfl ?_
            refine L_md_columnRow C dX4_parts_120 h (fun h => ?_)
            exact J_iret C dX4_parts_121 h
        · refine J_iconst (v := (-1 : Int32)) C dX4_parts_38 (by decide) ?_
          exact J_iret C dX4_parts_39 h
theorem c_X4_parts {l : Launch} {g : Gd} {a : Nat → Nat} {w : MW} {K : Int32 → MW → Prop} {v1 : Int32} {v2 : Int32} {v3 : Int32} {v4 : Int32} (h : P_X4_parts K w v1 v2 v3 v4) : Kt l yX4_parts cX4_parts 8 (some .int) 10 224 g (sA 12 a) (mCl g a) [.ref (a 0), .int v1, .int v2, .int v3, .int v4] w (QcI g (sA 12 a) (mCl g a) K) :=
  Kt_of (by decide +kernel) (Nat.le_of_ble_eq_true rfl) (fun x hx C => s_X4_parts C h)
theorem k_X4_parts {x : Mx} {g : Gd} {a : Nat → Nat} {cc : ByteArray} {nL : Nat} {own : String} {ret : Option FieldType} {F L : Nat} {Q : State → Prop} {w : MW} {pc : Nat} {lv : List (Nat × Value)} {st : List Value} (C : Cx x g (sA 12 a) (mCl g a) cc nL own ret F L) {index : Nat} {K : Int32 → MW → Prop} {v1 : Int32} {v2 : Int32} {v3 : Int32} {v4 : Int32} (h1 : Cond.methodLink own index yX4_parts ∈ gT) (hd : decode cc pc = .ok (.invokevirtual index, 3)) (hR : 10 + 1 ≤ F ∧ 8 + (8 + 11) + 224 ≤ L) (hst : (st.map fun v => v.category).sum ≤ 8) (h : P_X4_parts K w v1 v2 v3 v4) (k : ∀ (r : Int32) (w' : MW), K r w' → J x g (sA 12 a) (mCl g a) nL Q w' (pc + 3) lv (.int r :: st)) : J x g (sA 12 a) (mCl g a) nL Q w (pc) lv (.int v4 :: .int v3 :: .int v2 :: .int v1 :: .ref (a 0) :: st) :=
  J_callVi C (As := [.int v1, .int v2, .int v3, .int v4]) (b := a 0) (n := 4) (c_X4_parts h) h1 mw_709 mw_710 mw_6 mw_711 (by decide +kernel) hR rfl (rc_X4 C) hst hd k
-- X4_told (changes, room 10 224)
def P_X4_told (K : Int32 → MW → Prop) (w : MW) (v1 : Int32) (v2 : Int32) : Prop := P_X4_isColumn (fun r_1 w_2 => (r_1 = 0 → K (-1 : Int32) w_2) ∧ (¬ r_1 = 0 → P_X4_isRow (fun r_3 => (r_3 = 0 → K (-1 : Int32) w_2) ∧ (¬ r_3 = 0 → P_X4_isPlain (fun r_4 => (¬ r_4 = 0 → vp_in v1 81 ∧ (P_X4_isMissing (fun r_5 => (¬ r_5 = 0 → K ((md_rowFrom w_2 v1.toNatClampNeg) + v2) (md_value_s w_2 (0 : Int64))) ∧ (r_5 = 0 → P_X4_firstOf (fun r_6 => P_X4_tells (fun r_7 w_8 => K ((md_rowFrom w_2 v1.toNatClampNeg) + v2) w_8) (md_value_s w_2 (0 : Int64)) (md_bestForm (md_value_s w_2 (0 : Int64))) ((md_rowFrom w_2 v1.toNatClampNeg) + v2) r_6) (md_value_s w_2 (0 : Int64)) (md_bestCode (md_value_s w_2 (0 : Int64))))) (md_value_s w_2 (0 : Int64)) ((md_rowFrom w_2 v1.toNatClampNeg) + v2) (md_bestCode (md_value_s w_2 (0 : Int64))))) ∧ (r_4 = 0 → K (-1 : Int32) w_2)) w_2 v1)) w_2 v1)) w v2
set_option maxRecDepth 10000 in
theorem s_X4_told {x : Mx} {g : Gd} {a : Nat → Nat} (C : Cx x g (sA 12 a) (mCl g a) cX4_told 4 RX4 (some .int) 10 224) {K : Int32 → MW → Prop}  {w : MW} {v1 : Int32} {v2 : Int32} (h : P_X4_told K w v1 v2) : J x g (sA 12 a) (mCl g a) 4 (JQ x (sA 12 a) (QcI g (sA 12 a) (mCl g a) K)) w 0 [(0, .ref (a 0)), (1, .int v1), (2, .int v2)] [] := by
  unfold P_X4_told at h
  refine J_aload_n C 0 dX4_told_0 rfl rfl ?_
  refine J_iload_n C 2 dX4_told_1 rfl rfl ?_
  refine k_X4_isColumn C mw_685 dX4_told_2 ⟨Nat.le_of_ble_eq_true rfl, Nat.le_of_ble_eq_true rfl⟩ (Nat.le_of_ble_eq_true rfl) h (fun r_1 w_2 h => ?_)
  refine J_if_eq (tgt := 24) C dX4_told_5 (by decide) h (fun h => ?_) (fun h => ?_)
  · refine J_iconst (v := (-1 : Int32)) C dX4_told_24 (by decide) ?_
    exact J_iret C dX4_told_25 h
  · refine J_aload_n C 0 dX4_told_8 rfl rfl ?_
    refine J_iload_n C 1 dX4_told_9 rfl rfl ?_
    refine k_X4_isRow C mw_667 dX4_told_10 ⟨Nat.le_of_ble_eq_true rfl, Nat.le_of_ble_eq_true rfl⟩ (Nat.le_of_ble_eq_true rfl) h (fun r_3 h => ?_)
    refine J_if_eq (tgt := 24) C dX4_told_13 (by decide) h (fun h => ?_) (fun h => ?_)
    · refine J_iconst (v := (-1 : Int32)) C dX4_told_24 (by decide) ?_
      exact J_iret C dX4_told_25 h
    · refine J_aload_n C 0 dX4_told_16 rfl rfl ?_
      refine J_iload_n C 1 dX4_told_17 rfl rfl ?_
      refine k_X4_isPlain C mw_564 dX4_told_18 ⟨Nat.le_of_ble_eq_true rfl, Nat.le_of_ble_eq_true rfl⟩ (Nat.le_of_ble_eq_true rfl) h (fun r_4 h => ?_)
      refine J_if_ne (tgt := 26) C dX4_told_21 (by decide) h (fun h => ?_) (fun h => ?_)
      · refine J_aload_n C 0 dX4_told_26 rfl rfl ?_
        refine G_md_rowFrom C mw_471 dX4_told_27 ?_
        refine J_iload_n C 1 dX4_told_30 rfl rfl ?_
        refine L_md_rowFrom C dX4_told_31 h (fun h => ?_)
        refine J_iload_n C 2 dX4_told_32 rfl rfl ?_
        refine J_iadd C dX4_told_33 ?_
        refine J_istore_n C [(3, .int ((md_rowFrom w_2 v1.toNatClampNeg) + v2)), (0, .ref (a 0)), (1, .int v1), (2, .int v2)] dX4_told_34 rfl (by decide) rfl ?_
        refine J_aload_n C 1 dX4_told_35 rfl rfl ?_
        refine J_lconst (v := (0 : Int64)) C dX4_told_36 (by decide) ?_
        refine S_md_value C mw_478 dX4_told_37 ?_
        refine J_aload_n C 1 dX4_told_40 rfl rfl ?_
        refine J_iload_n C 0 dX4_told_41 rfl rfl ?_
        refine J_aload_n C 1 dX4_told_42 rfl rfl ?_
        refine G_md_bestCode C mw_484 dX4_told_43 ?_
        refine k_X4_isMissing C mw_576 dX4_told_46 ⟨Nat.le_of_ble_eq_true rfl, Nat.le_of_ble_eq_true rfl⟩ (Nat.le_of_ble_eq_true rfl) h (fun r_5 h => ?_)
        refine J_if_ne (tgt := 70) C dX4_told_49 (by decide) h (fun h => ?_) (fun h => ?_)
        · refine J_iload_n C 0 dX4_told_70 rfl rfl ?_
          exact J_iret C dX4_told_71 h
        · refine J_aload_n C 1 dX4_told_52 rfl rfl ?_
          refine J_aload_n C 1 dX4_told_53 rfl rfl ?_
          refine G_md_bestForm C mw_483 dX4_told_54 ?_
          refine J_iload_n C 0 dX4_told_57 rfl rfl ?_
          refine J_aload_n C 1 dX4_told_58 rfl rfl ?_
          refine J_aload_n C 1 dX4_told_59 rfl rfl ?_
          refine G_md_bestCode C mw_484 dX4_told_60 ?_
          refine k_X4_firstOf C mw_573 dX4_told_63 ⟨Nat.le_of_ble_eq_true rfl, Nat.le_of_ble_eq_true rfl⟩ (Nat.le_of_ble_eq_true rfl) h (fun r_6 h => ?_)
          refine k_X4_tells C mw_587 dX4_told_66 ⟨Nat.le_of_ble_eq_true rfl, Nat.le_of_ble_eq_true rfl⟩ (Nat.le_of_ble_eq_true rfl) h (fun r_7 w_8 h => ?_)
          refine J_pop C dX4_told_69 rfl ?_
          refine J_iload_n C 0 dX4_told_70 rfl rfl ?_
          exact J_iret C dX4_told_71 h
      · refine J_iconst (v := (-1 : Int32)) C dX4_told_24 (by decide) ?_
        exact J_iret C dX4_told_25 h
theorem c_X4_told {l : Launch} {g : Gd} {a : Nat → Nat} {w : MW} {K : Int32 → MW → Prop} {v1 : Int32} {v2 : Int32} (h : P_X4_told K w v1 v2) : Kt l yX4_told cX4_told 4 (some .int) 10 224 g (sA 12 a) (mCl g a) [.ref (a 0), .int v1, .int v2] w (QcI g (sA 12 a) (mCl g a) K) :=
  Kt_of (by decide +kernel) (Nat.le_of_ble_eq_true rfl) (fun x hx C => s_X4_told C h)
theorem k_X4_told {x : Mx} {g : Gd} {a : Nat → Nat} {cc : ByteArray} {nL : Nat} {own : String} {ret : Option FieldType} {F L : Nat} {Q : State → Prop} {w : MW} {pc : Nat} {lv : List (Nat × Value)} {st : List Value} (C : Cx x g (sA 12 a) (mCl g a) cc nL own ret F L) {index : Nat} {K : Int32 → MW → Prop} {v1 : Int32} {v2 : Int32} (h1 : Cond.methodLink own index yX4_told ∈ gT) (hd : decode cc pc = .ok (.invokevirtual index, 3)) (hR : 10 + 1 ≤ F ∧ 8 + (4 + 11) + 224 ≤ L) (hst : (st.map fun v => v.category).sum ≤ 8) (h : P_X4_told K w v1 v2) (k : ∀ (r : Int32) (w' : MW), K r w' → J x g (sA 12 a) (mCl g a) nL Q w' (pc + 3) lv (.int r :: st)) : J x g (sA 12 a) (mCl g a) nL Q w (pc) lv (.int v2 :: .int v1 :: .ref (a 0) :: st) :=
  J_callVi C (As := [.int v1, .int v2]) (b := a 0) (n := 2) (c_X4_told h) h1 mw_717 mw_802 mw_6 mw_718 (by decide +kernel) hR rfl (rc_X4 C) hst hd k
-- X4_value (changes, room 11 247)
def P_X4_value (K : Int64 → MW → Prop) (w : MW) (v1 : Int32) (v2 : Int32) : Prop := P_X4_told (fun r_1 w_2 => (0 ≤ r_1 → K (md_value w_2) w_2) ∧ (¬ 0 ≤ r_1 → K (0 : Int64) w_2)) w v1 v2
set_option maxRecDepth 10000 in
theorem s_X4_value {x : Mx} {g : Gd} {a : Nat → Nat} (C : Cx x g (sA 12 a) (mCl g a) cX4_value 3 RX4 (some .long) 11 247) {K : Int64 → MW → Prop}  {w : MW} {v1 : Int32} {v2 : Int32} (h : P_X4_value K w v1 v2) : J x g (sA 12 a) (mCl g a) 3 (JQ x (sA 12 a) (QcL g (sA 12 a) (mCl g a) K)) w 0 [(0, .ref (a 0)), (1, .int v1), (2, .int v2)] [] := by
  unfold P_X4_value at h
  refine J_aload_n C 0 dX4_value_0 rfl rfl ?_
  refine J_iload_n C 1 dX4_value_1 rfl rfl ?_
  refine J_iload_n C 2 dX4_value_2 rfl rfl ?_
  refine k_X4_told C mw_716 dX4_value_3 ⟨Nat.le_of_ble_eq_true rfl, Nat.le_of_ble_eq_true rfl⟩ (Nat.le_of_ble_eq_true rfl) h (fun r_1 w_2 h => ?_)
  refine J_if_ge (tgt := 13) C dX4_value_6 (by decide) h (fun h => ?_) (fun h => ?_)
  · refine J_aload_n C 0 dX4_value_13 rfl rfl ?_
    refine G_md_value C mw_478 dX4_value_14 ?_
    exact J_lret C dX4_value_17 h
  · refine J_lconst (v := (0 : Int64)) C dX4_value_9 (by decide) ?_
    refine J_goto (tgt := 17) C dX4_value_10 (by decide) ?_
    exact J_lret C dX4_value_17 h
theorem c_X4_value {l : Launch} {g : Gd} {a : Nat → Nat} {w : MW} {K : Int64 → MW → Prop} {v1 : Int32} {v2 : Int32} (h : P_X4_value K w v1 v2) : Kt l yX4_value cX4_value 3 (some .long) 11 247 g (sA 12 a) (mCl g a) [.ref (a 0), .int v1, .int v2] w (QcL g (sA 12 a) (mCl g a) K) :=
  Kt_of (by decide +kernel) (Nat.le_of_ble_eq_true rfl) (fun x hx C => s_X4_value C h)
theorem k_X4_value {x : Mx} {g : Gd} {a : Nat → Nat} {cc : ByteArray} {nL : Nat} {own : String} {ret : Option FieldType} {F L : Nat} {Q : State → Prop} {w : MW} {pc : Nat} {lv : List (Nat × Value)} {st : List Value} (C : Cx x g (sA 12 a) (mCl g a) cc nL own ret F L) {index : Nat} {K : Int64 → MW → Prop} {v1 : Int32} {v2 : Int32} (h1 : Cond.methodLink own index yX4_value ∈ gT) (hd : decode cc pc = .ok (.invokevirtual index, 3)) (hR : 11 + 1 ≤ F ∧ 8 + (3 + 11) + 247 ≤ L) (hst : (st.map fun v => v.category).sum ≤ 8) (h : P_X4_value K w v1 v2) (k : ∀ (r : Int64) (w' : MW), K r w' → J x g (sA 12 a) (mCl g a) nL Q w' (pc + 3) lv (.long r :: st)) : J x g (sA 12 a) (mCl g a) nL Q w (pc) lv (.int v2 :: .int v1 :: .ref (a 0) :: st) :=
  J_callVl C (As := [.int v1, .int v2]) (b := a 0) (n := 2) (c_X4_value h) h1 mw_713 mw_714 mw_6 mw_715 (by decide +kernel) hR rfl (rc_X4 C) hst hd k
-- X4_write (changes, room 0 0)
def P_X4_write (K : MW → Prop) (w : MW) (v1 : Int32) : Prop := vp_in (md_outs w) 20 ∧ (K (md_outs_s (md_out_s w (upd (md_out w) (md_outs w).toNatClampNeg (vp_nar .byte (Int8.toInt32 (Int32.toInt8 v1))))) ((md_outs (md_out_s w (upd (md_out w) (md_outs w).toNatClampNeg (vp_nar .byte (Int8.toInt32 (Int32.toInt8 v1)))))) + (1 : Int32))))
set_option maxRecDepth 10000 in
theorem s_X4_write {x : Mx} {g : Gd} {a : Nat → Nat} (C : Cx x g (sA 12 a) (mCl g a) cX4_write 2 RX4 none 0 0) {K : MW → Prop}  {w : MW} {v1 : Int32} (h : P_X4_write K w v1) : J x g (sA 12 a) (mCl g a) 2 (JQ x (sA 12 a) (QcV g (sA 12 a) (mCl g a) K)) w 0 [(0, .ref (a 0)), (1, .int v1)] [] := by
  unfold P_X4_write at h
  refine J_aload_n C 0 dX4_write_0 rfl rfl ?_
  refine G_md_out C mw_486 dX4_write_1 ?_
  refine J_aload_n C 0 dX4_write_4 rfl rfl ?_
  refine G_md_outs C mw_487 dX4_write_5 ?_
  refine J_iload_n C 1 dX4_write_8 rfl rfl ?_
  refine J_i2b C dX4_write_9 ?_
  refine U_md_out C dX4_write_10 h (fun h => ?_)
  refine J_aload_n C 0 dX4_write_11 rfl rfl ?_
  refine J_dup C dX4_write_12 rfl ?_
  refine G_md_outs C mw_487 dX4_write_13 ?_
  refine J_iconst (v := (1 : Int32)) C dX4_write_16 (by decide) ?_
  refine J_iadd C dX4_write_17 ?_
  refine S_md_outs C mw_487 dX4_write_18 ?_
  exact J_vret C dX4_write_21 h
theorem c_X4_write {l : Launch} {g : Gd} {a : Nat → Nat} {w : MW} {K : MW → Prop} {v1 : Int32} (h : P_X4_write K w v1) : Kt l yX4_write cX4_write 2 none 0 0 g (sA 12 a) (mCl g a) [.ref (a 0), .int v1] w (QcV g (sA 12 a) (mCl g a) K) :=
  Kt_of (by decide +kernel) (Nat.le_of_ble_eq_true rfl) (fun x hx C => s_X4_write C h)
theorem k_X4_write {x : Mx} {g : Gd} {a : Nat → Nat} {cc : ByteArray} {nL : Nat} {own : String} {ret : Option FieldType} {F L : Nat} {Q : State → Prop} {w : MW} {pc : Nat} {lv : List (Nat × Value)} {st : List Value} (C : Cx x g (sA 12 a) (mCl g a) cc nL own ret F L) {index : Nat} {K : MW → Prop} {v1 : Int32} (h1 : Cond.methodLink own index yX4_write ∈ gT) (hd : decode cc pc = .ok (.invokevirtual index, 3)) (hR : 0 + 1 ≤ F ∧ 8 + (2 + 11) + 0 ≤ L) (hst : (st.map fun v => v.category).sum ≤ 8) (h : P_X4_write K w v1) (k : ∀  (w' : MW), K w' → J x g (sA 12 a) (mCl g a) nL Q w' (pc + 3) lv st) : J x g (sA 12 a) (mCl g a) nL Q w (pc) lv (.int v1 :: .ref (a 0) :: st) :=
  J_callVv C (As := [.int v1]) (b := a 0) (n := 1) (c_X4_write h) h1 mw_727 mw_804 mw_6 mw_728 (by decide +kernel) hR rfl (rc_X4 C) hst hd k
-- X4_writeWord (changes, room 4 85)
def P_X4_writeWord_2 (K : MW → Prop) (v1 : Nat) : Nat → MW → Int32 → Prop
  | 0, _, _ => False
  | n + 1, w, v2 => Ps_len (fun r_1 => (r_1 ≤ v2 → K w) ∧ (¬ r_1 ≤ v2 → Ps_chr (fun r_2 => P_X4_write (fun w_3 => P_X4_writeWord_2 K v1 n w_3 (v2 + (1 : Int32))) w r_2) v1 v2)) v1
set_option maxRecDepth 10000 in
theorem s_X4_writeWord_2 {x : Mx} {g : Gd} {a : Nat → Nat} (C : Cx x g (sA 12 a) (mCl g a) cX4_writeWord 3 RX4 none 4 85) {K : MW → Prop}  {v1 : Nat} : ∀ (n : Nat) (w : MW) (v2 : Int32), P_X4_writeWord_2 K v1 n w v2 → J x g (sA 12 a) (mCl g a) 3 (JQ x (sA 12 a) (QcV g (sA 12 a) (mCl g a) K)) w 2 [(0, .ref (a 0)), (1, .ref (g.2.2.1 v1)), (2, .int v2)] [] := by
  intro n
  induction n with
  | zero => intro w v2 h; exact h.elim
  | succ n ih =>
    intro w v2 h
    unfold P_X4_writeWord_2 at h
    refine J_iload_n C 2 dX4_writeWord_2 rfl rfl ?_
    refine J_aload_n C 1 dX4_writeWord_3 rfl rfl ?_
    refine k_J0_length_8abf5 C mw_582 dX4_writeWord_4 ⟨Nat.le_of_ble_eq_true rfl, Nat.le_of_ble_eq_true rfl⟩ (Nat.le_of_ble_eq_true rfl) h (fun r_1 h => ?_)
    refine J_icmp_ge (tgt := 25) C dX4_writeWord_7 (by decide) h (fun h => ?_) (fun h => ?_)
    · exact J_vret C dX4_writeWord_25 h
    · refine J_aload_n C 0 dX4_writeWord_10 rfl rfl ?_
      refine J_aload_n C 1 dX4_writeWord_11 rfl rfl ?_
      refine J_iload_n C 2 dX4_writeWord_12 rfl rfl ?_
      refine k_J0_charAt_5068e C mw_586 dX4_writeWord_13 ⟨Nat.le_of_ble_eq_true rfl, Nat.le_of_ble_eq_true rfl⟩ (Nat.le_of_ble_eq_true rfl) h (fun r_2 h => ?_)
      refine k_X4_write C mw_726 dX4_writeWord_16 ⟨Nat.le_of_ble_eq_true rfl, Nat.le_of_ble_eq_true rfl⟩ (Nat.le_of_ble_eq_true rfl) h (fun w_3 h => ?_)
      refine J_iinc C 2 [(2, .int (v2 + (1 : Int32))), (0, .ref (a 0)), (1, .ref (g.2.2.1 v1))] dX4_writeWord_19 rfl rfl (by decide) rfl ?_
      refine J_goto (tgt := 2) C dX4_writeWord_22 (by decide) ?_
      refine J_lv [1, 2, 0] rfl ?_
      exact ih _ _ h
def P_X4_writeWord (K : MW → Prop) (w : MW) (v1 : Nat) : Prop := ∃ nf : Nat, P_X4_writeWord_2 K v1 nf w (0 : Int32)
set_option maxRecDepth 10000 in
theorem s_X4_writeWord {x : Mx} {g : Gd} {a : Nat → Nat} (C : Cx x g (sA 12 a) (mCl g a) cX4_writeWord 3 RX4 none 4 85) {K : MW → Prop}  {w : MW} {v1 : Nat} (h : P_X4_writeWord K w v1) : J x g (sA 12 a) (mCl g a) 3 (JQ x (sA 12 a) (QcV g (sA 12 a) (mCl g a) K)) w 0 [(0, .ref (a 0)), (1, .ref (g.2.2.1 v1))] [] := by
  unfold P_X4_writeWord at h
  refine J_iconst (v := (0 : Int32)) C dX4_writeWord_0 (by decide) ?_
  refine J_istore_n C [(2, .int (0 : Int32)), (0, .ref (a 0)), (1, .ref (g.2.2.1 v1))] dX4_writeWord_1 rfl (by decide) rfl ?_
  obtain ⟨nf, h⟩ := h
  refine J_lv [1, 2, 0] rfl ?_
  refine s_X4_writeWord_2 C  nf _ _ h
theorem c_X4_writeWord {l : Launch} {g : Gd} {a : Nat → Nat} {w : MW} {K : MW → Prop} {v1 : Nat} (h : P_X4_writeWord K w v1) : Kt l yX4_writeWord cX4_writeWord 3 none 4 85 g (sA 12 a) (mCl g a) [.ref (a 0), .ref (g.2.2.1 v1)] w (QcV g (sA 12 a) (mCl g a) K) :=
  Kt_of (by decide +kernel) (Nat.le_of_ble_eq_true rfl) (fun x hx C => s_X4_writeWord C h)
theorem k_X4_writeWord {x : Mx} {g : Gd} {a : Nat → Nat} {cc : ByteArray} {nL : Nat} {own : String} {ret : Option FieldType} {F L : Nat} {Q : State → Prop} {w : MW} {pc : Nat} {lv : List (Nat × Value)} {st : List Value} (C : Cx x g (sA 12 a) (mCl g a) cc nL own ret F L) {index : Nat} {K : MW → Prop} {v1 : Nat} (h1 : Cond.methodLink own index yX4_writeWord ∈ gT) (hd : decode cc pc = .ok (.invokevirtual index, 3)) (hR : 4 + 1 ≤ F ∧ 8 + (3 + 11) + 85 ≤ L) (hst : (st.map fun v => v.category).sum ≤ 8) (h : P_X4_writeWord K w v1) (k : ∀  (w' : MW), K w' → J x g (sA 12 a) (mCl g a) nL Q w' (pc + 3) lv st) : J x g (sA 12 a) (mCl g a) nL Q w (pc) lv (.ref (g.2.2.1 v1) :: .ref (a 0) :: st) :=
  J_callVv C (As := [.ref (g.2.2.1 v1)]) (b := a 0) (n := 1) (c_X4_writeWord h) h1 mw_724 mw_803 mw_6 mw_725 (by decide +kernel) hR rfl (rc_X4 C) hst hd k
-- X4_tens (pure, room 0 0)
def P_X4_tens_4 (K : Int64 → Prop) (v0 : Int32) : Nat → Int64 → Int32 → Prop
  | 0, _, _ => False
  | n + 1, v1, v3 => (v0 ≤ v3 → K v1) ∧ (¬ v0 ≤ v3 → P_X4_tens_4 K v0 n (v1 * (10 : Int64)) (v3 + (1 : Int32)))
set_option maxRecDepth 10000 in
theorem s_X4_tens_4 {x : Mx} {g : Gd} {Wd : Type} {A : Nat → Prop} {cl : Wd → va_W} (C : Cx x g A cl cX4_tens 4 RX4 (some .long) 0 0) {K : Int64 → Prop} {w : Wd}  {v0 : Int32} : ∀ (n : Nat) (v1 : Int64) (v3 : Int32), P_X4_tens_4 K v0 n v1 v3 → J x g A cl 4 (JQ x A (QcL g A cl (fun r w' => K r ∧ w' = w))) w 4 [(0, .int v0), (1, .long v1), (3, .int v3)] [] := by
  intro n
  induction n with
  | zero => intro v1 v3 h; exact h.elim
  | succ n ih =>
    intro v1 v3 h
    unfold P_X4_tens_4 at h
    refine J_iload_n C 2 dX4_tens_4 rfl rfl ?_
    refine J_iload_n C 0 dX4_tens_5 rfl rfl ?_
    refine J_icmp_ge (tgt := 21) C dX4_tens_6 (by decide) h (fun h => ?_) (fun h => ?_)
    · refine J_lload_n C 1 dX4_tens_21 rfl rfl ?_
      exact J_lret C dX4_tens_22 ⟨h, rfl⟩
    · refine J_lload_n C 1 dX4_tens_9 rfl rfl ?_
      refine J_ldc2 (v := (10 : Int64)) C mw_614 dX4_tens_10 ?_
      refine J_lmul C dX4_tens_13 ?_
      refine J_lstore_n C [(1, .long (v1 * (10 : Int64))), (0, .int v0), (3, .int v3)] dX4_tens_14 rfl (by decide) rfl ?_
      refine J_iinc C 2 [(3, .int (v3 + (1 : Int32))), (1, .long (v1 * (10 : Int64))), (0, .int v0)] dX4_tens_15 rfl rfl (by decide) rfl ?_
      refine J_goto (tgt := 4) C dX4_tens_18 (by decide) ?_
      refine J_lv [2, 1, 0] rfl ?_
      exact ih _ _ h
def P_X4_tens (K : Int64 → Prop) (v0 : Int32) : Prop := ∃ nf : Nat, P_X4_tens_4 K v0 nf (1 : Int64) (0 : Int32)
set_option maxRecDepth 10000 in
theorem s_X4_tens {x : Mx} {g : Gd} {Wd : Type} {A : Nat → Prop} {cl : Wd → va_W} (C : Cx x g A cl cX4_tens 4 RX4 (some .long) 0 0) {K : Int64 → Prop} {w : Wd}  {v0 : Int32} (h : P_X4_tens K v0) : J x g A cl 4 (JQ x A (QcL g A cl (fun r w' => K r ∧ w' = w))) w 0 [(0, .int v0)] [] := by
  unfold P_X4_tens at h
  refine J_lconst (v := (1 : Int64)) C dX4_tens_0 (by decide) ?_
  refine J_lstore_n C [(1, .long (1 : Int64)), (0, .int v0)] dX4_tens_1 rfl (by decide) rfl ?_
  refine J_iconst (v := (0 : Int32)) C dX4_tens_2 (by decide) ?_
  refine J_istore_n C [(3, .int (0 : Int32)), (1, .long (1 : Int64)), (0, .int v0)] dX4_tens_3 rfl (by decide) rfl ?_
  obtain ⟨nf, h⟩ := h
  refine J_lv [2, 1, 0] rfl ?_
  refine s_X4_tens_4 C  nf _ _ h
theorem c_X4_tens {l : Launch} {g : Gd} {Wd : Type} {A : Nat → Prop} {cl : Wd → va_W} {w : Wd} {K : Int64 → Prop} {v0 : Int32} (h : P_X4_tens K v0) : Kt l yX4_tens cX4_tens 4 (some .long) 0 0 g A cl [.int v0] w (QcL g A cl (fun r w' => K r ∧ w' = w)) :=
  Kt_of (by decide +kernel) (Nat.le_of_ble_eq_true rfl) (fun x hx C => s_X4_tens C h)
theorem k_X4_tens {x : Mx} {g : Gd} {Wd : Type} {A : Nat → Prop} {cl : Wd → va_W} {cc : ByteArray} {nL : Nat} {own : String} {ret : Option FieldType} {F L : Nat} {Q : State → Prop} {w : Wd} {pc : Nat} {lv : List (Nat × Value)} {st : List Value} (C : Cx x g A cl cc nL own ret F L) {index : Nat} {K : Int64 → Prop} {v0 : Int32} (h1 : Cond.methodLink own index yX4_tens ∈ gT) (hd : decode cc pc = .ok (.invokestatic index, 3)) (hR : 0 + 1 ≤ F ∧ 8 + (4 + 11) + 0 ≤ L) (hst : (st.map fun v => v.category).sum ≤ 8) (h : P_X4_tens K v0) (k : ∀ (r : Int64), K r → J x g A cl nL Q w (pc + 3) lv (.long r :: st)) : J x g A cl nL Q w (pc) lv (.int v0 :: st) :=
  J_callSl C (As := [.int v0]) (n := 1) (c_X4_tens h) h1 mw_733 mw_6 mw_734 (by decide +kernel) hR rfl hst hd (fun r w' hK => by
    obtain ⟨hK, rfl⟩ := hK
    exact k r hK)
-- X4_writeNumber (changes, room 1 23)
def P_X4_writeNumber_35 (K : MW → Prop) (E51 : MW → Int32 → Prop) (v1 : Int32) (v2 : Int64) : Nat → MW → Int32 → Prop
  | 0, _, _ => False
  | n + 1, w, v4 => P_X4_tens (fun r_2 => ((lg_cmp v2 r_2) < 0 → E51 w v4) ∧ (¬ (lg_cmp v2 r_2) < 0 → P_X4_writeNumber_35 K E51 v1 v2 n w (v4 + (1 : Int32)))) v4
set_option maxRecDepth 10000 in
theorem s_X4_writeNumber_35 {x : Mx} {g : Gd} {a : Nat → Nat} (C : Cx x g (sA 12 a) (mCl g a) cX4_writeNumber 7 RX4 none 1 23) {K : MW → Prop}  {v1 : Int32} {v2 : Int64} {E51 : MW → Int32 → Prop} (hE51 : ∀ (w : MW) (v4 : Int32), E51 w v4 → J x g (sA 12 a) (mCl g a) 7 (JQ x (sA 12 a) (QcV g (sA 12 a) (mCl g a) K)) w 51 [(0, .ref (a 0)), (1, .int v1), (2, .long v2), (4, .int v4)] []) : ∀ (n : Nat) (w : MW) (v4 : Int32), P_X4_writeNumber_35 K E51 v1 v2 n w v4 → J x g (sA 12 a) (mCl g a) 7 (JQ x (sA 12 a) (QcV g (sA 12 a) (mCl g a) K)) w 35 [(0, .ref (a 0)), (1, .int v1), (2, .long v2), (4, .int v4)] [] := by
  intro n
  induction n with
  | zero => intro w v4 h; exact h.elim
  | succ n ih =>
    intro w v4 h
    unfold P_X4_writeNumber_35 at h
    refine J_lload_n C 2 dX4_writeNumber_35 rfl rfl ?_
    refine J_iload C 3 dX4_writeNumber_36 rfl ?_
    refine k_X4_tens C mw_732 dX4_writeNumber_38 ⟨Nat.le_of_ble_eq_true rfl, Nat.le_of_ble_eq_true rfl⟩ (Nat.le_of_ble_eq_true rfl) h (fun r_2 h => ?_)
    refine J_lcmp C dX4_writeNumber_41 ?_
    refine J_if_lt (tgt := 51) C dX4_writeNumber_42 (by decide) h (fun h => ?_) (fun h => ?_)
    · refine J_lv [0, 1, 2, 3] rfl ?_
      exact hE51 _ _ h
    · refine J_iinc C 3 [(4, .int (v4 + (1 : Int32))), (0, .ref (a 0)), (1, .int v1), (2, .long v2)] dX4_writeNumber_45 rfl rfl (by decide) rfl ?_
      refine J_goto (tgt := 35) C dX4_writeNumber_48 (by decide) ?_
      refine J_lv [1, 2, 3, 0] rfl ?_
      exact ih _ _ h
def P_X4_writeNumber_149 (K : MW → Prop) (B72 : MW → Int32 → Prop) (w : MW) (v1 : Int32) (v2 : Int64) (v4 : Int32) (v5 : Int32) : Prop := P_X4_tens (fun r_6 => ¬ r_6 = 0 ∧ (P_X4_write (fun w_7 => B72 w_7 (v5 + (-1 : Int32))) w (Int64.toInt32 ((48 : Int64) + ((v2 / r_6) - (v2 / r_6) / (10 : Int64) * (10 : Int64)))))) v5
set_option maxRecDepth 10000 in
theorem s_X4_writeNumber_149 {x : Mx} {g : Gd} {a : Nat → Nat} (C : Cx x g (sA 12 a) (mCl g a) cX4_writeNumber 7 RX4 none 1 23) {K : MW → Prop}  {v1 : Int32} {v2 : Int64} {v4 : Int32} {v5 : Int32} {B72 : MW → Int32 → Prop} (hB72 : ∀ (w : MW) (v5 : Int32), B72 w v5 → J x g (sA 12 a) (mCl g a) 7 (JQ x (sA 12 a) (QcV g (sA 12 a) (mCl g a) K)) w 72 [(0, .ref (a 0)), (1, .int v1), (2, .long v2), (4, .int v4), (5, .int v5)] []) {w : MW} (h : P_X4_writeNumber_149 K B72 w v1 v2 v4 v5) : J x g (sA 12 a) (mCl g a) 7 (JQ x (sA 12 a) (QcV g (sA 12 a) (mCl g a) K)) w 149 [(0, .ref (a 0)), (1, .int v1), (2, .long v2), (4, .int v4), (5, .int v5)] [] := by
  unfold P_X4_writeNumber_149 at h
  refine J_aload_n C 0 dX4_writeNumber_149 rfl rfl ?_
  refine J_ldc2 (v := (48 : Int64)) C mw_615 dX4_writeNumber_150 ?_
  refine J_lload_n C 2 dX4_writeNumber_153 rfl rfl ?_
  refine J_iload C 4 dX4_writeNumber_154 rfl ?_
  refine k_X4_tens C mw_732 dX4_writeNumber_156 ⟨Nat.le_of_ble_eq_true rfl, Nat.le_of_ble_eq_true rfl⟩ (Nat.le_of_ble_eq_true rfl) h (fun r_6 h => ?_)
  refine J_ldiv C dX4_writeNumber_159 h.1 ?_
  replace h := h.2
  refine J_ldc2 (v := (10 : Int64)) C mw_614 dX4_writeNumber_160 ?_
  refine J_lrem C dX4_writeNumber_163 (by decide) ?_
  refine J_ladd C dX4_writeNumber_164 ?_
  refine J_l2i C dX4_writeNumber_165 ?_
  refine k_X4_write C mw_726 dX4_writeNumber_166 ⟨Nat.le_of_ble_eq_true rfl, Nat.le_of_ble_eq_true rfl⟩ (Nat.le_of_ble_eq_true rfl) h (fun w_7 h => ?_)
  refine J_iinc C 4 [(5, .int (v5 + (-1 : Int32))), (0, .ref (a 0)), (1, .int v1), (2, .long v2), (4, .int v4)] dX4_writeNumber_169 rfl rfl (by decide) rfl ?_
  refine J_goto (tgt := 72) C dX4_writeNumber_172 (by decide) ?_
  refine J_lv [1, 2, 3, 4, 0] rfl ?_
  exact hB72 _ _ h
def P_X4_writeNumber_100 (K : MW → Prop) (B72 : MW → Int32 → Prop) (w : MW) (v1 : Int32) (v2 : Int64) (v4 : Int32) (v5 : Int32) : Prop := P_X4_thousandsOf (fun r_5 => (r_5 < 0 → P_X4_writeNumber_149 K B72 w v1 v2 v4 v5) ∧ (¬ r_5 < 0 → ((v5 - v1) < 0 → P_X4_writeNumber_149 K B72 w v1 v2 v4 v5) ∧ (¬ (v5 - v1) < 0 → (¬ ((v5 - v1) - (v5 - v1) / (3 : Int32) * (3 : Int32)) = (2 : Int32) → P_X4_writeNumber_149 K B72 w v1 v2 v4 v5) ∧ (((v5 - v1) - (v5 - v1) / (3 : Int32) * (3 : Int32)) = (2 : Int32) → ((v4 - (1 : Int32)) ≤ v5 → P_X4_writeNumber_149 K B72 w v1 v2 v4 v5) ∧ (¬ (v4 - (1 : Int32)) ≤ v5 → P_X4_thousandsOf (fun r_8 => P_X4_write (fun w_9 => P_X4_writeNumber_149 K B72 w_9 v1 v2 v4 v5) w r_8) (md_bestForm w)))))) (md_bestForm w)
set_option maxRecDepth 10000 in
theorem s_X4_writeNumber_100 {x : Mx} {g : Gd} {a : Nat → Nat} (C : Cx x g (sA 12 a) (mCl g a) cX4_writeNumber 7 RX4 none 1 23) {K : MW → Prop}  {v1 : Int32} {v2 : Int64} {v4 : Int32} {v5 : Int32} {B72 : MW → Int32 → Prop} (hB72 : ∀ (w : MW) (v5 : Int32), B72 w v5 → J x g (sA 12 a) (mCl g a) 7 (JQ x (sA 12 a) (QcV g (sA 12 a) (mCl g a) K)) w 72 [(0, .ref (a 0)), (1, .int v1), (2, .long v2), (4, .int v4), (5, .int v5)] []) {w : MW} (h : P_X4_writeNumber_100 K B72 w v1 v2 v4 v5) : J x g (sA 12 a) (mCl g a) 7 (JQ x (sA 12 a) (QcV g (sA 12 a) (mCl g a) K)) w 100 [(0, .ref (a 0)), (1, .int v1), (2, .long v2), (4, .int v4), (5, .int v5)] [] := by
  unfold P_X4_writeNumber_100 at h
  refine J_iload C 4 dX4_writeNumber_100 rfl ?_
  refine J_iload_n C 1 dX4_writeNumber_102 rfl rfl ?_
  refine J_isub C dX4_writeNumber_103 ?_
  refine J_istore C [(6, .int (v5 - v1)), (0, .ref (a 0)), (1, .int v1), (2, .long v2), (4, .int v4), (5, .int v5)] dX4_writeNumber_104 (by decide) rfl ?_
  refine J_aload_n C 1 dX4_writeNumber_106 rfl rfl ?_
  refine G_md_bestForm C mw_483 dX4_writeNumber_107 ?_
  refine k_X4_thousandsOf C mw_605 dX4_writeNumber_110 ⟨Nat.le_of_ble_eq_true rfl, Nat.le_of_ble_eq_true rfl⟩ (Nat.le_of_ble_eq_true rfl) h (fun r_5 h => ?_)
  refine J_if_lt (tgt := 149) C dX4_writeNumber_113 (by decide) h (fun h => ?_) (fun h => ?_)
  · refine J_lv [1, 2, 3, 4, 5] rfl ?_
    exact s_X4_writeNumber_149 C hB72 h
  · refine J_iload C 0 dX4_writeNumber_116 rfl ?_
    refine J_if_lt (tgt := 149) C dX4_writeNumber_118 (by decide) h (fun h => ?_) (fun h => ?_)
    · refine J_lv [1, 2, 3, 4, 5] rfl ?_
      exact s_X4_writeNumber_149 C hB72 h
    · refine J_iload C 0 dX4_writeNumber_121 rfl ?_
      refine J_iconst (v := (3 : Int32)) C dX4_writeNumber_123 (by decide) ?_
      refine J_irem C dX4_writeNumber_124 (by decide) ?_
      refine J_iconst (v := (2 : Int32)) C dX4_writeNumber_125 (by decide) ?_
      refine J_icmp_ne (tgt := 149) C dX4_writeNumber_126 (by decide) h (fun h => ?_) (fun h => ?_)
      · refine J_lv [1, 2, 3, 4, 5] rfl ?_
        exact s_X4_writeNumber_149 C hB72 h
      · refine J_iload C 5 dX4_writeNumber_129 rfl ?_
        refine J_iload C 4 dX4_writeNumber_131 rfl ?_
        refine J_iconst (v := (1 : Int32)) C dX4_writeNumber_133 (by decide) ?_
        refine J_isub C dX4_writeNumber_134 ?_
        refine J_icmp_ge (tgt := 149) C dX4_writeNumber_135 (by decide) h (fun h => ?_) (fun h => ?_)
        · refine J_lv [1, 2, 3, 4, 5] rfl ?_
          exact s_X4_writeNumber_149 C hB72 h
        · refine J_aload_n C 1 dX4_writeNumber_138 rfl rfl ?_
          refine J_aload_n C 1 dX4_writeNumber_139 rfl rfl ?_
          refine G_md_bestForm C mw_483 dX4_writeNumber_140 ?_
          refine k_X4_thousandsOf C mw_605 dX4_writeNumber_143 ⟨Nat.le_of_ble_eq_true rfl, Nat.le_of_ble_eq_true rfl⟩ (Nat.le_of_ble_eq_true rfl) h (fun r_8 h => ?_)
          refine k_X4_write C mw_726 dX4_writeNumber_146 ⟨Nat.le_of_ble_eq_true rfl, Nat.le_of_ble_eq_true rfl⟩ (Nat.le_of_ble_eq_true rfl) h (fun w_9 h => ?_)
          refine J_lv [1, 2, 3, 4, 5] rfl ?_
          exact s_X4_writeNumber_149 C hB72 h
def P_X4_writeNumber_72 (K : MW → Prop) (v1 : Int32) (v2 : Int64) (v4 : Int32) : Nat → MW → Int32 → Prop
  | 0, _, _ => False
  | n + 1, w, v5 => (v5 < 0 → K w) ∧ (¬ v5 < 0 → (v1 ≤ 0 → P_X4_writeNumber_100 K (P_X4_writeNumber_72 K v1 v2 v4 n) w v1 v2 v4 v5) ∧ (¬ v1 ≤ 0 → (¬ v5 = (v1 - (1 : Int32)) → P_X4_writeNumber_100 K (P_X4_writeNumber_72 K v1 v2 v4 n) w v1 v2 v4 v5) ∧ (v5 = (v1 - (1 : Int32)) → P_X4_pointOf (fun r_10 => P_X4_write (fun w_11 => P_X4_writeNumber_100 K (P_X4_writeNumber_72 K v1 v2 v4 n) w_11 v1 v2 v4 v5) w r_10) (md_bestForm w))))
set_option maxRecDepth 10000 in
theorem s_X4_writeNumber_72 {x : Mx} {g : Gd} {a : Nat → Nat} (C : Cx x g (sA 12 a) (mCl g a) cX4_writeNumber 7 RX4 none 1 23) {K : MW → Prop}  {v1 : Int32} {v2 : Int64} {v4 : Int32} : ∀ (n : Nat) (w : MW) (v5 : Int32), P_X4_writeNumber_72 K v1 v2 v4 n w v5 → J x g (sA 12 a) (mCl g a) 7 (JQ x (sA 12 a) (QcV g (sA 12 a) (mCl g a) K)) w 72 [(0, .ref (a 0)), (1, .int v1), (2, .long v2), (4, .int v4), (5, .int v5)] [] := by
  intro n
  induction n with
  | zero => intro w v5 h; exact h.elim
  | succ n ih =>
    intro w v5 h
    unfold P_X4_writeNumber_72 at h
    refine J_iload C 4 dX4_writeNumber_72 rfl ?_
    refine J_if_lt (tgt := 175) C dX4_writeNumber_74 (by decide) h (fun h => ?_) (fun h => ?_)
    · exact J_vret C dX4_writeNumber_175 h
    · refine J_iload_n C 1 dX4_writeNumber_77 rfl rfl ?_
      refine J_if_le (tgt := 100) C dX4_writeNumber_78 (by decide) h (fun h => ?_) (fun h => ?_)
      · refine J_lv [0, 1, 2, 3, 4] rfl ?_
        exact s_X4_writeNumber_100 C ih h
      · refine J_iload C 4 dX4_writeNumber_81 rfl ?_
        refine J_iload_n C 1 dX4_writeNumber_83 rfl rfl ?_
        refine J_iconst (v := (1 : Int32)) C dX4_writeNumber_84 (by decide) ?_
        refine J_isub C dX4_writeNumber_85 ?_
        refine J_icmp_ne (tgt := 100) C dX4_writeNumber_86 (by decide) h (fun h => ?_) (fun h => ?_)
        · refine J_lv [0, 1, 2, 3, 4] rfl ?_
          exact s_X4_writeNumber_100 C ih h
        · refine J_aload_n C 0 dX4_writeNumber_89 rfl rfl ?_
          refine J_aload_n C 0 dX4_writeNumber_90 rfl rfl ?_
          refine G_md_bestForm C mw_483 dX4_writeNumber_91 ?_
          refine k_X4_pointOf C mw_602 dX4_writeNumber_94 ⟨Nat.le_of_ble_eq_true rfl, Nat.le_of_ble_eq_true rfl⟩ (Nat.le_of_ble_eq_true rfl) h (fun r_10 h => ?_)
          refine k_X4_write C mw_726 dX4_writeNumber_97 ⟨Nat.le_of_ble_eq_true rfl, Nat.le_of_ble_eq_true rfl⟩ (Nat.le_of_ble_eq_true rfl) h (fun w_11 h => ?_)
          refine J_lv [0, 1, 2, 3, 4] rfl ?_
          exact s_X4_writeNumber_100 C ih h
def P_X4_writeNumber_66 (K : MW → Prop) (w : MW) (v1 : Int32) (v2 : Int64) (v4 : Int32) : Prop := ∃ nf : Nat, P_X4_writeNumber_72 K v1 v2 v4 nf w (v4 - (1 : Int32))
set_option maxRecDepth 10000 in
theorem s_X4_writeNumber_66 {x : Mx} {g : Gd} {a : Nat → Nat} (C : Cx x g (sA 12 a) (mCl g a) cX4_writeNumber 7 RX4 none 1 23) {K : MW → Prop}  {v1 : Int32} {v2 : Int64} {v4 : Int32} {w : MW} (h : P_X4_writeNumber_66 K w v1 v2 v4) : J x g (sA 12 a) (mCl g a) 7 (JQ x (sA 12 a) (QcV g (sA 12 a) (mCl g a) K)) w 66 [(0, .ref (a 0)), (1, .int v1), (2, .long v2), (4, .int v4)] [] := by
  unfold P_X4_writeNumber_66 at h
  refine J_iload C 3 dX4_writeNumber_66 rfl ?_
  refine J_iconst (v := (1 : Int32)) C dX4_writeNumber_68 (by decide) ?_
  refine J_isub C dX4_writeNumber_69 ?_
  refine J_istore C [(5, .int (v4 - (1 : Int32))), (0, .ref (a 0)), (1, .int v1), (2, .long v2), (4, .int v4)] dX4_writeNumber_70 (by decide) rfl ?_
  obtain ⟨nf, h⟩ := h
  refine J_lv [1, 2, 3, 4, 0] rfl ?_
  refine s_X4_writeNumber_72 C  nf _ _ h
def P_X4_writeNumber_29 (K : MW → Prop) (w : MW) (v1 : Int32) (s0 : Int64) : Prop := ∃ nf : Nat, P_X4_writeNumber_35 K (fun w_3 v4_4 => (0 ≤ (lg_cmp (md_value w_3) (0 : Int64)) → P_X4_writeNumber_66 K w_3 v1 s0 v4_4) ∧ (¬ 0 ≤ (lg_cmp (md_value w_3) (0 : Int64)) → P_X4_write (fun w_12 => P_X4_writeNumber_66 K w_12 v1 s0 v4_4) w_3 (45 : Int32))) v1 s0 nf w (v1 + (1 : Int32))
set_option maxRecDepth 10000 in
theorem s_X4_writeNumber_29 {x : Mx} {g : Gd} {a : Nat → Nat} (C : Cx x g (sA 12 a) (mCl g a) cX4_writeNumber 7 RX4 none 1 23) {K : MW → Prop}  {v1 : Int32} {s0 : Int64} {w : MW} (h : P_X4_writeNumber_29 K w v1 s0) : J x g (sA 12 a) (mCl g a) 7 (JQ x (sA 12 a) (QcV g (sA 12 a) (mCl g a) K)) w 29 [(0, .ref (a 0)), (1, .int v1)] [.long s0] := by
  unfold P_X4_writeNumber_29 at h
  refine J_lstore_n C [(2, .long s0), (0, .ref (a 0)), (1, .int v1)] dX4_writeNumber_29 rfl (by decide) rfl ?_
  refine J_iload_n C 2 dX4_writeNumber_30 rfl rfl ?_
  refine J_iconst (v := (1 : Int32)) C dX4_writeNumber_31 (by decide) ?_
  refine J_iadd C dX4_writeNumber_32 ?_
  refine J_istore C [(4, .int (v1 + (1 : Int32))), (2, .long s0), (0, .ref (a 0)), (1, .int v1)] dX4_writeNumber_33 (by decide) rfl ?_
  obtain ⟨nf, h⟩ := h
  refine J_lv [2, 3, 1, 0] rfl ?_
  refine s_X4_writeNumber_35 C (fun w_3 v4_4 h => ?_) nf _ _ h
  · refine J_aload_n C 0 dX4_writeNumber_51 rfl rfl ?_
    refine G_md_value C mw_478 dX4_writeNumber_52 ?_
    refine J_lconst (v := (0 : Int64)) C dX4_writeNumber_55 (by decide) ?_
    refine J_lcmp C dX4_writeNumber_56 ?_
    refine J_if_ge (tgt := 66) C dX4_writeNumber_57 (by decide) h (fun h => ?_) (fun h => ?_)
    · refine J_lv [0, 1, 2, 3] rfl ?_
      exact s_X4_writeNumber_66 C h
    · refine J_aload_n C 0 dX4_writeNumber_60 rfl rfl ?_
      refine J_bipush (v := (45 : Int32)) C dX4_writeNumber_61 (by decide) ?_
      refine k_X4_write C mw_726 dX4_writeNumber_63 ⟨Nat.le_of_ble_eq_true rfl, Nat.le_of_ble_eq_true rfl⟩ (Nat.le_of_ble_eq_true rfl) h (fun w_12 h => ?_)
      refine J_lv [0, 1, 2, 3] rfl ?_
      exact s_X4_writeNumber_66 C h
def P_X4_writeNumber (K : MW → Prop) (w : MW) : Prop := P_X4_decimals (fun r_1 => (0 ≤ (lg_cmp (md_value w) (0 : Int64)) → P_X4_writeNumber_29 K w r_1 (md_value w)) ∧ (¬ 0 ≤ (lg_cmp (md_value w) (0 : Int64)) → P_X4_writeNumber_29 K w r_1 (-(md_value w)))) (md_bestForm w)
set_option maxRecDepth 10000 in
theorem s_X4_writeNumber {x : Mx} {g : Gd} {a : Nat → Nat} (C : Cx x g (sA 12 a) (mCl g a) cX4_writeNumber 7 RX4 none 1 23) {K : MW → Prop}  {w : MW} (h : P_X4_writeNumber K w) : J x g (sA 12 a) (mCl g a) 7 (JQ x (sA 12 a) (QcV g (sA 12 a) (mCl g a) K)) w 0 [(0, .ref (a 0))] [] := by
  unfold P_X4_writeNumber at h
  refine J_aload_n C 0 dX4_writeNumber_0 rfl rfl ?_
  refine G_md_bestForm C mw_483 dX4_writeNumber_1 ?_
  refine k_X4_decimals C mw_599 dX4_writeNumber_4 ⟨Nat.le_of_ble_eq_true rfl, Nat.le_of_ble_eq_true rfl⟩ (Nat.le_of_ble_eq_true rfl) h (fun r_1 h => ?_)
  refine J_istore_n C [(1, .int r_1), (0, .ref (a 0))] dX4_writeNumber_7 rfl (by decide) rfl ?_
  refine J_aload_n C 1 dX4_writeNumber_8 rfl rfl ?_
  refine G_md_value C mw_478 dX4_writeNumber_9 ?_
  refine J_lconst (v := (0 : Int64)) C dX4_writeNumber_12 (by decide) ?_
  refine J_lcmp C dX4_writeNumber_13 ?_
  refine J_if_ge (tgt := 25) C dX4_writeNumber_14 (by decide) h (fun h => ?_) (fun h => ?_)
  · refine J_aload_n C 1 dX4_writeNumber_25 rfl rfl ?_
    refine G_md_value C mw_478 dX4_writeNumber_26 ?_
    refine J_lv [1, 0] rfl ?_
    exact s_X4_writeNumber_29 C h
  · refine J_aload_n C 1 dX4_writeNumber_17 rfl rfl ?_
    refine G_md_value C mw_478 dX4_writeNumber_18 ?_
    refine J_lneg C dX4_writeNumber_21 ?_
    refine J_goto (tgt := 29) C dX4_writeNumber_22 (by decide) ?_
    refine J_lv [1, 0] rfl ?_
    exact s_X4_writeNumber_29 C h
theorem c_X4_writeNumber {l : Launch} {g : Gd} {a : Nat → Nat} {w : MW} {K : MW → Prop} (h : P_X4_writeNumber K w) : Kt l yX4_writeNumber cX4_writeNumber 7 none 1 23 g (sA 12 a) (mCl g a) [.ref (a 0)] w (QcV g (sA 12 a) (mCl g a) K) :=
  Kt_of (by decide +kernel) (Nat.le_of_ble_eq_true rfl) (fun x hx C => s_X4_writeNumber C h)
theorem k_X4_writeNumber {x : Mx} {g : Gd} {a : Nat → Nat} {cc : ByteArray} {nL : Nat} {own : String} {ret : Option FieldType} {F L : Nat} {Q : State → Prop} {w : MW} {pc : Nat} {lv : List (Nat × Value)} {st : List Value} (C : Cx x g (sA 12 a) (mCl g a) cc nL own ret F L) {index : Nat} {K : MW → Prop} (h1 : Cond.methodLink own index yX4_writeNumber ∈ gT) (hd : decode cc pc = .ok (.invokevirtual index, 3)) (hR : 1 + 1 ≤ F ∧ 8 + (7 + 11) + 23 ≤ L) (hst : (st.map fun v => v.category).sum ≤ 8) (h : P_X4_writeNumber K w) (k : ∀  (w' : MW), K w' → J x g (sA 12 a) (mCl g a) nL Q w' (pc + 3) lv st) : J x g (sA 12 a) (mCl g a) nL Q w (pc) lv (.ref (a 0) :: st) :=
  J_callVv C (As := []) (b := a 0) (n := 0) (c_X4_writeNumber h) h1 mw_730 mw_805 mw_6 mw_731 (by decide +kernel) hR rfl (rc_X4 C) hst hd k
-- X4_writeWhole (changes, room 1 23)
def P_X4_writeWhole_4 (K : MW → Prop) (v1 : Int32) : Nat → MW → Int32 → Prop
  | 0, _, _ => False
  | n + 1, w, v3 => (v3 < 0 → K w) ∧ (¬ v3 < 0 → P_X4_tens (fun r_1 => ¬ r_1 = 0 ∧ (P_X4_write (fun w_2 => P_X4_writeWhole_4 K v1 n w_2 (v3 + (-1 : Int32))) w (Int64.toInt32 ((48 : Int64) + (((Int32.toInt64 v1) / r_1) - ((Int32.toInt64 v1) / r_1) / (10 : Int64) * (10 : Int64)))))) v3)
set_option maxRecDepth 10000 in
theorem s_X4_writeWhole_4 {x : Mx} {g : Gd} {a : Nat → Nat} (C : Cx x g (sA 12 a) (mCl g a) cX4_writeWhole 4 RX4 none 1 23) {K : MW → Prop}  {v1 : Int32} : ∀ (n : Nat) (w : MW) (v3 : Int32), P_X4_writeWhole_4 K v1 n w v3 → J x g (sA 12 a) (mCl g a) 4 (JQ x (sA 12 a) (QcV g (sA 12 a) (mCl g a) K)) w 4 [(0, .ref (a 0)), (1, .int v1), (3, .int v3)] [] := by
  intro n
  induction n with
  | zero => intro w v3 h; exact h.elim
  | succ n ih =>
    intro w v3 h
    unfold P_X4_writeWhole_4 at h
    refine J_iload_n C 2 dX4_writeWhole_4 rfl rfl ?_
    refine J_if_lt (tgt := 34) C dX4_writeWhole_5 (by decide) h (fun h => ?_) (fun h => ?_)
    · exact J_vret C dX4_writeWhole_34 h
    · refine J_aload_n C 0 dX4_writeWhole_8 rfl rfl ?_
      refine J_ldc2 (v := (48 : Int64)) C mw_615 dX4_writeWhole_9 ?_
      refine J_iload_n C 1 dX4_writeWhole_12 rfl rfl ?_
      refine J_i2l C dX4_writeWhole_13 ?_
      refine J_iload_n C 2 dX4_writeWhole_14 rfl rfl ?_
      refine k_X4_tens C mw_732 dX4_writeWhole_15 ⟨Nat.le_of_ble_eq_true rfl, Nat.le_of_ble_eq_true rfl⟩ (Nat.le_of_ble_eq_true rfl) h (fun r_1 h => ?_)
      refine J_ldiv C dX4_writeWhole_18 h.1 ?_
      replace h := h.2
      refine J_ldc2 (v := (10 : Int64)) C mw_614 dX4_writeWhole_19 ?_
      refine J_lrem C dX4_writeWhole_22 (by decide) ?_
      refine J_ladd C dX4_writeWhole_23 ?_
      refine J_l2i C dX4_writeWhole_24 ?_
      refine k_X4_write C mw_726 dX4_writeWhole_25 ⟨Nat.le_of_ble_eq_true rfl, Nat.le_of_ble_eq_true rfl⟩ (Nat.le_of_ble_eq_true rfl) h (fun w_2 h => ?_)
      refine J_iinc C 2 [(3, .int (v3 + (-1 : Int32))), (0, .ref (a 0)), (1, .int v1)] dX4_writeWhole_28 rfl rfl (by decide) rfl ?_
      refine J_goto (tgt := 4) C dX4_writeWhole_31 (by decide) ?_
      refine J_lv [1, 2, 0] rfl ?_
      exact ih _ _ h
def P_X4_writeWhole (K : MW → Prop) (w : MW) (v1 : Int32) (v2 : Int32) : Prop := ∃ nf : Nat, P_X4_writeWhole_4 K v1 nf w (v2 - (1 : Int32))
set_option maxRecDepth 10000 in
theorem s_X4_writeWhole {x : Mx} {g : Gd} {a : Nat → Nat} (C : Cx x g (sA 12 a) (mCl g a) cX4_writeWhole 4 RX4 none 1 23) {K : MW → Prop}  {w : MW} {v1 : Int32} {v2 : Int32} (h : P_X4_writeWhole K w v1 v2) : J x g (sA 12 a) (mCl g a) 4 (JQ x (sA 12 a) (QcV g (sA 12 a) (mCl g a) K)) w 0 [(0, .ref (a 0)), (1, .int v1), (2, .int v2)] [] := by
  unfold P_X4_writeWhole at h
  refine J_iload_n C 2 dX4_writeWhole_0 rfl rfl ?_
  refine J_iconst (v := (1 : Int32)) C dX4_writeWhole_1 (by decide) ?_
  refine J_isub C dX4_writeWhole_2 ?_
  refine J_istore_n C [(3, .int (v2 - (1 : Int32))), (0, .ref (a 0)), (1, .int v1), (2, .int v2)] dX4_writeWhole_3 rfl (by decide) rfl ?_
  obtain ⟨nf, h⟩ := h
  refine J_lv [1, 2, 0] rfl ?_
  refine s_X4_writeWhole_4 C  nf _ _ h
theorem c_X4_writeWhole {l : Launch} {g : Gd} {a : Nat → Nat} {w : MW} {K : MW → Prop} {v1 : Int32} {v2 : Int32} (h : P_X4_writeWhole K w v1 v2) : Kt l yX4_writeWhole cX4_writeWhole 4 none 1 23 g (sA 12 a) (mCl g a) [.ref (a 0), .int v1, .int v2] w (QcV g (sA 12 a) (mCl g a) K) :=
  Kt_of (by decide +kernel) (Nat.le_of_ble_eq_true rfl) (fun x hx C => s_X4_writeWhole C h)
theorem k_X4_writeWhole {x : Mx} {g : Gd} {a : Nat → Nat} {cc : ByteArray} {nL : Nat} {own : String} {ret : Option FieldType} {F L : Nat} {Q : State → Prop} {w : MW} {pc : Nat} {lv : List (Nat × Value)} {st : List Value} (C : Cx x g (sA 12 a) (mCl g a) cc nL own ret F L) {index : Nat} {K : MW → Prop} {v1 : Int32} {v2 : Int32} (h1 : Cond.methodLink own index yX4_writeWhole ∈ gT) (hd : decode cc pc = .ok (.invokevirtual index, 3)) (hR : 1 + 1 ≤ F ∧ 8 + (4 + 11) + 23 ≤ L) (hst : (st.map fun v => v.category).sum ≤ 8) (h : P_X4_writeWhole K w v1 v2) (k : ∀  (w' : MW), K w' → J x g (sA 12 a) (mCl g a) nL Q w' (pc + 3) lv st) : J x g (sA 12 a) (mCl g a) nL Q w (pc) lv (.int v2 :: .int v1 :: .ref (a 0) :: st) :=
  J_callVv C (As := [.int v1, .int v2]) (b := a 0) (n := 2) (c_X4_writeWhole h) h1 mw_739 mw_807 mw_6 mw_740 (by decide +kernel) hR rfl (rc_X4 C) hst hd k
