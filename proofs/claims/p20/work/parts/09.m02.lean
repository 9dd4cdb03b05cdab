-- X4_tells (changes, room 6 130)
def P_X4_tells (K : Int32 → MW → Prop) (w : MW) (v1 : Int32) (v2 : Int32) (v3 : Int32) : Prop := (¬ v1 = 0 → ((7 : Int32) ≤ v1 → ((22 : Int32) ≤ v1 → ((31 : Int32) ≤ v1 → P_X4_isCode (fun r_1 w_2 => vz r_1 ∧ K r_1 w_2) (md_value_s w (0 : Int64)) v2 v3) ∧ (¬ (31 : Int32) ≤ v1 → P_X4_isDay (fun r_3 w_4 => vz r_3 ∧ K r_3 w_4) (md_value_s w (0 : Int64)) v2 v1)) ∧ (¬ (22 : Int32) ≤ v1 → P_X4_isNumber (fun r_5 w_6 => vz r_5 ∧ K r_5 w_6) (md_value_s w (0 : Int64)) v2 v1)) ∧ (¬ (7 : Int32) ≤ v1 → P_X4_isFlag (fun r_7 w_8 => vz r_7 ∧ K r_7 w_8) (md_value_s w (0 : Int64)) v2 v1)) ∧ (v1 = 0 → K (1 : Int32) (md_value_s w (0 : Int64)))
set_option maxRecDepth 10000 in
theorem s_X4_tells {x : Mx} {g : Gd} {a : Nat → Nat} (C : Cx x g (sA 12 a) (mCl g a) cX4_tells 4 RX4 (some .boolean) 6 130) {K : Int32 → MW → Prop}  {w : MW} {v1 : Int32} {v2 : Int32} {v3 : Int32} (h : P_X4_tells K w v1 v2 v3) : J x g (sA 12 a) (mCl g a) 4 (JQ x (sA 12 a) (QcI g (sA 12 a) (mCl g a) K)) w 0 [(0, .ref (a 0)), (1, .int v1), (2, .int v2), (3, .int v3)] [] := by
  unfold P_X4_tells at h
  refine J_aload_n C 0 dX4_tells_0 rfl rfl ?_
  refine J_lconst (v := (0 : Int64)) C dX4_tells_1 (by decide) ?_
  refine S_md_value C mw_478 dX4_tells_2 ?_
  refine J_iload_n C 1 dX4_tells_5 rfl rfl ?_
  refine J_if_ne (tgt := 11) C dX4_tells_6 (by decide) h (fun h => ?_) (fun h => ?_)
  · refine J_iload_n C 1 dX4_tells_11 rfl rfl ?_
    refine J_bipush (v := (7 : Int32)) C dX4_tells_12 (by decide) ?_
    refine J_icmp_ge (tgt := 24) C dX4_tells_14 (by decide) h (fun h => ?_) (fun h => ?_)
    · refine J_iload_n C 1 dX4_tells_24 rfl rfl ?_
      refine J_bipush (v := (22 : Int32)) C dX4_tells_25 (by decide) ?_
      refine J_icmp_ge (tgt := 37) C dX4_tells_27 (by decide) h (fun h => ?_) (fun h => ?_)
      · refine J_iload_n C 1 dX4_tells_37 rfl rfl ?_
        refine J_bipush (v := (31 : Int32)) C dX4_tells_38 (by decide) ?_
        refine J_icmp_ge (tgt := 52) C dX4_tells_40 (by decide) h (fun h => ?_) (fun h => ?_)
        · refine J_aload_n C 0 dX4_tells_52 rfl rfl ?_
          refine J_iload_n C 2 dX4_tells_53 rfl rfl ?_
          refine J_iload_n C 3 dX4_tells_54 rfl rfl ?_
          refine k_X4_isCode C mw_630 dX4_tells_55 ⟨Nat.le_of_ble_eq_true rfl, Nat.le_of_ble_eq_true rfl⟩ (Nat.le_of_ble_eq_true rfl) h (fun r_1 w_2 h => ?_)
          exact J_zret C dX4_tells_58 h.1.1 h.2
        · refine J_aload_n C 0 dX4_tells_43 rfl rfl ?_
          refine J_iload_n C 2 dX4_tells_44 rfl rfl ?_
          refine J_iload_n C 1 dX4_tells_45 rfl rfl ?_
          refine k_X4_isDay C mw_616 dX4_tells_46 ⟨Nat.le_of_ble_eq_true rfl, Nat.le_of_ble_eq_true rfl⟩ (Nat.le_of_ble_eq_true rfl) h (fun r_3 w_4 h => ?_)
          refine J_goto (tgt := 58) C dX4_tells_49 (by decide) ?_
          exact J_zret C dX4_tells_58 h.1.1 h.2
      · refine J_aload_n C 0 dX4_tells_30 rfl rfl ?_
        refine J_iload_n C 2 dX4_tells_31 rfl rfl ?_
        refine J_iload_n C 1 dX4_tells_32 rfl rfl ?_
        refine k_X4_isNumber C mw_596 dX4_tells_33 ⟨Nat.le_of_ble_eq_true rfl, Nat.le_of_ble_eq_true rfl⟩ (Nat.le_of_ble_eq_true rfl) h (fun r_5 w_6 h => ?_)
        exact J_zret C dX4_tells_36 h.1.1 h.2
    · refine J_aload_n C 0 dX4_tells_17 rfl rfl ?_
      refine J_iload_n C 2 dX4_tells_18 rfl rfl ?_
      refine J_iload_n C 1 dX4_tells_19 rfl rfl ?_
      refine k_X4_isFlag C mw_590 dX4_tells_20 ⟨Nat.le_of_ble_eq_true rfl, Nat.le_of_ble_eq_true rfl⟩ (Nat.le_of_ble_eq_true rfl) h (fun r_7 w_8 h => ?_)
      exact J_zret C dX4_tells_23 h.1.1 h.2
  · refine J_iconst (v := (1 : Int32)) C dX4_tells_9 (by decide) ?_
    exact J_zret C dX4_tells_10 rfl h
theorem c_X4_tells {l : Launch} {g : Gd} {a : Nat → Nat} {w : MW} {K : Int32 → MW → Prop} {v1 : Int32} {v2 : Int32} {v3 : Int32} (h : P_X4_tells K w v1 v2 v3) : Kt l yX4_tells cX4_tells 4 (some .boolean) 6 130 g (sA 12 a) (mCl g a) [.ref (a 0), .int v1, .int v2, .int v3] w (QcI g (sA 12 a) (mCl g a) K) :=
  Kt_of (by decide +kernel) (Nat.le_of_ble_eq_true rfl) (fun x hx C => s_X4_tells C h)
theorem k_X4_tells {x : Mx} {g : Gd} {a : Nat → Nat} {cc : ByteArray} {nL : Nat} {own : String} {ret : Option FieldType} {F L : Nat} {Q : State → Prop} {w : MW} {pc : Nat} {lv : List (Nat × Value)} {st : List Value} (C : Cx x g (sA 12 a) (mCl g a) cc nL own ret F L) {index : Nat} {K : Int32 → MW → Prop} {v1 : Int32} {v2 : Int32} {v3 : Int32} (h1 : Cond.methodLink own index yX4_tells ∈ gT) (hd : decode cc pc = .ok (.invokevirtual index, 3)) (hR : 6 + 1 ≤ F ∧ 8 + (4 + 11) + 130 ≤ L) (hst : (st.map fun v => v.category).sum ≤ 8) (h : P_X4_tells K w v1 v2 v3) (k : ∀ (r : Int32) (w' : MW), K r w' → J x g (sA 12 a) (mCl g a) nL Q w' (pc + 3) lv (.int r :: st)) : J x g (sA 12 a) (mCl g a) nL Q w (pc) lv (.int v3 :: .int v2 :: .int v1 :: .ref (a 0) :: st) :=
  J_callVi C (As := [.int v1, .int v2, .int v3]) (b := a 0) (n := 3) (c_X4_tells h) h1 mw_588 mw_790 mw_6 mw_589 (by decide +kernel) hR rfl (rc_X4 C) hst hd k
-- X4_gather (changes, room 4 83)
def P_X4_gather_63 (K : MW → Prop) (B7 : MW → Int32 → Prop) (w : MW) (v1 : Int32) (v2 : Int32) : Prop := B7 w (v2 + (1 : Int32))
set_option maxRecDepth 10000 in
theorem s_X4_gather_63 {x : Mx} {g : Gd} {a : Nat → Nat} (C : Cx x g (sA 12 a) (mCl g a) cX4_gather 3 RX4 none 4 83) {K : MW → Prop}  {v1 : Int32} {v2 : Int32} {B7 : MW → Int32 → Prop} (hB7 : ∀ (w : MW) (v2 : Int32), B7 w v2 → J x g (sA 12 a) (mCl g a) 3 (JQ x (sA 12 a) (QcV g (sA 12 a) (mCl g a) K)) w 7 [(0, .ref (a 0)), (1, .int v1), (2, .int v2)] []) {w : MW} (h : P_X4_gather_63 K B7 w v1 v2) : J x g (sA 12 a) (mCl g a) 3 (JQ x (sA 12 a) (QcV g (sA 12 a) (mCl g a) K)) w 63 [(0, .ref (a 0)), (1, .int v1), (2, .int v2)] [] := by
  unfold P_X4_gather_63 at h
  refine J_iinc C 2 [(2, .int (v2 + (1 : Int32))), (0, .ref (a 0)), (1, .int v1)] dX4_gather_63 rfl rfl (by decide) rfl ?_
  refine J_goto (tgt := 7) C dX4_gather_66 (by decide) ?_
  refine J_lv [1, 2, 0] rfl ?_
  exact hB7 _ _ h
def P_X4_gather_7 (K : MW → Prop) (v1 : Int32) : Nat → MW → Int32 → Prop
  | 0, _, _ => False
  | n + 1, w, v2 => ((md_rows w) ≤ v2 → K w) ∧ (¬ (md_rows w) ≤ v2 → P_X4_isPlain (fun r_1 => (¬ r_1 = 0 → vp_in v2 81 ∧ (vp_in (md_columnMany w) 80 ∧ (vp_in (md_columnMany (md_column_s w (upd (md_column w) (md_columnMany w).toNatClampNeg ((md_rowFrom w v2.toNatClampNeg) + v1)))) 80 ∧ (P_X4_gather_63 K (P_X4_gather_7 K v1 n) (md_columnMany_s (md_columnRow_s (md_column_s w (upd (md_column w) (md_columnMany w).toNatClampNeg ((md_rowFrom w v2.toNatClampNeg) + v1))) (upd (md_columnRow (md_column_s w (upd (md_column w) (md_columnMany w).toNatClampNeg ((md_rowFrom w v2.toNatClampNeg) + v1)))) (md_columnMany (md_column_s w (upd (md_column w) (md_columnMany w).toNatClampNeg ((md_rowFrom w v2.toNatClampNeg) + v1)))).toNatClampNeg v2)) ((md_columnMany (md_columnRow_s (md_column_s w (upd (md_column w) (md_columnMany w).toNatClampNeg ((md_rowFrom w v2.toNatClampNeg) + v1))) (upd (md_columnRow (md_column_s w (upd (md_column w) (md_columnMany w).toNatClampNeg ((md_rowFrom w v2.toNatClampNeg) + v1)))) (md_columnMany (md_column_s w (upd (md_column w) (md_columnMany w).toNatClampNeg ((md_rowFrom w v2.toNatClampNeg) + v1)))).toNatClampNeg v2))) + (1 : Int32))) v1 v2)))) ∧ (r_1 = 0 → P_X4_gather_63 K (P_X4_gather_7 K v1 n) w v1 v2)) w v2)
set_option maxRecDepth 10000 in
theorem s_X4_gather_7 {x : Mx} {g : Gd} {a : Nat → Nat} (C : Cx x g (sA 12 a) (mCl g a) cX4_gather 3 RX4 none 4 83) {K : MW → Prop}  {v1 : Int32} : ∀ (n : Nat) (w : MW) (v2 : Int32), P_X4_gather_7 K v1 n w v2 → J x g (sA 12 a) (mCl g a) 3 (JQ x (sA 12 a) (QcV g (sA 12 a) (mCl g a) K)) w 7 [(0, .ref (a 0)), (1, .int v1), (2, .int v2)] [] := by
  intro n
  induction n with
  | zero => intro w v2 h; exact h.elim
  | succ n ih =>
    intro w v2 h
    unfold P_X4_gather_7 at h
    refine J_iload_n C 2 dX4_gather_7 rfl rfl ?_
    refine J_aload_n C 0 dX4_gather_8 rfl rfl ?_
    refine G_md_rows C mw_466 dX4_gather_9 ?_
    refine J_icmp_ge (tgt := 69) C dX4_gather_12 (by decide) h (fun h => ?_) (fun h => ?_)
    · exact J_vret C dX4_gather_69 h
    · refine J_aload_n C 0 dX4_gather_15 rfl rfl ?_
      refine J_iload_n C 2 dX4_gather_16 rfl rfl ?_
      refine k_X4_isPlain C mw_564 dX4_gather_17 ⟨Nat.le_of_ble_eq_true rfl, Nat.le_of_ble_eq_true rfl⟩ (Nat.le_of_ble_eq_true rfl) h (fun r_1 h => ?_)
      refine J_if_ne (tgt := 26) C dX4_gather_20 (by decide) h (fun h => ?_) (fun h => ?_)
      · refine J_aload_n C 0 dX4_gather_26 rfl rfl ?_
        refine G_md_column C mw_480 dX4_gather_27 ?_
        refine J_aload_n C 0 dX4_gather_30 rfl rfl ?_
        refine G_md_columnMany C mw_482 dX4_gather_31 ?_
        refine J_aload_n C 0 dX4_gather_34 rfl rfl ?_
        refine G_md_rowFrom C mw_471 dX4_gather_35 ?_
        refine J_iload_n C 2 dX4_gather_38 rfl rfl ?_
        refine L_md_rowFrom C dX4_gather_39 h (fun h => ?_)
        refine J_iload_n C 1 dX4_gather_40 rfl rfl ?_
        refine J_iadd C dX4_gather_41 ?_
        refine U_md_column C dX4_gather_42 h (fun h => ?_)
        refine J_aload_n C 0 dX4_gather_43 rfl rfl ?_
        refine G_md_columnRow C mw_481 dX4_gather_44 ?_
        refine J_aload_n C 0 dX4_gather_47 rfl rfl ?_
        refine G_md_columnMany C mw_482 dX4_gather_48 ?_
        refine J_iload_n C 2 dX4_gather_51 rfl rfl ?_
        refine U_md_columnRow C dX4_gather_52 h (fun h => ?_)
        refine J_aload_n C 0 dX4_gather_53 rfl rfl ?_
        refine J_dup C dX4_gather_54 rfl ?_
        refine G_md_columnMany C mw_482 dX4_gather_55 ?_
        refine J_iconst (v := (1 : Int32)) C dX4_gather_58 (by decide) ?_
        refine J_iadd C dX4_gather_59 ?_
        refine S_md_columnMany C mw_482 dX4_gather_60 ?_
        refine J_lv [0, 1, 2] rfl ?_
        exact s_X4_gather_63 C ih h
      · refine J_goto (tgt := 63) C dX4_gather_23 (by decide) ?_
        refine J_lv [0, 1, 2] rfl ?_
        exact s_X4_gather_63 C ih h
def P_X4_gather (K : MW → Prop) (w : MW) (v1 : Int32) : Prop := ∃ nf : Nat, P_X4_gather_7 K v1 nf (md_columnMany_s w (0 : Int32)) (0 : Int32)
set_option maxRecDepth 10000 in
theorem s_X4_gather {x : Mx} {g : Gd} {a : Nat → Nat} (C : Cx x g (sA 12 a) (mCl g a) cX4_gather 3 RX4 none 4 83) {K : MW → Prop}  {w : MW} {v1 : Int32} (h : P_X4_gather K w v1) : J x g (sA 12 a) (mCl g a) 3 (JQ x (sA 12 a) (QcV g (sA 12 a) (mCl g a) K)) w 0 [(0, .ref (a 0)), (1, .int v1)] [] := by
  unfold P_X4_gather at h
  refine J_aload_n C 0 dX4_gather_0 rfl rfl ?_
  refine J_iconst (v := (0 : Int32)) C dX4_gather_1 (by decide) ?_
  refine S_md_columnMany C mw_482 dX4_gather_2 ?_
  refine J_iconst (v := (0 : Int32)) C dX4_gather_5 (by decide) ?_
  refine J_istore_n C [(2, .int (0 : Int32)), (0, .ref (a 0)), (1, .int v1)] dX4_gather_6 rfl (by decide) rfl ?_
  obtain ⟨nf, h⟩ := h
  refine J_lv [1, 2, 0] rfl ?_
  refine s_X4_gather_7 C  nf _ _ h
theorem c_X4_gather {l : Launch} {g : Gd} {a : Nat → Nat} {w : MW} {K : MW → Prop} {v1 : Int32} (h : P_X4_gather K w v1) : Kt l yX4_gather cX4_gather 3 none 4 83 g (sA 12 a) (mCl g a) [.ref (a 0), .int v1] w (QcV g (sA 12 a) (mCl g a) K) :=
  Kt_of (by decide +kernel) (Nat.le_of_ble_eq_true rfl) (fun x hx C => s_X4_gather C h)
theorem k_X4_gather {x : Mx} {g : Gd} {a : Nat → Nat} {cc : ByteArray} {nL : Nat} {own : String} {ret : Option FieldType} {F L : Nat} {Q : State → Prop} {w : MW} {pc : Nat} {lv : List (Nat × Value)} {st : List Value} (C : Cx x g (sA 12 a) (mCl g a) cc nL own ret F L) {index : Nat} {K : MW → Prop} {v1 : Int32} (h1 : Cond.methodLink own index yX4_gather ∈ gT) (hd : decode cc pc = .ok (.invokevirtual index, 3)) (hR : 4 + 1 ≤ F ∧ 8 + (3 + 11) + 83 ≤ L) (hst : (st.map fun v => v.category).sum ≤ 8) (h : P_X4_gather K w v1) (k : ∀  (w' : MW), K w' → J x g (sA 12 a) (mCl g a) nL Q w' (pc + 3) lv st) : J x g (sA 12 a) (mCl g a) nL Q w (pc) lv (.int v1 :: .ref (a 0) :: st) :=
  J_callVv C (As := [.int v1]) (b := a 0) (n := 1) (c_X4_gather h) h1 mw_562 mw_782 mw_6 mw_563 (by decide +kernel) hR rfl (rc_X4 C) hst hd k
-- X4_firstOf (pure, room 6 130)
def P_X4_firstOf_2 (K : Int32 → Prop) (E24 : Int32 → Prop) (w : MW) (v1 : Int32) : Nat → Int32 → Prop
  | 0, _ => False
  | n + 1, v2 => ((md_columnMany w) ≤ v2 → K (-1 : Int32)) ∧ (¬ (md_columnMany w) ≤ v2 → vp_in v2 80 ∧ (P_X4_isMissing (fun r_1 => (¬ r_1 = 0 → P_X4_firstOf_2 K E24 w v1 n (v2 + (1 : Int32))) ∧ (r_1 = 0 → E24 v2)) w (md_column w v2.toNatClampNeg) v1))
set_option maxRecDepth 10000 in
theorem s_X4_firstOf_2 {x : Mx} {g : Gd} {a : Nat → Nat} (C : Cx x g (sA 12 a) (mCl g a) cX4_firstOf 3 RX4 (some .int) 6 130) {K : Int32 → Prop} {w : MW}  {v1 : Int32} {E24 : Int32 → Prop} (hE24 : ∀ (v2 : Int32), E24 v2 → J x g (sA 12 a) (mCl g a) 3 (JQ x (sA 12 a) (QcI g (sA 12 a) (mCl g a) (fun r w' => K r ∧ w' = w))) w 24 [(0, .ref (a 0)), (2, .int v2)] []) : ∀ (n : Nat) (v2 : Int32), P_X4_firstOf_2 K E24 w v1 n v2 → J x g (sA 12 a) (mCl g a) 3 (JQ x (sA 12 a) (QcI g (sA 12 a) (mCl g a) (fun r w' => K r ∧ w' = w))) w 2 [(0, .ref (a 0)), (1, .int v1), (2, .int v2)] [] := by
  intro n
  induction n with
  | zero => intro v2 h; exact h.elim
  | succ n ih =>
    intro v2 h
    unfold P_X4_firstOf_2 at h
    refine J_iload_n C 2 dX4_firstOf_2 rfl rfl ?_
    refine J_aload_n C 0 dX4_firstOf_3 rfl rfl ?_
    refine G_md_columnMany C mw_482 dX4_firstOf_4 ?_
    refine J_icmp_ge (tgt := 37) C dX4_firstOf_7 (by decide) h (fun h => ?_) (fun h => ?_)
    · refine J_iconst (v := (-1 : Int32)) C dX4_firstOf_37 (by decide) ?_
      exact J_iret C dX4_firstOf_38 ⟨h, rfl⟩
    · refine J_aload_n C 0 dX4_firstOf_10 rfl rfl ?_
      refine J_aload_n C 0 dX4_firstOf_11 rfl rfl ?_
      refine G_md_column C mw_480 dX4_firstOf_12 ?_
      refine J_iload_n C 2 dX4_firstOf_15 rfl rfl ?_
      refine L_md_column C dX4_firstOf_16 h (fun h => ?_)
      refine J_iload_n C 1 dX4_firstOf_17 rfl rfl ?_
      refine k_X4_isMissing C mw_576 dX4_firstOf_18 ⟨Nat.le_of_ble_eq_true rfl, Nat.le_of_ble_eq_true rfl⟩ (Nat.le_of_ble_eq_true rfl) h (fun r_1 h => ?_)
      refine J_if_ne (tgt := 31) C dX4_firstOf_21 (by decide) h (fun h => ?_) (fun h => ?_)
      · refine J_iinc C 2 [(2, .int (v2 + (1 : Int32))), (0, .ref (a 0)), (1, .int v1)] dX4_firstOf_31 rfl rfl (by decide) rfl ?_
        refine J_goto (tgt := 2) C dX4_firstOf_34 (by decide) ?_
        refine J_lv [1, 2, 0] rfl ?_
        exact ih _ h
      · refine J_lv [0, 2] rfl ?_
        exact hE24 _ h
def P_X4_firstOf (K : Int32 → Prop) (w : MW) (v1 : Int32) : Prop := ∃ nf : Nat, P_X4_firstOf_2 K (fun v2_2 => vp_in v2_2 80 ∧ (K (md_column w v2_2.toNatClampNeg))) w v1 nf (0 : Int32)
set_option maxRecDepth 10000 in
theorem s_X4_firstOf {x : Mx} {g : Gd} {a : Nat → Nat} (C : Cx x g (sA 12 a) (mCl g a) cX4_firstOf 3 RX4 (some .int) 6 130) {K : Int32 → Prop} {w : MW}  {v1 : Int32} (h : P_X4_firstOf K w v1) : J x g (sA 12 a) (mCl g a) 3 (JQ x (sA 12 a) (QcI g (sA 12 a) (mCl g a) (fun r w' => K r ∧ w' = w))) w 0 [(0, .ref (a 0)), (1, .int v1)] [] := by
  unfold P_X4_firstOf at h
  refine J_iconst (v := (0 : Int32)) C dX4_firstOf_0 (by decide) ?_
  refine J_istore_n C [(2, .int (0 : Int32)), (0, .ref (a 0)), (1, .int v1)] dX4_firstOf_1 rfl (by decide) rfl ?_
  obtain ⟨nf, h⟩ := h
  refine J_lv [1, 2, 0] rfl ?_
  refine s_X4_firstOf_2 C (fun v2_2 h => ?_) nf _ h
  · refine J_aload_n C 0 dX4_firstOf_24 rfl rfl ?_
    refine G_md_column C mw_480 dX4_firstOf_25 ?_
    refine J_iload_n C 1 dX4_firstOf_28 rfl rfl ?_
    refine L_md_column C dX4_firstOf_29 h (fun h => ?_)
    exact J_iret C dX4_firstOf_30 ⟨h, rfl⟩
theorem c_X4_firstOf {l : Launch} {g : Gd} {a : Nat → Nat} {w : MW} {K : Int32 → Prop} {v1 : Int32} (h : P_X4_firstOf K w v1) : Kt l yX4_firstOf cX4_firstOf 3 (some .int) 6 130 g (sA 12 a) (mCl g a) [.ref (a 0), .int v1] w (QcI g (sA 12 a) (mCl g a) (fun r w' => K r ∧ w' = w)) :=
  Kt_of (by decide +kernel) (Nat.le_of_ble_eq_true rfl) (fun x hx C => s_X4_firstOf C h)
theorem k_X4_firstOf {x : Mx} {g : Gd} {a : Nat → Nat} {cc : ByteArray} {nL : Nat} {own : String} {ret : Option FieldType} {F L : Nat} {Q : State → Prop} {w : MW} {pc : Nat} {lv : List (Nat × Value)} {st : List Value} (C : Cx x g (sA 12 a) (mCl g a) cc nL own ret F L) {index : Nat} {K : Int32 → Prop} {v1 : Int32} (h1 : Cond.methodLink own index yX4_firstOf ∈ gT) (hd : decode cc pc = .ok (.invokevirtual index, 3)) (hR : 6 + 1 ≤ F ∧ 8 + (3 + 11) + 130 ≤ L) (hst : (st.map fun v => v.category).sum ≤ 8) (h : P_X4_firstOf K w v1) (k : ∀ (r : Int32), K r → J x g (sA 12 a) (mCl g a) nL Q w (pc + 3) lv (.int r :: st)) : J x g (sA 12 a) (mCl g a) nL Q w (pc) lv (.int v1 :: .ref (a 0) :: st) :=
  J_callVi C (As := [.int v1]) (b := a 0) (n := 1) (c_X4_firstOf h) h1 mw_574 mw_786 mw_6 mw_575 (by decide +kernel) hR rfl (rc_X4 C) hst hd (fun r w' hK => by
    obtain ⟨hK, rfl⟩ := hK
    exact k r hK)
-- X4_cellCost (pure, room 2 42)
def P_X4_cellCost_97 (K : Int32 → Prop) (B56 : Int32 → Int32 → Prop) (w : MW) (v2 : Int32) (v3 : Int32) (v5 : Int32) (s0 : Int32) (s1 : Int32) : Prop := B56 (s1 + s0) (v5 + (1 : Int32))
set_option maxRecDepth 10000 in
theorem s_X4_cellCost_97 {x : Mx} {g : Gd} {a : Nat → Nat} (C : Cx x g (sA 12 a) (mCl g a) cX4_cellCost 7 RX4 (some .int) 2 42) {K : Int32 → Prop} {w : MW}  {v2 : Int32} {v3 : Int32} {v5 : Int32} {s0 : Int32} {s1 : Int32} {B56 : Int32 → Int32 → Prop} (hB56 : ∀ (v4 : Int32) (v5 : Int32), B56 v4 v5 → J x g (sA 12 a) (mCl g a) 7 (JQ x (sA 12 a) (QcI g (sA 12 a) (mCl g a) (fun r w' => K r ∧ w' = w))) w 56 [(0, .ref (a 0)), (2, .int v2), (3, .int v3), (4, .int v4), (5, .int v5)] []) (h : P_X4_cellCost_97 K B56 w v2 v3 v5 s0 s1) : J x g (sA 12 a) (mCl g a) 7 (JQ x (sA 12 a) (QcI g (sA 12 a) (mCl g a) (fun r w' => K r ∧ w' = w))) w 97 [(0, .ref (a 0)), (2, .int v2), (3, .int v3), (5, .int v5)] [.int s0, .int s1] := by
  unfold P_X4_cellCost_97 at h
  refine J_iadd C dX4_cellCost_97 ?_
  refine J_istore C [(4, .int (s1 + s0)), (0, .ref (a 0)), (2, .int v2), (3, .int v3), (5, .int v5)] dX4_cellCost_98 (by decide) rfl ?_
  refine J_iinc C 4 [(5, .int (v5 + (1 : Int32))), (4, .int (s1 + s0)), (0, .ref (a 0)), (2, .int v2), (3, .int v3)] dX4_cellCost_100 rfl rfl (by decide) rfl ?_
  refine J_goto (tgt := 56) C dX4_cellCost_103 (by decide) ?_
  refine J_lv [2, 3, 4, 1, 0] rfl ?_
  exact hB56 _ _ h
def P_X4_cellCost_56 (K : Int32 → Prop) (w : MW) (v2 : Int32) (v3 : Int32) : Nat → Int32 → Int32 → Prop
  | 0, _, _ => False
  | n + 1, v4, v5 => (v3 ≤ v5 → K v4) ∧ (¬ v3 ≤ v5 → P_X4_byteOf (fun r_1 => P_X4_sortOf (fun r_2 => (¬ r_2 = (1 : Int32) → ((4 : Int32) ≤ r_2 → P_X4_cellCost_97 K (P_X4_cellCost_56 K w v2 v3 n) w v2 v3 v5 (0 : Int32) v4) ∧ (¬ (4 : Int32) ≤ r_2 → P_X4_cellCost_97 K (P_X4_cellCost_56 K w v2 v3 n) w v2 v3 v5 (5 : Int32) v4)) ∧ (r_2 = (1 : Int32) → P_X4_cellCost_97 K (P_X4_cellCost_56 K w v2 v3 n) w v2 v3 v5 (4 : Int32) v4)) r_1) w v2 v5)
set_option maxRecDepth 10000 in
theorem s_X4_cellCost_56 {x : Mx} {g : Gd} {a : Nat → Nat} (C : Cx x g (sA 12 a) (mCl g a) cX4_cellCost 7 RX4 (some .int) 2 42) {K : Int32 → Prop} {w : MW}  {v2 : Int32} {v3 : Int32} : ∀ (n : Nat) (v4 : Int32) (v5 : Int32), P_X4_cellCost_56 K w v2 v3 n v4 v5 → J x g (sA 12 a) (mCl g a) 7 (JQ x (sA 12 a) (QcI g (sA 12 a) (mCl g a) (fun r w' => K r ∧ w' = w))) w 56 [(0, .ref (a 0)), (2, .int v2), (3, .int v3), (4, .int v4), (5, .int v5)] [] := by
  intro n
  induction n with
  | zero => intro v4 v5 h; exact h.elim
  | succ n ih =>
    intro v4 v5 h
    unfold P_X4_cellCost_56 at h
    refine J_iload C 4 dX4_cellCost_56 rfl ?_
    refine J_iload_n C 2 dX4_cellCost_58 rfl rfl ?_
    refine J_icmp_ge (tgt := 106) C dX4_cellCost_59 (by decide) h (fun h => ?_) (fun h => ?_)
    · refine J_iload C 3 dX4_cellCost_106 rfl ?_
      exact J_iret C dX4_cellCost_108 ⟨h, rfl⟩
    · refine J_aload_n C 0 dX4_cellCost_62 rfl rfl ?_
      refine J_iload_n C 1 dX4_cellCost_63 rfl rfl ?_
      refine J_iload C 4 dX4_cellCost_64 rfl ?_
      refine k_X4_byteOf C mw_583 dX4_cellCost_66 ⟨Nat.le_of_ble_eq_true rfl, Nat.le_of_ble_eq_true rfl⟩ (Nat.le_of_ble_eq_true rfl) h (fun r_1 h => ?_)
      refine k_X4_sortOf C mw_633 dX4_cellCost_69 ⟨Nat.le_of_ble_eq_true rfl, Nat.le_of_ble_eq_true rfl⟩ (Nat.le_of_ble_eq_true rfl) h (fun r_2 h => ?_)
      refine J_istore C [(6, .int r_2), (0, .ref (a 0)), (2, .int v2), (3, .int v3), (4, .int v4), (5, .int v5)] dX4_cellCost_72 (by decide) rfl ?_
      refine J_iload C 4 dX4_cellCost_74 rfl ?_
      refine J_iload C 0 dX4_cellCost_76 rfl ?_
      refine J_iconst (v := (1 : Int32)) C dX4_cellCost_78 (by decide) ?_
      refine J_icmp_ne (tgt := 86) C dX4_cellCost_79 (by decide) h (fun h => ?_) (fun h => ?_)
      · refine J_iload C 0 dX4_cellCost_86 rfl ?_
        refine J_iconst (v := (4 : Int32)) C dX4_cellCost_88 (by decide) ?_
        refine J_icmp_ge (tgt := 96) C dX4_cellCost_89 (by decide) h (fun h => ?_) (fun h => ?_)
        · refine J_iconst (v := (0 : Int32)) C dX4_cellCost_96 (by decide) ?_
          refine J_lv [1, 2, 3, 5] rfl ?_
          exact s_X4_cellCost_97 C ih h
        · refine J_iconst (v := (5 : Int32)) C dX4_cellCost_92 (by decide) ?_
          refine J_goto (tgt := 97) C dX4_cellCost_93 (by decide) ?_
          refine J_lv [1, 2, 3, 5] rfl ?_
          exact s_X4_cellCost_97 C ih h
      · refine J_iconst (v := (4 : Int32)) C dX4_cellCost_82 (by decide) ?_
        refine J_goto (tgt := 97) C dX4_cellCost_83 (by decide) ?_
        refine J_lv [1, 2, 3, 5] rfl ?_
        exact s_X4_cellCost_97 C ih h
def P_X4_cellCost (K : Int32 → Prop) (w : MW) (v1 : Int32) (v2 : Int32) : Prop := vp_in v2 960 ∧ ((¬ v1 = 0 → ((7 : Int32) ≤ v1 → ((22 : Int32) ≤ v1 → ((31 : Int32) ≤ v1 → ∃ nf : Nat, P_X4_cellCost_56 K w v2 (md_cellSize w v2.toNatClampNeg) nf (0 : Int32) (0 : Int32)) ∧ (¬ (31 : Int32) ≤ v1 → K (16 : Int32))) ∧ (¬ (22 : Int32) ≤ v1 → K ((4 : Int32) + ((4 : Int32) * (md_digits w))))) ∧ (¬ (7 : Int32) ≤ v1 → K (1 : Int32))) ∧ (v1 = 0 → K ((4 : Int32) + ((8 : Int32) * (md_cellSize w v2.toNatClampNeg)))))
set_option maxRecDepth 10000 in
theorem s_X4_cellCost {x : Mx} {g : Gd} {a : Nat → Nat} (C : Cx x g (sA 12 a) (mCl g a) cX4_cellCost 7 RX4 (some .int) 2 42) {K : Int32 → Prop} {w : MW}  {v1 : Int32} {v2 : Int32} (h : P_X4_cellCost K w v1 v2) : J x g (sA 12 a) (mCl g a) 7 (JQ x (sA 12 a) (QcI g (sA 12 a) (mCl g a) (fun r w' => K r ∧ w' = w))) w 0 [(0, .ref (a 0)), (1, .int v1), (2, .int v2)] [] := by
  unfold P_X4_cellCost at h
  refine J_aload_n C 0 dX4_cellCost_0 rfl rfl ?_
  refine G_md_cellSize C mw_473 dX4_cellCost_1 ?_
  refine J_iload_n C 2 dX4_cellCost_4 rfl rfl ?_
  refine L_md_cellSize C dX4_cellCost_5 h (fun h => ?_)
  refine J_istore_n C [(3, .int (md_cellSize w v2.toNatClampNeg)), (0, .ref (a 0)), (1, .int v1), (2, .int v2)] dX4_cellCost_6 rfl (by decide) rfl ?_
  refine J_iload_n C 2 dX4_cellCost_7 rfl rfl ?_
  refine J_if_ne (tgt := 18) C dX4_cellCost_8 (by decide) h (fun h => ?_) (fun h => ?_)
  · refine J_iload_n C 2 dX4_cellCost_18 rfl rfl ?_
    refine J_bipush (v := (7 : Int32)) C dX4_cellCost_19 (by decide) ?_
    refine J_icmp_ge (tgt := 26) C dX4_cellCost_21 (by decide) h (fun h => ?_) (fun h => ?_)
    · refine J_iload_n C 2 dX4_cellCost_26 rfl rfl ?_
      refine J_bipush (v := (22 : Int32)) C dX4_cellCost_27 (by decide) ?_
      refine J_icmp_ge (tgt := 41) C dX4_cellCost_29 (by decide) h (fun h => ?_) (fun h => ?_)
      · refine J_iload_n C 2 dX4_cellCost_41 rfl rfl ?_
        refine J_bipush (v := (31 : Int32)) C dX4_cellCost_42 (by decide) ?_
        refine J_icmp_ge (tgt := 50) C dX4_cellCost_44 (by decide) h (fun h => ?_) (fun h => ?_)
        · refine J_iconst (v := (0 : Int32)) C dX4_cellCost_50 (by decide) ?_
          refine J_istore C [(4, .int (0 : Int32)), (3, .int (md_cellSize w v2.toNatClampNeg)), (0, .ref (a 0)), (1, .int v1), (2, .int v2)] dX4_cellCost_51 (by decide) rfl ?_
          refine J_iconst (v := (0 : Int32)) C dX4_cellCost_53 (by decide) ?_
          refine J_istore C [(5, .int (0 : Int32)), (4, .int (0 : Int32)), (3, .int (md_cellSize w v2.toNatClampNeg)), (0, .ref (a 0)), (1, .int v1), (2, .int v2)] dX4_cellCost_54 (by decide) rfl ?_
          obtain ⟨nf, h⟩ := h
          refine J_lv [3, 5, 2, 1, 0] rfl ?_
          refine s_X4_cellCost_56 C  nf _ _ h
        · refine J_bipush (v := (16 : Int32)) C dX4_cellCost_47 (by decide) ?_
          exact J_iret C dX4_cellCost_49 ⟨h, rfl⟩
      · refine J_iconst (v := (4 : Int32)) C dX4_cellCost_32 (by decide) ?_
        refine J_iconst (v := (4 : Int32)) C dX4_cellCost_33 (by decide) ?_
        refine J_aload_n C 1 dX4_cellCost_34 rfl rfl ?_
        refine G_md_digits C mw_479 dX4_cellCost_35 ?_
        refine J_imul C dX4_cellCost_38 ?_
        refine J_iadd C dX4_cellCost_39 ?_
        exact J_iret C dX4_cellCost_40 ⟨h, rfl⟩
    · refine J_iconst (v := (1 : Int32)) C dX4_cellCost_24 (by decide) ?_
      exact J_iret C dX4_cellCost_25 ⟨h, rfl⟩
  · refine J_iconst (v := (4 : Int32)) C dX4_cellCost_11 (by decide) ?_
    refine J_bipush (v := (8 : Int32)) C dX4_cellCost_12 (by decide) ?_
    refine J_iload_n C 0 dX4_cellCost_14 rfl rfl ?_
    refine J_imul C dX4_cellCost_15 ?_
    refine J_iadd C dX4_cellCost_16 ?_
    exact J_iret C dX4_cellCost_17 ⟨h, rfl⟩
theorem c_X4_cellCost {l : Launch} {g : Gd} {a : Nat → Nat} {w : MW} {K : Int32 → Prop} {v1 : Int32} {v2 : Int32} (h : P_X4_cellCost K w v1 v2) : Kt l yX4_cellCost cX4_cellCost 7 (some .int) 2 42 g (sA 12 a) (mCl g a) [.ref (a 0), .int v1, .int v2] w (QcI g (sA 12 a) (mCl g a) (fun r w' => K r ∧ w' = w)) :=
  Kt_of (by decide +kernel) (Nat.le_of_ble_eq_true rfl) (fun x hx C => s_X4_cellCost C h)
theorem k_X4_cellCost {x : Mx} {g : Gd} {a : Nat → Nat} {cc : ByteArray} {nL : Nat} {own : String} {ret : Option FieldType} {F L : Nat} {Q : State → Prop} {w : MW} {pc : Nat} {lv : List (Nat × Value)} {st : List Value} (C : Cx x g (sA 12 a) (mCl g a) cc nL own ret F L) {index : Nat} {K : Int32 → Prop} {v1 : Int32} {v2 : Int32} (h1 : Cond.methodLink own index yX4_cellCost ∈ gT) (hd : decode cc pc = .ok (.invokevirtual index, 3)) (hR : 2 + 1 ≤ F ∧ 8 + (7 + 11) + 42 ≤ L) (hst : (st.map fun v => v.category).sum ≤ 8) (h : P_X4_cellCost K w v1 v2) (k : ∀ (r : Int32), K r → J x g (sA 12 a) (mCl g a) nL Q w (pc + 3) lv (.int r :: st)) : J x g (sA 12 a) (mCl g a) nL Q w (pc) lv (.int v2 :: .int v1 :: .ref (a 0) :: st) :=
  J_callVi C (As := [.int v1, .int v2]) (b := a 0) (n := 2) (c_X4_cellCost h) h1 mw_641 mw_797 mw_6 mw_642 (by decide +kernel) hR rfl (rc_X4 C) hst hd (fun r w' hK => by
    obtain ⟨hK, rfl⟩ := hK
    exact k r hK)
-- X4_topOf (pure, room 1 20)
def P_X4_topOf_6 (K : Int64 → Prop) (v0 : Int32) : Nat → Int64 → Int32 → Prop
  | 0, _, _ => False
  | n + 1, v1, v3 => P_X4_decimals (fun r_1 => (r_1 ≤ v3 → K v1) ∧ (¬ r_1 ≤ v3 → P_X4_topOf_6 K v0 n (v1 * (10 : Int64)) (v3 + (1 : Int32)))) v0
set_option maxRecDepth 10000 in
theorem s_X4_topOf_6 {x : Mx} {g : Gd} {Wd : Type} {A : Nat → Prop} {cl : Wd → va_W} (C : Cx x g A cl cX4_topOf 4 RX4 (some .long) 1 20) {K : Int64 → Prop} {w : Wd}  {v0 : Int32} : ∀ (n : Nat) (v1 : Int64) (v3 : Int32), P_X4_topOf_6 K v0 n v1 v3 → J x g A cl 4 (JQ x A (QcL g A cl (fun r w' => K r ∧ w' = w))) w 6 [(0, .int v0), (1, .long v1), (3, .int v3)] [] := by
  intro n
  induction n with
  | zero => intro v1 v3 h; exact h.elim
  | succ n ih =>
    intro v1 v3 h
    unfold P_X4_topOf_6 at h
    refine J_iload_n C 2 dX4_topOf_6 rfl rfl ?_
    refine J_iload_n C 0 dX4_topOf_7 rfl rfl ?_
    refine k_X4_decimals C mw_599 dX4_topOf_8 ⟨Nat.le_of_ble_eq_true rfl, Nat.le_of_ble_eq_true rfl⟩ (Nat.le_of_ble_eq_true rfl) h (fun r_1 h => ?_)
    refine J_icmp_ge (tgt := 26) C dX4_topOf_11 (by decide) h (fun h => ?_) (fun h => ?_)
    · refine J_lload_n C 1 dX4_topOf_26 rfl rfl ?_
      exact J_lret C dX4_topOf_27 ⟨h, rfl⟩
    · refine J_lload_n C 1 dX4_topOf_14 rfl rfl ?_
      refine J_ldc2 (v := (10 : Int64)) C mw_614 dX4_topOf_15 ?_
      refine J_lmul C dX4_topOf_18 ?_
      refine J_lstore_n C [(1, .long (v1 * (10 : Int64))), (0, .int v0), (3, .int v3)] dX4_topOf_19 rfl (by decide) rfl ?_
      refine J_iinc C 2 [(3, .int (v3 + (1 : Int32))), (1, .long (v1 * (10 : Int64))), (0, .int v0)] dX4_topOf_20 rfl rfl (by decide) rfl ?_
      refine J_goto (tgt := 6) C dX4_topOf_23 (by decide) ?_
      refine J_lv [2, 1, 0] rfl ?_
      exact ih _ _ h
def P_X4_topOf (K : Int64 → Prop) (v0 : Int32) : Prop := ∃ nf : Nat, P_X4_topOf_6 K v0 nf (9999 : Int64) (0 : Int32)
set_option maxRecDepth 10000 in
theorem s_X4_topOf {x : Mx} {g : Gd} {Wd : Type} {A : Nat → Prop} {cl : Wd → va_W} (C : Cx x g A cl cX4_topOf 4 RX4 (some .long) 1 20) {K : Int64 → Prop} {w : Wd}  {v0 : Int32} (h : P_X4_topOf K v0) : J x g A cl 4 (JQ x A (QcL g A cl (fun r w' => K r ∧ w' = w))) w 0 [(0, .int v0)] [] := by
  unfold P_X4_topOf at h
  refine J_ldc2 (v := (9999 : Int64)) C mw_639 dX4_topOf_0 ?_
  refine J_lstore_n C [(1, .long (9999 : Int64)), (0, .int v0)] dX4_topOf_3 rfl (by decide) rfl ?_
  refine J_iconst (v := (0 : Int32)) C dX4_topOf_4 (by decide) ?_
  refine J_istore_n C [(3, .int (0 : Int32)), (1, .long (9999 : Int64)), (0, .int v0)] dX4_topOf_5 rfl (by decide) rfl ?_
  obtain ⟨nf, h⟩ := h
  refine J_lv [2, 1, 0] rfl ?_
  refine s_X4_topOf_6 C  nf _ _ h
theorem c_X4_topOf {l : Launch} {g : Gd} {Wd : Type} {A : Nat → Prop} {cl : Wd → va_W} {w : Wd} {K : Int64 → Prop} {v0 : Int32} (h : P_X4_topOf K v0) : Kt l yX4_topOf cX4_topOf 4 (some .long) 1 20 g A cl [.int v0] w (QcL g A cl (fun r w' => K r ∧ w' = w)) :=
  Kt_of (by decide +kernel) (Nat.le_of_ble_eq_true rfl) (fun x hx C => s_X4_topOf C h)
theorem k_X4_topOf {x : Mx} {g : Gd} {Wd : Type} {A : Nat → Prop} {cl : Wd → va_W} {cc : ByteArray} {nL : Nat} {own : String} {ret : Option FieldType} {F L : Nat} {Q : State → Prop} {w : Wd} {pc : Nat} {lv : List (Nat × Value)} {st : List Value} (C : Cx x g A cl cc nL own ret F L) {index : Nat} {K : Int64 → Prop} {v0 : Int32} (h1 : Cond.methodLink own index yX4_topOf ∈ gT) (hd : decode cc pc = .ok (.invokestatic index, 3)) (hR : 1 + 1 ≤ F ∧ 8 + (4 + 11) + 20 ≤ L) (hst : (st.map fun v => v.category).sum ≤ 8) (h : P_X4_topOf K v0) (k : ∀ (r : Int64), K r → J x g A cl nL Q w (pc + 3) lv (.long r :: st)) : J x g A cl nL Q w (pc) lv (.int v0 :: st) :=
  J_callSl C (As := [.int v0]) (n := 1) (c_X4_topOf h) h1 mw_637 mw_6 mw_638 (by decide +kernel) hR rfl hst hd (fun r w' hK => by
    obtain ⟨hK, rfl⟩ := hK
    exact k r hK)
-- X4_costBy (changes, room 7 153)
def P_X4_costBy_185 (K : Int32 → MW → Prop) (B100 : MW → Int32 → Int32 → Int32 → Prop) (E191 : MW → Int32 → Int32 → Prop) (w : MW) (v1 : Int32) (v2 : Int32) (v3 : Int32) (v5 : Int32) (v6 : Int32) (v7 : Int32) : Prop := B100 w v5 v6 (v7 + (1 : Int32))
set_option maxRecDepth 10000 in
theorem s_X4_costBy_185 {x : Mx} {g : Gd} {a : Nat → Nat} (C : Cx x g (sA 12 a) (mCl g a) cX4_costBy 8 RX4 (some .int) 7 153) {K : Int32 → MW → Prop}  {v1 : Int32} {v2 : Int32} {v3 : Int32} {v5 : Int32} {v6 : Int32} {v7 : Int32} {B100 : MW → Int32 → Int32 → Int32 → Prop} {E191 : MW → Int32 → Int32 → Prop} (hB100 : ∀ (w : MW) (v5 : Int32) (v6 : Int32) (v7 : Int32), B100 w v5 v6 v7 → J x g (sA 12 a) (mCl g a) 8 (JQ x (sA 12 a) (QcI g (sA 12 a) (mCl g a) K)) w 100 [(0, .ref (a 0)), (1, .int v1), (2, .int v2), (3, .int v3), (5, .int v5), (6, .int v6), (7, .int v7)] []) (hE191 : ∀ (w : MW) (v5 : Int32) (v6 : Int32), E191 w v5 v6 → J x g (sA 12 a) (mCl g a) 8 (JQ x (sA 12 a) (QcI g (sA 12 a) (mCl g a) K)) w 191 [(2, .int v2), (5, .int v5), (6, .int v6)] []) {w : MW} (h : P_X4_costBy_185 K B100 E191 w v1 v2 v3 v5 v6 v7) : J x g (sA 12 a) (mCl g a) 8 (JQ x (sA 12 a) (QcI g (sA 12 a) (mCl g a) K)) w 185 [(0, .ref (a 0)), (1, .int v1), (2, .int v2), (3, .int v3), (5, .int v5), (6, .int v6), (7, .int v7)] [] := by
  unfold P_X4_costBy_185 at h
  refine J_iinc C 6 [(7, .int (v7 + (1 : Int32))), (0, .ref (a 0)), (1, .int v1), (2, .int v2), (3, .int v3), (5, .int v5), (6, .int v6)] dX4_costBy_185 rfl rfl (by decide) rfl ?_
  refine J_goto (tgt := 100) C dX4_costBy_188 (by decide) ?_
  refine J_lv [1, 2, 3, 4, 5, 6, 0] rfl ?_
  exact hB100 _ _ _ _ h
def P_X4_costBy_168 (K : Int32 → MW → Prop) (B100 : MW → Int32 → Int32 → Int32 → Prop) (E191 : MW → Int32 → Int32 → Prop) (w : MW) (v1 : Int32) (v2 : Int32) (v3 : Int32) (v5 : Int32) (v6 : Int32) (v7 : Int32) : Prop := vp_in v7 80 ∧ (P_X4_cellCost (fun r_6 => P_X4_costBy_185 K B100 E191 w v1 v2 v3 (v5 + r_6) v6 v7) w v1 (md_column w v7.toNatClampNeg))
set_option maxRecDepth 10000 in
theorem s_X4_costBy_168 {x : Mx} {g : Gd} {a : Nat → Nat} (C : Cx x g (sA 12 a) (mCl g a) cX4_costBy 8 RX4 (some .int) 7 153) {K : Int32 → MW → Prop}  {v1 : Int32} {v2 : Int32} {v3 : Int32} {v5 : Int32} {v6 : Int32} {v7 : Int32} {B100 : MW → Int32 → Int32 → Int32 → Prop} {E191 : MW → Int32 → Int32 → Prop} (hB100 : ∀ (w : MW) (v5 : Int32) (v6 : Int32) (v7 : Int32), B100 w v5 v6 v7 → J x g (sA 12 a) (mCl g a) 8 (JQ x (sA 12 a) (QcI g (sA 12 a) (mCl g a) K)) w 100 [(0, .ref (a 0)), (1, .int v1), (2, .int v2), (3, .int v3), (5, .int v5), (6, .int v6), (7, .int v7)] []) (hE191 : ∀ (w : MW) (v5 : Int32) (v6 : Int32), E191 w v5 v6 → J x g (sA 12 a) (mCl g a) 8 (JQ x (sA 12 a) (QcI g (sA 12 a) (mCl g a) K)) w 191 [(2, .int v2), (5, .int v5), (6, .int v6)] []) {w : MW} (h : P_X4_costBy_168 K B100 E191 w v1 v2 v3 v5 v6 v7) : J x g (sA 12 a) (mCl g a) 8 (JQ x (sA 12 a) (QcI g (sA 12 a) (mCl g a) K)) w 168 [(0, .ref (a 0)), (1, .int v1), (2, .int v2), (3, .int v3), (5, .int v5), (6, .int v6), (7, .int v7)] [] := by
  unfold P_X4_costBy_168 at h
  refine J_iload C 4 dX4_costBy_168 rfl ?_
  refine J_aload_n C 0 dX4_costBy_170 rfl rfl ?_
  refine J_iload_n C 1 dX4_costBy_171 rfl rfl ?_
  refine J_aload_n C 0 dX4_costBy_172 rfl rfl ?_
  refine G_md_column C mw_480 dX4_costBy_173 ?_
  refine J_iload C 6 dX4_costBy_176 rfl ?_
  refine L_md_column C dX4_costBy_178 h (fun h => ?_)
  refine k_X4_cellCost C mw_640 dX4_costBy_179 ⟨Nat.le_of_ble_eq_true rfl, Nat.le_of_ble_eq_true rfl⟩ (Nat.le_of_ble_eq_true rfl) h (fun r_6 h => ?_)
  refine J_iadd C dX4_costBy_182 ?_
  refine J_istore C [(5, .int (v5 + r_6)), (0, .ref (a 0)), (1, .int v1), (2, .int v2), (3, .int v3), (6, .int v6), (7, .int v7)] dX4_costBy_183 (by decide) rfl ?_
  refine J_lv [1, 2, 3, 4, 0, 5, 6] rfl ?_
  exact s_X4_costBy_185 C hB100 hE191 h
def P_X4_costBy_100 (K : Int32 → MW → Prop) (E191 : MW → Int32 → Int32 → Prop) (v1 : Int32) (v2 : Int32) (v3 : Int32) : Nat → MW → Int32 → Int32 → Int32 → Prop
  | 0, _, _, _, _ => False
  | n + 1, w, v5, v6, v7 => ((md_columnMany w) ≤ v7 → E191 w v5 v6) ∧ (¬ (md_columnMany w) ≤ v7 → vp_in v7 80 ∧ (P_X4_isMissing (fun r_3 => (r_3 = 0 → vp_in v7 80 ∧ (P_X4_tells (fun r_4 w_5 => (r_4 = 0 → K (-1 : Int32) w_5) ∧ (¬ r_4 = 0 → (¬ v2 = (4 : Int32) → P_X4_costBy_168 K (P_X4_costBy_100 K E191 v1 v2 v3 n) E191 w_5 v1 v2 v3 v5 v6 v7) ∧ (v2 = (4 : Int32) → P_X4_topOf (fun r_7 => ((lg_cmp (md_value w_5) r_7) < 0 → P_X4_costBy_168 K (P_X4_costBy_100 K E191 v1 v2 v3 n) E191 w_5 v1 v2 v3 v5 v6 v7) ∧ (¬ (lg_cmp (md_value w_5) r_7) < 0 → K (-1 : Int32) w_5)) v1))) w v1 (md_column w v7.toNatClampNeg) v3)) ∧ (¬ r_3 = 0 → P_X4_costBy_185 K (P_X4_costBy_100 K E191 v1 v2 v3 n) E191 w v1 v2 v3 (v5 + (2 : Int32)) (v6 + (1 : Int32)) v7)) w (md_column w v7.toNatClampNeg) v2))
set_option maxRecDepth 10000 in
theorem s_X4_costBy_100 {x : Mx} {g : Gd} {a : Nat → Nat} (C : Cx x g (sA 12 a) (mCl g a) cX4_costBy 8 RX4 (some .int) 7 153) {K : Int32 → MW → Prop}  {v1 : Int32} {v2 : Int32} {v3 : Int32} {E191 : MW → Int32 → Int32 → Prop} (hE191 : ∀ (w : MW) (v5 : Int32) (v6 : Int32), E191 w v5 v6 → J x g (sA 12 a) (mCl g a) 8 (JQ x (sA 12 a) (QcI g (sA 12 a) (mCl g a) K)) w 191 [(2, .int v2), (5, .int v5), (6, .int v6)] []) : ∀ (n : Nat) (w : MW) (v5 : Int32) (v6 : Int32) (v7 : Int32), P_X4_costBy_100 K E191 v1 v2 v3 n w v5 v6 v7 → J x g (sA 12 a) (mCl g a) 8 (JQ x (sA 12 a) (QcI g (sA 12 a) (mCl g a) K)) w 100 [(0, .ref (a 0)), (1, .int v1), (2, .int v2), (3, .int v3), (5, .int v5), (6, .int v6), (7, .int v7)] [] := by
  intro n
  induction n with
  | zero => intro w v5 v6 v7 h; exact h.elim
  | succ n ih =>
    intro w v5 v6 v7 h
    unfold P_X4_costBy_100 at h
    refine J_iload C 6 dX4_costBy_100 rfl ?_
    refine J_aload_n C 0 dX4_costBy_102 rfl rfl ?_
    refine G_md_columnMany C mw_482 dX4_costBy_103 ?_
    refine J_icmp_ge (tgt := 191) C dX4_costBy_106 (by decide) h (fun h => ?_) (fun h => ?_)
    · refine J_lv [2, 4, 5] rfl ?_
      exact hE191 _ _ _ h
    · refine J_aload_n C 0 dX4_costBy_109 rfl rfl ?_
      refine J_aload_n C 0 dX4_costBy_110 rfl rfl ?_
      refine G_md_column C mw_480 dX4_costBy_111 ?_
      refine J_iload C 6 dX4_costBy_114 rfl ?_
      refine L_md_column C dX4_costBy_116 h (fun h => ?_)
      refine J_iload_n C 2 dX4_costBy_117 rfl rfl ?_
      refine k_X4_isMissing C mw_576 dX4_costBy_118 ⟨Nat.le_of_ble_eq_true rfl, Nat.le_of_ble_eq_true rfl⟩ (Nat.le_of_ble_eq_true rfl) h (fun r_3 h => ?_)
      refine J_if_eq (tgt := 133) C dX4_costBy_121 (by decide) h (fun h => ?_) (fun h => ?_)
      · refine J_aload_n C 0 dX4_costBy_133 rfl rfl ?_
        refine J_iload_n C 1 dX4_costBy_134 rfl rfl ?_
        refine J_aload_n C 0 dX4_costBy_135 rfl rfl ?_
        refine G_md_column C mw_480 dX4_costBy_136 ?_
        refine J_iload C 6 dX4_costBy_139 rfl ?_
        refine L_md_column C dX4_costBy_141 h (fun h => ?_)
        refine J_iload_n C 3 dX4_costBy_142 rfl rfl ?_
        refine k_X4_tells C mw_587 dX4_costBy_143 ⟨Nat.le_of_ble_eq_true rfl, Nat.le_of_ble_eq_true rfl⟩ (Nat.le_of_ble_eq_true rfl) h (fun r_4 w_5 h => ?_)
        refine J_if_eq (tgt := 166) C dX4_costBy_146 (by decide) h (fun h => ?_) (fun h => ?_)
        · refine J_iconst (v := (-1 : Int32)) C dX4_costBy_166 (by decide) ?_
          exact J_iret C dX4_costBy_167 h
        · refine J_iload_n C 2 dX4_costBy_149 rfl rfl ?_
          refine J_iconst (v := (4 : Int32)) C dX4_costBy_150 (by decide) ?_
          refine J_icmp_ne (tgt := 168) C dX4_costBy_151 (by decide) h (fun h => ?_) (fun h => ?_)
          · refine J_lv [0, 1, 2, 3, 4, 5, 6] rfl ?_
            exact s_X4_costBy_168 C ih hE191 h
          · refine J_aload_n C 0 dX4_costBy_154 rfl rfl ?_
            refine G_md_value C mw_478 dX4_costBy_155 ?_
            refine J_iload_n C 1 dX4_costBy_158 rfl rfl ?_
            refine k_X4_topOf C mw_636 dX4_costBy_159 ⟨Nat.le_of_ble_eq_true rfl, Nat.le_of_ble_eq_true rfl⟩ (Nat.le_of_ble_eq_true rfl) h (fun r_7 h => ?_)
            refine J_lcmp C dX4_costBy_162 ?_
            refine J_if_lt (tgt := 168) C dX4_costBy_163 (by decide) h (fun h => ?_) (fun h => ?_)
            · refine J_lv [0, 1, 2, 3, 4, 5, 6] rfl ?_
              exact s_X4_costBy_168 C ih hE191 h
            · refine J_iconst (v := (-1 : Int32)) C dX4_costBy_166 (by decide) ?_
              exact J_iret C dX4_costBy_167 h
      · refine J_iinc C 5 [(6, .int (v6 + (1 : Int32))), (0, .ref (a 0)), (1, .int v1), (2, .int v2), (3, .int v3), (5, .int v5), (7, .int v7)] dX4_costBy_124 rfl rfl (by decide) rfl ?_
        refine J_iinc C 5 [(5, .int (v5 + (2 : Int32))), (6, .int (v6 + (1 : Int32))), (0, .ref (a 0)), (1, .int v1), (2, .int v2), (3, .int v3), (7, .int v7)] dX4_costBy_127 rfl rfl (by decide) rfl ?_
        refine J_goto (tgt := 185) C dX4_costBy_130 (by decide) ?_
        refine J_lv [2, 3, 4, 5, 0, 1, 6] rfl ?_
        exact s_X4_costBy_185 C ih hE191 h
def P_X4_costBy_202 (K : Int32 → MW → Prop) (w : MW) (v2 : Int32) (v5 : Int32) : Prop := (v2 ≤ 0 → K v5 w) ∧ (¬ v2 ≤ 0 → K (v5 + (6 : Int32)) w)
set_option maxRecDepth 10000 in
theorem s_X4_costBy_202 {x : Mx} {g : Gd} {a : Nat → Nat} (C : Cx x g (sA 12 a) (mCl g a) cX4_costBy 8 RX4 (some .int) 7 153) {K : Int32 → MW → Prop}  {v2 : Int32} {v5 : Int32} {w : MW} (h : P_X4_costBy_202 K w v2 v5) : J x g (sA 12 a) (mCl g a) 8 (JQ x (sA 12 a) (QcI g (sA 12 a) (mCl g a) K)) w 202 [(2, .int v2), (5, .int v5)] [] := by
  unfold P_X4_costBy_202 at h
  refine J_iload_n C 0 dX4_costBy_202 rfl rfl ?_
  refine J_if_le (tgt := 214) C dX4_costBy_203 (by decide) h (fun h => ?_) (fun h => ?_)
  · refine J_iload C 1 dX4_costBy_214 rfl ?_
    exact J_iret C dX4_costBy_216 h
  · refine J_iload C 1 dX4_costBy_206 rfl ?_
    refine J_bipush (v := (6 : Int32)) C dX4_costBy_208 (by decide) ?_
    refine J_iadd C dX4_costBy_210 ?_
    refine J_goto (tgt := 216) C dX4_costBy_211 (by decide) ?_
    exact J_iret C dX4_costBy_216 h
def P_X4_costBy_92 (K : Int32 → MW → Prop) (w : MW) (v1 : Int32) (v2 : Int32) (v3 : Int32) (s0 : Int32) : Prop := ∃ nf : Nat, P_X4_costBy_100 K (fun w_8 v5_9 v6_10 => (v2 ≤ 0 → P_X4_costBy_202 K w_8 v2 v5_9) ∧ (¬ v2 ≤ 0 → (¬ v6_10 = 0 → P_X4_costBy_202 K w_8 v2 v5_9) ∧ (v6_10 = 0 → K (-1 : Int32) w_8))) v1 v2 v3 nf w s0 (0 : Int32) (0 : Int32)
set_option maxRecDepth 10000 in
theorem s_X4_costBy_92 {x : Mx} {g : Gd} {a : Nat → Nat} (C : Cx x g (sA 12 a) (mCl g a) cX4_costBy 8 RX4 (some .int) 7 153) {K : Int32 → MW → Prop}  {v1 : Int32} {v2 : Int32} {v3 : Int32} {s0 : Int32} {w : MW} (h : P_X4_costBy_92 K w v1 v2 v3 s0) : J x g (sA 12 a) (mCl g a) 8 (JQ x (sA 12 a) (QcI g (sA 12 a) (mCl g a) K)) w 92 [(0, .ref (a 0)), (1, .int v1), (2, .int v2), (3, .int v3)] [.int s0] := by
  unfold P_X4_costBy_92 at h
  refine J_istore C [(5, .int s0), (0, .ref (a 0)), (1, .int v1), (2, .int v2), (3, .int v3)] dX4_costBy_92 (by decide) rfl ?_
  refine J_iconst (v := (0 : Int32)) C dX4_costBy_94 (by decide) ?_
  refine J_istore C [(6, .int (0 : Int32)), (5, .int s0), (0, .ref (a 0)), (1, .int v1), (2, .int v2), (3, .int v3)] dX4_costBy_95 (by decide) rfl ?_
  refine J_iconst (v := (0 : Int32)) C dX4_costBy_97 (by decide) ?_
  refine J_istore C [(7, .int (0 : Int32)), (6, .int (0 : Int32)), (5, .int s0), (0, .ref (a 0)), (1, .int v1), (2, .int v2), (3, .int v3)] dX4_costBy_98 (by decide) rfl ?_
  obtain ⟨nf, h⟩ := h
  refine J_lv [3, 4, 5, 6, 2, 1, 0] rfl ?_
  refine s_X4_costBy_100 C (fun w_8 v5_9 v6_10 h => ?_) nf _ _ _ _ h
  · refine J_iload_n C 0 dX4_costBy_191 rfl rfl ?_
    refine J_if_le (tgt := 202) C dX4_costBy_192 (by decide) h (fun h => ?_) (fun h => ?_)
    · refine J_lv [0, 1] rfl ?_
      exact s_X4_costBy_202 C h
    · refine J_iload C 2 dX4_costBy_195 rfl ?_
      refine J_if_ne (tgt := 202) C dX4_costBy_197 (by decide) h (fun h => ?_) (fun h => ?_)
      · refine J_lv [0, 1] rfl ?_
        exact s_X4_costBy_202 C h
      · refine J_iconst (v := (-1 : Int32)) C dX4_costBy_200 (by decide) ?_
        exact J_iret C dX4_costBy_201 h
def P_X4_costBy_40 (K : Int32 → MW → Prop) (w : MW) (v1 : Int32) (v2 : Int32) (v3 : Int32) : Prop := (¬ v1 = 0 → ((7 : Int32) ≤ v1 → ((22 : Int32) ≤ v1 → ((31 : Int32) ≤ v1 → vp_in v3 960 ∧ (P_X4_costBy_92 K w v1 v2 v3 ((14 : Int32) + ((2 : Int32) * (md_cellSize w v3.toNatClampNeg))))) ∧ (¬ (31 : Int32) ≤ v1 → P_X4_costBy_92 K w v1 v2 v3 (20 : Int32))) ∧ (¬ (22 : Int32) ≤ v1 → P_X4_costBy_92 K w v1 v2 v3 (16 : Int32))) ∧ (¬ (7 : Int32) ≤ v1 → P_X4_costBy_92 K w v1 v2 v3 (12 : Int32))) ∧ (v1 = 0 → P_X4_costBy_92 K w v1 v2 v3 (0 : Int32))
set_option maxRecDepth 10000 in
theorem s_X4_costBy_40 {x : Mx} {g : Gd} {a : Nat → Nat} (C : Cx x g (sA 12 a) (mCl g a) cX4_costBy 8 RX4 (some .int) 7 153) {K : Int32 → MW → Prop}  {v1 : Int32} {v2 : Int32} {v3 : Int32} {w : MW} (h : P_X4_costBy_40 K w v1 v2 v3) : J x g (sA 12 a) (mCl g a) 8 (JQ x (sA 12 a) (QcI g (sA 12 a) (mCl g a) K)) w 40 [(0, .ref (a 0)), (1, .int v1), (2, .int v2), (3, .int v3)] [] := by
  unfold P_X4_costBy_40 at h
  refine J_iload_n C 1 dX4_costBy_40 rfl rfl ?_
  refine J_if_ne (tgt := 48) C dX4_costBy_41 (by decide) h (fun h => ?_) (fun h => ?_)
  · refine J_iload_n C 1 dX4_costBy_48 rfl rfl ?_
    refine J_bipush (v := (7 : Int32)) C dX4_costBy_49 (by decide) ?_
    refine J_icmp_ge (tgt := 59) C dX4_costBy_51 (by decide) h (fun h => ?_) (fun h => ?_)
    · refine J_iload_n C 1 dX4_costBy_59 rfl rfl ?_
      refine J_bipush (v := (22 : Int32)) C dX4_costBy_60 (by decide) ?_
      refine J_icmp_ge (tgt := 70) C dX4_costBy_62 (by decide) h (fun h => ?_) (fun h => ?_)
      · refine J_iload_n C 1 dX4_costBy_70 rfl rfl ?_
        refine J_bipush (v := (31 : Int32)) C dX4_costBy_71 (by decide) ?_
        refine J_icmp_ge (tgt := 81) C dX4_costBy_73 (by decide) h (fun h => ?_) (fun h => ?_)
        · refine J_bipush (v := (14 : Int32)) C dX4_costBy_81 (by decide) ?_
          refine J_iconst (v := (2 : Int32)) C dX4_costBy_83 (by decide) ?_
          refine J_aload_n C 0 dX4_costBy_84 rfl rfl ?_
          refine G_md_cellSize C mw_473 dX4_costBy_85 ?_
          refine J_iload_n C 3 dX4_costBy_88 rfl rfl ?_
          refine L_md_cellSize C dX4_costBy_89 h (fun h => ?_)
          refine J_imul C dX4_costBy_90 ?_
          refine J_iadd C dX4_costBy_91 ?_
          refine J_lv [0, 1, 2, 3] rfl ?_
          exact s_X4_costBy_92 C h
        · refine J_bipush (v := (20 : Int32)) C dX4_costBy_76 (by decide) ?_
          refine J_goto (tgt := 92) C dX4_costBy_78 (by decide) ?_
          refine J_lv [0, 1, 2, 3] rfl ?_
          exact s_X4_costBy_92 C h
      · refine J_bipush (v := (16 : Int32)) C dX4_costBy_65 (by decide) ?_
        refine J_goto (tgt := 92) C dX4_costBy_67 (by decide) ?_
        refine J_lv [0, 1, 2, 3] rfl ?_
        exact s_X4_costBy_92 C h
    · refine J_bipush (v := (12 : Int32)) C dX4_costBy_54 (by decide) ?_
      refine J_goto (tgt := 92) C dX4_costBy_56 (by decide) ?_
      refine J_lv [0, 1, 2, 3] rfl ?_
      exact s_X4_costBy_92 C h
  · refine J_iconst (v := (0 : Int32)) C dX4_costBy_44 (by decide) ?_
    refine J_goto (tgt := 92) C dX4_costBy_45 (by decide) ?_
    refine J_lv [0, 1, 2, 3] rfl ?_
    exact s_X4_costBy_92 C h
def P_X4_costBy_28 (K : Int32 → MW → Prop) (w : MW) (v1 : Int32) (v2 : Int32) (v3 : Int32) (v4 : Int32) : Prop := (¬ v2 = (4 : Int32) → P_X4_costBy_40 K w v1 v2 v3) ∧ (v2 = (4 : Int32) → (¬ v4 = 0 → P_X4_costBy_40 K w v1 v2 v3) ∧ (v4 = 0 → K (-1 : Int32) w))
set_option maxRecDepth 10000 in
theorem s_X4_costBy_28 {x : Mx} {g : Gd} {a : Nat → Nat} (C : Cx x g (sA 12 a) (mCl g a) cX4_costBy 8 RX4 (some .int) 7 153) {K : Int32 → MW → Prop}  {v1 : Int32} {v2 : Int32} {v3 : Int32} {v4 : Int32} {w : MW} (h : P_X4_costBy_28 K w v1 v2 v3 v4) : J x g (sA 12 a) (mCl g a) 8 (JQ x (sA 12 a) (QcI g (sA 12 a) (mCl g a) K)) w 28 [(0, .ref (a 0)), (1, .int v1), (2, .int v2), (3, .int v3), (4, .int v4)] [] := by
  unfold P_X4_costBy_28 at h
  refine J_iload_n C 2 dX4_costBy_28 rfl rfl ?_
  refine J_iconst (v := (4 : Int32)) C dX4_costBy_29 (by decide) ?_
  refine J_icmp_ne (tgt := 40) C dX4_costBy_30 (by decide) h (fun h => ?_) (fun h => ?_)
  · refine J_lv [0, 1, 2, 3] rfl ?_
    exact s_X4_costBy_40 C h
  · refine J_iload C 4 dX4_costBy_33 rfl ?_
    refine J_if_ne (tgt := 40) C dX4_costBy_35 (by decide) h (fun h => ?_) (fun h => ?_)
    · refine J_lv [0, 1, 2, 3] rfl ?_
      exact s_X4_costBy_40 C h
    · refine J_iconst (v := (-1 : Int32)) C dX4_costBy_38 (by decide) ?_
      exact J_iret C dX4_costBy_39 h
def P_X4_costBy (K : Int32 → MW → Prop) (w : MW) (v1 : Int32) (v2 : Int32) : Prop := P_X4_firstOf (fun r_1 => P_X4_in (fun r_2 => (r_1 < 0 → K (-1 : Int32) w) ∧ (¬ r_1 < 0 → (¬ v1 = 0 → P_X4_costBy_28 K w v1 v2 r_1 r_2) ∧ (v1 = 0 → (0 < v2 → K (-1 : Int32) w) ∧ (¬ 0 < v2 → P_X4_costBy_28 K w v1 v2 r_1 r_2)))) v1 (7 : Int32) (21 : Int32)) w v2
set_option maxRecDepth 10000 in
theorem s_X4_costBy {x : Mx} {g : Gd} {a : Nat → Nat} (C : Cx x g (sA 12 a) (mCl g a) cX4_costBy 8 RX4 (some .int) 7 153) {K : Int32 → MW → Prop}  {w : MW} {v1 : Int32} {v2 : Int32} (h : P_X4_costBy K w v1 v2) : J x g (sA 12 a) (mCl g a) 8 (JQ x (sA 12 a) (QcI g (sA 12 a) (mCl g a) K)) w 0 [(0, .ref (a 0)), (1, .int v1), (2, .int v2)] [] := by
  unfold P_X4_costBy at h
  refine J_aload_n C 0 dX4_costBy_0 rfl rfl ?_
  refine J_iload_n C 2 dX4_costBy_1 rfl rfl ?_
  refine k_X4_firstOf C mw_573 dX4_costBy_2 ⟨Nat.le_of_ble_eq_true rfl, Nat.le_of_ble_eq_true rfl⟩ (Nat.le_of_ble_eq_true rfl) h (fun r_1 h => ?_)
  refine J_istore_n C [(3, .int r_1), (0, .ref (a 0)), (1, .int v1), (2, .int v2)] dX4_costBy_5 rfl (by decide) rfl ?_
  refine J_iload_n C 2 dX4_costBy_6 rfl rfl ?_
  refine J_bipush (v := (7 : Int32)) C dX4_costBy_7 (by decide) ?_
  refine J_bipush (v := (21 : Int32)) C dX4_costBy_9 (by decide) ?_
  refine k_X4_in C mw_500 dX4_costBy_11 ⟨Nat.le_of_ble_eq_true rfl, Nat.le_of_ble_eq_true rfl⟩ (Nat.le_of_ble_eq_true rfl) h (fun r_2 h => ?_)
  refine J_istore C [(4, .int r_2), (3, .int r_1), (0, .ref (a 0)), (1, .int v1), (2, .int v2)] dX4_costBy_14 (by decide) rfl ?_
  refine J_iload_n C 1 dX4_costBy_16 rfl rfl ?_
  refine J_if_lt (tgt := 38) C dX4_costBy_17 (by decide) h (fun h => ?_) (fun h => ?_)
  · refine J_iconst (v := (-1 : Int32)) C dX4_costBy_38 (by decide) ?_
    exact J_iret C dX4_costBy_39 h
  · refine J_iload_n C 3 dX4_costBy_20 rfl rfl ?_
    refine J_if_ne (tgt := 28) C dX4_costBy_21 (by decide) h (fun h => ?_) (fun h => ?_)
    · refine J_lv [2, 3, 4, 1, 0] rfl ?_
      exact s_X4_costBy_28 C h
    · refine J_iload_n C 4 dX4_costBy_24 rfl rfl ?_
      refine J_if_gt (tgt := 38) C dX4_costBy_25 (by decide) h (fun h => ?_) (fun h => ?_)
      · refine J_iconst (v := (-1 : Int32)) C dX4_costBy_38 (by decide) ?_
        exact J_iret C dX4_costBy_39 h
      · refine J_lv [2, 3, 4, 1, 0] rfl ?_
        exact s_X4_costBy_28 C h
theorem c_X4_costBy {l : Launch} {g : Gd} {a : Nat → Nat} {w : MW} {K : Int32 → MW → Prop} {v1 : Int32} {v2 : Int32} (h : P_X4_costBy K w v1 v2) : Kt l yX4_costBy cX4_costBy 8 (some .int) 7 153 g (sA 12 a) (mCl g a) [.ref (a 0), .int v1, .int v2] w (QcI g (sA 12 a) (mCl g a) K) :=
  Kt_of (by decide +kernel) (Nat.le_of_ble_eq_true rfl) (fun x hx C => s_X4_costBy C h)
theorem k_X4_costBy {x : Mx} {g : Gd} {a : Nat → Nat} {cc : ByteArray} {nL : Nat} {own : String} {ret : Option FieldType} {F L : Nat} {Q : State → Prop} {w : MW} {pc : Nat} {lv : List (Nat × Value)} {st : List Value} (C : Cx x g (sA 12 a) (mCl g a) cc nL own ret F L) {index : Nat} {K : Int32 → MW → Prop} {v1 : Int32} {v2 : Int32} (h1 : Cond.methodLink own index yX4_costBy ∈ gT) (hd : decode cc pc = .ok (.invokevirtual index, 3)) (hR : 7 + 1 ≤ F ∧ 8 + (8 + 11) + 153 ≤ L) (hst : (st.map fun v => v.category).sum ≤ 8) (h : P_X4_costBy K w v1 v2) (k : ∀ (r : Int32) (w' : MW), K r w' → J x g (sA 12 a) (mCl g a) nL Q w' (pc + 3) lv (.int r :: st)) : J x g (sA 12 a) (mCl g a) nL Q w (pc) lv (.int v2 :: .int v1 :: .ref (a 0) :: st) :=
  J_callVi C (As := [.int v1, .int v2]) (b := a 0) (n := 2) (c_X4_costBy h) h1 mw_571 mw_785 mw_6 mw_572 (by decide +kernel) hR rfl (rc_X4 C) hst hd k
-- X4_judge (changes, room 8 180)
def P_X4_judge_74 (K : MW → Prop) (B25 : MW → Int32 → Prop) (E80 : MW → Prop) (w : MW) (v1 : Int32) (v2 : Int32) : Prop := B25 w (v2 + (1 : Int32))
set_option maxRecDepth 10000 in
theorem s_X4_judge_74 {x : Mx} {g : Gd} {a : Nat → Nat} (C : Cx x g (sA 12 a) (mCl g a) cX4_judge 4 RX4 none 8 180) {K : MW → Prop}  {v1 : Int32} {v2 : Int32} {B25 : MW → Int32 → Prop} {E80 : MW → Prop} (hB25 : ∀ (w : MW) (v2 : Int32), B25 w v2 → J x g (sA 12 a) (mCl g a) 4 (JQ x (sA 12 a) (QcV g (sA 12 a) (mCl g a) K)) w 25 [(0, .ref (a 0)), (1, .int v1), (2, .int v2)] []) (hE80 : ∀ (w : MW), E80 w → J x g (sA 12 a) (mCl g a) 4 (JQ x (sA 12 a) (QcV g (sA 12 a) (mCl g a) K)) w 80 [(0, .ref (a 0)), (1, .int v1)] []) {w : MW} (h : P_X4_judge_74 K B25 E80 w v1 v2) : J x g (sA 12 a) (mCl g a) 4 (JQ x (sA 12 a) (QcV g (sA 12 a) (mCl g a) K)) w 74 [(0, .ref (a 0)), (1, .int v1), (2, .int v2)] [] := by
  unfold P_X4_judge_74 at h
  refine J_iinc C 2 [(2, .int (v2 + (1 : Int32))), (0, .ref (a 0)), (1, .int v1)] dX4_judge_74 rfl rfl (by decide) rfl ?_
  refine J_goto (tgt := 25) C dX4_judge_77 (by decide) ?_
  refine J_lv [1, 2, 0] rfl ?_
  exact hB25 _ _ h
def P_X4_judge_59 (K : MW → Prop) (B25 : MW → Int32 → Prop) (E80 : MW → Prop) (w : MW) (v1 : Int32) (v2 : Int32) (v3 : Int32) : Prop := P_X4_judge_74 K B25 E80 (md_bestCost_s (md_bestCode_s (md_bestForm_s w v1) v2) v3) v1 v2
set_option maxRecDepth 10000 in
theorem s_X4_judge_59 {x : Mx} {g : Gd} {a : Nat → Nat} (C : Cx x g (sA 12 a) (mCl g a) cX4_judge 4 RX4 none 8 180) {K : MW → Prop}  {v1 : Int32} {v2 : Int32} {v3 : Int32} {B25 : MW → Int32 → Prop} {E80 : MW → Prop} (hB25 : ∀ (w : MW) (v2 : Int32), B25 w v2 → J x g (sA 12 a) (mCl g a) 4 (JQ x (sA 12 a) (QcV g (sA 12 a) (mCl g a) K)) w 25 [(0, .ref (a 0)), (1, .int v1), (2, .int v2)] []) (hE80 : ∀ (w : MW), E80 w → J x g (sA 12 a) (mCl g a) 4 (JQ x (sA 12 a) (QcV g (sA 12 a) (mCl g a) K)) w 80 [(0, .ref (a 0)), (1, .int v1)] []) {w : MW} (h : P_X4_judge_59 K B25 E80 w v1 v2 v3) : J x g (sA 12 a) (mCl g a) 4 (JQ x (sA 12 a) (QcV g (sA 12 a) (mCl g a) K)) w 59 [(0, .ref (a 0)), (1, .int v1), (2, .int v2), (3, .int v3)] [] := by
  unfold P_X4_judge_59 at h
  refine J_aload_n C 0 dX4_judge_59 rfl rfl ?_
  refine J_iload_n C 1 dX4_judge_60 rfl rfl ?_
  refine S_md_bestForm C mw_483 dX4_judge_61 ?_
  refine J_aload_n C 0 dX4_judge_64 rfl rfl ?_
  refine J_iload_n C 2 dX4_judge_65 rfl rfl ?_
  refine S_md_bestCode C mw_484 dX4_judge_66 ?_
  refine J_aload_n C 0 dX4_judge_69 rfl rfl ?_
  refine J_iload_n C 3 dX4_judge_70 rfl rfl ?_
  refine S_md_bestCost C mw_485 dX4_judge_71 ?_
  refine J_lv [0, 1, 2] rfl ?_
  exact s_X4_judge_74 C hB25 hE80 h
def P_X4_judge_25 (K : MW → Prop) (E80 : MW → Prop) (v1 : Int32) : Nat → MW → Int32 → Prop
  | 0, _, _ => False
  | n + 1, w, v2 => ((5 : Int32) ≤ v2 → E80 w) ∧ (¬ (5 : Int32) ≤ v2 → P_X4_costBy (fun r_1 w_2 => (r_1 < 0 → P_X4_judge_74 K (P_X4_judge_25 K E80 v1 n) E80 w_2 v1 v2) ∧ (¬ r_1 < 0 → ((md_bestForm w_2) < 0 → P_X4_judge_59 K (P_X4_judge_25 K E80 v1 n) E80 w_2 v1 v2 r_1) ∧ (¬ (md_bestForm w_2) < 0 → (r_1 < (md_bestCost w_2) → P_X4_judge_59 K (P_X4_judge_25 K E80 v1 n) E80 w_2 v1 v2 r_1) ∧ (¬ r_1 < (md_bestCost w_2) → P_X4_judge_74 K (P_X4_judge_25 K E80 v1 n) E80 w_2 v1 v2)))) w v1 v2)
set_option maxRecDepth 10000 in
theorem s_X4_judge_25 {x : Mx} {g : Gd} {a : Nat → Nat} (C : Cx x g (sA 12 a) (mCl g a) cX4_judge 4 RX4 none 8 180) {K : MW → Prop}  {v1 : Int32} {E80 : MW → Prop} (hE80 : ∀ (w : MW), E80 w → J x g (sA 12 a) (mCl g a) 4 (JQ x (sA 12 a) (QcV g (sA 12 a) (mCl g a) K)) w 80 [(0, .ref (a 0)), (1, .int v1)] []) : ∀ (n : Nat) (w : MW) (v2 : Int32), P_X4_judge_25 K E80 v1 n w v2 → J x g (sA 12 a) (mCl g a) 4 (JQ x (sA 12 a) (QcV g (sA 12 a) (mCl g a) K)) w 25 [(0, .ref (a 0)), (1, .int v1), (2, .int v2)] [] := by
  intro n
  induction n with
  | zero => intro w v2 h; exact h.elim
  | succ n ih =>
    intro w v2 h
    unfold P_X4_judge_25 at h
    refine J_iload_n C 2 dX4_judge_25 rfl rfl ?_
    refine J_iconst (v := (5 : Int32)) C dX4_judge_26 (by decide) ?_
    refine J_icmp_ge (tgt := 80) C dX4_judge_27 (by decide) h (fun h => ?_) (fun h => ?_)
    · refine J_lv [0, 1] rfl ?_
      exact hE80 _ h
    · refine J_aload_n C 0 dX4_judge_30 rfl rfl ?_
      refine J_iload_n C 1 dX4_judge_31 rfl rfl ?_
      refine J_iload_n C 2 dX4_judge_32 rfl rfl ?_
      refine k_X4_costBy C mw_570 dX4_judge_33 ⟨Nat.le_of_ble_eq_true rfl, Nat.le_of_ble_eq_true rfl⟩ (Nat.le_of_ble_eq_true rfl) h (fun r_1 w_2 h => ?_)
      refine J_istore_n C [(3, .int r_1), (0, .ref (a 0)), (1, .int v1), (2, .int v2)] dX4_judge_36 rfl (by decide) rfl ?_
      refine J_iload_n C 0 dX4_judge_37 rfl rfl ?_
      refine J_if_lt (tgt := 74) C dX4_judge_38 (by decide) h (fun h => ?_) (fun h => ?_)
      · refine J_lv [1, 2, 3] rfl ?_
        exact s_X4_judge_74 C ih hE80 h
      · refine J_aload_n C 1 dX4_judge_41 rfl rfl ?_
        refine G_md_bestForm C mw_483 dX4_judge_42 ?_
        refine J_if_lt (tgt := 59) C dX4_judge_45 (by decide) h (fun h => ?_) (fun h => ?_)
        · refine J_lv [1, 2, 3, 0] rfl ?_
          exact s_X4_judge_59 C ih hE80 h
        · refine J_iload_n C 0 dX4_judge_48 rfl rfl ?_
          refine J_aload_n C 1 dX4_judge_49 rfl rfl ?_
          refine G_md_bestCost C mw_485 dX4_judge_50 ?_
          refine J_icmp_lt (tgt := 59) C dX4_judge_53 (by decide) h (fun h => ?_) (fun h => ?_)
          · refine J_lv [1, 2, 3, 0] rfl ?_
            exact s_X4_judge_59 C ih hE80 h
          · refine J_goto (tgt := 74) C dX4_judge_56 (by decide) ?_
            refine J_lv [1, 2, 3] rfl ?_
            exact s_X4_judge_74 C ih hE80 h
def P_X4_judge_17 (K : MW → Prop) : Nat → MW → Int32 → Prop
  | 0, _, _ => False
  | n + 1, w, v1 => ((32 : Int32) ≤ v1 → K w) ∧ (¬ (32 : Int32) ≤ v1 → ∃ nf : Nat, P_X4_judge_25 K (fun w_3 => P_X4_judge_17 K n w_3 (v1 + (1 : Int32))) v1 nf w (0 : Int32))
set_option maxRecDepth 10000 in
theorem s_X4_judge_17 {x : Mx} {g : Gd} {a : Nat → Nat} (C : Cx x g (sA 12 a) (mCl g a) cX4_judge 4 RX4 none 8 180) {K : MW → Prop}  : ∀ (n : Nat) (w : MW) (v1 : Int32), P_X4_judge_17 K n w v1 → J x g (sA 12 a) (mCl g a) 4 (JQ x (sA 12 a) (QcV g (sA 12 a) (mCl g a) K)) w 17 [(0, .ref (a 0)), (1, .int v1)] [] := by
  intro n
  induction n with
  | zero => intro w v1 h; exact h.elim
  | succ n ih =>
    intro w v1 h
    unfold P_X4_judge_17 at h
    refine J_iload_n C 1 dX4_judge_17 rfl rfl ?_
    refine J_bipush (v := (32 : Int32)) C dX4_judge_18 (by decide) ?_
    refine J_icmp_ge (tgt := 86) C dX4_judge_20 (by decide) h (fun h => ?_) (fun h => ?_)
    · exact J_vret C dX4_judge_86 h
    · refine J_iconst (v := (0 : Int32)) C dX4_judge_23 (by decide) ?_
      refine J_istore_n C [(2, .int (0 : Int32)), (0, .ref (a 0)), (1, .int v1)] dX4_judge_24 rfl (by decide) rfl ?_
      obtain ⟨nf, h⟩ := h
      refine J_lv [1, 2, 0] rfl ?_
      refine s_X4_judge_25 C (fun w_3 h => ?_) nf _ _ h
      · refine J_iinc C 1 [(1, .int (v1 + (1 : Int32))), (0, .ref (a 0))] dX4_judge_80 rfl rfl (by decide) rfl ?_
        refine J_goto (tgt := 17) C dX4_judge_83 (by decide) ?_
        refine J_lv [1, 0] rfl ?_
        exact ih _ _ h
def P_X4_judge (K : MW → Prop) (w : MW) : Prop := ∃ nf : Nat, P_X4_judge_17 K nf (md_bestCost_s (md_bestCode_s (md_bestForm_s w (-1 : Int32)) (-1 : Int32)) (0 : Int32)) (0 : Int32)
set_option maxRecDepth 10000 in
theorem s_X4_judge {x : Mx} {g : Gd} {a : Nat → Nat} (C : Cx x g (sA 12 a) (mCl g a) cX4_judge 4 RX4 none 8 180) {K : MW → Prop}  {w : MW} (h : P_X4_judge K w) : J x g (sA 12 a) (mCl g a) 4 (JQ x (sA 12 a) (QcV g (sA 12 a) (mCl g a) K)) w 0 [(0, .ref (a 0))] [] := by
  unfold P_X4_judge at h
  refine J_aload_n C 0 dX4_judge_0 rfl rfl ?_
  refine J_iconst (v := (-1 : Int32)) C dX4_judge_1 (by decide) ?_
  refine S_md_bestForm C mw_483 dX4_judge_2 ?_
  refine J_aload_n C 0 dX4_judge_5 rfl rfl ?_
  refine J_iconst (v := (-1 : Int32)) C dX4_judge_6 (by decide) ?_
  refine S_md_bestCode C mw_484 dX4_judge_7 ?_
  refine J_aload_n C 0 dX4_judge_10 rfl rfl ?_
  refine J_iconst (v := (0 : Int32)) C dX4_judge_11 (by decide) ?_
  refine S_md_bestCost C mw_485 dX4_judge_12 ?_
  refine J_iconst (v := (0 : Int32)) C dX4_judge_15 (by decide) ?_
  refine J_istore_n C [(1, .int (0 : Int32)), (0, .ref (a 0))] dX4_judge_16 rfl (by decide) rfl ?_
  obtain ⟨nf, h⟩ := h
  refine J_lv [1, 0] rfl ?_
  refine s_X4_judge_17 C  nf _ _ h
theorem c_X4_judge {l : Launch} {g : Gd} {a : Nat → Nat} {w : MW} {K : MW → Prop} (h : P_X4_judge K w) : Kt l yX4_judge cX4_judge 4 none 8 180 g (sA 12 a) (mCl g a) [.ref (a 0)] w (QcV g (sA 12 a) (mCl g a) K) :=
  Kt_of (by decide +kernel) (Nat.le_of_ble_eq_true rfl) (fun x hx C => s_X4_judge C h)
theorem k_X4_judge {x : Mx} {g : Gd} {a : Nat → Nat} {cc : ByteArray} {nL : Nat} {own : String} {ret : Option FieldType} {F L : Nat} {Q : State → Prop} {w : MW} {pc : Nat} {lv : List (Nat × Value)} {st : List Value} (C : Cx x g (sA 12 a) (mCl g a) cc nL own ret F L) {index : Nat} {K : MW → Prop} (h1 : Cond.methodLink own index yX4_judge ∈ gT) (hd : decode cc pc = .ok (.invokevirtual index, 3)) (hR : 8 + 1 ≤ F ∧ 8 + (4 + 11) + 180 ≤ L) (hst : (st.map fun v => v.category).sum ≤ 8) (h : P_X4_judge K w) (k : ∀  (w' : MW), K w' → J x g (sA 12 a) (mCl g a) nL Q w' (pc + 3) lv st) : J x g (sA 12 a) (mCl g a) nL Q w (pc) lv (.ref (a 0) :: st) :=
  J_callVv C (As := []) (b := a 0) (n := 0) (c_X4_judge h) h1 mw_568 mw_784 mw_6 mw_569 (by decide +kernel) hR rfl (rc_X4 C) hst hd k
-- X4_rowCost (pure, room 3 62)
def P_X4_rowCost_75 (K : Int32 → Prop) (B51 : Int32 → Int32 → Prop) (w : MW) (v1 : Int32) (v3 : Int32) (v5 : Int32) (s0 : Int32) (s1 : Int32) : Prop := vp_in v5 960 ∧ (B51 (s1 + (s0 + ((8 : Int32) * (md_cellSize w v5.toNatClampNeg)))) (v5 + (1 : Int32)))
set_option maxRecDepth 10000 in
theorem s_X4_rowCost_75 {x : Mx} {g : Gd} {a : Nat → Nat} (C : Cx x g (sA 12 a) (mCl g a) cX4_rowCost 6 RX4 (some .int) 3 62) {K : Int32 → Prop} {w : MW}  {v1 : Int32} {v3 : Int32} {v5 : Int32} {s0 : Int32} {s1 : Int32} {B51 : Int32 → Int32 → Prop} (hB51 : ∀ (v4 : Int32) (v5 : Int32), B51 v4 v5 → J x g (sA 12 a) (mCl g a) 6 (JQ x (sA 12 a) (QcI g (sA 12 a) (mCl g a) (fun r w' => K r ∧ w' = w))) w 51 [(0, .ref (a 0)), (1, .int v1), (3, .int v3), (4, .int v4), (5, .int v5)] []) (h : P_X4_rowCost_75 K B51 w v1 v3 v5 s0 s1) : J x g (sA 12 a) (mCl g a) 6 (JQ x (sA 12 a) (QcI g (sA 12 a) (mCl g a) (fun r w' => K r ∧ w' = w))) w 75 [(0, .ref (a 0)), (1, .int v1), (3, .int v3), (5, .int v5)] [.int s0, .int s1] := by
  unfold P_X4_rowCost_75 at h
  refine J_bipush (v := (8 : Int32)) C dX4_rowCost_75 (by decide) ?_
  refine J_aload_n C 0 dX4_rowCost_77 rfl rfl ?_
  refine G_md_cellSize C mw_473 dX4_rowCost_78 ?_
  refine J_iload C 3 dX4_rowCost_81 rfl ?_
  refine L_md_cellSize C dX4_rowCost_83 h (fun h => ?_)
  refine J_imul C dX4_rowCost_84 ?_
  refine J_iadd C dX4_rowCost_85 ?_
  refine J_iadd C dX4_rowCost_86 ?_
  refine J_istore C [(4, .int (s1 + (s0 + ((8 : Int32) * (md_cellSize w v5.toNatClampNeg))))), (0, .ref (a 0)), (1, .int v1), (3, .int v3), (5, .int v5)] dX4_rowCost_87 (by decide) rfl ?_
  refine J_iinc C 4 [(5, .int (v5 + (1 : Int32))), (4, .int (s1 + (s0 + ((8 : Int32) * (md_cellSize w v5.toNatClampNeg))))), (0, .ref (a 0)), (1, .int v1), (3, .int v3)] dX4_rowCost_89 rfl rfl (by decide) rfl ?_
  refine J_goto (tgt := 51) C dX4_rowCost_92 (by decide) ?_
  refine J_lv [2, 3, 4, 1, 0] rfl ?_
  exact hB51 _ _ h
def P_X4_rowCost_51 (K : Int32 → Prop) (w : MW) (v1 : Int32) (v3 : Int32) : Nat → Int32 → Int32 → Prop
  | 0, _, _ => False
  | n + 1, v4, v5 => vp_in (v1 + (1 : Int32)) 81 ∧ (((md_rowFrom w (v1 + (1 : Int32)).toNatClampNeg) ≤ v5 → K v4) ∧ (¬ (md_rowFrom w (v1 + (1 : Int32)).toNatClampNeg) ≤ v5 → (v3 = 0 → P_X4_rowCost_75 K (P_X4_rowCost_51 K w v1 v3 n) w v1 v3 v5 (0 : Int32) v4) ∧ (¬ v3 = 0 → P_X4_rowCost_75 K (P_X4_rowCost_51 K w v1 v3 n) w v1 v3 v5 (4 : Int32) v4)))
set_option maxRecDepth 10000 in
theorem s_X4_rowCost_51 {x : Mx} {g : Gd} {a : Nat → Nat} (C : Cx x g (sA 12 a) (mCl g a) cX4_rowCost 6 RX4 (some .int) 3 62) {K : Int32 → Prop} {w : MW}  {v1 : Int32} {v3 : Int32} : ∀ (n : Nat) (v4 : Int32) (v5 : Int32), P_X4_rowCost_51 K w v1 v3 n v4 v5 → J x g (sA 12 a) (mCl g a) 6 (JQ x (sA 12 a) (QcI g (sA 12 a) (mCl g a) (fun r w' => K r ∧ w' = w))) w 51 [(0, .ref (a 0)), (1, .int v1), (3, .int v3), (4, .int v4), (5, .int v5)] [] := by
  intro n
  induction n with
  | zero => intro v4 v5 h; exact h.elim
  | succ n ih =>
    intro v4 v5 h
    unfold P_X4_rowCost_51 at h
    refine J_iload C 4 dX4_rowCost_51 rfl ?_
    refine J_aload_n C 0 dX4_rowCost_53 rfl rfl ?_
    refine G_md_rowFrom C mw_471 dX4_rowCost_54 ?_
    refine J_iload_n C 1 dX4_rowCost_57 rfl rfl ?_
    refine J_iconst (v := (1 : Int32)) C dX4_rowCost_58 (by decide) ?_
    refine J_iadd C dX4_rowCost_59 ?_
    refine L_md_rowFrom C dX4_rowCost_60 h (fun h => ?_)
    refine J_icmp_ge (tgt := 95) C dX4_rowCost_61 (by decide) h (fun h => ?_) (fun h => ?_)
    · refine J_iload C 3 dX4_rowCost_95 rfl ?_
      exact J_iret C dX4_rowCost_97 ⟨h, rfl⟩
    · refine J_iload C 3 dX4_rowCost_64 rfl ?_
      refine J_iload_n C 2 dX4_rowCost_66 rfl rfl ?_
      refine J_if_eq (tgt := 74) C dX4_rowCost_67 (by decide) h (fun h => ?_) (fun h => ?_)
      · refine J_iconst (v := (0 : Int32)) C dX4_rowCost_74 (by decide) ?_
        refine J_lv [0, 1, 2, 4] rfl ?_
        exact s_X4_rowCost_75 C ih h
      · refine J_iconst (v := (4 : Int32)) C dX4_rowCost_70 (by decide) ?_
        refine J_goto (tgt := 75) C dX4_rowCost_71 (by decide) ?_
        refine J_lv [0, 1, 2, 4] rfl ?_
        exact s_X4_rowCost_75 C ih h
def P_X4_rowCost_41 (K : Int32 → Prop) (w : MW) (v1 : Int32) (v3 : Int32) (s0 : Int32) : Prop := vp_in v1 81 ∧ (∃ nf : Nat, P_X4_rowCost_51 K w v1 v3 nf s0 (md_rowFrom w v1.toNatClampNeg))
set_option maxRecDepth 10000 in
theorem s_X4_rowCost_41 {x : Mx} {g : Gd} {a : Nat → Nat} (C : Cx x g (sA 12 a) (mCl g a) cX4_rowCost 6 RX4 (some .int) 3 62) {K : Int32 → Prop} {w : MW}  {v1 : Int32} {v3 : Int32} {s0 : Int32} (h : P_X4_rowCost_41 K w v1 v3 s0) : J x g (sA 12 a) (mCl g a) 6 (JQ x (sA 12 a) (QcI g (sA 12 a) (mCl g a) (fun r w' => K r ∧ w' = w))) w 41 [(0, .ref (a 0)), (1, .int v1), (3, .int v3)] [.int s0] := by
  unfold P_X4_rowCost_41 at h
  refine J_istore C [(4, .int s0), (0, .ref (a 0)), (1, .int v1), (3, .int v3)] dX4_rowCost_41 (by decide) rfl ?_
  refine J_aload_n C 1 dX4_rowCost_43 rfl rfl ?_
  refine G_md_rowFrom C mw_471 dX4_rowCost_44 ?_
  refine J_iload_n C 2 dX4_rowCost_47 rfl rfl ?_
  refine L_md_rowFrom C dX4_rowCost_48 h (fun h => ?_)
  refine J_istore C [(5, .int (md_rowFrom w v1.toNatClampNeg)), (4, .int s0), (0, .ref (a 0)), (1, .int v1), (3, .int v3)] dX4_rowCost_49 (by decide) rfl ?_
  obtain ⟨nf, h⟩ := h
  refine J_lv [2, 3, 4, 1, 0] rfl ?_
  refine s_X4_rowCost_51 C  nf _ _ h
def P_X4_rowCost_31 (K : Int32 → Prop) (w : MW) (v1 : Int32) (v3 : Int32) : Prop := (v3 = 0 → P_X4_rowCost_41 K w v1 v3 (30 : Int32)) ∧ (¬ v3 = 0 → P_X4_rowCost_41 K w v1 v3 (0 : Int32))
set_option maxRecDepth 10000 in
theorem s_X4_rowCost_31 {x : Mx} {g : Gd} {a : Nat → Nat} (C : Cx x g (sA 12 a) (mCl g a) cX4_rowCost 6 RX4 (some .int) 3 62) {K : Int32 → Prop} {w : MW}  {v1 : Int32} {v3 : Int32} (h : P_X4_rowCost_31 K w v1 v3) : J x g (sA 12 a) (mCl g a) 6 (JQ x (sA 12 a) (QcI g (sA 12 a) (mCl g a) (fun r w' => K r ∧ w' = w))) w 31 [(0, .ref (a 0)), (1, .int v1), (3, .int v3)] [] := by
  unfold P_X4_rowCost_31 at h
  refine J_iload_n C 2 dX4_rowCost_31 rfl rfl ?_
  refine J_if_eq (tgt := 39) C dX4_rowCost_32 (by decide) h (fun h => ?_) (fun h => ?_)
  · refine J_bipush (v := (30 : Int32)) C dX4_rowCost_39 (by decide) ?_
    refine J_lv [0, 1, 2] rfl ?_
    exact s_X4_rowCost_41 C h
  · refine J_iconst (v := (0 : Int32)) C dX4_rowCost_35 (by decide) ?_
    refine J_goto (tgt := 41) C dX4_rowCost_36 (by decide) ?_
    refine J_lv [0, 1, 2] rfl ?_
    exact s_X4_rowCost_41 C h
def P_X4_rowCost_16 (K : Int32 → Prop) (w : MW) (v1 : Int32) (s0 : Int32) : Prop := (¬ s0 = 0 → P_X4_rowCost_31 K w v1 s0) ∧ (s0 = 0 → P_X4_isOdd (fun r_1 => (¬ r_1 = 0 → P_X4_rowCost_31 K w v1 s0) ∧ (r_1 = 0 → K (0 : Int32))) w v1)
set_option maxRecDepth 10000 in
theorem s_X4_rowCost_16 {x : Mx} {g : Gd} {a : Nat → Nat} (C : Cx x g (sA 12 a) (mCl g a) cX4_rowCost 6 RX4 (some .int) 3 62) {K : Int32 → Prop} {w : MW}  {v1 : Int32} {s0 : Int32} (h : P_X4_rowCost_16 K w v1 s0) : J x g (sA 12 a) (mCl g a) 6 (JQ x (sA 12 a) (QcI g (sA 12 a) (mCl g a) (fun r w' => K r ∧ w' = w))) w 16 [(0, .ref (a 0)), (1, .int v1)] [.int s0] := by
  unfold P_X4_rowCost_16 at h
  refine J_istore_n C [(3, .int s0), (0, .ref (a 0)), (1, .int v1)] dX4_rowCost_16 rfl (by decide) rfl ?_
  refine J_iload_n C 0 dX4_rowCost_17 rfl rfl ?_
  refine J_if_ne (tgt := 31) C dX4_rowCost_18 (by decide) h (fun h => ?_) (fun h => ?_)
  · refine J_lv [1, 2, 0] rfl ?_
    exact s_X4_rowCost_31 C h
  · refine J_aload_n C 1 dX4_rowCost_21 rfl rfl ?_
    refine J_iload_n C 2 dX4_rowCost_22 rfl rfl ?_
    refine k_X4_isOdd C mw_544 dX4_rowCost_23 ⟨Nat.le_of_ble_eq_true rfl, Nat.le_of_ble_eq_true rfl⟩ (Nat.le_of_ble_eq_true rfl) h (fun r_1 h => ?_)
    refine J_if_ne (tgt := 31) C dX4_rowCost_26 (by decide) h (fun h => ?_) (fun h => ?_)
    · refine J_lv [1, 2, 0] rfl ?_
      exact s_X4_rowCost_31 C h
    · refine J_iconst (v := (0 : Int32)) C dX4_rowCost_29 (by decide) ?_
      exact J_iret C dX4_rowCost_30 ⟨h, rfl⟩
def P_X4_rowCost_15 (K : Int32 → Prop) (w : MW) (v1 : Int32) : Prop := P_X4_rowCost_16 K w v1 (0 : Int32)
set_option maxRecDepth 10000 in
theorem s_X4_rowCost_15 {x : Mx} {g : Gd} {a : Nat → Nat} (C : Cx x g (sA 12 a) (mCl g a) cX4_rowCost 6 RX4 (some .int) 3 62) {K : Int32 → Prop} {w : MW}  {v1 : Int32} (h : P_X4_rowCost_15 K w v1) : J x g (sA 12 a) (mCl g a) 6 (JQ x (sA 12 a) (QcI g (sA 12 a) (mCl g a) (fun r w' => K r ∧ w' = w))) w 15 [(0, .ref (a 0)), (1, .int v1)] [] := by
  unfold P_X4_rowCost_15 at h
  refine J_iconst (v := (0 : Int32)) C dX4_rowCost_15 (by decide) ?_
  refine J_lv [0, 1] rfl ?_
  exact s_X4_rowCost_16 C h
def P_X4_rowCost (K : Int32 → Prop) (w : MW) (v1 : Int32) (v2 : Int32) : Prop := (¬ v1 = 0 → P_X4_rowCost_15 K w v1) ∧ (v1 = 0 → P_X4_hasHead (fun r_2 => (r_2 = 0 → P_X4_rowCost_15 K w v1) ∧ (¬ r_2 = 0 → P_X4_rowCost_16 K w v1 (1 : Int32))) v2)
set_option maxRecDepth 10000 in
theorem s_X4_rowCost {x : Mx} {g : Gd} {a : Nat → Nat} (C : Cx x g (sA 12 a) (mCl g a) cX4_rowCost 6 RX4 (some .int) 3 62) {K : Int32 → Prop} {w : MW}  {v1 : Int32} {v2 : Int32} (h : P_X4_rowCost K w v1 v2) : J x g (sA 12 a) (mCl g a) 6 (JQ x (sA 12 a) (QcI g (sA 12 a) (mCl g a) (fun r w' => K r ∧ w' = w))) w 0 [(0, .ref (a 0)), (1, .int v1), (2, .int v2)] [] := by
  unfold P_X4_rowCost at h
  refine J_iload_n C 1 dX4_rowCost_0 rfl rfl ?_
  refine J_if_ne (tgt := 15) C dX4_rowCost_1 (by decide) h (fun h => ?_) (fun h => ?_)
  · refine J_lv [0, 1] rfl ?_
    exact s_X4_rowCost_15 C h
  · refine J_iload_n C 2 dX4_rowCost_4 rfl rfl ?_
    refine k_X4_hasHead C mw_541 dX4_rowCost_5 ⟨Nat.le_of_ble_eq_true rfl, Nat.le_of_ble_eq_true rfl⟩ (Nat.le_of_ble_eq_true rfl) h (fun r_2 h => ?_)
    refine J_if_eq (tgt := 15) C dX4_rowCost_8 (by decide) h (fun h => ?_) (fun h => ?_)
    · refine J_lv [0, 1] rfl ?_
      exact s_X4_rowCost_15 C h
    · refine J_iconst (v := (1 : Int32)) C dX4_rowCost_11 (by decide) ?_
      refine J_goto (tgt := 16) C dX4_rowCost_12 (by decide) ?_
      refine J_lv [0, 1] rfl ?_
      exact s_X4_rowCost_16 C h
theorem c_X4_rowCost {l : Launch} {g : Gd} {a : Nat → Nat} {w : MW} {K : Int32 → Prop} {v1 : Int32} {v2 : Int32} (h : P_X4_rowCost K w v1 v2) : Kt l yX4_rowCost cX4_rowCost 6 (some .int) 3 62 g (sA 12 a) (mCl g a) [.ref (a 0), .int v1, .int v2] w (QcI g (sA 12 a) (mCl g a) (fun r w' => K r ∧ w' = w)) :=
  Kt_of (by decide +kernel) (Nat.le_of_ble_eq_true rfl) (fun x hx C => s_X4_rowCost C h)
theorem k_X4_rowCost {x : Mx} {g : Gd} {a : Nat → Nat} {cc : ByteArray} {nL : Nat} {own : String} {ret : Option FieldType} {F L : Nat} {Q : State → Prop} {w : MW} {pc : Nat} {lv : List (Nat × Value)} {st : List Value} (C : Cx x g (sA 12 a) (mCl g a) cc nL own ret F L) {index : Nat} {K : Int32 → Prop} {v1 : Int32} {v2 : Int32} (h1 : Cond.methodLink own index yX4_rowCost ∈ gT) (hd : decode cc pc = .ok (.invokevirtual index, 3)) (hR : 3 + 1 ≤ F ∧ 8 + (6 + 11) + 62 ≤ L) (hst : (st.map fun v => v.category).sum ≤ 8) (h : P_X4_rowCost K w v1 v2) (k : ∀ (r : Int32), K r → J x g (sA 12 a) (mCl g a) nL Q w (pc + 3) lv (.int r :: st)) : J x g (sA 12 a) (mCl g a) nL Q w (pc) lv (.int v2 :: .int v1 :: .ref (a 0) :: st) :=
  J_callVi C (As := [.int v1, .int v2]) (b := a 0) (n := 2) (c_X4_rowCost h) h1 mw_644 mw_798 mw_6 mw_645 (by decide +kernel) hR rfl (rc_X4 C) hst hd (fun r w' hK => by
    obtain ⟨hK, rfl⟩ := hK
    exact k r hK)
-- X4_cost (changes, room 9 203)
def P_X4_cost_109 (K : Int32 → MW → Prop) (w : MW) (v1 : Int32) (v2 : Int32) : Prop := vp_in v1 24 ∧ (vp_in v1 24 ∧ (K v2 (md_costs_s (md_isKnown_s w (upd (md_isKnown w) v1.toNatClampNeg (vp_nar .boolean (1 : Int32)))) (upd (md_costs (md_isKnown_s w (upd (md_isKnown w) v1.toNatClampNeg (vp_nar .boolean (1 : Int32))))) v1.toNatClampNeg v2))))
set_option maxRecDepth 10000 in
theorem s_X4_cost_109 {x : Mx} {g : Gd} {a : Nat → Nat} (C : Cx x g (sA 12 a) (mCl g a) cX4_cost 4 RX4 (some .int) 9 203) {K : Int32 → MW → Prop}  {v1 : Int32} {v2 : Int32} {w : MW} (h : P_X4_cost_109 K w v1 v2) : J x g (sA 12 a) (mCl g a) 4 (JQ x (sA 12 a) (QcI g (sA 12 a) (mCl g a) K)) w 109 [(0, .ref (a 0)), (1, .int v1), (2, .int v2)] [] := by
  unfold P_X4_cost_109 at h
  refine J_aload_n C 0 dX4_cost_109 rfl rfl ?_
  refine G_md_isKnown C mw_476 dX4_cost_110 ?_
  refine J_iload_n C 1 dX4_cost_113 rfl rfl ?_
  refine J_iconst (v := (1 : Int32)) C dX4_cost_114 (by decide) ?_
  refine U_md_isKnown C dX4_cost_115 h (fun h => ?_)
  refine J_aload_n C 0 dX4_cost_116 rfl rfl ?_
  refine G_md_costs C mw_477 dX4_cost_117 ?_
  refine J_iload_n C 1 dX4_cost_120 rfl rfl ?_
  refine J_iload_n C 2 dX4_cost_121 rfl rfl ?_
  refine U_md_costs C dX4_cost_122 h (fun h => ?_)
  refine J_iload_n C 2 dX4_cost_123 rfl rfl ?_
  exact J_iret C dX4_cost_124 h
def P_X4_cost_54 (K : Int32 → MW → Prop) (E84 : MW → Int32 → Prop) (v1 : Int32) : Nat → MW → Int32 → Int32 → Prop
  | 0, _, _, _ => False
  | n + 1, w, v2, v3 => P_X4_width (fun r_4 => (r_4 ≤ v3 → E84 w v2) ∧ (¬ r_4 ≤ v3 → P_X4_gather (fun w_5 => P_X4_judge (fun w_6 => P_X4_cost_54 K E84 v1 n w_6 (v2 + (md_bestCost w_6)) (v3 + (1 : Int32))) w_5) w v3)) w
set_option maxRecDepth 10000 in
theorem s_X4_cost_54 {x : Mx} {g : Gd} {a : Nat → Nat} (C : Cx x g (sA 12 a) (mCl g a) cX4_cost 4 RX4 (some .int) 9 203) {K : Int32 → MW → Prop}  {v1 : Int32} {E84 : MW → Int32 → Prop} (hE84 : ∀ (w : MW) (v2 : Int32), E84 w v2 → J x g (sA 12 a) (mCl g a) 4 (JQ x (sA 12 a) (QcI g (sA 12 a) (mCl g a) K)) w 84 [(0, .ref (a 0)), (1, .int v1), (2, .int v2)] []) : ∀ (n : Nat) (w : MW) (v2 : Int32) (v3 : Int32), P_X4_cost_54 K E84 v1 n w v2 v3 → J x g (sA 12 a) (mCl g a) 4 (JQ x (sA 12 a) (QcI g (sA 12 a) (mCl g a) K)) w 54 [(0, .ref (a 0)), (1, .int v1), (2, .int v2), (3, .int v3)] [] := by
  intro n
  induction n with
  | zero => intro w v2 v3 h; exact h.elim
  | succ n ih =>
    intro w v2 v3 h
    unfold P_X4_cost_54 at h
    refine J_iload_n C 3 dX4_cost_54 rfl rfl ?_
    refine J_aload_n C 0 dX4_cost_55 rfl rfl ?_
    refine k_X4_width C mw_550 dX4_cost_56 ⟨Nat.le_of_ble_eq_true rfl, Nat.le_of_ble_eq_true rfl⟩ (Nat.le_of_ble_eq_true rfl) h (fun r_4 h => ?_)
    refine J_icmp_ge (tgt := 84) C dX4_cost_59 (by decide) h (fun h => ?_) (fun h => ?_)
    · refine J_lv [0, 1, 2] rfl ?_
      exact hE84 _ _ h
    · refine J_aload_n C 0 dX4_cost_62 rfl rfl ?_
      refine J_iload_n C 3 dX4_cost_63 rfl rfl ?_
      refine k_X4_gather C mw_561 dX4_cost_64 ⟨Nat.le_of_ble_eq_true rfl, Nat.le_of_ble_eq_true rfl⟩ (Nat.le_of_ble_eq_true rfl) h (fun w_5 h => ?_)
      refine J_aload_n C 0 dX4_cost_67 rfl rfl ?_
      refine k_X4_judge C mw_567 dX4_cost_68 ⟨Nat.le_of_ble_eq_true rfl, Nat.le_of_ble_eq_true rfl⟩ (Nat.le_of_ble_eq_true rfl) h (fun w_6 h => ?_)
      refine J_iload_n C 2 dX4_cost_71 rfl rfl ?_
      refine J_aload_n C 0 dX4_cost_72 rfl rfl ?_
      refine G_md_bestCost C mw_485 dX4_cost_73 ?_
      refine J_iadd C dX4_cost_76 ?_
      refine J_istore_n C [(2, .int (v2 + (md_bestCost w_6))), (0, .ref (a 0)), (1, .int v1), (3, .int v3)] dX4_cost_77 rfl (by decide) rfl ?_
      refine J_iinc C 3 [(3, .int (v3 + (1 : Int32))), (2, .int (v2 + (md_bestCost w_6))), (0, .ref (a 0)), (1, .int v1)] dX4_cost_78 rfl rfl (by decide) rfl ?_
      refine J_goto (tgt := 54) C dX4_cost_81 (by decide) ?_
      refine J_lv [2, 3, 1, 0] rfl ?_
      exact ih _ _ _ h
def P_X4_cost_86 (K : Int32 → MW → Prop) (E109 : MW → Int32 → Prop) (v1 : Int32) : Nat → MW → Int32 → Int32 → Prop
  | 0, _, _, _ => False
  | n + 1, w, v2, v3 => ((md_rows w) ≤ v3 → E109 w v2) ∧ (¬ (md_rows w) ≤ v3 → P_X4_rowCost (fun r_9 => P_X4_cost_86 K E109 v1 n w (v2 + r_9) (v3 + (1 : Int32))) w v3 v1)
set_option maxRecDepth 10000 in
theorem s_X4_cost_86 {x : Mx} {g : Gd} {a : Nat → Nat} (C : Cx x g (sA 12 a) (mCl g a) cX4_cost 4 RX4 (some .int) 9 203) {K : Int32 → MW → Prop}  {v1 : Int32} {E109 : MW → Int32 → Prop} (hE109 : ∀ (w : MW) (v2 : Int32), E109 w v2 → J x g (sA 12 a) (mCl g a) 4 (JQ x (sA 12 a) (QcI g (sA 12 a) (mCl g a) K)) w 109 [(0, .ref (a 0)), (1, .int v1), (2, .int v2)] []) : ∀ (n : Nat) (w : MW) (v2 : Int32) (v3 : Int32), P_X4_cost_86 K E109 v1 n w v2 v3 → J x g (sA 12 a) (mCl g a) 4 (JQ x (sA 12 a) (QcI g (sA 12 a) (mCl g a) K)) w 86 [(0, .ref (a 0)), (1, .int v1), (2, .int v2), (3, .int v3)] [] := by
  intro n
  induction n with
  | zero => intro w v2 v3 h; exact h.elim
  | succ n ih =>
    intro w v2 v3 h
    unfold P_X4_cost_86 at h
    refine J_iload_n C 3 dX4_cost_86 rfl rfl ?_
    refine J_aload_n C 0 dX4_cost_87 rfl rfl ?_
    refine G_md_rows C mw_466 dX4_cost_88 ?_
    refine J_icmp_ge (tgt := 109) C dX4_cost_91 (by decide) h (fun h => ?_) (fun h => ?_)
    · refine J_lv [0, 1, 2] rfl ?_
      exact hE109 _ _ h
    · refine J_iload_n C 2 dX4_cost_94 rfl rfl ?_
      refine J_aload_n C 0 dX4_cost_95 rfl rfl ?_
      refine J_iload_n C 3 dX4_cost_96 rfl rfl ?_
      refine J_iload_n C 1 dX4_cost_97 rfl rfl ?_
      refine k_X4_rowCost C mw_643 dX4_cost_98 ⟨Nat.le_of_ble_eq_true rfl, Nat.le_of_ble_eq_true rfl⟩ (Nat.le_of_ble_eq_true rfl) h (fun r_9 h => ?_)
      refine J_iadd C dX4_cost_101 ?_
      refine J_istore_n C [(2, .int (v2 + r_9)), (0, .ref (a 0)), (1, .int v1), (3, .int v3)] dX4_cost_102 rfl (by decide) rfl ?_
      refine J_iinc C 3 [(3, .int (v3 + (1 : Int32))), (2, .int (v2 + r_9)), (0, .ref (a 0)), (1, .int v1)] dX4_cost_103 rfl rfl (by decide) rfl ?_
      refine J_goto (tgt := 86) C dX4_cost_106 (by decide) ?_
      refine J_lv [2, 3, 1, 0] rfl ?_
      exact ih _ _ _ h
def P_X4_cost_51 (K : Int32 → MW → Prop) (w : MW) (v1 : Int32) (s0 : Int32) : Prop := ∃ nf : Nat, P_X4_cost_54 K (fun w_7 v2_8 => ∃ nf : Nat, P_X4_cost_86 K (fun w_10 v2_11 => P_X4_cost_109 K w_10 v1 v2_11) v1 nf w_7 v2_8 (0 : Int32)) v1 nf w s0 (0 : Int32)
set_option maxRecDepth 10000 in
theorem s_X4_cost_51 {x : Mx} {g : Gd} {a : Nat → Nat} (C : Cx x g (sA 12 a) (mCl g a) cX4_cost 4 RX4 (some .int) 9 203) {K : Int32 → MW → Prop}  {v1 : Int32} {s0 : Int32} {w : MW} (h : P_X4_cost_51 K w v1 s0) : J x g (sA 12 a) (mCl g a) 4 (JQ x (sA 12 a) (QcI g (sA 12 a) (mCl g a) K)) w 51 [(0, .ref (a 0)), (1, .int v1)] [.int s0] := by
  unfold P_X4_cost_51 at h
  refine J_istore_n C [(2, .int s0), (0, .ref (a 0)), (1, .int v1)] dX4_cost_51 rfl (by decide) rfl ?_
  refine J_iconst (v := (0 : Int32)) C dX4_cost_52 (by decide) ?_
  refine J_istore_n C [(3, .int (0 : Int32)), (2, .int s0), (0, .ref (a 0)), (1, .int v1)] dX4_cost_53 rfl (by decide) rfl ?_
  obtain ⟨nf, h⟩ := h
  refine J_lv [2, 3, 1, 0] rfl ?_
  refine s_X4_cost_54 C (fun w_7 v2_8 h => ?_) nf _ _ _ h
  · refine J_iconst (v := (0 : Int32)) C dX4_cost_84 (by decide) ?_
    refine J_istore_n C [(3, .int (0 : Int32)), (0, .ref (a 0)), (1, .int v1), (2, .int v2_8)] dX4_cost_85 rfl (by decide) rfl ?_
    obtain ⟨nf, h⟩ := h
    refine J_lv [1, 2, 3, 0] rfl ?_
    refine s_X4_cost_86 C (fun w_10 v2_11 h => ?_) nf _ _ _ h
    · refine J_lv [0, 1, 2] rfl ?_
      exact s_X4_cost_109 C h
def P_X4_cost (K : Int32 → MW → Prop) (w : MW) (v1 : Int32) : Prop := P_X4_isMake (fun r_1 => (¬ r_1 = 0 → vp_in v1 24 ∧ (((md_isKnown w v1.toNatClampNeg) = 0 → P_X4_load (fun w_2 => (¬ (md_fault w_2) = 0 → P_X4_cost_109 K w_2 v1 (-1 : Int32)) ∧ ((md_fault w_2) = 0 → P_X4_quoteOf (fun r_3 => (0 ≤ r_3 → P_X4_cost_51 K w_2 v1 (3 : Int32)) ∧ (¬ 0 ≤ r_3 → P_X4_cost_51 K w_2 v1 (0 : Int32))) v1)) w v1) ∧ (¬ (md_isKnown w v1.toNatClampNeg) = 0 → vp_in v1 24 ∧ (K (md_costs w v1.toNatClampNeg) w)))) ∧ (r_1 = 0 → K (-1 : Int32) w)) v1
set_option maxRecDepth 10000 in
theorem s_X4_cost {x : Mx} {g : Gd} {a : Nat → Nat} (C : Cx x g (sA 12 a) (mCl g a) cX4_cost 4 RX4 (some .int) 9 203) {K : Int32 → MW → Prop}  {w : MW} {v1 : Int32} (h : P_X4_cost K w v1) : J x g (sA 12 a) (mCl g a) 4 (JQ x (sA 12 a) (QcI g (sA 12 a) (mCl g a) K)) w 0 [(0, .ref (a 0)), (1, .int v1)] [] := by
  unfold P_X4_cost at h
  refine J_iload_n C 1 dX4_cost_0 rfl rfl ?_
  refine k_X4_isMake C mw_514 dX4_cost_1 ⟨Nat.le_of_ble_eq_true rfl, Nat.le_of_ble_eq_true rfl⟩ (Nat.le_of_ble_eq_true rfl) h (fun r_1 h => ?_)
  refine J_if_ne (tgt := 9) C dX4_cost_4 (by decide) h (fun h => ?_) (fun h => ?_)
  · refine J_aload_n C 0 dX4_cost_9 rfl rfl ?_
    refine G_md_isKnown C mw_476 dX4_cost_10 ?_
    refine J_iload_n C 1 dX4_cost_13 rfl rfl ?_
    refine L_md_isKnown C dX4_cost_14 h (fun h => ?_)
    refine J_if_eq (tgt := 25) C dX4_cost_15 (by decide) h (fun h => ?_) (fun h => ?_)
    · refine J_aload_n C 0 dX4_cost_25 rfl rfl ?_
      refine J_iload_n C 1 dX4_cost_26 rfl rfl ?_
      refine k_X4_load C mw_517 dX4_cost_27 ⟨Nat.le_of_ble_eq_true rfl, Nat.le_of_ble_eq_true rfl⟩ (Nat.le_of_ble_eq_true rfl) h (fun w_2 h => ?_)
      refine J_iconst (v := (-1 : Int32)) C dX4_cost_30 (by decide) ?_
      refine J_istore_n C [(2, .int (-1 : Int32)), (0, .ref (a 0)), (1, .int v1)] dX4_cost_31 rfl (by decide) rfl ?_
      refine J_aload_n C 1 dX4_cost_32 rfl rfl ?_
      refine G_md_fault C mw_468 dX4_cost_33 ?_
      refine J_if_ne (tgt := 109) C dX4_cost_36 (by decide) h (fun h => ?_) (fun h => ?_)
      · refine J_lv [1, 2, 0] rfl ?_
        exact s_X4_cost_109 C h
      · refine J_iload_n C 2 dX4_cost_39 rfl rfl ?_
        refine k_X4_quoteOf C mw_529 dX4_cost_40 ⟨Nat.le_of_ble_eq_true rfl, Nat.le_of_ble_eq_true rfl⟩ (Nat.le_of_ble_eq_true rfl) h (fun r_3 h => ?_)
        refine J_if_ge (tgt := 50) C dX4_cost_43 (by decide) h (fun h => ?_) (fun h => ?_)
        · refine J_iconst (v := (3 : Int32)) C dX4_cost_50 (by decide) ?_
          refine J_lv [1, 2] rfl ?_
          exact s_X4_cost_51 C h
        · refine J_iconst (v := (0 : Int32)) C dX4_cost_46 (by decide) ?_
          refine J_goto (tgt := 51) C dX4_cost_47 (by decide) ?_
          refine J_lv [1, 2] rfl ?_
          exact s_X4_cost_51 C h
    · refine J_aload_n C 0 dX4_cost_18 rfl rfl ?_
      refine G_md_costs C mw_477 dX4_cost_19 ?_
      refine J_iload_n C 1 dX4_cost_22 rfl rfl ?_
      refine L_md_costs C dX4_cost_23 h (fun h => ?_)
      exact J_iret C dX4_cost_24 h
  · refine J_iconst (v := (-1 : Int32)) C dX4_cost_7 (by decide) ?_
    exact J_iret C dX4_cost_8 h
theorem c_X4_cost {l : Launch} {g : Gd} {a : Nat → Nat} {w : MW} {K : Int32 → MW → Prop} {v1 : Int32} (h : P_X4_cost K w v1) : Kt l yX4_cost cX4_cost 4 (some .int) 9 203 g (sA 12 a) (mCl g a) [.ref (a 0), .int v1] w (QcI g (sA 12 a) (mCl g a) K) :=
  Kt_of (by decide +kernel) (Nat.le_of_ble_eq_true rfl) (fun x hx C => s_X4_cost C h)
theorem k_X4_cost {x : Mx} {g : Gd} {a : Nat → Nat} {cc : ByteArray} {nL : Nat} {own : String} {ret : Option FieldType} {F L : Nat} {Q : State → Prop} {w : MW} {pc : Nat} {lv : List (Nat × Value)} {st : List Value} (C : Cx x g (sA 12 a) (mCl g a) cc nL own ret F L) {index : Nat} {K : Int32 → MW → Prop} {v1 : Int32} (h1 : Cond.methodLink own index yX4_cost ∈ gT) (hd : decode cc pc = .ok (.invokevirtual index, 3)) (hR : 9 + 1 ≤ F ∧ 8 + (4 + 11) + 203 ≤ L) (hst : (st.map fun v => v.category).sum ≤ 8) (h : P_X4_cost K w v1) (k : ∀ (r : Int32) (w' : MW), K r w' → J x g (sA 12 a) (mCl g a) nL Q w' (pc + 3) lv (.int r :: st)) : J x g (sA 12 a) (mCl g a) nL Q w (pc) lv (.int v1 :: .ref (a 0) :: st) :=
  J_callVi C (As := [.int v1]) (b := a 0) (n := 1) (c_X4_cost h) h1 mw_558 mw_559 mw_6 mw_560 (by decide +kernel) hR rfl (rc_X4 C) hst hd k
-- X4_best (changes, room 10 226)
def P_X4_best_37 (K : Int32 → MW → Prop) (B4 : MW → Int32 → Int32 → Prop) (w : MW) (v1 : Int32) (v2 : Int32) : Prop := B4 w v1 (v2 + (1 : Int32))
set_option maxRecDepth 10000 in
theorem s_X4_best_37 {x : Mx} {g : Gd} {a : Nat → Nat} (C : Cx x g (sA 12 a) (mCl g a) cX4_best 3 RX4 (some .int) 10 226) {K : Int32 → MW → Prop}  {v1 : Int32} {v2 : Int32} {B4 : MW → Int32 → Int32 → Prop} (hB4 : ∀ (w : MW) (v1 : Int32) (v2 : Int32), B4 w v1 v2 → J x g (sA 12 a) (mCl g a) 3 (JQ x (sA 12 a) (QcI g (sA 12 a) (mCl g a) K)) w 4 [(0, .ref (a 0)), (1, .int v1), (2, .int v2)] []) {w : MW} (h : P_X4_best_37 K B4 w v1 v2) : J x g (sA 12 a) (mCl g a) 3 (JQ x (sA 12 a) (QcI g (sA 12 a) (mCl g a) K)) w 37 [(0, .ref (a 0)), (1, .int v1), (2, .int v2)] [] := by
  unfold P_X4_best_37 at h
  refine J_iinc C 2 [(2, .int (v2 + (1 : Int32))), (0, .ref (a 0)), (1, .int v1)] dX4_best_37 rfl rfl (by decide) rfl ?_
  refine J_goto (tgt := 4) C dX4_best_40 (by decide) ?_
  refine J_lv [1, 2, 0] rfl ?_
  exact hB4 _ _ _ h
def P_X4_best_35 (K : Int32 → MW → Prop) (B4 : MW → Int32 → Int32 → Prop) (w : MW) (v2 : Int32) : Prop := P_X4_best_37 K B4 w v2 v2
set_option maxRecDepth 10000 in
theorem s_X4_best_35 {x : Mx} {g : Gd} {a : Nat → Nat} (C : Cx x g (sA 12 a) (mCl g a) cX4_best 3 RX4 (some .int) 10 226) {K : Int32 → MW → Prop}  {v2 : Int32} {B4 : MW → Int32 → Int32 → Prop} (hB4 : ∀ (w : MW) (v1 : Int32) (v2 : Int32), B4 w v1 v2 → J x g (sA 12 a) (mCl g a) 3 (JQ x (sA 12 a) (QcI g (sA 12 a) (mCl g a) K)) w 4 [(0, .ref (a 0)), (1, .int v1), (2, .int v2)] []) {w : MW} (h : P_X4_best_35 K B4 w v2) : J x g (sA 12 a) (mCl g a) 3 (JQ x (sA 12 a) (QcI g (sA 12 a) (mCl g a) K)) w 35 [(0, .ref (a 0)), (2, .int v2)] [] := by
  unfold P_X4_best_35 at h
  refine J_iload_n C 1 dX4_best_35 rfl rfl ?_
  refine J_istore_n C [(1, .int v2), (0, .ref (a 0)), (2, .int v2)] dX4_best_36 rfl (by decide) rfl ?_
  refine J_lv [1, 0, 2] rfl ?_
  exact s_X4_best_37 C hB4 h
def P_X4_best_4 (K : Int32 → MW → Prop) : Nat → MW → Int32 → Int32 → Prop
  | 0, _, _, _ => False
  | n + 1, w, v1, v2 => ((24 : Int32) ≤ v2 → K v1 w) ∧ (¬ (24 : Int32) ≤ v2 → P_X4_cost (fun r_1 w_2 => (r_1 < 0 → P_X4_best_37 K (P_X4_best_4 K n) w_2 v1 v2) ∧ (¬ r_1 < 0 → (v1 < 0 → P_X4_best_35 K (P_X4_best_4 K n) w_2 v2) ∧ (¬ v1 < 0 → P_X4_cost (fun r_3 w_4 => P_X4_cost (fun r_5 w_6 => (r_5 ≤ r_3 → P_X4_best_37 K (P_X4_best_4 K n) w_6 v1 v2) ∧ (¬ r_5 ≤ r_3 → P_X4_best_35 K (P_X4_best_4 K n) w_6 v2)) w_4 v1) w_2 v2))) w v2)
set_option maxRecDepth 10000 in
theorem s_X4_best_4 {x : Mx} {g : Gd} {a : Nat → Nat} (C : Cx x g (sA 12 a) (mCl g a) cX4_best 3 RX4 (some .int) 10 226) {K : Int32 → MW → Prop}  : ∀ (n : Nat) (w : MW) (v1 : Int32) (v2 : Int32), P_X4_best_4 K n w v1 v2 → J x g (sA 12 a) (mCl g a) 3 (JQ x (sA 12 a) (QcI g (sA 12 a) (mCl g a) K)) w 4 [(0, .ref (a 0)), (1, .int v1), (2, .int v2)] [] := by
  intro n
  induction n with
  | zero => intro w v1 v2 h; exact h.elim
  | succ n ih =>
    intro w v1 v2 h
    unfold P_X4_best_4 at h
    refine J_iload_n C 2 dX4_best_4 rfl rfl ?_
    refine J_bipush (v := (24 : Int32)) C dX4_best_5 (by decide) ?_
    refine J_icmp_ge (tgt := 43) C dX4_best_7 (by decide) h (fun h => ?_) (fun h => ?_)
    · refine J_iload_n C 1 dX4_best_43 rfl rfl ?_
      exact J_iret C dX4_best_44 h
    · refine J_aload_n C 0 dX4_best_10 rfl rfl ?_
      refine J_iload_n C 2 dX4_best_11 rfl rfl ?_
      refine k_X4_cost C mw_650 dX4_best_12 ⟨Nat.le_of_ble_eq_true rfl, Nat.le_of_ble_eq_true rfl⟩ (Nat.le_of_ble_eq_true rfl) h (fun r_1 w_2 h => ?_)
      refine J_if_lt (tgt := 37) C dX4_best_15 (by decide) h (fun h => ?_) (fun h => ?_)
      · refine J_lv [0, 1, 2] rfl ?_
        exact s_X4_best_37 C ih h
      · refine J_iload_n C 1 dX4_best_18 rfl rfl ?_
        refine J_if_lt (tgt := 35) C dX4_best_19 (by decide) h (fun h => ?_) (fun h => ?_)
        · refine J_lv [0, 2] rfl ?_
          exact s_X4_best_35 C ih h
        · refine J_aload_n C 0 dX4_best_22 rfl rfl ?_
          refine J_iload_n C 2 dX4_best_23 rfl rfl ?_
          refine k_X4_cost C mw_650 dX4_best_24 ⟨Nat.le_of_ble_eq_true rfl, Nat.le_of_ble_eq_true rfl⟩ (Nat.le_of_ble_eq_true rfl) h (fun r_3 w_4 h => ?_)
          refine J_aload_n C 0 dX4_best_27 rfl rfl ?_
          refine J_iload_n C 1 dX4_best_28 rfl rfl ?_
          refine k_X4_cost C mw_650 dX4_best_29 ⟨Nat.le_of_ble_eq_true rfl, Nat.le_of_ble_eq_true rfl⟩ (Nat.le_of_ble_eq_true rfl) h (fun r_5 w_6 h => ?_)
          refine J_icmp_ge (tgt := 37) C dX4_best_32 (by decide) h (fun h => ?_) (fun h => ?_)
          · refine J_lv [0, 1, 2] rfl ?_
            exact s_X4_best_37 C ih h
          · refine J_lv [0, 2] rfl ?_
            exact s_X4_best_35 C ih h
def P_X4_best (K : Int32 → MW → Prop) (w : MW) : Prop := ∃ nf : Nat, P_X4_best_4 K nf w (-1 : Int32) (0 : Int32)
set_option maxRecDepth 10000 in
theorem s_X4_best {x : Mx} {g : Gd} {a : Nat → Nat} (C : Cx x g (sA 12 a) (mCl g a) cX4_best 3 RX4 (some .int) 10 226) {K : Int32 → MW → Prop}  {w : MW} (h : P_X4_best K w) : J x g (sA 12 a) (mCl g a) 3 (JQ x (sA 12 a) (QcI g (sA 12 a) (mCl g a) K)) w 0 [(0, .ref (a 0))] [] := by
  unfold P_X4_best at h
  refine J_iconst (v := (-1 : Int32)) C dX4_best_0 (by decide) ?_
  refine J_istore_n C [(1, .int (-1 : Int32)), (0, .ref (a 0))] dX4_best_1 rfl (by decide) rfl ?_
  refine J_iconst (v := (0 : Int32)) C dX4_best_2 (by decide) ?_
  refine J_istore_n C [(2, .int (0 : Int32)), (1, .int (-1 : Int32)), (0, .ref (a 0))] dX4_best_3 rfl (by decide) rfl ?_
  obtain ⟨nf, h⟩ := h
  refine J_lv [2, 1, 0] rfl ?_
  refine s_X4_best_4 C  nf _ _ _ h
theorem c_X4_best {l : Launch} {g : Gd} {a : Nat → Nat} {w : MW} {K : Int32 → MW → Prop} (h : P_X4_best K w) : Kt l yX4_best cX4_best 3 (some .int) 10 226 g (sA 12 a) (mCl g a) [.ref (a 0)] w (QcI g (sA 12 a) (mCl g a) K) :=
  Kt_of (by decide +kernel) (Nat.le_of_ble_eq_true rfl) (fun x hx C => s_X4_best C h)
theorem k_X4_best {x : Mx} {g : Gd} {a : Nat → Nat} {cc : ByteArray} {nL : Nat} {own : String} {ret : Option FieldType} {F L : Nat} {Q : State → Prop} {w : MW} {pc : Nat} {lv : List (Nat × Value)} {st : List Value} (C : Cx x g (sA 12 a) (mCl g a) cc nL own ret F L) {index : Nat} {K : Int32 → MW → Prop} (h1 : Cond.methodLink own index yX4_best ∈ gT) (hd : decode cc pc = .ok (.invokevirtual index, 3)) (hR : 10 + 1 ≤ F ∧ 8 + (3 + 11) + 226 ≤ L) (hst : (st.map fun v => v.category).sum ≤ 8) (h : P_X4_best K w) (k : ∀ (r : Int32) (w' : MW), K r w' → J x g (sA 12 a) (mCl g a) nL Q w' (pc + 3) lv (.int r :: st)) : J x g (sA 12 a) (mCl g a) nL Q w (pc) lv (.ref (a 0) :: st) :=
  J_callVi C (As := []) (b := a 0) (n := 0) (c_X4_best h) h1 mw_647 mw_648 mw_6 mw_649 (by decide +kernel) hR rfl (rc_X4 C) hst hd k
-- X4_use (changes, room 2 42)
def P_X4_use (K : Int32 → MW → Prop) (w : MW) (v1 : Int32) : Prop := P_X4_isMake (fun r_1 => (¬ r_1 = 0 → K (1 : Int32) (md_used_s w v1)) ∧ (r_1 = 0 → K (0 : Int32) w)) v1
set_option maxRecDepth 10000 in
theorem s_X4_use {x : Mx} {g : Gd} {a : Nat → Nat} (C : Cx x g (sA 12 a) (mCl g a) cX4_use 2 RX4 (some .boolean) 2 42) {K : Int32 → MW → Prop}  {w : MW} {v1 : Int32} (h : P_X4_use K w v1) : J x g (sA 12 a) (mCl g a) 2 (JQ x (sA 12 a) (QcI g (sA 12 a) (mCl g a) K)) w 0 [(0, .ref (a 0)), (1, .int v1)] [] := by
  unfold P_X4_use at h
  refine J_iload_n C 1 dX4_use_0 rfl rfl ?_
  refine k_X4_isMake C mw_514 dX4_use_1 ⟨Nat.le_of_ble_eq_true rfl, Nat.le_of_ble_eq_true rfl⟩ (Nat.le_of_ble_eq_true rfl) h (fun r_1 h => ?_)
  refine J_if_ne (tgt := 9) C dX4_use_4 (by decide) h (fun h => ?_) (fun h => ?_)
  · refine J_aload_n C 0 dX4_use_9 rfl rfl ?_
    refine J_iload_n C 1 dX4_use_10 rfl rfl ?_
    refine S_md_used C mw_464 dX4_use_11 ?_
    refine J_iconst (v := (1 : Int32)) C dX4_use_14 (by decide) ?_
    exact J_zret C dX4_use_15 rfl h
  · refine J_iconst (v := (0 : Int32)) C dX4_use_7 (by decide) ?_
    exact J_zret C dX4_use_8 rfl h
theorem c_X4_use {l : Launch} {g : Gd} {a : Nat → Nat} {w : MW} {K : Int32 → MW → Prop} {v1 : Int32} (h : P_X4_use K w v1) : Kt l yX4_use cX4_use 2 (some .boolean) 2 42 g (sA 12 a) (mCl g a) [.ref (a 0), .int v1] w (QcI g (sA 12 a) (mCl g a) K) :=
  Kt_of (by decide +kernel) (Nat.le_of_ble_eq_true rfl) (fun x hx C => s_X4_use C h)
theorem k_X4_use {x : Mx} {g : Gd} {a : Nat → Nat} {cc : ByteArray} {nL : Nat} {own : String} {ret : Option FieldType} {F L : Nat} {Q : State → Prop} {w : MW} {pc : Nat} {lv : List (Nat × Value)} {st : List Value} (C : Cx x g (sA 12 a) (mCl g a) cc nL own ret F L) {index : Nat} {K : Int32 → MW → Prop} {v1 : Int32} (h1 : Cond.methodLink own index yX4_use ∈ gT) (hd : decode cc pc = .ok (.invokevirtual index, 3)) (hR : 2 + 1 ≤ F ∧ 8 + (2 + 11) + 42 ≤ L) (hst : (st.map fun v => v.category).sum ≤ 8) (h : P_X4_use K w v1) (k : ∀ (r : Int32) (w' : MW), K r w' → J x g (sA 12 a) (mCl g a) nL Q w' (pc + 3) lv (.int r :: st)) : J x g (sA 12 a) (mCl g a) nL Q w (pc) lv (.int v1 :: .ref (a 0) :: st) :=
  J_callVi C (As := [.int v1]) (b := a 0) (n := 1) (c_X4_use h) h1 mw_652 mw_653 mw_6 mw_654 (by decide +kernel) hR rfl (rc_X4 C) hst hd k
-- X4_about (changes, room 4 93)
def P_X4_about (K : Int32 → MW → Prop) (w : MW) (v1 : Int32) : Prop := P_X4_load (fun w_1 => (v1 = (0 : Int32) → K (md_rows w_1) w_1) ∧ (v1 = (1 : Int32) → P_X4_width (fun r_2 => K r_2 w_1) w_1) ∧ (v1 = (2 : Int32) → K (md_odds w_1) w_1) ∧ (v1 = (3 : Int32) → K (md_used w_1) w_1) ∧ (v1 = (4 : Int32) → K (md_size w_1) w_1) ∧ (v1 = (5 : Int32) → K (md_taped w_1) w_1) ∧ (¬ v1 = (0 : Int32) → ¬ v1 = (1 : Int32) → ¬ v1 = (2 : Int32) → ¬ v1 = (3 : Int32) → ¬ v1 = (4 : Int32) → ¬ v1 = (5 : Int32) → K (-1 : Int32) w_1)) w (md_used w)
set_option maxRecDepth 10000 in
theorem s_X4_about {x : Mx} {g : Gd} {a : Nat → Nat} (C : Cx x g (sA 12 a) (mCl g a) cX4_about 2 RX4 (some .int) 4 93) {K : Int32 → MW → Prop}  {w : MW} {v1 : Int32} (h : P_X4_about K w v1) : J x g (sA 12 a) (mCl g a) 2 (JQ x (sA 12 a) (QcI g (sA 12 a) (mCl g a) K)) w 0 [(0, .ref (a 0)), (1, .int v1)] [] := by
  unfold P_X4_about at h
  refine J_aload_n C 0 dX4_about_0 rfl rfl ?_
  refine J_aload_n C 0 dX4_about_1 rfl rfl ?_
  refine G_md_used C mw_464 dX4_about_2 ?_
  refine k_X4_load C mw_517 dX4_about_5 ⟨Nat.le_of_ble_eq_true rfl, Nat.le_of_ble_eq_true rfl⟩ (Nat.le_of_ble_eq_true rfl) h (fun w_1 h => ?_)
  refine J_iload_n C 1 dX4_about_8 rfl rfl ?_
  by_cases e0 : v1 = (0 : Int32)
  · replace h := h.1 e0
    refine J_tsIn (tgt := 48) C dX4_about_9 (by rw [e0]; decide) (by rw [e0]; decide) (by rw [e0]; rfl) (by decide) ?_
    refine J_aload_n C 0 dX4_about_48 rfl rfl ?_
    refine G_md_rows C mw_466 dX4_about_49 ?_
    exact J_iret C dX4_about_52 h
  replace h := h.2
  by_cases e1 : v1 = (1 : Int32)
  · replace h := h.1 e1
    refine J_tsIn (tgt := 53) C dX4_about_9 (by rw [e1]; decide) (by rw [e1]; decide) (by rw [e1]; rfl) (by decide) ?_
    refine J_aload_n C 0 dX4_about_53 rfl rfl ?_
    refine k_X4_width C mw_550 dX4_about_54 ⟨Nat.le_of_ble_eq_true rfl, Nat.le_of_ble_eq_true rfl⟩ (Nat.le_of_ble_eq_true rfl) h (fun r_2 h => ?_)
    exact J_iret C dX4_about_57 h
  replace h := h.2
  by_cases e2 : v1 = (2 : Int32)
  · replace h := h.1 e2
    refine J_tsIn (tgt := 58) C dX4_about_9 (by rw [e2]; decide) (by rw [e2]; decide) (by rw [e2]; rfl) (by decide) ?_
    refine J_aload_n C 0 dX4_about_58 rfl rfl ?_
    refine G_md_odds C mw_470 dX4_about_59 ?_
    exact J_iret C dX4_about_62 h
  replace h := h.2
  by_cases e3 : v1 = (3 : Int32)
  · replace h := h.1 e3
    refine J_tsIn (tgt := 63) C dX4_about_9 (by rw [e3]; decide) (by rw [e3]; decide) (by rw [e3]; rfl) (by decide) ?_
    refine J_aload_n C 0 dX4_about_63 rfl rfl ?_
    refine G_md_used C mw_464 dX4_about_64 ?_
    exact J_iret C dX4_about_67 h
  replace h := h.2
  by_cases e4 : v1 = (4 : Int32)
  · replace h := h.1 e4
    refine J_tsIn (tgt := 68) C dX4_about_9 (by rw [e4]; decide) (by rw [e4]; decide) (by rw [e4]; rfl) (by decide) ?_
    refine J_aload_n C 0 dX4_about_68 rfl rfl ?_
    refine G_md_size C mw_463 dX4_about_69 ?_
    exact J_iret C dX4_about_72 h
  replace h := h.2
  by_cases e5 : v1 = (5 : Int32)
  · replace h := h.1 e5
    refine J_tsIn (tgt := 73) C dX4_about_9 (by rw [e5]; decide) (by rw [e5]; decide) (by rw [e5]; rfl) (by decide) ?_
    refine J_aload_n C 0 dX4_about_73 rfl rfl ?_
    refine G_md_taped C mw_462 dX4_about_74 ?_
    exact J_iret C dX4_about_77 h
  replace h := h.2
  replace h := h e0 e1 e2 e3 e4 e5
  refine J_tsOut (tgt := 78) C dX4_about_9 (by have q0 := lv_neT (k := (0 : Int32)) (a := 0) e0 rfl; have q1 := lv_neT (k := (1 : Int32)) (a := 1) e1 rfl; have q2 := lv_neT (k := (2 : Int32)) (a := 2) e2 rfl; have q3 := lv_neT (k := (3 : Int32)) (a := 3) e3 rfl; have q4 := lv_neT (k := (4 : Int32)) (a := 4) e4 rfl; have q5 := lv_neT (k := (5 : Int32)) (a := 5) e5 rfl; omega) (by decide) ?_
  refine J_iconst (v := (-1 : Int32)) C dX4_about_78 (by decide) ?_
  exact J_iret C dX4_about_79 h
theorem c_X4_about {l : Launch} {g : Gd} {a : Nat → Nat} {w : MW} {K : Int32 → MW → Prop} {v1 : Int32} (h : P_X4_about K w v1) : Kt l yX4_about cX4_about 2 (some .int) 4 93 g (sA 12 a) (mCl g a) [.ref (a 0), .int v1] w (QcI g (sA 12 a) (mCl g a) K) :=
  Kt_of (by decide +kernel) (Nat.le_of_ble_eq_true rfl) (fun x hx C => s_X4_about C h)
theorem k_X4_about {x : Mx} {g : Gd} {a : Nat → Nat} {cc : ByteArray} {nL : Nat} {own : String} {ret : Option FieldType} {F L : Nat} {Q : State → Prop} {w : MW} {pc : Nat} {lv : List (Nat × Value)} {st : List Value} (C : Cx x g (sA 12 a) (mCl g a) cc nL own ret F L) {index : Nat} {K : Int32 → MW → Prop} {v1 : Int32} (h1 : Cond.methodLink own index yX4_about ∈ gT) (hd : decode cc pc = .ok (.invokevirtual index, 3)) (hR : 4 + 1 ≤ F ∧ 8 + (2 + 11) + 93 ≤ L) (hst : (st.map fun v => v.category).sum ≤ 8) (h : P_X4_about K w v1) (k : ∀ (r : Int32) (w' : MW), K r w' → J x g (sA 12 a) (mCl g a) nL Q w' (pc + 3) lv (.int r :: st)) : J x g (sA 12 a) (mCl g a) nL Q w (pc) lv (.int v1 :: .ref (a 0) :: st) :=
  J_callVi C (As := [.int v1]) (b := a 0) (n := 1) (c_X4_about h) h1 mw_656 mw_657 mw_6 mw_658 (by decide +kernel) hR rfl (rc_X4 C) hst hd k
-- X4_odd (changes, room 4 93)
def P_X4_odd_45 (K : Int32 → MW → Prop) (B12 : MW → Int32 → Int32 → Prop) (w : MW) (v1 : Int32) (v2 : Int32) (v3 : Int32) : Prop := B12 w v2 (v3 + (1 : Int32))
set_option maxRecDepth 10000 in
theorem s_X4_odd_45 {x : Mx} {g : Gd} {a : Nat → Nat} (C : Cx x g (sA 12 a) (mCl g a) cX4_odd 4 RX4 (some .int) 4 93) {K : Int32 → MW → Prop}  {v1 : Int32} {v2 : Int32} {v3 : Int32} {B12 : MW → Int32 → Int32 → Prop} (hB12 : ∀ (w : MW) (v2 : Int32) (v3 : Int32), B12 w v2 v3 → J x g (sA 12 a) (mCl g a) 4 (JQ x (sA 12 a) (QcI g (sA 12 a) (mCl g a) K)) w 12 [(0, .ref (a 0)), (1, .int v1), (2, .int v2), (3, .int v3)] []) {w : MW} (h : P_X4_odd_45 K B12 w v1 v2 v3) : J x g (sA 12 a) (mCl g a) 4 (JQ x (sA 12 a) (QcI g (sA 12 a) (mCl g a) K)) w 45 [(0, .ref (a 0)), (1, .int v1), (2, .int v2), (3, .int v3)] [] := by
  unfold P_X4_odd_45 at h
  refine J_iinc C 3 [(3, .int (v3 + (1 : Int32))), (0, .ref (a 0)), (1, .int v1), (2, .int v2)] dX4_odd_45 rfl rfl (by decide) rfl ?_
  refine J_goto (tgt := 12) C dX4_odd_48 (by decide) ?_
  refine J_lv [1, 2, 3, 0] rfl ?_
  exact hB12 _ _ _ h
def P_X4_odd_12 (K : Int32 → MW → Prop) (v1 : Int32) : Nat → MW → Int32 → Int32 → Prop
  | 0, _, _, _ => False
  | n + 1, w, v2, v3 => ((md_rows w) ≤ v3 → K (-1 : Int32) w) ∧ (¬ (md_rows w) ≤ v3 → (v1 < 0 → K (-1 : Int32) w) ∧ (¬ v1 < 0 → P_X4_isOdd (fun r_2 => (¬ r_2 = 0 → (¬ v2 = v1 → P_X4_odd_45 K (P_X4_odd_12 K v1 n) w v1 (v2 + (1 : Int32)) v3) ∧ (v2 = v1 → K v3 w)) ∧ (r_2 = 0 → P_X4_odd_45 K (P_X4_odd_12 K v1 n) w v1 v2 v3)) w v3))
set_option maxRecDepth 10000 in
theorem s_X4_odd_12 {x : Mx} {g : Gd} {a : Nat → Nat} (C : Cx x g (sA 12 a) (mCl g a) cX4_odd 4 RX4 (some .int) 4 93) {K : Int32 → MW → Prop}  {v1 : Int32} : ∀ (n : Nat) (w : MW) (v2 : Int32) (v3 : Int32), P_X4_odd_12 K v1 n w v2 v3 → J x g (sA 12 a) (mCl g a) 4 (JQ x (sA 12 a) (QcI g (sA 12 a) (mCl g a) K)) w 12 [(0, .ref (a 0)), (1, .int v1), (2, .int v2), (3, .int v3)] [] := by
  intro n
  induction n with
  | zero => intro w v2 v3 h; exact h.elim
  | succ n ih =>
    intro w v2 v3 h
    unfold P_X4_odd_12 at h
    refine J_iload_n C 3 dX4_odd_12 rfl rfl ?_
    refine J_aload_n C 0 dX4_odd_13 rfl rfl ?_
    refine G_md_rows C mw_466 dX4_odd_14 ?_
    refine J_icmp_ge (tgt := 51) C dX4_odd_17 (by decide) h (fun h => ?_) (fun h => ?_)
    · refine J_iconst (v := (-1 : Int32)) C dX4_odd_51 (by decide) ?_
      exact J_iret C dX4_odd_52 h
    · refine J_iload_n C 1 dX4_odd_20 rfl rfl ?_
      refine J_if_lt (tgt := 51) C dX4_odd_21 (by decide) h (fun h => ?_) (fun h => ?_)
      · refine J_iconst (v := (-1 : Int32)) C dX4_odd_51 (by decide) ?_
        exact J_iret C dX4_odd_52 h
      · refine J_aload_n C 0 dX4_odd_24 rfl rfl ?_
        refine J_iload_n C 3 dX4_odd_25 rfl rfl ?_
        refine k_X4_isOdd C mw_544 dX4_odd_26 ⟨Nat.le_of_ble_eq_true rfl, Nat.le_of_ble_eq_true rfl⟩ (Nat.le_of_ble_eq_true rfl) h (fun r_2 h => ?_)
        refine J_if_ne (tgt := 35) C dX4_odd_29 (by decide) h (fun h => ?_) (fun h => ?_)
        · refine J_iload_n C 2 dX4_odd_35 rfl rfl ?_
          refine J_iload_n C 1 dX4_odd_36 rfl rfl ?_
          refine J_icmp_ne (tgt := 42) C dX4_odd_37 (by decide) h (fun h => ?_) (fun h => ?_)
          · refine J_iinc C 2 [(2, .int (v2 + (1 : Int32))), (0, .ref (a 0)), (1, .int v1), (3, .int v3)] dX4_odd_42 rfl rfl (by decide) rfl ?_
            refine J_lv [1, 2, 0, 3] rfl ?_
            exact s_X4_odd_45 C ih h
          · refine J_iload_n C 3 dX4_odd_40 rfl rfl ?_
            exact J_iret C dX4_odd_41 h
        · refine J_goto (tgt := 45) C dX4_odd_32 (by decide) ?_
          refine J_lv [0, 1, 2, 3] rfl ?_
          exact s_X4_odd_45 C ih h
def P_X4_odd (K : Int32 → MW → Prop) (w : MW) (v1 : Int32) : Prop := P_X4_load (fun w_1 => ∃ nf : Nat, P_X4_odd_12 K v1 nf w_1 (0 : Int32) (0 : Int32)) w (md_used w)
set_option maxRecDepth 10000 in
theorem s_X4_odd {x : Mx} {g : Gd} {a : Nat → Nat} (C : Cx x g (sA 12 a) (mCl g a) cX4_odd 4 RX4 (some .int) 4 93) {K : Int32 → MW → Prop}  {w : MW} {v1 : Int32} (h : P_X4_odd K w v1) : J x g (sA 12 a) (mCl g a) 4 (JQ x (sA 12 a) (QcI g (sA 12 a) (mCl g a) K)) w 0 [(0, .ref (a 0)), (1, .int v1)] [] := by
  unfold P_X4_odd at h
  refine J_aload_n C 0 dX4_odd_0 rfl rfl ?_
  refine J_aload_n C 0 dX4_odd_1 rfl rfl ?_
  refine G_md_used C mw_464 dX4_odd_2 ?_
  refine k_X4_load C mw_517 dX4_odd_5 ⟨Nat.le_of_ble_eq_true rfl, Nat.le_of_ble_eq_true rfl⟩ (Nat.le_of_ble_eq_true rfl) h (fun w_1 h => ?_)
  refine J_iconst (v := (0 : Int32)) C dX4_odd_8 (by decide) ?_
  refine J_istore_n C [(2, .int (0 : Int32)), (0, .ref (a 0)), (1, .int v1)] dX4_odd_9 rfl (by decide) rfl ?_
  refine J_iconst (v := (0 : Int32)) C dX4_odd_10 (by decide) ?_
  refine J_istore_n C [(3, .int (0 : Int32)), (2, .int (0 : Int32)), (0, .ref (a 0)), (1, .int v1)] dX4_odd_11 rfl (by decide) rfl ?_
  obtain ⟨nf, h⟩ := h
  refine J_lv [2, 3, 1, 0] rfl ?_
  refine s_X4_odd_12 C  nf _ _ _ h
theorem c_X4_odd {l : Launch} {g : Gd} {a : Nat → Nat} {w : MW} {K : Int32 → MW → Prop} {v1 : Int32} (h : P_X4_odd K w v1) : Kt l yX4_odd cX4_odd 4 (some .int) 4 93 g (sA 12 a) (mCl g a) [.ref (a 0), .int v1] w (QcI g (sA 12 a) (mCl g a) K) :=
  Kt_of (by decide +kernel) (Nat.le_of_ble_eq_true rfl) (fun x hx C => s_X4_odd C h)
theorem k_X4_odd {x : Mx} {g : Gd} {a : Nat → Nat} {cc : ByteArray} {nL : Nat} {own : String} {ret : Option FieldType} {F L : Nat} {Q : State → Prop} {w : MW} {pc : Nat} {lv : List (Nat × Value)} {st : List Value} (C : Cx x g (sA 12 a) (mCl g a) cc nL own ret F L) {index : Nat} {K : Int32 → MW → Prop} {v1 : Int32} (h1 : Cond.methodLink own index yX4_odd ∈ gT) (hd : decode cc pc = .ok (.invokevirtual index, 3)) (hR : 4 + 1 ≤ F ∧ 8 + (4 + 11) + 93 ≤ L) (hst : (st.map fun v => v.category).sum ≤ 8) (h : P_X4_odd K w v1) (k : ∀ (r : Int32) (w' : MW), K r w' → J x g (sA 12 a) (mCl g a) nL Q w' (pc + 3) lv (.int r :: st)) : J x g (sA 12 a) (mCl g a) nL Q w (pc) lv (.int v1 :: .ref (a 0) :: st) :=
  J_callVi C (As := [.int v1]) (b := a 0) (n := 1) (c_X4_odd h) h1 mw_660 mw_661 mw_6 mw_662 (by decide +kernel) hR rfl (rc_X4 C) hst hd k
-- X4_breadth (changes, room 4 93)
def P_X4_breadth (K : Int32 → MW → Prop) (w : MW) (v1 : Int32) : Prop := P_X4_load (fun w_1 => P_X4_isRow (fun r_2 => (r_2 = 0 → K (-1 : Int32) w_1) ∧ (¬ r_2 = 0 → P_X4_cellsOf (fun r_3 => K r_3 w_1) w_1 v1)) w_1 v1) w (md_used w)
set_option maxRecDepth 10000 in
theorem s_X4_breadth {x : Mx} {g : Gd} {a : Nat → Nat} (C : Cx x g (sA 12 a) (mCl g a) cX4_breadth 2 RX4 (some .int) 4 93) {K : Int32 → MW → Prop}  {w : MW} {v1 : Int32} (h : P_X4_breadth K w v1) : J x g (sA 12 a) (mCl g a) 2 (JQ x (sA 12 a) (QcI g (sA 12 a) (mCl g a) K)) w 0 [(0, .ref (a 0)), (1, .int v1)] [] := by
  unfold P_X4_breadth at h
  refine J_aload_n C 0 dX4_breadth_0 rfl rfl ?_
  refine J_aload_n C 0 dX4_breadth_1 rfl rfl ?_
  refine G_md_used C mw_464 dX4_breadth_2 ?_
  refine k_X4_load C mw_517 dX4_breadth_5 ⟨Nat.le_of_ble_eq_true rfl, Nat.le_of_ble_eq_true rfl⟩ (Nat.le_of_ble_eq_true rfl) h (fun w_1 h => ?_)
  refine J_aload_n C 0 dX4_breadth_8 rfl rfl ?_
  refine J_iload_n C 1 dX4_breadth_9 rfl rfl ?_
  refine k_X4_isRow C mw_667 dX4_breadth_10 ⟨Nat.le_of_ble_eq_true rfl, Nat.le_of_ble_eq_true rfl⟩ (Nat.le_of_ble_eq_true rfl) h (fun r_2 h => ?_)
  refine J_if_eq (tgt := 24) C dX4_breadth_13 (by decide) h (fun h => ?_) (fun h => ?_)
  · refine J_iconst (v := (-1 : Int32)) C dX4_breadth_24 (by decide) ?_
    exact J_iret C dX4_breadth_25 h
  · refine J_aload_n C 0 dX4_breadth_16 rfl rfl ?_
    refine J_iload_n C 1 dX4_breadth_17 rfl rfl ?_
    refine k_X4_cellsOf C mw_547 dX4_breadth_18 ⟨Nat.le_of_ble_eq_true rfl, Nat.le_of_ble_eq_true rfl⟩ (Nat.le_of_ble_eq_true rfl) h (fun r_3 h => ?_)
    refine J_goto (tgt := 25) C dX4_breadth_21 (by decide) ?_
    exact J_iret C dX4_breadth_25 h
theorem c_X4_breadth {l : Launch} {g : Gd} {a : Nat → Nat} {w : MW} {K : Int32 → MW → Prop} {v1 : Int32} (h : P_X4_breadth K w v1) : Kt l yX4_breadth cX4_breadth 2 (some .int) 4 93 g (sA 12 a) (mCl g a) [.ref (a 0), .int v1] w (QcI g (sA 12 a) (mCl g a) K) :=
  Kt_of (by decide +kernel) (Nat.le_of_ble_eq_true rfl) (fun x hx C => s_X4_breadth C h)
theorem k_X4_breadth {x : Mx} {g : Gd} {a : Nat → Nat} {cc : ByteArray} {nL : Nat} {own : String} {ret : Option FieldType} {F L : Nat} {Q : State → Prop} {w : MW} {pc : Nat} {lv : List (Nat × Value)} {st : List Value} (C : Cx x g (sA 12 a) (mCl g a) cc nL own ret F L) {index : Nat} {K : Int32 → MW → Prop} {v1 : Int32} (h1 : Cond.methodLink own index yX4_breadth ∈ gT) (hd : decode cc pc = .ok (.invokevirtual index, 3)) (hR : 4 + 1 ≤ F ∧ 8 + (2 + 11) + 93 ≤ L) (hst : (st.map fun v => v.category).sum ≤ 8) (h : P_X4_breadth K w v1) (k : ∀ (r : Int32) (w' : MW), K r w' → J x g (sA 12 a) (mCl g a) nL Q w' (pc + 3) lv (.int r :: st)) : J x g (sA 12 a) (mCl g a) nL Q w (pc) lv (.int v1 :: .ref (a 0) :: st) :=
  J_callVi C (As := [.int v1]) (b := a 0) (n := 1) (c_X4_breadth h) h1 mw_664 mw_665 mw_6 mw_666 (by decide +kernel) hR rfl (rc_X4 C) hst hd k
