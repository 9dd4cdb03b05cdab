-- X3_form (changes, room 10 224)
def P_X3_form (K : Int32 → XW → Prop) (w : XW) (v1 : Int32) : Prop := P_X3_hasChosen (fun r_1 w_2 => (r_1 = 0 → K (-1 : Int32) w_2) ∧ (¬ r_1 = 0 → vp_in v1 12 ∧ (K (cs_formOf w_2 v1.toNatClampNeg) w_2))) w v1
set_option maxRecDepth 10000 in
theorem s_X3_form {x : Mx} {g : Gd} {a : Nat → Nat} (C : Cx x g (sA 15 a) (xCl g a) cX3_form 2 RX3 (some .int) 10 224) {K : Int32 → XW → Prop}  {w : XW} {v1 : Int32} (h : P_X3_form K w v1) : J x g (sA 15 a) (xCl g a) 2 (JQ x (sA 15 a) (QcI g (sA 15 a) (xCl g a) K)) w 0 [(0, .ref (a 0)), (1, .int v1)] [] := by
  unfold P_X3_form at h
  refine J_aload_n C 0 dX3_form_0 rfl rfl ?_
  refine J_iload_n C 1 dX3_form_1 rfl rfl ?_
  refine k_X3_hasChosen C mw_371 dX3_form_2 ⟨Nat.le_of_ble_eq_true rfl, Nat.le_of_ble_eq_true rfl⟩ (Nat.le_of_ble_eq_true rfl) h (fun r_1 w_2 h => ?_)
  refine J_if_eq (tgt := 20) C dX3_form_5 (by decide) h (fun h => ?_) (fun h => ?_)
  · refine J_iconst (v := (-1 : Int32)) C dX3_form_20 (by decide) ?_
    exact J_iret C dX3_form_21 h
  · refine J_aload_n C 0 dX3_form_8 rfl rfl ?_
    refine G_rd_columns C mw_82 dX3_form_9 ?_
    refine G_cs_formOf C mw_64 dX3_form_12 ?_
    refine J_iload_n C 1 dX3_form_15 rfl rfl ?_
    refine L_cs_formOf C dX3_form_16 h (fun h => ?_)
    refine J_goto (tgt := 21) C dX3_form_17 (by decide) ?_
    exact J_iret C dX3_form_21 h
theorem c_X3_form {l : Launch} {g : Gd} {a : Nat → Nat} {w : XW} {K : Int32 → XW → Prop} {v1 : Int32} (h : P_X3_form K w v1) : Kt l yX3_form cX3_form 2 (some .int) 10 224 g (sA 15 a) (xCl g a) [.ref (a 0), .int v1] w (QcI g (sA 15 a) (xCl g a) K) :=
  Kt_of (by decide +kernel) (Nat.le_of_ble_eq_true rfl) (fun x hx C => s_X3_form C h)
theorem k_X3_form {x : Mx} {g : Gd} {a : Nat → Nat} {cc : ByteArray} {nL : Nat} {own : String} {ret : Option FieldType} {F L : Nat} {Q : State → Prop} {w : XW} {pc : Nat} {lv : List (Nat × Value)} {st : List Value} (C : Cx x g (sA 15 a) (xCl g a) cc nL own ret F L) {index : Nat} {K : Int32 → XW → Prop} {v1 : Int32} (h1 : Cond.methodLink own index yX3_form ∈ gT) (hd : decode cc pc = .ok (.invokevirtual index, 3)) (hR : 10 + 1 ≤ F ∧ 8 + (2 + 11) + 224 ≤ L) (hst : (st.map fun v => v.category).sum ≤ 8) (h : P_X3_form K w v1) (k : ∀ (r : Int32) (w' : XW), K r w' → J x g (sA 15 a) (xCl g a) nL Q w' (pc + 3) lv (.int r :: st)) : J x g (sA 15 a) (xCl g a) nL Q w (pc) lv (.int v1 :: .ref (a 0) :: st) :=
  J_callVi C (As := [.int v1]) (b := a 0) (n := 1) (c_X3_form h) h1 mw_368 mw_369 mw_1 mw_370 (by decide +kernel) hR rfl (rc_X3 C) hst hd k
-- X3_missing (changes, room 10 224)
def P_X3_missing (K : Int32 → XW → Prop) (w : XW) (v1 : Int32) : Prop := P_X3_hasChosen (fun r_1 w_2 => (r_1 = 0 → K (-1 : Int32) w_2) ∧ (¬ r_1 = 0 → vp_in v1 12 ∧ (K (cs_codeOf w_2 v1.toNatClampNeg) w_2))) w v1
set_option maxRecDepth 10000 in
theorem s_X3_missing {x : Mx} {g : Gd} {a : Nat → Nat} (C : Cx x g (sA 15 a) (xCl g a) cX3_missing 2 RX3 (some .int) 10 224) {K : Int32 → XW → Prop}  {w : XW} {v1 : Int32} (h : P_X3_missing K w v1) : J x g (sA 15 a) (xCl g a) 2 (JQ x (sA 15 a) (QcI g (sA 15 a) (xCl g a) K)) w 0 [(0, .ref (a 0)), (1, .int v1)] [] := by
  unfold P_X3_missing at h
  refine J_aload_n C 0 dX3_missing_0 rfl rfl ?_
  refine J_iload_n C 1 dX3_missing_1 rfl rfl ?_
  refine k_X3_hasChosen C mw_371 dX3_missing_2 ⟨Nat.le_of_ble_eq_true rfl, Nat.le_of_ble_eq_true rfl⟩ (Nat.le_of_ble_eq_true rfl) h (fun r_1 w_2 h => ?_)
  refine J_if_eq (tgt := 20) C dX3_missing_5 (by decide) h (fun h => ?_) (fun h => ?_)
  · refine J_iconst (v := (-1 : Int32)) C dX3_missing_20 (by decide) ?_
    exact J_iret C dX3_missing_21 h
  · refine J_aload_n C 0 dX3_missing_8 rfl rfl ?_
    refine G_rd_columns C mw_82 dX3_missing_9 ?_
    refine G_cs_codeOf C mw_66 dX3_missing_12 ?_
    refine J_iload_n C 1 dX3_missing_15 rfl rfl ?_
    refine L_cs_codeOf C dX3_missing_16 h (fun h => ?_)
    refine J_goto (tgt := 21) C dX3_missing_17 (by decide) ?_
    exact J_iret C dX3_missing_21 h
theorem c_X3_missing {l : Launch} {g : Gd} {a : Nat → Nat} {w : XW} {K : Int32 → XW → Prop} {v1 : Int32} (h : P_X3_missing K w v1) : Kt l yX3_missing cX3_missing 2 (some .int) 10 224 g (sA 15 a) (xCl g a) [.ref (a 0), .int v1] w (QcI g (sA 15 a) (xCl g a) K) :=
  Kt_of (by decide +kernel) (Nat.le_of_ble_eq_true rfl) (fun x hx C => s_X3_missing C h)
theorem k_X3_missing {x : Mx} {g : Gd} {a : Nat → Nat} {cc : ByteArray} {nL : Nat} {own : String} {ret : Option FieldType} {F L : Nat} {Q : State → Prop} {w : XW} {pc : Nat} {lv : List (Nat × Value)} {st : List Value} (C : Cx x g (sA 15 a) (xCl g a) cc nL own ret F L) {index : Nat} {K : Int32 → XW → Prop} {v1 : Int32} (h1 : Cond.methodLink own index yX3_missing ∈ gT) (hd : decode cc pc = .ok (.invokevirtual index, 3)) (hR : 10 + 1 ≤ F ∧ 8 + (2 + 11) + 224 ≤ L) (hst : (st.map fun v => v.category).sum ≤ 8) (h : P_X3_missing K w v1) (k : ∀ (r : Int32) (w' : XW), K r w' → J x g (sA 15 a) (xCl g a) nL Q w' (pc + 3) lv (.int r :: st)) : J x g (sA 15 a) (xCl g a) nL Q w (pc) lv (.int v1 :: .ref (a 0) :: st) :=
  J_callVi C (As := [.int v1]) (b := a 0) (n := 1) (c_X3_missing h) h1 mw_375 mw_376 mw_1 mw_377 (by decide +kernel) hR rfl (rc_X3 C) hst hd k
-- X3_lacks (changes, room 10 224)
def P_X3_lacks (K : Int32 → XW → Prop) (w : XW) (v1 : Int32) : Prop := P_X3_hasChosen (fun r_1 w_2 => (r_1 = 0 → K (-1 : Int32) w_2) ∧ (¬ r_1 = 0 → vp_in v1 12 ∧ (P_X0_countMissing (fun r_3 w_4 => K r_3 w_4) w_2 v1 (cs_codeOf w_2 v1.toNatClampNeg)))) w v1
set_option maxRecDepth 10000 in
theorem s_X3_lacks {x : Mx} {g : Gd} {a : Nat → Nat} (C : Cx x g (sA 15 a) (xCl g a) cX3_lacks 2 RX3 (some .int) 10 224) {K : Int32 → XW → Prop}  {w : XW} {v1 : Int32} (h : P_X3_lacks K w v1) : J x g (sA 15 a) (xCl g a) 2 (JQ x (sA 15 a) (QcI g (sA 15 a) (xCl g a) K)) w 0 [(0, .ref (a 0)), (1, .int v1)] [] := by
  unfold P_X3_lacks at h
  refine J_aload_n C 0 dX3_lacks_0 rfl rfl ?_
  refine J_iload_n C 1 dX3_lacks_1 rfl rfl ?_
  refine k_X3_hasChosen C mw_371 dX3_lacks_2 ⟨Nat.le_of_ble_eq_true rfl, Nat.le_of_ble_eq_true rfl⟩ (Nat.le_of_ble_eq_true rfl) h (fun r_1 w_2 h => ?_)
  refine J_if_eq (tgt := 28) C dX3_lacks_5 (by decide) h (fun h => ?_) (fun h => ?_)
  · refine J_iconst (v := (-1 : Int32)) C dX3_lacks_28 (by decide) ?_
    exact J_iret C dX3_lacks_29 h
  · refine J_aload_n C 0 dX3_lacks_8 rfl rfl ?_
    refine G_rd_columns C mw_82 dX3_lacks_9 ?_
    refine J_iload_n C 1 dX3_lacks_12 rfl rfl ?_
    refine J_aload_n C 0 dX3_lacks_13 rfl rfl ?_
    refine G_rd_columns C mw_82 dX3_lacks_14 ?_
    refine G_cs_codeOf C mw_66 dX3_lacks_17 ?_
    refine J_iload_n C 1 dX3_lacks_20 rfl rfl ?_
    refine L_cs_codeOf C dX3_lacks_21 h (fun h => ?_)
    refine k_X0_countMissing C mw_382 dX3_lacks_22 ⟨Nat.le_of_ble_eq_true rfl, Nat.le_of_ble_eq_true rfl⟩ (Nat.le_of_ble_eq_true rfl) h (fun r_3 w_4 h => ?_)
    refine J_goto (tgt := 29) C dX3_lacks_25 (by decide) ?_
    exact J_iret C dX3_lacks_29 h
theorem c_X3_lacks {l : Launch} {g : Gd} {a : Nat → Nat} {w : XW} {K : Int32 → XW → Prop} {v1 : Int32} (h : P_X3_lacks K w v1) : Kt l yX3_lacks cX3_lacks 2 (some .int) 10 224 g (sA 15 a) (xCl g a) [.ref (a 0), .int v1] w (QcI g (sA 15 a) (xCl g a) K) :=
  Kt_of (by decide +kernel) (Nat.le_of_ble_eq_true rfl) (fun x hx C => s_X3_lacks C h)
theorem k_X3_lacks {x : Mx} {g : Gd} {a : Nat → Nat} {cc : ByteArray} {nL : Nat} {own : String} {ret : Option FieldType} {F L : Nat} {Q : State → Prop} {w : XW} {pc : Nat} {lv : List (Nat × Value)} {st : List Value} (C : Cx x g (sA 15 a) (xCl g a) cc nL own ret F L) {index : Nat} {K : Int32 → XW → Prop} {v1 : Int32} (h1 : Cond.methodLink own index yX3_lacks ∈ gT) (hd : decode cc pc = .ok (.invokevirtual index, 3)) (hR : 10 + 1 ≤ F ∧ 8 + (2 + 11) + 224 ≤ L) (hst : (st.map fun v => v.category).sum ≤ 8) (h : P_X3_lacks K w v1) (k : ∀ (r : Int32) (w' : XW), K r w' → J x g (sA 15 a) (xCl g a) nL Q w' (pc + 3) lv (.int r :: st)) : J x g (sA 15 a) (xCl g a) nL Q w (pc) lv (.int v1 :: .ref (a 0) :: st) :=
  J_callVi C (As := [.int v1]) (b := a 0) (n := 1) (c_X3_lacks h) h1 mw_379 mw_380 mw_1 mw_381 (by decide +kernel) hR rfl (rc_X3 C) hst hd k
-- X3_costOf (changes, room 10 224)
def P_X3_costOf (K : Int32 → XW → Prop) (w : XW) (v1 : Int32) (v2 : Int32) (v3 : Int32) : Prop := P_X3_hasChosen (fun r_1 w_2 => (r_1 = 0 → K (-1 : Int32) w_2) ∧ (¬ r_1 = 0 → P_X0_isForm (fun r_3 => (r_3 = 0 → K (-1 : Int32) w_2) ∧ (¬ r_3 = 0 → P_X0_isCode (fun r_4 => (¬ r_4 = 0 → P_X0_survey (fun w_5 => P_X0_price (fun r_6 w_7 => K r_6 w_7) w_5 v1 v2 v3) w_2 v1 v3) ∧ (r_4 = 0 → K (-1 : Int32) w_2)) v3)) v2)) w v1
set_option maxRecDepth 10000 in
theorem s_X3_costOf {x : Mx} {g : Gd} {a : Nat → Nat} (C : Cx x g (sA 15 a) (xCl g a) cX3_costOf 4 RX3 (some .int) 10 224) {K : Int32 → XW → Prop}  {w : XW} {v1 : Int32} {v2 : Int32} {v3 : Int32} (h : P_X3_costOf K w v1 v2 v3) : J x g (sA 15 a) (xCl g a) 4 (JQ x (sA 15 a) (QcI g (sA 15 a) (xCl g a) K)) w 0 [(0, .ref (a 0)), (1, .int v1), (2, .int v2), (3, .int v3)] [] := by
  unfold P_X3_costOf at h
  refine J_aload_n C 0 dX3_costOf_0 rfl rfl ?_
  refine J_iload_n C 1 dX3_costOf_1 rfl rfl ?_
  refine k_X3_hasChosen C mw_371 dX3_costOf_2 ⟨Nat.le_of_ble_eq_true rfl, Nat.le_of_ble_eq_true rfl⟩ (Nat.le_of_ble_eq_true rfl) h (fun r_1 w_2 h => ?_)
  refine J_if_eq (tgt := 22) C dX3_costOf_5 (by decide) h (fun h => ?_) (fun h => ?_)
  · refine J_iconst (v := (-1 : Int32)) C dX3_costOf_22 (by decide) ?_
    exact J_iret C dX3_costOf_23 h
  · refine J_iload_n C 2 dX3_costOf_8 rfl rfl ?_
    refine k_X0_isForm C mw_390 dX3_costOf_9 ⟨Nat.le_of_ble_eq_true rfl, Nat.le_of_ble_eq_true rfl⟩ (Nat.le_of_ble_eq_true rfl) h (fun r_3 h => ?_)
    refine J_if_eq (tgt := 22) C dX3_costOf_12 (by decide) h (fun h => ?_) (fun h => ?_)
    · refine J_iconst (v := (-1 : Int32)) C dX3_costOf_22 (by decide) ?_
      exact J_iret C dX3_costOf_23 h
    · refine J_iload_n C 3 dX3_costOf_15 rfl rfl ?_
      refine k_X0_isCode C mw_393 dX3_costOf_16 ⟨Nat.le_of_ble_eq_true rfl, Nat.le_of_ble_eq_true rfl⟩ (Nat.le_of_ble_eq_true rfl) h (fun r_4 h => ?_)
      refine J_if_ne (tgt := 24) C dX3_costOf_19 (by decide) h (fun h => ?_) (fun h => ?_)
      · refine J_aload_n C 0 dX3_costOf_24 rfl rfl ?_
        refine G_rd_columns C mw_82 dX3_costOf_25 ?_
        refine J_iload_n C 1 dX3_costOf_28 rfl rfl ?_
        refine J_iload_n C 3 dX3_costOf_29 rfl rfl ?_
        refine k_X0_survey C mw_396 dX3_costOf_30 ⟨Nat.le_of_ble_eq_true rfl, Nat.le_of_ble_eq_true rfl⟩ (Nat.le_of_ble_eq_true rfl) h (fun w_5 h => ?_)
        refine J_aload_n C 0 dX3_costOf_33 rfl rfl ?_
        refine G_rd_columns C mw_82 dX3_costOf_34 ?_
        refine J_iload_n C 1 dX3_costOf_37 rfl rfl ?_
        refine J_iload_n C 2 dX3_costOf_38 rfl rfl ?_
        refine J_iload_n C 3 dX3_costOf_39 rfl rfl ?_
        refine k_X0_price C mw_397 dX3_costOf_40 ⟨Nat.le_of_ble_eq_true rfl, Nat.le_of_ble_eq_true rfl⟩ (Nat.le_of_ble_eq_true rfl) h (fun r_6 w_7 h => ?_)
        exact J_iret C dX3_costOf_43 h
      · refine J_iconst (v := (-1 : Int32)) C dX3_costOf_22 (by decide) ?_
        exact J_iret C dX3_costOf_23 h
theorem c_X3_costOf {l : Launch} {g : Gd} {a : Nat → Nat} {w : XW} {K : Int32 → XW → Prop} {v1 : Int32} {v2 : Int32} {v3 : Int32} (h : P_X3_costOf K w v1 v2 v3) : Kt l yX3_costOf cX3_costOf 4 (some .int) 10 224 g (sA 15 a) (xCl g a) [.ref (a 0), .int v1, .int v2, .int v3] w (QcI g (sA 15 a) (xCl g a) K) :=
  Kt_of (by decide +kernel) (Nat.le_of_ble_eq_true rfl) (fun x hx C => s_X3_costOf C h)
theorem k_X3_costOf {x : Mx} {g : Gd} {a : Nat → Nat} {cc : ByteArray} {nL : Nat} {own : String} {ret : Option FieldType} {F L : Nat} {Q : State → Prop} {w : XW} {pc : Nat} {lv : List (Nat × Value)} {st : List Value} (C : Cx x g (sA 15 a) (xCl g a) cc nL own ret F L) {index : Nat} {K : Int32 → XW → Prop} {v1 : Int32} {v2 : Int32} {v3 : Int32} (h1 : Cond.methodLink own index yX3_costOf ∈ gT) (hd : decode cc pc = .ok (.invokevirtual index, 3)) (hR : 10 + 1 ≤ F ∧ 8 + (4 + 11) + 224 ≤ L) (hst : (st.map fun v => v.category).sum ≤ 8) (h : P_X3_costOf K w v1 v2 v3) (k : ∀ (r : Int32) (w' : XW), K r w' → J x g (sA 15 a) (xCl g a) nL Q w' (pc + 3) lv (.int r :: st)) : J x g (sA 15 a) (xCl g a) nL Q w (pc) lv (.int v3 :: .int v2 :: .int v1 :: .ref (a 0) :: st) :=
  J_callVi C (As := [.int v1, .int v2, .int v3]) (b := a 0) (n := 3) (c_X3_costOf h) h1 mw_387 mw_388 mw_1 mw_389 (by decide +kernel) hR rfl (rc_X3 C) hst hd k
-- X3_fits (changes, room 10 224)
def P_X3_fits (K : Int32 → XW → Prop) (w : XW) (v1 : Int32) : Prop := P_X3_hasChosen (fun r_1 w_2 => (r_1 = 0 → K (-1 : Int32) w_2) ∧ (¬ r_1 = 0 → vp_in v1 12 ∧ (P_J6_bitCount_0f7a4 (fun r_3 => K r_3 w_2) (cs_fitting w_2 v1.toNatClampNeg)))) w v1
set_option maxRecDepth 10000 in
theorem s_X3_fits {x : Mx} {g : Gd} {a : Nat → Nat} (C : Cx x g (sA 15 a) (xCl g a) cX3_fits 2 RX3 (some .int) 10 224) {K : Int32 → XW → Prop}  {w : XW} {v1 : Int32} (h : P_X3_fits K w v1) : J x g (sA 15 a) (xCl g a) 2 (JQ x (sA 15 a) (QcI g (sA 15 a) (xCl g a) K)) w 0 [(0, .ref (a 0)), (1, .int v1)] [] := by
  unfold P_X3_fits at h
  refine J_aload_n C 0 dX3_fits_0 rfl rfl ?_
  refine J_iload_n C 1 dX3_fits_1 rfl rfl ?_
  refine k_X3_hasChosen C mw_371 dX3_fits_2 ⟨Nat.le_of_ble_eq_true rfl, Nat.le_of_ble_eq_true rfl⟩ (Nat.le_of_ble_eq_true rfl) h (fun r_1 w_2 h => ?_)
  refine J_if_eq (tgt := 23) C dX3_fits_5 (by decide) h (fun h => ?_) (fun h => ?_)
  · refine J_iconst (v := (-1 : Int32)) C dX3_fits_23 (by decide) ?_
    exact J_iret C dX3_fits_24 h
  · refine J_aload_n C 0 dX3_fits_8 rfl rfl ?_
    refine G_rd_columns C mw_82 dX3_fits_9 ?_
    refine G_cs_fitting C mw_70 dX3_fits_12 ?_
    refine J_iload_n C 1 dX3_fits_15 rfl rfl ?_
    refine L_cs_fitting C dX3_fits_16 h (fun h => ?_)
    refine k_J6_bitCount_0f7a4 C mw_402 dX3_fits_17 ⟨Nat.le_of_ble_eq_true rfl, Nat.le_of_ble_eq_true rfl⟩ (Nat.le_of_ble_eq_true rfl) h (fun r_3 h => ?_)
    refine J_goto (tgt := 24) C dX3_fits_20 (by decide) ?_
    exact J_iret C dX3_fits_24 h
theorem c_X3_fits {l : Launch} {g : Gd} {a : Nat → Nat} {w : XW} {K : Int32 → XW → Prop} {v1 : Int32} (h : P_X3_fits K w v1) : Kt l yX3_fits cX3_fits 2 (some .int) 10 224 g (sA 15 a) (xCl g a) [.ref (a 0), .int v1] w (QcI g (sA 15 a) (xCl g a) K) :=
  Kt_of (by decide +kernel) (Nat.le_of_ble_eq_true rfl) (fun x hx C => s_X3_fits C h)
theorem k_X3_fits {x : Mx} {g : Gd} {a : Nat → Nat} {cc : ByteArray} {nL : Nat} {own : String} {ret : Option FieldType} {F L : Nat} {Q : State → Prop} {w : XW} {pc : Nat} {lv : List (Nat × Value)} {st : List Value} (C : Cx x g (sA 15 a) (xCl g a) cc nL own ret F L) {index : Nat} {K : Int32 → XW → Prop} {v1 : Int32} (h1 : Cond.methodLink own index yX3_fits ∈ gT) (hd : decode cc pc = .ok (.invokevirtual index, 3)) (hR : 10 + 1 ≤ F ∧ 8 + (2 + 11) + 224 ≤ L) (hst : (st.map fun v => v.category).sum ≤ 8) (h : P_X3_fits K w v1) (k : ∀ (r : Int32) (w' : XW), K r w' → J x g (sA 15 a) (xCl g a) nL Q w' (pc + 3) lv (.int r :: st)) : J x g (sA 15 a) (xCl g a) nL Q w (pc) lv (.int v1 :: .ref (a 0) :: st) :=
  J_callVi C (As := [.int v1]) (b := a 0) (n := 1) (c_X3_fits h) h1 mw_399 mw_400 mw_1 mw_401 (by decide +kernel) hR rfl (rc_X3 C) hst hd k
-- X3_doubt (changes, room 10 224)
def P_X3_doubt (K : Int32 → XW → Prop) (w : XW) (v1 : Int32) : Prop := P_X3_hasChosen (fun r_1 w_2 => (r_1 = 0 → K (-1 : Int32) w_2) ∧ (¬ r_1 = 0 → P_X0_rivalOf (fun r_3 => K r_3 w_2) w_2 v1)) w v1
set_option maxRecDepth 10000 in
theorem s_X3_doubt {x : Mx} {g : Gd} {a : Nat → Nat} (C : Cx x g (sA 15 a) (xCl g a) cX3_doubt 2 RX3 (some .int) 10 224) {K : Int32 → XW → Prop}  {w : XW} {v1 : Int32} (h : P_X3_doubt K w v1) : J x g (sA 15 a) (xCl g a) 2 (JQ x (sA 15 a) (QcI g (sA 15 a) (xCl g a) K)) w 0 [(0, .ref (a 0)), (1, .int v1)] [] := by
  unfold P_X3_doubt at h
  refine J_aload_n C 0 dX3_doubt_0 rfl rfl ?_
  refine J_iload_n C 1 dX3_doubt_1 rfl rfl ?_
  refine k_X3_hasChosen C mw_371 dX3_doubt_2 ⟨Nat.le_of_ble_eq_true rfl, Nat.le_of_ble_eq_true rfl⟩ (Nat.le_of_ble_eq_true rfl) h (fun r_1 w_2 h => ?_)
  refine J_if_eq (tgt := 19) C dX3_doubt_5 (by decide) h (fun h => ?_) (fun h => ?_)
  · refine J_iconst (v := (-1 : Int32)) C dX3_doubt_19 (by decide) ?_
    exact J_iret C dX3_doubt_20 h
  · refine J_aload_n C 0 dX3_doubt_8 rfl rfl ?_
    refine G_rd_columns C mw_82 dX3_doubt_9 ?_
    refine J_iload_n C 1 dX3_doubt_12 rfl rfl ?_
    refine k_X0_rivalOf C mw_412 dX3_doubt_13 ⟨Nat.le_of_ble_eq_true rfl, Nat.le_of_ble_eq_true rfl⟩ (Nat.le_of_ble_eq_true rfl) h (fun r_3 h => ?_)
    refine J_goto (tgt := 20) C dX3_doubt_16 (by decide) ?_
    exact J_iret C dX3_doubt_20 h
theorem c_X3_doubt {l : Launch} {g : Gd} {a : Nat → Nat} {w : XW} {K : Int32 → XW → Prop} {v1 : Int32} (h : P_X3_doubt K w v1) : Kt l yX3_doubt cX3_doubt 2 (some .int) 10 224 g (sA 15 a) (xCl g a) [.ref (a 0), .int v1] w (QcI g (sA 15 a) (xCl g a) K) :=
  Kt_of (by decide +kernel) (Nat.le_of_ble_eq_true rfl) (fun x hx C => s_X3_doubt C h)
theorem k_X3_doubt {x : Mx} {g : Gd} {a : Nat → Nat} {cc : ByteArray} {nL : Nat} {own : String} {ret : Option FieldType} {F L : Nat} {Q : State → Prop} {w : XW} {pc : Nat} {lv : List (Nat × Value)} {st : List Value} (C : Cx x g (sA 15 a) (xCl g a) cc nL own ret F L) {index : Nat} {K : Int32 → XW → Prop} {v1 : Int32} (h1 : Cond.methodLink own index yX3_doubt ∈ gT) (hd : decode cc pc = .ok (.invokevirtual index, 3)) (hR : 10 + 1 ≤ F ∧ 8 + (2 + 11) + 224 ≤ L) (hst : (st.map fun v => v.category).sum ≤ 8) (h : P_X3_doubt K w v1) (k : ∀ (r : Int32) (w' : XW), K r w' → J x g (sA 15 a) (xCl g a) nL Q w' (pc + 3) lv (.int r :: st)) : J x g (sA 15 a) (xCl g a) nL Q w (pc) lv (.int v1 :: .ref (a 0) :: st) :=
  J_callVi C (As := [.int v1]) (b := a 0) (n := 1) (c_X3_doubt h) h1 mw_409 mw_410 mw_1 mw_411 (by decide +kernel) hR rfl (rc_X3 C) hst hd k
-- X3_parts (changes, room 10 224)
def P_X3_parts (K : Int32 → XW → Prop) (w : XW) (v1 : Int32) (v2 : Int32) (v3 : Int32) (v4 : Int32) : Prop := P_X3_hasChosen (fun r_1 w_2 => (r_1 = 0 → K (-1 : Int32) w_2) ∧ (¬ r_1 = 0 → P_X0_isForm (fun r_3 => (r_3 = 0 → K (-1 : Int32) w_2) ∧ (¬ r_3 = 0 → P_X0_isForm (fun r_4 => (r_4 = 0 → K (-1 : Int32) w_2) ∧ (¬ r_4 = 0 → P_X0_isCode (fun r_5 => (¬ r_5 = 0 → P_X0_survey (fun w_6 => P_X0_partingRow (fun r_7 w_8 => K r_7 w_8) w_6 v1 v2 v3 v4) w_2 v1 v4) ∧ (r_5 = 0 → K (-1 : Int32) w_2)) v4)) v3)) v2)) w v1
set_option maxRecDepth 10000 in
theorem s_X3_parts {x : Mx} {g : Gd} {a : Nat → Nat} (C : Cx x g (sA 15 a) (xCl g a) cX3_parts 5 RX3 (some .int) 10 224) {K : Int32 → XW → Prop}  {w : XW} {v1 : Int32} {v2 : Int32} {v3 : Int32} {v4 : Int32} (h : P_X3_parts K w v1 v2 v3 v4) : J x g (sA 15 a) (xCl g a) 5 (JQ x (sA 15 a) (QcI g (sA 15 a) (xCl g a) K)) w 0 [(0, .ref (a 0)), (1, .int v1), (2, .int v2), (3, .int v3), (4, .int v4)] [] := by
  unfold P_X3_parts at h
  refine J_aload_n C 0 dX3_parts_0 rfl rfl ?_
  refine J_iload_n C 1 dX3_parts_1 rfl rfl ?_
  refine k_X3_hasChosen C mw_371 dX3_parts_2 ⟨Nat.le_of_ble_eq_true rfl, Nat.le_of_ble_eq_true rfl⟩ (Nat.le_of_ble_eq_true rfl) h (fun r_1 w_2 h => ?_)
  refine J_if_eq (tgt := 30) C dX3_parts_5 (by decide) h (fun h => ?_) (fun h => ?_)
  · refine J_iconst (v := (-1 : Int32)) C dX3_parts_30 (by decide) ?_
    exact J_iret C dX3_parts_31 h
  · refine J_iload_n C 2 dX3_parts_8 rfl rfl ?_
    refine k_X0_isForm C mw_390 dX3_parts_9 ⟨Nat.le_of_ble_eq_true rfl, Nat.le_of_ble_eq_true rfl⟩ (Nat.le_of_ble_eq_true rfl) h (fun r_3 h => ?_)
    refine J_if_eq (tgt := 30) C dX3_parts_12 (by decide) h (fun h => ?_) (fun h => ?_)
    · refine J_iconst (v := (-1 : Int32)) C dX3_parts_30 (by decide) ?_
      exact J_iret C dX3_parts_31 h
    · refine J_iload_n C 3 dX3_parts_15 rfl rfl ?_
      refine k_X0_isForm C mw_390 dX3_parts_16 ⟨Nat.le_of_ble_eq_true rfl, Nat.le_of_ble_eq_true rfl⟩ (Nat.le_of_ble_eq_true rfl) h (fun r_4 h => ?_)
      refine J_if_eq (tgt := 30) C dX3_parts_19 (by decide) h (fun h => ?_) (fun h => ?_)
      · refine J_iconst (v := (-1 : Int32)) C dX3_parts_30 (by decide) ?_
        exact J_iret C dX3_parts_31 h
      · refine J_iload C 4 dX3_parts_22 rfl ?_
        refine k_X0_isCode C mw_393 dX3_parts_24 ⟨Nat.le_of_ble_eq_true rfl, Nat.le_of_ble_eq_true rfl⟩ (Nat.le_of_ble_eq_true rfl) h (fun r_5 h => ?_)
        refine J_if_ne (tgt := 32) C dX3_parts_27 (by decide) h (fun h => ?_) (fun h => ?_)
        · refine J_aload_n C 0 dX3_parts_32 rfl rfl ?_
          refine G_rd_columns C mw_82 dX3_parts_33 ?_
          refine J_iload_n C 1 dX3_parts_36 rfl rfl ?_
          refine J_iload C 4 dX3_parts_37 rfl ?_
          refine k_X0_survey C mw_396 dX3_parts_39 ⟨Nat.le_of_ble_eq_true rfl, Nat.le_of_ble_eq_true rfl⟩ (Nat.le_of_ble_eq_true rfl) h (fun w_6 h => ?_)
          refine J_aload_n C 0 dX3_parts_42 rfl rfl ?_
          refine G_rd_columns C mw_82 dX3_parts_43 ?_
          refine J_iload_n C 1 dX3_parts_46 rfl rfl ?_
          refine J_iload_n C 2 dX3_parts_47 rfl rfl ?_
          refine J_iload_n C 3 dX3_parts_48 rfl rfl ?_
          refine J_iload C 4 dX3_parts_49 rfl ?_
          refine k_X0_partingRow C mw_420 dX3_parts_51 ⟨Nat.le_of_ble_eq_true rfl, Nat.le_of_ble_eq_true rfl⟩ (Nat.le_of_ble_eq_true rfl) h (fun r_7 w_8 h => ?_)
          exact J_iret C dX3_parts_54 h
        · refine J_iconst (v := (-1 : Int32)) C dX3_parts_30 (by decide) ?_
          exact J_iret C dX3_parts_31 h
theorem c_X3_parts {l : Launch} {g : Gd} {a : Nat → Nat} {w : XW} {K : Int32 → XW → Prop} {v1 : Int32} {v2 : Int32} {v3 : Int32} {v4 : Int32} (h : P_X3_parts K w v1 v2 v3 v4) : Kt l yX3_parts cX3_parts 5 (some .int) 10 224 g (sA 15 a) (xCl g a) [.ref (a 0), .int v1, .int v2, .int v3, .int v4] w (QcI g (sA 15 a) (xCl g a) K) :=
  Kt_of (by decide +kernel) (Nat.le_of_ble_eq_true rfl) (fun x hx C => s_X3_parts C h)
theorem k_X3_parts {x : Mx} {g : Gd} {a : Nat → Nat} {cc : ByteArray} {nL : Nat} {own : String} {ret : Option FieldType} {F L : Nat} {Q : State → Prop} {w : XW} {pc : Nat} {lv : List (Nat × Value)} {st : List Value} (C : Cx x g (sA 15 a) (xCl g a) cc nL own ret F L) {index : Nat} {K : Int32 → XW → Prop} {v1 : Int32} {v2 : Int32} {v3 : Int32} {v4 : Int32} (h1 : Cond.methodLink own index yX3_parts ∈ gT) (hd : decode cc pc = .ok (.invokevirtual index, 3)) (hR : 10 + 1 ≤ F ∧ 8 + (5 + 11) + 224 ≤ L) (hst : (st.map fun v => v.category).sum ≤ 8) (h : P_X3_parts K w v1 v2 v3 v4) (k : ∀ (r : Int32) (w' : XW), K r w' → J x g (sA 15 a) (xCl g a) nL Q w' (pc + 3) lv (.int r :: st)) : J x g (sA 15 a) (xCl g a) nL Q w (pc) lv (.int v4 :: .int v3 :: .int v2 :: .int v1 :: .ref (a 0) :: st) :=
  J_callVi C (As := [.int v1, .int v2, .int v3, .int v4]) (b := a 0) (n := 4) (c_X3_parts h) h1 mw_417 mw_418 mw_1 mw_419 (by decide +kernel) hR rfl (rc_X3 C) hst hd k
-- X3_value (changes, room 10 224)
def P_X3_value (K : Int64 → XW → Prop) (w : XW) (v1 : Int32) (v2 : Int32) : Prop := P_X3_hasChosen (fun r_1 w_2 => (r_1 = 0 → K (0 : Int64) w_2) ∧ (¬ r_1 = 0 → P_X0_worthOf (fun r_3 w_4 => K (Int32.toInt64 r_3) w_4) w_2 v1 v2)) w v2
set_option maxRecDepth 10000 in
theorem s_X3_value {x : Mx} {g : Gd} {a : Nat → Nat} (C : Cx x g (sA 15 a) (xCl g a) cX3_value 3 RX3 (some .long) 10 224) {K : Int64 → XW → Prop}  {w : XW} {v1 : Int32} {v2 : Int32} (h : P_X3_value K w v1 v2) : J x g (sA 15 a) (xCl g a) 3 (JQ x (sA 15 a) (QcL g (sA 15 a) (xCl g a) K)) w 0 [(0, .ref (a 0)), (1, .int v1), (2, .int v2)] [] := by
  unfold P_X3_value at h
  refine J_aload_n C 0 dX3_value_0 rfl rfl ?_
  refine J_iload_n C 2 dX3_value_1 rfl rfl ?_
  refine k_X3_hasChosen C mw_371 dX3_value_2 ⟨Nat.le_of_ble_eq_true rfl, Nat.le_of_ble_eq_true rfl⟩ (Nat.le_of_ble_eq_true rfl) h (fun r_1 w_2 h => ?_)
  refine J_if_eq (tgt := 21) C dX3_value_5 (by decide) h (fun h => ?_) (fun h => ?_)
  · refine J_lconst (v := (0 : Int64)) C dX3_value_21 (by decide) ?_
    exact J_lret C dX3_value_22 h
  · refine J_aload_n C 0 dX3_value_8 rfl rfl ?_
    refine G_rd_columns C mw_82 dX3_value_9 ?_
    refine J_iload_n C 1 dX3_value_12 rfl rfl ?_
    refine J_iload_n C 2 dX3_value_13 rfl rfl ?_
    refine k_X0_worthOf C mw_428 dX3_value_14 ⟨Nat.le_of_ble_eq_true rfl, Nat.le_of_ble_eq_true rfl⟩ (Nat.le_of_ble_eq_true rfl) h (fun r_3 w_4 h => ?_)
    refine J_i2l C dX3_value_17 ?_
    refine J_goto (tgt := 22) C dX3_value_18 (by decide) ?_
    exact J_lret C dX3_value_22 h
theorem c_X3_value {l : Launch} {g : Gd} {a : Nat → Nat} {w : XW} {K : Int64 → XW → Prop} {v1 : Int32} {v2 : Int32} (h : P_X3_value K w v1 v2) : Kt l yX3_value cX3_value 3 (some .long) 10 224 g (sA 15 a) (xCl g a) [.ref (a 0), .int v1, .int v2] w (QcL g (sA 15 a) (xCl g a) K) :=
  Kt_of (by decide +kernel) (Nat.le_of_ble_eq_true rfl) (fun x hx C => s_X3_value C h)
theorem k_X3_value {x : Mx} {g : Gd} {a : Nat → Nat} {cc : ByteArray} {nL : Nat} {own : String} {ret : Option FieldType} {F L : Nat} {Q : State → Prop} {w : XW} {pc : Nat} {lv : List (Nat × Value)} {st : List Value} (C : Cx x g (sA 15 a) (xCl g a) cc nL own ret F L) {index : Nat} {K : Int64 → XW → Prop} {v1 : Int32} {v2 : Int32} (h1 : Cond.methodLink own index yX3_value ∈ gT) (hd : decode cc pc = .ok (.invokevirtual index, 3)) (hR : 10 + 1 ≤ F ∧ 8 + (3 + 11) + 224 ≤ L) (hst : (st.map fun v => v.category).sum ≤ 8) (h : P_X3_value K w v1 v2) (k : ∀ (r : Int64) (w' : XW), K r w' → J x g (sA 15 a) (xCl g a) nL Q w' (pc + 3) lv (.long r :: st)) : J x g (sA 15 a) (xCl g a) nL Q w (pc) lv (.int v2 :: .int v1 :: .ref (a 0) :: st) :=
  J_callVl C (As := [.int v1, .int v2]) (b := a 0) (n := 2) (c_X3_value h) h1 mw_425 mw_426 mw_1 mw_427 (by decide +kernel) hR rfl (rc_X3 C) hst hd k
-- X3_back (changes, room 10 224)
def P_X3_back (K : Int32 → XW → Prop) (w : XW) (v1 : Int32) (v2 : Int32) (v3 : Int32) : Prop := P_X3_hasChosen (fun r_1 w_2 => (r_1 = 0 → K (-1 : Int32) w_2) ∧ (¬ r_1 = 0 → P_X1_isInColumns (fun r_3 => (r_3 = 0 → K (-1 : Int32) w_2) ∧ (¬ r_3 = 0 → P_X1_cellIn (fun r_4 => P_X1_byteIn (fun r_5 => K r_5 w_2) w_2 r_4 v3) w_2 v1 v2)) w_2 v1)) w v2
set_option maxRecDepth 10000 in
theorem s_X3_back {x : Mx} {g : Gd} {a : Nat → Nat} (C : Cx x g (sA 15 a) (xCl g a) cX3_back 4 RX3 (some .int) 10 224) {K : Int32 → XW → Prop}  {w : XW} {v1 : Int32} {v2 : Int32} {v3 : Int32} (h : P_X3_back K w v1 v2 v3) : J x g (sA 15 a) (xCl g a) 4 (JQ x (sA 15 a) (QcI g (sA 15 a) (xCl g a) K)) w 0 [(0, .ref (a 0)), (1, .int v1), (2, .int v2), (3, .int v3)] [] := by
  unfold P_X3_back at h
  refine J_aload_n C 0 dX3_back_0 rfl rfl ?_
  refine J_iload_n C 2 dX3_back_1 rfl rfl ?_
  refine k_X3_hasChosen C mw_371 dX3_back_2 ⟨Nat.le_of_ble_eq_true rfl, Nat.le_of_ble_eq_true rfl⟩ (Nat.le_of_ble_eq_true rfl) h (fun r_1 w_2 h => ?_)
  refine J_if_eq (tgt := 39) C dX3_back_5 (by decide) h (fun h => ?_) (fun h => ?_)
  · refine J_iconst (v := (-1 : Int32)) C dX3_back_39 (by decide) ?_
    exact J_iret C dX3_back_40 h
  · refine J_aload_n C 0 dX3_back_8 rfl rfl ?_
    refine G_rd_cut C mw_81 dX3_back_9 ?_
    refine J_iload_n C 1 dX3_back_12 rfl rfl ?_
    refine k_X1_isInColumns C mw_436 dX3_back_13 ⟨Nat.le_of_ble_eq_true rfl, Nat.le_of_ble_eq_true rfl⟩ (Nat.le_of_ble_eq_true rfl) h (fun r_3 h => ?_)
    refine J_if_eq (tgt := 39) C dX3_back_16 (by decide) h (fun h => ?_) (fun h => ?_)
    · refine J_iconst (v := (-1 : Int32)) C dX3_back_39 (by decide) ?_
      exact J_iret C dX3_back_40 h
    · refine J_aload_n C 0 dX3_back_19 rfl rfl ?_
      refine G_rd_cut C mw_81 dX3_back_20 ?_
      refine J_aload_n C 0 dX3_back_23 rfl rfl ?_
      refine G_rd_cut C mw_81 dX3_back_24 ?_
      refine J_iload_n C 1 dX3_back_27 rfl rfl ?_
      refine J_iload_n C 2 dX3_back_28 rfl rfl ?_
      refine k_X1_cellIn C mw_360 dX3_back_29 ⟨Nat.le_of_ble_eq_true rfl, Nat.le_of_ble_eq_true rfl⟩ (Nat.le_of_ble_eq_true rfl) h (fun r_4 h => ?_)
      refine J_iload_n C 3 dX3_back_32 rfl rfl ?_
      refine k_X1_byteIn C mw_366 dX3_back_33 ⟨Nat.le_of_ble_eq_true rfl, Nat.le_of_ble_eq_true rfl⟩ (Nat.le_of_ble_eq_true rfl) h (fun r_5 h => ?_)
      refine J_goto (tgt := 40) C dX3_back_36 (by decide) ?_
      exact J_iret C dX3_back_40 h
theorem c_X3_back {l : Launch} {g : Gd} {a : Nat → Nat} {w : XW} {K : Int32 → XW → Prop} {v1 : Int32} {v2 : Int32} {v3 : Int32} (h : P_X3_back K w v1 v2 v3) : Kt l yX3_back cX3_back 4 (some .int) 10 224 g (sA 15 a) (xCl g a) [.ref (a 0), .int v1, .int v2, .int v3] w (QcI g (sA 15 a) (xCl g a) K) :=
  Kt_of (by decide +kernel) (Nat.le_of_ble_eq_true rfl) (fun x hx C => s_X3_back C h)
theorem k_X3_back {x : Mx} {g : Gd} {a : Nat → Nat} {cc : ByteArray} {nL : Nat} {own : String} {ret : Option FieldType} {F L : Nat} {Q : State → Prop} {w : XW} {pc : Nat} {lv : List (Nat × Value)} {st : List Value} (C : Cx x g (sA 15 a) (xCl g a) cc nL own ret F L) {index : Nat} {K : Int32 → XW → Prop} {v1 : Int32} {v2 : Int32} {v3 : Int32} (h1 : Cond.methodLink own index yX3_back ∈ gT) (hd : decode cc pc = .ok (.invokevirtual index, 3)) (hR : 10 + 1 ≤ F ∧ 8 + (4 + 11) + 224 ≤ L) (hst : (st.map fun v => v.category).sum ≤ 8) (h : P_X3_back K w v1 v2 v3) (k : ∀ (r : Int32) (w' : XW), K r w' → J x g (sA 15 a) (xCl g a) nL Q w' (pc + 3) lv (.int r :: st)) : J x g (sA 15 a) (xCl g a) nL Q w (pc) lv (.int v3 :: .int v2 :: .int v1 :: .ref (a 0) :: st) :=
  J_callVi C (As := [.int v1, .int v2, .int v3]) (b := a 0) (n := 3) (c_X3_back h) h1 mw_433 mw_434 mw_1 mw_435 (by decide +kernel) hR rfl (rc_X3 C) hst hd k
-- X3_key (changes, room 10 224)
def P_X3_key (K : Int32 → XW → Prop) (w : XW) (v1 : Int32) : Prop := P_X3_hasChosen (fun r_1 w_2 => (¬ r_1 = 0 → vp_in v1 12 ∧ (P_X0_countMissing (fun r_3 w_4 => (¬ r_3 = 0 → K (0 : Int32) w_4) ∧ (r_3 = 0 → P_X0_allUnlike (fun r_5 => (r_5 = 0 → K (0 : Int32) w_4) ∧ (¬ r_5 = 0 → K (1 : Int32) w_4)) w_4 v1)) w_2 v1 (cs_codeOf w_2 v1.toNatClampNeg))) ∧ (r_1 = 0 → K (-1 : Int32) w_2)) w v1
set_option maxRecDepth 10000 in
theorem s_X3_key {x : Mx} {g : Gd} {a : Nat → Nat} (C : Cx x g (sA 15 a) (xCl g a) cX3_key 2 RX3 (some .int) 10 224) {K : Int32 → XW → Prop}  {w : XW} {v1 : Int32} (h : P_X3_key K w v1) : J x g (sA 15 a) (xCl g a) 2 (JQ x (sA 15 a) (QcI g (sA 15 a) (xCl g a) K)) w 0 [(0, .ref (a 0)), (1, .int v1)] [] := by
  unfold P_X3_key at h
  refine J_aload_n C 0 dX3_key_0 rfl rfl ?_
  refine J_iload_n C 1 dX3_key_1 rfl rfl ?_
  refine k_X3_hasChosen C mw_371 dX3_key_2 ⟨Nat.le_of_ble_eq_true rfl, Nat.le_of_ble_eq_true rfl⟩ (Nat.le_of_ble_eq_true rfl) h (fun r_1 w_2 h => ?_)
  refine J_if_ne (tgt := 10) C dX3_key_5 (by decide) h (fun h => ?_) (fun h => ?_)
  · refine J_aload_n C 0 dX3_key_10 rfl rfl ?_
    refine G_rd_columns C mw_82 dX3_key_11 ?_
    refine J_iload_n C 1 dX3_key_14 rfl rfl ?_
    refine J_aload_n C 0 dX3_key_15 rfl rfl ?_
    refine G_rd_columns C mw_82 dX3_key_16 ?_
    refine G_cs_codeOf C mw_66 dX3_key_19 ?_
    refine J_iload_n C 1 dX3_key_22 rfl rfl ?_
    refine L_cs_codeOf C dX3_key_23 h (fun h => ?_)
    refine k_X0_countMissing C mw_382 dX3_key_24 ⟨Nat.le_of_ble_eq_true rfl, Nat.le_of_ble_eq_true rfl⟩ (Nat.le_of_ble_eq_true rfl) h (fun r_3 w_4 h => ?_)
    refine J_if_ne (tgt := 45) C dX3_key_27 (by decide) h (fun h => ?_) (fun h => ?_)
    · refine J_iconst (v := (0 : Int32)) C dX3_key_45 (by decide) ?_
      exact J_iret C dX3_key_46 h
    · refine J_aload_n C 0 dX3_key_30 rfl rfl ?_
      refine G_rd_columns C mw_82 dX3_key_31 ?_
      refine J_iload_n C 1 dX3_key_34 rfl rfl ?_
      refine k_X0_allUnlike C mw_441 dX3_key_35 ⟨Nat.le_of_ble_eq_true rfl, Nat.le_of_ble_eq_true rfl⟩ (Nat.le_of_ble_eq_true rfl) h (fun r_5 h => ?_)
      refine J_if_eq (tgt := 45) C dX3_key_38 (by decide) h (fun h => ?_) (fun h => ?_)
      · refine J_iconst (v := (0 : Int32)) C dX3_key_45 (by decide) ?_
        exact J_iret C dX3_key_46 h
      · refine J_iconst (v := (1 : Int32)) C dX3_key_41 (by decide) ?_
        refine J_goto (tgt := 46) C dX3_key_42 (by decide) ?_
        exact J_iret C dX3_key_46 h
  · refine J_iconst (v := (-1 : Int32)) C dX3_key_8 (by decide) ?_
    exact J_iret C dX3_key_9 h
theorem c_X3_key {l : Launch} {g : Gd} {a : Nat → Nat} {w : XW} {K : Int32 → XW → Prop} {v1 : Int32} (h : P_X3_key K w v1) : Kt l yX3_key cX3_key 2 (some .int) 10 224 g (sA 15 a) (xCl g a) [.ref (a 0), .int v1] w (QcI g (sA 15 a) (xCl g a) K) :=
  Kt_of (by decide +kernel) (Nat.le_of_ble_eq_true rfl) (fun x hx C => s_X3_key C h)
theorem k_X3_key {x : Mx} {g : Gd} {a : Nat → Nat} {cc : ByteArray} {nL : Nat} {own : String} {ret : Option FieldType} {F L : Nat} {Q : State → Prop} {w : XW} {pc : Nat} {lv : List (Nat × Value)} {st : List Value} (C : Cx x g (sA 15 a) (xCl g a) cc nL own ret F L) {index : Nat} {K : Int32 → XW → Prop} {v1 : Int32} (h1 : Cond.methodLink own index yX3_key ∈ gT) (hd : decode cc pc = .ok (.invokevirtual index, 3)) (hR : 10 + 1 ≤ F ∧ 8 + (2 + 11) + 224 ≤ L) (hst : (st.map fun v => v.category).sum ≤ 8) (h : P_X3_key K w v1) (k : ∀ (r : Int32) (w' : XW), K r w' → J x g (sA 15 a) (xCl g a) nL Q w' (pc + 3) lv (.int r :: st)) : J x g (sA 15 a) (xCl g a) nL Q w (pc) lv (.int v1 :: .ref (a 0) :: st) :=
  J_callVi C (As := [.int v1]) (b := a 0) (n := 1) (c_X3_key h) h1 mw_438 mw_439 mw_1 mw_440 (by decide +kernel) hR rfl (rc_X3 C) hst hd k
