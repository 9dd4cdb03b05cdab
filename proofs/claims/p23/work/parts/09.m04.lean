-- X4_writeDay (changes, room 2 46)
def P_X4_writeDay_97 (K : MW → Prop) (w : MW) (v1 : Int32) (v2 : Int32) (v4 : Int32) (s0 : Int32) : Prop := P_X4_writeWhole (fun w_4 => P_X4_betweenOf (fun r_5 => P_X4_write (fun w_6 => (¬ v1 = (2 : Int32) → P_X4_writeWhole (fun w_7 => K w_7) w_6 v2 (4 : Int32)) ∧ (v1 = (2 : Int32) → P_X4_writeWhole (fun w_8 => K w_8) w_6 v4 (2 : Int32))) w_4 r_5) (md_bestForm w_4)) w s0 (2 : Int32)
set_option maxRecDepth 10000 in
theorem s_X4_writeDay_97 {x : Mx} {g : Gd} {a : Nat → Nat} (C : Cx x g (sA 12 a) (mCl g a) cX4_writeDay 5 RX4 none 2 46) {K : MW → Prop}  {v1 : Int32} {v2 : Int32} {v4 : Int32} {s0 : Int32} {w : MW} (h : P_X4_writeDay_97 K w v1 v2 v4 s0) : J x g (sA 12 a) (mCl g a) 5 (JQ x (sA 12 a) (QcV g (sA 12 a) (mCl g a) K)) w 97 [(0, .ref (a 0)), (1, .int v1), (2, .int v2), (4, .int v4)] [.int s0, .ref (a 0)] := by
  unfold P_X4_writeDay_97 at h
  refine J_iconst (v := (2 : Int32)) C dX4_writeDay_97 (by decide) ?_
  refine k_X4_writeWhole C mw_738 dX4_writeDay_98 ⟨Nat.le_of_ble_eq_true rfl, Nat.le_of_ble_eq_true rfl⟩ (Nat.le_of_ble_eq_true rfl) h (fun w_4 h => ?_)
  refine J_aload_n C 0 dX4_writeDay_101 rfl rfl ?_
  refine J_aload_n C 0 dX4_writeDay_102 rfl rfl ?_
  refine G_md_bestForm C mw_483 dX4_writeDay_103 ?_
  refine k_X4_betweenOf C mw_619 dX4_writeDay_106 ⟨Nat.le_of_ble_eq_true rfl, Nat.le_of_ble_eq_true rfl⟩ (Nat.le_of_ble_eq_true rfl) h (fun r_5 h => ?_)
  refine k_X4_write C mw_726 dX4_writeDay_109 ⟨Nat.le_of_ble_eq_true rfl, Nat.le_of_ble_eq_true rfl⟩ (Nat.le_of_ble_eq_true rfl) h (fun w_6 h => ?_)
  refine J_iload_n C 1 dX4_writeDay_112 rfl rfl ?_
  refine J_iconst (v := (2 : Int32)) C dX4_writeDay_113 (by decide) ?_
  refine J_icmp_ne (tgt := 127) C dX4_writeDay_114 (by decide) h (fun h => ?_) (fun h => ?_)
  · refine J_aload_n C 0 dX4_writeDay_127 rfl rfl ?_
    refine J_iload_n C 2 dX4_writeDay_128 rfl rfl ?_
    refine J_iconst (v := (4 : Int32)) C dX4_writeDay_129 (by decide) ?_
    refine k_X4_writeWhole C mw_738 dX4_writeDay_130 ⟨Nat.le_of_ble_eq_true rfl, Nat.le_of_ble_eq_true rfl⟩ (Nat.le_of_ble_eq_true rfl) h (fun w_7 h => ?_)
    exact J_vret C dX4_writeDay_133 h
  · refine J_aload_n C 0 dX4_writeDay_117 rfl rfl ?_
    refine J_iload C 3 dX4_writeDay_118 rfl ?_
    refine J_iconst (v := (2 : Int32)) C dX4_writeDay_120 (by decide) ?_
    refine k_X4_writeWhole C mw_738 dX4_writeDay_121 ⟨Nat.le_of_ble_eq_true rfl, Nat.le_of_ble_eq_true rfl⟩ (Nat.le_of_ble_eq_true rfl) h (fun w_8 h => ?_)
    refine J_goto (tgt := 133) C dX4_writeDay_124 (by decide) ?_
    exact J_vret C dX4_writeDay_133 h
def P_X4_writeDay_74 (K : MW → Prop) (w : MW) (v1 : Int32) (v2 : Int32) (v3 : Int32) (v4 : Int32) : Prop := P_X4_betweenOf (fun r_2 => P_X4_write (fun w_3 => (¬ v1 = (1 : Int32) → P_X4_writeDay_97 K w_3 v1 v2 v4 v3) ∧ (v1 = (1 : Int32) → P_X4_writeDay_97 K w_3 v1 v2 v4 v4)) w r_2) (md_bestForm w)
set_option maxRecDepth 10000 in
theorem s_X4_writeDay_74 {x : Mx} {g : Gd} {a : Nat → Nat} (C : Cx x g (sA 12 a) (mCl g a) cX4_writeDay 5 RX4 none 2 46) {K : MW → Prop}  {v1 : Int32} {v2 : Int32} {v3 : Int32} {v4 : Int32} {w : MW} (h : P_X4_writeDay_74 K w v1 v2 v3 v4) : J x g (sA 12 a) (mCl g a) 5 (JQ x (sA 12 a) (QcV g (sA 12 a) (mCl g a) K)) w 74 [(0, .ref (a 0)), (1, .int v1), (2, .int v2), (3, .int v3), (4, .int v4)] [] := by
  unfold P_X4_writeDay_74 at h
  refine J_aload_n C 0 dX4_writeDay_74 rfl rfl ?_
  refine J_aload_n C 0 dX4_writeDay_75 rfl rfl ?_
  refine G_md_bestForm C mw_483 dX4_writeDay_76 ?_
  refine k_X4_betweenOf C mw_619 dX4_writeDay_79 ⟨Nat.le_of_ble_eq_true rfl, Nat.le_of_ble_eq_true rfl⟩ (Nat.le_of_ble_eq_true rfl) h (fun r_2 h => ?_)
  refine k_X4_write C mw_726 dX4_writeDay_82 ⟨Nat.le_of_ble_eq_true rfl, Nat.le_of_ble_eq_true rfl⟩ (Nat.le_of_ble_eq_true rfl) h (fun w_3 h => ?_)
  refine J_aload_n C 0 dX4_writeDay_85 rfl rfl ?_
  refine J_iload_n C 1 dX4_writeDay_86 rfl rfl ?_
  refine J_iconst (v := (1 : Int32)) C dX4_writeDay_87 (by decide) ?_
  refine J_icmp_ne (tgt := 96) C dX4_writeDay_88 (by decide) h (fun h => ?_) (fun h => ?_)
  · refine J_iload_n C 3 dX4_writeDay_96 rfl rfl ?_
    refine J_lv [0, 1, 2, 4] rfl ?_
    exact s_X4_writeDay_97 C h
  · refine J_iload C 4 dX4_writeDay_91 rfl ?_
    refine J_goto (tgt := 97) C dX4_writeDay_93 (by decide) ?_
    refine J_lv [0, 1, 2, 4] rfl ?_
    exact s_X4_writeDay_97 C h
def P_X4_writeDay_70 (K : MW → Prop) (w : MW) (v1 : Int32) (v2 : Int32) (v3 : Int32) (v4 : Int32) (s0 : Int32) : Prop := P_X4_writeWhole (fun w_1 => P_X4_writeDay_74 K w_1 v1 v2 v3 v4) w s0 (2 : Int32)
set_option maxRecDepth 10000 in
theorem s_X4_writeDay_70 {x : Mx} {g : Gd} {a : Nat → Nat} (C : Cx x g (sA 12 a) (mCl g a) cX4_writeDay 5 RX4 none 2 46) {K : MW → Prop}  {v1 : Int32} {v2 : Int32} {v3 : Int32} {v4 : Int32} {s0 : Int32} {w : MW} (h : P_X4_writeDay_70 K w v1 v2 v3 v4 s0) : J x g (sA 12 a) (mCl g a) 5 (JQ x (sA 12 a) (QcV g (sA 12 a) (mCl g a) K)) w 70 [(0, .ref (a 0)), (1, .int v1), (2, .int v2), (3, .int v3), (4, .int v4)] [.int s0, .ref (a 0)] := by
  unfold P_X4_writeDay_70 at h
  refine J_iconst (v := (2 : Int32)) C dX4_writeDay_70 (by decide) ?_
  refine k_X4_writeWhole C mw_738 dX4_writeDay_71 ⟨Nat.le_of_ble_eq_true rfl, Nat.le_of_ble_eq_true rfl⟩ (Nat.le_of_ble_eq_true rfl) h (fun w_1 h => ?_)
  refine J_lv [0, 1, 2, 3, 4] rfl ?_
  exact s_X4_writeDay_74 C h
def P_X4_writeDay (K : MW → Prop) (w : MW) : Prop := (¬ (((md_bestForm w) - (22 : Int32)) / (3 : Int32)) = (2 : Int32) → (¬ (((md_bestForm w) - (22 : Int32)) / (3 : Int32)) = 0 → P_X4_writeDay_70 K w (((md_bestForm w) - (22 : Int32)) / (3 : Int32)) (Int64.toInt32 ((md_value w) / (10000 : Int64))) (Int64.toInt32 (((md_value w) / (100 : Int64)) - ((md_value w) / (100 : Int64)) / (100 : Int64) * (100 : Int64))) (Int64.toInt32 ((md_value w) - (md_value w) / (100 : Int64) * (100 : Int64))) (Int64.toInt32 (((md_value w) / (100 : Int64)) - ((md_value w) / (100 : Int64)) / (100 : Int64) * (100 : Int64)))) ∧ ((((md_bestForm w) - (22 : Int32)) / (3 : Int32)) = 0 → P_X4_writeDay_70 K w (((md_bestForm w) - (22 : Int32)) / (3 : Int32)) (Int64.toInt32 ((md_value w) / (10000 : Int64))) (Int64.toInt32 (((md_value w) / (100 : Int64)) - ((md_value w) / (100 : Int64)) / (100 : Int64) * (100 : Int64))) (Int64.toInt32 ((md_value w) - (md_value w) / (100 : Int64) * (100 : Int64))) (Int64.toInt32 ((md_value w) - (md_value w) / (100 : Int64) * (100 : Int64))))) ∧ ((((md_bestForm w) - (22 : Int32)) / (3 : Int32)) = (2 : Int32) → P_X4_writeWhole (fun w_9 => P_X4_writeDay_74 K w_9 (((md_bestForm w) - (22 : Int32)) / (3 : Int32)) (Int64.toInt32 ((md_value w) / (10000 : Int64))) (Int64.toInt32 (((md_value w) / (100 : Int64)) - ((md_value w) / (100 : Int64)) / (100 : Int64) * (100 : Int64))) (Int64.toInt32 ((md_value w) - (md_value w) / (100 : Int64) * (100 : Int64)))) w (Int64.toInt32 ((md_value w) / (10000 : Int64))) (4 : Int32))
set_option maxRecDepth 10000 in
theorem s_X4_writeDay {x : Mx} {g : Gd} {a : Nat → Nat} (C : Cx x g (sA 12 a) (mCl g a) cX4_writeDay 5 RX4 none 2 46) {K : MW → Prop}  {w : MW} (h : P_X4_writeDay K w) : J x g (sA 12 a) (mCl g a) 5 (JQ x (sA 12 a) (QcV g (sA 12 a) (mCl g a) K)) w 0 [(0, .ref (a 0))] [] := by
  unfold P_X4_writeDay at h
  refine J_aload_n C 0 dX4_writeDay_0 rfl rfl ?_
  refine G_md_bestForm C mw_483 dX4_writeDay_1 ?_
  refine J_bipush (v := (22 : Int32)) C dX4_writeDay_4 (by decide) ?_
  refine J_isub C dX4_writeDay_6 ?_
  refine J_iconst (v := (3 : Int32)) C dX4_writeDay_7 (by decide) ?_
  refine J_idiv C dX4_writeDay_8 (by decide) ?_
  refine J_istore_n C [(1, .int (((md_bestForm w) - (22 : Int32)) / (3 : Int32))), (0, .ref (a 0))] dX4_writeDay_9 rfl (by decide) rfl ?_
  refine J_aload_n C 1 dX4_writeDay_10 rfl rfl ?_
  refine G_md_value C mw_478 dX4_writeDay_11 ?_
  refine J_ldc2 (v := (10000 : Int64)) C mw_628 dX4_writeDay_14 ?_
  refine J_ldiv C dX4_writeDay_17 (by decide) ?_
  refine J_l2i C dX4_writeDay_18 ?_
  refine J_istore_n C [(2, .int (Int64.toInt32 ((md_value w) / (10000 : Int64)))), (1, .int (((md_bestForm w) - (22 : Int32)) / (3 : Int32))), (0, .ref (a 0))] dX4_writeDay_19 rfl (by decide) rfl ?_
  refine J_aload_n C 2 dX4_writeDay_20 rfl rfl ?_
  refine G_md_value C mw_478 dX4_writeDay_21 ?_
  refine J_ldc2 (v := (100 : Int64)) C mw_629 dX4_writeDay_24 ?_
  refine J_ldiv C dX4_writeDay_27 (by decide) ?_
  refine J_ldc2 (v := (100 : Int64)) C mw_629 dX4_writeDay_28 ?_
  refine J_lrem C dX4_writeDay_31 (by decide) ?_
  refine J_l2i C dX4_writeDay_32 ?_
  refine J_istore_n C [(3, .int (Int64.toInt32 (((md_value w) / (100 : Int64)) - ((md_value w) / (100 : Int64)) / (100 : Int64) * (100 : Int64)))), (2, .int (Int64.toInt32 ((md_value w) / (10000 : Int64)))), (1, .int (((md_bestForm w) - (22 : Int32)) / (3 : Int32))), (0, .ref (a 0))] dX4_writeDay_33 rfl (by decide) rfl ?_
  refine J_aload_n C 3 dX4_writeDay_34 rfl rfl ?_
  refine G_md_value C mw_478 dX4_writeDay_35 ?_
  refine J_ldc2 (v := (100 : Int64)) C mw_629 dX4_writeDay_38 ?_
  refine J_lrem C dX4_writeDay_41 (by decide) ?_
  refine J_l2i C dX4_writeDay_42 ?_
  refine J_istore C [(4, .int (Int64.toInt32 ((md_value w) - (md_value w) / (100 : Int64) * (100 : Int64)))), (3, .int (Int64.toInt32 (((md_value w) / (100 : Int64)) - ((md_value w) / (100 : Int64)) / (100 : Int64) * (100 : Int64)))), (2, .int (Int64.toInt32 ((md_value w) / (10000 : Int64)))), (1, .int (((md_bestForm w) - (22 : Int32)) / (3 : Int32))), (0, .ref (a 0))] dX4_writeDay_43 (by decide) rfl ?_
  refine J_iload_n C 3 dX4_writeDay_45 rfl rfl ?_
  refine J_iconst (v := (2 : Int32)) C dX4_writeDay_46 (by decide) ?_
  refine J_icmp_ne (tgt := 59) C dX4_writeDay_47 (by decide) h (fun h => ?_) (fun h => ?_)
  · refine J_aload_n C 4 dX4_writeDay_59 rfl rfl ?_
    refine J_iload_n C 3 dX4_writeDay_60 rfl rfl ?_
    refine J_if_ne (tgt := 69) C dX4_writeDay_61 (by decide) h (fun h => ?_) (fun h => ?_)
    · refine J_iload_n C 1 dX4_writeDay_69 rfl rfl ?_
      refine J_lv [4, 3, 2, 1, 0] rfl ?_
      exact s_X4_writeDay_70 C h
    · refine J_iload C 0 dX4_writeDay_64 rfl ?_
      refine J_goto (tgt := 70) C dX4_writeDay_66 (by decide) ?_
      refine J_lv [4, 3, 2, 1, 0] rfl ?_
      exact s_X4_writeDay_70 C h
  · refine J_aload_n C 4 dX4_writeDay_50 rfl rfl ?_
    refine J_iload_n C 2 dX4_writeDay_51 rfl rfl ?_
    refine J_iconst (v := (4 : Int32)) C dX4_writeDay_52 (by decide) ?_
    refine k_X4_writeWhole C mw_738 dX4_writeDay_53 ⟨Nat.le_of_ble_eq_true rfl, Nat.le_of_ble_eq_true rfl⟩ (Nat.le_of_ble_eq_true rfl) h (fun w_9 h => ?_)
    refine J_goto (tgt := 74) C dX4_writeDay_56 (by decide) ?_
    refine J_lv [4, 3, 2, 1, 0] rfl ?_
    exact s_X4_writeDay_74 C h
theorem c_X4_writeDay {l : Launch} {g : Gd} {a : Nat → Nat} {w : MW} {K : MW → Prop} (h : P_X4_writeDay K w) : Kt l yX4_writeDay cX4_writeDay 5 none 2 46 g (sA 12 a) (mCl g a) [.ref (a 0)] w (QcV g (sA 12 a) (mCl g a) K) :=
  Kt_of (by decide +kernel) (Nat.le_of_ble_eq_true rfl) (fun x hx C => s_X4_writeDay C h)
theorem k_X4_writeDay {x : Mx} {g : Gd} {a : Nat → Nat} {cc : ByteArray} {nL : Nat} {own : String} {ret : Option FieldType} {F L : Nat} {Q : State → Prop} {w : MW} {pc : Nat} {lv : List (Nat × Value)} {st : List Value} (C : Cx x g (sA 12 a) (mCl g a) cc nL own ret F L) {index : Nat} {K : MW → Prop} (h1 : Cond.methodLink own index yX4_writeDay ∈ gT) (hd : decode cc pc = .ok (.invokevirtual index, 3)) (hR : 2 + 1 ≤ F ∧ 8 + (5 + 11) + 46 ≤ L) (hst : (st.map fun v => v.category).sum ≤ 8) (h : P_X4_writeDay K w) (k : ∀  (w' : MW), K w' → J x g (sA 12 a) (mCl g a) nL Q w' (pc + 3) lv st) : J x g (sA 12 a) (mCl g a) nL Q w (pc) lv (.ref (a 0) :: st) :=
  J_callVv C (As := []) (b := a 0) (n := 0) (c_X4_writeDay h) h1 mw_736 mw_806 mw_6 mw_737 (by decide +kernel) hR rfl (rc_X4 C) hst hd k
-- X4_back (changes, room 11 247)
def P_X4_back_184 (K : Int32 → MW → Prop) (w : MW) (v3 : Int32) : Prop := P_X4_in (fun r_5 => (r_5 = 0 → K (-1 : Int32) w) ∧ (¬ r_5 = 0 → vp_in v3 20 ∧ (K ((md_out w v3.toNatClampNeg) &&& (255 : Int32)) w))) v3 (0 : Int32) ((md_outs w) - (1 : Int32))
set_option maxRecDepth 10000 in
theorem s_X4_back_184 {x : Mx} {g : Gd} {a : Nat → Nat} (C : Cx x g (sA 12 a) (mCl g a) cX4_back 6 RX4 (some .int) 11 247) {K : Int32 → MW → Prop}  {v3 : Int32} {w : MW} (h : P_X4_back_184 K w v3) : J x g (sA 12 a) (mCl g a) 6 (JQ x (sA 12 a) (QcI g (sA 12 a) (mCl g a) K)) w 184 [(0, .ref (a 0)), (3, .int v3)] [] := by
  unfold P_X4_back_184 at h
  refine J_iload_n C 1 dX4_back_184 rfl rfl ?_
  refine J_iconst (v := (0 : Int32)) C dX4_back_185 (by decide) ?_
  refine J_aload_n C 0 dX4_back_186 rfl rfl ?_
  refine G_md_outs C mw_487 dX4_back_187 ?_
  refine J_iconst (v := (1 : Int32)) C dX4_back_190 (by decide) ?_
  refine J_isub C dX4_back_191 ?_
  refine k_X4_in C mw_500 dX4_back_192 ⟨Nat.le_of_ble_eq_true rfl, Nat.le_of_ble_eq_true rfl⟩ (Nat.le_of_ble_eq_true rfl) h (fun r_5 h => ?_)
  refine J_if_eq (tgt := 211) C dX4_back_195 (by decide) h (fun h => ?_) (fun h => ?_)
  · refine J_iconst (v := (-1 : Int32)) C dX4_back_211 (by decide) ?_
    exact J_iret C dX4_back_212 h
  · refine J_aload_n C 0 dX4_back_198 rfl rfl ?_
    refine G_md_out C mw_486 dX4_back_199 ?_
    refine J_iload_n C 1 dX4_back_202 rfl rfl ?_
    refine L_md_out C dX4_back_203 h (fun h => ?_)
    refine J_sipush (v := (255 : Int32)) C dX4_back_204 (by decide) ?_
    refine J_iand C dX4_back_207 ?_
    refine J_goto (tgt := 212) C dX4_back_208 (by decide) ?_
    exact J_iret C dX4_back_212 h
def P_X4_back_130 (K : Int32 → MW → Prop) (w : MW) (v3 : Int32) (s0 : Nat) : Prop := P_X4_writeWord (fun w_9 => P_X4_back_184 K w_9 v3) w s0
set_option maxRecDepth 10000 in
theorem s_X4_back_130 {x : Mx} {g : Gd} {a : Nat → Nat} (C : Cx x g (sA 12 a) (mCl g a) cX4_back 6 RX4 (some .int) 11 247) {K : Int32 → MW → Prop}  {v3 : Int32} {s0 : Nat} {w : MW} (h : P_X4_back_130 K w v3 s0) : J x g (sA 12 a) (mCl g a) 6 (JQ x (sA 12 a) (QcI g (sA 12 a) (mCl g a) K)) w 130 [(0, .ref (a 0)), (3, .int v3)] [.ref (g.2.2.1 s0), .ref (a 0)] := by
  unfold P_X4_back_130 at h
  refine k_X4_writeWord C mw_723 dX4_back_130 ⟨Nat.le_of_ble_eq_true rfl, Nat.le_of_ble_eq_true rfl⟩ (Nat.le_of_ble_eq_true rfl) h (fun w_9 h => ?_)
  refine J_goto (tgt := 184) C dX4_back_133 (by decide) ?_
  refine J_lv [0, 1] rfl ?_
  exact s_X4_back_184 C h
def P_X4_back_77 (K : Int32 → MW → Prop) (w : MW) (v3 : Int32) (v5 : Int32) : Prop := (v5 = 0 → ((7 : Int32) ≤ (md_bestForm (md_outs_s w (0 : Int32))) → ((22 : Int32) ≤ (md_bestForm (md_outs_s w (0 : Int32))) → P_X4_writeDay (fun w_4 => P_X4_back_184 K w_4 v3) (md_outs_s w (0 : Int32))) ∧ (¬ (22 : Int32) ≤ (md_bestForm (md_outs_s w (0 : Int32))) → P_X4_writeNumber (fun w_6 => P_X4_back_184 K w_6 v3) (md_outs_s w (0 : Int32)))) ∧ (¬ (7 : Int32) ≤ (md_bestForm (md_outs_s w (0 : Int32))) → P_X4_flag (fun r_7 => P_X4_writeWord (fun w_8 => P_X4_back_184 K w_8 v3) (md_outs_s w (0 : Int32)) r_7) (md_bestForm (md_outs_s w (0 : Int32))) (Int64.toInt32 (md_value (md_outs_s w (0 : Int32)))))) ∧ (¬ v5 = 0 → (¬ (md_bestCode (md_outs_s w (0 : Int32))) = (2 : Int32) → (¬ (md_bestCode (md_outs_s w (0 : Int32))) = (3 : Int32) → (¬ (md_bestCode (md_outs_s w (0 : Int32))) = (4 : Int32) → P_X4_back_130 K (md_outs_s w (0 : Int32)) v3 31) ∧ ((md_bestCode (md_outs_s w (0 : Int32))) = (4 : Int32) → P_X4_back_130 K (md_outs_s w (0 : Int32)) v3 18)) ∧ ((md_bestCode (md_outs_s w (0 : Int32))) = (3 : Int32) → P_X4_back_130 K (md_outs_s w (0 : Int32)) v3 17)) ∧ ((md_bestCode (md_outs_s w (0 : Int32))) = (2 : Int32) → P_X4_back_130 K (md_outs_s w (0 : Int32)) v3 16))
set_option maxRecDepth 10000 in
theorem s_X4_back_77 {x : Mx} {g : Gd} {a : Nat → Nat} (C : Cx x g (sA 12 a) (mCl g a) cX4_back 6 RX4 (some .int) 11 247) {K : Int32 → MW → Prop}  {v3 : Int32} {v5 : Int32} {w : MW} (h : P_X4_back_77 K w v3 v5) : J x g (sA 12 a) (mCl g a) 6 (JQ x (sA 12 a) (QcI g (sA 12 a) (mCl g a) K)) w 77 [(0, .ref (a 0)), (3, .int v3), (5, .int v5)] [] := by
  unfold P_X4_back_77 at h
  refine J_aload_n C 0 dX4_back_77 rfl rfl ?_
  refine J_iconst (v := (0 : Int32)) C dX4_back_78 (by decide) ?_
  refine S_md_outs C mw_487 dX4_back_79 ?_
  refine J_iload C 2 dX4_back_82 rfl ?_
  refine J_if_eq (tgt := 136) C dX4_back_84 (by decide) h (fun h => ?_) (fun h => ?_)
  · refine J_aload_n C 0 dX4_back_136 rfl rfl ?_
    refine G_md_bestForm C mw_483 dX4_back_137 ?_
    refine J_bipush (v := (7 : Int32)) C dX4_back_140 (by decide) ?_
    refine J_icmp_ge (tgt := 164) C dX4_back_142 (by decide) h (fun h => ?_) (fun h => ?_)
    · refine J_aload_n C 0 dX4_back_164 rfl rfl ?_
      refine G_md_bestForm C mw_483 dX4_back_165 ?_
      refine J_bipush (v := (22 : Int32)) C dX4_back_168 (by decide) ?_
      refine J_icmp_ge (tgt := 180) C dX4_back_170 (by decide) h (fun h => ?_) (fun h => ?_)
      · refine J_aload_n C 0 dX4_back_180 rfl rfl ?_
        refine k_X4_writeDay C mw_735 dX4_back_181 ⟨Nat.le_of_ble_eq_true rfl, Nat.le_of_ble_eq_true rfl⟩ (Nat.le_of_ble_eq_true rfl) h (fun w_4 h => ?_)
        refine J_lv [0, 1] rfl ?_
        exact s_X4_back_184 C h
      · refine J_aload_n C 0 dX4_back_173 rfl rfl ?_
        refine k_X4_writeNumber C mw_729 dX4_back_174 ⟨Nat.le_of_ble_eq_true rfl, Nat.le_of_ble_eq_true rfl⟩ (Nat.le_of_ble_eq_true rfl) h (fun w_6 h => ?_)
        refine J_goto (tgt := 184) C dX4_back_177 (by decide) ?_
        refine J_lv [0, 1] rfl ?_
        exact s_X4_back_184 C h
    · refine J_aload_n C 0 dX4_back_145 rfl rfl ?_
      refine J_aload_n C 0 dX4_back_146 rfl rfl ?_
      refine G_md_bestForm C mw_483 dX4_back_147 ?_
      refine J_aload_n C 0 dX4_back_150 rfl rfl ?_
      refine G_md_value C mw_478 dX4_back_151 ?_
      refine J_l2i C dX4_back_154 ?_
      refine k_X4_flag C mw_593 dX4_back_155 ⟨Nat.le_of_ble_eq_true rfl, Nat.le_of_ble_eq_true rfl⟩ (Nat.le_of_ble_eq_true rfl) h (fun r_7 h => ?_)
      refine k_X4_writeWord C mw_723 dX4_back_158 ⟨Nat.le_of_ble_eq_true rfl, Nat.le_of_ble_eq_true rfl⟩ (Nat.le_of_ble_eq_true rfl) h (fun w_8 h => ?_)
      refine J_goto (tgt := 184) C dX4_back_161 (by decide) ?_
      refine J_lv [0, 1] rfl ?_
      exact s_X4_back_184 C h
  · refine J_aload_n C 0 dX4_back_87 rfl rfl ?_
    refine J_aload_n C 0 dX4_back_88 rfl rfl ?_
    refine G_md_bestCode C mw_484 dX4_back_89 ?_
    refine J_iconst (v := (2 : Int32)) C dX4_back_92 (by decide) ?_
    refine J_icmp_ne (tgt := 101) C dX4_back_93 (by decide) h (fun h => ?_) (fun h => ?_)
    · refine J_aload_n C 0 dX4_back_101 rfl rfl ?_
      refine G_md_bestCode C mw_484 dX4_back_102 ?_
      refine J_iconst (v := (3 : Int32)) C dX4_back_105 (by decide) ?_
      refine J_icmp_ne (tgt := 114) C dX4_back_106 (by decide) h (fun h => ?_) (fun h => ?_)
      · refine J_aload_n C 0 dX4_back_114 rfl rfl ?_
        refine G_md_bestCode C mw_484 dX4_back_115 ?_
        refine J_iconst (v := (4 : Int32)) C dX4_back_118 (by decide) ?_
        refine J_icmp_ne (tgt := 127) C dX4_back_119 (by decide) h (fun h => ?_) (fun h => ?_)
        · refine J_ldcSw C 31 rfl dX4_back_127 ?_
          refine J_lv [0, 1] rfl ?_
          exact s_X4_back_130 C h
        · refine J_ldcS C 18 rfl dX4_back_122 ?_
          refine J_goto (tgt := 130) C dX4_back_124 (by decide) ?_
          refine J_lv [0, 1] rfl ?_
          exact s_X4_back_130 C h
      · refine J_ldcS C 17 rfl dX4_back_109 ?_
        refine J_goto (tgt := 130) C dX4_back_111 (by decide) ?_
        refine J_lv [0, 1] rfl ?_
        exact s_X4_back_130 C h
    · refine J_ldcS C 16 rfl dX4_back_96 ?_
      refine J_goto (tgt := 130) C dX4_back_98 (by decide) ?_
      refine J_lv [0, 1] rfl ?_
      exact s_X4_back_130 C h
def P_X4_back_48 (K : Int32 → MW → Prop) (w : MW) (v3 : Int32) (v4 : Int32) : Prop := vp_in v4 960 ∧ (P_X4_in (fun r_10 => (r_10 = 0 → K (-1 : Int32) w) ∧ (¬ r_10 = 0 → P_X4_byteOf (fun r_11 => K r_11 w) w v4 v3)) v3 (0 : Int32) ((md_cellSize w v4.toNatClampNeg) - (1 : Int32)))
set_option maxRecDepth 10000 in
theorem s_X4_back_48 {x : Mx} {g : Gd} {a : Nat → Nat} (C : Cx x g (sA 12 a) (mCl g a) cX4_back 6 RX4 (some .int) 11 247) {K : Int32 → MW → Prop}  {v3 : Int32} {v4 : Int32} {w : MW} (h : P_X4_back_48 K w v3 v4) : J x g (sA 12 a) (mCl g a) 6 (JQ x (sA 12 a) (QcI g (sA 12 a) (mCl g a) K)) w 48 [(0, .ref (a 0)), (3, .int v3), (4, .int v4)] [] := by
  unfold P_X4_back_48 at h
  refine J_iload_n C 1 dX4_back_48 rfl rfl ?_
  refine J_iconst (v := (0 : Int32)) C dX4_back_49 (by decide) ?_
  refine J_aload_n C 0 dX4_back_50 rfl rfl ?_
  refine G_md_cellSize C mw_473 dX4_back_51 ?_
  refine J_iload C 2 dX4_back_54 rfl ?_
  refine L_md_cellSize C dX4_back_56 h (fun h => ?_)
  refine J_iconst (v := (1 : Int32)) C dX4_back_57 (by decide) ?_
  refine J_isub C dX4_back_58 ?_
  refine k_X4_in C mw_500 dX4_back_59 ⟨Nat.le_of_ble_eq_true rfl, Nat.le_of_ble_eq_true rfl⟩ (Nat.le_of_ble_eq_true rfl) h (fun r_10 h => ?_)
  refine J_if_eq (tgt := 75) C dX4_back_62 (by decide) h (fun h => ?_) (fun h => ?_)
  · refine J_iconst (v := (-1 : Int32)) C dX4_back_75 (by decide) ?_
    exact J_iret C dX4_back_76 h
  · refine J_aload_n C 0 dX4_back_65 rfl rfl ?_
    refine J_iload C 2 dX4_back_66 rfl ?_
    refine J_iload_n C 1 dX4_back_68 rfl rfl ?_
    refine k_X4_byteOf C mw_583 dX4_back_69 ⟨Nat.le_of_ble_eq_true rfl, Nat.le_of_ble_eq_true rfl⟩ (Nat.le_of_ble_eq_true rfl) h (fun r_11 h => ?_)
    refine J_goto (tgt := 76) C dX4_back_72 (by decide) ?_
    exact J_iret C dX4_back_76 h
def P_X4_back (K : Int32 → MW → Prop) (w : MW) (v1 : Int32) (v2 : Int32) (v3 : Int32) : Prop := P_X4_told (fun r_1 w_2 => (0 ≤ r_1 → P_X4_isMissing (fun r_3 => (¬ r_3 = 0 → P_X4_back_77 K w_2 v3 r_3) ∧ (r_3 = 0 → ((md_bestForm w_2) = 0 → P_X4_back_48 K w_2 v3 r_1) ∧ (¬ (md_bestForm w_2) = 0 → (¬ (md_bestForm w_2) = (31 : Int32) → P_X4_back_77 K w_2 v3 r_3) ∧ ((md_bestForm w_2) = (31 : Int32) → P_X4_back_48 K w_2 v3 r_1)))) w_2 r_1 (md_bestCode w_2)) ∧ (¬ 0 ≤ r_1 → K (-1 : Int32) w_2)) w v1 v2
set_option maxRecDepth 10000 in
theorem s_X4_back {x : Mx} {g : Gd} {a : Nat → Nat} (C : Cx x g (sA 12 a) (mCl g a) cX4_back 6 RX4 (some .int) 11 247) {K : Int32 → MW → Prop}  {w : MW} {v1 : Int32} {v2 : Int32} {v3 : Int32} (h : P_X4_back K w v1 v2 v3) : J x g (sA 12 a) (mCl g a) 6 (JQ x (sA 12 a) (QcI g (sA 12 a) (mCl g a) K)) w 0 [(0, .ref (a 0)), (1, .int v1), (2, .int v2), (3, .int v3)] [] := by
  unfold P_X4_back at h
  refine J_aload_n C 0 dX4_back_0 rfl rfl ?_
  refine J_iload_n C 1 dX4_back_1 rfl rfl ?_
  refine J_iload_n C 2 dX4_back_2 rfl rfl ?_
  refine k_X4_told C mw_716 dX4_back_3 ⟨Nat.le_of_ble_eq_true rfl, Nat.le_of_ble_eq_true rfl⟩ (Nat.le_of_ble_eq_true rfl) h (fun r_1 w_2 h => ?_)
  refine J_istore C [(4, .int r_1), (0, .ref (a 0)), (1, .int v1), (2, .int v2), (3, .int v3)] dX4_back_6 (by decide) rfl ?_
  refine J_iload C 0 dX4_back_8 rfl ?_
  refine J_if_ge (tgt := 15) C dX4_back_10 (by decide) h (fun h => ?_) (fun h => ?_)
  · refine J_aload_n C 1 dX4_back_15 rfl rfl ?_
    refine J_iload C 0 dX4_back_16 rfl ?_
    refine J_aload_n C 1 dX4_back_18 rfl rfl ?_
    refine G_md_bestCode C mw_484 dX4_back_19 ?_
    refine k_X4_isMissing C mw_576 dX4_back_22 ⟨Nat.le_of_ble_eq_true rfl, Nat.le_of_ble_eq_true rfl⟩ (Nat.le_of_ble_eq_true rfl) h (fun r_3 h => ?_)
    refine J_istore C [(5, .int r_3), (4, .int r_1), (0, .ref (a 0)), (1, .int v1), (2, .int v2), (3, .int v3)] dX4_back_25 (by decide) rfl ?_
    refine J_iload C 0 dX4_back_27 rfl ?_
    refine J_if_ne (tgt := 77) C dX4_back_29 (by decide) h (fun h => ?_) (fun h => ?_)
    · refine J_lv [2, 5, 0] rfl ?_
      exact s_X4_back_77 C h
    · refine J_aload_n C 2 dX4_back_32 rfl rfl ?_
      refine G_md_bestForm C mw_483 dX4_back_33 ?_
      refine J_if_eq (tgt := 48) C dX4_back_36 (by decide) h (fun h => ?_) (fun h => ?_)
      · refine J_lv [2, 5, 1] rfl ?_
        exact s_X4_back_48 C h
      · refine J_aload_n C 2 dX4_back_39 rfl rfl ?_
        refine G_md_bestForm C mw_483 dX4_back_40 ?_
        refine J_bipush (v := (31 : Int32)) C dX4_back_43 (by decide) ?_
        refine J_icmp_ne (tgt := 77) C dX4_back_45 (by decide) h (fun h => ?_) (fun h => ?_)
        · refine J_lv [2, 5, 0] rfl ?_
          exact s_X4_back_77 C h
        · refine J_lv [2, 5, 1] rfl ?_
          exact s_X4_back_48 C h
  · refine J_iconst (v := (-1 : Int32)) C dX4_back_13 (by decide) ?_
    exact J_iret C dX4_back_14 h
theorem c_X4_back {l : Launch} {g : Gd} {a : Nat → Nat} {w : MW} {K : Int32 → MW → Prop} {v1 : Int32} {v2 : Int32} {v3 : Int32} (h : P_X4_back K w v1 v2 v3) : Kt l yX4_back cX4_back 6 (some .int) 11 247 g (sA 12 a) (mCl g a) [.ref (a 0), .int v1, .int v2, .int v3] w (QcI g (sA 12 a) (mCl g a) K) :=
  Kt_of (by decide +kernel) (Nat.le_of_ble_eq_true rfl) (fun x hx C => s_X4_back C h)
theorem k_X4_back {x : Mx} {g : Gd} {a : Nat → Nat} {cc : ByteArray} {nL : Nat} {own : String} {ret : Option FieldType} {F L : Nat} {Q : State → Prop} {w : MW} {pc : Nat} {lv : List (Nat × Value)} {st : List Value} (C : Cx x g (sA 12 a) (mCl g a) cc nL own ret F L) {index : Nat} {K : Int32 → MW → Prop} {v1 : Int32} {v2 : Int32} {v3 : Int32} (h1 : Cond.methodLink own index yX4_back ∈ gT) (hd : decode cc pc = .ok (.invokevirtual index, 3)) (hR : 11 + 1 ≤ F ∧ 8 + (6 + 11) + 247 ≤ L) (hst : (st.map fun v => v.category).sum ≤ 8) (h : P_X4_back K w v1 v2 v3) (k : ∀ (r : Int32) (w' : MW), K r w' → J x g (sA 12 a) (mCl g a) nL Q w' (pc + 3) lv (.int r :: st)) : J x g (sA 12 a) (mCl g a) nL Q w (pc) lv (.int v3 :: .int v2 :: .int v1 :: .ref (a 0) :: st) :=
  J_callVi C (As := [.int v1, .int v2, .int v3]) (b := a 0) (n := 3) (c_X4_back h) h1 mw_720 mw_721 mw_6 mw_722 (by decide +kernel) hR rfl (rc_X4 C) hst hd k
-- X4_isSame (pure, room 1 22)
def P_X4_isSame_19 (K : Int32 → Prop) (w : MW) (v1 : Int32) (v2 : Int32) : Nat → Int32 → Prop
  | 0, _ => False
  | n + 1, v3 => vp_in v1 960 ∧ (((md_cellSize w v1.toNatClampNeg) ≤ v3 → K (1 : Int32)) ∧ (¬ (md_cellSize w v1.toNatClampNeg) ≤ v3 → P_X4_byteOf (fun r_1 => P_X4_byteOf (fun r_2 => (r_1 = r_2 → P_X4_isSame_19 K w v1 v2 n (v3 + (1 : Int32))) ∧ (¬ r_1 = r_2 → K (0 : Int32))) w v2 v3) w v1 v3))
set_option maxRecDepth 10000 in
theorem s_X4_isSame_19 {x : Mx} {g : Gd} {a : Nat → Nat} (C : Cx x g (sA 12 a) (mCl g a) cX4_isSame 4 RX4 (some .boolean) 1 22) {K : Int32 → Prop} {w : MW}  {v1 : Int32} {v2 : Int32} : ∀ (n : Nat) (v3 : Int32), P_X4_isSame_19 K w v1 v2 n v3 → J x g (sA 12 a) (mCl g a) 4 (JQ x (sA 12 a) (QcI g (sA 12 a) (mCl g a) (fun r w' => K r ∧ w' = w))) w 19 [(0, .ref (a 0)), (1, .int v1), (2, .int v2), (3, .int v3)] [] := by
  intro n
  induction n with
  | zero => intro v3 h; exact h.elim
  | succ n ih =>
    intro v3 h
    unfold P_X4_isSame_19 at h
    refine J_iload_n C 3 dX4_isSame_19 rfl rfl ?_
    refine J_aload_n C 0 dX4_isSame_20 rfl rfl ?_
    refine G_md_cellSize C mw_473 dX4_isSame_21 ?_
    refine J_iload_n C 1 dX4_isSame_24 rfl rfl ?_
    refine L_md_cellSize C dX4_isSame_25 h (fun h => ?_)
    refine J_icmp_ge (tgt := 52) C dX4_isSame_26 (by decide) h (fun h => ?_) (fun h => ?_)
    · refine J_iconst (v := (1 : Int32)) C dX4_isSame_52 (by decide) ?_
      exact J_zret C dX4_isSame_53 rfl ⟨h, rfl⟩
    · refine J_aload_n C 0 dX4_isSame_29 rfl rfl ?_
      refine J_iload_n C 1 dX4_isSame_30 rfl rfl ?_
      refine J_iload_n C 3 dX4_isSame_31 rfl rfl ?_
      refine k_X4_byteOf C mw_583 dX4_isSame_32 ⟨Nat.le_of_ble_eq_true rfl, Nat.le_of_ble_eq_true rfl⟩ (Nat.le_of_ble_eq_true rfl) h (fun r_1 h => ?_)
      refine J_aload_n C 0 dX4_isSame_35 rfl rfl ?_
      refine J_iload_n C 2 dX4_isSame_36 rfl rfl ?_
      refine J_iload_n C 3 dX4_isSame_37 rfl rfl ?_
      refine k_X4_byteOf C mw_583 dX4_isSame_38 ⟨Nat.le_of_ble_eq_true rfl, Nat.le_of_ble_eq_true rfl⟩ (Nat.le_of_ble_eq_true rfl) h (fun r_2 h => ?_)
      refine J_icmp_eq (tgt := 46) C dX4_isSame_41 (by decide) h (fun h => ?_) (fun h => ?_)
      · refine J_iinc C 3 [(3, .int (v3 + (1 : Int32))), (0, .ref (a 0)), (1, .int v1), (2, .int v2)] dX4_isSame_46 rfl rfl (by decide) rfl ?_
        refine J_goto (tgt := 19) C dX4_isSame_49 (by decide) ?_
        refine J_lv [1, 2, 3, 0] rfl ?_
        exact ih _ h
      · refine J_iconst (v := (0 : Int32)) C dX4_isSame_44 (by decide) ?_
        exact J_zret C dX4_isSame_45 rfl ⟨h, rfl⟩
def P_X4_isSame (K : Int32 → Prop) (w : MW) (v1 : Int32) (v2 : Int32) : Prop := vp_in v1 960 ∧ (vp_in v2 960 ∧ (((md_cellSize w v1.toNatClampNeg) = (md_cellSize w v2.toNatClampNeg) → ∃ nf : Nat, P_X4_isSame_19 K w v1 v2 nf (0 : Int32)) ∧ (¬ (md_cellSize w v1.toNatClampNeg) = (md_cellSize w v2.toNatClampNeg) → K (0 : Int32))))
set_option maxRecDepth 10000 in
theorem s_X4_isSame {x : Mx} {g : Gd} {a : Nat → Nat} (C : Cx x g (sA 12 a) (mCl g a) cX4_isSame 4 RX4 (some .boolean) 1 22) {K : Int32 → Prop} {w : MW}  {v1 : Int32} {v2 : Int32} (h : P_X4_isSame K w v1 v2) : J x g (sA 12 a) (mCl g a) 4 (JQ x (sA 12 a) (QcI g (sA 12 a) (mCl g a) (fun r w' => K r ∧ w' = w))) w 0 [(0, .ref (a 0)), (1, .int v1), (2, .int v2)] [] := by
  unfold P_X4_isSame at h
  refine J_aload_n C 0 dX4_isSame_0 rfl rfl ?_
  refine G_md_cellSize C mw_473 dX4_isSame_1 ?_
  refine J_iload_n C 1 dX4_isSame_4 rfl rfl ?_
  refine L_md_cellSize C dX4_isSame_5 h (fun h => ?_)
  refine J_aload_n C 0 dX4_isSame_6 rfl rfl ?_
  refine G_md_cellSize C mw_473 dX4_isSame_7 ?_
  refine J_iload_n C 2 dX4_isSame_10 rfl rfl ?_
  refine L_md_cellSize C dX4_isSame_11 h (fun h => ?_)
  refine J_icmp_eq (tgt := 17) C dX4_isSame_12 (by decide) h (fun h => ?_) (fun h => ?_)
  · refine J_iconst (v := (0 : Int32)) C dX4_isSame_17 (by decide) ?_
    refine J_istore_n C [(3, .int (0 : Int32)), (0, .ref (a 0)), (1, .int v1), (2, .int v2)] dX4_isSame_18 rfl (by decide) rfl ?_
    obtain ⟨nf, h⟩ := h
    refine J_lv [1, 2, 3, 0] rfl ?_
    refine s_X4_isSame_19 C  nf _ h
  · refine J_iconst (v := (0 : Int32)) C dX4_isSame_15 (by decide) ?_
    exact J_zret C dX4_isSame_16 rfl ⟨h, rfl⟩
theorem c_X4_isSame {l : Launch} {g : Gd} {a : Nat → Nat} {w : MW} {K : Int32 → Prop} {v1 : Int32} {v2 : Int32} (h : P_X4_isSame K w v1 v2) : Kt l yX4_isSame cX4_isSame 4 (some .boolean) 1 22 g (sA 12 a) (mCl g a) [.ref (a 0), .int v1, .int v2] w (QcI g (sA 12 a) (mCl g a) (fun r w' => K r ∧ w' = w)) :=
  Kt_of (by decide +kernel) (Nat.le_of_ble_eq_true rfl) (fun x hx C => s_X4_isSame C h)
theorem k_X4_isSame {x : Mx} {g : Gd} {a : Nat → Nat} {cc : ByteArray} {nL : Nat} {own : String} {ret : Option FieldType} {F L : Nat} {Q : State → Prop} {w : MW} {pc : Nat} {lv : List (Nat × Value)} {st : List Value} (C : Cx x g (sA 12 a) (mCl g a) cc nL own ret F L) {index : Nat} {K : Int32 → Prop} {v1 : Int32} {v2 : Int32} (h1 : Cond.methodLink own index yX4_isSame ∈ gT) (hd : decode cc pc = .ok (.invokevirtual index, 3)) (hR : 1 + 1 ≤ F ∧ 8 + (4 + 11) + 22 ≤ L) (hst : (st.map fun v => v.category).sum ≤ 8) (h : P_X4_isSame K w v1 v2) (k : ∀ (r : Int32), K r → J x g (sA 12 a) (mCl g a) nL Q w (pc + 3) lv (.int r :: st)) : J x g (sA 12 a) (mCl g a) nL Q w (pc) lv (.int v2 :: .int v1 :: .ref (a 0) :: st) :=
  J_callVi C (As := [.int v1, .int v2]) (b := a 0) (n := 2) (c_X4_isSame h) h1 mw_746 mw_808 mw_6 mw_747 (by decide +kernel) hR rfl (rc_X4 C) hst hd (fun r w' hK => by
    obtain ⟨hK, rfl⟩ := hK
    exact k r hK)
-- X4_key (changes, room 10 224)
def P_X4_key_41 (K : Int32 → MW → Prop) (E73 : MW → Prop) (v2 : Int32) : Nat → MW → Int32 → Prop
  | 0, _, _ => False
  | n + 1, w, v3 => (v2 ≤ v3 → E73 w) ∧ (¬ v2 ≤ v3 → vp_in v2 80 ∧ (vp_in v3 80 ∧ (P_X4_isSame (fun r_4 => (r_4 = 0 → P_X4_key_41 K E73 v2 n w (v3 + (1 : Int32))) ∧ (¬ r_4 = 0 → K (0 : Int32) w)) w (md_column w v2.toNatClampNeg) (md_column w v3.toNatClampNeg))))
set_option maxRecDepth 10000 in
theorem s_X4_key_41 {x : Mx} {g : Gd} {a : Nat → Nat} (C : Cx x g (sA 12 a) (mCl g a) cX4_key 4 RX4 (some .int) 10 224) {K : Int32 → MW → Prop}  {v2 : Int32} {E73 : MW → Prop} (hE73 : ∀ (w : MW), E73 w → J x g (sA 12 a) (mCl g a) 4 (JQ x (sA 12 a) (QcI g (sA 12 a) (mCl g a) K)) w 73 [(0, .ref (a 0)), (2, .int v2)] []) : ∀ (n : Nat) (w : MW) (v3 : Int32), P_X4_key_41 K E73 v2 n w v3 → J x g (sA 12 a) (mCl g a) 4 (JQ x (sA 12 a) (QcI g (sA 12 a) (mCl g a) K)) w 41 [(0, .ref (a 0)), (2, .int v2), (3, .int v3)] [] := by
  intro n
  induction n with
  | zero => intro w v3 h; exact h.elim
  | succ n ih =>
    intro w v3 h
    unfold P_X4_key_41 at h
    refine J_iload_n C 2 dX4_key_41 rfl rfl ?_
    refine J_iload_n C 1 dX4_key_42 rfl rfl ?_
    refine J_icmp_ge (tgt := 73) C dX4_key_43 (by decide) h (fun h => ?_) (fun h => ?_)
    · refine J_lv [0, 1] rfl ?_
      exact hE73 _ h
    · refine J_aload_n C 0 dX4_key_46 rfl rfl ?_
      refine J_aload_n C 0 dX4_key_47 rfl rfl ?_
      refine G_md_column C mw_480 dX4_key_48 ?_
      refine J_iload_n C 1 dX4_key_51 rfl rfl ?_
      refine L_md_column C dX4_key_52 h (fun h => ?_)
      refine J_aload_n C 0 dX4_key_53 rfl rfl ?_
      refine G_md_column C mw_480 dX4_key_54 ?_
      refine J_iload_n C 2 dX4_key_57 rfl rfl ?_
      refine L_md_column C dX4_key_58 h (fun h => ?_)
      refine k_X4_isSame C mw_745 dX4_key_59 ⟨Nat.le_of_ble_eq_true rfl, Nat.le_of_ble_eq_true rfl⟩ (Nat.le_of_ble_eq_true rfl) h (fun r_4 h => ?_)
      refine J_if_eq (tgt := 67) C dX4_key_62 (by decide) h (fun h => ?_) (fun h => ?_)
      · refine J_iinc C 2 [(3, .int (v3 + (1 : Int32))), (0, .ref (a 0)), (2, .int v2)] dX4_key_67 rfl rfl (by decide) rfl ?_
        refine J_goto (tgt := 41) C dX4_key_70 (by decide) ?_
        refine J_lv [1, 2, 0] rfl ?_
        exact ih _ _ h
      · refine J_iconst (v := (0 : Int32)) C dX4_key_65 (by decide) ?_
        exact J_iret C dX4_key_66 h
def P_X4_key_12 (K : Int32 → MW → Prop) : Nat → MW → Int32 → Prop
  | 0, _, _ => False
  | n + 1, w, v2 => ((md_columnMany w) ≤ v2 → K (1 : Int32) w) ∧ (¬ (md_columnMany w) ≤ v2 → vp_in v2 80 ∧ (P_X4_isMissing (fun r_3 => (r_3 = 0 → ∃ nf : Nat, P_X4_key_41 K (fun w_5 => P_X4_key_12 K n w_5 (v2 + (1 : Int32))) v2 nf w (0 : Int32)) ∧ (¬ r_3 = 0 → K (0 : Int32) w)) w (md_column w v2.toNatClampNeg) (md_bestCode w)))
set_option maxRecDepth 10000 in
theorem s_X4_key_12 {x : Mx} {g : Gd} {a : Nat → Nat} (C : Cx x g (sA 12 a) (mCl g a) cX4_key 4 RX4 (some .int) 10 224) {K : Int32 → MW → Prop}  : ∀ (n : Nat) (w : MW) (v2 : Int32), P_X4_key_12 K n w v2 → J x g (sA 12 a) (mCl g a) 4 (JQ x (sA 12 a) (QcI g (sA 12 a) (mCl g a) K)) w 12 [(0, .ref (a 0)), (2, .int v2)] [] := by
  intro n
  induction n with
  | zero => intro w v2 h; exact h.elim
  | succ n ih =>
    intro w v2 h
    unfold P_X4_key_12 at h
    refine J_iload_n C 1 dX4_key_12 rfl rfl ?_
    refine J_aload_n C 0 dX4_key_13 rfl rfl ?_
    refine G_md_columnMany C mw_482 dX4_key_14 ?_
    refine J_icmp_ge (tgt := 79) C dX4_key_17 (by decide) h (fun h => ?_) (fun h => ?_)
    · refine J_iconst (v := (1 : Int32)) C dX4_key_79 (by decide) ?_
      exact J_iret C dX4_key_80 h
    · refine J_aload_n C 0 dX4_key_20 rfl rfl ?_
      refine J_aload_n C 0 dX4_key_21 rfl rfl ?_
      refine G_md_column C mw_480 dX4_key_22 ?_
      refine J_iload_n C 1 dX4_key_25 rfl rfl ?_
      refine L_md_column C dX4_key_26 h (fun h => ?_)
      refine J_aload_n C 0 dX4_key_27 rfl rfl ?_
      refine G_md_bestCode C mw_484 dX4_key_28 ?_
      refine k_X4_isMissing C mw_576 dX4_key_31 ⟨Nat.le_of_ble_eq_true rfl, Nat.le_of_ble_eq_true rfl⟩ (Nat.le_of_ble_eq_true rfl) h (fun r_3 h => ?_)
      refine J_if_eq (tgt := 39) C dX4_key_34 (by decide) h (fun h => ?_) (fun h => ?_)
      · refine J_iconst (v := (0 : Int32)) C dX4_key_39 (by decide) ?_
        refine J_istore_n C [(3, .int (0 : Int32)), (0, .ref (a 0)), (2, .int v2)] dX4_key_40 rfl (by decide) rfl ?_
        obtain ⟨nf, h⟩ := h
        refine J_lv [1, 2, 0] rfl ?_
        refine s_X4_key_41 C (fun w_5 h => ?_) nf _ _ h
        · refine J_iinc C 1 [(2, .int (v2 + (1 : Int32))), (0, .ref (a 0))] dX4_key_73 rfl rfl (by decide) rfl ?_
          refine J_goto (tgt := 12) C dX4_key_76 (by decide) ?_
          refine J_lv [1, 0] rfl ?_
          exact ih _ _ h
      · refine J_iconst (v := (0 : Int32)) C dX4_key_37 (by decide) ?_
        exact J_iret C dX4_key_38 h
def P_X4_key (K : Int32 → MW → Prop) (w : MW) (v1 : Int32) : Prop := P_X4_isColumn (fun r_1 w_2 => (¬ r_1 = 0 → ∃ nf : Nat, P_X4_key_12 K nf w_2 (0 : Int32)) ∧ (r_1 = 0 → K (-1 : Int32) w_2)) w v1
set_option maxRecDepth 10000 in
theorem s_X4_key {x : Mx} {g : Gd} {a : Nat → Nat} (C : Cx x g (sA 12 a) (mCl g a) cX4_key 4 RX4 (some .int) 10 224) {K : Int32 → MW → Prop}  {w : MW} {v1 : Int32} (h : P_X4_key K w v1) : J x g (sA 12 a) (mCl g a) 4 (JQ x (sA 12 a) (QcI g (sA 12 a) (mCl g a) K)) w 0 [(0, .ref (a 0)), (1, .int v1)] [] := by
  unfold P_X4_key at h
  refine J_aload_n C 0 dX4_key_0 rfl rfl ?_
  refine J_iload_n C 1 dX4_key_1 rfl rfl ?_
  refine k_X4_isColumn C mw_685 dX4_key_2 ⟨Nat.le_of_ble_eq_true rfl, Nat.le_of_ble_eq_true rfl⟩ (Nat.le_of_ble_eq_true rfl) h (fun r_1 w_2 h => ?_)
  refine J_if_ne (tgt := 10) C dX4_key_5 (by decide) h (fun h => ?_) (fun h => ?_)
  · refine J_iconst (v := (0 : Int32)) C dX4_key_10 (by decide) ?_
    refine J_istore_n C [(2, .int (0 : Int32)), (0, .ref (a 0)), (1, .int v1)] dX4_key_11 rfl (by decide) rfl ?_
    obtain ⟨nf, h⟩ := h
    refine J_lv [1, 0] rfl ?_
    refine s_X4_key_12 C  nf _ _ h
  · refine J_iconst (v := (-1 : Int32)) C dX4_key_8 (by decide) ?_
    exact J_iret C dX4_key_9 h
theorem c_X4_key {l : Launch} {g : Gd} {a : Nat → Nat} {w : MW} {K : Int32 → MW → Prop} {v1 : Int32} (h : P_X4_key K w v1) : Kt l yX4_key cX4_key 4 (some .int) 10 224 g (sA 12 a) (mCl g a) [.ref (a 0), .int v1] w (QcI g (sA 12 a) (mCl g a) K) :=
  Kt_of (by decide +kernel) (Nat.le_of_ble_eq_true rfl) (fun x hx C => s_X4_key C h)
theorem k_X4_key {x : Mx} {g : Gd} {a : Nat → Nat} {cc : ByteArray} {nL : Nat} {own : String} {ret : Option FieldType} {F L : Nat} {Q : State → Prop} {w : MW} {pc : Nat} {lv : List (Nat × Value)} {st : List Value} (C : Cx x g (sA 12 a) (mCl g a) cc nL own ret F L) {index : Nat} {K : Int32 → MW → Prop} {v1 : Int32} (h1 : Cond.methodLink own index yX4_key ∈ gT) (hd : decode cc pc = .ok (.invokevirtual index, 3)) (hR : 10 + 1 ≤ F ∧ 8 + (4 + 11) + 224 ≤ L) (hst : (st.map fun v => v.category).sum ≤ 8) (h : P_X4_key K w v1) (k : ∀ (r : Int32) (w' : MW), K r w' → J x g (sA 12 a) (mCl g a) nL Q w' (pc + 3) lv (.int r :: st)) : J x g (sA 12 a) (mCl g a) nL Q w (pc) lv (.int v1 :: .ref (a 0) :: st) :=
  J_callVi C (As := [.int v1]) (b := a 0) (n := 1) (c_X4_key h) h1 mw_742 mw_743 mw_6 mw_744 (by decide +kernel) hR rfl (rc_X4 C) hst hd k
