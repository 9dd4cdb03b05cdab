-- X0_weigh (changes, room 0 0)
def P_X0_weigh_109 (K : XW → Prop) (w : XW) (v1 : Int32) (v2 : Int32) (v3 : Int32) (v4 : Int32) : Prop := vp_in v1 12 ∧ (vp_in v1 12 ∧ (vp_in v1 12 ∧ (K (cs_priceOf_s (cs_codeOf_s (cs_formOf_s w (upd (cs_formOf w) v1.toNatClampNeg v2)) (upd (cs_codeOf (cs_formOf_s w (upd (cs_formOf w) v1.toNatClampNeg v2))) v1.toNatClampNeg v3)) (upd (cs_priceOf (cs_codeOf_s (cs_formOf_s w (upd (cs_formOf w) v1.toNatClampNeg v2)) (upd (cs_codeOf (cs_formOf_s w (upd (cs_formOf w) v1.toNatClampNeg v2))) v1.toNatClampNeg v3))) v1.toNatClampNeg v4)))))
set_option maxRecDepth 10000 in
theorem s_X0_weigh_109 {x : Mx} {g : Gd} {a : Nat → Nat} (C : Cx x g (sA 15 a) (xCl g a) cX0_weigh 7 RX0 none 0 0) {K : XW → Prop}  {v1 : Int32} {v2 : Int32} {v3 : Int32} {v4 : Int32} {w : XW} (h : P_X0_weigh_109 K w v1 v2 v3 v4) : J x g (sA 15 a) (xCl g a) 7 (JQ x (sA 15 a) (QcV g (sA 15 a) (xCl g a) K)) w 109 [(0, .ref (a 2)), (1, .int v1), (2, .int v2), (3, .int v3), (4, .int v4)] [] := by
  unfold P_X0_weigh_109 at h
  refine J_aload_n C 0 dX0_weigh_109 rfl rfl ?_
  refine G_cs_formOf C mw_63 dX0_weigh_110 ?_
  refine J_iload_n C 1 dX0_weigh_113 rfl rfl ?_
  refine J_iload_n C 2 dX0_weigh_114 rfl rfl ?_
  refine U_cs_formOf C dX0_weigh_115 h (fun h => ?_)
  refine J_aload_n C 0 dX0_weigh_116 rfl rfl ?_
  refine G_cs_codeOf C mw_65 dX0_weigh_117 ?_
  refine J_iload_n C 1 dX0_weigh_120 rfl rfl ?_
  refine J_iload_n C 3 dX0_weigh_121 rfl rfl ?_
  refine U_cs_codeOf C dX0_weigh_122 h (fun h => ?_)
  refine J_aload_n C 0 dX0_weigh_123 rfl rfl ?_
  refine G_cs_priceOf C mw_67 dX0_weigh_124 ?_
  refine J_iload_n C 1 dX0_weigh_127 rfl rfl ?_
  refine J_iload C 4 dX0_weigh_128 rfl ?_
  refine U_cs_priceOf C dX0_weigh_130 h (fun h => ?_)
  exact J_vret C dX0_weigh_131 h
def P_X0_weigh_89 (K : XW → Prop) (w : XW) (v1 : Int32) (v2 : Int32) (v3 : Int32) (v4 : Int32) (v6 : Int32) (s0 : Int32) (s1 : Int32) : Prop := vp_in s1 12 ∧ ((¬ v6 = 0 → P_X0_weigh_109 K (cs_cheapest_s w (upd (cs_cheapest w) s1.toNatClampNeg (s0 ||| ((1 : Int32) <<< (v2 &&& 31))))) v1 v2 v3 v4) ∧ (v6 = 0 → vp_in v1 12 ∧ (((cs_formOf (cs_cheapest_s w (upd (cs_cheapest w) s1.toNatClampNeg (s0 ||| ((1 : Int32) <<< (v2 &&& 31))))) v1.toNatClampNeg) ≤ v2 → K (cs_cheapest_s w (upd (cs_cheapest w) s1.toNatClampNeg (s0 ||| ((1 : Int32) <<< (v2 &&& 31)))))) ∧ (¬ (cs_formOf (cs_cheapest_s w (upd (cs_cheapest w) s1.toNatClampNeg (s0 ||| ((1 : Int32) <<< (v2 &&& 31))))) v1.toNatClampNeg) ≤ v2 → P_X0_weigh_109 K (cs_cheapest_s w (upd (cs_cheapest w) s1.toNatClampNeg (s0 ||| ((1 : Int32) <<< (v2 &&& 31))))) v1 v2 v3 v4))))
set_option maxRecDepth 10000 in
theorem s_X0_weigh_89 {x : Mx} {g : Gd} {a : Nat → Nat} (C : Cx x g (sA 15 a) (xCl g a) cX0_weigh 7 RX0 none 0 0) {K : XW → Prop}  {v1 : Int32} {v2 : Int32} {v3 : Int32} {v4 : Int32} {v6 : Int32} {s0 : Int32} {s1 : Int32} {w : XW} (h : P_X0_weigh_89 K w v1 v2 v3 v4 v6 s0 s1) : J x g (sA 15 a) (xCl g a) 7 (JQ x (sA 15 a) (QcV g (sA 15 a) (xCl g a) K)) w 89 [(0, .ref (a 2)), (1, .int v1), (2, .int v2), (3, .int v3), (4, .int v4), (6, .int v6)] [.int s0, .int s1, .ref (a 14)] := by
  unfold P_X0_weigh_89 at h
  refine J_iconst (v := (1 : Int32)) C dX0_weigh_89 (by decide) ?_
  refine J_iload_n C 2 dX0_weigh_90 rfl rfl ?_
  refine J_ishl C dX0_weigh_91 ?_
  refine J_ior C dX0_weigh_92 ?_
  refine U_cs_cheapest C dX0_weigh_93 h (fun h => ?_)
  refine J_iload C 5 dX0_weigh_94 rfl ?_
  refine J_if_ne (tgt := 109) C dX0_weigh_96 (by decide) h (fun h => ?_) (fun h => ?_)
  · refine J_lv [0, 1, 2, 3, 4] rfl ?_
    exact s_X0_weigh_109 C h
  · refine J_iload_n C 2 dX0_weigh_99 rfl rfl ?_
    refine J_aload_n C 0 dX0_weigh_100 rfl rfl ?_
    refine G_cs_formOf C mw_63 dX0_weigh_101 ?_
    refine J_iload_n C 1 dX0_weigh_104 rfl rfl ?_
    refine L_cs_formOf C dX0_weigh_105 h (fun h => ?_)
    refine J_icmp_ge (tgt := 131) C dX0_weigh_106 (by decide) h (fun h => ?_) (fun h => ?_)
    · exact J_vret C dX0_weigh_131 h
    · refine J_lv [0, 1, 2, 3, 4] rfl ?_
      exact s_X0_weigh_109 C h
def P_X0_weigh_67 (K : XW → Prop) (w : XW) (v1 : Int32) (v2 : Int32) (v3 : Int32) (v4 : Int32) (s0 : Int32) : Prop := (s0 = 0 → vp_in v1 12 ∧ (P_X0_weigh_89 K w v1 v2 v3 v4 s0 (cs_cheapest w v1.toNatClampNeg) v1)) ∧ (¬ s0 = 0 → P_X0_weigh_89 K w v1 v2 v3 v4 s0 (0 : Int32) v1)
set_option maxRecDepth 10000 in
theorem s_X0_weigh_67 {x : Mx} {g : Gd} {a : Nat → Nat} (C : Cx x g (sA 15 a) (xCl g a) cX0_weigh 7 RX0 none 0 0) {K : XW → Prop}  {v1 : Int32} {v2 : Int32} {v3 : Int32} {v4 : Int32} {s0 : Int32} {w : XW} (h : P_X0_weigh_67 K w v1 v2 v3 v4 s0) : J x g (sA 15 a) (xCl g a) 7 (JQ x (sA 15 a) (QcV g (sA 15 a) (xCl g a) K)) w 67 [(0, .ref (a 2)), (1, .int v1), (2, .int v2), (3, .int v3), (4, .int v4)] [.int s0] := by
  unfold P_X0_weigh_67 at h
  refine J_istore C [(6, .int s0), (0, .ref (a 2)), (1, .int v1), (2, .int v2), (3, .int v3), (4, .int v4)] dX0_weigh_67 (by decide) rfl ?_
  refine J_aload_n C 1 dX0_weigh_69 rfl rfl ?_
  refine G_cs_cheapest C mw_71 dX0_weigh_70 ?_
  refine J_iload_n C 2 dX0_weigh_73 rfl rfl ?_
  refine J_iload C 0 dX0_weigh_74 rfl ?_
  refine J_if_eq (tgt := 83) C dX0_weigh_76 (by decide) h (fun h => ?_) (fun h => ?_)
  · refine J_aload_n C 1 dX0_weigh_83 rfl rfl ?_
    refine G_cs_cheapest C mw_71 dX0_weigh_84 ?_
    refine J_iload_n C 2 dX0_weigh_87 rfl rfl ?_
    refine L_cs_cheapest C dX0_weigh_88 h (fun h => ?_)
    refine J_lv [1, 2, 3, 4, 5, 0] rfl ?_
    exact s_X0_weigh_89 C h
  · refine J_iconst (v := (0 : Int32)) C dX0_weigh_79 (by decide) ?_
    refine J_goto (tgt := 89) C dX0_weigh_80 (by decide) ?_
    refine J_lv [1, 2, 3, 4, 5, 0] rfl ?_
    exact s_X0_weigh_89 C h
def P_X0_weigh_62 (K : XW → Prop) (w : XW) (v1 : Int32) (v2 : Int32) (v3 : Int32) (v4 : Int32) : Prop := P_X0_weigh_67 K w v1 v2 v3 v4 (1 : Int32)
set_option maxRecDepth 10000 in
theorem s_X0_weigh_62 {x : Mx} {g : Gd} {a : Nat → Nat} (C : Cx x g (sA 15 a) (xCl g a) cX0_weigh 7 RX0 none 0 0) {K : XW → Prop}  {v1 : Int32} {v2 : Int32} {v3 : Int32} {v4 : Int32} {w : XW} (h : P_X0_weigh_62 K w v1 v2 v3 v4) : J x g (sA 15 a) (xCl g a) 7 (JQ x (sA 15 a) (QcV g (sA 15 a) (xCl g a) K)) w 62 [(0, .ref (a 2)), (1, .int v1), (2, .int v2), (3, .int v3), (4, .int v4)] [] := by
  unfold P_X0_weigh_62 at h
  refine J_iconst (v := (1 : Int32)) C dX0_weigh_62 (by decide) ?_
  refine J_goto (tgt := 67) C dX0_weigh_63 (by decide) ?_
  refine J_lv [0, 1, 2, 3, 4] rfl ?_
  exact s_X0_weigh_67 C h
def P_X0_weigh_46 (K : XW → Prop) (w : XW) (v1 : Int32) (v2 : Int32) (v3 : Int32) (v4 : Int32) (v5 : Int32) : Prop := (¬ v5 = 0 → P_X0_weigh_62 K w v1 v2 v3 v4) ∧ (v5 = 0 → vp_in v1 12 ∧ (((cs_priceOf w v1.toNatClampNeg) ≤ v4 → P_X0_weigh_67 K w v1 v2 v3 v4 (0 : Int32)) ∧ (¬ (cs_priceOf w v1.toNatClampNeg) ≤ v4 → P_X0_weigh_62 K w v1 v2 v3 v4)))
set_option maxRecDepth 10000 in
theorem s_X0_weigh_46 {x : Mx} {g : Gd} {a : Nat → Nat} (C : Cx x g (sA 15 a) (xCl g a) cX0_weigh 7 RX0 none 0 0) {K : XW → Prop}  {v1 : Int32} {v2 : Int32} {v3 : Int32} {v4 : Int32} {v5 : Int32} {w : XW} (h : P_X0_weigh_46 K w v1 v2 v3 v4 v5) : J x g (sA 15 a) (xCl g a) 7 (JQ x (sA 15 a) (QcV g (sA 15 a) (xCl g a) K)) w 46 [(0, .ref (a 2)), (1, .int v1), (2, .int v2), (3, .int v3), (4, .int v4), (5, .int v5)] [] := by
  unfold P_X0_weigh_46 at h
  refine J_iload C 5 dX0_weigh_46 rfl ?_
  refine J_if_ne (tgt := 62) C dX0_weigh_48 (by decide) h (fun h => ?_) (fun h => ?_)
  · refine J_lv [0, 1, 2, 3, 4] rfl ?_
    exact s_X0_weigh_62 C h
  · refine J_iload C 4 dX0_weigh_51 rfl ?_
    refine J_aload_n C 0 dX0_weigh_53 rfl rfl ?_
    refine G_cs_priceOf C mw_67 dX0_weigh_54 ?_
    refine J_iload_n C 1 dX0_weigh_57 rfl rfl ?_
    refine L_cs_priceOf C dX0_weigh_58 h (fun h => ?_)
    refine J_icmp_ge (tgt := 66) C dX0_weigh_59 (by decide) h (fun h => ?_) (fun h => ?_)
    · refine J_iconst (v := (0 : Int32)) C dX0_weigh_66 (by decide) ?_
      refine J_lv [0, 1, 2, 3, 4] rfl ?_
      exact s_X0_weigh_67 C h
    · refine J_lv [0, 1, 2, 3, 4] rfl ?_
      exact s_X0_weigh_62 C h
def P_X0_weigh_27 (K : XW → Prop) (w : XW) (v1 : Int32) (v2 : Int32) (v3 : Int32) (v4 : Int32) (s0 : Int32) : Prop := (¬ s0 = 0 → P_X0_weigh_46 K w v1 v2 v3 v4 s0) ∧ (s0 = 0 → vp_in v1 12 ∧ ((v4 ≤ (cs_priceOf w v1.toNatClampNeg) → P_X0_weigh_46 K w v1 v2 v3 v4 s0) ∧ (¬ v4 ≤ (cs_priceOf w v1.toNatClampNeg) → K w)))
set_option maxRecDepth 10000 in
theorem s_X0_weigh_27 {x : Mx} {g : Gd} {a : Nat → Nat} (C : Cx x g (sA 15 a) (xCl g a) cX0_weigh 7 RX0 none 0 0) {K : XW → Prop}  {v1 : Int32} {v2 : Int32} {v3 : Int32} {v4 : Int32} {s0 : Int32} {w : XW} (h : P_X0_weigh_27 K w v1 v2 v3 v4 s0) : J x g (sA 15 a) (xCl g a) 7 (JQ x (sA 15 a) (QcV g (sA 15 a) (xCl g a) K)) w 27 [(0, .ref (a 2)), (1, .int v1), (2, .int v2), (3, .int v3), (4, .int v4)] [.int s0] := by
  unfold P_X0_weigh_27 at h
  refine J_istore C [(5, .int s0), (0, .ref (a 2)), (1, .int v1), (2, .int v2), (3, .int v3), (4, .int v4)] dX0_weigh_27 (by decide) rfl ?_
  refine J_iload C 0 dX0_weigh_29 rfl ?_
  refine J_if_ne (tgt := 46) C dX0_weigh_31 (by decide) h (fun h => ?_) (fun h => ?_)
  · refine J_lv [1, 2, 3, 4, 5, 0] rfl ?_
    exact s_X0_weigh_46 C h
  · refine J_iload C 5 dX0_weigh_34 rfl ?_
    refine J_aload_n C 1 dX0_weigh_36 rfl rfl ?_
    refine G_cs_priceOf C mw_67 dX0_weigh_37 ?_
    refine J_iload_n C 2 dX0_weigh_40 rfl rfl ?_
    refine L_cs_priceOf C dX0_weigh_41 h (fun h => ?_)
    refine J_icmp_le (tgt := 46) C dX0_weigh_42 (by decide) h (fun h => ?_) (fun h => ?_)
    · refine J_lv [1, 2, 3, 4, 5, 0] rfl ?_
      exact s_X0_weigh_46 C h
    · exact J_vret C dX0_weigh_45 h
def P_X0_weigh (K : XW → Prop) (w : XW) (v1 : Int32) (v2 : Int32) (v3 : Int32) (v4 : Int32) : Prop := vp_in v1 12 ∧ (vp_in v1 12 ∧ (vp_in v1 12 ∧ ((¬ (cs_formOf (cs_fitting_s w (upd (cs_fitting w) v1.toNatClampNeg ((cs_fitting w v1.toNatClampNeg) ||| ((1 : Int32) <<< (v2 &&& 31))))) v1.toNatClampNeg) = (-1 : Int32) → P_X0_weigh_27 K (cs_fitting_s w (upd (cs_fitting w) v1.toNatClampNeg ((cs_fitting w v1.toNatClampNeg) ||| ((1 : Int32) <<< (v2 &&& 31))))) v1 v2 v3 v4 (0 : Int32)) ∧ ((cs_formOf (cs_fitting_s w (upd (cs_fitting w) v1.toNatClampNeg ((cs_fitting w v1.toNatClampNeg) ||| ((1 : Int32) <<< (v2 &&& 31))))) v1.toNatClampNeg) = (-1 : Int32) → P_X0_weigh_27 K (cs_fitting_s w (upd (cs_fitting w) v1.toNatClampNeg ((cs_fitting w v1.toNatClampNeg) ||| ((1 : Int32) <<< (v2 &&& 31))))) v1 v2 v3 v4 (1 : Int32)))))
set_option maxRecDepth 10000 in
theorem s_X0_weigh {x : Mx} {g : Gd} {a : Nat → Nat} (C : Cx x g (sA 15 a) (xCl g a) cX0_weigh 7 RX0 none 0 0) {K : XW → Prop}  {w : XW} {v1 : Int32} {v2 : Int32} {v3 : Int32} {v4 : Int32} (h : P_X0_weigh K w v1 v2 v3 v4) : J x g (sA 15 a) (xCl g a) 7 (JQ x (sA 15 a) (QcV g (sA 15 a) (xCl g a) K)) w 0 [(0, .ref (a 2)), (1, .int v1), (2, .int v2), (3, .int v3), (4, .int v4)] [] := by
  unfold P_X0_weigh at h
  refine J_aload_n C 0 dX0_weigh_0 rfl rfl ?_
  refine G_cs_fitting C mw_69 dX0_weigh_1 ?_
  refine J_iload_n C 1 dX0_weigh_4 rfl rfl ?_
  refine J_dup2 C dX0_weigh_5 rfl rfl ?_
  refine L_cs_fitting C dX0_weigh_6 h (fun h => ?_)
  refine J_iconst (v := (1 : Int32)) C dX0_weigh_7 (by decide) ?_
  refine J_iload_n C 2 dX0_weigh_8 rfl rfl ?_
  refine J_ishl C dX0_weigh_9 ?_
  refine J_ior C dX0_weigh_10 ?_
  refine U_cs_fitting C dX0_weigh_11 h (fun h => ?_)
  refine J_aload_n C 0 dX0_weigh_12 rfl rfl ?_
  refine G_cs_formOf C mw_63 dX0_weigh_13 ?_
  refine J_iload_n C 1 dX0_weigh_16 rfl rfl ?_
  refine L_cs_formOf C dX0_weigh_17 h (fun h => ?_)
  refine J_iconst (v := (-1 : Int32)) C dX0_weigh_18 (by decide) ?_
  refine J_icmp_ne (tgt := 26) C dX0_weigh_19 (by decide) h (fun h => ?_) (fun h => ?_)
  · refine J_iconst (v := (0 : Int32)) C dX0_weigh_26 (by decide) ?_
    refine J_lv [0, 1, 2, 3, 4] rfl ?_
    exact s_X0_weigh_27 C h
  · refine J_iconst (v := (1 : Int32)) C dX0_weigh_22 (by decide) ?_
    refine J_goto (tgt := 27) C dX0_weigh_23 (by decide) ?_
    refine J_lv [0, 1, 2, 3, 4] rfl ?_
    exact s_X0_weigh_27 C h
theorem c_X0_weigh {l : Launch} {g : Gd} {a : Nat → Nat} {w : XW} {K : XW → Prop} {v1 : Int32} {v2 : Int32} {v3 : Int32} {v4 : Int32} (h : P_X0_weigh K w v1 v2 v3 v4) : Kt l yX0_weigh cX0_weigh 7 none 0 0 g (sA 15 a) (xCl g a) [.ref (a 2), .int v1, .int v2, .int v3, .int v4] w (QcV g (sA 15 a) (xCl g a) K) :=
  Kt_of (by decide +kernel) (Nat.le_of_ble_eq_true rfl) (fun x hx C => s_X0_weigh C h)
theorem k_X0_weigh {x : Mx} {g : Gd} {a : Nat → Nat} {cc : ByteArray} {nL : Nat} {own : String} {ret : Option FieldType} {F L : Nat} {Q : State → Prop} {w : XW} {pc : Nat} {lv : List (Nat × Value)} {st : List Value} (C : Cx x g (sA 15 a) (xCl g a) cc nL own ret F L) {index : Nat} {K : XW → Prop} {v1 : Int32} {v2 : Int32} {v3 : Int32} {v4 : Int32} (h1 : Cond.methodLink own index yX0_weigh ∈ gT) (hd : decode cc pc = .ok (.invokevirtual index, 3)) (hR : 0 + 1 ≤ F ∧ 8 + (7 + 11) + 0 ≤ L) (hst : (st.map fun v => v.category).sum ≤ 8) (h : P_X0_weigh K w v1 v2 v3 v4) (k : ∀  (w' : XW), K w' → J x g (sA 15 a) (xCl g a) nL Q w' (pc + 3) lv st) : J x g (sA 15 a) (xCl g a) nL Q w (pc) lv (.int v4 :: .int v3 :: .int v2 :: .int v1 :: .ref (a 2) :: st) :=
  J_callVv C (As := [.int v1, .int v2, .int v3, .int v4]) (b := a 2) (n := 4) (c_X0_weigh h) h1 mw_324 mw_768 mw_3 mw_325 (by decide +kernel) hR rfl (rc_X0 C) hst hd k
-- X0_choose (changes, room 8 179)
def P_X0_choose_105 (K : XW → Prop) (B75 : XW → Int32 → Prop) (E111 : XW → Prop) (w : XW) (v1 : Int32) (v2 : Int32) (v3 : Int32) : Prop := B75 w (v3 + (1 : Int32))
set_option maxRecDepth 10000 in
theorem s_X0_choose_105 {x : Mx} {g : Gd} {a : Nat → Nat} (C : Cx x g (sA 15 a) (xCl g a) cX0_choose 5 RX0 none 8 179) {K : XW → Prop}  {v1 : Int32} {v2 : Int32} {v3 : Int32} {B75 : XW → Int32 → Prop} {E111 : XW → Prop} (hB75 : ∀ (w : XW) (v3 : Int32), B75 w v3 → J x g (sA 15 a) (xCl g a) 5 (JQ x (sA 15 a) (QcV g (sA 15 a) (xCl g a) K)) w 75 [(0, .ref (a 2)), (1, .int v1), (2, .int v2), (3, .int v3)] []) (hE111 : ∀ (w : XW), E111 w → J x g (sA 15 a) (xCl g a) 5 (JQ x (sA 15 a) (QcV g (sA 15 a) (xCl g a) K)) w 111 [(0, .ref (a 2)), (1, .int v1), (2, .int v2)] []) {w : XW} (h : P_X0_choose_105 K B75 E111 w v1 v2 v3) : J x g (sA 15 a) (xCl g a) 5 (JQ x (sA 15 a) (QcV g (sA 15 a) (xCl g a) K)) w 105 [(0, .ref (a 2)), (1, .int v1), (2, .int v2), (3, .int v3)] [] := by
  unfold P_X0_choose_105 at h
  refine J_iinc C 3 [(3, .int (v3 + (1 : Int32))), (0, .ref (a 2)), (1, .int v1), (2, .int v2)] dX0_choose_105 rfl rfl (by decide) rfl ?_
  refine J_goto (tgt := 75) C dX0_choose_108 (by decide) ?_
  refine J_lv [1, 2, 3, 0] rfl ?_
  exact hB75 _ _ h
def P_X0_choose_75 (K : XW → Prop) (E111 : XW → Prop) (v1 : Int32) (v2 : Int32) : Nat → XW → Int32 → Prop
  | 0, _, _ => False
  | n + 1, w, v3 => ((31 : Int32) < v3 → E111 w) ∧ (¬ (31 : Int32) < v3 → P_X0_price (fun r_2 w_3 => (r_2 = (-1 : Int32) → P_X0_choose_105 K (P_X0_choose_75 K E111 v1 v2 n) E111 w_3 v1 v2 v3) ∧ (¬ r_2 = (-1 : Int32) → P_X0_weigh (fun w_4 => P_X0_choose_105 K (P_X0_choose_75 K E111 v1 v2 n) E111 w_4 v1 v2 v3) w_3 v1 v3 v2 r_2)) w v1 v3 v2)
set_option maxRecDepth 10000 in
theorem s_X0_choose_75 {x : Mx} {g : Gd} {a : Nat → Nat} (C : Cx x g (sA 15 a) (xCl g a) cX0_choose 5 RX0 none 8 179) {K : XW → Prop}  {v1 : Int32} {v2 : Int32} {E111 : XW → Prop} (hE111 : ∀ (w : XW), E111 w → J x g (sA 15 a) (xCl g a) 5 (JQ x (sA 15 a) (QcV g (sA 15 a) (xCl g a) K)) w 111 [(0, .ref (a 2)), (1, .int v1), (2, .int v2)] []) : ∀ (n : Nat) (w : XW) (v3 : Int32), P_X0_choose_75 K E111 v1 v2 n w v3 → J x g (sA 15 a) (xCl g a) 5 (JQ x (sA 15 a) (QcV g (sA 15 a) (xCl g a) K)) w 75 [(0, .ref (a 2)), (1, .int v1), (2, .int v2), (3, .int v3)] [] := by
  intro n
  induction n with
  | zero => intro w v3 h; exact h.elim
  | succ n ih =>
    intro w v3 h
    unfold P_X0_choose_75 at h
    refine J_iload_n C 3 dX0_choose_75 rfl rfl ?_
    refine J_bipush (v := (31 : Int32)) C dX0_choose_76 (by decide) ?_
    refine J_icmp_gt (tgt := 111) C dX0_choose_78 (by decide) h (fun h => ?_) (fun h => ?_)
    · refine J_lv [0, 1, 2] rfl ?_
      exact hE111 _ h
    · refine J_aload_n C 0 dX0_choose_81 rfl rfl ?_
      refine J_iload_n C 1 dX0_choose_82 rfl rfl ?_
      refine J_iload_n C 3 dX0_choose_83 rfl rfl ?_
      refine J_iload_n C 2 dX0_choose_84 rfl rfl ?_
      refine k_X0_price C mw_247 dX0_choose_85 ⟨Nat.le_of_ble_eq_true rfl, Nat.le_of_ble_eq_true rfl⟩ (Nat.le_of_ble_eq_true rfl) h (fun r_2 w_3 h => ?_)
      refine J_istore C [(4, .int r_2), (0, .ref (a 2)), (1, .int v1), (2, .int v2), (3, .int v3)] dX0_choose_88 (by decide) rfl ?_
      refine J_iload C 0 dX0_choose_90 rfl ?_
      refine J_iconst (v := (-1 : Int32)) C dX0_choose_92 (by decide) ?_
      refine J_icmp_eq (tgt := 105) C dX0_choose_93 (by decide) h (fun h => ?_) (fun h => ?_)
      · refine J_lv [1, 2, 3, 4] rfl ?_
        exact s_X0_choose_105 C ih hE111 h
      · refine J_aload_n C 1 dX0_choose_96 rfl rfl ?_
        refine J_iload_n C 2 dX0_choose_97 rfl rfl ?_
        refine J_iload_n C 4 dX0_choose_98 rfl rfl ?_
        refine J_iload_n C 3 dX0_choose_99 rfl rfl ?_
        refine J_iload C 0 dX0_choose_100 rfl ?_
        refine k_X0_weigh C mw_323 dX0_choose_102 ⟨Nat.le_of_ble_eq_true rfl, Nat.le_of_ble_eq_true rfl⟩ (Nat.le_of_ble_eq_true rfl) h (fun w_4 h => ?_)
        refine J_lv [1, 2, 3, 4] rfl ?_
        exact s_X0_choose_105 C ih hE111 h
def P_X0_choose_62 (K : XW → Prop) (v1 : Int32) : Nat → XW → Int32 → Prop
  | 0, _, _ => False
  | n + 1, w, v2 => ((5 : Int32) ≤ v2 → K w) ∧ (¬ (5 : Int32) ≤ v2 → P_X0_survey (fun w_1 => ∃ nf : Nat, P_X0_choose_75 K (fun w_5 => P_X0_choose_62 K v1 n w_5 (v2 + (1 : Int32))) v1 v2 nf w_1 (0 : Int32)) w v1 v2)
set_option maxRecDepth 10000 in
theorem s_X0_choose_62 {x : Mx} {g : Gd} {a : Nat → Nat} (C : Cx x g (sA 15 a) (xCl g a) cX0_choose 5 RX0 none 8 179) {K : XW → Prop}  {v1 : Int32} : ∀ (n : Nat) (w : XW) (v2 : Int32), P_X0_choose_62 K v1 n w v2 → J x g (sA 15 a) (xCl g a) 5 (JQ x (sA 15 a) (QcV g (sA 15 a) (xCl g a) K)) w 62 [(0, .ref (a 2)), (1, .int v1), (2, .int v2)] [] := by
  intro n
  induction n with
  | zero => intro w v2 h; exact h.elim
  | succ n ih =>
    intro w v2 h
    unfold P_X0_choose_62 at h
    refine J_iload_n C 2 dX0_choose_62 rfl rfl ?_
    refine J_iconst (v := (5 : Int32)) C dX0_choose_63 (by decide) ?_
    refine J_icmp_ge (tgt := 117) C dX0_choose_64 (by decide) h (fun h => ?_) (fun h => ?_)
    · exact J_vret C dX0_choose_117 h
    · refine J_aload_n C 0 dX0_choose_67 rfl rfl ?_
      refine J_iload_n C 1 dX0_choose_68 rfl rfl ?_
      refine J_iload_n C 2 dX0_choose_69 rfl rfl ?_
      refine k_X0_survey C mw_181 dX0_choose_70 ⟨Nat.le_of_ble_eq_true rfl, Nat.le_of_ble_eq_true rfl⟩ (Nat.le_of_ble_eq_true rfl) h (fun w_1 h => ?_)
      refine J_iconst (v := (0 : Int32)) C dX0_choose_73 (by decide) ?_
      refine J_istore_n C [(3, .int (0 : Int32)), (0, .ref (a 2)), (1, .int v1), (2, .int v2)] dX0_choose_74 rfl (by decide) rfl ?_
      obtain ⟨nf, h⟩ := h
      refine J_lv [1, 2, 3, 0] rfl ?_
      refine s_X0_choose_75 C (fun w_5 h => ?_) nf _ _ h
      · refine J_iinc C 2 [(2, .int (v2 + (1 : Int32))), (0, .ref (a 2)), (1, .int v1)] dX0_choose_111 rfl rfl (by decide) rfl ?_
        refine J_goto (tgt := 62) C dX0_choose_114 (by decide) ?_
        refine J_lv [1, 2, 0] rfl ?_
        exact ih _ _ h
def P_X0_choose (K : XW → Prop) (w : XW) (v1 : Int32) : Prop := (v1 < 0 → K w) ∧ (¬ v1 < 0 → ((12 : Int32) ≤ v1 → K w) ∧ (¬ (12 : Int32) ≤ v1 → vp_in v1 12 ∧ (((cs_formOf w v1.toNatClampNeg) = (-2 : Int32) → vp_in v1 12 ∧ (vp_in v1 12 ∧ (vp_in v1 12 ∧ (vp_in v1 12 ∧ (vp_in v1 12 ∧ (∃ nf : Nat, P_X0_choose_62 K v1 nf (cs_cheapest_s (cs_fitting_s (cs_priceOf_s (cs_codeOf_s (cs_formOf_s w (upd (cs_formOf w) v1.toNatClampNeg (-1 : Int32))) (upd (cs_codeOf (cs_formOf_s w (upd (cs_formOf w) v1.toNatClampNeg (-1 : Int32)))) v1.toNatClampNeg (-1 : Int32))) (upd (cs_priceOf (cs_codeOf_s (cs_formOf_s w (upd (cs_formOf w) v1.toNatClampNeg (-1 : Int32))) (upd (cs_codeOf (cs_formOf_s w (upd (cs_formOf w) v1.toNatClampNeg (-1 : Int32)))) v1.toNatClampNeg (-1 : Int32)))) v1.toNatClampNeg (0 : Int32))) (upd (cs_fitting (cs_priceOf_s (cs_codeOf_s (cs_formOf_s w (upd (cs_formOf w) v1.toNatClampNeg (-1 : Int32))) (upd (cs_codeOf (cs_formOf_s w (upd (cs_formOf w) v1.toNatClampNeg (-1 : Int32)))) v1.toNatClampNeg (-1 : Int32))) (upd (cs_priceOf (cs_codeOf_s (cs_formOf_s w (upd (cs_formOf w) v1.toNatClampNeg (-1 : Int32))) (upd (cs_codeOf (cs_formOf_s w (upd (cs_formOf w) v1.toNatClampNeg (-1 : Int32)))) v1.toNatClampNeg (-1 : Int32)))) v1.toNatClampNeg (0 : Int32)))) v1.toNatClampNeg (0 : Int32))) (upd (cs_cheapest (cs_fitting_s (cs_priceOf_s (cs_codeOf_s (cs_formOf_s w (upd (cs_formOf w) v1.toNatClampNeg (-1 : Int32))) (upd (cs_codeOf (cs_formOf_s w (upd (cs_formOf w) v1.toNatClampNeg (-1 : Int32)))) v1.toNatClampNeg (-1 : Int32))) (upd (cs_priceOf (cs_codeOf_s (cs_formOf_s w (upd (cs_formOf w) v1.toNatClampNeg (-1 : Int32))) (upd (cs_codeOf (cs_formOf_s w (upd (cs_formOf w) v1.toNatClampNeg (-1 : Int32)))) v1.toNatClampNeg (-1 : Int32)))) v1.toNatClampNeg (0 : Int32))) (upd (cs_fitting (cs_priceOf_s (cs_codeOf_s (cs_formOf_s w (upd (cs_formOf w) v1.toNatClampNeg (-1 : Int32))) (upd (cs_codeOf (cs_formOf_s w (upd (cs_formOf w) v1.toNatClampNeg (-1 : Int32)))) v1.toNatClampNeg (-1 : Int32))) (upd (cs_priceOf (cs_codeOf_s (cs_formOf_s w (upd (cs_formOf w) v1.toNatClampNeg (-1 : Int32))) (upd (cs_codeOf (cs_formOf_s w (upd (cs_formOf w) v1.toNatClampNeg (-1 : Int32)))) v1.toNatClampNeg (-1 : Int32)))) v1.toNatClampNeg (0 : Int32)))) v1.toNatClampNeg (0 : Int32)))) v1.toNatClampNeg (0 : Int32))) (0 : Int32))))))) ∧ (¬ (cs_formOf w v1.toNatClampNeg) = (-2 : Int32) → K w))))
set_option maxRecDepth 10000 in
theorem s_X0_choose {x : Mx} {g : Gd} {a : Nat → Nat} (C : Cx x g (sA 15 a) (xCl g a) cX0_choose 5 RX0 none 8 179) {K : XW → Prop}  {w : XW} {v1 : Int32} (h : P_X0_choose K w v1) : J x g (sA 15 a) (xCl g a) 5 (JQ x (sA 15 a) (QcV g (sA 15 a) (xCl g a) K)) w 0 [(0, .ref (a 2)), (1, .int v1)] [] := by
  unfold P_X0_choose at h
  refine J_iload_n C 1 dX0_choose_0 rfl rfl ?_
  refine J_if_lt (tgt := 24) C dX0_choose_1 (by decide) h (fun h => ?_) (fun h => ?_)
  · exact J_vret C dX0_choose_24 h
  · refine J_iload_n C 1 dX0_choose_4 rfl rfl ?_
    refine J_aload_n C 0 dX0_choose_5 rfl rfl ?_
    refine G_cs_formOf C mw_63 dX0_choose_6 ?_
    refine N_cs_formOf C dX0_choose_9 ?_
    refine J_icmp_ge (tgt := 24) C dX0_choose_10 (by decide) h (fun h => ?_) (fun h => ?_)
    · exact J_vret C dX0_choose_24 h
    · refine J_aload_n C 0 dX0_choose_13 rfl rfl ?_
      refine G_cs_formOf C mw_63 dX0_choose_14 ?_
      refine J_iload_n C 1 dX0_choose_17 rfl rfl ?_
      refine L_cs_formOf C dX0_choose_18 h (fun h => ?_)
      refine J_bipush (v := (-2 : Int32)) C dX0_choose_19 (by decide) ?_
      refine J_icmp_eq (tgt := 25) C dX0_choose_21 (by decide) h (fun h => ?_) (fun h => ?_)
      · refine J_aload_n C 0 dX0_choose_25 rfl rfl ?_
        refine G_cs_formOf C mw_63 dX0_choose_26 ?_
        refine J_iload_n C 1 dX0_choose_29 rfl rfl ?_
        refine J_iconst (v := (-1 : Int32)) C dX0_choose_30 (by decide) ?_
        refine U_cs_formOf C dX0_choose_31 h (fun h => ?_)
        refine J_aload_n C 0 dX0_choose_32 rfl rfl ?_
        refine G_cs_codeOf C mw_65 dX0_choose_33 ?_
        refine J_iload_n C 1 dX0_choose_36 rfl rfl ?_
        refine J_iconst (v := (-1 : Int32)) C dX0_choose_37 (by decide) ?_
        refine U_cs_codeOf C dX0_choose_38 h (fun h => ?_)
        refine J_aload_n C 0 dX0_choose_39 rfl rfl ?_
        refine G_cs_priceOf C mw_67 dX0_choose_40 ?_
        refine J_iload_n C 1 dX0_choose_43 rfl rfl ?_
        refine J_iconst (v := (0 : Int32)) C dX0_choose_44 (by decide) ?_
        refine U_cs_priceOf C dX0_choose_45 h (fun h => ?_)
        refine J_aload_n C 0 dX0_choose_46 rfl rfl ?_
        refine G_cs_fitting C mw_69 dX0_choose_47 ?_
        refine J_iload_n C 1 dX0_choose_50 rfl rfl ?_
        refine J_iconst (v := (0 : Int32)) C dX0_choose_51 (by decide) ?_
        refine U_cs_fitting C dX0_choose_52 h (fun h => ?_)
        refine J_aload_n C 0 dX0_choose_53 rfl rfl ?_
        refine G_cs_cheapest C mw_71 dX0_choose_54 ?_
        refine J_iload_n C 1 dX0_choose_57 rfl rfl ?_
        refine J_iconst (v := (0 : Int32)) C dX0_choose_58 (by decide) ?_
        refine U_cs_cheapest C dX0_choose_59 h (fun h => ?_)
        refine J_iconst (v := (0 : Int32)) C dX0_choose_60 (by decide) ?_
        refine J_istore_n C [(2, .int (0 : Int32)), (0, .ref (a 2)), (1, .int v1)] dX0_choose_61 rfl (by decide) rfl ?_
        obtain ⟨nf, h⟩ := h
        refine J_lv [1, 2, 0] rfl ?_
        refine s_X0_choose_62 C  nf _ _ h
      · exact J_vret C dX0_choose_24 h
theorem c_X0_choose {l : Launch} {g : Gd} {a : Nat → Nat} {w : XW} {K : XW → Prop} {v1 : Int32} (h : P_X0_choose K w v1) : Kt l yX0_choose cX0_choose 5 none 8 179 g (sA 15 a) (xCl g a) [.ref (a 2), .int v1] w (QcV g (sA 15 a) (xCl g a) K) :=
  Kt_of (by decide +kernel) (Nat.le_of_ble_eq_true rfl) (fun x hx C => s_X0_choose C h)
theorem k_X0_choose {x : Mx} {g : Gd} {a : Nat → Nat} {cc : ByteArray} {nL : Nat} {own : String} {ret : Option FieldType} {F L : Nat} {Q : State → Prop} {w : XW} {pc : Nat} {lv : List (Nat × Value)} {st : List Value} (C : Cx x g (sA 15 a) (xCl g a) cc nL own ret F L) {index : Nat} {K : XW → Prop} {v1 : Int32} (h1 : Cond.methodLink own index yX0_choose ∈ gT) (hd : decode cc pc = .ok (.invokevirtual index, 3)) (hR : 8 + 1 ≤ F ∧ 8 + (5 + 11) + 179 ≤ L) (hst : (st.map fun v => v.category).sum ≤ 8) (h : P_X0_choose K w v1) (k : ∀  (w' : XW), K w' → J x g (sA 15 a) (xCl g a) nL Q w' (pc + 3) lv st) : J x g (sA 15 a) (xCl g a) nL Q w (pc) lv (.int v1 :: .ref (a 2) :: st) :=
  J_callVv C (As := [.int v1]) (b := a 2) (n := 1) (c_X0_choose h) h1 mw_178 mw_179 mw_3 mw_180 (by decide +kernel) hR rfl (rc_X0 C) hst hd k
-- X0_countMissing (changes, room 7 155)
def P_X0_countMissing (K : Int32 → XW → Prop) (w : XW) (v1 : Int32) (v2 : Int32) : Prop := P_X0_survey (fun w_1 => K (cs_surveyedMissing w_1) w_1) w v1 v2
set_option maxRecDepth 10000 in
theorem s_X0_countMissing {x : Mx} {g : Gd} {a : Nat → Nat} (C : Cx x g (sA 15 a) (xCl g a) cX0_countMissing 3 RX0 (some .int) 7 155) {K : Int32 → XW → Prop}  {w : XW} {v1 : Int32} {v2 : Int32} (h : P_X0_countMissing K w v1 v2) : J x g (sA 15 a) (xCl g a) 3 (JQ x (sA 15 a) (QcI g (sA 15 a) (xCl g a) K)) w 0 [(0, .ref (a 2)), (1, .int v1), (2, .int v2)] [] := by
  unfold P_X0_countMissing at h
  refine J_aload_n C 0 dX0_countMissing_0 rfl rfl ?_
  refine J_iload_n C 1 dX0_countMissing_1 rfl rfl ?_
  refine J_iload_n C 2 dX0_countMissing_2 rfl rfl ?_
  refine k_X0_survey C mw_181 dX0_countMissing_3 ⟨Nat.le_of_ble_eq_true rfl, Nat.le_of_ble_eq_true rfl⟩ (Nat.le_of_ble_eq_true rfl) h (fun w_1 h => ?_)
  refine J_aload_n C 0 dX0_countMissing_6 rfl rfl ?_
  refine G_cs_surveyedMissing C mw_74 dX0_countMissing_7 ?_
  exact J_iret C dX0_countMissing_10 h
theorem c_X0_countMissing {l : Launch} {g : Gd} {a : Nat → Nat} {w : XW} {K : Int32 → XW → Prop} {v1 : Int32} {v2 : Int32} (h : P_X0_countMissing K w v1 v2) : Kt l yX0_countMissing cX0_countMissing 3 (some .int) 7 155 g (sA 15 a) (xCl g a) [.ref (a 2), .int v1, .int v2] w (QcI g (sA 15 a) (xCl g a) K) :=
  Kt_of (by decide +kernel) (Nat.le_of_ble_eq_true rfl) (fun x hx C => s_X0_countMissing C h)
theorem k_X0_countMissing {x : Mx} {g : Gd} {a : Nat → Nat} {cc : ByteArray} {nL : Nat} {own : String} {ret : Option FieldType} {F L : Nat} {Q : State → Prop} {w : XW} {pc : Nat} {lv : List (Nat × Value)} {st : List Value} (C : Cx x g (sA 15 a) (xCl g a) cc nL own ret F L) {index : Nat} {K : Int32 → XW → Prop} {v1 : Int32} {v2 : Int32} (h1 : Cond.methodLink own index yX0_countMissing ∈ gT) (hd : decode cc pc = .ok (.invokevirtual index, 3)) (hR : 7 + 1 ≤ F ∧ 8 + (3 + 11) + 155 ≤ L) (hst : (st.map fun v => v.category).sum ≤ 8) (h : P_X0_countMissing K w v1 v2) (k : ∀ (r : Int32) (w' : XW), K r w' → J x g (sA 15 a) (xCl g a) nL Q w' (pc + 3) lv (.int r :: st)) : J x g (sA 15 a) (xCl g a) nL Q w (pc) lv (.int v2 :: .int v1 :: .ref (a 2) :: st) :=
  J_callVi C (As := [.int v1, .int v2]) (b := a 2) (n := 2) (c_X0_countMissing h) h1 mw_383 mw_384 mw_3 mw_385 (by decide +kernel) hR rfl (rc_X0 C) hst hd k
-- X0_rivalOf (pure, room 0 0)
def P_X0_rivalOf_49 (K : Int32 → Prop) (B17 : Int32 → Prop) (w : XW) (v1 : Int32) (v2 : Int32) : Prop := B17 (v2 + (1 : Int32))
set_option maxRecDepth 10000 in
theorem s_X0_rivalOf_49 {x : Mx} {g : Gd} {a : Nat → Nat} (C : Cx x g (sA 15 a) (xCl g a) cX0_rivalOf 3 RX0 (some .int) 0 0) {K : Int32 → Prop} {w : XW}  {v1 : Int32} {v2 : Int32} {B17 : Int32 → Prop} (hB17 : ∀ (v2 : Int32), B17 v2 → J x g (sA 15 a) (xCl g a) 3 (JQ x (sA 15 a) (QcI g (sA 15 a) (xCl g a) (fun r w' => K r ∧ w' = w))) w 17 [(0, .ref (a 2)), (1, .int v1), (2, .int v2)] []) (h : P_X0_rivalOf_49 K B17 w v1 v2) : J x g (sA 15 a) (xCl g a) 3 (JQ x (sA 15 a) (QcI g (sA 15 a) (xCl g a) (fun r w' => K r ∧ w' = w))) w 49 [(0, .ref (a 2)), (1, .int v1), (2, .int v2)] [] := by
  unfold P_X0_rivalOf_49 at h
  refine J_iinc C 2 [(2, .int (v2 + (1 : Int32))), (0, .ref (a 2)), (1, .int v1)] dX0_rivalOf_49 rfl rfl (by decide) rfl ?_
  refine J_goto (tgt := 17) C dX0_rivalOf_52 (by decide) ?_
  refine J_lv [1, 2, 0] rfl ?_
  exact hB17 _ h
def P_X0_rivalOf_17 (K : Int32 → Prop) (w : XW) (v1 : Int32) : Nat → Int32 → Prop
  | 0, _ => False
  | n + 1, v2 => ((31 : Int32) < v2 → K (-1 : Int32)) ∧ (¬ (31 : Int32) < v2 → vp_in v1 12 ∧ ((v2 = (cs_formOf w v1.toNatClampNeg) → P_X0_rivalOf_49 K (P_X0_rivalOf_17 K w v1 n) w v1 v2) ∧ (¬ v2 = (cs_formOf w v1.toNatClampNeg) → vp_in v1 12 ∧ ((¬ (((Int32.toUInt32 (cs_cheapest w v1.toNatClampNeg) >>> (Int32.toUInt32 v2 &&& Int32.toUInt32 31)).toInt32) &&& (1 : Int32)) = (1 : Int32) → P_X0_rivalOf_49 K (P_X0_rivalOf_17 K w v1 n) w v1 v2) ∧ ((((Int32.toUInt32 (cs_cheapest w v1.toNatClampNeg) >>> (Int32.toUInt32 v2 &&& Int32.toUInt32 31)).toInt32) &&& (1 : Int32)) = (1 : Int32) → K v2)))))
set_option maxRecDepth 10000 in
theorem s_X0_rivalOf_17 {x : Mx} {g : Gd} {a : Nat → Nat} (C : Cx x g (sA 15 a) (xCl g a) cX0_rivalOf 3 RX0 (some .int) 0 0) {K : Int32 → Prop} {w : XW}  {v1 : Int32} : ∀ (n : Nat) (v2 : Int32), P_X0_rivalOf_17 K w v1 n v2 → J x g (sA 15 a) (xCl g a) 3 (JQ x (sA 15 a) (QcI g (sA 15 a) (xCl g a) (fun r w' => K r ∧ w' = w))) w 17 [(0, .ref (a 2)), (1, .int v1), (2, .int v2)] [] := by
  intro n
  induction n with
  | zero => intro v2 h; exact h.elim
  | succ n ih =>
    intro v2 h
    unfold P_X0_rivalOf_17 at h
    refine J_iload_n C 2 dX0_rivalOf_17 rfl rfl ?_
    refine J_bipush (v := (31 : Int32)) C dX0_rivalOf_18 (by decide) ?_
    refine J_icmp_gt (tgt := 55) C dX0_rivalOf_20 (by decide) h (fun h => ?_) (fun h => ?_)
    · refine J_iconst (v := (-1 : Int32)) C dX0_rivalOf_55 (by decide) ?_
      exact J_iret C dX0_rivalOf_56 ⟨h, rfl⟩
    · refine J_iload_n C 2 dX0_rivalOf_23 rfl rfl ?_
      refine J_aload_n C 0 dX0_rivalOf_24 rfl rfl ?_
      refine G_cs_formOf C mw_63 dX0_rivalOf_25 ?_
      refine J_iload_n C 1 dX0_rivalOf_28 rfl rfl ?_
      refine L_cs_formOf C dX0_rivalOf_29 h (fun h => ?_)
      refine J_icmp_eq (tgt := 49) C dX0_rivalOf_30 (by decide) h (fun h => ?_) (fun h => ?_)
      · refine J_lv [0, 1, 2] rfl ?_
        exact s_X0_rivalOf_49 C ih h
      · refine J_aload_n C 0 dX0_rivalOf_33 rfl rfl ?_
        refine G_cs_cheapest C mw_71 dX0_rivalOf_34 ?_
        refine J_iload_n C 1 dX0_rivalOf_37 rfl rfl ?_
        refine L_cs_cheapest C dX0_rivalOf_38 h (fun h => ?_)
        refine J_iload_n C 2 dX0_rivalOf_39 rfl rfl ?_
        refine J_iushr C dX0_rivalOf_40 ?_
        refine J_iconst (v := (1 : Int32)) C dX0_rivalOf_41 (by decide) ?_
        refine J_iand C dX0_rivalOf_42 ?_
        refine J_iconst (v := (1 : Int32)) C dX0_rivalOf_43 (by decide) ?_
        refine J_icmp_ne (tgt := 49) C dX0_rivalOf_44 (by decide) h (fun h => ?_) (fun h => ?_)
        · refine J_lv [0, 1, 2] rfl ?_
          exact s_X0_rivalOf_49 C ih h
        · refine J_iload_n C 2 dX0_rivalOf_47 rfl rfl ?_
          exact J_iret C dX0_rivalOf_48 ⟨h, rfl⟩
def P_X0_rivalOf (K : Int32 → Prop) (w : XW) (v1 : Int32) : Prop := (v1 < 0 → K (-1 : Int32)) ∧ (¬ v1 < 0 → (v1 < (12 : Int32) → ∃ nf : Nat, P_X0_rivalOf_17 K w v1 nf (0 : Int32)) ∧ (¬ v1 < (12 : Int32) → K (-1 : Int32)))
set_option maxRecDepth 10000 in
theorem s_X0_rivalOf {x : Mx} {g : Gd} {a : Nat → Nat} (C : Cx x g (sA 15 a) (xCl g a) cX0_rivalOf 3 RX0 (some .int) 0 0) {K : Int32 → Prop} {w : XW}  {v1 : Int32} (h : P_X0_rivalOf K w v1) : J x g (sA 15 a) (xCl g a) 3 (JQ x (sA 15 a) (QcI g (sA 15 a) (xCl g a) (fun r w' => K r ∧ w' = w))) w 0 [(0, .ref (a 2)), (1, .int v1)] [] := by
  unfold P_X0_rivalOf at h
  refine J_iload_n C 1 dX0_rivalOf_0 rfl rfl ?_
  refine J_if_lt (tgt := 13) C dX0_rivalOf_1 (by decide) h (fun h => ?_) (fun h => ?_)
  · refine J_iconst (v := (-1 : Int32)) C dX0_rivalOf_13 (by decide) ?_
    exact J_iret C dX0_rivalOf_14 ⟨h, rfl⟩
  · refine J_iload_n C 1 dX0_rivalOf_4 rfl rfl ?_
    refine J_aload_n C 0 dX0_rivalOf_5 rfl rfl ?_
    refine G_cs_formOf C mw_63 dX0_rivalOf_6 ?_
    refine N_cs_formOf C dX0_rivalOf_9 ?_
    refine J_icmp_lt (tgt := 15) C dX0_rivalOf_10 (by decide) h (fun h => ?_) (fun h => ?_)
    · refine J_iconst (v := (0 : Int32)) C dX0_rivalOf_15 (by decide) ?_
      refine J_istore_n C [(2, .int (0 : Int32)), (0, .ref (a 2)), (1, .int v1)] dX0_rivalOf_16 rfl (by decide) rfl ?_
      obtain ⟨nf, h⟩ := h
      refine J_lv [1, 2, 0] rfl ?_
      refine s_X0_rivalOf_17 C  nf _ h
    · refine J_iconst (v := (-1 : Int32)) C dX0_rivalOf_13 (by decide) ?_
      exact J_iret C dX0_rivalOf_14 ⟨h, rfl⟩
theorem c_X0_rivalOf {l : Launch} {g : Gd} {a : Nat → Nat} {w : XW} {K : Int32 → Prop} {v1 : Int32} (h : P_X0_rivalOf K w v1) : Kt l yX0_rivalOf cX0_rivalOf 3 (some .int) 0 0 g (sA 15 a) (xCl g a) [.ref (a 2), .int v1] w (QcI g (sA 15 a) (xCl g a) (fun r w' => K r ∧ w' = w)) :=
  Kt_of (by decide +kernel) (Nat.le_of_ble_eq_true rfl) (fun x hx C => s_X0_rivalOf C h)
theorem k_X0_rivalOf {x : Mx} {g : Gd} {a : Nat → Nat} {cc : ByteArray} {nL : Nat} {own : String} {ret : Option FieldType} {F L : Nat} {Q : State → Prop} {w : XW} {pc : Nat} {lv : List (Nat × Value)} {st : List Value} (C : Cx x g (sA 15 a) (xCl g a) cc nL own ret F L) {index : Nat} {K : Int32 → Prop} {v1 : Int32} (h1 : Cond.methodLink own index yX0_rivalOf ∈ gT) (hd : decode cc pc = .ok (.invokevirtual index, 3)) (hR : 0 + 1 ≤ F ∧ 8 + (3 + 11) + 0 ≤ L) (hst : (st.map fun v => v.category).sum ≤ 8) (h : P_X0_rivalOf K w v1) (k : ∀ (r : Int32), K r → J x g (sA 15 a) (xCl g a) nL Q w (pc + 3) lv (.int r :: st)) : J x g (sA 15 a) (xCl g a) nL Q w (pc) lv (.int v1 :: .ref (a 2) :: st) :=
  J_callVi C (As := [.int v1]) (b := a 2) (n := 1) (c_X0_rivalOf h) h1 mw_413 mw_414 mw_3 mw_415 (by decide +kernel) hR rfl (rc_X0 C) hst hd (fun r w' hK => by
    obtain ⟨hK, rfl⟩ := hK
    exact k r hK)
-- X0_partingRow (changes, room 7 153)
def P_X0_partingRow_76 (K : Int32 → XW → Prop) (B3 : XW → Int32 → Prop) (w : XW) (v1 : Int32) (v2 : Int32) (v3 : Int32) (v4 : Int32) (v5 : Int32) : Prop := B3 w (v5 + (1 : Int32))
set_option maxRecDepth 10000 in
theorem s_X0_partingRow_76 {x : Mx} {g : Gd} {a : Nat → Nat} (C : Cx x g (sA 15 a) (xCl g a) cX0_partingRow 7 RX0 (some .int) 7 153) {K : Int32 → XW → Prop}  {v1 : Int32} {v2 : Int32} {v3 : Int32} {v4 : Int32} {v5 : Int32} {B3 : XW → Int32 → Prop} (hB3 : ∀ (w : XW) (v5 : Int32), B3 w v5 → J x g (sA 15 a) (xCl g a) 7 (JQ x (sA 15 a) (QcI g (sA 15 a) (xCl g a) K)) w 3 [(0, .ref (a 2)), (1, .int v1), (2, .int v2), (3, .int v3), (4, .int v4), (5, .int v5)] []) {w : XW} (h : P_X0_partingRow_76 K B3 w v1 v2 v3 v4 v5) : J x g (sA 15 a) (xCl g a) 7 (JQ x (sA 15 a) (QcI g (sA 15 a) (xCl g a) K)) w 76 [(0, .ref (a 2)), (1, .int v1), (2, .int v2), (3, .int v3), (4, .int v4), (5, .int v5)] [] := by
  unfold P_X0_partingRow_76 at h
  refine J_iinc C 5 [(5, .int (v5 + (1 : Int32))), (0, .ref (a 2)), (1, .int v1), (2, .int v2), (3, .int v3), (4, .int v4)] dX0_partingRow_76 rfl rfl (by decide) rfl ?_
  refine J_goto (tgt := 3) C dX0_partingRow_79 (by decide) ?_
  refine J_lv [1, 2, 3, 4, 5, 0] rfl ?_
  exact hB3 _ _ h
def P_X0_partingRow_3 (K : Int32 → XW → Prop) (v1 : Int32) (v2 : Int32) (v3 : Int32) (v4 : Int32) : Nat → XW → Int32 → Prop
  | 0, _, _ => False
  | n + 1, w, v5 => ((cu_rows w) ≤ v5 → K (-1 : Int32) w) ∧ (¬ (cu_rows w) ≤ v5 → P_X1_isInColumns (fun r_1 => (r_1 = 0 → P_X0_partingRow_76 K (P_X0_partingRow_3 K v1 v2 v3 v4 n) w v1 v2 v3 v4 v5) ∧ (¬ r_1 = 0 → P_X1_cellIn (fun r_2 => P_X0_isMissing (fun r_3 => (¬ r_3 = 0 → P_X0_partingRow_76 K (P_X0_partingRow_3 K v1 v2 v3 v4 n) w v1 v2 v3 v4 v5) ∧ (r_3 = 0 → P_X2_tells (fun r_4 w_5 => P_X2_tells (fun r_6 w_7 => (r_4 = r_6 → P_X0_partingRow_76 K (P_X0_partingRow_3 K v1 v2 v3 v4 n) w_7 v1 v2 v3 v4 v5) ∧ (¬ r_4 = r_6 → K v5 w_7)) w_5 v3 r_2) w v2 r_2)) w r_2 v4) w v5 v1)) w v5)
set_option maxRecDepth 10000 in
theorem s_X0_partingRow_3 {x : Mx} {g : Gd} {a : Nat → Nat} (C : Cx x g (sA 15 a) (xCl g a) cX0_partingRow 7 RX0 (some .int) 7 153) {K : Int32 → XW → Prop}  {v1 : Int32} {v2 : Int32} {v3 : Int32} {v4 : Int32} : ∀ (n : Nat) (w : XW) (v5 : Int32), P_X0_partingRow_3 K v1 v2 v3 v4 n w v5 → J x g (sA 15 a) (xCl g a) 7 (JQ x (sA 15 a) (QcI g (sA 15 a) (xCl g a) K)) w 3 [(0, .ref (a 2)), (1, .int v1), (2, .int v2), (3, .int v3), (4, .int v4), (5, .int v5)] [] := by
  intro n
  induction n with
  | zero => intro w v5 h; exact h.elim
  | succ n ih =>
    intro w v5 h
    unfold P_X0_partingRow_3 at h
    refine J_iload C 5 dX0_partingRow_3 rfl ?_
    refine J_aload_n C 0 dX0_partingRow_5 rfl rfl ?_
    refine G_cs_cut C mw_72 dX0_partingRow_6 ?_
    refine G_cu_rows C mw_33 dX0_partingRow_9 ?_
    refine J_icmp_ge (tgt := 82) C dX0_partingRow_12 (by decide) h (fun h => ?_) (fun h => ?_)
    · refine J_iconst (v := (-1 : Int32)) C dX0_partingRow_82 (by decide) ?_
      exact J_iret C dX0_partingRow_83 h
    · refine J_aload_n C 0 dX0_partingRow_15 rfl rfl ?_
      refine G_cs_cut C mw_72 dX0_partingRow_16 ?_
      refine J_iload C 5 dX0_partingRow_19 rfl ?_
      refine k_X1_isInColumns C mw_185 dX0_partingRow_21 ⟨Nat.le_of_ble_eq_true rfl, Nat.le_of_ble_eq_true rfl⟩ (Nat.le_of_ble_eq_true rfl) h (fun r_1 h => ?_)
      refine J_if_eq (tgt := 76) C dX0_partingRow_24 (by decide) h (fun h => ?_) (fun h => ?_)
      · refine J_lv [0, 1, 2, 3, 4, 5] rfl ?_
        exact s_X0_partingRow_76 C ih h
      · refine J_aload_n C 0 dX0_partingRow_27 rfl rfl ?_
        refine G_cs_cut C mw_72 dX0_partingRow_28 ?_
        refine J_iload C 5 dX0_partingRow_31 rfl ?_
        refine J_iload_n C 1 dX0_partingRow_33 rfl rfl ?_
        refine k_X1_cellIn C mw_189 dX0_partingRow_34 ⟨Nat.le_of_ble_eq_true rfl, Nat.le_of_ble_eq_true rfl⟩ (Nat.le_of_ble_eq_true rfl) h (fun r_2 h => ?_)
        refine J_istore C [(6, .int r_2), (0, .ref (a 2)), (1, .int v1), (2, .int v2), (3, .int v3), (4, .int v4), (5, .int v5)] dX0_partingRow_37 (by decide) rfl ?_
        refine J_aload_n C 1 dX0_partingRow_39 rfl rfl ?_
        refine J_iload C 0 dX0_partingRow_40 rfl ?_
        refine J_iload C 5 dX0_partingRow_42 rfl ?_
        refine k_X0_isMissing C mw_193 dX0_partingRow_44 ⟨Nat.le_of_ble_eq_true rfl, Nat.le_of_ble_eq_true rfl⟩ (Nat.le_of_ble_eq_true rfl) h (fun r_3 h => ?_)
        refine J_if_ne (tgt := 76) C dX0_partingRow_47 (by decide) h (fun h => ?_) (fun h => ?_)
        · refine J_lv [1, 2, 3, 4, 5, 6] rfl ?_
          exact s_X0_partingRow_76 C ih h
        · refine J_aload_n C 1 dX0_partingRow_50 rfl rfl ?_
          refine G_cs_forms C mw_73 dX0_partingRow_51 ?_
          refine J_iload_n C 3 dX0_partingRow_54 rfl rfl ?_
          refine J_iload C 0 dX0_partingRow_55 rfl ?_
          refine k_X2_tells C mw_262 dX0_partingRow_57 ⟨Nat.le_of_ble_eq_true rfl, Nat.le_of_ble_eq_true rfl⟩ (Nat.le_of_ble_eq_true rfl) h (fun r_4 w_5 h => ?_)
          refine J_aload_n C 1 dX0_partingRow_60 rfl rfl ?_
          refine G_cs_forms C mw_73 dX0_partingRow_61 ?_
          refine J_iload_n C 4 dX0_partingRow_64 rfl rfl ?_
          refine J_iload C 0 dX0_partingRow_65 rfl ?_
          refine k_X2_tells C mw_262 dX0_partingRow_67 ⟨Nat.le_of_ble_eq_true rfl, Nat.le_of_ble_eq_true rfl⟩ (Nat.le_of_ble_eq_true rfl) h (fun r_6 w_7 h => ?_)
          refine J_icmp_eq (tgt := 76) C dX0_partingRow_70 (by decide) h (fun h => ?_) (fun h => ?_)
          · refine J_lv [1, 2, 3, 4, 5, 6] rfl ?_
            exact s_X0_partingRow_76 C ih h
          · refine J_iload C 6 dX0_partingRow_73 rfl ?_
            exact J_iret C dX0_partingRow_75 h
def P_X0_partingRow (K : Int32 → XW → Prop) (w : XW) (v1 : Int32) (v2 : Int32) (v3 : Int32) (v4 : Int32) : Prop := ∃ nf : Nat, P_X0_partingRow_3 K v1 v2 v3 v4 nf w (0 : Int32)
set_option maxRecDepth 10000 in
theorem s_X0_partingRow {x : Mx} {g : Gd} {a : Nat → Nat} (C : Cx x g (sA 15 a) (xCl g a) cX0_partingRow 7 RX0 (some .int) 7 153) {K : Int32 → XW → Prop}  {w : XW} {v1 : Int32} {v2 : Int32} {v3 : Int32} {v4 : Int32} (h : P_X0_partingRow K w v1 v2 v3 v4) : J x g (sA 15 a) (xCl g a) 7 (JQ x (sA 15 a) (QcI g (sA 15 a) (xCl g a) K)) w 0 [(0, .ref (a 2)), (1, .int v1), (2, .int v2), (3, .int v3), (4, .int v4)] [] := by
  unfold P_X0_partingRow at h
  refine J_iconst (v := (0 : Int32)) C dX0_partingRow_0 (by decide) ?_
  refine J_istore C [(5, .int (0 : Int32)), (0, .ref (a 2)), (1, .int v1), (2, .int v2), (3, .int v3), (4, .int v4)] dX0_partingRow_1 (by decide) rfl ?_
  obtain ⟨nf, h⟩ := h
  refine J_lv [1, 2, 3, 4, 5, 0] rfl ?_
  refine s_X0_partingRow_3 C  nf _ _ h
theorem c_X0_partingRow {l : Launch} {g : Gd} {a : Nat → Nat} {w : XW} {K : Int32 → XW → Prop} {v1 : Int32} {v2 : Int32} {v3 : Int32} {v4 : Int32} (h : P_X0_partingRow K w v1 v2 v3 v4) : Kt l yX0_partingRow cX0_partingRow 7 (some .int) 7 153 g (sA 15 a) (xCl g a) [.ref (a 2), .int v1, .int v2, .int v3, .int v4] w (QcI g (sA 15 a) (xCl g a) K) :=
  Kt_of (by decide +kernel) (Nat.le_of_ble_eq_true rfl) (fun x hx C => s_X0_partingRow C h)
theorem k_X0_partingRow {x : Mx} {g : Gd} {a : Nat → Nat} {cc : ByteArray} {nL : Nat} {own : String} {ret : Option FieldType} {F L : Nat} {Q : State → Prop} {w : XW} {pc : Nat} {lv : List (Nat × Value)} {st : List Value} (C : Cx x g (sA 15 a) (xCl g a) cc nL own ret F L) {index : Nat} {K : Int32 → XW → Prop} {v1 : Int32} {v2 : Int32} {v3 : Int32} {v4 : Int32} (h1 : Cond.methodLink own index yX0_partingRow ∈ gT) (hd : decode cc pc = .ok (.invokevirtual index, 3)) (hR : 7 + 1 ≤ F ∧ 8 + (7 + 11) + 153 ≤ L) (hst : (st.map fun v => v.category).sum ≤ 8) (h : P_X0_partingRow K w v1 v2 v3 v4) (k : ∀ (r : Int32) (w' : XW), K r w' → J x g (sA 15 a) (xCl g a) nL Q w' (pc + 3) lv (.int r :: st)) : J x g (sA 15 a) (xCl g a) nL Q w (pc) lv (.int v4 :: .int v3 :: .int v2 :: .int v1 :: .ref (a 2) :: st) :=
  J_callVi C (As := [.int v1, .int v2, .int v3, .int v4]) (b := a 2) (n := 4) (c_X0_partingRow h) h1 mw_421 mw_422 mw_3 mw_423 (by decide +kernel) hR rfl (rc_X0 C) hst hd k
-- X0_worthOf (changes, room 7 155)
def P_X0_worthOf (K : Int32 → XW → Prop) (w : XW) (v1 : Int32) (v2 : Int32) : Prop := P_X1_isInColumns (fun r_1 => (r_1 = 0 → K (0 : Int32) w) ∧ (¬ r_1 = 0 → (v2 < 0 → K (0 : Int32) w) ∧ (¬ v2 < 0 → (v2 < (12 : Int32) → vp_in v2 12 ∧ (P_X0_survey (fun w_2 => P_X1_cellIn (fun r_3 => vp_in v2 12 ∧ (P_X0_isMissing (fun r_4 => (¬ r_4 = 0 → K (0 : Int32) w_2) ∧ (r_4 = 0 → vp_in v2 12 ∧ (P_X2_tells (fun r_5 w_6 => (r_5 = 0 → K (0 : Int32) w_6) ∧ (¬ r_5 = 0 → K (fm_worth w_6) w_6)) w_2 (cs_formOf w_2 v2.toNatClampNeg) r_3))) w_2 r_3 (cs_codeOf w_2 v2.toNatClampNeg))) w_2 v1 v2) w v2 (cs_codeOf w v2.toNatClampNeg))) ∧ (¬ v2 < (12 : Int32) → K (0 : Int32) w)))) w v1
set_option maxRecDepth 10000 in
theorem s_X0_worthOf {x : Mx} {g : Gd} {a : Nat → Nat} (C : Cx x g (sA 15 a) (xCl g a) cX0_worthOf 4 RX0 (some .int) 7 155) {K : Int32 → XW → Prop}  {w : XW} {v1 : Int32} {v2 : Int32} (h : P_X0_worthOf K w v1 v2) : J x g (sA 15 a) (xCl g a) 4 (JQ x (sA 15 a) (QcI g (sA 15 a) (xCl g a) K)) w 0 [(0, .ref (a 2)), (1, .int v1), (2, .int v2)] [] := by
  unfold P_X0_worthOf at h
  refine J_aload_n C 0 dX0_worthOf_0 rfl rfl ?_
  refine G_cs_cut C mw_72 dX0_worthOf_1 ?_
  refine J_iload_n C 1 dX0_worthOf_4 rfl rfl ?_
  refine k_X1_isInColumns C mw_185 dX0_worthOf_5 ⟨Nat.le_of_ble_eq_true rfl, Nat.le_of_ble_eq_true rfl⟩ (Nat.le_of_ble_eq_true rfl) h (fun r_1 h => ?_)
  refine J_if_eq (tgt := 24) C dX0_worthOf_8 (by decide) h (fun h => ?_) (fun h => ?_)
  · refine J_iconst (v := (0 : Int32)) C dX0_worthOf_24 (by decide) ?_
    exact J_iret C dX0_worthOf_25 h
  · refine J_iload_n C 2 dX0_worthOf_11 rfl rfl ?_
    refine J_if_lt (tgt := 24) C dX0_worthOf_12 (by decide) h (fun h => ?_) (fun h => ?_)
    · refine J_iconst (v := (0 : Int32)) C dX0_worthOf_24 (by decide) ?_
      exact J_iret C dX0_worthOf_25 h
    · refine J_iload_n C 2 dX0_worthOf_15 rfl rfl ?_
      refine J_aload_n C 0 dX0_worthOf_16 rfl rfl ?_
      refine G_cs_formOf C mw_63 dX0_worthOf_17 ?_
      refine N_cs_formOf C dX0_worthOf_20 ?_
      refine J_icmp_lt (tgt := 26) C dX0_worthOf_21 (by decide) h (fun h => ?_) (fun h => ?_)
      · refine J_aload_n C 0 dX0_worthOf_26 rfl rfl ?_
        refine J_iload_n C 2 dX0_worthOf_27 rfl rfl ?_
        refine J_aload_n C 0 dX0_worthOf_28 rfl rfl ?_
        refine G_cs_codeOf C mw_65 dX0_worthOf_29 ?_
        refine J_iload_n C 2 dX0_worthOf_32 rfl rfl ?_
        refine L_cs_codeOf C dX0_worthOf_33 h (fun h => ?_)
        refine k_X0_survey C mw_181 dX0_worthOf_34 ⟨Nat.le_of_ble_eq_true rfl, Nat.le_of_ble_eq_true rfl⟩ (Nat.le_of_ble_eq_true rfl) h (fun w_2 h => ?_)
        refine J_aload_n C 0 dX0_worthOf_37 rfl rfl ?_
        refine G_cs_cut C mw_72 dX0_worthOf_38 ?_
        refine J_iload_n C 1 dX0_worthOf_41 rfl rfl ?_
        refine J_iload_n C 2 dX0_worthOf_42 rfl rfl ?_
        refine k_X1_cellIn C mw_189 dX0_worthOf_43 ⟨Nat.le_of_ble_eq_true rfl, Nat.le_of_ble_eq_true rfl⟩ (Nat.le_of_ble_eq_true rfl) h (fun r_3 h => ?_)
        refine J_istore_n C [(3, .int r_3), (0, .ref (a 2)), (1, .int v1), (2, .int v2)] dX0_worthOf_46 rfl (by decide) rfl ?_
        refine J_aload_n C 1 dX0_worthOf_47 rfl rfl ?_
        refine J_iload_n C 0 dX0_worthOf_48 rfl rfl ?_
        refine J_aload_n C 1 dX0_worthOf_49 rfl rfl ?_
        refine G_cs_codeOf C mw_65 dX0_worthOf_50 ?_
        refine J_iload_n C 3 dX0_worthOf_53 rfl rfl ?_
        refine L_cs_codeOf C dX0_worthOf_54 h (fun h => ?_)
        refine k_X0_isMissing C mw_193 dX0_worthOf_55 ⟨Nat.le_of_ble_eq_true rfl, Nat.le_of_ble_eq_true rfl⟩ (Nat.le_of_ble_eq_true rfl) h (fun r_4 h => ?_)
        refine J_if_ne (tgt := 88) C dX0_worthOf_58 (by decide) h (fun h => ?_) (fun h => ?_)
        · refine J_iconst (v := (0 : Int32)) C dX0_worthOf_88 (by decide) ?_
          exact J_iret C dX0_worthOf_89 h
        · refine J_aload_n C 1 dX0_worthOf_61 rfl rfl ?_
          refine G_cs_forms C mw_73 dX0_worthOf_62 ?_
          refine J_aload_n C 1 dX0_worthOf_65 rfl rfl ?_
          refine G_cs_formOf C mw_63 dX0_worthOf_66 ?_
          refine J_iload_n C 3 dX0_worthOf_69 rfl rfl ?_
          refine L_cs_formOf C dX0_worthOf_70 h (fun h => ?_)
          refine J_iload_n C 0 dX0_worthOf_71 rfl rfl ?_
          refine k_X2_tells C mw_262 dX0_worthOf_72 ⟨Nat.le_of_ble_eq_true rfl, Nat.le_of_ble_eq_true rfl⟩ (Nat.le_of_ble_eq_true rfl) h (fun r_5 w_6 h => ?_)
          refine J_if_eq (tgt := 88) C dX0_worthOf_75 (by decide) h (fun h => ?_) (fun h => ?_)
          · refine J_iconst (v := (0 : Int32)) C dX0_worthOf_88 (by decide) ?_
            exact J_iret C dX0_worthOf_89 h
          · refine J_aload_n C 1 dX0_worthOf_78 rfl rfl ?_
            refine G_cs_forms C mw_73 dX0_worthOf_79 ?_
            refine G_fm_worth C mw_61 dX0_worthOf_82 ?_
            refine J_goto (tgt := 89) C dX0_worthOf_85 (by decide) ?_
            exact J_iret C dX0_worthOf_89 h
      · refine J_iconst (v := (0 : Int32)) C dX0_worthOf_24 (by decide) ?_
        exact J_iret C dX0_worthOf_25 h
theorem c_X0_worthOf {l : Launch} {g : Gd} {a : Nat → Nat} {w : XW} {K : Int32 → XW → Prop} {v1 : Int32} {v2 : Int32} (h : P_X0_worthOf K w v1 v2) : Kt l yX0_worthOf cX0_worthOf 4 (some .int) 7 155 g (sA 15 a) (xCl g a) [.ref (a 2), .int v1, .int v2] w (QcI g (sA 15 a) (xCl g a) K) :=
  Kt_of (by decide +kernel) (Nat.le_of_ble_eq_true rfl) (fun x hx C => s_X0_worthOf C h)
theorem k_X0_worthOf {x : Mx} {g : Gd} {a : Nat → Nat} {cc : ByteArray} {nL : Nat} {own : String} {ret : Option FieldType} {F L : Nat} {Q : State → Prop} {w : XW} {pc : Nat} {lv : List (Nat × Value)} {st : List Value} (C : Cx x g (sA 15 a) (xCl g a) cc nL own ret F L) {index : Nat} {K : Int32 → XW → Prop} {v1 : Int32} {v2 : Int32} (h1 : Cond.methodLink own index yX0_worthOf ∈ gT) (hd : decode cc pc = .ok (.invokevirtual index, 3)) (hR : 7 + 1 ≤ F ∧ 8 + (4 + 11) + 155 ≤ L) (hst : (st.map fun v => v.category).sum ≤ 8) (h : P_X0_worthOf K w v1 v2) (k : ∀ (r : Int32) (w' : XW), K r w' → J x g (sA 15 a) (xCl g a) nL Q w' (pc + 3) lv (.int r :: st)) : J x g (sA 15 a) (xCl g a) nL Q w (pc) lv (.int v2 :: .int v1 :: .ref (a 2) :: st) :=
  J_callVi C (As := [.int v1, .int v2]) (b := a 2) (n := 2) (c_X0_worthOf h) h1 mw_429 mw_430 mw_3 mw_431 (by decide +kernel) hR rfl (rc_X0 C) hst hd k
-- X1_areAlike (pure, room 1 22)
def P_X1_areAlike_20 (K : Int32 → Prop) (w : XW) (v1 : Int32) (v2 : Int32) (v3 : Int32) : Nat → Int32 → Prop
  | 0, _ => False
  | n + 1, v4 => (v3 ≤ v4 → K (1 : Int32)) ∧ (¬ v3 ≤ v4 → P_X1_byteIn (fun r_3 => P_X1_byteIn (fun r_4 => (r_3 = r_4 → P_X1_areAlike_20 K w v1 v2 v3 n (v4 + (1 : Int32))) ∧ (¬ r_3 = r_4 → K (0 : Int32))) w v2 v4) w v1 v4)
set_option maxRecDepth 10000 in
theorem s_X1_areAlike_20 {x : Mx} {g : Gd} {a : Nat → Nat} (C : Cx x g (sA 15 a) (xCl g a) cX1_areAlike 5 RX1 (some .boolean) 1 22) {K : Int32 → Prop} {w : XW}  {v1 : Int32} {v2 : Int32} {v3 : Int32} : ∀ (n : Nat) (v4 : Int32), P_X1_areAlike_20 K w v1 v2 v3 n v4 → J x g (sA 15 a) (xCl g a) 5 (JQ x (sA 15 a) (QcI g (sA 15 a) (xCl g a) (fun r w' => K r ∧ w' = w))) w 20 [(0, .ref (a 1)), (1, .int v1), (2, .int v2), (3, .int v3), (4, .int v4)] [] := by
  intro n
  induction n with
  | zero => intro v4 h; exact h.elim
  | succ n ih =>
    intro v4 h
    unfold P_X1_areAlike_20 at h
    refine J_iload C 4 dX1_areAlike_20 rfl ?_
    refine J_iload_n C 3 dX1_areAlike_22 rfl rfl ?_
    refine J_icmp_ge (tgt := 51) C dX1_areAlike_23 (by decide) h (fun h => ?_) (fun h => ?_)
    · refine J_iconst (v := (1 : Int32)) C dX1_areAlike_51 (by decide) ?_
      exact J_zret C dX1_areAlike_52 rfl ⟨h, rfl⟩
    · refine J_aload_n C 0 dX1_areAlike_26 rfl rfl ?_
      refine J_iload_n C 1 dX1_areAlike_27 rfl rfl ?_
      refine J_iload C 4 dX1_areAlike_28 rfl ?_
      refine k_X1_byteIn C mw_453 dX1_areAlike_30 ⟨Nat.le_of_ble_eq_true rfl, Nat.le_of_ble_eq_true rfl⟩ (Nat.le_of_ble_eq_true rfl) h (fun r_3 h => ?_)
      refine J_aload_n C 0 dX1_areAlike_33 rfl rfl ?_
      refine J_iload_n C 2 dX1_areAlike_34 rfl rfl ?_
      refine J_iload C 4 dX1_areAlike_35 rfl ?_
      refine k_X1_byteIn C mw_453 dX1_areAlike_37 ⟨Nat.le_of_ble_eq_true rfl, Nat.le_of_ble_eq_true rfl⟩ (Nat.le_of_ble_eq_true rfl) h (fun r_4 h => ?_)
      refine J_icmp_eq (tgt := 45) C dX1_areAlike_40 (by decide) h (fun h => ?_) (fun h => ?_)
      · refine J_iinc C 4 [(4, .int (v4 + (1 : Int32))), (0, .ref (a 1)), (1, .int v1), (2, .int v2), (3, .int v3)] dX1_areAlike_45 rfl rfl (by decide) rfl ?_
        refine J_goto (tgt := 20) C dX1_areAlike_48 (by decide) ?_
        refine J_lv [1, 2, 3, 4, 0] rfl ?_
        exact ih _ h
      · refine J_iconst (v := (0 : Int32)) C dX1_areAlike_43 (by decide) ?_
        exact J_zret C dX1_areAlike_44 rfl ⟨h, rfl⟩
def P_X1_areAlike (K : Int32 → Prop) (w : XW) (v1 : Int32) (v2 : Int32) : Prop := P_X1_lengthOf (fun r_1 => P_X1_lengthOf (fun r_2 => (r_1 = r_2 → ∃ nf : Nat, P_X1_areAlike_20 K w v1 v2 r_1 nf (0 : Int32)) ∧ (¬ r_1 = r_2 → K (0 : Int32))) w v2) w v1
set_option maxRecDepth 10000 in
theorem s_X1_areAlike {x : Mx} {g : Gd} {a : Nat → Nat} (C : Cx x g (sA 15 a) (xCl g a) cX1_areAlike 5 RX1 (some .boolean) 1 22) {K : Int32 → Prop} {w : XW}  {v1 : Int32} {v2 : Int32} (h : P_X1_areAlike K w v1 v2) : J x g (sA 15 a) (xCl g a) 5 (JQ x (sA 15 a) (QcI g (sA 15 a) (xCl g a) (fun r w' => K r ∧ w' = w))) w 0 [(0, .ref (a 1)), (1, .int v1), (2, .int v2)] [] := by
  unfold P_X1_areAlike at h
  refine J_aload_n C 0 dX1_areAlike_0 rfl rfl ?_
  refine J_iload_n C 1 dX1_areAlike_1 rfl rfl ?_
  refine k_X1_lengthOf C mw_452 dX1_areAlike_2 ⟨Nat.le_of_ble_eq_true rfl, Nat.le_of_ble_eq_true rfl⟩ (Nat.le_of_ble_eq_true rfl) h (fun r_1 h => ?_)
  refine J_istore_n C [(3, .int r_1), (0, .ref (a 1)), (1, .int v1), (2, .int v2)] dX1_areAlike_5 rfl (by decide) rfl ?_
  refine J_iload_n C 0 dX1_areAlike_6 rfl rfl ?_
  refine J_aload_n C 1 dX1_areAlike_7 rfl rfl ?_
  refine J_iload_n C 3 dX1_areAlike_8 rfl rfl ?_
  refine k_X1_lengthOf C mw_452 dX1_areAlike_9 ⟨Nat.le_of_ble_eq_true rfl, Nat.le_of_ble_eq_true rfl⟩ (Nat.le_of_ble_eq_true rfl) h (fun r_2 h => ?_)
  refine J_icmp_eq (tgt := 17) C dX1_areAlike_12 (by decide) h (fun h => ?_) (fun h => ?_)
  · refine J_iconst (v := (0 : Int32)) C dX1_areAlike_17 (by decide) ?_
    refine J_istore C [(4, .int (0 : Int32)), (3, .int r_1), (0, .ref (a 1)), (1, .int v1), (2, .int v2)] dX1_areAlike_18 (by decide) rfl ?_
    obtain ⟨nf, h⟩ := h
    refine J_lv [2, 3, 4, 1, 0] rfl ?_
    refine s_X1_areAlike_20 C  nf _ h
  · refine J_iconst (v := (0 : Int32)) C dX1_areAlike_15 (by decide) ?_
    exact J_zret C dX1_areAlike_16 rfl ⟨h, rfl⟩
theorem c_X1_areAlike {l : Launch} {g : Gd} {a : Nat → Nat} {w : XW} {K : Int32 → Prop} {v1 : Int32} {v2 : Int32} (h : P_X1_areAlike K w v1 v2) : Kt l yX1_areAlike cX1_areAlike 5 (some .boolean) 1 22 g (sA 15 a) (xCl g a) [.ref (a 1), .int v1, .int v2] w (QcI g (sA 15 a) (xCl g a) (fun r w' => K r ∧ w' = w)) :=
  Kt_of (by decide +kernel) (Nat.le_of_ble_eq_true rfl) (fun x hx C => s_X1_areAlike C h)
theorem k_X1_areAlike {x : Mx} {g : Gd} {a : Nat → Nat} {cc : ByteArray} {nL : Nat} {own : String} {ret : Option FieldType} {F L : Nat} {Q : State → Prop} {w : XW} {pc : Nat} {lv : List (Nat × Value)} {st : List Value} (C : Cx x g (sA 15 a) (xCl g a) cc nL own ret F L) {index : Nat} {K : Int32 → Prop} {v1 : Int32} {v2 : Int32} (h1 : Cond.methodLink own index yX1_areAlike ∈ gT) (hd : decode cc pc = .ok (.invokevirtual index, 3)) (hR : 1 + 1 ≤ F ∧ 8 + (5 + 11) + 22 ≤ L) (hst : (st.map fun v => v.category).sum ≤ 8) (h : P_X1_areAlike K w v1 v2) (k : ∀ (r : Int32), K r → J x g (sA 15 a) (xCl g a) nL Q w (pc + 3) lv (.int r :: st)) : J x g (sA 15 a) (xCl g a) nL Q w (pc) lv (.int v2 :: .int v1 :: .ref (a 1) :: st) :=
  J_callVi C (As := [.int v1, .int v2]) (b := a 1) (n := 2) (c_X1_areAlike h) h1 mw_449 mw_450 mw_2 mw_451 (by decide +kernel) hR rfl (rc_X1 C) hst hd (fun r w' hK => by
    obtain ⟨hK, rfl⟩ := hK
    exact k r hK)
-- X0_isRepeated (pure, room 2 46)
def P_X0_isRepeated_62 (K : Int32 → Prop) (B15 : Int32 → Prop) (w : XW) (v2 : Int32) (v3 : Int32) (v4 : Int32) : Prop := B15 (v4 + (1 : Int32))
set_option maxRecDepth 10000 in
theorem s_X0_isRepeated_62 {x : Mx} {g : Gd} {a : Nat → Nat} (C : Cx x g (sA 15 a) (xCl g a) cX0_isRepeated 5 RX0 (some .boolean) 2 46) {K : Int32 → Prop} {w : XW}  {v2 : Int32} {v3 : Int32} {v4 : Int32} {B15 : Int32 → Prop} (hB15 : ∀ (v4 : Int32), B15 v4 → J x g (sA 15 a) (xCl g a) 5 (JQ x (sA 15 a) (QcI g (sA 15 a) (xCl g a) (fun r w' => K r ∧ w' = w))) w 15 [(0, .ref (a 2)), (2, .int v2), (3, .int v3), (4, .int v4)] []) (h : P_X0_isRepeated_62 K B15 w v2 v3 v4) : J x g (sA 15 a) (xCl g a) 5 (JQ x (sA 15 a) (QcI g (sA 15 a) (xCl g a) (fun r w' => K r ∧ w' = w))) w 62 [(0, .ref (a 2)), (2, .int v2), (3, .int v3), (4, .int v4)] [] := by
  unfold P_X0_isRepeated_62 at h
  refine J_iinc C 3 [(4, .int (v4 + (1 : Int32))), (0, .ref (a 2)), (2, .int v2), (3, .int v3)] dX0_isRepeated_62 rfl rfl (by decide) rfl ?_
  refine J_goto (tgt := 15) C dX0_isRepeated_65 (by decide) ?_
  refine J_lv [1, 2, 3, 0] rfl ?_
  exact hB15 _ h
def P_X0_isRepeated_15 (K : Int32 → Prop) (w : XW) (v2 : Int32) (v3 : Int32) : Nat → Int32 → Prop
  | 0, _ => False
  | n + 1, v4 => ((cu_rows w) ≤ v4 → K (0 : Int32)) ∧ (¬ (cu_rows w) ≤ v4 → P_X1_isInColumns (fun r_2 => (r_2 = 0 → P_X0_isRepeated_62 K (P_X0_isRepeated_15 K w v2 v3 n) w v2 v3 v4) ∧ (¬ r_2 = 0 → P_X1_cellIn (fun r_3 => P_X1_areAlike (fun r_4 => (r_4 = 0 → P_X0_isRepeated_62 K (P_X0_isRepeated_15 K w v2 v3 n) w v2 v3 v4) ∧ (¬ r_4 = 0 → K (1 : Int32))) w v3 r_3) w v4 v2)) w v4)
set_option maxRecDepth 10000 in
theorem s_X0_isRepeated_15 {x : Mx} {g : Gd} {a : Nat → Nat} (C : Cx x g (sA 15 a) (xCl g a) cX0_isRepeated 5 RX0 (some .boolean) 2 46) {K : Int32 → Prop} {w : XW}  {v2 : Int32} {v3 : Int32} : ∀ (n : Nat) (v4 : Int32), P_X0_isRepeated_15 K w v2 v3 n v4 → J x g (sA 15 a) (xCl g a) 5 (JQ x (sA 15 a) (QcI g (sA 15 a) (xCl g a) (fun r w' => K r ∧ w' = w))) w 15 [(0, .ref (a 2)), (2, .int v2), (3, .int v3), (4, .int v4)] [] := by
  intro n
  induction n with
  | zero => intro v4 h; exact h.elim
  | succ n ih =>
    intro v4 h
    unfold P_X0_isRepeated_15 at h
    refine J_iload C 3 dX0_isRepeated_15 rfl ?_
    refine J_aload_n C 0 dX0_isRepeated_17 rfl rfl ?_
    refine G_cs_cut C mw_72 dX0_isRepeated_18 ?_
    refine G_cu_rows C mw_33 dX0_isRepeated_21 ?_
    refine J_icmp_ge (tgt := 68) C dX0_isRepeated_24 (by decide) h (fun h => ?_) (fun h => ?_)
    · refine J_iconst (v := (0 : Int32)) C dX0_isRepeated_68 (by decide) ?_
      exact J_zret C dX0_isRepeated_69 rfl ⟨h, rfl⟩
    · refine J_aload_n C 0 dX0_isRepeated_27 rfl rfl ?_
      refine G_cs_cut C mw_72 dX0_isRepeated_28 ?_
      refine J_iload C 3 dX0_isRepeated_31 rfl ?_
      refine k_X1_isInColumns C mw_185 dX0_isRepeated_33 ⟨Nat.le_of_ble_eq_true rfl, Nat.le_of_ble_eq_true rfl⟩ (Nat.le_of_ble_eq_true rfl) h (fun r_2 h => ?_)
      refine J_if_eq (tgt := 62) C dX0_isRepeated_36 (by decide) h (fun h => ?_) (fun h => ?_)
      · refine J_lv [0, 1, 2, 3] rfl ?_
        exact s_X0_isRepeated_62 C ih h
      · refine J_aload_n C 0 dX0_isRepeated_39 rfl rfl ?_
        refine G_cs_cut C mw_72 dX0_isRepeated_40 ?_
        refine J_iload_n C 2 dX0_isRepeated_43 rfl rfl ?_
        refine J_aload_n C 0 dX0_isRepeated_44 rfl rfl ?_
        refine G_cs_cut C mw_72 dX0_isRepeated_45 ?_
        refine J_iload C 3 dX0_isRepeated_48 rfl ?_
        refine J_iload_n C 1 dX0_isRepeated_50 rfl rfl ?_
        refine k_X1_cellIn C mw_189 dX0_isRepeated_51 ⟨Nat.le_of_ble_eq_true rfl, Nat.le_of_ble_eq_true rfl⟩ (Nat.le_of_ble_eq_true rfl) h (fun r_3 h => ?_)
        refine k_X1_areAlike C mw_448 dX0_isRepeated_54 ⟨Nat.le_of_ble_eq_true rfl, Nat.le_of_ble_eq_true rfl⟩ (Nat.le_of_ble_eq_true rfl) h (fun r_4 h => ?_)
        refine J_if_eq (tgt := 62) C dX0_isRepeated_57 (by decide) h (fun h => ?_) (fun h => ?_)
        · refine J_lv [0, 1, 2, 3] rfl ?_
          exact s_X0_isRepeated_62 C ih h
        · refine J_iconst (v := (1 : Int32)) C dX0_isRepeated_60 (by decide) ?_
          exact J_zret C dX0_isRepeated_61 rfl ⟨h, rfl⟩
def P_X0_isRepeated (K : Int32 → Prop) (w : XW) (v1 : Int32) (v2 : Int32) : Prop := P_X1_cellIn (fun r_1 => ∃ nf : Nat, P_X0_isRepeated_15 K w v2 r_1 nf (v1 + (1 : Int32))) w v1 v2
set_option maxRecDepth 10000 in
theorem s_X0_isRepeated {x : Mx} {g : Gd} {a : Nat → Nat} (C : Cx x g (sA 15 a) (xCl g a) cX0_isRepeated 5 RX0 (some .boolean) 2 46) {K : Int32 → Prop} {w : XW}  {v1 : Int32} {v2 : Int32} (h : P_X0_isRepeated K w v1 v2) : J x g (sA 15 a) (xCl g a) 5 (JQ x (sA 15 a) (QcI g (sA 15 a) (xCl g a) (fun r w' => K r ∧ w' = w))) w 0 [(0, .ref (a 2)), (1, .int v1), (2, .int v2)] [] := by
  unfold P_X0_isRepeated at h
  refine J_aload_n C 0 dX0_isRepeated_0 rfl rfl ?_
  refine G_cs_cut C mw_72 dX0_isRepeated_1 ?_
  refine J_iload_n C 1 dX0_isRepeated_4 rfl rfl ?_
  refine J_iload_n C 2 dX0_isRepeated_5 rfl rfl ?_
  refine k_X1_cellIn C mw_189 dX0_isRepeated_6 ⟨Nat.le_of_ble_eq_true rfl, Nat.le_of_ble_eq_true rfl⟩ (Nat.le_of_ble_eq_true rfl) h (fun r_1 h => ?_)
  refine J_istore_n C [(3, .int r_1), (0, .ref (a 2)), (1, .int v1), (2, .int v2)] dX0_isRepeated_9 rfl (by decide) rfl ?_
  refine J_iload_n C 2 dX0_isRepeated_10 rfl rfl ?_
  refine J_iconst (v := (1 : Int32)) C dX0_isRepeated_11 (by decide) ?_
  refine J_iadd C dX0_isRepeated_12 ?_
  refine J_istore C [(4, .int (v1 + (1 : Int32))), (3, .int r_1), (0, .ref (a 2)), (1, .int v1), (2, .int v2)] dX0_isRepeated_13 (by decide) rfl ?_
  obtain ⟨nf, h⟩ := h
  refine J_lv [2, 4, 1, 0] rfl ?_
  refine s_X0_isRepeated_15 C  nf _ h
theorem c_X0_isRepeated {l : Launch} {g : Gd} {a : Nat → Nat} {w : XW} {K : Int32 → Prop} {v1 : Int32} {v2 : Int32} (h : P_X0_isRepeated K w v1 v2) : Kt l yX0_isRepeated cX0_isRepeated 5 (some .boolean) 2 46 g (sA 15 a) (xCl g a) [.ref (a 2), .int v1, .int v2] w (QcI g (sA 15 a) (xCl g a) (fun r w' => K r ∧ w' = w)) :=
  Kt_of (by decide +kernel) (Nat.le_of_ble_eq_true rfl) (fun x hx C => s_X0_isRepeated C h)
theorem k_X0_isRepeated {x : Mx} {g : Gd} {a : Nat → Nat} {cc : ByteArray} {nL : Nat} {own : String} {ret : Option FieldType} {F L : Nat} {Q : State → Prop} {w : XW} {pc : Nat} {lv : List (Nat × Value)} {st : List Value} (C : Cx x g (sA 15 a) (xCl g a) cc nL own ret F L) {index : Nat} {K : Int32 → Prop} {v1 : Int32} {v2 : Int32} (h1 : Cond.methodLink own index yX0_isRepeated ∈ gT) (hd : decode cc pc = .ok (.invokevirtual index, 3)) (hR : 2 + 1 ≤ F ∧ 8 + (5 + 11) + 46 ≤ L) (hst : (st.map fun v => v.category).sum ≤ 8) (h : P_X0_isRepeated K w v1 v2) (k : ∀ (r : Int32), K r → J x g (sA 15 a) (xCl g a) nL Q w (pc + 3) lv (.int r :: st)) : J x g (sA 15 a) (xCl g a) nL Q w (pc) lv (.int v2 :: .int v1 :: .ref (a 2) :: st) :=
  J_callVi C (As := [.int v1, .int v2]) (b := a 2) (n := 2) (c_X0_isRepeated h) h1 mw_446 mw_770 mw_3 mw_447 (by decide +kernel) hR rfl (rc_X0 C) hst hd (fun r w' hK => by
    obtain ⟨hK, rfl⟩ := hK
    exact k r hK)
-- X0_allUnlike (pure, room 3 70)
def P_X0_allUnlike_35 (K : Int32 → Prop) (B2 : Int32 → Prop) (w : XW) (v1 : Int32) (v2 : Int32) : Prop := B2 (v2 + (1 : Int32))
set_option maxRecDepth 10000 in
theorem s_X0_allUnlike_35 {x : Mx} {g : Gd} {a : Nat → Nat} (C : Cx x g (sA 15 a) (xCl g a) cX0_allUnlike 3 RX0 (some .boolean) 3 70) {K : Int32 → Prop} {w : XW}  {v1 : Int32} {v2 : Int32} {B2 : Int32 → Prop} (hB2 : ∀ (v2 : Int32), B2 v2 → J x g (sA 15 a) (xCl g a) 3 (JQ x (sA 15 a) (QcI g (sA 15 a) (xCl g a) (fun r w' => K r ∧ w' = w))) w 2 [(0, .ref (a 2)), (1, .int v1), (2, .int v2)] []) (h : P_X0_allUnlike_35 K B2 w v1 v2) : J x g (sA 15 a) (xCl g a) 3 (JQ x (sA 15 a) (QcI g (sA 15 a) (xCl g a) (fun r w' => K r ∧ w' = w))) w 35 [(0, .ref (a 2)), (1, .int v1), (2, .int v2)] [] := by
  unfold P_X0_allUnlike_35 at h
  refine J_iinc C 2 [(2, .int (v2 + (1 : Int32))), (0, .ref (a 2)), (1, .int v1)] dX0_allUnlike_35 rfl rfl (by decide) rfl ?_
  refine J_goto (tgt := 2) C dX0_allUnlike_38 (by decide) ?_
  refine J_lv [1, 2, 0] rfl ?_
  exact hB2 _ h
def P_X0_allUnlike_2 (K : Int32 → Prop) (w : XW) (v1 : Int32) : Nat → Int32 → Prop
  | 0, _ => False
  | n + 1, v2 => ((cu_rows w) ≤ v2 → K (1 : Int32)) ∧ (¬ (cu_rows w) ≤ v2 → P_X1_isInColumns (fun r_1 => (r_1 = 0 → P_X0_allUnlike_35 K (P_X0_allUnlike_2 K w v1 n) w v1 v2) ∧ (¬ r_1 = 0 → P_X0_isRepeated (fun r_2 => (r_2 = 0 → P_X0_allUnlike_35 K (P_X0_allUnlike_2 K w v1 n) w v1 v2) ∧ (¬ r_2 = 0 → K (0 : Int32))) w v2 v1)) w v2)
set_option maxRecDepth 10000 in
theorem s_X0_allUnlike_2 {x : Mx} {g : Gd} {a : Nat → Nat} (C : Cx x g (sA 15 a) (xCl g a) cX0_allUnlike 3 RX0 (some .boolean) 3 70) {K : Int32 → Prop} {w : XW}  {v1 : Int32} : ∀ (n : Nat) (v2 : Int32), P_X0_allUnlike_2 K w v1 n v2 → J x g (sA 15 a) (xCl g a) 3 (JQ x (sA 15 a) (QcI g (sA 15 a) (xCl g a) (fun r w' => K r ∧ w' = w))) w 2 [(0, .ref (a 2)), (1, .int v1), (2, .int v2)] [] := by
  intro n
  induction n with
  | zero => intro v2 h; exact h.elim
  | succ n ih =>
    intro v2 h
    unfold P_X0_allUnlike_2 at h
    refine J_iload_n C 2 dX0_allUnlike_2 rfl rfl ?_
    refine J_aload_n C 0 dX0_allUnlike_3 rfl rfl ?_
    refine G_cs_cut C mw_72 dX0_allUnlike_4 ?_
    refine G_cu_rows C mw_33 dX0_allUnlike_7 ?_
    refine J_icmp_ge (tgt := 41) C dX0_allUnlike_10 (by decide) h (fun h => ?_) (fun h => ?_)
    · refine J_iconst (v := (1 : Int32)) C dX0_allUnlike_41 (by decide) ?_
      exact J_zret C dX0_allUnlike_42 rfl ⟨h, rfl⟩
    · refine J_aload_n C 0 dX0_allUnlike_13 rfl rfl ?_
      refine G_cs_cut C mw_72 dX0_allUnlike_14 ?_
      refine J_iload_n C 2 dX0_allUnlike_17 rfl rfl ?_
      refine k_X1_isInColumns C mw_185 dX0_allUnlike_18 ⟨Nat.le_of_ble_eq_true rfl, Nat.le_of_ble_eq_true rfl⟩ (Nat.le_of_ble_eq_true rfl) h (fun r_1 h => ?_)
      refine J_if_eq (tgt := 35) C dX0_allUnlike_21 (by decide) h (fun h => ?_) (fun h => ?_)
      · refine J_lv [0, 1, 2] rfl ?_
        exact s_X0_allUnlike_35 C ih h
      · refine J_aload_n C 0 dX0_allUnlike_24 rfl rfl ?_
        refine J_iload_n C 2 dX0_allUnlike_25 rfl rfl ?_
        refine J_iload_n C 1 dX0_allUnlike_26 rfl rfl ?_
        refine k_X0_isRepeated C mw_445 dX0_allUnlike_27 ⟨Nat.le_of_ble_eq_true rfl, Nat.le_of_ble_eq_true rfl⟩ (Nat.le_of_ble_eq_true rfl) h (fun r_2 h => ?_)
        refine J_if_eq (tgt := 35) C dX0_allUnlike_30 (by decide) h (fun h => ?_) (fun h => ?_)
        · refine J_lv [0, 1, 2] rfl ?_
          exact s_X0_allUnlike_35 C ih h
        · refine J_iconst (v := (0 : Int32)) C dX0_allUnlike_33 (by decide) ?_
          exact J_zret C dX0_allUnlike_34 rfl ⟨h, rfl⟩
def P_X0_allUnlike (K : Int32 → Prop) (w : XW) (v1 : Int32) : Prop := ∃ nf : Nat, P_X0_allUnlike_2 K w v1 nf (0 : Int32)
set_option maxRecDepth 10000 in
theorem s_X0_allUnlike {x : Mx} {g : Gd} {a : Nat → Nat} (C : Cx x g (sA 15 a) (xCl g a) cX0_allUnlike 3 RX0 (some .boolean) 3 70) {K : Int32 → Prop} {w : XW}  {v1 : Int32} (h : P_X0_allUnlike K w v1) : J x g (sA 15 a) (xCl g a) 3 (JQ x (sA 15 a) (QcI g (sA 15 a) (xCl g a) (fun r w' => K r ∧ w' = w))) w 0 [(0, .ref (a 2)), (1, .int v1)] [] := by
  unfold P_X0_allUnlike at h
  refine J_iconst (v := (0 : Int32)) C dX0_allUnlike_0 (by decide) ?_
  refine J_istore_n C [(2, .int (0 : Int32)), (0, .ref (a 2)), (1, .int v1)] dX0_allUnlike_1 rfl (by decide) rfl ?_
  obtain ⟨nf, h⟩ := h
  refine J_lv [1, 2, 0] rfl ?_
  refine s_X0_allUnlike_2 C  nf _ h
theorem c_X0_allUnlike {l : Launch} {g : Gd} {a : Nat → Nat} {w : XW} {K : Int32 → Prop} {v1 : Int32} (h : P_X0_allUnlike K w v1) : Kt l yX0_allUnlike cX0_allUnlike 3 (some .boolean) 3 70 g (sA 15 a) (xCl g a) [.ref (a 2), .int v1] w (QcI g (sA 15 a) (xCl g a) (fun r w' => K r ∧ w' = w)) :=
  Kt_of (by decide +kernel) (Nat.le_of_ble_eq_true rfl) (fun x hx C => s_X0_allUnlike C h)
theorem k_X0_allUnlike {x : Mx} {g : Gd} {a : Nat → Nat} {cc : ByteArray} {nL : Nat} {own : String} {ret : Option FieldType} {F L : Nat} {Q : State → Prop} {w : XW} {pc : Nat} {lv : List (Nat × Value)} {st : List Value} (C : Cx x g (sA 15 a) (xCl g a) cc nL own ret F L) {index : Nat} {K : Int32 → Prop} {v1 : Int32} (h1 : Cond.methodLink own index yX0_allUnlike ∈ gT) (hd : decode cc pc = .ok (.invokevirtual index, 3)) (hR : 3 + 1 ≤ F ∧ 8 + (3 + 11) + 70 ≤ L) (hst : (st.map fun v => v.category).sum ≤ 8) (h : P_X0_allUnlike K w v1) (k : ∀ (r : Int32), K r → J x g (sA 15 a) (xCl g a) nL Q w (pc + 3) lv (.int r :: st)) : J x g (sA 15 a) (xCl g a) nL Q w (pc) lv (.int v1 :: .ref (a 2) :: st) :=
  J_callVi C (As := [.int v1]) (b := a 2) (n := 1) (c_X0_allUnlike h) h1 mw_442 mw_443 mw_3 mw_444 (by decide +kernel) hR rfl (rc_X0 C) hst hd (fun r w' hK => by
    obtain ⟨hK, rfl⟩ := hK
    exact k r hK)
-- X1_begin (changes, room 0 0)
def P_X1_begin_74 (K : XW → Prop) (w : XW) (s0 : Int32) : Prop := vz s0 ∧ (K (cu_phase_s (cu_faultSpot_s (cu_fault_s (cu_rows_s (cu_cells_s (cu_heldSize_s (cu_headed_s w s0) (0 : Int32)) (0 : Int32)) (0 : Int32)) (0 : Int32)) (-1 : Int32)) (0 : Int32)))
set_option maxRecDepth 10000 in
theorem s_X1_begin_74 {x : Mx} {g : Gd} {a : Nat → Nat} (C : Cx x g (sA 15 a) (xCl g a) cX1_begin 4 RX1 none 0 0) {K : XW → Prop}  {s0 : Int32} {w : XW} (h : P_X1_begin_74 K w s0) : J x g (sA 15 a) (xCl g a) 4 (JQ x (sA 15 a) (QcV g (sA 15 a) (xCl g a) K)) w 74 [(0, .ref (a 1))] [.int s0, .ref (a 1)] := by
  unfold P_X1_begin_74 at h
  refine S_cu_headed C h.1 mw_41 dX1_begin_74 ?_
  replace h := h.2
  refine J_aload_n C 0 dX1_begin_77 rfl rfl ?_
  refine J_iconst (v := (0 : Int32)) C dX1_begin_78 (by decide) ?_
  refine S_cu_heldSize C mw_30 dX1_begin_79 ?_
  refine J_aload_n C 0 dX1_begin_82 rfl rfl ?_
  refine J_iconst (v := (0 : Int32)) C dX1_begin_83 (by decide) ?_
  refine S_cu_cells C mw_31 dX1_begin_84 ?_
  refine J_aload_n C 0 dX1_begin_87 rfl rfl ?_
  refine J_iconst (v := (0 : Int32)) C dX1_begin_88 (by decide) ?_
  refine S_cu_rows C mw_32 dX1_begin_89 ?_
  refine J_aload_n C 0 dX1_begin_92 rfl rfl ?_
  refine J_iconst (v := (0 : Int32)) C dX1_begin_93 (by decide) ?_
  refine S_cu_fault C mw_35 dX1_begin_94 ?_
  refine J_aload_n C 0 dX1_begin_97 rfl rfl ?_
  refine J_iconst (v := (-1 : Int32)) C dX1_begin_98 (by decide) ?_
  refine S_cu_faultSpot C mw_37 dX1_begin_99 ?_
  refine J_aload_n C 0 dX1_begin_102 rfl rfl ?_
  refine J_iconst (v := (0 : Int32)) C dX1_begin_103 (by decide) ?_
  refine S_cu_phase C mw_42 dX1_begin_104 ?_
  exact J_vret C dX1_begin_107 h
def P_X1_begin_58 (K : XW → Prop) (w : XW) (v1 : Int32) (s0 : Int32) : Prop := (¬ (v1 - v1 / (2 : Int32) * (2 : Int32)) = (1 : Int32) → P_X1_begin_74 K (cu_quote_s w s0) (0 : Int32)) ∧ ((v1 - v1 / (2 : Int32) * (2 : Int32)) = (1 : Int32) → P_X1_begin_74 K (cu_quote_s w s0) (1 : Int32))
set_option maxRecDepth 10000 in
theorem s_X1_begin_58 {x : Mx} {g : Gd} {a : Nat → Nat} (C : Cx x g (sA 15 a) (xCl g a) cX1_begin 4 RX1 none 0 0) {K : XW → Prop}  {v1 : Int32} {s0 : Int32} {w : XW} (h : P_X1_begin_58 K w v1 s0) : J x g (sA 15 a) (xCl g a) 4 (JQ x (sA 15 a) (QcV g (sA 15 a) (xCl g a) K)) w 58 [(0, .ref (a 1)), (1, .int v1)] [.int s0, .ref (a 1)] := by
  unfold P_X1_begin_58 at h
  refine S_cu_quote C mw_40 dX1_begin_58 ?_
  refine J_aload_n C 0 dX1_begin_61 rfl rfl ?_
  refine J_iload_n C 1 dX1_begin_62 rfl rfl ?_
  refine J_iconst (v := (2 : Int32)) C dX1_begin_63 (by decide) ?_
  refine J_irem C dX1_begin_64 (by decide) ?_
  refine J_iconst (v := (1 : Int32)) C dX1_begin_65 (by decide) ?_
  refine J_icmp_ne (tgt := 73) C dX1_begin_66 (by decide) h (fun h => ?_) (fun h => ?_)
  · refine J_iconst (v := (0 : Int32)) C dX1_begin_73 (by decide) ?_
    refine J_lv [0] rfl ?_
    exact s_X1_begin_74 C h
  · refine J_iconst (v := (1 : Int32)) C dX1_begin_69 (by decide) ?_
    refine J_goto (tgt := 74) C dX1_begin_70 (by decide) ?_
    refine J_lv [0] rfl ?_
    exact s_X1_begin_74 C h
def P_X1_begin_27 (K : XW → Prop) (w : XW) (v1 : Int32) (s0 : Int32) : Prop := (¬ ((v1 / (2 : Int32)) - (v1 / (2 : Int32)) / (3 : Int32) * (3 : Int32)) = (1 : Int32) → (¬ ((v1 / (2 : Int32)) - (v1 / (2 : Int32)) / (3 : Int32) * (3 : Int32)) = (2 : Int32) → P_X1_begin_58 K (cu_mark_s w s0) v1 (-1 : Int32)) ∧ (((v1 / (2 : Int32)) - (v1 / (2 : Int32)) / (3 : Int32) * (3 : Int32)) = (2 : Int32) → P_X1_begin_58 K (cu_mark_s w s0) v1 (39 : Int32))) ∧ (((v1 / (2 : Int32)) - (v1 / (2 : Int32)) / (3 : Int32) * (3 : Int32)) = (1 : Int32) → P_X1_begin_58 K (cu_mark_s w s0) v1 (34 : Int32))
set_option maxRecDepth 10000 in
theorem s_X1_begin_27 {x : Mx} {g : Gd} {a : Nat → Nat} (C : Cx x g (sA 15 a) (xCl g a) cX1_begin 4 RX1 none 0 0) {K : XW → Prop}  {v1 : Int32} {s0 : Int32} {w : XW} (h : P_X1_begin_27 K w v1 s0) : J x g (sA 15 a) (xCl g a) 4 (JQ x (sA 15 a) (QcV g (sA 15 a) (xCl g a) K)) w 27 [(0, .ref (a 1)), (1, .int v1)] [.int s0, .ref (a 1)] := by
  unfold P_X1_begin_27 at h
  refine S_cu_mark C mw_39 dX1_begin_27 ?_
  refine J_iload_n C 1 dX1_begin_30 rfl rfl ?_
  refine J_iconst (v := (2 : Int32)) C dX1_begin_31 (by decide) ?_
  refine J_idiv C dX1_begin_32 (by decide) ?_
  refine J_iconst (v := (3 : Int32)) C dX1_begin_33 (by decide) ?_
  refine J_irem C dX1_begin_34 (by decide) ?_
  refine J_istore_n C [(3, .int ((v1 / (2 : Int32)) - (v1 / (2 : Int32)) / (3 : Int32) * (3 : Int32))), (0, .ref (a 1)), (1, .int v1)] dX1_begin_35 rfl (by decide) rfl ?_
  refine J_aload_n C 1 dX1_begin_36 rfl rfl ?_
  refine J_iload_n C 0 dX1_begin_37 rfl rfl ?_
  refine J_iconst (v := (1 : Int32)) C dX1_begin_38 (by decide) ?_
  refine J_icmp_ne (tgt := 47) C dX1_begin_39 (by decide) h (fun h => ?_) (fun h => ?_)
  · refine J_iload_n C 0 dX1_begin_47 rfl rfl ?_
    refine J_iconst (v := (2 : Int32)) C dX1_begin_48 (by decide) ?_
    refine J_icmp_ne (tgt := 57) C dX1_begin_49 (by decide) h (fun h => ?_) (fun h => ?_)
    · refine J_iconst (v := (-1 : Int32)) C dX1_begin_57 (by decide) ?_
      refine J_lv [1, 2] rfl ?_
      exact s_X1_begin_58 C h
    · refine J_bipush (v := (39 : Int32)) C dX1_begin_52 (by decide) ?_
      refine J_goto (tgt := 58) C dX1_begin_54 (by decide) ?_
      refine J_lv [1, 2] rfl ?_
      exact s_X1_begin_58 C h
  · refine J_bipush (v := (34 : Int32)) C dX1_begin_42 (by decide) ?_
    refine J_goto (tgt := 58) C dX1_begin_44 (by decide) ?_
    refine J_lv [1, 2] rfl ?_
    exact s_X1_begin_58 C h
def P_X1_begin_26 (K : XW → Prop) (w : XW) (v1 : Int32) : Prop := P_X1_begin_27 K w v1 (-1 : Int32)
set_option maxRecDepth 10000 in
theorem s_X1_begin_26 {x : Mx} {g : Gd} {a : Nat → Nat} (C : Cx x g (sA 15 a) (xCl g a) cX1_begin 4 RX1 none 0 0) {K : XW → Prop}  {v1 : Int32} {w : XW} (h : P_X1_begin_26 K w v1) : J x g (sA 15 a) (xCl g a) 4 (JQ x (sA 15 a) (QcV g (sA 15 a) (xCl g a) K)) w 26 [(0, .ref (a 1)), (1, .int v1)] [.ref (a 1)] := by
  unfold P_X1_begin_26 at h
  refine J_iconst (v := (-1 : Int32)) C dX1_begin_26 (by decide) ?_
  refine J_lv [0, 1] rfl ?_
  exact s_X1_begin_27 C h
def P_X1_begin (K : XW → Prop) (w : XW) (v1 : Int32) : Prop := ((v1 / (6 : Int32)) < 0 → P_X1_begin_26 K w v1) ∧ (¬ (v1 / (6 : Int32)) < 0 → ((4 : Int32) ≤ (v1 / (6 : Int32)) → P_X1_begin_26 K w v1) ∧ (¬ (4 : Int32) ≤ (v1 / (6 : Int32)) → vp_in (v1 / (6 : Int32)) 4 ∧ (P_X1_begin_27 K w v1 (tbM (v1 / (6 : Int32)).toNatClampNeg))))
set_option maxRecDepth 10000 in
theorem s_X1_begin {x : Mx} {g : Gd} {a : Nat → Nat} (C : Cx x g (sA 15 a) (xCl g a) cX1_begin 4 RX1 none 0 0) {K : XW → Prop}  {w : XW} {v1 : Int32} (h : P_X1_begin K w v1) : J x g (sA 15 a) (xCl g a) 4 (JQ x (sA 15 a) (QcV g (sA 15 a) (xCl g a) K)) w 0 [(0, .ref (a 1)), (1, .int v1)] [] := by
  unfold P_X1_begin at h
  refine J_iload_n C 1 dX1_begin_0 rfl rfl ?_
  refine J_bipush (v := (6 : Int32)) C dX1_begin_1 (by decide) ?_
  refine J_idiv C dX1_begin_3 (by decide) ?_
  refine J_istore_n C [(2, .int (v1 / (6 : Int32))), (0, .ref (a 1)), (1, .int v1)] dX1_begin_4 rfl (by decide) rfl ?_
  refine J_aload_n C 1 dX1_begin_5 rfl rfl ?_
  refine J_iload_n C 0 dX1_begin_6 rfl rfl ?_
  refine J_if_lt (tgt := 26) C dX1_begin_7 (by decide) h (fun h => ?_) (fun h => ?_)
  · refine J_lv [1, 2] rfl ?_
    exact s_X1_begin_26 C h
  · refine J_iload_n C 0 dX1_begin_10 rfl rfl ?_
    refine J_gets C C.2.2.2.2.2.2.2.1.2.2.2.2.1.1 mw_126 dX1_begin_11 ?_
    refine J_tlen (v := (4 : Int32)) C C.2.2.2.2.2.2.2.1.2.2.2.2.1.2 rfl dX1_begin_14 ?_
    refine J_icmp_ge (tgt := 26) C dX1_begin_15 (by decide) h (fun h => ?_) (fun h => ?_)
    · refine J_lv [1, 2] rfl ?_
      exact s_X1_begin_26 C h
    · refine J_gets C C.2.2.2.2.2.2.2.1.2.2.2.2.1.1 mw_126 dX1_begin_18 ?_
      refine J_iload_n C 0 dX1_begin_21 rfl rfl ?_
      refine J_tc C C.2.2.2.2.2.2.2.1.2.2.2.2.1.2 dX1_begin_22 h (fun h => ?_)
      refine J_goto (tgt := 27) C dX1_begin_23 (by decide) ?_
      refine J_lv [1, 2] rfl ?_
      exact s_X1_begin_27 C h
theorem c_X1_begin {l : Launch} {g : Gd} {a : Nat → Nat} {w : XW} {K : XW → Prop} {v1 : Int32} (h : P_X1_begin K w v1) : Kt l yX1_begin cX1_begin 4 none 0 0 g (sA 15 a) (xCl g a) [.ref (a 1), .int v1] w (QcV g (sA 15 a) (xCl g a) K) :=
  Kt_of (by decide +kernel) (Nat.le_of_ble_eq_true rfl) (fun x hx C => s_X1_begin C h)
theorem k_X1_begin {x : Mx} {g : Gd} {a : Nat → Nat} {cc : ByteArray} {nL : Nat} {own : String} {ret : Option FieldType} {F L : Nat} {Q : State → Prop} {w : XW} {pc : Nat} {lv : List (Nat × Value)} {st : List Value} (C : Cx x g (sA 15 a) (xCl g a) cc nL own ret F L) {index : Nat} {K : XW → Prop} {v1 : Int32} (h1 : Cond.methodLink own index yX1_begin ∈ gT) (hd : decode cc pc = .ok (.invokevirtual index, 3)) (hR : 0 + 1 ≤ F ∧ 8 + (4 + 11) + 0 ≤ L) (hst : (st.map fun v => v.category).sum ≤ 8) (h : P_X1_begin K w v1) (k : ∀  (w' : XW), K w' → J x g (sA 15 a) (xCl g a) nL Q w' (pc + 3) lv st) : J x g (sA 15 a) (xCl g a) nL Q w (pc) lv (.int v1 :: .ref (a 1) :: st) :=
  J_callVv C (As := [.int v1]) (b := a 1) (n := 1) (c_X1_begin h) h1 mw_124 mw_754 mw_2 mw_125 (by decide +kernel) hR rfl (rc_X1 C) hst hd k
-- X1_fail (changes, room 0 0)
def P_X1_fail (K : XW → Prop) (w : XW) (v1 : Int32) (v2 : Int32) : Prop := K (cu_faultSpot_s (cu_fault_s w v1) v2)
set_option maxRecDepth 10000 in
theorem s_X1_fail {x : Mx} {g : Gd} {a : Nat → Nat} (C : Cx x g (sA 15 a) (xCl g a) cX1_fail 3 RX1 none 0 0) {K : XW → Prop}  {w : XW} {v1 : Int32} {v2 : Int32} (h : P_X1_fail K w v1 v2) : J x g (sA 15 a) (xCl g a) 3 (JQ x (sA 15 a) (QcV g (sA 15 a) (xCl g a) K)) w 0 [(0, .ref (a 1)), (1, .int v1), (2, .int v2)] [] := by
  unfold P_X1_fail at h
  refine J_aload_n C 0 dX1_fail_0 rfl rfl ?_
  refine J_iload_n C 1 dX1_fail_1 rfl rfl ?_
  refine S_cu_fault C mw_35 dX1_fail_2 ?_
  refine J_aload_n C 0 dX1_fail_5 rfl rfl ?_
  refine J_iload_n C 2 dX1_fail_6 rfl rfl ?_
  refine S_cu_faultSpot C mw_37 dX1_fail_7 ?_
  exact J_vret C dX1_fail_10 h
theorem c_X1_fail {l : Launch} {g : Gd} {a : Nat → Nat} {w : XW} {K : XW → Prop} {v1 : Int32} {v2 : Int32} (h : P_X1_fail K w v1 v2) : Kt l yX1_fail cX1_fail 3 none 0 0 g (sA 15 a) (xCl g a) [.ref (a 1), .int v1, .int v2] w (QcV g (sA 15 a) (xCl g a) K) :=
  Kt_of (by decide +kernel) (Nat.le_of_ble_eq_true rfl) (fun x hx C => s_X1_fail C h)
theorem k_X1_fail {x : Mx} {g : Gd} {a : Nat → Nat} {cc : ByteArray} {nL : Nat} {own : String} {ret : Option FieldType} {F L : Nat} {Q : State → Prop} {w : XW} {pc : Nat} {lv : List (Nat × Value)} {st : List Value} (C : Cx x g (sA 15 a) (xCl g a) cc nL own ret F L) {index : Nat} {K : XW → Prop} {v1 : Int32} {v2 : Int32} (h1 : Cond.methodLink own index yX1_fail ∈ gT) (hd : decode cc pc = .ok (.invokevirtual index, 3)) (hR : 0 + 1 ≤ F ∧ 8 + (3 + 11) + 0 ≤ L) (hst : (st.map fun v => v.category).sum ≤ 8) (h : P_X1_fail K w v1 v2) (k : ∀  (w' : XW), K w' → J x g (sA 15 a) (xCl g a) nL Q w' (pc + 3) lv st) : J x g (sA 15 a) (xCl g a) nL Q w (pc) lv (.int v2 :: .int v1 :: .ref (a 1) :: st) :=
  J_callVv C (As := [.int v1, .int v2]) (b := a 1) (n := 2) (c_X1_fail h) h1 mw_134 mw_756 mw_2 mw_135 (by decide +kernel) hR rfl (rc_X1 C) hst hd k
-- X1_openCell (changes, room 1 22)
def P_X1_openCell_94 (K : XW → Prop) (w : XW) (v1 : Int32) : Prop := vp_in (cu_cells w) 961 ∧ (K (cu_phase_s (cu_cellSpot_s (cu_cells_s (cu_cellStart_s w (upd (cu_cellStart w) (cu_cells w).toNatClampNeg (cu_heldSize w))) ((cu_cells (cu_cellStart_s w (upd (cu_cellStart w) (cu_cells w).toNatClampNeg (cu_heldSize w)))) + (1 : Int32))) v1) (1 : Int32)))
set_option maxRecDepth 10000 in
theorem s_X1_openCell_94 {x : Mx} {g : Gd} {a : Nat → Nat} (C : Cx x g (sA 15 a) (xCl g a) cX1_openCell 4 RX1 none 1 22) {K : XW → Prop}  {v1 : Int32} {w : XW} (h : P_X1_openCell_94 K w v1) : J x g (sA 15 a) (xCl g a) 4 (JQ x (sA 15 a) (QcV g (sA 15 a) (xCl g a) K)) w 94 [(0, .ref (a 1)), (1, .int v1)] [] := by
  unfold P_X1_openCell_94 at h
  refine J_aload_n C 0 dX1_openCell_94 rfl rfl ?_
  refine G_cu_cellStart C mw_28 dX1_openCell_95 ?_
  refine J_aload_n C 0 dX1_openCell_98 rfl rfl ?_
  refine G_cu_cells C mw_31 dX1_openCell_99 ?_
  refine J_aload_n C 0 dX1_openCell_102 rfl rfl ?_
  refine G_cu_heldSize C mw_30 dX1_openCell_103 ?_
  refine U_cu_cellStart C dX1_openCell_106 h (fun h => ?_)
  refine J_aload_n C 0 dX1_openCell_107 rfl rfl ?_
  refine J_dup C dX1_openCell_108 rfl ?_
  refine G_cu_cells C mw_31 dX1_openCell_109 ?_
  refine J_iconst (v := (1 : Int32)) C dX1_openCell_112 (by decide) ?_
  refine J_iadd C dX1_openCell_113 ?_
  refine S_cu_cells C mw_31 dX1_openCell_114 ?_
  refine J_aload_n C 0 dX1_openCell_117 rfl rfl ?_
  refine J_iload_n C 1 dX1_openCell_118 rfl rfl ?_
  refine S_cu_cellSpot C mw_43 dX1_openCell_119 ?_
  refine J_aload_n C 0 dX1_openCell_122 rfl rfl ?_
  refine J_iconst (v := (1 : Int32)) C dX1_openCell_123 (by decide) ?_
  refine S_cu_phase C mw_42 dX1_openCell_124 ?_
  exact J_vret C dX1_openCell_127 h
def P_X1_openCell_55 (K : XW → Prop) (w : XW) (v1 : Int32) (v2 : Int32) (s0 : Int32) : Prop := (s0 = 0 → (v2 = 0 → P_X1_openCell_94 K w v1) ∧ (¬ v2 = 0 → vp_in (cu_rows w) 81 ∧ (P_X1_openCell_94 K (cu_rows_s (cu_rowStart_s w (upd (cu_rowStart w) (cu_rows w).toNatClampNeg (cu_cells w))) ((cu_rows (cu_rowStart_s w (upd (cu_rowStart w) (cu_rows w).toNatClampNeg (cu_cells w)))) + (1 : Int32))) v1))) ∧ (¬ s0 = 0 → P_X1_fail (fun w_1 => K w_1) w (3 : Int32) v1)
set_option maxRecDepth 10000 in
theorem s_X1_openCell_55 {x : Mx} {g : Gd} {a : Nat → Nat} (C : Cx x g (sA 15 a) (xCl g a) cX1_openCell 4 RX1 none 1 22) {K : XW → Prop}  {v1 : Int32} {v2 : Int32} {s0 : Int32} {w : XW} (h : P_X1_openCell_55 K w v1 v2 s0) : J x g (sA 15 a) (xCl g a) 4 (JQ x (sA 15 a) (QcV g (sA 15 a) (xCl g a) K)) w 55 [(0, .ref (a 1)), (1, .int v1), (2, .int v2)] [.int s0] := by
  unfold P_X1_openCell_55 at h
  refine J_istore_n C [(3, .int s0), (0, .ref (a 1)), (1, .int v1), (2, .int v2)] dX1_openCell_55 rfl (by decide) rfl ?_
  refine J_iload_n C 0 dX1_openCell_56 rfl rfl ?_
  refine J_if_eq (tgt := 67) C dX1_openCell_57 (by decide) h (fun h => ?_) (fun h => ?_)
  · refine J_iload_n C 3 dX1_openCell_67 rfl rfl ?_
    refine J_if_eq (tgt := 94) C dX1_openCell_68 (by decide) h (fun h => ?_) (fun h => ?_)
    · refine J_lv [1, 2] rfl ?_
      exact s_X1_openCell_94 C h
    · refine J_aload_n C 1 dX1_openCell_71 rfl rfl ?_
      refine G_cu_rowStart C mw_29 dX1_openCell_72 ?_
      refine J_aload_n C 1 dX1_openCell_75 rfl rfl ?_
      refine G_cu_rows C mw_32 dX1_openCell_76 ?_
      refine J_aload_n C 1 dX1_openCell_79 rfl rfl ?_
      refine G_cu_cells C mw_31 dX1_openCell_80 ?_
      refine U_cu_rowStart C dX1_openCell_83 h (fun h => ?_)
      refine J_aload_n C 1 dX1_openCell_84 rfl rfl ?_
      refine J_dup C dX1_openCell_85 rfl ?_
      refine G_cu_rows C mw_32 dX1_openCell_86 ?_
      refine J_iconst (v := (1 : Int32)) C dX1_openCell_89 (by decide) ?_
      refine J_iadd C dX1_openCell_90 ?_
      refine S_cu_rows C mw_32 dX1_openCell_91 ?_
      refine J_lv [1, 2] rfl ?_
      exact s_X1_openCell_94 C h
  · refine J_aload_n C 1 dX1_openCell_60 rfl rfl ?_
    refine J_iconst (v := (3 : Int32)) C dX1_openCell_61 (by decide) ?_
    refine J_iload_n C 2 dX1_openCell_62 rfl rfl ?_
    refine k_X1_fail C mw_133 dX1_openCell_63 ⟨Nat.le_of_ble_eq_true rfl, Nat.le_of_ble_eq_true rfl⟩ (Nat.le_of_ble_eq_true rfl) h (fun w_1 h => ?_)
    exact J_vret C dX1_openCell_66 h
def P_X1_openCell_50 (K : XW → Prop) (w : XW) (v1 : Int32) (v2 : Int32) : Prop := P_X1_openCell_55 K w v1 v2 (1 : Int32)
set_option maxRecDepth 10000 in
theorem s_X1_openCell_50 {x : Mx} {g : Gd} {a : Nat → Nat} (C : Cx x g (sA 15 a) (xCl g a) cX1_openCell 4 RX1 none 1 22) {K : XW → Prop}  {v1 : Int32} {v2 : Int32} {w : XW} (h : P_X1_openCell_50 K w v1 v2) : J x g (sA 15 a) (xCl g a) 4 (JQ x (sA 15 a) (QcV g (sA 15 a) (xCl g a) K)) w 50 [(0, .ref (a 1)), (1, .int v1), (2, .int v2)] [] := by
  unfold P_X1_openCell_50 at h
  refine J_iconst (v := (1 : Int32)) C dX1_openCell_50 (by decide) ?_
  refine J_goto (tgt := 55) C dX1_openCell_51 (by decide) ?_
  refine J_lv [0, 1, 2] rfl ?_
  exact s_X1_openCell_55 C h
def P_X1_openCell (K : XW → Prop) (w : XW) (v1 : Int32) (v2 : Int32) : Prop := (v2 = 0 → ((cu_rows w) < (1 : Int32) → P_X1_openCell_50 K w v1 v2) ∧ (¬ (cu_rows w) < (1 : Int32) → vp_in ((cu_rows w) - (1 : Int32)) 81 ∧ ((((cu_cells w) - (cu_rowStart w ((cu_rows w) - (1 : Int32)).toNatClampNeg)) < (12 : Int32) → P_X1_openCell_55 K w v1 v2 (0 : Int32)) ∧ (¬ ((cu_cells w) - (cu_rowStart w ((cu_rows w) - (1 : Int32)).toNatClampNeg)) < (12 : Int32) → P_X1_openCell_50 K w v1 v2)))) ∧ (¬ v2 = 0 → ((cu_rows w) < (80 : Int32) → P_X1_openCell_55 K w v1 v2 (0 : Int32)) ∧ (¬ (cu_rows w) < (80 : Int32) → P_X1_openCell_55 K w v1 v2 (1 : Int32)))
set_option maxRecDepth 10000 in
theorem s_X1_openCell {x : Mx} {g : Gd} {a : Nat → Nat} (C : Cx x g (sA 15 a) (xCl g a) cX1_openCell 4 RX1 none 1 22) {K : XW → Prop}  {w : XW} {v1 : Int32} {v2 : Int32} (h : P_X1_openCell K w v1 v2) : J x g (sA 15 a) (xCl g a) 4 (JQ x (sA 15 a) (QcV g (sA 15 a) (xCl g a) K)) w 0 [(0, .ref (a 1)), (1, .int v1), (2, .int v2)] [] := by
  unfold P_X1_openCell at h
  refine J_iload_n C 2 dX1_openCell_0 rfl rfl ?_
  refine J_if_eq (tgt := 21) C dX1_openCell_1 (by decide) h (fun h => ?_) (fun h => ?_)
  · refine J_aload_n C 0 dX1_openCell_21 rfl rfl ?_
    refine G_cu_rows C mw_32 dX1_openCell_22 ?_
    refine J_iconst (v := (1 : Int32)) C dX1_openCell_25 (by decide) ?_
    refine J_icmp_lt (tgt := 50) C dX1_openCell_26 (by decide) h (fun h => ?_) (fun h => ?_)
    · refine J_lv [0, 1, 2] rfl ?_
      exact s_X1_openCell_50 C h
    · refine J_aload_n C 0 dX1_openCell_29 rfl rfl ?_
      refine G_cu_cells C mw_31 dX1_openCell_30 ?_
      refine J_aload_n C 0 dX1_openCell_33 rfl rfl ?_
      refine G_cu_rowStart C mw_29 dX1_openCell_34 ?_
      refine J_aload_n C 0 dX1_openCell_37 rfl rfl ?_
      refine G_cu_rows C mw_32 dX1_openCell_38 ?_
      refine J_iconst (v := (1 : Int32)) C dX1_openCell_41 (by decide) ?_
      refine J_isub C dX1_openCell_42 ?_
      refine L_cu_rowStart C dX1_openCell_43 h (fun h => ?_)
      refine J_isub C dX1_openCell_44 ?_
      refine J_bipush (v := (12 : Int32)) C dX1_openCell_45 (by decide) ?_
      refine J_icmp_lt (tgt := 54) C dX1_openCell_47 (by decide) h (fun h => ?_) (fun h => ?_)
      · refine J_iconst (v := (0 : Int32)) C dX1_openCell_54 (by decide) ?_
        refine J_lv [0, 1, 2] rfl ?_
        exact s_X1_openCell_55 C h
      · refine J_lv [0, 1, 2] rfl ?_
        exact s_X1_openCell_50 C h
  · refine J_aload_n C 0 dX1_openCell_4 rfl rfl ?_
    refine G_cu_rows C mw_32 dX1_openCell_5 ?_
    refine J_bipush (v := (80 : Int32)) C dX1_openCell_8 (by decide) ?_
    refine J_icmp_lt (tgt := 17) C dX1_openCell_10 (by decide) h (fun h => ?_) (fun h => ?_)
    · refine J_iconst (v := (0 : Int32)) C dX1_openCell_17 (by decide) ?_
      refine J_goto (tgt := 55) C dX1_openCell_18 (by decide) ?_
      refine J_lv [0, 1, 2] rfl ?_
      exact s_X1_openCell_55 C h
    · refine J_iconst (v := (1 : Int32)) C dX1_openCell_13 (by decide) ?_
      refine J_goto (tgt := 55) C dX1_openCell_14 (by decide) ?_
      refine J_lv [0, 1, 2] rfl ?_
      exact s_X1_openCell_55 C h
theorem c_X1_openCell {l : Launch} {g : Gd} {a : Nat → Nat} {w : XW} {K : XW → Prop} {v1 : Int32} {v2 : Int32} (h : P_X1_openCell K w v1 v2) : Kt l yX1_openCell cX1_openCell 4 none 1 22 g (sA 15 a) (xCl g a) [.ref (a 1), .int v1, .int v2] w (QcV g (sA 15 a) (xCl g a) K) :=
  Kt_of (by decide +kernel) (Nat.le_of_ble_eq_true rfl) (fun x hx C => s_X1_openCell C h)
theorem k_X1_openCell {x : Mx} {g : Gd} {a : Nat → Nat} {cc : ByteArray} {nL : Nat} {own : String} {ret : Option FieldType} {F L : Nat} {Q : State → Prop} {w : XW} {pc : Nat} {lv : List (Nat × Value)} {st : List Value} (C : Cx x g (sA 15 a) (xCl g a) cc nL own ret F L) {index : Nat} {K : XW → Prop} {v1 : Int32} {v2 : Int32} (h1 : Cond.methodLink own index yX1_openCell ∈ gT) (hd : decode cc pc = .ok (.invokevirtual index, 3)) (hR : 1 + 1 ≤ F ∧ 8 + (4 + 11) + 22 ≤ L) (hst : (st.map fun v => v.category).sum ≤ 8) (h : P_X1_openCell K w v1 v2) (k : ∀  (w' : XW), K w' → J x g (sA 15 a) (xCl g a) nL Q w' (pc + 3) lv st) : J x g (sA 15 a) (xCl g a) nL Q w (pc) lv (.int v2 :: .int v1 :: .ref (a 1) :: st) :=
  J_callVv C (As := [.int v1, .int v2]) (b := a 1) (n := 2) (c_X1_openCell h) h1 mw_131 mw_755 mw_2 mw_132 (by decide +kernel) hR rfl (rc_X1 C) hst hd k
-- X1_hold (changes, room 0 0)
def P_X1_hold (K : XW → Prop) (w : XW) (v1 : Int32) : Prop := ((1200 : Int32) ≤ (cu_heldSize w) → K w) ∧ (¬ (1200 : Int32) ≤ (cu_heldSize w) → vp_in (cu_heldSize w) 1200 ∧ (K (cu_heldSize_s (cu_held_s w (upd (cu_held w) (cu_heldSize w).toNatClampNeg v1)) ((cu_heldSize (cu_held_s w (upd (cu_held w) (cu_heldSize w).toNatClampNeg v1))) + (1 : Int32)))))
set_option maxRecDepth 10000 in
theorem s_X1_hold {x : Mx} {g : Gd} {a : Nat → Nat} (C : Cx x g (sA 15 a) (xCl g a) cX1_hold 2 RX1 none 0 0) {K : XW → Prop}  {w : XW} {v1 : Int32} (h : P_X1_hold K w v1) : J x g (sA 15 a) (xCl g a) 2 (JQ x (sA 15 a) (QcV g (sA 15 a) (xCl g a) K)) w 0 [(0, .ref (a 1)), (1, .int v1)] [] := by
  unfold P_X1_hold at h
  refine J_aload_n C 0 dX1_hold_0 rfl rfl ?_
  refine G_cu_heldSize C mw_30 dX1_hold_1 ?_
  refine J_aload_n C 0 dX1_hold_4 rfl rfl ?_
  refine G_cu_held C mw_27 dX1_hold_5 ?_
  refine N_cu_held C dX1_hold_8 ?_
  refine J_icmp_ge (tgt := 32) C dX1_hold_9 (by decide) h (fun h => ?_) (fun h => ?_)
  · exact J_vret C dX1_hold_32 h
  · refine J_aload_n C 0 dX1_hold_12 rfl rfl ?_
    refine G_cu_held C mw_27 dX1_hold_13 ?_
    refine J_aload_n C 0 dX1_hold_16 rfl rfl ?_
    refine G_cu_heldSize C mw_30 dX1_hold_17 ?_
    refine J_iload_n C 1 dX1_hold_20 rfl rfl ?_
    refine U_cu_held C dX1_hold_21 h (fun h => ?_)
    refine J_aload_n C 0 dX1_hold_22 rfl rfl ?_
    refine J_dup C dX1_hold_23 rfl ?_
    refine G_cu_heldSize C mw_30 dX1_hold_24 ?_
    refine J_iconst (v := (1 : Int32)) C dX1_hold_27 (by decide) ?_
    refine J_iadd C dX1_hold_28 ?_
    refine S_cu_heldSize C mw_30 dX1_hold_29 ?_
    exact J_vret C dX1_hold_32 h
theorem c_X1_hold {l : Launch} {g : Gd} {a : Nat → Nat} {w : XW} {K : XW → Prop} {v1 : Int32} (h : P_X1_hold K w v1) : Kt l yX1_hold cX1_hold 2 none 0 0 g (sA 15 a) (xCl g a) [.ref (a 1), .int v1] w (QcV g (sA 15 a) (xCl g a) K) :=
  Kt_of (by decide +kernel) (Nat.le_of_ble_eq_true rfl) (fun x hx C => s_X1_hold C h)
theorem k_X1_hold {x : Mx} {g : Gd} {a : Nat → Nat} {cc : ByteArray} {nL : Nat} {own : String} {ret : Option FieldType} {F L : Nat} {Q : State → Prop} {w : XW} {pc : Nat} {lv : List (Nat × Value)} {st : List Value} (C : Cx x g (sA 15 a) (xCl g a) cc nL own ret F L) {index : Nat} {K : XW → Prop} {v1 : Int32} (h1 : Cond.methodLink own index yX1_hold ∈ gT) (hd : decode cc pc = .ok (.invokevirtual index, 3)) (hR : 0 + 1 ≤ F ∧ 8 + (2 + 11) + 0 ≤ L) (hst : (st.map fun v => v.category).sum ≤ 8) (h : P_X1_hold K w v1) (k : ∀  (w' : XW), K w' → J x g (sA 15 a) (xCl g a) nL Q w' (pc + 3) lv st) : J x g (sA 15 a) (xCl g a) nL Q w (pc) lv (.int v1 :: .ref (a 1) :: st) :=
  J_callVv C (As := [.int v1]) (b := a 1) (n := 1) (c_X1_hold h) h1 mw_140 mw_758 mw_2 mw_141 (by decide +kernel) hR rfl (rc_X1 C) hst hd k
-- X1_take (changes, room 2 45)
def P_X1_take_147 (K : XW → Prop) (w : XW) (v1 : Int32) : Prop := P_X1_hold (fun w_1 => K w_1) (cu_phase_s w (2 : Int32)) v1
set_option maxRecDepth 10000 in
theorem s_X1_take_147 {x : Mx} {g : Gd} {a : Nat → Nat} (C : Cx x g (sA 15 a) (xCl g a) cX1_take 4 RX1 none 2 45) {K : XW → Prop}  {v1 : Int32} {w : XW} (h : P_X1_take_147 K w v1) : J x g (sA 15 a) (xCl g a) 4 (JQ x (sA 15 a) (QcV g (sA 15 a) (xCl g a) K)) w 147 [(0, .ref (a 1)), (1, .int v1)] [] := by
  unfold P_X1_take_147 at h
  refine J_aload_n C 0 dX1_take_147 rfl rfl ?_
  refine J_iconst (v := (2 : Int32)) C dX1_take_148 (by decide) ?_
  refine S_cu_phase C mw_42 dX1_take_149 ?_
  refine J_aload_n C 0 dX1_take_152 rfl rfl ?_
  refine J_iload_n C 1 dX1_take_153 rfl rfl ?_
  refine k_X1_hold C mw_139 dX1_take_154 ⟨Nat.le_of_ble_eq_true rfl, Nat.le_of_ble_eq_true rfl⟩ (Nat.le_of_ble_eq_true rfl) h (fun w_1 h => ?_)
  exact J_vret C dX1_take_157 h
def P_X1_take_61 (K : XW → Prop) (w : XW) (v1 : Int32) (v2 : Int32) (v3 : Int32) : Prop := (¬ v1 = (cu_mark w) → (¬ v1 = (10 : Int32) → (¬ (cu_phase w) = (4 : Int32) → (¬ (cu_phase w) = (1 : Int32) → P_X1_take_147 K w v1) ∧ ((cu_phase w) = (1 : Int32) → (¬ v1 = (cu_quote w) → P_X1_take_147 K w v1) ∧ (v1 = (cu_quote w) → K (cu_phase_s w (3 : Int32))))) ∧ ((cu_phase w) = (4 : Int32) → P_X1_fail (fun w_2 => K w_2) w (2 : Int32) v2)) ∧ (v1 = (10 : Int32) → (¬ v3 = 0 → K (cu_phase_s w (0 : Int32))) ∧ (v3 = 0 → P_X1_openCell (fun w_3 => K w_3) (cu_phase_s w (0 : Int32)) (v2 + (1 : Int32)) (1 : Int32)))) ∧ (v1 = (cu_mark w) → P_X1_openCell (fun w_4 => K w_4) w (v2 + (1 : Int32)) (0 : Int32))
set_option maxRecDepth 10000 in
theorem s_X1_take_61 {x : Mx} {g : Gd} {a : Nat → Nat} (C : Cx x g (sA 15 a) (xCl g a) cX1_take 4 RX1 none 2 45) {K : XW → Prop}  {v1 : Int32} {v2 : Int32} {v3 : Int32} {w : XW} (h : P_X1_take_61 K w v1 v2 v3) : J x g (sA 15 a) (xCl g a) 4 (JQ x (sA 15 a) (QcV g (sA 15 a) (xCl g a) K)) w 61 [(0, .ref (a 1)), (1, .int v1), (2, .int v2), (3, .int v3)] [] := by
  unfold P_X1_take_61 at h
  refine J_iload_n C 1 dX1_take_61 rfl rfl ?_
  refine J_aload_n C 0 dX1_take_62 rfl rfl ?_
  refine G_cu_mark C mw_39 dX1_take_63 ?_
  refine J_icmp_ne (tgt := 80) C dX1_take_66 (by decide) h (fun h => ?_) (fun h => ?_)
  · refine J_iload_n C 1 dX1_take_80 rfl rfl ?_
    refine J_bipush (v := (10 : Int32)) C dX1_take_81 (by decide) ?_
    refine J_icmp_ne (tgt := 106) C dX1_take_83 (by decide) h (fun h => ?_) (fun h => ?_)
    · refine J_aload_n C 0 dX1_take_106 rfl rfl ?_
      refine G_cu_phase C mw_42 dX1_take_107 ?_
      refine J_iconst (v := (4 : Int32)) C dX1_take_110 (by decide) ?_
      refine J_icmp_ne (tgt := 123) C dX1_take_111 (by decide) h (fun h => ?_) (fun h => ?_)
      · refine J_aload_n C 0 dX1_take_123 rfl rfl ?_
        refine G_cu_phase C mw_42 dX1_take_124 ?_
        refine J_iconst (v := (1 : Int32)) C dX1_take_127 (by decide) ?_
        refine J_icmp_ne (tgt := 147) C dX1_take_128 (by decide) h (fun h => ?_) (fun h => ?_)
        · refine J_lv [0, 1] rfl ?_
          exact s_X1_take_147 C h
        · refine J_iload_n C 1 dX1_take_131 rfl rfl ?_
          refine J_aload_n C 0 dX1_take_132 rfl rfl ?_
          refine G_cu_quote C mw_40 dX1_take_133 ?_
          refine J_icmp_ne (tgt := 147) C dX1_take_136 (by decide) h (fun h => ?_) (fun h => ?_)
          · refine J_lv [0, 1] rfl ?_
            exact s_X1_take_147 C h
          · refine J_aload_n C 0 dX1_take_139 rfl rfl ?_
            refine J_iconst (v := (3 : Int32)) C dX1_take_140 (by decide) ?_
            refine S_cu_phase C mw_42 dX1_take_141 ?_
            refine J_goto (tgt := 157) C dX1_take_144 (by decide) ?_
            exact J_vret C dX1_take_157 h
      · refine J_aload_n C 0 dX1_take_114 rfl rfl ?_
        refine J_iconst (v := (2 : Int32)) C dX1_take_115 (by decide) ?_
        refine J_iload_n C 2 dX1_take_116 rfl rfl ?_
        refine k_X1_fail C mw_133 dX1_take_117 ⟨Nat.le_of_ble_eq_true rfl, Nat.le_of_ble_eq_true rfl⟩ (Nat.le_of_ble_eq_true rfl) h (fun w_2 h => ?_)
        refine J_goto (tgt := 157) C dX1_take_120 (by decide) ?_
        exact J_vret C dX1_take_157 h
    · refine J_aload_n C 0 dX1_take_86 rfl rfl ?_
      refine J_iconst (v := (0 : Int32)) C dX1_take_87 (by decide) ?_
      refine S_cu_phase C mw_42 dX1_take_88 ?_
      refine J_iload_n C 3 dX1_take_91 rfl rfl ?_
      refine J_if_ne (tgt := 157) C dX1_take_92 (by decide) h (fun h => ?_) (fun h => ?_)
      · exact J_vret C dX1_take_157 h
      · refine J_aload_n C 0 dX1_take_95 rfl rfl ?_
        refine J_iload_n C 2 dX1_take_96 rfl rfl ?_
        refine J_iconst (v := (1 : Int32)) C dX1_take_97 (by decide) ?_
        refine J_iadd C dX1_take_98 ?_
        refine J_iconst (v := (1 : Int32)) C dX1_take_99 (by decide) ?_
        refine k_X1_openCell C mw_130 dX1_take_100 ⟨Nat.le_of_ble_eq_true rfl, Nat.le_of_ble_eq_true rfl⟩ (Nat.le_of_ble_eq_true rfl) h (fun w_3 h => ?_)
        refine J_goto (tgt := 157) C dX1_take_103 (by decide) ?_
        exact J_vret C dX1_take_157 h
  · refine J_aload_n C 0 dX1_take_69 rfl rfl ?_
    refine J_iload_n C 2 dX1_take_70 rfl rfl ?_
    refine J_iconst (v := (1 : Int32)) C dX1_take_71 (by decide) ?_
    refine J_iadd C dX1_take_72 ?_
    refine J_iconst (v := (0 : Int32)) C dX1_take_73 (by decide) ?_
    refine k_X1_openCell C mw_130 dX1_take_74 ⟨Nat.le_of_ble_eq_true rfl, Nat.le_of_ble_eq_true rfl⟩ (Nat.le_of_ble_eq_true rfl) h (fun w_4 h => ?_)
    refine J_goto (tgt := 157) C dX1_take_77 (by decide) ?_
    exact J_vret C dX1_take_157 h
def P_X1_take (K : XW → Prop) (w : XW) (v1 : Int32) (v2 : Int32) (v3 : Int32) : Prop := (¬ (cu_phase w) = (3 : Int32) → (¬ (cu_phase w) = (4 : Int32) → P_X1_take_61 K w v1 v2 v3) ∧ ((cu_phase w) = (4 : Int32) → (¬ v1 = (cu_quote w) → P_X1_take_61 K w v1 v2 v3) ∧ (v1 = (cu_quote w) → P_X1_hold (fun w_5 => K w_5) (cu_phase_s w (3 : Int32)) v1))) ∧ ((cu_phase w) = (3 : Int32) → (¬ v1 = (cu_quote w) → P_X1_hold (fun w_6 => K w_6) w v1) ∧ (v1 = (cu_quote w) → K (cu_phase_s w (4 : Int32))))
set_option maxRecDepth 10000 in
theorem s_X1_take {x : Mx} {g : Gd} {a : Nat → Nat} (C : Cx x g (sA 15 a) (xCl g a) cX1_take 4 RX1 none 2 45) {K : XW → Prop}  {w : XW} {v1 : Int32} {v2 : Int32} {v3 : Int32} (h : P_X1_take K w v1 v2 v3) : J x g (sA 15 a) (xCl g a) 4 (JQ x (sA 15 a) (QcV g (sA 15 a) (xCl g a) K)) w 0 [(0, .ref (a 1)), (1, .int v1), (2, .int v2), (3, .int v3)] [] := by
  unfold P_X1_take at h
  refine J_aload_n C 0 dX1_take_0 rfl rfl ?_
  refine G_cu_phase C mw_42 dX1_take_1 ?_
  refine J_iconst (v := (3 : Int32)) C dX1_take_4 (by decide) ?_
  refine J_icmp_ne (tgt := 32) C dX1_take_5 (by decide) h (fun h => ?_) (fun h => ?_)
  · refine J_aload_n C 0 dX1_take_32 rfl rfl ?_
    refine G_cu_phase C mw_42 dX1_take_33 ?_
    refine J_iconst (v := (4 : Int32)) C dX1_take_36 (by decide) ?_
    refine J_icmp_ne (tgt := 61) C dX1_take_37 (by decide) h (fun h => ?_) (fun h => ?_)
    · refine J_lv [0, 1, 2, 3] rfl ?_
      exact s_X1_take_61 C h
    · refine J_iload_n C 1 dX1_take_40 rfl rfl ?_
      refine J_aload_n C 0 dX1_take_41 rfl rfl ?_
      refine G_cu_quote C mw_40 dX1_take_42 ?_
      refine J_icmp_ne (tgt := 61) C dX1_take_45 (by decide) h (fun h => ?_) (fun h => ?_)
      · refine J_lv [0, 1, 2, 3] rfl ?_
        exact s_X1_take_61 C h
      · refine J_aload_n C 0 dX1_take_48 rfl rfl ?_
        refine J_iconst (v := (3 : Int32)) C dX1_take_49 (by decide) ?_
        refine S_cu_phase C mw_42 dX1_take_50 ?_
        refine J_aload_n C 0 dX1_take_53 rfl rfl ?_
        refine J_iload_n C 1 dX1_take_54 rfl rfl ?_
        refine k_X1_hold C mw_139 dX1_take_55 ⟨Nat.le_of_ble_eq_true rfl, Nat.le_of_ble_eq_true rfl⟩ (Nat.le_of_ble_eq_true rfl) h (fun w_5 h => ?_)
        refine J_goto (tgt := 157) C dX1_take_58 (by decide) ?_
        exact J_vret C dX1_take_157 h
  · refine J_iload_n C 1 dX1_take_8 rfl rfl ?_
    refine J_aload_n C 0 dX1_take_9 rfl rfl ?_
    refine G_cu_quote C mw_40 dX1_take_10 ?_
    refine J_icmp_ne (tgt := 24) C dX1_take_13 (by decide) h (fun h => ?_) (fun h => ?_)
    · refine J_aload_n C 0 dX1_take_24 rfl rfl ?_
      refine J_iload_n C 1 dX1_take_25 rfl rfl ?_
      refine k_X1_hold C mw_139 dX1_take_26 ⟨Nat.le_of_ble_eq_true rfl, Nat.le_of_ble_eq_true rfl⟩ (Nat.le_of_ble_eq_true rfl) h (fun w_6 h => ?_)
      refine J_goto (tgt := 157) C dX1_take_29 (by decide) ?_
      exact J_vret C dX1_take_157 h
    · refine J_aload_n C 0 dX1_take_16 rfl rfl ?_
      refine J_iconst (v := (4 : Int32)) C dX1_take_17 (by decide) ?_
      refine S_cu_phase C mw_42 dX1_take_18 ?_
      refine J_goto (tgt := 157) C dX1_take_21 (by decide) ?_
      exact J_vret C dX1_take_157 h
theorem c_X1_take {l : Launch} {g : Gd} {a : Nat → Nat} {w : XW} {K : XW → Prop} {v1 : Int32} {v2 : Int32} {v3 : Int32} (h : P_X1_take K w v1 v2 v3) : Kt l yX1_take cX1_take 4 none 2 45 g (sA 15 a) (xCl g a) [.ref (a 1), .int v1, .int v2, .int v3] w (QcV g (sA 15 a) (xCl g a) K) :=
  Kt_of (by decide +kernel) (Nat.le_of_ble_eq_true rfl) (fun x hx C => s_X1_take C h)
theorem k_X1_take {x : Mx} {g : Gd} {a : Nat → Nat} {cc : ByteArray} {nL : Nat} {own : String} {ret : Option FieldType} {F L : Nat} {Q : State → Prop} {w : XW} {pc : Nat} {lv : List (Nat × Value)} {st : List Value} (C : Cx x g (sA 15 a) (xCl g a) cc nL own ret F L) {index : Nat} {K : XW → Prop} {v1 : Int32} {v2 : Int32} {v3 : Int32} (h1 : Cond.methodLink own index yX1_take ∈ gT) (hd : decode cc pc = .ok (.invokevirtual index, 3)) (hR : 2 + 1 ≤ F ∧ 8 + (4 + 11) + 45 ≤ L) (hst : (st.map fun v => v.category).sum ≤ 8) (h : P_X1_take K w v1 v2 v3) (k : ∀  (w' : XW), K w' → J x g (sA 15 a) (xCl g a) nL Q w' (pc + 3) lv st) : J x g (sA 15 a) (xCl g a) nL Q w (pc) lv (.int v3 :: .int v2 :: .int v1 :: .ref (a 1) :: st) :=
  J_callVv C (As := [.int v1, .int v2, .int v3]) (b := a 1) (n := 3) (c_X1_take h) h1 mw_137 mw_757 mw_2 mw_138 (by decide +kernel) hR rfl (rc_X1 C) hst hd k
-- X1_finish (changes, room 1 22)
def P_X1_finish_46 (K : XW → Prop) (w : XW) : Prop := vp_in (cu_rows w) 81 ∧ (vp_in (cu_cells (cu_rowStart_s w (upd (cu_rowStart w) (cu_rows w).toNatClampNeg (cu_cells w)))) 961 ∧ (K (cu_cellStart_s (cu_rowStart_s w (upd (cu_rowStart w) (cu_rows w).toNatClampNeg (cu_cells w))) (upd (cu_cellStart (cu_rowStart_s w (upd (cu_rowStart w) (cu_rows w).toNatClampNeg (cu_cells w)))) (cu_cells (cu_rowStart_s w (upd (cu_rowStart w) (cu_rows w).toNatClampNeg (cu_cells w)))).toNatClampNeg (cu_heldSize (cu_rowStart_s w (upd (cu_rowStart w) (cu_rows w).toNatClampNeg (cu_cells w))))))))
set_option maxRecDepth 10000 in
theorem s_X1_finish_46 {x : Mx} {g : Gd} {a : Nat → Nat} (C : Cx x g (sA 15 a) (xCl g a) cX1_finish 1 RX1 none 1 22) {K : XW → Prop}  {w : XW} (h : P_X1_finish_46 K w) : J x g (sA 15 a) (xCl g a) 1 (JQ x (sA 15 a) (QcV g (sA 15 a) (xCl g a) K)) w 46 [(0, .ref (a 1))] [] := by
  unfold P_X1_finish_46 at h
  refine J_aload_n C 0 dX1_finish_46 rfl rfl ?_
  refine G_cu_rowStart C mw_29 dX1_finish_47 ?_
  refine J_aload_n C 0 dX1_finish_50 rfl rfl ?_
  refine G_cu_rows C mw_32 dX1_finish_51 ?_
  refine J_aload_n C 0 dX1_finish_54 rfl rfl ?_
  refine G_cu_cells C mw_31 dX1_finish_55 ?_
  refine U_cu_rowStart C dX1_finish_58 h (fun h => ?_)
  refine J_aload_n C 0 dX1_finish_59 rfl rfl ?_
  refine G_cu_cellStart C mw_28 dX1_finish_60 ?_
  refine J_aload_n C 0 dX1_finish_63 rfl rfl ?_
  refine G_cu_cells C mw_31 dX1_finish_64 ?_
  refine J_aload_n C 0 dX1_finish_67 rfl rfl ?_
  refine G_cu_heldSize C mw_30 dX1_finish_68 ?_
  refine U_cu_cellStart C dX1_finish_71 h (fun h => ?_)
  exact J_vret C dX1_finish_72 h
def P_X1_finish_24 (K : XW → Prop) (w : XW) : Prop := ((cu_fault w) = 0 → P_X1_finish_46 K w) ∧ (¬ (cu_fault w) = 0 → P_X1_finish_46 K (cu_heldSize_s (cu_cells_s (cu_rows_s w (0 : Int32)) (0 : Int32)) (0 : Int32)))
set_option maxRecDepth 10000 in
theorem s_X1_finish_24 {x : Mx} {g : Gd} {a : Nat → Nat} (C : Cx x g (sA 15 a) (xCl g a) cX1_finish 1 RX1 none 1 22) {K : XW → Prop}  {w : XW} (h : P_X1_finish_24 K w) : J x g (sA 15 a) (xCl g a) 1 (JQ x (sA 15 a) (QcV g (sA 15 a) (xCl g a) K)) w 24 [(0, .ref (a 1))] [] := by
  unfold P_X1_finish_24 at h
  refine J_aload_n C 0 dX1_finish_24 rfl rfl ?_
  refine G_cu_fault C mw_35 dX1_finish_25 ?_
  refine J_if_eq (tgt := 46) C dX1_finish_28 (by decide) h (fun h => ?_) (fun h => ?_)
  · refine J_lv [0] rfl ?_
    exact s_X1_finish_46 C h
  · refine J_aload_n C 0 dX1_finish_31 rfl rfl ?_
    refine J_iconst (v := (0 : Int32)) C dX1_finish_32 (by decide) ?_
    refine S_cu_rows C mw_32 dX1_finish_33 ?_
    refine J_aload_n C 0 dX1_finish_36 rfl rfl ?_
    refine J_iconst (v := (0 : Int32)) C dX1_finish_37 (by decide) ?_
    refine S_cu_cells C mw_31 dX1_finish_38 ?_
    refine J_aload_n C 0 dX1_finish_41 rfl rfl ?_
    refine J_iconst (v := (0 : Int32)) C dX1_finish_42 (by decide) ?_
    refine S_cu_heldSize C mw_30 dX1_finish_43 ?_
    refine J_lv [0] rfl ?_
    exact s_X1_finish_46 C h
def P_X1_finish (K : XW → Prop) (w : XW) : Prop := (¬ (cu_fault w) = 0 → P_X1_finish_24 K w) ∧ ((cu_fault w) = 0 → (¬ (cu_phase w) = (3 : Int32) → P_X1_finish_24 K w) ∧ ((cu_phase w) = (3 : Int32) → P_X1_fail (fun w_1 => P_X1_finish_24 K w_1) w (1 : Int32) (cu_cellSpot w)))
set_option maxRecDepth 10000 in
theorem s_X1_finish {x : Mx} {g : Gd} {a : Nat → Nat} (C : Cx x g (sA 15 a) (xCl g a) cX1_finish 1 RX1 none 1 22) {K : XW → Prop}  {w : XW} (h : P_X1_finish K w) : J x g (sA 15 a) (xCl g a) 1 (JQ x (sA 15 a) (QcV g (sA 15 a) (xCl g a) K)) w 0 [(0, .ref (a 1))] [] := by
  unfold P_X1_finish at h
  refine J_aload_n C 0 dX1_finish_0 rfl rfl ?_
  refine G_cu_fault C mw_35 dX1_finish_1 ?_
  refine J_if_ne (tgt := 24) C dX1_finish_4 (by decide) h (fun h => ?_) (fun h => ?_)
  · refine J_lv [0] rfl ?_
    exact s_X1_finish_24 C h
  · refine J_aload_n C 0 dX1_finish_7 rfl rfl ?_
    refine G_cu_phase C mw_42 dX1_finish_8 ?_
    refine J_iconst (v := (3 : Int32)) C dX1_finish_11 (by decide) ?_
    refine J_icmp_ne (tgt := 24) C dX1_finish_12 (by decide) h (fun h => ?_) (fun h => ?_)
    · refine J_lv [0] rfl ?_
      exact s_X1_finish_24 C h
    · refine J_aload_n C 0 dX1_finish_15 rfl rfl ?_
      refine J_iconst (v := (1 : Int32)) C dX1_finish_16 (by decide) ?_
      refine J_aload_n C 0 dX1_finish_17 rfl rfl ?_
      refine G_cu_cellSpot C mw_43 dX1_finish_18 ?_
      refine k_X1_fail C mw_133 dX1_finish_21 ⟨Nat.le_of_ble_eq_true rfl, Nat.le_of_ble_eq_true rfl⟩ (Nat.le_of_ble_eq_true rfl) h (fun w_1 h => ?_)
      refine J_lv [0] rfl ?_
      exact s_X1_finish_24 C h
theorem c_X1_finish {l : Launch} {g : Gd} {a : Nat → Nat} {w : XW} {K : XW → Prop} (h : P_X1_finish K w) : Kt l yX1_finish cX1_finish 1 none 1 22 g (sA 15 a) (xCl g a) [.ref (a 1)] w (QcV g (sA 15 a) (xCl g a) K) :=
  Kt_of (by decide +kernel) (Nat.le_of_ble_eq_true rfl) (fun x hx C => s_X1_finish C h)
theorem k_X1_finish {x : Mx} {g : Gd} {a : Nat → Nat} {cc : ByteArray} {nL : Nat} {own : String} {ret : Option FieldType} {F L : Nat} {Q : State → Prop} {w : XW} {pc : Nat} {lv : List (Nat × Value)} {st : List Value} (C : Cx x g (sA 15 a) (xCl g a) cc nL own ret F L) {index : Nat} {K : XW → Prop} (h1 : Cond.methodLink own index yX1_finish ∈ gT) (hd : decode cc pc = .ok (.invokevirtual index, 3)) (hR : 1 + 1 ≤ F ∧ 8 + (1 + 11) + 22 ≤ L) (hst : (st.map fun v => v.category).sum ≤ 8) (h : P_X1_finish K w) (k : ∀  (w' : XW), K w' → J x g (sA 15 a) (xCl g a) nL Q w' (pc + 3) lv st) : J x g (sA 15 a) (xCl g a) nL Q w (pc) lv (.ref (a 1) :: st) :=
  J_callVv C (As := []) (b := a 1) (n := 0) (c_X1_finish h) h1 mw_143 mw_759 mw_2 mw_144 (by decide +kernel) hR rfl (rc_X1 C) hst hd k
