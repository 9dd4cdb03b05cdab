-- J6_bitCount_0f7a4 (pure, room 0 0)
def P_J6_bitCount_0f7a4 (K : Int32 → Prop) (v0 : Int32) : Prop := K ((((((((v0 - (((Int32.toUInt32 v0 >>> (Int32.toUInt32 (1 : Int32) &&& Int32.toUInt32 31)).toInt32) &&& (1431655765 : Int32))) &&& (858993459 : Int32)) + (((Int32.toUInt32 (v0 - (((Int32.toUInt32 v0 >>> (Int32.toUInt32 (1 : Int32) &&& Int32.toUInt32 31)).toInt32) &&& (1431655765 : Int32))) >>> (Int32.toUInt32 (2 : Int32) &&& Int32.toUInt32 31)).toInt32) &&& (858993459 : Int32))) + ((Int32.toUInt32 (((v0 - (((Int32.toUInt32 v0 >>> (Int32.toUInt32 (1 : Int32) &&& Int32.toUInt32 31)).toInt32) &&& (1431655765 : Int32))) &&& (858993459 : Int32)) + (((Int32.toUInt32 (v0 - (((Int32.toUInt32 v0 >>> (Int32.toUInt32 (1 : Int32) &&& Int32.toUInt32 31)).toInt32) &&& (1431655765 : Int32))) >>> (Int32.toUInt32 (2 : Int32) &&& Int32.toUInt32 31)).toInt32) &&& (858993459 : Int32))) >>> (Int32.toUInt32 (4 : Int32) &&& Int32.toUInt32 31)).toInt32)) &&& (252645135 : Int32)) + ((Int32.toUInt32 (((((v0 - (((Int32.toUInt32 v0 >>> (Int32.toUInt32 (1 : Int32) &&& Int32.toUInt32 31)).toInt32) &&& (1431655765 : Int32))) &&& (858993459 : Int32)) + (((Int32.toUInt32 (v0 - (((Int32.toUInt32 v0 >>> (Int32.toUInt32 (1 : Int32) &&& Int32.toUInt32 31)).toInt32) &&& (1431655765 : Int32))) >>> (Int32.toUInt32 (2 : Int32) &&& Int32.toUInt32 31)).toInt32) &&& (858993459 : Int32))) + ((Int32.toUInt32 (((v0 - (((Int32.toUInt32 v0 >>> (Int32.toUInt32 (1 : Int32) &&& Int32.toUInt32 31)).toInt32) &&& (1431655765 : Int32))) &&& (858993459 : Int32)) + (((Int32.toUInt32 (v0 - (((Int32.toUInt32 v0 >>> (Int32.toUInt32 (1 : Int32) &&& Int32.toUInt32 31)).toInt32) &&& (1431655765 : Int32))) >>> (Int32.toUInt32 (2 : Int32) &&& Int32.toUInt32 31)).toInt32) &&& (858993459 : Int32))) >>> (Int32.toUInt32 (4 : Int32) &&& Int32.toUInt32 31)).toInt32)) &&& (252645135 : Int32)) >>> (Int32.toUInt32 (8 : Int32) &&& Int32.toUInt32 31)).toInt32)) + ((Int32.toUInt32 ((((((v0 - (((Int32.toUInt32 v0 >>> (Int32.toUInt32 (1 : Int32) &&& Int32.toUInt32 31)).toInt32) &&& (1431655765 : Int32))) &&& (858993459 : Int32)) + (((Int32.toUInt32 (v0 - (((Int32.toUInt32 v0 >>> (Int32.toUInt32 (1 : Int32) &&& Int32.toUInt32 31)).toInt32) &&& (1431655765 : Int32))) >>> (Int32.toUInt32 (2 : Int32) &&& Int32.toUInt32 31)).toInt32) &&& (858993459 : Int32))) + ((Int32.toUInt32 (((v0 - (((Int32.toUInt32 v0 >>> (Int32.toUInt32 (1 : Int32) &&& Int32.toUInt32 31)).toInt32) &&& (1431655765 : Int32))) &&& (858993459 : Int32)) + (((Int32.toUInt32 (v0 - (((Int32.toUInt32 v0 >>> (Int32.toUInt32 (1 : Int32) &&& Int32.toUInt32 31)).toInt32) &&& (1431655765 : Int32))) >>> (Int32.toUInt32 (2 : Int32) &&& Int32.toUInt32 31)).toInt32) &&& (858993459 : Int32))) >>> (Int32.toUInt32 (4 : Int32) &&& Int32.toUInt32 31)).toInt32)) &&& (252645135 : Int32)) + ((Int32.toUInt32 (((((v0 - (((Int32.toUInt32 v0 >>> (Int32.toUInt32 (1 : Int32) &&& Int32.toUInt32 31)).toInt32) &&& (1431655765 : Int32))) &&& (858993459 : Int32)) + (((Int32.toUInt32 (v0 - (((Int32.toUInt32 v0 >>> (Int32.toUInt32 (1 : Int32) &&& Int32.toUInt32 31)).toInt32) &&& (1431655765 : Int32))) >>> (Int32.toUInt32 (2 : Int32) &&& Int32.toUInt32 31)).toInt32) &&& (858993459 : Int32))) + ((Int32.toUInt32 (((v0 - (((Int32.toUInt32 v0 >>> (Int32.toUInt32 (1 : Int32) &&& Int32.toUInt32 31)).toInt32) &&& (1431655765 : Int32))) &&& (858993459 : Int32)) + (((Int32.toUInt32 (v0 - (((Int32.toUInt32 v0 >>> (Int32.toUInt32 (1 : Int32) &&& Int32.toUInt32 31)).toInt32) &&& (1431655765 : Int32))) >>> (Int32.toUInt32 (2 : Int32) &&& Int32.toUInt32 31)).toInt32) &&& (858993459 : Int32))) >>> (Int32.toUInt32 (4 : Int32) &&& Int32.toUInt32 31)).toInt32)) &&& (252645135 : Int32)) >>> (Int32.toUInt32 (8 : Int32) &&& Int32.toUInt32 31)).toInt32)) >>> (Int32.toUInt32 (16 : Int32) &&& Int32.toUInt32 31)).toInt32)) &&& (63 : Int32))
set_option maxRecDepth 10000 in
theorem s_J6_bitCount_0f7a4 {x : Mx} {g : Gd} {Wd : Type} {A : Nat → Prop} {cl : Wd → va_W} (C : Cx x g A cl cJ6_bitCount_0f7a4 1 RJ6 (some .int) 0 0) {K : Int32 → Prop} {w : Wd}  {v0 : Int32} (h : P_J6_bitCount_0f7a4 K v0) : J x g A cl 1 (JQ x A (QcI g A cl (fun r w' => K r ∧ w' = w))) w 0 [(0, .int v0)] [] := by
  unfold P_J6_bitCount_0f7a4 at h
  refine J_iload_n C 0 dJ6_bitCount_0f7a4_0 rfl rfl ?_
  refine J_iload_n C 0 dJ6_bitCount_0f7a4_1 rfl rfl ?_
  refine J_iconst (v := (1 : Int32)) C dJ6_bitCount_0f7a4_2 (by decide) ?_
  refine J_iushr C dJ6_bitCount_0f7a4_3 ?_
  refine J_ldcw (v := (1431655765 : Int32)) C mw_405 dJ6_bitCount_0f7a4_4 ?_
  refine J_iand C dJ6_bitCount_0f7a4_7 ?_
  refine J_isub C dJ6_bitCount_0f7a4_8 ?_
  refine J_istore_n C [(0, .int (v0 - (((Int32.toUInt32 v0 >>> (Int32.toUInt32 (1 : Int32) &&& Int32.toUInt32 31)).toInt32) &&& (1431655765 : Int32))))] dJ6_bitCount_0f7a4_9 rfl (by decide) rfl ?_
  refine J_iload_n C 0 dJ6_bitCount_0f7a4_10 rfl rfl ?_
  refine J_ldcw (v := (858993459 : Int32)) C mw_406 dJ6_bitCount_0f7a4_11 ?_
  refine J_iand C dJ6_bitCount_0f7a4_14 ?_
  refine J_iload_n C 0 dJ6_bitCount_0f7a4_15 rfl rfl ?_
  refine J_iconst (v := (2 : Int32)) C dJ6_bitCount_0f7a4_16 (by decide) ?_
  refine J_iushr C dJ6_bitCount_0f7a4_17 ?_
  refine J_ldcw (v := (858993459 : Int32)) C mw_406 dJ6_bitCount_0f7a4_18 ?_
  refine J_iand C dJ6_bitCount_0f7a4_21 ?_
  refine J_iadd C dJ6_bitCount_0f7a4_22 ?_
  refine J_istore_n C [(0, .int (((v0 - (((Int32.toUInt32 v0 >>> (Int32.toUInt32 (1 : Int32) &&& Int32.toUInt32 31)).toInt32) &&& (1431655765 : Int32))) &&& (858993459 : Int32)) + (((Int32.toUInt32 (v0 - (((Int32.toUInt32 v0 >>> (Int32.toUInt32 (1 : Int32) &&& Int32.toUInt32 31)).toInt32) &&& (1431655765 : Int32))) >>> (Int32.toUInt32 (2 : Int32) &&& Int32.toUInt32 31)).toInt32) &&& (858993459 : Int32))))] dJ6_bitCount_0f7a4_23 rfl (by decide) rfl ?_
  refine J_iload_n C 0 dJ6_bitCount_0f7a4_24 rfl rfl ?_
  refine J_iload_n C 0 dJ6_bitCount_0f7a4_25 rfl rfl ?_
  refine J_iconst (v := (4 : Int32)) C dJ6_bitCount_0f7a4_26 (by decide) ?_
  refine J_iushr C dJ6_bitCount_0f7a4_27 ?_
  refine J_iadd C dJ6_bitCount_0f7a4_28 ?_
  refine J_ldcw (v := (252645135 : Int32)) C mw_407 dJ6_bitCount_0f7a4_29 ?_
  refine J_iand C dJ6_bitCount_0f7a4_32 ?_
  refine J_istore_n C [(0, .int (((((v0 - (((Int32.toUInt32 v0 >>> (Int32.toUInt32 (1 : Int32) &&& Int32.toUInt32 31)).toInt32) &&& (1431655765 : Int32))) &&& (858993459 : Int32)) + (((Int32.toUInt32 (v0 - (((Int32.toUInt32 v0 >>> (Int32.toUInt32 (1 : Int32) &&& Int32.toUInt32 31)).toInt32) &&& (1431655765 : Int32))) >>> (Int32.toUInt32 (2 : Int32) &&& Int32.toUInt32 31)).toInt32) &&& (858993459 : Int32))) + ((Int32.toUInt32 (((v0 - (((Int32.toUInt32 v0 >>> (Int32.toUInt32 (1 : Int32) &&& Int32.toUInt32 31)).toInt32) &&& (1431655765 : Int32))) &&& (858993459 : Int32)) + (((Int32.toUInt32 (v0 - (((Int32.toUInt32 v0 >>> (Int32.toUInt32 (1 : Int32) &&& Int32.toUInt32 31)).toInt32) &&& (1431655765 : Int32))) >>> (Int32.toUInt32 (2 : Int32) &&& Int32.toUInt32 31)).toInt32) &&& (858993459 : Int32))) >>> (Int32.toUInt32 (4 : Int32) &&& Int32.toUInt32 31)).toInt32)) &&& (252645135 : Int32)))] dJ6_bitCount_0f7a4_33 rfl (by decide) rfl ?_
  refine J_iload_n C 0 dJ6_bitCount_0f7a4_34 rfl rfl ?_
  refine J_iload_n C 0 dJ6_bitCount_0f7a4_35 rfl rfl ?_
  refine J_bipush (v := (8 : Int32)) C dJ6_bitCount_0f7a4_36 (by decide) ?_
  refine J_iushr C dJ6_bitCount_0f7a4_38 ?_
  refine J_iadd C dJ6_bitCount_0f7a4_39 ?_
  refine J_istore_n C [(0, .int ((((((v0 - (((Int32.toUInt32 v0 >>> (Int32.toUInt32 (1 : Int32) &&& Int32.toUInt32 31)).toInt32) &&& (1431655765 : Int32))) &&& (858993459 : Int32)) + (((Int32.toUInt32 (v0 - (((Int32.toUInt32 v0 >>> (Int32.toUInt32 (1 : Int32) &&& Int32.toUInt32 31)).toInt32) &&& (1431655765 : Int32))) >>> (Int32.toUInt32 (2 : Int32) &&& Int32.toUInt32 31)).toInt32) &&& (858993459 : Int32))) + ((Int32.toUInt32 (((v0 - (((Int32.toUInt32 v0 >>> (Int32.toUInt32 (1 : Int32) &&& Int32.toUInt32 31)).toInt32) &&& (1431655765 : Int32))) &&& (858993459 : Int32)) + (((Int32.toUInt32 (v0 - (((Int32.toUInt32 v0 >>> (Int32.toUInt32 (1 : Int32) &&& Int32.toUInt32 31)).toInt32) &&& (1431655765 : Int32))) >>> (Int32.toUInt32 (2 : Int32) &&& Int32.toUInt32 31)).toInt32) &&& (858993459 : Int32))) >>> (Int32.toUInt32 (4 : Int32) &&& Int32.toUInt32 31)).toInt32)) &&& (252645135 : Int32)) + ((Int32.toUInt32 (((((v0 - (((Int32.toUInt32 v0 >>> (Int32.toUInt32 (1 : Int32) &&& Int32.toUInt32 31)).toInt32) &&& (1431655765 : Int32))) &&& (858993459 : Int32)) + (((Int32.toUInt32 (v0 - (((Int32.toUInt32 v0 >>> (Int32.toUInt32 (1 : Int32) &&& Int32.toUInt32 31)).toInt32) &&& (1431655765 : Int32))) >>> (Int32.toUInt32 (2 : Int32) &&& Int32.toUInt32 31)).toInt32) &&& (858993459 : Int32))) + ((Int32.toUInt32 (((v0 - (((Int32.toUInt32 v0 >>> (Int32.toUInt32 (1 : Int32) &&& Int32.toUInt32 31)).toInt32) &&& (1431655765 : Int32))) &&& (858993459 : Int32)) + (((Int32.toUInt32 (v0 - (((Int32.toUInt32 v0 >>> (Int32.toUInt32 (1 : Int32) &&& Int32.toUInt32 31)).toInt32) &&& (1431655765 : Int32))) >>> (Int32.toUInt32 (2 : Int32) &&& Int32.toUInt32 31)).toInt32) &&& (858993459 : Int32))) >>> (Int32.toUInt32 (4 : Int32) &&& Int32.toUInt32 31)).toInt32)) &&& (252645135 : Int32)) >>> (Int32.toUInt32 (8 : Int32) &&& Int32.toUInt32 31)).toInt32)))] dJ6_bitCount_0f7a4_40 rfl (by decide) rfl ?_
  refine J_iload_n C 0 dJ6_bitCount_0f7a4_41 rfl rfl ?_
  refine J_iload_n C 0 dJ6_bitCount_0f7a4_42 rfl rfl ?_
  refine J_bipush (v := (16 : Int32)) C dJ6_bitCount_0f7a4_43 (by decide) ?_
  refine J_iushr C dJ6_bitCount_0f7a4_45 ?_
  refine J_iadd C dJ6_bitCount_0f7a4_46 ?_
  refine J_istore_n C [(0, .int (((((((v0 - (((Int32.toUInt32 v0 >>> (Int32.toUInt32 (1 : Int32) &&& Int32.toUInt32 31)).toInt32) &&& (1431655765 : Int32))) &&& (858993459 : Int32)) + (((Int32.toUInt32 (v0 - (((Int32.toUInt32 v0 >>> (Int32.toUInt32 (1 : Int32) &&& Int32.toUInt32 31)).toInt32) &&& (1431655765 : Int32))) >>> (Int32.toUInt32 (2 : Int32) &&& Int32.toUInt32 31)).toInt32) &&& (858993459 : Int32))) + ((Int32.toUInt32 (((v0 - (((Int32.toUInt32 v0 >>> (Int32.toUInt32 (1 : Int32) &&& Int32.toUInt32 31)).toInt32) &&& (1431655765 : Int32))) &&& (858993459 : Int32)) + (((Int32.toUInt32 (v0 - (((Int32.toUInt32 v0 >>> (Int32.toUInt32 (1 : Int32) &&& Int32.toUInt32 31)).toInt32) &&& (1431655765 : Int32))) >>> (Int32.toUInt32 (2 : Int32) &&& Int32.toUInt32 31)).toInt32) &&& (858993459 : Int32))) >>> (Int32.toUInt32 (4 : Int32) &&& Int32.toUInt32 31)).toInt32)) &&& (252645135 : Int32)) + ((Int32.toUInt32 (((((v0 - (((Int32.toUInt32 v0 >>> (Int32.toUInt32 (1 : Int32) &&& Int32.toUInt32 31)).toInt32) &&& (1431655765 : Int32))) &&& (858993459 : Int32)) + (((Int32.toUInt32 (v0 - (((Int32.toUInt32 v0 >>> (Int32.toUInt32 (1 : Int32) &&& Int32.toUInt32 31)).toInt32) &&& (1431655765 : Int32))) >>> (Int32.toUInt32 (2 : Int32) &&& Int32.toUInt32 31)).toInt32) &&& (858993459 : Int32))) + ((Int32.toUInt32 (((v0 - (((Int32.toUInt32 v0 >>> (Int32.toUInt32 (1 : Int32) &&& Int32.toUInt32 31)).toInt32) &&& (1431655765 : Int32))) &&& (858993459 : Int32)) + (((Int32.toUInt32 (v0 - (((Int32.toUInt32 v0 >>> (Int32.toUInt32 (1 : Int32) &&& Int32.toUInt32 31)).toInt32) &&& (1431655765 : Int32))) >>> (Int32.toUInt32 (2 : Int32) &&& Int32.toUInt32 31)).toInt32) &&& (858993459 : Int32))) >>> (Int32.toUInt32 (4 : Int32) &&& Int32.toUInt32 31)).toInt32)) &&& (252645135 : Int32)) >>> (Int32.toUInt32 (8 : Int32) &&& Int32.toUInt32 31)).toInt32)) + ((Int32.toUInt32 ((((((v0 - (((Int32.toUInt32 v0 >>> (Int32.toUInt32 (1 : Int32) &&& Int32.toUInt32 31)).toInt32) &&& (1431655765 : Int32))) &&& (858993459 : Int32)) + (((Int32.toUInt32 (v0 - (((Int32.toUInt32 v0 >>> (Int32.toUInt32 (1 : Int32) &&& Int32.toUInt32 31)).toInt32) &&& (1431655765 : Int32))) >>> (Int32.toUInt32 (2 : Int32) &&& Int32.toUInt32 31)).toInt32) &&& (858993459 : Int32))) + ((Int32.toUInt32 (((v0 - (((Int32.toUInt32 v0 >>> (Int32.toUInt32 (1 : Int32) &&& Int32.toUInt32 31)).toInt32) &&& (1431655765 : Int32))) &&& (858993459 : Int32)) + (((Int32.toUInt32 (v0 - (((Int32.toUInt32 v0 >>> (Int32.toUInt32 (1 : Int32) &&& Int32.toUInt32 31)).toInt32) &&& (1431655765 : Int32))) >>> (Int32.toUInt32 (2 : Int32) &&& Int32.toUInt32 31)).toInt32) &&& (858993459 : Int32))) >>> (Int32.toUInt32 (4 : Int32) &&& Int32.toUInt32 31)).toInt32)) &&& (252645135 : Int32)) + ((Int32.toUInt32 (((((v0 - (((Int32.toUInt32 v0 >>> (Int32.toUInt32 (1 : Int32) &&& Int32.toUInt32 31)).toInt32) &&& (1431655765 : Int32))) &&& (858993459 : Int32)) + (((Int32.toUInt32 (v0 - (((Int32.toUInt32 v0 >>> (Int32.toUInt32 (1 : Int32) &&& Int32.toUInt32 31)).toInt32) &&& (1431655765 : Int32))) >>> (Int32.toUInt32 (2 : Int32) &&& Int32.toUInt32 31)).toInt32) &&& (858993459 : Int32))) + ((Int32.toUInt32 (((v0 - (((Int32.toUInt32 v0 >>> (Int32.toUInt32 (1 : Int32) &&& Int32.toUInt32 31)).toInt32) &&& (1431655765 : Int32))) &&& (858993459 : Int32)) + (((Int32.toUInt32 (v0 - (((Int32.toUInt32 v0 >>> (Int32.toUInt32 (1 : Int32) &&& Int32.toUInt32 31)).toInt32) &&& (1431655765 : Int32))) >>> (Int32.toUInt32 (2 : Int32) &&& Int32.toUInt32 31)).toInt32) &&& (858993459 : Int32))) >>> (Int32.toUInt32 (4 : Int32) &&& Int32.toUInt32 31)).toInt32)) &&& (252645135 : Int32)) >>> (Int32.toUInt32 (8 : Int32) &&& Int32.toUInt32 31)).toInt32)) >>> (Int32.toUInt32 (16 : Int32) &&& Int32.toUInt32 31)).toInt32)))] dJ6_bitCount_0f7a4_47 rfl (by decide) rfl ?_
  refine J_iload_n C 0 dJ6_bitCount_0f7a4_48 rfl rfl ?_
  refine J_bipush (v := (63 : Int32)) C dJ6_bitCount_0f7a4_49 (by decide) ?_
  refine J_iand C dJ6_bitCount_0f7a4_51 ?_
  exact J_iret C dJ6_bitCount_0f7a4_52 ⟨h, rfl⟩
theorem c_J6_bitCount_0f7a4 {l : Launch} {g : Gd} {Wd : Type} {A : Nat → Prop} {cl : Wd → va_W} {w : Wd} {K : Int32 → Prop} {v0 : Int32} (h : P_J6_bitCount_0f7a4 K v0) : Kt l yJ6_bitCount_0f7a4 cJ6_bitCount_0f7a4 1 (some .int) 0 0 g A cl [.int v0] w (QcI g A cl (fun r w' => K r ∧ w' = w)) :=
  Kt_of (by decide +kernel) (Nat.le_of_ble_eq_true rfl) (fun x hx C => s_J6_bitCount_0f7a4 C h)
theorem k_J6_bitCount_0f7a4 {x : Mx} {g : Gd} {Wd : Type} {A : Nat → Prop} {cl : Wd → va_W} {cc : ByteArray} {nL : Nat} {own : String} {ret : Option FieldType} {F L : Nat} {Q : State → Prop} {w : Wd} {pc : Nat} {lv : List (Nat × Value)} {st : List Value} (C : Cx x g A cl cc nL own ret F L) {index : Nat} {K : Int32 → Prop} {v0 : Int32} (h1 : Cond.methodLink own index yJ6_bitCount_0f7a4 ∈ gT) (hd : decode cc pc = .ok (.invokestatic index, 3)) (hR : 0 + 1 ≤ F ∧ 8 + (1 + 11) + 0 ≤ L) (hst : (st.map fun v => v.category).sum ≤ 8) (h : P_J6_bitCount_0f7a4 K v0) (k : ∀ (r : Int32), K r → J x g A cl nL Q w (pc + 3) lv (.int r :: st)) : J x g A cl nL Q w (pc) lv (.int v0 :: st) :=
  J_callSi C (As := [.int v0]) (n := 1) (c_J6_bitCount_0f7a4 h) h1 mw_403 mw_13 mw_404 (by decide +kernel) hR rfl hst hd (fun r w' hK => by
    obtain ⟨hK, rfl⟩ := hK
    exact k r hK)
-- X0_isForm (pure, room 0 0)
def P_X0_isForm (K : Int32 → Prop) (v0 : Int32) : Prop := (v0 < 0 → K (0 : Int32)) ∧ (¬ v0 < 0 → ((31 : Int32) < v0 → K (0 : Int32)) ∧ (¬ (31 : Int32) < v0 → K (1 : Int32)))
set_option maxRecDepth 10000 in
theorem s_X0_isForm {x : Mx} {g : Gd} {Wd : Type} {A : Nat → Prop} {cl : Wd → va_W} (C : Cx x g A cl cX0_isForm 1 RX0 (some .boolean) 0 0) {K : Int32 → Prop} {w : Wd}  {v0 : Int32} (h : P_X0_isForm K v0) : J x g A cl 1 (JQ x A (QcI g A cl (fun r w' => K r ∧ w' = w))) w 0 [(0, .int v0)] [] := by
  unfold P_X0_isForm at h
  refine J_iload_n C 0 dX0_isForm_0 rfl rfl ?_
  refine J_if_lt (tgt := 14) C dX0_isForm_1 (by decide) h (fun h => ?_) (fun h => ?_)
  · refine J_iconst (v := (0 : Int32)) C dX0_isForm_14 (by decide) ?_
    exact J_zret C dX0_isForm_15 rfl ⟨h, rfl⟩
  · refine J_iload_n C 0 dX0_isForm_4 rfl rfl ?_
    refine J_bipush (v := (31 : Int32)) C dX0_isForm_5 (by decide) ?_
    refine J_icmp_gt (tgt := 14) C dX0_isForm_7 (by decide) h (fun h => ?_) (fun h => ?_)
    · refine J_iconst (v := (0 : Int32)) C dX0_isForm_14 (by decide) ?_
      exact J_zret C dX0_isForm_15 rfl ⟨h, rfl⟩
    · refine J_iconst (v := (1 : Int32)) C dX0_isForm_10 (by decide) ?_
      refine J_goto (tgt := 15) C dX0_isForm_11 (by decide) ?_
      exact J_zret C dX0_isForm_15 rfl ⟨h, rfl⟩
theorem c_X0_isForm {l : Launch} {g : Gd} {Wd : Type} {A : Nat → Prop} {cl : Wd → va_W} {w : Wd} {K : Int32 → Prop} {v0 : Int32} (h : P_X0_isForm K v0) : Kt l yX0_isForm cX0_isForm 1 (some .boolean) 0 0 g A cl [.int v0] w (QcI g A cl (fun r w' => K r ∧ w' = w)) :=
  Kt_of (by decide +kernel) (Nat.le_of_ble_eq_true rfl) (fun x hx C => s_X0_isForm C h)
theorem k_X0_isForm {x : Mx} {g : Gd} {Wd : Type} {A : Nat → Prop} {cl : Wd → va_W} {cc : ByteArray} {nL : Nat} {own : String} {ret : Option FieldType} {F L : Nat} {Q : State → Prop} {w : Wd} {pc : Nat} {lv : List (Nat × Value)} {st : List Value} (C : Cx x g A cl cc nL own ret F L) {index : Nat} {K : Int32 → Prop} {v0 : Int32} (h1 : Cond.methodLink own index yX0_isForm ∈ gT) (hd : decode cc pc = .ok (.invokestatic index, 3)) (hR : 0 + 1 ≤ F ∧ 8 + (1 + 11) + 0 ≤ L) (hst : (st.map fun v => v.category).sum ≤ 8) (h : P_X0_isForm K v0) (k : ∀ (r : Int32), K r → J x g A cl nL Q w (pc + 3) lv (.int r :: st)) : J x g A cl nL Q w (pc) lv (.int v0 :: st) :=
  J_callSi C (As := [.int v0]) (n := 1) (c_X0_isForm h) h1 mw_391 mw_3 mw_392 (by decide +kernel) hR rfl hst hd (fun r w' hK => by
    obtain ⟨hK, rfl⟩ := hK
    exact k r hK)
-- X0_isCode (pure, room 0 0)
def P_X0_isCode (K : Int32 → Prop) (v0 : Int32) : Prop := (v0 < 0 → K (0 : Int32)) ∧ (¬ v0 < 0 → ((5 : Int32) ≤ v0 → K (0 : Int32)) ∧ (¬ (5 : Int32) ≤ v0 → K (1 : Int32)))
set_option maxRecDepth 10000 in
theorem s_X0_isCode {x : Mx} {g : Gd} {Wd : Type} {A : Nat → Prop} {cl : Wd → va_W} (C : Cx x g A cl cX0_isCode 1 RX0 (some .boolean) 0 0) {K : Int32 → Prop} {w : Wd}  {v0 : Int32} (h : P_X0_isCode K v0) : J x g A cl 1 (JQ x A (QcI g A cl (fun r w' => K r ∧ w' = w))) w 0 [(0, .int v0)] [] := by
  unfold P_X0_isCode at h
  refine J_iload_n C 0 dX0_isCode_0 rfl rfl ?_
  refine J_if_lt (tgt := 13) C dX0_isCode_1 (by decide) h (fun h => ?_) (fun h => ?_)
  · refine J_iconst (v := (0 : Int32)) C dX0_isCode_13 (by decide) ?_
    exact J_zret C dX0_isCode_14 rfl ⟨h, rfl⟩
  · refine J_iload_n C 0 dX0_isCode_4 rfl rfl ?_
    refine J_iconst (v := (5 : Int32)) C dX0_isCode_5 (by decide) ?_
    refine J_icmp_ge (tgt := 13) C dX0_isCode_6 (by decide) h (fun h => ?_) (fun h => ?_)
    · refine J_iconst (v := (0 : Int32)) C dX0_isCode_13 (by decide) ?_
      exact J_zret C dX0_isCode_14 rfl ⟨h, rfl⟩
    · refine J_iconst (v := (1 : Int32)) C dX0_isCode_9 (by decide) ?_
      refine J_goto (tgt := 14) C dX0_isCode_10 (by decide) ?_
      exact J_zret C dX0_isCode_14 rfl ⟨h, rfl⟩
theorem c_X0_isCode {l : Launch} {g : Gd} {Wd : Type} {A : Nat → Prop} {cl : Wd → va_W} {w : Wd} {K : Int32 → Prop} {v0 : Int32} (h : P_X0_isCode K v0) : Kt l yX0_isCode cX0_isCode 1 (some .boolean) 0 0 g A cl [.int v0] w (QcI g A cl (fun r w' => K r ∧ w' = w)) :=
  Kt_of (by decide +kernel) (Nat.le_of_ble_eq_true rfl) (fun x hx C => s_X0_isCode C h)
theorem k_X0_isCode {x : Mx} {g : Gd} {Wd : Type} {A : Nat → Prop} {cl : Wd → va_W} {cc : ByteArray} {nL : Nat} {own : String} {ret : Option FieldType} {F L : Nat} {Q : State → Prop} {w : Wd} {pc : Nat} {lv : List (Nat × Value)} {st : List Value} (C : Cx x g A cl cc nL own ret F L) {index : Nat} {K : Int32 → Prop} {v0 : Int32} (h1 : Cond.methodLink own index yX0_isCode ∈ gT) (hd : decode cc pc = .ok (.invokestatic index, 3)) (hR : 0 + 1 ≤ F ∧ 8 + (1 + 11) + 0 ≤ L) (hst : (st.map fun v => v.category).sum ≤ 8) (h : P_X0_isCode K v0) (k : ∀ (r : Int32), K r → J x g A cl nL Q w (pc + 3) lv (.int r :: st)) : J x g A cl nL Q w (pc) lv (.int v0 :: st) :=
  J_callSi C (As := [.int v0]) (n := 1) (c_X0_isCode h) h1 mw_394 mw_3 mw_395 (by decide +kernel) hR rfl hst hd (fun r w' hK => by
    obtain ⟨hK, rfl⟩ := hK
    exact k r hK)
-- X0_forget (changes, room 1 23)
def P_X0_forget (K : XW → Prop) (w : XW) : Prop := K (cs_formOf_s w (ar_fill 12 (-2 : Int32) (cs_formOf w)))
set_option maxRecDepth 10000 in
theorem s_X0_forget {x : Mx} {g : Gd} {a : Nat → Nat} (C : Cx x g (sA 15 a) (xCl g a) cX0_forget 1 RX0 none 1 23) {K : XW → Prop}  {w : XW} (h : P_X0_forget K w) : J x g (sA 15 a) (xCl g a) 1 (JQ x (sA 15 a) (QcV g (sA 15 a) (xCl g a) K)) w 0 [(0, .ref (a 2))] [] := by
  unfold P_X0_forget at h
  refine J_aload_n C 0 dX0_forget_0 rfl rfl ?_
  refine G_cs_formOf C mw_63 dX0_forget_1 ?_
  refine J_bipush (v := (-2 : Int32)) C dX0_forget_4 (by decide) ?_
  refine J_fill C 10 rfl (sf := fun f => cs_formOf_s w f) (fun f => rfl) (by decide) mw_149 dX0_forget_6 ⟨Nat.le_of_ble_eq_true rfl, Nat.le_of_ble_eq_true rfl⟩ (Nat.le_of_ble_eq_true rfl) ?_
  exact J_vret C dX0_forget_9 h
theorem c_X0_forget {l : Launch} {g : Gd} {a : Nat → Nat} {w : XW} {K : XW → Prop} (h : P_X0_forget K w) : Kt l yX0_forget cX0_forget 1 none 1 23 g (sA 15 a) (xCl g a) [.ref (a 2)] w (QcV g (sA 15 a) (xCl g a) K) :=
  Kt_of (by decide +kernel) (Nat.le_of_ble_eq_true rfl) (fun x hx C => s_X0_forget C h)
theorem k_X0_forget {x : Mx} {g : Gd} {a : Nat → Nat} {cc : ByteArray} {nL : Nat} {own : String} {ret : Option FieldType} {F L : Nat} {Q : State → Prop} {w : XW} {pc : Nat} {lv : List (Nat × Value)} {st : List Value} (C : Cx x g (sA 15 a) (xCl g a) cc nL own ret F L) {index : Nat} {K : XW → Prop} (h1 : Cond.methodLink own index yX0_forget ∈ gT) (hd : decode cc pc = .ok (.invokevirtual index, 3)) (hR : 1 + 1 ≤ F ∧ 8 + (1 + 11) + 23 ≤ L) (hst : (st.map fun v => v.category).sum ≤ 8) (h : P_X0_forget K w) (k : ∀  (w' : XW), K w' → J x g (sA 15 a) (xCl g a) nL Q w' (pc + 3) lv st) : J x g (sA 15 a) (xCl g a) nL Q w (pc) lv (.ref (a 2) :: st) :=
  J_callVv C (As := []) (b := a 2) (n := 0) (c_X0_forget h) h1 mw_146 mw_147 mw_3 mw_148 (by decide +kernel) hR rfl (rc_X0 C) hst hd k
-- X1_isOdd (pure, room 0 0)
def P_X1_isOdd (K : Int32 → Prop) (w : XW) (v1 : Int32) : Prop := (v1 ≤ 0 → K (0 : Int32)) ∧ (¬ v1 ≤ 0 → ((cu_rows w) ≤ v1 → K (0 : Int32)) ∧ (¬ (cu_rows w) ≤ v1 → vp_in (v1 + (1 : Int32)) 81 ∧ (vp_in v1 81 ∧ (vp_in (1 : Int32) 81 ∧ ((((cu_rowStart w (v1 + (1 : Int32)).toNatClampNeg) - (cu_rowStart w v1.toNatClampNeg)) = (cu_rowStart w (1 : Int32).toNatClampNeg) → K (0 : Int32)) ∧ (¬ ((cu_rowStart w (v1 + (1 : Int32)).toNatClampNeg) - (cu_rowStart w v1.toNatClampNeg)) = (cu_rowStart w (1 : Int32).toNatClampNeg) → K (1 : Int32)))))))
set_option maxRecDepth 10000 in
theorem s_X1_isOdd {x : Mx} {g : Gd} {a : Nat → Nat} (C : Cx x g (sA 15 a) (xCl g a) cX1_isOdd 2 RX1 (some .boolean) 0 0) {K : Int32 → Prop} {w : XW}  {v1 : Int32} (h : P_X1_isOdd K w v1) : J x g (sA 15 a) (xCl g a) 2 (JQ x (sA 15 a) (QcI g (sA 15 a) (xCl g a) (fun r w' => K r ∧ w' = w))) w 0 [(0, .ref (a 1)), (1, .int v1)] [] := by
  unfold P_X1_isOdd at h
  refine J_iload_n C 1 dX1_isOdd_0 rfl rfl ?_
  refine J_if_le (tgt := 40) C dX1_isOdd_1 (by decide) h (fun h => ?_) (fun h => ?_)
  · refine J_iconst (v := (0 : Int32)) C dX1_isOdd_40 (by decide) ?_
    exact J_zret C dX1_isOdd_41 rfl ⟨h, rfl⟩
  · refine J_iload_n C 1 dX1_isOdd_4 rfl rfl ?_
    refine J_aload_n C 0 dX1_isOdd_5 rfl rfl ?_
    refine G_cu_rows C mw_32 dX1_isOdd_6 ?_
    refine J_icmp_ge (tgt := 40) C dX1_isOdd_9 (by decide) h (fun h => ?_) (fun h => ?_)
    · refine J_iconst (v := (0 : Int32)) C dX1_isOdd_40 (by decide) ?_
      exact J_zret C dX1_isOdd_41 rfl ⟨h, rfl⟩
    · refine J_aload_n C 0 dX1_isOdd_12 rfl rfl ?_
      refine G_cu_rowStart C mw_29 dX1_isOdd_13 ?_
      refine J_iload_n C 1 dX1_isOdd_16 rfl rfl ?_
      refine J_iconst (v := (1 : Int32)) C dX1_isOdd_17 (by decide) ?_
      refine J_iadd C dX1_isOdd_18 ?_
      refine L_cu_rowStart C dX1_isOdd_19 h (fun h => ?_)
      refine J_aload_n C 0 dX1_isOdd_20 rfl rfl ?_
      refine G_cu_rowStart C mw_29 dX1_isOdd_21 ?_
      refine J_iload_n C 1 dX1_isOdd_24 rfl rfl ?_
      refine L_cu_rowStart C dX1_isOdd_25 h (fun h => ?_)
      refine J_isub C dX1_isOdd_26 ?_
      refine J_aload_n C 0 dX1_isOdd_27 rfl rfl ?_
      refine G_cu_rowStart C mw_29 dX1_isOdd_28 ?_
      refine J_iconst (v := (1 : Int32)) C dX1_isOdd_31 (by decide) ?_
      refine L_cu_rowStart C dX1_isOdd_32 h (fun h => ?_)
      refine J_icmp_eq (tgt := 40) C dX1_isOdd_33 (by decide) h (fun h => ?_) (fun h => ?_)
      · refine J_iconst (v := (0 : Int32)) C dX1_isOdd_40 (by decide) ?_
        exact J_zret C dX1_isOdd_41 rfl ⟨h, rfl⟩
      · refine J_iconst (v := (1 : Int32)) C dX1_isOdd_36 (by decide) ?_
        refine J_goto (tgt := 41) C dX1_isOdd_37 (by decide) ?_
        exact J_zret C dX1_isOdd_41 rfl ⟨h, rfl⟩
theorem c_X1_isOdd {l : Launch} {g : Gd} {a : Nat → Nat} {w : XW} {K : Int32 → Prop} {v1 : Int32} (h : P_X1_isOdd K w v1) : Kt l yX1_isOdd cX1_isOdd 2 (some .boolean) 0 0 g (sA 15 a) (xCl g a) [.ref (a 1), .int v1] w (QcI g (sA 15 a) (xCl g a) (fun r w' => K r ∧ w' = w)) :=
  Kt_of (by decide +kernel) (Nat.le_of_ble_eq_true rfl) (fun x hx C => s_X1_isOdd C h)
theorem k_X1_isOdd {x : Mx} {g : Gd} {a : Nat → Nat} {cc : ByteArray} {nL : Nat} {own : String} {ret : Option FieldType} {F L : Nat} {Q : State → Prop} {w : XW} {pc : Nat} {lv : List (Nat × Value)} {st : List Value} (C : Cx x g (sA 15 a) (xCl g a) cc nL own ret F L) {index : Nat} {K : Int32 → Prop} {v1 : Int32} (h1 : Cond.methodLink own index yX1_isOdd ∈ gT) (hd : decode cc pc = .ok (.invokevirtual index, 3)) (hR : 0 + 1 ≤ F ∧ 8 + (2 + 11) + 0 ≤ L) (hst : (st.map fun v => v.category).sum ≤ 8) (h : P_X1_isOdd K w v1) (k : ∀ (r : Int32), K r → J x g (sA 15 a) (xCl g a) nL Q w (pc + 3) lv (.int r :: st)) : J x g (sA 15 a) (xCl g a) nL Q w (pc) lv (.int v1 :: .ref (a 1) :: st) :=
  J_callVi C (As := [.int v1]) (b := a 1) (n := 1) (c_X1_isOdd h) h1 mw_173 mw_174 mw_2 mw_175 (by decide +kernel) hR rfl (rc_X1 C) hst hd (fun r w' hK => by
    obtain ⟨hK, rfl⟩ := hK
    exact k r hK)
-- X1_isInColumns (pure, room 1 21)
def P_X1_isInColumns_13 (K : Int32 → Prop) (w : XW) (v1 : Int32) (s0 : Int32) (s1 : Int32) : Prop := (s1 < s0 → K (0 : Int32)) ∧ (¬ s1 < s0 → ((cu_rows w) ≤ v1 → K (0 : Int32)) ∧ (¬ (cu_rows w) ≤ v1 → P_X1_isOdd (fun r_1 => (¬ r_1 = 0 → K (0 : Int32)) ∧ (r_1 = 0 → K (1 : Int32))) w v1))
set_option maxRecDepth 10000 in
theorem s_X1_isInColumns_13 {x : Mx} {g : Gd} {a : Nat → Nat} (C : Cx x g (sA 15 a) (xCl g a) cX1_isInColumns 2 RX1 (some .boolean) 1 21) {K : Int32 → Prop} {w : XW}  {v1 : Int32} {s0 : Int32} {s1 : Int32} (h : P_X1_isInColumns_13 K w v1 s0 s1) : J x g (sA 15 a) (xCl g a) 2 (JQ x (sA 15 a) (QcI g (sA 15 a) (xCl g a) (fun r w' => K r ∧ w' = w))) w 13 [(0, .ref (a 1)), (1, .int v1)] [.int s0, .int s1] := by
  unfold P_X1_isInColumns_13 at h
  refine J_icmp_lt (tgt := 36) C dX1_isInColumns_13 (by decide) h (fun h => ?_) (fun h => ?_)
  · refine J_iconst (v := (0 : Int32)) C dX1_isInColumns_36 (by decide) ?_
    exact J_zret C dX1_isInColumns_37 rfl ⟨h, rfl⟩
  · refine J_iload_n C 1 dX1_isInColumns_16 rfl rfl ?_
    refine J_aload_n C 0 dX1_isInColumns_17 rfl rfl ?_
    refine G_cu_rows C mw_32 dX1_isInColumns_18 ?_
    refine J_icmp_ge (tgt := 36) C dX1_isInColumns_21 (by decide) h (fun h => ?_) (fun h => ?_)
    · refine J_iconst (v := (0 : Int32)) C dX1_isInColumns_36 (by decide) ?_
      exact J_zret C dX1_isInColumns_37 rfl ⟨h, rfl⟩
    · refine J_aload_n C 0 dX1_isInColumns_24 rfl rfl ?_
      refine J_iload_n C 1 dX1_isInColumns_25 rfl rfl ?_
      refine k_X1_isOdd C mw_172 dX1_isInColumns_26 ⟨Nat.le_of_ble_eq_true rfl, Nat.le_of_ble_eq_true rfl⟩ (Nat.le_of_ble_eq_true rfl) h (fun r_1 h => ?_)
      refine J_if_ne (tgt := 36) C dX1_isInColumns_29 (by decide) h (fun h => ?_) (fun h => ?_)
      · refine J_iconst (v := (0 : Int32)) C dX1_isInColumns_36 (by decide) ?_
        exact J_zret C dX1_isInColumns_37 rfl ⟨h, rfl⟩
      · refine J_iconst (v := (1 : Int32)) C dX1_isInColumns_32 (by decide) ?_
        refine J_goto (tgt := 37) C dX1_isInColumns_33 (by decide) ?_
        exact J_zret C dX1_isInColumns_37 rfl ⟨h, rfl⟩
def P_X1_isInColumns (K : Int32 → Prop) (w : XW) (v1 : Int32) : Prop := ((cu_headed w) = 0 → P_X1_isInColumns_13 K w v1 (0 : Int32) v1) ∧ (¬ (cu_headed w) = 0 → P_X1_isInColumns_13 K w v1 (1 : Int32) v1)
set_option maxRecDepth 10000 in
theorem s_X1_isInColumns {x : Mx} {g : Gd} {a : Nat → Nat} (C : Cx x g (sA 15 a) (xCl g a) cX1_isInColumns 2 RX1 (some .boolean) 1 21) {K : Int32 → Prop} {w : XW}  {v1 : Int32} (h : P_X1_isInColumns K w v1) : J x g (sA 15 a) (xCl g a) 2 (JQ x (sA 15 a) (QcI g (sA 15 a) (xCl g a) (fun r w' => K r ∧ w' = w))) w 0 [(0, .ref (a 1)), (1, .int v1)] [] := by
  unfold P_X1_isInColumns at h
  refine J_iload_n C 1 dX1_isInColumns_0 rfl rfl ?_
  refine J_aload_n C 0 dX1_isInColumns_1 rfl rfl ?_
  refine G_cu_headed C mw_41 dX1_isInColumns_2 ?_
  refine J_if_eq (tgt := 12) C dX1_isInColumns_5 (by decide) h (fun h => ?_) (fun h => ?_)
  · refine J_iconst (v := (0 : Int32)) C dX1_isInColumns_12 (by decide) ?_
    refine J_lv [0, 1] rfl ?_
    exact s_X1_isInColumns_13 C h
  · refine J_iconst (v := (1 : Int32)) C dX1_isInColumns_8 (by decide) ?_
    refine J_goto (tgt := 13) C dX1_isInColumns_9 (by decide) ?_
    refine J_lv [0, 1] rfl ?_
    exact s_X1_isInColumns_13 C h
theorem c_X1_isInColumns {l : Launch} {g : Gd} {a : Nat → Nat} {w : XW} {K : Int32 → Prop} {v1 : Int32} (h : P_X1_isInColumns K w v1) : Kt l yX1_isInColumns cX1_isInColumns 2 (some .boolean) 1 21 g (sA 15 a) (xCl g a) [.ref (a 1), .int v1] w (QcI g (sA 15 a) (xCl g a) (fun r w' => K r ∧ w' = w)) :=
  Kt_of (by decide +kernel) (Nat.le_of_ble_eq_true rfl) (fun x hx C => s_X1_isInColumns C h)
theorem k_X1_isInColumns {x : Mx} {g : Gd} {a : Nat → Nat} {cc : ByteArray} {nL : Nat} {own : String} {ret : Option FieldType} {F L : Nat} {Q : State → Prop} {w : XW} {pc : Nat} {lv : List (Nat × Value)} {st : List Value} (C : Cx x g (sA 15 a) (xCl g a) cc nL own ret F L) {index : Nat} {K : Int32 → Prop} {v1 : Int32} (h1 : Cond.methodLink own index yX1_isInColumns ∈ gT) (hd : decode cc pc = .ok (.invokevirtual index, 3)) (hR : 1 + 1 ≤ F ∧ 8 + (2 + 11) + 21 ≤ L) (hst : (st.map fun v => v.category).sum ≤ 8) (h : P_X1_isInColumns K w v1) (k : ∀ (r : Int32), K r → J x g (sA 15 a) (xCl g a) nL Q w (pc + 3) lv (.int r :: st)) : J x g (sA 15 a) (xCl g a) nL Q w (pc) lv (.int v1 :: .ref (a 1) :: st) :=
  J_callVi C (As := [.int v1]) (b := a 1) (n := 1) (c_X1_isInColumns h) h1 mw_186 mw_187 mw_2 mw_188 (by decide +kernel) hR rfl (rc_X1 C) hst hd (fun r w' hK => by
    obtain ⟨hK, rfl⟩ := hK
    exact k r hK)
-- X1_cellIn (pure, room 0 0)
def P_X1_cellIn (K : Int32 → Prop) (w : XW) (v1 : Int32) (v2 : Int32) : Prop := (v1 < 0 → K (-1 : Int32)) ∧ (¬ v1 < 0 → ((cu_rows w) ≤ v1 → K (-1 : Int32)) ∧ (¬ (cu_rows w) ≤ v1 → (v2 < 0 → K (-1 : Int32)) ∧ (¬ v2 < 0 → vp_in (v1 + (1 : Int32)) 81 ∧ (vp_in v1 81 ∧ ((v2 < ((cu_rowStart w (v1 + (1 : Int32)).toNatClampNeg) - (cu_rowStart w v1.toNatClampNeg)) → vp_in v1 81 ∧ (K ((cu_rowStart w v1.toNatClampNeg) + v2))) ∧ (¬ v2 < ((cu_rowStart w (v1 + (1 : Int32)).toNatClampNeg) - (cu_rowStart w v1.toNatClampNeg)) → K (-1 : Int32)))))))
set_option maxRecDepth 10000 in
theorem s_X1_cellIn {x : Mx} {g : Gd} {a : Nat → Nat} (C : Cx x g (sA 15 a) (xCl g a) cX1_cellIn 3 RX1 (some .int) 0 0) {K : Int32 → Prop} {w : XW}  {v1 : Int32} {v2 : Int32} (h : P_X1_cellIn K w v1 v2) : J x g (sA 15 a) (xCl g a) 3 (JQ x (sA 15 a) (QcI g (sA 15 a) (xCl g a) (fun r w' => K r ∧ w' = w))) w 0 [(0, .ref (a 1)), (1, .int v1), (2, .int v2)] [] := by
  unfold P_X1_cellIn at h
  refine J_iload_n C 1 dX1_cellIn_0 rfl rfl ?_
  refine J_if_lt (tgt := 35) C dX1_cellIn_1 (by decide) h (fun h => ?_) (fun h => ?_)
  · refine J_iconst (v := (-1 : Int32)) C dX1_cellIn_35 (by decide) ?_
    exact J_iret C dX1_cellIn_36 ⟨h, rfl⟩
  · refine J_iload_n C 1 dX1_cellIn_4 rfl rfl ?_
    refine J_aload_n C 0 dX1_cellIn_5 rfl rfl ?_
    refine G_cu_rows C mw_32 dX1_cellIn_6 ?_
    refine J_icmp_ge (tgt := 35) C dX1_cellIn_9 (by decide) h (fun h => ?_) (fun h => ?_)
    · refine J_iconst (v := (-1 : Int32)) C dX1_cellIn_35 (by decide) ?_
      exact J_iret C dX1_cellIn_36 ⟨h, rfl⟩
    · refine J_iload_n C 2 dX1_cellIn_12 rfl rfl ?_
      refine J_if_lt (tgt := 35) C dX1_cellIn_13 (by decide) h (fun h => ?_) (fun h => ?_)
      · refine J_iconst (v := (-1 : Int32)) C dX1_cellIn_35 (by decide) ?_
        exact J_iret C dX1_cellIn_36 ⟨h, rfl⟩
      · refine J_iload_n C 2 dX1_cellIn_16 rfl rfl ?_
        refine J_aload_n C 0 dX1_cellIn_17 rfl rfl ?_
        refine G_cu_rowStart C mw_29 dX1_cellIn_18 ?_
        refine J_iload_n C 1 dX1_cellIn_21 rfl rfl ?_
        refine J_iconst (v := (1 : Int32)) C dX1_cellIn_22 (by decide) ?_
        refine J_iadd C dX1_cellIn_23 ?_
        refine L_cu_rowStart C dX1_cellIn_24 h (fun h => ?_)
        refine J_aload_n C 0 dX1_cellIn_25 rfl rfl ?_
        refine G_cu_rowStart C mw_29 dX1_cellIn_26 ?_
        refine J_iload_n C 1 dX1_cellIn_29 rfl rfl ?_
        refine L_cu_rowStart C dX1_cellIn_30 h (fun h => ?_)
        refine J_isub C dX1_cellIn_31 ?_
        refine J_icmp_lt (tgt := 37) C dX1_cellIn_32 (by decide) h (fun h => ?_) (fun h => ?_)
        · refine J_aload_n C 0 dX1_cellIn_37 rfl rfl ?_
          refine G_cu_rowStart C mw_29 dX1_cellIn_38 ?_
          refine J_iload_n C 1 dX1_cellIn_41 rfl rfl ?_
          refine L_cu_rowStart C dX1_cellIn_42 h (fun h => ?_)
          refine J_iload_n C 2 dX1_cellIn_43 rfl rfl ?_
          refine J_iadd C dX1_cellIn_44 ?_
          exact J_iret C dX1_cellIn_45 ⟨h, rfl⟩
        · refine J_iconst (v := (-1 : Int32)) C dX1_cellIn_35 (by decide) ?_
          exact J_iret C dX1_cellIn_36 ⟨h, rfl⟩
theorem c_X1_cellIn {l : Launch} {g : Gd} {a : Nat → Nat} {w : XW} {K : Int32 → Prop} {v1 : Int32} {v2 : Int32} (h : P_X1_cellIn K w v1 v2) : Kt l yX1_cellIn cX1_cellIn 3 (some .int) 0 0 g (sA 15 a) (xCl g a) [.ref (a 1), .int v1, .int v2] w (QcI g (sA 15 a) (xCl g a) (fun r w' => K r ∧ w' = w)) :=
  Kt_of (by decide +kernel) (Nat.le_of_ble_eq_true rfl) (fun x hx C => s_X1_cellIn C h)
theorem k_X1_cellIn {x : Mx} {g : Gd} {a : Nat → Nat} {cc : ByteArray} {nL : Nat} {own : String} {ret : Option FieldType} {F L : Nat} {Q : State → Prop} {w : XW} {pc : Nat} {lv : List (Nat × Value)} {st : List Value} (C : Cx x g (sA 15 a) (xCl g a) cc nL own ret F L) {index : Nat} {K : Int32 → Prop} {v1 : Int32} {v2 : Int32} (h1 : Cond.methodLink own index yX1_cellIn ∈ gT) (hd : decode cc pc = .ok (.invokevirtual index, 3)) (hR : 0 + 1 ≤ F ∧ 8 + (3 + 11) + 0 ≤ L) (hst : (st.map fun v => v.category).sum ≤ 8) (h : P_X1_cellIn K w v1 v2) (k : ∀ (r : Int32), K r → J x g (sA 15 a) (xCl g a) nL Q w (pc + 3) lv (.int r :: st)) : J x g (sA 15 a) (xCl g a) nL Q w (pc) lv (.int v2 :: .int v1 :: .ref (a 1) :: st) :=
  J_callVi C (As := [.int v1, .int v2]) (b := a 1) (n := 2) (c_X1_cellIn h) h1 mw_190 mw_191 mw_2 mw_192 (by decide +kernel) hR rfl (rc_X1 C) hst hd (fun r w' hK => by
    obtain ⟨hK, rfl⟩ := hK
    exact k r hK)
-- X1_isWord (pure, room 4 85)
def P_X1_isWord_41 (K : Int32 → Prop) (w : XW) (v1 : Int32) (v2 : Nat) (v3 : Int32) : Nat → Int32 → Prop
  | 0, _ => False
  | n + 1, v4 => (v3 ≤ v4 → K (1 : Int32)) ∧ (¬ v3 ≤ v4 → vp_in v1 961 ∧ (vp_in ((cu_cellStart w v1.toNatClampNeg) + v4) 1200 ∧ (Ps_chr (fun r_2 => ((cu_held w ((cu_cellStart w v1.toNatClampNeg) + v4).toNatClampNeg) = r_2 → P_X1_isWord_41 K w v1 v2 v3 n (v4 + (1 : Int32))) ∧ (¬ (cu_held w ((cu_cellStart w v1.toNatClampNeg) + v4).toNatClampNeg) = r_2 → K (0 : Int32))) v2 v4)))
set_option maxRecDepth 10000 in
theorem s_X1_isWord_41 {x : Mx} {g : Gd} {a : Nat → Nat} (C : Cx x g (sA 15 a) (xCl g a) cX1_isWord 5 RX1 (some .boolean) 4 85) {K : Int32 → Prop} {w : XW}  {v1 : Int32} {v2 : Nat} {v3 : Int32} : ∀ (n : Nat) (v4 : Int32), P_X1_isWord_41 K w v1 v2 v3 n v4 → J x g (sA 15 a) (xCl g a) 5 (JQ x (sA 15 a) (QcI g (sA 15 a) (xCl g a) (fun r w' => K r ∧ w' = w))) w 41 [(0, .ref (a 1)), (1, .int v1), (2, .ref (g.2.2.1 v2)), (3, .int v3), (4, .int v4)] [] := by
  intro n
  induction n with
  | zero => intro v4 h; exact h.elim
  | succ n ih =>
    intro v4 h
    unfold P_X1_isWord_41 at h
    refine J_iload C 4 dX1_isWord_41 rfl ?_
    refine J_iload_n C 3 dX1_isWord_43 rfl rfl ?_
    refine J_icmp_ge (tgt := 78) C dX1_isWord_44 (by decide) h (fun h => ?_) (fun h => ?_)
    · refine J_iconst (v := (1 : Int32)) C dX1_isWord_78 (by decide) ?_
      exact J_zret C dX1_isWord_79 rfl ⟨h, rfl⟩
    · refine J_aload_n C 0 dX1_isWord_47 rfl rfl ?_
      refine G_cu_held C mw_27 dX1_isWord_48 ?_
      refine J_aload_n C 0 dX1_isWord_51 rfl rfl ?_
      refine G_cu_cellStart C mw_28 dX1_isWord_52 ?_
      refine J_iload_n C 1 dX1_isWord_55 rfl rfl ?_
      refine L_cu_cellStart C dX1_isWord_56 h (fun h => ?_)
      refine J_iload C 4 dX1_isWord_57 rfl ?_
      refine J_iadd C dX1_isWord_59 ?_
      refine L_cu_held C dX1_isWord_60 h (fun h => ?_)
      refine J_aload_n C 2 dX1_isWord_61 rfl rfl ?_
      refine J_iload C 4 dX1_isWord_62 rfl ?_
      refine k_J0_charAt_5068e C mw_209 dX1_isWord_64 ⟨Nat.le_of_ble_eq_true rfl, Nat.le_of_ble_eq_true rfl⟩ (Nat.le_of_ble_eq_true rfl) h (fun r_2 h => ?_)
      refine J_icmp_eq (tgt := 72) C dX1_isWord_67 (by decide) h (fun h => ?_) (fun h => ?_)
      · refine J_iinc C 4 [(4, .int (v4 + (1 : Int32))), (0, .ref (a 1)), (1, .int v1), (2, .ref (g.2.2.1 v2)), (3, .int v3)] dX1_isWord_72 rfl rfl (by decide) rfl ?_
        refine J_goto (tgt := 41) C dX1_isWord_75 (by decide) ?_
        refine J_lv [1, 2, 3, 4, 0] rfl ?_
        exact ih _ h
      · refine J_iconst (v := (0 : Int32)) C dX1_isWord_70 (by decide) ?_
        exact J_zret C dX1_isWord_71 rfl ⟨h, rfl⟩
def P_X1_isWord (K : Int32 → Prop) (w : XW) (v1 : Int32) (v2 : Nat) : Prop := Ps_len (fun r_1 => (v1 < 0 → K (0 : Int32)) ∧ (¬ v1 < 0 → ((cu_cells w) ≤ v1 → K (0 : Int32)) ∧ (¬ (cu_cells w) ≤ v1 → vp_in (v1 + (1 : Int32)) 961 ∧ (vp_in v1 961 ∧ ((((cu_cellStart w (v1 + (1 : Int32)).toNatClampNeg) - (cu_cellStart w v1.toNatClampNeg)) = r_1 → ∃ nf : Nat, P_X1_isWord_41 K w v1 v2 r_1 nf (0 : Int32)) ∧ (¬ ((cu_cellStart w (v1 + (1 : Int32)).toNatClampNeg) - (cu_cellStart w v1.toNatClampNeg)) = r_1 → K (0 : Int32))))))) v2
set_option maxRecDepth 10000 in
theorem s_X1_isWord {x : Mx} {g : Gd} {a : Nat → Nat} (C : Cx x g (sA 15 a) (xCl g a) cX1_isWord 5 RX1 (some .boolean) 4 85) {K : Int32 → Prop} {w : XW}  {v1 : Int32} {v2 : Nat} (h : P_X1_isWord K w v1 v2) : J x g (sA 15 a) (xCl g a) 5 (JQ x (sA 15 a) (QcI g (sA 15 a) (xCl g a) (fun r w' => K r ∧ w' = w))) w 0 [(0, .ref (a 1)), (1, .int v1), (2, .ref (g.2.2.1 v2))] [] := by
  unfold P_X1_isWord at h
  refine J_aload_n C 2 dX1_isWord_0 rfl rfl ?_
  refine k_J0_length_8abf5 C mw_200 dX1_isWord_1 ⟨Nat.le_of_ble_eq_true rfl, Nat.le_of_ble_eq_true rfl⟩ (Nat.le_of_ble_eq_true rfl) h (fun r_1 h => ?_)
  refine J_istore_n C [(3, .int r_1), (0, .ref (a 1)), (1, .int v1), (2, .ref (g.2.2.1 v2))] dX1_isWord_4 rfl (by decide) rfl ?_
  refine J_iload_n C 2 dX1_isWord_5 rfl rfl ?_
  refine J_if_lt (tgt := 36) C dX1_isWord_6 (by decide) h (fun h => ?_) (fun h => ?_)
  · refine J_iconst (v := (0 : Int32)) C dX1_isWord_36 (by decide) ?_
    exact J_zret C dX1_isWord_37 rfl ⟨h, rfl⟩
  · refine J_iload_n C 2 dX1_isWord_9 rfl rfl ?_
    refine J_aload_n C 1 dX1_isWord_10 rfl rfl ?_
    refine G_cu_cells C mw_31 dX1_isWord_11 ?_
    refine J_icmp_ge (tgt := 36) C dX1_isWord_14 (by decide) h (fun h => ?_) (fun h => ?_)
    · refine J_iconst (v := (0 : Int32)) C dX1_isWord_36 (by decide) ?_
      exact J_zret C dX1_isWord_37 rfl ⟨h, rfl⟩
    · refine J_aload_n C 1 dX1_isWord_17 rfl rfl ?_
      refine G_cu_cellStart C mw_28 dX1_isWord_18 ?_
      refine J_iload_n C 2 dX1_isWord_21 rfl rfl ?_
      refine J_iconst (v := (1 : Int32)) C dX1_isWord_22 (by decide) ?_
      refine J_iadd C dX1_isWord_23 ?_
      refine L_cu_cellStart C dX1_isWord_24 h (fun h => ?_)
      refine J_aload_n C 1 dX1_isWord_25 rfl rfl ?_
      refine G_cu_cellStart C mw_28 dX1_isWord_26 ?_
      refine J_iload_n C 2 dX1_isWord_29 rfl rfl ?_
      refine L_cu_cellStart C dX1_isWord_30 h (fun h => ?_)
      refine J_isub C dX1_isWord_31 ?_
      refine J_iload_n C 0 dX1_isWord_32 rfl rfl ?_
      refine J_icmp_eq (tgt := 38) C dX1_isWord_33 (by decide) h (fun h => ?_) (fun h => ?_)
      · refine J_iconst (v := (0 : Int32)) C dX1_isWord_38 (by decide) ?_
        refine J_istore C [(4, .int (0 : Int32)), (3, .int r_1), (0, .ref (a 1)), (1, .int v1), (2, .ref (g.2.2.1 v2))] dX1_isWord_39 (by decide) rfl ?_
        obtain ⟨nf, h⟩ := h
        refine J_lv [2, 3, 4, 1, 0] rfl ?_
        refine s_X1_isWord_41 C  nf _ h
      · refine J_iconst (v := (0 : Int32)) C dX1_isWord_36 (by decide) ?_
        exact J_zret C dX1_isWord_37 rfl ⟨h, rfl⟩
theorem c_X1_isWord {l : Launch} {g : Gd} {a : Nat → Nat} {w : XW} {K : Int32 → Prop} {v1 : Int32} {v2 : Nat} (h : P_X1_isWord K w v1 v2) : Kt l yX1_isWord cX1_isWord 5 (some .boolean) 4 85 g (sA 15 a) (xCl g a) [.ref (a 1), .int v1, .ref (g.2.2.1 v2)] w (QcI g (sA 15 a) (xCl g a) (fun r w' => K r ∧ w' = w)) :=
  Kt_of (by decide +kernel) (Nat.le_of_ble_eq_true rfl) (fun x hx C => s_X1_isWord C h)
theorem k_X1_isWord {x : Mx} {g : Gd} {a : Nat → Nat} {cc : ByteArray} {nL : Nat} {own : String} {ret : Option FieldType} {F L : Nat} {Q : State → Prop} {w : XW} {pc : Nat} {lv : List (Nat × Value)} {st : List Value} (C : Cx x g (sA 15 a) (xCl g a) cc nL own ret F L) {index : Nat} {K : Int32 → Prop} {v1 : Int32} {v2 : Nat} (h1 : Cond.methodLink own index yX1_isWord ∈ gT) (hd : decode cc pc = .ok (.invokevirtual index, 3)) (hR : 4 + 1 ≤ F ∧ 8 + (5 + 11) + 85 ≤ L) (hst : (st.map fun v => v.category).sum ≤ 8) (h : P_X1_isWord K w v1 v2) (k : ∀ (r : Int32), K r → J x g (sA 15 a) (xCl g a) nL Q w (pc + 3) lv (.int r :: st)) : J x g (sA 15 a) (xCl g a) nL Q w (pc) lv (.ref (g.2.2.1 v2) :: .int v1 :: .ref (a 1) :: st) :=
  J_callVi C (As := [.int v1, .ref (g.2.2.1 v2)]) (b := a 1) (n := 2) (c_X1_isWord h) h1 mw_197 mw_198 mw_2 mw_199 (by decide +kernel) hR rfl (rc_X1 C) hst hd (fun r w' hK => by
    obtain ⟨hK, rfl⟩ := hK
    exact k r hK)
-- X0_isMissing (pure, room 5 109)
def P_X0_isMissing (K : Int32 → Prop) (w : XW) (v1 : Int32) (v2 : Int32) : Prop := (v2 = (1 : Int32) → P_X1_isWord (fun r_1 => vz r_1 ∧ K r_1) w v1 0) ∧ (v2 = (2 : Int32) → P_X1_isWord (fun r_2 => vz r_2 ∧ K r_2) w v1 1) ∧ (v2 = (3 : Int32) → P_X1_isWord (fun r_3 => vz r_3 ∧ K r_3) w v1 2) ∧ (v2 = (4 : Int32) → P_X1_isWord (fun r_4 => vz r_4 ∧ K r_4) w v1 3) ∧ (¬ v2 = (1 : Int32) → ¬ v2 = (2 : Int32) → ¬ v2 = (3 : Int32) → ¬ v2 = (4 : Int32) → K (0 : Int32))
set_option maxRecDepth 10000 in
theorem s_X0_isMissing {x : Mx} {g : Gd} {a : Nat → Nat} (C : Cx x g (sA 15 a) (xCl g a) cX0_isMissing 3 RX0 (some .boolean) 5 109) {K : Int32 → Prop} {w : XW}  {v1 : Int32} {v2 : Int32} (h : P_X0_isMissing K w v1 v2) : J x g (sA 15 a) (xCl g a) 3 (JQ x (sA 15 a) (QcI g (sA 15 a) (xCl g a) (fun r w' => K r ∧ w' = w))) w 0 [(0, .ref (a 2)), (1, .int v1), (2, .int v2)] [] := by
  unfold P_X0_isMissing at h
  refine J_iload_n C 2 dX0_isMissing_0 rfl rfl ?_
  by_cases e1 : v2 = (1 : Int32)
  · replace h := h.1 e1
    refine J_tsIn (tgt := 32) C dX0_isMissing_1 (by rw [e1]; decide) (by rw [e1]; decide) (by rw [e1]; rfl) (by decide) ?_
    refine J_aload_n C 0 dX0_isMissing_32 rfl rfl ?_
    refine G_cs_cut C mw_72 dX0_isMissing_33 ?_
    refine J_iload_n C 1 dX0_isMissing_36 rfl rfl ?_
    refine J_ldcS C 0 rfl dX0_isMissing_37 ?_
    refine k_X1_isWord C mw_196 dX0_isMissing_39 ⟨Nat.le_of_ble_eq_true rfl, Nat.le_of_ble_eq_true rfl⟩ (Nat.le_of_ble_eq_true rfl) h (fun r_1 h => ?_)
    exact J_zret C dX0_isMissing_42 h.1.1 ⟨h.2, rfl⟩
  replace h := h.2
  by_cases e2 : v2 = (2 : Int32)
  · replace h := h.1 e2
    refine J_tsIn (tgt := 43) C dX0_isMissing_1 (by rw [e2]; decide) (by rw [e2]; decide) (by rw [e2]; rfl) (by decide) ?_
    refine J_aload_n C 0 dX0_isMissing_43 rfl rfl ?_
    refine G_cs_cut C mw_72 dX0_isMissing_44 ?_
    refine J_iload_n C 1 dX0_isMissing_47 rfl rfl ?_
    refine J_ldcS C 1 rfl dX0_isMissing_48 ?_
    refine k_X1_isWord C mw_196 dX0_isMissing_50 ⟨Nat.le_of_ble_eq_true rfl, Nat.le_of_ble_eq_true rfl⟩ (Nat.le_of_ble_eq_true rfl) h (fun r_2 h => ?_)
    exact J_zret C dX0_isMissing_53 h.1.1 ⟨h.2, rfl⟩
  replace h := h.2
  by_cases e3 : v2 = (3 : Int32)
  · replace h := h.1 e3
    refine J_tsIn (tgt := 54) C dX0_isMissing_1 (by rw [e3]; decide) (by rw [e3]; decide) (by rw [e3]; rfl) (by decide) ?_
    refine J_aload_n C 0 dX0_isMissing_54 rfl rfl ?_
    refine G_cs_cut C mw_72 dX0_isMissing_55 ?_
    refine J_iload_n C 1 dX0_isMissing_58 rfl rfl ?_
    refine J_ldcS C 2 rfl dX0_isMissing_59 ?_
    refine k_X1_isWord C mw_196 dX0_isMissing_61 ⟨Nat.le_of_ble_eq_true rfl, Nat.le_of_ble_eq_true rfl⟩ (Nat.le_of_ble_eq_true rfl) h (fun r_3 h => ?_)
    exact J_zret C dX0_isMissing_64 h.1.1 ⟨h.2, rfl⟩
  replace h := h.2
  by_cases e4 : v2 = (4 : Int32)
  · replace h := h.1 e4
    refine J_tsIn (tgt := 65) C dX0_isMissing_1 (by rw [e4]; decide) (by rw [e4]; decide) (by rw [e4]; rfl) (by decide) ?_
    refine J_aload_n C 0 dX0_isMissing_65 rfl rfl ?_
    refine G_cs_cut C mw_72 dX0_isMissing_66 ?_
    refine J_iload_n C 1 dX0_isMissing_69 rfl rfl ?_
    refine J_ldcS C 3 rfl dX0_isMissing_70 ?_
    refine k_X1_isWord C mw_196 dX0_isMissing_72 ⟨Nat.le_of_ble_eq_true rfl, Nat.le_of_ble_eq_true rfl⟩ (Nat.le_of_ble_eq_true rfl) h (fun r_4 h => ?_)
    exact J_zret C dX0_isMissing_75 h.1.1 ⟨h.2, rfl⟩
  replace h := h.2
  replace h := h e1 e2 e3 e4
  refine J_tsOut (tgt := 76) C dX0_isMissing_1 (by have q1 := lv_neT (k := (1 : Int32)) (a := 1) e1 rfl; have q2 := lv_neT (k := (2 : Int32)) (a := 2) e2 rfl; have q3 := lv_neT (k := (3 : Int32)) (a := 3) e3 rfl; have q4 := lv_neT (k := (4 : Int32)) (a := 4) e4 rfl; omega) (by decide) ?_
  refine J_iconst (v := (0 : Int32)) C dX0_isMissing_76 (by decide) ?_
  exact J_zret C dX0_isMissing_77 rfl ⟨h, rfl⟩
theorem c_X0_isMissing {l : Launch} {g : Gd} {a : Nat → Nat} {w : XW} {K : Int32 → Prop} {v1 : Int32} {v2 : Int32} (h : P_X0_isMissing K w v1 v2) : Kt l yX0_isMissing cX0_isMissing 3 (some .boolean) 5 109 g (sA 15 a) (xCl g a) [.ref (a 2), .int v1, .int v2] w (QcI g (sA 15 a) (xCl g a) (fun r w' => K r ∧ w' = w)) :=
  Kt_of (by decide +kernel) (Nat.le_of_ble_eq_true rfl) (fun x hx C => s_X0_isMissing C h)
theorem k_X0_isMissing {x : Mx} {g : Gd} {a : Nat → Nat} {cc : ByteArray} {nL : Nat} {own : String} {ret : Option FieldType} {F L : Nat} {Q : State → Prop} {w : XW} {pc : Nat} {lv : List (Nat × Value)} {st : List Value} (C : Cx x g (sA 15 a) (xCl g a) cc nL own ret F L) {index : Nat} {K : Int32 → Prop} {v1 : Int32} {v2 : Int32} (h1 : Cond.methodLink own index yX0_isMissing ∈ gT) (hd : decode cc pc = .ok (.invokevirtual index, 3)) (hR : 5 + 1 ≤ F ∧ 8 + (3 + 11) + 109 ≤ L) (hst : (st.map fun v => v.category).sum ≤ 8) (h : P_X0_isMissing K w v1 v2) (k : ∀ (r : Int32), K r → J x g (sA 15 a) (xCl g a) nL Q w (pc + 3) lv (.int r :: st)) : J x g (sA 15 a) (xCl g a) nL Q w (pc) lv (.int v2 :: .int v1 :: .ref (a 2) :: st) :=
  J_callVi C (As := [.int v1, .int v2]) (b := a 2) (n := 2) (c_X0_isMissing h) h1 mw_194 mw_762 mw_3 mw_195 (by decide +kernel) hR rfl (rc_X0 C) hst hd (fun r w' hK => by
    obtain ⟨hK, rfl⟩ := hK
    exact k r hK)
-- X2_prepare (changes, room 0 0)
def P_X2_prepare (K : XW → Prop) (w : XW) (v1 : Int32) (v2 : Int32) : Prop := vz v2 ∧ (K (fm_capped_s (fm_first_s w v1) v2))
set_option maxRecDepth 10000 in
theorem s_X2_prepare {x : Mx} {g : Gd} {a : Nat → Nat} (C : Cx x g (sA 15 a) (xCl g a) cX2_prepare 3 RX2 none 0 0) {K : XW → Prop}  {w : XW} {v1 : Int32} {v2 : Int32} (h : P_X2_prepare K w v1 v2) : J x g (sA 15 a) (xCl g a) 3 (JQ x (sA 15 a) (QcV g (sA 15 a) (xCl g a) K)) w 0 [(0, .ref (a 3)), (1, .int v1), (2, .int v2)] [] := by
  unfold P_X2_prepare at h
  refine J_aload_n C 0 dX2_prepare_0 rfl rfl ?_
  refine J_iload_n C 1 dX2_prepare_1 rfl rfl ?_
  refine S_fm_first C mw_58 dX2_prepare_2 ?_
  refine J_aload_n C 0 dX2_prepare_5 rfl rfl ?_
  refine J_iload_n C 2 dX2_prepare_6 rfl rfl ?_
  refine S_fm_capped C h.1 mw_59 dX2_prepare_7 ?_
  replace h := h.2
  exact J_vret C dX2_prepare_10 h
theorem c_X2_prepare {l : Launch} {g : Gd} {a : Nat → Nat} {w : XW} {K : XW → Prop} {v1 : Int32} {v2 : Int32} (h : P_X2_prepare K w v1 v2) : Kt l yX2_prepare cX2_prepare 3 none 0 0 g (sA 15 a) (xCl g a) [.ref (a 3), .int v1, .int v2] w (QcV g (sA 15 a) (xCl g a) K) :=
  Kt_of (by decide +kernel) (Nat.le_of_ble_eq_true rfl) (fun x hx C => s_X2_prepare C h)
theorem k_X2_prepare {x : Mx} {g : Gd} {a : Nat → Nat} {cc : ByteArray} {nL : Nat} {own : String} {ret : Option FieldType} {F L : Nat} {Q : State → Prop} {w : XW} {pc : Nat} {lv : List (Nat × Value)} {st : List Value} (C : Cx x g (sA 15 a) (xCl g a) cc nL own ret F L) {index : Nat} {K : XW → Prop} {v1 : Int32} {v2 : Int32} (h1 : Cond.methodLink own index yX2_prepare ∈ gT) (hd : decode cc pc = .ok (.invokevirtual index, 3)) (hR : 0 + 1 ≤ F ∧ 8 + (3 + 11) + 0 ≤ L) (hst : (st.map fun v => v.category).sum ≤ 8) (h : P_X2_prepare K w v1 v2) (k : ∀  (w' : XW), K w' → J x g (sA 15 a) (xCl g a) nL Q w' (pc + 3) lv st) : J x g (sA 15 a) (xCl g a) nL Q w (pc) lv (.int v2 :: .int v1 :: .ref (a 3) :: st) :=
  J_callVv C (As := [.int v1, .int v2]) (b := a 3) (n := 2) (c_X2_prepare h) h1 mw_244 mw_245 mw_4 mw_246 (by decide +kernel) hR rfl (rc_X2 C) hst hd k
-- X0_survey (changes, room 6 131)
def P_X0_survey_82 (K : XW → Prop) (B12 : XW → Int32 → Prop) (E88 : XW → Prop) (w : XW) (v1 : Int32) (v2 : Int32) (v3 : Int32) : Prop := B12 w (v3 + (1 : Int32))
set_option maxRecDepth 10000 in
theorem s_X0_survey_82 {x : Mx} {g : Gd} {a : Nat → Nat} (C : Cx x g (sA 15 a) (xCl g a) cX0_survey 5 RX0 none 6 131) {K : XW → Prop}  {v1 : Int32} {v2 : Int32} {v3 : Int32} {B12 : XW → Int32 → Prop} {E88 : XW → Prop} (hB12 : ∀ (w : XW) (v3 : Int32), B12 w v3 → J x g (sA 15 a) (xCl g a) 5 (JQ x (sA 15 a) (QcV g (sA 15 a) (xCl g a) K)) w 12 [(0, .ref (a 2)), (1, .int v1), (2, .int v2), (3, .int v3)] []) (hE88 : ∀ (w : XW), E88 w → J x g (sA 15 a) (xCl g a) 5 (JQ x (sA 15 a) (QcV g (sA 15 a) (xCl g a) K)) w 88 [(0, .ref (a 2)), (2, .int v2)] []) {w : XW} (h : P_X0_survey_82 K B12 E88 w v1 v2 v3) : J x g (sA 15 a) (xCl g a) 5 (JQ x (sA 15 a) (QcV g (sA 15 a) (xCl g a) K)) w 82 [(0, .ref (a 2)), (1, .int v1), (2, .int v2), (3, .int v3)] [] := by
  unfold P_X0_survey_82 at h
  refine J_iinc C 3 [(3, .int (v3 + (1 : Int32))), (0, .ref (a 2)), (1, .int v1), (2, .int v2)] dX0_survey_82 rfl rfl (by decide) rfl ?_
  refine J_goto (tgt := 12) C dX0_survey_85 (by decide) ?_
  refine J_lv [1, 2, 3, 0] rfl ?_
  exact hB12 _ _ h
def P_X0_survey_12 (K : XW → Prop) (E88 : XW → Prop) (v1 : Int32) (v2 : Int32) : Nat → XW → Int32 → Prop
  | 0, _, _ => False
  | n + 1, w, v3 => ((cu_rows w) ≤ v3 → E88 w) ∧ (¬ (cu_rows w) ≤ v3 → P_X1_isInColumns (fun r_1 => (r_1 = 0 → P_X0_survey_82 K (P_X0_survey_12 K E88 v1 v2 n) E88 w v1 v2 v3) ∧ (¬ r_1 = 0 → P_X1_cellIn (fun r_2 => P_X0_isMissing (fun r_3 => (r_3 = 0 → (¬ (cs_firstPresent w) = (-1 : Int32) → P_X0_survey_82 K (P_X0_survey_12 K E88 v1 v2 n) E88 w v1 v2 v3) ∧ ((cs_firstPresent w) = (-1 : Int32) → P_X0_survey_82 K (P_X0_survey_12 K E88 v1 v2 n) E88 (cs_firstPresent_s w r_2) v1 v2 v3)) ∧ (¬ r_3 = 0 → P_X0_survey_82 K (P_X0_survey_12 K E88 v1 v2 n) E88 (cs_surveyedMissing_s w ((cs_surveyedMissing w) + (1 : Int32))) v1 v2 v3)) w r_2 v2) w v3 v1)) w v3)
set_option maxRecDepth 10000 in
theorem s_X0_survey_12 {x : Mx} {g : Gd} {a : Nat → Nat} (C : Cx x g (sA 15 a) (xCl g a) cX0_survey 5 RX0 none 6 131) {K : XW → Prop}  {v1 : Int32} {v2 : Int32} {E88 : XW → Prop} (hE88 : ∀ (w : XW), E88 w → J x g (sA 15 a) (xCl g a) 5 (JQ x (sA 15 a) (QcV g (sA 15 a) (xCl g a) K)) w 88 [(0, .ref (a 2)), (2, .int v2)] []) : ∀ (n : Nat) (w : XW) (v3 : Int32), P_X0_survey_12 K E88 v1 v2 n w v3 → J x g (sA 15 a) (xCl g a) 5 (JQ x (sA 15 a) (QcV g (sA 15 a) (xCl g a) K)) w 12 [(0, .ref (a 2)), (1, .int v1), (2, .int v2), (3, .int v3)] [] := by
  intro n
  induction n with
  | zero => intro w v3 h; exact h.elim
  | succ n ih =>
    intro w v3 h
    unfold P_X0_survey_12 at h
    refine J_iload_n C 3 dX0_survey_12 rfl rfl ?_
    refine J_aload_n C 0 dX0_survey_13 rfl rfl ?_
    refine G_cs_cut C mw_72 dX0_survey_14 ?_
    refine G_cu_rows C mw_33 dX0_survey_17 ?_
    refine J_icmp_ge (tgt := 88) C dX0_survey_20 (by decide) h (fun h => ?_) (fun h => ?_)
    · refine J_lv [0, 2] rfl ?_
      exact hE88 _ h
    · refine J_aload_n C 0 dX0_survey_23 rfl rfl ?_
      refine G_cs_cut C mw_72 dX0_survey_24 ?_
      refine J_iload_n C 3 dX0_survey_27 rfl rfl ?_
      refine k_X1_isInColumns C mw_185 dX0_survey_28 ⟨Nat.le_of_ble_eq_true rfl, Nat.le_of_ble_eq_true rfl⟩ (Nat.le_of_ble_eq_true rfl) h (fun r_1 h => ?_)
      refine J_if_eq (tgt := 82) C dX0_survey_31 (by decide) h (fun h => ?_) (fun h => ?_)
      · refine J_lv [0, 1, 2, 3] rfl ?_
        exact s_X0_survey_82 C ih hE88 h
      · refine J_aload_n C 0 dX0_survey_34 rfl rfl ?_
        refine G_cs_cut C mw_72 dX0_survey_35 ?_
        refine J_iload_n C 3 dX0_survey_38 rfl rfl ?_
        refine J_iload_n C 1 dX0_survey_39 rfl rfl ?_
        refine k_X1_cellIn C mw_189 dX0_survey_40 ⟨Nat.le_of_ble_eq_true rfl, Nat.le_of_ble_eq_true rfl⟩ (Nat.le_of_ble_eq_true rfl) h (fun r_2 h => ?_)
        refine J_istore C [(4, .int r_2), (0, .ref (a 2)), (1, .int v1), (2, .int v2), (3, .int v3)] dX0_survey_43 (by decide) rfl ?_
        refine J_aload_n C 1 dX0_survey_45 rfl rfl ?_
        refine J_iload C 0 dX0_survey_46 rfl ?_
        refine J_iload_n C 3 dX0_survey_48 rfl rfl ?_
        refine k_X0_isMissing C mw_193 dX0_survey_49 ⟨Nat.le_of_ble_eq_true rfl, Nat.le_of_ble_eq_true rfl⟩ (Nat.le_of_ble_eq_true rfl) h (fun r_3 h => ?_)
        refine J_if_eq (tgt := 68) C dX0_survey_52 (by decide) h (fun h => ?_) (fun h => ?_)
        · refine J_aload_n C 1 dX0_survey_68 rfl rfl ?_
          refine G_cs_firstPresent C mw_75 dX0_survey_69 ?_
          refine J_iconst (v := (-1 : Int32)) C dX0_survey_72 (by decide) ?_
          refine J_icmp_ne (tgt := 82) C dX0_survey_73 (by decide) h (fun h => ?_) (fun h => ?_)
          · refine J_lv [1, 2, 3, 4] rfl ?_
            exact s_X0_survey_82 C ih hE88 h
          · refine J_aload_n C 1 dX0_survey_76 rfl rfl ?_
            refine J_iload C 0 dX0_survey_77 rfl ?_
            refine S_cs_firstPresent C mw_75 dX0_survey_79 ?_
            refine J_lv [1, 2, 3, 4] rfl ?_
            exact s_X0_survey_82 C ih hE88 h
        · refine J_aload_n C 1 dX0_survey_55 rfl rfl ?_
          refine J_dup C dX0_survey_56 rfl ?_
          refine G_cs_surveyedMissing C mw_74 dX0_survey_57 ?_
          refine J_iconst (v := (1 : Int32)) C dX0_survey_60 (by decide) ?_
          refine J_iadd C dX0_survey_61 ?_
          refine S_cs_surveyedMissing C mw_74 dX0_survey_62 ?_
          refine J_goto (tgt := 82) C dX0_survey_65 (by decide) ?_
          refine J_lv [1, 2, 3, 4] rfl ?_
          exact s_X0_survey_82 C ih hE88 h
def P_X0_survey_106 (K : XW → Prop) (w : XW) (s0 : Int32) (s1 : Int32) : Prop := P_X2_prepare (fun w_5 => K w_5) w s1 s0
set_option maxRecDepth 10000 in
theorem s_X0_survey_106 {x : Mx} {g : Gd} {a : Nat → Nat} (C : Cx x g (sA 15 a) (xCl g a) cX0_survey 5 RX0 none 6 131) {K : XW → Prop}  {s0 : Int32} {s1 : Int32} {w : XW} (h : P_X0_survey_106 K w s0 s1) : J x g (sA 15 a) (xCl g a) 5 (JQ x (sA 15 a) (QcV g (sA 15 a) (xCl g a) K)) w 106 [] [.int s0, .int s1, .ref (a 3)] := by
  unfold P_X0_survey_106 at h
  refine k_X2_prepare C mw_243 dX0_survey_106 ⟨Nat.le_of_ble_eq_true rfl, Nat.le_of_ble_eq_true rfl⟩ (Nat.le_of_ble_eq_true rfl) h (fun w_5 h => ?_)
  exact J_vret C dX0_survey_109 h
def P_X0_survey (K : XW → Prop) (w : XW) (v1 : Int32) (v2 : Int32) : Prop := ∃ nf : Nat, P_X0_survey_12 K (fun w_4 => (¬ v2 = (4 : Int32) → P_X0_survey_106 K w_4 (0 : Int32) (cs_firstPresent w_4)) ∧ (v2 = (4 : Int32) → P_X0_survey_106 K w_4 (1 : Int32) (cs_firstPresent w_4))) v1 v2 nf (cs_firstPresent_s (cs_surveyedMissing_s w (0 : Int32)) (-1 : Int32)) (0 : Int32)
set_option maxRecDepth 10000 in
theorem s_X0_survey {x : Mx} {g : Gd} {a : Nat → Nat} (C : Cx x g (sA 15 a) (xCl g a) cX0_survey 5 RX0 none 6 131) {K : XW → Prop}  {w : XW} {v1 : Int32} {v2 : Int32} (h : P_X0_survey K w v1 v2) : J x g (sA 15 a) (xCl g a) 5 (JQ x (sA 15 a) (QcV g (sA 15 a) (xCl g a) K)) w 0 [(0, .ref (a 2)), (1, .int v1), (2, .int v2)] [] := by
  unfold P_X0_survey at h
  refine J_aload_n C 0 dX0_survey_0 rfl rfl ?_
  refine J_iconst (v := (0 : Int32)) C dX0_survey_1 (by decide) ?_
  refine S_cs_surveyedMissing C mw_74 dX0_survey_2 ?_
  refine J_aload_n C 0 dX0_survey_5 rfl rfl ?_
  refine J_iconst (v := (-1 : Int32)) C dX0_survey_6 (by decide) ?_
  refine S_cs_firstPresent C mw_75 dX0_survey_7 ?_
  refine J_iconst (v := (0 : Int32)) C dX0_survey_10 (by decide) ?_
  refine J_istore_n C [(3, .int (0 : Int32)), (0, .ref (a 2)), (1, .int v1), (2, .int v2)] dX0_survey_11 rfl (by decide) rfl ?_
  obtain ⟨nf, h⟩ := h
  refine J_lv [1, 2, 3, 0] rfl ?_
  refine s_X0_survey_12 C (fun w_4 h => ?_) nf _ _ h
  · refine J_aload_n C 0 dX0_survey_88 rfl rfl ?_
    refine G_cs_forms C mw_73 dX0_survey_89 ?_
    refine J_aload_n C 0 dX0_survey_92 rfl rfl ?_
    refine G_cs_firstPresent C mw_75 dX0_survey_93 ?_
    refine J_iload_n C 1 dX0_survey_96 rfl rfl ?_
    refine J_iconst (v := (4 : Int32)) C dX0_survey_97 (by decide) ?_
    refine J_icmp_ne (tgt := 105) C dX0_survey_98 (by decide) h (fun h => ?_) (fun h => ?_)
    · refine J_iconst (v := (0 : Int32)) C dX0_survey_105 (by decide) ?_
      refine J_lv [] rfl ?_
      exact s_X0_survey_106 C h
    · refine J_iconst (v := (1 : Int32)) C dX0_survey_101 (by decide) ?_
      refine J_goto (tgt := 106) C dX0_survey_102 (by decide) ?_
      refine J_lv [] rfl ?_
      exact s_X0_survey_106 C h
theorem c_X0_survey {l : Launch} {g : Gd} {a : Nat → Nat} {w : XW} {K : XW → Prop} {v1 : Int32} {v2 : Int32} (h : P_X0_survey K w v1 v2) : Kt l yX0_survey cX0_survey 5 none 6 131 g (sA 15 a) (xCl g a) [.ref (a 2), .int v1, .int v2] w (QcV g (sA 15 a) (xCl g a) K) :=
  Kt_of (by decide +kernel) (Nat.le_of_ble_eq_true rfl) (fun x hx C => s_X0_survey C h)
theorem k_X0_survey {x : Mx} {g : Gd} {a : Nat → Nat} {cc : ByteArray} {nL : Nat} {own : String} {ret : Option FieldType} {F L : Nat} {Q : State → Prop} {w : XW} {pc : Nat} {lv : List (Nat × Value)} {st : List Value} (C : Cx x g (sA 15 a) (xCl g a) cc nL own ret F L) {index : Nat} {K : XW → Prop} {v1 : Int32} {v2 : Int32} (h1 : Cond.methodLink own index yX0_survey ∈ gT) (hd : decode cc pc = .ok (.invokevirtual index, 3)) (hR : 6 + 1 ≤ F ∧ 8 + (5 + 11) + 131 ≤ L) (hst : (st.map fun v => v.category).sum ≤ 8) (h : P_X0_survey K w v1 v2) (k : ∀  (w' : XW), K w' → J x g (sA 15 a) (xCl g a) nL Q w' (pc + 3) lv st) : J x g (sA 15 a) (xCl g a) nL Q w (pc) lv (.int v2 :: .int v1 :: .ref (a 2) :: st) :=
  J_callVv C (As := [.int v1, .int v2]) (b := a 2) (n := 2) (c_X0_survey h) h1 mw_182 mw_183 mw_3 mw_184 (by decide +kernel) hR rfl (rc_X0 C) hst hd k
-- X2_isNumber (pure, room 0 0)
def P_X2_isNumber (K : Int32 → Prop) (v0 : Int32) : Prop := (v0 < (7 : Int32) → K (0 : Int32)) ∧ (¬ v0 < (7 : Int32) → ((21 : Int32) < v0 → K (0 : Int32)) ∧ (¬ (21 : Int32) < v0 → K (1 : Int32)))
set_option maxRecDepth 10000 in
theorem s_X2_isNumber {x : Mx} {g : Gd} {Wd : Type} {A : Nat → Prop} {cl : Wd → va_W} (C : Cx x g A cl cX2_isNumber 1 RX2 (some .boolean) 0 0) {K : Int32 → Prop} {w : Wd}  {v0 : Int32} (h : P_X2_isNumber K v0) : J x g A cl 1 (JQ x A (QcI g A cl (fun r w' => K r ∧ w' = w))) w 0 [(0, .int v0)] [] := by
  unfold P_X2_isNumber at h
  refine J_iload_n C 0 dX2_isNumber_0 rfl rfl ?_
  refine J_bipush (v := (7 : Int32)) C dX2_isNumber_1 (by decide) ?_
  refine J_icmp_lt (tgt := 16) C dX2_isNumber_3 (by decide) h (fun h => ?_) (fun h => ?_)
  · refine J_iconst (v := (0 : Int32)) C dX2_isNumber_16 (by decide) ?_
    exact J_zret C dX2_isNumber_17 rfl ⟨h, rfl⟩
  · refine J_iload_n C 0 dX2_isNumber_6 rfl rfl ?_
    refine J_bipush (v := (21 : Int32)) C dX2_isNumber_7 (by decide) ?_
    refine J_icmp_gt (tgt := 16) C dX2_isNumber_9 (by decide) h (fun h => ?_) (fun h => ?_)
    · refine J_iconst (v := (0 : Int32)) C dX2_isNumber_16 (by decide) ?_
      exact J_zret C dX2_isNumber_17 rfl ⟨h, rfl⟩
    · refine J_iconst (v := (1 : Int32)) C dX2_isNumber_12 (by decide) ?_
      refine J_goto (tgt := 17) C dX2_isNumber_13 (by decide) ?_
      exact J_zret C dX2_isNumber_17 rfl ⟨h, rfl⟩
theorem c_X2_isNumber {l : Launch} {g : Gd} {Wd : Type} {A : Nat → Prop} {cl : Wd → va_W} {w : Wd} {K : Int32 → Prop} {v0 : Int32} (h : P_X2_isNumber K v0) : Kt l yX2_isNumber cX2_isNumber 1 (some .boolean) 0 0 g A cl [.int v0] w (QcI g A cl (fun r w' => K r ∧ w' = w)) :=
  Kt_of (by decide +kernel) (Nat.le_of_ble_eq_true rfl) (fun x hx C => s_X2_isNumber C h)
theorem k_X2_isNumber {x : Mx} {g : Gd} {Wd : Type} {A : Nat → Prop} {cl : Wd → va_W} {cc : ByteArray} {nL : Nat} {own : String} {ret : Option FieldType} {F L : Nat} {Q : State → Prop} {w : Wd} {pc : Nat} {lv : List (Nat × Value)} {st : List Value} (C : Cx x g A cl cc nL own ret F L) {index : Nat} {K : Int32 → Prop} {v0 : Int32} (h1 : Cond.methodLink own index yX2_isNumber ∈ gT) (hd : decode cc pc = .ok (.invokestatic index, 3)) (hR : 0 + 1 ≤ F ∧ 8 + (1 + 11) + 0 ≤ L) (hst : (st.map fun v => v.category).sum ≤ 8) (h : P_X2_isNumber K v0) (k : ∀ (r : Int32), K r → J x g A cl nL Q w (pc + 3) lv (.int r :: st)) : J x g A cl nL Q w (pc) lv (.int v0 :: st) :=
  J_callSi C (As := [.int v0]) (n := 1) (c_X2_isNumber h) h1 mw_252 mw_4 mw_253 (by decide +kernel) hR rfl hst hd (fun r w' hK => by
    obtain ⟨hK, rfl⟩ := hK
    exact k r hK)
-- X1_lengthOf (pure, room 0 0)
def P_X1_lengthOf (K : Int32 → Prop) (w : XW) (v1 : Int32) : Prop := (v1 < 0 → K (-1 : Int32)) ∧ (¬ v1 < 0 → (v1 < (cu_cells w) → vp_in (v1 + (1 : Int32)) 961 ∧ (vp_in v1 961 ∧ (K ((cu_cellStart w (v1 + (1 : Int32)).toNatClampNeg) - (cu_cellStart w v1.toNatClampNeg))))) ∧ (¬ v1 < (cu_cells w) → K (-1 : Int32)))
set_option maxRecDepth 10000 in
theorem s_X1_lengthOf {x : Mx} {g : Gd} {a : Nat → Nat} (C : Cx x g (sA 15 a) (xCl g a) cX1_lengthOf 2 RX1 (some .int) 0 0) {K : Int32 → Prop} {w : XW}  {v1 : Int32} (h : P_X1_lengthOf K w v1) : J x g (sA 15 a) (xCl g a) 2 (JQ x (sA 15 a) (QcI g (sA 15 a) (xCl g a) (fun r w' => K r ∧ w' = w))) w 0 [(0, .ref (a 1)), (1, .int v1)] [] := by
  unfold P_X1_lengthOf at h
  refine J_iload_n C 1 dX1_lengthOf_0 rfl rfl ?_
  refine J_if_lt (tgt := 12) C dX1_lengthOf_1 (by decide) h (fun h => ?_) (fun h => ?_)
  · refine J_iconst (v := (-1 : Int32)) C dX1_lengthOf_12 (by decide) ?_
    refine J_goto (tgt := 31) C dX1_lengthOf_13 (by decide) ?_
    exact J_iret C dX1_lengthOf_31 ⟨h, rfl⟩
  · refine J_iload_n C 1 dX1_lengthOf_4 rfl rfl ?_
    refine J_aload_n C 0 dX1_lengthOf_5 rfl rfl ?_
    refine G_cu_cells C mw_31 dX1_lengthOf_6 ?_
    refine J_icmp_lt (tgt := 16) C dX1_lengthOf_9 (by decide) h (fun h => ?_) (fun h => ?_)
    · refine J_aload_n C 0 dX1_lengthOf_16 rfl rfl ?_
      refine G_cu_cellStart C mw_28 dX1_lengthOf_17 ?_
      refine J_iload_n C 1 dX1_lengthOf_20 rfl rfl ?_
      refine J_iconst (v := (1 : Int32)) C dX1_lengthOf_21 (by decide) ?_
      refine J_iadd C dX1_lengthOf_22 ?_
      refine L_cu_cellStart C dX1_lengthOf_23 h (fun h => ?_)
      refine J_aload_n C 0 dX1_lengthOf_24 rfl rfl ?_
      refine G_cu_cellStart C mw_28 dX1_lengthOf_25 ?_
      refine J_iload_n C 1 dX1_lengthOf_28 rfl rfl ?_
      refine L_cu_cellStart C dX1_lengthOf_29 h (fun h => ?_)
      refine J_isub C dX1_lengthOf_30 ?_
      exact J_iret C dX1_lengthOf_31 ⟨h, rfl⟩
    · refine J_iconst (v := (-1 : Int32)) C dX1_lengthOf_12 (by decide) ?_
      refine J_goto (tgt := 31) C dX1_lengthOf_13 (by decide) ?_
      exact J_iret C dX1_lengthOf_31 ⟨h, rfl⟩
theorem c_X1_lengthOf {l : Launch} {g : Gd} {a : Nat → Nat} {w : XW} {K : Int32 → Prop} {v1 : Int32} (h : P_X1_lengthOf K w v1) : Kt l yX1_lengthOf cX1_lengthOf 2 (some .int) 0 0 g (sA 15 a) (xCl g a) [.ref (a 1), .int v1] w (QcI g (sA 15 a) (xCl g a) (fun r w' => K r ∧ w' = w)) :=
  Kt_of (by decide +kernel) (Nat.le_of_ble_eq_true rfl) (fun x hx C => s_X1_lengthOf C h)
theorem k_X1_lengthOf {x : Mx} {g : Gd} {a : Nat → Nat} {cc : ByteArray} {nL : Nat} {own : String} {ret : Option FieldType} {F L : Nat} {Q : State → Prop} {w : XW} {pc : Nat} {lv : List (Nat × Value)} {st : List Value} (C : Cx x g (sA 15 a) (xCl g a) cc nL own ret F L) {index : Nat} {K : Int32 → Prop} {v1 : Int32} (h1 : Cond.methodLink own index yX1_lengthOf ∈ gT) (hd : decode cc pc = .ok (.invokevirtual index, 3)) (hR : 0 + 1 ≤ F ∧ 8 + (2 + 11) + 0 ≤ L) (hst : (st.map fun v => v.category).sum ≤ 8) (h : P_X1_lengthOf K w v1) (k : ∀ (r : Int32), K r → J x g (sA 15 a) (xCl g a) nL Q w (pc + 3) lv (.int r :: st)) : J x g (sA 15 a) (xCl g a) nL Q w (pc) lv (.int v1 :: .ref (a 1) :: st) :=
  J_callVi C (As := [.int v1]) (b := a 1) (n := 1) (c_X1_lengthOf h) h1 mw_259 mw_260 mw_2 mw_261 (by decide +kernel) hR rfl (rc_X1 C) hst hd (fun r w' hK => by
    obtain ⟨hK, rfl⟩ := hK
    exact k r hK)
-- X2_priceOfForm (pure, room 1 21)
def P_X2_priceOfForm (K : Int32 → Prop) (w : XW) (v1 : Int32) : Prop := (¬ v1 = 0 → ((6 : Int32) < v1 → ((21 : Int32) < v1 → ((30 : Int32) < v1 → P_X1_lengthOf (fun r_1 => K ((14 : Int32) + ((2 : Int32) * r_1))) w (fm_first w)) ∧ (¬ (30 : Int32) < v1 → K (20 : Int32))) ∧ (¬ (21 : Int32) < v1 → K (16 : Int32))) ∧ (¬ (6 : Int32) < v1 → K (12 : Int32))) ∧ (v1 = 0 → K (0 : Int32))
set_option maxRecDepth 10000 in
theorem s_X2_priceOfForm {x : Mx} {g : Gd} {a : Nat → Nat} (C : Cx x g (sA 15 a) (xCl g a) cX2_priceOfForm 2 RX2 (some .int) 1 21) {K : Int32 → Prop} {w : XW}  {v1 : Int32} (h : P_X2_priceOfForm K w v1) : J x g (sA 15 a) (xCl g a) 2 (JQ x (sA 15 a) (QcI g (sA 15 a) (xCl g a) (fun r w' => K r ∧ w' = w))) w 0 [(0, .ref (a 3)), (1, .int v1)] [] := by
  unfold P_X2_priceOfForm at h
  refine J_iload_n C 1 dX2_priceOfForm_0 rfl rfl ?_
  refine J_if_ne (tgt := 6) C dX2_priceOfForm_1 (by decide) h (fun h => ?_) (fun h => ?_)
  · refine J_iload_n C 1 dX2_priceOfForm_6 rfl rfl ?_
    refine J_bipush (v := (6 : Int32)) C dX2_priceOfForm_7 (by decide) ?_
    refine J_icmp_gt (tgt := 15) C dX2_priceOfForm_9 (by decide) h (fun h => ?_) (fun h => ?_)
    · refine J_iload_n C 1 dX2_priceOfForm_15 rfl rfl ?_
      refine J_bipush (v := (21 : Int32)) C dX2_priceOfForm_16 (by decide) ?_
      refine J_icmp_gt (tgt := 24) C dX2_priceOfForm_18 (by decide) h (fun h => ?_) (fun h => ?_)
      · refine J_iload_n C 1 dX2_priceOfForm_24 rfl rfl ?_
        refine J_bipush (v := (30 : Int32)) C dX2_priceOfForm_25 (by decide) ?_
        refine J_icmp_gt (tgt := 35) C dX2_priceOfForm_27 (by decide) h (fun h => ?_) (fun h => ?_)
        · refine J_bipush (v := (14 : Int32)) C dX2_priceOfForm_35 (by decide) ?_
          refine J_iconst (v := (2 : Int32)) C dX2_priceOfForm_37 (by decide) ?_
          refine J_aload_n C 0 dX2_priceOfForm_38 rfl rfl ?_
          refine G_fm_cut C mw_57 dX2_priceOfForm_39 ?_
          refine J_aload_n C 0 dX2_priceOfForm_42 rfl rfl ?_
          refine G_fm_first C mw_58 dX2_priceOfForm_43 ?_
          refine k_X1_lengthOf C mw_258 dX2_priceOfForm_46 ⟨Nat.le_of_ble_eq_true rfl, Nat.le_of_ble_eq_true rfl⟩ (Nat.le_of_ble_eq_true rfl) h (fun r_1 h => ?_)
          refine J_imul C dX2_priceOfForm_49 ?_
          refine J_iadd C dX2_priceOfForm_50 ?_
          exact J_iret C dX2_priceOfForm_51 ⟨h, rfl⟩
        · refine J_bipush (v := (20 : Int32)) C dX2_priceOfForm_30 (by decide) ?_
          refine J_goto (tgt := 51) C dX2_priceOfForm_32 (by decide) ?_
          exact J_iret C dX2_priceOfForm_51 ⟨h, rfl⟩
      · refine J_bipush (v := (16 : Int32)) C dX2_priceOfForm_21 (by decide) ?_
        exact J_iret C dX2_priceOfForm_23 ⟨h, rfl⟩
    · refine J_bipush (v := (12 : Int32)) C dX2_priceOfForm_12 (by decide) ?_
      exact J_iret C dX2_priceOfForm_14 ⟨h, rfl⟩
  · refine J_iconst (v := (0 : Int32)) C dX2_priceOfForm_4 (by decide) ?_
    exact J_iret C dX2_priceOfForm_5 ⟨h, rfl⟩
theorem c_X2_priceOfForm {l : Launch} {g : Gd} {a : Nat → Nat} {w : XW} {K : Int32 → Prop} {v1 : Int32} (h : P_X2_priceOfForm K w v1) : Kt l yX2_priceOfForm cX2_priceOfForm 2 (some .int) 1 21 g (sA 15 a) (xCl g a) [.ref (a 3), .int v1] w (QcI g (sA 15 a) (xCl g a) (fun r w' => K r ∧ w' = w)) :=
  Kt_of (by decide +kernel) (Nat.le_of_ble_eq_true rfl) (fun x hx C => s_X2_priceOfForm C h)
theorem k_X2_priceOfForm {x : Mx} {g : Gd} {a : Nat → Nat} {cc : ByteArray} {nL : Nat} {own : String} {ret : Option FieldType} {F L : Nat} {Q : State → Prop} {w : XW} {pc : Nat} {lv : List (Nat × Value)} {st : List Value} (C : Cx x g (sA 15 a) (xCl g a) cc nL own ret F L) {index : Nat} {K : Int32 → Prop} {v1 : Int32} (h1 : Cond.methodLink own index yX2_priceOfForm ∈ gT) (hd : decode cc pc = .ok (.invokevirtual index, 3)) (hR : 1 + 1 ≤ F ∧ 8 + (2 + 11) + 21 ≤ L) (hst : (st.map fun v => v.category).sum ≤ 8) (h : P_X2_priceOfForm K w v1) (k : ∀ (r : Int32), K r → J x g (sA 15 a) (xCl g a) nL Q w (pc + 3) lv (.int r :: st)) : J x g (sA 15 a) (xCl g a) nL Q w (pc) lv (.int v1 :: .ref (a 3) :: st) :=
  J_callVi C (As := [.int v1]) (b := a 3) (n := 1) (c_X2_priceOfForm h) h1 mw_255 mw_256 mw_4 mw_257 (by decide +kernel) hR rfl (rc_X2 C) hst hd (fun r w' hK => by
    obtain ⟨hK, rfl⟩ := hK
    exact k r hK)
-- X2_yesOf (pure, room 0 0)
def P_X2_yesOf (K : Nat → Prop) (v0 : Int32) : Prop := (v0 = (1 : Int32) → K 4) ∧ (v0 = (2 : Int32) → K 5) ∧ (v0 = (3 : Int32) → K 6) ∧ (v0 = (4 : Int32) → K 7) ∧ (v0 = (5 : Int32) → K 8) ∧ (¬ v0 = (1 : Int32) → ¬ v0 = (2 : Int32) → ¬ v0 = (3 : Int32) → ¬ v0 = (4 : Int32) → ¬ v0 = (5 : Int32) → K 9)
set_option maxRecDepth 10000 in
theorem s_X2_yesOf {x : Mx} {g : Gd} {Wd : Type} {A : Nat → Prop} {cl : Wd → va_W} (C : Cx x g A cl cX2_yesOf 1 RX2 (some (.object "java/lang/String")) 0 0) {K : Nat → Prop} {w : Wd}  {v0 : Int32} (h : P_X2_yesOf K v0) : J x g A cl 1 (JQ x A (QcS g A cl (fun r w' => K r ∧ w' = w))) w 0 [(0, .int v0)] [] := by
  unfold P_X2_yesOf at h
  refine J_iload_n C 0 dX2_yesOf_0 rfl rfl ?_
  by_cases e1 : v0 = (1 : Int32)
  · replace h := h.1 e1
    refine J_tsIn (tgt := 36) C dX2_yesOf_1 (by rw [e1]; decide) (by rw [e1]; decide) (by rw [e1]; rfl) (by decide) ?_
    refine J_ldcS C 4 rfl dX2_yesOf_36 ?_
    exact J_sret C (Or.inl ⟨_, rfl⟩) dX2_yesOf_38 ⟨h, rfl⟩
  replace h := h.2
  by_cases e2 : v0 = (2 : Int32)
  · replace h := h.1 e2
    refine J_tsIn (tgt := 39) C dX2_yesOf_1 (by rw [e2]; decide) (by rw [e2]; decide) (by rw [e2]; rfl) (by decide) ?_
    refine J_ldcS C 5 rfl dX2_yesOf_39 ?_
    exact J_sret C (Or.inl ⟨_, rfl⟩) dX2_yesOf_41 ⟨h, rfl⟩
  replace h := h.2
  by_cases e3 : v0 = (3 : Int32)
  · replace h := h.1 e3
    refine J_tsIn (tgt := 42) C dX2_yesOf_1 (by rw [e3]; decide) (by rw [e3]; decide) (by rw [e3]; rfl) (by decide) ?_
    refine J_ldcS C 6 rfl dX2_yesOf_42 ?_
    exact J_sret C (Or.inl ⟨_, rfl⟩) dX2_yesOf_44 ⟨h, rfl⟩
  replace h := h.2
  by_cases e4 : v0 = (4 : Int32)
  · replace h := h.1 e4
    refine J_tsIn (tgt := 45) C dX2_yesOf_1 (by rw [e4]; decide) (by rw [e4]; decide) (by rw [e4]; rfl) (by decide) ?_
    refine J_ldcS C 7 rfl dX2_yesOf_45 ?_
    exact J_sret C (Or.inl ⟨_, rfl⟩) dX2_yesOf_47 ⟨h, rfl⟩
  replace h := h.2
  by_cases e5 : v0 = (5 : Int32)
  · replace h := h.1 e5
    refine J_tsIn (tgt := 48) C dX2_yesOf_1 (by rw [e5]; decide) (by rw [e5]; decide) (by rw [e5]; rfl) (by decide) ?_
    refine J_ldcS C 8 rfl dX2_yesOf_48 ?_
    exact J_sret C (Or.inl ⟨_, rfl⟩) dX2_yesOf_50 ⟨h, rfl⟩
  replace h := h.2
  replace h := h e1 e2 e3 e4 e5
  refine J_tsOut (tgt := 51) C dX2_yesOf_1 (by have q1 := lv_neT (k := (1 : Int32)) (a := 1) e1 rfl; have q2 := lv_neT (k := (2 : Int32)) (a := 2) e2 rfl; have q3 := lv_neT (k := (3 : Int32)) (a := 3) e3 rfl; have q4 := lv_neT (k := (4 : Int32)) (a := 4) e4 rfl; have q5 := lv_neT (k := (5 : Int32)) (a := 5) e5 rfl; omega) (by decide) ?_
  refine J_ldcS C 9 rfl dX2_yesOf_51 ?_
  exact J_sret C (Or.inl ⟨_, rfl⟩) dX2_yesOf_53 ⟨h, rfl⟩
theorem c_X2_yesOf {l : Launch} {g : Gd} {Wd : Type} {A : Nat → Prop} {cl : Wd → va_W} {w : Wd} {K : Nat → Prop} {v0 : Int32} (h : P_X2_yesOf K v0) : Kt l yX2_yesOf cX2_yesOf 1 (some (.object "java/lang/String")) 0 0 g A cl [.int v0] w (QcS g A cl (fun r w' => K r ∧ w' = w)) :=
  Kt_of (by decide +kernel) (Nat.le_of_ble_eq_true rfl) (fun x hx C => s_X2_yesOf C h)
theorem k_X2_yesOf {x : Mx} {g : Gd} {Wd : Type} {A : Nat → Prop} {cl : Wd → va_W} {cc : ByteArray} {nL : Nat} {own : String} {ret : Option FieldType} {F L : Nat} {Q : State → Prop} {w : Wd} {pc : Nat} {lv : List (Nat × Value)} {st : List Value} (C : Cx x g A cl cc nL own ret F L) {index : Nat} {K : Nat → Prop} {v0 : Int32} (h1 : Cond.methodLink own index yX2_yesOf ∈ gT) (hd : decode cc pc = .ok (.invokestatic index, 3)) (hR : 0 + 1 ≤ F ∧ 8 + (1 + 11) + 0 ≤ L) (hst : (st.map fun v => v.category).sum ≤ 8) (h : P_X2_yesOf K v0) (k : ∀ (r : Nat), K r → J x g A cl nL Q w (pc + 3) lv (.ref (g.2.2.1 r) :: st)) : J x g A cl nL Q w (pc) lv (.int v0 :: st) :=
  J_callSs C (As := [.int v0]) (n := 1) (c_X2_yesOf h) h1 mw_270 mw_4 mw_271 (by decide +kernel) hR rfl hst hd (fun r w' hK => by
    obtain ⟨hK, rfl⟩ := hK
    exact k r hK)
-- X2_noOf (pure, room 0 0)
def P_X2_noOf (K : Nat → Prop) (v0 : Int32) : Prop := (v0 = (1 : Int32) → K 10) ∧ (v0 = (2 : Int32) → K 11) ∧ (v0 = (3 : Int32) → K 12) ∧ (v0 = (4 : Int32) → K 13) ∧ (v0 = (5 : Int32) → K 14) ∧ (¬ v0 = (1 : Int32) → ¬ v0 = (2 : Int32) → ¬ v0 = (3 : Int32) → ¬ v0 = (4 : Int32) → ¬ v0 = (5 : Int32) → K 15)
set_option maxRecDepth 10000 in
theorem s_X2_noOf {x : Mx} {g : Gd} {Wd : Type} {A : Nat → Prop} {cl : Wd → va_W} (C : Cx x g A cl cX2_noOf 1 RX2 (some (.object "java/lang/String")) 0 0) {K : Nat → Prop} {w : Wd}  {v0 : Int32} (h : P_X2_noOf K v0) : J x g A cl 1 (JQ x A (QcS g A cl (fun r w' => K r ∧ w' = w))) w 0 [(0, .int v0)] [] := by
  unfold P_X2_noOf at h
  refine J_iload_n C 0 dX2_noOf_0 rfl rfl ?_
  by_cases e1 : v0 = (1 : Int32)
  · replace h := h.1 e1
    refine J_tsIn (tgt := 36) C dX2_noOf_1 (by rw [e1]; decide) (by rw [e1]; decide) (by rw [e1]; rfl) (by decide) ?_
    refine J_ldcS C 10 rfl dX2_noOf_36 ?_
    exact J_sret C (Or.inl ⟨_, rfl⟩) dX2_noOf_38 ⟨h, rfl⟩
  replace h := h.2
  by_cases e2 : v0 = (2 : Int32)
  · replace h := h.1 e2
    refine J_tsIn (tgt := 39) C dX2_noOf_1 (by rw [e2]; decide) (by rw [e2]; decide) (by rw [e2]; rfl) (by decide) ?_
    refine J_ldcS C 11 rfl dX2_noOf_39 ?_
    exact J_sret C (Or.inl ⟨_, rfl⟩) dX2_noOf_41 ⟨h, rfl⟩
  replace h := h.2
  by_cases e3 : v0 = (3 : Int32)
  · replace h := h.1 e3
    refine J_tsIn (tgt := 42) C dX2_noOf_1 (by rw [e3]; decide) (by rw [e3]; decide) (by rw [e3]; rfl) (by decide) ?_
    refine J_ldcS C 12 rfl dX2_noOf_42 ?_
    exact J_sret C (Or.inl ⟨_, rfl⟩) dX2_noOf_44 ⟨h, rfl⟩
  replace h := h.2
  by_cases e4 : v0 = (4 : Int32)
  · replace h := h.1 e4
    refine J_tsIn (tgt := 45) C dX2_noOf_1 (by rw [e4]; decide) (by rw [e4]; decide) (by rw [e4]; rfl) (by decide) ?_
    refine J_ldcS C 13 rfl dX2_noOf_45 ?_
    exact J_sret C (Or.inl ⟨_, rfl⟩) dX2_noOf_47 ⟨h, rfl⟩
  replace h := h.2
  by_cases e5 : v0 = (5 : Int32)
  · replace h := h.1 e5
    refine J_tsIn (tgt := 48) C dX2_noOf_1 (by rw [e5]; decide) (by rw [e5]; decide) (by rw [e5]; rfl) (by decide) ?_
    refine J_ldcS C 14 rfl dX2_noOf_48 ?_
    exact J_sret C (Or.inl ⟨_, rfl⟩) dX2_noOf_50 ⟨h, rfl⟩
  replace h := h.2
  replace h := h e1 e2 e3 e4 e5
  refine J_tsOut (tgt := 51) C dX2_noOf_1 (by have q1 := lv_neT (k := (1 : Int32)) (a := 1) e1 rfl; have q2 := lv_neT (k := (2 : Int32)) (a := 2) e2 rfl; have q3 := lv_neT (k := (3 : Int32)) (a := 3) e3 rfl; have q4 := lv_neT (k := (4 : Int32)) (a := 4) e4 rfl; have q5 := lv_neT (k := (5 : Int32)) (a := 5) e5 rfl; omega) (by decide) ?_
  refine J_ldcS C 15 rfl dX2_noOf_51 ?_
  exact J_sret C (Or.inl ⟨_, rfl⟩) dX2_noOf_53 ⟨h, rfl⟩
theorem c_X2_noOf {l : Launch} {g : Gd} {Wd : Type} {A : Nat → Prop} {cl : Wd → va_W} {w : Wd} {K : Nat → Prop} {v0 : Int32} (h : P_X2_noOf K v0) : Kt l yX2_noOf cX2_noOf 1 (some (.object "java/lang/String")) 0 0 g A cl [.int v0] w (QcS g A cl (fun r w' => K r ∧ w' = w)) :=
  Kt_of (by decide +kernel) (Nat.le_of_ble_eq_true rfl) (fun x hx C => s_X2_noOf C h)
theorem k_X2_noOf {x : Mx} {g : Gd} {Wd : Type} {A : Nat → Prop} {cl : Wd → va_W} {cc : ByteArray} {nL : Nat} {own : String} {ret : Option FieldType} {F L : Nat} {Q : State → Prop} {w : Wd} {pc : Nat} {lv : List (Nat × Value)} {st : List Value} (C : Cx x g A cl cc nL own ret F L) {index : Nat} {K : Nat → Prop} {v0 : Int32} (h1 : Cond.methodLink own index yX2_noOf ∈ gT) (hd : decode cc pc = .ok (.invokestatic index, 3)) (hR : 0 + 1 ≤ F ∧ 8 + (1 + 11) + 0 ≤ L) (hst : (st.map fun v => v.category).sum ≤ 8) (h : P_X2_noOf K v0) (k : ∀ (r : Nat), K r → J x g A cl nL Q w (pc + 3) lv (.ref (g.2.2.1 r) :: st)) : J x g A cl nL Q w (pc) lv (.int v0 :: st) :=
  J_callSs C (As := [.int v0]) (n := 1) (c_X2_noOf h) h1 mw_274 mw_4 mw_275 (by decide +kernel) hR rfl hst hd (fun r w' hK => by
    obtain ⟨hK, rfl⟩ := hK
    exact k r hK)
-- X2_tellsFlag (changes, room 5 109)
def P_X2_tellsFlag_21 (K : Int32 → XW → Prop) (w : XW) (v1 : Int32) (v2 : Int32) (s0 : Int32) : Prop := ((fm_worth (fm_worth_s w s0)) = (1 : Int32) → K (1 : Int32) (fm_worth_s w s0)) ∧ (¬ (fm_worth (fm_worth_s w s0)) = (1 : Int32) → P_X2_noOf (fun r_3 => P_X1_isWord (fun r_4 => (r_4 = 0 → K (0 : Int32) (fm_worth_s w s0)) ∧ (¬ r_4 = 0 → K (1 : Int32) (fm_worth_s w s0))) (fm_worth_s w s0) v2 r_3) v1)
set_option maxRecDepth 10000 in
theorem s_X2_tellsFlag_21 {x : Mx} {g : Gd} {a : Nat → Nat} (C : Cx x g (sA 15 a) (xCl g a) cX2_tellsFlag 3 RX2 (some .boolean) 5 109) {K : Int32 → XW → Prop}  {v1 : Int32} {v2 : Int32} {s0 : Int32} {w : XW} (h : P_X2_tellsFlag_21 K w v1 v2 s0) : J x g (sA 15 a) (xCl g a) 3 (JQ x (sA 15 a) (QcI g (sA 15 a) (xCl g a) K)) w 21 [(0, .ref (a 3)), (1, .int v1), (2, .int v2)] [.int s0, .ref (a 3)] := by
  unfold P_X2_tellsFlag_21 at h
  refine S_fm_worth C mw_60 dX2_tellsFlag_21 ?_
  refine J_aload_n C 0 dX2_tellsFlag_24 rfl rfl ?_
  refine G_fm_worth C mw_60 dX2_tellsFlag_25 ?_
  refine J_iconst (v := (1 : Int32)) C dX2_tellsFlag_28 (by decide) ?_
  refine J_icmp_eq (tgt := 47) C dX2_tellsFlag_29 (by decide) h (fun h => ?_) (fun h => ?_)
  · refine J_iconst (v := (1 : Int32)) C dX2_tellsFlag_47 (by decide) ?_
    refine J_goto (tgt := 52) C dX2_tellsFlag_48 (by decide) ?_
    exact J_zret C dX2_tellsFlag_52 rfl h
  · refine J_aload_n C 0 dX2_tellsFlag_32 rfl rfl ?_
    refine G_fm_cut C mw_57 dX2_tellsFlag_33 ?_
    refine J_iload_n C 2 dX2_tellsFlag_36 rfl rfl ?_
    refine J_iload_n C 1 dX2_tellsFlag_37 rfl rfl ?_
    refine k_X2_noOf C mw_273 dX2_tellsFlag_38 ⟨Nat.le_of_ble_eq_true rfl, Nat.le_of_ble_eq_true rfl⟩ (Nat.le_of_ble_eq_true rfl) h (fun r_3 h => ?_)
    refine k_X1_isWord C mw_272 dX2_tellsFlag_41 ⟨Nat.le_of_ble_eq_true rfl, Nat.le_of_ble_eq_true rfl⟩ (Nat.le_of_ble_eq_true rfl) h (fun r_4 h => ?_)
    refine J_if_eq (tgt := 51) C dX2_tellsFlag_44 (by decide) h (fun h => ?_) (fun h => ?_)
    · refine J_iconst (v := (0 : Int32)) C dX2_tellsFlag_51 (by decide) ?_
      exact J_zret C dX2_tellsFlag_52 rfl h
    · refine J_iconst (v := (1 : Int32)) C dX2_tellsFlag_47 (by decide) ?_
      refine J_goto (tgt := 52) C dX2_tellsFlag_48 (by decide) ?_
      exact J_zret C dX2_tellsFlag_52 rfl h
def P_X2_tellsFlag (K : Int32 → XW → Prop) (w : XW) (v1 : Int32) (v2 : Int32) : Prop := P_X2_yesOf (fun r_1 => P_X1_isWord (fun r_2 => (r_2 = 0 → P_X2_tellsFlag_21 K w v1 v2 (0 : Int32)) ∧ (¬ r_2 = 0 → P_X2_tellsFlag_21 K w v1 v2 (1 : Int32))) w v2 r_1) v1
set_option maxRecDepth 10000 in
theorem s_X2_tellsFlag {x : Mx} {g : Gd} {a : Nat → Nat} (C : Cx x g (sA 15 a) (xCl g a) cX2_tellsFlag 3 RX2 (some .boolean) 5 109) {K : Int32 → XW → Prop}  {w : XW} {v1 : Int32} {v2 : Int32} (h : P_X2_tellsFlag K w v1 v2) : J x g (sA 15 a) (xCl g a) 3 (JQ x (sA 15 a) (QcI g (sA 15 a) (xCl g a) K)) w 0 [(0, .ref (a 3)), (1, .int v1), (2, .int v2)] [] := by
  unfold P_X2_tellsFlag at h
  refine J_aload_n C 0 dX2_tellsFlag_0 rfl rfl ?_
  refine J_aload_n C 0 dX2_tellsFlag_1 rfl rfl ?_
  refine G_fm_cut C mw_57 dX2_tellsFlag_2 ?_
  refine J_iload_n C 2 dX2_tellsFlag_5 rfl rfl ?_
  refine J_iload_n C 1 dX2_tellsFlag_6 rfl rfl ?_
  refine k_X2_yesOf C mw_269 dX2_tellsFlag_7 ⟨Nat.le_of_ble_eq_true rfl, Nat.le_of_ble_eq_true rfl⟩ (Nat.le_of_ble_eq_true rfl) h (fun r_1 h => ?_)
  refine k_X1_isWord C mw_272 dX2_tellsFlag_10 ⟨Nat.le_of_ble_eq_true rfl, Nat.le_of_ble_eq_true rfl⟩ (Nat.le_of_ble_eq_true rfl) h (fun r_2 h => ?_)
  refine J_if_eq (tgt := 20) C dX2_tellsFlag_13 (by decide) h (fun h => ?_) (fun h => ?_)
  · refine J_iconst (v := (0 : Int32)) C dX2_tellsFlag_20 (by decide) ?_
    refine J_lv [0, 1, 2] rfl ?_
    exact s_X2_tellsFlag_21 C h
  · refine J_iconst (v := (1 : Int32)) C dX2_tellsFlag_16 (by decide) ?_
    refine J_goto (tgt := 21) C dX2_tellsFlag_17 (by decide) ?_
    refine J_lv [0, 1, 2] rfl ?_
    exact s_X2_tellsFlag_21 C h
theorem c_X2_tellsFlag {l : Launch} {g : Gd} {a : Nat → Nat} {w : XW} {K : Int32 → XW → Prop} {v1 : Int32} {v2 : Int32} (h : P_X2_tellsFlag K w v1 v2) : Kt l yX2_tellsFlag cX2_tellsFlag 3 (some .boolean) 5 109 g (sA 15 a) (xCl g a) [.ref (a 3), .int v1, .int v2] w (QcI g (sA 15 a) (xCl g a) K) :=
  Kt_of (by decide +kernel) (Nat.le_of_ble_eq_true rfl) (fun x hx C => s_X2_tellsFlag C h)
theorem k_X2_tellsFlag {x : Mx} {g : Gd} {a : Nat → Nat} {cc : ByteArray} {nL : Nat} {own : String} {ret : Option FieldType} {F L : Nat} {Q : State → Prop} {w : XW} {pc : Nat} {lv : List (Nat × Value)} {st : List Value} (C : Cx x g (sA 15 a) (xCl g a) cc nL own ret F L) {index : Nat} {K : Int32 → XW → Prop} {v1 : Int32} {v2 : Int32} (h1 : Cond.methodLink own index yX2_tellsFlag ∈ gT) (hd : decode cc pc = .ok (.invokevirtual index, 3)) (hR : 5 + 1 ≤ F ∧ 8 + (3 + 11) + 109 ≤ L) (hst : (st.map fun v => v.category).sum ≤ 8) (h : P_X2_tellsFlag K w v1 v2) (k : ∀ (r : Int32) (w' : XW), K r w' → J x g (sA 15 a) (xCl g a) nL Q w' (pc + 3) lv (.int r :: st)) : J x g (sA 15 a) (xCl g a) nL Q w (pc) lv (.int v2 :: .int v1 :: .ref (a 3) :: st) :=
  J_callVi C (As := [.int v1, .int v2]) (b := a 3) (n := 2) (c_X2_tellsFlag h) h1 mw_267 mw_763 mw_4 mw_268 (by decide +kernel) hR rfl (rc_X2 C) hst hd k
-- X2_decimalsOf (pure, room 0 0)
def P_X2_decimalsOf (K : Int32 → Prop) (v0 : Int32) : Prop := ((10 : Int32) ≤ v0 → K (((v0 - (10 : Int32)) / (4 : Int32)) + (1 : Int32))) ∧ (¬ (10 : Int32) ≤ v0 → K (0 : Int32))
set_option maxRecDepth 10000 in
theorem s_X2_decimalsOf {x : Mx} {g : Gd} {Wd : Type} {A : Nat → Prop} {cl : Wd → va_W} (C : Cx x g A cl cX2_decimalsOf 1 RX2 (some .int) 0 0) {K : Int32 → Prop} {w : Wd}  {v0 : Int32} (h : P_X2_decimalsOf K v0) : J x g A cl 1 (JQ x A (QcI g A cl (fun r w' => K r ∧ w' = w))) w 0 [(0, .int v0)] [] := by
  unfold P_X2_decimalsOf at h
  refine J_iload_n C 0 dX2_decimalsOf_0 rfl rfl ?_
  refine J_bipush (v := (10 : Int32)) C dX2_decimalsOf_1 (by decide) ?_
  refine J_icmp_ge (tgt := 10) C dX2_decimalsOf_3 (by decide) h (fun h => ?_) (fun h => ?_)
  · refine J_iload_n C 0 dX2_decimalsOf_10 rfl rfl ?_
    refine J_bipush (v := (10 : Int32)) C dX2_decimalsOf_11 (by decide) ?_
    refine J_isub C dX2_decimalsOf_13 ?_
    refine J_iconst (v := (4 : Int32)) C dX2_decimalsOf_14 (by decide) ?_
    refine J_idiv C dX2_decimalsOf_15 (by decide) ?_
    refine J_iconst (v := (1 : Int32)) C dX2_decimalsOf_16 (by decide) ?_
    refine J_iadd C dX2_decimalsOf_17 ?_
    exact J_iret C dX2_decimalsOf_18 ⟨h, rfl⟩
  · refine J_iconst (v := (0 : Int32)) C dX2_decimalsOf_6 (by decide) ?_
    refine J_goto (tgt := 18) C dX2_decimalsOf_7 (by decide) ?_
    exact J_iret C dX2_decimalsOf_18 ⟨h, rfl⟩
theorem c_X2_decimalsOf {l : Launch} {g : Gd} {Wd : Type} {A : Nat → Prop} {cl : Wd → va_W} {w : Wd} {K : Int32 → Prop} {v0 : Int32} (h : P_X2_decimalsOf K v0) : Kt l yX2_decimalsOf cX2_decimalsOf 1 (some .int) 0 0 g A cl [.int v0] w (QcI g A cl (fun r w' => K r ∧ w' = w)) :=
  Kt_of (by decide +kernel) (Nat.le_of_ble_eq_true rfl) (fun x hx C => s_X2_decimalsOf C h)
theorem k_X2_decimalsOf {x : Mx} {g : Gd} {Wd : Type} {A : Nat → Prop} {cl : Wd → va_W} {cc : ByteArray} {nL : Nat} {own : String} {ret : Option FieldType} {F L : Nat} {Q : State → Prop} {w : Wd} {pc : Nat} {lv : List (Nat × Value)} {st : List Value} (C : Cx x g A cl cc nL own ret F L) {index : Nat} {K : Int32 → Prop} {v0 : Int32} (h1 : Cond.methodLink own index yX2_decimalsOf ∈ gT) (hd : decode cc pc = .ok (.invokestatic index, 3)) (hR : 0 + 1 ≤ F ∧ 8 + (1 + 11) + 0 ≤ L) (hst : (st.map fun v => v.category).sum ≤ 8) (h : P_X2_decimalsOf K v0) (k : ∀ (r : Int32), K r → J x g A cl nL Q w (pc + 3) lv (.int r :: st)) : J x g A cl nL Q w (pc) lv (.int v0 :: st) :=
  J_callSi C (As := [.int v0]) (n := 1) (c_X2_decimalsOf h) h1 mw_280 mw_4 mw_281 (by decide +kernel) hR rfl hst hd (fun r w' hK => by
    obtain ⟨hK, rfl⟩ := hK
    exact k r hK)
-- X1_byteIn (pure, room 0 0)
def P_X1_byteIn (K : Int32 → Prop) (w : XW) (v1 : Int32) (v2 : Int32) : Prop := (v1 < 0 → K (-1 : Int32)) ∧ (¬ v1 < 0 → ((cu_cells w) ≤ v1 → K (-1 : Int32)) ∧ (¬ (cu_cells w) ≤ v1 → (v2 < 0 → K (-1 : Int32)) ∧ (¬ v2 < 0 → vp_in (v1 + (1 : Int32)) 961 ∧ (vp_in v1 961 ∧ ((v2 < ((cu_cellStart w (v1 + (1 : Int32)).toNatClampNeg) - (cu_cellStart w v1.toNatClampNeg)) → vp_in v1 961 ∧ (vp_in ((cu_cellStart w v1.toNatClampNeg) + v2) 1200 ∧ (K (cu_held w ((cu_cellStart w v1.toNatClampNeg) + v2).toNatClampNeg)))) ∧ (¬ v2 < ((cu_cellStart w (v1 + (1 : Int32)).toNatClampNeg) - (cu_cellStart w v1.toNatClampNeg)) → K (-1 : Int32)))))))
set_option maxRecDepth 10000 in
theorem s_X1_byteIn {x : Mx} {g : Gd} {a : Nat → Nat} (C : Cx x g (sA 15 a) (xCl g a) cX1_byteIn 3 RX1 (some .int) 0 0) {K : Int32 → Prop} {w : XW}  {v1 : Int32} {v2 : Int32} (h : P_X1_byteIn K w v1 v2) : J x g (sA 15 a) (xCl g a) 3 (JQ x (sA 15 a) (QcI g (sA 15 a) (xCl g a) (fun r w' => K r ∧ w' = w))) w 0 [(0, .ref (a 1)), (1, .int v1), (2, .int v2)] [] := by
  unfold P_X1_byteIn at h
  refine J_iload_n C 1 dX1_byteIn_0 rfl rfl ?_
  refine J_if_lt (tgt := 35) C dX1_byteIn_1 (by decide) h (fun h => ?_) (fun h => ?_)
  · refine J_iconst (v := (-1 : Int32)) C dX1_byteIn_35 (by decide) ?_
    exact J_iret C dX1_byteIn_36 ⟨h, rfl⟩
  · refine J_iload_n C 1 dX1_byteIn_4 rfl rfl ?_
    refine J_aload_n C 0 dX1_byteIn_5 rfl rfl ?_
    refine G_cu_cells C mw_31 dX1_byteIn_6 ?_
    refine J_icmp_ge (tgt := 35) C dX1_byteIn_9 (by decide) h (fun h => ?_) (fun h => ?_)
    · refine J_iconst (v := (-1 : Int32)) C dX1_byteIn_35 (by decide) ?_
      exact J_iret C dX1_byteIn_36 ⟨h, rfl⟩
    · refine J_iload_n C 2 dX1_byteIn_12 rfl rfl ?_
      refine J_if_lt (tgt := 35) C dX1_byteIn_13 (by decide) h (fun h => ?_) (fun h => ?_)
      · refine J_iconst (v := (-1 : Int32)) C dX1_byteIn_35 (by decide) ?_
        exact J_iret C dX1_byteIn_36 ⟨h, rfl⟩
      · refine J_iload_n C 2 dX1_byteIn_16 rfl rfl ?_
        refine J_aload_n C 0 dX1_byteIn_17 rfl rfl ?_
        refine G_cu_cellStart C mw_28 dX1_byteIn_18 ?_
        refine J_iload_n C 1 dX1_byteIn_21 rfl rfl ?_
        refine J_iconst (v := (1 : Int32)) C dX1_byteIn_22 (by decide) ?_
        refine J_iadd C dX1_byteIn_23 ?_
        refine L_cu_cellStart C dX1_byteIn_24 h (fun h => ?_)
        refine J_aload_n C 0 dX1_byteIn_25 rfl rfl ?_
        refine G_cu_cellStart C mw_28 dX1_byteIn_26 ?_
        refine J_iload_n C 1 dX1_byteIn_29 rfl rfl ?_
        refine L_cu_cellStart C dX1_byteIn_30 h (fun h => ?_)
        refine J_isub C dX1_byteIn_31 ?_
        refine J_icmp_lt (tgt := 37) C dX1_byteIn_32 (by decide) h (fun h => ?_) (fun h => ?_)
        · refine J_aload_n C 0 dX1_byteIn_37 rfl rfl ?_
          refine G_cu_held C mw_27 dX1_byteIn_38 ?_
          refine J_aload_n C 0 dX1_byteIn_41 rfl rfl ?_
          refine G_cu_cellStart C mw_28 dX1_byteIn_42 ?_
          refine J_iload_n C 1 dX1_byteIn_45 rfl rfl ?_
          refine L_cu_cellStart C dX1_byteIn_46 h (fun h => ?_)
          refine J_iload_n C 2 dX1_byteIn_47 rfl rfl ?_
          refine J_iadd C dX1_byteIn_48 ?_
          refine L_cu_held C dX1_byteIn_49 h (fun h => ?_)
          exact J_iret C dX1_byteIn_50 ⟨h, rfl⟩
        · refine J_iconst (v := (-1 : Int32)) C dX1_byteIn_35 (by decide) ?_
          exact J_iret C dX1_byteIn_36 ⟨h, rfl⟩
theorem c_X1_byteIn {l : Launch} {g : Gd} {a : Nat → Nat} {w : XW} {K : Int32 → Prop} {v1 : Int32} {v2 : Int32} (h : P_X1_byteIn K w v1 v2) : Kt l yX1_byteIn cX1_byteIn 3 (some .int) 0 0 g (sA 15 a) (xCl g a) [.ref (a 1), .int v1, .int v2] w (QcI g (sA 15 a) (xCl g a) (fun r w' => K r ∧ w' = w)) :=
  Kt_of (by decide +kernel) (Nat.le_of_ble_eq_true rfl) (fun x hx C => s_X1_byteIn C h)
theorem k_X1_byteIn {x : Mx} {g : Gd} {a : Nat → Nat} {cc : ByteArray} {nL : Nat} {own : String} {ret : Option FieldType} {F L : Nat} {Q : State → Prop} {w : XW} {pc : Nat} {lv : List (Nat × Value)} {st : List Value} (C : Cx x g (sA 15 a) (xCl g a) cc nL own ret F L) {index : Nat} {K : Int32 → Prop} {v1 : Int32} {v2 : Int32} (h1 : Cond.methodLink own index yX1_byteIn ∈ gT) (hd : decode cc pc = .ok (.invokevirtual index, 3)) (hR : 0 + 1 ≤ F ∧ 8 + (3 + 11) + 0 ≤ L) (hst : (st.map fun v => v.category).sum ≤ 8) (h : P_X1_byteIn K w v1 v2) (k : ∀ (r : Int32), K r → J x g (sA 15 a) (xCl g a) nL Q w (pc + 3) lv (.int r :: st)) : J x g (sA 15 a) (xCl g a) nL Q w (pc) lv (.int v2 :: .int v1 :: .ref (a 1) :: st) :=
  J_callVi C (As := [.int v1, .int v2]) (b := a 1) (n := 2) (c_X1_byteIn h) h1 mw_283 mw_284 mw_2 mw_285 (by decide +kernel) hR rfl (rc_X1 C) hst hd (fun r w' hK => by
    obtain ⟨hK, rfl⟩ := hK
    exact k r hK)
-- X2_pointOf (pure, room 0 0)
def P_X2_pointOf (K : Int32 → Prop) (v0 : Int32) : Prop := ((2 : Int32) ≤ ((v0 - (10 : Int32)) - (v0 - (10 : Int32)) / (4 : Int32) * (4 : Int32)) → K (44 : Int32)) ∧ (¬ (2 : Int32) ≤ ((v0 - (10 : Int32)) - (v0 - (10 : Int32)) / (4 : Int32) * (4 : Int32)) → K (46 : Int32))
set_option maxRecDepth 10000 in
theorem s_X2_pointOf {x : Mx} {g : Gd} {Wd : Type} {A : Nat → Prop} {cl : Wd → va_W} (C : Cx x g A cl cX2_pointOf 1 RX2 (some .int) 0 0) {K : Int32 → Prop} {w : Wd}  {v0 : Int32} (h : P_X2_pointOf K v0) : J x g A cl 1 (JQ x A (QcI g A cl (fun r w' => K r ∧ w' = w))) w 0 [(0, .int v0)] [] := by
  unfold P_X2_pointOf at h
  refine J_iload_n C 0 dX2_pointOf_0 rfl rfl ?_
  refine J_bipush (v := (10 : Int32)) C dX2_pointOf_1 (by decide) ?_
  refine J_isub C dX2_pointOf_3 ?_
  refine J_iconst (v := (4 : Int32)) C dX2_pointOf_4 (by decide) ?_
  refine J_irem C dX2_pointOf_5 (by decide) ?_
  refine J_iconst (v := (2 : Int32)) C dX2_pointOf_6 (by decide) ?_
  refine J_icmp_ge (tgt := 15) C dX2_pointOf_7 (by decide) h (fun h => ?_) (fun h => ?_)
  · refine J_bipush (v := (44 : Int32)) C dX2_pointOf_15 (by decide) ?_
    exact J_iret C dX2_pointOf_17 ⟨h, rfl⟩
  · refine J_bipush (v := (46 : Int32)) C dX2_pointOf_10 (by decide) ?_
    refine J_goto (tgt := 17) C dX2_pointOf_12 (by decide) ?_
    exact J_iret C dX2_pointOf_17 ⟨h, rfl⟩
theorem c_X2_pointOf {l : Launch} {g : Gd} {Wd : Type} {A : Nat → Prop} {cl : Wd → va_W} {w : Wd} {K : Int32 → Prop} {v0 : Int32} (h : P_X2_pointOf K v0) : Kt l yX2_pointOf cX2_pointOf 1 (some .int) 0 0 g A cl [.int v0] w (QcI g A cl (fun r w' => K r ∧ w' = w)) :=
  Kt_of (by decide +kernel) (Nat.le_of_ble_eq_true rfl) (fun x hx C => s_X2_pointOf C h)
theorem k_X2_pointOf {x : Mx} {g : Gd} {Wd : Type} {A : Nat → Prop} {cl : Wd → va_W} {cc : ByteArray} {nL : Nat} {own : String} {ret : Option FieldType} {F L : Nat} {Q : State → Prop} {w : Wd} {pc : Nat} {lv : List (Nat × Value)} {st : List Value} (C : Cx x g A cl cc nL own ret F L) {index : Nat} {K : Int32 → Prop} {v0 : Int32} (h1 : Cond.methodLink own index yX2_pointOf ∈ gT) (hd : decode cc pc = .ok (.invokestatic index, 3)) (hR : 0 + 1 ≤ F ∧ 8 + (1 + 11) + 0 ≤ L) (hst : (st.map fun v => v.category).sum ≤ 8) (h : P_X2_pointOf K v0) (k : ∀ (r : Int32), K r → J x g A cl nL Q w (pc + 3) lv (.int r :: st)) : J x g A cl nL Q w (pc) lv (.int v0 :: st) :=
  J_callSi C (As := [.int v0]) (n := 1) (c_X2_pointOf h) h1 mw_287 mw_4 mw_288 (by decide +kernel) hR rfl hst hd (fun r w' hK => by
    obtain ⟨hK, rfl⟩ := hK
    exact k r hK)
-- X2_thousandsOf (pure, room 0 0)
def P_X2_thousandsOf (K : Int32 → Prop) (v0 : Int32) : Prop := ((10 : Int32) ≤ v0 → (¬ ((v0 - (10 : Int32)) - (v0 - (10 : Int32)) / (4 : Int32) * (4 : Int32)) = (1 : Int32) → (¬ ((v0 - (10 : Int32)) - (v0 - (10 : Int32)) / (4 : Int32) * (4 : Int32)) = (3 : Int32) → K (-1 : Int32)) ∧ (((v0 - (10 : Int32)) - (v0 - (10 : Int32)) / (4 : Int32) * (4 : Int32)) = (3 : Int32) → K (46 : Int32))) ∧ (((v0 - (10 : Int32)) - (v0 - (10 : Int32)) / (4 : Int32) * (4 : Int32)) = (1 : Int32) → K (44 : Int32))) ∧ (¬ (10 : Int32) ≤ v0 → (¬ v0 = (7 : Int32) → (¬ v0 = (8 : Int32) → K (46 : Int32)) ∧ (v0 = (8 : Int32) → K (44 : Int32))) ∧ (v0 = (7 : Int32) → K (-1 : Int32)))
set_option maxRecDepth 10000 in
theorem s_X2_thousandsOf {x : Mx} {g : Gd} {Wd : Type} {A : Nat → Prop} {cl : Wd → va_W} (C : Cx x g A cl cX2_thousandsOf 2 RX2 (some .int) 0 0) {K : Int32 → Prop} {w : Wd}  {v0 : Int32} (h : P_X2_thousandsOf K v0) : J x g A cl 2 (JQ x A (QcI g A cl (fun r w' => K r ∧ w' = w))) w 0 [(0, .int v0)] [] := by
  unfold P_X2_thousandsOf at h
  refine J_iload_n C 0 dX2_thousandsOf_0 rfl rfl ?_
  refine J_bipush (v := (10 : Int32)) C dX2_thousandsOf_1 (by decide) ?_
  refine J_icmp_ge (tgt := 30) C dX2_thousandsOf_3 (by decide) h (fun h => ?_) (fun h => ?_)
  · refine J_iload_n C 0 dX2_thousandsOf_30 rfl rfl ?_
    refine J_bipush (v := (10 : Int32)) C dX2_thousandsOf_31 (by decide) ?_
    refine J_isub C dX2_thousandsOf_33 ?_
    refine J_iconst (v := (4 : Int32)) C dX2_thousandsOf_34 (by decide) ?_
    refine J_irem C dX2_thousandsOf_35 (by decide) ?_
    refine J_istore_n C [(1, .int ((v0 - (10 : Int32)) - (v0 - (10 : Int32)) / (4 : Int32) * (4 : Int32))), (0, .int v0)] dX2_thousandsOf_36 rfl (by decide) rfl ?_
    refine J_iload_n C 0 dX2_thousandsOf_37 rfl rfl ?_
    refine J_iconst (v := (1 : Int32)) C dX2_thousandsOf_38 (by decide) ?_
    refine J_icmp_ne (tgt := 47) C dX2_thousandsOf_39 (by decide) h (fun h => ?_) (fun h => ?_)
    · refine J_iload_n C 0 dX2_thousandsOf_47 rfl rfl ?_
      refine J_iconst (v := (3 : Int32)) C dX2_thousandsOf_48 (by decide) ?_
      refine J_icmp_ne (tgt := 57) C dX2_thousandsOf_49 (by decide) h (fun h => ?_) (fun h => ?_)
      · refine J_iconst (v := (-1 : Int32)) C dX2_thousandsOf_57 (by decide) ?_
        exact J_iret C dX2_thousandsOf_58 ⟨h, rfl⟩
      · refine J_bipush (v := (46 : Int32)) C dX2_thousandsOf_52 (by decide) ?_
        refine J_goto (tgt := 58) C dX2_thousandsOf_54 (by decide) ?_
        exact J_iret C dX2_thousandsOf_58 ⟨h, rfl⟩
    · refine J_bipush (v := (44 : Int32)) C dX2_thousandsOf_42 (by decide) ?_
      refine J_goto (tgt := 58) C dX2_thousandsOf_44 (by decide) ?_
      exact J_iret C dX2_thousandsOf_58 ⟨h, rfl⟩
  · refine J_iload_n C 0 dX2_thousandsOf_6 rfl rfl ?_
    refine J_bipush (v := (7 : Int32)) C dX2_thousandsOf_7 (by decide) ?_
    refine J_icmp_ne (tgt := 16) C dX2_thousandsOf_9 (by decide) h (fun h => ?_) (fun h => ?_)
    · refine J_iload_n C 0 dX2_thousandsOf_16 rfl rfl ?_
      refine J_bipush (v := (8 : Int32)) C dX2_thousandsOf_17 (by decide) ?_
      refine J_icmp_ne (tgt := 27) C dX2_thousandsOf_19 (by decide) h (fun h => ?_) (fun h => ?_)
      · refine J_bipush (v := (46 : Int32)) C dX2_thousandsOf_27 (by decide) ?_
        exact J_iret C dX2_thousandsOf_29 ⟨h, rfl⟩
      · refine J_bipush (v := (44 : Int32)) C dX2_thousandsOf_22 (by decide) ?_
        refine J_goto (tgt := 29) C dX2_thousandsOf_24 (by decide) ?_
        exact J_iret C dX2_thousandsOf_29 ⟨h, rfl⟩
    · refine J_iconst (v := (-1 : Int32)) C dX2_thousandsOf_12 (by decide) ?_
      refine J_goto (tgt := 29) C dX2_thousandsOf_13 (by decide) ?_
      exact J_iret C dX2_thousandsOf_29 ⟨h, rfl⟩
theorem c_X2_thousandsOf {l : Launch} {g : Gd} {Wd : Type} {A : Nat → Prop} {cl : Wd → va_W} {w : Wd} {K : Int32 → Prop} {v0 : Int32} (h : P_X2_thousandsOf K v0) : Kt l yX2_thousandsOf cX2_thousandsOf 2 (some .int) 0 0 g A cl [.int v0] w (QcI g A cl (fun r w' => K r ∧ w' = w)) :=
  Kt_of (by decide +kernel) (Nat.le_of_ble_eq_true rfl) (fun x hx C => s_X2_thousandsOf C h)
theorem k_X2_thousandsOf {x : Mx} {g : Gd} {Wd : Type} {A : Nat → Prop} {cl : Wd → va_W} {cc : ByteArray} {nL : Nat} {own : String} {ret : Option FieldType} {F L : Nat} {Q : State → Prop} {w : Wd} {pc : Nat} {lv : List (Nat × Value)} {st : List Value} (C : Cx x g A cl cc nL own ret F L) {index : Nat} {K : Int32 → Prop} {v0 : Int32} (h1 : Cond.methodLink own index yX2_thousandsOf ∈ gT) (hd : decode cc pc = .ok (.invokestatic index, 3)) (hR : 0 + 1 ≤ F ∧ 8 + (2 + 11) + 0 ≤ L) (hst : (st.map fun v => v.category).sum ≤ 8) (h : P_X2_thousandsOf K v0) (k : ∀ (r : Int32), K r → J x g A cl nL Q w (pc + 3) lv (.int r :: st)) : J x g A cl nL Q w (pc) lv (.int v0 :: st) :=
  J_callSi C (As := [.int v0]) (n := 1) (c_X2_thousandsOf h) h1 mw_290 mw_4 mw_291 (by decide +kernel) hR rfl hst hd (fun r w' hK => by
    obtain ⟨hK, rfl⟩ := hK
    exact k r hK)
-- X2_signDue (pure, room 0 0)
def P_X2_signDue (K : Int32 → Prop) (v0 : Int32) (v1 : Int32) (v2 : Int32) : Prop := (¬ v0 = 0 → (v0 ≤ 0 → K (-1 : Int32)) ∧ (¬ v0 ≤ 0 → (¬ (v0 - v0 / (4 : Int32) * (4 : Int32)) = 0 → K (-1 : Int32)) ∧ ((v0 - v0 / (4 : Int32) * (4 : Int32)) = 0 → K v2))) ∧ (v0 = 0 → K v1)
set_option maxRecDepth 10000 in
theorem s_X2_signDue {x : Mx} {g : Gd} {Wd : Type} {A : Nat → Prop} {cl : Wd → va_W} (C : Cx x g A cl cX2_signDue 3 RX2 (some .int) 0 0) {K : Int32 → Prop} {w : Wd}  {v0 : Int32} {v1 : Int32} {v2 : Int32} (h : P_X2_signDue K v0 v1 v2) : J x g A cl 3 (JQ x A (QcI g A cl (fun r w' => K r ∧ w' = w))) w 0 [(0, .int v0), (1, .int v1), (2, .int v2)] [] := by
  unfold P_X2_signDue at h
  refine J_iload_n C 0 dX2_signDue_0 rfl rfl ?_
  refine J_if_ne (tgt := 6) C dX2_signDue_1 (by decide) h (fun h => ?_) (fun h => ?_)
  · refine J_iload_n C 0 dX2_signDue_6 rfl rfl ?_
    refine J_if_le (tgt := 20) C dX2_signDue_7 (by decide) h (fun h => ?_) (fun h => ?_)
    · refine J_iconst (v := (-1 : Int32)) C dX2_signDue_20 (by decide) ?_
      exact J_iret C dX2_signDue_21 ⟨h, rfl⟩
    · refine J_iload_n C 0 dX2_signDue_10 rfl rfl ?_
      refine J_iconst (v := (4 : Int32)) C dX2_signDue_11 (by decide) ?_
      refine J_irem C dX2_signDue_12 (by decide) ?_
      refine J_if_ne (tgt := 20) C dX2_signDue_13 (by decide) h (fun h => ?_) (fun h => ?_)
      · refine J_iconst (v := (-1 : Int32)) C dX2_signDue_20 (by decide) ?_
        exact J_iret C dX2_signDue_21 ⟨h, rfl⟩
      · refine J_iload_n C 2 dX2_signDue_16 rfl rfl ?_
        refine J_goto (tgt := 21) C dX2_signDue_17 (by decide) ?_
        exact J_iret C dX2_signDue_21 ⟨h, rfl⟩
  · refine J_iload_n C 1 dX2_signDue_4 rfl rfl ?_
    exact J_iret C dX2_signDue_5 ⟨h, rfl⟩
theorem c_X2_signDue {l : Launch} {g : Gd} {Wd : Type} {A : Nat → Prop} {cl : Wd → va_W} {w : Wd} {K : Int32 → Prop} {v0 : Int32} {v1 : Int32} {v2 : Int32} (h : P_X2_signDue K v0 v1 v2) : Kt l yX2_signDue cX2_signDue 3 (some .int) 0 0 g A cl [.int v0, .int v1, .int v2] w (QcI g A cl (fun r w' => K r ∧ w' = w)) :=
  Kt_of (by decide +kernel) (Nat.le_of_ble_eq_true rfl) (fun x hx C => s_X2_signDue C h)
theorem k_X2_signDue {x : Mx} {g : Gd} {Wd : Type} {A : Nat → Prop} {cl : Wd → va_W} {cc : ByteArray} {nL : Nat} {own : String} {ret : Option FieldType} {F L : Nat} {Q : State → Prop} {w : Wd} {pc : Nat} {lv : List (Nat × Value)} {st : List Value} (C : Cx x g A cl cc nL own ret F L) {index : Nat} {K : Int32 → Prop} {v0 : Int32} {v1 : Int32} {v2 : Int32} (h1 : Cond.methodLink own index yX2_signDue ∈ gT) (hd : decode cc pc = .ok (.invokestatic index, 3)) (hR : 0 + 1 ≤ F ∧ 8 + (3 + 11) + 0 ≤ L) (hst : (st.map fun v => v.category).sum ≤ 8) (h : P_X2_signDue K v0 v1 v2) (k : ∀ (r : Int32), K r → J x g A cl nL Q w (pc + 3) lv (.int r :: st)) : J x g A cl nL Q w (pc) lv (.int v2 :: .int v1 :: .int v0 :: st) :=
  J_callSi C (As := [.int v0, .int v1, .int v2]) (n := 3) (c_X2_signDue h) h1 mw_293 mw_4 mw_294 (by decide +kernel) hR rfl hst hd (fun r w' hK => by
    obtain ⟨hK, rfl⟩ := hK
    exact k r hK)
-- X2_bigOf (pure, room 0 0)
def P_X2_bigOf_6 (K : Int32 → Prop) (v0 : Int32) : Nat → Int32 → Int32 → Prop
  | 0, _, _ => False
  | n + 1, v1, v2 => (v0 ≤ v2 → K v1) ∧ (¬ v0 ≤ v2 → P_X2_bigOf_6 K v0 n (v1 * (10 : Int32)) (v2 + (1 : Int32)))
set_option maxRecDepth 10000 in
theorem s_X2_bigOf_6 {x : Mx} {g : Gd} {Wd : Type} {A : Nat → Prop} {cl : Wd → va_W} (C : Cx x g A cl cX2_bigOf 3 RX2 (some .int) 0 0) {K : Int32 → Prop} {w : Wd}  {v0 : Int32} : ∀ (n : Nat) (v1 : Int32) (v2 : Int32), P_X2_bigOf_6 K v0 n v1 v2 → J x g A cl 3 (JQ x A (QcI g A cl (fun r w' => K r ∧ w' = w))) w 6 [(0, .int v0), (1, .int v1), (2, .int v2)] [] := by
  intro n
  induction n with
  | zero => intro v1 v2 h; exact h.elim
  | succ n ih =>
    intro v1 v2 h
    unfold P_X2_bigOf_6 at h
    refine J_iload_n C 2 dX2_bigOf_6 rfl rfl ?_
    refine J_iload_n C 0 dX2_bigOf_7 rfl rfl ?_
    refine J_icmp_ge (tgt := 22) C dX2_bigOf_8 (by decide) h (fun h => ?_) (fun h => ?_)
    · refine J_iload_n C 1 dX2_bigOf_22 rfl rfl ?_
      exact J_iret C dX2_bigOf_23 ⟨h, rfl⟩
    · refine J_iload_n C 1 dX2_bigOf_11 rfl rfl ?_
      refine J_bipush (v := (10 : Int32)) C dX2_bigOf_12 (by decide) ?_
      refine J_imul C dX2_bigOf_14 ?_
      refine J_istore_n C [(1, .int (v1 * (10 : Int32))), (0, .int v0), (2, .int v2)] dX2_bigOf_15 rfl (by decide) rfl ?_
      refine J_iinc C 2 [(2, .int (v2 + (1 : Int32))), (1, .int (v1 * (10 : Int32))), (0, .int v0)] dX2_bigOf_16 rfl rfl (by decide) rfl ?_
      refine J_goto (tgt := 6) C dX2_bigOf_19 (by decide) ?_
      refine J_lv [2, 1, 0] rfl ?_
      exact ih _ _ h
def P_X2_bigOf (K : Int32 → Prop) (v0 : Int32) : Prop := ∃ nf : Nat, P_X2_bigOf_6 K v0 nf (9999 : Int32) (0 : Int32)
set_option maxRecDepth 10000 in
theorem s_X2_bigOf {x : Mx} {g : Gd} {Wd : Type} {A : Nat → Prop} {cl : Wd → va_W} (C : Cx x g A cl cX2_bigOf 3 RX2 (some .int) 0 0) {K : Int32 → Prop} {w : Wd}  {v0 : Int32} (h : P_X2_bigOf K v0) : J x g A cl 3 (JQ x A (QcI g A cl (fun r w' => K r ∧ w' = w))) w 0 [(0, .int v0)] [] := by
  unfold P_X2_bigOf at h
  refine J_sipush (v := (9999 : Int32)) C dX2_bigOf_0 (by decide) ?_
  refine J_istore_n C [(1, .int (9999 : Int32)), (0, .int v0)] dX2_bigOf_3 rfl (by decide) rfl ?_
  refine J_iconst (v := (0 : Int32)) C dX2_bigOf_4 (by decide) ?_
  refine J_istore_n C [(2, .int (0 : Int32)), (1, .int (9999 : Int32)), (0, .int v0)] dX2_bigOf_5 rfl (by decide) rfl ?_
  obtain ⟨nf, h⟩ := h
  refine J_lv [2, 1, 0] rfl ?_
  refine s_X2_bigOf_6 C  nf _ _ h
theorem c_X2_bigOf {l : Launch} {g : Gd} {Wd : Type} {A : Nat → Prop} {cl : Wd → va_W} {w : Wd} {K : Int32 → Prop} {v0 : Int32} (h : P_X2_bigOf K v0) : Kt l yX2_bigOf cX2_bigOf 3 (some .int) 0 0 g A cl [.int v0] w (QcI g A cl (fun r w' => K r ∧ w' = w)) :=
  Kt_of (by decide +kernel) (Nat.le_of_ble_eq_true rfl) (fun x hx C => s_X2_bigOf C h)
theorem k_X2_bigOf {x : Mx} {g : Gd} {Wd : Type} {A : Nat → Prop} {cl : Wd → va_W} {cc : ByteArray} {nL : Nat} {own : String} {ret : Option FieldType} {F L : Nat} {Q : State → Prop} {w : Wd} {pc : Nat} {lv : List (Nat × Value)} {st : List Value} (C : Cx x g A cl cc nL own ret F L) {index : Nat} {K : Int32 → Prop} {v0 : Int32} (h1 : Cond.methodLink own index yX2_bigOf ∈ gT) (hd : decode cc pc = .ok (.invokestatic index, 3)) (hR : 0 + 1 ≤ F ∧ 8 + (3 + 11) + 0 ≤ L) (hst : (st.map fun v => v.category).sum ≤ 8) (h : P_X2_bigOf K v0) (k : ∀ (r : Int32), K r → J x g A cl nL Q w (pc + 3) lv (.int r :: st)) : J x g A cl nL Q w (pc) lv (.int v0 :: st) :=
  J_callSi C (As := [.int v0]) (n := 1) (c_X2_bigOf h) h1 mw_296 mw_4 mw_297 (by decide +kernel) hR rfl hst hd (fun r w' hK => by
    obtain ⟨hK, rfl⟩ := hK
    exact k r hK)
