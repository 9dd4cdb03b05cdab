-- X4_isWord (pure, room 4 85)
def P_X4_isWord_17 (K : Int32 → Prop) (w : MW) (v1 : Int32) (v2 : Nat) : Nat → Int32 → Prop
  | 0, _ => False
  | n + 1, v3 => Ps_len (fun r_2 => (r_2 ≤ v3 → K (1 : Int32)) ∧ (¬ r_2 ≤ v3 → P_X4_byteOf (fun r_3 => Ps_chr (fun r_4 => (r_3 = r_4 → P_X4_isWord_17 K w v1 v2 n (v3 + (1 : Int32))) ∧ (¬ r_3 = r_4 → K (0 : Int32))) v2 v3) w v1 v3)) v2
set_option maxRecDepth 10000 in
theorem s_X4_isWord_17 {x : Mx} {g : Gd} {a : Nat → Nat} (C : Cx x g (sA 12 a) (mCl g a) cX4_isWord 4 RX4 (some .boolean) 4 85) {K : Int32 → Prop} {w : MW}  {v1 : Int32} {v2 : Nat} : ∀ (n : Nat) (v3 : Int32), P_X4_isWord_17 K w v1 v2 n v3 → J x g (sA 12 a) (mCl g a) 4 (JQ x (sA 12 a) (QcI g (sA 12 a) (mCl g a) (fun r w' => K r ∧ w' = w))) w 17 [(0, .ref (a 0)), (1, .int v1), (2, .ref (g.2.2.1 v2)), (3, .int v3)] [] := by
  intro n
  induction n with
  | zero => intro v3 h; exact h.elim
  | succ n ih =>
    intro v3 h
    unfold P_X4_isWord_17 at h
    refine J_iload_n C 3 dX4_isWord_17 rfl rfl ?_
    refine J_aload_n C 2 dX4_isWord_18 rfl rfl ?_
    refine k_J0_length_8abf5 C mw_582 dX4_isWord_19 ⟨Nat.le_of_ble_eq_true rfl, Nat.le_of_ble_eq_true rfl⟩ (Nat.le_of_ble_eq_true rfl) h (fun r_2 h => ?_)
    refine J_icmp_ge (tgt := 47) C dX4_isWord_22 (by decide) h (fun h => ?_) (fun h => ?_)
    · refine J_iconst (v := (1 : Int32)) C dX4_isWord_47 (by decide) ?_
      exact J_zret C dX4_isWord_48 rfl ⟨h, rfl⟩
    · refine J_aload_n C 0 dX4_isWord_25 rfl rfl ?_
      refine J_iload_n C 1 dX4_isWord_26 rfl rfl ?_
      refine J_iload_n C 3 dX4_isWord_27 rfl rfl ?_
      refine k_X4_byteOf C mw_583 dX4_isWord_28 ⟨Nat.le_of_ble_eq_true rfl, Nat.le_of_ble_eq_true rfl⟩ (Nat.le_of_ble_eq_true rfl) h (fun r_3 h => ?_)
      refine J_aload_n C 2 dX4_isWord_31 rfl rfl ?_
      refine J_iload_n C 3 dX4_isWord_32 rfl rfl ?_
      refine k_J0_charAt_5068e C mw_586 dX4_isWord_33 ⟨Nat.le_of_ble_eq_true rfl, Nat.le_of_ble_eq_true rfl⟩ (Nat.le_of_ble_eq_true rfl) h (fun r_4 h => ?_)
      refine J_icmp_eq (tgt := 41) C dX4_isWord_36 (by decide) h (fun h => ?_) (fun h => ?_)
      · refine J_iinc C 3 [(3, .int (v3 + (1 : Int32))), (0, .ref (a 0)), (1, .int v1), (2, .ref (g.2.2.1 v2))] dX4_isWord_41 rfl rfl (by decide) rfl ?_
        refine J_goto (tgt := 17) C dX4_isWord_44 (by decide) ?_
        refine J_lv [1, 2, 3, 0] rfl ?_
        exact ih _ h
      · refine J_iconst (v := (0 : Int32)) C dX4_isWord_39 (by decide) ?_
        exact J_zret C dX4_isWord_40 rfl ⟨h, rfl⟩
def P_X4_isWord (K : Int32 → Prop) (w : MW) (v1 : Int32) (v2 : Nat) : Prop := vp_in v1 960 ∧ (Ps_len (fun r_1 => ((md_cellSize w v1.toNatClampNeg) = r_1 → ∃ nf : Nat, P_X4_isWord_17 K w v1 v2 nf (0 : Int32)) ∧ (¬ (md_cellSize w v1.toNatClampNeg) = r_1 → K (0 : Int32))) v2)
set_option maxRecDepth 10000 in
theorem s_X4_isWord {x : Mx} {g : Gd} {a : Nat → Nat} (C : Cx x g (sA 12 a) (mCl g a) cX4_isWord 4 RX4 (some .boolean) 4 85) {K : Int32 → Prop} {w : MW}  {v1 : Int32} {v2 : Nat} (h : P_X4_isWord K w v1 v2) : J x g (sA 12 a) (mCl g a) 4 (JQ x (sA 12 a) (QcI g (sA 12 a) (mCl g a) (fun r w' => K r ∧ w' = w))) w 0 [(0, .ref (a 0)), (1, .int v1), (2, .ref (g.2.2.1 v2))] [] := by
  unfold P_X4_isWord at h
  refine J_aload_n C 0 dX4_isWord_0 rfl rfl ?_
  refine G_md_cellSize C mw_473 dX4_isWord_1 ?_
  refine J_iload_n C 1 dX4_isWord_4 rfl rfl ?_
  refine L_md_cellSize C dX4_isWord_5 h (fun h => ?_)
  refine J_aload_n C 2 dX4_isWord_6 rfl rfl ?_
  refine k_J0_length_8abf5 C mw_582 dX4_isWord_7 ⟨Nat.le_of_ble_eq_true rfl, Nat.le_of_ble_eq_true rfl⟩ (Nat.le_of_ble_eq_true rfl) h (fun r_1 h => ?_)
  refine J_icmp_eq (tgt := 15) C dX4_isWord_10 (by decide) h (fun h => ?_) (fun h => ?_)
  · refine J_iconst (v := (0 : Int32)) C dX4_isWord_15 (by decide) ?_
    refine J_istore_n C [(3, .int (0 : Int32)), (0, .ref (a 0)), (1, .int v1), (2, .ref (g.2.2.1 v2))] dX4_isWord_16 rfl (by decide) rfl ?_
    obtain ⟨nf, h⟩ := h
    refine J_lv [1, 2, 3, 0] rfl ?_
    refine s_X4_isWord_17 C  nf _ h
  · refine J_iconst (v := (0 : Int32)) C dX4_isWord_13 (by decide) ?_
    exact J_zret C dX4_isWord_14 rfl ⟨h, rfl⟩
theorem c_X4_isWord {l : Launch} {g : Gd} {a : Nat → Nat} {w : MW} {K : Int32 → Prop} {v1 : Int32} {v2 : Nat} (h : P_X4_isWord K w v1 v2) : Kt l yX4_isWord cX4_isWord 4 (some .boolean) 4 85 g (sA 12 a) (mCl g a) [.ref (a 0), .int v1, .ref (g.2.2.1 v2)] w (QcI g (sA 12 a) (mCl g a) (fun r w' => K r ∧ w' = w)) :=
  Kt_of (by decide +kernel) (Nat.le_of_ble_eq_true rfl) (fun x hx C => s_X4_isWord C h)
theorem k_X4_isWord {x : Mx} {g : Gd} {a : Nat → Nat} {cc : ByteArray} {nL : Nat} {own : String} {ret : Option FieldType} {F L : Nat} {Q : State → Prop} {w : MW} {pc : Nat} {lv : List (Nat × Value)} {st : List Value} (C : Cx x g (sA 12 a) (mCl g a) cc nL own ret F L) {index : Nat} {K : Int32 → Prop} {v1 : Int32} {v2 : Nat} (h1 : Cond.methodLink own index yX4_isWord ∈ gT) (hd : decode cc pc = .ok (.invokevirtual index, 3)) (hR : 4 + 1 ≤ F ∧ 8 + (4 + 11) + 85 ≤ L) (hst : (st.map fun v => v.category).sum ≤ 8) (h : P_X4_isWord K w v1 v2) (k : ∀ (r : Int32), K r → J x g (sA 12 a) (mCl g a) nL Q w (pc + 3) lv (.int r :: st)) : J x g (sA 12 a) (mCl g a) nL Q w (pc) lv (.ref (g.2.2.1 v2) :: .int v1 :: .ref (a 0) :: st) :=
  J_callVi C (As := [.int v1, .ref (g.2.2.1 v2)]) (b := a 0) (n := 2) (c_X4_isWord h) h1 mw_580 mw_788 mw_6 mw_581 (by decide +kernel) hR rfl (rc_X4 C) hst hd (fun r w' hK => by
    obtain ⟨hK, rfl⟩ := hK
    exact k r hK)
-- X4_flag (pure, room 0 0)
def P_X4_flag (K : Nat → Prop) (v0 : Int32) (v1 : Int32) : Prop := (v0 = (1 : Int32) → (¬ v1 = 0 → K 20) ∧ (v1 = 0 → K 19)) ∧ (v0 = (2 : Int32) → (¬ v1 = 0 → K 22) ∧ (v1 = 0 → K 21)) ∧ (v0 = (3 : Int32) → (¬ v1 = 0 → K 24) ∧ (v1 = 0 → K 23)) ∧ (v0 = (4 : Int32) → (¬ v1 = 0 → K 26) ∧ (v1 = 0 → K 25)) ∧ (v0 = (5 : Int32) → (¬ v1 = 0 → K 28) ∧ (v1 = 0 → K 27)) ∧ (¬ v0 = (1 : Int32) → ¬ v0 = (2 : Int32) → ¬ v0 = (3 : Int32) → ¬ v0 = (4 : Int32) → ¬ v0 = (5 : Int32) → (¬ v1 = 0 → K 30) ∧ (v1 = 0 → K 29))
set_option maxRecDepth 10000 in
theorem s_X4_flag {x : Mx} {g : Gd} {Wd : Type} {A : Nat → Prop} {cl : Wd → va_W} (C : Cx x g A cl cX4_flag 2 RX4 (some (.object "java/lang/String")) 0 0) {K : Nat → Prop} {w : Wd}  {v0 : Int32} {v1 : Int32} (h : P_X4_flag K v0 v1) : J x g A cl 2 (JQ x A (QcS g A cl (fun r w' => K r ∧ w' = w))) w 0 [(0, .int v0), (1, .int v1)] [] := by
  unfold P_X4_flag at h
  refine J_iload_n C 0 dX4_flag_0 rfl rfl ?_
  by_cases e1 : v0 = (1 : Int32)
  · replace h := h.1 e1
    refine J_tsIn (tgt := 36) C dX4_flag_1 (by rw [e1]; decide) (by rw [e1]; decide) (by rw [e1]; rfl) (by decide) ?_
    refine J_iload_n C 1 dX4_flag_36 rfl rfl ?_
    refine J_if_ne (tgt := 45) C dX4_flag_37 (by decide) h (fun h => ?_) (fun h => ?_)
    · refine J_ldcS C 20 rfl dX4_flag_45 ?_
      exact J_sret C (Or.inl ⟨_, rfl⟩) dX4_flag_47 ⟨h, rfl⟩
    · refine J_ldcS C 19 rfl dX4_flag_40 ?_
      refine J_goto (tgt := 47) C dX4_flag_42 (by decide) ?_
      exact J_sret C (Or.inl ⟨_, rfl⟩) dX4_flag_47 ⟨h, rfl⟩
  replace h := h.2
  by_cases e2 : v0 = (2 : Int32)
  · replace h := h.1 e2
    refine J_tsIn (tgt := 48) C dX4_flag_1 (by rw [e2]; decide) (by rw [e2]; decide) (by rw [e2]; rfl) (by decide) ?_
    refine J_iload_n C 1 dX4_flag_48 rfl rfl ?_
    refine J_if_ne (tgt := 57) C dX4_flag_49 (by decide) h (fun h => ?_) (fun h => ?_)
    · refine J_ldcS C 22 rfl dX4_flag_57 ?_
      exact J_sret C (Or.inl ⟨_, rfl⟩) dX4_flag_59 ⟨h, rfl⟩
    · refine J_ldcS C 21 rfl dX4_flag_52 ?_
      refine J_goto (tgt := 59) C dX4_flag_54 (by decide) ?_
      exact J_sret C (Or.inl ⟨_, rfl⟩) dX4_flag_59 ⟨h, rfl⟩
  replace h := h.2
  by_cases e3 : v0 = (3 : Int32)
  · replace h := h.1 e3
    refine J_tsIn (tgt := 60) C dX4_flag_1 (by rw [e3]; decide) (by rw [e3]; decide) (by rw [e3]; rfl) (by decide) ?_
    refine J_iload_n C 1 dX4_flag_60 rfl rfl ?_
    refine J_if_ne (tgt := 69) C dX4_flag_61 (by decide) h (fun h => ?_) (fun h => ?_)
    · refine J_ldcS C 24 rfl dX4_flag_69 ?_
      exact J_sret C (Or.inl ⟨_, rfl⟩) dX4_flag_71 ⟨h, rfl⟩
    · refine J_ldcS C 23 rfl dX4_flag_64 ?_
      refine J_goto (tgt := 71) C dX4_flag_66 (by decide) ?_
      exact J_sret C (Or.inl ⟨_, rfl⟩) dX4_flag_71 ⟨h, rfl⟩
  replace h := h.2
  by_cases e4 : v0 = (4 : Int32)
  · replace h := h.1 e4
    refine J_tsIn (tgt := 72) C dX4_flag_1 (by rw [e4]; decide) (by rw [e4]; decide) (by rw [e4]; rfl) (by decide) ?_
    refine J_iload_n C 1 dX4_flag_72 rfl rfl ?_
    refine J_if_ne (tgt := 81) C dX4_flag_73 (by decide) h (fun h => ?_) (fun h => ?_)
    · refine J_ldcS C 26 rfl dX4_flag_81 ?_
      exact J_sret C (Or.inl ⟨_, rfl⟩) dX4_flag_83 ⟨h, rfl⟩
    · refine J_ldcS C 25 rfl dX4_flag_76 ?_
      refine J_goto (tgt := 83) C dX4_flag_78 (by decide) ?_
      exact J_sret C (Or.inl ⟨_, rfl⟩) dX4_flag_83 ⟨h, rfl⟩
  replace h := h.2
  by_cases e5 : v0 = (5 : Int32)
  · replace h := h.1 e5
    refine J_tsIn (tgt := 84) C dX4_flag_1 (by rw [e5]; decide) (by rw [e5]; decide) (by rw [e5]; rfl) (by decide) ?_
    refine J_iload_n C 1 dX4_flag_84 rfl rfl ?_
    refine J_if_ne (tgt := 93) C dX4_flag_85 (by decide) h (fun h => ?_) (fun h => ?_)
    · refine J_ldcS C 28 rfl dX4_flag_93 ?_
      exact J_sret C (Or.inl ⟨_, rfl⟩) dX4_flag_95 ⟨h, rfl⟩
    · refine J_ldcS C 27 rfl dX4_flag_88 ?_
      refine J_goto (tgt := 95) C dX4_flag_90 (by decide) ?_
      exact J_sret C (Or.inl ⟨_, rfl⟩) dX4_flag_95 ⟨h, rfl⟩
  replace h := h.2
  replace h := h e1 e2 e3 e4 e5
  refine J_tsOut (tgt := 96) C dX4_flag_1 (by have q1 := lv_neT (k := (1 : Int32)) (a := 1) e1 rfl; have q2 := lv_neT (k := (2 : Int32)) (a := 2) e2 rfl; have q3 := lv_neT (k := (3 : Int32)) (a := 3) e3 rfl; have q4 := lv_neT (k := (4 : Int32)) (a := 4) e4 rfl; have q5 := lv_neT (k := (5 : Int32)) (a := 5) e5 rfl; omega) (by decide) ?_
  refine J_iload_n C 1 dX4_flag_96 rfl rfl ?_
  refine J_if_ne (tgt := 105) C dX4_flag_97 (by decide) h (fun h => ?_) (fun h => ?_)
  · refine J_ldcS C 30 rfl dX4_flag_105 ?_
    exact J_sret C (Or.inl ⟨_, rfl⟩) dX4_flag_107 ⟨h, rfl⟩
  · refine J_ldcS C 29 rfl dX4_flag_100 ?_
    refine J_goto (tgt := 107) C dX4_flag_102 (by decide) ?_
    exact J_sret C (Or.inl ⟨_, rfl⟩) dX4_flag_107 ⟨h, rfl⟩
theorem c_X4_flag {l : Launch} {g : Gd} {Wd : Type} {A : Nat → Prop} {cl : Wd → va_W} {w : Wd} {K : Nat → Prop} {v0 : Int32} {v1 : Int32} (h : P_X4_flag K v0 v1) : Kt l yX4_flag cX4_flag 2 (some (.object "java/lang/String")) 0 0 g A cl [.int v0, .int v1] w (QcS g A cl (fun r w' => K r ∧ w' = w)) :=
  Kt_of (by decide +kernel) (Nat.le_of_ble_eq_true rfl) (fun x hx C => s_X4_flag C h)
theorem k_X4_flag {x : Mx} {g : Gd} {Wd : Type} {A : Nat → Prop} {cl : Wd → va_W} {cc : ByteArray} {nL : Nat} {own : String} {ret : Option FieldType} {F L : Nat} {Q : State → Prop} {w : Wd} {pc : Nat} {lv : List (Nat × Value)} {st : List Value} (C : Cx x g A cl cc nL own ret F L) {index : Nat} {K : Nat → Prop} {v0 : Int32} {v1 : Int32} (h1 : Cond.methodLink own index yX4_flag ∈ gT) (hd : decode cc pc = .ok (.invokestatic index, 3)) (hR : 0 + 1 ≤ F ∧ 8 + (2 + 11) + 0 ≤ L) (hst : (st.map fun v => v.category).sum ≤ 8) (h : P_X4_flag K v0 v1) (k : ∀ (r : Nat), K r → J x g A cl nL Q w (pc + 3) lv (.ref (g.2.2.1 r) :: st)) : J x g A cl nL Q w (pc) lv (.int v1 :: .int v0 :: st) :=
  J_callSs C (As := [.int v0, .int v1]) (n := 2) (c_X4_flag h) h1 mw_594 mw_6 mw_595 (by decide +kernel) hR rfl hst hd (fun r w' hK => by
    obtain ⟨hK, rfl⟩ := hK
    exact k r hK)
-- X4_isFlag (changes, room 5 108)
def P_X4_isFlag_19 (K : Int32 → MW → Prop) (w : MW) (v1 : Int32) (v2 : Int32) (s0 : Int64) : Prop := ((lg_cmp (md_value (md_value_s w s0)) (1 : Int64)) = 0 → K (1 : Int32) (md_value_s w s0)) ∧ (¬ (lg_cmp (md_value (md_value_s w s0)) (1 : Int64)) = 0 → P_X4_flag (fun r_3 => P_X4_isWord (fun r_4 => (r_4 = 0 → K (0 : Int32) (md_value_s w s0)) ∧ (¬ r_4 = 0 → K (1 : Int32) (md_value_s w s0))) (md_value_s w s0) v1 r_3) v2 (0 : Int32))
set_option maxRecDepth 10000 in
theorem s_X4_isFlag_19 {x : Mx} {g : Gd} {a : Nat → Nat} (C : Cx x g (sA 12 a) (mCl g a) cX4_isFlag 3 RX4 (some .boolean) 5 108) {K : Int32 → MW → Prop}  {v1 : Int32} {v2 : Int32} {s0 : Int64} {w : MW} (h : P_X4_isFlag_19 K w v1 v2 s0) : J x g (sA 12 a) (mCl g a) 3 (JQ x (sA 12 a) (QcI g (sA 12 a) (mCl g a) K)) w 19 [(0, .ref (a 0)), (1, .int v1), (2, .int v2)] [.long s0, .ref (a 0)] := by
  unfold P_X4_isFlag_19 at h
  refine S_md_value C mw_478 dX4_isFlag_19 ?_
  refine J_aload_n C 0 dX4_isFlag_22 rfl rfl ?_
  refine G_md_value C mw_478 dX4_isFlag_23 ?_
  refine J_lconst (v := (1 : Int64)) C dX4_isFlag_26 (by decide) ?_
  refine J_lcmp C dX4_isFlag_27 ?_
  refine J_if_eq (tgt := 44) C dX4_isFlag_28 (by decide) h (fun h => ?_) (fun h => ?_)
  · refine J_iconst (v := (1 : Int32)) C dX4_isFlag_44 (by decide) ?_
    refine J_goto (tgt := 49) C dX4_isFlag_45 (by decide) ?_
    exact J_zret C dX4_isFlag_49 rfl h
  · refine J_aload_n C 0 dX4_isFlag_31 rfl rfl ?_
    refine J_iload_n C 1 dX4_isFlag_32 rfl rfl ?_
    refine J_iload_n C 2 dX4_isFlag_33 rfl rfl ?_
    refine J_iconst (v := (0 : Int32)) C dX4_isFlag_34 (by decide) ?_
    refine k_X4_flag C mw_593 dX4_isFlag_35 ⟨Nat.le_of_ble_eq_true rfl, Nat.le_of_ble_eq_true rfl⟩ (Nat.le_of_ble_eq_true rfl) h (fun r_3 h => ?_)
    refine k_X4_isWord C mw_579 dX4_isFlag_38 ⟨Nat.le_of_ble_eq_true rfl, Nat.le_of_ble_eq_true rfl⟩ (Nat.le_of_ble_eq_true rfl) h (fun r_4 h => ?_)
    refine J_if_eq (tgt := 48) C dX4_isFlag_41 (by decide) h (fun h => ?_) (fun h => ?_)
    · refine J_iconst (v := (0 : Int32)) C dX4_isFlag_48 (by decide) ?_
      exact J_zret C dX4_isFlag_49 rfl h
    · refine J_iconst (v := (1 : Int32)) C dX4_isFlag_44 (by decide) ?_
      refine J_goto (tgt := 49) C dX4_isFlag_45 (by decide) ?_
      exact J_zret C dX4_isFlag_49 rfl h
def P_X4_isFlag (K : Int32 → MW → Prop) (w : MW) (v1 : Int32) (v2 : Int32) : Prop := P_X4_flag (fun r_1 => P_X4_isWord (fun r_2 => (r_2 = 0 → P_X4_isFlag_19 K w v1 v2 (0 : Int64)) ∧ (¬ r_2 = 0 → P_X4_isFlag_19 K w v1 v2 (1 : Int64))) w v1 r_1) v2 (1 : Int32)
set_option maxRecDepth 10000 in
theorem s_X4_isFlag {x : Mx} {g : Gd} {a : Nat → Nat} (C : Cx x g (sA 12 a) (mCl g a) cX4_isFlag 3 RX4 (some .boolean) 5 108) {K : Int32 → MW → Prop}  {w : MW} {v1 : Int32} {v2 : Int32} (h : P_X4_isFlag K w v1 v2) : J x g (sA 12 a) (mCl g a) 3 (JQ x (sA 12 a) (QcI g (sA 12 a) (mCl g a) K)) w 0 [(0, .ref (a 0)), (1, .int v1), (2, .int v2)] [] := by
  unfold P_X4_isFlag at h
  refine J_aload_n C 0 dX4_isFlag_0 rfl rfl ?_
  refine J_aload_n C 0 dX4_isFlag_1 rfl rfl ?_
  refine J_iload_n C 1 dX4_isFlag_2 rfl rfl ?_
  refine J_iload_n C 2 dX4_isFlag_3 rfl rfl ?_
  refine J_iconst (v := (1 : Int32)) C dX4_isFlag_4 (by decide) ?_
  refine k_X4_flag C mw_593 dX4_isFlag_5 ⟨Nat.le_of_ble_eq_true rfl, Nat.le_of_ble_eq_true rfl⟩ (Nat.le_of_ble_eq_true rfl) h (fun r_1 h => ?_)
  refine k_X4_isWord C mw_579 dX4_isFlag_8 ⟨Nat.le_of_ble_eq_true rfl, Nat.le_of_ble_eq_true rfl⟩ (Nat.le_of_ble_eq_true rfl) h (fun r_2 h => ?_)
  refine J_if_eq (tgt := 18) C dX4_isFlag_11 (by decide) h (fun h => ?_) (fun h => ?_)
  · refine J_lconst (v := (0 : Int64)) C dX4_isFlag_18 (by decide) ?_
    refine J_lv [0, 1, 2] rfl ?_
    exact s_X4_isFlag_19 C h
  · refine J_lconst (v := (1 : Int64)) C dX4_isFlag_14 (by decide) ?_
    refine J_goto (tgt := 19) C dX4_isFlag_15 (by decide) ?_
    refine J_lv [0, 1, 2] rfl ?_
    exact s_X4_isFlag_19 C h
theorem c_X4_isFlag {l : Launch} {g : Gd} {a : Nat → Nat} {w : MW} {K : Int32 → MW → Prop} {v1 : Int32} {v2 : Int32} (h : P_X4_isFlag K w v1 v2) : Kt l yX4_isFlag cX4_isFlag 3 (some .boolean) 5 108 g (sA 12 a) (mCl g a) [.ref (a 0), .int v1, .int v2] w (QcI g (sA 12 a) (mCl g a) K) :=
  Kt_of (by decide +kernel) (Nat.le_of_ble_eq_true rfl) (fun x hx C => s_X4_isFlag C h)
theorem k_X4_isFlag {x : Mx} {g : Gd} {a : Nat → Nat} {cc : ByteArray} {nL : Nat} {own : String} {ret : Option FieldType} {F L : Nat} {Q : State → Prop} {w : MW} {pc : Nat} {lv : List (Nat × Value)} {st : List Value} (C : Cx x g (sA 12 a) (mCl g a) cc nL own ret F L) {index : Nat} {K : Int32 → MW → Prop} {v1 : Int32} {v2 : Int32} (h1 : Cond.methodLink own index yX4_isFlag ∈ gT) (hd : decode cc pc = .ok (.invokevirtual index, 3)) (hR : 5 + 1 ≤ F ∧ 8 + (3 + 11) + 108 ≤ L) (hst : (st.map fun v => v.category).sum ≤ 8) (h : P_X4_isFlag K w v1 v2) (k : ∀ (r : Int32) (w' : MW), K r w' → J x g (sA 12 a) (mCl g a) nL Q w' (pc + 3) lv (.int r :: st)) : J x g (sA 12 a) (mCl g a) nL Q w (pc) lv (.int v2 :: .int v1 :: .ref (a 0) :: st) :=
  J_callVi C (As := [.int v1, .int v2]) (b := a 0) (n := 2) (c_X4_isFlag h) h1 mw_591 mw_791 mw_6 mw_592 (by decide +kernel) hR rfl (rc_X4 C) hst hd k
-- X4_decimals (pure, room 0 0)
def P_X4_decimals (K : Int32 → Prop) (v0 : Int32) : Prop := ((10 : Int32) ≤ v0 → K ((1 : Int32) + ((v0 - (10 : Int32)) / (4 : Int32)))) ∧ (¬ (10 : Int32) ≤ v0 → K (0 : Int32))
set_option maxRecDepth 10000 in
theorem s_X4_decimals {x : Mx} {g : Gd} {Wd : Type} {A : Nat → Prop} {cl : Wd → va_W} (C : Cx x g A cl cX4_decimals 1 RX4 (some .int) 0 0) {K : Int32 → Prop} {w : Wd}  {v0 : Int32} (h : P_X4_decimals K v0) : J x g A cl 1 (JQ x A (QcI g A cl (fun r w' => K r ∧ w' = w))) w 0 [(0, .int v0)] [] := by
  unfold P_X4_decimals at h
  refine J_iload_n C 0 dX4_decimals_0 rfl rfl ?_
  refine J_bipush (v := (10 : Int32)) C dX4_decimals_1 (by decide) ?_
  refine J_icmp_ge (tgt := 10) C dX4_decimals_3 (by decide) h (fun h => ?_) (fun h => ?_)
  · refine J_iconst (v := (1 : Int32)) C dX4_decimals_10 (by decide) ?_
    refine J_iload_n C 0 dX4_decimals_11 rfl rfl ?_
    refine J_bipush (v := (10 : Int32)) C dX4_decimals_12 (by decide) ?_
    refine J_isub C dX4_decimals_14 ?_
    refine J_iconst (v := (4 : Int32)) C dX4_decimals_15 (by decide) ?_
    refine J_idiv C dX4_decimals_16 (by decide) ?_
    refine J_iadd C dX4_decimals_17 ?_
    exact J_iret C dX4_decimals_18 ⟨h, rfl⟩
  · refine J_iconst (v := (0 : Int32)) C dX4_decimals_6 (by decide) ?_
    refine J_goto (tgt := 18) C dX4_decimals_7 (by decide) ?_
    exact J_iret C dX4_decimals_18 ⟨h, rfl⟩
theorem c_X4_decimals {l : Launch} {g : Gd} {Wd : Type} {A : Nat → Prop} {cl : Wd → va_W} {w : Wd} {K : Int32 → Prop} {v0 : Int32} (h : P_X4_decimals K v0) : Kt l yX4_decimals cX4_decimals 1 (some .int) 0 0 g A cl [.int v0] w (QcI g A cl (fun r w' => K r ∧ w' = w)) :=
  Kt_of (by decide +kernel) (Nat.le_of_ble_eq_true rfl) (fun x hx C => s_X4_decimals C h)
theorem k_X4_decimals {x : Mx} {g : Gd} {Wd : Type} {A : Nat → Prop} {cl : Wd → va_W} {cc : ByteArray} {nL : Nat} {own : String} {ret : Option FieldType} {F L : Nat} {Q : State → Prop} {w : Wd} {pc : Nat} {lv : List (Nat × Value)} {st : List Value} (C : Cx x g A cl cc nL own ret F L) {index : Nat} {K : Int32 → Prop} {v0 : Int32} (h1 : Cond.methodLink own index yX4_decimals ∈ gT) (hd : decode cc pc = .ok (.invokestatic index, 3)) (hR : 0 + 1 ≤ F ∧ 8 + (1 + 11) + 0 ≤ L) (hst : (st.map fun v => v.category).sum ≤ 8) (h : P_X4_decimals K v0) (k : ∀ (r : Int32), K r → J x g A cl nL Q w (pc + 3) lv (.int r :: st)) : J x g A cl nL Q w (pc) lv (.int v0 :: st) :=
  J_callSi C (As := [.int v0]) (n := 1) (c_X4_decimals h) h1 mw_600 mw_6 mw_601 (by decide +kernel) hR rfl hst hd (fun r w' hK => by
    obtain ⟨hK, rfl⟩ := hK
    exact k r hK)
-- X4_pointOf (pure, room 0 0)
def P_X4_pointOf (K : Int32 → Prop) (v0 : Int32) : Prop := ((10 : Int32) ≤ v0 → ((2 : Int32) ≤ ((v0 - (10 : Int32)) - (v0 - (10 : Int32)) / (4 : Int32) * (4 : Int32)) → K (44 : Int32)) ∧ (¬ (2 : Int32) ≤ ((v0 - (10 : Int32)) - (v0 - (10 : Int32)) / (4 : Int32) * (4 : Int32)) → K (46 : Int32))) ∧ (¬ (10 : Int32) ≤ v0 → K (-1 : Int32))
set_option maxRecDepth 10000 in
theorem s_X4_pointOf {x : Mx} {g : Gd} {Wd : Type} {A : Nat → Prop} {cl : Wd → va_W} (C : Cx x g A cl cX4_pointOf 1 RX4 (some .int) 0 0) {K : Int32 → Prop} {w : Wd}  {v0 : Int32} (h : P_X4_pointOf K v0) : J x g A cl 1 (JQ x A (QcI g A cl (fun r w' => K r ∧ w' = w))) w 0 [(0, .int v0)] [] := by
  unfold P_X4_pointOf at h
  refine J_iload_n C 0 dX4_pointOf_0 rfl rfl ?_
  refine J_bipush (v := (10 : Int32)) C dX4_pointOf_1 (by decide) ?_
  refine J_icmp_ge (tgt := 10) C dX4_pointOf_3 (by decide) h (fun h => ?_) (fun h => ?_)
  · refine J_iload_n C 0 dX4_pointOf_10 rfl rfl ?_
    refine J_bipush (v := (10 : Int32)) C dX4_pointOf_11 (by decide) ?_
    refine J_isub C dX4_pointOf_13 ?_
    refine J_iconst (v := (4 : Int32)) C dX4_pointOf_14 (by decide) ?_
    refine J_irem C dX4_pointOf_15 (by decide) ?_
    refine J_iconst (v := (2 : Int32)) C dX4_pointOf_16 (by decide) ?_
    refine J_icmp_ge (tgt := 25) C dX4_pointOf_17 (by decide) h (fun h => ?_) (fun h => ?_)
    · refine J_bipush (v := (44 : Int32)) C dX4_pointOf_25 (by decide) ?_
      exact J_iret C dX4_pointOf_27 ⟨h, rfl⟩
    · refine J_bipush (v := (46 : Int32)) C dX4_pointOf_20 (by decide) ?_
      refine J_goto (tgt := 27) C dX4_pointOf_22 (by decide) ?_
      exact J_iret C dX4_pointOf_27 ⟨h, rfl⟩
  · refine J_iconst (v := (-1 : Int32)) C dX4_pointOf_6 (by decide) ?_
    refine J_goto (tgt := 27) C dX4_pointOf_7 (by decide) ?_
    exact J_iret C dX4_pointOf_27 ⟨h, rfl⟩
theorem c_X4_pointOf {l : Launch} {g : Gd} {Wd : Type} {A : Nat → Prop} {cl : Wd → va_W} {w : Wd} {K : Int32 → Prop} {v0 : Int32} (h : P_X4_pointOf K v0) : Kt l yX4_pointOf cX4_pointOf 1 (some .int) 0 0 g A cl [.int v0] w (QcI g A cl (fun r w' => K r ∧ w' = w)) :=
  Kt_of (by decide +kernel) (Nat.le_of_ble_eq_true rfl) (fun x hx C => s_X4_pointOf C h)
theorem k_X4_pointOf {x : Mx} {g : Gd} {Wd : Type} {A : Nat → Prop} {cl : Wd → va_W} {cc : ByteArray} {nL : Nat} {own : String} {ret : Option FieldType} {F L : Nat} {Q : State → Prop} {w : Wd} {pc : Nat} {lv : List (Nat × Value)} {st : List Value} (C : Cx x g A cl cc nL own ret F L) {index : Nat} {K : Int32 → Prop} {v0 : Int32} (h1 : Cond.methodLink own index yX4_pointOf ∈ gT) (hd : decode cc pc = .ok (.invokestatic index, 3)) (hR : 0 + 1 ≤ F ∧ 8 + (1 + 11) + 0 ≤ L) (hst : (st.map fun v => v.category).sum ≤ 8) (h : P_X4_pointOf K v0) (k : ∀ (r : Int32), K r → J x g A cl nL Q w (pc + 3) lv (.int r :: st)) : J x g A cl nL Q w (pc) lv (.int v0 :: st) :=
  J_callSi C (As := [.int v0]) (n := 1) (c_X4_pointOf h) h1 mw_603 mw_6 mw_604 (by decide +kernel) hR rfl hst hd (fun r w' hK => by
    obtain ⟨hK, rfl⟩ := hK
    exact k r hK)
-- X4_thousandsOf (pure, room 0 0)
def P_X4_thousandsOf (K : Int32 → Prop) (v0 : Int32) : Prop := ((10 : Int32) ≤ v0 → (¬ ((v0 - (10 : Int32)) - (v0 - (10 : Int32)) / (4 : Int32) * (4 : Int32)) = (1 : Int32) → (¬ ((v0 - (10 : Int32)) - (v0 - (10 : Int32)) / (4 : Int32) * (4 : Int32)) = (3 : Int32) → K (-1 : Int32)) ∧ (((v0 - (10 : Int32)) - (v0 - (10 : Int32)) / (4 : Int32) * (4 : Int32)) = (3 : Int32) → K (46 : Int32))) ∧ (((v0 - (10 : Int32)) - (v0 - (10 : Int32)) / (4 : Int32) * (4 : Int32)) = (1 : Int32) → K (44 : Int32))) ∧ (¬ (10 : Int32) ≤ v0 → (¬ v0 = (7 : Int32) → (¬ v0 = (8 : Int32) → K (46 : Int32)) ∧ (v0 = (8 : Int32) → K (44 : Int32))) ∧ (v0 = (7 : Int32) → K (-1 : Int32)))
set_option maxRecDepth 10000 in
theorem s_X4_thousandsOf {x : Mx} {g : Gd} {Wd : Type} {A : Nat → Prop} {cl : Wd → va_W} (C : Cx x g A cl cX4_thousandsOf 2 RX4 (some .int) 0 0) {K : Int32 → Prop} {w : Wd}  {v0 : Int32} (h : P_X4_thousandsOf K v0) : J x g A cl 2 (JQ x A (QcI g A cl (fun r w' => K r ∧ w' = w))) w 0 [(0, .int v0)] [] := by
  unfold P_X4_thousandsOf at h
  refine J_iload_n C 0 dX4_thousandsOf_0 rfl rfl ?_
  refine J_bipush (v := (10 : Int32)) C dX4_thousandsOf_1 (by decide) ?_
  refine J_icmp_ge (tgt := 30) C dX4_thousandsOf_3 (by decide) h (fun h => ?_) (fun h => ?_)
  · refine J_iload_n C 0 dX4_thousandsOf_30 rfl rfl ?_
    refine J_bipush (v := (10 : Int32)) C dX4_thousandsOf_31 (by decide) ?_
    refine J_isub C dX4_thousandsOf_33 ?_
    refine J_iconst (v := (4 : Int32)) C dX4_thousandsOf_34 (by decide) ?_
    refine J_irem C dX4_thousandsOf_35 (by decide) ?_
    refine J_istore_n C [(1, .int ((v0 - (10 : Int32)) - (v0 - (10 : Int32)) / (4 : Int32) * (4 : Int32))), (0, .int v0)] dX4_thousandsOf_36 rfl (by decide) rfl ?_
    refine J_iload_n C 0 dX4_thousandsOf_37 rfl rfl ?_
    refine J_iconst (v := (1 : Int32)) C dX4_thousandsOf_38 (by decide) ?_
    refine J_icmp_ne (tgt := 47) C dX4_thousandsOf_39 (by decide) h (fun h => ?_) (fun h => ?_)
    · refine J_iload_n C 0 dX4_thousandsOf_47 rfl rfl ?_
      refine J_iconst (v := (3 : Int32)) C dX4_thousandsOf_48 (by decide) ?_
      refine J_icmp_ne (tgt := 57) C dX4_thousandsOf_49 (by decide) h (fun h => ?_) (fun h => ?_)
      · refine J_iconst (v := (-1 : Int32)) C dX4_thousandsOf_57 (by decide) ?_
        exact J_iret C dX4_thousandsOf_58 ⟨h, rfl⟩
      · refine J_bipush (v := (46 : Int32)) C dX4_thousandsOf_52 (by decide) ?_
        refine J_goto (tgt := 58) C dX4_thousandsOf_54 (by decide) ?_
        exact J_iret C dX4_thousandsOf_58 ⟨h, rfl⟩
    · refine J_bipush (v := (44 : Int32)) C dX4_thousandsOf_42 (by decide) ?_
      refine J_goto (tgt := 58) C dX4_thousandsOf_44 (by decide) ?_
      exact J_iret C dX4_thousandsOf_58 ⟨h, rfl⟩
  · refine J_iload_n C 0 dX4_thousandsOf_6 rfl rfl ?_
    refine J_bipush (v := (7 : Int32)) C dX4_thousandsOf_7 (by decide) ?_
    refine J_icmp_ne (tgt := 16) C dX4_thousandsOf_9 (by decide) h (fun h => ?_) (fun h => ?_)
    · refine J_iload_n C 0 dX4_thousandsOf_16 rfl rfl ?_
      refine J_bipush (v := (8 : Int32)) C dX4_thousandsOf_17 (by decide) ?_
      refine J_icmp_ne (tgt := 27) C dX4_thousandsOf_19 (by decide) h (fun h => ?_) (fun h => ?_)
      · refine J_bipush (v := (46 : Int32)) C dX4_thousandsOf_27 (by decide) ?_
        exact J_iret C dX4_thousandsOf_29 ⟨h, rfl⟩
      · refine J_bipush (v := (44 : Int32)) C dX4_thousandsOf_22 (by decide) ?_
        refine J_goto (tgt := 29) C dX4_thousandsOf_24 (by decide) ?_
        exact J_iret C dX4_thousandsOf_29 ⟨h, rfl⟩
    · refine J_iconst (v := (-1 : Int32)) C dX4_thousandsOf_12 (by decide) ?_
      refine J_goto (tgt := 29) C dX4_thousandsOf_13 (by decide) ?_
      exact J_iret C dX4_thousandsOf_29 ⟨h, rfl⟩
theorem c_X4_thousandsOf {l : Launch} {g : Gd} {Wd : Type} {A : Nat → Prop} {cl : Wd → va_W} {w : Wd} {K : Int32 → Prop} {v0 : Int32} (h : P_X4_thousandsOf K v0) : Kt l yX4_thousandsOf cX4_thousandsOf 2 (some .int) 0 0 g A cl [.int v0] w (QcI g A cl (fun r w' => K r ∧ w' = w)) :=
  Kt_of (by decide +kernel) (Nat.le_of_ble_eq_true rfl) (fun x hx C => s_X4_thousandsOf C h)
theorem k_X4_thousandsOf {x : Mx} {g : Gd} {Wd : Type} {A : Nat → Prop} {cl : Wd → va_W} {cc : ByteArray} {nL : Nat} {own : String} {ret : Option FieldType} {F L : Nat} {Q : State → Prop} {w : Wd} {pc : Nat} {lv : List (Nat × Value)} {st : List Value} (C : Cx x g A cl cc nL own ret F L) {index : Nat} {K : Int32 → Prop} {v0 : Int32} (h1 : Cond.methodLink own index yX4_thousandsOf ∈ gT) (hd : decode cc pc = .ok (.invokestatic index, 3)) (hR : 0 + 1 ≤ F ∧ 8 + (2 + 11) + 0 ≤ L) (hst : (st.map fun v => v.category).sum ≤ 8) (h : P_X4_thousandsOf K v0) (k : ∀ (r : Int32), K r → J x g A cl nL Q w (pc + 3) lv (.int r :: st)) : J x g A cl nL Q w (pc) lv (.int v0 :: st) :=
  J_callSi C (As := [.int v0]) (n := 1) (c_X4_thousandsOf h) h1 mw_606 mw_6 mw_607 (by decide +kernel) hR rfl hst hd (fun r w' hK => by
    obtain ⟨hK, rfl⟩ := hK
    exact k r hK)
-- X4_more (changes, room 0 0)
def P_X4_more (K : Int32 → MW → Prop) (w : MW) (v1 : Int32) : Prop := ((9 : Int32) < (md_digits (md_digits_s (md_value_s w ((((10 : Int64) * (md_value w)) + (Int32.toInt64 v1)) - (48 : Int64))) ((md_digits (md_value_s w ((((10 : Int64) * (md_value w)) + (Int32.toInt64 v1)) - (48 : Int64)))) + (1 : Int32)))) → K (0 : Int32) (md_digits_s (md_value_s w ((((10 : Int64) * (md_value w)) + (Int32.toInt64 v1)) - (48 : Int64))) ((md_digits (md_value_s w ((((10 : Int64) * (md_value w)) + (Int32.toInt64 v1)) - (48 : Int64)))) + (1 : Int32)))) ∧ (¬ (9 : Int32) < (md_digits (md_digits_s (md_value_s w ((((10 : Int64) * (md_value w)) + (Int32.toInt64 v1)) - (48 : Int64))) ((md_digits (md_value_s w ((((10 : Int64) * (md_value w)) + (Int32.toInt64 v1)) - (48 : Int64)))) + (1 : Int32)))) → K (1 : Int32) (md_digits_s (md_value_s w ((((10 : Int64) * (md_value w)) + (Int32.toInt64 v1)) - (48 : Int64))) ((md_digits (md_value_s w ((((10 : Int64) * (md_value w)) + (Int32.toInt64 v1)) - (48 : Int64)))) + (1 : Int32))))
set_option maxRecDepth 10000 in
theorem s_X4_more {x : Mx} {g : Gd} {a : Nat → Nat} (C : Cx x g (sA 12 a) (mCl g a) cX4_more 2 RX4 (some .boolean) 0 0) {K : Int32 → MW → Prop}  {w : MW} {v1 : Int32} (h : P_X4_more K w v1) : J x g (sA 12 a) (mCl g a) 2 (JQ x (sA 12 a) (QcI g (sA 12 a) (mCl g a) K)) w 0 [(0, .ref (a 0)), (1, .int v1)] [] := by
  unfold P_X4_more at h
  refine J_aload_n C 0 dX4_more_0 rfl rfl ?_
  refine J_ldc2 (v := (10 : Int64)) C mw_614 dX4_more_1 ?_
  refine J_aload_n C 0 dX4_more_4 rfl rfl ?_
  refine G_md_value C mw_478 dX4_more_5 ?_
  refine J_lmul C dX4_more_8 ?_
  refine J_iload_n C 1 dX4_more_9 rfl rfl ?_
  refine J_i2l C dX4_more_10 ?_
  refine J_ladd C dX4_more_11 ?_
  refine J_ldc2 (v := (48 : Int64)) C mw_615 dX4_more_12 ?_
  refine J_lsub C dX4_more_15 ?_
  refine S_md_value C mw_478 dX4_more_16 ?_
  refine J_aload_n C 0 dX4_more_19 rfl rfl ?_
  refine J_dup C dX4_more_20 rfl ?_
  refine G_md_digits C mw_479 dX4_more_21 ?_
  refine J_iconst (v := (1 : Int32)) C dX4_more_24 (by decide) ?_
  refine J_iadd C dX4_more_25 ?_
  refine S_md_digits C mw_479 dX4_more_26 ?_
  refine J_aload_n C 0 dX4_more_29 rfl rfl ?_
  refine G_md_digits C mw_479 dX4_more_30 ?_
  refine J_bipush (v := (9 : Int32)) C dX4_more_33 (by decide) ?_
  refine J_icmp_gt (tgt := 42) C dX4_more_35 (by decide) h (fun h => ?_) (fun h => ?_)
  · refine J_iconst (v := (0 : Int32)) C dX4_more_42 (by decide) ?_
    exact J_zret C dX4_more_43 rfl h
  · refine J_iconst (v := (1 : Int32)) C dX4_more_38 (by decide) ?_
    refine J_goto (tgt := 43) C dX4_more_39 (by decide) ?_
    exact J_zret C dX4_more_43 rfl h
theorem c_X4_more {l : Launch} {g : Gd} {a : Nat → Nat} {w : MW} {K : Int32 → MW → Prop} {v1 : Int32} (h : P_X4_more K w v1) : Kt l yX4_more cX4_more 2 (some .boolean) 0 0 g (sA 12 a) (mCl g a) [.ref (a 0), .int v1] w (QcI g (sA 12 a) (mCl g a) K) :=
  Kt_of (by decide +kernel) (Nat.le_of_ble_eq_true rfl) (fun x hx C => s_X4_more C h)
theorem k_X4_more {x : Mx} {g : Gd} {a : Nat → Nat} {cc : ByteArray} {nL : Nat} {own : String} {ret : Option FieldType} {F L : Nat} {Q : State → Prop} {w : MW} {pc : Nat} {lv : List (Nat × Value)} {st : List Value} (C : Cx x g (sA 12 a) (mCl g a) cc nL own ret F L) {index : Nat} {K : Int32 → MW → Prop} {v1 : Int32} (h1 : Cond.methodLink own index yX4_more ∈ gT) (hd : decode cc pc = .ok (.invokevirtual index, 3)) (hR : 0 + 1 ≤ F ∧ 8 + (2 + 11) + 0 ≤ L) (hst : (st.map fun v => v.category).sum ≤ 8) (h : P_X4_more K w v1) (k : ∀ (r : Int32) (w' : MW), K r w' → J x g (sA 12 a) (mCl g a) nL Q w' (pc + 3) lv (.int r :: st)) : J x g (sA 12 a) (mCl g a) nL Q w (pc) lv (.int v1 :: .ref (a 0) :: st) :=
  J_callVi C (As := [.int v1]) (b := a 0) (n := 1) (c_X4_more h) h1 mw_612 mw_793 mw_6 mw_613 (by decide +kernel) hR rfl (rc_X4 C) hst hd k
-- X4_isNumber (changes, room 1 22)
def P_X4_isNumber_190 (K : Int32 → MW → Prop) (B94 : MW → Int32 → Prop) (E196 : MW → Prop) (w : MW) (v1 : Int32) (v2 : Int32) (v3 : Int32) (v5 : Int32) (v6 : Int32) (v7 : Int32) : Prop := B94 w (v7 + (1 : Int32))
set_option maxRecDepth 10000 in
theorem s_X4_isNumber_190 {x : Mx} {g : Gd} {a : Nat → Nat} (C : Cx x g (sA 12 a) (mCl g a) cX4_isNumber 9 RX4 (some .boolean) 1 22) {K : Int32 → MW → Prop}  {v1 : Int32} {v2 : Int32} {v3 : Int32} {v5 : Int32} {v6 : Int32} {v7 : Int32} {B94 : MW → Int32 → Prop} {E196 : MW → Prop} (hB94 : ∀ (w : MW) (v7 : Int32), B94 w v7 → J x g (sA 12 a) (mCl g a) 9 (JQ x (sA 12 a) (QcI g (sA 12 a) (mCl g a) K)) w 94 [(0, .ref (a 0)), (1, .int v1), (2, .int v2), (3, .int v3), (5, .int v5), (6, .int v6), (7, .int v7)] []) (hE196 : ∀ (w : MW), E196 w → J x g (sA 12 a) (mCl g a) 9 (JQ x (sA 12 a) (QcI g (sA 12 a) (mCl g a) K)) w 196 [(0, .ref (a 0)), (1, .int v1), (3, .int v3), (5, .int v5), (6, .int v6)] []) {w : MW} (h : P_X4_isNumber_190 K B94 E196 w v1 v2 v3 v5 v6 v7) : J x g (sA 12 a) (mCl g a) 9 (JQ x (sA 12 a) (QcI g (sA 12 a) (mCl g a) K)) w 190 [(0, .ref (a 0)), (1, .int v1), (2, .int v2), (3, .int v3), (5, .int v5), (6, .int v6), (7, .int v7)] [] := by
  unfold P_X4_isNumber_190 at h
  refine J_iinc C 6 [(7, .int (v7 + (1 : Int32))), (0, .ref (a 0)), (1, .int v1), (2, .int v2), (3, .int v3), (5, .int v5), (6, .int v6)] dX4_isNumber_190 rfl rfl (by decide) rfl ?_
  refine J_goto (tgt := 94) C dX4_isNumber_193 (by decide) ?_
  refine J_lv [1, 2, 3, 4, 5, 6, 0] rfl ?_
  exact hB94 _ _ h
def P_X4_isNumber_169 (K : Int32 → MW → Prop) (B94 : MW → Int32 → Prop) (E196 : MW → Prop) (w : MW) (v1 : Int32) (v2 : Int32) (v3 : Int32) (v5 : Int32) (v6 : Int32) (v7 : Int32) (v8 : Int32) : Prop := (¬ v8 = 0 → P_X4_isNumber_190 K B94 E196 w v1 v2 v3 v5 v6 v7) ∧ (v8 = 0 → P_X4_byteOf (fun r_5 => P_X4_more (fun r_6 w_7 => (¬ r_6 = 0 → P_X4_isNumber_190 K B94 E196 w_7 v1 v2 v3 v5 v6 v7) ∧ (r_6 = 0 → K (0 : Int32) w_7)) w r_5) w v1 v7)
set_option maxRecDepth 10000 in
theorem s_X4_isNumber_169 {x : Mx} {g : Gd} {a : Nat → Nat} (C : Cx x g (sA 12 a) (mCl g a) cX4_isNumber 9 RX4 (some .boolean) 1 22) {K : Int32 → MW → Prop}  {v1 : Int32} {v2 : Int32} {v3 : Int32} {v5 : Int32} {v6 : Int32} {v7 : Int32} {v8 : Int32} {B94 : MW → Int32 → Prop} {E196 : MW → Prop} (hB94 : ∀ (w : MW) (v7 : Int32), B94 w v7 → J x g (sA 12 a) (mCl g a) 9 (JQ x (sA 12 a) (QcI g (sA 12 a) (mCl g a) K)) w 94 [(0, .ref (a 0)), (1, .int v1), (2, .int v2), (3, .int v3), (5, .int v5), (6, .int v6), (7, .int v7)] []) (hE196 : ∀ (w : MW), E196 w → J x g (sA 12 a) (mCl g a) 9 (JQ x (sA 12 a) (QcI g (sA 12 a) (mCl g a) K)) w 196 [(0, .ref (a 0)), (1, .int v1), (3, .int v3), (5, .int v5), (6, .int v6)] []) {w : MW} (h : P_X4_isNumber_169 K B94 E196 w v1 v2 v3 v5 v6 v7 v8) : J x g (sA 12 a) (mCl g a) 9 (JQ x (sA 12 a) (QcI g (sA 12 a) (mCl g a) K)) w 169 [(0, .ref (a 0)), (1, .int v1), (2, .int v2), (3, .int v3), (5, .int v5), (6, .int v6), (7, .int v7), (8, .int v8)] [] := by
  unfold P_X4_isNumber_169 at h
  refine J_iload C 7 dX4_isNumber_169 rfl ?_
  refine J_if_ne (tgt := 190) C dX4_isNumber_171 (by decide) h (fun h => ?_) (fun h => ?_)
  · refine J_lv [0, 1, 2, 3, 4, 5, 6] rfl ?_
    exact s_X4_isNumber_190 C hB94 hE196 h
  · refine J_aload_n C 0 dX4_isNumber_174 rfl rfl ?_
    refine J_aload_n C 0 dX4_isNumber_175 rfl rfl ?_
    refine J_iload_n C 1 dX4_isNumber_176 rfl rfl ?_
    refine J_iload C 6 dX4_isNumber_177 rfl ?_
    refine k_X4_byteOf C mw_583 dX4_isNumber_179 ⟨Nat.le_of_ble_eq_true rfl, Nat.le_of_ble_eq_true rfl⟩ (Nat.le_of_ble_eq_true rfl) h (fun r_5 h => ?_)
    refine k_X4_more C mw_611 dX4_isNumber_182 ⟨Nat.le_of_ble_eq_true rfl, Nat.le_of_ble_eq_true rfl⟩ (Nat.le_of_ble_eq_true rfl) h (fun r_6 w_7 h => ?_)
    refine J_if_ne (tgt := 190) C dX4_isNumber_185 (by decide) h (fun h => ?_) (fun h => ?_)
    · refine J_lv [0, 1, 2, 3, 4, 5, 6] rfl ?_
      exact s_X4_isNumber_190 C hB94 hE196 h
    · refine J_iconst (v := (0 : Int32)) C dX4_isNumber_188 (by decide) ?_
      exact J_zret C dX4_isNumber_189 rfl h
def P_X4_isNumber_123 (K : Int32 → MW → Prop) (B94 : MW → Int32 → Prop) (E196 : MW → Prop) (w : MW) (v1 : Int32) (v2 : Int32) (v3 : Int32) (v5 : Int32) (v6 : Int32) (v7 : Int32) (s0 : Int32) : Prop := (s0 = 0 → P_X4_byteOf (fun r_3 => P_X4_isDigit (fun r_4 => (¬ r_4 = 0 → P_X4_isNumber_169 K B94 E196 w v1 v2 v3 v5 v6 v7 s0) ∧ (r_4 = 0 → K (0 : Int32) w)) r_3) w v1 v7) ∧ (¬ s0 = 0 → (v7 = v5 → K (0 : Int32) w) ∧ (¬ v7 = v5 → P_X4_byteOf (fun r_8 => P_X4_thousandsOf (fun r_9 => (r_8 = r_9 → P_X4_isNumber_169 K B94 E196 w v1 v2 v3 v5 v6 v7 s0) ∧ (¬ r_8 = r_9 → K (0 : Int32) w)) v2) w v1 v7))
set_option maxRecDepth 10000 in
theorem s_X4_isNumber_123 {x : Mx} {g : Gd} {a : Nat → Nat} (C : Cx x g (sA 12 a) (mCl g a) cX4_isNumber 9 RX4 (some .boolean) 1 22) {K : Int32 → MW → Prop}  {v1 : Int32} {v2 : Int32} {v3 : Int32} {v5 : Int32} {v6 : Int32} {v7 : Int32} {s0 : Int32} {B94 : MW → Int32 → Prop} {E196 : MW → Prop} (hB94 : ∀ (w : MW) (v7 : Int32), B94 w v7 → J x g (sA 12 a) (mCl g a) 9 (JQ x (sA 12 a) (QcI g (sA 12 a) (mCl g a) K)) w 94 [(0, .ref (a 0)), (1, .int v1), (2, .int v2), (3, .int v3), (5, .int v5), (6, .int v6), (7, .int v7)] []) (hE196 : ∀ (w : MW), E196 w → J x g (sA 12 a) (mCl g a) 9 (JQ x (sA 12 a) (QcI g (sA 12 a) (mCl g a) K)) w 196 [(0, .ref (a 0)), (1, .int v1), (3, .int v3), (5, .int v5), (6, .int v6)] []) {w : MW} (h : P_X4_isNumber_123 K B94 E196 w v1 v2 v3 v5 v6 v7 s0) : J x g (sA 12 a) (mCl g a) 9 (JQ x (sA 12 a) (QcI g (sA 12 a) (mCl g a) K)) w 123 [(0, .ref (a 0)), (1, .int v1), (2, .int v2), (3, .int v3), (5, .int v5), (6, .int v6), (7, .int v7)] [.int s0] := by
  unfold P_X4_isNumber_123 at h
  refine J_istore C [(8, .int s0), (0, .ref (a 0)), (1, .int v1), (2, .int v2), (3, .int v3), (5, .int v5), (6, .int v6), (7, .int v7)] dX4_isNumber_123 (by decide) rfl ?_
  refine J_iload C 0 dX4_isNumber_125 rfl ?_
  refine J_if_eq (tgt := 154) C dX4_isNumber_127 (by decide) h (fun h => ?_) (fun h => ?_)
  · refine J_aload_n C 1 dX4_isNumber_154 rfl rfl ?_
    refine J_iload_n C 2 dX4_isNumber_155 rfl rfl ?_
    refine J_iload C 7 dX4_isNumber_156 rfl ?_
    refine k_X4_byteOf C mw_583 dX4_isNumber_158 ⟨Nat.le_of_ble_eq_true rfl, Nat.le_of_ble_eq_true rfl⟩ (Nat.le_of_ble_eq_true rfl) h (fun r_3 h => ?_)
    refine k_X4_isDigit C mw_608 dX4_isNumber_161 ⟨Nat.le_of_ble_eq_true rfl, Nat.le_of_ble_eq_true rfl⟩ (Nat.le_of_ble_eq_true rfl) h (fun r_4 h => ?_)
    refine J_if_ne (tgt := 169) C dX4_isNumber_164 (by decide) h (fun h => ?_) (fun h => ?_)
    · refine J_lv [1, 2, 3, 4, 5, 6, 7, 0] rfl ?_
      exact s_X4_isNumber_169 C hB94 hE196 h
    · refine J_iconst (v := (0 : Int32)) C dX4_isNumber_167 (by decide) ?_
      exact J_zret C dX4_isNumber_168 rfl h
  · refine J_iload C 7 dX4_isNumber_130 rfl ?_
    refine J_iload C 5 dX4_isNumber_132 rfl ?_
    refine J_icmp_eq (tgt := 167) C dX4_isNumber_134 (by decide) h (fun h => ?_) (fun h => ?_)
    · refine J_iconst (v := (0 : Int32)) C dX4_isNumber_167 (by decide) ?_
      exact J_zret C dX4_isNumber_168 rfl h
    · refine J_aload_n C 1 dX4_isNumber_137 rfl rfl ?_
      refine J_iload_n C 2 dX4_isNumber_138 rfl rfl ?_
      refine J_iload C 7 dX4_isNumber_139 rfl ?_
      refine k_X4_byteOf C mw_583 dX4_isNumber_141 ⟨Nat.le_of_ble_eq_true rfl, Nat.le_of_ble_eq_true rfl⟩ (Nat.le_of_ble_eq_true rfl) h (fun r_8 h => ?_)
      refine J_iload_n C 3 dX4_isNumber_144 rfl rfl ?_
      refine k_X4_thousandsOf C mw_605 dX4_isNumber_145 ⟨Nat.le_of_ble_eq_true rfl, Nat.le_of_ble_eq_true rfl⟩ (Nat.le_of_ble_eq_true rfl) h (fun r_9 h => ?_)
      refine J_icmp_eq (tgt := 169) C dX4_isNumber_148 (by decide) h (fun h => ?_) (fun h => ?_)
      · refine J_lv [1, 2, 3, 4, 5, 6, 7, 0] rfl ?_
        exact s_X4_isNumber_169 C hB94 hE196 h
      · refine J_goto (tgt := 167) C dX4_isNumber_151 (by decide) ?_
        refine J_iconst (v := (0 : Int32)) C dX4_isNumber_167 (by decide) ?_
        exact J_zret C dX4_isNumber_168 rfl h
def P_X4_isNumber_122 (K : Int32 → MW → Prop) (B94 : MW → Int32 → Prop) (E196 : MW → Prop) (w : MW) (v1 : Int32) (v2 : Int32) (v3 : Int32) (v5 : Int32) (v6 : Int32) (v7 : Int32) : Prop := P_X4_isNumber_123 K B94 E196 w v1 v2 v3 v5 v6 v7 (0 : Int32)
set_option maxRecDepth 10000 in
theorem s_X4_isNumber_122 {x : Mx} {g : Gd} {a : Nat → Nat} (C : Cx x g (sA 12 a) (mCl g a) cX4_isNumber 9 RX4 (some .boolean) 1 22) {K : Int32 → MW → Prop}  {v1 : Int32} {v2 : Int32} {v3 : Int32} {v5 : Int32} {v6 : Int32} {v7 : Int32} {B94 : MW → Int32 → Prop} {E196 : MW → Prop} (hB94 : ∀ (w : MW) (v7 : Int32), B94 w v7 → J x g (sA 12 a) (mCl g a) 9 (JQ x (sA 12 a) (QcI g (sA 12 a) (mCl g a) K)) w 94 [(0, .ref (a 0)), (1, .int v1), (2, .int v2), (3, .int v3), (5, .int v5), (6, .int v6), (7, .int v7)] []) (hE196 : ∀ (w : MW), E196 w → J x g (sA 12 a) (mCl g a) 9 (JQ x (sA 12 a) (QcI g (sA 12 a) (mCl g a) K)) w 196 [(0, .ref (a 0)), (1, .int v1), (3, .int v3), (5, .int v5), (6, .int v6)] []) {w : MW} (h : P_X4_isNumber_122 K B94 E196 w v1 v2 v3 v5 v6 v7) : J x g (sA 12 a) (mCl g a) 9 (JQ x (sA 12 a) (QcI g (sA 12 a) (mCl g a) K)) w 122 [(0, .ref (a 0)), (1, .int v1), (2, .int v2), (3, .int v3), (5, .int v5), (6, .int v6), (7, .int v7)] [] := by
  unfold P_X4_isNumber_122 at h
  refine J_iconst (v := (0 : Int32)) C dX4_isNumber_122 (by decide) ?_
  refine J_lv [0, 1, 2, 3, 4, 5, 6] rfl ?_
  exact s_X4_isNumber_123 C hB94 hE196 h
def P_X4_isNumber_94 (K : Int32 → MW → Prop) (E196 : MW → Prop) (v1 : Int32) (v2 : Int32) (v3 : Int32) (v5 : Int32) (v6 : Int32) : Nat → MW → Int32 → Prop
  | 0, _, _ => False
  | n + 1, w, v7 => (v6 ≤ v7 → E196 w) ∧ (¬ v6 ≤ v7 → P_X4_thousandsOf (fun r_2 => (r_2 < 0 → P_X4_isNumber_122 K (P_X4_isNumber_94 K E196 v1 v2 v3 v5 v6 n) E196 w v1 v2 v3 v5 v6 v7) ∧ (¬ r_2 < 0 → (¬ ((v6 - v7) - (v6 - v7) / (4 : Int32) * (4 : Int32)) = 0 → P_X4_isNumber_122 K (P_X4_isNumber_94 K E196 v1 v2 v3 v5 v6 n) E196 w v1 v2 v3 v5 v6 v7) ∧ (((v6 - v7) - (v6 - v7) / (4 : Int32) * (4 : Int32)) = 0 → P_X4_isNumber_123 K (P_X4_isNumber_94 K E196 v1 v2 v3 v5 v6 n) E196 w v1 v2 v3 v5 v6 v7 (1 : Int32)))) v2)
set_option maxRecDepth 10000 in
theorem s_X4_isNumber_94 {x : Mx} {g : Gd} {a : Nat → Nat} (C : Cx x g (sA 12 a) (mCl g a) cX4_isNumber 9 RX4 (some .boolean) 1 22) {K : Int32 → MW → Prop}  {v1 : Int32} {v2 : Int32} {v3 : Int32} {v5 : Int32} {v6 : Int32} {E196 : MW → Prop} (hE196 : ∀ (w : MW), E196 w → J x g (sA 12 a) (mCl g a) 9 (JQ x (sA 12 a) (QcI g (sA 12 a) (mCl g a) K)) w 196 [(0, .ref (a 0)), (1, .int v1), (3, .int v3), (5, .int v5), (6, .int v6)] []) : ∀ (n : Nat) (w : MW) (v7 : Int32), P_X4_isNumber_94 K E196 v1 v2 v3 v5 v6 n w v7 → J x g (sA 12 a) (mCl g a) 9 (JQ x (sA 12 a) (QcI g (sA 12 a) (mCl g a) K)) w 94 [(0, .ref (a 0)), (1, .int v1), (2, .int v2), (3, .int v3), (5, .int v5), (6, .int v6), (7, .int v7)] [] := by
  intro n
  induction n with
  | zero => intro w v7 h; exact h.elim
  | succ n ih =>
    intro w v7 h
    unfold P_X4_isNumber_94 at h
    refine J_iload C 6 dX4_isNumber_94 rfl ?_
    refine J_iload C 5 dX4_isNumber_96 rfl ?_
    refine J_icmp_ge (tgt := 196) C dX4_isNumber_98 (by decide) h (fun h => ?_) (fun h => ?_)
    · refine J_lv [0, 1, 3, 4, 5] rfl ?_
      exact hE196 _ h
    · refine J_iload_n C 2 dX4_isNumber_101 rfl rfl ?_
      refine k_X4_thousandsOf C mw_605 dX4_isNumber_102 ⟨Nat.le_of_ble_eq_true rfl, Nat.le_of_ble_eq_true rfl⟩ (Nat.le_of_ble_eq_true rfl) h (fun r_2 h => ?_)
      refine J_if_lt (tgt := 122) C dX4_isNumber_105 (by decide) h (fun h => ?_) (fun h => ?_)
      · refine J_lv [0, 1, 2, 3, 4, 5, 6] rfl ?_
        exact s_X4_isNumber_122 C ih hE196 h
      · refine J_iload C 5 dX4_isNumber_108 rfl ?_
        refine J_iload C 6 dX4_isNumber_110 rfl ?_
        refine J_isub C dX4_isNumber_112 ?_
        refine J_iconst (v := (4 : Int32)) C dX4_isNumber_113 (by decide) ?_
        refine J_irem C dX4_isNumber_114 (by decide) ?_
        refine J_if_ne (tgt := 122) C dX4_isNumber_115 (by decide) h (fun h => ?_) (fun h => ?_)
        · refine J_lv [0, 1, 2, 3, 4, 5, 6] rfl ?_
          exact s_X4_isNumber_122 C ih hE196 h
        · refine J_iconst (v := (1 : Int32)) C dX4_isNumber_118 (by decide) ?_
          refine J_goto (tgt := 123) C dX4_isNumber_119 (by decide) ?_
          refine J_lv [0, 1, 2, 3, 4, 5, 6] rfl ?_
          exact s_X4_isNumber_123 C ih hE196 h
def P_X4_isNumber_225 (K : Int32 → MW → Prop) (E266 : MW → Prop) (v1 : Int32) (v3 : Int32) (v5 : Int32) : Nat → MW → Int32 → Prop
  | 0, _, _ => False
  | n + 1, w, v7 => (v3 ≤ v7 → E266 w) ∧ (¬ v3 ≤ v7 → P_X4_byteOf (fun r_12 => P_X4_isDigit (fun r_13 => (r_13 = 0 → K (0 : Int32) w) ∧ (¬ r_13 = 0 → P_X4_byteOf (fun r_14 => P_X4_more (fun r_15 w_16 => (¬ r_15 = 0 → P_X4_isNumber_225 K E266 v1 v3 v5 n w_16 (v7 + (1 : Int32))) ∧ (r_15 = 0 → K (0 : Int32) w_16)) w r_14) w v1 v7)) r_12) w v1 v7)
set_option maxRecDepth 10000 in
theorem s_X4_isNumber_225 {x : Mx} {g : Gd} {a : Nat → Nat} (C : Cx x g (sA 12 a) (mCl g a) cX4_isNumber 9 RX4 (some .boolean) 1 22) {K : Int32 → MW → Prop}  {v1 : Int32} {v3 : Int32} {v5 : Int32} {E266 : MW → Prop} (hE266 : ∀ (w : MW), E266 w → J x g (sA 12 a) (mCl g a) 9 (JQ x (sA 12 a) (QcI g (sA 12 a) (mCl g a) K)) w 266 [(0, .ref (a 0)), (5, .int v5)] []) : ∀ (n : Nat) (w : MW) (v7 : Int32), P_X4_isNumber_225 K E266 v1 v3 v5 n w v7 → J x g (sA 12 a) (mCl g a) 9 (JQ x (sA 12 a) (QcI g (sA 12 a) (mCl g a) K)) w 225 [(0, .ref (a 0)), (1, .int v1), (3, .int v3), (5, .int v5), (7, .int v7)] [] := by
  intro n
  induction n with
  | zero => intro w v7 h; exact h.elim
  | succ n ih =>
    intro w v7 h
    unfold P_X4_isNumber_225 at h
    refine J_iload C 4 dX4_isNumber_225 rfl ?_
    refine J_iload_n C 2 dX4_isNumber_227 rfl rfl ?_
    refine J_icmp_ge (tgt := 266) C dX4_isNumber_228 (by decide) h (fun h => ?_) (fun h => ?_)
    · refine J_lv [0, 3] rfl ?_
      exact hE266 _ h
    · refine J_aload_n C 0 dX4_isNumber_231 rfl rfl ?_
      refine J_iload_n C 1 dX4_isNumber_232 rfl rfl ?_
      refine J_iload C 4 dX4_isNumber_233 rfl ?_
      refine k_X4_byteOf C mw_583 dX4_isNumber_235 ⟨Nat.le_of_ble_eq_true rfl, Nat.le_of_ble_eq_true rfl⟩ (Nat.le_of_ble_eq_true rfl) h (fun r_12 h => ?_)
      refine k_X4_isDigit C mw_608 dX4_isNumber_238 ⟨Nat.le_of_ble_eq_true rfl, Nat.le_of_ble_eq_true rfl⟩ (Nat.le_of_ble_eq_true rfl) h (fun r_13 h => ?_)
      refine J_if_eq (tgt := 258) C dX4_isNumber_241 (by decide) h (fun h => ?_) (fun h => ?_)
      · refine J_iconst (v := (0 : Int32)) C dX4_isNumber_258 (by decide) ?_
        exact J_zret C dX4_isNumber_259 rfl h
      · refine J_aload_n C 0 dX4_isNumber_244 rfl rfl ?_
        refine J_aload_n C 0 dX4_isNumber_245 rfl rfl ?_
        refine J_iload_n C 1 dX4_isNumber_246 rfl rfl ?_
        refine J_iload C 4 dX4_isNumber_247 rfl ?_
        refine k_X4_byteOf C mw_583 dX4_isNumber_249 ⟨Nat.le_of_ble_eq_true rfl, Nat.le_of_ble_eq_true rfl⟩ (Nat.le_of_ble_eq_true rfl) h (fun r_14 h => ?_)
        refine k_X4_more C mw_611 dX4_isNumber_252 ⟨Nat.le_of_ble_eq_true rfl, Nat.le_of_ble_eq_true rfl⟩ (Nat.le_of_ble_eq_true rfl) h (fun r_15 w_16 h => ?_)
        refine J_if_ne (tgt := 260) C dX4_isNumber_255 (by decide) h (fun h => ?_) (fun h => ?_)
        · refine J_iinc C 4 [(7, .int (v7 + (1 : Int32))), (0, .ref (a 0)), (1, .int v1), (3, .int v3), (5, .int v5)] dX4_isNumber_260 rfl rfl (by decide) rfl ?_
          refine J_goto (tgt := 225) C dX4_isNumber_263 (by decide) ?_
          refine J_lv [1, 2, 3, 4, 0] rfl ?_
          exact ih _ _ h
        · refine J_iconst (v := (0 : Int32)) C dX4_isNumber_258 (by decide) ?_
          exact J_zret C dX4_isNumber_259 rfl h
def P_X4_isNumber_283 (K : Int32 → MW → Prop) (w : MW) (v5 : Int32) : Prop := (¬ v5 = (1 : Int32) → K (1 : Int32) w) ∧ (v5 = (1 : Int32) → K (1 : Int32) (md_value_s w (-(md_value w))))
set_option maxRecDepth 10000 in
theorem s_X4_isNumber_283 {x : Mx} {g : Gd} {a : Nat → Nat} (C : Cx x g (sA 12 a) (mCl g a) cX4_isNumber 9 RX4 (some .boolean) 1 22) {K : Int32 → MW → Prop}  {v5 : Int32} {w : MW} (h : P_X4_isNumber_283 K w v5) : J x g (sA 12 a) (mCl g a) 9 (JQ x (sA 12 a) (QcI g (sA 12 a) (mCl g a) K)) w 283 [(0, .ref (a 0)), (5, .int v5)] [] := by
  unfold P_X4_isNumber_283 at h
  refine J_iload C 1 dX4_isNumber_283 rfl ?_
  refine J_iconst (v := (1 : Int32)) C dX4_isNumber_285 (by decide) ?_
  refine J_icmp_ne (tgt := 298) C dX4_isNumber_286 (by decide) h (fun h => ?_) (fun h => ?_)
  · refine J_iconst (v := (1 : Int32)) C dX4_isNumber_298 (by decide) ?_
    exact J_zret C dX4_isNumber_299 rfl h
  · refine J_aload_n C 0 dX4_isNumber_289 rfl rfl ?_
    refine J_aload_n C 0 dX4_isNumber_290 rfl rfl ?_
    refine G_md_value C mw_478 dX4_isNumber_291 ?_
    refine J_lneg C dX4_isNumber_294 ?_
    refine S_md_value C mw_478 dX4_isNumber_295 ?_
    refine J_iconst (v := (1 : Int32)) C dX4_isNumber_298 (by decide) ?_
    exact J_zret C dX4_isNumber_299 rfl h
def P_X4_isNumber_219 (K : Int32 → MW → Prop) (w : MW) (v1 : Int32) (v3 : Int32) (v5 : Int32) (v6 : Int32) : Prop := ∃ nf : Nat, P_X4_isNumber_225 K (fun w_17 => (¬ v5 = (1 : Int32) → P_X4_isNumber_283 K w_17 v5) ∧ (v5 = (1 : Int32) → (¬ (lg_cmp (md_value w_17) (0 : Int64)) = 0 → P_X4_isNumber_283 K w_17 v5) ∧ ((lg_cmp (md_value w_17) (0 : Int64)) = 0 → K (0 : Int32) w_17))) v1 v3 v5 nf w (v6 + (1 : Int32))
set_option maxRecDepth 10000 in
theorem s_X4_isNumber_219 {x : Mx} {g : Gd} {a : Nat → Nat} (C : Cx x g (sA 12 a) (mCl g a) cX4_isNumber 9 RX4 (some .boolean) 1 22) {K : Int32 → MW → Prop}  {v1 : Int32} {v3 : Int32} {v5 : Int32} {v6 : Int32} {w : MW} (h : P_X4_isNumber_219 K w v1 v3 v5 v6) : J x g (sA 12 a) (mCl g a) 9 (JQ x (sA 12 a) (QcI g (sA 12 a) (mCl g a) K)) w 219 [(0, .ref (a 0)), (1, .int v1), (3, .int v3), (5, .int v5), (6, .int v6)] [] := by
  unfold P_X4_isNumber_219 at h
  refine J_iload C 4 dX4_isNumber_219 rfl ?_
  refine J_iconst (v := (1 : Int32)) C dX4_isNumber_221 (by decide) ?_
  refine J_iadd C dX4_isNumber_222 ?_
  refine J_istore C [(7, .int (v6 + (1 : Int32))), (0, .ref (a 0)), (1, .int v1), (3, .int v3), (5, .int v5), (6, .int v6)] dX4_isNumber_223 (by decide) rfl ?_
  obtain ⟨nf, h⟩ := h
  refine J_lv [1, 2, 3, 4, 0] rfl ?_
  refine s_X4_isNumber_225 C (fun w_17 h => ?_) nf _ _ h
  · refine J_iload C 1 dX4_isNumber_266 rfl ?_
    refine J_iconst (v := (1 : Int32)) C dX4_isNumber_268 (by decide) ?_
    refine J_icmp_ne (tgt := 283) C dX4_isNumber_269 (by decide) h (fun h => ?_) (fun h => ?_)
    · refine J_lv [0, 1] rfl ?_
      exact s_X4_isNumber_283 C h
    · refine J_aload_n C 0 dX4_isNumber_272 rfl rfl ?_
      refine G_md_value C mw_478 dX4_isNumber_273 ?_
      refine J_lconst (v := (0 : Int64)) C dX4_isNumber_276 (by decide) ?_
      refine J_lcmp C dX4_isNumber_277 ?_
      refine J_if_ne (tgt := 283) C dX4_isNumber_278 (by decide) h (fun h => ?_) (fun h => ?_)
      · refine J_lv [0, 1] rfl ?_
        exact s_X4_isNumber_283 C h
      · refine J_iconst (v := (0 : Int32)) C dX4_isNumber_281 (by decide) ?_
        exact J_zret C dX4_isNumber_282 rfl h
def P_X4_isNumber_90 (K : Int32 → MW → Prop) (w : MW) (v1 : Int32) (v2 : Int32) (v3 : Int32) (v5 : Int32) (v6 : Int32) : Prop := ∃ nf : Nat, P_X4_isNumber_94 K (fun w_10 => P_X4_byteOf (fun r_11 => (¬ r_11 = (48 : Int32) → P_X4_isNumber_219 K w_10 v1 v3 v5 v6) ∧ (r_11 = (48 : Int32) → ((v6 - v5) ≤ (1 : Int32) → P_X4_isNumber_219 K w_10 v1 v3 v5 v6) ∧ (¬ (v6 - v5) ≤ (1 : Int32) → K (0 : Int32) w_10))) w_10 v1 v5) v1 v2 v3 v5 v6 nf w v5
set_option maxRecDepth 10000 in
theorem s_X4_isNumber_90 {x : Mx} {g : Gd} {a : Nat → Nat} (C : Cx x g (sA 12 a) (mCl g a) cX4_isNumber 9 RX4 (some .boolean) 1 22) {K : Int32 → MW → Prop}  {v1 : Int32} {v2 : Int32} {v3 : Int32} {v5 : Int32} {v6 : Int32} {w : MW} (h : P_X4_isNumber_90 K w v1 v2 v3 v5 v6) : J x g (sA 12 a) (mCl g a) 9 (JQ x (sA 12 a) (QcI g (sA 12 a) (mCl g a) K)) w 90 [(0, .ref (a 0)), (1, .int v1), (2, .int v2), (3, .int v3), (5, .int v5), (6, .int v6)] [] := by
  unfold P_X4_isNumber_90 at h
  refine J_iload C 4 dX4_isNumber_90 rfl ?_
  refine J_istore C [(7, .int v5), (0, .ref (a 0)), (1, .int v1), (2, .int v2), (3, .int v3), (5, .int v5), (6, .int v6)] dX4_isNumber_92 (by decide) rfl ?_
  obtain ⟨nf, h⟩ := h
  refine J_lv [1, 2, 3, 4, 5, 6, 0] rfl ?_
  refine s_X4_isNumber_94 C (fun w_10 h => ?_) nf _ _ h
  · refine J_aload_n C 0 dX4_isNumber_196 rfl rfl ?_
    refine J_iload_n C 1 dX4_isNumber_197 rfl rfl ?_
    refine J_iload C 3 dX4_isNumber_198 rfl ?_
    refine k_X4_byteOf C mw_583 dX4_isNumber_200 ⟨Nat.le_of_ble_eq_true rfl, Nat.le_of_ble_eq_true rfl⟩ (Nat.le_of_ble_eq_true rfl) h (fun r_11 h => ?_)
    refine J_bipush (v := (48 : Int32)) C dX4_isNumber_203 (by decide) ?_
    refine J_icmp_ne (tgt := 219) C dX4_isNumber_205 (by decide) h (fun h => ?_) (fun h => ?_)
    · refine J_lv [0, 1, 2, 3, 4] rfl ?_
      exact s_X4_isNumber_219 C h
    · refine J_iload C 4 dX4_isNumber_208 rfl ?_
      refine J_iload C 3 dX4_isNumber_210 rfl ?_
      refine J_isub C dX4_isNumber_212 ?_
      refine J_iconst (v := (1 : Int32)) C dX4_isNumber_213 (by decide) ?_
      refine J_icmp_le (tgt := 219) C dX4_isNumber_214 (by decide) h (fun h => ?_) (fun h => ?_)
      · refine J_lv [0, 1, 2, 3, 4] rfl ?_
        exact s_X4_isNumber_219 C h
      · refine J_iconst (v := (0 : Int32)) C dX4_isNumber_217 (by decide) ?_
        exact J_zret C dX4_isNumber_218 rfl h
def P_X4_isNumber_50 (K : Int32 → MW → Prop) (w : MW) (v1 : Int32) (v2 : Int32) (v3 : Int32) (v4 : Int32) (v5 : Int32) (s0 : Int32) : Prop := (s0 ≤ v5 → K (0 : Int32) (md_digits_s (md_value_s w (0 : Int64)) (0 : Int32))) ∧ (¬ s0 ≤ v5 → (v4 ≤ 0 → P_X4_isNumber_90 K (md_digits_s (md_value_s w (0 : Int64)) (0 : Int32)) v1 v2 v3 v5 s0) ∧ (¬ v4 ≤ 0 → P_X4_byteOf (fun r_18 => P_X4_pointOf (fun r_19 => (r_18 = r_19 → P_X4_isNumber_90 K (md_digits_s (md_value_s w (0 : Int64)) (0 : Int32)) v1 v2 v3 v5 s0) ∧ (¬ r_18 = r_19 → K (0 : Int32) (md_digits_s (md_value_s w (0 : Int64)) (0 : Int32)))) v2) (md_digits_s (md_value_s w (0 : Int64)) (0 : Int32)) v1 s0))
set_option maxRecDepth 10000 in
theorem s_X4_isNumber_50 {x : Mx} {g : Gd} {a : Nat → Nat} (C : Cx x g (sA 12 a) (mCl g a) cX4_isNumber 9 RX4 (some .boolean) 1 22) {K : Int32 → MW → Prop}  {v1 : Int32} {v2 : Int32} {v3 : Int32} {v4 : Int32} {v5 : Int32} {s0 : Int32} {w : MW} (h : P_X4_isNumber_50 K w v1 v2 v3 v4 v5 s0) : J x g (sA 12 a) (mCl g a) 9 (JQ x (sA 12 a) (QcI g (sA 12 a) (mCl g a) K)) w 50 [(0, .ref (a 0)), (1, .int v1), (2, .int v2), (3, .int v3), (4, .int v4), (5, .int v5)] [.int s0] := by
  unfold P_X4_isNumber_50 at h
  refine J_istore C [(6, .int s0), (0, .ref (a 0)), (1, .int v1), (2, .int v2), (3, .int v3), (4, .int v4), (5, .int v5)] dX4_isNumber_50 (by decide) rfl ?_
  refine J_aload_n C 1 dX4_isNumber_52 rfl rfl ?_
  refine J_lconst (v := (0 : Int64)) C dX4_isNumber_53 (by decide) ?_
  refine S_md_value C mw_478 dX4_isNumber_54 ?_
  refine J_aload_n C 1 dX4_isNumber_57 rfl rfl ?_
  refine J_iconst (v := (0 : Int32)) C dX4_isNumber_58 (by decide) ?_
  refine S_md_digits C mw_479 dX4_isNumber_59 ?_
  refine J_iload C 0 dX4_isNumber_62 rfl ?_
  refine J_iload C 6 dX4_isNumber_64 rfl ?_
  refine J_icmp_le (tgt := 88) C dX4_isNumber_66 (by decide) h (fun h => ?_) (fun h => ?_)
  · refine J_iconst (v := (0 : Int32)) C dX4_isNumber_88 (by decide) ?_
    exact J_zret C dX4_isNumber_89 rfl h
  · refine J_iload C 5 dX4_isNumber_69 rfl ?_
    refine J_if_le (tgt := 90) C dX4_isNumber_71 (by decide) h (fun h => ?_) (fun h => ?_)
    · refine J_lv [1, 2, 3, 4, 6, 0] rfl ?_
      exact s_X4_isNumber_90 C h
    · refine J_aload_n C 1 dX4_isNumber_74 rfl rfl ?_
      refine J_iload_n C 2 dX4_isNumber_75 rfl rfl ?_
      refine J_iload C 0 dX4_isNumber_76 rfl ?_
      refine k_X4_byteOf C mw_583 dX4_isNumber_78 ⟨Nat.le_of_ble_eq_true rfl, Nat.le_of_ble_eq_true rfl⟩ (Nat.le_of_ble_eq_true rfl) h (fun r_18 h => ?_)
      refine J_iload_n C 3 dX4_isNumber_81 rfl rfl ?_
      refine k_X4_pointOf C mw_602 dX4_isNumber_82 ⟨Nat.le_of_ble_eq_true rfl, Nat.le_of_ble_eq_true rfl⟩ (Nat.le_of_ble_eq_true rfl) h (fun r_19 h => ?_)
      refine J_icmp_eq (tgt := 90) C dX4_isNumber_85 (by decide) h (fun h => ?_) (fun h => ?_)
      · refine J_lv [1, 2, 3, 4, 6, 0] rfl ?_
        exact s_X4_isNumber_90 C h
      · refine J_iconst (v := (0 : Int32)) C dX4_isNumber_88 (by decide) ?_
        exact J_zret C dX4_isNumber_89 rfl h
def P_X4_isNumber_33 (K : Int32 → MW → Prop) (w : MW) (v1 : Int32) (v2 : Int32) (v3 : Int32) (v4 : Int32) (s0 : Int32) : Prop := (v4 ≤ 0 → P_X4_isNumber_50 K w v1 v2 v3 v4 s0 v3) ∧ (¬ v4 ≤ 0 → P_X4_isNumber_50 K w v1 v2 v3 v4 s0 ((v3 - v4) - (1 : Int32)))
set_option maxRecDepth 10000 in
theorem s_X4_isNumber_33 {x : Mx} {g : Gd} {a : Nat → Nat} (C : Cx x g (sA 12 a) (mCl g a) cX4_isNumber 9 RX4 (some .boolean) 1 22) {K : Int32 → MW → Prop}  {v1 : Int32} {v2 : Int32} {v3 : Int32} {v4 : Int32} {s0 : Int32} {w : MW} (h : P_X4_isNumber_33 K w v1 v2 v3 v4 s0) : J x g (sA 12 a) (mCl g a) 9 (JQ x (sA 12 a) (QcI g (sA 12 a) (mCl g a) K)) w 33 [(0, .ref (a 0)), (1, .int v1), (2, .int v2), (3, .int v3), (4, .int v4)] [.int s0] := by
  unfold P_X4_isNumber_33 at h
  refine J_istore C [(5, .int s0), (0, .ref (a 0)), (1, .int v1), (2, .int v2), (3, .int v3), (4, .int v4)] dX4_isNumber_33 (by decide) rfl ?_
  refine J_iload C 5 dX4_isNumber_35 rfl ?_
  refine J_if_le (tgt := 49) C dX4_isNumber_37 (by decide) h (fun h => ?_) (fun h => ?_)
  · refine J_iload_n C 4 dX4_isNumber_49 rfl rfl ?_
    refine J_lv [1, 2, 3, 4, 5, 0] rfl ?_
    exact s_X4_isNumber_50 C h
  · refine J_iload_n C 4 dX4_isNumber_40 rfl rfl ?_
    refine J_iload C 5 dX4_isNumber_41 rfl ?_
    refine J_isub C dX4_isNumber_43 ?_
    refine J_iconst (v := (1 : Int32)) C dX4_isNumber_44 (by decide) ?_
    refine J_isub C dX4_isNumber_45 ?_
    refine J_goto (tgt := 50) C dX4_isNumber_46 (by decide) ?_
    refine J_lv [1, 2, 3, 4, 5, 0] rfl ?_
    exact s_X4_isNumber_50 C h
def P_X4_isNumber_32 (K : Int32 → MW → Prop) (w : MW) (v1 : Int32) (v2 : Int32) (v3 : Int32) (v4 : Int32) : Prop := P_X4_isNumber_33 K w v1 v2 v3 v4 (0 : Int32)
set_option maxRecDepth 10000 in
theorem s_X4_isNumber_32 {x : Mx} {g : Gd} {a : Nat → Nat} (C : Cx x g (sA 12 a) (mCl g a) cX4_isNumber 9 RX4 (some .boolean) 1 22) {K : Int32 → MW → Prop}  {v1 : Int32} {v2 : Int32} {v3 : Int32} {v4 : Int32} {w : MW} (h : P_X4_isNumber_32 K w v1 v2 v3 v4) : J x g (sA 12 a) (mCl g a) 9 (JQ x (sA 12 a) (QcI g (sA 12 a) (mCl g a) K)) w 32 [(0, .ref (a 0)), (1, .int v1), (2, .int v2), (3, .int v3), (4, .int v4)] [] := by
  unfold P_X4_isNumber_32 at h
  refine J_iconst (v := (0 : Int32)) C dX4_isNumber_32 (by decide) ?_
  refine J_lv [0, 1, 2, 3, 4] rfl ?_
  exact s_X4_isNumber_33 C h
def P_X4_isNumber (K : Int32 → MW → Prop) (w : MW) (v1 : Int32) (v2 : Int32) : Prop := vp_in v1 960 ∧ (P_X4_decimals (fun r_1 => ((md_cellSize w v1.toNatClampNeg) ≤ 0 → P_X4_isNumber_32 K w v1 v2 (md_cellSize w v1.toNatClampNeg) r_1) ∧ (¬ (md_cellSize w v1.toNatClampNeg) ≤ 0 → P_X4_byteOf (fun r_20 => (¬ r_20 = (45 : Int32) → P_X4_isNumber_32 K w v1 v2 (md_cellSize w v1.toNatClampNeg) r_1) ∧ (r_20 = (45 : Int32) → P_X4_isNumber_33 K w v1 v2 (md_cellSize w v1.toNatClampNeg) r_1 (1 : Int32))) w v1 (0 : Int32))) v2)
set_option maxRecDepth 10000 in
theorem s_X4_isNumber {x : Mx} {g : Gd} {a : Nat → Nat} (C : Cx x g (sA 12 a) (mCl g a) cX4_isNumber 9 RX4 (some .boolean) 1 22) {K : Int32 → MW → Prop}  {w : MW} {v1 : Int32} {v2 : Int32} (h : P_X4_isNumber K w v1 v2) : J x g (sA 12 a) (mCl g a) 9 (JQ x (sA 12 a) (QcI g (sA 12 a) (mCl g a) K)) w 0 [(0, .ref (a 0)), (1, .int v1), (2, .int v2)] [] := by
  unfold P_X4_isNumber at h
  refine J_aload_n C 0 dX4_isNumber_0 rfl rfl ?_
  refine G_md_cellSize C mw_473 dX4_isNumber_1 ?_
  refine J_iload_n C 1 dX4_isNumber_4 rfl rfl ?_
  refine L_md_cellSize C dX4_isNumber_5 h (fun h => ?_)
  refine J_istore_n C [(3, .int (md_cellSize w v1.toNatClampNeg)), (0, .ref (a 0)), (1, .int v1), (2, .int v2)] dX4_isNumber_6 rfl (by decide) rfl ?_
  refine J_iload_n C 3 dX4_isNumber_7 rfl rfl ?_
  refine k_X4_decimals C mw_599 dX4_isNumber_8 ⟨Nat.le_of_ble_eq_true rfl, Nat.le_of_ble_eq_true rfl⟩ (Nat.le_of_ble_eq_true rfl) h (fun r_1 h => ?_)
  refine J_istore C [(4, .int r_1), (3, .int (md_cellSize w v1.toNatClampNeg)), (0, .ref (a 0)), (1, .int v1), (2, .int v2)] dX4_isNumber_11 (by decide) rfl ?_
  refine J_iload_n C 1 dX4_isNumber_13 rfl rfl ?_
  refine J_if_le (tgt := 32) C dX4_isNumber_14 (by decide) h (fun h => ?_) (fun h => ?_)
  · refine J_lv [2, 3, 4, 1, 0] rfl ?_
    exact s_X4_isNumber_32 C h
  · refine J_aload_n C 2 dX4_isNumber_17 rfl rfl ?_
    refine J_iload_n C 3 dX4_isNumber_18 rfl rfl ?_
    refine J_iconst (v := (0 : Int32)) C dX4_isNumber_19 (by decide) ?_
    refine k_X4_byteOf C mw_583 dX4_isNumber_20 ⟨Nat.le_of_ble_eq_true rfl, Nat.le_of_ble_eq_true rfl⟩ (Nat.le_of_ble_eq_true rfl) h (fun r_20 h => ?_)
    refine J_bipush (v := (45 : Int32)) C dX4_isNumber_23 (by decide) ?_
    refine J_icmp_ne (tgt := 32) C dX4_isNumber_25 (by decide) h (fun h => ?_) (fun h => ?_)
    · refine J_lv [2, 3, 4, 1, 0] rfl ?_
      exact s_X4_isNumber_32 C h
    · refine J_iconst (v := (1 : Int32)) C dX4_isNumber_28 (by decide) ?_
      refine J_goto (tgt := 33) C dX4_isNumber_29 (by decide) ?_
      refine J_lv [2, 3, 4, 1, 0] rfl ?_
      exact s_X4_isNumber_33 C h
theorem c_X4_isNumber {l : Launch} {g : Gd} {a : Nat → Nat} {w : MW} {K : Int32 → MW → Prop} {v1 : Int32} {v2 : Int32} (h : P_X4_isNumber K w v1 v2) : Kt l yX4_isNumber cX4_isNumber 9 (some .boolean) 1 22 g (sA 12 a) (mCl g a) [.ref (a 0), .int v1, .int v2] w (QcI g (sA 12 a) (mCl g a) K) :=
  Kt_of (by decide +kernel) (Nat.le_of_ble_eq_true rfl) (fun x hx C => s_X4_isNumber C h)
theorem k_X4_isNumber {x : Mx} {g : Gd} {a : Nat → Nat} {cc : ByteArray} {nL : Nat} {own : String} {ret : Option FieldType} {F L : Nat} {Q : State → Prop} {w : MW} {pc : Nat} {lv : List (Nat × Value)} {st : List Value} (C : Cx x g (sA 12 a) (mCl g a) cc nL own ret F L) {index : Nat} {K : Int32 → MW → Prop} {v1 : Int32} {v2 : Int32} (h1 : Cond.methodLink own index yX4_isNumber ∈ gT) (hd : decode cc pc = .ok (.invokevirtual index, 3)) (hR : 1 + 1 ≤ F ∧ 8 + (9 + 11) + 22 ≤ L) (hst : (st.map fun v => v.category).sum ≤ 8) (h : P_X4_isNumber K w v1 v2) (k : ∀ (r : Int32) (w' : MW), K r w' → J x g (sA 12 a) (mCl g a) nL Q w' (pc + 3) lv (.int r :: st)) : J x g (sA 12 a) (mCl g a) nL Q w (pc) lv (.int v2 :: .int v1 :: .ref (a 0) :: st) :=
  J_callVi C (As := [.int v1, .int v2]) (b := a 0) (n := 2) (c_X4_isNumber h) h1 mw_597 mw_792 mw_6 mw_598 (by decide +kernel) hR rfl (rc_X4 C) hst hd k
-- X4_whole (pure, room 1 22)
def P_X4_whole_6 (K : Int32 → Prop) (w : MW) (v1 : Int32) (v2 : Int32) (v3 : Int32) : Nat → Int32 → Int32 → Prop
  | 0, _, _ => False
  | n + 1, v4, v5 => (v3 ≤ v5 → K v4) ∧ (¬ v3 ≤ v5 → P_X4_byteOf (fun r_1 => P_X4_isDigit (fun r_2 => (¬ r_2 = 0 → P_X4_byteOf (fun r_3 => P_X4_whole_6 K w v1 v2 v3 n ((((10 : Int32) * v4) + r_3) - (48 : Int32)) (v5 + (1 : Int32))) w v1 (v2 + v5)) ∧ (r_2 = 0 → K (-1 : Int32))) r_1) w v1 (v2 + v5))
set_option maxRecDepth 10000 in
theorem s_X4_whole_6 {x : Mx} {g : Gd} {a : Nat → Nat} (C : Cx x g (sA 12 a) (mCl g a) cX4_whole 6 RX4 (some .int) 1 22) {K : Int32 → Prop} {w : MW}  {v1 : Int32} {v2 : Int32} {v3 : Int32} : ∀ (n : Nat) (v4 : Int32) (v5 : Int32), P_X4_whole_6 K w v1 v2 v3 n v4 v5 → J x g (sA 12 a) (mCl g a) 6 (JQ x (sA 12 a) (QcI g (sA 12 a) (mCl g a) (fun r w' => K r ∧ w' = w))) w 6 [(0, .ref (a 0)), (1, .int v1), (2, .int v2), (3, .int v3), (4, .int v4), (5, .int v5)] [] := by
  intro n
  induction n with
  | zero => intro v4 v5 h; exact h.elim
  | succ n ih =>
    intro v4 v5 h
    unfold P_X4_whole_6 at h
    refine J_iload C 5 dX4_whole_6 rfl ?_
    refine J_iload_n C 3 dX4_whole_8 rfl rfl ?_
    refine J_icmp_ge (tgt := 55) C dX4_whole_9 (by decide) h (fun h => ?_) (fun h => ?_)
    · refine J_iload C 4 dX4_whole_55 rfl ?_
      exact J_iret C dX4_whole_57 ⟨h, rfl⟩
    · refine J_aload_n C 0 dX4_whole_12 rfl rfl ?_
      refine J_iload_n C 1 dX4_whole_13 rfl rfl ?_
      refine J_iload_n C 2 dX4_whole_14 rfl rfl ?_
      refine J_iload C 5 dX4_whole_15 rfl ?_
      refine J_iadd C dX4_whole_17 ?_
      refine k_X4_byteOf C mw_583 dX4_whole_18 ⟨Nat.le_of_ble_eq_true rfl, Nat.le_of_ble_eq_true rfl⟩ (Nat.le_of_ble_eq_true rfl) h (fun r_1 h => ?_)
      refine k_X4_isDigit C mw_608 dX4_whole_21 ⟨Nat.le_of_ble_eq_true rfl, Nat.le_of_ble_eq_true rfl⟩ (Nat.le_of_ble_eq_true rfl) h (fun r_2 h => ?_)
      refine J_if_ne (tgt := 29) C dX4_whole_24 (by decide) h (fun h => ?_) (fun h => ?_)
      · refine J_bipush (v := (10 : Int32)) C dX4_whole_29 (by decide) ?_
        refine J_iload C 4 dX4_whole_31 rfl ?_
        refine J_imul C dX4_whole_33 ?_
        refine J_aload_n C 0 dX4_whole_34 rfl rfl ?_
        refine J_iload_n C 1 dX4_whole_35 rfl rfl ?_
        refine J_iload_n C 2 dX4_whole_36 rfl rfl ?_
        refine J_iload C 5 dX4_whole_37 rfl ?_
        refine J_iadd C dX4_whole_39 ?_
        refine k_X4_byteOf C mw_583 dX4_whole_40 ⟨Nat.le_of_ble_eq_true rfl, Nat.le_of_ble_eq_true rfl⟩ (Nat.le_of_ble_eq_true rfl) h (fun r_3 h => ?_)
        refine J_iadd C dX4_whole_43 ?_
        refine J_bipush (v := (48 : Int32)) C dX4_whole_44 (by decide) ?_
        refine J_isub C dX4_whole_46 ?_
        refine J_istore C [(4, .int ((((10 : Int32) * v4) + r_3) - (48 : Int32))), (0, .ref (a 0)), (1, .int v1), (2, .int v2), (3, .int v3), (5, .int v5)] dX4_whole_47 (by decide) rfl ?_
        refine J_iinc C 5 [(5, .int (v5 + (1 : Int32))), (4, .int ((((10 : Int32) * v4) + r_3) - (48 : Int32))), (0, .ref (a 0)), (1, .int v1), (2, .int v2), (3, .int v3)] dX4_whole_49 rfl rfl (by decide) rfl ?_
        refine J_goto (tgt := 6) C dX4_whole_52 (by decide) ?_
        refine J_lv [2, 3, 4, 5, 1, 0] rfl ?_
        exact ih _ _ h
      · refine J_iconst (v := (-1 : Int32)) C dX4_whole_27 (by decide) ?_
        exact J_iret C dX4_whole_28 ⟨h, rfl⟩
def P_X4_whole (K : Int32 → Prop) (w : MW) (v1 : Int32) (v2 : Int32) (v3 : Int32) : Prop := ∃ nf : Nat, P_X4_whole_6 K w v1 v2 v3 nf (0 : Int32) (0 : Int32)
set_option maxRecDepth 10000 in
theorem s_X4_whole {x : Mx} {g : Gd} {a : Nat → Nat} (C : Cx x g (sA 12 a) (mCl g a) cX4_whole 6 RX4 (some .int) 1 22) {K : Int32 → Prop} {w : MW}  {v1 : Int32} {v2 : Int32} {v3 : Int32} (h : P_X4_whole K w v1 v2 v3) : J x g (sA 12 a) (mCl g a) 6 (JQ x (sA 12 a) (QcI g (sA 12 a) (mCl g a) (fun r w' => K r ∧ w' = w))) w 0 [(0, .ref (a 0)), (1, .int v1), (2, .int v2), (3, .int v3)] [] := by
  unfold P_X4_whole at h
  refine J_iconst (v := (0 : Int32)) C dX4_whole_0 (by decide) ?_
  refine J_istore C [(4, .int (0 : Int32)), (0, .ref (a 0)), (1, .int v1), (2, .int v2), (3, .int v3)] dX4_whole_1 (by decide) rfl ?_
  refine J_iconst (v := (0 : Int32)) C dX4_whole_3 (by decide) ?_
  refine J_istore C [(5, .int (0 : Int32)), (4, .int (0 : Int32)), (0, .ref (a 0)), (1, .int v1), (2, .int v2), (3, .int v3)] dX4_whole_4 (by decide) rfl ?_
  obtain ⟨nf, h⟩ := h
  refine J_lv [2, 3, 4, 5, 1, 0] rfl ?_
  refine s_X4_whole_6 C  nf _ _ h
theorem c_X4_whole {l : Launch} {g : Gd} {a : Nat → Nat} {w : MW} {K : Int32 → Prop} {v1 : Int32} {v2 : Int32} {v3 : Int32} (h : P_X4_whole K w v1 v2 v3) : Kt l yX4_whole cX4_whole 6 (some .int) 1 22 g (sA 12 a) (mCl g a) [.ref (a 0), .int v1, .int v2, .int v3] w (QcI g (sA 12 a) (mCl g a) (fun r w' => K r ∧ w' = w)) :=
  Kt_of (by decide +kernel) (Nat.le_of_ble_eq_true rfl) (fun x hx C => s_X4_whole C h)
theorem k_X4_whole {x : Mx} {g : Gd} {a : Nat → Nat} {cc : ByteArray} {nL : Nat} {own : String} {ret : Option FieldType} {F L : Nat} {Q : State → Prop} {w : MW} {pc : Nat} {lv : List (Nat × Value)} {st : List Value} (C : Cx x g (sA 12 a) (mCl g a) cc nL own ret F L) {index : Nat} {K : Int32 → Prop} {v1 : Int32} {v2 : Int32} {v3 : Int32} (h1 : Cond.methodLink own index yX4_whole ∈ gT) (hd : decode cc pc = .ok (.invokevirtual index, 3)) (hR : 1 + 1 ≤ F ∧ 8 + (6 + 11) + 22 ≤ L) (hst : (st.map fun v => v.category).sum ≤ 8) (h : P_X4_whole K w v1 v2 v3) (k : ∀ (r : Int32), K r → J x g (sA 12 a) (mCl g a) nL Q w (pc + 3) lv (.int r :: st)) : J x g (sA 12 a) (mCl g a) nL Q w (pc) lv (.int v3 :: .int v2 :: .int v1 :: .ref (a 0) :: st) :=
  J_callVi C (As := [.int v1, .int v2, .int v3]) (b := a 0) (n := 3) (c_X4_whole h) h1 mw_623 mw_795 mw_6 mw_624 (by decide +kernel) hR rfl (rc_X4 C) hst hd (fun r w' hK => by
    obtain ⟨hK, rfl⟩ := hK
    exact k r hK)
-- X4_daysOf (pure, room 0 0)
def P_X4_daysOf (K : Int32 → Prop) (v0 : Int32) (v1 : Int32) : Prop := (¬ v1 = (2 : Int32) → (v1 = (4 : Int32) → K (30 : Int32)) ∧ (¬ v1 = (4 : Int32) → (v1 = (6 : Int32) → K (30 : Int32)) ∧ (¬ v1 = (6 : Int32) → (v1 = (9 : Int32) → K (30 : Int32)) ∧ (¬ v1 = (9 : Int32) → (¬ v1 = (11 : Int32) → K (31 : Int32)) ∧ (v1 = (11 : Int32) → K (30 : Int32)))))) ∧ (v1 = (2 : Int32) → (¬ (v0 - v0 / (4 : Int32) * (4 : Int32)) = 0 → K (28 : Int32)) ∧ ((v0 - v0 / (4 : Int32) * (4 : Int32)) = 0 → (¬ (v0 - v0 / (100 : Int32) * (100 : Int32)) = 0 → K (29 : Int32)) ∧ ((v0 - v0 / (100 : Int32) * (100 : Int32)) = 0 → (¬ (v0 - v0 / (400 : Int32) * (400 : Int32)) = 0 → K (28 : Int32)) ∧ ((v0 - v0 / (400 : Int32) * (400 : Int32)) = 0 → K (29 : Int32)))))
set_option maxRecDepth 10000 in
theorem s_X4_daysOf {x : Mx} {g : Gd} {Wd : Type} {A : Nat → Prop} {cl : Wd → va_W} (C : Cx x g A cl cX4_daysOf 2 RX4 (some .int) 0 0) {K : Int32 → Prop} {w : Wd}  {v0 : Int32} {v1 : Int32} (h : P_X4_daysOf K v0 v1) : J x g A cl 2 (JQ x A (QcI g A cl (fun r w' => K r ∧ w' = w))) w 0 [(0, .int v0), (1, .int v1)] [] := by
  unfold P_X4_daysOf at h
  refine J_iload_n C 1 dX4_daysOf_0 rfl rfl ?_
  refine J_iconst (v := (2 : Int32)) C dX4_daysOf_1 (by decide) ?_
  refine J_icmp_ne (tgt := 34) C dX4_daysOf_2 (by decide) h (fun h => ?_) (fun h => ?_)
  · refine J_iload_n C 1 dX4_daysOf_34 rfl rfl ?_
    refine J_iconst (v := (4 : Int32)) C dX4_daysOf_35 (by decide) ?_
    refine J_icmp_eq (tgt := 57) C dX4_daysOf_36 (by decide) h (fun h => ?_) (fun h => ?_)
    · refine J_bipush (v := (30 : Int32)) C dX4_daysOf_57 (by decide) ?_
      refine J_goto (tgt := 64) C dX4_daysOf_59 (by decide) ?_
      exact J_iret C dX4_daysOf_64 ⟨h, rfl⟩
    · refine J_iload_n C 1 dX4_daysOf_39 rfl rfl ?_
      refine J_bipush (v := (6 : Int32)) C dX4_daysOf_40 (by decide) ?_
      refine J_icmp_eq (tgt := 57) C dX4_daysOf_42 (by decide) h (fun h => ?_) (fun h => ?_)
      · refine J_bipush (v := (30 : Int32)) C dX4_daysOf_57 (by decide) ?_
        refine J_goto (tgt := 64) C dX4_daysOf_59 (by decide) ?_
        exact J_iret C dX4_daysOf_64 ⟨h, rfl⟩
      · refine J_iload_n C 1 dX4_daysOf_45 rfl rfl ?_
        refine J_bipush (v := (9 : Int32)) C dX4_daysOf_46 (by decide) ?_
        refine J_icmp_eq (tgt := 57) C dX4_daysOf_48 (by decide) h (fun h => ?_) (fun h => ?_)
        · refine J_bipush (v := (30 : Int32)) C dX4_daysOf_57 (by decide) ?_
          refine J_goto (tgt := 64) C dX4_daysOf_59 (by decide) ?_
          exact J_iret C dX4_daysOf_64 ⟨h, rfl⟩
        · refine J_iload_n C 1 dX4_daysOf_51 rfl rfl ?_
          refine J_bipush (v := (11 : Int32)) C dX4_daysOf_52 (by decide) ?_
          refine J_icmp_ne (tgt := 62) C dX4_daysOf_54 (by decide) h (fun h => ?_) (fun h => ?_)
          · refine J_bipush (v := (31 : Int32)) C dX4_daysOf_62 (by decide) ?_
            exact J_iret C dX4_daysOf_64 ⟨h, rfl⟩
          · refine J_bipush (v := (30 : Int32)) C dX4_daysOf_57 (by decide) ?_
            refine J_goto (tgt := 64) C dX4_daysOf_59 (by decide) ?_
            exact J_iret C dX4_daysOf_64 ⟨h, rfl⟩
  · refine J_iload_n C 0 dX4_daysOf_5 rfl rfl ?_
    refine J_iconst (v := (4 : Int32)) C dX4_daysOf_6 (by decide) ?_
    refine J_irem C dX4_daysOf_7 (by decide) ?_
    refine J_if_ne (tgt := 31) C dX4_daysOf_8 (by decide) h (fun h => ?_) (fun h => ?_)
    · refine J_bipush (v := (28 : Int32)) C dX4_daysOf_31 (by decide) ?_
      exact J_iret C dX4_daysOf_33 ⟨h, rfl⟩
    · refine J_iload_n C 0 dX4_daysOf_11 rfl rfl ?_
      refine J_bipush (v := (100 : Int32)) C dX4_daysOf_12 (by decide) ?_
      refine J_irem C dX4_daysOf_14 (by decide) ?_
      refine J_if_ne (tgt := 26) C dX4_daysOf_15 (by decide) h (fun h => ?_) (fun h => ?_)
      · refine J_bipush (v := (29 : Int32)) C dX4_daysOf_26 (by decide) ?_
        refine J_goto (tgt := 33) C dX4_daysOf_28 (by decide) ?_
        exact J_iret C dX4_daysOf_33 ⟨h, rfl⟩
      · refine J_iload_n C 0 dX4_daysOf_18 rfl rfl ?_
        refine J_sipush (v := (400 : Int32)) C dX4_daysOf_19 (by decide) ?_
        refine J_irem C dX4_daysOf_22 (by decide) ?_
        refine J_if_ne (tgt := 31) C dX4_daysOf_23 (by decide) h (fun h => ?_) (fun h => ?_)
        · refine J_bipush (v := (28 : Int32)) C dX4_daysOf_31 (by decide) ?_
          exact J_iret C dX4_daysOf_33 ⟨h, rfl⟩
        · refine J_bipush (v := (29 : Int32)) C dX4_daysOf_26 (by decide) ?_
          refine J_goto (tgt := 33) C dX4_daysOf_28 (by decide) ?_
          exact J_iret C dX4_daysOf_33 ⟨h, rfl⟩
theorem c_X4_daysOf {l : Launch} {g : Gd} {Wd : Type} {A : Nat → Prop} {cl : Wd → va_W} {w : Wd} {K : Int32 → Prop} {v0 : Int32} {v1 : Int32} (h : P_X4_daysOf K v0 v1) : Kt l yX4_daysOf cX4_daysOf 2 (some .int) 0 0 g A cl [.int v0, .int v1] w (QcI g A cl (fun r w' => K r ∧ w' = w)) :=
  Kt_of (by decide +kernel) (Nat.le_of_ble_eq_true rfl) (fun x hx C => s_X4_daysOf C h)
theorem k_X4_daysOf {x : Mx} {g : Gd} {Wd : Type} {A : Nat → Prop} {cl : Wd → va_W} {cc : ByteArray} {nL : Nat} {own : String} {ret : Option FieldType} {F L : Nat} {Q : State → Prop} {w : Wd} {pc : Nat} {lv : List (Nat × Value)} {st : List Value} (C : Cx x g A cl cc nL own ret F L) {index : Nat} {K : Int32 → Prop} {v0 : Int32} {v1 : Int32} (h1 : Cond.methodLink own index yX4_daysOf ∈ gT) (hd : decode cc pc = .ok (.invokestatic index, 3)) (hR : 0 + 1 ≤ F ∧ 8 + (2 + 11) + 0 ≤ L) (hst : (st.map fun v => v.category).sum ≤ 8) (h : P_X4_daysOf K v0 v1) (k : ∀ (r : Int32), K r → J x g A cl nL Q w (pc + 3) lv (.int r :: st)) : J x g A cl nL Q w (pc) lv (.int v1 :: .int v0 :: st) :=
  J_callSi C (As := [.int v0, .int v1]) (n := 2) (c_X4_daysOf h) h1 mw_626 mw_6 mw_627 (by decide +kernel) hR rfl hst hd (fun r w' hK => by
    obtain ⟨hK, rfl⟩ := hK
    exact k r hK)
-- X4_betweenOf (pure, room 0 0)
def P_X4_betweenOf (K : Int32 → Prop) (v0 : Int32) : Prop := (¬ ((v0 - (22 : Int32)) - (v0 - (22 : Int32)) / (3 : Int32) * (3 : Int32)) = 0 → (¬ ((v0 - (22 : Int32)) - (v0 - (22 : Int32)) / (3 : Int32) * (3 : Int32)) = (1 : Int32) → K (46 : Int32)) ∧ (((v0 - (22 : Int32)) - (v0 - (22 : Int32)) / (3 : Int32) * (3 : Int32)) = (1 : Int32) → K (45 : Int32))) ∧ (((v0 - (22 : Int32)) - (v0 - (22 : Int32)) / (3 : Int32) * (3 : Int32)) = 0 → K (47 : Int32))
set_option maxRecDepth 10000 in
theorem s_X4_betweenOf {x : Mx} {g : Gd} {Wd : Type} {A : Nat → Prop} {cl : Wd → va_W} (C : Cx x g A cl cX4_betweenOf 2 RX4 (some .int) 0 0) {K : Int32 → Prop} {w : Wd}  {v0 : Int32} (h : P_X4_betweenOf K v0) : J x g A cl 2 (JQ x A (QcI g A cl (fun r w' => K r ∧ w' = w))) w 0 [(0, .int v0)] [] := by
  unfold P_X4_betweenOf at h
  refine J_iload_n C 0 dX4_betweenOf_0 rfl rfl ?_
  refine J_bipush (v := (22 : Int32)) C dX4_betweenOf_1 (by decide) ?_
  refine J_isub C dX4_betweenOf_3 ?_
  refine J_iconst (v := (3 : Int32)) C dX4_betweenOf_4 (by decide) ?_
  refine J_irem C dX4_betweenOf_5 (by decide) ?_
  refine J_istore_n C [(1, .int ((v0 - (22 : Int32)) - (v0 - (22 : Int32)) / (3 : Int32) * (3 : Int32))), (0, .int v0)] dX4_betweenOf_6 rfl (by decide) rfl ?_
  refine J_iload_n C 0 dX4_betweenOf_7 rfl rfl ?_
  refine J_if_ne (tgt := 16) C dX4_betweenOf_8 (by decide) h (fun h => ?_) (fun h => ?_)
  · refine J_iload_n C 0 dX4_betweenOf_16 rfl rfl ?_
    refine J_iconst (v := (1 : Int32)) C dX4_betweenOf_17 (by decide) ?_
    refine J_icmp_ne (tgt := 26) C dX4_betweenOf_18 (by decide) h (fun h => ?_) (fun h => ?_)
    · refine J_bipush (v := (46 : Int32)) C dX4_betweenOf_26 (by decide) ?_
      exact J_iret C dX4_betweenOf_28 ⟨h, rfl⟩
    · refine J_bipush (v := (45 : Int32)) C dX4_betweenOf_21 (by decide) ?_
      refine J_goto (tgt := 28) C dX4_betweenOf_23 (by decide) ?_
      exact J_iret C dX4_betweenOf_28 ⟨h, rfl⟩
  · refine J_bipush (v := (47 : Int32)) C dX4_betweenOf_11 (by decide) ?_
    refine J_goto (tgt := 28) C dX4_betweenOf_13 (by decide) ?_
    exact J_iret C dX4_betweenOf_28 ⟨h, rfl⟩
theorem c_X4_betweenOf {l : Launch} {g : Gd} {Wd : Type} {A : Nat → Prop} {cl : Wd → va_W} {w : Wd} {K : Int32 → Prop} {v0 : Int32} (h : P_X4_betweenOf K v0) : Kt l yX4_betweenOf cX4_betweenOf 2 (some .int) 0 0 g A cl [.int v0] w (QcI g A cl (fun r w' => K r ∧ w' = w)) :=
  Kt_of (by decide +kernel) (Nat.le_of_ble_eq_true rfl) (fun x hx C => s_X4_betweenOf C h)
theorem k_X4_betweenOf {x : Mx} {g : Gd} {Wd : Type} {A : Nat → Prop} {cl : Wd → va_W} {cc : ByteArray} {nL : Nat} {own : String} {ret : Option FieldType} {F L : Nat} {Q : State → Prop} {w : Wd} {pc : Nat} {lv : List (Nat × Value)} {st : List Value} (C : Cx x g A cl cc nL own ret F L) {index : Nat} {K : Int32 → Prop} {v0 : Int32} (h1 : Cond.methodLink own index yX4_betweenOf ∈ gT) (hd : decode cc pc = .ok (.invokestatic index, 3)) (hR : 0 + 1 ≤ F ∧ 8 + (2 + 11) + 0 ≤ L) (hst : (st.map fun v => v.category).sum ≤ 8) (h : P_X4_betweenOf K v0) (k : ∀ (r : Int32), K r → J x g A cl nL Q w (pc + 3) lv (.int r :: st)) : J x g A cl nL Q w (pc) lv (.int v0 :: st) :=
  J_callSi C (As := [.int v0]) (n := 1) (c_X4_betweenOf h) h1 mw_620 mw_6 mw_621 (by decide +kernel) hR rfl hst hd (fun r w' hK => by
    obtain ⟨hK, rfl⟩ := hK
    exact k r hK)
-- X4_isDay (changes, room 2 47)
def P_X4_isDay_135 (K : Int32 → MW → Prop) (w : MW) (v5 : Int32) (v6 : Int32) (s0 : Int32) (s1 : Int32) : Prop := P_X4_whole (fun r_6 => P_X4_in (fun r_7 => (r_7 = 0 → K (0 : Int32) w) ∧ (¬ r_7 = 0 → P_X4_in (fun r_8 => (r_8 = 0 → K (0 : Int32) w) ∧ (¬ r_8 = 0 → P_X4_daysOf (fun r_9 => P_X4_in (fun r_10 => (¬ r_10 = 0 → K (1 : Int32) (md_value_s w ((((Int32.toInt64 v5) * (10000 : Int64)) + ((Int32.toInt64 v6) * (100 : Int64))) + (Int32.toInt64 r_6)))) ∧ (r_10 = 0 → K (0 : Int32) w)) r_6 (1 : Int32) r_9) v5 v6)) v6 (1 : Int32) (12 : Int32))) v5 (1600 : Int32) (2999 : Int32)) w s1 s0 (2 : Int32)
set_option maxRecDepth 10000 in
theorem s_X4_isDay_135 {x : Mx} {g : Gd} {a : Nat → Nat} (C : Cx x g (sA 12 a) (mCl g a) cX4_isDay 8 RX4 (some .boolean) 2 47) {K : Int32 → MW → Prop}  {v5 : Int32} {v6 : Int32} {s0 : Int32} {s1 : Int32} {w : MW} (h : P_X4_isDay_135 K w v5 v6 s0 s1) : J x g (sA 12 a) (mCl g a) 8 (JQ x (sA 12 a) (QcI g (sA 12 a) (mCl g a) K)) w 135 [(0, .ref (a 0)), (5, .int v5), (6, .int v6)] [.int s0, .int s1, .ref (a 0)] := by
  unfold P_X4_isDay_135 at h
  refine J_iconst (v := (2 : Int32)) C dX4_isDay_135 (by decide) ?_
  refine k_X4_whole C mw_622 dX4_isDay_136 ⟨Nat.le_of_ble_eq_true rfl, Nat.le_of_ble_eq_true rfl⟩ (Nat.le_of_ble_eq_true rfl) h (fun r_6 h => ?_)
  refine J_istore C [(7, .int r_6), (0, .ref (a 0)), (5, .int v5), (6, .int v6)] dX4_isDay_139 (by decide) rfl ?_
  refine J_iload C 2 dX4_isDay_141 rfl ?_
  refine J_sipush (v := (1600 : Int32)) C dX4_isDay_143 (by decide) ?_
  refine J_sipush (v := (2999 : Int32)) C dX4_isDay_146 (by decide) ?_
  refine k_X4_in C mw_500 dX4_isDay_149 ⟨Nat.le_of_ble_eq_true rfl, Nat.le_of_ble_eq_true rfl⟩ (Nat.le_of_ble_eq_true rfl) h (fun r_7 h => ?_)
  refine J_if_eq (tgt := 182) C dX4_isDay_152 (by decide) h (fun h => ?_) (fun h => ?_)
  · refine J_iconst (v := (0 : Int32)) C dX4_isDay_182 (by decide) ?_
    exact J_zret C dX4_isDay_183 rfl h
  · refine J_iload C 3 dX4_isDay_155 rfl ?_
    refine J_iconst (v := (1 : Int32)) C dX4_isDay_157 (by decide) ?_
    refine J_bipush (v := (12 : Int32)) C dX4_isDay_158 (by decide) ?_
    refine k_X4_in C mw_500 dX4_isDay_160 ⟨Nat.le_of_ble_eq_true rfl, Nat.le_of_ble_eq_true rfl⟩ (Nat.le_of_ble_eq_true rfl) h (fun r_8 h => ?_)
    refine J_if_eq (tgt := 182) C dX4_isDay_163 (by decide) h (fun h => ?_) (fun h => ?_)
    · refine J_iconst (v := (0 : Int32)) C dX4_isDay_182 (by decide) ?_
      exact J_zret C dX4_isDay_183 rfl h
    · refine J_iload C 0 dX4_isDay_166 rfl ?_
      refine J_iconst (v := (1 : Int32)) C dX4_isDay_168 (by decide) ?_
      refine J_iload C 2 dX4_isDay_169 rfl ?_
      refine J_iload C 3 dX4_isDay_171 rfl ?_
      refine k_X4_daysOf C mw_625 dX4_isDay_173 ⟨Nat.le_of_ble_eq_true rfl, Nat.le_of_ble_eq_true rfl⟩ (Nat.le_of_ble_eq_true rfl) h (fun r_9 h => ?_)
      refine k_X4_in C mw_500 dX4_isDay_176 ⟨Nat.le_of_ble_eq_true rfl, Nat.le_of_ble_eq_true rfl⟩ (Nat.le_of_ble_eq_true rfl) h (fun r_10 h => ?_)
      refine J_if_ne (tgt := 184) C dX4_isDay_179 (by decide) h (fun h => ?_) (fun h => ?_)
      · refine J_aload_n C 1 dX4_isDay_184 rfl rfl ?_
        refine J_iload C 2 dX4_isDay_185 rfl ?_
        refine J_i2l C dX4_isDay_187 ?_
        refine J_ldc2 (v := (10000 : Int64)) C mw_628 dX4_isDay_188 ?_
        refine J_lmul C dX4_isDay_191 ?_
        refine J_iload C 3 dX4_isDay_192 rfl ?_
        refine J_i2l C dX4_isDay_194 ?_
        refine J_ldc2 (v := (100 : Int64)) C mw_629 dX4_isDay_195 ?_
        refine J_lmul C dX4_isDay_198 ?_
        refine J_ladd C dX4_isDay_199 ?_
        refine J_iload C 0 dX4_isDay_200 rfl ?_
        refine J_i2l C dX4_isDay_202 ?_
        refine J_ladd C dX4_isDay_203 ?_
        refine S_md_value C mw_478 dX4_isDay_204 ?_
        refine J_iconst (v := (1 : Int32)) C dX4_isDay_207 (by decide) ?_
        exact J_zret C dX4_isDay_208 rfl h
      · refine J_iconst (v := (0 : Int32)) C dX4_isDay_182 (by decide) ?_
        exact J_zret C dX4_isDay_183 rfl h
def P_X4_isDay_108 (K : Int32 → MW → Prop) (w : MW) (v1 : Int32) (v3 : Int32) (v5 : Int32) (s0 : Int32) (s1 : Int32) : Prop := P_X4_whole (fun r_5 => (¬ v3 = 0 → (¬ v3 = (1 : Int32) → P_X4_isDay_135 K w v5 r_5 (8 : Int32) v1) ∧ (v3 = (1 : Int32) → P_X4_isDay_135 K w v5 r_5 (3 : Int32) v1)) ∧ (v3 = 0 → P_X4_isDay_135 K w v5 r_5 (0 : Int32) v1)) w s1 s0 (2 : Int32)
set_option maxRecDepth 10000 in
theorem s_X4_isDay_108 {x : Mx} {g : Gd} {a : Nat → Nat} (C : Cx x g (sA 12 a) (mCl g a) cX4_isDay 8 RX4 (some .boolean) 2 47) {K : Int32 → MW → Prop}  {v1 : Int32} {v3 : Int32} {v5 : Int32} {s0 : Int32} {s1 : Int32} {w : MW} (h : P_X4_isDay_108 K w v1 v3 v5 s0 s1) : J x g (sA 12 a) (mCl g a) 8 (JQ x (sA 12 a) (QcI g (sA 12 a) (mCl g a) K)) w 108 [(0, .ref (a 0)), (1, .int v1), (3, .int v3), (5, .int v5)] [.int s0, .int s1, .ref (a 0)] := by
  unfold P_X4_isDay_108 at h
  refine J_iconst (v := (2 : Int32)) C dX4_isDay_108 (by decide) ?_
  refine k_X4_whole C mw_622 dX4_isDay_109 ⟨Nat.le_of_ble_eq_true rfl, Nat.le_of_ble_eq_true rfl⟩ (Nat.le_of_ble_eq_true rfl) h (fun r_5 h => ?_)
  refine J_istore C [(6, .int r_5), (0, .ref (a 0)), (1, .int v1), (3, .int v3), (5, .int v5)] dX4_isDay_112 (by decide) rfl ?_
  refine J_aload_n C 1 dX4_isDay_114 rfl rfl ?_
  refine J_iload_n C 2 dX4_isDay_115 rfl rfl ?_
  refine J_iload_n C 3 dX4_isDay_116 rfl rfl ?_
  refine J_if_ne (tgt := 124) C dX4_isDay_117 (by decide) h (fun h => ?_) (fun h => ?_)
  · refine J_iload_n C 3 dX4_isDay_124 rfl rfl ?_
    refine J_iconst (v := (1 : Int32)) C dX4_isDay_125 (by decide) ?_
    refine J_icmp_ne (tgt := 133) C dX4_isDay_126 (by decide) h (fun h => ?_) (fun h => ?_)
    · refine J_bipush (v := (8 : Int32)) C dX4_isDay_133 (by decide) ?_
      refine J_lv [1, 4, 0] rfl ?_
      exact s_X4_isDay_135 C h
    · refine J_iconst (v := (3 : Int32)) C dX4_isDay_129 (by decide) ?_
      refine J_goto (tgt := 135) C dX4_isDay_130 (by decide) ?_
      refine J_lv [1, 4, 0] rfl ?_
      exact s_X4_isDay_135 C h
  · refine J_iconst (v := (0 : Int32)) C dX4_isDay_120 (by decide) ?_
    refine J_goto (tgt := 135) C dX4_isDay_121 (by decide) ?_
    refine J_lv [1, 4, 0] rfl ?_
    exact s_X4_isDay_135 C h
def P_X4_isDay_82 (K : Int32 → MW → Prop) (w : MW) (v1 : Int32) (v3 : Int32) (s0 : Int32) (s1 : Int32) : Prop := P_X4_whole (fun r_4 => (¬ v3 = 0 → (¬ v3 = (1 : Int32) → P_X4_isDay_108 K w v1 v3 r_4 (5 : Int32) v1) ∧ (v3 = (1 : Int32) → P_X4_isDay_108 K w v1 v3 r_4 (0 : Int32) v1)) ∧ (v3 = 0 → P_X4_isDay_108 K w v1 v3 r_4 (3 : Int32) v1)) w s1 s0 (4 : Int32)
set_option maxRecDepth 10000 in
theorem s_X4_isDay_82 {x : Mx} {g : Gd} {a : Nat → Nat} (C : Cx x g (sA 12 a) (mCl g a) cX4_isDay 8 RX4 (some .boolean) 2 47) {K : Int32 → MW → Prop}  {v1 : Int32} {v3 : Int32} {s0 : Int32} {s1 : Int32} {w : MW} (h : P_X4_isDay_82 K w v1 v3 s0 s1) : J x g (sA 12 a) (mCl g a) 8 (JQ x (sA 12 a) (QcI g (sA 12 a) (mCl g a) K)) w 82 [(0, .ref (a 0)), (1, .int v1), (3, .int v3)] [.int s0, .int s1, .ref (a 0)] := by
  unfold P_X4_isDay_82 at h
  refine J_iconst (v := (4 : Int32)) C dX4_isDay_82 (by decide) ?_
  refine k_X4_whole C mw_622 dX4_isDay_83 ⟨Nat.le_of_ble_eq_true rfl, Nat.le_of_ble_eq_true rfl⟩ (Nat.le_of_ble_eq_true rfl) h (fun r_4 h => ?_)
  refine J_istore C [(5, .int r_4), (0, .ref (a 0)), (1, .int v1), (3, .int v3)] dX4_isDay_86 (by decide) rfl ?_
  refine J_aload_n C 1 dX4_isDay_88 rfl rfl ?_
  refine J_iload_n C 2 dX4_isDay_89 rfl rfl ?_
  refine J_iload_n C 3 dX4_isDay_90 rfl rfl ?_
  refine J_if_ne (tgt := 98) C dX4_isDay_91 (by decide) h (fun h => ?_) (fun h => ?_)
  · refine J_iload_n C 3 dX4_isDay_98 rfl rfl ?_
    refine J_iconst (v := (1 : Int32)) C dX4_isDay_99 (by decide) ?_
    refine J_icmp_ne (tgt := 107) C dX4_isDay_100 (by decide) h (fun h => ?_) (fun h => ?_)
    · refine J_iconst (v := (5 : Int32)) C dX4_isDay_107 (by decide) ?_
      refine J_lv [1, 2, 3, 0] rfl ?_
      exact s_X4_isDay_108 C h
    · refine J_iconst (v := (0 : Int32)) C dX4_isDay_103 (by decide) ?_
      refine J_goto (tgt := 108) C dX4_isDay_104 (by decide) ?_
      refine J_lv [1, 2, 3, 0] rfl ?_
      exact s_X4_isDay_108 C h
  · refine J_iconst (v := (3 : Int32)) C dX4_isDay_94 (by decide) ?_
    refine J_goto (tgt := 108) C dX4_isDay_95 (by decide) ?_
    refine J_lv [1, 2, 3, 0] rfl ?_
    exact s_X4_isDay_108 C h
def P_X4_isDay_59 (K : Int32 → MW → Prop) (w : MW) (v1 : Int32) (v3 : Int32) (v4 : Int32) (s0 : Int32) (s1 : Int32) : Prop := P_X4_byteOf (fun r_3 => (r_3 = v4 → (¬ v3 = (2 : Int32) → P_X4_isDay_82 K w v1 v3 (6 : Int32) v1) ∧ (v3 = (2 : Int32) → P_X4_isDay_82 K w v1 v3 (0 : Int32) v1)) ∧ (¬ r_3 = v4 → K (0 : Int32) w)) w s1 s0
set_option maxRecDepth 10000 in
theorem s_X4_isDay_59 {x : Mx} {g : Gd} {a : Nat → Nat} (C : Cx x g (sA 12 a) (mCl g a) cX4_isDay 8 RX4 (some .boolean) 2 47) {K : Int32 → MW → Prop}  {v1 : Int32} {v3 : Int32} {v4 : Int32} {s0 : Int32} {s1 : Int32} {w : MW} (h : P_X4_isDay_59 K w v1 v3 v4 s0 s1) : J x g (sA 12 a) (mCl g a) 8 (JQ x (sA 12 a) (QcI g (sA 12 a) (mCl g a) K)) w 59 [(0, .ref (a 0)), (1, .int v1), (3, .int v3), (4, .int v4)] [.int s0, .int s1, .ref (a 0)] := by
  unfold P_X4_isDay_59 at h
  refine k_X4_byteOf C mw_583 dX4_isDay_59 ⟨Nat.le_of_ble_eq_true rfl, Nat.le_of_ble_eq_true rfl⟩ (Nat.le_of_ble_eq_true rfl) h (fun r_3 h => ?_)
  refine J_iload C 3 dX4_isDay_62 rfl ?_
  refine J_icmp_eq (tgt := 69) C dX4_isDay_64 (by decide) h (fun h => ?_) (fun h => ?_)
  · refine J_aload_n C 0 dX4_isDay_69 rfl rfl ?_
    refine J_iload_n C 1 dX4_isDay_70 rfl rfl ?_
    refine J_iload_n C 2 dX4_isDay_71 rfl rfl ?_
    refine J_iconst (v := (2 : Int32)) C dX4_isDay_72 (by decide) ?_
    refine J_icmp_ne (tgt := 80) C dX4_isDay_73 (by decide) h (fun h => ?_) (fun h => ?_)
    · refine J_bipush (v := (6 : Int32)) C dX4_isDay_80 (by decide) ?_
      refine J_lv [0, 1, 2] rfl ?_
      exact s_X4_isDay_82 C h
    · refine J_iconst (v := (0 : Int32)) C dX4_isDay_76 (by decide) ?_
      refine J_goto (tgt := 82) C dX4_isDay_77 (by decide) ?_
      refine J_lv [0, 1, 2] rfl ?_
      exact s_X4_isDay_82 C h
  · refine J_iconst (v := (0 : Int32)) C dX4_isDay_67 (by decide) ?_
    exact J_zret C dX4_isDay_68 rfl h
def P_X4_isDay_38 (K : Int32 → MW → Prop) (w : MW) (v1 : Int32) (v3 : Int32) (v4 : Int32) (s0 : Int32) (s1 : Int32) : Prop := P_X4_byteOf (fun r_2 => (¬ r_2 = v4 → K (0 : Int32) w) ∧ (r_2 = v4 → (¬ v3 = (2 : Int32) → P_X4_isDay_59 K w v1 v3 v4 (5 : Int32) v1) ∧ (v3 = (2 : Int32) → P_X4_isDay_59 K w v1 v3 v4 (7 : Int32) v1))) w s1 s0
set_option maxRecDepth 10000 in
theorem s_X4_isDay_38 {x : Mx} {g : Gd} {a : Nat → Nat} (C : Cx x g (sA 12 a) (mCl g a) cX4_isDay 8 RX4 (some .boolean) 2 47) {K : Int32 → MW → Prop}  {v1 : Int32} {v3 : Int32} {v4 : Int32} {s0 : Int32} {s1 : Int32} {w : MW} (h : P_X4_isDay_38 K w v1 v3 v4 s0 s1) : J x g (sA 12 a) (mCl g a) 8 (JQ x (sA 12 a) (QcI g (sA 12 a) (mCl g a) K)) w 38 [(0, .ref (a 0)), (1, .int v1), (3, .int v3), (4, .int v4)] [.int s0, .int s1, .ref (a 0)] := by
  unfold P_X4_isDay_38 at h
  refine k_X4_byteOf C mw_583 dX4_isDay_38 ⟨Nat.le_of_ble_eq_true rfl, Nat.le_of_ble_eq_true rfl⟩ (Nat.le_of_ble_eq_true rfl) h (fun r_2 h => ?_)
  refine J_iload C 3 dX4_isDay_41 rfl ?_
  refine J_icmp_ne (tgt := 67) C dX4_isDay_43 (by decide) h (fun h => ?_) (fun h => ?_)
  · refine J_iconst (v := (0 : Int32)) C dX4_isDay_67 (by decide) ?_
    exact J_zret C dX4_isDay_68 rfl h
  · refine J_aload_n C 0 dX4_isDay_46 rfl rfl ?_
    refine J_iload_n C 1 dX4_isDay_47 rfl rfl ?_
    refine J_iload_n C 2 dX4_isDay_48 rfl rfl ?_
    refine J_iconst (v := (2 : Int32)) C dX4_isDay_49 (by decide) ?_
    refine J_icmp_ne (tgt := 58) C dX4_isDay_50 (by decide) h (fun h => ?_) (fun h => ?_)
    · refine J_iconst (v := (5 : Int32)) C dX4_isDay_58 (by decide) ?_
      refine J_lv [0, 1, 2, 3] rfl ?_
      exact s_X4_isDay_59 C h
    · refine J_bipush (v := (7 : Int32)) C dX4_isDay_53 (by decide) ?_
      refine J_goto (tgt := 59) C dX4_isDay_55 (by decide) ?_
      refine J_lv [0, 1, 2, 3] rfl ?_
      exact s_X4_isDay_59 C h
def P_X4_isDay (K : Int32 → MW → Prop) (w : MW) (v1 : Int32) (v2 : Int32) : Prop := vp_in v1 960 ∧ (((md_cellSize w v1.toNatClampNeg) = (10 : Int32) → P_X4_betweenOf (fun r_1 => (¬ ((v2 - (22 : Int32)) / (3 : Int32)) = (2 : Int32) → P_X4_isDay_38 K w v1 ((v2 - (22 : Int32)) / (3 : Int32)) r_1 (2 : Int32) v1) ∧ (((v2 - (22 : Int32)) / (3 : Int32)) = (2 : Int32) → P_X4_isDay_38 K w v1 ((v2 - (22 : Int32)) / (3 : Int32)) r_1 (4 : Int32) v1)) v2) ∧ (¬ (md_cellSize w v1.toNatClampNeg) = (10 : Int32) → K (0 : Int32) w))
set_option maxRecDepth 10000 in
theorem s_X4_isDay {x : Mx} {g : Gd} {a : Nat → Nat} (C : Cx x g (sA 12 a) (mCl g a) cX4_isDay 8 RX4 (some .boolean) 2 47) {K : Int32 → MW → Prop}  {w : MW} {v1 : Int32} {v2 : Int32} (h : P_X4_isDay K w v1 v2) : J x g (sA 12 a) (mCl g a) 8 (JQ x (sA 12 a) (QcI g (sA 12 a) (mCl g a) K)) w 0 [(0, .ref (a 0)), (1, .int v1), (2, .int v2)] [] := by
  unfold P_X4_isDay at h
  refine J_aload_n C 0 dX4_isDay_0 rfl rfl ?_
  refine G_md_cellSize C mw_473 dX4_isDay_1 ?_
  refine J_iload_n C 1 dX4_isDay_4 rfl rfl ?_
  refine L_md_cellSize C dX4_isDay_5 h (fun h => ?_)
  refine J_bipush (v := (10 : Int32)) C dX4_isDay_6 (by decide) ?_
  refine J_icmp_eq (tgt := 13) C dX4_isDay_8 (by decide) h (fun h => ?_) (fun h => ?_)
  · refine J_iload_n C 2 dX4_isDay_13 rfl rfl ?_
    refine J_bipush (v := (22 : Int32)) C dX4_isDay_14 (by decide) ?_
    refine J_isub C dX4_isDay_16 ?_
    refine J_iconst (v := (3 : Int32)) C dX4_isDay_17 (by decide) ?_
    refine J_idiv C dX4_isDay_18 (by decide) ?_
    refine J_istore_n C [(3, .int ((v2 - (22 : Int32)) / (3 : Int32))), (0, .ref (a 0)), (1, .int v1), (2, .int v2)] dX4_isDay_19 rfl (by decide) rfl ?_
    refine J_iload_n C 3 dX4_isDay_20 rfl rfl ?_
    refine k_X4_betweenOf C mw_619 dX4_isDay_21 ⟨Nat.le_of_ble_eq_true rfl, Nat.le_of_ble_eq_true rfl⟩ (Nat.le_of_ble_eq_true rfl) h (fun r_1 h => ?_)
    refine J_istore C [(4, .int r_1), (3, .int ((v2 - (22 : Int32)) / (3 : Int32))), (0, .ref (a 0)), (1, .int v1), (2, .int v2)] dX4_isDay_24 (by decide) rfl ?_
    refine J_aload_n C 2 dX4_isDay_26 rfl rfl ?_
    refine J_iload_n C 3 dX4_isDay_27 rfl rfl ?_
    refine J_iload_n C 1 dX4_isDay_28 rfl rfl ?_
    refine J_iconst (v := (2 : Int32)) C dX4_isDay_29 (by decide) ?_
    refine J_icmp_ne (tgt := 37) C dX4_isDay_30 (by decide) h (fun h => ?_) (fun h => ?_)
    · refine J_iconst (v := (2 : Int32)) C dX4_isDay_37 (by decide) ?_
      refine J_lv [2, 3, 1, 0] rfl ?_
      exact s_X4_isDay_38 C h
    · refine J_iconst (v := (4 : Int32)) C dX4_isDay_33 (by decide) ?_
      refine J_goto (tgt := 38) C dX4_isDay_34 (by decide) ?_
      refine J_lv [2, 3, 1, 0] rfl ?_
      exact s_X4_isDay_38 C h
  · refine J_iconst (v := (0 : Int32)) C dX4_isDay_11 (by decide) ?_
    exact J_zret C dX4_isDay_12 rfl h
theorem c_X4_isDay {l : Launch} {g : Gd} {a : Nat → Nat} {w : MW} {K : Int32 → MW → Prop} {v1 : Int32} {v2 : Int32} (h : P_X4_isDay K w v1 v2) : Kt l yX4_isDay cX4_isDay 8 (some .boolean) 2 47 g (sA 12 a) (mCl g a) [.ref (a 0), .int v1, .int v2] w (QcI g (sA 12 a) (mCl g a) K) :=
  Kt_of (by decide +kernel) (Nat.le_of_ble_eq_true rfl) (fun x hx C => s_X4_isDay C h)
theorem k_X4_isDay {x : Mx} {g : Gd} {a : Nat → Nat} {cc : ByteArray} {nL : Nat} {own : String} {ret : Option FieldType} {F L : Nat} {Q : State → Prop} {w : MW} {pc : Nat} {lv : List (Nat × Value)} {st : List Value} (C : Cx x g (sA 12 a) (mCl g a) cc nL own ret F L) {index : Nat} {K : Int32 → MW → Prop} {v1 : Int32} {v2 : Int32} (h1 : Cond.methodLink own index yX4_isDay ∈ gT) (hd : decode cc pc = .ok (.invokevirtual index, 3)) (hR : 2 + 1 ≤ F ∧ 8 + (8 + 11) + 47 ≤ L) (hst : (st.map fun v => v.category).sum ≤ 8) (h : P_X4_isDay K w v1 v2) (k : ∀ (r : Int32) (w' : MW), K r w' → J x g (sA 12 a) (mCl g a) nL Q w' (pc + 3) lv (.int r :: st)) : J x g (sA 12 a) (mCl g a) nL Q w (pc) lv (.int v2 :: .int v1 :: .ref (a 0) :: st) :=
  J_callVi C (As := [.int v1, .int v2]) (b := a 0) (n := 2) (c_X4_isDay h) h1 mw_617 mw_794 mw_6 mw_618 (by decide +kernel) hR rfl (rc_X4 C) hst hd k
-- X4_sortOf (pure, room 1 22)
def P_X4_sortOf (K : Int32 → Prop) (v0 : Int32) : Prop := P_X4_isDigit (fun r_1 => (r_1 = 0 → P_X4_in (fun r_2 => (r_2 = 0 → P_X4_in (fun r_3 => (r_3 = 0 → K ((4 : Int32) + v0)) ∧ (¬ r_3 = 0 → K (3 : Int32))) v0 (97 : Int32) (122 : Int32)) ∧ (¬ r_2 = 0 → K (2 : Int32))) v0 (65 : Int32) (90 : Int32)) ∧ (¬ r_1 = 0 → K (1 : Int32))) v0
set_option maxRecDepth 10000 in
theorem s_X4_sortOf {x : Mx} {g : Gd} {Wd : Type} {A : Nat → Prop} {cl : Wd → va_W} (C : Cx x g A cl cX4_sortOf 1 RX4 (some .int) 1 22) {K : Int32 → Prop} {w : Wd}  {v0 : Int32} (h : P_X4_sortOf K v0) : J x g A cl 1 (JQ x A (QcI g A cl (fun r w' => K r ∧ w' = w))) w 0 [(0, .int v0)] [] := by
  unfold P_X4_sortOf at h
  refine J_iload_n C 0 dX4_sortOf_0 rfl rfl ?_
  refine k_X4_isDigit C mw_608 dX4_sortOf_1 ⟨Nat.le_of_ble_eq_true rfl, Nat.le_of_ble_eq_true rfl⟩ (Nat.le_of_ble_eq_true rfl) h (fun r_1 h => ?_)
  refine J_if_eq (tgt := 11) C dX4_sortOf_4 (by decide) h (fun h => ?_) (fun h => ?_)
  · refine J_iload_n C 0 dX4_sortOf_11 rfl rfl ?_
    refine J_bipush (v := (65 : Int32)) C dX4_sortOf_12 (by decide) ?_
    refine J_bipush (v := (90 : Int32)) C dX4_sortOf_14 (by decide) ?_
    refine k_X4_in C mw_500 dX4_sortOf_16 ⟨Nat.le_of_ble_eq_true rfl, Nat.le_of_ble_eq_true rfl⟩ (Nat.le_of_ble_eq_true rfl) h (fun r_2 h => ?_)
    refine J_if_eq (tgt := 26) C dX4_sortOf_19 (by decide) h (fun h => ?_) (fun h => ?_)
    · refine J_iload_n C 0 dX4_sortOf_26 rfl rfl ?_
      refine J_bipush (v := (97 : Int32)) C dX4_sortOf_27 (by decide) ?_
      refine J_bipush (v := (122 : Int32)) C dX4_sortOf_29 (by decide) ?_
      refine k_X4_in C mw_500 dX4_sortOf_31 ⟨Nat.le_of_ble_eq_true rfl, Nat.le_of_ble_eq_true rfl⟩ (Nat.le_of_ble_eq_true rfl) h (fun r_3 h => ?_)
      refine J_if_eq (tgt := 41) C dX4_sortOf_34 (by decide) h (fun h => ?_) (fun h => ?_)
      · refine J_iconst (v := (4 : Int32)) C dX4_sortOf_41 (by decide) ?_
        refine J_iload_n C 0 dX4_sortOf_42 rfl rfl ?_
        refine J_iadd C dX4_sortOf_43 ?_
        exact J_iret C dX4_sortOf_44 ⟨h, rfl⟩
      · refine J_iconst (v := (3 : Int32)) C dX4_sortOf_37 (by decide) ?_
        refine J_goto (tgt := 44) C dX4_sortOf_38 (by decide) ?_
        exact J_iret C dX4_sortOf_44 ⟨h, rfl⟩
    · refine J_iconst (v := (2 : Int32)) C dX4_sortOf_22 (by decide) ?_
      refine J_goto (tgt := 44) C dX4_sortOf_23 (by decide) ?_
      exact J_iret C dX4_sortOf_44 ⟨h, rfl⟩
  · refine J_iconst (v := (1 : Int32)) C dX4_sortOf_7 (by decide) ?_
    refine J_goto (tgt := 44) C dX4_sortOf_8 (by decide) ?_
    exact J_iret C dX4_sortOf_44 ⟨h, rfl⟩
theorem c_X4_sortOf {l : Launch} {g : Gd} {Wd : Type} {A : Nat → Prop} {cl : Wd → va_W} {w : Wd} {K : Int32 → Prop} {v0 : Int32} (h : P_X4_sortOf K v0) : Kt l yX4_sortOf cX4_sortOf 1 (some .int) 1 22 g A cl [.int v0] w (QcI g A cl (fun r w' => K r ∧ w' = w)) :=
  Kt_of (by decide +kernel) (Nat.le_of_ble_eq_true rfl) (fun x hx C => s_X4_sortOf C h)
theorem k_X4_sortOf {x : Mx} {g : Gd} {Wd : Type} {A : Nat → Prop} {cl : Wd → va_W} {cc : ByteArray} {nL : Nat} {own : String} {ret : Option FieldType} {F L : Nat} {Q : State → Prop} {w : Wd} {pc : Nat} {lv : List (Nat × Value)} {st : List Value} (C : Cx x g A cl cc nL own ret F L) {index : Nat} {K : Int32 → Prop} {v0 : Int32} (h1 : Cond.methodLink own index yX4_sortOf ∈ gT) (hd : decode cc pc = .ok (.invokestatic index, 3)) (hR : 1 + 1 ≤ F ∧ 8 + (1 + 11) + 22 ≤ L) (hst : (st.map fun v => v.category).sum ≤ 8) (h : P_X4_sortOf K v0) (k : ∀ (r : Int32), K r → J x g A cl nL Q w (pc + 3) lv (.int r :: st)) : J x g A cl nL Q w (pc) lv (.int v0 :: st) :=
  J_callSi C (As := [.int v0]) (n := 1) (c_X4_sortOf h) h1 mw_634 mw_6 mw_635 (by decide +kernel) hR rfl hst hd (fun r w' hK => by
    obtain ⟨hK, rfl⟩ := hK
    exact k r hK)
-- X4_isCode (changes, room 2 42)
def P_X4_isCode_39 (K : Int32 → MW → Prop) (v1 : Int32) (v2 : Int32) : Nat → MW → Int32 → Prop
  | 0, _, _ => False
  | n + 1, w, v3 => vp_in v1 960 ∧ (((md_cellSize w v1.toNatClampNeg) ≤ v3 → K (1 : Int32) w) ∧ (¬ (md_cellSize w v1.toNatClampNeg) ≤ v3 → P_X4_byteOf (fun r_2 => P_X4_sortOf (fun r_3 => P_X4_byteOf (fun r_4 => P_X4_sortOf (fun r_5 => (r_3 = r_5 → P_X4_isCode_39 K v1 v2 n w (v3 + (1 : Int32))) ∧ (¬ r_3 = r_5 → K (0 : Int32) w)) r_4) w v2 v3) r_2) w v1 v3))
set_option maxRecDepth 10000 in
theorem s_X4_isCode_39 {x : Mx} {g : Gd} {a : Nat → Nat} (C : Cx x g (sA 12 a) (mCl g a) cX4_isCode 4 RX4 (some .boolean) 2 42) {K : Int32 → MW → Prop}  {v1 : Int32} {v2 : Int32} : ∀ (n : Nat) (w : MW) (v3 : Int32), P_X4_isCode_39 K v1 v2 n w v3 → J x g (sA 12 a) (mCl g a) 4 (JQ x (sA 12 a) (QcI g (sA 12 a) (mCl g a) K)) w 39 [(0, .ref (a 0)), (1, .int v1), (2, .int v2), (3, .int v3)] [] := by
  intro n
  induction n with
  | zero => intro w v3 h; exact h.elim
  | succ n ih =>
    intro w v3 h
    unfold P_X4_isCode_39 at h
    refine J_iload_n C 3 dX4_isCode_39 rfl rfl ?_
    refine J_aload_n C 0 dX4_isCode_40 rfl rfl ?_
    refine G_md_cellSize C mw_473 dX4_isCode_41 ?_
    refine J_iload_n C 1 dX4_isCode_44 rfl rfl ?_
    refine L_md_cellSize C dX4_isCode_45 h (fun h => ?_)
    refine J_icmp_ge (tgt := 78) C dX4_isCode_46 (by decide) h (fun h => ?_) (fun h => ?_)
    · refine J_iconst (v := (1 : Int32)) C dX4_isCode_78 (by decide) ?_
      exact J_zret C dX4_isCode_79 rfl h
    · refine J_aload_n C 0 dX4_isCode_49 rfl rfl ?_
      refine J_iload_n C 1 dX4_isCode_50 rfl rfl ?_
      refine J_iload_n C 3 dX4_isCode_51 rfl rfl ?_
      refine k_X4_byteOf C mw_583 dX4_isCode_52 ⟨Nat.le_of_ble_eq_true rfl, Nat.le_of_ble_eq_true rfl⟩ (Nat.le_of_ble_eq_true rfl) h (fun r_2 h => ?_)
      refine k_X4_sortOf C mw_633 dX4_isCode_55 ⟨Nat.le_of_ble_eq_true rfl, Nat.le_of_ble_eq_true rfl⟩ (Nat.le_of_ble_eq_true rfl) h (fun r_3 h => ?_)
      refine J_aload_n C 0 dX4_isCode_58 rfl rfl ?_
      refine J_iload_n C 2 dX4_isCode_59 rfl rfl ?_
      refine J_iload_n C 3 dX4_isCode_60 rfl rfl ?_
      refine k_X4_byteOf C mw_583 dX4_isCode_61 ⟨Nat.le_of_ble_eq_true rfl, Nat.le_of_ble_eq_true rfl⟩ (Nat.le_of_ble_eq_true rfl) h (fun r_4 h => ?_)
      refine k_X4_sortOf C mw_633 dX4_isCode_64 ⟨Nat.le_of_ble_eq_true rfl, Nat.le_of_ble_eq_true rfl⟩ (Nat.le_of_ble_eq_true rfl) h (fun r_5 h => ?_)
      refine J_icmp_eq (tgt := 72) C dX4_isCode_67 (by decide) h (fun h => ?_) (fun h => ?_)
      · refine J_iinc C 3 [(3, .int (v3 + (1 : Int32))), (0, .ref (a 0)), (1, .int v1), (2, .int v2)] dX4_isCode_72 rfl rfl (by decide) rfl ?_
        refine J_goto (tgt := 39) C dX4_isCode_75 (by decide) ?_
        refine J_lv [1, 2, 3, 0] rfl ?_
        exact ih _ _ h
      · refine J_iconst (v := (0 : Int32)) C dX4_isCode_70 (by decide) ?_
        exact J_zret C dX4_isCode_71 rfl h
def P_X4_isCode (K : Int32 → MW → Prop) (w : MW) (v1 : Int32) (v2 : Int32) : Prop := vp_in v2 960 ∧ (P_X4_in (fun r_1 => (r_1 = 0 → K (0 : Int32) (md_value_s w (0 : Int64))) ∧ (¬ r_1 = 0 → vp_in v1 960 ∧ (vp_in v2 960 ∧ (((md_cellSize (md_value_s w (0 : Int64)) v1.toNatClampNeg) = (md_cellSize (md_value_s w (0 : Int64)) v2.toNatClampNeg) → ∃ nf : Nat, P_X4_isCode_39 K v1 v2 nf (md_value_s w (0 : Int64)) (0 : Int32)) ∧ (¬ (md_cellSize (md_value_s w (0 : Int64)) v1.toNatClampNeg) = (md_cellSize (md_value_s w (0 : Int64)) v2.toNatClampNeg) → K (0 : Int32) (md_value_s w (0 : Int64))))))) (md_cellSize (md_value_s w (0 : Int64)) v2.toNatClampNeg) (1 : Int32) (20 : Int32))
set_option maxRecDepth 10000 in
theorem s_X4_isCode {x : Mx} {g : Gd} {a : Nat → Nat} (C : Cx x g (sA 12 a) (mCl g a) cX4_isCode 4 RX4 (some .boolean) 2 42) {K : Int32 → MW → Prop}  {w : MW} {v1 : Int32} {v2 : Int32} (h : P_X4_isCode K w v1 v2) : J x g (sA 12 a) (mCl g a) 4 (JQ x (sA 12 a) (QcI g (sA 12 a) (mCl g a) K)) w 0 [(0, .ref (a 0)), (1, .int v1), (2, .int v2)] [] := by
  unfold P_X4_isCode at h
  refine J_aload_n C 0 dX4_isCode_0 rfl rfl ?_
  refine J_lconst (v := (0 : Int64)) C dX4_isCode_1 (by decide) ?_
  refine S_md_value C mw_478 dX4_isCode_2 ?_
  refine J_aload_n C 0 dX4_isCode_5 rfl rfl ?_
  refine G_md_cellSize C mw_473 dX4_isCode_6 ?_
  refine J_iload_n C 2 dX4_isCode_9 rfl rfl ?_
  refine L_md_cellSize C dX4_isCode_10 h (fun h => ?_)
  refine J_iconst (v := (1 : Int32)) C dX4_isCode_11 (by decide) ?_
  refine J_bipush (v := (20 : Int32)) C dX4_isCode_12 (by decide) ?_
  refine k_X4_in C mw_500 dX4_isCode_14 ⟨Nat.le_of_ble_eq_true rfl, Nat.le_of_ble_eq_true rfl⟩ (Nat.le_of_ble_eq_true rfl) h (fun r_1 h => ?_)
  refine J_if_eq (tgt := 35) C dX4_isCode_17 (by decide) h (fun h => ?_) (fun h => ?_)
  · refine J_iconst (v := (0 : Int32)) C dX4_isCode_35 (by decide) ?_
    exact J_zret C dX4_isCode_36 rfl h
  · refine J_aload_n C 0 dX4_isCode_20 rfl rfl ?_
    refine G_md_cellSize C mw_473 dX4_isCode_21 ?_
    refine J_iload_n C 1 dX4_isCode_24 rfl rfl ?_
    refine L_md_cellSize C dX4_isCode_25 h (fun h => ?_)
    refine J_aload_n C 0 dX4_isCode_26 rfl rfl ?_
    refine G_md_cellSize C mw_473 dX4_isCode_27 ?_
    refine J_iload_n C 2 dX4_isCode_30 rfl rfl ?_
    refine L_md_cellSize C dX4_isCode_31 h (fun h => ?_)
    refine J_icmp_eq (tgt := 37) C dX4_isCode_32 (by decide) h (fun h => ?_) (fun h => ?_)
    · refine J_iconst (v := (0 : Int32)) C dX4_isCode_37 (by decide) ?_
      refine J_istore_n C [(3, .int (0 : Int32)), (0, .ref (a 0)), (1, .int v1), (2, .int v2)] dX4_isCode_38 rfl (by decide) rfl ?_
      obtain ⟨nf, h⟩ := h
      refine J_lv [1, 2, 3, 0] rfl ?_
      refine s_X4_isCode_39 C  nf _ _ h
    · refine J_iconst (v := (0 : Int32)) C dX4_isCode_35 (by decide) ?_
      exact J_zret C dX4_isCode_36 rfl h
theorem c_X4_isCode {l : Launch} {g : Gd} {a : Nat → Nat} {w : MW} {K : Int32 → MW → Prop} {v1 : Int32} {v2 : Int32} (h : P_X4_isCode K w v1 v2) : Kt l yX4_isCode cX4_isCode 4 (some .boolean) 2 42 g (sA 12 a) (mCl g a) [.ref (a 0), .int v1, .int v2] w (QcI g (sA 12 a) (mCl g a) K) :=
  Kt_of (by decide +kernel) (Nat.le_of_ble_eq_true rfl) (fun x hx C => s_X4_isCode C h)
theorem k_X4_isCode {x : Mx} {g : Gd} {a : Nat → Nat} {cc : ByteArray} {nL : Nat} {own : String} {ret : Option FieldType} {F L : Nat} {Q : State → Prop} {w : MW} {pc : Nat} {lv : List (Nat × Value)} {st : List Value} (C : Cx x g (sA 12 a) (mCl g a) cc nL own ret F L) {index : Nat} {K : Int32 → MW → Prop} {v1 : Int32} {v2 : Int32} (h1 : Cond.methodLink own index yX4_isCode ∈ gT) (hd : decode cc pc = .ok (.invokevirtual index, 3)) (hR : 2 + 1 ≤ F ∧ 8 + (4 + 11) + 42 ≤ L) (hst : (st.map fun v => v.category).sum ≤ 8) (h : P_X4_isCode K w v1 v2) (k : ∀ (r : Int32) (w' : MW), K r w' → J x g (sA 12 a) (mCl g a) nL Q w' (pc + 3) lv (.int r :: st)) : J x g (sA 12 a) (mCl g a) nL Q w (pc) lv (.int v2 :: .int v1 :: .ref (a 0) :: st) :=
  J_callVi C (As := [.int v1, .int v2]) (b := a 0) (n := 2) (c_X4_isCode h) h1 mw_631 mw_796 mw_6 mw_632 (by decide +kernel) hR rfl (rc_X4 C) hst hd k
-- X4_isMissing (pure, room 5 108)
def P_X4_isMissing (K : Int32 → Prop) (w : MW) (v1 : Int32) (v2 : Int32) : Prop := (v2 = (1 : Int32) → vp_in v1 960 ∧ ((¬ (md_cellSize w v1.toNatClampNeg) = 0 → K (0 : Int32)) ∧ ((md_cellSize w v1.toNatClampNeg) = 0 → K (1 : Int32)))) ∧ (v2 = (2 : Int32) → P_X4_isWord (fun r_1 => vz r_1 ∧ K r_1) w v1 16) ∧ (v2 = (3 : Int32) → P_X4_isWord (fun r_2 => vz r_2 ∧ K r_2) w v1 17) ∧ (v2 = (4 : Int32) → P_X4_isWord (fun r_3 => vz r_3 ∧ K r_3) w v1 18) ∧ (¬ v2 = (1 : Int32) → ¬ v2 = (2 : Int32) → ¬ v2 = (3 : Int32) → ¬ v2 = (4 : Int32) → K (0 : Int32))
set_option maxRecDepth 10000 in
theorem s_X4_isMissing {x : Mx} {g : Gd} {a : Nat → Nat} (C : Cx x g (sA 12 a) (mCl g a) cX4_isMissing 3 RX4 (some .boolean) 5 108) {K : Int32 → Prop} {w : MW}  {v1 : Int32} {v2 : Int32} (h : P_X4_isMissing K w v1 v2) : J x g (sA 12 a) (mCl g a) 3 (JQ x (sA 12 a) (QcI g (sA 12 a) (mCl g a) (fun r w' => K r ∧ w' = w))) w 0 [(0, .ref (a 0)), (1, .int v1), (2, .int v2)] [] := by
  unfold P_X4_isMissing at h
  refine J_iload_n C 2 dX4_isMissing_0 rfl rfl ?_
  by_cases e1 : v2 = (1 : Int32)
  · replace h := h.1 e1
    refine J_tsIn (tgt := 32) C dX4_isMissing_1 (by rw [e1]; decide) (by rw [e1]; decide) (by rw [e1]; rfl) (by decide) ?_
    refine J_aload_n C 0 dX4_isMissing_32 rfl rfl ?_
    refine G_md_cellSize C mw_473 dX4_isMissing_33 ?_
    refine J_iload_n C 1 dX4_isMissing_36 rfl rfl ?_
    refine L_md_cellSize C dX4_isMissing_37 h (fun h => ?_)
    refine J_if_ne (tgt := 45) C dX4_isMissing_38 (by decide) h (fun h => ?_) (fun h => ?_)
    · refine J_iconst (v := (0 : Int32)) C dX4_isMissing_45 (by decide) ?_
      exact J_zret C dX4_isMissing_46 rfl ⟨h, rfl⟩
    · refine J_iconst (v := (1 : Int32)) C dX4_isMissing_41 (by decide) ?_
      refine J_goto (tgt := 46) C dX4_isMissing_42 (by decide) ?_
      exact J_zret C dX4_isMissing_46 rfl ⟨h, rfl⟩
  replace h := h.2
  by_cases e2 : v2 = (2 : Int32)
  · replace h := h.1 e2
    refine J_tsIn (tgt := 47) C dX4_isMissing_1 (by rw [e2]; decide) (by rw [e2]; decide) (by rw [e2]; rfl) (by decide) ?_
    refine J_aload_n C 0 dX4_isMissing_47 rfl rfl ?_
    refine J_iload_n C 1 dX4_isMissing_48 rfl rfl ?_
    refine J_ldcS C 16 rfl dX4_isMissing_49 ?_
    refine k_X4_isWord C mw_579 dX4_isMissing_51 ⟨Nat.le_of_ble_eq_true rfl, Nat.le_of_ble_eq_true rfl⟩ (Nat.le_of_ble_eq_true rfl) h (fun r_1 h => ?_)
    exact J_zret C dX4_isMissing_54 h.1.1 ⟨h.2, rfl⟩
  replace h := h.2
  by_cases e3 : v2 = (3 : Int32)
  · replace h := h.1 e3
    refine J_tsIn (tgt := 55) C dX4_isMissing_1 (by rw [e3]; decide) (by rw [e3]; decide) (by rw [e3]; rfl) (by decide) ?_
    refine J_aload_n C 0 dX4_isMissing_55 rfl rfl ?_
    refine J_iload_n C 1 dX4_isMissing_56 rfl rfl ?_
    refine J_ldcS C 17 rfl dX4_isMissing_57 ?_
    refine k_X4_isWord C mw_579 dX4_isMissing_59 ⟨Nat.le_of_ble_eq_true rfl, Nat.le_of_ble_eq_true rfl⟩ (Nat.le_of_ble_eq_true rfl) h (fun r_2 h => ?_)
    exact J_zret C dX4_isMissing_62 h.1.1 ⟨h.2, rfl⟩
  replace h := h.2
  by_cases e4 : v2 = (4 : Int32)
  · replace h := h.1 e4
    refine J_tsIn (tgt := 63) C dX4_isMissing_1 (by rw [e4]; decide) (by rw [e4]; decide) (by rw [e4]; rfl) (by decide) ?_
    refine J_aload_n C 0 dX4_isMissing_63 rfl rfl ?_
    refine J_iload_n C 1 dX4_isMissing_64 rfl rfl ?_
    refine J_ldcS C 18 rfl dX4_isMissing_65 ?_
    refine k_X4_isWord C mw_579 dX4_isMissing_67 ⟨Nat.le_of_ble_eq_true rfl, Nat.le_of_ble_eq_true rfl⟩ (Nat.le_of_ble_eq_true rfl) h (fun r_3 h => ?_)
    exact J_zret C dX4_isMissing_70 h.1.1 ⟨h.2, rfl⟩
  replace h := h.2
  replace h := h e1 e2 e3 e4
  refine J_tsOut (tgt := 71) C dX4_isMissing_1 (by have q1 := lv_neT (k := (1 : Int32)) (a := 1) e1 rfl; have q2 := lv_neT (k := (2 : Int32)) (a := 2) e2 rfl; have q3 := lv_neT (k := (3 : Int32)) (a := 3) e3 rfl; have q4 := lv_neT (k := (4 : Int32)) (a := 4) e4 rfl; omega) (by decide) ?_
  refine J_iconst (v := (0 : Int32)) C dX4_isMissing_71 (by decide) ?_
  exact J_zret C dX4_isMissing_72 rfl ⟨h, rfl⟩
theorem c_X4_isMissing {l : Launch} {g : Gd} {a : Nat → Nat} {w : MW} {K : Int32 → Prop} {v1 : Int32} {v2 : Int32} (h : P_X4_isMissing K w v1 v2) : Kt l yX4_isMissing cX4_isMissing 3 (some .boolean) 5 108 g (sA 12 a) (mCl g a) [.ref (a 0), .int v1, .int v2] w (QcI g (sA 12 a) (mCl g a) (fun r w' => K r ∧ w' = w)) :=
  Kt_of (by decide +kernel) (Nat.le_of_ble_eq_true rfl) (fun x hx C => s_X4_isMissing C h)
theorem k_X4_isMissing {x : Mx} {g : Gd} {a : Nat → Nat} {cc : ByteArray} {nL : Nat} {own : String} {ret : Option FieldType} {F L : Nat} {Q : State → Prop} {w : MW} {pc : Nat} {lv : List (Nat × Value)} {st : List Value} (C : Cx x g (sA 12 a) (mCl g a) cc nL own ret F L) {index : Nat} {K : Int32 → Prop} {v1 : Int32} {v2 : Int32} (h1 : Cond.methodLink own index yX4_isMissing ∈ gT) (hd : decode cc pc = .ok (.invokevirtual index, 3)) (hR : 5 + 1 ≤ F ∧ 8 + (3 + 11) + 108 ≤ L) (hst : (st.map fun v => v.category).sum ≤ 8) (h : P_X4_isMissing K w v1 v2) (k : ∀ (r : Int32), K r → J x g (sA 12 a) (mCl g a) nL Q w (pc + 3) lv (.int r :: st)) : J x g (sA 12 a) (mCl g a) nL Q w (pc) lv (.int v2 :: .int v1 :: .ref (a 0) :: st) :=
  J_callVi C (As := [.int v1, .int v2]) (b := a 0) (n := 2) (c_X4_isMissing h) h1 mw_577 mw_787 mw_6 mw_578 (by decide +kernel) hR rfl (rc_X4 C) hst hd (fun r w' hK => by
    obtain ⟨hK, rfl⟩ := hK
    exact k r hK)
