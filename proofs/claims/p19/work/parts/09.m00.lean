-- X4_in (pure, room 0 0)
def P_X4_in (K : Int32 → Prop) (v0 : Int32) (v1 : Int32) (v2 : Int32) : Prop := (v0 < v1 → K (0 : Int32)) ∧ (¬ v0 < v1 → (v2 < v0 → K (0 : Int32)) ∧ (¬ v2 < v0 → K (1 : Int32)))
set_option maxRecDepth 10000 in
theorem s_X4_in {x : Mx} {g : Gd} {Wd : Type} {A : Nat → Prop} {cl : Wd → va_W} (C : Cx x g A cl cX4_in 3 RX4 (some .boolean) 0 0) {K : Int32 → Prop} {w : Wd}  {v0 : Int32} {v1 : Int32} {v2 : Int32} (h : P_X4_in K v0 v1 v2) : J x g A cl 3 (JQ x A (QcI g A cl (fun r w' => K r ∧ w' = w))) w 0 [(0, .int v0), (1, .int v1), (2, .int v2)] [] := by
  unfold P_X4_in at h
  refine J_iload_n C 0 dX4_in_0 rfl rfl ?_
  refine J_iload_n C 1 dX4_in_1 rfl rfl ?_
  refine J_icmp_lt (tgt := 14) C dX4_in_2 (by decide) h (fun h => ?_) (fun h => ?_)
  · refine J_iconst (v := (0 : Int32)) C dX4_in_14 (by decide) ?_
    exact J_zret C dX4_in_15 rfl ⟨h, rfl⟩
  · refine J_iload_n C 0 dX4_in_5 rfl rfl ?_
    refine J_iload_n C 2 dX4_in_6 rfl rfl ?_
    refine J_icmp_gt (tgt := 14) C dX4_in_7 (by decide) h (fun h => ?_) (fun h => ?_)
    · refine J_iconst (v := (0 : Int32)) C dX4_in_14 (by decide) ?_
      exact J_zret C dX4_in_15 rfl ⟨h, rfl⟩
    · refine J_iconst (v := (1 : Int32)) C dX4_in_10 (by decide) ?_
      refine J_goto (tgt := 15) C dX4_in_11 (by decide) ?_
      exact J_zret C dX4_in_15 rfl ⟨h, rfl⟩
theorem c_X4_in {l : Launch} {g : Gd} {Wd : Type} {A : Nat → Prop} {cl : Wd → va_W} {w : Wd} {K : Int32 → Prop} {v0 : Int32} {v1 : Int32} {v2 : Int32} (h : P_X4_in K v0 v1 v2) : Kt l yX4_in cX4_in 3 (some .boolean) 0 0 g A cl [.int v0, .int v1, .int v2] w (QcI g A cl (fun r w' => K r ∧ w' = w)) :=
  Kt_of (by decide +kernel) (Nat.le_of_ble_eq_true rfl) (fun x hx C => s_X4_in C h)
theorem k_X4_in {x : Mx} {g : Gd} {Wd : Type} {A : Nat → Prop} {cl : Wd → va_W} {cc : ByteArray} {nL : Nat} {own : String} {ret : Option FieldType} {F L : Nat} {Q : State → Prop} {w : Wd} {pc : Nat} {lv : List (Nat × Value)} {st : List Value} (C : Cx x g A cl cc nL own ret F L) {index : Nat} {K : Int32 → Prop} {v0 : Int32} {v1 : Int32} {v2 : Int32} (h1 : Cond.methodLink own index yX4_in ∈ gT) (hd : decode cc pc = .ok (.invokestatic index, 3)) (hR : 0 + 1 ≤ F ∧ 8 + (3 + 11) + 0 ≤ L) (hst : (st.map fun v => v.category).sum ≤ 8) (h : P_X4_in K v0 v1 v2) (k : ∀ (r : Int32), K r → J x g A cl nL Q w (pc + 3) lv (.int r :: st)) : J x g A cl nL Q w (pc) lv (.int v2 :: .int v1 :: .int v0 :: st) :=
  J_callSi C (As := [.int v0, .int v1, .int v2]) (n := 3) (c_X4_in h) h1 mw_501 mw_6 mw_502 (by decide +kernel) hR rfl hst hd (fun r w' hK => by
    obtain ⟨hK, rfl⟩ := hK
    exact k r hK)
-- X4_feedOne (changes, room 0 0)
def P_X4_feedOne_3 (K : MW → Prop) (v1 : Int32) : Nat → MW → Int32 → Prop
  | 0, _, _ => False
  | n + 1, w, v2 => (v2 < 0 → K w) ∧ (¬ v2 < 0 → vp_in (md_taped w) 400 ∧ (P_X4_feedOne_3 K v1 n (md_taped_s (md_tape_s w (upd (md_tape w) (md_taped w).toNatClampNeg (vp_nar .byte (Int8.toInt32 (Int32.toInt8 (v1 >>> (v2 &&& 31))))))) ((md_taped (md_tape_s w (upd (md_tape w) (md_taped w).toNatClampNeg (vp_nar .byte (Int8.toInt32 (Int32.toInt8 (v1 >>> (v2 &&& 31)))))))) + (1 : Int32))) (v2 + (-8 : Int32))))
set_option maxRecDepth 10000 in
theorem s_X4_feedOne_3 {x : Mx} {g : Gd} {a : Nat → Nat} (C : Cx x g (sA 12 a) (mCl g a) cX4_feedOne 3 RX4 none 0 0) {K : MW → Prop}  {v1 : Int32} : ∀ (n : Nat) (w : MW) (v2 : Int32), P_X4_feedOne_3 K v1 n w v2 → J x g (sA 12 a) (mCl g a) 3 (JQ x (sA 12 a) (QcV g (sA 12 a) (mCl g a) K)) w 3 [(0, .ref (a 0)), (1, .int v1), (2, .int v2)] [] := by
  intro n
  induction n with
  | zero => intro w v2 h; exact h.elim
  | succ n ih =>
    intro w v2 h
    unfold P_X4_feedOne_3 at h
    refine J_iload_n C 2 dX4_feedOne_3 rfl rfl ?_
    refine J_if_lt (tgt := 36) C dX4_feedOne_4 (by decide) h (fun h => ?_) (fun h => ?_)
    · exact J_vret C dX4_feedOne_36 h
    · refine J_aload_n C 0 dX4_feedOne_7 rfl rfl ?_
      refine G_md_tape C mw_460 dX4_feedOne_8 ?_
      refine J_aload_n C 0 dX4_feedOne_11 rfl rfl ?_
      refine G_md_taped C mw_462 dX4_feedOne_12 ?_
      refine J_iload_n C 1 dX4_feedOne_15 rfl rfl ?_
      refine J_iload_n C 2 dX4_feedOne_16 rfl rfl ?_
      refine J_ishr C dX4_feedOne_17 ?_
      refine J_i2b C dX4_feedOne_18 ?_
      refine U_md_tape C dX4_feedOne_19 h (fun h => ?_)
      refine J_aload_n C 0 dX4_feedOne_20 rfl rfl ?_
      refine J_dup C dX4_feedOne_21 rfl ?_
      refine G_md_taped C mw_462 dX4_feedOne_22 ?_
      refine J_iconst (v := (1 : Int32)) C dX4_feedOne_25 (by decide) ?_
      refine J_iadd C dX4_feedOne_26 ?_
      refine S_md_taped C mw_462 dX4_feedOne_27 ?_
      refine J_iinc C 2 [(2, .int (v2 + (-8 : Int32))), (0, .ref (a 0)), (1, .int v1)] dX4_feedOne_30 rfl rfl (by decide) rfl ?_
      refine J_goto (tgt := 3) C dX4_feedOne_33 (by decide) ?_
      refine J_lv [1, 2, 0] rfl ?_
      exact ih _ _ h
def P_X4_feedOne (K : MW → Prop) (w : MW) (v1 : Int32) : Prop := ∃ nf : Nat, P_X4_feedOne_3 K v1 nf w (24 : Int32)
set_option maxRecDepth 10000 in
theorem s_X4_feedOne {x : Mx} {g : Gd} {a : Nat → Nat} (C : Cx x g (sA 12 a) (mCl g a) cX4_feedOne 3 RX4 none 0 0) {K : MW → Prop}  {w : MW} {v1 : Int32} (h : P_X4_feedOne K w v1) : J x g (sA 12 a) (mCl g a) 3 (JQ x (sA 12 a) (QcV g (sA 12 a) (mCl g a) K)) w 0 [(0, .ref (a 0)), (1, .int v1)] [] := by
  unfold P_X4_feedOne at h
  refine J_bipush (v := (24 : Int32)) C dX4_feedOne_0 (by decide) ?_
  refine J_istore_n C [(2, .int (24 : Int32)), (0, .ref (a 0)), (1, .int v1)] dX4_feedOne_2 rfl (by decide) rfl ?_
  obtain ⟨nf, h⟩ := h
  refine J_lv [1, 2, 0] rfl ?_
  refine s_X4_feedOne_3 C  nf _ _ h
theorem c_X4_feedOne {l : Launch} {g : Gd} {a : Nat → Nat} {w : MW} {K : MW → Prop} {v1 : Int32} (h : P_X4_feedOne K w v1) : Kt l yX4_feedOne cX4_feedOne 3 none 0 0 g (sA 12 a) (mCl g a) [.ref (a 0), .int v1] w (QcV g (sA 12 a) (mCl g a) K) :=
  Kt_of (by decide +kernel) (Nat.le_of_ble_eq_true rfl) (fun x hx C => s_X4_feedOne C h)
theorem k_X4_feedOne {x : Mx} {g : Gd} {a : Nat → Nat} {cc : ByteArray} {nL : Nat} {own : String} {ret : Option FieldType} {F L : Nat} {Q : State → Prop} {w : MW} {pc : Nat} {lv : List (Nat × Value)} {st : List Value} (C : Cx x g (sA 12 a) (mCl g a) cc nL own ret F L) {index : Nat} {K : MW → Prop} {v1 : Int32} (h1 : Cond.methodLink own index yX4_feedOne ∈ gT) (hd : decode cc pc = .ok (.invokevirtual index, 3)) (hR : 0 + 1 ≤ F ∧ 8 + (3 + 11) + 0 ≤ L) (hst : (st.map fun v => v.category).sum ≤ 8) (h : P_X4_feedOne K w v1) (k : ∀  (w' : MW), K w' → J x g (sA 12 a) (mCl g a) nL Q w' (pc + 3) lv st) : J x g (sA 12 a) (mCl g a) nL Q w (pc) lv (.int v1 :: .ref (a 0) :: st) :=
  J_callVv C (As := [.int v1]) (b := a 0) (n := 1) (c_X4_feedOne h) h1 mw_494 mw_771 mw_6 mw_495 (by decide +kernel) hR rfl (rc_X4 C) hst hd k
-- X4_feed (changes, room 1 22)
def P_X4_feed (K : Int32 → MW → Prop) (w : MW) (v1 : Int32) (v2 : Int32) (v3 : Int32) (v4 : Int32) (v5 : Int32) : Prop := (((md_taped w) + (20 : Int32)) ≤ (400 : Int32) → P_X4_feedOne (fun w_1 => P_X4_feedOne (fun w_2 => P_X4_feedOne (fun w_3 => P_X4_feedOne (fun w_4 => P_X4_feedOne (fun w_5 => K (md_taped w_5) w_5) w_4 v5) w_3 v4) w_2 v3) w_1 v2) w v1) ∧ (¬ ((md_taped w) + (20 : Int32)) ≤ (400 : Int32) → K (-1 : Int32) w)
set_option maxRecDepth 10000 in
theorem s_X4_feed {x : Mx} {g : Gd} {a : Nat → Nat} (C : Cx x g (sA 12 a) (mCl g a) cX4_feed 6 RX4 (some .int) 1 22) {K : Int32 → MW → Prop}  {w : MW} {v1 : Int32} {v2 : Int32} {v3 : Int32} {v4 : Int32} {v5 : Int32} (h : P_X4_feed K w v1 v2 v3 v4 v5) : J x g (sA 12 a) (mCl g a) 6 (JQ x (sA 12 a) (QcI g (sA 12 a) (mCl g a) K)) w 0 [(0, .ref (a 0)), (1, .int v1), (2, .int v2), (3, .int v3), (4, .int v4), (5, .int v5)] [] := by
  unfold P_X4_feed at h
  refine J_aload_n C 0 dX4_feed_0 rfl rfl ?_
  refine G_md_taped C mw_462 dX4_feed_1 ?_
  refine J_bipush (v := (20 : Int32)) C dX4_feed_4 (by decide) ?_
  refine J_iadd C dX4_feed_6 ?_
  refine J_sipush (v := (400 : Int32)) C dX4_feed_7 (by decide) ?_
  refine J_icmp_le (tgt := 15) C dX4_feed_10 (by decide) h (fun h => ?_) (fun h => ?_)
  · refine J_aload_n C 0 dX4_feed_15 rfl rfl ?_
    refine J_iload_n C 1 dX4_feed_16 rfl rfl ?_
    refine k_X4_feedOne C mw_493 dX4_feed_17 ⟨Nat.le_of_ble_eq_true rfl, Nat.le_of_ble_eq_true rfl⟩ (Nat.le_of_ble_eq_true rfl) h (fun w_1 h => ?_)
    refine J_aload_n C 0 dX4_feed_20 rfl rfl ?_
    refine J_iload_n C 2 dX4_feed_21 rfl rfl ?_
    refine k_X4_feedOne C mw_493 dX4_feed_22 ⟨Nat.le_of_ble_eq_true rfl, Nat.le_of_ble_eq_true rfl⟩ (Nat.le_of_ble_eq_true rfl) h (fun w_2 h => ?_)
    refine J_aload_n C 0 dX4_feed_25 rfl rfl ?_
    refine J_iload_n C 3 dX4_feed_26 rfl rfl ?_
    refine k_X4_feedOne C mw_493 dX4_feed_27 ⟨Nat.le_of_ble_eq_true rfl, Nat.le_of_ble_eq_true rfl⟩ (Nat.le_of_ble_eq_true rfl) h (fun w_3 h => ?_)
    refine J_aload_n C 0 dX4_feed_30 rfl rfl ?_
    refine J_iload C 4 dX4_feed_31 rfl ?_
    refine k_X4_feedOne C mw_493 dX4_feed_33 ⟨Nat.le_of_ble_eq_true rfl, Nat.le_of_ble_eq_true rfl⟩ (Nat.le_of_ble_eq_true rfl) h (fun w_4 h => ?_)
    refine J_aload_n C 0 dX4_feed_36 rfl rfl ?_
    refine J_iload C 5 dX4_feed_37 rfl ?_
    refine k_X4_feedOne C mw_493 dX4_feed_39 ⟨Nat.le_of_ble_eq_true rfl, Nat.le_of_ble_eq_true rfl⟩ (Nat.le_of_ble_eq_true rfl) h (fun w_5 h => ?_)
    refine J_aload_n C 0 dX4_feed_42 rfl rfl ?_
    refine G_md_taped C mw_462 dX4_feed_43 ?_
    exact J_iret C dX4_feed_46 h
  · refine J_iconst (v := (-1 : Int32)) C dX4_feed_13 (by decide) ?_
    exact J_iret C dX4_feed_14 h
theorem c_X4_feed {l : Launch} {g : Gd} {a : Nat → Nat} {w : MW} {K : Int32 → MW → Prop} {v1 : Int32} {v2 : Int32} {v3 : Int32} {v4 : Int32} {v5 : Int32} (h : P_X4_feed K w v1 v2 v3 v4 v5) : Kt l yX4_feed cX4_feed 6 (some .int) 1 22 g (sA 12 a) (mCl g a) [.ref (a 0), .int v1, .int v2, .int v3, .int v4, .int v5] w (QcI g (sA 12 a) (mCl g a) K) :=
  Kt_of (by decide +kernel) (Nat.le_of_ble_eq_true rfl) (fun x hx C => s_X4_feed C h)
theorem k_X4_feed {x : Mx} {g : Gd} {a : Nat → Nat} {cc : ByteArray} {nL : Nat} {own : String} {ret : Option FieldType} {F L : Nat} {Q : State → Prop} {w : MW} {pc : Nat} {lv : List (Nat × Value)} {st : List Value} (C : Cx x g (sA 12 a) (mCl g a) cc nL own ret F L) {index : Nat} {K : Int32 → MW → Prop} {v1 : Int32} {v2 : Int32} {v3 : Int32} {v4 : Int32} {v5 : Int32} (h1 : Cond.methodLink own index yX4_feed ∈ gT) (hd : decode cc pc = .ok (.invokevirtual index, 3)) (hR : 1 + 1 ≤ F ∧ 8 + (6 + 11) + 22 ≤ L) (hst : (st.map fun v => v.category).sum ≤ 8) (h : P_X4_feed K w v1 v2 v3 v4 v5) (k : ∀ (r : Int32) (w' : MW), K r w' → J x g (sA 12 a) (mCl g a) nL Q w' (pc + 3) lv (.int r :: st)) : J x g (sA 12 a) (mCl g a) nL Q w (pc) lv (.int v5 :: .int v4 :: .int v3 :: .int v2 :: .int v1 :: .ref (a 0) :: st) :=
  J_callVi C (As := [.int v1, .int v2, .int v3, .int v4, .int v5]) (b := a 0) (n := 5) (c_X4_feed h) h1 mw_490 mw_491 mw_6 mw_492 (by decide +kernel) hR rfl (rc_X4 C) hst hd k
-- X4_changes (changes, room 0 0)
def P_X4_changes_7 (K : MW → Prop) : Nat → MW → Int32 → Prop
  | 0, _, _ => False
  | n + 1, w, v1 => ((24 : Int32) ≤ v1 → K w) ∧ (¬ (24 : Int32) ≤ v1 → vp_in v1 24 ∧ (P_X4_changes_7 K n (md_isKnown_s w (upd (md_isKnown w) v1.toNatClampNeg (vp_nar .boolean (0 : Int32)))) (v1 + (1 : Int32))))
set_option maxRecDepth 10000 in
theorem s_X4_changes_7 {x : Mx} {g : Gd} {a : Nat → Nat} (C : Cx x g (sA 12 a) (mCl g a) cX4_changes 2 RX4 none 0 0) {K : MW → Prop}  : ∀ (n : Nat) (w : MW) (v1 : Int32), P_X4_changes_7 K n w v1 → J x g (sA 12 a) (mCl g a) 2 (JQ x (sA 12 a) (QcV g (sA 12 a) (mCl g a) K)) w 7 [(0, .ref (a 0)), (1, .int v1)] [] := by
  intro n
  induction n with
  | zero => intro w v1 h; exact h.elim
  | succ n ih =>
    intro w v1 h
    unfold P_X4_changes_7 at h
    refine J_iload_n C 1 dX4_changes_7 rfl rfl ?_
    refine J_bipush (v := (24 : Int32)) C dX4_changes_8 (by decide) ?_
    refine J_icmp_ge (tgt := 26) C dX4_changes_10 (by decide) h (fun h => ?_) (fun h => ?_)
    · exact J_vret C dX4_changes_26 h
    · refine J_aload_n C 0 dX4_changes_13 rfl rfl ?_
      refine G_md_isKnown C mw_476 dX4_changes_14 ?_
      refine J_iload_n C 1 dX4_changes_17 rfl rfl ?_
      refine J_iconst (v := (0 : Int32)) C dX4_changes_18 (by decide) ?_
      refine U_md_isKnown C dX4_changes_19 h (fun h => ?_)
      refine J_iinc C 1 [(1, .int (v1 + (1 : Int32))), (0, .ref (a 0))] dX4_changes_20 rfl rfl (by decide) rfl ?_
      refine J_goto (tgt := 7) C dX4_changes_23 (by decide) ?_
      refine J_lv [1, 0] rfl ?_
      exact ih _ _ h
def P_X4_changes (K : MW → Prop) (w : MW) : Prop := ∃ nf : Nat, P_X4_changes_7 K nf (md_loaded_s w (-1 : Int32)) (0 : Int32)
set_option maxRecDepth 10000 in
theorem s_X4_changes {x : Mx} {g : Gd} {a : Nat → Nat} (C : Cx x g (sA 12 a) (mCl g a) cX4_changes 2 RX4 none 0 0) {K : MW → Prop}  {w : MW} (h : P_X4_changes K w) : J x g (sA 12 a) (mCl g a) 2 (JQ x (sA 12 a) (QcV g (sA 12 a) (mCl g a) K)) w 0 [(0, .ref (a 0))] [] := by
  unfold P_X4_changes at h
  refine J_aload_n C 0 dX4_changes_0 rfl rfl ?_
  refine J_iconst (v := (-1 : Int32)) C dX4_changes_1 (by decide) ?_
  refine S_md_loaded C mw_465 dX4_changes_2 ?_
  refine J_iconst (v := (0 : Int32)) C dX4_changes_5 (by decide) ?_
  refine J_istore_n C [(1, .int (0 : Int32)), (0, .ref (a 0))] dX4_changes_6 rfl (by decide) rfl ?_
  obtain ⟨nf, h⟩ := h
  refine J_lv [1, 0] rfl ?_
  refine s_X4_changes_7 C  nf _ _ h
theorem c_X4_changes {l : Launch} {g : Gd} {a : Nat → Nat} {w : MW} {K : MW → Prop} (h : P_X4_changes K w) : Kt l yX4_changes cX4_changes 2 none 0 0 g (sA 12 a) (mCl g a) [.ref (a 0)] w (QcV g (sA 12 a) (mCl g a) K) :=
  Kt_of (by decide +kernel) (Nat.le_of_ble_eq_true rfl) (fun x hx C => s_X4_changes C h)
theorem k_X4_changes {x : Mx} {g : Gd} {a : Nat → Nat} {cc : ByteArray} {nL : Nat} {own : String} {ret : Option FieldType} {F L : Nat} {Q : State → Prop} {w : MW} {pc : Nat} {lv : List (Nat × Value)} {st : List Value} (C : Cx x g (sA 12 a) (mCl g a) cc nL own ret F L) {index : Nat} {K : MW → Prop} (h1 : Cond.methodLink own index yX4_changes ∈ gT) (hd : decode cc pc = .ok (.invokevirtual index, 3)) (hR : 0 + 1 ≤ F ∧ 8 + (2 + 11) + 0 ≤ L) (hst : (st.map fun v => v.category).sum ≤ 8) (h : P_X4_changes K w) (k : ∀  (w' : MW), K w' → J x g (sA 12 a) (mCl g a) nL Q w' (pc + 3) lv st) : J x g (sA 12 a) (mCl g a) nL Q w (pc) lv (.ref (a 0) :: st) :=
  J_callVv C (As := []) (b := a 0) (n := 0) (c_X4_changes h) h1 mw_504 mw_772 mw_6 mw_505 (by decide +kernel) hR rfl (rc_X4 C) hst hd k
-- X4_add (changes, room 1 22)
def P_X4_add_31 (K : Int32 → MW → Prop) (E59 : MW → Prop) (v1 : Int32) : Nat → MW → Int32 → Prop
  | 0, _, _ => False
  | n + 1, w, v2 => (v1 ≤ v2 → E59 w) ∧ (¬ v1 ≤ v2 → vp_in v2 400 ∧ (vp_in ((md_size w) + v2) 1200 ∧ (P_X4_add_31 K E59 v1 n (md_text_s w (upd (md_text w) ((md_size w) + v2).toNatClampNeg (vp_nar .byte (md_tape w v2.toNatClampNeg)))) (v2 + (1 : Int32)))))
set_option maxRecDepth 10000 in
theorem s_X4_add_31 {x : Mx} {g : Gd} {a : Nat → Nat} (C : Cx x g (sA 12 a) (mCl g a) cX4_add 3 RX4 (some .int) 1 22) {K : Int32 → MW → Prop}  {v1 : Int32} {E59 : MW → Prop} (hE59 : ∀ (w : MW), E59 w → J x g (sA 12 a) (mCl g a) 3 (JQ x (sA 12 a) (QcI g (sA 12 a) (mCl g a) K)) w 59 [(0, .ref (a 0)), (1, .int v1)] []) : ∀ (n : Nat) (w : MW) (v2 : Int32), P_X4_add_31 K E59 v1 n w v2 → J x g (sA 12 a) (mCl g a) 3 (JQ x (sA 12 a) (QcI g (sA 12 a) (mCl g a) K)) w 31 [(0, .ref (a 0)), (1, .int v1), (2, .int v2)] [] := by
  intro n
  induction n with
  | zero => intro w v2 h; exact h.elim
  | succ n ih =>
    intro w v2 h
    unfold P_X4_add_31 at h
    refine J_iload_n C 2 dX4_add_31 rfl rfl ?_
    refine J_iload_n C 1 dX4_add_32 rfl rfl ?_
    refine J_icmp_ge (tgt := 59) C dX4_add_33 (by decide) h (fun h => ?_) (fun h => ?_)
    · refine J_lv [0, 1] rfl ?_
      exact hE59 _ h
    · refine J_aload_n C 0 dX4_add_36 rfl rfl ?_
      refine G_md_text C mw_461 dX4_add_37 ?_
      refine J_aload_n C 0 dX4_add_40 rfl rfl ?_
      refine G_md_size C mw_463 dX4_add_41 ?_
      refine J_iload_n C 2 dX4_add_44 rfl rfl ?_
      refine J_iadd C dX4_add_45 ?_
      refine J_aload_n C 0 dX4_add_46 rfl rfl ?_
      refine G_md_tape C mw_460 dX4_add_47 ?_
      refine J_iload_n C 2 dX4_add_50 rfl rfl ?_
      refine L_md_tape C dX4_add_51 h (fun h => ?_)
      refine U_md_text C dX4_add_52 h (fun h => ?_)
      refine J_iinc C 2 [(2, .int (v2 + (1 : Int32))), (0, .ref (a 0)), (1, .int v1)] dX4_add_53 rfl rfl (by decide) rfl ?_
      refine J_goto (tgt := 31) C dX4_add_56 (by decide) ?_
      refine J_lv [1, 2, 0] rfl ?_
      exact ih _ _ h
def P_X4_add (K : Int32 → MW → Prop) (w : MW) (v1 : Int32) : Prop := P_X4_in (fun r_1 => (¬ r_1 = 0 → (((md_size w) + v1) ≤ (1200 : Int32) → ∃ nf : Nat, P_X4_add_31 K (fun w_2 => P_X4_changes (fun w_3 => K (md_size w_3) w_3) (md_taped_s (md_size_s w_2 ((md_size w_2) + v1)) (0 : Int32))) v1 nf w (0 : Int32)) ∧ (¬ ((md_size w) + v1) ≤ (1200 : Int32) → K (-1 : Int32) w)) ∧ (r_1 = 0 → K (-2 : Int32) w)) v1 (0 : Int32) (md_taped w)
set_option maxRecDepth 10000 in
theorem s_X4_add {x : Mx} {g : Gd} {a : Nat → Nat} (C : Cx x g (sA 12 a) (mCl g a) cX4_add 3 RX4 (some .int) 1 22) {K : Int32 → MW → Prop}  {w : MW} {v1 : Int32} (h : P_X4_add K w v1) : J x g (sA 12 a) (mCl g a) 3 (JQ x (sA 12 a) (QcI g (sA 12 a) (mCl g a) K)) w 0 [(0, .ref (a 0)), (1, .int v1)] [] := by
  unfold P_X4_add at h
  refine J_iload_n C 1 dX4_add_0 rfl rfl ?_
  refine J_iconst (v := (0 : Int32)) C dX4_add_1 (by decide) ?_
  refine J_aload_n C 0 dX4_add_2 rfl rfl ?_
  refine G_md_taped C mw_462 dX4_add_3 ?_
  refine k_X4_in C mw_500 dX4_add_6 ⟨Nat.le_of_ble_eq_true rfl, Nat.le_of_ble_eq_true rfl⟩ (Nat.le_of_ble_eq_true rfl) h (fun r_1 h => ?_)
  refine J_if_ne (tgt := 15) C dX4_add_9 (by decide) h (fun h => ?_) (fun h => ?_)
  · refine J_aload_n C 0 dX4_add_15 rfl rfl ?_
    refine G_md_size C mw_463 dX4_add_16 ?_
    refine J_iload_n C 1 dX4_add_19 rfl rfl ?_
    refine J_iadd C dX4_add_20 ?_
    refine J_sipush (v := (1200 : Int32)) C dX4_add_21 (by decide) ?_
    refine J_icmp_le (tgt := 29) C dX4_add_24 (by decide) h (fun h => ?_) (fun h => ?_)
    · refine J_iconst (v := (0 : Int32)) C dX4_add_29 (by decide) ?_
      refine J_istore_n C [(2, .int (0 : Int32)), (0, .ref (a 0)), (1, .int v1)] dX4_add_30 rfl (by decide) rfl ?_
      obtain ⟨nf, h⟩ := h
      refine J_lv [1, 2, 0] rfl ?_
      refine s_X4_add_31 C (fun w_2 h => ?_) nf _ _ h
      · refine J_aload_n C 0 dX4_add_59 rfl rfl ?_
        refine J_dup C dX4_add_60 rfl ?_
        refine G_md_size C mw_463 dX4_add_61 ?_
        refine J_iload_n C 1 dX4_add_64 rfl rfl ?_
        refine J_iadd C dX4_add_65 ?_
        refine S_md_size C mw_463 dX4_add_66 ?_
        refine J_aload_n C 0 dX4_add_69 rfl rfl ?_
        refine J_iconst (v := (0 : Int32)) C dX4_add_70 (by decide) ?_
        refine S_md_taped C mw_462 dX4_add_71 ?_
        refine J_aload_n C 0 dX4_add_74 rfl rfl ?_
        refine k_X4_changes C mw_503 dX4_add_75 ⟨Nat.le_of_ble_eq_true rfl, Nat.le_of_ble_eq_true rfl⟩ (Nat.le_of_ble_eq_true rfl) h (fun w_3 h => ?_)
        refine J_aload_n C 0 dX4_add_78 rfl rfl ?_
        refine G_md_size C mw_463 dX4_add_79 ?_
        exact J_iret C dX4_add_82 h
    · refine J_iconst (v := (-1 : Int32)) C dX4_add_27 (by decide) ?_
      exact J_iret C dX4_add_28 h
  · refine J_bipush (v := (-2 : Int32)) C dX4_add_12 (by decide) ?_
    exact J_iret C dX4_add_14 h
theorem c_X4_add {l : Launch} {g : Gd} {a : Nat → Nat} {w : MW} {K : Int32 → MW → Prop} {v1 : Int32} (h : P_X4_add K w v1) : Kt l yX4_add cX4_add 3 (some .int) 1 22 g (sA 12 a) (mCl g a) [.ref (a 0), .int v1] w (QcI g (sA 12 a) (mCl g a) K) :=
  Kt_of (by decide +kernel) (Nat.le_of_ble_eq_true rfl) (fun x hx C => s_X4_add C h)
theorem k_X4_add {x : Mx} {g : Gd} {a : Nat → Nat} {cc : ByteArray} {nL : Nat} {own : String} {ret : Option FieldType} {F L : Nat} {Q : State → Prop} {w : MW} {pc : Nat} {lv : List (Nat × Value)} {st : List Value} (C : Cx x g (sA 12 a) (mCl g a) cc nL own ret F L) {index : Nat} {K : Int32 → MW → Prop} {v1 : Int32} (h1 : Cond.methodLink own index yX4_add ∈ gT) (hd : decode cc pc = .ok (.invokevirtual index, 3)) (hR : 1 + 1 ≤ F ∧ 8 + (3 + 11) + 22 ≤ L) (hst : (st.map fun v => v.category).sum ≤ 8) (h : P_X4_add K w v1) (k : ∀ (r : Int32) (w' : MW), K r w' → J x g (sA 12 a) (mCl g a) nL Q w' (pc + 3) lv (.int r :: st)) : J x g (sA 12 a) (mCl g a) nL Q w (pc) lv (.int v1 :: .ref (a 0) :: st) :=
  J_callVi C (As := [.int v1]) (b := a 0) (n := 1) (c_X4_add h) h1 mw_497 mw_498 mw_6 mw_499 (by decide +kernel) hR rfl (rc_X4 C) hst hd k
-- X4_clear (changes, room 1 21)
def P_X4_clear (K : MW → Prop) (w : MW) : Prop := P_X4_changes (fun w_1 => K w_1) (md_used_s (md_size_s w (0 : Int32)) (0 : Int32))
set_option maxRecDepth 10000 in
theorem s_X4_clear {x : Mx} {g : Gd} {a : Nat → Nat} (C : Cx x g (sA 12 a) (mCl g a) cX4_clear 1 RX4 none 1 21) {K : MW → Prop}  {w : MW} (h : P_X4_clear K w) : J x g (sA 12 a) (mCl g a) 1 (JQ x (sA 12 a) (QcV g (sA 12 a) (mCl g a) K)) w 0 [(0, .ref (a 0))] [] := by
  unfold P_X4_clear at h
  refine J_aload_n C 0 dX4_clear_0 rfl rfl ?_
  refine J_iconst (v := (0 : Int32)) C dX4_clear_1 (by decide) ?_
  refine S_md_size C mw_463 dX4_clear_2 ?_
  refine J_aload_n C 0 dX4_clear_5 rfl rfl ?_
  refine J_iconst (v := (0 : Int32)) C dX4_clear_6 (by decide) ?_
  refine S_md_used C mw_464 dX4_clear_7 ?_
  refine J_aload_n C 0 dX4_clear_10 rfl rfl ?_
  refine k_X4_changes C mw_503 dX4_clear_11 ⟨Nat.le_of_ble_eq_true rfl, Nat.le_of_ble_eq_true rfl⟩ (Nat.le_of_ble_eq_true rfl) h (fun w_1 h => ?_)
  exact J_vret C dX4_clear_14 h
theorem c_X4_clear {l : Launch} {g : Gd} {a : Nat → Nat} {w : MW} {K : MW → Prop} (h : P_X4_clear K w) : Kt l yX4_clear cX4_clear 1 none 1 21 g (sA 12 a) (mCl g a) [.ref (a 0)] w (QcV g (sA 12 a) (mCl g a) K) :=
  Kt_of (by decide +kernel) (Nat.le_of_ble_eq_true rfl) (fun x hx C => s_X4_clear C h)
theorem k_X4_clear {x : Mx} {g : Gd} {a : Nat → Nat} {cc : ByteArray} {nL : Nat} {own : String} {ret : Option FieldType} {F L : Nat} {Q : State → Prop} {w : MW} {pc : Nat} {lv : List (Nat × Value)} {st : List Value} (C : Cx x g (sA 12 a) (mCl g a) cc nL own ret F L) {index : Nat} {K : MW → Prop} (h1 : Cond.methodLink own index yX4_clear ∈ gT) (hd : decode cc pc = .ok (.invokevirtual index, 3)) (hR : 1 + 1 ≤ F ∧ 8 + (1 + 11) + 21 ≤ L) (hst : (st.map fun v => v.category).sum ≤ 8) (h : P_X4_clear K w) (k : ∀  (w' : MW), K w' → J x g (sA 12 a) (mCl g a) nL Q w' (pc + 3) lv st) : J x g (sA 12 a) (mCl g a) nL Q w (pc) lv (.ref (a 0) :: st) :=
  J_callVv C (As := []) (b := a 0) (n := 0) (c_X4_clear h) h1 mw_507 mw_508 mw_6 mw_509 (by decide +kernel) hR rfl (rc_X4 C) hst hd k
-- X4_markOf (pure, room 0 0)
def P_X4_markOf (K : Int32 → Prop) (v0 : Int32) : Prop := (¬ (v0 / (6 : Int32)) = 0 → (¬ (v0 / (6 : Int32)) = (1 : Int32) → (¬ (v0 / (6 : Int32)) = (2 : Int32) → K (124 : Int32)) ∧ ((v0 / (6 : Int32)) = (2 : Int32) → K (9 : Int32))) ∧ ((v0 / (6 : Int32)) = (1 : Int32) → K (59 : Int32))) ∧ ((v0 / (6 : Int32)) = 0 → K (44 : Int32))
set_option maxRecDepth 10000 in
theorem s_X4_markOf {x : Mx} {g : Gd} {Wd : Type} {A : Nat → Prop} {cl : Wd → va_W} (C : Cx x g A cl cX4_markOf 2 RX4 (some .int) 0 0) {K : Int32 → Prop} {w : Wd}  {v0 : Int32} (h : P_X4_markOf K v0) : J x g A cl 2 (JQ x A (QcI g A cl (fun r w' => K r ∧ w' = w))) w 0 [(0, .int v0)] [] := by
  unfold P_X4_markOf at h
  refine J_iload_n C 0 dX4_markOf_0 rfl rfl ?_
  refine J_bipush (v := (6 : Int32)) C dX4_markOf_1 (by decide) ?_
  refine J_idiv C dX4_markOf_3 (by decide) ?_
  refine J_istore_n C [(1, .int (v0 / (6 : Int32))), (0, .int v0)] dX4_markOf_4 rfl (by decide) rfl ?_
  refine J_iload_n C 0 dX4_markOf_5 rfl rfl ?_
  refine J_if_ne (tgt := 14) C dX4_markOf_6 (by decide) h (fun h => ?_) (fun h => ?_)
  · refine J_iload_n C 0 dX4_markOf_14 rfl rfl ?_
    refine J_iconst (v := (1 : Int32)) C dX4_markOf_15 (by decide) ?_
    refine J_icmp_ne (tgt := 24) C dX4_markOf_16 (by decide) h (fun h => ?_) (fun h => ?_)
    · refine J_iload_n C 0 dX4_markOf_24 rfl rfl ?_
      refine J_iconst (v := (2 : Int32)) C dX4_markOf_25 (by decide) ?_
      refine J_icmp_ne (tgt := 34) C dX4_markOf_26 (by decide) h (fun h => ?_) (fun h => ?_)
      · refine J_bipush (v := (124 : Int32)) C dX4_markOf_34 (by decide) ?_
        exact J_iret C dX4_markOf_36 ⟨h, rfl⟩
      · refine J_bipush (v := (9 : Int32)) C dX4_markOf_29 (by decide) ?_
        refine J_goto (tgt := 36) C dX4_markOf_31 (by decide) ?_
        exact J_iret C dX4_markOf_36 ⟨h, rfl⟩
    · refine J_bipush (v := (59 : Int32)) C dX4_markOf_19 (by decide) ?_
      refine J_goto (tgt := 36) C dX4_markOf_21 (by decide) ?_
      exact J_iret C dX4_markOf_36 ⟨h, rfl⟩
  · refine J_bipush (v := (44 : Int32)) C dX4_markOf_9 (by decide) ?_
    refine J_goto (tgt := 36) C dX4_markOf_11 (by decide) ?_
    exact J_iret C dX4_markOf_36 ⟨h, rfl⟩
theorem c_X4_markOf {l : Launch} {g : Gd} {Wd : Type} {A : Nat → Prop} {cl : Wd → va_W} {w : Wd} {K : Int32 → Prop} {v0 : Int32} (h : P_X4_markOf K v0) : Kt l yX4_markOf cX4_markOf 2 (some .int) 0 0 g A cl [.int v0] w (QcI g A cl (fun r w' => K r ∧ w' = w)) :=
  Kt_of (by decide +kernel) (Nat.le_of_ble_eq_true rfl) (fun x hx C => s_X4_markOf C h)
theorem k_X4_markOf {x : Mx} {g : Gd} {Wd : Type} {A : Nat → Prop} {cl : Wd → va_W} {cc : ByteArray} {nL : Nat} {own : String} {ret : Option FieldType} {F L : Nat} {Q : State → Prop} {w : Wd} {pc : Nat} {lv : List (Nat × Value)} {st : List Value} (C : Cx x g A cl cc nL own ret F L) {index : Nat} {K : Int32 → Prop} {v0 : Int32} (h1 : Cond.methodLink own index yX4_markOf ∈ gT) (hd : decode cc pc = .ok (.invokestatic index, 3)) (hR : 0 + 1 ≤ F ∧ 8 + (2 + 11) + 0 ≤ L) (hst : (st.map fun v => v.category).sum ≤ 8) (h : P_X4_markOf K v0) (k : ∀ (r : Int32), K r → J x g A cl nL Q w (pc + 3) lv (.int r :: st)) : J x g A cl nL Q w (pc) lv (.int v0 :: st) :=
  J_callSi C (As := [.int v0]) (n := 1) (c_X4_markOf h) h1 mw_527 mw_6 mw_528 (by decide +kernel) hR rfl hst hd (fun r w' hK => by
    obtain ⟨hK, rfl⟩ := hK
    exact k r hK)
-- X4_quoteOf (pure, room 0 0)
def P_X4_quoteOf (K : Int32 → Prop) (v0 : Int32) : Prop := (¬ ((v0 / (2 : Int32)) - (v0 / (2 : Int32)) / (3 : Int32) * (3 : Int32)) = 0 → (¬ ((v0 / (2 : Int32)) - (v0 / (2 : Int32)) / (3 : Int32) * (3 : Int32)) = (1 : Int32) → K (39 : Int32)) ∧ (((v0 / (2 : Int32)) - (v0 / (2 : Int32)) / (3 : Int32) * (3 : Int32)) = (1 : Int32) → K (34 : Int32))) ∧ (((v0 / (2 : Int32)) - (v0 / (2 : Int32)) / (3 : Int32) * (3 : Int32)) = 0 → K (-1 : Int32))
set_option maxRecDepth 10000 in
theorem s_X4_quoteOf {x : Mx} {g : Gd} {Wd : Type} {A : Nat → Prop} {cl : Wd → va_W} (C : Cx x g A cl cX4_quoteOf 2 RX4 (some .int) 0 0) {K : Int32 → Prop} {w : Wd}  {v0 : Int32} (h : P_X4_quoteOf K v0) : J x g A cl 2 (JQ x A (QcI g A cl (fun r w' => K r ∧ w' = w))) w 0 [(0, .int v0)] [] := by
  unfold P_X4_quoteOf at h
  refine J_iload_n C 0 dX4_quoteOf_0 rfl rfl ?_
  refine J_iconst (v := (2 : Int32)) C dX4_quoteOf_1 (by decide) ?_
  refine J_idiv C dX4_quoteOf_2 (by decide) ?_
  refine J_iconst (v := (3 : Int32)) C dX4_quoteOf_3 (by decide) ?_
  refine J_irem C dX4_quoteOf_4 (by decide) ?_
  refine J_istore_n C [(1, .int ((v0 / (2 : Int32)) - (v0 / (2 : Int32)) / (3 : Int32) * (3 : Int32))), (0, .int v0)] dX4_quoteOf_5 rfl (by decide) rfl ?_
  refine J_iload_n C 0 dX4_quoteOf_6 rfl rfl ?_
  refine J_if_ne (tgt := 14) C dX4_quoteOf_7 (by decide) h (fun h => ?_) (fun h => ?_)
  · refine J_iload_n C 0 dX4_quoteOf_14 rfl rfl ?_
    refine J_iconst (v := (1 : Int32)) C dX4_quoteOf_15 (by decide) ?_
    refine J_icmp_ne (tgt := 24) C dX4_quoteOf_16 (by decide) h (fun h => ?_) (fun h => ?_)
    · refine J_bipush (v := (39 : Int32)) C dX4_quoteOf_24 (by decide) ?_
      exact J_iret C dX4_quoteOf_26 ⟨h, rfl⟩
    · refine J_bipush (v := (34 : Int32)) C dX4_quoteOf_19 (by decide) ?_
      refine J_goto (tgt := 26) C dX4_quoteOf_21 (by decide) ?_
      exact J_iret C dX4_quoteOf_26 ⟨h, rfl⟩
  · refine J_iconst (v := (-1 : Int32)) C dX4_quoteOf_10 (by decide) ?_
    refine J_goto (tgt := 26) C dX4_quoteOf_11 (by decide) ?_
    exact J_iret C dX4_quoteOf_26 ⟨h, rfl⟩
theorem c_X4_quoteOf {l : Launch} {g : Gd} {Wd : Type} {A : Nat → Prop} {cl : Wd → va_W} {w : Wd} {K : Int32 → Prop} {v0 : Int32} (h : P_X4_quoteOf K v0) : Kt l yX4_quoteOf cX4_quoteOf 2 (some .int) 0 0 g A cl [.int v0] w (QcI g A cl (fun r w' => K r ∧ w' = w)) :=
  Kt_of (by decide +kernel) (Nat.le_of_ble_eq_true rfl) (fun x hx C => s_X4_quoteOf C h)
theorem k_X4_quoteOf {x : Mx} {g : Gd} {Wd : Type} {A : Nat → Prop} {cl : Wd → va_W} {cc : ByteArray} {nL : Nat} {own : String} {ret : Option FieldType} {F L : Nat} {Q : State → Prop} {w : Wd} {pc : Nat} {lv : List (Nat × Value)} {st : List Value} (C : Cx x g A cl cc nL own ret F L) {index : Nat} {K : Int32 → Prop} {v0 : Int32} (h1 : Cond.methodLink own index yX4_quoteOf ∈ gT) (hd : decode cc pc = .ok (.invokestatic index, 3)) (hR : 0 + 1 ≤ F ∧ 8 + (2 + 11) + 0 ≤ L) (hst : (st.map fun v => v.category).sum ≤ 8) (h : P_X4_quoteOf K v0) (k : ∀ (r : Int32), K r → J x g A cl nL Q w (pc + 3) lv (.int r :: st)) : J x g A cl nL Q w (pc) lv (.int v0 :: st) :=
  J_callSi C (As := [.int v0]) (n := 1) (c_X4_quoteOf h) h1 mw_530 mw_6 mw_531 (by decide +kernel) hR rfl hst hd (fun r w' hK => by
    obtain ⟨hK, rfl⟩ := hK
    exact k r hK)
-- X4_hasHead (pure, room 0 0)
def P_X4_hasHead (K : Int32 → Prop) (v0 : Int32) : Prop := (¬ (v0 - v0 / (2 : Int32) * (2 : Int32)) = (1 : Int32) → K (0 : Int32)) ∧ ((v0 - v0 / (2 : Int32) * (2 : Int32)) = (1 : Int32) → K (1 : Int32))
set_option maxRecDepth 10000 in
theorem s_X4_hasHead {x : Mx} {g : Gd} {Wd : Type} {A : Nat → Prop} {cl : Wd → va_W} (C : Cx x g A cl cX4_hasHead 1 RX4 (some .boolean) 0 0) {K : Int32 → Prop} {w : Wd}  {v0 : Int32} (h : P_X4_hasHead K v0) : J x g A cl 1 (JQ x A (QcI g A cl (fun r w' => K r ∧ w' = w))) w 0 [(0, .int v0)] [] := by
  unfold P_X4_hasHead at h
  refine J_iload_n C 0 dX4_hasHead_0 rfl rfl ?_
  refine J_iconst (v := (2 : Int32)) C dX4_hasHead_1 (by decide) ?_
  refine J_irem C dX4_hasHead_2 (by decide) ?_
  refine J_iconst (v := (1 : Int32)) C dX4_hasHead_3 (by decide) ?_
  refine J_icmp_ne (tgt := 11) C dX4_hasHead_4 (by decide) h (fun h => ?_) (fun h => ?_)
  · refine J_iconst (v := (0 : Int32)) C dX4_hasHead_11 (by decide) ?_
    exact J_zret C dX4_hasHead_12 rfl ⟨h, rfl⟩
  · refine J_iconst (v := (1 : Int32)) C dX4_hasHead_7 (by decide) ?_
    refine J_goto (tgt := 12) C dX4_hasHead_8 (by decide) ?_
    exact J_zret C dX4_hasHead_12 rfl ⟨h, rfl⟩
theorem c_X4_hasHead {l : Launch} {g : Gd} {Wd : Type} {A : Nat → Prop} {cl : Wd → va_W} {w : Wd} {K : Int32 → Prop} {v0 : Int32} (h : P_X4_hasHead K v0) : Kt l yX4_hasHead cX4_hasHead 1 (some .boolean) 0 0 g A cl [.int v0] w (QcI g A cl (fun r w' => K r ∧ w' = w)) :=
  Kt_of (by decide +kernel) (Nat.le_of_ble_eq_true rfl) (fun x hx C => s_X4_hasHead C h)
theorem k_X4_hasHead {x : Mx} {g : Gd} {Wd : Type} {A : Nat → Prop} {cl : Wd → va_W} {cc : ByteArray} {nL : Nat} {own : String} {ret : Option FieldType} {F L : Nat} {Q : State → Prop} {w : Wd} {pc : Nat} {lv : List (Nat × Value)} {st : List Value} (C : Cx x g A cl cc nL own ret F L) {index : Nat} {K : Int32 → Prop} {v0 : Int32} (h1 : Cond.methodLink own index yX4_hasHead ∈ gT) (hd : decode cc pc = .ok (.invokestatic index, 3)) (hR : 0 + 1 ≤ F ∧ 8 + (1 + 11) + 0 ≤ L) (hst : (st.map fun v => v.category).sum ≤ 8) (h : P_X4_hasHead K v0) (k : ∀ (r : Int32), K r → J x g A cl nL Q w (pc + 3) lv (.int r :: st)) : J x g A cl nL Q w (pc) lv (.int v0 :: st) :=
  J_callSi C (As := [.int v0]) (n := 1) (c_X4_hasHead h) h1 mw_542 mw_6 mw_543 (by decide +kernel) hR rfl hst hd (fun r w' hK => by
    obtain ⟨hK, rfl⟩ := hK
    exact k r hK)
-- X4_textAt (pure, room 0 0)
def P_X4_textAt (K : Int32 → Prop) (w : MW) (v1 : Int32) : Prop := ((md_size w) ≤ v1 → K (-1 : Int32)) ∧ (¬ (md_size w) ≤ v1 → vp_in v1 1200 ∧ (K ((md_text w v1.toNatClampNeg) &&& (255 : Int32))))
set_option maxRecDepth 10000 in
theorem s_X4_textAt {x : Mx} {g : Gd} {a : Nat → Nat} (C : Cx x g (sA 12 a) (mCl g a) cX4_textAt 2 RX4 (some .int) 0 0) {K : Int32 → Prop} {w : MW}  {v1 : Int32} (h : P_X4_textAt K w v1) : J x g (sA 12 a) (mCl g a) 2 (JQ x (sA 12 a) (QcI g (sA 12 a) (mCl g a) (fun r w' => K r ∧ w' = w))) w 0 [(0, .ref (a 0)), (1, .int v1)] [] := by
  unfold P_X4_textAt at h
  refine J_iload_n C 1 dX4_textAt_0 rfl rfl ?_
  refine J_aload_n C 0 dX4_textAt_1 rfl rfl ?_
  refine G_md_size C mw_463 dX4_textAt_2 ?_
  refine J_icmp_ge (tgt := 21) C dX4_textAt_5 (by decide) h (fun h => ?_) (fun h => ?_)
  · refine J_iconst (v := (-1 : Int32)) C dX4_textAt_21 (by decide) ?_
    exact J_iret C dX4_textAt_22 ⟨h, rfl⟩
  · refine J_aload_n C 0 dX4_textAt_8 rfl rfl ?_
    refine G_md_text C mw_461 dX4_textAt_9 ?_
    refine J_iload_n C 1 dX4_textAt_12 rfl rfl ?_
    refine L_md_text C dX4_textAt_13 h (fun h => ?_)
    refine J_sipush (v := (255 : Int32)) C dX4_textAt_14 (by decide) ?_
    refine J_iand C dX4_textAt_17 ?_
    refine J_goto (tgt := 22) C dX4_textAt_18 (by decide) ?_
    exact J_iret C dX4_textAt_22 ⟨h, rfl⟩
theorem c_X4_textAt {l : Launch} {g : Gd} {a : Nat → Nat} {w : MW} {K : Int32 → Prop} {v1 : Int32} (h : P_X4_textAt K w v1) : Kt l yX4_textAt cX4_textAt 2 (some .int) 0 0 g (sA 12 a) (mCl g a) [.ref (a 0), .int v1] w (QcI g (sA 12 a) (mCl g a) (fun r w' => K r ∧ w' = w)) :=
  Kt_of (by decide +kernel) (Nat.le_of_ble_eq_true rfl) (fun x hx C => s_X4_textAt C h)
theorem k_X4_textAt {x : Mx} {g : Gd} {a : Nat → Nat} {cc : ByteArray} {nL : Nat} {own : String} {ret : Option FieldType} {F L : Nat} {Q : State → Prop} {w : MW} {pc : Nat} {lv : List (Nat × Value)} {st : List Value} (C : Cx x g (sA 12 a) (mCl g a) cc nL own ret F L) {index : Nat} {K : Int32 → Prop} {v1 : Int32} (h1 : Cond.methodLink own index yX4_textAt ∈ gT) (hd : decode cc pc = .ok (.invokevirtual index, 3)) (hR : 0 + 1 ≤ F ∧ 8 + (2 + 11) + 0 ≤ L) (hst : (st.map fun v => v.category).sum ≤ 8) (h : P_X4_textAt K w v1) (k : ∀ (r : Int32), K r → J x g (sA 12 a) (mCl g a) nL Q w (pc + 3) lv (.int r :: st)) : J x g (sA 12 a) (mCl g a) nL Q w (pc) lv (.int v1 :: .ref (a 0) :: st) :=
  J_callVi C (As := [.int v1]) (b := a 0) (n := 1) (c_X4_textAt h) h1 mw_536 mw_777 mw_6 mw_537 (by decide +kernel) hR rfl (rc_X4 C) hst hd (fun r w' hK => by
    obtain ⟨hK, rfl⟩ := hK
    exact k r hK)
-- X4_wrong (changes, room 0 0)
def P_X4_wrong (K : MW → Prop) (w : MW) (v1 : Int32) (v2 : Int32) : Prop := K (md_faultPlace_s (md_fault_s w v1) v2)
set_option maxRecDepth 10000 in
theorem s_X4_wrong {x : Mx} {g : Gd} {a : Nat → Nat} (C : Cx x g (sA 12 a) (mCl g a) cX4_wrong 3 RX4 none 0 0) {K : MW → Prop}  {w : MW} {v1 : Int32} {v2 : Int32} (h : P_X4_wrong K w v1 v2) : J x g (sA 12 a) (mCl g a) 3 (JQ x (sA 12 a) (QcV g (sA 12 a) (mCl g a) K)) w 0 [(0, .ref (a 0)), (1, .int v1), (2, .int v2)] [] := by
  unfold P_X4_wrong at h
  refine J_aload_n C 0 dX4_wrong_0 rfl rfl ?_
  refine J_iload_n C 1 dX4_wrong_1 rfl rfl ?_
  refine S_md_fault C mw_468 dX4_wrong_2 ?_
  refine J_aload_n C 0 dX4_wrong_5 rfl rfl ?_
  refine J_iload_n C 2 dX4_wrong_6 rfl rfl ?_
  refine S_md_faultPlace C mw_469 dX4_wrong_7 ?_
  exact J_vret C dX4_wrong_10 h
theorem c_X4_wrong {l : Launch} {g : Gd} {a : Nat → Nat} {w : MW} {K : MW → Prop} {v1 : Int32} {v2 : Int32} (h : P_X4_wrong K w v1 v2) : Kt l yX4_wrong cX4_wrong 3 none 0 0 g (sA 12 a) (mCl g a) [.ref (a 0), .int v1, .int v2] w (QcV g (sA 12 a) (mCl g a) K) :=
  Kt_of (by decide +kernel) (Nat.le_of_ble_eq_true rfl) (fun x hx C => s_X4_wrong C h)
theorem k_X4_wrong {x : Mx} {g : Gd} {a : Nat → Nat} {cc : ByteArray} {nL : Nat} {own : String} {ret : Option FieldType} {F L : Nat} {Q : State → Prop} {w : MW} {pc : Nat} {lv : List (Nat × Value)} {st : List Value} (C : Cx x g (sA 12 a) (mCl g a) cc nL own ret F L) {index : Nat} {K : MW → Prop} {v1 : Int32} {v2 : Int32} (h1 : Cond.methodLink own index yX4_wrong ∈ gT) (hd : decode cc pc = .ok (.invokevirtual index, 3)) (hR : 0 + 1 ≤ F ∧ 8 + (3 + 11) + 0 ≤ L) (hst : (st.map fun v => v.category).sum ≤ 8) (h : P_X4_wrong K w v1 v2) (k : ∀  (w' : MW), K w' → J x g (sA 12 a) (mCl g a) nL Q w' (pc + 3) lv st) : J x g (sA 12 a) (mCl g a) nL Q w (pc) lv (.int v2 :: .int v1 :: .ref (a 0) :: st) :=
  J_callVv C (As := [.int v1, .int v2]) (b := a 0) (n := 2) (c_X4_wrong h) h1 mw_521 mw_774 mw_6 mw_522 (by decide +kernel) hR rfl (rc_X4 C) hst hd k
-- X4_take (changes, room 0 0)
def P_X4_take (K : MW → Prop) (w : MW) (v1 : Int32) : Prop := vp_in (md_byteMany w) 1200 ∧ (K (md_byteMany_s (md_bytes_s w (upd (md_bytes w) (md_byteMany w).toNatClampNeg (vp_nar .byte (Int8.toInt32 (Int32.toInt8 v1))))) ((md_byteMany (md_bytes_s w (upd (md_bytes w) (md_byteMany w).toNatClampNeg (vp_nar .byte (Int8.toInt32 (Int32.toInt8 v1)))))) + (1 : Int32))))
set_option maxRecDepth 10000 in
theorem s_X4_take {x : Mx} {g : Gd} {a : Nat → Nat} (C : Cx x g (sA 12 a) (mCl g a) cX4_take 2 RX4 none 0 0) {K : MW → Prop}  {w : MW} {v1 : Int32} (h : P_X4_take K w v1) : J x g (sA 12 a) (mCl g a) 2 (JQ x (sA 12 a) (QcV g (sA 12 a) (mCl g a) K)) w 0 [(0, .ref (a 0)), (1, .int v1)] [] := by
  unfold P_X4_take at h
  refine J_aload_n C 0 dX4_take_0 rfl rfl ?_
  refine G_md_bytes C mw_474 dX4_take_1 ?_
  refine J_aload_n C 0 dX4_take_4 rfl rfl ?_
  refine G_md_byteMany C mw_475 dX4_take_5 ?_
  refine J_iload_n C 1 dX4_take_8 rfl rfl ?_
  refine J_i2b C dX4_take_9 ?_
  refine U_md_bytes C dX4_take_10 h (fun h => ?_)
  refine J_aload_n C 0 dX4_take_11 rfl rfl ?_
  refine J_dup C dX4_take_12 rfl ?_
  refine G_md_byteMany C mw_475 dX4_take_13 ?_
  refine J_iconst (v := (1 : Int32)) C dX4_take_16 (by decide) ?_
  refine J_iadd C dX4_take_17 ?_
  refine S_md_byteMany C mw_475 dX4_take_18 ?_
  exact J_vret C dX4_take_21 h
theorem c_X4_take {l : Launch} {g : Gd} {a : Nat → Nat} {w : MW} {K : MW → Prop} {v1 : Int32} (h : P_X4_take K w v1) : Kt l yX4_take cX4_take 2 none 0 0 g (sA 12 a) (mCl g a) [.ref (a 0), .int v1] w (QcV g (sA 12 a) (mCl g a) K) :=
  Kt_of (by decide +kernel) (Nat.le_of_ble_eq_true rfl) (fun x hx C => s_X4_take C h)
theorem k_X4_take {x : Mx} {g : Gd} {a : Nat → Nat} {cc : ByteArray} {nL : Nat} {own : String} {ret : Option FieldType} {F L : Nat} {Q : State → Prop} {w : MW} {pc : Nat} {lv : List (Nat × Value)} {st : List Value} (C : Cx x g (sA 12 a) (mCl g a) cc nL own ret F L) {index : Nat} {K : MW → Prop} {v1 : Int32} (h1 : Cond.methodLink own index yX4_take ∈ gT) (hd : decode cc pc = .ok (.invokevirtual index, 3)) (hR : 0 + 1 ≤ F ∧ 8 + (2 + 11) + 0 ≤ L) (hst : (st.map fun v => v.category).sum ≤ 8) (h : P_X4_take K w v1) (k : ∀  (w' : MW), K w' → J x g (sA 12 a) (mCl g a) nL Q w' (pc + 3) lv st) : J x g (sA 12 a) (mCl g a) nL Q w (pc) lv (.int v1 :: .ref (a 0) :: st) :=
  J_callVv C (As := [.int v1]) (b := a 0) (n := 1) (c_X4_take h) h1 mw_539 mw_778 mw_6 mw_540 (by decide +kernel) hR rfl (rc_X4 C) hst hd k
-- X4_cell (changes, room 1 22)
def P_X4_cell_157 (K : Int32 → MW → Prop) (E203 : MW → Int32 → Prop) (v2 : Int32) : Nat → MW → Int32 → Prop
  | 0, _, _ => False
  | n + 1, w, v4 => ((md_size w) ≤ v4 → E203 w v4) ∧ (¬ (md_size w) ≤ v4 → P_X4_textAt (fun r_1 => (r_1 = v2 → E203 w v4) ∧ (¬ r_1 = v2 → P_X4_textAt (fun r_2 => (r_2 = (10 : Int32) → E203 w v4) ∧ (¬ r_2 = (10 : Int32) → P_X4_textAt (fun r_3 => P_X4_take (fun w_4 => P_X4_cell_157 K E203 v2 n w_4 (v4 + (1 : Int32))) w r_3) w v4)) w v4)) w v4)
set_option maxRecDepth 10000 in
theorem s_X4_cell_157 {x : Mx} {g : Gd} {a : Nat → Nat} (C : Cx x g (sA 12 a) (mCl g a) cX4_cell 5 RX4 (some .int) 1 22) {K : Int32 → MW → Prop}  {v2 : Int32} {E203 : MW → Int32 → Prop} (hE203 : ∀ (w : MW) (v4 : Int32), E203 w v4 → J x g (sA 12 a) (mCl g a) 5 (JQ x (sA 12 a) (QcI g (sA 12 a) (mCl g a) K)) w 203 [(0, .ref (a 0)), (4, .int v4)] []) : ∀ (n : Nat) (w : MW) (v4 : Int32), P_X4_cell_157 K E203 v2 n w v4 → J x g (sA 12 a) (mCl g a) 5 (JQ x (sA 12 a) (QcI g (sA 12 a) (mCl g a) K)) w 157 [(0, .ref (a 0)), (2, .int v2), (4, .int v4)] [] := by
  intro n
  induction n with
  | zero => intro w v4 h; exact h.elim
  | succ n ih =>
    intro w v4 h
    unfold P_X4_cell_157 at h
    refine J_iload C 2 dX4_cell_157 rfl ?_
    refine J_aload_n C 0 dX4_cell_159 rfl rfl ?_
    refine G_md_size C mw_463 dX4_cell_160 ?_
    refine J_icmp_ge (tgt := 203) C dX4_cell_163 (by decide) h (fun h => ?_) (fun h => ?_)
    · refine J_lv [0, 2] rfl ?_
      exact hE203 _ _ h
    · refine J_aload_n C 0 dX4_cell_166 rfl rfl ?_
      refine J_iload C 2 dX4_cell_167 rfl ?_
      refine k_X4_textAt C mw_535 dX4_cell_169 ⟨Nat.le_of_ble_eq_true rfl, Nat.le_of_ble_eq_true rfl⟩ (Nat.le_of_ble_eq_true rfl) h (fun r_1 h => ?_)
      refine J_iload_n C 1 dX4_cell_172 rfl rfl ?_
      refine J_icmp_eq (tgt := 203) C dX4_cell_173 (by decide) h (fun h => ?_) (fun h => ?_)
      · refine J_lv [0, 2] rfl ?_
        exact hE203 _ _ h
      · refine J_aload_n C 0 dX4_cell_176 rfl rfl ?_
        refine J_iload C 2 dX4_cell_177 rfl ?_
        refine k_X4_textAt C mw_535 dX4_cell_179 ⟨Nat.le_of_ble_eq_true rfl, Nat.le_of_ble_eq_true rfl⟩ (Nat.le_of_ble_eq_true rfl) h (fun r_2 h => ?_)
        refine J_bipush (v := (10 : Int32)) C dX4_cell_182 (by decide) ?_
        refine J_icmp_eq (tgt := 203) C dX4_cell_184 (by decide) h (fun h => ?_) (fun h => ?_)
        · refine J_lv [0, 2] rfl ?_
          exact hE203 _ _ h
        · refine J_aload_n C 0 dX4_cell_187 rfl rfl ?_
          refine J_aload_n C 0 dX4_cell_188 rfl rfl ?_
          refine J_iload C 2 dX4_cell_189 rfl ?_
          refine k_X4_textAt C mw_535 dX4_cell_191 ⟨Nat.le_of_ble_eq_true rfl, Nat.le_of_ble_eq_true rfl⟩ (Nat.le_of_ble_eq_true rfl) h (fun r_3 h => ?_)
          refine k_X4_take C mw_538 dX4_cell_194 ⟨Nat.le_of_ble_eq_true rfl, Nat.le_of_ble_eq_true rfl⟩ (Nat.le_of_ble_eq_true rfl) h (fun w_4 h => ?_)
          refine J_iinc C 2 [(4, .int (v4 + (1 : Int32))), (0, .ref (a 0)), (2, .int v2)] dX4_cell_197 rfl rfl (by decide) rfl ?_
          refine J_goto (tgt := 157) C dX4_cell_200 (by decide) ?_
          refine J_lv [1, 2, 0] rfl ?_
          exact ih _ _ h
def P_X4_cell_203 (K : Int32 → MW → Prop) (w : MW) (v4 : Int32) : Prop := vp_in (md_cellMany w) 960 ∧ (vp_in (md_cellMany w) 960 ∧ (K v4 (md_cellMany_s (md_cellSize_s w (upd (md_cellSize w) (md_cellMany w).toNatClampNeg ((md_byteMany w) - (md_cellFrom w (md_cellMany w).toNatClampNeg)))) ((md_cellMany (md_cellSize_s w (upd (md_cellSize w) (md_cellMany w).toNatClampNeg ((md_byteMany w) - (md_cellFrom w (md_cellMany w).toNatClampNeg))))) + (1 : Int32)))))
set_option maxRecDepth 10000 in
theorem s_X4_cell_203 {x : Mx} {g : Gd} {a : Nat → Nat} (C : Cx x g (sA 12 a) (mCl g a) cX4_cell 5 RX4 (some .int) 1 22) {K : Int32 → MW → Prop}  {v4 : Int32} {w : MW} (h : P_X4_cell_203 K w v4) : J x g (sA 12 a) (mCl g a) 5 (JQ x (sA 12 a) (QcI g (sA 12 a) (mCl g a) K)) w 203 [(0, .ref (a 0)), (4, .int v4)] [] := by
  unfold P_X4_cell_203 at h
  refine J_aload_n C 0 dX4_cell_203 rfl rfl ?_
  refine G_md_cellSize C mw_473 dX4_cell_204 ?_
  refine J_aload_n C 0 dX4_cell_207 rfl rfl ?_
  refine G_md_cellMany C mw_467 dX4_cell_208 ?_
  refine J_aload_n C 0 dX4_cell_211 rfl rfl ?_
  refine G_md_byteMany C mw_475 dX4_cell_212 ?_
  refine J_aload_n C 0 dX4_cell_215 rfl rfl ?_
  refine G_md_cellFrom C mw_472 dX4_cell_216 ?_
  refine J_aload_n C 0 dX4_cell_219 rfl rfl ?_
  refine G_md_cellMany C mw_467 dX4_cell_220 ?_
  refine L_md_cellFrom C dX4_cell_223 h (fun h => ?_)
  refine J_isub C dX4_cell_224 ?_
  refine U_md_cellSize C dX4_cell_225 h (fun h => ?_)
  refine J_aload_n C 0 dX4_cell_226 rfl rfl ?_
  refine J_dup C dX4_cell_227 rfl ?_
  refine G_md_cellMany C mw_467 dX4_cell_228 ?_
  refine J_iconst (v := (1 : Int32)) C dX4_cell_231 (by decide) ?_
  refine J_iadd C dX4_cell_232 ?_
  refine S_md_cellMany C mw_467 dX4_cell_233 ?_
  refine J_iload C 1 dX4_cell_236 rfl ?_
  exact J_iret C dX4_cell_238 h
def P_X4_cell_92 (K : Int32 → MW → Prop) (B34 : MW → Int32 → Prop) (E98 : MW → Int32 → Prop) (w : MW) (v1 : Int32) (v2 : Int32) (v3 : Int32) (s0 : Int32) (s1 : Int32) : Prop := B34 w (s1 + s0)
set_option maxRecDepth 10000 in
theorem s_X4_cell_92 {x : Mx} {g : Gd} {a : Nat → Nat} (C : Cx x g (sA 12 a) (mCl g a) cX4_cell 5 RX4 (some .int) 1 22) {K : Int32 → MW → Prop}  {v1 : Int32} {v2 : Int32} {v3 : Int32} {s0 : Int32} {s1 : Int32} {B34 : MW → Int32 → Prop} {E98 : MW → Int32 → Prop} (hB34 : ∀ (w : MW) (v4 : Int32), B34 w v4 → J x g (sA 12 a) (mCl g a) 5 (JQ x (sA 12 a) (QcI g (sA 12 a) (mCl g a) K)) w 34 [(0, .ref (a 0)), (1, .int v1), (2, .int v2), (3, .int v3), (4, .int v4)] []) (hE98 : ∀ (w : MW) (v4 : Int32), E98 w v4 → J x g (sA 12 a) (mCl g a) 5 (JQ x (sA 12 a) (QcI g (sA 12 a) (mCl g a) K)) w 98 [(0, .ref (a 0)), (1, .int v1), (2, .int v2), (4, .int v4)] []) {w : MW} (h : P_X4_cell_92 K B34 E98 w v1 v2 v3 s0 s1) : J x g (sA 12 a) (mCl g a) 5 (JQ x (sA 12 a) (QcI g (sA 12 a) (mCl g a) K)) w 92 [(0, .ref (a 0)), (1, .int v1), (2, .int v2), (3, .int v3)] [.int s0, .int s1] := by
  unfold P_X4_cell_92 at h
  refine J_iadd C dX4_cell_92 ?_
  refine J_istore C [(4, .int (s1 + s0)), (0, .ref (a 0)), (1, .int v1), (2, .int v2), (3, .int v3)] dX4_cell_93 (by decide) rfl ?_
  refine J_goto (tgt := 34) C dX4_cell_95 (by decide) ?_
  refine J_lv [1, 2, 3, 4, 0] rfl ?_
  exact hB34 _ _ h
def P_X4_cell_65 (K : Int32 → MW → Prop) (B34 : MW → Int32 → Prop) (E98 : MW → Int32 → Prop) (w : MW) (v1 : Int32) (v2 : Int32) (v3 : Int32) (v4 : Int32) : Prop := P_X4_textAt (fun r_11 => P_X4_take (fun w_12 => P_X4_textAt (fun r_13 => (¬ r_13 = v3 → P_X4_cell_92 K B34 E98 w_12 v1 v2 v3 (1 : Int32) v4) ∧ (r_13 = v3 → P_X4_cell_92 K B34 E98 w_12 v1 v2 v3 (2 : Int32) v4)) w_12 v4) w r_11) w v4
set_option maxRecDepth 10000 in
theorem s_X4_cell_65 {x : Mx} {g : Gd} {a : Nat → Nat} (C : Cx x g (sA 12 a) (mCl g a) cX4_cell 5 RX4 (some .int) 1 22) {K : Int32 → MW → Prop}  {v1 : Int32} {v2 : Int32} {v3 : Int32} {v4 : Int32} {B34 : MW → Int32 → Prop} {E98 : MW → Int32 → Prop} (hB34 : ∀ (w : MW) (v4 : Int32), B34 w v4 → J x g (sA 12 a) (mCl g a) 5 (JQ x (sA 12 a) (QcI g (sA 12 a) (mCl g a) K)) w 34 [(0, .ref (a 0)), (1, .int v1), (2, .int v2), (3, .int v3), (4, .int v4)] []) (hE98 : ∀ (w : MW) (v4 : Int32), E98 w v4 → J x g (sA 12 a) (mCl g a) 5 (JQ x (sA 12 a) (QcI g (sA 12 a) (mCl g a) K)) w 98 [(0, .ref (a 0)), (1, .int v1), (2, .int v2), (4, .int v4)] []) {w : MW} (h : P_X4_cell_65 K B34 E98 w v1 v2 v3 v4) : J x g (sA 12 a) (mCl g a) 5 (JQ x (sA 12 a) (QcI g (sA 12 a) (mCl g a) K)) w 65 [(0, .ref (a 0)), (1, .int v1), (2, .int v2), (3, .int v3), (4, .int v4)] [] := by
  unfold P_X4_cell_65 at h
  refine J_aload_n C 0 dX4_cell_65 rfl rfl ?_
  refine J_aload_n C 0 dX4_cell_66 rfl rfl ?_
  refine J_iload C 4 dX4_cell_67 rfl ?_
  refine k_X4_textAt C mw_535 dX4_cell_69 ⟨Nat.le_of_ble_eq_true rfl, Nat.le_of_ble_eq_true rfl⟩ (Nat.le_of_ble_eq_true rfl) h (fun r_11 h => ?_)
  refine k_X4_take C mw_538 dX4_cell_72 ⟨Nat.le_of_ble_eq_true rfl, Nat.le_of_ble_eq_true rfl⟩ (Nat.le_of_ble_eq_true rfl) h (fun w_12 h => ?_)
  refine J_iload C 4 dX4_cell_75 rfl ?_
  refine J_aload_n C 0 dX4_cell_77 rfl rfl ?_
  refine J_iload C 4 dX4_cell_78 rfl ?_
  refine k_X4_textAt C mw_535 dX4_cell_80 ⟨Nat.le_of_ble_eq_true rfl, Nat.le_of_ble_eq_true rfl⟩ (Nat.le_of_ble_eq_true rfl) h (fun r_13 h => ?_)
  refine J_iload_n C 3 dX4_cell_83 rfl rfl ?_
  refine J_icmp_ne (tgt := 91) C dX4_cell_84 (by decide) h (fun h => ?_) (fun h => ?_)
  · refine J_iconst (v := (1 : Int32)) C dX4_cell_91 (by decide) ?_
    refine J_lv [0, 1, 2, 3] rfl ?_
    exact s_X4_cell_92 C hB34 hE98 h
  · refine J_iconst (v := (2 : Int32)) C dX4_cell_87 (by decide) ?_
    refine J_goto (tgt := 92) C dX4_cell_88 (by decide) ?_
    refine J_lv [0, 1, 2, 3] rfl ?_
    exact s_X4_cell_92 C hB34 hE98 h
def P_X4_cell_34 (K : Int32 → MW → Prop) (E98 : MW → Int32 → Prop) (v1 : Int32) (v2 : Int32) (v3 : Int32) : Nat → MW → Int32 → Prop
  | 0, _, _ => False
  | n + 1, w, v4 => ((md_size w) ≤ v4 → E98 w v4) ∧ (¬ (md_size w) ≤ v4 → P_X4_textAt (fun r_10 => (¬ r_10 = v3 → P_X4_cell_65 K (P_X4_cell_34 K E98 v1 v2 v3 n) E98 w v1 v2 v3 v4) ∧ (r_10 = v3 → P_X4_textAt (fun r_14 => (¬ r_14 = v3 → E98 w v4) ∧ (r_14 = v3 → P_X4_cell_65 K (P_X4_cell_34 K E98 v1 v2 v3 n) E98 w v1 v2 v3 v4)) w (v4 + (1 : Int32)))) w v4)
set_option maxRecDepth 10000 in
theorem s_X4_cell_34 {x : Mx} {g : Gd} {a : Nat → Nat} (C : Cx x g (sA 12 a) (mCl g a) cX4_cell 5 RX4 (some .int) 1 22) {K : Int32 → MW → Prop}  {v1 : Int32} {v2 : Int32} {v3 : Int32} {E98 : MW → Int32 → Prop} (hE98 : ∀ (w : MW) (v4 : Int32), E98 w v4 → J x g (sA 12 a) (mCl g a) 5 (JQ x (sA 12 a) (QcI g (sA 12 a) (mCl g a) K)) w 98 [(0, .ref (a 0)), (1, .int v1), (2, .int v2), (4, .int v4)] []) : ∀ (n : Nat) (w : MW) (v4 : Int32), P_X4_cell_34 K E98 v1 v2 v3 n w v4 → J x g (sA 12 a) (mCl g a) 5 (JQ x (sA 12 a) (QcI g (sA 12 a) (mCl g a) K)) w 34 [(0, .ref (a 0)), (1, .int v1), (2, .int v2), (3, .int v3), (4, .int v4)] [] := by
  intro n
  induction n with
  | zero => intro w v4 h; exact h.elim
  | succ n ih =>
    intro w v4 h
    unfold P_X4_cell_34 at h
    refine J_iload C 4 dX4_cell_34 rfl ?_
    refine J_aload_n C 0 dX4_cell_36 rfl rfl ?_
    refine G_md_size C mw_463 dX4_cell_37 ?_
    refine J_icmp_ge (tgt := 98) C dX4_cell_40 (by decide) h (fun h => ?_) (fun h => ?_)
    · refine J_lv [0, 1, 2, 4] rfl ?_
      exact hE98 _ _ h
    · refine J_aload_n C 0 dX4_cell_43 rfl rfl ?_
      refine J_iload C 4 dX4_cell_44 rfl ?_
      refine k_X4_textAt C mw_535 dX4_cell_46 ⟨Nat.le_of_ble_eq_true rfl, Nat.le_of_ble_eq_true rfl⟩ (Nat.le_of_ble_eq_true rfl) h (fun r_10 h => ?_)
      refine J_iload_n C 3 dX4_cell_49 rfl rfl ?_
      refine J_icmp_ne (tgt := 65) C dX4_cell_50 (by decide) h (fun h => ?_) (fun h => ?_)
      · refine J_lv [0, 1, 2, 3, 4] rfl ?_
        exact s_X4_cell_65 C ih hE98 h
      · refine J_aload_n C 0 dX4_cell_53 rfl rfl ?_
        refine J_iload C 4 dX4_cell_54 rfl ?_
        refine J_iconst (v := (1 : Int32)) C dX4_cell_56 (by decide) ?_
        refine J_iadd C dX4_cell_57 ?_
        refine k_X4_textAt C mw_535 dX4_cell_58 ⟨Nat.le_of_ble_eq_true rfl, Nat.le_of_ble_eq_true rfl⟩ (Nat.le_of_ble_eq_true rfl) h (fun r_14 h => ?_)
        refine J_iload_n C 3 dX4_cell_61 rfl rfl ?_
        refine J_icmp_ne (tgt := 98) C dX4_cell_62 (by decide) h (fun h => ?_) (fun h => ?_)
        · refine J_lv [0, 1, 2, 4] rfl ?_
          exact hE98 _ _ h
        · refine J_lv [0, 1, 2, 3, 4] rfl ?_
          exact s_X4_cell_65 C ih hE98 h
def P_X4_cell_98 (K : Int32 → MW → Prop) (w : MW) (v1 : Int32) (v2 : Int32) (v4 : Int32) : Prop := (v4 < (md_size w) → ((md_size w) ≤ (v4 + (1 : Int32)) → P_X4_cell_203 K w (v4 + (1 : Int32))) ∧ (¬ (md_size w) ≤ (v4 + (1 : Int32)) → P_X4_textAt (fun r_17 => (r_17 = v2 → P_X4_cell_203 K w (v4 + (1 : Int32))) ∧ (¬ r_17 = v2 → P_X4_textAt (fun r_18 => (r_18 = (10 : Int32) → P_X4_cell_203 K w (v4 + (1 : Int32))) ∧ (¬ r_18 = (10 : Int32) → P_X4_wrong (fun w_19 => K (-1 : Int32) w_19) w (2 : Int32) (v4 + (1 : Int32)))) w (v4 + (1 : Int32)))) w (v4 + (1 : Int32)))) ∧ (¬ v4 < (md_size w) → P_X4_wrong (fun w_20 => K (-1 : Int32) w_20) w (1 : Int32) v1)
set_option maxRecDepth 10000 in
theorem s_X4_cell_98 {x : Mx} {g : Gd} {a : Nat → Nat} (C : Cx x g (sA 12 a) (mCl g a) cX4_cell 5 RX4 (some .int) 1 22) {K : Int32 → MW → Prop}  {v1 : Int32} {v2 : Int32} {v4 : Int32} {w : MW} (h : P_X4_cell_98 K w v1 v2 v4) : J x g (sA 12 a) (mCl g a) 5 (JQ x (sA 12 a) (QcI g (sA 12 a) (mCl g a) K)) w 98 [(0, .ref (a 0)), (1, .int v1), (2, .int v2), (4, .int v4)] [] := by
  unfold P_X4_cell_98 at h
  refine J_iload C 3 dX4_cell_98 rfl ?_
  refine J_aload_n C 0 dX4_cell_100 rfl rfl ?_
  refine G_md_size C mw_463 dX4_cell_101 ?_
  refine J_icmp_lt (tgt := 115) C dX4_cell_104 (by decide) h (fun h => ?_) (fun h => ?_)
  · refine J_iinc C 3 [(4, .int (v4 + (1 : Int32))), (0, .ref (a 0)), (1, .int v1), (2, .int v2)] dX4_cell_115 rfl rfl (by decide) rfl ?_
    refine J_iload C 0 dX4_cell_118 rfl ?_
    refine J_aload_n C 1 dX4_cell_120 rfl rfl ?_
    refine G_md_size C mw_463 dX4_cell_121 ?_
    refine J_icmp_ge (tgt := 203) C dX4_cell_124 (by decide) h (fun h => ?_) (fun h => ?_)
    · refine J_lv [1, 0] rfl ?_
      exact s_X4_cell_203 C h
    · refine J_aload_n C 1 dX4_cell_127 rfl rfl ?_
      refine J_iload C 0 dX4_cell_128 rfl ?_
      refine k_X4_textAt C mw_535 dX4_cell_130 ⟨Nat.le_of_ble_eq_true rfl, Nat.le_of_ble_eq_true rfl⟩ (Nat.le_of_ble_eq_true rfl) h (fun r_17 h => ?_)
      refine J_iload_n C 3 dX4_cell_133 rfl rfl ?_
      refine J_icmp_eq (tgt := 203) C dX4_cell_134 (by decide) h (fun h => ?_) (fun h => ?_)
      · refine J_lv [1, 0] rfl ?_
        exact s_X4_cell_203 C h
      · refine J_aload_n C 1 dX4_cell_137 rfl rfl ?_
        refine J_iload C 0 dX4_cell_138 rfl ?_
        refine k_X4_textAt C mw_535 dX4_cell_140 ⟨Nat.le_of_ble_eq_true rfl, Nat.le_of_ble_eq_true rfl⟩ (Nat.le_of_ble_eq_true rfl) h (fun r_18 h => ?_)
        refine J_bipush (v := (10 : Int32)) C dX4_cell_143 (by decide) ?_
        refine J_icmp_eq (tgt := 203) C dX4_cell_145 (by decide) h (fun h => ?_) (fun h => ?_)
        · refine J_lv [1, 0] rfl ?_
          exact s_X4_cell_203 C h
        · refine J_aload_n C 1 dX4_cell_148 rfl rfl ?_
          refine J_iconst (v := (2 : Int32)) C dX4_cell_149 (by decide) ?_
          refine J_iload C 0 dX4_cell_150 rfl ?_
          refine k_X4_wrong C mw_520 dX4_cell_152 ⟨Nat.le_of_ble_eq_true rfl, Nat.le_of_ble_eq_true rfl⟩ (Nat.le_of_ble_eq_true rfl) h (fun w_19 h => ?_)
          refine J_iconst (v := (-1 : Int32)) C dX4_cell_155 (by decide) ?_
          exact J_iret C dX4_cell_156 h
  · refine J_aload_n C 0 dX4_cell_107 rfl rfl ?_
    refine J_iconst (v := (1 : Int32)) C dX4_cell_108 (by decide) ?_
    refine J_iload_n C 1 dX4_cell_109 rfl rfl ?_
    refine k_X4_wrong C mw_520 dX4_cell_110 ⟨Nat.le_of_ble_eq_true rfl, Nat.le_of_ble_eq_true rfl⟩ (Nat.le_of_ble_eq_true rfl) h (fun w_20 h => ?_)
    refine J_iconst (v := (-1 : Int32)) C dX4_cell_113 (by decide) ?_
    exact J_iret C dX4_cell_114 h
def P_X4_cell (K : Int32 → MW → Prop) (w : MW) (v1 : Int32) (v2 : Int32) (v3 : Int32) : Prop := vp_in (md_cellMany w) 960 ∧ ((v3 < 0 → ∃ nf : Nat, P_X4_cell_157 K (fun w_5 v4_6 => P_X4_cell_203 K w_5 v4_6) v2 nf (md_cellFrom_s w (upd (md_cellFrom w) (md_cellMany w).toNatClampNeg (md_byteMany w))) v1) ∧ (¬ v3 < 0 → P_X4_textAt (fun r_7 => (¬ r_7 = v3 → ∃ nf : Nat, P_X4_cell_157 K (fun w_8 v4_9 => P_X4_cell_203 K w_8 v4_9) v2 nf (md_cellFrom_s w (upd (md_cellFrom w) (md_cellMany w).toNatClampNeg (md_byteMany w))) v1) ∧ (r_7 = v3 → ∃ nf : Nat, P_X4_cell_34 K (fun w_15 v4_16 => P_X4_cell_98 K w_15 v1 v2 v4_16) v1 v2 v3 nf (md_cellFrom_s w (upd (md_cellFrom w) (md_cellMany w).toNatClampNeg (md_byteMany w))) (v1 + (1 : Int32)))) (md_cellFrom_s w (upd (md_cellFrom w) (md_cellMany w).toNatClampNeg (md_byteMany w))) v1))
set_option maxRecDepth 10000 in
theorem s_X4_cell {x : Mx} {g : Gd} {a : Nat → Nat} (C : Cx x g (sA 12 a) (mCl g a) cX4_cell 5 RX4 (some .int) 1 22) {K : Int32 → MW → Prop}  {w : MW} {v1 : Int32} {v2 : Int32} {v3 : Int32} (h : P_X4_cell K w v1 v2 v3) : J x g (sA 12 a) (mCl g a) 5 (JQ x (sA 12 a) (QcI g (sA 12 a) (mCl g a) K)) w 0 [(0, .ref (a 0)), (1, .int v1), (2, .int v2), (3, .int v3)] [] := by
  unfold P_X4_cell at h
  refine J_aload_n C 0 dX4_cell_0 rfl rfl ?_
  refine G_md_cellFrom C mw_472 dX4_cell_1 ?_
  refine J_aload_n C 0 dX4_cell_4 rfl rfl ?_
  refine G_md_cellMany C mw_467 dX4_cell_5 ?_
  refine J_aload_n C 0 dX4_cell_8 rfl rfl ?_
  refine G_md_byteMany C mw_475 dX4_cell_9 ?_
  refine U_md_cellFrom C dX4_cell_12 h (fun h => ?_)
  refine J_iload_n C 1 dX4_cell_13 rfl rfl ?_
  refine J_istore C [(4, .int v1), (0, .ref (a 0)), (1, .int v1), (2, .int v2), (3, .int v3)] dX4_cell_14 (by decide) rfl ?_
  refine J_iload_n C 4 dX4_cell_16 rfl rfl ?_
  refine J_if_lt (tgt := 157) C dX4_cell_17 (by decide) h (fun h => ?_) (fun h => ?_)
  · obtain ⟨nf, h⟩ := h
    refine J_lv [1, 3, 0] rfl ?_
    refine s_X4_cell_157 C (fun w_5 v4_6 h => ?_) nf _ _ h
    · refine J_lv [0, 1] rfl ?_
      exact s_X4_cell_203 C h
  · refine J_aload_n C 1 dX4_cell_20 rfl rfl ?_
    refine J_iload_n C 2 dX4_cell_21 rfl rfl ?_
    refine k_X4_textAt C mw_535 dX4_cell_22 ⟨Nat.le_of_ble_eq_true rfl, Nat.le_of_ble_eq_true rfl⟩ (Nat.le_of_ble_eq_true rfl) h (fun r_7 h => ?_)
    refine J_iload_n C 4 dX4_cell_25 rfl rfl ?_
    refine J_icmp_ne (tgt := 157) C dX4_cell_26 (by decide) h (fun h => ?_) (fun h => ?_)
    · obtain ⟨nf, h⟩ := h
      refine J_lv [1, 3, 0] rfl ?_
      refine s_X4_cell_157 C (fun w_8 v4_9 h => ?_) nf _ _ h
      · refine J_lv [0, 1] rfl ?_
        exact s_X4_cell_203 C h
    · refine J_iload_n C 2 dX4_cell_29 rfl rfl ?_
      refine J_iconst (v := (1 : Int32)) C dX4_cell_30 (by decide) ?_
      refine J_iadd C dX4_cell_31 ?_
      refine J_istore C [(4, .int (v1 + (1 : Int32))), (0, .ref (a 0)), (1, .int v1), (2, .int v2), (3, .int v3)] dX4_cell_32 (by decide) rfl ?_
      obtain ⟨nf, h⟩ := h
      refine J_lv [1, 2, 3, 4, 0] rfl ?_
      refine s_X4_cell_34 C (fun w_15 v4_16 h => ?_) nf _ _ h
      · refine J_lv [0, 1, 2, 3] rfl ?_
        exact s_X4_cell_98 C h
theorem c_X4_cell {l : Launch} {g : Gd} {a : Nat → Nat} {w : MW} {K : Int32 → MW → Prop} {v1 : Int32} {v2 : Int32} {v3 : Int32} (h : P_X4_cell K w v1 v2 v3) : Kt l yX4_cell cX4_cell 5 (some .int) 1 22 g (sA 12 a) (mCl g a) [.ref (a 0), .int v1, .int v2, .int v3] w (QcI g (sA 12 a) (mCl g a) K) :=
  Kt_of (by decide +kernel) (Nat.le_of_ble_eq_true rfl) (fun x hx C => s_X4_cell C h)
theorem k_X4_cell {x : Mx} {g : Gd} {a : Nat → Nat} {cc : ByteArray} {nL : Nat} {own : String} {ret : Option FieldType} {F L : Nat} {Q : State → Prop} {w : MW} {pc : Nat} {lv : List (Nat × Value)} {st : List Value} (C : Cx x g (sA 12 a) (mCl g a) cc nL own ret F L) {index : Nat} {K : Int32 → MW → Prop} {v1 : Int32} {v2 : Int32} {v3 : Int32} (h1 : Cond.methodLink own index yX4_cell ∈ gT) (hd : decode cc pc = .ok (.invokevirtual index, 3)) (hR : 1 + 1 ≤ F ∧ 8 + (5 + 11) + 22 ≤ L) (hst : (st.map fun v => v.category).sum ≤ 8) (h : P_X4_cell K w v1 v2 v3) (k : ∀ (r : Int32) (w' : MW), K r w' → J x g (sA 12 a) (mCl g a) nL Q w' (pc + 3) lv (.int r :: st)) : J x g (sA 12 a) (mCl g a) nL Q w (pc) lv (.int v3 :: .int v2 :: .int v1 :: .ref (a 0) :: st) :=
  J_callVi C (As := [.int v1, .int v2, .int v3]) (b := a 0) (n := 3) (c_X4_cell h) h1 mw_533 mw_776 mw_6 mw_534 (by decide +kernel) hR rfl (rc_X4 C) hst hd k
-- X4_row (changes, room 2 46)
def P_X4_row_104 (K : Int32 → MW → Prop) (B35 : MW → Int32 → Int32 → Prop) (E59 : MW → Int32 → Prop) (E112 : MW → Int32 → Prop) (w : MW) (v2 : Int32) (v3 : Int32) (s0 : Int32) : Prop := B35 w (v3 + (1 : Int32)) s0
set_option maxRecDepth 10000 in
theorem s_X4_row_104 {x : Mx} {g : Gd} {a : Nat → Nat} (C : Cx x g (sA 12 a) (mCl g a) cX4_row 5 RX4 (some .int) 2 46) {K : Int32 → MW → Prop}  {v2 : Int32} {v3 : Int32} {s0 : Int32} {B35 : MW → Int32 → Int32 → Prop} {E59 : MW → Int32 → Prop} {E112 : MW → Int32 → Prop} (hB35 : ∀ (w : MW) (v3 : Int32) (v4 : Int32), B35 w v3 v4 → J x g (sA 12 a) (mCl g a) 5 (JQ x (sA 12 a) (QcI g (sA 12 a) (mCl g a) K)) w 35 [(0, .ref (a 0)), (2, .int v2), (3, .int v3), (4, .int v4)] []) (hE59 : ∀ (w : MW) (v3 : Int32), E59 w v3 → J x g (sA 12 a) (mCl g a) 5 (JQ x (sA 12 a) (QcI g (sA 12 a) (mCl g a) K)) w 59 [(0, .ref (a 0)), (3, .int v3)] []) (hE112 : ∀ (w : MW) (v3 : Int32), E112 w v3 → J x g (sA 12 a) (mCl g a) 5 (JQ x (sA 12 a) (QcI g (sA 12 a) (mCl g a) K)) w 112 [(0, .ref (a 0)), (3, .int v3)] []) {w : MW} (h : P_X4_row_104 K B35 E59 E112 w v2 v3 s0) : J x g (sA 12 a) (mCl g a) 5 (JQ x (sA 12 a) (QcI g (sA 12 a) (mCl g a) K)) w 104 [(0, .ref (a 0)), (2, .int v2), (3, .int v3)] [.int s0] := by
  unfold P_X4_row_104 at h
  refine J_istore C [(4, .int s0), (0, .ref (a 0)), (2, .int v2), (3, .int v3)] dX4_row_104 (by decide) rfl ?_
  refine J_iinc C 3 [(3, .int (v3 + (1 : Int32))), (4, .int s0), (0, .ref (a 0)), (2, .int v2)] dX4_row_106 rfl rfl (by decide) rfl ?_
  refine J_goto (tgt := 35) C dX4_row_109 (by decide) ?_
  refine J_lv [2, 3, 0, 1] rfl ?_
  exact hB35 _ _ _ h
def P_X4_row_35 (K : Int32 → MW → Prop) (E59 : MW → Int32 → Prop) (E112 : MW → Int32 → Prop) (v2 : Int32) : Nat → MW → Int32 → Int32 → Prop
  | 0, _, _, _ => False
  | n + 1, w, v3, v4 => (v4 = 0 → E112 w v3) ∧ (¬ v4 = 0 → vp_in (md_rows w) 81 ∧ ((¬ ((md_cellMany w) - (md_rowFrom w (md_rows w).toNatClampNeg)) = (12 : Int32) → P_X4_markOf (fun r_1 => P_X4_quoteOf (fun r_2 => P_X4_cell (fun r_3 w_4 => (0 ≤ r_3 → P_X4_textAt (fun r_5 => P_X4_markOf (fun r_6 => (¬ r_5 = r_6 → P_X4_row_104 K (P_X4_row_35 K E59 E112 v2 n) E59 E112 w_4 v2 r_3 (0 : Int32)) ∧ (r_5 = r_6 → P_X4_row_104 K (P_X4_row_35 K E59 E112 v2 n) E59 E112 w_4 v2 r_3 (1 : Int32))) v2) w_4 r_3) ∧ (¬ 0 ≤ r_3 → K (-1 : Int32) w_4)) w v3 r_1 r_2) v2) v2) ∧ (((md_cellMany w) - (md_rowFrom w (md_rows w).toNatClampNeg)) = (12 : Int32) → E59 w v3)))
set_option maxRecDepth 10000 in
theorem s_X4_row_35 {x : Mx} {g : Gd} {a : Nat → Nat} (C : Cx x g (sA 12 a) (mCl g a) cX4_row 5 RX4 (some .int) 2 46) {K : Int32 → MW → Prop}  {v2 : Int32} {E59 : MW → Int32 → Prop} {E112 : MW → Int32 → Prop} (hE59 : ∀ (w : MW) (v3 : Int32), E59 w v3 → J x g (sA 12 a) (mCl g a) 5 (JQ x (sA 12 a) (QcI g (sA 12 a) (mCl g a) K)) w 59 [(0, .ref (a 0)), (3, .int v3)] []) (hE112 : ∀ (w : MW) (v3 : Int32), E112 w v3 → J x g (sA 12 a) (mCl g a) 5 (JQ x (sA 12 a) (QcI g (sA 12 a) (mCl g a) K)) w 112 [(0, .ref (a 0)), (3, .int v3)] []) : ∀ (n : Nat) (w : MW) (v3 : Int32) (v4 : Int32), P_X4_row_35 K E59 E112 v2 n w v3 v4 → J x g (sA 12 a) (mCl g a) 5 (JQ x (sA 12 a) (QcI g (sA 12 a) (mCl g a) K)) w 35 [(0, .ref (a 0)), (2, .int v2), (3, .int v3), (4, .int v4)] [] := by
  intro n
  induction n with
  | zero => intro w v3 v4 h; exact h.elim
  | succ n ih =>
    intro w v3 v4 h
    unfold P_X4_row_35 at h
    refine J_iload C 3 dX4_row_35 rfl ?_
    refine J_if_eq (tgt := 112) C dX4_row_37 (by decide) h (fun h => ?_) (fun h => ?_)
    · refine J_lv [0, 2] rfl ?_
      exact hE112 _ _ h
    · refine J_aload_n C 0 dX4_row_40 rfl rfl ?_
      refine G_md_cellMany C mw_467 dX4_row_41 ?_
      refine J_aload_n C 0 dX4_row_44 rfl rfl ?_
      refine G_md_rowFrom C mw_471 dX4_row_45 ?_
      refine J_aload_n C 0 dX4_row_48 rfl rfl ?_
      refine G_md_rows C mw_466 dX4_row_49 ?_
      refine L_md_rowFrom C dX4_row_52 h (fun h => ?_)
      refine J_isub C dX4_row_53 ?_
      refine J_bipush (v := (12 : Int32)) C dX4_row_54 (by decide) ?_
      refine J_icmp_ne (tgt := 67) C dX4_row_56 (by decide) h (fun h => ?_) (fun h => ?_)
      · refine J_aload_n C 0 dX4_row_67 rfl rfl ?_
        refine J_iload_n C 2 dX4_row_68 rfl rfl ?_
        refine J_iload_n C 1 dX4_row_69 rfl rfl ?_
        refine k_X4_markOf C mw_526 dX4_row_70 ⟨Nat.le_of_ble_eq_true rfl, Nat.le_of_ble_eq_true rfl⟩ (Nat.le_of_ble_eq_true rfl) h (fun r_1 h => ?_)
        refine J_iload_n C 1 dX4_row_73 rfl rfl ?_
        refine k_X4_quoteOf C mw_529 dX4_row_74 ⟨Nat.le_of_ble_eq_true rfl, Nat.le_of_ble_eq_true rfl⟩ (Nat.le_of_ble_eq_true rfl) h (fun r_2 h => ?_)
        refine k_X4_cell C mw_532 dX4_row_77 ⟨Nat.le_of_ble_eq_true rfl, Nat.le_of_ble_eq_true rfl⟩ (Nat.le_of_ble_eq_true rfl) h (fun r_3 w_4 h => ?_)
        refine J_istore_n C [(3, .int r_3), (0, .ref (a 0)), (2, .int v2), (4, .int v4)] dX4_row_80 rfl (by decide) rfl ?_
        refine J_iload_n C 0 dX4_row_81 rfl rfl ?_
        refine J_if_ge (tgt := 87) C dX4_row_82 (by decide) h (fun h => ?_) (fun h => ?_)
        · refine J_aload_n C 1 dX4_row_87 rfl rfl ?_
          refine J_iload_n C 0 dX4_row_88 rfl rfl ?_
          refine k_X4_textAt C mw_535 dX4_row_89 ⟨Nat.le_of_ble_eq_true rfl, Nat.le_of_ble_eq_true rfl⟩ (Nat.le_of_ble_eq_true rfl) h (fun r_5 h => ?_)
          refine J_iload_n C 2 dX4_row_92 rfl rfl ?_
          refine k_X4_markOf C mw_526 dX4_row_93 ⟨Nat.le_of_ble_eq_true rfl, Nat.le_of_ble_eq_true rfl⟩ (Nat.le_of_ble_eq_true rfl) h (fun r_6 h => ?_)
          refine J_icmp_ne (tgt := 103) C dX4_row_96 (by decide) h (fun h => ?_) (fun h => ?_)
          · refine J_iconst (v := (0 : Int32)) C dX4_row_103 (by decide) ?_
            refine J_lv [1, 2, 0] rfl ?_
            exact s_X4_row_104 C ih hE59 hE112 h
          · refine J_iconst (v := (1 : Int32)) C dX4_row_99 (by decide) ?_
            refine J_goto (tgt := 104) C dX4_row_100 (by decide) ?_
            refine J_lv [1, 2, 0] rfl ?_
            exact s_X4_row_104 C ih hE59 hE112 h
        · refine J_iconst (v := (-1 : Int32)) C dX4_row_85 (by decide) ?_
          exact J_iret C dX4_row_86 h
      · refine J_lv [0, 2] rfl ?_
        exact hE59 _ _ h
def P_X4_row (K : Int32 → MW → Prop) (w : MW) (v1 : Int32) (v2 : Int32) : Prop := (¬ (md_rows w) = (80 : Int32) → vp_in (md_rows w) 81 ∧ (∃ nf : Nat, P_X4_row_35 K (fun w_7 v3_8 => P_X4_wrong (fun w_9 => K (-1 : Int32) w_9) w_7 (3 : Int32) v3_8) (fun w_10 v3_11 => K v3_11 (md_rows_s w_10 ((md_rows w_10) + (1 : Int32)))) v2 nf (md_rowFrom_s w (upd (md_rowFrom w) (md_rows w).toNatClampNeg (md_cellMany w))) v1 (1 : Int32))) ∧ ((md_rows w) = (80 : Int32) → P_X4_wrong (fun w_12 => K (-1 : Int32) w_12) w (3 : Int32) v1)
set_option maxRecDepth 10000 in
theorem s_X4_row {x : Mx} {g : Gd} {a : Nat → Nat} (C : Cx x g (sA 12 a) (mCl g a) cX4_row 5 RX4 (some .int) 2 46) {K : Int32 → MW → Prop}  {w : MW} {v1 : Int32} {v2 : Int32} (h : P_X4_row K w v1 v2) : J x g (sA 12 a) (mCl g a) 5 (JQ x (sA 12 a) (QcI g (sA 12 a) (mCl g a) K)) w 0 [(0, .ref (a 0)), (1, .int v1), (2, .int v2)] [] := by
  unfold P_X4_row at h
  refine J_aload_n C 0 dX4_row_0 rfl rfl ?_
  refine G_md_rows C mw_466 dX4_row_1 ?_
  refine J_bipush (v := (80 : Int32)) C dX4_row_4 (by decide) ?_
  refine J_icmp_ne (tgt := 17) C dX4_row_6 (by decide) h (fun h => ?_) (fun h => ?_)
  · refine J_aload_n C 0 dX4_row_17 rfl rfl ?_
    refine G_md_rowFrom C mw_471 dX4_row_18 ?_
    refine J_aload_n C 0 dX4_row_21 rfl rfl ?_
    refine G_md_rows C mw_466 dX4_row_22 ?_
    refine J_aload_n C 0 dX4_row_25 rfl rfl ?_
    refine G_md_cellMany C mw_467 dX4_row_26 ?_
    refine U_md_rowFrom C dX4_row_29 h (fun h => ?_)
    refine J_iload_n C 1 dX4_row_30 rfl rfl ?_
    refine J_istore_n C [(3, .int v1), (0, .ref (a 0)), (1, .int v1), (2, .int v2)] dX4_row_31 rfl (by decide) rfl ?_
    refine J_iconst (v := (1 : Int32)) C dX4_row_32 (by decide) ?_
    refine J_istore C [(4, .int (1 : Int32)), (3, .int v1), (0, .ref (a 0)), (1, .int v1), (2, .int v2)] dX4_row_33 (by decide) rfl ?_
    obtain ⟨nf, h⟩ := h
    refine J_lv [2, 4, 1, 0] rfl ?_
    refine s_X4_row_35 C (fun w_7 v3_8 h => ?_) (fun w_10 v3_11 h => ?_) nf _ _ _ h
    · refine J_aload_n C 0 dX4_row_59 rfl rfl ?_
      refine J_iconst (v := (3 : Int32)) C dX4_row_60 (by decide) ?_
      refine J_iload_n C 1 dX4_row_61 rfl rfl ?_
      refine k_X4_wrong C mw_520 dX4_row_62 ⟨Nat.le_of_ble_eq_true rfl, Nat.le_of_ble_eq_true rfl⟩ (Nat.le_of_ble_eq_true rfl) h (fun w_9 h => ?_)
      refine J_iconst (v := (-1 : Int32)) C dX4_row_65 (by decide) ?_
      exact J_iret C dX4_row_66 h
    · refine J_aload_n C 0 dX4_row_112 rfl rfl ?_
      refine J_dup C dX4_row_113 rfl ?_
      refine G_md_rows C mw_466 dX4_row_114 ?_
      refine J_iconst (v := (1 : Int32)) C dX4_row_117 (by decide) ?_
      refine J_iadd C dX4_row_118 ?_
      refine S_md_rows C mw_466 dX4_row_119 ?_
      refine J_iload_n C 1 dX4_row_122 rfl rfl ?_
      exact J_iret C dX4_row_123 h
  · refine J_aload_n C 0 dX4_row_9 rfl rfl ?_
    refine J_iconst (v := (3 : Int32)) C dX4_row_10 (by decide) ?_
    refine J_iload_n C 1 dX4_row_11 rfl rfl ?_
    refine k_X4_wrong C mw_520 dX4_row_12 ⟨Nat.le_of_ble_eq_true rfl, Nat.le_of_ble_eq_true rfl⟩ (Nat.le_of_ble_eq_true rfl) h (fun w_12 h => ?_)
    refine J_iconst (v := (-1 : Int32)) C dX4_row_15 (by decide) ?_
    exact J_iret C dX4_row_16 h
theorem c_X4_row {l : Launch} {g : Gd} {a : Nat → Nat} {w : MW} {K : Int32 → MW → Prop} {v1 : Int32} {v2 : Int32} (h : P_X4_row K w v1 v2) : Kt l yX4_row cX4_row 5 (some .int) 2 46 g (sA 12 a) (mCl g a) [.ref (a 0), .int v1, .int v2] w (QcI g (sA 12 a) (mCl g a) K) :=
  Kt_of (by decide +kernel) (Nat.le_of_ble_eq_true rfl) (fun x hx C => s_X4_row C h)
theorem k_X4_row {x : Mx} {g : Gd} {a : Nat → Nat} {cc : ByteArray} {nL : Nat} {own : String} {ret : Option FieldType} {F L : Nat} {Q : State → Prop} {w : MW} {pc : Nat} {lv : List (Nat × Value)} {st : List Value} (C : Cx x g (sA 12 a) (mCl g a) cc nL own ret F L) {index : Nat} {K : Int32 → MW → Prop} {v1 : Int32} {v2 : Int32} (h1 : Cond.methodLink own index yX4_row ∈ gT) (hd : decode cc pc = .ok (.invokevirtual index, 3)) (hR : 2 + 1 ≤ F ∧ 8 + (5 + 11) + 46 ≤ L) (hst : (st.map fun v => v.category).sum ≤ 8) (h : P_X4_row K w v1 v2) (k : ∀ (r : Int32) (w' : MW), K r w' → J x g (sA 12 a) (mCl g a) nL Q w' (pc + 3) lv (.int r :: st)) : J x g (sA 12 a) (mCl g a) nL Q w (pc) lv (.int v2 :: .int v1 :: .ref (a 0) :: st) :=
  J_callVi C (As := [.int v1, .int v2]) (b := a 0) (n := 2) (c_X4_row h) h1 mw_524 mw_775 mw_6 mw_525 (by decide +kernel) hR rfl (rc_X4 C) hst hd k
-- X4_cellsOf (pure, room 0 0)
def P_X4_cellsOf (K : Int32 → Prop) (w : MW) (v1 : Int32) : Prop := vp_in (v1 + (1 : Int32)) 81 ∧ (vp_in v1 81 ∧ (K ((md_rowFrom w (v1 + (1 : Int32)).toNatClampNeg) - (md_rowFrom w v1.toNatClampNeg))))
set_option maxRecDepth 10000 in
theorem s_X4_cellsOf {x : Mx} {g : Gd} {a : Nat → Nat} (C : Cx x g (sA 12 a) (mCl g a) cX4_cellsOf 2 RX4 (some .int) 0 0) {K : Int32 → Prop} {w : MW}  {v1 : Int32} (h : P_X4_cellsOf K w v1) : J x g (sA 12 a) (mCl g a) 2 (JQ x (sA 12 a) (QcI g (sA 12 a) (mCl g a) (fun r w' => K r ∧ w' = w))) w 0 [(0, .ref (a 0)), (1, .int v1)] [] := by
  unfold P_X4_cellsOf at h
  refine J_aload_n C 0 dX4_cellsOf_0 rfl rfl ?_
  refine G_md_rowFrom C mw_471 dX4_cellsOf_1 ?_
  refine J_iload_n C 1 dX4_cellsOf_4 rfl rfl ?_
  refine J_iconst (v := (1 : Int32)) C dX4_cellsOf_5 (by decide) ?_
  refine J_iadd C dX4_cellsOf_6 ?_
  refine L_md_rowFrom C dX4_cellsOf_7 h (fun h => ?_)
  refine J_aload_n C 0 dX4_cellsOf_8 rfl rfl ?_
  refine G_md_rowFrom C mw_471 dX4_cellsOf_9 ?_
  refine J_iload_n C 1 dX4_cellsOf_12 rfl rfl ?_
  refine L_md_rowFrom C dX4_cellsOf_13 h (fun h => ?_)
  refine J_isub C dX4_cellsOf_14 ?_
  exact J_iret C dX4_cellsOf_15 ⟨h, rfl⟩
theorem c_X4_cellsOf {l : Launch} {g : Gd} {a : Nat → Nat} {w : MW} {K : Int32 → Prop} {v1 : Int32} (h : P_X4_cellsOf K w v1) : Kt l yX4_cellsOf cX4_cellsOf 2 (some .int) 0 0 g (sA 12 a) (mCl g a) [.ref (a 0), .int v1] w (QcI g (sA 12 a) (mCl g a) (fun r w' => K r ∧ w' = w)) :=
  Kt_of (by decide +kernel) (Nat.le_of_ble_eq_true rfl) (fun x hx C => s_X4_cellsOf C h)
theorem k_X4_cellsOf {x : Mx} {g : Gd} {a : Nat → Nat} {cc : ByteArray} {nL : Nat} {own : String} {ret : Option FieldType} {F L : Nat} {Q : State → Prop} {w : MW} {pc : Nat} {lv : List (Nat × Value)} {st : List Value} (C : Cx x g (sA 12 a) (mCl g a) cc nL own ret F L) {index : Nat} {K : Int32 → Prop} {v1 : Int32} (h1 : Cond.methodLink own index yX4_cellsOf ∈ gT) (hd : decode cc pc = .ok (.invokevirtual index, 3)) (hR : 0 + 1 ≤ F ∧ 8 + (2 + 11) + 0 ≤ L) (hst : (st.map fun v => v.category).sum ≤ 8) (h : P_X4_cellsOf K w v1) (k : ∀ (r : Int32), K r → J x g (sA 12 a) (mCl g a) nL Q w (pc + 3) lv (.int r :: st)) : J x g (sA 12 a) (mCl g a) nL Q w (pc) lv (.int v1 :: .ref (a 0) :: st) :=
  J_callVi C (As := [.int v1]) (b := a 0) (n := 1) (c_X4_cellsOf h) h1 mw_548 mw_780 mw_6 mw_549 (by decide +kernel) hR rfl (rc_X4 C) hst hd (fun r w' hK => by
    obtain ⟨hK, rfl⟩ := hK
    exact k r hK)
-- X4_width (pure, room 1 21)
def P_X4_width (K : Int32 → Prop) (w : MW) : Prop := (¬ (md_rows w) = 0 → P_X4_cellsOf (fun r_1 => K r_1) w (0 : Int32)) ∧ ((md_rows w) = 0 → K (0 : Int32))
set_option maxRecDepth 10000 in
theorem s_X4_width {x : Mx} {g : Gd} {a : Nat → Nat} (C : Cx x g (sA 12 a) (mCl g a) cX4_width 1 RX4 (some .int) 1 21) {K : Int32 → Prop} {w : MW}  (h : P_X4_width K w) : J x g (sA 12 a) (mCl g a) 1 (JQ x (sA 12 a) (QcI g (sA 12 a) (mCl g a) (fun r w' => K r ∧ w' = w))) w 0 [(0, .ref (a 0))] [] := by
  unfold P_X4_width at h
  refine J_aload_n C 0 dX4_width_0 rfl rfl ?_
  refine G_md_rows C mw_466 dX4_width_1 ?_
  refine J_if_ne (tgt := 11) C dX4_width_4 (by decide) h (fun h => ?_) (fun h => ?_)
  · refine J_aload_n C 0 dX4_width_11 rfl rfl ?_
    refine J_iconst (v := (0 : Int32)) C dX4_width_12 (by decide) ?_
    refine k_X4_cellsOf C mw_547 dX4_width_13 ⟨Nat.le_of_ble_eq_true rfl, Nat.le_of_ble_eq_true rfl⟩ (Nat.le_of_ble_eq_true rfl) h (fun r_1 h => ?_)
    exact J_iret C dX4_width_16 ⟨h, rfl⟩
  · refine J_iconst (v := (0 : Int32)) C dX4_width_7 (by decide) ?_
    refine J_goto (tgt := 16) C dX4_width_8 (by decide) ?_
    exact J_iret C dX4_width_16 ⟨h, rfl⟩
theorem c_X4_width {l : Launch} {g : Gd} {a : Nat → Nat} {w : MW} {K : Int32 → Prop} (h : P_X4_width K w) : Kt l yX4_width cX4_width 1 (some .int) 1 21 g (sA 12 a) (mCl g a) [.ref (a 0)] w (QcI g (sA 12 a) (mCl g a) (fun r w' => K r ∧ w' = w)) :=
  Kt_of (by decide +kernel) (Nat.le_of_ble_eq_true rfl) (fun x hx C => s_X4_width C h)
theorem k_X4_width {x : Mx} {g : Gd} {a : Nat → Nat} {cc : ByteArray} {nL : Nat} {own : String} {ret : Option FieldType} {F L : Nat} {Q : State → Prop} {w : MW} {pc : Nat} {lv : List (Nat × Value)} {st : List Value} (C : Cx x g (sA 12 a) (mCl g a) cc nL own ret F L) {index : Nat} {K : Int32 → Prop} (h1 : Cond.methodLink own index yX4_width ∈ gT) (hd : decode cc pc = .ok (.invokevirtual index, 3)) (hR : 1 + 1 ≤ F ∧ 8 + (1 + 11) + 21 ≤ L) (hst : (st.map fun v => v.category).sum ≤ 8) (h : P_X4_width K w) (k : ∀ (r : Int32), K r → J x g (sA 12 a) (mCl g a) nL Q w (pc + 3) lv (.int r :: st)) : J x g (sA 12 a) (mCl g a) nL Q w (pc) lv (.ref (a 0) :: st) :=
  J_callVi C (As := []) (b := a 0) (n := 0) (c_X4_width h) h1 mw_551 mw_781 mw_6 mw_552 (by decide +kernel) hR rfl (rc_X4 C) hst hd (fun r w' hK => by
    obtain ⟨hK, rfl⟩ := hK
    exact k r hK)
-- X4_isOdd (pure, room 2 41)
def P_X4_isOdd (K : Int32 → Prop) (w : MW) (v1 : Int32) : Prop := P_X4_cellsOf (fun r_1 => P_X4_width (fun r_2 => (r_1 = r_2 → K (0 : Int32)) ∧ (¬ r_1 = r_2 → K (1 : Int32))) w) w v1
set_option maxRecDepth 10000 in
theorem s_X4_isOdd {x : Mx} {g : Gd} {a : Nat → Nat} (C : Cx x g (sA 12 a) (mCl g a) cX4_isOdd 2 RX4 (some .boolean) 2 41) {K : Int32 → Prop} {w : MW}  {v1 : Int32} (h : P_X4_isOdd K w v1) : J x g (sA 12 a) (mCl g a) 2 (JQ x (sA 12 a) (QcI g (sA 12 a) (mCl g a) (fun r w' => K r ∧ w' = w))) w 0 [(0, .ref (a 0)), (1, .int v1)] [] := by
  unfold P_X4_isOdd at h
  refine J_aload_n C 0 dX4_isOdd_0 rfl rfl ?_
  refine J_iload_n C 1 dX4_isOdd_1 rfl rfl ?_
  refine k_X4_cellsOf C mw_547 dX4_isOdd_2 ⟨Nat.le_of_ble_eq_true rfl, Nat.le_of_ble_eq_true rfl⟩ (Nat.le_of_ble_eq_true rfl) h (fun r_1 h => ?_)
  refine J_aload_n C 0 dX4_isOdd_5 rfl rfl ?_
  refine k_X4_width C mw_550 dX4_isOdd_6 ⟨Nat.le_of_ble_eq_true rfl, Nat.le_of_ble_eq_true rfl⟩ (Nat.le_of_ble_eq_true rfl) h (fun r_2 h => ?_)
  refine J_icmp_eq (tgt := 16) C dX4_isOdd_9 (by decide) h (fun h => ?_) (fun h => ?_)
  · refine J_iconst (v := (0 : Int32)) C dX4_isOdd_16 (by decide) ?_
    exact J_zret C dX4_isOdd_17 rfl ⟨h, rfl⟩
  · refine J_iconst (v := (1 : Int32)) C dX4_isOdd_12 (by decide) ?_
    refine J_goto (tgt := 17) C dX4_isOdd_13 (by decide) ?_
    exact J_zret C dX4_isOdd_17 rfl ⟨h, rfl⟩
theorem c_X4_isOdd {l : Launch} {g : Gd} {a : Nat → Nat} {w : MW} {K : Int32 → Prop} {v1 : Int32} (h : P_X4_isOdd K w v1) : Kt l yX4_isOdd cX4_isOdd 2 (some .boolean) 2 41 g (sA 12 a) (mCl g a) [.ref (a 0), .int v1] w (QcI g (sA 12 a) (mCl g a) (fun r w' => K r ∧ w' = w)) :=
  Kt_of (by decide +kernel) (Nat.le_of_ble_eq_true rfl) (fun x hx C => s_X4_isOdd C h)
theorem k_X4_isOdd {x : Mx} {g : Gd} {a : Nat → Nat} {cc : ByteArray} {nL : Nat} {own : String} {ret : Option FieldType} {F L : Nat} {Q : State → Prop} {w : MW} {pc : Nat} {lv : List (Nat × Value)} {st : List Value} (C : Cx x g (sA 12 a) (mCl g a) cc nL own ret F L) {index : Nat} {K : Int32 → Prop} {v1 : Int32} (h1 : Cond.methodLink own index yX4_isOdd ∈ gT) (hd : decode cc pc = .ok (.invokevirtual index, 3)) (hR : 2 + 1 ≤ F ∧ 8 + (2 + 11) + 41 ≤ L) (hst : (st.map fun v => v.category).sum ≤ 8) (h : P_X4_isOdd K w v1) (k : ∀ (r : Int32), K r → J x g (sA 12 a) (mCl g a) nL Q w (pc + 3) lv (.int r :: st)) : J x g (sA 12 a) (mCl g a) nL Q w (pc) lv (.int v1 :: .ref (a 0) :: st) :=
  J_callVi C (As := [.int v1]) (b := a 0) (n := 1) (c_X4_isOdd h) h1 mw_545 mw_779 mw_6 mw_546 (by decide +kernel) hR rfl (rc_X4 C) hst hd (fun r w' hK => by
    obtain ⟨hK, rfl⟩ := hK
    exact k r hK)
-- X4_load (changes, room 3 70)
def P_X4_load_42 (K : MW → Prop) (E64 : MW → Prop) (v1 : Int32) : Nat → MW → Int32 → Prop
  | 0, _, _ => False
  | n + 1, w, v2 => (v2 < 0 → E64 w) ∧ (¬ v2 < 0 → ((md_size w) ≤ v2 → E64 w) ∧ (¬ (md_size w) ≤ v2 → P_X4_row (fun r_2 w_3 => P_X4_load_42 K E64 v1 n w_3 r_2) w v2 v1))
set_option maxRecDepth 10000 in
theorem s_X4_load_42 {x : Mx} {g : Gd} {a : Nat → Nat} (C : Cx x g (sA 12 a) (mCl g a) cX4_load 4 RX4 none 3 70) {K : MW → Prop}  {v1 : Int32} {E64 : MW → Prop} (hE64 : ∀ (w : MW), E64 w → J x g (sA 12 a) (mCl g a) 4 (JQ x (sA 12 a) (QcV g (sA 12 a) (mCl g a) K)) w 64 [(0, .ref (a 0)), (1, .int v1)] []) : ∀ (n : Nat) (w : MW) (v2 : Int32), P_X4_load_42 K E64 v1 n w v2 → J x g (sA 12 a) (mCl g a) 4 (JQ x (sA 12 a) (QcV g (sA 12 a) (mCl g a) K)) w 42 [(0, .ref (a 0)), (1, .int v1), (2, .int v2)] [] := by
  intro n
  induction n with
  | zero => intro w v2 h; exact h.elim
  | succ n ih =>
    intro w v2 h
    unfold P_X4_load_42 at h
    refine J_iload_n C 2 dX4_load_42 rfl rfl ?_
    refine J_if_lt (tgt := 64) C dX4_load_43 (by decide) h (fun h => ?_) (fun h => ?_)
    · refine J_lv [0, 1] rfl ?_
      exact hE64 _ h
    · refine J_iload_n C 2 dX4_load_46 rfl rfl ?_
      refine J_aload_n C 0 dX4_load_47 rfl rfl ?_
      refine G_md_size C mw_463 dX4_load_48 ?_
      refine J_icmp_ge (tgt := 64) C dX4_load_51 (by decide) h (fun h => ?_) (fun h => ?_)
      · refine J_lv [0, 1] rfl ?_
        exact hE64 _ h
      · refine J_aload_n C 0 dX4_load_54 rfl rfl ?_
        refine J_iload_n C 2 dX4_load_55 rfl rfl ?_
        refine J_iload_n C 1 dX4_load_56 rfl rfl ?_
        refine k_X4_row C mw_523 dX4_load_57 ⟨Nat.le_of_ble_eq_true rfl, Nat.le_of_ble_eq_true rfl⟩ (Nat.le_of_ble_eq_true rfl) h (fun r_2 w_3 h => ?_)
        refine J_istore_n C [(2, .int r_2), (0, .ref (a 0)), (1, .int v1)] dX4_load_60 rfl (by decide) rfl ?_
        refine J_goto (tgt := 42) C dX4_load_61 (by decide) ?_
        refine J_lv [1, 2, 0] rfl ?_
        exact ih _ _ h
def P_X4_load_144 (K : MW → Prop) (B118 : MW → Int32 → Prop) (w : MW) (v3 : Int32) (s0 : Int32) (s1 : Int32) : Prop := B118 (md_odds_s w (s1 + s0)) (v3 + (1 : Int32))
set_option maxRecDepth 10000 in
theorem s_X4_load_144 {x : Mx} {g : Gd} {a : Nat → Nat} (C : Cx x g (sA 12 a) (mCl g a) cX4_load 4 RX4 none 3 70) {K : MW → Prop}  {v3 : Int32} {s0 : Int32} {s1 : Int32} {B118 : MW → Int32 → Prop} (hB118 : ∀ (w : MW) (v3 : Int32), B118 w v3 → J x g (sA 12 a) (mCl g a) 4 (JQ x (sA 12 a) (QcV g (sA 12 a) (mCl g a) K)) w 118 [(0, .ref (a 0)), (3, .int v3)] []) {w : MW} (h : P_X4_load_144 K B118 w v3 s0 s1) : J x g (sA 12 a) (mCl g a) 4 (JQ x (sA 12 a) (QcV g (sA 12 a) (mCl g a) K)) w 144 [(0, .ref (a 0)), (3, .int v3)] [.int s0, .int s1, .ref (a 0)] := by
  unfold P_X4_load_144 at h
  refine J_iadd C dX4_load_144 ?_
  refine S_md_odds C mw_470 dX4_load_145 ?_
  refine J_iinc C 1 [(3, .int (v3 + (1 : Int32))), (0, .ref (a 0))] dX4_load_148 rfl rfl (by decide) rfl ?_
  refine J_goto (tgt := 118) C dX4_load_151 (by decide) ?_
  refine J_lv [1, 0] rfl ?_
  exact hB118 _ _ h
def P_X4_load_118 (K : MW → Prop) : Nat → MW → Int32 → Prop
  | 0, _, _ => False
  | n + 1, w, v3 => ((md_rows w) ≤ v3 → K w) ∧ (¬ (md_rows w) ≤ v3 → P_X4_isOdd (fun r_5 => (r_5 = 0 → P_X4_load_144 K (P_X4_load_118 K n) w v3 (0 : Int32) (md_odds w)) ∧ (¬ r_5 = 0 → P_X4_load_144 K (P_X4_load_118 K n) w v3 (1 : Int32) (md_odds w))) w v3)
set_option maxRecDepth 10000 in
theorem s_X4_load_118 {x : Mx} {g : Gd} {a : Nat → Nat} (C : Cx x g (sA 12 a) (mCl g a) cX4_load 4 RX4 none 3 70) {K : MW → Prop}  : ∀ (n : Nat) (w : MW) (v3 : Int32), P_X4_load_118 K n w v3 → J x g (sA 12 a) (mCl g a) 4 (JQ x (sA 12 a) (QcV g (sA 12 a) (mCl g a) K)) w 118 [(0, .ref (a 0)), (3, .int v3)] [] := by
  intro n
  induction n with
  | zero => intro w v3 h; exact h.elim
  | succ n ih =>
    intro w v3 h
    unfold P_X4_load_118 at h
    refine J_iload_n C 1 dX4_load_118 rfl rfl ?_
    refine J_aload_n C 0 dX4_load_119 rfl rfl ?_
    refine G_md_rows C mw_466 dX4_load_120 ?_
    refine J_icmp_ge (tgt := 154) C dX4_load_123 (by decide) h (fun h => ?_) (fun h => ?_)
    · exact J_vret C dX4_load_154 h
    · refine J_aload_n C 0 dX4_load_126 rfl rfl ?_
      refine J_dup C dX4_load_127 rfl ?_
      refine G_md_odds C mw_470 dX4_load_128 ?_
      refine J_aload_n C 0 dX4_load_131 rfl rfl ?_
      refine J_iload_n C 1 dX4_load_132 rfl rfl ?_
      refine k_X4_isOdd C mw_544 dX4_load_133 ⟨Nat.le_of_ble_eq_true rfl, Nat.le_of_ble_eq_true rfl⟩ (Nat.le_of_ble_eq_true rfl) h (fun r_5 h => ?_)
      refine J_if_eq (tgt := 143) C dX4_load_136 (by decide) h (fun h => ?_) (fun h => ?_)
      · refine J_iconst (v := (0 : Int32)) C dX4_load_143 (by decide) ?_
        refine J_lv [0, 1] rfl ?_
        exact s_X4_load_144 C ih h
      · refine J_iconst (v := (1 : Int32)) C dX4_load_139 (by decide) ?_
        refine J_goto (tgt := 144) C dX4_load_140 (by decide) ?_
        refine J_lv [0, 1] rfl ?_
        exact s_X4_load_144 C ih h
def P_X4_load_116 (K : MW → Prop) (w : MW) : Prop := ∃ nf : Nat, P_X4_load_118 K nf w (0 : Int32)
set_option maxRecDepth 10000 in
theorem s_X4_load_116 {x : Mx} {g : Gd} {a : Nat → Nat} (C : Cx x g (sA 12 a) (mCl g a) cX4_load 4 RX4 none 3 70) {K : MW → Prop}  {w : MW} (h : P_X4_load_116 K w) : J x g (sA 12 a) (mCl g a) 4 (JQ x (sA 12 a) (QcV g (sA 12 a) (mCl g a) K)) w 116 [(0, .ref (a 0))] [] := by
  unfold P_X4_load_116 at h
  refine J_iconst (v := (0 : Int32)) C dX4_load_116 (by decide) ?_
  refine J_istore_n C [(3, .int (0 : Int32)), (0, .ref (a 0))] dX4_load_117 rfl (by decide) rfl ?_
  obtain ⟨nf, h⟩ := h
  refine J_lv [1, 0] rfl ?_
  refine s_X4_load_118 C  nf _ _ h
def P_X4_load_91 (K : MW → Prop) (w : MW) : Prop := vp_in (md_rows w) 81 ∧ (((md_fault (md_rowFrom_s w (upd (md_rowFrom w) (md_rows w).toNatClampNeg (md_cellMany w)))) ≤ 0 → P_X4_load_116 K (md_rowFrom_s w (upd (md_rowFrom w) (md_rows w).toNatClampNeg (md_cellMany w)))) ∧ (¬ (md_fault (md_rowFrom_s w (upd (md_rowFrom w) (md_rows w).toNatClampNeg (md_cellMany w)))) ≤ 0 → P_X4_load_116 K (md_rows_s (md_rowFrom_s w (upd (md_rowFrom w) (md_rows w).toNatClampNeg (md_cellMany w))) (0 : Int32))))
set_option maxRecDepth 10000 in
theorem s_X4_load_91 {x : Mx} {g : Gd} {a : Nat → Nat} (C : Cx x g (sA 12 a) (mCl g a) cX4_load 4 RX4 none 3 70) {K : MW → Prop}  {w : MW} (h : P_X4_load_91 K w) : J x g (sA 12 a) (mCl g a) 4 (JQ x (sA 12 a) (QcV g (sA 12 a) (mCl g a) K)) w 91 [(0, .ref (a 0))] [] := by
  unfold P_X4_load_91 at h
  refine J_aload_n C 0 dX4_load_91 rfl rfl ?_
  refine G_md_rowFrom C mw_471 dX4_load_92 ?_
  refine J_aload_n C 0 dX4_load_95 rfl rfl ?_
  refine G_md_rows C mw_466 dX4_load_96 ?_
  refine J_aload_n C 0 dX4_load_99 rfl rfl ?_
  refine G_md_cellMany C mw_467 dX4_load_100 ?_
  refine U_md_rowFrom C dX4_load_103 h (fun h => ?_)
  refine J_aload_n C 0 dX4_load_104 rfl rfl ?_
  refine G_md_fault C mw_468 dX4_load_105 ?_
  refine J_if_le (tgt := 116) C dX4_load_108 (by decide) h (fun h => ?_) (fun h => ?_)
  · refine J_lv [0] rfl ?_
    exact s_X4_load_116 C h
  · refine J_aload_n C 0 dX4_load_111 rfl rfl ?_
    refine J_iconst (v := (0 : Int32)) C dX4_load_112 (by decide) ?_
    refine S_md_rows C mw_466 dX4_load_113 ?_
    refine J_lv [0] rfl ?_
    exact s_X4_load_116 C h
def P_X4_load_64 (K : MW → Prop) (w : MW) (v1 : Int32) : Prop := (¬ (md_fault w) = 0 → P_X4_load_91 K w) ∧ ((md_fault w) = 0 → (¬ (md_rows w) = 0 → P_X4_load_91 K w) ∧ ((md_rows w) = 0 → P_X4_hasHead (fun r_6 => (r_6 = 0 → P_X4_load_91 K w) ∧ (¬ r_6 = 0 → P_X4_wrong (fun w_7 => P_X4_load_91 K w_7) w (4 : Int32) (0 : Int32))) v1))
set_option maxRecDepth 10000 in
theorem s_X4_load_64 {x : Mx} {g : Gd} {a : Nat → Nat} (C : Cx x g (sA 12 a) (mCl g a) cX4_load 4 RX4 none 3 70) {K : MW → Prop}  {v1 : Int32} {w : MW} (h : P_X4_load_64 K w v1) : J x g (sA 12 a) (mCl g a) 4 (JQ x (sA 12 a) (QcV g (sA 12 a) (mCl g a) K)) w 64 [(0, .ref (a 0)), (1, .int v1)] [] := by
  unfold P_X4_load_64 at h
  refine J_aload_n C 0 dX4_load_64 rfl rfl ?_
  refine G_md_fault C mw_468 dX4_load_65 ?_
  refine J_if_ne (tgt := 91) C dX4_load_68 (by decide) h (fun h => ?_) (fun h => ?_)
  · refine J_lv [0] rfl ?_
    exact s_X4_load_91 C h
  · refine J_aload_n C 0 dX4_load_71 rfl rfl ?_
    refine G_md_rows C mw_466 dX4_load_72 ?_
    refine J_if_ne (tgt := 91) C dX4_load_75 (by decide) h (fun h => ?_) (fun h => ?_)
    · refine J_lv [0] rfl ?_
      exact s_X4_load_91 C h
    · refine J_iload_n C 1 dX4_load_78 rfl rfl ?_
      refine k_X4_hasHead C mw_541 dX4_load_79 ⟨Nat.le_of_ble_eq_true rfl, Nat.le_of_ble_eq_true rfl⟩ (Nat.le_of_ble_eq_true rfl) h (fun r_6 h => ?_)
      refine J_if_eq (tgt := 91) C dX4_load_82 (by decide) h (fun h => ?_) (fun h => ?_)
      · refine J_lv [0] rfl ?_
        exact s_X4_load_91 C h
      · refine J_aload_n C 0 dX4_load_85 rfl rfl ?_
        refine J_iconst (v := (4 : Int32)) C dX4_load_86 (by decide) ?_
        refine J_iconst (v := (0 : Int32)) C dX4_load_87 (by decide) ?_
        refine k_X4_wrong C mw_520 dX4_load_88 ⟨Nat.le_of_ble_eq_true rfl, Nat.le_of_ble_eq_true rfl⟩ (Nat.le_of_ble_eq_true rfl) h (fun w_7 h => ?_)
        refine J_lv [0] rfl ?_
        exact s_X4_load_91 C h
def P_X4_load (K : MW → Prop) (w : MW) (v1 : Int32) : Prop := (¬ (md_loaded w) = v1 → P_X4_wrong (fun w_1 => ∃ nf : Nat, P_X4_load_42 K (fun w_4 => P_X4_load_64 K w_4 v1) v1 nf w_1 (0 : Int32)) (md_odds_s (md_byteMany_s (md_cellMany_s (md_rows_s (md_loaded_s w v1) (0 : Int32)) (0 : Int32)) (0 : Int32)) (0 : Int32)) (0 : Int32) (-1 : Int32)) ∧ ((md_loaded w) = v1 → K w)
set_option maxRecDepth 10000 in
theorem s_X4_load {x : Mx} {g : Gd} {a : Nat → Nat} (C : Cx x g (sA 12 a) (mCl g a) cX4_load 4 RX4 none 3 70) {K : MW → Prop}  {w : MW} {v1 : Int32} (h : P_X4_load K w v1) : J x g (sA 12 a) (mCl g a) 4 (JQ x (sA 12 a) (QcV g (sA 12 a) (mCl g a) K)) w 0 [(0, .ref (a 0)), (1, .int v1)] [] := by
  unfold P_X4_load at h
  refine J_aload_n C 0 dX4_load_0 rfl rfl ?_
  refine G_md_loaded C mw_465 dX4_load_1 ?_
  refine J_iload_n C 1 dX4_load_4 rfl rfl ?_
  refine J_icmp_ne (tgt := 9) C dX4_load_5 (by decide) h (fun h => ?_) (fun h => ?_)
  · refine J_aload_n C 0 dX4_load_9 rfl rfl ?_
    refine J_iload_n C 1 dX4_load_10 rfl rfl ?_
    refine S_md_loaded C mw_465 dX4_load_11 ?_
    refine J_aload_n C 0 dX4_load_14 rfl rfl ?_
    refine J_iconst (v := (0 : Int32)) C dX4_load_15 (by decide) ?_
    refine S_md_rows C mw_466 dX4_load_16 ?_
    refine J_aload_n C 0 dX4_load_19 rfl rfl ?_
    refine J_iconst (v := (0 : Int32)) C dX4_load_20 (by decide) ?_
    refine S_md_cellMany C mw_467 dX4_load_21 ?_
    refine J_aload_n C 0 dX4_load_24 rfl rfl ?_
    refine J_iconst (v := (0 : Int32)) C dX4_load_25 (by decide) ?_
    refine S_md_byteMany C mw_475 dX4_load_26 ?_
    refine J_aload_n C 0 dX4_load_29 rfl rfl ?_
    refine J_iconst (v := (0 : Int32)) C dX4_load_30 (by decide) ?_
    refine S_md_odds C mw_470 dX4_load_31 ?_
    refine J_aload_n C 0 dX4_load_34 rfl rfl ?_
    refine J_iconst (v := (0 : Int32)) C dX4_load_35 (by decide) ?_
    refine J_iconst (v := (-1 : Int32)) C dX4_load_36 (by decide) ?_
    refine k_X4_wrong C mw_520 dX4_load_37 ⟨Nat.le_of_ble_eq_true rfl, Nat.le_of_ble_eq_true rfl⟩ (Nat.le_of_ble_eq_true rfl) h (fun w_1 h => ?_)
    refine J_iconst (v := (0 : Int32)) C dX4_load_40 (by decide) ?_
    refine J_istore_n C [(2, .int (0 : Int32)), (0, .ref (a 0)), (1, .int v1)] dX4_load_41 rfl (by decide) rfl ?_
    obtain ⟨nf, h⟩ := h
    refine J_lv [1, 2, 0] rfl ?_
    refine s_X4_load_42 C (fun w_4 h => ?_) nf _ _ h
    · refine J_lv [0, 1] rfl ?_
      exact s_X4_load_64 C h
  · exact J_vret C dX4_load_8 h
theorem c_X4_load {l : Launch} {g : Gd} {a : Nat → Nat} {w : MW} {K : MW → Prop} {v1 : Int32} (h : P_X4_load K w v1) : Kt l yX4_load cX4_load 4 none 3 70 g (sA 12 a) (mCl g a) [.ref (a 0), .int v1] w (QcV g (sA 12 a) (mCl g a) K) :=
  Kt_of (by decide +kernel) (Nat.le_of_ble_eq_true rfl) (fun x hx C => s_X4_load C h)
theorem k_X4_load {x : Mx} {g : Gd} {a : Nat → Nat} {cc : ByteArray} {nL : Nat} {own : String} {ret : Option FieldType} {F L : Nat} {Q : State → Prop} {w : MW} {pc : Nat} {lv : List (Nat × Value)} {st : List Value} (C : Cx x g (sA 12 a) (mCl g a) cc nL own ret F L) {index : Nat} {K : MW → Prop} {v1 : Int32} (h1 : Cond.methodLink own index yX4_load ∈ gT) (hd : decode cc pc = .ok (.invokevirtual index, 3)) (hR : 3 + 1 ≤ F ∧ 8 + (4 + 11) + 70 ≤ L) (hst : (st.map fun v => v.category).sum ≤ 8) (h : P_X4_load K w v1) (k : ∀  (w' : MW), K w' → J x g (sA 12 a) (mCl g a) nL Q w' (pc + 3) lv st) : J x g (sA 12 a) (mCl g a) nL Q w (pc) lv (.int v1 :: .ref (a 0) :: st) :=
  J_callVv C (As := [.int v1]) (b := a 0) (n := 1) (c_X4_load h) h1 mw_518 mw_773 mw_6 mw_519 (by decide +kernel) hR rfl (rc_X4 C) hst hd k
-- X4_isRow (pure, room 1 22)
def P_X4_isRow (K : Int32 → Prop) (w : MW) (v1 : Int32) : Prop := P_X4_in (fun r_1 => vz r_1 ∧ K r_1) v1 (0 : Int32) ((md_rows w) - (1 : Int32))
set_option maxRecDepth 10000 in
theorem s_X4_isRow {x : Mx} {g : Gd} {a : Nat → Nat} (C : Cx x g (sA 12 a) (mCl g a) cX4_isRow 2 RX4 (some .boolean) 1 22) {K : Int32 → Prop} {w : MW}  {v1 : Int32} (h : P_X4_isRow K w v1) : J x g (sA 12 a) (mCl g a) 2 (JQ x (sA 12 a) (QcI g (sA 12 a) (mCl g a) (fun r w' => K r ∧ w' = w))) w 0 [(0, .ref (a 0)), (1, .int v1)] [] := by
  unfold P_X4_isRow at h
  refine J_iload_n C 1 dX4_isRow_0 rfl rfl ?_
  refine J_iconst (v := (0 : Int32)) C dX4_isRow_1 (by decide) ?_
  refine J_aload_n C 0 dX4_isRow_2 rfl rfl ?_
  refine G_md_rows C mw_466 dX4_isRow_3 ?_
  refine J_iconst (v := (1 : Int32)) C dX4_isRow_6 (by decide) ?_
  refine J_isub C dX4_isRow_7 ?_
  refine k_X4_in C mw_500 dX4_isRow_8 ⟨Nat.le_of_ble_eq_true rfl, Nat.le_of_ble_eq_true rfl⟩ (Nat.le_of_ble_eq_true rfl) h (fun r_1 h => ?_)
  exact J_zret C dX4_isRow_11 h.1.1 ⟨h.2, rfl⟩
theorem c_X4_isRow {l : Launch} {g : Gd} {a : Nat → Nat} {w : MW} {K : Int32 → Prop} {v1 : Int32} (h : P_X4_isRow K w v1) : Kt l yX4_isRow cX4_isRow 2 (some .boolean) 1 22 g (sA 12 a) (mCl g a) [.ref (a 0), .int v1] w (QcI g (sA 12 a) (mCl g a) (fun r w' => K r ∧ w' = w)) :=
  Kt_of (by decide +kernel) (Nat.le_of_ble_eq_true rfl) (fun x hx C => s_X4_isRow C h)
theorem k_X4_isRow {x : Mx} {g : Gd} {a : Nat → Nat} {cc : ByteArray} {nL : Nat} {own : String} {ret : Option FieldType} {F L : Nat} {Q : State → Prop} {w : MW} {pc : Nat} {lv : List (Nat × Value)} {st : List Value} (C : Cx x g (sA 12 a) (mCl g a) cc nL own ret F L) {index : Nat} {K : Int32 → Prop} {v1 : Int32} (h1 : Cond.methodLink own index yX4_isRow ∈ gT) (hd : decode cc pc = .ok (.invokevirtual index, 3)) (hR : 1 + 1 ≤ F ∧ 8 + (2 + 11) + 22 ≤ L) (hst : (st.map fun v => v.category).sum ≤ 8) (h : P_X4_isRow K w v1) (k : ∀ (r : Int32), K r → J x g (sA 12 a) (mCl g a) nL Q w (pc + 3) lv (.int r :: st)) : J x g (sA 12 a) (mCl g a) nL Q w (pc) lv (.int v1 :: .ref (a 0) :: st) :=
  J_callVi C (As := [.int v1]) (b := a 0) (n := 1) (c_X4_isRow h) h1 mw_668 mw_799 mw_6 mw_669 (by decide +kernel) hR rfl (rc_X4 C) hst hd (fun r w' hK => by
    obtain ⟨hK, rfl⟩ := hK
    exact k r hK)
-- X4_isPlain (pure, room 3 62)
def P_X4_isPlain_14 (K : Int32 → Prop) (w : MW) (v1 : Int32) : Prop := P_X4_isOdd (fun r_1 => (¬ r_1 = 0 → K (0 : Int32)) ∧ (r_1 = 0 → K (1 : Int32))) w v1
set_option maxRecDepth 10000 in
theorem s_X4_isPlain_14 {x : Mx} {g : Gd} {a : Nat → Nat} (C : Cx x g (sA 12 a) (mCl g a) cX4_isPlain 2 RX4 (some .boolean) 3 62) {K : Int32 → Prop} {w : MW}  {v1 : Int32} (h : P_X4_isPlain_14 K w v1) : J x g (sA 12 a) (mCl g a) 2 (JQ x (sA 12 a) (QcI g (sA 12 a) (mCl g a) (fun r w' => K r ∧ w' = w))) w 14 [(0, .ref (a 0)), (1, .int v1)] [] := by
  unfold P_X4_isPlain_14 at h
  refine J_aload_n C 0 dX4_isPlain_14 rfl rfl ?_
  refine J_iload_n C 1 dX4_isPlain_15 rfl rfl ?_
  refine k_X4_isOdd C mw_544 dX4_isPlain_16 ⟨Nat.le_of_ble_eq_true rfl, Nat.le_of_ble_eq_true rfl⟩ (Nat.le_of_ble_eq_true rfl) h (fun r_1 h => ?_)
  refine J_if_ne (tgt := 26) C dX4_isPlain_19 (by decide) h (fun h => ?_) (fun h => ?_)
  · refine J_iconst (v := (0 : Int32)) C dX4_isPlain_26 (by decide) ?_
    exact J_zret C dX4_isPlain_27 rfl ⟨h, rfl⟩
  · refine J_iconst (v := (1 : Int32)) C dX4_isPlain_22 (by decide) ?_
    refine J_goto (tgt := 27) C dX4_isPlain_23 (by decide) ?_
    exact J_zret C dX4_isPlain_27 rfl ⟨h, rfl⟩
def P_X4_isPlain (K : Int32 → Prop) (w : MW) (v1 : Int32) : Prop := (0 < v1 → P_X4_isPlain_14 K w v1) ∧ (¬ 0 < v1 → P_X4_hasHead (fun r_2 => (¬ r_2 = 0 → K (0 : Int32)) ∧ (r_2 = 0 → P_X4_isPlain_14 K w v1)) (md_loaded w))
set_option maxRecDepth 10000 in
theorem s_X4_isPlain {x : Mx} {g : Gd} {a : Nat → Nat} (C : Cx x g (sA 12 a) (mCl g a) cX4_isPlain 2 RX4 (some .boolean) 3 62) {K : Int32 → Prop} {w : MW}  {v1 : Int32} (h : P_X4_isPlain K w v1) : J x g (sA 12 a) (mCl g a) 2 (JQ x (sA 12 a) (QcI g (sA 12 a) (mCl g a) (fun r w' => K r ∧ w' = w))) w 0 [(0, .ref (a 0)), (1, .int v1)] [] := by
  unfold P_X4_isPlain at h
  refine J_iload_n C 1 dX4_isPlain_0 rfl rfl ?_
  refine J_if_gt (tgt := 14) C dX4_isPlain_1 (by decide) h (fun h => ?_) (fun h => ?_)
  · refine J_lv [0, 1] rfl ?_
    exact s_X4_isPlain_14 C h
  · refine J_aload_n C 0 dX4_isPlain_4 rfl rfl ?_
    refine G_md_loaded C mw_465 dX4_isPlain_5 ?_
    refine k_X4_hasHead C mw_541 dX4_isPlain_8 ⟨Nat.le_of_ble_eq_true rfl, Nat.le_of_ble_eq_true rfl⟩ (Nat.le_of_ble_eq_true rfl) h (fun r_2 h => ?_)
    refine J_if_ne (tgt := 26) C dX4_isPlain_11 (by decide) h (fun h => ?_) (fun h => ?_)
    · refine J_iconst (v := (0 : Int32)) C dX4_isPlain_26 (by decide) ?_
      exact J_zret C dX4_isPlain_27 rfl ⟨h, rfl⟩
    · refine J_lv [0, 1] rfl ?_
      exact s_X4_isPlain_14 C h
theorem c_X4_isPlain {l : Launch} {g : Gd} {a : Nat → Nat} {w : MW} {K : Int32 → Prop} {v1 : Int32} (h : P_X4_isPlain K w v1) : Kt l yX4_isPlain cX4_isPlain 2 (some .boolean) 3 62 g (sA 12 a) (mCl g a) [.ref (a 0), .int v1] w (QcI g (sA 12 a) (mCl g a) (fun r w' => K r ∧ w' = w)) :=
  Kt_of (by decide +kernel) (Nat.le_of_ble_eq_true rfl) (fun x hx C => s_X4_isPlain C h)
theorem k_X4_isPlain {x : Mx} {g : Gd} {a : Nat → Nat} {cc : ByteArray} {nL : Nat} {own : String} {ret : Option FieldType} {F L : Nat} {Q : State → Prop} {w : MW} {pc : Nat} {lv : List (Nat × Value)} {st : List Value} (C : Cx x g (sA 12 a) (mCl g a) cc nL own ret F L) {index : Nat} {K : Int32 → Prop} {v1 : Int32} (h1 : Cond.methodLink own index yX4_isPlain ∈ gT) (hd : decode cc pc = .ok (.invokevirtual index, 3)) (hR : 3 + 1 ≤ F ∧ 8 + (2 + 11) + 62 ≤ L) (hst : (st.map fun v => v.category).sum ≤ 8) (h : P_X4_isPlain K w v1) (k : ∀ (r : Int32), K r → J x g (sA 12 a) (mCl g a) nL Q w (pc + 3) lv (.int r :: st)) : J x g (sA 12 a) (mCl g a) nL Q w (pc) lv (.int v1 :: .ref (a 0) :: st) :=
  J_callVi C (As := [.int v1]) (b := a 0) (n := 1) (c_X4_isPlain h) h1 mw_565 mw_783 mw_6 mw_566 (by decide +kernel) hR rfl (rc_X4 C) hst hd (fun r w' hK => by
    obtain ⟨hK, rfl⟩ := hK
    exact k r hK)
-- X4_isMake (pure, room 1 22)
def P_X4_isMake (K : Int32 → Prop) (v0 : Int32) : Prop := P_X4_in (fun r_1 => vz r_1 ∧ K r_1) v0 (0 : Int32) (23 : Int32)
set_option maxRecDepth 10000 in
theorem s_X4_isMake {x : Mx} {g : Gd} {Wd : Type} {A : Nat → Prop} {cl : Wd → va_W} (C : Cx x g A cl cX4_isMake 1 RX4 (some .boolean) 1 22) {K : Int32 → Prop} {w : Wd}  {v0 : Int32} (h : P_X4_isMake K v0) : J x g A cl 1 (JQ x A (QcI g A cl (fun r w' => K r ∧ w' = w))) w 0 [(0, .int v0)] [] := by
  unfold P_X4_isMake at h
  refine J_iload_n C 0 dX4_isMake_0 rfl rfl ?_
  refine J_iconst (v := (0 : Int32)) C dX4_isMake_1 (by decide) ?_
  refine J_bipush (v := (23 : Int32)) C dX4_isMake_2 (by decide) ?_
  refine k_X4_in C mw_500 dX4_isMake_4 ⟨Nat.le_of_ble_eq_true rfl, Nat.le_of_ble_eq_true rfl⟩ (Nat.le_of_ble_eq_true rfl) h (fun r_1 h => ?_)
  exact J_zret C dX4_isMake_7 h.1.1 ⟨h.2, rfl⟩
theorem c_X4_isMake {l : Launch} {g : Gd} {Wd : Type} {A : Nat → Prop} {cl : Wd → va_W} {w : Wd} {K : Int32 → Prop} {v0 : Int32} (h : P_X4_isMake K v0) : Kt l yX4_isMake cX4_isMake 1 (some .boolean) 1 22 g A cl [.int v0] w (QcI g A cl (fun r w' => K r ∧ w' = w)) :=
  Kt_of (by decide +kernel) (Nat.le_of_ble_eq_true rfl) (fun x hx C => s_X4_isMake C h)
theorem k_X4_isMake {x : Mx} {g : Gd} {Wd : Type} {A : Nat → Prop} {cl : Wd → va_W} {cc : ByteArray} {nL : Nat} {own : String} {ret : Option FieldType} {F L : Nat} {Q : State → Prop} {w : Wd} {pc : Nat} {lv : List (Nat × Value)} {st : List Value} (C : Cx x g A cl cc nL own ret F L) {index : Nat} {K : Int32 → Prop} {v0 : Int32} (h1 : Cond.methodLink own index yX4_isMake ∈ gT) (hd : decode cc pc = .ok (.invokestatic index, 3)) (hR : 1 + 1 ≤ F ∧ 8 + (1 + 11) + 22 ≤ L) (hst : (st.map fun v => v.category).sum ≤ 8) (h : P_X4_isMake K v0) (k : ∀ (r : Int32), K r → J x g A cl nL Q w (pc + 3) lv (.int r :: st)) : J x g A cl nL Q w (pc) lv (.int v0 :: st) :=
  J_callSi C (As := [.int v0]) (n := 1) (c_X4_isMake h) h1 mw_515 mw_6 mw_516 (by decide +kernel) hR rfl hst hd (fun r w' hK => by
    obtain ⟨hK, rfl⟩ := hK
    exact k r hK)
-- X4_reads (changes, room 4 93)
def P_X4_reads (K : Int32 → MW → Prop) (w : MW) (v1 : Int32) : Prop := P_X4_isMake (fun r_1 => (¬ r_1 = 0 → P_X4_load (fun w_2 => K (md_fault w_2) w_2) w v1) ∧ (r_1 = 0 → K (-1 : Int32) w)) v1
set_option maxRecDepth 10000 in
theorem s_X4_reads {x : Mx} {g : Gd} {a : Nat → Nat} (C : Cx x g (sA 12 a) (mCl g a) cX4_reads 2 RX4 (some .int) 4 93) {K : Int32 → MW → Prop}  {w : MW} {v1 : Int32} (h : P_X4_reads K w v1) : J x g (sA 12 a) (mCl g a) 2 (JQ x (sA 12 a) (QcI g (sA 12 a) (mCl g a) K)) w 0 [(0, .ref (a 0)), (1, .int v1)] [] := by
  unfold P_X4_reads at h
  refine J_iload_n C 1 dX4_reads_0 rfl rfl ?_
  refine k_X4_isMake C mw_514 dX4_reads_1 ⟨Nat.le_of_ble_eq_true rfl, Nat.le_of_ble_eq_true rfl⟩ (Nat.le_of_ble_eq_true rfl) h (fun r_1 h => ?_)
  refine J_if_ne (tgt := 9) C dX4_reads_4 (by decide) h (fun h => ?_) (fun h => ?_)
  · refine J_aload_n C 0 dX4_reads_9 rfl rfl ?_
    refine J_iload_n C 1 dX4_reads_10 rfl rfl ?_
    refine k_X4_load C mw_517 dX4_reads_11 ⟨Nat.le_of_ble_eq_true rfl, Nat.le_of_ble_eq_true rfl⟩ (Nat.le_of_ble_eq_true rfl) h (fun w_2 h => ?_)
    refine J_aload_n C 0 dX4_reads_14 rfl rfl ?_
    refine G_md_fault C mw_468 dX4_reads_15 ?_
    exact J_iret C dX4_reads_18 h
  · refine J_iconst (v := (-1 : Int32)) C dX4_reads_7 (by decide) ?_
    exact J_iret C dX4_reads_8 h
theorem c_X4_reads {l : Launch} {g : Gd} {a : Nat → Nat} {w : MW} {K : Int32 → MW → Prop} {v1 : Int32} (h : P_X4_reads K w v1) : Kt l yX4_reads cX4_reads 2 (some .int) 4 93 g (sA 12 a) (mCl g a) [.ref (a 0), .int v1] w (QcI g (sA 12 a) (mCl g a) K) :=
  Kt_of (by decide +kernel) (Nat.le_of_ble_eq_true rfl) (fun x hx C => s_X4_reads C h)
theorem k_X4_reads {x : Mx} {g : Gd} {a : Nat → Nat} {cc : ByteArray} {nL : Nat} {own : String} {ret : Option FieldType} {F L : Nat} {Q : State → Prop} {w : MW} {pc : Nat} {lv : List (Nat × Value)} {st : List Value} (C : Cx x g (sA 12 a) (mCl g a) cc nL own ret F L) {index : Nat} {K : Int32 → MW → Prop} {v1 : Int32} (h1 : Cond.methodLink own index yX4_reads ∈ gT) (hd : decode cc pc = .ok (.invokevirtual index, 3)) (hR : 4 + 1 ≤ F ∧ 8 + (2 + 11) + 93 ≤ L) (hst : (st.map fun v => v.category).sum ≤ 8) (h : P_X4_reads K w v1) (k : ∀ (r : Int32) (w' : MW), K r w' → J x g (sA 12 a) (mCl g a) nL Q w' (pc + 3) lv (.int r :: st)) : J x g (sA 12 a) (mCl g a) nL Q w (pc) lv (.int v1 :: .ref (a 0) :: st) :=
  J_callVi C (As := [.int v1]) (b := a 0) (n := 1) (c_X4_reads h) h1 mw_511 mw_512 mw_6 mw_513 (by decide +kernel) hR rfl (rc_X4 C) hst hd k
-- X4_faultAt (changes, room 4 93)
def P_X4_faultAt (K : Int32 → MW → Prop) (w : MW) (v1 : Int32) : Prop := P_X4_isMake (fun r_1 => (¬ r_1 = 0 → P_X4_load (fun w_2 => K (md_faultPlace w_2) w_2) w v1) ∧ (r_1 = 0 → K (-1 : Int32) w)) v1
set_option maxRecDepth 10000 in
theorem s_X4_faultAt {x : Mx} {g : Gd} {a : Nat → Nat} (C : Cx x g (sA 12 a) (mCl g a) cX4_faultAt 2 RX4 (some .int) 4 93) {K : Int32 → MW → Prop}  {w : MW} {v1 : Int32} (h : P_X4_faultAt K w v1) : J x g (sA 12 a) (mCl g a) 2 (JQ x (sA 12 a) (QcI g (sA 12 a) (mCl g a) K)) w 0 [(0, .ref (a 0)), (1, .int v1)] [] := by
  unfold P_X4_faultAt at h
  refine J_iload_n C 1 dX4_faultAt_0 rfl rfl ?_
  refine k_X4_isMake C mw_514 dX4_faultAt_1 ⟨Nat.le_of_ble_eq_true rfl, Nat.le_of_ble_eq_true rfl⟩ (Nat.le_of_ble_eq_true rfl) h (fun r_1 h => ?_)
  refine J_if_ne (tgt := 9) C dX4_faultAt_4 (by decide) h (fun h => ?_) (fun h => ?_)
  · refine J_aload_n C 0 dX4_faultAt_9 rfl rfl ?_
    refine J_iload_n C 1 dX4_faultAt_10 rfl rfl ?_
    refine k_X4_load C mw_517 dX4_faultAt_11 ⟨Nat.le_of_ble_eq_true rfl, Nat.le_of_ble_eq_true rfl⟩ (Nat.le_of_ble_eq_true rfl) h (fun w_2 h => ?_)
    refine J_aload_n C 0 dX4_faultAt_14 rfl rfl ?_
    refine G_md_faultPlace C mw_469 dX4_faultAt_15 ?_
    exact J_iret C dX4_faultAt_18 h
  · refine J_iconst (v := (-1 : Int32)) C dX4_faultAt_7 (by decide) ?_
    exact J_iret C dX4_faultAt_8 h
theorem c_X4_faultAt {l : Launch} {g : Gd} {a : Nat → Nat} {w : MW} {K : Int32 → MW → Prop} {v1 : Int32} (h : P_X4_faultAt K w v1) : Kt l yX4_faultAt cX4_faultAt 2 (some .int) 4 93 g (sA 12 a) (mCl g a) [.ref (a 0), .int v1] w (QcI g (sA 12 a) (mCl g a) K) :=
  Kt_of (by decide +kernel) (Nat.le_of_ble_eq_true rfl) (fun x hx C => s_X4_faultAt C h)
theorem k_X4_faultAt {x : Mx} {g : Gd} {a : Nat → Nat} {cc : ByteArray} {nL : Nat} {own : String} {ret : Option FieldType} {F L : Nat} {Q : State → Prop} {w : MW} {pc : Nat} {lv : List (Nat × Value)} {st : List Value} (C : Cx x g (sA 12 a) (mCl g a) cc nL own ret F L) {index : Nat} {K : Int32 → MW → Prop} {v1 : Int32} (h1 : Cond.methodLink own index yX4_faultAt ∈ gT) (hd : decode cc pc = .ok (.invokevirtual index, 3)) (hR : 4 + 1 ≤ F ∧ 8 + (2 + 11) + 93 ≤ L) (hst : (st.map fun v => v.category).sum ≤ 8) (h : P_X4_faultAt K w v1) (k : ∀ (r : Int32) (w' : MW), K r w' → J x g (sA 12 a) (mCl g a) nL Q w' (pc + 3) lv (.int r :: st)) : J x g (sA 12 a) (mCl g a) nL Q w (pc) lv (.int v1 :: .ref (a 0) :: st) :=
  J_callVi C (As := [.int v1]) (b := a 0) (n := 1) (c_X4_faultAt h) h1 mw_554 mw_555 mw_6 mw_556 (by decide +kernel) hR rfl (rc_X4 C) hst hd k
-- X4_byteOf (pure, room 0 0)
def P_X4_byteOf (K : Int32 → Prop) (w : MW) (v1 : Int32) (v2 : Int32) : Prop := vp_in v1 960 ∧ (vp_in ((md_cellFrom w v1.toNatClampNeg) + v2) 1200 ∧ (K ((md_bytes w ((md_cellFrom w v1.toNatClampNeg) + v2).toNatClampNeg) &&& (255 : Int32))))
set_option maxRecDepth 10000 in
theorem s_X4_byteOf {x : Mx} {g : Gd} {a : Nat → Nat} (C : Cx x g (sA 12 a) (mCl g a) cX4_byteOf 3 RX4 (some .int) 0 0) {K : Int32 → Prop} {w : MW}  {v1 : Int32} {v2 : Int32} (h : P_X4_byteOf K w v1 v2) : J x g (sA 12 a) (mCl g a) 3 (JQ x (sA 12 a) (QcI g (sA 12 a) (mCl g a) (fun r w' => K r ∧ w' = w))) w 0 [(0, .ref (a 0)), (1, .int v1), (2, .int v2)] [] := by
  unfold P_X4_byteOf at h
  refine J_aload_n C 0 dX4_byteOf_0 rfl rfl ?_
  refine G_md_bytes C mw_474 dX4_byteOf_1 ?_
  refine J_aload_n C 0 dX4_byteOf_4 rfl rfl ?_
  refine G_md_cellFrom C mw_472 dX4_byteOf_5 ?_
  refine J_iload_n C 1 dX4_byteOf_8 rfl rfl ?_
  refine L_md_cellFrom C dX4_byteOf_9 h (fun h => ?_)
  refine J_iload_n C 2 dX4_byteOf_10 rfl rfl ?_
  refine J_iadd C dX4_byteOf_11 ?_
  refine L_md_bytes C dX4_byteOf_12 h (fun h => ?_)
  refine J_sipush (v := (255 : Int32)) C dX4_byteOf_13 (by decide) ?_
  refine J_iand C dX4_byteOf_16 ?_
  exact J_iret C dX4_byteOf_17 ⟨h, rfl⟩
theorem c_X4_byteOf {l : Launch} {g : Gd} {a : Nat → Nat} {w : MW} {K : Int32 → Prop} {v1 : Int32} {v2 : Int32} (h : P_X4_byteOf K w v1 v2) : Kt l yX4_byteOf cX4_byteOf 3 (some .int) 0 0 g (sA 12 a) (mCl g a) [.ref (a 0), .int v1, .int v2] w (QcI g (sA 12 a) (mCl g a) (fun r w' => K r ∧ w' = w)) :=
  Kt_of (by decide +kernel) (Nat.le_of_ble_eq_true rfl) (fun x hx C => s_X4_byteOf C h)
theorem k_X4_byteOf {x : Mx} {g : Gd} {a : Nat → Nat} {cc : ByteArray} {nL : Nat} {own : String} {ret : Option FieldType} {F L : Nat} {Q : State → Prop} {w : MW} {pc : Nat} {lv : List (Nat × Value)} {st : List Value} (C : Cx x g (sA 12 a) (mCl g a) cc nL own ret F L) {index : Nat} {K : Int32 → Prop} {v1 : Int32} {v2 : Int32} (h1 : Cond.methodLink own index yX4_byteOf ∈ gT) (hd : decode cc pc = .ok (.invokevirtual index, 3)) (hR : 0 + 1 ≤ F ∧ 8 + (3 + 11) + 0 ≤ L) (hst : (st.map fun v => v.category).sum ≤ 8) (h : P_X4_byteOf K w v1 v2) (k : ∀ (r : Int32), K r → J x g (sA 12 a) (mCl g a) nL Q w (pc + 3) lv (.int r :: st)) : J x g (sA 12 a) (mCl g a) nL Q w (pc) lv (.int v2 :: .int v1 :: .ref (a 0) :: st) :=
  J_callVi C (As := [.int v1, .int v2]) (b := a 0) (n := 2) (c_X4_byteOf h) h1 mw_584 mw_789 mw_6 mw_585 (by decide +kernel) hR rfl (rc_X4 C) hst hd (fun r w' hK => by
    obtain ⟨hK, rfl⟩ := hK
    exact k r hK)
-- X4_isDigit (pure, room 0 0)
def P_X4_isDigit (K : Int32 → Prop) (v0 : Int32) : Prop := (v0 < (48 : Int32) → K (0 : Int32)) ∧ (¬ v0 < (48 : Int32) → ((57 : Int32) < v0 → K (0 : Int32)) ∧ (¬ (57 : Int32) < v0 → K (1 : Int32)))
set_option maxRecDepth 10000 in
theorem s_X4_isDigit {x : Mx} {g : Gd} {Wd : Type} {A : Nat → Prop} {cl : Wd → va_W} (C : Cx x g A cl cX4_isDigit 1 RX4 (some .boolean) 0 0) {K : Int32 → Prop} {w : Wd}  {v0 : Int32} (h : P_X4_isDigit K v0) : J x g A cl 1 (JQ x A (QcI g A cl (fun r w' => K r ∧ w' = w))) w 0 [(0, .int v0)] [] := by
  unfold P_X4_isDigit at h
  refine J_iload_n C 0 dX4_isDigit_0 rfl rfl ?_
  refine J_bipush (v := (48 : Int32)) C dX4_isDigit_1 (by decide) ?_
  refine J_icmp_lt (tgt := 16) C dX4_isDigit_3 (by decide) h (fun h => ?_) (fun h => ?_)
  · refine J_iconst (v := (0 : Int32)) C dX4_isDigit_16 (by decide) ?_
    exact J_zret C dX4_isDigit_17 rfl ⟨h, rfl⟩
  · refine J_iload_n C 0 dX4_isDigit_6 rfl rfl ?_
    refine J_bipush (v := (57 : Int32)) C dX4_isDigit_7 (by decide) ?_
    refine J_icmp_gt (tgt := 16) C dX4_isDigit_9 (by decide) h (fun h => ?_) (fun h => ?_)
    · refine J_iconst (v := (0 : Int32)) C dX4_isDigit_16 (by decide) ?_
      exact J_zret C dX4_isDigit_17 rfl ⟨h, rfl⟩
    · refine J_iconst (v := (1 : Int32)) C dX4_isDigit_12 (by decide) ?_
      refine J_goto (tgt := 17) C dX4_isDigit_13 (by decide) ?_
      exact J_zret C dX4_isDigit_17 rfl ⟨h, rfl⟩
theorem c_X4_isDigit {l : Launch} {g : Gd} {Wd : Type} {A : Nat → Prop} {cl : Wd → va_W} {w : Wd} {K : Int32 → Prop} {v0 : Int32} (h : P_X4_isDigit K v0) : Kt l yX4_isDigit cX4_isDigit 1 (some .boolean) 0 0 g A cl [.int v0] w (QcI g A cl (fun r w' => K r ∧ w' = w)) :=
  Kt_of (by decide +kernel) (Nat.le_of_ble_eq_true rfl) (fun x hx C => s_X4_isDigit C h)
theorem k_X4_isDigit {x : Mx} {g : Gd} {Wd : Type} {A : Nat → Prop} {cl : Wd → va_W} {cc : ByteArray} {nL : Nat} {own : String} {ret : Option FieldType} {F L : Nat} {Q : State → Prop} {w : Wd} {pc : Nat} {lv : List (Nat × Value)} {st : List Value} (C : Cx x g A cl cc nL own ret F L) {index : Nat} {K : Int32 → Prop} {v0 : Int32} (h1 : Cond.methodLink own index yX4_isDigit ∈ gT) (hd : decode cc pc = .ok (.invokestatic index, 3)) (hR : 0 + 1 ≤ F ∧ 8 + (1 + 11) + 0 ≤ L) (hst : (st.map fun v => v.category).sum ≤ 8) (h : P_X4_isDigit K v0) (k : ∀ (r : Int32), K r → J x g A cl nL Q w (pc + 3) lv (.int r :: st)) : J x g A cl nL Q w (pc) lv (.int v0 :: st) :=
  J_callSi C (As := [.int v0]) (n := 1) (c_X4_isDigit h) h1 mw_609 mw_6 mw_610 (by decide +kernel) hR rfl hst hd (fun r w' hK => by
    obtain ⟨hK, rfl⟩ := hK
    exact k r hK)
