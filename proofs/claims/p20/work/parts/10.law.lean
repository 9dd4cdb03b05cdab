def lCl (g : Gd) (a b : Nat → Nat) (w : XW × MW) : va_W := xCl g a w.1 ++ mCl g b w.2
theorem va_P_l {D : va_G} {cl : List vw_C} {l1 l2 : va_W} {H : Heap} (h : va_P D cl (l1 ++ l2) H) : va_P D cl l1 H := fun k q hk => h k q (by rw [List.getElem?_append_left (List.getElem?_eq_some_iff.mp hk).1]; exact hk)
theorem va_P_r {D : va_G} {cl : List vw_C} {l1 l2 : va_W} {H : Heap} (h : va_P D cl (l1 ++ l2) H) : va_P D cl l2 H := fun k q hk => h (l1.length + k) q (by rw [List.getElem?_append_right (Nat.le_add_right _ _), Nat.add_sub_cancel_left]; exact hk)
theorem va_P_lr {D : va_G} {cl : List vw_C} {l1 l2 : va_W} {H : Heap} (h1 : va_P D cl l1 H) (h2 : va_P D cl l2 H) : va_P D cl (l1 ++ l2) H := by
  intro k q hk
  rcases Nat.lt_or_ge k l1.length with e | e
  · rw [List.getElem?_append_left e] at hk
    exact h1 k q hk
  · rw [List.getElem?_append_right e] at hk
    exact h2 _ q hk
theorem va_P_kept {D : va_G} {cl : List vw_C} {ws : va_W} {H H1 : Heap} (h : va_P D cl ws H) (hk : ∀ (k : Nat) (x : Nat × va_E), ws[k]? = some x → H1[x.1]? = H[x.1]?) : va_P D cl ws H1 := h.kept hk
/-- the places of the model's world lie at b 0 .. b 11, those of the class' at a 0 .. a 14 -/
theorem mCl_ad {g : Gd} {b : Nat → Nat} {w : MW} {k : Nat} {q : Nat × va_E} (h : (mCl g b w)[k]? = some q) : ∃ j, j < 12 ∧ q.1 = b j := by
  have hk : k < 12 := (List.getElem?_eq_some_iff.mp h).1
  refine ⟨k, hk, ?_⟩
  match k, hk, h with
  | 0, _, h => cases h; rfl
  | 1, _, h => cases h; rfl
  | 2, _, h => cases h; rfl
  | 3, _, h => cases h; rfl
  | 4, _, h => cases h; rfl
  | 5, _, h => cases h; rfl
  | 6, _, h => cases h; rfl
  | 7, _, h => cases h; rfl
  | 8, _, h => cases h; rfl
  | 9, _, h => cases h; rfl
  | 10, _, h => cases h; rfl
  | 11, _, h => cases h; rfl
  | k + 12, hk, _ => exact absurd hk (by omega)
theorem xCl_ad {g : Gd} {a : Nat → Nat} {w : XW} {k : Nat} {q : Nat × va_E} (h : (xCl g a w)[k]? = some q) : ∃ j, j < 15 ∧ q.1 = a j := by
  have hk : k < 15 := (List.getElem?_eq_some_iff.mp h).1
  refine ⟨k, hk, ?_⟩
  match k, hk, h with
  | 0, _, h => cases h; rfl
  | 1, _, h => cases h; rfl
  | 2, _, h => cases h; rfl
  | 3, _, h => cases h; rfl
  | 4, _, h => cases h; rfl
  | 5, _, h => cases h; rfl
  | 6, _, h => cases h; rfl
  | 7, _, h => cases h; rfl
  | 8, _, h => cases h; rfl
  | 9, _, h => cases h; rfl
  | 10, _, h => cases h; rfl
  | 11, _, h => cases h; rfl
  | 12, _, h => cases h; rfl
  | 13, _, h => cases h; rfl
  | 14, _, h => cases h; rfl
  | k + 15, hk, _ => exact absurd hk (by omega)
abbrev lA (x : Mx) : Nat → Prop := fun q => x.2.2.2.2.1.heap.size ≤ q
/-- what holds throughout the law's body -/
def Lx (x : Mx) (g : Gd) (a b : Nat → Nat) (b0 Ln : Nat) (xs : Nat → Int32) : Prop :=
  Cx x g (lA x) (lCl g a b) code 4 RL ret 15 586 ∧ (∀ k, k < 15 → lA x (a k)) ∧ (∀ k, k < 12 → lA x (b k)) ∧ (∀ i, i < 15 → ∀ j, j < 12 → a i ≠ b j) ∧ (∀ w', va_D (sA 15 a) (xCl g a w')) ∧ (∀ w', va_D (sA 12 b) (mCl g b w')) ∧
  va_X b0 Ln xs x.2.2.2.2.1 x.2.2.2.2.1.heap ∧ b0 < x.2.2.2.2.1.heap.size ∧ x.2.2.2.1 = room_1 ∧ x.2.2.2.2.2.2.1 = #[Value.ref b0] ∧ x.2.2.2.2.2.2.2.2.2.2.1 = 27 ∧ x.2.2.2.2.2.2.2.2.2.2.2 = 9019
abbrev lQ (x : Mx) : State → Prop := lw_Z x.2.2.2.2.2.2.2.1 x.2.2.2.2.2.2.1 x.2.2.2.2.1
section
variable {x : Mx} {g : Gd} {a b : Nat → Nat} {b0 Ln : Nat} {xs : Nat → Int32} {pc : Nat} {lv : List (Nat × Value)} {st : List Value} {xw : XW} {mw : MW} {Q : State → Prop} {w : XW × MW}
theorem JL_sld (C : Lx x g a b b0 Ln xs) {i : Int32} {X : Prop} (hd : decode code pc = .ok (.iaload, 1)) (h : vp_in i Ln ∧ X) (k : X → J x g (lA x) (lCl g a b) 4 Q w (pc + 1) lv (.int (xs i.toNatClampNeg) :: st)) : J x g (lA x) (lCl g a b) 4 Q w pc lv (.int i :: .ref b0 :: st) := by
  obtain ⟨C, h1, h2, h3, h4, h5, hX, hbl, -⟩ := C
  exact fun ls H locs hl hP hS => va_sld C.1 C.2.1 hX hbl (Nat.not_le.mpr hbl) hS h.1 hd (k h.2 ls H locs hl hP hS)
theorem JL_slen (C : Lx x g a b b0 Ln xs) (hd : decode code pc = .ok (.arraylength, 1)) (k : J x g (lA x) (lCl g a b) 4 Q w (pc + 1) lv (.int (nI Ln) :: st)) : J x g (lA x) (lCl g a b) 4 Q w pc lv (.ref b0 :: st) := by
  obtain ⟨C, h1, h2, h3, h4, h5, hX, hbl, -⟩ := C
  exact fun ls H locs hl hP hS => va_slen C.1 C.2.1 hX hbl (Nat.not_le.mpr hbl) hS hd (k ls H locs hl hP hS)
theorem JL_ret (C : Lx x g a b b0 Ln xs) (hd : decode code pc = .ok (.ireturn, 1)) : J x g (lA x) (lCl g a b) 4 (lQ x) w pc lv [.int 1] := by
  obtain ⟨p, l, e, R, s, m, args, below, meth, c, n1, n2⟩ := x
  obtain ⟨C, -, -, -, -, -, -, -, hR, hA, h1, h2⟩ := C
  dsimp only at hR hA h1 h2
  subst hR; subst hA; subst h1; subst h2
  intro ls H locs hl hP hS
  refine va_forget (fun q hq => hS.2.2 q hq) ?_
  exact lw_ret C.1 C.2.1 C.2.2.2.2.2.2.2.2.2.1 C.2.2.2.2.2.2.2.2.1 hd
theorem Wo_lawX (C : Lx x g a b b0 Ln xs) {H : Heap} {locs : List Loc} (hP : va_P g.1 vwCl (lCl g a b (xw, mw)) H) (hS : va_S (lA x) x.2.2.2.2.1.heap H locs) {U : State} (hU : U.heap = H) (hW : x.2.2.2.2.1.WarmedH U.vm) : Wo g (sA 15 a) (xCl g a) xw U := by
  obtain ⟨C, h1, h2, h3, h4, h5, -⟩ := C
  refine ⟨by rw [hU]; exact va_P_l hP, va_K.moved hW.alike C.2.2.2.2.2.1, h4, ?_⟩
  rw [hU]
  exact ((C.2.2.2.2.2.2.2.1.kept hS.2.1).narrow (fun q hq => by obtain ⟨k, hk, rfl⟩ := hq; exact h1 k hk)).warm hW
theorem Wo_lawM (C : Lx x g a b b0 Ln xs) {H : Heap} {locs : List Loc} (hP : va_P g.1 vwCl (lCl g a b (xw, mw)) H) (hS : va_S (lA x) x.2.2.2.2.1.heap H locs) {U : State} (hU : U.heap = H) (hW : x.2.2.2.2.1.WarmedH U.vm) : Wo g (sA 12 b) (mCl g b) mw U := by
  obtain ⟨C, h1, h2, h3, h4, h5, -⟩ := C
  refine ⟨by rw [hU]; exact va_P_r hP, va_K.moved hW.alike C.2.2.2.2.2.1, h5, ?_⟩
  rw [hU]
  exact ((C.2.2.2.2.2.2.2.1.kept hS.2.1).narrow (fun q hq => by obtain ⟨k, hk, rfl⟩ := hq; exact h2 k hk)).warm hW
theorem bk_X (C : Lx x g a b b0 Ln xs) {H H1 : Heap} {xw' : XW} (hP : va_P g.1 vwCl (lCl g a b (xw, mw)) H) (hB : va_P g.1 vwCl (xCl g a xw') H1) (hk : ∀ q : Nat, q < H.size → ¬ sA 15 a q → H1[q]? = H[q]?) : va_P g.1 vwCl (lCl g a b (xw', mw)) H1 := by
  obtain ⟨C, h1, h2, h3, h4, h5, -⟩ := C
  have hPm := va_P_r hP
  refine va_P_lr hB (va_P_kept hPm (fun k q hq => hk q.1 ((hPm k q hq).lt) (fun h => ?_)))
  obtain ⟨j, hj, e⟩ := mCl_ad hq
  obtain ⟨i, hi, e2⟩ := h
  exact h3 i hi j hj (by rw [← e, ← e2])
theorem bk_M (C : Lx x g a b b0 Ln xs) {H H1 : Heap} {mw' : MW} (hP : va_P g.1 vwCl (lCl g a b (xw, mw)) H) (hB : va_P g.1 vwCl (mCl g b mw') H1) (hk : ∀ q : Nat, q < H.size → ¬ sA 12 b q → H1[q]? = H[q]?) : va_P g.1 vwCl (lCl g a b (xw, mw')) H1 := by
  obtain ⟨C, h1, h2, h3, h4, h5, -⟩ := C
  have hPm := va_P_l hP
  refine va_P_lr (va_P_kept hPm (fun k q hq => hk q.1 ((hPm k q hq).lt) (fun h => ?_))) hB
  obtain ⟨j, hj, e⟩ := xCl_ad hq
  obtain ⟨i, hi, e2⟩ := h
  exact h3 j hj i hi (by rw [← e, ← e2])
theorem JL_callXi (C : Lx x g a b b0 Ln xs) {y : MethodName} {bytes : ByteArray} {maxL : Nat} {rt : Option FieldType} {F1 L1 index n : Nat} {As : List Value} {K : Int32 → XW → Prop} (hM : Kt x.2.1 y bytes maxL rt F1 L1 g (sA 15 a) (xCl g a) (.ref (a 0) :: As) xw (QcI g (sA 15 a) (xCl g a) K)) (h1 : Cond.methodLink RL index y ∈ gT) (h2 : Cond.instanceMethod y ∈ gT) (h3 : Cond.selects y.cls y y ∈ gT) (h4 : Cond.initialized y.cls ∈ gT) (h5 : Cond.code y bytes maxL rt ∈ gT) (hy : y.cls ≠ "java/lang/invoke/MethodHandle" ∧ y.cls ≠ "java/lang/invoke/VarHandle" ∧ (parseMethodDescriptor y.desc).map (fun d => d.parameters.length) = some n) (hR : F1 + 1 ≤ 15 ∧ 8 + (maxL + 11) + L1 ≤ 586) (hn : As.length = n) (hc : y.cls = RX3) (hst : (st.map fun v => v.category).sum ≤ 8) (hd : decode code pc = .ok (.invokevirtual index, 3)) (k : ∀ (r : Int32) (w' : XW), K r w' → J x g (lA x) (lCl g a b) 4 Q (w', mw) (pc + 3) lv (.int r :: st)) : J x g (lA x) (lCl g a b) 4 Q (xw, mw) pc lv (As.reverse ++ .ref (a 0) :: st) := by
  intro ls H locs hl hP hS
  have C0 := C.1
  refine va_calli (va_runV (As := As) (rest := st) (b := a 0) ⟨C0.1, C0.2.1, C0.2.2.1, C0.2.2.2.1, C0.2.2.2.2.1⟩ hM (cwV n C0.2.2.2.2.1 (gin_V h1 h2 h3 h4 h5) rfl rfl rfl ⟨rfl, hy⟩ ⟨Nat.le_trans hR.1 C0.2.2.2.2.2.2.2.2.2.2.1, Nat.le_trans hR.2 C0.2.2.2.2.2.2.2.2.2.2.2.1⟩) ⟨Wo_blind, by rw [hc]; exact va_recv C0.2.2.2.2.2.1 (va_P_l hP) (ci := 3) (q0 := 0) rfl rfl, fun U hU hW => ⟨rfl, Wo_lawX C hP hS hU hW⟩⟩ rfl hn hl.1 rfl (lv_room hst) hd ⟨C0.2.2.2.2.2.2.2.2.2.2.2.2.1, C0.2.2.2.2.2.2.2.2.2.2.2.2.2⟩) hS (fun q _ h => by obtain ⟨k, hk, rfl⟩ := h; exact C.2.1 k hk) (fun q h => by obtain ⟨k, hk, rfl⟩ := h; exact C.2.1 k hk) ?_
  exact fun r u t H1 locs1 ht _ hK hB _ hk hS1 => k r u hK ls H1 locs1 hl (bk_X C hP (ht ▸ hB) hk) hS1
theorem JL_callXl (C : Lx x g a b b0 Ln xs) {y : MethodName} {bytes : ByteArray} {maxL : Nat} {rt : Option FieldType} {F1 L1 index n : Nat} {As : List Value} {K : Int64 → XW → Prop} (hM : Kt x.2.1 y bytes maxL rt F1 L1 g (sA 15 a) (xCl g a) (.ref (a 0) :: As) xw (QcL g (sA 15 a) (xCl g a) K)) (h1 : Cond.methodLink RL index y ∈ gT) (h2 : Cond.instanceMethod y ∈ gT) (h3 : Cond.selects y.cls y y ∈ gT) (h4 : Cond.initialized y.cls ∈ gT) (h5 : Cond.code y bytes maxL rt ∈ gT) (hy : y.cls ≠ "java/lang/invoke/MethodHandle" ∧ y.cls ≠ "java/lang/invoke/VarHandle" ∧ (parseMethodDescriptor y.desc).map (fun d => d.parameters.length) = some n) (hR : F1 + 1 ≤ 15 ∧ 8 + (maxL + 11) + L1 ≤ 586) (hn : As.length = n) (hc : y.cls = RX3) (hst : (st.map fun v => v.category).sum ≤ 8) (hd : decode code pc = .ok (.invokevirtual index, 3)) (k : ∀ (r : Int64) (w' : XW), K r w' → J x g (lA x) (lCl g a b) 4 Q (w', mw) (pc + 3) lv (.long r :: st)) : J x g (lA x) (lCl g a b) 4 Q (xw, mw) pc lv (As.reverse ++ .ref (a 0) :: st) := by
  intro ls H locs hl hP hS
  have C0 := C.1
  refine va_calll (va_runV (As := As) (rest := st) (b := a 0) ⟨C0.1, C0.2.1, C0.2.2.1, C0.2.2.2.1, C0.2.2.2.2.1⟩ hM (cwV n C0.2.2.2.2.1 (gin_V h1 h2 h3 h4 h5) rfl rfl rfl ⟨rfl, hy⟩ ⟨Nat.le_trans hR.1 C0.2.2.2.2.2.2.2.2.2.2.1, Nat.le_trans hR.2 C0.2.2.2.2.2.2.2.2.2.2.2.1⟩) ⟨Wo_blind, by rw [hc]; exact va_recv C0.2.2.2.2.2.1 (va_P_l hP) (ci := 3) (q0 := 0) rfl rfl, fun U hU hW => ⟨rfl, Wo_lawX C hP hS hU hW⟩⟩ rfl hn hl.1 rfl (lv_room hst) hd ⟨C0.2.2.2.2.2.2.2.2.2.2.2.2.1, C0.2.2.2.2.2.2.2.2.2.2.2.2.2⟩) hS (fun q _ h => by obtain ⟨k, hk, rfl⟩ := h; exact C.2.1 k hk) (fun q h => by obtain ⟨k, hk, rfl⟩ := h; exact C.2.1 k hk) ?_
  exact fun r u t H1 locs1 ht _ hK hB _ hk hS1 => k r u hK ls H1 locs1 hl (bk_X C hP (ht ▸ hB) hk) hS1
theorem JL_callXv (C : Lx x g a b b0 Ln xs) {y : MethodName} {bytes : ByteArray} {maxL : Nat} {rt : Option FieldType} {F1 L1 index n : Nat} {As : List Value} {K : XW → Prop} (hM : Kt x.2.1 y bytes maxL rt F1 L1 g (sA 15 a) (xCl g a) (.ref (a 0) :: As) xw (QcV g (sA 15 a) (xCl g a) K)) (h1 : Cond.methodLink RL index y ∈ gT) (h2 : Cond.instanceMethod y ∈ gT) (h3 : Cond.selects y.cls y y ∈ gT) (h4 : Cond.initialized y.cls ∈ gT) (h5 : Cond.code y bytes maxL rt ∈ gT) (hy : y.cls ≠ "java/lang/invoke/MethodHandle" ∧ y.cls ≠ "java/lang/invoke/VarHandle" ∧ (parseMethodDescriptor y.desc).map (fun d => d.parameters.length) = some n) (hR : F1 + 1 ≤ 15 ∧ 8 + (maxL + 11) + L1 ≤ 586) (hn : As.length = n) (hc : y.cls = RX3) (hst : (st.map fun v => v.category).sum ≤ 8) (hd : decode code pc = .ok (.invokevirtual index, 3)) (k : ∀ (w' : XW), K w' → J x g (lA x) (lCl g a b) 4 Q (w', mw) (pc + 3) lv st) : J x g (lA x) (lCl g a b) 4 Q (xw, mw) pc lv (As.reverse ++ .ref (a 0) :: st) := by
  intro ls H locs hl hP hS
  have C0 := C.1
  refine va_callv (va_runV (As := As) (rest := st) (b := a 0) ⟨C0.1, C0.2.1, C0.2.2.1, C0.2.2.2.1, C0.2.2.2.2.1⟩ hM (cwV n C0.2.2.2.2.1 (gin_V h1 h2 h3 h4 h5) rfl rfl rfl ⟨rfl, hy⟩ ⟨Nat.le_trans hR.1 C0.2.2.2.2.2.2.2.2.2.2.1, Nat.le_trans hR.2 C0.2.2.2.2.2.2.2.2.2.2.2.1⟩) ⟨Wo_blind, by rw [hc]; exact va_recv C0.2.2.2.2.2.1 (va_P_l hP) (ci := 3) (q0 := 0) rfl rfl, fun U hU hW => ⟨rfl, Wo_lawX C hP hS hU hW⟩⟩ rfl hn hl.1 rfl (lv_room hst) hd ⟨C0.2.2.2.2.2.2.2.2.2.2.2.2.1, C0.2.2.2.2.2.2.2.2.2.2.2.2.2⟩) hS (fun q _ h => by obtain ⟨k, hk, rfl⟩ := h; exact C.2.1 k hk) (fun q h => by obtain ⟨k, hk, rfl⟩ := h; exact C.2.1 k hk) ?_
  exact fun u t H1 locs1 ht _ hK hB _ hk hS1 => k u hK ls H1 locs1 hl (bk_X C hP (ht ▸ hB) hk) hS1
theorem JL_callMi (C : Lx x g a b b0 Ln xs) {y : MethodName} {bytes : ByteArray} {maxL : Nat} {rt : Option FieldType} {F1 L1 index n : Nat} {As : List Value} {K : Int32 → MW → Prop} (hM : Kt x.2.1 y bytes maxL rt F1 L1 g (sA 12 b) (mCl g b) (.ref (b 0) :: As) mw (QcI g (sA 12 b) (mCl g b) K)) (h1 : Cond.methodLink RL index y ∈ gT) (h2 : Cond.instanceMethod y ∈ gT) (h3 : Cond.selects y.cls y y ∈ gT) (h4 : Cond.initialized y.cls ∈ gT) (h5 : Cond.code y bytes maxL rt ∈ gT) (hy : y.cls ≠ "java/lang/invoke/MethodHandle" ∧ y.cls ≠ "java/lang/invoke/VarHandle" ∧ (parseMethodDescriptor y.desc).map (fun d => d.parameters.length) = some n) (hR : F1 + 1 ≤ 15 ∧ 8 + (maxL + 11) + L1 ≤ 586) (hn : As.length = n) (hc : y.cls = RX4) (hst : (st.map fun v => v.category).sum ≤ 8) (hd : decode code pc = .ok (.invokevirtual index, 3)) (k : ∀ (r : Int32) (w' : MW), K r w' → J x g (lA x) (lCl g a b) 4 Q (xw, w') (pc + 3) lv (.int r :: st)) : J x g (lA x) (lCl g a b) 4 Q (xw, mw) pc lv (As.reverse ++ .ref (b 0) :: st) := by
  intro ls H locs hl hP hS
  have C0 := C.1
  refine va_calli (va_runV (As := As) (rest := st) (b := b 0) ⟨C0.1, C0.2.1, C0.2.2.1, C0.2.2.2.1, C0.2.2.2.2.1⟩ hM (cwV n C0.2.2.2.2.1 (gin_V h1 h2 h3 h4 h5) rfl rfl rfl ⟨rfl, hy⟩ ⟨Nat.le_trans hR.1 C0.2.2.2.2.2.2.2.2.2.2.1, Nat.le_trans hR.2 C0.2.2.2.2.2.2.2.2.2.2.2.1⟩) ⟨Wo_blind, by rw [hc]; exact va_recv C0.2.2.2.2.2.1 (va_P_r hP) (ci := 4) (q0 := 0) rfl rfl, fun U hU hW => ⟨rfl, Wo_lawM C hP hS hU hW⟩⟩ rfl hn hl.1 rfl (lv_room hst) hd ⟨C0.2.2.2.2.2.2.2.2.2.2.2.2.1, C0.2.2.2.2.2.2.2.2.2.2.2.2.2⟩) hS (fun q _ h => by obtain ⟨k, hk, rfl⟩ := h; exact C.2.2.1 k hk) (fun q h => by obtain ⟨k, hk, rfl⟩ := h; exact C.2.2.1 k hk) ?_
  exact fun r u t H1 locs1 ht _ hK hB _ hk hS1 => k r u hK ls H1 locs1 hl (bk_M C hP (ht ▸ hB) hk) hS1
theorem JL_callMl (C : Lx x g a b b0 Ln xs) {y : MethodName} {bytes : ByteArray} {maxL : Nat} {rt : Option FieldType} {F1 L1 index n : Nat} {As : List Value} {K : Int64 → MW → Prop} (hM : Kt x.2.1 y bytes maxL rt F1 L1 g (sA 12 b) (mCl g b) (.ref (b 0) :: As) mw (QcL g (sA 12 b) (mCl g b) K)) (h1 : Cond.methodLink RL index y ∈ gT) (h2 : Cond.instanceMethod y ∈ gT) (h3 : Cond.selects y.cls y y ∈ gT) (h4 : Cond.initialized y.cls ∈ gT) (h5 : Cond.code y bytes maxL rt ∈ gT) (hy : y.cls ≠ "java/lang/invoke/MethodHandle" ∧ y.cls ≠ "java/lang/invoke/VarHandle" ∧ (parseMethodDescriptor y.desc).map (fun d => d.parameters.length) = some n) (hR : F1 + 1 ≤ 15 ∧ 8 + (maxL + 11) + L1 ≤ 586) (hn : As.length = n) (hc : y.cls = RX4) (hst : (st.map fun v => v.category).sum ≤ 8) (hd : decode code pc = .ok (.invokevirtual index, 3)) (k : ∀ (r : Int64) (w' : MW), K r w' → J x g (lA x) (lCl g a b) 4 Q (xw, w') (pc + 3) lv (.long r :: st)) : J x g (lA x) (lCl g a b) 4 Q (xw, mw) pc lv (As.reverse ++ .ref (b 0) :: st) := by
  intro ls H locs hl hP hS
  have C0 := C.1
  refine va_calll (va_runV (As := As) (rest := st) (b := b 0) ⟨C0.1, C0.2.1, C0.2.2.1, C0.2.2.2.1, C0.2.2.2.2.1⟩ hM (cwV n C0.2.2.2.2.1 (gin_V h1 h2 h3 h4 h5) rfl rfl rfl ⟨rfl, hy⟩ ⟨Nat.le_trans hR.1 C0.2.2.2.2.2.2.2.2.2.2.1, Nat.le_trans hR.2 C0.2.2.2.2.2.2.2.2.2.2.2.1⟩) ⟨Wo_blind, by rw [hc]; exact va_recv C0.2.2.2.2.2.1 (va_P_r hP) (ci := 4) (q0 := 0) rfl rfl, fun U hU hW => ⟨rfl, Wo_lawM C hP hS hU hW⟩⟩ rfl hn hl.1 rfl (lv_room hst) hd ⟨C0.2.2.2.2.2.2.2.2.2.2.2.2.1, C0.2.2.2.2.2.2.2.2.2.2.2.2.2⟩) hS (fun q _ h => by obtain ⟨k, hk, rfl⟩ := h; exact C.2.2.1 k hk) (fun q h => by obtain ⟨k, hk, rfl⟩ := h; exact C.2.2.1 k hk) ?_
  exact fun r u t H1 locs1 ht _ hK hB _ hk hS1 => k r u hK ls H1 locs1 hl (bk_M C hP (ht ▸ hB) hk) hS1
theorem JL_callMv (C : Lx x g a b b0 Ln xs) {y : MethodName} {bytes : ByteArray} {maxL : Nat} {rt : Option FieldType} {F1 L1 index n : Nat} {As : List Value} {K : MW → Prop} (hM : Kt x.2.1 y bytes maxL rt F1 L1 g (sA 12 b) (mCl g b) (.ref (b 0) :: As) mw (QcV g (sA 12 b) (mCl g b) K)) (h1 : Cond.methodLink RL index y ∈ gT) (h2 : Cond.instanceMethod y ∈ gT) (h3 : Cond.selects y.cls y y ∈ gT) (h4 : Cond.initialized y.cls ∈ gT) (h5 : Cond.code y bytes maxL rt ∈ gT) (hy : y.cls ≠ "java/lang/invoke/MethodHandle" ∧ y.cls ≠ "java/lang/invoke/VarHandle" ∧ (parseMethodDescriptor y.desc).map (fun d => d.parameters.length) = some n) (hR : F1 + 1 ≤ 15 ∧ 8 + (maxL + 11) + L1 ≤ 586) (hn : As.length = n) (hc : y.cls = RX4) (hst : (st.map fun v => v.category).sum ≤ 8) (hd : decode code pc = .ok (.invokevirtual index, 3)) (k : ∀ (w' : MW), K w' → J x g (lA x) (lCl g a b) 4 Q (xw, w') (pc + 3) lv st) : J x g (lA x) (lCl g a b) 4 Q (xw, mw) pc lv (As.reverse ++ .ref (b 0) :: st) := by
  intro ls H locs hl hP hS
  have C0 := C.1
  refine va_callv (va_runV (As := As) (rest := st) (b := b 0) ⟨C0.1, C0.2.1, C0.2.2.1, C0.2.2.2.1, C0.2.2.2.2.1⟩ hM (cwV n C0.2.2.2.2.1 (gin_V h1 h2 h3 h4 h5) rfl rfl rfl ⟨rfl, hy⟩ ⟨Nat.le_trans hR.1 C0.2.2.2.2.2.2.2.2.2.2.1, Nat.le_trans hR.2 C0.2.2.2.2.2.2.2.2.2.2.2.1⟩) ⟨Wo_blind, by rw [hc]; exact va_recv C0.2.2.2.2.2.1 (va_P_r hP) (ci := 4) (q0 := 0) rfl rfl, fun U hU hW => ⟨rfl, Wo_lawM C hP hS hU hW⟩⟩ rfl hn hl.1 rfl (lv_room hst) hd ⟨C0.2.2.2.2.2.2.2.2.2.2.2.2.1, C0.2.2.2.2.2.2.2.2.2.2.2.2.2⟩) hS (fun q _ h => by obtain ⟨k, hk, rfl⟩ := h; exact C.2.2.1 k hk) (fun q h => by obtain ⟨k, hk, rfl⟩ := h; exact C.2.2.1 k hk) ?_
  exact fun u t H1 locs1 ht _ hK hB _ hk hS1 => k u hK ls H1 locs1 hl (bk_M C hP (ht ▸ hB) hk) hS1
theorem kL_X3_feed (C : Lx x g a b b0 Ln xs) {index : Nat} {K : Int32 → XW → Prop} {v1 : Int32} {v2 : Int32} {v3 : Int32} {v4 : Int32} {v5 : Int32} (h1 : Cond.methodLink RL index yX3_feed ∈ gT) (hd : decode code pc = .ok (.invokevirtual index, 3)) (hst : (st.map fun v => v.category).sum ≤ 8) (h : P_X3_feed K xw v1 v2 v3 v4 v5) (k : ∀ (r : Int32) (w' : XW), K r w' → J x g (lA x) (lCl g a b) 4 Q (w', mw) (pc + 3) lv (.int r :: st)) : J x g (lA x) (lCl g a b) 4 Q (xw, mw) pc lv (.int v5 :: .int v4 :: .int v3 :: .int v2 :: .int v1 :: .ref (a 0) :: st) :=
  JL_callXi C (As := [.int v1, .int v2, .int v3, .int v4, .int v5]) (n := 5) (c_X3_feed h) h1 mw_89 mw_90 mw_1 mw_91 (by decide +kernel) ⟨Nat.le_of_ble_eq_true rfl, Nat.le_of_ble_eq_true rfl⟩ rfl rfl hst hd k
theorem kL_X3_add (C : Lx x g a b b0 Ln xs) {index : Nat} {K : Int32 → XW → Prop} {v1 : Int32} (h1 : Cond.methodLink RL index yX3_add ∈ gT) (hd : decode code pc = .ok (.invokevirtual index, 3)) (hst : (st.map fun v => v.category).sum ≤ 8) (h : P_X3_add K xw v1) (k : ∀ (r : Int32) (w' : XW), K r w' → J x g (lA x) (lCl g a b) 4 Q (w', mw) (pc + 3) lv (.int r :: st)) : J x g (lA x) (lCl g a b) 4 Q (xw, mw) pc lv (.int v1 :: .ref (a 0) :: st) :=
  JL_callXi C (As := [.int v1]) (n := 1) (c_X3_add h) h1 mw_96 mw_97 mw_1 mw_98 (by decide +kernel) ⟨Nat.le_of_ble_eq_true rfl, Nat.le_of_ble_eq_true rfl⟩ rfl rfl hst hd k
theorem kL_X3_clear (C : Lx x g a b b0 Ln xs) {index : Nat} {K : XW → Prop} (h1 : Cond.methodLink RL index yX3_clear ∈ gT) (hd : decode code pc = .ok (.invokevirtual index, 3)) (hst : (st.map fun v => v.category).sum ≤ 8) (h : P_X3_clear K xw) (k : ∀  (w' : XW), K w' → J x g (lA x) (lCl g a b) 4 Q (w', mw) (pc + 3) lv st) : J x g (lA x) (lCl g a b) 4 Q (xw, mw) pc lv (.ref (a 0) :: st) :=
  JL_callXv C (As := []) (n := 0) (c_X3_clear h) h1 mw_106 mw_107 mw_1 mw_108 (by decide +kernel) ⟨Nat.le_of_ble_eq_true rfl, Nat.le_of_ble_eq_true rfl⟩ rfl rfl hst hd k
theorem kL_X3_reads (C : Lx x g a b b0 Ln xs) {index : Nat} {K : Int32 → XW → Prop} {v1 : Int32} (h1 : Cond.methodLink RL index yX3_reads ∈ gT) (hd : decode code pc = .ok (.invokevirtual index, 3)) (hst : (st.map fun v => v.category).sum ≤ 8) (h : P_X3_reads K xw v1) (k : ∀ (r : Int32) (w' : XW), K r w' → J x g (lA x) (lCl g a b) 4 Q (w', mw) (pc + 3) lv (.int r :: st)) : J x g (lA x) (lCl g a b) 4 Q (xw, mw) pc lv (.int v1 :: .ref (a 0) :: st) :=
  JL_callXi C (As := [.int v1]) (n := 1) (c_X3_reads h) h1 mw_110 mw_111 mw_1 mw_112 (by decide +kernel) ⟨Nat.le_of_ble_eq_true rfl, Nat.le_of_ble_eq_true rfl⟩ rfl rfl hst hd k
theorem kL_X3_faultAt (C : Lx x g a b b0 Ln xs) {index : Nat} {K : Int32 → XW → Prop} {v1 : Int32} (h1 : Cond.methodLink RL index yX3_faultAt ∈ gT) (hd : decode code pc = .ok (.invokevirtual index, 3)) (hst : (st.map fun v => v.category).sum ≤ 8) (h : P_X3_faultAt K xw v1) (k : ∀ (r : Int32) (w' : XW), K r w' → J x g (lA x) (lCl g a b) 4 Q (w', mw) (pc + 3) lv (.int r :: st)) : J x g (lA x) (lCl g a b) 4 Q (xw, mw) pc lv (.int v1 :: .ref (a 0) :: st) :=
  JL_callXi C (As := [.int v1]) (n := 1) (c_X3_faultAt h) h1 mw_151 mw_152 mw_1 mw_153 (by decide +kernel) ⟨Nat.le_of_ble_eq_true rfl, Nat.le_of_ble_eq_true rfl⟩ rfl rfl hst hd k
theorem kL_X3_cost (C : Lx x g a b b0 Ln xs) {index : Nat} {K : Int32 → XW → Prop} {v1 : Int32} (h1 : Cond.methodLink RL index yX3_cost ∈ gT) (hd : decode code pc = .ok (.invokevirtual index, 3)) (hst : (st.map fun v => v.category).sum ≤ 8) (h : P_X3_cost K xw v1) (k : ∀ (r : Int32) (w' : XW), K r w' → J x g (lA x) (lCl g a b) 4 Q (w', mw) (pc + 3) lv (.int r :: st)) : J x g (lA x) (lCl g a b) 4 Q (xw, mw) pc lv (.int v1 :: .ref (a 0) :: st) :=
  JL_callXi C (As := [.int v1]) (n := 1) (c_X3_cost h) h1 mw_155 mw_156 mw_1 mw_157 (by decide +kernel) ⟨Nat.le_of_ble_eq_true rfl, Nat.le_of_ble_eq_true rfl⟩ rfl rfl hst hd k
theorem kL_X3_best (C : Lx x g a b b0 Ln xs) {index : Nat} {K : Int32 → XW → Prop} (h1 : Cond.methodLink RL index yX3_best ∈ gT) (hd : decode code pc = .ok (.invokevirtual index, 3)) (hst : (st.map fun v => v.category).sum ≤ 8) (h : P_X3_best K xw) (k : ∀ (r : Int32) (w' : XW), K r w' → J x g (lA x) (lCl g a b) 4 Q (w', mw) (pc + 3) lv (.int r :: st)) : J x g (lA x) (lCl g a b) 4 Q (xw, mw) pc lv (.ref (a 0) :: st) :=
  JL_callXi C (As := []) (n := 0) (c_X3_best h) h1 mw_328 mw_329 mw_1 mw_330 (by decide +kernel) ⟨Nat.le_of_ble_eq_true rfl, Nat.le_of_ble_eq_true rfl⟩ rfl rfl hst hd k
theorem kL_X3_use (C : Lx x g a b b0 Ln xs) {index : Nat} {K : Int32 → XW → Prop} {v1 : Int32} (h1 : Cond.methodLink RL index yX3_use ∈ gT) (hd : decode code pc = .ok (.invokevirtual index, 3)) (hst : (st.map fun v => v.category).sum ≤ 8) (h : P_X3_use K xw v1) (k : ∀ (r : Int32) (w' : XW), K r w' → J x g (lA x) (lCl g a b) 4 Q (w', mw) (pc + 3) lv (.int r :: st)) : J x g (lA x) (lCl g a b) 4 Q (xw, mw) pc lv (.int v1 :: .ref (a 0) :: st) :=
  JL_callXi C (As := [.int v1]) (n := 1) (c_X3_use h) h1 mw_332 mw_333 mw_1 mw_334 (by decide +kernel) ⟨Nat.le_of_ble_eq_true rfl, Nat.le_of_ble_eq_true rfl⟩ rfl rfl hst hd k
theorem kL_X3_about (C : Lx x g a b b0 Ln xs) {index : Nat} {K : Int32 → XW → Prop} {v1 : Int32} (h1 : Cond.methodLink RL index yX3_about ∈ gT) (hd : decode code pc = .ok (.invokevirtual index, 3)) (hst : (st.map fun v => v.category).sum ≤ 8) (h : P_X3_about K xw v1) (k : ∀ (r : Int32) (w' : XW), K r w' → J x g (lA x) (lCl g a b) 4 Q (w', mw) (pc + 3) lv (.int r :: st)) : J x g (lA x) (lCl g a b) 4 Q (xw, mw) pc lv (.int v1 :: .ref (a 0) :: st) :=
  JL_callXi C (As := [.int v1]) (n := 1) (c_X3_about h) h1 mw_336 mw_337 mw_1 mw_338 (by decide +kernel) ⟨Nat.le_of_ble_eq_true rfl, Nat.le_of_ble_eq_true rfl⟩ rfl rfl hst hd k
theorem kL_X3_odd (C : Lx x g a b b0 Ln xs) {index : Nat} {K : Int32 → XW → Prop} {v1 : Int32} (h1 : Cond.methodLink RL index yX3_odd ∈ gT) (hd : decode code pc = .ok (.invokevirtual index, 3)) (hst : (st.map fun v => v.category).sum ≤ 8) (h : P_X3_odd K xw v1) (k : ∀ (r : Int32) (w' : XW), K r w' → J x g (lA x) (lCl g a b) 4 Q (w', mw) (pc + 3) lv (.int r :: st)) : J x g (lA x) (lCl g a b) 4 Q (xw, mw) pc lv (.int v1 :: .ref (a 0) :: st) :=
  JL_callXi C (As := [.int v1]) (n := 1) (c_X3_odd h) h1 mw_344 mw_345 mw_1 mw_346 (by decide +kernel) ⟨Nat.le_of_ble_eq_true rfl, Nat.le_of_ble_eq_true rfl⟩ rfl rfl hst hd k
theorem kL_X3_breadth (C : Lx x g a b b0 Ln xs) {index : Nat} {K : Int32 → XW → Prop} {v1 : Int32} (h1 : Cond.methodLink RL index yX3_breadth ∈ gT) (hd : decode code pc = .ok (.invokevirtual index, 3)) (hst : (st.map fun v => v.category).sum ≤ 8) (h : P_X3_breadth K xw v1) (k : ∀ (r : Int32) (w' : XW), K r w' → J x g (lA x) (lCl g a b) 4 Q (w', mw) (pc + 3) lv (.int r :: st)) : J x g (lA x) (lCl g a b) 4 Q (xw, mw) pc lv (.int v1 :: .ref (a 0) :: st) :=
  JL_callXi C (As := [.int v1]) (n := 1) (c_X3_breadth h) h1 mw_349 mw_350 mw_1 mw_351 (by decide +kernel) ⟨Nat.le_of_ble_eq_true rfl, Nat.le_of_ble_eq_true rfl⟩ rfl rfl hst hd k
theorem kL_X3_size (C : Lx x g a b b0 Ln xs) {index : Nat} {K : Int32 → XW → Prop} {v1 : Int32} {v2 : Int32} (h1 : Cond.methodLink RL index yX3_size ∈ gT) (hd : decode code pc = .ok (.invokevirtual index, 3)) (hst : (st.map fun v => v.category).sum ≤ 8) (h : P_X3_size K xw v1 v2) (k : ∀ (r : Int32) (w' : XW), K r w' → J x g (lA x) (lCl g a b) 4 Q (w', mw) (pc + 3) lv (.int r :: st)) : J x g (lA x) (lCl g a b) 4 Q (xw, mw) pc lv (.int v2 :: .int v1 :: .ref (a 0) :: st) :=
  JL_callXi C (As := [.int v1, .int v2]) (n := 2) (c_X3_size h) h1 mw_357 mw_358 mw_1 mw_359 (by decide +kernel) ⟨Nat.le_of_ble_eq_true rfl, Nat.le_of_ble_eq_true rfl⟩ rfl rfl hst hd k
theorem kL_X3_at (C : Lx x g a b b0 Ln xs) {index : Nat} {K : Int32 → XW → Prop} {v1 : Int32} {v2 : Int32} {v3 : Int32} (h1 : Cond.methodLink RL index yX3_at ∈ gT) (hd : decode code pc = .ok (.invokevirtual index, 3)) (hst : (st.map fun v => v.category).sum ≤ 8) (h : P_X3_at K xw v1 v2 v3) (k : ∀ (r : Int32) (w' : XW), K r w' → J x g (lA x) (lCl g a b) 4 Q (w', mw) (pc + 3) lv (.int r :: st)) : J x g (lA x) (lCl g a b) 4 Q (xw, mw) pc lv (.int v3 :: .int v2 :: .int v1 :: .ref (a 0) :: st) :=
  JL_callXi C (As := [.int v1, .int v2, .int v3]) (n := 3) (c_X3_at h) h1 mw_363 mw_364 mw_1 mw_365 (by decide +kernel) ⟨Nat.le_of_ble_eq_true rfl, Nat.le_of_ble_eq_true rfl⟩ rfl rfl hst hd k
theorem kL_X3_form (C : Lx x g a b b0 Ln xs) {index : Nat} {K : Int32 → XW → Prop} {v1 : Int32} (h1 : Cond.methodLink RL index yX3_form ∈ gT) (hd : decode code pc = .ok (.invokevirtual index, 3)) (hst : (st.map fun v => v.category).sum ≤ 8) (h : P_X3_form K xw v1) (k : ∀ (r : Int32) (w' : XW), K r w' → J x g (lA x) (lCl g a b) 4 Q (w', mw) (pc + 3) lv (.int r :: st)) : J x g (lA x) (lCl g a b) 4 Q (xw, mw) pc lv (.int v1 :: .ref (a 0) :: st) :=
  JL_callXi C (As := [.int v1]) (n := 1) (c_X3_form h) h1 mw_368 mw_369 mw_1 mw_370 (by decide +kernel) ⟨Nat.le_of_ble_eq_true rfl, Nat.le_of_ble_eq_true rfl⟩ rfl rfl hst hd k
theorem kL_X3_missing (C : Lx x g a b b0 Ln xs) {index : Nat} {K : Int32 → XW → Prop} {v1 : Int32} (h1 : Cond.methodLink RL index yX3_missing ∈ gT) (hd : decode code pc = .ok (.invokevirtual index, 3)) (hst : (st.map fun v => v.category).sum ≤ 8) (h : P_X3_missing K xw v1) (k : ∀ (r : Int32) (w' : XW), K r w' → J x g (lA x) (lCl g a b) 4 Q (w', mw) (pc + 3) lv (.int r :: st)) : J x g (lA x) (lCl g a b) 4 Q (xw, mw) pc lv (.int v1 :: .ref (a 0) :: st) :=
  JL_callXi C (As := [.int v1]) (n := 1) (c_X3_missing h) h1 mw_375 mw_376 mw_1 mw_377 (by decide +kernel) ⟨Nat.le_of_ble_eq_true rfl, Nat.le_of_ble_eq_true rfl⟩ rfl rfl hst hd k
theorem kL_X3_lacks (C : Lx x g a b b0 Ln xs) {index : Nat} {K : Int32 → XW → Prop} {v1 : Int32} (h1 : Cond.methodLink RL index yX3_lacks ∈ gT) (hd : decode code pc = .ok (.invokevirtual index, 3)) (hst : (st.map fun v => v.category).sum ≤ 8) (h : P_X3_lacks K xw v1) (k : ∀ (r : Int32) (w' : XW), K r w' → J x g (lA x) (lCl g a b) 4 Q (w', mw) (pc + 3) lv (.int r :: st)) : J x g (lA x) (lCl g a b) 4 Q (xw, mw) pc lv (.int v1 :: .ref (a 0) :: st) :=
  JL_callXi C (As := [.int v1]) (n := 1) (c_X3_lacks h) h1 mw_379 mw_380 mw_1 mw_381 (by decide +kernel) ⟨Nat.le_of_ble_eq_true rfl, Nat.le_of_ble_eq_true rfl⟩ rfl rfl hst hd k
theorem kL_X3_costOf (C : Lx x g a b b0 Ln xs) {index : Nat} {K : Int32 → XW → Prop} {v1 : Int32} {v2 : Int32} {v3 : Int32} (h1 : Cond.methodLink RL index yX3_costOf ∈ gT) (hd : decode code pc = .ok (.invokevirtual index, 3)) (hst : (st.map fun v => v.category).sum ≤ 8) (h : P_X3_costOf K xw v1 v2 v3) (k : ∀ (r : Int32) (w' : XW), K r w' → J x g (lA x) (lCl g a b) 4 Q (w', mw) (pc + 3) lv (.int r :: st)) : J x g (lA x) (lCl g a b) 4 Q (xw, mw) pc lv (.int v3 :: .int v2 :: .int v1 :: .ref (a 0) :: st) :=
  JL_callXi C (As := [.int v1, .int v2, .int v3]) (n := 3) (c_X3_costOf h) h1 mw_387 mw_388 mw_1 mw_389 (by decide +kernel) ⟨Nat.le_of_ble_eq_true rfl, Nat.le_of_ble_eq_true rfl⟩ rfl rfl hst hd k
theorem kL_X3_fits (C : Lx x g a b b0 Ln xs) {index : Nat} {K : Int32 → XW → Prop} {v1 : Int32} (h1 : Cond.methodLink RL index yX3_fits ∈ gT) (hd : decode code pc = .ok (.invokevirtual index, 3)) (hst : (st.map fun v => v.category).sum ≤ 8) (h : P_X3_fits K xw v1) (k : ∀ (r : Int32) (w' : XW), K r w' → J x g (lA x) (lCl g a b) 4 Q (w', mw) (pc + 3) lv (.int r :: st)) : J x g (lA x) (lCl g a b) 4 Q (xw, mw) pc lv (.int v1 :: .ref (a 0) :: st) :=
  JL_callXi C (As := [.int v1]) (n := 1) (c_X3_fits h) h1 mw_399 mw_400 mw_1 mw_401 (by decide +kernel) ⟨Nat.le_of_ble_eq_true rfl, Nat.le_of_ble_eq_true rfl⟩ rfl rfl hst hd k
theorem kL_X3_doubt (C : Lx x g a b b0 Ln xs) {index : Nat} {K : Int32 → XW → Prop} {v1 : Int32} (h1 : Cond.methodLink RL index yX3_doubt ∈ gT) (hd : decode code pc = .ok (.invokevirtual index, 3)) (hst : (st.map fun v => v.category).sum ≤ 8) (h : P_X3_doubt K xw v1) (k : ∀ (r : Int32) (w' : XW), K r w' → J x g (lA x) (lCl g a b) 4 Q (w', mw) (pc + 3) lv (.int r :: st)) : J x g (lA x) (lCl g a b) 4 Q (xw, mw) pc lv (.int v1 :: .ref (a 0) :: st) :=
  JL_callXi C (As := [.int v1]) (n := 1) (c_X3_doubt h) h1 mw_409 mw_410 mw_1 mw_411 (by decide +kernel) ⟨Nat.le_of_ble_eq_true rfl, Nat.le_of_ble_eq_true rfl⟩ rfl rfl hst hd k
theorem kL_X3_parts (C : Lx x g a b b0 Ln xs) {index : Nat} {K : Int32 → XW → Prop} {v1 : Int32} {v2 : Int32} {v3 : Int32} {v4 : Int32} (h1 : Cond.methodLink RL index yX3_parts ∈ gT) (hd : decode code pc = .ok (.invokevirtual index, 3)) (hst : (st.map fun v => v.category).sum ≤ 8) (h : P_X3_parts K xw v1 v2 v3 v4) (k : ∀ (r : Int32) (w' : XW), K r w' → J x g (lA x) (lCl g a b) 4 Q (w', mw) (pc + 3) lv (.int r :: st)) : J x g (lA x) (lCl g a b) 4 Q (xw, mw) pc lv (.int v4 :: .int v3 :: .int v2 :: .int v1 :: .ref (a 0) :: st) :=
  JL_callXi C (As := [.int v1, .int v2, .int v3, .int v4]) (n := 4) (c_X3_parts h) h1 mw_417 mw_418 mw_1 mw_419 (by decide +kernel) ⟨Nat.le_of_ble_eq_true rfl, Nat.le_of_ble_eq_true rfl⟩ rfl rfl hst hd k
theorem kL_X3_value (C : Lx x g a b b0 Ln xs) {index : Nat} {K : Int64 → XW → Prop} {v1 : Int32} {v2 : Int32} (h1 : Cond.methodLink RL index yX3_value ∈ gT) (hd : decode code pc = .ok (.invokevirtual index, 3)) (hst : (st.map fun v => v.category).sum ≤ 8) (h : P_X3_value K xw v1 v2) (k : ∀ (r : Int64) (w' : XW), K r w' → J x g (lA x) (lCl g a b) 4 Q (w', mw) (pc + 3) lv (.long r :: st)) : J x g (lA x) (lCl g a b) 4 Q (xw, mw) pc lv (.int v2 :: .int v1 :: .ref (a 0) :: st) :=
  JL_callXl C (As := [.int v1, .int v2]) (n := 2) (c_X3_value h) h1 mw_425 mw_426 mw_1 mw_427 (by decide +kernel) ⟨Nat.le_of_ble_eq_true rfl, Nat.le_of_ble_eq_true rfl⟩ rfl rfl hst hd k
theorem kL_X3_back (C : Lx x g a b b0 Ln xs) {index : Nat} {K : Int32 → XW → Prop} {v1 : Int32} {v2 : Int32} {v3 : Int32} (h1 : Cond.methodLink RL index yX3_back ∈ gT) (hd : decode code pc = .ok (.invokevirtual index, 3)) (hst : (st.map fun v => v.category).sum ≤ 8) (h : P_X3_back K xw v1 v2 v3) (k : ∀ (r : Int32) (w' : XW), K r w' → J x g (lA x) (lCl g a b) 4 Q (w', mw) (pc + 3) lv (.int r :: st)) : J x g (lA x) (lCl g a b) 4 Q (xw, mw) pc lv (.int v3 :: .int v2 :: .int v1 :: .ref (a 0) :: st) :=
  JL_callXi C (As := [.int v1, .int v2, .int v3]) (n := 3) (c_X3_back h) h1 mw_433 mw_434 mw_1 mw_435 (by decide +kernel) ⟨Nat.le_of_ble_eq_true rfl, Nat.le_of_ble_eq_true rfl⟩ rfl rfl hst hd k
theorem kL_X3_key (C : Lx x g a b b0 Ln xs) {index : Nat} {K : Int32 → XW → Prop} {v1 : Int32} (h1 : Cond.methodLink RL index yX3_key ∈ gT) (hd : decode code pc = .ok (.invokevirtual index, 3)) (hst : (st.map fun v => v.category).sum ≤ 8) (h : P_X3_key K xw v1) (k : ∀ (r : Int32) (w' : XW), K r w' → J x g (lA x) (lCl g a b) 4 Q (w', mw) (pc + 3) lv (.int r :: st)) : J x g (lA x) (lCl g a b) 4 Q (xw, mw) pc lv (.int v1 :: .ref (a 0) :: st) :=
  JL_callXi C (As := [.int v1]) (n := 1) (c_X3_key h) h1 mw_438 mw_439 mw_1 mw_440 (by decide +kernel) ⟨Nat.le_of_ble_eq_true rfl, Nat.le_of_ble_eq_true rfl⟩ rfl rfl hst hd k
theorem kL_X4_feed (C : Lx x g a b b0 Ln xs) {index : Nat} {K : Int32 → MW → Prop} {v1 : Int32} {v2 : Int32} {v3 : Int32} {v4 : Int32} {v5 : Int32} (h1 : Cond.methodLink RL index yX4_feed ∈ gT) (hd : decode code pc = .ok (.invokevirtual index, 3)) (hst : (st.map fun v => v.category).sum ≤ 8) (h : P_X4_feed K mw v1 v2 v3 v4 v5) (k : ∀ (r : Int32) (w' : MW), K r w' → J x g (lA x) (lCl g a b) 4 Q (xw, w') (pc + 3) lv (.int r :: st)) : J x g (lA x) (lCl g a b) 4 Q (xw, mw) pc lv (.int v5 :: .int v4 :: .int v3 :: .int v2 :: .int v1 :: .ref (b 0) :: st) :=
  JL_callMi C (As := [.int v1, .int v2, .int v3, .int v4, .int v5]) (n := 5) (c_X4_feed h) h1 mw_490 mw_491 mw_6 mw_492 (by decide +kernel) ⟨Nat.le_of_ble_eq_true rfl, Nat.le_of_ble_eq_true rfl⟩ rfl rfl hst hd k
theorem kL_X4_add (C : Lx x g a b b0 Ln xs) {index : Nat} {K : Int32 → MW → Prop} {v1 : Int32} (h1 : Cond.methodLink RL index yX4_add ∈ gT) (hd : decode code pc = .ok (.invokevirtual index, 3)) (hst : (st.map fun v => v.category).sum ≤ 8) (h : P_X4_add K mw v1) (k : ∀ (r : Int32) (w' : MW), K r w' → J x g (lA x) (lCl g a b) 4 Q (xw, w') (pc + 3) lv (.int r :: st)) : J x g (lA x) (lCl g a b) 4 Q (xw, mw) pc lv (.int v1 :: .ref (b 0) :: st) :=
  JL_callMi C (As := [.int v1]) (n := 1) (c_X4_add h) h1 mw_497 mw_498 mw_6 mw_499 (by decide +kernel) ⟨Nat.le_of_ble_eq_true rfl, Nat.le_of_ble_eq_true rfl⟩ rfl rfl hst hd k
theorem kL_X4_clear (C : Lx x g a b b0 Ln xs) {index : Nat} {K : MW → Prop} (h1 : Cond.methodLink RL index yX4_clear ∈ gT) (hd : decode code pc = .ok (.invokevirtual index, 3)) (hst : (st.map fun v => v.category).sum ≤ 8) (h : P_X4_clear K mw) (k : ∀  (w' : MW), K w' → J x g (lA x) (lCl g a b) 4 Q (xw, w') (pc + 3) lv st) : J x g (lA x) (lCl g a b) 4 Q (xw, mw) pc lv (.ref (b 0) :: st) :=
  JL_callMv C (As := []) (n := 0) (c_X4_clear h) h1 mw_507 mw_508 mw_6 mw_509 (by decide +kernel) ⟨Nat.le_of_ble_eq_true rfl, Nat.le_of_ble_eq_true rfl⟩ rfl rfl hst hd k
theorem kL_X4_reads (C : Lx x g a b b0 Ln xs) {index : Nat} {K : Int32 → MW → Prop} {v1 : Int32} (h1 : Cond.methodLink RL index yX4_reads ∈ gT) (hd : decode code pc = .ok (.invokevirtual index, 3)) (hst : (st.map fun v => v.category).sum ≤ 8) (h : P_X4_reads K mw v1) (k : ∀ (r : Int32) (w' : MW), K r w' → J x g (lA x) (lCl g a b) 4 Q (xw, w') (pc + 3) lv (.int r :: st)) : J x g (lA x) (lCl g a b) 4 Q (xw, mw) pc lv (.int v1 :: .ref (b 0) :: st) :=
  JL_callMi C (As := [.int v1]) (n := 1) (c_X4_reads h) h1 mw_511 mw_512 mw_6 mw_513 (by decide +kernel) ⟨Nat.le_of_ble_eq_true rfl, Nat.le_of_ble_eq_true rfl⟩ rfl rfl hst hd k
theorem kL_X4_faultAt (C : Lx x g a b b0 Ln xs) {index : Nat} {K : Int32 → MW → Prop} {v1 : Int32} (h1 : Cond.methodLink RL index yX4_faultAt ∈ gT) (hd : decode code pc = .ok (.invokevirtual index, 3)) (hst : (st.map fun v => v.category).sum ≤ 8) (h : P_X4_faultAt K mw v1) (k : ∀ (r : Int32) (w' : MW), K r w' → J x g (lA x) (lCl g a b) 4 Q (xw, w') (pc + 3) lv (.int r :: st)) : J x g (lA x) (lCl g a b) 4 Q (xw, mw) pc lv (.int v1 :: .ref (b 0) :: st) :=
  JL_callMi C (As := [.int v1]) (n := 1) (c_X4_faultAt h) h1 mw_554 mw_555 mw_6 mw_556 (by decide +kernel) ⟨Nat.le_of_ble_eq_true rfl, Nat.le_of_ble_eq_true rfl⟩ rfl rfl hst hd k
theorem kL_X4_cost (C : Lx x g a b b0 Ln xs) {index : Nat} {K : Int32 → MW → Prop} {v1 : Int32} (h1 : Cond.methodLink RL index yX4_cost ∈ gT) (hd : decode code pc = .ok (.invokevirtual index, 3)) (hst : (st.map fun v => v.category).sum ≤ 8) (h : P_X4_cost K mw v1) (k : ∀ (r : Int32) (w' : MW), K r w' → J x g (lA x) (lCl g a b) 4 Q (xw, w') (pc + 3) lv (.int r :: st)) : J x g (lA x) (lCl g a b) 4 Q (xw, mw) pc lv (.int v1 :: .ref (b 0) :: st) :=
  JL_callMi C (As := [.int v1]) (n := 1) (c_X4_cost h) h1 mw_558 mw_559 mw_6 mw_560 (by decide +kernel) ⟨Nat.le_of_ble_eq_true rfl, Nat.le_of_ble_eq_true rfl⟩ rfl rfl hst hd k
theorem kL_X4_best (C : Lx x g a b b0 Ln xs) {index : Nat} {K : Int32 → MW → Prop} (h1 : Cond.methodLink RL index yX4_best ∈ gT) (hd : decode code pc = .ok (.invokevirtual index, 3)) (hst : (st.map fun v => v.category).sum ≤ 8) (h : P_X4_best K mw) (k : ∀ (r : Int32) (w' : MW), K r w' → J x g (lA x) (lCl g a b) 4 Q (xw, w') (pc + 3) lv (.int r :: st)) : J x g (lA x) (lCl g a b) 4 Q (xw, mw) pc lv (.ref (b 0) :: st) :=
  JL_callMi C (As := []) (n := 0) (c_X4_best h) h1 mw_647 mw_648 mw_6 mw_649 (by decide +kernel) ⟨Nat.le_of_ble_eq_true rfl, Nat.le_of_ble_eq_true rfl⟩ rfl rfl hst hd k
theorem kL_X4_use (C : Lx x g a b b0 Ln xs) {index : Nat} {K : Int32 → MW → Prop} {v1 : Int32} (h1 : Cond.methodLink RL index yX4_use ∈ gT) (hd : decode code pc = .ok (.invokevirtual index, 3)) (hst : (st.map fun v => v.category).sum ≤ 8) (h : P_X4_use K mw v1) (k : ∀ (r : Int32) (w' : MW), K r w' → J x g (lA x) (lCl g a b) 4 Q (xw, w') (pc + 3) lv (.int r :: st)) : J x g (lA x) (lCl g a b) 4 Q (xw, mw) pc lv (.int v1 :: .ref (b 0) :: st) :=
  JL_callMi C (As := [.int v1]) (n := 1) (c_X4_use h) h1 mw_652 mw_653 mw_6 mw_654 (by decide +kernel) ⟨Nat.le_of_ble_eq_true rfl, Nat.le_of_ble_eq_true rfl⟩ rfl rfl hst hd k
theorem kL_X4_about (C : Lx x g a b b0 Ln xs) {index : Nat} {K : Int32 → MW → Prop} {v1 : Int32} (h1 : Cond.methodLink RL index yX4_about ∈ gT) (hd : decode code pc = .ok (.invokevirtual index, 3)) (hst : (st.map fun v => v.category).sum ≤ 8) (h : P_X4_about K mw v1) (k : ∀ (r : Int32) (w' : MW), K r w' → J x g (lA x) (lCl g a b) 4 Q (xw, w') (pc + 3) lv (.int r :: st)) : J x g (lA x) (lCl g a b) 4 Q (xw, mw) pc lv (.int v1 :: .ref (b 0) :: st) :=
  JL_callMi C (As := [.int v1]) (n := 1) (c_X4_about h) h1 mw_656 mw_657 mw_6 mw_658 (by decide +kernel) ⟨Nat.le_of_ble_eq_true rfl, Nat.le_of_ble_eq_true rfl⟩ rfl rfl hst hd k
theorem kL_X4_odd (C : Lx x g a b b0 Ln xs) {index : Nat} {K : Int32 → MW → Prop} {v1 : Int32} (h1 : Cond.methodLink RL index yX4_odd ∈ gT) (hd : decode code pc = .ok (.invokevirtual index, 3)) (hst : (st.map fun v => v.category).sum ≤ 8) (h : P_X4_odd K mw v1) (k : ∀ (r : Int32) (w' : MW), K r w' → J x g (lA x) (lCl g a b) 4 Q (xw, w') (pc + 3) lv (.int r :: st)) : J x g (lA x) (lCl g a b) 4 Q (xw, mw) pc lv (.int v1 :: .ref (b 0) :: st) :=
  JL_callMi C (As := [.int v1]) (n := 1) (c_X4_odd h) h1 mw_660 mw_661 mw_6 mw_662 (by decide +kernel) ⟨Nat.le_of_ble_eq_true rfl, Nat.le_of_ble_eq_true rfl⟩ rfl rfl hst hd k
theorem kL_X4_breadth (C : Lx x g a b b0 Ln xs) {index : Nat} {K : Int32 → MW → Prop} {v1 : Int32} (h1 : Cond.methodLink RL index yX4_breadth ∈ gT) (hd : decode code pc = .ok (.invokevirtual index, 3)) (hst : (st.map fun v => v.category).sum ≤ 8) (h : P_X4_breadth K mw v1) (k : ∀ (r : Int32) (w' : MW), K r w' → J x g (lA x) (lCl g a b) 4 Q (xw, w') (pc + 3) lv (.int r :: st)) : J x g (lA x) (lCl g a b) 4 Q (xw, mw) pc lv (.int v1 :: .ref (b 0) :: st) :=
  JL_callMi C (As := [.int v1]) (n := 1) (c_X4_breadth h) h1 mw_664 mw_665 mw_6 mw_666 (by decide +kernel) ⟨Nat.le_of_ble_eq_true rfl, Nat.le_of_ble_eq_true rfl⟩ rfl rfl hst hd k
theorem kL_X4_size (C : Lx x g a b b0 Ln xs) {index : Nat} {K : Int32 → MW → Prop} {v1 : Int32} {v2 : Int32} (h1 : Cond.methodLink RL index yX4_size ∈ gT) (hd : decode code pc = .ok (.invokevirtual index, 3)) (hst : (st.map fun v => v.category).sum ≤ 8) (h : P_X4_size K mw v1 v2) (k : ∀ (r : Int32) (w' : MW), K r w' → J x g (lA x) (lCl g a b) 4 Q (xw, w') (pc + 3) lv (.int r :: st)) : J x g (lA x) (lCl g a b) 4 Q (xw, mw) pc lv (.int v2 :: .int v1 :: .ref (b 0) :: st) :=
  JL_callMi C (As := [.int v1, .int v2]) (n := 2) (c_X4_size h) h1 mw_671 mw_672 mw_6 mw_673 (by decide +kernel) ⟨Nat.le_of_ble_eq_true rfl, Nat.le_of_ble_eq_true rfl⟩ rfl rfl hst hd k
theorem kL_X4_at (C : Lx x g a b b0 Ln xs) {index : Nat} {K : Int32 → MW → Prop} {v1 : Int32} {v2 : Int32} {v3 : Int32} (h1 : Cond.methodLink RL index yX4_at ∈ gT) (hd : decode code pc = .ok (.invokevirtual index, 3)) (hst : (st.map fun v => v.category).sum ≤ 8) (h : P_X4_at K mw v1 v2 v3) (k : ∀ (r : Int32) (w' : MW), K r w' → J x g (lA x) (lCl g a b) 4 Q (xw, w') (pc + 3) lv (.int r :: st)) : J x g (lA x) (lCl g a b) 4 Q (xw, mw) pc lv (.int v3 :: .int v2 :: .int v1 :: .ref (b 0) :: st) :=
  JL_callMi C (As := [.int v1, .int v2, .int v3]) (n := 3) (c_X4_at h) h1 mw_678 mw_679 mw_6 mw_680 (by decide +kernel) ⟨Nat.le_of_ble_eq_true rfl, Nat.le_of_ble_eq_true rfl⟩ rfl rfl hst hd k
theorem kL_X4_form (C : Lx x g a b b0 Ln xs) {index : Nat} {K : Int32 → MW → Prop} {v1 : Int32} (h1 : Cond.methodLink RL index yX4_form ∈ gT) (hd : decode code pc = .ok (.invokevirtual index, 3)) (hst : (st.map fun v => v.category).sum ≤ 8) (h : P_X4_form K mw v1) (k : ∀ (r : Int32) (w' : MW), K r w' → J x g (lA x) (lCl g a b) 4 Q (xw, w') (pc + 3) lv (.int r :: st)) : J x g (lA x) (lCl g a b) 4 Q (xw, mw) pc lv (.int v1 :: .ref (b 0) :: st) :=
  JL_callMi C (As := [.int v1]) (n := 1) (c_X4_form h) h1 mw_682 mw_683 mw_6 mw_684 (by decide +kernel) ⟨Nat.le_of_ble_eq_true rfl, Nat.le_of_ble_eq_true rfl⟩ rfl rfl hst hd k
theorem kL_X4_missing (C : Lx x g a b b0 Ln xs) {index : Nat} {K : Int32 → MW → Prop} {v1 : Int32} (h1 : Cond.methodLink RL index yX4_missing ∈ gT) (hd : decode code pc = .ok (.invokevirtual index, 3)) (hst : (st.map fun v => v.category).sum ≤ 8) (h : P_X4_missing K mw v1) (k : ∀ (r : Int32) (w' : MW), K r w' → J x g (lA x) (lCl g a b) 4 Q (xw, w') (pc + 3) lv (.int r :: st)) : J x g (lA x) (lCl g a b) 4 Q (xw, mw) pc lv (.int v1 :: .ref (b 0) :: st) :=
  JL_callMi C (As := [.int v1]) (n := 1) (c_X4_missing h) h1 mw_689 mw_690 mw_6 mw_691 (by decide +kernel) ⟨Nat.le_of_ble_eq_true rfl, Nat.le_of_ble_eq_true rfl⟩ rfl rfl hst hd k
theorem kL_X4_lacks (C : Lx x g a b b0 Ln xs) {index : Nat} {K : Int32 → MW → Prop} {v1 : Int32} (h1 : Cond.methodLink RL index yX4_lacks ∈ gT) (hd : decode code pc = .ok (.invokevirtual index, 3)) (hst : (st.map fun v => v.category).sum ≤ 8) (h : P_X4_lacks K mw v1) (k : ∀ (r : Int32) (w' : MW), K r w' → J x g (lA x) (lCl g a b) 4 Q (xw, w') (pc + 3) lv (.int r :: st)) : J x g (lA x) (lCl g a b) 4 Q (xw, mw) pc lv (.int v1 :: .ref (b 0) :: st) :=
  JL_callMi C (As := [.int v1]) (n := 1) (c_X4_lacks h) h1 mw_693 mw_694 mw_6 mw_695 (by decide +kernel) ⟨Nat.le_of_ble_eq_true rfl, Nat.le_of_ble_eq_true rfl⟩ rfl rfl hst hd k
theorem kL_X4_costOf (C : Lx x g a b b0 Ln xs) {index : Nat} {K : Int32 → MW → Prop} {v1 : Int32} {v2 : Int32} {v3 : Int32} (h1 : Cond.methodLink RL index yX4_costOf ∈ gT) (hd : decode code pc = .ok (.invokevirtual index, 3)) (hst : (st.map fun v => v.category).sum ≤ 8) (h : P_X4_costOf K mw v1 v2 v3) (k : ∀ (r : Int32) (w' : MW), K r w' → J x g (lA x) (lCl g a b) 4 Q (xw, w') (pc + 3) lv (.int r :: st)) : J x g (lA x) (lCl g a b) 4 Q (xw, mw) pc lv (.int v3 :: .int v2 :: .int v1 :: .ref (b 0) :: st) :=
  JL_callMi C (As := [.int v1, .int v2, .int v3]) (n := 3) (c_X4_costOf h) h1 mw_697 mw_698 mw_6 mw_699 (by decide +kernel) ⟨Nat.le_of_ble_eq_true rfl, Nat.le_of_ble_eq_true rfl⟩ rfl rfl hst hd k
theorem kL_X4_fits (C : Lx x g a b b0 Ln xs) {index : Nat} {K : Int32 → MW → Prop} {v1 : Int32} (h1 : Cond.methodLink RL index yX4_fits ∈ gT) (hd : decode code pc = .ok (.invokevirtual index, 3)) (hst : (st.map fun v => v.category).sum ≤ 8) (h : P_X4_fits K mw v1) (k : ∀ (r : Int32) (w' : MW), K r w' → J x g (lA x) (lCl g a b) 4 Q (xw, w') (pc + 3) lv (.int r :: st)) : J x g (lA x) (lCl g a b) 4 Q (xw, mw) pc lv (.int v1 :: .ref (b 0) :: st) :=
  JL_callMi C (As := [.int v1]) (n := 1) (c_X4_fits h) h1 mw_701 mw_702 mw_6 mw_703 (by decide +kernel) ⟨Nat.le_of_ble_eq_true rfl, Nat.le_of_ble_eq_true rfl⟩ rfl rfl hst hd k
theorem kL_X4_doubt (C : Lx x g a b b0 Ln xs) {index : Nat} {K : Int32 → MW → Prop} {v1 : Int32} (h1 : Cond.methodLink RL index yX4_doubt ∈ gT) (hd : decode code pc = .ok (.invokevirtual index, 3)) (hst : (st.map fun v => v.category).sum ≤ 8) (h : P_X4_doubt K mw v1) (k : ∀ (r : Int32) (w' : MW), K r w' → J x g (lA x) (lCl g a b) 4 Q (xw, w') (pc + 3) lv (.int r :: st)) : J x g (lA x) (lCl g a b) 4 Q (xw, mw) pc lv (.int v1 :: .ref (b 0) :: st) :=
  JL_callMi C (As := [.int v1]) (n := 1) (c_X4_doubt h) h1 mw_705 mw_706 mw_6 mw_707 (by decide +kernel) ⟨Nat.le_of_ble_eq_true rfl, Nat.le_of_ble_eq_true rfl⟩ rfl rfl hst hd k
theorem kL_X4_parts (C : Lx x g a b b0 Ln xs) {index : Nat} {K : Int32 → MW → Prop} {v1 : Int32} {v2 : Int32} {v3 : Int32} {v4 : Int32} (h1 : Cond.methodLink RL index yX4_parts ∈ gT) (hd : decode code pc = .ok (.invokevirtual index, 3)) (hst : (st.map fun v => v.category).sum ≤ 8) (h : P_X4_parts K mw v1 v2 v3 v4) (k : ∀ (r : Int32) (w' : MW), K r w' → J x g (lA x) (lCl g a b) 4 Q (xw, w') (pc + 3) lv (.int r :: st)) : J x g (lA x) (lCl g a b) 4 Q (xw, mw) pc lv (.int v4 :: .int v3 :: .int v2 :: .int v1 :: .ref (b 0) :: st) :=
  JL_callMi C (As := [.int v1, .int v2, .int v3, .int v4]) (n := 4) (c_X4_parts h) h1 mw_709 mw_710 mw_6 mw_711 (by decide +kernel) ⟨Nat.le_of_ble_eq_true rfl, Nat.le_of_ble_eq_true rfl⟩ rfl rfl hst hd k
theorem kL_X4_value (C : Lx x g a b b0 Ln xs) {index : Nat} {K : Int64 → MW → Prop} {v1 : Int32} {v2 : Int32} (h1 : Cond.methodLink RL index yX4_value ∈ gT) (hd : decode code pc = .ok (.invokevirtual index, 3)) (hst : (st.map fun v => v.category).sum ≤ 8) (h : P_X4_value K mw v1 v2) (k : ∀ (r : Int64) (w' : MW), K r w' → J x g (lA x) (lCl g a b) 4 Q (xw, w') (pc + 3) lv (.long r :: st)) : J x g (lA x) (lCl g a b) 4 Q (xw, mw) pc lv (.int v2 :: .int v1 :: .ref (b 0) :: st) :=
  JL_callMl C (As := [.int v1, .int v2]) (n := 2) (c_X4_value h) h1 mw_713 mw_714 mw_6 mw_715 (by decide +kernel) ⟨Nat.le_of_ble_eq_true rfl, Nat.le_of_ble_eq_true rfl⟩ rfl rfl hst hd k
theorem kL_X4_back (C : Lx x g a b b0 Ln xs) {index : Nat} {K : Int32 → MW → Prop} {v1 : Int32} {v2 : Int32} {v3 : Int32} (h1 : Cond.methodLink RL index yX4_back ∈ gT) (hd : decode code pc = .ok (.invokevirtual index, 3)) (hst : (st.map fun v => v.category).sum ≤ 8) (h : P_X4_back K mw v1 v2 v3) (k : ∀ (r : Int32) (w' : MW), K r w' → J x g (lA x) (lCl g a b) 4 Q (xw, w') (pc + 3) lv (.int r :: st)) : J x g (lA x) (lCl g a b) 4 Q (xw, mw) pc lv (.int v3 :: .int v2 :: .int v1 :: .ref (b 0) :: st) :=
  JL_callMi C (As := [.int v1, .int v2, .int v3]) (n := 3) (c_X4_back h) h1 mw_720 mw_721 mw_6 mw_722 (by decide +kernel) ⟨Nat.le_of_ble_eq_true rfl, Nat.le_of_ble_eq_true rfl⟩ rfl rfl hst hd k
theorem kL_X4_key (C : Lx x g a b b0 Ln xs) {index : Nat} {K : Int32 → MW → Prop} {v1 : Int32} (h1 : Cond.methodLink RL index yX4_key ∈ gT) (hd : decode code pc = .ok (.invokevirtual index, 3)) (hst : (st.map fun v => v.category).sum ≤ 8) (h : P_X4_key K mw v1) (k : ∀ (r : Int32) (w' : MW), K r w' → J x g (lA x) (lCl g a b) 4 Q (xw, w') (pc + 3) lv (.int r :: st)) : J x g (lA x) (lCl g a b) 4 Q (xw, mw) pc lv (.int v1 :: .ref (b 0) :: st) :=
  JL_callMi C (As := [.int v1]) (n := 1) (c_X4_key h) h1 mw_742 mw_743 mw_6 mw_744 (by decide +kernel) ⟨Nat.le_of_ble_eq_true rfl, Nat.le_of_ble_eq_true rfl⟩ rfl rfl hst hd k
end
def P_L_law_797 (xs : Nat → Int32) (Ln : Nat) (K : Prop) (B18 : (XW × MW) → Int32 → Prop) (w : XW × MW) (v3 : Int32) : Prop := B18 w (v3 + (6 : Int32))
set_option maxRecDepth 10000 in
theorem s_L_law_797 {x : Mx} {g : Gd} {a b : Nat → Nat} {b0 Ln : Nat} {xs : Nat → Int32} (CL : Lx x g a b b0 Ln xs) {K : Prop}  {v3 : Int32} {B18 : (XW × MW) → Int32 → Prop} (hB18 : ∀ (w : (XW × MW)) (v3 : Int32), B18 w v3 → J x g (lA x) (lCl g a b) 4 (lQ x) w 18 [(0, .ref b0), (1, .ref (a 0)), (2, .ref (b 0)), (3, .int v3)] []) {w : XW × MW} (h : P_L_law_797 xs Ln K B18 w v3) : J x g (lA x) (lCl g a b) 4 (lQ x) w 797 [(0, .ref b0), (1, .ref (a 0)), (2, .ref (b 0)), (3, .int v3)] [] := by
  have C := CL.1
  unfold P_L_law_797 at h
  refine J_iinc C 3 [(3, .int (v3 + (6 : Int32))), (0, .ref b0), (1, .ref (a 0)), (2, .ref (b 0))] dL_law_797 rfl rfl (by decide) rfl ?_
  refine J_goto (tgt := 18) C dL_law_800 (by decide) ?_
  refine J_lv [1, 2, 3, 0] rfl ?_
  exact hB18 _ _ h
def P_L_law_18 (xs : Nat → Int32) (Ln : Nat) (K : Prop) : Nat → XW × MW → Int32 → Prop
  | 0, _, _ => False
  | n + 1, w, v3 => (((nI Ln) - (6 : Int32)) < v3 → True) ∧ (¬ ((nI Ln) - (6 : Int32)) < v3 → vp_in v3 Ln ∧ ((((xs v3.toNatClampNeg) &&& (31 : Int32)) = (0 : Int32) → vp_in (v3 + (1 : Int32)) Ln ∧ (vp_in (v3 + (2 : Int32)) Ln ∧ (vp_in (v3 + (3 : Int32)) Ln ∧ (vp_in (v3 + (4 : Int32)) Ln ∧ (vp_in (v3 + (5 : Int32)) Ln ∧ (P_X3_feed (fun r_1 w_2 => vp_in (v3 + (1 : Int32)) Ln ∧ (vp_in (v3 + (2 : Int32)) Ln ∧ (vp_in (v3 + (3 : Int32)) Ln ∧ (vp_in (v3 + (4 : Int32)) Ln ∧ (vp_in (v3 + (5 : Int32)) Ln ∧ (P_X4_feed (fun r_3 w_4 => P_L_law_797 xs Ln K (P_L_law_18 xs Ln K n) (w_2, w_4) v3) (w.2) (xs (v3 + (1 : Int32)).toNatClampNeg) (xs (v3 + (2 : Int32)).toNatClampNeg) (xs (v3 + (3 : Int32)).toNatClampNeg) (xs (v3 + (4 : Int32)).toNatClampNeg) (xs (v3 + (5 : Int32)).toNatClampNeg))))))) (w.1) (xs (v3 + (1 : Int32)).toNatClampNeg) (xs (v3 + (2 : Int32)).toNatClampNeg) (xs (v3 + (3 : Int32)).toNatClampNeg) (xs (v3 + (4 : Int32)).toNatClampNeg) (xs (v3 + (5 : Int32)).toNatClampNeg))))))) ∧ (((xs v3.toNatClampNeg) &&& (31 : Int32)) = (1 : Int32) → vp_in (v3 + (1 : Int32)) Ln ∧ (P_X3_add (fun r_5 w_6 => vp_in (v3 + (1 : Int32)) Ln ∧ (P_X4_add (fun r_7 w_8 => P_L_law_797 xs Ln K (P_L_law_18 xs Ln K n) (w_6, w_8) v3) (w.2) (xs (v3 + (1 : Int32)).toNatClampNeg))) (w.1) (xs (v3 + (1 : Int32)).toNatClampNeg))) ∧ (((xs v3.toNatClampNeg) &&& (31 : Int32)) = (2 : Int32) → P_X3_clear (fun w_9 => P_X4_clear (fun w_10 => P_L_law_797 xs Ln K (P_L_law_18 xs Ln K n) (w_9, w_10) v3) (w.2)) (w.1)) ∧ (((xs v3.toNatClampNeg) &&& (31 : Int32)) = (3 : Int32) → vp_in (v3 + (1 : Int32)) Ln ∧ (P_X3_reads (fun r_11 w_12 => vp_in (v3 + (1 : Int32)) Ln ∧ (P_X4_reads (fun r_13 w_14 => P_L_law_797 xs Ln K (P_L_law_18 xs Ln K n) (w_12, w_14) v3) (w.2) (xs (v3 + (1 : Int32)).toNatClampNeg))) (w.1) (xs (v3 + (1 : Int32)).toNatClampNeg))) ∧ (((xs v3.toNatClampNeg) &&& (31 : Int32)) = (4 : Int32) → vp_in (v3 + (1 : Int32)) Ln ∧ (P_X3_faultAt (fun r_15 w_16 => vp_in (v3 + (1 : Int32)) Ln ∧ (P_X4_faultAt (fun r_17 w_18 => P_L_law_797 xs Ln K (P_L_law_18 xs Ln K n) (w_16, w_18) v3) (w.2) (xs (v3 + (1 : Int32)).toNatClampNeg))) (w.1) (xs (v3 + (1 : Int32)).toNatClampNeg))) ∧ (((xs v3.toNatClampNeg) &&& (31 : Int32)) = (5 : Int32) → vp_in (v3 + (1 : Int32)) Ln ∧ (P_X3_cost (fun r_19 w_20 => vp_in (v3 + (1 : Int32)) Ln ∧ (P_X4_cost (fun r_21 w_22 => P_L_law_797 xs Ln K (P_L_law_18 xs Ln K n) (w_20, w_22) v3) (w.2) (xs (v3 + (1 : Int32)).toNatClampNeg))) (w.1) (xs (v3 + (1 : Int32)).toNatClampNeg))) ∧ (((xs v3.toNatClampNeg) &&& (31 : Int32)) = (6 : Int32) → P_X3_best (fun r_23 w_24 => P_X4_best (fun r_25 w_26 => P_L_law_797 xs Ln K (P_L_law_18 xs Ln K n) (w_24, w_26) v3) (w.2)) (w.1)) ∧ (((xs v3.toNatClampNeg) &&& (31 : Int32)) = (7 : Int32) → vp_in (v3 + (1 : Int32)) Ln ∧ (P_X3_use (fun r_27 w_28 => vp_in (v3 + (1 : Int32)) Ln ∧ (P_X4_use (fun r_29 w_30 => P_L_law_797 xs Ln K (P_L_law_18 xs Ln K n) (w_28, w_30) v3) (w.2) (xs (v3 + (1 : Int32)).toNatClampNeg))) (w.1) (xs (v3 + (1 : Int32)).toNatClampNeg))) ∧ (((xs v3.toNatClampNeg) &&& (31 : Int32)) = (8 : Int32) → vp_in (v3 + (1 : Int32)) Ln ∧ (P_X3_about (fun r_31 w_32 => vp_in (v3 + (1 : Int32)) Ln ∧ (P_X4_about (fun r_33 w_34 => P_L_law_797 xs Ln K (P_L_law_18 xs Ln K n) (w_32, w_34) v3) (w.2) (xs (v3 + (1 : Int32)).toNatClampNeg))) (w.1) (xs (v3 + (1 : Int32)).toNatClampNeg))) ∧ (((xs v3.toNatClampNeg) &&& (31 : Int32)) = (9 : Int32) → vp_in (v3 + (1 : Int32)) Ln ∧ (P_X3_odd (fun r_35 w_36 => vp_in (v3 + (1 : Int32)) Ln ∧ (P_X4_odd (fun r_37 w_38 => P_L_law_797 xs Ln K (P_L_law_18 xs Ln K n) (w_36, w_38) v3) (w.2) (xs (v3 + (1 : Int32)).toNatClampNeg))) (w.1) (xs (v3 + (1 : Int32)).toNatClampNeg))) ∧ (((xs v3.toNatClampNeg) &&& (31 : Int32)) = (10 : Int32) → vp_in (v3 + (1 : Int32)) Ln ∧ (P_X3_breadth (fun r_39 w_40 => vp_in (v3 + (1 : Int32)) Ln ∧ (P_X4_breadth (fun r_41 w_42 => P_L_law_797 xs Ln K (P_L_law_18 xs Ln K n) (w_40, w_42) v3) (w.2) (xs (v3 + (1 : Int32)).toNatClampNeg))) (w.1) (xs (v3 + (1 : Int32)).toNatClampNeg))) ∧ (((xs v3.toNatClampNeg) &&& (31 : Int32)) = (11 : Int32) → vp_in (v3 + (1 : Int32)) Ln ∧ (vp_in (v3 + (2 : Int32)) Ln ∧ (P_X3_size (fun r_43 w_44 => vp_in (v3 + (1 : Int32)) Ln ∧ (vp_in (v3 + (2 : Int32)) Ln ∧ (P_X4_size (fun r_45 w_46 => P_L_law_797 xs Ln K (P_L_law_18 xs Ln K n) (w_44, w_46) v3) (w.2) (xs (v3 + (1 : Int32)).toNatClampNeg) (xs (v3 + (2 : Int32)).toNatClampNeg)))) (w.1) (xs (v3 + (1 : Int32)).toNatClampNeg) (xs (v3 + (2 : Int32)).toNatClampNeg)))) ∧ (((xs v3.toNatClampNeg) &&& (31 : Int32)) = (12 : Int32) → vp_in (v3 + (1 : Int32)) Ln ∧ (vp_in (v3 + (2 : Int32)) Ln ∧ (vp_in (v3 + (3 : Int32)) Ln ∧ (P_X3_at (fun r_47 w_48 => vp_in (v3 + (1 : Int32)) Ln ∧ (vp_in (v3 + (2 : Int32)) Ln ∧ (vp_in (v3 + (3 : Int32)) Ln ∧ (P_X4_at (fun r_49 w_50 => P_L_law_797 xs Ln K (P_L_law_18 xs Ln K n) (w_48, w_50) v3) (w.2) (xs (v3 + (1 : Int32)).toNatClampNeg) (xs (v3 + (2 : Int32)).toNatClampNeg) (xs (v3 + (3 : Int32)).toNatClampNeg))))) (w.1) (xs (v3 + (1 : Int32)).toNatClampNeg) (xs (v3 + (2 : Int32)).toNatClampNeg) (xs (v3 + (3 : Int32)).toNatClampNeg))))) ∧ (((xs v3.toNatClampNeg) &&& (31 : Int32)) = (13 : Int32) → vp_in (v3 + (1 : Int32)) Ln ∧ (P_X3_form (fun r_51 w_52 => vp_in (v3 + (1 : Int32)) Ln ∧ (P_X4_form (fun r_53 w_54 => P_L_law_797 xs Ln K (P_L_law_18 xs Ln K n) (w_52, w_54) v3) (w.2) (xs (v3 + (1 : Int32)).toNatClampNeg))) (w.1) (xs (v3 + (1 : Int32)).toNatClampNeg))) ∧ (((xs v3.toNatClampNeg) &&& (31 : Int32)) = (14 : Int32) → vp_in (v3 + (1 : Int32)) Ln ∧ (P_X3_missing (fun r_55 w_56 => vp_in (v3 + (1 : Int32)) Ln ∧ (P_X4_missing (fun r_57 w_58 => P_L_law_797 xs Ln K (P_L_law_18 xs Ln K n) (w_56, w_58) v3) (w.2) (xs (v3 + (1 : Int32)).toNatClampNeg))) (w.1) (xs (v3 + (1 : Int32)).toNatClampNeg))) ∧ (((xs v3.toNatClampNeg) &&& (31 : Int32)) = (15 : Int32) → vp_in (v3 + (1 : Int32)) Ln ∧ (P_X3_lacks (fun r_59 w_60 => vp_in (v3 + (1 : Int32)) Ln ∧ (P_X4_lacks (fun r_61 w_62 => P_L_law_797 xs Ln K (P_L_law_18 xs Ln K n) (w_60, w_62) v3) (w.2) (xs (v3 + (1 : Int32)).toNatClampNeg))) (w.1) (xs (v3 + (1 : Int32)).toNatClampNeg))) ∧ (((xs v3.toNatClampNeg) &&& (31 : Int32)) = (16 : Int32) → vp_in (v3 + (1 : Int32)) Ln ∧ (vp_in (v3 + (2 : Int32)) Ln ∧ (vp_in (v3 + (3 : Int32)) Ln ∧ (P_X3_costOf (fun r_63 w_64 => vp_in (v3 + (1 : Int32)) Ln ∧ (vp_in (v3 + (2 : Int32)) Ln ∧ (vp_in (v3 + (3 : Int32)) Ln ∧ (P_X4_costOf (fun r_65 w_66 => P_L_law_797 xs Ln K (P_L_law_18 xs Ln K n) (w_64, w_66) v3) (w.2) (xs (v3 + (1 : Int32)).toNatClampNeg) (xs (v3 + (2 : Int32)).toNatClampNeg) (xs (v3 + (3 : Int32)).toNatClampNeg))))) (w.1) (xs (v3 + (1 : Int32)).toNatClampNeg) (xs (v3 + (2 : Int32)).toNatClampNeg) (xs (v3 + (3 : Int32)).toNatClampNeg))))) ∧ (((xs v3.toNatClampNeg) &&& (31 : Int32)) = (17 : Int32) → vp_in (v3 + (1 : Int32)) Ln ∧ (P_X3_fits (fun r_67 w_68 => vp_in (v3 + (1 : Int32)) Ln ∧ (P_X4_fits (fun r_69 w_70 => P_L_law_797 xs Ln K (P_L_law_18 xs Ln K n) (w_68, w_70) v3) (w.2) (xs (v3 + (1 : Int32)).toNatClampNeg))) (w.1) (xs (v3 + (1 : Int32)).toNatClampNeg))) ∧ (((xs v3.toNatClampNeg) &&& (31 : Int32)) = (18 : Int32) → vp_in (v3 + (1 : Int32)) Ln ∧ (P_X3_doubt (fun r_71 w_72 => vp_in (v3 + (1 : Int32)) Ln ∧ (P_X4_doubt (fun r_73 w_74 => (r_71 = r_73 → P_L_law_797 xs Ln K (P_L_law_18 xs Ln K n) (w_72, w_74) v3) ∧ (¬ r_71 = r_73 → False)) (w.2) (xs (v3 + (1 : Int32)).toNatClampNeg))) (w.1) (xs (v3 + (1 : Int32)).toNatClampNeg))) ∧ (((xs v3.toNatClampNeg) &&& (31 : Int32)) = (19 : Int32) → vp_in (v3 + (1 : Int32)) Ln ∧ (vp_in (v3 + (2 : Int32)) Ln ∧ (vp_in (v3 + (3 : Int32)) Ln ∧ (vp_in (v3 + (4 : Int32)) Ln ∧ (P_X3_parts (fun r_75 w_76 => vp_in (v3 + (1 : Int32)) Ln ∧ (vp_in (v3 + (2 : Int32)) Ln ∧ (vp_in (v3 + (3 : Int32)) Ln ∧ (vp_in (v3 + (4 : Int32)) Ln ∧ (P_X4_parts (fun r_77 w_78 => P_L_law_797 xs Ln K (P_L_law_18 xs Ln K n) (w_76, w_78) v3) (w.2) (xs (v3 + (1 : Int32)).toNatClampNeg) (xs (v3 + (2 : Int32)).toNatClampNeg) (xs (v3 + (3 : Int32)).toNatClampNeg) (xs (v3 + (4 : Int32)).toNatClampNeg)))))) (w.1) (xs (v3 + (1 : Int32)).toNatClampNeg) (xs (v3 + (2 : Int32)).toNatClampNeg) (xs (v3 + (3 : Int32)).toNatClampNeg) (xs (v3 + (4 : Int32)).toNatClampNeg)))))) ∧ (((xs v3.toNatClampNeg) &&& (31 : Int32)) = (20 : Int32) → vp_in (v3 + (1 : Int32)) Ln ∧ (vp_in (v3 + (2 : Int32)) Ln ∧ (P_X3_value (fun r_79 w_80 => vp_in (v3 + (1 : Int32)) Ln ∧ (vp_in (v3 + (2 : Int32)) Ln ∧ (P_X4_value (fun r_81 w_82 => P_L_law_797 xs Ln K (P_L_law_18 xs Ln K n) (w_80, w_82) v3) (w.2) (xs (v3 + (1 : Int32)).toNatClampNeg) (xs (v3 + (2 : Int32)).toNatClampNeg)))) (w.1) (xs (v3 + (1 : Int32)).toNatClampNeg) (xs (v3 + (2 : Int32)).toNatClampNeg)))) ∧ (((xs v3.toNatClampNeg) &&& (31 : Int32)) = (21 : Int32) → vp_in (v3 + (1 : Int32)) Ln ∧ (vp_in (v3 + (2 : Int32)) Ln ∧ (vp_in (v3 + (3 : Int32)) Ln ∧ (P_X3_back (fun r_83 w_84 => vp_in (v3 + (1 : Int32)) Ln ∧ (vp_in (v3 + (2 : Int32)) Ln ∧ (vp_in (v3 + (3 : Int32)) Ln ∧ (P_X4_back (fun r_85 w_86 => P_L_law_797 xs Ln K (P_L_law_18 xs Ln K n) (w_84, w_86) v3) (w.2) (xs (v3 + (1 : Int32)).toNatClampNeg) (xs (v3 + (2 : Int32)).toNatClampNeg) (xs (v3 + (3 : Int32)).toNatClampNeg))))) (w.1) (xs (v3 + (1 : Int32)).toNatClampNeg) (xs (v3 + (2 : Int32)).toNatClampNeg) (xs (v3 + (3 : Int32)).toNatClampNeg))))) ∧ (((xs v3.toNatClampNeg) &&& (31 : Int32)) = (22 : Int32) → vp_in (v3 + (1 : Int32)) Ln ∧ (P_X3_key (fun r_87 w_88 => vp_in (v3 + (1 : Int32)) Ln ∧ (P_X4_key (fun r_89 w_90 => P_L_law_797 xs Ln K (P_L_law_18 xs Ln K n) (w_88, w_90) v3) (w.2) (xs (v3 + (1 : Int32)).toNatClampNeg))) (w.1) (xs (v3 + (1 : Int32)).toNatClampNeg))) ∧ (¬ ((xs v3.toNatClampNeg) &&& (31 : Int32)) = (0 : Int32) → ¬ ((xs v3.toNatClampNeg) &&& (31 : Int32)) = (1 : Int32) → ¬ ((xs v3.toNatClampNeg) &&& (31 : Int32)) = (2 : Int32) → ¬ ((xs v3.toNatClampNeg) &&& (31 : Int32)) = (3 : Int32) → ¬ ((xs v3.toNatClampNeg) &&& (31 : Int32)) = (4 : Int32) → ¬ ((xs v3.toNatClampNeg) &&& (31 : Int32)) = (5 : Int32) → ¬ ((xs v3.toNatClampNeg) &&& (31 : Int32)) = (6 : Int32) → ¬ ((xs v3.toNatClampNeg) &&& (31 : Int32)) = (7 : Int32) → ¬ ((xs v3.toNatClampNeg) &&& (31 : Int32)) = (8 : Int32) → ¬ ((xs v3.toNatClampNeg) &&& (31 : Int32)) = (9 : Int32) → ¬ ((xs v3.toNatClampNeg) &&& (31 : Int32)) = (10 : Int32) → ¬ ((xs v3.toNatClampNeg) &&& (31 : Int32)) = (11 : Int32) → ¬ ((xs v3.toNatClampNeg) &&& (31 : Int32)) = (12 : Int32) → ¬ ((xs v3.toNatClampNeg) &&& (31 : Int32)) = (13 : Int32) → ¬ ((xs v3.toNatClampNeg) &&& (31 : Int32)) = (14 : Int32) → ¬ ((xs v3.toNatClampNeg) &&& (31 : Int32)) = (15 : Int32) → ¬ ((xs v3.toNatClampNeg) &&& (31 : Int32)) = (16 : Int32) → ¬ ((xs v3.toNatClampNeg) &&& (31 : Int32)) = (17 : Int32) → ¬ ((xs v3.toNatClampNeg) &&& (31 : Int32)) = (18 : Int32) → ¬ ((xs v3.toNatClampNeg) &&& (31 : Int32)) = (19 : Int32) → ¬ ((xs v3.toNatClampNeg) &&& (31 : Int32)) = (20 : Int32) → ¬ ((xs v3.toNatClampNeg) &&& (31 : Int32)) = (21 : Int32) → ¬ ((xs v3.toNatClampNeg) &&& (31 : Int32)) = (22 : Int32) → P_L_law_797 xs Ln K (P_L_law_18 xs Ln K n) w v3)))
set_option maxRecDepth 10000 in
theorem s_L_law_18 {x : Mx} {g : Gd} {a b : Nat → Nat} {b0 Ln : Nat} {xs : Nat → Int32} (CL : Lx x g a b b0 Ln xs) {K : Prop}  : ∀ (n : Nat) (w : XW × MW) (v3 : Int32), P_L_law_18 xs Ln K n w v3 → J x g (lA x) (lCl g a b) 4 (lQ x) w 18 [(0, .ref b0), (1, .ref (a 0)), (2, .ref (b 0)), (3, .int v3)] [] := by
  have C := CL.1
  intro n
  induction n with
  | zero => intro w v3 h; exact h.elim
  | succ n ih =>
    intro w v3 h
    unfold P_L_law_18 at h
    refine J_iload_n C 3 dL_law_18 rfl rfl ?_
    refine J_aload_n C 0 dL_law_19 rfl rfl ?_
    refine JL_slen CL dL_law_20 ?_
    refine J_bipush (v := (6 : Int32)) C dL_law_21 (by decide) ?_
    refine J_isub C dL_law_23 ?_
    refine J_icmp_gt (tgt := 803) C dL_law_24 (by decide) h (fun h => ?_) (fun h => ?_)
    · refine J_iconst (v := (1 : Int32)) C dL_law_803 (by decide) ?_
      exact JL_ret CL dL_law_804
    · refine J_aload_n C 0 dL_law_27 rfl rfl ?_
      refine J_iload_n C 3 dL_law_28 rfl rfl ?_
      refine JL_sld CL dL_law_29 h (fun h => ?_)
      refine J_bipush (v := (31 : Int32)) C dL_law_30 (by decide) ?_
      refine J_iand C dL_law_32 ?_
      by_cases e0 : ((xs v3.toNatClampNeg) &&& (31 : Int32)) = (0 : Int32)
      · replace h := h.1 e0
        refine J_tsIn (tgt := 140) C dL_law_33 (by rw [e0]; decide) (by rw [e0]; decide) (by rw [e0]; rfl) (by decide) ?_
        refine J_aload_n C 1 dL_law_140 rfl rfl ?_
        refine J_aload_n C 0 dL_law_141 rfl rfl ?_
        refine J_iload_n C 3 dL_law_142 rfl rfl ?_
        refine J_iconst (v := (1 : Int32)) C dL_law_143 (by decide) ?_
        refine J_iadd C dL_law_144 ?_
        refine JL_sld CL dL_law_145 h (fun h => ?_)
        refine J_aload_n C 0 dL_law_146 rfl rfl ?_
        refine J_iload_n C 3 dL_law_147 rfl rfl ?_
        refine J_iconst (v := (2 : Int32)) C dL_law_148 (by decide) ?_
        refine J_iadd C dL_law_149 ?_
        refine JL_sld CL dL_law_150 h (fun h => ?_)
        refine J_aload_n C 0 dL_law_151 rfl rfl ?_
        refine J_iload_n C 3 dL_law_152 rfl rfl ?_
        refine J_iconst (v := (3 : Int32)) C dL_law_153 (by decide) ?_
        refine J_iadd C dL_law_154 ?_
        refine JL_sld CL dL_law_155 h (fun h => ?_)
        refine J_aload_n C 0 dL_law_156 rfl rfl ?_
        refine J_iload_n C 3 dL_law_157 rfl rfl ?_
        refine J_iconst (v := (4 : Int32)) C dL_law_158 (by decide) ?_
        refine J_iadd C dL_law_159 ?_
        refine JL_sld CL dL_law_160 h (fun h => ?_)
        refine J_aload_n C 0 dL_law_161 rfl rfl ?_
        refine J_iload_n C 3 dL_law_162 rfl rfl ?_
        refine J_iconst (v := (5 : Int32)) C dL_law_163 (by decide) ?_
        refine J_iadd C dL_law_164 ?_
        refine JL_sld CL dL_law_165 h (fun h => ?_)
        refine kL_X3_feed (xw := w.1) (mw := w.2) CL mw_88 dL_law_166 (Nat.le_of_ble_eq_true rfl) h (fun r_1 w_2 h => ?_)
        refine J_pop C dL_law_169 rfl ?_
        refine J_aload_n C 2 dL_law_170 rfl rfl ?_
        refine J_aload_n C 0 dL_law_171 rfl rfl ?_
        refine J_iload_n C 3 dL_law_172 rfl rfl ?_
        refine J_iconst (v := (1 : Int32)) C dL_law_173 (by decide) ?_
        refine J_iadd C dL_law_174 ?_
        refine JL_sld CL dL_law_175 h (fun h => ?_)
        refine J_aload_n C 0 dL_law_176 rfl rfl ?_
        refine J_iload_n C 3 dL_law_177 rfl rfl ?_
        refine J_iconst (v := (2 : Int32)) C dL_law_178 (by decide) ?_
        refine J_iadd C dL_law_179 ?_
        refine JL_sld CL dL_law_180 h (fun h => ?_)
        refine J_aload_n C 0 dL_law_181 rfl rfl ?_
        refine J_iload_n C 3 dL_law_182 rfl rfl ?_
        refine J_iconst (v := (3 : Int32)) C dL_law_183 (by decide) ?_
        refine J_iadd C dL_law_184 ?_
        refine JL_sld CL dL_law_185 h (fun h => ?_)
        refine J_aload_n C 0 dL_law_186 rfl rfl ?_
        refine J_iload_n C 3 dL_law_187 rfl rfl ?_
        refine J_iconst (v := (4 : Int32)) C dL_law_188 (by decide) ?_
        refine J_iadd C dL_law_189 ?_
        refine JL_sld CL dL_law_190 h (fun h => ?_)
        refine J_aload_n C 0 dL_law_191 rfl rfl ?_
        refine J_iload_n C 3 dL_law_192 rfl rfl ?_
        refine J_iconst (v := (5 : Int32)) C dL_law_193 (by decide) ?_
        refine J_iadd C dL_law_194 ?_
        refine JL_sld CL dL_law_195 h (fun h => ?_)
        refine kL_X4_feed (xw := w_2) (mw := w.2) CL mw_489 dL_law_196 (Nat.le_of_ble_eq_true rfl) h (fun r_3 w_4 h => ?_)
        refine J_pop C dL_law_199 rfl ?_
        refine J_goto (tgt := 797) C dL_law_200 (by decide) ?_
        refine J_lv [0, 1, 2, 3] rfl ?_
        exact s_L_law_797 CL ih h
      replace h := h.2
      by_cases e1 : ((xs v3.toNatClampNeg) &&& (31 : Int32)) = (1 : Int32)
      · replace h := h.1 e1
        refine J_tsIn (tgt := 203) C dL_law_33 (by rw [e1]; decide) (by rw [e1]; decide) (by rw [e1]; rfl) (by decide) ?_
        refine J_aload_n C 1 dL_law_203 rfl rfl ?_
        refine J_aload_n C 0 dL_law_204 rfl rfl ?_
        refine J_iload_n C 3 dL_law_205 rfl rfl ?_
        refine J_iconst (v := (1 : Int32)) C dL_law_206 (by decide) ?_
        refine J_iadd C dL_law_207 ?_
        refine JL_sld CL dL_law_208 h (fun h => ?_)
        refine kL_X3_add (xw := w.1) (mw := w.2) CL mw_95 dL_law_209 (Nat.le_of_ble_eq_true rfl) h (fun r_5 w_6 h => ?_)
        refine J_pop C dL_law_212 rfl ?_
        refine J_aload_n C 2 dL_law_213 rfl rfl ?_
        refine J_aload_n C 0 dL_law_214 rfl rfl ?_
        refine J_iload_n C 3 dL_law_215 rfl rfl ?_
        refine J_iconst (v := (1 : Int32)) C dL_law_216 (by decide) ?_
        refine J_iadd C dL_law_217 ?_
        refine JL_sld CL dL_law_218 h (fun h => ?_)
        refine kL_X4_add (xw := w_6) (mw := w.2) CL mw_496 dL_law_219 (Nat.le_of_ble_eq_true rfl) h (fun r_7 w_8 h => ?_)
        refine J_pop C dL_law_222 rfl ?_
        refine J_goto (tgt := 797) C dL_law_223 (by decide) ?_
        refine J_lv [0, 1, 2, 3] rfl ?_
        exact s_L_law_797 CL ih h
      replace h := h.2
      by_cases e2 : ((xs v3.toNatClampNeg) &&& (31 : Int32)) = (2 : Int32)
      · replace h := h.1 e2
        refine J_tsIn (tgt := 226) C dL_law_33 (by rw [e2]; decide) (by rw [e2]; decide) (by rw [e2]; rfl) (by decide) ?_
        refine J_aload_n C 1 dL_law_226 rfl rfl ?_
        refine kL_X3_clear (xw := w.1) (mw := w.2) CL mw_105 dL_law_227 (Nat.le_of_ble_eq_true rfl) h (fun w_9 h => ?_)
        refine J_aload_n C 2 dL_law_230 rfl rfl ?_
        refine kL_X4_clear (xw := w_9) (mw := w.2) CL mw_506 dL_law_231 (Nat.le_of_ble_eq_true rfl) h (fun w_10 h => ?_)
        refine J_goto (tgt := 797) C dL_law_234 (by decide) ?_
        refine J_lv [0, 1, 2, 3] rfl ?_
        exact s_L_law_797 CL ih h
      replace h := h.2
      by_cases e3 : ((xs v3.toNatClampNeg) &&& (31 : Int32)) = (3 : Int32)
      · replace h := h.1 e3
        refine J_tsIn (tgt := 237) C dL_law_33 (by rw [e3]; decide) (by rw [e3]; decide) (by rw [e3]; rfl) (by decide) ?_
        refine J_aload_n C 1 dL_law_237 rfl rfl ?_
        refine J_aload_n C 0 dL_law_238 rfl rfl ?_
        refine J_iload_n C 3 dL_law_239 rfl rfl ?_
        refine J_iconst (v := (1 : Int32)) C dL_law_240 (by decide) ?_
        refine J_iadd C dL_law_241 ?_
        refine JL_sld CL dL_law_242 h (fun h => ?_)
        refine kL_X3_reads (xw := w.1) (mw := w.2) CL mw_109 dL_law_243 (Nat.le_of_ble_eq_true rfl) h (fun r_11 w_12 h => ?_)
        refine J_pop C dL_law_246 rfl ?_
        refine J_aload_n C 2 dL_law_247 rfl rfl ?_
        refine J_aload_n C 0 dL_law_248 rfl rfl ?_
        refine J_iload_n C 3 dL_law_249 rfl rfl ?_
        refine J_iconst (v := (1 : Int32)) C dL_law_250 (by decide) ?_
        refine J_iadd C dL_law_251 ?_
        refine JL_sld CL dL_law_252 h (fun h => ?_)
        refine kL_X4_reads (xw := w_12) (mw := w.2) CL mw_510 dL_law_253 (Nat.le_of_ble_eq_true rfl) h (fun r_13 w_14 h => ?_)
        refine J_pop C dL_law_256 rfl ?_
        refine J_goto (tgt := 797) C dL_law_257 (by decide) ?_
        refine J_lv [0, 1, 2, 3] rfl ?_
        exact s_L_law_797 CL ih h
      replace h := h.2
      by_cases e4 : ((xs v3.toNatClampNeg) &&& (31 : Int32)) = (4 : Int32)
      · replace h := h.1 e4
        refine J_tsIn (tgt := 260) C dL_law_33 (by rw [e4]; decide) (by rw [e4]; decide) (by rw [e4]; rfl) (by decide) ?_
        refine J_aload_n C 1 dL_law_260 rfl rfl ?_
        refine J_aload_n C 0 dL_law_261 rfl rfl ?_
        refine J_iload_n C 3 dL_law_262 rfl rfl ?_
        refine J_iconst (v := (1 : Int32)) C dL_law_263 (by decide) ?_
        refine J_iadd C dL_law_264 ?_
        refine JL_sld CL dL_law_265 h (fun h => ?_)
        refine kL_X3_faultAt (xw := w.1) (mw := w.2) CL mw_150 dL_law_266 (Nat.le_of_ble_eq_true rfl) h (fun r_15 w_16 h => ?_)
        refine J_pop C dL_law_269 rfl ?_
        refine J_aload_n C 2 dL_law_270 rfl rfl ?_
        refine J_aload_n C 0 dL_law_271 rfl rfl ?_
        refine J_iload_n C 3 dL_law_272 rfl rfl ?_
        refine J_iconst (v := (1 : Int32)) C dL_law_273 (by decide) ?_
        refine J_iadd C dL_law_274 ?_
        refine JL_sld CL dL_law_275 h (fun h => ?_)
        refine kL_X4_faultAt (xw := w_16) (mw := w.2) CL mw_553 dL_law_276 (Nat.le_of_ble_eq_true rfl) h (fun r_17 w_18 h => ?_)
        refine J_pop C dL_law_279 rfl ?_
        refine J_goto (tgt := 797) C dL_law_280 (by decide) ?_
        refine J_lv [0, 1, 2, 3] rfl ?_
        exact s_L_law_797 CL ih h
      replace h := h.2
      by_cases e5 : ((xs v3.toNatClampNeg) &&& (31 : Int32)) = (5 : Int32)
      · replace h := h.1 e5
        refine J_tsIn (tgt := 283) C dL_law_33 (by rw [e5]; decide) (by rw [e5]; decide) (by rw [e5]; rfl) (by decide) ?_
        refine J_aload_n C 1 dL_law_283 rfl rfl ?_
        refine J_aload_n C 0 dL_law_284 rfl rfl ?_
        refine J_iload_n C 3 dL_law_285 rfl rfl ?_
        refine J_iconst (v := (1 : Int32)) C dL_law_286 (by decide) ?_
        refine J_iadd C dL_law_287 ?_
        refine JL_sld CL dL_law_288 h (fun h => ?_)
        refine kL_X3_cost (xw := w.1) (mw := w.2) CL mw_154 dL_law_289 (Nat.le_of_ble_eq_true rfl) h (fun r_19 w_20 h => ?_)
        refine J_pop C dL_law_292 rfl ?_
        refine J_aload_n C 2 dL_law_293 rfl rfl ?_
        refine J_aload_n C 0 dL_law_294 rfl rfl ?_
        refine J_iload_n C 3 dL_law_295 rfl rfl ?_
        refine J_iconst (v := (1 : Int32)) C dL_law_296 (by decide) ?_
        refine J_iadd C dL_law_297 ?_
        refine JL_sld CL dL_law_298 h (fun h => ?_)
        refine kL_X4_cost (xw := w_20) (mw := w.2) CL mw_557 dL_law_299 (Nat.le_of_ble_eq_true rfl) h (fun r_21 w_22 h => ?_)
        refine J_pop C dL_law_302 rfl ?_
        refine J_goto (tgt := 797) C dL_law_303 (by decide) ?_
        refine J_lv [0, 1, 2, 3] rfl ?_
        exact s_L_law_797 CL ih h
      replace h := h.2
      by_cases e6 : ((xs v3.toNatClampNeg) &&& (31 : Int32)) = (6 : Int32)
      · replace h := h.1 e6
        refine J_tsIn (tgt := 306) C dL_law_33 (by rw [e6]; decide) (by rw [e6]; decide) (by rw [e6]; rfl) (by decide) ?_
        refine J_aload_n C 1 dL_law_306 rfl rfl ?_
        refine kL_X3_best (xw := w.1) (mw := w.2) CL mw_327 dL_law_307 (Nat.le_of_ble_eq_true rfl) h (fun r_23 w_24 h => ?_)
        refine J_pop C dL_law_310 rfl ?_
        refine J_aload_n C 2 dL_law_311 rfl rfl ?_
        refine kL_X4_best (xw := w_24) (mw := w.2) CL mw_646 dL_law_312 (Nat.le_of_ble_eq_true rfl) h (fun r_25 w_26 h => ?_)
        refine J_pop C dL_law_315 rfl ?_
        refine J_goto (tgt := 797) C dL_law_316 (by decide) ?_
        refine J_lv [0, 1, 2, 3] rfl ?_
        exact s_L_law_797 CL ih h
      replace h := h.2
      by_cases e7 : ((xs v3.toNatClampNeg) &&& (31 : Int32)) = (7 : Int32)
      · replace h := h.1 e7
        refine J_tsIn (tgt := 319) C dL_law_33 (by rw [e7]; decide) (by rw [e7]; decide) (by rw [e7]; rfl) (by decide) ?_
        refine J_aload_n C 1 dL_law_319 rfl rfl ?_
        refine J_aload_n C 0 dL_law_320 rfl rfl ?_
        refine J_iload_n C 3 dL_law_321 rfl rfl ?_
        refine J_iconst (v := (1 : Int32)) C dL_law_322 (by decide) ?_
        refine J_iadd C dL_law_323 ?_
        refine JL_sld CL dL_law_324 h (fun h => ?_)
        refine kL_X3_use (xw := w.1) (mw := w.2) CL mw_331 dL_law_325 (Nat.le_of_ble_eq_true rfl) h (fun r_27 w_28 h => ?_)
        refine J_pop C dL_law_328 rfl ?_
        refine J_aload_n C 2 dL_law_329 rfl rfl ?_
        refine J_aload_n C 0 dL_law_330 rfl rfl ?_
        refine J_iload_n C 3 dL_law_331 rfl rfl ?_
        refine J_iconst (v := (1 : Int32)) C dL_law_332 (by decide) ?_
        refine J_iadd C dL_law_333 ?_
        refine JL_sld CL dL_law_334 h (fun h => ?_)
        refine kL_X4_use (xw := w_28) (mw := w.2) CL mw_651 dL_law_335 (Nat.le_of_ble_eq_true rfl) h (fun r_29 w_30 h => ?_)
        refine J_pop C dL_law_338 rfl ?_
        refine J_goto (tgt := 797) C dL_law_339 (by decide) ?_
        refine J_lv [0, 1, 2, 3] rfl ?_
        exact s_L_law_797 CL ih h
      replace h := h.2
      by_cases e8 : ((xs v3.toNatClampNeg) &&& (31 : Int32)) = (8 : Int32)
      · replace h := h.1 e8
        refine J_tsIn (tgt := 342) C dL_law_33 (by rw [e8]; decide) (by rw [e8]; decide) (by rw [e8]; rfl) (by decide) ?_
        refine J_aload_n C 1 dL_law_342 rfl rfl ?_
        refine J_aload_n C 0 dL_law_343 rfl rfl ?_
        refine J_iload_n C 3 dL_law_344 rfl rfl ?_
        refine J_iconst (v := (1 : Int32)) C dL_law_345 (by decide) ?_
        refine J_iadd C dL_law_346 ?_
        refine JL_sld CL dL_law_347 h (fun h => ?_)
        refine kL_X3_about (xw := w.1) (mw := w.2) CL mw_335 dL_law_348 (Nat.le_of_ble_eq_true rfl) h (fun r_31 w_32 h => ?_)
        refine J_pop C dL_law_351 rfl ?_
        refine J_aload_n C 2 dL_law_352 rfl rfl ?_
        refine J_aload_n C 0 dL_law_353 rfl rfl ?_
        refine J_iload_n C 3 dL_law_354 rfl rfl ?_
        refine J_iconst (v := (1 : Int32)) C dL_law_355 (by decide) ?_
        refine J_iadd C dL_law_356 ?_
        refine JL_sld CL dL_law_357 h (fun h => ?_)
        refine kL_X4_about (xw := w_32) (mw := w.2) CL mw_655 dL_law_358 (Nat.le_of_ble_eq_true rfl) h (fun r_33 w_34 h => ?_)
        refine J_pop C dL_law_361 rfl ?_
        refine J_goto (tgt := 797) C dL_law_362 (by decide) ?_
        refine J_lv [0, 1, 2, 3] rfl ?_
        exact s_L_law_797 CL ih h
      replace h := h.2
      by_cases e9 : ((xs v3.toNatClampNeg) &&& (31 : Int32)) = (9 : Int32)
      · replace h := h.1 e9
        refine J_tsIn (tgt := 365) C dL_law_33 (by rw [e9]; decide) (by rw [e9]; decide) (by rw [e9]; rfl) (by decide) ?_
        refine J_aload_n C 1 dL_law_365 rfl rfl ?_
        refine J_aload_n C 0 dL_law_366 rfl rfl ?_
        refine J_iload_n C 3 dL_law_367 rfl rfl ?_
        refine J_iconst (v := (1 : Int32)) C dL_law_368 (by decide) ?_
        refine J_iadd C dL_law_369 ?_
        refine JL_sld CL dL_law_370 h (fun h => ?_)
        refine kL_X3_odd (xw := w.1) (mw := w.2) CL mw_343 dL_law_371 (Nat.le_of_ble_eq_true rfl) h (fun r_35 w_36 h => ?_)
        refine J_pop C dL_law_374 rfl ?_
        refine J_aload_n C 2 dL_law_375 rfl rfl ?_
        refine J_aload_n C 0 dL_law_376 rfl rfl ?_
        refine J_iload_n C 3 dL_law_377 rfl rfl ?_
        refine J_iconst (v := (1 : Int32)) C dL_law_378 (by decide) ?_
        refine J_iadd C dL_law_379 ?_
        refine JL_sld CL dL_law_380 h (fun h => ?_)
        refine kL_X4_odd (xw := w_36) (mw := w.2) CL mw_659 dL_law_381 (Nat.le_of_ble_eq_true rfl) h (fun r_37 w_38 h => ?_)
        refine J_pop C dL_law_384 rfl ?_
        refine J_goto (tgt := 797) C dL_law_385 (by decide) ?_
        refine J_lv [0, 1, 2, 3] rfl ?_
        exact s_L_law_797 CL ih h
      replace h := h.2
      by_cases e10 : ((xs v3.toNatClampNeg) &&& (31 : Int32)) = (10 : Int32)
      · replace h := h.1 e10
        refine J_tsIn (tgt := 388) C dL_law_33 (by rw [e10]; decide) (by rw [e10]; decide) (by rw [e10]; rfl) (by decide) ?_
        refine J_aload_n C 1 dL_law_388 rfl rfl ?_
        refine J_aload_n C 0 dL_law_389 rfl rfl ?_
        refine J_iload_n C 3 dL_law_390 rfl rfl ?_
        refine J_iconst (v := (1 : Int32)) C dL_law_391 (by decide) ?_
        refine J_iadd C dL_law_392 ?_
        refine JL_sld CL dL_law_393 h (fun h => ?_)
        refine kL_X3_breadth (xw := w.1) (mw := w.2) CL mw_348 dL_law_394 (Nat.le_of_ble_eq_true rfl) h (fun r_39 w_40 h => ?_)
        refine J_pop C dL_law_397 rfl ?_
        refine J_aload_n C 2 dL_law_398 rfl rfl ?_
        refine J_aload_n C 0 dL_law_399 rfl rfl ?_
        refine J_iload_n C 3 dL_law_400 rfl rfl ?_
        refine J_iconst (v := (1 : Int32)) C dL_law_401 (by decide) ?_
        refine J_iadd C dL_law_402 ?_
        refine JL_sld CL dL_law_403 h (fun h => ?_)
        refine kL_X4_breadth (xw := w_40) (mw := w.2) CL mw_663 dL_law_404 (Nat.le_of_ble_eq_true rfl) h (fun r_41 w_42 h => ?_)
        refine J_pop C dL_law_407 rfl ?_
        refine J_goto (tgt := 797) C dL_law_408 (by decide) ?_
        refine J_lv [0, 1, 2, 3] rfl ?_
        exact s_L_law_797 CL ih h
      replace h := h.2
      by_cases e11 : ((xs v3.toNatClampNeg) &&& (31 : Int32)) = (11 : Int32)
      · replace h := h.1 e11
        refine J_tsIn (tgt := 411) C dL_law_33 (by rw [e11]; decide) (by rw [e11]; decide) (by rw [e11]; rfl) (by decide) ?_
        refine J_aload_n C 1 dL_law_411 rfl rfl ?_
        refine J_aload_n C 0 dL_law_412 rfl rfl ?_
        refine J_iload_n C 3 dL_law_413 rfl rfl ?_
        refine J_iconst (v := (1 : Int32)) C dL_law_414 (by decide) ?_
        refine J_iadd C dL_law_415 ?_
        refine JL_sld CL dL_law_416 h (fun h => ?_)
        refine J_aload_n C 0 dL_law_417 rfl rfl ?_
        refine J_iload_n C 3 dL_law_418 rfl rfl ?_
        refine J_iconst (v := (2 : Int32)) C dL_law_419 (by decide) ?_
        refine J_iadd C dL_law_420 ?_
        refine JL_sld CL dL_law_421 h (fun h => ?_)
        refine kL_X3_size (xw := w.1) (mw := w.2) CL mw_356 dL_law_422 (Nat.le_of_ble_eq_true rfl) h (fun r_43 w_44 h => ?_)
        refine J_pop C dL_law_425 rfl ?_
        refine J_aload_n C 2 dL_law_426 rfl rfl ?_
        refine J_aload_n C 0 dL_law_427 rfl rfl ?_
        refine J_iload_n C 3 dL_law_428 rfl rfl ?_
        refine J_iconst (v := (1 : Int32)) C dL_law_429 (by decide) ?_
        refine J_iadd C dL_law_430 ?_
        refine JL_sld CL dL_law_431 h (fun h => ?_)
        refine J_aload_n C 0 dL_law_432 rfl rfl ?_
        refine J_iload_n C 3 dL_law_433 rfl rfl ?_
        refine J_iconst (v := (2 : Int32)) C dL_law_434 (by decide) ?_
        refine J_iadd C dL_law_435 ?_
        refine JL_sld CL dL_law_436 h (fun h => ?_)
        refine kL_X4_size (xw := w_44) (mw := w.2) CL mw_670 dL_law_437 (Nat.le_of_ble_eq_true rfl) h (fun r_45 w_46 h => ?_)
        refine J_pop C dL_law_440 rfl ?_
        refine J_goto (tgt := 797) C dL_law_441 (by decide) ?_
        refine J_lv [0, 1, 2, 3] rfl ?_
        exact s_L_law_797 CL ih h
      replace h := h.2
      by_cases e12 : ((xs v3.toNatClampNeg) &&& (31 : Int32)) = (12 : Int32)
      · replace h := h.1 e12
        refine J_tsIn (tgt := 444) C dL_law_33 (by rw [e12]; decide) (by rw [e12]; decide) (by rw [e12]; rfl) (by decide) ?_
        refine J_aload_n C 1 dL_law_444 rfl rfl ?_
        refine J_aload_n C 0 dL_law_445 rfl rfl ?_
        refine J_iload_n C 3 dL_law_446 rfl rfl ?_
        refine J_iconst (v := (1 : Int32)) C dL_law_447 (by decide) ?_
        refine J_iadd C dL_law_448 ?_
        refine JL_sld CL dL_law_449 h (fun h => ?_)
        refine J_aload_n C 0 dL_law_450 rfl rfl ?_
        refine J_iload_n C 3 dL_law_451 rfl rfl ?_
        refine J_iconst (v := (2 : Int32)) C dL_law_452 (by decide) ?_
        refine J_iadd C dL_law_453 ?_
        refine JL_sld CL dL_law_454 h (fun h => ?_)
        refine J_aload_n C 0 dL_law_455 rfl rfl ?_
        refine J_iload_n C 3 dL_law_456 rfl rfl ?_
        refine J_iconst (v := (3 : Int32)) C dL_law_457 (by decide) ?_
        refine J_iadd C dL_law_458 ?_
        refine JL_sld CL dL_law_459 h (fun h => ?_)
        refine kL_X3_at (xw := w.1) (mw := w.2) CL mw_362 dL_law_460 (Nat.le_of_ble_eq_true rfl) h (fun r_47 w_48 h => ?_)
        refine J_pop C dL_law_463 rfl ?_
        refine J_aload_n C 2 dL_law_464 rfl rfl ?_
        refine J_aload_n C 0 dL_law_465 rfl rfl ?_
        refine J_iload_n C 3 dL_law_466 rfl rfl ?_
        refine J_iconst (v := (1 : Int32)) C dL_law_467 (by decide) ?_
        refine J_iadd C dL_law_468 ?_
        refine JL_sld CL dL_law_469 h (fun h => ?_)
        refine J_aload_n C 0 dL_law_470 rfl rfl ?_
        refine J_iload_n C 3 dL_law_471 rfl rfl ?_
        refine J_iconst (v := (2 : Int32)) C dL_law_472 (by decide) ?_
        refine J_iadd C dL_law_473 ?_
        refine JL_sld CL dL_law_474 h (fun h => ?_)
        refine J_aload_n C 0 dL_law_475 rfl rfl ?_
        refine J_iload_n C 3 dL_law_476 rfl rfl ?_
        refine J_iconst (v := (3 : Int32)) C dL_law_477 (by decide) ?_
        refine J_iadd C dL_law_478 ?_
        refine JL_sld CL dL_law_479 h (fun h => ?_)
        refine kL_X4_at (xw := w_48) (mw := w.2) CL mw_677 dL_law_480 (Nat.le_of_ble_eq_true rfl) h (fun r_49 w_50 h => ?_)
        refine J_pop C dL_law_483 rfl ?_
        refine J_goto (tgt := 797) C dL_law_484 (by decide) ?_
        refine J_lv [0, 1, 2, 3] rfl ?_
        exact s_L_law_797 CL ih h
      replace h := h.2
      by_cases e13 : ((xs v3.toNatClampNeg) &&& (31 : Int32)) = (13 : Int32)
      · replace h := h.1 e13
        refine J_tsIn (tgt := 487) C dL_law_33 (by rw [e13]; decide) (by rw [e13]; decide) (by rw [e13]; rfl) (by decide) ?_
        refine J_aload_n C 1 dL_law_487 rfl rfl ?_
        refine J_aload_n C 0 dL_law_488 rfl rfl ?_
        refine J_iload_n C 3 dL_law_489 rfl rfl ?_
        refine J_iconst (v := (1 : Int32)) C dL_law_490 (by decide) ?_
        refine J_iadd C dL_law_491 ?_
        refine JL_sld CL dL_law_492 h (fun h => ?_)
        refine kL_X3_form (xw := w.1) (mw := w.2) CL mw_367 dL_law_493 (Nat.le_of_ble_eq_true rfl) h (fun r_51 w_52 h => ?_)
        refine J_pop C dL_law_496 rfl ?_
        refine J_aload_n C 2 dL_law_497 rfl rfl ?_
        refine J_aload_n C 0 dL_law_498 rfl rfl ?_
        refine J_iload_n C 3 dL_law_499 rfl rfl ?_
        refine J_iconst (v := (1 : Int32)) C dL_law_500 (by decide) ?_
        refine J_iadd C dL_law_501 ?_
        refine JL_sld CL dL_law_502 h (fun h => ?_)
        refine kL_X4_form (xw := w_52) (mw := w.2) CL mw_681 dL_law_503 (Nat.le_of_ble_eq_true rfl) h (fun r_53 w_54 h => ?_)
        refine J_pop C dL_law_506 rfl ?_
        refine J_goto (tgt := 797) C dL_law_507 (by decide) ?_
        refine J_lv [0, 1, 2, 3] rfl ?_
        exact s_L_law_797 CL ih h
      replace h := h.2
      by_cases e14 : ((xs v3.toNatClampNeg) &&& (31 : Int32)) = (14 : Int32)
      · replace h := h.1 e14
        refine J_tsIn (tgt := 510) C dL_law_33 (by rw [e14]; decide) (by rw [e14]; decide) (by rw [e14]; rfl) (by decide) ?_
        refine J_aload_n C 1 dL_law_510 rfl rfl ?_
        refine J_aload_n C 0 dL_law_511 rfl rfl ?_
        refine J_iload_n C 3 dL_law_512 rfl rfl ?_
        refine J_iconst (v := (1 : Int32)) C dL_law_513 (by decide) ?_
        refine J_iadd C dL_law_514 ?_
        refine JL_sld CL dL_law_515 h (fun h => ?_)
        refine kL_X3_missing (xw := w.1) (mw := w.2) CL mw_374 dL_law_516 (Nat.le_of_ble_eq_true rfl) h (fun r_55 w_56 h => ?_)
        refine J_pop C dL_law_519 rfl ?_
        refine J_aload_n C 2 dL_law_520 rfl rfl ?_
        refine J_aload_n C 0 dL_law_521 rfl rfl ?_
        refine J_iload_n C 3 dL_law_522 rfl rfl ?_
        refine J_iconst (v := (1 : Int32)) C dL_law_523 (by decide) ?_
        refine J_iadd C dL_law_524 ?_
        refine JL_sld CL dL_law_525 h (fun h => ?_)
        refine kL_X4_missing (xw := w_56) (mw := w.2) CL mw_688 dL_law_526 (Nat.le_of_ble_eq_true rfl) h (fun r_57 w_58 h => ?_)
        refine J_pop C dL_law_529 rfl ?_
        refine J_goto (tgt := 797) C dL_law_530 (by decide) ?_
        refine J_lv [0, 1, 2, 3] rfl ?_
        exact s_L_law_797 CL ih h
      replace h := h.2
      by_cases e15 : ((xs v3.toNatClampNeg) &&& (31 : Int32)) = (15 : Int32)
      · replace h := h.1 e15
        refine J_tsIn (tgt := 533) C dL_law_33 (by rw [e15]; decide) (by rw [e15]; decide) (by rw [e15]; rfl) (by decide) ?_
        refine J_aload_n C 1 dL_law_533 rfl rfl ?_
        refine J_aload_n C 0 dL_law_534 rfl rfl ?_
        refine J_iload_n C 3 dL_law_535 rfl rfl ?_
        refine J_iconst (v := (1 : Int32)) C dL_law_536 (by decide) ?_
        refine J_iadd C dL_law_537 ?_
        refine JL_sld CL dL_law_538 h (fun h => ?_)
        refine kL_X3_lacks (xw := w.1) (mw := w.2) CL mw_378 dL_law_539 (Nat.le_of_ble_eq_true rfl) h (fun r_59 w_60 h => ?_)
        refine J_pop C dL_law_542 rfl ?_
        refine J_aload_n C 2 dL_law_543 rfl rfl ?_
        refine J_aload_n C 0 dL_law_544 rfl rfl ?_
        refine J_iload_n C 3 dL_law_545 rfl rfl ?_
        refine J_iconst (v := (1 : Int32)) C dL_law_546 (by decide) ?_
        refine J_iadd C dL_law_547 ?_
        refine JL_sld CL dL_law_548 h (fun h => ?_)
        refine kL_X4_lacks (xw := w_60) (mw := w.2) CL mw_692 dL_law_549 (Nat.le_of_ble_eq_true rfl) h (fun r_61 w_62 h => ?_)
        refine J_pop C dL_law_552 rfl ?_
        refine J_goto (tgt := 797) C dL_law_553 (by decide) ?_
        refine J_lv [0, 1, 2, 3] rfl ?_
        exact s_L_law_797 CL ih h
      replace h := h.2
      by_cases e16 : ((xs v3.toNatClampNeg) &&& (31 : Int32)) = (16 : Int32)
      · replace h := h.1 e16
        refine J_tsIn (tgt := 556) C dL_law_33 (by rw [e16]; decide) (by rw [e16]; decide) (by rw [e16]; rfl) (by decide) ?_
        refine J_aload_n C 1 dL_law_556 rfl rfl ?_
        refine J_aload_n C 0 dL_law_557 rfl rfl ?_
        refine J_iload_n C 3 dL_law_558 rfl rfl ?_
        refine J_iconst (v := (1 : Int32)) C dL_law_559 (by decide) ?_
        refine J_iadd C dL_law_560 ?_
        refine JL_sld CL dL_law_561 h (fun h => ?_)
        refine J_aload_n C 0 dL_law_562 rfl rfl ?_
        refine J_iload_n C 3 dL_law_563 rfl rfl ?_
        refine J_iconst (v := (2 : Int32)) C dL_law_564 (by decide) ?_
        refine J_iadd C dL_law_565 ?_
        refine JL_sld CL dL_law_566 h (fun h => ?_)
        refine J_aload_n C 0 dL_law_567 rfl rfl ?_
        refine J_iload_n C 3 dL_law_568 rfl rfl ?_
        refine J_iconst (v := (3 : Int32)) C dL_law_569 (by decide) ?_
        refine J_iadd C dL_law_570 ?_
        refine JL_sld CL dL_law_571 h (fun h => ?_)
        refine kL_X3_costOf (xw := w.1) (mw := w.2) CL mw_386 dL_law_572 (Nat.le_of_ble_eq_true rfl) h (fun r_63 w_64 h => ?_)
        refine J_pop C dL_law_575 rfl ?_
        refine J_aload_n C 2 dL_law_576 rfl rfl ?_
        refine J_aload_n C 0 dL_law_577 rfl rfl ?_
        refine J_iload_n C 3 dL_law_578 rfl rfl ?_
        refine J_iconst (v := (1 : Int32)) C dL_law_579 (by decide) ?_
        refine J_iadd C dL_law_580 ?_
        refine JL_sld CL dL_law_581 h (fun h => ?_)
        refine J_aload_n C 0 dL_law_582 rfl rfl ?_
        refine J_iload_n C 3 dL_law_583 rfl rfl ?_
        refine J_iconst (v := (2 : Int32)) C dL_law_584 (by decide) ?_
        refine J_iadd C dL_law_585 ?_
        refine JL_sld CL dL_law_586 h (fun h => ?_)
        refine J_aload_n C 0 dL_law_587 rfl rfl ?_
        refine J_iload_n C 3 dL_law_588 rfl rfl ?_
        refine J_iconst (v := (3 : Int32)) C dL_law_589 (by decide) ?_
        refine J_iadd C dL_law_590 ?_
        refine JL_sld CL dL_law_591 h (fun h => ?_)
        refine kL_X4_costOf (xw := w_64) (mw := w.2) CL mw_696 dL_law_592 (Nat.le_of_ble_eq_true rfl) h (fun r_65 w_66 h => ?_)
        refine J_pop C dL_law_595 rfl ?_
        refine J_goto (tgt := 797) C dL_law_596 (by decide) ?_
        refine J_lv [0, 1, 2, 3] rfl ?_
        exact s_L_law_797 CL ih h
      replace h := h.2
      by_cases e17 : ((xs v3.toNatClampNeg) &&& (31 : Int32)) = (17 : Int32)
      · replace h := h.1 e17
        refine J_tsIn (tgt := 599) C dL_law_33 (by rw [e17]; decide) (by rw [e17]; decide) (by rw [e17]; rfl) (by decide) ?_
        refine J_aload_n C 1 dL_law_599 rfl rfl ?_
        refine J_aload_n C 0 dL_law_600 rfl rfl ?_
        refine J_iload_n C 3 dL_law_601 rfl rfl ?_
        refine J_iconst (v := (1 : Int32)) C dL_law_602 (by decide) ?_
        refine J_iadd C dL_law_603 ?_
        refine JL_sld CL dL_law_604 h (fun h => ?_)
        refine kL_X3_fits (xw := w.1) (mw := w.2) CL mw_398 dL_law_605 (Nat.le_of_ble_eq_true rfl) h (fun r_67 w_68 h => ?_)
        refine J_pop C dL_law_608 rfl ?_
        refine J_aload_n C 2 dL_law_609 rfl rfl ?_
        refine J_aload_n C 0 dL_law_610 rfl rfl ?_
        refine J_iload_n C 3 dL_law_611 rfl rfl ?_
        refine J_iconst (v := (1 : Int32)) C dL_law_612 (by decide) ?_
        refine J_iadd C dL_law_613 ?_
        refine JL_sld CL dL_law_614 h (fun h => ?_)
        refine kL_X4_fits (xw := w_68) (mw := w.2) CL mw_700 dL_law_615 (Nat.le_of_ble_eq_true rfl) h (fun r_69 w_70 h => ?_)
        refine J_pop C dL_law_618 rfl ?_
        refine J_goto (tgt := 797) C dL_law_619 (by decide) ?_
        refine J_lv [0, 1, 2, 3] rfl ?_
        exact s_L_law_797 CL ih h
      replace h := h.2
      by_cases e18 : ((xs v3.toNatClampNeg) &&& (31 : Int32)) = (18 : Int32)
      · replace h := h.1 e18
        refine J_tsIn (tgt := 622) C dL_law_33 (by rw [e18]; decide) (by rw [e18]; decide) (by rw [e18]; rfl) (by decide) ?_
        refine J_aload_n C 1 dL_law_622 rfl rfl ?_
        refine J_aload_n C 0 dL_law_623 rfl rfl ?_
        refine J_iload_n C 3 dL_law_624 rfl rfl ?_
        refine J_iconst (v := (1 : Int32)) C dL_law_625 (by decide) ?_
        refine J_iadd C dL_law_626 ?_
        refine JL_sld CL dL_law_627 h (fun h => ?_)
        refine kL_X3_doubt (xw := w.1) (mw := w.2) CL mw_408 dL_law_628 (Nat.le_of_ble_eq_true rfl) h (fun r_71 w_72 h => ?_)
        refine J_aload_n C 2 dL_law_631 rfl rfl ?_
        refine J_aload_n C 0 dL_law_632 rfl rfl ?_
        refine J_iload_n C 3 dL_law_633 rfl rfl ?_
        refine J_iconst (v := (1 : Int32)) C dL_law_634 (by decide) ?_
        refine J_iadd C dL_law_635 ?_
        refine JL_sld CL dL_law_636 h (fun h => ?_)
        refine kL_X4_doubt (xw := w_72) (mw := w.2) CL mw_704 dL_law_637 (Nat.le_of_ble_eq_true rfl) h (fun r_73 w_74 h => ?_)
        refine J_icmp_eq (tgt := 797) C dL_law_640 (by decide) h (fun h => ?_) (fun h => ?_)
        · refine J_lv [0, 1, 2, 3] rfl ?_
          exact s_L_law_797 CL ih h
        · refine J_iconst (v := (0 : Int32)) C dL_law_643 (by decide) ?_
          exact h.elim
      replace h := h.2
      by_cases e19 : ((xs v3.toNatClampNeg) &&& (31 : Int32)) = (19 : Int32)
      · replace h := h.1 e19
        refine J_tsIn (tgt := 645) C dL_law_33 (by rw [e19]; decide) (by rw [e19]; decide) (by rw [e19]; rfl) (by decide) ?_
        refine J_aload_n C 1 dL_law_645 rfl rfl ?_
        refine J_aload_n C 0 dL_law_646 rfl rfl ?_
        refine J_iload_n C 3 dL_law_647 rfl rfl ?_
        refine J_iconst (v := (1 : Int32)) C dL_law_648 (by decide) ?_
        refine J_iadd C dL_law_649 ?_
        refine JL_sld CL dL_law_650 h (fun h => ?_)
        refine J_aload_n C 0 dL_law_651 rfl rfl ?_
        refine J_iload_n C 3 dL_law_652 rfl rfl ?_
        refine J_iconst (v := (2 : Int32)) C dL_law_653 (by decide) ?_
        refine J_iadd C dL_law_654 ?_
        refine JL_sld CL dL_law_655 h (fun h => ?_)
        refine J_aload_n C 0 dL_law_656 rfl rfl ?_
        refine J_iload_n C 3 dL_law_657 rfl rfl ?_
        refine J_iconst (v := (3 : Int32)) C dL_law_658 (by decide) ?_
        refine J_iadd C dL_law_659 ?_
        refine JL_sld CL dL_law_660 h (fun h => ?_)
        refine J_aload_n C 0 dL_law_661 rfl rfl ?_
        refine J_iload_n C 3 dL_law_662 rfl rfl ?_
        refine J_iconst (v := (4 : Int32)) C dL_law_663 (by decide) ?_
        refine J_iadd C dL_law_664 ?_
        refine JL_sld CL dL_law_665 h (fun h => ?_)
        refine kL_X3_parts (xw := w.1) (mw := w.2) CL mw_416 dL_law_666 (Nat.le_of_ble_eq_true rfl) h (fun r_75 w_76 h => ?_)
        refine J_pop C dL_law_669 rfl ?_
        refine J_aload_n C 2 dL_law_670 rfl rfl ?_
        refine J_aload_n C 0 dL_law_671 rfl rfl ?_
        refine J_iload_n C 3 dL_law_672 rfl rfl ?_
        refine J_iconst (v := (1 : Int32)) C dL_law_673 (by decide) ?_
        refine J_iadd C dL_law_674 ?_
        refine JL_sld CL dL_law_675 h (fun h => ?_)
        refine J_aload_n C 0 dL_law_676 rfl rfl ?_
        refine J_iload_n C 3 dL_law_677 rfl rfl ?_
        refine J_iconst (v := (2 : Int32)) C dL_law_678 (by decide) ?_
        refine J_iadd C dL_law_679 ?_
        refine JL_sld CL dL_law_680 h (fun h => ?_)
        refine J_aload_n C 0 dL_law_681 rfl rfl ?_
        refine J_iload_n C 3 dL_law_682 rfl rfl ?_
        refine J_iconst (v := (3 : Int32)) C dL_law_683 (by decide) ?_
        refine J_iadd C dL_law_684 ?_
        refine JL_sld CL dL_law_685 h (fun h => ?_)
        refine J_aload_n C 0 dL_law_686 rfl rfl ?_
        refine J_iload_n C 3 dL_law_687 rfl rfl ?_
        refine J_iconst (v := (4 : Int32)) C dL_law_688 (by decide) ?_
        refine J_iadd C dL_law_689 ?_
        refine JL_sld CL dL_law_690 h (fun h => ?_)
        refine kL_X4_parts (xw := w_76) (mw := w.2) CL mw_708 dL_law_691 (Nat.le_of_ble_eq_true rfl) h (fun r_77 w_78 h => ?_)
        refine J_pop C dL_law_694 rfl ?_
        refine J_goto (tgt := 797) C dL_law_695 (by decide) ?_
        refine J_lv [0, 1, 2, 3] rfl ?_
        exact s_L_law_797 CL ih h
      replace h := h.2
      by_cases e20 : ((xs v3.toNatClampNeg) &&& (31 : Int32)) = (20 : Int32)
      · replace h := h.1 e20
        refine J_tsIn (tgt := 698) C dL_law_33 (by rw [e20]; decide) (by rw [e20]; decide) (by rw [e20]; rfl) (by decide) ?_
        refine J_aload_n C 1 dL_law_698 rfl rfl ?_
        refine J_aload_n C 0 dL_law_699 rfl rfl ?_
        refine J_iload_n C 3 dL_law_700 rfl rfl ?_
        refine J_iconst (v := (1 : Int32)) C dL_law_701 (by decide) ?_
        refine J_iadd C dL_law_702 ?_
        refine JL_sld CL dL_law_703 h (fun h => ?_)
        refine J_aload_n C 0 dL_law_704 rfl rfl ?_
        refine J_iload_n C 3 dL_law_705 rfl rfl ?_
        refine J_iconst (v := (2 : Int32)) C dL_law_706 (by decide) ?_
        refine J_iadd C dL_law_707 ?_
        refine JL_sld CL dL_law_708 h (fun h => ?_)
        refine kL_X3_value (xw := w.1) (mw := w.2) CL mw_424 dL_law_709 (Nat.le_of_ble_eq_true rfl) h (fun r_79 w_80 h => ?_)
        refine J_pop2 C dL_law_712 rfl ?_
        refine J_aload_n C 2 dL_law_713 rfl rfl ?_
        refine J_aload_n C 0 dL_law_714 rfl rfl ?_
        refine J_iload_n C 3 dL_law_715 rfl rfl ?_
        refine J_iconst (v := (1 : Int32)) C dL_law_716 (by decide) ?_
        refine J_iadd C dL_law_717 ?_
        refine JL_sld CL dL_law_718 h (fun h => ?_)
        refine J_aload_n C 0 dL_law_719 rfl rfl ?_
        refine J_iload_n C 3 dL_law_720 rfl rfl ?_
        refine J_iconst (v := (2 : Int32)) C dL_law_721 (by decide) ?_
        refine J_iadd C dL_law_722 ?_
        refine JL_sld CL dL_law_723 h (fun h => ?_)
        refine kL_X4_value (xw := w_80) (mw := w.2) CL mw_712 dL_law_724 (Nat.le_of_ble_eq_true rfl) h (fun r_81 w_82 h => ?_)
        refine J_pop2 C dL_law_727 rfl ?_
        refine J_goto (tgt := 797) C dL_law_728 (by decide) ?_
        refine J_lv [0, 1, 2, 3] rfl ?_
        exact s_L_law_797 CL ih h
      replace h := h.2
      by_cases e21 : ((xs v3.toNatClampNeg) &&& (31 : Int32)) = (21 : Int32)
      · replace h := h.1 e21
        refine J_tsIn (tgt := 731) C dL_law_33 (by rw [e21]; decide) (by rw [e21]; decide) (by rw [e21]; rfl) (by decide) ?_
        refine J_aload_n C 1 dL_law_731 rfl rfl ?_
        refine J_aload_n C 0 dL_law_732 rfl rfl ?_
        refine J_iload_n C 3 dL_law_733 rfl rfl ?_
        refine J_iconst (v := (1 : Int32)) C dL_law_734 (by decide) ?_
        refine J_iadd C dL_law_735 ?_
        refine JL_sld CL dL_law_736 h (fun h => ?_)
        refine J_aload_n C 0 dL_law_737 rfl rfl ?_
        refine J_iload_n C 3 dL_law_738 rfl rfl ?_
        refine J_iconst (v := (2 : Int32)) C dL_law_739 (by decide) ?_
        refine J_iadd C dL_law_740 ?_
        refine JL_sld CL dL_law_741 h (fun h => ?_)
        refine J_aload_n C 0 dL_law_742 rfl rfl ?_
        refine J_iload_n C 3 dL_law_743 rfl rfl ?_
        refine J_iconst (v := (3 : Int32)) C dL_law_744 (by decide) ?_
        refine J_iadd C dL_law_745 ?_
        refine JL_sld CL dL_law_746 h (fun h => ?_)
        refine kL_X3_back (xw := w.1) (mw := w.2) CL mw_432 dL_law_747 (Nat.le_of_ble_eq_true rfl) h (fun r_83 w_84 h => ?_)
        refine J_pop C dL_law_750 rfl ?_
        refine J_aload_n C 2 dL_law_751 rfl rfl ?_
        refine J_aload_n C 0 dL_law_752 rfl rfl ?_
        refine J_iload_n C 3 dL_law_753 rfl rfl ?_
        refine J_iconst (v := (1 : Int32)) C dL_law_754 (by decide) ?_
        refine J_iadd C dL_law_755 ?_
        refine JL_sld CL dL_law_756 h (fun h => ?_)
        refine J_aload_n C 0 dL_law_757 rfl rfl ?_
        refine J_iload_n C 3 dL_law_758 rfl rfl ?_
        refine J_iconst (v := (2 : Int32)) C dL_law_759 (by decide) ?_
        refine J_iadd C dL_law_760 ?_
        refine JL_sld CL dL_law_761 h (fun h => ?_)
        refine J_aload_n C 0 dL_law_762 rfl rfl ?_
        refine J_iload_n C 3 dL_law_763 rfl rfl ?_
        refine J_iconst (v := (3 : Int32)) C dL_law_764 (by decide) ?_
        refine J_iadd C dL_law_765 ?_
        refine JL_sld CL dL_law_766 h (fun h => ?_)
        refine kL_X4_back (xw := w_84) (mw := w.2) CL mw_719 dL_law_767 (Nat.le_of_ble_eq_true rfl) h (fun r_85 w_86 h => ?_)
        refine J_pop C dL_law_770 rfl ?_
        refine J_goto (tgt := 797) C dL_law_771 (by decide) ?_
        refine J_lv [0, 1, 2, 3] rfl ?_
        exact s_L_law_797 CL ih h
      replace h := h.2
      by_cases e22 : ((xs v3.toNatClampNeg) &&& (31 : Int32)) = (22 : Int32)
      · replace h := h.1 e22
        refine J_tsIn (tgt := 774) C dL_law_33 (by rw [e22]; decide) (by rw [e22]; decide) (by rw [e22]; rfl) (by decide) ?_
        refine J_aload_n C 1 dL_law_774 rfl rfl ?_
        refine J_aload_n C 0 dL_law_775 rfl rfl ?_
        refine J_iload_n C 3 dL_law_776 rfl rfl ?_
        refine J_iconst (v := (1 : Int32)) C dL_law_777 (by decide) ?_
        refine J_iadd C dL_law_778 ?_
        refine JL_sld CL dL_law_779 h (fun h => ?_)
        refine kL_X3_key (xw := w.1) (mw := w.2) CL mw_437 dL_law_780 (Nat.le_of_ble_eq_true rfl) h (fun r_87 w_88 h => ?_)
        refine J_pop C dL_law_783 rfl ?_
        refine J_aload_n C 2 dL_law_784 rfl rfl ?_
        refine J_aload_n C 0 dL_law_785 rfl rfl ?_
        refine J_iload_n C 3 dL_law_786 rfl rfl ?_
        refine J_iconst (v := (1 : Int32)) C dL_law_787 (by decide) ?_
        refine J_iadd C dL_law_788 ?_
        refine JL_sld CL dL_law_789 h (fun h => ?_)
        refine kL_X4_key (xw := w_88) (mw := w.2) CL mw_741 dL_law_790 (Nat.le_of_ble_eq_true rfl) h (fun r_89 w_90 h => ?_)
        refine J_pop C dL_law_793 rfl ?_
        refine J_goto (tgt := 797) C dL_law_794 (by decide) ?_
        refine J_lv [0, 1, 2, 3] rfl ?_
        exact s_L_law_797 CL ih h
      replace h := h.2
      replace h := h e0 e1 e2 e3 e4 e5 e6 e7 e8 e9 e10 e11 e12 e13 e14 e15 e16 e17 e18 e19 e20 e21 e22
      refine J_tsOut (tgt := 797) C dL_law_33 (by have q0 := lv_neT (k := (0 : Int32)) (a := 0) e0 rfl; have q1 := lv_neT (k := (1 : Int32)) (a := 1) e1 rfl; have q2 := lv_neT (k := (2 : Int32)) (a := 2) e2 rfl; have q3 := lv_neT (k := (3 : Int32)) (a := 3) e3 rfl; have q4 := lv_neT (k := (4 : Int32)) (a := 4) e4 rfl; have q5 := lv_neT (k := (5 : Int32)) (a := 5) e5 rfl; have q6 := lv_neT (k := (6 : Int32)) (a := 6) e6 rfl; have q7 := lv_neT (k := (7 : Int32)) (a := 7) e7 rfl; have q8 := lv_neT (k := (8 : Int32)) (a := 8) e8 rfl; have q9 := lv_neT (k := (9 : Int32)) (a := 9) e9 rfl; have q10 := lv_neT (k := (10 : Int32)) (a := 10) e10 rfl; have q11 := lv_neT (k := (11 : Int32)) (a := 11) e11 rfl; have q12 := lv_neT (k := (12 : Int32)) (a := 12) e12 rfl; have q13 := lv_neT (k := (13 : Int32)) (a := 13) e13 rfl; have q14 := lv_neT (k := (14 : Int32)) (a := 14) e14 rfl; have q15 := lv_neT (k := (15 : Int32)) (a := 15) e15 rfl; have q16 := lv_neT (k := (16 : Int32)) (a := 16) e16 rfl; have q17 := lv_neT (k := (17 : Int32)) (a := 17) e17 rfl; have q18 := lv_neT (k := (18 : Int32)) (a := 18) e18 rfl; have q19 := lv_neT (k := (19 : Int32)) (a := 19) e19 rfl; have q20 := lv_neT (k := (20 : Int32)) (a := 20) e20 rfl; have q21 := lv_neT (k := (21 : Int32)) (a := 21) e21 rfl; have q22 := lv_neT (k := (22 : Int32)) (a := 22) e22 rfl; omega) (by decide) ?_
      refine J_lv [0, 1, 2, 3] rfl ?_
      exact s_L_law_797 CL ih h
