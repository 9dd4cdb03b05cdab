/-! calls of the class while its text is empty -/
/-- one byte more on the tape -/
def tpw (w : XW) (v s : Int32) : XW := rd_tapeSize_s (rd_tape_s w (upd (rd_tape w) (rd_tapeSize w).toNatClampNeg (((Int32.toUInt32 v >>> (Int32.toUInt32 s &&& Int32.toUInt32 31)).toInt32) &&& (255 : Int32)))) ((rd_tapeSize w) + (1 : Int32))
def tpw4 (w : XW) (v : Int32) : XW := tpw (tpw (tpw (tpw w v 24) v 16) v 8) v 0
theorem tpw_s {w : XW} {v s : Int32} {t : Nat} (h : rd_tapeSize w = nI t) : rd_tapeSize (tpw w v s) = nI (t + 1) := by
  show rd_tapeSize w + 1 = _
  rw [h, nI_1]
theorem tpw4_s {w : XW} {v : Int32} {t : Nat} (h : rd_tapeSize w = nI t) : rd_tapeSize (tpw4 w v) = nI (t + 4) := tpw_s (tpw_s (tpw_s (tpw_s h)))
theorem x_tape1 {w : XW} {K : XW → Prop} {v s : Int32} {t n : Nat} (h : rd_tapeSize w = nI t) (ht : t < 400) (hs : ¬ s < 0) (hk : P_X3_tapeNumber_3 K v n (tpw w v s) (s + (-8 : Int32))) : P_X3_tapeNumber_3 K v (n + 1) w s := by
  refine ⟨fun z => absurd z hs, fun _ => ⟨fun z => absurd z (by rw [h]; exact nI_ge (b := 400) ht (by decide)), fun _ => ⟨by rw [h]; exact vp_in_nI ht (by decide), hk⟩⟩⟩
theorem x_tape {w : XW} {K : XW → Prop} {v : Int32} {t : Nat} (h : rd_tapeSize w = nI t) (ht : t + 4 ≤ 400) (hk : K (tpw4 w v)) : P_X3_tapeNumber K w v := by
  unfold P_X3_tapeNumber
  refine ⟨5, x_tape1 h (by omega) (by decide) (x_tape1 (tpw_s h) (by omega) (by decide) (x_tape1 (tpw_s (tpw_s h)) (by omega) (by decide) (x_tape1 (tpw_s (tpw_s (tpw_s h))) (by omega) (by decide) ?_)))⟩
  exact ⟨fun _ => hk, fun z => absurd (by decide) z⟩
def tpw20 (w : XW) (a b c d e : Int32) : XW := tpw4 (tpw4 (tpw4 (tpw4 (tpw4 w a) b) c) d) e
theorem x_feed {w : XW} {K : Int32 → XW → Prop} {a b c d e : Int32} {t : Nat} (h : rd_tapeSize w = nI t) (ht : t ≤ 380) (hk : K (nI (t + 20)) (tpw20 w a b c d e)) : P_X3_feed K w a b c d e := by
  unfold P_X3_feed
  refine ⟨fun _ => ?_, fun z => absurd (by rw [h]; exact nI_le (b := 380) ht (by decide)) z⟩
  refine x_tape h (by omega) (x_tape (tpw4_s h) (by omega) (x_tape (tpw4_s (tpw4_s h)) (by omega) (x_tape (tpw4_s (tpw4_s (tpw4_s h))) (by omega) (x_tape (tpw4_s (tpw4_s (tpw4_s (tpw4_s h)))) (by omega) ?_))))
  have := tpw4_s (v := e) (tpw4_s (v := d) (tpw4_s (v := c) (tpw4_s (v := b) (tpw4_s (v := a) h))))
  rw [this]
  exact hk
theorem x_feed_n {w : XW} {K : Int32 → XW → Prop} {a b c d e : Int32} {t : Nat} (h : rd_tapeSize w = nI t) (ht : 380 < t) (ht2 : t ≤ 400) (hk : K m1 w) : P_X3_feed K w a b c d e := by
  unfold P_X3_feed
  exact ⟨fun z => absurd z (by rw [h]; exact nI_ge (a := 380) ht (by omega)), fun _ => hk⟩
theorem x_isMake {K : Int32 → Prop} {v : Int32} (h1 : ∀ j, j < 24 → v = nI j → K 1) (h0 : ¬ (0 ≤ v.toInt ∧ v.toInt < 24) → K 0) : P_X3_isMake K v := by
  unfold P_X3_isMake
  by_cases z : 0 ≤ v.toInt ∧ v.toInt < 24
  · obtain ⟨j, hj, rfl⟩ := in_of (n := 24) z
    exact ⟨fun y => absurd y (nI_pos (by omega)), fun _ => ⟨fun y => absurd y (nI_ge (b := 24) hj (by decide)), fun _ => h1 j hj rfl⟩⟩
  · rcases out_of (n := 24) (by decide) z with e | ⟨e, e2, e3⟩
    · exact ⟨fun _ => h0 z, fun y => absurd e y⟩
    · exact ⟨fun y => absurd y e, fun _ => ⟨fun _ => h0 z, fun y => absurd e2 y⟩⟩
/-- what a MAKE costs while the text is empty -/
def prE (j : Nat) : Int32 := if j % 2 = 1 then -1 else if qtN j = 256 then 0 else 3
def EX (w : XW) : Prop := rd_textSize w = 0 ∧ rd_used w = 0 ∧ rd_tapeSize w = 0 ∧ (∀ j, j < 24 → rd_prices w j = -2 ∨ rd_prices w j = prE j) ∧ (rd_cutBy w = m1 ∨ ∃ j, j < 24 ∧ rd_cutBy w = nI j ∧ cutE w j)
theorem EX_0 : EX xw0 := ⟨rfl, rfl, rfl, fun j hj => Or.inl (if_pos hj), Or.inl rfl⟩
theorem x_ctb {w : XW} {K : XW → Prop} {j : Nat} (h : EX w) (hj : j < 24) (hk : ∀ w', EX w' → cutE w' j → rd_prices w' = rd_prices w → K w') : P_X3_cutTextBy K w (nI j) := by
  unfold P_X3_cutTextBy P_X0_forget
  obtain ⟨h1, h2, h3, h4, h5⟩ := h
  refine ⟨fun z => ?_, fun z => ?_⟩
  · rcases h5 with e | ⟨i, hi, e, c⟩
    · rw [e] at z
      exact absurd z (fun y => by have := m1_eq (a := j) (by omega); rw [this] at y; exact y)
    · rw [e] at z
      have := (nI_eq (by omega) (by omega)).mp z
      subst this
      exact hk w ⟨h1, h2, h3, h4, Or.inr ⟨i, hi, e, c⟩⟩ c rfl
  · rw [h1]
    refine x_cut_e hj (fun w' e1 e2 c _ _ _ => ?_)
    have g1 : rd_textSize w' = 0 := by unfold rd_textSize at *; rw [e1]; exact h1
    have g2 : rd_used w' = 0 := by unfold rd_used at *; rw [e1]; exact h2
    have g3 : rd_tapeSize w' = 0 := by unfold rd_tapeSize at *; rw [e1]; exact h3
    have g4 : rd_prices w' = rd_prices w := by unfold rd_prices; rw [e1]
    exact hk _ ⟨g1, g2, g3, (show ∀ j, j < 24 → rd_prices w' j = -2 ∨ rd_prices w' j = prE j by rw [g4]; exact h4), Or.inr ⟨j, hj, rfl, c⟩⟩ c g4
theorem x_width_e {w : XW} {K : Int32 → Prop} (h : cu_rows w = 0) (hk : K 0) : P_X1_width K w := by
  unfold P_X1_width
  rw [h]
  exact ⟨fun _ => hk, fun z => absurd (Int32.le_refl 0) z⟩
theorem x_bytes_e {w : XW} {K : Int32 → Prop} (h : cu_rows w = 0) (hk : K 0) : P_X1_bytesOf K w 0 := by
  unfold P_X1_bytesOf
  rw [h]
  exact ⟨fun z => absurd z (by decide), fun _ => ⟨fun z => absurd z (by decide), fun _ => hk⟩⟩
theorem x_pbc_e {w : XW} {K : Int32 → Prop} {j : Nat} (h : cutE w j) (hk : K (if qtN j = 256 then 0 else 3)) : P_X1_priceBesideColumns K w := by
  obtain ⟨h1, h2, h3, h4, h5⟩ := h
  have t : ∀ s : Int32, K s → P_X1_priceBesideColumns_13 K w s := by
    intro s hs
    unfold P_X1_priceBesideColumns_13 P_X1_priceBesideColumns_39
    refine ⟨fun _ => ⟨1, ⟨fun _ => hs, fun z => absurd (by rw [h1]; exact Int32.le_refl 0) z⟩⟩, fun _ => x_width_e h1 (x_bytes_e h1 ⟨1, ⟨fun _ => ?_, fun z => absurd (by rw [h1]; exact Int32.le_refl 0) z⟩⟩)⟩
    rw [show s + ((4 : Int32) * 0 + (8 : Int32) * 0) = s by rw [show (4 : Int32) * 0 + (8 : Int32) * 0 = 0 by decide, Int32.add_zero]]
    exact hs
  unfold P_X1_priceBesideColumns
  rw [h4]
  unfold qI
  by_cases q : qtN j = 256
  · rw [if_pos q] at hk ⊢
    exact ⟨fun z => absurd rfl z, fun _ => t _ hk⟩
  · rw [if_neg q] at hk ⊢
    exact ⟨fun _ => t _ hk, fun z => absurd (show nI (qtN j) = m1 from z) (fun y => by rw [eq_m1 (by have := qtN_le j; omega)] at y; exact y)⟩
theorem x_price_e {w : XW} {K : Int32 → XW → Prop} {j : Nat} (h : EX w) (hj : j < 24) (hk : ∀ w', EX w' → K (prE j) w') : P_X3_priceOfMake K w (nI j) := by
  have hp := h.2.2.2.1 j hj
  have hin : vp_in (nI j) 24 := vp_in_nI hj (by decide)
  have cl : (nI j).toNatClampNeg = j := nI_clamp (by omega)
  have p83 : ∀ (w' : XW) (s : Int32), EX w' → s = prE j → P_X3_priceOfMake_83 K w' (nI j) s (nI j) := by
    intro w' s hw hs
    subst hs
    unfold P_X3_priceOfMake_83 P_X3_priceOfMake_84
    refine ⟨hin, hin, ?_⟩
    rw [cl]
    show K (upd (rd_prices w') j (prE j) j) _
    rw [pk_us]
    obtain ⟨h1, h2, h3, h4, h5⟩ := hw
    refine hk _ ⟨h1, h2, h3, fun i hi => ?_, h5⟩
    show upd (rd_prices w') j (prE j) i = -2 ∨ upd (rd_prices w') j (prE j) i = prE i
    by_cases q : i = j
    · subst q; rw [pk_us]; exact Or.inr rfl
    · rw [pk_un q]; exact h4 i hi
  unfold P_X3_priceOfMake
  refine ⟨hin, ?_⟩
  rw [cl]
  refine ⟨fun z => ?_, fun z => ?_⟩
  · unfold P_X3_priceOfMake_84
    refine ⟨hin, ?_⟩
    rw [cl]
    rcases hp with e | e
    · exact absurd e z
    · rw [e]; exact hk w h
  · refine x_ctb h hj (fun w' hw hc _ => x_pbc_e hc ⟨1, x_width_e hc.1 ⟨fun _ => ?_, fun z => absurd (Int32.le_refl 0) z⟩⟩)
    show (¬ cu_fault w' = 0 → _) ∧ (cu_fault w' = 0 → _)
    rw [hc.2.1]
    unfold ftE
    unfold prE at p83
    by_cases q : j % 2 = 1
    · rw [if_pos q]
      rw [if_pos q] at p83
      exact ⟨fun _ => p83 w' _ hw rfl, fun z => absurd z (by decide)⟩
    · rw [if_neg q]
      rw [if_neg q] at p83
      exact ⟨fun z => absurd rfl z, fun _ => p83 w' _ hw rfl⟩
theorem prE_0 : prE 0 = 0 := by decide
theorem prE_c : ∀ j, j < 24 → prE j = -1 ∨ (¬ prE j = -1 ∧ (0 : Int32) ≤ prE j) := by decide
theorem x_best_l {K : Int32 → XW → Prop} (hk : ∀ w', K 0 w') : ∀ n i w, EX w → 0 < i → i + n = 24 → P_X3_best_6 K (n + 1) w 0 0 (nI i) := by
  intro n
  induction n with
  | zero =>
    intro i w h hi he
    exact ⟨fun _ => hk w, fun z => absurd (by rw [show i = 24 by omega]; exact Int32.le_refl 24) z⟩
  | succ n ih =>
    intro i w h hi he
    refine ⟨fun z => absurd z (nI_ge (b := 24) (by omega) (by decide)), fun _ => x_price_e h (by omega) (fun w' hw => ?_)⟩
    have nx : P_X3_best_6 K (n + 1) w' 0 0 (nI i + 1) := by rw [nI_1]; exact ih (i + 1) w' hw (by omega) (by omega)
    rcases prE_c i (by omega) with e | ⟨e, e2⟩
    · rw [e]
      exact ⟨fun _ => nx, fun z => absurd rfl z⟩
    · exact ⟨fun z => absurd z e, fun _ => ⟨fun z => absurd z (by decide), fun _ => ⟨fun _ => nx, fun z => absurd e2 z⟩⟩⟩
theorem x_best_e {w : XW} {K : Int32 → XW → Prop} (h : EX w) (hk : ∀ w', K 0 w') : P_X3_best K w := by
  unfold P_X3_best
  refine ⟨25, ⟨fun z => absurd z (by decide), fun _ => x_price_e (j := 0) h (by decide) (fun w' hw => ?_)⟩⟩
  rw [prE_0]
  refine ⟨fun z => absurd z (by decide), fun _ => ⟨fun _ => ?_, fun z => absurd rfl z⟩⟩
  exact x_best_l hk 23 1 w' hw (by decide) (by decide)
theorem x_used {w : XW} {K : XW → Prop} (h : EX w) (hk : ∀ w', EX w' → cutE w' 0 → K w') : P_X3_cutTextBy K w (rd_used w) := by
  rw [h.2.1]
  exact x_ctb (j := 0) h (by decide) (fun w' h1 h2 _ => hk w' h1 h2)
theorem lt0_f {v : Int32} (h : ¬ v < 0) : ¬ v < (0 : Int32) := h
theorem x_reads_e {w : XW} {K : Int32 → XW → Prop} {v : Int32} (h : EX w) (h1 : ∀ j, j < 24 → v = nI j → ∀ w', K (ftE j) w') (h0 : ¬ (0 ≤ v.toInt ∧ v.toInt < 24) → ∀ w', K m1 w') : P_X3_reads K w v := by
  unfold P_X3_reads
  refine x_isMake (fun j hj e => ⟨fun _ => ?_, fun z => absurd z (by decide)⟩) (fun z => ⟨fun y => absurd rfl y, fun _ => h0 z w⟩)
  rw [e]
  exact x_ctb h hj (fun w' _ c _ => by rw [c.2.1]; exact h1 j hj e w')
theorem x_faultAt_e {w : XW} {K : Int32 → XW → Prop} {v : Int32} (h : EX w) (h1 : ∀ j, j < 24 → v = nI j → ∀ w', K (faE j) w') (h0 : ¬ (0 ≤ v.toInt ∧ v.toInt < 24) → ∀ w', K m1 w') : P_X3_faultAt K w v := by
  unfold P_X3_faultAt
  refine x_isMake (fun j hj e => ⟨fun _ => ?_, fun z => absurd z (by decide)⟩) (fun z => ⟨fun y => absurd rfl y, fun _ => h0 z w⟩)
  rw [e]
  exact x_ctb h hj (fun w' _ c _ => by rw [c.2.2.1]; exact h1 j hj e w')
theorem x_cost_e {w : XW} {K : Int32 → XW → Prop} {v : Int32} (h : EX w) (h1 : ∀ j, j < 24 → v = nI j → ∀ w', K (prE j) w') (h0 : ¬ (0 ≤ v.toInt ∧ v.toInt < 24) → ∀ w', K m1 w') : P_X3_cost K w v := by
  unfold P_X3_cost
  refine x_isMake (fun j hj e => ⟨fun z => absurd z (by decide), fun _ => ?_⟩) (fun z => ⟨fun _ => h0 z w, fun y => absurd rfl y⟩)
  rw [e]
  exact x_price_e h hj (fun w' _ => h1 j hj e w')
theorem x_use_e {w : XW} {K : Int32 → XW → Prop} {v : Int32} (h1 : ∀ j, j < 24 → v = nI j → ∀ w', K 1 w') (h0 : ¬ (0 ≤ v.toInt ∧ v.toInt < 24) → ∀ w', K 0 w') : P_X3_use K w v := by
  unfold P_X3_use
  exact x_isMake (fun j hj e => ⟨fun _ => h1 j hj e _, fun z => absurd z (by decide)⟩) (fun z => ⟨fun y => absurd rfl y, fun _ => h0 z w⟩)
theorem x_hc_e {w : XW} {K : Int32 → XW → Prop} {v : Int32} (h : EX w) (hk : ∀ w', EX w' → K 0 w') : P_X3_hasChosen K w v := by
  unfold P_X3_hasChosen
  refine x_used h (fun w' hw hc => ⟨fun _ => hk w' hw, fun z => x_width_e hc.1 ⟨fun y => absurd y z, fun _ => hk w' hw⟩⟩)
/-- what about answers while the text is empty -/
def abE (v : Int32) : Int32 := if v = 0 ∨ v = 1 ∨ v = 2 ∨ v = 3 ∨ v = 4 ∨ v = 5 then 0 else -1
theorem x_about_e {w : XW} {K : Int32 → XW → Prop} {v : Int32} (h : EX w) (hk : ∀ w', K (abE v) w') : P_X3_about K w v := by
  unfold P_X3_about
  unfold abE at hk
  refine x_used h (fun w' hw hc => ⟨fun z => ?_, fun z => ?_, fun z => ?_, fun z => ?_, fun z => ?_, fun z => ?_, fun z0 z1 z2 z3 z4 z5 => ?_⟩)
  · rw [if_pos (Or.inl z)] at hk; rw [hc.1]; exact hk w'
  · rw [if_pos (Or.inr (Or.inl z))] at hk; exact x_width_e hc.1 (hk w')
  · rw [if_pos (Or.inr (Or.inr (Or.inl z)))] at hk
    exact ⟨1, ⟨fun _ => hk w', fun y => absurd (by rw [hc.1]; exact Int32.le_refl 0) y⟩⟩
  · rw [if_pos (Or.inr (Or.inr (Or.inr (Or.inl z))))] at hk; rw [hw.2.1]; exact hk w'
  · rw [if_pos (Or.inr (Or.inr (Or.inr (Or.inr (Or.inl z)))))] at hk; rw [hw.1]; exact hk w'
  · rw [if_pos (Or.inr (Or.inr (Or.inr (Or.inr (Or.inr z)))))] at hk; rw [hw.2.2.1]; exact hk w'
  · rw [if_neg (by rintro (e | e | e | e | e | e); exact z0 e; exact z1 e; exact z2 e; exact z3 e; exact z4 e; exact z5 e)] at hk; exact hk w'
theorem x_odd_e {w : XW} {K : Int32 → XW → Prop} {v : Int32} (h : EX w) (hk : ∀ w', K m1 w') : P_X3_odd K w v := by
  unfold P_X3_odd
  exact x_used h (fun w' hw hc => ⟨1, ⟨fun _ => hk w', fun y => absurd (by rw [hc.1]; exact Int32.le_refl 0) y⟩⟩)
theorem x_breadth_e {w : XW} {K : Int32 → XW → Prop} {v : Int32} (h : EX w) (hk : ∀ w', K m1 w') : P_X3_breadth K w v := by
  unfold P_X3_breadth P_X1_cellsOf
  refine x_used h (fun w' hw hc => ?_)
  rw [hc.1]
  exact ⟨fun _ => hk w', fun z => ⟨fun y => absurd y z, fun _ => hk w'⟩⟩
theorem x_cellIn_e {w : XW} {K : Int32 → Prop} {v c : Int32} (h : cu_rows w = 0) (hk : K m1) : P_X1_cellIn K w v c := by
  unfold P_X1_cellIn
  rw [h]
  exact ⟨fun _ => hk, fun z => ⟨fun _ => hk, fun y => absurd (Int32.not_lt.mp z) y⟩⟩
theorem x_size_e {w : XW} {K : Int32 → XW → Prop} {v c : Int32} (h : EX w) (hk : ∀ w', K m1 w') : P_X3_size K w v c := by
  unfold P_X3_size
  refine x_used h (fun w' hw hc => x_cellIn_e hc.1 ?_)
  unfold P_X1_lengthOf
  exact ⟨fun _ => hk w', fun z => absurd (by decide) z⟩
theorem x_at_e {w : XW} {K : Int32 → XW → Prop} {v c k : Int32} (h : EX w) (hk : ∀ w', K m1 w') : P_X3_at K w v c k := by
  unfold P_X3_at
  refine x_used h (fun w' hw hc => x_cellIn_e hc.1 ?_)
  unfold P_X1_byteIn
  exact ⟨fun _ => hk w', fun z => absurd (by decide) z⟩
