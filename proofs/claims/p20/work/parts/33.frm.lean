/-! calls of the reference while its text is empty -/
def tpm (w : MW) (v s : Int32) : MW := md_taped_s (md_tape_s w (upd (md_tape w) (md_taped w).toNatClampNeg (vp_nar .byte (Int8.toInt32 (Int32.toInt8 (v >>> (s &&& 31))))))) ((md_taped w) + (1 : Int32))
def tpm4 (w : MW) (v : Int32) : MW := tpm (tpm (tpm (tpm w v 24) v 16) v 8) v 0
theorem tpm_s {w : MW} {v s : Int32} {t : Nat} (h : md_taped w = nI t) : md_taped (tpm w v s) = nI (t + 1) := by
  show md_taped w + 1 = _
  rw [h, nI_1]
theorem tpm4_s {w : MW} {v : Int32} {t : Nat} (h : md_taped w = nI t) : md_taped (tpm4 w v) = nI (t + 4) := tpm_s (tpm_s (tpm_s (tpm_s h)))
theorem m_tape1 {w : MW} {K : MW → Prop} {v s : Int32} {t n : Nat} (h : md_taped w = nI t) (ht : t < 400) (hs : ¬ s < 0) (hk : P_X4_feedOne_3 K v n (tpm w v s) (s + (-8 : Int32))) : P_X4_feedOne_3 K v (n + 1) w s :=
  ⟨fun z => absurd z hs, fun _ => ⟨by rw [h]; exact vp_in_nI ht (by decide), hk⟩⟩
theorem m_tape {w : MW} {K : MW → Prop} {v : Int32} {t : Nat} (h : md_taped w = nI t) (ht : t + 4 ≤ 400) (hk : K (tpm4 w v)) : P_X4_feedOne K w v := by
  unfold P_X4_feedOne
  refine ⟨5, m_tape1 h (by omega) (by decide) (m_tape1 (tpm_s h) (by omega) (by decide) (m_tape1 (tpm_s (tpm_s h)) (by omega) (by decide) (m_tape1 (tpm_s (tpm_s (tpm_s h))) (by omega) (by decide) ?_)))⟩
  exact ⟨fun _ => hk, fun z => absurd (by decide) z⟩
def tpm20 (w : MW) (a b c d e : Int32) : MW := tpm4 (tpm4 (tpm4 (tpm4 (tpm4 w a) b) c) d) e
theorem m_feed {w : MW} {K : Int32 → MW → Prop} {a b c d e : Int32} {t : Nat} (h : md_taped w = nI t) (ht : t ≤ 380) (hk : K (nI (t + 20)) (tpm20 w a b c d e)) : P_X4_feed K w a b c d e := by
  unfold P_X4_feed
  have e20 : md_taped w + (20 : Int32) = nI (t + 20) := by rw [h]; exact nI_add t 20
  rw [e20]
  refine ⟨fun _ => ?_, fun z => absurd (nI_le (b := 400) (by omega) (by decide)) z⟩
  refine m_tape h (by omega) (m_tape (tpm4_s h) (by omega) (m_tape (tpm4_s (tpm4_s h)) (by omega) (m_tape (tpm4_s (tpm4_s (tpm4_s h))) (by omega) (m_tape (tpm4_s (tpm4_s (tpm4_s (tpm4_s h)))) (by omega) ?_))))
  have := tpm4_s (v := e) (tpm4_s (v := d) (tpm4_s (v := c) (tpm4_s (v := b) (tpm4_s (v := a) h))))
  rw [this]
  exact hk
theorem m_feed_n {w : MW} {K : Int32 → MW → Prop} {a b c d e : Int32} {t : Nat} (h : md_taped w = nI t) (ht : 380 < t) (ht2 : t ≤ 400) (hk : K m1 w) : P_X4_feed K w a b c d e := by
  unfold P_X4_feed
  have e20 : md_taped w + (20 : Int32) = nI (t + 20) := by rw [h]; exact nI_add t 20
  rw [e20]
  exact ⟨fun z => absurd z (nI_ge (a := 400) (by omega) (by omega)), fun _ => hk⟩
theorem m_in {K : Int32 → Prop} {v : Int32} {n : Nat} (hn : n < 2 ^ 31) (h1 : ∀ j, j < n → v = nI j → K 1) (h0 : ¬ (0 ≤ v.toInt ∧ v.toInt < n) → K 0) : P_X4_in K v 0 (nI n - 1) := by
  unfold P_X4_in
  by_cases z : 0 ≤ v.toInt ∧ v.toInt < n
  · obtain ⟨j, hj, rfl⟩ := in_of z
    rw [show nI n - 1 = nI (n - 1) from pk_sub (b := 1) (by omega)]
    exact ⟨fun y => absurd y (nI_pos (by omega)), fun _ => ⟨fun y => absurd y (nI_nlt (by omega) (by omega)), fun _ => h1 j hj rfl⟩⟩
  · rcases out_of hn z with e | ⟨e, e2, e3⟩
    · exact ⟨fun _ => h0 z, fun y => absurd e y⟩
    · refine ⟨fun y => absurd y e, fun _ => ⟨fun _ => h0 z, fun y => absurd ?_ y⟩⟩
      have q := Int32.le_iff_toInt_le.mp e2
      rw [nI_toInt hn] at q
      rcases Nat.eq_zero_or_pos n with e4 | e4
      · subst e4
        rw [show nI 0 - 1 = m1 from rfl]
        exact Int32.lt_iff_toInt_lt.mpr (by rw [m1_i]; omega)
      · rw [show nI n - 1 = nI (n - 1) from pk_sub (b := 1) e4]
        exact Int32.lt_iff_toInt_lt.mpr (by rw [nI_toInt (by omega)]; omega)
theorem m_isMake {K : Int32 → Prop} {v : Int32} (h1 : ∀ j, j < 24 → v = nI j → K 1) (h0 : ¬ (0 ≤ v.toInt ∧ v.toInt < 24) → K 0) : P_X4_isMake K v := by
  unfold P_X4_isMake
  exact m_in (n := 24) (K := fun r => vz r ∧ K r) (by decide) (fun j hj e => ⟨vz_1, h1 j hj e⟩) (fun z => ⟨vz_0, h0 z⟩)
theorem m_hasHead {K : Int32 → Prop} {j : Nat} (hj : j < 2 ^ 31) (hk : K (nI (j % 2))) : P_X4_hasHead K (nI j) := by
  unfold P_X4_hasHead
  rw [show nI j - nI j / (2 : Int32) * (2 : Int32) = nI (j % 2) from pk_rem (d := 2) hj (by decide) (by decide)]
  rcases (show j % 2 = 0 ∨ j % 2 = 1 by omega) with e | e
  · rw [e] at hk ⊢; exact ⟨fun _ => hk, fun z => absurd z (by decide)⟩
  · rw [e] at hk ⊢; exact ⟨fun z => absurd rfl z, fun _ => hk⟩
theorem m_quoteOf {K : Int32 → Prop} {j : Nat} (hj : j < 2 ^ 31) (hk : K (qI (qtN j))) : P_X4_quoteOf K (nI j) := by
  unfold P_X4_quoteOf
  rw [show nI j / (2 : Int32) = nI (j / 2) from pk_div (d := 2) hj (by decide) (by decide), show nI (j / 2) - nI (j / 2) / (3 : Int32) * (3 : Int32) = nI (j / 2 % 3) from pk_rem (d := 3) (by omega) (by decide) (by decide)]
  unfold qI qtN at hk
  rcases (show j / 2 % 3 = 0 ∨ j / 2 % 3 = 1 ∨ j / 2 % 3 = 2 by omega) with e | e | e
  · rw [e] at hk ⊢; exact ⟨fun z => absurd rfl z, fun _ => hk⟩
  · rw [e] at hk ⊢; exact ⟨fun _ => ⟨fun z => absurd rfl z, fun _ => hk⟩, fun z => absurd z (by decide)⟩
  · rw [e] at hk ⊢; exact ⟨fun _ => ⟨fun _ => hk, fun z => absurd z (by decide)⟩, fun z => absurd z (by decide)⟩
def loadE (w : MW) (j : Nat) : Prop := md_rows w = 0 ∧ md_fault w = ftE j ∧ md_faultPlace w = faE j ∧ md_odds w = 0
def EM (w : MW) : Prop := md_size w = 0 ∧ md_used w = 0 ∧ md_taped w = 0 ∧ (∀ j, j < 24 → md_isKnown w j = 0 ∨ md_costs w j = prE j) ∧ (md_loaded w = m1 ∨ ∃ j, j < 24 ∧ md_loaded w = nI j ∧ loadE w j)
theorem EM_0 : EM mw0 := ⟨rfl, rfl, rfl, fun j hj => Or.inl rfl, Or.inl rfl⟩
/-- the reference's world once a cut has begun -/
def mBeg (w : MW) (v : Int32) : MW := md_faultPlace_s (md_fault_s (md_odds_s (md_byteMany_s (md_cellMany_s (md_rows_s (md_loaded_s w v) (0 : Int32)) (0 : Int32)) (0 : Int32)) (0 : Int32)) (0 : Int32)) (-1 : Int32)
theorem mBeg_tape (w : MW) (v : Int32) : md_tape (mBeg w v) = md_tape w := by
  obtain ⟨a1, a2, a3, a4, a5, a6, a7, a8, a9, a10, a11, a12, a13, a14, a15, a16, a17, a18, a19, a20, a21, a22, a23, a24, a25, a26, a27, a28⟩ := w
  rfl
theorem mBeg_text (w : MW) (v : Int32) : md_text (mBeg w v) = md_text w := by
  obtain ⟨a1, a2, a3, a4, a5, a6, a7, a8, a9, a10, a11, a12, a13, a14, a15, a16, a17, a18, a19, a20, a21, a22, a23, a24, a25, a26, a27, a28⟩ := w
  rfl
theorem mBeg_taped (w : MW) (v : Int32) : md_taped (mBeg w v) = md_taped w := by
  obtain ⟨a1, a2, a3, a4, a5, a6, a7, a8, a9, a10, a11, a12, a13, a14, a15, a16, a17, a18, a19, a20, a21, a22, a23, a24, a25, a26, a27, a28⟩ := w
  rfl
theorem mBeg_size (w : MW) (v : Int32) : md_size (mBeg w v) = md_size w := by
  obtain ⟨a1, a2, a3, a4, a5, a6, a7, a8, a9, a10, a11, a12, a13, a14, a15, a16, a17, a18, a19, a20, a21, a22, a23, a24, a25, a26, a27, a28⟩ := w
  rfl
theorem mBeg_used (w : MW) (v : Int32) : md_used (mBeg w v) = md_used w := by
  obtain ⟨a1, a2, a3, a4, a5, a6, a7, a8, a9, a10, a11, a12, a13, a14, a15, a16, a17, a18, a19, a20, a21, a22, a23, a24, a25, a26, a27, a28⟩ := w
  rfl
theorem mBeg_loaded (w : MW) (v : Int32) : md_loaded (mBeg w v) = v := by
  obtain ⟨a1, a2, a3, a4, a5, a6, a7, a8, a9, a10, a11, a12, a13, a14, a15, a16, a17, a18, a19, a20, a21, a22, a23, a24, a25, a26, a27, a28⟩ := w
  rfl
theorem mBeg_rows (w : MW) (v : Int32) : md_rows (mBeg w v) = 0 := by
  obtain ⟨a1, a2, a3, a4, a5, a6, a7, a8, a9, a10, a11, a12, a13, a14, a15, a16, a17, a18, a19, a20, a21, a22, a23, a24, a25, a26, a27, a28⟩ := w
  rfl
theorem mBeg_cellMany (w : MW) (v : Int32) : md_cellMany (mBeg w v) = 0 := by
  obtain ⟨a1, a2, a3, a4, a5, a6, a7, a8, a9, a10, a11, a12, a13, a14, a15, a16, a17, a18, a19, a20, a21, a22, a23, a24, a25, a26, a27, a28⟩ := w
  rfl
theorem mBeg_fault (w : MW) (v : Int32) : md_fault (mBeg w v) = 0 := by
  obtain ⟨a1, a2, a3, a4, a5, a6, a7, a8, a9, a10, a11, a12, a13, a14, a15, a16, a17, a18, a19, a20, a21, a22, a23, a24, a25, a26, a27, a28⟩ := w
  rfl
theorem mBeg_faultPlace (w : MW) (v : Int32) : md_faultPlace (mBeg w v) = -1 := by
  obtain ⟨a1, a2, a3, a4, a5, a6, a7, a8, a9, a10, a11, a12, a13, a14, a15, a16, a17, a18, a19, a20, a21, a22, a23, a24, a25, a26, a27, a28⟩ := w
  rfl
theorem mBeg_odds (w : MW) (v : Int32) : md_odds (mBeg w v) = 0 := by
  obtain ⟨a1, a2, a3, a4, a5, a6, a7, a8, a9, a10, a11, a12, a13, a14, a15, a16, a17, a18, a19, a20, a21, a22, a23, a24, a25, a26, a27, a28⟩ := w
  rfl
theorem mBeg_rowFrom (w : MW) (v : Int32) : md_rowFrom (mBeg w v) = md_rowFrom w := by
  obtain ⟨a1, a2, a3, a4, a5, a6, a7, a8, a9, a10, a11, a12, a13, a14, a15, a16, a17, a18, a19, a20, a21, a22, a23, a24, a25, a26, a27, a28⟩ := w
  rfl
theorem mBeg_cellFrom (w : MW) (v : Int32) : md_cellFrom (mBeg w v) = md_cellFrom w := by
  obtain ⟨a1, a2, a3, a4, a5, a6, a7, a8, a9, a10, a11, a12, a13, a14, a15, a16, a17, a18, a19, a20, a21, a22, a23, a24, a25, a26, a27, a28⟩ := w
  rfl
theorem mBeg_cellSize (w : MW) (v : Int32) : md_cellSize (mBeg w v) = md_cellSize w := by
  obtain ⟨a1, a2, a3, a4, a5, a6, a7, a8, a9, a10, a11, a12, a13, a14, a15, a16, a17, a18, a19, a20, a21, a22, a23, a24, a25, a26, a27, a28⟩ := w
  rfl
theorem mBeg_bytes (w : MW) (v : Int32) : md_bytes (mBeg w v) = md_bytes w := by
  obtain ⟨a1, a2, a3, a4, a5, a6, a7, a8, a9, a10, a11, a12, a13, a14, a15, a16, a17, a18, a19, a20, a21, a22, a23, a24, a25, a26, a27, a28⟩ := w
  rfl
theorem mBeg_byteMany (w : MW) (v : Int32) : md_byteMany (mBeg w v) = 0 := by
  obtain ⟨a1, a2, a3, a4, a5, a6, a7, a8, a9, a10, a11, a12, a13, a14, a15, a16, a17, a18, a19, a20, a21, a22, a23, a24, a25, a26, a27, a28⟩ := w
  rfl
theorem mBeg_isKnown (w : MW) (v : Int32) : md_isKnown (mBeg w v) = md_isKnown w := by
  obtain ⟨a1, a2, a3, a4, a5, a6, a7, a8, a9, a10, a11, a12, a13, a14, a15, a16, a17, a18, a19, a20, a21, a22, a23, a24, a25, a26, a27, a28⟩ := w
  rfl
theorem mBeg_costs (w : MW) (v : Int32) : md_costs (mBeg w v) = md_costs w := by
  obtain ⟨a1, a2, a3, a4, a5, a6, a7, a8, a9, a10, a11, a12, a13, a14, a15, a16, a17, a18, a19, a20, a21, a22, a23, a24, a25, a26, a27, a28⟩ := w
  rfl
theorem mBeg_value (w : MW) (v : Int32) : md_value (mBeg w v) = md_value w := by
  obtain ⟨a1, a2, a3, a4, a5, a6, a7, a8, a9, a10, a11, a12, a13, a14, a15, a16, a17, a18, a19, a20, a21, a22, a23, a24, a25, a26, a27, a28⟩ := w
  rfl
theorem mBeg_digits (w : MW) (v : Int32) : md_digits (mBeg w v) = md_digits w := by
  obtain ⟨a1, a2, a3, a4, a5, a6, a7, a8, a9, a10, a11, a12, a13, a14, a15, a16, a17, a18, a19, a20, a21, a22, a23, a24, a25, a26, a27, a28⟩ := w
  rfl
theorem mBeg_column (w : MW) (v : Int32) : md_column (mBeg w v) = md_column w := by
  obtain ⟨a1, a2, a3, a4, a5, a6, a7, a8, a9, a10, a11, a12, a13, a14, a15, a16, a17, a18, a19, a20, a21, a22, a23, a24, a25, a26, a27, a28⟩ := w
  rfl
theorem mBeg_columnRow (w : MW) (v : Int32) : md_columnRow (mBeg w v) = md_columnRow w := by
  obtain ⟨a1, a2, a3, a4, a5, a6, a7, a8, a9, a10, a11, a12, a13, a14, a15, a16, a17, a18, a19, a20, a21, a22, a23, a24, a25, a26, a27, a28⟩ := w
  rfl
theorem mBeg_columnMany (w : MW) (v : Int32) : md_columnMany (mBeg w v) = md_columnMany w := by
  obtain ⟨a1, a2, a3, a4, a5, a6, a7, a8, a9, a10, a11, a12, a13, a14, a15, a16, a17, a18, a19, a20, a21, a22, a23, a24, a25, a26, a27, a28⟩ := w
  rfl
theorem mBeg_bestForm (w : MW) (v : Int32) : md_bestForm (mBeg w v) = md_bestForm w := by
  obtain ⟨a1, a2, a3, a4, a5, a6, a7, a8, a9, a10, a11, a12, a13, a14, a15, a16, a17, a18, a19, a20, a21, a22, a23, a24, a25, a26, a27, a28⟩ := w
  rfl
theorem mBeg_bestCode (w : MW) (v : Int32) : md_bestCode (mBeg w v) = md_bestCode w := by
  obtain ⟨a1, a2, a3, a4, a5, a6, a7, a8, a9, a10, a11, a12, a13, a14, a15, a16, a17, a18, a19, a20, a21, a22, a23, a24, a25, a26, a27, a28⟩ := w
  rfl
theorem mBeg_bestCost (w : MW) (v : Int32) : md_bestCost (mBeg w v) = md_bestCost w := by
  obtain ⟨a1, a2, a3, a4, a5, a6, a7, a8, a9, a10, a11, a12, a13, a14, a15, a16, a17, a18, a19, a20, a21, a22, a23, a24, a25, a26, a27, a28⟩ := w
  rfl
theorem mBeg_out (w : MW) (v : Int32) : md_out (mBeg w v) = md_out w := by
  obtain ⟨a1, a2, a3, a4, a5, a6, a7, a8, a9, a10, a11, a12, a13, a14, a15, a16, a17, a18, a19, a20, a21, a22, a23, a24, a25, a26, a27, a28⟩ := w
  rfl
theorem mBeg_outs (w : MW) (v : Int32) : md_outs (mBeg w v) = md_outs w := by
  obtain ⟨a1, a2, a3, a4, a5, a6, a7, a8, a9, a10, a11, a12, a13, a14, a15, a16, a17, a18, a19, a20, a21, a22, a23, a24, a25, a26, a27, a28⟩ := w
  rfl
theorem P_load_eq {K : MW → Prop} {w : MW} {v : Int32} : P_X4_load K w v ↔ ((¬ md_loaded w = v → ∃ nf : Nat, P_X4_load_42 K (fun w_4 => P_X4_load_64 K w_4 v) v nf (mBeg w v) (0 : Int32)) ∧ (md_loaded w = v → K w)) := by
  unfold P_X4_load P_X4_wrong mBeg
  exact Iff.rfl
theorem m_load116 {w : MW} {K : MW → Prop} (h : md_rows w = 0) (hk : K w) : P_X4_load_116 K w := ⟨1, ⟨fun _ => hk, fun y => absurd (by rw [h]; exact Int32.le_refl 0) y⟩⟩
theorem m_load_e {w : MW} {K : MW → Prop} {j : Nat} (h : EM w) (hj : j < 24) (hk : ∀ w', EM w' → loadE w' j → md_isKnown w' = md_isKnown w → K w') : P_X4_load K w (nI j) := by
  obtain ⟨h1, h2, h3, h4, h5⟩ := h
  have c0 : j % 2 = 0 → ∀ w' : MW, md_rows w' = 0 → md_fault w' = 0 → md_faultPlace w' = -1 → md_odds w' = 0 → loadE w' j := fun e w' a b c d => ⟨a, by unfold ftE; rw [if_neg (by omega)]; exact b, by unfold faE; rw [if_neg (by omega)]; exact c, d⟩
  have c1 : j % 2 = 1 → ∀ w' : MW, md_rows w' = 0 → md_fault w' = 4 → md_faultPlace w' = 0 → md_odds w' = 0 → loadE w' j := fun e w' a b c d => ⟨a, by unfold ftE; rw [if_pos e]; exact b, by unfold faE; rw [if_pos e]; exact c, d⟩
  have fin : ∀ w' : MW, md_size w' = md_size w → md_used w' = md_used w → md_taped w' = md_taped w → md_isKnown w' = md_isKnown w → md_costs w' = md_costs w → md_loaded w' = nI j → loadE w' j → K w' := fun w' g1 g2 g3 g4 g5 g6 g7 => hk w' ⟨g1.trans h1, g2.trans h2, g3.trans h3, (by rw [g4, g5]; exact h4), Or.inr ⟨j, hj, g6, g7⟩⟩ g7 g4
  rw [P_load_eq]
  refine ⟨fun z => ?_, fun z => ?_⟩
  · clear z
    have q1 := mBeg_size w (nI j)
    have q2 := mBeg_used w (nI j)
    have q3 := mBeg_taped w (nI j)
    have q4 := mBeg_isKnown w (nI j)
    have q5 := mBeg_costs w (nI j)
    have q6 := mBeg_loaded w (nI j)
    have q7 := mBeg_rows w (nI j)
    have q8 := mBeg_fault w (nI j)
    have q9 := mBeg_faultPlace w (nI j)
    have q10 := mBeg_odds w (nI j)
    generalize mBeg w (nI j) = u at *
    refine ⟨1, ⟨fun y => absurd y (by decide), fun _ => ⟨fun _ => ?_, fun y => absurd (by rw [q1, h1]; exact Int32.le_refl 0) y⟩⟩⟩
    show P_X4_load_64 K u (nI j)
    unfold P_X4_load_64
    rw [q7, q8]
    refine ⟨fun y => absurd rfl y, fun _ => ⟨fun y => absurd rfl y, fun _ => m_hasHead (by omega) ?_⟩⟩
    unfold P_X4_wrong P_X4_load_91
    rcases (show j % 2 = 0 ∨ j % 2 = 1 by omega) with e | e
    · rw [e]
      refine ⟨fun _ => ⟨by rw [q7]; exact vp_in_nI (n := 0) (N := 81) (by decide) (by decide), ⟨fun _ => m_load116 (by simp [gs_md_rowFrom, gs_md_rows, gs_md_fault, gs_md_faultPlace, q7]) ?_, fun y => absurd (by simp [gs_md_rowFrom, gs_md_rows, gs_md_fault, gs_md_faultPlace, q8]) y⟩⟩, fun y => absurd rfl y⟩
      exact fin _ (by simp [gs_md_rowFrom, gs_md_rows, gs_md_fault, gs_md_faultPlace, q1]) (by simp [gs_md_rowFrom, gs_md_rows, gs_md_fault, gs_md_faultPlace, q2]) (by simp [gs_md_rowFrom, gs_md_rows, gs_md_fault, gs_md_faultPlace, q3]) (by simp [gs_md_rowFrom, gs_md_rows, gs_md_fault, gs_md_faultPlace, q4]) (by simp [gs_md_rowFrom, gs_md_rows, gs_md_fault, gs_md_faultPlace, q5]) (by simp [gs_md_rowFrom, gs_md_rows, gs_md_fault, gs_md_faultPlace, q6]) (c0 e _ (by simp [gs_md_rowFrom, gs_md_rows, gs_md_fault, gs_md_faultPlace, q7]) (by simp [gs_md_rowFrom, gs_md_rows, gs_md_fault, gs_md_faultPlace, q8]) (by simp [gs_md_rowFrom, gs_md_rows, gs_md_fault, gs_md_faultPlace, q9]) (by simp [gs_md_rowFrom, gs_md_rows, gs_md_fault, gs_md_faultPlace, q10]))
    · rw [e]
      refine ⟨fun y => absurd y (by decide), fun _ => ⟨by simp only [gs_md_fault, gs_md_faultPlace, q7]; exact vp_in_nI (n := 0) (N := 81) (by decide) (by decide), ⟨fun y => absurd y (by simp [gs_md_rowFrom, gs_md_rows, gs_md_fault, gs_md_faultPlace]), fun _ => m_load116 (by simp [gs_md_rowFrom, gs_md_rows, gs_md_fault, gs_md_faultPlace]) ?_⟩⟩⟩
      exact fin _ (by simp [gs_md_rowFrom, gs_md_rows, gs_md_fault, gs_md_faultPlace, q1]) (by simp [gs_md_rowFrom, gs_md_rows, gs_md_fault, gs_md_faultPlace, q2]) (by simp [gs_md_rowFrom, gs_md_rows, gs_md_fault, gs_md_faultPlace, q3]) (by simp [gs_md_rowFrom, gs_md_rows, gs_md_fault, gs_md_faultPlace, q4]) (by simp [gs_md_rowFrom, gs_md_rows, gs_md_fault, gs_md_faultPlace, q5]) (by simp [gs_md_rowFrom, gs_md_rows, gs_md_fault, gs_md_faultPlace, q6]) (c1 e _ (by simp [gs_md_rowFrom, gs_md_rows, gs_md_fault, gs_md_faultPlace]) (by simp [gs_md_rowFrom, gs_md_rows, gs_md_fault, gs_md_faultPlace]) (by simp [gs_md_rowFrom, gs_md_rows, gs_md_fault, gs_md_faultPlace]) (by simp [gs_md_rowFrom, gs_md_rows, gs_md_fault, gs_md_faultPlace, q10]))
  · rcases h5 with e | ⟨i, hi, e, c⟩
    · rw [e] at z
      exact absurd z (fun y => by have := m1_eq (a := j) (by omega); rw [this] at y; exact y)
    · rw [e] at z
      have := (nI_eq (by omega) (by omega)).mp z
      subst this
      exact hk w ⟨h1, h2, h3, h4, Or.inr ⟨i, hi, e, c⟩⟩ c rfl
theorem m_width_e {w : MW} {K : Int32 → Prop} (h : md_rows w = 0) (hk : K 0) : P_X4_width K w := by
  unfold P_X4_width
  exact ⟨fun z => absurd h z, fun _ => hk⟩
theorem nar1 : vp_nar .boolean (1 : Int32) = 1 := rfl
theorem m_cost_e' {w : MW} {K : Int32 → MW → Prop} {j : Nat} (h : EM w) (hj : j < 24) (hk : ∀ w', EM w' → K (prE j) w') : P_X4_cost K w (nI j) := by
  have hin : vp_in (nI j) 24 := vp_in_nI hj (by decide)
  have cl : (nI j).toNatClampNeg = j := nI_clamp (by omega)
  have hp := h.2.2.2.1 j hj
  have p109 : ∀ (w' : MW) (s : Int32), EM w' → s = prE j → P_X4_cost_109 K w' (nI j) s := by
    intro w' s hw hs
    subst hs
    unfold P_X4_cost_109
    refine ⟨hin, hin, ?_⟩
    rw [cl]
    obtain ⟨h1, h2, h3, h4, h5⟩ := hw
    refine hk _ ⟨h1, h2, h3, fun i hi => ?_, h5⟩
    show upd (md_isKnown w') j _ i = 0 ∨ upd (md_costs w') j (prE j) i = prE i
    by_cases q : i = j
    · subst q; rw [pk_us, pk_us]; exact Or.inr rfl
    · rw [pk_un q, pk_un q]; exact h4 i hi
  have p51 : ∀ (w' : MW) (s : Int32), EM w' → md_rows w' = 0 → s = prE j → P_X4_cost_51 K w' (nI j) s := fun w' s hw hr hs =>
    ⟨1, m_width_e hr ⟨fun _ => ⟨1, ⟨fun _ => p109 w' s hw hs, fun y => absurd (by rw [hr]; exact Int32.le_refl 0) y⟩⟩, fun y => absurd (Int32.le_refl 0) y⟩⟩
  unfold P_X4_cost
  refine m_isMake (fun i hi e => ⟨fun _ => ⟨hin, ?_⟩, fun z => absurd z (by decide)⟩) (fun z => absurd (show 0 ≤ (nI j).toInt ∧ (nI j).toInt < 24 by rw [nI_toInt (by omega)]; omega) z)
  rw [cl]
  refine ⟨fun _ => m_load_e h hj (fun w' hw hc _ => ?_), fun z => ⟨hin, ?_⟩⟩
  · rw [hc.2.1]
    unfold ftE
    unfold prE at p109 p51
    by_cases q : j % 2 = 1
    · rw [if_pos q]
      rw [if_pos q] at p109 p51
      exact ⟨fun _ => p109 w' _ hw rfl, fun z => absurd z (by decide)⟩
    · rw [if_neg q]
      rw [if_neg q] at p109 p51
      refine ⟨fun z => absurd rfl z, fun _ => m_quoteOf (by omega) ?_⟩
      unfold qI
      by_cases y : qtN j = 256
      · rw [if_pos y]
        rw [if_pos y] at p51
        exact ⟨fun z => absurd z (by decide), fun _ => p51 w' _ hw hc.1 rfl⟩
      · rw [if_neg y]
        rw [if_neg y] at p51
        exact ⟨fun _ => p51 w' _ hw hc.1 rfl, fun z => absurd (nI_pos' (by have := qtN_le j; omega)) z⟩
  · rcases hp with e | e
    · exact absurd e z
    · rw [e]; exact hk w h
theorem prE_d : ∀ j, j < 24 → prE j < 0 ∨ (¬ prE j < 0 ∧ (0 : Int32) ≤ prE j) := by decide
theorem m_best_l {K : Int32 → MW → Prop} (hk : ∀ w', K 0 w') : ∀ n i w, EM w → 0 < i → i + n = 24 → P_X4_best_4 K (n + 1) w 0 (nI i) := by
  intro n
  induction n with
  | zero =>
    intro i w h hi he
    exact ⟨fun _ => hk w, fun z => absurd (by rw [show i = 24 by omega]; exact Int32.le_refl 24) z⟩
  | succ n ih =>
    intro i w h hi he
    refine ⟨fun z => absurd z (nI_ge (b := 24) (by omega) (by decide)), fun _ => m_cost_e' h (by omega) (fun w' hw => ?_)⟩
    have nx : ∀ w', EM w' → P_X4_best_4 K (n + 1) w' 0 (nI i + 1) := fun w' hw => by rw [nI_1]; exact ih (i + 1) w' hw (by omega) (by omega)
    rcases prE_d i (by omega) with e | ⟨e, e2⟩
    · exact ⟨fun _ => nx w' hw, fun z => absurd e z⟩
    · refine ⟨fun z => absurd z e, fun _ => ⟨fun z => absurd z (by decide), fun _ => m_cost_e' hw (by omega) (fun w2 hw2 => m_cost_e' (j := 0) hw2 (by decide) (fun w3 hw3 => ?_))⟩⟩
      exact ⟨fun _ => nx w3 hw3, fun z => absurd e2 z⟩
theorem m_best_e {w : MW} {K : Int32 → MW → Prop} (h : EM w) (hk : ∀ w', K 0 w') : P_X4_best K w := by
  unfold P_X4_best
  refine ⟨25, ⟨fun z => absurd z (by decide), fun _ => m_cost_e' (j := 0) h (by decide) (fun w' hw => ?_)⟩⟩
  refine ⟨fun z => absurd z (by decide), fun _ => ⟨fun _ => ?_, fun z => absurd (by decide) z⟩⟩
  exact m_best_l hk 23 1 w' hw (by decide) (by decide)
theorem m_used {w : MW} {K : MW → Prop} (h : EM w) (hk : ∀ w', EM w' → loadE w' 0 → K w') : P_X4_load K w (md_used w) := by
  rw [h.2.1]
  exact m_load_e (j := 0) h (by decide) (fun w' h1 h2 _ => hk w' h1 h2)
theorem m_reads_e {w : MW} {K : Int32 → MW → Prop} {v : Int32} (h : EM w) (h1 : ∀ j, j < 24 → v = nI j → ∀ w', K (ftE j) w') (h0 : ¬ (0 ≤ v.toInt ∧ v.toInt < 24) → ∀ w', K m1 w') : P_X4_reads K w v := by
  unfold P_X4_reads
  refine m_isMake (fun j hj e => ⟨fun _ => ?_, fun z => absurd z (by decide)⟩) (fun z => ⟨fun y => absurd rfl y, fun _ => h0 z w⟩)
  rw [e]
  exact m_load_e h hj (fun w' _ c _ => by rw [c.2.1]; exact h1 j hj e w')
theorem m_faultAt_e {w : MW} {K : Int32 → MW → Prop} {v : Int32} (h : EM w) (h1 : ∀ j, j < 24 → v = nI j → ∀ w', K (faE j) w') (h0 : ¬ (0 ≤ v.toInt ∧ v.toInt < 24) → ∀ w', K m1 w') : P_X4_faultAt K w v := by
  unfold P_X4_faultAt
  refine m_isMake (fun j hj e => ⟨fun _ => ?_, fun z => absurd z (by decide)⟩) (fun z => ⟨fun y => absurd rfl y, fun _ => h0 z w⟩)
  rw [e]
  exact m_load_e h hj (fun w' _ c _ => by rw [c.2.2.1]; exact h1 j hj e w')
theorem m_cost_e {w : MW} {K : Int32 → MW → Prop} {v : Int32} (h : EM w) (h1 : ∀ j, j < 24 → v = nI j → ∀ w', K (prE j) w') (h0 : ¬ (0 ≤ v.toInt ∧ v.toInt < 24) → ∀ w', K m1 w') : P_X4_cost K w v := by
  by_cases z : 0 ≤ v.toInt ∧ v.toInt < 24
  · obtain ⟨j, hj, rfl⟩ := in_of (n := 24) z
    exact m_cost_e' h hj (fun w' _ => h1 j hj rfl w')
  · unfold P_X4_cost
    refine m_isMake (fun j hj e => absurd (show 0 ≤ v.toInt ∧ v.toInt < 24 by rw [e, nI_toInt (by omega)]; omega) z) (fun z => ⟨fun y => absurd rfl y, fun _ => h0 z w⟩)
theorem m_use_e {w : MW} {K : Int32 → MW → Prop} {v : Int32} (h1 : ∀ j, j < 24 → v = nI j → ∀ w', K 1 w') (h0 : ¬ (0 ≤ v.toInt ∧ v.toInt < 24) → ∀ w', K 0 w') : P_X4_use K w v := by
  unfold P_X4_use
  exact m_isMake (fun j hj e => ⟨fun _ => h1 j hj e _, fun z => absurd z (by decide)⟩) (fun z => ⟨fun y => absurd rfl y, fun _ => h0 z w⟩)
theorem m_in_e {K : Int32 → Prop} {v r : Int32} (h : r = 0) (hk : K 0) : P_X4_in K v 0 (r - 1) := by
  subst h
  exact m_in (n := 0) (by decide) (fun j hj => absurd hj (Nat.not_lt_zero j)) (fun _ => hk)
theorem m_ic_e {w : MW} {K : Int32 → MW → Prop} {v : Int32} (h : EM w) (hk : ∀ w', EM w' → K 0 w') : P_X4_isColumn K w v := by
  unfold P_X4_isColumn
  refine m_used h (fun w' hw hc => m_width_e hc.1 (m_in_e rfl ⟨fun z => absurd rfl z, fun _ => hk w' hw⟩))
theorem m_isRow_e {w : MW} {K : Int32 → Prop} {v : Int32} (h : md_rows w = 0) (hk : K 0) : P_X4_isRow K w v := by
  unfold P_X4_isRow
  exact m_in_e h ⟨vz_0, hk⟩
theorem m_about_e {w : MW} {K : Int32 → MW → Prop} {v : Int32} (h : EM w) (hk : ∀ w', K (abE v) w') : P_X4_about K w v := by
  unfold P_X4_about
  unfold abE at hk
  refine m_used h (fun w' hw hc => ⟨fun z => ?_, fun z => ?_, fun z => ?_, fun z => ?_, fun z => ?_, fun z => ?_, fun z0 z1 z2 z3 z4 z5 => ?_⟩)
  · rw [if_pos (Or.inl z)] at hk; rw [hc.1]; exact hk w'
  · rw [if_pos (Or.inr (Or.inl z))] at hk; exact m_width_e hc.1 (hk w')
  · rw [if_pos (Or.inr (Or.inr (Or.inl z)))] at hk; rw [hc.2.2.2]; exact hk w'
  · rw [if_pos (Or.inr (Or.inr (Or.inr (Or.inl z))))] at hk; rw [hw.2.1]; exact hk w'
  · rw [if_pos (Or.inr (Or.inr (Or.inr (Or.inr (Or.inl z)))))] at hk; rw [hw.1]; exact hk w'
  · rw [if_pos (Or.inr (Or.inr (Or.inr (Or.inr (Or.inr z)))))] at hk; rw [hw.2.2.1]; exact hk w'
  · rw [if_neg (by rintro (e | e | e | e | e | e); exact z0 e; exact z1 e; exact z2 e; exact z3 e; exact z4 e; exact z5 e)] at hk; exact hk w'
theorem m_odd_e {w : MW} {K : Int32 → MW → Prop} {v : Int32} (h : EM w) (hk : ∀ w', K m1 w') : P_X4_odd K w v := by
  unfold P_X4_odd
  exact m_used h (fun w' hw hc => ⟨1, ⟨fun _ => hk w', fun y => absurd (by rw [hc.1]; exact Int32.le_refl 0) y⟩⟩)
theorem m_breadth_e {w : MW} {K : Int32 → MW → Prop} {v : Int32} (h : EM w) (hk : ∀ w', K m1 w') : P_X4_breadth K w v := by
  unfold P_X4_breadth
  exact m_used h (fun w' hw hc => m_isRow_e hc.1 ⟨fun _ => hk w', fun z => absurd rfl z⟩)
theorem m_cellAt_e {w : MW} {K : Int32 → MW → Prop} {v c : Int32} (h : EM w) (hk : ∀ w', K m1 w') : P_X4_cellAt K w v c := by
  unfold P_X4_cellAt
  exact m_used h (fun w' hw hc => m_isRow_e hc.1 ⟨fun _ => hk w', fun z => absurd rfl z⟩)
theorem m_size_e {w : MW} {K : Int32 → MW → Prop} {v c : Int32} (h : EM w) (hk : ∀ w', K m1 w') : P_X4_size K w v c := by
  unfold P_X4_size
  exact m_cellAt_e h (fun w' => ⟨fun z => absurd z (by decide), fun _ => hk w'⟩)
theorem m_at_e {w : MW} {K : Int32 → MW → Prop} {v c k : Int32} (h : EM w) (hk : ∀ w', K m1 w') : P_X4_at K w v c k := by
  unfold P_X4_at
  exact m_cellAt_e h (fun w' => ⟨fun _ => hk w', fun z => absurd (by decide) z⟩)
theorem m_told_e {w : MW} {K : Int32 → MW → Prop} {v c : Int32} (h : EM w) (hk : ∀ w', K m1 w') : P_X4_told K w v c := by
  unfold P_X4_told
  exact m_ic_e h (fun w' _ => ⟨fun _ => hk w', fun z => absurd rfl z⟩)
theorem m_changes {K : MW → Prop} {w : MW} (hk : ∀ w', (∀ j, j < 24 → md_isKnown w' j = 0) → (∃ f, w' = md_isKnown_s (md_loaded_s w (-1)) f) → K w') : P_X4_changes K w := by
  unfold P_X4_changes
  have L : ∀ n i (u : MW), i + n = 24 → (∀ j, j < i → md_isKnown u j = 0) → (∃ f, u = md_isKnown_s (md_loaded_s w (-1)) f) → P_X4_changes_7 K (n + 1) u (nI i) := by
    intro n
    induction n with
    | zero =>
      intro i u he h1 h2
      exact ⟨fun _ => hk u (fun j hj => h1 j (by omega)) h2, fun z => absurd (by rw [show i = 24 by omega]; exact Int32.le_refl 24) z⟩
    | succ n ih =>
      intro i u he h1 h2
      refine ⟨fun z => absurd z (nI_ge (b := 24) (by omega) (by decide)), fun _ => ⟨vp_in_nI (by omega) (by decide), ?_⟩⟩
      rw [nI_1, nI_clamp (by omega)]
      refine ih (i + 1) _ (by omega) (fun j hj => ?_) ?_
      · show upd (md_isKnown u) i 0 j = 0
        by_cases q : j = i
        · subst q; exact pk_us
        · rw [pk_un q]; exact h1 j (by omega)
      · obtain ⟨f, e⟩ := h2
        subst e
        exact ⟨_, rfl⟩
  exact ⟨25, L 24 0 _ (by decide) (fun j hj => absurd hj (Nat.not_lt_zero j)) ⟨_, rfl⟩⟩
