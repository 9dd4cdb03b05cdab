/-! how a cut begins: MARK, QUOTE and HEAD of a MAKE -/
def mkN (j : Nat) : Nat := if j / 6 = 0 then 44 else if j / 6 = 1 then 59 else if j / 6 = 2 then 9 else 124
def qtN (j : Nat) : Nat := if j / 2 % 3 = 1 then 34 else if j / 2 % 3 = 2 then 39 else 256
theorem mkN_lt (j : Nat) : mkN j < 256 := by unfold mkN; split; decide; split; decide; split <;> decide
theorem qtN_le (j : Nat) : qtN j ≤ 256 := by unfold qtN; split; decide; split <;> decide
theorem tbM_n : ∀ k, k < 4 → tbM k = nI (if k = 0 then 44 else if k = 1 then 59 else if k = 2 then 9 else 124) := by decide
/-- the class' world once a cut by MAKE j has begun -/
def wBeg (w : XW) (j : Nat) : XW := cu_phase_s (cu_faultSpot_s (cu_fault_s (cu_rows_s (cu_cells_s (cu_heldSize_s (cu_headed_s (cu_quote_s (cu_mark_s w (nI (mkN j))) (qI (qtN j))) (nI (j % 2))) 0) 0) 0) 0) (-1)) 0
theorem rem_n {a d : Nat} (ha : a < 2 ^ 31) (h0 : 0 < d) (hd : d < 2 ^ 31) : nI a - nI a / nI d * nI d = nI (a % d) := pk_rem ha h0 hd
theorem x_begin58 {w : XW} {K : XW → Prop} {j : Nat} {q : Int32} (hj : j < 24) (hk : K (cu_phase_s (cu_faultSpot_s (cu_fault_s (cu_rows_s (cu_cells_s (cu_heldSize_s (cu_headed_s (cu_quote_s w q) (nI (j % 2))) 0) 0) 0) 0) (-1)) 0)) : P_X1_begin_58 K w (nI j) q := by
  unfold P_X1_begin_58 P_X1_begin_74
  rw [show nI j - nI j / (2 : Int32) * (2 : Int32) = nI (j % 2) from pk_rem (d := 2) (by omega) (by decide) (by decide)]
  rcases (show j % 2 = 0 ∨ j % 2 = 1 by omega) with e | e
  · rw [e] at hk ⊢
    exact ⟨fun _ => ⟨vz_0, hk⟩, fun z => absurd z (by decide)⟩
  · rw [e] at hk ⊢
    exact ⟨fun z => absurd rfl z, fun _ => ⟨vz_1, hk⟩⟩
theorem x_begin {w : XW} {K : XW → Prop} {j : Nat} (hj : j < 24) (hk : K (wBeg w j)) : P_X1_begin K w (nI j) := by
  unfold P_X1_begin P_X1_begin_26 P_X1_begin_27
  rw [show nI j / (6 : Int32) = nI (j / 6) from pk_div (d := 6) (by omega) (by decide) (by decide), show nI j / (2 : Int32) = nI (j / 2) from pk_div (d := 2) (by omega) (by decide) (by decide), show nI (j / 2) - nI (j / 2) / (3 : Int32) * (3 : Int32) = nI (j / 2 % 3) from pk_rem (d := 3) (by omega) (by decide) (by decide)]
  have h6 : j / 6 < 4 := by omega
  refine ⟨fun z => absurd z (nI_pos (by omega)), fun _ => ⟨fun z => absurd z (nI_ge (b := 4) h6 (by decide)), fun _ => ⟨vp_in_nI h6 (by decide), ?_⟩⟩⟩
  rw [nI_clamp (by omega), tbM_n _ h6]
  unfold wBeg mkN qtN qI at hk
  rcases (show j / 2 % 3 = 0 ∨ j / 2 % 3 = 1 ∨ j / 2 % 3 = 2 by omega) with e | e | e
  · rw [e] at hk ⊢
    exact ⟨fun _ => ⟨fun _ => x_begin58 hj hk, fun z => absurd z (by decide)⟩, fun z => absurd z (by decide)⟩
  · rw [e] at hk ⊢
    exact ⟨fun z => absurd rfl z, fun _ => x_begin58 hj hk⟩
  · rw [e] at hk ⊢
    exact ⟨fun _ => ⟨fun z => absurd rfl z, fun _ => x_begin58 hj hk⟩, fun z => absurd z (by decide)⟩
theorem x_fin46 {w : XW} {K : XW → Prop} (h1 : cu_rows w = 0) (h2 : cu_cells w = 0) (h3 : cu_heldSize w = 0) (hk : K (cu_cellStart_s (cu_rowStart_s w (upd (cu_rowStart w) 0 0)) (upd (cu_cellStart w) 0 0))) : P_X1_finish_46 K w := by
  unfold P_X1_finish_46
  have e2 : ∀ f, cu_cells (cu_rowStart_s w f) = 0 := fun f => h2
  have e3 : ∀ f, cu_heldSize (cu_rowStart_s w f) = 0 := fun f => h3
  rw [e2, e3, h1, h2]
  exact ⟨vp_in_nI (n := 0) (N := 81) (by decide) (by decide), vp_in_nI (n := 0) (N := 961) (by decide) (by decide), hk⟩
def ftE (j : Nat) : Int32 := if j % 2 = 1 then 4 else 0
def faE (j : Nat) : Int32 := if j % 2 = 1 then 0 else -1
def cutE (w : XW) (j : Nat) : Prop := cu_rows w = 0 ∧ cu_fault w = ftE j ∧ cu_faultSpot w = faE j ∧ cu_quote w = qI (qtN j) ∧ cu_headed w = nI (j % 2)
theorem wBeg_1 (w : XW) (j : Nat) : (wBeg w j).1 = w.1 := by
  obtain ⟨a1, ⟨b1, b2, b3, b4, b5, b6, b7, b8, b9, b10, b11, b12, b13⟩, c1, d1⟩ := w
  rfl
theorem wBeg_2 (w : XW) (j : Nat) : (wBeg w j).2.2 = w.2.2 := by
  obtain ⟨a1, ⟨b1, b2, b3, b4, b5, b6, b7, b8, b9, b10, b11, b12, b13⟩, c1, d1⟩ := w
  rfl
theorem wBeg_h (w : XW) (j : Nat) : cu_headed (wBeg w j) = nI (j % 2) := by
  obtain ⟨a1, ⟨b1, b2, b3, b4, b5, b6, b7, b8, b9, b10, b11, b12, b13⟩, c1, d1⟩ := w
  rfl
theorem wBeg_q (w : XW) (j : Nat) : cu_quote (wBeg w j) = qI (qtN j) := by
  obtain ⟨a1, ⟨b1, b2, b3, b4, b5, b6, b7, b8, b9, b10, b11, b12, b13⟩, c1, d1⟩ := w
  rfl
theorem wBeg_m (w : XW) (j : Nat) : cu_mark (wBeg w j) = nI (mkN j) := by
  obtain ⟨a1, ⟨b1, b2, b3, b4, b5, b6, b7, b8, b9, b10, b11, b12, b13⟩, c1, d1⟩ := w
  rfl
theorem wBeg_r (w : XW) (j : Nat) : cu_rows (wBeg w j) = 0 := by
  obtain ⟨a1, ⟨b1, b2, b3, b4, b5, b6, b7, b8, b9, b10, b11, b12, b13⟩, c1, d1⟩ := w
  rfl
theorem wBeg_c (w : XW) (j : Nat) : cu_cells (wBeg w j) = 0 := by
  obtain ⟨a1, ⟨b1, b2, b3, b4, b5, b6, b7, b8, b9, b10, b11, b12, b13⟩, c1, d1⟩ := w
  rfl
theorem wBeg_s (w : XW) (j : Nat) : cu_heldSize (wBeg w j) = 0 := by
  obtain ⟨a1, ⟨b1, b2, b3, b4, b5, b6, b7, b8, b9, b10, b11, b12, b13⟩, c1, d1⟩ := w
  rfl
theorem wBeg_f (w : XW) (j : Nat) : cu_fault (wBeg w j) = 0 := by
  obtain ⟨a1, ⟨b1, b2, b3, b4, b5, b6, b7, b8, b9, b10, b11, b12, b13⟩, c1, d1⟩ := w
  rfl
theorem wBeg_a (w : XW) (j : Nat) : cu_faultSpot (wBeg w j) = -1 := by
  obtain ⟨a1, ⟨b1, b2, b3, b4, b5, b6, b7, b8, b9, b10, b11, b12, b13⟩, c1, d1⟩ := w
  rfl
theorem wBeg_p (w : XW) (j : Nat) : cu_phase (wBeg w j) = 0 := by
  obtain ⟨a1, ⟨b1, b2, b3, b4, b5, b6, b7, b8, b9, b10, b11, b12, b13⟩, c1, d1⟩ := w
  rfl
theorem x_cut_e {w : XW} {K : XW → Prop} {j : Nat} (hj : j < 24) (hk : ∀ w', w'.1 = w.1 → w'.2.2 = w.2.2 → cutE w' j → cu_cells w' = nI 0 → cu_rowStart w' 0 = nI 0 → cu_cellStart w' 0 = nI 0 → K w') : P_X1_cutText K w 0 (nI j) := by
  unfold P_X1_cutText
  refine x_begin hj ?_
  rw [show (if (1200 : Int32) < 0 then (1200 : Int32) else 0) = 0 from rfl]
  refine ⟨fun _ => ?_, fun z => absurd (Int32.le_refl 0) z⟩
  unfold P_X1_cutText_40
  rw [wBeg_h]
  have q1 := wBeg_1 w j
  have q2 := wBeg_2 w j
  have qh := wBeg_h w j
  have qq := wBeg_q w j
  have qr := wBeg_r w j
  have qc := wBeg_c w j
  have qs := wBeg_s w j
  have qf := wBeg_f w j
  have qa := wBeg_a w j
  have qp := wBeg_p w j
  generalize wBeg w j = u at *
  rcases (show j % 2 = 0 ∨ j % 2 = 1 by omega) with e | e
  · refine ⟨fun _ => ⟨1, ⟨fun _ => ?_, fun z => absurd (Int32.le_refl 0) z⟩⟩, fun z => absurd (by rw [e]; rfl) z⟩
    show P_X1_finish K u
    unfold P_X1_finish P_X1_finish_24
    rw [qf, qp]
    refine ⟨fun z => absurd rfl z, fun _ => ⟨fun _ => ⟨fun _ => x_fin46 qr qc qs ?_, fun z => absurd rfl z⟩, fun z => absurd z (by decide)⟩⟩
    exact hk _ q1 q2 ⟨qr, by unfold ftE; rw [if_neg (by omega)]; exact qf, by unfold faE; rw [if_neg (by omega)]; exact qa, qq, qh⟩ qc (pk_us (f := cu_rowStart u) (k := 0)) (pk_us (f := cu_cellStart u) (k := 0))
  · refine ⟨fun z => absurd (show nI (j % 2) = nI 0 from z) (by rw [e]; decide), fun _ => ?_⟩
    unfold P_X1_fail
    refine ⟨1, ⟨fun _ => ?_, fun z => absurd (Int32.le_refl 0) z⟩⟩
    show P_X1_finish K (cu_faultSpot_s (cu_fault_s u 4) 0)
    unfold P_X1_finish P_X1_finish_24
    have f4 : ¬ cu_fault (cu_faultSpot_s (cu_fault_s u 4) 0) = 0 := show ¬ (4 : Int32) = 0 by decide
    refine ⟨fun _ => ⟨fun z => absurd z f4, fun _ => x_fin46 rfl rfl rfl ?_⟩, fun z => absurd z f4⟩
    exact hk _ q1 q2 ⟨rfl, by unfold ftE; rw [if_pos e]; rfl, by unfold faE; rw [if_pos e]; rfl, qq, qh⟩ rfl (pk_us (f := cu_rowStart u) (k := 0)) (pk_us (f := cu_cellStart u) (k := 0))
