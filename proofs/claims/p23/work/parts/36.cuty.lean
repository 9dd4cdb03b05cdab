/-- what the class holds once a text is cut -/
def CutX (w : XW) (j : Nat) (tx : Nat → Nat) (n : Nat) : Prop :=
  RepX w (rTb j tx n) ∧ cu_fault w = nI (rFt j tx n) ∧ cu_faultSpot w = rAt j tx n ∧ cu_quote w = qI (qtN j) ∧ cu_headed w = nI (j % 2)
theorem x_fin46g {w : XW} {K : XW → Prop} {r c h : Nat} (h1 : cu_rows w = nI r) (h2 : cu_cells w = nI c) (h3 : cu_heldSize w = nI h) (hr : r ≤ 80) (hc : c ≤ 960)
    (hk : ∀ w', w'.1 = w.1 → w'.2.2 = w.2.2 → cu_rows w' = nI r → cu_cells w' = nI c → cu_rowStart w' = upd (cu_rowStart w) r (nI c) → cu_cellStart w' = upd (cu_cellStart w) c (nI h) → cu_held w' = cu_held w → cu_fault w' = cu_fault w → cu_faultSpot w' = cu_faultSpot w → cu_quote w' = cu_quote w → cu_headed w' = cu_headed w → K w') : P_X1_finish_46 K w := by
  unfold P_X1_finish_46
  have e2 : ∀ f, cu_cells (cu_rowStart_s w f) = nI c := fun f => h2
  have e3 : ∀ f, cu_heldSize (cu_rowStart_s w f) = nI h := fun f => h3
  rw [e2, e3, h1, h2, nI_clamp (by omega), nI_clamp (by omega)]
  refine ⟨vp_in_nI (by omega) (by decide), vp_in_nI (by omega) (by decide), hk _ rfl rfl ?_ ?_ ?_ ?_ ?_ ?_ ?_ ?_ ?_⟩
  · simp [gs_cu_rowStart, gs_cu_cellStart, h1]
  · simp [gs_cu_rowStart, gs_cu_cellStart, h2]
  · simp [gs_cu_rowStart, gs_cu_cellStart]
  · simp [gs_cu_rowStart, gs_cu_cellStart]
  · simp [gs_cu_rowStart, gs_cu_cellStart]
  · simp [gs_cu_rowStart, gs_cu_cellStart]
  · simp [gs_cu_rowStart, gs_cu_cellStart]
  · simp [gs_cu_rowStart, gs_cu_cellStart]
  · simp [gs_cu_rowStart, gs_cu_cellStart]
theorem RepX_tE {w : XW} (h1 : cu_rows w = nI 0) (h2 : cu_cells w = nI 0) (h3 : cu_rowStart w 0 = nI 0) (h4 : cu_cellStart w 0 = nI 0) : RepX w tE := by
  refine ⟨h1, h2, fun r hr => ?_, fun c hc => ?_, fun i hi => absurd (show i < 0 from hi) (Nat.not_lt_zero i)⟩
  · have : r = 0 := Nat.le_zero.mp hr
    subst this; exact h3
  · have : c = 0 := Nat.le_zero.mp hc
    subst this; exact h4
/-- the end of a cut that found a FAULT -/
theorem x_fin_bad {w : XW} {K : XW → Prop} {f a : Nat} {q hd : Int32} (hf : cu_fault w = nI f) (hf0 : f ≠ 0) (hf5 : f < 5) (ha : cu_faultSpot w = nI a) (hq : cu_quote w = q) (hh : cu_headed w = hd)
    (hk : ∀ w', w'.1 = w.1 → w'.2.2 = w.2.2 → RepX w' tE → cu_fault w' = nI f → cu_faultSpot w' = nI a → cu_quote w' = q → cu_headed w' = hd → K w') : P_X1_finish_24 K w := by
  unfold P_X1_finish_24
  refine ⟨fun z => absurd z (by rw [hf]; exact nI_ne0 (by omega) (by omega)), fun _ => ?_⟩
  refine x_fin46g (r := 0) (c := 0) (h := 0) ?_ ?_ ?_ (by decide) (by decide) (fun w' g1 g2 g3 g4 g5 g6 g7 g8 g9 g10 g11 => hk w' ?_ ?_ (RepX_tE g3 g4 (by rw [g5, pk_us]) (by rw [g6, pk_us])) ?_ ?_ ?_ ?_)
  · simp [gs_cu_heldSize, gs_cu_cells, gs_cu_rows]; rfl
  · simp [gs_cu_heldSize, gs_cu_cells, gs_cu_rows]; rfl
  · simp [gs_cu_heldSize, gs_cu_cells, gs_cu_rows]; rfl
  · rw [g1]; rfl
  · rw [g2]; rfl
  · rw [g8]; simp [gs_cu_heldSize, gs_cu_cells, gs_cu_rows, hf]
  · rw [g9]; simp [gs_cu_heldSize, gs_cu_cells, gs_cu_rows, ha]
  · rw [g10]; simp [gs_cu_heldSize, gs_cu_cells, gs_cu_rows, hq]
  · rw [g11]; simp [gs_cu_heldSize, gs_cu_cells, gs_cu_rows, hh]
theorem x_finish {w : XW} {K : XW → Prop} {mark quote n : Nat} {s : Ps} {hd : Int32} (h : RepP w mark quote s) (hs : pF s = 0 → pWF s n) (hn : n ≤ 1200) (hF : pF s ≤ 3) (hh : cu_headed w = hd)
    (hk : ∀ w', w'.1 = w.1 → w'.2.2 = w.2.2 → RepX w' (pEnd s).2.2 → cu_fault w' = nI (pEnd s).1 → cu_faultSpot w' = (if (pEnd s).1 = 0 then m1 else nI (pEnd s).2.1) → cu_quote w' = qI quote → cu_headed w' = hd → K w') : P_X1_finish K w := by
  obtain ⟨h1, h2, h3, h4, h5, h6, h7, h8, h9, h10, h11, h12⟩ := h
  unfold P_X1_finish
  unfold pEnd at hk
  by_cases f0 : pF s = 0
  · have hw := hs f0
    have hC := pC_up hw
    rw [if_pos f0] at hk h6
    refine ⟨fun z => absurd (by rw [h5, f0]; rfl) z, fun _ => ⟨fun z3 => ?_, fun z3 => ?_⟩⟩
    · have n3 : pPh s ≠ 3 := fun e => z3 (by rw [h1, e]; rfl)
      rw [if_neg n3] at hk
      unfold P_X1_finish_24
      refine ⟨fun _ => ?_, fun z => absurd (by rw [h5, f0]; rfl) z⟩
      refine x_fin46g h2 h3 h4 hw.2.2.1 (by have := hw.2.2.1; omega) (fun w' g1 g2 g3 g4 g5 g6 g7 g8 g9 g10 g11 => hk w' g1 g2 ?_ ?_ ?_ ?_ ?_)
      · have eN : tN (pR s, un (pS s) (pR s) (pC s), un (pT s) (pC s) (pH s), pB s) = pC s := un_s
        refine ⟨g3, ?_, ?_, ?_, ?_⟩
        · rw [eN]; exact g4
        · intro r hr
          have hr : r ≤ pR s := hr
          show cu_rowStart w' r = nI (un (pS s) (pR s) (pC s) r)
          rw [g5]
          by_cases e : r = pR s
          · subst e; rw [pk_us, un_s]
          · rw [pk_un e, un_n e]; exact h8 r (by omega)
        · intro c hc
          rw [eN] at hc
          show cu_cellStart w' c = nI (un (pT s) (pC s) (pH s) c)
          rw [g6]
          by_cases e : c = pC s
          · subst e; rw [pk_us, un_s]
          · rw [pk_un e, un_n e]; exact h9 c (by omega)
        · intro i hi
          rw [eN] at hi
          have hi : i < un (pT s) (pC s) (pH s) (pC s) := hi
          rw [un_s] at hi
          rw [g7]
          exact h10 i hi
      · rw [g8, h5, f0]
      · rw [g9, h6]; rfl
      · rw [g10, h12]
      · rw [g11, hh]
    · have y3 : pPh s = 3 := (nI_eq (by have := hw.1; omega) (by decide)).mp (by rw [← h1]; exact z3)
      rw [if_pos y3] at hk
      unfold P_X1_fail
      have hcell : 0 < pC s := by have := hw.2.2.2.2.2.1; omega
      refine x_fin_bad (f := 1) (a := pL s) (q := qI quote) (hd := hd) ?_ (by decide) (by decide) ?_ ?_ ?_ (fun w' g1 g2 g3 g4 g5 g6 g7 => hk w' ?_ ?_ g3 g4 ?_ g6 g7)
      · simp [gs_cu_fault, gs_cu_faultSpot]; rfl
      · simp [gs_cu_fault, gs_cu_faultSpot, h7 hcell]
      · simp [gs_cu_fault, gs_cu_faultSpot, h12]
      · simp [gs_cu_fault, gs_cu_faultSpot, hh]
      · rw [g1]; rfl
      · rw [g2]; rfl
      · rw [g5]; rfl
  · rw [if_neg f0] at hk h6
    refine ⟨fun _ => ?_, fun z => absurd z (by rw [h5]; exact nI_ne0 (by omega) (by omega))⟩
    exact x_fin_bad (q := qI quote) (hd := hd) h5 f0 (by omega) h6 h12 hh (fun w' g1 g2 g3 g4 g5 g6 g7 => hk w' g1 g2 g3 g4 (by rw [if_neg f0]; exact g5) g6 g7)
theorem RepP_0 {w : XW} {j : Nat} : RepP (wBeg w j) (mkN j) (qtN j) p0 := by
  refine ⟨?_, ?_, ?_, ?_, ?_, ?_, fun z => absurd (show 0 < 0 from z) (by decide), fun r hr => absurd (show r < 0 from hr) (Nat.not_lt_zero r), fun r hr => absurd (show r < 0 from hr) (Nat.not_lt_zero r), fun r hr => absurd (show r < 0 from hr) (Nat.not_lt_zero r), wBeg_m w j, wBeg_q w j⟩
  · rw [wBeg_p]; rfl
  · rw [wBeg_r]; rfl
  · rw [wBeg_c]; rfl
  · rw [wBeg_s]; rfl
  · rw [wBeg_f]; rfl
  · rw [wBeg_a]; rfl
theorem wBeg_t (w : XW) (j i : Nat) : rd_text (wBeg w j) i = rd_text w i := by
  unfold rd_text
  rw [wBeg_1]
theorem x_cutText {w : XW} {K : XW → Prop} {j : Nat} {tx : Nat → Nat} {n : Nat} (hj : j < 24) (hb : bOK tx n) (htx : ∀ i, i < n → rd_text w i = nI (tx i)) (hk : ∀ w', w'.1 = w.1 → w'.2.2 = w.2.2 → CutX w' j tx n → K w') : P_X1_cutText K w (nI n) (nI j) := by
  have hn := hb.1
  rcases Nat.eq_zero_or_pos n with e | e
  · subst e
    refine x_cut_e hj (fun w' g1 g2 g3 g4 g5 g6 => hk w' g1 g2 ?_)
    unfold CutX rTb rFt rAt pRes
    rw [if_pos rfl]
    obtain ⟨c1, c2, c3, c4, c5⟩ := g3
    unfold ftE at c2
    unfold faE at c3
    by_cases z : j % 2 = 1
    · rw [if_pos z] at c2 c3 ⊢
      exact ⟨RepX_tE c1 g4 g5 g6, c2, by rw [c3]; rfl, c4, c5⟩
    · rw [if_neg z] at c2 c3 ⊢
      exact ⟨RepX_tE c1 g4 g5 g6, c2, by rw [c3]; rfl, c4, c5⟩
  · unfold P_X1_cutText
    refine x_begin hj ?_
    have e1 : (if (1200 : Int32) < nI n then (1200 : Int32) else nI n) = nI n := if_neg (nI_nlt (b := n) (a := 1200) (by omega) (by decide))
    rw [e1]
    refine ⟨fun z => absurd z (nI_nle e (by omega)), fun _ => ?_⟩
    have q1 := wBeg_1 w j
    have q2 := wBeg_2 w j
    have qh := wBeg_h w j
    have qt := wBeg_t w j
    have qR := @RepP_0 w j
    generalize wBeg w j = u at *
    refine x_openR (p := 0) qR (by show 0 ≤ 80; decide) (by show 0 ≤ 960; decide) (fun w1 g1 g2 => ?_)
    unfold P_X1_cutText_40
    refine ⟨n + 1, x_cut_l (mark := mkN j) (quote := qtN j) (tx := tx) (w0 := w1) hb (mkN_lt j) (qtN_le j) ?_ (fun w2 g3 g4 => ?_) n 0 w1 (by omega) (EqU.rf w1) g2⟩
    · intro i hi
      rw [← htx i hi, ← qt i]
      unfold rd_text
      rw [g1.1]
    · show P_X1_finish K w2
      refine x_finish g4 (fun h => pRun_wf hb n (Nat.le_refl _) h) hn (pRun_F _ _ _ _ _) (hd := nI (j % 2)) (by rw [g3.2.2, g1.2.2, qh]) (fun w' k1 k2 k3 k4 k5 k6 k7 => hk w' ?_ ?_ ?_)
      · rw [k1, g3.1, g1.1, q1]
      · rw [k2, g3.2.1, g1.2.1, q2]
      · unfold CutX rTb rFt rAt pRes
        rw [if_neg (by omega)]
        exact ⟨k3, k4, k5, k6, k7⟩
