/-! add and clear, of both -/
theorem x_forget {w : XW} {K : XW → Prop} (hk : ∀ w', rd_text w' = rd_text w → rd_tape w' = rd_tape w → rd_textSize w' = rd_textSize w → rd_tapeSize w' = rd_tapeSize w → rd_used w' = rd_used w → rd_cutBy w' = m1 → (∀ j, j < 24 → rd_prices w' j = -2) → w'.2 = w.2 → K w') : P_X3_forgetReadings K w := by
  unfold P_X3_forgetReadings
  exact hk _ (by simp [gs_rd_text, gs_rd_tape, gs_rd_prices, gs_rd_textSize, gs_rd_tapeSize, gs_rd_used, gs_rd_cutBy]) (by simp [gs_rd_text, gs_rd_tape, gs_rd_prices, gs_rd_textSize, gs_rd_tapeSize, gs_rd_used, gs_rd_cutBy]) (by simp [gs_rd_text, gs_rd_tape, gs_rd_prices, gs_rd_textSize, gs_rd_tapeSize, gs_rd_used, gs_rd_cutBy]) (by simp [gs_rd_text, gs_rd_tape, gs_rd_prices, gs_rd_textSize, gs_rd_tapeSize, gs_rd_used, gs_rd_cutBy]) (by simp [gs_rd_text, gs_rd_tape, gs_rd_prices, gs_rd_textSize, gs_rd_tapeSize, gs_rd_used, gs_rd_cutBy]) (by simp [gs_rd_text, gs_rd_tape, gs_rd_prices, gs_rd_textSize, gs_rd_tapeSize, gs_rd_used, gs_rd_cutBy, m1]) (fun j hj => by simp [gs_rd_text, gs_rd_tape, gs_rd_prices, gs_rd_textSize, gs_rd_tapeSize, gs_rd_used, gs_rd_cutBy, ar_fill, hj]) rfl
theorem x_add_lo {w : XW} {K : Int32 → XW → Prop} {v : Int32} (h : v < 0 ∨ ¬ v ≤ rd_tapeSize w) (hk : K (-2) w) : P_X3_add K w v := by
  unfold P_X3_add
  rcases h with h | h
  · exact ⟨fun _ => hk, fun z => absurd h z⟩
  · exact ⟨fun _ => hk, fun _ => ⟨fun z => absurd z h, fun _ => hk⟩⟩
theorem x_add_big {w : XW} {K : Int32 → XW → Prop} {t n k : Nat} (ht : rd_tapeSize w = nI t) (ht2 : t ≤ 400) (hn : rd_textSize w = nI n) (hn2 : n ≤ 1200) (h1 : k ≤ t) (h2 : 1200 < n + k) (hk : K m1 w) : P_X3_add K w (nI k) := by
  unfold P_X3_add
  rw [ht, hn]
  refine ⟨fun z => absurd z (nI_pos (by omega)), fun _ => ⟨fun _ => ⟨fun z => absurd z ?_, fun _ => hk⟩, fun z => absurd (nI_le h1 (by omega)) z⟩⟩
  rw [show (1200 : Int32) - nI n = nI (1200 - n) from pk_sub (a := 1200) hn2]
  exact nI_ge (by omega) (by omega)
theorem x_add_ok {w : XW} {K : Int32 → XW → Prop} {t n k : Nat} (ht : rd_tapeSize w = nI t) (ht2 : t ≤ 400) (hn : rd_textSize w = nI n) (h1 : k ≤ t) (h2 : n + k ≤ 1200)
    (hk : ∀ w', rd_text w' = va_cpy (rd_tape w) (rd_text w) 0 n k → rd_tape w' = rd_tape w → rd_textSize w' = nI (n + k) → rd_tapeSize w' = nI 0 → rd_used w' = rd_used w → rd_cutBy w' = m1 → (∀ j, j < 24 → rd_prices w' j = -2) → w'.2 = w.2 → K (nI (n + k)) w') : P_X3_add K w (nI k) := by
  unfold P_X3_add
  have e1 : (1200 : Int32) - nI n = nI (1200 - n) := pk_sub (a := 1200) (by omega)
  refine ⟨fun z => absurd z (nI_pos (by omega)), fun _ => ⟨fun _ => ⟨fun _ => ⟨?_, ?_⟩, fun z => absurd ?_ z⟩, fun z => absurd (by rw [ht]; exact nI_le h1 (by omega)) z⟩⟩
  · rw [hn]
    refine ⟨by decide, nI_pos (by omega), nI_pos (by omega), ?_, ?_⟩
    · rw [nI_clamp (by omega)]; show 0 + k ≤ 400; omega
    · rw [nI_clamp (by omega), nI_clamp (by omega)]; exact h2
  · refine x_forget (fun w' g1 g2 g3 g4 g5 g6 g7 g8 => ?_)
    have g3' : rd_textSize w' = nI (n + k) := by rw [g3]; simp [gs_rd_text, gs_rd_tape, gs_rd_prices, gs_rd_textSize, gs_rd_tapeSize, gs_rd_used, gs_rd_cutBy, hn]; exact nI_add n k
    rw [g3']
    refine hk w' ?_ ?_ g3' ?_ ?_ g6 g7 ?_
    · rw [g1]; simp [gs_rd_text, gs_rd_tape, gs_rd_prices, gs_rd_textSize, gs_rd_tapeSize, gs_rd_used, gs_rd_cutBy, hn]; rw [nI_clamp (by omega), nI_clamp (by omega)]
    · rw [g2]; simp [gs_rd_text, gs_rd_tape, gs_rd_prices, gs_rd_textSize, gs_rd_tapeSize, gs_rd_used, gs_rd_cutBy]
    · rw [g4]; simp [gs_rd_text, gs_rd_tape, gs_rd_prices, gs_rd_textSize, gs_rd_tapeSize, gs_rd_used, gs_rd_cutBy]; rfl
    · rw [g5]; simp [gs_rd_text, gs_rd_tape, gs_rd_prices, gs_rd_textSize, gs_rd_tapeSize, gs_rd_used, gs_rd_cutBy]
    · rw [g8]; rfl
  · rw [hn, e1]; exact nI_le (by omega) (by omega)
theorem x_clear {w : XW} {K : XW → Prop} (hk : ∀ w', rd_text w' = rd_text w → rd_tape w' = rd_tape w → rd_textSize w' = nI 0 → rd_tapeSize w' = rd_tapeSize w → rd_used w' = nI 0 → rd_cutBy w' = m1 → (∀ j, j < 24 → rd_prices w' j = -2) → w'.2 = w.2 → K w') : P_X3_clear K w := by
  unfold P_X3_clear
  refine x_forget (fun w' g1 g2 g3 g4 g5 g6 g7 g8 => ?_)
  exact hk w' (by rw [g1]; simp [gs_rd_text, gs_rd_tape, gs_rd_prices, gs_rd_textSize, gs_rd_tapeSize, gs_rd_used, gs_rd_cutBy]) (by rw [g2]; simp [gs_rd_text, gs_rd_tape, gs_rd_prices, gs_rd_textSize, gs_rd_tapeSize, gs_rd_used, gs_rd_cutBy]) (by rw [g3]; simp [gs_rd_text, gs_rd_tape, gs_rd_prices, gs_rd_textSize, gs_rd_tapeSize, gs_rd_used, gs_rd_cutBy]; rfl) (by rw [g4]; simp [gs_rd_text, gs_rd_tape, gs_rd_prices, gs_rd_textSize, gs_rd_tapeSize, gs_rd_used, gs_rd_cutBy]) (by rw [g5]; simp [gs_rd_text, gs_rd_tape, gs_rd_prices, gs_rd_textSize, gs_rd_tapeSize, gs_rd_used, gs_rd_cutBy]; rfl) g6 g7 (by rw [g8]; rfl)
/-- w' is w but for what add, clear and the cuts write -/
theorem m_chg {w : MW} {K : MW → Prop} (hk : ∀ w', md_text w' = md_text w → md_tape w' = md_tape w → md_size w' = md_size w → md_taped w' = md_taped w → md_used w' = md_used w → md_loaded w' = m1 → (∀ j, j < 24 → md_isKnown w' j = 0) → md_costs w' = md_costs w → K w') : P_X4_changes K w := by
  refine m_changes (fun w' h1 h2 => ?_)
  obtain ⟨f, rfl⟩ := h2
  exact hk _ (by simp [gs_md_text, gs_md_tape, gs_md_size, gs_md_taped, gs_md_used, gs_md_loaded, gs_md_isKnown]) (by simp [gs_md_text, gs_md_tape, gs_md_size, gs_md_taped, gs_md_used, gs_md_loaded, gs_md_isKnown]) (by simp [gs_md_text, gs_md_tape, gs_md_size, gs_md_taped, gs_md_used, gs_md_loaded, gs_md_isKnown]) (by simp [gs_md_text, gs_md_tape, gs_md_size, gs_md_taped, gs_md_used, gs_md_loaded, gs_md_isKnown]) (by simp [gs_md_text, gs_md_tape, gs_md_size, gs_md_taped, gs_md_used, gs_md_loaded, gs_md_isKnown]) (by simp [gs_md_text, gs_md_tape, gs_md_size, gs_md_taped, gs_md_used, gs_md_loaded, gs_md_isKnown, m1]) h1 (by simp [gs_md_text, gs_md_tape, gs_md_size, gs_md_taped, gs_md_used, gs_md_loaded, gs_md_isKnown])
theorem m_add_lo {w : MW} {K : Int32 → MW → Prop} {v : Int32} {t : Nat} (ht : md_taped w = nI t) (ht2 : t ≤ 400) (h : ¬ (0 ≤ v.toInt ∧ v.toInt < (t + 1 : Nat))) (hk : K (-2) w) : P_X4_add K w v := by
  unfold P_X4_add
  rw [ht, show nI t = nI (t + 1) - 1 by rw [nI_pred]]
  exact m_in (n := t + 1) (by omega) (fun j hj e => absurd (show 0 ≤ v.toInt ∧ v.toInt < (t + 1 : Nat) by rw [e, nI_toInt (by omega)]; omega) h) (fun _ => ⟨fun z => absurd rfl z, fun _ => hk⟩)
theorem m_add_big {w : MW} {K : Int32 → MW → Prop} {t n k : Nat} (ht : md_taped w = nI t) (ht2 : t ≤ 400) (hn : md_size w = nI n) (hn2 : n ≤ 1200) (h1 : k ≤ t) (h2 : 1200 < n + k) (hk : K m1 w) : P_X4_add K w (nI k) := by
  unfold P_X4_add
  rw [ht, hn, show nI t = nI (t + 1) - 1 by rw [nI_pred]]
  refine m_in (n := t + 1) (by omega) (fun j hj e => ⟨fun _ => ⟨fun z => absurd z ?_, fun _ => hk⟩, fun z => absurd z (by decide)⟩) (fun z => absurd (show 0 ≤ (nI k).toInt ∧ (nI k).toInt < (t + 1 : Nat) by rw [nI_toInt (by omega)]; omega) z)
  rw [nI_add]
  exact nI_ge (a := 1200) (by omega) (by omega)
theorem m_add_l {K : Int32 → MW → Prop} {E : MW → Prop} {w : MW} {n k : Nat} (hn : md_size w = nI n) (hk4 : k ≤ 400) (h2 : n + k ≤ 1200) (hE : ∀ w', (∃ f, w' = md_text_s w f ∧ ∀ j, f j = if n ≤ j ∧ j < n + k then vp_nar .byte (md_tape w (j - n)) else md_text w j) → E w') : ∀ m i u, i + m = k → (∃ f, u = md_text_s w f ∧ ∀ j, f j = if n ≤ j ∧ j < n + i then vp_nar .byte (md_tape w (j - n)) else md_text w j) → P_X4_add_31 K E (nI k) (m + 1) u (nI i) := by
  intro m
  induction m with
  | zero =>
    intro i u he hu
    have : i = k := by omega
    subst this
    exact ⟨fun _ => hE u hu, fun z => absurd (Int32.le_refl _) z⟩
  | succ m ih =>
    intro i u he hu
    obtain ⟨f, rfl, hf⟩ := hu
    refine ⟨fun z => absurd z (nI_ge (by omega) (by omega)), fun _ => ⟨vp_in_nI (by omega) (by decide), ?_⟩⟩
    have es : md_size (md_text_s w f) + nI i = nI (n + i) := by simp [gs_md_text, gs_md_tape, gs_md_size, gs_md_taped, gs_md_used, gs_md_loaded, gs_md_isKnown, hn]; exact nI_add n i
    rw [es, nI_1, nI_clamp (by omega), nI_clamp (by omega)]
    refine ⟨vp_in_nI (by omega) (by decide), ih (i + 1) _ (by omega) ⟨upd f (n + i) (vp_nar .byte (md_tape w i)), ?_, fun j => ?_⟩⟩
    · simp [gs_md_text, gs_md_tape, gs_md_size, gs_md_taped, gs_md_used, gs_md_loaded, gs_md_isKnown]
      rfl
    · by_cases q : j = n + i
      · subst q
        rw [pk_us, if_pos ⟨by omega, by omega⟩, show n + i - n = i by omega]
      · rw [pk_un q, hf j]
        by_cases y : n ≤ j ∧ j < n + i
        · rw [if_pos y, if_pos ⟨y.1, by omega⟩]
        · rw [if_neg y, if_neg (fun x => y ⟨x.1, by omega⟩)]
theorem m_add_ok {w : MW} {K : Int32 → MW → Prop} {t n k : Nat} (ht : md_taped w = nI t) (ht2 : t ≤ 400) (hn : md_size w = nI n) (h1 : k ≤ t) (h2 : n + k ≤ 1200)
    (hk : ∀ w', (∀ j, md_text w' j = if n ≤ j ∧ j < n + k then vp_nar .byte (md_tape w (j - n)) else md_text w j) → md_tape w' = md_tape w → md_size w' = nI (n + k) → md_taped w' = nI 0 → md_used w' = md_used w → md_loaded w' = m1 → (∀ j, j < 24 → md_isKnown w' j = 0) → K (nI (n + k)) w') : P_X4_add K w (nI k) := by
  unfold P_X4_add
  rw [ht, hn, show nI t = nI (t + 1) - 1 by rw [nI_pred]]
  refine m_in (n := t + 1) (by omega) (fun j hj e => ⟨fun _ => ⟨fun _ => ⟨k + 1, ?_⟩, fun z => absurd ?_ z⟩, fun z => absurd z (by decide)⟩) (fun z => absurd (show 0 ≤ (nI k).toInt ∧ (nI k).toInt < (t + 1 : Nat) by rw [nI_toInt (by omega)]; omega) z)
  · refine m_add_l hn (by omega) h2 ?_ k 0 w (by omega) ⟨md_text w, ?_, fun j => by rw [if_neg (by omega)]⟩
    · intro u hu
      obtain ⟨f, rfl, hf⟩ := hu
      refine m_chg (fun w' g1 g2 g3 g4 g5 g6 g7 g8 => ?_)
      have g3' : md_size w' = nI (n + k) := by rw [g3]; simp [gs_md_text, gs_md_tape, gs_md_size, gs_md_taped, gs_md_used, gs_md_loaded, gs_md_isKnown, hn]; exact nI_add n k
      rw [g3']
      exact hk w' (by rw [g1]; simp [gs_md_text, gs_md_tape, gs_md_size, gs_md_taped, gs_md_used, gs_md_loaded, gs_md_isKnown]; exact hf) (by rw [g2]; simp [gs_md_text, gs_md_tape, gs_md_size, gs_md_taped, gs_md_used, gs_md_loaded, gs_md_isKnown]) g3' (by rw [g4]; simp [gs_md_text, gs_md_tape, gs_md_size, gs_md_taped, gs_md_used, gs_md_loaded, gs_md_isKnown]; rfl) (by rw [g5]; simp [gs_md_text, gs_md_tape, gs_md_size, gs_md_taped, gs_md_used, gs_md_loaded, gs_md_isKnown]) g6 g7
    · obtain ⟨a1, a2, a3⟩ := w
      rfl
  · rw [nI_add]; exact nI_le (b := 1200) (by omega) (by decide)
theorem m_clear {w : MW} {K : MW → Prop} (hk : ∀ w', md_text w' = md_text w → md_tape w' = md_tape w → md_size w' = nI 0 → md_taped w' = md_taped w → md_used w' = nI 0 → md_loaded w' = m1 → (∀ j, j < 24 → md_isKnown w' j = 0) → K w') : P_X4_clear K w := by
  unfold P_X4_clear
  refine m_chg (fun w' g1 g2 g3 g4 g5 g6 g7 g8 => ?_)
  exact hk w' (by rw [g1]; simp [gs_md_text, gs_md_tape, gs_md_size, gs_md_taped, gs_md_used, gs_md_loaded, gs_md_isKnown]) (by rw [g2]; simp [gs_md_text, gs_md_tape, gs_md_size, gs_md_taped, gs_md_used, gs_md_loaded, gs_md_isKnown]) (by rw [g3]; simp [gs_md_text, gs_md_tape, gs_md_size, gs_md_taped, gs_md_used, gs_md_loaded, gs_md_isKnown]; rfl) (by rw [g4]; simp [gs_md_text, gs_md_tape, gs_md_size, gs_md_taped, gs_md_used, gs_md_loaded, gs_md_isKnown]) (by rw [g5]; simp [gs_md_text, gs_md_tape, gs_md_size, gs_md_taped, gs_md_used, gs_md_loaded, gs_md_isKnown]; rfl) g6 g7
/-- where an argument of add lies -/
theorem add_case (v : Int32) (t : Nat) (ht : t ≤ 400) : (∃ k, k ≤ t ∧ v = nI k) ∨ (¬ (0 ≤ v.toInt ∧ v.toInt < (t + 1 : Nat)) ∧ (v < 0 ∨ ¬ v ≤ nI t)) := by
  by_cases z : 0 ≤ v.toInt ∧ v.toInt < (t + 1 : Nat)
  · obtain ⟨j, hj, e⟩ := in_of z
    exact Or.inl ⟨j, by omega, e⟩
  · refine Or.inr ⟨z, ?_⟩
    rcases out_of (by omega) z with e | ⟨e, e2, e3⟩
    · exact Or.inl e
    · refine Or.inr (fun y => ?_)
      have a := Int32.le_iff_toInt_le.mp e2
      have b := Int32.le_iff_toInt_le.mp y
      rw [nI_toInt (by omega)] at a b
      omega
