/-! the reference between calls -/
def RepM (w : MW) (T : Tb) : Prop := md_rows w = nI (tR T) ∧ (∀ r, r ≤ tR T → 0 < tR T → md_rowFrom w r = nI (tS T r)) ∧ (∀ c, c < tN T → md_cellFrom w c = nI (tC T c)) ∧ (∀ c, c < tN T → md_cellSize w c = nI (tLen T c)) ∧ ∀ i, i < tC T (tN T) → md_bytes w i &&& 255 = nI (tB T i)
theorem m_cellsOf {w : MW} {T : Tb} {K : Int32 → Prop} (hT : tWF T) (h : RepM w T) {r : Nat} (hr : r < tR T) (hk : K (nI (tCells T r))) : P_X4_cellsOf K w (nI r) := by
  have hR := hT.1
  have g := (hT.2.2.1 r hr).1
  unfold P_X4_cellsOf
  unfold tCells at hk
  rw [nI_1, nI_clamp (by omega), nI_clamp (by omega), h.2.1 _ (by omega) (by omega), h.2.1 _ (by omega) (by omega), sub_n (by omega)]
  exact ⟨vp_in_nI (by omega) (by decide), vp_in_nI (by omega) (by decide), hk⟩
theorem m_width {w : MW} {T : Tb} {K : Int32 → Prop} (hT : tWF T) (h : RepM w T) (hk : K (nI (tW T))) : P_X4_width K w := by
  have hR := hT.1
  unfold P_X4_width
  unfold tW at hk
  rcases Nat.eq_zero_or_pos (tR T) with e | e
  · rw [if_neg (by omega)] at hk
    exact ⟨fun z => absurd (by rw [h.1, e]; rfl) z, fun _ => hk⟩
  · rw [if_pos e] at hk
    refine ⟨fun _ => m_cellsOf (r := 0) hT h e ?_, fun z => absurd z (by rw [h.1]; exact nI_ne0 e (by omega))⟩
    unfold tCells
    rw [hT.2.1]
    exact hk
theorem m_isOdd {w : MW} {T : Tb} {K : Int32 → Prop} (hT : tWF T) (h : RepM w T) {r : Nat} (hr : r < tR T) (hk : K (bI (tOdd T r))) : P_X4_isOdd K w (nI r) := by
  have g := (hT.2.2.1 r hr).2
  have hW := tW_le hT
  have eW : tW T = tS T 1 := by unfold tW; rw [if_pos (by omega)]
  unfold P_X4_isOdd
  refine m_cellsOf hT h hr (m_width hT h ?_)
  have e2 : tOdd T r = decide (tCells T r ≠ tW T) := by
    unfold tOdd
    rw [← eW]
    rcases Nat.eq_zero_or_pos r with e | e
    · subst e
      have : tCells T 0 = tW T := by unfold tCells; rw [hT.2.1, eW]; rfl
      simp [this]
    · simp [e, hr]
  rw [e2] at hk
  by_cases z : tCells T r = tW T
  · rw [decide_eq_false (fun y => y z)] at hk
    exact ⟨fun _ => hk, fun y => absurd (by rw [z]) y⟩
  · rw [decide_eq_true z] at hk
    exact ⟨fun y => absurd ((nI_eq (by unfold tCells; omega) (by omega)).mp y) z, fun _ => hk⟩
theorem m_odds {w : MW} {T : Tb} {K : MW → Prop} (hT : tWF T) (h : RepM w T) (ho : md_odds w = nI 0) (hk : ∀ f, K (md_odds_s w f) ∨ True → md_odds (md_odds_s w f) = nI (ocN T (tR T)) → K (md_odds_s w f)) : P_X4_load_116 K w := by
  have hR := hT.1
  have rs : ∀ f, RepM (md_odds_s w f) T := fun f => by
    unfold RepM
    simp only [gs_md_odds]
    exact h
  have L : ∀ d r u, r + d = tR T → (∃ f, u = md_odds_s w f) → md_odds u = nI (ocN T r) → P_X4_load_118 K (d + 1) u (nI r) := by
    intro d
    induction d with
    | zero =>
      intro r u er hu hod
      obtain ⟨f, rfl⟩ := hu
      have : r = tR T := by omega
      subst this
      exact ⟨fun _ => hk f (Or.inr trivial) hod, fun z => absurd (by rw [(rs f).1]; exact Int32.le_refl _) z⟩
    | succ d ih =>
      intro r u er hu hod
      obtain ⟨f, rfl⟩ := hu
      refine ⟨fun z => absurd z (by rw [(rs f).1]; exact nI_ge (by omega) (by omega)), fun _ => m_isOdd hT (rs f) (by omega) ?_⟩
      unfold P_X4_load_144
      have sq : ∀ g, md_odds_s (md_odds_s w f) g = md_odds_s w g := fun g => rfl
      have nx := ih (r + 1)
      unfold ocN at nx
      rw [nI_1, hod]
      cases e : tOdd T r with
      | true =>
        rw [e] at nx
        refine ⟨fun z => absurd z (by decide), fun _ => nx _ (by omega) ⟨_, sq _⟩ ?_⟩
        rw [sq]
        simp only [gs_md_odds]
        exact nI_add _ 1
      | false =>
        rw [e] at nx
        refine ⟨fun _ => nx _ (by omega) ⟨_, sq _⟩ ?_, fun z => absurd rfl z⟩
        rw [sq]
        simp only [gs_md_odds]
        exact nI_add _ 0
  have e0 : md_odds_s w (md_odds w) = w := by
    obtain ⟨a1, a2, a3, a4, a5, a6, a7, a8, a9, a10, a11, a12⟩ := w
    rfl
  refine ⟨tR T + 1, L (tR T) 0 w (by omega) ⟨md_odds w, e0.symm⟩ ho⟩
def BaM (S : Sx) (w : MW) : Prop := md_size w = nI (sN S) ∧ md_taped w = nI (sK S) ∧ md_used w = nI (sU S) ∧ (∀ i, i < sN S → md_text w i &&& 255 = nI (sT S i)) ∧ ∀ i, i < sK S → md_tape w i &&& 255 = nI (sP S i)
/-- cut by MAKE j -/
def AtM (S : Sx) (j : Nat) (w : MW) : Prop := BaM S w ∧ md_loaded w = nI j ∧ RepM w (tbOf S j) ∧ md_fault w = nI (rFt j (sT S) (sN S)) ∧ md_faultPlace w = rAt j (sT S) (sN S) ∧ md_odds w = nI (ocN (tbOf S j) (tR (tbOf S j)))
def IM (S : Sx) (w : MW) : Prop := BaM S w ∧ (md_loaded w = m1 ∨ ∃ j, j < 24 ∧ AtM S j w)
theorem AtM.i {S : Sx} {j : Nat} {w : MW} (h : AtM S j w) (hj : j < 24) : IM S w := ⟨h.1, Or.inr ⟨j, hj, h⟩⟩
theorem BaM.of {S : Sx} {w w' : MW} (h : BaM S w) (e1 : md_text w' = md_text w) (e2 : md_tape w' = md_tape w) (e3 : md_size w' = md_size w) (e4 : md_taped w' = md_taped w) (e5 : md_used w' = md_used w) : BaM S w' := by
  unfold BaM
  rw [e1, e2, e3, e4, e5]
  exact h
theorem BaM.ofL {S : Sx} {w w' : MW} (h : BaM S w) (e : EqL w w') : BaM S w' := h.of e.2.1 e.1 e.2.2.2.1 e.2.2.1 e.2.2.2.2.1
theorem BaM.tx {S : Sx} {w : MW} (h : BaM S w) : TxM w (sT S) (sN S) := ⟨h.1, h.2.2.2.1⟩
theorem RepM_0 {w : MW} (h : md_rows w = nI 0) : RepM w tE := ⟨h, fun r hr h0 => absurd (show 0 < 0 from h0) (by decide), fun c hc => absurd (show c < 0 from hc) (Nat.not_lt_zero c), fun c hc => absurd (show c < 0 from hc) (Nat.not_lt_zero c), fun c hc => absurd (show c < 0 from hc) (Nat.not_lt_zero c)⟩
theorem m_load91 {w : MW} {K : MW → Prop} {r f : Nat} (hr : md_rows w = nI r) (hr80 : r ≤ 80) (hf : md_fault w = nI f) (hf5 : f < 5) (hod : md_odds w = nI 0)
    (h0 : f = 0 → ∃ T, tWF T ∧ RepM (md_rowFrom_s w (upd (md_rowFrom w) r (md_cellMany w))) T ∧ ∀ w', EqL w (md_odds_s w' 0) ∨ True → md_rows w' = nI r → md_odds w' = nI (ocN T (tR T)) → (∃ g, w' = md_odds_s (md_rowFrom_s w (upd (md_rowFrom w) r (md_cellMany w))) g) → K w')
    (h1 : f ≠ 0 → ∀ w', (∃ g, w' = md_odds_s (md_rows_s (md_rowFrom_s w (upd (md_rowFrom w) r (md_cellMany w))) 0) g) → md_odds w' = nI 0 → K w') : P_X4_load_91 K w := by
  unfold P_X4_load_91
  rw [hr, nI_clamp (by omega)]
  have ef : md_fault (md_rowFrom_s w (upd (md_rowFrom w) r (md_cellMany w))) = nI f := by simp only [gs_md_rowFrom]; exact hf
  rw [ef]
  refine ⟨vp_in_nI (by omega) (by decide), fun z => ?_, fun z => ?_⟩
  · have f0 : f = 0 := by
      rcases Nat.eq_zero_or_pos f with e | e
      · exact e
      · exact absurd z (nI_nle e (by omega))
    obtain ⟨T, hT, hrep, hk⟩ := h0 f0
    refine m_odds hT hrep (by simp only [gs_md_rowFrom]; exact hod) (fun g _ hg => hk _ (Or.inr trivial) ?_ hg ⟨g, rfl⟩)
    simp only [gs_md_rowFrom, gs_md_odds]
    exact hr
  · have f0 : f ≠ 0 := fun e => z (by rw [e]; exact Int32.le_refl 0)
    refine m_odds tE_wf (RepM_0 ?_) ?_ (fun g _ hg => h1 f0 _ ⟨g, rfl⟩ hg)
    · simp only [gs_md_rows]; rfl
    · simp only [gs_md_rows, gs_md_rowFrom]; exact hod
theorem M_load {S : Sx} {w : MW} {K : MW → Prop} {j : Nat} (hS : SOK S) (h : IM S w) (hj : j < 24) (hk : ∀ w', AtM S j w' → md_isKnown w' = md_isKnown w → md_costs w' = md_costs w → K w') : P_X4_load K w (nI j) := by
  obtain ⟨hB, h5⟩ := h
  have hb := hS.1
  have hn := hb.1
  rw [P_load_eq]
  refine ⟨fun z => ?_, fun z => ?_⟩
  · clear z h5
    have q1 := mBeg_size w (nI j)
    have q2 := mBeg_used w (nI j)
    have q3 := mBeg_taped w (nI j)
    have q4 := mBeg_isKnown w (nI j)
    have q5 := mBeg_costs w (nI j)
    have q6 := mBeg_loaded w (nI j)
    have q7 := mBeg_rows w (nI j)
    have q8 := mBeg_fault w (nI j)
    have q9 := mBeg_faultPlace w (nI j)
    have q10 := mBeg_odds w (nI j)
    have q11 := mBeg_text w (nI j)
    have q12 := mBeg_tape w (nI j)
    have q13 := mBeg_cellMany w (nI j)
    have q14 := mBeg_byteMany w (nI j)
    generalize mBeg w (nI j) = u at *
    have hBu : BaM S u := hB.of q11 q12 q1 q3 q2
    -- how it ends
    have fin : ∀ v w' : MW, EqL u v → md_tape w' = md_tape v → md_text w' = md_text v → md_taped w' = md_taped v → md_size w' = md_size v → md_used w' = md_used v → md_loaded w' = md_loaded v → md_isKnown w' = md_isKnown v → md_costs w' = md_costs v → RepM w' (tbOf S j) → md_fault w' = nI (rFt j (sT S) (sN S)) → md_faultPlace w' = rAt j (sT S) (sN S) → md_odds w' = nI (ocN (tbOf S j) (tR (tbOf S j))) → K w' := by
      intro v w' e a1 a2 a3 a4 a5 a6 a7 a8 a9 a10 a11 a12
      exact hk w' ⟨(hBu.ofL e).of a2 a1 a4 a3 a5, by rw [a6, e.2.2.2.2.2.1, q6], a9, a10, a11, a12⟩ (by rw [a7, e.2.2.2.2.2.2.2.1, q4]) (by rw [a8, e.2.2.2.2.2.2.2.2, q5])
    have bad : ∀ (v : MW) (f a r : Nat), EqL u v → 0 < f → f < 5 → r ≤ 80 → md_rows v = nI r → md_fault v = nI f → md_faultPlace v = nI a → pRes j (sT S) (sN S) = (f, a, tE) → P_X4_load_91 K v := by
      intro v f a r e f0 f5 r80 hr hf ha hp
      refine m_load91 hr r80 hf f5 (by rw [e.2.2.2.2.2.2.1, q10]; rfl) (fun y => by omega) (fun _ w' hw' ho => ?_)
      obtain ⟨g, rfl⟩ := hw'
      have t1 : tbOf S j = tE := by unfold tbOf rTb; rw [hp]
      have t2 : rFt j (sT S) (sN S) = f := by unfold rFt; rw [hp]
      have t3 : rAt j (sT S) (sN S) = nI a := by unfold rAt; rw [hp]; exact if_neg (by show ¬ f = 0; omega)
      refine fin v _ e ?_ ?_ ?_ ?_ ?_ ?_ ?_ ?_ ?_ ?_ ?_ ?_
      · simp only [gs_md_odds, gs_md_rows, gs_md_rowFrom]
      · simp only [gs_md_odds, gs_md_rows, gs_md_rowFrom]
      · simp only [gs_md_odds, gs_md_rows, gs_md_rowFrom]
      · simp only [gs_md_odds, gs_md_rows, gs_md_rowFrom]
      · simp only [gs_md_odds, gs_md_rows, gs_md_rowFrom]
      · simp only [gs_md_odds, gs_md_rows, gs_md_rowFrom]
      · simp only [gs_md_odds, gs_md_rows, gs_md_rowFrom]
      · simp only [gs_md_odds, gs_md_rows, gs_md_rowFrom]
      · rw [t1]; refine RepM_0 ?_; simp only [gs_md_odds, gs_md_rows, gs_md_rowFrom]; rfl
      · rw [t2]; simp only [gs_md_odds, gs_md_rows, gs_md_rowFrom]; exact hf
      · rw [t3]; simp only [gs_md_odds, gs_md_rows, gs_md_rowFrom]; exact ha
      · rw [t1]; exact ho
    rcases Nat.eq_zero_or_pos (sN S) with en | en
    · refine ⟨1, ⟨fun y => absurd y (by decide), fun _ => ⟨fun _ => ?_, fun y => absurd (by rw [hBu.1, en]; exact Int32.le_refl 0) y⟩⟩⟩
      show P_X4_load_64 K u (nI j)
      unfold P_X4_load_64
      rw [q7, q8]
      refine ⟨fun y => absurd rfl y, fun _ => ⟨fun y => absurd rfl y, fun _ => m_hasHead (by omega) ?_⟩⟩
      rcases (show j % 2 = 0 ∨ j % 2 = 1 by omega) with e | e
      · refine ⟨fun _ => ?_, fun y => absurd (by rw [e]; rfl) y⟩
        have hp : pRes j (sT S) (sN S) = (0, 0, tE) := by unfold pRes; rw [if_pos en, if_neg (by omega)]
        have t1 : tbOf S j = tE := by unfold tbOf rTb; rw [hp]
        refine m_load91 (r := 0) (f := 0) q7 (by decide) q8 (by decide) q10 (fun _ => ⟨tE, tE_wf, RepM_0 ?_, fun w' _ _ ho hw' => ?_⟩) (fun y => absurd rfl y)
        · simp only [gs_md_rowFrom]; exact q7
        · obtain ⟨g, rfl⟩ := hw'
          refine fin u _ (EqL.rf u) ?_ ?_ ?_ ?_ ?_ ?_ ?_ ?_ ?_ ?_ ?_ ?_
          · simp only [gs_md_odds, gs_md_rowFrom]
          · simp only [gs_md_odds, gs_md_rowFrom]
          · simp only [gs_md_odds, gs_md_rowFrom]
          · simp only [gs_md_odds, gs_md_rowFrom]
          · simp only [gs_md_odds, gs_md_rowFrom]
          · simp only [gs_md_odds, gs_md_rowFrom]
          · simp only [gs_md_odds, gs_md_rowFrom]
          · simp only [gs_md_odds, gs_md_rowFrom]
          · rw [t1]; refine RepM_0 ?_; simp only [gs_md_odds, gs_md_rowFrom]; exact q7
          · rw [show rFt j (sT S) (sN S) = 0 by unfold rFt; rw [hp]]; simp only [gs_md_odds, gs_md_rowFrom]; exact q8
          · rw [show rAt j (sT S) (sN S) = m1 by unfold rAt; rw [hp]; rfl]; simp only [gs_md_odds, gs_md_rowFrom]; exact q9
          · rw [t1]; exact ho
      · refine ⟨fun y => absurd (show nI (j % 2) = nI 0 from y) (by rw [e]; decide), fun _ => ?_⟩
        unfold P_X4_wrong
        refine bad _ 4 0 0 (wrong_L u _ _) (by decide) (by decide) (by decide) ?_ ?_ ?_ ?_
        · simp only [gs_md_fault, gs_md_faultPlace]; exact q7
        · simp only [gs_md_fault, gs_md_faultPlace]; rfl
        · simp only [gs_md_fault, gs_md_faultPlace]; rfl
        · unfold pRes; rw [if_pos en, if_pos e]
    · have hpr : pRes j (sT S) (sN S) = pEnd (pRun (mkN j) (qtN j) (sT S) (sN S) (sN S)) := by unfold pRes; rw [if_neg (by omega)]
      have o0 : OpM 0 u p0 := ⟨q7, q13, q14, q8, q9, fun r hr => absurd (show r < 0 from hr) (Nat.not_lt_zero r), fun r hr => absurd (show r < 0 from hr) (Nat.not_lt_zero r), fun r hr => absurd (show r < 0 from hr) (Nat.not_lt_zero r), fun r hr => absurd (show r < 0 from hr) (Nat.not_lt_zero r)⟩
      refine ⟨sN S + 2 + 1, m_loadL (w0 := u) hj hb hBu.tx (fun v c e hok => ?_) (fun v e hbad => ?_) (sN S + 2) 0 u p0 (by omega) (by omega) (EqL.rf u) o0 ⟨by show 0 ≤ 80; decide, Nat.le_refl _⟩ rfl (fun _ => ?_) (fun y => by omega)⟩
      · obtain ⟨⟨h1, h2, h3, h4, h5, h6, h7, h8, h9⟩, ⟨r80, c12⟩, r1, hp⟩ := hok
        rw [← hpr] at hp
        have t1 : tbOf S j = tblP c := by unfold tbOf rTb; rw [hp]
        have hT := tb_wf hS j
        rw [t1] at hT
        have eN : tN (tblP c) = pC c := un_s
        unfold P_X4_load_64
        refine ⟨fun y => absurd h4 y, fun _ => ⟨fun _ => ?_, fun y => absurd y (by rw [h1]; exact nI_ne0 (by omega) (by omega))⟩⟩
        have hrep : ∀ g, RepM (md_odds_s (md_rowFrom_s v (upd (md_rowFrom v) (pR c) (md_cellMany v))) g) (tblP c) := by
          intro g
          refine ⟨?_, fun r hr _ => ?_, fun i hi => ?_, fun i hi => ?_, fun i hi => ?_⟩
          · simp only [gs_md_odds, gs_md_rowFrom]; exact h1
          · have hr : r ≤ pR c := hr
            simp only [gs_md_odds, gs_md_rowFrom]
            show upd (md_rowFrom v) (pR c) (md_cellMany v) r = nI (un (pS c) (pR c) (pC c) r)
            by_cases e : r = pR c
            · subst e; rw [pk_us, un_s]; exact h2
            · rw [pk_un e, un_n e]; exact h6 r (by omega)
          · rw [eN] at hi
            simp only [gs_md_odds, gs_md_rowFrom]
            show md_cellFrom v i = nI (un (pT c) (pC c) (pH c) i)
            rw [un_n (by omega)]; exact h7 i hi
          · rw [eN] at hi
            simp only [gs_md_odds, gs_md_rowFrom]
            show md_cellSize v i = nI (un (pT c) (pC c) (pH c) (i + 1) - un (pT c) (pC c) (pH c) i)
            rw [un_n (j := i) (by omega)]; exact h8 i hi
          · rw [eN] at hi
            have hi : i < un (pT c) (pC c) (pH c) (pC c) := hi
            rw [un_s] at hi
            simp only [gs_md_odds, gs_md_rowFrom]
            exact h9 i hi
        have hrep2 : RepM (md_rowFrom_s v (upd (md_rowFrom v) (pR c) (md_cellMany v))) (tblP c) := by
          have := hrep (md_odds v)
          have e0 : ∀ x : MW, md_odds_s x (md_odds x) = x := fun x => by
            obtain ⟨a1, a2, a3, a4, a5, a6, a7, a8, a9, a10, a11, a12⟩ := x
            rfl
          have e1 : md_odds v = md_odds (md_rowFrom_s v (upd (md_rowFrom v) (pR c) (md_cellMany v))) := by simp only [gs_md_rowFrom]
          rw [e1, e0] at this
          exact this
        refine m_load91 (r := pR c) (f := 0) h1 r80 h4 (by decide) (by rw [e.2.2.2.2.2.2.1, q10]; rfl) (fun _ => ⟨tblP c, hT, hrep2, fun w' _ _ ho hw' => ?_⟩) (fun y => absurd rfl y)
        obtain ⟨g, rfl⟩ := hw'
        refine fin v _ e ?_ ?_ ?_ ?_ ?_ ?_ ?_ ?_ ?_ ?_ ?_ ?_
        · simp only [gs_md_odds, gs_md_rowFrom]
        · simp only [gs_md_odds, gs_md_rowFrom]
        · simp only [gs_md_odds, gs_md_rowFrom]
        · simp only [gs_md_odds, gs_md_rowFrom]
        · simp only [gs_md_odds, gs_md_rowFrom]
        · simp only [gs_md_odds, gs_md_rowFrom]
        · simp only [gs_md_odds, gs_md_rowFrom]
        · simp only [gs_md_odds, gs_md_rowFrom]
        · rw [t1]; exact hrep g
        · rw [show rFt j (sT S) (sN S) = 0 by unfold rFt; rw [hp]]; simp only [gs_md_odds, gs_md_rowFrom]; exact h4
        · rw [show rAt j (sT S) (sN S) = m1 by unfold rAt; rw [hp]; rfl]; simp only [gs_md_odds, gs_md_rowFrom]; exact h5
        · rw [t1]; exact ho
      · obtain ⟨f, a, r, f0, f5, r80, hr, hf, ha, hp⟩ := hbad
        rw [← hpr] at hp
        unfold P_X4_load_64
        refine ⟨fun _ => bad v f a r e f0 f5 r80 hr hf ha hp, fun y => absurd y (by rw [hf]; exact nI_ne0 f0 (by omega))⟩
      · rfl
  · rcases h5 with e | ⟨i, hi, e⟩
    · rw [e] at z
      exact absurd z (m1_ne (by omega))
    · have := e.2.1
      rw [this] at z
      have := (nI_eq (by omega) (by omega)).mp z
      subst this
      exact hk w e rfl rfl
theorem M_used {S : Sx} {w : MW} {K : MW → Prop} (hS : SOK S) (h : IM S w) (hk : ∀ w', AtM S (sU S) w' → md_isKnown w' = md_isKnown w → md_costs w' = md_costs w → K w') : P_X4_load K w (md_used w) := by
  rw [h.1.2.2.1]
  exact M_load hS h hS.2.2.2 hk
