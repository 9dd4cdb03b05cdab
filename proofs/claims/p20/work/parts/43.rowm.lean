theorem wrong_L (w : MW) (f a : Int32) : EqL w (md_faultPlace_s (md_fault_s w f) a) := by
  refine ⟨?_, ?_, ?_, ?_, ?_, ?_, ?_, ?_, ?_⟩ <;> simp [gs_md_fault, gs_md_faultPlace]
/-- a cut that came to a FAULT -/
def BadM (w : MW) (s : Ps) : Prop := ∃ f a r, 0 < f ∧ f < 5 ∧ r ≤ 80 ∧ md_rows w = nI r ∧ md_fault w = nI f ∧ md_faultPlace w = nI a ∧ pEnd s = (f, a, tE)
theorem bad_of {w : MW} {s : Ps} {f a r : Nat} (h1 : 0 < f) (h2 : f < 5) (h3 : r ≤ 80) (h4 : md_rows w = nI r) (h5 : pEnd s = (f, a, tE)) : BadM (md_faultPlace_s (md_fault_s w (nI f)) (nI a)) s :=
  ⟨f, a, r, h1, h2, h3, by simp [gs_md_fault, gs_md_faultPlace]; exact h4, by simp [gs_md_fault, gs_md_faultPlace], by simp [gs_md_fault, gs_md_faultPlace], h5⟩
theorem pEnd_f {s : Ps} (h : pF s ≠ 0) : pEnd s = (pF s, pA s, tE) := by unfold pEnd; rw [if_neg h]
theorem pEnd_3 {s : Ps} (h : pF s = 0) (h3 : pPh s = 3) : pEnd s = (1, pL s, tE) := by unfold pEnd; rw [if_pos h, if_pos h3]
def tblP (s : Ps) : Tb := (pR s, un (pS s) (pR s) (pC s), un (pT s) (pC s) (pH s), pB s)
theorem pEnd_0 {s : Ps} (h : pF s = 0) (h3 : pPh s ≠ 3) : pEnd s = (0, 0, tblP s) := by unfold pEnd; rw [if_pos h, if_neg h3]; rfl
theorem m_cell {K : Int32 → MW → Prop} {mark quote : Nat} {tx : Nat → Nat} {n : Nat} {w : MW} {o : Ps} {p : Nat} (hc : CuC mark quote tx n) (ht : TxM w tx n) (ho : OpM 1 w o) (hC : pC o < 960) (hp : p ≤ n) (hs : pRun mark quote tx n p = pCell o p) (hfo : pF o = 0)
    (hok : ∀ q w', p ≤ q → q ≤ n → EqL w w' → OpM 1 w' (pRun mark quote tx n q) → pF (pRun mark quote tx n q) = 0 → pPh (pRun mark quote tx n q) ≠ 3 → (q < n → tx q = mark ∨ tx q = 10) → K (nI q) w')
    (hbad : ∀ w', EqL w w' → BadM w' (pRun mark quote tx n n) → K m1 w') : P_X4_cell K w (nI p) (nI mark) (qI quote) := by
  have hc0 := hc
  obtain ⟨hb, hm, hq, hmq, hm10, hq10⟩ := hc
  have hn := hb.1
  have hin := m_open (p := p) ho
  have hfp : pF (pRun mark quote tx n p) = 0 := by rw [hs]; exact hfo
  have hph : pPh (pRun mark quote tx n p) = 1 := by rw [hs]; rfl
  rw [← hs] at hin
  have close : ∀ q w1, p ≤ q → q ≤ n → EqL w w1 → InM w1 (pRun mark quote tx n q) → pF (pRun mark quote tx n q) = 0 → pPh (pRun mark quote tx n q) ≠ 3 → (q < n → tx q = mark ∨ tx q = 10) → P_X4_cell_203 K w1 (nI q) := by
    intro q w1 h1 h2 h3 h4 h5 h6 h7
    have wf := pRun_wf (mark := mark) (quote := quote) hb q h2 h5
    have cu := pC_up wf
    have r80 := wf.2.2.1
    have c0 := wf.2.2.2.2.2.1
    exact m_close h4 (by omega) (by omega) wf.2.2.2.2.2.2.2.2.2.1 (fun w' g1 g2 => hok q w' h1 h2 (h3.tr g1) g2 h5 h6 h7)
  unfold P_X4_cell
  rw [ho.2.1, ho.2.2.1, nI_clamp (by omega)]
  have hL := open_L w (upd (md_cellFrom w) (pC o) (nI (pH o)))
  generalize md_cellFrom_s w (upd (md_cellFrom w) (pC o) (nI (pH o))) = w1 at *
  have ht1 := ht.of hL
  refine ⟨vp_in_nI hC (by decide), ?_⟩
  have plain : (p < n → tx p ≠ quote) → ∃ nf : Nat, P_X4_cell_157 K (fun w_5 v4_6 => P_X4_cell_203 K w_5 v4_6) (nI mark) nf w1 (nI p) := by
    intro hnq
    refine ⟨n - p + 1, m_plain hc0 ht1 (fun q w' g1 g2 g3 g4 g5 g6 g7 => close q w' g1 g2 (hL.tr g3) g4 g5 (by rcases g6 with e | e <;> omega) g7) (n - p) p w1 (by omega) (Nat.le_refl _) (EqL.rf w1) hin hfp (Or.inr ⟨hph, hnq⟩)⟩
  unfold qI
  by_cases q6 : quote = 256
  · rw [if_pos q6]
    exact ⟨fun _ => plain (fun l e => by have := hb.2 p l; omega), fun z => absurd (by decide) z⟩
  · rw [if_neg q6]
    have hq6 : quote < 256 := by omega
    refine ⟨fun z => absurd z (nI_pos (by omega)), fun _ => m_textAt ht1 hn (by omega) ?_⟩
    have qa := tA_eq (q := p) hb hq6
    refine ⟨fun z => plain (fun l e => z (qa.mpr ⟨l, e⟩)), fun z => ?_⟩
    have z := qa.mp z
    have st : pRun mark quote tx n (p + 1) = pPhase (pRun mark quote tx n p) 3 := by
      rw [pRun_s, if_pos hfp]
      exact pt_quote hph z.2 (by rw [z.2]; exact fun e => hmq e.symm) (by rw [z.2]; exact hq10)
    rw [nI_1]
    refine ⟨n - (p + 1) + 1, m_quoted (p := p) hc0 hq6 ht1 (fun q w' g1 g2 g3 g4 g5 g6 g7 g8 => ?_) _ (p + 1) w1 (by omega) (by omega) (by omega) (EqL.rf w1) (by rw [st]; exact hin) (by rw [st]; exact hfp) (by rw [st]; rfl) (by rw [st, hs]; rfl)⟩
    have ht2 := ht1.of g3
    have wfq := pRun_wf (mark := mark) (quote := quote) hb q g2 g5
    have r80 := wfq.2.2.1
    unfold P_X4_cell_98 P_X4_wrong
    rcases Nat.lt_or_ge q n with l | l
    · have g8 := g8 l
      have st4 : pRun mark quote tx n (q + 1) = pPhase (pRun mark quote tx n q) 4 := by rw [pRun_s, if_pos g5]; exact pt_out g6 g8.1
      have in4 : InM w' (pRun mark quote tx n (q + 1)) := by rw [st4]; exact g4
      have f4 : pF (pRun mark quote tx n (q + 1)) = 0 := by rw [st4]; exact g5
      have p4 : pPh (pRun mark quote tx n (q + 1)) = 4 := by rw [st4]; rfl
      rw [ht2.1, nI_1]
      refine ⟨fun _ => ⟨fun y => ?_, fun y => ?_⟩, fun y => absurd (nI_lt l (by omega)) y⟩
      · have y := (nI_leI (by omega) (by omega)).mp y
        exact close (q + 1) w' (by omega) (by omega) (hL.tr g3) in4 f4 (by omega) (fun x => by omega)
      · have y : q + 1 < n := by
          rcases Nat.lt_or_ge (q + 1) n with e | e
          · exact e
          · exact absurd (nI_le e (by omega)) y
        have tb1 := hb.2 (q + 1) y
        have eA : tA tx n (q + 1) = nI (tx (q + 1)) := if_pos y
        refine m_textAt ht2 hn (by omega) ?_
        rw [eA]
        refine ⟨fun x => ?_, fun x => m_textAt ht2 hn (by omega) ?_⟩
        · exact close (q + 1) w' (by omega) (by omega) (hL.tr g3) in4 f4 (by omega) (fun _ => Or.inl ((nI_eq (by omega) (by omega)).mp x))
        · rw [eA]
          refine ⟨fun x2 => ?_, fun x2 => ?_⟩
          · exact close (q + 1) w' (by omega) (by omega) (hL.tr g3) in4 f4 (by omega) (fun _ => Or.inr ((nI_eq (b := 10) (by omega) (by decide)).mp x2))
          · have st2 : pRun mark quote tx n (q + 2) = pFail (pRun mark quote tx n (q + 1)) 2 (q + 1) := by
              rw [show q + 2 = q + 1 + 1 by omega, pRun_s, if_pos f4]
              exact pt_bad p4 (g8.2 y) (fun e => x (by rw [e])) (fun e => x2 (by rw [e]; rfl))
            have fb : pF (pRun mark quote tx n (q + 2)) ≠ 0 := by rw [st2]; show ¬ (2 = 0); decide
            have en : pRun mark quote tx n n = pRun mark quote tx n (q + 2) := by
              have := pRun_stay fb (n - (q + 2))
              rwa [show q + 2 + (n - (q + 2)) = n by omega] at this
            refine hbad _ ((hL.tr g3).tr (wrong_L w' _ _)) (bad_of (f := 2) (a := q + 1) (by decide) (by decide) (r := pR (pRun mark quote tx n q) - 1) (by omega) g4.1 ?_)
            rw [en, pEnd_f fb, st2]
            rfl
    · have : q = n := by omega
      subst this
      refine ⟨fun y => absurd y (by rw [ht2.1]; exact nI_nlt (Nat.le_refl _) (by omega)), fun _ => ?_⟩
      refine hbad _ ((hL.tr g3).tr (wrong_L w' _ _)) (bad_of (f := 1) (a := p) (by decide) (by decide) (r := pR (pRun mark quote tx q q) - 1) (by omega) g4.1 ?_)
      rw [pEnd_3 g5 g6, g7]
theorem m_markOf {K : Int32 → Prop} {j : Nat} (hj : j < 24) (hk : K (nI (mkN j))) : P_X4_markOf K (nI j) := by
  unfold P_X4_markOf
  rw [show nI j / (6 : Int32) = nI (j / 6) from pk_div (d := 6) (by omega) (by decide) (by decide)]
  unfold mkN at hk
  rcases (show j / 6 = 0 ∨ j / 6 = 1 ∨ j / 6 = 2 ∨ j / 6 = 3 by omega) with e | e | e | e
  · rw [e] at hk ⊢; exact ⟨fun z => absurd rfl z, fun _ => hk⟩
  · rw [e] at hk ⊢; exact ⟨fun _ => ⟨fun z => absurd rfl z, fun _ => hk⟩, fun z => absurd z (by decide)⟩
  · rw [e] at hk ⊢; exact ⟨fun _ => ⟨fun _ => ⟨fun z => absurd rfl z, fun _ => hk⟩, fun z => absurd z (by decide)⟩, fun z => absurd z (by decide)⟩
  · rw [e] at hk ⊢; exact ⟨fun _ => ⟨fun _ => ⟨fun _ => hk, fun z => absurd z (by decide)⟩, fun z => absurd z (by decide)⟩, fun z => absurd z (by decide)⟩
theorem mk_cases (j : Nat) : mkN j = 44 ∨ mkN j = 59 ∨ mkN j = 9 ∨ mkN j = 124 := by
  unfold mkN
  split
  · exact Or.inl rfl
  · split
    · exact Or.inr (Or.inl rfl)
    · split
      · exact Or.inr (Or.inr (Or.inl rfl))
      · exact Or.inr (Or.inr (Or.inr rfl))
theorem qt_cases (j : Nat) : qtN j = 34 ∨ qtN j = 39 ∨ qtN j = 256 := by
  unfold qtN
  split
  · exact Or.inl rfl
  · split
    · exact Or.inr (Or.inl rfl)
    · exact Or.inr (Or.inr rfl)
theorem CuC_j {tx : Nat → Nat} {n : Nat} (hb : bOK tx n) (j : Nat) : CuC (mkN j) (qtN j) tx n := by
  have h1 := mk_cases j
  have h2 := qt_cases j
  exact ⟨hb, mkN_lt j, qtN_le j, by omega, by omega, by omega⟩
/-- bounds of a state whose cells, but not its row, are closed -/
def WFo (o : Ps) : Prop := 1 ≤ pR o ∧ pR o ≤ 80 ∧ pS o (pR o - 1) ≤ pC o ∧ pC o ≤ pS o (pR o - 1) + 12 ∧ pS o (pR o - 1) + 12 ≤ 12 * pR o
theorem WFo.of {s : Ps} {q : Nat} (h : pWF s q) : WFo s := by
  have h1 := pS_up h (pR s - 1) (by have := h.2.1; omega)
  obtain ⟨g1, g2, g3, g4, g5, g6, g7, -⟩ := h
  exact ⟨g2, g3, by omega, g7, by omega⟩
theorem m_rowL {K : Int32 → MW → Prop} {E59 E112 : MW → Int32 → Prop} {j : Nat} {tx : Nat → Nat} {n : Nat} {w0 : MW} {p0 : Nat} (hj : j < 24) (hb : bOK tx n) (h0 : TxM w0 tx n)
    (hE59 : ∀ p w', EqL w0 w' → (∃ r, r ≤ 80 ∧ md_rows w' = nI r) → pEnd (pRun (mkN j) (qtN j) tx n n) = (3, p, tE) → E59 w' (nI p))
    (hE112 : ∀ q w', p0 ≤ q → q ≤ n → EqL w0 w' → OpM 1 w' (pRun (mkN j) (qtN j) tx n q) → pF (pRun (mkN j) (qtN j) tx n q) = 0 → pPh (pRun (mkN j) (qtN j) tx n q) ≠ 3 → (q < n → tx q = 10) → E112 w' (nI (q + 1)))
    (hbad : ∀ w', EqL w0 w' → BadM w' (pRun (mkN j) (qtN j) tx n n) → K m1 w') :
    ∀ m p w o, n + 1 - p < m → p0 ≤ p → p ≤ n → EqL w0 w → OpM 1 w o → WFo o → pF o = 0 → pRun (mkN j) (qtN j) tx n p = pOpenC o p → P_X4_row_35 K E59 E112 (nI j) (m + 1) w (nI p) 1 := by
  have hc := CuC_j hb j
  have hn := hb.1
  intro m
  induction m with
  | zero => intro p w o h; omega
  | succ m ih =>
    intro p w o hm hp0 hp hw ho hwf hfo hs
    obtain ⟨g1, g2, g3, g4, g5⟩ := hwf
    refine ⟨fun z => absurd z (by decide), fun _ => ?_⟩
    rw [ho.1, ho.2.1, nI_clamp (by omega), ho.2.2.2.2.2.1 _ (by omega), sub_n g3]
    refine ⟨vp_in_nI (by omega) (by decide), ?_⟩
    unfold pOpenC at hs
    refine ⟨fun z => ?_, fun z => ?_⟩
    · have nf : ¬ 12 ≤ pC o - pS o (pR o - 1) := fun e => z (by rw [show pC o - pS o (pR o - 1) = 12 by omega]; rfl)
      rw [if_neg nf] at hs
      refine m_markOf hj (m_quoteOf (by omega) (m_cell hc (h0.of hw) ho (by omega) hp hs hfo (fun q w' k1 k2 k3 k4 k5 k6 k7 => ?_) (fun w' k1 k2 => ?_)))
      · refine ⟨fun _ => ?_, fun y => absurd (nI_pos' (by omega)) y⟩
        have hw' := hw.tr k3
        refine m_textAt (h0.of hw') hn (by omega) (m_markOf hj ?_)
        have qa := tA_eq (q := q) hb (mkN_lt j)
        have wfq := pRun_wf (mark := mkN j) (quote := qtN j) hb q k2 k5
        unfold P_X4_row_104
        rw [nI_1]
        refine ⟨fun y => ?_, fun y => ?_⟩
        · refine ⟨fun _ => hE112 q w' (by omega) k2 hw' k4 k5 k6 (fun l => ?_), fun x => absurd rfl x⟩
          rcases k7 l with e | e
          · exact absurd (qa.mpr ⟨l, e⟩) y
          · exact e
        · have y := qa.mp y
          have st : pRun (mkN j) (qtN j) tx n (q + 1) = pOpenC (pRun (mkN j) (qtN j) tx n q) (q + 1) := by
            rw [pRun_s, if_pos k5]
            exact pt_mark k6 (by rw [y.2]; exact hc.2.2.2.1) y.2
          exact ih (q + 1) w' _ (by omega) (by omega) (by omega) hw' k4 (WFo.of wfq) k5 st
      · exact ⟨fun y => absurd y (by decide), fun _ => hbad w' (hw.tr k1) k2⟩
    · have yf : 12 ≤ pC o - pS o (pR o - 1) := by
        have := (nI_eq (b := 12) (by omega) (by decide)).mp z
        omega
      rw [if_pos yf] at hs
      have fb : pF (pRun (mkN j) (qtN j) tx n p) ≠ 0 := by rw [hs]; show ¬ (3 = 0); decide
      have en : pRun (mkN j) (qtN j) tx n n = pRun (mkN j) (qtN j) tx n p := by
        have := pRun_stay fb (n - p)
        rwa [show p + (n - p) = n by omega] at this
      refine hE59 p w hw ⟨pR o - 1, by omega, ho.1⟩ ?_
      rw [en, pEnd_f fb, hs]
      rfl
/-- bounds of a state whose rows are closed -/
def WFc (c : Ps) : Prop := pR c ≤ 80 ∧ pC c ≤ 12 * pR c
theorem m_row {K : Int32 → MW → Prop} {j : Nat} {tx : Nat → Nat} {n : Nat} {w : MW} {c : Ps} {p : Nat} (hj : j < 24) (hb : bOK tx n) (h0 : TxM w tx n) (hp : p < n) (hcl : OpM 0 w c) (hwf : WFc c) (hfc : pF c = 0) (hs : pRun (mkN j) (qtN j) tx n p = pOpenR c p)
    (hok : ∀ q w', p ≤ q → q ≤ n → EqL w w' → OpM 0 w' (pRun (mkN j) (qtN j) tx n q) → pF (pRun (mkN j) (qtN j) tx n q) = 0 → pPh (pRun (mkN j) (qtN j) tx n q) ≠ 3 → (q < n → tx q = 10) → K (nI (q + 1)) w')
    (hbad : ∀ w', EqL w w' → BadM w' (pRun (mkN j) (qtN j) tx n n) → K m1 w') : P_X4_row K w (nI p) (nI j) := by
  have hn := hb.1
  obtain ⟨h1, h2, h3, h4, h5, h6, h7, h8, h9⟩ := hcl
  obtain ⟨r80, c12⟩ := hwf
  unfold P_X4_row P_X4_wrong
  rw [h1, h2, Nat.sub_zero, nI_clamp (by omega)]
  unfold pOpenR at hs
  refine ⟨fun z => ⟨vp_in_nI (by omega) (by decide), ?_⟩, fun z => ?_⟩
  · have nf : ¬ 80 ≤ pR c := fun e => z (by rw [show pR c = 80 by omega]; rfl)
    rw [if_neg nf] at hs
    have hL : EqL w (md_rowFrom_s w (upd (md_rowFrom w) (pR c) (nI (pC c)))) := by refine ⟨?_, ?_, ?_, ?_, ?_, ?_, ?_, ?_, ?_⟩ <;> simp [gs_md_rowFrom]
    have ho : OpM 1 (md_rowFrom_s w (upd (md_rowFrom w) (pR c) (nI (pC c)))) ((pPh c, pR c + 1, pC c, pH c, pF c, pA c, pL c), un (pS c) (pR c) (pC c), pT c, pB c) := by
      refine ⟨?_, ?_, ?_, ?_, ?_, ?_, ?_, ?_, ?_⟩
      · simp [gs_md_rowFrom]; rw [h1]; rfl
      · simp [gs_md_rowFrom]; exact h2
      · simp [gs_md_rowFrom]; exact h3
      · simp [gs_md_rowFrom]; exact h4
      · simp [gs_md_rowFrom]; exact h5
      · intro r hr
        have hr : r < pR c + 1 := hr
        simp only [gs_md_rowFrom]
        show upd (md_rowFrom w) (pR c) (nI (pC c)) r = nI (un (pS c) (pR c) (pC c) r)
        by_cases e : r = pR c
        · subst e; rw [pk_us, un_s]
        · rw [pk_un e, un_n e]; exact h6 r (by omega)
      · simp [gs_md_rowFrom]; exact h7
      · simp [gs_md_rowFrom]; exact h8
      · simp [gs_md_rowFrom]; exact h9
    refine ⟨n + 1 - p + 1 + 1, m_rowL (p0 := p) (w0 := w) hj hb h0 (fun q w' k1 k2 k3 => ?_) (fun q w' k0 k1 k2 k3 k4 k5 k6 => ?_) hbad (n + 1 - p + 1) p _ _ (by omega) (Nat.le_refl _) (by omega) hL ho ⟨?_, ?_, ?_, ?_, ?_⟩ hfc ?_⟩
    · obtain ⟨r, hr, er⟩ := k2
      exact hbad _ (k1.tr (wrong_L w' _ _)) (bad_of (f := 3) (a := q) (by decide) (by decide) hr er k3)
    · have wfq := pRun_wf (mark := mkN j) (quote := qtN j) hb q k1 k4
      have r1 := wfq.2.1
      refine hok q _ k0 k1 (k2.tr ?_) ?_ k4 k5 k6
      · refine ⟨?_, ?_, ?_, ?_, ?_, ?_, ?_, ?_, ?_⟩ <;> simp [gs_md_rows]
      · obtain ⟨g1, g2, g3, g4, g5, g6, g7, g8, g9⟩ := k3
        refine ⟨?_, ?_, ?_, ?_, ?_, ?_, ?_, ?_, ?_⟩
        · simp only [gs_md_rows]; rw [g1, nI_1, show pR (pRun (mkN j) (qtN j) tx n q) - 1 + 1 = pR (pRun (mkN j) (qtN j) tx n q) - 0 by omega]
        · simp [gs_md_rows]; exact g2
        · simp [gs_md_rows]; exact g3
        · simp [gs_md_rows]; exact g4
        · simp [gs_md_rows]; exact g5
        · simp [gs_md_rows]; exact g6
        · simp [gs_md_rows]; exact g7
        · simp [gs_md_rows]; exact g8
        · simp [gs_md_rows]; exact g9
    · show 1 ≤ pR c + 1; omega
    · show pR c + 1 ≤ 80; omega
    · show un (pS c) (pR c) (pC c) (pR c + 1 - 1) ≤ pC c; rw [Nat.add_sub_cancel, un_s]; exact Nat.le_refl _
    · show pC c ≤ un (pS c) (pR c) (pC c) (pR c + 1 - 1) + 12; rw [Nat.add_sub_cancel, un_s]; omega
    · show un (pS c) (pR c) (pC c) (pR c + 1 - 1) + 12 ≤ 12 * (pR c + 1); rw [Nat.add_sub_cancel, un_s]; omega
    · rw [hs]
      unfold pOpenC
      rw [if_neg]
      · rfl
      · show ¬ 12 ≤ pC c - un (pS c) (pR c) (pC c) (pR c + 1 - 1)
        rw [Nat.add_sub_cancel, un_s]; omega
  · have yf : 80 ≤ pR c := by
      have := (nI_eq (b := 80) (by omega) (by decide)).mp z
      omega
    rw [if_pos yf] at hs
    have fb : pF (pRun (mkN j) (qtN j) tx n p) ≠ 0 := by rw [hs]; show ¬ (3 = 0); decide
    have en : pRun (mkN j) (qtN j) tx n n = pRun (mkN j) (qtN j) tx n p := by
      have := pRun_stay fb (n - p)
      rwa [show p + (n - p) = n by omega] at this
    refine hbad _ (wrong_L w _ _) (bad_of (f := 3) (a := p) (by decide) (by decide) (r := pR c) r80 (by rw [h1, Nat.sub_zero]) ?_)
    rw [en, pEnd_f fb, hs]
    rfl
/-- the end of the rows: no FAULT -/
def OkM (w : MW) (c : Ps) (s : Ps) : Prop := OpM 0 w c ∧ WFc c ∧ 1 ≤ pR c ∧ pEnd s = (0, 0, tblP c)
theorem m_loadL {K : MW → Prop} {E : MW → Prop} {j : Nat} {tx : Nat → Nat} {n : Nat} {w0 : MW} (hj : j < 24) (hb : bOK tx n) (h0 : TxM w0 tx n)
    (hok : ∀ w' c, EqL w0 w' → OkM w' c (pRun (mkN j) (qtN j) tx n n) → E w') (hbad : ∀ w', EqL w0 w' → BadM w' (pRun (mkN j) (qtN j) tx n n) → E w') :
    ∀ m p w c, n + 1 - p < m → p ≤ n + 1 → EqL w0 w → OpM 0 w c → WFc c → pF c = 0 → (p < n → pRun (mkN j) (qtN j) tx n p = pOpenR c p) → (n ≤ p → OkM w c (pRun (mkN j) (qtN j) tx n n)) → P_X4_load_42 K E (nI j) (m + 1) w (nI p) := by
  have hc := CuC_j hb j
  have hn := hb.1
  intro m
  induction m with
  | zero => intro p w c h; omega
  | succ m ih =>
    intro p w c hm hp hw hcl hwf hfc hs he
    have ht := h0.of hw
    refine ⟨fun z => absurd z (nI_pos (by omega)), fun _ => ⟨fun z => ?_, fun z => ?_⟩⟩
    · rw [ht.1] at z
      exact hok w c hw (he ((nI_leI (by omega) (by omega)).mp z))
    · have hpn : p < n := by
        rcases Nat.lt_or_ge p n with e | e
        · exact e
        · exact absurd (by rw [ht.1]; exact nI_le e (by omega)) z
      refine m_row hj hb ht hpn hcl hwf hfc (hs hpn) (fun q w' k0 k1 k2 k3 k4 k5 k6 => ?_) (fun w' k1 k2 => ?_)
      · have wfq := pRun_wf (mark := mkN j) (quote := qtN j) hb q k1 k4
        have wc : WFc (pRun (mkN j) (qtN j) tx n q) := ⟨wfq.2.2.1, pC_up wfq⟩
        rcases Nat.lt_or_ge q n with l | l
        · have e10 := k6 l
          have st : pRun (mkN j) (qtN j) tx n (q + 1) = if decide (q + 1 = n) then pPhase (pRun (mkN j) (qtN j) tx n q) 0 else pOpenR (pPhase (pRun (mkN j) (qtN j) tx n q) 0) (q + 1) := by
            rw [pRun_s, if_pos k4]
            exact pt_end k5 (by rw [e10]; exact fun e => hc.2.2.2.2.2 e.symm) (by rw [e10]; exact fun e => hc.2.2.2.2.1 e.symm) e10
          refine ih (q + 1) w' (pPhase (pRun (mkN j) (qtN j) tx n q) 0) (by omega) (by omega) (hw.tr k2) k3 wc k4 (fun x => ?_) (fun x => ?_)
          · rw [st, if_neg (by simp; omega)]
          · have eqn : q + 1 = n := by omega
            have st2 : pRun (mkN j) (qtN j) tx n n = pPhase (pRun (mkN j) (qtN j) tx n q) 0 := by
              rw [if_pos (by simp [eqn])] at st
              rw [eqn] at st
              exact st
            refine ⟨k3, wc, wfq.2.1, ?_⟩
            rw [st2]
            exact pEnd_0 k4 (by show ¬ (0 = 3); decide)
        · have : q = n := by omega
          subst this
          exact ih (q + 1) w' (pRun (mkN j) (qtN j) tx q q) (by omega) (by omega) (hw.tr k2) k3 wc k4 (fun x => by omega) (fun x => ⟨k3, wc, wfq.2.1, pEnd_0 k4 k5⟩)
      · exact ⟨fun _ => hbad w' (hw.tr k1) k2, fun y => absurd (by decide) y⟩
