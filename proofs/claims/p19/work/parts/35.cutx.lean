/-! the whole cut of the class -/
def bOK (tx : Nat → Nat) (n : Nat) : Prop := n ≤ 1200 ∧ ∀ i, i < n → tx i < 256
def p0 : Ps := ((0, 0, 0, 0, 0, 0, 0), (fun _ => 0), (fun _ => 0), fun _ => 0)
/-- the state after q bytes; a FAULT stops it -/
def pRun (mark quote : Nat) (tx : Nat → Nat) (n : Nat) : Nat → Ps
  | 0 => pRow p0 0
  | q + 1 => if pF (pRun mark quote tx n q) = 0 then pTake mark quote (pRun mark quote tx n q) (tx q) q (decide (q + 1 = n)) else pRun mark quote tx n q
theorem pRun_s (mark quote : Nat) (tx : Nat → Nat) (n q : Nat) : pRun mark quote tx n (q + 1) = if pF (pRun mark quote tx n q) = 0 then pTake mark quote (pRun mark quote tx n q) (tx q) q (decide (q + 1 = n)) else pRun mark quote tx n q := rfl
theorem pRun_stay {mark quote : Nat} {tx : Nat → Nat} {n q : Nat} (h : pF (pRun mark quote tx n q) ≠ 0) : ∀ d, pRun mark quote tx n (q + d) = pRun mark quote tx n q := by
  intro d
  induction d with
  | zero => rfl
  | succ d ih => show pRun mark quote tx n (q + d + 1) = _; rw [pRun_s, ih, if_neg h]
theorem pTake_F {mark quote : Nat} {s : Ps} {b p : Nat} {last : Bool} (h : pF s = 0) : pF (pTake mark quote s b p last) ≤ 3 := by
  have e0 : pF s ≤ 3 := by omega
  unfold pTake pOpenC pOpenR
  by_cases c3 : pPh s = 3
  · rw [if_pos c3]; split <;> exact e0
  rw [if_neg c3]
  by_cases c4 : pPh s = 4 ∧ b = quote
  · rw [if_pos c4]; exact e0
  rw [if_neg c4]
  by_cases cm : b = mark
  · rw [if_pos cm]
    split
    · exact Nat.le_refl 3
    · exact e0
  rw [if_neg cm]
  by_cases c10 : b = 10
  · rw [if_pos c10]
    split
    · exact e0
    · split
      · exact Nat.le_refl 3
      · exact e0
  rw [if_neg c10]
  by_cases c4' : pPh s = 4
  · rw [if_pos c4']; exact (by decide : 2 ≤ 3)
  rw [if_neg c4']
  split <;> exact e0
theorem pRun_F (mark quote : Nat) (tx : Nat → Nat) (n : Nat) : ∀ q, pF (pRun mark quote tx n q) ≤ 3 := by
  intro q
  induction q with
  | zero => exact Nat.zero_le 3
  | succ q ih =>
    rw [pRun_s]
    by_cases z : pF (pRun mark quote tx n q) = 0
    · rw [if_pos z]; exact pTake_F z
    · rw [if_neg z]; exact ih
theorem pWF.up {s : Ps} {q q' : Nat} (h : pWF s q) (hq : q ≤ q') : pWF s q' := by
  obtain ⟨h1, h2, h3, h4, h5, h6, h7, h8, h9, h10, h11, h12, h13⟩ := h
  exact ⟨h1, h2, h3, h4, h5, h6, h7, h8, h9, h10, by omega, h12, by omega⟩
theorem pHold_wf {s : Ps} {q b : Nat} (h : pWF s q) (hb : b < 256) : pWF (pHold s b) (q + 1) := by
  obtain ⟨h1, h2, h3, h4, h5, h6, h7, h8, h9, h10, h11, h12, h13⟩ := h
  refine ⟨h1, h2, h3, h4, h5, h6, h7, h8, h9, ?_, ?_, ?_, ?_⟩
  · show pT s (pC s - 1) ≤ pH s + 1; omega
  · show pH s + 1 ≤ q + 1; omega
  · intro i hi
    have hi : i < pH s + 1 := hi
    show un (pB s) (pH s) b i < 256
    by_cases e : i = pH s
    · subst e; rw [un_s]; exact hb
    · rw [un_n e]; exact h12 i (by omega)
  · show pL s ≤ q + 1; omega
theorem pCell_wf {s : Ps} {q p : Nat} (h : pWF s q) (hp : p ≤ q + 1) (hc : ¬ 12 ≤ pC s - pS s (pR s - 1)) : pWF (pCell s p) (q + 1) := by
  obtain ⟨h1, h2, h3, h4, h5, h6, h7, h8, h9, h10, h11, h12, h13⟩ := h
  refine ⟨by show 1 ≤ 4; decide, h2, h3, h4, h5, ?_, ?_, ?_, ?_, ?_, ?_, h12, hp⟩
  · show pS s (pR s - 1) < pC s + 1; omega
  · show pC s + 1 ≤ pS s (pR s - 1) + 12; omega
  · show un (pT s) (pC s) (pH s) 0 = 0
    rw [un_n (by omega)]; exact h8
  · intro c hc2
    have hc2 : c + 1 < pC s + 1 := hc2
    show un (pT s) (pC s) (pH s) c ≤ un (pT s) (pC s) (pH s) (c + 1)
    rw [un_n (by omega)]
    by_cases e : c + 1 = pC s
    · rw [e, un_s, show c = pC s - 1 by omega]; exact h10
    · rw [un_n e]; exact h9 c (by omega)
  · show un (pT s) (pC s) (pH s) (pC s + 1 - 1) ≤ pH s
    rw [Nat.add_sub_cancel, un_s]; exact Nat.le_refl _
  · show pH s ≤ q + 1; omega
theorem pRow_wf {s : Ps} {q p : Nat} (h : pWF s q) (hp : p ≤ q + 1) (hc : ¬ 80 ≤ pR s) : pWF (pRow s p) (q + 1) := by
  obtain ⟨h1, h2, h3, h4, h5, h6, h7, h8, h9, h10, h11, h12, h13⟩ := h
  refine ⟨by show 1 ≤ 4; decide, ?_, ?_, ?_, ?_, ?_, ?_, ?_, ?_, ?_, ?_, h12, hp⟩
  · show 1 ≤ pR s + 1; omega
  · show pR s + 1 ≤ 80; omega
  · show un (pS s) (pR s) (pC s) 0 = 0
    rw [un_n (by omega)]; exact h4
  · intro r hr
    have hr : r + 1 < pR s + 1 := hr
    show un (pS s) (pR s) (pC s) r < un (pS s) (pR s) (pC s) (r + 1) ∧ un (pS s) (pR s) (pC s) (r + 1) ≤ un (pS s) (pR s) (pC s) r + 12
    rw [un_n (k := pR s) (j := r) (by omega)]
    by_cases e : r + 1 = pR s
    · rw [e, un_s, show r = pR s - 1 by omega]; exact ⟨h6, h7⟩
    · rw [un_n e]; exact h5 r (by omega)
  · show un (pS s) (pR s) (pC s) (pR s + 1 - 1) < pC s + 1
    rw [Nat.add_sub_cancel, un_s]; omega
  · show pC s + 1 ≤ un (pS s) (pR s) (pC s) (pR s + 1 - 1) + 12
    rw [Nat.add_sub_cancel, un_s]; omega
  · show un (pT s) (pC s) (pH s) 0 = 0
    rw [un_n (by omega)]; exact h8
  · intro c hc2
    have hc2 : c + 1 < pC s + 1 := hc2
    show un (pT s) (pC s) (pH s) c ≤ un (pT s) (pC s) (pH s) (c + 1)
    rw [un_n (by omega)]
    by_cases e : c + 1 = pC s
    · rw [e, un_s, show c = pC s - 1 by omega]; exact h10
    · rw [un_n e]; exact h9 c (by omega)
  · show un (pT s) (pC s) (pH s) (pC s + 1 - 1) ≤ pH s
    rw [Nat.add_sub_cancel, un_s]; exact Nat.le_refl _
  · show pH s ≤ q + 1; omega
theorem pTake_wf {mark quote : Nat} {s : Ps} {b p : Nat} {last : Bool} (hs : pWF s p) (hb : b < 256) (h : pF (pTake mark quote s b p last) = 0) : pWF (pTake mark quote s b p last) (p + 1) := by
  unfold pTake at h ⊢
  by_cases c3 : pPh s = 3
  · rw [if_pos c3]
    split
    · exact (hs.phase (by decide)).up (by omega)
    · exact pHold_wf hs hb
  rw [if_neg c3] at h ⊢
  by_cases c4 : pPh s = 4 ∧ b = quote
  · rw [if_pos c4]
    exact pHold_wf (hs.phase (by decide)) hb
  rw [if_neg c4] at h ⊢
  by_cases cm : b = mark
  · rw [if_pos cm] at h ⊢
    unfold pOpenC at h ⊢
    by_cases z : 12 ≤ pC s - pS s (pR s - 1)
    · rw [if_pos z] at h; exact absurd h (by show ¬ (3 = 0); decide)
    · rw [if_neg z]; exact pCell_wf hs (Nat.le_refl _) z
  rw [if_neg cm] at h ⊢
  by_cases c10 : b = 10
  · rw [if_pos c10] at h ⊢
    by_cases cl : last = true
    · rw [if_pos cl]; exact (hs.phase (by decide)).up (by omega)
    · rw [if_neg cl] at h ⊢
      unfold pOpenR at h ⊢
      by_cases z : 80 ≤ pR (pPhase s 0)
      · rw [if_pos z] at h; exact absurd h (by show ¬ (3 = 0); decide)
      · rw [if_neg z]; exact pRow_wf (hs.phase (by decide)) (Nat.le_refl _) z
  rw [if_neg c10] at h ⊢
  by_cases c4' : pPh s = 4
  · rw [if_pos c4'] at h; exact absurd h (by show ¬ (2 = 0); decide)
  rw [if_neg c4']
  split
  · exact (hs.phase (by decide)).up (by omega)
  · exact pHold_wf (hs.phase (by decide)) hb
theorem pRun_wf {mark quote : Nat} {tx : Nat → Nat} {n : Nat} (hb : bOK tx n) : ∀ q, q ≤ n → pF (pRun mark quote tx n q) = 0 → pWF (pRun mark quote tx n q) q := by
  intro q
  induction q with
  | zero => intro _ _; exact ⟨by show 1 ≤ 4; decide, by show 1 ≤ 0 + 1; decide, by show 0 + 1 ≤ 80; decide, rfl, fun r hr => absurd (show r + 1 < 0 + 1 from hr) (by omega), by show 0 < 0 + 1; decide, by show 0 + 1 ≤ 0 + 12; decide, rfl, fun c hc => absurd (show c + 1 < 0 + 1 from hc) (by omega), Nat.le_refl 0, Nat.le_refl 0, fun i hi => absurd (show i < 0 from hi) (by omega), Nat.le_refl 0⟩
  | succ q ih =>
    intro hq hf
    rw [pRun_s] at hf ⊢
    by_cases z : pF (pRun mark quote tx n q) = 0
    · rw [if_pos z] at hf ⊢
      exact pTake_wf (ih (by omega) z) (hb.2 q (by omega)) hf
    · rw [if_neg z] at hf; exact absurd hf z
def tE : Tb := (0, (fun _ => 0), (fun _ => 0), fun _ => 0)
theorem tE_wf : tWF tE := ⟨by decide, rfl, fun r hr => absurd hr (Nat.not_lt_zero r), rfl, fun c hc => absurd (show c < 0 from hc) (Nat.not_lt_zero c), by show 0 ≤ 1200; decide, fun i hi => absurd (show i < 0 from hi) (Nat.not_lt_zero i)⟩
/-- FAULT, its place and the table of a text -/
def pEnd (s : Ps) : Nat × Nat × Tb :=
  if pF s = 0 then (if pPh s = 3 then (1, pL s, tE) else (0, 0, (pR s, un (pS s) (pR s) (pC s), un (pT s) (pC s) (pH s), pB s))) else (pF s, pA s, tE)
def pRes (j : Nat) (tx : Nat → Nat) (n : Nat) : Nat × Nat × Tb :=
  if n = 0 then (if j % 2 = 1 then (4, 0, tE) else (0, 0, tE)) else pEnd (pRun (mkN j) (qtN j) tx n n)
def rFt (j : Nat) (tx : Nat → Nat) (n : Nat) : Nat := (pRes j tx n).1
def rAt (j : Nat) (tx : Nat → Nat) (n : Nat) : Int32 := if (pRes j tx n).1 = 0 then m1 else nI (pRes j tx n).2.1
def rTb (j : Nat) (tx : Nat → Nat) (n : Nat) : Tb := (pRes j tx n).2.2
theorem pEnd_wf {s : Ps} {q : Nat} (h : pF s = 0 → pWF s q) (hq : q ≤ 1200) : tWF (pEnd s).2.2 := by
  unfold pEnd
  split
  · rename_i e
    split
    · exact tE_wf
    · have hs := h e
      have hC := pC_up hs
      obtain ⟨h1, h2, h3, h4, h5, h6, h7, h8, h9, h10, h11, h12, h13⟩ := hs
      have eN : tN (pR s, un (pS s) (pR s) (pC s), un (pT s) (pC s) (pH s), pB s) = pC s := un_s
      refine ⟨h3, ?_, ?_, ?_, ?_, ?_, ?_⟩
      · show un (pS s) (pR s) (pC s) 0 = 0
        rw [un_n (by omega)]; exact h4
      · intro r hr
        have hr : r < pR s := hr
        show un (pS s) (pR s) (pC s) r < un (pS s) (pR s) (pC s) (r + 1) ∧ un (pS s) (pR s) (pC s) (r + 1) ≤ un (pS s) (pR s) (pC s) r + 12
        rw [un_n (k := pR s) (j := r) (by omega)]
        by_cases e : r + 1 = pR s
        · rw [e, un_s, show r = pR s - 1 by omega]; exact ⟨h6, h7⟩
        · rw [un_n e]; exact h5 r (by omega)
      · show un (pT s) (pC s) (pH s) 0 = 0
        rw [un_n (by omega)]; exact h8
      · intro c hc
        rw [eN] at hc
        show un (pT s) (pC s) (pH s) c ≤ un (pT s) (pC s) (pH s) (c + 1)
        rw [un_n (by omega)]
        by_cases e : c + 1 = pC s
        · rw [e, un_s, show c = pC s - 1 by omega]; exact h10
        · rw [un_n e]; exact h9 c (by omega)
      · rw [eN]
        show un (pT s) (pC s) (pH s) (pC s) ≤ 1200
        rw [un_s]; omega
      · intro i hi
        rw [eN] at hi
        have hi : i < un (pT s) (pC s) (pH s) (pC s) := hi
        rw [un_s] at hi
        exact h12 i hi
  · exact tE_wf
theorem rTb_wf {j : Nat} {tx : Nat → Nat} {n : Nat} (hb : bOK tx n) : tWF (rTb j tx n) := by
  unfold rTb pRes
  split
  · split <;> exact tE_wf
  · exact pEnd_wf (fun h => pRun_wf hb n (Nat.le_refl _) h) hb.1
theorem x_cut_l {K E : XW → Prop} {mark quote : Nat} {tx : Nat → Nat} {n : Nat} {w0 : XW} (hb : bOK tx n) (hm : mark < 256) (hq : quote ≤ 256) (htx : ∀ i, i < n → rd_text w0 i = nI (tx i))
    (hE : ∀ w', EqU w0 w' → RepP w' mark quote (pRun mark quote tx n n) → E w') : ∀ d q w, q + d = n → EqU w0 w → RepP w mark quote (pRun mark quote tx n q) → P_X1_cutText_43 K E (nI n) (d + 1) w (nI q) := by
  have hn := hb.1
  intro d
  induction d with
  | zero =>
    intro q w he hu hr
    have : q = n := by omega
    subst this
    exact ⟨fun _ => hE w hu hr, fun z => absurd (Int32.le_refl _) z⟩
  | succ d ih =>
    intro q w he hu hr
    have hq1 : nI q + (1 : Int32) = nI (q + 1) := nI_1 q
    refine ⟨fun z => absurd z (nI_ge (by omega) (by omega)), fun _ => ⟨fun z => ?_, fun z => ⟨vp_in_nI (by omega) (by decide), ?_⟩⟩⟩
    · have hf : pF (pRun mark quote tx n q) ≠ 0 := fun y => z (by rw [hr.2.2.2.2.1, y]; rfl)
      refine hE w hu ?_
      rw [← he, pRun_stay (by rw [he]; exact hf)]
      rw [he]
      exact hr
    · have hf : pF (pRun mark quote tx n q) = 0 := by
        rw [hr.2.2.2.2.1] at z
        rcases Nat.eq_zero_or_pos (pF (pRun mark quote tx n q)) with y | y
        · exact y
        · exfalso
          have := pRun_F mark quote tx n q
          exact nI_ne0 y (by omega) z
      have hw := pRun_wf (mark := mark) (quote := quote) hb q (by omega) hf
      have et : rd_text w q = nI (tx q) := by
        rw [← htx q (by omega)]
        unfold rd_text
        rw [hu.1]
      have st : ∀ last : Bool, last = decide (q + 1 = n) → P_X1_cutText_78 K (P_X1_cutText_43 K E (nI n) (d + 1)) E w (nI n) (nI q) (bI last) (nI q) (rd_text w (nI q).toNatClampNeg) := by
        intro last hl
        unfold P_X1_cutText_78
        rw [nI_clamp (by omega), et]
        refine x_take hr hw (by omega) (hb.2 q (by omega)) hm hq (fun w' g1 g2 => ?_)
        rw [hq1]
        refine ih (q + 1) w' (by omega) (hu.tr g1) ?_
        rw [pRun_s, if_pos hf, ← hl]
        exact g2
      rw [hq1]
      refine ⟨fun y => st false (by have : ¬ q + 1 = n := fun e => y (by rw [e]); simp [this]), fun y => st true ?_⟩
      have : q + 1 = n := (nI_eq (by omega) (by omega)).mp y
      simp [this]
