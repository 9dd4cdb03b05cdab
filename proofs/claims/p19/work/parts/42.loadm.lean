/-! the cut of the reference, held against the states of the class' cut -/
def tA (tx : Nat → Nat) (n p : Nat) : Int32 := if p < n then nI (tx p) else m1
def TxM (w : MW) (tx : Nat → Nat) (n : Nat) : Prop := md_size w = nI n ∧ ∀ i, i < n → md_text w i &&& 255 = nI (tx i)
/-- w' is w but for what a cut writes -/
def EqL (w w' : MW) : Prop := md_tape w' = md_tape w ∧ md_text w' = md_text w ∧ md_taped w' = md_taped w ∧ md_size w' = md_size w ∧ md_used w' = md_used w ∧ md_loaded w' = md_loaded w ∧ md_odds w' = md_odds w ∧ md_isKnown w' = md_isKnown w ∧ md_costs w' = md_costs w
theorem EqL.rf (w : MW) : EqL w w := ⟨rfl, rfl, rfl, rfl, rfl, rfl, rfl, rfl, rfl⟩
theorem EqL.tr {a b c : MW} (h1 : EqL a b) (h2 : EqL b c) : EqL a c := by
  obtain ⟨a1, a2, a3, a4, a5, a6, a7, a8, a9⟩ := h1
  obtain ⟨b1, b2, b3, b4, b5, b6, b7, b8, b9⟩ := h2
  exact ⟨b1.trans a1, b2.trans a2, b3.trans a3, b4.trans a4, b5.trans a5, b6.trans a6, b7.trans a7, b8.trans a8, b9.trans a9⟩
theorem TxM.of {w w' : MW} {tx : Nat → Nat} {n : Nat} (h : TxM w tx n) (e : EqL w w') : TxM w' tx n := by
  unfold TxM
  rw [e.2.1, e.2.2.2.1]
  exact h
theorem m_textAt {w : MW} {K : Int32 → Prop} {tx : Nat → Nat} {n p : Nat} (h : TxM w tx n) (hn : n ≤ 1200) (hp : p < 2 ^ 30) (hk : K (tA tx n p)) : P_X4_textAt K w (nI p) := by
  unfold P_X4_textAt
  rw [h.1]
  unfold tA at hk
  by_cases z : p < n
  · rw [if_pos z] at hk
    refine ⟨fun y => absurd y (nI_ge z (by omega)), fun _ => ⟨vp_in_nI (by omega) (by decide), ?_⟩⟩
    rw [nI_clamp (by omega), h.2 p z]
    exact hk
  · rw [if_neg z] at hk
    exact ⟨fun _ => hk, fun y => absurd (nI_le (by omega) (by omega)) y⟩
/-- within a cell -/
def InM (w : MW) (s : Ps) : Prop :=
  md_rows w = nI (pR s - 1) ∧ md_cellMany w = nI (pC s - 1) ∧ md_byteMany w = nI (pH s) ∧ md_fault w = nI 0 ∧ md_faultPlace w = m1 ∧
  (∀ r, r < pR s → md_rowFrom w r = nI (pS s r)) ∧ (∀ c, c < pC s → md_cellFrom w c = nI (pT s c)) ∧ (∀ c, c + 1 < pC s → md_cellSize w c = nI (pT s (c + 1) - pT s c)) ∧ ∀ i, i < pH s → md_bytes w i &&& 255 = nI (pB s i)
/-- behind a cell (k = 1), behind a row (k = 0) -/
def OpM (k : Nat) (w : MW) (s : Ps) : Prop :=
  md_rows w = nI (pR s - k) ∧ md_cellMany w = nI (pC s) ∧ md_byteMany w = nI (pH s) ∧ md_fault w = nI 0 ∧ md_faultPlace w = m1 ∧
  (∀ r, r < pR s → md_rowFrom w r = nI (pS s r)) ∧ (∀ c, c < pC s → md_cellFrom w c = nI (pT s c)) ∧ (∀ c, c < pC s → md_cellSize w c = nI (un (pT s) (pC s) (pH s) (c + 1) - pT s c)) ∧ ∀ i, i < pH s → md_bytes w i &&& 255 = nI (pB s i)
theorem m_take {w : MW} {K : MW → Prop} {s : Ps} {b : Nat} (h : InM w s) (hH : pH s < 1200) (hb : b < 256) (hk : ∀ w', EqL w w' → InM w' (pHold s b) → K w') : P_X4_take K w (nI b) := by
  obtain ⟨h1, h2, h3, h4, h5, h6, h7, h8, h9⟩ := h
  unfold P_X4_take
  rw [h3, nI_clamp (by omega)]
  refine ⟨vp_in_nI hH (by decide), hk _ ⟨?_, ?_, ?_, ?_, ?_, ?_, ?_, ?_, ?_⟩ ⟨?_, ?_, ?_, ?_, ?_, ?_, ?_, ?_, ?_⟩⟩
  · simp [gs_md_bytes, gs_md_byteMany]
  · simp [gs_md_bytes, gs_md_byteMany]
  · simp [gs_md_bytes, gs_md_byteMany]
  · simp [gs_md_bytes, gs_md_byteMany]
  · simp [gs_md_bytes, gs_md_byteMany]
  · simp [gs_md_bytes, gs_md_byteMany]
  · simp [gs_md_bytes, gs_md_byteMany]
  · simp [gs_md_bytes, gs_md_byteMany]
  · simp [gs_md_bytes, gs_md_byteMany]
  · simp [gs_md_bytes, gs_md_byteMany]; exact h1
  · simp [gs_md_bytes, gs_md_byteMany]; exact h2
  · simp [gs_md_bytes, gs_md_byteMany]; rw [h3, nI_1]; rfl
  · simp [gs_md_bytes, gs_md_byteMany]; exact h4
  · simp [gs_md_bytes, gs_md_byteMany]; exact h5
  · simp [gs_md_bytes, gs_md_byteMany]; exact h6
  · simp [gs_md_bytes, gs_md_byteMany]; exact h7
  · simp [gs_md_bytes, gs_md_byteMany]; exact h8
  · intro i hi
    have hi : i < pH s + 1 := hi
    simp only [gs_md_bytes, gs_md_byteMany]
    show upd (md_bytes w) (pH s) _ i &&& 255 = nI (un (pB s) (pH s) b i)
    by_cases e : i = pH s
    · subst e; rw [pk_us, un_s, nar_and2, n_and b hb]
    · rw [pk_un e, un_n e]; exact h9 i (by omega)
theorem m_close {w : MW} {K : Int32 → MW → Prop} {s : Ps} {v : Int32} (h : InM w s) (hC : 0 < pC s) (hC2 : pC s ≤ 960) (hT : pT s (pC s - 1) ≤ pH s) (hk : ∀ w', EqL w w' → OpM 1 w' s → K v w') : P_X4_cell_203 K w v := by
  obtain ⟨h1, h2, h3, h4, h5, h6, h7, h8, h9⟩ := h
  unfold P_X4_cell_203
  rw [h2, h3, nI_clamp (by omega), h7 _ (by omega), sub_n hT]
  refine ⟨vp_in_nI (by omega) (by decide), vp_in_nI (by omega) (by decide), hk _ ⟨?_, ?_, ?_, ?_, ?_, ?_, ?_, ?_, ?_⟩ ⟨?_, ?_, ?_, ?_, ?_, ?_, ?_, ?_, ?_⟩⟩
  · simp [gs_md_cellMany, gs_md_cellSize]
  · simp [gs_md_cellMany, gs_md_cellSize]
  · simp [gs_md_cellMany, gs_md_cellSize]
  · simp [gs_md_cellMany, gs_md_cellSize]
  · simp [gs_md_cellMany, gs_md_cellSize]
  · simp [gs_md_cellMany, gs_md_cellSize]
  · simp [gs_md_cellMany, gs_md_cellSize]
  · simp [gs_md_cellMany, gs_md_cellSize]
  · simp [gs_md_cellMany, gs_md_cellSize]
  · simp [gs_md_cellMany, gs_md_cellSize]; exact h1
  · simp only [gs_md_cellMany, gs_md_cellSize]; rw [h2, nI_1, show pC s - 1 + 1 = pC s by omega]
  · simp [gs_md_cellMany, gs_md_cellSize]; exact h3
  · simp [gs_md_cellMany, gs_md_cellSize]; exact h4
  · simp [gs_md_cellMany, gs_md_cellSize]; exact h5
  · simp [gs_md_cellMany, gs_md_cellSize]; exact h6
  · simp [gs_md_cellMany, gs_md_cellSize]; exact h7
  · intro c hc
    simp only [gs_md_cellMany, gs_md_cellSize]
    by_cases e : c = pC s - 1
    · subst e; rw [pk_us, show pC s - 1 + 1 = pC s by omega, un_s]
    · rw [pk_un e, un_n (by omega)]; exact h8 c (by omega)
  · simp [gs_md_cellMany, gs_md_cellSize]; exact h9
theorem m_open {w : MW} {o : Ps} {p : Nat} (h : OpM 1 w o) : InM (md_cellFrom_s w (upd (md_cellFrom w) (pC o) (nI (pH o)))) (pCell o p) := by
  obtain ⟨h1, h2, h3, h4, h5, h6, h7, h8, h9⟩ := h
  refine ⟨?_, ?_, ?_, ?_, ?_, ?_, ?_, ?_, ?_⟩
  · simp [gs_md_cellFrom]; exact h1
  · simp [gs_md_cellFrom]; rw [h2]; rfl
  · simp [gs_md_cellFrom]; exact h3
  · simp [gs_md_cellFrom]; exact h4
  · simp [gs_md_cellFrom]; exact h5
  · simp [gs_md_cellFrom]; exact h6
  · intro c hc
    have hc : c < pC o + 1 := hc
    simp only [gs_md_cellFrom]
    show upd (md_cellFrom w) (pC o) (nI (pH o)) c = nI (un (pT o) (pC o) (pH o) c)
    by_cases e : c = pC o
    · subst e; rw [pk_us, un_s]
    · rw [pk_un e, un_n e]; exact h7 c (by omega)
  · intro c hc
    have hc : c + 1 < pC o + 1 := hc
    simp only [gs_md_cellFrom]
    show md_cellSize w c = nI (un (pT o) (pC o) (pH o) (c + 1) - un (pT o) (pC o) (pH o) c)
    rw [un_n (j := c) (by omega)]
    exact h8 c (by omega)
  · simp [gs_md_cellFrom]; exact h9
theorem open_L (w : MW) (f : Nat → Int32) : EqL w (md_cellFrom_s w f) := by
  refine ⟨?_, ?_, ?_, ?_, ?_, ?_, ?_, ?_, ?_⟩ <;> simp [gs_md_cellFrom]
/-! steps of the class' cut -/
theorem pt_plain {mark quote : Nat} {s : Ps} {b p : Nat} {last : Bool} (h3 : pPh s ≠ 3) (h4 : pPh s ≠ 4) (hm : b ≠ mark) (h10 : b ≠ 10) (hq : ¬ (pPh s = 1 ∧ b = quote)) : pTake mark quote s b p last = pHold (pPhase s 2) b := by
  unfold pTake
  rw [if_neg h3, if_neg (fun x => h4 x.1), if_neg hm, if_neg h10, if_neg h4, if_neg hq]
theorem pt_mark {mark quote : Nat} {s : Ps} {b p : Nat} {last : Bool} (h3 : pPh s ≠ 3) (hq : b ≠ quote) (hm : b = mark) : pTake mark quote s b p last = pOpenC s (p + 1) := by
  unfold pTake
  rw [if_neg h3, if_neg (fun x => hq x.2), if_pos hm]
theorem pt_end {mark quote : Nat} {s : Ps} {b p : Nat} {last : Bool} (h3 : pPh s ≠ 3) (hq : b ≠ quote) (hm : b ≠ mark) (h10 : b = 10) : pTake mark quote s b p last = if last then pPhase s 0 else pOpenR (pPhase s 0) (p + 1) := by
  unfold pTake
  rw [if_neg h3, if_neg (fun x => hq x.2), if_neg hm, if_pos h10]
theorem pt_in {mark quote : Nat} {s : Ps} {b p : Nat} {last : Bool} (h3 : pPh s = 3) (hq : b ≠ quote) : pTake mark quote s b p last = pHold s b := by
  unfold pTake
  rw [if_pos h3, if_neg hq]
theorem pt_out {mark quote : Nat} {s : Ps} {b p : Nat} {last : Bool} (h3 : pPh s = 3) (hq : b = quote) : pTake mark quote s b p last = pPhase s 4 := by
  unfold pTake
  rw [if_pos h3, if_pos hq]
theorem pt_twice {mark quote : Nat} {s : Ps} {b p : Nat} {last : Bool} (h4 : pPh s = 4) (hq : b = quote) : pTake mark quote s b p last = pHold (pPhase s 3) b := by
  unfold pTake
  rw [if_neg (by omega), if_pos ⟨h4, hq⟩]
theorem pt_bad {mark quote : Nat} {s : Ps} {b p : Nat} {last : Bool} (h4 : pPh s = 4) (hq : b ≠ quote) (hm : b ≠ mark) (h10 : b ≠ 10) : pTake mark quote s b p last = pFail s 2 p := by
  unfold pTake
  rw [if_neg (by omega), if_neg (fun x => hq x.2), if_neg hm, if_neg h10, if_pos h4]
theorem pt_quote {mark quote : Nat} {s : Ps} {b p : Nat} {last : Bool} (h1 : pPh s = 1) (hq : b = quote) (hm : b ≠ mark) (h10 : b ≠ 10) : pTake mark quote s b p last = pPhase s 3 := by
  unfold pTake
  rw [if_neg (by omega), if_neg (fun x => by omega), if_neg hm, if_neg h10, if_neg (by omega), if_pos ⟨h1, hq⟩]
/-- what is fixed while a text is cut -/
def CuC (mark quote : Nat) (tx : Nat → Nat) (n : Nat) : Prop := bOK tx n ∧ mark < 256 ∧ quote ≤ 256 ∧ mark ≠ quote ∧ mark ≠ 10 ∧ quote ≠ 10
theorem tA_eq {tx : Nat → Nat} {n q x : Nat} (hb : bOK tx n) (hx : x < 256) : (tA tx n q = nI x) ↔ (q < n ∧ tx q = x) := by
  unfold tA
  by_cases z : q < n
  · rw [if_pos z]
    have := hb.2 q z
    exact ⟨fun e => ⟨z, (nI_eq (by omega) (by omega)).mp e⟩, fun e => by rw [e.2]⟩
  · rw [if_neg z]
    exact ⟨fun e => absurd e (m1_ne (by omega)), fun e => absurd e.1 z⟩
theorem m_plain {K : Int32 → MW → Prop} {E : MW → Int32 → Prop} {mark quote : Nat} {tx : Nat → Nat} {n : Nat} {w0 : MW} (hc : CuC mark quote tx n) (h0 : TxM w0 tx n) {p : Nat}
    (hE : ∀ q w', p ≤ q → q ≤ n → EqL w0 w' → InM w' (pRun mark quote tx n q) → pF (pRun mark quote tx n q) = 0 → (pPh (pRun mark quote tx n q) = 1 ∨ pPh (pRun mark quote tx n q) = 2) → (q < n → tx q = mark ∨ tx q = 10) → E w' (nI q)) :
    ∀ d q w, q + d = n → p ≤ q → EqL w0 w → InM w (pRun mark quote tx n q) → pF (pRun mark quote tx n q) = 0 → (pPh (pRun mark quote tx n q) = 2 ∨ (pPh (pRun mark quote tx n q) = 1 ∧ (q < n → tx q ≠ quote))) → P_X4_cell_157 K E (nI mark) (d + 1) w (nI q) := by
  obtain ⟨hb, hm, hq, hmq, hm10, hq10⟩ := hc
  have hn := hb.1
  intro d
  induction d with
  | zero =>
    intro q w eq hpq hw hi hf hph
    have : q = n := by omega
    subst this
    refine ⟨fun _ => hE q w hpq (Nat.le_refl _) hw hi hf ?_ (fun z => absurd z (Nat.lt_irrefl _)), fun y => absurd (by rw [(h0.of hw).1]; exact Int32.le_refl _) y⟩
    rcases hph with e | e
    · exact Or.inr e
    · exact Or.inl e.1
  | succ d ih =>
    intro q w eq hpq hw hi hf hph
    have ht := h0.of hw
    have hlt : q < n := by omega
    have tb := hb.2 q hlt
    have eA : tA tx n q = nI (tx q) := if_pos hlt
    have wf := pRun_wf (mark := mark) (quote := quote) hb q (by omega) hf
    have ph12 : pPh (pRun mark quote tx n q) = 1 ∨ pPh (pRun mark quote tx n q) = 2 := by
      rcases hph with e | e
      · exact Or.inr e
      · exact Or.inl e.1
    refine ⟨fun y => absurd y (by rw [ht.1]; exact nI_ge hlt (by omega)), fun _ => m_textAt ht hn (by omega) ?_⟩
    rw [eA]
    refine ⟨fun y => hE q w hpq (by omega) hw hi hf ph12 (fun _ => Or.inl ((nI_eq (by omega) (by omega)).mp y)), fun y1 => m_textAt ht hn (by omega) ?_⟩
    rw [eA]
    refine ⟨fun y => hE q w hpq (by omega) hw hi hf ph12 (fun _ => Or.inr ((nI_eq (b := 10) (by omega) (by decide)).mp y)), fun y2 => m_textAt ht hn (by omega) ?_⟩
    rw [eA]
    have nm : tx q ≠ mark := fun e => y1 (by rw [e])
    have n10 : tx q ≠ 10 := fun e => y2 (by rw [e]; rfl)
    have st : pRun mark quote tx n (q + 1) = pHold (pPhase (pRun mark quote tx n q) 2) (tx q) := by
      rw [pRun_s, if_pos hf]
      refine pt_plain (by omega) (by omega) nm n10 (fun x => ?_)
      rcases hph with e | e
      · omega
      · exact e.2 hlt x.2
    refine m_take (s := pPhase (pRun mark quote tx n q) 2) hi (show pH (pRun mark quote tx n q) < 1200 by have := wf.2.2.2.2.2.2.2.2.2.2.1; omega) tb (fun w' g1 g2 => ?_)
    rw [nI_1]
    refine ih (q + 1) w' (by omega) (by omega) (hw.tr g1) (by rw [st]; exact g2) (by rw [st]; exact hf) (Or.inl (by rw [st]; rfl))
theorem m_quoted {K : Int32 → MW → Prop} {E : MW → Int32 → Prop} {mark quote : Nat} {tx : Nat → Nat} {n : Nat} {w0 : MW} {v1 : Int32} (hc : CuC mark quote tx n) (hq6 : quote < 256) (h0 : TxM w0 tx n) {p : Nat}
    (hE : ∀ q w', p ≤ q → q ≤ n → EqL w0 w' → InM w' (pRun mark quote tx n q) → pF (pRun mark quote tx n q) = 0 → pPh (pRun mark quote tx n q) = 3 → pL (pRun mark quote tx n q) = p → (q < n → tx q = quote ∧ (q + 1 < n → tx (q + 1) ≠ quote)) → E w' (nI q)) :
    ∀ m q w, n - q < m → p ≤ q → q ≤ n → EqL w0 w → InM w (pRun mark quote tx n q) → pF (pRun mark quote tx n q) = 0 → pPh (pRun mark quote tx n q) = 3 → pL (pRun mark quote tx n q) = p → P_X4_cell_34 K E v1 (nI mark) (nI quote) m w (nI q) := by
  obtain ⟨hb, hm, hq, hmq, hm10, hq10⟩ := hc
  have hn := hb.1
  intro m
  induction m with
  | zero => intro q w h; omega
  | succ m ih =>
    intro q w hlt hpq hqn hw hi hf hph hL
    have ht := h0.of hw
    rcases Nat.lt_or_ge q n with z | z
    · have tb := hb.2 q z
      have eA : tA tx n q = nI (tx q) := if_pos z
      have wf := pRun_wf (mark := mark) (quote := quote) hb q (by omega) hf
      have hH : pH (pRun mark quote tx n q) < 1200 := by have := wf.2.2.2.2.2.2.2.2.2.2.1; omega
      have c65 : (∀ w', EqL w w' → InM w' (pHold (pRun mark quote tx n q) (tx q)) → (tx q ≠ quote → P_X4_cell_34 K E v1 (nI mark) (nI quote) m w' (nI (q + 1))) ∧ (tx q = quote → P_X4_cell_34 K E v1 (nI mark) (nI quote) m w' (nI (q + 2)))) → P_X4_cell_65 K (P_X4_cell_34 K E v1 (nI mark) (nI quote) m) E w v1 (nI mark) (nI quote) (nI q) := by
        intro hh
        unfold P_X4_cell_65 P_X4_cell_92
        refine m_textAt ht hn (by omega) ?_
        rw [eA]
        refine m_take hi hH tb (fun w' g1 g2 => m_textAt (ht.of g1) hn (by omega) ?_)
        rw [eA]
        refine ⟨fun y => ?_, fun y => ?_⟩
        · rw [nI_1]; exact (hh w' g1 g2).1 (fun e => y (by rw [e]))
        · rw [show nI q + (2 : Int32) = nI (q + 2) from nI_add q 2]; exact (hh w' g1 g2).2 ((nI_eq (by omega) (by omega)).mp y)
      refine ⟨fun y => absurd y (by rw [ht.1]; exact nI_ge z (by omega)), fun _ => m_textAt ht hn (by omega) ?_⟩
      rw [eA]
      refine ⟨fun y => c65 (fun w' g1 g2 => ⟨fun nq => ?_, fun yq => absurd (by rw [yq]) y⟩), fun y => ?_⟩
      · have st : pRun mark quote tx n (q + 1) = pHold (pRun mark quote tx n q) (tx q) := by rw [pRun_s, if_pos hf]; exact pt_in hph nq
        exact ih (q + 1) w' (by omega) (by omega) (by omega) (hw.tr g1) (by rw [st]; exact g2) (by rw [st]; exact hf) (by rw [st]; exact hph) (by rw [st]; exact hL)
      · rw [nI_1]
        refine m_textAt ht hn (by omega) (p := q + 1) ?_
        have yq : tx q = quote := (nI_eq (by omega) (by omega)).mp y
        have q2 := tA_eq (q := q + 1) hb hq6
        refine ⟨fun y2 => hE q w hpq hqn hw hi hf hph hL (fun _ => ⟨yq, fun l e => y2 (q2.mpr ⟨l, e⟩)⟩), fun y2 => ?_⟩
        have y3 := q2.mp y2
        refine c65 (fun w' g1 g2 => ⟨fun nq => absurd yq nq, fun _ => ?_⟩)
        have st : pRun mark quote tx n (q + 1) = pPhase (pRun mark quote tx n q) 4 := by rw [pRun_s, if_pos hf]; exact pt_out hph yq
        have st2 : pRun mark quote tx n (q + 2) = pHold (pPhase (pPhase (pRun mark quote tx n q) 4) 3) (tx (q + 1)) := by
          rw [show q + 2 = q + 1 + 1 by omega, pRun_s, st, if_pos (show pF (pPhase (pRun mark quote tx n q) 4) = 0 from hf)]
          exact pt_twice rfl y3.2
        have e4 : tx (q + 1) = tx q := by rw [y3.2, yq]
        rw [e4] at st2
        exact ih (q + 2) w' (by omega) (by omega) (by omega) (hw.tr g1) (by rw [st2]; exact g2) (by rw [st2]; exact hf) (by rw [st2]; rfl) (by rw [st2]; exact hL)
    · have : q = n := by omega
      subst this
      exact ⟨fun _ => hE q w hpq (Nat.le_refl _) hw hi hf hph hL (fun y => absurd y (Nat.lt_irrefl _)), fun y => absurd (by rw [ht.1]; exact Int32.le_refl _) y⟩
