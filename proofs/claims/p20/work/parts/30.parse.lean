/-! how a text is cut: one state a byte -/
/-- phase, rows, cells, bytes, FAULT, its place, where the cell began; where rows and cells begin, the bytes -/
abbrev Ps : Type := (Nat × Nat × Nat × Nat × Nat × Nat × Nat) × (Nat → Nat) × (Nat → Nat) × (Nat → Nat)
def pPh (s : Ps) : Nat := s.1.1
def pR (s : Ps) : Nat := s.1.2.1
def pC (s : Ps) : Nat := s.1.2.2.1
def pH (s : Ps) : Nat := s.1.2.2.2.1
def pF (s : Ps) : Nat := s.1.2.2.2.2.1
def pA (s : Ps) : Nat := s.1.2.2.2.2.2.1
def pL (s : Ps) : Nat := s.1.2.2.2.2.2.2
def pS (s : Ps) : Nat → Nat := s.2.1
def pT (s : Ps) : Nat → Nat := s.2.2.1
def pB (s : Ps) : Nat → Nat := s.2.2.2
def un {α : Type} (f : Nat → α) (k : Nat) (v : α) : Nat → α := fun j => if j = k then v else f j
theorem un_s {α : Type} {f : Nat → α} {k : Nat} {v : α} : un f k v k = v := if_pos rfl
theorem un_n {α : Type} {f : Nat → α} {k j : Nat} {v : α} (h : j ≠ k) : un f k v j = f j := if_neg h
def pPhase (s : Ps) (x : Nat) : Ps := ((x, pR s, pC s, pH s, pF s, pA s, pL s), pS s, pT s, pB s)
def pHold (s : Ps) (b : Nat) : Ps := ((pPh s, pR s, pC s, pH s + 1, pF s, pA s, pL s), pS s, pT s, un (pB s) (pH s) b)
def pFail (s : Ps) (x p : Nat) : Ps := ((pPh s, pR s, pC s, pH s, x, p, pL s), pS s, pT s, pB s)
def pCell (s : Ps) (p : Nat) : Ps := ((1, pR s, pC s + 1, pH s, pF s, pA s, p), pS s, un (pT s) (pC s) (pH s), pB s)
def pRow (s : Ps) (p : Nat) : Ps := ((1, pR s + 1, pC s + 1, pH s, pF s, pA s, p), un (pS s) (pR s) (pC s), un (pT s) (pC s) (pH s), pB s)
def pOpenC (s : Ps) (p : Nat) : Ps := if 12 ≤ pC s - pS s (pR s - 1) then pFail s 3 p else pCell s p
def pOpenR (s : Ps) (p : Nat) : Ps := if 80 ≤ pR s then pFail s 3 p else pRow s p
/-- one byte more; quote 256: there are no QUOTES -/
def pTake (mark quote : Nat) (s : Ps) (b p : Nat) (last : Bool) : Ps :=
  if pPh s = 3 then (if b = quote then pPhase s 4 else pHold s b)
  else if pPh s = 4 ∧ b = quote then pHold (pPhase s 3) b
  else if b = mark then pOpenC s (p + 1)
  else if b = 10 then (if last then pPhase s 0 else pOpenR (pPhase s 0) (p + 1))
  else if pPh s = 4 then pFail s 2 p
  else if pPh s = 1 ∧ b = quote then pPhase s 3
  else pHold (pPhase s 2) b
def qI (quote : Nat) : Int32 := if quote = 256 then m1 else nI quote
/-- the class' Cut holds the state -/
def RepP (w : XW) (mark quote : Nat) (s : Ps) : Prop :=
  cu_phase w = nI (pPh s) ∧ cu_rows w = nI (pR s) ∧ cu_cells w = nI (pC s) ∧ cu_heldSize w = nI (pH s) ∧ cu_fault w = nI (pF s) ∧ cu_faultSpot w = (if pF s = 0 then m1 else nI (pA s)) ∧ (0 < pC s → cu_cellSpot w = nI (pL s)) ∧
  (∀ r, r < pR s → cu_rowStart w r = nI (pS s r)) ∧ (∀ c, c < pC s → cu_cellStart w c = nI (pT s c)) ∧ (∀ i, i < pH s → cu_held w i = nI (pB s i)) ∧ cu_mark w = nI mark ∧ cu_quote w = qI quote
/-- what holds of the state after q bytes, no FAULT being found -/
def pWF (s : Ps) (q : Nat) : Prop :=
  pPh s ≤ 4 ∧ 1 ≤ pR s ∧ pR s ≤ 80 ∧ pS s 0 = 0 ∧ (∀ r, r + 1 < pR s → pS s r < pS s (r + 1) ∧ pS s (r + 1) ≤ pS s r + 12) ∧ pS s (pR s - 1) < pC s ∧ pC s ≤ pS s (pR s - 1) + 12 ∧
  pT s 0 = 0 ∧ (∀ c, c + 1 < pC s → pT s c ≤ pT s (c + 1)) ∧ pT s (pC s - 1) ≤ pH s ∧ pH s ≤ q ∧ (∀ i, i < pH s → pB s i < 256) ∧ pL s ≤ q
theorem pS_up {s : Ps} {q : Nat} (h : pWF s q) : ∀ r, r < pR s → pS s r ≤ 12 * r := by
  intro r
  induction r with
  | zero => intro _; rw [h.2.2.2.1]; omega
  | succ r ih => intro hr; have := ih (by omega); have := (h.2.2.2.2.1 r hr).2; omega
theorem pC_up {s : Ps} {q : Nat} (h : pWF s q) : pC s ≤ 12 * pR s := by
  have := pS_up h (pR s - 1) (by have := h.2.1; omega)
  have := h.2.2.2.2.2.2.1
  have := h.2.1
  omega
/-- the parts of the world that a cut leaves alone -/
def EqU (w w' : XW) : Prop := w'.1 = w.1 ∧ w'.2.2 = w.2.2 ∧ cu_headed w' = cu_headed w
theorem EqU.rf (w : XW) : EqU w w := ⟨rfl, rfl, rfl⟩
theorem EqU.tr {a b c : XW} (h1 : EqU a b) (h2 : EqU b c) : EqU a c := ⟨h2.1.trans h1.1, h2.2.1.trans h1.2.1, h2.2.2.trans h1.2.2⟩
theorem x_hold {w : XW} {K : XW → Prop} {mark quote b : Nat} {s : Ps} (h : RepP w mark quote s) (hH : pH s < 1200) (hk : ∀ w', EqU w w' → RepP w' mark quote (pHold s b) → K w') : P_X1_hold K w (nI b) := by
  obtain ⟨h1, h2, h3, h4, h5, h6, h7, h8, h9, h10, h11, h12⟩ := h
  unfold P_X1_hold
  rw [h4]
  refine ⟨fun z => absurd z (nI_ge (a := pH s) (b := 1200) hH (by decide)), fun _ => ⟨vp_in_nI hH (by decide), ?_⟩⟩
  rw [nI_clamp (by omega)]
  refine hk _ ⟨rfl, rfl, rfl⟩ ⟨h1, h2, h3, ?_, h5, h6, h7, h8, h9, fun i hi => ?_, h11, h12⟩
  · show cu_heldSize w + 1 = _
    rw [h4, e_one, nI_add]
    rfl
  · show upd (cu_held w) (pH s) (nI b) i = nI (un (pB s) (pH s) b i)
    have hi : i < pH s + 1 := hi
    by_cases q : i = pH s
    · subst q; rw [pk_us, un_s]
    · rw [pk_un q, un_n q]; exact h10 i (by omega)
theorem x_cell94 {w : XW} {K : XW → Prop} {mark quote p : Nat} {s : Ps} (h : RepP w mark quote s) (hC : pC s < 961) (hk : ∀ w', EqU w w' → RepP w' mark quote (pCell s p) → K w') : P_X1_openCell_94 K w (nI p) := by
  obtain ⟨h1, h2, h3, h4, h5, h6, h7, h8, h9, h10, h11, h12⟩ := h
  unfold P_X1_openCell_94
  rw [h3]
  refine ⟨vp_in_nI hC (by decide), ?_⟩
  rw [nI_clamp (by omega)]
  refine hk _ ⟨rfl, rfl, rfl⟩ ⟨rfl, h2, ?_, h4, h5, h6, fun _ => rfl, h8, fun c hc => ?_, h10, h11, h12⟩
  · show cu_cells w + 1 = _
    rw [h3, e_one, nI_add]
    rfl
  · show upd (cu_cellStart w) (pC s) (cu_heldSize w) c = nI (un (pT s) (pC s) (pH s) c)
    have hc : c < pC s + 1 := hc
    by_cases q : c = pC s
    · subst q; rw [pk_us, un_s]; exact h4
    · rw [pk_un q, un_n q]; exact h9 c (by omega)
theorem x_fail {w : XW} {K : XW → Prop} {mark quote x p : Nat} {s : Ps} (h : RepP w mark quote s) (hx : x ≠ 0) (hk : ∀ w', EqU w w' → RepP w' mark quote (pFail s x p) → K w') : P_X1_fail K w (nI x) (nI p) := by
  obtain ⟨h1, h2, h3, h4, h5, h6, h7, h8, h9, h10, h11, h12⟩ := h
  unfold P_X1_fail
  refine hk _ ⟨rfl, rfl, rfl⟩ ⟨h1, h2, h3, h4, rfl, ?_, h7, h8, h9, h10, h11, h12⟩
  show nI p = if x = 0 then m1 else nI p
  rw [if_neg hx]
theorem x_openC {w : XW} {K : XW → Prop} {mark quote p q : Nat} {s : Ps} (h : RepP w mark quote s) (hs : pWF s q) (hk : ∀ w', EqU w w' → RepP w' mark quote (pOpenC s p) → K w') : P_X1_openCell K w (nI p) 0 := by
  have hCu := pC_up hs
  have hR := hs.2.2.1
  have hR1 := hs.2.1
  have g1 := hs.2.2.2.2.2.1
  have g2 := hs.2.2.2.2.2.2.1
  have h2 := h.2.1
  have h3 := h.2.2.1
  have h8 := h.2.2.2.2.2.2.2.1 (pR s - 1) (by omega)
  unfold P_X1_openCell P_X1_openCell_50 P_X1_openCell_55
  refine ⟨fun _ => ⟨fun z => absurd z (by rw [h2]; exact nI_nlt (b := 1) hR1 (by omega)), fun _ => ?_⟩, fun z => absurd rfl z⟩
  rw [h2, h3, e_one, sub_n (b := 1) hR1]
  refine ⟨vp_in_nI (by omega) (by decide), ?_⟩
  rw [nI_clamp (by omega), h8, sub_n (by omega)]
  unfold pOpenC at hk
  by_cases z : 12 ≤ pC s - pS s (pR s - 1)
  · rw [if_pos z] at hk
    exact ⟨fun y => absurd y (nI_nlt (b := 12) z (by omega)), fun _ => ⟨fun y => absurd y (by decide), fun _ => x_fail h (x := 3) (by decide) hk⟩⟩
  · rw [if_neg z] at hk
    exact ⟨fun _ => ⟨fun _ => ⟨fun _ => x_cell94 h (by omega) hk, fun y => absurd rfl y⟩, fun y => absurd rfl y⟩, fun y => absurd (nI_lt (b := 12) (by omega) (by decide)) y⟩
theorem x_openR {w : XW} {K : XW → Prop} {mark quote p : Nat} {s : Ps} (h : RepP w mark quote s) (hR : pR s ≤ 80) (hC : pC s ≤ 960) (hk : ∀ w', EqU w w' → RepP w' mark quote (pOpenR s p) → K w') : P_X1_openCell K w (nI p) 1 := by
  have h2 := h.2.1
  have h3 := h.2.2.1
  unfold P_X1_openCell P_X1_openCell_55
  refine ⟨fun z => absurd z (by decide), fun _ => ?_⟩
  rw [h2]
  unfold pOpenR at hk
  by_cases z : 80 ≤ pR s
  · rw [if_pos z] at hk
    exact ⟨fun y => absurd y (nI_nlt (b := 80) z (by omega)), fun _ => ⟨fun y => absurd y (by decide), fun _ => x_fail h (x := 3) (by decide) hk⟩⟩
  · rw [if_neg z] at hk
    refine ⟨fun _ => ⟨fun _ => ⟨fun y => absurd y (by decide), fun _ => ⟨vp_in_nI (by omega) (by decide), ?_⟩⟩, fun y => absurd rfl y⟩, fun y => absurd (nI_lt (b := 80) (by omega) (by decide)) y⟩
    rw [nI_clamp (by omega)]
    obtain ⟨k1, k2, k3, k4, k5, k6, k7, k8, k9, k10, k11, k12⟩ := h
    refine x_cell94 (s := ((pPh s, pR s + 1, pC s, pH s, pF s, pA s, pL s), un (pS s) (pR s) (pC s), pT s, pB s)) ⟨k1, ?_, k3, k4, k5, k6, k7, fun r hr => ?_, k9, k10, k11, k12⟩ (show pC s < 961 by omega) (fun w' g1 g2 => hk w' g1 g2)
    · show cu_rows w + 1 = _
      rw [k2, e_one, nI_add]; rfl
    · show upd (cu_rowStart w) (pR s) (cu_cells w) r = nI (un (pS s) (pR s) (pC s) r)
      have hr : r < pR s + 1 := hr
      by_cases y : r = pR s
      · subst y; rw [pk_us, un_s]; exact k3
      · rw [pk_un y, un_n y]; exact k8 r (by omega)
theorem RepP.phase {w : XW} {mark quote : Nat} {s : Ps} (h : RepP w mark quote s) (x : Nat) : RepP (cu_phase_s w (nI x)) mark quote (pPhase s x) := by
  obtain ⟨h1, h2, h3, h4, h5, h6, h7, h8, h9, h10, h11, h12⟩ := h
  exact ⟨rfl, h2, h3, h4, h5, h6, h7, h8, h9, h10, h11, h12⟩
theorem q_eq {b quote : Nat} (hb : b < 256) (hq : quote ≤ 256) : (nI b = qI quote) ↔ b = quote := by
  unfold qI
  split
  · rename_i e
    rw [eq_m1 (by omega)]
    exact ⟨fun z => z.elim, fun z => by omega⟩
  · exact nI_eq (by omega) (by omega)
theorem pWF.phase {s : Ps} {q x : Nat} (h : pWF s q) (hx : x ≤ 4) : pWF (pPhase s x) q := ⟨hx, h.2⟩
theorem x_take {w : XW} {K : XW → Prop} {mark quote b p : Nat} {last : Bool} {s : Ps} (h : RepP w mark quote s) (hs : pWF s p) (hp : p < 1200) (hb : b < 256) (hm : mark < 256) (hq : quote ≤ 256) (hk : ∀ w', EqU w w' → RepP w' mark quote (pTake mark quote s b p last) → K w') : P_X1_take K w (nI b) (nI p) (bI last) := by
  have hCu := pC_up hs
  have hH : pH s < 1200 := by have := hs.2.2.2.2.2.2.2.2.2.2.1; omega
  have h1 := h.1
  have h11 := h.2.2.2.2.2.2.2.2.2.2.1
  have h12 := h.2.2.2.2.2.2.2.2.2.2.2
  have p4 := hs.1
  have pe : ∀ x : Nat, x < 5 → ((cu_phase w = nI x) ↔ pPh s = x) := fun x hx => by rw [h1]; exact nI_eq (by omega) (by omega)
  have pe1 : (cu_phase w = (1 : Int32)) ↔ pPh s = 1 := pe 1 (by decide)
  have pe3 : (cu_phase w = (3 : Int32)) ↔ pPh s = 3 := pe 3 (by decide)
  have pe4 : (cu_phase w = (4 : Int32)) ↔ pPh s = 4 := pe 4 (by decide)
  have qe : (nI b = cu_quote w) ↔ b = quote := by rw [h12]; exact q_eq hb hq
  have me : (nI b = cu_mark w) ↔ b = mark := by rw [h11]; exact nI_eq (by omega) (by omega)
  have ne : (nI b = (10 : Int32)) ↔ b = 10 := nI_eq (b := 10) (by omega) (by decide)
  have e1 : nI p + (1 : Int32) = nI (p + 1) := by rw [e_one, nI_add]
  have ph : ∀ x : Nat, EqU w (cu_phase_s w (nI x)) := fun x => ⟨rfl, rfl, rfl⟩
  unfold pTake at hk
  have t147 : pPh s ≠ 3 → ¬ (pPh s = 4 ∧ b = quote) → b ≠ mark → b ≠ 10 → pPh s ≠ 4 → ¬ (pPh s = 1 ∧ b = quote) → P_X1_take_147 K w (nI b) := by
    intro n3 n4 nm n10 n4' n1
    rw [if_neg n3, if_neg n4, if_neg nm, if_neg n10, if_neg n4', if_neg n1] at hk
    unfold P_X1_take_147
    exact x_hold (h.phase 2) hH (fun w' g1 g2 => hk w' ((ph 2).tr g1) g2)
  have t61 : pPh s ≠ 3 → ¬ (pPh s = 4 ∧ b = quote) → P_X1_take_61 K w (nI b) (nI p) (bI last) := by
    intro n3 n4
    unfold P_X1_take_61
    rw [me, ne, pe1, pe4, qe]
    refine ⟨fun nm => ⟨fun n10 => ⟨fun n4' => ⟨fun n1 => t147 n3 n4 nm n10 n4' (fun z => n1 z.1), fun y1 => ⟨fun nq => t147 n3 n4 nm n10 n4' (fun z => nq z.2), fun yq => ?_⟩⟩, fun y4 => ?_⟩, fun y10 => ⟨fun yl => ?_, fun nl => ?_⟩⟩, fun ym => ?_⟩
    · rw [if_neg n3, if_neg n4, if_neg nm, if_neg n10, if_neg n4', if_pos ⟨y1, yq⟩] at hk
      exact hk _ (ph 3) (h.phase 3)
    · rw [if_neg n3, if_neg n4, if_neg nm, if_neg n10, if_pos y4] at hk
      exact x_fail h (x := 2) (by decide) hk
    · have yl : last = true := by cases last; exact absurd rfl yl; rfl
      rw [if_neg n3, if_neg n4, if_neg nm, if_pos y10, if_pos yl] at hk
      exact hk _ (ph 0) (h.phase 0)
    · have nl : last = false := by cases last; rfl; exact absurd nl (by decide)
      rw [if_neg n3, if_neg n4, if_neg nm, if_pos y10, if_neg (by rw [nl]; decide)] at hk
      rw [e1]
      exact x_openR (h.phase 0) hs.2.2.1 (show pC s ≤ 960 by have := hs.2.2.1; omega) (fun w' g1 g2 => hk w' ((ph 0).tr g1) g2)
    · rw [if_neg n3, if_neg n4, if_pos ym] at hk
      rw [e1]
      exact x_openC h hs hk
  unfold P_X1_take
  rw [pe3, pe4, qe]
  refine ⟨fun n3 => ⟨fun n4 => t61 n3 (fun z => n4 z.1), fun y4 => ⟨fun nq => t61 n3 (fun z => nq z.2), fun yq => ?_⟩⟩, fun y3 => ⟨fun nq => ?_, fun yq => ?_⟩⟩
  · rw [if_neg n3, if_pos ⟨y4, yq⟩] at hk
    exact x_hold (h.phase 3) hH (fun w' g1 g2 => hk w' ((ph 3).tr g1) g2)
  · rw [if_pos y3, if_neg nq] at hk
    exact x_hold h hH hk
  · rw [if_pos y3, if_pos yq] at hk
    exact hk _ (ph 4) (h.phase 4)
