/-! what tells a cell, what it costs, what is missing: the class' side -/
/-- FORM tells the cell (n, f), the first cell being (n0, f0); cap: NUMBERS below 9999 alone -/
def tellOK (form : Nat) (cap : Bool) (n : Nat) (f : Nat → Nat) (n0 : Nat) (f0 : Nat → Nat) : Bool :=
  if form = 0 then true else if form ≤ 6 then flagOK form n f else if form ≤ 21 then (match numR form n f with
    | some s => capOK cap (decN form) s.1 s.2.2
    | none => false) else if form ≤ 30 then (dayV form n f).isSome else codeOK n f n0 f0
/-- the value that FORM tells -/
def tellV (form n : Nat) (f : Nat → Nat) : Int32 :=
  if form = 0 then nI 0 else if form ≤ 6 then bI (isW n f (form + 3)) else if form ≤ 21 then (match numR form n f with
    | some s => sgI s.1 s.2.2
    | none => nI 0) else if form ≤ 30 then nI ((dayV form n f).getD 0) else nI 0
def tellD (form n : Nat) (f : Nat → Nat) : Nat := match numR form n f with
  | some s => s.2.1
  | none => 0
theorem vz_b (b : Bool) : vz (bI b) := by cases b <;> exact ⟨rfl, rfl⟩
theorem x_tells {w : XW} {T : Tb} {K : Int32 → XW → Prop} (hT : tWF T) (h : RepX w T) {c c0 form : Nat} {cap : Bool} (hc : c < tN T) (hc0 : c0 < tN T) (hf : fm_first w = nI c0) (hcap : fm_capped w = bI cap) (hform : form < 32)
    (hk : ∀ x y, (tellOK form cap (tLen T c) (tb T c) (tLen T c0) (tb T c0) = true → x = tellV form (tLen T c) (tb T c) ∧ (7 ≤ form → form ≤ 21 → y = nI (tellD form (tLen T c) (tb T c)))) → K (bI (tellOK form cap (tLen T c) (tb T c) (tLen T c0) (tb T c0))) (fw w x y)) : P_X2_tells K w (nI form) (nI c) := by
  unfold P_X2_tells
  unfold tellOK tellV at hk
  by_cases q0 : form = 0
  · subst q0
    refine ⟨fun z => absurd rfl z, fun _ => ?_⟩
    exact hk (nI 0) (nI 0) (fun _ => ⟨rfl, fun z => absurd z (by decide)⟩)
  · simp only [if_neg q0] at hk
    refine ⟨fun _ => ?_, fun z => absurd ((nI_eq (by omega) (by decide)).mp z) q0⟩
    by_cases q1 : form ≤ 6
    · simp only [if_pos q1] at hk
      refine ⟨fun z => absurd z (nI_nlt (a := 6) (b := form) q1 (by decide)), fun _ => ?_⟩
      refine x_tellsFlag hT (fw_rep h (nI 0) (nI 0)) hc (by omega) q1 ⟨vz_b _, ?_⟩
      exact hk _ (nI 0) (fun _ => ⟨rfl, fun z => absurd z (by omega)⟩)
    · simp only [if_neg q1] at hk
      refine ⟨fun _ => ?_, fun z => absurd (nI_lt (a := 6) (b := form) (by omega) (by omega)) z⟩
      by_cases q2 : form ≤ 21
      · simp only [if_pos q2] at hk
        refine ⟨fun z => absurd z (nI_nlt (a := 21) (b := form) q2 (by decide)), fun _ => ?_⟩
        refine x_tellsNumber hT h hc (by omega) q2 hcap (fun v dg ng e => ⟨vz_b _, ?_⟩) (fun e x y => ⟨vz_b false, ?_⟩)
        · rw [e] at hk
          exact hk _ _ (fun _ => ⟨rfl, fun _ _ => by unfold tellD; rw [e]⟩)
        · rw [e] at hk
          exact hk x y (fun z => absurd z Bool.false_ne_true)
      · simp only [if_neg q2] at hk
        refine ⟨fun _ => ?_, fun z => absurd (nI_lt (a := 21) (b := form) (by omega) (by omega)) z⟩
        by_cases q3 : form ≤ 30
        · simp only [if_pos q3] at hk
          refine ⟨fun z => absurd z (nI_nlt (a := 30) (b := form) q3 (by decide)), fun _ => ?_⟩
          refine x_tellsDay hT (fw_rep h (nI 0) (nI 0)) hc (by omega) q3 (fun v e => ⟨vz_b true, ?_⟩) (fun e => ⟨vz_b false, ?_⟩)
          · rw [e] at hk
            exact hk (nI v) (nI 0) (fun _ => ⟨rfl, fun _ z => absurd z (by omega)⟩)
          · rw [e] at hk
            exact hk (nI 0) (nI 0) (fun z => absurd z (by decide))
        · simp only [if_neg q3] at hk
          refine ⟨fun _ => ?_, fun z => absurd (nI_lt (a := 30) (b := form) (by omega) (by omega)) z⟩
          refine x_tellsCode hT (fw_rep h (nI 0) (nI 0)) hc hc0 hf ⟨vz_b _, ?_⟩
          exact hk (nI 0) (nI 0) (fun _ => ⟨rfl, fun _ z => absurd z (by omega)⟩)
def priceF (form n0 : Nat) : Nat := if form = 0 then 0 else if form ≤ 6 then 12 else if form ≤ 21 then 16 else if form ≤ 30 then 20 else 14 + 2 * n0
def priceC (form n : Nat) (f : Nat → Nat) : Nat := if form = 0 then 4 + 8 * n else if form ≤ 6 then 1 else if form ≤ 21 then 4 + 4 * tellD form n f else if form ≤ 30 then 16 else codeCost f n
theorem x_priceOfForm {w : XW} {T : Tb} {K : Int32 → Prop} (hT : tWF T) (h : RepX w T) {c0 form : Nat} (hc0 : c0 < tN T) (hf : fm_first w = nI c0) (hform : form < 32) (hk : K (nI (priceF form (tLen T c0)))) : P_X2_priceOfForm K w (nI form) := by
  have hl := tLen_le hT hc0
  unfold P_X2_priceOfForm
  unfold priceF at hk
  by_cases q0 : form = 0
  · rw [if_pos q0] at hk
    simp (disch := omega) [e_m1, e_lit, e_zero, e_one, le_t, le_f, lt_t, lt_f, eq_t, eq_f, in_t, cl_n, nI_1, nI_add, sub_n, m1_lt, m1_le, lt_m1, le_m1, eq_m1, m1_eq, pk_mul, q0, hk]
  · rw [if_neg q0] at hk
    by_cases q1 : form ≤ 6
    · rw [if_pos q1] at hk
      simp (disch := omega) [e_m1, e_lit, e_zero, e_one, le_t, le_f, lt_t, lt_f, eq_t, eq_f, in_t, cl_n, nI_1, nI_add, sub_n, m1_lt, m1_le, lt_m1, le_m1, eq_m1, m1_eq, pk_mul, hk]
    · rw [if_neg q1] at hk
      by_cases q2 : form ≤ 21
      · rw [if_pos q2] at hk
        simp (disch := omega) [e_m1, e_lit, e_zero, e_one, le_t, le_f, lt_t, lt_f, eq_t, eq_f, in_t, cl_n, nI_1, nI_add, sub_n, m1_lt, m1_le, lt_m1, le_m1, eq_m1, m1_eq, pk_mul, hk]
      · rw [if_neg q2] at hk
        by_cases q3 : form ≤ 30
        · rw [if_pos q3] at hk
          simp (disch := omega) [e_m1, e_lit, e_zero, e_one, le_t, le_f, lt_t, lt_f, eq_t, eq_f, in_t, cl_n, nI_1, nI_add, sub_n, m1_lt, m1_le, lt_m1, le_m1, eq_m1, m1_eq, pk_mul, hk]
        · rw [if_neg q3] at hk
          refine ⟨fun _ => ⟨fun _ => ⟨fun _ => ⟨fun _ => ?_, fun z => absurd (nI_lt (a := 30) (b := form) (by omega) (by omega)) z⟩, fun z => absurd (nI_lt (a := 21) (b := form) (by omega) (by omega)) z⟩, fun z => absurd (nI_lt (a := 6) (b := form) (by omega) (by omega)) z⟩, fun z => absurd ((nI_eq (by omega) (by decide)).mp z) q0⟩
          rw [hf]
          refine x_lengthOf hT h hc0 ?_
          simp (disch := omega) [e_m1, e_lit, e_zero, e_one, le_t, le_f, lt_t, lt_f, eq_t, eq_f, in_t, cl_n, nI_1, nI_add, sub_n, m1_lt, m1_le, lt_m1, le_m1, eq_m1, m1_eq, pk_mul, hk]
theorem numE_dg {form n : Nat} {f : Nat → Nat} {e b : Nat} {s : Nat × Nat × Bool} (h : numE form n f e b = some s) : s.1 < 10 ^ 9 ∧ s.2.1 ≤ 9 := by
  unfold numE at h
  split at h
  · cases h
  · split at h
    · cases h
    · split at h
      · cases h
      · rename_i s1 hr
        obtain ⟨g1, g2⟩ := nRun_lt hr (by decide) (by decide)
        split at h
        · cases h
        · cases h
          exact ⟨Nat.lt_of_lt_of_le g1 (Nat.pow_le_pow_right (by decide) g2), g2⟩
theorem numR_dg {form n : Nat} {f : Nat → Nat} {s : Nat × Nat × Bool} (h : numR form n f = some s) : s.1 < 10 ^ 9 ∧ s.2.1 ≤ 9 := by
  unfold numR at h
  by_cases q : 0 < decN form ∧ n < decN form + 1
  · rw [if_pos q] at h; cases h
  · rw [if_neg q] at h; exact numE_dg h
theorem tellD_le (form n : Nat) (f : Nat → Nat) : tellD form n f ≤ 9 := by
  unfold tellD
  split
  · rename_i s h
    exact (numR_dg h).2
  · omega
theorem x_priceOfCell {w : XW} {T : Tb} {K : Int32 → Prop} (hT : tWF T) (h : RepX w T) {c form : Nat} (hc : c < tN T) (hform : form < 32) (hd : 7 ≤ form → form ≤ 21 → fm_digits w = nI (tellD form (tLen T c) (tb T c))) (hk : K (nI (priceC form (tLen T c) (tb T c)))) : P_X2_priceOfCell K w (nI form) (nI c) := by
  have hl := tLen_le hT hc
  unfold P_X2_priceOfCell
  unfold priceC at hk
  by_cases q0 : form = 0
  · rw [if_pos q0] at hk
    refine ⟨fun z => absurd (congrArg nI q0) z, fun _ => ?_⟩
    refine x_lengthOf hT h hc ?_
    simp (disch := omega) [e_m1, e_lit, e_zero, e_one, le_t, le_f, lt_t, lt_f, eq_t, eq_f, in_t, cl_n, nI_1, nI_add, sub_n, m1_lt, m1_le, lt_m1, le_m1, eq_m1, m1_eq, pk_mul, hk]
  · rw [if_neg q0] at hk
    by_cases q1 : form ≤ 6
    · rw [if_pos q1] at hk
      simp (disch := omega) [e_m1, e_lit, e_zero, e_one, le_t, le_f, lt_t, lt_f, eq_t, eq_f, in_t, cl_n, nI_1, nI_add, sub_n, m1_lt, m1_le, lt_m1, le_m1, eq_m1, m1_eq, pk_mul, hk]
    · rw [if_neg q1] at hk
      by_cases q2 : form ≤ 21
      · rw [if_pos q2] at hk
        have e := hd (by omega) q2
        have t9 := tellD_le form (tLen T c) (tb T c)
        simp (disch := omega) [e_m1, e_lit, e_zero, e_one, le_t, le_f, lt_t, lt_f, eq_t, eq_f, in_t, cl_n, nI_1, nI_add, sub_n, m1_lt, m1_le, lt_m1, le_m1, eq_m1, m1_eq, pk_mul, e, hk]
      · rw [if_neg q2] at hk
        by_cases q3 : form ≤ 30
        · rw [if_pos q3] at hk
          simp (disch := omega) [e_m1, e_lit, e_zero, e_one, le_t, le_f, lt_t, lt_f, eq_t, eq_f, in_t, cl_n, nI_1, nI_add, sub_n, m1_lt, m1_le, lt_m1, le_m1, eq_m1, m1_eq, pk_mul, hk]
        · rw [if_neg q3] at hk
          refine ⟨fun _ => ⟨fun _ => ⟨fun _ => ⟨fun _ => x_priceOfCode hT h hc hk, fun z => absurd (nI_lt (a := 30) (b := form) (by omega) (by omega)) z⟩, fun z => absurd (nI_lt (a := 21) (b := form) (by omega) (by omega)) z⟩, fun z => absurd (nI_lt (a := 6) (b := form) (by omega) (by omega)) z⟩, fun z => absurd ((nI_eq (by omega) (by decide)).mp z) q0⟩
/-- the cell is the missing code m -/
def misB (m n : Nat) (f : Nat → Nat) : Bool := if 1 ≤ m ∧ m ≤ 4 then isW n f (m - 1) else false
theorem x_isMissing {w : XW} {T : Tb} {K : Int32 → Prop} (hT : tWF T) (h : RepX w T) {c m : Nat} (hc : c < tN T) (hm : m < 5) (hk : K (bI (misB m (tLen T c) (tb T c)))) : P_X0_isMissing K w (nI c) (nI m) := by
  unfold P_X0_isMissing
  have go : ∀ j, j < 4 → m = j + 1 → P_X1_isWord (fun r => vz r ∧ K r) w (nI c) j := fun j hj e => by
    refine x_isWord hT h hc (by omega) ⟨vz_b _, ?_⟩
    unfold misB at hk
    rw [if_pos (by omega), e, Nat.add_sub_cancel] at hk
    exact hk
  have k0 : m = 0 → K (nI 0) := fun e => by
    unfold misB at hk
    rw [if_neg (by omega)] at hk
    exact hk
  rcases (show m = 0 ∨ m = 1 ∨ m = 2 ∨ m = 3 ∨ m = 4 by omega) with e | e | e | e | e
  · have := k0 e
    subst e
    simp (disch := omega) [e_m1, e_lit, e_zero, e_one, le_t, le_f, lt_t, lt_f, eq_t, eq_f, in_t, cl_n, nI_1, nI_add, sub_n, m1_lt, m1_le, lt_m1, le_m1, eq_m1, m1_eq, pk_mul, this]
  · have := go 0 (by decide) (by omega)
    subst e
    simp (disch := omega) [e_m1, e_lit, e_zero, e_one, le_t, le_f, lt_t, lt_f, eq_t, eq_f, in_t, cl_n, nI_1, nI_add, sub_n, m1_lt, m1_le, lt_m1, le_m1, eq_m1, m1_eq, pk_mul, this]
  · have := go 1 (by decide) (by omega)
    subst e
    simp (disch := omega) [e_m1, e_lit, e_zero, e_one, le_t, le_f, lt_t, lt_f, eq_t, eq_f, in_t, cl_n, nI_1, nI_add, sub_n, m1_lt, m1_le, lt_m1, le_m1, eq_m1, m1_eq, pk_mul, this]
  · have := go 2 (by decide) (by omega)
    subst e
    simp (disch := omega) [e_m1, e_lit, e_zero, e_one, le_t, le_f, lt_t, lt_f, eq_t, eq_f, in_t, cl_n, nI_1, nI_add, sub_n, m1_lt, m1_le, lt_m1, le_m1, eq_m1, m1_eq, pk_mul, this]
  · have := go 3 (by decide) (by omega)
    subst e
    simp (disch := omega) [e_m1, e_lit, e_zero, e_one, le_t, le_f, lt_t, lt_f, eq_t, eq_f, in_t, cl_n, nI_1, nI_add, sub_n, m1_lt, m1_le, lt_m1, le_m1, eq_m1, m1_eq, pk_mul, this]
