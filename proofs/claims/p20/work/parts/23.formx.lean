/-! FLAG, NUMBER, DAY over one cell, the class' side -/
theorem fw_rep {w : XW} {T : Tb} (h : RepX w T) (a b : Int32) : RepX (fw w a b) T := h
theorem x_yesOf {K : Nat → Prop} {f : Nat} (h1 : 1 ≤ f) (h2 : f ≤ 6) (hk : K (f + 3)) : P_X2_yesOf K (nI f) := by
  unfold P_X2_yesOf
  rcases (show f = 1 ∨ f = 2 ∨ f = 3 ∨ f = 4 ∨ f = 5 ∨ f = 6 by omega) with e | e | e | e | e | e <;> subst e <;> simp (disch := omega) [e_m1, e_lit, e_zero, e_one, le_t, le_f, lt_t, lt_f, eq_t, eq_f, in_t, cl_n, nI_1, nI_add, sub_n, m1_lt, m1_le, lt_m1, le_m1, eq_m1, m1_eq, pk_mul, hk]
theorem x_noOf {K : Nat → Prop} {f : Nat} (h1 : 1 ≤ f) (h2 : f ≤ 6) (hk : K (f + 9)) : P_X2_noOf K (nI f) := by
  unfold P_X2_noOf
  rcases (show f = 1 ∨ f = 2 ∨ f = 3 ∨ f = 4 ∨ f = 5 ∨ f = 6 by omega) with e | e | e | e | e | e <;> subst e <;> simp (disch := omega) [e_m1, e_lit, e_zero, e_one, le_t, le_f, lt_t, lt_f, eq_t, eq_f, in_t, cl_n, nI_1, nI_add, sub_n, m1_lt, m1_le, lt_m1, le_m1, eq_m1, m1_eq, pk_mul, hk]
def flagOK (form n : Nat) (f : Nat → Nat) : Bool := isW n f (form + 3) || isW n f (form + 9)
theorem bI_t {b : Bool} (h : b = true) : bI b = nI 1 := by rw [h]; rfl
theorem bI_f {b : Bool} (h : b = false) : bI b = nI 0 := by rw [h]; rfl
theorem x_tellsFlag {w : XW} {T : Tb} {K : Int32 → XW → Prop} (hT : tWF T) (h : RepX w T) {c form : Nat} (hc : c < tN T) (h1 : 1 ≤ form) (h2 : form ≤ 6) (hk : K (bI (flagOK form (tLen T c) (tb T c))) (fm_worth_s w (bI (isW (tLen T c) (tb T c) (form + 3))))) : P_X2_tellsFlag K w (nI form) (nI c) := by
  unfold P_X2_tellsFlag P_X2_tellsFlag_21
  refine x_yesOf h1 h2 ?_
  refine x_isWord hT h hc (by omega) ?_
  cases q : isW (tLen T c) (tb T c) (form + 3) with
  | true =>
    rw [flagOK, q, Bool.true_or] at hk
    have hk : K (nI 1) (fm_worth_s w (nI 1)) := hk
    refine ⟨fun z => absurd z (by decide), fun _ => ?_⟩
    simp (disch := omega) [e_m1, e_lit, e_zero, e_one, le_t, le_f, lt_t, lt_f, eq_t, eq_f, in_t, cl_n, nI_1, nI_add, sub_n, m1_lt, m1_le, lt_m1, le_m1, eq_m1, m1_eq, pk_mul, fm_1, hk]
  | false =>
    rw [flagOK, q, Bool.false_or] at hk
    refine ⟨fun _ => ?_, fun z => absurd rfl z⟩
    refine ⟨fun z => absurd z (by rw [fm_1]; decide), fun _ => ?_⟩
    refine x_noOf h1 h2 ?_
    refine x_isWord hT (show RepX (fm_worth_s w (0 : Int32)) T from h) hc (by omega) ?_
    cases q2 : isW (tLen T c) (tb T c) (form + 9) with
    | true =>
      rw [q2] at hk
      have hk : K (nI 1) (fm_worth_s w (nI 0)) := hk
      simp (disch := omega) [e_m1, e_lit, e_zero, e_one, le_t, le_f, lt_t, lt_f, eq_t, eq_f, in_t, cl_n, nI_1, nI_add, sub_n, m1_lt, m1_le, lt_m1, le_m1, eq_m1, m1_eq, pk_mul, bI, hk]
    | false =>
      rw [q2] at hk
      have hk : K (nI 0) (fm_worth_s w (nI 0)) := hk
      simp (disch := omega) [e_m1, e_lit, e_zero, e_one, le_t, le_f, lt_t, lt_f, eq_t, eq_f, in_t, cl_n, nI_1, nI_add, sub_n, m1_lt, m1_le, lt_m1, le_m1, eq_m1, m1_eq, pk_mul, bI, hk]
def decN (form : Nat) : Nat := if form < 10 then 0 else (form - 10) / 4 + 1
def ptN (form : Nat) : Nat := if form < 10 then 46 else if (form - 10) % 4 < 2 then 46 else 44
def thN (form : Nat) : Int32 := if form < 10 then (if form = 7 then m1 else if form = 8 then nI 44 else nI 46) else if (form - 10) % 4 = 1 then nI 44 else if (form - 10) % 4 = 3 then nI 46 else m1
theorem form_cases {form : Nat} (h1 : 7 ≤ form) (h2 : form ≤ 21) : form = 7 ∨ form = 8 ∨ form = 9 ∨ form = 10 ∨ form = 11 ∨ form = 12 ∨ form = 13 ∨ form = 14 ∨ form = 15 ∨ form = 16 ∨ form = 17 ∨ form = 18 ∨ form = 19 ∨ form = 20 ∨ form = 21 := by omega
theorem x_decimalsOf {K : Int32 → Prop} {form : Nat} (h1 : 7 ≤ form) (h2 : form ≤ 21) (hk : K (nI (decN form))) : P_X2_decimalsOf K (nI form) := by
  unfold P_X2_decimalsOf
  rcases form_cases h1 h2 with e | e | e | e | e | e | e | e | e | e | e | e | e | e | e <;> subst e <;>
    first | exact ⟨fun _ => hk, fun z => absurd (by decide) z⟩ | exact ⟨fun z => absurd z (by decide), fun _ => hk⟩
theorem x_pointOf {K : Int32 → Prop} {form : Nat} (h1 : 7 ≤ form) (h2 : form ≤ 21) (hk : K (nI (ptN form))) : P_X2_pointOf K (nI form) := by
  unfold P_X2_pointOf
  rcases form_cases h1 h2 with e | e | e | e | e | e | e | e | e | e | e | e | e | e | e <;> subst e <;>
    first | exact ⟨fun _ => hk, fun z => absurd (by decide) z⟩ | exact ⟨fun z => absurd z (by decide), fun _ => hk⟩
theorem x_thousandsOf {K : Int32 → Prop} {form : Nat} (h1 : 7 ≤ form) (h2 : form ≤ 21) (hk : K (thN form)) : P_X2_thousandsOf K (nI form) := by
  unfold P_X2_thousandsOf
  rcases form_cases h1 h2 with e | e | e | e | e | e | e | e | e | e | e | e | e | e | e <;> subst e <;>
    first
    | exact ⟨fun z => absurd z (by decide), fun _ => ⟨fun z => absurd rfl z, fun _ => hk⟩⟩
    | exact ⟨fun z => absurd z (by decide), fun _ => ⟨fun _ => ⟨fun z => absurd rfl z, fun _ => hk⟩, fun z => absurd z (by decide)⟩⟩
    | exact ⟨fun z => absurd z (by decide), fun _ => ⟨fun _ => ⟨fun _ => hk, fun z => absurd z (by decide)⟩, fun z => absurd z (by decide)⟩⟩
    | exact ⟨fun _ => ⟨fun z => absurd (by decide) z, fun _ => hk⟩, fun z => absurd (by decide) z⟩
    | exact ⟨fun _ => ⟨fun _ => ⟨fun z => absurd (by decide) z, fun _ => hk⟩, fun z => absurd z (by decide)⟩, fun z => absurd (by decide) z⟩
    | exact ⟨fun _ => ⟨fun _ => ⟨fun _ => hk, fun z => absurd z (by decide)⟩, fun z => absurd z (by decide)⟩, fun z => absurd (by decide) z⟩
/-- the sign that must stand at place k, e being where the whole part ends -/
def due (e k pt : Nat) (th : Int32) : Int32 := if k = e then nI pt else if k < e ∧ (e - k) % 4 = 0 then th else m1
theorem x_signDue {K : Int32 → Prop} {e k pt : Nat} {th : Int32} (he : e < 2000) (hk : k < 2000) (h : K (due e k pt th)) : P_X2_signDue K (nI e - nI k) (nI pt) th := by
  unfold P_X2_signDue
  unfold due at h
  rcases Nat.lt_trichotomy k e with q | q | q
  · rw [if_neg (by omega)] at h
    by_cases q2 : (e - k) % 4 = 0
    · rw [if_pos ⟨q, q2⟩] at h
      have q3 : e - k - (e - k) / 4 * 4 = 0 := by omega
      simp (disch := omega) [e_m1, e_lit, e_zero, e_one, le_t, le_f, lt_t, lt_f, eq_t, eq_f, in_t, cl_n, nI_1, nI_add, sub_n, m1_lt, m1_le, lt_m1, le_m1, eq_m1, m1_eq, pk_mul, div_n, q3, h]
    · rw [if_neg (fun z => q2 z.2)] at h
      have q3 : ¬ (e - k - (e - k) / 4 * 4 = 0) := by omega
      simp (disch := omega) [e_m1, e_lit, e_zero, e_one, le_t, le_f, lt_t, lt_f, eq_t, eq_f, in_t, cl_n, nI_1, nI_add, sub_n, m1_lt, m1_le, lt_m1, le_m1, eq_m1, m1_eq, pk_mul, div_n, h]
  · rw [if_pos q] at h
    subst q
    simp (disch := omega) [e_m1, e_lit, e_zero, e_one, le_t, le_f, lt_t, lt_f, eq_t, eq_f, in_t, cl_n, nI_1, nI_add, sub_n, m1_lt, m1_le, lt_m1, le_m1, eq_m1, m1_eq, pk_mul, h]
  · rw [if_neg (by omega), if_neg (fun z => by omega)] at h
    have z := pk_sneg (a := e) (b := k) (by omega) q
    have z1 : ¬ (nI e - nI k) = nI 0 := fun y => by rw [y] at z; exact absurd z (by decide)
    have z2 : (nI e - nI k) ≤ nI 0 := Int32.le_of_lt z
    have z3 : ¬ (nI e - nI k) = (0 : Int32) := z1
    have z4 : (nI e - nI k) ≤ (0 : Int32) := z2
    exact ⟨fun _ => ⟨fun _ => h, fun y => absurd z4 y⟩, fun y => absurd y z3⟩
def nStep (f : Nat → Nat) (e b pt : Nat) (th : Int32) (k : Nat) (s : Nat × Nat) : Option (Nat × Nat) :=
  if due e k pt th = m1 then (if (48 ≤ f k ∧ f k ≤ 57) ∧ s.2 ≠ 9 then some (s.1 * 10 + (f k - 48), s.2 + 1) else none)
  else if nI (f k) = due e k pt th ∧ k ≠ b then some s else none
def nRun (f : Nat → Nat) (e b pt : Nat) (th : Int32) : Nat → Nat → Nat × Nat → Option (Nat × Nat)
  | 0, _, s => some s
  | d + 1, k, s => match nStep f e b pt th k s with
    | some s' => nRun f e b pt th d (k + 1) s'
    | none => none
theorem x_number_l {w : XW} {T : Tb} {K : Int32 → XW → Prop} {E : XW → Prop} (hT : tWF T) (h : RepX w T) {c e b pt : Nat} {th v3 : Int32} (hc : c < tN T) (he : e < 2000) (hb : b < 2000) : ∀ d k v dg, k + d = tLen T c → v < 10 ^ dg → dg ≤ 9 →
    (∀ v' dg', nRun (tb T c) e b pt th d k (v, dg) = some (v', dg') → E (fw w (nI v') (nI dg'))) → (nRun (tb T c) e b pt th d k (v, dg) = none → ∀ x y, K (nI 0) (fw w x y)) →
    P_X2_tellsNumber_102 K E (nI c) v3 (nI (tLen T c)) (nI e) (nI b) (nI pt) th (d + 1) (fw w (nI v) (nI dg)) (nI k) := by
  have hl := tLen_le hT hc
  intro d
  induction d with
  | zero =>
    intro k v dg e1 hv hd h1 h2
    unfold P_X2_tellsNumber_102
    have h1 := h1 v dg rfl
    simp (disch := omega) [e_m1, e_lit, e_zero, e_one, le_t, le_f, lt_t, lt_f, eq_t, eq_f, in_t, cl_n, nI_1, nI_add, sub_n, m1_lt, m1_le, lt_m1, le_m1, eq_m1, m1_eq, pk_mul, h1]
  | succ d ih =>
    intro k v dg e1 hv hd h1 h2
    unfold P_X2_tellsNumber_102
    refine ⟨fun z => absurd z (nI_ge (by omega) (by omega)), fun _ => ?_⟩
    have b1 := tb_lt hT hc (k := k) (by omega)
    refine x_byteIn hT (fw_rep h _ _) hc (by omega) ?_
    refine x_signDue he (by omega) ?_
    unfold nRun at h1 h2
    unfold P_X2_tellsNumber_209
    by_cases q : due e k pt th = m1
    · have es : nStep (tb T c) e b pt th k (v, dg) = if (48 ≤ tb T c k ∧ tb T c k ≤ 57) ∧ dg ≠ 9 then some (v * 10 + (tb T c k - 48), dg + 1) else none := by unfold nStep; rw [if_pos q]
      rw [es] at h1 h2
      refine ⟨fun _ => ⟨fun z => ?_, fun z => ⟨fun z2 => ?_, fun z2 => ⟨fun z3 => ?_, fun z3 => ?_⟩⟩⟩, fun z => absurd q z⟩
      · have z' : ¬ 48 ≤ tb T c k := fun y => absurd z (nI_nlt (b := 48) y (by omega))
        rw [if_neg (fun y => z' y.1.1)] at h2
        exact h2 rfl _ _
      · have z' : ¬ tb T c k ≤ 57 := fun y => absurd z2 (nI_nlt (a := 57) (b := tb T c k) y (by omega))
        rw [if_neg (fun y => z' y.1.2)] at h2
        exact h2 rfl _ _
      · have d9 : dg ≠ 9 := fun y => z3 (by rw [fw_d, y]; rfl)
        have y1 : 48 ≤ tb T c k := by
          rcases Nat.lt_or_ge (tb T c k) 48 with y | y
          · exact absurd (nI_lt y (by omega)) z
          · exact y
        have y2 : tb T c k ≤ 57 := by
          rcases Nat.lt_or_ge 57 (tb T c k) with y | y
          · exact absurd (nI_lt y (by omega)) z2
          · exact y
        rw [if_pos ⟨⟨y1, y2⟩, d9⟩] at h1 h2
        have p1 : v * 10 + (tb T c k - 48) < 10 ^ (dg + 1) := by rw [Nat.pow_succ]; omega
        have p2 : (10 : Nat) ^ dg ≤ 10 ^ 8 := Nat.pow_le_pow_right (by decide) (by omega)
        have r := ih (k + 1) (v * 10 + (tb T c k - 48)) (dg + 1) (by omega) p1 (by omega) h1 h2
        have er : v * 10 + tb T c k - 48 = v * 10 + (tb T c k - 48) := by omega
        simp (disch := omega) [e_m1, e_lit, e_zero, e_one, le_t, le_f, lt_t, lt_f, eq_t, eq_f, in_t, cl_n, nI_1, nI_add, sub_n, m1_lt, m1_le, lt_m1, le_m1, eq_m1, m1_eq, pk_mul, fw_w, fw_ws, fw_d, fw_ds, er, r]
      · have d9 : dg = 9 := (nI_eq (by omega) (by decide)).mp z3
        rw [if_neg (fun y => y.2 d9)] at h2
        exact h2 rfl _ _
    · have es : nStep (tb T c) e b pt th k (v, dg) = if nI (tb T c k) = due e k pt th ∧ k ≠ b then some (v, dg) else none := by unfold nStep; rw [if_neg q]
      rw [es] at h1 h2
      refine ⟨fun z => absurd z q, fun _ => ⟨fun z => ?_, fun z => ⟨fun z2 => ?_, fun z2 => ?_⟩⟩⟩
      · rw [if_neg (fun y => z y.1)] at h2
        exact h2 rfl _ _
      · have kb : k ≠ b := fun y => z2 (by rw [y])
        rw [if_pos ⟨z, kb⟩] at h1 h2
        have r := ih (k + 1) v dg (by omega) hv hd h1 h2
        rw [e_one, nI_add]
        exact r
      · have kb : k = b := (nI_eq (by omega) (by omega)).mp z2
        rw [if_neg (fun y => y.2 kb)] at h2
        exact h2 rfl _ _
