/-! surveys and prices of a COLUMN, the class' side -/
/-- w' is w but for what is scribbled while a COLUMN is looked over -/
def Eq3 (w w' : XW) : Prop := w'.1 = w.1 ∧ w'.2.1 = w.2.1 ∧ cs_formOf w' = cs_formOf w ∧ cs_codeOf w' = cs_codeOf w ∧ cs_priceOf w' = cs_priceOf w ∧ cs_fitting w' = cs_fitting w ∧ cs_cheapest w' = cs_cheapest w
theorem Eq3.rf (w : XW) : Eq3 w w := ⟨rfl, rfl, rfl, rfl, rfl, rfl, rfl⟩
theorem Eq3.tr {a b c : XW} (h1 : Eq3 a b) (h2 : Eq3 b c) : Eq3 a c := ⟨h2.1.trans h1.1, h2.2.1.trans h1.2.1, h2.2.2.1.trans h1.2.2.1, h2.2.2.2.1.trans h1.2.2.2.1, h2.2.2.2.2.1.trans h1.2.2.2.2.1, h2.2.2.2.2.2.1.trans h1.2.2.2.2.2.1, h2.2.2.2.2.2.2.trans h1.2.2.2.2.2.2⟩
theorem rep_of {w w' : XW} {T : Tb} (e : w'.2.1 = w.2.1) (h : RepX w T) : RepX w' T := by
  unfold RepX cu_rows cu_cells cu_rowStart cu_cellStart cu_held at *
  rw [e]
  exact h
theorem hd_of {w w' : XW} {b : Int32} (e : w'.2.1 = w.2.1) (h : cu_headed w = b) : cu_headed w' = b := by
  unfold cu_headed at *
  rw [e]
  exact h
theorem fw_eq3 (w : XW) (a b : Int32) : Eq3 w (fw w a b) := ⟨rfl, rfl, rfl, rfl, rfl, rfl, rfl⟩
def cel (T : Tb) (col r : Nat) : Nat := tS T r + col
theorem plain_i {T : Tb} {hd : Bool} {r : Nat} (hT : tWF T) (h : tPlain T hd r = true) : r < tR T ∧ tCells T r = tW T := by
  unfold tPlain tOdd at h
  simp at h
  have hr := h.1.2
  refine ⟨hr, ?_⟩
  unfold tW
  rw [if_pos (by omega)]
  rcases Nat.eq_zero_or_pos r with e | e
  · subst e
    unfold tCells
    rw [hT.2.1]
    rfl
  · rcases h.2 with z | z | z
    · omega
    · omega
    · exact z
theorem cel_lt {T : Tb} {hd : Bool} {r col : Nat} (hT : tWF T) (h : tPlain T hd r = true) (hc : col < tW T) : cel T col r < tN T := by
  obtain ⟨h1, h2⟩ := plain_i hT h
  have g := hT.2.2.1 r h1
  have g2 := tS_le hT (r := r + 1) (s := tR T) (by omega) (Nat.le_refl _)
  unfold tCells at h2
  unfold cel tN
  omega
def mis (T : Tb) (col m r : Nat) : Bool := misB m (tLen T (cel T col r)) (tb T (cel T col r))
/-- how many of the first k rows' cells are MISSING -/
def cntM (T : Tb) (hd : Bool) (col m : Nat) : Nat → Nat
  | 0 => 0
  | k + 1 => cntM T hd col m k + (if tPlain T hd k && mis T col m k then 1 else 0)
/-- the first cell among the first k rows that isn't MISSING -/
def fstP (T : Tb) (hd : Bool) (col m : Nat) : Nat → Option Nat
  | 0 => none
  | k + 1 => match fstP T hd col m k with
    | some c => some c
    | none => if tPlain T hd k && !mis T col m k then some (cel T col k) else none
theorem cntM_s (T : Tb) (hd : Bool) (col m k : Nat) : cntM T hd col m (k + 1) = cntM T hd col m k + (if tPlain T hd k && mis T col m k then 1 else 0) := rfl
theorem fstP_s (T : Tb) (hd : Bool) (col m k : Nat) : fstP T hd col m (k + 1) = match fstP T hd col m k with
    | some c => some c
    | none => if tPlain T hd k && !mis T col m k then some (cel T col k) else none := rfl
theorem cntM_le (T : Tb) (hd : Bool) (col m : Nat) : ∀ k, cntM T hd col m k ≤ k := by
  intro k
  induction k with
  | zero => exact Nat.le_refl _
  | succ k ih => rw [cntM_s]; split <;> omega
theorem fstP_lt {T : Tb} {hd : Bool} {col m : Nat} (hT : tWF T) (hc : col < tW T) : ∀ {k c : Nat}, fstP T hd col m k = some c → c < tN T := by
  intro k
  induction k with
  | zero => intro c h; cases h
  | succ k ih =>
    intro c h
    rw [fstP_s] at h
    cases q : fstP T hd col m k with
    | some c' => rw [q] at h; cases h; exact ih q
    | none =>
      rw [q] at h
      simp only at h
      split at h
      · rename_i z
        cases h
        rw [Bool.and_eq_true] at z
        exact cel_lt hT z.1 hc
      · cases h
theorem tN_31 {T : Tb} (hT : tWF T) : tN T < 2 ^ 31 := Nat.lt_of_le_of_lt (tN_le hT) (by decide)
theorem x_survey_l {w0 : XW} {T : Tb} {K E : XW → Prop} {hd : Bool} (hT : tWF T) (h0 : RepX w0 T) (hh : cu_headed w0 = bI hd) {col m : Nat} (hc : col < tW T) (hm : m < 5)
    (hE : ∀ w, Eq3 w0 w → cs_surveyedMissing w = nI (cntM T hd col m (tR T)) → cs_firstPresent w = oI (fstP T hd col m (tR T)) → E w) :
    ∀ d k w, k + d = tR T → Eq3 w0 w → cs_surveyedMissing w = nI (cntM T hd col m k) → cs_firstPresent w = oI (fstP T hd col m k) → P_X0_survey_12 K E (nI col) (nI m) (d + 1) w (nI k) := by
  have hR := hT.1
  have hN := tN_le hT
  have hW : tW T ≤ 12 := by
    unfold tW
    split
    · have := tS_up hT 1 (by omega); omega
    · omega
  intro d
  induction d with
  | zero =>
    intro k w e he h1 h2
    unfold P_X0_survey_12
    have hr := (rep_of he.2.1 h0).1
    rw [show k = tR T by omega] at h1 h2 ⊢
    have := hE w he h1 h2
    simp (disch := omega) [e_m1, e_lit, e_zero, e_one, le_t, le_f, lt_t, lt_f, eq_t, eq_f, in_t, cl_n, nI_1, nI_add, sub_n, m1_lt, m1_le, lt_m1, le_m1, eq_m1, m1_eq, pk_mul, hr, this]
  | succ d ih =>
    intro k w e he h1 h2
    unfold P_X0_survey_12 P_X0_survey_82
    have hr := rep_of he.2.1 h0
    have hhd := hd_of he.2.1 hh
    have hkr : k < tR T := by omega
    refine ⟨fun z => absurd z (by rw [hr.1]; exact nI_ge hkr (by omega)), fun _ => x_isInColumns hT hr hhd hkr ?_⟩
    rw [e_one, nI_add]
    have cl := cntM_le T hd col m k
    cases q : tPlain T hd k with
    | false =>
      refine ⟨fun _ => ih (k + 1) w (by omega) he ?_ ?_, fun z => absurd rfl z⟩
      · rw [h1, cntM_s, q]; rfl
      · rw [h2, fstP_s, q]; cases fstP T hd col m k <;> rfl
    | true =>
      refine ⟨fun z => absurd z (by decide), fun _ => ?_⟩
      obtain ⟨p1, p2⟩ := plain_i hT q
      refine x_cellIn hT hr hkr (by omega) ?_
      have hcl := cel_lt hT q hc
      refine x_isMissing hT hr hcl hm ?_
      show ((bI (mis T col m k)) = 0 → _) ∧ _
      cases q2 : mis T col m k with
      | true =>
        refine ⟨fun z => absurd z (by decide), fun _ => ih (k + 1) _ (by omega) (he.tr ⟨rfl, rfl, rfl, rfl, rfl, rfl, rfl⟩) ?_ ?_⟩
        · show cs_surveyedMissing w + 1 = _
          rw [h1, e_one, nI_add, cntM_s, q, q2]; rfl
        · show cs_firstPresent w = _
          rw [h2, fstP_s, q, q2]; cases fstP T hd col m k <;> rfl
      | false =>
        refine ⟨fun _ => ?_, fun z => absurd (show bI (mis T col m k) = 0 by rw [q2]; rfl) z⟩
        cases q3 : fstP T hd col m k with
        | some c =>
          have c1 := fstP_lt hT hc q3
          rw [q3] at h2
          refine ⟨fun _ => ih (k + 1) w (by omega) he ?_ ?_, fun z => absurd z (by rw [h2]; exact fun y => by have y : nI c = m1 := y; rw [eq_m1 (by omega)] at y; exact y)⟩
          · rw [h1, cntM_s, q, q2]; rfl
          · rw [h2, fstP_s, q3]
        | none =>
          rw [q3] at h2
          refine ⟨fun z => absurd h2 z, fun _ => ih (k + 1) _ (by omega) (he.tr ⟨rfl, rfl, rfl, rfl, rfl, rfl, rfl⟩) ?_ ?_⟩
          · show cs_surveyedMissing w = _
            rw [h1, cntM_s, q, q2]; rfl
          · rw [fstP_s, q3, q, q2]; rfl
/-- what a survey leaves -/
def Surv (T : Tb) (hd : Bool) (col m : Nat) (w : XW) : Prop := cs_surveyedMissing w = nI (cntM T hd col m (tR T)) ∧ cs_firstPresent w = oI (fstP T hd col m (tR T)) ∧ fm_first w = oI (fstP T hd col m (tR T)) ∧ fm_capped w = bI (decide (m = 4))
theorem x_survey {w : XW} {T : Tb} {K : XW → Prop} {hd : Bool} (hT : tWF T) (h : RepX w T) (hh : cu_headed w = bI hd) {col m : Nat} (hc : col < tW T) (hm : m < 5)
    (hk : ∀ w', Eq3 w w' → Surv T hd col m w' → K w') : P_X0_survey K w (nI col) (nI m) := by
  unfold P_X0_survey
  refine ⟨tR T + 1, x_survey_l (w0 := w) hT h hh hc hm (fun w1 he h1 h2 => ?_) (tR T) 0 _ (by omega) ⟨rfl, rfl, rfl, rfl, rfl, rfl, rfl⟩ rfl rfl⟩
  unfold P_X0_survey_106 P_X2_prepare
  by_cases q : m = 4
  · refine ⟨fun z => absurd (congrArg nI q) z, fun _ => ⟨vz_1, hk _ (he.tr ⟨rfl, rfl, rfl, rfl, rfl, rfl, rfl⟩) ⟨h1, h2, h2, ?_⟩⟩⟩
    rw [decide_eq_true q]
    rfl
  · refine ⟨fun _ => ⟨vz_0, hk _ (he.tr ⟨rfl, rfl, rfl, rfl, rfl, rfl, rfl⟩) ⟨h1, h2, h2, ?_⟩⟩, fun z => absurd ((nI_eq (by omega) (by decide)).mp z) q⟩
    rw [decide_eq_false q]
    rfl
def tellR (T : Tb) (col form m c0 r : Nat) : Bool := tellOK form (decide (m = 4)) (tLen T (cel T col r)) (tb T (cel T col r)) (tLen T c0) (tb T c0)
/-- the COST of the first k rows' cells -/
def sumC (T : Tb) (hd : Bool) (col form m c0 : Nat) : Nat → Option Nat
  | 0 => some 0
  | k + 1 => match sumC T hd col form m c0 k with
    | none => none
    | some s => if tPlain T hd k then (if mis T col m k then some (s + 2) else if tellR T col form m c0 k then some (s + priceC form (tLen T (cel T col k)) (tb T (cel T col k))) else none) else some s
theorem sumC_s (T : Tb) (hd : Bool) (col form m c0 k : Nat) : sumC T hd col form m c0 (k + 1) = match sumC T hd col form m c0 k with
    | none => none
    | some s => if tPlain T hd k then (if mis T col m k then some (s + 2) else if tellR T col form m c0 k then some (s + priceC form (tLen T (cel T col k)) (tb T (cel T col k))) else none) else some s := rfl
theorem sumC_none {T : Tb} {hd : Bool} {col form m c0 k : Nat} (h : sumC T hd col form m c0 k = none) : ∀ d, sumC T hd col form m c0 (k + d) = none := by
  intro d
  induction d with
  | zero => exact h
  | succ d ih => show sumC T hd col form m c0 (k + d + 1) = none; rw [sumC_s, ih]
theorem priceC_le (form : Nat) {n : Nat} (f : Nat → Nat) (hn : n ≤ 1200) : priceC form n f ≤ 9700 := by
  unfold priceC
  have := tellD_le form n f
  have := codeCost_le f n
  (repeat' split) <;> omega
theorem sumC_le {T : Tb} {hd : Bool} {col form m c0 : Nat} (hT : tWF T) (hc : col < tW T) : ∀ {k s : Nat}, sumC T hd col form m c0 k = some s → s ≤ 9700 * k := by
  intro k
  induction k with
  | zero => intro s h; cases h; exact Nat.le_refl _
  | succ k ih =>
    intro s h
    rw [sumC_s] at h
    cases q : sumC T hd col form m c0 k with
    | none => rw [q] at h; cases h
    | some s' =>
      rw [q] at h
      have := ih q
      simp only at h
      split at h
      · rename_i z
        have hl := tLen_le hT (cel_lt hT z hc)
        have pc := priceC_le form (tb T (cel T col k)) hl
        split at h
        · cases h; omega
        · split at h
          · cases h; omega
          · cases h
      · cases h; omega
theorem x_price_l {w0 : XW} {T : Tb} {K : Int32 → XW → Prop} {hd : Bool} (hT : tWF T) (h0 : RepX w0 T) (hh : cu_headed w0 = bI hd) {col m form c0 base : Nat} (hc : col < tW T) (hm : m < 5) (hform : form < 32) (hc0 : c0 < tN T) (hf : fm_first w0 = nI c0) (hcap : fm_capped w0 = bI (decide (m = 4))) (hbase : base ≤ 100000)
    (hk : ∀ a b, K (oI ((sumC T hd col form m c0 (tR T)).map (· + base))) (fw w0 a b)) :
    ∀ d k s a b, k + d = tR T → sumC T hd col form m c0 k = some s → P_X0_price_63 K (nI col) (nI form) (nI m) (d + 1) (fw w0 a b) (nI (s + base)) (nI k) := by
  have hR := hT.1
  have hN := tN_le hT
  intro d
  induction d with
  | zero =>
    intro k s a b e hs
    unfold P_X0_price_63
    have hr := (fw_rep h0 a b).1
    have hk := hk a b
    rw [show tR T = k by omega, hs] at hk
    have hk : K (nI (s + base)) (fw w0 a b) := hk
    rw [show k = tR T by omega]
    simp (disch := omega) [e_m1, e_lit, e_zero, e_one, le_t, le_f, lt_t, lt_f, eq_t, eq_f, in_t, cl_n, nI_1, nI_add, sub_n, m1_lt, m1_le, lt_m1, le_m1, eq_m1, m1_eq, pk_mul, hr, hk]
  | succ d ih =>
    intro k s a b e hs
    unfold P_X0_price_63 P_X0_price_148
    have hr := fw_rep h0 a b
    have hkr : k < tR T := by omega
    have sl := sumC_le hT hc hs
    refine ⟨fun z => absurd z (by rw [hr.1]; exact nI_ge hkr (by omega)), fun _ => x_isInColumns hT hr hh hkr ?_⟩
    rw [e_one, nI_add]
    cases q : tPlain T hd k with
    | false =>
      refine ⟨fun _ => ih (k + 1) s a b (by omega) ?_, fun z => absurd rfl z⟩
      rw [sumC_s, hs, q]; rfl
    | true =>
      refine ⟨fun z => absurd z (by decide), fun _ => ?_⟩
      obtain ⟨p1, p2⟩ := plain_i hT q
      refine x_cellIn hT hr hkr (by omega) ?_
      have hcl := cel_lt hT q hc
      refine x_isMissing hT hr hcl hm ?_
      show ((bI (mis T col m k)) = 0 → _) ∧ _
      have hl := tLen_le hT hcl
      have pc := priceC_le form (tb T (cel T col k)) hl
      cases q2 : mis T col m k with
      | true =>
        refine ⟨fun z => absurd z (by decide), fun _ => ?_⟩
        have r := ih (k + 1) (s + 2) a b (by omega) (by rw [sumC_s, hs, q, q2]; rfl)
        have e2 : nI (s + base) + (2 : Int32) = nI (s + 2 + base) := by rw [e_lit 2, nI_add]; congr 1; omega
        rw [e2]
        exact r
      | false =>
        refine ⟨fun _ => ?_, fun z => absurd (show bI (mis T col m k) = 0 by rw [q2]; rfl) z⟩
        refine x_tells hT hr hcl hc0 hf hcap hform (fun x y hxy => ?_)
        show ((bI (tellR T col form m c0 k)) = 0 → _) ∧ _
        cases q3 : tellR T col form m c0 k with
        | false =>
          refine ⟨fun _ => ?_, fun z => absurd (show bI (tellR T col form m c0 k) = 0 by rw [q3]; rfl) z⟩
          have z1 : sumC T hd col form m c0 (k + 1) = none := by rw [sumC_s, hs, q, q2, q3]; rfl
          have z2 := sumC_none z1 d
          rw [show k + 1 + d = tR T by omega] at z2
          have hk := hk x y
          rw [z2] at hk
          exact hk
        | true =>
          refine ⟨fun z => absurd z (by decide), fun _ => ?_⟩
          refine x_priceOfCell hT (fw_rep h0 x y) hcl hform (fun g1 g2 => (hxy q3).2 g1 g2) ?_
          have r := ih (k + 1) (s + priceC form (tLen T (cel T col k)) (tb T (cel T col k))) x y (by omega) (by rw [sumC_s, hs, q, q2, q3]; rfl)
          have er : s + base + priceC form (tLen T (cel T col k)) (tb T (cel T col k)) = s + priceC form (tLen T (cel T col k)) (tb T (cel T col k)) + base := by omega
          rw [← er] at r
          rw [nI_add]
          exact r
/-- the COST of a COLUMN by FORM and missing code; none if it doesn't fit -/
def costC (T : Tb) (hd : Bool) (col form m : Nat) : Option Nat := match fstP T hd col m (tR T) with
  | none => none
  | some c0 => if 0 < m ∧ (cntM T hd col m (tR T) = 0 ∨ form = 0) then none else if m = 4 ∧ ¬ (7 ≤ form ∧ form ≤ 21) then none else (sumC T hd col form m c0 (tR T)).map (· + (priceF form (tLen T c0) + (if 0 < m then 6 else 0)))
theorem x_isNumber {K : Int32 → Prop} {form : Nat} (hform : form < 32) (hk : K (bI (decide (7 ≤ form ∧ form ≤ 21)))) : P_X2_isNumber K (nI form) := by
  unfold P_X2_isNumber
  by_cases q : 7 ≤ form ∧ form ≤ 21
  · rw [decide_eq_true q] at hk
    have hk : K (nI 1) := hk
    simp (disch := omega) [e_m1, e_lit, e_zero, e_one, le_t, le_f, lt_t, lt_f, eq_t, eq_f, in_t, cl_n, nI_1, nI_add, sub_n, m1_lt, m1_le, lt_m1, le_m1, eq_m1, m1_eq, pk_mul, hk]
  · rw [decide_eq_false q] at hk
    have hk : K (nI 0) := hk
    rcases Nat.lt_or_ge form 7 with z | z
    · simp (disch := omega) [e_m1, e_lit, e_zero, e_one, le_t, le_f, lt_t, lt_f, eq_t, eq_f, in_t, cl_n, nI_1, nI_add, sub_n, m1_lt, m1_le, lt_m1, le_m1, eq_m1, m1_eq, pk_mul, hk]
    · simp (disch := omega) [e_m1, e_lit, e_zero, e_one, le_t, le_f, lt_t, lt_f, eq_t, eq_f, in_t, cl_n, nI_1, nI_add, sub_n, m1_lt, m1_le, lt_m1, le_m1, eq_m1, m1_eq, pk_mul, hk]
theorem x_price {w : XW} {T : Tb} {K : Int32 → XW → Prop} {hd : Bool} (hT : tWF T) (h : RepX w T) (hh : cu_headed w = bI hd) {col m form : Nat} (hc : col < tW T) (hm : m < 5) (hform : form < 32) (hs : Surv T hd col m w)
    (hk : ∀ a b, K (oI (costC T hd col form m)) (fw w a b)) : P_X0_price K w (nI col) (nI form) (nI m) := by
  have hN := tN_le hT
  have hR := hT.1
  obtain ⟨s1, s2, s3, s4⟩ := hs
  unfold P_X0_price
  have hk0 : K (oI (costC T hd col form m)) w := hk (fm_worth w) (fm_digits w)
  have cl := cntM_le T hd col m (tR T)
  cases q : fstP T hd col m (tR T) with
  | none =>
    rw [q] at s2
    have : costC T hd col form m = none := by unfold costC; rw [q]
    rw [this] at hk0
    exact ⟨fun _ => hk0, fun z => absurd s2 z⟩
  | some c0 =>
    have c1 := fstP_lt hT hc q
    rw [q] at s2 s3
    refine ⟨fun z => absurd z (by rw [s2]; exact fun y => by have y : nI c0 = m1 := y; rw [eq_m1 (by omega)] at y; exact y), fun _ => ?_⟩
    have e0 : costC T hd col form m = if 0 < m ∧ (cntM T hd col m (tR T) = 0 ∨ form = 0) then none else if m = 4 ∧ ¬ (7 ≤ form ∧ form ≤ 21) then none else (sumC T hd col form m c0 (tR T)).map (· + (priceF form (tLen T c0) + (if 0 < m then 6 else 0))) := by unfold costC; rw [q]
    have hl0 := tLen_le hT c1
    have pf : priceF form (tLen T c0) ≤ 3000 := by unfold priceF; (repeat' split) <;> omega
    have main : ¬ (0 < m ∧ (cntM T hd col m (tR T) = 0 ∨ form = 0)) → P_X0_price_25 K w (nI col) (nI form) (nI m) := by
      intro n1
      rw [if_neg n1] at e0
      unfold P_X0_price_25
      have m39 : ¬ (m = 4 ∧ ¬ (7 ≤ form ∧ form ≤ 21)) → P_X0_price_39 K w (nI col) (nI form) (nI m) := by
        intro n2
        rw [if_neg n2] at e0
        rw [e0] at hk
        unfold P_X0_price_39 P_X0_price_57
        refine x_priceOfForm hT h c1 s3 hform ?_
        by_cases q4 : 0 < m
        · rw [if_pos q4] at hk
          refine ⟨fun z => absurd z (nI_nle q4 (by omega)), fun _ => ⟨tR T + 1, ?_⟩⟩
          have r := x_price_l hT h hh hc hm hform c1 s3 s4 (base := priceF form (tLen T c0) + 6) (by omega) hk (tR T) 0 0 (fm_worth w) (fm_digits w) (by omega) rfl
          rw [e_lit 6, nI_add]
          rw [Nat.zero_add] at r
          exact r
        · rw [if_neg q4] at hk
          refine ⟨fun _ => ⟨tR T + 1, ?_⟩, fun z => absurd (by rw [show m = 0 by omega]; decide) z⟩
          have r := x_price_l hT h hh hc hm hform c1 s3 s4 (base := priceF form (tLen T c0) + 0) (by omega) hk (tR T) 0 0 (fm_worth w) (fm_digits w) (by omega) rfl
          rw [e_zero, nI_add]
          rw [Nat.zero_add] at r
          exact r
      by_cases q5 : m = 4
      · refine ⟨fun z => absurd (congrArg nI q5) z, fun _ => x_isNumber hform ?_⟩
        by_cases q6 : 7 ≤ form ∧ form ≤ 21
        · rw [decide_eq_true q6]
          exact ⟨fun _ => m39 (fun z => z.2 q6), fun z => absurd z (by decide)⟩
        · rw [decide_eq_false q6]
          rw [if_pos ⟨q5, q6⟩] at e0
          rw [e0] at hk0
          exact ⟨fun z => absurd rfl z, fun _ => hk0⟩
      · exact ⟨fun _ => m39 (fun z => q5 z.1), fun z => absurd ((nI_eq (by omega) (by decide)).mp z) q5⟩
    by_cases q7 : 0 < m
    · refine ⟨fun z => absurd z (nI_nle q7 (by omega)), fun _ => ?_⟩
      rw [s1]
      by_cases q8 : cntM T hd col m (tR T) = 0
      · rw [if_pos ⟨q7, Or.inl q8⟩] at e0
        rw [e0] at hk0
        rw [q8]
        exact ⟨fun _ => hk0, fun z => absurd rfl z⟩
      · refine ⟨fun z => absurd ((nI_eq (by omega) (by decide)).mp z) q8, fun _ => ?_⟩
        by_cases q9 : form = 0
        · rw [if_pos ⟨q7, Or.inr q9⟩] at e0
          rw [e0] at hk0
          exact ⟨fun z => absurd (congrArg nI q9) z, fun _ => hk0⟩
        · exact ⟨fun _ => main (fun z => z.2.elim q8 q9), fun z => absurd ((nI_eq (by omega) (by decide)).mp z) q9⟩
    · exact ⟨fun _ => main (fun z => q7 z.1), fun z => absurd (by rw [show m = 0 by omega]; decide) z⟩
