/-! DAY, and tells and costs of a cell, the class' side -/
def mdN (m : Nat) : Nat := ([31, 28, 31, 30, 31, 30, 31, 31, 30, 31, 30, 31] : List Nat).getD (m - 1) 0
def leapN (y : Nat) : Bool := decide (y % 4 = 0 ∧ (¬ y % 100 = 0 ∨ y % 400 = 0))
def daysN (y m : Nat) : Nat := if m < 1 ∨ 12 < m then 0 else if m = 2 ∧ leapN y = true then 29 else mdN m
def daysO (y : Nat) (m : Option Nat) : Nat := match m with
  | some m => daysN y m
  | none => 0
theorem tbN_e : ∀ j, j < 12 → tbN j = nI (mdN (j + 1)) := by decide +kernel
theorem mdN_le : ∀ j, j < 12 → mdN (j + 1) ≤ 31 := by decide +kernel
theorem daysN_le (y m : Nat) : daysN y m ≤ 31 := by
  unfold daysN
  split
  · omega
  · split
    · omega
    · rename_i h _
      have := mdN_le (m - 1) (by omega)
      rwa [show m - 1 + 1 = m by omega] at this
theorem x_daysOf {K : Int32 → Prop} {y : Nat} {m : Option Nat} (hy : y < 10000) (hm : ∀ v, m = some v → v < 10000) (hk : K (nI (daysO y m))) : P_X2_daysOf K (nI y) (oI m) := by
  unfold P_X2_daysOf
  cases m with
  | none =>
    have hk : K (nI 0) := hk
    unfold oI
    simp (disch := omega) [e_m1, e_lit, e_zero, e_one, le_t, le_f, lt_t, lt_f, eq_t, eq_f, in_t, cl_n, nI_1, nI_add, sub_n, m1_lt, m1_le, lt_m1, le_m1, eq_m1, m1_eq, pk_mul, hk]
  | some v =>
    have hv := hm v rfl
    have hk : K (nI (daysN y v)) := hk
    unfold oI
    unfold daysN at hk
    by_cases q1 : v < 1 ∨ 12 < v
    · rw [if_pos q1] at hk
      rcases q1 with q1 | q1
      · simp (disch := omega) [e_m1, e_lit, e_zero, e_one, le_t, le_f, lt_t, lt_f, eq_t, eq_f, in_t, cl_n, nI_1, nI_add, sub_n, m1_lt, m1_le, lt_m1, le_m1, eq_m1, m1_eq, pk_mul, hk]
      · simp (disch := omega) [e_m1, e_lit, e_zero, e_one, le_t, le_f, lt_t, lt_f, eq_t, eq_f, in_t, cl_n, nI_1, nI_add, sub_n, m1_lt, m1_le, lt_m1, le_m1, eq_m1, m1_eq, pk_mul, hk]
    · rw [if_neg q1] at hk
      have e1 : tbN (v - 1) = nI (mdN v) := by have := tbN_e (v - 1) (by omega); rwa [show v - 1 + 1 = v by omega] at this
      have p0 : ¬ (v = 2 ∧ leapN y = true) → P_X2_daysOf_56 K (nI v) := fun z => by
        rw [if_neg z] at hk
        unfold P_X2_daysOf_56
        simp (disch := omega) [e_m1, e_lit, e_zero, e_one, le_t, le_f, lt_t, lt_f, eq_t, eq_f, in_t, cl_n, nI_1, nI_add, sub_n, m1_lt, m1_le, lt_m1, le_m1, eq_m1, m1_eq, pk_mul, e1, hk]
      have p41 : leapN y = false → P_X2_daysOf_41 K (nI v) 0 := fun z => by
        have := p0 (fun x => by rw [z] at x; exact absurd x.2 (by decide))
        exact ⟨fun _ => this, fun _ => ⟨fun _ => this, fun x => absurd rfl x⟩⟩
      have p42 : leapN y = true → P_X2_daysOf_41 K (nI v) 1 := fun z => by
        by_cases q2 : v = 2
        · rw [if_pos ⟨q2, z⟩] at hk
          exact ⟨fun x => absurd (congrArg nI q2) x, fun _ => ⟨fun x => absurd x (by decide), fun _ => hk⟩⟩
        · have := p0 (fun x => q2 x.1)
          exact ⟨fun _ => this, fun x => absurd ((nI_eq (by omega) (by decide)).mp x) q2⟩
      unfold P_X2_daysOf_40 P_X2_daysOf_36
      unfold leapN at p41 p42
      by_cases l1 : y % 4 = 0
      · by_cases l2 : y % 100 = 0
        · by_cases l3 : y % 400 = 0
          · have := p42 (by simp [l1, l2, l3])
            have this : P_X2_daysOf_41 K (nI v) (nI 1) := this
            simp (disch := omega) [e_m1, e_lit, e_zero, e_one, le_t, le_f, lt_t, lt_f, eq_t, eq_f, in_t, cl_n, nI_1, nI_add, sub_n, m1_lt, m1_le, lt_m1, le_m1, eq_m1, m1_eq, pk_mul, div_n, this]
          · have := p41 (by simp [l1, l2, l3])
            have this : P_X2_daysOf_41 K (nI v) (nI 0) := this
            simp (disch := omega) [e_m1, e_lit, e_zero, e_one, le_t, le_f, lt_t, lt_f, eq_t, eq_f, in_t, cl_n, nI_1, nI_add, sub_n, m1_lt, m1_le, lt_m1, le_m1, eq_m1, m1_eq, pk_mul, div_n, this]
        · have := p42 (by simp [l1, l2])
          have this : P_X2_daysOf_41 K (nI v) (nI 1) := this
          simp (disch := omega) [e_m1, e_lit, e_zero, e_one, le_t, le_f, lt_t, lt_f, eq_t, eq_f, in_t, cl_n, nI_1, nI_add, sub_n, m1_lt, m1_le, lt_m1, le_m1, eq_m1, m1_eq, pk_mul, div_n, this]
      · have := p41 (by simp [l1])
        have this : P_X2_daysOf_41 K (nI v) (nI 0) := this
        simp (disch := omega) [e_m1, e_lit, e_zero, e_one, le_t, le_f, lt_t, lt_f, eq_t, eq_f, in_t, cl_n, nI_1, nI_add, sub_n, m1_lt, m1_le, lt_m1, le_m1, eq_m1, m1_eq, pk_mul, div_n, this]
/-- year, month (or none), day: the value, if there is such a day -/
def dayE (y m d : Option Nat) : Option Nat := match y, d with
  | some y, some d => if (1600 ≤ y ∧ y ≤ 2999) ∧ 1 ≤ d ∧ d ≤ daysO y m then some (y * 10000 + m.getD 0 * 100 + d) else none
  | _, _ => none
def dayG (f : Nat → Nat) (bt p1 p2 py pm pd : Nat) : Option Nat := if f p1 = bt ∧ f p2 = bt then dayE (numV f py 4) (numV f pm 2) (numV f pd 2) else none
def btN (form : Nat) : Nat := ([47, 45, 46] : List Nat).getD ((form - 22) % 3) 0
def dayV (form n : Nat) (f : Nat → Nat) : Option Nat := if n = 10 then (if (form - 22) / 3 = 0 then dayG f (btN form) 2 5 6 3 0 else if (form - 22) / 3 = 1 then dayG f (btN form) 2 5 6 0 3 else dayG f (btN form) 4 7 0 5 8) else none
theorem numV_l {f : Nat → Nat} {k i v : Nat} (h : numV f k i = some v) (hi : i ≤ 4) : v < 10000 := Nat.lt_of_lt_of_le (numV_lt h) (Nat.pow_le_pow_right (by decide) hi)
theorem x_day176 {w : XW} {T : Tb} {K : Int32 → XW → Prop} (hT : tWF T) (h : RepX w T) {c pd : Nat} {y m : Option Nat} (hc : c < tN T) (hl : pd + 2 ≤ tLen T c) (hy : ∀ v, y = some v → v < 10000) (hm : ∀ v, m = some v → v < 10000)
    (h3 : ∀ v, dayE y m (numV (tb T c) pd 2) = some v → K (nI 1) (fm_worth_s w (nI v))) (h4 : dayE y m (numV (tb T c) pd 2) = none → K (nI 0) w) : P_X2_tellsDay_176 K w (oI y) (oI m) (nI pd) (nI c) := by
  unfold P_X2_tellsDay_176
  refine x_numberIn hT h hc (n := 2) (by decide) hl ?_
  cases y with
  | none =>
    have h4 : K (nI 0) w := h4 (by unfold dayE; rfl)
    unfold oI
    simp (disch := omega) [e_m1, e_lit, e_zero, e_one, le_t, le_f, lt_t, lt_f, eq_t, eq_f, in_t, cl_n, nI_1, nI_add, sub_n, m1_lt, m1_le, lt_m1, le_m1, eq_m1, m1_eq, pk_mul, h4]
  | some y =>
    have hy := hy y rfl
    rcases Nat.lt_or_ge y 1600 with q | q
    · have h4 : K (nI 0) w := h4 (by unfold dayE; cases numV (tb T c) pd 2 <;> simp only <;> exact if_neg (by omega))
      unfold oI
      simp (disch := omega) [e_m1, e_lit, e_zero, e_one, le_t, le_f, lt_t, lt_f, eq_t, eq_f, in_t, cl_n, nI_1, nI_add, sub_n, m1_lt, m1_le, lt_m1, le_m1, eq_m1, m1_eq, pk_mul, h4]
    · rcases Nat.lt_or_ge 2999 y with q2 | q2
      · have h4 : K (nI 0) w := h4 (by unfold dayE; cases numV (tb T c) pd 2 <;> simp only <;> exact if_neg (by omega))
        unfold oI
        simp (disch := omega) [e_m1, e_lit, e_zero, e_one, le_t, le_f, lt_t, lt_f, eq_t, eq_f, in_t, cl_n, nI_1, nI_add, sub_n, m1_lt, m1_le, lt_m1, le_m1, eq_m1, m1_eq, pk_mul, h4]
      · refine ⟨fun z => absurd z (nI_nlt (a := y) (b := 1600) q (by omega)), fun _ => ⟨fun z => absurd z (nI_nlt (a := 2999) (b := y) q2 (by omega)), fun _ => ?_⟩⟩
        cases qd : numV (tb T c) pd 2 with
        | none =>
          have h4 : K (nI 0) w := h4 (by rw [qd]; unfold dayE; rfl)
          exact ⟨fun _ => h4, fun z => absurd (by decide) z⟩
        | some d =>
          have hd := numV_l qd (by decide)
          rw [qd] at h3 h4
          unfold dayE at h3 h4
          simp only at h3 h4
          show (nI d < 1 → _) ∧ _
          rcases Nat.lt_or_ge d 1 with q3 | q3
          · rw [if_neg (by omega)] at h4
            exact ⟨fun _ => h4 rfl, fun z => absurd (nI_lt (b := 1) q3 (by decide)) z⟩
          · refine ⟨fun z => absurd z (nI_nlt (b := 1) q3 (by omega)), fun _ => x_daysOf hy hm ?_⟩
            have dl : daysO y m ≤ 31 := by cases m with
              | none => exact Nat.zero_le _
              | some v => exact daysN_le y v
            rcases Nat.lt_or_ge (daysO y m) d with q4 | q4
            · rw [if_neg (by omega)] at h4
              exact ⟨fun z => absurd z (nI_ge q4 (by omega)), fun _ => h4 rfl⟩
            · rw [if_pos ⟨⟨q, q2⟩, q3, q4⟩] at h3
              have h3 := h3 _ rfl
              refine ⟨fun _ => ?_, fun z => absurd (nI_le q4 (by omega)) z⟩
              cases m with
              | none => exact absurd (show d ≤ 0 from q4) (by omega)
              | some v =>
                have h3 : K (nI 1) (fm_worth_s w (nI (y * 10000 + v * 100 + d))) := h3
                unfold oI
                simp (disch := omega) [e_m1, e_lit, e_zero, e_one, le_t, le_f, lt_t, lt_f, eq_t, eq_f, in_t, cl_n, nI_1, nI_add, sub_n, m1_lt, m1_le, lt_m1, le_m1, eq_m1, m1_eq, pk_mul, h3]
theorem numV_hy {f : Nat → Nat} {k i : Nat} (hi : i ≤ 4) : ∀ v, numV f k i = some v → v < 10000 := fun _ h => numV_l h hi
theorem x_day117 {w : XW} {T : Tb} {K : Int32 → XW → Prop} (hT : tWF T) (h : RepX w T) {c o : Nat} (hc : c < tN T) (hl : tLen T c = 10) (ho : o < 3) {py pm pd : Nat} (e1 : py = if o = 2 then 0 else 6) (e2 : pm = if o = 2 then 5 else if o = 0 then 3 else 0) (e3 : pd = if o = 2 then 8 else if o = 0 then 0 else 3)
    (h3 : ∀ v, dayE (numV (tb T c) py 4) (numV (tb T c) pm 2) (numV (tb T c) pd 2) = some v → K (nI 1) (fm_worth_s w (nI v))) (h4 : dayE (numV (tb T c) py 4) (numV (tb T c) pm 2) (numV (tb T c) pd 2) = none → K (nI 0) w) : P_X2_tellsDay_117 K w (nI c) (nI o) (bI (decide (o = 2))) (nI py) (nI c) := by
  unfold P_X2_tellsDay_117 P_X2_tellsDay_146
  rcases (show o = 0 ∨ o = 1 ∨ o = 2 by omega) with q | q | q <;> subst q <;> simp at e1 e2 e3 <;> subst e1 <;> subst e2 <;> subst e3
  · refine x_numberIn hT h hc (n := 4) (by decide) (by omega) ?_
    refine ⟨fun _ => ⟨fun z => absurd rfl z, fun _ => ?_⟩, fun z => absurd rfl z⟩
    refine x_numberIn hT h hc (k := 3) (n := 2) (by decide) (by omega) ?_
    refine ⟨fun _ => ⟨fun z => absurd rfl z, fun _ => ?_⟩, fun z => absurd rfl z⟩
    exact x_day176 hT h hc (pd := 0) (by omega) (numV_hy (by decide)) (numV_hy (by decide)) h3 h4
  · refine x_numberIn hT h hc (n := 4) (by decide) (by omega) ?_
    refine ⟨fun _ => ⟨fun _ => ?_, fun z => absurd z (by decide)⟩, fun z => absurd rfl z⟩
    refine x_numberIn hT h hc (k := 0) (n := 2) (by decide) (by omega) ?_
    refine ⟨fun _ => ⟨fun _ => ?_, fun z => absurd z (by decide)⟩, fun z => absurd rfl z⟩
    exact x_day176 hT h hc (pd := 3) (by omega) (numV_hy (by decide)) (numV_hy (by decide)) h3 h4
  · refine x_numberIn hT h hc (n := 4) (by decide) (by omega) ?_
    refine ⟨fun z => absurd z (by decide), fun _ => ?_⟩
    refine x_numberIn hT h hc (k := 5) (n := 2) (by decide) (by omega) ?_
    refine ⟨fun z => absurd z (by decide), fun _ => ?_⟩
    exact x_day176 hT h hc (pd := 8) (by omega) (numV_hy (by decide)) (numV_hy (by decide)) h3 h4
theorem x_day50 {w : XW} {T : Tb} {K : Int32 → XW → Prop} (hT : tWF T) (h : RepX w T) {c o bt : Nat} (hc : c < tN T) (hl : tLen T c = 10) (ho : o < 3) (hbt : bt < 256) {p1 p2 py pm pd : Nat} (e4 : p1 = if o = 2 then 4 else 2) (e5 : p2 = if o = 2 then 7 else 5) (e1 : py = if o = 2 then 0 else 6) (e2 : pm = if o = 2 then 5 else if o = 0 then 3 else 0) (e3 : pd = if o = 2 then 8 else if o = 0 then 0 else 3)
    (h3 : ∀ v, dayG (tb T c) bt p1 p2 py pm pd = some v → K (nI 1) (fm_worth_s w (nI v))) (h4 : dayG (tb T c) bt p1 p2 py pm pd = none → K (nI 0) w) : P_X2_tellsDay_50 K w (nI c) (nI o) (nI bt) (bI (decide (o = 2))) := by
  unfold P_X2_tellsDay_50 P_X2_tellsDay_67 P_X2_tellsDay_91
  have hp1 : p1 < 10 := by rw [e4]; split <;> omega
  have hp2 : p2 < 10 := by rw [e5]; split <;> omega
  have b1 := tb_lt hT hc (k := p1) (by omega)
  have b2 := tb_lt hT hc (k := p2) (by omega)
  unfold dayG at h3 h4
  have go : tb T c p1 = bt → tb T c p2 = bt → P_X2_tellsDay_117 K w (nI c) (nI o) (bI (decide (o = 2))) (nI py) (nI c) := fun z1 z2 => by
    rw [if_pos ⟨z1, z2⟩] at h3 h4
    exact x_day117 hT h hc hl ho e1 e2 e3 h3 h4
  have no : ¬ (tb T c p1 = bt ∧ tb T c p2 = bt) → K (nI 0) w := fun z => by
    rw [if_neg z] at h4
    exact h4 rfl
  by_cases q : o = 2
  · subst q
    simp at e4 e5 e1
    subst e4; subst e5; subst e1
    refine ⟨fun z => absurd z (by decide), fun _ => x_byteIn hT h hc (k := 4) (by omega) ⟨fun z => no (fun y => z (congrArg nI y.1)), fun z => ⟨fun z => absurd z (by decide), fun _ => x_byteIn hT h hc (k := 7) (by omega) ⟨fun z2 => ⟨fun z => absurd z (by decide), fun _ => ?_⟩, fun z2 => no (fun y => z2 (congrArg nI y.2))⟩⟩⟩⟩
    exact go ((nI_eq (by omega) (by omega)).mp z) ((nI_eq (by omega) (by omega)).mp z2)
  · rw [if_neg q] at e4 e5 e1
    subst e4; subst e5; subst e1
    have eb : bI (decide (o = 2)) = 0 := by rw [decide_eq_false q]; rfl
    rw [eb] at go ⊢
    refine ⟨fun _ => x_byteIn hT h hc (k := 2) (by omega) ⟨fun z => no (fun y => z (congrArg nI y.1)), fun z => ⟨fun _ => x_byteIn hT h hc (k := 5) (by omega) ⟨fun z2 => ⟨fun _ => ?_, fun z => absurd rfl z⟩, fun z2 => no (fun y => z2 (congrArg nI y.2))⟩, fun z => absurd rfl z⟩⟩, fun z => absurd rfl z⟩
    exact go ((nI_eq (by omega) (by omega)).mp z) ((nI_eq (by omega) (by omega)).mp z2)
theorem x_tellsDay {w : XW} {T : Tb} {K : Int32 → XW → Prop} (hT : tWF T) (h : RepX w T) {c form : Nat} (hc : c < tN T) (h1 : 22 ≤ form) (h2 : form ≤ 30)
    (h3 : ∀ v, dayV form (tLen T c) (tb T c) = some v → K (nI 1) (fm_worth_s w (nI v))) (h4 : dayV form (tLen T c) (tb T c) = none → K (nI 0) w) : P_X2_tellsDay K w (nI form) (nI c) := by
  have hl := tLen_le hT hc
  unfold P_X2_tellsDay
  refine x_lengthOf hT h hc ?_
  unfold dayV at h3 h4
  by_cases q : tLen T c = 10
  · rw [if_pos q] at h3 h4
    refine ⟨fun z => absurd (congrArg nI q) z, fun _ => ⟨fun _ => ?_, fun z => absurd (nI_le (a := 22) h1 (by omega)) z⟩⟩
    have e0 : (nI form - (22 : Int32)) = nI (form - 22) := sub_n (b := 22) h1
    have e1 : nI (form - 22) / (3 : Int32) = nI ((form - 22) / 3) := div_n (d := 3) (by omega) (by decide) (by decide)
    have e2 : nI (form - 22) - nI (form - 22) / (3 : Int32) * (3 : Int32) = nI ((form - 22) % 3) := pk_rem (d := 3) (by omega) (by decide) (by decide)
    rw [e0, e2, e1]
    refine ⟨vp_in_nI (by omega) (by decide), ?_⟩
    rw [nI_clamp (by omega)]
    have e3 : tbD ((form - 22) % 3) = nI (btN form) := by
      unfold btN
      rcases (show (form - 22) % 3 = 0 ∨ (form - 22) % 3 = 1 ∨ (form - 22) % 3 = 2 by omega) with y | y | y <;> rw [y] <;> rfl
    have e4 : btN form < 256 := by
      unfold btN
      rcases (show (form - 22) % 3 = 0 ∨ (form - 22) % 3 = 1 ∨ (form - 22) % 3 = 2 by omega) with y | y | y <;> rw [y] <;> decide
    rw [e3]
    have ho : (form - 22) / 3 < 3 := by omega
    generalize (form - 22) / 3 = o at h3 h4 ho
    have go : P_X2_tellsDay_50 K w (nI c) (nI o) (nI (btN form)) (bI (decide (o = 2))) := by
      rcases (show o = 0 ∨ o = 1 ∨ o = 2 by omega) with y | y | y <;> subst y <;> simp at h3 h4 <;> exact x_day50 hT h hc q (by decide) e4 rfl rfl rfl rfl rfl h3 h4
    by_cases y : o = 2
    · rw [decide_eq_true y] at go
      exact ⟨fun z => absurd (congrArg nI y) z, fun _ => go⟩
    · rw [decide_eq_false y] at go
      exact ⟨fun _ => go, fun z => absurd ((nI_eq (by omega) (by decide)).mp z) y⟩
  · rw [if_neg q] at h4
    exact ⟨fun _ => h4 rfl, fun z => absurd ((nI_eq (by omega) (by decide)).mp z) q⟩
