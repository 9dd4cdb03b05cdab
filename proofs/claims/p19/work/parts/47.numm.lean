/-! DAY and NUMBER, the reference's side -/
theorem m_whole {w : MW} {T : Tb} {K : Int32 → Prop} {c k n : Nat} (hT : tWF T) (h : RepM w T) (hc : c < tN T) (hn : n ≤ 4) (hL : k + n ≤ tLen T c) (hk : K (oI (numV (tb T c) k n))) : P_X4_whole K w (nI c) (nI k) (nI n) := by
  have hl := tLen_le hT hc
  have L : ∀ d i v, i + d = n → numV (tb T c) k i = some v → P_X4_whole_6 K w (nI c) (nI k) (nI n) (d + 1) (nI v) (nI i) := by
    intro d
    induction d with
    | zero =>
      intro i v ei hv
      have : i = n := by omega
      subst this
      rw [hv] at hk
      exact ⟨fun _ => hk, fun z => absurd (Int32.le_refl _) z⟩
    | succ d ih =>
      intro i v ei hv
      have b1 := tb_lt hT hc (k := k + i) (by omega)
      have hvl := numV_l hv (by omega)
      rw [show P_X4_whole_6 K w (nI c) (nI k) (nI n) (d + 1 + 1) (nI v) (nI i) ↔ _ from Iff.rfl]
      refine ⟨fun z => absurd z (nI_ge (by omega) (by omega)), fun _ => ?_⟩
      rw [nI_add]
      refine m_byteOf hT h hc (by omega) (m_isDigit b1 ?_)
      by_cases z : 48 ≤ tb T c (k + i) ∧ tb T c (k + i) ≤ 57
      · rw [decide_eq_true z]
        refine ⟨fun _ => m_byteOf hT h hc (by omega) ?_, fun y => absurd y (by decide)⟩
        rw [nI_1, show ((10 : Int32) * nI v + nI (tb T c (k + i))) - (48 : Int32) = nI (v * 10 + (tb T c (k + i) - 48)) by
          rw [show (10 : Int32) = nI 10 from rfl, show (48 : Int32) = nI 48 from rfl, pk_mul, nI_add, pk_sub (by omega)]
          congr 1
          omega]
        refine ih (i + 1) _ (by omega) ?_
        show (match numV (tb T c) k i with
          | some v => if 48 ≤ tb T c (k + i) ∧ tb T c (k + i) ≤ 57 then some (v * 10 + (tb T c (k + i) - 48)) else none
          | none => none) = _
        rw [hv]
        exact if_pos z
      · rw [decide_eq_false z]
        refine ⟨fun y => absurd rfl y, fun _ => ?_⟩
        have q : numV (tb T c) k (i + 1) = none := by
          show (match numV (tb T c) k i with
            | some v => if 48 ≤ tb T c (k + i) ∧ tb T c (k + i) ≤ 57 then some (v * 10 + (tb T c (k + i) - 48)) else none
            | none => none) = _
          rw [hv]
          exact if_neg z
        have := numV_none q d
        rw [show i + 1 + d = n by omega] at this
        rw [this] at hk
        exact hk
  exact ⟨n + 1, L n 0 0 (by omega) rfl⟩
theorem m_inO {K : Int32 → Prop} {o : Option Nat} {a b : Nat} (ho : ∀ v, o = some v → v < 10000) (ha : a < 2 ^ 31) (hb : b < 2 ^ 31) (h1 : ∀ v, o = some v → a ≤ v → v ≤ b → K 1) (h0 : (∀ v, o = some v → ¬ (a ≤ v ∧ v ≤ b)) → K 0) : P_X4_in K (oI o) (nI a) (nI b) := by
  cases o with
  | none =>
    have k0 := h0 (fun v e => by cases e)
    have : m1 < nI a := by rw [m1_lt ha]; trivial
    exact ⟨fun _ => k0, fun z => absurd this z⟩
  | some v =>
    have := ho v rfl
    refine m_in2 (by omega) ha hb ?_
    by_cases z : a ≤ v ∧ v ≤ b
    · rw [decide_eq_true z]; exact h1 v rfl z.1 z.2
    · rw [decide_eq_false z]; exact h0 (fun u e => by cases e; exact z)
theorem mdN_all : ∀ m, m < 13 → 1 ≤ m → ¬ m = 2 → mdN m = (if m = 4 ∨ m = 6 ∨ m = 9 ∨ m = 11 then 30 else 31) := by decide
theorem m_daysOf {K : Int32 → Prop} {y m : Nat} (hy : y < 10000) (h1 : 1 ≤ m) (h2 : m ≤ 12) (hk : K (nI (daysN y m))) : P_X4_daysOf K (nI y) (nI m) := by
  unfold daysN at hk
  rw [if_neg (by omega)] at hk
  unfold P_X4_daysOf
  rw [show nI y - nI y / (4 : Int32) * (4 : Int32) = nI (y % 4) from pk_rem (d := 4) (by omega) (by decide) (by decide), show nI y - nI y / (100 : Int32) * (100 : Int32) = nI (y % 100) from pk_rem (d := 100) (by omega) (by decide) (by decide), show nI y - nI y / (400 : Int32) * (400 : Int32) = nI (y % 400) from pk_rem (d := 400) (by omega) (by decide) (by decide)]
  have em : ∀ x : Nat, x < 13 → ((nI m = nI x) ↔ m = x) := fun x hx => nI_eq (by omega) (by omega)
  have e4 : (nI (y % 4) = 0) ↔ y % 4 = 0 := nI_eq (b := 0) (by omega) (by decide)
  have e100 : (nI (y % 100) = 0) ↔ y % 100 = 0 := nI_eq (b := 0) (by omega) (by decide)
  have e400 : (nI (y % 400) = 0) ↔ y % 400 = 0 := nI_eq (b := 0) (by omega) (by decide)
  rw [show (nI m = (2 : Int32)) ↔ m = 2 from em 2 (by decide), show (nI m = (4 : Int32)) ↔ m = 4 from em 4 (by decide), show (nI m = (6 : Int32)) ↔ m = 6 from em 6 (by decide), show (nI m = (9 : Int32)) ↔ m = 9 from em 9 (by decide), show (nI m = (11 : Int32)) ↔ m = 11 from em 11 (by decide), e4, e100, e400]
  unfold leapN at hk
  refine ⟨fun n2 => ?_, fun y2 => ?_⟩
  · rw [if_neg (fun x => n2 x.1), mdN_all m (by omega) h1 n2] at hk
    have k30 : (m = 4 ∨ m = 6 ∨ m = 9 ∨ m = 11) → K 30 := fun x => by rw [if_pos x] at hk; exact hk
    exact ⟨fun x => k30 (Or.inl x), fun x4 => ⟨fun x => k30 (Or.inr (Or.inl x)), fun x6 => ⟨fun x => k30 (Or.inr (Or.inr (Or.inl x))), fun x9 => ⟨fun x11 => by rw [if_neg (by omega)] at hk; exact hk, fun x => k30 (Or.inr (Or.inr (Or.inr x)))⟩⟩⟩⟩
  · subst y2
    have k28 : ¬ (y % 4 = 0 ∧ (¬ y % 100 = 0 ∨ y % 400 = 0)) → K 28 := fun x => by rw [decide_eq_false x, if_neg (by decide)] at hk; exact hk
    have k29 : (y % 4 = 0 ∧ (¬ y % 100 = 0 ∨ y % 400 = 0)) → K 29 := fun x => by rw [decide_eq_true x, if_pos (by decide)] at hk; exact hk
    exact ⟨fun x => k28 (fun z => x z.1), fun x => ⟨fun x1 => k29 ⟨x, Or.inl x1⟩, fun x1 => ⟨fun x2 => k28 (fun z => z.2.elim (fun q => q x1) x2), fun x2 => k29 ⟨x, Or.inr x2⟩⟩⟩⟩
theorem sv_v (w : MW) : md_value_s w (md_value w) = w := by
  unfold md_value_s md_value
  rfl
theorem m_day135 {w : MW} {T : Tb} {K : Int32 → MW → Prop} {c pd : Nat} {y m : Option Nat} (hT : tWF T) (h : RepM w T) (hc : c < tN T) (hl : pd + 2 ≤ tLen T c) (hy : ∀ v, y = some v → v < 10000) (hm : ∀ v, m = some v → v < 10000)
    (hk : ∀ a, (∀ v, dayE y m (numV (tb T c) pd 2) = some v → a = lN v) → K (bI (dayE y m (numV (tb T c) pd 2)).isSome) (md_value_s w a)) : P_X4_isDay_135 K w (oI y) (oI m) (nI pd) (nI c) := by
  have hdl : ∀ v, numV (tb T c) pd 2 = some v → v < 10000 := fun v e => numV_l e (by decide)
  unfold P_X4_isDay_135
  refine m_whole (n := 2) hT h hc (by decide) hl ?_
  generalize numV (tb T c) pd 2 = d at *
  have no : dayE y m d = none → K 0 w := fun e => by
    have := hk (md_value w) (fun v q => by rw [e] at q; cases q)
    rw [e, sv_v] at this
    exact this
  refine m_inO (a := 1600) (b := 2999) hy (by decide) (by decide) (fun yv ey y1 y2 => ?_) (fun z => ⟨fun _ => no ?_, fun x => absurd rfl x⟩)
  · refine ⟨fun x => absurd x (by decide), fun _ => m_inO (a := 1) (b := 12) hm (by decide) (by decide) (fun mv em m1' m2' => ?_) (fun z => ⟨fun _ => no ?_, fun x => absurd rfl x⟩)⟩
    · have hyl := hy yv ey
      subst ey; subst em
      refine ⟨fun x => absurd x (by decide), fun _ => m_daysOf hyl m1' m2' ?_⟩
      have dl := daysN_le yv mv
      refine m_inO (a := 1) hdl (by decide) (by omega) (fun dv ed d1 d2 => ⟨fun _ => ?_, fun x => absurd x (by decide)⟩) (fun z => ⟨fun x => absurd rfl x, fun _ => no ?_⟩)
      · have hdv := hdl dv ed
        subst ed
        have e : dayE (some yv) (some mv) (some dv) = some (yv * 10000 + mv * 100 + dv) := if_pos ⟨⟨y1, y2⟩, d1, d2⟩
        have q := hk (lN (yv * 10000 + mv * 100 + dv)) (fun v x => by rw [e] at x; cases x; rfl)
        rw [e] at q
        rw [show ((Int32.toInt64 (oI (some yv)) * (10000 : Int64)) + (Int32.toInt64 (oI (some mv)) * (100 : Int64))) + Int32.toInt64 (oI (some dv)) = lN (yv * 10000 + mv * 100 + dv) by
          show (((nI yv).toInt64 * lN 10000) + ((nI mv).toInt64 * lN 100)) + (nI dv).toInt64 = _
          rw [nI_l (by omega), nI_l (by omega), nI_l (by omega), lN_mul, lN_mul, lN_add, lN_add]]
        exact q
      · cases d with
        | none => rfl
        | some dv => exact if_neg (fun x => z dv rfl x.2)
    · cases d with
      | none => cases y <;> rfl
      | some dv =>
        subst ey
        refine if_neg (fun x => ?_)
        cases m with
        | none => have : dv ≤ 0 := x.2.2; have := x.2.1; omega
        | some mv =>
          have x3 : dv ≤ daysN yv mv := x.2.2
          unfold daysN at x3
          rw [if_pos (by have := z mv rfl; omega)] at x3
          have := x.2.1
          omega
  · cases d with
    | none => cases y <;> rfl
    | some dv =>
      cases y with
      | none => rfl
      | some yv => exact if_neg (fun x => z yv rfl x.1)
