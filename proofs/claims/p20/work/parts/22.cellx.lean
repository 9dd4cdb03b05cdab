/-! tests of one cell, the class' side -/
/-- the cell (n bytes f) is the j-th text -/
def isW (n : Nat) (f : Nat → Nat) (j : Nat) : Bool := decide (n = (sxB j).length ∧ ∀ k, k < n → nI (f k) = sx_ch j k)
theorem tb_lt {T : Tb} (hT : tWF T) {c k : Nat} (hc : c < tN T) (hk : k < tLen T c) : tb T c k < 256 := by
  have g1 := hT.2.2.2.2.1 c hc
  have g3 := tC_le hT (r := c + 1) (s := tN T) (by omega) (Nat.le_refl _)
  unfold tLen at hk
  exact hT.2.2.2.2.2.2 _ (by omega)
theorem tLen_le {T : Tb} (hT : tWF T) {c : Nat} (hc : c < tN T) : tLen T c ≤ 1200 := by
  have := tC_up hT (c := c + 1) (by omega)
  unfold tLen
  omega
theorem x_isWord_l {w : XW} {T : Tb} {K : Int32 → Prop} (hT : tWF T) (h : RepX w T) {c j : Nat} (hc : c < tN T) (hj : j < 32) (hL : tLen T c = (sxB j).length) (hk : K (bI (isW (tLen T c) (tb T c) j))) : ∀ d k, k + d = tLen T c → (∀ i, i < k → nI (tb T c i) = sx_ch j i) → P_X1_isWord_41 K w (nI c) j (nI (tLen T c)) (d + 1) (nI k) := by
  obtain ⟨h1, h2, h3, h4, h5⟩ := h
  have hN := tN_le hT
  have g1 := hT.2.2.2.2.1 c hc
  have g2 := tC_up hT (c := c + 1) (by omega)
  have g3 := tC_le hT (r := c + 1) (s := tN T) (by omega) (Nat.le_refl _)
  have hl := tLen_le hT hc
  have hs := sx_small j hj
  have g4 := hT.2.2.2.2.2.1
  intro d
  induction d with
  | zero =>
    intro k e hp
    have q : isW (tLen T c) (tb T c) j = true := decide_eq_true ⟨hL, fun i hi => hp i (by omega)⟩
    rw [q] at hk
    unfold P_X1_isWord_41
    have hk : K (nI 1) := hk
    simp (disch := omega) [e_m1, e_lit, e_zero, e_one, le_t, le_f, lt_t, lt_f, eq_t, eq_f, in_t, cl_n, nI_1, nI_add, sub_n, m1_lt, m1_le, lt_m1, le_m1, eq_m1, m1_eq, pk_mul, hk]
  | succ d ih =>
    intro k e hp
    unfold P_X1_isWord_41
    have hkl : k < tLen T c := by omega
    have hkl2 : tC T c + k < tC T (tN T) := by unfold tLen at hkl; omega
    have e5 : cu_held w (tC T c + k) = nI (tb T c k) := h5 _ hkl2
    by_cases q : nI (tb T c k) = sx_ch j k
    · have r := ih (k + 1) (by omega) (fun i hi => by
        rcases Nat.lt_or_ge i k with z | z
        · exact hp i z
        · rw [show i = k by omega]; exact q)
      simp (disch := omega) [e_m1, e_lit, e_zero, e_one, le_t, le_f, lt_t, lt_f, eq_t, eq_f, in_t, cl_n, nI_1, nI_add, sub_n, m1_lt, m1_le, lt_m1, le_m1, eq_m1, m1_eq, pk_mul, Ps_chr, hj, h4, e5, q, r, ← hL]
    · have q2 : isW (tLen T c) (tb T c) j = false := decide_eq_false (fun z => q (z.2 k hkl))
      rw [q2] at hk
      have hk : K (nI 0) := hk
      simp (disch := omega) [e_m1, e_lit, e_zero, e_one, le_t, le_f, lt_t, lt_f, eq_t, eq_f, in_t, cl_n, nI_1, nI_add, sub_n, m1_lt, m1_le, lt_m1, le_m1, eq_m1, m1_eq, pk_mul, Ps_chr, hj, h4, e5, q, hk, ← hL]
theorem x_isWord {w : XW} {T : Tb} {K : Int32 → Prop} (hT : tWF T) (h : RepX w T) {c j : Nat} (hc : c < tN T) (hj : j < 32) (hk : K (bI (isW (tLen T c) (tb T c) j))) : P_X1_isWord K w (nI c) j := by
  have hN := tN_le hT
  have g1 := hT.2.2.2.2.1 c hc
  have g2 := tC_up hT (c := c + 1) (by omega)
  have hl := tLen_le hT hc
  have hs := sx_small j hj
  obtain ⟨h1, h2, h3, h4, h5⟩ := id h
  unfold P_X1_isWord
  refine ⟨hj, ?_⟩
  have e : tC T (c + 1) - tC T c = tLen T c := rfl
  by_cases q : tLen T c = (sxB j).length
  · have r := x_isWord_l hT h hc hj q hk (tLen T c) 0 (by omega) (fun i hi => absurd hi (Nat.not_lt_zero i))
    have r2 : ∃ nf, P_X1_isWord_41 K w (nI c) j (nI (tLen T c)) nf (nI 0) := ⟨_, r⟩
    simp (disch := omega) [e_m1, e_lit, e_zero, e_one, le_t, le_f, lt_t, lt_f, eq_t, eq_f, in_t, cl_n, nI_1, nI_add, sub_n, m1_lt, m1_le, lt_m1, le_m1, eq_m1, m1_eq, pk_mul, h2, h4, e, ← q, r2]
  · have q2 : isW (tLen T c) (tb T c) j = false := decide_eq_false (fun z => q z.1)
    rw [q2] at hk
    have hk : K (nI 0) := hk
    simp (disch := omega) [e_m1, e_lit, e_zero, e_one, le_t, le_f, lt_t, lt_f, eq_t, eq_f, in_t, cl_n, nI_1, nI_add, sub_n, m1_lt, m1_le, lt_m1, le_m1, eq_m1, m1_eq, pk_mul, h2, h4, e, q, hk]
/-- a byte's sort -/
def sortN (b : Nat) : Nat := if 48 ≤ b ∧ b ≤ 57 then 256 else if 65 ≤ b ∧ b ≤ 90 then 257 else if 97 ≤ b ∧ b ≤ 122 then 258 else b
theorem x_sortOf {K : Int32 → Prop} {b : Nat} (hb : b < 256) (hk : K (nI (sortN b))) : P_X2_sortOf K (nI b) := by
  unfold P_X2_sortOf P_X2_sortOf_16 P_X2_sortOf_32
  unfold sortN at hk
  by_cases q1 : 48 ≤ b ∧ b ≤ 57
  · rw [if_pos q1] at hk
    simp (disch := omega) [e_m1, e_lit, e_zero, e_one, le_t, le_f, lt_t, lt_f, eq_t, eq_f, in_t, cl_n, nI_1, nI_add, sub_n, m1_lt, m1_le, lt_m1, le_m1, eq_m1, m1_eq, pk_mul, hk]
  · rw [if_neg q1] at hk
    by_cases q2 : 65 ≤ b ∧ b ≤ 90
    · rw [if_pos q2] at hk
      simp (disch := omega) [e_m1, e_lit, e_zero, e_one, le_t, le_f, lt_t, lt_f, eq_t, eq_f, in_t, cl_n, nI_1, nI_add, sub_n, m1_lt, m1_le, lt_m1, le_m1, eq_m1, m1_eq, pk_mul, hk]
    · rw [if_neg q2] at hk
      by_cases q3 : 97 ≤ b ∧ b ≤ 122
      · rw [if_pos q3] at hk
        simp (disch := omega) [e_m1, e_lit, e_zero, e_one, le_t, le_f, lt_t, lt_f, eq_t, eq_f, in_t, cl_n, nI_1, nI_add, sub_n, m1_lt, m1_le, lt_m1, le_m1, eq_m1, m1_eq, pk_mul, hk]
      · rw [if_neg q3] at hk
        rcases Nat.lt_or_ge b 48 with z | z
        · simp (disch := omega) [e_m1, e_lit, e_zero, e_one, le_t, le_f, lt_t, lt_f, eq_t, eq_f, in_t, cl_n, nI_1, nI_add, sub_n, m1_lt, m1_le, lt_m1, le_m1, eq_m1, m1_eq, pk_mul, hk]
        · rcases Nat.lt_or_ge b 65 with z2 | z2
          · simp (disch := omega) [e_m1, e_lit, e_zero, e_one, le_t, le_f, lt_t, lt_f, eq_t, eq_f, in_t, cl_n, nI_1, nI_add, sub_n, m1_lt, m1_le, lt_m1, le_m1, eq_m1, m1_eq, pk_mul, hk]
          · rcases Nat.lt_or_ge b 97 with z3 | z3
            · simp (disch := omega) [e_m1, e_lit, e_zero, e_one, le_t, le_f, lt_t, lt_f, eq_t, eq_f, in_t, cl_n, nI_1, nI_add, sub_n, m1_lt, m1_le, lt_m1, le_m1, eq_m1, m1_eq, pk_mul, hk]
            · simp (disch := omega) [e_m1, e_lit, e_zero, e_one, le_t, le_f, lt_t, lt_f, eq_t, eq_f, in_t, cl_n, nI_1, nI_add, sub_n, m1_lt, m1_le, lt_m1, le_m1, eq_m1, m1_eq, pk_mul, hk]
theorem sortN_lt {b : Nat} (hb : b < 256) : sortN b < 259 := by
  unfold sortN
  split
  · omega
  · split
    · omega
    · split <;> omega
/-- the cell (n, f) is of the make of (n0, f0) -/
def codeOK (n : Nat) (f : Nat → Nat) (n0 : Nat) (f0 : Nat → Nat) : Bool := decide ((1 ≤ n0 ∧ n0 ≤ 20) ∧ n = n0 ∧ ∀ k, k < n0 → sortN (f k) = sortN (f0 k))
theorem x_tellsCode_l {w : XW} {T : Tb} {K : Int32 → Prop} (hT : tWF T) (h : RepX w T) {c c0 : Nat} (hc : c < tN T) (hc0 : c0 < tN T) (hf : fm_first w = nI c0) (hn : 1 ≤ tLen T c0 ∧ tLen T c0 ≤ 20) (hL : tLen T c = tLen T c0) (hk : K (bI (codeOK (tLen T c) (tb T c) (tLen T c0) (tb T c0)))) : ∀ d k, k + d = tLen T c0 → (∀ i, i < k → sortN (tb T c i) = sortN (tb T c0 i)) → P_X2_tellsCode_39 K w (nI c) (nI (tLen T c0)) (d + 1) (nI k) := by
  intro d
  induction d with
  | zero =>
    intro k e hp
    have q : codeOK (tLen T c) (tb T c) (tLen T c0) (tb T c0) = true := decide_eq_true ⟨hn, hL, fun i hi => hp i (by omega)⟩
    rw [q] at hk
    unfold P_X2_tellsCode_39
    have hk : K (nI 1) := hk
    simp (disch := omega) [e_m1, e_lit, e_zero, e_one, le_t, le_f, lt_t, lt_f, eq_t, eq_f, in_t, cl_n, nI_1, nI_add, sub_n, m1_lt, m1_le, lt_m1, le_m1, eq_m1, m1_eq, pk_mul, hk]
  | succ d ih =>
    intro k e hp
    unfold P_X2_tellsCode_39
    have b1 := tb_lt hT hc (k := k) (by omega)
    have b2 := tb_lt hT hc0 (k := k) (by omega)
    have s1 := sortN_lt b1
    have s2 := sortN_lt b2
    refine ⟨fun z => absurd z (nI_ge (by omega) (by omega)), fun _ => ?_⟩
    refine x_byteIn hT h hc (by omega) ?_
    refine x_sortOf b1 ?_
    rw [hf]
    refine x_byteIn hT h hc0 (by omega) ?_
    refine x_sortOf b2 ?_
    by_cases q : sortN (tb T c k) = sortN (tb T c0 k)
    · have r := ih (k + 1) (by omega) (fun i hi => by
        rcases Nat.lt_or_ge i k with z | z
        · exact hp i z
        · rw [show i = k by omega]; exact q)
      refine ⟨fun _ => ?_, fun z => absurd (congrArg nI q) z⟩
      rw [e_one, nI_add]
      exact r
    · have q2 : codeOK (tLen T c) (tb T c) (tLen T c0) (tb T c0) = false := decide_eq_false (fun z => q (z.2.2 k (by omega)))
      rw [q2] at hk
      exact ⟨fun z => absurd ((nI_eq (by omega) (by omega)).mp z) q, fun _ => hk⟩
theorem x_tellsCode {w : XW} {T : Tb} {K : Int32 → Prop} (hT : tWF T) (h : RepX w T) {c c0 : Nat} (hc : c < tN T) (hc0 : c0 < tN T) (hf : fm_first w = nI c0) (hk : K (bI (codeOK (tLen T c) (tb T c) (tLen T c0) (tb T c0)))) : P_X2_tellsCode K w (nI c) := by
  unfold P_X2_tellsCode
  rw [hf]
  have l0 := tLen_le hT hc0
  have l1 := tLen_le hT hc
  refine x_lengthOf hT h hc0 ?_
  have no : ¬ ((1 ≤ tLen T c0 ∧ tLen T c0 ≤ 20) ∧ tLen T c = tLen T c0) → K (nI 0) := fun z => by
    have q2 : codeOK (tLen T c) (tb T c) (tLen T c0) (tb T c0) = false := decide_eq_false (fun y => z ⟨y.1, y.2.1⟩)
    rw [q2] at hk
    exact hk
  refine ⟨fun z => ?_, fun z => ⟨fun z2 => ?_, fun z2 => ?_⟩⟩
  · exact no (fun y => absurd z (nI_nlt (a := tLen T c0) (b := 1) (by omega) (by omega)))
  · exact no (fun y => absurd z2 (nI_nlt (a := 20) (b := tLen T c0) (by omega) (by omega)))
  · have y1 : 1 ≤ tLen T c0 := by
      rcases Nat.lt_or_ge (tLen T c0) 1 with y | y
      · exact absurd (nI_lt y (by omega)) z
      · exact y
    have y2 : tLen T c0 ≤ 20 := by
      rcases Nat.lt_or_ge 20 (tLen T c0) with y | y
      · exact absurd (nI_lt y (by omega)) z2
      · exact y
    refine x_lengthOf hT h hc ?_
    by_cases q : tLen T c = tLen T c0
    · exact ⟨fun _ => ⟨_, x_tellsCode_l hT h hc hc0 hf ⟨y1, y2⟩ q hk (tLen T c0) 0 (by omega) (fun i hi => absurd hi (Nat.not_lt_zero i))⟩, fun y => absurd (congrArg nI q) y⟩
    · exact ⟨fun y => absurd ((nI_eq (by omega) (by omega)).mp y) q, fun _ => no (fun y => q y.2)⟩
/-- the digits' number; none if a byte is no digit -/
def numV (f : Nat → Nat) (k : Nat) : Nat → Option Nat
  | 0 => some 0
  | i + 1 => match numV f k i with
    | some v => if 48 ≤ f (k + i) ∧ f (k + i) ≤ 57 then some (v * 10 + (f (k + i) - 48)) else none
    | none => none
def oI (o : Option Nat) : Int32 := match o with
  | some v => nI v
  | none => m1
theorem numV_lt {f : Nat → Nat} {k : Nat} : ∀ {i v : Nat}, numV f k i = some v → v < 10 ^ i := by
  intro i
  induction i with
  | zero => intro v h; cases h; decide
  | succ i ih =>
    intro v h
    unfold numV at h
    cases q : numV f k i with
    | none => rw [q] at h; cases h
    | some u =>
      rw [q] at h
      have := ih q
      simp only at h
      split at h
      · cases h
        rw [Nat.pow_succ]
        omega
      · cases h
theorem numV_none {f : Nat → Nat} {k i : Nat} (h : numV f k i = none) : ∀ d, numV f k (i + d) = none := by
  intro d
  induction d with
  | zero => exact h
  | succ d ih => show numV f k (i + d + 1) = none; unfold numV; rw [ih]
theorem x_numberIn_l {w : XW} {T : Tb} {K : Int32 → Prop} (hT : tWF T) (h : RepX w T) {c k n : Nat} (hc : c < tN T) (hn : n ≤ 4) (hL : k + n ≤ tLen T c) (hk : K (oI (numV (tb T c) k n))) : ∀ d i v, i + d = n → numV (tb T c) k i = some v → P_X1_numberIn_45 K w (nI c) (nI k) (nI n) (d + 1) (nI v) (nI i) := by
  obtain ⟨h1, h2, h3, h4, h5⟩ := h
  have hN := tN_le hT
  have g1 := hT.2.2.2.2.1 c hc
  have g2 := tC_up hT (c := c + 1) (by omega)
  have g3 := tC_le hT (r := c + 1) (s := tN T) (by omega) (Nat.le_refl _)
  have g4 := hT.2.2.2.2.2.1
  intro d
  induction d with
  | zero =>
    intro i v e hv
    unfold P_X1_numberIn_45
    rw [show n = i by omega, hv] at hk
    have hk : K (nI v) := hk
    simp (disch := omega) [e_m1, e_lit, e_zero, e_one, le_t, le_f, lt_t, lt_f, eq_t, eq_f, in_t, cl_n, nI_1, nI_add, sub_n, m1_lt, m1_le, lt_m1, le_m1, eq_m1, m1_eq, pk_mul, hk]
  | succ d ih =>
    intro i v e hv
    unfold P_X1_numberIn_45
    have hkl2 : tC T c + k + i < tC T (tN T) := by unfold tLen at hL; omega
    have e5 : cu_held w (tC T c + k + i) = nI (tb T c (k + i)) := by rw [h5 _ hkl2]; unfold tb; rw [Nat.add_assoc]
    have hb := tb_lt hT hc (k := k + i) (by omega)
    have hv9 : v < 10 ^ i := numV_lt hv
    have hv4 : v < 10000 := Nat.lt_of_lt_of_le hv9 (Nat.pow_le_pow_right (by decide) (show i ≤ 4 by omega))
    have no : ¬ (48 ≤ tb T c (k + i) ∧ tb T c (k + i) ≤ 57) → K m1 := fun z => by
      have z1 : numV (tb T c) k (i + 1) = none := by unfold numV; rw [hv]; simp only; rw [if_neg z]
      have z2 := numV_none z1 d
      rw [show i + 1 + d = n by omega] at z2
      rw [z2] at hk
      exact hk
    rcases Nat.lt_or_ge (tb T c (k + i)) 48 with z | z
    · have no := no (by omega)
      simp (disch := omega) [e_m1, e_lit, e_zero, e_one, le_t, le_f, lt_t, lt_f, eq_t, eq_f, in_t, cl_n, nI_1, nI_add, sub_n, m1_lt, m1_le, lt_m1, le_m1, eq_m1, m1_eq, pk_mul, h4, e5, no]
    · rcases Nat.lt_or_ge 57 (tb T c (k + i)) with z2 | z2
      · have no := no (by omega)
        simp (disch := omega) [e_m1, e_lit, e_zero, e_one, le_t, le_f, lt_t, lt_f, eq_t, eq_f, in_t, cl_n, nI_1, nI_add, sub_n, m1_lt, m1_le, lt_m1, le_m1, eq_m1, m1_eq, pk_mul, h4, e5, no]
      · have r := ih (i + 1) (v * 10 + (tb T c (k + i) - 48)) (by omega) (by unfold numV; rw [hv]; simp only; rw [if_pos ⟨z, z2⟩])
        have er : v * 10 + tb T c (k + i) - 48 = v * 10 + (tb T c (k + i) - 48) := by omega
        simp (disch := omega) [e_m1, e_lit, e_zero, e_one, le_t, le_f, lt_t, lt_f, eq_t, eq_f, in_t, cl_n, nI_1, nI_add, sub_n, m1_lt, m1_le, lt_m1, le_m1, eq_m1, m1_eq, pk_mul, h4, e5, er, r]
theorem x_numberIn {w : XW} {T : Tb} {K : Int32 → Prop} (hT : tWF T) (h : RepX w T) {c k n : Nat} (hc : c < tN T) (hn : n ≤ 4) (hL : k + n ≤ tLen T c) (hk : K (oI (numV (tb T c) k n))) : P_X1_numberIn K w (nI c) (nI k) (nI n) := by
  have r : ∃ nf, P_X1_numberIn_45 K w (nI c) (nI k) (nI n) nf (nI 0) (nI 0) := ⟨_, x_numberIn_l hT h hc hn hL hk n 0 0 (by omega) rfl⟩
  obtain ⟨h1, h2, h3, h4, h5⟩ := h
  have hN := tN_le hT
  have g1 := hT.2.2.2.2.1 c hc
  have g2 := tC_up hT (c := c + 1) (by omega)
  unfold P_X1_numberIn
  unfold tLen at hL
  simp (disch := omega) [e_m1, e_lit, e_zero, e_one, le_t, le_f, lt_t, lt_f, eq_t, eq_f, in_t, cl_n, nI_1, nI_add, sub_n, m1_lt, m1_le, lt_m1, le_m1, eq_m1, m1_eq, pk_mul, h2, h4, r]
def codeCost (f : Nat → Nat) : Nat → Nat
  | 0 => 0
  | k + 1 => codeCost f k + (if sortN (f k) = 256 then 4 else if sortN (f k) = 257 ∨ sortN (f k) = 258 then 5 else 0)
theorem codeCost_le (f : Nat → Nat) : ∀ n, codeCost f n ≤ 5 * n := by
  intro n
  induction n with
  | zero => exact Nat.le_refl _
  | succ n ih => unfold codeCost; (repeat' split) <;> omega
theorem x_priceOfCode_l {w : XW} {T : Tb} {K : Int32 → Prop} (hT : tWF T) (h : RepX w T) {c : Nat} (hc : c < tN T) (hk : K (nI (codeCost (tb T c) (tLen T c)))) : ∀ d k, k + d = tLen T c → P_X2_priceOfCode_4 K w (nI c) (d + 1) (nI (codeCost (tb T c) k)) (nI k) := by
  have hl := tLen_le hT hc
  intro d
  induction d with
  | zero =>
    intro k e
    unfold P_X2_priceOfCode_4
    refine x_lengthOf hT h hc ?_
    rw [show k = tLen T c by omega]
    simp (disch := omega) [e_m1, e_lit, e_zero, e_one, le_t, le_f, lt_t, lt_f, eq_t, eq_f, in_t, cl_n, nI_1, nI_add, sub_n, m1_lt, m1_le, lt_m1, le_m1, eq_m1, m1_eq, pk_mul, hk]
  | succ d ih =>
    intro k e
    unfold P_X2_priceOfCode_4
    refine x_lengthOf hT h hc ?_
    refine ⟨fun z => absurd z (nI_ge (by omega) (by omega)), fun _ => ?_⟩
    have b1 := tb_lt hT hc (k := k) (by omega)
    refine x_byteIn hT h hc (by omega) ?_
    refine x_sortOf b1 ?_
    have s1 := sortN_lt b1
    have r := ih (k + 1) (by omega)
    unfold codeCost at r
    unfold P_X2_priceOfCode_59 P_X2_priceOfCode_64
    by_cases q1 : sortN (tb T c k) = 256
    · rw [if_pos q1] at r
      simp (disch := omega) [e_m1, e_lit, e_zero, e_one, le_t, le_f, lt_t, lt_f, eq_t, eq_f, in_t, cl_n, nI_1, nI_add, sub_n, m1_lt, m1_le, lt_m1, le_m1, eq_m1, m1_eq, pk_mul, q1, r]
    · rw [if_neg q1] at r
      by_cases q2 : sortN (tb T c k) = 257
      · rw [if_pos (Or.inl q2)] at r
        simp (disch := omega) [e_m1, e_lit, e_zero, e_one, le_t, le_f, lt_t, lt_f, eq_t, eq_f, in_t, cl_n, nI_1, nI_add, sub_n, m1_lt, m1_le, lt_m1, le_m1, eq_m1, m1_eq, pk_mul, q2, r]
      · by_cases q3 : sortN (tb T c k) = 258
        · rw [if_pos (Or.inr q3)] at r
          simp (disch := omega) [e_m1, e_lit, e_zero, e_one, le_t, le_f, lt_t, lt_f, eq_t, eq_f, in_t, cl_n, nI_1, nI_add, sub_n, m1_lt, m1_le, lt_m1, le_m1, eq_m1, m1_eq, pk_mul, q3, r]
        · rw [if_neg (fun z => z.elim q2 q3)] at r
          have r : P_X2_priceOfCode_4 K w (nI c) (d + 1) (nI (codeCost (tb T c) k)) (nI (k + 1)) := r
          simp (disch := omega) [e_m1, e_lit, e_zero, e_one, le_t, le_f, lt_t, lt_f, eq_t, eq_f, in_t, cl_n, nI_1, nI_add, sub_n, m1_lt, m1_le, lt_m1, le_m1, eq_m1, m1_eq, pk_mul, q1, q2, q3, r]
theorem x_priceOfCode {w : XW} {T : Tb} {K : Int32 → Prop} (hT : tWF T) (h : RepX w T) {c : Nat} (hc : c < tN T) (hk : K (nI (codeCost (tb T c) (tLen T c)))) : P_X2_priceOfCode K w (nI c) :=
  ⟨_, x_priceOfCode_l hT h hc hk (tLen T c) 0 (by omega)⟩
