/-! a table: rows, where rows begin among cells, where cells begin among bytes, bytes -/
abbrev Tb : Type := Nat × (Nat → Nat) × (Nat → Nat) × (Nat → Nat)
def tR (T : Tb) : Nat := T.1
def tS (T : Tb) (r : Nat) : Nat := T.2.1 r
def tC (T : Tb) (c : Nat) : Nat := T.2.2.1 c
def tB (T : Tb) (i : Nat) : Nat := T.2.2.2 i
/-- all cells -/
def tN (T : Tb) : Nat := tS T (tR T)
def tWF (T : Tb) : Prop := tR T ≤ 80 ∧ tS T 0 = 0 ∧ (∀ r, r < tR T → tS T r < tS T (r + 1) ∧ tS T (r + 1) ≤ tS T r + 12) ∧ tC T 0 = 0 ∧ (∀ c, c < tN T → tC T c ≤ tC T (c + 1)) ∧ tC T (tN T) ≤ 1200 ∧ ∀ i, i < tC T (tN T) → tB T i < 256
theorem tS_up {T : Tb} (h : tWF T) : ∀ r, r ≤ tR T → tS T r ≤ 12 * r := by
  intro r
  induction r with
  | zero => intro _; rw [h.2.1]; omega
  | succ r ih => intro hr; have := ih (by omega); have := (h.2.2.1 r (by omega)).2; omega
theorem tS_mono {T : Tb} (h : tWF T) : ∀ k r, r + k ≤ tR T → tS T r ≤ tS T (r + k) := by
  intro k
  induction k with
  | zero => intro r _; exact Nat.le_refl _
  | succ k ih => intro r hr; have := ih r (by omega); have := (h.2.2.1 (r + k) (by omega)).1; show tS T r ≤ tS T (r + k + 1); omega
theorem tS_le {T : Tb} (h : tWF T) {r s : Nat} (h1 : r ≤ s) (h2 : s ≤ tR T) : tS T r ≤ tS T s := by
  have := tS_mono h (s - r) r (by omega)
  rwa [show r + (s - r) = s by omega] at this
theorem tN_le {T : Tb} (h : tWF T) : tN T ≤ 960 := by have := tS_up h (tR T) (Nat.le_refl _); have := h.1; unfold tN; omega
theorem tC_mono {T : Tb} (h : tWF T) : ∀ k c, c + k ≤ tN T → tC T c ≤ tC T (c + k) := by
  intro k
  induction k with
  | zero => intro r _; exact Nat.le_refl _
  | succ k ih => intro r hr; have := ih r (by omega); have := h.2.2.2.2.1 (r + k) (by omega); show tC T r ≤ tC T (r + k + 1); omega
theorem tC_le {T : Tb} (h : tWF T) {r s : Nat} (h1 : r ≤ s) (h2 : s ≤ tN T) : tC T r ≤ tC T s := by
  have := tC_mono h (s - r) r (by omega)
  rwa [show r + (s - r) = s by omega] at this
theorem tC_up {T : Tb} (h : tWF T) {c : Nat} (hc : c ≤ tN T) : tC T c ≤ 1200 := Nat.le_trans (tC_le h hc (Nat.le_refl _)) h.2.2.2.2.2.1
/-- the class holds the table -/
def RepX (w : XW) (T : Tb) : Prop := cu_rows w = nI (tR T) ∧ cu_cells w = nI (tN T) ∧ (∀ r, r ≤ tR T → cu_rowStart w r = nI (tS T r)) ∧ (∀ c, c ≤ tN T → cu_cellStart w c = nI (tC T c)) ∧ ∀ i, i < tC T (tN T) → cu_held w i = nI (tB T i)
def tW (T : Tb) : Nat := if 0 < tR T then tS T 1 else 0
/-- how many cells a row has; of those that aren't there -1 -/
def tCells (T : Tb) (r : Nat) : Nat := tS T (r + 1) - tS T r
def tLen (T : Tb) (c : Nat) : Nat := tC T (c + 1) - tC T c
def tOdd (T : Tb) (r : Nat) : Bool := decide (0 < r ∧ r < tR T ∧ tCells T r ≠ tS T 1)
def tPlain (T : Tb) (hd : Bool) (r : Nat) : Bool := decide ((if hd then 1 else 0) ≤ r ∧ r < tR T) && !tOdd T r
def tb (T : Tb) (c k : Nat) : Nat := tB T (tC T c + k)
def bI (b : Bool) : Int32 := if b then nI 1 else nI 0
theorem x_width {w : XW} {T : Tb} {K : Int32 → Prop} (hT : tWF T) (h : RepX w T) (hk : K (nI (tW T))) : P_X1_width K w := by
  obtain ⟨h1, h2, h3, h4, h5⟩ := h
  have hR := hT.1
  unfold P_X1_width
  unfold tW at hk
  rw [h1]
  rcases Nat.eq_zero_or_pos (tR T) with e | e
  · rw [if_neg (by omega)] at hk
    simp (disch := omega) [e_m1, e_lit, e_zero, e_one, le_t, le_f, lt_t, lt_f, eq_t, eq_f, in_t, cl_n, nI_1, nI_add, sub_n, h1, h2, h3, h4, h5, hk]
  · rw [if_pos e] at hk
    simp (disch := omega) [e_m1, e_lit, e_zero, e_one, le_t, le_f, lt_t, lt_f, eq_t, eq_f, in_t, cl_n, nI_1, nI_add, sub_n, h1, h2, h3, h4, h5, hk]
theorem x_cellIn {w : XW} {T : Tb} {K : Int32 → Prop} (hT : tWF T) (h : RepX w T) {r c : Nat} (hr : r < tR T) (hc : c < tCells T r) (hk : K (nI (tS T r + c))) : P_X1_cellIn K w (nI r) (nI c) := by
  obtain ⟨h1, h2, h3, h4, h5⟩ := h
  have hR := hT.1
  have g1 := hT.2.2.1 r hr
  have g2 := tS_up hT (r + 1) (by omega)
  unfold tCells at hc
  unfold P_X1_cellIn
  simp (disch := omega) [e_m1, e_lit, e_zero, e_one, le_t, le_f, lt_t, lt_f, eq_t, eq_f, in_t, cl_n, nI_1, nI_add, sub_n, h1, h2, h3, h4, h5, hk]
theorem x_cellsOf {w : XW} {T : Tb} {K : Int32 → Prop} (hT : tWF T) (h : RepX w T) {r : Nat} (hr : r < tR T) (hk : K (nI (tCells T r))) : P_X1_cellsOf K w (nI r) := by
  obtain ⟨h1, h2, h3, h4, h5⟩ := h
  have hR := hT.1
  have g1 := hT.2.2.1 r hr
  have g2 := tS_up hT (r + 1) (by omega)
  unfold tCells at hk
  unfold P_X1_cellsOf
  simp (disch := omega) [e_m1, e_lit, e_zero, e_one, le_t, le_f, lt_t, lt_f, eq_t, eq_f, in_t, cl_n, nI_1, nI_add, sub_n, m1_lt, m1_le, lt_m1, le_m1, eq_m1, m1_eq, pk_mul, h1, h2, h3, h4, h5, hk]
/-- an argument that names none of n -/
theorem out_of {v : Int32} {n : Nat} (hn : n < 2 ^ 31) (h : ¬ (0 ≤ v.toInt ∧ v.toInt < n)) : v < nI 0 ∨ (¬ v < nI 0 ∧ nI n ≤ v ∧ ¬ v < nI n) := by
  have e0 : (nI 0).toInt = 0 := by decide
  by_cases h0 : v < nI 0
  · exact Or.inl h0
  · refine Or.inr ⟨h0, ?_⟩
    have h1 : ¬ v.toInt < 0 := fun q => h0 (Int32.lt_iff_toInt_lt.mpr (by rw [e0]; exact q))
    have h2 : (n : Int) ≤ v.toInt := by omega
    exact ⟨Int32.le_iff_toInt_le.mpr (by rw [nI_toInt hn]; exact h2), fun q => by have := Int32.lt_iff_toInt_lt.mp q; rw [nI_toInt hn] at this; omega⟩
theorem in_of {v : Int32} {n : Nat} (h : 0 ≤ v.toInt ∧ v.toInt < n) : ∃ j, j < n ∧ v = nI j := by
  refine ⟨v.toNatClampNeg, ?_, ?_⟩
  · show v.toInt.toNat < n; omega
  · have := Int32.toInt_lt v
    exact Int32.toInt_inj.mp (by rw [nI_toInt (by show v.toInt.toNat < _; omega)]; show v.toInt = ((v.toInt.toNat : Nat) : Int); omega)
theorem x_cellsOf_o {w : XW} {T : Tb} {K : Int32 → Prop} (hT : tWF T) (h : RepX w T) {v : Int32} (hv : ¬ (0 ≤ v.toInt ∧ v.toInt < tR T)) (hk : K m1) : P_X1_cellsOf K w v := by
  obtain ⟨h1, h2, h3, h4, h5⟩ := h
  have hR := hT.1
  unfold P_X1_cellsOf
  rcases out_of (by omega) hv with e | ⟨e, e2, e3⟩
  · simp (disch := omega) [e_m1, e_lit, e_zero, e_one, le_t, le_f, lt_t, lt_f, eq_t, eq_f, in_t, cl_n, nI_1, nI_add, sub_n, m1_lt, m1_le, lt_m1, le_m1, eq_m1, m1_eq, pk_mul, h1, e, hk]
  · simp (disch := omega) [e_m1, e_lit, e_zero, e_one, le_t, le_f, lt_t, lt_f, eq_t, eq_f, in_t, cl_n, nI_1, nI_add, sub_n, m1_lt, m1_le, lt_m1, le_m1, eq_m1, m1_eq, pk_mul, h1, e, e2, e3, hk]
theorem x_cellIn_o {w : XW} {T : Tb} {K : Int32 → Prop} (hT : tWF T) (h : RepX w T) {v c : Int32} (hv : ¬ (0 ≤ v.toInt ∧ v.toInt < tR T)) (hk : K m1) : P_X1_cellIn K w v c := by
  obtain ⟨h1, h2, h3, h4, h5⟩ := h
  have hR := hT.1
  unfold P_X1_cellIn
  rcases out_of (by omega) hv with e | ⟨e, e2, e3⟩
  · simp (disch := omega) [e_m1, e_lit, e_zero, e_one, le_t, le_f, lt_t, lt_f, eq_t, eq_f, in_t, cl_n, nI_1, nI_add, sub_n, m1_lt, m1_le, lt_m1, le_m1, eq_m1, m1_eq, pk_mul, h1, e, hk]
  · simp (disch := omega) [e_m1, e_lit, e_zero, e_one, le_t, le_f, lt_t, lt_f, eq_t, eq_f, in_t, cl_n, nI_1, nI_add, sub_n, m1_lt, m1_le, lt_m1, le_m1, eq_m1, m1_eq, pk_mul, h1, e, e2, e3, hk]
theorem x_cellIn_p {w : XW} {T : Tb} {K : Int32 → Prop} (hT : tWF T) (h : RepX w T) {r : Nat} {c : Int32} (hr : r < tR T) (hc : ¬ (0 ≤ c.toInt ∧ c.toInt < tCells T r)) (hk : K m1) : P_X1_cellIn K w (nI r) c := by
  obtain ⟨h1, h2, h3, h4, h5⟩ := h
  have hR := hT.1
  have g1 := hT.2.2.1 r hr
  have g2 := tS_up hT (r + 1) (by omega)
  unfold tCells at hc
  unfold P_X1_cellIn
  rcases out_of (by omega) hc with e | ⟨e, e2, e3⟩
  · simp (disch := omega) [e_m1, e_lit, e_zero, e_one, le_t, le_f, lt_t, lt_f, eq_t, eq_f, in_t, cl_n, nI_1, nI_add, sub_n, m1_lt, m1_le, lt_m1, le_m1, eq_m1, m1_eq, pk_mul, h1, h3, e, hk]
  · simp (disch := omega) [e_m1, e_lit, e_zero, e_one, le_t, le_f, lt_t, lt_f, eq_t, eq_f, in_t, cl_n, nI_1, nI_add, sub_n, m1_lt, m1_le, lt_m1, le_m1, eq_m1, m1_eq, pk_mul, h1, h3, e, e2, e3, hk]
theorem x_lengthOf {w : XW} {T : Tb} {K : Int32 → Prop} (hT : tWF T) (h : RepX w T) {c : Nat} (hc : c < tN T) (hk : K (nI (tLen T c))) : P_X1_lengthOf K w (nI c) := by
  obtain ⟨h1, h2, h3, h4, h5⟩ := h
  have hN := tN_le hT
  have g1 := hT.2.2.2.2.1 c hc
  have g2 := tC_up hT (c := c + 1) (by omega)
  unfold tLen at hk
  unfold P_X1_lengthOf
  simp (disch := omega) [e_m1, e_lit, e_zero, e_one, le_t, le_f, lt_t, lt_f, eq_t, eq_f, in_t, cl_n, nI_1, nI_add, sub_n, m1_lt, m1_le, lt_m1, le_m1, eq_m1, m1_eq, pk_mul, h2, h4, hk]
theorem x_lengthOf_m {w : XW} {K : Int32 → Prop} (hk : K m1) : P_X1_lengthOf K w m1 := by
  unfold P_X1_lengthOf
  simp (disch := omega) [e_m1, e_lit, e_zero, e_one, le_t, le_f, lt_t, lt_f, eq_t, eq_f, in_t, cl_n, nI_1, nI_add, sub_n, m1_lt, m1_le, lt_m1, le_m1, eq_m1, m1_eq, pk_mul, hk]
theorem x_byteIn {w : XW} {T : Tb} {K : Int32 → Prop} (hT : tWF T) (h : RepX w T) {c k : Nat} (hc : c < tN T) (hl : k < tLen T c) (hk : K (nI (tb T c k))) : P_X1_byteIn K w (nI c) (nI k) := by
  unfold tb at hk
  obtain ⟨h1, h2, h3, h4, h5⟩ := h
  have hN := tN_le hT
  have g1 := hT.2.2.2.2.1 c hc
  have g2 := tC_up hT (c := c + 1) (by omega)
  have g3 := tC_le hT (r := c + 1) (s := tN T) (by omega) (Nat.le_refl _)
  unfold tLen at hl
  unfold P_X1_byteIn
  simp (disch := omega) [e_m1, e_lit, e_zero, e_one, le_t, le_f, lt_t, lt_f, eq_t, eq_f, in_t, cl_n, nI_1, nI_add, sub_n, m1_lt, m1_le, lt_m1, le_m1, eq_m1, m1_eq, pk_mul, h2, h4, h5, hk]
theorem x_byteIn_m {w : XW} {K : Int32 → Prop} {k : Int32} (hk : K m1) : P_X1_byteIn K w m1 k := by
  unfold P_X1_byteIn
  simp (disch := omega) [e_m1, e_lit, e_zero, e_one, le_t, le_f, lt_t, lt_f, eq_t, eq_f, in_t, cl_n, nI_1, nI_add, sub_n, m1_lt, m1_le, lt_m1, le_m1, eq_m1, m1_eq, pk_mul, hk]
theorem x_byteIn_o {w : XW} {T : Tb} {K : Int32 → Prop} (hT : tWF T) (h : RepX w T) {c : Nat} {v : Int32} (hc : c < tN T) (hv : ¬ (0 ≤ v.toInt ∧ v.toInt < tLen T c)) (hk : K m1) : P_X1_byteIn K w (nI c) v := by
  obtain ⟨h1, h2, h3, h4, h5⟩ := h
  have hN := tN_le hT
  have g1 := hT.2.2.2.2.1 c hc
  have g2 := tC_up hT (c := c + 1) (by omega)
  unfold tLen at hv
  unfold P_X1_byteIn
  rcases out_of (by omega) hv with e | ⟨e, e2, e3⟩
  · simp (disch := omega) [e_m1, e_lit, e_zero, e_one, le_t, le_f, lt_t, lt_f, eq_t, eq_f, in_t, cl_n, nI_1, nI_add, sub_n, m1_lt, m1_le, lt_m1, le_m1, eq_m1, m1_eq, pk_mul, h2, h4, e, hk]
  · simp (disch := omega) [e_m1, e_lit, e_zero, e_one, le_t, le_f, lt_t, lt_f, eq_t, eq_f, in_t, cl_n, nI_1, nI_add, sub_n, m1_lt, m1_le, lt_m1, le_m1, eq_m1, m1_eq, pk_mul, h2, h4, e, e2, e3, hk]
theorem x_isOdd {w : XW} {T : Tb} {K : Int32 → Prop} (hT : tWF T) (h : RepX w T) {r : Nat} (hr : r < tR T) (hk : K (bI (tOdd T r))) : P_X1_isOdd K w (nI r) := by
  obtain ⟨h1, h2, h3, h4, h5⟩ := h
  have hR := hT.1
  have g1 := hT.2.2.1 r hr
  have g2 := tS_up hT (r + 1) (by omega)
  have g3 := tS_up hT 1 (by omega)
  unfold tOdd tCells bI at hk
  unfold P_X1_isOdd
  rcases Nat.eq_zero_or_pos r with e | e
  · subst e
    simp at hk
    simp (disch := omega) [e_m1, e_lit, e_zero, e_one, le_t, le_f, lt_t, lt_f, eq_t, eq_f, in_t, cl_n, nI_1, nI_add, sub_n, m1_lt, m1_le, lt_m1, le_m1, eq_m1, m1_eq, pk_mul, h1, hk]
  · by_cases q : tS T (r + 1) - tS T r = tS T 1
    · simp [q] at hk
      simp (disch := omega) [e_m1, e_lit, e_zero, e_one, le_t, le_f, lt_t, lt_f, eq_t, eq_f, in_t, cl_n, nI_1, nI_add, sub_n, m1_lt, m1_le, lt_m1, le_m1, eq_m1, m1_eq, pk_mul, h1, h3, q, hk]
    · simp [q, e, hr] at hk
      simp (disch := omega) [e_m1, e_lit, e_zero, e_one, le_t, le_f, lt_t, lt_f, eq_t, eq_f, in_t, cl_n, nI_1, nI_add, sub_n, m1_lt, m1_le, lt_m1, le_m1, eq_m1, m1_eq, pk_mul, h1, h3, q, hk]
theorem x_isInColumns {w : XW} {T : Tb} {K : Int32 → Prop} {hd : Bool} (hT : tWF T) (h : RepX w T) (hh : cu_headed w = bI hd) {r : Nat} (hr : r < tR T) (hk : K (bI (tPlain T hd r))) : P_X1_isInColumns K w (nI r) := by
  have h1 := h.1
  have hR := hT.1
  unfold P_X1_isInColumns P_X1_isInColumns_13
  have o : ∀ K', K' (bI (tOdd T r)) → P_X1_isOdd K' w (nI r) := fun K' h' => x_isOdd hT h hr h'
  unfold tPlain bI at hk
  unfold bI at hh
  cases hd
  · simp [hr] at hk
    simp (disch := omega) [e_m1, e_lit, e_zero, e_one, le_t, le_f, lt_t, lt_f, eq_t, eq_f, in_t, cl_n, nI_1, nI_add, sub_n, m1_lt, m1_le, lt_m1, le_m1, eq_m1, m1_eq, pk_mul, h1, hh]
    refine o _ ?_
    unfold bI
    cases q : tOdd T r <;> simp [q] at hk <;> simp (disch := omega) [e_m1, e_lit, e_zero, e_one, le_t, le_f, lt_t, lt_f, eq_t, eq_f, in_t, cl_n, nI_1, nI_add, sub_n, m1_lt, m1_le, lt_m1, le_m1, eq_m1, m1_eq, pk_mul, hk]
  · rcases Nat.eq_zero_or_pos r with e | e
    · subst e
      simp at hk
      simp (disch := omega) [e_m1, e_lit, e_zero, e_one, le_t, le_f, lt_t, lt_f, eq_t, eq_f, in_t, cl_n, nI_1, nI_add, sub_n, m1_lt, m1_le, lt_m1, le_m1, eq_m1, m1_eq, pk_mul, h1, hh, hk]
    · simp [hr, show 1 ≤ r from e] at hk
      simp (disch := omega) [e_m1, e_lit, e_zero, e_one, le_t, le_f, lt_t, lt_f, eq_t, eq_f, in_t, cl_n, nI_1, nI_add, sub_n, m1_lt, m1_le, lt_m1, le_m1, eq_m1, m1_eq, pk_mul, h1, hh]
      refine o _ ?_
      unfold bI
      cases q : tOdd T r <;> simp [q] at hk <;> simp (disch := omega) [e_m1, e_lit, e_zero, e_one, le_t, le_f, lt_t, lt_f, eq_t, eq_f, in_t, cl_n, nI_1, nI_add, sub_n, m1_lt, m1_le, lt_m1, le_m1, eq_m1, m1_eq, pk_mul, hk]
