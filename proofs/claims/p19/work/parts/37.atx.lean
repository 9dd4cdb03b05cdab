/-! the class between calls, and its plain questions -/
def hdB (j : Nat) : Bool := decide (j % 2 = 1)
theorem hdB_i (j : Nat) : nI (j % 2) = bI (hdB j) := by
  unfold hdB bI
  rcases (show j % 2 = 0 ∨ j % 2 = 1 by omega) with e | e <;> rw [e] <;> rfl
/-- what the calls say of the object: the text, the tape, the MAKE that is used -/
abbrev Sx : Type := ((Nat → Nat) × Nat) × ((Nat → Nat) × Nat) × Nat
def sT (S : Sx) : Nat → Nat := S.1.1
def sN (S : Sx) : Nat := S.1.2
def sP (S : Sx) : Nat → Nat := S.2.1.1
def sK (S : Sx) : Nat := S.2.1.2
def sU (S : Sx) : Nat := S.2.2
def SOK (S : Sx) : Prop := bOK (sT S) (sN S) ∧ sK S ≤ 400 ∧ (∀ i, i < sK S → sP S i < 256) ∧ sU S < 24
def tbOf (S : Sx) (j : Nat) : Tb := rTb j (sT S) (sN S)
theorem tb_wf {S : Sx} (h : SOK S) (j : Nat) : tWF (tbOf S j) := rTb_wf h.1
def BaX (S : Sx) (w : XW) : Prop := rd_textSize w = nI (sN S) ∧ rd_tapeSize w = nI (sK S) ∧ rd_used w = nI (sU S) ∧ (∀ i, i < sN S → rd_text w i = nI (sT S i)) ∧ ∀ i, i < sK S → rd_tape w i = nI (sP S i)
def ColX (S : Sx) (j : Nat) (w : XW) : Prop := ∀ col, col < tW (tbOf S j) → cs_formOf w col = m2 ∨ Chosen (tbOf S j) (hdB j) col w
/-- cut by MAKE j -/
def AtX (S : Sx) (j : Nat) (w : XW) : Prop := BaX S w ∧ rd_cutBy w = nI j ∧ CutX w j (sT S) (sN S) ∧ ColX S j w
def IX (S : Sx) (w : XW) : Prop := BaX S w ∧ (rd_cutBy w = m1 ∨ ∃ j, j < 24 ∧ AtX S j w)
theorem AtX.i {S : Sx} {j : Nat} {w : XW} (h : AtX S j w) (hj : j < 24) : IX S w := ⟨h.1, Or.inr ⟨j, hj, h⟩⟩
theorem AtX.rep {S : Sx} {j : Nat} {w : XW} (h : AtX S j w) : RepX w (tbOf S j) := h.2.2.1.1
theorem AtX.hd {S : Sx} {j : Nat} {w : XW} (h : AtX S j w) : cu_headed w = bI (hdB j) := by rw [h.2.2.1.2.2.2.2, hdB_i]
theorem BaX.of {S : Sx} {w w' : XW} (h : BaX S w) (e1 : rd_text w' = rd_text w) (e2 : rd_tape w' = rd_tape w) (e3 : rd_textSize w' = rd_textSize w) (e4 : rd_tapeSize w' = rd_tapeSize w) (e5 : rd_used w' = rd_used w) : BaX S w' := by
  unfold BaX
  rw [e1, e2, e3, e4, e5]
  exact h
theorem BaX.of1 {S : Sx} {w w' : XW} (h : BaX S w) (e : w'.1 = w.1) : BaX S w' :=
  h.of (by unfold rd_text; rw [e]) (by unfold rd_tape; rw [e]) (by unfold rd_textSize; rw [e]) (by unfold rd_tapeSize; rw [e]) (by unfold rd_used; rw [e])
theorem CutX.of {w w' : XW} {j : Nat} {tx : Nat → Nat} {n : Nat} (h : CutX w j tx n) (e : w'.2.1 = w.2.1) : CutX w' j tx n := by
  unfold CutX RepX cu_rows cu_cells cu_rowStart cu_cellStart cu_held cu_fault cu_faultSpot cu_quote cu_headed at *
  rw [e]
  exact h
theorem AtX.of {S : Sx} {j : Nat} {w w' : XW} (h : AtX S j w) (e1 : w'.1 = w.1) (e2 : w'.2.1 = w.2.1) (hc : ColX S j w') : AtX S j w' :=
  ⟨h.1.of1 e1, by unfold rd_cutBy at *; rw [e1]; exact h.2.1, h.2.2.1.of e2, hc⟩
theorem Chosen.of {T : Tb} {hd : Bool} {col : Nat} {w w' : XW} (h : Chosen T hd col w) (e1 : cs_formOf w' col = cs_formOf w col) (e2 : cs_codeOf w' col = cs_codeOf w col) (e3 : cs_priceOf w' col = cs_priceOf w col) (e4 : cs_fitting w' col = cs_fitting w col) (e5 : cs_cheapest w' col = cs_cheapest w col) : Chosen T hd col w' := by
  unfold Chosen ChS at *
  rw [e1, e2, e3, e4, e5]
  exact h
theorem ColX.eq3 {S : Sx} {j : Nat} {w w' : XW} (h : ColX S j w) (he : Eq3 w w') : ColX S j w' := by
  intro col hc
  rcases h col hc with e | e
  · exact Or.inl (by rw [he.2.2.1]; exact e)
  · exact Or.inr (e.eq3 he)
theorem AtX.eq3 {S : Sx} {j : Nat} {w w' : XW} (h : AtX S j w) (he : Eq3 w w') : AtX S j w' := h.of he.1 he.2.1 (h.2.2.2.eq3 he)
theorem AtX.eqC {S : Sx} {j : Nat} {w w' : XW} {col : Nat} (h : AtX S j w) (he : EqC col w w') (hc : Chosen (tbOf S j) (hdB j) col w') : AtX S j w' := by
  refine h.of he.1 he.2.1 (fun k hk => ?_)
  by_cases e : k = col
  · subst e; exact Or.inr hc
  · have q := he.2.2 k e
    rcases h.2.2.2 k hk with y | y
    · exact Or.inl (by rw [q.1]; exact y)
    · exact Or.inr (y.of q.1 q.2.1 q.2.2.1 q.2.2.2.1 q.2.2.2.2)
theorem pr_of {w w' : XW} (e : w'.1 = w.1) : rd_prices w' = rd_prices w := by unfold rd_prices; rw [e]
theorem m1_ne {j : Nat} (hj : j < 2 ^ 31) : ¬ m1 = nI j := fun y => by rw [m1_eq hj] at y; exact y
theorem X_ctb {S : Sx} {w : XW} {K : XW → Prop} {j : Nat} (hS : SOK S) (h : IX S w) (hj : j < 24) (hk : ∀ w', AtX S j w' → rd_prices w' = rd_prices w → K w') : P_X3_cutTextBy K w (nI j) := by
  unfold P_X3_cutTextBy P_X0_forget
  obtain ⟨hB, h5⟩ := h
  refine ⟨fun z => ?_, fun z => ?_⟩
  · rcases h5 with e | ⟨i, hi, e⟩
    · rw [e] at z
      exact absurd z (m1_ne (by omega))
    · have := e.2.1
      rw [this] at z
      have := (nI_eq (by omega) (by omega)).mp z
      subst this
      exact hk w e rfl
  · rw [hB.1]
    refine x_cutText hj hS.1 hB.2.2.2.1 (fun w1 g1 g2 g3 => ?_)
    have hB1 := hB.of1 g1
    refine hk _ ⟨hB1.of ?_ ?_ ?_ ?_ ?_, ?_, g3.of rfl, fun col hc => Or.inl ?_⟩ ?_
    · simp [gs_rd_cutBy]; rfl
    · simp [gs_rd_cutBy]; rfl
    · simp [gs_rd_cutBy]; rfl
    · simp [gs_rd_cutBy]; rfl
    · simp [gs_rd_cutBy]; rfl
    · simp [gs_rd_cutBy]
    · have := tW_le (tb_wf hS j)
      simp [gs_rd_cutBy]
      simp [gs_cs_formOf, ar_fill, show col < 12 by omega]
      rfl
    · rw [← pr_of g1]; simp [gs_rd_cutBy]; rfl
theorem X_used {S : Sx} {w : XW} {K : XW → Prop} (hS : SOK S) (h : IX S w) (hk : ∀ w', AtX S (sU S) w' → rd_prices w' = rd_prices w → K w') : P_X3_cutTextBy K w (rd_used w) := by
  rw [h.1.2.2.1]
  exact X_ctb hS h hS.2.2.2 hk
/-! answers -/
def rg (n : Nat) (f : Nat → Int32) (d v : Int32) : Int32 := if 0 ≤ v.toInt ∧ v.toInt < n then f v.toNatClampNeg else d
theorem rg_i {n : Nat} {f : Nat → Int32} {d v : Int32} {j : Nat} (hn : n < 2 ^ 31) (hj : j < n) (e : v = nI j) : rg n f d v = f j := by
  unfold rg
  rw [e, nI_toInt (by omega), nI_clamp (by omega), if_pos (by omega)]
theorem rg_o {n : Nat} {f : Nat → Int32} {d v : Int32} (h : ¬ (0 ≤ v.toInt ∧ v.toInt < n)) : rg n f d v = d := if_neg h
theorem rg_k {n : Nat} {f : Nat → Int32} {d v : Int32} {P : Int32 → Prop} (hn : n < 2 ^ 31) (h : P (rg n f d v)) : (∀ j, j < n → v = nI j → P (f j)) ∧ (¬ (0 ≤ v.toInt ∧ v.toInt < n) → P d) :=
  ⟨fun j hj e => by rw [rg_i hn hj e] at h; exact h, fun z => by rw [rg_o z] at h; exact h⟩
def aReads (S : Sx) (v : Int32) : Int32 := rg 24 (fun j => nI (rFt j (sT S) (sN S))) m1 v
def aFault (S : Sx) (v : Int32) : Int32 := rg 24 (fun j => rAt j (sT S) (sN S)) m1 v
theorem X_reads {S : Sx} {w : XW} {K : Int32 → XW → Prop} {v : Int32} (hS : SOK S) (h : IX S w) (hk : ∀ w', IX S w' → rd_prices w' = rd_prices w → K (aReads S v) w') : P_X3_reads K w v := by
  unfold P_X3_reads
  refine x_isMake (fun j hj e => ⟨fun _ => ?_, fun z => absurd z (by decide)⟩) (fun z => ⟨fun y => absurd rfl y, fun _ => ?_⟩)
  · rw [e]
    refine X_ctb hS h hj (fun w' g1 g2 => ?_)
    rw [g1.2.2.1.2.1]
    exact (rg_k (P := fun r => K r w') (by decide) (hk w' (g1.i hj) g2)).1 j hj e
  · exact (rg_k (P := fun r => K r w) (by decide) (hk w h rfl)).2 z
theorem X_faultAt {S : Sx} {w : XW} {K : Int32 → XW → Prop} {v : Int32} (hS : SOK S) (h : IX S w) (hk : ∀ w', IX S w' → rd_prices w' = rd_prices w → K (aFault S v) w') : P_X3_faultAt K w v := by
  unfold P_X3_faultAt
  refine x_isMake (fun j hj e => ⟨fun _ => ?_, fun z => absurd z (by decide)⟩) (fun z => ⟨fun y => absurd rfl y, fun _ => ?_⟩)
  · rw [e]
    refine X_ctb hS h hj (fun w' g1 g2 => ?_)
    rw [g1.2.2.1.2.2.1]
    exact (rg_k (P := fun r => K r w') (by decide) (hk w' (g1.i hj) g2)).1 j hj e
  · exact (rg_k (P := fun r => K r w) (by decide) (hk w h rfl)).2 z
/-- how many of the first k rows are ODD -/
def ocN (T : Tb) : Nat → Nat
  | 0 => 0
  | k + 1 => ocN T k + (if tOdd T k then 1 else 0)
theorem x_oddRows {w : XW} {T : Tb} {K : Int32 → Prop} (hT : tWF T) (h : RepX w T) (hk : K (nI (ocN T (tR T)))) : P_X1_oddRows K w := by
  have hR := hT.1
  have L : ∀ d r, r + d = tR T → P_X1_oddRows_4 K w (d + 1) (nI (ocN T r)) (nI r) := by
    intro d
    induction d with
    | zero =>
      intro r he
      have : r = tR T := by omega
      subst this
      exact ⟨fun _ => hk, fun z => absurd (by rw [h.1]; exact Int32.le_refl _) z⟩
    | succ d ih =>
      intro r he
      refine ⟨fun z => absurd z (by rw [h.1]; exact nI_ge (by omega) (by omega)), fun _ => x_isOdd hT h (by omega) ?_⟩
      have nx := ih (r + 1) (by omega)
      unfold ocN at nx
      unfold P_X1_oddRows_26
      rw [nI_1]
      cases e : tOdd T r with
      | true =>
        rw [e] at nx
        exact ⟨fun z => absurd z (by decide), fun _ => by rw [show nI (ocN T r) + (1 : Int32) = nI (ocN T r + 1) from nI_1 _]; exact nx⟩
      | false =>
        rw [e] at nx
        exact ⟨fun _ => by rw [show nI (ocN T r) + (0 : Int32) = nI (ocN T r + 0) from nI_add _ 0]; exact nx, fun z => absurd rfl z⟩
  exact ⟨tR T + 1, L (tR T) 0 (by omega)⟩
def aAbout (S : Sx) (v : Int32) : Int32 := if v = 0 then nI (tR (tbOf S (sU S))) else if v = 1 then nI (tW (tbOf S (sU S))) else if v = 2 then nI (ocN (tbOf S (sU S)) (tR (tbOf S (sU S)))) else if v = 3 then nI (sU S) else if v = 4 then nI (sN S) else if v = 5 then nI (sK S) else m1
theorem X_about {S : Sx} {w : XW} {K : Int32 → XW → Prop} {v : Int32} (hS : SOK S) (h : IX S w) (hk : ∀ w', IX S w' → rd_prices w' = rd_prices w → K (aAbout S v) w') : P_X3_about K w v := by
  unfold P_X3_about
  unfold aAbout at hk
  refine X_used hS h (fun w' g1 g2 => ?_)
  have hk := hk w' (g1.i hS.2.2.2) g2
  have hT := tb_wf hS (sU S)
  refine ⟨fun z => ?_, fun z => ?_, fun z => ?_, fun z => ?_, fun z => ?_, fun z => ?_, fun z0 z1 z2 z3 z4 z5 => ?_⟩
  · subst z; rw [if_pos rfl] at hk; rw [g1.rep.1]; exact hk
  · subst z; rw [if_neg (by decide), if_pos rfl] at hk; exact x_width hT g1.rep hk
  · subst z; rw [if_neg (by decide), if_neg (by decide), if_pos rfl] at hk; exact x_oddRows hT g1.rep hk
  · subst z; rw [if_neg (by decide), if_neg (by decide), if_neg (by decide), if_pos rfl] at hk; rw [g1.1.2.2.1]; exact hk
  · subst z; rw [if_neg (by decide), if_neg (by decide), if_neg (by decide), if_neg (by decide), if_pos rfl] at hk; rw [g1.1.1]; exact hk
  · subst z; rw [if_neg (by decide), if_neg (by decide), if_neg (by decide), if_neg (by decide), if_neg (by decide), if_pos rfl] at hk; rw [g1.1.2.1]; exact hk
  · rw [if_neg z0, if_neg z1, if_neg z2, if_neg z3, if_neg z4, if_neg z5] at hk; exact hk
/-- the ODD row that left others are ahead of -/
def oddS (T : Tb) : Nat → Nat → Int32 → Int32
  | 0, _, _ => m1
  | d + 1, r, k => if tOdd T r then (if k = 0 then nI r else oddS T d (r + 1) (k + (-1 : Int32))) else oddS T d (r + 1) k
def aOdd (S : Sx) (v : Int32) : Int32 := oddS (tbOf S (sU S)) (tR (tbOf S (sU S))) 0 v
theorem X_odd {S : Sx} {w : XW} {K : Int32 → XW → Prop} {v : Int32} (hS : SOK S) (h : IX S w) (hk : ∀ w', IX S w' → rd_prices w' = rd_prices w → K (aOdd S v) w') : P_X3_odd K w v := by
  unfold P_X3_odd
  refine X_used hS h (fun w' g1 g2 => ?_)
  have hk := hk w' (g1.i hS.2.2.2) g2
  have hT := tb_wf hS (sU S)
  have hR := hT.1
  have hrep := g1.rep
  unfold aOdd at hk
  generalize tbOf S (sU S) = T at *
  have L : ∀ d r k, r + d = tR T → K (oddS T d r k) w' → P_X3_odd_12 K (d + 1) w' k (nI r) := by
    intro d
    induction d with
    | zero =>
      intro r k he hk
      have : r = tR T := by omega
      subst this
      exact ⟨fun _ => hk, fun z => absurd (by rw [hrep.1]; exact Int32.le_refl _) z⟩
    | succ d ih =>
      intro r k he hk
      refine ⟨fun z => absurd z (by rw [hrep.1]; exact nI_ge (by omega) (by omega)), fun _ => x_isOdd hT hrep (by omega) ?_⟩
      unfold oddS at hk
      unfold P_X3_odd_43
      rw [nI_1]
      cases e : tOdd T r with
      | true =>
        rw [e, if_pos rfl] at hk
        refine ⟨fun z => absurd z (by decide), fun _ => ⟨fun z => ?_, fun z => ?_⟩⟩
        · rw [if_neg z] at hk; exact ih (r + 1) _ (by omega) hk
        · rw [if_pos z] at hk; exact hk
      | false =>
        rw [e, if_neg (by decide)] at hk
        exact ⟨fun _ => ih (r + 1) _ (by omega) hk, fun z => absurd rfl z⟩
  exact ⟨tR T + 1, L (tR T) 0 v (by omega) hk⟩
def aBreadth (S : Sx) (v : Int32) : Int32 := rg (tR (tbOf S (sU S))) (fun r => nI (tCells (tbOf S (sU S)) r)) m1 v
theorem X_breadth {S : Sx} {w : XW} {K : Int32 → XW → Prop} {v : Int32} (hS : SOK S) (h : IX S w) (hk : ∀ w', IX S w' → rd_prices w' = rd_prices w → K (aBreadth S v) w') : P_X3_breadth K w v := by
  unfold P_X3_breadth
  refine X_used hS h (fun w' g1 g2 => ?_)
  have hT := tb_wf hS (sU S)
  have hR := hT.1
  have q := rg_k (P := fun r => K r w') (by omega) (hk w' (g1.i hS.2.2.2) g2)
  by_cases z : 0 ≤ v.toInt ∧ v.toInt < tR (tbOf S (sU S))
  · obtain ⟨r, hr, rfl⟩ := in_of z
    exact x_cellsOf hT g1.rep hr (q.1 r hr rfl)
  · exact x_cellsOf_o hT g1.rep z (q.2 z)
/-- the number of a cell among all; -1 of none -/
def cellA (T : Tb) (v c : Int32) : Int32 := rg (tR T) (fun r => rg (tCells T r) (fun k => nI (tS T r + k)) m1 c) m1 v
theorem x_cellA {w : XW} {T : Tb} {K : Int32 → Prop} (hT : tWF T) (h : RepX w T) {v c : Int32} (hk : K (cellA T v c)) : P_X1_cellIn K w v c := by
  have hR := hT.1
  have q := rg_k (P := fun r => K r) (by omega) hk
  by_cases z : 0 ≤ v.toInt ∧ v.toInt < tR T
  · obtain ⟨r, hr, rfl⟩ := in_of z
    have g := (hT.2.2.1 r hr).2
    have q2 := rg_k (P := fun r => K r) (show tCells T r < 2 ^ 31 by unfold tCells; omega) (q.1 r hr rfl)
    by_cases y : 0 ≤ c.toInt ∧ c.toInt < tCells T r
    · obtain ⟨k, hk2, rfl⟩ := in_of y
      exact x_cellIn hT h hr hk2 (q2.1 k hk2 rfl)
    · exact x_cellIn_p hT h hr y (q2.2 y)
  · exact x_cellIn_o hT h z (q.2 z)
theorem cellA_c {T : Tb} (hT : tWF T) (v c : Int32) : cellA T v c = m1 ∨ ∃ n, n < tN T ∧ cellA T v c = nI n := by
  have hR := hT.1
  unfold cellA
  by_cases z : 0 ≤ v.toInt ∧ v.toInt < tR T
  · obtain ⟨r, hr, rfl⟩ := in_of z
    have g := (hT.2.2.1 r hr).2
    rw [rg_i (by omega) hr rfl]
    by_cases y : 0 ≤ c.toInt ∧ c.toInt < tCells T r
    · obtain ⟨k, hk2, rfl⟩ := in_of y
      rw [rg_i (by unfold tCells; omega) hk2 rfl]
      refine Or.inr ⟨_, ?_, rfl⟩
      have := tS_le hT (r := r + 1) (s := tR T) (by omega) (Nat.le_refl _)
      unfold tCells at hk2
      unfold tN
      omega
    · exact Or.inl (rg_o y)
  · exact Or.inl (rg_o z)
def lenA (T : Tb) (c : Int32) : Int32 := rg (tN T) (fun k => nI (tLen T k)) m1 c
def byteA (T : Tb) (c k : Int32) : Int32 := rg (tN T) (fun n => rg (tLen T n) (fun i => nI (tb T n i)) m1 k) m1 c
def aSize (S : Sx) (v c : Int32) : Int32 := lenA (tbOf S (sU S)) (cellA (tbOf S (sU S)) v c)
def aAt (S : Sx) (v c k : Int32) : Int32 := byteA (tbOf S (sU S)) (cellA (tbOf S (sU S)) v c) k
theorem m1_out (n : Nat) : ¬ (0 ≤ m1.toInt ∧ m1.toInt < n) := by rw [m1_i]; omega
theorem x_lenA {w : XW} {T : Tb} {K : Int32 → Prop} (hT : tWF T) (h : RepX w T) {c : Int32} (hc : c = m1 ∨ ∃ n, n < tN T ∧ c = nI n) (hk : K (lenA T c)) : P_X1_lengthOf K w c := by
  have hN := tN_le hT
  rcases hc with e | ⟨n, hn, e⟩
  · subst e
    unfold lenA at hk
    rw [rg_o (m1_out _)] at hk
    exact x_lengthOf_m hk
  · subst e
    unfold lenA at hk
    rw [rg_i (by omega) hn rfl] at hk
    exact x_lengthOf hT h hn hk
theorem x_byteA {w : XW} {T : Tb} {K : Int32 → Prop} (hT : tWF T) (h : RepX w T) {c k : Int32} (hc : c = m1 ∨ ∃ n, n < tN T ∧ c = nI n) (hk : K (byteA T c k)) : P_X1_byteIn K w c k := by
  have hN := tN_le hT
  rcases hc with e | ⟨n, hn, e⟩
  · subst e
    unfold byteA at hk
    rw [rg_o (m1_out _)] at hk
    exact x_byteIn_m hk
  · subst e
    unfold byteA at hk
    rw [rg_i (by omega) hn rfl] at hk
    have hl := tLen_le hT hn
    by_cases y : 0 ≤ k.toInt ∧ k.toInt < tLen T n
    · obtain ⟨i, hi, rfl⟩ := in_of y
      rw [rg_i (by omega) hi rfl] at hk
      exact x_byteIn hT h hn hi hk
    · rw [rg_o y] at hk
      exact x_byteIn_o hT h hn y hk
theorem X_size {S : Sx} {w : XW} {K : Int32 → XW → Prop} {v c : Int32} (hS : SOK S) (h : IX S w) (hk : ∀ w', IX S w' → rd_prices w' = rd_prices w → K (aSize S v c) w') : P_X3_size K w v c := by
  unfold P_X3_size
  refine X_used hS h (fun w' g1 g2 => ?_)
  have hT := tb_wf hS (sU S)
  exact x_cellA hT g1.rep (x_lenA hT g1.rep (cellA_c hT v c) (hk w' (g1.i hS.2.2.2) g2))
theorem X_at {S : Sx} {w : XW} {K : Int32 → XW → Prop} {v c k : Int32} (hS : SOK S) (h : IX S w) (hk : ∀ w', IX S w' → rd_prices w' = rd_prices w → K (aAt S v c k) w') : P_X3_at K w v c k := by
  unfold P_X3_at
  refine X_used hS h (fun w' g1 g2 => ?_)
  have hT := tb_wf hS (sU S)
  exact x_cellA hT g1.rep (x_byteA hT g1.rep (cellA_c hT v c) (hk w' (g1.i hS.2.2.2) g2))
