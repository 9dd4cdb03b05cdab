/-! the reference's plain questions -/
def KnE (w w' : MW) : Prop := md_isKnown w' = md_isKnown w ∧ md_costs w' = md_costs w
theorem KnE.rf (w : MW) : KnE w w := ⟨rfl, rfl⟩
theorem KnE.tr {a b c : MW} (h1 : KnE a b) (h2 : KnE b c) : KnE a c := ⟨h2.1.trans h1.1, h2.2.trans h1.2⟩
theorem M_reads {S : Sx} {w : MW} {K : Int32 → MW → Prop} {v : Int32} (hS : SOK S) (h : IM S w) (hk : ∀ w', IM S w' → KnE w w' → K (aReads S v) w') : P_X4_reads K w v := by
  unfold P_X4_reads
  refine m_isMake (fun j hj e => ⟨fun _ => ?_, fun z => absurd z (by decide)⟩) (fun z => ⟨fun y => absurd rfl y, fun _ => ?_⟩)
  · rw [e]
    refine M_load hS h hj (fun w' g1 g2 g3 => ?_)
    rw [g1.2.2.2.1]
    exact (rg_k (P := fun r => K r w') (by decide) (hk w' (g1.i hj) ⟨g2, g3⟩)).1 j hj e
  · exact (rg_k (P := fun r => K r w) (by decide) (hk w h (KnE.rf w))).2 z
theorem M_faultAt {S : Sx} {w : MW} {K : Int32 → MW → Prop} {v : Int32} (hS : SOK S) (h : IM S w) (hk : ∀ w', IM S w' → KnE w w' → K (aFault S v) w') : P_X4_faultAt K w v := by
  unfold P_X4_faultAt
  refine m_isMake (fun j hj e => ⟨fun _ => ?_, fun z => absurd z (by decide)⟩) (fun z => ⟨fun y => absurd rfl y, fun _ => ?_⟩)
  · rw [e]
    refine M_load hS h hj (fun w' g1 g2 g3 => ?_)
    rw [g1.2.2.2.2.1]
    exact (rg_k (P := fun r => K r w') (by decide) (hk w' (g1.i hj) ⟨g2, g3⟩)).1 j hj e
  · exact (rg_k (P := fun r => K r w) (by decide) (hk w h (KnE.rf w))).2 z
theorem M_about {S : Sx} {w : MW} {K : Int32 → MW → Prop} {v : Int32} (hS : SOK S) (h : IM S w) (hk : ∀ w', IM S w' → KnE w w' → K (aAbout S v) w') : P_X4_about K w v := by
  unfold P_X4_about
  unfold aAbout at hk
  refine M_used hS h (fun w' g1 g2 g3 => ?_)
  have hk := hk w' (g1.i hS.2.2.2) ⟨g2, g3⟩
  have hT := tb_wf hS (sU S)
  refine ⟨fun z => ?_, fun z => ?_, fun z => ?_, fun z => ?_, fun z => ?_, fun z => ?_, fun z0 z1 z2 z3 z4 z5 => ?_⟩
  · subst z; rw [if_pos rfl] at hk; rw [g1.2.2.1.1]; exact hk
  · subst z; rw [if_neg (by decide), if_pos rfl] at hk; exact m_width hT g1.2.2.1 hk
  · subst z; rw [if_neg (by decide), if_neg (by decide), if_pos rfl] at hk; rw [g1.2.2.2.2.2]; exact hk
  · subst z; rw [if_neg (by decide), if_neg (by decide), if_neg (by decide), if_pos rfl] at hk; rw [g1.1.2.2.1]; exact hk
  · subst z; rw [if_neg (by decide), if_neg (by decide), if_neg (by decide), if_neg (by decide), if_pos rfl] at hk; rw [g1.1.1]; exact hk
  · subst z; rw [if_neg (by decide), if_neg (by decide), if_neg (by decide), if_neg (by decide), if_neg (by decide), if_pos rfl] at hk; rw [g1.1.2.1]; exact hk
  · rw [if_neg z0, if_neg z1, if_neg z2, if_neg z3, if_neg z4, if_neg z5] at hk; exact hk
theorem dec_toInt (k : Int32) : (k + (-1 : Int32)).toInt = k.toInt - 1 ∨ (k.toInt = -2147483648 ∧ (k + (-1 : Int32)).toInt = 2147483647) := by
  have h1 := Int32.le_toInt k
  have h2 := Int32.toInt_lt k
  rw [Int32.toInt_add, show (-1 : Int32).toInt = -1 from rfl]
  by_cases e : k.toInt = -2147483648
  · right
    refine ⟨e, ?_⟩
    rw [e]
    decide
  · left
    rw [Int.bmod_eq_of_le (by omega) (by omega)]
    omega
theorem oddS_out (T : Tb) : ∀ (d r : Nat) (k : Int32), d ≤ 80 → ¬ (0 ≤ k.toInt ∧ k.toInt < (d : Int)) → oddS T d r k = m1 := by
  intro d
  induction d with
  | zero => intro r k _ _; rfl
  | succ d ih =>
    intro r k hd hk
    unfold oddS
    split
    · rw [if_neg (fun e => hk (by rw [e]; show 0 ≤ (0 : Int) ∧ (0 : Int) < _; omega))]
      refine ih (r + 1) _ (by omega) ?_
      rcases dec_toInt k with e | ⟨e, e2⟩
      · rw [e]; omega
      · rw [e2]; omega
    · exact ih (r + 1) k (by omega) (by omega)
theorem M_odd {S : Sx} {w : MW} {K : Int32 → MW → Prop} {v : Int32} (hS : SOK S) (h : IM S w) (hk : ∀ w', IM S w' → KnE w w' → K (aOdd S v) w') : P_X4_odd K w v := by
  unfold P_X4_odd
  refine M_used hS h (fun w' g1 g2 g3 => ?_)
  have hk := hk w' (g1.i hS.2.2.2) ⟨g2, g3⟩
  have hT := tb_wf hS (sU S)
  have hR := hT.1
  have hrep := g1.2.2.1
  unfold aOdd at hk
  generalize tbOf S (sU S) = T at *
  by_cases zn : v < 0
  · rw [oddS_out T (tR T) 0 v hR (fun y => by have := Int32.lt_iff_toInt_lt.mp zn; rw [show (0 : Int32).toInt = 0 from rfl] at this; omega)] at hk
    refine ⟨1, ⟨fun _ => hk, fun _ => ⟨fun _ => hk, fun y => absurd zn y⟩⟩⟩
  · obtain ⟨k, hk31, rfl⟩ := nI_of zn
    have L : ∀ d r i, r + d = tR T → i ≤ k → i ≤ r → K (oddS T d r (nI (k - i))) w' → P_X4_odd_12 K (nI k) (d + 1) w' (nI i) (nI r) := by
      intro d
      induction d with
      | zero =>
        intro r i er hi hir hk
        have : r = tR T := by omega
        subst this
        exact ⟨fun _ => hk, fun z => absurd (by rw [hrep.1]; exact Int32.le_refl _) z⟩
      | succ d ih =>
        intro r i er hi hir hk
        refine ⟨fun z => absurd z (by rw [hrep.1]; exact nI_ge (by omega) (by omega)), fun _ => ⟨fun z => absurd z zn, fun _ => m_isOdd hT hrep (by omega) ?_⟩⟩
        unfold oddS at hk
        unfold P_X4_odd_45
        rw [nI_1, nI_1]
        cases e : tOdd T r with
        | true =>
          rw [e, if_pos rfl] at hk
          refine ⟨fun _ => ⟨fun z => ?_, fun z => ?_⟩, fun z => absurd z (by decide)⟩
          · have nk : i ≠ k := fun e => z (by rw [e])
            rw [if_neg (show ¬ nI (k - i) = 0 from nI_ne0 (by omega) (by omega)), show nI (k - i) = nI (k - (i + 1) + 1) by rw [show k - (i + 1) + 1 = k - i by omega], pk_m1] at hk
            exact ih (r + 1) (i + 1) (by omega) (by omega) (by omega) hk
          · have ek : i = k := (nI_eq (by omega) (by omega)).mp z
            rw [if_pos (by rw [ek, Nat.sub_self]; rfl)] at hk
            exact hk
        | false =>
          rw [e, if_neg (by decide)] at hk
          exact ⟨fun z => absurd rfl z, fun _ => ih (r + 1) i (by omega) hi (by omega) hk⟩
    exact ⟨tR T + 1, L (tR T) 0 0 (by omega) (Nat.zero_le _) (Nat.zero_le _) hk⟩
theorem m_isRow {w : MW} {T : Tb} {K : Int32 → Prop} {v : Int32} (hT : tWF T) (h : RepM w T) (h1 : ∀ r, r < tR T → v = nI r → K 1) (h0 : ¬ (0 ≤ v.toInt ∧ v.toInt < tR T) → K 0) : P_X4_isRow K w v := by
  have hR := hT.1
  unfold P_X4_isRow
  rw [h.1]
  exact m_in (K := fun r => vz r ∧ K r) (by omega) (fun j hj e => ⟨vz_1, h1 j hj e⟩) (fun z => ⟨vz_0, h0 z⟩)
theorem M_breadth {S : Sx} {w : MW} {K : Int32 → MW → Prop} {v : Int32} (hS : SOK S) (h : IM S w) (hk : ∀ w', IM S w' → KnE w w' → K (aBreadth S v) w') : P_X4_breadth K w v := by
  unfold P_X4_breadth
  refine M_used hS h (fun w' g1 g2 g3 => ?_)
  have hT := tb_wf hS (sU S)
  have hR := hT.1
  have q := rg_k (P := fun r => K r w') (by omega) (hk w' (g1.i hS.2.2.2) ⟨g2, g3⟩)
  refine m_isRow hT g1.2.2.1 (fun r hr e => ⟨fun z => absurd z (by decide), fun _ => ?_⟩) (fun z => ⟨fun _ => q.2 z, fun y => absurd rfl y⟩)
  have q1 := q.1 r hr e
  rw [e]
  exact m_cellsOf hT g1.2.2.1 hr q1
theorem M_cellAt {S : Sx} {w : MW} {K : Int32 → MW → Prop} {v c : Int32} (hS : SOK S) (h : IM S w) (hk : ∀ w', AtM S (sU S) w' → KnE w w' → K (cellA (tbOf S (sU S)) v c) w') : P_X4_cellAt K w v c := by
  unfold P_X4_cellAt
  refine M_used hS h (fun w' g1 g2 g3 => ?_)
  have hT := tb_wf hS (sU S)
  have hR := hT.1
  have q := rg_k (P := fun r => K r w') (by omega) (hk w' g1 ⟨g2, g3⟩)
  refine m_isRow hT g1.2.2.1 (fun r hr e => ⟨fun z => absurd z (by decide), fun _ => ?_⟩) (fun z => ⟨fun _ => q.2 z, fun y => absurd rfl y⟩)
  have g := (hT.2.2.1 r hr).2
  have hcl : tCells (tbOf S (sU S)) r < 2 ^ 31 := by unfold tCells; omega
  have q2 := rg_k (P := fun r => K r w') hcl (q.1 r hr e)
  rw [e]
  refine m_cellsOf hT g1.2.2.1 hr (m_in hcl (fun k hk2 e2 => ⟨fun z => absurd z (by decide), fun _ => ⟨vp_in_nI (by omega) (by decide), ?_⟩⟩) (fun z => ⟨fun _ => q2.2 z, fun y => absurd rfl y⟩))
  rw [nI_clamp (by omega), g1.2.2.1.2.1 r (by omega) (by omega), e2, nI_add]
  exact q2.1 k hk2 e2
theorem m_byteOf {w : MW} {T : Tb} {K : Int32 → Prop} {c k : Nat} (hT : tWF T) (h : RepM w T) (hc : c < tN T) (hl : k < tLen T c) (hk : K (nI (tb T c k))) : P_X4_byteOf K w (nI c) (nI k) := by
  have hN := tN_le hT
  have g1 := hT.2.2.2.2.1 c hc
  have g2 := tC_up hT (c := c + 1) (by omega)
  have g3 := tC_le hT (r := c + 1) (s := tN T) (by omega) (Nat.le_refl _)
  unfold tLen at hl
  unfold P_X4_byteOf
  rw [nI_clamp (by omega), h.2.2.1 c hc, nI_add, nI_clamp (by omega), h.2.2.2.2 _ (by omega)]
  exact ⟨vp_in_nI (by omega) (by decide), vp_in_nI (by omega) (by decide), hk⟩
theorem M_size {S : Sx} {w : MW} {K : Int32 → MW → Prop} {v c : Int32} (hS : SOK S) (h : IM S w) (hk : ∀ w', IM S w' → KnE w w' → K (aSize S v c) w') : P_X4_size K w v c := by
  unfold P_X4_size
  refine M_cellAt hS h (fun w' g1 g2 => ?_)
  have hT := tb_wf hS (sU S)
  have hN := tN_le hT
  have hk := hk w' (g1.i hS.2.2.2) g2
  unfold aSize lenA at hk
  rcases cellA_c hT v c with e | ⟨n, hn, e⟩
  · rw [e] at hk ⊢
    rw [rg_o (m1_out _)] at hk
    exact ⟨fun z => absurd z (by decide), fun _ => hk⟩
  · rw [e] at hk ⊢
    rw [rg_i (by omega) hn rfl] at hk
    refine ⟨fun _ => ⟨vp_in_nI (by omega) (by decide), ?_⟩, fun z => absurd (nI_pos' (by omega)) z⟩
    rw [nI_clamp (by omega), g1.2.2.1.2.2.2.1 n hn]
    exact hk
/-- a byte of a cell, asked by any number -/
theorem m_byteA {w : MW} {T : Tb} {K : Int32 → Prop} {c : Nat} {k : Int32} (hT : tWF T) (h : RepM w T) (hc : c < tN T) (hk : K (byteA T (nI c) k)) : P_X4_in (fun r => (¬ r = 0 → P_X4_byteOf K w (nI c) k) ∧ (r = 0 → K m1)) k 0 (nI (tLen T c) - 1) := by
  have hN := tN_le hT
  have hl := tLen_le hT hc
  unfold byteA at hk
  rw [rg_i (by omega) hc rfl] at hk
  refine m_in (by omega) (fun i hi e => ⟨fun _ => ?_, fun z => absurd z (by decide)⟩) (fun z => ⟨fun y => absurd rfl y, fun _ => ?_⟩)
  · rw [rg_i (by omega) hi e] at hk
    rw [e]
    exact m_byteOf hT h hc hi hk
  · rw [rg_o z] at hk
    exact hk
theorem M_at {S : Sx} {w : MW} {K : Int32 → MW → Prop} {v c k : Int32} (hS : SOK S) (h : IM S w) (hk : ∀ w', IM S w' → KnE w w' → K (aAt S v c k) w') : P_X4_at K w v c k := by
  unfold P_X4_at
  refine M_cellAt hS h (fun w' g1 g2 => ?_)
  have hT := tb_wf hS (sU S)
  have hN := tN_le hT
  have hk := hk w' (g1.i hS.2.2.2) g2
  unfold aAt at hk
  rcases cellA_c hT v c with e | ⟨n, hn, e⟩
  · rw [e] at hk ⊢
    unfold byteA at hk
    rw [rg_o (m1_out _)] at hk
    exact ⟨fun _ => hk, fun z => absurd (by decide) z⟩
  · rw [e] at hk ⊢
    refine ⟨fun z => absurd z (nI_pos (by omega)), fun _ => ⟨vp_in_nI (by omega) (by decide), ?_⟩⟩
    rw [nI_clamp (by omega), g1.2.2.1.2.2.2.1 n hn]
    exact m_byteA (K := fun r => K r w') hT g1.2.2.1 hn hk
