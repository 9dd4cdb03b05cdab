/-! what a MAKE costs, the reference's side -/
/-- what a row costs beside the COLUMNS -/
def rcN (T : Tb) (hd : Bool) (r : Nat) : Nat := if r = 0 ∧ hd = true then 4 * tW T + 8 * bytR T 0 else if tOdd T r then 30 + 8 * bytR T r else 0
theorem tC_sum {T : Tb} (hT : tWF T) {a b : Nat} (h1 : a ≤ b) (h2 : b ≤ tN T) : tC T a ≤ tC T b := tC_le hT h1 h2
theorem m_rowCost {w : MW} {T : Tb} {K : Int32 → Prop} {j r : Nat} (hT : tWF T) (h : RepM w T) (hj : j < 24) (hr : r < tR T) (hk : K (nI (rcN T (hdB j) r))) : P_X4_rowCost K w (nI r) (nI j) := by
  have hR := hT.1
  have g1 := hT.2.2.1 r hr
  have g2 := tS_up hT (r + 1) (by omega)
  have g3 := tS_le hT (r := r + 1) (s := tR T) (by omega) (Nat.le_refl _)
  have gN : tN T = tS T (tR T) := rfl
  -- the sum over a row's cells
  have L : ∀ (hv : Nat) (h4 : Int32) (base : Nat), (h4 = 0 ∧ hv = 0) ∨ (h4 = 1 ∧ hv = 4) → K (nI (base + hv * tCells T r + 8 * bytR T r)) → ∀ d c, c + d = tS T (r + 1) → tS T r ≤ c → P_X4_rowCost_51 K w (nI r) h4 (d + 1) (nI (base + hv * (c - tS T r) + 8 * (tC T c - tC T (tS T r)))) (nI c) := by
    intro hv h4 base hh hk d
    induction d with
    | zero =>
      intro c ec hc
      have : c = tS T (r + 1) := by omega
      subst this
      refine ⟨by rw [nI_1]; exact vp_in_nI (by omega) (by decide), ?_⟩
      rw [nI_1, nI_clamp (by omega), h.2.1 _ (by omega) (by omega)]
      exact ⟨fun _ => hk, fun z => absurd (Int32.le_refl _) z⟩
    | succ d ih =>
      intro c ec hc
      have hcN : c < tN T := by omega
      have hN := tN_le hT
      have m1' := tC_le hT (r := tS T r) (s := c) hc (by omega)
      have m2' := hT.2.2.2.2.1 c hcN
      have nx := ih (c + 1) (by omega) (by omega)
      refine ⟨by rw [nI_1]; exact vp_in_nI (by omega) (by decide), ?_⟩
      rw [nI_1, nI_clamp (by omega), h.2.1 _ (by omega) (by omega)]
      refine ⟨fun z => absurd z (nI_ge (by omega) (by omega)), fun _ => ?_⟩
      unfold P_X4_rowCost_75
      rw [nI_clamp (by omega), h.2.2.2.1 c hcN, nI_1]
      have ic : vp_in (nI c) 960 := vp_in_nI (by omega) (by decide)
      have eq : ∀ q : Nat, q = hv → nI (base + hv * (c - tS T r) + 8 * (tC T c - tC T (tS T r))) + (nI q + (8 : Int32) * nI (tLen T c)) = nI (base + hv * (c + 1 - tS T r) + 8 * (tC T (c + 1) - tC T (tS T r))) := by
        intro q eq
        subst eq
        rw [show (8 : Int32) = nI 8 from rfl, pk_mul, nI_add, nI_add]
        congr 1
        unfold tLen
        rw [show c + 1 - tS T r = (c - tS T r) + 1 by omega, Nat.mul_add]
        omega
      rcases hh with ⟨e1, e2⟩ | ⟨e1, e2⟩
      · refine ⟨fun _ => ⟨ic, ?_⟩, fun z => absurd e1 z⟩
        rw [show (0 : Int32) = nI 0 from rfl, eq 0 e2.symm]
        exact nx
      · refine ⟨fun z => absurd (e1.symm.trans z) (by decide), fun _ => ⟨ic, ?_⟩⟩
        rw [show (4 : Int32) = nI 4 from rfl, eq 4 e2.symm]
        exact nx
  have c41 : ∀ (hv : Nat) (h4 : Int32) (base : Nat), (h4 = 0 ∧ hv = 0) ∨ (h4 = 1 ∧ hv = 4) → K (nI (base + hv * tCells T r + 8 * bytR T r)) → P_X4_rowCost_41 K w (nI r) h4 (nI base) := by
    intro hv h4 base hh hk
    unfold P_X4_rowCost_41
    rw [nI_clamp (by omega), h.2.1 r (by omega) (by omega)]
    refine ⟨vp_in_nI (by omega) (by decide), tS T (r + 1) - tS T r + 1, ?_⟩
    have := L hv h4 base hh hk (tS T (r + 1) - tS T r) (tS T r) (by omega) (Nat.le_refl _)
    rw [Nat.sub_self, Nat.sub_self, Nat.mul_zero, Nat.mul_zero, Nat.add_zero, Nat.add_zero] at this
    exact this
  have c15 : ¬ (r = 0 ∧ hdB j = true) → P_X4_rowCost_15 K w (nI r) := by
    intro nh
    unfold rcN at hk
    rw [if_neg nh] at hk
    unfold P_X4_rowCost_15 P_X4_rowCost_16 P_X4_rowCost_31
    refine ⟨fun z => absurd rfl z, fun _ => m_isOdd hT h hr ?_⟩
    cases e : tOdd T r with
    | true =>
      rw [e, if_pos rfl] at hk
      refine ⟨fun _ => ⟨fun _ => c41 0 0 30 (Or.inl ⟨rfl, rfl⟩) (by rw [Nat.zero_mul]; exact hk), fun z => absurd rfl z⟩, fun z => absurd z (by decide)⟩
    | false =>
      rw [e] at hk
      exact ⟨fun z => absurd rfl z, fun _ => hk⟩
  unfold P_X4_rowCost
  refine ⟨fun z => c15 (fun q => z (by rw [q.1]; rfl)), fun z => m_hasHead (by omega) ?_⟩
  have r0 : r = 0 := (nI_eq (b := 0) (by omega) (by decide)).mp z
  rw [hdB_i]
  cases e : hdB j with
  | false => exact ⟨fun _ => c15 (fun q => by rw [e] at q; exact absurd q.2 (by decide)), fun y => absurd rfl y⟩
  | true =>
    refine ⟨fun y => absurd y (by decide), fun _ => ?_⟩
    unfold P_X4_rowCost_16 P_X4_rowCost_31
    refine ⟨fun _ => ⟨fun y => absurd y (by decide), fun _ => c41 4 1 0 (Or.inr ⟨rfl, rfl⟩) ?_⟩, fun y => absurd y (by decide)⟩
    unfold rcN at hk
    rw [if_pos ⟨r0, e⟩] at hk
    subst r0
    have ew : tCells T 0 = tW T := by unfold tCells tW; rw [if_pos hr, hT.2.1]; rfl
    rw [ew, Nat.zero_add]
    exact hk
def rcS (T : Tb) (hd : Bool) : Nat → Nat
  | 0 => 0
  | k + 1 => rcS T hd k + rcN T hd k
theorem rcS_e (T : Tb) (hd : Bool) : ∀ k, rcS T hd (k + 1) = (if hd then 4 * tW T + 8 * bytR T 0 else 0) + besS T (k + 1) := by
  intro k
  induction k with
  | zero =>
    have o0 : tOdd T 0 = false := by unfold tOdd; simp
    show 0 + rcN T hd 0 = _ + (0 + (if tOdd T 0 = true then 30 + 8 * bytR T 0 else 0))
    unfold rcN
    rw [o0]
    cases hd <;> simp
  | succ k ih =>
    show rcS T hd (k + 1) + rcN T hd (k + 1) = _ + (besS T (k + 1) + (if tOdd T (k + 1) = true then 30 + 8 * bytR T (k + 1) else 0))
    rw [ih]
    unfold rcN
    rw [if_neg (c := k + 1 = 0 ∧ hd = true) (fun q => absurd q.1 (Nat.succ_ne_zero k)), Nat.add_assoc]
theorem rcS_b (T : Tb) (j : Nat) : (if qtN j = 256 then 0 else 3) + rcS T (hdB j) (tR T) = besN j T := by
  unfold besN
  rw [Nat.add_assoc]
  congr 1
  unfold besH
  rcases Nat.eq_zero_or_pos (tR T) with e | e
  · have e2 : tW T = 0 := by unfold tW; rw [e]; rfl
    rw [e, e2]
    cases hdB j <;> rfl
  · obtain ⟨k, ek⟩ : ∃ k, tR T = k + 1 := ⟨tR T - 1, by omega⟩
    rw [ek, rcS_e, if_pos (c := 0 < k + 1) (by omega)]
def KnM (S : Sx) (w : MW) : Prop := ∀ j, j < 24 → md_isKnown w j = 0 ∨ MC S j (md_costs w j)
theorem KnM.of {S : Sx} {w w' : MW} (h : KnM S w) (e : KnE w w') : KnM S w' := by
  intro j hj
  rw [e.1, e.2]
  exact h j hj
theorem M_cost' {S : Sx} {w : MW} {K : Int32 → MW → Prop} {j : Nat} (hS : SOK S) (h : IM S w) (hn : KnM S w) (hj : j < 24) (hk : ∀ r w', IM S w' → KnM S w' → MC S j r → K r w') : P_X4_cost K w (nI j) := by
  have hT := tb_wf hS j
  have hW := tW_le hT
  have hR := hT.1
  have hin : vp_in (nI j) 24 := vp_in_nI hj (by decide)
  have cl : (nI j).toNatClampNeg = j := nI_clamp (by omega)
  have p109 : ∀ (u : MW) (s : Int32), AtM S j u → KnE w u → MC S j s → P_X4_cost_109 K u (nI j) s := by
    intro u s hu ke hs
    unfold P_X4_cost_109
    refine ⟨hin, hin, ?_⟩
    rw [cl]
    have ec : ∀ f, md_costs (md_isKnown_s u f) = md_costs u := fun f => by simp only [gs_md_isKnown]
    rw [ec]
    refine hk s _ (AtM.i (j := j) ?_ hj) (fun i hi => ?_) hs
    · refine ⟨hu.1.of ?_ ?_ ?_ ?_ ?_, ?_, ?_, ?_, ?_, ?_⟩
      · simp only [gs_md_isKnown, gs_md_costs]
      · simp only [gs_md_isKnown, gs_md_costs]
      · simp only [gs_md_isKnown, gs_md_costs]
      · simp only [gs_md_isKnown, gs_md_costs]
      · simp only [gs_md_isKnown, gs_md_costs]
      · simp only [gs_md_isKnown, gs_md_costs]; exact hu.2.1
      · unfold RepM; simp only [gs_md_isKnown, gs_md_costs]; exact hu.2.2.1
      · simp only [gs_md_isKnown, gs_md_costs]; exact hu.2.2.2.1
      · simp only [gs_md_isKnown, gs_md_costs]; exact hu.2.2.2.2.1
      · simp only [gs_md_isKnown, gs_md_costs]; exact hu.2.2.2.2.2
    · simp only [gs_md_isKnown, gs_md_costs]
      by_cases q : i = j
      · subst q; rw [pk_us, pk_us]; exact Or.inr hs
      · rw [pk_un q, pk_un q, ke.1, ke.2]; exact hn i hi
  unfold P_X4_cost
  refine m_isMake (fun i hi e => ⟨fun _ => ⟨hin, ?_⟩, fun z => absurd z (by decide)⟩) (fun z => absurd (show 0 ≤ (nI j).toInt ∧ (nI j).toInt < 24 by rw [nI_toInt (by omega)]; omega) z)
  rw [cl]
  refine ⟨fun _ => M_load hS h hj (fun w1 g1 g2 g3 => ?_), fun z => ⟨hin, ?_⟩⟩
  · have f5 : rFt j (sT S) (sN S) < 5 := by
      unfold rFt pRes pEnd
      split
      · split <;> decide
      · have := pRun_F (mkN j) (qtN j) (sT S) (sN S) (sN S)
        split
        · split
          · show 1 < 5; decide
          · show 0 < 5; decide
        · exact Nat.lt_of_le_of_lt this (by decide)
    rw [g1.2.2.2.1]
    refine ⟨fun z => p109 w1 _ g1 ⟨g2, g3⟩ (Or.inl ⟨fun e => z (by rw [e]; rfl), rfl⟩), fun z => m_quoteOf (by omega) ?_⟩
    have f0 : rFt j (sT S) (sN S) = 0 := (nI_eq (b := 0) (by omega) (by decide)).mp z
    -- the rows
    have rows : ∀ (u : MW) (ps : Nat → Nat) (q : Nat), q = (if qtN j = 256 then 0 else 3) → AtM S j u → KnE w u → (∀ c, c < tW (tbOf S j) → PrC (tbOf S j) (hdB j) c (ps c) ∧ ps c < 10000000) → ∀ d r, r + d = tR (tbOf S j) → P_X4_cost_86 K (fun w_10 v2_11 => P_X4_cost_109 K w_10 (nI j) v2_11) (nI j) (d + 1) u (nI (q + smN ps (tW (tbOf S j)) + rcS (tbOf S j) (hdB j) r)) (nI r) := by
      intro u ps q eq hu ke hps d
      induction d with
      | zero =>
        intro r er
        have : r = tR (tbOf S j) := by omega
        subst this
        refine ⟨fun _ => p109 u _ hu ke (Or.inr ⟨f0, ps, hps, ?_⟩), fun y => absurd (by rw [hu.2.2.1.1]; exact Int32.le_refl _) y⟩
        rw [← rcS_b, eq]
        congr 1
        omega
      | succ d ih =>
        intro r er
        refine ⟨fun y => absurd y (by rw [hu.2.2.1.1]; exact nI_ge (by omega) (by omega)), fun _ => m_rowCost hT hu.2.2.1 hj (by omega) ?_⟩
        rw [nI_1, nI_add, Nat.add_assoc]
        exact ih (r + 1) (by omega)
    have cols : ∀ (q : Nat), q = (if qtN j = 256 then 0 else 3) → ∀ d k u ps, k + d = tW (tbOf S j) → AtM S j u → KnE w u → (∀ c, c < k → PrC (tbOf S j) (hdB j) c (ps c) ∧ ps c < 10000000) → P_X4_cost_54 K (fun w_7 v2_8 => ∃ nf : Nat, P_X4_cost_86 K (fun w_10 v2_11 => P_X4_cost_109 K w_10 (nI j) v2_11) (nI j) nf w_7 v2_8 (0 : Int32)) (nI j) (d + 1) u (nI (q + smN ps k)) (nI k) := by
      intro q eq d
      induction d with
      | zero =>
        intro k u ps ek hu ke hps
        have : k = tW (tbOf S j) := by omega
        subst this
        exact m_width hT hu.2.2.1 ⟨fun _ => ⟨_, rows u ps q eq hu ke hps (tR (tbOf S j)) 0 (by omega)⟩, fun y => absurd (Int32.le_refl _) y⟩
      | succ d ih =>
        intro k u ps ek hu ke hps
        refine m_width hT hu.2.2.1 ⟨fun y => absurd y (nI_ge (by omega) (by omega)), fun _ => m_gather hT hu.2.2.1 hu.2.1 hj (by omega) (fun u2 k1 k2 => m_judge hT (hu.2.2.1.q k1) k2 (by omega) (fun u3 k3 k4 k5 => ?_))⟩
        have a3 := hu.q (k1.tr k3)
        have ke3 : KnE w u3 := ke.tr (k1.tr k3).kn
        rw [nI_1]
        have st : ∀ p, PrC (tbOf S j) (hdB j) k p → p < 10000000 → md_bestCost u3 = nI p → P_X4_cost_54 K (fun w_7 v2_8 => ∃ nf : Nat, P_X4_cost_86 K (fun w_10 v2_11 => P_X4_cost_109 K w_10 (nI j) v2_11) (nI j) nf w_7 v2_8 (0 : Int32)) (nI j) (d + 1) u3 (nI (q + smN ps k) + md_bestCost u3) (nI (k + 1)) := by
          intro p hp1 hp2 hp3
          have nx := ih (k + 1) u3 (un ps k p) (by omega) a3 ke3 (fun c hc => by
            by_cases e : c = k
            · subst e; rw [un_s]; exact ⟨hp1, hp2⟩
            · rw [un_n e]; exact hps c (by omega))
          have es : smN (un ps k p) (k + 1) = smN ps k + p := by
            show smN (un ps k p) k + un ps k p k = _
            rw [un_s, smN_c k (fun i hi => un_n (by omega))]
          rw [es] at nx
          rw [hp3, nI_add, Nat.add_assoc]
          exact nx
        rcases k5 with ⟨q1, q2, q3, q4⟩ | ⟨fo, co, pr, q1, q2, q3, q4, q5, q6, q7⟩
        · exact st 0 (Or.inl ⟨q1, rfl⟩) (by decide) q4
        · exact st pr (Or.inr ⟨fo, co, q1⟩) q4 q7
    have c51 : ∀ q, q = (if qtN j = 256 then 0 else 3) → P_X4_cost_51 K w1 (nI j) (nI q) := fun q eq => ⟨_, cols q eq (tW (tbOf S j)) 0 w1 (fun _ => 0) (by omega) g1 ⟨g2, g3⟩ (fun c hc => absurd hc (Nat.not_lt_zero c))⟩
    unfold qI
    by_cases y : qtN j = 256
    · rw [if_pos y]
      exact ⟨fun x => absurd x (by decide), fun _ => c51 0 (by rw [if_pos y])⟩
    · rw [if_neg y]
      exact ⟨fun _ => c51 3 (by rw [if_neg y]), fun x => absurd (nI_pos' (by have := qtN_le j; omega)) x⟩
  · rcases hn j hj with e | e
    · exact absurd e z
    · exact hk _ w h hn e
theorem M_cost {S : Sx} {w : MW} {K : Int32 → MW → Prop} {v : Int32} (hS : SOK S) (h : IM S w) (hn : KnM S w) (hk0 : ¬ (0 ≤ v.toInt ∧ v.toInt < 24) → K m1 w) (hk1 : ∀ r w' j, j < 24 → v = nI j → IM S w' → KnM S w' → MC S j r → K r w') : P_X4_cost K w v := by
  by_cases z : 0 ≤ v.toInt ∧ v.toInt < 24
  · obtain ⟨j, hj, rfl⟩ := in_of (n := 24) z
    exact M_cost' hS h hn hj (fun r w' a b c => hk1 r w' j hj rfl a b c)
  · unfold P_X4_cost
    refine m_isMake (fun j hj e => absurd (show 0 ≤ v.toInt ∧ v.toInt < 24 by rw [e, nI_toInt (by omega)]; omega) z) (fun z => ⟨fun y => absurd rfl y, fun _ => hk0 z⟩)
/-- the best of the first k MAKES, as the reference has it -/
def BN (S : Sx) (k : Nat) (l : Int32) : Prop := ∃ p, BM S k l p
theorem M_best {S : Sx} {w : MW} {K : Int32 → MW → Prop} (hS : SOK S) (h : IM S w) (hn : KnM S w) (hk : ∀ l w', BN S 24 l → IM S w' → KnM S w' → K l w') : P_X4_best K w := by
  have L : ∀ d k u l, k + d = 24 → IM S u → KnM S u → BN S k l → P_X4_best_4 K (d + 1) u l (nI k) := by
    intro d
    induction d with
    | zero =>
      intro k u l ek hu hnu hb
      have : k = 24 := by omega
      subst this
      exact ⟨fun _ => hk l u hb hu hnu, fun y => absurd (Int32.le_refl _) y⟩
    | succ d ih =>
      intro k u l ek hu hnu hb
      obtain ⟨p, hb⟩ := hb
      refine ⟨fun y => absurd y (nI_ge (b := 24) (by omega) (by decide)), fun _ => M_cost' hS hu hnu (by omega) (fun r w' g1 g2 g3 => ?_)⟩
      unfold P_X4_best_37 P_X4_best_35 P_X4_best_37
      rw [nI_1]
      rcases g3.n hS with e | ⟨z, hz, e⟩
      · subst e
        exact ⟨fun _ => ih (k + 1) w' l (by omega) g1 g2 ⟨p, hb.up g3⟩, fun y => absurd (by decide) y⟩
      · subst e
        refine ⟨fun y => absurd y (nI_pos (by omega)), fun _ => ?_⟩
        have tk : (∀ i, i < k → MC S i m1 ∨ ∃ y, y < 2 ^ 30 ∧ MC S i (nI y) ∧ z < y) → BN S (k + 1) (nI k) := by
          intro hall
          refine ⟨nI z, Or.inr ⟨k, z, by omega, rfl, rfl, hz, g3, fun i hi => ?_⟩⟩
          rcases Nat.lt_or_ge i k with e | e
          · rcases hall i e with q | ⟨y, q1, q2, q3⟩
            · exact Or.inl q
            · exact Or.inr ⟨y, q1, q2, by omega, fun e => by omega⟩
          · rw [show i = k by omega]; exact Or.inr ⟨z, hz, g3, Nat.le_refl _, fun _ => Nat.le_refl _⟩
        rcases hb with ⟨a, b⟩ | ⟨j, q, a1, a2, a3, a4, a5, a6⟩
        · subst a
          exact ⟨fun _ => ih (k + 1) w' _ (by omega) g1 g2 (tk (fun i hi => Or.inl (b i hi))), fun y => absurd (by decide) y⟩
        · subst a2; subst a3
          refine ⟨fun y => absurd y (nI_pos (by omega)), fun _ => M_cost' hS g1 g2 (by omega) (fun r2 w2 h1 h2 h3 => M_cost' hS h1 h2 (by omega) (fun r3 w3 h4 h5 h6 => ?_))⟩
          have e2 := h3.one g3
          have e3 := h6.one a5
          subst e2; subst e3
          refine ⟨fun y => ?_, fun y => ?_⟩
          · have y := (nI_leI (by omega) (by omega)).mp y
            refine ih (k + 1) w3 _ (by omega) h4 h5 ⟨nI q, Or.inr ⟨j, q, by omega, rfl, rfl, a4, a5, fun i hi => ?_⟩⟩
            rcases Nat.lt_or_ge i k with e | e
            · exact a6 i e
            · rw [show i = k by omega]; exact Or.inr ⟨z, hz, g3, y, fun _ => by omega⟩
          · have y : z < q := by
              rcases Nat.lt_or_ge z q with e | e
              · exact e
              · exact absurd (nI_le e (by omega)) y
            refine ih (k + 1) w3 _ (by omega) h4 h5 (tk (fun i hi => ?_))
            rcases a6 i hi with q1 | ⟨x, q1, q2, q3, q4⟩
            · exact Or.inl q1
            · exact Or.inr ⟨x, q1, q2, by omega⟩
  exact ⟨25, L 24 0 w m1 (by decide) h hn ⟨0, Or.inl ⟨rfl, fun i hi => absurd hi (Nat.not_lt_zero i)⟩⟩⟩
