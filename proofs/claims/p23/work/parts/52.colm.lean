/-! the choice of FORM and code, the reference's side -/
def Vs (f m : Nat) : Nat → Nat → Prop := fun m' f' => (f' < f ∧ m' < 5) ∨ (f' = f ∧ m' < m)
def JuS (c : Nat → Nat → Option Nat) (S : Nat → Nat → Prop) (w : MW) : Prop :=
  ((∀ m f, S m f → c f m = none) ∧ md_bestForm w = m1 ∧ md_bestCode w = m1 ∧ md_bestCost w = nI 0) ∨
    ∃ fo co pr, Best c S fo co pr ∧ fo < 32 ∧ co < 5 ∧ pr < 10000000 ∧ md_bestForm w = nI fo ∧ md_bestCode w = nI co ∧ md_bestCost w = nI pr
theorem JuS.v {c : Nat → Nat → Option Nat} {S : Nat → Nat → Prop} {w : MW} (h : JuS c S w) (a : Int64) (b : Int32) : JuS c S (vm w a b) := by
  unfold JuS vm
  simp only [gs_md_value, gs_md_digits]
  exact h
theorem JuS.skip {c : Nat → Nat → Option Nat} {f m : Nat} {w : MW} (h : JuS c (Vs f m) w) (hn : c f m = none) : JuS c (Vs f (m + 1)) w := by
  rcases h with ⟨a, b⟩ | ⟨fo, co, pr, ⟨b1, b2, b3⟩, q⟩
  · refine Or.inl ⟨fun m' f' hs => ?_, b⟩
    rcases hs with x | x
    · exact a m' f' (Or.inl x)
    · rcases Nat.lt_or_ge m' m with y | y
      · exact a m' f' (Or.inr ⟨x.1, y⟩)
      · rw [x.1, show m' = m by omega]; exact hn
  · refine Or.inr ⟨fo, co, pr, ⟨?_, b2, fun f' m' p hs hp => ?_⟩, q⟩
    · rcases b1 with x | x
      · exact Or.inl x
      · exact Or.inr ⟨x.1, by omega⟩
    · rcases hs with x | x
      · exact b3 f' m' p (Or.inl x) hp
      · rcases Nat.lt_or_ge m' m with y | y
        · exact b3 f' m' p (Or.inr ⟨x.1, y⟩) hp
        · rw [x.1, show m' = m by omega, hn] at hp; cases hp
theorem m_judge25 {w0 : MW} {T : Tb} {K E : MW → Prop} {hd : Bool} {col f : Nat} (hT : tWF T) (h0 : RepM w0 T) (hc : col < tW T) (hf : f < 32)
    (hE : ∀ u, EqQ w0 u → GaM u T hd col → JuS (cOf T hd col) (Vs f 5) u → E u) : ∀ d k u, k + d = 5 → EqQ w0 u → GaM u T hd col → JuS (cOf T hd col) (Vs f k) u → P_X4_judge_25 K E (nI f) (d + 1) u (nI k) := by
  intro d
  induction d with
  | zero =>
    intro k u ek hu hg hj
    have : k = 5 := by omega
    subst this
    exact ⟨fun _ => hE u hu hg hj, fun z => absurd (Int32.le_refl _) z⟩
  | succ d ih =>
    intro k u ek hu hg hj
    refine ⟨fun z => absurd z (nI_ge (b := 5) (by omega) (by decide)), fun _ => m_costBy hT (h0.q hu) hg hc (by omega) hf (fun x y => ?_)⟩
    have hgv := hg.v x y
    have hjv := hj.v x y
    have huv := hu.tr (vm_q u x y)
    generalize vm u x y = v at *
    unfold P_X4_judge_59 P_X4_judge_74
    rw [nI_1]
    cases ec : costC T hd col f k with
    | none =>
      exact ⟨fun _ => ih (k + 1) v (by omega) huv hgv (hjv.skip ec), fun z => absurd (by decide) z⟩
    | some p =>
      have pl := costC_le hT hc ec
      refine ⟨fun z => absurd z (nI_pos (by omega)), fun _ => ?_⟩
      -- taken
      have tk : (∀ f' m' q, Vs f k m' f' → cOf T hd col f' m' = some q → p < q) → P_X4_judge_25 K E (nI f) (d + 1) (md_bestCost_s (md_bestCode_s (md_bestForm_s v (nI f)) (nI k)) (nI p)) (nI (k + 1)) := by
        intro hall
        refine ih (k + 1) _ (by omega) (huv.tr ?_) ?_ (Or.inr ⟨f, k, p, ⟨Or.inr ⟨rfl, by omega⟩, ec, fun f' m' q hs hq => ?_⟩, hf, by omega, pl, ?_, ?_, ?_⟩)
        · refine ⟨⟨?_, ?_, ?_, ?_, ?_⟩, ?_, ⟨?_, ?_, ?_, ?_, ?_⟩, ?_, ?_, ?_, ?_, ?_⟩ <;> simp only [gs_md_bestForm, gs_md_bestCode, gs_md_bestCost]
        · unfold GaM
          simp only [gs_md_bestForm, gs_md_bestCode, gs_md_bestCost]
          exact hgv
        · have old : Vs f k m' f' → p ≤ q ∧ (q = p → f ≤ f' ∧ (f' = f → k ≤ m')) := fun o => by
            have := hall f' m' q o hq
            exact ⟨by omega, fun e => by omega⟩
          rcases hs with x | x
          · exact old (Or.inl x)
          · rcases Nat.lt_or_ge m' k with y | y
            · exact old (Or.inr ⟨x.1, y⟩)
            · have e1 : m' = k := by omega
              have e2 := x.1
              rw [e1, e2] at hq
              have : cOf T hd col f k = some p := ec
              rw [this] at hq
              have := Option.some.inj hq
              exact ⟨by omega, fun _ => ⟨by omega, fun _ => by omega⟩⟩
        · simp only [gs_md_bestForm, gs_md_bestCode, gs_md_bestCost]
        · simp only [gs_md_bestForm, gs_md_bestCode, gs_md_bestCost]
        · simp only [gs_md_bestForm, gs_md_bestCode, gs_md_bestCost]
      rcases hjv with ⟨a, b1, b2, b3⟩ | ⟨fo, co, pr, b0, b1, b2, b3, b4, b5, b6⟩
      · rw [b1]
        refine ⟨fun _ => tk (fun f' m' q hs hq => by rw [a m' f' hs] at hq; cases hq), fun z => absurd (by decide) z⟩
      · rw [b4, b6]
        refine ⟨fun z => absurd z (nI_pos (by omega)), fun _ => ⟨fun z => tk (fun f' m' q hs hq => ?_), fun z => ?_⟩⟩
        · have z := (nI_ltI (by omega) (by omega)).mp z
          have := (b0.2.2 f' m' q hs hq).1
          omega
        · have z0 : pr ≤ p := by
            rcases Nat.lt_or_ge p pr with r | r
            · exact absurd (nI_lt r (by omega)) z
            · exact r
          refine ih (k + 1) v (by omega) huv hgv (Or.inr ⟨fo, co, pr, ⟨?_, b0.2.1, fun f' m' q hs hq => ?_⟩, b1, b2, b3, b4, b5, b6⟩)
          · rcases b0.1 with x | x
            · exact Or.inl x
            · exact Or.inr ⟨x.1, by omega⟩
          · rcases hs with x | x
            · exact b0.2.2 f' m' q (Or.inl x) hq
            · rcases Nat.lt_or_ge m' k with y | y
              · exact b0.2.2 f' m' q (Or.inr ⟨x.1, y⟩) hq
              · have e1 : m' = k := by omega
                have e2 := x.1
                rw [e1, e2] at hq
                have : cOf T hd col f k = some p := ec
                rw [this] at hq
                have := Option.some.inj hq
                rcases b0.1 with t | t
                · exact ⟨by omega, fun _ => ⟨by omega, fun _ => by omega⟩⟩
                · exact ⟨by omega, fun _ => ⟨by omega, fun _ => by omega⟩⟩
theorem Vs_s (f : Nat) : Vs f 5 = Vs (f + 1) 0 := by
  funext a b
  apply propext
  unfold Vs
  omega
theorem Vs_32 : Vs 32 0 = Sall := by
  funext a b
  apply propext
  unfold Vs Sall
  omega
theorem m_judge {w : MW} {T : Tb} {K : MW → Prop} {hd : Bool} {col : Nat} (hT : tWF T) (h : RepM w T) (hg : GaM w T hd col) (hc : col < tW T) (hk : ∀ w', EqQ w w' → GaM w' T hd col → JuS (cOf T hd col) Sall w' → K w') : P_X4_judge K w := by
  have L : ∀ d f u, f + d = 32 → EqQ w u → GaM u T hd col → JuS (cOf T hd col) (Vs f 0) u → P_X4_judge_17 K (d + 1) u (nI f) := by
    intro d
    induction d with
    | zero =>
      intro f u ef hu hgu hj
      have : f = 32 := by omega
      subst this
      rw [Vs_32] at hj
      exact ⟨fun _ => hk u hu hgu hj, fun z => absurd (Int32.le_refl _) z⟩
    | succ d ih =>
      intro f u ef hu hgu hj
      refine ⟨fun z => absurd z (nI_ge (b := 32) (by omega) (by decide)), fun _ => ⟨6, m_judge25 (w0 := w) hT h hc (by omega) (fun u2 k1 k2 k3 => ?_) 5 0 u (by omega) hu hgu hj⟩⟩
      rw [nI_1]
      rw [Vs_s] at k3
      exact ih (f + 1) u2 (by omega) k1 k2 k3
  refine ⟨33, L 32 0 _ (by decide) ?_ ?_ (Or.inl ⟨fun m f hs => ?_, ?_, ?_, ?_⟩)⟩
  · refine ⟨⟨?_, ?_, ?_, ?_, ?_⟩, ?_, ⟨?_, ?_, ?_, ?_, ?_⟩, ?_, ?_, ?_, ?_, ?_⟩ <;> simp only [gs_md_bestForm, gs_md_bestCode, gs_md_bestCost]
  · unfold GaM
    simp only [gs_md_bestForm, gs_md_bestCode, gs_md_bestCost]
    exact hg
  · rcases hs with x | x <;> omega
  · simp only [gs_md_bestForm, gs_md_bestCode, gs_md_bestCost]; rfl
  · simp only [gs_md_bestForm, gs_md_bestCode, gs_md_bestCost]; rfl
  · simp only [gs_md_bestForm, gs_md_bestCode, gs_md_bestCost]; rfl
theorem mis_0 (T : Tb) (col r : Nat) : mis T col 0 r = false := by
  unfold mis misB
  rw [if_neg (by omega)]
theorem sum_txt (T : Tb) (hd : Bool) (col c0 : Nat) : ∀ k, ∃ s, sumC T hd col 0 0 c0 k = some s := by
  intro k
  induction k with
  | zero => exact ⟨0, rfl⟩
  | succ k ih =>
    obtain ⟨s, hs⟩ := ih
    rw [sumC_s, hs]
    have : tellR T col 0 0 c0 k = true := rfl
    rw [mis_0, this]
    cases tPlain T hd k with
    | true => exact ⟨_, rfl⟩
    | false => exact ⟨_, rfl⟩
theorem plC_ex (T : Tb) (hd : Bool) : ∀ k, 0 < plC T hd k → ∃ r, r < k ∧ tPlain T hd r = true := by
  intro k
  induction k with
  | zero => intro h; exact absurd h (by show ¬ 0 < 0; decide)
  | succ k ih =>
    intro h
    cases e : tPlain T hd k with
    | true => exact ⟨k, by omega, e⟩
    | false =>
      have : plC T hd (k + 1) = plC T hd k := by show plC T hd k + (if tPlain T hd k = true then 1 else 0) = _; rw [e]; rfl
      rw [this] at h
      obtain ⟨r, hr, hp⟩ := ih h
      exact ⟨r, by omega, hp⟩
theorem txt_fit {T : Tb} {hd : Bool} {col : Nat} (h : 0 < plC T hd (tR T)) : ∃ p, costC T hd col 0 0 = some p := by
  obtain ⟨r, hr, hp⟩ := plC_ex T hd _ h
  obtain ⟨c0, hc0⟩ := fstP_some hp (mis_0 T col r) (tR T) hr
  obtain ⟨s, hs⟩ := sum_txt T hd col c0 (tR T)
  unfold costC
  rw [hc0]
  dsimp only
  rw [if_neg (by omega), if_neg (by omega), hs]
  exact ⟨_, rfl⟩
theorem no_fit {T : Tb} {hd : Bool} {col : Nat} (h : plC T hd (tR T) = 0) (f m : Nat) : costC T hd col f m = none := by
  have L : ∀ k, k ≤ tR T → fstP T hd col m k = none := by
    intro k
    induction k with
    | zero => intro _; rfl
    | succ k ih =>
      intro hk
      rw [fstP_s, ih (by omega)]
      have e : tPlain T hd k = false := by
        cases e : tPlain T hd k with
        | false => rfl
        | true => have := plC_lt e (show k < tR T by omega); omega
      rw [e]
      rfl
  unfold costC
  rw [L (tR T) (Nat.le_refl _)]
/-- the reference, a COLUMN being judged -/
def ChM (S : Sx) (col : Nat) (w : MW) (fo co pr : Nat) : Prop := col < tW (tbOf S (sU S)) ∧ BeC S col fo co pr ∧ AtM S (sU S) w ∧ GaM w (tbOf S (sU S)) (hdB (sU S)) col ∧ md_bestForm w = nI fo ∧ md_bestCode w = nI co ∧ md_bestCost w = nI pr ∧ pr < 10000000
theorem M_ic {S : Sx} {w : MW} {K : Int32 → MW → Prop} {v : Int32} (hS : SOK S) (h : IM S w) (hk0 : ∀ w', IM S w' → KnE w w' → NoC S v → K 0 w') (hk1 : ∀ w' col fo co pr, v = nI col → ChM S col w' fo co pr → KnE w w' → K 1 w') : P_X4_isColumn K w v := by
  have hT := tb_wf hS (sU S)
  have hW := tW_le hT
  have hpR := plC_le (tbOf S (sU S)) (hdB (sU S)) (tR (tbOf S (sU S)))
  have hR := hT.1
  unfold P_X4_isColumn
  refine M_used hS h (fun w1 g1 g2 g3 => m_width hT g1.2.2.1 (m_in (by omega) (fun col hc e => ⟨fun _ => ?_, fun z => absurd z (by decide)⟩) (fun z => ⟨fun y => absurd rfl y, fun _ => hk0 w1 (g1.i hS.2.2.2) ⟨g2, g3⟩ (Or.inl z)⟩)))
  rw [e]
  refine m_gather hT g1.2.2.1 g1.2.1 hS.2.2.2 hc (fun w2 k1 k2 => m_judge hT (g1.2.2.1.q k1) k2 hc (fun w3 k3 k4 k5 => ?_))
  have a3 := g1.q (k1.tr k3)
  have kn : KnE w w3 := KnE.tr ⟨g2, g3⟩ (k1.tr k3).kn
  rw [k4.1]
  refine ⟨fun z => ?_, fun z => ?_⟩
  · have z0 : plC (tbOf S (sU S)) (hdB (sU S)) (tR (tbOf S (sU S))) = 0 := by
      rcases Nat.eq_zero_or_pos (plC (tbOf S (sU S)) (hdB (sU S)) (tR (tbOf S (sU S)))) with r | r
      · exact r
      · exact absurd z (nI_nle r (by omega))
    exact hk0 w3 (a3.i hS.2.2.2) kn (Or.inr ⟨col, hc, e, fun m f _ => no_fit z0 f m⟩)
  · have z0 : 0 < plC (tbOf S (sU S)) (hdB (sU S)) (tR (tbOf S (sU S))) := by
      rcases Nat.eq_zero_or_pos (plC (tbOf S (sU S)) (hdB (sU S)) (tR (tbOf S (sU S)))) with r | r
      · exact absurd (by rw [r]; exact Int32.le_refl 0) z
      · exact r
    rcases k5 with ⟨q1, -⟩ | ⟨fo, co, pr, q1, q2, q3, q4, q5, q6, q7⟩
    · obtain ⟨p, hp⟩ := txt_fit (col := col) z0
      have := q1 0 0 ⟨by decide, by decide⟩
      have hp2 : cOf (tbOf S (sU S)) (hdB (sU S)) col 0 0 = some p := hp
      rw [this] at hp2
      cases hp2
    · exact hk1 w3 col fo co pr e ⟨hc, ⟨q1, q2, q3⟩, a3, k4, q5, q6, q7, q4⟩ kn
theorem ChM.i {S : Sx} {col fo co pr : Nat} {w : MW} (hS : SOK S) (h : ChM S col w fo co pr) : IM S w := h.2.2.1.i hS.2.2.2
theorem M_form {S : Sx} {w : MW} {K : Int32 → MW → Prop} {v : Int32} (hS : SOK S) (h : IM S w) (hk0 : ∀ w', IM S w' → KnE w w' → NoC S v → K m1 w') (hk1 : ∀ w' col fo co pr, v = nI col → col < tW (tbOf S (sU S)) → BeC S col fo co pr → IM S w' → KnE w w' → K (nI fo) w') : P_X4_form K w v := by
  unfold P_X4_form
  refine M_ic hS h (fun w' a b c => ⟨fun _ => hk0 w' a b c, fun z => absurd rfl z⟩) (fun w' col fo co pr e a b => ⟨fun z => absurd z (by decide), fun _ => ?_⟩)
  rw [a.2.2.2.2.1]
  exact hk1 w' col fo co pr e a.1 a.2.1 (a.i hS) b
theorem M_missing {S : Sx} {w : MW} {K : Int32 → MW → Prop} {v : Int32} (hS : SOK S) (h : IM S w) (hk0 : ∀ w', IM S w' → KnE w w' → NoC S v → K m1 w') (hk1 : ∀ w' col fo co pr, v = nI col → col < tW (tbOf S (sU S)) → BeC S col fo co pr → IM S w' → KnE w w' → K (nI co) w') : P_X4_missing K w v := by
  unfold P_X4_missing
  refine M_ic hS h (fun w' a b c => ⟨fun _ => hk0 w' a b c, fun z => absurd rfl z⟩) (fun w' col fo co pr e a b => ⟨fun z => absurd z (by decide), fun _ => ?_⟩)
  rw [a.2.2.2.2.2.1]
  exact hk1 w' col fo co pr e a.1 a.2.1 (a.i hS) b
