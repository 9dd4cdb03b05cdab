/-- w' is w but for what is scribbled while a COLUMN is looked over -/
def EqQ (w w' : MW) : Prop := (md_tape w' = md_tape w ∧ md_text w' = md_text w ∧ md_taped w' = md_taped w ∧ md_size w' = md_size w ∧ md_used w' = md_used w) ∧ md_loaded w' = md_loaded w ∧ (md_rows w' = md_rows w ∧ md_rowFrom w' = md_rowFrom w ∧ md_cellFrom w' = md_cellFrom w ∧ md_cellSize w' = md_cellSize w ∧ md_bytes w' = md_bytes w) ∧ md_fault w' = md_fault w ∧ md_faultPlace w' = md_faultPlace w ∧ md_odds w' = md_odds w ∧ md_isKnown w' = md_isKnown w ∧ md_costs w' = md_costs w
theorem EqQ.rf (w : MW) : EqQ w w := ⟨⟨rfl, rfl, rfl, rfl, rfl⟩, rfl, ⟨rfl, rfl, rfl, rfl, rfl⟩, rfl, rfl, rfl, rfl, rfl⟩
theorem EqQ.tr {a b c : MW} (h1 : EqQ a b) (h2 : EqQ b c) : EqQ a c := by
  obtain ⟨⟨a1, a2, a3, a4, a5⟩, a6, ⟨a7, a8, a9, a10, a11⟩, a12, a13, a14, a15, a16⟩ := h1
  obtain ⟨⟨b1, b2, b3, b4, b5⟩, b6, ⟨b7, b8, b9, b10, b11⟩, b12, b13, b14, b15, b16⟩ := h2
  exact ⟨⟨b1.trans a1, b2.trans a2, b3.trans a3, b4.trans a4, b5.trans a5⟩, b6.trans a6, ⟨b7.trans a7, b8.trans a8, b9.trans a9, b10.trans a10, b11.trans a11⟩, b12.trans a12, b13.trans a13, b14.trans a14, b15.trans a15, b16.trans a16⟩
theorem RepM.q {w w' : MW} {T : Tb} (h : RepM w T) (e : EqQ w w') : RepM w' T := by
  obtain ⟨-, -, ⟨a7, a8, a9, a10, a11⟩, -⟩ := e
  unfold RepM
  rw [a7, a8, a9, a10, a11]
  exact h
theorem AtM.q {S : Sx} {j : Nat} {w w' : MW} (h : AtM S j w) (e : EqQ w w') : AtM S j w' := by
  have hr := h.2.2.1.q e
  obtain ⟨⟨a1, a2, a3, a4, a5⟩, a6, -, a12, a13, a14, a15, a16⟩ := e
  exact ⟨h.1.of a2 a1 a4 a3 a5, a6.trans h.2.1, hr, a12.trans h.2.2.2.1, a13.trans h.2.2.2.2.1, a14.trans h.2.2.2.2.2⟩
theorem EqQ.kn {w w' : MW} (e : EqQ w w') : KnE w w' := ⟨e.2.2.2.2.2.2.1, e.2.2.2.2.2.2.2⟩
theorem vm_q (w : MW) (a : Int64) (b : Int32) : EqQ w (vm w a b) := by
  unfold vm
  refine ⟨⟨?_, ?_, ?_, ?_, ?_⟩, ?_, ⟨?_, ?_, ?_, ?_, ?_⟩, ?_, ?_, ?_, ?_, ?_⟩ <;> simp only [gs_md_value, gs_md_digits]
theorem m_gather {w : MW} {T : Tb} {K : MW → Prop} {j col : Nat} (hT : tWF T) (h : RepM w T) (hl : md_loaded w = nI j) (hj : j < 24) (hc : col < tW T) (hk : ∀ w', EqQ w w' → GaM w' T (hdB j) col → K w') : P_X4_gather K w (nI col) := by
  have hR := hT.1
  have L : ∀ d r u, r + d = tR T → EqQ w u → md_columnMany u = nI (plC T (hdB j) r) → (∀ i, i < r → tPlain T (hdB j) i = true → md_column u (plC T (hdB j) i) = nI (cel T col i) ∧ md_columnRow u (plC T (hdB j) i) = nI i) → P_X4_gather_7 K (nI col) (d + 1) u (nI r) := by
    intro d
    induction d with
    | zero =>
      intro r u er hu h1 h2
      have : r = tR T := by omega
      subst this
      exact ⟨fun _ => hk u hu ⟨h1, h2⟩, fun z => absurd (by rw [(h.q hu).1]; exact Int32.le_refl _) z⟩
    | succ d ih =>
      intro r u er hu h1 h2
      have hru := h.q hu
      have hpl := plC_le T (hdB j) r
      refine ⟨fun z => absurd z (by rw [hru.1]; exact nI_ge (by omega) (by omega)), fun _ => m_isPlain hT hru (by rw [hu.2.1]; exact hl) hj (by omega) ?_⟩
      unfold P_X4_gather_63
      have es : plC T (hdB j) (r + 1) = plC T (hdB j) r + (if tPlain T (hdB j) r then 1 else 0) := rfl
      cases e : tPlain T (hdB j) r with
      | true =>
        rw [e, if_pos rfl] at es
        refine ⟨fun _ => ?_, fun z => absurd z (by decide)⟩
        have c1 : ∀ f, md_columnMany (md_column_s u f) = nI (plC T (hdB j) r) := fun f => by simp only [gs_md_column]; exact h1
        have c2 : ∀ f g, md_columnMany (md_columnRow_s (md_column_s u f) g) = nI (plC T (hdB j) r) := fun f g => by simp only [gs_md_column, gs_md_columnRow]; exact h1
        have c3 : ∀ f, md_columnRow (md_column_s u f) = md_columnRow u := fun f => by simp only [gs_md_column]
        rw [c2, c1, h1, c3, nI_clamp (show plC T (hdB j) r < 2 ^ 31 by omega), nI_clamp (show r < 2 ^ 31 by omega), hru.2.1 r (by omega) (by omega), nI_add, nI_1, nI_1]
        refine ⟨vp_in_nI (by omega) (by decide), vp_in_nI (by omega) (by decide), vp_in_nI (by omega) (by decide), ih (r + 1) _ (by omega) (hu.tr ?_) ?_ (fun i hi hp => ?_)⟩
        · refine ⟨⟨?_, ?_, ?_, ?_, ?_⟩, ?_, ⟨?_, ?_, ?_, ?_, ?_⟩, ?_, ?_, ?_, ?_, ?_⟩ <;> simp only [gs_md_column, gs_md_columnRow, gs_md_columnMany]
        · simp only [gs_md_column, gs_md_columnRow, gs_md_columnMany]; rw [es]
        · simp only [gs_md_column, gs_md_columnRow, gs_md_columnMany]
          rcases Nat.lt_or_ge i r with x | x
          · have := plC_lt hp x
            rw [pk_un (by omega), pk_un (by omega)]
            exact h2 i x hp
          · have : i = r := by omega
            subst this
            rw [pk_us, pk_us]
            exact ⟨rfl, rfl⟩
      | false =>
        rw [e] at es
        refine ⟨fun z => absurd rfl z, fun _ => ?_⟩
        rw [nI_1]
        refine ih (r + 1) u (by omega) hu (by rw [h1, es]; rfl) (fun i hi hp => ?_)
        rcases Nat.lt_or_ge i r with x | x
        · exact h2 i x hp
        · rw [show i = r by omega, e] at hp; exact absurd hp Bool.false_ne_true
  refine ⟨tR T + 1, L (tR T) 0 _ (by omega) ?_ ?_ (fun i hi => absurd hi (Nat.not_lt_zero i))⟩
  · refine ⟨⟨?_, ?_, ?_, ?_, ?_⟩, ?_, ⟨?_, ?_, ?_, ?_, ?_⟩, ?_, ?_, ?_, ?_, ?_⟩ <;> simp only [gs_md_columnMany]
  · simp only [gs_md_columnMany]; rfl
theorem fstP_keep {T : Tb} {hd : Bool} {col m k c : Nat} (h : fstP T hd col m k = some c) : ∀ d, fstP T hd col m (k + d) = some c := by
  intro d
  induction d with
  | zero => exact h
  | succ d ih =>
    show fstP T hd col m (k + d + 1) = _
    rw [fstP_s, ih]
theorem m_firstOf {w : MW} {T : Tb} {K : Int32 → Prop} {hd : Bool} {col m : Nat} (hT : tWF T) (h : RepM w T) (hg : GaM w T hd col) (hc : col < tW T) (hm : m < 5) (hk : K (oI (fstP T hd col m (tR T)))) : P_X4_firstOf K w (nI m) := by
  have hR := hT.1
  have hpR := plC_le T hd (tR T)
  have L : ∀ d r, r + d = tR T → fstP T hd col m r = none → P_X4_firstOf_2 K (fun v2_2 => vp_in v2_2 80 ∧ (K (md_column w v2_2.toNatClampNeg))) w (nI m) (plC T hd (tR T) - plC T hd r + 1) (nI (plC T hd r)) := by
    intro d
    induction d with
    | zero =>
      intro r er hf
      have : r = tR T := by omega
      subst this
      rw [hf] at hk
      exact ⟨fun _ => hk, fun z => absurd (by rw [hg.1]; exact Int32.le_refl _) z⟩
    | succ d ih =>
      intro r er hf
      have es : plC T hd (r + 1) = plC T hd r + (if tPlain T hd r then 1 else 0) := rfl
      have fs := fstP_s T hd col m r
      rw [hf] at fs
      cases e : tPlain T hd r with
      | false =>
        rw [e] at es fs
        have := ih (r + 1) (by omega) fs
        rw [es] at this
        exact this
      | true =>
        rw [e, if_pos rfl] at es
        have lt := plC_lt e (show r < tR T by omega)
        have hcl := cel_lt hT e hc
        rw [show plC T hd (tR T) - plC T hd r = plC T hd (tR T) - plC T hd (r + 1) + 1 by omega]
        refine ⟨fun z => absurd z (by rw [hg.1]; exact nI_ge lt (by omega)), fun _ => ⟨vp_in_nI (by omega) (by decide), ?_⟩⟩
        rw [nI_clamp (by omega), (hg.2 r (by omega) e).1]
        refine m_isMissing hT h hcl hm ?_
        cases e2 : misB m (tLen T (cel T col r)) (tb T (cel T col r)) with
        | true =>
          refine ⟨fun _ => ?_, fun z => absurd z (by decide)⟩
          have e3 : mis T col m r = true := e2
          rw [e, e3] at fs
          rw [nI_1, ← es]
          exact ih (r + 1) (by omega) fs
        | false =>
          refine ⟨fun z => absurd rfl z, fun _ => ⟨vp_in_nI (by omega) (by decide), ?_⟩⟩
          have e3 : mis T col m r = false := e2
          rw [e, e3] at fs
          have := fstP_keep (show fstP T hd col m (r + 1) = some (cel T col r) from fs) d
          rw [show r + 1 + d = tR T by omega] at this
          rw [this] at hk
          rw [nI_clamp (by omega), (hg.2 r (by omega) e).1]
          exact hk
  exact ⟨_, L (tR T) 0 (by omega) rfl⟩
theorem lg_lt (x y : Int64) : lg_cmp x y < 0 ↔ x < y := by
  unfold lg_cmp
  by_cases h1 : x > y
  · rw [if_pos h1]
    exact ⟨fun z => absurd z (by decide), fun z => absurd (Int64.lt_trans z h1) (Int64.lt_irrefl)⟩
  · rw [if_neg h1]
    by_cases h2 : x = y
    · rw [if_pos h2]
      exact ⟨fun z => absurd z (by decide), fun z => absurd (h2 ▸ z) (Int64.lt_irrefl)⟩
    · rw [if_neg h2]
      refine ⟨fun _ => ?_, fun _ => by decide⟩
      rcases Int64.lt_or_le x y with z | z
      · exact z
      · exact absurd (Int64.lt_of_le_of_ne z (fun e => h2 e.symm)) h1
theorem cap_l {d v : Nat} {ng : Bool} (hd : d ≤ 3) (hv : v < 10 ^ 9) (hn : ng = true → v ≠ 0) : (sgL v ng < lN (9999 * 10 ^ d)) ↔ capOK true d v ng = true := by
  have hB : 9999 * 10 ^ d ≤ 9999 * 10 ^ 3 := Nat.mul_le_mul_left _ (Nat.pow_le_pow_right (by decide) hd)
  have h9 : (10 : Nat) ^ 9 < 2 ^ 62 := by decide
  have h3 : 9999 * 10 ^ 3 < 2 ^ 62 := by decide
  have hB0 : 0 < 9999 * 10 ^ d := Nat.mul_pos (by decide) (Nat.pow_pos (by decide))
  unfold capOK
  generalize 9999 * 10 ^ d = B at *
  cases ng with
  | false =>
    show lN v < lN B ↔ (!true || false || decide (v < B)) = true
    rw [pk_lLT (by omega) (by omega)]
    simp
  | true =>
    refine ⟨fun _ => rfl, fun _ => ?_⟩
    show -(lN v) < lN B
    apply Int64.lt_iff_toInt_lt.mpr
    rw [Int64.toInt_neg, pk_lT (by omega), pk_lT (by omega), Int.bmod_eq_of_le (by omega) (by omega)]
    omega
theorem numE_ng {form n : Nat} {f : Nat → Nat} {e b : Nat} {s : Nat × Nat × Bool} (h : numE form n f e b = some s) : s.2.2 = true → s.1 ≠ 0 := by
  unfold numE at h
  by_cases c1 : e ≤ b
  · rw [if_pos c1] at h; cases h
  rw [if_neg c1] at h
  by_cases c2 : 1 < e - b ∧ f b = 48
  · rw [if_pos c2] at h; cases h
  rw [if_neg c2] at h
  cases q : nRun f e b (ptN form) (thN form) (n - b) b (0, 0) with
  | none => rw [q] at h; cases h
  | some u =>
    rw [q] at h
    dsimp only at h
    by_cases c3 : b = 1 ∧ u.1 = 0
    · rw [if_pos c3] at h; cases h
    · rw [if_neg c3] at h
      have e := Option.some.inj h
      subst e
      intro hb h0
      exact c3 ⟨of_decide_eq_true hb, h0⟩
theorem numR_ng {form n : Nat} {f : Nat → Nat} {s : Nat × Nat × Bool} (h : numR form n f = some s) : s.2.2 = true → s.1 ≠ 0 := by
  unfold numR at h
  by_cases c1 : 0 < decN form ∧ n < decN form + 1
  · rw [if_pos c1] at h; cases h
  · rw [if_neg c1] at h
    exact numE_ng h
theorem m_costL {w : MW} {T : Tb} {K : Int32 → MW → Prop} {E : MW → Int32 → Int32 → Prop} {hd : Bool} {col form m c0 base : Nat} (hT : tWF T) (h : RepM w T) (hg : GaM w T hd col) (hc : col < tW T) (hm : m < 5) (hform : form < 32) (hc0 : c0 < tN T) (h4 : m = 4 → 7 ≤ form ∧ form ≤ 21)
    (hE : ∀ s x y, sumC T hd col form m c0 (tR T) = some s → E (vm w x y) (nI (base + s)) (nI (cntM T hd col m (tR T)))) (hN : sumC T hd col form m c0 (tR T) = none → ∀ x y, K m1 (vm w x y)) :
    ∀ d r s x y, r + d = tR T → sumC T hd col form m c0 r = some s → P_X4_costBy_100 K E (nI form) (nI m) (nI c0) (plC T hd (tR T) - plC T hd r + 1) (vm w x y) (nI (base + s)) (nI (cntM T hd col m r)) (nI (plC T hd r)) := by
  have hR := hT.1
  have hpR := plC_le T hd (tR T)
  intro d
  induction d with
  | zero =>
    intro r s x y er hs
    have : r = tR T := by omega
    subst this
    exact ⟨fun _ => hE s x y hs, fun z => absurd (by rw [(hg.v x y).1]; exact Int32.le_refl _) z⟩
  | succ d ih =>
    intro r s x y er hs
    have es : plC T hd (r + 1) = plC T hd r + (if tPlain T hd r then 1 else 0) := rfl
    have cs := cntM_s T hd col m r
    have ss := sumC_s T hd col form m c0 r
    rw [hs] at ss
    cases e : tPlain T hd r with
    | false =>
      rw [e] at es cs ss
      have := ih (r + 1) s x y (by omega) ss
      rw [es, cs] at this
      exact this
    | true =>
      rw [e, if_pos rfl] at es
      have lt := plC_lt e (show r < tR T by omega)
      have hcl := cel_lt hT e hc
      have hgv := hg.v x y
      have hrv := rep_v h x y
      have gone : sumC T hd col form m c0 (r + 1) = none → ∀ x y, K m1 (vm w x y) := fun q => hN (by
        have := sumC_none q d
        rwa [show r + 1 + d = tR T by omega] at this)
      rw [show plC T hd (tR T) - plC T hd r = plC T hd (tR T) - plC T hd (r + 1) + 1 by omega]
      refine ⟨fun z => absurd z (by rw [hgv.1]; exact nI_ge lt (by omega)), fun _ => ⟨vp_in_nI (by omega) (by decide), ?_⟩⟩
      rw [nI_clamp (by omega), (hgv.2 r (by omega) e).1]
      refine m_isMissing hT hrv hcl hm ?_
      unfold P_X4_costBy_168 P_X4_costBy_185
      rw [nI_1, nI_1, ← es]
      cases e2 : misB m (tLen T (cel T col r)) (tb T (cel T col r)) with
      | true =>
        refine ⟨fun z => absurd z (by decide), fun _ => ?_⟩
        have e3 : mis T col m r = true := e2
        rw [e, e3] at cs ss
        have := ih (r + 1) (s + 2) x y (by omega) ss
        rw [cs] at this
        rw [show nI (base + s) + (2 : Int32) = nI (base + (s + 2)) from nI_add _ 2]
        exact this
      | false =>
        have e3 : mis T col m r = false := e2
        rw [e, e3] at cs ss
        refine ⟨fun _ => ⟨vp_in_nI (by omega) (by decide), m_tells hT hrv hcl hc0 hform (fun a b hab => ?_)⟩, fun z => absurd rfl z⟩
        rw [vm_vm]
        -- the cell is told: what it costs
        have on : tellR T col form m c0 r = true → (7 ≤ form → form ≤ 21 → b = nI (tellD form (tLen T (cel T col r)) (tb T (cel T col r)))) → vp_in (nI (plC T hd r)) 80 ∧ P_X4_cellCost (fun r_6 => P_X4_costBy_100 K E (nI form) (nI m) (nI c0) (plC T hd (tR T) - plC T hd (r + 1) + 1) (vm w a b) (nI (base + s) + r_6) (nI (cntM T hd col m r)) (nI (plC T hd (r + 1)))) (vm w a b) (nI form) (md_column (vm w a b) (nI (plC T hd r)).toNatClampNeg) := by
          intro ht hb
          rw [ht] at ss
          refine ⟨vp_in_nI (by omega) (by decide), ?_⟩
          rw [nI_clamp (by omega), ((hg.v a b).2 r (by omega) e).1]
          refine m_cellCost hT (rep_v h a b) hcl hform (fun q1 q2 => by rw [vm_b]; exact hb q1 q2) ?_
          have := ih (r + 1) (s + priceC form (tLen T (cel T col r)) (tb T (cel T col r))) a b (by omega) ss
          rw [cs] at this
          rw [nI_add, Nat.add_assoc]
          exact this
        cases e4 : tellOK form false (tLen T (cel T col r)) (tb T (cel T col r)) (tLen T c0) (tb T c0) with
        | false =>
          refine ⟨fun _ => gone ?_ _ _, fun z => absurd rfl z⟩
          have nt : tellR T col form m c0 r = false := by
            unfold tellR
            by_cases m4 : m = 4
            · have f := h4 m4
              rw [m4]
              unfold tellOK at e4 ⊢
              rw [if_neg (by omega), if_neg (by omega), if_pos f.2] at e4 ⊢
              cases q : numR form (tLen T (cel T col r)) (tb T (cel T col r)) with
              | none => rfl
              | some u => rw [q] at e4; exact absurd (show true = false from e4) (by decide)
            · rw [decide_eq_false m4]; exact e4
          rw [nt] at ss
          exact ss
        | true =>
          have hab2 := hab e4
          refine ⟨fun z => absurd z (by decide), fun _ => ⟨fun z => ?_, fun z => ?_⟩⟩
          · have m4 : ¬ m = 4 := fun q => z (by rw [q]; rfl)
            refine on ?_ hab2.2
            unfold tellR
            rw [decide_eq_false m4]
            exact e4
          · have m4 : m = 4 := (nI_eq (b := 4) (by omega) (by decide)).mp z
            have f := h4 m4
            refine m_topOf f.1 f.2 ?_
            rw [vm_a, lg_lt]
            have rd : ∀ cap, tellOK form cap (tLen T (cel T col r)) (tb T (cel T col r)) (tLen T c0) (tb T c0) = match numR form (tLen T (cel T col r)) (tb T (cel T col r)) with
                | some s => capOK cap (decN form) s.1 s.2.2
                | none => false := by
              intro cap
              unfold tellOK
              rw [if_neg (by omega), if_neg (by omega), if_pos f.2]
              cases numR form (tLen T (cel T col r)) (tb T (cel T col r)) <;> rfl
            cases q : numR form (tLen T (cel T col r)) (tb T (cel T col r)) with
            | none => rw [rd false, q] at e4; exact absurd (show false = true from e4) (by decide)
            | some u =>
              have ud := numR_dg q
              have hx : a = sgL u.1 u.2.2 := by
                rw [hab2.1]
                unfold tellV
                rw [if_neg (by omega), if_neg (by omega), if_pos f.2, q]
                exact sg_l ud.1
              have tr : tellR T col form m c0 r = capOK true (decN form) u.1 u.2.2 := by
                unfold tellR
                rw [m4, show decide (4 = 4) = true from rfl, rd true, q]
              have key : (a < lN (9999 * 10 ^ decN form)) ↔ capOK true (decN form) u.1 u.2.2 = true := by
                rw [hx]
                exact cap_l (decN_le f.2) ud.1 (numR_ng q)
              rw [key]
              refine ⟨fun z2 => on (by rw [tr]; exact z2) hab2.2, fun z2 => gone ?_ _ _⟩
              have nt : tellR T col form m c0 r = false := by
                rw [tr]
                cases q3 : capOK true (decN form) u.1 u.2.2 with
                | true => exact absurd q3 z2
                | false => rfl
              rw [nt] at ss
              exact ss
theorem m_costBy {w : MW} {T : Tb} {K : Int32 → MW → Prop} {hd : Bool} {col form m : Nat} (hT : tWF T) (h : RepM w T) (hg : GaM w T hd col) (hc : col < tW T) (hm : m < 5) (hform : form < 32) (hk : ∀ x y, K (oI (costC T hd col form m)) (vm w x y)) : P_X4_costBy K w (nI form) (nI m) := by
  have hN := tN_le hT
  have w0 : vm w (md_value w) (md_digits w) = w := by unfold vm; rw [sv_v, sv_d]
  unfold P_X4_costBy
  refine m_firstOf hT h hg hc hm (m_in2 (a := 7) (b := 21) (by omega) (by decide) (by decide) ?_)
  have kc := hk (md_value w) (md_digits w)
  rw [w0] at kc
  unfold costC at hk kc
  cases ef : fstP T hd col m (tR T) with
  | none =>
    rw [ef] at kc
    exact ⟨fun _ => kc, fun z => absurd (by decide) z⟩
  | some c0 =>
    rw [ef] at kc hk
    have hc0 := fstP_lt hT hc ef
    refine ⟨fun z => absurd z (nI_pos (by omega)), fun _ => ?_⟩
    -- the sum, ahead of it what FORM costs
    have c40 : ¬ (0 < m ∧ form = 0) → ¬ (m = 4 ∧ ¬ (7 ≤ form ∧ form ≤ 21)) → P_X4_costBy_40 K w (nI form) (nI m) (nI c0) := by
      intro n1 n2
      have c92 : P_X4_costBy_92 K w (nI form) (nI m) (nI c0) (nI (priceF form (tLen T c0))) := by
        unfold P_X4_costBy_92
        rw [← w0]
        refine ⟨_, m_costL (base := priceF form (tLen T c0)) hT h hg hc hm hform hc0 (fun q => by
          rcases Nat.lt_or_ge form 7 with r | r
          · exact absurd ⟨q, fun y => by omega⟩ n2
          · exact ⟨r, by
              rcases Nat.lt_or_ge 21 form with t | t
              · exact absurd ⟨q, fun y => by omega⟩ n2
              · exact t⟩) (fun s x y hs => ?_) (fun hs x y => ?_) (tR T) 0 0 _ _ (by omega) rfl⟩
        · have kx := hk x y
          have hcm := cntM_le T hd col m (tR T)
          have hR := hT.1
          unfold P_X4_costBy_202
          refine ⟨fun z => ⟨fun _ => ?_, fun q => absurd z q⟩, fun z => ⟨fun q => ⟨fun p => absurd p z, fun _ => ?_⟩, fun q => ?_⟩⟩
          · have m0 : m = 0 := by
              rcases Nat.eq_zero_or_pos m with r | r
              · exact r
              · exact absurd z (nI_nle r (by omega))
            dsimp only at kx
            rw [if_neg (by omega), if_neg n2, hs, if_neg (by omega)] at kx
            rw [show priceF form (tLen T c0) + s = s + (priceF form (tLen T c0) + 0) by omega]
            exact kx
          · have m0 : 0 < m := by
              rcases Nat.eq_zero_or_pos m with r | r
              · exact absurd (by rw [r]; exact Int32.le_refl 0) z
              · exact r
            have cn : ¬ cntM T hd col m (tR T) = 0 := fun r => q (by rw [r]; rfl)
            dsimp only at kx
            rw [if_neg (fun r => r.2.elim cn (fun t => n1 ⟨m0, t⟩)), if_neg n2, hs, if_pos m0] at kx
            rw [show nI (priceF form (tLen T c0) + s) + (6 : Int32) = nI (s + (priceF form (tLen T c0) + 6)) by rw [show (6 : Int32) = nI 6 from rfl, nI_add]; congr 1; omega]
            exact kx
          · have m0 : 0 < m := by
              rcases Nat.eq_zero_or_pos m with r | r
              · exact absurd (by rw [r]; exact Int32.le_refl 0) z
              · exact r
            have cn : cntM T hd col m (tR T) = 0 := (nI_eq (b := 0) (by omega) (by decide)).mp q
            dsimp only at kx
            rw [if_pos ⟨m0, Or.inl cn⟩] at kx
            exact kx
        · have kx := hk x y
          dsimp only at kx
          rw [hs] at kx
          simp only [Option.map_none, ite_self] at kx
          exact kx
      unfold priceF at c92
      unfold P_X4_costBy_40
      rw [nI_clamp (by omega), h.2.2.2.1 c0 hc0]
      refine ⟨fun z => ?_, fun z => ?_⟩
      · rw [if_neg (fun q => z (by rw [q]; rfl))] at c92
        refine ⟨fun y => ?_, fun y => ?_⟩
        · have y := (nI_leI (a := 7) (by decide) (by omega)).mp y
          rw [if_neg (by omega)] at c92
          refine ⟨fun x => ?_, fun x => ?_⟩
          · have x := (nI_leI (a := 22) (by decide) (by omega)).mp x
            rw [if_neg (by omega)] at c92
            refine ⟨fun t => ⟨vp_in_nI (by omega) (by decide), ?_⟩, fun t => ?_⟩
            · have t := (nI_leI (a := 31) (by decide) (by omega)).mp t
              rw [if_neg (by omega)] at c92
              rw [show (14 : Int32) = nI 14 from rfl, show (2 : Int32) = nI 2 from rfl, pk_mul, nI_add]
              exact c92
            · have t0 : form ≤ 30 := by
                rcases Nat.lt_or_ge 30 form with q | q
                · exact absurd (nI_le (a := 31) q (by omega)) t
                · exact q
              rw [if_pos t0] at c92
              exact c92
          · have x0 : form ≤ 21 := by
              rcases Nat.lt_or_ge 21 form with q | q
              · exact absurd (nI_le (a := 22) q (by omega)) x
              · exact q
            rw [if_pos x0] at c92
            exact c92
        · have y0 : form ≤ 6 := by
            rcases Nat.lt_or_ge 6 form with q | q
            · exact absurd (nI_le (a := 7) q (by omega)) y
            · exact q
          rw [if_pos y0] at c92
          exact c92
      · rw [if_pos ((nI_eq (b := 0) (by omega) (by decide)).mp z)] at c92
        exact c92
    have c28 : ¬ (0 < m ∧ form = 0) → P_X4_costBy_28 K w (nI form) (nI m) (nI c0) (bI (decide (7 ≤ form ∧ form ≤ 21))) := by
      intro n1
      unfold P_X4_costBy_28
      refine ⟨fun z => c40 n1 (fun q => z (by rw [q.1]; rfl)), fun z => ⟨fun y => c40 n1 (fun q => ?_), fun y => ?_⟩⟩
      · rw [decide_eq_false q.2] at y; exact y rfl
      · have m4 : m = 4 := (nI_eq (b := 4) (by omega) (by decide)).mp z
        have nf : ¬ (7 ≤ form ∧ form ≤ 21) := fun q => by rw [decide_eq_true q] at y; exact absurd y (by decide)
        dsimp only at kc
        split at kc
        · exact kc
        · rw [if_pos ⟨m4, nf⟩] at kc
          exact kc
    refine ⟨fun z => c28 (fun q => z (by rw [q.2]; rfl)), fun z => ⟨fun y => ?_, fun y => c28 (fun q => y (nI_lt (a := 0) q.1 (by omega)))⟩⟩
    have f0 : form = 0 := (nI_eq (b := 0) (by omega) (by decide)).mp z
    have m0 : 0 < m := (nI_ltI (a := 0) (by decide) (by omega)).mp y
    dsimp only at kc
    rw [if_pos ⟨m0, Or.inr f0⟩] at kc
    exact kc
