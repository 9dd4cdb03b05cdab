/-! tells and costs of COLUMNS, the reference's side -/
theorem neg_l {v : Nat} (hv : v < 2 ^ 31) : Int32.toInt64 (-(nI v)) = -(lN v) := by
  apply Int64.toInt_inj.mp
  rw [Int32.toInt_toInt64, Int32.toInt_neg, nI_toInt hv, Int64.toInt_neg, pk_lT (by omega), Int.bmod_eq_of_le (by omega) (by omega), Int.bmod_eq_of_le (by omega) (by omega)]
theorem sg_l {v : Nat} {ng : Bool} (hv : v < 10 ^ 9) : Int32.toInt64 (sgI v ng) = sgL v ng := by
  have : (10 : Nat) ^ 9 < 2 ^ 31 := by decide
  cases ng with
  | false => exact nI_l (by omega)
  | true => exact neg_l (by omega)
theorem capOK_f (d v : Nat) (ng : Bool) : capOK false d v ng = true := rfl
theorem m_tells {w : MW} {T : Tb} {K : Int32 → MW → Prop} {c c0 form : Nat} (hT : tWF T) (h : RepM w T) (hc : c < tN T) (hc0 : c0 < tN T) (hform : form < 32)
    (hk : ∀ x y, (tellOK form false (tLen T c) (tb T c) (tLen T c0) (tb T c0) = true → x = Int32.toInt64 (tellV form (tLen T c) (tb T c)) ∧ (7 ≤ form → form ≤ 21 → y = nI (tellD form (tLen T c) (tb T c)))) → K (bI (tellOK form false (tLen T c) (tb T c) (tLen T c0) (tb T c0))) (vm w x y)) : P_X4_tells K w (nI form) (nI c) (nI c0) := by
  unfold P_X4_tells
  unfold tellOK tellV at hk
  rw [vm_v]
  by_cases q0 : form = 0
  · subst q0
    rw [if_pos rfl] at hk
    refine ⟨fun z => absurd rfl z, fun _ => hk 0 _ (fun _ => ⟨by rw [if_pos rfl]; rfl, fun z => by omega⟩)⟩
  · rw [if_neg q0] at hk
    refine ⟨fun _ => ?_, fun z => absurd ((nI_eq (b := 0) (by omega) (by decide)).mp z) q0⟩
    have hr := rep_v h 0 (md_digits w)
    by_cases q6 : form ≤ 6
    · rw [if_pos q6] at hk
      refine ⟨fun z => absurd z (nI_ge (b := 7) (by omega) (by decide)), fun _ => m_isFlag hT hr hc (by omega) q6 ⟨vz_b _, ?_⟩⟩
      rw [vm_vm]
      refine hk _ _ (fun _ => ⟨?_, fun z => by omega⟩)
      rw [if_neg q0, if_pos q6, bL_i]
    · rw [if_neg q6] at hk
      by_cases q21 : form ≤ 21
      · rw [if_pos q21] at hk
        refine ⟨fun _ => ⟨fun z => absurd z (nI_ge (b := 22) (by omega) (by decide)), fun _ => m_isNumber hT hr hc (by omega) q21 (fun x y hxy => ⟨vz_b _, ?_⟩)⟩, fun z => absurd (nI_le (a := 7) (by omega) (by omega)) z⟩
        rw [vm_vm]
        have k := hk x y
        cases e : numR form (tLen T c) (tb T c) with
        | none =>
          rw [e] at k
          exact k (fun z => absurd (show false = true from z) (by decide))
        | some s =>
          rw [e] at k
          have hx := hxy s e
          have hs := numR_dg e
          refine k (fun _ => ⟨?_, fun _ _ => ?_⟩)
          · rw [if_neg q0, if_neg q6, if_pos q21, hx.1]
            exact (sg_l hs.1).symm
          · rw [hx.2]
            unfold tellD
            rw [e]
      · rw [if_neg q21] at hk
        by_cases q30 : form ≤ 30
        · rw [if_pos q30] at hk
          refine ⟨fun _ => ⟨fun _ => ⟨fun z => absurd z (nI_ge (b := 31) (by omega) (by decide)), fun _ => m_isDay hT hr hc (by omega) q30 (fun a ha => ⟨vz_b _, ?_⟩)⟩, fun z => absurd (nI_le (a := 22) (by omega) (by omega)) z⟩, fun z => absurd (nI_le (a := 7) (by omega) (by omega)) z⟩
          rw [vm_vs]
          refine hk _ _ (fun ho => ⟨?_, fun _ z => by omega⟩)
          rw [if_neg q0, if_neg q6, if_neg q21, if_pos q30]
          cases e : dayV form (tLen T c) (tb T c) with
          | none => rw [e] at ho; exact absurd ho (by decide)
          | some v =>
            rw [ha v e]
            show lN v = (nI v).toInt64
            have vb : v < 2 ^ 31 := by
              have : ∀ y m d u, (∀ v, y = some v → v < 10000) → (∀ v, m = some v → v < 10000) → (∀ v, d = some v → v < 10000) → dayE y m d = some u → u < 2 ^ 31 := by
                intro y m d u hy hm hd eu
                cases y with
                | none => cases d <;> cases eu
                | some yv =>
                  cases d with
                  | none => cases eu
                  | some dv =>
                    unfold dayE at eu
                    dsimp only at eu
                    split at eu
                    · have e3 := Option.some.inj eu
                      have := hy yv rfl
                      have := hd dv rfl
                      have hm2 : m.getD 0 < 10000 := by
                        cases m with
                        | none => decide
                        | some mv => exact hm mv rfl
                      omega
                    · cases eu
              have g : ∀ p1 p2 py pm pd u, dayG (tb T c) (btN form) p1 p2 py pm pd = some u → u < 2 ^ 31 := by
                intro p1 p2 py pm pd u eu
                unfold dayG at eu
                split at eu
                · exact this _ _ _ u (fun v e => numV_l e (by decide)) (fun v e => numV_l e (by decide)) (fun v e => numV_l e (by decide)) eu
                · cases eu
              unfold dayV at e
              split at e
              · split at e
                · exact g _ _ _ _ _ _ e
                · split at e
                  · exact g _ _ _ _ _ _ e
                  · exact g _ _ _ _ _ _ e
              · cases e
            exact (nI_l vb).symm
        · rw [if_neg q30] at hk
          refine ⟨fun _ => ⟨fun _ => ⟨fun _ => m_isCode hT hr hc hc0 ⟨vz_b _, ?_⟩, fun z => absurd (nI_le (a := 31) (by omega) (by omega)) z⟩, fun z => absurd (nI_le (a := 22) (by omega) (by omega)) z⟩, fun z => absurd (nI_le (a := 7) (by omega) (by omega)) z⟩
          rw [vm_vm]
          refine hk _ _ (fun _ => ⟨?_, fun _ z => by omega⟩)
          rw [if_neg q0, if_neg q6, if_neg q21, if_neg q30]
          rfl
theorem m_cellCost {w : MW} {T : Tb} {K : Int32 → Prop} {c form : Nat} (hT : tWF T) (h : RepM w T) (hc : c < tN T) (hform : form < 32) (hd : 7 ≤ form → form ≤ 21 → md_digits w = nI (tellD form (tLen T c) (tb T c))) (hk : K (nI (priceC form (tLen T c) (tb T c)))) : P_X4_cellCost K w (nI form) (nI c) := by
  have hN := tN_le hT
  have hl := tLen_le hT hc
  unfold P_X4_cellCost
  unfold priceC at hk
  rw [nI_clamp (by omega), h.2.2.2.1 c hc]
  refine ⟨vp_in_nI (by omega) (by decide), fun z => ?_, fun z => ?_⟩
  · have q0 : form ≠ 0 := fun e => z (by rw [e]; rfl)
    rw [if_neg q0] at hk
    by_cases q6 : form ≤ 6
    · rw [if_pos q6] at hk
      exact ⟨fun y => absurd y (nI_ge (b := 7) (by omega) (by decide)), fun _ => hk⟩
    · rw [if_neg q6] at hk
      refine ⟨fun _ => ?_, fun y => absurd (nI_le (a := 7) (by omega) (by omega)) y⟩
      by_cases q21 : form ≤ 21
      · rw [if_pos q21] at hk
        refine ⟨fun y => absurd y (nI_ge (b := 22) (by omega) (by decide)), fun _ => ?_⟩
        rw [hd (by omega) q21, show (4 : Int32) = nI 4 from rfl, pk_mul, nI_add]
        exact hk
      · rw [if_neg q21] at hk
        refine ⟨fun _ => ?_, fun y => absurd (nI_le (a := 22) (by omega) (by omega)) y⟩
        by_cases q30 : form ≤ 30
        · rw [if_pos q30] at hk
          exact ⟨fun y => absurd y (nI_ge (b := 31) (by omega) (by decide)), fun _ => hk⟩
        · rw [if_neg q30] at hk
          refine ⟨fun _ => ?_, fun y => absurd (nI_le (a := 31) (by omega) (by omega)) y⟩
          have L : ∀ d k, k + d = tLen T c → P_X4_cellCost_56 K w (nI c) (nI (tLen T c)) (d + 1) (nI (codeCost (tb T c) k)) (nI k) := by
            intro d
            induction d with
            | zero =>
              intro k ek
              have : k = tLen T c := by omega
              subst this
              exact ⟨fun _ => hk, fun y => absurd (Int32.le_refl _) y⟩
            | succ d ih =>
              intro k ek
              have b1 := tb_lt hT hc (k := k) (by omega)
              have s1 := srt_le b1
              have nx := ih (k + 1) (by omega)
              unfold codeCost at nx
              refine ⟨fun y => absurd y (nI_ge (by omega) (by omega)), fun _ => m_byteOf hT h hc (by omega) (m_sortOf b1 ?_)⟩
              unfold P_X4_cellCost_97
              rw [nI_1]
              have eh := srt_h b1
              unfold srtH at eh
              have sl := sortN_lt b1
              refine ⟨fun y => ⟨fun x => ?_, fun x => ?_⟩, fun y => ?_⟩
              · have x := (nI_leI (a := 4) (by decide) (by omega)).mp x
                rw [if_neg (fun r => by rw [r, if_neg (by decide)] at eh; omega), if_neg (fun r => by rcases r with r | r <;> rw [r, if_neg (by decide)] at eh <;> omega)] at nx
                rw [show nI (codeCost (tb T c) k) + (0 : Int32) = nI (codeCost (tb T c) k + 0) from nI_add _ 0]
                exact nx
              · have x0 : srt (tb T c k) < 4 := by
                  rcases Nat.lt_or_ge (srt (tb T c k)) 4 with r | r
                  · exact r
                  · exact absurd (nI_le (a := 4) r (by omega)) x
                have y0 : srt (tb T c k) ≠ 1 := fun r => y (by rw [r]; rfl)
                have c5 : sortN (tb T c k) = 257 ∨ sortN (tb T c k) = 258 := by
                  split at eh <;> omega
                rw [if_neg (by omega), if_pos c5] at nx
                rw [show nI (codeCost (tb T c) k) + (5 : Int32) = nI (codeCost (tb T c) k + 5) from nI_add _ 5]
                exact nx
              · have y0 : srt (tb T c k) = 1 := (nI_eq (b := 1) (by omega) (by decide)).mp y
                have c4 : sortN (tb T c k) = 256 := by
                  split at eh <;> omega
                rw [if_pos c4] at nx
                rw [show nI (codeCost (tb T c) k) + (4 : Int32) = nI (codeCost (tb T c) k + 4) from nI_add _ 4]
                exact nx
          exact ⟨tLen T c + 1, L (tLen T c) 0 (by omega)⟩
  · have q0 : form = 0 := (nI_eq (b := 0) (by omega) (by decide)).mp z
    rw [if_pos q0] at hk
    rw [show (4 : Int32) = nI 4 from rfl, show (8 : Int32) = nI 8 from rfl, pk_mul, nI_add]
    exact hk
theorem m_topOf {K : Int64 → Prop} {form : Nat} (h7 : 7 ≤ form) (h21 : form ≤ 21) (hk : K (lN (9999 * 10 ^ decN form))) : P_X4_topOf K (nI form) := by
  have hd := decN_le h21
  have L : ∀ d k, k + d = decN form → P_X4_topOf_6 K (nI form) (d + 1) (lN (9999 * 10 ^ k)) (nI k) := by
    intro d
    induction d with
    | zero =>
      intro k ek
      have : k = decN form := by omega
      subst this
      exact m_decimals h7 h21 ⟨fun _ => hk, fun y => absurd (Int32.le_refl _) y⟩
    | succ d ih =>
      intro k ek
      refine m_decimals h7 h21 ⟨fun y => absurd y (nI_ge (by omega) (by omega)), fun _ => ?_⟩
      rw [nI_1, show lN (9999 * 10 ^ k) * (10 : Int64) = lN (9999 * 10 ^ (k + 1)) by rw [show (10 : Int64) = lN 10 from rfl, lN_mul, Nat.pow_succ, Nat.mul_assoc]]
      exact ih (k + 1) (by omega)
  exact ⟨decN form + 1, L (decN form) 0 (by omega)⟩
/-- how many of the first k rows belong to the COLUMNS -/
def plC (T : Tb) (hd : Bool) : Nat → Nat
  | 0 => 0
  | k + 1 => plC T hd k + (if tPlain T hd k then 1 else 0)
theorem plC_le (T : Tb) (hd : Bool) : ∀ k, plC T hd k ≤ k := by
  intro k
  induction k with
  | zero => exact Nat.le_refl _
  | succ k ih => unfold plC; split <;> omega
theorem plC_mono (T : Tb) (hd : Bool) : ∀ d k, plC T hd k ≤ plC T hd (k + d) := by
  intro d
  induction d with
  | zero => intro k; exact Nat.le_refl _
  | succ d ih => intro k; have := ih k; show plC T hd k ≤ plC T hd (k + d) + _; omega
theorem plC_lt {T : Tb} {hd : Bool} {r k : Nat} (h : tPlain T hd r = true) (hk : r < k) : plC T hd r < plC T hd k := by
  have := plC_mono T hd (k - (r + 1)) (r + 1)
  rw [show r + 1 + (k - (r + 1)) = k by omega] at this
  have e : plC T hd (r + 1) = plC T hd r + 1 := by show plC T hd r + (if tPlain T hd r = true then 1 else 0) = _; rw [if_pos h]
  omega
/-- the reference holds the cells of a COLUMN -/
def GaM (w : MW) (T : Tb) (hd : Bool) (col : Nat) : Prop := md_columnMany w = nI (plC T hd (tR T)) ∧ ∀ r, r < tR T → tPlain T hd r = true → md_column w (plC T hd r) = nI (cel T col r) ∧ md_columnRow w (plC T hd r) = nI r
theorem GaM.v {w : MW} {T : Tb} {hd : Bool} {col : Nat} (h : GaM w T hd col) (a : Int64) (b : Int32) : GaM (vm w a b) T hd col := by
  unfold GaM vm
  simp only [gs_md_value, gs_md_digits]
  exact h
theorem m_isPlain {w : MW} {T : Tb} {K : Int32 → Prop} {j r : Nat} (hT : tWF T) (h : RepM w T) (hl : md_loaded w = nI j) (hj : j < 24) (hr : r < tR T) (hk : K (bI (tPlain T (hdB j) r))) : P_X4_isPlain K w (nI r) := by
  have hR := hT.1
  have ep : tPlain T (hdB j) r = (decide ((if hdB j then 1 else 0) ≤ r) && !tOdd T r) := by
    unfold tPlain
    simp [hr]
  have c14 : (if hdB j then 1 else 0) ≤ r → P_X4_isPlain_14 K w (nI r) := by
    intro hle
    unfold P_X4_isPlain_14
    refine m_isOdd hT h hr ?_
    rw [ep, decide_eq_true hle, Bool.true_and] at hk
    cases e : tOdd T r with
    | true => rw [e] at hk; exact ⟨fun _ => hk, fun z => absurd z (by decide)⟩
    | false => rw [e] at hk; exact ⟨fun z => absurd rfl z, fun _ => hk⟩
  unfold P_X4_isPlain
  refine ⟨fun z => c14 ?_, fun z => ?_⟩
  · have z := (nI_ltI (a := 0) (by decide) (by omega)).mp z
    split <;> omega
  · have r0 : r = 0 := by
      rcases Nat.eq_zero_or_pos r with e | e
      · exact e
      · exact absurd (nI_lt (a := 0) e (by omega)) z
    rw [hl]
    refine m_hasHead (by omega) ?_
    rw [hdB_i]
    cases e : hdB j with
    | true =>
      refine ⟨fun _ => ?_, fun y => absurd y (by decide)⟩
      rw [ep, e, r0] at hk
      exact hk
    | false =>
      refine ⟨fun y => absurd rfl y, fun _ => c14 ?_⟩
      rw [e]
      exact Nat.zero_le _
