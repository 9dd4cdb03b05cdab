/-! NUMBER whole, DAY, and what tells and costs a cell, the class' side -/
def sgI (v : Nat) (ng : Bool) : Int32 := if ng then -(nI v) else nI v
def numE (form n : Nat) (f : Nat → Nat) (e b : Nat) : Option (Nat × Nat × Bool) :=
  if e ≤ b then none else if 1 < e - b ∧ f b = 48 then none else
  match nRun f e b (ptN form) (thN form) (n - b) b (0, 0) with
  | none => none
  | some s => if b = 1 ∧ s.1 = 0 then none else some (s.1, s.2, decide (b = 1))
def numR (form n : Nat) (f : Nat → Nat) : Option (Nat × Nat × Bool) :=
  if 0 < decN form ∧ n < decN form + 1 then none else numE form n f (if 0 < decN form then n - decN form - 1 else n) (if 0 < n ∧ f 0 = 45 then 1 else 0)
def capOK (cap : Bool) (d v : Nat) (ng : Bool) : Bool := !cap || ng || decide (v < 9999 * 10 ^ d)
theorem x_bigOf {K : Int32 → Prop} {d : Nat} (hd : d ≤ 3) (hk : K (nI (9999 * 10 ^ d))) : P_X2_bigOf K (nI d) := by
  unfold P_X2_bigOf
  rcases (show d = 0 ∨ d = 1 ∨ d = 2 ∨ d = 3 by omega) with e | e | e | e <;> subst e <;> refine ⟨4, ?_⟩ <;> simp (disch := omega) [e_m1, e_lit, e_zero, e_one, le_t, le_f, lt_t, lt_f, eq_t, eq_f, in_t, cl_n, nI_1, nI_add, sub_n, m1_lt, m1_le, lt_m1, le_m1, eq_m1, m1_eq, pk_mul, P_X2_bigOf_6] <;> simpa using hk
theorem nStep_lt {f : Nat → Nat} {e b pt : Nat} {th : Int32} {k : Nat} {s s' : Nat × Nat} (h : nStep f e b pt th k s = some s') (h1 : s.1 < 10 ^ s.2) (h2 : s.2 ≤ 9) : s'.1 < 10 ^ s'.2 ∧ s'.2 ≤ 9 := by
  unfold nStep at h
  split at h
  · split at h
    · rename_i q
      cases h
      refine ⟨?_, by have := q.2; omega⟩
      show s.1 * 10 + (f k - 48) < 10 ^ (s.2 + 1)
      rw [Nat.pow_succ]
      omega
    · cases h
  · split at h
    · cases h; exact ⟨h1, h2⟩
    · cases h
theorem nRun_lt {f : Nat → Nat} {e b pt : Nat} {th : Int32} : ∀ {d k : Nat} {s s' : Nat × Nat}, nRun f e b pt th d k s = some s' → s.1 < 10 ^ s.2 → s.2 ≤ 9 → s'.1 < 10 ^ s'.2 ∧ s'.2 ≤ 9 := by
  intro d
  induction d with
  | zero => intro k s s' h h1 h2; cases h; exact ⟨h1, h2⟩
  | succ d ih =>
    intro k s s' h h1 h2
    unfold nRun at h
    cases q : nStep f e b pt th k s with
    | none => rw [q] at h; cases h
    | some s1 =>
      rw [q] at h
      obtain ⟨g1, g2⟩ := nStep_lt q h1 h2
      exact ih h g1 g2
theorem neg_facts {v : Nat} (hv : v < 10 ^ 9) {B : Nat} (hB : B < 10 ^ 9) (hB0 : 0 < B) : ¬ nI B ≤ -(nI v) := by
  intro h
  have h1 := Int32.le_iff_toInt_le.mp h
  rw [nI_toInt (by omega), Int32.toInt_neg, nI_toInt (by omega)] at h1
  rw [Int.bmod_eq_of_le (by omega) (by omega)] at h1
  omega
theorem decN_le {form : Nat} (h2 : form ≤ 21) : decN form ≤ 3 := by unfold decN; split <;> omega
theorem x_num242 {w : XW} {K : Int32 → XW → Prop} {d v dg : Nat} {ng cap : Bool} (hd : d ≤ 3) (hv : v < 10 ^ 9) (hc : fm_capped w = bI cap) (hk : K (bI (capOK cap d v ng)) (fw w (sgI v ng) (nI dg))) : P_X2_tellsNumber_242 K (fw w (sgI v ng) (nI dg)) (nI d) := by
  unfold P_X2_tellsNumber_242
  rw [fw_c, hc]
  have hB : 9999 * 10 ^ d < 10 ^ 9 := by
    have : (10 : Nat) ^ d ≤ 10 ^ 3 := Nat.pow_le_pow_right (by decide) hd
    omega
  have hB0 : 0 < 9999 * 10 ^ d := by
    have : 0 < (10 : Nat) ^ d := Nat.pow_pos (by decide)
    omega
  cases cap with
  | false =>
    have hk : K (nI 1) (fw w (sgI v ng) (nI dg)) := hk
    exact ⟨fun _ => hk, fun z => absurd rfl z⟩
  | true =>
    refine ⟨fun z => absurd z (by decide), fun _ => x_bigOf hd ?_⟩
    rw [fw_w]
    cases ng with
    | true =>
      have hk : K (nI 1) (fw w (sgI v true) (nI dg)) := hk
      exact ⟨fun z => absurd z (neg_facts hv hB hB0), fun _ => hk⟩
    | false =>
      show (nI (9999 * 10 ^ d) ≤ nI v → _) ∧ _
      by_cases q : v < 9999 * 10 ^ d
      · have q2 : capOK true d v false = true := by unfold capOK; simp [q]
        rw [q2] at hk
        exact ⟨fun z => absurd z (nI_ge q (by omega)), fun _ => hk⟩
      · have q2 : capOK true d v false = false := by unfold capOK; simp; omega
        rw [q2] at hk
        exact ⟨fun _ => hk, fun z => absurd (nI_le (by omega) (by omega)) z⟩
theorem x_num98 {w : XW} {T : Tb} {K : Int32 → XW → Prop} (hT : tWF T) (h : RepX w T) {c form e b : Nat} {cap : Bool} (hc : c < tN T) (h2 : form ≤ 21) (hcap : fm_capped w = bI cap) (he : e ≤ tLen T c) (hb : b ≤ 1) (hbe : b < e)
    (h3 : ∀ v dg, nRun (tb T c) e b (ptN form) (thN form) (tLen T c - b) b (0, 0) = some (v, dg) → ¬ (b = 1 ∧ v = 0) → K (bI (capOK cap (decN form) v (decide (b = 1)))) (fw w (sgI v (decide (b = 1))) (nI dg)))
    (h4 : (∀ v dg, nRun (tb T c) e b (ptN form) (thN form) (tLen T c - b) b (0, 0) = some (v, dg) → (b = 1 ∧ v = 0)) → ∀ x y, K (nI 0) (fw w x y)) :
    P_X2_tellsNumber_98 K (fw w (nI 0) (nI 0)) (nI c) (nI (decN form)) (nI (tLen T c)) (nI e) (nI b) (nI (ptN form)) (thN form) := by
  have hl := tLen_le hT hc
  unfold P_X2_tellsNumber_98
  refine ⟨tLen T c - b + 1, x_number_l hT h hc (by omega) (by omega) (tLen T c - b) b 0 0 (by omega) (by decide) (by decide) (fun v dg hr => ?_) (fun hr => ?_)⟩
  · obtain ⟨g1, g2⟩ := nRun_lt hr (by decide) (by decide)
    have g3 : v < 10 ^ 9 := Nat.lt_of_lt_of_le g1 (Nat.pow_le_pow_right (by decide) g2)
    have hd := decN_le h2
    rcases (show b = 0 ∨ b = 1 by omega) with q | q
    · subst q
      refine ⟨fun _ => ?_, fun z => absurd z (by decide)⟩
      refine ⟨fun _ => x_num242 (ng := false) hd g3 hcap (h3 v dg hr (fun z => absurd z.1 (by decide))), fun z => absurd rfl z⟩
    · subst q
      refine ⟨fun z => absurd rfl z, fun _ => ⟨fun z => absurd z (by decide), fun _ => ⟨fun z => ?_, fun z => ?_⟩⟩⟩
      · have hv0 : v = 0 := by
          have z : -(nI v) = 0 := z
          have z1 := congrArg Int32.toInt z
          rw [Int32.toInt_neg, nI_toInt (by omega), Int.bmod_eq_of_le (by omega) (by omega)] at z1
          have z2 : (0 : Int32).toInt = 0 := by decide
          rw [z2] at z1
          omega
        refine h4 (fun v' dg' hr' => ?_) _ _
        rw [hr] at hr'
        cases hr'
        exact ⟨rfl, hv0⟩
      · have hv0 : ¬ v = 0 := fun y => z (by show -(nI v) = 0; rw [y]; decide)
        exact x_num242 (ng := true) hd g3 hcap (h3 v dg hr (fun y => hv0 y.2))
  · exact h4 (fun v dg hr' => by rw [hr] at hr'; cases hr')
theorem x_num51 {w : XW} {T : Tb} {K : Int32 → XW → Prop} (hT : tWF T) (h : RepX w T) {c form e b : Nat} {cap : Bool} (hc : c < tN T) (h1 : 7 ≤ form) (h2 : form ≤ 21) (hcap : fm_capped w = bI cap) (he : e ≤ tLen T c) (hb : b ≤ 1)
    (h3 : ∀ v dg ng, numE form (tLen T c) (tb T c) e b = some (v, dg, ng) → K (bI (capOK cap (decN form) v ng)) (fw w (sgI v ng) (nI dg)))
    (h4 : numE form (tLen T c) (tb T c) e b = none → ∀ x y, K (nI 0) (fw w x y)) :
    P_X2_tellsNumber_51 K (fw w (nI 0) (nI 0)) (nI form) (nI c) (nI (decN form)) (nI (tLen T c)) (nI e) (nI b) := by
  have hl := tLen_le hT hc
  unfold P_X2_tellsNumber_51
  refine x_pointOf h1 h2 (x_thousandsOf h1 h2 ⟨fun z => ?_, fun z => ?_⟩)
  · have z' : e ≤ b := by
      rcases Nat.lt_or_ge b e with y | y
      · exact absurd z (nI_ge y (by omega))
      · exact y
    exact h4 (by unfold numE; rw [if_pos z']) _ _
  · have z' : b < e := by
      rcases Nat.lt_or_ge b e with y | y
      · exact y
      · exact absurd (nI_le y (by omega)) z
    have run : ¬ (1 < e - b ∧ tb T c b = 48) → P_X2_tellsNumber_98 K (fw w (nI 0) (nI 0)) (nI c) (nI (decN form)) (nI (tLen T c)) (nI e) (nI b) (nI (ptN form)) (thN form) := by
      intro y
      refine x_num98 hT h hc h2 hcap he hb z' (fun v dg hr hn => ?_) (fun hn => ?_)
      · refine h3 v dg _ ?_
        unfold numE
        rw [if_neg (by omega), if_neg y, hr]
        simp only
        rw [if_neg hn]
      · refine h4 ?_
        unfold numE
        rw [if_neg (by omega), if_neg y]
        cases q : nRun (tb T c) e b (ptN form) (thN form) (tLen T c - b) b (0, 0) with
        | none => rfl
        | some s =>
          have := hn s.1 s.2 q
          simp only
          rw [if_pos this]
    rw [sub_n (by omega)]
    refine ⟨fun z2 => ?_, fun z2 => ?_⟩
    · refine run (fun y => absurd z2 (nI_ge y.1 (by omega)))
    · have y1 : 1 < e - b := by
        rcases Nat.lt_or_ge 1 (e - b) with y | y
        · exact y
        · exact absurd (nI_le y (by omega)) z2
      have b1 := tb_lt hT hc (k := b) (by omega)
      refine x_byteIn hT (fw_rep h _ _) hc (by omega) ?_
      by_cases q : tb T c b = 48
      · refine ⟨fun y => absurd (congrArg nI q) y, fun _ => h4 ?_ _ _⟩
        unfold numE
        rw [if_neg (by omega), if_pos ⟨y1, q⟩]
      · refine ⟨fun _ => run (fun y => q y.2), fun y => absurd ((nI_eq (by omega) (by decide)).mp y) q⟩
theorem x_tellsNumber {w : XW} {T : Tb} {K : Int32 → XW → Prop} (hT : tWF T) (h : RepX w T) {c form : Nat} {cap : Bool} (hc : c < tN T) (h1 : 7 ≤ form) (h2 : form ≤ 21) (hcap : fm_capped w = bI cap)
    (h3 : ∀ v dg ng, numR form (tLen T c) (tb T c) = some (v, dg, ng) → K (bI (capOK cap (decN form) v ng)) (fw w (sgI v ng) (nI dg)))
    (h4 : numR form (tLen T c) (tb T c) = none → ∀ x y, K (nI 0) (fw w x y)) : P_X2_tellsNumber K (fw w (nI 0) (nI 0)) (nI form) (nI c) := by
  have hl := tLen_le hT hc
  have hd := decN_le h2
  unfold P_X2_tellsNumber
  refine x_decimalsOf h1 h2 (x_lengthOf hT (fw_rep h _ _) hc ?_)
  -- the first byte
  have first : ∀ (v5 : Int32), (∀ b, b = (if 0 < tLen T c ∧ tb T c 0 = 45 then 1 else 0) → P_X2_tellsNumber_51 K (fw w (nI 0) (nI 0)) (nI form) (nI c) (nI (decN form)) (nI (tLen T c)) v5 (nI b)) → P_X2_tellsNumber_30 K (fw w (nI 0) (nI 0)) (nI form) (nI c) (nI (decN form)) (nI (tLen T c)) v5 := by
    intro v5 hp
    unfold P_X2_tellsNumber_30
    rcases Nat.eq_zero_or_pos (tLen T c) with q | q
    · refine x_byteIn_o hT (fw_rep h _ _) hc (v := 0) (by rw [q]; simp) ?_
      have := hp 0 (by rw [if_neg (by omega)])
      exact ⟨fun _ => this, fun z => absurd z (by decide)⟩
    · have b1 := tb_lt hT hc (k := 0) q
      refine x_byteIn hT (fw_rep h _ _) hc (k := 0) q ?_
      by_cases q2 : tb T c 0 = 45
      · have := hp 1 (by rw [if_pos ⟨q, q2⟩])
        exact ⟨fun y => absurd (congrArg nI q2) y, fun _ => this⟩
      · have := hp 0 (by rw [if_neg (fun y => q2 y.2)])
        exact ⟨fun _ => this, fun y => absurd ((nI_eq (by omega) (by decide)).mp y) q2⟩
  have hb1 : (if 0 < tLen T c ∧ tb T c 0 = 45 then 1 else 0) ≤ 1 := by split <;> omega
  refine ⟨fun z => ?_, fun z => ?_⟩
  · have z' : decN form = 0 := by
      rcases Nat.eq_zero_or_pos (decN form) with y | y
      · exact y
      · exact absurd z (nI_nle y (by omega))
    refine first _ (fun b e => ?_)
    unfold numR at h3 h4
    rw [if_neg (by omega), if_neg (by omega), ← e] at h3 h4
    exact x_num51 hT h hc h1 h2 hcap (Nat.le_refl _) (by rw [e]; exact hb1) h3 h4
  · have z' : 0 < decN form := by
      rcases Nat.eq_zero_or_pos (decN form) with y | y
      · exact absurd (by rw [y]; decide) z
      · exact y
    refine first _ (fun b e => ?_)
    unfold numR at h3 h4
    by_cases q : tLen T c < decN form + 1
    · rw [if_pos ⟨z', q⟩] at h4
      unfold P_X2_tellsNumber_51
      refine x_pointOf h1 h2 (x_thousandsOf h1 h2 ?_)
      have hb2 : b ≤ 1 := by rw [e]; exact hb1
      have le : nI (tLen T c) - nI (decN form) - (1 : Int32) ≤ nI b := by
        generalize tLen T c = n at q
        generalize decN form = dd at q z' hd
        rcases (show dd = 1 ∨ dd = 2 ∨ dd = 3 by omega) with y | y | y <;> subst y <;>
          rcases (show n = 0 ∨ n = 1 ∨ n = 2 ∨ n = 3 by omega) with x | x | x | x <;> subst x <;>
          rcases (show b = 0 ∨ b = 1 by omega) with u | u <;> subst u <;> first | decide | omega
      exact ⟨fun _ => h4 rfl _ _, fun y => absurd le y⟩
    · rw [if_neg (fun y => q y.2), if_pos z', ← e] at h3 h4
      rw [sub_n (by omega), e_one, sub_n (by omega)]
      exact x_num51 hT h hc h1 h2 hcap (by omega) (by rw [e]; exact hb1) h3 h4
