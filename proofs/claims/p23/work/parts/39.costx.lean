/-! the class: value, back, key; what a MAKE costs; the best MAKE -/
/-- what value says of a row's cell -/
def wV (T : Tb) (hd : Bool) (col fo co r : Nat) : Int32 :=
  if mis T col co r = true then nI 0 else if tellR T col fo co ((fstP T hd col co (tR T)).getD 0) r = true then tellV fo (tLen T (cel T col r)) (tb T (cel T col r)) else nI 0
/-- no COLUMN, or no row of it -/
def NoR (S : Sx) (rw v : Int32) : Prop := NoC S v ∨ (¬ (0 ≤ rw.toInt ∧ rw.toInt < tR (tbOf S (sU S))) ∨ ∃ r, r < tR (tbOf S (sU S)) ∧ rw = nI r ∧ tPlain (tbOf S (sU S)) (hdB (sU S)) r = false)
theorem X_value {S : Sx} {w : XW} {K : Int64 → XW → Prop} {rw v : Int32} (hS : SOK S) (h : IX S w) (hk0 : ∀ w', IX S w' → rd_prices w' = rd_prices w → NoR S rw v → K 0 w')
    (hk1 : ∀ w' r col fo co pr, v = nI col → col < tW (tbOf S (sU S)) → BeC S col fo co pr → rw = nI r → tPlain (tbOf S (sU S)) (hdB (sU S)) r = true → IX S w' → rd_prices w' = rd_prices w → K (Int32.toInt64 (wV (tbOf S (sU S)) (hdB (sU S)) col fo co r)) w') : P_X3_value K w rw v := by
  have hT := tb_wf hS (sU S)
  unfold P_X3_value
  refine X_hc hS h (fun w' a b c => ⟨fun _ => hk0 w' a b (Or.inl c), fun z => absurd rfl z⟩) (fun w' col fo co pr e a b => ⟨fun z => absurd z (by decide), fun _ => ?_⟩)
  have hc := a.col hS
  unfold P_X0_worthOf
  refine X_isIn hS a.2.2.1 (fun z => ⟨fun _ => ?_, fun y => absurd rfl y⟩) (fun r er hp => ⟨fun z => absurd z (by decide), fun _ => ?_⟩)
  · show K (Int32.toInt64 0) w'
    rw [show Int32.toInt64 0 = 0 from rfl]
    exact hk0 w' (a.i hS) b (Or.inr z)
  · rw [e, er]
    have ic : vp_in (nI col) 12 := vp_in_nI hc (by decide)
    refine ⟨fun z => absurd z (nI_pos (by omega)), fun _ => ⟨fun _ => ⟨ic, ?_⟩, fun z => absurd (nI_lt (b := 12) hc (by decide)) z⟩⟩
    rw [nI_clamp (by omega), a.2.2.2.2.2.1]
    refine x_survey hT a.2.2.1.rep a.2.2.1.hd a.1 a.2.1.2.2 (fun w2 g1 g2 => ?_)
    have a2 := a.2.2.1.eq3 g1
    have hcl := cel_lt hT hp a.1
    have p2 : rd_prices w2 = rd_prices w := (pr_of g1.1).trans b
    refine x_cel hT a2.rep hp a.1 ⟨ic, ?_⟩
    rw [show cs_codeOf w2 col = nI co by rw [g1.2.2.2.1]; exact a.2.2.2.2.2.1, show cs_formOf w2 col = nI fo by rw [g1.2.2.1]; exact a.2.2.2.2.1]
    have k1 := hk1
    unfold wV at k1
    refine x_isMissing hT a2.rep hcl a.2.1.2.2 ?_
    cases e2 : misB co (tLen (tbOf S (sU S)) (cel (tbOf S (sU S)) col r)) (tb (tbOf S (sU S)) (cel (tbOf S (sU S)) col r)) with
    | true =>
      have e3 : mis (tbOf S (sU S)) col co r = true := e2
      refine ⟨fun _ => ?_, fun z => absurd z (by decide)⟩
      have q := k1 w2 r col fo co pr e a.1 a.2.1 er hp (a2.i hS.2.2.2) p2
      rw [if_pos e3] at q
      exact q
    | false =>
      have e3 : mis (tbOf S (sU S)) col co r = false := e2
      refine ⟨fun z => absurd rfl z, fun _ => ⟨ic, ?_⟩⟩
      obtain ⟨c0, hc0⟩ := fstP_some (m := co) hp e3 (tR (tbOf S (sU S))) (plain_i hT hp).1
      have hc0l := fstP_lt hT a.1 hc0
      have hff : fm_first w2 = nI c0 := by rw [g2.2.2.1, hc0]; rfl
      refine x_tells hT a2.rep hcl hc0l hff g2.2.2.2 a.2.1.2.1 (fun x y hxy => ?_)
      have q := k1 (fw w2 x y) r col fo co pr e a.1 a.2.1 er hp ((a2.eq3 (fw_eq3 w2 x y)).i hS.2.2.2) p2
      rw [if_neg (by rw [e3]; decide), hc0] at q
      have tr : tellOK fo (decide (co = 4)) (tLen (tbOf S (sU S)) (cel (tbOf S (sU S)) col r)) (tb (tbOf S (sU S)) (cel (tbOf S (sU S)) col r)) (tLen (tbOf S (sU S)) c0) (tb (tbOf S (sU S)) c0) = tellR (tbOf S (sU S)) col fo co c0 r := rfl
      rw [tr] at hxy ⊢
      cases e4 : tellR (tbOf S (sU S)) col fo co c0 r with
      | true =>
        have e5 : tellR (tbOf S (sU S)) col fo co (Option.getD (some c0) 0) r = true := e4
        rw [if_pos e5] at q
        refine ⟨fun z => absurd z (by decide), fun _ => ?_⟩
        rw [show fm_worth (fw w2 x y) = tellV fo (tLen (tbOf S (sU S)) (cel (tbOf S (sU S)) col r)) (tb (tbOf S (sU S)) (cel (tbOf S (sU S)) col r)) from (fw_w w2 x y).trans (hxy e4).1]
        exact q
      | false =>
        have e5 : ¬ tellR (tbOf S (sU S)) col fo co (Option.getD (some c0) 0) r = true := by rw [show tellR (tbOf S (sU S)) col fo co (Option.getD (some c0) 0) r = false from e4]; decide
        rw [if_neg e5] at q
        exact ⟨fun _ => q, fun z => absurd rfl z⟩
theorem X_back {S : Sx} {w : XW} {K : Int32 → XW → Prop} {rw v k : Int32} (hS : SOK S) (h : IX S w) (hk0 : ∀ w', IX S w' → rd_prices w' = rd_prices w → NoR S rw v → K m1 w')
    (hk1 : ∀ w' r col fo co pr, v = nI col → col < tW (tbOf S (sU S)) → BeC S col fo co pr → rw = nI r → tPlain (tbOf S (sU S)) (hdB (sU S)) r = true → IX S w' → rd_prices w' = rd_prices w → K (byteA (tbOf S (sU S)) (nI (cel (tbOf S (sU S)) col r)) k) w') : P_X3_back K w rw v k := by
  have hT := tb_wf hS (sU S)
  unfold P_X3_back
  refine X_hc hS h (fun w' a b c => ⟨fun _ => hk0 w' a b (Or.inl c), fun z => absurd rfl z⟩) (fun w' col fo co pr e a b => ⟨fun z => absurd z (by decide), fun _ => ?_⟩)
  refine X_isIn hS a.2.2.1 (fun z => ⟨fun _ => hk0 w' (a.i hS) b (Or.inr z), fun y => absurd rfl y⟩) (fun r er hp => ⟨fun z => absurd z (by decide), fun _ => ?_⟩)
  rw [e, er]
  refine x_cel hT a.2.2.1.rep hp a.1 (x_byteA hT a.2.2.1.rep (Or.inr ⟨_, cel_lt hT hp a.1, rfl⟩) ?_)
  exact hk1 w' r col fo co pr e a.1 a.2.1 er hp (a.i hS) b
def keyB (T : Tb) (hd : Bool) (col co : Nat) : Bool := decide (cntM T hd col co (tR T) = 0) && unlS T hd col (tR T) 0
theorem X_key {S : Sx} {w : XW} {K : Int32 → XW → Prop} {v : Int32} (hS : SOK S) (h : IX S w) (hk0 : ∀ w', IX S w' → rd_prices w' = rd_prices w → NoC S v → K m1 w')
    (hk1 : ∀ w' col fo co pr, v = nI col → col < tW (tbOf S (sU S)) → BeC S col fo co pr → IX S w' → rd_prices w' = rd_prices w → K (bI (keyB (tbOf S (sU S)) (hdB (sU S)) col co)) w') : P_X3_key K w v := by
  have hT := tb_wf hS (sU S)
  have hR := hT.1
  unfold P_X3_key
  refine X_hc hS h (fun w' a b c => ⟨fun z => absurd rfl z, fun _ => hk0 w' a b c⟩) (fun w' col fo co pr e a b => ⟨fun _ => ?_, fun z => absurd z (by decide)⟩)
  have hc := a.col hS
  rw [e]
  refine ⟨vp_in_nI hc (by decide), ?_⟩
  rw [nI_clamp (by omega), a.2.2.2.2.2.1]
  refine X_cnt hS a (fun w2 g1 g2 => ?_)
  have q := hk1 w2 col fo co pr e a.1 a.2.1 (g1.i hS.2.2.2) (g2.trans b)
  have hcm := cntM_le (tbOf S (sU S)) (hdB (sU S)) col co (tR (tbOf S (sU S)))
  unfold keyB at q
  refine ⟨fun z => ?_, fun z => ?_⟩
  · have n0 : ¬ cntM (tbOf S (sU S)) (hdB (sU S)) col co (tR (tbOf S (sU S))) = 0 := fun y => z (by rw [y]; rfl)
    rw [decide_eq_false n0, Bool.false_and] at q
    exact q
  · have y0 : cntM (tbOf S (sU S)) (hdB (sU S)) col co (tR (tbOf S (sU S))) = 0 := (nI_eq (b := 0) (by omega) (by decide)).mp z
    rw [decide_eq_true y0, Bool.true_and] at q
    refine x_allUnlike hT g1.rep g1.hd a.1 ?_
    cases e2 : unlS (tbOf S (sU S)) (hdB (sU S)) col (tR (tbOf S (sU S))) 0 with
    | true => rw [e2] at q; exact ⟨fun z => absurd z (by decide), fun _ => q⟩
    | false => rw [e2] at q; exact ⟨fun _ => q, fun z => absurd rfl z⟩
/-! what a MAKE costs -/
def bytR (T : Tb) (r : Nat) : Nat := tC T (tS T (r + 1)) - tC T (tS T r)
theorem x_bytesOf {w : XW} {T : Tb} {K : Int32 → Prop} (hT : tWF T) (h : RepX w T) {r : Nat} (hr : r < tR T) (hk : K (nI (bytR T r))) : P_X1_bytesOf K w (nI r) := by
  obtain ⟨h1, h2, h3, h4, h5⟩ := h
  have hR := hT.1
  have g1 := hT.2.2.1 r hr
  have g2 := tS_up hT (r + 1) (by omega)
  have g3 := tS_le hT (r := r + 1) (s := tR T) (by omega) (Nat.le_refl _)
  have gN : tN T = tS T (tR T) := rfl
  have g4 := tC_le hT (r := tS T r) (s := tS T (r + 1)) (by omega) (by omega)
  unfold P_X1_bytesOf
  unfold bytR at hk
  rw [h1, nI_1, nI_clamp (by omega), nI_clamp (by omega), h3 (r + 1) (by omega), h3 r (by omega), nI_clamp (by omega), nI_clamp (by omega), h4 _ (by omega), h4 _ (by omega), sub_n g4]
  exact ⟨fun z => absurd z (nI_pos (by omega)), fun _ => ⟨fun _ => ⟨vp_in_nI (by omega) (by decide), vp_in_nI (by omega) (by decide), vp_in_nI (by omega) (by decide), vp_in_nI (by omega) (by decide), hk⟩, fun z => absurd (nI_lt hr (by omega)) z⟩⟩
def besS (T : Tb) : Nat → Nat
  | 0 => 0
  | k + 1 => besS T k + (if tOdd T k then 30 + 8 * bytR T k else 0)
def besH (T : Tb) (hd : Bool) : Nat := if hd then 4 * tW T + 8 * (if 0 < tR T then bytR T 0 else 0) else 0
def besN (j : Nat) (T : Tb) : Nat := (if qtN j = 256 then 0 else 3) + besH T (hdB j) + besS T (tR T)
theorem bytR_le {T : Tb} (hT : tWF T) {r : Nat} (hr : r < tR T) : bytR T r ≤ 1200 := by
  have g3 := tS_le hT (r := r + 1) (s := tR T) (by omega) (Nat.le_refl _)
  have := tC_up hT (c := tS T (r + 1)) g3
  unfold bytR
  omega
theorem besS_le {T : Tb} (hT : tWF T) : ∀ k, k ≤ tR T → besS T k ≤ 9630 * k := by
  intro k
  induction k with
  | zero => intro _; exact Nat.le_refl _
  | succ k ih =>
    intro hk
    have := ih (by omega)
    have := bytR_le hT (r := k) (by omega)
    unfold besS
    split <;> omega
theorem besN_le {T : Tb} (hT : tWF T) (j : Nat) : besN j T ≤ 800000 := by
  have h1 := besS_le hT (tR T) (Nat.le_refl _)
  have h2 := hT.1
  have h3 := tW_le hT
  unfold besN besH
  have h4 : (if 0 < tR T then bytR T 0 else 0) ≤ 1200 := by
    split
    · rename_i e; exact bytR_le hT e
    · omega
  have h5 : (if qtN j = 256 then 0 else 3) ≤ 3 := by split <;> omega
  generalize (if 0 < tR T then bytR T 0 else 0) = z at *
  generalize (if qtN j = 256 then 0 else 3) = y at *
  cases hdB j with
  | true => rw [if_pos rfl]; omega
  | false => rw [if_neg (by decide)]; omega
theorem x_pbc {w : XW} {T : Tb} {K : Int32 → Prop} {j : Nat} (hT : tWF T) (h : RepX w T) (hq : cu_quote w = qI (qtN j)) (hh : cu_headed w = bI (hdB j)) (hk : K (nI (besN j T))) : P_X1_priceBesideColumns K w := by
  have hR := hT.1
  have L : ∀ d r b, r + d = tR T → K (nI (b + besS T (tR T))) → P_X1_priceBesideColumns_41 K w (d + 1) (nI (b + besS T r)) (nI r) := by
    intro d
    induction d with
    | zero =>
      intro r b er hk
      have : r = tR T := by omega
      subst this
      exact ⟨fun _ => hk, fun z => absurd (by rw [h.1]; exact Int32.le_refl _) z⟩
    | succ d ih =>
      intro r b er hk
      have nx := ih (r + 1) b (by omega) hk
      unfold besS at nx
      refine ⟨fun z => absurd z (by rw [h.1]; exact nI_ge (by omega) (by omega)), fun _ => x_isOdd hT h (by omega) ?_⟩
      unfold P_X1_priceBesideColumns_71
      rw [nI_1]
      cases e : tOdd T r with
      | true =>
        rw [e] at nx
        refine ⟨fun z => absurd z (by decide), fun _ => x_bytesOf hT h (by omega) ?_⟩
        rw [show nI (b + besS T r) + ((30 : Int32) + (8 : Int32) * nI (bytR T r)) = nI (b + (besS T r + (30 + 8 * bytR T r))) by rw [show (8 : Int32) = nI 8 from rfl, pk_mul, show (30 : Int32) = nI 30 from rfl, nI_add, nI_add]; congr 1; omega]
        exact nx
      | false =>
        rw [e] at nx
        exact ⟨fun _ => nx, fun z => absurd rfl z⟩
  have t39 : ∀ b, K (nI (b + besS T (tR T))) → P_X1_priceBesideColumns_39 K w (nI b) := fun b hb => ⟨tR T + 1, L (tR T) 0 b (by omega) hb⟩
  have t13 : ∀ b, K (nI (b + besH T (hdB j) + besS T (tR T))) → P_X1_priceBesideColumns_13 K w (nI b) := by
    intro b hb
    unfold P_X1_priceBesideColumns_13
    rw [hh]
    unfold besH at hb
    cases e : hdB j with
    | false =>
      rw [e] at hb
      exact ⟨fun _ => t39 b hb, fun z => absurd rfl z⟩
    | true =>
      rw [e] at hb
      refine ⟨fun z => absurd z (by decide), fun _ => x_width hT h ?_⟩
      have fin : ∀ q, K (nI (b + (4 * tW T + 8 * q) + besS T (tR T))) → P_X1_priceBesideColumns_39 K w (nI b + ((4 : Int32) * nI (tW T) + (8 : Int32) * nI q)) := by
        intro q hq2
        rw [show nI b + ((4 : Int32) * nI (tW T) + (8 : Int32) * nI q) = nI (b + (4 * tW T + 8 * q)) by rw [show (4 : Int32) = nI 4 from rfl, show (8 : Int32) = nI 8 from rfl, pk_mul, pk_mul, nI_add, nI_add]]
        exact t39 _ hq2
      rcases Nat.eq_zero_or_pos (tR T) with e0 | e0
      · rw [if_pos rfl, if_neg (by omega)] at hb
        unfold P_X1_bytesOf
        rw [h.1, e0]
        exact ⟨fun z => absurd z (by decide), fun _ => ⟨fun z => absurd z (by decide), fun _ => fin 0 hb⟩⟩
      · rw [if_pos rfl, if_pos e0] at hb
        exact x_bytesOf hT h e0 (fin _ hb)
  unfold P_X1_priceBesideColumns
  rw [hq]
  unfold besN at hk
  unfold qI
  by_cases q : qtN j = 256
  · rw [if_pos q] at hk ⊢
    exact ⟨fun z => absurd rfl z, fun _ => t13 0 hk⟩
  · rw [if_neg q] at hk ⊢
    exact ⟨fun _ => t13 3 hk, fun z => absurd (show nI (qtN j) = m1 from z) (fun y => m1_ne (by have := qtN_le j; omega) y.symm)⟩
/-- what a COLUMN costs -/
def PrC (T : Tb) (hd : Bool) (col p : Nat) : Prop := ((∀ m f, Sall m f → cOf T hd col f m = none) ∧ p = 0) ∨ ∃ fo co, Best (cOf T hd col) Sall fo co p
theorem PrC.one {T : Tb} {hd : Bool} {col p q : Nat} (h1 : PrC T hd col p) (h2 : PrC T hd col q) : p = q := by
  rcases h1 with ⟨a, e⟩ | ⟨fo, co, a⟩
  · rcases h2 with ⟨b, e2⟩ | ⟨fo, co, b⟩
    · omega
    · have := b.2.1; rw [a co fo b.1] at this; exact absurd this (fun z => by cases z)
  · rcases h2 with ⟨b, e2⟩ | ⟨fo2, co2, b⟩
    · have := a.2.1; rw [b co fo a.1] at this; exact absurd this (fun z => by cases z)
    · exact (a.one b).2.2
def smN (f : Nat → Nat) : Nat → Nat
  | 0 => 0
  | k + 1 => smN f k + f k
theorem smN_c {f g : Nat → Nat} : ∀ k, (∀ i, i < k → f i = g i) → smN f k = smN g k := by
  intro k
  induction k with
  | zero => intro _; rfl
  | succ k ih => intro h; unfold smN; rw [ih (fun i hi => h i (by omega)), h k (by omega)]
/-- what MAKE j costs -/
def MC (S : Sx) (j : Nat) (r : Int32) : Prop := (rFt j (sT S) (sN S) ≠ 0 ∧ r = m1) ∨ (rFt j (sT S) (sN S) = 0 ∧ ∃ ps, (∀ c, c < tW (tbOf S j) → PrC (tbOf S j) (hdB j) c (ps c) ∧ ps c < 10000000) ∧ r = nI (besN j (tbOf S j) + smN ps (tW (tbOf S j))))
theorem MC.one {S : Sx} {j : Nat} {r q : Int32} (h1 : MC S j r) (h2 : MC S j q) : r = q := by
  rcases h1 with ⟨a, e⟩ | ⟨a, ps, b, e⟩
  · rcases h2 with ⟨c, e2⟩ | ⟨c, -⟩
    · rw [e, e2]
    · exact absurd c a
  · rcases h2 with ⟨c, -⟩ | ⟨c, ps2, d, e2⟩
    · exact absurd a c
    · rw [e, e2, smN_c _ (fun i hi => (b i hi).1.one (d i hi).1)]
theorem smN_le {f : Nat → Nat} {B : Nat} : ∀ k, (∀ i, i < k → f i < B) → smN f k ≤ B * k := by
  intro k
  induction k with
  | zero => intro _; exact Nat.zero_le _
  | succ k ih =>
    intro h
    have := ih (fun i hi => h i (by omega))
    have := h k (by omega)
    unfold smN
    rw [Nat.mul_succ]
    omega
theorem MC.n {S : Sx} {j : Nat} {r : Int32} (hS : SOK S) (h : MC S j r) : r = m1 ∨ ∃ z, z < 2 ^ 30 ∧ r = nI z := by
  rcases h with ⟨a, e⟩ | ⟨a, ps, b, e⟩
  · exact Or.inl e
  · have h1 := besN_le (tb_wf hS j) j
    have h2 := smN_le (tW (tbOf S j)) (fun i hi => (b i hi).2)
    have h3 := tW_le (tb_wf hS j)
    exact Or.inr ⟨_, by omega, e⟩
def PrX (S : Sx) (w : XW) : Prop := ∀ j, j < 24 → rd_prices w j = m2 ∨ MC S j (rd_prices w j)
theorem X_price {S : Sx} {w : XW} {K : Int32 → XW → Prop} {j : Nat} (hS : SOK S) (h : IX S w) (hp : PrX S w) (hj : j < 24) (hk : ∀ r w', IX S w' → PrX S w' → MC S j r → K r w') : P_X3_priceOfMake K w (nI j) := by
  have hT := tb_wf hS j
  have hW := tW_le hT
  have hin : vp_in (nI j) 24 := vp_in_nI hj (by decide)
  have cl : (nI j).toNatClampNeg = j := nI_clamp (by omega)
  have p83 : ∀ (w' : XW) (s : Int32), AtX S j w' → rd_prices w' = rd_prices w → MC S j s → P_X3_priceOfMake_83 K w' (nI j) s (nI j) := by
    intro w' s hw hpr hs
    unfold P_X3_priceOfMake_83 P_X3_priceOfMake_84
    refine ⟨hin, hin, ?_⟩
    rw [cl, (gs_rd_prices w' (upd (rd_prices w') j s)).2.2.1, pk_us]
    refine hk s _ (AtX.i (j := j) ⟨hw.1.of ?_ ?_ ?_ ?_ ?_, ?_, hw.2.2.1.of rfl, hw.2.2.2⟩ hj) (fun i hi => ?_) hs
    · simp [gs_rd_prices]
    · simp [gs_rd_prices]
    · simp [gs_rd_prices]
    · simp [gs_rd_prices]
    · simp [gs_rd_prices]
    · simp [gs_rd_prices]; exact hw.2.1
    · rw [(gs_rd_prices w' (upd (rd_prices w') j s)).2.2.1]
      by_cases q : i = j
      · subst q; rw [pk_us]; exact Or.inr hs
      · rw [pk_un q, hpr]; exact hp i hi
  unfold P_X3_priceOfMake
  refine ⟨hin, ?_⟩
  rw [cl]
  refine ⟨fun z => ?_, fun z => ?_⟩
  · unfold P_X3_priceOfMake_84
    refine ⟨hin, ?_⟩
    rw [cl]
    rcases hp j hj with e | e
    · exact absurd e z
    · exact hk _ w h hp e
  · refine X_ctb hS h hj (fun w1 g1 g2 => x_pbc hT g1.rep g1.2.2.1.2.2.2.1 g1.hd ⟨tW (tbOf S j) + 1, ?_⟩)
    have fin : ∀ (u : XW) (v : Int32), AtX S j u → rd_prices u = rd_prices w → (∃ ps, (∀ c, c < tW (tbOf S j) → PrC (tbOf S j) (hdB j) c (ps c) ∧ ps c < 10000000) ∧ v = nI (besN j (tbOf S j) + smN ps (tW (tbOf S j)))) → (¬ cu_fault u = 0 → P_X3_priceOfMake_83 K u (nI j) (-1) (nI j)) ∧ (cu_fault u = 0 → P_X3_priceOfMake_83 K u (nI j) v (nI j)) := by
      intro u v hu hpu hv
      have f5 : rFt j (sT S) (sN S) < 5 := by
        unfold rFt pRes pEnd
        split
        · split <;> decide
        · have := pRun_F (mkN j) (qtN j) (sT S) (sN S) (sN S)
          split
          · split
            · show 1 < 5; decide
            · show 0 < 5; decide
          · exact Nat.lt_of_le_of_lt this (by decide)
      rw [hu.2.2.1.2.1]
      refine ⟨fun y => p83 u _ hu hpu (Or.inl ⟨fun e => y (by rw [e]; rfl), rfl⟩), fun y => p83 u _ hu hpu (Or.inr ⟨(nI_eq (b := 0) (by omega) (by decide)).mp y, hv⟩)⟩
    have L : ∀ d k u ps, k + d = tW (tbOf S j) → AtX S j u → rd_prices u = rd_prices w → (∀ c, c < k → PrC (tbOf S j) (hdB j) c (ps c) ∧ ps c < 10000000) → P_X3_priceOfMake_26 K (fun w_5 v2_6 => (¬ (cu_fault w_5) = 0 → P_X3_priceOfMake_83 K w_5 (nI j) (-1 : Int32) (nI j)) ∧ ((cu_fault w_5) = 0 → P_X3_priceOfMake_83 K w_5 (nI j) v2_6 (nI j))) (nI j) (d + 1) u (nI (besN j (tbOf S j) + smN ps k)) (nI k) := by
      intro d
      induction d with
      | zero =>
        intro k u ps ek hu hpu hps
        have : k = tW (tbOf S j) := by omega
        subst this
        exact x_width hT hu.rep ⟨fun _ => fin u _ hu hpu ⟨ps, hps, rfl⟩, fun y => absurd (Int32.le_refl _) y⟩
      | succ d ih =>
        intro k u ps ek hu hpu hps
        refine x_width hT hu.rep ⟨fun y => absurd y (nI_ge (by omega) (by omega)), fun _ => x_choose hT hu.rep hu.hd (by omega) (hu.2.2.2 k (by omega)) (fun w2 k1 k2 => ⟨vp_in_nI (by omega) (by decide), ?_⟩)⟩
        have g3 := hu.eqC k1 k2
        have g4 : rd_prices w2 = rd_prices w := (pr_of k1.1).trans hpu
        rw [nI_clamp (by omega), nI_1]
        have st : ∀ p, PrC (tbOf S j) (hdB j) k p → p < 10000000 → cs_priceOf w2 k = nI p → P_X3_priceOfMake_26 K (fun w_5 v2_6 => (¬ (cu_fault w_5) = 0 → P_X3_priceOfMake_83 K w_5 (nI j) (-1 : Int32) (nI j)) ∧ ((cu_fault w_5) = 0 → P_X3_priceOfMake_83 K w_5 (nI j) v2_6 (nI j))) (nI j) (d + 1) w2 (nI (besN j (tbOf S j) + smN ps k) + cs_priceOf w2 k) (nI (k + 1)) := by
          intro p hp1 hp2 hp3
          have nx := ih (k + 1) w2 (un ps k p) (by omega) g3 g4 (fun c hc => by
            by_cases e : c = k
            · subst e; rw [un_s]; exact ⟨hp1, hp2⟩
            · rw [un_n e]; exact hps c (by omega))
          have es : smN (un ps k p) (k + 1) = smN ps k + p := by
            show smN (un ps k p) k + un ps k p k = _
            rw [un_s, smN_c k (fun i hi => un_n (by omega))]
          rw [es] at nx
          rw [hp3, nI_add, Nat.add_assoc]
          exact nx
        rcases k2.1 with ⟨q1, q2, q3, q4⟩ | ⟨fo, co, pr, q1, q2, q3, q4, q5, q6, q7, q8⟩
        · exact st 0 (Or.inl ⟨q1, rfl⟩) (by decide) q4
        · exact st pr (Or.inr ⟨fo, co, q1⟩) q4 q7
    exact L (tW (tbOf S j)) 0 w1 (fun _ => 0) (by omega) g1 g2 (fun c hc => absurd hc (Nat.not_lt_zero c))
theorem X_cost {S : Sx} {w : XW} {K : Int32 → XW → Prop} {v : Int32} (hS : SOK S) (h : IX S w) (hp : PrX S w) (hk0 : ¬ (0 ≤ v.toInt ∧ v.toInt < 24) → K m1 w) (hk1 : ∀ r w' j, j < 24 → v = nI j → IX S w' → PrX S w' → MC S j r → K r w') : P_X3_cost K w v := by
  unfold P_X3_cost
  refine x_isMake (fun j hj e => ⟨fun z => absurd z (by decide), fun _ => ?_⟩) (fun z => ⟨fun _ => hk0 z, fun y => absurd rfl y⟩)
  rw [e]
  exact X_price hS h hp hj (fun r w' g1 g2 g3 => hk1 r w' j hj e g1 g2 g3)
/-- the best of the first k MAKES -/
def BM (S : Sx) (k : Nat) (l : Int32) (p : Int32) : Prop :=
  (l = m1 ∧ ∀ i, i < k → MC S i m1) ∨ ∃ j q, j < k ∧ l = nI j ∧ p = nI q ∧ q < 2 ^ 30 ∧ MC S j (nI q) ∧ ∀ i, i < k → MC S i m1 ∨ ∃ z, z < 2 ^ 30 ∧ MC S i (nI z) ∧ q ≤ z ∧ (z = q → j ≤ i)
theorem BM.up {S : Sx} {k : Nat} {l p : Int32} (h : BM S k l p) (hm : MC S k m1) : BM S (k + 1) l p := by
  rcases h with ⟨a, b⟩ | ⟨j, q, a1, a2, a3, a4, a5, a6⟩
  · refine Or.inl ⟨a, fun i hi => ?_⟩
    rcases Nat.lt_or_ge i k with e | e
    · exact b i e
    · rw [show i = k by omega]; exact hm
  · refine Or.inr ⟨j, q, by omega, a2, a3, a4, a5, fun i hi => ?_⟩
    rcases Nat.lt_or_ge i k with e | e
    · exact a6 i e
    · rw [show i = k by omega]; exact Or.inl hm
theorem X_best {S : Sx} {w : XW} {K : Int32 → XW → Prop} (hS : SOK S) (h : IX S w) (hp : PrX S w) (hk : ∀ l p w', BM S 24 l p → IX S w' → PrX S w' → K l w') : P_X3_best K w := by
  have L : ∀ d k u l p, k + d = 24 → IX S u → PrX S u → BM S k l p → P_X3_best_6 K (d + 1) u l p (nI k) := by
    intro d
    induction d with
    | zero =>
      intro k u l p ek hu hpu hb
      have : k = 24 := by omega
      subst this
      exact ⟨fun _ => hk l p u hb hu hpu, fun y => absurd (Int32.le_refl _) y⟩
    | succ d ih =>
      intro k u l p ek hu hpu hb
      refine ⟨fun y => absurd y (nI_ge (b := 24) (by omega) (by decide)), fun _ => X_price hS hu hpu (by omega) (fun r w' g1 g2 g3 => ?_)⟩
      unfold P_X3_best_41 P_X3_best_36 P_X3_best_41
      rw [nI_1]
      rcases g3.n hS with e | ⟨z, hz, e⟩
      · subst e
        exact ⟨fun _ => ih (k + 1) w' l p (by omega) g1 g2 (hb.up g3), fun y => absurd rfl y⟩
      · subst e
        refine ⟨fun y => absurd y.symm (m1_ne (by omega)), fun _ => ?_⟩
        have tk : (∀ i, i < k → MC S i m1 ∨ ∃ y, y < 2 ^ 30 ∧ MC S i (nI y) ∧ z < y) → BM S (k + 1) (nI k) (nI z) := by
          intro hall
          refine Or.inr ⟨k, z, by omega, rfl, rfl, hz, g3, fun i hi => ?_⟩
          rcases Nat.lt_or_ge i k with e | e
          · rcases hall i e with q | ⟨y, q1, q2, q3⟩
            · exact Or.inl q
            · exact Or.inr ⟨y, q1, q2, by omega, fun e => by omega⟩
          · rw [show i = k by omega]; exact Or.inr ⟨z, hz, g3, Nat.le_refl _, fun _ => Nat.le_refl _⟩
        rcases hb with ⟨a, b⟩ | ⟨j, q, a1, a2, a3, a4, a5, a6⟩
        · subst a
          exact ⟨fun _ => ih (k + 1) w' _ _ (by omega) g1 g2 (tk (fun i hi => Or.inl (b i hi))), fun y => absurd rfl y⟩
        · subst a2; subst a3
          refine ⟨fun y => absurd y.symm (m1_ne (by omega)), fun _ => ⟨fun y => ?_, fun y => ?_⟩⟩
          · have y := (nI_leI (by omega) (by omega)).mp y
            refine ih (k + 1) w' _ _ (by omega) g1 g2 (Or.inr ⟨j, q, by omega, rfl, rfl, a4, a5, fun i hi => ?_⟩)
            rcases Nat.lt_or_ge i k with e | e
            · exact a6 i e
            · rw [show i = k by omega]; exact Or.inr ⟨z, hz, g3, y, fun _ => by omega⟩
          · have y : z < q := by
              rcases Nat.lt_or_ge z q with e | e
              · exact e
              · exact absurd (nI_le e (by omega)) y
            refine ih (k + 1) w' _ _ (by omega) g1 g2 (tk (fun i hi => ?_))
            rcases a6 i hi with q1 | ⟨x, q1, q2, q3, q4⟩
            · exact Or.inl q1
            · exact Or.inr ⟨x, q1, q2, by omega⟩
  exact ⟨25, L 24 0 w m1 0 (by decide) h hp (Or.inl ⟨rfl, fun i hi => absurd hi (Nat.not_lt_zero i)⟩)⟩
