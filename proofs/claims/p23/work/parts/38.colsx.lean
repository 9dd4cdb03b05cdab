/-! the class' questions of COLUMNS -/
/-- of two cells: the same bytes -/
def alB (T : Tb) (c e : Nat) : Bool := decide (tLen T c = tLen T e ∧ ∀ k, k < tLen T c → tb T c k = tb T e k)
theorem x_areAlike {w : XW} {T : Tb} {K : Int32 → Prop} (hT : tWF T) (h : RepX w T) {c e : Nat} (hc : c < tN T) (he : e < tN T) (hk : K (bI (alB T c e))) : P_X1_areAlike K w (nI c) (nI e) := by
  have l1 := tLen_le hT hc
  have l2 := tLen_le hT he
  unfold P_X1_areAlike
  refine x_lengthOf hT h hc (x_lengthOf hT h he ⟨fun z => ?_, fun z => ?_⟩)
  · have hL : tLen T c = tLen T e := (nI_eq (by omega) (by omega)).mp z
    have L : ∀ d k, k + d = tLen T c → (∀ i, i < k → tb T c i = tb T e i) → P_X1_areAlike_20 K w (nI c) (nI e) (nI (tLen T c)) (d + 1) (nI k) := by
      intro d
      induction d with
      | zero =>
        intro k ek hp
        have : k = tLen T c := by omega
        subst this
        have q : alB T c e = true := decide_eq_true ⟨hL, hp⟩
        rw [q] at hk
        exact ⟨fun _ => hk, fun y => absurd (Int32.le_refl _) y⟩
      | succ d ih =>
        intro k ek hp
        have b1 := tb_lt hT hc (k := k) (by omega)
        have b2 := tb_lt hT he (k := k) (by omega)
        refine ⟨fun y => absurd y (nI_ge (by omega) (by omega)), fun _ => x_byteIn hT h hc (by omega) (x_byteIn hT h he (by omega) ⟨fun y => ?_, fun y => ?_⟩)⟩
        · have y := (nI_eq (by omega) (by omega)).mp y
          rw [nI_1]
          refine ih (k + 1) (by omega) (fun i hi => ?_)
          rcases Nat.lt_or_ge i k with x | x
          · exact hp i x
          · rw [show i = k by omega]; exact y
        · have q : alB T c e = false := decide_eq_false (fun x => y (by rw [x.2 k (by omega)]))
          rw [q] at hk
          exact hk
    exact ⟨tLen T c + 1, L (tLen T c) 0 (by omega) (fun i hi => absurd hi (Nat.not_lt_zero i))⟩
  · have q : alB T c e = false := decide_eq_false (fun x => z (by rw [x.1]))
    rw [q] at hk
    exact hk
theorem x_cel {w : XW} {T : Tb} {K : Int32 → Prop} {hd : Bool} (hT : tWF T) (h : RepX w T) {r col : Nat} (hp : tPlain T hd r = true) (hc : col < tW T) (hk : K (nI (cel T col r))) : P_X1_cellIn K w (nI r) (nI col) := by
  obtain ⟨h1, h2⟩ := plain_i hT hp
  exact x_cellIn hT h h1 (by rw [h2]; exact hc) hk
def repS (T : Tb) (hd : Bool) (col c : Nat) : Nat → Nat → Bool
  | 0, _ => false
  | d + 1, l => if tPlain T hd l = true ∧ alB T c (cel T col l) = true then true else repS T hd col c d (l + 1)
theorem x_isRepeated {w : XW} {T : Tb} {K : Int32 → Prop} {hd : Bool} (hT : tWF T) (h : RepX w T) (hh : cu_headed w = bI hd) {r col : Nat} (hp : tPlain T hd r = true) (hc : col < tW T) (hk : K (bI (repS T hd col (cel T col r) (tR T - (r + 1)) (r + 1)))) : P_X0_isRepeated K w (nI r) (nI col) := by
  have hR := hT.1
  have hr := (plain_i hT hp).1
  have hcl := cel_lt hT hp hc
  unfold P_X0_isRepeated
  refine x_cel hT h hp hc ?_
  rw [nI_1]
  have L : ∀ d l, l + d = tR T → K (bI (repS T hd col (cel T col r) d l)) → P_X0_isRepeated_15 K w (nI col) (nI (cel T col r)) (d + 1) (nI l) := by
    intro d
    induction d with
    | zero =>
      intro l el hk
      have : l = tR T := by omega
      subst this
      exact ⟨fun _ => hk, fun z => absurd (by rw [h.1]; exact Int32.le_refl _) z⟩
    | succ d ih =>
      intro l el hk
      unfold repS at hk
      refine ⟨fun z => absurd z (by rw [h.1]; exact nI_ge (by omega) (by omega)), fun _ => x_isInColumns hT h hh (by omega) ?_⟩
      unfold P_X0_isRepeated_62
      rw [nI_1]
      cases e : tPlain T hd l with
      | false =>
        rw [e, if_neg (fun x => Bool.false_ne_true x.1)] at hk
        exact ⟨fun _ => ih (l + 1) (by omega) hk, fun z => absurd rfl z⟩
      | true =>
        refine ⟨fun z => absurd z (by decide), fun _ => x_cel hT h e hc (x_areAlike hT h hcl (cel_lt hT e hc) ?_)⟩
        cases e2 : alB T (cel T col r) (cel T col l) with
        | true =>
          rw [if_pos ⟨e, e2⟩] at hk
          exact ⟨fun z => absurd z (by decide), fun _ => hk⟩
        | false =>
          rw [e2, if_neg (fun x => Bool.false_ne_true x.2)] at hk
          exact ⟨fun _ => ih (l + 1) (by omega) hk, fun z => absurd rfl z⟩
  exact ⟨tR T - (r + 1) + 1, L _ _ (by omega) hk⟩
def unlS (T : Tb) (hd : Bool) (col : Nat) : Nat → Nat → Bool
  | 0, _ => true
  | d + 1, r => if tPlain T hd r = true ∧ repS T hd col (cel T col r) (tR T - (r + 1)) (r + 1) = true then false else unlS T hd col d (r + 1)
theorem x_allUnlike {w : XW} {T : Tb} {K : Int32 → Prop} {hd : Bool} (hT : tWF T) (h : RepX w T) (hh : cu_headed w = bI hd) {col : Nat} (hc : col < tW T) (hk : K (bI (unlS T hd col (tR T) 0))) : P_X0_allUnlike K w (nI col) := by
  have hR := hT.1
  have L : ∀ d r, r + d = tR T → K (bI (unlS T hd col d r)) → P_X0_allUnlike_2 K w (nI col) (d + 1) (nI r) := by
    intro d
    induction d with
    | zero =>
      intro l el hk
      have : l = tR T := by omega
      subst this
      exact ⟨fun _ => hk, fun z => absurd (by rw [h.1]; exact Int32.le_refl _) z⟩
    | succ d ih =>
      intro l el hk
      unfold unlS at hk
      refine ⟨fun z => absurd z (by rw [h.1]; exact nI_ge (by omega) (by omega)), fun _ => x_isInColumns hT h hh (by omega) ?_⟩
      unfold P_X0_allUnlike_35
      rw [nI_1]
      cases e : tPlain T hd l with
      | false =>
        rw [e, if_neg (fun x => Bool.false_ne_true x.1)] at hk
        exact ⟨fun _ => ih (l + 1) (by omega) hk, fun z => absurd rfl z⟩
      | true =>
        refine ⟨fun z => absurd z (by decide), fun _ => x_isRepeated hT h hh e hc ?_⟩
        cases e2 : repS T hd col (cel T col l) (tR T - (l + 1)) (l + 1) with
        | true =>
          rw [if_pos ⟨e, e2⟩] at hk
          exact ⟨fun z => absurd z (by decide), fun _ => hk⟩
        | false =>
          rw [e2, if_neg (fun x => Bool.false_ne_true x.2)] at hk
          exact ⟨fun _ => ih (l + 1) (by omega) hk, fun z => absurd rfl z⟩
  exact ⟨tR T + 1, L (tR T) 0 (by omega) hk⟩
theorem fstP_some {T : Tb} {hd : Bool} {col m r : Nat} (hp : tPlain T hd r = true) (hm : mis T col m r = false) : ∀ k, r < k → ∃ c, fstP T hd col m k = some c := by
  intro k
  induction k with
  | zero => intro h; omega
  | succ k ih =>
    intro h
    rw [fstP_s]
    cases e : fstP T hd col m k with
    | some c => exact ⟨c, rfl⟩
    | none =>
      rcases Nat.lt_or_ge r k with q | q
      · obtain ⟨c, hc⟩ := ih q
        rw [hc] at e
        exact absurd e (fun z => by cases z)
      · have : r = k := by omega
        subst this
        rw [hp, hm]
        exact ⟨_, rfl⟩
/-- the row by which two FORMS part -/
def prtS (T : Tb) (hd : Bool) (col f g m c0 : Nat) : Nat → Nat → Int32
  | 0, _ => m1
  | d + 1, r => if tPlain T hd r = true ∧ mis T col m r = false ∧ tellR T col f m c0 r ≠ tellR T col g m c0 r then nI r else prtS T hd col f g m c0 d (r + 1)
theorem bI_eq {a b : Bool} : bI a = bI b ↔ a = b := by cases a <;> cases b <;> decide
theorem x_partingRow {w : XW} {T : Tb} {K : Int32 → XW → Prop} {hd : Bool} (hT : tWF T) (h : RepX w T) (hh : cu_headed w = bI hd) {col m f g : Nat} (hc : col < tW T) (hm : m < 5) (hf : f < 32) (hg : g < 32) (hs : Surv T hd col m w)
    (hk : ∀ w', Eq3 w w' → K (prtS T hd col f g m ((fstP T hd col m (tR T)).getD 0) (tR T) 0) w') : P_X0_partingRow K w (nI col) (nI f) (nI g) (nI m) := by
  have hR := hT.1
  have L : ∀ d r u, r + d = tR T → (∃ x y, u = fw w x y) → (∀ w', Eq3 w w' → K (prtS T hd col f g m ((fstP T hd col m (tR T)).getD 0) d r) w') → P_X0_partingRow_3 K (nI col) (nI f) (nI g) (nI m) (d + 1) u (nI r) := by
    intro d
    induction d with
    | zero =>
      intro r u er hu hk
      obtain ⟨x, y, rfl⟩ := hu
      have hu := fw_eq3 w x y
      have : r = tR T := by omega
      subst this
      exact ⟨fun _ => hk _ hu, fun z => absurd (by rw [(fw_rep h x y).1]; exact Int32.le_refl _) z⟩
    | succ d ih =>
      intro r u er hu hk
      obtain ⟨x, y, rfl⟩ := hu
      have hu := fw_eq3 w x y
      have hrp := fw_rep h x y
      unfold prtS at hk
      refine ⟨fun z => absurd z (by rw [hrp.1]; exact nI_ge (by omega) (by omega)), fun _ => x_isInColumns hT hrp (by exact hh) (by omega) ?_⟩
      unfold P_X0_partingRow_76
      rw [nI_1]
      cases e : tPlain T hd r with
      | false =>
        rw [e, if_neg (fun x => Bool.false_ne_true x.1)] at hk
        exact ⟨fun _ => ih (r + 1) _ (by omega) ⟨x, y, rfl⟩ hk, fun z => absurd rfl z⟩
      | true =>
        have hcl := cel_lt hT e hc
        refine ⟨fun z => absurd z (by decide), fun _ => x_cel hT hrp e hc (x_isMissing hT hrp hcl hm ?_)⟩
        cases e2 : misB m (tLen T (cel T col r)) (tb T (cel T col r)) with
        | true =>
          have e3 : mis T col m r = true := e2
          rw [if_neg (fun x => absurd (e3.symm.trans x.2.1) (by decide))] at hk
          exact ⟨fun _ => ih (r + 1) _ (by omega) ⟨x, y, rfl⟩ hk, fun z => absurd z (by decide)⟩
        | false =>
          have e3 : mis T col m r = false := e2
          obtain ⟨c0, hc0⟩ := fstP_some (m := m) e e3 (tR T) (by omega)
          have hc0l := fstP_lt hT hc hc0
          rw [hc0] at hk ih
          have hff : fm_first w = nI c0 := by rw [hs.2.2.1, hc0]; rfl
          refine ⟨fun z => absurd rfl z, fun _ => x_tells hT hrp hcl hc0l (by exact hff) (by exact hs.2.2.2) hf (fun x1 y1 _ => x_tells hT (fw_rep hrp x1 y1) hcl hc0l (by exact hff) (by exact hs.2.2.2) hg (fun x2 y2 _ => ?_))⟩
          rw [fw_fw, fw_fw]
          have tr : ∀ q : Nat, tellOK q (decide (m = 4)) (tLen T (cel T col r)) (tb T (cel T col r)) (tLen T c0) (tb T c0) = tellR T col q m c0 r := fun q => rfl
          rw [tr f, tr g, bI_eq]
          refine ⟨fun z => ?_, fun z => ?_⟩
          · rw [if_neg (fun x => x.2.2 z)] at hk
            exact ih (r + 1) _ (by omega) ⟨x2, y2, rfl⟩ hk
          · rw [if_pos ⟨e, e3, z⟩] at hk
            exact hk _ (fw_eq3 w x2 y2)
  exact ⟨tR T + 1, L (tR T) 0 w (by omega) ⟨fm_worth w, fm_digits w, rfl⟩ hk⟩
theorem x_isForm {K : Int32 → Prop} {v : Int32} (h1 : ∀ j, j < 32 → v = nI j → K 1) (h0 : ¬ (0 ≤ v.toInt ∧ v.toInt < 32) → K 0) : P_X0_isForm K v := by
  unfold P_X0_isForm
  by_cases z : 0 ≤ v.toInt ∧ v.toInt < 32
  · obtain ⟨j, hj, rfl⟩ := in_of (n := 32) z
    exact ⟨fun y => absurd y (nI_pos (by omega)), fun _ => ⟨fun y => absurd y (nI_nlt (a := 31) (by omega) (by decide)), fun _ => h1 j hj rfl⟩⟩
  · rcases out_of (n := 32) (by decide) z with e | ⟨e, e2, e3⟩
    · exact ⟨fun _ => h0 z, fun y => absurd e y⟩
    · refine ⟨fun y => absurd y e, fun _ => ⟨fun _ => h0 z, fun y => absurd ?_ y⟩⟩
      have q := Int32.le_iff_toInt_le.mp e2
      rw [nI_toInt (by decide)] at q
      exact Int32.lt_iff_toInt_lt.mpr (by rw [show (31 : Int32).toInt = 31 from rfl]; omega)
theorem x_isCode {K : Int32 → Prop} {v : Int32} (h1 : ∀ j, j < 5 → v = nI j → K 1) (h0 : ¬ (0 ≤ v.toInt ∧ v.toInt < 5) → K 0) : P_X0_isCode K v := by
  unfold P_X0_isCode
  by_cases z : 0 ≤ v.toInt ∧ v.toInt < 5
  · obtain ⟨j, hj, rfl⟩ := in_of (n := 5) z
    exact ⟨fun y => absurd y (nI_pos (by omega)), fun _ => ⟨fun y => absurd y (nI_ge (b := 5) hj (by decide)), fun _ => h1 j hj rfl⟩⟩
  · rcases out_of (n := 5) (by decide) z with e | ⟨e, e2, e3⟩
    · exact ⟨fun _ => h0 z, fun y => absurd e y⟩
    · exact ⟨fun y => absurd y e, fun _ => ⟨fun _ => h0 z, fun y => absurd e2 y⟩⟩
/-- no COLUMN with cells of that number -/
def NoC (S : Sx) (v : Int32) : Prop := ¬ (0 ≤ v.toInt ∧ v.toInt < tW (tbOf S (sU S))) ∨ ∃ col, col < tW (tbOf S (sU S)) ∧ v = nI col ∧ ∀ m f, Sall m f → cOf (tbOf S (sU S)) (hdB (sU S)) col f m = none
def BeC (S : Sx) (col fo co pr : Nat) : Prop := Best (cOf (tbOf S (sU S)) (hdB (sU S)) col) Sall fo co pr ∧ fo < 32 ∧ co < 5
def ChX (S : Sx) (col : Nat) (w : XW) (fo co pr : Nat) : Prop := col < tW (tbOf S (sU S)) ∧ BeC S col fo co pr ∧ AtX S (sU S) w ∧ Chosen (tbOf S (sU S)) (hdB (sU S)) col w ∧ cs_formOf w col = nI fo ∧ cs_codeOf w col = nI co ∧ ∀ i, i < 32 → (bit (cs_cheapest w col) i = true ↔ ∃ m, Sall m i ∧ cOf (tbOf S (sU S)) (hdB (sU S)) col i m = some pr)
theorem X_hc {S : Sx} {w : XW} {K : Int32 → XW → Prop} {v : Int32} (hS : SOK S) (h : IX S w) (hk0 : ∀ w', IX S w' → rd_prices w' = rd_prices w → NoC S v → K 0 w')
    (hk1 : ∀ w' col fo co pr, v = nI col → ChX S col w' fo co pr → rd_prices w' = rd_prices w → K 1 w') : P_X3_hasChosen K w v := by
  have hT := tb_wf hS (sU S)
  have hW := tW_le hT
  unfold P_X3_hasChosen
  refine X_used hS h (fun w1 g1 g2 => ?_)
  by_cases z : 0 ≤ v.toInt ∧ v.toInt < tW (tbOf S (sU S))
  · obtain ⟨col, hc, rfl⟩ := in_of z
    refine ⟨fun y => absurd y (nI_pos (by omega)), fun _ => x_width hT g1.rep ⟨fun _ => ?_, fun y => absurd (nI_lt hc (by omega)) y⟩⟩
    refine x_choose hT g1.rep g1.hd hc (g1.2.2.2 col hc) (fun w2 k1 k2 => ⟨vp_in_nI (by omega) (by decide), ?_⟩)
    have g3 := g1.eqC k1 k2
    have g4 : rd_prices w2 = rd_prices w := (pr_of k1.1).trans g2
    rw [nI_clamp (by omega)]
    rcases k2.1 with ⟨q1, q2, q3, q4⟩ | ⟨fo, co, pr, q1, q2, q3, q4, q5, q6, q7, q8⟩
    · rw [q2]
      exact ⟨fun _ => hk0 w2 (g3.i hS.2.2.2) g4 (Or.inr ⟨col, hc, rfl, q1⟩), fun y => absurd rfl y⟩
    · rw [q5]
      exact ⟨fun y => absurd y.symm (m1_ne (by omega)), fun _ => hk1 w2 col fo co pr rfl ⟨hc, ⟨q1, q2, q3⟩, g3, k2, q5, q6, q8⟩ g4⟩
  · have n0 := hk0 w1 (g1.i hS.2.2.2) g2 (Or.inl z)
    refine ⟨fun _ => n0, fun y => x_width hT g1.rep ⟨fun x => absurd ?_ z, fun _ => n0⟩⟩
    have a := Int32.lt_iff_toInt_lt.mp x
    rw [nI_toInt (by omega)] at a
    exact ⟨by have := Int32.not_lt.mp y; have := Int32.le_iff_toInt_le.mp this; simpa using this, a⟩
theorem ChX.col {S : Sx} {col fo co pr : Nat} {w : XW} (hS : SOK S) (h : ChX S col w fo co pr) : col < 12 := by
  have := tW_le (tb_wf hS (sU S))
  have := h.1
  omega
theorem ChX.i {S : Sx} {col fo co pr : Nat} {w : XW} (hS : SOK S) (h : ChX S col w fo co pr) : IX S w := h.2.2.1.i hS.2.2.2
theorem X_form {S : Sx} {w : XW} {K : Int32 → XW → Prop} {v : Int32} (hS : SOK S) (h : IX S w) (hk0 : ∀ w', IX S w' → rd_prices w' = rd_prices w → NoC S v → K m1 w')
    (hk1 : ∀ w' col fo co pr, v = nI col → col < tW (tbOf S (sU S)) → BeC S col fo co pr → IX S w' → rd_prices w' = rd_prices w → K (nI fo) w') : P_X3_form K w v := by
  unfold P_X3_form
  refine X_hc hS h (fun w' a b c => ⟨fun _ => hk0 w' a b c, fun z => absurd rfl z⟩) (fun w' col fo co pr e a b => ⟨fun z => absurd z (by decide), fun _ => ?_⟩)
  have hc := a.col hS
  rw [e]
  refine ⟨vp_in_nI hc (by decide), ?_⟩
  rw [nI_clamp (by omega), a.2.2.2.2.1]
  exact hk1 w' col fo co pr e a.1 a.2.1 (a.i hS) b
theorem X_missing {S : Sx} {w : XW} {K : Int32 → XW → Prop} {v : Int32} (hS : SOK S) (h : IX S w) (hk0 : ∀ w', IX S w' → rd_prices w' = rd_prices w → NoC S v → K m1 w')
    (hk1 : ∀ w' col fo co pr, v = nI col → col < tW (tbOf S (sU S)) → BeC S col fo co pr → IX S w' → rd_prices w' = rd_prices w → K (nI co) w') : P_X3_missing K w v := by
  unfold P_X3_missing
  refine X_hc hS h (fun w' a b c => ⟨fun _ => hk0 w' a b c, fun z => absurd rfl z⟩) (fun w' col fo co pr e a b => ⟨fun z => absurd z (by decide), fun _ => ?_⟩)
  have hc := a.col hS
  rw [e]
  refine ⟨vp_in_nI hc (by decide), ?_⟩
  rw [nI_clamp (by omega), a.2.2.2.2.2.1]
  exact hk1 w' col fo co pr e a.1 a.2.1 (a.i hS) b
theorem X_cnt {S : Sx} {w : XW} {K : Int32 → XW → Prop} {col fo co pr : Nat} (hS : SOK S) (a : ChX S col w fo co pr) (hk : ∀ w', AtX S (sU S) w' → rd_prices w' = rd_prices w → K (nI (cntM (tbOf S (sU S)) (hdB (sU S)) col co (tR (tbOf S (sU S))))) w') : P_X0_countMissing K w (nI col) (nI co) := by
  have hT := tb_wf hS (sU S)
  unfold P_X0_countMissing
  refine x_survey hT a.2.2.1.rep a.2.2.1.hd a.1 a.2.1.2.2 (fun w' g1 g2 => ?_)
  rw [g2.1]
  exact hk w' (a.2.2.1.eq3 g1) (pr_of g1.1)
theorem X_lacks {S : Sx} {w : XW} {K : Int32 → XW → Prop} {v : Int32} (hS : SOK S) (h : IX S w) (hk0 : ∀ w', IX S w' → rd_prices w' = rd_prices w → NoC S v → K m1 w')
    (hk1 : ∀ w' col fo co pr, v = nI col → col < tW (tbOf S (sU S)) → BeC S col fo co pr → IX S w' → rd_prices w' = rd_prices w → K (nI (cntM (tbOf S (sU S)) (hdB (sU S)) col co (tR (tbOf S (sU S))))) w') : P_X3_lacks K w v := by
  unfold P_X3_lacks
  refine X_hc hS h (fun w' a b c => ⟨fun _ => hk0 w' a b c, fun z => absurd rfl z⟩) (fun w' col fo co pr e a b => ⟨fun z => absurd z (by decide), fun _ => ?_⟩)
  have hc := a.col hS
  rw [e]
  refine ⟨vp_in_nI hc (by decide), ?_⟩
  rw [nI_clamp (by omega), a.2.2.2.2.2.1]
  exact X_cnt hS a (fun w2 g1 g2 => hk1 w2 col fo co pr e a.1 a.2.1 (g1.i hS.2.2.2) (g2.trans b))
theorem X_costOf {S : Sx} {w : XW} {K : Int32 → XW → Prop} {v f m : Int32} (hS : SOK S) (h : IX S w) (hk0 : ∀ w', IX S w' → rd_prices w' = rd_prices w → (NoC S v ∨ ¬ (0 ≤ f.toInt ∧ f.toInt < 32) ∨ ¬ (0 ≤ m.toInt ∧ m.toInt < 5)) → K m1 w')
    (hk1 : ∀ w' col fo co pr j i, v = nI col → col < tW (tbOf S (sU S)) → BeC S col fo co pr → j < 32 → f = nI j → i < 5 → m = nI i → IX S w' → rd_prices w' = rd_prices w → K (oI (costC (tbOf S (sU S)) (hdB (sU S)) col j i)) w') : P_X3_costOf K w v f m := by
  have hT := tb_wf hS (sU S)
  unfold P_X3_costOf
  refine X_hc hS h (fun w' a b c => ⟨fun _ => hk0 w' a b (Or.inl c), fun z => absurd rfl z⟩) (fun w' col fo co pr e a b => ⟨fun z => absurd z (by decide), fun _ => ?_⟩)
  refine x_isForm (fun j hj ej => ⟨fun z => absurd z (by decide), fun _ => ?_⟩) (fun z => ⟨fun _ => hk0 w' (a.i hS) b (Or.inr (Or.inl z)), fun y => absurd rfl y⟩)
  refine x_isCode (fun i hi ei => ⟨fun _ => ?_, fun z => absurd z (by decide)⟩) (fun z => ⟨fun y => absurd rfl y, fun _ => hk0 w' (a.i hS) b (Or.inr (Or.inr z))⟩)
  rw [e, ej, ei]
  refine x_survey hT a.2.2.1.rep a.2.2.1.hd a.1 hi (fun w2 g1 g2 => ?_)
  have a2 := a.2.2.1.eq3 g1
  refine x_price hT a2.rep a2.hd a.1 hi hj g2 (fun x y => ?_)
  exact hk1 _ col fo co pr j i e a.1 a.2.1 hj ej hi ei ((a2.eq3 (fw_eq3 w2 x y)).i hS.2.2.2) ((pr_of g1.1).trans b)
theorem X_fits {S : Sx} {w : XW} {K : Int32 → XW → Prop} {v : Int32} (hS : SOK S) (h : IX S w) (hk : ∀ r w', IX S w' → rd_prices w' = rd_prices w → K r w') : P_X3_fits K w v := by
  unfold P_X3_fits P_J6_bitCount_0f7a4
  refine X_hc hS h (fun w' a b c => ⟨fun _ => hk _ w' a b, fun z => absurd rfl z⟩) (fun w' col fo co pr e a b => ⟨fun z => absurd z (by decide), fun _ => ?_⟩)
  have hc := a.col hS
  rw [e]
  exact ⟨vp_in_nI hc (by decide), hk _ w' (a.i hS) b⟩
theorem X_doubt {S : Sx} {w : XW} {K : Int32 → XW → Prop} {v : Int32} (hS : SOK S) (h : IX S w) (hk : ∀ r w', IX S w' → rd_prices w' = rd_prices w → K r w') : P_X3_doubt K w v := by
  unfold P_X3_doubt
  refine X_hc hS h (fun w' a b c => ⟨fun _ => hk _ w' a b, fun z => absurd rfl z⟩) (fun w' col fo co pr e a b => ⟨fun z => absurd z (by decide), fun _ => ?_⟩)
  have hc := a.col hS
  rw [e]
  have hk2 : ∀ r, K r w' := fun r => hk r w' (a.i hS) b
  unfold P_X0_rivalOf
  refine ⟨fun _ => hk2 _, fun _ => ⟨fun _ => ⟨33, ?_⟩, fun _ => hk2 _⟩⟩
  have L : ∀ d f, f + d = 32 → P_X0_rivalOf_17 (fun r_3 => K r_3 w') w' (nI col) (d + 1) (nI f) := by
    intro d
    induction d with
    | zero => intro f ef; exact ⟨fun _ => hk2 _, fun z => absurd (nI_lt (a := 31) (by omega) (by omega)) z⟩
    | succ d ih =>
      intro f ef
      have nx := ih (f + 1) (by omega)
      rw [← nI_1] at nx
      exact ⟨fun _ => hk2 _, fun _ => ⟨vp_in_nI hc (by decide), ⟨fun _ => nx, fun _ => ⟨vp_in_nI hc (by decide), ⟨fun _ => nx, fun _ => hk2 _⟩⟩⟩⟩⟩
  exact L 32 0 (by decide)
theorem X_parts {S : Sx} {w : XW} {K : Int32 → XW → Prop} {v f g m : Int32} (hS : SOK S) (h : IX S w) (hk : ∀ r w', IX S w' → rd_prices w' = rd_prices w → K r w') : P_X3_parts K w v f g m := by
  have hT := tb_wf hS (sU S)
  unfold P_X3_parts
  refine X_hc hS h (fun w' a b c => ⟨fun _ => hk _ w' a b, fun z => absurd rfl z⟩) (fun w' col fo co pr e a b => ⟨fun z => absurd z (by decide), fun _ => ?_⟩)
  refine x_isForm (fun j hj ej => ⟨fun z => absurd z (by decide), fun _ => ?_⟩) (fun z => ⟨fun _ => hk _ w' (a.i hS) b, fun y => absurd rfl y⟩)
  refine x_isForm (fun j2 hj2 ej2 => ⟨fun z => absurd z (by decide), fun _ => ?_⟩) (fun z => ⟨fun _ => hk _ w' (a.i hS) b, fun y => absurd rfl y⟩)
  refine x_isCode (fun i hi ei => ⟨fun _ => ?_, fun z => absurd z (by decide)⟩) (fun z => ⟨fun y => absurd rfl y, fun _ => hk _ w' (a.i hS) b⟩)
  rw [e, ej, ej2, ei]
  refine x_survey hT a.2.2.1.rep a.2.2.1.hd a.1 hi (fun w2 g1 g2 => ?_)
  have a2 := a.2.2.1.eq3 g1
  exact x_partingRow hT a2.rep a2.hd a.1 hi hj hj2 g2 (fun w3 g3 => hk _ w3 ((a2.eq3 g3).i hS.2.2.2) ((pr_of g3.1).trans ((pr_of g1.1).trans b)))
theorem X_isIn {S : Sx} {w : XW} {K : Int32 → Prop} {j : Nat} {v : Int32} (hS : SOK S) (a : AtX S j w) (h0 : (¬ (0 ≤ v.toInt ∧ v.toInt < tR (tbOf S j)) ∨ ∃ r, r < tR (tbOf S j) ∧ v = nI r ∧ tPlain (tbOf S j) (hdB j) r = false) → K 0) (h1 : ∀ r, v = nI r → tPlain (tbOf S j) (hdB j) r = true → K 1) : P_X1_isInColumns K w v := by
  have hT := tb_wf hS j
  have hR := hT.1
  by_cases z : 0 ≤ v.toInt ∧ v.toInt < tR (tbOf S j)
  · obtain ⟨r, hr, rfl⟩ := in_of z
    refine x_isInColumns hT a.rep a.hd hr ?_
    cases e : tPlain (tbOf S j) (hdB j) r with
    | true => exact h1 r rfl e
    | false => exact h0 (Or.inr ⟨r, hr, rfl, e⟩)
  · have k0 := h0 (Or.inl z)
    unfold P_X1_isInColumns P_X1_isInColumns_13
    rcases out_of (by omega) z with e | ⟨e, e2, e3⟩
    · have e1 : v < (1 : Int32) := Int32.lt_iff_toInt_lt.mpr (by have := Int32.lt_iff_toInt_lt.mp e; rw [nI_toInt (by decide)] at this; rw [show (1 : Int32).toInt = 1 from rfl]; omega)
      exact ⟨fun _ => ⟨fun _ => k0, fun y => absurd e y⟩, fun _ => ⟨fun _ => k0, fun y => absurd e1 y⟩⟩
    · rw [a.rep.1]
      exact ⟨fun _ => ⟨fun _ => k0, fun _ => ⟨fun _ => k0, fun y => absurd e2 y⟩⟩, fun _ => ⟨fun _ => k0, fun _ => ⟨fun _ => k0, fun y => absurd e2 y⟩⟩⟩
