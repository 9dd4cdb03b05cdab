/-! key and doubt, of both -/
def keyP (T : Tb) (hd : Bool) (col co : Nat) : Prop := (∀ r, r < tR T → tPlain T hd r = true → mis T col co r = false) ∧ ∀ r l, r < l → l < tR T → tPlain T hd r = true → tPlain T hd l = true → alB T (cel T col r) (cel T col l) = false
theorem alB_c (T : Tb) (a b : Nat) : alB T a b = alB T b a := by
  unfold alB
  congr 1
  apply propext
  exact ⟨fun h => ⟨h.1.symm, fun k hk => (h.2 k (by omega)).symm⟩, fun h => ⟨h.1.symm, fun k hk => (h.2 k (by omega)).symm⟩⟩
theorem cntM_0 {T : Tb} {hd : Bool} {col m : Nat} : ∀ k, cntM T hd col m k = 0 ↔ ∀ r, r < k → tPlain T hd r = true → mis T col m r = false := by
  intro k
  induction k with
  | zero => exact ⟨fun _ r hr => absurd hr (Nat.not_lt_zero r), fun _ => rfl⟩
  | succ k ih =>
    rw [cntM_s]
    constructor
    · intro h r hr hp
      have h0 : cntM T hd col m k = 0 := by omega
      rcases Nat.lt_or_ge r k with q | q
      · exact ih.mp h0 r q hp
      · have : r = k := by omega
        subst this
        cases e : mis T col m r with
        | false => rfl
        | true => rw [hp, e] at h; exact absurd h (by simp)
    · intro h
      have h0 := ih.mpr (fun r hr hp => h r (by omega) hp)
      rw [h0]
      cases e : tPlain T hd k with
      | false => rfl
      | true => rw [h k (by omega) e]; rfl
theorem repS_f {T : Tb} {hd : Bool} {col c : Nat} : ∀ d l, repS T hd col c d l = false ↔ ∀ r, l ≤ r → r < l + d → tPlain T hd r = true → alB T c (cel T col r) = false := by
  intro d
  induction d with
  | zero => intro l; exact ⟨fun _ r h1 h2 => by omega, fun _ => rfl⟩
  | succ d ih =>
    intro l
    unfold repS
    by_cases q : tPlain T hd l = true ∧ alB T c (cel T col l) = true
    · rw [if_pos q]
      refine ⟨fun h => absurd h (by decide), fun h => ?_⟩
      rw [h l (Nat.le_refl _) (by omega) q.1] at q
      exact absurd q.2 (by decide)
    · rw [if_neg q, ih (l + 1)]
      constructor
      · intro h r h1 h2 hp
        rcases Nat.lt_or_ge l r with z | z
        · exact h r z (by omega) hp
        · have : r = l := by omega
          subst this
          cases e : alB T c (cel T col r) with
          | false => rfl
          | true => exact absurd ⟨hp, e⟩ q
      · intro h r h1 h2 hp
        exact h r (by omega) (by omega) hp
theorem unlS_t {T : Tb} {hd : Bool} {col : Nat} : ∀ d r, r + d = tR T → (unlS T hd col d r = true ↔ ∀ a b, r ≤ a → a < b → b < tR T → tPlain T hd a = true → tPlain T hd b = true → alB T (cel T col a) (cel T col b) = false) := by
  intro d
  induction d with
  | zero => intro r hr; exact ⟨fun _ a b h1 h2 h3 => by omega, fun _ => rfl⟩
  | succ d ih =>
    intro r hr
    unfold unlS
    have ihr := ih (r + 1) (by omega)
    cases q : tPlain T hd r with
    | false =>
      rw [if_neg (fun x => Bool.false_ne_true x.1), ihr]
      constructor
      · intro h a b h1 h2 h3 h4 h5
        rcases Nat.lt_or_ge r a with z | z
        · exact h a b z h2 h3 h4 h5
        · rw [show a = r by omega, q] at h4; exact absurd h4 (by decide)
      · intro h a b h1; exact h a b (by omega)
    | true =>
      cases e : repS T hd col (cel T col r) (tR T - (r + 1)) (r + 1) with
      | true =>
        rw [if_pos ⟨rfl, rfl⟩]
        refine ⟨fun h => absurd h (by decide), fun h => ?_⟩
        have : repS T hd col (cel T col r) (tR T - (r + 1)) (r + 1) = false := (repS_f _ _).mpr (fun b h1 h2 hb => h r b (Nat.le_refl _) (by omega) (by omega) q hb)
        rw [this] at e
        exact absurd e (by decide)
      | false =>
        rw [if_neg (fun x => Bool.false_ne_true x.2), ihr]
        have e2 := (repS_f _ _).mp e
        constructor
        · intro h a b h1 h2 h3 h4 h5
          rcases Nat.lt_or_ge r a with z | z
          · exact h a b z h2 h3 h4 h5
          · have : a = r := by omega
            subst this
            exact e2 b (by omega) (by omega) h5
        · intro h a b h1; exact h a b (by omega)
theorem keyB_i (T : Tb) (hd : Bool) (col co : Nat) : keyB T hd col co = true ↔ keyP T hd col co := by
  unfold keyB keyP
  rw [Bool.and_eq_true, decide_eq_true_iff, cntM_0, unlS_t (tR T) 0 (by omega)]
  exact ⟨fun h => ⟨h.1, fun a b h1 h2 => h.2 a b (Nat.zero_le _) h1 h2⟩, fun h => ⟨h.1, fun a b _ h1 h2 => h.2 a b h1 h2⟩⟩
theorem M_keyf {S : Sx} {w : MW} {K : Int32 → MW → Prop} {v : Int32} (hS : SOK S) (h : IM S w) (hk0 : ∀ w', IM S w' → KnE w w' → NoC S v → K m1 w') (hk1 : ∀ w' col fo co pr, v = nI col → col < tW (tbOf S (sU S)) → BeC S col fo co pr → IM S w' → KnE w w' → K (bI (keyB (tbOf S (sU S)) (hdB (sU S)) col co)) w') : P_X4_key K w v := by
  have hT := tb_wf hS (sU S)
  have hR := hT.1
  unfold P_X4_key
  refine M_ic hS h (fun w' a b c => ⟨fun z => absurd rfl z, fun _ => hk0 w' a b c⟩) (fun w' col fo co pr e a b => ⟨fun _ => ?_, fun z => absurd z (by decide)⟩)
  have hk := hk1 w' col fo co pr e a.1 a.2.1 (a.i hS) b
  obtain ⟨hc, ⟨-, -, hco⟩, hat, hg, -, hbc, -⟩ := a
  have hrep := hat.2.2.1
  have hpR := plC_le (tbOf S (sU S)) (hdB (sU S)) (tR (tbOf S (sU S)))
  generalize tbOf S (sU S) = T at *
  generalize hdB (sU S) = hd at *
  have k0 : ¬ keyP T hd col co → K 0 w' := fun q => by
    have : keyB T hd col co = false := by
      cases e : keyB T hd col co with
      | false => rfl
      | true => exact absurd ((keyB_i T hd col co).mp e) q
    rw [this] at hk
    exact hk
  have hin : ∀ (r : Nat) (E : MW → Prop), r < tR T → tPlain T hd r = true → ((∀ q, q < r → tPlain T hd q = true → alB T (cel T col q) (cel T col r) = false) → E w') → ∀ d q, q + d = r → (∀ p, p < q → tPlain T hd p = true → alB T (cel T col p) (cel T col r) = false) → P_X4_key_41 K E (nI (plC T hd r)) (plC T hd r - plC T hd q + 1) w' (nI (plC T hd q)) := by
    intro r E hr hpr hE d
    have lt := plC_lt hpr hr
    induction d with
    | zero =>
      intro q eq hq
      have : q = r := by omega
      subst this
      exact ⟨fun _ => hE hq, fun z => absurd (Int32.le_refl _) z⟩
    | succ d ih =>
      intro q eq hq
      have es : plC T hd (q + 1) = plC T hd q + (if tPlain T hd q then 1 else 0) := rfl
      cases ep : tPlain T hd q with
      | false =>
        rw [ep] at es
        have := ih (q + 1) (by omega) (fun p hp hpp => by
          rcases Nat.lt_or_ge p q with z | z
          · exact hq p z hpp
          · rw [show p = q by omega, ep] at hpp; exact absurd hpp (by decide))
        rw [es] at this
        exact this
      | true =>
        rw [ep, if_pos rfl] at es
        have lt2 := plC_lt ep (show q < r by omega)
        rw [show plC T hd r - plC T hd q = plC T hd r - plC T hd (q + 1) + 1 by omega]
        refine ⟨fun z => absurd z (nI_ge lt2 (by omega)), fun _ => ⟨vp_in_nI (by omega) (by decide), vp_in_nI (by omega) (by decide), ?_⟩⟩
        rw [nI_clamp (by omega), nI_clamp (by omega), (hg.2 r hr hpr).1, (hg.2 q (by omega) ep).1, nI_1, ← es]
        refine m_isSame hT hrep (cel_lt hT hpr hc) (cel_lt hT ep hc) ?_
        rw [alB_c]
        cases ea : alB T (cel T col q) (cel T col r) with
        | true => exact ⟨fun z => absurd z (by decide), fun _ => k0 (fun x => by have := x.2 q r (by omega) hr ep hpr; rw [ea] at this; exact absurd this (by decide))⟩
        | false =>
          refine ⟨fun _ => ih (q + 1) (by omega) (fun p hp hpp => ?_), fun z => absurd rfl z⟩
          rcases Nat.lt_or_ge p q with z | z
          · exact hq p z hpp
          · rw [show p = q by omega]; exact ea
  have L : ∀ d r, r + d = tR T → (∀ p, p < r → tPlain T hd p = true → mis T col co p = false) → (∀ p q, p < q → q < r → tPlain T hd p = true → tPlain T hd q = true → alB T (cel T col p) (cel T col q) = false) → P_X4_key_12 K (plC T hd (tR T) - plC T hd r + 1) w' (nI (plC T hd r)) := by
    intro d
    induction d with
    | zero =>
      intro r er h1 h2
      have : r = tR T := by omega
      subst this
      have : keyB T hd col co = true := (keyB_i T hd col co).mpr ⟨h1, h2⟩
      rw [this] at hk
      exact ⟨fun _ => hk, fun z => absurd (by rw [hg.1]; exact Int32.le_refl _) z⟩
    | succ d ih =>
      intro r er h1 h2
      have es : plC T hd (r + 1) = plC T hd r + (if tPlain T hd r then 1 else 0) := rfl
      cases ep : tPlain T hd r with
      | false =>
        rw [ep] at es
        have := ih (r + 1) (by omega) (fun p hp hpp => by
          rcases Nat.lt_or_ge p r with z | z
          · exact h1 p z hpp
          · rw [show p = r by omega, ep] at hpp; exact absurd hpp (by decide)) (fun p q hpq hq hpp hqp => by
          rcases Nat.lt_or_ge q r with z | z
          · exact h2 p q hpq z hpp hqp
          · rw [show q = r by omega, ep] at hqp; exact absurd hqp (by decide))
        rw [es] at this
        exact this
      | true =>
        rw [ep, if_pos rfl] at es
        have lt := plC_lt ep (show r < tR T by omega)
        have hcl := cel_lt hT ep hc
        rw [show plC T hd (tR T) - plC T hd r = plC T hd (tR T) - plC T hd (r + 1) + 1 by omega]
        refine ⟨fun z => absurd z (by rw [hg.1]; exact nI_ge lt (by omega)), fun _ => ⟨vp_in_nI (by omega) (by decide), ?_⟩⟩
        rw [nI_clamp (by omega), (hg.2 r (by omega) ep).1, hbc]
        refine m_isMissing hT hrep hcl hco ?_
        cases e2 : misB co (tLen T (cel T col r)) (tb T (cel T col r)) with
        | true => exact ⟨fun z => absurd z (by decide), fun _ => k0 (fun x => by have := x.1 r (by omega) ep; rw [show mis T col co r = true from e2] at this; exact absurd this (by decide))⟩
        | false =>
          have e3 : mis T col co r = false := e2
          refine ⟨fun _ => ⟨_, hin r _ (by omega) ep (fun hall => ?_) r 0 (by omega) (fun p hp => absurd hp (Nat.not_lt_zero p))⟩, fun z => absurd rfl z⟩
          rw [nI_1, ← es]
          refine ih (r + 1) (by omega) (fun p hp hpp => ?_) (fun p q hpq hq hpp hqp => ?_)
          · rcases Nat.lt_or_ge p r with z | z
            · exact h1 p z hpp
            · rw [show p = r by omega]; exact e3
          · rcases Nat.lt_or_ge q r with z | z
            · exact h2 p q hpq z hpp hqp
            · have : q = r := by omega
              subst this
              exact hall p hpq hpp
  exact ⟨_, L (tR T) 0 (by omega) (fun p hp => absurd hp (Nat.not_lt_zero p)) (fun p q _ hq => absurd hq (Nat.not_lt_zero q))⟩
theorem L_key {x : XW} {m : MW} {K : Int32 → XW → Prop} {v : Int32} (hR : RR x m) (hk : ∀ r x', Tk (fun K2 => P_X4_key K2 m v) x' r → K r x') : P_X3_key K x v := by
  obtain ⟨S, hS, ⟨hx, hp⟩, hm, hn⟩ := hR
  refine X_key hS hx (fun x' a b c => hk _ x' (fun K2 h2 => M_keyf hS hm (fun m' d e f => h2 m' ⟨S, hS, ⟨a, hp.mv rfl b⟩, d, hn.of e⟩) (fun m' col fo co pr ev hc hb d e => (no_be c ev hc hS hb).elim))) (fun x' col fo co pr ev hc hb a b => hk _ x' (fun K2 h2 => M_keyf hS hm (fun m' d e f => (no_be f ev hc hS hb).elim) (fun m' col2 fo2 co2 pr2 ev2 hc2 hb2 d e => ?_)))
  obtain ⟨q1, q2, q3, q4⟩ := be_one hS ev hc hb ev2 hc2 hb2
  subst q1; subst q2; subst q3
  exact h2 m' ⟨S, hS, ⟨a, hp.mv rfl b⟩, d, hn.of e⟩
/-! doubt -/
/-- another FORM at the same COST -/
def DbP (c : Nat → Nat → Option Nat) (fo pr f : Nat) : Prop := f ≠ fo ∧ ∃ m, m < 5 ∧ c f m = some pr
def DbR (c : Nat → Nat → Option Nat) (fo pr : Nat) (r : Int32) : Prop := (r = m1 ∧ ∀ f, f < 32 → ¬ DbP c fo pr f) ∨ ∃ f, f < 32 ∧ r = nI f ∧ DbP c fo pr f ∧ ∀ g, g < f → ¬ DbP c fo pr g
theorem DbR.one {c : Nat → Nat → Option Nat} {fo pr : Nat} {r q : Int32} (h1 : DbR c fo pr r) (h2 : DbR c fo pr q) : q = r := by
  rcases h1 with ⟨a, b⟩ | ⟨f, f1, f2, f3, f4⟩
  · rcases h2 with ⟨c, d⟩ | ⟨g, g1, g2, g3, g4⟩
    · rw [a, c]
    · exact absurd g3 (b g g1)
  · rcases h2 with ⟨c, d⟩ | ⟨g, g1, g2, g3, g4⟩
    · exact absurd f3 (d f f1)
    · have : f = g := by
        rcases Nat.lt_trichotomy f g with z | z | z
        · exact absurd f3 (g4 f z)
        · exact z
        · exact absurd g3 (f4 g z)
      rw [f2, g2, this]
theorem sh_e : ∀ f, f < 32 → ((Int32.toUInt32 (nI f) &&& Int32.toUInt32 31).toBitVec % 32#32).toNat = f := by decide
theorem b1_e : ∀ i, i < 32 → (1#32).getLsbD i = decide (i = 0) := by decide
theorem bit_t (x : Int32) {f : Nat} (hf : f < 32) : ((((Int32.toUInt32 x >>> (Int32.toUInt32 (nI f) &&& Int32.toUInt32 31)).toInt32) &&& (1 : Int32)) = (1 : Int32)) ↔ bit x f = true := by
  have h0 := sh_u x (s := f) (i := 0) hf (by omega) (sh_e f hf)
  rw [Nat.add_zero] at h0
  generalize (Int32.toUInt32 x >>> (Int32.toUInt32 (nI f) &&& Int32.toUInt32 31)).toInt32 = y at *
  unfold bit
  rw [← h0]
  constructor
  · intro h
    have := congrArg (fun z : Int32 => z.toBitVec.getLsbD 0) h
    rw [Int32.toBitVec_and, BitVec.getLsbD_and, show (1 : Int32).toBitVec = 1#32 from rfl, b1_e 0 (by decide)] at this
    simpa using this
  · intro h
    apply Int32.toBitVec_inj.mp
    rw [Int32.toBitVec_and, show (1 : Int32).toBitVec = 1#32 from rfl]
    apply BitVec.eq_of_getLsbD_eq
    intro i hi
    rw [BitVec.getLsbD_and, b1_e i hi]
    by_cases q : i = 0
    · subst q; rw [h]; rfl
    · simp [q]
theorem X_doubtf {S : Sx} {w : XW} {K : Int32 → XW → Prop} {v : Int32} (hS : SOK S) (h : IX S w) (hk0 : ∀ w', IX S w' → rd_prices w' = rd_prices w → NoC S v → K m1 w')
    (hk1 : ∀ r w' col fo co pr, v = nI col → col < tW (tbOf S (sU S)) → BeC S col fo co pr → DbR (cOf (tbOf S (sU S)) (hdB (sU S)) col) fo pr r → IX S w' → rd_prices w' = rd_prices w → K r w') : P_X3_doubt K w v := by
  unfold P_X3_doubt
  refine X_hc hS h (fun w' a b c => ⟨fun _ => hk0 w' a b c, fun z => absurd rfl z⟩) (fun w' col fo co pr e a b => ⟨fun z => absurd z (by decide), fun _ => ?_⟩)
  have hc := a.col hS
  have hfo := a.2.1.2.1
  have hk2 : ∀ r, DbR (cOf (tbOf S (sU S)) (hdB (sU S)) col) fo pr r → K r w' := fun r hd => hk1 r w' col fo co pr e a.1 a.2.1 hd (a.i hS) b
  have dp : ∀ f, f < 32 → (bit (cs_cheapest w' col) f = true ↔ ∃ m, m < 5 ∧ cOf (tbOf S (sU S)) (hdB (sU S)) col f m = some pr) := by
    intro f hf
    rw [a.2.2.2.2.2.2 f hf]
    exact ⟨fun ⟨m, hs, q⟩ => ⟨m, hs.1, q⟩, fun ⟨m, hs, q⟩ => ⟨m, ⟨hs, hf⟩, q⟩⟩
  rw [e]
  unfold P_X0_rivalOf
  refine ⟨fun z => absurd z (nI_pos (by omega)), fun _ => ⟨fun _ => ⟨33, ?_⟩, fun z => absurd (nI_lt (b := 12) hc (by decide)) z⟩⟩
  have L : ∀ d f, f + d = 32 → (∀ g, g < f → ¬ DbP (cOf (tbOf S (sU S)) (hdB (sU S)) col) fo pr g) → P_X0_rivalOf_17 (fun r_3 => K r_3 w') w' (nI col) (d + 1) (nI f) := by
    intro d
    induction d with
    | zero =>
      intro f ef hall
      have : f = 32 := by omega
      subst this
      exact ⟨fun _ => hk2 _ (Or.inl ⟨rfl, hall⟩), fun z => absurd (nI_lt (a := 31) (by omega) (by omega)) z⟩
    | succ d ih =>
      intro f ef hall
      have nx : ¬ DbP (cOf (tbOf S (sU S)) (hdB (sU S)) col) fo pr f → P_X0_rivalOf_17 (fun r_3 => K r_3 w') w' (nI col) (d + 1) (nI f + 1) := by
        intro hn
        rw [nI_1]
        refine ih (f + 1) (by omega) (fun g hg => ?_)
        rcases Nat.lt_or_ge g f with z | z
        · exact hall g z
        · rw [show g = f by omega]; exact hn
      refine ⟨fun z => absurd z (nI_nlt (a := 31) (by omega) (by decide)), fun _ => ⟨vp_in_nI hc (by decide), ?_⟩⟩
      rw [nI_clamp (by omega), a.2.2.2.2.1]
      refine ⟨fun z => nx (fun q => q.1 ((nI_eq (by omega) (by omega)).mp z)), fun z => ⟨vp_in_nI hc (by decide), ?_⟩⟩
      have nf : f ≠ fo := fun q => z (by rw [q])
      refine ⟨fun y => nx (fun q => y ((bit_t _ (by omega)).mpr ((dp f (by omega)).mpr q.2))), fun y => ?_⟩
      exact hk2 _ (Or.inr ⟨f, by omega, rfl, ⟨nf, (dp f (by omega)).mp ((bit_t _ (by omega)).mp y)⟩, hall⟩)
  exact L 32 0 (by decide) (fun g hg => absurd hg (Nat.not_lt_zero g))
theorem M_doubtf {S : Sx} {w : MW} {K : Int32 → MW → Prop} {v : Int32} (hS : SOK S) (h : IM S w) (hk0 : ∀ w', IM S w' → KnE w w' → NoC S v → K m1 w')
    (hk1 : ∀ r w' col fo co pr, v = nI col → col < tW (tbOf S (sU S)) → BeC S col fo co pr → DbR (cOf (tbOf S (sU S)) (hdB (sU S)) col) fo pr r → IM S w' → KnE w w' → K r w') : P_X4_doubt K w v := by
  have hT := tb_wf hS (sU S)
  unfold P_X4_doubt
  refine M_ic hS h (fun w' a b c => ⟨fun z => absurd rfl z, fun _ => hk0 w' a b c⟩) (fun w' col fo co pr e a b => ⟨fun _ => ?_, fun z => absurd z (by decide)⟩)
  have hfo := a.2.1.2.1
  have hpr := a.2.2.2.2.2.2.2
  have hfin : ∀ x y r, DbR (cOf (tbOf S (sU S)) (hdB (sU S)) col) fo pr r → K r (vm w' x y) := fun x y r hd => hk1 r _ col fo co pr e a.1 a.2.1 hd ((a.2.2.1.q (vm_q w' x y)).i hS.2.2.2) (b.tr (vm_q w' x y).kn)
  have ebf : ∀ x y, md_bestForm (vm w' x y) = nI fo := fun x y => by unfold vm; simp only [gs_md_value, gs_md_digits]; exact a.2.2.2.2.1
  have ebc : ∀ x y, md_bestCost (vm w' x y) = nI pr := fun x y => by unfold vm; simp only [gs_md_value, gs_md_digits]; exact a.2.2.2.2.2.2.1
  have hin : ∀ (f : Nat) (E : MW → Prop), f < 32 → (∀ g, g < f → ¬ DbP (cOf (tbOf S (sU S)) (hdB (sU S)) col) fo pr g) → (¬ DbP (cOf (tbOf S (sU S)) (hdB (sU S)) col) fo pr f → ∀ x y, E (vm w' x y)) → ∀ d k x y, k + d = 5 → (f ≠ fo → ∀ m, m < k → ¬ cOf (tbOf S (sU S)) (hdB (sU S)) col f m = some pr) → P_X4_doubt_20 K E (nI f) (d + 1) (vm w' x y) (nI k) := by
    intro f E hf hall hE d
    induction d with
    | zero =>
      intro k x y ek hno
      have : k = 5 := by omega
      subst this
      refine ⟨fun _ => hE (fun q => ?_) x y, fun z => absurd (Int32.le_refl _) z⟩
      obtain ⟨m, hm, hq⟩ := q.2
      exact hno q.1 m hm hq
    | succ d ih =>
      intro k x y ek hno
      refine ⟨fun z => absurd z (nI_ge (b := 5) (by omega) (by decide)), fun _ => ?_⟩
      unfold P_X4_doubt_48
      rw [ebf, nI_1]
      refine ⟨fun z => ih (k + 1) x y (by omega) (fun q => absurd ((nI_eq (by omega) (by omega)).mp z) q), fun z => m_costBy hT (rep_v a.2.2.1.2.2.1 x y) (a.2.2.2.1.v x y) a.1 (by omega) hf (fun x2 y2 => ?_)⟩
      have nf : f ≠ fo := fun q => z (by rw [q])
      rw [vm_vm, ebc]
      have eqc : (oI (costC (tbOf S (sU S)) (hdB (sU S)) col f k) = nI pr) ↔ cOf (tbOf S (sU S)) (hdB (sU S)) col f k = some pr := by
        show _ ↔ costC (tbOf S (sU S)) (hdB (sU S)) col f k = some pr
        cases ec : costC (tbOf S (sU S)) (hdB (sU S)) col f k with
        | none => exact ⟨fun q => absurd q (m1_ne (by omega)), fun q => by cases q⟩
        | some p =>
          have pl := costC_le hT a.1 ec
          exact ⟨fun q => by rw [(nI_eq (by omega) (by omega)).mp q], fun q => by cases q; rfl⟩
      refine ⟨fun q => ih (k + 1) x2 y2 (by omega) (fun _ m hm => ?_), fun q => hfin x2 y2 _ (Or.inr ⟨f, hf, rfl, ⟨nf, k, by omega, eqc.mp q⟩, hall⟩)⟩
      rcases Nat.lt_or_ge m k with r | r
      · exact hno nf m r
      · rw [show m = k by omega]; exact fun t => q (eqc.mpr t)
  have L : ∀ d f x y, f + d = 32 → (∀ g, g < f → ¬ DbP (cOf (tbOf S (sU S)) (hdB (sU S)) col) fo pr g) → P_X4_doubt_12 K (d + 1) (vm w' x y) (nI f) := by
    intro d
    induction d with
    | zero =>
      intro f x y ef hall
      have : f = 32 := by omega
      subst this
      exact ⟨fun _ => hfin x y _ (Or.inl ⟨rfl, hall⟩), fun z => absurd (Int32.le_refl _) z⟩
    | succ d ih =>
      intro f x y ef hall
      refine ⟨fun z => absurd z (nI_ge (b := 32) (by omega) (by decide)), fun _ => ⟨6, hin f _ (by omega) hall (fun hn x2 y2 => ?_) 5 0 x y (by omega) (fun _ m hm => absurd hm (Nat.not_lt_zero m))⟩⟩
      rw [nI_1]
      refine ih (f + 1) x2 y2 (by omega) (fun g hg => ?_)
      rcases Nat.lt_or_ge g f with z | z
      · exact hall g z
      · rw [show g = f by omega]; exact hn
  have := L 32 0 (md_value w') (md_digits w') (by decide) (fun g hg => absurd hg (Nat.not_lt_zero g))
  rw [show vm w' (md_value w') (md_digits w') = w' by unfold vm; rw [sv_v, sv_d]] at this
  exact ⟨33, this⟩
theorem L_doubt {x : XW} {m : MW} {K : Int32 → XW → Prop} {v : Int32} (hR : RR x m) (hk : ∀ r x', Tk (fun K2 => P_X4_doubt K2 m v) x' r → K r x') : P_X3_doubt K x v := by
  obtain ⟨S, hS, ⟨hx, hp⟩, hm, hn⟩ := hR
  refine X_doubtf hS hx (fun x' a b c => hk _ x' (fun K2 h2 => M_doubtf hS hm (fun m' d e f => h2 m' ⟨S, hS, ⟨a, hp.mv rfl b⟩, d, hn.of e⟩) (fun r m' col fo co pr ev hc hb _ d e => (no_be c ev hc hS hb).elim))) (fun r x' col fo co pr ev hc hb dr a b => hk _ x' (fun K2 h2 => M_doubtf hS hm (fun m' d e f => (no_be f ev hc hS hb).elim) (fun r2 m' col2 fo2 co2 pr2 ev2 hc2 hb2 dr2 d e => ?_)))
  obtain ⟨q1, q2, q3, q4⟩ := be_one hS ev hc hb ev2 hc2 hb2
  subst q1; subst q2; subst q3; subst q4
  have := dr.one dr2
  subst this
  exact h2 m' ⟨S, hS, ⟨a, hp.mv rfl b⟩, d, hn.of e⟩
