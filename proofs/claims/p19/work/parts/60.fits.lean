/-! fits, of both -/
def fitS (c : Nat → Nat → Option Nat) (f : Nat) : Nat → Bool
  | 0 => false
  | k + 1 => fitS c f k || (c f k).isSome
theorem fitS_i (c : Nat → Nat → Option Nat) (f : Nat) : ∀ k, fitS c f k = true ↔ ∃ m p, m < k ∧ c f m = some p := by
  intro k
  induction k with
  | zero => exact ⟨fun h => absurd (show false = true from h) (by decide), fun ⟨m, p, h, _⟩ => absurd h (Nat.not_lt_zero m)⟩
  | succ k ih =>
    show (fitS c f k || (c f k).isSome) = true ↔ _
    rw [Bool.or_eq_true, ih]
    constructor
    · rintro (⟨m, p, h1, h2⟩ | h)
      · exact ⟨m, p, by omega, h2⟩
      · obtain ⟨p, hp⟩ := Option.isSome_iff_exists.mp h
        exact ⟨k, p, by omega, hp⟩
    · rintro ⟨m, p, h1, h2⟩
      rcases Nat.lt_or_ge m k with q | q
      · exact Or.inl ⟨m, p, q, h2⟩
      · rw [show m = k by omega] at h2
        exact Or.inr (by rw [h2]; rfl)
def nFit (c : Nat → Nat → Option Nat) : Nat := cntB (fun f => fitS c f 5) 32
theorem X_fitsf {S : Sx} {w : XW} {K : Int32 → XW → Prop} {v : Int32} (hS : SOK S) (h : IX S w) (hk0 : ∀ w', IX S w' → rd_prices w' = rd_prices w → NoC S v → K m1 w')
    (hk1 : ∀ w' col fo co pr, v = nI col → col < tW (tbOf S (sU S)) → BeC S col fo co pr → IX S w' → rd_prices w' = rd_prices w → K (nI (nFit (cOf (tbOf S (sU S)) (hdB (sU S)) col))) w') : P_X3_fits K w v := by
  unfold P_X3_fits
  refine X_hc hS h (fun w' a b c => ⟨fun _ => hk0 w' a b c, fun z => absurd rfl z⟩) (fun w' col fo co pr e a b => ⟨fun z => absurd z (by decide), fun _ => ?_⟩)
  have hc := a.col hS
  have q := hk1 w' col fo co pr e a.1 a.2.1 (a.i hS) b
  rw [e]
  refine ⟨vp_in_nI hc (by decide), bc_e ?_⟩
  rw [nI_clamp (by omega)]
  have ec : cntB (bit (cs_fitting w' col)) 32 = nFit (cOf (tbOf S (sU S)) (hdB (sU S)) col) := by
    refine cntB_c 32 (fun i hi => ?_)
    have h1 := a.2.2.2.1.2 i hi
    have h2 := fitS_i (cOf (tbOf S (sU S)) (hdB (sU S)) col) i 5
    cases e1 : bit (cs_fitting w' col) i with
    | true =>
      obtain ⟨m, p, hs, hp⟩ := h1.mp e1
      exact (h2.mpr ⟨m, p, hs.1, hp⟩).symm
    | false =>
      cases e2 : fitS (cOf (tbOf S (sU S)) (hdB (sU S)) col) i 5 with
      | false => rfl
      | true =>
        obtain ⟨m, p, hm, hp⟩ := h2.mp e2
        have := h1.mpr ⟨m, p, ⟨hm, hi⟩, hp⟩
        rw [e1] at this
        exact absurd this (by decide)
  rw [ec]
  exact q
theorem M_fitsf {S : Sx} {w : MW} {K : Int32 → MW → Prop} {v : Int32} (hS : SOK S) (h : IM S w) (hk0 : ∀ w', IM S w' → KnE w w' → NoC S v → K m1 w')
    (hk1 : ∀ w' col fo co pr, v = nI col → col < tW (tbOf S (sU S)) → BeC S col fo co pr → IM S w' → KnE w w' → K (nI (nFit (cOf (tbOf S (sU S)) (hdB (sU S)) col))) w') : P_X4_fits K w v := by
  have hT := tb_wf hS (sU S)
  unfold P_X4_fits
  refine M_ic hS h (fun w' a b c => ⟨fun z => absurd rfl z, fun _ => hk0 w' a b c⟩) (fun w' col fo co pr e a b => ⟨fun _ => ?_, fun z => absurd z (by decide)⟩)
  have hfin : ∀ x y, K (nI (nFit (cOf (tbOf S (sU S)) (hdB (sU S)) col))) (vm w' x y) := fun x y => hk1 _ col fo co pr e a.1 a.2.1 ((a.2.2.1.q (vm_q w' x y)).i hS.2.2.2) (b.tr (vm_q w' x y).kn)
  have hin : ∀ (f : Nat) (v2 : Int32) (E : MW → Int32 → Prop), f < 32 → (∀ x y, E (vm w' x y) (bI (fitS (cOf (tbOf S (sU S)) (hdB (sU S)) col) f 5))) → ∀ d k x y, k + d = 5 → P_X4_fits_26 K E v2 (nI f) (d + 1) (vm w' x y) (bI (fitS (cOf (tbOf S (sU S)) (hdB (sU S)) col) f k)) (nI k) := by
    intro f v2 E hf hE d
    induction d with
    | zero =>
      intro k x y ek
      have : k = 5 := by omega
      subst this
      exact ⟨fun _ => hE x y, fun z => absurd (Int32.le_refl _) z⟩
    | succ d ih =>
      intro k x y ek
      have es : fitS (cOf (tbOf S (sU S)) (hdB (sU S)) col) f (k + 1) = (fitS (cOf (tbOf S (sU S)) (hdB (sU S)) col) f k || (cOf (tbOf S (sU S)) (hdB (sU S)) col f k).isSome) := rfl
      refine ⟨fun z => absurd z (nI_ge (b := 5) (by omega) (by decide)), fun _ => ?_⟩
      unfold P_X4_fits_47 P_X4_fits_52
      rw [nI_1]
      cases eb : fitS (cOf (tbOf S (sU S)) (hdB (sU S)) col) f k with
      | true =>
        rw [eb, Bool.true_or] at es
        have nx := ih (k + 1) x y (by omega)
        rw [es] at nx
        exact ⟨fun _ => nx, fun z => absurd z (by decide)⟩
      | false =>
        rw [eb, Bool.false_or] at es
        refine ⟨fun z => absurd rfl z, fun _ => m_costBy hT (rep_v a.2.2.1.2.2.1 x y) (a.2.2.2.1.v x y) a.1 (by omega) hf (fun x2 y2 => ?_)⟩
        rw [vm_vm]
        have nx := ih (k + 1) x2 y2 (by omega)
        have ec : cOf (tbOf S (sU S)) (hdB (sU S)) col f k = costC (tbOf S (sU S)) (hdB (sU S)) col f k := rfl
        rw [es, ec] at nx
        cases e2 : costC (tbOf S (sU S)) (hdB (sU S)) col f k with
        | none =>
          rw [e2] at nx
          exact ⟨fun _ => nx, fun z => absurd (by decide) z⟩
        | some p =>
          rw [e2] at nx
          have pl := costC_le hT a.1 e2
          exact ⟨fun z => absurd z (nI_pos (by omega)), fun _ => nx⟩
  have L : ∀ d f x y, f + d = 32 → P_X4_fits_14 K (d + 1) (vm w' x y) (nI (cntB (fun g => fitS (cOf (tbOf S (sU S)) (hdB (sU S)) col) g 5) f)) (nI f) := by
    intro d
    induction d with
    | zero =>
      intro f x y ef
      have : f = 32 := by omega
      subst this
      exact ⟨fun _ => hfin x y, fun z => absurd (Int32.le_refl _) z⟩
    | succ d ih =>
      intro f x y ef
      refine ⟨fun z => absurd z (nI_ge (b := 32) (by omega) (by decide)), fun _ => ⟨6, hin f _ _ (by omega) (fun x2 y2 => ?_) 5 0 x y (by omega)⟩⟩
      unfold P_X4_fits_71
      rw [nI_1]
      have nx := ih (f + 1) x2 y2 (by omega)
      have es : cntB (fun g => fitS (cOf (tbOf S (sU S)) (hdB (sU S)) col) g 5) (f + 1) = cntB (fun g => fitS (cOf (tbOf S (sU S)) (hdB (sU S)) col) g 5) f + (if fitS (cOf (tbOf S (sU S)) (hdB (sU S)) col) f 5 then 1 else 0) := rfl
      rw [es] at nx
      cases eb : fitS (cOf (tbOf S (sU S)) (hdB (sU S)) col) f 5 with
      | true =>
        rw [eb] at nx
        exact ⟨fun z => absurd z (by decide), fun _ => by rw [show ∀ q, nI q + (1 : Int32) = nI (q + 1) from nI_1]; exact nx⟩
      | false =>
        rw [eb] at nx
        exact ⟨fun _ => by rw [show ∀ q, nI q + (0 : Int32) = nI (q + 0) from fun q => nI_add q 0]; exact nx, fun z => absurd rfl z⟩
  have := L 32 0 (md_value w') (md_digits w') (by decide)
  rw [show vm w' (md_value w') (md_digits w') = w' by unfold vm; rw [sv_v, sv_d]] at this
  exact ⟨33, this⟩
theorem L_fits {x : XW} {m : MW} {K : Int32 → XW → Prop} {v : Int32} (hR : RR x m) (hk : ∀ r x', Tk (fun K2 => P_X4_fits K2 m v) x' r → K r x') : P_X3_fits K x v := by
  obtain ⟨S, hS, ⟨hx, hp⟩, hm, hn⟩ := hR
  refine X_fitsf hS hx (fun x' a b c => hk _ x' (fun K2 h2 => M_fitsf hS hm (fun m' d e f => h2 m' ⟨S, hS, ⟨a, hp.mv rfl b⟩, d, hn.of e⟩) (fun m' col fo co pr ev hc hb d e => (no_be c ev hc hS hb).elim))) (fun x' col fo co pr ev hc hb a b => hk _ x' (fun K2 h2 => M_fitsf hS hm (fun m' d e f => (no_be f ev hc hS hb).elim) (fun m' col2 fo2 co2 pr2 ev2 hc2 hb2 d e => ?_)))
  obtain ⟨q1, q2, q3, q4⟩ := be_one hS ev hc hb ev2 hc2 hb2
  subst q1
  exact h2 m' ⟨S, hS, ⟨a, hp.mv rfl b⟩, d, hn.of e⟩
