/-! the choice of FORM and code, the class' side -/
def bit (x : Int32) (i : Nat) : Bool := x.toBitVec.getLsbD i
theorem bit_sh : ∀ f, f < 32 → ((1 : Int32) <<< (nI f &&& 31)).toBitVec = 1#32 <<< f := by decide +kernel
theorem bit_or (x : Int32) {f : Nat} (hf : f < 32) {i : Nat} (hi : i < 32) : bit (x ||| ((1 : Int32) <<< (nI f &&& 31))) i = (bit x i || decide (i = f)) := by
  unfold bit
  rw [Int32.toBitVec_or, BitVec.getLsbD_or, bit_sh f hf]
  congr 1
  rw [BitVec.getLsbD_shiftLeft]
  by_cases q : i = f
  · subst q; simp [hi]
  · by_cases q2 : i < f
    · simp [q, q2]
    · have : 0 < i - f := by omega
      simp [hi, q, q2]
      omega
theorem bit_0 (i : Nat) : bit 0 i = false := by unfold bit; simp
/-- fo, co, pr: of the pairs in S the least COST, of several the least FORM, then code -/
def Best (c : Nat → Nat → Option Nat) (S : Nat → Nat → Prop) (fo co pr : Nat) : Prop := S co fo ∧ c fo co = some pr ∧ ∀ f m p, S m f → c f m = some p → pr ≤ p ∧ (p = pr → fo ≤ f ∧ (f = fo → co ≤ m))
theorem Best.one {c : Nat → Nat → Option Nat} {S : Nat → Nat → Prop} {f1 m1 p1 f2 m2 p2 : Nat} (h1 : Best c S f1 m1 p1) (h2 : Best c S f2 m2 p2) : f1 = f2 ∧ m1 = m2 ∧ p1 = p2 := by
  have a := h1.2.2 f2 m2 p2 h2.1 h2.2.1
  have b := h2.2.2 f1 m1 p1 h1.1 h1.2.1
  have e : p1 = p2 := by omega
  have a2 := a.2 e.symm
  have b2 := b.2 e
  have e2 : f1 = f2 := by omega
  exact ⟨e2, by have := a2.2 e2.symm; have := b2.2 e2; omega, e⟩
def ChS (c : Nat → Nat → Option Nat) (S : Nat → Nat → Prop) (w : XW) (col : Nat) : Prop :=
  (((∀ m f, S m f → c f m = none) ∧ cs_formOf w col = m1 ∧ cs_codeOf w col = m1 ∧ cs_priceOf w col = nI 0) ∨
    ∃ fo co pr, Best c S fo co pr ∧ fo < 32 ∧ co < 5 ∧ pr < 10000000 ∧ cs_formOf w col = nI fo ∧ cs_codeOf w col = nI co ∧ cs_priceOf w col = nI pr ∧ ∀ i, i < 32 → (bit (cs_cheapest w col) i = true ↔ ∃ m, S m i ∧ c i m = some pr)) ∧
  ∀ i, i < 32 → (bit (cs_fitting w col) i = true ↔ ∃ m p, S m i ∧ c i m = some p)
def EqC (col : Nat) (w w' : XW) : Prop := w'.1 = w.1 ∧ w'.2.1 = w.2.1 ∧ ∀ j, j ≠ col → cs_formOf w' j = cs_formOf w j ∧ cs_codeOf w' j = cs_codeOf w j ∧ cs_priceOf w' j = cs_priceOf w j ∧ cs_fitting w' j = cs_fitting w j ∧ cs_cheapest w' j = cs_cheapest w j
theorem EqC.rf (col : Nat) (w : XW) : EqC col w w := ⟨rfl, rfl, fun _ _ => ⟨rfl, rfl, rfl, rfl, rfl⟩⟩
theorem EqC.tr {col : Nat} {a b c : XW} (h1 : EqC col a b) (h2 : EqC col b c) : EqC col a c := ⟨h2.1.trans h1.1, h2.2.1.trans h1.2.1, fun j hj => by
  obtain ⟨a1, a2, a3, a4, a5⟩ := h1.2.2 j hj
  obtain ⟨b1, b2, b3, b4, b5⟩ := h2.2.2 j hj
  exact ⟨b1.trans a1, b2.trans a2, b3.trans a3, b4.trans a4, b5.trans a5⟩⟩
theorem Eq3.c {w w' : XW} (h : Eq3 w w') (col : Nat) : EqC col w w' := ⟨h.1, h.2.1, fun j _ => ⟨by rw [h.2.2.1], by rw [h.2.2.2.1], by rw [h.2.2.2.2.1], by rw [h.2.2.2.2.2.1], by rw [h.2.2.2.2.2.2]⟩⟩
theorem ChS.eq3 {c : Nat → Nat → Option Nat} {S : Nat → Nat → Prop} {w w' : XW} {col : Nat} (he : Eq3 w w') (h : ChS c S w col) : ChS c S w' col := by
  obtain ⟨e1, e2, e3, e4, e5, e6, e7⟩ := he
  unfold ChS
  rw [e3, e4, e5, e6, e7]
  exact h
/-- the pairs ahead of code k, and of code k the FORMS ahead of j -/
def Sp (k j : Nat) : Nat → Nat → Prop := fun m f => (m < k ∧ f < 32) ∨ (m = k ∧ f < j)
theorem ChS.skip {c : Nat → Nat → Option Nat} {k j : Nat} {w : XW} {col : Nat} (h : ChS c (Sp k j) w col) (hn : c j k = none) : ChS c (Sp k (j + 1)) w col := by
  have key : ∀ m f p, Sp k (j + 1) m f → c f m = some p → Sp k j m f := by
    intro m f p hs hc
    rcases hs with z | ⟨z1, z2⟩
    · exact Or.inl z
    · by_cases q : f = j
      · subst q; subst z1; rw [hn] at hc; cases hc
      · exact Or.inr ⟨z1, by omega⟩
  have key2 : ∀ m f, Sp k j m f → Sp k (j + 1) m f := fun m f hs => hs.elim Or.inl (fun z => Or.inr ⟨z.1, by omega⟩)
  refine ⟨?_, fun i hi => ?_⟩
  · rcases h.1 with ⟨h1, h2⟩ | ⟨fo, co, pr, hb, h2, h3, h4, h5, h6, h7, h8⟩
    · refine Or.inl ⟨fun m f hs => ?_, h2⟩
      cases q : c f m with
      | none => rfl
      | some p => exact absurd (h1 m f (key m f p hs q)) (by rw [q]; exact fun z => by cases z)
    · refine Or.inr ⟨fo, co, pr, ⟨key2 _ _ hb.1, hb.2.1, fun f m p hs hc => hb.2.2 f m p (key m f p hs hc) hc⟩, h2, h3, h4, h5, h6, h7, fun i hi => (h8 i hi).trans ⟨fun ⟨m, a, b⟩ => ⟨m, key2 _ _ a, b⟩, fun ⟨m, a, b⟩ => ⟨m, key m i pr a b, b⟩⟩⟩
  · exact (h.2 i hi).trans ⟨fun ⟨m, p, a, b⟩ => ⟨m, p, key2 _ _ a, b⟩, fun ⟨m, p, a, b⟩ => ⟨m, p, key m i p a b, b⟩⟩
theorem x_weigh {w : XW} {K : XW → Prop} {c : Nat → Nat → Option Nat} {k j p col : Nat} (hcol : col < 12) (hk5 : k < 5) (hj : j < 32) (hp : p < 10000000) (hc : c j k = some p) (h : ChS c (Sp k j) w col)
    (hk : ∀ w', EqC col w w' → (cs_surveyedMissing w' = cs_surveyedMissing w ∧ cs_firstPresent w' = cs_firstPresent w ∧ w'.2.2.2 = w.2.2.2) → ChS c (Sp k (j + 1)) w' col → K w') : P_X0_weigh K w (nI col) (nI j) (nI k) (nI p) := by
  have ic : vp_in (nI col) 12 := vp_in_nI hcol (by decide)
  have sp1 : Sp k (j + 1) k j := Or.inr ⟨rfl, by omega⟩
  have spin : ∀ m f, Sp k (j + 1) m f → Sp k j m f ∨ (m = k ∧ f = j) := by
    intro m f hs
    rcases hs with z | ⟨z1, z2⟩
    · exact Or.inl (Or.inl z)
    · by_cases q : f = j
      · exact Or.inr ⟨z1, q⟩
      · exact Or.inl (Or.inr ⟨z1, by omega⟩)
  have spup : ∀ m f, Sp k j m f → Sp k (j + 1) m f := fun m f hs => hs.elim Or.inl (fun z => Or.inr ⟨z.1, by omega⟩)
  have spne : ∀ m, Sp k j m j → m < k := by
    intro m hs
    rcases hs with z | ⟨z1, z2⟩
    · exact z.1
    · exact absurd z2 (Nat.lt_irrefl _)
  -- the fitting set
  have fitk : ∀ i, i < 32 → (bit (cs_fitting w col ||| ((1 : Int32) <<< (nI j &&& 31))) i = true ↔ ∃ m p', Sp k (j + 1) m i ∧ c i m = some p') := by
    intro i hi
    rw [bit_or _ hj hi, Bool.or_eq_true, h.2 i hi, decide_eq_true_eq]
    refine ⟨fun z => ?_, fun ⟨m, p', a, b⟩ => ?_⟩
    · rcases z with ⟨m, p', a, b⟩ | z
      · exact ⟨m, p', spup _ _ a, b⟩
      · subst z; exact ⟨k, p, sp1, hc⟩
    · rcases spin m i a with z | ⟨z1, z2⟩
      · exact Or.inl ⟨m, p', z, b⟩
      · exact Or.inr z2
  unfold P_X0_weigh P_X0_weigh_27 P_X0_weigh_46 P_X0_weigh_62 P_X0_weigh_67 P_X0_weigh_89 P_X0_weigh_109
  refine ⟨ic, ic, ic, ?_⟩
  rw [nI_clamp (by omega)]
  rcases h.1 with ⟨h1, h2, h3, h4⟩ | ⟨fo, co, pr, hb, h2, h3, h4, h5, h6, h7, h8⟩
  · -- the first that fits
    refine ⟨fun z => absurd h2 z, fun _ => ⟨fun _ => ⟨fun _ => ⟨fun z => absurd z (by decide), fun _ => ⟨ic, fun _ => ⟨ic, ic, ic, ?_⟩, fun z => absurd z (by decide)⟩⟩, fun z => absurd z (by decide)⟩, fun z => absurd z (by decide)⟩⟩
    refine hk _ ⟨rfl, rfl, fun i hi => ⟨pk_un hi, pk_un hi, pk_un hi, pk_un hi, pk_un hi⟩⟩ ⟨rfl, rfl, rfl⟩ ⟨Or.inr ⟨j, k, p, ⟨sp1, hc, fun f m p' hs hc' => ?_⟩, hj, hk5, hp, pk_us, pk_us, pk_us, fun i hi => ?_⟩, fun i hi => ?_⟩
    · rcases spin m f hs with z | ⟨z1, z2⟩
      · rw [h1 m f z] at hc'; cases hc'
      · subst z1; subst z2; rw [hc] at hc'; cases hc'
        exact ⟨Nat.le_refl _, fun _ => ⟨Nat.le_refl _, fun _ => Nat.le_refl _⟩⟩
    · show bit (upd _ col ((0 : Int32) ||| ((1 : Int32) <<< (nI j &&& 31))) col) i = true ↔ _
      rw [pk_us, bit_or _ hj hi, bit_0, Bool.false_or, decide_eq_true_eq]
      refine ⟨fun z => by subst z; exact ⟨k, sp1, hc⟩, fun ⟨m, a, b⟩ => ?_⟩
      rcases spin m i a with z | ⟨z1, z2⟩
      · rw [h1 m i z] at b; cases b
      · exact z2
    · show bit (upd _ col _ col) i = true ↔ _
      rw [pk_us]; exact fitk i hi
  · refine ⟨fun _ => ⟨fun z => absurd rfl z, fun _ => ⟨ic, fun z => ?_, fun z => ?_⟩⟩, fun z => absurd z (by
      show ¬ cs_formOf w col = (-1 : Int32)
      rw [h5]; exact fun y => by have y : nI fo = m1 := y; rw [eq_m1 (by omega)] at y; exact y)⟩
    · -- at most the price so far
      have ple : p ≤ pr := by
        rcases Nat.lt_or_ge pr p with y | y
        · exact absurd z (by show ¬ nI p ≤ cs_priceOf w col; rw [h7]; exact nI_ge y (by omega))
        · exact y
      refine ⟨fun y => absurd rfl y, fun _ => ⟨ic, fun z2 => ?_, fun z2 => ?_⟩⟩
      · -- the same price
        have pe : p = pr := by
          rcases Nat.lt_or_ge p pr with y | y
          · exact absurd z2 (by show ¬ cs_priceOf w col ≤ nI p; rw [h7]; exact nI_ge y (by omega))
          · omega
        subst pe
        refine ⟨fun _ => ⟨ic, ic, fun y => absurd rfl y, fun _ => ⟨ic, fun z3 => ?_, fun z3 => ?_⟩⟩, fun y => absurd rfl y⟩
        · have fle : fo ≤ j := by
            rcases Nat.lt_or_ge j fo with y | y
            · exact absurd z3 (by show ¬ cs_formOf w col ≤ nI j; rw [h5]; exact nI_ge y (by omega))
            · exact y
          refine hk _ ⟨rfl, rfl, fun i hi => ⟨rfl, rfl, rfl, pk_un hi, pk_un hi⟩⟩ ⟨rfl, rfl, rfl⟩ ⟨Or.inr ⟨fo, co, p, ⟨spup _ _ hb.1, hb.2.1, fun f m p' hs hc' => ?_⟩, h2, h3, h4, h5, h6, h7, fun i hi => ?_⟩, fun i hi => ?_⟩
          · rcases spin m f hs with y | ⟨y1, y2⟩
            · exact hb.2.2 f m p' y hc'
            · subst y1; subst y2; rw [hc] at hc'; cases hc'
              refine ⟨Nat.le_refl _, fun _ => ⟨fle, fun y => ?_⟩⟩
              subst y
              exact Nat.le_of_lt (spne co hb.1)
          · show bit (upd _ col (cs_cheapest w col ||| ((1 : Int32) <<< (nI j &&& 31))) col) i = true ↔ _
            rw [pk_us, bit_or _ hj hi, Bool.or_eq_true, h8 i hi, decide_eq_true_eq]
            refine ⟨fun y => ?_, fun ⟨m, a, b⟩ => ?_⟩
            · rcases y with ⟨m, a, b⟩ | y
              · exact ⟨m, spup _ _ a, b⟩
              · subst y; exact ⟨k, sp1, hc⟩
            · rcases spin m i a with y | ⟨y1, y2⟩
              · exact Or.inl ⟨m, y, b⟩
              · exact Or.inr y2
          · show bit (upd _ col _ col) i = true ↔ _
            rw [pk_us]; exact fitk i hi
        · have flt : j < fo := by
            rcases Nat.lt_or_ge j fo with y | y
            · exact y
            · exact absurd (show cs_formOf w col ≤ nI j by rw [h5]; exact nI_le y (by omega)) z3
          refine ⟨ic, ic, ic, ?_⟩
          refine hk _ ⟨rfl, rfl, fun i hi => ⟨pk_un hi, pk_un hi, pk_un hi, pk_un hi, pk_un hi⟩⟩ ⟨rfl, rfl, rfl⟩ ⟨Or.inr ⟨j, k, p, ⟨sp1, hc, fun f m p' hs hc' => ?_⟩, hj, hk5, h4, pk_us, pk_us, pk_us, fun i hi => ?_⟩, fun i hi => ?_⟩
          · rcases spin m f hs with y | ⟨y1, y2⟩
            · have g := hb.2.2 f m p' y hc'
              refine ⟨g.1, fun e => ?_⟩
              have g2 := g.2 e
              exact ⟨by omega, fun e2 => by omega⟩
            · subst y1; subst y2; rw [hc] at hc'; cases hc'
              exact ⟨Nat.le_refl _, fun _ => ⟨Nat.le_refl _, fun _ => Nat.le_refl _⟩⟩
          · show bit (upd _ col (cs_cheapest w col ||| ((1 : Int32) <<< (nI j &&& 31))) col) i = true ↔ _
            rw [pk_us, bit_or _ hj hi, Bool.or_eq_true, h8 i hi, decide_eq_true_eq]
            refine ⟨fun y => ?_, fun ⟨m, a, b⟩ => ?_⟩
            · rcases y with ⟨m, a, b⟩ | y
              · exact ⟨m, spup _ _ a, b⟩
              · subst y; exact ⟨k, sp1, hc⟩
            · rcases spin m i a with y | ⟨y1, y2⟩
              · exact Or.inl ⟨m, y, b⟩
              · exact Or.inr y2
          · show bit (upd _ col _ col) i = true ↔ _
            rw [pk_us]; exact fitk i hi
      · -- cheaper
        have plt : p < pr := by
          rcases Nat.lt_or_ge p pr with y | y
          · exact y
          · exact absurd (show cs_priceOf w col ≤ nI p by rw [h7]; exact nI_le y (by omega)) z2
        refine ⟨fun y => absurd y (by decide), fun _ => ⟨ic, fun _ => ⟨ic, ic, ic, ?_⟩, fun y => absurd y (by decide)⟩⟩
        refine hk _ ⟨rfl, rfl, fun i hi => ⟨pk_un hi, pk_un hi, pk_un hi, pk_un hi, pk_un hi⟩⟩ ⟨rfl, rfl, rfl⟩ ⟨Or.inr ⟨j, k, p, ⟨sp1, hc, fun f m p' hs hc' => ?_⟩, hj, hk5, hp, pk_us, pk_us, pk_us, fun i hi => ?_⟩, fun i hi => ?_⟩
        · rcases spin m f hs with y | ⟨y1, y2⟩
          · have g := hb.2.2 f m p' y hc'
            exact ⟨by omega, fun e => by omega⟩
          · subst y1; subst y2; rw [hc] at hc'; cases hc'
            exact ⟨Nat.le_refl _, fun _ => ⟨Nat.le_refl _, fun _ => Nat.le_refl _⟩⟩
        · show bit (upd _ col ((0 : Int32) ||| ((1 : Int32) <<< (nI j &&& 31))) col) i = true ↔ _
          rw [pk_us, bit_or _ hj hi, bit_0, Bool.false_or, decide_eq_true_eq]
          refine ⟨fun y => by subst y; exact ⟨k, sp1, hc⟩, fun ⟨m, a, b⟩ => ?_⟩
          rcases spin m i a with y | ⟨y1, y2⟩
          · have g := hb.2.2 i m p y b
            omega
          · exact y2
        · show bit (upd _ col _ col) i = true ↔ _
          rw [pk_us]; exact fitk i hi
    · -- dearer
      have pgt : pr < p := by
        rcases Nat.lt_or_ge pr p with y | y
        · exact y
        · exact absurd (show nI p ≤ cs_priceOf w col by rw [h7]; exact nI_le y (by omega)) z
      refine hk _ ⟨rfl, rfl, fun i hi => ⟨rfl, rfl, rfl, pk_un hi, rfl⟩⟩ ⟨rfl, rfl, rfl⟩ ⟨Or.inr ⟨fo, co, pr, ⟨spup _ _ hb.1, hb.2.1, fun f m p' hs hc' => ?_⟩, h2, h3, h4, h5, h6, h7, fun i hi => (h8 i hi).trans ⟨fun ⟨m, a, b⟩ => ⟨m, spup _ _ a, b⟩, fun ⟨m, a, b⟩ => ?_⟩⟩, fun i hi => ?_⟩
      · rcases spin m f hs with y | ⟨y1, y2⟩
        · exact hb.2.2 f m p' y hc'
        · subst y1; subst y2; rw [hc] at hc'; cases hc'
          exact ⟨by omega, fun e => by omega⟩
      · rcases spin m i a with y | ⟨y1, y2⟩
        · exact ⟨m, y, b⟩
        · subst y1; subst y2; rw [hc] at b; cases b; omega
      · show bit (upd _ col _ col) i = true ↔ _
        rw [pk_us]; exact fitk i hi
theorem costC_le {T : Tb} {hd : Bool} {col form m p : Nat} (hT : tWF T) (hc : col < tW T) (h : costC T hd col form m = some p) : p < 10000000 := by
  have hR := hT.1
  unfold costC at h
  cases q : fstP T hd col m (tR T) with
  | none => rw [q] at h; cases h
  | some c0 =>
    rw [q] at h
    have c1 := fstP_lt hT hc q
    have hl0 := tLen_le hT c1
    have pf : priceF form (tLen T c0) ≤ 3000 := by unfold priceF; (repeat' split) <;> omega
    simp only at h
    split at h
    · cases h
    · split at h
      · cases h
      · cases q2 : sumC T hd col form m c0 (tR T) with
        | none => rw [q2] at h; cases h
        | some s =>
          rw [q2] at h
          have := sumC_le hT hc q2
          have h : some (s + (priceF form (tLen T c0) + (if 0 < m then 6 else 0))) = some p := h
          have h := Option.some.inj h
          have : (if 0 < m then 6 else 0) ≤ 6 := by split <;> omega
          omega
theorem tW_le {T : Tb} (hT : tWF T) : tW T ≤ 12 := by
  unfold tW
  split
  · have := tS_up hT 1 (by omega); omega
  · omega
def cOf (T : Tb) (hd : Bool) (col : Nat) : Nat → Nat → Option Nat := fun form m => costC T hd col form m
theorem x_choose_75 {w0 : XW} {T : Tb} {K E : XW → Prop} {hd : Bool} (hT : tWF T) (h0 : RepX w0 T) (hh : cu_headed w0 = bI hd) {col m : Nat} (hc : col < tW T) (hm : m < 5)
    (hE : ∀ w, EqC col w0 w → ChS (cOf T hd col) (Sp (m + 1) 0) w col → E w) :
    ∀ d j w, j + d = 32 → EqC col w0 w → Surv T hd col m w → ChS (cOf T hd col) (Sp m j) w col → P_X0_choose_75 K E (nI col) (nI m) (d + 1) w (nI j) := by
  have hW := tW_le hT
  intro d
  induction d with
  | zero =>
    intro j w e he hs hch
    unfold P_X0_choose_75
    rw [show j = 32 by omega] at hch ⊢
    refine ⟨fun _ => hE w he ?_, fun z => absurd (by decide) z⟩
    have e1 : Sp (m + 1) 0 = Sp m 32 := by
      funext a b
      apply propext
      unfold Sp
      omega
    rw [e1]
    exact hch
  | succ d ih =>
    intro j w e he hs hch
    unfold P_X0_choose_75 P_X0_choose_105
    refine ⟨fun z => absurd z (nI_nlt (a := 31) (b := j) (by omega) (by decide)), fun _ => ?_⟩
    have hr := rep_of he.2.1 h0
    have hhd := hd_of he.2.1 hh
    refine x_price hT hr hhd hc hm (by omega) hs (fun a b => ?_)
    rw [e_one, nI_add]
    have he2 : EqC col w0 (fw w a b) := he.tr ((fw_eq3 w a b).c col)
    have hs2 : Surv T hd col m (fw w a b) := hs
    have hch2 : ChS (cOf T hd col) (Sp m j) (fw w a b) col := hch.eq3 (fw_eq3 w a b)
    cases q : costC T hd col j m with
    | none =>
      refine ⟨fun _ => ih (j + 1) _ (by omega) he2 hs2 (hch2.skip q), fun z => absurd rfl z⟩
    | some p =>
      have pl := costC_le hT hc q
      refine ⟨fun z => absurd z (fun y => by have y : nI p = m1 := y; rw [eq_m1 (by omega)] at y; exact y), fun _ => ?_⟩
      refine x_weigh (c := cOf T hd col) (by omega) hm (by omega) pl q hch2 (fun w' g1 gs g2 => ?_)
      refine ih (j + 1) w' (by omega) (he2.tr g1) ?_ g2
      obtain ⟨t1, t2, t3⟩ := gs
      obtain ⟨s1, s2, s3, s4⟩ := hs2
      refine ⟨t1.trans s1, t2.trans s2, ?_, ?_⟩
      · unfold fm_first at *; rw [t3]; exact s3
      · unfold fm_capped at *; rw [t3]; exact s4
theorem x_choose_62 {w0 : XW} {T : Tb} {K : XW → Prop} {hd : Bool} (hT : tWF T) (h0 : RepX w0 T) (hh : cu_headed w0 = bI hd) {col : Nat} (hc : col < tW T)
    (hk : ∀ w, EqC col w0 w → ChS (cOf T hd col) (Sp 5 0) w col → K w) :
    ∀ d m w, m + d = 5 → EqC col w0 w → ChS (cOf T hd col) (Sp m 0) w col → P_X0_choose_62 K (nI col) (d + 1) w (nI m) := by
  intro d
  induction d with
  | zero =>
    intro m w e he hch
    unfold P_X0_choose_62
    rw [show m = 5 by omega] at hch ⊢
    exact ⟨fun _ => hk w he hch, fun z => absurd (by decide) z⟩
  | succ d ih =>
    intro m w e he hch
    unfold P_X0_choose_62
    refine ⟨fun z => absurd z (nI_ge (a := m) (b := 5) (by omega) (by decide)), fun _ => ?_⟩
    have hr := rep_of he.2.1 h0
    have hhd := hd_of he.2.1 hh
    refine x_survey hT hr hhd hc (by omega) (fun w1 g1 gs => ?_)
    refine ⟨33, x_choose_75 (w0 := w0) hT h0 hh hc (by omega) (fun w2 a1 a2 => ?_) 32 0 w1 (by omega) (he.tr (g1.c col)) gs (hch.eq3 g1)⟩
    rw [e_one, nI_add]
    exact ih (m + 1) w2 (by omega) a1 a2
/-- all pairs of FORM and code -/
def Sall : Nat → Nat → Prop := fun m f => m < 5 ∧ f < 32
theorem Sp5 : Sp 5 0 = Sall := by
  funext a b
  apply propext
  unfold Sp Sall
  omega
/-- a COLUMN that has been chosen -/
def Chosen (T : Tb) (hd : Bool) (col : Nat) (w : XW) : Prop := ChS (cOf T hd col) Sall w col
def m2 : Int32 := -2
theorem m2_i : m2.toInt = -2 := by decide
theorem x_choose {w : XW} {T : Tb} {K : XW → Prop} {hd : Bool} (hT : tWF T) (h : RepX w T) (hh : cu_headed w = bI hd) {col : Nat} (hc : col < tW T) (hcl : cs_formOf w col = m2 ∨ Chosen T hd col w)
    (hk : ∀ w', EqC col w w' → Chosen T hd col w' → K w') : P_X0_choose K w (nI col) := by
  have hW := tW_le hT
  have ic : vp_in (nI col) 12 := vp_in_nI (by omega) (by decide)
  unfold P_X0_choose
  refine ⟨fun z => absurd z (nI_pos (by omega)), fun _ => ⟨fun z => absurd z (nI_ge (a := col) (b := 12) (by omega) (by decide)), fun _ => ⟨ic, ?_⟩⟩⟩
  rw [nI_clamp (by omega)]
  rcases hcl with q | q
  · refine ⟨fun _ => ⟨ic, ic, ic, ic, ic, 6, ?_⟩, fun z => absurd q z⟩
    refine x_choose_62 (w0 := w) hT h hh hc (fun w' g1 g2 => hk w' g1 (by unfold Chosen; rw [← Sp5]; exact g2)) 5 0 _ (by omega) ⟨rfl, rfl, fun i hi => ⟨pk_un hi, pk_un hi, pk_un hi, pk_un hi, pk_un hi⟩⟩ ⟨Or.inl ⟨fun m f hs => ?_, pk_us, pk_us, pk_us⟩, fun i hi => ?_⟩
    · rcases hs with z | z <;> omega
    · show bit (upd _ col (0 : Int32) col) i = true ↔ _
      rw [pk_us, bit_0]
      refine ⟨fun z => absurd z Bool.false_ne_true, fun ⟨m, p, a, b⟩ => ?_⟩
      rcases a with z | z <;> omega
  · have nf : ¬ cs_formOf w col = m2 := by
      rcases q.1 with ⟨-, e, -⟩ | ⟨fo, co, pr, -, e1, -, -, e, -⟩
      · rw [e]; decide
      · rw [e]
        intro y
        have := congrArg Int32.toInt y
        rw [m2_i, nI_toInt (by omega)] at this
        omega
    exact ⟨fun z => absurd z nf, fun _ => hk w (EqC.rf col w) q⟩
