/-! feed, add, clear, use: both, with what the calls say of the object -/
def bN (v : Int32) (s : Nat) : Nat := ((((Int32.toUInt32 v >>> (Int32.toUInt32 (nI s) &&& Int32.toUInt32 31)).toInt32) &&& (255 : Int32))).toNatClampNeg
theorem bN_e (v : Int32) (s : Nat) : ((Int32.toUInt32 v >>> (Int32.toUInt32 (nI s) &&& Int32.toUInt32 31)).toInt32) &&& (255 : Int32) = nI (bN v s) ∧ bN v s < 256 := by
  obtain ⟨n, hn, e⟩ := and_n ((Int32.toUInt32 v >>> (Int32.toUInt32 (nI s) &&& Int32.toUInt32 31)).toInt32)
  have : bN v s = n := by unfold bN; rw [e, nI_clamp (by omega)]
  rw [this]
  exact ⟨e, hn⟩
def TapX (w : XW) (P : Nat → Nat) (t : Nat) : Prop := rd_tapeSize w = nI t ∧ ∀ i, i < t → rd_tape w i = nI (P i)
def EqF (w w' : XW) : Prop := rd_text w' = rd_text w ∧ rd_textSize w' = rd_textSize w ∧ rd_used w' = rd_used w ∧ rd_cutBy w' = rd_cutBy w ∧ rd_prices w' = rd_prices w ∧ w'.2 = w.2
theorem EqF.tr {a b c : XW} (h1 : EqF a b) (h2 : EqF b c) : EqF a c := ⟨h2.1.trans h1.1, h2.2.1.trans h1.2.1, h2.2.2.1.trans h1.2.2.1, h2.2.2.2.1.trans h1.2.2.2.1, h2.2.2.2.2.1.trans h1.2.2.2.2.1, h2.2.2.2.2.2.trans h1.2.2.2.2.2⟩
theorem tpw_f (w : XW) (v s : Int32) : EqF w (tpw w v s) := by
  unfold tpw
  refine ⟨?_, ?_, ?_, ?_, ?_, rfl⟩ <;> simp only [gs_rd_tape, gs_rd_tapeSize]
theorem tpw_t {w : XW} {P : Nat → Nat} {t : Nat} (h : TapX w P t) (ht : t < 400) (v : Int32) (s : Nat) : TapX (tpw w v (nI s)) (un P t (bN v s)) (t + 1) := by
  refine ⟨tpw_s h.1, fun i hi => ?_⟩
  unfold tpw
  simp only [gs_rd_tape, gs_rd_tapeSize]
  rw [h.1, nI_clamp (by omega)]
  by_cases e : i = t
  · subst e; rw [pk_us, un_s]; exact (bN_e v s).1
  · rw [pk_un e, un_n e]; exact h.2 i (by omega)
def fP (P : Nat → Nat) (t : Nat) (v : Int32) : Nat → Nat := un (un (un (un P t (bN v 24)) (t + 1) (bN v 16)) (t + 2) (bN v 8)) (t + 3) (bN v 0)
def fP5 (P : Nat → Nat) (t : Nat) (a b c d e : Int32) : Nat → Nat := fP (fP (fP (fP (fP P t a) (t + 4) b) (t + 8) c) (t + 12) d) (t + 16) e
theorem un_lt {P : Nat → Nat} {t x n : Nat} (h : ∀ i, i < t → P i < n) (hx : x < n) : ∀ i, i < t + 1 → un P t x i < n := by
  intro i hi
  by_cases e : i = t
  · subst e; rw [un_s]; exact hx
  · rw [un_n e]; exact h i (by omega)
theorem fP_lt {P : Nat → Nat} {t : Nat} (h : ∀ i, i < t → P i < 256) (v : Int32) : ∀ i, i < t + 4 → fP P t v i < 256 := un_lt (un_lt (un_lt (un_lt h (bN_e v 24).2) (bN_e v 16).2) (bN_e v 8).2) (bN_e v 0).2
theorem fP5_lt {P : Nat → Nat} {t : Nat} (h : ∀ i, i < t → P i < 256) (a b c d e : Int32) : ∀ i, i < t + 20 → fP5 P t a b c d e i < 256 := fP_lt (fP_lt (fP_lt (fP_lt (fP_lt h a) b) c) d) e
theorem tpw4_t {w : XW} {P : Nat → Nat} {t : Nat} (h : TapX w P t) (ht : t + 4 ≤ 400) (v : Int32) : TapX (tpw4 w v) (fP P t v) (t + 4) :=
  tpw_t (tpw_t (tpw_t (tpw_t h (by omega) v 24) (by omega) v 16) (by omega) v 8) (by omega) v 0
theorem tpw4_f (w : XW) (v : Int32) : EqF w (tpw4 w v) := (((tpw_f _ _ _).tr (tpw_f _ _ _)).tr (tpw_f _ _ _)).tr (tpw_f _ _ _)
theorem tpw20_t {w : XW} {P : Nat → Nat} {t : Nat} (h : TapX w P t) (ht : t + 20 ≤ 400) (a b c d e : Int32) : TapX (tpw20 w a b c d e) (fP5 P t a b c d e) (t + 20) :=
  tpw4_t (tpw4_t (tpw4_t (tpw4_t (tpw4_t h (by omega) a) (by omega) b) (by omega) c) (by omega) d) (by omega) e
theorem tpw20_f (w : XW) (a b c d e : Int32) : EqF w (tpw20 w a b c d e) := ((((tpw4_f _ _).tr (tpw4_f _ _)).tr (tpw4_f _ _)).tr (tpw4_f _ _)).tr (tpw4_f _ _)
def TapM (w : MW) (P : Nat → Nat) (t : Nat) : Prop := md_taped w = nI t ∧ ∀ i, i < t → md_tape w i &&& 255 = nI (P i)
def EqG (w w' : MW) : Prop := md_text w' = md_text w ∧ md_size w' = md_size w ∧ md_used w' = md_used w ∧ md_loaded w' = md_loaded w ∧ (md_rows w' = md_rows w ∧ md_rowFrom w' = md_rowFrom w ∧ md_cellFrom w' = md_cellFrom w ∧ md_cellSize w' = md_cellSize w ∧ md_bytes w' = md_bytes w) ∧ md_fault w' = md_fault w ∧ md_faultPlace w' = md_faultPlace w ∧ md_odds w' = md_odds w ∧ md_isKnown w' = md_isKnown w ∧ md_costs w' = md_costs w
theorem EqG.tr {a b c : MW} (h1 : EqG a b) (h2 : EqG b c) : EqG a c := by
  obtain ⟨a1, a2, a3, a4, ⟨a5, a6, a7, a8, a9⟩, a10, a11, a12, a13, a14⟩ := h1
  obtain ⟨b1, b2, b3, b4, ⟨b5, b6, b7, b8, b9⟩, b10, b11, b12, b13, b14⟩ := h2
  exact ⟨b1.trans a1, b2.trans a2, b3.trans a3, b4.trans a4, ⟨b5.trans a5, b6.trans a6, b7.trans a7, b8.trans a8, b9.trans a9⟩, b10.trans a10, b11.trans a11, b12.trans a12, b13.trans a13, b14.trans a14⟩
theorem tpm_f (w : MW) (v s : Int32) : EqG w (tpm w v s) := by
  unfold tpm
  refine ⟨?_, ?_, ?_, ?_, ⟨?_, ?_, ?_, ?_, ?_⟩, ?_, ?_, ?_, ?_, ?_⟩ <;> simp only [gs_md_tape, gs_md_taped]
theorem tpm_t {w : MW} {P : Nat → Nat} {t : Nat} (h : TapM w P t) (ht : t < 400) (v : Int32) {s : Nat} (hs : s = 24 ∨ s = 16 ∨ s = 8 ∨ s = 0) : TapM (tpm w v (nI s)) (un P t (bN v s)) (t + 1) := by
  refine ⟨tpm_s h.1, fun i hi => ?_⟩
  unfold tpm
  simp only [gs_md_tape, gs_md_taped]
  rw [h.1, nI_clamp (by omega)]
  by_cases e : i = t
  · subst e; rw [pk_us, un_s, nar_and2, sh_and v hs]; exact (bN_e v s).1
  · rw [pk_un e, un_n e]; exact h.2 i (by omega)
theorem tpm4_t {w : MW} {P : Nat → Nat} {t : Nat} (h : TapM w P t) (ht : t + 4 ≤ 400) (v : Int32) : TapM (tpm4 w v) (fP P t v) (t + 4) :=
  tpm_t (s := 0) (tpm_t (s := 8) (tpm_t (s := 16) (tpm_t (s := 24) h (by omega) v (by decide)) (by omega) v (by decide)) (by omega) v (by decide)) (by omega) v (by decide)
theorem tpm4_f (w : MW) (v : Int32) : EqG w (tpm4 w v) := (((tpm_f _ _ _).tr (tpm_f _ _ _)).tr (tpm_f _ _ _)).tr (tpm_f _ _ _)
theorem tpm20_t {w : MW} {P : Nat → Nat} {t : Nat} (h : TapM w P t) (ht : t + 20 ≤ 400) (a b c d e : Int32) : TapM (tpm20 w a b c d e) (fP5 P t a b c d e) (t + 20) :=
  tpm4_t (tpm4_t (tpm4_t (tpm4_t (tpm4_t h (by omega) a) (by omega) b) (by omega) c) (by omega) d) (by omega) e
theorem tpm20_f (w : MW) (a b c d e : Int32) : EqG w (tpm20 w a b c d e) := ((((tpm4_f _ _).tr (tpm4_f _ _)).tr (tpm4_f _ _)).tr (tpm4_f _ _)).tr (tpm4_f _ _)
/-- another tape, another MAKE used: the text as it was -/
theorem IX.mv {S S' : Sx} {w w' : XW} (h : IX S w) (hB : BaX S' w') (e1 : S'.1 = S.1) (e2 : rd_cutBy w' = rd_cutBy w) (e3 : w'.2 = w.2) : IX S' w' := by
  obtain ⟨A, B⟩ := S
  obtain ⟨A', B'⟩ := S'
  have e1 : A' = A := e1
  subst e1
  refine ⟨hB, ?_⟩
  rcases h.2 with q | ⟨j, hj, a⟩
  · exact Or.inl (e2.trans q)
  · refine Or.inr ⟨j, hj, hB, e2.trans a.2.1, a.2.2.1.of (by rw [e3]), ?_⟩
    intro col hc
    have ef : cs_formOf w' = cs_formOf w := by unfold cs_formOf; rw [e3]
    have eg : cs_codeOf w' = cs_codeOf w := by unfold cs_codeOf; rw [e3]
    have eh : cs_priceOf w' = cs_priceOf w := by unfold cs_priceOf; rw [e3]
    have ei : cs_fitting w' = cs_fitting w := by unfold cs_fitting; rw [e3]
    have ej : cs_cheapest w' = cs_cheapest w := by unfold cs_cheapest; rw [e3]
    rcases a.2.2.2 col hc with y | y
    · exact Or.inl (by rw [ef]; exact y)
    · exact Or.inr (Chosen.of (w := w) y (by rw [ef]) (by rw [eg]) (by rw [eh]) (by rw [ei]) (by rw [ej]))
theorem PrX.mv {S S' : Sx} {w w' : XW} (h : PrX S w) (e1 : S'.1 = S.1) (e2 : rd_prices w' = rd_prices w) : PrX S' w' := by
  obtain ⟨A, B⟩ := S
  obtain ⟨A', B'⟩ := S'
  have e1 : A' = A := e1
  subst e1
  intro j hj
  rw [e2]
  exact h j hj
theorem IM.mv {S S' : Sx} {w w' : MW} (h : IM S w) (hB : BaM S' w') (e1 : S'.1 = S.1) (e : EqG w w' ∨ (md_loaded w' = md_loaded w ∧ (md_rows w' = md_rows w ∧ md_rowFrom w' = md_rowFrom w ∧ md_cellFrom w' = md_cellFrom w ∧ md_cellSize w' = md_cellSize w ∧ md_bytes w' = md_bytes w) ∧ md_fault w' = md_fault w ∧ md_faultPlace w' = md_faultPlace w ∧ md_odds w' = md_odds w)) : IM S' w' := by
  have e : md_loaded w' = md_loaded w ∧ (md_rows w' = md_rows w ∧ md_rowFrom w' = md_rowFrom w ∧ md_cellFrom w' = md_cellFrom w ∧ md_cellSize w' = md_cellSize w ∧ md_bytes w' = md_bytes w) ∧ md_fault w' = md_fault w ∧ md_faultPlace w' = md_faultPlace w ∧ md_odds w' = md_odds w := by
    rcases e with q | q
    · exact ⟨q.2.2.2.1, q.2.2.2.2.1, q.2.2.2.2.2.1, q.2.2.2.2.2.2.1, q.2.2.2.2.2.2.2.1⟩
    · exact q
  obtain ⟨A, B⟩ := S
  obtain ⟨A', B'⟩ := S'
  have e1 : A' = A := e1
  subst e1
  refine ⟨hB, ?_⟩
  rcases h.2 with q | ⟨j, hj, a⟩
  · exact Or.inl (e.1.trans q)
  · refine Or.inr ⟨j, hj, hB, e.1.trans a.2.1, ?_, e.2.2.1.trans a.2.2.2.1, e.2.2.2.1.trans a.2.2.2.2.1, e.2.2.2.2.trans a.2.2.2.2.2⟩
    unfold RepM
    rw [e.2.1.1, e.2.1.2.1, e.2.1.2.2.1, e.2.1.2.2.2.1, e.2.1.2.2.2.2]
    exact a.2.2.1
theorem KnM.mv {S S' : Sx} {w w' : MW} (h : KnM S w) (e1 : S'.1 = S.1) (e : KnE w w') : KnM S' w' := by
  obtain ⟨A, B⟩ := S
  obtain ⟨A', B'⟩ := S'
  have e1 : A' = A := e1
  subst e1
  intro j hj
  rw [e.1, e.2]
  exact h j hj
/-- both objects say the same -/
def RR (x : XW) (m : MW) : Prop := ∃ S, SOK S ∧ (IX S x ∧ PrX S x) ∧ IM S m ∧ KnM S m
def S0 : Sx := (((fun _ => 0), 0), ((fun _ => 0), 0), 0)
theorem RR_0 : RR xw0 mw0 := by
  refine ⟨S0, ⟨⟨by decide, fun i hi => absurd hi (Nat.not_lt_zero i)⟩, by decide, fun i hi => absurd hi (Nat.not_lt_zero i), by decide⟩, ⟨⟨⟨rfl, rfl, rfl, fun i hi => absurd hi (Nat.not_lt_zero i), fun i hi => absurd hi (Nat.not_lt_zero i)⟩, Or.inl rfl⟩, fun j hj => Or.inl (if_pos hj)⟩, ⟨⟨rfl, rfl, rfl, fun i hi => absurd hi (Nat.not_lt_zero i), fun i hi => absurd hi (Nat.not_lt_zero i)⟩, Or.inl rfl⟩, fun j hj => Or.inl rfl⟩
/-- what the reference's call comes to, once the class' has come to r -/
def Tk (P : (Int32 → MW → Prop) → Prop) (x : XW) (r : Int32) : Prop := ∀ K : Int32 → MW → Prop, (∀ m, RR x m → K r m) → P K
def Ta (P : (Int32 → MW → Prop) → Prop) (x : XW) : Prop := ∀ K : Int32 → MW → Prop, (∀ r m, RR x m → K r m) → P K
theorem Tk.a {P : (Int32 → MW → Prop) → Prop} {x : XW} {r : Int32} (h : Tk P x r) : Ta P x := fun K hk => h K (fun m q => hk r m q)
theorem L_feed {x : XW} {m : MW} {K : Int32 → XW → Prop} {a b c d e : Int32} (hR : RR x m) (hk : ∀ r x', Tk (fun K2 => P_X4_feed K2 m a b c d e) x' r → K r x') : P_X3_feed K x a b c d e := by
  obtain ⟨S, hS, ⟨hx, hp⟩, hm, hn⟩ := hR
  have t4 := hS.2.1
  rcases Nat.lt_or_ge 380 (sK S) with z | z
  · exact x_feed_n hx.1.2.1 z t4 (hk _ x (fun K2 h2 => m_feed_n hm.1.2.1 z t4 (h2 m ⟨S, hS, ⟨hx, hp⟩, hm, hn⟩)))
  · refine x_feed hx.1.2.1 z (hk _ _ (fun K2 h2 => m_feed hm.1.2.1 z (h2 _ ?_)))
    have tx := tpw20_t (w := x) (P := sP S) (t := sK S) ⟨hx.1.2.1, hx.1.2.2.2.2⟩ (by omega) a b c d e
    have fx := tpw20_f x a b c d e
    have tm := tpm20_t (w := m) (P := sP S) (t := sK S) ⟨hm.1.2.1, hm.1.2.2.2.2⟩ (by omega) a b c d e
    have fm := tpm20_f m a b c d e
    refine ⟨(S.1, (fP5 (sP S) (sK S) a b c d e, sK S + 20), S.2.2), ⟨hS.1, by show sK S + 20 ≤ 400; omega, fP5_lt hS.2.2.1 a b c d e, hS.2.2.2⟩, ⟨hx.mv ?_ rfl fx.2.2.2.1 fx.2.2.2.2.2, hp.mv rfl fx.2.2.2.2.1⟩, hm.mv ?_ rfl (Or.inl fm), hn.mv rfl ⟨fm.2.2.2.2.2.2.2.2.1, fm.2.2.2.2.2.2.2.2.2⟩⟩
    · exact ⟨fx.2.1.trans hx.1.1, tx.1, fx.2.2.1.trans hx.1.2.2.1, fun i hi => by rw [fx.1]; exact hx.1.2.2.2.1 i hi, tx.2⟩
    · exact ⟨fm.2.1.trans hm.1.1, tm.1, fm.2.2.1.trans hm.1.2.2.1, fun i hi => by rw [fm.1]; exact hm.1.2.2.2.1 i hi, tm.2⟩
theorem L_add {x : XW} {m : MW} {K : Int32 → XW → Prop} {v : Int32} (hR : RR x m) (hk : ∀ r x', Tk (fun K2 => P_X4_add K2 m v) x' r → K r x') : P_X3_add K x v := by
  obtain ⟨S, hS, ⟨hx, hp⟩, hm, hn⟩ := hR
  have t4 := hS.2.1
  have n12 := hS.1.1
  have same : RR x m := ⟨S, hS, ⟨hx, hp⟩, hm, hn⟩
  rcases add_case v (sK S) t4 with ⟨k, hk0, rfl⟩ | ⟨g1, g2⟩
  · rcases Nat.lt_or_ge 1200 (sN S + k) with z | z
    · exact x_add_big hx.1.2.1 t4 hx.1.1 n12 hk0 z (hk _ x (fun K2 h2 => m_add_big hm.1.2.1 t4 hm.1.1 n12 hk0 z (h2 m same)))
    · refine x_add_ok hx.1.2.1 t4 hx.1.1 hk0 z (fun x' a1 a2 a3 a4 a5 a6 a7 a8 => hk _ x' (fun K2 h2 => m_add_ok hm.1.2.1 t4 hm.1.1 hk0 z (fun m' b1 b2 b3 b4 b5 b6 b7 => h2 m' ?_)))
      refine ⟨(((fun i => if sN S ≤ i ∧ i < sN S + k then sP S (i - sN S) else sT S i), sN S + k), (sP S, 0), sU S), ⟨⟨z, fun i hi => ?_⟩, Nat.zero_le _, fun i hi => absurd hi (Nat.not_lt_zero i), hS.2.2.2⟩, ⟨⟨⟨a3, a4, a5.trans hx.1.2.2.1, fun i hi => ?_, fun i hi => absurd hi (Nat.not_lt_zero i)⟩, Or.inl a6⟩, fun j hj => Or.inl (a7 j hj)⟩, ⟨⟨b3, b4, b5.trans hm.1.2.2.1, fun i hi => ?_, fun i hi => absurd hi (Nat.not_lt_zero i)⟩, Or.inl b6⟩, fun j hj => Or.inl (b7 j hj)⟩
      · have hi : i < sN S + k := hi
        show (if sN S ≤ i ∧ i < sN S + k then sP S (i - sN S) else sT S i) < 256
        by_cases q : sN S ≤ i
        · rw [if_pos ⟨q, hi⟩]; exact hS.2.2.1 _ (by omega)
        · rw [if_neg (fun y => q y.1)]; exact hS.1.2 i (by omega)
      · have hi : i < sN S + k := hi
        show rd_text x' i = nI (if sN S ≤ i ∧ i < sN S + k then sP S (i - sN S) else sT S i)
        rw [a1]
        by_cases q : sN S ≤ i
        · rw [if_pos ⟨q, hi⟩, pk_cpy_in q hi, Nat.zero_add]; exact hx.1.2.2.2.2 _ (by omega)
        · rw [if_neg (fun y => q y.1), pk_cpy_out (Or.inl (by omega))]; exact hx.1.2.2.2.1 i (by omega)
      · have hi : i < sN S + k := hi
        show md_text m' i &&& 255 = nI (if sN S ≤ i ∧ i < sN S + k then sP S (i - sN S) else sT S i)
        rw [b1 i]
        by_cases q : sN S ≤ i
        · rw [if_pos ⟨q, hi⟩, if_pos ⟨q, hi⟩, nar_and]; exact hm.1.2.2.2.2 _ (by omega)
        · rw [if_neg (fun y => q y.1), if_neg (fun y => q y.1)]; exact hm.1.2.2.2.1 i (by omega)
  · exact x_add_lo (by rw [hx.1.2.1]; exact g2) (hk _ x (fun K2 h2 => m_add_lo hm.1.2.1 t4 g1 (h2 m same)))
theorem L_clear {x : XW} {m : MW} {K : XW → Prop} (hR : RR x m) (hk : ∀ x', (∀ K2 : MW → Prop, (∀ m', RR x' m' → K2 m') → P_X4_clear K2 m) → K x') : P_X3_clear K x := by
  obtain ⟨S, hS, ⟨hx, hp⟩, hm, hn⟩ := hR
  refine x_clear (fun x' a1 a2 a3 a4 a5 a6 a7 a8 => hk x' (fun K2 h2 => m_clear (fun m' b1 b2 b3 b4 b5 b6 b7 => h2 m' ?_)))
  refine ⟨((sT S, 0), S.2.1, 0), ⟨⟨Nat.zero_le _, fun i hi => absurd hi (Nat.not_lt_zero i)⟩, hS.2.1, hS.2.2.1, by show 0 < 24; decide⟩, ⟨⟨⟨a3, a4.trans hx.1.2.1, a5, fun i hi => absurd hi (Nat.not_lt_zero i), fun i hi => by rw [a2]; exact hx.1.2.2.2.2 i hi⟩, Or.inl a6⟩, fun j hj => Or.inl (a7 j hj)⟩, ⟨⟨b3, b4.trans hm.1.2.1, b5, fun i hi => absurd hi (Nat.not_lt_zero i), fun i hi => by rw [b2]; exact hm.1.2.2.2.2 i hi⟩, Or.inl b6⟩, fun j hj => Or.inl (b7 j hj)⟩
theorem L_use {x : XW} {m : MW} {K : Int32 → XW → Prop} {v : Int32} (hR : RR x m) (hk : ∀ r x', Tk (fun K2 => P_X4_use K2 m v) x' r → K r x') : P_X3_use K x v := by
  obtain ⟨S, hS, ⟨hx, hp⟩, hm, hn⟩ := hR
  unfold P_X3_use
  refine x_isMake (fun j hj e => ⟨fun _ => hk _ _ (fun K2 h2 => ?_), fun z => absurd z (by decide)⟩) (fun z => ⟨fun y => absurd rfl y, fun _ => hk _ x (fun K2 h2 => ?_)⟩)
  · unfold P_X4_use
    refine m_isMake (fun i hi ei => ⟨fun _ => h2 _ ?_, fun z => absurd z (by decide)⟩) (fun z => absurd (show 0 ≤ v.toInt ∧ v.toInt < 24 by rw [e, nI_toInt (by omega)]; omega) z)
    subst e
    refine ⟨(S.1, S.2.1, j), ⟨hS.1, hS.2.1, hS.2.2.1, hj⟩, ⟨hx.mv ?_ rfl ?_ rfl, hp.mv rfl ?_⟩, hm.mv ?_ rfl (Or.inr ?_), hn.mv rfl ⟨?_, ?_⟩⟩
    · refine ⟨?_, ?_, ?_, fun i hi => ?_, fun i hi => ?_⟩
      · simp only [gs_rd_used]; exact hx.1.1
      · simp only [gs_rd_used]; exact hx.1.2.1
      · simp only [gs_rd_used]; rfl
      · simp only [gs_rd_used]; exact hx.1.2.2.2.1 i hi
      · simp only [gs_rd_used]; exact hx.1.2.2.2.2 i hi
    · simp only [gs_rd_used]
    · simp only [gs_rd_used]
    · refine ⟨?_, ?_, ?_, fun i hi => ?_, fun i hi => ?_⟩
      · simp only [gs_md_used]; exact hm.1.1
      · simp only [gs_md_used]; exact hm.1.2.1
      · simp only [gs_md_used]; rfl
      · simp only [gs_md_used]; exact hm.1.2.2.2.1 i hi
      · simp only [gs_md_used]; exact hm.1.2.2.2.2 i hi
    · refine ⟨?_, ⟨?_, ?_, ?_, ?_, ?_⟩, ?_, ?_, ?_⟩ <;> simp only [gs_md_used]
    · simp only [gs_md_used]
    · simp only [gs_md_used]
  · unfold P_X4_use
    refine m_isMake (fun i hi ei => absurd (show 0 ≤ v.toInt ∧ v.toInt < 24 by rw [ei, nI_toInt (by omega)]; omega) z) (fun z => ⟨fun y => absurd rfl y, fun _ => h2 m ⟨S, hS, ⟨hx, hp⟩, hm, hn⟩⟩)
