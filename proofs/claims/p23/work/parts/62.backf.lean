/-! what the reference writes back is the cell -/
def OuF (w0 : MW) (f : Nat → Nat) (o : Nat) (u : MW) : Prop := OuM w0 o u ∧ ∀ i, i < o → md_out u i &&& 255 = nI (f i)
theorem m_writeF {w0 u : MW} {K : MW → Prop} {f : Nat → Nat} {o : Nat} {v : Int32} (h : OuF w0 f o u) (ho : o < 20) (hv : v &&& 255 = nI (f o)) (hk : ∀ u', OuF w0 f (o + 1) u' → K u') : P_X4_write K u v := by
  obtain ⟨⟨h1, h2, h3, h4, h5⟩, h6⟩ := h
  unfold P_X4_write
  rw [h5, nI_clamp (by omega)]
  refine ⟨vp_in_nI ho (by decide), hk _ ⟨⟨h1.tr ?_, ?_, ?_, ?_, ?_⟩, fun i hi => ?_⟩⟩
  · refine ⟨⟨?_, ?_, ?_, ?_, ?_⟩, ?_, ⟨?_, ?_, ?_, ?_, ?_⟩, ?_, ?_, ?_, ?_, ?_⟩ <;> simp only [gs_md_out, gs_md_outs]
  · simp only [gs_md_out, gs_md_outs]; exact h2
  · simp only [gs_md_out, gs_md_outs]; exact h3
  · simp only [gs_md_out, gs_md_outs]; exact h4
  · simp only [gs_md_out, gs_md_outs]; rw [h5, nI_1]
  · simp only [gs_md_out, gs_md_outs]
    by_cases e : i = o
    · subst e; rw [pk_us, nar_and2]; exact hv
    · rw [pk_un e]; exact h6 i (by omega)
theorem sx_lt : ∀ k, k < 32 → ∀ i, i < 5 → sx_ch k i &&& 255 = sx_ch k i := by decide +kernel
theorem m_writeWordF {w0 u : MW} {K : MW → Prop} {f : Nat → Nat} {n j : Nat} (h : OuF w0 f 0 u) (hj : j < 32) (hw : isW n f j = true) (hk : ∀ u', OuF w0 f n u' → K u') : P_X4_writeWord K u j := by
  have hl := sx_len5 j hj
  have hs := sx_small j hj
  have hw := of_decide_eq_true hw
  have L : ∀ d k v, k + d = n → OuF w0 f k v → P_X4_writeWord_2 K j (d + 1) v (nI k) := by
    intro d
    induction d with
    | zero =>
      intro k v ek hv
      have : k = n := by omega
      subst this
      refine ⟨hj, fun _ => hk v hv, fun z => absurd (by rw [← hw.1]; exact Int32.le_refl _) z⟩
    | succ d ih =>
      intro k v ek hv
      refine ⟨hj, fun z => absurd z (nI_ge (by omega) (by omega)), fun _ => ⟨hj, vp_in_nI (by omega) hs, ?_⟩⟩
      rw [nI_clamp (by omega)]
      refine m_writeF hv (by omega) ?_ (fun u' hu' => ?_)
      · rw [sx_lt j hj k (by omega)]; exact (hw.2 k (by omega)).symm
      · rw [nI_1]; exact ih (k + 1) u' (by omega) hu'
  exact ⟨_, L n 0 u (by omega) h⟩
theorem dig_l {a i : Nat} (ha : a < 2 ^ 62) (hi : i ≤ 12) : Int64.toInt32 ((48 : Int64) + ((lN a / lN (10 ^ i)) - (lN a / lN (10 ^ i)) / (10 : Int64) * (10 : Int64))) = nI (48 + a / 10 ^ i % 10) := by
  have h1 : (10 : Nat) ^ i ≤ 10 ^ 12 := Nat.pow_le_pow_right (by decide) hi
  have h2 : (10 : Nat) ^ 12 < 2 ^ 63 := by decide
  have h3 : 0 < 10 ^ i := Nat.pow_pos (by decide)
  have h4 : a / 10 ^ i ≤ a := Nat.div_le_self _ _
  rw [pk_lDiv (by omega) h3 (by omega), show lN (a / 10 ^ i) - lN (a / 10 ^ i) / (10 : Int64) * (10 : Int64) = lN (a / 10 ^ i % 10) from pk_lRem (b := 10) (by omega) (by decide) (by decide), show (48 : Int64) = lN 48 from rfl, lN_add, lN_i]
theorem m_writeWholeF {w0 u : MW} {K : MW → Prop} {f : Nat → Nat} {o n a : Nat} (h : OuF w0 f o u) (hn : n ≤ 4) (hn1 : 1 ≤ n) (ho : o + n ≤ 20) (ha : a < 10000) (hv : numV f o n = some a) (hk : ∀ u', OuF w0 f (o + n) u' → K u') : P_X4_writeWhole K u (nI a) (nI n) := by
  have dv : ∀ n a, numV f o n = some a → ∀ i, i < n → f (o + i) = 48 + a / 10 ^ (n - 1 - i) % 10 ∧ f (o + i) < 58 := by
    intro n
    induction n with
    | zero => intro a _ i hi; exact absurd hi (Nat.not_lt_zero i)
    | succ n ih =>
      intro a ha i hi
      have ha : (match numV f o n with
        | some v => if 48 ≤ f (o + n) ∧ f (o + n) ≤ 57 then some (v * 10 + (f (o + n) - 48)) else none
        | none => none) = some a := ha
      cases q : numV f o n with
      | none => rw [q] at ha; cases ha
      | some v =>
        rw [q] at ha
        dsimp only at ha
        by_cases z : 48 ≤ f (o + n) ∧ f (o + n) ≤ 57
        · rw [if_pos z] at ha
          have ha := Option.some.inj ha
          rcases Nat.lt_or_ge i n with r | r
          · have i1 := ih v q i r
            refine ⟨?_, i1.2⟩
            rw [i1.1, show n + 1 - 1 - i = (n - 1 - i) + 1 by omega, Nat.pow_succ, Nat.mul_comm, ← Nat.div_div_eq_div_mul]
            rw [show a / 10 = v by omega]
          · have : i = n := by omega
            subst this
            rw [show i + 1 - 1 - i = 0 by omega, Nat.pow_zero, Nat.div_one]
            omega
        · rw [if_neg z] at ha; cases ha
  have dn := dv n a hv
  have L : ∀ i x, i ≤ n → OuF w0 f (o + (n - i)) x → P_X4_writeWhole_4 K (nI a) (i + 1) x (nI i + (-1 : Int32)) := by
    intro i
    induction i with
    | zero =>
      intro x hi hx
      exact ⟨fun _ => hk x hx, fun z => absurd (by decide) z⟩
    | succ i ih =>
      intro x hi hx
      rw [pk_m1]
      refine ⟨fun z => absurd z (nI_pos (by omega)), fun _ => m_tens (by omega) ⟨ten_ne (by omega), m_writeF hx (by omega) ?_ (fun u' hu' => ih u' (by omega) ?_)⟩⟩
      · have q := dn (n - (i + 1)) (by omega)
        rw [show n - 1 - (n - (i + 1)) = i by omega] at q
        rw [nI_l (by omega), dig_l (by omega) (by omega), ← q.1, n_and _ (by omega)]
      · rw [show o + (n - i) = o + (n - (i + 1)) + 1 by omega]
        exact hu'
  refine ⟨n + 1, ?_⟩
  have := L n u (Nat.le_refl _) (by rw [Nat.sub_self]; exact h)
  rw [show nI n - (1 : Int32) = nI n + (-1 : Int32) from Int32.sub_eq_add_neg _ _]
  exact this
theorem dayE_p {y m d : Option Nat} {v : Nat} (hm : ∀ v, m = some v → v < 100) (hd : ∀ v, d = some v → v < 100) (h : dayE y m d = some v) : ∃ a b c, y = some a ∧ m = some b ∧ d = some c ∧ v / 10000 = a ∧ v / 100 % 100 = b ∧ v % 100 = c ∧ v < 2 ^ 31 ∧ a < 10000 ∧ b < 100 ∧ c < 100 := by
  cases y with
  | none => cases d <;> cases h
  | some yv =>
    cases d with
    | none => cases h
    | some dv =>
      unfold dayE at h
      dsimp only at h
      by_cases z : (1600 ≤ yv ∧ yv ≤ 2999) ∧ 1 ≤ dv ∧ dv ≤ daysO yv m
      · rw [if_pos z] at h
        have h := Option.some.inj h
        cases m with
        | none =>
          have : dv ≤ 0 := z.2.2
          have := z.2.1
          omega
        | some mv =>
          have h1 := hm mv rfl
          have h2 := hd dv rfl
          have h : yv * 10000 + mv * 100 + dv = v := h
          exact ⟨yv, mv, dv, rfl, rfl, rfl, by omega, by omega, by omega, by omega, by omega, h1, h2⟩
      · rw [if_neg z] at h; cases h
theorem m_writeDayF {w0 u : MW} {K : MW → Prop} {g : Nat → Nat} {f v n : Nat} (h : OuF w0 g 0 u) (hf : md_bestForm w0 = nI f) (h1 : 22 ≤ f) (h2 : f ≤ 30) (hv : md_value w0 = lN v) (hday : dayV f n g = some v) (hk : ∀ u', OuF w0 g n u' → K u') : P_X4_writeDay K u := by
  have n10 : n = 10 := by
    unfold dayV at hday
    by_cases q : n = 10
    · exact q
    · rw [if_neg q] at hday; cases hday
  subst n10
  unfold dayV at hday
  rw [if_pos rfl] at hday
  have bl := btN_lt f
  have nl : ∀ k v, numV g k 2 = some v → v < 100 := fun k v e => numV_lt e
  have bt : ∀ {K2 : Int32 → Prop} {x : MW} {o : Nat}, OuF w0 g o x → K2 (nI (btN f)) → P_X4_betweenOf K2 (md_bestForm x) := fun hx hk2 => by
    rw [hx.1.2.1, hf]
    exact m_between h1 h2 hk2
  -- the pieces
  have pieces : ∀ p1 p2 py pm pd, dayG g (btN f) p1 p2 py pm pd = some v → g p1 = btN f ∧ g p2 = btN f ∧ ∃ a b c, numV g py 4 = some a ∧ numV g pm 2 = some b ∧ numV g pd 2 = some c ∧ v / 10000 = a ∧ v / 100 % 100 = b ∧ v % 100 = c ∧ v < 2 ^ 31 ∧ a < 10000 ∧ b < 100 ∧ c < 100 := by
    intro p1 p2 py pm pd hg
    unfold dayG at hg
    by_cases q : g p1 = btN f ∧ g p2 = btN f
    · rw [if_pos q] at hg
      exact ⟨q.1, q.2, dayE_p (nl pm) (nl pd) hg⟩
    · rw [if_neg q] at hg; cases hg
  have bw : ∀ o, g o = btN f → nI (btN f) &&& 255 = nI (g o) := fun o e => by rw [e]; exact n_and _ bl
  have ey : ∀ a, v < 2 ^ 31 → v / 10000 = a → Int64.toInt32 (lN v / (10000 : Int64)) = nI a := fun a hl e => by
    rw [show lN v / (10000 : Int64) = lN (v / 10000) from pk_lDiv (b := 10000) (by omega) (by decide) (by decide), lN_i, e]
  have em : ∀ a, v < 2 ^ 31 → v / 100 % 100 = a → Int64.toInt32 ((lN v / (100 : Int64)) - (lN v / (100 : Int64)) / (100 : Int64) * (100 : Int64)) = nI a := fun a hl e => by
    rw [show lN v / (100 : Int64) = lN (v / 100) from pk_lDiv (b := 100) (by omega) (by decide) (by decide), show lN (v / 100) - lN (v / 100) / (100 : Int64) * (100 : Int64) = lN (v / 100 % 100) from pk_lRem (b := 100) (by omega) (by decide) (by decide), lN_i, e]
  have ed : ∀ a, v < 2 ^ 31 → v % 100 = a → Int64.toInt32 (lN v - lN v / (100 : Int64) * (100 : Int64)) = nI a := fun a hl e => by
    rw [show lN v - lN v / (100 : Int64) * (100 : Int64) = lN (v % 100) from pk_lRem (b := 100) (by omega) (by decide) (by decide), lN_i, e]
  unfold P_X4_writeDay
  rw [h.1.2.1, h.1.2.2.2.1, hf, hv, show nI f - (22 : Int32) = nI (f - 22) from pk_sub (b := 22) h1, show nI (f - 22) / (3 : Int32) = nI ((f - 22) / 3) from pk_div (d := 3) (by omega) (by decide) (by decide)]
  rcases (show (f - 22) / 3 = 0 ∨ (f - 22) / 3 = 1 ∨ (f - 22) / 3 = 2 by omega) with o | o | o
  · rw [if_pos o] at hday
    obtain ⟨b1, b2, a, b, c, n1, n2, n3, v1, v2, v3, vl, al, bl2, cl⟩ := pieces _ _ _ _ _ hday
    rw [o, ey a vl v1, em b vl v2, ed c vl v3]
    refine ⟨fun _ => ⟨fun z => absurd rfl z, fun _ => ?_⟩, fun z => absurd z (by decide)⟩
    unfold P_X4_writeDay_70 P_X4_writeDay_74 P_X4_writeDay_97
    refine m_writeWholeF (n := 2) h (by decide) (by decide) (by decide) (by omega) n3 (fun u1 g1 => bt g1 (m_writeF g1 (by decide) (bw 2 b1) (fun u2 g2 => ⟨fun _ => ?_, fun z => absurd z (by decide)⟩)))
    refine m_writeWholeF (n := 2) g2 (by decide) (by decide) (by decide) (by omega) n2 (fun u3 g3 => bt g3 (m_writeF g3 (by decide) (bw 5 b2) (fun u4 g4 => ⟨fun _ => ?_, fun z => absurd z (by decide)⟩)))
    exact m_writeWholeF (n := 4) g4 (by decide) (by decide) (by decide) al n1 hk
  · rw [if_neg (by omega), if_pos o] at hday
    obtain ⟨b1, b2, a, b, c, n1, n2, n3, v1, v2, v3, vl, al, bl2, cl⟩ := pieces _ _ _ _ _ hday
    rw [o, ey a vl v1, em b vl v2, ed c vl v3]
    refine ⟨fun _ => ⟨fun _ => ?_, fun z => absurd z (by decide)⟩, fun z => absurd z (by decide)⟩
    unfold P_X4_writeDay_70 P_X4_writeDay_74 P_X4_writeDay_97
    refine m_writeWholeF (n := 2) h (by decide) (by decide) (by decide) (by omega) n2 (fun u1 g1 => bt g1 (m_writeF g1 (by decide) (bw 2 b1) (fun u2 g2 => ⟨fun z => absurd rfl z, fun _ => ?_⟩)))
    refine m_writeWholeF (n := 2) g2 (by decide) (by decide) (by decide) (by omega) n3 (fun u3 g3 => bt g3 (m_writeF g3 (by decide) (bw 5 b2) (fun u4 g4 => ⟨fun _ => ?_, fun z => absurd z (by decide)⟩)))
    exact m_writeWholeF (n := 4) g4 (by decide) (by decide) (by decide) al n1 hk
  · rw [if_neg (by omega), if_neg (by omega)] at hday
    obtain ⟨b1, b2, a, b, c, n1, n2, n3, v1, v2, v3, vl, al, bl2, cl⟩ := pieces _ _ _ _ _ hday
    rw [o, ey a vl v1, em b vl v2, ed c vl v3]
    refine ⟨fun z => absurd rfl z, fun _ => ?_⟩
    unfold P_X4_writeDay_74 P_X4_writeDay_97
    refine m_writeWholeF (n := 4) h (by decide) (by decide) (by decide) al n1 (fun u1 g1 => bt g1 (m_writeF g1 (by decide) (bw 4 b1) (fun u2 g2 => ⟨fun _ => ?_, fun z => absurd z (by decide)⟩)))
    refine m_writeWholeF (n := 2) g2 (by decide) (by decide) (by decide) (by omega) n2 (fun u3 g3 => bt g3 (m_writeF g3 (by decide) (bw 7 b2) (fun u4 g4 => ⟨fun z => absurd rfl z, fun _ => ?_⟩)))
    exact m_writeWholeF (n := 2) g4 (by decide) (by decide) (by decide) (by omega) n3 hk
