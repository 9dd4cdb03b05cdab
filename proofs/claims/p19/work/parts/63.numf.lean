theorem ptN_ne (form : Nat) : ¬ nI (ptN form) = m1 := by
  unfold ptN
  split
  · decide
  · split <;> decide
theorem ptN_lt (form : Nat) : ptN form < 256 := by unfold ptN; split; decide; split <;> decide
theorem dWN_mono (th : Int32) {a b : Nat} (h : a ≤ b) : dWN th a ≤ dWN th b := by
  unfold dWN
  split <;> omega
theorem m_writeNumberF {w0 u : MW} {K : MW → Prop} {g : Nat → Nat} {fm n : Nat} {s : Nat × Nat × Bool} (h : OuF w0 g 0 u) (hg : ∀ i, i < n → g i < 256) (hf : md_bestForm w0 = nI fm) (h7 : 7 ≤ fm) (h21 : fm ≤ 21) (hv : md_value w0 = sgL s.1 s.2.2) (hs : numR fm n g = some s) (hk : ∀ u', OuF w0 g n u' → K u') : P_X4_writeNumber K u := by
  have sd := numR_dg hs
  have hn0 := numR_ng hs
  have hdc := decN_le h21
  have p9 : (10 : Nat) ^ 9 < 2 ^ 62 := by decide
  -- what the parts of the cell are
  obtain ⟨e, b, he, hb1, hb0, hbe, hz, hrun, hng⟩ : ∃ e b, ((decN fm = 0 ∧ e = n) ∨ (0 < decN fm ∧ e + decN fm + 1 = n)) ∧ b ≤ 1 ∧ (b = 1 → g 0 = 45) ∧ b < e ∧ ¬ (1 < e - b ∧ g b = 48) ∧ nRun g e b (ptN fm) (thN fm) (n - b) b (0, 0) = some (s.1, s.2.1) ∧ s.2.2 = decide (b = 1) := by
    unfold numR at hs
    by_cases c1 : 0 < decN fm ∧ n < decN fm + 1
    · rw [if_pos c1] at hs; cases hs
    rw [if_neg c1] at hs
    refine ⟨if 0 < decN fm then n - decN fm - 1 else n, if 0 < n ∧ g 0 = 45 then 1 else 0, ?_, ?_⟩
    · by_cases c2 : 0 < decN fm
      · rw [if_pos c2]; exact Or.inr ⟨c2, by omega⟩
      · rw [if_neg c2]; exact Or.inl ⟨by omega, rfl⟩
    · generalize (if 0 < decN fm then n - decN fm - 1 else n) = e at *
      by_cases c2 : 0 < n ∧ g 0 = 45
      · rw [if_pos c2] at hs ⊢
        refine ⟨by decide, fun _ => c2.2, ?_⟩
        unfold numE at hs
        by_cases c3 : e ≤ 1
        · rw [if_pos c3] at hs; cases hs
        rw [if_neg c3] at hs
        by_cases c4 : 1 < e - 1 ∧ g 1 = 48
        · rw [if_pos c4] at hs; cases hs
        rw [if_neg c4] at hs
        refine ⟨by omega, c4, ?_⟩
        cases q : nRun g e 1 (ptN fm) (thN fm) (n - 1) 1 (0, 0) with
        | none => rw [q] at hs; cases hs
        | some t =>
          rw [q] at hs
          dsimp only at hs
          by_cases c5 : 1 = 1 ∧ t.1 = 0
          · rw [if_pos c5] at hs; cases hs
          · rw [if_neg c5] at hs
            have hs := Option.some.inj hs
            subst hs
            exact ⟨rfl, rfl⟩
      · rw [if_neg c2] at hs ⊢
        refine ⟨by decide, fun x => absurd x (by decide), ?_⟩
        unfold numE at hs
        by_cases c3 : e ≤ 0
        · rw [if_pos c3] at hs; cases hs
        rw [if_neg c3] at hs
        by_cases c4 : 1 < e - 0 ∧ g 0 = 48
        · rw [if_pos c4] at hs; cases hs
        rw [if_neg c4] at hs
        refine ⟨by omega, c4, ?_⟩
        cases q : nRun g e 0 (ptN fm) (thN fm) (n - 0) 0 (0, 0) with
        | none => rw [q] at hs; cases hs
        | some t =>
          rw [q] at hs
          dsimp only at hs
          by_cases c5 : 0 = 1 ∧ t.1 = 0
          · rw [if_pos c5] at hs; cases hs
          · rw [if_neg c5] at hs
            have hs := Option.some.inj hs
            subst hs
            exact ⟨rfl, rfl⟩
  obtain ⟨v, dg, ng⟩ := s
  dsimp only at hv sd hn0 hrun hng
  clear hs
  have hpt := ptN_ne fm
  obtain ⟨r1, r2, r3⟩ := nR_val (n - b) b 0 0 v dg hrun
  rw [Nat.zero_mul, Nat.zero_add] at r1
  rw [Nat.zero_add] at r2
  have hbn : b < n := by rcases he with q | q <;> omega
  have r3 : ∀ q, b ≤ q → q < n → (due e q (ptN fm) (thN fm) = m1 → 48 ≤ g q ∧ g q ≤ 57) ∧ (¬ due e q (ptN fm) (thN fm) = m1 → nI (g q) = due e q (ptN fm) (thN fm) ∧ q ≠ b) := fun q h1 h2 => r3 q h1 (by omega)
  have dq : ∀ q, b ≤ q → q < n → due e q (ptN fm) (thN fm) = m1 → 48 ≤ g q ∧ g q ≤ 57 := fun q h1 h2 => (r3 q h1 h2).1
  -- how many digits are left at a place
  have cle : ∀ k, k ≤ e → cDr e (ptN fm) (thN fm) (n - k) k = decN fm + dWN (thN fm) (e - k) := fun k hk => by
    have := cD_lt (th := thN fm) hpt he (e - k) (by omega)
    rwa [show e - (e - k) = k by omega] at this
  have cgt : ∀ k, e < k → k ≤ n → cDr e (ptN fm) (thN fm) (n - k) k = n - k := fun k h1 h2 => cD_gt (n := n) (n - k) k (by omega) h1
  have dw : ∀ j, dWN (thN fm) j = j ∨ (¬ thN fm = m1 ∧ dWN (thN fm) j = j - j / 4) := fun j => by
    unfold dWN
    by_cases t : thN fm = m1
    · rw [if_pos t]; exact Or.inl rfl
    · rw [if_neg t]; exact Or.inr ⟨t, rfl⟩
  have cb := cle b (by omega)
  rw [← r2] at cb
  have n17 : n ≤ 17 := by
    have d9 := sd.2
    rcases dw (e - b) with q | q
    · rcases he with p | p <;> omega
    · rcases he with p | p <;> omega
  have bf : ∀ {x : MW} {o : Nat}, OuF w0 g o x → md_bestForm x = nI fm := fun hx => by rw [hx.1.2.1, hf]
  have vlt : v < 10 ^ dg := by
    rw [r1, r2]
    exact vDr_lt (n - b) b (fun q h1 h2 h3 => dq q h1 (by omega) h3)
  have ddb : due e b (ptN fm) (thN fm) = m1 := by
    by_cases q : due e b (ptN fm) (thN fm) = m1
    · exact q
    · exact absurd rfl ((r3 b (Nat.le_refl _) hbn).2 q).2
  have dge : decN fm + 1 ≤ dg := by
    rcases dw (e - b) with q | q <;> omega
  have vge : decN fm + 1 < dg → 10 ^ (dg - 1) ≤ v := by
    intro hlt
    have he1 : 1 < e - b := by
      rcases Nat.lt_or_ge 1 (e - b) with q | q
      · exact q
      · have e1 : e - b = 1 := by omega
        rw [e1] at cb
        rcases dw 1 with q | q <;> omega
    have nz : g b ≠ 48 := fun q => hz ⟨he1, q⟩
    have gb := dq b (Nat.le_refl _) hbn ddb
    have s1 := vD_s (f := g) (e := e) (pt := ptN fm) (th := thN fm) hbn
    have s2 := cD_s (e := e) (pt := ptN fm) (th := thN fm) hbn
    rw [if_pos ddb] at s1 s2
    rw [← r1] at s1
    rw [← r2] at s2
    rw [show dg - 1 = cDr e (ptN fm) (thN fm) (n - (b + 1)) (b + 1) by omega, s1]
    have : 1 * 10 ^ cDr e (ptN fm) (thN fm) (n - (b + 1)) (b + 1) ≤ (g b - 48) * 10 ^ cDr e (ptN fm) (thN fm) (n - (b + 1)) (b + 1) := Nat.mul_le_mul_right _ (by omega)
    omega
  have vs : v < 2 ^ 62 := by omega
  have th4 : ∀ q, thN fm = nI q → q < 256 → True := fun _ _ _ => trivial
  -- the places, one after the other
  have W : ∀ i k x, cDr e (ptN fm) (thN fm) (n - k) k = i → b ≤ k → k ≤ n → (k = b ∨ (b < k ∧ due e (k - 1) (ptN fm) (thN fm) = m1)) → OuF w0 g k x → P_X4_writeNumber_72 K (nI (decN fm)) (lN v) (nI dg) (i + 1) x (nI i + (-1 : Int32)) := by
    intro i
    induction i with
    | zero =>
      intro k x hc hbk hkn hcan hx
      refine ⟨fun _ => hk x ?_, fun z => absurd (by decide) z⟩
      have : k = n := by
        rcases Nat.lt_or_ge e k with q | q
        · have := cgt k q hkn; omega
        · have := cle k q
          rcases dw (e - k) with p | p
          · rcases he with t | t <;> omega
          · rcases he with t | t <;> omega
      rw [← this]
      exact hx
    | succ i ih =>
      intro k x hc hbk hkn hcan hx
      have d9 := sd.2
      have hkn2 : k < n := by
        rcases Nat.lt_or_ge k n with q | q
        · exact q
        · have : k = n := by omega
          rw [this, Nat.sub_self] at hc
          exact absurd hc (by show ¬ (0 = i + 1); omega)
      have cs := cD_s (e := e) (pt := ptN fm) (th := thN fm) hkn2
      rw [hc] at cs
      have i9 : i + 1 ≤ dg := by
        rcases Nat.lt_or_ge e k with q | q
        · have := cgt k q hkn; rcases he with t | t <;> omega
        · have := cle k q
          have mo := dWN_mono (thN fm) (show e - k ≤ e - b by omega)
          omega
      -- a digit at place q, i others behind it
      have dig : ∀ q y, b ≤ q → q < n → due e q (ptN fm) (thN fm) = m1 → cDr e (ptN fm) (thN fm) (n - (q + 1)) (q + 1) = i → OuF w0 g q y → P_X4_writeNumber_149 K (P_X4_writeNumber_72 K (nI (decN fm)) (lN v) (nI dg) (i + 1)) y (nI (decN fm)) (lN v) (nI dg) (nI i) := by
        intro q y h1 h2 h3 h4 hy
        have gd := dq q h1 h2 h3
        have da := dig_at (f := g) (e := e) (pt := ptN fm) (th := thN fm) h1 h2 dq h3
        rw [h4, ← r1] at da
        unfold P_X4_writeNumber_149
        refine m_tens (by omega) ⟨ten_ne (by omega), m_writeF hy (by omega) ?_ (fun u' hu' => ih (q + 1) u' h4 (by omega) (by omega) (Or.inr ⟨by omega, by rw [Nat.add_sub_cancel]; exact h3⟩) hu')⟩
        rw [dig_l vs (by omega), da, show 48 + (g q - 48) = g q by omega, n_and _ (by omega)]
      rw [pk_m1]
      refine ⟨fun z => absurd z (nI_pos (by omega)), fun _ => ?_⟩
      by_cases hd : due e k (ptN fm) (thN fm) = m1
      · -- a digit
        rw [if_pos hd] at cs
        have d0 := dig k x hbk hkn2 hd (by omega) hx
        have ke : k ≠ e := fun q => by
          rw [q] at hd
          exact hpt (show nI (ptN fm) = m1 from (if_pos rfl : due e e (ptN fm) (thN fm) = nI (ptN fm)) ▸ hd)
        have c100 : P_X4_writeNumber_100 K (P_X4_writeNumber_72 K (nI (decN fm)) (lN v) (nI dg) (i + 1)) x (nI (decN fm)) (lN v) (nI dg) (nI i) := by
          unfold P_X4_writeNumber_100
          rw [bf hx]
          refine m_thousandsOf h7 h21 ⟨fun _ => d0, fun z0 => ⟨fun _ => d0, fun z1 => ?_⟩⟩
          have di : decN fm ≤ i := by
            rcases Nat.lt_or_ge i (decN fm) with r | r
            · exact absurd (pk_sneg (by omega) r) z1
            · exact r
          rw [sub_n di, show nI (i - decN fm) - nI (i - decN fm) / (3 : Int32) * (3 : Int32) = nI ((i - decN fm) % 3) from pk_rem (d := 3) (by omega) (by decide) (by decide), show nI dg - (1 : Int32) = nI (dg - 1) from pk_sub (b := 1) (by omega)]
          refine ⟨fun _ => d0, fun z2 => ⟨fun _ => d0, fun z3 => ?_⟩⟩
          exfalso
          have z2 : (i - decN fm) % 3 = 2 := (nI_eq (b := 2) (by omega) (by decide)).mp z2
          have z3 : i < dg - 1 := by
            rcases Nat.lt_or_ge i (dg - 1) with r | r
            · exact r
            · exact absurd (nI_le r (by omega)) z3
          have tn : ¬ thN fm = m1 := fun q => z0 (by rw [q]; decide)
          have kle : k < e := by
            rcases Nat.lt_or_ge k e with q | q
            · exact q
            · have := cgt k (by omega) hkn
              rcases he with t | t <;> omega
          have ck := cle k (by omega)
          have dk : dWN (thN fm) (e - k) = (e - k) - (e - k) / 4 := by unfold dWN; rw [if_neg tn]
          have dl := due_lt (e := e) (pt := ptN fm) (th := thN fm) kle
          have j4 : ¬ (e - k) % 4 = 0 := fun q => by rw [if_pos q] at dl; rw [dl] at hd; exact tn hd
          have j3 : (e - k) % 4 = 3 := by omega
          rcases hcan with q | ⟨q1, q2⟩
          · have : dg = i + 1 := by rw [r2, ← hc, q]
            omega
          · rw [due_lt (by omega), if_pos (by omega)] at q2
            exact tn q2
        refine ⟨fun _ => c100, fun z => ⟨fun _ => c100, fun y => ?_⟩⟩
        exfalso
        have dpos : 0 < decN fm := by
          rcases Nat.eq_zero_or_pos (decN fm) with r | r
          · exact absurd (by rw [r]; exact Int32.le_refl 0) z
          · exact r
        rw [show nI (decN fm) - (1 : Int32) = nI (decN fm - 1) from pk_sub (b := 1) (by omega)] at y
        have y := (nI_eq (by omega) (by omega)).mp y
        rcases Nat.lt_or_ge e k with q | q
        · have := cgt k q hkn
          have ek : k = e + 1 := by rcases he with t | t <;> omega
          rcases hcan with r | ⟨r1', r2'⟩
          · omega
          · rw [ek, Nat.add_sub_cancel] at r2'
            exact hpt (show nI (ptN fm) = m1 from (if_pos rfl : due e e (ptN fm) (thN fm) = nI (ptN fm)) ▸ r2')
        · have := cle k q
          rcases dw (e - k) with p | p <;> omega
      · -- a sign, and a digit behind it
        rw [if_neg hd, Nat.zero_add] at cs
        have sg := (r3 k hbk hkn2).2 hd
        have gk := hg k hkn2
        rcases Nat.lt_or_ge k e with kle | kge
        · have dl := due_lt (e := e) (pt := ptN fm) (th := thN fm) kle
          have j4 : (e - k) % 4 = 0 := by
            by_cases q : (e - k) % 4 = 0
            · exact q
            · rw [if_neg q] at dl; exact absurd dl hd
          rw [if_pos j4] at dl
          rw [dl] at sg hd
          have ck := cle k (by omega)
          have dk : dWN (thN fm) (e - k) = (e - k) - (e - k) / 4 := by unfold dWN; rw [if_neg hd]
          have di : decN fm ≤ i := by omega
          have i2 : (i - decN fm) % 3 = 2 := by omega
          have kb : b < k := by omega
          have dbb : dWN (thN fm) (e - b) = (e - b) - (e - b) / 4 := by unfold dWN; rw [if_neg hd]
          have bj : ¬ (e - b) % 4 = 0 := fun q => by
            have := due_lt (e := e) (k := b) (pt := ptN fm) (th := thN fm) hbe
            rw [if_pos q, ddb] at this
            exact hd this.symm
          have i1 : i < dg - 1 := by omega
          have d1 : due e (k + 1) (ptN fm) (thN fm) = m1 := by rw [due_lt (by omega), if_neg (by omega)]
          have k1 : k + 1 < n := by rcases he with t | t <;> omega
          have cs1 := cD_s (e := e) (pt := ptN fm) (th := thN fm) k1
          rw [if_pos d1] at cs1
          have c100 : P_X4_writeNumber_100 K (P_X4_writeNumber_72 K (nI (decN fm)) (lN v) (nI dg) (i + 1)) x (nI (decN fm)) (lN v) (nI dg) (nI i) := by
            unfold P_X4_writeNumber_100
            rw [bf hx]
            refine m_thousandsOf h7 h21 ⟨fun z => ?_, fun _ => ⟨fun z => ?_, fun _ => ?_⟩⟩
            · rw [← sg.1] at z
              exact absurd z (nI_pos (by omega))
            · rw [sub_n di] at z
              exact absurd z (nI_pos (by omega))
            · rw [sub_n di, show nI (i - decN fm) - nI (i - decN fm) / (3 : Int32) * (3 : Int32) = nI ((i - decN fm) % 3) from pk_rem (d := 3) (by omega) (by decide) (by decide), show nI dg - (1 : Int32) = nI (dg - 1) from pk_sub (b := 1) (by omega), i2]
              refine ⟨fun z => absurd rfl z, fun _ => ⟨fun z => absurd z (nI_ge i1 (by omega)), fun _ => m_thousandsOf h7 h21 (m_writeF hx (by omega) (by rw [← sg.1]; exact n_and _ gk) (fun y hy => dig (k + 1) y (by omega) k1 d1 (by omega) hy))⟩⟩
          refine ⟨fun _ => c100, fun z => ⟨fun _ => c100, fun y => ?_⟩⟩
          exfalso
          have dpos : 0 < decN fm := by
            rcases Nat.eq_zero_or_pos (decN fm) with r | r
            · exact absurd (by rw [r]; exact Int32.le_refl 0) z
            · exact r
          rw [show nI (decN fm) - (1 : Int32) = nI (decN fm - 1) from pk_sub (b := 1) (by omega)] at y
          have y := (nI_eq (by omega) (by omega)).mp y
          omega
        · have ke : k = e := by
            rcases Nat.lt_or_ge e k with q | q
            · exact absurd (due_gt q) hd
            · omega
          have due_e : due e k (ptN fm) (thN fm) = nI (ptN fm) := by rw [ke]; exact if_pos rfl
          rw [due_e] at sg
          have hc2 := cle k (by omega)
          have dw0 : dWN (thN fm) 0 = 0 := by unfold dWN; split <;> rfl
          rw [show e - k = 0 by omega, dw0, hc] at hc2
          have dpos : 0 < decN fm := by omega
          have d1 : due e (k + 1) (ptN fm) (thN fm) = m1 := due_gt (by omega)
          have k1 : k + 1 < n := by rcases he with t | t <;> omega
          have cs1 := cD_s (e := e) (pt := ptN fm) (th := thN fm) k1
          rw [if_pos d1] at cs1
          refine ⟨fun z => absurd z (nI_nle dpos (by omega)), fun _ => ⟨fun z => absurd ?_ z, fun _ => ?_⟩⟩
          · rw [show nI (decN fm) - (1 : Int32) = nI (decN fm - 1) from pk_sub (b := 1) (by omega), show decN fm - 1 = i by omega]
          · rw [bf hx]
            refine m_pointOf ?_ h21 (m_writeF hx (by omega) (by rw [← sg.1]; exact n_and _ gk) (fun y hy => ?_))
            · unfold decN at dpos
              split at dpos <;> omega
            · have d0 := dig (k + 1) y (by omega) k1 d1 (by omega) hy
              unfold P_X4_writeNumber_100
              rw [bf hy]
              exact m_thousandsOf h7 h21 ⟨fun _ => d0, fun _ => ⟨fun _ => d0, fun z => absurd (pk_sneg (by omega) (by omega)) z⟩⟩
  have c66 : ∀ x, OuF w0 g b x → P_X4_writeNumber_66 K x (nI (decN fm)) (lN v) (nI dg) := by
    intro x hx
    refine ⟨dg + 1, ?_⟩
    have := W dg b x r2.symm (Nat.le_refl _) (by omega) (Or.inl rfl) hx
    rw [show nI dg - (1 : Int32) = nI dg + (-1 : Int32) from Int32.sub_eq_add_neg _ _]
    exact this
  have sgn : (0 ≤ (lg_cmp (md_value u) (0 : Int64)) → b = 0) ∧ (¬ 0 ≤ (lg_cmp (md_value u) (0 : Int64)) → b = 1) := by
    rw [h.1.2.2.2.1, hv]
    rcases (show b = 0 ∨ b = 1 by omega) with q | q
    · refine ⟨fun _ => q, fun z => ?_⟩
      rw [hng, q] at z
      exfalso
      refine z (Int32.not_lt.mp (fun t => ?_))
      have t := (lg_lt _ _).mp t
      exact absurd ((pk_lLT (b := 0) (by omega) (by decide)).mp t) (by omega)
    · refine ⟨fun z => ?_, fun _ => q⟩
      have nt : ng = true := by rw [hng, q]; rfl
      rw [nt] at z
      exfalso
      have v0 := hn0 nt
      have : lg_cmp (sgL v true) 0 < 0 := by
        rw [lg_lt]
        show -(lN v) < 0
        apply Int64.lt_iff_toInt_lt.mpr
        rw [Int64.toInt_neg, pk_lT (by omega), Int.bmod_eq_of_le (by omega) (by omega)]
        show -(v : Int) < 0
        omega
      exact absurd this (Int32.not_lt.mpr z)
  have c29 : P_X4_writeNumber_29 K u (nI (decN fm)) (lN v) := by
    have N : ∀ t m, m + t = dg → decN fm + 1 ≤ m → P_X4_writeNumber_35 K (fun w_3 v4_4 => (0 ≤ (lg_cmp (md_value w_3) (0 : Int64)) → P_X4_writeNumber_66 K w_3 (nI (decN fm)) (lN v) v4_4) ∧ (¬ 0 ≤ (lg_cmp (md_value w_3) (0 : Int64)) → P_X4_write (fun w_12 => P_X4_writeNumber_66 K w_12 (nI (decN fm)) (lN v) v4_4) w_3 (45 : Int32))) (nI (decN fm)) (lN v) (t + 1) u (nI m) := by
      have d9 := sd.2
      have pm : ∀ m, m ≤ 12 → (10 : Nat) ^ m < 2 ^ 63 := fun m hm => Nat.lt_of_le_of_lt (Nat.pow_le_pow_right (by decide) hm) (by decide : (10 : Nat) ^ 12 < 2 ^ 63)
      intro t
      induction t with
      | zero =>
        intro m em hm
        have : m = dg := by omega
        subst this
        refine m_tens (by omega) ⟨fun _ => ⟨fun z => c66 u (by rw [sgn.1 z]; exact h), fun z => m_writeF h (by decide) ?_ (fun u' hu' => c66 u' (by rw [sgn.2 z]; exact hu'))⟩, fun z => absurd ?_ z⟩
        · rw [hb0 (sgn.2 z)]; rfl
        · rw [lg_lt]
          exact (pk_lLT (by omega) (pm m (by omega))).mpr vlt
      | succ t ih =>
        intro m em hm
        have ge := vge (by omega)
        have le2 : 10 ^ m ≤ 10 ^ (dg - 1) := Nat.pow_le_pow_right (by decide) (by omega)
        refine m_tens (by omega) ⟨fun z => ?_, fun _ => ?_⟩
        · rw [lg_lt] at z
          have := (pk_lLT (by omega) (pm m (by omega))).mp z
          omega
        · rw [nI_1]
          exact ih (m + 1) (by omega) (by omega)
    unfold P_X4_writeNumber_29
    rw [nI_1]
    exact ⟨_, N (dg - (decN fm + 1)) (decN fm + 1) (by omega) (Nat.le_refl _)⟩
  unfold P_X4_writeNumber
  rw [bf h]
  refine m_decimals h7 h21 ?_
  refine ⟨fun z => ?_, fun z => ?_⟩
  · rw [h.1.2.2.2.1, hv, hng, sgn.1 z]
    exact c29
  · rw [h.1.2.2.2.1, hv, hng, sgn.2 z]
    show P_X4_writeNumber_29 K u (nI (decN fm)) (-(-(lN v)))
    rw [Int64.neg_neg]
    exact c29
