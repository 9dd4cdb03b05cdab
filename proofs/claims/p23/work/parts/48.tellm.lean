theorem m_between {K : Int32 → Prop} {form : Nat} (h1 : 22 ≤ form) (h2 : form ≤ 30) (hk : K (nI (btN form))) : P_X4_betweenOf K (nI form) := by
  unfold P_X4_betweenOf
  rw [show nI form - (22 : Int32) = nI (form - 22) from pk_sub (b := 22) h1, show nI (form - 22) - nI (form - 22) / (3 : Int32) * (3 : Int32) = nI ((form - 22) % 3) from pk_rem (d := 3) (by omega) (by decide) (by decide)]
  unfold btN at hk
  rcases (show (form - 22) % 3 = 0 ∨ (form - 22) % 3 = 1 ∨ (form - 22) % 3 = 2 by omega) with e | e | e
  · rw [e] at hk ⊢; exact ⟨fun z => absurd rfl z, fun _ => hk⟩
  · rw [e] at hk ⊢; exact ⟨fun _ => ⟨fun z => absurd rfl z, fun _ => hk⟩, fun z => absurd z (by decide)⟩
  · rw [e] at hk ⊢; exact ⟨fun _ => ⟨fun _ => hk, fun z => absurd z (by decide)⟩, fun z => absurd z (by decide)⟩
theorem btN_lt (form : Nat) : btN form < 256 := by
  unfold btN
  rcases (show (form - 22) % 3 = 0 ∨ (form - 22) % 3 = 1 ∨ (form - 22) % 3 = 2 by omega) with e | e | e <;> rw [e] <;> decide
theorem m_isDay {w : MW} {T : Tb} {K : Int32 → MW → Prop} {c form : Nat} (hT : tWF T) (h : RepM w T) (hc : c < tN T) (h1 : 22 ≤ form) (h2 : form ≤ 30)
    (hk : ∀ a, (∀ v, dayV form (tLen T c) (tb T c) = some v → a = lN v) → K (bI (dayV form (tLen T c) (tb T c)).isSome) (md_value_s w a)) : P_X4_isDay K w (nI c) (nI form) := by
  have hN := tN_le hT
  have hl := tLen_le hT hc
  have no : dayV form (tLen T c) (tb T c) = none → K 0 w := fun e => by
    have := hk (md_value w) (fun v q => by rw [e] at q; cases q)
    rw [e, sv_v] at this
    exact this
  unfold P_X4_isDay
  rw [nI_clamp (by omega), h.2.2.2.1 c hc]
  refine ⟨vp_in_nI (by omega) (by decide), fun z => ?_, fun z => no ?_⟩
  · have l10 : tLen T c = 10 := (nI_eq (b := 10) (by omega) (by decide)).mp z
    have bl := btN_lt form
    refine m_between h1 h2 ?_
    rw [show nI form - (22 : Int32) = nI (form - 22) from pk_sub (b := 22) h1, show nI (form - 22) / (3 : Int32) = nI ((form - 22) / 3) from pk_div (d := 3) (by omega) (by decide) (by decide)]
    have nh : ∀ k i v, i ≤ 4 → numV (tb T c) k i = some v → v < 10000 := fun k i v hi e => numV_l e hi
    -- the way of one order
    have go : ∀ (o p1 p2 py pm pd : Nat), o < 3 → p1 < 10 → p2 < 10 → py + 4 ≤ 10 → pm + 2 ≤ 10 → pd + 2 ≤ 10 → (p2 = if o = 2 then 7 else 5) → (py = if o = 2 then 0 else 6) → (pm = if o = 0 then 3 else if o = 1 then 0 else 5) → (pd = if o = 0 then 0 else if o = 1 then 3 else 8) → dayV form (tLen T c) (tb T c) = dayG (tb T c) (btN form) p1 p2 py pm pd → P_X4_isDay_38 K w (nI c) (nI o) (nI (btN form)) (nI p1) (nI c) := by
      intro o p1 p2 py pm pd ho l1 l2 l3 l4 l5 e2 ey em ed eV
      rw [eV] at hk no
      unfold dayG at hk no
      have b1 := tb_lt hT hc (k := p1) (by omega)
      have b2 := tb_lt hT hc (k := p2) (by omega)
      have c135 : tb T c p1 = btN form → tb T c p2 = btN form → P_X4_isDay_135 K w (oI (numV (tb T c) py 4)) (oI (numV (tb T c) pm 2)) (nI pd) (nI c) := by
        intro x1 x2
        rw [if_pos ⟨x1, x2⟩] at hk
        exact m_day135 hT h hc (by omega) (fun v e => nh py 4 v (by decide) e) (fun v e => nh pm 2 v (by decide) e) hk
      have c108 : tb T c p1 = btN form → tb T c p2 = btN form → P_X4_isDay_108 K w (nI c) (nI o) (oI (numV (tb T c) py 4)) (nI pm) (nI c) := by
        intro x1 x2
        unfold P_X4_isDay_108
        refine m_whole (n := 2) hT h hc (by decide) (by omega) ?_
        have q := c135 x1 x2
        rcases (show o = 0 ∨ o = 1 ∨ o = 2 by omega) with e | e | e <;> subst e
        · rw [ed] at q; exact ⟨fun y => absurd rfl y, fun _ => q⟩
        · rw [ed] at q; exact ⟨fun _ => ⟨fun y => absurd rfl y, fun _ => q⟩, fun y => absurd y (by decide)⟩
        · rw [ed] at q; exact ⟨fun _ => ⟨fun _ => q, fun y => absurd y (by decide)⟩, fun y => absurd y (by decide)⟩
      have c82 : tb T c p1 = btN form → tb T c p2 = btN form → P_X4_isDay_82 K w (nI c) (nI o) (nI py) (nI c) := by
        intro x1 x2
        unfold P_X4_isDay_82
        refine m_whole (n := 4) hT h hc (by decide) (by omega) ?_
        have q := c108 x1 x2
        rcases (show o = 0 ∨ o = 1 ∨ o = 2 by omega) with e | e | e <;> subst e
        · rw [em] at q; exact ⟨fun y => absurd rfl y, fun _ => q⟩
        · rw [em] at q; exact ⟨fun _ => ⟨fun y => absurd rfl y, fun _ => q⟩, fun y => absurd y (by decide)⟩
        · rw [em] at q; exact ⟨fun _ => ⟨fun _ => q, fun y => absurd y (by decide)⟩, fun y => absurd y (by decide)⟩
      have c59 : tb T c p1 = btN form → P_X4_isDay_59 K w (nI c) (nI o) (nI (btN form)) (nI p2) (nI c) := by
        intro x1
        unfold P_X4_isDay_59
        refine m_byteOf hT h hc (by omega) ⟨fun y => ?_, fun y => ?_⟩
        · have q := c82 x1 ((nI_eq (by omega) (by omega)).mp y)
          rcases (show o = 0 ∨ o = 1 ∨ o = 2 by omega) with e | e | e <;> subst e
          · rw [ey] at q; exact ⟨fun _ => q, fun y => absurd y (by decide)⟩
          · rw [ey] at q; exact ⟨fun _ => q, fun y => absurd y (by decide)⟩
          · rw [ey] at q; exact ⟨fun y => absurd rfl y, fun _ => q⟩
        · exact no (if_neg (fun x => y (by rw [x.2])))
      unfold P_X4_isDay_38
      refine m_byteOf hT h hc (by omega) ⟨fun y => ?_, fun y => ?_⟩
      · exact no (if_neg (fun x => y (by rw [x.1])))
      · have q := c59 ((nI_eq (by omega) (by omega)).mp y)
        rcases (show o = 0 ∨ o = 1 ∨ o = 2 by omega) with e | e | e <;> subst e
        · rw [e2] at q; exact ⟨fun _ => q, fun y => absurd y (by decide)⟩
        · rw [e2] at q; exact ⟨fun _ => q, fun y => absurd y (by decide)⟩
        · rw [e2] at q; exact ⟨fun y => absurd rfl y, fun _ => q⟩
    have dv : dayV form (tLen T c) (tb T c) = (if (form - 22) / 3 = 0 then dayG (tb T c) (btN form) 2 5 6 3 0 else if (form - 22) / 3 = 1 then dayG (tb T c) (btN form) 2 5 6 0 3 else dayG (tb T c) (btN form) 4 7 0 5 8) := if_pos l10
    rcases (show (form - 22) / 3 = 0 ∨ (form - 22) / 3 = 1 ∨ (form - 22) / 3 = 2 by omega) with e | e | e
    · rw [e] at dv ⊢
      exact ⟨fun _ => go 0 2 5 6 3 0 (by decide) (by decide) (by decide) (by decide) (by decide) (by decide) rfl rfl rfl rfl dv, fun y => absurd y (by decide)⟩
    · rw [e] at dv ⊢
      exact ⟨fun _ => go 1 2 5 6 0 3 (by decide) (by decide) (by decide) (by decide) (by decide) (by decide) rfl rfl rfl rfl dv, fun y => absurd y (by decide)⟩
    · rw [e] at dv ⊢
      exact ⟨fun y => absurd rfl y, fun _ => go 2 4 7 0 5 8 (by decide) (by decide) (by decide) (by decide) (by decide) (by decide) rfl rfl rfl rfl dv⟩
  · exact if_neg (fun x => z (by rw [x]; rfl))
theorem m_decimals {K : Int32 → Prop} {form : Nat} (h1 : 7 ≤ form) (h2 : form ≤ 21) (hk : K (nI (decN form))) : P_X4_decimals K (nI form) := by
  unfold P_X4_decimals
  rcases form_cases h1 h2 with e | e | e | e | e | e | e | e | e | e | e | e | e | e | e <;> subst e <;>
    first | exact ⟨fun _ => hk, fun z => absurd (by decide) z⟩ | exact ⟨fun z => absurd z (by decide), fun _ => hk⟩
theorem m_pointOf {K : Int32 → Prop} {form : Nat} (h1 : 10 ≤ form) (h2 : form ≤ 21) (hk : K (nI (ptN form))) : P_X4_pointOf K (nI form) := by
  unfold P_X4_pointOf
  rcases form_cases (by omega : 7 ≤ form) h2 with e | e | e | e | e | e | e | e | e | e | e | e | e | e | e <;> subst e <;>
    first | exact absurd h1 (by decide) | exact ⟨fun _ => ⟨fun _ => hk, fun z => absurd (by decide) z⟩, fun z => absurd (by decide) z⟩ | exact ⟨fun _ => ⟨fun z => absurd z (by decide), fun _ => hk⟩, fun z => absurd (by decide) z⟩
theorem m_thousandsOf {K : Int32 → Prop} {form : Nat} (h1 : 7 ≤ form) (h2 : form ≤ 21) (hk : K (thN form)) : P_X4_thousandsOf K (nI form) := by
  unfold P_X4_thousandsOf
  rcases form_cases h1 h2 with e | e | e | e | e | e | e | e | e | e | e | e | e | e | e <;> subst e <;>
    first
    | exact ⟨fun z => absurd z (by decide), fun _ => ⟨fun z => absurd rfl z, fun _ => hk⟩⟩
    | exact ⟨fun z => absurd z (by decide), fun _ => ⟨fun _ => ⟨fun z => absurd rfl z, fun _ => hk⟩, fun z => absurd z (by decide)⟩⟩
    | exact ⟨fun z => absurd z (by decide), fun _ => ⟨fun _ => ⟨fun _ => hk, fun z => absurd z (by decide)⟩, fun z => absurd z (by decide)⟩⟩
    | exact ⟨fun _ => ⟨fun z => absurd (by decide) z, fun _ => hk⟩, fun z => absurd (by decide) z⟩
    | exact ⟨fun _ => ⟨fun _ => ⟨fun z => absurd (by decide) z, fun _ => hk⟩, fun z => absurd z (by decide)⟩, fun z => absurd (by decide) z⟩
    | exact ⟨fun _ => ⟨fun _ => ⟨fun _ => hk, fun z => absurd z (by decide)⟩, fun z => absurd z (by decide)⟩, fun z => absurd (by decide) z⟩
theorem m_more {w : MW} {K : Int32 → MW → Prop} {v dg b : Nat} (hd : dg ≤ 9) (h1 : 48 ≤ b) (h2 : b ≤ 57) (hk : K (bI (decide (dg ≠ 9))) (vm w (lN (v * 10 + (b - 48))) (nI (dg + 1)))) : P_X4_more K (vm w (lN v) (nI dg)) (nI b) := by
  unfold P_X4_more
  have e1 : ((10 : Int64) * md_value (vm w (lN v) (nI dg)) + (nI b).toInt64) - (48 : Int64) = lN (v * 10 + (b - 48)) := by
    rw [vm_a, nI_l (by omega), show (10 : Int64) = lN 10 from rfl, show (48 : Int64) = lN 48 from rfl, lN_mul, lN_add, lN_sub (by omega)]
    congr 1
    omega
  rw [e1, vm_vs, vm_b, nI_1, vm_ds, vm_b]
  refine ⟨fun z => ?_, fun z => ?_⟩
  · have z := (nI_ltI (a := 9) (by decide) (by omega)).mp z
    rw [decide_eq_false (by omega)] at hk
    exact hk
  · have z1 : ¬ 9 < dg + 1 := fun e => z (nI_lt (a := 9) e (by omega))
    rw [decide_eq_true (by omega)] at hk
    exact hk
theorem thN_c (form : Nat) : thN form = m1 ∨ thN form = nI 44 ∨ thN form = nI 46 := by
  unfold thN
  split
  · split
    · exact Or.inl rfl
    · split
      · exact Or.inr (Or.inl rfl)
      · exact Or.inr (Or.inr rfl)
  · split
    · exact Or.inr (Or.inl rfl)
    · split
      · exact Or.inr (Or.inr rfl)
      · exact Or.inl rfl
/-- a digit more, at place k -/
theorem m_dig {w : MW} {T : Tb} {K : Int32 → MW → Prop} {G : MW → Prop} {c k v dg : Nat} (hT : tWF T) (h : RepM w T) (hc : c < tN T) (hk : k < tLen T c) (hd : dg ≤ 9)
    (h1 : 48 ≤ tb T c k → tb T c k ≤ 57 → dg ≠ 9 → G (vm w (lN (v * 10 + (tb T c k - 48))) (nI (dg + 1)))) (h0 : ¬ ((48 ≤ tb T c k ∧ tb T c k ≤ 57) ∧ dg ≠ 9) → ∀ x y, K 0 (vm w x y)) :
    P_X4_byteOf (fun r_3 => P_X4_isDigit (fun r_4 => (¬ r_4 = 0 → P_X4_byteOf (fun r_5 => P_X4_more (fun r_6 w_7 => (¬ r_6 = 0 → G w_7) ∧ (r_6 = 0 → K (0 : Int32) w_7)) (vm w (lN v) (nI dg)) r_5) (vm w (lN v) (nI dg)) (nI c) (nI k)) ∧ (r_4 = 0 → K (0 : Int32) (vm w (lN v) (nI dg)))) r_3) (vm w (lN v) (nI dg)) (nI c) (nI k) := by
  have hr := rep_v h (lN v) (nI dg)
  have b1 := tb_lt hT hc hk
  refine m_byteOf hT hr hc hk (m_isDigit b1 ?_)
  by_cases z : 48 ≤ tb T c k ∧ tb T c k ≤ 57
  · rw [decide_eq_true z]
    refine ⟨fun _ => m_byteOf hT hr hc hk (m_more hd z.1 z.2 ?_), fun y => absurd y (by decide)⟩
    by_cases z9 : dg = 9
    · rw [decide_eq_false (fun x => x z9)]
      exact ⟨fun y => absurd rfl y, fun _ => h0 (fun x => x.2 z9) _ _⟩
    · rw [decide_eq_true z9]
      exact ⟨fun _ => h1 z.1 z.2 z9, fun y => absurd y (by decide)⟩
  · rw [decide_eq_false z]
    exact ⟨fun y => absurd rfl y, fun _ => h0 (fun x => z x.1) _ _⟩
theorem m_num94 {w : MW} {T : Tb} {K : Int32 → MW → Prop} {E : MW → Prop} {c form e b : Nat} {v3 : Int32} (hT : tWF T) (h : RepM w T) (hc : c < tN T) (h7 : 7 ≤ form) (h21 : form ≤ 21) (he : e ≤ tLen T c) : ∀ d k v dg, k + d = e → dg ≤ 9 → b ≤ k →
    (∀ v' dg', nRun (tb T c) e b (ptN form) (thN form) d k (v, dg) = some (v', dg') → E (vm w (lN v') (nI dg'))) → (nRun (tb T c) e b (ptN form) (thN form) d k (v, dg) = none → ∀ x y, K 0 (vm w x y)) →
    P_X4_isNumber_94 K E (nI c) (nI form) v3 (nI b) (nI e) (d + 1) (vm w (lN v) (nI dg)) (nI k) := by
  have hl := tLen_le hT hc
  intro d
  induction d with
  | zero =>
    intro k v dg ek hd hbk h1 h2
    have : k = e := by omega
    subst this
    exact ⟨fun _ => h1 v dg rfl, fun z => absurd (Int32.le_refl _) z⟩
  | succ d ih =>
    intro k v dg ek hd hbk h1 h2
    have b1 := tb_lt hT hc (k := k) (by omega)
    have hdu : due e k (ptN form) (thN form) = if (e - k) % 4 = 0 then thN form else m1 := by
      unfold due
      rw [if_neg (by omega)]
      by_cases z : (e - k) % 4 = 0
      · rw [if_pos ⟨by omega, z⟩, if_pos z]
      · rw [if_neg (fun x => z x.2), if_neg z]
    have nr : nRun (tb T c) e b (ptN form) (thN form) (d + 1) k (v, dg) = match nStep (tb T c) e b (ptN form) (thN form) k (v, dg) with
        | some s' => nRun (tb T c) e b (ptN form) (thN form) d (k + 1) s'
        | none => none := rfl
    have digit : due e k (ptN form) (thN form) = m1 → P_X4_isNumber_123 K (P_X4_isNumber_94 K E (nI c) (nI form) v3 (nI b) (nI e) (d + 1)) E (vm w (lN v) (nI dg)) (nI c) (nI form) v3 (nI b) (nI e) (nI k) 0 := by
      intro hm
      unfold P_X4_isNumber_123 P_X4_isNumber_169 P_X4_isNumber_190
      refine ⟨fun _ => ?_, fun y => absurd rfl y⟩
      have st : nStep (tb T c) e b (ptN form) (thN form) k (v, dg) = if (48 ≤ tb T c k ∧ tb T c k ≤ 57) ∧ dg ≠ 9 then some (v * 10 + (tb T c k - 48), dg + 1) else none := by
        unfold nStep
        rw [if_pos hm]
      refine m_byteOf hT (rep_v h _ _) hc (by omega) (m_isDigit b1 ?_)
      rw [st] at nr
      by_cases z : 48 ≤ tb T c k ∧ tb T c k ≤ 57
      · rw [decide_eq_true z]
        refine ⟨fun _ => ⟨fun y => absurd rfl y, fun _ => m_byteOf hT (rep_v h _ _) hc (by omega) (m_more hd z.1 z.2 ?_)⟩, fun y => absurd y (by decide)⟩
        by_cases z9 : dg = 9
        · rw [if_neg (fun x => x.2 z9)] at nr
          rw [decide_eq_false (fun x => x z9)]
          exact ⟨fun y => absurd rfl y, fun _ => h2 nr _ _⟩
        · rw [if_pos ⟨z, z9⟩] at nr
          rw [decide_eq_true z9]
          refine ⟨fun _ => ?_, fun y => absurd y (by decide)⟩
          rw [nI_1]
          exact ih (k + 1) _ _ (by omega) (by omega) (by omega) (fun v' dg' q => h1 v' dg' (nr.trans q)) (fun q => h2 (nr.trans q))
      · rw [if_neg (fun x => z x.1)] at nr
        rw [decide_eq_false z]
        exact ⟨fun y => absurd rfl y, fun _ => h2 nr _ _⟩
    refine ⟨fun z => absurd z (nI_ge (by omega) (by omega)), fun _ => m_thousandsOf h7 h21 ?_⟩
    unfold P_X4_isNumber_122
    rw [show nI e - nI k = nI (e - k) from sub_n (by omega), show nI (e - k) - nI (e - k) / (4 : Int32) * (4 : Int32) = nI ((e - k) % 4) from pk_rem (d := 4) (by omega) (by decide) (by decide)]
    refine ⟨fun z => digit ?_, fun z => ⟨fun y => digit ?_, fun y => ?_⟩⟩
    · rw [hdu]
      rcases thN_c form with q | q | q
      · rw [q]; split <;> rfl
      · rw [q] at z; exact absurd z (by decide)
      · rw [q] at z; exact absurd z (by decide)
    · rw [hdu, if_neg (fun x => y (by rw [x]; rfl))]
    · have y0 : (e - k) % 4 = 0 := (nI_eq (b := 0) (by omega) (by decide)).mp y
      rw [if_pos y0] at hdu
      have nm : ¬ due e k (ptN form) (thN form) = m1 := by
        rw [hdu]
        intro x
        rw [x] at z
        exact z (by decide)
      have st : nStep (tb T c) e b (ptN form) (thN form) k (v, dg) = if nI (tb T c k) = thN form ∧ k ≠ b then some (v, dg) else none := by
        unfold nStep
        rw [if_neg nm, hdu]
      rw [st] at nr
      unfold P_X4_isNumber_123 P_X4_isNumber_169 P_X4_isNumber_190
      refine ⟨fun x => absurd x (by decide), fun _ => ⟨fun x => ?_, fun x => m_byteOf hT (rep_v h _ _) hc (by omega) (m_thousandsOf h7 h21 ⟨fun x2 => ⟨fun _ => ?_, fun x3 => absurd x3 (by decide)⟩, fun x2 => ?_⟩)⟩⟩
      · have xb : k = b := (nI_eq (by omega) (by omega)).mp x
        rw [if_neg (fun r => r.2 xb)] at nr
        exact h2 nr _ _
      · rw [if_pos ⟨x2, fun r => x (by rw [r])⟩] at nr
        rw [nI_1]
        exact ih (k + 1) _ _ (by omega) hd (by omega) (fun v' dg' q => h1 v' dg' (nr.trans q)) (fun q => h2 (nr.trans q))
      · rw [if_neg (fun r => x2 r.1)] at nr
        exact h2 nr _ _
