def rgE (f : Nat → Int32) (d v : Int32) : Int32 := if 0 ≤ v.toInt ∧ v.toInt < 24 then f v.toNatClampNeg else d
theorem rgE_i {f : Nat → Int32} {d v : Int32} {j : Nat} (hj : j < 24) (e : v = nI j) : rgE f d v = f j := by
  unfold rgE
  rw [e, nI_toInt (by omega), nI_clamp (by omega), if_pos (by omega)]
theorem rgE_o {f : Nat → Int32} {d v : Int32} (h : ¬ (0 ≤ v.toInt ∧ v.toInt < 24)) : rgE f d v = d := if_neg h
def adE (v : Int32) : Int32 := if v = 0 then 0 else -2
theorem x_reads_a {w : XW} {K : Int32 → XW → Prop} {v : Int32} (h : EX w) (hk : ∀ w', K (rgE ftE m1 v) w') : P_X3_reads K w v :=
  x_reads_e h (fun j hj e w' => by have := hk w'; rw [rgE_i hj e] at this; exact this) (fun z w' => by have := hk w'; rw [rgE_o z] at this; exact this)
theorem x_faultAt_a {w : XW} {K : Int32 → XW → Prop} {v : Int32} (h : EX w) (hk : ∀ w', K (rgE faE m1 v) w') : P_X3_faultAt K w v :=
  x_faultAt_e h (fun j hj e w' => by have := hk w'; rw [rgE_i hj e] at this; exact this) (fun z w' => by have := hk w'; rw [rgE_o z] at this; exact this)
theorem x_cost_a {w : XW} {K : Int32 → XW → Prop} {v : Int32} (h : EX w) (hk : ∀ w', K (rgE prE m1 v) w') : P_X3_cost K w v :=
  x_cost_e h (fun j hj e w' => by have := hk w'; rw [rgE_i hj e] at this; exact this) (fun z w' => by have := hk w'; rw [rgE_o z] at this; exact this)
theorem x_use_a {w : XW} {K : Int32 → XW → Prop} {v : Int32} (h : EX w) (hk : ∀ w', K (rgE (fun _ => 1) 0 v) w') : P_X3_use K w v :=
  x_use_e (fun j hj e w' => by have := hk w'; rw [rgE_i hj e] at this; exact this) (fun z w' => by have := hk w'; rw [rgE_o z] at this; exact this)
theorem x_add_a {w : XW} {K : Int32 → XW → Prop} {v : Int32} (h : EX w) (hk : ∀ w', K (adE v) w') : P_X3_add K w v := by
  rcases add_case v 0 (by decide) with ⟨k, hk0, rfl⟩ | ⟨g1, g2⟩
  · have : k = 0 := by omega
    subst this
    exact x_add_ok (t := 0) (n := 0) h.2.2.1 (by decide) h.1 (by decide) (by decide) (fun w' _ _ _ _ _ _ _ _ => hk w')
  · have : adE v = -2 := by
      unfold adE
      refine if_neg (fun e => ?_)
      subst e
      exact g1 (by decide)
    rw [this] at hk
    exact x_add_lo (by rw [h.2.2.1]; exact g2) (hk w)
theorem x_form_a {w : XW} {K : Int32 → XW → Prop} {v1 : Int32} (h : EX w) (hk : ∀ w', K m1 w') : P_X3_form K w v1 := by
  unfold P_X3_form
  exact x_hc_e h (fun w' _ => ⟨fun _ => hk w', fun z => absurd rfl z⟩)
theorem x_missing_a {w : XW} {K : Int32 → XW → Prop} {v1 : Int32} (h : EX w) (hk : ∀ w', K m1 w') : P_X3_missing K w v1 := by
  unfold P_X3_missing
  exact x_hc_e h (fun w' _ => ⟨fun _ => hk w', fun z => absurd rfl z⟩)
theorem x_lacks_a {w : XW} {K : Int32 → XW → Prop} {v1 : Int32} (h : EX w) (hk : ∀ w', K m1 w') : P_X3_lacks K w v1 := by
  unfold P_X3_lacks
  exact x_hc_e h (fun w' _ => ⟨fun _ => hk w', fun z => absurd rfl z⟩)
theorem x_costOf_a {w : XW} {K : Int32 → XW → Prop} {v1 v2 v3 : Int32} (h : EX w) (hk : ∀ w', K m1 w') : P_X3_costOf K w v1 v2 v3 := by
  unfold P_X3_costOf
  exact x_hc_e h (fun w' _ => ⟨fun _ => hk w', fun z => absurd rfl z⟩)
theorem x_fits_a {w : XW} {K : Int32 → XW → Prop} {v1 : Int32} (h : EX w) (hk : ∀ w', K m1 w') : P_X3_fits K w v1 := by
  unfold P_X3_fits
  exact x_hc_e h (fun w' _ => ⟨fun _ => hk w', fun z => absurd rfl z⟩)
theorem x_doubt_a {w : XW} {K : Int32 → XW → Prop} {v1 : Int32} (h : EX w) (hk : ∀ w', K m1 w') : P_X3_doubt K w v1 := by
  unfold P_X3_doubt
  exact x_hc_e h (fun w' _ => ⟨fun _ => hk w', fun z => absurd rfl z⟩)
theorem x_parts_a {w : XW} {K : Int32 → XW → Prop} {v1 v2 v3 v4 : Int32} (h : EX w) (hk : ∀ w', K m1 w') : P_X3_parts K w v1 v2 v3 v4 := by
  unfold P_X3_parts
  exact x_hc_e h (fun w' _ => ⟨fun _ => hk w', fun z => absurd rfl z⟩)
theorem x_value_a {w : XW} {K : Int64 → XW → Prop} {v1 v2 : Int32} (h : EX w) (hk : ∀ w', K 0 w') : P_X3_value K w v1 v2 := by
  unfold P_X3_value
  exact x_hc_e h (fun w' _ => ⟨fun _ => hk w', fun z => absurd rfl z⟩)
theorem x_back_a {w : XW} {K : Int32 → XW → Prop} {v1 v2 v3 : Int32} (h : EX w) (hk : ∀ w', K m1 w') : P_X3_back K w v1 v2 v3 := by
  unfold P_X3_back
  exact x_hc_e h (fun w' _ => ⟨fun _ => hk w', fun z => absurd rfl z⟩)
theorem x_key_a {w : XW} {K : Int32 → XW → Prop} {v1 : Int32} (h : EX w) (hk : ∀ w', K m1 w') : P_X3_key K w v1 := by
  unfold P_X3_key
  exact x_hc_e h (fun w' _ => ⟨fun z => absurd rfl z, fun _ => hk w'⟩)
theorem m_reads_a {w : MW} {K : Int32 → MW → Prop} {v : Int32} (h : EM w) (hk : ∀ w', K (rgE ftE m1 v) w') : P_X4_reads K w v :=
  m_reads_e h (fun j hj e w' => by have := hk w'; rw [rgE_i hj e] at this; exact this) (fun z w' => by have := hk w'; rw [rgE_o z] at this; exact this)
theorem m_faultAt_a {w : MW} {K : Int32 → MW → Prop} {v : Int32} (h : EM w) (hk : ∀ w', K (rgE faE m1 v) w') : P_X4_faultAt K w v :=
  m_faultAt_e h (fun j hj e w' => by have := hk w'; rw [rgE_i hj e] at this; exact this) (fun z w' => by have := hk w'; rw [rgE_o z] at this; exact this)
theorem m_cost_a {w : MW} {K : Int32 → MW → Prop} {v : Int32} (h : EM w) (hk : ∀ w', K (rgE prE m1 v) w') : P_X4_cost K w v :=
  m_cost_e h (fun j hj e w' => by have := hk w'; rw [rgE_i hj e] at this; exact this) (fun z w' => by have := hk w'; rw [rgE_o z] at this; exact this)
theorem m_use_a {w : MW} {K : Int32 → MW → Prop} {v : Int32} (h : EM w) (hk : ∀ w', K (rgE (fun _ => 1) 0 v) w') : P_X4_use K w v :=
  m_use_e (fun j hj e w' => by have := hk w'; rw [rgE_i hj e] at this; exact this) (fun z w' => by have := hk w'; rw [rgE_o z] at this; exact this)
theorem m_add_a {w : MW} {K : Int32 → MW → Prop} {v : Int32} (h : EM w) (hk : ∀ w', K (adE v) w') : P_X4_add K w v := by
  rcases add_case v 0 (by decide) with ⟨k, hk0, rfl⟩ | ⟨g1, g2⟩
  · have : k = 0 := by omega
    subst this
    exact m_add_ok (t := 0) (n := 0) h.2.2.1 (by decide) h.1 (by decide) (by decide) (fun w' _ _ _ _ _ _ _ => hk w')
  · have : adE v = -2 := by
      unfold adE
      refine if_neg (fun e => ?_)
      subst e
      exact g1 (by decide)
    rw [this] at hk
    exact m_add_lo (t := 0) h.2.2.1 (by decide) g1 (hk w)
theorem m_form_a {w : MW} {K : Int32 → MW → Prop} {v1 : Int32} (h : EM w) (hk : ∀ w', K m1 w') : P_X4_form K w v1 := by
  unfold P_X4_form
  exact m_ic_e h (fun w' _ => ⟨fun _ => hk w', fun z => absurd rfl z⟩)
theorem m_missing_a {w : MW} {K : Int32 → MW → Prop} {v1 : Int32} (h : EM w) (hk : ∀ w', K m1 w') : P_X4_missing K w v1 := by
  unfold P_X4_missing
  exact m_ic_e h (fun w' _ => ⟨fun _ => hk w', fun z => absurd rfl z⟩)
theorem m_lacks_a {w : MW} {K : Int32 → MW → Prop} {v1 : Int32} (h : EM w) (hk : ∀ w', K m1 w') : P_X4_lacks K w v1 := by
  unfold P_X4_lacks
  exact m_ic_e h (fun w' _ => ⟨fun z => absurd rfl z, fun _ => hk w'⟩)
theorem m_costOf_a {w : MW} {K : Int32 → MW → Prop} {v1 v2 v3 : Int32} (h : EM w) (hk : ∀ w', K m1 w') : P_X4_costOf K w v1 v2 v3 := by
  unfold P_X4_costOf
  exact m_ic_e h (fun w' _ => ⟨fun _ => hk w', fun z => absurd rfl z⟩)
theorem m_fits_a {w : MW} {K : Int32 → MW → Prop} {v1 : Int32} (h : EM w) (hk : ∀ w', K m1 w') : P_X4_fits K w v1 := by
  unfold P_X4_fits
  exact m_ic_e h (fun w' _ => ⟨fun z => absurd rfl z, fun _ => hk w'⟩)
theorem m_doubt_a {w : MW} {K : Int32 → MW → Prop} {v1 : Int32} (h : EM w) (hk : ∀ w', K m1 w') : P_X4_doubt K w v1 := by
  unfold P_X4_doubt
  exact m_ic_e h (fun w' _ => ⟨fun z => absurd rfl z, fun _ => hk w'⟩)
theorem m_parts_a {w : MW} {K : Int32 → MW → Prop} {v1 v2 v3 v4 : Int32} (h : EM w) (hk : ∀ w', K m1 w') : P_X4_parts K w v1 v2 v3 v4 := by
  unfold P_X4_parts
  exact m_ic_e h (fun w' _ => ⟨fun _ => hk w', fun z => absurd rfl z⟩)
theorem m_key_a {w : MW} {K : Int32 → MW → Prop} {v1 : Int32} (h : EM w) (hk : ∀ w', K m1 w') : P_X4_key K w v1 := by
  unfold P_X4_key
  exact m_ic_e h (fun w' _ => ⟨fun z => absurd rfl z, fun _ => hk w'⟩)
theorem m_value_a {w : MW} {K : Int64 → MW → Prop} {v1 v2 : Int32} (h : EM w) (hk : ∀ w', K 0 w') : P_X4_value K w v1 v2 := by
  unfold P_X4_value
  exact m_told_e h (fun w' => ⟨fun z => absurd z (by decide), fun _ => hk w'⟩)
theorem m_back_a {w : MW} {K : Int32 → MW → Prop} {v1 v2 v3 : Int32} (h : EM w) (hk : ∀ w', K m1 w') : P_X4_back K w v1 v2 v3 := by
  unfold P_X4_back
  exact m_told_e h (fun w' => ⟨fun z => absurd z (by decide), fun _ => hk w'⟩)
theorem p1_main {xs : Nat → Int32} {L : Nat} (hL : L ≤ 6) : ∃ n : Nat, P_L_law_18 xs L True n (xw0, mw0) 0 := by
  refine ⟨2, ⟨fun _ => trivial, fun h0 => ?_⟩⟩
  have e6 : L = 6 := by
    rcases Nat.lt_or_ge L 6 with e | e
    · exact absurd (pk_sneg (b := 6) (by decide) e) h0
    · omega
  subst e6
  have hx := EX_0
  have hm := EM_0
  have nx : ∀ w, P_L_law_798 xs 6 True (P_L_law_18 xs 6 True 1) w 0 := fun w => ⟨fun _ => trivial, fun z => absurd (by decide) z⟩
  have v0 : vp_in 0 6 := vp_in_nI (n := 0) (N := 6) (by decide) (by decide)
  have v1 : vp_in ((0 : Int32) + (1 : Int32)) 6 := vp_in_nI (n := 1) (N := 6) (by decide) (by decide)
  have v2 : vp_in ((0 : Int32) + (2 : Int32)) 6 := vp_in_nI (n := 2) (N := 6) (by decide) (by decide)
  have v3 : vp_in ((0 : Int32) + (3 : Int32)) 6 := vp_in_nI (n := 3) (N := 6) (by decide) (by decide)
  have v4 : vp_in ((0 : Int32) + (4 : Int32)) 6 := vp_in_nI (n := 4) (N := 6) (by decide) (by decide)
  have v5 : vp_in ((0 : Int32) + (5 : Int32)) 6 := vp_in_nI (n := 5) (N := 6) (by decide) (by decide)
  refine ⟨v0, ?c0, ?c1, ?c2, ?c3, ?c4, ?c5, ?c6, ?c7, ?c8, ?c9, ?c10, ?c11, ?c12, ?c13, ?c14, ?c15, ?c16, ?c17, ?c18, ?c19, ?c20, ?c21, ?c22, ?c23⟩
  case c0 => exact fun _ => ⟨v1, v2, v3, v4, v5, x_feed (t := 0) hx.2.2.1 (by decide) ⟨v1, v2, v3, v4, v5, m_feed (t := 0) hm.2.2.1 (by decide) ⟨fun _ => nx _, fun z => absurd rfl z⟩⟩⟩
  case c1 => exact fun _ => ⟨v1, x_add_a hx (fun _ => ⟨v1, m_add_a hm (fun _ => ⟨fun _ => nx _, fun z => absurd rfl z⟩)⟩)⟩
  case c2 => exact fun _ => x_clear (fun _ _ _ _ _ _ _ _ _ => m_clear (fun _ _ _ _ _ _ _ _ => nx _))
  case c3 => exact fun _ => ⟨v1, x_reads_a hx (fun _ => ⟨v1, m_reads_a hm (fun _ => ⟨fun _ => nx _, fun z => absurd rfl z⟩)⟩)⟩
  case c4 => exact fun _ => ⟨v1, x_faultAt_a hx (fun _ => ⟨v1, m_faultAt_a hm (fun _ => ⟨fun _ => nx _, fun z => absurd rfl z⟩)⟩)⟩
  case c5 => exact fun _ => ⟨v1, x_cost_a hx (fun _ => ⟨v1, m_cost_a hm (fun _ => ⟨fun _ => nx _, fun z => absurd rfl z⟩)⟩)⟩
  case c6 => exact fun _ => x_best_e hx (fun _ => m_best_e hm (fun _ => ⟨fun _ => nx _, fun z => absurd rfl z⟩))
  case c7 => exact fun _ => ⟨v1, x_use_a hx (fun _ => ⟨v1, m_use_a hm (fun _ => ⟨fun _ => nx _, fun z => absurd rfl z⟩)⟩)⟩
  case c8 => exact fun _ => ⟨v1, x_about_e hx (fun _ => ⟨v1, m_about_e hm (fun _ => ⟨fun _ => nx _, fun z => absurd rfl z⟩)⟩)⟩
  case c9 => exact fun _ => ⟨v1, x_odd_e hx (fun _ => ⟨v1, m_odd_e hm (fun _ => ⟨fun _ => nx _, fun z => absurd rfl z⟩)⟩)⟩
  case c10 => exact fun _ => ⟨v1, x_breadth_e hx (fun _ => ⟨v1, m_breadth_e hm (fun _ => ⟨fun _ => nx _, fun z => absurd rfl z⟩)⟩)⟩
  case c11 => exact fun _ => ⟨v1, v2, x_size_e hx (fun _ => ⟨v1, v2, m_size_e hm (fun _ => ⟨fun _ => nx _, fun z => absurd rfl z⟩)⟩)⟩
  case c12 => exact fun _ => ⟨v1, v2, v3, x_at_e hx (fun _ => ⟨v1, v2, v3, m_at_e hm (fun _ => ⟨fun _ => nx _, fun z => absurd rfl z⟩)⟩)⟩
  case c13 => exact fun _ => ⟨v1, x_form_a hx (fun _ => ⟨v1, m_form_a hm (fun _ => ⟨fun _ => nx _, fun z => absurd rfl z⟩)⟩)⟩
  case c14 => exact fun _ => ⟨v1, x_missing_a hx (fun _ => ⟨v1, m_missing_a hm (fun _ => ⟨fun _ => nx _, fun z => absurd rfl z⟩)⟩)⟩
  case c15 => exact fun _ => ⟨v1, x_lacks_a hx (fun _ => ⟨v1, m_lacks_a hm (fun _ => ⟨fun _ => nx _, fun z => absurd rfl z⟩)⟩)⟩
  case c16 => exact fun _ => ⟨v1, v2, v3, x_costOf_a hx (fun _ => ⟨v1, v2, v3, m_costOf_a hm (fun _ => ⟨fun _ => nx _, fun z => absurd rfl z⟩)⟩)⟩
  case c17 => exact fun _ => ⟨v1, x_fits_a hx (fun _ => ⟨v1, m_fits_a hm (fun _ => ⟨fun _ => nx _, fun z => absurd rfl z⟩)⟩)⟩
  case c18 => exact fun _ => ⟨v1, x_doubt_a hx (fun _ => ⟨v1, m_doubt_a hm (fun _ => ⟨fun _ => nx _, fun z => absurd rfl z⟩)⟩)⟩
  case c19 => exact fun _ => ⟨v1, v2, v3, v4, x_parts_a hx (fun _ => ⟨v1, v2, v3, v4, m_parts_a hm (fun _ => ⟨fun _ => nx _, fun z => absurd rfl z⟩)⟩)⟩
  case c20 => exact fun _ => ⟨v1, v2, x_value_a hx (fun _ => ⟨v1, v2, m_value_a hm (fun _ => ⟨fun _ => nx _, fun z => absurd (by decide) z⟩)⟩)⟩
  case c21 => exact fun _ => ⟨v1, v2, v3, x_back_a hx (fun _ => ⟨v1, v2, v3, m_back_a hm (fun _ => ⟨fun _ => nx _, fun z => absurd rfl z⟩)⟩)⟩
  case c22 => exact fun _ => ⟨v1, x_key_a hx (fun _ => ⟨v1, m_key_a hm (fun _ => ⟨fun _ => nx _, fun z => absurd rfl z⟩)⟩)⟩
  case c23 => exact fun _ _ _ _ _ _ _ _ _ _ _ _ _ _ _ _ _ _ _ _ _ _ _ => nx _
