theorem lt_L {L i : Nat} (hL : L ≤ 3072) (hi : i < 10000) (h : L < i + 6) : nI L - (6 : Int32) < nI i := by
  apply Int32.lt_iff_toInt_lt.mpr
  rw [show (nI L - (6 : Int32)).toInt = (L : Int) - 6 from pk_sub_toInt (b := 6) (by omega) (by decide), nI_toInt (by omega)]
  omega
theorem lg_self (r : Int64) : lg_cmp r r = 0 := by
  unfold lg_cmp
  rw [if_neg (Int64.lt_irrefl), if_pos rfl]
theorem law_main {xs : Nat → Int32} {L : Nat} (hL : L ≤ 3072) : ∀ n i w, L < i + n → i ≤ L + 6 → RR w.1 w.2 → P_L_law_18 xs L True (n + 1) w (nI i) := by
  intro n
  induction n with
  | zero =>
    intro i w h1 h2 hR
    exact ⟨fun _ => trivial, fun z => absurd (lt_L hL (by omega) (by omega)) z⟩
  | succ n ih =>
    intro i w h1 h2 hR
    rcases Nat.lt_or_ge L (i + 6) with q | q
    · exact ⟨fun _ => trivial, fun z => absurd (lt_L hL (by omega) q) z⟩
    have nx : ∀ w' : XW × MW, RR w'.1 w'.2 → P_L_law_797 xs L True (P_L_law_18 xs L True (n + 1)) w' (nI i) := by
      intro w' hR'
      unfold P_L_law_797
      rw [show nI i + (6 : Int32) = nI (i + 6) from nI_add i 6]
      exact ih (i + 6) w' (by omega) (by omega) hR'
    have v0 : vp_in (nI i) L := vp_in_nI (by omega) (by omega)
    have v1 : vp_in (nI i + (1 : Int32)) L := by rw [show nI i + (1 : Int32) = nI (i + 1) from nI_add i 1]; exact vp_in_nI (by omega) (by omega)
    have v2 : vp_in (nI i + (2 : Int32)) L := by rw [show nI i + (2 : Int32) = nI (i + 2) from nI_add i 2]; exact vp_in_nI (by omega) (by omega)
    have v3 : vp_in (nI i + (3 : Int32)) L := by rw [show nI i + (3 : Int32) = nI (i + 3) from nI_add i 3]; exact vp_in_nI (by omega) (by omega)
    have v4 : vp_in (nI i + (4 : Int32)) L := by rw [show nI i + (4 : Int32) = nI (i + 4) from nI_add i 4]; exact vp_in_nI (by omega) (by omega)
    have v5 : vp_in (nI i + (5 : Int32)) L := by rw [show nI i + (5 : Int32) = nI (i + 5) from nI_add i 5]; exact vp_in_nI (by omega) (by omega)
    refine ⟨fun _ => trivial, fun _ => ⟨v0, ?c0, ?c1, ?c2, ?c3, ?c4, ?c5, ?c6, ?c7, ?c8, ?c9, ?c10, ?c11, ?c12, ?c13, ?c14, ?c15, ?c16, ?c17, ?c18, ?c19, ?c20, ?c21, ?c22, ?c23⟩⟩
    case c0 => exact fun _ => ⟨v1, v2, v3, v4, v5, L_feed hR (fun r x' tok => ⟨v1, v2, v3, v4, v5, tok _ (fun m' h => nx (x', m') h)⟩)⟩
    case c1 => exact fun _ => ⟨v1, L_add hR (fun r x' tok => ⟨v1, tok _ (fun m' h => nx (x', m') h)⟩)⟩
    case c2 => exact fun _ => L_clear hR (fun x' tok => tok _ (fun m' h => nx (x', m') h))
    case c3 => exact fun _ => ⟨v1, L_reads hR (fun r x' tok => ⟨v1, tok _ (fun m' h => nx (x', m') h)⟩)⟩
    case c4 => exact fun _ => ⟨v1, L_faultAt hR (fun r x' tok => ⟨v1, tok _ (fun m' h => nx (x', m') h)⟩)⟩
    case c5 => exact fun _ => ⟨v1, L_cost hR (fun r x' tok => ⟨v1, tok _ (fun m' h => nx (x', m') h)⟩)⟩
    case c6 => exact fun _ => L_best hR (fun r x' tok => tok _ (fun m' h => nx (x', m') h))
    case c7 => exact fun _ => ⟨v1, L_use hR (fun r x' tok => ⟨v1, tok _ (fun m' h => nx (x', m') h)⟩)⟩
    case c8 => exact fun _ => ⟨v1, L_about hR (fun r x' tok => ⟨v1, tok _ (fun m' h => nx (x', m') h)⟩)⟩
    case c9 => exact fun _ => ⟨v1, L_odd hR (fun r x' tok => ⟨v1, tok _ (fun m' h => nx (x', m') h)⟩)⟩
    case c10 => exact fun _ => ⟨v1, L_breadth hR (fun r x' tok => ⟨v1, tok _ (fun m' h => nx (x', m') h)⟩)⟩
    case c11 => exact fun _ => ⟨v1, v2, L_size hR (fun r x' tok => ⟨v1, v2, tok _ (fun m' h => nx (x', m') h)⟩)⟩
    case c12 => exact fun _ => ⟨v1, v2, v3, L_at hR (fun r x' tok => ⟨v1, v2, v3, tok _ (fun m' h => nx (x', m') h)⟩)⟩
    case c13 => exact fun _ => ⟨v1, L_form hR (fun r x' tok => ⟨v1, tok _ (fun m' h => nx (x', m') h)⟩)⟩
    case c14 => exact fun _ => ⟨v1, L_missing hR (fun r x' tok => ⟨v1, tok _ (fun m' h => nx (x', m') h)⟩)⟩
    case c15 => exact fun _ => ⟨v1, L_lacks hR (fun r x' tok => ⟨v1, tok _ (fun m' h => nx (x', m') h)⟩)⟩
    case c16 => exact fun _ => ⟨v1, v2, v3, L_costOf hR (fun r x' tok => ⟨v1, v2, v3, tok _ (fun m' h => nx (x', m') h)⟩)⟩
    case c17 => exact fun _ => ⟨v1, W_fits hR (fun r x' tok => ⟨v1, tok _ (fun _ m' h => nx (x', m') h)⟩)⟩
    case c18 => exact fun _ => ⟨v1, L_doubt hR (fun r x' tok => ⟨v1, tok _ (fun m' h => ⟨fun _ => nx (x', m') h, fun z => absurd rfl z⟩)⟩)⟩
    case c19 => exact fun _ => ⟨v1, v2, v3, v4, W_parts hR (fun r x' tok => ⟨v1, v2, v3, v4, tok _ (fun _ m' h => nx (x', m') h)⟩)⟩
    case c20 => exact fun _ => ⟨v1, v2, L_value hR (fun r x' tok => ⟨v1, v2, tok _ (fun m' h => nx (x', m') h)⟩)⟩
    case c21 => exact fun _ => ⟨v1, v2, v3, W_back hR (fun r x' tok => ⟨v1, v2, v3, tok _ (fun _ m' h => nx (x', m') h)⟩)⟩
    case c22 => exact fun _ => ⟨v1, L_key hR (fun r x' tok => ⟨v1, tok _ (fun m' h => nx (x', m') h)⟩)⟩
    case c23 => exact fun _ _ _ _ _ _ _ _ _ _ _ _ _ _ _ _ _ _ _ _ _ _ _ => nx w hR
