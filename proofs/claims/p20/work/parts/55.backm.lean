/-! what the reference writes back: that it is written within its room -/
def OuM (w0 : MW) (o : Nat) (u : MW) : Prop := EqQ w0 u ∧ md_bestForm u = md_bestForm w0 ∧ md_bestCode u = md_bestCode w0 ∧ md_value u = md_value w0 ∧ md_outs u = nI o
theorem m_write {w0 u : MW} {K : MW → Prop} {o : Nat} {v : Int32} (h : OuM w0 o u) (ho : o < 20) (hk : ∀ u', OuM w0 (o + 1) u' → K u') : P_X4_write K u v := by
  obtain ⟨h1, h2, h3, h4, h5⟩ := h
  unfold P_X4_write
  rw [h5, nI_clamp (by omega)]
  refine ⟨vp_in_nI ho (by decide), hk _ ⟨h1.tr ?_, ?_, ?_, ?_, ?_⟩⟩
  · refine ⟨⟨?_, ?_, ?_, ?_, ?_⟩, ?_, ⟨?_, ?_, ?_, ?_, ?_⟩, ?_, ?_, ?_, ?_, ?_⟩ <;> simp only [gs_md_out, gs_md_outs]
  · simp only [gs_md_out, gs_md_outs]; exact h2
  · simp only [gs_md_out, gs_md_outs]; exact h3
  · simp only [gs_md_out, gs_md_outs]; exact h4
  · simp only [gs_md_out, gs_md_outs]; rw [h5, nI_1]
theorem sx_len5 : ∀ k, k < 32 → (sxB k).length ≤ 5 := by decide +kernel
theorem m_writeWord {w0 u : MW} {K : MW → Prop} {o j : Nat} (h : OuM w0 o u) (hj : j < 32) (ho : o ≤ 15) (hk : ∀ u' o', o' ≤ 20 → OuM w0 o' u' → K u') : P_X4_writeWord K u j := by
  have hl := sx_len5 j hj
  have hs := sx_small j hj
  have L : ∀ d k v, k + d = (sxB j).length → OuM w0 (o + k) v → P_X4_writeWord_2 K j (d + 1) v (nI k) := by
    intro d
    induction d with
    | zero =>
      intro k v ek hv
      have : k = (sxB j).length := by omega
      subst this
      exact ⟨hj, fun _ => hk v _ (by omega) hv, fun z => absurd (Int32.le_refl _) z⟩
    | succ d ih =>
      intro k v ek hv
      refine ⟨hj, fun z => absurd z (nI_ge (by omega) (by omega)), fun _ => ⟨hj, vp_in_nI (by omega) hs, m_write hv (by omega) (fun u' hu' => ?_)⟩⟩
      rw [nI_1]
      exact ih (k + 1) u' (by omega) hu'
  exact ⟨_, L (sxB j).length 0 u (by omega) h⟩
theorem m_tens {K : Int64 → Prop} {n : Nat} (hn : n ≤ 12) (hk : K (lN (10 ^ n))) : P_X4_tens K (nI n) := by
  have L : ∀ d k, k + d = n → P_X4_tens_4 K (nI n) (d + 1) (lN (10 ^ k)) (nI k) := by
    intro d
    induction d with
    | zero =>
      intro k ek
      have : k = n := by omega
      subst this
      exact ⟨fun _ => hk, fun z => absurd (Int32.le_refl _) z⟩
    | succ d ih =>
      intro k ek
      refine ⟨fun z => absurd z (nI_ge (by omega) (by omega)), fun _ => ?_⟩
      rw [nI_1, show lN (10 ^ k) * (10 : Int64) = lN (10 ^ (k + 1)) by rw [show (10 : Int64) = lN 10 from rfl, lN_mul, Nat.pow_succ]]
      exact ih (k + 1) (by omega)
  exact ⟨n + 1, L n 0 (by omega)⟩
theorem ten_ne {n : Nat} (hn : n ≤ 12) : ¬ lN (10 ^ n) = 0 := by
  intro e
  have h1 : (10 : Nat) ^ n ≤ 10 ^ 12 := Nat.pow_le_pow_right (by decide) hn
  have h2 : (10 : Nat) ^ 12 < 2 ^ 63 := by decide
  have h3 : 0 < 10 ^ n := Nat.pow_pos (by decide)
  have := (pk_lEQ (b := 0) (by omega) (by decide)).mp e
  omega
theorem m_writeWhole {w0 u : MW} {K : MW → Prop} {o n : Nat} {v : Int32} (h : OuM w0 o u) (hn : n ≤ 4) (hn1 : 1 ≤ n) (ho : o + n ≤ 20) (hk : ∀ u', OuM w0 (o + n) u' → K u') : P_X4_writeWhole K u v (nI n) := by
  have L : ∀ i x, i ≤ n → OuM w0 (o + (n - i)) x → P_X4_writeWhole_4 K v (i + 1) x (nI i + (-1 : Int32)) := by
    intro i
    induction i with
    | zero =>
      intro x hi hx
      exact ⟨fun _ => hk x hx, fun z => absurd (by decide) z⟩
    | succ i ih =>
      intro x hi hx
      rw [pk_m1]
      refine ⟨fun z => absurd z (nI_pos (by omega)), fun _ => m_tens (by omega) ⟨ten_ne (by omega), m_write hx (by omega) (fun u' hu' => ih u' (by omega) ?_)⟩⟩
      rw [show o + (n - i) = o + (n - (i + 1)) + 1 by omega]
      exact hu'
  refine ⟨n + 1, ?_⟩
  have := L n u (Nat.le_refl _) (by rw [Nat.sub_self]; exact h)
  rw [show nI n - (1 : Int32) = nI n + (-1 : Int32) from Int32.sub_eq_add_neg _ _]
  exact this
theorem m_writeDay {w0 u : MW} {K : MW → Prop} {f : Nat} (h : OuM w0 0 u) (hf : md_bestForm w0 = nI f) (h1 : 22 ≤ f) (h2 : f ≤ 30) (hk : ∀ u', OuM w0 10 u' → K u') : P_X4_writeDay K u := by
  have bt : ∀ {K2 : Int32 → Prop} {x : MW} {o : Nat}, OuM w0 o x → (∀ r, K2 r) → P_X4_betweenOf K2 (md_bestForm x) := fun hx hk2 => by
    rw [hx.2.1, hf]
    exact m_between h1 h2 (hk2 _)
  have c97 : ∀ (x : MW) (v1 v2 v4 s0 : Int32) (k : Nat), OuM w0 (if v1 = 2 then 5 else 3) x → P_X4_writeDay_97 K x v1 v2 v4 s0 := by
    intro x v1 v2 v4 s0 _ hx
    unfold P_X4_writeDay_97
    by_cases q : v1 = 2
    · rw [if_pos q] at hx
      refine m_writeWhole (n := 2) hx (by decide) (by decide) (by decide) (fun u1 g1 => bt g1 (fun r => m_write g1 (by decide) (fun u2 g2 => ⟨fun z => absurd q z, fun _ => m_writeWhole (n := 2) g2 (by decide) (by decide) (by decide) hk⟩)))
    · rw [if_neg q] at hx
      refine m_writeWhole (n := 2) hx (by decide) (by decide) (by decide) (fun u1 g1 => bt g1 (fun r => m_write g1 (by decide) (fun u2 g2 => ⟨fun _ => m_writeWhole (n := 4) g2 (by decide) (by decide) (by decide) hk, fun z => absurd z q⟩)))
  have c74 : ∀ (x : MW) (v1 v2 v3 v4 : Int32), OuM w0 (if v1 = 2 then 4 else 2) x → P_X4_writeDay_74 K x v1 v2 v3 v4 := by
    intro x v1 v2 v3 v4 hx
    unfold P_X4_writeDay_74
    refine bt hx (fun r => m_write hx (by split <;> decide) (fun u2 g2 => ?_))
    have g3 : OuM w0 (if v1 = 2 then 5 else 3) u2 := by
      split at g2
      · rename_i q; rw [if_pos q]; exact g2
      · rename_i q; rw [if_neg q]; exact g2
    exact ⟨fun _ => c97 u2 _ _ _ _ 0 g3, fun _ => c97 u2 _ _ _ _ 0 g3⟩
  have c70 : ∀ (v1 v2 v3 v4 s0 : Int32), ¬ v1 = 2 → P_X4_writeDay_70 K u v1 v2 v3 v4 s0 := by
    intro v1 v2 v3 v4 s0 q
    unfold P_X4_writeDay_70
    exact m_writeWhole (n := 2) h (by decide) (by decide) (by decide) (fun u1 g1 => c74 u1 _ _ _ _ (by rw [if_neg q]; exact g1))
  unfold P_X4_writeDay
  refine ⟨fun z => ⟨fun _ => c70 _ _ _ _ _ z, fun _ => c70 _ _ _ _ _ z⟩, fun z => m_writeWhole (n := 4) h (by decide) (by decide) (by decide) (fun u1 g1 => c74 u1 _ _ _ _ (by rw [if_pos z]; exact g1))⟩
/-- how much is written for t places of a NUMBER, at most -/
def cwN (n d : Nat) : Nat → Nat
  | 0 => 0
  | t + 1 => cwN n d t + 1 + (if 0 < d ∧ n - 1 - t = d - 1 then 1 else 0) + (if d ≤ n - 1 - t ∧ (n - 1 - t - d) % 3 = 2 ∧ n - 1 - t < n - 1 then 1 else 0)
theorem cwN_le : ∀ n, n < 10 → ∀ d, d < 4 → ∀ t, t < 10 → t ≤ n → cwN n d t ≤ 14 := by decide
theorem m_num149 {w0 u : MW} {K : MW → Prop} {B : MW → Int32 → Prop} {o i : Nat} {v1 v4 : Int32} {v2 : Int64} (h : OuM w0 o u) (ho : o < 20) (hi : i ≤ 9) (hk : ∀ u', OuM w0 (o + 1) u' → B u' (nI i + (-1 : Int32))) : P_X4_writeNumber_149 K B u v1 v2 v4 (nI i) := by
  unfold P_X4_writeNumber_149
  exact m_tens (by omega) ⟨ten_ne (by omega), m_write h ho hk⟩
theorem m_writeNumber {w0 u : MW} {K : MW → Prop} {f a : Nat} {ng : Bool} (h : OuM w0 0 u) (hf : md_bestForm w0 = nI f) (h7 : 7 ≤ f) (h21 : f ≤ 21) (hv : md_value w0 = sgL a ng) (ha : a < 10 ^ 9) (hn0 : ng = true → a ≠ 0) (hk : ∀ u' o', o' ≤ 20 → OuM w0 o' u' → K u') : P_X4_writeNumber K u := by
  have hd := decN_le h21
  have p9 : (10 : Nat) ^ 9 < 2 ^ 62 := by decide
  have bf : ∀ {x : MW} {o : Nat}, OuM w0 o x → md_bestForm x = nI f := fun hx => by rw [hx.2.1, hf]
  -- the places
  have L : ∀ n, n ≤ 9 → decN f + 1 ≤ n → ∀ i x o, i ≤ n → OuM w0 o x → o ≤ 1 + cwN n (decN f) (n - i) → P_X4_writeNumber_72 K (nI (decN f)) (lN a) (nI n) (i + 1) x (nI i + (-1 : Int32)) := by
    intro n hn hdn i
    induction i with
    | zero =>
      intro x o hi hx hol
      have := cwN_le n (by omega) (decN f) (by omega) n (by omega) (Nat.le_refl _)
      rw [Nat.sub_zero] at hol
      exact ⟨fun _ => hk x o (by omega) hx, fun z => absurd (by decide) z⟩
    | succ i ih =>
      intro x o hi hx hol
      have b1 := cwN_le n (by omega) (decN f) (by omega) (n - i) (by omega) (by omega)
      have ec : cwN n (decN f) (n - i) = cwN n (decN f) (n - (i + 1)) + 1 + (if 0 < decN f ∧ i = decN f - 1 then 1 else 0) + (if decN f ≤ i ∧ (i - decN f) % 3 = 2 ∧ i < n - 1 then 1 else 0) := by
        rw [show n - i = (n - (i + 1)) + 1 by omega]
        show cwN n (decN f) (n - (i + 1)) + 1 + (if 0 < decN f ∧ n - 1 - (n - (i + 1)) = decN f - 1 then 1 else 0) + (if decN f ≤ n - 1 - (n - (i + 1)) ∧ (n - 1 - (n - (i + 1)) - decN f) % 3 = 2 ∧ n - 1 - (n - (i + 1)) < n - 1 then 1 else 0) = _
        rw [show n - 1 - (n - (i + 1)) = i by omega]
      rw [pk_m1]
      -- behind the point
      have c100 : ∀ y q, OuM w0 q y → q ≤ 1 + cwN n (decN f) (n - (i + 1)) + (if 0 < decN f ∧ i = decN f - 1 then 1 else 0) → P_X4_writeNumber_100 K (P_X4_writeNumber_72 K (nI (decN f)) (lN a) (nI n) (i + 1)) y (nI (decN f)) (lN a) (nI n) (nI i) := by
        intro y q hy hq
        have go : ∀ z q2, OuM w0 q2 z → q2 ≤ 1 + cwN n (decN f) (n - (i + 1)) + (if 0 < decN f ∧ i = decN f - 1 then 1 else 0) + (if decN f ≤ i ∧ (i - decN f) % 3 = 2 ∧ i < n - 1 then 1 else 0) → P_X4_writeNumber_149 K (P_X4_writeNumber_72 K (nI (decN f)) (lN a) (nI n) (i + 1)) z (nI (decN f)) (lN a) (nI n) (nI i) := by
          intro z q2 hz hq2
          refine m_num149 hz (by omega) (by omega) (fun u' hu' => ih u' (q2 + 1) (by omega) hu' (by omega))
        have go0 := go y q hy (by omega)
        unfold P_X4_writeNumber_100
        rw [bf hy]
        refine m_thousandsOf h7 h21 ⟨fun _ => go0, fun _ => ⟨fun _ => go0, fun z1 => ?_⟩⟩
        have di : decN f ≤ i := by
          rcases Nat.lt_or_ge i (decN f) with r | r
          · exact absurd (pk_sneg (by omega) r) z1
          · exact r
        rw [sub_n di, show nI (i - decN f) - nI (i - decN f) / (3 : Int32) * (3 : Int32) = nI ((i - decN f) % 3) from pk_rem (d := 3) (by omega) (by decide) (by decide), show nI n - (1 : Int32) = nI (n - 1) from pk_sub (b := 1) (by omega)]
        refine ⟨fun _ => go0, fun z2 => ⟨fun _ => go0, fun z3 => m_thousandsOf h7 h21 (m_write hy (by omega) (fun y2 hy2 => go y2 (q + 1) hy2 ?_))⟩⟩
        have z2 : (i - decN f) % 3 = 2 := (nI_eq (b := 2) (by omega) (by decide)).mp z2
        have z3 : i < n - 1 := by
          rcases Nat.lt_or_ge i (n - 1) with r | r
          · exact r
          · exact absurd (nI_le r (by omega)) z3
        have e3 : (if decN f ≤ i ∧ (i - decN f) % 3 = 2 ∧ i < n - 1 then 1 else 0) = 1 := if_pos ⟨di, z2, z3⟩
        omega
      refine ⟨fun z => absurd z (nI_pos (by omega)), fun _ => ⟨fun z => c100 x o hx (by omega), fun z => ⟨fun y => c100 x o hx (by omega), fun y => ?_⟩⟩⟩
      have d1 : 0 < decN f := by
        rcases Nat.eq_zero_or_pos (decN f) with r | r
        · exact absurd (by rw [r]; exact Int32.le_refl 0) z
        · exact r
      rw [show nI (decN f) - (1 : Int32) = nI (decN f - 1) from pk_sub (b := 1) (by omega)] at y
      have y := (nI_eq (by omega) (by omega)).mp y
      rw [bf hx]
      refine m_pointOf ?_ h21 (m_write hx (by omega) (fun x2 hx2 => c100 x2 (o + 1) hx2 ?_))
      · unfold decN at d1
        split at d1 <;> omega
      · rw [if_pos ⟨d1, y⟩]; omega
  have c66 : ∀ n x o, n ≤ 9 → decN f + 1 ≤ n → o ≤ 1 → OuM w0 o x → P_X4_writeNumber_66 K x (nI (decN f)) (lN a) (nI n) := by
    intro n x o hn hdn ho hx
    refine ⟨n + 1, ?_⟩
    have := L n hn hdn n x o (Nat.le_refl _) hx (by omega)
    rw [show nI n - (1 : Int32) = nI n + (-1 : Int32) from Int32.sub_eq_add_neg _ _]
    exact this
  have c29 : P_X4_writeNumber_29 K u (nI (decN f)) (lN a) := by
    have N : ∀ d n, n + d = 9 → decN f + 1 ≤ n → P_X4_writeNumber_35 K (fun w_3 v4_4 => (0 ≤ (lg_cmp (md_value w_3) (0 : Int64)) → P_X4_writeNumber_66 K w_3 (nI (decN f)) (lN a) v4_4) ∧ (¬ 0 ≤ (lg_cmp (md_value w_3) (0 : Int64)) → P_X4_write (fun w_12 => P_X4_writeNumber_66 K w_12 (nI (decN f)) (lN a) v4_4) w_3 (45 : Int32))) (nI (decN f)) (lN a) (d + 1) u (nI n) := by
      have fin : ∀ n, n ≤ 9 → decN f + 1 ≤ n → (0 ≤ (lg_cmp (md_value u) (0 : Int64)) → P_X4_writeNumber_66 K u (nI (decN f)) (lN a) (nI n)) ∧ (¬ 0 ≤ (lg_cmp (md_value u) (0 : Int64)) → P_X4_write (fun w_12 => P_X4_writeNumber_66 K w_12 (nI (decN f)) (lN a) (nI n)) u (45 : Int32)) := fun n hn hdn => ⟨fun _ => c66 n u 0 hn hdn (by decide) h, fun _ => m_write h (by decide) (fun u' hu' => c66 n u' 1 hn hdn (by decide) hu')⟩
      intro d
      induction d with
      | zero =>
        intro n en hdn
        have : n = 9 := by omega
        subst this
        refine m_tens (by decide) ⟨fun _ => fin 9 (by decide) hdn, fun z => absurd ?_ z⟩
        rw [lg_lt]
        exact (pk_lLT (by omega) (by omega)).mpr ha
      | succ d ih =>
        intro n en hdn
        refine m_tens (by omega) ⟨fun _ => fin n (by omega) hdn, fun _ => ?_⟩
        rw [nI_1]
        exact ih (n + 1) (by omega) (by omega)
    unfold P_X4_writeNumber_29
    rw [nI_1]
    exact ⟨_, N (9 - (decN f + 1)) (decN f + 1) (by omega) (Nat.le_refl _)⟩
  unfold P_X4_writeNumber
  rw [bf h]
  refine m_decimals h7 h21 ?_
  rw [h.2.2.2.1, hv]
  cases ng with
  | false =>
    refine ⟨fun _ => c29, fun z => absurd ?_ z⟩
    have : ¬ lg_cmp (lN a) 0 < 0 := fun q => by
      have q := (lg_lt _ _).mp q
      exact absurd ((pk_lLT (b := 0) (by omega) (by decide)).mp q) (by omega)
    exact Int32.not_lt.mp this
  | true =>
    have neg : lg_cmp (-(lN a)) 0 < 0 := by
      rw [lg_lt]
      apply Int64.lt_iff_toInt_lt.mpr
      rw [Int64.toInt_neg, pk_lT (by omega), Int.bmod_eq_of_le (by omega) (by omega)]
      have := hn0 rfl
      show -(a : Int) < 0
      omega
    refine ⟨fun z => absurd neg (Int32.not_lt.mpr z), fun _ => ?_⟩
    show P_X4_writeNumber_29 K u (nI (decN f)) (-(-(lN a)))
    rw [Int64.neg_neg]
    exact c29
theorem M_back {S : Sx} {w : MW} {K : Int32 → MW → Prop} {rw v k : Int32} (hS : SOK S) (h : IM S w) (hk : ∀ r w', IM S w' → KnE w w' → K r w') : P_X4_back K w rw v k := by
  have hT := tb_wf hS (sU S)
  have hN := tN_le hT
  unfold P_X4_back
  refine M_told hS h (fun w' a b c => ⟨fun z => absurd z (by decide), fun _ => hk _ w' a b⟩) (fun w' r col fo co pr e er ep a hv b => ⟨fun _ => ?_, fun z => absurd (nI_pos' (by have := cel_lt hT ep a.1; omega)) z⟩)
  have hcl := cel_lt hT ep a.1
  have hat := a.2.2.1
  have hfin : ∀ u q, EqQ w' u → K q u := fun u q x => hk q u ((hat.q x).i hS.2.2.2) (b.tr x.kn)
  have out0 : OuM w' 0 (md_outs_s w' (0 : Int32)) := by
    refine ⟨?_, ?_, ?_, ?_, ?_⟩
    · refine ⟨⟨?_, ?_, ?_, ?_, ?_⟩, ?_, ⟨?_, ?_, ?_, ?_, ?_⟩, ?_, ?_, ?_, ?_, ?_⟩ <;> simp only [gs_md_outs]
    · simp only [gs_md_outs]
    · simp only [gs_md_outs]
    · simp only [gs_md_outs]
    · simp only [gs_md_outs]; rfl
  have c184 : ∀ u o, o ≤ 20 → OuM w' o u → P_X4_back_184 K u k := by
    intro u o ho hu
    unfold P_X4_back_184
    rw [hu.2.2.2.2]
    refine m_in (by omega) (fun i hi ei => ⟨fun z => absurd z (by decide), fun _ => ⟨?_, hfin u _ hu.1⟩⟩) (fun z => ⟨fun _ => hfin u _ hu.1, fun y => absurd rfl y⟩)
    rw [ei]
    exact vp_in_nI (by omega) (by decide)
  have c130 : ∀ j, j < 32 → P_X4_back_130 K (md_outs_s w' (0 : Int32)) k j := fun j hj => by
    unfold P_X4_back_130
    exact m_writeWord out0 hj (by decide) c184
  have efo : md_bestForm (md_outs_s w' (0 : Int32)) = nI fo := by rw [out0.2.1]; exact a.2.2.2.2.1
  have fl := a.2.1.2.1
  have c48 : P_X4_back_48 K w' k (nI (cel (tbOf S (sU S)) col r)) := by
    unfold P_X4_back_48
    refine ⟨vp_in_nI (by omega) (by decide), ?_⟩
    rw [nI_clamp (by omega), hat.2.2.1.2.2.2.1 _ hcl]
    have hl := tLen_le hT hcl
    refine m_in (by omega) (fun i hi ei => ⟨fun z => absurd z (by decide), fun _ => ?_⟩) (fun z => ⟨fun _ => hfin w' _ (EqQ.rf w'), fun y => absurd rfl y⟩)
    rw [ei]
    exact m_byteOf hT hat.2.2.1 hcl hi (hfin w' _ (EqQ.rf w'))
  have c77m : ∀ x : Int32, ¬ x = 0 → P_X4_back_77 K w' k x := by
    intro x hx
    unfold P_X4_back_77
    exact ⟨fun z => absurd z hx, fun _ => ⟨fun _ => ⟨fun _ => ⟨fun _ => c130 31 (by decide), fun _ => c130 18 (by decide)⟩, fun _ => c130 17 (by decide)⟩, fun _ => c130 16 (by decide)⟩⟩
  rw [a.2.2.2.2.1, a.2.2.2.2.2.1]
  refine m_isMissing hT hat.2.2.1 hcl a.2.1.2.2 ?_
  cases e2 : misB co (tLen (tbOf S (sU S)) (cel (tbOf S (sU S)) col r)) (tb (tbOf S (sU S)) (cel (tbOf S (sU S)) col r)) with
  | true => exact ⟨fun z => c77m _ z, fun z => absurd z (by decide)⟩
  | false =>
    have e3 : mis (tbOf S (sU S)) col co r = false := e2
    obtain ⟨c0, hc0, ht⟩ := told_all a.2.1.1.2.1 ep (plain_i hT ep).1 e3
    have hv2 : md_value w' = Int32.toInt64 (tellV fo (tLen (tbOf S (sU S)) (cel (tbOf S (sU S)) col r)) (tb (tbOf S (sU S)) (cel (tbOf S (sU S)) col r))) := by
      rw [hv]
      unfold wV
      rw [if_neg (by rw [e3]; decide), hc0, if_pos (show tellR (tbOf S (sU S)) col fo co (Option.getD (some c0) 0) r = true from ht)]
    refine ⟨fun z => absurd rfl z, fun _ => ⟨fun _ => c48, fun z0 => ⟨fun z31 => ?_, fun _ => c48⟩⟩⟩
    unfold P_X4_back_77
    rw [efo]
    refine ⟨fun _ => ⟨fun z7 => ⟨fun z22 => ?_, fun z22 => ?_⟩, fun z7 => ?_⟩, fun z => absurd rfl z⟩
    · have y22 := (nI_leI (a := 22) (by decide) (by omega)).mp z22
      have y31 : fo ≠ 31 := fun q => z31 (by rw [q]; rfl)
      exact m_writeDay out0 a.2.2.2.2.1 y22 (by omega) (fun u' hu' => c184 u' 10 (by decide) hu')
    · have y7 := (nI_leI (a := 7) (by decide) (by omega)).mp z7
      have y21 : fo ≤ 21 := by
        rcases Nat.lt_or_ge 21 fo with q | q
        · exact absurd (nI_le (a := 22) q (by omega)) z22
        · exact q
      have ht2 : tellOK fo (decide (co = 4)) (tLen (tbOf S (sU S)) (cel (tbOf S (sU S)) col r)) (tb (tbOf S (sU S)) (cel (tbOf S (sU S)) col r)) (tLen (tbOf S (sU S)) c0) (tb (tbOf S (sU S)) c0) = true := ht
      unfold tellOK at ht2
      rw [if_neg (by omega), if_neg (by omega), if_pos y21] at ht2
      unfold tellV at hv2
      rw [if_neg (by omega), if_neg (by omega), if_pos y21] at hv2
      cases q : numR fo (tLen (tbOf S (sU S)) (cel (tbOf S (sU S)) col r)) (tb (tbOf S (sU S)) (cel (tbOf S (sU S)) col r)) with
      | none => rw [q] at ht2; exact absurd (show false = true from ht2) (by decide)
      | some s =>
        rw [q] at hv2
        have sd := numR_dg q
        exact m_writeNumber out0 a.2.2.2.2.1 y7 y21 (hv2.trans (sg_l sd.1)) sd.1 (numR_ng q) c184
    · have y6 : fo ≤ 6 := by
        rcases Nat.lt_or_ge 6 fo with q | q
        · exact absurd (nI_le (a := 7) q (by omega)) z7
        · exact q
      have y1 : 1 ≤ fo := by
        rcases Nat.eq_zero_or_pos fo with q | q
        · exact absurd (by rw [q]; rfl) z0
        · exact q
      refine m_flag y1 y6 (m_writeWord out0 ?_ (by decide) c184)
      split <;> omega
