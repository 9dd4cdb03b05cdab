theorem nRun_add {f : Nat → Nat} {e b pt : Nat} {th : Int32} : ∀ (d1 d2 k : Nat) (s : Nat × Nat), nRun f e b pt th (d1 + d2) k s = match nRun f e b pt th d1 k s with
    | some s' => nRun f e b pt th d2 (k + d1) s'
    | none => none := by
  intro d1
  induction d1 with
  | zero => intro d2 k s; rw [Nat.zero_add]; rfl
  | succ d1 ih =>
    intro d2 k s
    rw [show d1 + 1 + d2 = (d1 + d2) + 1 by omega]
    show (match nStep f e b pt th k s with
      | some s' => nRun f e b pt th (d1 + d2) (k + 1) s'
      | none => none) = match (match nStep f e b pt th k s with
      | some s' => nRun f e b pt th d1 (k + 1) s'
      | none => none) with
      | some s' => nRun f e b pt th d2 (k + (d1 + 1)) s'
      | none => none
    cases nStep f e b pt th k s with
    | none => rfl
    | some s' =>
      show nRun f e b pt th (d1 + d2) (k + 1) s' = _
      rw [ih d2 (k + 1) s', show k + 1 + d1 = k + (d1 + 1) by omega]
theorem lg_0 {v : Nat} (hv : v < 2 ^ 63) : lg_cmp (lN v) 0 = 0 ↔ v = 0 := by
  unfold lg_cmp
  have e : (lN v = 0) ↔ v = 0 := pk_lEQ (b := 0) hv (by decide)
  by_cases z : v = 0
  · subst z
    decide
  · have g : lN v > 0 := (pk_lLT (a := 0) (by decide) hv).mpr (by omega)
    rw [if_pos g]
    exact ⟨fun x => absurd x (by decide), fun x => absurd x z⟩
theorem m_num225 {w : MW} {T : Tb} {K : Int32 → MW → Prop} {E : MW → Prop} {c form e b : Nat} {v5 : Int32} (hT : tWF T) (h : RepM w T) (hc : c < tN T) : ∀ d k v dg, k + d = tLen T c → dg ≤ 9 → e < k →
    (∀ v' dg', nRun (tb T c) e b (ptN form) (thN form) d k (v, dg) = some (v', dg') → E (vm w (lN v') (nI dg'))) → (nRun (tb T c) e b (ptN form) (thN form) d k (v, dg) = none → ∀ x y, K 0 (vm w x y)) →
    P_X4_isNumber_225 K E (nI c) (nI (tLen T c)) v5 (d + 1) (vm w (lN v) (nI dg)) (nI k) := by
  have hl := tLen_le hT hc
  intro d
  induction d with
  | zero =>
    intro k v dg ek hd hek h1 h2
    have : k = tLen T c := by omega
    subst this
    exact ⟨fun _ => h1 v dg rfl, fun z => absurd (Int32.le_refl _) z⟩
  | succ d ih =>
    intro k v dg ek hd hek h1 h2
    have b1 := tb_lt hT hc (k := k) (by omega)
    have hdu : due e k (ptN form) (thN form) = m1 := by
      unfold due
      rw [if_neg (by omega), if_neg (fun x => by omega)]
    have nr : nRun (tb T c) e b (ptN form) (thN form) (d + 1) k (v, dg) = match nStep (tb T c) e b (ptN form) (thN form) k (v, dg) with
        | some s' => nRun (tb T c) e b (ptN form) (thN form) d (k + 1) s'
        | none => none := rfl
    have st : nStep (tb T c) e b (ptN form) (thN form) k (v, dg) = if (48 ≤ tb T c k ∧ tb T c k ≤ 57) ∧ dg ≠ 9 then some (v * 10 + (tb T c k - 48), dg + 1) else none := by
      unfold nStep
      rw [if_pos hdu]
    rw [st] at nr
    refine ⟨fun z => absurd z (nI_ge (by omega) (by omega)), fun _ => m_byteOf hT (rep_v h _ _) hc (by omega) (m_isDigit b1 ?_)⟩
    by_cases z : 48 ≤ tb T c k ∧ tb T c k ≤ 57
    · rw [decide_eq_true z]
      refine ⟨fun y => absurd y (by decide), fun _ => m_byteOf hT (rep_v h _ _) hc (by omega) (m_more hd z.1 z.2 ?_)⟩
      by_cases z9 : dg = 9
      · rw [if_neg (fun x => x.2 z9)] at nr
        rw [decide_eq_false (fun x => x z9)]
        exact ⟨fun y => absurd rfl y, fun _ => h2 nr _ _⟩
      · rw [if_pos ⟨z, z9⟩] at nr
        rw [decide_eq_true z9]
        refine ⟨fun _ => ?_, fun y => absurd y (by decide)⟩
        rw [nI_1]
        exact ih (k + 1) _ _ (by omega) (by omega) (by omega) (fun v' dg' q => h1 v' dg' (nr.trans q)) (fun q => h2 (nr.trans q))
    · rw [if_neg (fun x => z x.1)] at nr
      rw [decide_eq_false z]
      exact ⟨fun _ => h2 nr _ _, fun y => absurd rfl y⟩
def sgL (v : Nat) (ng : Bool) : Int64 := if ng then -(lN v) else lN v
theorem m_num50 {w : MW} {T : Tb} {K : Int32 → MW → Prop} {c form e b : Nat} (hT : tWF T) (h : RepM w T) (hc : c < tN T) (h7 : 7 ≤ form) (h21 : form ≤ 21) (hb : b ≤ 1) (he : (decN form = 0 ∧ e = tLen T c) ∨ (0 < decN form ∧ e + decN form + 1 = tLen T c))
    (hk : ∀ x y, (∀ s, numE form (tLen T c) (tb T c) e b = some s → x = sgL s.1 s.2.2 ∧ y = nI s.2.1) → K (bI (numE form (tLen T c) (tb T c) e b).isSome) (vm w x y)) : P_X4_isNumber_50 K w (nI c) (nI form) (nI (tLen T c)) (nI (decN form)) (nI b) (nI e) := by
  have hl := tLen_le hT hc
  have hdn := decN_le h21
  have no : numE form (tLen T c) (tb T c) e b = none → ∀ x y, K 0 (vm w x y) := fun q x y => by
    have := hk x y (fun s r => by rw [q] at r; cases r)
    rw [q] at this
    exact this
  unfold P_X4_isNumber_50
  have e00 : md_digits_s (md_value_s w (0 : Int64)) (0 : Int32) = vm w (lN 0) (nI 0) := rfl
  rw [e00]
  refine ⟨fun z => ?_, fun z => ?_⟩
  · have z := (nI_leI (by omega) (by omega)).mp z
    refine no ?_ _ _
    unfold numE
    rw [if_pos z]
  · have hbe : b < e := by
      rcases Nat.lt_or_ge b e with x | x
      · exact x
      · exact absurd (nI_le x (by omega)) z
    have hbl : b < tLen T c := by omega
    -- behind the sign of the point
    have main : (0 < decN form → tb T c e = ptN form) → P_X4_isNumber_90 K (vm w (lN 0) (nI 0)) (nI c) (nI form) (nI (tLen T c)) (nI b) (nI e) := by
      intro hpt
      unfold P_X4_isNumber_90
      have spl := nRun_add (f := tb T c) (e := e) (b := b) (pt := ptN form) (th := thN form) (e - b) (tLen T c - e) b (0, 0)
      rw [show e - b + (tLen T c - e) = tLen T c - b by omega, show b + (e - b) = e by omega] at spl
      have un2 : ¬ (1 < e - b ∧ tb T c b = 48) → numE form (tLen T c) (tb T c) e b = match nRun (tb T c) e b (ptN form) (thN form) (tLen T c - b) b (0, 0) with
          | none => none
          | some s => if b = 1 ∧ s.1 = 0 then none else some (s.1, s.2, decide (b = 1)) := by
        intro q
        unfold numE
        rw [if_neg (by omega), if_neg q]
        cases nRun (tb T c) e b (ptN form) (thN form) (tLen T c - b) b (0, 0) <;> rfl
      refine ⟨e - b + 1, m_num94 hT h hc h7 h21 (by omega) (e - b) b 0 0 (by omega) (by decide) (Nat.le_refl _) (fun v dg hv => ?_) (fun hv => no ?_)⟩
      · rw [hv] at spl
        have spl2 : nRun (tb T c) e b (ptN form) (thN form) (tLen T c - b) b (0, 0) = nRun (tb T c) e b (ptN form) (thN form) (tLen T c - e) e (v, dg) := spl
        have lt1 := nRun_lt hv (by decide) (by decide)
        -- the rest behind the whole part
        have fin : ∀ v' dg', nRun (tb T c) e b (ptN form) (thN form) (tLen T c - e) e (v, dg) = some (v', dg') → ¬ (1 < e - b ∧ tb T c b = 48) → (¬ nI b = (1 : Int32) → P_X4_isNumber_283 K (vm w (lN v') (nI dg')) (nI b)) ∧ (nI b = (1 : Int32) → (¬ (lg_cmp (md_value (vm w (lN v') (nI dg'))) (0 : Int64)) = 0 → P_X4_isNumber_283 K (vm w (lN v') (nI dg')) (nI b)) ∧ ((lg_cmp (md_value (vm w (lN v') (nI dg'))) (0 : Int64)) = 0 → K (0 : Int32) (vm w (lN v') (nI dg')))) := by
          intro v' dg' hv' nz
          have lt2 := nRun_lt hv' lt1.1 lt1.2
          have vs : v' < 2 ^ 63 := by
            have h9 : 10 ^ dg' ≤ 10 ^ 9 := Nat.pow_le_pow_right (by decide) lt2.2
            have := lt2.1
            dsimp only at this
            have : (10 : Nat) ^ 9 < 2 ^ 63 := by decide
            omega
          have eE := un2 nz
          rw [spl2, hv'] at eE
          rw [vm_a]
          rcases (show b = 0 ∨ b = 1 by omega) with eb | eb
          · subst eb
            have eE2 : numE form (tLen T c) (tb T c) e 0 = some (v', dg', false) := eE
            have q := hk (lN v') (nI dg') (fun s r => by rw [eE2] at r; cases r; exact ⟨rfl, rfl⟩)
            rw [eE2] at q
            exact ⟨fun _ => ⟨fun _ => q, fun x => absurd x (by decide)⟩, fun x => absurd x (by decide)⟩
          · subst eb
            refine ⟨fun x => absurd rfl x, fun _ => ⟨fun x => ?_, fun x => ?_⟩⟩
            · have v0 : v' ≠ 0 := fun y => x ((lg_0 vs).mpr y)
              have eE2 : numE form (tLen T c) (tb T c) e 1 = some (v', dg', true) := by
                rw [eE]
                exact if_neg (fun r => v0 r.2)
              have q := hk (-(lN v')) (nI dg') (fun s r => by rw [eE2] at r; cases r; exact ⟨rfl, rfl⟩)
              rw [eE2] at q
              unfold P_X4_isNumber_283
              rw [vm_a, vm_vs]
              exact ⟨fun y => absurd rfl y, fun _ => q⟩
            · have v0 : v' = 0 := (lg_0 vs).mp x
              refine no ?_ _ _
              rw [eE]
              exact if_pos ⟨rfl, v0⟩
        have c219 : ¬ (1 < e - b ∧ tb T c b = 48) → P_X4_isNumber_219 K (vm w (lN v) (nI dg)) (nI c) (nI (tLen T c)) (nI b) (nI e) := by
          intro nz
          unfold P_X4_isNumber_219
          rw [nI_1]
          rcases he with ⟨d0, en⟩ | ⟨d1, en⟩
          · refine ⟨1, ⟨fun _ => fin v dg ?_ nz, fun x => absurd (nI_le (by omega) (by omega)) x⟩⟩
            rw [show tLen T c - e = 0 by omega]
            rfl
          · have hpe := hpt d1
            have nmp : ¬ nI (ptN form) = m1 := by
              unfold ptN
              split
              · decide
              · split <;> decide
            have st : nRun (tb T c) e b (ptN form) (thN form) (tLen T c - e) e (v, dg) = nRun (tb T c) e b (ptN form) (thN form) (tLen T c - (e + 1)) (e + 1) (v, dg) := by
              rw [show tLen T c - e = (tLen T c - (e + 1)) + 1 by omega]
              show (match nStep (tb T c) e b (ptN form) (thN form) e (v, dg) with
                | some s' => nRun (tb T c) e b (ptN form) (thN form) (tLen T c - (e + 1)) (e + 1) s'
                | none => none) = _
              have du : due e e (ptN form) (thN form) = nI (ptN form) := if_pos rfl
              have : nStep (tb T c) e b (ptN form) (thN form) e (v, dg) = some (v, dg) := by
                unfold nStep
                rw [du, if_neg nmp, if_pos ⟨by rw [hpe], by omega⟩]
              rw [this]
            exact ⟨tLen T c - (e + 1) + 1, m_num225 hT h hc (tLen T c - (e + 1)) (e + 1) v dg (by omega) lt1.2 (by omega) (fun v' dg' q => fin v' dg' (st.trans q) nz) (fun q => no (by rw [un2 nz, spl2, st, q]))⟩
        refine m_byteOf hT (rep_v h _ _) hc hbl ?_
        have b1 := tb_lt hT hc hbl
        rw [show nI e - nI b = nI (e - b) from sub_n (by omega)]
        refine ⟨fun x => c219 (fun y => x (by rw [y.2]; rfl)), fun x => ⟨fun y => c219 (fun q => ?_), fun y => no ?_ _ _⟩⟩
        · have := (nI_leI (b := 1) (by omega) (by decide)).mp y
          omega
        · have x0 : tb T c b = 48 := (nI_eq (b := 48) (by omega) (by decide)).mp x
          have y0 : 1 < e - b := by
            rcases Nat.lt_or_ge 1 (e - b) with q | q
            · exact q
            · exact absurd (nI_le (b := 1) q (by decide)) y
          unfold numE
          rw [if_neg (by omega), if_pos ⟨y0, x0⟩]
      · by_cases nz : 1 < e - b ∧ tb T c b = 48
        · unfold numE
          rw [if_neg (by omega), if_pos nz]
        · rw [un2 nz, spl, hv]
    rcases he with ⟨d0, en⟩ | ⟨d1, en⟩
    · rw [d0]
      exact ⟨fun _ => main (fun x => by omega), fun x => absurd (Int32.le_refl 0) x⟩
    · refine ⟨fun x => absurd x (nI_nle d1 (by omega)), fun _ => m_byteOf hT (rep_v h _ _) hc (by omega) (m_pointOf ?_ h21 ⟨fun x => main (fun _ => ?_), fun x => no ?_ _ _⟩)⟩
      · unfold decN at d1
        split at d1 <;> omega
      · have b1 := tb_lt hT hc (k := e) (by omega)
        have pl : ptN form < 256 := by unfold ptN; split; decide; split <;> decide
        exact (nI_eq (by omega) (by omega)).mp x
      · -- the point is missing
        have nmp : ¬ nI (ptN form) = m1 := by
          unfold ptN
          split
          · decide
          · split <;> decide
        have spl := nRun_add (f := tb T c) (e := e) (b := b) (pt := ptN form) (th := thN form) (e - b) (tLen T c - e) b (0, 0)
        rw [show e - b + (tLen T c - e) = tLen T c - b by omega, show b + (e - b) = e by omega] at spl
        unfold numE
        rw [if_neg (by omega)]
        split
        · rfl
        · rw [spl]
          cases nRun (tb T c) e b (ptN form) (thN form) (e - b) b (0, 0) with
          | none => rfl
          | some s =>
            show (match nRun (tb T c) e b (ptN form) (thN form) (tLen T c - e) e s with
              | none => none
              | some s => if b = 1 ∧ s.1 = 0 then none else some (s.1, s.2, decide (b = 1))) = none
            have du : due e e (ptN form) (thN form) = nI (ptN form) := if_pos rfl
            have q : nStep (tb T c) e b (ptN form) (thN form) e s = none := by
              unfold nStep
              rw [du, if_neg nmp, if_neg (fun r => x r.1)]
            have q2 : nRun (tb T c) e b (ptN form) (thN form) (tLen T c - e) e s = none := by
              rw [show tLen T c - e = (tLen T c - (e + 1)) + 1 by omega]
              show (match nStep (tb T c) e b (ptN form) (thN form) e s with
                | some s' => nRun (tb T c) e b (ptN form) (thN form) (tLen T c - (e + 1)) (e + 1) s'
                | none => none) = _
              rw [q]
            rw [q2]
theorem short_f : ∀ n, n < 4 → ∀ d, d < 4 → n < d + 1 → ∀ b, b < 2 → (nI n - nI d) - (1 : Int32) ≤ nI b := by decide
theorem m_isNumber {w : MW} {T : Tb} {K : Int32 → MW → Prop} {c form : Nat} (hT : tWF T) (h : RepM w T) (hc : c < tN T) (h7 : 7 ≤ form) (h21 : form ≤ 21)
    (hk : ∀ x y, (∀ s, numR form (tLen T c) (tb T c) = some s → x = sgL s.1 s.2.2 ∧ y = nI s.2.1) → K (bI (numR form (tLen T c) (tb T c)).isSome) (vm w x y)) : P_X4_isNumber K w (nI c) (nI form) := by
  have hN := tN_le hT
  have hl := tLen_le hT hc
  have hdn := decN_le h21
  have c33 : ∀ b, b ≤ 1 → b = (if 0 < tLen T c ∧ tb T c 0 = 45 then 1 else 0) → P_X4_isNumber_33 K w (nI c) (nI form) (nI (tLen T c)) (nI (decN form)) (nI b) := by
    intro b hb eb
    unfold P_X4_isNumber_33
    unfold numR at hk
    rw [← eb] at hk
    refine ⟨fun z => ?_, fun z => ?_⟩
    · have d0 : decN form = 0 := by
        rcases Nat.eq_zero_or_pos (decN form) with e | e
        · exact e
        · exact absurd z (nI_nle e (by omega))
      rw [if_neg (by omega), if_neg (by omega)] at hk
      exact m_num50 hT h hc h7 h21 hb (Or.inl ⟨d0, rfl⟩) hk
    · have d1 : 0 < decN form := by
        rcases Nat.eq_zero_or_pos (decN form) with e | e
        · exact absurd (by rw [e]; exact Int32.le_refl 0) z
        · exact e
      by_cases y : tLen T c < decN form + 1
      · rw [if_pos ⟨d1, y⟩] at hk
        unfold P_X4_isNumber_50
        have q := hk (lN 0) (nI 0) (fun s r => by cases r)
        have sf := short_f (tLen T c) (by omega) (decN form) (by omega) y b (by omega)
        exact ⟨fun _ => q, fun x => absurd sf x⟩
      · rw [if_neg (fun x => y x.2), if_pos d1] at hk
        rw [show (nI (tLen T c) - nI (decN form)) - (1 : Int32) = nI (tLen T c - decN form - 1) by rw [sub_n (by omega)]; exact pk_sub (b := 1) (by omega)]
        exact m_num50 hT h hc h7 h21 hb (Or.inr ⟨d1, by omega⟩) hk
  unfold P_X4_isNumber P_X4_isNumber_32
  rw [nI_clamp (by omega), h.2.2.2.1 c hc]
  refine ⟨vp_in_nI (by omega) (by decide), m_decimals h7 h21 ⟨fun z => ?_, fun z => ?_⟩⟩
  · have z0 : tLen T c = 0 := by
      rcases Nat.eq_zero_or_pos (tLen T c) with e | e
      · exact e
      · exact absurd z (nI_nle e (by omega))
    exact c33 0 (by decide) (by rw [if_neg (by omega)])
  · have z0 : 0 < tLen T c := by
      rcases Nat.eq_zero_or_pos (tLen T c) with e | e
      · exact absurd (by rw [e]; exact Int32.le_refl 0) z
      · exact e
    have b1 := tb_lt hT hc z0
    refine m_byteOf (k := 0) hT h hc z0 ⟨fun y => ?_, fun y => ?_⟩
    · exact c33 0 (by decide) (by rw [if_neg (fun x => y (by rw [x.2]; rfl))])
    · have y0 := (nI_eq (b := 45) (by omega) (by decide)).mp y
      exact c33 1 (by decide) (by rw [if_pos ⟨z0, y0⟩])
