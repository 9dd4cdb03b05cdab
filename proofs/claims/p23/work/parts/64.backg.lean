theorem numR_len {fm n : Nat} {g : Nat → Nat} {s : Nat × Nat × Bool} (h7 : 7 ≤ fm) (h21 : fm ≤ 21) (hs : numR fm n g = some s) : n ≤ 20 := by
  have hdc := decN_le h21
  have hpt := ptN_ne fm
  have E : ∀ e b, ((decN fm = 0 ∧ e = n) ∨ (0 < decN fm ∧ e + decN fm + 1 = n)) → b ≤ 1 → numE fm n g e b = some s → n ≤ 20 := by
    intro e b he hb hs
    have sd := numE_dg hs
    unfold numE at hs
    by_cases c3 : e ≤ b
    · rw [if_pos c3] at hs; cases hs
    rw [if_neg c3] at hs
    by_cases c4 : 1 < e - b ∧ g b = 48
    · rw [if_pos c4] at hs; cases hs
    rw [if_neg c4] at hs
    cases q : nRun g e b (ptN fm) (thN fm) (n - b) b (0, 0) with
    | none => rw [q] at hs; cases hs
    | some t =>
      rw [q] at hs
      dsimp only at hs
      by_cases c5 : b = 1 ∧ t.1 = 0
      · rw [if_pos c5] at hs; cases hs
      · rw [if_neg c5] at hs
        have hs := Option.some.inj hs
        subst hs
        obtain ⟨r1, r2, r3⟩ := nR_val (n - b) b 0 0 t.1 t.2 q
        have := cD_lt (th := thN fm) hpt he (e - b) (by omega)
        rw [show e - (e - b) = b by omega] at this
        have d9 : t.2 ≤ 9 := sd.2
        rw [Nat.zero_add] at r2
        rw [← r2] at this
        have dw : e - b ≤ dWN (thN fm) (e - b) + (e - b) / 4 := by
          unfold dWN
          split <;> omega
        rcases he with p | p <;> omega
  unfold numR at hs
  by_cases c1 : 0 < decN fm ∧ n < decN fm + 1
  · rw [if_pos c1] at hs; cases hs
  rw [if_neg c1] at hs
  refine E _ _ ?_ ?_ hs
  · by_cases c2 : 0 < decN fm
    · rw [if_pos c2]; exact Or.inr ⟨c2, by omega⟩
    · rw [if_neg c2]; exact Or.inl ⟨by omega, rfl⟩
  · split <;> decide
theorem M_backf {S : Sx} {w : MW} {K : Int32 → MW → Prop} {rw v k : Int32} (hS : SOK S) (h : IM S w) (hk0 : ∀ w', IM S w' → KnE w w' → NoR S rw v → K m1 w')
    (hk1 : ∀ w' r col fo co pr, v = nI col → col < tW (tbOf S (sU S)) → BeC S col fo co pr → rw = nI r → tPlain (tbOf S (sU S)) (hdB (sU S)) r = true → IM S w' → KnE w w' → K (byteA (tbOf S (sU S)) (nI (cel (tbOf S (sU S)) col r)) k) w') : P_X4_back K w rw v k := by
  have hT := tb_wf hS (sU S)
  have hN := tN_le hT
  unfold P_X4_back
  refine M_told hS h (fun w' a b c => ⟨fun z => absurd z (by decide), fun _ => hk0 w' a b c⟩) (fun w' r col fo co pr e er ep a hv b => ⟨fun _ => ?_, fun z => absurd (nI_pos' (by have := cel_lt hT ep a.1; omega)) z⟩)
  have hcl := cel_lt hT ep a.1
  have hat := a.2.2.1
  have hl := tLen_le hT hcl
  have gl : ∀ i, i < tLen (tbOf S (sU S)) (cel (tbOf S (sU S)) col r) → tb (tbOf S (sU S)) (cel (tbOf S (sU S)) col r) i < 256 := fun i hi => tb_lt hT hcl hi
  have hfin : ∀ u, EqQ w' u → K (byteA (tbOf S (sU S)) (nI (cel (tbOf S (sU S)) col r)) k) u := fun u x => hk1 u r col fo co pr e a.1 a.2.1 er ep ((hat.q x).i hS.2.2.2) (b.tr x.kn)
  have out0 : OuF w' (tb (tbOf S (sU S)) (cel (tbOf S (sU S)) col r)) 0 (md_outs_s w' (0 : Int32)) := by
    refine ⟨⟨?_, ?_, ?_, ?_, ?_⟩, fun i hi => absurd hi (Nat.not_lt_zero i)⟩
    · refine ⟨⟨?_, ?_, ?_, ?_, ?_⟩, ?_, ⟨?_, ?_, ?_, ?_, ?_⟩, ?_, ?_, ?_, ?_, ?_⟩ <;> simp only [gs_md_outs]
    · simp only [gs_md_outs]
    · simp only [gs_md_outs]
    · simp only [gs_md_outs]
    · simp only [gs_md_outs]; rfl
  have bA : byteA (tbOf S (sU S)) (nI (cel (tbOf S (sU S)) col r)) k = rg (tLen (tbOf S (sU S)) (cel (tbOf S (sU S)) col r)) (fun i => nI (tb (tbOf S (sU S)) (cel (tbOf S (sU S)) col r) i)) m1 k := by
    unfold byteA
    exact rg_i (by omega) hcl rfl
  have c184 : tLen (tbOf S (sU S)) (cel (tbOf S (sU S)) col r) ≤ 20 → ∀ u, OuF w' (tb (tbOf S (sU S)) (cel (tbOf S (sU S)) col r)) (tLen (tbOf S (sU S)) (cel (tbOf S (sU S)) col r)) u → P_X4_back_184 K u k := by
    intro l20 u hu
    have kf := hfin u hu.1.1
    rw [bA] at kf
    have kk := rg_k (P := fun q => K q u) (by omega) kf
    unfold P_X4_back_184
    rw [hu.1.2.2.2.2]
    refine m_in (by omega) (fun i hi ei => ⟨fun z => absurd z (by decide), fun _ => ⟨?_, ?_⟩⟩) (fun z => ⟨fun _ => kk.2 z, fun y => absurd rfl y⟩)
    · rw [ei]; exact vp_in_nI (by omega) (by decide)
    · have k1 := kk.1 i hi ei
      rw [ei, nI_clamp (by omega), hu.2 i hi]
      exact k1
  have word : ∀ j i, j < 32 → sxB j = sxB i → isW (tLen (tbOf S (sU S)) (cel (tbOf S (sU S)) col r)) (tb (tbOf S (sU S)) (cel (tbOf S (sU S)) col r)) i = true → P_X4_writeWord (fun w_9 => P_X4_back_184 K w_9 k) (md_outs_s w' (0 : Int32)) j := by
    intro j i hj hs hw
    rw [← isW_eq hs] at hw
    have l5 : tLen (tbOf S (sU S)) (cel (tbOf S (sU S)) col r) ≤ 20 := by
      have := (of_decide_eq_true hw).1
      have := sx_len5 j hj
      omega
    exact m_writeWordF out0 hj hw (c184 l5)
  have fl := a.2.1.2.1
  have c48 : P_X4_back_48 K w' k (nI (cel (tbOf S (sU S)) col r)) := by
    have kf := hfin w' (EqQ.rf w')
    rw [bA] at kf
    have kk := rg_k (P := fun q => K q w') (by omega) kf
    unfold P_X4_back_48
    refine ⟨vp_in_nI (by omega) (by decide), ?_⟩
    rw [nI_clamp (by omega), hat.2.2.1.2.2.2.1 _ hcl]
    refine m_in (by omega) (fun i hi ei => ⟨fun z => absurd z (by decide), fun _ => ?_⟩) (fun z => ⟨fun _ => kk.2 z, fun y => absurd rfl y⟩)
    have k1 := kk.1 i hi ei
    rw [ei]
    exact m_byteOf hT hat.2.2.1 hcl hi k1
  have efo : md_bestForm (md_outs_s w' (0 : Int32)) = nI fo := by rw [out0.1.2.1]; exact a.2.2.2.2.1
  have eco : md_bestCode (md_outs_s w' (0 : Int32)) = nI co := by rw [out0.1.2.2.1]; exact a.2.2.2.2.2.1
  have evl : md_value (md_outs_s w' (0 : Int32)) = md_value w' := out0.1.2.2.2.1
  have hco := a.2.1.2.2
  have c77m : misB co (tLen (tbOf S (sU S)) (cel (tbOf S (sU S)) col r)) (tb (tbOf S (sU S)) (cel (tbOf S (sU S)) col r)) = true → ∀ x : Int32, ¬ x = 0 → P_X4_back_77 K w' k x := by
    intro hm x hx
    unfold misB at hm
    unfold P_X4_back_77 P_X4_back_130
    rw [eco]
    refine ⟨fun z => absurd z hx, fun _ => ?_⟩
    rcases (show co = 0 ∨ co = 1 ∨ co = 2 ∨ co = 3 ∨ co = 4 by omega) with q | q | q | q | q <;> subst q
    · rw [if_neg (by omega)] at hm; exact absurd hm (by decide)
    · rw [if_pos (by omega)] at hm
      exact ⟨fun _ => ⟨fun _ => ⟨fun _ => word 31 0 (by decide) (by decide) hm, fun z => absurd z (by decide)⟩, fun z => absurd z (by decide)⟩, fun z => absurd z (by decide)⟩
    · rw [if_pos (by omega)] at hm
      exact ⟨fun z => absurd rfl z, fun _ => word 16 1 (by decide) (by decide) hm⟩
    · rw [if_pos (by omega)] at hm
      exact ⟨fun _ => ⟨fun z => absurd rfl z, fun _ => word 17 2 (by decide) (by decide) hm⟩, fun z => absurd z (by decide)⟩
    · rw [if_pos (by omega)] at hm
      exact ⟨fun _ => ⟨fun _ => ⟨fun z => absurd rfl z, fun _ => word 18 3 (by decide) (by decide) hm⟩, fun z => absurd z (by decide)⟩, fun z => absurd z (by decide)⟩
  rw [a.2.2.2.2.1, a.2.2.2.2.2.1]
  refine m_isMissing hT hat.2.2.1 hcl hco ?_
  cases e2 : misB co (tLen (tbOf S (sU S)) (cel (tbOf S (sU S)) col r)) (tb (tbOf S (sU S)) (cel (tbOf S (sU S)) col r)) with
  | true => exact ⟨fun z => c77m e2 _ z, fun z => absurd z (by decide)⟩
  | false =>
    have e3 : mis (tbOf S (sU S)) col co r = false := e2
    obtain ⟨c0, hc0, ht⟩ := told_all a.2.1.1.2.1 ep (plain_i hT ep).1 e3
    have hv2 : md_value w' = Int32.toInt64 (tellV fo (tLen (tbOf S (sU S)) (cel (tbOf S (sU S)) col r)) (tb (tbOf S (sU S)) (cel (tbOf S (sU S)) col r))) := by
      rw [hv]
      unfold wV
      rw [if_neg (by rw [e3]; decide), hc0, if_pos (show tellR (tbOf S (sU S)) col fo co (Option.getD (some c0) 0) r = true from ht)]
    have ht2 : tellOK fo (decide (co = 4)) (tLen (tbOf S (sU S)) (cel (tbOf S (sU S)) col r)) (tb (tbOf S (sU S)) (cel (tbOf S (sU S)) col r)) (tLen (tbOf S (sU S)) c0) (tb (tbOf S (sU S)) c0) = true := ht
    refine ⟨fun z => absurd rfl z, fun _ => ⟨fun _ => c48, fun z0 => ⟨fun z31 => ?_, fun _ => c48⟩⟩⟩
    have y0 : fo ≠ 0 := fun q => z0 (by rw [q]; rfl)
    have y31 : fo ≠ 31 := fun q => z31 (by rw [q]; rfl)
    unfold tellOK at ht2
    unfold tellV at hv2
    rw [if_neg y0] at ht2 hv2
    unfold P_X4_back_77
    rw [efo, evl]
    refine ⟨fun _ => ⟨fun z7 => ⟨fun z22 => ?_, fun z22 => ?_⟩, fun z7 => ?_⟩, fun z => absurd rfl z⟩
    · have y22 := (nI_leI (a := 22) (by decide) (by omega)).mp z22
      rw [if_neg (by omega), if_neg (by omega), if_pos (by omega)] at ht2 hv2
      cases q : dayV fo (tLen (tbOf S (sU S)) (cel (tbOf S (sU S)) col r)) (tb (tbOf S (sU S)) (cel (tbOf S (sU S)) col r)) with
      | none => rw [q] at ht2; exact absurd ht2 (by decide)
      | some u =>
        rw [q] at hv2
        have n10 : tLen (tbOf S (sU S)) (cel (tbOf S (sU S)) col r) = 10 := by
          by_cases t : tLen (tbOf S (sU S)) (cel (tbOf S (sU S)) col r) = 10
          · exact t
          · unfold dayV at q; rw [if_neg t] at q; cases q
        have ul : u < 2 ^ 31 := by
          have nl : ∀ k v, numV (tb (tbOf S (sU S)) (cel (tbOf S (sU S)) col r)) k 2 = some v → v < 100 := fun k v e => numV_lt e
          have g0 : ∀ p1 p2 py pm pd, dayG (tb (tbOf S (sU S)) (cel (tbOf S (sU S)) col r)) (btN fo) p1 p2 py pm pd = some u → u < 2 ^ 31 := by
            intro p1 p2 py pm pd hg
            unfold dayG at hg
            split at hg
            · obtain ⟨_, _, _, _, _, _, _, _, _, vl, _⟩ := dayE_p (nl pm) (nl pd) hg
              exact vl
            · cases hg
          have q2 := q
          unfold dayV at q2
          rw [if_pos n10] at q2
          split at q2
          · exact g0 _ _ _ _ _ q2
          · split at q2
            · exact g0 _ _ _ _ _ q2
            · exact g0 _ _ _ _ _ q2
        have hv3 : md_value w' = lN u := by rw [hv2]; exact nI_l ul
        exact m_writeDayF out0 a.2.2.2.2.1 y22 (by omega) hv3 q (c184 (by omega))
    · have y7 := (nI_leI (a := 7) (by decide) (by omega)).mp z7
      have y21 : fo ≤ 21 := by
        rcases Nat.lt_or_ge 21 fo with q | q
        · exact absurd (nI_le (a := 22) q (by omega)) z22
        · exact q
      rw [if_neg (by omega), if_pos y21] at ht2 hv2
      cases q : numR fo (tLen (tbOf S (sU S)) (cel (tbOf S (sU S)) col r)) (tb (tbOf S (sU S)) (cel (tbOf S (sU S)) col r)) with
      | none => rw [q] at ht2; exact absurd (show false = true from ht2) (by decide)
      | some s =>
        rw [q] at hv2
        have sd := numR_dg q
        refine m_writeNumberF out0 gl a.2.2.2.2.1 y7 y21 (hv2.trans (sg_l sd.1)) q (fun u' hu' => c184 ?_ u' hu')
        exact numR_len y7 y21 q
    · have y6 : fo ≤ 6 := by
        rcases Nat.lt_or_ge 6 fo with q | q
        · exact absurd (nI_le (a := 7) q (by omega)) z7
        · exact q
      have y1 : 1 ≤ fo := by omega
      rw [if_pos y6] at ht2 hv2
      refine m_flag y1 y6 ?_
      unfold flagOK at ht2
      rw [hv2]
      cases q : isW (tLen (tbOf S (sU S)) (cel (tbOf S (sU S)) col r)) (tb (tbOf S (sU S)) (cel (tbOf S (sU S)) col r)) (fo + 3) with
      | true =>
        rw [if_neg (by decide)]
        exact word _ (fo + 3) (by omega) (sx_yes fo y6 y1) q
      | false =>
        rw [q, Bool.false_or] at ht2
        rw [if_pos (by decide)]
        exact word _ (fo + 9) (by omega) (sx_no fo y6 y1) ht2
theorem L_back {x : XW} {m : MW} {K : Int32 → XW → Prop} {rw v k : Int32} (hR : RR x m) (hk : ∀ r x', Tk (fun K2 => P_X4_back K2 m rw v k) x' r → K r x') : P_X3_back K x rw v k := by
  obtain ⟨S, hS, ⟨hx, hp⟩, hm, hn⟩ := hR
  refine X_back hS hx (fun x' a b c => hk _ x' (fun K2 h2 => M_backf hS hm (fun m' d e f => h2 m' ⟨S, hS, ⟨a, hp.mv rfl b⟩, d, hn.of e⟩) (fun m' r col fo co pr ev hc hb er hr d e => (no_row c ev hc hS hb er hr).elim))) (fun x' r col fo co pr ev hc hb er hr a b => hk _ x' (fun K2 h2 => M_backf hS hm (fun m' d e f => (no_row f ev hc hS hb er hr).elim) (fun m' r2 col2 fo2 co2 pr2 ev2 hc2 hb2 er2 hr2 d e => ?_)))
  obtain ⟨q1, q2, q3, q4⟩ := be_one hS ev hc hb ev2 hc2 hb2
  have q5 := row_one hS er hr er2 hr2
  subst q1; subst q5
  exact h2 m' ⟨S, hS, ⟨a, hp.mv rfl b⟩, d, hn.of e⟩
