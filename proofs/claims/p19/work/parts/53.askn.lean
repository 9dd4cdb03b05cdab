/-! the reference's questions of COLUMNS -/
theorem told_all {T : Tb} {hd : Bool} {col f m p r : Nat} (h : costC T hd col f m = some p) (hp : tPlain T hd r = true) (hr : r < tR T) (hm : mis T col m r = false) : ∃ c0, fstP T hd col m (tR T) = some c0 ∧ tellR T col f m c0 r = true := by
  unfold costC at h
  cases ef : fstP T hd col m (tR T) with
  | none => rw [ef] at h; cases h
  | some c0 =>
    refine ⟨c0, rfl, ?_⟩
    rw [ef] at h
    dsimp only at h
    have hs : ∃ s, sumC T hd col f m c0 (tR T) = some s := by
      by_cases c1 : 0 < m ∧ (cntM T hd col m (tR T) = 0 ∨ f = 0)
      · rw [if_pos c1] at h; cases h
      · rw [if_neg c1] at h
        by_cases c2 : m = 4 ∧ ¬ (7 ≤ f ∧ f ≤ 21)
        · rw [if_pos c2] at h; cases h
        · rw [if_neg c2] at h
          cases e : sumC T hd col f m c0 (tR T) with
          | none => rw [e] at h; cases h
          | some s => exact ⟨s, rfl⟩
    obtain ⟨s, hs⟩ := hs
    cases et : tellR T col f m c0 r with
    | true => rfl
    | false =>
      exfalso
      have st : sumC T hd col f m c0 (r + 1) = none := by
        rw [sumC_s]
        cases sumC T hd col f m c0 r with
        | none => rfl
        | some q =>
          dsimp only
          rw [hp, hm, et]
          rfl
      have := sumC_none st (tR T - (r + 1))
      rw [show r + 1 + (tR T - (r + 1)) = tR T by omega, hs] at this
      cases this
theorem tell_cap {f : Nat} {cap : Bool} {n : Nat} {g : Nat → Nat} {n0 : Nat} {g0 : Nat → Nat} (h : tellOK f cap n g n0 g0 = true) : tellOK f false n g n0 g0 = true := by
  unfold tellOK at h ⊢
  by_cases c0 : f = 0
  · rw [if_pos c0]
  rw [if_neg c0] at h ⊢
  by_cases c6 : f ≤ 6
  · rw [if_pos c6] at h ⊢; exact h
  rw [if_neg c6] at h ⊢
  by_cases c21 : f ≤ 21
  · rw [if_pos c21] at h ⊢
    cases q : numR f n g with
    | none => rw [q] at h; exact h
    | some s => rfl
  · rw [if_neg c21] at h ⊢; exact h
theorem M_lacks {S : Sx} {w : MW} {K : Int32 → MW → Prop} {v : Int32} (hS : SOK S) (h : IM S w) (hk0 : ∀ w', IM S w' → KnE w w' → NoC S v → K m1 w') (hk1 : ∀ w' col fo co pr, v = nI col → col < tW (tbOf S (sU S)) → BeC S col fo co pr → IM S w' → KnE w w' → K (nI (cntM (tbOf S (sU S)) (hdB (sU S)) col co (tR (tbOf S (sU S))))) w') : P_X4_lacks K w v := by
  have hT := tb_wf hS (sU S)
  have hR := hT.1
  unfold P_X4_lacks
  refine M_ic hS h (fun w' a b c => ⟨fun z => absurd rfl z, fun _ => hk0 w' a b c⟩) (fun w' col fo co pr e a b => ⟨fun _ => ?_, fun z => absurd z (by decide)⟩)
  have hk := hk1 w' col fo co pr e a.1 a.2.1 (a.i hS) b
  obtain ⟨hc, ⟨-, -, hco⟩, hat, hg, -, hbc, -⟩ := a
  have hrep := hat.2.2.1
  have hpR := plC_le (tbOf S (sU S)) (hdB (sU S)) (tR (tbOf S (sU S)))
  generalize tbOf S (sU S) = T at *
  generalize hdB (sU S) = hd at *
  have L : ∀ d r, r + d = tR T → P_X4_lacks_14 K (plC T hd (tR T) - plC T hd r + 1) w' (nI (cntM T hd col co r)) (nI (plC T hd r)) := by
    intro d
    induction d with
    | zero =>
      intro r er
      have : r = tR T := by omega
      subst this
      exact ⟨fun _ => hk, fun z => absurd (by rw [hg.1]; exact Int32.le_refl _) z⟩
    | succ d ih =>
      intro r er
      have es : plC T hd (r + 1) = plC T hd r + (if tPlain T hd r then 1 else 0) := rfl
      have cs := cntM_s T hd col co r
      cases e : tPlain T hd r with
      | false =>
        rw [e] at es cs
        have := ih (r + 1) (by omega)
        rw [es, cs] at this
        exact this
      | true =>
        rw [e, if_pos rfl] at es
        have lt := plC_lt e (show r < tR T by omega)
        have hcl := cel_lt hT e hc
        rw [show plC T hd (tR T) - plC T hd r = plC T hd (tR T) - plC T hd (r + 1) + 1 by omega]
        refine ⟨fun z => absurd z (by rw [hg.1]; exact nI_ge lt (by omega)), fun _ => ⟨vp_in_nI (by omega) (by decide), ?_⟩⟩
        rw [nI_clamp (by omega), (hg.2 r (by omega) e).1, hbc]
        refine m_isMissing hT hrep hcl hco ?_
        unfold P_X4_lacks_45
        rw [nI_1, ← es]
        have nx := ih (r + 1) (by omega)
        cases e2 : misB co (tLen T (cel T col r)) (tb T (cel T col r)) with
        | true =>
          have e3 : mis T col co r = true := e2
          rw [e, e3] at cs
          rw [cs] at nx
          exact ⟨fun z => absurd z (by decide), fun _ => by rw [show nI (cntM T hd col co r) + (1 : Int32) = nI (cntM T hd col co r + 1) from nI_1 _]; exact nx⟩
        | false =>
          have e3 : mis T col co r = false := e2
          rw [e, e3] at cs
          rw [cs] at nx
          exact ⟨fun _ => by rw [show nI (cntM T hd col co r) + (0 : Int32) = nI (cntM T hd col co r + 0) from nI_add _ 0]; exact nx, fun z => absurd rfl z⟩
  exact ⟨_, L (tR T) 0 (by omega)⟩
theorem m_inV {K : Int32 → Prop} {v : Int32} {b : Nat} (hb : b < 2 ^ 30) (h1 : ∀ j, j < b + 1 → v = nI j → K 1) (h0 : ¬ (0 ≤ v.toInt ∧ v.toInt < (b + 1 : Nat)) → K 0) : P_X4_in K v 0 (nI b) := by
  rw [show nI b = nI (b + 1) - 1 by rw [nI_pred]]
  exact m_in (by omega) h1 h0
theorem M_costOf {S : Sx} {w : MW} {K : Int32 → MW → Prop} {v f m : Int32} (hS : SOK S) (h : IM S w) (hk0 : ∀ w', IM S w' → KnE w w' → (NoC S v ∨ ¬ (0 ≤ f.toInt ∧ f.toInt < 32) ∨ ¬ (0 ≤ m.toInt ∧ m.toInt < 5)) → K m1 w')
    (hk1 : ∀ w' col fo co pr j i, v = nI col → col < tW (tbOf S (sU S)) → BeC S col fo co pr → j < 32 → f = nI j → i < 5 → m = nI i → IM S w' → KnE w w' → K (oI (costC (tbOf S (sU S)) (hdB (sU S)) col j i)) w') : P_X4_costOf K w v f m := by
  have hT := tb_wf hS (sU S)
  unfold P_X4_costOf
  refine M_ic hS h (fun w' a b c => ⟨fun _ => hk0 w' a b (Or.inl c), fun z => absurd rfl z⟩) (fun w' col fo co pr e a b => ⟨fun z => absurd z (by decide), fun _ => ?_⟩)
  refine m_inV (b := 31) (by decide) (fun j hj ej => ⟨fun z => absurd z (by decide), fun _ => ?_⟩) (fun z => ⟨fun _ => hk0 w' (a.i hS) b (Or.inr (Or.inl z)), fun y => absurd rfl y⟩)
  refine m_inV (b := 4) (by decide) (fun i hi ei => ⟨fun z => absurd z (by decide), fun _ => ?_⟩) (fun z => ⟨fun _ => hk0 w' (a.i hS) b (Or.inr (Or.inr z)), fun y => absurd rfl y⟩)
  rw [ej, ei]
  refine m_costBy hT a.2.2.1.2.2.1 a.2.2.2.1 a.1 (by omega) (by omega) (fun x y => ?_)
  exact hk1 _ col fo co pr j i e a.1 a.2.1 (by omega) ej (by omega) ei ((a.2.2.1.q (vm_q w' x y)).i hS.2.2.2) (b.tr (vm_q w' x y).kn)
theorem M_fits {S : Sx} {w : MW} {K : Int32 → MW → Prop} {v : Int32} (hS : SOK S) (h : IM S w) (hk : ∀ r w', IM S w' → KnE w w' → K r w') : P_X4_fits K w v := by
  have hT := tb_wf hS (sU S)
  unfold P_X4_fits
  refine M_ic hS h (fun w' a b c => ⟨fun z => absurd rfl z, fun _ => hk _ w' a b⟩) (fun w' col fo co pr e a b => ⟨fun _ => ?_, fun z => absurd z (by decide)⟩)
  have hfin : ∀ u r, EqQ w' u → K r u := fun u r q => hk r u ((a.2.2.1.q q).i hS.2.2.2) (b.tr q.kn)
  have hin : ∀ (f : Nat) (v2 : Int32) (E : MW → Int32 → Prop), f < 32 → (∀ u v4, EqQ w' u → GaM u (tbOf S (sU S)) (hdB (sU S)) col → E u v4) → ∀ d k u v4, k + d = 5 → EqQ w' u → GaM u (tbOf S (sU S)) (hdB (sU S)) col → P_X4_fits_26 K E v2 (nI f) (d + 1) u v4 (nI k) := by
    intro f v2 E hf hE d
    induction d with
    | zero =>
      intro k u v4 ek hu hg
      have : k = 5 := by omega
      subst this
      exact ⟨fun _ => hE u v4 hu hg, fun z => absurd (Int32.le_refl _) z⟩
    | succ d ih =>
      intro k u v4 ek hu hg
      have nx : ∀ u' s, EqQ w' u' → GaM u' (tbOf S (sU S)) (hdB (sU S)) col → P_X4_fits_26 K E v2 (nI f) (d + 1) u' s (nI k + 1) := fun u' s q g => by rw [nI_1]; exact ih (k + 1) u' s (by omega) q g
      refine ⟨fun z => absurd z (nI_ge (b := 5) (by omega) (by decide)), fun _ => ⟨fun _ => nx u _ hu hg, fun _ => m_costBy hT (a.2.2.1.2.2.1.q hu) hg a.1 (by omega) hf (fun x y => ⟨fun _ => nx _ _ (hu.tr (vm_q u x y)) (hg.v x y), fun _ => nx _ _ (hu.tr (vm_q u x y)) (hg.v x y)⟩)⟩⟩
  have L : ∀ d f u v2, f + d = 32 → EqQ w' u → GaM u (tbOf S (sU S)) (hdB (sU S)) col → P_X4_fits_14 K (d + 1) u v2 (nI f) := by
    intro d
    induction d with
    | zero => intro f u v2 ef hu hg; exact ⟨fun _ => hfin u _ hu, fun z => absurd (nI_le (a := 32) (by omega) (by omega)) z⟩
    | succ d ih =>
      intro f u v2 ef hu hg
      refine ⟨fun z => absurd z (nI_ge (b := 32) (by omega) (by decide)), fun _ => ⟨6, hin f v2 _ (by omega) (fun u' v4 q g => ?_) 5 0 u _ (by omega) hu hg⟩⟩
      unfold P_X4_fits_71
      rw [nI_1]
      exact ⟨fun _ => ih (f + 1) u' _ (by omega) q g, fun _ => ih (f + 1) u' _ (by omega) q g⟩
  exact ⟨33, L 32 0 w' _ (by decide) (EqQ.rf w') a.2.2.2.1⟩
theorem M_doubt {S : Sx} {w : MW} {K : Int32 → MW → Prop} {v : Int32} (hS : SOK S) (h : IM S w) (hk : ∀ r w', IM S w' → KnE w w' → K r w') : P_X4_doubt K w v := by
  have hT := tb_wf hS (sU S)
  unfold P_X4_doubt
  refine M_ic hS h (fun w' a b c => ⟨fun z => absurd rfl z, fun _ => hk _ w' a b⟩) (fun w' col fo co pr e a b => ⟨fun _ => ?_, fun z => absurd z (by decide)⟩)
  have hfin : ∀ u r, EqQ w' u → K r u := fun u r q => hk r u ((a.2.2.1.q q).i hS.2.2.2) (b.tr q.kn)
  have hin : ∀ (f : Nat) (E : MW → Prop), f < 32 → (∀ u, EqQ w' u → GaM u (tbOf S (sU S)) (hdB (sU S)) col → E u) → ∀ d k u, k + d = 5 → EqQ w' u → GaM u (tbOf S (sU S)) (hdB (sU S)) col → P_X4_doubt_20 K E (nI f) (d + 1) u (nI k) := by
    intro f E hf hE d
    induction d with
    | zero =>
      intro k u ek hu hg
      have : k = 5 := by omega
      subst this
      exact ⟨fun _ => hE u hu hg, fun z => absurd (Int32.le_refl _) z⟩
    | succ d ih =>
      intro k u ek hu hg
      have nx : ∀ u', EqQ w' u' → GaM u' (tbOf S (sU S)) (hdB (sU S)) col → P_X4_doubt_20 K E (nI f) (d + 1) u' (nI k + 1) := fun u' q g => by rw [nI_1]; exact ih (k + 1) u' (by omega) q g
      exact ⟨fun z => absurd z (nI_ge (b := 5) (by omega) (by decide)), fun _ => ⟨fun _ => nx u hu hg, fun _ => m_costBy hT (a.2.2.1.2.2.1.q hu) hg a.1 (by omega) hf (fun x y => ⟨fun _ => nx _ (hu.tr (vm_q u x y)) (hg.v x y), fun _ => hfin _ _ (hu.tr (vm_q u x y))⟩)⟩⟩
  have L : ∀ d f u, f + d = 32 → EqQ w' u → GaM u (tbOf S (sU S)) (hdB (sU S)) col → P_X4_doubt_12 K (d + 1) u (nI f) := by
    intro d
    induction d with
    | zero => intro f u ef hu hg; exact ⟨fun _ => hfin u _ hu, fun z => absurd (nI_le (a := 32) (by omega) (by omega)) z⟩
    | succ d ih =>
      intro f u ef hu hg
      refine ⟨fun z => absurd z (nI_ge (b := 32) (by omega) (by decide)), fun _ => ⟨6, hin f _ (by omega) (fun u' q g => ?_) 5 0 u (by omega) hu hg⟩⟩
      rw [nI_1]
      exact ih (f + 1) u' (by omega) q g
  exact ⟨33, L 32 0 w' (by decide) (EqQ.rf w') a.2.2.2.1⟩
theorem M_parts {S : Sx} {w : MW} {K : Int32 → MW → Prop} {v f g m : Int32} (hS : SOK S) (h : IM S w) (hk : ∀ r w', IM S w' → KnE w w' → K r w') : P_X4_parts K w v f g m := by
  have hT := tb_wf hS (sU S)
  have hR := hT.1
  unfold P_X4_parts
  refine M_ic hS h (fun w' a b c => ⟨fun _ => hk _ w' a b, fun z => absurd rfl z⟩) (fun w' col fo co pr e a b => ⟨fun z => absurd z (by decide), fun _ => ?_⟩)
  refine m_inV (b := 31) (by decide) (fun j hj ej => ⟨fun z => absurd z (by decide), fun _ => ?_⟩) (fun z => ⟨fun _ => hk _ w' (a.i hS) b, fun y => absurd rfl y⟩)
  refine m_inV (b := 31) (by decide) (fun j2 hj2 ej2 => ⟨fun z => absurd z (by decide), fun _ => ?_⟩) (fun z => ⟨fun _ => hk _ w' (a.i hS) b, fun y => absurd rfl y⟩)
  refine m_inV (b := 4) (by decide) (fun i hi ei => ⟨fun _ => ?_, fun z => absurd z (by decide)⟩) (fun z => ⟨fun y => absurd rfl y, fun _ => hk _ w' (a.i hS) b⟩)
  have hfin : ∀ u r, EqQ w' u → K r u := fun u r q => hk r u ((a.2.2.1.q q).i hS.2.2.2) (b.tr q.kn)
  obtain ⟨hc, -, hat, hg, -⟩ := a
  have hrep := hat.2.2.1
  have hpR := plC_le (tbOf S (sU S)) (hdB (sU S)) (tR (tbOf S (sU S)))
  rw [ej, ej2, ei]
  refine m_firstOf hT hrep hg hc (by omega) ?_
  generalize tbOf S (sU S) = T at *
  generalize hdB (sU S) = hd at *
  have L : ∀ d r x y, r + d = tR T → P_X4_parts_51 K (fun w_12 v6_13 => vp_in v6_13 80 ∧ (K (md_columnRow w_12 v6_13.toNatClampNeg) w_12)) (nI j) (nI j2) (nI i) (oI (fstP T hd col i (tR T))) (plC T hd (tR T) - plC T hd r + 1) (vm w' x y) (nI (plC T hd r)) := by
    intro d
    induction d with
    | zero =>
      intro r x y er
      have : r = tR T := by omega
      subst this
      exact ⟨fun _ => hfin _ _ (vm_q w' x y), fun z => absurd (by rw [(hg.v x y).1]; exact Int32.le_refl _) z⟩
    | succ d ih =>
      intro r x y er
      have es : plC T hd (r + 1) = plC T hd r + (if tPlain T hd r then 1 else 0) := rfl
      cases e : tPlain T hd r with
      | false =>
        rw [e] at es
        have := ih (r + 1) x y (by omega)
        rw [es] at this
        exact this
      | true =>
        rw [e, if_pos rfl] at es
        have lt := plC_lt e (show r < tR T by omega)
        have hcl := cel_lt hT e hc
        have ip : vp_in (nI (plC T hd r)) 80 := vp_in_nI (by omega) (by decide)
        rw [show plC T hd (tR T) - plC T hd r = plC T hd (tR T) - plC T hd (r + 1) + 1 by omega]
        refine ⟨fun z => absurd z (by rw [(hg.v x y).1]; exact nI_ge lt (by omega)), fun _ => ⟨ip, ?_⟩⟩
        rw [nI_clamp (by omega), ((hg.v x y).2 r (by omega) e).1]
        refine m_isMissing hT (rep_v hrep x y) hcl (by omega) ?_
        unfold P_X4_parts_122
        rw [nI_1, ← es]
        cases e2 : misB i (tLen T (cel T col r)) (tb T (cel T col r)) with
        | true => exact ⟨fun z => absurd z (by decide), fun _ => ih (r + 1) x y (by omega)⟩
        | false =>
          obtain ⟨c0, hc0⟩ := fstP_some (m := i) e e2 (tR T) (by omega)
          have hc0l := fstP_lt hT hc hc0
          refine ⟨fun _ => ⟨ip, ?_⟩, fun z => absurd rfl z⟩
          rw [hc0] at ih ⊢
          refine m_tells hT (rep_v hrep x y) hcl hc0l (by omega) (fun a1 b1 _ => ⟨ip, ?_⟩)
          rw [vm_vm, ((hg.v a1 b1).2 r (by omega) e).1]
          refine m_tells hT (rep_v hrep a1 b1) hcl hc0l (by omega) (fun a2 b2 _ => ?_)
          rw [vm_vm]
          exact ⟨fun _ => ih (r + 1) a2 b2 (by omega), fun _ => ⟨ip, hfin _ _ (vm_q w' a2 b2)⟩⟩
  have := L (tR T) 0 (md_value w') (md_digits w') (by omega)
  rw [show vm w' (md_value w') (md_digits w') = w' by unfold vm; rw [sv_v, sv_d]] at this
  exact ⟨_, this⟩
theorem M_told {S : Sx} {w : MW} {K : Int32 → MW → Prop} {rw v : Int32} (hS : SOK S) (h : IM S w) (hk0 : ∀ w', IM S w' → KnE w w' → NoR S rw v → K m1 w')
    (hk1 : ∀ w' r col fo co pr, v = nI col → rw = nI r → tPlain (tbOf S (sU S)) (hdB (sU S)) r = true → ChM S col w' fo co pr → md_value w' = Int32.toInt64 (wV (tbOf S (sU S)) (hdB (sU S)) col fo co r) → KnE w w' → K (nI (cel (tbOf S (sU S)) col r)) w') : P_X4_told K w rw v := by
  have hT := tb_wf hS (sU S)
  have hR := hT.1
  unfold P_X4_told
  refine M_ic hS h (fun w' a b c => ⟨fun _ => hk0 w' a b (Or.inl c), fun z => absurd rfl z⟩) (fun w' col fo co pr e a b => ⟨fun z => absurd z (by decide), fun _ => ?_⟩)
  refine m_isRow hT a.2.2.1.2.2.1 (fun r hr er => ⟨fun z => absurd z (by decide), fun _ => ?_⟩) (fun z => ⟨fun _ => hk0 w' (a.i hS) b (Or.inr (Or.inl z)), fun y => absurd rfl y⟩)
  rw [er, e]
  refine m_isPlain hT a.2.2.1.2.2.1 a.2.2.1.2.1 hS.2.2.2 hr ?_
  cases ep : tPlain (tbOf S (sU S)) (hdB (sU S)) r with
  | false => exact ⟨fun z => absurd rfl z, fun _ => hk0 w' (a.i hS) b (Or.inr (Or.inr ⟨r, hr, er, ep⟩))⟩
  | true =>
    refine ⟨fun _ => ⟨vp_in_nI (by omega) (by decide), ?_⟩, fun z => absurd z (by decide)⟩
    have chv : ∀ x y, ChM S col (vm w' x y) fo co pr := by
      intro x y
      obtain ⟨q1, q2, q3, q4, q5, q6, q7, q8⟩ := a
      refine ⟨q1, q2, q3.q (vm_q w' x y), q4.v x y, ?_, ?_, ?_, q8⟩
      · unfold vm; simp only [gs_md_value, gs_md_digits]; exact q5
      · unfold vm; simp only [gs_md_value, gs_md_digits]; exact q6
      · unfold vm; simp only [gs_md_value, gs_md_digits]; exact q7
    have knv : ∀ x y, KnE w (vm w' x y) := fun x y => b.tr (vm_q w' x y).kn
    have hcl := cel_lt hT ep a.1
    have efo : md_bestForm (vm w' 0 (md_digits w')) = nI fo := (chv 0 (md_digits w')).2.2.2.2.1
    have eco : md_bestCode (vm w' 0 (md_digits w')) = nI co := (chv 0 (md_digits w')).2.2.2.2.2.1
    rw [vm_v, nI_clamp (by omega), a.2.2.1.2.2.1.2.1 r (by omega) (by omega), nI_add, efo, eco, show tS (tbOf S (sU S)) r + col = cel (tbOf S (sU S)) col r from rfl]
    have hrv := rep_v a.2.2.1.2.2.1 0 (md_digits w')
    have hgv := a.2.2.2.1.v 0 (md_digits w')
    have k1 := fun x y => hk1 (vm w' x y) r col fo co pr e er ep (chv x y)
    unfold wV at k1
    refine m_isMissing hT hrv hcl a.2.1.2.2 ?_
    cases e2 : misB co (tLen (tbOf S (sU S)) (cel (tbOf S (sU S)) col r)) (tb (tbOf S (sU S)) (cel (tbOf S (sU S)) col r)) with
    | true =>
      have e3 : mis (tbOf S (sU S)) col co r = true := e2
      refine ⟨fun _ => k1 0 (md_digits w') ?_ (knv _ _), fun z => absurd z (by decide)⟩
      rw [if_pos e3, vm_a]
      rfl
    | false =>
      have e3 : mis (tbOf S (sU S)) col co r = false := e2
      obtain ⟨c0, hc0, ht⟩ := told_all a.2.1.1.2.1 ep hr e3
      have hc0l := fstP_lt hT a.1 hc0
      refine ⟨fun z => absurd rfl z, fun _ => m_firstOf hT hrv hgv a.1 a.2.1.2.2 ?_⟩
      rw [hc0]
      refine m_tells hT hrv hcl hc0l a.2.1.2.1 (fun x y hxy => ?_)
      rw [vm_vm]
      refine k1 x y ?_ (knv _ _)
      rw [if_neg (by rw [e3]; decide), hc0, vm_a, if_pos (show tellR (tbOf S (sU S)) col fo co (Option.getD (some c0) 0) r = true from ht)]
      exact (hxy (tell_cap (show tellOK fo (decide (co = 4)) _ _ _ _ = true from ht))).1
theorem M_value {S : Sx} {w : MW} {K : Int64 → MW → Prop} {rw v : Int32} (hS : SOK S) (h : IM S w) (hk0 : ∀ w', IM S w' → KnE w w' → NoR S rw v → K 0 w')
    (hk1 : ∀ w' r col fo co pr, v = nI col → col < tW (tbOf S (sU S)) → BeC S col fo co pr → rw = nI r → tPlain (tbOf S (sU S)) (hdB (sU S)) r = true → IM S w' → KnE w w' → K (Int32.toInt64 (wV (tbOf S (sU S)) (hdB (sU S)) col fo co r)) w') : P_X4_value K w rw v := by
  have hT := tb_wf hS (sU S)
  have hN := tN_le hT
  unfold P_X4_value
  refine M_told hS h (fun w' a b c => ⟨fun z => absurd z (by decide), fun _ => hk0 w' a b c⟩) (fun w' r col fo co pr e er ep a hv b => ⟨fun _ => ?_, fun z => absurd (nI_pos' (by have := cel_lt hT ep a.1; omega)) z⟩)
  rw [hv]
  exact hk1 w' r col fo co pr e a.1 a.2.1 er ep (a.i hS) b
theorem m_isSame {w : MW} {T : Tb} {K : Int32 → Prop} {c e : Nat} (hT : tWF T) (h : RepM w T) (hc : c < tN T) (he : e < tN T) (hk : K (bI (alB T c e))) : P_X4_isSame K w (nI c) (nI e) := by
  have hN := tN_le hT
  have l1 := tLen_le hT hc
  have l2 := tLen_le hT he
  have ic : vp_in (nI c) 960 := vp_in_nI (by omega) (by decide)
  have ie : vp_in (nI e) 960 := vp_in_nI (by omega) (by decide)
  unfold P_X4_isSame
  rw [nI_clamp (by omega), nI_clamp (by omega), h.2.2.2.1 c hc, h.2.2.2.1 e he]
  refine ⟨ic, ie, fun z => ?_, fun z => ?_⟩
  · have hL : tLen T c = tLen T e := (nI_eq (by omega) (by omega)).mp z
    have L : ∀ d k, k + d = tLen T c → (∀ i, i < k → tb T c i = tb T e i) → P_X4_isSame_19 K w (nI c) (nI e) (d + 1) (nI k) := by
      intro d
      induction d with
      | zero =>
        intro k ek hp
        have q : alB T c e = true := decide_eq_true ⟨hL, fun i hi => hp i (by omega)⟩
        rw [q] at hk
        refine ⟨ic, ?_⟩
        rw [nI_clamp (by omega), h.2.2.2.1 c hc]
        exact ⟨fun _ => hk, fun y => absurd (nI_le (by omega) (by omega)) y⟩
      | succ d ih =>
        intro k ek hp
        have b1 := tb_lt hT hc (k := k) (by omega)
        have b2 := tb_lt hT he (k := k) (by omega)
        refine ⟨ic, ?_⟩
        rw [nI_clamp (by omega), h.2.2.2.1 c hc, nI_1]
        refine ⟨fun y => absurd y (nI_ge (by omega) (by omega)), fun _ => m_byteOf hT h hc (by omega) (m_byteOf hT h he (by omega) ⟨fun y => ?_, fun y => ?_⟩)⟩
        · have y := (nI_eq (by omega) (by omega)).mp y
          refine ih (k + 1) (by omega) (fun i hi => ?_)
          rcases Nat.lt_or_ge i k with x | x
          · exact hp i x
          · rw [show i = k by omega]; exact y
        · have q : alB T c e = false := decide_eq_false (fun x => y (by rw [x.2 k (by omega)]))
          rw [q] at hk
          exact hk
    exact ⟨tLen T c + 1, L (tLen T c) 0 (by omega) (fun i hi => absurd hi (Nat.not_lt_zero i))⟩
  · have q : alB T c e = false := decide_eq_false (fun x => z (by rw [x.1]))
    rw [q] at hk
    exact hk
/-- a place of a COLUMN is a row of it -/
theorem plC_at {T : Tb} {hd : Bool} : ∀ k i, i < plC T hd k → ∃ r, r < k ∧ tPlain T hd r = true ∧ plC T hd r = i := by
  intro k
  induction k with
  | zero => intro i h; exact absurd h (Nat.not_lt_zero i)
  | succ k ih =>
    intro i h
    have es : plC T hd (k + 1) = plC T hd k + (if tPlain T hd k then 1 else 0) := rfl
    rcases Nat.lt_or_ge i (plC T hd k) with q | q
    · obtain ⟨r, a, b, c⟩ := ih i q
      exact ⟨r, by omega, b, c⟩
    · cases e : tPlain T hd k with
      | true => rw [e, if_pos rfl] at es; exact ⟨k, by omega, e, by omega⟩
      | false => rw [e] at es; exact absurd h (by rw [es]; show ¬ i < plC T hd k + 0; omega)
theorem M_key {S : Sx} {w : MW} {K : Int32 → MW → Prop} {v : Int32} (hS : SOK S) (h : IM S w) (hk : ∀ r w', IM S w' → KnE w w' → K r w') : P_X4_key K w v := by
  have hT := tb_wf hS (sU S)
  have hR := hT.1
  unfold P_X4_key
  refine M_ic hS h (fun w' a b c => ⟨fun z => absurd rfl z, fun _ => hk _ w' a b⟩) (fun w' col fo co pr e a b => ⟨fun _ => ?_, fun z => absurd z (by decide)⟩)
  have hfin : ∀ r, K r w' := fun r => hk r w' (a.i hS) b
  obtain ⟨hc, ⟨-, -, hco⟩, hat, hg, -, hbc, -⟩ := a
  have hrep := hat.2.2.1
  have hpR := plC_le (tbOf S (sU S)) (hdB (sU S)) (tR (tbOf S (sU S)))
  generalize tbOf S (sU S) = T at *
  generalize hdB (sU S) = hd at *
  have cell : ∀ i, i < plC T hd (tR T) → ∃ c, c < tN T ∧ md_column w' i = nI c := by
    intro i hi
    obtain ⟨r, a, b, c⟩ := plC_at _ i hi
    refine ⟨_, cel_lt hT b hc, ?_⟩
    rw [← c]
    exact (hg.2 r a b).1
  have hin : ∀ (i : Nat) (E : MW → Prop), i < plC T hd (tR T) → E w' → ∀ d k, k + d = i → P_X4_key_41 K E (nI i) (d + 1) w' (nI k) := by
    intro i E hi hE d
    induction d with
    | zero =>
      intro k ek
      have : k = i := by omega
      subst this
      exact ⟨fun _ => hE, fun z => absurd (Int32.le_refl _) z⟩
    | succ d ih =>
      intro k ek
      obtain ⟨c1, l1, e1⟩ := cell i hi
      obtain ⟨c2, l2, e2⟩ := cell k (by omega)
      refine ⟨fun z => absurd z (nI_ge (by omega) (by omega)), fun _ => ⟨vp_in_nI (by omega) (by decide), vp_in_nI (by omega) (by decide), ?_⟩⟩
      rw [nI_clamp (by omega), nI_clamp (by omega), e1, e2, nI_1]
      exact m_isSame hT hrep l1 l2 ⟨fun _ => ih (k + 1) (by omega), fun _ => hfin _⟩
  have L : ∀ d i, i + d = plC T hd (tR T) → P_X4_key_12 K (d + 1) w' (nI i) := by
    intro d
    induction d with
    | zero =>
      intro i ei
      exact ⟨fun _ => hfin _, fun z => absurd (by rw [hg.1]; exact nI_le (by omega) (by omega)) z⟩
    | succ d ih =>
      intro i ei
      obtain ⟨c1, l1, e1⟩ := cell i (by omega)
      refine ⟨fun z => absurd z (by rw [hg.1]; exact nI_ge (by omega) (by omega)), fun _ => ⟨vp_in_nI (by omega) (by decide), ?_⟩⟩
      rw [nI_clamp (by omega), e1, hbc]
      refine m_isMissing hT hrep l1 hco ⟨fun _ => ⟨i + 1, hin i _ (by omega) ?_ i 0 (by omega)⟩, fun _ => hfin _⟩
      rw [nI_1]
      exact ih (i + 1) (by omega)
  exact ⟨_, L (plC T hd (tR T)) 0 (by omega)⟩
