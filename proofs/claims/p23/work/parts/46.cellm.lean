/-! what tells a cell, the reference's side -/
theorem isW_eq {n : Nat} {f : Nat → Nat} {i j : Nat} (h : sxB i = sxB j) : isW n f i = isW n f j := by
  unfold isW sx_ch
  rw [h]
theorem m_isWord {w : MW} {T : Tb} {K : Int32 → Prop} {c j : Nat} (hT : tWF T) (h : RepM w T) (hc : c < tN T) (hj : j < 32) (hk : K (bI (isW (tLen T c) (tb T c) j))) : P_X4_isWord K w (nI c) j := by
  have hN := tN_le hT
  have hl := tLen_le hT hc
  have hs := sx_small j hj
  unfold P_X4_isWord
  rw [nI_clamp (by omega), h.2.2.2.1 c hc]
  refine ⟨vp_in_nI (by omega) (by decide), hj, fun z => ?_, fun z => ?_⟩
  · have hL : tLen T c = (sxB j).length := (nI_eq (by omega) hs).mp z
    have L : ∀ d k, k + d = tLen T c → (∀ i, i < k → nI (tb T c i) = sx_ch j i) → P_X4_isWord_17 K w (nI c) j (d + 1) (nI k) := by
      intro d
      induction d with
      | zero =>
        intro k ek hp
        have q : isW (tLen T c) (tb T c) j = true := decide_eq_true ⟨hL, fun i hi => hp i (by omega)⟩
        rw [q] at hk
        exact ⟨hj, fun _ => hk, fun y => absurd (nI_le (by omega) (by omega)) y⟩
      | succ d ih =>
        intro k ek hp
        refine ⟨hj, fun y => absurd y (nI_ge (by omega) (by omega)), fun _ => m_byteOf hT h hc (by omega) ⟨hj, vp_in_nI (by omega) hs, ?_⟩⟩
        rw [nI_clamp (by omega), nI_1]
        refine ⟨fun y => ih (k + 1) (by omega) (fun i hi => ?_), fun y => ?_⟩
        · rcases Nat.lt_or_ge i k with x | x
          · exact hp i x
          · rw [show i = k by omega]; exact y
        · have q : isW (tLen T c) (tb T c) j = false := decide_eq_false (fun x => y (x.2 k (by omega)))
          rw [q] at hk
          exact hk
    exact ⟨tLen T c + 1, L (tLen T c) 0 (by omega) (fun i hi => absurd hi (Nat.not_lt_zero i))⟩
  · have q : isW (tLen T c) (tb T c) j = false := decide_eq_false (fun x => z (by rw [x.1]))
    rw [q] at hk
    exact hk
theorem m_isMissing {w : MW} {T : Tb} {K : Int32 → Prop} {c m : Nat} (hT : tWF T) (h : RepM w T) (hc : c < tN T) (hm : m < 5) (hk : K (bI (misB m (tLen T c) (tb T c)))) : P_X4_isMissing K w (nI c) (nI m) := by
  have hN := tN_le hT
  have hl := tLen_le hT hc
  have kw : ∀ j i, j < 32 → sxB j = sxB i → K (bI (isW (tLen T c) (tb T c) i)) → P_X4_isWord (fun r => vz r ∧ K r) w (nI c) j := fun j i hj e hk => m_isWord hT h hc hj (by rw [isW_eq e]; exact ⟨vz_b _, hk⟩)
  unfold P_X4_isMissing
  unfold misB at hk
  rcases (show m = 0 ∨ m = 1 ∨ m = 2 ∨ m = 3 ∨ m = 4 by omega) with e | e | e | e | e
  · subst e
    rw [if_neg (by omega)] at hk
    exact ⟨fun z => absurd z (by decide), fun z => absurd z (by decide), fun z => absurd z (by decide), fun z => absurd z (by decide), fun _ _ _ _ => hk⟩
  · subst e
    rw [if_pos (by omega)] at hk
    refine ⟨fun _ => ⟨vp_in_nI (by omega) (by decide), ?_⟩, fun z => absurd z (by decide), fun z => absurd z (by decide), fun z => absurd z (by decide), fun z => absurd rfl z⟩
    rw [nI_clamp (by omega), h.2.2.2.1 c hc]
    refine ⟨fun z => ?_, fun z => ?_⟩
    · have q : isW (tLen T c) (tb T c) (1 - 1) = false := decide_eq_false (fun x => z (by rw [x.1]; rfl))
      rw [q] at hk
      exact hk
    · have e0 : tLen T c = 0 := (nI_eq (b := 0) (by omega) (by decide)).mp z
      have q : isW (tLen T c) (tb T c) (1 - 1) = true := decide_eq_true ⟨by rw [e0]; rfl, fun k hk => by omega⟩
      rw [q] at hk
      exact hk
  · subst e
    rw [if_pos (by omega)] at hk
    exact ⟨fun z => absurd z (by decide), fun _ => kw 16 1 (by decide) (by decide) hk, fun z => absurd z (by decide), fun z => absurd z (by decide), fun _ z => absurd rfl z⟩
  · subst e
    rw [if_pos (by omega)] at hk
    exact ⟨fun z => absurd z (by decide), fun z => absurd z (by decide), fun _ => kw 17 2 (by decide) (by decide) hk, fun z => absurd z (by decide), fun _ _ z => absurd rfl z⟩
  · subst e
    rw [if_pos (by omega)] at hk
    exact ⟨fun z => absurd z (by decide), fun z => absurd z (by decide), fun z => absurd z (by decide), fun _ => kw 18 3 (by decide) (by decide) hk, fun _ _ _ z => absurd rfl z⟩
/-- the reference's world with another value and another number of digits -/
def vm (w : MW) (a : Int64) (b : Int32) : MW := md_digits_s (md_value_s w a) b
theorem sv_vv (w : MW) (a b : Int64) : md_value_s (md_value_s w a) b = md_value_s w b := by
  unfold md_value_s
  dsimp only
theorem sv_vd (w : MW) (a : Int32) (b : Int64) : md_value_s (md_digits_s w a) b = md_digits_s (md_value_s w b) a := by
  unfold md_value_s md_digits_s
  dsimp only
theorem sv_dd (w : MW) (a b : Int32) : md_digits_s (md_digits_s w a) b = md_digits_s w b := by
  unfold md_digits_s
  dsimp only
theorem sv_d (w : MW) : md_digits_s w (md_digits w) = w := by
  unfold md_digits_s md_digits
  rfl
theorem vm_v (w : MW) (a : Int64) : md_value_s w a = vm w a (md_digits w) := by
  have e : md_digits w = md_digits (md_value_s w a) := by simp only [gs_md_value]
  unfold vm
  rw [e, sv_d]
theorem vm_vs (w : MW) (a : Int64) (b : Int32) (c : Int64) : md_value_s (vm w a b) c = vm w c b := by
  unfold vm
  rw [sv_vd, sv_vv]
theorem vm_ds (w : MW) (a : Int64) (b c : Int32) : md_digits_s (vm w a b) c = vm w a c := by
  unfold vm
  rw [sv_dd]
theorem vm_vm (w : MW) (a : Int64) (b : Int32) (c : Int64) (d : Int32) : vm (vm w a b) c d = vm w c d := by
  show md_digits_s (md_value_s (vm w a b) c) d = _
  rw [vm_vs, vm_ds]
theorem vm_a (w : MW) (a b) : md_value (vm w a b) = a := by unfold vm; simp only [gs_md_value, gs_md_digits]
theorem vm_b (w : MW) (a b) : md_digits (vm w a b) = b := by unfold vm; simp only [gs_md_value, gs_md_digits]
theorem rep_v {w : MW} {T : Tb} (h : RepM w T) (a b) : RepM (vm w a b) T := by
  unfold RepM vm
  simp only [gs_md_value, gs_md_digits]
  exact h
theorem m_flag {K : Nat → Prop} {f : Nat} {v : Int32} (h1 : 1 ≤ f) (h2 : f ≤ 6) (hk : K (if v = 0 then 17 + 2 * f else 18 + 2 * f)) : P_X4_flag K (nI f) v := by
  unfold P_X4_flag
  have q : ∀ a b, (K (if v = 0 then a else b)) → ((¬ v = 0 → K b) ∧ (v = 0 → K a)) := fun a b h => ⟨fun z => by rw [if_neg z] at h; exact h, fun z => by rw [if_pos z] at h; exact h⟩
  rcases (show f = 1 ∨ f = 2 ∨ f = 3 ∨ f = 4 ∨ f = 5 ∨ f = 6 by omega) with e | e | e | e | e | e <;> subst e
  · exact ⟨fun _ => q _ _ hk, fun z => absurd z (by decide), fun z => absurd z (by decide), fun z => absurd z (by decide), fun z => absurd z (by decide), fun z => absurd rfl z⟩
  · exact ⟨fun z => absurd z (by decide), fun _ => q _ _ hk, fun z => absurd z (by decide), fun z => absurd z (by decide), fun z => absurd z (by decide), fun _ z => absurd rfl z⟩
  · exact ⟨fun z => absurd z (by decide), fun z => absurd z (by decide), fun _ => q _ _ hk, fun z => absurd z (by decide), fun z => absurd z (by decide), fun _ _ z => absurd rfl z⟩
  · exact ⟨fun z => absurd z (by decide), fun z => absurd z (by decide), fun z => absurd z (by decide), fun _ => q _ _ hk, fun z => absurd z (by decide), fun _ _ _ z => absurd rfl z⟩
  · exact ⟨fun z => absurd z (by decide), fun z => absurd z (by decide), fun z => absurd z (by decide), fun z => absurd z (by decide), fun _ => q _ _ hk, fun _ _ _ _ z => absurd rfl z⟩
  · exact ⟨fun z => absurd z (by decide), fun z => absurd z (by decide), fun z => absurd z (by decide), fun z => absurd z (by decide), fun z => absurd z (by decide), fun _ _ _ _ _ => q _ _ hk⟩
theorem sx_yes : ∀ f, f ≤ 6 → 1 ≤ f → sxB (18 + 2 * f) = sxB (f + 3) := by decide +kernel
theorem sx_no : ∀ f, f ≤ 6 → 1 ≤ f → sxB (17 + 2 * f) = sxB (f + 9) := by decide +kernel
def bL (b : Bool) : Int64 := if b then 1 else 0
theorem bL_i (b : Bool) : Int32.toInt64 (bI b) = bL b := by cases b <;> rfl
theorem m_isFlag {w : MW} {T : Tb} {K : Int32 → MW → Prop} {c form : Nat} (hT : tWF T) (h : RepM w T) (hc : c < tN T) (h1 : 1 ≤ form) (h2 : form ≤ 6) (hk : K (bI (flagOK form (tLen T c) (tb T c))) (vm w (bL (isW (tLen T c) (tb T c) (form + 3))) (md_digits w))) : P_X4_isFlag K w (nI c) (nI form) := by
  unfold P_X4_isFlag
  refine m_flag h1 h2 ?_
  rw [if_neg (by decide)]
  refine m_isWord hT h hc (by omega) ?_
  rw [isW_eq (sx_yes form h2 h1)]
  unfold flagOK at hk
  unfold P_X4_isFlag_19
  cases e : isW (tLen T c) (tb T c) (form + 3) with
  | true =>
    rw [e] at hk
    refine ⟨fun z => absurd z (by decide), fun _ => ?_⟩
    rw [vm_v, vm_a]
    exact ⟨fun _ => hk, fun z => absurd (by decide) z⟩
  | false =>
    rw [e, Bool.false_or] at hk
    refine ⟨fun _ => ?_, fun z => absurd rfl z⟩
    rw [vm_v, vm_a]
    refine ⟨fun z => absurd z (by decide), fun _ => m_flag h1 h2 ?_⟩
    rw [if_pos rfl]
    refine m_isWord hT (rep_v h _ _) hc (by omega) ?_
    rw [isW_eq (sx_no form h2 h1)]
    cases e2 : isW (tLen T c) (tb T c) (form + 9) with
    | true => rw [e2] at hk; exact ⟨fun z => absurd z (by decide), fun _ => hk⟩
    | false => rw [e2] at hk; exact ⟨fun _ => hk, fun z => absurd rfl z⟩
theorem m_isDigit {K : Int32 → Prop} {b : Nat} (hb : b < 256) (hk : K (bI (decide (48 ≤ b ∧ b ≤ 57)))) : P_X4_isDigit K (nI b) := by
  unfold P_X4_isDigit
  refine ⟨fun z => ?_, fun z => ⟨fun y => ?_, fun y => ?_⟩⟩
  · have z := (nI_ltI (b := 48) (by omega) (by decide)).mp z
    rw [decide_eq_false (by omega)] at hk; exact hk
  · have y := (nI_ltI (a := 57) (by decide) (by omega)).mp y
    rw [decide_eq_false (by omega)] at hk; exact hk
  · have z1 : ¬ b < 48 := fun e => z (nI_lt (b := 48) e (by decide))
    have y1 : ¬ 57 < b := fun e => y (nI_lt (a := 57) e (by omega))
    rw [decide_eq_true (by omega)] at hk; exact hk
/-- in between two numbers -/
theorem m_in2 {K : Int32 → Prop} {v a b : Nat} (hv : v < 2 ^ 31) (ha : a < 2 ^ 31) (hb : b < 2 ^ 31) (hk : K (bI (decide (a ≤ v ∧ v ≤ b)))) : P_X4_in K (nI v) (nI a) (nI b) := by
  unfold P_X4_in
  refine ⟨fun z => ?_, fun z => ⟨fun y => ?_, fun y => ?_⟩⟩
  · have z := (nI_ltI hv ha).mp z
    rw [decide_eq_false (by omega)] at hk; exact hk
  · have y := (nI_ltI hb hv).mp y
    rw [decide_eq_false (by omega)] at hk; exact hk
  · have z1 : ¬ v < a := fun e => z (nI_lt e ha)
    have y1 : ¬ b < v := fun e => y (nI_lt e hv)
    rw [decide_eq_true (by omega)] at hk; exact hk
def srt (b : Nat) : Nat := if 48 ≤ b ∧ b ≤ 57 then 1 else if 65 ≤ b ∧ b ≤ 90 then 2 else if 97 ≤ b ∧ b ≤ 122 then 3 else 4 + b
theorem m_sortOf {K : Int32 → Prop} {b : Nat} (hb : b < 256) (hk : K (nI (srt b))) : P_X4_sortOf K (nI b) := by
  unfold P_X4_sortOf
  unfold srt at hk
  refine m_isDigit hb ?_
  by_cases z : 48 ≤ b ∧ b ≤ 57
  · rw [if_pos z] at hk
    rw [decide_eq_true z]
    exact ⟨fun y => absurd y (by decide), fun _ => hk⟩
  · rw [if_neg z] at hk
    rw [decide_eq_false z]
    refine ⟨fun _ => m_in2 (a := 65) (b := 90) (by omega) (by decide) (by decide) ?_, fun y => absurd rfl y⟩
    by_cases z2 : 65 ≤ b ∧ b ≤ 90
    · rw [if_pos z2] at hk
      rw [decide_eq_true z2]
      exact ⟨fun y => absurd y (by decide), fun _ => hk⟩
    · rw [if_neg z2] at hk
      rw [decide_eq_false z2]
      refine ⟨fun _ => m_in2 (a := 97) (b := 122) (by omega) (by decide) (by decide) ?_, fun y => absurd rfl y⟩
      by_cases z3 : 97 ≤ b ∧ b ≤ 122
      · rw [if_pos z3] at hk
        rw [decide_eq_true z3]
        exact ⟨fun y => absurd y (by decide), fun _ => hk⟩
      · rw [if_neg z3] at hk
        rw [decide_eq_false z3]
        exact ⟨fun _ => by rw [show (4 : Int32) + nI b = nI (4 + b) from nI_add 4 b]; exact hk, fun y => absurd rfl y⟩
theorem srt_le {b : Nat} (hb : b < 256) : srt b < 260 := by unfold srt; split; omega; split; omega; split <;> omega
def srtG (s : Nat) : Nat := if s < 4 then s + 255 else s - 4
def srtH (s : Nat) : Nat := if s < 256 then s + 4 else s - 255
theorem srt_g {a : Nat} (ha : a < 256) : sortN a = srtG (srt a) := by
  unfold srt sortN srtG
  by_cases a1 : 48 ≤ a ∧ a ≤ 57
  · rw [if_pos a1, if_pos a1]; decide
  · rw [if_neg a1, if_neg a1]
    by_cases a2 : 65 ≤ a ∧ a ≤ 90
    · rw [if_pos a2, if_pos a2]; decide
    · rw [if_neg a2, if_neg a2]
      by_cases a3 : 97 ≤ a ∧ a ≤ 122
      · rw [if_pos a3, if_pos a3]; decide
      · rw [if_neg a3, if_neg a3, if_neg (by omega)]; omega
theorem srt_h {a : Nat} (ha : a < 256) : srt a = srtH (sortN a) := by
  unfold srt sortN srtH
  by_cases a1 : 48 ≤ a ∧ a ≤ 57
  · rw [if_pos a1, if_pos a1]; decide
  · rw [if_neg a1, if_neg a1]
    by_cases a2 : 65 ≤ a ∧ a ≤ 90
    · rw [if_pos a2, if_pos a2]; decide
    · rw [if_neg a2, if_neg a2]
      by_cases a3 : 97 ≤ a ∧ a ≤ 122
      · rw [if_pos a3, if_pos a3]; decide
      · rw [if_neg a3, if_neg a3, if_pos ha]; omega
theorem srt_eq {a b : Nat} (ha : a < 256) (hb : b < 256) : srt a = srt b ↔ sortN a = sortN b :=
  ⟨fun e => by rw [srt_g ha, srt_g hb, e], fun e => by rw [srt_h ha, srt_h hb, e]⟩
theorem m_isCode {w : MW} {T : Tb} {K : Int32 → MW → Prop} {c e : Nat} (hT : tWF T) (h : RepM w T) (hc : c < tN T) (he : e < tN T) (hk : K (bI (codeOK (tLen T c) (tb T c) (tLen T e) (tb T e))) (vm w 0 (md_digits w))) : P_X4_isCode K w (nI c) (nI e) := by
  have hN := tN_le hT
  have l1 := tLen_le hT hc
  have l2 := tLen_le hT he
  unfold P_X4_isCode
  rw [vm_v]
  have h := rep_v h 0 (md_digits w)
  generalize vm w 0 (md_digits w) = u at *
  rw [nI_clamp (by omega), nI_clamp (by omega), h.2.2.2.1 c hc, h.2.2.2.1 e he]
  have ic : vp_in (nI c) 960 := vp_in_nI (by omega) (by decide)
  have ie : vp_in (nI e) 960 := vp_in_nI (by omega) (by decide)
  refine ⟨ie, m_in2 (a := 1) (b := 20) (by omega) (by decide) (by decide) ?_⟩
  by_cases z : 1 ≤ tLen T e ∧ tLen T e ≤ 20
  · rw [decide_eq_true z]
    refine ⟨fun y => absurd y (by decide), fun _ => ⟨ic, ie, fun y => ?_, fun y => ?_⟩⟩
    · have hL : tLen T c = tLen T e := (nI_eq (by omega) (by omega)).mp y
      have L : ∀ d k, k + d = tLen T c → (∀ i, i < k → sortN (tb T c i) = sortN (tb T e i)) → P_X4_isCode_39 K (nI c) (nI e) (d + 1) u (nI k) := by
        intro d
        induction d with
        | zero =>
          intro k ek hp
          have q : codeOK (tLen T c) (tb T c) (tLen T e) (tb T e) = true := decide_eq_true ⟨z, hL, fun i hi => hp i (by omega)⟩
          rw [q] at hk
          refine ⟨ic, ?_⟩
          rw [nI_clamp (by omega), h.2.2.2.1 c hc]
          exact ⟨fun _ => hk, fun x => absurd (nI_le (by omega) (by omega)) x⟩
        | succ d ih =>
          intro k ek hp
          have b1 := tb_lt hT hc (k := k) (by omega)
          have b2 := tb_lt hT he (k := k) (by omega)
          have s1 := srt_le b1
          have s2 := srt_le b2
          refine ⟨ic, ?_⟩
          rw [nI_clamp (by omega), h.2.2.2.1 c hc, nI_1]
          refine ⟨fun x => absurd x (nI_ge (by omega) (by omega)), fun _ => m_byteOf hT h hc (by omega) (m_sortOf b1 (m_byteOf hT h he (by omega) (m_sortOf b2 ⟨fun x => ?_, fun x => ?_⟩)))⟩
          · have x := (srt_eq b1 b2).mp ((nI_eq (by omega) (by omega)).mp x)
            refine ih (k + 1) (by omega) (fun i hi => ?_)
            rcases Nat.lt_or_ge i k with r | r
            · exact hp i r
            · rw [show i = k by omega]; exact x
          · have q : codeOK (tLen T c) (tb T c) (tLen T e) (tb T e) = false := decide_eq_false (fun r => x (by rw [(srt_eq b1 b2).mpr (r.2.2 k (by omega))]))
            rw [q] at hk
            exact hk
      exact ⟨tLen T c + 1, L (tLen T c) 0 (by omega) (fun i hi => absurd hi (Nat.not_lt_zero i))⟩
    · have q : codeOK (tLen T c) (tb T c) (tLen T e) (tb T e) = false := decide_eq_false (fun r => y (by rw [r.2.1]))
      rw [q] at hk
      exact hk
  · rw [decide_eq_false z]
    have q : codeOK (tLen T c) (tb T c) (tLen T e) (tb T e) = false := decide_eq_false (fun r => z r.1)
    rw [q] at hk
    exact ⟨fun _ => hk, fun y => absurd rfl y⟩
