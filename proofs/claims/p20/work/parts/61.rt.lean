/-! a NUMBER's digits and signs, place by place -/
section
variable {f : Nat → Nat} {e b pt : Nat} {th : Int32}
def cDr (e pt : Nat) (th : Int32) : Nat → Nat → Nat
  | 0, _ => 0
  | d + 1, k => (if due e k pt th = m1 then 1 else 0) + cDr e pt th d (k + 1)
def vDr (f : Nat → Nat) (e pt : Nat) (th : Int32) : Nat → Nat → Nat
  | 0, _ => 0
  | d + 1, k => (if due e k pt th = m1 then (f k - 48) * 10 ^ cDr e pt th d (k + 1) else 0) + vDr f e pt th d (k + 1)
theorem nR_val : ∀ (d k v g v' g' : Nat), nRun f e b pt th d k (v, g) = some (v', g') → v' = v * 10 ^ cDr e pt th d k + vDr f e pt th d k ∧ g' = g + cDr e pt th d k ∧ ∀ q, k ≤ q → q < k + d → (due e q pt th = m1 → 48 ≤ f q ∧ f q ≤ 57) ∧ (¬ due e q pt th = m1 → nI (f q) = due e q pt th ∧ q ≠ b) := by
  intro d
  induction d with
  | zero =>
    intro k v g v' g' h
    have h : some (v, g) = some (v', g') := h
    cases h
    exact ⟨by show v = v * 10 ^ 0 + 0; omega, rfl, fun q h1 h2 => by omega⟩
  | succ d ih =>
    intro k v g v' g' h
    have h : (match nStep f e b pt th k (v, g) with
      | some s' => nRun f e b pt th d (k + 1) s'
      | none => none) = some (v', g') := h
    have split : ∀ q, k ≤ q → q < k + (d + 1) → q = k ∨ (k + 1 ≤ q ∧ q < k + 1 + d) := fun q h1 h2 => by omega
    by_cases c : due e k pt th = m1
    · have st : nStep f e b pt th k (v, g) = if (48 ≤ f k ∧ f k ≤ 57) ∧ g ≠ 9 then some (v * 10 + (f k - 48), g + 1) else none := by unfold nStep; rw [if_pos c]
      by_cases z : (48 ≤ f k ∧ f k ≤ 57) ∧ g ≠ 9
      · rw [st, if_pos z] at h
        obtain ⟨i1, i2, i3⟩ := ih (k + 1) _ _ v' g' h
        refine ⟨?_, ?_, fun q h1 h2 => ?_⟩
        · show v' = v * 10 ^ ((if due e k pt th = m1 then 1 else 0) + cDr e pt th d (k + 1)) + ((if due e k pt th = m1 then (f k - 48) * 10 ^ cDr e pt th d (k + 1) else 0) + vDr f e pt th d (k + 1))
          rw [if_pos c, if_pos c, i1, Nat.pow_add, Nat.pow_one, Nat.add_mul, Nat.mul_assoc, Nat.add_assoc]
        · show g' = g + ((if due e k pt th = m1 then 1 else 0) + cDr e pt th d (k + 1))
          rw [if_pos c, i2]; omega
        · rcases split q h1 h2 with r | r
          · subst r; exact ⟨fun _ => z.1, fun x => absurd c x⟩
          · exact i3 q r.1 r.2
      · rw [st, if_neg z] at h; cases h
    · have st : nStep f e b pt th k (v, g) = if nI (f k) = due e k pt th ∧ k ≠ b then some (v, g) else none := by unfold nStep; rw [if_neg c]
      by_cases z : nI (f k) = due e k pt th ∧ k ≠ b
      · rw [st, if_pos z] at h
        obtain ⟨i1, i2, i3⟩ := ih (k + 1) _ _ v' g' h
        refine ⟨?_, ?_, fun q h1 h2 => ?_⟩
        · show v' = v * 10 ^ ((if due e k pt th = m1 then 1 else 0) + cDr e pt th d (k + 1)) + ((if due e k pt th = m1 then (f k - 48) * 10 ^ cDr e pt th d (k + 1) else 0) + vDr f e pt th d (k + 1))
          rw [if_neg c, if_neg c, Nat.zero_add, Nat.zero_add]; exact i1
        · show g' = g + ((if due e k pt th = m1 then 1 else 0) + cDr e pt th d (k + 1))
          rw [if_neg c, i2]; omega
        · rcases split q h1 h2 with r | r
          · subst r; exact ⟨fun x => absurd x c, fun _ => z⟩
          · exact i3 q r.1 r.2
      · rw [st, if_neg z] at h; cases h
theorem vDr_lt : ∀ (d k : Nat), (∀ q, k ≤ q → q < k + d → due e q pt th = m1 → 48 ≤ f q ∧ f q ≤ 57) → vDr f e pt th d k < 10 ^ cDr e pt th d k := by
  intro d
  induction d with
  | zero => intro k _; show 0 < 10 ^ 0; decide
  | succ d ih =>
    intro k h
    have i1 := ih (k + 1) (fun q h1 h2 => h q (by omega) (by omega))
    show (if due e k pt th = m1 then (f k - 48) * 10 ^ cDr e pt th d (k + 1) else 0) + vDr f e pt th d (k + 1) < 10 ^ ((if due e k pt th = m1 then 1 else 0) + cDr e pt th d (k + 1))
    by_cases c : due e k pt th = m1
    · rw [if_pos c, if_pos c, Nat.pow_add, Nat.pow_one]
      have hk := h k (Nat.le_refl _) (by omega) c
      have : (f k - 48) * 10 ^ cDr e pt th d (k + 1) ≤ 9 * 10 ^ cDr e pt th d (k + 1) := Nat.mul_le_mul_right _ (by omega)
      omega
    · rw [if_neg c, if_neg c, Nat.zero_add, Nat.zero_add]; exact i1
theorem cD_s {n k : Nat} (h : k < n) : cDr e pt th (n - k) k = (if due e k pt th = m1 then 1 else 0) + cDr e pt th (n - (k + 1)) (k + 1) := by
  rw [show n - k = (n - (k + 1)) + 1 by omega]
  rfl
theorem vD_s {n k : Nat} (h : k < n) : vDr f e pt th (n - k) k = (if due e k pt th = m1 then (f k - 48) * 10 ^ cDr e pt th (n - (k + 1)) (k + 1) else 0) + vDr f e pt th (n - (k + 1)) (k + 1) := by
  rw [show n - k = (n - (k + 1)) + 1 by omega]
  rfl
/-- the number, cut at any place -/
theorem vD_cut {n : Nat} : ∀ (t k : Nat), k + t ≤ n → ∃ A, vDr f e pt th (n - k) k = A * 10 ^ cDr e pt th (n - (k + t)) (k + t) + vDr f e pt th (n - (k + t)) (k + t) := by
  intro t
  induction t with
  | zero => intro k _; exact ⟨0, by rw [Nat.zero_mul, Nat.zero_add]; rfl⟩
  | succ t ih =>
    intro k h
    obtain ⟨A, hA⟩ := ih k (by omega)
    have s1 := vD_s (f := f) (e := e) (pt := pt) (th := th) (n := n) (k := k + t) (by omega)
    have s2 := cD_s (e := e) (pt := pt) (th := th) (n := n) (k := k + t) (by omega)
    rw [s1, s2] at hA
    show ∃ A, vDr f e pt th (n - k) k = A * 10 ^ cDr e pt th (n - (k + t + 1)) (k + t + 1) + vDr f e pt th (n - (k + t + 1)) (k + t + 1)
    by_cases c : due e (k + t) pt th = m1
    · rw [if_pos c, if_pos c, Nat.pow_add, Nat.pow_one] at hA
      exact ⟨A * 10 + (f (k + t) - 48), by rw [hA, Nat.add_mul, Nat.mul_assoc]; exact (Nat.add_assoc _ _ _).symm⟩
    · rw [if_neg c, if_neg c, Nat.zero_add, Nat.zero_add] at hA
      exact ⟨A, hA⟩
/-- the digit at a place -/
theorem dig_at {n k : Nat} (hk : b ≤ k) (hkn : k < n) (hq : ∀ q, b ≤ q → q < n → due e q pt th = m1 → 48 ≤ f q ∧ f q ≤ 57) (hd : due e k pt th = m1) : vDr f e pt th (n - b) b / 10 ^ cDr e pt th (n - (k + 1)) (k + 1) % 10 = f k - 48 := by
  obtain ⟨A, hA⟩ := vD_cut (f := f) (e := e) (pt := pt) (th := th) (n := n) (k - b) b (by omega)
  rw [show b + (k - b) = k by omega] at hA
  have s1 := vD_s (f := f) (e := e) (pt := pt) (th := th) (n := n) (k := k) hkn
  have s2 := cD_s (e := e) (pt := pt) (th := th) (n := n) (k := k) hkn
  rw [s1, s2, if_pos hd, if_pos hd, Nat.pow_add, Nat.pow_one] at hA
  have hl := vDr_lt (f := f) (e := e) (pt := pt) (th := th) (n - (k + 1)) (k + 1) (fun q h1 h2 h3 => hq q (by omega) (by omega) h3)
  have hx := hq k hk hkn hd
  generalize 10 ^ cDr e pt th (n - (k + 1)) (k + 1) = B at *
  rw [hA, show A * (10 * B) + ((f k - 48) * B + vDr f e pt th (n - (k + 1)) (k + 1)) = (A * 10 + (f k - 48)) * B + vDr f e pt th (n - (k + 1)) (k + 1) by rw [Nat.add_mul, Nat.mul_assoc, Nat.add_assoc]]
  have hB : 0 < B := by omega
  rw [Nat.mul_comm, Nat.mul_add_div hB, Nat.div_eq_of_lt hl, Nat.add_zero]
  omega
end
/-- digits among the last j places of the whole part -/
def dWN (th : Int32) (j : Nat) : Nat := if th = m1 then j else j - j / 4
theorem due_gt {e k pt : Nat} {th : Int32} (h : e < k) : due e k pt th = m1 := by
  unfold due
  rw [if_neg (by omega), if_neg (fun x => by omega)]
theorem due_lt {e k pt : Nat} {th : Int32} (h : k < e) : due e k pt th = if (e - k) % 4 = 0 then th else m1 := by
  unfold due
  rw [if_neg (by omega)]
  by_cases z : (e - k) % 4 = 0
  · rw [if_pos ⟨h, z⟩, if_pos z]
  · rw [if_neg (fun x => z x.2), if_neg z]
theorem cD_gt {e pt : Nat} {th : Int32} {n : Nat} : ∀ d k, k + d = n → e < k → cDr e pt th d k = d := by
  intro d
  induction d with
  | zero => intro k _ _; rfl
  | succ d ih =>
    intro k h1 h2
    show (if due e k pt th = m1 then 1 else 0) + cDr e pt th d (k + 1) = _
    rw [if_pos (due_gt h2), ih (k + 1) (by omega) (by omega)]
    omega
theorem cD_e {e pt dc : Nat} {th : Int32} {n : Nat} (hp : ¬ nI pt = m1) (he : (dc = 0 ∧ e = n) ∨ (0 < dc ∧ e + dc + 1 = n)) : cDr e pt th (n - e) e = dc := by
  rcases he with ⟨h1, h2⟩ | ⟨h1, h2⟩
  · rw [h2, Nat.sub_self, h1]; rfl
  · rw [cD_s (by omega), if_neg (by rw [show due e e pt th = nI pt from if_pos rfl]; exact hp), cD_gt (n := n) (n - (e + 1)) (e + 1) (by omega) (by omega)]
    omega
theorem cD_lt {e pt dc : Nat} {th : Int32} {n : Nat} (hp : ¬ nI pt = m1) (he : (dc = 0 ∧ e = n) ∨ (0 < dc ∧ e + dc + 1 = n)) : ∀ j, j ≤ e → cDr e pt th (n - (e - j)) (e - j) = dc + dWN th j := by
  intro j
  induction j with
  | zero => intro _; rw [Nat.sub_zero, cD_e hp he]; unfold dWN; split <;> rfl
  | succ j ih =>
    intro hj
    have i1 := ih (by omega)
    rw [cD_s (by omega), show e - (j + 1) + 1 = e - j by omega, i1, due_lt (by omega), show e - (e - (j + 1)) = j + 1 by omega]
    unfold dWN
    by_cases t : th = m1
    · rw [if_pos t, if_pos t, t, ite_self, if_pos rfl]; omega
    · rw [if_neg t, if_neg t]
      by_cases z : (j + 1) % 4 = 0
      · rw [if_pos z, if_neg t]; omega
      · rw [if_neg z, if_pos rfl]; omega
