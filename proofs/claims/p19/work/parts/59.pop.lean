/-! how many bits are set -/
def cntB (p : Nat → Bool) : Nat → Nat
  | 0 => 0
  | k + 1 => cntB p k + (if p k then 1 else 0)
theorem cntB_add (p : Nat → Bool) (a : Nat) : ∀ b, cntB p (a + b) = cntB p a + cntB (fun i => p (a + i)) b := by
  intro b
  induction b with
  | zero => rfl
  | succ b ih => show cntB p (a + b) + _ = cntB p a + (cntB (fun i => p (a + i)) b + _); rw [ih, Nat.add_assoc]; rfl
theorem cntB_c {p q : Nat → Bool} : ∀ k, (∀ i, i < k → p i = q i) → cntB p k = cntB q k := by
  intro k
  induction k with
  | zero => intro _; rfl
  | succ k ih => intro h; unfold cntB; rw [ih (fun i hi => h i (by omega)), h k (by omega)]
def pop8 (a : Nat) : Nat := cntB (fun i => a.testBit i) 8
theorem land_cat {a b A B w : Nat} (ha : a < 2 ^ w) (hb : b < 2 ^ w) : (a + 2 ^ w * A) &&& (b + 2 ^ w * B) = (a &&& b) + 2 ^ w * (A &&& B) := by
  have hab : a &&& b < 2 ^ w := Nat.lt_of_le_of_lt Nat.and_le_left ha
  apply Nat.eq_of_testBit_eq
  intro i
  rw [Nat.testBit_and, Nat.add_comm a, Nat.add_comm b, Nat.add_comm (a &&& b), Nat.testBit_two_pow_mul_add _ ha, Nat.testBit_two_pow_mul_add _ hb, Nat.testBit_two_pow_mul_add _ hab]
  split
  · rw [Nat.testBit_and]
  · rw [Nat.testBit_and]
/-- four bytes -/
def cat4 (a b c d : Nat) : Nat := a + 2 ^ 8 * (b + 2 ^ 8 * (c + 2 ^ 8 * d))
theorem cat4_land {a b c d k : Nat} (ha : a < 256) (hb : b < 256) (hc : c < 256) (hk : k < 256) : cat4 a b c d &&& cat4 k k k k = cat4 (a &&& k) (b &&& k) (c &&& k) (d &&& k) := by
  unfold cat4
  rw [land_cat ha hk, land_cat hb hk, land_cat hc hk]
def s1N (a : Nat) : Nat := a - ((a / 2) &&& 85)
def s2N (a : Nat) : Nat := (s1N a &&& 51) + ((s1N a / 4) &&& 51)
theorem f_1 : ∀ a, a < 256 → ∀ b, b < 2 → (a / 2 + 128 * b) &&& 85 = (a / 2) &&& 85 ∧ (a / 2) &&& 85 ≤ a := by decide +kernel
theorem f_2 : ∀ a, a < 256 → ∀ b, b < 4 → (s1N a / 4 + 64 * b) &&& 51 = (s1N a / 4) &&& 51 ∧ s1N a < 256 := by decide +kernel
theorem f_3 : ∀ a, a < 256 → ∀ b, b < 5 → (s2N a + s2N a / 16 + 16 * b) &&& 15 = pop8 a ∧ s2N a ≤ 68 ∧ s2N a % 16 < 5 ∧ s2N a / 16 < 5 ∧ pop8 a ≤ 8 ∧ (s2N a + s2N a / 16) &&& 15 = pop8 a := by decide +kernel
theorem nat_pop {a b c d : Nat} (ha : a < 256) (hb : b < 256) (hc : c < 256) (hd : d < 256) : ∃ i1 i2 i3, i1 = cat4 a b c d - ((cat4 a b c d / 2) &&& 1431655765) ∧ (cat4 a b c d / 2) &&& 1431655765 ≤ cat4 a b c d ∧ i1 < 2 ^ 32 ∧ i2 = (i1 &&& 858993459) + ((i1 / 4) &&& 858993459) ∧ i2 < 2 ^ 32 ∧ i2 + i2 / 16 < 2 ^ 32 ∧ i3 = (i2 + i2 / 16) &&& 252645135 ∧ i3 = cat4 (pop8 a) (pop8 b) (pop8 c) (pop8 d) := by
  have m5 : (1431655765 : Nat) = cat4 85 85 85 85 := by decide
  have m3 : (858993459 : Nat) = cat4 51 51 51 51 := by decide
  have mf : (252645135 : Nat) = cat4 15 15 15 15 := by decide
  have e1 : cat4 a b c d / 2 = cat4 (a / 2 + 128 * (b % 2)) (b / 2 + 128 * (c % 2)) (c / 2 + 128 * (d % 2)) (d / 2) := by unfold cat4; omega
  have a1 := f_1 a ha (b % 2) (by omega)
  have b1 := f_1 b hb (c % 2) (by omega)
  have c1 := f_1 c hc (d % 2) (by omega)
  have d1 := f_1 d hd 0 (by omega)
  have q1 : (cat4 a b c d / 2) &&& 1431655765 = cat4 ((a / 2) &&& 85) ((b / 2) &&& 85) ((c / 2) &&& 85) ((d / 2) &&& 85) := by
    rw [e1, m5, cat4_land (by omega) (by omega) (by omega) (by decide), a1.1, b1.1, c1.1]
  have a2 := f_2 a ha
  have b2 := f_2 b hb
  have c2 := f_2 c hc
  have d2 := f_2 d hd
  have r1 : cat4 a b c d - ((cat4 a b c d / 2) &&& 1431655765) = cat4 (s1N a) (s1N b) (s1N c) (s1N d) := by
    rw [q1]
    have h1 := a1.2
    have h2 := b1.2
    have h3 := c1.2
    have h4 := d1.2
    unfold cat4 s1N
    omega
  have la := (a2 0 (by decide)).2
  have lb := (b2 0 (by decide)).2
  have lc := (c2 0 (by decide)).2
  have ld := (d2 0 (by decide)).2
  have e2 : cat4 (s1N a) (s1N b) (s1N c) (s1N d) / 4 = cat4 (s1N a / 4 + 64 * (s1N b % 4)) (s1N b / 4 + 64 * (s1N c % 4)) (s1N c / 4 + 64 * (s1N d % 4)) (s1N d / 4) := by unfold cat4; omega
  have r2 : (cat4 (s1N a) (s1N b) (s1N c) (s1N d) &&& 858993459) + ((cat4 (s1N a) (s1N b) (s1N c) (s1N d) / 4) &&& 858993459) = cat4 (s2N a) (s2N b) (s2N c) (s2N d) := by
    rw [e2, m3, cat4_land la lb lc (by decide), cat4_land (by omega) (by omega) (by omega) (by decide), (a2 _ (by omega)).1, (b2 _ (by omega)).1, (c2 _ (by omega)).1]
    unfold cat4 s2N
    omega
  have a3 := f_3 a ha
  have b3 := f_3 b hb
  have c3 := f_3 c hc
  have d3 := f_3 d hd
  have a4 := a3 0 (by decide)
  have b4 := b3 0 (by decide)
  have c4 := c3 0 (by decide)
  have d4 := d3 0 (by decide)
  have e3 : cat4 (s2N a) (s2N b) (s2N c) (s2N d) + cat4 (s2N a) (s2N b) (s2N c) (s2N d) / 16 = cat4 (s2N a + s2N a / 16 + 16 * (s2N b % 16)) (s2N b + s2N b / 16 + 16 * (s2N c % 16)) (s2N c + s2N c / 16 + 16 * (s2N d % 16)) (s2N d + s2N d / 16) := by unfold cat4; omega
  have r3 : (cat4 (s2N a) (s2N b) (s2N c) (s2N d) + cat4 (s2N a) (s2N b) (s2N c) (s2N d) / 16) &&& 252645135 = cat4 (pop8 a) (pop8 b) (pop8 c) (pop8 d) := by
    rw [e3, mf, cat4_land (by omega) (by omega) (by omega) (by decide), (a3 _ b4.2.2.1).1, (b3 _ c4.2.2.1).1, (c3 _ d4.2.2.1).1, d4.2.2.2.2.2]
  refine ⟨_, _, _, rfl, ?_, ?_, rfl, ?_, ?_, rfl, ?_⟩
  · rw [q1]
    have h1 := a1.2
    have h2 := b1.2
    have h3 := c1.2
    have h4 := d1.2
    unfold cat4
    omega
  · rw [r1]; unfold cat4; omega
  · rw [r1, r2]; unfold cat4; omega
  · rw [r1, r2, e3]; unfold cat4; omega
  · rw [r1, r2, r3]
theorem nat_end {p q r s : Nat} (h1 : p ≤ 8) (h2 : q ≤ 8) (h3 : r ≤ 8) (h4 : s ≤ 8) : ∀ i4 i5, i4 = cat4 p q r s + cat4 p q r s / 256 → i5 = i4 + i4 / 65536 → i4 < 2 ^ 32 ∧ i5 < 2 ^ 32 ∧ i5 % 64 = p + q + r + s := by
  intro i4 i5 e4 e5
  have e : cat4 p q r s / 256 = q + 256 * (r + 256 * s) := by unfold cat4; omega
  have f : i4 = (p + q) + 256 * (q + r) + 65536 * ((r + s) + 256 * s) := by rw [e4, e]; unfold cat4; omega
  have g : i4 / 65536 = (r + s) + 256 * s := by omega
  rw [g] at e5
  omega
theorem shU (x : Int32) {k : Nat} (e : ((Int32.toUInt32 (nI k) &&& Int32.toUInt32 31).toBitVec % 32#32).toNat = k) : (((Int32.toUInt32 x >>> (Int32.toUInt32 (nI k) &&& Int32.toUInt32 31)).toInt32)).toBitVec.toNat = x.toBitVec.toNat / 2 ^ k := by
  rw [UInt32.toBitVec_toInt32, UInt32.toBitVec_shiftRight]
  show (BitVec.ushiftRight (Int32.toUInt32 x).toBitVec ((Int32.toUInt32 (nI k) &&& Int32.toUInt32 31).toBitVec % 32#32).toNat).toNat = _
  rw [e]
  show ((Int32.toUInt32 x).toBitVec >>> k).toNat = _
  rw [BitVec.toNat_ushiftRight, Int32.toBitVec_toUInt32, Nat.shiftRight_eq_div_pow]
theorem n_and2 (x y : Int32) : (x &&& y).toBitVec.toNat = x.toBitVec.toNat &&& y.toBitVec.toNat := by rw [Int32.toBitVec_and, BitVec.toNat_and]
theorem n_add2 (x y : Int32) (h : x.toBitVec.toNat + y.toBitVec.toNat < 2 ^ 32) : (x + y).toBitVec.toNat = x.toBitVec.toNat + y.toBitVec.toNat := by rw [Int32.toBitVec_add, BitVec.toNat_add, Nat.mod_eq_of_lt h]
theorem n_sub2 (x y : Int32) (h : y.toBitVec.toNat ≤ x.toBitVec.toNat) : (x - y).toBitVec.toNat = x.toBitVec.toNat - y.toBitVec.toNat := by rw [Int32.toBitVec_sub, BitVec.toNat_sub_of_le (BitVec.le_def.mpr h)]
def bs1 (x : Int32) : Int32 := x - (((Int32.toUInt32 x >>> (Int32.toUInt32 (nI 1) &&& Int32.toUInt32 31)).toInt32) &&& (1431655765 : Int32))
def bs2 (x : Int32) : Int32 := (x &&& (858993459 : Int32)) + (((Int32.toUInt32 x >>> (Int32.toUInt32 (nI 2) &&& Int32.toUInt32 31)).toInt32) &&& (858993459 : Int32))
def bs3 (x : Int32) : Int32 := (x + ((Int32.toUInt32 x >>> (Int32.toUInt32 (nI 4) &&& Int32.toUInt32 31)).toInt32)) &&& (252645135 : Int32)
def bs4 (x : Int32) : Int32 := x + ((Int32.toUInt32 x >>> (Int32.toUInt32 (nI 8) &&& Int32.toUInt32 31)).toInt32)
def bs5 (x : Int32) : Int32 := x + ((Int32.toUInt32 x >>> (Int32.toUInt32 (nI 16) &&& Int32.toUInt32 31)).toInt32)
theorem pop_e (x : Int32) : bs5 (bs4 (bs3 (bs2 (bs1 x)))) &&& (63 : Int32) = nI (cntB (bit x) 32) := by
  have hlt : x.toBitVec.toNat < 2 ^ 32 := x.toBitVec.isLt
  obtain ⟨a, b, c, d, ha, hb, hc, hd, en⟩ : ∃ a b c d, a < 256 ∧ b < 256 ∧ c < 256 ∧ d < 256 ∧ x.toBitVec.toNat = cat4 a b c d := by
    refine ⟨x.toBitVec.toNat % 256, x.toBitVec.toNat / 256 % 256, x.toBitVec.toNat / 65536 % 256, x.toBitVec.toNat / 16777216, by omega, by omega, by omega, by omega, ?_⟩
    unfold cat4
    omega
  obtain ⟨i1, i2, i3, g1, g2, g3, g4, g5, g6, g7, g8⟩ := nat_pop ha hb hc hd
  have h1 : (bs1 x).toBitVec.toNat = i1 := by
    unfold bs1
    rw [n_sub2, n_and2, shU x (by decide), en, g1]
    · rfl
    · rw [n_and2, shU x (by decide), en]; exact g2
  have h2 : (bs2 (bs1 x)).toBitVec.toNat = i2 := by
    unfold bs2
    rw [n_add2, n_and2, n_and2, shU _ (by decide), h1, g4]
    · rfl
    · rw [n_and2, n_and2, shU _ (by decide), h1]
      show (i1 &&& 858993459) + ((i1 / 4) &&& 858993459) < 2 ^ 32
      rw [← g4]; exact g5
  have h3 : (bs3 (bs2 (bs1 x))).toBitVec.toNat = i3 := by
    unfold bs3
    rw [n_and2, n_add2, shU _ (by decide), h2, g7]
    · rfl
    · rw [shU _ (by decide), h2]; exact g6
  have w : ∀ a, a < 256 → pop8 a ≤ 8 := fun a ha => (f_3 a ha 0 (by decide)).2.2.2.2.1
  rw [g8] at h3
  obtain ⟨k1, k2, k3⟩ := nat_end (w a ha) (w b hb) (w c hc) (w d hd) _ _ rfl rfl
  have h4 : (bs4 (bs3 (bs2 (bs1 x)))).toBitVec.toNat = cat4 (pop8 a) (pop8 b) (pop8 c) (pop8 d) + cat4 (pop8 a) (pop8 b) (pop8 c) (pop8 d) / 256 := by
    unfold bs4
    rw [n_add2, shU _ (by decide), h3]
    · rw [shU _ (by decide), h3]; exact k1
  have h5 : (bs5 (bs4 (bs3 (bs2 (bs1 x))))).toBitVec.toNat = (cat4 (pop8 a) (pop8 b) (pop8 c) (pop8 d) + cat4 (pop8 a) (pop8 b) (pop8 c) (pop8 d) / 256) + (cat4 (pop8 a) (pop8 b) (pop8 c) (pop8 d) + cat4 (pop8 a) (pop8 b) (pop8 c) (pop8 d) / 256) / 65536 := by
    unfold bs5
    rw [n_add2, shU _ (by decide), h4]
    · rw [shU _ (by decide), h4]; exact k2
  have ec : cntB (bit x) 32 = pop8 a + pop8 b + pop8 c + pop8 d := by
    have tb : ∀ i, bit x i = (cat4 a b c d).testBit i := fun i => by unfold bit; rw [← en]; rfl
    have t1 : ∀ a A i, a < 256 → i < 8 → (a + 2 ^ 8 * A).testBit i = a.testBit i := fun a A i h1 h2 => by rw [Nat.add_comm, Nat.testBit_two_pow_mul_add _ h1, if_pos h2]
    have t2 : ∀ a A i, a < 256 → (a + 2 ^ 8 * A).testBit (8 + i) = A.testBit i := fun a A i h1 => by rw [Nat.add_comm a, Nat.testBit_two_pow_mul_add _ h1, if_neg (by omega), Nat.add_sub_cancel_left]
    have u1 : ∀ a A k, a < 256 → cntB (fun i => (a + 2 ^ 8 * A).testBit i) (8 + k) = pop8 a + cntB (fun i => A.testBit i) k := by
      intro a A k h1
      rw [cntB_add]
      congr 1
      · exact cntB_c 8 (fun i hi => t1 a A i h1 hi)
      · exact cntB_c k (fun i hi => t2 a A i h1)
    rw [cntB_c 32 (fun i _ => tb i)]
    show cntB (fun i => (cat4 a b c d).testBit i) 32 = _
    unfold cat4
    rw [show (32 : Nat) = 8 + (8 + (8 + 8)) from rfl, u1 _ _ _ ha, u1 _ _ _ hb, u1 _ _ _ hc]
    show _ + (_ + (_ + pop8 d)) = _
    omega
  rw [ec]
  apply Int32.toBitVec_inj.mp
  apply BitVec.eq_of_toNat_eq
  rw [n_and2, h5]
  show _ &&& 63 = (BitVec.ofNat 32 _).toNat
  have wa := w a ha
  have wb := w b hb
  have wc := w c hc
  have wd := w d hd
  rw [BitVec.toNat_ofNat, Nat.mod_eq_of_lt (by omega), show (63 : Nat) = 2 ^ 6 - 1 from rfl, Nat.and_two_pow_sub_one_eq_mod]
  exact k3
theorem bc_e {K : Int32 → Prop} {x : Int32} (hk : K (nI (cntB (bit x) 32))) : P_J6_bitCount_0f7a4 K x := by
  rw [← pop_e] at hk
  exact hk
