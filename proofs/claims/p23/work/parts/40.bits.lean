/-! bytes -/
theorem b255 : ∀ i, i < 32 → (255#32).getLsbD i = decide (i < 8) := by decide
theorem and255 {x y : Int32} (h : ∀ i, i < 8 → x.toBitVec.getLsbD i = y.toBitVec.getLsbD i) : x &&& 255 = y &&& 255 := by
  apply Int32.toBitVec_inj.mp
  rw [Int32.toBitVec_and, Int32.toBitVec_and]
  apply BitVec.eq_of_getLsbD_eq
  intro i hi
  rw [BitVec.getLsbD_and, BitVec.getLsbD_and, show (255 : Int32).toBitVec = 255#32 from rfl, b255 i hi]
  by_cases q : i < 8
  · rw [h i q]
  · simp [q]
theorem nar_e (x : Int32) : vp_nar .byte x = Int8.toInt32 (Int32.toInt8 x) := rfl
theorem by_and (y : Int32) : (Int8.toInt32 (Int32.toInt8 y)) &&& 255 = y &&& 255 := by
  apply and255
  intro i hi
  rw [Int8.toBitVec_toInt32, Int32.toBitVec_toInt8]
  rw [BitVec.getLsbD_signExtend, BitVec.getLsbD_signExtend]
  simp [hi, show i < 32 by omega]
theorem nar_and (y : Int32) : (vp_nar .byte y) &&& 255 = y &&& 255 := by rw [nar_e, by_and]
theorem nar_and2 (y : Int32) : (vp_nar .byte (Int8.toInt32 (Int32.toInt8 y))) &&& 255 = y &&& 255 := by rw [nar_and, by_and]
theorem sh_i (v : Int32) {s i : Nat} (hs : s < 32) (hi : i + s < 32) (e : ((nI s &&& 31 : Int32).toBitVec.smod 32#32).toNat = s) : (v >>> (nI s &&& 31)).toBitVec.getLsbD i = v.toBitVec.getLsbD (s + i) := by
  rw [Int32.toBitVec_shiftRight]
  show (BitVec.sshiftRight v.toBitVec ((nI s &&& 31 : Int32).toBitVec.smod 32#32).toNat).getLsbD i = _
  rw [e, BitVec.getLsbD_sshiftRight]
  simp [show s + i < 32 by omega, show i < 32 by omega]
theorem sh_u (v : Int32) {s i : Nat} (hs : s < 32) (hi : i + s < 32) (e : ((Int32.toUInt32 (nI s) &&& Int32.toUInt32 31).toBitVec % 32#32).toNat = s) : ((Int32.toUInt32 v >>> (Int32.toUInt32 (nI s) &&& Int32.toUInt32 31)).toInt32).toBitVec.getLsbD i = v.toBitVec.getLsbD (s + i) := by
  rw [UInt32.toBitVec_toInt32, UInt32.toBitVec_shiftRight]
  show (BitVec.ushiftRight (Int32.toUInt32 v).toBitVec ((Int32.toUInt32 (nI s) &&& Int32.toUInt32 31).toBitVec % 32#32).toNat).getLsbD i = _
  rw [e]
  show ((Int32.toUInt32 v).toBitVec >>> s).getLsbD i = _
  rw [BitVec.getLsbD_ushiftRight, Int32.toBitVec_toUInt32]
theorem sh_and (v : Int32) {s : Nat} (hs : s = 24 ∨ s = 16 ∨ s = 8 ∨ s = 0) : (v >>> (nI s &&& 31)) &&& 255 = ((Int32.toUInt32 v >>> (Int32.toUInt32 (nI s) &&& Int32.toUInt32 31)).toInt32) &&& 255 := by
  apply and255
  intro i hi
  rcases hs with rfl | rfl | rfl | rfl
  · rw [sh_i v (by decide) (by omega) (by decide), sh_u v (by decide) (by omega) (by decide)]
  · rw [sh_i v (by decide) (by omega) (by decide), sh_u v (by decide) (by omega) (by decide)]
  · rw [sh_i v (by decide) (by omega) (by decide), sh_u v (by decide) (by omega) (by decide)]
  · rw [sh_i v (by decide) (by omega) (by decide), sh_u v (by decide) (by omega) (by decide)]
theorem and_n (y : Int32) : ∃ n, n < 256 ∧ y &&& 255 = nI n := by
  have h1 : (y &&& 255).toBitVec.toNat < 256 := by
    rw [Int32.toBitVec_and, BitVec.toNat_and]
    exact Nat.lt_of_le_of_lt Nat.and_le_right (by decide)
  refine ⟨(y &&& 255).toBitVec.toNat, h1, ?_⟩
  apply Int32.toBitVec_inj.mp
  show _ = BitVec.ofNat 32 _
  rw [BitVec.ofNat_toNat, BitVec.setWidth_eq]
theorem n_and : ∀ b, b < 256 → nI b &&& 255 = nI b := by decide +kernel
