/-! whole numbers: rows for simp, each decided by omega -/
def m1 : Int32 := -1
theorem e_m1 : -nI 1 = m1 := rfl
theorem e_lit (n : Nat) : (OfNat.ofNat n : Int32) = nI n := rfl
theorem e_zero : (0 : Int32) = nI 0 := rfl
theorem e_one : (1 : Int32) = nI 1 := rfl
theorem le_t {a b : Nat} (h : a ≤ b) (hb : b < 2 ^ 31) : (nI a ≤ nI b) = True := eq_true (nI_le h hb)
theorem le_f {a b : Nat} (h : b < a) (hb : a < 2 ^ 31) : (nI a ≤ nI b) = False := eq_false (nI_ge h hb)
theorem lt_t {a b : Nat} (h : a < b) (hb : b < 2 ^ 31) : (nI a < nI b) = True := eq_true (nI_lt h hb)
theorem lt_f {a b : Nat} (h : b ≤ a) (hb : a < 2 ^ 31) : (nI a < nI b) = False := eq_false (nI_nlt h hb)
theorem eq_t {a b : Nat} (h : a = b) : (nI a = nI b) = True := eq_true (by rw [h])
theorem eq_f {a b : Nat} (h : a ≠ b) (ha : a < 2 ^ 31) (hb : b < 2 ^ 31) : (nI a = nI b) = False := eq_false (fun e => h ((nI_eq ha hb).mp e))
theorem m1_i : m1.toInt = -1 := by decide
theorem m1_lt {a : Nat} (ha : a < 2 ^ 31) : (m1 < nI a) = True := eq_true (Int32.lt_iff_toInt_lt.mpr (by rw [m1_i, nI_toInt ha]; omega))
theorem m1_le {a : Nat} (ha : a < 2 ^ 31) : (m1 ≤ nI a) = True := eq_true (Int32.le_iff_toInt_le.mpr (by rw [m1_i, nI_toInt ha]; omega))
theorem lt_m1 {a : Nat} (ha : a < 2 ^ 31) : (nI a < m1) = False := eq_false (fun h => by have := Int32.lt_iff_toInt_lt.mp h; rw [m1_i, nI_toInt ha] at this; omega)
theorem le_m1 {a : Nat} (ha : a < 2 ^ 31) : (nI a ≤ m1) = False := eq_false (fun h => by have := Int32.le_iff_toInt_le.mp h; rw [m1_i, nI_toInt ha] at this; omega)
theorem eq_m1 {a : Nat} (ha : a < 2 ^ 31) : (nI a = m1) = False := eq_false (fun h => by have := congrArg Int32.toInt h; rw [m1_i, nI_toInt ha] at this; omega)
theorem m1_eq {a : Nat} (ha : a < 2 ^ 31) : (m1 = nI a) = False := eq_false (fun h => by have := congrArg Int32.toInt h; rw [m1_i, nI_toInt ha] at this; omega)
theorem sub_n {a b : Nat} (h : b ≤ a) : nI a - nI b = nI (a - b) := pk_sub h
theorem in_t {a n : Nat} (h : a < n) (hn : n < 2 ^ 31) : vp_in (nI a) n = True := eq_true (vp_in_nI h hn)
theorem cl_n {n : Nat} (h : n < 2 ^ 31) : (nI n).toNatClampNeg = n := nI_clamp h
theorem div_n {a d : Nat} (ha : a < 2 ^ 31) (h0 : 0 < d) (hd : d < 2 ^ 31) : nI a / nI d = nI (a / d) := pk_div ha h0 hd
theorem fm_1 (w : XW) (v : Int32) : fm_worth (fm_worth_s w v) = v := rfl
theorem fm_2 (w : XW) (v : Int32) : fm_digits (fm_digits_s w v) = v := rfl
theorem fm_3 (w : XW) (v : Int32) : fm_worth (fm_digits_s w v) = fm_worth w := rfl
theorem fm_4 (w : XW) (v : Int32) : fm_digits (fm_worth_s w v) = fm_digits w := rfl
theorem fm_5 (w : XW) (v : Int32) : fm_capped (fm_digits_s w v) = fm_capped w := rfl
theorem fm_6 (w : XW) (v : Int32) : fm_capped (fm_worth_s w v) = fm_capped w := rfl
theorem fm_7 (w : XW) (v : Int32) : fm_first (fm_digits_s w v) = fm_first w := rfl
theorem fm_8 (w : XW) (v : Int32) : fm_first (fm_worth_s w v) = fm_first w := rfl
/-- the class' world with another value and another number of digits told last -/
def fw (w : XW) (a b : Int32) : XW := fm_digits_s (fm_worth_s w a) b
theorem fw_w (w : XW) (a b : Int32) : fm_worth (fw w a b) = a := rfl
theorem fw_d (w : XW) (a b : Int32) : fm_digits (fw w a b) = b := rfl
theorem fw_c (w : XW) (a b : Int32) : fm_capped (fw w a b) = fm_capped w := rfl
theorem fw_f (w : XW) (a b : Int32) : fm_first (fw w a b) = fm_first w := rfl
theorem fw_ws (w : XW) (a b c : Int32) : fm_worth_s (fw w a b) c = fw w c b := rfl
theorem fw_ds (w : XW) (a b c : Int32) : fm_digits_s (fw w a b) c = fw w a c := rfl
theorem fw_fw (w : XW) (a b c d : Int32) : fw (fw w a b) c d = fw w c d := rfl
