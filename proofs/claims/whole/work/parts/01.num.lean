/-! ===== numbers: ints and longs as Int, wrapped only where they are looked at ===== -/
def w32 (a : Int) : Int := a.bmod 4294967296
def w64 (a : Int) : Int := a.bmod 18446744073709551616
abbrev oI (a : Int) : Int32 := Int32.ofInt a
abbrev oL (a : Int) : Int64 := Int64.ofInt a
theorem w32_id {a : Int} (h1 : -2147483648 ≤ a) (h2 : a < 2147483648) : w32 a = a := by
  unfold w32; rw [Int.bmod_def]; omega
theorem w64_id {a : Int} (h1 : -9223372036854775808 ≤ a) (h2 : a < 9223372036854775808) : w64 a = a := by
  unfold w64; rw [Int.bmod_def]; omega
theorem w32_range (a : Int) : -2147483648 ≤ w32 a ∧ w32 a < 2147483648 := by
  unfold w32; rw [Int.bmod_def]; omega
theorem w64_range (a : Int) : -9223372036854775808 ≤ w64 a ∧ w64 a < 9223372036854775808 := by
  unfold w64; rw [Int.bmod_def]; omega
theorem oI_toInt (a : Int) : (oI a).toInt = w32 a := Int32.toInt_ofInt
theorem oL_toInt (a : Int) : (oL a).toInt = w64 a := Int64.toInt_ofInt
theorem oI_self (x : Int32) : oI x.toInt = x := Int32.ofInt_toInt x
theorem oL_self (x : Int64) : oL x.toInt = x := Int64.ofInt_toInt x
theorem oI_w (a : Int) : oI (w32 a) = oI a := by rw [← oI_toInt, oI_self]
theorem oL_w (a : Int) : oL (w64 a) = oL a := by rw [← oL_toInt, oL_self]
theorem oI_add (a b : Int) : oI (a + b) = oI a + oI b := Int32.ofInt_add a b
theorem oI_sub (a b : Int) : oI (a - b) = oI a - oI b := Int32.ofInt_sub a b
theorem oI_mul (a b : Int) : oI (a * b) = oI a * oI b := Int32.ofInt_mul a b
theorem oI_neg (a : Int) : oI (-a) = - oI a := Int32.ofInt_neg a
theorem oL_add (a b : Int) : oL (a + b) = oL a + oL b := Int64.ofInt_add a b
theorem oL_sub (a b : Int) : oL (a - b) = oL a - oL b := Int64.ofInt_sub a b
theorem oL_mul (a b : Int) : oL (a * b) = oL a * oL b := Int64.ofInt_mul a b
theorem oI_lt (a b : Int) : oI a < oI b ↔ w32 a < w32 b := by rw [Int32.lt_iff_toInt_lt, oI_toInt, oI_toInt]
theorem oI_le (a b : Int) : oI a ≤ oI b ↔ w32 a ≤ w32 b := by rw [Int32.le_iff_toInt_le, oI_toInt, oI_toInt]
theorem oI_eq (a b : Int) : oI a = oI b ↔ w32 a = w32 b := by rw [← Int32.toInt_inj, oI_toInt, oI_toInt]
theorem oL_lt (a b : Int) : oL a < oL b ↔ w64 a < w64 b := by rw [Int64.lt_iff_toInt_lt, oL_toInt, oL_toInt]
theorem oL_eq (a b : Int) : oL a = oL b ↔ w64 a = w64 b := by rw [← Int64.toInt_inj, oL_toInt, oL_toInt]
theorem oI_zero : oI 0 = 0 := rfl
theorem w32_0 : w32 0 = 0 := rfl
theorem oI_lt0 (a : Int) : oI a < 0 ↔ w32 a < 0 := by rw [← oI_zero, oI_lt, w32_0]
theorem oI_eq0 (a : Int) : oI a = 0 ↔ w32 a = 0 := by rw [← oI_zero, oI_eq, w32_0]
theorem oL_zero : oL 0 = 0 := rfl
theorem w64_0 : w64 0 = 0 := rfl
theorem oL_eq0 (a : Int) : oL a = 0 ↔ w64 a = 0 := by rw [← oL_zero, oL_eq, w64_0]
theorem oI_div (a b : Int) : oI ((w32 a).tdiv (w32 b)) = oI a / oI b := by
  rw [← Int32.toInt_inj, Int32.toInt_div, oI_toInt, oI_toInt, oI_toInt]; rfl
theorem oL_div (a b : Int) : oL ((w64 a).tdiv (w64 b)) = oL a / oL b := by
  rw [← Int64.toInt_inj, Int64.toInt_div, oL_toInt, oL_toInt, oL_toInt]; rfl
theorem oI_rem (a b : Int) : oI ((w32 a).tmod (w32 b)) = oI a - oI a / oI b * oI b := by
  rw [Int.tmod_def, oI_sub, oI_w, Int.mul_comm, oI_mul, oI_w, oI_div]
theorem oL_rem (a b : Int) : oL ((w64 a).tmod (w64 b)) = oL a - oL a / oL b * oL b := by
  rw [Int.tmod_def, oL_sub, oL_w, Int.mul_comm, oL_mul, oL_w, oL_div]
theorem oI_l (a : Int) : (oI a).toInt64 = oL (w32 a) := by
  rw [← Int64.toInt_inj, Int32.toInt_toInt64, oI_toInt, oL_toInt, w64_id] <;> have := w32_range a <;> omega
theorem oL_i (a : Int) : (oL a).toInt32 = oI a := by
  rw [← Int32.toInt_inj, Int64.toInt_toInt32, oL_toInt, oI_toInt]
  unfold w64 w32
  rw [Int.bmod_def, Int.bmod_def, Int.bmod_def]; omega
def b8 (a : Int) : Int := a.bmod 256
theorem oI_b (a : Int) : (oI a).toInt8.toInt32 = oI (b8 a) := by
  rw [← Int32.toInt_inj, Int8.toInt_toInt32, Int32.toInt_toInt8, oI_toInt, oI_toInt]
  unfold w32 b8
  simp only [Int.bmod_def]; omega
theorem oI_clamp (a : Int) : (oI a).toNatClampNeg = (w32 a).toNat := by
  rw [Int32.toNatClampNeg, oI_toInt]
theorem oI_in (a : Int) (n : Nat) : vp_in (oI a) n ↔ 0 ≤ w32 a ∧ w32 a < n := by rw [vp_in_iff, oI_toInt]
/-- bits of ints -/
def iand (a b : Int) : Int := (oI a &&& oI b).toInt
def ior (a b : Int) : Int := (oI a ||| oI b).toInt
def ixor (a b : Int) : Int := (oI a ^^^ oI b).toInt
def ishl (a b : Int) : Int := (oI a <<< (oI b &&& 31)).toInt
def ishr (a b : Int) : Int := (oI a >>> (oI b &&& 31)).toInt
def iushr (a b : Int) : Int := ((oI a).toUInt32 >>> ((oI b).toUInt32 &&& Int32.toUInt32 31)).toInt32.toInt
def land (a b : Int) : Int := (oL a &&& oL b).toInt
def lor (a b : Int) : Int := (oL a ||| oL b).toInt
def lshl (a b : Int) : Int := (oL a <<< ((oI b).toInt64 &&& 63)).toInt
def lshr (a b : Int) : Int := (oL a >>> ((oI b).toInt64 &&& 63)).toInt
def lcmpI (a b : Int) : Int := if w64 b < w64 a then 1 else if w64 a = w64 b then 0 else -1
theorem oI_cmp (a b : Int) : lg_cmp (oL a) (oL b) = oI (lcmpI a b) := by
  unfold lg_cmp lcmpI
  by_cases h1 : w64 b < w64 a
  · simp [oL_lt, h1]; rfl
  · by_cases h2 : w64 a = w64 b
    · simp [oL_lt, oL_eq, h2]; rfl
    · simp [oL_lt, oL_eq, h1, h2]
