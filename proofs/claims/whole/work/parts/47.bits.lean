/-! ===== bits ===== -/
theorem iand_bv (a b : Int) : iand a b = (BitVec.ofInt 32 a &&& BitVec.ofInt 32 b).toInt := rfl
theorem ior_bv (a b : Int) : ior a b = (BitVec.ofInt 32 a ||| BitVec.ofInt 32 b).toInt := rfl
theorem ixor_bv (a b : Int) : ixor a b = (BitVec.ofInt 32 a ^^^ BitVec.ofInt 32 b).toInt := rfl
theorem bv32 {a : Nat} (h : a < 4294967296) : (BitVec.ofInt 32 (a : Int)).toNat = a := by
  rw [BitVec.toNat_ofInt]; omega
theorem toInt_small {x : BitVec 32} (h : x.toNat < 2147483648) : x.toInt = x.toNat := BitVec.toInt_eq_toNat_of_lt (by omega)
theorem iand_nat {a b : Nat} (ha : a < 2147483648) (hb : b < 2147483648) : iand a b = ((a &&& b : Nat) : Int) := by
  have e : (BitVec.ofInt 32 (a : Int) &&& BitVec.ofInt 32 (b : Int)).toNat = a &&& b := by rw [BitVec.toNat_and, bv32 (by omega), bv32 (by omega)]
  have : a &&& b ≤ a := Nat.and_le_left
  rw [iand_bv, toInt_small (by rw [e]; omega), e]
theorem ior_nat {a b : Nat} (ha : a < 2147483648) (hb : b < 2147483648) : ior a b = ((a ||| b : Nat) : Int) := by
  have e : (BitVec.ofInt 32 (a : Int) ||| BitVec.ofInt 32 (b : Int)).toNat = a ||| b := by rw [BitVec.toNat_or, bv32 (by omega), bv32 (by omega)]
  have : a ||| b < 2 ^ 31 := Nat.or_lt_two_pow (by omega) (by omega)
  rw [ior_bv, toInt_small (by rw [e]; omega), e]
theorem iand255 (y : Int) : iand y 255 = y % 256 := by
  have e : (BitVec.ofInt 32 y &&& BitVec.ofInt 32 255).toNat = (y % 4294967296).toNat % 256 := by
    rw [BitVec.toNat_and, show (BitVec.ofInt 32 255).toNat = 2 ^ 8 - 1 from rfl, Nat.and_two_pow_sub_one_eq_mod, BitVec.toNat_ofInt]
    rfl
  rw [iand_bv, toInt_small (by rw [e]; omega), e]
  omega
theorem b8_mod (y : Int) : b8 (y % 256) = b8 (b8 y) := by
  unfold b8; simp only [Int.bmod_def]; omega
theorem b8_back {g : Int} (h : 0 ≤ g ∧ g < 256) : b8 g % 256 = g := by
  unfold b8; simp only [Int.bmod_def]; omega
theorem ishl_one {k : Nat} (h : k < 31) : ishl 1 (k : Int) = ((2 ^ k : Nat) : Int) := by
  have : ∀ k : Fin 31, ishl 1 ((k : Nat) : Int) = ((2 ^ (k : Nat) : Nat) : Int) := by decide +kernel
  exact this ⟨k, h⟩
theorem ishr_gen (a : Int) {k : Nat} (hk : k < 32) : ishr a (k : Int) = w32 a >>> k := by
  have h1 : ∀ k : Fin 32, (((oI ((k : Nat) : Int) &&& 31).toBitVec).smod 32).toNat = (k : Nat) := by decide +kernel
  show (oI a >>> (oI (k : Int) &&& 31)).toBitVec.toInt = _
  rw [Int32.toBitVec_shiftRight, BitVec.toInt_sshiftRight', h1 ⟨k, hk⟩]
  show (oI a).toInt >>> k = _
  rw [oI_toInt]
theorem ishr_nat {a k : Nat} (ha : a < 2147483648) (hk : k < 32) : ishr (a : Int) (k : Int) = ((a / 2 ^ k : Nat) : Int) := by
  rw [ishr_gen _ hk, w32_id (by omega) (by omega), Int.shiftRight_eq_div_pow]
  simp
/-- a set of numbers below 10, as bits -/
theorem bit_nat {a k : Nat} (ha : a < 2147483648) (hk : k < 32) : iand (ishr (a : Int) (k : Int)) 1 = if a.testBit k then 1 else 0 := by
  have h1 : a / 2 ^ k < 2147483648 := Nat.lt_of_le_of_lt (Nat.div_le_self _ _) ha
  rw [ishr_nat ha hk, show (1 : Int) = ((1 : Nat) : Int) from rfl, iand_nat h1 (by omega), Nat.and_one_is_mod, Nat.testBit_eq_decide_div_mod_eq]
  by_cases h : a / 2 ^ k % 2 = 1
  · simp [h]
  · have : a / 2 ^ k % 2 = 0 := by omega
    simp [this]
theorem setbit {a k : Nat} (ha : a < 1024) (hk : k < 10) : ior (a : Int) (ishl 1 (k : Int)) = ((a ||| 2 ^ k : Nat) : Int) := by
  have : 2 ^ k < 2 ^ 10 := Nat.pow_lt_pow_right (by omega) hk
  rw [ishl_one (by omega), ior_nat (by omega) (by omega)]
def msk (p : Nat → Bool) : Nat → Nat
  | 0 => 0
  | k + 1 => if p k then msk p k ||| 2 ^ k else msk p k
theorem msk_lt (p : Nat → Bool) : ∀ k, msk p k < 2 ^ k := by
  intro k
  induction k with
  | zero => simp [msk]
  | succ k ih =>
    have : 2 ^ (k + 1) = 2 * 2 ^ k := by rw [Nat.pow_succ]; omega
    simp only [msk]
    split
    · exact Nat.or_lt_two_pow (by omega) (by omega)
    · omega
theorem msk_lt10 {p : Nat → Bool} {k : Nat} (hk : k ≤ 10) : msk p k < 1024 := Nat.lt_of_lt_of_le (msk_lt p k) (show 2 ^ k ≤ 2 ^ 10 from Nat.pow_le_pow_right (by omega) hk)
theorem msk_bit (p : Nat → Bool) : ∀ k i, (msk p k).testBit i = (decide (i < k) && p i) := by
  intro k
  induction k with
  | zero => intro i; simp [msk]
  | succ k ih =>
    intro i
    simp only [msk]
    split
    · rename_i hp
      rw [Nat.testBit_or, ih, Nat.testBit_two_pow]
      by_cases h1 : i = k
      · subst h1; simp [hp]
      · have e1 : decide (k = i) = false := by simp; omega
        have e2 : decide (i < k + 1) = decide (i < k) := by simp; omega
        rw [e1, e2]; simp
    · rename_i hp
      rw [ih]
      by_cases h1 : i = k
      · subst h1; simp [hp]
      · have e2 : decide (i < k + 1) = decide (i < k) := by simp; omega
        rw [e2]
theorem msk_congr {p q : Nat → Bool} : ∀ k, (∀ i, i < k → p i = q i) → msk p k = msk q k := by
  intro k
  induction k with
  | zero => intro _; rfl
  | succ k ih => intro h; simp only [msk]; rw [h k (by omega), ih (fun i hi => h i (by omega))]
def cnt (p : Nat → Bool) : Nat → Nat
  | 0 => 0
  | k + 1 => if p k then cnt p k + 1 else cnt p k
theorem cnt_le (p : Nat → Bool) : ∀ k, cnt p k ≤ k := by
  intro k
  induction k with
  | zero => simp [cnt]
  | succ k ih => simp only [cnt]; split <;> omega
theorem cnt_beyond {p : Nat → Bool} {n : Nat} : ∀ k, n ≤ k → (∀ i, n ≤ i → p i = false) → cnt p k = cnt p n := by
  intro k
  induction k with
  | zero => intro h _; have : n = 0 := by omega
            subst this; rfl
  | succ k ih =>
    intro h hp
    by_cases e : n = k + 1
    · subst e; rfl
    · simp only [cnt]; rw [hp k (by omega)]; simp; exact ih (by omega) hp
theorem cnt_congr {p q : Nat → Bool} : ∀ k, (∀ i, i < k → p i = q i) → cnt p k = cnt q k := by
  intro k
  induction k with
  | zero => intro _; rfl
  | succ k ih => intro h; simp only [cnt]; rw [h k (by omega), ih (fun i hi => h i (by omega))]
