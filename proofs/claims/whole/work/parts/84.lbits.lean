/-! ===== bits of longs ===== -/
def lb (z : Int) (j : Nat) : Bool := (oL z).toBitVec.getLsbD j
theorem oL_back (x : Int64) : oL x.toInt = x := by unfold oL; exact Int64.ofInt_toInt x
theorem lb_or (a b : Int) (j : Nat) : lb (lor a b) j = (lb a j || lb b j) := by
  unfold lb lor
  rw [oL_back, Int64.toBitVec_or, BitVec.getLsbD_or]
theorem lb_and (a b : Int) (j : Nat) : lb (land a b) j = (lb a j && lb b j) := by
  unfold lb land
  rw [oL_back, Int64.toBitVec_and, BitVec.getLsbD_and]
theorem lb_shl (a : Int) {c j : Nat} (hc : c < 64) (hj : j < 64) : lb (lshl a (c : Int)) j = (decide (c ≤ j) && lb a (j - c)) := by
  have h1 : ∀ k : Fin 64, ((((oI ((k : Nat) : Int)).toInt64 &&& 63).toBitVec).smod 64).toNat = (k : Nat) := by decide +kernel
  unfold lb lshl
  rw [oL_back, Int64.toBitVec_shiftLeft, BitVec.shiftLeft_eq', h1 ⟨c, hc⟩, BitVec.getLsbD_shiftLeft]
  by_cases h : c ≤ j
  · simp [hj, h]
  · simp [hj, h]
