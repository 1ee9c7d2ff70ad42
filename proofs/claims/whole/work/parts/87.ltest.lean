theorem lb_ext {a b : Int} (ha : -9223372036854775808 ≤ a ∧ a < 9223372036854775808) (hb : -9223372036854775808 ≤ b ∧ b < 9223372036854775808) (h : ∀ j, j < 64 → lb a j = lb b j) : a = b := by
  have h1 : (oL a).toBitVec = (oL b).toBitVec := BitVec.eq_of_getLsbD_eq (fun j hj => h j hj)
  have h2 : (oL a).toBitVec.toInt = (oL b).toBitVec.toInt := by rw [h1]
  have k1 : (oL a).toInt = (oL b).toInt := h2
  rw [oL_toInt, oL_toInt] at k1
  rw [w64_id ha.1 ha.2, w64_id hb.1 hb.2] at k1
  exact k1
theorem land_rng (a b : Int) : -9223372036854775808 ≤ land a b ∧ land a b < 9223372036854775808 := by
  unfold land
  have h1 := Int64.le_toInt (oL a &&& oL b)
  have h2 := Int64.toInt_lt (oL a &&& oL b)
  omega
theorem mk_bits : ∀ k : Fin 31, ∀ j : Fin 64, lb (lshl 1 (((k : Nat) : Int) + 1) - 2) (j : Nat) = decide (1 ≤ (j : Nat) ∧ (j : Nat) ≤ (k : Nat)) := by decide +kernel
theorem mk_rng : ∀ k : Fin 31, 0 ≤ lshl 1 (((k : Nat) : Int) + 1) - 2 ∧ lshl 1 (((k : Nat) : Int) + 1) - 2 < 9223372036854775808 := by decide +kernel
theorem land_test {z : Int} {k : Nat} (hk : k ≤ 30) : w64 (land z (lshl 1 ((k : Int) + 1) - 2)) = w64 (lshl 1 ((k : Int) + 1) - 2) ↔ ∀ j, 1 ≤ j → j ≤ k → lb z j = true := by
  have r1 := land_rng z (lshl 1 ((k : Int) + 1) - 2)
  have r2 := mk_rng ⟨k, by omega⟩
  have mb := mk_bits ⟨k, by omega⟩
  simp only at r2 mb
  rw [w64_id r1.1 r1.2, w64_id (by omega) r2.2]
  constructor
  · intro e j h1 h2
    have b := mb ⟨j, by omega⟩
    have l := lb_and z (lshl 1 ((k : Int) + 1) - 2) j
    rw [e] at l
    simp only at b
    rw [b, decide_eq_true ⟨h1, h2⟩, Bool.and_true] at l
    exact l.symm
  · intro h
    refine lb_ext r1 ⟨by omega, r2.2⟩ (fun j hj => ?_)
    have b := mb ⟨j, hj⟩
    simp only at b
    rw [lb_and, b]
    by_cases c : 1 ≤ j ∧ j ≤ k
    · rw [h j c.1 c.2, Bool.true_and]
    · rw [decide_eq_false c, Bool.and_false]
