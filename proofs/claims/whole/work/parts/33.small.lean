/-! ===== small methods of the class and of the reference ===== -/
theorem lcmp_lt {a b : Int} : w32 (lcmpI a b) < 0 ↔ w64 a < w64 b := by
  unfold lcmpI
  split
  · rw [show w32 1 = 1 from rfl]; omega
  · split
    · rw [show w32 0 = 0 from rfl]; omega
    · rw [show w32 (-1) = -1 from rfl]; omega
theorem lcmp_gt {a b : Int} : 0 < w32 (lcmpI a b) ↔ w64 b < w64 a := by
  unfold lcmpI
  split
  · rw [show w32 1 = 1 from rfl]; omega
  · split
    · rw [show w32 0 = 0 from rfl]; omega
    · rw [show w32 (-1) = -1 from rfl]; omega
theorem lcmp_eq {a b : Int} : w32 (lcmpI a b) = 0 ↔ w64 a = w64 b := by
  unfold lcmpI
  split
  · rw [show w32 1 = 1 from rfl]; omega
  · split
    · rw [show w32 0 = 0 from rfl]; omega
    · rw [show w32 (-1) = -1 from rfl]; omega
theorem lcmp_ge {a b : Int} : 0 ≤ w32 (lcmpI a b) ↔ w64 b ≤ w64 a := by
  have h1 := lcmp_lt (a := a) (b := b); omega
theorem lcmp_le {a b : Int} : w32 (lcmpI a b) ≤ 0 ↔ w64 a ≤ w64 b := by
  have h1 := lcmp_gt (a := a) (b := b); omega
/-- an int's and a long's range -/
def I32 (a : Int) : Prop := -2147483648 ≤ a ∧ a < 2147483648
def I64 (a : Int) : Prop := -9223372036854775808 ≤ a ∧ a < 9223372036854775808
theorem I32.w {a : Int} (h : I32 a) : w32 a = a := w32_id h.1 h.2
theorem I64.w {a : Int} (h : I64 a) : w64 a = a := w64_id h.1 h.2
theorem I32.l {a : Int} (h : I32 a) : I64 a := ⟨by have := h.1; omega, by have := h.2; omega⟩
section SMALL
variable {sc : Nat × (Nat → Int)} {d : Nat} {sh : Shp} {sl : Nat} {h : Sto} {Q : Pst}
theorem sp_in {v lo hi : Int} (hv : I64 v) (hl : I64 lo) (hh : I64 hi) : WM sc d 162 [(1, v), (1, lo), (1, hi)] sh sl h Q ↔ Q (0, if lo ≤ v ∧ v ≤ hi then 1 else 0) sh sl h := by
  simp only [E_162, R_162_0, R_162_1, R_162_2, R_162_3, R_162_6, R_162_7, R_162_9, R_162_10, R_162_13, R_162_14, R_162_17, R_162_18 (x := 0) (Or.inl rfl), R_162_18 (x := 1) (Or.inr rfl), lcmp_lt, lcmp_gt, lcmp_ge, lcmp_le, hv.w, hl.w, hh.w]
  by_cases h1 : v < lo
  · rw [if_pos h1, if_neg (by omega)]
  · by_cases h2 : hi < v
    · rw [if_neg h1, if_pos h2, if_neg (by omega)]
    · rw [if_neg h1, if_neg h2, if_pos (by omega)]
theorem sp_granted {x : Int} (G : Fix sh h) : WM sc d 18 [(2, 0), (0, x)] sh sl h Q ↔ Q (0, x) sh sl (setH h 0 16 0) := by
  simp only [E_18, R_18_0, R_18_1, R_18_2, R_18_5, R_18_6, fs_0 G, true_and, Int.toNat_zero]
theorem sp_refused {x : Int} (G : Fix sh h) (hx : -6 ≤ x ∧ x ≤ -1) : WM sc d 14 [(2, 0), (0, x)] sh sl h Q ↔ Q (0, x) sh sl (setH (setH h 0 16 x) 84 (-x).toNat (h 84 (-x).toNat + 1)) := by
  have e1 : w32 x = x := w32_id (by omega) (by omega)
  have e2 : w32 (-x) = -x := w32_id (by omega) (by omega)
  have e3 : w32 ((7 : Nat) : Int) = 7 := rfl
  have e4 : setH h 0 16 x 0 13 = 84 := by rw [setH_other (Or.inr (by decide))]; exact ff_0_13 G
  have e5 : (84 : Int).toNat = 84 := rfl
  have e6 : setH h 0 16 x 84 (-x).toNat = h 84 (-x).toNat := setH_other (Or.inl (by decide))
  simp only [E_14, R_14_0, R_14_1, R_14_2, R_14_5, R_14_6, R_14_9, R_14_10, R_14_11, R_14_12, R_14_16, R_14_19, R_14_20, R_14_23, R_14_24, R_14_25, R_14_26, R_14_27, R_14_28, R_14_29, R_14_30, R_14_31, fs_0 G, true_and, Int.toNat_zero, e1, e2, e3, e4, e5, e6, inA_of (fs_84 G), R_14_15 (fs_84 G)]
  rw [if_neg (by omega), if_neg (by omega)]
  exact and_iff_right (by omega) |>.trans (and_iff_right (by omega))
theorem sp_mtell {x : Int} (G : Fix sh h) (hx : -6 ≤ x ∧ x ≤ 2147483647) : WM sc d 159 [(2, 85), (0, x)] sh sl h Q ↔ Q (0, x) sh sl (if x < 0 then setH (setH h 85 1 x) 86 (-x).toNat (h 86 (-x).toNat + 1) else setH h 85 1 0) := by
  have e1 : w32 x = x := w32_id (by omega) (by omega)
  have e5 : (86 : Int).toNat = 86 := rfl
  have e7 : (85 : Int).toNat = 85 := rfl
  by_cases hn : x < 0
  · have e2 : w32 (-x) = -x := w32_id (by omega) (by omega)
    have e4 : setH h 85 1 x 85 2 = 86 := by rw [setH_other (Or.inr (by decide))]; exact ff_85_2 G
    have e6 : setH h 85 1 x 86 (-x).toNat = h 86 (-x).toNat := setH_other (Or.inl (by decide))
    simp only [E_159, R_159_0, R_159_1, R_159_2, R_159_5, R_159_6, R_159_9, R_159_10, R_159_13, R_159_14, R_159_17, R_159_18, R_159_21, R_159_22, R_159_23, R_159_24, R_159_25, R_159_26, R_159_27, R_159_28, R_159_29, fs_85 G, true_and, e1, e2, e4, e5, e6, e7, inA_of (fs_86 G), if_pos hn]
    rw [if_neg (by omega), if_neg (by omega)]
    exact and_iff_right (by omega) |>.trans (and_iff_right (by omega))
  · simp only [E_159, R_159_0, R_159_1, R_159_2, R_159_5, R_159_6, R_159_9, R_159_10, R_159_13, R_159_14, R_159_17, R_159_18, R_159_21, R_159_22, R_159_23, R_159_24, R_159_25, R_159_26, R_159_27, R_159_28, R_159_29, fs_85 G, true_and, e1, e7, if_neg hn]
    rw [if_pos (by omega), if_pos (by omega)]
end SMALL
