/-! ===== Board: what its methods answer ===== -/
/-- a board at b, its row of cells at c -/
def Bd (sh : Shp) (h : Sto) (b c : Int) : Prop := shAt sh b = some (0, 0) ∧ h b.toNat 0 = c ∧ shAt sh c = some (1, 42)
section BOARD
variable {sc : Nat × (Nat → Int)} {d : Nat} {sh : Shp} {sl : Nat} {h : Sto} {Q : Pst} {b c : Int}
theorem sp_today (hB : Bd sh h b c) : WM sc d 29 [(2, b)] sh sl h Q ↔ Q (0, h c.toNat 0) sh sl h := by
  obtain ⟨h1, h2, h3⟩ := hB
  simp only [E_29, R_29_0, R_29_1, R_29_4, R_29_5, R_29_6, h1, h2, true_and, inA_of h3, w32_0, Int.toNat_zero]
  simp
theorem sp_glueOf {s : Int} (hB : Bd sh h b c) (hs : 0 ≤ s ∧ s < 10) : WM sc d 21 [(2, b), (0, s)] sh sl h Q ↔ Q (0, h c.toNat (1 + s).toNat) sh sl h := by
  obtain ⟨h1, h2, h3⟩ := hB
  have e : w32 (1 + s) = 1 + s := w32_id (by omega) (by omega)
  simp only [E_21, R_21_0, R_21_1, R_21_4, R_21_5, R_21_6, R_21_7, R_21_8, h1, h2, true_and, inA_of h3, e]
  exact and_iff_right (by omega)
end BOARD
