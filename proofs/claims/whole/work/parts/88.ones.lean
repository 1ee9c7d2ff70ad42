section ONES
variable {sc : Nat × (Nat → Int)} {d : Nat} {sh : Shp} {sl : Nat} {h : Sto} {Q : Pst}
def bcE (x0 : Int) : Int :=
  let x1 := x0 - iand (iushr x0 1) 1431655765
  let x2 := iand x1 858993459 + iand (iushr x1 2) 858993459
  let x3 := iand (x2 + iushr x2 4) 252645135
  let x4 := x3 + iushr x3 8
  let x5 := x4 + iushr x4 16
  iand x5 63
theorem sp_bitCount {x : Int} : WM sc d 141 [(0, x)] sh sl h Q ↔ Q (0, bcE x) sh sl h := by
  simp only [E_141, R_141_0, R_141_1, R_141_2, R_141_3, R_141_4, R_141_7, R_141_8, R_141_9, R_141_10, R_141_11, R_141_14, R_141_15, R_141_16, R_141_17, R_141_18, R_141_21, R_141_22, R_141_23, R_141_24, R_141_25, R_141_26, R_141_27, R_141_28, R_141_29, R_141_32, R_141_33, R_141_34, R_141_35, R_141_36, R_141_38, R_141_39, R_141_40, R_141_41, R_141_42, R_141_43, R_141_45, R_141_46, R_141_47, R_141_48, R_141_49, R_141_51, R_141_52, pushR0]
  rfl
end ONES
