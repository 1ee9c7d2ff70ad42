/-! ===== THE LAW'S START: whole_start out of a run of the pure machine (printed by wip/gen/start.py) ===== -/
def tmS (i : Nat) : Term := .string "StampQuarrels$Reader" (strS.getD i (0, "")).1
def givS : List Cond := flatC (Jvm.Cond.and given_1 narrow_1)
theorem gS_ex : ∀ i, i < 41 → Cond.exactly (tmS i) "java/lang/String" ∈ givS := by decide +kernel
theorem gS_co : ∀ i, i < 41 → Cond.eq (.field (tmS i) "java/lang/String" "coder" "B") (.int 0) ∈ givS := by decide +kernel
theorem gS_ar : ∀ i, i < 41 → Cond.arrayOf (.field (tmS i) "java/lang/String" "value" "[B") .byte ∈ givS := by decide +kernel
theorem gS_le : ∀ i, i < 41 → Cond.eq (.length (.field (tmS i) "java/lang/String" "value" "[B")) (.int (Int32.ofNat (lenS.getD i 0))) ∈ givS := by decide +kernel
theorem gS_el : ∀ i, i < 41 → ∀ j, j < lenS.getD i 0 → Cond.eq (.elem (.field (tmS i) "java/lang/String" "value" "[B") (.int (Int32.ofNat j))) (.int ((bytS.getD i []).getD j 0)) ∈ givS := by decide +kernel
theorem gS_cs : Cond.eq (.static "java/lang/String" "COMPACT_STRINGS" "Z") (.int 1) ∈ givS ∧ Cond.isRef (.static "jdk/internal/util/Preconditions" "SIOOBE_FORMATTER" "Ljava/util/function/BiFunction;") ∈ givS := by decide +kernel
theorem gS_sr : ∀ i, i < 41 → Cond.stringRef "StampQuarrels$Reader" (strS.getD i (0, "")).1 (strS.getD i (0, "")).2 ∈ lw_tbl := by
  have h : (List.range 41).all (fun i => decide (lw_tbl[([892, 945, 946, 947, 968, 969, 982, 983, 984, 985, 986, 987, 988, 993, 994, 995, 996, 997, 998, 999, 1000, 1001, 1002, 1003, 1004, 1005, 1006, 1015, 1016, 1017, 1018, 1023, 1036, 1037, 1038, 1043, 1044, 1045, 1046, 1047, 1048] : List Nat).getD i 0]? = some (Cond.stringRef "StampQuarrels$Reader" (strS.getD i (0, "")).1 (strS.getD i (0, "")).2))) = true := by decide +kernel
  intro i hi
  exact List.mem_of_getElem? (of_decide_eq_true (List.all_eq_true.mp h i (List.mem_range.mpr hi)))
theorem len31 : ∀ i, i < 41 → lenS.getD i 0 < 2 ^ 31 := by decide +kernel
