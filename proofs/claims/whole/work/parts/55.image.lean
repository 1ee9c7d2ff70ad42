/-! ===== image, back ===== -/
section COPY
variable {sc : Nat × (Nat → Int)} {d : Nat} {sh : Shp} {sl : Nat} {h : Sto} {Q : Pst}
theorem lp_cps_12_1 (X : Fix sh h) (lt : LT1 sh (h 8)) (hq : ∀ h', (∀ q, q ≠ 19 → h' q = h q) → (∀ j, j < 6 → h' 19 j = h 8 j) → WF sc (d + 2) 153 171 [(2, 12), (2, 1), (0, 6)] [] sh sl h' Q) : ∀ (rem i : Nat) (h' : Sto) (I : Int), i + rem = 6 → I = i → (∀ q, q ≠ 19 → h' q = h q) → (∀ j, j < i → h' 19 j = h 8 j) → WF sc (d + 2) 153 147 [(2, 12), (2, 1), (0, I)] [] sh sl h' Q := by
  intro rem
  induction rem with
  | zero =>
    intro i h' I hi hI h1 h2
    subst hI
    have : i = 6 := by omega
    subst this
    simp (disch := omega) only [R_153_147, R_153_148, R_153_150, wgt_nil, wgt_0, wgt_1, wgt_2, nl0, nl1, nl2, nl9, pushR0, pushR1, pushR2, pushR9, true_and, and_true, w32_id, w64_id, lcmp_lt, lcmp_gt, lcmp_eq, lcmp_ge, lcmp_le, setH_o, setH_k, setH_self, rowH_o, rowH_s, Int.toNat_natCast, if_true, if_false, not_true_eq_false, not_false_eq_true, bd_t, le8_t, le_t, castL, toNatL, ite_same, or_true, true_or, and_self, Int.reduceMul, Int.reduceAdd, Int.reduceSub, Int.reduceNeg, Int.reduceLE, Int.reduceLT, Int.reduceEq, Nat.reduceAdd, Nat.reduceLeDiff, reduceIte]
    exact hq h' h1 h2
  | succ rem ih =>
    intro i h' I hi hI h1 h2
    subst hI
    have X' : Fix sh h' := by
      refine X.of (fun q hq => ?_)
      have : q.1 ≠ 19 := (by decide +kernel : ∀ q ∈ fld0, q.1 ≠ 19) q hq
      rw [h1 _ this]
    rw [R_153_147]
    simp (disch := omega) only [R_153_148, R_153_150, R_153_153, R_153_154, R_153_157, R_153_158, R_153_159, R_153_162, R_153_163, fs_12 X', fs_1 X', ff_12_12 X', ff_1_12 X', inB5 (N := 6) rfl (fs_8 X'), wgt_nil, wgt_0, wgt_1, wgt_2, nl0, nl1, nl2, nl9, pushR0, pushR1, pushR2, pushR9, true_and, and_true, w32_id, w64_id, lcmp_lt, lcmp_gt, lcmp_eq, lcmp_ge, lcmp_le, setH_o, setH_k, setH_self, rowH_o, rowH_s, Int.toNat_natCast, if_true, if_false, not_true_eq_false, not_false_eq_true, bd_t, le8_t, le_t, castL, toNatL, ite_same, or_true, true_or, and_self, Int.reduceMul, Int.reduceAdd, Int.reduceSub, Int.reduceNeg, Int.reduceLE, Int.reduceLT, Int.reduceEq, Nat.reduceAdd, Nat.reduceLeDiff, reduceIte]
    have hnext : WF sc (d + 2) 153 165 [(2, 12), (2, 1), (0, (i : Int))] [] sh sl (setH h' 19 i (h' 8 i)) Q := by
      simp (disch := omega) only [R_153_165, R_153_168, wgt_nil, wgt_0, wgt_1, wgt_2, nl0, nl1, nl2, nl9, pushR0, pushR1, pushR2, pushR9, true_and, and_true, w32_id, w64_id, lcmp_lt, lcmp_gt, lcmp_eq, lcmp_ge, lcmp_le, setH_o, setH_k, setH_self, rowH_o, rowH_s, Int.toNat_natCast, if_true, if_false, not_true_eq_false, not_false_eq_true, bd_t, le8_t, le_t, castL, toNatL, ite_same, or_true, true_or, and_self, Int.reduceMul, Int.reduceAdd, Int.reduceSub, Int.reduceNeg, Int.reduceLE, Int.reduceLT, Int.reduceEq, Nat.reduceAdd, Nat.reduceLeDiff, reduceIte]
      refine ih (i + 1) _ _ (by omega) (by simp) (fun q hq => by rw [setH_o hq]; exact h1 q hq) (fun j hj => ?_)
      by_cases e : j = i
      · subst e; rw [setH_self, h1 _ (by decide)]
      · rw [setH_k e]; exact h2 j (by omega)
    have hb : h' 8 i = h 8 i := by rw [h1 _ (by decide)]
    rw [if_neg (by omega)]
    refine ⟨by omega, ?_⟩
    rcases lt i (by omega) with e | e
    · rw [hb, e] at hnext ⊢
      rw [R_153_164N (fs_19 X') (Or.inl rfl), w32_id (a := (i : Int)) (by omega) (by omega), Int.toNat_natCast]
      exact ⟨⟨by omega, by omega⟩, hnext⟩
    · rw [hb] at hnext ⊢
      rw [R_153_164 (fs_19 X') e rfl, w32_id (a := (i : Int)) (by omega) (by omega), Int.toNat_natCast]
      exact ⟨⟨by omega, by omega⟩, hnext⟩
theorem sp_cps_12_1 (X : Fix sh h) (lt : LT1 sh (h 8)) (hq : ∀ h', Fr [13, 14, 15, 16, 17, 18, 19, 21] [(12, 0), (12, 4), (12, 6), (12, 9), (12, 10), (12, 11), (12, 13)] h h' → (h' 12 0 = h 1 0 ∧ h' 12 4 = h 1 4 ∧ h' 12 6 = h 1 6 ∧ h' 12 9 = h 1 9 ∧ h' 12 10 = h 1 10 ∧ h' 12 11 = h 1 11 ∧ h' 12 13 = h 1 13) → (∀ i, i < 10 → h' 13 i = h 2 i ∧ h' 14 i = h 3 i ∧ h' 15 i = h 4 i) → (∀ i, i < 3 → h' 16 i = h 5 i) → (∀ i, i < 6 → h' 17 i = h 6 i ∧ h' 18 i = h 7 i ∧ h' 19 i = h 8 i) → (∀ i, i < 42 → h' 21 i = h 10 i) → Q (9, 0) sh sl h') : WM sc (d + 2) 153 [(2, 12), (2, 1)] sh sl h Q := by
  simp (disch := omega) only [E_153, R_153_0, R_153_1, R_153_2, R_153_5, R_153_8, R_153_9, R_153_10, R_153_13, R_153_16, R_153_17, R_153_18, R_153_21, R_153_24, R_153_25, R_153_26, R_153_29, R_153_32, R_153_33, R_153_34, R_153_37, R_153_40, R_153_41, R_153_42, R_153_45, R_153_48, R_153_49, R_153_50, R_153_53, fs_12 X, fs_1 X, wgt_nil, wgt_0, wgt_1, wgt_2, nl0, nl1, nl2, nl9, pushR0, pushR1, pushR2, pushR9, true_and, and_true, w32_id, w64_id, lcmp_lt, lcmp_gt, lcmp_eq, lcmp_ge, lcmp_le, setH_o, setH_k, setH_self, rowH_o, rowH_s, Int.toNat_natCast, if_true, if_false, not_true_eq_false, not_false_eq_true, bd_t, le8_t, le_t, castL, toNatL, ite_same, or_true, true_or, and_self, Int.reduceMul, Int.reduceAdd, Int.reduceSub, Int.reduceNeg, Int.reduceLE, Int.reduceLT, Int.reduceEq, Nat.reduceAdd, Nat.reduceLeDiff, reduceIte]
  generalize hh1 : setH (setH (setH (setH (setH (setH (setH h 12 0 (h 1 0)) 12 4 (h 1 4)) 12 6 (h 1 6)) 12 9 (h 1 9)) 12 10 (h 1 10)) 12 11 (h 1 11)) 12 13 (h 1 13) = h1
  have F1 : Fr [] [(12, 0), (12, 4), (12, 6), (12, 9), (12, 10), (12, 11), (12, 13)] h h1 := by rw [← hh1]; exact (((((((Fr.refl h).set rfl).set rfl).set rfl).set rfl).set rfl).set rfl).set rfl
  have X1 : Fix sh h1 := F1.fix X (by decide +kernel)
  have f1 : h1 12 0 = h 1 0 ∧ h1 12 4 = h 1 4 ∧ h1 12 6 = h 1 6 ∧ h1 12 9 = h 1 9 ∧ h1 12 10 = h 1 10 ∧ h1 12 11 = h 1 11 ∧ h1 12 13 = h 1 13 := by
    rw [← hh1]; refine ⟨?_, ?_, ?_, ?_, ?_, ?_, ?_⟩ <;> simp (disch := omega) only [setH_self, setH_k]
  simp (disch := omega) only [R_153_56, R_153_57, R_153_60, R_153_61, R_153_62, R_153_65, R_153_66, R_153_68 (fs_13 X) (fs_2 X), R_153_71, R_153_72, R_153_75, R_153_76, R_153_77, R_153_80, R_153_81, R_153_83 (fs_14 X) (fs_3 X), R_153_86, R_153_87, R_153_90, R_153_91, R_153_92, R_153_95, R_153_96, R_153_98 (fs_15 X) (fs_4 X), R_153_101, R_153_102, R_153_105, R_153_106, R_153_107, R_153_110, R_153_111, R_153_112 (fs_16 X) (fs_5 X), R_153_115, R_153_116, R_153_119, R_153_120, R_153_121, R_153_124, R_153_125, R_153_127 (fs_17 X) (fs_6 X), R_153_130, R_153_131, R_153_134, R_153_135, R_153_136, R_153_139, R_153_140, R_153_142 (fs_18 X) (fs_7 X), R_153_145, R_153_146, fs_12 X, fs_1 X, ff_12_1 X1, ff_1_1 X1, ff_12_2 X1, ff_1_2 X1, ff_12_3 X1, ff_1_3 X1, ff_12_5 X1, ff_1_5 X1, ff_12_7 X1, ff_1_7 X1, ff_12_8 X1, ff_1_8 X1, wgt_nil, wgt_0, wgt_1, wgt_2, nl0, nl1, nl2, nl9, pushR0, pushR1, pushR2, pushR9, true_and, and_true, w32_id, w64_id, lcmp_lt, lcmp_gt, lcmp_eq, lcmp_ge, lcmp_le, setH_o, setH_k, setH_self, rowH_o, rowH_s, Int.toNat_natCast, if_true, if_false, not_true_eq_false, not_false_eq_true, bd_t, le8_t, le_t, castL, toNatL, ite_same, or_true, true_or, and_self, Int.reduceMul, Int.reduceAdd, Int.reduceSub, Int.reduceNeg, Int.reduceLE, Int.reduceLT, Int.reduceEq, Nat.reduceAdd, Nat.reduceLeDiff, reduceIte]
  generalize hh2 : rowH (rowH (rowH (rowH (rowH (rowH h1 13 (va_cpy (h1 2) (h1 13) 0 0 10)) 14 (va_cpy (h1 3) (h1 14) 0 0 10)) 15 (va_cpy (h1 4) (h1 15) 0 0 10)) 16 (va_cpy (h1 5) (h1 16) 0 0 3)) 17 (va_cpy (h1 6) (h1 17) 0 0 6)) 18 (va_cpy (h1 7) (h1 18) 0 0 6) = h2
  have F2 : Fr [13, 14, 15, 16, 17, 18] [] h1 h2 := by rw [← hh2]; exact ((((((Fr.refl h1).rowP rfl).rowP rfl).rowP rfl).rowP rfl).rowP rfl).rowP rfl
  have X2 : Fix sh h2 := F2.fix X1 (by decide +kernel)
  have f2 : h2 13 = va_cpy (h1 2) (h1 13) 0 0 10 ∧ h2 14 = va_cpy (h1 3) (h1 14) 0 0 10 ∧ h2 15 = va_cpy (h1 4) (h1 15) 0 0 10 ∧ h2 16 = va_cpy (h1 5) (h1 16) 0 0 3 ∧ h2 17 = va_cpy (h1 6) (h1 17) 0 0 6 ∧ h2 18 = va_cpy (h1 7) (h1 18) 0 0 6 := by
    rw [← hh2]; refine ⟨?_, ?_, ?_, ?_, ?_, ?_⟩ <;> simp (disch := omega) only [rowH_s, rowH_o]
  have cp : ∀ {f g : Nat → Int} {n i : Nat}, i < n → va_cpy f g 0 0 n i = f i := fun {f g n i} hi => by
    rw [pk_cpy_in (by omega) (by omega)]; simp
  have e12 : h2 8 = h 8 := by rw [F2.row 8 rfl, F1.row 8 rfl]
  refine lp_cps_12_1 X2 (by rw [e12]; exact lt) (fun h3 g1 g2 => ?_) 6 0 h2 _ (by omega) rfl (fun _ _ => rfl) (fun j hj => by omega)
  have F3 : Fr [19] [] h2 h3 := fun q k a _ => by rw [g1 q (by simpa using a)]
  have X3 : Fix sh h3 := F3.fix X2 (by decide +kernel)
  simp (disch := omega) only [R_153_171, R_153_172, R_153_175, R_153_176, R_153_179, fs_12 X3, fs_1 X3, fs_20 X3, ff_12_14 X3, ff_1_14 X3, wgt_nil, wgt_0, wgt_1, wgt_2, nl0, nl1, nl2, nl9, pushR0, pushR1, pushR2, pushR9, true_and, and_true, w32_id, w64_id, lcmp_lt, lcmp_gt, lcmp_eq, lcmp_ge, lcmp_le, setH_o, setH_k, setH_self, rowH_o, rowH_s, Int.toNat_natCast, if_true, if_false, not_true_eq_false, not_false_eq_true, bd_t, le8_t, le_t, castL, toNatL, ite_same, or_true, true_or, and_self, Int.reduceMul, Int.reduceAdd, Int.reduceSub, Int.reduceNeg, Int.reduceLE, Int.reduceLT, Int.reduceEq, Nat.reduceAdd, Nat.reduceLeDiff, reduceIte]
  simp (disch := omega) only [E_83, R_83_0, R_83_1, R_83_4, R_83_5, R_83_6, R_83_9, R_83_10, R_83_15, R_83_12 (fs_21 X3) (fs_10 X3), fs_20 X3, fs_9 X3, ff_20_0 X3, ff_9_0 X3, wgt_nil, wgt_0, wgt_1, wgt_2, nl0, nl1, nl2, nl9, pushR0, pushR1, pushR2, pushR9, true_and, and_true, w32_id, w64_id, lcmp_lt, lcmp_gt, lcmp_eq, lcmp_ge, lcmp_le, setH_o, setH_k, setH_self, rowH_o, rowH_s, Int.toNat_natCast, if_true, if_false, not_true_eq_false, not_false_eq_true, bd_t, le8_t, le_t, castL, toNatL, ite_same, or_true, true_or, and_self, Int.reduceMul, Int.reduceAdd, Int.reduceSub, Int.reduceNeg, Int.reduceLE, Int.reduceLT, Int.reduceEq, Nat.reduceAdd, Nat.reduceLeDiff, reduceIte]
  simp (disch := omega) only [R_153_182, wgt_nil, wgt_0, wgt_1, wgt_2, nl0, nl1, nl2, nl9, pushR0, pushR1, pushR2, pushR9, true_and, and_true, w32_id, w64_id, lcmp_lt, lcmp_gt, lcmp_eq, lcmp_ge, lcmp_le, setH_o, setH_k, setH_self, rowH_o, rowH_s, Int.toNat_natCast, if_true, if_false, not_true_eq_false, not_false_eq_true, bd_t, le8_t, le_t, castL, toNatL, ite_same, or_true, true_or, and_self, Int.reduceMul, Int.reduceAdd, Int.reduceSub, Int.reduceNeg, Int.reduceLE, Int.reduceLT, Int.reduceEq, Nat.reduceAdd, Nat.reduceLeDiff, reduceIte]
  have F4 : Fr [13, 14, 15, 16, 17, 18, 19, 21] [(12, 0), (12, 4), (12, 6), (12, 9), (12, 10), (12, 11), (12, 13)] h (rowH h3 21 (va_cpy (h3 10) (h3 21) 0 0 42)) := (((F1.mono rfl).trans (F2.mono rfl)).trans (F3.mono rfl)).rowP rfl
  refine hq _ F4 ?_ (fun i hi => ?_) (fun i hi => ?_) (fun i hi => ?_) (fun i hi => ?_)
  · rw [rowH_o (by decide), F3.row 12 rfl, F2.row 12 rfl]; exact f1
  · rw [rowH_o (by decide), rowH_o (by decide), rowH_o (by decide), F3.row 13 rfl, F3.row 14 rfl, F3.row 15 rfl, f2.1, f2.2.1, f2.2.2.1, cp hi, cp hi, cp hi, F1.row 2 rfl, F1.row 3 rfl, F1.row 4 rfl]; exact ⟨rfl, rfl, rfl⟩
  · rw [rowH_o (by decide), F3.row 16 rfl, f2.2.2.2.1, cp hi, F1.row 5 rfl]
  · rw [rowH_o (by decide), rowH_o (by decide), rowH_o (by decide), F3.row 17 rfl, F3.row 18 rfl, f2.2.2.2.2.1, f2.2.2.2.2.2, cp hi, cp hi, F1.row 6 rfl, F1.row 7 rfl, g2 i hi, e12]; exact ⟨rfl, rfl, rfl⟩
  · rw [rowH_s, cp hi, F3.row 10 rfl, F2.row 10 rfl, F1.row 10 rfl]
theorem lp_cps_22_1 (X : Fix sh h) (lt : LT1 sh (h 8)) (hq : ∀ h', (∀ q, q ≠ 29 → h' q = h q) → (∀ j, j < 6 → h' 29 j = h 8 j) → WF sc (d + 2) 153 171 [(2, 22), (2, 1), (0, 6)] [] sh sl h' Q) : ∀ (rem i : Nat) (h' : Sto) (I : Int), i + rem = 6 → I = i → (∀ q, q ≠ 29 → h' q = h q) → (∀ j, j < i → h' 29 j = h 8 j) → WF sc (d + 2) 153 147 [(2, 22), (2, 1), (0, I)] [] sh sl h' Q := by
  intro rem
  induction rem with
  | zero =>
    intro i h' I hi hI h1 h2
    subst hI
    have : i = 6 := by omega
    subst this
    simp (disch := omega) only [R_153_147, R_153_148, R_153_150, wgt_nil, wgt_0, wgt_1, wgt_2, nl0, nl1, nl2, nl9, pushR0, pushR1, pushR2, pushR9, true_and, and_true, w32_id, w64_id, lcmp_lt, lcmp_gt, lcmp_eq, lcmp_ge, lcmp_le, setH_o, setH_k, setH_self, rowH_o, rowH_s, Int.toNat_natCast, if_true, if_false, not_true_eq_false, not_false_eq_true, bd_t, le8_t, le_t, castL, toNatL, ite_same, or_true, true_or, and_self, Int.reduceMul, Int.reduceAdd, Int.reduceSub, Int.reduceNeg, Int.reduceLE, Int.reduceLT, Int.reduceEq, Nat.reduceAdd, Nat.reduceLeDiff, reduceIte]
    exact hq h' h1 h2
  | succ rem ih =>
    intro i h' I hi hI h1 h2
    subst hI
    have X' : Fix sh h' := by
      refine X.of (fun q hq => ?_)
      have : q.1 ≠ 29 := (by decide +kernel : ∀ q ∈ fld0, q.1 ≠ 29) q hq
      rw [h1 _ this]
    rw [R_153_147]
    simp (disch := omega) only [R_153_148, R_153_150, R_153_153, R_153_154, R_153_157, R_153_158, R_153_159, R_153_162, R_153_163, fs_22 X', fs_1 X', ff_22_12 X', ff_1_12 X', inB5 (N := 6) rfl (fs_8 X'), wgt_nil, wgt_0, wgt_1, wgt_2, nl0, nl1, nl2, nl9, pushR0, pushR1, pushR2, pushR9, true_and, and_true, w32_id, w64_id, lcmp_lt, lcmp_gt, lcmp_eq, lcmp_ge, lcmp_le, setH_o, setH_k, setH_self, rowH_o, rowH_s, Int.toNat_natCast, if_true, if_false, not_true_eq_false, not_false_eq_true, bd_t, le8_t, le_t, castL, toNatL, ite_same, or_true, true_or, and_self, Int.reduceMul, Int.reduceAdd, Int.reduceSub, Int.reduceNeg, Int.reduceLE, Int.reduceLT, Int.reduceEq, Nat.reduceAdd, Nat.reduceLeDiff, reduceIte]
    have hnext : WF sc (d + 2) 153 165 [(2, 22), (2, 1), (0, (i : Int))] [] sh sl (setH h' 29 i (h' 8 i)) Q := by
      simp (disch := omega) only [R_153_165, R_153_168, wgt_nil, wgt_0, wgt_1, wgt_2, nl0, nl1, nl2, nl9, pushR0, pushR1, pushR2, pushR9, true_and, and_true, w32_id, w64_id, lcmp_lt, lcmp_gt, lcmp_eq, lcmp_ge, lcmp_le, setH_o, setH_k, setH_self, rowH_o, rowH_s, Int.toNat_natCast, if_true, if_false, not_true_eq_false, not_false_eq_true, bd_t, le8_t, le_t, castL, toNatL, ite_same, or_true, true_or, and_self, Int.reduceMul, Int.reduceAdd, Int.reduceSub, Int.reduceNeg, Int.reduceLE, Int.reduceLT, Int.reduceEq, Nat.reduceAdd, Nat.reduceLeDiff, reduceIte]
      refine ih (i + 1) _ _ (by omega) (by simp) (fun q hq => by rw [setH_o hq]; exact h1 q hq) (fun j hj => ?_)
      by_cases e : j = i
      · subst e; rw [setH_self, h1 _ (by decide)]
      · rw [setH_k e]; exact h2 j (by omega)
    have hb : h' 8 i = h 8 i := by rw [h1 _ (by decide)]
    rw [if_neg (by omega)]
    refine ⟨by omega, ?_⟩
    rcases lt i (by omega) with e | e
    · rw [hb, e] at hnext ⊢
      rw [R_153_164N (fs_29 X') (Or.inl rfl), w32_id (a := (i : Int)) (by omega) (by omega), Int.toNat_natCast]
      exact ⟨⟨by omega, by omega⟩, hnext⟩
    · rw [hb] at hnext ⊢
      rw [R_153_164 (fs_29 X') e rfl, w32_id (a := (i : Int)) (by omega) (by omega), Int.toNat_natCast]
      exact ⟨⟨by omega, by omega⟩, hnext⟩
theorem sp_cps_22_1 (X : Fix sh h) (lt : LT1 sh (h 8)) (hq : ∀ h', Fr [23, 24, 25, 26, 27, 28, 29, 31] [(22, 0), (22, 4), (22, 6), (22, 9), (22, 10), (22, 11), (22, 13)] h h' → (h' 22 0 = h 1 0 ∧ h' 22 4 = h 1 4 ∧ h' 22 6 = h 1 6 ∧ h' 22 9 = h 1 9 ∧ h' 22 10 = h 1 10 ∧ h' 22 11 = h 1 11 ∧ h' 22 13 = h 1 13) → (∀ i, i < 10 → h' 23 i = h 2 i ∧ h' 24 i = h 3 i ∧ h' 25 i = h 4 i) → (∀ i, i < 3 → h' 26 i = h 5 i) → (∀ i, i < 6 → h' 27 i = h 6 i ∧ h' 28 i = h 7 i ∧ h' 29 i = h 8 i) → (∀ i, i < 42 → h' 31 i = h 10 i) → Q (9, 0) sh sl h') : WM sc (d + 2) 153 [(2, 22), (2, 1)] sh sl h Q := by
  simp (disch := omega) only [E_153, R_153_0, R_153_1, R_153_2, R_153_5, R_153_8, R_153_9, R_153_10, R_153_13, R_153_16, R_153_17, R_153_18, R_153_21, R_153_24, R_153_25, R_153_26, R_153_29, R_153_32, R_153_33, R_153_34, R_153_37, R_153_40, R_153_41, R_153_42, R_153_45, R_153_48, R_153_49, R_153_50, R_153_53, fs_22 X, fs_1 X, wgt_nil, wgt_0, wgt_1, wgt_2, nl0, nl1, nl2, nl9, pushR0, pushR1, pushR2, pushR9, true_and, and_true, w32_id, w64_id, lcmp_lt, lcmp_gt, lcmp_eq, lcmp_ge, lcmp_le, setH_o, setH_k, setH_self, rowH_o, rowH_s, Int.toNat_natCast, if_true, if_false, not_true_eq_false, not_false_eq_true, bd_t, le8_t, le_t, castL, toNatL, ite_same, or_true, true_or, and_self, Int.reduceMul, Int.reduceAdd, Int.reduceSub, Int.reduceNeg, Int.reduceLE, Int.reduceLT, Int.reduceEq, Nat.reduceAdd, Nat.reduceLeDiff, reduceIte]
  generalize hh1 : setH (setH (setH (setH (setH (setH (setH h 22 0 (h 1 0)) 22 4 (h 1 4)) 22 6 (h 1 6)) 22 9 (h 1 9)) 22 10 (h 1 10)) 22 11 (h 1 11)) 22 13 (h 1 13) = h1
  have F1 : Fr [] [(22, 0), (22, 4), (22, 6), (22, 9), (22, 10), (22, 11), (22, 13)] h h1 := by rw [← hh1]; exact (((((((Fr.refl h).set rfl).set rfl).set rfl).set rfl).set rfl).set rfl).set rfl
  have X1 : Fix sh h1 := F1.fix X (by decide +kernel)
  have f1 : h1 22 0 = h 1 0 ∧ h1 22 4 = h 1 4 ∧ h1 22 6 = h 1 6 ∧ h1 22 9 = h 1 9 ∧ h1 22 10 = h 1 10 ∧ h1 22 11 = h 1 11 ∧ h1 22 13 = h 1 13 := by
    rw [← hh1]; refine ⟨?_, ?_, ?_, ?_, ?_, ?_, ?_⟩ <;> simp (disch := omega) only [setH_self, setH_k]
  simp (disch := omega) only [R_153_56, R_153_57, R_153_60, R_153_61, R_153_62, R_153_65, R_153_66, R_153_68 (fs_23 X) (fs_2 X), R_153_71, R_153_72, R_153_75, R_153_76, R_153_77, R_153_80, R_153_81, R_153_83 (fs_24 X) (fs_3 X), R_153_86, R_153_87, R_153_90, R_153_91, R_153_92, R_153_95, R_153_96, R_153_98 (fs_25 X) (fs_4 X), R_153_101, R_153_102, R_153_105, R_153_106, R_153_107, R_153_110, R_153_111, R_153_112 (fs_26 X) (fs_5 X), R_153_115, R_153_116, R_153_119, R_153_120, R_153_121, R_153_124, R_153_125, R_153_127 (fs_27 X) (fs_6 X), R_153_130, R_153_131, R_153_134, R_153_135, R_153_136, R_153_139, R_153_140, R_153_142 (fs_28 X) (fs_7 X), R_153_145, R_153_146, fs_22 X, fs_1 X, ff_22_1 X1, ff_1_1 X1, ff_22_2 X1, ff_1_2 X1, ff_22_3 X1, ff_1_3 X1, ff_22_5 X1, ff_1_5 X1, ff_22_7 X1, ff_1_7 X1, ff_22_8 X1, ff_1_8 X1, wgt_nil, wgt_0, wgt_1, wgt_2, nl0, nl1, nl2, nl9, pushR0, pushR1, pushR2, pushR9, true_and, and_true, w32_id, w64_id, lcmp_lt, lcmp_gt, lcmp_eq, lcmp_ge, lcmp_le, setH_o, setH_k, setH_self, rowH_o, rowH_s, Int.toNat_natCast, if_true, if_false, not_true_eq_false, not_false_eq_true, bd_t, le8_t, le_t, castL, toNatL, ite_same, or_true, true_or, and_self, Int.reduceMul, Int.reduceAdd, Int.reduceSub, Int.reduceNeg, Int.reduceLE, Int.reduceLT, Int.reduceEq, Nat.reduceAdd, Nat.reduceLeDiff, reduceIte]
  generalize hh2 : rowH (rowH (rowH (rowH (rowH (rowH h1 23 (va_cpy (h1 2) (h1 23) 0 0 10)) 24 (va_cpy (h1 3) (h1 24) 0 0 10)) 25 (va_cpy (h1 4) (h1 25) 0 0 10)) 26 (va_cpy (h1 5) (h1 26) 0 0 3)) 27 (va_cpy (h1 6) (h1 27) 0 0 6)) 28 (va_cpy (h1 7) (h1 28) 0 0 6) = h2
  have F2 : Fr [23, 24, 25, 26, 27, 28] [] h1 h2 := by rw [← hh2]; exact ((((((Fr.refl h1).rowP rfl).rowP rfl).rowP rfl).rowP rfl).rowP rfl).rowP rfl
  have X2 : Fix sh h2 := F2.fix X1 (by decide +kernel)
  have f2 : h2 23 = va_cpy (h1 2) (h1 23) 0 0 10 ∧ h2 24 = va_cpy (h1 3) (h1 24) 0 0 10 ∧ h2 25 = va_cpy (h1 4) (h1 25) 0 0 10 ∧ h2 26 = va_cpy (h1 5) (h1 26) 0 0 3 ∧ h2 27 = va_cpy (h1 6) (h1 27) 0 0 6 ∧ h2 28 = va_cpy (h1 7) (h1 28) 0 0 6 := by
    rw [← hh2]; refine ⟨?_, ?_, ?_, ?_, ?_, ?_⟩ <;> simp (disch := omega) only [rowH_s, rowH_o]
  have cp : ∀ {f g : Nat → Int} {n i : Nat}, i < n → va_cpy f g 0 0 n i = f i := fun {f g n i} hi => by
    rw [pk_cpy_in (by omega) (by omega)]; simp
  have e12 : h2 8 = h 8 := by rw [F2.row 8 rfl, F1.row 8 rfl]
  refine lp_cps_22_1 X2 (by rw [e12]; exact lt) (fun h3 g1 g2 => ?_) 6 0 h2 _ (by omega) rfl (fun _ _ => rfl) (fun j hj => by omega)
  have F3 : Fr [29] [] h2 h3 := fun q k a _ => by rw [g1 q (by simpa using a)]
  have X3 : Fix sh h3 := F3.fix X2 (by decide +kernel)
  simp (disch := omega) only [R_153_171, R_153_172, R_153_175, R_153_176, R_153_179, fs_22 X3, fs_1 X3, fs_30 X3, ff_22_14 X3, ff_1_14 X3, wgt_nil, wgt_0, wgt_1, wgt_2, nl0, nl1, nl2, nl9, pushR0, pushR1, pushR2, pushR9, true_and, and_true, w32_id, w64_id, lcmp_lt, lcmp_gt, lcmp_eq, lcmp_ge, lcmp_le, setH_o, setH_k, setH_self, rowH_o, rowH_s, Int.toNat_natCast, if_true, if_false, not_true_eq_false, not_false_eq_true, bd_t, le8_t, le_t, castL, toNatL, ite_same, or_true, true_or, and_self, Int.reduceMul, Int.reduceAdd, Int.reduceSub, Int.reduceNeg, Int.reduceLE, Int.reduceLT, Int.reduceEq, Nat.reduceAdd, Nat.reduceLeDiff, reduceIte]
  simp (disch := omega) only [E_83, R_83_0, R_83_1, R_83_4, R_83_5, R_83_6, R_83_9, R_83_10, R_83_15, R_83_12 (fs_31 X3) (fs_10 X3), fs_30 X3, fs_9 X3, ff_30_0 X3, ff_9_0 X3, wgt_nil, wgt_0, wgt_1, wgt_2, nl0, nl1, nl2, nl9, pushR0, pushR1, pushR2, pushR9, true_and, and_true, w32_id, w64_id, lcmp_lt, lcmp_gt, lcmp_eq, lcmp_ge, lcmp_le, setH_o, setH_k, setH_self, rowH_o, rowH_s, Int.toNat_natCast, if_true, if_false, not_true_eq_false, not_false_eq_true, bd_t, le8_t, le_t, castL, toNatL, ite_same, or_true, true_or, and_self, Int.reduceMul, Int.reduceAdd, Int.reduceSub, Int.reduceNeg, Int.reduceLE, Int.reduceLT, Int.reduceEq, Nat.reduceAdd, Nat.reduceLeDiff, reduceIte]
  simp (disch := omega) only [R_153_182, wgt_nil, wgt_0, wgt_1, wgt_2, nl0, nl1, nl2, nl9, pushR0, pushR1, pushR2, pushR9, true_and, and_true, w32_id, w64_id, lcmp_lt, lcmp_gt, lcmp_eq, lcmp_ge, lcmp_le, setH_o, setH_k, setH_self, rowH_o, rowH_s, Int.toNat_natCast, if_true, if_false, not_true_eq_false, not_false_eq_true, bd_t, le8_t, le_t, castL, toNatL, ite_same, or_true, true_or, and_self, Int.reduceMul, Int.reduceAdd, Int.reduceSub, Int.reduceNeg, Int.reduceLE, Int.reduceLT, Int.reduceEq, Nat.reduceAdd, Nat.reduceLeDiff, reduceIte]
  have F4 : Fr [23, 24, 25, 26, 27, 28, 29, 31] [(22, 0), (22, 4), (22, 6), (22, 9), (22, 10), (22, 11), (22, 13)] h (rowH h3 31 (va_cpy (h3 10) (h3 31) 0 0 42)) := (((F1.mono rfl).trans (F2.mono rfl)).trans (F3.mono rfl)).rowP rfl
  refine hq _ F4 ?_ (fun i hi => ?_) (fun i hi => ?_) (fun i hi => ?_) (fun i hi => ?_)
  · rw [rowH_o (by decide), F3.row 22 rfl, F2.row 22 rfl]; exact f1
  · rw [rowH_o (by decide), rowH_o (by decide), rowH_o (by decide), F3.row 23 rfl, F3.row 24 rfl, F3.row 25 rfl, f2.1, f2.2.1, f2.2.2.1, cp hi, cp hi, cp hi, F1.row 2 rfl, F1.row 3 rfl, F1.row 4 rfl]; exact ⟨rfl, rfl, rfl⟩
  · rw [rowH_o (by decide), F3.row 26 rfl, f2.2.2.2.1, cp hi, F1.row 5 rfl]
  · rw [rowH_o (by decide), rowH_o (by decide), rowH_o (by decide), F3.row 27 rfl, F3.row 28 rfl, f2.2.2.2.2.1, f2.2.2.2.2.2, cp hi, cp hi, F1.row 6 rfl, F1.row 7 rfl, g2 i hi, e12]; exact ⟨rfl, rfl, rfl⟩
  · rw [rowH_s, cp hi, F3.row 10 rfl, F2.row 10 rfl, F1.row 10 rfl]
theorem lp_cps_1_12 (X : Fix sh h) (lt : LT1 sh (h 19)) (hq : ∀ h', (∀ q, q ≠ 8 → h' q = h q) → (∀ j, j < 6 → h' 8 j = h 19 j) → WF sc (d + 2) 153 171 [(2, 1), (2, 12), (0, 6)] [] sh sl h' Q) : ∀ (rem i : Nat) (h' : Sto) (I : Int), i + rem = 6 → I = i → (∀ q, q ≠ 8 → h' q = h q) → (∀ j, j < i → h' 8 j = h 19 j) → WF sc (d + 2) 153 147 [(2, 1), (2, 12), (0, I)] [] sh sl h' Q := by
  intro rem
  induction rem with
  | zero =>
    intro i h' I hi hI h1 h2
    subst hI
    have : i = 6 := by omega
    subst this
    simp (disch := omega) only [R_153_147, R_153_148, R_153_150, wgt_nil, wgt_0, wgt_1, wgt_2, nl0, nl1, nl2, nl9, pushR0, pushR1, pushR2, pushR9, true_and, and_true, w32_id, w64_id, lcmp_lt, lcmp_gt, lcmp_eq, lcmp_ge, lcmp_le, setH_o, setH_k, setH_self, rowH_o, rowH_s, Int.toNat_natCast, if_true, if_false, not_true_eq_false, not_false_eq_true, bd_t, le8_t, le_t, castL, toNatL, ite_same, or_true, true_or, and_self, Int.reduceMul, Int.reduceAdd, Int.reduceSub, Int.reduceNeg, Int.reduceLE, Int.reduceLT, Int.reduceEq, Nat.reduceAdd, Nat.reduceLeDiff, reduceIte]
    exact hq h' h1 h2
  | succ rem ih =>
    intro i h' I hi hI h1 h2
    subst hI
    have X' : Fix sh h' := by
      refine X.of (fun q hq => ?_)
      have : q.1 ≠ 8 := (by decide +kernel : ∀ q ∈ fld0, q.1 ≠ 8) q hq
      rw [h1 _ this]
    rw [R_153_147]
    simp (disch := omega) only [R_153_148, R_153_150, R_153_153, R_153_154, R_153_157, R_153_158, R_153_159, R_153_162, R_153_163, fs_1 X', fs_12 X', ff_1_12 X', ff_12_12 X', inB5 (N := 6) rfl (fs_19 X'), wgt_nil, wgt_0, wgt_1, wgt_2, nl0, nl1, nl2, nl9, pushR0, pushR1, pushR2, pushR9, true_and, and_true, w32_id, w64_id, lcmp_lt, lcmp_gt, lcmp_eq, lcmp_ge, lcmp_le, setH_o, setH_k, setH_self, rowH_o, rowH_s, Int.toNat_natCast, if_true, if_false, not_true_eq_false, not_false_eq_true, bd_t, le8_t, le_t, castL, toNatL, ite_same, or_true, true_or, and_self, Int.reduceMul, Int.reduceAdd, Int.reduceSub, Int.reduceNeg, Int.reduceLE, Int.reduceLT, Int.reduceEq, Nat.reduceAdd, Nat.reduceLeDiff, reduceIte]
    have hnext : WF sc (d + 2) 153 165 [(2, 1), (2, 12), (0, (i : Int))] [] sh sl (setH h' 8 i (h' 19 i)) Q := by
      simp (disch := omega) only [R_153_165, R_153_168, wgt_nil, wgt_0, wgt_1, wgt_2, nl0, nl1, nl2, nl9, pushR0, pushR1, pushR2, pushR9, true_and, and_true, w32_id, w64_id, lcmp_lt, lcmp_gt, lcmp_eq, lcmp_ge, lcmp_le, setH_o, setH_k, setH_self, rowH_o, rowH_s, Int.toNat_natCast, if_true, if_false, not_true_eq_false, not_false_eq_true, bd_t, le8_t, le_t, castL, toNatL, ite_same, or_true, true_or, and_self, Int.reduceMul, Int.reduceAdd, Int.reduceSub, Int.reduceNeg, Int.reduceLE, Int.reduceLT, Int.reduceEq, Nat.reduceAdd, Nat.reduceLeDiff, reduceIte]
      refine ih (i + 1) _ _ (by omega) (by simp) (fun q hq => by rw [setH_o hq]; exact h1 q hq) (fun j hj => ?_)
      by_cases e : j = i
      · subst e; rw [setH_self, h1 _ (by decide)]
      · rw [setH_k e]; exact h2 j (by omega)
    have hb : h' 19 i = h 19 i := by rw [h1 _ (by decide)]
    rw [if_neg (by omega)]
    refine ⟨by omega, ?_⟩
    rcases lt i (by omega) with e | e
    · rw [hb, e] at hnext ⊢
      rw [R_153_164N (fs_8 X') (Or.inl rfl), w32_id (a := (i : Int)) (by omega) (by omega), Int.toNat_natCast]
      exact ⟨⟨by omega, by omega⟩, hnext⟩
    · rw [hb] at hnext ⊢
      rw [R_153_164 (fs_8 X') e rfl, w32_id (a := (i : Int)) (by omega) (by omega), Int.toNat_natCast]
      exact ⟨⟨by omega, by omega⟩, hnext⟩
theorem sp_cps_1_12 (X : Fix sh h) (lt : LT1 sh (h 19)) (hq : ∀ h', Fr [2, 3, 4, 5, 6, 7, 8, 10] [(1, 0), (1, 4), (1, 6), (1, 9), (1, 10), (1, 11), (1, 13)] h h' → (h' 1 0 = h 12 0 ∧ h' 1 4 = h 12 4 ∧ h' 1 6 = h 12 6 ∧ h' 1 9 = h 12 9 ∧ h' 1 10 = h 12 10 ∧ h' 1 11 = h 12 11 ∧ h' 1 13 = h 12 13) → (∀ i, i < 10 → h' 2 i = h 13 i ∧ h' 3 i = h 14 i ∧ h' 4 i = h 15 i) → (∀ i, i < 3 → h' 5 i = h 16 i) → (∀ i, i < 6 → h' 6 i = h 17 i ∧ h' 7 i = h 18 i ∧ h' 8 i = h 19 i) → (∀ i, i < 42 → h' 10 i = h 21 i) → Q (9, 0) sh sl h') : WM sc (d + 2) 153 [(2, 1), (2, 12)] sh sl h Q := by
  simp (disch := omega) only [E_153, R_153_0, R_153_1, R_153_2, R_153_5, R_153_8, R_153_9, R_153_10, R_153_13, R_153_16, R_153_17, R_153_18, R_153_21, R_153_24, R_153_25, R_153_26, R_153_29, R_153_32, R_153_33, R_153_34, R_153_37, R_153_40, R_153_41, R_153_42, R_153_45, R_153_48, R_153_49, R_153_50, R_153_53, fs_1 X, fs_12 X, wgt_nil, wgt_0, wgt_1, wgt_2, nl0, nl1, nl2, nl9, pushR0, pushR1, pushR2, pushR9, true_and, and_true, w32_id, w64_id, lcmp_lt, lcmp_gt, lcmp_eq, lcmp_ge, lcmp_le, setH_o, setH_k, setH_self, rowH_o, rowH_s, Int.toNat_natCast, if_true, if_false, not_true_eq_false, not_false_eq_true, bd_t, le8_t, le_t, castL, toNatL, ite_same, or_true, true_or, and_self, Int.reduceMul, Int.reduceAdd, Int.reduceSub, Int.reduceNeg, Int.reduceLE, Int.reduceLT, Int.reduceEq, Nat.reduceAdd, Nat.reduceLeDiff, reduceIte]
  generalize hh1 : setH (setH (setH (setH (setH (setH (setH h 1 0 (h 12 0)) 1 4 (h 12 4)) 1 6 (h 12 6)) 1 9 (h 12 9)) 1 10 (h 12 10)) 1 11 (h 12 11)) 1 13 (h 12 13) = h1
  have F1 : Fr [] [(1, 0), (1, 4), (1, 6), (1, 9), (1, 10), (1, 11), (1, 13)] h h1 := by rw [← hh1]; exact (((((((Fr.refl h).set rfl).set rfl).set rfl).set rfl).set rfl).set rfl).set rfl
  have X1 : Fix sh h1 := F1.fix X (by decide +kernel)
  have f1 : h1 1 0 = h 12 0 ∧ h1 1 4 = h 12 4 ∧ h1 1 6 = h 12 6 ∧ h1 1 9 = h 12 9 ∧ h1 1 10 = h 12 10 ∧ h1 1 11 = h 12 11 ∧ h1 1 13 = h 12 13 := by
    rw [← hh1]; refine ⟨?_, ?_, ?_, ?_, ?_, ?_, ?_⟩ <;> simp (disch := omega) only [setH_self, setH_k]
  simp (disch := omega) only [R_153_56, R_153_57, R_153_60, R_153_61, R_153_62, R_153_65, R_153_66, R_153_68 (fs_2 X) (fs_13 X), R_153_71, R_153_72, R_153_75, R_153_76, R_153_77, R_153_80, R_153_81, R_153_83 (fs_3 X) (fs_14 X), R_153_86, R_153_87, R_153_90, R_153_91, R_153_92, R_153_95, R_153_96, R_153_98 (fs_4 X) (fs_15 X), R_153_101, R_153_102, R_153_105, R_153_106, R_153_107, R_153_110, R_153_111, R_153_112 (fs_5 X) (fs_16 X), R_153_115, R_153_116, R_153_119, R_153_120, R_153_121, R_153_124, R_153_125, R_153_127 (fs_6 X) (fs_17 X), R_153_130, R_153_131, R_153_134, R_153_135, R_153_136, R_153_139, R_153_140, R_153_142 (fs_7 X) (fs_18 X), R_153_145, R_153_146, fs_1 X, fs_12 X, ff_1_1 X1, ff_12_1 X1, ff_1_2 X1, ff_12_2 X1, ff_1_3 X1, ff_12_3 X1, ff_1_5 X1, ff_12_5 X1, ff_1_7 X1, ff_12_7 X1, ff_1_8 X1, ff_12_8 X1, wgt_nil, wgt_0, wgt_1, wgt_2, nl0, nl1, nl2, nl9, pushR0, pushR1, pushR2, pushR9, true_and, and_true, w32_id, w64_id, lcmp_lt, lcmp_gt, lcmp_eq, lcmp_ge, lcmp_le, setH_o, setH_k, setH_self, rowH_o, rowH_s, Int.toNat_natCast, if_true, if_false, not_true_eq_false, not_false_eq_true, bd_t, le8_t, le_t, castL, toNatL, ite_same, or_true, true_or, and_self, Int.reduceMul, Int.reduceAdd, Int.reduceSub, Int.reduceNeg, Int.reduceLE, Int.reduceLT, Int.reduceEq, Nat.reduceAdd, Nat.reduceLeDiff, reduceIte]
  generalize hh2 : rowH (rowH (rowH (rowH (rowH (rowH h1 2 (va_cpy (h1 13) (h1 2) 0 0 10)) 3 (va_cpy (h1 14) (h1 3) 0 0 10)) 4 (va_cpy (h1 15) (h1 4) 0 0 10)) 5 (va_cpy (h1 16) (h1 5) 0 0 3)) 6 (va_cpy (h1 17) (h1 6) 0 0 6)) 7 (va_cpy (h1 18) (h1 7) 0 0 6) = h2
  have F2 : Fr [2, 3, 4, 5, 6, 7] [] h1 h2 := by rw [← hh2]; exact ((((((Fr.refl h1).rowP rfl).rowP rfl).rowP rfl).rowP rfl).rowP rfl).rowP rfl
  have X2 : Fix sh h2 := F2.fix X1 (by decide +kernel)
  have f2 : h2 2 = va_cpy (h1 13) (h1 2) 0 0 10 ∧ h2 3 = va_cpy (h1 14) (h1 3) 0 0 10 ∧ h2 4 = va_cpy (h1 15) (h1 4) 0 0 10 ∧ h2 5 = va_cpy (h1 16) (h1 5) 0 0 3 ∧ h2 6 = va_cpy (h1 17) (h1 6) 0 0 6 ∧ h2 7 = va_cpy (h1 18) (h1 7) 0 0 6 := by
    rw [← hh2]; refine ⟨?_, ?_, ?_, ?_, ?_, ?_⟩ <;> simp (disch := omega) only [rowH_s, rowH_o]
  have cp : ∀ {f g : Nat → Int} {n i : Nat}, i < n → va_cpy f g 0 0 n i = f i := fun {f g n i} hi => by
    rw [pk_cpy_in (by omega) (by omega)]; simp
  have e12 : h2 19 = h 19 := by rw [F2.row 19 rfl, F1.row 19 rfl]
  refine lp_cps_1_12 X2 (by rw [e12]; exact lt) (fun h3 g1 g2 => ?_) 6 0 h2 _ (by omega) rfl (fun _ _ => rfl) (fun j hj => by omega)
  have F3 : Fr [8] [] h2 h3 := fun q k a _ => by rw [g1 q (by simpa using a)]
  have X3 : Fix sh h3 := F3.fix X2 (by decide +kernel)
  simp (disch := omega) only [R_153_171, R_153_172, R_153_175, R_153_176, R_153_179, fs_1 X3, fs_12 X3, fs_9 X3, ff_1_14 X3, ff_12_14 X3, wgt_nil, wgt_0, wgt_1, wgt_2, nl0, nl1, nl2, nl9, pushR0, pushR1, pushR2, pushR9, true_and, and_true, w32_id, w64_id, lcmp_lt, lcmp_gt, lcmp_eq, lcmp_ge, lcmp_le, setH_o, setH_k, setH_self, rowH_o, rowH_s, Int.toNat_natCast, if_true, if_false, not_true_eq_false, not_false_eq_true, bd_t, le8_t, le_t, castL, toNatL, ite_same, or_true, true_or, and_self, Int.reduceMul, Int.reduceAdd, Int.reduceSub, Int.reduceNeg, Int.reduceLE, Int.reduceLT, Int.reduceEq, Nat.reduceAdd, Nat.reduceLeDiff, reduceIte]
  simp (disch := omega) only [E_83, R_83_0, R_83_1, R_83_4, R_83_5, R_83_6, R_83_9, R_83_10, R_83_15, R_83_12 (fs_10 X3) (fs_21 X3), fs_9 X3, fs_20 X3, ff_9_0 X3, ff_20_0 X3, wgt_nil, wgt_0, wgt_1, wgt_2, nl0, nl1, nl2, nl9, pushR0, pushR1, pushR2, pushR9, true_and, and_true, w32_id, w64_id, lcmp_lt, lcmp_gt, lcmp_eq, lcmp_ge, lcmp_le, setH_o, setH_k, setH_self, rowH_o, rowH_s, Int.toNat_natCast, if_true, if_false, not_true_eq_false, not_false_eq_true, bd_t, le8_t, le_t, castL, toNatL, ite_same, or_true, true_or, and_self, Int.reduceMul, Int.reduceAdd, Int.reduceSub, Int.reduceNeg, Int.reduceLE, Int.reduceLT, Int.reduceEq, Nat.reduceAdd, Nat.reduceLeDiff, reduceIte]
  simp (disch := omega) only [R_153_182, wgt_nil, wgt_0, wgt_1, wgt_2, nl0, nl1, nl2, nl9, pushR0, pushR1, pushR2, pushR9, true_and, and_true, w32_id, w64_id, lcmp_lt, lcmp_gt, lcmp_eq, lcmp_ge, lcmp_le, setH_o, setH_k, setH_self, rowH_o, rowH_s, Int.toNat_natCast, if_true, if_false, not_true_eq_false, not_false_eq_true, bd_t, le8_t, le_t, castL, toNatL, ite_same, or_true, true_or, and_self, Int.reduceMul, Int.reduceAdd, Int.reduceSub, Int.reduceNeg, Int.reduceLE, Int.reduceLT, Int.reduceEq, Nat.reduceAdd, Nat.reduceLeDiff, reduceIte]
  have F4 : Fr [2, 3, 4, 5, 6, 7, 8, 10] [(1, 0), (1, 4), (1, 6), (1, 9), (1, 10), (1, 11), (1, 13)] h (rowH h3 10 (va_cpy (h3 21) (h3 10) 0 0 42)) := (((F1.mono rfl).trans (F2.mono rfl)).trans (F3.mono rfl)).rowP rfl
  refine hq _ F4 ?_ (fun i hi => ?_) (fun i hi => ?_) (fun i hi => ?_) (fun i hi => ?_)
  · rw [rowH_o (by decide), F3.row 1 rfl, F2.row 1 rfl]; exact f1
  · rw [rowH_o (by decide), rowH_o (by decide), rowH_o (by decide), F3.row 2 rfl, F3.row 3 rfl, F3.row 4 rfl, f2.1, f2.2.1, f2.2.2.1, cp hi, cp hi, cp hi, F1.row 13 rfl, F1.row 14 rfl, F1.row 15 rfl]; exact ⟨rfl, rfl, rfl⟩
  · rw [rowH_o (by decide), F3.row 5 rfl, f2.2.2.2.1, cp hi, F1.row 16 rfl]
  · rw [rowH_o (by decide), rowH_o (by decide), rowH_o (by decide), F3.row 6 rfl, F3.row 7 rfl, f2.2.2.2.2.1, f2.2.2.2.2.2, cp hi, cp hi, F1.row 17 rfl, F1.row 18 rfl, g2 i hi, e12]; exact ⟨rfl, rfl, rfl⟩
  · rw [rowH_s, cp hi, F3.row 21 rfl, F2.row 21 rfl, F1.row 21 rfl]
theorem lp_cps_1_22 (X : Fix sh h) (lt : LT1 sh (h 29)) (hq : ∀ h', (∀ q, q ≠ 8 → h' q = h q) → (∀ j, j < 6 → h' 8 j = h 29 j) → WF sc (d + 2) 153 171 [(2, 1), (2, 22), (0, 6)] [] sh sl h' Q) : ∀ (rem i : Nat) (h' : Sto) (I : Int), i + rem = 6 → I = i → (∀ q, q ≠ 8 → h' q = h q) → (∀ j, j < i → h' 8 j = h 29 j) → WF sc (d + 2) 153 147 [(2, 1), (2, 22), (0, I)] [] sh sl h' Q := by
  intro rem
  induction rem with
  | zero =>
    intro i h' I hi hI h1 h2
    subst hI
    have : i = 6 := by omega
    subst this
    simp (disch := omega) only [R_153_147, R_153_148, R_153_150, wgt_nil, wgt_0, wgt_1, wgt_2, nl0, nl1, nl2, nl9, pushR0, pushR1, pushR2, pushR9, true_and, and_true, w32_id, w64_id, lcmp_lt, lcmp_gt, lcmp_eq, lcmp_ge, lcmp_le, setH_o, setH_k, setH_self, rowH_o, rowH_s, Int.toNat_natCast, if_true, if_false, not_true_eq_false, not_false_eq_true, bd_t, le8_t, le_t, castL, toNatL, ite_same, or_true, true_or, and_self, Int.reduceMul, Int.reduceAdd, Int.reduceSub, Int.reduceNeg, Int.reduceLE, Int.reduceLT, Int.reduceEq, Nat.reduceAdd, Nat.reduceLeDiff, reduceIte]
    exact hq h' h1 h2
  | succ rem ih =>
    intro i h' I hi hI h1 h2
    subst hI
    have X' : Fix sh h' := by
      refine X.of (fun q hq => ?_)
      have : q.1 ≠ 8 := (by decide +kernel : ∀ q ∈ fld0, q.1 ≠ 8) q hq
      rw [h1 _ this]
    rw [R_153_147]
    simp (disch := omega) only [R_153_148, R_153_150, R_153_153, R_153_154, R_153_157, R_153_158, R_153_159, R_153_162, R_153_163, fs_1 X', fs_22 X', ff_1_12 X', ff_22_12 X', inB5 (N := 6) rfl (fs_29 X'), wgt_nil, wgt_0, wgt_1, wgt_2, nl0, nl1, nl2, nl9, pushR0, pushR1, pushR2, pushR9, true_and, and_true, w32_id, w64_id, lcmp_lt, lcmp_gt, lcmp_eq, lcmp_ge, lcmp_le, setH_o, setH_k, setH_self, rowH_o, rowH_s, Int.toNat_natCast, if_true, if_false, not_true_eq_false, not_false_eq_true, bd_t, le8_t, le_t, castL, toNatL, ite_same, or_true, true_or, and_self, Int.reduceMul, Int.reduceAdd, Int.reduceSub, Int.reduceNeg, Int.reduceLE, Int.reduceLT, Int.reduceEq, Nat.reduceAdd, Nat.reduceLeDiff, reduceIte]
    have hnext : WF sc (d + 2) 153 165 [(2, 1), (2, 22), (0, (i : Int))] [] sh sl (setH h' 8 i (h' 29 i)) Q := by
      simp (disch := omega) only [R_153_165, R_153_168, wgt_nil, wgt_0, wgt_1, wgt_2, nl0, nl1, nl2, nl9, pushR0, pushR1, pushR2, pushR9, true_and, and_true, w32_id, w64_id, lcmp_lt, lcmp_gt, lcmp_eq, lcmp_ge, lcmp_le, setH_o, setH_k, setH_self, rowH_o, rowH_s, Int.toNat_natCast, if_true, if_false, not_true_eq_false, not_false_eq_true, bd_t, le8_t, le_t, castL, toNatL, ite_same, or_true, true_or, and_self, Int.reduceMul, Int.reduceAdd, Int.reduceSub, Int.reduceNeg, Int.reduceLE, Int.reduceLT, Int.reduceEq, Nat.reduceAdd, Nat.reduceLeDiff, reduceIte]
      refine ih (i + 1) _ _ (by omega) (by simp) (fun q hq => by rw [setH_o hq]; exact h1 q hq) (fun j hj => ?_)
      by_cases e : j = i
      · subst e; rw [setH_self, h1 _ (by decide)]
      · rw [setH_k e]; exact h2 j (by omega)
    have hb : h' 29 i = h 29 i := by rw [h1 _ (by decide)]
    rw [if_neg (by omega)]
    refine ⟨by omega, ?_⟩
    rcases lt i (by omega) with e | e
    · rw [hb, e] at hnext ⊢
      rw [R_153_164N (fs_8 X') (Or.inl rfl), w32_id (a := (i : Int)) (by omega) (by omega), Int.toNat_natCast]
      exact ⟨⟨by omega, by omega⟩, hnext⟩
    · rw [hb] at hnext ⊢
      rw [R_153_164 (fs_8 X') e rfl, w32_id (a := (i : Int)) (by omega) (by omega), Int.toNat_natCast]
      exact ⟨⟨by omega, by omega⟩, hnext⟩
theorem sp_cps_1_22 (X : Fix sh h) (lt : LT1 sh (h 29)) (hq : ∀ h', Fr [2, 3, 4, 5, 6, 7, 8, 10] [(1, 0), (1, 4), (1, 6), (1, 9), (1, 10), (1, 11), (1, 13)] h h' → (h' 1 0 = h 22 0 ∧ h' 1 4 = h 22 4 ∧ h' 1 6 = h 22 6 ∧ h' 1 9 = h 22 9 ∧ h' 1 10 = h 22 10 ∧ h' 1 11 = h 22 11 ∧ h' 1 13 = h 22 13) → (∀ i, i < 10 → h' 2 i = h 23 i ∧ h' 3 i = h 24 i ∧ h' 4 i = h 25 i) → (∀ i, i < 3 → h' 5 i = h 26 i) → (∀ i, i < 6 → h' 6 i = h 27 i ∧ h' 7 i = h 28 i ∧ h' 8 i = h 29 i) → (∀ i, i < 42 → h' 10 i = h 31 i) → Q (9, 0) sh sl h') : WM sc (d + 2) 153 [(2, 1), (2, 22)] sh sl h Q := by
  simp (disch := omega) only [E_153, R_153_0, R_153_1, R_153_2, R_153_5, R_153_8, R_153_9, R_153_10, R_153_13, R_153_16, R_153_17, R_153_18, R_153_21, R_153_24, R_153_25, R_153_26, R_153_29, R_153_32, R_153_33, R_153_34, R_153_37, R_153_40, R_153_41, R_153_42, R_153_45, R_153_48, R_153_49, R_153_50, R_153_53, fs_1 X, fs_22 X, wgt_nil, wgt_0, wgt_1, wgt_2, nl0, nl1, nl2, nl9, pushR0, pushR1, pushR2, pushR9, true_and, and_true, w32_id, w64_id, lcmp_lt, lcmp_gt, lcmp_eq, lcmp_ge, lcmp_le, setH_o, setH_k, setH_self, rowH_o, rowH_s, Int.toNat_natCast, if_true, if_false, not_true_eq_false, not_false_eq_true, bd_t, le8_t, le_t, castL, toNatL, ite_same, or_true, true_or, and_self, Int.reduceMul, Int.reduceAdd, Int.reduceSub, Int.reduceNeg, Int.reduceLE, Int.reduceLT, Int.reduceEq, Nat.reduceAdd, Nat.reduceLeDiff, reduceIte]
  generalize hh1 : setH (setH (setH (setH (setH (setH (setH h 1 0 (h 22 0)) 1 4 (h 22 4)) 1 6 (h 22 6)) 1 9 (h 22 9)) 1 10 (h 22 10)) 1 11 (h 22 11)) 1 13 (h 22 13) = h1
  have F1 : Fr [] [(1, 0), (1, 4), (1, 6), (1, 9), (1, 10), (1, 11), (1, 13)] h h1 := by rw [← hh1]; exact (((((((Fr.refl h).set rfl).set rfl).set rfl).set rfl).set rfl).set rfl).set rfl
  have X1 : Fix sh h1 := F1.fix X (by decide +kernel)
  have f1 : h1 1 0 = h 22 0 ∧ h1 1 4 = h 22 4 ∧ h1 1 6 = h 22 6 ∧ h1 1 9 = h 22 9 ∧ h1 1 10 = h 22 10 ∧ h1 1 11 = h 22 11 ∧ h1 1 13 = h 22 13 := by
    rw [← hh1]; refine ⟨?_, ?_, ?_, ?_, ?_, ?_, ?_⟩ <;> simp (disch := omega) only [setH_self, setH_k]
  simp (disch := omega) only [R_153_56, R_153_57, R_153_60, R_153_61, R_153_62, R_153_65, R_153_66, R_153_68 (fs_2 X) (fs_23 X), R_153_71, R_153_72, R_153_75, R_153_76, R_153_77, R_153_80, R_153_81, R_153_83 (fs_3 X) (fs_24 X), R_153_86, R_153_87, R_153_90, R_153_91, R_153_92, R_153_95, R_153_96, R_153_98 (fs_4 X) (fs_25 X), R_153_101, R_153_102, R_153_105, R_153_106, R_153_107, R_153_110, R_153_111, R_153_112 (fs_5 X) (fs_26 X), R_153_115, R_153_116, R_153_119, R_153_120, R_153_121, R_153_124, R_153_125, R_153_127 (fs_6 X) (fs_27 X), R_153_130, R_153_131, R_153_134, R_153_135, R_153_136, R_153_139, R_153_140, R_153_142 (fs_7 X) (fs_28 X), R_153_145, R_153_146, fs_1 X, fs_22 X, ff_1_1 X1, ff_22_1 X1, ff_1_2 X1, ff_22_2 X1, ff_1_3 X1, ff_22_3 X1, ff_1_5 X1, ff_22_5 X1, ff_1_7 X1, ff_22_7 X1, ff_1_8 X1, ff_22_8 X1, wgt_nil, wgt_0, wgt_1, wgt_2, nl0, nl1, nl2, nl9, pushR0, pushR1, pushR2, pushR9, true_and, and_true, w32_id, w64_id, lcmp_lt, lcmp_gt, lcmp_eq, lcmp_ge, lcmp_le, setH_o, setH_k, setH_self, rowH_o, rowH_s, Int.toNat_natCast, if_true, if_false, not_true_eq_false, not_false_eq_true, bd_t, le8_t, le_t, castL, toNatL, ite_same, or_true, true_or, and_self, Int.reduceMul, Int.reduceAdd, Int.reduceSub, Int.reduceNeg, Int.reduceLE, Int.reduceLT, Int.reduceEq, Nat.reduceAdd, Nat.reduceLeDiff, reduceIte]
  generalize hh2 : rowH (rowH (rowH (rowH (rowH (rowH h1 2 (va_cpy (h1 23) (h1 2) 0 0 10)) 3 (va_cpy (h1 24) (h1 3) 0 0 10)) 4 (va_cpy (h1 25) (h1 4) 0 0 10)) 5 (va_cpy (h1 26) (h1 5) 0 0 3)) 6 (va_cpy (h1 27) (h1 6) 0 0 6)) 7 (va_cpy (h1 28) (h1 7) 0 0 6) = h2
  have F2 : Fr [2, 3, 4, 5, 6, 7] [] h1 h2 := by rw [← hh2]; exact ((((((Fr.refl h1).rowP rfl).rowP rfl).rowP rfl).rowP rfl).rowP rfl).rowP rfl
  have X2 : Fix sh h2 := F2.fix X1 (by decide +kernel)
  have f2 : h2 2 = va_cpy (h1 23) (h1 2) 0 0 10 ∧ h2 3 = va_cpy (h1 24) (h1 3) 0 0 10 ∧ h2 4 = va_cpy (h1 25) (h1 4) 0 0 10 ∧ h2 5 = va_cpy (h1 26) (h1 5) 0 0 3 ∧ h2 6 = va_cpy (h1 27) (h1 6) 0 0 6 ∧ h2 7 = va_cpy (h1 28) (h1 7) 0 0 6 := by
    rw [← hh2]; refine ⟨?_, ?_, ?_, ?_, ?_, ?_⟩ <;> simp (disch := omega) only [rowH_s, rowH_o]
  have cp : ∀ {f g : Nat → Int} {n i : Nat}, i < n → va_cpy f g 0 0 n i = f i := fun {f g n i} hi => by
    rw [pk_cpy_in (by omega) (by omega)]; simp
  have e12 : h2 29 = h 29 := by rw [F2.row 29 rfl, F1.row 29 rfl]
  refine lp_cps_1_22 X2 (by rw [e12]; exact lt) (fun h3 g1 g2 => ?_) 6 0 h2 _ (by omega) rfl (fun _ _ => rfl) (fun j hj => by omega)
  have F3 : Fr [8] [] h2 h3 := fun q k a _ => by rw [g1 q (by simpa using a)]
  have X3 : Fix sh h3 := F3.fix X2 (by decide +kernel)
  simp (disch := omega) only [R_153_171, R_153_172, R_153_175, R_153_176, R_153_179, fs_1 X3, fs_22 X3, fs_9 X3, ff_1_14 X3, ff_22_14 X3, wgt_nil, wgt_0, wgt_1, wgt_2, nl0, nl1, nl2, nl9, pushR0, pushR1, pushR2, pushR9, true_and, and_true, w32_id, w64_id, lcmp_lt, lcmp_gt, lcmp_eq, lcmp_ge, lcmp_le, setH_o, setH_k, setH_self, rowH_o, rowH_s, Int.toNat_natCast, if_true, if_false, not_true_eq_false, not_false_eq_true, bd_t, le8_t, le_t, castL, toNatL, ite_same, or_true, true_or, and_self, Int.reduceMul, Int.reduceAdd, Int.reduceSub, Int.reduceNeg, Int.reduceLE, Int.reduceLT, Int.reduceEq, Nat.reduceAdd, Nat.reduceLeDiff, reduceIte]
  simp (disch := omega) only [E_83, R_83_0, R_83_1, R_83_4, R_83_5, R_83_6, R_83_9, R_83_10, R_83_15, R_83_12 (fs_10 X3) (fs_31 X3), fs_9 X3, fs_30 X3, ff_9_0 X3, ff_30_0 X3, wgt_nil, wgt_0, wgt_1, wgt_2, nl0, nl1, nl2, nl9, pushR0, pushR1, pushR2, pushR9, true_and, and_true, w32_id, w64_id, lcmp_lt, lcmp_gt, lcmp_eq, lcmp_ge, lcmp_le, setH_o, setH_k, setH_self, rowH_o, rowH_s, Int.toNat_natCast, if_true, if_false, not_true_eq_false, not_false_eq_true, bd_t, le8_t, le_t, castL, toNatL, ite_same, or_true, true_or, and_self, Int.reduceMul, Int.reduceAdd, Int.reduceSub, Int.reduceNeg, Int.reduceLE, Int.reduceLT, Int.reduceEq, Nat.reduceAdd, Nat.reduceLeDiff, reduceIte]
  simp (disch := omega) only [R_153_182, wgt_nil, wgt_0, wgt_1, wgt_2, nl0, nl1, nl2, nl9, pushR0, pushR1, pushR2, pushR9, true_and, and_true, w32_id, w64_id, lcmp_lt, lcmp_gt, lcmp_eq, lcmp_ge, lcmp_le, setH_o, setH_k, setH_self, rowH_o, rowH_s, Int.toNat_natCast, if_true, if_false, not_true_eq_false, not_false_eq_true, bd_t, le8_t, le_t, castL, toNatL, ite_same, or_true, true_or, and_self, Int.reduceMul, Int.reduceAdd, Int.reduceSub, Int.reduceNeg, Int.reduceLE, Int.reduceLT, Int.reduceEq, Nat.reduceAdd, Nat.reduceLeDiff, reduceIte]
  have F4 : Fr [2, 3, 4, 5, 6, 7, 8, 10] [(1, 0), (1, 4), (1, 6), (1, 9), (1, 10), (1, 11), (1, 13)] h (rowH h3 10 (va_cpy (h3 31) (h3 10) 0 0 42)) := (((F1.mono rfl).trans (F2.mono rfl)).trans (F3.mono rfl)).rowP rfl
  refine hq _ F4 ?_ (fun i hi => ?_) (fun i hi => ?_) (fun i hi => ?_) (fun i hi => ?_)
  · rw [rowH_o (by decide), F3.row 1 rfl, F2.row 1 rfl]; exact f1
  · rw [rowH_o (by decide), rowH_o (by decide), rowH_o (by decide), F3.row 2 rfl, F3.row 3 rfl, F3.row 4 rfl, f2.1, f2.2.1, f2.2.2.1, cp hi, cp hi, cp hi, F1.row 23 rfl, F1.row 24 rfl, F1.row 25 rfl]; exact ⟨rfl, rfl, rfl⟩
  · rw [rowH_o (by decide), F3.row 5 rfl, f2.2.2.2.1, cp hi, F1.row 26 rfl]
  · rw [rowH_o (by decide), rowH_o (by decide), rowH_o (by decide), F3.row 6 rfl, F3.row 7 rfl, f2.2.2.2.2.1, f2.2.2.2.2.2, cp hi, cp hi, F1.row 27 rfl, F1.row 28 rfl, g2 i hi, e12]; exact ⟨rfl, rfl, rfl⟩
  · rw [rowH_s, cp hi, F3.row 31 rfl, F2.row 31 rfl, F1.row 31 rfl]
end COPY
