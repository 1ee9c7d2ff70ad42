section JUDGE2
variable {sc : Nat × (Nat → Int)} {d : Nat} {sh : Shp} {sl : Nat} {h : Sto} {Q : Pst} {j b c fa ks : Nat} {G : Nat → Int} {n m : Nat} {L : List Law}
theorem sp_told {k l : Nat} {r : Option Nat} {kind ri without most : Int} (J : JQ j b c fa ks) (H : CJ sh h G n m L c) (hk : kind = (k : Int)) (hk3 : k ≤ 3) (hl : l < n) (hr : (r = none ∧ ri = -1) ∨ ∃ x : Nat, r = some x ∧ ri = x ∧ x < n) (hm : 0 ≤ most ∧ most ≤ 60) (hq : ∀ h', Fr JP [] h h' → Q (0, toldA (tellsA G L k l r) without most) sh sl h') : WM sc (d + 2) 28 [(2, (j : Int)), (0, kind), (0, (l : Int)), (0, ri), (0, without), (0, most)] sh sl h Q := by
  obtain ⟨X, S, hB, W, B⟩ := H
  obtain ⟨js, fs, kss, j0, j1, j2, j3, jB⟩ := J.sh X
  obtain ⟨n1, n2, n3, n4, n5, n6, n7, n8, n9, n10, n11⟩ := J.ne
  obtain ⟨⟨s0, s4, s6, s9, s10, s11, s13⟩, sa, sf, sh', sL⟩ := S
  have w := W.1
  have wl := W.2.1 l hl
  have bl := B.2.1 l hl
  have b5 := B.1
  by_cases hf : G 4 < 0
  · simp (disch := omega) only [E_28, R_28_0, R_28_1, R_28_4, R_28_7, R_28_9, R_28_11, R_28_26, R_28_28, js, j0, fs_1 X, s13, w32_id, w64_id, if_pos, if_neg, if_true, if_false, not_true_eq_false, not_false_eq_true, nl0, nl1, nl2, nl9, Int.toNat_natCast, pushR0, pushR1, pushR2, pushR9, true_and, and_true, wgt_nil, wgt_0, wgt_1, wgt_2, lcmp_lt, lcmp_gt, lcmp_eq, lcmp_ge, lcmp_le, toNatL]
    have := hq h (Fr.refl h)
    unfold tellsA at this
    rw [if_pos hf] at this; exact this
  · obtain ⟨Lw, hL⟩ : ∃ Lw, L[(G 4).toNat]? = some Lw := ⟨L[(G 4).toNat], List.getElem?_eq_getElem (by omega)⟩
    obtain ⟨hM, hO⟩ := W.2.2.2.2 _ _ hL
    obtain ⟨p, hp1, hp2⟩ := sL _ _ hL
    have hp120 : 120 ≤ p := by obtain ⟨_, _, _, _, _, _, _, _, h1, _⟩ := hp2; exact h1.1
    have hps : shAt sh (p : Int) = some (0, 9) := by obtain ⟨_, _, _, _, _, _, _, _, _, _, h1, _⟩ := hp2; exact h1
    have hpl : h p 0 = (Lw.length : Int) := by obtain ⟨_, _, _, _, _, _, _, _, _, _, _, h1, _⟩ := hp2; exact h1
    have hO12 := hO.1
    have hrx : ∀ x, r = some x → x < n := by
      intro x hx
      rcases hr with ⟨h1, _⟩ | ⟨y, h1, h2, h3⟩
      · rw [h1] at hx; cases hx
      · rw [h1] at hx; cases hx; exact h3
    have hfok := fct_ok W B hl hrx
    have ht : tellsA G L k l r = tdF k (fct G l r) Lw := by unfold tellsA; rw [if_neg hf, hL]
    rw [ht] at hq
    have a1 := (sa l hl).1
    have a2 := (sa l hl).2.1
    have a3 := (sa l hl).2.2
    simp only [Nat.reduceAdd] at a1 a2 a3 hp1
    simp (disch := omega) only [E_28, R_28_0, R_28_1, R_28_4, R_28_7, R_28_9, R_28_11, R_28_14, R_28_16, R_28_17, R_28_20, R_28_23, R_28_26, R_28_28, R_28_29, R_28_30, R_28_33, R_28_36, R_28_38, R_28_39, R_28_41, R_28_43, R_28_46, R_28_48, js, j0, fs_1 X, s13, s11, ff_1_12 X, hp1, inB5 (N := 6) rfl (fs_8 X), w32_id, w64_id, if_pos, if_neg, if_true, if_false, not_true_eq_false, not_false_eq_true, nl0, nl1, nl2, nl9, Int.toNat_natCast, pushR0, pushR1, pushR2, pushR9, true_and, and_true, wgt_nil, wgt_0, wgt_1, wgt_2, lcmp_lt, lcmp_gt, lcmp_eq, lcmp_ge, lcmp_le, toNatL, castL, bd_t, le8_t]
    have hgo : ∀ (s2 s4 : Int), s2 = fct G l r 1 → s4 = fct G l r 3 → WF sc (d + 2) 28 142 [(2, (j : Int)), (0, kind), (0, (l : Int)), (0, ri), (0, without), (0, most), (0, G 4), (2, (p : Int)), (9, 0), (9, 0), (9, 0)] [] sh sl (setH (setH (setH (setH (setH h fa 0 (G (69 + l))) fa 1 s2) fa 2 (G (59 + l))) fa 3 s4) fa 4 (G (49 + l))) Q := by
      intro s2 s4 hs2 hs4
      generalize hH : (setH (setH (setH (setH (setH h fa 0 (G (69 + l))) fa 1 s2) fa 2 (G (59 + l))) fa 3 s4) fa 4 (G (49 + l))) = h5
      have e5 : ∀ q, q ≠ fa → h5 q = h q := fun q hq => by rw [← hH]; simp only [setH_o hq]
      have f0 : h5 fa 0 = G (69 + l) := by rw [← hH]; simp (disch := omega) only [setH_self, setH_k]
      have f1 : h5 fa 1 = s2 := by rw [← hH]; simp (disch := omega) only [setH_self, setH_k]
      have f2 : h5 fa 2 = G (59 + l) := by rw [← hH]; simp (disch := omega) only [setH_self, setH_k]
      have f3 : h5 fa 3 = s4 := by rw [← hH]; simp (disch := omega) only [setH_self, setH_k]
      have f4 : h5 fa 4 = G (49 + l) := by rw [← hH]; simp (disch := omega) only [setH_self, setH_k]
      have B5 : Bd sh h5 (b : Int) (c : Int) := jB.of (by rw [Int.toNat_natCast]; exact e5 b n8)
      have ec : h5 c = h c := e5 c n10
      have ej : h5 j = h j := e5 j n6
      simp (disch := omega) only [R_28_142, R_28_143, R_28_146, R_28_147, R_28_148, R_28_151, R_28_152, js, ej, j1, j2, B5.1, bn_glueOf B5 (show l < 10 by omega), w32_id, w64_id, if_pos, if_neg, if_true, if_false, not_true_eq_false, not_false_eq_true, nl0, nl1, nl2, nl9, Int.toNat_natCast, pushR0, pushR1, pushR2, pushR9, true_and, and_true, wgt_nil, wgt_0, wgt_1, wgt_2, lcmp_lt, lcmp_gt, lcmp_eq, lcmp_ge, lcmp_le, wgt_0, wgt_2, le8_t, ec, (hB.2.1 l hl).1]
      have B6 : Bd sh (setH h5 fa 5 (G (18 + l))) (b : Int) (c : Int) := B5.of (by rw [Int.toNat_natCast]; exact setH_o n8)
      have ec6 : setH h5 fa 5 (G (18 + l)) c = h c := by rw [setH_o n10]; exact ec
      have ej6 : setH h5 fa 5 (G (18 + l)) j = h j := by rw [setH_o n6]; exact ej
      simp (disch := omega) only [R_28_155, R_28_156, R_28_157, R_28_160, R_28_162, R_28_163, R_28_166, js, ej6, j1, j2, B6.1, bn_today B6, inA_of fs, w32_id, w64_id, if_pos, if_neg, if_true, if_false, not_true_eq_false, not_false_eq_true, nl0, nl1, nl2, nl9, Int.toNat_natCast, pushR0, pushR1, pushR2, pushR9, true_and, and_true, wgt_nil, wgt_0, wgt_1, wgt_2, lcmp_lt, lcmp_gt, lcmp_eq, lcmp_ge, lcmp_le, wgt_0, wgt_2, le8_t, bd_t, castL, toNatL, ec6, hB.1]
      have ej7 : setH (setH h5 fa 5 (G (18 + l))) fa 6 (G 5) j = h j := by rw [setH_o n6]; exact ej6
      have e17 : setH (setH h5 fa 5 (G (18 + l))) fa 6 (G 5) 1 = h 1 := by rw [setH_o (by omega), setH_o (by omega)]; exact e5 1 (by omega)
      have ep : setH (setH (setH h5 fa 5 (G (18 + l))) fa 6 (G 5)) fa 7 (G 7) p = h p := by rw [setH_o (by omega), setH_o (by omega), setH_o (by omega)]; exact e5 p (by omega)
      simp (disch := omega) only [R_28_169, R_28_170, R_28_171, R_28_174, R_28_176, R_28_177, R_28_180, R_28_183, R_28_184, R_28_186, R_28_189, R_28_190, R_28_191, js, j0, ej7, e17, ep, hps, hpl, fs_1 X, s10, j2, inA_of fs, w32_id, w64_id, if_pos, if_neg, if_true, if_false, not_true_eq_false, not_false_eq_true, nl0, nl1, nl2, nl9, Int.toNat_natCast, pushR0, pushR1, pushR2, pushR9, true_and, and_true, wgt_nil, wgt_0, wgt_1, wgt_2, lcmp_lt, lcmp_gt, lcmp_eq, lcmp_ge, lcmp_le, wgt_0, wgt_2, le8_t, bd_t, castL, toNatL]
      have e8 : ∀ q, q ≠ fa → setH (setH (setH h5 fa 5 (G (18 + l))) fa 6 (G 5)) fa 7 (G 7) q = h q := fun q hq => by simp only [setH_o hq]; exact e5 q hq
      have F8 : Fr JP [] h (setH (setH (setH h5 fa 5 (G (18 + l))) fa 6 (G 5)) fa 7 (G 7)) := J.fr (fun q h1 _ => e8 q h1)
      refine lp_told (k := k) (Lw := Lw) (f := fct G l r) (F8.fix X (by decide +kernel)) J (hp2.of (fun q hq => e8 q (by omega))) hO hk hk3 hm ?_ hfok (fct_n W B hl hrx) Lw.length _ _ _ _ rfl (by omega) (fun _ _ => rfl) ?_
      · intro i hi
        rcases (show i = 0 ∨ i = 1 ∨ i = 2 ∨ i = 3 ∨ i = 4 ∨ i = 5 ∨ i = 6 ∨ i = 7 by omega) with e | e | e | e | e | e | e | e <;> subst e <;> simp (disch := omega) only [setH_self, setH_k, f0, f1, f2, f3, f4]
        · rfl
        · exact hs2
        · rfl
        · exact hs4
        · rfl
        · rfl
        · rfl
        · rfl
      · intro h' hh'
        rw [List.take_length]
        exact hq h' (F8.trans (J.fr (fun q _ h2 => hh' q h2)))
    have t1 : ∀ (x : Int), setH h fa 0 x 1 = h 1 := fun x => setH_o (by omega)
    rcases hr with ⟨rfl, rfl⟩ | ⟨x, rfl, rfl, hx⟩
    · simp (disch := omega) only [R_28_49, R_28_50, R_28_53, R_28_54, R_28_55, R_28_58, R_28_61, R_28_62, R_28_63, R_28_64, R_28_65, R_28_68, R_28_69, R_28_70, R_28_71, R_28_74, R_28_75, R_28_87, R_28_88, R_28_89, R_28_92, R_28_93, R_28_94, R_28_97, R_28_100, R_28_101, R_28_102, R_28_103, R_28_104, R_28_107, R_28_108, R_28_109, R_28_110, R_28_113, R_28_114, R_28_126, R_28_127, R_28_128, R_28_131, R_28_132, R_28_133, R_28_136, R_28_139, R_28_140, R_28_141, js, j0, j2, fs_1 X, ff_1_1 X, ff_1_2 X, ff_1_3 X, a1, a2, a3, setH_o, inA_of fs, inA_c (N := 10) rfl (fs_2 X), inA_c (N := 10) rfl (fs_3 X), inA_c (N := 10) rfl (fs_4 X), w32_id, w64_id, if_pos, if_neg, if_true, if_false, not_true_eq_false, not_false_eq_true, nl0, nl1, nl2, nl9, Int.toNat_natCast, pushR0, pushR1, pushR2, pushR9, true_and, and_true, wgt_nil, wgt_0, wgt_1, wgt_2, lcmp_lt, lcmp_gt, lcmp_eq, lcmp_ge, lcmp_le, toNatL, castL, bd_t, le8_t]
      exact hgo (-1) (-1) rfl rfl
    · have c2 := (sa x hx).2.1
      have c3 := (sa x hx).2.2
      simp only [Nat.reduceAdd] at c2 c3
      simp (disch := omega) only [R_28_49, R_28_50, R_28_53, R_28_54, R_28_55, R_28_58, R_28_61, R_28_62, R_28_63, R_28_64, R_28_65, R_28_68, R_28_69, R_28_70, R_28_71, R_28_78, R_28_79, R_28_82, R_28_85, R_28_86, R_28_87, R_28_88, R_28_89, R_28_92, R_28_93, R_28_94, R_28_97, R_28_100, R_28_101, R_28_102, R_28_103, R_28_104, R_28_107, R_28_108, R_28_109, R_28_110, R_28_117, R_28_118, R_28_121, R_28_124, R_28_125, R_28_126, R_28_127, R_28_128, R_28_131, R_28_132, R_28_133, R_28_136, R_28_139, R_28_140, R_28_141, js, j0, j2, fs_1 X, ff_1_1 X, ff_1_2 X, ff_1_3 X, a1, a2, a3, c2, c3, setH_o, inA_of fs, inA_c (N := 10) rfl (fs_2 X), inA_c (N := 10) rfl (fs_3 X), inA_c (N := 10) rfl (fs_4 X), w32_id, w64_id, if_pos, if_neg, if_true, if_false, not_true_eq_false, not_false_eq_true, nl0, nl1, nl2, nl9, Int.toNat_natCast, pushR0, pushR1, pushR2, pushR9, true_and, and_true, wgt_nil, wgt_0, wgt_1, wgt_2, lcmp_lt, lcmp_gt, lcmp_eq, lcmp_ge, lcmp_le, toNatL, castL, bd_t, le8_t]
      exact hgo _ _ rfl rfl
theorem sp_quarrel {l r : Nat} (J : JQ j b c fa ks) (H : CJ sh h G n m L c) (hl : l < n) (hr : r < n) (hq : ∀ h', Fr JP [] h h' → Q (0, quarrelA G L l r) sh sl h') : WM sc (d + 3) 40 [(2, (j : Int)), (0, (l : Int)), (0, (r : Int))] sh sl h Q := by
  have H0 := H
  obtain ⟨X, S, hB, W, B⟩ := H
  obtain ⟨js, fs, kss, j0, j1, j2, j3, jB⟩ := J.sh X
  obtain ⟨⟨s0, s4, s6, s9, s10, s11, s13⟩, sa, sf, sh', sL⟩ := S
  have w := W.1
  have wl := W.2.1 l hl
  have wr := W.2.1 r hr
  have a2 := (sa l hl).2.1
  have a3 := (sa l hl).2.2
  have c2 := (sa r hr).2.1
  have c3 := (sa r hr).2.2
  simp only [Nat.reduceAdd] at a2 a3 c2 c3
  have hgo : ∀ (x3 wo : Int), wo = (if G (59 + l) = G (59 + r) then 0 else G (69 + l) + G (69 + r)) → WM sc (d + 2) 28 [(2, (j : Int)), (0, 0), (0, (l : Int)), (0, (r : Int)), (0, wo), (0, 20)] sh sl h (fun r_1 sh1 sl1 h1 => WF sc (d + 3) 40 67 [(2, (j : Int)), (0, (l : Int)), (0, (r : Int)), (0, x3), (0, wo)] (pushR r_1 []) sh1 sl1 h1 Q) := by
    intro x3 wo hwo
    refine sp_told (k := 0) (r := some r) J H0 rfl (by omega) hl (Or.inr ⟨r, rfl, rfl, hr⟩) (by omega) ?_
    intro h' hF
    simp only [pushR0, R_40_67, hwo]
    exact hq h' hF
  by_cases he : G (59 + l) = G (59 + r)
  · simp (disch := omega) only [E_40, R_40_0, R_40_1, R_40_4, R_40_7, R_40_8, R_40_9, R_40_10, R_40_13, R_40_16, R_40_17, R_40_18, R_40_21, R_40_22, R_40_25, R_40_26, R_40_27, R_40_28, R_40_31, R_40_32, R_40_35, R_40_36, R_40_39, R_40_42, R_40_43, R_40_44, R_40_45, R_40_48, R_40_51, R_40_52, R_40_53, R_40_54, R_40_56, R_40_57, R_40_58, R_40_59, R_40_60, R_40_62, R_40_64, js, j0, fs_1 X, ff_1_1 X, ff_1_2 X, ff_1_3 X, a2, a3, c2, c3, he, inA_c (N := 10) rfl (fs_3 X), inA_c (N := 10) rfl (fs_4 X), w32_id, w64_id, if_pos, if_neg, if_true, if_false, not_true_eq_false, not_false_eq_true, nl0, nl1, nl2, nl9, Int.toNat_natCast, pushR0, pushR1, pushR2, pushR9, true_and, and_true, wgt_nil, wgt_0, wgt_1, wgt_2, lcmp_lt, lcmp_gt, lcmp_eq, lcmp_ge, lcmp_le, toNatL, castL, bd_t, le8_t, ite_same]
    exact hgo _ _ (by rw [if_pos he])
  · have he2 : ¬ (G (59 + l) = G (59 + r)) := he
    simp (disch := omega) only [E_40, R_40_0, R_40_1, R_40_4, R_40_7, R_40_8, R_40_9, R_40_10, R_40_13, R_40_16, R_40_17, R_40_18, R_40_21, R_40_22, R_40_25, R_40_26, R_40_27, R_40_28, R_40_31, R_40_32, R_40_35, R_40_36, R_40_39, R_40_42, R_40_43, R_40_44, R_40_45, R_40_48, R_40_51, R_40_52, R_40_53, R_40_54, R_40_56, R_40_57, R_40_58, R_40_59, R_40_60, R_40_62, R_40_64, js, j0, fs_1 X, ff_1_1 X, ff_1_2 X, ff_1_3 X, a2, a3, c2, c3, he2, inA_c (N := 10) rfl (fs_3 X), inA_c (N := 10) rfl (fs_4 X), w32_id, w64_id, if_pos, if_neg, if_true, if_false, not_true_eq_false, not_false_eq_true, nl0, nl1, nl2, nl9, Int.toNat_natCast, pushR0, pushR1, pushR2, pushR9, true_and, and_true, wgt_nil, wgt_0, wgt_1, wgt_2, lcmp_lt, lcmp_gt, lcmp_eq, lcmp_ge, lcmp_le, toNatL, castL, bd_t, le8_t, ite_same]
    exact hgo _ _ (by rw [if_neg he])
theorem sp_barred {l r : Nat} (J : JQ j b c fa ks) (H : CJ sh h G n m L c) (hl : l < n) (hr : r < n) (hq : ∀ h', Fr JP [] h h' → Q (0, if barredA G L l r then 1 else 0) sh sl h') : WM sc (d + 3) 43 [(2, (j : Int)), (0, (l : Int)), (0, (r : Int))] sh sl h Q := by
  have H0 := H
  obtain ⟨X, S, hB, W, B⟩ := H
  obtain ⟨js, fs, kss, j0, j1, j2, j3, jB⟩ := J.sh X
  simp (disch := omega) only [E_43, R_43_0, R_43_1, R_43_2, R_43_3, R_43_4, R_43_5, R_43_6, js, w32_id, w64_id, if_pos, if_neg, if_true, if_false, not_true_eq_false, not_false_eq_true, nl0, nl1, nl2, nl9, Int.toNat_natCast, pushR0, pushR1, pushR2, pushR9, true_and, and_true, wgt_nil, wgt_0, wgt_1, wgt_2, lcmp_lt, lcmp_gt, lcmp_eq, lcmp_ge, lcmp_le]
  refine ⟨by omega, sp_told (k := 3) (r := some r) J H0 rfl (by omega) hl (Or.inr ⟨r, rfl, rfl, hr⟩) (by omega) ?_⟩
  intro h' hF
  have h1 := hq h' hF
  unfold barredA at h1
  simp only [pushR0]
  cases ht : tellsA G L 3 l (some r) with
  | none =>
    rw [ht] at h1
    simp (disch := omega) only [R_43_0, R_43_1, R_43_2, R_43_3, R_43_4, R_43_5, R_43_6, R_43_9, R_43_10, R_43_13, R_43_14, R_43_17, R_43_18 (x := 0) (Or.inl rfl), R_43_18 (x := 1) (Or.inr rfl), w32_id, w64_id, if_pos, if_neg, if_true, if_false, not_true_eq_false, not_false_eq_true, nl0, nl1, nl2, nl9, Int.toNat_natCast, pushR0, pushR1, pushR2, pushR9, true_and, and_true, wgt_nil, wgt_0, wgt_1, wgt_2, lcmp_lt, lcmp_gt, lcmp_eq, lcmp_ge, lcmp_le, toldA]
    simpa using h1
  | some v =>
    have := (tellsA_ok W B hl (fun x hx => by cases hx; exact hr) ht).2 rfl
    subst this
    rw [ht] at h1
    simp (disch := omega) only [R_43_0, R_43_1, R_43_2, R_43_3, R_43_4, R_43_5, R_43_6, R_43_9, R_43_10, R_43_13, R_43_14, R_43_17, R_43_18 (x := 0) (Or.inl rfl), R_43_18 (x := 1) (Or.inr rfl), w32_id, w64_id, if_pos, if_neg, if_true, if_false, not_true_eq_false, not_false_eq_true, nl0, nl1, nl2, nl9, Int.toNat_natCast, pushR0, pushR1, pushR2, pushR9, true_and, and_true, wgt_nil, wgt_0, wgt_1, wgt_2, lcmp_lt, lcmp_gt, lcmp_eq, lcmp_ge, lcmp_le, toldA, show max (0 : Int) (min 1 1) = 1 from rfl]
    simpa using h1
theorem sp_dries {s : Nat} (J : JQ j b c fa ks) (H : CJ sh h G n m L c) (hl : s < n) (hq : ∀ h', Fr JP [] h h' → Q (0, driesA G L s) sh sl h') : WM sc (d + 3) 31 [(2, (j : Int)), (0, (s : Int))] sh sl h Q := by
  have H0 := H
  obtain ⟨X, S, hB, W, B⟩ := H
  obtain ⟨js, fs, kss, j0, j1, j2, j3, jB⟩ := J.sh X
  simp (disch := omega) only [E_31, R_31_0, R_31_1, R_31_2, R_31_3, R_31_4, R_31_5, R_31_7, R_31_10, js, w32_id, w64_id, if_pos, if_neg, if_true, if_false, not_true_eq_false, not_false_eq_true, nl0, nl1, nl2, nl9, Int.toNat_natCast, pushR0, pushR1, pushR2, pushR9, true_and, and_true, wgt_nil, wgt_0, wgt_1, wgt_2, lcmp_lt, lcmp_gt, lcmp_eq, lcmp_ge, lcmp_le, le8_t]
  refine sp_told (k := 1) (r := none) J H0 rfl (by omega) hl (Or.inl ⟨rfl, rfl⟩) (by omega) ?_
  intro h' hF
  simp only [pushR0, R_31_0, R_31_1, R_31_2, R_31_3, R_31_4, R_31_5, R_31_7, R_31_10]
  exact hq h' hF
theorem sp_counts {s : Nat} (J : JQ j b c fa ks) (H : CJ sh h G n m L c) (hl : s < n) (hq : ∀ h', Fr JP [] h h' → Q (0, countsA G L s) sh sl h') : WM sc (d + 3) 27 [(2, (j : Int)), (0, (s : Int))] sh sl h Q := by
  have H0 := H
  obtain ⟨X, S, hB, W, B⟩ := H
  obtain ⟨js, fs, kss, j0, j1, j2, j3, jB⟩ := J.sh X
  obtain ⟨⟨s0, s4, s6, s9, s10, s11, s13⟩, sa, sf, sh', sL⟩ := S
  have w := W.1
  have a1 := (sa s hl).1
  simp only [Nat.reduceAdd] at a1
  simp (disch := omega) only [E_27, R_27_0, R_27_1, R_27_2, R_27_3, R_27_4, R_27_5, R_27_8, R_27_11, R_27_12, R_27_13, R_27_15, R_27_18, js, j0, fs_1 X, ff_1_1 X, a1, inA_c (N := 10) rfl (fs_2 X), w32_id, w64_id, if_pos, if_neg, if_true, if_false, not_true_eq_false, not_false_eq_true, nl0, nl1, nl2, nl9, Int.toNat_natCast, pushR0, pushR1, pushR2, pushR9, true_and, and_true, wgt_nil, wgt_0, wgt_1, wgt_2, lcmp_lt, lcmp_gt, lcmp_eq, lcmp_ge, lcmp_le, toNatL, castL, bd_t, le8_t]
  refine sp_told (k := 2) (r := none) J H0 rfl (by omega) hl (Or.inl ⟨rfl, rfl⟩) (by omega) ?_
  intro h' hF
  simp only [pushR0, R_27_0, R_27_1, R_27_2, R_27_3, R_27_4, R_27_5, R_27_8, R_27_11, R_27_12, R_27_13, R_27_15, R_27_18]
  exact hq h' hF
end JUDGE2
