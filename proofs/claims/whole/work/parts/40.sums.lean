/-! ===== sums along a LETTER's row ===== -/
def psum (f : Nat → Int) : Nat → Int
  | 0 => 0
  | k + 1 => psum f k + f k
def spA (G : Nat → Int) (l i : Nat) : Nat := (G (34 + 5 * l + i)).toNat
def paidA (G : Nat → Int) (L : List Law) (l : Nat) : Int := psum (fun i => countsA G L (spA G l i)) (G (31 + l)).toNat
def quOnA (G : Nat → Int) (L : List Law) (l : Nat) : Int := psum (fun i => quarrelA G L (spA G l i) (spA G l (i + 1))) ((G (31 + l)).toNat - 1)
theorem psum_bd {f : Nat → Int} {c : Int} : ∀ (k : Nat), (∀ i, i < k → 0 ≤ f i ∧ f i ≤ c) → 0 ≤ psum f k ∧ psum f k ≤ k * c := by
  intro k
  induction k with
  | zero => intro _; simp [psum]
  | succ k ih =>
    intro hf
    have h1 := ih (fun i hi => hf i (by omega))
    have h2 := hf k (by omega)
    have h3 : ((k + 1 : Nat) : Int) * c = k * c + c := by rw [Int.natCast_add, Int.add_mul]; simp
    simp only [psum]
    omega
theorem BW.sp {G : Nat → Int} {n m l i : Nat} (B : BW G n m) (hl : l < m) (hi : (i : Int) < G (31 + l)) : G (34 + 5 * l + i) = (spA G l i : Int) ∧ spA G l i < n ∧ G (8 + spA G l i) = l := by
  obtain ⟨s, h1, h2, h3⟩ := B.2.2.2.1 l i hl hi
  have : spA G l i = s := by unfold spA; omega
  rw [this]; exact ⟨h1, h2, h3⟩
theorem paidA_bd {G : Nat → Int} {n m l : Nat} {L : List Law} (W : SW G n m L) (B : BW G n m) (hl : l < m) : 0 ≤ paidA G L l ∧ paidA G L l ≤ 300 := by
  have hs := B.2.2.1 l hl
  have := psum_bd (f := fun i => countsA G L (spA G l i)) (c := 60) (G (31 + l)).toNat (fun i hi => countsA_bd W (B.sp hl (by omega)).2.1)
  unfold paidA; omega
theorem quOnA_bd {G : Nat → Int} {n m l : Nat} {L : List Law} (W : SW G n m L) (B : BW G n m) (hl : l < m) : 0 ≤ quOnA G L l ∧ quOnA G L l ≤ 80 := by
  have hs := B.2.2.1 l hl
  have := psum_bd (f := fun i => quarrelA G L (spA G l i) (spA G l (i + 1))) (c := 20) ((G (31 + l)).toNat - 1) (fun i hi => quarrelA_bd W (B.sp hl (by omega)).2.1 (B.sp (i := i + 1) hl (by omega)).2.1)
  unfold quOnA; omega
section SUMS
variable {sc : Nat × (Nat → Int)} {d : Nat} {sh : Shp} {sl : Nat} {h : Sto} {Q : Pst} {j b c fa ks : Nat} {G : Nat → Int} {n m : Nat} {L : List Law}
theorem sp_mstampAt {l i : Nat} {x y : Int} (X : Fix sh h) (hx : x = l) (hy : y = i) (hl : l < 3) (hi : i < 5) : WM sc (d + 1) 171 [(2, 85), (0, x), (0, y)] sh sl h Q ↔ Q (0, h 87 (34 + 5 * l + i)) sh sl h := by
  subst hx hy
  rw [B_171_0 X, w32_nat (a := 34 + 5 * (l : Int) + i) (n := 34 + 5 * l + i) (by omega) (by omega), Int.toNat_natCast]
  exact and_iff_right (by omega)
theorem lp_paid {l : Nat} (J : JQ j b c fa ks) (H : CJ sh h G n m L c) (hl : l < m) (hq : ∀ h', Fr JP [] h h' → Q (0, paidA G L l) sh sl h') : ∀ (rem i : Nat) (h' : Sto) (acc I : Int), i + rem = (G (31 + l)).toNat → acc = psum (fun i => countsA G L (spA G l i)) i → I = i → Fr JP [] h h' → WF sc (d + 4) 38 4 [(2, (j : Int)), (0, (l : Int)), (0, acc), (0, I)] [] sh sl h' Q := by
  have hsz := H.2.2.2.2.2.2.1 l hl
  have hm3 : m ≤ 3 := H.2.2.2.1.1.2.2.2.1
  intro rem
  induction rem with
  | zero =>
    intro i h' acc I hi ha hI hF
    subst hI
    obtain ⟨X, S, hB, W, B⟩ := H.fr hF J.c
    obtain ⟨js, fs, kss, j0, j1, j2, j3, jB⟩ := J.sh X
    have e := (hB.2.2.1 l hl).1
    rw [R_38_4]
    simp (disch := omega) only [R_38_0, R_38_1, R_38_2, R_38_3, R_38_5, R_38_6, R_38_9, R_38_10, R_38_13, R_38_16, R_38_17, R_38_18, R_38_19, R_38_22, R_38_23, R_38_24, R_38_27, R_38_30, R_38_31, R_38_32, R_38_35, R_38_38, R_38_39, js, j1, jB.1, bn_sizeOf jB (show l < 3 by omega), e, w32_id, w64_id, if_pos, if_neg, if_true, if_false, not_true_eq_false, not_false_eq_true, nl0, nl1, nl2, nl9, Int.toNat_natCast, pushR0, pushR1, pushR2, pushR9, true_and, and_true, wgt_nil, wgt_0, wgt_1, wgt_2, lcmp_lt, lcmp_gt, lcmp_eq, lcmp_ge, lcmp_le, le8_t]
    have hi' : i = (G (31 + l)).toNat := by omega
    rw [ha, hi']
    exact hq h' hF
  | succ rem ih =>
    intro i h' acc I hi ha hI hF
    subst hI
    have H' := H.fr hF J.c
    obtain ⟨X, S, hB, W, B⟩ := H'
    obtain ⟨js, fs, kss, j0, j1, j2, j3, jB⟩ := J.sh X
    have e := (hB.2.2.1 l hl).1
    have e2 := hB.2.2.2 l i hl (by omega)
    have s := B.sp (i := i) hl (by omega)
    rw [s.1] at e2
    rw [R_38_4]
    simp (disch := omega) only [R_38_0, R_38_1, R_38_2, R_38_3, R_38_5, R_38_6, R_38_9, R_38_10, R_38_13, R_38_16, R_38_17, R_38_18, R_38_19, R_38_22, R_38_23, R_38_24, R_38_27, R_38_30, R_38_31, R_38_32, R_38_35, R_38_38, R_38_39, js, j1, jB.1, bn_sizeOf jB (show l < 3 by omega), bn_stampAt jB (show l < 3 by omega) (show i < 5 by omega), e, e2, w32_id, w64_id, if_pos, if_neg, if_true, if_false, not_true_eq_false, not_false_eq_true, nl0, nl1, nl2, nl9, Int.toNat_natCast, pushR0, pushR1, pushR2, pushR9, true_and, and_true, wgt_nil, wgt_0, wgt_1, wgt_2, lcmp_lt, lcmp_gt, lcmp_eq, lcmp_ge, lcmp_le, le8_t]
    refine sp_counts J (H.fr hF J.c) s.2.1 (fun h2 hF2 => ?_)
    simp (disch := omega) only [R_38_0, R_38_1, R_38_2, R_38_3, R_38_5, R_38_6, R_38_9, R_38_10, R_38_13, R_38_16, R_38_17, R_38_18, R_38_19, R_38_22, R_38_23, R_38_24, R_38_27, R_38_30, R_38_31, R_38_32, R_38_35, R_38_38, R_38_39, w32_id, w64_id, if_pos, if_neg, if_true, if_false, not_true_eq_false, not_false_eq_true, nl0, nl1, nl2, nl9, Int.toNat_natCast, pushR0, pushR1, pushR2, pushR9, true_and, and_true, wgt_nil, wgt_0, wgt_1, wgt_2, lcmp_lt, lcmp_gt, lcmp_eq, lcmp_ge, lcmp_le]
    exact ih (i + 1) h2 _ _ (by omega) (by rw [ha]; rfl) (by simp) (hF.trans hF2)
theorem sp_paid {l : Nat} (J : JQ j b c fa ks) (H : CJ sh h G n m L c) (hl : l < m) (hq : ∀ h', Fr JP [] h h' → Q (0, paidA G L l) sh sl h') : WM sc (d + 4) 38 [(2, (j : Int)), (0, (l : Int))] sh sl h Q := by
  simp (disch := omega) only [E_38, R_38_0, R_38_1, R_38_2, R_38_3, w32_id, w64_id, if_pos, if_neg, if_true, if_false, not_true_eq_false, not_false_eq_true, nl0, nl1, nl2, nl9, Int.toNat_natCast, pushR0, pushR1, pushR2, pushR9, true_and, and_true, wgt_nil, wgt_0, wgt_1, wgt_2, lcmp_lt, lcmp_gt, lcmp_eq, lcmp_ge, lcmp_le]
  exact lp_paid J H hl hq (G (31 + l)).toNat 0 h _ _ (by omega) rfl rfl (Fr.refl h)
theorem lp_quOn {l : Nat} (J : JQ j b c fa ks) (H : CJ sh h G n m L c) (hl : l < m) (hq : ∀ h', Fr JP [] h h' → Q (0, quOnA G L l) sh sl h') : ∀ (rem i : Nat) (h' : Sto) (acc I : Int), i + rem = (G (31 + l)).toNat - 1 → acc = psum (fun i => quarrelA G L (spA G l i) (spA G l (i + 1))) i → I = (i : Int) + 1 → Fr JP [] h h' → WF sc (d + 4) 39 4 [(2, (j : Int)), (0, (l : Int)), (0, acc), (0, I)] [] sh sl h' Q := by
  have hsz := H.2.2.2.2.2.2.1 l hl
  have hm3 : m ≤ 3 := H.2.2.2.1.1.2.2.2.1
  intro rem
  induction rem with
  | zero =>
    intro i h' acc I hi ha hI hF
    subst hI
    obtain ⟨X, S, hB, W, B⟩ := H.fr hF J.c
    obtain ⟨js, fs, kss, j0, j1, j2, j3, jB⟩ := J.sh X
    have e := (hB.2.2.1 l hl).1
    rw [R_39_4]
    simp (disch := omega) only [R_39_0, R_39_1, R_39_2, R_39_3, R_39_5, R_39_6, R_39_9, R_39_10, R_39_13, R_39_16, R_39_17, R_39_18, R_39_19, R_39_22, R_39_23, R_39_24, R_39_25, R_39_26, R_39_29, R_39_30, R_39_33, R_39_34, R_39_35, R_39_38, R_39_41, R_39_42, R_39_43, R_39_46, R_39_49, R_39_50, js, j1, jB.1, bn_sizeOf jB (show l < 3 by omega), e, w32_id, w64_id, if_pos, if_neg, if_true, if_false, not_true_eq_false, not_false_eq_true, nl0, nl1, nl2, nl9, Int.toNat_natCast, pushR0, pushR1, pushR2, pushR9, true_and, and_true, wgt_nil, wgt_0, wgt_1, wgt_2, lcmp_lt, lcmp_gt, lcmp_eq, lcmp_ge, lcmp_le, le8_t]
    have hi' : i = (G (31 + l)).toNat - 1 := by omega
    rw [ha, hi']
    exact hq h' hF
  | succ rem ih =>
    intro i h' acc I hi ha hI hF
    subst hI
    have H' := H.fr hF J.c
    obtain ⟨X, S, hB, W, B⟩ := H'
    obtain ⟨js, fs, kss, j0, j1, j2, j3, jB⟩ := J.sh X
    have e := (hB.2.2.1 l hl).1
    have e2 := hB.2.2.2 l i hl (by omega)
    have e3 := hB.2.2.2 l (i + 1) hl (by omega)
    have s := B.sp (i := i) hl (by omega)
    have s1 := B.sp (i := i + 1) hl (by omega)
    rw [s.1] at e2
    rw [s1.1] at e3
    have ei : (i : Int) + 1 - 1 = i := by omega
    have ei2 : (i : Int) + 1 = ((i + 1 : Nat) : Int) := by omega
    rw [R_39_4]
    simp (disch := omega) only [R_39_0, R_39_1, R_39_2, R_39_3, R_39_5, R_39_6, R_39_9, R_39_10, R_39_13, R_39_16, R_39_17, R_39_18, R_39_19, R_39_22, R_39_23, R_39_24, R_39_25, R_39_26, R_39_29, R_39_30, R_39_33, R_39_34, R_39_35, R_39_38, R_39_41, R_39_42, R_39_43, R_39_46, R_39_49, R_39_50, js, j1, jB.1, bn_sizeOf jB (show l < 3 by omega), e, w32_id, w64_id, if_pos, if_neg, if_true, if_false, not_true_eq_false, not_false_eq_true, nl0, nl1, nl2, nl9, Int.toNat_natCast, pushR0, pushR1, pushR2, pushR9, true_and, and_true, wgt_nil, wgt_0, wgt_1, wgt_2, lcmp_lt, lcmp_gt, lcmp_eq, lcmp_ge, lcmp_le, le8_t, ei]
    simp (disch := omega) only [ei2, R_39_0, R_39_1, R_39_2, R_39_3, R_39_5, R_39_6, R_39_9, R_39_10, R_39_13, R_39_16, R_39_17, R_39_18, R_39_19, R_39_22, R_39_23, R_39_24, R_39_25, R_39_26, R_39_29, R_39_30, R_39_33, R_39_34, R_39_35, R_39_38, R_39_41, R_39_42, R_39_43, R_39_46, R_39_49, R_39_50, js, j1, jB.1, bn_stampAt jB (show l < 3 by omega) (show i < 5 by omega), bn_stampAt jB (show l < 3 by omega) (show i + 1 < 5 by omega), e2, e3, w32_id, w64_id, if_pos, if_neg, if_true, if_false, not_true_eq_false, not_false_eq_true, nl0, nl1, nl2, nl9, Int.toNat_natCast, pushR0, pushR1, pushR2, pushR9, true_and, and_true, wgt_nil, wgt_0, wgt_1, wgt_2, lcmp_lt, lcmp_gt, lcmp_eq, lcmp_ge, lcmp_le, le8_t]
    refine sp_quarrel J (H.fr hF J.c) s.2.1 s1.2.1 (fun h2 hF2 => ?_)
    simp (disch := omega) only [R_39_0, R_39_1, R_39_2, R_39_3, R_39_5, R_39_6, R_39_9, R_39_10, R_39_13, R_39_16, R_39_17, R_39_18, R_39_19, R_39_22, R_39_23, R_39_24, R_39_25, R_39_26, R_39_29, R_39_30, R_39_33, R_39_34, R_39_35, R_39_38, R_39_41, R_39_42, R_39_43, R_39_46, R_39_49, R_39_50, w32_id, w64_id, if_pos, if_neg, if_true, if_false, not_true_eq_false, not_false_eq_true, nl0, nl1, nl2, nl9, Int.toNat_natCast, pushR0, pushR1, pushR2, pushR9, true_and, and_true, wgt_nil, wgt_0, wgt_1, wgt_2, lcmp_lt, lcmp_gt, lcmp_eq, lcmp_ge, lcmp_le]
    exact ih (i + 1) h2 _ _ (by omega) (by rw [ha]; rfl) (by simp) (hF.trans hF2)
theorem sp_quOn {l : Nat} (J : JQ j b c fa ks) (H : CJ sh h G n m L c) (hl : l < m) (hq : ∀ h', Fr JP [] h h' → Q (0, quOnA G L l) sh sl h') : WM sc (d + 4) 39 [(2, (j : Int)), (0, (l : Int))] sh sl h Q := by
  simp (disch := omega) only [E_39, R_39_0, R_39_1, R_39_2, R_39_3, w32_id, w64_id, if_pos, if_neg, if_true, if_false, not_true_eq_false, not_false_eq_true, nl0, nl1, nl2, nl9, Int.toNat_natCast, pushR0, pushR1, pushR2, pushR9, true_and, and_true, wgt_nil, wgt_0, wgt_1, wgt_2, lcmp_lt, lcmp_gt, lcmp_eq, lcmp_ge, lcmp_le]
  exact lp_quOn J H hl hq ((G (31 + l)).toNat - 1) 0 h _ _ (by omega) rfl rfl (Fr.refl h)
theorem lp_mpaid {l : Nat} (H : MJ sh h G n m L) (hl : l < m) (hq : ∀ h', Fr MP MS h h' → Q (0, paidA G L l) sh sl h') : ∀ (rem i : Nat) (h' : Sto) (acc I : Int), i + rem = (G (31 + l)).toNat → acc = psum (fun i => countsA G L (spA G l i)) i → I = i → Fr MP MS h h' → WF sc (d + 7) 181 4 [(2, 85), (0, (l : Int)), (0, acc), (0, I)] [] sh sl h' Q := by
  have hsz := H.2.2.2.2.2.2.1 l hl
  have hm3 : m ≤ 3 := H.2.2.2.1.1.2.2.2.1
  intro rem
  induction rem with
  | zero =>
    intro i h' acc I hi ha hI hF
    subst hI
    obtain ⟨X, e87, e20, W, B⟩ := H.fr hF
    rw [B_181_4 X, w32_nat (a := 31 + (l : Int)) (n := 31 + l) (by omega) (by omega), Int.toNat_natCast, e87, w32_id (a := G (31 + l)) (by omega) (by omega), w32_id (a := (i : Int)) (by omega) (by omega), if_pos (by omega)]
    have hi' : i = (G (31 + l)).toNat := by omega
    rw [ha, hi']
    exact ⟨⟨by omega, by omega⟩, hq h' hF⟩
  | succ rem ih =>
    intro i h' acc I hi ha hI hF
    subst hI
    obtain ⟨X, e87, e20, W, B⟩ := H.fr hF
    have s := B.sp (i := i) hl (by omega)
    rw [B_181_4 X, w32_nat (a := 31 + (l : Int)) (n := 31 + l) (by omega) (by omega), Int.toNat_natCast, e87, w32_id (a := G (31 + l)) (by omega) (by omega), w32_id (a := (i : Int)) (by omega) (by omega), if_neg (by omega), sp_mstampAt X rfl rfl (by omega) (show i < 5 by omega), e87, s.1]
    refine ⟨⟨by omega, by omega⟩, ?_⟩
    simp only [pushR0]
    rw [B_181_25 X]
    refine sp_countsOf (H.fr hF) s.2.1 (fun h2 hF2 => ?_)
    simp only [pushR0]
    rw [B_181_28 (H.fr (hF.trans hF2)).1]
    exact ih (i + 1) h2 _ _ (by omega) (by rw [ha]; rfl) (by simp) (hF.trans hF2)
theorem sp_mpaid {l : Nat} (H : MJ sh h G n m L) (hl : l < m) (hq : ∀ h', Fr MP MS h h' → Q (0, paidA G L l) sh sl h') : WM sc (d + 7) 181 [(2, 85), (0, (l : Int))] sh sl h Q := by
  rw [B_181_0 H.1]
  exact lp_mpaid H hl hq (G (31 + l)).toNat 0 h _ _ (by omega) rfl rfl (Fr.refl h)
theorem lp_mquOn {l : Nat} (H : MJ sh h G n m L) (hl : l < m) (hq : ∀ h', Fr MP MS h h' → Q (0, quOnA G L l) sh sl h') : ∀ (rem i : Nat) (h' : Sto) (acc I : Int), i + rem = (G (31 + l)).toNat - 1 → acc = psum (fun i => quarrelA G L (spA G l i) (spA G l (i + 1))) i → I = (i : Int) + 1 → Fr MP MS h h' → WF sc (d + 7) 182 4 [(2, 85), (0, (l : Int)), (0, acc), (0, I)] [] sh sl h' Q := by
  have hsz := H.2.2.2.2.2.2.1 l hl
  have hm3 : m ≤ 3 := H.2.2.2.1.1.2.2.2.1
  intro rem
  induction rem with
  | zero =>
    intro i h' acc I hi ha hI hF
    subst hI
    obtain ⟨X, e87, e20, W, B⟩ := H.fr hF
    rw [B_182_4 X, w32_nat (a := 31 + (l : Int)) (n := 31 + l) (by omega) (by omega), Int.toNat_natCast, e87, w32_id (a := G (31 + l)) (by omega) (by omega), w32_id (a := (i : Int) + 1) (by omega) (by omega), if_pos (by omega)]
    have hi' : i = (G (31 + l)).toNat - 1 := by omega
    rw [ha, hi']
    exact ⟨⟨by omega, by omega⟩, hq h' hF⟩
  | succ rem ih =>
    intro i h' acc I hi ha hI hF
    subst hI
    obtain ⟨X, e87, e20, W, B⟩ := H.fr hF
    have s := B.sp (i := i) hl (by omega)
    have s1 := B.sp (i := i + 1) hl (by omega)
    rw [B_182_4 X, w32_nat (a := 31 + (l : Int)) (n := 31 + l) (by omega) (by omega), Int.toNat_natCast, e87, w32_id (a := G (31 + l)) (by omega) (by omega), w32_id (a := (i : Int) + 1) (by omega) (by omega), if_neg (by omega), sp_mstampAt X rfl (show (i : Int) + 1 - 1 = (i : Nat) by omega) (by omega) (show i < 5 by omega), e87, s.1]
    refine ⟨⟨by omega, by omega⟩, ?_⟩
    simp only [pushR0]
    rw [B_182_27 X, sp_mstampAt X rfl (show (i : Int) + 1 = (i + 1 : Nat) by omega) (by omega) (show i + 1 < 5 by omega), e87, s1.1]
    simp only [pushR0]
    rw [B_182_33 X]
    refine sp_quarrelOf (H.fr hF) s.2.1 s1.2.1 (fun h2 hF2 => ?_)
    simp only [pushR0]
    rw [B_182_36 (H.fr (hF.trans hF2)).1]
    exact ih (i + 1) h2 _ _ (by omega) (by rw [ha]; rfl) (by simp) (hF.trans hF2)
theorem sp_mquOn {l : Nat} (H : MJ sh h G n m L) (hl : l < m) (hq : ∀ h', Fr MP MS h h' → Q (0, quOnA G L l) sh sl h') : WM sc (d + 7) 182 [(2, 85), (0, (l : Int))] sh sl h Q := by
  rw [B_182_0 H.1]
  exact lp_mquOn H hl hq ((G (31 + l)).toNat - 1) 0 h _ _ (by omega) rfl rfl (Fr.refl h)
end SUMS
