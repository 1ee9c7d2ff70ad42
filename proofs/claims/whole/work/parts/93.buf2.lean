section BUFM
variable {sc : Nat × (Nat → Int)} {d : Nat} {sh : Shp} {sl : Nat} {h : Sto} {Q : Pst} {G : Nat → Int} {n m : Nat} {L : List Law}
def rdS (G : Nat → Int) (s : Nat) : Nat → Bool := fun i => inP G i && (decide (s ≤ i) || decide (0 < G (18 + i)))
theorem msk_ext {p : Nat → Bool} {n a : Nat} (h : ∀ i, a.testBit i = (decide (i < n) && p i)) : a = msk p n := Nat.eq_of_testBit_eq (fun i => by rw [h i, msk_bit])
theorem lp_ready (M : MJ sh h G n m L) (hq : Q (0, (msk (rdP G) n : Int)) sh sl h) : ∀ (rem s : Nat) (A S : Int), s + rem = n → A = (msk (rdS G s) n : Int) → S = s → WF sc (d + 1) 243 7 [(2, 85), (0, A), (0, S)] [] sh sl h Q := by
  have W := M.2.2.2.1
  have B := M.2.2.2.2
  have hn10 := W.1.2.1
  intro rem
  induction rem with
  | zero =>
    intro s A S hs hA hS
    subst hA hS
    have hsn : s = n := by omega
    subst hsn
    rw [B_243_7 M.1, M.2.1, W.1.1, w32_id (a := (s : Int)) (by omega) (by omega), if_pos (by omega)]
    have : msk (rdS G s) s = msk (rdP G) s := msk_congr s (fun i hi => by unfold rdS rdP; rw [decide_eq_false (by omega), Bool.false_or])
    rw [this]; exact hq
  | succ rem ih =>
    intro s A S hs hA hS
    subst hA hS
    have gl := (B.2.1 s (by omega)).1
    have hl := msk_lt10 (p := rdS G s) hn10
    rw [B_243_7 M.1, M.2.1, W.1.1, w32_id (a := (n : Int)) (by omega) (by omega), w32_id (a := (s : Int)) (by omega) (by omega), if_neg (by omega), w32_nat (a := 18 + (s : Int)) (n := 18 + s) (by omega) (by omega), Int.toNat_natCast, w32_id (a := G (18 + s)) (by omega) (by omega)]
    refine ⟨⟨by omega, by omega⟩, ?_⟩
    by_cases c : G (18 + s) ≤ 0
    · rw [if_pos c]
      obtain ⟨b, e1, e2, e3⟩ := clr_bit hl (show s < 10 by omega)
      rw [e1]
      refine ih (s + 1) _ _ (by omega) ?_ (by simp)
      have : b = msk (rdS G (s + 1)) n := msk_ext (fun i => by
        rw [e3, msk_bit]
        unfold rdS
        by_cases ei : i = s
        · subst ei
          rw [decide_eq_false (show ¬ i ≠ i by simp), Bool.and_false, decide_eq_false (show ¬ i + 1 ≤ i by omega), decide_eq_false (show ¬ 0 < G (18 + i) by omega), Bool.or_false, Bool.and_false, Bool.and_false]
        · rw [decide_eq_true ei, Bool.and_true]
          have : decide (s + 1 ≤ i) = decide (s ≤ i) := by simp only [decide_eq_decide]; omega
          rw [this])
      rw [this]
    · rw [if_neg c]
      refine ih (s + 1) _ _ (by omega) ?_ (by simp)
      have e1 : iand ((msk (rdS G s) n : Nat) : Int) (-1) = ((msk (rdS G s) n : Nat) : Int) := by
        rw [iand_bv, bvm1, BitVec.and_allOnes, toInt_small (by rw [bv32 (by omega)]; omega), bv32 (by omega)]
      rw [e1]
      have : msk (rdS G s) n = msk (rdS G (s + 1)) n := msk_congr n (fun i hi => by
        unfold rdS
        by_cases ei : i = s
        · subst ei
          rw [decide_eq_true (Nat.le_refl i), decide_eq_true (show 0 < G (18 + i) by omega), Bool.or_true, Bool.or_true]
        · have : decide (s + 1 ≤ i) = decide (s ≤ i) := by simp only [decide_eq_decide]; omega
          rw [this])
      rw [this]
theorem sp_ready (M : MJ sh h G n m L) (hq : Q (0, (msk (rdP G) n : Int)) sh sl h) : WM sc (d + 2) 243 [(2, 85)] sh sl h Q := by
  have W := M.2.2.2.1
  have hn10 := W.1.2.1
  rw [B_243_0 M.1]
  refine sp_minSheet M.1 M.2.1 W.1.1 hn10 M.2.2.2.2 W.1.2.2.2.1 ?_
  simp only [pushR0]
  rw [B_243_4 M.1]
  refine lp_ready M hq n 0 _ _ (by omega) ?_ rfl
  have : msk (inP G) n = msk (rdS G 0) n := msk_congr n (fun i hi => by unfold rdS; rw [decide_eq_true (Nat.zero_le i), Bool.true_or, Bool.and_true])
  rw [this]
/-- what the search of the reference reads -/
def BfM (sh : Shp) (h : Sto) (G : Nat → Int) (n m : Nat) (L : List Law) (l N : Nat) (gp : Nat → Nat) : Prop := MJ sh h G n m L ∧ FiR G L n n 0 h ∧ l < m ∧ N ≤ 4 ∧ (∀ j, j < N → h 112 j = ((gp j : Nat) : Int) ∧ ((gp j + 1 : Nat) : Int) < G (31 + l))
theorem BfM.fr {h' : Sto} {l N : Nat} {gp : Nat → Nat} (H : BfM sh h G n m L l N gp) (F : Fr [110] [] h h') : BfM sh h' G n m L l N gp := by
  obtain ⟨a, b, c, e, f⟩ := H
  refine ⟨a.of F (by decide +kernel) (by decide +kernel), ?_, c, e, ?_⟩
  · unfold FiR; rw [F.row 107 rfl, F.row 108 rfl]; exact b
  · rw [F.row 112 rfl]; exact f
theorem sp_parts {l N j s : Nat} {gp : Nat → Nat} (H : BfM sh h G n m L l N gp) (hj : j < N) (hs : s < n) (hr : rdP G s = true) (hq : Q (0, if (lieW G L (spA G l (gp j)) s && lieW G L s (spA G l (gp j + 1))) = true then 1 else 0) sh sl h) : WM sc (d + 2) 250 [(2, 85), (0, (l : Int)), (0, ((gp j : Nat) : Int)), (0, (s : Int))] sh sl h Q := by
  obtain ⟨M, Fi, hl, hN, hg⟩ := H
  have W := M.2.2.2.1
  have B := M.2.2.2.2
  have hn10 := W.1.2.1
  have hm3 := W.1.2.2.2.1
  have c1 := B.2.2.1 l hl
  have g1 := (hg j hj).2
  obtain ⟨g, hgj⟩ : ∃ g, gp j = g := ⟨_, rfl⟩
  rw [hgj] at hq g1 ⊢
  have s1 := B.sp (i := g) hl (by omega)
  have s2 := B.sp (i := g + 1) hl (by omega)
  have hin : G (8 + s) = -1 := by
    unfold rdP inP at hr
    rw [Bool.and_eq_true, decide_eq_true_eq] at hr
    exact hr.1
  have n1 : spA G l g ≠ s := fun q => by have := s1.2.2; rw [q, hin] at this; omega
  have n2 : s ≠ spA G l (g + 1) := fun q => by have := s2.2.2; rw [← q, hin] at this; omega
  have q1 := Fi _ _ s1.2.1 hs n1 (by have := s1.2.1; omega)
  have q2 := Fi _ _ hs s2.2.1 n2 (by omega)
  have b1 := quarrelA_bd W s1.2.1 hs
  have b2 := quarrelA_bd W hs s2.2.1
  have l1 := s1.2.1
  have l2 := s2.2.1
  rw [B_250_0 M.1, sp_mstampAt (l := l) (i := g) M.1 rfl rfl (by omega) (by omega)]
  simp only [pushR0]
  rw [B_250_6 M.1, sp_mstampAt (l := l) (i := g + 1) M.1 rfl (by omega) (by omega) (by omega)]
  simp only [pushR0]
  rw [B_250_16 M.1, M.2.1, s1.1, s2.1, w32_nat (a := 10 * ((spA G l g : Nat) : Int) + s) (n := 10 * spA G l g + s) (by omega) (by omega), w32_nat (a := 10 * (s : Int) + ((spA G l (g + 1) : Nat) : Int)) (n := 10 * s + spA G l (g + 1)) (by omega) (by omega), Int.toNat_natCast, Int.toNat_natCast, q1.1, q2.1, q1.2, q2.2, w32_id (a := quarrelA G L (spA G l g) s) (by omega) (by omega), w32_id (a := quarrelA G L s (spA G l (g + 1))) (by omega) (by omega)]
  refine ⟨⟨by omega, by omega⟩, ?_⟩
  unfold lieW at hq
  by_cases z1 : quarrelA G L (spA G l g) s = 0
  case neg =>
    rw [decide_eq_false z1, Bool.false_and, Bool.false_and, if_neg (by decide)] at hq
    rw [if_pos z1]; exact hq
  rw [if_neg (fun q => q z1)]
  refine ⟨⟨by omega, by omega⟩, ?_⟩
  by_cases z2 : quarrelA G L s (spA G l (g + 1)) = 0
  case neg =>
    rw [decide_eq_false z2, Bool.false_and, Bool.and_false, if_neg (by decide)] at hq
    rw [if_pos z2]; exact hq
  rw [if_neg (fun q => q z2)]
  refine ⟨⟨by omega, by omega⟩, ?_⟩
  rw [decide_eq_true z1, decide_eq_true z2, Bool.true_and, Bool.true_and] at hq
  cases z3 : barredA G L (spA G l g) s
  case true =>
    rw [z3] at hq
    rw [if_pos rfl, show w32 1 = 1 from rfl, if_pos (by decide)]
    exact hq
  rw [z3] at hq
  rw [show (if (false : Bool) = true then (1 : Int) else 0) = 0 from rfl, w32_0, if_neg (by simp)]
  refine ⟨⟨by omega, by omega⟩, ?_⟩
  cases z4 : barredA G L s (spA G l (g + 1))
  case true =>
    rw [z4] at hq
    rw [if_pos rfl, show w32 1 = 1 from rfl, if_pos (by decide)]
    exact hq
  rw [z4] at hq
  rw [show (if (false : Bool) = true then (1 : Int) else 0) = 0 from rfl, w32_0, if_neg (by simp)]
  exact hq
theorem lp_isDiff {t : Nat → Int} {l k c : Nat} {x3 : Int} (X : Fix sh h) (hk : k < 5) (e : ∀ i, i < k → h 110 i = t i) (tb : ∀ i, i < k → 0 ≤ t i ∧ t i < 10) (ek : h 110 k = (c : Int)) (hc : c < 10) (b0 : Bool) (hq : Q (0, if (b0 && decide (∀ i, i < k → t i ≠ (c : Int))) = true then 1 else 0) sh sl h) : ∀ (rem i : Nat) (A I : Int), i + rem = k → A = (if (b0 && decide (∀ j, j < i → t j ≠ (c : Int))) = true then 1 else 0) → I = i → WF sc (d + 1) 249 43 [(2, 85), (0, (l : Int)), (0, (k : Int)), (0, x3), (0, A), (0, I)] [] sh sl h Q := by
  intro rem
  induction rem with
  | zero =>
    intro i A I hi hA hI
    have hik : i = k := by omega
    subst hik
    rw [B_249_43 X (by rw [hA]; split <;> simp), hI, w32_id (a := (i : Int)) (by omega) (by omega), if_pos (by omega), hA]
    exact hq
  | succ rem ih =>
    intro i A I hi hA hI
    have t1 := tb i (by omega)
    rw [B_249_43 X (by rw [hA]; split <;> simp), hI, w32_id (a := (i : Int)) (by omega) (by omega), w32_id (a := (k : Int)) (by omega) (by omega), if_neg (by omega), hA]
    have st : (∀ j, j < i + 1 → t j ≠ (c : Int)) ↔ (∀ j, j < i → t j ≠ (c : Int)) ∧ t i ≠ (c : Int) := by
      constructor
      · intro q; exact ⟨fun j hj => q j (by omega), q i (by omega)⟩
      · intro q j hj
        by_cases ej : j = i
        · subst ej; exact q.2
        · exact q.1 j (by omega)
    by_cases cA : (b0 && decide (∀ j, j < i → t j ≠ (c : Int))) = true
    · rw [if_pos cA, show w32 1 = 1 from rfl, if_neg (by decide), Int.toNat_natCast, Int.toNat_natCast, e i (by omega), ek, w32_id (a := t i) (by omega) (by omega), w32_id (a := (c : Int)) (by omega) (by omega)]
      rw [Bool.and_eq_true, decide_eq_true_eq] at cA
      refine ⟨⟨by omega, by omega⟩, ⟨by omega, by omega⟩, ?_⟩
      by_cases eq : t i = (c : Int)
      · rw [if_pos eq]
        exact ih (i + 1) _ _ (by omega) (by rw [if_neg (fun q => by rw [Bool.and_eq_true, decide_eq_true_eq] at q; exact (st.mp q.2).2 eq)]) (by simp)
      · rw [if_neg eq]
        exact ih (i + 1) _ _ (by omega) (by rw [if_pos (by rw [Bool.and_eq_true, decide_eq_true_eq]; exact ⟨cA.1, st.mpr ⟨cA.2, eq⟩⟩)]) (by simp)
    · rw [if_neg cA, w32_0, if_pos rfl]
      refine ih (i + 1) _ _ (by omega) ?_ (by simp)
      rw [if_neg (fun q => cA (by rw [Bool.and_eq_true, decide_eq_true_eq] at q ⊢; exact ⟨q.1, (st.mp q.2).1⟩))]
theorem sp_isBuf {l N k c : Nat} {gp : Nat → Nat} {t : Nat → Int} (H : BfM sh h G n m L l N gp) (hk : k < N) (e : ∀ i, i < k → h 110 i = t i) (tb : ∀ i, i < k → 0 ≤ t i ∧ t i < 10) (ek : h 110 k = (c : Int)) (hc : c < n) (hq : Q (0, if bfOK (fun j => sfM G L n l (gp j)) t k c = true then 1 else 0) sh sl h) : WM sc (d + 3) 249 [(2, 85), (0, (l : Int)), (0, (k : Int)), (0, ((msk (rdP G) n : Nat) : Int))] sh sl h Q := by
  have M := H.1
  have W := M.2.2.2.1
  have hn10 := W.1.2.1
  have hl10 := msk_lt10 (p := rdP G) hn10
  have hN4 := H.2.2.2.1
  have ob : ∀ b0 : Bool, b0 = sfP G L (spA G l (gp k)) (spA G l (gp k + 1)) c → bfOK (fun j => sfM G L n l (gp j)) t k c = (b0 && decide (∀ i, i < k → t i ≠ (c : Int))) := fun b0 hb => by
    unfold bfOK sfM
    rw [msk_bit, decide_eq_true hc, Bool.true_and, hb]
  rw [B_249_0 M.1, w32_id (a := (k : Int)) (by omega) (by omega), Int.toNat_natCast, ek, B_247_0 M.1, bit_nat (by omega) (by omega), msk_bit, decide_eq_true hc, Bool.true_and]
  refine ⟨⟨by omega, by omega⟩, ?_⟩
  by_cases r : rdP G c = true
  case neg =>
    rw [ob false (by unfold sfP; rw [Bool.eq_false_iff.mpr r]; rfl)] at hq
    rw [if_neg r, w32_0, if_pos (by decide)]
    simp only [pushR0]
    rw [B_249_10 M.1, w32_0, if_pos rfl]
    exact lp_isDiff M.1 (by omega) e tb ek (by omega) false hq k 0 _ _ (by omega) rfl rfl
  rw [if_pos r, show w32 1 = 1 from rfl, if_neg (by decide)]
  simp only [pushR0]
  rw [B_249_10 M.1, show w32 1 = 1 from rfl, if_neg (by decide), w32_id (a := (k : Int)) (by omega) (by omega), Int.toNat_natCast, ek, (H.2.2.2.2 k hk).1]
  refine ⟨⟨by omega, by omega⟩, ⟨by omega, by omega⟩, ?_⟩
  refine sp_parts H hk hc r ?_
  simp only [pushR0]
  rw [B_249_30 M.1]
  by_cases p : (lieW G L (spA G l (gp k)) c && lieW G L c (spA G l (gp k + 1))) = true
  · rw [ob true (by unfold sfP; rw [r, p]; rfl)] at hq
    rw [if_pos p, show w32 1 = 1 from rfl, if_neg (by decide)]
    exact lp_isDiff M.1 (by omega) e tb ek (by omega) true hq k 0 _ _ (by omega) (by rw [if_pos (by simp)]) rfl
  · rw [ob false (by unfold sfP; rw [Bool.eq_false_iff.mpr p, Bool.and_false])] at hq
    rw [if_neg p, w32_0, if_pos rfl]
    exact lp_isDiff M.1 (by omega) e tb ek (by omega) false hq k 0 _ _ (by omega) rfl rfl
end BUFM
