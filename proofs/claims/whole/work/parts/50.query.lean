/-! ===== questions: count, of, at, asks ===== -/
def inP (G : Nat → Int) : Nat → Bool := fun s => decide (G (8 + s) = -1)
def spotL (f : Nat → Int) (s : Int) : Nat → Int
  | 0 => -1
  | k + 1 => if f k = s then (k : Int) else spotL f s k
theorem spotF_spec {f : Nat → Int} {s : Int} {n : Nat} : ∀ k, k ≤ n → (∃ i, n - k ≤ i ∧ i < n ∧ f i = s ∧ spotF f s n k = i) ∨ ((∀ i, n - k ≤ i → i < n → f i ≠ s) ∧ spotF f s n k = -1) := by
  intro k
  induction k with
  | zero => intro _; exact Or.inr ⟨fun i h1 h2 => by omega, rfl⟩
  | succ k ih =>
    intro hk
    simp only [spotF]
    by_cases he : f (n - (k + 1)) = s
    · rw [if_pos he]; exact Or.inl ⟨n - (k + 1), by omega, by omega, he, rfl⟩
    · rw [if_neg he]
      rcases ih (by omega) with ⟨i, h1, h2, h3, h4⟩ | ⟨h1, h2⟩
      · exact Or.inl ⟨i, by omega, h2, h3, h4⟩
      · refine Or.inr ⟨fun i h3 h4 => ?_, h2⟩
        by_cases e : i = n - (k + 1)
        · rw [e]; exact he
        · exact h1 i (by omega) h4
theorem spotL_spec {f : Nat → Int} {s : Int} : ∀ n, (∃ i, i < n ∧ f i = s ∧ spotL f s n = i) ∨ ((∀ i, i < n → f i ≠ s) ∧ spotL f s n = -1) := by
  intro n
  induction n with
  | zero => exact Or.inr ⟨fun i h => by omega, rfl⟩
  | succ n ih =>
    simp only [spotL]
    by_cases he : f n = s
    · rw [if_pos he]; exact Or.inl ⟨n, by omega, he, rfl⟩
    · rw [if_neg he]
      rcases ih with ⟨i, h1, h2, h3⟩ | ⟨h1, h2⟩
      · exact Or.inl ⟨i, by omega, h2, h3⟩
      · refine Or.inr ⟨fun i h3 => ?_, h2⟩
        by_cases e : i = n
        · rw [e]; exact he
        · exact h1 i (by omega)
theorem spot_eq {f : Nat → Int} {s : Int} {n : Nat} (hd : ∀ i k, i < k → k < n → f i ≠ f k) : spotF f s n n = spotL f s n := by
  rcases spotF_spec (f := f) (s := s) n (Nat.le_refl n) with ⟨i, h1, h2, h3, h4⟩ | ⟨h1, h2⟩
  · rcases spotL_spec (f := f) (s := s) n with ⟨j, g1, g2, g3⟩ | ⟨g1, g2⟩
    · have : i = j := by
        rcases Nat.lt_trichotomy i j with q | q | q
        · exact absurd (h3.trans g2.symm) (hd i j q g1)
        · exact q
        · exact absurd (g2.trans h3.symm) (hd j i q h2)
      rw [h4, g3, this]
    · exact absurd h3 (g1 i h2)
  · rcases spotL_spec (f := f) (s := s) n with ⟨j, g1, g2, g3⟩ | ⟨g1, g2⟩
    · exact absurd g2 (h1 j (by omega) g1)
    · rw [h2, g2]
theorem spotL_congr {f g : Nat → Int} {s : Int} : ∀ n, (∀ i, i < n → f i = g i) → spotL f s n = spotL g s n := by
  intro n
  induction n with
  | zero => intro _; rfl
  | succ n ih => intro h; simp only [spotL]; rw [h n (by omega), ih (fun i hi => h i (by omega))]
theorem spotL_bd {f : Nat → Int} {s : Int} {n : Nat} : -1 ≤ spotL f s n ∧ spotL f s n < n := by
  rcases spotL_spec (f := f) (s := s) n with ⟨i, h1, h2, h3⟩ | ⟨h1, h2⟩ <;> omega
/-- where a STAMP lies in its row -/
def spotA (G : Nat → Int) (m s : Nat) : Int := if 0 ≤ G (8 + s) ∧ G (8 + s) < m then spotL (fun i => G (34 + 5 * (G (8 + s)).toNat + i)) s (G (31 + (G (8 + s)).toNat)).toNat else -1
section SPOT2
variable {sc : Nat × (Nat → Int)} {d : Nat} {sh : Shp} {sl : Nat} {h : Sto} {Q : Pst} {b c : Int}
theorem sp_spotOf2 {s : Int} (hB : Bd sh h b c) (hs : 0 ≤ s ∧ s < 10) (hr : -2 ≤ h c.toNat (11 + s).toNat ∧ h c.toNat (11 + s).toNat < 3)
    (hz : 0 ≤ h c.toNat (11 + s).toNat → 0 ≤ h c.toNat (21 + h c.toNat (11 + s).toNat).toNat ∧ h c.toNat (21 + h c.toNat (11 + s).toNat).toNat ≤ 5 ∧ ∀ i : Nat, (i : Int) < h c.toNat (21 + h c.toNat (11 + s).toNat).toNat → 0 ≤ h c.toNat (24 + h c.toNat (11 + s).toNat * 5 + i).toNat ∧ h c.toNat (24 + h c.toNat (11 + s).toNat * 5 + i).toNat < 10) :
    WM sc (d + 2) 24 [(2, b), (0, s)] sh sl h Q ↔ Q (0, if h c.toNat (11 + s).toNat < 0 then -1 else spotF (fun j => h c.toNat (24 + h c.toNat (11 + s).toNat * 5 + j).toNat) s (h c.toNat (21 + h c.toNat (11 + s).toNat).toNat).toNat (h c.toNat (21 + h c.toNat (11 + s).toNat).toNat).toNat) sh sl h := by
  have e2 : w32 (-1) = -1 := rfl
  simp only [E_24, R_24_0, R_24_1, R_24_2, R_24_5, R_24_6, R_24_7, R_24_8, R_24_11, R_24_12, R_24_13, R_24_14, R_24_16, R_24_17, R_24_18, R_24_21, R_24_24, R_24_25, R_24_26, R_24_27, R_24_30, R_24_31, R_24_34, R_24_35, R_24_36, R_24_39, R_24_42, R_24_43, hB.1, true_and, sp_letterOf hB hs hr, pushR0, wgt_nil, e2, nl0]
  generalize hg : h c.toNat (11 + s).toNat = g at *
  by_cases hneg : g < 0
  · have : (if g < -1 then -1 else g) = -1 := by split <;> omega
    rw [this]
    simp [e2, hneg]
  · have e3 : (if g < -1 then -1 else g) = g := by rw [if_neg (by omega)]
    have e4 : w32 g = g := w32_id (by omega) (by omega)
    rw [e3]
    simp only [e4, if_neg hneg]
    have hne : ¬ g = -1 := by omega
    obtain ⟨z1, z2, z3⟩ := hz (by omega)
    have := lp_spotOf (sc := sc) (d := d + 1) (sl := sl) (Q := Q) hB (l := g) (by omega) hs (h c.toNat (21 + g).toNat).toNat (by omega) (by omega) (fun i hi => z3 i (by omega)) (h c.toNat (21 + g).toNat).toNat 0 (by omega)
    simp only [hne, not_false_eq_true, if_true]
    simpa using this
end SPOT2
section QUERY
variable {sc : Nat × (Nat → Int)} {d : Nat} {sh : Shp} {sl : Nat} {h : Sto} {Q : Pst} {G : Nat → Int} {n m : Nat} {L : List Law}
theorem lp_inSheet (X : Fix sh h) (hn : h 1 0 = (n : Int)) (hn10 : n ≤ 10) (hp : ∀ s, s < n → (w32 (h 10 (11 + s)) = -1 ↔ inP G s = true)) (hq : Q (0, (cnt (inP G) n : Int)) sh sl h) : ∀ (rem s : Nat) (A S : Int), s + rem = n → A = cnt (inP G) s → S = s → WF sc (d + 2) 87 4 [(2, 1), (0, A), (0, S)] [] sh sl h Q := by
  intro rem
  induction rem with
  | zero =>
    intro s A S hs hA hS
    subst hA hS
    have : s = n := by omega
    subst this
    rw [B_87_4 X, hn, w32_id (a := (s : Int)) (by omega) (by omega), if_pos (by omega)]; exact hq
  | succ rem ih =>
    intro s A S hs hA hS
    subst hA hS
    rw [B_87_4 X, hn, w32_id (a := (n : Int)) (by omega) (by omega), w32_id (a := (s : Int)) (by omega) (by omega), if_neg (by omega)]
    refine (bn_homeOf (b := 9) (c := 10) X.bd (show s < 10 by omega)).mpr ?_
    simp only [pushR0]
    rw [B_87_20 X]
    by_cases he : inP G s = true
    · rw [if_neg (by simpa using (hp s (by omega)).mpr he)]
      exact ih (s + 1) _ _ (by omega) (by simp only [cnt]; rw [if_pos he]; simp) (by simp)
    · rw [if_pos (fun e => he ((hp s (by omega)).mp e))]
      exact ih (s + 1) _ _ (by omega) (by simp only [cnt]; rw [if_neg he]) (by simp)
theorem home_in {f : Nat → Int} (R : BR f G n m) (B : BW G n m) (hm : m ≤ 3) {s : Nat} (hs : s < n) : w32 (f (11 + s)) = -1 ↔ inP G s = true := by
  have r := (R.2.1 s hs).2
  have b := (B.2.1 s hs).2
  unfold inP
  rw [r, decide_eq_true_iff]
  split
  · rw [show w32 (-2) = -2 from rfl]; omega
  · rw [w32_id (by omega) (by omega)]
theorem sp_inSheet (X : Fix sh h) (hn : h 1 0 = (n : Int)) (R : BR (h 10) G n m) (B : BW G n m) (hn10 : n ≤ 10) (hm : m ≤ 3) (hq : Q (0, (cnt (inP G) n : Int)) sh sl h) : WM sc (d + 2) 87 [(2, 1)] sh sl h Q := by
  rw [B_87_0 X]
  exact lp_inSheet X hn hn10 (fun s hs => home_in R B hm hs) hq n 0 _ _ (by omega) rfl rfl
theorem lp_minSheet (X : Fix sh h) (hG : h 87 = G) (hn : G 0 = (n : Int)) (hn10 : n ≤ 10) (B : BW G n m) (hm : m ≤ 3) (hq : Q (0, (msk (inP G) n : Int)) sh sl h) : ∀ (rem s : Nat) (A S : Int), s + rem = n → A = (msk (inP G) s : Int) → S = s → WF sc (d + 1) 244 4 [(2, 85), (0, A), (0, S)] [] sh sl h Q := by
  intro rem
  induction rem with
  | zero =>
    intro s A S hs hA hS
    subst hA hS
    have : s = n := by omega
    subst this
    rw [B_244_4 X, hG, hn, w32_id (a := (s : Int)) (by omega) (by omega), if_pos (by omega)]; exact hq
  | succ rem ih =>
    intro s A S hs hA hS
    subst hA hS
    have b := (B.2.1 s (by omega)).2
    have hl := msk_lt10 (p := inP G) (k := s) (by omega)
    rw [B_244_4 X, hG, hn, w32_id (a := (n : Int)) (by omega) (by omega), w32_id (a := (s : Int)) (by omega) (by omega), if_neg (by omega), w32_nat (a := 8 + (s : Int)) (n := 8 + s) (by omega) (by omega), Int.toNat_natCast, w32_id (a := G (8 + s)) (by omega) (by omega)]
    refine ⟨⟨by omega, by omega⟩, ?_⟩
    by_cases he : G (8 + s) = -1
    · have hp : inP G s = true := by unfold inP; simpa using he
      rw [if_neg (by simpa using he), setbit hl (by omega)]
      exact ih (s + 1) _ _ (by omega) (by simp only [msk]; rw [if_pos hp]) (by simp)
    · have hp : ¬ inP G s = true := by unfold inP; simpa using he
      rw [if_pos he, show (0 : Int) = ((0 : Nat) : Int) from rfl, ior_nat (by omega) (by omega), Nat.or_zero]
      exact ih (s + 1) _ _ (by omega) (by simp only [msk]; rw [if_neg hp]) (by simp)
theorem sp_minSheet (X : Fix sh h) (hG : h 87 = G) (hn : G 0 = (n : Int)) (hn10 : n ≤ 10) (B : BW G n m) (hm : m ≤ 3) (hq : Q (0, (msk (inP G) n : Int)) sh sl h) : WM sc (d + 1) 244 [(2, 85)] sh sl h Q := by
  rw [B_244_0 X]
  exact lp_minSheet X hG hn hn10 B hm hq n 0 _ _ (by omega) rfl rfl
theorem lp_ones {a : Nat} (X : Fix sh h) (ha : a < 1024) (hq : Q (0, (cnt a.testBit 10 : Int)) sh sl h) : ∀ (rem s : Nat) (A S : Int), s + rem = 10 → A = (cnt a.testBit s : Int) → S = s → WF sc (d + 1) 262 4 [(0, (a : Int)), (0, A), (0, S)] [] sh sl h Q := by
  intro rem
  induction rem with
  | zero =>
    intro s A S hs hA hS
    subst hA hS
    have : s = 10 := by omega
    subst this
    rw [B_262_4 X, w32_id (a := ((10 : Nat) : Int)) (by omega) (by omega), if_pos (by omega)]; exact hq
  | succ rem ih =>
    intro s A S hs hA hS
    subst hA hS
    rw [B_262_4 X, w32_id (a := (s : Int)) (by omega) (by omega), if_neg (by omega), bit_nat (by omega) (by omega)]
    refine ih (s + 1) _ _ (by omega) ?_ (by simp)
    simp only [cnt]
    by_cases he : a.testBit s = true
    · rw [if_pos he, if_pos he]; simp
    · rw [if_neg he, if_neg he]; simp
theorem sp_ones {a : Nat} (X : Fix sh h) (ha : a < 1024) (hq : Q (0, (cnt a.testBit 10 : Int)) sh sl h) : WM sc (d + 1) 262 [(0, (a : Int))] sh sl h Q := by
  rw [B_262_0 X]
  exact lp_ones X ha hq 10 0 _ _ (by omega) rfl rfl
theorem cnt_msk {p : Nat → Bool} {n : Nat} (hn : n ≤ 10) : cnt (msk p n).testBit 10 = cnt p n := by
  rw [cnt_beyond (n := n) 10 hn (fun i hi => by rw [msk_bit]; simp; omega)]
  exact cnt_congr n (fun i hi => by rw [msk_bit]; simp [hi])
/-- where a STAMP lies, asked of the class -/
theorem sp_cspot {s c b : Nat} (hB : Bd sh h (b : Int) (c : Int)) (R : BR (h c) G n m) (B : BW G n m) (hn10 : n ≤ 10) (hm : m ≤ 3) (hs : s < n) : WM sc (d + 2) 24 [(2, (b : Int)), (0, (s : Int))] sh sl h Q ↔ Q (0, spotA G m s) sh sl h := by
  have r := (R.2.1 s hs).2
  have bw := (B.2.1 s hs).2
  have e1 : ((11 : Int) + s).toNat = 11 + s := by omega
  rw [sp_spotOf2 hB ⟨by omega, by omega⟩ (by rw [Int.toNat_natCast, e1, r]; split <;> omega) ?_]
  · rw [Int.toNat_natCast, e1, r]
    unfold spotA
    by_cases h9 : G (8 + s) = 9
    · rw [if_pos h9, if_pos (by decide), if_neg (by omega)]
    · rw [if_neg h9]
      by_cases h0 : 0 ≤ G (8 + s)
      · rw [if_neg (by omega), if_pos (by omega)]
        generalize hl : (G (8 + s)).toNat = l at *
        have hl1 : G (8 + s) = (l : Int) := by omega
        have hlm : l < m := by omega
        have sz := (R.2.2.1 l hlm).1
        have bz := B.2.2.1 l hlm
        rw [hl1, show ((21 : Int) + l).toNat = 21 + l by omega, sz, spot_eq ?_]
        · rw [spotL_congr (g := fun i => G (34 + 5 * l + i)) _ ?_]
          intro i hi
          show h c ((24 : Int) + l * 5 + i).toNat = _
          rw [show ((24 : Int) + l * 5 + i).toNat = 24 + 5 * l + i by omega]
          exact R.2.2.2 l i hlm (by omega)
        · intro i k hik hk
          show h c ((24 : Int) + l * 5 + i).toNat ≠ h c ((24 : Int) + l * 5 + k).toNat
          rw [show ((24 : Int) + l * 5 + i).toNat = 24 + 5 * l + i by omega, show ((24 : Int) + l * 5 + k).toNat = 24 + 5 * l + k by omega, R.2.2.2 l i hlm (by omega), R.2.2.2 l k hlm (by omega)]
          exact B.2.2.2.2 l i k hlm hik (by omega)
      · rw [if_pos (by omega), if_neg (by omega)]
  · rw [Int.toNat_natCast, e1, r]
    intro h0
    have h9 : ¬ G (8 + s) = 9 := by intro e; rw [if_pos e] at h0; omega
    rw [if_neg h9] at h0 ⊢
    obtain ⟨l, hl⟩ : ∃ l : Nat, G (8 + s) = l := ⟨(G (8 + s)).toNat, by omega⟩
    have hlm : l < m := by omega
    have sz := (R.2.2.1 l hlm).1
    have bz := B.2.2.1 l hlm
    rw [hl, show ((21 : Int) + l).toNat = 21 + l by omega, sz]
    refine ⟨bz.2.1, bz.2.2, fun i hi => ?_⟩
    rw [show ((24 : Int) + l * 5 + i).toNat = 24 + 5 * l + i by omega, R.2.2.2 l i hlm hi]
    obtain ⟨u, u1, u2, u3⟩ := B.2.2.2.1 l i hlm hi
    omega
theorem lp_mspot {s : Nat} (X : Fix sh h) (hG : h 87 = G) (W : SW G n m L) (B : BW G n m) (hs : s < n) (l : Nat) (hl : l < m) (hq : Q (0, spotL (fun i => G (34 + 5 * l + i)) s (G (31 + l)).toNat) sh sl h) : ∀ (rem i : Nat) (A I : Int), i + rem = (G (31 + l)).toNat → A = spotL (fun i => G (34 + 5 * l + i)) s i → I = i → WF sc (d + 3) 169 15 [(2, 85), (0, (s : Int)), (0, (l : Int)), (0, A), (0, I)] [] sh sl h Q := by
  have hm3 := W.1.2.2.2.1
  have hn10 := W.1.2.1
  have bz := B.2.2.1 l hl
  intro rem
  induction rem with
  | zero =>
    intro i A I hi hA hI
    subst hA hI
    have : i = (G (31 + l)).toNat := by omega
    rw [B_169_15 X, sp_mLetter (m := m) X ⟨by omega, by omega⟩ (by rw [hG]; exact W.1.2.2.1) hm3, if_pos (by omega)]
    simp only [pushR0]
    rw [B_169_20 X, show w32 1 = 1 from rfl, if_neg (by decide), w32_nat (a := 31 + (l : Int)) (n := 31 + l) (by omega) (by omega), Int.toNat_natCast, hG, w32_id (a := G (31 + l)) (by omega) (by omega), w32_id (a := (i : Int)) (by omega) (by omega), if_pos (by omega), this]
    exact ⟨⟨by omega, by omega⟩, hq⟩
  | succ rem ih =>
    intro i A I hi hA hI
    subst hA hI
    have sp := B.sp (i := i) hl (by omega)
    rw [B_169_15 X, sp_mLetter (m := m) X ⟨by omega, by omega⟩ (by rw [hG]; exact W.1.2.2.1) hm3, if_pos (by omega)]
    simp only [pushR0]
    rw [B_169_20 X, show w32 1 = 1 from rfl, if_neg (by decide), w32_nat (a := 31 + (l : Int)) (n := 31 + l) (by omega) (by omega), Int.toNat_natCast, hG, w32_id (a := G (31 + l)) (by omega) (by omega), w32_id (a := (i : Int)) (by omega) (by omega), if_neg (by omega), sp_mstampAt X rfl rfl (by omega) (show i < 5 by omega), hG]
    refine ⟨⟨by omega, by omega⟩, ?_⟩
    simp only [pushR0]
    rw [B_169_44 X, w32_id (a := G (34 + 5 * l + i)) (by omega) (by omega), w32_id (a := (s : Int)) (by omega) (by omega)]
    by_cases he : G (34 + 5 * l + i) = s
    · rw [if_neg (by simpa using he)]
      exact ih (i + 1) _ _ (by omega) (by simp only [spotL]; rw [if_pos he]) (by simp)
    · rw [if_pos he]
      exact ih (i + 1) _ _ (by omega) (by simp only [spotL]; rw [if_neg he]) (by simp)
theorem sp_mspot {s : Nat} (X : Fix sh h) (hG : h 87 = G) (W : SW G n m L) (B : BW G n m) (hs : s < n) (hq : Q (0, spotA G m s) sh sl h) : WM sc (d + 3) 169 [(2, 85), (0, (s : Int))] sh sl h Q := by
  have hm3 := W.1.2.2.2.1
  have hn10 := W.1.2.1
  have bw := (B.2.1 s hs).2
  rw [B_169_0 X, w32_nat (a := 8 + (s : Int)) (n := 8 + s) (by omega) (by omega), Int.toNat_natCast, hG]
  refine ⟨⟨by omega, by omega⟩, ?_⟩
  unfold spotA at hq
  by_cases h0 : 0 ≤ G (8 + s) ∧ G (8 + s) < m
  · rw [if_pos h0] at hq
    generalize hl : (G (8 + s)).toNat = l at *
    have hl1 : G (8 + s) = (l : Int) := by omega
    rw [hl1]
    exact lp_mspot X hG W B hs l (by omega) hq (G (31 + l)).toNat 0 _ _ (by omega) rfl rfl
  · rw [if_neg h0] at hq
    rw [B_169_15 X, sp_mLetter (m := m) X ⟨by omega, by omega⟩ (by rw [hG]; exact W.1.2.2.1) hm3, if_neg h0]
    simp only [pushR0]
    rw [B_169_20 X, w32_0, if_pos rfl]; exact hq
end QUERY
