/-! ===== Board: what its methods answer (template wip/src, expanded by wip/gen/tmpl.py) ===== -/
/-- a board at b, its row of cells at c -/
def Bd (sh : Shp) (h : Sto) (b c : Int) : Prop := shAt sh b = some (0, 0) ∧ h b.toNat 0 = c ∧ shAt sh c = some (1, 42)
theorem setH_at (h : Sto) (p k : Nat) (v : Int) (q j : Nat) : setH h p k v q j = if q = p then (if j = k then v else h q j) else h q j := rfl
theorem setH_self (h : Sto) (p k : Nat) (v : Int) : setH h p k v p k = v := by simp [setH]
theorem setH_other {h : Sto} {p k : Nat} {v : Int} {q j : Nat} (hn : q ≠ p ∨ j ≠ k) : setH h p k v q j = h q j := by
  unfold setH
  rcases hn with hn | hn
  · rw [if_neg hn]
  · simp [hn]
theorem toNat_lit {a : Int} {n : Nat} (h : a = (n : Int)) : a.toNat = n := by omega
section BOARD
variable {sc : Nat × (Nat → Int)} {d : Nat} {sh : Shp} {sl : Nat} {h : Sto} {Q : Pst} {b c : Int}
theorem sp_today (hB : Bd sh h b c) : WM sc d 29 [(2, b)] sh sl h Q ↔ Q (0, h c.toNat 0) sh sl h := by
  obtain ⟨h1, h2, h3⟩ := hB
  simp only [E_29, R_29_0, R_29_1, R_29_4, R_29_5, R_29_6, h1, h2, true_and, inA_of h3, w32_0, Int.toNat_zero]
  simp
theorem sp_glueOf {s : Int} (hB : Bd sh h b c) (hs : 0 ≤ s ∧ s < 10) : WM sc d 21 [(2, b), (0, s)] sh sl h Q ↔ Q (0, h c.toNat (1 + s).toNat) sh sl h := by
  obtain ⟨h1, h2, h3⟩ := hB
  have e : w32 (1 + s) = 1 + s := w32_id (by omega) (by omega)
  simp only [E_21, R_21_0, R_21_1, R_21_4, R_21_5, R_21_6, R_21_7, R_21_8, h1, h2, true_and, inA_of h3, e]
  exact and_iff_right (by omega)
theorem sp_homeOf {s : Int} (hB : Bd sh h b c) (hs : 0 ≤ s ∧ s < 10) : WM sc d 23 [(2, b), (0, s)] sh sl h Q ↔ Q (0, h c.toNat (11 + s).toNat) sh sl h := by
  obtain ⟨h1, h2, h3⟩ := hB
  have e : w32 (11 + s) = 11 + s := w32_id (by omega) (by omega)
  simp only [E_23, R_23_0, R_23_1, R_23_4, R_23_6, R_23_7, R_23_8, R_23_9, h1, h2, true_and, inA_of h3, e]
  exact and_iff_right (by omega)
theorem sp_sizeOf {s : Int} (hB : Bd sh h b c) (hs : 0 ≤ s ∧ s < 3) : WM sc d 25 [(2, b), (0, s)] sh sl h Q ↔ Q (0, h c.toNat (21 + s).toNat) sh sl h := by
  obtain ⟨h1, h2, h3⟩ := hB
  have e : w32 (21 + s) = 21 + s := w32_id (by omega) (by omega)
  simp only [E_25, R_25_0, R_25_1, R_25_4, R_25_6, R_25_7, R_25_8, R_25_9, h1, h2, true_and, inA_of h3, e]
  exact and_iff_right (by omega)
theorem sp_lateOf {s : Int} (hB : Bd sh h b c) (hs : 0 ≤ s ∧ s < 3) : WM sc d 41 [(2, b), (0, s)] sh sl h Q ↔ Q (0, h c.toNat (39 + s).toNat) sh sl h := by
  obtain ⟨h1, h2, h3⟩ := hB
  have e : w32 (39 + s) = 39 + s := w32_id (by omega) (by omega)
  simp only [E_41, R_41_0, R_41_1, R_41_4, R_41_6, R_41_7, R_41_8, R_41_9, h1, h2, true_and, inA_of h3, e]
  exact and_iff_right (by omega)
theorem sp_stampAt {l i : Int} (hB : Bd sh h b c) (hl : 0 ≤ l ∧ l < 3) (hi : 0 ≤ i ∧ i < 5) : WM sc d 26 [(2, b), (0, l), (0, i)] sh sl h Q ↔ Q (0, h c.toNat (24 + l * 5 + i).toNat) sh sl h := by
  obtain ⟨h1, h2, h3⟩ := hB
  have e : w32 (24 + l * 5 + i) = 24 + l * 5 + i := w32_id (by omega) (by omega)
  simp only [E_26, R_26_0, R_26_1, R_26_4, R_26_6, R_26_7, R_26_8, R_26_9, R_26_10, R_26_11, R_26_12, R_26_13, h1, h2, true_and, inA_of h3, e]
  exact and_iff_right (by omega)
theorem sp_setDay {x : Int} (hB : Bd sh h b c) : WM sc d 47 [(2, b), (0, x)] sh sl h Q ↔ Q (9, 0) sh sl (setH h c.toNat 0 x) := by
  obtain ⟨h1, h2, h3⟩ := hB
  simp only [E_47, R_47_0, R_47_1, R_47_4, R_47_5, R_47_6, R_47_7, h1, h2, true_and, inA_of h3, w32_0, Int.toNat_zero]
  simp
theorem sp_setGlue {s x : Int} (hB : Bd sh h b c) (hs : 0 ≤ s ∧ s < 10) : WM sc d 16 [(2, b), (0, s), (0, x)] sh sl h Q ↔ Q (9, 0) sh sl (setH h c.toNat (1 + s).toNat x) := by
  obtain ⟨h1, h2, h3⟩ := hB
  have e : w32 (1 + s) = 1 + s := w32_id (by omega) (by omega)
  simp only [E_16, R_16_0, R_16_1, R_16_4, R_16_5, R_16_6, R_16_7, R_16_8, R_16_9, h1, h2, true_and, inA_of h3, e]
  exact and_iff_right (by omega)
theorem sp_setHome {s x : Int} (hB : Bd sh h b c) (hs : 0 ≤ s ∧ s < 10) : WM sc d 17 [(2, b), (0, s), (0, x)] sh sl h Q ↔ Q (9, 0) sh sl (setH h c.toNat (11 + s).toNat x) := by
  obtain ⟨h1, h2, h3⟩ := hB
  have e : w32 (11 + s) = 11 + s := w32_id (by omega) (by omega)
  simp only [E_17, R_17_0, R_17_1, R_17_4, R_17_6, R_17_7, R_17_8, R_17_9, R_17_10, h1, h2, true_and, inA_of h3, e]
  exact and_iff_right (by omega)
theorem sp_setSize {s x : Int} (hB : Bd sh h b c) (hs : 0 ≤ s ∧ s < 3) : WM sc d 34 [(2, b), (0, s), (0, x)] sh sl h Q ↔ Q (9, 0) sh sl (setH h c.toNat (21 + s).toNat x) := by
  obtain ⟨h1, h2, h3⟩ := hB
  have e : w32 (21 + s) = 21 + s := w32_id (by omega) (by omega)
  simp only [E_34, R_34_0, R_34_1, R_34_4, R_34_6, R_34_7, R_34_8, R_34_9, R_34_10, h1, h2, true_and, inA_of h3, e]
  exact and_iff_right (by omega)
theorem sp_setLate {s x : Int} (hB : Bd sh h b c) (hs : 0 ≤ s ∧ s < 3) : WM sc d 35 [(2, b), (0, s), (0, x)] sh sl h Q ↔ Q (9, 0) sh sl (setH h c.toNat (39 + s).toNat x) := by
  obtain ⟨h1, h2, h3⟩ := hB
  have e : w32 (39 + s) = 39 + s := w32_id (by omega) (by omega)
  simp only [E_35, R_35_0, R_35_1, R_35_4, R_35_6, R_35_7, R_35_8, R_35_9, R_35_10, h1, h2, true_and, inA_of h3, e]
  exact and_iff_right (by omega)
theorem sp_setStampAt {l i x : Int} (hB : Bd sh h b c) (hl : 0 ≤ l ∧ l < 3) (hi : 0 ≤ i ∧ i < 5) : WM sc d 91 [(2, b), (0, l), (0, i), (0, x)] sh sl h Q ↔ Q (9, 0) sh sl (setH h c.toNat (24 + l * 5 + i).toNat x) := by
  obtain ⟨h1, h2, h3⟩ := hB
  have e : w32 (24 + l * 5 + i) = 24 + l * 5 + i := w32_id (by omega) (by omega)
  simp only [E_91, R_91_0, R_91_1, R_91_4, R_91_6, R_91_7, R_91_8, R_91_9, R_91_10, R_91_11, R_91_12, R_91_13, R_91_14, h1, h2, true_and, inA_of h3, e]
  exact and_iff_right (by omega)
/-- the LETTER or NONE -/
theorem sp_letterOf {s : Int} (hB : Bd sh h b c) (hs : 0 ≤ s ∧ s < 10) (hr : -2 ≤ h c.toNat (11 + s).toNat ∧ h c.toNat (11 + s).toNat < 3) : WM sc (d + 1) 22 [(2, b), (0, s)] sh sl h Q ↔ Q (0, if h c.toNat (11 + s).toNat < -1 then -1 else h c.toNat (11 + s).toNat) sh sl h := by
  have h1 := hB.1
  have e : w32 (h c.toNat (11 + s).toNat) = h c.toNat (11 + s).toNat := w32_id (by omega) (by omega)
  have e2 : w32 (-1) = -1 := rfl
  simp only [E_22, R_22_0, R_22_1, R_22_2, R_22_5, R_22_6, R_22_9, h1, true_and, sp_homeOf hB hs, pushR0, e, e2, wgt_nil]
  simp
/-- the first spot from i on that holds s, before n -/
def spotF (f : Nat → Int) (s : Int) (n : Nat) : Nat → Int
  | 0 => -1
  | k + 1 => if f (n - (k + 1)) = s then ((n - (k + 1) : Nat) : Int) else spotF f s n k
theorem lp_spotOf {s l : Int} (hB : Bd sh h b c) (hl : 0 ≤ l ∧ l < 3) (hs : 0 ≤ s ∧ s < 10) (n : Nat) (hn : h c.toNat (21 + l).toNat = (n : Int)) (hn5 : n ≤ 5) (hf : ∀ i : Nat, i < n → 0 ≤ h c.toNat (24 + l * 5 + i).toNat ∧ h c.toNat (24 + l * 5 + i).toNat < 10) :
    ∀ (k i : Nat), i + k = n → (WF sc (d + 1) 24 15 [(2, b), (0, s), (0, l), (0, (i : Int))] [] sh sl h Q ↔ Q (0, spotF (fun j => h c.toNat (24 + l * 5 + j).toNat) s n k) sh sl h) := by
  intro k
  induction k with
  | zero =>
    intro i hi
    have e1 : w32 (i : Int) = i := w32_id (by omega) (by omega)
    have e2 : w32 (n : Int) = n := w32_id (by omega) (by omega)
    have hni : (n : Int) ≤ i := by omega
    simp only [R_24_0, R_24_1, R_24_2, R_24_5, R_24_6, R_24_7, R_24_8, R_24_11, R_24_12, R_24_13, R_24_14, R_24_15, R_24_16, R_24_17, R_24_18, R_24_21, R_24_24, R_24_25, R_24_26, R_24_27, R_24_30, R_24_31, R_24_34, R_24_35, R_24_36, R_24_39, R_24_42, R_24_43, hB.1, true_and, sp_sizeOf hB hl, pushR0, hn, wgt_0, wgt_nil, e1, e2, if_pos hni, spotF]
    simp
  | succ k ih =>
    intro i hi
    have e1 : w32 (i : Int) = i := w32_id (by omega) (by omega)
    have e2 : w32 (n : Int) = n := w32_id (by omega) (by omega)
    have hni : ¬ (n : Int) ≤ i := by omega
    have hfi := hf i (by omega)
    have e3 : w32 (h c.toNat (24 + l * 5 + i).toNat) = h c.toNat (24 + l * 5 + i).toNat := w32_id (by omega) (by omega)
    have e4 : w32 s = s := w32_id (by omega) (by omega)
    rw [R_24_15]
    simp only [R_24_0, R_24_1, R_24_2, R_24_5, R_24_6, R_24_7, R_24_8, R_24_11, R_24_12, R_24_13, R_24_14, R_24_16, R_24_17, R_24_18, R_24_21, R_24_24, R_24_25, R_24_26, R_24_27, R_24_30, R_24_31, R_24_34, R_24_35, R_24_36, R_24_39, R_24_42, R_24_43, hB.1, true_and, sp_sizeOf hB hl, sp_stampAt hB hl (i := (i : Int)) (by omega), pushR0, hn, wgt_0, wgt_nil, e1, e2, e3, e4, if_neg hni, spotF, nl0]
    have hk : n - (k + 1) = i := by omega
    rw [hk]
    by_cases hc : h c.toNat (24 + l * 5 + i).toNat = s
    · simp [hc]
    · simp only [hc, not_false_eq_true, if_true, if_false]
      have := ih (i + 1) (by omega)
      rw [Int.natCast_add] at this
      simp only [Int.natCast_one] at this
      simpa using this
theorem sp_spotOf {s : Int} (hB : Bd sh h b c) (hs : 0 ≤ s ∧ s < 10) (hr : -2 ≤ h c.toNat (11 + s).toNat ∧ h c.toNat (11 + s).toNat < 3)
    (hz : ∀ l : Int, 0 ≤ l → l < 3 → 0 ≤ h c.toNat (21 + l).toNat ∧ h c.toNat (21 + l).toNat ≤ 5 ∧ ∀ i : Nat, (i : Int) < h c.toNat (21 + l).toNat → 0 ≤ h c.toNat (24 + l * 5 + i).toNat ∧ h c.toNat (24 + l * 5 + i).toNat < 10) :
    WM sc (d + 2) 24 [(2, b), (0, s)] sh sl h Q ↔ Q (0, if h c.toNat (11 + s).toNat < 0 then -1 else spotF (fun j => h c.toNat (24 + h c.toNat (11 + s).toNat * 5 + j).toNat) s (h c.toNat (21 + h c.toNat (11 + s).toNat).toNat).toNat (h c.toNat (21 + h c.toNat (11 + s).toNat).toNat).toNat) sh sl h := by
  have e2 : w32 (-1) = -1 := rfl
  simp only [E_24, R_24_0, R_24_1, R_24_2, R_24_5, R_24_6, R_24_7, R_24_8, R_24_11, R_24_12, R_24_13, R_24_14, R_24_16, R_24_17, R_24_18, R_24_21, R_24_24, R_24_25, R_24_26, R_24_27, R_24_30, R_24_31, R_24_34, R_24_35, R_24_36, R_24_39, R_24_42, R_24_43, hB.1, true_and, sp_letterOf hB hs hr, pushR0, wgt_nil, e2, nl0]
  generalize hg : h c.toNat (11 + s).toNat = g at *
  by_cases hneg : g < 0
  · have : (if g < -1 then -1 else g) = -1 := by split <;> omega
    rw [this]
    simp [e2, hneg]
  · have e3 : (if g < -1 then -1 else g) = g := by rw [if_neg (by omega)]
    have e4 : w32 g = g := w32_id (by omega) (by omega)
    rw [e3]
    simp only [e4, if_neg hneg]
    have hne : ¬ g = -1 := by omega
    obtain ⟨z1, z2, z3⟩ := hz g (by omega) (by omega)
    have := lp_spotOf (sc := sc) (d := d + 1) (sl := sl) (Q := Q) hB (l := g) (by omega) hs (h c.toNat (21 + g).toNat).toNat (by omega) (by omega) (fun i hi => z3 i (by omega)) (h c.toNat (21 + g).toNat).toNat 0 (by omega)
    simp only [hne, not_false_eq_true, if_true]
    simpa using this
end BOARD
