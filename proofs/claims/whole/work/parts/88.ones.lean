section ONES
variable {sc : Nat × (Nat → Int)} {d : Nat} {sh : Shp} {sl : Nat} {h : Sto} {Q : Pst}
def bcE (x0 : Int) : Int :=
  let x1 := x0 - iand (iushr x0 1) 1431655765
  let x2 := iand x1 858993459 + iand (iushr x1 2) 858993459
  let x3 := iand (x2 + iushr x2 4) 252645135
  let x4 := x3 + iushr x3 8
  let x5 := x4 + iushr x4 16
  iand x5 63
theorem sp_bitCount {x : Int} : WM sc d 141 [(0, x)] sh sl h Q ↔ Q (0, bcE x) sh sl h := by
  simp only [E_141, R_141_0, R_141_1, R_141_2, R_141_3, R_141_4, R_141_7, R_141_8, R_141_9, R_141_10, R_141_11, R_141_14, R_141_15, R_141_16, R_141_17, R_141_18, R_141_21, R_141_22, R_141_23, R_141_24, R_141_25, R_141_26, R_141_27, R_141_28, R_141_29, R_141_32, R_141_33, R_141_34, R_141_35, R_141_36, R_141_38, R_141_39, R_141_40, R_141_41, R_141_42, R_141_43, R_141_45, R_141_46, R_141_47, R_141_48, R_141_49, R_141_51, R_141_52, pushR0]
  rfl
theorem bc_ok : ∀ k : Fin 1024, bcE ((k : Nat) : Int) = ((cnt (k : Nat).testBit 10 : Nat) : Int) := by decide +kernel
theorem sp_bits {a : Nat} (ha : a < 1024) : WM sc d 141 [(0, (a : Int))] sh sl h Q ↔ Q (0, ((cnt a.testBit 10 : Nat) : Int)) sh sl h := by
  have e := bc_ok ⟨a, ha⟩
  simp only at e
  rw [sp_bitCount, e]
def okB (T : Nat → Int) : Nat → Bool
  | 0 => true
  | k + 1 => okB T k && decide (T (k + 1) ≤ 5)
theorem okB_iff {T : Nat → Int} : ∀ f, okB T f = true ↔ ∀ j, 1 ≤ j → j ≤ f → T j ≤ 5 := by
  intro f
  induction f with
  | zero => exact ⟨fun _ j h1 h2 => by omega, fun _ => rfl⟩
  | succ f ih =>
    simp only [okB, Bool.and_eq_true, decide_eq_true_eq, ih]
    constructor
    · intro ⟨a, b⟩ j h1 h2
      by_cases e : j = f + 1
      · subst e; exact b
      · exact a j h1 (by omega)
    · intro a
      exact ⟨fun j h1 h2 => a j h1 (by omega), a (f + 1) (by omega) (by omega)⟩
theorem lp_mkall {f : Nat} {T : Nat → Int} (X : Fix sh h) (hf : f ≤ 60) (e : ∀ j, 1 ≤ j → j ≤ f → h 114 j = T j) (tb : ∀ j, j ≤ f → 0 ≤ T j ∧ T j ≤ 100000000) (hq : Q (0, if okB T f = true then 1 else 0) sh sl h) : ∀ (rem k : Nat) (A S : Int), k + rem = f → A = (if okB T k = true then 1 else 0) → S = (k : Int) + 1 → WF sc (d + 1) 264 4 [(2, 85), (0, (f : Int)), (0, A), (0, S)] [] sh sl h Q := by
  intro rem
  induction rem with
  | zero =>
    intro k A S hk hA hS
    subst hS hA
    have hkf : k = f := by omega
    subst hkf
    rw [B_264_4 X (by split <;> simp), w32_id (a := (k : Int)) (by omega) (by omega), w32_id (a := (k : Int) + 1) (by omega) (by omega), if_pos (by omega)]
    exact hq
  | succ rem ih =>
    intro k A S hk hA hS
    subst hS hA
    have t1 := tb (k + 1) (by omega)
    rw [B_264_4 X (by split <;> simp), w32_id (a := (f : Int)) (by omega) (by omega), w32_nat (a := (k : Int) + 1) (n := k + 1) (by omega) (by omega), if_neg (by omega)]
    by_cases ok : okB T k = true
    · rw [if_pos ok, show w32 1 = 1 from rfl, if_neg (by decide), Int.toNat_natCast, e (k + 1) (by omega) (by omega), w32_id (a := T (k + 1)) (by omega) (by omega)]
      refine ⟨⟨by omega, by omega⟩, ?_⟩
      by_cases c : 5 < T (k + 1)
      · rw [if_pos c]
        refine ih (k + 1) _ _ (by omega) ?_ (by omega)
        have : okB T (k + 1) = false := by simp only [okB, ok, Bool.true_and]; exact decide_eq_false (by omega)
        rw [this]; rfl
      · rw [if_neg c]
        refine ih (k + 1) _ _ (by omega) ?_ (by omega)
        have : okB T (k + 1) = true := by simp only [okB, ok, Bool.true_and]; exact decide_eq_true (by omega)
        rw [this]; rfl
    · rw [if_neg ok, w32_0, if_pos rfl]
      refine ih (k + 1) _ _ (by omega) ?_ (by omega)
      have : okB T (k + 1) = false := by simp only [okB]; rw [Bool.eq_false_iff.mpr ok]; rfl
      rw [this]; rfl
theorem sp_mkall {f : Nat} {T : Nat → Int} (X : Fix sh h) (hf : f ≤ 60) (e : ∀ j, 1 ≤ j → j ≤ f → h 114 j = T j) (tb : ∀ j, j ≤ f → 0 ≤ T j ∧ T j ≤ 100000000) (hq : Q (0, if okB T f = true then 1 else 0) sh sl h) : WM sc (d + 1) 264 [(2, 85), (0, (f : Int))] sh sl h Q := by
  rw [B_264_0 X]
  exact lp_mkall X hf e tb hq f 0 _ _ (by omega) rfl rfl
end ONES
/-- the sorts N make all fees up to f -/
def okN (cn : Nat → Int) (n f N : Nat) : Bool := okB (fwF cn (fun s => N.testBit s) n f) f
theorem fwF_mono {cn : Nat → Int} {p q : Nat → Bool} {n : Nat} (hpq : ∀ i, i < n → p i = true → q i = true) {v0 : Int} : ∀ k j v, j ≤ k → v ≤ v0 → v0 < 100000000 → fwF cn p n j j ≤ v → fwF cn q n j j ≤ v := by
  intro k
  induction k with
  | zero => intro j v hj _ _ h; have : j = 0 := by omega
            subst this; exact h
  | succ k ih =>
    intro j v hj hv hv0 h
    cases j with
    | zero => exact h
    | succ j =>
      obtain ⟨i, a, b, c, g⟩ := (fwF_le (by omega)).mp h
      refine (fwF_le (by omega)).mpr ⟨i, a, hpq i a b, c, ?_⟩
      have := ih (j + 1 - (cn i).toNat) (v - 1) (by omega) (by omega) hv0 (by omega)
      omega
theorem okN_mono {cn : Nat → Int} {n f N N2 : Nat} (hb : ∀ i, i < n → N.testBit i = true → N2.testBit i = true) (h : okN cn n f N = true) : okN cn n f N2 = true := by
  unfold okN at h ⊢
  rw [okB_iff] at h ⊢
  intro j h1 h2
  have := h j h1 h2
  rw [fwF_st f h2] at this ⊢
  exact fwF_mono hb (v0 := 5) j j 5 (Nat.le_refl j) (by omega) (by omega) this
theorem okN_zero {cn : Nat → Int} {n f : Nat} (hf : 1 ≤ f) : okN cn n f 0 = false := by
  rw [Bool.eq_false_iff]
  intro h
  unfold okN at h
  rw [okB_iff] at h
  have := h 1 (by omega) hf
  rw [fwF_st f hf] at this
  obtain ⟨i, a, b, c⟩ := (fwF_le (k := 0) (by omega)).mp this
  simp at b
/-- the least set of the fewest sorts, so far -/
def srF (ok : Nat → Bool) : Nat → Int × Int
  | 0 => (-1, 100000000)
  | k + 1 => if ((cnt k.testBit 10 : Nat) : Int) < (srF ok k).2 ∧ ok k = true then ((k : Int), ((cnt k.testBit 10 : Nat) : Int)) else srF ok k
theorem srF_none {ok : Nat → Bool} : ∀ k, (∀ i, i < k → ok i = false) → srF ok k = (-1, 100000000) := by
  intro k
  induction k with
  | zero => intro _; rfl
  | succ k ih =>
    intro h
    simp only [srF]
    rw [if_neg (fun q => by rw [h k (by omega)] at q; exact absurd q.2 (by decide)), ih (fun i hi => h i (by omega))]
theorem srF_b {ok : Nat → Bool} : ∀ k, (srF ok k = (-1, 100000000)) ∨ ((0 ≤ (srF ok k).1 ∧ (srF ok k).1 < k) ∧ (0 ≤ (srF ok k).2 ∧ (srF ok k).2 ≤ 10) ∧ (srF ok k).2 = ((cnt (srF ok k).1.toNat.testBit 10 : Nat) : Int)) := by
  intro k
  induction k with
  | zero => exact Or.inl rfl
  | succ k ih =>
    simp only [srF]
    split
    · have := cnt_le k.testBit 10
      refine Or.inr ⟨⟨by show (0 : Int) ≤ (k : Int); omega, by show (k : Int) < _; omega⟩, ⟨by show (0 : Int) ≤ ((cnt k.testBit 10 : Nat) : Int); omega, by show ((cnt k.testBit 10 : Nat) : Int) ≤ _; omega⟩, ?_⟩
      show ((cnt k.testBit 10 : Nat) : Int) = ((cnt (k : Int).toNat.testBit 10 : Nat) : Int)
      rw [Int.toNat_natCast]
    · rcases ih with h | ⟨h1, h2, h3⟩
      · exact Or.inl h
      · exact Or.inr ⟨⟨h1.1, by omega⟩, h2, h3⟩
theorem cnt_full {n : Nat} (hn : n ≤ 10) : cnt (2 ^ n - 1).testBit 10 = n := by
  have : ∀ k : Fin 11, cnt (2 ^ (k : Nat) - 1).testBit 10 = (k : Nat) := by decide +kernel
  exact this ⟨n, by omega⟩
theorem cnt_part {n N : Nat} (hn : n ≤ 10) (hN : N < 2 ^ n - 1) : cnt N.testBit 10 < n := by
  have : ∀ k : Fin 11, ∀ j : Fin 1024, (j : Nat) < 2 ^ (k : Nat) - 1 → cnt (j : Nat).testBit 10 < (k : Nat) := by decide +kernel
  have h2 : 2 ^ n ≤ 2 ^ 10 := Nat.pow_le_pow_right (by omega) hn
  exact this ⟨n, by omega⟩ ⟨N, by omega⟩ hN
