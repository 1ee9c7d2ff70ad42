theorem fwS_le {cn : Nat → Int} {p : Nat → Bool} {f : Nat → Int} {k : Nat} {v : Int} (hv : v < 100000000) : ∀ s, fwS cn p f k s ≤ v ↔ ∃ i, i < s ∧ p i = true ∧ (1 ≤ cn i ∧ cn i ≤ k) ∧ f (k - (cn i).toNat) + 1 ≤ v := by
  intro s
  induction s with
  | zero =>
    constructor
    · intro h; have h' : (100000000 : Int) ≤ v := h; omega
    · rintro ⟨i, h, -⟩; omega
  | succ s ih =>
    simp only [fwS]
    constructor
    · intro h
      split at h
      · rename_i hc
        by_cases h2 : fwS cn p f k s ≤ v
        · obtain ⟨i, a, b⟩ := ih.mp h2
          exact ⟨i, by omega, b⟩
        · exact ⟨s, by omega, hc.1, hc.2, by omega⟩
      · obtain ⟨i, a, b⟩ := ih.mp h
        exact ⟨i, by omega, b⟩
    · rintro ⟨i, a, b1, b2, b3⟩
      by_cases e : i = s
      · subst e
        rw [if_pos ⟨b1, b2⟩]; omega
      · have := ih.mpr ⟨i, by omega, b1, b2, b3⟩
        split
        · omega
        · exact this
theorem fwF_st {cn : Nat → Int} {p : Nat → Bool} {n j : Nat} : ∀ k, j ≤ k → fwF cn p n k j = fwF cn p n j j := by
  intro k
  induction k with
  | zero => intro h; have : j = 0 := by omega
            subst this; rfl
  | succ k ih =>
    intro h
    by_cases e : j = k + 1
    · subst e; rfl
    · show up (fwF cn p n k) (k + 1) _ j = _
      rw [up_n e]; exact ih (by omega)
theorem fwF_le {cn : Nat → Int} {p : Nat → Bool} {n k : Nat} {v : Int} (hv : v < 100000000) : fwF cn p n (k + 1) (k + 1) ≤ v ↔ ∃ i, i < n ∧ p i = true ∧ (1 ≤ cn i ∧ cn i ≤ ((k + 1 : Nat) : Int)) ∧ fwF cn p n (k + 1 - (cn i).toNat) (k + 1 - (cn i).toNat) + 1 ≤ v := by
  have e : fwF cn p n (k + 1) (k + 1) = fwS cn p (fwF cn p n k) (k + 1) n := by
    show up _ (k + 1) _ (k + 1) = _
    rw [up_s]
  rw [e, fwS_le hv]
  constructor
  · rintro ⟨i, a, b, c, g⟩
    rw [fwF_st k (by omega)] at g
    exact ⟨i, a, b, c, g⟩
  · rintro ⟨i, a, b, c, g⟩
    refine ⟨i, a, b, c, ?_⟩
    rw [fwF_st k (by omega)]; exact g
theorem rsS_iff {cn : Nat → Int} {p : Nat → Bool} {f : Nat → Bool} {j : Nat} : ∀ s, rsS cn p f j s = true ↔ f j = true ∨ ∃ i, i < s ∧ p i = true ∧ (cn i).toNat ≤ j ∧ f (j - (cn i).toNat) = true := by
  intro s
  induction s with
  | zero =>
    constructor
    · intro h; exact Or.inl h
    · rintro (h | ⟨i, a, -⟩)
      · exact h
      · omega
  | succ s ih =>
    simp only [rsS, Bool.or_eq_true, Bool.and_eq_true, decide_eq_true_eq, ih]
    constructor
    · rintro ((h | ⟨i, a, b⟩) | ⟨a, b, c⟩)
      · exact Or.inl h
      · exact Or.inr ⟨i, by omega, b⟩
      · exact Or.inr ⟨s, by omega, a, b, c⟩
    · rintro (h | ⟨i, a, b⟩)
      · exact Or.inl (Or.inl h)
      · by_cases e : i = s
        · subst e; exact Or.inr b
        · exact Or.inl (Or.inr ⟨i, by omega, b⟩)
theorem rsF_iff {cn : Nat → Int} {p : Nat → Bool} {n : Nat} (cb : ∀ i, i < n → 0 ≤ cn i) : ∀ r j, r ≤ 60 → j ≤ 60 → (rsF cn p n r j = true ↔ fwF cn p n j j ≤ r) := by
  intro r
  induction r with
  | zero =>
    intro j _ hj
    show decide (j = 0) = true ↔ _
    rw [decide_eq_true_eq]
    constructor
    · intro h; subst h; exact Int.le_refl _
    · intro h
      cases j with
      | zero => rfl
      | succ j =>
        obtain ⟨i, a, b, c, g⟩ := (fwF_le (by omega)).mp h
        have := fwF_b (cn := cn) (p := p) (n := n) (j + 1 - (cn i).toNat) (by omega) _ (Nat.le_refl _)
        omega
  | succ r ih =>
    intro j hr hj
    show rsS cn p (rsF cn p n r) j n = true ↔ _
    rw [rsS_iff, ih j (by omega) hj]
    constructor
    · rintro (h | ⟨i, a, b, c, g⟩)
      · omega
      · rw [ih _ (by omega) (by omega)] at g
        have c0 := cb i a
        by_cases z : cn i = 0
        · rw [show j - (cn i).toNat = j by omega] at g; omega
        · cases j with
          | zero => omega
          | succ j => exact (fwF_le (by omega)).mpr ⟨i, a, b, by omega, by omega⟩
    · intro h
      cases j with
      | zero => exact Or.inl (by show (0 : Int) ≤ _; omega)
      | succ j =>
        obtain ⟨i, a, b, c, g⟩ := (fwF_le (by omega)).mp h
        refine Or.inr ⟨i, a, b, by omega, ?_⟩
        rw [ih _ (by omega) (by omega)]; omega
