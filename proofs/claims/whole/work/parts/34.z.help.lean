/-! ===== what the block rules need ===== -/
theorem setH_o {h : Sto} {p k : Nat} {v : Int} {q : Nat} (hn : q ≠ p) : setH h p k v q = h q := by
  funext j; exact setH_other (Or.inl hn)
theorem setH_k {h : Sto} {p k : Nat} {v : Int} {j : Nat} (hn : j ≠ k) : setH h p k v p j = h p j := setH_other (Or.inr hn)
theorem rowH_o {h : Sto} {p : Nat} {f : Nat → Int} {q : Nat} (hn : q ≠ p) : rowH h p f q = h q := by
  funext j; unfold rowH; rw [if_neg hn]
theorem rowH_s {h : Sto} {p : Nat} {f : Nat → Int} : rowH h p f p = f := by
  funext j; unfold rowH; rw [if_pos rfl]
theorem castL (n : Nat) : ((no_index (@OfNat.ofNat Nat n _) : Nat) : Int) = @OfNat.ofNat Int n _ := rfl
theorem inA_c {sh : Shp} {k n : Nat} {z i N : Int} (hN : (n : Int) = N) (hz : shAt sh z = some (k, n)) : inAr sh k z i ↔ 0 ≤ w32 i ∧ w32 i < N := by subst hN; exact inA_of hz
theorem inB3 {sh : Shp} {n : Nat} {z i N : Int} (hN : (n : Int) = N) (hz : shAt sh z = some (3, n)) : (inAr sh 3 z i ∨ inAr sh 4 z i) ↔ 0 ≤ w32 i ∧ w32 i < N := by
  subst hN
  constructor
  · rintro (h | ⟨m, h, _⟩)
    · exact (inA_of hz).mp h
    · rw [hz] at h; cases h
  · intro h; exact Or.inl ((inA_of hz).mpr h)
theorem inB4 {sh : Shp} {n : Nat} {z i N : Int} (hN : (n : Int) = N) (hz : shAt sh z = some (4, n)) : (inAr sh 3 z i ∨ inAr sh 4 z i) ↔ 0 ≤ w32 i ∧ w32 i < N := by
  subst hN
  constructor
  · rintro (⟨m, h, _⟩ | h)
    · rw [hz] at h; cases h
    · exact (inA_of hz).mp h
  · intro h; exact Or.inr ((inA_of hz).mpr h)
theorem inB5 {sh : Shp} {n : Nat} {z i N : Int} (hN : (n : Int) = N) (hz : shAt sh z = some (5, n)) : (inAr sh 5 z i ∨ inAr sh 6 z i) ↔ 0 ≤ w32 i ∧ w32 i < N := by
  subst hN
  constructor
  · rintro (h | ⟨m, h, _⟩)
    · exact (inA_of hz).mp h
    · rw [hz] at h; cases h
  · intro h; exact Or.inl ((inA_of hz).mpr h)
theorem inB6 {sh : Shp} {n : Nat} {z i N : Int} (hN : (n : Int) = N) (hz : shAt sh z = some (6, n)) : (inAr sh 5 z i ∨ inAr sh 6 z i) ↔ 0 ≤ w32 i ∧ w32 i < N := by
  subst hN
  constructor
  · rintro (⟨m, h, _⟩ | h)
    · rw [hz] at h; cases h
    · exact (inA_of hz).mp h
  · intro h; exact Or.inr ((inA_of hz).mpr h)
theorem bd_t {i n : Int} (h1 : 0 ≤ i) (h2 : i < n) : (0 ≤ i ∧ i < n) = True := by simp [h1, h2]
theorem le8_t {n : Nat} (h : n ≤ 8) : (n ≤ 8) = True := by simp [h]
theorem le_t {a b : Int} (h : a ≤ b) : (a ≤ b) = True := by simp [h]
/-- fields and rows that may be written: Fix stays -/
theorem Fix.s {sh : Shp} {h : Sto} {p k : Nat} {v : Int} (G : Fix sh h) (hn : fld0.all (fun q => decide (q.1 ≠ p) || decide (q.2.1 ≠ k)) = true) : Fix sh (setH h p k v) := G.set (fun q hq => by
  have := List.all_eq_true.mp hn q hq
  rcases Bool.or_eq_true_iff.mp this with h | h
  · exact Or.inl (of_decide_eq_true h)
  · exact Or.inr (of_decide_eq_true h))
theorem Fix.a {sh : Shp} {h : Sto} {p k : Nat} {v : Int} (G : Fix sh h) (hn : fld0.all (fun q => decide (q.1 ≠ p)) = true) : Fix sh (setH h p k v) := G.set (fun q hq => Or.inl (of_decide_eq_true (List.all_eq_true.mp hn q hq)))
theorem Fix.r {sh : Shp} {h : Sto} {p : Nat} {f : Nat → Int} (G : Fix sh h) (hn : fld0.all (fun q => decide (q.1 ≠ p)) = true) : Fix sh (rowH h p f) := G.row (fun q hq => of_decide_eq_true (List.all_eq_true.mp hn q hq))
theorem toNatL (n : Nat) : Int.toNat (no_index (@OfNat.ofNat Int n _)) = @OfNat.ofNat Nat n _ := rfl
