/-! cancel -/
theorem cnF_o {G : Nat → Int} {l : Nat} : ∀ (k i : Nat), (∀ j, j < k → i ≠ 8 + spA G l j ∧ i ≠ 34 + 5 * l + j) → cnF G l k i = G i := by
  intro k
  induction k with
  | zero => intro i _; rfl
  | succ k ih =>
    intro i h
    simp only [cnF]
    rw [up_n (h k (by omega)).2, up_n (h k (by omega)).1]
    exact ih i (fun j hj => h j (by omega))
theorem cnF_9 {G : Nat → Int} {n m l : Nat} (B : BW G n m) (hn : n ≤ 10) (hl : l < m) : ∀ (k : Nat), (k : Int) ≤ G (31 + l) → ∀ j, j < k → cnF G l k (8 + spA G l j) = 9 := by
  intro k
  induction k with
  | zero => intro _ j hj; omega
  | succ k ih =>
    intro hk j hj
    have sj := B.sp (i := j) hl (by omega)
    simp only [cnF]
    rw [up_n (by omega)]
    by_cases e : spA G l j = spA G l k
    · rw [e, up_s]
    · rw [up_n (by omega)]
      exact ih (by omega) j (by
        rcases Nat.lt_or_ge j k with q | q
        · exact q
        · exact absurd (by rw [show j = k by omega]) e)
theorem cn_R {f G : Nat → Int} {n m l : Nat} (R : BR f G n m) (B : BW G n m) (hn : n ≤ 10) (hm : m ≤ 3) (hl : l < m) : ∀ (k : Nat), (k : Int) ≤ G (31 + l) → ∀ (f' : Nat → Int), (∀ i, (∀ j, j < k → i ≠ 11 + spA G l j) → f' i = f i) → (∀ j, j < k → f' (11 + spA G l j) = -2) → ∀ s, s < n → f' (11 + s) = if cnF G l k (8 + s) = 9 then -2 else cnF G l k (8 + s) := by
  intro k hk f' h1 h2 s hs
  by_cases e : ∃ j, j < k ∧ spA G l j = s
  · obtain ⟨j, j1, j2⟩ := e
    rw [← j2, h2 j j1, cnF_9 B hn hl k hk j j1]; rfl
  · have : ∀ j, j < k → s ≠ spA G l j := fun j hj q => e ⟨j, hj, q.symm⟩
    rw [h1 _ (fun j hj q => this j hj (by omega)), cnF_o k _ (fun j hj => ⟨fun q => this j hj (by omega), by omega⟩)]
    exact (R.2.1 s hs).2
theorem up28 {G : Nat → Int} {n m l : Nat} {v : Int} (B : BW G n m) (hn : n ≤ 10) (hm : m ≤ 3) (hl : l < m) (hv : 0 ≤ v ∧ v ≤ 9999) : BW (up G (28 + l) v) n m := by
  obtain ⟨b1, b2, b3, b4, b5⟩ := B
  refine ⟨by rw [up_n (by omega)]; exact b1, fun u hu => ?_, fun k hk => ?_, fun k i hk hi => ?_, fun k i j hk hij hj => ?_⟩
  · rw [up_n (by omega), up_n (by omega)]; exact b2 u hu
  · rw [up_n (j := 31 + k) (by omega)]
    refine ⟨?_, (b3 k hk).2⟩
    by_cases e : k = l
    · subst e; rw [up_s]; exact hv
    · rw [up_n (by omega)]; exact (b3 k hk).1
  · rw [up_n (by omega)] at hi
    obtain ⟨u, u1, u2, u3⟩ := b4 k i hk hi
    exact ⟨u, by rw [up_n (by omega)]; exact u1, u2, by rw [up_n (by omega)]; exact u3⟩
  · rw [up_n (by omega)] at hj
    rw [up_n (by omega), up_n (by omega)]; exact b5 k i j hk hij hj
theorem spA_28 {G : Nat → Int} {l l2 i : Nat} {v : Int} (hl : l < 3) : spA (up G (28 + l) v) l2 i = spA G l2 i := by unfold spA; rw [up_n (by omega)]
/-- the row behind: cells f3 of the class against the row behind a cancelling -/
theorem can_B {G : Nat → Int} {n m l : Nat} {v : Int} (B : BW G n m) (hn : n ≤ 10) (hm : m ≤ 3) (hl : l < m) (hv : 0 ≤ v ∧ v ≤ 9999) : BW (up (cnF (up G (28 + l) v) l (G (31 + l)).toNat) (31 + l) 0) n m := by
  have B' := up28 B hn hm hl hv
  have e31 : up G (28 + l) v (31 + l) = G (31 + l) := up_n (by omega)
  generalize hG : up G (28 + l) v = H at *
  rw [← e31]
  obtain ⟨b1, b2, b3, b4, b5⟩ := B'
  have bl := b3 l hl
  have hsp : ∀ j, j < (H (31 + l)).toNat → spA H l j < n ∧ H (8 + spA H l j) = l := fun j hj => (BW.sp ⟨b1, b2, b3, b4, b5⟩ hl (by omega)).2
  have eo : ∀ i, (∀ s, s < n → H (8 + s) = l → i ≠ 8 + s) → (∀ j, j < 5 → i ≠ 34 + 5 * l + j) → i ≠ 31 + l → up (cnF H l (H (31 + l)).toNat) (31 + l) 0 i = H i := fun i h1 h2 h3 => by
    rw [up_n h3]
    exact cnF_o _ _ (fun j hj => ⟨h1 _ (hsp j hj).1 (hsp j hj).2, h2 j (by omega)⟩)
  refine ⟨by rw [eo 5 (fun _ _ _ => by omega) (fun _ _ => by omega) (by omega)]; exact b1, fun u hu => ?_, fun k hk => ?_, fun k i hk hi => ?_, fun k i j hk hij hj => ?_⟩
  · rw [eo (18 + u) (fun _ _ _ => by omega) (fun _ _ => by omega) (by omega)]
    refine ⟨(b2 u hu).1, ?_⟩
    by_cases e : ∃ j, j < (H (31 + l)).toNat ∧ spA H l j = u
    · obtain ⟨j, j1, j2⟩ := e
      rw [up_n (by omega), ← j2, cnF_9 ⟨b1, b2, b3, b4, b5⟩ hn hl _ (by omega) j j1]; exact Or.inl rfl
    · rw [up_n (by omega), cnF_o _ _ (fun j hj => ⟨fun q => e ⟨j, hj, by omega⟩, by omega⟩)]; exact (b2 u hu).2
  · rw [eo (28 + k) (fun _ _ _ => by omega) (fun _ _ => by omega) (by omega)]
    refine ⟨(b3 k hk).1, ?_⟩
    by_cases e : k = l
    · subst e; rw [up_s]; omega
    · rw [eo (31 + k) (fun _ _ _ => by omega) (fun _ _ => by omega) (by omega)]; exact (b3 k hk).2
  · by_cases e : k = l
    · subst e; rw [up_s] at hi; omega
    · have bk := b3 k hk
      rw [eo (31 + k) (fun _ _ _ => by omega) (fun _ _ => by omega) (by omega)] at hi
      obtain ⟨u, u1, u2, u3⟩ := b4 k i hk hi
      refine ⟨u, by rw [eo _ (fun _ _ _ => by omega) (fun _ _ => by omega) (by omega)]; exact u1, u2, ?_⟩
      have hus : ∀ s, H (8 + s) = l → u ≠ s := fun s hl2 q => by rw [q, hl2] at u3; omega
      rw [eo (8 + u) (fun s hs hl2 => by have := hus s hl2; omega) (fun _ _ => by omega) (by omega)]; exact u3
  · by_cases e : k = l
    · subst e; rw [up_s] at hj; omega
    · have bk := b3 k hk
      rw [eo (31 + k) (fun _ _ _ => by omega) (fun _ _ => by omega) (by omega)] at hj
      rw [eo _ (fun _ _ _ => by omega) (fun _ _ => by omega) (by omega), eo _ (fun _ _ _ => by omega) (fun _ _ => by omega) (by omega)]; exact b5 k i j hk hij hj
theorem can_R {f f2 G : Nat → Int} {n m l : Nat} {v : Int} (R : BR f G n m) (B : BW G n m) (hn : n ≤ 10) (hm : m ≤ 3) (hl : l < m) (hv : 0 ≤ v ∧ v ≤ 9999) (h1 : ∀ i, (∀ j, j < (G (31 + l)).toNat → i ≠ 11 + spA G l j) → i ≠ 21 + l → i ≠ 39 + l → f2 i = f i) (h2 : ∀ j, j < (G (31 + l)).toNat → f2 (11 + spA G l j) = -2) (h3 : f2 (21 + l) = 0) (h4 : f2 (39 + l) = v) : BR f2 (up (cnF (up G (28 + l) v) l (G (31 + l)).toNat) (31 + l) 0) n m := by
  have bl := B.2.2.1 l hl
  have hsp : ∀ j, j < (G (31 + l)).toNat → spA G l j < n ∧ G (8 + spA G l j) = l := fun j hj => (B.sp hl (by omega)).2
  have hsv : ∀ j, spA (up G (28 + l) v) l j = spA G l j := fun j => spA_28 (by omega)
  have eo : ∀ i, (∀ s, s < n → i ≠ 8 + s) → (∀ j, j < 5 → i ≠ 34 + 5 * l + j) → i ≠ 31 + l → i ≠ 28 + l → up (cnF (up G (28 + l) v) l (G (31 + l)).toNat) (31 + l) 0 i = G i := fun i h1 h2 h3 h4 => by
    rw [up_n h3, cnF_o _ _ (fun j hj => ⟨by rw [hsv]; exact h1 _ (hsp j hj).1, h2 j (by omega)⟩), up_n h4]
  have fo : ∀ i, (∀ s, s < n → i ≠ 11 + s) → i ≠ 21 + l → i ≠ 39 + l → f2 i = f i := fun i a b c => h1 i (fun j hj => a _ (hsp j hj).1) b c
  obtain ⟨r1, r2, r3, r4⟩ := R
  refine ⟨?_, fun u hu => ?_, fun k hk => ?_, fun k i hk hi => ?_⟩
  · rw [fo 0 (fun _ _ => by omega) (by omega) (by omega), eo 5 (fun _ _ => by omega) (fun _ _ => by omega) (by omega) (by omega)]; exact r1
  · rw [fo (1 + u) (fun _ _ => by omega) (by omega) (by omega), eo (18 + u) (fun _ _ => by omega) (fun _ _ => by omega) (by omega) (by omega)]
    refine ⟨(r2 u hu).1, ?_⟩
    rw [up_n (by omega)]
    by_cases e : ∃ j, j < (G (31 + l)).toNat ∧ spA G l j = u
    · obtain ⟨j, j1, j2⟩ := e
      have B' := up28 B hn hm hl hv
      have := cnF_9 B' hn hl (G (31 + l)).toNat (by rw [up_n (by omega)]; omega) j j1
      rw [hsv] at this
      rw [← j2, h2 j j1, this]; rfl
    · rw [h1 _ (fun j hj q => e ⟨j, hj, by omega⟩) (by omega) (by omega), cnF_o _ _ (fun j hj => ⟨fun q => e ⟨j, hj, by rw [hsv] at q; omega⟩, by omega⟩), up_n (by omega)]
      exact (r2 u hu).2
  · by_cases e : k = l
    · subst e
      rw [h3, h4, up_s, up_n (by omega), cnF_o _ _ (fun j hj => ⟨by rw [hsv]; have := hsp j hj; omega, by omega⟩), up_s]; exact ⟨rfl, rfl⟩
    · rw [fo (21 + k) (fun _ _ => by omega) (by omega) (by omega), fo (39 + k) (fun _ _ => by omega) (by omega) (by omega), eo (31 + k) (fun _ _ => by omega) (fun _ _ => by omega) (by omega) (by omega), eo (28 + k) (fun _ _ => by omega) (fun _ _ => by omega) (by omega) (by omega)]; exact r3 k hk
  · by_cases e : k = l
    · subst e; rw [up_s] at hi; omega
    · have bk := B.2.2.1 k hk
      rw [eo (31 + k) (fun _ _ => by omega) (fun _ _ => by omega) (by omega) (by omega)] at hi
      rw [fo _ (fun _ _ => by omega) (by omega) (by omega), eo _ (fun _ _ => by omega) (fun _ _ => by omega) (by omega) (by omega)]; exact r4 k i hk hi
