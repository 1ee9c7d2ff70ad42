/-! pass: drying -/
def drA (G : Nat → Int) (L : List Law) (s : Nat) : Int := if G (8 + s) = 9 then 0 else driesA G L s
def glF (G : Nat → Int) (L : List Law) : Nat → (Nat → Int)
  | 0 => G
  | k + 1 => up (glF G L k) (18 + k) (max 0 (min (G (18 + k) - drA G L k) 9))
theorem glF_o {G : Nat → Int} {L : List Law} : ∀ (k i : Nat), (i < 18 ∨ 18 + k ≤ i) → glF G L k i = G i := by
  intro k
  induction k with
  | zero => intro i _; rfl
  | succ k ih => intro i h; simp only [glF]; rw [up_n (by omega)]; exact ih i (by omega)
theorem glF_s {G : Nat → Int} {L : List Law} : ∀ (k s : Nat), s < k → glF G L k (18 + s) = max 0 (min (G (18 + s) - drA G L s) 9) := by
  intro k
  induction k with
  | zero => intro s h; omega
  | succ k ih =>
    intro s h
    simp only [glF]
    by_cases e : s = k
    · subst e; rw [up_s]
    · rw [up_n (by omega)]; exact ih s (by omega)
theorem gl_B {G : Nat → Int} {L : List Law} {n m : Nat} (B : BW G n m) (hn : n ≤ 10) (hm : m ≤ 3) : BW (glF G L n) n m := by
  obtain ⟨b1, b2, b3, b4, b5⟩ := B
  refine ⟨by rw [glF_o n 5 (by omega)]; exact b1, fun u hu => ?_, fun k hk => ?_, fun k i hk hi => ?_, fun k i j hk hij hj => ?_⟩
  · rw [glF_s n u hu, glF_o n (8 + u) (by omega)]
    exact ⟨by omega, (b2 u hu).2⟩
  · rw [glF_o n _ (by omega), glF_o n _ (by omega)]; exact b3 k hk
  · rw [glF_o n _ (by omega)] at hi
    obtain ⟨u, u1, u2, u3⟩ := b4 k i hk hi
    exact ⟨u, by rw [glF_o n _ (by omega)]; exact u1, u2, by rw [glF_o n _ (by omega)]; exact u3⟩
  · rw [glF_o n _ (by omega)] at hj
    rw [glF_o n _ (by omega), glF_o n _ (by omega)]; exact b5 k i j hk hij hj
theorem gl_R {f f2 G : Nat → Int} {L : List Law} {n m : Nat} (R : BR f G n m) (hn : n ≤ 10) (h1 : ∀ i, (i < 1 ∨ 1 + n ≤ i) → f2 i = f i) (h2 : ∀ s, s < n → f2 (1 + s) = max 0 (min (G (18 + s) - drA G L s) 9)) : BR f2 (glF G L n) n m := by
  obtain ⟨r1, r2, r3, r4⟩ := R
  refine ⟨?_, fun u hu => ?_, fun k hk => ?_, fun k i hk hi => ?_⟩
  · rw [h1 0 (by omega), glF_o n 5 (by omega)]; exact r1
  · rw [h2 u hu, glF_s n u hu, h1 _ (by omega), glF_o n (8 + u) (by omega)]; exact ⟨rfl, (r2 u hu).2⟩
  · rw [h1 _ (by omega), h1 _ (by omega), glF_o n _ (by omega), glF_o n _ (by omega)]; exact r3 k hk
  · rw [glF_o n _ (by omega)] at hi
    rw [h1 _ (by omega), glF_o n _ (by omega)]; exact r4 k i hk hi
/-! pass: the dry ones fall -/
def flS (G : Nat → Int) (l : Nat) : Nat → Nat × (Nat → Int)
  | 0 => (0, G)
  | i + 1 => if 0 < G (18 + spA G l i) then ((flS G l i).1 + 1, up (up (flS G l i).2 (34 + 5 * l + i) 0) (34 + 5 * l + (flS G l i).1) (spA G l i : Int)) else ((flS G l i).1, up (up (flS G l i).2 (34 + 5 * l + i) 0) (8 + spA G l i) (-1))
def flC (f G : Nat → Int) (l : Nat) : Nat → (Nat → Int)
  | 0 => f
  | i + 1 => if 0 < G (18 + spA G l i) then up (flC f G l i) (24 + 5 * l + (flS G l i).1) (spA G l i : Int) else up (flC f G l i) (11 + spA G l i) (-1)
def FlI (f G : Nat → Int) (n m l i : Nat) : Prop := (flS G l i).1 ≤ i
  ∧ (∀ x, (x < 8 ∨ (18 ≤ x ∧ x < 34) ∨ 49 ≤ x) → (flS G l i).2 x = G x)
  ∧ (∀ k j, k < m → k ≠ l → j < 5 → (flS G l i).2 (34 + 5 * k + j) = G (34 + 5 * k + j) ∧ flC f G l i (24 + 5 * k + j) = f (24 + 5 * k + j))
  ∧ (∀ j, i ≤ j → j < 5 → (flS G l i).2 (34 + 5 * l + j) = G (34 + 5 * l + j) ∧ flC f G l i (24 + 5 * l + j) = f (24 + 5 * l + j))
  ∧ (∀ s, s < 10 → (0 < G (18 + s) → (flS G l i).2 (8 + s) = G (8 + s)) ∧ ((flS G l i).2 (8 + s) = G (8 + s) ∨ ((flS G l i).2 (8 + s) = -1 ∧ G (8 + s) = l)))
  ∧ (∀ j, j < (flS G l i).1 → flC f G l i (24 + 5 * l + j) = (flS G l i).2 (34 + 5 * l + j) ∧ ∃ q, q < i ∧ (flS G l i).2 (34 + 5 * l + j) = G (34 + 5 * l + q) ∧ 0 < G (18 + spA G l q))
  ∧ (∀ j1 j2, j1 < j2 → j2 < (flS G l i).1 → (flS G l i).2 (34 + 5 * l + j1) ≠ (flS G l i).2 (34 + 5 * l + j2))
  ∧ (∀ x, (x < 11 ∨ (21 ≤ x ∧ x < 24) ∨ 39 ≤ x) → flC f G l i x = f x)
  ∧ (∀ s, s < n → flC f G l i (11 + s) = if (flS G l i).2 (8 + s) = 9 then -2 else (flS G l i).2 (8 + s))
theorem flI {f G : Nat → Int} {n m l : Nat} (R : BR f G n m) (B : BW G n m) (hn : n ≤ 10) (hm : m ≤ 3) (hl : l < m) : ∀ (i : Nat), (i : Int) ≤ G (31 + l) → FlI f G n m l i := by
  have bl := B.2.2.1 l hl
  intro i
  induction i with
  | zero =>
    intro _
    exact ⟨Nat.le_refl _, fun _ _ => rfl, fun _ _ _ _ _ => ⟨rfl, rfl⟩, fun _ _ _ => ⟨rfl, rfl⟩, fun s hs => ⟨fun _ => rfl, Or.inl rfl⟩, fun j hj => absurd hj (Nat.not_lt_zero j), fun _ j2 _ h => absurd h (Nat.not_lt_zero j2), fun _ _ => rfl, fun s hs => (R.2.1 s hs).2⟩
  | succ i ih =>
    intro hi
    have sp := B.sp (i := i) hl (by omega)
    obtain ⟨a1, a2, a3, a4, a5, a6, a7, a8, a9⟩ := ih (by omega)
    unfold FlI
    by_cases hg : 0 < G (18 + spA G l i)
    · simp only [flS, flC, if_pos hg]
      generalize hs : spA G l i = s at *
      generalize hK : (flS G l i).1 = K at *
      generalize hH : (flS G l i).2 = H at *
      generalize hC : flC f G l i = F at *
      have e34 : ∀ x, x ≠ 34 + 5 * l + K → x ≠ 34 + 5 * l + i → up (up H (34 + 5 * l + i) 0) (34 + 5 * l + K) (s : Int) x = H x := fun x p q => by rw [up_n p, up_n q]
      refine ⟨by omega, fun x hx => ?_, fun k j hk hkl hj => ?_, fun j h1 h2 => ?_, fun u hu => ?_, fun j hj => ?_, fun j1 j2 h12 h2 => ?_, fun x hx => ?_, fun u hu => ?_⟩
      · rw [e34 x (by omega) (by omega)]; exact a2 x hx
      · rw [e34 _ (by omega) (by omega), up_n (by omega)]; exact a3 k j hk hkl hj
      · rw [e34 _ (by omega) (by omega), up_n (by omega)]; exact a4 j (by omega) h2
      · rw [e34 _ (by omega) (by omega)]; exact a5 u hu
      · by_cases ej : j = K
        · subst ej
          rw [up_s, up_s]
          exact ⟨rfl, i, by omega, by rw [sp.1], by rw [hs]; exact hg⟩
        · obtain ⟨c1, q, c2, c3, c4⟩ := a6 j (by omega)
          rw [up_n (by omega), e34 _ (by omega) (by omega)]
          exact ⟨c1, q, by omega, c3, c4⟩
      · by_cases ej : j2 = K
        · subst ej
          rw [up_s, e34 _ (by omega) (by omega)]
          obtain ⟨c1, q, c2, c3, c4⟩ := a6 j1 (by omega)
          rw [c3, ← sp.1]
          exact B.2.2.2.2 l q i hl c2 (by omega)
        · rw [e34 _ (by omega) (by omega), e34 _ (by omega) (by omega)]; exact a7 j1 j2 h12 (by omega)
      · rw [up_n (by omega)]; exact a8 x hx
      · rw [up_n (by omega), e34 _ (by omega) (by omega)]; exact a9 u hu
    · simp only [flS, flC, if_neg hg]
      generalize hs : spA G l i = s at *
      generalize hK : (flS G l i).1 = K at *
      generalize hH : (flS G l i).2 = H at *
      generalize hC : flC f G l i = F at *
      have e34 : ∀ x, x ≠ 8 + s → x ≠ 34 + 5 * l + i → up (up H (34 + 5 * l + i) 0) (8 + s) (-1) x = H x := fun x p q => by rw [up_n p, up_n q]
      refine ⟨by omega, fun x hx => ?_, fun k j hk hkl hj => ?_, fun j h1 h2 => ?_, fun u hu => ?_, fun j hj => ?_, fun j1 j2 h12 h2 => ?_, fun x hx => ?_, fun u hu => ?_⟩
      · rw [e34 x (by omega) (by omega)]; exact a2 x hx
      · rw [e34 _ (by omega) (by omega), up_n (by omega)]; exact a3 k j hk hkl hj
      · rw [e34 _ (by omega) (by omega), up_n (by omega)]; exact a4 j (by omega) h2
      · by_cases eu : u = s
        · subst eu
          rw [up_s]
          exact ⟨fun q => absurd q hg, Or.inr ⟨rfl, sp.2.2⟩⟩
        · rw [e34 _ (by omega) (by omega)]; exact a5 u hu
      · obtain ⟨c1, q, c2, c3, c4⟩ := a6 j hj
        rw [up_n (by omega), e34 _ (by omega) (by omega)]
        exact ⟨c1, q, by omega, c3, c4⟩
      · rw [e34 _ (by omega) (by omega), e34 _ (by omega) (by omega)]; exact a7 j1 j2 h12 h2
      · rw [up_n (by omega)]; exact a8 x hx
      · by_cases eu : u = s
        · subst eu; rw [up_s, up_s, if_neg (by omega)]
        · rw [up_n (by omega), e34 _ (by omega) (by omega)]; exact a9 u hu
/-- a LETTER's row behind the fall -/
def flG (G : Nat → Int) (l : Nat) : Nat → Int := up (flS G l (G (31 + l)).toNat).2 (31 + l) ((flS G l (G (31 + l)).toNat).1 : Int)
def flN (G : Nat → Int) (l : Nat) : Int := G (31 + l) - ((flS G l (G (31 + l)).toNat).1 : Int)
theorem fl_BR {f G : Nat → Int} {n m l : Nat} (R : BR f G n m) (B : BW G n m) (hn : n ≤ 10) (hm : m ≤ 3) (hl : l < m) : BR (up (flC f G l (G (31 + l)).toNat) (21 + l) ((flS G l (G (31 + l)).toNat).1 : Int)) (flG G l) n m ∧ BW (flG G l) n m := by
  have bl := B.2.2.1 l hl
  obtain ⟨a1, a2, a3, a4, a5, a6, a7, a8, a9⟩ := flI R B hn hm hl (G (31 + l)).toNat (by omega)
  unfold flG
  generalize hK : (flS G l (G (31 + l)).toNat).1 = K at *
  generalize hH : (flS G l (G (31 + l)).toNat).2 = H at *
  generalize hC : flC f G l (G (31 + l)).toNat = F at *
  obtain ⟨r1, r2, r3, r4⟩ := R
  obtain ⟨b1, b2, b3, b4, b5⟩ := B
  refine ⟨⟨?_, fun u hu => ?_, fun k hk => ?_, fun k i hk hi => ?_⟩, ?_, fun u hu => ?_, fun k hk => ?_, fun k i hk hi => ?_, fun k i j hk hij hj => ?_⟩
  · rw [up_n (by omega), up_n (by omega), a8 0 (by omega), a2 5 (by omega)]; exact r1
  · rw [up_n (by omega), up_n (by omega), up_n (by omega), up_n (by omega), a8 (1 + u) (by omega), a2 (18 + u) (by omega)]
    exact ⟨(r2 u hu).1, a9 u hu⟩
  · rw [up_n (j := 39 + k) (by omega), up_n (j := 28 + k) (by omega), a8 (39 + k) (by omega), a2 (28 + k) (by omega)]
    refine ⟨?_, (r3 k hk).2⟩
    by_cases e : k = l
    · subst e; rw [up_s, up_s]
    · rw [up_n (by omega), up_n (by omega), a8 (21 + k) (by omega), a2 (31 + k) (by omega)]; exact (r3 k hk).1
  · by_cases e : k = l
    · subst e
      rw [up_s] at hi
      rw [up_n (by omega), up_n (by omega)]; exact (a6 i (by omega)).1
    · have bk := b3 k hk
      rw [up_n (by omega), a2 (31 + k) (by omega)] at hi
      have := a3 k i hk e (by omega)
      rw [up_n (by omega), up_n (by omega), this.1, this.2]; exact r4 k i hk hi
  · rw [up_n (by omega), a2 5 (by omega)]; exact b1
  · rw [up_n (by omega), up_n (by omega), a2 (18 + u) (by omega)]
    refine ⟨(b2 u hu).1, ?_⟩
    rcases (a5 u (by omega)).2 with q | q
    · rw [q]; exact (b2 u hu).2
    · rw [q.1]; omega
  · rw [up_n (j := 28 + k) (by omega), a2 (28 + k) (by omega)]
    refine ⟨(b3 k hk).1, ?_⟩
    by_cases e : k = l
    · subst e; rw [up_s]; omega
    · rw [up_n (by omega), a2 (31 + k) (by omega)]; exact (b3 k hk).2
  · by_cases e : k = l
    · subst e
      rw [up_s] at hi
      obtain ⟨-, q, c2, c3, c4⟩ := a6 i (by omega)
      obtain ⟨u, u1, u2, u3⟩ := b4 k q hk (by omega)
      have hu : spA G k q = u := by unfold spA; omega
      rw [hu] at c4
      refine ⟨u, by rw [up_n (by omega), c3]; exact u1, u2, ?_⟩
      rw [up_n (by omega), (a5 u (by omega)).1 c4]; exact u3
    · have bk := b3 k hk
      rw [up_n (by omega), a2 (31 + k) (by omega)] at hi
      obtain ⟨u, u1, u2, u3⟩ := b4 k i hk hi
      refine ⟨u, by rw [up_n (by omega), (a3 k i hk e (by omega)).1]; exact u1, u2, ?_⟩
      rw [up_n (by omega)]
      rcases (a5 u (by omega)).2 with q | q
      · rw [q]; exact u3
      · have := q.2; omega
  · by_cases e : k = l
    · subst e
      rw [up_s] at hj
      rw [up_n (by omega), up_n (by omega)]; exact a7 i j hij (by omega)
    · have bk := b3 k hk
      rw [up_n (by omega), a2 (31 + k) (by omega)] at hj
      rw [up_n (by omega), up_n (by omega), (a3 k i hk e (by omega)).1, (a3 k j hk e (by omega)).1]; exact b5 k i j hk hij hj
/-- all LETTERS -/
def paF (G : Nat → Int) : Nat → Int × (Nat → Int)
  | 0 => (0, G)
  | l + 1 => ((paF G l).1 + flN (paF G l).2 l, flG (paF G l).2 l)
def passG (G : Nat → Int) (L : List Law) (n m : Nat) : Nat → Int := up (paF (glF G L n) m).2 5 (G 5 + 1)
def passA (G : Nat → Int) (L : List Law) (n m : Nat) : Dd := if G 5 = 999 then (-3, G) else ((paF (glF G L n) m).1, passG G L n m)
