/-! ===== exchanged: the reference's swapped row ===== -/
def swG (G : Nat → Int) (l a b : Nat) : Nat → Int := up (up G (34 + 5 * l + a) (G (34 + 5 * l + b))) (34 + 5 * l + b) (G (34 + 5 * l + a))
theorem swG_o {G : Nat → Int} {l a b i : Nat} (h1 : i ≠ 34 + 5 * l + a) (h2 : i ≠ 34 + 5 * l + b) : swG G l a b i = G i := by
  unfold swG; rw [up_n h2, up_n h1]
theorem swG_i {G : Nat → Int} {l a b i : Nat} : swG G l a b (34 + 5 * l + i) = G (34 + 5 * l + swp a b i) := by
  unfold swp
  by_cases ea : i = a
  · rw [if_pos ea]
    by_cases eb : i = b
    · have : a = b := by omega
      subst this; subst ea
      unfold swG; rw [up_s]
    · subst ea
      unfold swG; rw [up_n (by omega), up_s]
  · rw [if_neg ea]
    by_cases eb : i = b
    · rw [if_pos eb]; subst eb
      unfold swG; rw [up_s]
    · rw [if_neg eb]; exact swG_o (by omega) (by omega)
theorem swp_inj {a b i k : Nat} (h : swp a b i = swp a b k) : i = k := by
  unfold swp at h
  split at h <;> split at h <;> (try split at h) <;> (try split at h) <;> omega
theorem swG_B {G : Nat → Int} {n m l a b : Nat} (B : BW G n m) (hn : n ≤ 10) (hm : m ≤ 3) (hl : l < m) (ha : (a : Int) < G (31 + l)) (hb : (b : Int) < G (31 + l)) : BW (swG G l a b) n m := by
  obtain ⟨b1, b2, b3, b4, b5⟩ := B
  have c1 := b3 l hl
  have o : ∀ i, (i < 34 ∨ 49 ≤ i) → swG G l a b i = G i := fun i hi => swG_o (by omega) (by omega)
  have ol : ∀ k i, k < m → k ≠ l → i < 5 → swG G l a b (34 + 5 * k + i) = G (34 + 5 * k + i) := fun k i h1 h2 h3 => swG_o (by omega) (by omega)
  refine ⟨by rw [o 5 (by omega)]; exact b1, fun s hs => ?_, fun k hk => ?_, fun k i hk hi => ?_, fun k i j hk hij hj => ?_⟩
  · rw [o _ (by omega), o _ (by omega)]; exact b2 s hs
  · rw [o _ (by omega), o _ (by omega)]; exact b3 k hk
  · have ck := b3 k hk
    rw [o (31 + k) (by omega)] at hi
    by_cases ek : k = l
    · subst ek
      have sl := swp_lt (a := a) (b := b) (i := i) (c := (G (31 + k)).toNat) (by omega) (by omega) (by omega)
      obtain ⟨u, u1, u2, u3⟩ := b4 k (swp a b i) hk (by omega)
      exact ⟨u, by rw [swG_i]; exact u1, u2, by rw [o _ (by omega)]; exact u3⟩
    · obtain ⟨u, u1, u2, u3⟩ := b4 k i hk hi
      exact ⟨u, by rw [ol k i hk ek (by omega)]; exact u1, u2, by rw [o _ (by omega)]; exact u3⟩
  · have ck := b3 k hk
    rw [o (31 + k) (by omega)] at hj
    by_cases ek : k = l
    · subst ek
      have s1 := swp_lt (a := a) (b := b) (i := i) (c := (G (31 + k)).toNat) (by omega) (by omega) (by omega)
      have s2 := swp_lt (a := a) (b := b) (i := j) (c := (G (31 + k)).toNat) (by omega) (by omega) (by omega)
      rw [swG_i, swG_i]
      rcases Nat.lt_trichotomy (swp a b i) (swp a b j) with q | q | q
      · exact b5 k _ _ hk q (by omega)
      · have := swp_inj q; omega
      · exact fun z => b5 k _ _ hk q (by omega) z.symm
    · rw [ol k i hk ek (by omega), ol k j hk ek (by omega)]; exact b5 k i j hk hij hj
theorem quarrelA_cg {G G2 : Nat → Int} {L : List Law} {s r : Nat} (e : ∀ i, (i < 8 ∨ (18 ≤ i ∧ i < 28) ∨ 49 ≤ i) → G2 i = G i) (hs : s < 10) : quarrelA G2 L s r = quarrelA G L s r := by
  have ef : fct G2 s (some r) = fct G s (some r) := by
    funext k
    unfold fct
    split
    · exact e _ (by omega)
    · exact e _ (by omega)
    · exact e _ (by omega)
    · exact e _ (by omega)
    · exact e _ (by omega)
    · exact e _ (by omega)
    · exact e _ (by omega)
    · exact e _ (by omega)
    · rfl
  unfold quarrelA tellsA
  rw [ef, e 4 (by omega), e _ (by omega), e _ (by omega), e _ (by omega), e _ (by omega)]
theorem psum_cg {f g : Nat → Int} : ∀ k, (∀ i, i < k → f i = g i) → psum f k = psum g k := by
  intro k
  induction k with
  | zero => intro _; rfl
  | succ k ih =>
    intro h
    show psum f k + f k = psum g k + g k
    rw [ih (fun i hi => h i (by omega)), h k (by omega)]
theorem swG_q {G : Nat → Int} {n m l a b : Nat} {L : List Law} (B : BW G n m) (hn : n ≤ 10) (hm : m ≤ 3) (hl : l < m) (ha : (a : Int) < G (31 + l)) (hb : (b : Int) < G (31 + l)) : quOnA (swG G l a b) L l = exV G L l a b := by
  have c1 := B.2.2.1 l hl
  have sp : ∀ i, spA (swG G l a b) l i = spA G l (swp a b i) := fun i => by unfold spA; rw [swG_i]
  unfold quOnA exV
  rw [swG_o (i := 31 + l) (by omega) (by omega)]
  refine psum_cg _ (fun i hi => ?_)
  have s1 := swp_lt (a := a) (b := b) (i := i) (c := (G (31 + l)).toNat) (by omega) (by omega) (by omega)
  have sb := (B.sp (i := swp a b i) hl (by omega)).2.1
  unfold exQ
  rw [sp, sp]
  exact quarrelA_cg (fun i hi => swG_o (by omega) (by omega)) (by omega)
theorem swG_back {G : Nat → Int} {l a b : Nat} : up (up (swG G l a b) (34 + 5 * l + b) (swG G l a b (34 + 5 * l + a))) (34 + 5 * l + a) (G (34 + 5 * l + a)) = G := by
  funext i
  by_cases e1 : i = 34 + 5 * l + a
  · rw [e1, up_s]
  · rw [up_n e1]
    by_cases e2 : i = 34 + 5 * l + b
    · rw [e2, up_s]
      by_cases eab : a = b
      · subst eab; omega
      · unfold swG; rw [up_n (by omega), up_s]
    · rw [up_n e2, swG_o e1 e2]
