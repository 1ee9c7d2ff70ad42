/-! ===== the deeds, on a row ===== -/
def stickG (G : Nat → Int) (s l : Nat) : Nat → Int := up (up (up G (34 + 5 * l + (G (31 + l)).toNat) (s : Int)) (31 + l) (G (31 + l) + 1)) (8 + s) (l : Int)
def peelG (G : Nat → Int) (l : Nat) : Nat → Int := up (up (up G (31 + l) (G (31 + l) - 1)) (34 + 5 * l + ((G (31 + l)).toNat - 1)) 0) (8 + spA G l ((G (31 + l)).toNat - 1)) (-1)
def cnF (G : Nat → Int) (l : Nat) : Nat → (Nat → Int)
  | 0 => G
  | k + 1 => up (up (cnF G l k) (8 + spA G l k) 9) (34 + 5 * l + k) 0
def canG (G : Nat → Int) (L : List Law) (l : Nat) : Nat → Int := up (cnF (up G (28 + l) (min (G (28 + l) + quOnA G L l) 9999)) l (G (31 + l)).toNat) (31 + l) 0
def canStk (G : Nat → Int) (L : List Law) (s l : Nat) : Bool := decide (G (8 + s) = -1) && decide (0 < G (18 + s)) && decide (G (31 + l) < 5) && (decide (G (31 + l) = 0) || !(barredA G L (spA G l ((G (31 + l)).toNat - 1)) s))
abbrev Dd : Type := Int × (Nat → Int)
def stickA (G : Nat → Int) (L : List Law) (n m : Nat) (x y : Int) : Dd := if (0 ≤ x ∧ x < n) ∧ (0 ≤ y ∧ y < m) then (if canStk G L x.toNat y.toNat = true then (G (31 + y.toNat), stickG G x.toNat y.toNat) else (-3, G)) else (-2, G)
def peelA (G : Nat → Int) (m : Nat) (y : Int) : Dd := if 0 ≤ y ∧ y < m then (if G (31 + y.toNat) = 0 then (-3, G) else ((spA G y.toNat ((G (31 + y.toNat)).toNat - 1) : Int), peelG G y.toNat)) else (-2, G)
def canCan (G : Nat → Int) (L : List Law) (l : Nat) : Bool := decide (0 < G (31 + l)) && decide (G (79 + l) ≤ paidA G L l)
def cancelA (G : Nat → Int) (L : List Law) (m : Nat) (y : Int) : Dd := if 0 ≤ y ∧ y < m then (if canCan G L y.toNat = true then (quOnA G L y.toNat, canG G L y.toNat) else (-3, G)) else (-2, G)
/-! stick -/
theorem stick_B {G : Nat → Int} {n m s l : Nat} (B : BW G n m) (hn : n ≤ 10) (hm : m ≤ 3) (hs : s < n) (hl : l < m) (hw : G (8 + s) = -1) (hc : G (31 + l) < 5) : BW (stickG G s l) n m := by
  obtain ⟨b1, b2, b3, b4, b5⟩ := B
  have bl := b3 l hl
  obtain ⟨c, hcc⟩ : ∃ c : Nat, G (31 + l) = c := ⟨(G (31 + l)).toNat, by omega⟩
  have e : ∀ i, i ≠ 34 + 5 * l + c → i ≠ 31 + l → i ≠ 8 + s → stickG G s l i = G i := fun i h1 h2 h3 => by
    unfold stickG; rw [hcc, Int.toNat_natCast, up_n h3, up_n h2, up_n h1]
  have e1 : stickG G s l (34 + 5 * l + c) = s := by unfold stickG; rw [hcc, Int.toNat_natCast, up_n (by omega), up_n (by omega), up_s]
  have e2 : stickG G s l (31 + l) = (c : Int) + 1 := by unfold stickG; rw [up_n (by omega), up_s, hcc]
  have e3 : stickG G s l (8 + s) = l := by unfold stickG; rw [up_s]
  refine ⟨by rw [e 5 (by omega) (by omega) (by omega)]; exact b1, fun u hu => ?_, fun k hk => ?_, fun k i hk hi => ?_, fun k i j hk hij hj => ?_⟩
  · rw [e (18 + u) (by omega) (by omega) (by omega)]
    refine ⟨(b2 u hu).1, ?_⟩
    by_cases eu : u = s
    · subst eu; rw [e3]; omega
    · rw [e (8 + u) (by omega) (by omega) (by omega)]; exact (b2 u hu).2
  · rw [e (28 + k) (by omega) (by omega) (by omega)]
    refine ⟨(b3 k hk).1, ?_⟩
    by_cases ek : k = l
    · subst ek; rw [e2]; omega
    · rw [e (31 + k) (by omega) (by omega) (by omega)]; exact (b3 k hk).2
  · by_cases ek : k = l
    · subst ek
      rw [e2] at hi
      by_cases ei : i = c
      · subst ei; exact ⟨s, e1, hs, e3⟩
      · obtain ⟨u, u1, u2, u3⟩ := b4 k i hk (by omega)
        refine ⟨u, by rw [e _ (by omega) (by omega) (by omega)]; exact u1, u2, ?_⟩
        have hus : u ≠ s := fun q => by rw [q, hw] at u3; omega
        rw [e (8 + u) (by omega) (by omega) (by omega)]; exact u3
    · have bk := b3 k hk
      rw [e (31 + k) (by omega) (by omega) (by omega)] at hi
      obtain ⟨u, u1, u2, u3⟩ := b4 k i hk hi
      refine ⟨u, by rw [e _ (by omega) (by omega) (by omega)]; exact u1, u2, ?_⟩
      have hus : u ≠ s := fun q => by rw [q, hw] at u3; omega
      rw [e (8 + u) (by omega) (by omega) (by omega)]; exact u3
  · by_cases ek : k = l
    · subst ek
      rw [e2] at hj
      by_cases ej : j = c
      · subst ej
        rw [e1, e _ (by omega) (by omega) (by omega)]
        obtain ⟨u, u1, u2, u3⟩ := b4 k i hk (by omega)
        intro q
        have : u = s := by omega
        rw [this, hw] at u3; omega
      · rw [e _ (by omega) (by omega) (by omega), e _ (by omega) (by omega) (by omega)]; exact b5 k i j hk hij (by omega)
    · have bk := b3 k hk
      rw [e (31 + k) (by omega) (by omega) (by omega)] at hj
      rw [e _ (by omega) (by omega) (by omega), e _ (by omega) (by omega) (by omega)]; exact b5 k i j hk hij hj
theorem stick_R {f G : Nat → Int} {n m s l c : Nat} (R : BR f G n m) (B : BW G n m) (hn : n ≤ 10) (hm : m ≤ 3) (hs : s < n) (hl : l < m) (hcc : G (31 + l) = c) (hc : c < 5) : BR (up (up (up f (24 + 5 * l + c) (s : Int)) (21 + l) ((c : Int) + 1)) (11 + s) (l : Int)) (stickG G s l) n m := by
  obtain ⟨r1, r2, r3, r4⟩ := R
  have e : ∀ i, i ≠ 34 + 5 * l + c → i ≠ 31 + l → i ≠ 8 + s → stickG G s l i = G i := fun i h1 h2 h3 => by
    unfold stickG; rw [hcc, Int.toNat_natCast, up_n h3, up_n h2, up_n h1]
  have e1 : stickG G s l (34 + 5 * l + c) = s := by unfold stickG; rw [hcc, Int.toNat_natCast, up_n (by omega), up_n (by omega), up_s]
  have e2 : stickG G s l (31 + l) = (c : Int) + 1 := by unfold stickG; rw [up_n (by omega), up_s, hcc]
  have e3 : stickG G s l (8 + s) = l := by unfold stickG; rw [up_s]
  refine ⟨?_, fun u hu => ?_, fun k hk => ?_, fun k i hk hi => ?_⟩
  · rw [up_n (by omega), up_n (by omega), up_n (by omega), e 5 (by omega) (by omega) (by omega)]; exact r1
  · rw [up_n (j := 1 + u) (by omega), up_n (by omega), up_n (by omega), e (18 + u) (by omega) (by omega) (by omega)]
    refine ⟨(r2 u hu).1, ?_⟩
    by_cases eu : u = s
    · subst eu; rw [e3, up_s, if_neg (by omega)]
    · rw [up_n (by omega), up_n (by omega), up_n (by omega), e (8 + u) (by omega) (by omega) (by omega)]; exact (r2 u hu).2
  · rw [up_n (j := 39 + k) (by omega), up_n (j := 39 + k) (by omega), up_n (j := 39 + k) (by omega), e (28 + k) (by omega) (by omega) (by omega), up_n (by omega)]
    refine ⟨?_, (r3 k hk).2⟩
    by_cases ek : k = l
    · subst ek; rw [e2, up_s]
    · rw [up_n (by omega), up_n (by omega), e (31 + k) (by omega) (by omega) (by omega)]; exact (r3 k hk).1
  · have bk := B.2.2.1 k hk
    by_cases ek : k = l
    · subst ek
      rw [e2] at hi
      rw [up_n (by omega), up_n (by omega)]
      by_cases ei : i = c
      · subst ei; rw [e1, up_s]
      · rw [up_n (by omega), e _ (by omega) (by omega) (by omega)]; exact r4 k i hk (by omega)
    · rw [e (31 + k) (by omega) (by omega) (by omega)] at hi
      rw [up_n (by omega), up_n (by omega), up_n (by omega), e _ (by omega) (by omega) (by omega)]; exact r4 k i hk hi
/-! peel -/
theorem peel_B {G : Nat → Int} {n m l : Nat} (B : BW G n m) (hn : n ≤ 10) (hm : m ≤ 3) (hl : l < m) (hc : G (31 + l) ≠ 0) : BW (peelG G l) n m := by
  have hB := B
  obtain ⟨b1, b2, b3, b4, b5⟩ := B
  have bl := b3 l hl
  obtain ⟨c, hcc⟩ : ∃ c : Nat, G (31 + l) = (c : Int) + 1 := ⟨(G (31 + l)).toNat - 1, by omega⟩
  have hct : (G (31 + l)).toNat - 1 = c := by omega
  have sp := hB.sp (i := c) hl (by omega)
  generalize hs : spA G l c = s at sp
  have e : ∀ i, i ≠ 34 + 5 * l + c → i ≠ 31 + l → i ≠ 8 + s → peelG G l i = G i := fun i h1 h2 h3 => by
    unfold peelG; rw [hct, hs, up_n h3, up_n h1, up_n h2]
  have e2 : peelG G l (31 + l) = c := by unfold peelG; rw [hct, hs, up_n (by omega), up_n (by omega), up_s]; omega
  have e3 : peelG G l (8 + s) = -1 := by unfold peelG; rw [hct, hs, up_s]
  have hds : ∀ i, i < c → G (34 + 5 * l + i) ≠ s := fun i hi q => b5 l i c hl hi (by omega) (by rw [q]; exact sp.1.symm)
  refine ⟨by rw [e 5 (by omega) (by omega) (by omega)]; exact b1, fun u hu => ?_, fun k hk => ?_, fun k i hk hi => ?_, fun k i j hk hij hj => ?_⟩
  · rw [e (18 + u) (by omega) (by omega) (by omega)]
    refine ⟨(b2 u hu).1, ?_⟩
    by_cases eu : u = s
    · subst eu; rw [e3]; omega
    · rw [e (8 + u) (by omega) (by omega) (by omega)]; exact (b2 u hu).2
  · rw [e (28 + k) (by omega) (by omega) (by omega)]
    refine ⟨(b3 k hk).1, ?_⟩
    by_cases ek : k = l
    · subst ek; rw [e2]; omega
    · rw [e (31 + k) (by omega) (by omega) (by omega)]; exact (b3 k hk).2
  · by_cases ek : k = l
    · subst ek
      rw [e2] at hi
      obtain ⟨u, u1, u2, u3⟩ := b4 k i hk (by omega)
      refine ⟨u, by rw [e _ (by omega) (by omega) (by omega)]; exact u1, u2, ?_⟩
      have : u ≠ s := fun q => hds i (by omega) (by rw [u1, q])
      rw [e (8 + u) (by omega) (by omega) (by omega)]; exact u3
    · have bk := b3 k hk
      rw [e (31 + k) (by omega) (by omega) (by omega)] at hi
      obtain ⟨u, u1, u2, u3⟩ := b4 k i hk hi
      refine ⟨u, by rw [e _ (by omega) (by omega) (by omega)]; exact u1, u2, ?_⟩
      have : u ≠ s := fun q => by rw [q] at u3; have := sp.2.2; omega
      rw [e (8 + u) (by omega) (by omega) (by omega)]; exact u3
  · by_cases ek : k = l
    · subst ek
      rw [e2] at hj
      rw [e _ (by omega) (by omega) (by omega), e _ (by omega) (by omega) (by omega)]; exact b5 k i j hk hij (by omega)
    · have bk := b3 k hk
      rw [e (31 + k) (by omega) (by omega) (by omega)] at hj
      rw [e _ (by omega) (by omega) (by omega), e _ (by omega) (by omega) (by omega)]; exact b5 k i j hk hij hj
theorem peel_R {f G : Nat → Int} {n m l c : Nat} (R : BR f G n m) (B : BW G n m) (hn : n ≤ 10) (hm : m ≤ 3) (hl : l < m) (hcc : G (31 + l) = (c : Int) + 1) : BR (up (up f (21 + l) (c : Int)) (11 + spA G l c) (-1)) (peelG G l) n m := by
  have hB := B
  obtain ⟨r1, r2, r3, r4⟩ := R
  obtain ⟨b1, b2, b3, b4, b5⟩ := B
  have bl := b3 l hl
  have hct : (G (31 + l)).toNat - 1 = c := by omega
  have sp := hB.sp (i := c) hl (by omega)
  generalize hs : spA G l c = s at sp ⊢
  have e : ∀ i, i ≠ 34 + 5 * l + c → i ≠ 31 + l → i ≠ 8 + s → peelG G l i = G i := fun i h1 h2 h3 => by
    unfold peelG; rw [hct, hs, up_n h3, up_n h1, up_n h2]
  have e2 : peelG G l (31 + l) = c := by unfold peelG; rw [hct, hs, up_n (by omega), up_n (by omega), up_s]; omega
  have e3 : peelG G l (8 + s) = -1 := by unfold peelG; rw [hct, hs, up_s]
  refine ⟨?_, fun u hu => ?_, fun k hk => ?_, fun k i hk hi => ?_⟩
  · rw [up_n (by omega), up_n (by omega), e 5 (by omega) (by omega) (by omega)]; exact r1
  · rw [up_n (j := 1 + u) (by omega), up_n (by omega), e (18 + u) (by omega) (by omega) (by omega)]
    refine ⟨(r2 u hu).1, ?_⟩
    by_cases eu : u = s
    · subst eu; rw [e3, up_s, if_neg (by omega)]
    · rw [up_n (by omega), up_n (by omega), e (8 + u) (by omega) (by omega) (by omega)]; exact (r2 u hu).2
  · rw [up_n (j := 39 + k) (by omega), up_n (j := 39 + k) (by omega), e (28 + k) (by omega) (by omega) (by omega), up_n (by omega)]
    refine ⟨?_, (r3 k hk).2⟩
    by_cases ek : k = l
    · subst ek; rw [e2, up_s]
    · rw [up_n (by omega), e (31 + k) (by omega) (by omega) (by omega)]; exact (r3 k hk).1
  · have bk := b3 k hk
    by_cases ek : k = l
    · subst ek
      rw [e2] at hi
      rw [up_n (by omega), up_n (by omega), e _ (by omega) (by omega) (by omega)]; exact r4 k i hk (by omega)
    · rw [e (31 + k) (by omega) (by omega) (by omega)] at hi
      rw [up_n (by omega), up_n (by omega), e _ (by omega) (by omega) (by omega)]; exact r4 k i hk hi
