/-! ===== the class's Movers ===== -/
section MOVER
variable {sc : Nat × (Nat → Int)} {d : Nat} {sh : Shp} {sl : Nat} {h : Sto} {Q : Pst} {G : Nat → Int} {n m : Nat} {L : List Law}
theorem sp_stickOn_a {x y : Int} (hx : I32 x) (hy : I32 y) (C : CJ sh h G n m L 10) (hq : ∀ h', Fr [10, 48, 49, 81, 82] [] h h' → BR (h' 10) (stickA G L n m x y).2 n m → Q (0, (stickA G L n m x y).1) sh sl h') : WM sc (d + 5) 90 [(2, 50), (0, x), (0, y)] sh sl h Q := by
  have hC := C
  obtain ⟨X, S, R, W, B⟩ := C
  have hn10 := W.1.2.1
  have hm3 := W.1.2.2.2.1
  have hno : ¬ ((0 ≤ x ∧ x < n) ∧ (0 ≤ y ∧ y < m)) → Q (0, -2) sh sl h := fun hc => by
    have := hq h (Fr.refl h)
    unfold stickA at this
    rw [if_neg hc] at this
    exact this R
  rw [B_90_0a X, hx.w, hy.w, S.1.1, S.1.2.1, w32_id (a := (n : Int)) (by omega) (by omega), w32_id (a := (m : Int)) (by omega) (by omega)]
  by_cases c1 : x < 0
  · rw [if_pos c1]; exact hno (by omega)
  rw [if_neg c1]
  by_cases c2 : (n : Int) ≤ x
  · rw [if_pos c2]; exact hno (by omega)
  rw [if_neg c2]
  by_cases c3 : y < 0
  · rw [if_pos c3]; exact hno (by omega)
  rw [if_neg c3]
  by_cases c4 : y < m
  case neg => rw [if_neg c4]; exact hno (by omega)
  rw [if_pos c4]
  obtain ⟨s, rfl⟩ : ∃ s : Nat, x = s := ⟨x.toNat, by omega⟩
  obtain ⟨l, rfl⟩ : ∃ l : Nat, y = l := ⟨y.toNat, by omega⟩
  have hs : s < n := by omega
  have hl : l < m := by omega
  have bl := B.2.2.1 l hl
  have bs := B.2.1 s hs
  obtain ⟨c, hcc⟩ : ∃ c : Nat, G (31 + l) = c := ⟨(G (31 + l)).toNat, by omega⟩
  have hst : stickA G L n m (s : Int) (l : Int) = if canStk G L s l = true then ((c : Int), stickG G s l) else (-3, G) := by
    unfold stickA; rw [if_pos (by omega), Int.toNat_natCast, Int.toNat_natCast, hcc]
  rw [hst] at hq
  have hcan : canStk G L s l = (decide (G (8 + s) = -1) && decide (0 < G (18 + s)) && decide ((c : Int) < 5) && (decide ((c : Int) = 0) || !(barredA G L (spA G l (c - 1)) s))) := by
    unfold canStk; rw [hcc, Int.toNat_natCast]
  have hno3 : canStk G L s l = false → ∀ h1, Fr JP [] h h1 → Q (0, -3) sh sl h1 := fun hf h1 F1 => by
    have := hq h1 (F1.mono rfl)
    rw [hf] at this
    exact this (by rw [F1.row 10 rfl]; exact R)
  refine (bn_sizeOf (b := 9) (c := 10) X.bd (show l < 3 by omega)).mpr ?_
  simp only [pushR0]
  rw [B_90_41a X]
  refine (bn_homeOf (b := 9) (c := 10) X.bd (show s < 10 by omega)).mpr ?_
  simp only [pushR0]
  rw [B_90_50a X]
  by_cases c5 : G (8 + s) = -1
  case neg =>
    rw [if_pos (fun q => c5 (by have := (home_in R B hm3 hs).mp q; unfold inP at this; simpa using this))]
    exact hno3 (by rw [hcan]; simp [c5]) h (Fr.refl h)
  rw [if_neg (by simpa using (home_in R B hm3 hs).mpr (by unfold inP; simpa using c5))]
  refine (bn_glueOf (b := 9) (c := 10) X.bd (show s < 10 by omega)).mpr ?_
  simp only [pushR0]
  rw [B_90_62a X, (R.2.1 s hs).1, (R.2.2.1 l hl).1, hcc, w32_id (a := G (18 + s)) (by omega) (by omega), w32_id (a := (c : Int)) (by omega) (by omega)]
  by_cases c6 : G (18 + s) = 0
  · rw [if_pos c6]; exact hno3 (by rw [hcan]; simp [c6]) h (Fr.refl h)
  rw [if_neg c6]
  by_cases c7 : (c : Int) < 5
  case neg => rw [if_neg c7]; exact hno3 (by rw [hcan]; simp [c7]) h (Fr.refl h)
  rw [if_pos c7]
  have hgo : canStk G L s l = true → ∀ h1, Fr JP [] h h1 → WM sc (d + 4) 91 [(2, 9), (0, (l : Int)), (0, (c : Int)), (0, (s : Int))] sh sl h1 (fun r sh1 sl1 h1 => WF sc (d + 4 + 1) 90 112 [(2, 50), (0, (s : Int)), (0, (l : Int)), (0, (c : Int))] (pushR r []) sh1 sl1 h1 Q) := by
    intro hy1 h1 F1
    have X1 : Fix sh h1 := F1.fix X (by decide +kernel)
    have X2 : Fix sh (setH h1 10 (24 + 5 * l + c) (s : Int)) := X1.a (by decide +kernel)
    have X3 : Fix sh (setH (setH h1 10 (24 + 5 * l + c) (s : Int)) 10 (21 + l) ((c : Int) + 1)) := X2.a (by decide +kernel)
    have X4 : Fix sh (setH (setH (setH h1 10 (24 + 5 * l + c) (s : Int)) 10 (21 + l) ((c : Int) + 1)) 10 (11 + s) (l : Int)) := X3.a (by decide +kernel)
    refine (bn_setStampAt (b := 9) (c := 10) X1.bd (show l < 3 by omega) (show c < 5 by omega)).mpr ?_
    simp only [pushR9]
    rw [B_90_112a X2]
    refine (bn_setSize (b := 9) (c := 10) X2.bd (show l < 3 by omega)).mpr ?_
    simp only [pushR9]
    rw [B_90_123a X3]
    refine (bn_setHome (b := 9) (c := 10) X3.bd (show s < 10 by omega)).mpr ?_
    simp only [pushR9]
    rw [B_90_132a X4]
    have hFr : Fr [10, 48, 49, 81, 82] [] h (setH (setH (setH h1 10 (24 + 5 * l + c) (s : Int)) 10 (21 + l) ((c : Int) + 1)) 10 (11 + s) (l : Int)) := (((F1.mono rfl).setP rfl).setP rfl).setP rfl
    have := hq _ hFr
    rw [hy1] at this
    refine this ?_
    simp only [setH_r, F1.row 10 rfl]
    exact stick_R R B hn10 hm3 hs hl hcc (by omega)
  by_cases c8 : (c : Int) ≤ 0
  · rw [if_pos c8]
    have hc0 : c = 0 := by omega
    exact hgo (by rw [hcan]; simp [c5, hc0]; omega) h (Fr.refl h)
  · rw [if_neg c8]
    have ec : (c : Int) - 1 = ((c - 1 : Nat) : Int) := by omega
    have sp := B.sp (i := c - 1) hl (by omega)
    rw [ec]
    refine (bn_stampAt (b := 9) (c := 10) X.bd (show l < 3 by omega) (show c - 1 < 5 by omega)).mpr ?_
    simp only [pushR0]
    rw [B_90_92a X, R.2.2.2 l (c - 1) hl (by omega), sp.1]
    refine sp_barred JQa hC sp.2.1 hs (fun h1 F1 => ?_)
    have X1 : Fix sh h1 := F1.fix X (by decide +kernel)
    simp only [pushR0]
    rw [B_90_96a X1]
    by_cases hb : barredA G L (spA G l (c - 1)) s = true
    · rw [if_pos hb, show w32 1 = 1 from rfl, if_neg (by decide)]
      exact hno3 (by rw [hcan]; simp [hb]; omega) h1 F1
    · rw [if_neg hb, w32_0, if_pos rfl]
      exact hgo (by rw [hcan]; simp [hb, c5]; omega) h1 F1
theorem sp_peelFrom_a {y : Int} (hy : I32 y) (C : CJ sh h G n m L 10) (hq : ∀ h', Fr [10] [] h h' → BR (h' 10) (peelA G m y).2 n m → Q (0, (peelA G m y).1) sh sl h') : WM sc (d + 2) 92 [(2, 50), (0, y)] sh sl h Q := by
  obtain ⟨X, S, R, W, B⟩ := C
  have hn10 := W.1.2.1
  have hm3 := W.1.2.2.2.1
  have hno : ¬ (0 ≤ y ∧ y < m) → Q (0, -2) sh sl h := fun hc => by
    have := hq h (Fr.refl h)
    unfold peelA at this
    rw [if_neg hc] at this
    exact this R
  rw [B_92_0a X, hy.w, S.1.2.1, w32_id (a := (m : Int)) (by omega) (by omega)]
  by_cases c3 : y < 0
  · rw [if_pos c3]; exact hno (by omega)
  rw [if_neg c3]
  by_cases c4 : y < m
  case neg => rw [if_neg c4]; exact hno (by omega)
  rw [if_pos c4]
  obtain ⟨l, rfl⟩ : ∃ l : Nat, y = l := ⟨y.toNat, by omega⟩
  have hl : l < m := by omega
  have bl := B.2.2.1 l hl
  have hpe : peelA G m (l : Int) = if G (31 + l) = 0 then (-3, G) else ((spA G l ((G (31 + l)).toNat - 1) : Int), peelG G l) := by
    unfold peelA; rw [if_pos (by omega), Int.toNat_natCast]
  rw [hpe] at hq
  refine (bn_sizeOf (b := 9) (c := 10) X.bd (show l < 3 by omega)).mpr ?_
  simp only [pushR0]
  rw [B_92_26a X, (R.2.2.1 l hl).1, w32_id (a := G (31 + l) - 1) (by omega) (by omega)]
  by_cases c5 : G (31 + l) = 0
  · rw [if_neg (by omega)]
    have := hq h (Fr.refl h)
    rw [if_pos c5] at this
    exact this R
  · rw [if_pos (by omega)]
    obtain ⟨c, hcc⟩ : ∃ c : Nat, G (31 + l) = (c : Int) + 1 := ⟨(G (31 + l)).toNat - 1, by omega⟩
    have sp := B.sp (i := c) hl (by omega)
    have ec : G (31 + l) - 1 = (c : Int) := by omega
    have ect : (G (31 + l)).toNat - 1 = c := by omega
    rw [if_neg c5, ect] at hq
    rw [ec]
    refine (bn_stampAt (b := 9) (c := 10) X.bd (show l < 3 by omega) (show c < 5 by omega)).mpr ?_
    simp only [pushR0]
    rw [B_92_45a X, R.2.2.2 l c hl (by omega), sp.1]
    have X2 : Fix sh (setH h 10 (21 + l) (c : Int)) := X.a (by decide +kernel)
    have X3 : Fix sh (setH (setH h 10 (21 + l) (c : Int)) 10 (11 + spA G l c) (-1)) := X2.a (by decide +kernel)
    refine (bn_setSize (b := 9) (c := 10) X.bd (show l < 3 by omega)).mpr ?_
    simp only [pushR9]
    rw [B_92_55a X2]
    refine (bn_setHome (b := 9) (c := 10) X2.bd (show spA G l c < 10 by omega)).mpr ?_
    simp only [pushR9]
    rw [B_92_64a X3]
    refine hq _ (((Fr.refl h).setP rfl).setP rfl) ?_
    simp only [setH_r]
    exact peel_R R B hn10 hm3 hl hcc
theorem sp_stickOn_b {x y : Int} (hx : I32 x) (hy : I32 y) (C : CJ sh h G n m L 78) (hq : ∀ h', Fr [78, 48, 49, 81, 82] [] h h' → BR (h' 78) (stickA G L n m x y).2 n m → Q (0, (stickA G L n m x y).1) sh sl h') : WM sc (d + 5) 90 [(2, 79), (0, x), (0, y)] sh sl h Q := by
  have hC := C
  obtain ⟨X, S, R, W, B⟩ := C
  have hn10 := W.1.2.1
  have hm3 := W.1.2.2.2.1
  have hno : ¬ ((0 ≤ x ∧ x < n) ∧ (0 ≤ y ∧ y < m)) → Q (0, -2) sh sl h := fun hc => by
    have := hq h (Fr.refl h)
    unfold stickA at this
    rw [if_neg hc] at this
    exact this R
  rw [B_90_0b X, hx.w, hy.w, S.1.1, S.1.2.1, w32_id (a := (n : Int)) (by omega) (by omega), w32_id (a := (m : Int)) (by omega) (by omega)]
  by_cases c1 : x < 0
  · rw [if_pos c1]; exact hno (by omega)
  rw [if_neg c1]
  by_cases c2 : (n : Int) ≤ x
  · rw [if_pos c2]; exact hno (by omega)
  rw [if_neg c2]
  by_cases c3 : y < 0
  · rw [if_pos c3]; exact hno (by omega)
  rw [if_neg c3]
  by_cases c4 : y < m
  case neg => rw [if_neg c4]; exact hno (by omega)
  rw [if_pos c4]
  obtain ⟨s, rfl⟩ : ∃ s : Nat, x = s := ⟨x.toNat, by omega⟩
  obtain ⟨l, rfl⟩ : ∃ l : Nat, y = l := ⟨y.toNat, by omega⟩
  have hs : s < n := by omega
  have hl : l < m := by omega
  have bl := B.2.2.1 l hl
  have bs := B.2.1 s hs
  obtain ⟨c, hcc⟩ : ∃ c : Nat, G (31 + l) = c := ⟨(G (31 + l)).toNat, by omega⟩
  have hst : stickA G L n m (s : Int) (l : Int) = if canStk G L s l = true then ((c : Int), stickG G s l) else (-3, G) := by
    unfold stickA; rw [if_pos (by omega), Int.toNat_natCast, Int.toNat_natCast, hcc]
  rw [hst] at hq
  have hcan : canStk G L s l = (decide (G (8 + s) = -1) && decide (0 < G (18 + s)) && decide ((c : Int) < 5) && (decide ((c : Int) = 0) || !(barredA G L (spA G l (c - 1)) s))) := by
    unfold canStk; rw [hcc, Int.toNat_natCast]
  have hno3 : canStk G L s l = false → ∀ h1, Fr JP [] h h1 → Q (0, -3) sh sl h1 := fun hf h1 F1 => by
    have := hq h1 (F1.mono rfl)
    rw [hf] at this
    exact this (by rw [F1.row 78 rfl]; exact R)
  refine (bn_sizeOf (b := 77) (c := 78) X.bdR (show l < 3 by omega)).mpr ?_
  simp only [pushR0]
  rw [B_90_41b X]
  refine (bn_homeOf (b := 77) (c := 78) X.bdR (show s < 10 by omega)).mpr ?_
  simp only [pushR0]
  rw [B_90_50b X]
  by_cases c5 : G (8 + s) = -1
  case neg =>
    rw [if_pos (fun q => c5 (by have := (home_in R B hm3 hs).mp q; unfold inP at this; simpa using this))]
    exact hno3 (by rw [hcan]; simp [c5]) h (Fr.refl h)
  rw [if_neg (by simpa using (home_in R B hm3 hs).mpr (by unfold inP; simpa using c5))]
  refine (bn_glueOf (b := 77) (c := 78) X.bdR (show s < 10 by omega)).mpr ?_
  simp only [pushR0]
  rw [B_90_62b X, (R.2.1 s hs).1, (R.2.2.1 l hl).1, hcc, w32_id (a := G (18 + s)) (by omega) (by omega), w32_id (a := (c : Int)) (by omega) (by omega)]
  by_cases c6 : G (18 + s) = 0
  · rw [if_pos c6]; exact hno3 (by rw [hcan]; simp [c6]) h (Fr.refl h)
  rw [if_neg c6]
  by_cases c7 : (c : Int) < 5
  case neg => rw [if_neg c7]; exact hno3 (by rw [hcan]; simp [c7]) h (Fr.refl h)
  rw [if_pos c7]
  have hgo : canStk G L s l = true → ∀ h1, Fr JP [] h h1 → WM sc (d + 4) 91 [(2, 77), (0, (l : Int)), (0, (c : Int)), (0, (s : Int))] sh sl h1 (fun r sh1 sl1 h1 => WF sc (d + 4 + 1) 90 112 [(2, 79), (0, (s : Int)), (0, (l : Int)), (0, (c : Int))] (pushR r []) sh1 sl1 h1 Q) := by
    intro hy1 h1 F1
    have X1 : Fix sh h1 := F1.fix X (by decide +kernel)
    have X2 : Fix sh (setH h1 78 (24 + 5 * l + c) (s : Int)) := X1.a (by decide +kernel)
    have X3 : Fix sh (setH (setH h1 78 (24 + 5 * l + c) (s : Int)) 78 (21 + l) ((c : Int) + 1)) := X2.a (by decide +kernel)
    have X4 : Fix sh (setH (setH (setH h1 78 (24 + 5 * l + c) (s : Int)) 78 (21 + l) ((c : Int) + 1)) 78 (11 + s) (l : Int)) := X3.a (by decide +kernel)
    refine (bn_setStampAt (b := 77) (c := 78) X1.bdR (show l < 3 by omega) (show c < 5 by omega)).mpr ?_
    simp only [pushR9]
    rw [B_90_112b X2]
    refine (bn_setSize (b := 77) (c := 78) X2.bdR (show l < 3 by omega)).mpr ?_
    simp only [pushR9]
    rw [B_90_123b X3]
    refine (bn_setHome (b := 77) (c := 78) X3.bdR (show s < 10 by omega)).mpr ?_
    simp only [pushR9]
    rw [B_90_132b X4]
    have hFr : Fr [78, 48, 49, 81, 82] [] h (setH (setH (setH h1 78 (24 + 5 * l + c) (s : Int)) 78 (21 + l) ((c : Int) + 1)) 78 (11 + s) (l : Int)) := (((F1.mono rfl).setP rfl).setP rfl).setP rfl
    have := hq _ hFr
    rw [hy1] at this
    refine this ?_
    simp only [setH_r, F1.row 78 rfl]
    exact stick_R R B hn10 hm3 hs hl hcc (by omega)
  by_cases c8 : (c : Int) ≤ 0
  · rw [if_pos c8]
    have hc0 : c = 0 := by omega
    exact hgo (by rw [hcan]; simp [c5, hc0]; omega) h (Fr.refl h)
  · rw [if_neg c8]
    have ec : (c : Int) - 1 = ((c - 1 : Nat) : Int) := by omega
    have sp := B.sp (i := c - 1) hl (by omega)
    rw [ec]
    refine (bn_stampAt (b := 77) (c := 78) X.bdR (show l < 3 by omega) (show c - 1 < 5 by omega)).mpr ?_
    simp only [pushR0]
    rw [B_90_92b X, R.2.2.2 l (c - 1) hl (by omega), sp.1]
    refine sp_barred JQb hC sp.2.1 hs (fun h1 F1 => ?_)
    have X1 : Fix sh h1 := F1.fix X (by decide +kernel)
    simp only [pushR0]
    rw [B_90_96b X1]
    by_cases hb : barredA G L (spA G l (c - 1)) s = true
    · rw [if_pos hb, show w32 1 = 1 from rfl, if_neg (by decide)]
      exact hno3 (by rw [hcan]; simp [hb]; omega) h1 F1
    · rw [if_neg hb, w32_0, if_pos rfl]
      exact hgo (by rw [hcan]; simp [hb, c5]; omega) h1 F1
theorem sp_peelFrom_b {y : Int} (hy : I32 y) (C : CJ sh h G n m L 78) (hq : ∀ h', Fr [78] [] h h' → BR (h' 78) (peelA G m y).2 n m → Q (0, (peelA G m y).1) sh sl h') : WM sc (d + 2) 92 [(2, 79), (0, y)] sh sl h Q := by
  obtain ⟨X, S, R, W, B⟩ := C
  have hn10 := W.1.2.1
  have hm3 := W.1.2.2.2.1
  have hno : ¬ (0 ≤ y ∧ y < m) → Q (0, -2) sh sl h := fun hc => by
    have := hq h (Fr.refl h)
    unfold peelA at this
    rw [if_neg hc] at this
    exact this R
  rw [B_92_0b X, hy.w, S.1.2.1, w32_id (a := (m : Int)) (by omega) (by omega)]
  by_cases c3 : y < 0
  · rw [if_pos c3]; exact hno (by omega)
  rw [if_neg c3]
  by_cases c4 : y < m
  case neg => rw [if_neg c4]; exact hno (by omega)
  rw [if_pos c4]
  obtain ⟨l, rfl⟩ : ∃ l : Nat, y = l := ⟨y.toNat, by omega⟩
  have hl : l < m := by omega
  have bl := B.2.2.1 l hl
  have hpe : peelA G m (l : Int) = if G (31 + l) = 0 then (-3, G) else ((spA G l ((G (31 + l)).toNat - 1) : Int), peelG G l) := by
    unfold peelA; rw [if_pos (by omega), Int.toNat_natCast]
  rw [hpe] at hq
  refine (bn_sizeOf (b := 77) (c := 78) X.bdR (show l < 3 by omega)).mpr ?_
  simp only [pushR0]
  rw [B_92_26b X, (R.2.2.1 l hl).1, w32_id (a := G (31 + l) - 1) (by omega) (by omega)]
  by_cases c5 : G (31 + l) = 0
  · rw [if_neg (by omega)]
    have := hq h (Fr.refl h)
    rw [if_pos c5] at this
    exact this R
  · rw [if_pos (by omega)]
    obtain ⟨c, hcc⟩ : ∃ c : Nat, G (31 + l) = (c : Int) + 1 := ⟨(G (31 + l)).toNat - 1, by omega⟩
    have sp := B.sp (i := c) hl (by omega)
    have ec : G (31 + l) - 1 = (c : Int) := by omega
    have ect : (G (31 + l)).toNat - 1 = c := by omega
    rw [if_neg c5, ect] at hq
    rw [ec]
    refine (bn_stampAt (b := 77) (c := 78) X.bdR (show l < 3 by omega) (show c < 5 by omega)).mpr ?_
    simp only [pushR0]
    rw [B_92_45b X, R.2.2.2 l c hl (by omega), sp.1]
    have X2 : Fix sh (setH h 78 (21 + l) (c : Int)) := X.a (by decide +kernel)
    have X3 : Fix sh (setH (setH h 78 (21 + l) (c : Int)) 78 (11 + spA G l c) (-1)) := X2.a (by decide +kernel)
    refine (bn_setSize (b := 77) (c := 78) X.bdR (show l < 3 by omega)).mpr ?_
    simp only [pushR9]
    rw [B_92_55b X2]
    refine (bn_setHome (b := 77) (c := 78) X2.bdR (show spA G l c < 10 by omega)).mpr ?_
    simp only [pushR9]
    rw [B_92_64b X3]
    refine hq _ (((Fr.refl h).setP rfl).setP rfl) ?_
    simp only [setH_r]
    exact peel_R R B hn10 hm3 hl hcc
end MOVER
