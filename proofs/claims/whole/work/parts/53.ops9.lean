/-! holds -/
def hoS (c r g : Int) : Int := (w64 (c * (w32 (10 - (w32 (r * (10 - g))).tdiv 10)))).tdiv 10
def hoA (G : Nat → Int) (l : Nat) : Nat → Int
  | 0 => 1000000000000
  | k + 1 => hoS (hoA G l k) (G 6) (G (18 + spA G l k))
section HOLDS
variable {sc : Nat × (Nat → Int)} {d : Nat} {sh : Shp} {sl : Nat} {h : Sto} {Q : Pst} {G : Nat → Int} {n m : Nat} {L : List Law}
theorem lp_holds {l : Nat} (C : CJ sh h G n m L 10) (hl : l < m) (hq : Q (1, hoA G l (G (31 + l)).toNat) sh sl h) : ∀ (rem i : Nat) (A I : Int) (j6 : V), i + rem = (G (31 + l)).toNat → A = hoA G l i → I = i → WF sc (d + 3) 144 27 [(2, 0), (0, (l : Int)), (2, 9), (1, A), (9, 0), (0, I), j6] [] sh sl h Q := by
  obtain ⟨X, S, R, W, B⟩ := C
  have hm3 := W.1.2.2.2.1
  have hn10 := W.1.2.1
  have bz := B.2.2.1 l hl
  intro rem
  induction rem with
  | zero =>
    intro i A I j6 hi hA hI
    subst hA hI
    rw [B_144_27 X]
    refine (bn_sizeOf (b := 9) (c := 10) X.bd (show l < 3 by omega)).mpr ?_
    simp only [pushR0]
    have : i = (G (31 + l)).toNat := by omega
    rw [B_144_34 X, (R.2.2.1 l hl).1, w32_id (a := G (31 + l)) (by omega) (by omega), w32_id (a := (i : Int)) (by omega) (by omega), if_pos (by omega), this]
    exact hq
  | succ rem ih =>
    intro i A I j6 hi hA hI
    subst hA hI
    have sp := B.sp (i := i) hl (by omega)
    rw [B_144_27 X]
    refine (bn_sizeOf (b := 9) (c := 10) X.bd (show l < 3 by omega)).mpr ?_
    simp only [pushR0]
    rw [B_144_34 X, (R.2.2.1 l hl).1, w32_id (a := G (31 + l)) (by omega) (by omega), w32_id (a := (i : Int)) (by omega) (by omega), if_neg (by omega)]
    refine (bn_stampAt (b := 9) (c := 10) X.bd (show l < 3 by omega) (show i < 5 by omega)).mpr ?_
    simp only [pushR0]
    rw [B_144_54 X, R.2.2.2 l i hl (by omega), sp.1]
    refine (bn_glueOf (b := 9) (c := 10) X.bd (show spA G l i < 10 by omega)).mpr ?_
    simp only [pushR0]
    rw [B_144_57 X, (R.2.1 _ sp.2.1).1, S.1.2.2.2.1]
    exact ih (i + 1) _ _ _ (by omega) rfl (by simp)
theorem lp_mholds {l : Nat} (M : MJ sh h G n m L) (hl : l < m) (hq : Q (1, hoA G l (G (31 + l)).toNat) sh sl h) : ∀ (rem i : Nat) (A I : Int), i + rem = (G (31 + l)).toNat → A = hoA G l i → I = i → WF sc (d + 3) 266 24 [(2, 85), (0, (l : Int)), (1, A), (9, 0), (0, I)] [] sh sl h Q := by
  obtain ⟨X, e87, e20, W, B⟩ := M
  have hm3 := W.1.2.2.2.1
  have hn10 := W.1.2.1
  have bz := B.2.2.1 l hl
  intro rem
  induction rem with
  | zero =>
    intro i A I hi hA hI
    subst hA hI
    have : i = (G (31 + l)).toNat := by omega
    rw [B_266_24 X, w32_nat (a := 31 + (l : Int)) (n := 31 + l) (by omega) (by omega), Int.toNat_natCast, e87, w32_id (a := G (31 + l)) (by omega) (by omega), w32_id (a := (i : Int)) (by omega) (by omega), if_pos (by omega), this]
    exact ⟨⟨by omega, by omega⟩, hq⟩
  | succ rem ih =>
    intro i A I hi hA hI
    subst hA hI
    have sp := B.sp (i := i) hl (by omega)
    rw [B_266_24 X, w32_nat (a := 31 + (l : Int)) (n := 31 + l) (by omega) (by omega), Int.toNat_natCast, e87, w32_id (a := G (31 + l)) (by omega) (by omega), w32_id (a := (i : Int)) (by omega) (by omega), if_neg (by omega), sp_mstampAt X rfl rfl (by omega) (show i < 5 by omega), e87, sp.1]
    refine ⟨⟨by omega, by omega⟩, ?_⟩
    simp only [pushR0]
    rw [B_266_63 X, w32_nat (a := 18 + ((spA G l i : Nat) : Int)) (n := 18 + spA G l i) (by omega) (by omega), Int.toNat_natCast, e87]
    exact ⟨⟨by omega, by omega⟩, ih (i + 1) _ _ (by omega) rfl (by simp)⟩
end HOLDS
theorem op_holds {x : Int} (hx : I32 x) : OpOK 144 266 1 [(0, x)] := by
  intro sc d sh sl h I
  have X := I.fx
  obtain ⟨n, m, L, Lv, Hs⟩ := I.live
  have C := Lv.cj X
  have M := Lv.mj X I.od
  obtain ⟨S, R, W, B⟩ := Lv
  have hm3 := W.1.2.2.2.1
  have X2 : Fix sh (setH h 85 0 0) := X.s (by decide +kernel)
  have e87 : setH h 85 0 0 87 = h 87 := setH_o (by decide)
  have IT := I.thrown
  rw [B_144_0 X, sp_cLetter X hx S.1.2.1 hm3]
  simp only [pushR0]
  rw [B_144_5 X]
  by_cases hs : 0 ≤ x ∧ x < m
  · obtain ⟨l, rfl⟩ : ∃ l : Nat, x = l := ⟨x.toNat, by omega⟩
    have hl : l < m := by omega
    rw [if_pos hs, show w32 1 = 1 from rfl, if_pos (by decide)]
    refine lp_holds C hl ?_ (h 87 (31 + l)).toNat 0 _ _ _ (by omega) rfl rfl
    rw [B_266_0 X, sp_mLetter X2 hx (by rw [e87]; exact W.1.2.2.1) hm3, if_pos hs]
    simp only [pushR0]
    rw [B_266_10 X2, show w32 1 = 1 from rfl, if_pos (by decide)]
    exact lp_mholds (M.behind (Fr.refl h)) hl ⟨_, rfl, rfl, by omega, by omega, IT⟩ (h 87 (31 + l)).toNat 0 _ _ (by omega) rfl rfl
  · rw [if_neg hs, w32_0, if_neg (by simp), B_266_0 X, sp_mLetter X2 hx (by rw [e87]; exact W.1.2.2.1) hm3, if_neg hs]
    simp only [pushR0]
    rw [B_266_10 X2, w32_0, if_neg (by simp)]
    exact ⟨_, rfl, rfl, by omega, by omega, IT⟩
/-! kin -/
def frP (G : Nat → Int) (L : List Law) (s : Nat) : Nat → Bool := fun r => decide (r ≠ s) && decide (quarrelA G L s r = 0) && decide (quarrelA G L r s = 0)
section KIN
variable {sc : Nat × (Nat → Int)} {d : Nat} {sh : Shp} {sl : Nat} {h : Sto} {Q : Pst} {G : Nat → Int} {n m : Nat} {L : List Law}
theorem msk_s {p : Nat → Bool} {k : Nat} (hk : k < 10) : (p k = true → ior ((msk p k : Nat) : Int) (ishl 1 (k : Int)) = ((msk p (k + 1) : Nat) : Int)) ∧ (p k = false → ((msk p k : Nat) : Int) = ((msk p (k + 1) : Nat) : Int)) ∧ (p k = false → ior ((msk p k : Nat) : Int) 0 = ((msk p (k + 1) : Nat) : Int)) := by
  have hl := msk_lt10 (p := p) (k := k) (by omega)
  refine ⟨fun hp => ?_, fun hp => ?_, fun hp => ?_⟩
  · rw [setbit hl hk]; simp only [msk]; rw [if_pos hp]
  · simp only [msk]; rw [if_neg (by simp [hp])]
  · rw [show (0 : Int) = ((0 : Nat) : Int) from rfl, ior_nat (by omega) (by omega), Nat.or_zero]; simp only [msk]; rw [if_neg (by simp [hp])]
theorem lp_friends {s : Nat} (C : CJ sh h G n m L 10) (hs : s < n) (hq : ∀ h', Fr JP [] h h' → Q (0, (msk (frP G L s) n : Int)) sh sl h') : ∀ (rem i : Nat) (A I : Int) (h' : Sto), i + rem = n → A = (msk (frP G L s) i : Int) → I = i → Fr JP [] h h' → WF sc (d + 4) 127 4 [(2, 71), (0, (s : Int)), (0, A), (0, I)] [] sh sl h' Q := by
  have hn10 := C.2.2.2.1.1.2.1
  have W := C.2.2.2.1
  intro rem
  induction rem with
  | zero =>
    intro i A I h' hi hA hI F
    subst hA hI
    obtain ⟨X, S, R, -, B⟩ := C.fr F (Or.inl rfl)
    have : i = n := by omega
    subst this
    rw [B_127_4 X, S.1.1, w32_id (a := (i : Int)) (by omega) (by omega), if_pos (by omega)]
    exact hq h' F
  | succ rem ih =>
    intro i A I h' hi hA hI F
    subst hA hI
    have C' := C.fr F (Or.inl rfl)
    obtain ⟨X, S, R, -, B⟩ := C'
    have ms := msk_s (p := frP G L s) (k := i) (by omega)
    rw [B_127_4 X, S.1.1, w32_id (a := (n : Int)) (by omega) (by omega), w32_id (a := (i : Int)) (by omega) (by omega), w32_id (a := (s : Int)) (by omega) (by omega), if_neg (by omega)]
    by_cases he : i = s
    · rw [if_pos (by omega)]
      refine ih (i + 1) _ _ h' (by omega) (ms.2.1 (by unfold frP; simp [he])) (by simp) F
    · rw [if_neg (by omega)]
      have q1 := quarrelA_bd W hs (show i < n by omega)
      have q2 := quarrelA_bd W (show i < n by omega) hs
      refine sp_quarrel JQa (C.fr F (Or.inl rfl)) hs (by omega) (fun h1 F1 => ?_)
      simp only [pushR0]
      rw [B_127_29 (F1.fix X (by decide +kernel)), w32_id (a := quarrelA G L s i) (by omega) (by omega)]
      by_cases hz : quarrelA G L s i = 0
      · rw [if_neg (by simpa using hz)]
        refine sp_quarrel JQa (C.fr (F.trans F1) (Or.inl rfl)) (by omega) hs (fun h2 F2 => ?_)
        simp only [pushR0]
        rw [B_127_41 (F2.fix (F1.fix X (by decide +kernel)) (by decide +kernel)), w32_id (a := quarrelA G L i s) (by omega) (by omega)]
        by_cases hz2 : quarrelA G L i s = 0
        · rw [if_neg (by simpa using hz2)]
          exact ih (i + 1) _ _ h2 (by omega) (ms.1 (by unfold frP; simp [he, hz, hz2])) (by simp) ((F.trans F1).trans F2)
        · rw [if_pos hz2]
          exact ih (i + 1) _ _ h2 (by omega) (ms.2.1 (by unfold frP; simp [hz2])) (by simp) ((F.trans F1).trans F2)
      · rw [if_pos hz]
        exact ih (i + 1) _ _ h1 (by omega) (ms.2.1 (by unfold frP; simp [hz])) (by simp) (F.trans F1)
theorem sp_friends {s : Nat} (C : CJ sh h G n m L 10) (hs : s < n) (hq : ∀ h', Fr JP [] h h' → Q (0, (msk (frP G L s) n : Int)) sh sl h') : WM sc (d + 4) 127 [(2, 71), (0, (s : Int))] sh sl h Q := by
  rw [B_127_0 C.1]
  exact lp_friends C hs hq n 0 _ _ h (by omega) rfl rfl (Fr.refl h)
theorem lp_mkin {s : Nat} (M : MJ sh h G n m L) (hs : s < n) (hq : ∀ h', Fr MP MS h h' → Q (0, (msk (frP G L s) n : Int)) sh sl h') : ∀ (rem i : Nat) (A I : Int) (h' : Sto), i + rem = n → A = (msk (frP G L s) i : Int) → I = i → Fr MP MS h h' → WF sc (d + 7) 267 19 [(2, 85), (0, (s : Int)), (0, A), (0, I)] [] sh sl h' Q := by
  have hn10 := M.2.2.2.1.1.2.1
  have W := M.2.2.2.1
  intro rem
  induction rem with
  | zero =>
    intro i A I h' hi hA hI F
    subst hA hI
    obtain ⟨X, e87, e20, -, B⟩ := M.fr F
    have : i = n := by omega
    subst this
    rw [B_267_19 X, e87, W.1.1, w32_id (a := (i : Int)) (by omega) (by omega), if_pos (by omega)]
    exact hq h' F
  | succ rem ih =>
    intro i A I h' hi hA hI F
    subst hA hI
    obtain ⟨X, e87, e20, -, B⟩ := M.fr F
    have ms := msk_s (p := frP G L s) (k := i) (by omega)
    rw [B_267_19 X, e87, W.1.1, w32_id (a := (n : Int)) (by omega) (by omega), w32_id (a := (i : Int)) (by omega) (by omega), w32_id (a := (s : Int)) (by omega) (by omega), if_neg (by omega)]
    by_cases he : i = s
    · rw [if_pos (by omega)]
      refine ih (i + 1) _ _ h' (by omega) (ms.2.2 (by unfold frP; simp [he])) (by simp) F
    · rw [if_neg (by omega)]
      have q1 := quarrelA_bd W hs (show i < n by omega)
      have q2 := quarrelA_bd W (show i < n by omega) hs
      refine sp_quarrelOf (M.fr F) (by omega) hs (fun h1 F1 => ?_)
      simp only [pushR0]
      rw [B_267_41 (F1.fix X (by decide +kernel)), w32_id (a := quarrelA G L i s) (by omega) (by omega)]
      by_cases hz2 : quarrelA G L i s = 0
      · rw [if_neg (by simpa using hz2)]
        refine sp_quarrelOf (M.fr (F.trans F1)) hs (by omega) (fun h2 F2 => ?_)
        simp only [pushR0]
        rw [B_267_50 (F2.fix (F1.fix X (by decide +kernel)) (by decide +kernel)), w32_id (a := quarrelA G L s i) (by omega) (by omega)]
        by_cases hz : quarrelA G L s i = 0
        · rw [if_neg (by simpa using hz)]
          exact ih (i + 1) _ _ h2 (by omega) (ms.1 (by unfold frP; simp [he, hz, hz2])) (by simp) ((F.trans F1).trans F2)
        · rw [if_pos hz]
          exact ih (i + 1) _ _ h2 (by omega) (ms.2.2 (by unfold frP; simp [hz])) (by simp) ((F.trans F1).trans F2)
      · rw [if_pos hz2]
        exact ih (i + 1) _ _ h1 (by omega) (ms.2.2 (by unfold frP; simp [hz2])) (by simp) (F.trans F1)
end KIN
theorem op_kin {x : Int} (hx : I32 x) : OpOK 145 267 0 [(0, x)] := by
  intro sc d sh sl h I
  have X := I.fx
  obtain ⟨n, m, L, Lv, Hs⟩ := I.live
  have C := Lv.cj X
  have M := Lv.mj X I.od
  obtain ⟨S, R, W, B⟩ := Lv
  have hn10 := W.1.2.1
  have X2 : Fix sh (setH h 85 0 0) := X.s (by decide +kernel)
  have e87 : setH h 85 0 0 87 = h 87 := setH_o (by decide)
  rw [B_145_0 X, sp_cStamp X hx S.1.1 hn10]
  simp only [pushR0]
  rw [B_145_5 X]
  by_cases hs : 0 ≤ x ∧ x < n
  · obtain ⟨s, rfl⟩ : ∃ s : Nat, x = s := ⟨x.toNat, by omega⟩
    have hsn : s < n := by omega
    rw [if_pos hs, show w32 1 = 1 from rfl, if_neg (by decide)]
    refine sp_friends C hsn (fun h1 F1 => ?_)
    have X1 := F1.fix X (by decide +kernel)
    have X3 : Fix sh (setH h1 85 0 0) := X1.s (by decide +kernel)
    simp only [pushR0]
    rw [B_145_16 X1, B_267_0 X1, sp_mStamp X3 hx (by rw [setH_o (by decide), F1.row 87 rfl]; exact W.1.1) hn10, if_pos hs]
    simp only [pushR0]
    rw [B_267_10 X3, show w32 1 = 1 from rfl, if_pos (by decide)]
    refine lp_mkin (M.behind F1) hsn (fun h2 F2 => ?_) n 0 _ _ _ (by omega) rfl rfl (Fr.refl _)
    exact ⟨_, rfl, rfl, by omega, by omega, I.two (P1 := JP) (S1 := [(85, 0)]) ((F1.mono rfl).set rfl) F2 (by decide +kernel) (by decide +kernel) (by decide +kernel) (by decide +kernel)⟩
  · rw [if_neg hs, w32_0, if_pos rfl, B_267_0 X, sp_mStamp X2 hx (by rw [e87]; exact W.1.1) hn10, if_neg hs]
    simp only [pushR0]
    rw [B_267_10 X2, w32_0, if_neg (by simp)]
    exact ⟨_, rfl, rfl, by omega, by omega, I.thrown⟩
