/-! ===== the reference's deeds ===== -/
section MDEEDS
variable {sc : Nat × (Nat → Int)} {d : Nat} {sh : Shp} {sl : Nat} {h : Sto} {Q : Pst} {G : Nat → Int} {n m : Nat} {L : List Law}
theorem sp_canStick {s l : Nat} (M : MJ sh h G n m L) (hs : s < n) (hl : l < m) (hq : ∀ h', Fr MP MS h h' → Q (0, if canStk G L s l then 1 else 0) sh sl h') : WM sc (d + 7) 225 [(2, 85), (0, (s : Int)), (0, (l : Int))] sh sl h Q := by
  have hM := M
  obtain ⟨X, e87, e20, W, B⟩ := M
  have hn10 := W.1.2.1
  have hm3 := W.1.2.2.2.1
  have bl := B.2.2.1 l hl
  have bs := B.2.1 s hs
  obtain ⟨c, hcc⟩ : ∃ c : Nat, G (31 + l) = c := ⟨(G (31 + l)).toNat, by omega⟩
  have hcan : canStk G L s l = (decide (G (8 + s) = -1) && decide (0 < G (18 + s)) && decide ((c : Int) < 5) && (decide ((c : Int) = 0) || !(barredA G L (spA G l (c - 1)) s))) := by
    unfold canStk; rw [hcc, Int.toNat_natCast]
  have h0 : canStk G L s l = false → Q (0, 0) sh sl h := fun hf => by
    have := hq h (Fr.refl h); rw [hf] at this; exact this
  have h1 : canStk G L s l = true → Q (0, 1) sh sl h := fun hf => by
    have := hq h (Fr.refl h); rw [hf] at this; exact this
  rw [B_225_0 X, e87, w32_nat (a := 31 + (l : Int)) (n := 31 + l) (by omega) (by omega), w32_nat (a := 8 + (s : Int)) (n := 8 + s) (by omega) (by omega), w32_nat (a := 18 + (s : Int)) (n := 18 + s) (by omega) (by omega)]
  simp only [Int.toNat_natCast]
  rw [hcc, w32_id (a := G (8 + s)) (by omega) (by omega), w32_id (a := G (18 + s)) (by omega) (by omega), w32_id (a := (c : Int)) (by omega) (by omega)]
  refine ⟨⟨by omega, by omega⟩, ⟨by omega, by omega⟩, ?_⟩
  by_cases c5 : G (8 + s) = -1
  case neg => rw [if_pos c5]; exact h0 (by rw [hcan]; simp [c5])
  rw [if_neg (by simpa using c5)]
  refine ⟨⟨by omega, by omega⟩, ?_⟩
  by_cases c6 : G (18 + s) ≤ 0
  · rw [if_pos c6]
    have h7 : ¬ 0 < G (18 + s) := by omega
    exact h0 (by rw [hcan]; simp [h7])
  rw [if_neg c6]
  by_cases c7 : 5 ≤ (c : Int)
  · rw [if_pos c7]
    have h7 : ¬ (c : Int) < 5 := by omega
    exact h0 (by rw [hcan]; simp [h7])
  rw [if_neg c7]
  by_cases c8 : (c : Int) = 0
  · rw [if_pos c8]
    exact h1 (by rw [hcan]; simp [c5, c8]; omega)
  · rw [if_neg c8, sp_mstampAt (l := l) (i := c - 1) X rfl (by omega) (by omega) (by omega), e87]
    have sp := B.sp (i := c - 1) hl (by omega)
    simp only [pushR0]
    rw [B_225_53 X, sp.1]
    refine sp_isBarred hM sp.2.1 hs (fun h2 F2 => ?_)
    have X2 : Fix sh h2 := F2.fix X (by decide +kernel)
    have := hq h2 F2
    simp only [pushR0]
    rw [B_225_57 X2]
    by_cases hb : barredA G L (spA G l (c - 1)) s = true
    · rw [if_pos hb, show w32 1 = 1 from rfl, if_pos (by decide)]
      rw [show canStk G L s l = false by rw [hcan]; simp [hb]; omega] at this
      exact this
    · rw [if_neg hb, w32_0, if_neg (by simp)]
      rw [show canStk G L s l = true by rw [hcan]; simp [hb, c5]; omega] at this
      exact this
theorem sp_stickIt {s l : Nat} (X : Fix sh h) (e87 : h 87 = G) (hs : s < 10) (hl : l < 3) (hc : 0 ≤ G (31 + l) ∧ G (31 + l) < 5) (hq : ∀ h', Fr [87] [] h h' → h' 87 = stickG G s l → Q (9, 0) sh sl h') : WM sc (d + 1) 228 [(2, 85), (0, (s : Int)), (0, (l : Int))] sh sl h Q := by
  obtain ⟨c, hcc⟩ : ∃ c : Nat, G (31 + l) = c := ⟨(G (31 + l)).toNat, by omega⟩
  rw [B_228_0 X, e87, w32_nat (a := 31 + (l : Int)) (n := 31 + l) (by omega) (by omega), w32_nat (a := 8 + (s : Int)) (n := 8 + s) (by omega) (by omega)]
  simp only [Int.toNat_natCast]
  rw [hcc, w32_nat (a := 34 + 5 * (l : Int) + (c : Int)) (n := 34 + 5 * l + c) (by omega) (by omega)]
  simp only [Int.toNat_natCast]
  refine ⟨⟨by omega, by omega⟩, ⟨by omega, by omega⟩, ⟨by omega, by omega⟩, ⟨by omega, by omega⟩, ⟨by omega, by omega⟩, ?_⟩
  refine hq _ ((((Fr.refl h).setP rfl).setP rfl).setP rfl) ?_
  simp (disch := omega) only [setH_r, up_n]
  unfold stickG
  rw [e87, hcc, Int.toNat_natCast]
theorem sp_peelIt {l : Nat} (X : Fix sh h) (e87 : h 87 = G) (hl : l < m) (B : BW G n m) (hn10 : n ≤ 10) (hm3 : m ≤ 3) (hc : G (31 + l) ≠ 0) (hq : ∀ h', Fr [87] [] h h' → h' 87 = peelG G l → Q (0, (spA G l ((G (31 + l)).toNat - 1) : Int)) sh sl h') : WM sc (d + 2) 231 [(2, 85), (0, (l : Int))] sh sl h Q := by
  have bl := B.2.2.1 l hl
  obtain ⟨c, hcc⟩ : ∃ c : Nat, G (31 + l) = (c : Int) + 1 := ⟨(G (31 + l)).toNat - 1, by omega⟩
  have ect : (G (31 + l)).toNat - 1 = c := by omega
  have sp := B.sp (i := c) hl (by omega)
  rw [ect] at hq
  rw [B_231_0 X, e87, w32_nat (a := 31 + (l : Int)) (n := 31 + l) (by omega) (by omega), Int.toNat_natCast]
  have ec : G (31 + l) - 1 = (c : Int) := by omega
  rw [ec]
  have X2 : Fix sh (setH h 87 (31 + l) (c : Int)) := X.a (by decide +kernel)
  refine ⟨⟨by omega, by omega⟩, ⟨by omega, by omega⟩, ⟨by omega, by omega⟩, ?_⟩
  rw [sp_mstampAt (l := l) (i := c) X2 rfl rfl (by omega) (by omega), setH_k (by omega), e87, sp.1]
  simp only [pushR0]
  rw [B_231_27 X2, w32_nat (a := 31 + (l : Int)) (n := 31 + l) (by omega) (by omega), Int.toNat_natCast, setH_self, w32_nat (a := 34 + 5 * (l : Int) + (c : Int)) (n := 34 + 5 * l + c) (by omega) (by omega), w32_nat (a := 8 + ((spA G l c : Nat) : Int)) (n := 8 + spA G l c) (by omega) (by omega), Int.toNat_natCast, Int.toNat_natCast]
  refine ⟨⟨by omega, by omega⟩, ⟨by omega, by omega⟩, ⟨by omega, by omega⟩, hq _ ((((Fr.refl h).setP rfl).setP rfl).setP rfl) ?_⟩
  simp only [setH_r, e87]
  unfold peelG
  rw [ect, ec]
theorem sp_canCancel {l : Nat} (M : MJ sh h G n m L) (hl : l < m) (hq : ∀ h', Fr MP MS h h' → Q (0, if canCan G L l then 1 else 0) sh sl h') : WM sc (d + 8) 234 [(2, 85), (0, (l : Int))] sh sl h Q := by
  have hM := M
  obtain ⟨X, e87, e20, W, B⟩ := M
  have hm3 := W.1.2.2.2.1
  have bl := B.2.2.1 l hl
  rw [B_234_0 X, e87, w32_nat (a := 31 + (l : Int)) (n := 31 + l) (by omega) (by omega), Int.toNat_natCast, w32_id (a := G (31 + l)) (by omega) (by omega)]
  refine ⟨⟨by omega, by omega⟩, ?_⟩
  by_cases c5 : G (31 + l) ≤ 0
  · rw [if_pos c5]
    have := hq h (Fr.refl h)
    rw [show canCan G L l = false by unfold canCan; simp; omega] at this
    exact this
  · rw [if_neg c5]
    refine sp_mpaid hM hl (fun h1 F1 => ?_)
    have M1 := hM.fr F1
    have pb := paidA_bd W B hl
    have fe := W.2.2.1 l hl
    have := hq h1 F1
    simp only [pushR0]
    rw [B_234_17 M1.1, M1.2.1, w32_nat (a := 79 + (l : Int)) (n := 79 + l) (by omega) (by omega), Int.toNat_natCast, w32_id (a := paidA G L l) (by omega) (by omega), w32_id (a := G (79 + l)) (by omega) (by omega)]
    refine ⟨⟨by omega, by omega⟩, ?_⟩
    by_cases c6 : paidA G L l < G (79 + l)
    · rw [if_pos c6]
      rw [show canCan G L l = false by unfold canCan; simp; omega] at this
      exact this
    · rw [if_neg c6]
      rw [show canCan G L l = true by unfold canCan; simp; omega] at this
      exact this
theorem lp_mcan {l : Nat} {x2 : Int} (X : Fix sh h) (e87 : h 87 = G) (B : BW G n m) (hn10 : n ≤ 10) (hm3 : m ≤ 3) (hl : l < m) (hq : ∀ h', Fr [87] [] h h' → h' 87 = up (cnF G l (G (31 + l)).toNat) (31 + l) 0 → Q (0, x2) sh sl h') : ∀ (rem k : Nat) (h' : Sto) (K : Int), k + rem = (G (31 + l)).toNat → K = k → Fr [87] [] h h' → h' 87 = cnF G l k → WF sc (d + 2) 235 36 [(2, 85), (0, (l : Int)), (0, x2), (0, K)] [] sh sl h' Q := by
  have bl := B.2.2.1 l hl
  have hsp : ∀ j, j < (G (31 + l)).toNat → spA G l j < n := fun j hj => (B.sp hl (by omega)).2.1
  intro rem
  induction rem with
  | zero =>
    intro k h' K hk hK F e
    subst hK
    have X' : Fix sh h' := F.fix X (by decide +kernel)
    have ek : k = (G (31 + l)).toNat := by omega
    have e31 : cnF G l k (31 + l) = G (31 + l) := cnF_o k _ (fun j hj => ⟨by have := hsp j (by omega); omega, by omega⟩)
    rw [B_235_36 X', w32_nat (a := 31 + (l : Int)) (n := 31 + l) (by omega) (by omega), Int.toNat_natCast, e, e31, w32_id (a := G (31 + l)) (by omega) (by omega), w32_id (a := (k : Int)) (by omega) (by omega), if_pos (by omega)]
    refine ⟨⟨by omega, by omega⟩, ⟨by omega, by omega⟩, hq _ (F.setP rfl) ?_⟩
    rw [setH_r, e, ek]
  | succ rem ih =>
    intro k h' K hk hK F e
    subst hK
    have X' : Fix sh h' := F.fix X (by decide +kernel)
    have sp := B.sp (i := k) hl (by omega)
    have e31 : cnF G l k (31 + l) = G (31 + l) := cnF_o k _ (fun j hj => ⟨by have := hsp j (by omega); omega, by omega⟩)
    have e34 : cnF G l k (34 + 5 * l + k) = G (34 + 5 * l + k) := cnF_o k _ (fun j hj => ⟨by have := hsp j (by omega); omega, by omega⟩)
    rw [B_235_36 X', w32_nat (a := 31 + (l : Int)) (n := 31 + l) (by omega) (by omega), Int.toNat_natCast, e, e31, w32_id (a := G (31 + l)) (by omega) (by omega), w32_id (a := (k : Int)) (by omega) (by omega), if_neg (by omega), sp_mstampAt X' rfl rfl (by omega) (show k < 5 by omega), e, e34, sp.1]
    refine ⟨⟨by omega, by omega⟩, ?_⟩
    simp only [pushR0]
    rw [B_235_61 X', w32_nat (a := 8 + ((spA G l k : Nat) : Int)) (n := 8 + spA G l k) (by omega) (by omega), w32_nat (a := 34 + 5 * (l : Int) + (k : Int)) (n := 34 + 5 * l + k) (by omega) (by omega), Int.toNat_natCast, Int.toNat_natCast]
    refine ⟨⟨by omega, by omega⟩, ⟨by omega, by omega⟩, ih (k + 1) _ _ (by omega) (by simp) ((F.setP rfl).setP rfl) ?_⟩
    simp only [setH_r, e]
    rfl
theorem sp_cancelIt {l : Nat} (M : MJ sh h G n m L) (hl : l < m) (hq : ∀ h', Fr [87, 103, 105] MS h h' → h' 87 = canG G L l → Q (0, quOnA G L l) sh sl h') : WM sc (d + 8) 235 [(2, 85), (0, (l : Int))] sh sl h Q := by
  have hM := M
  obtain ⟨X, e87, e20, W, B⟩ := M
  have hn10 := W.1.2.1
  have hm3 := W.1.2.2.2.1
  have bl := B.2.2.1 l hl
  have qb := quOnA_bd W B hl
  rw [B_235_0 X]
  refine sp_mquOn hM hl (fun h1 F1 => ?_)
  have M1 := hM.fr F1
  have X1 := M1.1
  simp only [pushR0]
  rw [B_235_5 X1, M1.2.1, w32_nat (a := 28 + (l : Int)) (n := 28 + l) (by omega) (by omega), Int.toNat_natCast, w32_id (a := G (28 + l) + quOnA G L l) (by omega) (by omega), sp_within X1 ⟨by omega, by omega⟩ ⟨by decide, by decide⟩ ⟨by decide, by decide⟩ (by decide)]
  refine ⟨⟨by omega, by omega⟩, ?_⟩
  simp only [pushR0]
  rw [B_235_33 X1, w32_nat (a := 28 + (l : Int)) (n := 28 + l) (by omega) (by omega), Int.toNat_natCast, show max 0 (min (G (28 + l) + quOnA G L l) 9999) = min (G (28 + l) + quOnA G L l) 9999 by omega]
  refine ⟨⟨by omega, by omega⟩, ?_⟩
  have X2 : Fix sh (setH h1 87 (28 + l) (min (G (28 + l) + quOnA G L l) 9999)) := X1.a (by decide +kernel)
  have e2 : setH h1 87 (28 + l) (min (G (28 + l) + quOnA G L l) 9999) 87 = up G (28 + l) (min (G (28 + l) + quOnA G L l) 9999) := by rw [setH_r, M1.2.1]
  have e31 : up G (28 + l) (min (G (28 + l) + quOnA G L l) 9999) (31 + l) = G (31 + l) := up_n (by omega)
  refine lp_mcan X2 e2 (up28 B hn10 hm3 hl (by omega)) hn10 hm3 hl (fun h3 F3 e3 => ?_) (G (31 + l)).toNat 0 _ _ (by rw [e31]; omega) rfl (Fr.refl _) e2
  rw [e31] at e3
  exact hq h3 (((F1.mono rfl).setP rfl).trans (F3.mono rfl)) e3
theorem lp_mfall {l : Nat} (X : Fix sh h) (e87 : h 87 = G) {f : Nat → Int} (R : BR f G n m) (B : BW G n m) (hn10 : n ≤ 10) (hm3 : m ≤ 3) (hl : l < m) (hq : ∀ h', Fr [87] [] h h' → h' 87 = flG G l → Q (0, flN G l) sh sl h') : ∀ (rem i : Nat) (h' : Sto) (I K : Int) (j5 : V), i + rem = (G (31 + l)).toNat → I = i → K = ((flS G l i).1 : Int) → Fr [87] [] h h' → h' 87 = (flS G l i).2 → WF sc (d + 2) 239 15 [(2, 85), (0, (l : Int)), (0, K), (0, G (31 + l)), (0, I), j5] [] sh sl h' Q := by
  have bl := B.2.2.1 l hl
  intro rem
  induction rem with
  | zero =>
    intro i h' I K j5 hi hI hK F e
    subst hI hK
    have X' : Fix sh h' := F.fix X (by decide +kernel)
    have ei : i = (G (31 + l)).toNat := by omega
    subst ei
    rw [B_239_15 X', w32_id (a := G (31 + l)) (by omega) (by omega), w32_id (a := (((G (31 + l)).toNat : Nat) : Int)) (by omega) (by omega), if_pos (by omega), w32_nat (a := 31 + (l : Int)) (n := 31 + l) (by omega) (by omega), Int.toNat_natCast]
    refine ⟨⟨by omega, by omega⟩, hq _ (F.setP rfl) ?_⟩
    rw [setH_r, e]; rfl
  | succ rem ih =>
    intro i h' I K j5 hi hI hK F e
    subst hI hK
    have X' : Fix sh h' := F.fix X (by decide +kernel)
    obtain ⟨a1, a2, a3, a4, a5, a6, a7, a8, a9⟩ := flI R B hn10 hm3 hl i (by omega)
    have sp := B.sp (i := i) hl (by omega)
    have bs := (B.2.1 _ sp.2.1).1
    rw [B_239_15 X', w32_id (a := G (31 + l)) (by omega) (by omega), w32_id (a := (i : Int)) (by omega) (by omega), if_neg (by omega), sp_mstampAt X' rfl rfl (by omega) (show i < 5 by omega), e, (a4 i (by omega) (by omega)).1, sp.1]
    simp only [pushR0]
    rw [B_239_28 X', w32_nat (a := 34 + 5 * (l : Int) + (i : Int)) (n := 34 + 5 * l + i) (by omega) (by omega), w32_nat (a := 18 + ((spA G l i : Nat) : Int)) (n := 18 + spA G l i) (by omega) (by omega), w32_nat (a := 8 + ((spA G l i : Nat) : Int)) (n := 8 + spA G l i) (by omega) (by omega), w32_nat (a := 34 + 5 * (l : Int) + (((flS G l i).1 : Nat) : Int)) (n := 34 + 5 * l + (flS G l i).1) (by omega) (by omega)]
    simp only [Int.toNat_natCast]
    rw [setH_k (j := 18 + spA G l i) (by omega), e, a2 (18 + spA G l i) (by omega), w32_id (a := G (18 + spA G l i)) (by omega) (by omega)]
    refine ⟨⟨by omega, by omega⟩, ⟨by omega, by omega⟩, ?_⟩
    by_cases hg : 0 < G (18 + spA G l i)
    · rw [if_neg (by omega)]
      refine ⟨⟨by omega, by omega⟩, ih (i + 1) _ _ _ _ (by omega) (by simp) ?_ ((F.setP rfl).setP rfl) ?_⟩
      · simp only [flS, if_pos hg]; simp
      · simp only [setH_r, e, flS, if_pos hg]
    · rw [if_pos (by omega)]
      refine ⟨⟨by omega, by omega⟩, ih (i + 1) _ _ _ _ (by omega) (by simp) ?_ ((F.setP rfl).setP rfl) ?_⟩
      · simp only [flS, if_neg hg]
      · simp only [setH_r, e, flS, if_neg hg]
theorem sp_mfall {l : Nat} (X : Fix sh h) (e87 : h 87 = G) {f : Nat → Int} (R : BR f G n m) (B : BW G n m) (hn10 : n ≤ 10) (hm3 : m ≤ 3) (hl : l < m) (hq : ∀ h', Fr [87] [] h h' → h' 87 = flG G l → Q (0, flN G l) sh sl h') : WM sc (d + 2) 239 [(2, 85), (0, (l : Int))] sh sl h Q := by
  have bl := B.2.2.1 l hl
  rw [B_239_0 X, e87, w32_nat (a := 31 + (l : Int)) (n := 31 + l) (by omega) (by omega), Int.toNat_natCast]
  exact ⟨⟨by omega, by omega⟩, lp_mfall X e87 R B hn10 hm3 hl hq (G (31 + l)).toNat 0 h _ _ _ (by omega) rfl rfl (Fr.refl h) e87⟩
end MDEEDS
