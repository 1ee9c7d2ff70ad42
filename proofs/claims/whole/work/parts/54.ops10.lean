/-! canBe -/
def suQ (G : Nat → Int) (L : List Law) (s : Nat) : Nat → Bool
  | 0 => true
  | k + 1 => suQ G L s k && (decide (G (82 + 2 * k) ≠ (s : Int)) && decide (quarrelA G L s (G (82 + 2 * k)).toNat = G (82 + 2 * k + 1)))
def suP (G : Nat → Int) (L : List Law) : Nat → Bool := fun s => suQ G L s (G 2).toNat
theorem suQ_no {G : Nat → Int} {L : List Law} {s k : Nat} (h : suQ G L s k = false) : ∀ j, suQ G L s (k + j) = false := by
  intro j
  induction j with
  | zero => exact h
  | succ j ih => show (suQ G L s (k + j) && _) = false; rw [ih]; rfl
section CANBE
variable {sc : Nat × (Nat → Int)} {d : Nat} {sh : Shp} {sl : Nat} {h : Sto} {Q : Pst} {G : Nat → Int} {n m : Nat} {L : List Law}
theorem lp_would {s : Nat} (C : CJ sh h G n m L 10) (hs : s < n) (hq : ∀ h', Fr JP [] h h' → Q (0, if suP G L s then 1 else 0) sh sl h') : ∀ (rem k : Nat) (K : Int) (j3 : V) (h' : Sto), k + rem = (G 2).toNat → K = k → suQ G L s k = true → Fr JP [] h h' → WF sc (d + 4) 134 2 [(2, 71), (0, (s : Int)), (0, K), j3] [] sh sl h' Q := by
  have W := C.2.2.2.1
  have hn10 := W.1.2.1
  have h26 := W.1.2.2.2.2.1
  intro rem
  induction rem with
  | zero =>
    intro k K j3 h' hk hK ht F
    subst hK
    obtain ⟨X, S, R, -, B⟩ := C.fr F (Or.inl rfl)
    have : k = (G 2).toNat := by omega
    rw [B_134_2 X, S.1.2.2.1, w32_id (a := G 2) (by omega) (by omega), w32_id (a := (k : Int)) (by omega) (by omega), if_pos (by omega)]
    have := hq h' F
    unfold suP at this
    rw [show (G 2).toNat = k by omega, ht] at this
    exact this
  | succ rem ih =>
    intro k K j3 h' hk hK ht F
    subst hK
    obtain ⟨X, S, R, -, B⟩ := C.fr F (Or.inl rfl)
    have hh := S.2.2.2.1 k (by omega)
    have hw := W.2.2.2.1 k (by omega)
    have hno : (decide (G (82 + 2 * k) ≠ (s : Int)) && decide (quarrelA G L s (G (82 + 2 * k)).toNat = G (82 + 2 * k + 1))) = false → ∀ h2, Fr JP [] h h2 → Q (0, 0) sh sl h2 := by
      intro hf h2 F2
      have h1 : suQ G L s (k + 1) = false := by show (suQ G L s k && _) = false; rw [hf]; simp
      have h2' := suQ_no h1 rem
      have := hq h2 F2
      unfold suP at this
      rw [show (G 2).toNat = k + 1 + rem by omega, h2'] at this
      exact this
    simp only [Nat.reduceAdd] at hh
    rw [B_134_2 X, S.1.2.2.1, w32_id (a := G 2) (by omega) (by omega), w32_id (a := (k : Int)) (by omega) (by omega), if_neg (by omega), Int.toNat_natCast, hh.1, w32_id (a := G (82 + 2 * k)) (by omega) (by omega), w32_id (a := (s : Int)) (by omega) (by omega)]
    refine ⟨⟨by omega, by omega⟩, ?_⟩
    by_cases he : G (82 + 2 * k) = s
    · rw [if_pos he]; exact hno (by simp [he]) h' F
    · rw [if_neg he]
      obtain ⟨r, hr⟩ : ∃ r : Nat, G (82 + 2 * k) = r := ⟨(G (82 + 2 * k)).toNat, by omega⟩
      have hrn : r < n := by omega
      have qb := quarrelA_bd W hs hrn
      rw [hr]
      refine sp_quarrel JQa (C.fr F (Or.inl rfl)) hs hrn (fun h1 F1 => ?_)
      have X1 := F1.fix X (by decide +kernel)
      simp only [pushR0]
      rw [B_134_37 X1, w32_id (a := (k : Int)) (by omega) (by omega), Int.toNat_natCast, F1.row 7 rfl, hh.2, w32_id (a := quarrelA G L s r) (by omega) (by omega), w32_id (a := G (82 + 2 * k + 1)) (by omega) (by omega)]
      refine ⟨⟨by omega, by omega⟩, ?_⟩
      by_cases hz : quarrelA G L s r = G (82 + 2 * k + 1)
      · rw [if_pos hz]
        refine ih (k + 1) _ _ h1 (by omega) (by simp) ?_ (F.trans F1)
        show (suQ G L s k && _) = true
        rw [ht, hr, Int.toNat_natCast]
        simp [hz]; omega
      · rw [if_neg hz]
        exact hno (by rw [hr, Int.toNat_natCast]; simp [hz]) h1 (F.trans F1)
theorem lp_suspects (C : CJ sh h G n m L 10) (hq : ∀ h', Fr JP [] h h' → Q (0, (msk (suP G L) n : Int)) sh sl h') : ∀ (rem i : Nat) (A I : Int) (h' : Sto), i + rem = n → A = (msk (suP G L) i : Int) → I = i → Fr JP [] h h' → WF sc (d + 5) 133 4 [(2, 71), (0, A), (0, I)] [] sh sl h' Q := by
  have W := C.2.2.2.1
  have hn10 := W.1.2.1
  intro rem
  induction rem with
  | zero =>
    intro i A I h' hi hA hI F
    subst hA hI
    obtain ⟨X, S, R, -, B⟩ := C.fr F (Or.inl rfl)
    have : i = n := by omega
    subst this
    rw [B_133_4 X, S.1.1, w32_id (a := (i : Int)) (by omega) (by omega), if_pos (by omega)]
    exact hq h' F
  | succ rem ih =>
    intro i A I h' hi hA hI F
    subst hA hI
    have C' := C.fr F (Or.inl rfl)
    obtain ⟨X, S, R, -, B⟩ := C'
    have ms := msk_s (p := suP G L) (k := i) (by omega)
    rw [B_133_4 X, S.1.1, w32_id (a := (n : Int)) (by omega) (by omega), w32_id (a := (i : Int)) (by omega) (by omega), if_neg (by omega), B_134_0 X]
    refine lp_would (C.fr F (Or.inl rfl)) (show i < n by omega) (fun h1 F1 => ?_) (G 2).toNat 0 _ _ h' (by omega) rfl rfl (Fr.refl h')
    simp only [pushR0]
    rw [B_133_20 (F1.fix X (by decide +kernel))]
    by_cases hp : suP G L i = true
    · rw [if_pos hp, show w32 1 = 1 from rfl, if_neg (by decide)]
      exact ih (i + 1) _ _ h1 (by omega) (ms.1 hp) (by simp) (F.trans F1)
    · rw [if_neg hp, w32_0, if_pos rfl]
      exact ih (i + 1) _ _ h1 (by omega) (ms.2.1 (by simpa using hp)) (by simp) (F.trans F1)
theorem sp_suspects (C : CJ sh h G n m L 10) (hq : ∀ h', Fr JP [] h h' → Q (0, (msk (suP G L) n : Int)) sh sl h') : WM sc (d + 5) 133 [(2, 71)] sh sl h Q := by
  rw [B_133_0 C.1]
  exact lp_suspects C hq n 0 _ _ h (by omega) rfl rfl (Fr.refl h)
theorem lp_mwould {s : Nat} {x1 : Int} (M : MJ sh h G n m L) (hs : s < n) (hq : ∀ (h' : Sto) (v : Int) (j3 j4 j5 : V), Fr MP MS h h' → v = (if suP G L s then ior x1 (ishl 1 (s : Int)) else ior x1 0) → WF sc (d + 7) 259 4 [(2, 85), (0, v), (0, (s : Int) + 1), j3, j4, j5] [] sh sl h' Q) : ∀ (rem k : Nat) (K Z : Int) (j5 : V) (h' : Sto), k + rem = (G 2).toNat → K = k → Z = (if suQ G L s k then 1 else 0) → Fr MP MS h h' → WF sc (d + 7) 259 19 [(2, 85), (0, x1), (0, (s : Int)), (0, Z), (0, K), j5] [] sh sl h' Q := by
  have W := M.2.2.2.1
  have hn10 := W.1.2.1
  have h26 := W.1.2.2.2.2.1
  intro rem
  induction rem with
  | zero =>
    intro k K Z j5 h' hk hK hZ F
    subst hK
    obtain ⟨X, e87, e20, -, B⟩ := M.fr F
    have hk2 : k = (G 2).toNat := by omega
    rw [B_259_19 X, e87, w32_id (a := G 2) (by omega) (by omega), w32_id (a := (k : Int)) (by omega) (by omega), if_pos (by omega)]
    cases hb : suQ G L s k with
    | true =>
      rw [hb] at hZ
      simp only [if_true] at hZ
      subst hZ
      rw [show w32 1 = 1 from rfl, if_neg (by decide)]
      exact hq h' _ _ _ _ F (by unfold suP; rw [← hk2, hb]; rfl)
    | false =>
      rw [hb] at hZ
      simp only [Bool.false_eq_true, if_false] at hZ
      subst hZ
      rw [w32_0, if_pos rfl]
      exact hq h' _ _ _ _ F (by unfold suP; rw [← hk2, hb]; rfl)
  | succ rem ih =>
    intro k K Z j5 h' hk hK hZ F
    subst hK
    obtain ⟨X, e87, e20, -, B⟩ := M.fr F
    have hw := W.2.2.2.1 k (by omega)
    rw [B_259_19 X, e87, w32_id (a := G 2) (by omega) (by omega), w32_id (a := (k : Int)) (by omega) (by omega), if_neg (by omega)]
    cases hb : suQ G L s k with
    | false =>
      rw [hb] at hZ
      simp only [Bool.false_eq_true, if_false] at hZ
      subst hZ
      rw [w32_0, if_pos rfl, if_pos rfl]
      have := suQ_no hb (rem + 1)
      exact hq h' _ _ _ _ F (by unfold suP; rw [← hk, this]; rfl)
    | true =>
      rw [hb] at hZ
      simp only [if_true] at hZ
      subst hZ
      rw [show w32 1 = 1 from rfl, if_neg (by decide), w32_nat (a := 82 + 2 * (k : Int)) (n := 82 + 2 * k) (by omega) (by omega), Int.toNat_natCast, w32_id (a := G (82 + 2 * k)) (by omega) (by omega), w32_id (a := (s : Int)) (by omega) (by omega)]
      refine ⟨⟨by omega, by omega⟩, ?_⟩
      by_cases he : (s : Int) = G (82 + 2 * k)
      · rw [if_pos he]
        refine ih (k + 1) _ _ _ h' (by omega) (by simp) ?_ F
        rw [show suQ G L s (k + 1) = false by show (suQ G L s k && _) = false; simp [he]]; rfl
      · rw [if_neg he]
        obtain ⟨r, hr⟩ : ∃ r : Nat, G (82 + 2 * k) = r := ⟨(G (82 + 2 * k)).toNat, by omega⟩
        have hrn : r < n := by omega
        have qb := quarrelA_bd W hs hrn
        rw [hr]
        refine sp_quarrelOf (M.fr F) hs hrn (fun h1 F1 => ?_)
        have X1 := F1.fix X (by decide +kernel)
        simp only [pushR0]
        rw [B_259_61 X1, w32_nat (a := 82 + 2 * (k : Int) + 1) (n := 82 + 2 * k + 1) (by omega) (by omega), Int.toNat_natCast, (M.fr (F.trans F1)).2.1, w32_id (a := quarrelA G L s r) (by omega) (by omega), w32_id (a := G (82 + 2 * k + 1)) (by omega) (by omega)]
        refine ⟨⟨by omega, by omega⟩, ?_⟩
        by_cases hz : quarrelA G L s r = G (82 + 2 * k + 1)
        · rw [if_neg (by simpa using hz)]
          refine ih (k + 1) _ _ _ h1 (by omega) (by simp) ?_ (F.trans F1)
          rw [show suQ G L s (k + 1) = true by show (suQ G L s k && _) = true; rw [hb, hr, Int.toNat_natCast]; simp [hz]; omega]; rfl
        · rw [if_pos hz]
          refine ih (k + 1) _ _ _ h1 (by omega) (by simp) ?_ (F.trans F1)
          rw [show suQ G L s (k + 1) = false by show (suQ G L s k && _) = false; rw [hr, Int.toNat_natCast]; simp [hz]]; rfl
theorem lp_that (M : MJ sh h G n m L) (hq : ∀ h', Fr MP MS h h' → Q (0, (msk (suP G L) n : Int)) sh sl h') : ∀ (rem i : Nat) (A I : Int) (j3 j4 j5 : V) (h' : Sto), i + rem = n → A = (msk (suP G L) i : Int) → I = i → Fr MP MS h h' → WF sc (d + 7) 259 4 [(2, 85), (0, A), (0, I), j3, j4, j5] [] sh sl h' Q := by
  have W := M.2.2.2.1
  have hn10 := W.1.2.1
  intro rem
  induction rem with
  | zero =>
    intro i A I j3 j4 j5 h' hi hA hI F
    subst hA hI
    obtain ⟨X, e87, e20, -, B⟩ := M.fr F
    have : i = n := by omega
    subst this
    rw [B_259_4 X, e87, W.1.1, w32_id (a := (i : Int)) (by omega) (by omega), if_pos (by omega)]
    exact hq h' F
  | succ rem ih =>
    intro i A I j3 j4 j5 h' hi hA hI F
    subst hA hI
    obtain ⟨X, e87, e20, -, B⟩ := M.fr F
    have ms := msk_s (p := suP G L) (k := i) (by omega)
    rw [B_259_4 X, e87, W.1.1, w32_id (a := (n : Int)) (by omega) (by omega), w32_id (a := (i : Int)) (by omega) (by omega), if_neg (by omega)]
    refine lp_mwould (M.fr F) (show i < n by omega) (fun h1 v k3 k4 k5 F1 hv => ?_) (G 2).toNat 0 _ _ _ h' (by omega) rfl rfl (Fr.refl h')
    refine ih (i + 1) _ _ _ _ _ h1 (by omega) ?_ (by simp) (F.trans F1)
    rw [hv]
    by_cases hp : suP G L i = true
    · rw [if_pos hp]; exact ms.1 hp
    · rw [if_neg hp]; exact ms.2.2 (by simpa using hp)
theorem sp_that (M : MJ sh h G n m L) (hq : ∀ h', Fr MP MS h h' → Q (0, (msk (suP G L) n : Int)) sh sl h') : WM sc (d + 7) 259 [(2, 85)] sh sl h Q := by
  rw [B_259_0 M.1]
  exact lp_that M hq n 0 _ _ _ _ _ h (by omega) rfl rfl (Fr.refl h)
end CANBE
theorem op_canBe : OpOK 132 258 0 [] := by
  intro sc d sh sl h I
  have X := I.fx
  obtain ⟨n, m, L, Lv, Hs⟩ := I.live
  rw [B_132_0 X]
  refine sp_suspects (Lv.cj X) (fun h1 F1 => ?_)
  have X1 := F1.fix X (by decide +kernel)
  have X3 : Fix sh (setH h1 85 0 0) := X1.s (by decide +kernel)
  simp only [pushR0]
  rw [B_132_7 X1, B_258_0 X1]
  refine sp_that ((Lv.mj X I.od).behind F1) (fun h2 F2 => ?_)
  simp only [pushR0]
  rw [B_258_9 (F2.fix X3 (by decide +kernel))]
  exact ⟨_, rfl, rfl, by omega, by omega, I.two (P1 := JP) (S1 := [(85, 0)]) ((F1.mono rfl).set rfl) F2 (by decide +kernel) (by decide +kernel) (by decide +kernel) (by decide +kernel)⟩
/-! compare -/
def cmA (G : Nat → Int) (L : List Law) (m : Nat) : Int := psum (fun l => quOnA G L l) m
section COMPARE
variable {sc : Nat × (Nat → Int)} {d : Nat} {sh : Shp} {sl : Nat} {h : Sto} {Q : Pst} {G : Nat → Int} {n m : Nat} {L : List Law}
theorem lp_cmp {x x2 : Int} (C : CJ sh h G n m L 10) (hq : ∀ h', Fr JP [] h h' → Q (0, cmA G L m) sh sl (setH h' 1 13 x2)) : ∀ (rem i : Nat) (A I : Int) (h' : Sto), i + rem = m → A = psum (fun l => quOnA G L l) i → I = i → Fr JP [] h h' → WF sc (d + 5) 146 36 [(2, 0), (0, x), (0, x2), (0, A), (0, I)] [] sh sl h' Q := by
  have W := C.2.2.2.1
  have hm3 := W.1.2.2.2.1
  intro rem
  induction rem with
  | zero =>
    intro i A I h' hi hA hI F
    subst hA hI
    obtain ⟨X, S, R, -, B⟩ := C.fr F (Or.inl rfl)
    have : i = m := by omega
    subst this
    rw [B_146_36 X, S.1.2.1, w32_id (a := (i : Int)) (by omega) (by omega), if_pos (by omega)]
    exact hq h' F
  | succ rem ih =>
    intro i A I h' hi hA hI F
    subst hA hI
    obtain ⟨X, S, R, -, B⟩ := C.fr F (Or.inl rfl)
    rw [B_146_36 X, S.1.2.1, w32_id (a := (m : Int)) (by omega) (by omega), w32_id (a := (i : Int)) (by omega) (by omega), if_neg (by omega)]
    refine sp_quOn JQa (C.fr F (Or.inl rfl)) (show i < m by omega) (fun h1 F1 => ?_)
    simp only [pushR0]
    rw [B_146_58 (F1.fix X (by decide +kernel))]
    exact ih (i + 1) _ _ h1 (by omega) rfl (by simp) (F.trans F1)
theorem lp_mcmp {x x2 : Int} (M : MJ sh h G n m L) (hq : ∀ h', Fr MP MS h h' → Q (0, cmA G L m) sh sl (setH h' 87 4 x2)) : ∀ (rem i : Nat) (A I : Int) (h' : Sto), i + rem = m → A = psum (fun l => quOnA G L l) i → I = i → Fr MP MS h h' → WF sc (d + 8) 268 34 [(2, 85), (0, x), (0, x2), (0, A), (0, I)] [] sh sl h' Q := by
  have W := M.2.2.2.1
  have hm3 := W.1.2.2.2.1
  intro rem
  induction rem with
  | zero =>
    intro i A I h' hi hA hI F
    subst hA hI
    obtain ⟨X, e87, e20, -, B⟩ := M.fr F
    have : i = m := by omega
    subst this
    rw [B_268_34 X, e87, W.1.2.2.1, w32_id (a := (i : Int)) (by omega) (by omega), if_pos (by omega)]
    exact hq h' F
  | succ rem ih =>
    intro i A I h' hi hA hI F
    subst hA hI
    obtain ⟨X, e87, e20, -, B⟩ := M.fr F
    rw [B_268_34 X, e87, W.1.2.2.1, w32_id (a := (m : Int)) (by omega) (by omega), w32_id (a := (i : Int)) (by omega) (by omega), if_neg (by omega)]
    refine sp_mquOn (M.fr F) (show i < m by omega) (fun h1 F1 => ?_)
    simp only [pushR0]
    rw [B_268_52 (F1.fix X (by decide +kernel))]
    exact ih (i + 1) _ _ h1 (by omega) rfl (by simp) (F.trans F1)
end COMPARE
theorem op_compare {x : Int} (hx : I32 x) : OpOK 146 268 0 [(0, x)] := by
  intro sc d sh sl h I
  have X := I.fx
  obtain ⟨n, m, L, Lv, Hs⟩ := I.live
  have hLv := Lv
  have o := I.od
  obtain ⟨S, R, W, B⟩ := Lv
  have hL6 := W.1.2.2.2.2.2.2.1
  have X2 : Fix sh (setH h 85 0 0) := X.s (by decide +kernel)
  have e87 : setH h 85 0 0 87 = h 87 := setH_o (by decide)
  have hgood : (-1 ≤ x ∧ x < L.length) → WF sc (d + 99 + 1) 146 36 [(2, 0), (0, x), (0, h 1 13), (0, 0), (0, 0)] [] sh sl (setH h 1 13 x) (fun r sh1 sl1 h1 => WM sc (d + 100) 268 [(2, 85), (0, x)] sh1 sl1 h1 (fun r2 sh2 sl2 h2 => ∃ v, r = (0, v) ∧ r2 = (0, v) ∧ sh2.length ≤ sh.length + 9 ∧ sl2 ≤ sl + 900 ∧ INV sh2 h2)) := by
    intro hv
    have Fx : Fr [] [(1, 13), (87, 4), (0, 16), (85, 0), (85, 1)] h (setH (setH h 1 13 x) 87 4 x) := ((Fr.refl h).set rfl).set rfl
    have Lx := hLv.force Fx (v := x) (setH_self _ _ _ _) (by rw [setH_o (by decide), setH_self]) hv
    have ex : setH (setH h 1 13 x) 87 4 x 87 = up (h 87) 4 x := by rw [setH_r, setH_o (by decide)]
    obtain ⟨Sx, Rx, Wx, Bx⟩ := Lx
    rw [ex] at Sx Rx Wx Bx
    have Cx : CJ sh (setH h 1 13 x) (up (h 87) 4 x) n m L 10 := ⟨X.s (by decide +kernel), Sx.of (setH_o (by decide)).symm (fun j _ _ => (setH_o (by omega)).symm) (fun q hq => (setH_o (by omega)).symm), by rw [setH_o (by decide)] at Rx; exact Rx, Wx, Bx⟩
    refine lp_cmp Cx (fun h1 F1 => ?_) m 0 _ _ _ (by omega) rfl rfl (Fr.refl _)
    have F1' : Fr JP [] h (setH h1 1 13 (h 1 13)) := by
      intro q k a b
      by_cases hq : q = 1 ∧ k = 13
      · obtain ⟨rfl, rfl⟩ := hq; rw [setH_self]
      · rw [setH_other (by omega), F1 q k a b, setH_other (by omega)]
    have X1 : Fix sh (setH h1 1 13 (h 1 13)) := F1'.fix X (by decide +kernel)
    have X3 : Fix sh (setH (setH h1 1 13 (h 1 13)) 85 0 0) := X1.s (by decide +kernel)
    have ee : setH (setH h1 1 13 (h 1 13)) 85 0 0 87 = h 87 := by rw [setH_o (by decide), F1'.row 87 rfl]
    rw [B_268_0 X1, sp_mLaw (k := L.length) X3 hx (by rw [ee]; exact W.1.2.2.2.2.2.1) hL6, if_pos hv]
    simp only [pushR0]
    rw [B_268_10 X3, show w32 1 = 1 from rfl, if_pos (by decide), ee]
    have Mx : MJ sh (setH (setH (setH h1 1 13 (h 1 13)) 85 0 0) 87 4 x) (up (h 87) 4 x) n m L := ⟨X3.a (by decide +kernel), by rw [setH_r, ee], by rw [setH_o (by decide), setH_k (by decide), F1'.at 85 20 rfl]; exact o, Wx, Bx⟩
    refine lp_mcmp Mx (fun h2 F2 => ?_) m 0 _ _ _ (by omega) rfl rfl (Fr.refl _)
    have F2' : Fr MP MS (setH (setH h1 1 13 (h 1 13)) 85 0 0) (setH h2 87 4 (h 87 4)) := by
      intro q k a b
      by_cases hq : q = 87 ∧ k = 4
      · obtain ⟨rfl, rfl⟩ := hq; rw [setH_self, ee]
      · rw [setH_other (by omega), F2 q k a b, setH_other (by omega)]
    exact ⟨_, rfl, rfl, by omega, by omega, I.two (P1 := JP) (S1 := [(85, 0)]) ((F1'.mono rfl).set rfl) F2' (by decide +kernel) (by decide +kernel) (by decide +kernel) (by decide +kernel)⟩
  rw [B_146_0 X, hx.w]
  by_cases h1 : x = -1
  · rw [if_pos h1]; exact hgood (by omega)
  · rw [if_neg h1, sp_cLaw (k := L.length) X hx S.1.2.2.2.2.2.1 hL6]
    simp only [pushR0]
    rw [B_146_10 X]
    by_cases h2 : 0 ≤ x ∧ x < L.length
    · rw [if_pos h2, show w32 1 = 1 from rfl, if_pos (by decide)]; exact hgood (by omega)
    · rw [if_neg h2, w32_0, if_neg (by simp), B_268_0 X, sp_mLaw (k := L.length) X2 hx (by rw [e87]; exact W.1.2.2.2.2.2.1) hL6, if_neg (by omega)]
      simp only [pushR0]
      rw [B_268_10 X2, w32_0, if_neg (by simp)]
      exact ⟨_, rfl, rfl, by omega, by omega, I.thrown⟩
