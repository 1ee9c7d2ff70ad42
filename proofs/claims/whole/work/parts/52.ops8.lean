/-! at, asks, holds, kin, canBe, compare, drawn -/
theorem op_at {x y : Int} (hx : I32 x) (hy : I32 y) : OpOK 36 180 0 [(0, x), (0, y)] := by
  intro sc d sh sl h I
  have X := I.fx
  obtain ⟨n, m, L, Lv, Hs⟩ := I.live
  have C := Lv.cj X
  have M := Lv.mj X I.od
  obtain ⟨S, R, W, B⟩ := Lv
  have hn10 := W.1.2.1
  have hm3 := W.1.2.2.2.1
  have X2 : Fix sh (setH h 85 0 0) := X.s (by decide +kernel)
  have e87 : setH h 85 0 0 87 = h 87 := setH_o (by decide)
  have IT := I.thrown
  rw [B_36_0 X, sp_cLetter X hx S.1.2.1 hm3]
  simp only [pushR0]
  rw [B_36_5 X]
  by_cases hs : 0 ≤ x ∧ x < m
  case neg =>
    rw [if_neg hs, w32_0, if_neg (by simp), B_180_0 X, sp_mLetter X2 hx (by rw [e87]; exact W.1.2.2.1) hm3, if_neg hs]
    simp only [pushR0]
    rw [B_180_10 X2, w32_0, if_neg (by simp)]
    exact ⟨_, rfl, rfl, by omega, by omega, IT⟩
  obtain ⟨l, rfl⟩ : ∃ l : Nat, x = l := ⟨x.toNat, by omega⟩
  have hl : l < m := by omega
  have bz := B.2.2.1 l hl
  rw [if_pos hs, show w32 1 = 1 from rfl, if_pos (by decide), hy.w]
  have ws : w32 (l : Int) = l := w32_id (by omega) (by omega)
  have i31 : w32 (31 + (l : Int)) = ((31 + l : Nat) : Int) ∧ True := ⟨w32_nat (by omega) (by omega), trivial⟩
  have rz := R.2.2.1 l hl
  by_cases hr : y < 0 ∨ 4 < y
  · rw [if_pos hr]
    have hM : ∀ (v : Int), (if 5 ≤ y ∧ y ≤ h 87 (31 + l) + 4 then v = h 87 (34 + 5 * l + (y - 5).toNat) else v = -1) → WM sc (d + 100) 180 [(2, 85), (0, (l : Int)), (0, y)] sh sl h (fun r2 sh2 sl2 h2 => ∃ u, ((0 : Nat), v) = (0, u) ∧ r2 = (0, u) ∧ sh2.length ≤ sh.length + 9 ∧ sl2 ≤ sl + 900 ∧ INV sh2 h2) := by
      intro v hv
      rw [B_180_0 X, sp_mLetter X2 hx (by rw [e87]; exact W.1.2.2.1) hm3, if_pos hs]
      simp only [pushR0]
      rw [B_180_10 X2, show w32 1 = 1 from rfl, if_pos (by decide), hy.w, if_pos hr, i31.1, Int.toNat_natCast, e87, w32_id (a := h 87 (31 + l)) (by omega) (by omega), sp_in hy.l ⟨by decide, by decide⟩ ⟨by omega, by omega⟩]
      refine ⟨⟨by omega, by omega⟩, ?_⟩
      simp only [pushR0]
      rw [B_180_116 X2]
      by_cases h5 : 5 ≤ y ∧ y ≤ h 87 (31 + l) + 4
      · rw [if_pos h5] at hv
        rw [if_pos h5, show w32 1 = 1 from rfl, if_neg (by decide), sp_mstampAt (l := l) (i := (y - 5).toNat) X2 rfl (by omega) (by omega) (by omega), e87]
        simp only [pushR0]
        rw [B_180_127 X2, hv]
        exact ⟨_, rfl, rfl, by omega, by omega, IT⟩
      · rw [if_neg h5] at hv
        rw [if_neg h5, w32_0, if_pos rfl, hv]
        exact ⟨_, rfl, rfl, by omega, by omega, IT⟩
    by_cases h5 : y < 5
    · rw [if_pos h5]; exact hM _ (by rw [if_neg (by omega)])
    · rw [if_neg h5]
      refine (bn_sizeOf (b := 9) (c := 10) X.bd (show l < 3 by omega)).mpr ?_
      simp only [pushR0]
      rw [B_36_109 X, rz.1, w32_id (a := h 87 (31 + l)) (by omega) (by omega), w32_id (a := y - 5) (by omega) (by have := hy.2; omega)]
      by_cases h6 : h 87 (31 + l) ≤ y - 5
      · rw [if_pos h6]; exact hM _ (by rw [if_neg (by omega)])
      · rw [if_neg h6]
        have ey : y - 5 = (((y - 5).toNat : Nat) : Int) := by omega
        rw [ey]
        refine (bn_stampAt (b := 9) (c := 10) X.bd (show l < 3 by omega) (show (y - 5).toNat < 5 by omega)).mpr ?_
        simp only [pushR0]
        rw [B_36_119 X, R.2.2.2 l _ hl (by omega)]
        exact hM _ (by rw [if_pos (by omega)])
  · rw [if_neg hr]
    have go : ∀ h1 (Q2 : Pst), Fr JP [] h h1 → (Fix sh (setH h1 85 0 0) → setH h1 85 0 0 87 = h 87 → (if y = 0 then (0 ≤ w32 (79 + (l : Int)) ∧ w32 (79 + (l : Int)) < 5494) ∧ Q2 (0, h 87 ((w32 (79 + (l : Int))).toNat)) sh sl (setH h1 85 0 0) else if y = 1 then (0 ≤ w32 (31 + (l : Int)) ∧ w32 (31 + (l : Int)) < 5494) ∧ Q2 (0, h 87 ((w32 (31 + (l : Int))).toNat)) sh sl (setH h1 85 0 0) else if y = 2 then WM sc (d + 99) 181 [(2, 85), (0, (l : Int))] sh sl (setH h1 85 0 0) (fun r sh1 sl1 h1 => WF sc (d + 99 + 1) 180 77 [(2, 85), (0, (l : Int)), (0, y)] (pushR r []) sh1 sl1 h1 Q2) else if y = 3 then WM sc (d + 99) 182 [(2, 85), (0, (l : Int))] sh sl (setH h1 85 0 0) (fun r sh1 sl1 h1 => WF sc (d + 99 + 1) 180 83 [(2, 85), (0, (l : Int)), (0, y)] (pushR r []) sh1 sl1 h1 Q2) else (0 ≤ w32 (28 + (l : Int)) ∧ w32 (28 + (l : Int)) < 5494) ∧ Q2 (0, h 87 ((w32 (28 + (l : Int))).toNat)) sh sl (setH h1 85 0 0))) → WM sc (d + 100) 180 [(2, 85), (0, (l : Int)), (0, y)] sh sl h1 Q2 := by
      intro h1 Q2 F hw
      have X1 : Fix sh h1 := F.fix X (by decide +kernel)
      have X3 : Fix sh (setH h1 85 0 0) := X1.s (by decide +kernel)
      have e : setH h1 85 0 0 87 = h 87 := by rw [setH_o (by decide), F.row 87 rfl]
      rw [B_180_0 X1, sp_mLetter X3 hx (by rw [e]; exact W.1.2.2.1) hm3, if_pos hs]
      simp only [pushR0]
      rw [B_180_10 X3, show w32 1 = 1 from rfl, if_pos (by decide), hy.w, if_neg hr, e]
      exact hw X3 e
    rcases (show y = 0 ∨ y = 1 ∨ y = 2 ∨ y = 3 ∨ y = 4 by omega) with e | e | e | e | e <;> subst e <;> simp only [Int.reduceEq, if_true, if_false] at go ⊢
    · rw [ws, Int.toNat_natCast, S.2.2.1 l hl]
      refine ⟨⟨by omega, by omega⟩, go h _ (Fr.refl h) (fun X3 e => ?_)⟩
      rw [w32_nat (a := 79 + (l : Int)) (n := 79 + l) (by omega) (by omega), Int.toNat_natCast]
      exact ⟨⟨by omega, by omega⟩, _, rfl, rfl, by omega, by omega, IT⟩
    · refine (bn_sizeOf (b := 9) (c := 10) X.bd (show l < 3 by omega)).mpr ?_
      simp only [pushR0]
      rw [B_36_67 X, rz.1]
      refine go h _ (Fr.refl h) (fun X3 e => ?_)
      rw [i31.1, Int.toNat_natCast]
      exact ⟨⟨by omega, by omega⟩, _, rfl, rfl, by omega, by omega, IT⟩
    · refine sp_paid JQa C hl (fun h1 F1 => ?_)
      simp only [pushR0]
      rw [B_36_76 (F1.fix X (by decide +kernel))]
      refine go h1 _ F1 (fun X3 e => ?_)
      refine sp_mpaid (M.behind F1) hl (fun h2 F2 => ?_)
      simp only [pushR0]
      rw [B_180_77 (F2.fix X3 (by decide +kernel))]
      exact ⟨_, rfl, rfl, by omega, by omega, I.two (P1 := JP) (S1 := [(85, 0)]) ((F1.mono rfl).set rfl) F2 (by decide +kernel) (by decide +kernel) (by decide +kernel) (by decide +kernel)⟩
    · refine sp_quOn JQa C hl (fun h1 F1 => ?_)
      simp only [pushR0]
      rw [B_36_85 (F1.fix X (by decide +kernel))]
      refine go h1 _ F1 (fun X3 e => ?_)
      refine sp_mquOn (M.behind F1) hl (fun h2 F2 => ?_)
      simp only [pushR0]
      rw [B_180_83 (F2.fix X3 (by decide +kernel))]
      exact ⟨_, rfl, rfl, by omega, by omega, I.two (P1 := JP) (S1 := [(85, 0)]) ((F1.mono rfl).set rfl) F2 (by decide +kernel) (by decide +kernel) (by decide +kernel) (by decide +kernel)⟩
    · refine (bn_lateOf (b := 9) (c := 10) X.bd (show l < 3 by omega)).mpr ?_
      simp only [pushR0]
      rw [B_36_91 X, rz.2]
      refine go h _ (Fr.refl h) (fun X3 e => ?_)
      rw [w32_nat (a := 28 + (l : Int)) (n := 28 + l) (by omega) (by omega), Int.toNat_natCast]
      exact ⟨⟨by omega, by omega⟩, _, rfl, rfl, by omega, by omega, IT⟩
theorem op_asks {x y z : Int} (hx : I32 x) (hy : I32 y) (hz : I32 z) : OpOK 42 184 0 [(0, x), (0, y), (0, z)] := by
  intro sc d sh sl h I
  have X := I.fx
  obtain ⟨n, m, L, Lv, Hs⟩ := I.live
  have C := Lv.cj X
  have M := Lv.mj X I.od
  obtain ⟨S, R, W, B⟩ := Lv
  have hn10 := W.1.2.1
  have X2 : Fix sh (setH h 85 0 0) := X.s (by decide +kernel)
  have e87 : setH h 85 0 0 87 = h 87 := setH_o (by decide)
  have IT := I.thrown
  have hno : ¬ ((0 ≤ x ∧ x < n) ∧ (0 ≤ y ∧ y < n) ∧ x ≠ y ∧ 0 ≤ z ∧ z ≤ 1) → WM sc (d + 100) 184 [(2, 85), (0, x), (0, y), (0, z)] sh sl h (fun r2 sh2 sl2 h2 => ∃ v, ((0 : Nat), (-1 : Int)) = (0, v) ∧ r2 = (0, v) ∧ sh2.length ≤ sh.length + 9 ∧ sl2 ≤ sl + 900 ∧ INV sh2 h2) := by
    intro hc
    rw [B_184_0 X, sp_mStamp X2 hx (by rw [e87]; exact W.1.1) hn10]
    simp only [pushR0]
    rw [B_184_10 X2]
    by_cases c1 : 0 ≤ x ∧ x < n
    case neg => rw [if_neg c1, w32_0, if_pos rfl]; exact ⟨_, rfl, rfl, by omega, by omega, IT⟩
    rw [if_pos c1, show w32 1 = 1 from rfl, if_neg (by decide), sp_mStamp X2 hy (by rw [e87]; exact W.1.1) hn10]
    simp only [pushR0]
    rw [B_184_18 X2]
    by_cases c2 : 0 ≤ y ∧ y < n
    case neg => rw [if_neg c2, w32_0, if_pos rfl]; exact ⟨_, rfl, rfl, by omega, by omega, IT⟩
    rw [if_pos c2, show w32 1 = 1 from rfl, if_neg (by decide), hx.w, hy.w]
    by_cases c3 : x = y
    · rw [if_pos c3]; exact ⟨_, rfl, rfl, by omega, by omega, IT⟩
    · rw [if_neg c3, hz.w, sp_in hz.l ⟨by decide, by decide⟩ ⟨by decide, by decide⟩, if_neg (by omega)]
      simp only [pushR0]
      rw [B_184_33 X2, w32_0, if_neg (by simp)]
      exact ⟨_, rfl, rfl, by omega, by omega, IT⟩
  rw [B_42_0 X, sp_cStamp X hx S.1.1 hn10]
  simp only [pushR0]
  rw [B_42_5 X]
  by_cases c1 : 0 ≤ x ∧ x < n
  case neg => rw [if_neg c1, w32_0, if_pos rfl]; exact hno (by omega)
  rw [if_pos c1, show w32 1 = 1 from rfl, if_neg (by decide), sp_cStamp X hy S.1.1 hn10]
  simp only [pushR0]
  rw [B_42_13 X]
  by_cases c2 : 0 ≤ y ∧ y < n
  case neg => rw [if_neg c2, w32_0, if_pos rfl]; exact hno (by omega)
  rw [if_pos c2, show w32 1 = 1 from rfl, if_neg (by decide), hx.w, hy.w, hz.w]
  by_cases c3 : x = y
  · rw [if_neg (by simpa using c3)]; exact hno (by omega)
  rw [if_pos c3]
  have hM : ∀ h1 (Q2 : Pst), Fr JP [] h h1 → (0 ≤ z ∧ z ≤ 1) → (Fix sh (setH h1 85 0 0) → (if ¬ z = 0 then WM sc (d + 99) 185 [(2, 85), (0, x), (0, y)] sh sl (setH h1 85 0 0) (fun r sh1 sl1 h1 => WF sc (d + 99 + 1) 184 57 [(2, 85), (0, x), (0, y), (0, z)] (pushR r []) sh1 sl1 h1 Q2) else WM sc (d + 99) 183 [(2, 85), (0, x), (0, y)] sh sl (setH h1 85 0 0) (fun r sh1 sl1 h1 => WF sc (d + 99 + 1) 184 48 [(2, 85), (0, x), (0, y), (0, z)] (pushR r []) sh1 sl1 h1 Q2))) → WM sc (d + 100) 184 [(2, 85), (0, x), (0, y), (0, z)] sh sl h1 Q2 := by
    intro h1 Q2 F hzz hw
    have X1 : Fix sh h1 := F.fix X (by decide +kernel)
    have X3 : Fix sh (setH h1 85 0 0) := X1.s (by decide +kernel)
    have e : setH h1 85 0 0 87 = h 87 := by rw [setH_o (by decide), F.row 87 rfl]
    rw [B_184_0 X1, sp_mStamp X3 hx (by rw [e]; exact W.1.1) hn10]
    simp only [pushR0]
    rw [B_184_10 X3, if_pos c1, show w32 1 = 1 from rfl, if_neg (by decide), sp_mStamp X3 hy (by rw [e]; exact W.1.1) hn10]
    simp only [pushR0]
    rw [B_184_18 X3, if_pos c2, show w32 1 = 1 from rfl, if_neg (by decide), hx.w, hy.w, if_neg c3, hz.w, sp_in hz.l ⟨by decide, by decide⟩ ⟨by decide, by decide⟩, if_pos hzz]
    simp only [pushR0]
    rw [B_184_33 X3, show w32 1 = 1 from rfl, if_pos (by decide), hz.w]
    exact hw X3
  obtain ⟨a, rfl⟩ : ∃ s : Nat, x = s := ⟨x.toNat, by omega⟩
  obtain ⟨b, rfl⟩ : ∃ s : Nat, y = s := ⟨y.toNat, by omega⟩
  by_cases z0 : z = 0
  · rw [if_neg (by simpa using z0)]
    refine sp_quarrel JQa C (by omega) (by omega) (fun h1 F1 => ?_)
    simp only [pushR0]
    rw [B_42_36 (F1.fix X (by decide +kernel))]
    refine hM h1 _ F1 (by omega) (fun X3 => ?_)
    rw [if_neg (by simpa using z0)]
    refine sp_quarrelOf (M.behind F1) (by omega) (by omega) (fun h2 F2 => ?_)
    simp only [pushR0]
    rw [B_184_48 (F2.fix X3 (by decide +kernel))]
    exact ⟨_, rfl, rfl, by omega, by omega, I.two (P1 := JP) (S1 := [(85, 0)]) ((F1.mono rfl).set rfl) F2 (by decide +kernel) (by decide +kernel) (by decide +kernel) (by decide +kernel)⟩
  · rw [if_pos z0]
    by_cases z1 : z = 1
    · rw [if_neg (by simpa using z1)]
      refine sp_barred JQa C (by omega) (by omega) (fun h1 F1 => ?_)
      simp only [pushR0]
      rw [B_42_51 (F1.fix X (by decide +kernel))]
      have hend : ∀ v : Int, v = (if barredA (h 87) L a b then 1 else 0) → WM sc (d + 100) 184 [(2, 85), (0, (a : Int)), (0, (b : Int)), (0, z)] sh sl h1 (fun r2 sh2 sl2 h2 => ∃ u, ((0 : Nat), v) = (0, u) ∧ r2 = (0, u) ∧ sh2.length ≤ sh.length + 9 ∧ sl2 ≤ sl + 900 ∧ INV sh2 h2) := by
        intro v hv
        refine hM h1 _ F1 (by omega) (fun X3 => ?_)
        rw [if_pos z0]
        refine sp_isBarred (M.behind F1) (by omega) (by omega) (fun h2 F2 => ?_)
        simp only [pushR0]
        rw [B_184_57 (F2.fix X3 (by decide +kernel)), ← hv]
        have hI : INV sh h2 := I.two (P1 := JP) (S1 := [(85, 0)]) ((F1.mono rfl).set rfl) F2 (by decide +kernel) (by decide +kernel) (by decide +kernel) (by decide +kernel)
        have hv01 : v = 0 ∨ v = 1 := by rw [hv]; split <;> simp
        rcases hv01 with e | e
        · subst e; rw [w32_0, if_pos rfl]; exact ⟨_, rfl, rfl, by omega, by omega, hI⟩
        · subst e; rw [show w32 1 = 1 from rfl, if_neg (by decide)]; exact ⟨_, rfl, rfl, by omega, by omega, hI⟩
      by_cases hb : barredA (h 87) L a b = true
      · rw [if_pos hb, show w32 1 = 1 from rfl, if_neg (by decide)]
        exact hend 1 (by rw [if_pos hb])
      · rw [if_neg hb, w32_0, if_pos rfl]
        exact hend 0 (by rw [if_neg hb])
    · rw [if_pos z1]; exact hno (by omega)
