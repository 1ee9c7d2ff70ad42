/-! count, of, at, asks -/
theorem INV.two {P1 P2 : List Nat} {S1 S2 : List (Nat × Nat)} {sh : Shp} {h h1 h2 : Sto} (I : INV sh h) (F1 : Fr P1 S1 h h1) (F2 : Fr P2 S2 h1 h2) (a1 : fixF P1 S1 = true) (b1 : cgF [1, 2, 3, 4, 5, 6, 7, 8, 10, 87, 45, 46, 90, 91, 12, 13, 14, 15, 16, 17, 18, 19, 21, 22, 23, 24, 25, 26, 27, 28, 29, 31, 32, 88, 89, 78, 119, 94, 33, 84, 86] [(85, 8), (44, 3), (44, 2), (76, 4), (76, 5), (85, 62), (85, 63), (0, 14), (85, 13), (0, 15), (85, 11), (0, 16), (85, 1), (43, 10), (85, 18), (52, 10), (85, 58), (85, 20)] P1 S1 = true) (a2 : fixF P2 S2 = true) (b2 : cgF [1, 2, 3, 4, 5, 6, 7, 8, 10, 87, 45, 46, 90, 91, 12, 13, 14, 15, 16, 17, 18, 19, 21, 22, 23, 24, 25, 26, 27, 28, 29, 31, 32, 88, 89, 78, 119, 94, 33, 84, 86] [(85, 8), (44, 3), (44, 2), (76, 4), (76, 5), (85, 62), (85, 63), (0, 14), (85, 13), (0, 15), (85, 11), (0, 16), (85, 1), (43, 10), (85, 18), (52, 10), (85, 58), (85, 20)] P2 S2 = true) : INV sh h2 := (I.fr F1 a1 b1).fr F2 a2 b2
theorem op_count {x : Int} (hx : I32 x) : OpOK 155 280 0 [(0, x)] := by
  intro sc d sh sl h I
  have X := I.fx
  obtain ⟨n, m, L, ⟨S, R, W, B⟩, Hs⟩ := I.live
  obtain ⟨t, t1, t2, t3, t4⟩ := I.tape
  obtain ⟨c1, c2, c3, c4, c5⟩ := I.scal
  have hn10 := W.1.2.1
  have hm3 := W.1.2.2.2.1
  have X2 : Fix sh (setH h 85 0 0) := X.s (by decide +kernel)
  have IT := I.thrown
  have e87 : setH h 85 0 0 87 = h 87 := setH_o (by decide)
  have e86 : setH h 85 0 0 86 = h 86 := setH_o (by decide)
  rw [B_155_0 X, hx.w]
  by_cases hr : x < 0 ∨ 12 < x
  · rw [if_pos hr, B_155_165 X, hx.w]
    have hnone : ¬ (13 ≤ x ∧ x ≤ 15) → WM sc (d + 100) 280 [(2, 85), (0, x)] sh sl h (fun r2 sh2 sl2 h2 => ∃ v, ((0 : Nat), (-1 : Int)) = (0, v) ∧ r2 = (0, v) ∧ sh2.length ≤ sh.length + 9 ∧ sl2 ≤ sl + 900 ∧ INV sh2 h2) := by
      intro hn
      rw [B_280_0 X, hx.w, if_pos hr, B_280_161 X2, hx.w, sp_in hx.l ⟨by decide, by decide⟩ ⟨by decide, by decide⟩, if_neg hn]
      simp only [pushR0]
      rw [B_280_172 X2, w32_0, if_pos rfl]
      exact ⟨_, rfl, rfl, by omega, by omega, IT⟩
    by_cases h13 : x < 13
    · rw [if_pos h13]; exact hnone (by omega)
    · rw [if_neg h13]
      by_cases h15 : 15 < x
      · rw [if_pos h15]; exact hnone (by omega)
      · rw [if_neg h15, B_46_0 X]
        have hend : ∀ (k : Nat) (v : Int), x - 13 = k → v = h 87 (5 + k) → WM sc (d + 100) 280 [(2, 85), (0, x)] sh sl h (fun r2 sh2 sl2 h2 => ∃ u, ((0 : Nat), v) = (0, u) ∧ r2 = (0, u) ∧ sh2.length ≤ sh.length + 9 ∧ sl2 ≤ sl + 900 ∧ INV sh2 h2) := by
          intro k v hk hv
          rw [B_280_0 X, hx.w, if_pos hr, B_280_161 X2, hx.w, sp_in hx.l ⟨by decide, by decide⟩ ⟨by decide, by decide⟩, if_pos (by omega)]
          simp only [pushR0]
          rw [B_280_172 X2, show w32 1 = 1 from rfl, if_neg (by decide), w32_nat (a := 5 + x - 13) (n := 5 + k) (by omega) (by omega), Int.toNat_natCast, e87, ← hv]
          exact ⟨⟨by omega, by omega⟩, _, rfl, rfl, by omega, by omega, IT⟩
        rw [w32_id (a := x - 13) (by omega) (by omega)]
        rcases (show x = 13 ∨ x = 14 ∨ x = 15 by omega) with e | e | e
        · rw [if_neg (by omega), sp_today X.bd]
          simp only [pushR0]
          rw [B_46_14 X]
          simp only [pushR0]
          rw [B_155_185 X]
          exact hend 0 _ (by omega) R.1
        · rw [if_pos (by omega), if_neg (by omega)]
          simp only [pushR0]
          rw [B_155_185 X]
          exact hend 1 _ (by omega) S.1.2.2.2.1
        · rw [if_pos (by omega), if_pos (by omega)]
          simp only [pushR0]
          rw [B_155_185 X]
          exact hend 2 _ (by omega) S.1.2.2.2.2.1
  · rw [if_neg hr]
    have hM : WM sc (d + 100) 280 [(2, 85), (0, x)] sh sl h = WM sc (d + 100) 280 [(2, 85), (0, x)] sh sl h := rfl
    rcases (show x = 0 ∨ x = 1 ∨ x = 2 ∨ x = 3 ∨ x = 4 ∨ x = 5 ∨ x = 6 ∨ x = 7 ∨ x = 8 ∨ x = 9 ∨ x = 10 ∨ x = 11 ∨ x = 12 by omega) with e | e | e | e | e | e | e | e | e | e | e | e | e <;> subst e <;> simp only [Int.reduceEq, if_true, if_false]
    · rw [B_155_68 X, B_280_0 X, hx.w]; simp only [Int.reduceEq, Int.reduceLT, or_self, if_true, if_false]
      rw [B_280_72 X2, e87, S.1.1, W.1.1]
      exact ⟨_, rfl, rfl, by omega, by omega, IT⟩
    · rw [B_155_76 X]
      refine sp_inSheet X S.1.1 R B hn10 hm3 ?_
      simp only [pushR0]
      rw [B_155_83 X, B_280_0 X, hx.w]; simp only [Int.reduceEq, Int.reduceLT, or_self, if_true, if_false]
      rw [B_280_79 X2]
      refine sp_minSheet (G := h 87) X2 e87 W.1.1 hn10 B hm3 ?_
      simp only [pushR0]
      rw [B_280_83 X2]
      refine sp_ones X2 (msk_lt10 hn10) ?_
      simp only [pushR0]
      rw [B_280_86 X2, cnt_msk hn10]
      exact ⟨_, rfl, rfl, by omega, by omega, IT⟩
    · rw [B_155_84 X, B_280_0 X, hx.w]; simp only [Int.reduceEq, Int.reduceLT, or_self, if_true, if_false]
      rw [B_280_87 X2, e87, S.1.2.1, W.1.2.2.1]
      exact ⟨_, rfl, rfl, by omega, by omega, IT⟩
    · rw [B_155_92 X, B_280_0 X, hx.w]; simp only [Int.reduceEq, Int.reduceLT, or_self, if_true, if_false]
      rw [B_280_94 X2, e87, S.1.2.2.1]
      exact ⟨_, rfl, rfl, by omega, by omega, IT⟩
    · rw [B_155_100 X, B_280_0 X, hx.w]; simp only [Int.reduceEq, Int.reduceLT, or_self, if_true, if_false]
      rw [B_280_101 X2, e87, S.1.2.2.2.2.2.1, W.1.2.2.2.2.2.1]
      exact ⟨_, rfl, rfl, by omega, by omega, IT⟩
    · rw [B_155_108 X, B_280_0 X, hx.w]; simp only [Int.reduceEq, Int.reduceLT, or_self, if_true, if_false]
      rw [B_280_108 X2, setH_k (by decide), Hs.1]
      exact ⟨_, rfl, rfl, by omega, by omega, IT⟩
    · rw [B_155_116 X, B_280_0 X, hx.w]; simp only [Int.reduceEq, Int.reduceLT, or_self, if_true, if_false]
      rw [B_280_113 X2, setH_k (by decide), t1, t2]
      exact ⟨_, rfl, rfl, by omega, by omega, IT⟩
    · rw [B_155_121 X, B_280_0 X, hx.w]; simp only [Int.reduceEq, Int.reduceLT, or_self, if_true, if_false]
      rw [B_280_118 X2, e86, c3 1 (by omega)]
      exact ⟨_, rfl, rfl, by omega, by omega, IT⟩
    · rw [B_155_128 X, B_280_0 X, hx.w]; simp only [Int.reduceEq, Int.reduceLT, or_self, if_true, if_false]
      rw [B_280_125 X2, e86, c3 2 (by omega)]
      exact ⟨_, rfl, rfl, by omega, by omega, IT⟩
    · rw [B_155_135 X, B_280_0 X, hx.w]; simp only [Int.reduceEq, Int.reduceLT, or_self, if_true, if_false]
      rw [B_280_132 X2, e86, c3 3 (by omega)]
      exact ⟨_, rfl, rfl, by omega, by omega, IT⟩
    · rw [B_155_142 X, B_280_0 X, hx.w]; simp only [Int.reduceEq, Int.reduceLT, or_self, if_true, if_false]
      rw [B_280_139 X2, e86, c3 5 (by omega)]
      exact ⟨_, rfl, rfl, by omega, by omega, IT⟩
    · rw [B_155_149 X, B_280_0 X, hx.w]; simp only [Int.reduceEq, Int.reduceLT, or_self, if_true, if_false]
      rw [B_280_146 X2, e86, c3 6 (by omega)]
      exact ⟨_, rfl, rfl, by omega, by omega, IT⟩
    · rw [B_155_157 X, B_280_0 X, hx.w]; simp only [Int.reduceEq, Int.reduceLT, or_self, if_true, if_false]
      rw [B_280_154 X2, e87, S.1.2.2.2.2.2.2]
      exact ⟨_, rfl, rfl, by omega, by omega, IT⟩
theorem JQa : JQ 47 9 10 48 49 := Or.inl ⟨rfl, rfl, rfl, rfl, rfl⟩
theorem JQb : JQ 80 77 78 81 82 := Or.inr ⟨rfl, rfl, rfl, rfl, rfl⟩
theorem Live.cj {sh : Shp} {h : Sto} {n m : Nat} {L : List Law} (X : Fix sh h) (H : Live sh h n m L) : CJ sh h (h 87) n m L 10 := ⟨X, H.1, H.2.1, H.2.2.1, H.2.2.2⟩
theorem Live.mj {sh : Shp} {h : Sto} {n m : Nat} {L : List Law} (X : Fix sh h) (o : h 85 20 = 0) (H : Live sh h n m L) : MJ sh h (h 87) n m L := ⟨X, rfl, o, H.2.2.1, H.2.2.2⟩
/-- the reference's part, behind the class's questions -/
theorem MJ.behind {sh : Shp} {h h1 : Sto} {G : Nat → Int} {n m : Nat} {L : List Law} (M : MJ sh h G n m L) (F : Fr JP [] h h1) : MJ sh (setH h1 85 0 0) G n m L := M.of (P := JP) (S := [(85, 0)]) ((F.mono rfl).set rfl) (by decide +kernel) (by decide +kernel)
theorem op_of {x y : Int} (hx : I32 x) (hy : I32 y) : OpOK 19 167 0 [(0, x), (0, y)] := by
  intro sc d sh sl h I
  have X := I.fx
  obtain ⟨n, m, L, Lv, Hs⟩ := I.live
  have C := Lv.cj X
  have M := Lv.mj X I.od
  obtain ⟨S, R, W, B⟩ := Lv
  have hn10 := W.1.2.1
  have hm3 := W.1.2.2.2.1
  have X2 : Fix sh (setH h 85 0 0) := X.s (by decide +kernel)
  have e87 : setH h 85 0 0 87 = h 87 := setH_o (by decide)
  have IT := I.thrown
  rw [B_19_0 X, sp_cStamp X hx S.1.1 hn10]
  simp only [pushR0]
  rw [B_19_5 X]
  by_cases hs : 0 ≤ x ∧ x < n
  case neg =>
    rw [if_neg hs, w32_0, if_neg (by simp), B_167_0 X, sp_mStamp X2 hx (by rw [e87]; exact W.1.1) hn10, if_neg hs]
    simp only [pushR0]
    rw [B_167_10 X2, w32_0, if_neg (by simp)]
    exact ⟨_, rfl, rfl, by omega, by omega, IT⟩
  obtain ⟨s, rfl⟩ : ∃ s : Nat, x = s := ⟨x.toNat, by omega⟩
  have hsn : s < n := by omega
  rw [if_pos hs, show w32 1 = 1 from rfl, if_pos (by decide), hy.w]
  have bw := B.2.1 s hsn
  -- the reference's way to its switch
  have hM : ∀ h1 (Q2 : Pst), Fr JP [] h h1 → (Fix sh (setH h1 85 0 0) → setH h1 85 0 0 87 = h 87 → (if y < 0 ∨ 8 < y then WF sc (d + 99 + 1) 167 158 [(2, 85), (0, (s : Int)), (0, y), (0, h 87 (8 + s))] [] sh sl (setH h1 85 0 0) Q2 else if y = 0 then WF sc (d + 99 + 1) 167 76 [(2, 85), (0, (s : Int)), (0, y), (0, h 87 (8 + s))] [] sh sl (setH h1 85 0 0) Q2 else if y = 1 then WF sc (d + 99 + 1) 167 86 [(2, 85), (0, (s : Int)), (0, y), (0, h 87 (8 + s))] [] sh sl (setH h1 85 0 0) Q2 else if y = 2 then WF sc (d + 99 + 1) 167 96 [(2, 85), (0, (s : Int)), (0, y), (0, h 87 (8 + s))] [] sh sl (setH h1 85 0 0) Q2 else if y = 3 then WF sc (d + 99 + 1) 167 106 [(2, 85), (0, (s : Int)), (0, y), (0, h 87 (8 + s))] [] sh sl (setH h1 85 0 0) Q2 else if y = 4 then WF sc (d + 99 + 1) 167 116 [(2, 85), (0, (s : Int)), (0, y), (0, h 87 (8 + s))] [] sh sl (setH h1 85 0 0) Q2 else if y = 5 then WF sc (d + 99 + 1) 167 128 [(2, 85), (0, (s : Int)), (0, y), (0, h 87 (8 + s))] [] sh sl (setH h1 85 0 0) Q2 else if y = 6 then WF sc (d + 99 + 1) 167 134 [(2, 85), (0, (s : Int)), (0, y), (0, h 87 (8 + s))] [] sh sl (setH h1 85 0 0) Q2 else if y = 7 then WF sc (d + 99 + 1) 167 146 [(2, 85), (0, (s : Int)), (0, y), (0, h 87 (8 + s))] [] sh sl (setH h1 85 0 0) Q2 else WF sc (d + 99 + 1) 167 152 [(2, 85), (0, (s : Int)), (0, y), (0, h 87 (8 + s))] [] sh sl (setH h1 85 0 0) Q2)) → WM sc (d + 100) 167 [(2, 85), (0, (s : Int)), (0, y)] sh sl h1 Q2 := by
    intro h1 Q2 F hw
    have X1 : Fix sh h1 := F.fix X (by decide +kernel)
    have X3 : Fix sh (setH h1 85 0 0) := X1.s (by decide +kernel)
    have e : setH h1 85 0 0 87 = h 87 := by rw [setH_o (by decide), F.row 87 rfl]
    rw [B_167_0 X1, sp_mStamp X3 hx (by rw [e]; exact W.1.1) hn10, if_pos hs]
    simp only [pushR0]
    rw [B_167_10 X3, show w32 1 = 1 from rfl, if_pos (by decide), w32_nat (a := 8 + (s : Int)) (n := 8 + s) (by omega) (by omega), Int.toNat_natCast, e, hy.w]
    exact ⟨⟨by omega, by omega⟩, hw X3 e⟩
  have ws : w32 (s : Int) = s := w32_id (by omega) (by omega)
  by_cases hr : y < 0 ∨ 8 < y
  · rw [if_pos hr, B_19_150 X]
    refine hM h _ (Fr.refl h) (fun X3 e => ?_)
    rw [if_pos hr, B_167_158 X3]
    exact ⟨_, rfl, rfl, by omega, by omega, IT⟩
  rw [if_neg hr]
  have go : ∀ h1 (Q2 : Pst), Fr JP [] h h1 → (Fix sh (setH h1 85 0 0) → setH h1 85 0 0 87 = h 87 → (if y = 0 then WF sc (d + 99 + 1) 167 76 [(2, 85), (0, (s : Int)), (0, y), (0, h 87 (8 + s))] [] sh sl (setH h1 85 0 0) Q2 else if y = 1 then WF sc (d + 99 + 1) 167 86 [(2, 85), (0, (s : Int)), (0, y), (0, h 87 (8 + s))] [] sh sl (setH h1 85 0 0) Q2 else if y = 2 then WF sc (d + 99 + 1) 167 96 [(2, 85), (0, (s : Int)), (0, y), (0, h 87 (8 + s))] [] sh sl (setH h1 85 0 0) Q2 else if y = 3 then WF sc (d + 99 + 1) 167 106 [(2, 85), (0, (s : Int)), (0, y), (0, h 87 (8 + s))] [] sh sl (setH h1 85 0 0) Q2 else if y = 4 then WF sc (d + 99 + 1) 167 116 [(2, 85), (0, (s : Int)), (0, y), (0, h 87 (8 + s))] [] sh sl (setH h1 85 0 0) Q2 else if y = 5 then WF sc (d + 99 + 1) 167 128 [(2, 85), (0, (s : Int)), (0, y), (0, h 87 (8 + s))] [] sh sl (setH h1 85 0 0) Q2 else if y = 6 then WF sc (d + 99 + 1) 167 134 [(2, 85), (0, (s : Int)), (0, y), (0, h 87 (8 + s))] [] sh sl (setH h1 85 0 0) Q2 else if y = 7 then WF sc (d + 99 + 1) 167 146 [(2, 85), (0, (s : Int)), (0, y), (0, h 87 (8 + s))] [] sh sl (setH h1 85 0 0) Q2 else WF sc (d + 99 + 1) 167 152 [(2, 85), (0, (s : Int)), (0, y), (0, h 87 (8 + s))] [] sh sl (setH h1 85 0 0) Q2)) → WM sc (d + 100) 167 [(2, 85), (0, (s : Int)), (0, y)] sh sl h1 Q2 := by
    intro h1 Q2 F hw
    exact hM h1 Q2 F (fun a b => by rw [if_neg hr]; exact hw a b)
  rcases (show y = 0 ∨ y = 1 ∨ y = 2 ∨ y = 3 ∨ y = 4 ∨ y = 5 ∨ y = 6 ∨ y = 7 ∨ y = 8 by omega) with e | e | e | e | e | e | e | e | e <;> subst e <;> simp only [Int.reduceEq, if_true, if_false] at go ⊢
  · rw [B_19_68 X, ws, Int.toNat_natCast, (S.2.1 s hsn).1]
    refine ⟨⟨by omega, by omega⟩, go h _ (Fr.refl h) (fun X3 e => ?_)⟩
    rw [B_167_76 X3, w32_nat (a := 49 + (s : Int)) (n := 49 + s) (by omega) (by omega), Int.toNat_natCast, e]
    exact ⟨⟨by omega, by omega⟩, _, rfl, rfl, by omega, by omega, IT⟩
  · rw [B_19_78 X, ws, Int.toNat_natCast, (S.2.1 s hsn).2.1]
    refine ⟨⟨by omega, by omega⟩, go h _ (Fr.refl h) (fun X3 e => ?_)⟩
    rw [B_167_86 X3, w32_nat (a := 59 + (s : Int)) (n := 59 + s) (by omega) (by omega), Int.toNat_natCast, e]
    exact ⟨⟨by omega, by omega⟩, _, rfl, rfl, by omega, by omega, IT⟩
  · rw [B_19_88 X, ws, Int.toNat_natCast, (S.2.1 s hsn).2.2]
    refine ⟨⟨by omega, by omega⟩, go h _ (Fr.refl h) (fun X3 e => ?_)⟩
    rw [B_167_96 X3, w32_nat (a := 69 + (s : Int)) (n := 69 + s) (by omega) (by omega), Int.toNat_natCast, e]
    exact ⟨⟨by omega, by omega⟩, _, rfl, rfl, by omega, by omega, IT⟩
  · rw [B_19_98 X]
    refine (bn_glueOf (b := 9) (c := 10) X.bd (show s < 10 by omega)).mpr ?_
    simp only [pushR0]
    rw [B_19_103 X, (R.2.1 s hsn).1]
    refine go h _ (Fr.refl h) (fun X3 e => ?_)
    rw [B_167_106 X3, w32_nat (a := 18 + (s : Int)) (n := 18 + s) (by omega) (by omega), Int.toNat_natCast, e]
    exact ⟨⟨by omega, by omega⟩, _, rfl, rfl, by omega, by omega, IT⟩
  · rw [B_19_104 X]
    have r := (R.2.1 s hsn).2
    have e1 : ((11 : Int) + s).toNat = 11 + s := by omega
    refine (sp_letterOf (b := 9) (c := 10) X.bd ⟨by omega, by omega⟩ ?_).mpr ?_
    · rw [show (10 : Int).toNat = 10 from rfl, e1, r]; split <;> omega
    · simp only [pushR0]
      rw [B_19_109 X, show (10 : Int).toNat = 10 from rfl, e1, r]
      refine go h _ (Fr.refl h) (fun X3 e => ?_)
      rw [B_167_116 X3, w32_id (a := h 87 (8 + s)) (by omega) (by omega)]
      by_cases h9 : h 87 (8 + s) = 9
      · rw [if_neg (by simpa using h9), if_pos h9, if_pos (by decide)]
        exact ⟨_, rfl, rfl, by omega, by omega, IT⟩
      · rw [if_pos h9, if_neg h9, if_neg (by omega)]
        exact ⟨_, rfl, rfl, by omega, by omega, IT⟩
  · rw [B_19_110 X]
    refine (sp_cspot (b := 9) (c := 10) X.bd R B hn10 hm3 hsn).mpr ?_
    simp only [pushR0]
    rw [B_19_115 X]
    refine go h _ (Fr.refl h) (fun X3 e => ?_)
    rw [B_167_128 X3]
    refine sp_mspot X3 e W B hsn ?_
    simp only [pushR0]
    rw [B_167_133 X3]
    exact ⟨_, rfl, rfl, by omega, by omega, IT⟩
  · rw [B_19_116 X]
    refine (bn_homeOf (b := 9) (c := 10) X.bd (show s < 10 by omega)).mpr ?_
    simp only [pushR0]
    rw [B_19_121 X, (R.2.1 s hsn).2]
    have hw : w32 (if h 87 (8 + s) = 9 then -2 else h 87 (8 + s)) = if h 87 (8 + s) = 9 then -2 else h 87 (8 + s) := w32_id (by split <;> omega) (by split <;> omega)
    rw [hw]
    by_cases h9 : h 87 (8 + s) = 9
    · rw [if_pos h9, if_neg (by simp)]
      refine go h _ (Fr.refl h) (fun X3 e => ?_)
      rw [B_167_134 X3, w32_id (a := h 87 (8 + s)) (by omega) (by omega), if_neg (by simpa using h9)]
      exact ⟨_, rfl, rfl, by omega, by omega, IT⟩
    · rw [if_neg h9, if_pos (by omega)]
      refine go h _ (Fr.refl h) (fun X3 e => ?_)
      rw [B_167_134 X3, w32_id (a := h 87 (8 + s)) (by omega) (by omega), if_pos h9]
      exact ⟨_, rfl, rfl, by omega, by omega, IT⟩
  · rw [B_19_132 X]
    refine sp_counts JQa C hsn (fun h1 F1 => ?_)
    simp only [pushR0]
    rw [B_19_140 (F1.fix X (by decide +kernel))]
    refine go h1 _ F1 (fun X3 e => ?_)
    rw [B_167_146 X3]
    refine sp_countsOf (M.behind F1) hsn (fun h2 F2 => ?_)
    simp only [pushR0]
    rw [B_167_151 (F2.fix X3 (by decide +kernel))]
    exact ⟨_, rfl, rfl, by omega, by omega, I.two (P1 := JP) (S1 := [(85, 0)]) ((F1.mono rfl).set rfl) F2 (by decide +kernel) (by decide +kernel) (by decide +kernel) (by decide +kernel)⟩
  · rw [B_19_141 X]
    refine sp_dries JQa C hsn (fun h1 F1 => ?_)
    simp only [pushR0]
    rw [B_19_149 (F1.fix X (by decide +kernel))]
    refine go h1 _ F1 (fun X3 e => ?_)
    rw [B_167_152 X3]
    refine sp_driesOf (M.behind F1) hsn (fun h2 F2 => ?_)
    simp only [pushR0]
    rw [B_167_157 (F2.fix X3 (by decide +kernel))]
    exact ⟨_, rfl, rfl, by omega, by omega, I.two (P1 := JP) (S1 := [(85, 0)]) ((F1.mono rfl).set rfl) F2 (by decide +kernel) (by decide +kernel) (by decide +kernel) (by decide +kernel)⟩
