section SORTSM
variable {sc : Nat × (Nat → Int)} {d : Nat} {sh : Shp} {sl : Nat} {h : Sto} {Q : Pst} {n f : Nat} {cn : Nat → Int}
theorem lp_srM {x2 : Int} (X : Fix sh h) (e0 : h 87 0 = (n : Int)) (hn10 : n ≤ 10) (hf : f ≤ 30) (ec : ∀ i, i < n → h 109 i = cn i) (cb : ∀ i, i < n → 0 ≤ cn i ∧ cn i ≤ 60) (hq : ∀ h', Fr [114] [] h h' → Q (0, if (srF (okN cn n f) (2 ^ n)).1 = -1 then -1 else if w32 x2 = 1 then (srF (okN cn n f) (2 ^ n)).1 else (srF (okN cn n f) (2 ^ n)).2) sh sl h') : ∀ (rem k : Nat) (A B S : Int) (h' : Sto), k + rem = 2 ^ n → A = (srF (okN cn n f) k).2 → B = (srF (okN cn n f) k).1 → S = k → Fr [114] [] h h' → WF sc (d + 3) 261 43 [(2, 85), (0, (f : Int)), (0, x2), (0, A), (0, B), (0, S)] [] sh sl h' Q := by
  have h2 : 2 ^ n ≤ 2 ^ 10 := Nat.pow_le_pow_right (by omega) hn10
  intro rem
  induction rem with
  | zero =>
    intro k A B S h' hk hA hB hS F
    have hb := srF_b (ok := okN cn n f) k
    have hq' := hq h' F
    have hkn : k = 2 ^ n := by omega
    rw [← hkn, ← hA, ← hB] at hq'
    have bB : w32 B = B := by
      rcases hb with q | q
      · rw [hB, q]; rfl
      · exact w32_id (by omega) (by omega)
    rw [B_261_43 (F.fix X (by decide +kernel)), F.row 87 rfl, e0, ishl_one (by omega), hS, w32_id (a := (k : Int)) (by omega) (by omega), w32_id (a := ((2 ^ n : Nat) : Int)) (by omega) (by omega), if_pos (by omega), bB]
    by_cases c : B = -1
    · rw [if_pos c] at hq' ⊢
      rw [c]; exact hq'
    · rw [if_neg c] at hq' ⊢
      by_cases c2 : w32 x2 = 1
      · rw [if_pos c2] at hq'
        rw [if_neg (fun q => q c2)]; exact hq'
      · rw [if_neg c2] at hq'
        rw [if_pos c2]; exact hq'
  | succ rem ih =>
    intro k A B S h' hk hA hB hS F
    have hb := srF_b (ok := okN cn n f) k
    have hc := cnt_le k.testBit 10
    have es : srF (okN cn n f) (k + 1) = if ((cnt k.testBit 10 : Nat) : Int) < (srF (okN cn n f) k).2 ∧ okN cn n f k = true then ((k : Int), ((cnt k.testBit 10 : Nat) : Int)) else srF (okN cn n f) k := rfl
    have X' : Fix sh h' := F.fix X (by decide +kernel)
    have bA : 0 ≤ A ∧ A ≤ 100000000 := by
      rcases hb with q | q
      · rw [hA, q]; exact ⟨by decide, by decide⟩
      · omega
    rw [B_261_43 X', F.row 87 rfl, e0, ishl_one (by omega), hS, w32_id (a := (k : Int)) (by omega) (by omega), w32_id (a := ((2 ^ n : Nat) : Int)) (by omega) (by omega), if_neg (by omega)]
    refine sp_ones (a := k) X' (by omega) ?_
    simp only [pushR0]
    rw [B_261_61 X', w32_id (a := A) (by omega) (by omega), w32_id (a := ((cnt k.testBit 10 : Nat) : Int)) (by omega) (by omega)]
    by_cases c1 : A ≤ ((cnt k.testBit 10 : Nat) : Int)
    · rw [if_neg (fun q => by omega)] at es
      rw [if_pos c1]
      exact ih (k + 1) _ _ _ _ (by omega) (by rw [es]; exact hA) (by rw [es]; exact hB) (by simp) F
    rw [if_neg c1]
    refine sp_fewM (cn := cn) (N := k) X' (by rw [F.row 87 rfl]; exact e0) hn10 (by omega) (by omega) (fun i hi => by rw [F.row 109 rfl]; exact ec i hi) cb (fun h1 F1 e114 => ?_)
    have X1 : Fix sh h1 := F1.fix X' (by decide +kernel)
    have tb : ∀ j, j ≤ f → 0 ≤ fwF cn (fun s => k.testBit s) n f j ∧ fwF cn (fun s => k.testBit s) n f j ≤ 100000000 := fun j hj => by
      have := fwF_b (cn := cn) (p := fun s => k.testBit s) (n := n) f (by omega) j hj
      omega
    have eo : okB (fwF cn (fun s => k.testBit s) n f) f = okN cn n f k := rfl
    simp only [pushR9]
    rw [B_261_72 X1]
    refine sp_mkall X1 (by omega) (fun j _ hj => e114 j hj) tb ?_
    simp only [pushR0]
    rw [B_261_77 X1, eo]
    by_cases o : okN cn n f k = true
    · rw [if_pos ⟨by omega, o⟩] at es
      rw [if_pos o, show w32 1 = 1 from rfl, if_neg (by decide)]
      refine sp_mkall X1 (by omega) (fun j _ hj => e114 j hj) tb ?_
      simp only [pushR0]
      rw [B_261_94 X1, eo, if_pos o, show w32 1 = 1 from rfl, if_neg (by decide)]
      refine sp_ones (a := k) X1 (by omega) ?_
      simp only [pushR0]
      rw [B_261_102 X1]
      exact ih (k + 1) _ _ _ _ (by omega) (by rw [es]) (by rw [es]) (by simp) (F.trans F1)
    · rw [if_neg (fun q => o q.2)] at es
      rw [if_neg o, w32_0, if_pos rfl]
      refine sp_mkall X1 (by omega) (fun j _ hj => e114 j hj) tb ?_
      simp only [pushR0]
      rw [B_261_94 X1, eo, if_neg o, w32_0, if_pos rfl]
      exact ih (k + 1) _ _ _ _ (by omega) (by rw [es]; exact hA) (by rw [es]; exact hB) (by simp) (F.trans F1)
end SORTSM
theorem op_sorts {x y : Int} (hx : I32 x) (hy : I32 y) : OpOK 138 261 0 [(0, x), (0, y)] := by
  intro sc d sh sl h I
  have X := I.fx
  obtain ⟨n, m, L, Lv, Hs⟩ := I.live
  have C := Lv.cj X
  have M := Lv.mj X I.od
  have W := M.2.2.2.1
  have hn10 := W.1.2.1
  have bad : ¬ ((1 ≤ x ∧ x ≤ 30) ∧ 0 ≤ y ∧ y ≤ 1) → WM sc (d + 100) 261 [(2, 85), (0, x), (0, y)] sh sl h (fun r2 sh2 sl2 h2 => ∃ v, ((0 : Nat), (-1 : Int)) = (0, v) ∧ r2 = (0, v) ∧ sh2.length ≤ sh.length + 9 ∧ sl2 ≤ sl + 900 ∧ INV sh2 h2) := by
    intro hb
    have X2 : Fix sh (setH h 85 0 0) := X.s (by decide +kernel)
    rw [B_261_0 X, hx.w, sp_in hx.l ⟨by decide, by decide⟩ ⟨by decide, by decide⟩]
    simp only [pushR0]
    rw [B_261_14 X2]
    by_cases c1 : 1 ≤ x ∧ x ≤ 30
    · rw [if_pos c1, show w32 1 = 1 from rfl, if_neg (by decide), hy.w, sp_in hy.l ⟨by decide, by decide⟩ ⟨by decide, by decide⟩, if_neg (fun q => hb ⟨c1, q⟩)]
      simp only [pushR0]
      rw [B_261_24 X2, w32_0, if_neg (by simp)]
      exact ⟨_, rfl, rfl, by omega, by omega, I.thrown⟩
    · rw [if_neg c1, w32_0, if_pos rfl]
      exact ⟨_, rfl, rfl, by omega, by omega, I.thrown⟩
  rw [B_138_0 X, hx.w, hy.w]
  by_cases a1 : x < 1
  · rw [if_pos a1]; exact bad (by omega)
  rw [if_neg a1]
  by_cases a2 : 30 < x
  · rw [if_pos a2]; exact bad (by omega)
  rw [if_neg a2]
  by_cases a3 : y < 0
  · rw [if_pos a3]; exact bad (by omega)
  rw [if_neg a3]
  by_cases a4 : y ≤ 1
  case neg => rw [if_neg a4]; exact bad (by omega)
  rw [if_pos a4]
  clear bad
  obtain ⟨f, rfl⟩ : ∃ f : Nat, x = f := ⟨x.toNat, by omega⟩
  have cb : ∀ i, i < n → 0 ≤ countsA (h 87) L i ∧ countsA (h 87) L i ≤ 60 := fun i hi => countsA_bd W hi
  have hf1 : 1 ≤ f := by omega
  have hf : f ≤ 30 := by omega
  have h2p : 2 ^ n ≤ 2 ^ 10 := Nat.pow_le_pow_right (by omega) hn10
  have h1p : 1 ≤ 2 ^ n := Nat.one_le_two_pow
  -- what both find
  have fin : (if okN (countsA (h 87) L) n f (2 ^ n - 1) = true then (srC (okN (countsA (h 87) L) n f) n (2 ^ n - 1)).1 else -1) = (srF (okN (countsA (h 87) L) n f) (2 ^ n)).1 := by
    by_cases o : okN (countsA (h 87) L) n f (2 ^ n - 1) = true
    · rw [if_pos o, srC_fin hn10 o]
    · rw [if_neg o, srF_none (2 ^ n) (fun i hi => ?_)]
      rw [Bool.eq_false_iff]
      intro q
      exact o (okN_mono (fun j hj _ => by rw [Nat.testBit_two_pow_sub_one]; exact decide_eq_true hj) q)
  have fb := srF_b (ok := okN (countsA (h 87) L) n f) (2 ^ n)
  have hM : ∀ (h1 : Sto) (v : Int), Fr SoP [] h h1 → v = (if (srF (okN (countsA (h 87) L) n f) (2 ^ n)).1 = -1 then -1 else if w32 y = 1 then (srF (okN (countsA (h 87) L) n f) (2 ^ n)).1 else (srF (okN (countsA (h 87) L) n f) (2 ^ n)).2) → WM sc (d + 100) 261 [(2, 85), (0, (f : Int)), (0, y)] sh sl h1 (fun r2 sh2 sl2 h2 => ∃ v', ((0 : Nat), v) = (0, v') ∧ r2 = (0, v') ∧ sh2.length ≤ sh.length + 9 ∧ sl2 ≤ sl + 900 ∧ INV sh2 h2) := by
    intro h1 v F1 hv
    have X1 : Fix sh h1 := F1.fix X (by decide +kernel)
    have F2 : Fr SoP [(85, 0)] h (setH h1 85 0 0) := (F1.mono rfl).set rfl
    have M2 : MJ sh (setH h1 85 0 0) (h 87) n m L := M.of F2 (by decide +kernel) (by decide +kernel)
    rw [B_261_0 X1, hx.w, sp_in hx.l ⟨by decide, by decide⟩ ⟨by decide, by decide⟩, if_pos (by omega)]
    simp only [pushR0]
    rw [B_261_14 M2.1, show w32 1 = 1 from rfl, if_neg (by decide), hy.w, sp_in hy.l ⟨by decide, by decide⟩ ⟨by decide, by decide⟩, if_pos (by omega)]
    simp only [pushR0]
    rw [B_261_24 M2.1, show w32 1 = 1 from rfl, if_pos (by decide)]
    refine sp_fill M2 (fun h3 F3 _ e109 => ?_)
    have M3 : MJ sh h3 (h 87) n m L := M2.of F3 (by decide +kernel) (by decide +kernel)
    simp only [pushR9]
    rw [B_261_33 M3.1]
    refine lp_srM (cn := countsA (h 87) L) M3.1 (by rw [M3.2.1]; exact W.1.1) hn10 hf e109 cb (fun h4 F4 => ?_) (2 ^ n) 0 _ _ _ _ (by omega) rfl rfl rfl (Fr.refl h3)
    have F5 : Fr [103, 105, 107, 108, 109, 114] MS (setH h1 85 0 0) h4 := (F3.mono rfl).trans (F4.mono rfl)
    exact ⟨_, by rw [← hv], rfl, by omega, by omega, I.two F2 F5 (by decide +kernel) (by decide +kernel) (by decide +kernel) (by decide +kernel)⟩
  rw [B_139_0 X]
  refine lp_srO C hf1 hf cb (fun h1 F1 => ?_) n 0 h _ _ _ _ _ _ _ (by omega) rfl (Fr.refl h) (fun i hi => by omega)
  have X1 : Fix sh h1 := F1.fix X (by decide +kernel)
  simp only [pushR0]
  rw [fin, B_138_30 X1]
  have e1 : w32 (srF (okN (countsA (h 87) L) n f) (2 ^ n)).1 = (srF (okN (countsA (h 87) L) n f) (2 ^ n)).1 := by
    rcases fb with q | q
    · rw [q]; rfl
    · exact w32_id (by omega) (by omega)
  rw [e1]
  by_cases c : (srF (okN (countsA (h 87) L) n f) (2 ^ n)).1 = -1
  · rw [if_neg (fun q => q c)]
    exact hM h1 _ F1 (by rw [if_pos c])
  rw [if_pos c, hy.w]
  have fb2 : (0 ≤ (srF (okN (countsA (h 87) L) n f) (2 ^ n)).1 ∧ (srF (okN (countsA (h 87) L) n f) (2 ^ n)).1 < (2 ^ n : Nat)) ∧ (srF (okN (countsA (h 87) L) n f) (2 ^ n)).2 = ((cnt (srF (okN (countsA (h 87) L) n f) (2 ^ n)).1.toNat.testBit 10 : Nat) : Int) := by
    rcases fb with q | q
    · rw [q] at c; exact absurd rfl c
    · exact ⟨q.1, q.2.2⟩
  by_cases y0 : y = 0
  · rw [if_neg (fun q => q y0)]
    obtain ⟨N, hN⟩ : ∃ N : Nat, (srF (okN (countsA (h 87) L) n f) (2 ^ n)).1 = N := ⟨_, (Int.toNat_of_nonneg fb2.1.1).symm⟩
    have hN2 : N < 1024 := by have := fb2.1.2; omega
    rw [hN, sp_bits hN2]
    simp only [pushR0]
    rw [B_138_46 X1]
    refine hM h1 _ F1 ?_
    rw [if_neg c, hy.w, if_neg (by omega), fb2.2, hN, Int.toNat_natCast]
  · rw [if_pos y0]
    refine hM h1 _ F1 ?_
    rw [if_neg c, hy.w, if_pos (by omega)]
