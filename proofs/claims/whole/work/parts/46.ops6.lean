/-! force, hear -/
section SMALLQ
variable {sc : Nat × (Nat → Int)} {d : Nat} {sh : Shp} {sl : Nat} {h : Sto} {Q : Pst} {n m : Nat}
theorem sp_cStamp {x : Int} (X : Fix sh h) (hx : I32 x) (hn : h 1 0 = n) (hn10 : n ≤ 10) : WM sc (d + 1) 20 [(2, 0), (0, x)] sh sl h Q ↔ Q (0, if 0 ≤ x ∧ x < n then 1 else 0) sh sl h := by
  rw [B_20_0 X, hx.w, hn, w32_id (a := (n : Int)) (by omega) (by omega)]
  by_cases h0 : x < 0
  · rw [if_pos h0, if_neg (by omega)]
  · rw [if_neg h0]
    by_cases h1 : (n : Int) ≤ x
    · rw [if_pos h1, if_neg (by omega)]
    · rw [if_neg h1, if_pos (by omega)]
theorem sp_cLetter {x : Int} (X : Fix sh h) (hx : I32 x) (hn : h 1 4 = m) (hn10 : m ≤ 3) : WM sc (d + 1) 37 [(2, 0), (0, x)] sh sl h Q ↔ Q (0, if 0 ≤ x ∧ x < m then 1 else 0) sh sl h := by
  rw [B_37_0 X, hx.w, hn, w32_id (a := (m : Int)) (by omega) (by omega)]
  by_cases h0 : x < 0
  · rw [if_pos h0, if_neg (by omega)]
  · rw [if_neg h0]
    by_cases h1 : (m : Int) ≤ x
    · rw [if_pos h1, if_neg (by omega)]
    · rw [if_neg h1, if_pos (by omega)]
theorem sp_cLaw {x : Int} {k : Nat} (X : Fix sh h) (hx : I32 x) (hn : h 1 11 = k) (hn10 : k ≤ 6) : WM sc (d + 1) 102 [(2, 0), (0, x)] sh sl h Q ↔ Q (0, if 0 ≤ x ∧ x < k then 1 else 0) sh sl h := by
  rw [B_102_0 X, hx.w, hn, w32_id (a := (k : Int)) (by omega) (by omega)]
  by_cases h0 : x < 0
  · rw [if_pos h0, if_neg (by omega)]
  · rw [if_neg h0]
    by_cases h1 : (k : Int) ≤ x
    · rw [if_pos h1, if_neg (by omega)]
    · rw [if_neg h1, if_pos (by omega)]
theorem sp_mStamp {x : Int} (X : Fix sh h) (hx : I32 x) (hn : h 87 0 = n) (hn10 : n ≤ 10) : WM sc (d + 2) 168 [(2, 85), (0, x)] sh sl h Q ↔ Q (0, if 0 ≤ x ∧ x < n then 1 else 0) sh sl h := by
  rw [B_168_0 X, hx.w, hn, w32_id (a := (n : Int)) (by omega) (by omega), sp_in hx.l ⟨by decide, by decide⟩ ⟨by omega, by omega⟩]
  simp only [pushR0]
  rw [B_168_15 X (by split <;> omega), show (if 0 ≤ x ∧ x ≤ (n : Int) - 1 then (1 : Int) else 0) = if 0 ≤ x ∧ x < n then 1 else 0 by split <;> split <;> omega]
theorem sp_mLetter {x : Int} (X : Fix sh h) (hx : I32 x) (hn : h 87 1 = m) (hn10 : m ≤ 3) : WM sc (d + 2) 170 [(2, 85), (0, x)] sh sl h Q ↔ Q (0, if 0 ≤ x ∧ x < m then 1 else 0) sh sl h := by
  rw [B_170_0 X, hx.w, hn, w32_id (a := (m : Int)) (by omega) (by omega), sp_in hx.l ⟨by decide, by decide⟩ ⟨by omega, by omega⟩]
  simp only [pushR0]
  rw [B_170_15 X (by split <;> omega), show (if 0 ≤ x ∧ x ≤ (m : Int) - 1 then (1 : Int) else 0) = if 0 ≤ x ∧ x < m then 1 else 0 by split <;> split <;> omega]
theorem sp_mLaw {x : Int} {k : Nat} (X : Fix sh h) (hx : I32 x) (hn : h 87 3 = k) (hn10 : k ≤ 6) : WM sc (d + 2) 222 [(2, 85), (0, x)] sh sl h Q ↔ Q (0, if -1 ≤ x ∧ x < k then 1 else 0) sh sl h := by
  rw [B_222_0 X, hx.w, hn, w32_id (a := (k : Int)) (by omega) (by omega)]
  by_cases h1 : x = -1
  · rw [if_pos h1, if_pos (by omega)]
  · rw [if_neg h1, sp_in hx.l ⟨by decide, by decide⟩ ⟨by omega, by omega⟩]
    simp only [pushR0]
    rw [B_222_20 X]
    by_cases h2 : 0 ≤ x ∧ x ≤ (k : Int) - 1
    · rw [if_pos h2, show w32 1 = 1 from rfl, if_neg (by decide), if_pos (by omega)]
    · rw [if_neg h2, w32_0, if_pos rfl, if_neg (by omega)]
end SMALLQ
theorem Live.force {sh : Shp} {h h2 : Sto} {n m : Nat} {L : List Law} {v : Int} (H : Live sh h n m L) (F : Fr [] [(1, 13), (87, 4), (0, 16), (85, 0), (85, 1)] h h2) (e87 : h2 87 4 = v) (e1 : h2 1 13 = v) (hv : -1 ≤ v ∧ v < L.length) : Live sh h2 n m L := by
  obtain ⟨S, R, W, B⟩ := H
  have hS := S
  have hW := W
  have hn10 := W.1.2.1
  have hm3 := W.1.2.2.2.1
  obtain ⟨⟨s0, s4, s6, s9, s10, s11, s13⟩, s2, s3, s4', s5⟩ := S
  obtain ⟨w1, w2, w3, w4, w5⟩ := W
  have e : ∀ i, i ≠ 4 → h2 87 i = h 87 i := fun i hi => F 87 i (by simp) (by simp [hi])
  refine ⟨⟨?_, fun s hs => ?_, fun l hl => ?_, fun i hi => ?_, hS.laws (F.row (1 + 7) rfl) (F.cg (R := []) (C := []) (by decide +kernel)).2.2⟩, R.of B hn10 hm3 (fun i _ => by rw [F.row 10 rfl]) (fun i _ _ => e i (by omega)), ⟨?_, fun s hs => ?_, fun l hl => ?_, fun i hi => ?_, SW.laws hW (fun i hi => e i (by omega))⟩, B.of hn10 hm3 (fun i _ _ => e i (by omega))⟩
  · rw [F.at 1 0 rfl, F.at 1 4 rfl, F.at 1 6 rfl, F.at 1 9 rfl, F.at 1 10 rfl, F.at 1 11 rfl, e1, e87, e 2 (by omega), e 6 (by omega), e 7 (by omega)]
    exact ⟨s0, s4, s6, s9, s10, s11, rfl⟩
  · rw [F.row (1 + 1) rfl, F.row (1 + 2) rfl, F.row (1 + 3) rfl, e _ (by omega), e _ (by omega), e _ (by omega)]; exact s2 s hs
  · rw [F.row (1 + 4) rfl, e _ (by omega)]; exact s3 l hl
  · rw [e _ (by omega)] at hi
    rw [F.row (1 + 5) rfl, F.row (1 + 6) rfl, e _ (by omega), e _ (by omega)]; exact s4' i hi
  · rw [e 0 (by omega), e 1 (by omega), e 2 (by omega), e 3 (by omega), e87, e 6 (by omega), e 7 (by omega)]; omega
  · rw [e _ (by omega), e _ (by omega), e _ (by omega)]; exact w2 s hs
  · rw [e _ (by omega)]; exact w3 l hl
  · rw [e _ (by omega)] at hi
    rw [e _ (by omega), e _ (by omega)]; exact w4 i hi
theorem op_force {x : Int} (hx : I32 x) : OpOK 101 221 0 [(0, x)] := by
  intro sc d sh sl h I
  have X := I.fx
  obtain ⟨n, m, L, Lv, Hs⟩ := I.live
  obtain ⟨S, R, W, B⟩ := Lv
  have hL6 := W.1.2.2.2.2.2.2.1
  have Xr : ∀ v, Fix sh (cTell h v) := fun v => cTell_fr.fix X (by decide +kernel)
  have Xr2 : ∀ v, Fix sh (setH (cTell h v) 85 0 0) := fun v => (Xr v).s (by decide +kernel)
  have hgood : (-1 ≤ x ∧ x < L.length) → WM sc (d + 99) 18 [(2, 0), (0, h 1 13)] sh sl (setH h 1 13 x) (fun r sh1 sl1 h1 => WF sc (d + 99 + 1) 101 41 [(2, 0), (0, x), (0, h 1 13)] (pushR r []) sh1 sl1 h1 (fun r sh1 sl1 h1 => WM sc (d + 100) 221 [(2, 85), (0, x)] sh1 sl1 h1 (fun r2 sh2 sl2 h2 => ∃ v, r = (0, v) ∧ r2 = (0, v) ∧ sh2.length ≤ sh.length + 9 ∧ sl2 ≤ sl + 900 ∧ INV sh2 h2))) := by
    intro hv
    have X1 : Fix sh (setH h 1 13 x) := X.s (by decide +kernel)
    have X2 : Fix sh (setH (setH h 1 13 x) 0 16 0) := X1.s (by decide +kernel)
    have X3 : Fix sh (setH (setH (setH h 1 13 x) 0 16 0) 85 0 0) := X2.s (by decide +kernel)
    have X4 : Fix sh (setH (setH (setH (setH (setH h 1 13 x) 0 16 0) 85 0 0) 87 4 x) 85 1 0) := (X3.a (by decide +kernel)).s (by decide +kernel)
    have e87 : setH (setH (setH h 1 13 x) 0 16 0) 85 0 0 87 = h 87 := by simp (disch := omega) only [setH_o]
    rw [sp_granted X1]
    simp only [pushR0]
    rw [B_101_41 X2, B_221_0 X2, sp_mLaw (k := L.length) X3 hx (by rw [e87]; exact W.1.2.2.2.2.2.1) hL6, if_pos hv]
    simp only [pushR0]
    rw [B_221_10 X3, show w32 1 = 1 from rfl, if_neg (by decide), B_187_0 X3, show w32 4 = 4 from rfl, toNatL]
    refine ⟨⟨by decide, by decide⟩, ⟨by decide, by decide⟩, ?_⟩
    simp only [pushR0]
    rw [B_221_19 X4, B_221_28 X4, e87]
    refine ⟨_, rfl, by rw [S.1.2.2.2.2.2.2], by omega, by omega, ?_⟩
    have F : Fr [] [(1, 13), (87, 4), (0, 16), (85, 0), (85, 1)] h (setH (setH (setH (setH (setH h 1 13 x) 0 16 0) 85 0 0) 87 4 x) 85 1 0) := (((((Fr.refl h).set rfl).set rfl).set rfl).set rfl).set rfl
    refine I.fin F (by decide +kernel) (by decide +kernel) ?_ ⟨n, m, L, Live.force ⟨S, R, W, B⟩ F ?_ ?_ hv, Hs.cg (F.cg (by decide +kernel))⟩
    · rw [setH_self]; simp (disch := omega) only [setH_o, setH_self]
    · simp (disch := omega) only [setH_o, setH_self]
    · simp (disch := omega) only [setH_o, setH_self]
  rw [B_101_0 X, hx.w]
  by_cases h1 : x = -1
  · rw [if_pos h1]; exact hgood (by omega)
  · rw [if_neg h1, sp_cLaw (k := L.length) X hx S.1.2.2.2.2.2.1 hL6]
    simp only [pushR0]
    rw [B_101_10 X]
    by_cases h2 : 0 ≤ x ∧ x < L.length
    · rw [if_pos h2, show w32 1 = 1 from rfl, if_pos (by decide)]; exact hgood (by omega)
    · rw [if_neg h2, w32_0, if_neg (by simp), sp_refT X (by omega)]
      simp only [pushR0]
      rw [B_101_19 (Xr _), B_221_0 (Xr _), sp_mLaw (k := L.length) (Xr2 _) hx (by rw [setH_o (by decide), cTell_fr.row 87 rfl]; exact W.1.2.2.2.2.2.1) hL6, if_neg (by omega)]
      simp only [pushR0]
      rw [B_221_10 (Xr2 _), w32_0, if_pos rfl, sp_telT (Xr2 _) (by omega)]
      simp only [pushR0]
      rw [B_221_28 (mTell_fr.fix (Xr2 _) (by decide +kernel))]
      exact ⟨_, rfl, rfl, by omega, by omega, I.ref (by omega)⟩
theorem Live.hear {sh : Shp} {h h2 : Sto} {n m k : Nat} {L : List Law} {x y : Int} (H : Live sh h n m L) (hk : h 87 2 = k) (hk6 : k < 6) (hx : 0 ≤ x ∧ x < n) (hy : 0 ≤ y ∧ y ≤ 20) (F : Fr [6, 7, 87] [(1, 6), (0, 16), (85, 0), (85, 1)] h h2) (e87 : h2 87 = up (up (up (h 87) (82 + 2 * k) x) (82 + 2 * k + 1) y) 2 ((k : Int) + 1)) (e1 : h2 1 6 = (k : Int) + 1) (e6 : h2 6 = up (h 6) k x) (e7 : h2 7 = up (h 7) k y) : Live sh h2 n m L := by
  obtain ⟨S, R, W, B⟩ := H
  have hS := S
  have hW := W
  have hn10 := W.1.2.1
  have hm3 := W.1.2.2.2.1
  obtain ⟨⟨s0, s4, s6, s9, s10, s11, s13⟩, s2, s3, s4', s5⟩ := S
  obtain ⟨w1, w2, w3, w4, w5⟩ := W
  have e : ∀ i, i ≠ 2 → i ≠ 82 + 2 * k → i ≠ 82 + 2 * k + 1 → h2 87 i = h 87 i := fun i a b c => by rw [e87, up_n a, up_n c, up_n b]
  have z2 : h2 87 2 = (k : Int) + 1 := by rw [e87, up_s]
  have zx : h2 87 (82 + 2 * k) = x := by rw [e87, up_n (by omega), up_n (by omega), up_s]
  have zy : h2 87 (82 + 2 * k + 1) = y := by rw [e87, up_n (by omega), up_s]
  refine ⟨⟨?_, fun s hs => ?_, fun l hl => ?_, fun i hi => ?_, hS.laws (F.row (1 + 7) rfl) (F.cg (R := []) (C := []) (by decide +kernel)).2.2⟩, R.of B hn10 hm3 (fun i _ => by rw [F.row 10 rfl]) (fun i _ _ => e i (by omega) (by omega) (by omega)), ⟨?_, fun s hs => ?_, fun l hl => ?_, fun i hi => ?_, SW.laws hW (fun i hi => e i (by omega) (by omega) (by omega))⟩, B.of hn10 hm3 (fun i _ _ => e i (by omega) (by omega) (by omega))⟩
  · rw [F.at 1 0 rfl, F.at 1 4 rfl, e1, F.at 1 9 rfl, F.at 1 10 rfl, F.at 1 11 rfl, F.at 1 13 rfl, z2, e 4 (by omega) (by omega) (by omega), e 6 (by omega) (by omega) (by omega), e 7 (by omega) (by omega) (by omega)]
    exact ⟨s0, s4, rfl, s9, s10, s11, s13⟩
  · rw [F.row (1 + 1) rfl, F.row (1 + 2) rfl, F.row (1 + 3) rfl, e _ (by omega) (by omega) (by omega), e _ (by omega) (by omega) (by omega), e _ (by omega) (by omega) (by omega)]; exact s2 s hs
  · rw [F.row (1 + 4) rfl, e _ (by omega) (by omega) (by omega)]; exact s3 l hl
  · rw [z2] at hi
    show h2 6 i = _ ∧ h2 7 i = _
    rw [e6, e7]
    by_cases q : i = k
    · subst q; rw [zx, zy, up_s, up_s]; exact ⟨rfl, rfl⟩
    · rw [e _ (by omega) (by omega) (by omega), e _ (by omega) (by omega) (by omega), up_n q, up_n q]; exact s4' i (by omega)
  · rw [e 0 (by omega) (by omega) (by omega), e 1 (by omega) (by omega) (by omega), z2, e 3 (by omega) (by omega) (by omega), e 4 (by omega) (by omega) (by omega), e 6 (by omega) (by omega) (by omega), e 7 (by omega) (by omega) (by omega)]; omega
  · rw [e _ (by omega) (by omega) (by omega), e _ (by omega) (by omega) (by omega), e _ (by omega) (by omega) (by omega)]; exact w2 s hs
  · rw [e _ (by omega) (by omega) (by omega)]; exact w3 l hl
  · rw [z2] at hi
    by_cases q : i = k
    · subst q; rw [zx, zy]; exact ⟨hx, hy⟩
    · rw [e _ (by omega) (by omega) (by omega), e _ (by omega) (by omega) (by omega)]; exact w4 i (by omega)
theorem op_hear {x y : Int} (hx : I32 x) (hy : I32 y) : OpOK 129 256 0 [(0, x), (0, y)] := by
  intro sc d sh sl h I
  have X := I.fx
  obtain ⟨n, m, L, Lv, Hs⟩ := I.live
  obtain ⟨S, R, W, B⟩ := Lv
  have hn10 := W.1.2.1
  have Xr : ∀ v, Fix sh (cTell h v) := fun v => cTell_fr.fix X (by decide +kernel)
  have Xr2 : ∀ v, Fix sh (setH (cTell h v) 85 0 0) := fun v => (Xr v).s (by decide +kernel)
  have er : ∀ v, setH (cTell h v) 85 0 0 87 = h 87 := fun v => by rw [setH_o (by decide), cTell_fr.row 87 rfl]
  have hbad : ¬ (0 ≤ y ∧ y ≤ 20) → WM sc (d + 99) 14 [(2, 0), (0, -1)] sh sl h (fun r sh1 sl1 h1 => WF sc (d + 99 + 1) 129 15 [(2, 0), (0, x), (0, y)] (pushR r []) sh1 sl1 h1 (fun r sh1 sl1 h1 => WM sc (d + 100) 256 [(2, 85), (0, x), (0, y)] sh1 sl1 h1 (fun r2 sh2 sl2 h2 => ∃ v, r = (0, v) ∧ r2 = (0, v) ∧ sh2.length ≤ sh.length + 9 ∧ sl2 ≤ sl + 900 ∧ INV sh2 h2))) := by
    intro hb
    rw [sp_refT X (by omega)]
    simp only [pushR0]
    rw [B_129_15 (Xr _), B_256_0 (Xr _), hy.w, sp_in hy.l ⟨by decide, by decide⟩ ⟨by decide, by decide⟩, if_neg hb]
    simp only [pushR0]
    rw [B_256_14 (Xr2 _), w32_0, if_neg (by simp), sp_telT (Xr2 _) (by omega)]
    simp only [pushR0]
    rw [B_256_22 (mTell_fr.fix (Xr2 _) (by decide +kernel))]
    exact ⟨_, rfl, rfl, by omega, by omega, I.ref (by omega)⟩
  rw [B_129_0 X, hy.w]
  by_cases c1 : y < 0
  · rw [if_pos c1]; exact hbad (by omega)
  rw [if_neg c1]
  by_cases c2 : y ≤ 20
  case neg => rw [if_neg c2]; exact hbad (by omega)
  rw [if_pos c2, sp_cStamp X hx S.1.1 hn10]
  simp only [pushR0]
  rw [B_129_21 X]
  by_cases c3 : 0 ≤ x ∧ x < n
  · rw [if_pos c3, show w32 1 = 1 from rfl, if_pos (by decide)]
    have hk2 := W.1.2.2.2.2.1
    obtain ⟨k, hk⟩ : ∃ k : Nat, h 87 2 = k := ⟨(h 87 2).toNat, by omega⟩
    have hk1 : h 1 6 = k := by rw [S.1.2.2.1]; exact hk
    rw [hk1, w32_id (a := (k : Int)) (by omega) (by omega)]
    by_cases c4 : k < 6
    · rw [if_pos (by omega), B_130_0 X, hk1, w32_id (a := (k : Int)) (by omega) (by omega), Int.toNat_natCast]
      refine ⟨⟨by omega, by omega⟩, ⟨by omega, by omega⟩, ?_⟩
      have X1 : Fix sh (setH (setH (setH h 6 k x) 7 k y) 1 6 ((k : Int) + 1)) := ((X.a (by decide +kernel)).a (by decide +kernel)).s (by decide +kernel)
      have X2 : Fix sh (setH (setH (setH (setH h 6 k x) 7 k y) 1 6 ((k : Int) + 1)) 0 16 0) := X1.s (by decide +kernel)
      have X3 : Fix sh (setH (setH (setH (setH (setH h 6 k x) 7 k y) 1 6 ((k : Int) + 1)) 0 16 0) 85 0 0) := X2.s (by decide +kernel)
      have e87 : setH (setH (setH (setH (setH h 6 k x) 7 k y) 1 6 ((k : Int) + 1)) 0 16 0) 85 0 0 87 = h 87 := by simp (disch := omega) only [setH_o]
      simp only [pushR0]
      rw [B_129_60 X1, sp_granted X1]
      simp only [pushR0]
      rw [B_129_63 X2, B_256_0 X2, hy.w, sp_in hy.l ⟨by decide, by decide⟩ ⟨by decide, by decide⟩, if_pos (by omega)]
      simp only [pushR0]
      rw [B_256_14 X3, show w32 1 = 1 from rfl, if_pos (by decide), sp_mStamp X3 hx (by rw [e87]; exact W.1.1) hn10, if_pos c3]
      simp only [pushR0]
      rw [B_256_28 X3, show w32 1 = 1 from rfl, if_pos (by decide), e87, hk, w32_id (a := (k : Int)) (by omega) (by omega), if_pos (by omega), w32_nat (a := 82 + 2 * (k : Int)) (n := 82 + 2 * k) (by omega) (by omega), w32_nat (a := 82 + 2 * (k : Int) + 1) (n := 82 + 2 * k + 1) (by omega) (by omega)]
      simp only [Int.toNat_natCast]
      refine ⟨⟨by omega, by omega⟩, ⟨by omega, by omega⟩, ?_⟩
      generalize hh4 : (setH (setH (setH (setH (setH h 6 k x) 7 k y) 1 6 ((k : Int) + 1)) 0 16 0) 85 0 0) = h4 at *
      have F4 : Fr [6, 7] [(1, 6), (0, 16), (85, 0)] h h4 := by rw [← hh4]; exact (((((Fr.refl h).setP rfl).setP rfl).set rfl).set rfl).set rfl
      generalize hh5 : (setH (setH (setH h4 87 (82 + 2 * k) x) 87 (82 + 2 * k + 1) y) 87 2 ((setH (setH h4 87 (82 + 2 * k) x) 87 (82 + 2 * k + 1) y 87 2) + 1)) = h5
      have F5 : Fr [87] [] h4 h5 := by rw [← hh5]; exact (((Fr.refl _).setP rfl).setP rfl).setP rfl
      have X5 : Fix sh h5 := F5.fix X3 (by decide +kernel)
      rw [sp_telT X5 (by omega), mTellG (by omega)]
      have X6 : Fix sh (setH h5 85 1 0) := X5.s (by decide +kernel)
      simp only [pushR0]
      rw [B_256_101 X6]
      refine ⟨_, rfl, rfl, by omega, by omega, ?_⟩
      have F : Fr [6, 7, 87] [(1, 6), (0, 16), (85, 0), (85, 1)] h (setH h5 85 1 0) := ((F4.mono rfl).trans (F5.mono rfl)).set rfl
      have e5 : ∀ q, q ≠ 87 → q ≠ 85 → setH h5 85 1 0 q = h4 q := fun q a b => by rw [setH_o b]; exact funext fun j => F5 q j (by simp [a]) (by simp)
      refine I.fin F (by decide +kernel) (by decide +kernel) ?_ ⟨n, m, L, Live.hear (k := k) (x := x) (y := y) ⟨S, R, W, B⟩ hk c4 c3 (by omega) F ?_ ?_ ?_ ?_, Hs.cg ?_⟩
      · rw [setH_self, e5 0 (by decide) (by decide), ← hh4]; simp (disch := omega) only [setH_o, setH_self]
      · rw [setH_o (by decide), ← hh5]
        simp (disch := omega) only [setH_r, up_n]
        rw [e87, hk]
      · rw [e5 1 (by decide) (by decide), ← hh4]; simp (disch := omega) only [setH_o, setH_self]
      · rw [e5 6 (by decide) (by decide), ← hh4]; simp (disch := omega) only [setH_o, setH_r]
      · rw [e5 7 (by decide) (by decide), ← hh4]; simp (disch := omega) only [setH_o, setH_r]
      · have E := F.cg (R := [45, 46, 90, 91]) (C := [(85, 8), (44, 3), (44, 2)]) (by decide +kernel)
        have z : ∀ i, i = 6 ∨ i = 7 → setH h5 85 1 0 87 i = h 87 i := fun i hi => by
          rw [setH_o (by decide), ← hh5]
          simp (disch := omega) only [setH_r, up_n]
          rw [e87]
        refine ⟨E.1, fun q hq => ?_, E.2.2⟩
        simp only [List.mem_cons, List.not_mem_nil, or_false] at hq
        rcases hq with rfl | rfl | rfl | rfl | rfl
        · exact E.c 85 8 rfl
        · exact E.c 44 3 rfl
        · exact E.c 44 2 rfl
        · exact z 6 (by omega)
        · exact z 7 (by omega)
    · rw [if_neg (by omega), sp_refT X (by omega)]
      simp only [pushR0]
      rw [B_129_49 (Xr _), B_256_0 (Xr _), hy.w, sp_in hy.l ⟨by decide, by decide⟩ ⟨by decide, by decide⟩, if_pos (by omega)]
      simp only [pushR0]
      rw [B_256_14 (Xr2 _), show w32 1 = 1 from rfl, if_pos (by decide), sp_mStamp (Xr2 _) hx (by rw [er]; exact W.1.1) hn10, if_pos c3]
      simp only [pushR0]
      rw [B_256_28 (Xr2 _), show w32 1 = 1 from rfl, if_pos (by decide), er, hk, w32_id (a := (k : Int)) (by omega) (by omega), if_neg (by omega), sp_telT (Xr2 _) (by omega)]
      simp only [pushR0]
      rw [B_256_57 (mTell_fr.fix (Xr2 _) (by decide +kernel))]
      exact ⟨_, rfl, rfl, by omega, by omega, I.ref (by omega)⟩
  · rw [if_neg c3, w32_0, if_neg (by simp), sp_refT X (by omega)]
    simp only [pushR0]
    rw [B_129_30 (Xr _), B_256_0 (Xr _), hy.w, sp_in hy.l ⟨by decide, by decide⟩ ⟨by decide, by decide⟩, if_pos (by omega)]
    simp only [pushR0]
    rw [B_256_14 (Xr2 _), show w32 1 = 1 from rfl, if_pos (by decide), sp_mStamp (Xr2 _) hx (by rw [er]; exact W.1.1) hn10, if_neg c3]
    simp only [pushR0]
    rw [B_256_28 (Xr2 _), w32_0, if_neg (by simp), sp_telT (Xr2 _) (by omega)]
    simp only [pushR0]
    rw [B_256_37 (mTell_fr.fix (Xr2 _) (by decide +kernel))]
    exact ⟨_, rfl, rfl, by omega, by omega, I.ref (by omega)⟩
