/-! ===== feed, row ===== -/
def putC (f : Nat → Int) (t : Nat) (x : Int) : Nat → Int := up (up (up (up f t (b8 (b8 (ishr x 24)))) (t + 1) (b8 (b8 (ishr x 16)))) (t + 2) (b8 (b8 (ishr x 8)))) (t + 3) (b8 (b8 (ishr x 0)))
def putM (f : Nat → Int) (t : Nat) (x : Int) : Nat → Int := up (up (up (up f t (iand (ishr x 24) 255)) (t + 1) (iand (ishr x 16) 255)) (t + 2) (iand (ishr x 8) 255)) (t + 3) (iand (ishr x 0) 255)
def TapR (f g : Nat → Int) (t : Nat) : Prop := ∀ i, i < t → 0 ≤ g i ∧ g i < 256 ∧ f i = b8 (g i)
theorem put_R {f g : Nat → Int} {t : Nat} (x : Int) (H : TapR f g t) : TapR (putC f t x) (putM g t x) (t + 4) := by
  have hb : ∀ y, 0 ≤ iand y 255 ∧ iand y 255 < 256 ∧ b8 (b8 y) = b8 (iand y 255) := fun y => by
    rw [iand255, b8_mod]; exact ⟨by omega, by omega, rfl⟩
  intro i hi
  unfold putC putM
  by_cases h3 : i = t + 3
  · subst h3; simp only [up_s]; exact hb _
  · rw [up_n h3, up_n h3]
    by_cases h2 : i = t + 2
    · subst h2; simp only [up_s]; exact hb _
    · rw [up_n h2, up_n h2]
      by_cases h1 : i = t + 1
      · subst h1; simp only [up_s]; exact hb _
      · rw [up_n h1, up_n h1]
        by_cases h0 : i = t
        · subst h0; simp only [up_s]; exact hb _
        · rw [up_n h0, up_n h0]; exact H i (by omega)
section TAPE
variable {sc : Nat × (Nat → Int)} {d : Nat} {sh : Shp} {sl : Nat} {h : Sto} {Q : Pst}
theorem st_put {t s : Nat} {x y : Int} (X : Fix sh h) (ht : h 0 14 = (t : Int)) (ht4 : t < 400) (hy : y = (s : Int)) (hs : s ≤ 24) : WF sc (d + 1) 49 3 [(2, 0), (0, x), (0, y)] [] sh sl h Q ↔ WF sc (d + 1) 49 3 [(2, 0), (0, x), (0, y + (-8))] [] sh sl (setH (setH h 33 t (b8 (b8 (ishr x y)))) 0 14 ((t : Int) + 1)) Q := by
  rw [B_49_3 X, ht, w32_id (a := y) (by omega) (by omega), if_neg (by omega), w32_id (a := (t : Int)) (by omega) (by omega), if_neg (by omega), Int.toNat_natCast]
  exact and_iff_right (by omega)
theorem sp_put {t : Nat} {x : Int} (X : Fix sh h) (ht : h 0 14 = (t : Int)) (ht4 : t + 4 ≤ 400) (hq : ∀ h', Fr [33] [(0, 14)] h h' → h' 0 14 = ((t + 4 : Nat) : Int) → h' 33 = putC (h 33) t x → Q (9, 0) sh sl h') : WM sc (d + 1) 49 [(2, 0), (0, x)] sh sl h Q := by
  have Y : ∀ {h1 : Sto} {k : Nat} {v w : Int}, Fix sh h1 → Fix sh (setH (setH h1 33 k v) 0 14 w) := fun X => (X.a (by decide +kernel)).s (by decide +kernel)
  have X1 := Y (k := t) (v := b8 (b8 (ishr x 24))) (w := (t : Int) + 1) X
  have X2 := Y (k := t + 1) (v := b8 (b8 (ishr x 16))) (w := ((t + 1 : Nat) : Int) + 1) X1
  have X3 := Y (k := t + 2) (v := b8 (b8 (ishr x 8))) (w := ((t + 2 : Nat) : Int) + 1) X2
  have X4 := Y (k := t + 3) (v := b8 (b8 (ishr x 0))) (w := ((t + 3 : Nat) : Int) + 1) X3
  rw [B_49_0 X, st_put (s := 24) (y := 24) X ht (by omega) rfl (by omega), show (24 : Int) + -8 = 16 from rfl, st_put (s := 16) (y := 16) (t := t + 1) X1 (by rw [setH_self]; omega) (by omega) rfl (by omega), show (16 : Int) + -8 = 8 from rfl, st_put (s := 8) (y := 8) (t := t + 2) X2 (by rw [setH_self]; omega) (by omega) rfl (by omega), show (8 : Int) + -8 = 0 from rfl, st_put (s := 0) (y := 0) (t := t + 3) X3 (by rw [setH_self]; omega) (by omega) rfl (by omega), show (0 : Int) + -8 = -8 from rfl, B_49_3 X4, show w32 (-8) = -8 from rfl, if_pos (by decide)]
  refine hq _ ?_ ?_ ?_
  · exact ((((((((Fr.refl h).setP rfl).set rfl).setP rfl).set rfl).setP rfl).set rfl).setP rfl).set rfl
  · rw [setH_self]; omega
  · simp (disch := omega) only [setH_o, setH_r]; rfl
theorem st_four {t s : Nat} {x y : Int} (X : Fix sh h) (ht : h 85 13 = (t : Int)) (ht4 : t < 400) (hy : y = (s : Int)) (hs : s ≤ 24) : WF sc (d + 1) 191 3 [(2, 85), (0, x), (0, y)] [] sh sl h Q ↔ WF sc (d + 1) 191 3 [(2, 85), (0, x), (0, y + (-8))] [] sh sl (setH (setH h 94 t (iand (ishr x y) 255)) 85 13 ((t : Int) + 1)) Q := by
  rw [B_191_3 X, ht, w32_id (a := y) (by omega) (by omega), if_neg (by omega), w32_id (a := (t : Int)) (by omega) (by omega), Int.toNat_natCast]
  exact and_iff_right (by omega)
theorem sp_four {t : Nat} {x : Int} (X : Fix sh h) (ht : h 85 13 = (t : Int)) (ht4 : t + 4 ≤ 400) (hq : ∀ h', Fr [94] [(85, 13)] h h' → h' 85 13 = ((t + 4 : Nat) : Int) → h' 94 = putM (h 94) t x → Q (9, 0) sh sl h') : WM sc (d + 1) 191 [(2, 85), (0, x)] sh sl h Q := by
  have Y : ∀ {h1 : Sto} {k : Nat} {v w : Int}, Fix sh h1 → Fix sh (setH (setH h1 94 k v) 85 13 w) := fun X => (X.a (by decide +kernel)).s (by decide +kernel)
  have X1 := Y (k := t) (v := iand (ishr x 24) 255) (w := (t : Int) + 1) X
  have X2 := Y (k := t + 1) (v := iand (ishr x 16) 255) (w := ((t + 1 : Nat) : Int) + 1) X1
  have X3 := Y (k := t + 2) (v := iand (ishr x 8) 255) (w := ((t + 2 : Nat) : Int) + 1) X2
  have X4 := Y (k := t + 3) (v := iand (ishr x 0) 255) (w := ((t + 3 : Nat) : Int) + 1) X3
  rw [B_191_0 X, st_four (s := 24) (y := 24) X ht (by omega) rfl (by omega), show (24 : Int) + -8 = 16 from rfl, st_four (s := 16) (y := 16) (t := t + 1) X1 (by rw [setH_self]; omega) (by omega) rfl (by omega), show (16 : Int) + -8 = 8 from rfl, st_four (s := 8) (y := 8) (t := t + 2) X2 (by rw [setH_self]; omega) (by omega) rfl (by omega), show (8 : Int) + -8 = 0 from rfl, st_four (s := 0) (y := 0) (t := t + 3) X3 (by rw [setH_self]; omega) (by omega) rfl (by omega), show (0 : Int) + -8 = -8 from rfl, B_191_3 X4, show w32 (-8) = -8 from rfl, if_pos (by decide)]
  refine hq _ ?_ ?_ ?_
  · exact ((((((((Fr.refl h).setP rfl).set rfl).setP rfl).set rfl).setP rfl).set rfl).setP rfl).set rfl
  · rw [setH_self]; omega
  · simp (disch := omega) only [setH_o, setH_r]; rfl
end TAPE
theorem op_feed {a b c e f : Int} : OpOK 48 190 0 [(0, a), (0, b), (0, c), (0, e), (0, f)] := by
  intro sc d sh sl h I
  have X := I.fx
  obtain ⟨t, t1, t2, t3, t4⟩ := I.tape
  rw [B_48_0 X, t1, w32_id (a := (t : Int)) (by omega) (by omega)]
  by_cases ht : t ≤ 380
  · rw [if_pos (by omega)]
    refine sp_put (t := t) X t1 (by omega) (fun h1 F1 a1 b1 => ?_)
    have X1 := F1.fix X (by decide +kernel)
    simp only [pushR9]
    rw [B_48_17 X1]
    refine sp_put (t := t + 4) X1 a1 (by omega) (fun h2 F2 a2 b2 => ?_)
    have X2 := F2.fix X1 (by decide +kernel)
    simp only [pushR9]
    rw [B_48_22 X2]
    refine sp_put (t := t + 4 + 4) X2 a2 (by omega) (fun h3 F3 a3 b3 => ?_)
    have X3 := F3.fix X2 (by decide +kernel)
    simp only [pushR9]
    rw [B_48_27 X3]
    refine sp_put (t := t + 4 + 4 + 4) X3 a3 (by omega) (fun h4 F4 a4 b4 => ?_)
    have X4 := F4.fix X3 (by decide +kernel)
    simp only [pushR9]
    rw [B_48_33 X4]
    refine sp_put (t := t + 4 + 4 + 4 + 4) X4 a4 (by omega) (fun h5 F5 a5 b5 => ?_)
    have X5 := F5.fix X4 (by decide +kernel)
    simp only [pushR9]
    have Fc : Fr [33] [(0, 14)] h h5 := (((F1.trans F2).trans F3).trans F4).trans F5
    rw [B_48_39 X5, B_190_0 X5, Fc.at 85 13 rfl, t2, w32_id (a := (t : Int) + 20) (by omega) (by omega), if_pos (by omega)]
    have X6 : Fix sh (setH h5 85 0 0) := X5.s (by decide +kernel)
    refine sp_four (t := t) X6 (by rw [setH_k (by decide), Fc.at 85 13 rfl]; exact t2) (by omega) (fun m1 M1 p1 q1 => ?_)
    have Y1 := M1.fix X6 (by decide +kernel)
    simp only [pushR9]
    rw [B_190_25 Y1]
    refine sp_four (t := t + 4) Y1 p1 (by omega) (fun m2 M2 p2 q2 => ?_)
    have Y2 := M2.fix Y1 (by decide +kernel)
    simp only [pushR9]
    rw [B_190_30 Y2]
    refine sp_four (t := t + 4 + 4) Y2 p2 (by omega) (fun m3 M3 p3 q3 => ?_)
    have Y3 := M3.fix Y2 (by decide +kernel)
    simp only [pushR9]
    rw [B_190_35 Y3]
    refine sp_four (t := t + 4 + 4 + 4) Y3 p3 (by omega) (fun m4 M4 p4 q4 => ?_)
    have Y4 := M4.fix Y3 (by decide +kernel)
    simp only [pushR9]
    rw [B_190_41 Y4]
    refine sp_four (t := t + 4 + 4 + 4 + 4) Y4 p4 (by omega) (fun m5 M5 p5 q5 => ?_)
    have Y5 := M5.fix Y4 (by decide +kernel)
    simp only [pushR9]
    rw [B_190_47 Y5, a5, p5]
    refine ⟨_, rfl, rfl, by omega, by omega, ?_⟩
    have Fm : Fr [94] [(85, 13)] (setH h5 85 0 0) m5 := (((M1.trans M2).trans M3).trans M4).trans M5
    have F : Fr [33, 94] [(0, 14), (85, 13), (85, 0)] h m5 := ((Fc.mono rfl).set (p := 85) (k := 0) (v := 0) rfl).trans (Fm.mono rfl)
    obtain ⟨n, m, L, Lv, Hs⟩ := I.live
    refine I.upd F (by decide +kernel) (by decide +kernel) ⟨n, m, L, Lv.cg (F.cg (by decide +kernel)), Hs.cg (F.cg (by decide +kernel))⟩ ?_ (I.scal.cg (F.cg (by decide +kernel))) (by rw [F.at 85 20 rfl]; exact I.od)
    refine ⟨t + 4 + 4 + 4 + 4 + 4, ?_, p5, by omega, ?_⟩
    · rw [Fm.at 0 14 rfl, setH_o (by decide)]; exact a5
    · have e33 : m5 33 = h5 33 := by rw [Fm.row 33 rfl, setH_o (by decide)]
      have e94 : setH h5 85 0 0 94 = h 94 := by rw [setH_o (by decide), Fc.row 94 rfl]
      rw [e33, b5, b4, b3, b2, b1, q5, q4, q3, q2, q1, e94]
      exact put_R _ (put_R _ (put_R _ (put_R _ (put_R _ t4))))
  · rw [if_neg (by omega), B_190_0 X, t2, w32_id (a := (t : Int) + 20) (by omega) (by omega), if_neg (by omega)]
    exact ⟨_, rfl, rfl, by omega, by omega, I.thrown⟩
