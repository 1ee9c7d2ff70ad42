/-! letters -/
def leG (G : Nat → Int) (m : Nat) (fee : Int) : Nat → Int := up (up (up (up G (79 + m) fee) (28 + m) 0) (31 + m) 0) 1 ((m : Int) + 1)
theorem leG_o {G : Nat → Int} {m : Nat} {fee : Int} {i : Nat} (h : i ≠ 1 ∧ i ≠ 31 + m ∧ i ≠ 28 + m ∧ i ≠ 79 + m) : leG G m fee i = G i := by
  unfold leG; simp (disch := omega) only [up_n]
theorem leG_1 {G : Nat → Int} {m : Nat} {fee : Int} : leG G m fee 1 = (m : Int) + 1 := by unfold leG; rw [up_s]
theorem leG_31 {G : Nat → Int} {m : Nat} {fee : Int} : leG G m fee (31 + m) = 0 := by unfold leG; simp (disch := omega) only [up_s, up_n]
theorem leG_28 {G : Nat → Int} {m : Nat} {fee : Int} (hm : m < 3) : leG G m fee (28 + m) = 0 := by unfold leG; simp (disch := omega) only [up_s, up_n]
theorem leG_79 {G : Nat → Int} {m : Nat} {fee : Int} (hm : m < 3) : leG G m fee (79 + m) = fee := by unfold leG; simp (disch := omega) only [up_s, up_n]
theorem leG_W {G : Nat → Int} {n m : Nat} {L : List Law} {fee : Int} (W : SW G n m L) (hm : m < 3) (hf : 0 ≤ fee ∧ fee ≤ 60) : SW (leG G m fee) n (m + 1) L := by
  have hW := W
  obtain ⟨w1, w2, w3, w4, w5⟩ := W
  refine ⟨?_, fun s hs => ?_, fun l hl => ?_, fun i hi => ?_, SW.laws hW (fun i hi => leG_o (by omega))⟩
  · rw [leG_1, leG_o (i := 0) (by omega), leG_o (i := 2) (by omega), leG_o (i := 3) (by omega), leG_o (i := 4) (by omega), leG_o (i := 6) (by omega), leG_o (i := 7) (by omega)]; omega
  · rw [leG_o (by omega), leG_o (by omega), leG_o (by omega)]; exact w2 s hs
  · by_cases e : l = m
    · subst e; rw [leG_79 hm]; exact hf
    · rw [leG_o (by omega)]; exact w3 l (by omega)
  · rw [leG_o (by omega)] at hi
    rw [leG_o (by omega), leG_o (by omega)]; exact w4 i hi
theorem leG_B {G : Nat → Int} {n m : Nat} {fee : Int} (B : BW G n m) (hn : n ≤ 10) (hm : m < 3) : BW (leG G m fee) n (m + 1) := by
  obtain ⟨b1, b2, b3, b4, b5⟩ := B
  refine ⟨by rw [leG_o (by omega)]; exact b1, fun s hs => ?_, fun l hl => ?_, fun l i hl hi => ?_, fun l i k hl hik hk => ?_⟩
  · rw [leG_o (by omega), leG_o (by omega)]; have := b2 s hs; omega
  · by_cases e : l = m
    · subst e; rw [leG_28 hm, leG_31]; omega
    · rw [leG_o (by omega), leG_o (by omega)]; exact b3 l (by omega)
  · by_cases e : l = m
    · subst e; rw [leG_31] at hi; omega
    · have := b3 l (by omega)
      rw [leG_o (i := 31 + l) (by omega)] at hi
      obtain ⟨s, h1, h2, h3⟩ := b4 l i (by omega) hi
      exact ⟨s, by rw [leG_o (by omega)]; exact h1, by omega, by rw [leG_o (by omega)]; exact h3⟩
  · by_cases e : l = m
    · subst e; rw [leG_31] at hk; omega
    · have := b3 l (by omega)
      rw [leG_o (i := 31 + l) (by omega)] at hk
      rw [leG_o (by omega), leG_o (by omega)]; exact b5 l i k (by omega) hik hk
theorem leG_C {sh : Shp} {h h2 : Sto} {G : Nat → Int} {n m : Nat} {L : List Law} {fee : Int} (S : SR sh h 1 G n m L) (R : BR (h 10) G n m) (B : BW G n m) (hn : n ≤ 10) (hm : m < 3) (F : Fr [5, 10] [(1, 4)] h h2) (e0 : h2 1 4 = (m : Int) + 1) (e5 : h2 5 = up (h 5) m fee) (e10 : h2 10 = up (up (h 10) (21 + m) 0) (39 + m) 0) : SR sh h2 1 (leG G m fee) n (m + 1) L ∧ BR (h2 10) (leG G m fee) n (m + 1) := by
  have hS := S
  obtain ⟨⟨s0, s4, s6, s9, s10, s11, s13⟩, s2, s3, s4', s5⟩ := S
  obtain ⟨r1, r2, r3, r4⟩ := R
  refine ⟨⟨?_, fun s hs => ?_, fun l hl => ?_, fun i hi => ?_, hS.laws (F.row (1 + 7) rfl) (F.cg (R := []) (C := []) (by decide +kernel)).2.2⟩, ?_, fun s hs => ?_, fun l hl => ?_, fun l i hl hi => ?_⟩
  · rw [e0, F.at 1 0 rfl, F.at 1 6 rfl, F.at 1 9 rfl, F.at 1 10 rfl, F.at 1 11 rfl, F.at 1 13 rfl, leG_o (i := 2) (by omega), leG_o (i := 4) (by omega), leG_o (i := 6) (by omega), leG_o (i := 7) (by omega)]
    exact ⟨s0, by omega, s6, s9, s10, s11, s13⟩
  · rw [F.row (1 + 1) rfl, F.row (1 + 2) rfl, F.row (1 + 3) rfl, leG_o (by omega), leG_o (by omega), leG_o (by omega)]; exact s2 s hs
  · show h2 5 l = _
    rw [e5]
    by_cases e : l = m
    · subst e; rw [leG_79 hm, up_s]
    · rw [leG_o (by omega), up_n e]; exact s3 l (by omega)
  · rw [leG_o (by omega)] at hi
    rw [F.row (1 + 5) rfl, F.row (1 + 6) rfl, leG_o (by omega), leG_o (by omega)]; exact s4' i hi
  · rw [e10, up_n (by omega), up_n (by omega), leG_o (by omega)]; exact r1
  · rw [e10, leG_o (by omega), leG_o (by omega), up_n (by omega), up_n (by omega), up_n (by omega), up_n (by omega)]; exact r2 s hs
  · rw [e10]
    by_cases e : l = m
    · subst e; rw [leG_31, leG_28 hm, up_n (by omega), up_s, up_s]; exact ⟨rfl, rfl⟩
    · rw [leG_o (by omega), leG_o (by omega), up_n (by omega), up_n (by omega), up_n (by omega), up_n (by omega)]; exact r3 l (by omega)
  · by_cases e : l = m
    · subst e; rw [leG_31] at hi; omega
    · have := B.2.2.1 l (by omega)
      rw [leG_o (i := 31 + l) (by omega)] at hi
      rw [e10, leG_o (by omega), up_n (by omega), up_n (by omega)]; exact r4 l i (by omega) hi
section LETTER
variable {sc : Nat × (Nat → Int)} {d : Nat} {sh : Shp} {sl : Nat} {h : Sto} {Q : Pst}
theorem sp_addLetter {m : Nat} {fee : Int} (X : Fix sh h) (hn : h 1 4 = m) (hm : m < 3) (hq : ∀ h', Fr [5, 10] [(1, 4)] h h' → h' 1 4 = (m : Int) + 1 → h' 5 = up (h 5) m fee → h' 10 = up (up (h 10) (21 + m) 0) (39 + m) 0 → Q (0, (m : Int)) sh sl h') : WM sc (d + 2) 33 [(2, 1), (0, fee)] sh sl h Q := by
  rw [B_33_0 X, hn, w32_id (a := (m : Int)) (by omega) (by omega), Int.toNat_natCast]
  have X1 : Fix sh (setH h 5 m fee) := X.a (by decide +kernel)
  have X2 : Fix sh (setH (setH h 5 m fee) 10 (21 + m) 0) := X1.a (by decide +kernel)
  have X3 : Fix sh (setH (setH (setH h 5 m fee) 10 (21 + m) 0) 10 (39 + m) 0) := X2.a (by decide +kernel)
  refine ⟨⟨by omega, by omega⟩, ?_⟩
  have g1 := bn_setSize (sc := sc) (d := d + 1) (sl := sl) (b := 9) (c := 10) (x := 0) (Q := fun r_1 sh1 sl1 h1 => WF sc (d + 1 + 1) 33 21 [(2, 1), (0, fee), (0, (m : Int))] (pushR r_1 []) sh1 sl1 h1 Q) X1.bd hm
  refine g1.mpr ?_
  simp only [pushR9]
  rw [B_33_21 X2]
  have g2 := bn_setLate (sc := sc) (d := d + 1) (sl := sl) (b := 9) (c := 10) (x := 0) (Q := fun r_1 sh1 sl1 h1 => WF sc (d + 1 + 1) 33 30 [(2, 1), (0, fee), (0, (m : Int))] (pushR r_1 []) sh1 sl1 h1 Q) X2.bd hm
  refine g2.mpr ?_
  simp only [pushR9]
  rw [B_33_30 X3]
  refine hq _ ((((Fr.refl h).setP rfl).setP rfl).setP rfl |>.set rfl) ?_ ?_ ?_
  · rw [setH_self]; simp (disch := omega) only [setH_o]; rw [hn]
  · simp (disch := omega) only [setH_o, setH_r]
  · simp (disch := omega) only [setH_o, setH_r]
end LETTER
theorem op_letter {x : Int} (hx : I32 x) : OpOK 32 179 0 [(0, x)] := by
  intro sc d sh sl h I
  have X := I.fx
  obtain ⟨n, m, L, ⟨S, R, W, B⟩, Hs⟩ := I.live
  have hn10 := W.1.2.1
  have hm3 := W.1.2.2.2.1
  have Xr : ∀ v, Fix sh (cTell h v) := fun v => cTell_fr.fix X (by decide +kernel)
  have Xr2 : ∀ v, Fix sh (setH (cTell h v) 85 0 0) := fun v => (Xr v).s (by decide +kernel)
  have hbad : ¬ (0 ≤ x ∧ x ≤ 60) → WM sc (d + 99) 14 [(2, 0), (0, -1)] sh sl h (fun r sh1 sl1 h1 => WF sc (d + 99 + 1) 32 15 [(2, 0), (0, x)] (pushR r []) sh1 sl1 h1 (fun r sh1 sl1 h1 => WM sc (d + 100) 179 [(2, 85), (0, x)] sh1 sl1 h1 (fun r2 sh2 sl2 h2 => ∃ v, r = (0, v) ∧ r2 = (0, v) ∧ sh2.length ≤ sh.length + 9 ∧ sl2 ≤ sl + 900 ∧ INV sh2 h2))) := by
    intro hb
    rw [sp_refT X (by omega)]
    simp only [pushR0]
    rw [B_32_15 (Xr _), B_179_0 (Xr _), hx.w, sp_in hx.l ⟨by decide, by decide⟩ ⟨by decide, by decide⟩, if_neg hb]
    simp only [pushR0]
    rw [B_179_14 (Xr2 _), w32_0, if_neg (by simp), sp_telT (Xr2 _) (by omega)]
    simp only [pushR0]
    rw [B_179_22 (mTell_fr.fix (Xr2 _) (by decide +kernel))]
    exact ⟨_, rfl, rfl, by omega, by omega, I.ref (by omega)⟩
  rw [B_32_0 X, hx.w]
  by_cases h0 : x < 0
  · rw [if_pos h0]; exact hbad (by omega)
  · rw [if_neg h0]
    by_cases h1 : x ≤ 60
    · rw [if_pos h1, S.1.2.1, w32_id (a := (m : Int)) (by omega) (by omega)]
      by_cases hm : m < 3
      · rw [if_pos (by omega)]
        have X1 : Fix sh (setH h 44 3 0) := X.s (by decide +kernel)
        refine sp_addLetter (m := m) X1 (by rw [setH_o (by decide)]; exact S.1.2.1) hm (fun h' F e0 e5 e10 => ?_)
        have X2 : Fix sh h' := F.fix X1 (by decide +kernel)
        simp only [pushR0]
        rw [B_32_51 X2, sp_granted X2]
        have X3 : Fix sh (setH h' 0 16 0) := X2.s (by decide +kernel)
        simp only [pushR0]
        have e87 : setH (setH h' 0 16 0) 85 0 0 87 = h 87 := by rw [setH_o (by decide), setH_o (by decide), F.row 87 rfl, setH_o (by decide)]
        have X4 : Fix sh (setH (setH h' 0 16 0) 85 0 0) := X3.s (by decide +kernel)
        rw [B_32_54 X3, B_179_0 X3, hx.w, sp_in hx.l ⟨by decide, by decide⟩ ⟨by decide, by decide⟩, if_pos (by omega)]
        simp only [pushR0]
        rw [B_179_14 X4, show w32 1 = 1 from rfl, if_pos (by decide), e87, W.1.2.2.1, w32_id (a := (m : Int)) (by omega) (by omega), if_pos (by omega), w32_nat (a := 79 + (m : Int)) (n := 79 + m) (by omega) (by omega), w32_nat (a := 28 + (m : Int)) (n := 28 + m) (by omega) (by omega), w32_nat (a := 31 + (m : Int)) (n := 31 + m) (by omega) (by omega)]
        simp only [Int.toNat_natCast]
        generalize hh5 : setH (setH (setH (setH (setH (setH h' 0 16 0) 85 0 0) 87 (79 + m) x) 87 (28 + m) 0) 87 (31 + m) 0) 87 1 ((setH (setH (setH (setH (setH h' 0 16 0) 85 0 0) 87 (79 + m) x) 87 (28 + m) 0) 87 (31 + m) 0 87 1) + 1) = h5
        have F5 : Fr [87] [] (setH (setH h' 0 16 0) 85 0 0) h5 := by rw [← hh5]; exact ((((Fr.refl _).setP rfl).setP rfl).setP rfl).setP rfl
        have e5g : h5 87 = leG (h 87) m x := by
          rw [← hh5]
          simp (disch := omega) only [setH_r, up_n]
          rw [e87, W.1.2.2.1]; rfl
        have X5 : Fix sh h5 := F5.fix X4 (by decide +kernel)
        refine ⟨⟨by omega, by omega⟩, ⟨by omega, by omega⟩, ⟨by omega, by omega⟩, ?_⟩
        rw [sp_settled X5 (by omega), if_pos (by omega), mTellG (by omega)]
        have X6 : Fix sh (setH (setH h5 85 8 0) 85 1 0) := (X5.s (by decide +kernel)).s (by decide +kernel)
        simp only [pushR0]
        rw [B_179_87 X6]
        refine ⟨_, rfl, rfl, by omega, by omega, ?_⟩
        have Fa : Fr [5, 10, 87] [(1, 4), (44, 3), (0, 16), (85, 0), (85, 8), (85, 1)] h (setH (setH h5 85 8 0) 85 1 0) := ((((((Fr.refl h).set (p := 44) (k := 3) (v := 0) rfl).trans (F.mono rfl)).set (p := 0) (k := 16) (v := 0) rfl).set (p := 85) (k := 0) (v := 0) rfl).trans (F5.mono rfl)).set (p := 85) (k := 8) (v := 0) rfl |>.set rfl
        have eh : ∀ q k, q ≠ 87 → q ≠ 85 → q ≠ 0 → setH (setH h5 85 8 0) 85 1 0 q k = h' q k := fun q k a b c => by
          rw [setH_o b, setH_o b, F5 q k (by simp [a]) (by simp), setH_o b, setH_o c]
        have er : ∀ q, q ≠ 87 → q ≠ 85 → q ≠ 0 → setH (setH h5 85 8 0) 85 1 0 q = h' q := fun q a b c => funext fun k => eh q k a b c
        have G7 : setH (setH h5 85 8 0) 85 1 0 87 = leG (h 87) m x := by rw [setH_o (by decide), setH_o (by decide)]; exact e5g
        refine I.fin Fa (by decide +kernel) (by decide +kernel) ?_ ⟨n, m + 1, L, ?_, Hs.zero ?_ ?_ (Fa.at 44 2 rfl)⟩
        · rw [setH_self, setH_o (by decide), setH_o (by decide), F5.at 0 16 rfl, setH_o (by decide), setH_self]
        · unfold Live
          rw [G7]
          have := leG_C (h2 := h') (fee := x) (S.of (h2 := setH h 44 3 0) (setH_o (by decide)) (fun j h1 h2 => setH_o (by omega)) (fun q hq => setH_o (by omega))) (by rw [setH_o (by decide)]; exact R) B hn10 hm F e0 e5 e10
          rw [er 10 (by decide) (by decide) (by decide)]
          exact ⟨this.1.of (er 1 (by decide) (by decide) (by decide)) (fun j h1 h2 => er _ (by omega) (by omega) (by omega)) (fun q hq => er q (by omega) (by omega) (by omega)), this.2, leG_W W hm (by omega), leG_B B hn10 hm⟩
        · rw [setH_k (by decide), setH_self]
        · rw [eh 44 3 (by decide) (by decide) (by decide), F.at 44 3 rfl, setH_self]
      · rw [if_neg (by omega), sp_refT X (by omega)]
        simp only [pushR0]
        rw [B_32_33 (Xr _), B_179_0 (Xr _), hx.w, sp_in hx.l ⟨by decide, by decide⟩ ⟨by decide, by decide⟩, if_pos (by omega)]
        simp only [pushR0]
        rw [B_179_14 (Xr2 _), show w32 1 = 1 from rfl, if_pos (by decide), setH_o (by decide), cTell_fr.row 87 rfl, W.1.2.2.1, w32_id (a := (m : Int)) (by omega) (by omega), if_neg (by omega), sp_telT (Xr2 _) (by omega)]
        simp only [pushR0]
        rw [B_179_41 (mTell_fr.fix (Xr2 _) (by decide +kernel))]
        exact ⟨_, rfl, rfl, by omega, by omega, I.ref (by omega)⟩
    · rw [if_neg h1]; exact hbad (by omega)
