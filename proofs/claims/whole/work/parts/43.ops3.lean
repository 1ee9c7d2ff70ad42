theorem Hist.zero {h h2 : Sto} {n m n2 m2 : Nat} (H : Hist h n m) (e1 : h2 85 8 = 0) (e2 : h2 44 3 = 0) (e3 : h2 44 2 = h 44 2) : Hist h2 n2 m2 := by
  obtain ⟨-, a, k, h1, h3, -⟩ := H
  exact ⟨by rw [e1, e2], a, 0, by rw [e3]; exact h1, h3, by rw [e2]; rfl, by omega, fun j hj => absurd hj (by omega)⟩
theorem SR.laws {sh : Shp} {h h2 : Sto} {b n m : Nat} {G : Nat → Int} {L : List Law} (S : SR sh h b G n m L) (e : h2 (b + 7) = h (b + 7)) (hh : ∀ q, 120 ≤ q → h2 q = h q) : ∀ k Lw, L[k]? = some Lw → ∃ p : Nat, h2 (b + 7) k = p ∧ LawC sh h2 p Lw := fun k Lw hk => let ⟨p, h1, h2⟩ := S.2.2.2.2 k Lw hk; ⟨p, by rw [e]; exact h1, h2.of hh⟩
/-! stamps -/
def stOK (w r t g : Int) : Prop := 1 ≤ w ∧ w ≤ 20 ∧ 0 ≤ r ∧ r ≤ 5 ∧ 0 ≤ t ∧ t ≤ 9 ∧ 0 ≤ g ∧ g ≤ 9
def stG (G : Nat → Int) (n : Nat) (w r t g : Int) : Nat → Int := up (up (up (up (up (up G (49 + n) w) (59 + n) r) (69 + n) t) (18 + n) g) (8 + n) (-1)) 0 ((n : Int) + 1)
theorem stG_o {G : Nat → Int} {n : Nat} {w r t g : Int} {i : Nat} (h : i ≠ 0 ∧ i ≠ 8 + n ∧ i ≠ 18 + n ∧ i ≠ 69 + n ∧ i ≠ 59 + n ∧ i ≠ 49 + n) : stG G n w r t g i = G i := by
  unfold stG; simp (disch := omega) only [up_n]
theorem stG_0 {G : Nat → Int} {n : Nat} {w r t g : Int} : stG G n w r t g 0 = (n : Int) + 1 := by unfold stG; rw [up_s]
theorem stG_8 {G : Nat → Int} {n : Nat} {w r t g : Int} : stG G n w r t g (8 + n) = -1 := by unfold stG; simp (disch := omega) only [up_s, up_n]
theorem stG_18 {G : Nat → Int} {n : Nat} {w r t g : Int} (hn : n < 10) : stG G n w r t g (18 + n) = g := by unfold stG; simp (disch := omega) only [up_s, up_n]
theorem stG_49 {G : Nat → Int} {n : Nat} {w r t g : Int} (hn : n < 10) : stG G n w r t g (49 + n) = w := by unfold stG; simp (disch := omega) only [up_s, up_n]
theorem stG_59 {G : Nat → Int} {n : Nat} {w r t g : Int} (hn : n < 10) : stG G n w r t g (59 + n) = r := by unfold stG; simp (disch := omega) only [up_s, up_n]
theorem stG_69 {G : Nat → Int} {n : Nat} {w r t g : Int} (hn : n < 10) : stG G n w r t g (69 + n) = t := by unfold stG; simp (disch := omega) only [up_s, up_n]
theorem stG_W {G : Nat → Int} {n m : Nat} {L : List Law} {w r t g : Int} (W : SW G n m L) (hn : n < 10) (hk : stOK w r t g) : SW (stG G n w r t g) (n + 1) m L := by
  obtain ⟨k1, k2, k3, k4, k5, k6, k7, k8⟩ := hk
  have hW := W
  obtain ⟨w1, w2, w3, w4, w5⟩ := W
  refine ⟨?_, fun s hs => ?_, fun l hl => ?_, fun i hi => ?_, SW.laws hW (fun i hi => stG_o (by omega))⟩
  · rw [stG_0, stG_o (i := 1) (by omega), stG_o (i := 2) (by omega), stG_o (i := 3) (by omega), stG_o (i := 4) (by omega), stG_o (i := 6) (by omega), stG_o (i := 7) (by omega)]; omega
  · by_cases e : s = n
    · subst e; rw [stG_49 hn, stG_59 hn, stG_69 hn]; omega
    · rw [stG_o (by omega), stG_o (by omega), stG_o (by omega)]; exact w2 s (by omega)
  · rw [stG_o (by omega)]; exact w3 l hl
  · rw [stG_o (by omega)] at hi
    rw [stG_o (by omega), stG_o (by omega)]
    have := w4 i hi; omega
theorem stG_B {G : Nat → Int} {n m : Nat} {w r t g : Int} (B : BW G n m) (hn : n < 10) (hm : m ≤ 3) (hk : stOK w r t g) : BW (stG G n w r t g) (n + 1) m := by
  obtain ⟨k1, k2, k3, k4, k5, k6, k7, k8⟩ := hk
  obtain ⟨b1, b2, b3, b4, b5⟩ := B
  refine ⟨by rw [stG_o (by omega)]; exact b1, fun s hs => ?_, fun l hl => ?_, fun l i hl hi => ?_, fun l i k hl hik hk => ?_⟩
  · by_cases e : s = n
    · subst e; rw [stG_8, stG_18 hn]; omega
    · rw [stG_o (by omega), stG_o (by omega)]; exact b2 s (by omega)
  · rw [stG_o (by omega), stG_o (by omega)]; exact b3 l hl
  · have := b3 l hl
    rw [stG_o (i := 31 + l) (by omega)] at hi
    obtain ⟨s, h1, h2, h3⟩ := b4 l i hl hi
    exact ⟨s, by rw [stG_o (by omega)]; exact h1, by omega, by rw [stG_o (by omega)]; exact h3⟩
  · have := b3 l hl
    rw [stG_o (i := 31 + l) (by omega)] at hk
    rw [stG_o (by omega), stG_o (by omega)]; exact b5 l i k hl hik hk
theorem stG_C {sh : Shp} {h h2 : Sto} {G : Nat → Int} {n m : Nat} {L : List Law} {w r t g : Int} (S : SR sh h 1 G n m L) (R : BR (h 10) G n m) (B : BW G n m) (hn : n < 10) (hm : m ≤ 3) (F : Fr [2, 3, 4, 10] [(1, 0)] h h2) (e0 : h2 1 0 = (n : Int) + 1) (e2 : h2 2 = up (h 2) n w) (e3 : h2 3 = up (h 3) n r) (e4 : h2 4 = up (h 4) n t) (e10 : h2 10 = up (up (h 10) (1 + n) g) (11 + n) (-1)) : SR sh h2 1 (stG G n w r t g) (n + 1) m L ∧ BR (h2 10) (stG G n w r t g) (n + 1) m := by
  have hS := S
  obtain ⟨⟨s0, s4, s6, s9, s10, s11, s13⟩, s2, s3, s4', s5⟩ := S
  obtain ⟨r1, r2, r3, r4⟩ := R
  refine ⟨⟨?_, fun s hs => ?_, fun l hl => ?_, fun i hi => ?_, hS.laws (F.row (1 + 7) rfl) (F.cg (R := []) (C := []) (by decide +kernel)).2.2⟩, ?_, fun s hs => ?_, fun l hl => ?_, fun l i hl hi => ?_⟩
  · rw [e0, F.at 1 4 rfl, F.at 1 6 rfl, F.at 1 9 rfl, F.at 1 10 rfl, F.at 1 11 rfl, F.at 1 13 rfl, stG_o (i := 2) (by omega), stG_o (i := 4) (by omega), stG_o (i := 6) (by omega), stG_o (i := 7) (by omega)]
    exact ⟨by omega, s4, s6, s9, s10, s11, s13⟩
  · show h2 2 s = _ ∧ h2 3 s = _ ∧ h2 4 s = _
    rw [e2, e3, e4]
    by_cases e : s = n
    · subst e; rw [stG_49 hn, stG_59 hn, stG_69 hn, up_s, up_s, up_s]; exact ⟨rfl, rfl, rfl⟩
    · rw [stG_o (by omega), stG_o (by omega), stG_o (by omega), up_n e, up_n e, up_n e]; exact s2 s (by omega)
  · rw [F.row (1 + 4) rfl, stG_o (by omega)]; exact s3 l hl
  · rw [stG_o (by omega)] at hi
    rw [F.row (1 + 5) rfl, F.row (1 + 6) rfl, stG_o (by omega), stG_o (by omega)]; exact s4' i hi
  · rw [e10, up_n (by omega), up_n (by omega), stG_o (by omega)]; exact r1
  · rw [e10]
    by_cases e : s = n
    · subst e; rw [stG_8, stG_18 hn, up_s, up_n (by omega), up_s]; exact ⟨rfl, rfl⟩
    · rw [stG_o (by omega), stG_o (by omega), up_n (by omega), up_n (by omega), up_n (by omega), up_n (by omega)]; exact r2 s (by omega)
  · rw [e10, stG_o (by omega), stG_o (by omega), up_n (by omega), up_n (by omega), up_n (by omega), up_n (by omega)]; exact r3 l hl
  · have := B.2.2.1 l hl
    rw [stG_o (i := 31 + l) (by omega)] at hi
    rw [e10, stG_o (by omega), up_n (by omega), up_n (by omega)]; exact r4 l i hl hi
section STAMP
variable {sc : Nat × (Nat → Int)} {d : Nat} {sh : Shp} {sl : Nat} {h : Sto} {Q : Pst}
theorem sp_canBe {w r t g : Int} (X : Fix sh h) (h1 : I32 w) (h2 : I32 r) (h3 : I32 t) (h4 : I32 g) (q0 : ¬ stOK w r t g → Q (0, 0) sh sl h) (q1 : stOK w r t g → Q (0, 1) sh sl h) : WM sc (d + 1) 13 [(0, w), (0, r), (0, t), (0, g)] sh sl h Q := by
  unfold stOK at q0 q1
  rw [B_13_0 X, h1.w, h2.w, h3.w, h4.w]
  split
  · exact q0 (by omega)
  · split
    · exact q0 (by omega)
    · split
      · exact q0 (by omega)
      · split
        · exact q0 (by omega)
        · split
          · exact q0 (by omega)
          · split
            · exact q0 (by omega)
            · split
              · exact q0 (by omega)
              · split
                · exact q0 (by omega)
                · exact q1 (by omega)
theorem sp_come {n : Nat} {w r t g : Int} (X : Fix sh h) (h1 : I32 w) (h2 : I32 r) (h3 : I32 t) (h4 : I32 g) (hn : h 87 0 = n) (hn10 : n ≤ 10) (q1 : ¬ stOK w r t g → Q (0, -1) sh sl h) (q5 : stOK w r t g → n = 10 → Q (0, -5) sh sl h) (q0 : stOK w r t g → n < 10 → ∀ h', Fr [87] [] h h' → h' 87 = stG (h 87) n w r t g → Q (0, (n : Int)) sh sl h') : WM sc (d + 2) 166 [(2, 85), (0, w), (0, r), (0, t), (0, g)] sh sl h Q := by
  unfold stOK at q1 q5 q0
  rw [B_166_0 X, h1.w, sp_in h1.l ⟨by decide, by decide⟩ ⟨by decide, by decide⟩]
  simp only [pushR0]
  rw [B_166_9 X]
  by_cases a1 : 1 ≤ w ∧ w ≤ 20
  case neg => rw [if_neg a1, w32_0, if_pos rfl]; exact q1 (by omega)
  rw [if_pos a1, show w32 1 = 1 from rfl, if_neg (by decide), h2.w, sp_in h2.l ⟨by decide, by decide⟩ ⟨by decide, by decide⟩]
  simp only [pushR0]
  rw [B_166_21 X]
  by_cases a2 : 0 ≤ r ∧ r ≤ 5
  case neg => rw [if_neg a2, w32_0, if_pos rfl]; exact q1 (by omega)
  rw [if_pos a2, show w32 1 = 1 from rfl, if_neg (by decide), h3.w, sp_in h3.l ⟨by decide, by decide⟩ ⟨by decide, by decide⟩]
  simp only [pushR0]
  rw [B_166_33 X]
  by_cases a3 : 0 ≤ t ∧ t ≤ 9
  case neg => rw [if_neg a3, w32_0, if_pos rfl]; exact q1 (by omega)
  rw [if_pos a3, show w32 1 = 1 from rfl, if_neg (by decide), h4.w, sp_in h4.l ⟨by decide, by decide⟩ ⟨by decide, by decide⟩]
  simp only [pushR0]
  rw [B_166_46 X]
  by_cases a4 : 0 ≤ g ∧ g ≤ 9
  case neg => rw [if_neg a4, w32_0, if_neg (by simp)]; exact q1 (by omega)
  rw [if_pos a4, show w32 1 = 1 from rfl, if_pos (by decide), hn, w32_id (a := (n : Int)) (by omega) (by omega)]
  by_cases h10 : n = 10
  · rw [if_neg (by omega)]; exact q5 (by omega) h10
  · rw [if_pos (by omega), w32_nat (a := 49 + (n : Int)) (n := 49 + n) (by omega) (by omega), w32_nat (a := 59 + (n : Int)) (n := 59 + n) (by omega) (by omega), w32_nat (a := 69 + (n : Int)) (n := 69 + n) (by omega) (by omega), w32_nat (a := 18 + (n : Int)) (n := 18 + n) (by omega) (by omega), w32_nat (a := 8 + (n : Int)) (n := 8 + n) (by omega) (by omega)]
    simp only [Int.toNat_natCast]
    refine ⟨⟨by omega, by omega⟩, ⟨by omega, by omega⟩, ⟨by omega, by omega⟩, ⟨by omega, by omega⟩, ⟨by omega, by omega⟩, ?_⟩
    refine q0 (by omega) (by omega) _ ((((((Fr.refl h).setP rfl).setP rfl).setP rfl).setP rfl).setP rfl |>.setP rfl) ?_
    simp (disch := omega) only [setH_r, up_n, hn]
    rfl
theorem sp_addStamp {n : Nat} {w r t g : Int} (X : Fix sh h) (hn : h 1 0 = n) (hn10 : n < 10) (hq : ∀ h', Fr [2, 3, 4, 10] [(1, 0)] h h' → h' 1 0 = (n : Int) + 1 → h' 2 = up (h 2) n w → h' 3 = up (h 3) n r → h' 4 = up (h 4) n t → h' 10 = up (up (h 10) (1 + n) g) (11 + n) (-1) → Q (0, (n : Int)) sh sl h') : WM sc (d + 2) 15 [(2, 1), (0, w), (0, r), (0, t), (0, g)] sh sl h Q := by
  rw [B_15_0 X, hn, w32_id (a := (n : Int)) (by omega) (by omega), Int.toNat_natCast]
  have X1 : Fix sh (setH (setH (setH h 2 n w) 3 n r) 4 n t) := ((X.a (by decide +kernel)).a (by decide +kernel)).a (by decide +kernel)
  have X2 : Fix sh (setH (setH (setH (setH h 2 n w) 3 n r) 4 n t) 10 (1 + n) g) := X1.a (by decide +kernel)
  have X3 : Fix sh (setH (setH (setH (setH (setH h 2 n w) 3 n r) 4 n t) 10 (1 + n) g) 10 (11 + n) (-1)) := X2.a (by decide +kernel)
  refine ⟨⟨by omega, by omega⟩, ⟨by omega, by omega⟩, ⟨by omega, by omega⟩, ?_⟩
  have g1 := bn_setGlue (sc := sc) (d := d + 1) (sl := sl) (b := 9) (c := 10) (x := g) (Q := fun r_1 sh1 sl1 h1 => WF sc (d + 1 + 1) 15 41 [(2, 1), (0, w), (0, r), (0, t), (0, g), (0, (n : Int))] (pushR r_1 []) sh1 sl1 h1 Q) X1.bd hn10
  refine g1.mpr ?_
  simp only [pushR9]
  rw [B_15_41 X2]
  have g2 := bn_setHome (sc := sc) (d := d + 1) (sl := sl) (b := 9) (c := 10) (x := -1) (Q := fun r_1 sh1 sl1 h1 => WF sc (d + 1 + 1) 15 51 [(2, 1), (0, w), (0, r), (0, t), (0, g), (0, (n : Int))] (pushR r_1 []) sh1 sl1 h1 Q) X2.bd hn10
  refine g2.mpr ?_
  simp only [pushR9]
  rw [B_15_51 X3]
  refine hq _ ((((((Fr.refl h).setP rfl).setP rfl).setP rfl).setP rfl).setP rfl |>.set rfl) ?_ ?_ ?_ ?_ ?_
  · rw [setH_self]; simp (disch := omega) only [setH_o]; rw [hn]
  · simp (disch := omega) only [setH_o, setH_r]
  · simp (disch := omega) only [setH_o, setH_r]
  · simp (disch := omega) only [setH_o, setH_r]
  · simp (disch := omega) only [setH_o, setH_r]
end STAMP
theorem op_stamp {w r t g : Int} (h1 : I32 w) (h2 : I32 r) (h3 : I32 t) (h4 : I32 g) : OpOK 12 165 0 [(0, w), (0, r), (0, t), (0, g)] := by
  intro sc d sh sl h I
  have X := I.fx
  obtain ⟨n, m, L, ⟨S, R, W, B⟩, Hs⟩ := I.live
  have hn10 := W.1.2.1
  rw [B_12_0 X]
  refine sp_canBe X h1 h2 h3 h4 (fun hno => ?_) (fun hok => ?_)
  · simp only [pushR0]
    rw [B_12_8 X, w32_0, if_neg (by simp), sp_refT X (by omega)]
    have X1 : Fix sh (cTell h (-1)) := cTell_fr.fix X (by decide +kernel)
    have X2 : Fix sh (setH (cTell h (-1)) 85 0 0) := X1.s (by decide +kernel)
    simp only [pushR0]
    rw [B_12_16 X1, B_165_0 X1]
    refine sp_come (n := n) X2 h1 h2 h3 h4 (by rw [setH_o (by decide), cTell_fr.row 87 rfl]; exact W.1.1) hn10 (fun _ => ?_) (fun hok => absurd hok hno) (fun hok => absurd hok hno)
    simp only [pushR0]
    rw [B_165_15 X2, sp_settled X2 (by omega), if_neg (by decide)]
    simp only [pushR0]
    rw [B_165_18 (mTell_fr.fix X2 (by decide +kernel))]
    exact ⟨_, rfl, rfl, by omega, by omega, I.ref (by omega)⟩
  · simp only [pushR0]
    rw [B_12_8 X, show w32 1 = 1 from rfl, if_pos (by decide), S.1.1, w32_id (a := (n : Int)) (by omega) (by omega)]
    by_cases hn : n < 10
    · rw [if_pos (by omega)]
      have X1 : Fix sh (setH h 44 3 0) := X.s (by decide +kernel)
      refine sp_addStamp (n := n) X1 (by rw [setH_o (by decide)]; exact S.1.1) hn (fun h' F e0 e2 e3 e4 e10 => ?_)
      rw [setH_o (by decide)] at e2 e3 e4 e10
      have X2 : Fix sh h' := F.fix X1 (by decide +kernel)
      simp only [pushR0]
      rw [B_12_57 X2, sp_granted X2]
      have X3 : Fix sh (setH h' 0 16 0) := X2.s (by decide +kernel)
      simp only [pushR0]
      rw [B_12_60 X3, B_165_0 X3]
      have X4 : Fix sh (setH (setH h' 0 16 0) 85 0 0) := X3.s (by decide +kernel)
      have e87 : setH (setH h' 0 16 0) 85 0 0 87 = h 87 := by rw [setH_o (by decide), setH_o (by decide), F.row 87 rfl, setH_o (by decide)]
      refine sp_come (n := n) X4 h1 h2 h3 h4 (by rw [e87]; exact W.1.1) hn10 (fun hno => absurd hok hno) (fun _ h10 => by omega) (fun _ _ h5 F5 e5 => ?_)
      rw [e87] at e5
      have X5 : Fix sh h5 := F5.fix X4 (by decide +kernel)
      simp only [pushR0]
      rw [B_165_15 X5, sp_settled X5 (by omega), if_pos (by omega), mTellG (by omega)]
      have X6 : Fix sh (setH (setH h5 85 8 0) 85 1 0) := (X5.s (by decide +kernel)).s (by decide +kernel)
      simp only [pushR0]
      rw [B_165_18 X6]
      refine ⟨_, rfl, rfl, by omega, by omega, ?_⟩
      have Fa : Fr [2, 3, 4, 10, 87] [(1, 0), (44, 3), (0, 16), (85, 0), (85, 8), (85, 1)] h (setH (setH h5 85 8 0) 85 1 0) := ((((((Fr.refl h).set (p := 44) (k := 3) (v := 0) rfl).trans (F.mono rfl)).set (p := 0) (k := 16) (v := 0) rfl).set (p := 85) (k := 0) (v := 0) rfl).trans (F5.mono rfl)).set (p := 85) (k := 8) (v := 0) rfl |>.set rfl
      have eh : ∀ q k, q ≠ 87 → q ≠ 85 → q ≠ 0 → setH (setH h5 85 8 0) 85 1 0 q k = h' q k := fun q k a b c => by
        rw [setH_o b, setH_o b, F5 q k (by simp [a]) (by simp), setH_o b, setH_o c]
      have er : ∀ q, q ≠ 87 → q ≠ 85 → q ≠ 0 → setH (setH h5 85 8 0) 85 1 0 q = h' q := fun q a b c => funext fun k => eh q k a b c
      have G7 : setH (setH h5 85 8 0) 85 1 0 87 = stG (h 87) n w r t g := by rw [setH_o (by decide), setH_o (by decide)]; exact e5
      refine I.fin Fa (by decide +kernel) (by decide +kernel) ?_ ⟨n + 1, m, L, ?_, Hs.zero ?_ ?_ (Fa.at 44 2 rfl)⟩
      · rw [setH_self, setH_o (by decide), setH_o (by decide), F5.at 0 16 rfl, setH_o (by decide), setH_self]
      · unfold Live
        rw [G7]
        have := stG_C (h2 := h') (w := w) (r := r) (t := t) (g := g) (S.of (h2 := setH h 44 3 0) (setH_o (by decide)) (fun j h1 h2 => setH_o (by omega)) (fun q hq => setH_o (by omega))) (by rw [setH_o (by decide)]; exact R) B hn W.1.2.2.2.1 F e0 (by rw [setH_o (by decide)]; exact e2) (by rw [setH_o (by decide)]; exact e3) (by rw [setH_o (by decide)]; exact e4) (by rw [setH_o (by decide)]; exact e10)
        rw [er 10 (by decide) (by decide) (by decide)]
        exact ⟨this.1.of (er 1 (by decide) (by decide) (by decide)) (fun j h1 h2 => er _ (by omega) (by omega) (by omega)) (fun q hq => er q (by omega) (by omega) (by omega)), this.2, stG_W W hn hok, stG_B B hn W.1.2.2.2.1 hok⟩
      · rw [setH_k (by decide), setH_self]
      · rw [eh 44 3 (by decide) (by decide) (by decide), F.at 44 3 rfl, setH_self]
    · rw [if_neg (by omega), sp_refT X (by omega)]
      have X1 : Fix sh (cTell h (-5)) := cTell_fr.fix X (by decide +kernel)
      have X2 : Fix sh (setH (cTell h (-5)) 85 0 0) := X1.s (by decide +kernel)
      simp only [pushR0]
      rw [B_12_35 X1, B_165_0 X1]
      refine sp_come (n := n) X2 h1 h2 h3 h4 (by rw [setH_o (by decide), cTell_fr.row 87 rfl]; exact W.1.1) hn10 (fun hno => absurd hok hno) (fun _ _ => ?_) (fun _ hn2 => absurd hn2 hn)
      simp only [pushR0]
      rw [B_165_15 X2, sp_settled X2 (by omega), if_neg (by decide)]
      simp only [pushR0]
      rw [B_165_18 (mTell_fr.fix X2 (by decide +kernel))]
      exact ⟨_, rfl, rfl, by omega, by omega, I.ref (by omega)⟩
