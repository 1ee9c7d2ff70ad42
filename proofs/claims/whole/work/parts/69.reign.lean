/-! ===== reigns: the days, on a row ===== -/
def nx (g : Nat) : Nat := (g * 1103 + 12345) % 1000003
theorem nx_b (g : Nat) : nx g < 1000003 := Nat.mod_lt _ (by decide)
theorem tmodN (a b : Nat) : ((a : Nat) : Int).tmod ((b : Nat) : Int) = ((a % b : Nat) : Int) := rfl
theorem nx_w {g : Nat} (hg : g < 1000003) : (w64 ((g : Int) * 1103 + 12345)).tmod 1000003 = ((nx g : Nat) : Int) := by
  rw [w64_id (by omega) (by omega), show (g : Int) * 1103 + 12345 = ((g * 1103 + 12345 : Nat) : Int) by omega]
  exact tmodN (g * 1103 + 12345) 1000003
def rgDo (H : Nat → Int) (L : List Law) (n m s l k : Nat) : Dd := if k ≤ 1 then (0, (stickA H L n m s l).2) else if k = 2 then (0, (peelA H m l).2) else (if (cancelA H L m l).1 < 0 then 0 else 1, (cancelA H L m l).2)
def rgA (H : Nat → Int) (L : List Law) (n m g : Nat) : Dd := rgDo H L n m (nx g % n) (nx (nx g) % m) (nx (nx (nx g)) % 4)
def rgF (L : List Law) (n m : Nat) : Nat → Nat → (Nat → Int) → Int → Dd
  | 0, _, H, c => (c, H)
  | r + 1, g, H, c => if 999 ≤ H 5 then (c, H) else rgF L n m r (nx (nx (nx g))) (passA (rgA H L n m g).2 L n m).2 (c + (rgA H L n m g).1)
section REIGN
variable {sc : Nat × (Nat → Int)} {d : Nat} {sh : Shp} {sl : Nat} {h h2 : Sto} {Q : Pst} {G : Nat → Int} {n m : Nat} {L : List Law}
theorem CJ.next {A : Dd} (C : CJ sh h G n m L 78) (D : Dok G n m A) (F : Fr [78, 48, 49, 81, 82, 83] [] h h2) (r : BR (h2 78) A.2 n m) : CJ sh h2 A.2 n m L 78 := by
  obtain ⟨X, S, R, W, B⟩ := C
  have h120 : ∀ q, 120 ≤ q → h2 q = h q := (F.cg (R := []) (C := []) (by decide +kernel)).2.2
  refine ⟨F.fix X (by decide +kernel), (S.of (F.row 1 rfl) (fun j j1 j2 => ?_) h120).ofG (fun i hi => D.2.2.2 i (by omega)), r, W.of D.2.2.2, D.2.2.1⟩
  rcases (show j = 1 ∨ j = 2 ∨ j = 3 ∨ j = 4 ∨ j = 5 ∨ j = 6 ∨ j = 7 by omega) with rfl | rfl | rfl | rfl | rfl | rfl | rfl <;> exact F.row _ rfl
theorem sp_actb {x1 x2 x3 : Int} {A : Dd} (i2 : I32 x2) (i3 : I32 x3) (C : CJ sh h G n m L 78) (hA : (x1 = 0 ∧ A = stickA G L n m x2 x3) ∨ (x1 = 1 ∧ A = peelA G m x2) ∨ (x1 = 2 ∧ A = cancelA G L m x2) ∨ (x1 = 3 ∧ A = passA G L n m)) (hq : ∀ h', Fr [78, 48, 49, 81, 82, 83] [] h h' → BR (h' 78) A.2 n m → Q (0, A.1) sh sl h') : WM sc (d + 8) 88 [(2, 79), (0, x1), (0, x2), (0, x3)] sh sl h Q := by
  have hC := C
  rw [B_88_0b C.1, B_88_18b C.1]
  have tail : ∀ h2, Fr [78, 48, 49, 81, 82, 83] [] h h2 → BR (h2 78) A.2 n m → WF sc (d + 8) 88 61 [(2, 79), (0, x1), (0, x2), (0, x3), (9, 0)] [(0, A.1)] sh sl h2 Q := fun h2 F2 r => by
    have X2 := F2.fix C.1 (by decide +kernel)
    rw [B_88_61b X2]
    split
    · rw [B_88_83b X2]; exact hq h2 F2 r
    · rw [B_88_83b X2]; exact hq h2 F2 r
  rcases hA with ⟨rfl, rfl⟩ | ⟨rfl, rfl⟩ | ⟨rfl, rfl⟩ | ⟨rfl, rfl⟩
  · rw [w32_0, if_neg (by decide)]
    refine sp_stickOn_b i2 i3 hC (fun h2 F2 r => ?_)
    simp only [pushR0]
    rw [B_88_28b (F2.fix C.1 (by decide +kernel))]
    exact tail h2 (F2.mono rfl) r
  · rw [show w32 1 = 1 from rfl, if_pos (by decide), if_neg (by decide)]
    refine sp_peelFrom_b i2 hC (fun h2 F2 r => ?_)
    simp only [pushR0]
    rw [B_88_41b (F2.fix C.1 (by decide +kernel))]
    exact tail h2 (F2.mono rfl) r
  · rw [show w32 2 = 2 from rfl, if_pos (by decide), if_pos (by decide), if_neg (by decide)]
    refine sp_cancelAll_b i2 hC (fun h2 F2 r => ?_)
    simp only [pushR0]
    rw [B_88_54b (F2.fix C.1 (by decide +kernel))]
    exact tail h2 (F2.mono rfl) r
  · rw [show w32 3 = 3 from rfl, if_pos (by decide), if_pos (by decide), if_pos (by decide)]
    refine sp_passDay_b hC (fun h2 F2 r => ?_)
    simp only [pushR0]
    exact tail h2 (F2.mono rfl) r
theorem sp_drawC {g q : Nat} {x : Int} (X : Fix sh h) (hx : x = q) (hg : h 76 2 = (g : Int)) (hg2 : g < 1000003) (hq0 : 0 < q) (hq1 : q ≤ 10) : WM sc (d + 1) 149 [(2, 76), (0, x)] sh sl h Q ↔ Q (0, ((nx g % q : Nat) : Int)) sh sl (setH h 76 2 ((nx g : Nat) : Int)) := by
  subst hx
  have nb := nx_b g
  rw [B_149_0 X, hg, nx_w hg2, w32_id (a := (q : Int)) (by omega) (by omega), w64_id (a := (q : Int)) (by omega) (by omega), w64_id (a := ((nx g : Nat) : Int)) (by omega) (by omega), tmodN, if_neg (by omega)]
  exact ⟨fun z => z.2, fun z => ⟨by omega, z⟩⟩
theorem sp_drawM {g q : Nat} {x : Int} (X : Fix sh h) (hx : x = q) (hg : h 85 60 = (g : Int)) (hg2 : g < 1000003) (hq0 : 0 < q) (hq1 : q ≤ 10) : WM sc (d + 1) 278 [(2, 85), (0, x)] sh sl h Q ↔ Q (0, ((nx g % q : Nat) : Int)) sh sl (setH h 85 60 ((nx g : Nat) : Int)) := by
  subst hx
  have nb := nx_b g
  rw [B_278_0 X, hg, nx_w hg2, w32_id (a := (q : Int)) (by omega) (by omega), w64_id (a := (q : Int)) (by omega) (by omega), w64_id (a := ((nx g : Nat) : Int)) (by omega) (by omega), tmodN]
  exact ⟨fun z => z.2, fun z => ⟨by omega, z⟩⟩
abbrev RP : List Nat := [78, 48, 49, 81, 82, 83]
abbrev RS : List (Nat × Nat) := [(76, 2)]
theorem lp_reignC {x1 : Int} {N : Nat} (hN : N ≤ 60) (hn1 : 1 ≤ n) (hm1 : 1 ≤ m) (h0 : Sto) (e4 : h0 76 4 = (n : Int)) (e5 : h0 76 5 = (m : Int)) : ∀ (rem t g : Nat) (h' : Sto) (H : Nat → Int) (c T : Int) (j5 j6 j7 : V), t + rem = N → T = t → (0 ≤ c ∧ c ≤ t) → g < 1000003 → Fr RP RS h0 h' → CJ sh h' H n m L 78 → h' 76 2 = (g : Int) → (∀ h'', Fr RP RS h0 h'' → BR (h'' 78) (rgF L n m rem g H c).2 n m → Q (0, (rgF L n m rem g H c).1) sh sl h'') → WF sc (d + 9) 148 47 [(2, 76), (0, x1), (0, (N : Int)), (0, c), (0, T), j5, j6, j7] [] sh sl h' Q := by
  intro rem
  induction rem with
  | zero =>
    intro t g h' H c T j5 j6 j7 ht hT hc hg F C eg hq
    subst hT
    rw [B_148_47 C.1, w32_id (a := (N : Int)) (by omega) (by omega), w32_id (a := (t : Int)) (by omega) (by omega), if_pos (by omega)]
    exact hq h' F C.2.2.1
  | succ rem ih =>
    intro t g h' H c T j5 j6 j7 ht hT hc hg F C eg hq
    subst hT
    have W := C.2.2.2.1
    have B := C.2.2.2.2
    have hn10 := W.1.2.1
    have hm3 := W.1.2.2.2.1
    have b5 := B.1
    rw [B_148_47 C.1, w32_id (a := (N : Int)) (by omega) (by omega), w32_id (a := (t : Int)) (by omega) (by omega), if_neg (by omega)]
    refine (bn_today (b := 77) (c := 78) C.1.bdR).mpr ?_
    simp only [pushR0]
    rw [B_148_60 C.1, C.2.2.1.1, w32_id (a := H 5) (by omega) (by omega)]
    by_cases h9 : 999 ≤ H 5
    · rw [if_pos h9]
      have := hq h' F
      simp only [rgF, if_pos h9] at this
      exact this C.2.2.1
    rw [if_neg h9]
    simp only [rgF, if_neg h9] at hq
    have n1 := nx_b g
    have n2 := nx_b (nx g)
    have n3 := nx_b (nx (nx g))
    have C1 : CJ sh (setH h' 76 2 ((nx g : Nat) : Int)) H n m L 78 := C.of (P := []) (S := RS) ((Fr.refl h').set rfl) (by decide +kernel) (by decide +kernel) (setH_o (by decide))
    rw [sp_drawC C.1 (by rw [F.at 76 4 rfl]; exact e4) eg hg (by omega) hn10]
    simp only [pushR0]
    have F1 : Fr RP RS h0 (setH h' 76 2 ((nx g : Nat) : Int)) := F.set rfl
    rw [B_148_74 C1.1, sp_drawC (g := nx g) C1.1 (by rw [F1.at 76 5 rfl]; exact e5) (setH_self _ _ _ _) n1 (by omega) (by omega)]
    simp only [pushR0]
    have F2 : Fr RP RS h0 (setH (setH h' 76 2 ((nx g : Nat) : Int)) 76 2 ((nx (nx g) : Nat) : Int)) := F1.set rfl
    have C2 : CJ sh (setH (setH h' 76 2 ((nx g : Nat) : Int)) 76 2 ((nx (nx g) : Nat) : Int)) H n m L 78 := C1.of (P := []) (S := RS) ((Fr.refl _).set rfl) (by decide +kernel) (by decide +kernel) (setH_o (by decide))
    rw [B_148_84 C2.1, sp_drawC (g := nx (nx g)) (q := 4) (x := 4) C2.1 rfl (setH_self _ _ _ _) n2 (by omega) (by omega)]
    simp only [pushR0]
    have F3 : Fr RP RS h0 (setH (setH (setH h' 76 2 ((nx g : Nat) : Int)) 76 2 ((nx (nx g) : Nat) : Int)) 76 2 ((nx (nx (nx g)) : Nat) : Int)) := F2.set rfl
    have C3 : CJ sh (setH (setH (setH h' 76 2 ((nx g : Nat) : Int)) 76 2 ((nx (nx g) : Nat) : Int)) 76 2 ((nx (nx (nx g)) : Nat) : Int)) H n m L 78 := C2.of (P := []) (S := RS) ((Fr.refl _).set rfl) (by decide +kernel) (by decide +kernel) (setH_o (by decide))
    have e3 : setH (setH (setH h' 76 2 ((nx g : Nat) : Int)) 76 2 ((nx (nx g) : Nat) : Int)) 76 2 ((nx (nx (nx g)) : Nat) : Int) 76 2 = ((nx (nx (nx g)) : Nat) : Int) := setH_self _ _ _ _
    generalize setH (setH (setH h' 76 2 ((nx g : Nat) : Int)) 76 2 ((nx (nx g) : Nat) : Int)) 76 2 ((nx (nx (nx g)) : Nat) : Int) = h3 at F3 C3 e3 ⊢
    have s1 : nx g % n < n := Nat.mod_lt _ (by omega)
    have s2 : nx (nx g) % m < m := Nat.mod_lt _ (by omega)
    have s3 : nx (nx (nx g)) % 4 < 4 := Nat.mod_lt _ (by omega)
    have er : rgA H L n m g = rgDo H L n m (nx g % n) (nx (nx g) % m) (nx (nx (nx g)) % 4) := rfl
    rw [er] at hq
    generalize nx g % n = s at s1 hq ⊢
    generalize nx (nx g) % m = l at s2 hq ⊢
    generalize nx (nx (nx g)) % 4 = k at s3 hq ⊢
    rw [B_148_91 C3.1, w32_id (a := (k : Int)) (by omega) (by omega)]
    -- the pass, and the days to come
    have fin : ∀ (h4 : Sto) (A : Dd) (c2 : Int), Dok H n m A → Fr RP RS h0 h4 → CJ sh h4 A.2 n m L 78 → h4 76 2 = ((nx (nx (nx g)) : Nat) : Int) → (c2 = c ∨ c2 = c + 1) → (∀ h'', Fr RP RS h0 h'' → BR (h'' 78) (rgF L n m rem (nx (nx (nx g))) (passA A.2 L n m).2 c2).2 n m → Q (0, (rgF L n m rem (nx (nx (nx g))) (passA A.2 L n m).2 c2).1) sh sl h'') → WM sc (d + 8) 88 [(2, 79), (0, 3), (0, -1), (0, -1)] sh sl h4 (fun r sh1 sl1 h1 => WF sc (d + 9) 148 163 [(2, 76), (0, x1), (0, (N : Int)), (0, c2), (0, (t : Int)), (0, (s : Int)), (0, (l : Int)), (0, (k : Int))] (pushR r []) sh1 sl1 h1 Q) := by
      intro h4 A c2 D F4 C4 g4 hc2 hq2
      refine sp_actb ⟨by decide, by decide⟩ ⟨by decide, by decide⟩ C4 (Or.inr (Or.inr (Or.inr ⟨rfl, rfl⟩))) (fun h5 F5 r => ?_)
      have C5 := C4.next (pass_ok C4.2.2.2.1 C4.2.2.2.2) F5 r
      simp only [pushR0]
      rw [B_148_163 C5.1]
      exact ih (t + 1) _ h5 _ c2 _ _ _ _ (by omega) (by simp) (by omega) n3 (F4.trans (F5.mono rfl)) C5 (by rw [F5.at 76 2 rfl]; exact g4) hq2
    by_cases k1 : k ≤ 1
    · rw [if_neg (by omega)]
      have D := stick_ok (x := (s : Int)) (y := (l : Int)) W B
      simp only [rgDo, if_pos k1] at hq
      rw [Int.add_zero] at hq
      refine sp_actb ⟨by omega, by omega⟩ ⟨by omega, by omega⟩ C3 (Or.inl ⟨rfl, rfl⟩) (fun h4 F4 r => ?_)
      have C4 := C3.next D F4 r
      simp only [pushR0]
      rw [B_148_111 C4.1]
      exact fin h4 _ c D (F3.trans (F4.mono rfl)) C4 (by rw [F4.at 76 2 rfl]; exact e3) (Or.inl rfl) hq
    by_cases k2 : k = 2
    · rw [if_pos (by omega), if_neg (by omega)]
      have D := peel_ok (y := (l : Int)) W B
      simp only [rgDo, if_neg k1, if_pos k2] at hq
      rw [Int.add_zero] at hq
      refine sp_actb ⟨by omega, by omega⟩ ⟨by decide, by decide⟩ C3 (Or.inr (Or.inl ⟨rfl, rfl⟩)) (fun h4 F4 r => ?_)
      have C4 := C3.next D F4 r
      simp only [pushR0]
      rw [B_148_132 C4.1]
      exact fin h4 _ c D (F3.trans (F4.mono rfl)) C4 (by rw [F4.at 76 2 rfl]; exact e3) (Or.inl rfl) hq
    · rw [if_pos (by omega), if_pos (by omega)]
      have D := cancel_ok (y := (l : Int)) W B
      simp only [rgDo, if_neg k1, if_neg k2] at hq
      refine sp_actb ⟨by omega, by omega⟩ ⟨by decide, by decide⟩ C3 (Or.inr (Or.inr (Or.inl ⟨rfl, rfl⟩))) (fun h4 F4 r => ?_)
      have C4 := C3.next D F4 r
      have D1 := D.1
      simp only [pushR0]
      rw [B_148_147 C4.1, w32_id (a := (cancelA H L m (l : Int)).1) (by omega) (by omega)]
      by_cases hz : (cancelA H L m (l : Int)).1 < 0
      · rw [if_pos hz]
        simp only [if_pos hz] at hq
        rw [Int.add_zero] at hq
        exact fin h4 _ c D (F3.trans (F4.mono rfl)) C4 (by rw [F4.at 76 2 rfl]; exact e3) (Or.inl rfl) hq
      · rw [if_neg hz]
        simp only [if_neg hz] at hq
        exact fin h4 _ (c + 1) D (F3.trans (F4.mono rfl)) C4 (by rw [F4.at 76 2 rfl]; exact e3) (Or.inr rfl) hq
end REIGN
