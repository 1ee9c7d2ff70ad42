/-! ===== reigns, the reference's side ===== -/
section REIGN5
variable {G : Nat → Int} {n m : Nat} {L : List Law} {x y : Int}
theorem stick5 : (stickA G L n m x y).2 5 = G 5 := by
  unfold stickA
  split
  · split
    · show stickG G _ _ 5 = G 5
      unfold stickG; rw [up_n (by omega), up_n (by omega), up_n (by omega)]
    · rfl
  · rfl
theorem peel5 : (peelA G m y).2 5 = G 5 := by
  unfold peelA
  split
  · split
    · rfl
    · show peelG G _ 5 = G 5
      unfold peelG; rw [up_n (by omega), up_n (by omega), up_n (by omega)]
  · rfl
theorem cnF5 {l : Nat} : ∀ k : Nat, cnF G l k 5 = G 5 := by
  intro k
  induction k with
  | zero => rfl
  | succ k ih => simp only [cnF]; rw [up_n (by omega), up_n (by omega)]; exact ih
theorem cancel5 : (cancelA G L m y).2 5 = G 5 := by
  unfold cancelA
  split
  · split
    · show canG G L _ 5 = G 5
      unfold canG; rw [up_n (by omega), cnF5, up_n (by omega)]
    · rfl
  · rfl
end REIGN5
section REIGNM
variable {sc : Nat × (Nat → Int)} {d : Nat} {sh : Shp} {sl : Nat} {h h2 : Sto} {Q : Pst} {G : Nat → Int} {n m : Nat} {L : List Law}
theorem MJ.next {P : List Nat} {S : List (Nat × Nat)} {A : Dd} (M : MJ sh h G n m L) (D : Dok G n m A) (F : Fr P S h h2) (hf : fixF P S = true) (hc : cgF [] [(85, 20)] P S = true) (e : h2 87 = A.2) : MJ sh h2 A.2 n m L := by
  obtain ⟨X, e87, o, W, B⟩ := M
  exact ⟨F.fix X hf, e, by rw [(F.cg hc).c 85 20 rfl]; exact o, W.of D.2.2.2, D.2.2.1⟩
abbrev NP : List Nat := [87, 103, 105, 106]
abbrev NS : List (Nat × Nat) := [(85, 34), (85, 38), (85, 39), (85, 40), (85, 60)]
theorem lp_reignM {x1 : Int} {N : Nat} (hN : N ≤ 60) (hn1 : 1 ≤ n) (hm1 : 1 ≤ m) (h0 : Sto) : ∀ (rem t g : Nat) (h' : Sto) (H : Nat → Int) (c T : Int) (j5 j6 j7 : V), t + rem = N → T = t → (0 ≤ c ∧ c ≤ t) → g < 1000003 → Fr NP NS h0 h' → MJ sh h' H n m L → h' 85 60 = (g : Int) → (∀ (h'' : Sto) (j5 j6 j7 : V), Fr NP NS h0 h'' → h'' 87 = (rgF L n m rem g H c).2 → WF sc (d + 9) 277 216 [(2, 85), (0, x1), (0, (N : Int)), (0, (rgF L n m rem g H c).1), (0, 0), j5, j6, j7] [] sh sl h'' Q) → WF sc (d + 9) 277 77 [(2, 85), (0, x1), (0, (N : Int)), (0, c), (0, T), j5, j6, j7] [] sh sl h' Q := by
  intro rem
  induction rem with
  | zero =>
    intro t g h' H c T j5 j6 j7 ht hT hc hg F M eg hq
    subst hT
    rw [B_277_77 M.1, w32_id (a := (N : Int)) (by omega) (by omega), w32_id (a := (t : Int)) (by omega) (by omega), if_pos (by omega)]
    exact hq h' _ _ _ F M.2.1
  | succ rem ih =>
    intro t g h' H c T j5 j6 j7 ht hT hc hg F M eg hq
    subst hT
    have W := M.2.2.2.1
    have B := M.2.2.2.2
    have hn10 := W.1.2.1
    have hm3 := W.1.2.2.2.1
    have b5 := B.1
    rw [B_277_77 M.1, w32_id (a := (N : Int)) (by omega) (by omega), w32_id (a := (t : Int)) (by omega) (by omega), if_neg (by omega), M.2.1, w32_id (a := H 5) (by omega) (by omega)]
    by_cases h9 : 999 ≤ H 5
    · rw [if_pos h9]
      have := hq h' j5 j6 j7 F
      simp only [rgF, if_pos h9] at this
      exact this M.2.1
    rw [if_neg h9]
    simp only [rgF, if_neg h9] at hq
    have n1 := nx_b g
    have n2 := nx_b (nx g)
    have n3 := nx_b (nx (nx g))
    rw [sp_drawM M.1 W.1.1 eg hg (by omega) hn10]
    simp only [pushR0]
    have F1 : Fr NP NS h0 (setH h' 85 60 ((nx g : Nat) : Int)) := F.set rfl
    have M1 : MJ sh (setH h' 85 60 ((nx g : Nat) : Int)) H n m L := M.of (P := []) (S := [(85, 60)]) ((Fr.refl h').set rfl) (by decide +kernel) (by decide +kernel)
    rw [B_277_105 M1.1, M1.2.1, sp_drawM (g := nx g) M1.1 W.1.2.2.1 (setH_self _ _ _ _) n1 (by omega) (by omega)]
    simp only [pushR0]
    have F2 : Fr NP NS h0 (setH (setH h' 85 60 ((nx g : Nat) : Int)) 85 60 ((nx (nx g) : Nat) : Int)) := F1.set rfl
    have M2 : MJ sh (setH (setH h' 85 60 ((nx g : Nat) : Int)) 85 60 ((nx (nx g) : Nat) : Int)) H n m L := M1.of (P := []) (S := [(85, 60)]) ((Fr.refl _).set rfl) (by decide +kernel) (by decide +kernel)
    rw [B_277_117 M2.1, sp_drawM (g := nx (nx g)) (q := 4) (x := 4) M2.1 rfl (setH_self _ _ _ _) n2 (by omega) (by omega)]
    simp only [pushR0]
    have F3 : Fr NP NS h0 (setH (setH (setH h' 85 60 ((nx g : Nat) : Int)) 85 60 ((nx (nx g) : Nat) : Int)) 85 60 ((nx (nx (nx g)) : Nat) : Int)) := F2.set rfl
    have M3 : MJ sh (setH (setH (setH h' 85 60 ((nx g : Nat) : Int)) 85 60 ((nx (nx g) : Nat) : Int)) 85 60 ((nx (nx (nx g)) : Nat) : Int)) H n m L := M2.of (P := []) (S := [(85, 60)]) ((Fr.refl _).set rfl) (by decide +kernel) (by decide +kernel)
    have e3 : setH (setH (setH h' 85 60 ((nx g : Nat) : Int)) 85 60 ((nx (nx g) : Nat) : Int)) 85 60 ((nx (nx (nx g)) : Nat) : Int) 85 60 = ((nx (nx (nx g)) : Nat) : Int) := setH_self _ _ _ _
    generalize setH (setH (setH h' 85 60 ((nx g : Nat) : Int)) 85 60 ((nx (nx g) : Nat) : Int)) 85 60 ((nx (nx (nx g)) : Nat) : Int) = h3 at F3 M3 e3 ⊢
    have s1 : nx g % n < n := Nat.mod_lt _ (by omega)
    have s2 : nx (nx g) % m < m := Nat.mod_lt _ (by omega)
    have s3 : nx (nx (nx g)) % 4 < 4 := Nat.mod_lt _ (by omega)
    have er : rgA H L n m g = rgDo H L n m (nx g % n) (nx (nx g) % m) (nx (nx (nx g)) % 4) := rfl
    rw [er] at hq
    generalize nx g % n = s at s1 hq ⊢
    generalize nx (nx g) % m = l at s2 hq ⊢
    generalize nx (nx (nx g)) % 4 = k at s3 hq ⊢
    have bl := B.2.2.1 l s2
    rw [B_277_124 M3.1, w32_id (a := (k : Int)) (by omega) (by omega)]
    -- the pass, and the days to come
    have fin : ∀ (h4 : Sto) (A : Dd) (c2 : Int), Dok H n m A → A.2 5 = H 5 → Fr NP NS h0 h4 → MJ sh h4 A.2 n m L → h4 85 60 = ((nx (nx (nx g)) : Nat) : Int) → (c2 = c ∨ c2 = c + 1) → (∀ (h'' : Sto) (j5 j6 j7 : V), Fr NP NS h0 h'' → h'' 87 = (rgF L n m rem (nx (nx (nx g))) (passA A.2 L n m).2 c2).2 → WF sc (d + 9) 277 216 [(2, 85), (0, x1), (0, (N : Int)), (0, (rgF L n m rem (nx (nx (nx g))) (passA A.2 L n m).2 c2).1), (0, 0), j5, j6, j7] [] sh sl h'' Q) → WM sc (d + 8) 238 [(2, 85)] sh sl h4 (fun r sh1 sl1 h1 => WF sc (d + 9) 277 206 [(2, 85), (0, x1), (0, (N : Int)), (0, c2), (0, (t : Int)), (0, (s : Int)), (0, (l : Int)), (0, (k : Int))] (pushR r []) sh1 sl1 h1 Q) := by
      intro h4 A c2 D d5 F4 M4 g4 hc2 hq2
      have ep : (passA A.2 L n m).2 = passG A.2 L n m := by unfold passA; rw [if_neg (by rw [d5]; omega)]
      refine sp_passIt M4 (fun h5 F5 e5 => ?_)
      have M5 : MJ sh h5 (passA A.2 L n m).2 n m L := M4.next (pass_ok M4.2.2.2.1 M4.2.2.2.2) F5 (by decide +kernel) (by decide +kernel) (by rw [ep]; exact e5)
      simp only [pushR0]
      rw [B_277_206 M5.1]
      exact ih (t + 1) _ h5 _ c2 _ _ _ _ (by omega) (by simp) (by omega) n3 (F4.trans (F5.mono rfl)) M5 (by rw [F5.at 85 60 rfl]; exact g4) hq2
    by_cases k1 : k ≤ 1
    · rw [if_neg (by omega)]
      have D := stick_ok (x := (s : Int)) (y := (l : Int)) W B
      have d5 := stick5 (G := H) (L := L) (n := n) (m := m) (x := (s : Int)) (y := (l : Int))
      simp only [rgDo, if_pos k1] at hq
      rw [Int.add_zero] at hq
      have hst : stickA H L n m (s : Int) (l : Int) = if canStk H L s l = true then (H (31 + l), stickG H s l) else (-3, H) := by
        unfold stickA; rw [if_pos (by omega), Int.toNat_natCast, Int.toNat_natCast]
      refine sp_canStick M3 s1 s2 (fun h4 F4 => ?_)
      have M4 := M3.fr F4
      simp only [pushR0]
      rw [B_277_140 M4.1]
      by_cases hc1 : canStk H L s l = true
      · rw [if_pos hc1] at hst
        have h5 : H (31 + l) < 5 := by unfold canStk at hc1; simp at hc1; omega
        rw [if_pos hc1, show w32 1 = 1 from rfl, if_neg (by decide)]
        refine sp_stickIt (G := H) M4.1 M4.2.1 (by omega) (by omega) ⟨by omega, h5⟩ (fun h6 F6 e6 => ?_)
        have M6 : MJ sh h6 (stickA H L n m (s : Int) (l : Int)).2 n m L := M4.next D F6 (by decide +kernel) (by decide +kernel) (by rw [hst]; exact e6)
        simp only [pushR9]
        rw [B_277_151 M6.1, w32_id (a := (k : Int)) (by omega) (by omega), if_pos (by omega), if_pos (by omega)]
        exact fin h6 _ c D d5 ((F3.trans (F4.mono rfl)).trans (F6.mono rfl)) M6 (by rw [F6.at 85 60 rfl, F4.at 85 60 rfl]; exact e3) (Or.inl rfl) hq
      · rw [if_neg hc1] at hst
        rw [if_neg hc1, w32_0, if_pos rfl, B_277_151 M4.1, w32_id (a := (k : Int)) (by omega) (by omega), if_pos (by omega), if_pos (by omega)]
        rw [hst] at hq D d5
        exact fin h4 _ c D d5 (F3.trans (F4.mono rfl)) M4 (by rw [F4.at 85 60 rfl]; exact e3) (Or.inl rfl) hq
    rw [if_pos (by omega), B_277_151 M3.1, w32_id (a := (k : Int)) (by omega) (by omega)]
    by_cases k2 : k = 2
    · have D := peel_ok (y := (l : Int)) W B
      have d5 := peel5 (G := H) (m := m) (y := (l : Int))
      simp only [rgDo, if_neg k1, if_pos k2] at hq
      rw [Int.add_zero] at hq
      have hpe : peelA H m (l : Int) = if H (31 + l) = 0 then (-3, H) else ((spA H l ((H (31 + l)).toNat - 1) : Int), peelG H l) := by
        unfold peelA; rw [if_pos (by omega), Int.toNat_natCast]
      rw [if_neg (by omega), w32_nat (a := 31 + (l : Int)) (n := 31 + l) (by omega) (by omega), Int.toNat_natCast, M3.2.1, w32_id (a := H (31 + l)) (by omega) (by omega)]
      refine ⟨⟨by omega, by omega⟩, ?_⟩
      by_cases h0c : H (31 + l) = 0
      · rw [if_pos h0c] at hpe
        rw [if_pos (by omega), if_pos (by omega)]
        rw [hpe] at hq D d5
        exact fin h3 _ c D d5 F3 M3 e3 (Or.inl rfl) hq
      · rw [if_neg h0c] at hpe
        rw [if_neg (by omega)]
        refine sp_peelIt (G := H) M3.1 M3.2.1 s2 B hn10 hm3 h0c (fun h6 F6 e6 => ?_)
        have M6 : MJ sh h6 (peelA H m (l : Int)).2 n m L := M3.next D F6 (by decide +kernel) (by decide +kernel) (by rw [hpe]; exact e6)
        simp only [pushR0]
        rw [B_277_176 M6.1, w32_id (a := (k : Int)) (by omega) (by omega), if_pos (by omega)]
        exact fin h6 _ c D d5 (F3.trans (F6.mono rfl)) M6 (by rw [F6.at 85 60 rfl]; exact e3) (Or.inl rfl) hq
    · have D := cancel_ok (y := (l : Int)) W B
      have d5 := cancel5 (G := H) (L := L) (m := m) (y := (l : Int))
      have qb := quOnA_bd W B s2
      simp only [rgDo, if_neg k1, if_neg k2] at hq
      have hca : cancelA H L m (l : Int) = if canCan H L l = true then (quOnA H L l, canG H L l) else (-3, H) := by
        unfold cancelA; rw [if_pos (by omega), Int.toNat_natCast]
      rw [if_pos (by omega), if_neg (by omega)]
      refine sp_canCancel M3 s2 (fun h4 F4 => ?_)
      have M4 := M3.fr F4
      simp only [pushR0]
      rw [B_277_189 M4.1]
      by_cases hc1 : canCan H L l = true
      · rw [if_pos hc1] at hca
        have hz : ¬ (cancelA H L m (l : Int)).1 < 0 := by rw [hca]; show ¬ quOnA H L l < 0; omega
        simp only [if_neg hz] at hq
        rw [if_pos hc1, show w32 1 = 1 from rfl, if_neg (by decide)]
        refine sp_cancelIt M4 s2 (fun h6 F6 e6 => ?_)
        have M6 : MJ sh h6 (cancelA H L m (l : Int)).2 n m L := M4.next D F6 (by decide +kernel) (by decide +kernel) (by rw [hca]; exact e6)
        simp only [pushR0]
        rw [B_277_198 M6.1]
        exact fin h6 _ (c + 1) D d5 ((F3.trans (F4.mono rfl)).trans (F6.mono rfl)) M6 (by rw [F6.at 85 60 rfl, F4.at 85 60 rfl]; exact e3) (Or.inr rfl) hq
      · rw [if_neg hc1] at hca
        have hz : (cancelA H L m (l : Int)).1 < 0 := by rw [hca]; show (-3 : Int) < 0; decide
        simp only [if_pos hz] at hq
        rw [Int.add_zero] at hq
        rw [if_neg hc1, w32_0, if_pos rfl]
        rw [hca] at hq D d5
        exact fin h4 _ c D d5 (F3.trans (F4.mono rfl)) M4 (by rw [F4.at 85 60 rfl]; exact e3) (Or.inl rfl) hq
end REIGNM
theorem rgDo_ok {H : Nat → Int} {n m s l k : Nat} {L : List Law} (W : SW H n m L) (B : BW H n m) : BW (rgDo H L n m s l k).2 n m ∧ (∀ i, (i < 5 ∨ i = 6 ∨ i = 7 ∨ 49 ≤ i) → (rgDo H L n m s l k).2 i = H i) ∧ 0 ≤ (rgDo H L n m s l k).1 ∧ (rgDo H L n m s l k).1 ≤ 1 := by
  unfold rgDo
  split
  · have D := stick_ok (x := (s : Int)) (y := (l : Int)) W B
    exact ⟨D.2.2.1, D.2.2.2, by simp, by simp⟩
  · split
    · have D := peel_ok (y := (l : Int)) W B
      exact ⟨D.2.2.1, D.2.2.2, by simp, by simp⟩
    · have D := cancel_ok (y := (l : Int)) W B
      refine ⟨D.2.2.1, D.2.2.2, ?_, ?_⟩
      · show (0 : Int) ≤ if _ then 0 else 1
        split <;> decide
      · show (if _ then (0 : Int) else 1) ≤ 1
        split <;> decide
theorem rgF_ok {n m : Nat} {L : List Law} : ∀ (rem g : Nat) (H : Nat → Int) (c : Int), SW H n m L → BW H n m → 0 ≤ c → BW (rgF L n m rem g H c).2 n m ∧ (∀ i, (i < 5 ∨ i = 6 ∨ i = 7 ∨ 49 ≤ i) → (rgF L n m rem g H c).2 i = H i) ∧ 0 ≤ (rgF L n m rem g H c).1 ∧ (rgF L n m rem g H c).1 ≤ c + rem := by
  intro rem
  induction rem with
  | zero => intro g H c W B hc; exact ⟨B, fun _ _ => rfl, hc, by show c ≤ c + _; omega⟩
  | succ rem ih =>
    intro g H c W B hc
    simp only [rgF]
    split
    · exact ⟨B, fun _ _ => rfl, hc, by show c ≤ c + _; omega⟩
    · have D := rgDo_ok (s := nx g % n) (l := nx (nx g) % m) (k := nx (nx (nx g)) % 4) W B
      have er : rgA H L n m g = rgDo H L n m (nx g % n) (nx (nx g) % m) (nx (nx (nx g)) % 4) := rfl
      rw [← er] at D
      have W1 := W.of D.2.1
      have P := pass_ok W1 D.1
      obtain ⟨i1, i2, i3, i4⟩ := ih (nx (nx (nx g))) _ (c + (rgA H L n m g).1) (W1.of P.2.2.2) P.2.2.1 (by omega)
      exact ⟨i1, fun i hi => by rw [i2 i hi, P.2.2.2 i hi, D.2.1 i hi], i3, by omega⟩
