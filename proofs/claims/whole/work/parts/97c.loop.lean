/-! ===== the law: its start and its loop ===== -/
theorem ini_at {h : Sto} (c1 : chk0 shp0 h 0 40 = true) (c2 : chk0 shp0 h 40 85 = true) (c3 : chk0 shp0 h 85 120 = true) (p k : Nat) (v : Int) (c : (decide (p < 120) && decide (k < cut0 (shp0.getD p (0, 99))) && decide (iniV p k = v)) = true) : h p k = v := by
  have key : ∀ a b, chk0 shp0 h a b = true → a ≤ p → p < b → k < cut0 (shp0.getD p (0, 99)) → h p k = iniV p k := by
    intro a b hc h1 h2 h3
    unfold chk0 at hc
    have e : a + (p - a) = p := by omega
    have := List.all_eq_true.mp (List.all_eq_true.mp hc (p - a) (List.mem_range.mpr (by omega))) k (List.mem_range.mpr (by rw [e]; exact h3))
    rw [e] at this
    exact of_decide_eq_true this
  simp only [Bool.and_eq_true, decide_eq_true_eq] at c
  obtain ⟨⟨h1, h2⟩, h3⟩ := c
  rw [← h3]
  by_cases p4 : p < 40
  · exact key 0 40 c1 (by omega) p4 h2
  by_cases p8 : p < 85
  · exact key 40 85 c2 (by omega) p8 h2
  · exact key 85 120 c3 (by omega) h1 h2
theorem ini_fld : (fld0.all (fun q => decide (q.1 < 120) && decide (q.2.1 < cut0 (shp0.getD q.1 (0, 99))) && decide (iniV q.1 q.2.1 = q.2.2))) = true := by decide +kernel
theorem ini_inv {h : Sto} (c1 : chk0 shp0 h 0 40 = true) (c2 : chk0 shp0 h 40 85 = true) (c3 : chk0 shp0 h 85 120 = true) : INV shp0 h := by
  have A := ini_at c1 c2 c3
  have X : Fix shp0 h := ⟨⟨[], by simp⟩, fun q hq => A _ _ _ (List.all_eq_true.mp ini_fld q hq)⟩
  have g0 := A 87 0 0 (by decide +kernel)
  have g1 := A 87 1 0 (by decide +kernel)
  have g2 := A 87 2 0 (by decide +kernel)
  have g3 := A 87 3 0 (by decide +kernel)
  have g4 := A 87 4 (-1) (by decide +kernel)
  have g5 := A 87 5 0 (by decide +kernel)
  have g6 := A 87 6 1 (by decide +kernel)
  have g7 := A 87 7 0 (by decide +kernel)
  have lt : ∀ r, r = 8 ∨ r = 19 ∨ r = 29 → LT1 shp0 (h r) := fun r hr j hj => by
    refine Or.inl ?_
    rcases hr with rfl | rfl | rfl <;> rcases (show j = 0 ∨ j = 1 ∨ j = 2 ∨ j = 3 ∨ j = 4 ∨ j = 5 by omega) with rfl | rfl | rfl | rfl | rfl | rfl <;> exact A _ _ _ (by decide +kernel)
  have im : ∀ k, k = 0 ∨ k = 1 → Img shp0 h k := fun k hk => by
    have e1 : h 89 k = 0 := by rcases hk with rfl | rfl <;> exact A _ _ _ (by decide +kernel)
    have e2 : h 32 k = 0 := by rcases hk with rfl | rfl <;> exact A _ _ _ (by decide +kernel)
    refine ⟨Or.inl e1, by rw [e1, e2], fun q => by rw [e1] at q; omega, lt 8 (Or.inl rfl), lt _ ?_⟩
    rcases hk with rfl | rfl
    · exact Or.inr (Or.inl rfl)
    · exact Or.inr (Or.inr rfl)
  refine ⟨X, ⟨0, 0, [], ⟨⟨⟨A 1 0 0 (by decide +kernel), A 1 4 0 (by decide +kernel), ?_, ?_, ?_, A 1 11 0 (by decide +kernel), ?_⟩, fun s hs => by omega, fun l hl => by omega, fun i hi => by rw [g2] at hi; omega, fun k Lw hk => by simp at hk⟩, ⟨?_, fun s hs => by omega, fun l hl => by omega, fun l i hl => by omega⟩, ⟨⟨g0, by omega, g1, by omega, by omega, g3, by simp, ?_, by omega, by omega, by omega⟩, fun s hs => by omega, fun l hl => by omega, fun i hi => by rw [g2] at hi; omega, fun k Lw hk => by simp at hk⟩, ⟨by omega, fun s hs => by omega, fun l hl => by omega, fun l i hl => by omega, fun l i k hl => by omega⟩⟩, ⟨?_, ⟨0, 0, A 44 2 0 (by decide +kernel), by omega, A 44 3 0 (by decide +kernel), by omega, fun j hj => by omega⟩⟩⟩, im 0 (Or.inl rfl), im 1 (Or.inr rfl), Or.inl ⟨A 76 4 0 (by decide +kernel), A 76 5 0 (by decide +kernel), A 85 62 (-1) (by decide +kernel), A 85 63 (-1) (by decide +kernel)⟩, ⟨0, A 0 14 0 (by decide +kernel), A 85 13 0 (by decide +kernel), by omega, fun i hi => by omega⟩, ⟨?_, ?_, fun i hi => ?_, ?_, ?_⟩, A 85 20 0 (by decide +kernel)⟩
  · rw [g2]; exact A 1 6 0 (by decide +kernel)
  · rw [g6]; exact A 1 9 1 (by decide +kernel)
  · rw [g7]; exact A 1 10 0 (by decide +kernel)
  · rw [g4]; exact A 1 13 (-1) (by decide +kernel)
  · rw [g5]; exact A 10 0 0 (by decide +kernel)
  · rw [g4]; exact ⟨by decide, by decide⟩
  · rw [A 85 8 0 (by decide +kernel), A 44 3 0 (by decide +kernel)]
  · rw [A 0 15 0 (by decide +kernel), A 85 11 0 (by decide +kernel)]
  · rw [A 0 16 0 (by decide +kernel), A 85 1 0 (by decide +kernel)]
  · rcases (show i = 0 ∨ i = 1 ∨ i = 2 ∨ i = 3 ∨ i = 4 ∨ i = 5 ∨ i = 6 by omega) with rfl | rfl | rfl | rfl | rfl | rfl | rfl
    · rw [A 84 0 0 (by decide +kernel), A 86 0 0 (by decide +kernel)]
    · rw [A 84 1 0 (by decide +kernel), A 86 1 0 (by decide +kernel)]
    · rw [A 84 2 0 (by decide +kernel), A 86 2 0 (by decide +kernel)]
    · rw [A 84 3 0 (by decide +kernel), A 86 3 0 (by decide +kernel)]
    · rw [A 84 4 0 (by decide +kernel), A 86 4 0 (by decide +kernel)]
    · rw [A 84 5 0 (by decide +kernel), A 86 5 0 (by decide +kernel)]
    · rw [A 84 6 0 (by decide +kernel), A 86 6 0 (by decide +kernel)]
  · rw [A 43 10 (-1) (by decide +kernel), A 85 18 (-1) (by decide +kernel)]
  · rw [A 52 10 (-1) (by decide +kernel), A 85 58 (-1) (by decide +kernel)]
/-- the law's end, and its room -/
def LwQ : Pst := fun r sh sl _ => r = (0, 1) ∧ sh.length ≤ 600000 ∧ sl ≤ 7302250
theorem lw_loop {sc : Nat × (Nat → Int)} (hL : sc.1 ≤ 384) (hr : ∀ j, -2147483648 ≤ sc.2 j ∧ sc.2 j < 2147483648) : ∀ (rem k : Nat) (sh : Shp) (sl : Nat) (h : Sto) (I : Int), k + rem = 64 → I = 6 * (k : Int) → sh.length ≤ 120 + 9 * k → sl ≤ 24976 + 900 * k → INV sh h → WF sc (699 + 101) 282 18 [(2, -2), (2, 0), (2, 85), (0, I)] [] sh sl h LwQ := by
  intro rem
  induction rem with
  | zero =>
    intro k sh sl h I hk hI l1 l2 IN
    rw [R_282_18, R_282_19, R_282_20, R_282_21, R_282_23, R_282_24, w32_id (a := (sc.1 : Int) - 6) (by omega) (by omega), w32_id (a := I) (by omega) (by omega), if_pos (by omega), R_282_1208, R_282_1209 (Or.inr rfl)]
    exact ⟨rfl, by omega, by omega⟩
  | succ rem ih =>
    intro k sh sl h I hk hI l1 l2 IN
    rw [R_282_18, R_282_19, R_282_20, R_282_21, R_282_23, R_282_24, w32_id (a := (sc.1 : Int) - 6) (by omega) (by omega), w32_id (a := I) (by omega) (by omega)]
    refine ite_i (fun he => ?_) (fun he => ?_)
    · rw [R_282_1208, R_282_1209 (Or.inr rfl)]
      exact ⟨rfl, by omega, by omega⟩
    · rw [R_282_27, R_282_28, R_282_29, R_282_30, R_282_32]
      refine ⟨by rw [w32_id (a := I) (by omega) (by omega)]; omega, lw_sw (d := 699) hr (fun z z1 z2 => by rw [w32_id (a := I + z) (by omega) (by omega)]; omega) IN (fun sh2 sl2 h2 a b c => ?_)⟩
      rw [R_282_1202, R_282_1205, nl2]
      exact ih (k + 1) sh2 sl2 h2 (I + 6) (by omega) (by omega) (Nat.le_trans a (by omega)) (Nat.le_trans b (Nat.le_trans (Nat.add_le_add_right l2 900) (Nat.le_of_eq (by rw [Nat.mul_succ, Nat.add_assoc])))) c
theorem run_w {sc : Nat × (Nat → Int)} {n y : Nat} {A : List V} {sh : Shp} {sl : Nat} {h : Sto} {Q : Pst} {r : V} {σ : St} (hy : y < 282) (e : exF (0, fun _ => 0) n 20 y 0 (ent A (maxLOf y)) [] (sh, sl, h) = some (r, σ)) (hq : Q r σ.1 σ.2.1 σ.2.2) : WM sc 799 y A sh sl h Q := by
  refine ⟨n, r, σ.1, σ.2.1, σ.2.2, ?_, hq⟩
  rw [exF_sc sc (0, fun _ => 0) _ _ _ _ _ _ _ hy]
  exact exF_mono _ _ _ _ _ _ _ _ _ e _ _ (Nat.le_refl _) (by decide)
theorem st_fn : fnum 12 = 64 := by decide +kernel
theorem st_ln : (List.take 85 shp0).length = 85 := by decide +kernel
theorem st_ln2 : shp0.length ≤ 120 + 9 * 0 := by decide +kernel
theorem lw_s2 {sc : Nat × (Nat → Int)} {sh sh2 : Shp} {sl sl2 n : Nat} {h h2 : Sto} {Q : Pst} (hl : sh.length = 85) (e2 : exF (0, fun _ => 0) n 20 157 0 (ent [(2, 85)] (maxLOf 157)) [] (sh ++ [(0, 12)], sl + 64, rowH h 85 (fun k => if ftag 12 k = 2 then -1 else 0)) = some ((9, 0), sh2, sl2, h2)) (hq : WF sc (799 + 1) 282 18 [(2, -2), (2, 0), (2, 85), (0, 0)] [] sh2 sl2 h2 Q) : WF sc (799 + 1) 282 8 [(2, -2), (2, 0), (9, 0), (9, 0)] [] sh sl h Q := by
  have i85 : ((85 : Nat) : Int) = 85 := rfl
  rw [R_282_8, R_282_11, R_282_12, hl, i85]
  refine ⟨⟨by decide, by decide⟩, run_w (by decide) e2 ?_⟩
  simp only [pushR9]
  rw [R_282_15, R_282_16, R_282_17, nl2, nl2]
  exact hq
theorem lw_s1 {sc : Nat × (Nat → Int)} {sh1 : Shp} {sl1 n : Nat} {h1 : Sto} {Q : Pst} (e1 : exF (0, fun _ => 0) n 20 0 0 (ent [(2, 0)] (maxLOf 0)) [] ([(0, 11)], 17, rowH (fun _ _ => 0) 0 (fun k => if ftag 11 k = 2 then -1 else 0)) = some ((9, 0), sh1, sl1, h1)) (hq : WF sc (799 + 1) 282 8 [(2, -2), (2, 0), (9, 0), (9, 0)] [] sh1 sl1 h1 Q) : WF sc (799 + 1) 282 0 [(2, -2), (9, 0), (9, 0), (9, 0)] [] [] 0 (fun _ _ => 0) Q := by
  have i0 : ((0 : Nat) : Int) = 0 := rfl
  rw [R_282_0, R_282_3, R_282_4, List.length_nil, i0, List.nil_append, Nat.zero_add]
  refine ⟨⟨by decide, by decide⟩, run_w (by decide) e1 ?_⟩
  simp only [pushR9]
  rw [R_282_7, nl2]
  exact hq
theorem run1_d {r : V} {sh : Shp} {sl : Nat} {h : Sto} (e : run1 = some (r, sh, sl, h)) : exF (0, fun _ => 0) 700 20 0 0 (ent [(2, 0)] (maxLOf 0)) [] ([(0, 11)], 17, rowH (fun _ _ => 0) 0 (fun k => if ftag 11 k = 2 then -1 else 0)) = some (r, sh, sl, h) := by
  unfold run1 at e
  exact e
theorem run2_d {r : V} {h : Sto} (e : run1 = some (r, List.take 85 shp0, 3873, h)) : run2 = exF (0, fun _ => 0) 400 20 157 0 (ent [(2, 85)] (maxLOf 157)) [] (List.take 85 shp0 ++ [(0, 12)], 3873 + 64, rowH h 85 (fun k => if ftag 12 k = 2 then -1 else 0)) := by
  unfold run2
  rw [e, Option.bind_some]
  unfold push1
  rw [st_fn, st_ln]
theorem lw_start {sc : Nat × (Nat → Int)} (hL : sc.1 ≤ 384) (hr : ∀ j, -2147483648 ≤ sc.2 j ∧ sc.2 j < 2147483648) : WF sc (799 + 1) 282 0 [(2, -2), (9, 0), (9, 0), (9, 0)] [] [] 0 (fun _ _ => 0) LwQ := by
  have k1 := run1_ok
  have k2 := run2_sh
  have k3 := run2_0
  have k4 := run2_40
  have k5 := run2_85
  generalize g1 : run1 = o1 at k1
  match o1, g1, k1 with
  | none, _, k1 => cases k1
  | some (r1, sh1, sl1, h1), g1, k1 =>
    simp only [Bool.and_eq_true, decide_eq_true_eq] at k1
    obtain ⟨⟨⟨a1, a2⟩, a3⟩, -⟩ := k1
    subst a1
    subst a2
    subst a3
    have d2 := run2_d g1
    generalize g2 : run2 = o2 at k2 k3 k4 k5 d2
    match o2, k2, k3, k4, k5, d2 with
    | none, k2, _, _, _, _ => cases k2
    | some (r2, sh2, sl2, h2), k2, k3, k4, k5, d2 =>
      simp only [Bool.and_eq_true, decide_eq_true_eq] at k2
      obtain ⟨⟨b1, b2⟩, b3⟩ := k2
      subst b1
      subst b2
      subst b3
      exact lw_s1 (run1_d g1) (lw_s2 st_ln d2.symm (lw_loop hL hr 64 0 shp0 24976 h2 0 rfl rfl st_ln2 (Nat.le_refl _) (ini_inv k3 k4 k5)))
