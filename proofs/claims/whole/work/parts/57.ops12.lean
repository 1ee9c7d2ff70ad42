theorem op_back_0 : OpOK 154 163 0 [(0, 0)] := by
  intro sc d sh sl h I
  have X := I.fx
  have hx : I32 0 := ⟨by decide, by decide⟩
  obtain ⟨n0, m0, L0, Lv0, Hs⟩ := I.live
  have hI := I
  obtain ⟨-, -, i0, i1, rg, -, -, -⟩ := hI
  have ik := i0
  obtain ⟨a1, a2, a3, a4, a5⟩ := ik
  rw [B_154_0 X, sp_isImage X hx, if_pos ⟨by decide, by decide⟩]
  simp only [pushR0]
  rw [B_154_4 X]
  simp only [show w32 1 = 1 from rfl, show w32 0 = 0 from rfl]
  rw [if_pos (by decide), toNatL, a2]
  refine ⟨⟨by decide, by decide⟩, ?_⟩
  rcases a1 with e | e
  · rw [e, w32_0, if_neg (by simp), sp_refT X (by omega)]
    have Xr : Fix sh (cTell h (-2)) := cTell_fr.fix X (by decide +kernel)
    have Xr2 : Fix sh (setH (cTell h (-2)) 85 0 0) := Xr.s (by decide +kernel)
    simp only [pushR0]
    rw [B_154_28 Xr, B_163_0 Xr, hx.w, sp_in hx.l ⟨by decide, by decide⟩ ⟨by decide, by decide⟩, if_pos ⟨by decide, by decide⟩]
    simp only [pushR0]
    rw [B_163_12 Xr2]
    simp only [show w32 1 = 1 from rfl, show w32 0 = 0 from rfl]
    rw [if_pos (by decide), toNatL, setH_o (by decide), cTell_fr.row 89 rfl, e, w32_0, if_neg (by simp), sp_telT Xr2 (by omega)]
    refine ⟨⟨by decide, by decide⟩, ?_⟩
    simp only [pushR0]
    rw [B_163_36 (mTell_fr.fix Xr2 (by decide +kernel))]
    exact ⟨_, rfl, rfl, by omega, by omega, I.ref (by omega)⟩
  · obtain ⟨n, m, L, S, R, W, B⟩ := a3 e
    rw [e, show w32 1 = 1 from rfl, if_pos (by decide), ff_11_0 X]
    refine ⟨⟨by decide, by decide⟩, ?_⟩
    refine sp_cps_1_12 X a5 (fun h1 F1 g1 g2 g3 g4 g5 => ?_)
    have X1 : Fix sh h1 := F1.fix X (by decide +kernel)
    have X2 : Fix sh (setH h1 44 3 0) := X1.s (by decide +kernel)
    have X3 : Fix sh (setH (setH h1 44 3 0) 0 16 0) := X2.s (by decide +kernel)
    have X4 : Fix sh (setH (setH (setH h1 44 3 0) 0 16 0) 85 0 0) := X3.s (by decide +kernel)
    simp only [pushR9]
    rw [B_154_42 X1, sp_granted X2]
    simp only [pushR0]
    have F4 : Fr [2, 3, 4, 5, 6, 7, 8, 10] [(1, 0), (1, 4), (1, 6), (1, 9), (1, 10), (1, 11), (1, 13), (44, 3), (0, 16), (85, 0)] h (setH (setH (setH h1 44 3 0) 0 16 0) 85 0 0) := (((F1.mono rfl).set rfl).set rfl).set rfl
    rw [B_154_55 X3, B_163_0 X3, hx.w, sp_in hx.l ⟨by decide, by decide⟩ ⟨by decide, by decide⟩, if_pos ⟨by decide, by decide⟩]
    simp only [pushR0]
    rw [B_163_12 X4]
    simp only [show w32 1 = 1 from rfl, show w32 0 = 0 from rfl]
    rw [if_pos (by decide), toNatL, F4.row 89 rfl, e, show w32 1 = 1 from rfl, if_pos (by decide)]
    refine ⟨⟨by decide, by decide⟩, ?_⟩
    refine lp_mback (k := 0) X4 (by decide) (fun h5 F5 e1 => ?_) 5494 0 _ _ (by omega) rfl (Fr.refl _) (fun j hj => by omega)
    refine ⟨_, rfl, rfl, by omega, by omega, ?_⟩
    have F : Fr [2, 3, 4, 5, 6, 7, 8, 10, 87] [(1, 0), (1, 4), (1, 6), (1, 9), (1, 10), (1, 11), (1, 13), (44, 3), (0, 16), (85, 0), (85, 8), (85, 1)] h (setH (setH h5 85 8 0) 85 1 0) := (((F4.mono rfl).trans (F5.mono rfl)).set rfl).set rfl
    have ec : ∀ q k, q ≠ 87 → q ≠ 85 → q ≠ 0 → q ≠ 44 → setH (setH h5 85 8 0) 85 1 0 q k = h1 q k := fun q k b1 b2 b3 b4 => by
      rw [setH_o b2, setH_o b2, F5 q k (by simp [b1]) (by simp), setH_o b2, setH_o b3, setH_o b4]
    have e87 : ∀ j, j < 5494 → setH (setH h5 85 8 0) 85 1 0 87 j = h 88 (5494 * 0 + j) := fun j hj => by
      rw [setH_o (by decide), setH_o (by decide), e1 j hj, F4.row 88 rfl]
    have h120 : ∀ q, 120 ≤ q → setH (setH h5 85 8 0) 85 1 0 q = h q := (F.cg (R := []) (C := []) (by decide +kernel)).2.2
    have lt8 : LT1 sh (setH (setH h5 85 8 0) 85 1 0 8) := by
      intro j hj
      rw [ec 8 _ (by decide) (by decide) (by decide) (by decide), (g4 j hj).2.2]; exact a5 j hj
    refine ⟨F.fix X (by decide +kernel), ⟨n, m, L, ⟨?_, ?_, ?_, ?_⟩, Hs.zero ?_ ?_ (F.at 44 2 rfl)⟩, ?_, ?_, rg.cg (F.cg (by decide +kernel)), I.tape.cg (F.cg (by decide +kernel)), ?_, by rw [F.at 85 20 rfl]; exact I.od⟩
    · refine S.copy (a := 1) W.1.2.1 W.1.2.2.2.1 W.1.2.2.2.2.1.2 W.1.2.2.2.2.2.2.1 (fun i hi => e87 i (by omega)) ?_ (fun i hi => ?_) (fun i hi => ?_) (fun i hi => ?_) h120
      · simp only [ec 1 _ (by decide) (by decide) (by decide) (by decide)]; exact g1
      · simp only [ec (1 + 1) _ (by decide) (by decide) (by decide) (by decide), ec (1 + 2) _ (by decide) (by decide) (by decide) (by decide), ec (1 + 3) _ (by decide) (by decide) (by decide) (by decide)]; exact g2 i hi
      · rw [ec (1 + 4) _ (by decide) (by decide) (by decide) (by decide)]; exact g3 i hi
      · rw [ec (1 + 5) _ (by decide) (by decide) (by decide) (by decide), ec (1 + 6) _ (by decide) (by decide) (by decide) (by decide), ec (1 + 7) _ (by decide) (by decide) (by decide) (by decide)]; exact g4 i hi
    · refine R.of B W.1.2.1 W.1.2.2.2.1 (fun i hi => ?_) (fun i _ hi => e87 i (by omega))
      rw [ec 10 _ (by decide) (by decide) (by decide) (by decide)]; exact g5 i hi
    · exact W.of2 (fun i hi => e87 i hi)
    · exact B.of W.1.2.1 W.1.2.2.2.1 (fun i _ hi => e87 i (by omega))
    · rw [setH_k (by decide), setH_self]
    · rw [setH_o (by decide), setH_o (by decide), F5.at 44 3 rfl, setH_o (by decide), setH_o (by decide), setH_self]
    · obtain ⟨b1, b2, b3, b4, b5⟩ := i0
      refine ⟨by rw [F.at 89 0 rfl]; exact b1, by rw [F.at 89 0 rfl, F.at 32 0 rfl]; exact b2, fun hh => ?_, lt8, by rw [F.row (19 + 10 * 0) rfl]; exact b5⟩
      rw [F.at 89 0 rfl] at hh
      obtain ⟨n2, m2, L2, c1, c2, c3, c4⟩ := b3 hh
      rw [F.row 88 rfl, F.row (21 + 10 * 0) rfl]
      refine ⟨n2, m2, L2, c1.of (F.row _ rfl) (fun j h1 h2 => ?_) h120, c2, c3, c4⟩
      rcases (show j = 1 ∨ j = 2 ∨ j = 3 ∨ j = 4 ∨ j = 5 ∨ j = 6 ∨ j = 7 by omega) with rfl | rfl | rfl | rfl | rfl | rfl | rfl <;> exact F.row _ rfl
    · obtain ⟨b1, b2, b3, b4, b5⟩ := i1
      refine ⟨by rw [F.at 89 1 rfl]; exact b1, by rw [F.at 89 1 rfl, F.at 32 1 rfl]; exact b2, fun hh => ?_, lt8, by rw [F.row (19 + 10 * 1) rfl]; exact b5⟩
      rw [F.at 89 1 rfl] at hh
      obtain ⟨n2, m2, L2, c1, c2, c3, c4⟩ := b3 hh
      rw [F.row 88 rfl, F.row (21 + 10 * 1) rfl]
      refine ⟨n2, m2, L2, c1.of (F.row _ rfl) (fun j h1 h2 => ?_) h120, c2, c3, c4⟩
      rcases (show j = 1 ∨ j = 2 ∨ j = 3 ∨ j = 4 ∨ j = 5 ∨ j = 6 ∨ j = 7 by omega) with rfl | rfl | rfl | rfl | rfl | rfl | rfl <;> exact F.row _ rfl
    · obtain ⟨s1, s2, s3, s4, s5⟩ := I.scal
      refine ⟨by rw [F.at 0 15 rfl, F.at 85 11 rfl]; exact s1, ?_, by rw [F.row 84 rfl, F.row 86 rfl]; exact s3, by rw [F.at 43 10 rfl, F.at 85 18 rfl]; exact s4, by rw [F.at 52 10 rfl, F.at 85 58 rfl]; exact s5⟩
      rw [setH_self, setH_o (by decide), setH_o (by decide), F5.at 0 16 rfl, setH_o (by decide), setH_self]
theorem op_back_1 : OpOK 154 163 0 [(0, 1)] := by
  intro sc d sh sl h I
  have X := I.fx
  have hx : I32 1 := ⟨by decide, by decide⟩
  obtain ⟨n0, m0, L0, Lv0, Hs⟩ := I.live
  have hI := I
  obtain ⟨-, -, i0, i1, rg, -, -, -⟩ := hI
  have ik := i1
  obtain ⟨a1, a2, a3, a4, a5⟩ := ik
  rw [B_154_0 X, sp_isImage X hx, if_pos ⟨by decide, by decide⟩]
  simp only [pushR0]
  rw [B_154_4 X]
  simp only [show w32 1 = 1 from rfl, show w32 0 = 0 from rfl]
  rw [if_pos (by decide), toNatL, a2]
  refine ⟨⟨by decide, by decide⟩, ?_⟩
  rcases a1 with e | e
  · rw [e, w32_0, if_neg (by simp), sp_refT X (by omega)]
    have Xr : Fix sh (cTell h (-2)) := cTell_fr.fix X (by decide +kernel)
    have Xr2 : Fix sh (setH (cTell h (-2)) 85 0 0) := Xr.s (by decide +kernel)
    simp only [pushR0]
    rw [B_154_28 Xr, B_163_0 Xr, hx.w, sp_in hx.l ⟨by decide, by decide⟩ ⟨by decide, by decide⟩, if_pos ⟨by decide, by decide⟩]
    simp only [pushR0]
    rw [B_163_12 Xr2]
    simp only [show w32 1 = 1 from rfl, show w32 0 = 0 from rfl]
    rw [if_pos (by decide), toNatL, setH_o (by decide), cTell_fr.row 89 rfl, e, w32_0, if_neg (by simp), sp_telT Xr2 (by omega)]
    refine ⟨⟨by decide, by decide⟩, ?_⟩
    simp only [pushR0]
    rw [B_163_36 (mTell_fr.fix Xr2 (by decide +kernel))]
    exact ⟨_, rfl, rfl, by omega, by omega, I.ref (by omega)⟩
  · obtain ⟨n, m, L, S, R, W, B⟩ := a3 e
    rw [e, show w32 1 = 1 from rfl, if_pos (by decide), ff_11_1 X]
    refine ⟨⟨by decide, by decide⟩, ?_⟩
    refine sp_cps_1_22 X a5 (fun h1 F1 g1 g2 g3 g4 g5 => ?_)
    have X1 : Fix sh h1 := F1.fix X (by decide +kernel)
    have X2 : Fix sh (setH h1 44 3 0) := X1.s (by decide +kernel)
    have X3 : Fix sh (setH (setH h1 44 3 0) 0 16 0) := X2.s (by decide +kernel)
    have X4 : Fix sh (setH (setH (setH h1 44 3 0) 0 16 0) 85 0 0) := X3.s (by decide +kernel)
    simp only [pushR9]
    rw [B_154_42 X1, sp_granted X2]
    simp only [pushR0]
    have F4 : Fr [2, 3, 4, 5, 6, 7, 8, 10] [(1, 0), (1, 4), (1, 6), (1, 9), (1, 10), (1, 11), (1, 13), (44, 3), (0, 16), (85, 0)] h (setH (setH (setH h1 44 3 0) 0 16 0) 85 0 0) := (((F1.mono rfl).set rfl).set rfl).set rfl
    rw [B_154_55 X3, B_163_0 X3, hx.w, sp_in hx.l ⟨by decide, by decide⟩ ⟨by decide, by decide⟩, if_pos ⟨by decide, by decide⟩]
    simp only [pushR0]
    rw [B_163_12 X4]
    simp only [show w32 1 = 1 from rfl, show w32 0 = 0 from rfl]
    rw [if_pos (by decide), toNatL, F4.row 89 rfl, e, show w32 1 = 1 from rfl, if_pos (by decide)]
    refine ⟨⟨by decide, by decide⟩, ?_⟩
    refine lp_mback (k := 1) X4 (by decide) (fun h5 F5 e1 => ?_) 5494 0 _ _ (by omega) rfl (Fr.refl _) (fun j hj => by omega)
    refine ⟨_, rfl, rfl, by omega, by omega, ?_⟩
    have F : Fr [2, 3, 4, 5, 6, 7, 8, 10, 87] [(1, 0), (1, 4), (1, 6), (1, 9), (1, 10), (1, 11), (1, 13), (44, 3), (0, 16), (85, 0), (85, 8), (85, 1)] h (setH (setH h5 85 8 0) 85 1 0) := (((F4.mono rfl).trans (F5.mono rfl)).set rfl).set rfl
    have ec : ∀ q k, q ≠ 87 → q ≠ 85 → q ≠ 0 → q ≠ 44 → setH (setH h5 85 8 0) 85 1 0 q k = h1 q k := fun q k b1 b2 b3 b4 => by
      rw [setH_o b2, setH_o b2, F5 q k (by simp [b1]) (by simp), setH_o b2, setH_o b3, setH_o b4]
    have e87 : ∀ j, j < 5494 → setH (setH h5 85 8 0) 85 1 0 87 j = h 88 (5494 * 1 + j) := fun j hj => by
      rw [setH_o (by decide), setH_o (by decide), e1 j hj, F4.row 88 rfl]
    have h120 : ∀ q, 120 ≤ q → setH (setH h5 85 8 0) 85 1 0 q = h q := (F.cg (R := []) (C := []) (by decide +kernel)).2.2
    have lt8 : LT1 sh (setH (setH h5 85 8 0) 85 1 0 8) := by
      intro j hj
      rw [ec 8 _ (by decide) (by decide) (by decide) (by decide), (g4 j hj).2.2]; exact a5 j hj
    refine ⟨F.fix X (by decide +kernel), ⟨n, m, L, ⟨?_, ?_, ?_, ?_⟩, Hs.zero ?_ ?_ (F.at 44 2 rfl)⟩, ?_, ?_, rg.cg (F.cg (by decide +kernel)), I.tape.cg (F.cg (by decide +kernel)), ?_, by rw [F.at 85 20 rfl]; exact I.od⟩
    · refine S.copy (a := 1) W.1.2.1 W.1.2.2.2.1 W.1.2.2.2.2.1.2 W.1.2.2.2.2.2.2.1 (fun i hi => e87 i (by omega)) ?_ (fun i hi => ?_) (fun i hi => ?_) (fun i hi => ?_) h120
      · simp only [ec 1 _ (by decide) (by decide) (by decide) (by decide)]; exact g1
      · simp only [ec (1 + 1) _ (by decide) (by decide) (by decide) (by decide), ec (1 + 2) _ (by decide) (by decide) (by decide) (by decide), ec (1 + 3) _ (by decide) (by decide) (by decide) (by decide)]; exact g2 i hi
      · rw [ec (1 + 4) _ (by decide) (by decide) (by decide) (by decide)]; exact g3 i hi
      · rw [ec (1 + 5) _ (by decide) (by decide) (by decide) (by decide), ec (1 + 6) _ (by decide) (by decide) (by decide) (by decide), ec (1 + 7) _ (by decide) (by decide) (by decide) (by decide)]; exact g4 i hi
    · refine R.of B W.1.2.1 W.1.2.2.2.1 (fun i hi => ?_) (fun i _ hi => e87 i (by omega))
      rw [ec 10 _ (by decide) (by decide) (by decide) (by decide)]; exact g5 i hi
    · exact W.of2 (fun i hi => e87 i hi)
    · exact B.of W.1.2.1 W.1.2.2.2.1 (fun i _ hi => e87 i (by omega))
    · rw [setH_k (by decide), setH_self]
    · rw [setH_o (by decide), setH_o (by decide), F5.at 44 3 rfl, setH_o (by decide), setH_o (by decide), setH_self]
    · obtain ⟨b1, b2, b3, b4, b5⟩ := i0
      refine ⟨by rw [F.at 89 0 rfl]; exact b1, by rw [F.at 89 0 rfl, F.at 32 0 rfl]; exact b2, fun hh => ?_, lt8, by rw [F.row (19 + 10 * 0) rfl]; exact b5⟩
      rw [F.at 89 0 rfl] at hh
      obtain ⟨n2, m2, L2, c1, c2, c3, c4⟩ := b3 hh
      rw [F.row 88 rfl, F.row (21 + 10 * 0) rfl]
      refine ⟨n2, m2, L2, c1.of (F.row _ rfl) (fun j h1 h2 => ?_) h120, c2, c3, c4⟩
      rcases (show j = 1 ∨ j = 2 ∨ j = 3 ∨ j = 4 ∨ j = 5 ∨ j = 6 ∨ j = 7 by omega) with rfl | rfl | rfl | rfl | rfl | rfl | rfl <;> exact F.row _ rfl
    · obtain ⟨b1, b2, b3, b4, b5⟩ := i1
      refine ⟨by rw [F.at 89 1 rfl]; exact b1, by rw [F.at 89 1 rfl, F.at 32 1 rfl]; exact b2, fun hh => ?_, lt8, by rw [F.row (19 + 10 * 1) rfl]; exact b5⟩
      rw [F.at 89 1 rfl] at hh
      obtain ⟨n2, m2, L2, c1, c2, c3, c4⟩ := b3 hh
      rw [F.row 88 rfl, F.row (21 + 10 * 1) rfl]
      refine ⟨n2, m2, L2, c1.of (F.row _ rfl) (fun j h1 h2 => ?_) h120, c2, c3, c4⟩
      rcases (show j = 1 ∨ j = 2 ∨ j = 3 ∨ j = 4 ∨ j = 5 ∨ j = 6 ∨ j = 7 by omega) with rfl | rfl | rfl | rfl | rfl | rfl | rfl <;> exact F.row _ rfl
    · obtain ⟨s1, s2, s3, s4, s5⟩ := I.scal
      refine ⟨by rw [F.at 0 15 rfl, F.at 85 11 rfl]; exact s1, ?_, by rw [F.row 84 rfl, F.row 86 rfl]; exact s3, by rw [F.at 43 10 rfl, F.at 85 18 rfl]; exact s4, by rw [F.at 52 10 rfl, F.at 85 58 rfl]; exact s5⟩
      rw [setH_self, setH_o (by decide), setH_o (by decide), F5.at 0 16 rfl, setH_o (by decide), setH_self]
theorem op_back {x : Int} (hx : I32 x) : OpOK 154 163 0 [(0, x)] := by
  by_cases h : 0 ≤ x ∧ x ≤ 1
  · rcases (show x = 0 ∨ x = 1 by omega) with e | e
    · subst e; exact op_back_0
    · subst e; exact op_back_1
  · exact im_bad hx h (Or.inr ⟨rfl, rfl⟩)
theorem op_drawn {x y : Int} (hx : I32 x) (hy : I32 y) : OpOK 150 279 0 [(0, x), (0, y)] := by
  intro sc d sh sl h I
  have X := I.fx
  have X2 : Fix sh (setH h 85 0 0) := X.s (by decide +kernel)
  have IT := I.thrown
  have e119 : setH h 85 0 0 119 = h 119 := setH_o (by decide)
  obtain ⟨-, -, -, -, rg, -, -, -⟩ := I
  obtain ⟨n, m, hn10, hm3, r1, r2, r3, r4, RB⟩ : ∃ n m : Nat, n ≤ 10 ∧ m ≤ 3 ∧ h 76 4 = (n : Int) ∧ h 76 5 = (m : Int) ∧ (h 85 62 = n ∨ (h 85 62 = -1 ∧ n = 0)) ∧ (h 85 63 = m ∨ (h 85 63 = -1 ∧ m = 0)) ∧ ((n = 0 ∧ m = 0) ∨ (BR (h 78) (fun i => h 119 (i - 5)) n m ∧ BW (fun i => h 119 (i - 5)) n m)) := by
    rcases rg with ⟨a, b, c, e⟩ | ⟨n, m, ⟨q1, q2, q3, q4⟩, a, b, c, e, f, g⟩
    · exact ⟨0, 0, by omega, by omega, a, b, Or.inr ⟨c, rfl⟩, Or.inr ⟨e, rfl⟩, Or.inl ⟨rfl, rfl⟩⟩
    · exact ⟨n, m, q2, q4, a, c, Or.inl b, Or.inl e, Or.inr ⟨f, g⟩⟩
  have hno : ¬ ((y = 0 ∨ y = 1) ∧ 0 ≤ x ∧ x < n) → ¬ (y = 2 ∧ 0 ≤ x ∧ x < m) → WM sc (d + 100) 279 [(2, 85), (0, x), (0, y)] sh sl h (fun r2 sh2 sl2 h2 => ∃ v, ((0 : Nat), (-1 : Int)) = (0, v) ∧ r2 = (0, v) ∧ sh2.length ≤ sh.length + 9 ∧ sl2 ≤ sl + 900 ∧ INV sh2 h2) := by
    intro c1 c2
    rw [B_279_0 X, hy.w, sp_in hy.l ⟨by decide, by decide⟩ ⟨by decide, by decide⟩]
    simp only [pushR0]
    rw [B_279_14 X2]
    by_cases hy2 : 0 ≤ y ∧ y ≤ 2
    · rw [if_pos hy2, show w32 1 = 1 from rfl, if_neg (by decide), hy.w, hx.w, setH_k (by decide), setH_k (by decide), w32_id (a := h 85 63) (by omega) (by omega), w32_id (a := h 85 62) (by omega) (by omega)]
      by_cases h2 : 2 ≤ y
      · rw [if_pos h2, sp_in hx.l ⟨by decide, by decide⟩ ⟨by omega, by omega⟩, if_neg (by omega)]
        simp only [pushR0]
        rw [B_279_42 X2, w32_0, if_neg (by simp)]
        exact ⟨_, rfl, rfl, by omega, by omega, IT⟩
      · rw [if_neg h2, sp_in hx.l ⟨by decide, by decide⟩ ⟨by omega, by omega⟩, if_neg (by omega)]
        simp only [pushR0]
        rw [B_279_42 X2, w32_0, if_neg (by simp)]
        exact ⟨_, rfl, rfl, by omega, by omega, IT⟩
    · rw [if_neg hy2, w32_0, if_pos rfl]
      exact ⟨_, rfl, rfl, by omega, by omega, IT⟩
  have hgo : ∀ (Q2 : Pst) (k : Nat), x = k → ((y = 0 ∨ y = 1) ∧ k < n ∨ y = 2 ∧ k < m) → (if ¬ y = 0 then (if ¬ y = 1 then Q2 (0, h 119 (23 + k)) sh sl (setH h 85 0 0) else Q2 (0, h 119 (13 + k)) sh sl (setH h 85 0 0)) else (if ¬ w32 (h 119 (3 + k)) = 9 then Q2 (0, h 119 (3 + k)) sh sl (setH h 85 0 0) else Q2 (0, -1) sh sl (setH h 85 0 0))) → WM sc (d + 100) 279 [(2, 85), (0, x), (0, y)] sh sl h Q2 := by
    intro Q2 k hk hc hw
    subst hk
    rw [B_279_0 X, hy.w, sp_in hy.l ⟨by decide, by decide⟩ ⟨by decide, by decide⟩, if_pos (by omega)]
    simp only [pushR0]
    rw [B_279_14 X2, show w32 1 = 1 from rfl, if_neg (by decide), hy.w, hx.w, setH_k (by decide), setH_k (by decide), w32_id (a := h 85 63) (by omega) (by omega), w32_id (a := h 85 62) (by omega) (by omega)]
    have hfin : WF sc (d + 99 + 1) 279 42 [(2, 85), (0, (k : Int)), (0, y), (9, 0)] [(0, 1)] sh sl (setH h 85 0 0) Q2 := by
      rw [B_279_42 X2, show w32 1 = 1 from rfl, if_pos (by decide), hy.w, e119, w32_nat (a := 23 + (k : Int)) (n := 23 + k) (by omega) (by omega), w32_nat (a := 13 + (k : Int)) (n := 13 + k) (by omega) (by omega), w32_nat (a := 3 + (k : Int)) (n := 3 + k) (by omega) (by omega)]
      simp only [Int.toNat_natCast]
      by_cases h0 : y = 0
      · rw [if_neg (by simpa using h0)] at hw ⊢
        exact ⟨⟨by omega, by omega⟩, by rw [if_neg (by simpa using h0)]; exact hw⟩
      · rw [if_pos h0] at hw ⊢
        by_cases h1 : y = 1
        · rw [if_neg (by simpa using h1)] at hw ⊢
          exact ⟨⟨by omega, by omega⟩, by rw [if_pos h0]; exact hw⟩
        · rw [if_pos h1] at hw ⊢
          exact ⟨⟨by omega, by omega⟩, by rw [if_pos h0]; exact hw⟩
    by_cases h2 : 2 ≤ y
    · rw [if_pos h2, sp_in hx.l ⟨by decide, by decide⟩ ⟨by omega, by omega⟩, if_pos (by omega)]
      exact hfin
    · rw [if_neg h2, sp_in hx.l ⟨by decide, by decide⟩ ⟨by omega, by omega⟩, if_pos (by omega)]
      exact hfin
  have wn : Unit → w32 (n : Int) = n := fun _ => w32_id (by omega) (by omega)
  have wm : Unit → w32 (m : Int) = m := fun _ => w32_id (by omega) (by omega)
  rw [B_150_0 X, hx.w, hy.w, r1, wn ()]
  by_cases c0 : 0 ≤ x
  case neg => rw [if_neg c0]; exact hno (by omega) (by omega)
  rw [if_pos c0]
  obtain ⟨k, rfl⟩ : ∃ k : Nat, x = k := ⟨x.toNat, by omega⟩
  have h2 : y = 2 → k < m → WM sc (d + 99) 41 [(2, 77), (0, (k : Int))] sh sl h (fun r sh1 sl1 h1 => WF sc (d + 99 + 1) 150 88 [(2, 0), (0, (k : Int)), (0, y)] (pushR r []) sh1 sl1 h1 (fun r sh1 sl1 h1 => WM sc (d + 100) 279 [(2, 85), (0, (k : Int)), (0, y)] sh1 sl1 h1 (fun r2 sh2 sl2 h2 => ∃ v, r = (0, v) ∧ r2 = (0, v) ∧ sh2.length ≤ sh.length + 9 ∧ sl2 ≤ sl + 900 ∧ INV sh2 h2))) := by
    intro hy2 hk
    obtain ⟨R, B⟩ : BR (h 78) (fun i => h 119 (i - 5)) n m ∧ BW (fun i => h 119 (i - 5)) n m := by
      rcases RB with ⟨_, hm0⟩ | RB
      · omega
      · exact RB
    refine (bn_lateOf (b := 77) (c := 78) X.bdR (show k < 3 by omega)).mpr ?_
    simp only [pushR0]
    rw [B_150_88 X, (R.2.2.1 k hk).2]
    refine hgo _ k rfl (Or.inr ⟨hy2, hk⟩) ?_
    rw [if_pos (by omega), if_pos (by omega)]
    exact ⟨_, rfl, by show ((0 : Nat), h 119 (23 + k)) = (0, h 119 (28 + k - 5)); rw [show 28 + k - 5 = 23 + k by omega], by omega, by omega, IT⟩
  have h33 : ¬ (y = 0 ∧ k < n) → WF sc (d + 99 + 1) 150 33 [(2, 0), (0, (k : Int)), (0, y)] [] sh sl h (fun r sh1 sl1 h1 => WM sc (d + 100) 279 [(2, 85), (0, (k : Int)), (0, y)] sh1 sl1 h1 (fun r2 sh2 sl2 h2 => ∃ v, r = (0, v) ∧ r2 = (0, v) ∧ sh2.length ≤ sh.length + 9 ∧ sl2 ≤ sl + 900 ∧ INV sh2 h2)) := by
    intro hc
    rw [B_150_33 X, hx.w, hy.w, r1, r2, wn (), wm ()]
    by_cases h1 : y = 1
    · rw [if_neg (by simpa using h1)]
      by_cases hk : k < n
      · rw [if_neg (by omega)]
        obtain ⟨R, B⟩ : BR (h 78) (fun i => h 119 (i - 5)) n m ∧ BW (fun i => h 119 (i - 5)) n m := by
          rcases RB with ⟨hn0, _⟩ | RB
          · omega
          · exact RB
        refine (bn_glueOf (b := 77) (c := 78) X.bdR (show k < 10 by omega)).mpr ?_
        simp only [pushR0]
        rw [B_150_60 X, (R.2.1 k hk).1]
        refine hgo _ k rfl (Or.inl ⟨Or.inr h1, hk⟩) ?_
        rw [if_pos (by omega), if_neg (by simpa using h1)]
        exact ⟨_, rfl, by show ((0 : Nat), h 119 (13 + k)) = (0, h 119 (18 + k - 5)); rw [show 18 + k - 5 = 13 + k by omega], by omega, by omega, IT⟩
      · rw [if_pos (by omega), if_pos (by omega)]; exact hno (by omega) (by omega)
    · rw [if_pos h1]
      by_cases hy2 : y = 2
      · rw [if_neg (by simpa using hy2)]
        by_cases hk : k < m
        · rw [if_neg (by omega)]; exact h2 hy2 hk
        · rw [if_pos (by omega)]; exact hno (by omega) (by omega)
      · rw [if_pos hy2]; exact hno (by omega) (by omega)
  by_cases h0 : y = 0
  · rw [if_neg (by simpa using h0)]
    by_cases hk : k < n
    · rw [if_neg (by omega)]
      obtain ⟨R, B⟩ : BR (h 78) (fun i => h 119 (i - 5)) n m ∧ BW (fun i => h 119 (i - 5)) n m := by
        rcases RB with ⟨hn0, _⟩ | RB
        · omega
        · exact RB
      have r := (R.2.1 k hk).2
      have bb := (B.2.1 k hk).2
      have e1 : ((11 : Int) + k).toNat = 11 + k := by omega
      simp only [show 8 + k - 5 = 3 + k by omega] at r bb
      refine (sp_letterOf (b := 77) (c := 78) X.bdR ⟨by omega, by omega⟩ ?_).mpr ?_
      · rw [show (78 : Int).toNat = 78 from rfl, e1, r]; split <;> omega
      · simp only [pushR0]
        rw [B_150_32 X, show (78 : Int).toNat = 78 from rfl, e1, r]
        refine hgo _ k rfl (Or.inl ⟨Or.inl h0, hk⟩) ?_
        rw [if_neg (by simpa using h0), w32_id (a := h 119 (3 + k)) (by omega) (by omega)]
        by_cases h9 : h 119 (3 + k) = 9
        · rw [if_neg (by simpa using h9), if_pos h9, if_pos (by decide)]
          exact ⟨_, rfl, rfl, by omega, by omega, IT⟩
        · rw [if_pos h9, if_neg h9, if_neg (by omega)]
          exact ⟨_, rfl, rfl, by omega, by omega, IT⟩
    · rw [if_pos (by omega)]; exact h33 (by omega)
  · rw [if_pos h0]; exact h33 (by omega)
