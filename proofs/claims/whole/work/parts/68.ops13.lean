/-! ===== stick, peel, cancel, pass, undo ===== -/
theorem op_stick {x y : Int} (hx : I32 x) (hy : I32 y) : OpOK 103 223 0 [(0, x), (0, y)] := by
  intro sc d sh sl h I
  have X := I.fx
  obtain ⟨n, m, L, Lv, Hs⟩ := I.live
  obtain ⟨a, k, ea, ha17, ek, hk16⟩ := Hs.ak
  have D : Dok (h 87) n m (stickA (h 87) L n m x y) := stick_ok Lv.2.2.1 Lv.2.2.2
  rw [B_103_0 X]
  refine sp_act (A := stickA (h 87) L n m x y) hx hy (Lv.cj X) ea ha17 ek hk16 (Or.inl ⟨rfl, rfl⟩) D.1 (fun h1 F1 r s1 s2 kp => ?_)
  have X1 : Fix sh h1 := F1.fix X (by decide +kernel)
  have D1 := D.1
  simp only [pushR0]
  rw [B_103_11 X1, sp_ansT X1 (by omega)]
  have X2 : Fix sh (cTell h1 (stickA (h 87) L n m x y).1) := cTell_fr.fix X1 (by decide +kernel)
  have X3 : Fix sh (setH (cTell h1 (stickA (h 87) L n m x y).1) 85 0 0) := X2.s (by decide +kernel)
  have F3 : Fr [10, 45, 46, 48, 49, 51, 81, 82, 84] [(44, 2), (44, 3), (0, 16), (85, 0)] h (setH (cTell h1 (stickA (h 87) L n m x y).1) 85 0 0) := ((F1.mono rfl).trans (cTell_fr.mono rfl)).set rfl
  simp only [pushR0]
  rw [B_103_14 X2, B_223_0 X2]
  have M3 : MJ sh (setH (cTell h1 (stickA (h 87) L n m x y).1) 85 0 0) (h 87) n m L := (Lv.mj X I.od).of F3 (by decide +kernel) (by decide +kernel)
  refine sp_stickNow (k := k) hx hy M3 (by rw [F3.at 85 8 rfl, Hs.1]; exact ek) hk16 (fun h4 F4 e87 rm => ?_)
  have X4 : Fix sh h4 := F4.fix X3 (by decide +kernel)
  simp only [pushR0]
  rw [B_223_12 X4, sp_telT X4 (by omega)]
  simp only [pushR0]
  rw [B_223_15 (mTell_fr.fix X4 (by decide +kernel))]
  exact ⟨_, rfl, rfl, by omega, by omega, deed_inv I Lv Hs ea ek D ⟨by decide, by decide⟩ F1 r s1 s2 kp F4 e87 rm⟩
theorem op_peel {y : Int} (hy : I32 y) : OpOK 104 229 0 [(0, y)] := by
  intro sc d sh sl h I
  have X := I.fx
  obtain ⟨n, m, L, Lv, Hs⟩ := I.live
  obtain ⟨a, k, ea, ha17, ek, hk16⟩ := Hs.ak
  have D : Dok (h 87) n m (peelA (h 87) m y) := peel_ok Lv.2.2.1 Lv.2.2.2
  rw [B_104_0 X]
  refine sp_act (A := peelA (h 87) m y) hy ⟨by decide, by decide⟩ (Lv.cj X) ea ha17 ek hk16 (Or.inr (Or.inl ⟨rfl, rfl⟩)) D.1 (fun h1 F1 r s1 s2 kp => ?_)
  have X1 : Fix sh h1 := F1.fix X (by decide +kernel)
  have D1 := D.1
  simp only [pushR0]
  rw [B_104_11 X1, sp_ansT X1 (by omega)]
  have X2 : Fix sh (cTell h1 (peelA (h 87) m y).1) := cTell_fr.fix X1 (by decide +kernel)
  have X3 : Fix sh (setH (cTell h1 (peelA (h 87) m y).1) 85 0 0) := X2.s (by decide +kernel)
  have F3 : Fr [10, 45, 46, 48, 49, 51, 81, 82, 84] [(44, 2), (44, 3), (0, 16), (85, 0)] h (setH (cTell h1 (peelA (h 87) m y).1) 85 0 0) := ((F1.mono rfl).trans (cTell_fr.mono rfl)).set rfl
  simp only [pushR0]
  rw [B_104_14 X2, B_229_0 X2]
  have M3 : MJ sh (setH (cTell h1 (peelA (h 87) m y).1) 85 0 0) (h 87) n m L := (Lv.mj X I.od).of F3 (by decide +kernel) (by decide +kernel)
  refine sp_peelNow (k := k) hy M3 (by rw [F3.at 85 8 rfl, Hs.1]; exact ek) hk16 (fun h4 F4 e87 rm => ?_)
  have X4 : Fix sh h4 := F4.fix X3 (by decide +kernel)
  simp only [pushR0]
  rw [B_229_11 X4, sp_telT X4 (by omega)]
  simp only [pushR0]
  rw [B_229_14 (mTell_fr.fix X4 (by decide +kernel))]
  exact ⟨_, rfl, rfl, by omega, by omega, deed_inv I Lv Hs ea ek D ⟨by decide, by decide⟩ F1 r s1 s2 kp F4 e87 rm⟩
theorem op_cancel {y : Int} (hy : I32 y) : OpOK 105 232 0 [(0, y)] := by
  intro sc d sh sl h I
  have X := I.fx
  obtain ⟨n, m, L, Lv, Hs⟩ := I.live
  obtain ⟨a, k, ea, ha17, ek, hk16⟩ := Hs.ak
  have D : Dok (h 87) n m (cancelA (h 87) L m y) := cancel_ok Lv.2.2.1 Lv.2.2.2
  rw [B_105_0 X]
  refine sp_act (A := cancelA (h 87) L m y) hy ⟨by decide, by decide⟩ (Lv.cj X) ea ha17 ek hk16 (Or.inr (Or.inr (Or.inl ⟨rfl, rfl⟩))) D.1 (fun h1 F1 r s1 s2 kp => ?_)
  have X1 : Fix sh h1 := F1.fix X (by decide +kernel)
  have D1 := D.1
  simp only [pushR0]
  rw [B_105_11 X1, sp_ansT X1 (by omega)]
  have X2 : Fix sh (cTell h1 (cancelA (h 87) L m y).1) := cTell_fr.fix X1 (by decide +kernel)
  have X3 : Fix sh (setH (cTell h1 (cancelA (h 87) L m y).1) 85 0 0) := X2.s (by decide +kernel)
  have F3 : Fr [10, 45, 46, 48, 49, 51, 81, 82, 84] [(44, 2), (44, 3), (0, 16), (85, 0)] h (setH (cTell h1 (cancelA (h 87) L m y).1) 85 0 0) := ((F1.mono rfl).trans (cTell_fr.mono rfl)).set rfl
  simp only [pushR0]
  rw [B_105_14 X2, B_232_0 X2]
  have M3 : MJ sh (setH (cTell h1 (cancelA (h 87) L m y).1) 85 0 0) (h 87) n m L := (Lv.mj X I.od).of F3 (by decide +kernel) (by decide +kernel)
  refine sp_cancelNow (k := k) hy M3 (by rw [F3.at 85 8 rfl, Hs.1]; exact ek) hk16 (fun h4 F4 e87 rm => ?_)
  have X4 : Fix sh h4 := F4.fix X3 (by decide +kernel)
  simp only [pushR0]
  rw [B_232_11 X4, sp_telT X4 (by omega)]
  simp only [pushR0]
  rw [B_232_14 (mTell_fr.fix X4 (by decide +kernel))]
  exact ⟨_, rfl, rfl, by omega, by omega, deed_inv I Lv Hs ea ek D ⟨by decide, by decide⟩ F1 r s1 s2 kp F4 e87 rm⟩
theorem op_pass : OpOK 106 236 0 [] := by
  intro sc d sh sl h I
  have X := I.fx
  obtain ⟨n, m, L, Lv, Hs⟩ := I.live
  obtain ⟨a, k, ea, ha17, ek, hk16⟩ := Hs.ak
  have D : Dok (h 87) n m (passA (h 87) L n m) := pass_ok Lv.2.2.1 Lv.2.2.2
  rw [B_106_0 X]
  refine sp_act (A := passA (h 87) L n m) ⟨by decide, by decide⟩ ⟨by decide, by decide⟩ (Lv.cj X) ea ha17 ek hk16 (Or.inr (Or.inr (Or.inr ⟨rfl, rfl⟩))) D.1 (fun h1 F1 r s1 s2 kp => ?_)
  have X1 : Fix sh h1 := F1.fix X (by decide +kernel)
  have D1 := D.1
  simp only [pushR0]
  rw [B_106_11 X1, sp_ansT X1 (by omega)]
  have X2 : Fix sh (cTell h1 (passA (h 87) L n m).1) := cTell_fr.fix X1 (by decide +kernel)
  have X3 : Fix sh (setH (cTell h1 (passA (h 87) L n m).1) 85 0 0) := X2.s (by decide +kernel)
  have F3 : Fr [10, 45, 46, 48, 49, 51, 81, 82, 84] [(44, 2), (44, 3), (0, 16), (85, 0)] h (setH (cTell h1 (passA (h 87) L n m).1) 85 0 0) := ((F1.mono rfl).trans (cTell_fr.mono rfl)).set rfl
  simp only [pushR0]
  rw [B_106_14 X2, B_236_0 X2]
  have M3 : MJ sh (setH (cTell h1 (passA (h 87) L n m).1) 85 0 0) (h 87) n m L := (Lv.mj X I.od).of F3 (by decide +kernel) (by decide +kernel)
  refine sp_passNow (k := k) M3 (by rw [F3.at 85 8 rfl, Hs.1]; exact ek) hk16 (fun h4 F4 e87 rm => ?_)
  have X4 : Fix sh h4 := F4.fix X3 (by decide +kernel)
  simp only [pushR0]
  rw [B_236_10 X4, sp_telT X4 (by omega)]
  simp only [pushR0]
  rw [B_236_13 (mTell_fr.fix X4 (by decide +kernel))]
  exact ⟨_, rfl, rfl, by omega, by omega, deed_inv I Lv Hs ea ek D ⟨by decide, by decide⟩ F1 r s1 s2 kp F4 e87 rm⟩
section UNDO
variable {sc : Nat × (Nat → Int)} {d : Nat} {sh : Shp} {sl : Nat} {h : Sto} {Q : Pst}
theorem sp_takeBack {a b c : Nat} (X : Fix sh h) (ea : h 44 2 = (a : Int)) (ha17 : a < 17) (ek : h 44 3 = (c : Int) + 1) (hc : c < 16) (hb : b = (a + 16) % 17) (hq : ∀ h1, Fr [10] [(44, 2), (44, 3)] h h1 → h1 44 2 = (b : Int) → h1 44 3 = (c : Int) → (∀ i, i < 42 → h1 10 i = h 45 (42 * b + i)) → Q (0, h 46 b) sh sl h1) : WM sc (d + 1) 108 [(2, 44), (2, 9)] sh sl h Q := by
  have hb17 : b < 17 := by omega
  have w : w32 ((c : Int) + 1) = (c : Int) + 1 := w32_id (by omega) (by omega)
  by_cases a0 : a = 0
  · have b16 : b = 16 := by omega
    subst a0 b16
    rw [B_108_0 X, ea, ek, w, if_pos (by omega), show w32 ((0 : Nat) : Int) = 0 from rfl, if_pos (by omega)]
    refine hq _ ((((Fr.refl h).set rfl).set rfl).rowP rfl) ?_ ?_ (fun i hi => ?_)
    · rw [rowH_o (by decide), setH_self]; rfl
    · rw [rowH_o (by decide), setH_k (by decide), setH_self]; omega
    · rw [rowH_s, pk_cpy_in (by omega) (by omega)]; rfl
  · rw [B_108_0 X, ea, ek, w, if_pos (by omega), w32_id (a := (a : Int)) (by omega) (by omega), if_neg (by omega), w32_nat (a := ((a : Int) - 1) * 42) (n := 42 * b) (by omega) (by omega), w32_nat (a := (a : Int) - 1) (n := b) (by omega) (by omega), Int.toNat_natCast, Int.toNat_natCast]
    refine ⟨⟨⟨by omega, by omega, by omega⟩, by omega, by omega⟩, ⟨by omega, by omega⟩, hq _ ((((Fr.refl h).set rfl).set rfl).rowP rfl) ?_ ?_ (fun i hi => ?_)⟩
    · rw [rowH_o (by decide), setH_self]; omega
    · rw [rowH_o (by decide), setH_k (by decide), setH_self]; omega
    · rw [rowH_s, pk_cpy_in (by omega) (by omega)]; rfl
end UNDO
theorem op_undo : OpOK 107 158 0 [] := by
  intro sc d sh sl h I
  have X := I.fx
  obtain ⟨n, m, L, Lv, Hs⟩ := I.live
  obtain ⟨S, R, W, B⟩ := Lv
  obtain ⟨q1, a, k, ea, ha17, ek, hk16, hh⟩ := Hs
  have hn10 := W.1.2.1
  have hm3 := W.1.2.2.2.1
  rw [B_107_0 X]
  by_cases k0 : k = 0
  · have w : w32 (h 44 3) = 0 := by rw [ek, k0]; rfl
    rw [B_108_0 X, if_neg (by rw [w]; simp)]
    have X2 : Fix sh (cTell h (-3)) := cTell_fr.fix X (by decide +kernel)
    simp only [pushR0]
    rw [B_107_15 X, sp_ansT X (by omega)]
    simp only [pushR0]
    rw [B_107_18 X2, B_158_0 X2, cTell_fr.at 85 8 rfl, q1, if_neg (by rw [w]; simp)]
    have X3 : Fix sh (setH (cTell h (-3)) 85 0 0) := X2.s (by decide +kernel)
    rw [sp_telT X3 (by omega)]
    simp only [pushR0]
    rw [B_158_18 (mTell_fr.fix X3 (by decide +kernel))]
    exact ⟨_, rfl, rfl, by omega, by omega, I.ref (by omega)⟩
  obtain ⟨c, rfl⟩ : ∃ c, k = c + 1 := ⟨k - 1, by omega⟩
  have hc := hh c (by omega)
  obtain ⟨b, hb⟩ : ∃ b : Nat, b = (a + 16) % 17 := ⟨(a + 16) % 17, Eq.refl _⟩
  have hb17 : b < 17 := by omega
  have eb : (a + 17 - (c + 1 - c)) % 17 = b := by omega
  rw [eb] at hc
  obtain ⟨c1, c2, c3, c4, c5, c6, c7⟩ := hc
  refine sp_takeBack (a := a) (b := b) (c := c) X ea ha17 (by omega) (by omega) hb (fun h1 F1 e2 e3 e10 => ?_)
  have X1 : Fix sh h1 := F1.fix X (by decide +kernel)
  have vb : -6 ≤ h 46 b ∧ h 46 b ≤ 2147483647 := by omega
  simp only [pushR0]
  rw [B_107_15 X1, sp_ansT X1 vb]
  have X2 : Fix sh (cTell h1 (h 46 b)) := cTell_fr.fix X1 (by decide +kernel)
  have Fc := cTell_fr (h := h1) (x := h 46 b)
  simp only [pushR0]
  have e8 : cTell h1 (h 46 b) 85 8 = ((c + 1 : Nat) : Int) := by rw [Fc.at 85 8 rfl, F1.at 85 8 rfl, q1, ek]
  rw [B_107_18 X2, B_158_0 X2, e8, w32_id (a := ((c + 1 : Nat) : Int)) (by omega) (by omega), if_pos (by omega)]
  have X3 : Fix sh (setH (setH (cTell h1 (h 46 b)) 85 0 0) 85 8 (((c + 1 : Nat) : Int) - 1)) := (X2.s (by decide +kernel)).s (by decide +kernel)
  have F3 : Fr [10, 84] [(44, 2), (44, 3), (0, 16), (85, 0), (85, 8)] h (setH (setH (cTell h1 (h 46 b)) 85 0 0) 85 8 (((c + 1 : Nat) : Int) - 1)) := (((F1.mono rfl).trans (Fc.mono rfl)).set rfl).set rfl
  have F3c : Fr [84] [(0, 16), (85, 0), (85, 8)] h1 (setH (setH (cTell h1 (h 46 b)) 85 0 0) 85 8 (((c + 1 : Nat) : Int) - 1)) := ((Fc.mono rfl).set rfl).set rfl
  have e83 : setH (setH (cTell h1 (h 46 b)) 85 0 0) 85 8 (((c + 1 : Nat) : Int) - 1) 85 8 = (c : Int) := by rw [setH_self]; omega
  have e016 : setH (setH (cTell h1 (h 46 b)) 85 0 0) 85 8 (((c + 1 : Nat) : Int) - 1) 0 16 = cTell h1 (h 46 b) 0 16 := by rw [setH_o (by decide), setH_o (by decide)]
  have e84 : setH (setH (cTell h1 (h 46 b)) 85 0 0) 85 8 (((c + 1 : Nat) : Int) - 1) 84 = cTell h1 (h 46 b) 84 := by rw [setH_o (by decide), setH_o (by decide)]
  generalize setH (setH (cTell h1 (h 46 b)) 85 0 0) 85 8 (((c + 1 : Nat) : Int) - 1) = h3 at X3 F3 F3c e83 e016 e84 ⊢
  refine sp_putBack (k := c) X3 (by omega) (by omega) (fun h4 F4 g1 g2 => ?_)
  have X4 : Fix sh h4 := F4.fix X3 (by decide +kernel)
  simp only [pushR9]
  rw [B_158_37 X4, F4.at 85 8 rfl, e83, w32_id (a := (c : Int)) (by omega) (by omega), Int.toNat_natCast, F4.row 91 rfl, F3.row 91 rfl, ← c5, sp_telT X4 vb]
  refine ⟨⟨by omega, by omega⟩, ?_⟩
  simp only [pushR0]
  have Fm := mTell_fr (h := h4) (x := h 46 b)
  rw [B_158_50 (Fm.fix X4 (by decide +kernel))]
  refine ⟨_, rfl, rfl, by omega, by omega, ?_⟩
  have F : Fr [10, 84, 86, 87] [(44, 2), (44, 3), (0, 16), (85, 0), (85, 8), (85, 1)] h (mTell h4 (h 46 b)) := ((F3.mono rfl).trans (F4.mono rfl)).trans (Fm.mono rfl)
  have h120 : ∀ q, 120 ≤ q → mTell h4 (h 46 b) q = h q := (F.cg (R := []) (C := []) (by decide +kernel)).2.2
  -- the row behind it
  have n1 : ∀ i, 5 ≤ i → i < 49 → mTell h4 (h 46 b) 87 i = h 90 (44 * c + i - 5) := fun i i1 i2 => by
    have := g1 (i - 5) (by omega)
    rw [show 5 + (i - 5) = i by omega] at this
    rw [Fm.row 87 rfl, this, F3.row 90 rfl]; congr 1; omega
  have n2 : ∀ i, (i < 5 ∨ i = 6 ∨ i = 7 ∨ 49 ≤ i) → mTell h4 (h 46 b) 87 i = h 87 i := fun i hi => by
    by_cases h6 : i = 6
    · subst h6; rw [n1 6 (by omega) (by omega)]; exact c3
    by_cases h7 : i = 7
    · subst h7; rw [n1 7 (by omega) (by omega)]; exact c4
    rw [Fm.row 87 rfl, g2 i (by omega), F3.row 87 rfl]
  refine I.upd F (by decide +kernel) (by decide +kernel) ⟨n, m, L, ⟨?_, ?_, ?_, ?_⟩, ?_⟩ (I.tape.cg (F.cg (by decide +kernel))) ?_ (by rw [F.at 85 20 rfl]; exact I.od)
  · refine (S.of (F.row 1 rfl) (fun j j1 j2 => ?_) h120).ofG (fun i hi => n2 i (by omega))
    rcases (show j = 1 ∨ j = 2 ∨ j = 3 ∨ j = 4 ∨ j = 5 ∨ j = 6 ∨ j = 7 by omega) with rfl | rfl | rfl | rfl | rfl | rfl | rfl <;> exact F.row _ rfl
  · refine c1.of c2 hn10 hm3 (fun i hi => ?_) n1
    rw [Fm.row 10 rfl, F4.row 10 rfl, F3c.row 10 rfl]; exact e10 i hi
  · exact W.of n2
  · exact c2.of hn10 hm3 n1
  · unfold Hist
    rw [n2 6 (by omega), n2 7 (by omega), Fm.at 85 8 rfl, F4.at 85 8 rfl, e83, F.row 45 rfl, F.row 46 rfl, F.row 90 rfl, F.row 91 rfl, Fm.at 44 2 rfl, F4.at 44 2 rfl, F3c.at 44 2 rfl, e2, Fm.at 44 3 rfl, F4.at 44 3 rfl, F3c.at 44 3 rfl, e3]
    refine ⟨rfl, b, c, rfl, hb17, rfl, by omega, fun j hj => ?_⟩
    have es : (b + 17 - (c - j)) % 17 = (a + 17 - (c + 1 - j)) % 17 := by omega
    rw [es]
    exact hh j (by omega)
  · obtain ⟨t1, t2, t3, t4, t5⟩ := I.scal
    refine Scal.tell (h := h) (h1 := h1) (by omega) I.scal (F1.row 84 rfl) (by rw [F4.row 86 rfl, F3.row 86 rfl]) ?_ ?_ ?_ ?_ ?_
    · rw [F4.at 0 16 rfl]; exact e016
    · rw [F4.row 84 rfl]; exact e84
    · rw [F4.at 0 15 rfl, F3.at 0 15 rfl, F4.at 85 11 rfl, F3.at 85 11 rfl]; exact t1
    · rw [F4.at 43 10 rfl, F3.at 43 10 rfl, F4.at 85 18 rfl, F3.at 85 18 rfl]; exact t4
    · rw [F4.at 52 10 rfl, F3.at 52 10 rfl, F4.at 85 58 rfl, F3.at 85 58 rfl]; exact t5
