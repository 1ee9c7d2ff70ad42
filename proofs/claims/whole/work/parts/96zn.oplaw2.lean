abbrev LaS : List (Nat × Nat) := [(43, 4), (43, 5), (43, 6), (43, 7), (43, 8), (43, 10), (34, 1), (34, 0), (43, 2), (43, 9), (0, 14), (43, 3)]
theorem op_law : OpOK 54 194 0 [] := by
  intro sc d sh sl h I
  have X := I.fx
  obtain ⟨n, m, L, LV, HI⟩ := I.live
  obtain ⟨t, t1, t2, t3, t4⟩ := I.tape
  obtain ⟨s1, s2, s3, s4, s5⟩ := I.scal
  obtain ⟨k, hk⟩ : ∃ k, L.length = k := ⟨_, rfl⟩
  have b11 : h 1 11 = (k : Int) := by rw [← hk]; exact LV.1.1.2.2.2.2.2.1
  have w3 : h 87 3 = (k : Int) := by rw [← hk]; exact LV.2.2.1.1.2.2.2.2.2.1
  have k6 : k ≤ 6 := by rw [← hk]; exact LV.2.2.1.1.2.2.2.2.2.2.1
  by_cases full : k = 6
  · subst full
    exact op_law_full I (by rw [b11]; rfl) (by rw [w3]; rfl)
  have X1 : Fix sh (setH h 0 14 0) := X.s (by decide +kernel)
  have X2 : Fix sh (setH (setH h 0 14 0) 43 3 0) := X1.s (by decide +kernel)
  rw [B_54_0 X, b11, w32_id (a := (k : Int)) (by omega) (by omega), if_pos (by omega), t1, B_55_0 X1]
  refine cText (od := false) (F := 8) (T := h 94) ⟨fun q => (by cases q), by omega⟩ (by omega) X2 ⟨t3, fun i hi => ⟨⟨(t4 i hi).1, (t4 i hi).2.1⟩, by rw [setH_o (by decide), setH_o (by decide)]; exact (t4 i hi).2.2⟩⟩ (by rw [setH_self]; rfl) (fun h2 q e F2 g2 => ?_) (fun h2 Lx c e F2 g10 hl hc e0 e1 kb hcl => ?_)
  · have FA : Fr TxP LaS h h2 := (((Fr.refl h).set rfl).set rfl).trans (F2.mono rfl)
    have X3 : Fix sh h2 := FA.fix X (by decide +kernel)
    have Fc := cTell_fr (h := h2) (x := -6)
    have X4 : Fix sh (cTell h2 (-6)) := Fc.fix X3 (by decide +kernel)
    simp only [pushR0]
    rw [B_55_10 X3 (Or.inl rfl)]
    simp only [pushR0]
    rw [B_54_37 X3, w32_0, if_neg (by simp), sp_refT X3 (by decide)]
    simp only [pushR0]
    rw [B_54_46 X4]
    refine law_ref (T := h 94) (t := t) (k := k) X4 (by rw [Fc.row 87 rfl, FA.row 87 rfl]; exact w3) (by omega) ⟨t3, fun i hi => ⟨⟨(t4 i hi).1, (t4 i hi).2.1⟩, by rw [Fc.row 94 rfl, FA.row 94 rfl]⟩⟩ (by rw [Fc.at 85 13 rfl, FA.at 85 13 rfl]; exact t2) (fun h5 q' e' F5 j1 j2 j3 j4 => ?_) (fun h5 Lx c e' => by rw [e] at e'; cases e')
    rw [e] at e'
    cases e'
    have FT : Fr LwP LwS h h5 := (((FA.mono rfl).trans (Fc.mono rfl)).set rfl).trans (F5.mono rfl)
    refine ⟨-6, rfl, rfl, by omega, by omega, law_txt (h1 := h2) I (by decide) (FT.trans (mTell_fr.mono rfl)) ?_ j4 j3 (FA.row 84 rfl) ?_ ?_ ?_ ?_ ?_ ?_⟩
    · rw [F5.at 0 14 rfl, setH_o (by decide), Fc.at 0 14 rfl, F2.at 0 14 rfl, setH_o (by decide), setH_self]
    · rw [F5.row 86 rfl, setH_o (by decide), Fc.row 86 rfl, FA.row 86 rfl]
    · rw [F5.at 0 16 rfl, setH_o (by decide)]
    · rw [F5.row 84 rfl, setH_o (by decide)]
    · rw [FT.at 0 15 rfl, FT.at 85 11 rfl]; exact s1
    · rw [F5.at 43 10 rfl, setH_o (by decide), Fc.at 43 10 rfl, g2, j2]
    · rw [FT.at 52 10 rfl, FT.at 85 58 rfl]; exact s5
  · have FA : Fr TxP LaS h h2 := (((Fr.refl h).set rfl).set rfl).trans (F2.mono rfl)
    have X3 : Fix sh h2 := FA.fix X (by decide +kernel)
    simp only [pushR0]
    rw [B_55_10 X3 (Or.inr rfl)]
    simp only [pushR0]
    rw [B_54_37 X3, show w32 1 = 1 from rfl, if_pos (by decide)]
    refine sp_trim X3 e0 hl e1 hc (fun sh2 sl2 h3 hs hln hsl s0 s1' C => ?_)
    obtain ⟨X4, h120⟩ := X3.ext hs C.1
    simp only [pushR2]
    rw [B_54_59 X4]
    refine sp_addLaw (k := k) (N := sh.length) X4 (by rw [C.1 1 (by omega), FA.at 1 11 rfl]; exact b11) (by omega) s0 ?_
    obtain ⟨h4, hh4⟩ : ∃ h4, setH (setH h3 8 k (sh.length : Int)) 1 11 ((k : Int) + 1) = h4 := ⟨_, rfl⟩
    rw [hh4]
    have F4 : Fr [8] [(1, 11)] h3 h4 := by rw [← hh4]; exact ((Fr.refl h3).setP rfl).set rfl
    have X5 : Fix sh2 h4 := F4.fix X4 (by decide +kernel)
    have Fc := cTell_fr (h := h4) (x := (k : Int))
    have X6 : Fix sh2 (cTell h4 (k : Int)) := Fc.fix X5 (by decide +kernel)
    simp only [pushR0]
    rw [B_54_62 X5, sp_graT X5 (by omega)]
    simp only [pushR0]
    rw [B_54_65 X6]
    refine law_ref (T := h 94) (t := t) (k := k) X6 (by rw [Fc.row 87 rfl, F4.row 87 rfl, C.1 87 (by omega), FA.row 87 rfl]; exact w3) (by omega) ⟨t3, fun i hi => ⟨⟨(t4 i hi).1, (t4 i hi).2.1⟩, by rw [Fc.row 94 rfl, F4.row 94 rfl, C.1 94 (by omega), FA.row 94 rfl]⟩⟩ (by rw [Fc.at 85 13 rfl, F4.at 85 13 rfl, C.1 85 (by omega), FA.at 85 13 rfl]; exact t2) (fun h7 q' e' => by rw [e] at e'; cases e') (fun h7 Ly c' e' F7 j19 j18 jl jc j21 j23 jkb jcl j20 j13 => ?_)
    have eL : Lx = Ly := by rw [e] at e'; cases e'; rfl
    subst eL
    have F67 : Fr LnP LnS (cTell h4 (k : Int)) h7 := ((Fr.refl _).set (p := 85) (k := 0) (v := 0) rfl).trans (F7.mono rfl)
    have X7 : Fix sh2 h7 := F67.fix X6 (by decide +kernel)
    have r87 : h7 87 = h 87 := by rw [F7.row 87 rfl, setH_o (by decide), Fc.row 87 rfl, F4.row 87 rfl, C.1 87 (by omega), FA.row 87 rfl]
    refine m194c (d := d + 86 + 13) (k := k) X7 (by rw [r87]; exact w3) (by omega) j19 j21 jl j23 jc (fun h8 F8 m1 m2 m3 m4 m5 => ?_)
    have Fm := mTell_fr (h := h8) (x := (k : Int))
    have FB : Fr LnP LnS h3 (mTell h8 (k : Int)) := ((((F4.mono rfl).trans (Fc.mono rfl)).trans F67).trans (F8.mono rfl)).trans (Fm.mono rfl)
    have FL : Fr LnP LnS h h2 := FA.mono rfl
    refine ⟨(k : Int), rfl, rfl, by omega, by omega, law_inv I LV HI hk (by omega) hs h120 (fun q j hP hS => ?_) (fun j hj => ?_) ?_ ?_ s0 ?_ ?_ (lawOf_ok hl (txR_good 12 0 0 [] Lx (by omega) (by omega) (fun cl hm => by cases hm) e)) (fun j h1 h3 => ?_) ?_ ?_ ?_ ?_ ?_ ?_⟩
    · show (if q < sh.length then mTell h8 (k : Int) q else h q) j = h q j
      by_cases hq : q < sh.length
      · rw [if_pos hq, FB q j hP hS, C.1 q hq, FL q j hP hS]
      · rw [if_neg hq]
    · rw [Fm.row 8 rfl, F8.row 8 rfl, F7.row 8 rfl, setH_o (by decide), Fc.row 8 rfl, ← hh4, setH_o (by decide), setH_k hj, C.1 8 (by omega), FA.row 8 rfl]
    · rw [Fm.row 8 rfl, F8.row 8 rfl, F7.row 8 rfl, setH_o (by decide), Fc.row 8 rfl, ← hh4, setH_o (by decide), setH_self]
    · rw [Fm.at 1 11 rfl, F8.at 1 11 rfl, F7.at 1 11 rfl, setH_o (by decide), Fc.at 1 11 rfl, ← hh4, setH_self]; omega
    · have lc := lawC_new hl hc h120 hln s0 s1' C kb e1 hcl
      refine lc.of (fun q hq => ?_)
      funext j
      exact FB q j (fun hm => by simp at hm; omega) (fun hm => by simp at hm; omega)
    · rw [Fm.row 87 rfl]
      exact lawM_new jc j23 jkb m3 m4 m5 jcl
    · rw [Fm.row 87 rfl, m1 j h1 h3, r87]
    · rw [Fm.row 87 rfl]; exact m2
    · rw [Fm.at 0 14 rfl, F8.at 0 14 rfl, F7.at 0 14 rfl, setH_o (by decide), Fc.at 0 14 rfl, F4.at 0 14 rfl, C.1 0 (by omega), F2.at 0 14 rfl, setH_o (by decide), setH_self]
    · rw [Fm.at 85 13 rfl, F8.at 85 13 rfl]; exact j13
    · rw [Fm.at 85 20 rfl, F8.at 85 20 rfl]; exact j20
    · refine Scal.tell (h := h) (h1 := h4) (by omega) I.scal ?_ ?_ ?_ ?_ ?_ ?_ ?_
      · rw [F4.row 84 rfl, C.1 84 (by omega), FA.row 84 rfl]
      · rw [F8.row 86 rfl, F7.row 86 rfl, setH_o (by decide), Fc.row 86 rfl, F4.row 86 rfl, C.1 86 (by omega), FA.row 86 rfl]
      · rw [F8.at 0 16 rfl, F7.at 0 16 rfl, setH_o (by decide)]
      · rw [F8.row 84 rfl, F7.row 84 rfl, setH_o (by decide)]
      · rw [F8.at 0 15 rfl, F7.at 0 15 rfl, setH_o (by decide), Fc.at 0 15 rfl, F4.at 0 15 rfl, C.1 0 (by omega), FA.at 0 15 rfl, F8.at 85 11 rfl, F7.at 85 11 rfl, setH_k (by decide), Fc.at 85 11 rfl, F4.at 85 11 rfl, C.1 85 (by omega), FA.at 85 11 rfl]; exact s1
      · rw [F8.at 43 10 rfl, F7.at 43 10 rfl, setH_o (by decide), Fc.at 43 10 rfl, F4.at 43 10 rfl, C.1 43 (by omega), g10, F8.at 85 18 rfl, j18]
      · rw [F8.at 52 10 rfl, F7.at 52 10 rfl, setH_o (by decide), Fc.at 52 10 rfl, F4.at 52 10 rfl, C.1 52 (by omega), FA.at 52 10 rfl, F8.at 85 58 rfl, F7.at 85 58 rfl, setH_k (by decide), Fc.at 85 58 rfl, F4.at 85 58 rfl, C.1 85 (by omega), FA.at 85 58 rfl]; exact s5
    · exact mTell_fr.fix (F8.fix X7 (by decide +kernel)) (by decide +kernel)
