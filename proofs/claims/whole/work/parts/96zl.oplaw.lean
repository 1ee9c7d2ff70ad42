/-! ===== law ===== -/
abbrev LwP : List Nat := [35, 36, 37, 38, 39, 40, 41, 42, 95, 96, 97, 98, 99, 116, 84, 86]
abbrev LwS : List (Nat × Nat) := [(43, 4), (43, 5), (43, 6), (43, 7), (43, 8), (43, 10), (34, 1), (34, 0), (43, 2), (43, 9), (85, 14), (85, 15), (85, 16), (85, 17), (85, 18), (85, 19), (85, 23), (85, 26), (85, 29), (85, 30), (85, 21), (85, 13), (85, 20), (0, 14), (43, 3), (0, 16), (85, 0), (85, 1)]
/-- the reference's law, up to what was read -/
theorem law_ref {sc : Nat × (Nat → Int)} {d sl t k : Nat} {sh : Shp} {T : Nat → Int} {h3 : Sto} {Q : Pst} (X : Fix sh h3) (e3 : h3 87 3 = (k : Int)) (hk : k < 6) (P : TpM T t h3) (e13 : h3 85 13 = (t : Int)) (q0 : ∀ h5 q, txR T t false 12 0 0 [] = .inl q → Fr MtP MzS (setH h3 85 0 0) h5 → h5 85 19 = 1 → h5 85 18 = (q : Int) → h5 85 20 = 0 → h5 85 13 = 0 → Q (0, -6) sh sl (mTell h5 (-6))) (q1 : ∀ (h5 : Sto) (L : List Clx) (c : Nat), txR T t false 12 0 0 [] = .inr L → Fr MtP MzS (setH h3 85 0 0) h5 → h5 85 19 = 0 → h5 85 18 = -1 → L.length ≤ 12 → c ≤ 400 → h5 85 21 = (L.length : Int) → h5 85 23 = (c : Int) → MKb h5 → (∀ i cl, L[i]? = some cl → ClM false h5 c i cl) → h5 85 20 = 0 → h5 85 13 = 0 → WF sc (d + 86 + 14) 194 68 [(2, 85), (9, 0), (9, 0)] [] sh sl h5 Q) : WM sc (d + 100) 194 [(2, 85)] sh sl h3 Q := by
  have Xb : Fix sh (setH h3 85 0 0) := X.s (by decide +kernel)
  rw [B_194_0 X, e3, w32_id (a := (k : Int)) (by omega) (by omega), if_pos (by omega)]
  refine mBegin (T := T) (n := t) (od := false) Xb ⟨P.1, fun i hi => by rw [setH_o (by decide)]; exact P.2 i hi⟩ (by rw [setH_k (by decide)]; exact e13) rfl (fun h4 F4 H4 k21 k18 => ?_)
  have X4 : Fix sh h4 := F4.fix Xb (by decide +kernel)
  simp only [pushR9]
  rw [B_194_33 X4]
  refine mTxt194 (d := d + 86) (js := (9, 0)) Xb (fun h5 q e F5 j1 j2 j3 j4 => ?_) q1 12 0 0 0 0 [] h4 _ rfl rfl F4 k18 (fun i hi => by rw [H4.2.2.2.2.2.2] at hi; omega) H4 k21 (fun j cl hj => by cases hj) rfl (fun h5 X5 hw => ?_)
  · have X5 : Fix sh h5 := F5.fix Xb (by decide +kernel)
    rw [B_194_68 X5, j1, show w32 1 = 1 from rfl, if_neg (by decide), sp_telT X5 (by decide)]
    simp only [pushR0]
    rw [B_194_81 (mTell_fr.fix X5 (by decide +kernel))]
    exact q0 h5 q e F5 j1 j2 j3 j4
  · simp only [pushR9]
    exact hw
/-- no room, or a fault -/
theorem law_txt {sh : Shp} {h h5 h1 : Sto} {x : Int} (I : INV sh h) (hx : -6 ≤ x) (F : Fr LwP LwS h (mTell h5 x)) (k1 : h5 0 14 = 0) (k2 : h5 85 13 = 0) (k3 : h5 85 20 = 0) (e1 : h1 84 = h 84) (e2 : h5 86 = h 86) (a1 : h5 0 16 = cTell h1 x 0 16) (a2 : h5 84 = cTell h1 x 84) (e3 : h5 0 15 = h5 85 11) (e4 : h5 43 10 = h5 85 18) (e5 : h5 52 10 = h5 85 58) : INV sh (mTell h5 x) := by
  have Fm := mTell_fr (h := h5) (x := x)
  exact I.txt F (by decide +kernel) (by decide +kernel) (by decide +kernel) (by decide +kernel) (by rw [Fm.at 0 14 rfl]; exact k1) (by rw [Fm.at 85 13 rfl]; exact k2) (Scal.tell (h := h) hx I.scal e1 e2 a1 a2 e3 e4 e5) (by rw [Fm.at 85 20 rfl]; exact k3)
theorem op_law_full {sc : Nat × (Nat → Int)} {d : Nat} {sh : Shp} {sl : Nat} {h : Sto} (I : INV sh h) (e11 : h 1 11 = 6) (e3 : h 87 3 = 6) : WM sc (d + 100) 54 [(2, 0)] sh sl h (fun r sh1 sl1 h1 => WM sc (d + 100) 194 [(2, 85)] sh1 sl1 h1 (fun r2 sh2 sl2 h2 => ∃ v, r = (0, v) ∧ r2 = (0, v) ∧ sh2.length ≤ sh.length + 9 ∧ sl2 ≤ sl + 900 ∧ INV sh2 h2)) := by
  have X := I.fx
  have X1 : Fix sh (setH h 0 14 0) := X.s (by decide +kernel)
  have X2 : Fix sh (cTell (setH h 0 14 0) (-5)) := cTell_fr.fix X1 (by decide +kernel)
  have Fc := cTell_fr (h := setH h 0 14 0) (x := -5)
  obtain ⟨s1, s2, s3, s4, s5⟩ := I.scal
  rw [B_54_0 X, e11, show w32 6 = 6 from rfl, if_neg (by decide), sp_refT X1 (by decide)]
  simp only [pushR0]
  rw [B_54_28 X2, B_194_0 X2, Fc.row 87 rfl, setH_o (by decide), e3, show w32 6 = 6 from rfl, if_neg (by simp)]
  obtain ⟨h5, hh5⟩ : ∃ h5, setH (setH (cTell (setH h 0 14 0) (-5)) 85 0 0) 85 13 0 = h5 := ⟨_, rfl⟩
  rw [hh5]
  have F5 : Fr LwP LwS h h5 := by rw [← hh5]; exact ((((Fr.refl h).set rfl).trans (Fc.mono rfl)).set rfl).set rfl
  have X5 : Fix sh h5 := F5.fix X (by decide +kernel)
  rw [sp_telT X5 (by decide)]
  simp only [pushR0]
  rw [B_194_27 (mTell_fr.fix X5 (by decide +kernel))]
  refine ⟨-5, rfl, rfl, by omega, by omega, law_txt (h1 := setH h 0 14 0) I (by decide) (F5.trans (mTell_fr.mono rfl)) ?_ ?_ ?_ ?_ ?_ ?_ ?_ ?_ ?_ ?_⟩
  · rw [← hh5, setH_o (by decide), setH_o (by decide), Fc.at 0 14 rfl, setH_self]
  · rw [← hh5, setH_self]
  · rw [← hh5, setH_k (by decide), setH_k (by decide), Fc.at 85 20 rfl, setH_o (by decide)]; exact I.od
  · rw [setH_o (by decide)]
  · rw [← hh5, setH_o (by decide), setH_o (by decide), Fc.row 86 rfl, setH_o (by decide)]
  · rw [← hh5, setH_o (by decide), setH_o (by decide)]
  · rw [← hh5, setH_o (by decide), setH_o (by decide)]
  · rw [F5.at 0 15 rfl, F5.at 85 11 rfl]; exact s1
  · rw [← hh5, setH_o (by decide), setH_o (by decide), Fc.at 43 10 rfl, setH_o (by decide), setH_k (by decide), setH_k (by decide), Fc.at 85 18 rfl, setH_o (by decide)]; exact s4
  · rw [F5.at 52 10 rfl, F5.at 85 58 rfl]; exact s5
