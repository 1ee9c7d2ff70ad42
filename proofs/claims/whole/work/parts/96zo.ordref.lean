/-! ===== orders: the beginning ===== -/
abbrev OwS : List (Nat × Nat) := [(43, 4), (43, 5), (43, 6), (43, 7), (43, 8), (43, 10), (34, 1), (34, 0), (43, 2), (43, 9), (85, 14), (85, 15), (85, 16), (85, 17), (85, 18), (85, 19), (85, 23), (85, 26), (85, 29), (85, 30), (85, 21), (85, 13), (85, 20), (0, 14), (43, 3), (0, 16), (85, 0), (85, 1), (52, 10), (85, 58)]
/-- the reference's orders, up to what was read -/
theorem ord_ref {sc : Nat × (Nat → Int)} {d sl t : Nat} {sh : Shp} {T : Nat → Int} {h3 : Sto} {Q : Pst} (X : Fix sh h3) (P : TpM T t h3) (e13 : h3 85 13 = (t : Int)) (q0 : ∀ h5 q, txR T t true 12 0 0 [] = .inl q → Fr MtP MzS (setH (setH h3 85 0 0) 85 58 (-1)) h5 → h5 85 19 = 1 → h5 85 18 = (q : Int) → h5 85 20 = 0 → h5 85 13 = 0 → Q (0, -6) sh sl (mTell h5 (-6))) (q1 : ∀ (h5 : Sto) (L : List Clx) (c : Nat), txR T t true 12 0 0 [] = .inr L → Fr MtP MzS (setH (setH h3 85 0 0) 85 58 (-1)) h5 → h5 85 19 = 0 → h5 85 18 = -1 → L.length ≤ 12 → c ≤ 400 → h5 85 21 = (L.length : Int) → h5 85 23 = (c : Int) → MKb h5 → (∀ i cl, L[i]? = some cl → ClM true h5 c i cl) → h5 85 20 = 0 → h5 85 13 = 0 → WF sc (d + 85 + 15) 269 50 [(2, 85), (9, 0), (9, 0), (9, 0)] [] sh sl h5 Q) : WM sc (d + 100) 269 [(2, 85)] sh sl h3 Q := by
  have Fb : Fr [] [(85, 0), (85, 58)] h3 (setH (setH h3 85 0 0) 85 58 (-1)) := ((Fr.refl h3).set rfl).set rfl
  have Xb : Fix sh (setH (setH h3 85 0 0) 85 58 (-1)) := Fb.fix X (by decide +kernel)
  rw [B_269_0 X]
  refine mBegin (T := T) (n := t) (od := true) Xb ⟨P.1, fun i hi => by rw [Fb.row 94 rfl]; exact P.2 i hi⟩ (by rw [Fb.at 85 13 rfl]; exact e13) rfl (fun h4 F4 H4 k21 k18 => ?_)
  have X4 : Fix sh h4 := F4.fix Xb (by decide +kernel)
  simp only [pushR9]
  rw [B_269_15 X4]
  refine mTxt269 (d := d + 85) (js := (9, 0)) Xb (fun h5 q e F5 j1 j2 j3 j4 => ?_) q1 12 0 0 0 0 [] h4 _ rfl rfl F4 k18 (fun i hi => by rw [H4.2.2.2.2.2.2] at hi; omega) H4 k21 (fun j cl hj => by cases hj) rfl (fun h5 X5 hw => ?_)
  · have X5 : Fix sh h5 := F5.fix Xb (by decide +kernel)
    rw [B_269_50 X5, j1, show w32 1 = 1 from rfl, if_neg (by decide), sp_telT X5 (by decide)]
    simp only [pushR0]
    rw [B_269_63 (mTell_fr.fix X5 (by decide +kernel))]
    exact q0 h5 q e F5 j1 j2 j3 j4
  · simp only [pushR9]
    exact hw
/-- a fault in orders -/
theorem ord_txt {sh : Shp} {h h5 h1 : Sto} {x : Int} (I : INV sh h) (hx : -6 ≤ x) (F : Fr LwP OwS h (mTell h5 x)) (k1 : h5 0 14 = 0) (k2 : h5 85 13 = 0) (k3 : h5 85 20 = 0) (e1 : h1 84 = h 84) (e2 : h5 86 = h 86) (a1 : h5 0 16 = cTell h1 x 0 16) (a2 : h5 84 = cTell h1 x 84) (e3 : h5 0 15 = h5 85 11) (e4 : h5 43 10 = h5 85 18) (e5 : h5 52 10 = h5 85 58) : INV sh (mTell h5 x) := by
  have Fm := mTell_fr (h := h5) (x := x)
  exact I.txt F (by decide +kernel) (by decide +kernel) (by decide +kernel) (by decide +kernel) (by rw [Fm.at 0 14 rfl]; exact k1) (by rw [Fm.at 85 13 rfl]; exact k2) (Scal.tell (h := h) hx I.scal e1 e2 a1 a2 e3 e4 e5) (by rw [Fm.at 85 20 rfl]; exact k3)
abbrev OaS : List (Nat × Nat) := [(43, 4), (43, 5), (43, 6), (43, 7), (43, 8), (43, 10), (34, 1), (34, 0), (43, 2), (43, 9), (0, 14), (43, 3), (52, 10)]
/-- orders, out of what is done with a text read: ok -/
theorem ord_of {sc : Nat × (Nat → Int)} {d : Nat} {sh : Shp} {sl : Nat} {h : Sto} (I : INV sh h) (hS : ∀ (t : Nat) (h2 : Sto) (L : List Clx) (c : Nat), h 85 13 = (t : Int) → TpM (h 94) t h → txR (h 94) t true 12 0 0 [] = .inr L → Fr TxP OaS h h2 → h2 0 14 = 0 → h2 52 10 = -1 → h2 43 10 = -1 → L.length ≤ 12 → c ≤ 400 → h2 34 0 = (L.length : Int) → h2 34 1 = (c : Int) → CKb h2 → (∀ i cl, L[i]? = some cl → ClC true 20 h2 c i cl) → WM sc (d + 99) 82 [(2, 52), (2, 34)] sh sl h2 (fun r sh1 sl1 h1 => WF sc (d + 100) 80 48 [(2, 0), (0, (t : Int))] (pushR r [(2, 0)]) sh1 sl1 h1 (fun r sh1 sl1 h1 => WM sc (d + 100) 269 [(2, 85)] sh1 sl1 h1 (fun r2 sh2 sl2 h2 => ∃ v, r = (0, v) ∧ r2 = (0, v) ∧ sh2.length ≤ sh.length + 9 ∧ sl2 ≤ sl + 900 ∧ INV sh2 h2)))) : WM sc (d + 100) 80 [(2, 0)] sh sl h (fun r sh1 sl1 h1 => WM sc (d + 100) 269 [(2, 85)] sh1 sl1 h1 (fun r2 sh2 sl2 h2 => ∃ v, r = (0, v) ∧ r2 = (0, v) ∧ sh2.length ≤ sh.length + 9 ∧ sl2 ≤ sl + 900 ∧ INV sh2 h2)) := by
  have X := I.fx
  obtain ⟨t, t1, t2, t3, t4⟩ := I.tape
  obtain ⟨s1, s2, s3, s4, s5⟩ := I.scal
  have X1 : Fix sh (setH (setH h 0 14 0) 52 10 (-1)) := (X.s (by decide +kernel)).s (by decide +kernel)
  have X2 : Fix sh (setH (setH (setH h 0 14 0) 52 10 (-1)) 43 3 1) := X1.s (by decide +kernel)
  rw [B_80_0 X, t1, B_81_0 X1]
  refine cText (od := true) (F := 20) (T := h 94) ⟨fun _ => by omega, by omega⟩ (by omega) X2 ⟨t3, fun i hi => ⟨⟨(t4 i hi).1, (t4 i hi).2.1⟩, by rw [setH_o (by decide), setH_o (by decide), setH_o (by decide)]; exact (t4 i hi).2.2⟩⟩ (by rw [setH_self]; rfl) (fun h2 q e F2 g2 => ?_) (fun h2 Lx c e F2 g10 hl hc e0 e1 kb hcl => ?_)
  · have FA : Fr TxP OaS h h2 := ((((Fr.refl h).set rfl).set rfl).set rfl).trans (F2.mono rfl)
    have X3 : Fix sh h2 := FA.fix X (by decide +kernel)
    have Fc := cTell_fr (h := h2) (x := -6)
    have X4 : Fix sh (cTell h2 (-6)) := Fc.fix X3 (by decide +kernel)
    simp only [pushR0]
    rw [B_81_10 X3 (Or.inl rfl)]
    simp only [pushR0]
    rw [B_80_26 X3, w32_0, if_neg (by simp), sp_refT X3 (by decide)]
    simp only [pushR0]
    rw [B_80_35 X4]
    refine ord_ref (T := h 94) (t := t) X4 ⟨t3, fun i hi => ⟨⟨(t4 i hi).1, (t4 i hi).2.1⟩, by rw [Fc.row 94 rfl, FA.row 94 rfl]⟩⟩ (by rw [Fc.at 85 13 rfl, FA.at 85 13 rfl]; exact t2) (fun h5 q' e' F5 j1 j2 j3 j4 => ?_) (fun h5 Lx c e' => by rw [e] at e'; cases e')
    rw [e] at e'
    cases e'
    have FT : Fr LwP OwS h h5 := ((((FA.mono rfl).trans (Fc.mono rfl)).set rfl).set rfl).trans (F5.mono rfl)
    refine ⟨-6, rfl, rfl, by omega, by omega, ord_txt (h1 := h2) I (by decide) (FT.trans (mTell_fr.mono rfl)) ?_ j4 j3 (FA.row 84 rfl) ?_ ?_ ?_ ?_ ?_ ?_⟩
    · rw [F5.at 0 14 rfl, setH_o (by decide), setH_o (by decide), Fc.at 0 14 rfl, F2.at 0 14 rfl, setH_o (by decide), setH_o (by decide), setH_self]
    · rw [F5.row 86 rfl, setH_o (by decide), setH_o (by decide), Fc.row 86 rfl, FA.row 86 rfl]
    · rw [F5.at 0 16 rfl, setH_o (by decide), setH_o (by decide)]
    · rw [F5.row 84 rfl, setH_o (by decide), setH_o (by decide)]
    · rw [FT.at 0 15 rfl, FT.at 85 11 rfl]; exact s1
    · rw [F5.at 43 10 rfl, setH_o (by decide), setH_o (by decide), Fc.at 43 10 rfl, g2, j2]
    · rw [F5.at 52 10 rfl, setH_o (by decide), setH_o (by decide), Fc.at 52 10 rfl, F2.at 52 10 rfl, setH_o (by decide), setH_self, F5.at 85 58 rfl, setH_self]
  · have FA : Fr TxP OaS h h2 := ((((Fr.refl h).set rfl).set rfl).set rfl).trans (F2.mono rfl)
    have X3 : Fix sh h2 := FA.fix X (by decide +kernel)
    simp only [pushR0]
    rw [B_81_10 X3 (Or.inr rfl)]
    simp only [pushR0]
    rw [B_80_26 X3, show w32 1 = 1 from rfl, if_pos (by decide)]
    refine hS t h2 Lx c t2 ⟨t3, fun i hi => ⟨⟨(t4 i hi).1, (t4 i hi).2.1⟩, rfl⟩⟩ e FA ?_ ?_ g10 hl hc e0 e1 kb hcl
    · rw [F2.at 0 14 rfl, setH_o (by decide), setH_o (by decide), setH_self]
    · rw [F2.at 52 10 rfl, setH_o (by decide), setH_self]
