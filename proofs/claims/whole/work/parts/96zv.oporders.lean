/-! ===== orders ===== -/
abbrev ZcP : List Nat := [35, 36, 37, 38, 39, 40, 41, 42, 10, 45, 46, 48, 49, 51, 54, 56, 57, 58, 59, 81, 82]
abbrev ZcS : List (Nat × Nat) := [(43, 4), (43, 5), (43, 6), (43, 7), (43, 8), (43, 10), (34, 1), (34, 0), (43, 2), (43, 9), (0, 14), (43, 3), (52, 10), (44, 2), (44, 3), (52, 6), (52, 7), (52, 8), (52, 9), (55, 2), (55, 3)]
abbrev ZmP : List Nat := [84, 87, 90, 91, 92, 93, 95, 96, 97, 98, 99, 103, 104, 105, 106, 116, 117, 118]
abbrev ZmS : List (Nat × Nat) := [(0, 16), (85, 0), (85, 58), (85, 14), (85, 15), (85, 16), (85, 17), (85, 18), (85, 19), (85, 23), (85, 26), (85, 29), (85, 30), (85, 21), (85, 13), (85, 20), (85, 8), (85, 34), (85, 38), (85, 39), (85, 40), (85, 56), (85, 57), (85, 59)]
/-- the relation behind orders -/
theorem ord_inv {sh : Shp} {h h3 h5 : Sto} {n m k : Nat} {L : List Law} {G u s : Nat → Int} {x : Int} (I : INV sh h) (hx : -6 ≤ x) (Fc : Fr ZcP ZcS h h3) (Fm : Fr ZmP ZmS h3 h5) (C : CJ sh h3 G n m L 10) (e87 : h5 87 = G) (hR : HR (h3 45) (h3 46) u s (h3 44 2) (h3 44 3) (G 6) (G 7) n m) (k3 : h3 44 3 = (k : Int)) (k5 : h5 85 8 = (k : Int)) (eu : ∀ j, j < 44 * k → h5 90 j = u j) (es : ∀ j, j < k → h5 91 j = s j) (t1 : h3 0 14 = 0) (t2 : h5 85 13 = 0) (od : h5 85 20 = 0) (a1 : h5 0 16 = cTell h3 x 0 16) (a2 : h5 84 = cTell h3 x 84) (e4 : h5 43 10 = h5 85 18) (e5 : h5 52 10 = h5 85 58) : INV sh (mTell h5 x) := by
  have Ft := mTell_fr (h := h5) (x := x)
  have W := C.2.2.2.1
  have hn10 := W.1.2.1
  have hm3 := W.1.2.2.2.1
  have C5 : CJ sh h5 G n m L 10 := C.of Fm (by decide +kernel) (by decide +kernel) (Fm.row 10 rfl)
  have C6 : CJ sh (mTell h5 x) G n m L 10 := C5.of Ft (by decide +kernel) (by decide +kernel) (Ft.row 10 rfl)
  have x87 : mTell h5 x 87 = G := by rw [Ft.row 87 rfl]; exact e87
  have F : Fr (ZcP ++ ZmP ++ [86]) (ZcS ++ ZmS ++ [(85, 1)]) h (mTell h5 x) := ((Fc.mono rfl).trans (Fm.mono rfl)).trans (Ft.mono rfl)
  refine I.upd F (by decide +kernel) (by decide +kernel) ⟨n, m, L, ⟨?_, ?_, ?_, ?_⟩, ?_, ?_⟩ ⟨0, ?_, ?_, by omega, fun i hi => by omega⟩ ?_ ?_
  · rw [x87]; exact C6.2.1
  · rw [x87]; exact C6.2.2.1
  · rw [x87]; exact W
  · rw [x87]; exact C.2.2.2.2
  · rw [Ft.at 85 8 rfl, Ft.at 44 3 rfl, Fm.at 44 3 rfl, k3, k5]
  · rw [x87, Ft.row 45 rfl, Fm.row 45 rfl, Ft.row 46 rfl, Fm.row 46 rfl, Ft.at 44 2 rfl, Fm.at 44 2 rfl, Ft.at 44 3 rfl, Fm.at 44 3 rfl, Ft.row 90 rfl, Ft.row 91 rfl]
    exact hR.pile hn10 hm3 k3 eu es
  · rw [Ft.at 0 14 rfl, Fm.at 0 14 rfl, t1]; rfl
  · rw [Ft.at 85 13 rfl, t2]; rfl
  · refine Scal.tell (h := h) (h1 := h3) hx I.scal (Fc.row 84 rfl) (by rw [Fm.row 86 rfl, Fc.row 86 rfl]) a1 a2 ?_ e4 e5
    rw [Fm.at 0 15 rfl, Fc.at 0 15 rfl, Fm.at 85 11 rfl, Fc.at 85 11 rfl]; exact I.scal.1
  · rw [Ft.at 85 20 rfl]; exact od
theorem op_orders : OpOK 80 269 0 [] := by
  intro sc d sh sl h I
  have X := I.fx
  refine ord_of I (fun t h2 Lx c et tp etx F2 e14 e10 f10 hl hc e0 e1 kb hcl => ?_)
  obtain ⟨n, m, L, Lv, Hs⟩ := I.live
  obtain ⟨q1, hHR⟩ := Hs
  have hHR' := hHR
  obtain ⟨a, k, ea, ha17, ek, hk16, -⟩ := hHR'
  have X2 := F2.fix X (by decide +kernel)
  have W := Lv.2.2.1
  have B := Lv.2.2.2
  have hn10 := W.1.2.1
  have hm3 := W.1.2.2.2.1
  have C2 : CJ sh h2 (h 87) n m L 10 := (Lv.cj X).of F2 (by decide +kernel) (by decide +kernel) (F2.row 10 rfl)
  have good : ∀ cl ∈ Lx, ClG true cl := txR_good 12 0 0 [] Lx (by omega) (by omega) (fun cl hc => by cases hc) etx
  have O2 : OTx h2 c Lx := ⟨e0, hl, e1, hc, kb, fun i cl hi => ⟨hcl i cl hi, good cl (List.mem_of_getElem? hi)⟩⟩
  have hR2 : HR (h2 45) (h2 46) (h 90) (h 91) (h2 44 2) (h2 44 3) (h 87 6) (h 87 7) n m := by
    rw [F2.row 45 rfl, F2.row 46 rfl, F2.at 44 2 rfl, F2.at 44 3 rfl]; exact hHR
  have ek2 : h2 44 3 = (k : Int) := by rw [F2.at 44 3 rfl]; exact ek
  -- the reference's half
  have ref : ∀ (h3 : Sto) (x : Int) {Q : Pst}, Fr ZcP ZcS h h3 → h3 43 10 = -1 → (-6 ≤ x ∧ x ≤ 2147483647) → (∀ e, rnO L n m Lx 0 (h 87, 0, -1, h 90, h 91, k) = .inl e → ∀ h6, Fix sh h6 → Fr ZmP ZmS h3 h6 → h6 87 = h 87 → (∀ j, j < 44 * k → h6 90 j = h 90 j) → (∀ j, j < k → h6 91 j = h 91 j) → h6 85 8 = (k : Int) → h6 85 20 = 0 → h6 85 13 = 0 → h6 85 18 = -1 → h6 0 16 = cTell h3 x 0 16 → h6 84 = cTell h3 x 84 → Q (0, -3) sh sl (mTell (setH h6 85 58 (e : Int)) (-3))) → (∀ y, rnO L n m Lx 0 (h 87, 0, -1, h 90, h 91, k) = .inr y → ∀ h6, Fr ZmP ZmS h3 h6 → MJ sh h6 y.1 n m L → h6 85 8 = (y.2.2.2.2.2 : Int) → (∀ j, j < 44 * y.2.2.2.2.2 → h6 90 j = y.2.2.2.1 j) → (∀ j, j < y.2.2.2.2.2 → h6 91 j = y.2.2.2.2.1 j) → h6 85 13 = 0 → h6 85 18 = -1 → h6 85 58 = -1 → h6 0 16 = cTell h3 x 0 16 → h6 84 = cTell h3 x 84 → Q (0, y.2.1) sh sl (mTell h6 y.2.1)) → WM sc (d + 100) 269 [(2, 85)] sh sl (cTell h3 x) Q := by
    intro h3 x Q F3 g10 hx z0 z1
    have X3 := F3.fix X (by decide +kernel)
    have Fc := cTell_fr (h := h3) (x := x)
    have X4 : Fix sh (cTell h3 x) := Fc.fix X3 (by decide +kernel)
    refine ord_ref (T := h 94) (t := t) X4 ⟨tp.1, fun i hi => ⟨(tp.2 i hi).1, by rw [Fc.row 94 rfl, F3.row 94 rfl]⟩⟩ (by rw [Fc.at 85 13 rfl, F3.at 85 13 rfl]; exact et) (fun h5 q e => by rw [etx] at e; cases e) (fun h5 Ly c5 e5 F5 j1 j2 j3 j4 j5 j6 j7 j8 j9 j10 => ?_)
    rw [etx] at e5
    injection e5 with e5
    subst e5
    obtain ⟨h4, hh4⟩ : ∃ h4, setH (setH (cTell h3 x) 85 0 0) 85 58 (-1) = h4 := ⟨_, rfl⟩
    rw [hh4] at F5
    have F4 : Fr [] [(85, 0), (85, 58)] (cTell h3 x) h4 := by rw [← hh4]; exact ((Fr.refl _).set rfl).set rfl
    have X4' := F4.fix X4 (by decide +kernel)
    have X5 := F5.fix X4' (by decide +kernel)
    have FF : Fr ZmP ZmS h3 h5 := ((Fc.mono rfl).trans (F4.mono rfl)).trans (F5.mono rfl)
    have r87 : h5 87 = h 87 := by rw [F5.row 87 rfl, F4.row 87 rfl, Fc.row 87 rfl, F3.row 87 rfl]
    have r90 : h5 90 = h 90 := by rw [F5.row 90 rfl, F4.row 90 rfl, Fc.row 90 rfl, F3.row 90 rfl]
    have r91 : h5 91 = h 91 := by rw [F5.row 91 rfl, F4.row 91 rfl, Fc.row 91 rfl, F3.row 91 rfl]
    have r8 : h5 85 8 = (k : Int) := by rw [F5.at 85 8 rfl, F4.at 85 8 rfl, Fc.at 85 8 rfl, F3.at 85 8 rfl, q1]; exact ek
    have r58 : h5 85 58 = -1 := by rw [F5.at 85 58 rfl, ← hh4, setH_self]
    have r16 : h5 0 16 = cTell h3 x 0 16 := by rw [F5.at 0 16 rfl, F4.at 0 16 rfl]
    have r84 : h5 84 = cTell h3 x 84 := by rw [F5.row 84 rfl, F4.row 84 rfl]
    have M5 : MJ sh h5 (h 87) n m L := ⟨X5, r87, j9, W, B⟩
    have T5 : MTx h5 c5 Lx := ⟨j5, hl, j6, j4, j7, fun i cl hi => ⟨j8 i cl hi, good cl (List.mem_of_getElem? hi)⟩⟩
    refine sp_carryM (d := d + 87) (u := h 90) (s := h 91) (k := k) M5 T5 j1 r8 hk16 (fun i _ => by rw [r90]) (fun j _ => by rw [r91]) (fun e he h6 X6 F6 b1 b2 b3 b4 b5 => ?_) (fun y hy h6 F6 M6 b1 b2 b3 => ?_)
    · exact z0 e he h6 X6 (FF.trans (F6.mono rfl)) b1 b2 b3 b4 b5 (by rw [F6.at 85 13 rfl]; exact j10) (by rw [F6.at 85 18 rfl]; exact j2) (by rw [F6.at 0 16 rfl]; exact r16) (by rw [F6.row 84 rfl]; exact r84)
    · exact z1 y hy h6 (FF.trans (F6.mono rfl)) M6 b1 b2 b3 (by rw [F6.at 85 13 rfl]; exact j10) (by rw [F6.at 85 18 rfl]; exact j2) (by rw [F6.at 85 58 rfl]; exact r58) (by rw [F6.at 0 16 rfl]; exact r16) (by rw [F6.row 84 rfl]; exact r84)
  refine sp_carry (d := d + 87) C2 O2 hR2 ek2 hk16 (fun e he h3 F3 b1 b2 b3 b4 b5 b6 => ?_) (fun y hy h3 F3 K3 => ?_)
  · have FA : Fr ZcP ZcS h h3 := (F2.mono rfl).trans (F3.mono rfl)
    have X3 := FA.fix X (by decide +kernel)
    simp only [pushR0]
    rw [B_80_48 X3, sp_ansT X3 (by decide)]
    simp only [pushR0]
    rw [B_80_51 (cTell_fr.fix X3 (by decide +kernel))]
    have g10 : h3 43 10 = -1 := by rw [F3.at 43 10 rfl]; exact f10
    refine ref h3 (-3) FA g10 (by decide) (fun e' he' h6 X6 F6 c1 c2 c3 c4 c5 c6 c7 c8 c9 => ?_) (fun y hy => by rw [he] at hy; cases hy)
    rw [he] at he'
    injection he' with he'
    subst he'
    refine ⟨-3, rfl, rfl, by omega, by omega, ?_⟩
    have C3 : CJ sh h3 (h 87) n m L 10 := by
      have h120 : ∀ q, 120 ≤ q → h3 q = h2 q := (F3.cg (R := []) (C := []) (by decide +kernel)).2.2
      refine ⟨X3, C2.2.1.of (F3.row 1 rfl) (fun j j1 j2 => ?_) h120, C2.2.2.1.of B hn10 hm3 (fun i hi => b1 i hi) (fun _ _ _ => rfl), W, B⟩
      rcases (show j = 1 ∨ j = 2 ∨ j = 3 ∨ j = 4 ∨ j = 5 ∨ j = 6 ∨ j = 7 by omega) with rfl | rfl | rfl | rfl | rfl | rfl | rfl <;> exact F3.row _ rfl
    have hR3 : HR (h3 45) (h3 46) (h 90) (h 91) (h3 44 2) (h3 44 3) (h 87 6) (h 87 7) n m := by
      rw [b4, b5]
      obtain ⟨a', k', r1, r2, r3, r4, r5⟩ := hR2
      refine ⟨a', k', r1, r2, r3, r4, fun j hj => ?_⟩
      obtain ⟨p1, p2, p3, p4, p5, p6⟩ := r5 j hj
      rw [b3 _ (by omega)]
      exact ⟨p1.of p2 hn10 hm3 (fun i hi => b2 _ (by omega)) (fun _ _ _ => rfl), p2, p3, p4, p5, p6⟩
    have Fe : Fr [] [(85, 58)] h6 (setH h6 85 58 (e : Int)) := (Fr.refl h6).set rfl
    refine ord_inv (h3 := h3) (u := h 90) (s := h 91) (k := k) (G := h 87) I (by decide) FA (F6.trans (Fe.mono rfl)) C3 (by rw [Fe.row 87 rfl]; exact c1) hR3 (by rw [b5]; exact ek2) (by rw [Fe.at 85 8 rfl]; exact c4) (by rw [Fe.row 90 rfl]; exact c2) (by rw [Fe.row 91 rfl]; exact c3) (by rw [F3.at 0 14 rfl]; exact e14) (by rw [Fe.at 85 13 rfl]; exact c6) (by rw [Fe.at 85 20 rfl]; exact c5) (by rw [Fe.at 0 16 rfl]; exact c8) (by rw [Fe.row 84 rfl]; exact c9) ?_ ?_
    · rw [Fe.at 43 10 rfl, F6.at 43 10 rfl, g10, Fe.at 85 18 rfl, c7]
    · rw [Fe.at 52 10 rfl, F6.at 52 10 rfl, b6, setH_self]
  · have FA : Fr ZcP ZcS h h3 := (F2.mono rfl).trans (F3.mono rfl)
    have X3 := FA.fix X (by decide +kernel)
    have rb := rnO_ok (G0 := h 87) Lx 0 (h 87, 0, -1, h 90, h 91, k) y (fun cl hc => (good cl hc).2.2.2.2.2.2.1.2) ⟨W, B, fun _ _ => rfl, hk16⟩ hy
    have yb : 0 ≤ y.2.1 ∧ y.2.1 ≤ 240 := by
      have r1 : (0 : Int) ≤ y.2.1 := rb.2.1
      have r2 : y.2.1 ≤ 0 + 20 * (Lx.length : Int) := rb.2.2
      omega
    simp only [pushR0]
    rw [B_80_48 X3, sp_ansT X3 (by omega)]
    simp only [pushR0]
    rw [B_80_51 (cTell_fr.fix X3 (by decide +kernel))]
    have g10 : h3 43 10 = -1 := by rw [F3.at 43 10 rfl]; exact f10
    refine ref h3 y.2.1 FA g10 (by omega) (fun e' he' => by rw [hy] at he'; cases he') (fun y' hy' h6 F6 M6 c1 c2 c3 c4 c5 c6 c7 c8 => ?_)
    rw [hy] at hy'
    injection hy' with hy'
    subst hy'
    refine ⟨y.2.1, rfl, rfl, by omega, by omega, ?_⟩
    obtain ⟨K1, K2, K3', K4, K5⟩ := K3
    refine ord_inv (h3 := h3) (u := y.2.2.2.1) (s := y.2.2.2.2.1) (k := y.2.2.2.2.2) (G := y.1) I (by omega) FA F6 K1 M6.2.1 K4 K5 c1 c2 c3 (by rw [F3.at 0 14 rfl]; exact e14) c4 M6.2.2.1 c7 c8 ?_ ?_
    · rw [F6.at 43 10 rfl, g10, c5]
    · rw [F6.at 52 10 rfl, F3.at 52 10 rfl, e10, c6]
