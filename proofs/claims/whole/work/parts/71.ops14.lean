/-! ===== reigns ===== -/
theorem HR.cgU {c d u u2 s : Nat → Int} {r t g6 g7 : Int} {n m : Nat} (H : HR c d u s r t g6 g7 n m) (hn : n ≤ 10) (hm : m ≤ 3) (e : ∀ i, i < 704 → u2 i = u i) : HR c d u2 s r t g6 g7 n m := by
  obtain ⟨a, k, h1, h2, h3, h4, h5⟩ := H
  refine ⟨a, k, h1, h2, h3, h4, fun j hj => ?_⟩
  obtain ⟨b1, b2, b3, b4, b5⟩ := h5 j hj
  have eq : ∀ i, 5 ≤ i → i < 49 → u2 (44 * j + i - 5) = u (44 * j + i - 5) := fun i a b => e _ (by omega)
  exact ⟨b1.of b2 hn hm (fun _ _ => rfl) eq, b2.of hn hm eq, by rw [e _ (by omega)]; exact b3, by rw [e _ (by omega)]; exact b4, b5⟩
section REIGNO
variable {sc : Nat × (Nat → Int)} {d : Nat} {sh : Shp} {sl : Nat} {h : Sto} {Q : Pst}
theorem lp_rout {x1 x2 x3 : Int} {j5 j6 j7 : V} (X : Fix sh h) (hq : ∀ h', Fr [119] [] h h' → (∀ j, j < 44 → h' 119 j = h 87 (5 + j)) → WM sc d 160 [(2, 85), (0, 16)] sh sl (setH (setH h' 85 62 (h' 87 0)) 85 63 (h' 87 1)) (fun r sh1 sl1 h1 => WF sc (d + 1) 277 271 [(2, 85), (0, x1), (0, x2), (0, x3), (0, ((44 : Nat) : Int)), j5, j6, j7] (pushR r []) sh1 sl1 h1 Q)) : ∀ (rem i : Nat) (h' : Sto) (I : Int), i + rem = 44 → I = i → Fr [119] [] h h' → (∀ j, j < i → h' 119 j = h 87 (5 + j)) → WF sc (d + 1) 277 216 [(2, 85), (0, x1), (0, x2), (0, x3), (0, I), j5, j6, j7] [] sh sl h' Q := by
  intro rem
  induction rem with
  | zero =>
    intro i h' I hi hI F e
    subst hI
    have hi44 : i = 44 := by omega
    subst hi44
    rw [B_277_216 (F.fix X (by decide +kernel)), show w32 ((44 : Nat) : Int) = 44 from rfl, if_pos (by decide)]
    exact hq h' F e
  | succ rem ih =>
    intro i h' I hi hI F e
    subst hI
    rw [B_277_216 (F.fix X (by decide +kernel)), w32_id (a := (i : Int)) (by omega) (by omega), if_neg (by omega), w32_nat (a := 5 + (i : Int)) (n := 5 + i) (by omega) (by omega), Int.toNat_natCast, Int.toNat_natCast]
    refine ⟨⟨by omega, by omega⟩, ⟨by omega, by omega⟩, ih (i + 1) _ _ (by omega) (by simp) (F.setP rfl) (fun j hj => ?_)⟩
    by_cases ej : j = i
    · subst ej; rw [setH_self, F.row 87 rfl]
    · rw [setH_k ej]; exact e j (by omega)
end REIGNO
theorem op_reigns {x y : Int} (hx : I32 x) (hy : I32 y) : OpOK 147 277 0 [(0, x), (0, y)] := by
  intro sc d sh sl h I
  have X := I.fx
  obtain ⟨n, m, L, Lv, Hs⟩ := I.live
  obtain ⟨S, R, W, B⟩ := Lv
  have hn10 := W.1.2.1
  have hm3 := W.1.2.2.2.1
  have en : h 1 0 = (n : Int) := S.1.1
  have em : h 1 4 = (m : Int) := S.1.2.1
  have Xr : ∀ v, Fix sh (cTell h v) := fun v => cTell_fr.fix X (by decide +kernel)
  have Xr2 : ∀ v, Fix sh (setH (cTell h v) 85 0 0) := fun v => (Xr v).s (by decide +kernel)
  have bad : ¬ ((0 ≤ x ∧ x ≤ 1000000) ∧ 1 ≤ y ∧ y ≤ 60) → WM sc (d + 100) 277 [(2, 85), (0, x), (0, y)] sh sl (cTell h (-1)) (fun r2 sh2 sl2 h2 => ∃ v, ((0 : Nat), (-1 : Int)) = (0, v) ∧ r2 = (0, v) ∧ sh2.length ≤ sh.length + 9 ∧ sl2 ≤ sl + 900 ∧ INV sh2 h2) := by
    intro hb
    rw [B_277_0 (Xr _), hx.w, sp_in hx.l ⟨by decide, by decide⟩ ⟨by decide, by decide⟩]
    simp only [pushR0]
    rw [B_277_14 (Xr2 _)]
    by_cases c1 : 0 ≤ x ∧ x ≤ 1000000
    · rw [if_pos c1, show w32 1 = 1 from rfl, if_neg (by decide), hy.w, sp_in hy.l ⟨by decide, by decide⟩ ⟨by decide, by decide⟩, if_neg (fun q => hb ⟨c1, q⟩)]
      simp only [pushR0]
      rw [B_277_26 (Xr2 _), w32_0, if_neg (by simp), sp_telT (Xr2 _) (by omega)]
      simp only [pushR0]
      rw [B_277_34 (mTell_fr.fix (Xr2 _) (by decide +kernel))]
      exact ⟨_, rfl, rfl, by omega, by omega, I.ref (by omega)⟩
    · rw [if_neg c1, w32_0, if_pos rfl, sp_telT (Xr2 _) (by omega)]
      simp only [pushR0]
      rw [B_277_34 (mTell_fr.fix (Xr2 _) (by decide +kernel))]
      exact ⟨_, rfl, rfl, by omega, by omega, I.ref (by omega)⟩
  have none : ((0 ≤ x ∧ x ≤ 1000000) ∧ 1 ≤ y ∧ y ≤ 60) → (n = 0 ∨ m = 0) → WM sc (d + 100) 277 [(2, 85), (0, x), (0, y)] sh sl (cTell h (-3)) (fun r2 sh2 sl2 h2 => ∃ v, ((0 : Nat), (-3 : Int)) = (0, v) ∧ r2 = (0, v) ∧ sh2.length ≤ sh.length + 9 ∧ sl2 ≤ sl + 900 ∧ INV sh2 h2) := by
    intro hb hz
    have e87 : setH (cTell h (-3)) 85 0 0 87 = h 87 := by rw [setH_o (by decide), cTell_fr.row 87 rfl]
    rw [B_277_0 (Xr _), hx.w, sp_in hx.l ⟨by decide, by decide⟩ ⟨by decide, by decide⟩, if_pos hb.1]
    simp only [pushR0]
    rw [B_277_14 (Xr2 _), show w32 1 = 1 from rfl, if_neg (by decide), hy.w, sp_in hy.l ⟨by decide, by decide⟩ ⟨by decide, by decide⟩, if_pos hb.2]
    simp only [pushR0]
    rw [B_277_26 (Xr2 _), show w32 1 = 1 from rfl, if_pos (by decide), e87, W.1.1, W.1.2.2.1, w32_id (a := (n : Int)) (by omega) (by omega), w32_id (a := (m : Int)) (by omega) (by omega)]
    by_cases n0 : n = 0
    · rw [if_pos (by omega), sp_telT (Xr2 _) (by omega)]
      simp only [pushR0]
      rw [B_277_59 (mTell_fr.fix (Xr2 _) (by decide +kernel))]
      exact ⟨_, rfl, rfl, by omega, by omega, I.ref (by omega)⟩
    · rw [if_neg (by omega), if_neg (by omega), sp_telT (Xr2 _) (by omega)]
      simp only [pushR0]
      rw [B_277_59 (mTell_fr.fix (Xr2 _) (by decide +kernel))]
      exact ⟨_, rfl, rfl, by omega, by omega, I.ref (by omega)⟩
  rw [B_147_0 X, hx.w, hy.w, en, em, w32_id (a := (n : Int)) (by omega) (by omega), w32_id (a := (m : Int)) (by omega) (by omega)]
  by_cases a1 : x < 0
  · rw [if_pos a1, sp_refT X (by omega)]
    simp only [pushR0]
    rw [B_147_27 (Xr _)]
    exact bad (by omega)
  rw [if_neg a1]
  by_cases a2 : 1000000 < x
  · rw [if_pos a2, sp_refT X (by omega)]
    simp only [pushR0]
    rw [B_147_27 (Xr _)]
    exact bad (by omega)
  rw [if_neg a2]
  by_cases a3 : y < 1
  · rw [if_pos a3, sp_refT X (by omega)]
    simp only [pushR0]
    rw [B_147_27 (Xr _)]
    exact bad (by omega)
  rw [if_neg a3]
  by_cases a4 : y ≤ 60
  case neg =>
    rw [if_neg a4, sp_refT X (by omega)]
    simp only [pushR0]
    rw [B_147_27 (Xr _)]
    exact bad (by omega)
  rw [if_pos a4]
  by_cases n0 : n = 0
  · rw [if_pos (by omega), sp_refT X (by omega)]
    simp only [pushR0]
    rw [B_147_54 (Xr _)]
    exact none (by omega) (Or.inl n0)
  rw [if_neg (by omega)]
  by_cases m0 : m = 0
  · rw [if_neg (by omega), sp_refT X (by omega)]
    simp only [pushR0]
    rw [B_147_54 (Xr _)]
    exact none (by omega) (Or.inr m0)
  rw [if_pos (by omega)]
  clear bad none
  obtain ⟨g, rfl⟩ : ∃ g : Nat, x = g := ⟨x.toNat, by omega⟩
  obtain ⟨N, rfl⟩ : ∃ N : Nat, y = N := ⟨y.toNat, by omega⟩
  have ok := rgF_ok N g (h 87) 0 W B (by omega)
  obtain ⟨o1, o2, o3, o4⟩ := ok
  -- the class's side
  rw [B_148_0 X, B_83_0c X]
  have X0 : Fix sh (rowH h 78 (va_cpy (h 10) (h 78) 0 0 42)) := ((Fr.refl (P := [78]) (S := []) h).rowP rfl).fix X (by decide +kernel)
  simp only [pushR9]
  rw [B_148_14 X0, hx.w, rowH_o (by decide), en, em]
  have F0 : Fr [78] [(76, 2), (76, 4), (76, 5)] h (setH (setH (setH (rowH h 78 (va_cpy (h 10) (h 78) 0 0 42)) 76 4 (n : Int)) 76 5 (m : Int)) 76 2 (g : Int)) := ((((Fr.refl h).rowP rfl).set rfl).set rfl).set rfl
  have e78 : ∀ i, i < 42 → setH (setH (setH (rowH h 78 (va_cpy (h 10) (h 78) 0 0 42)) 76 4 (n : Int)) 76 5 (m : Int)) 76 2 (g : Int) 78 i = h 10 i := fun i hi => by
    rw [setH_o (by decide), setH_o (by decide), setH_o (by decide), rowH_s, pk_cpy_in (by omega) (by omega), show 0 + (i - 0) = i by omega]
  have e4 : setH (setH (setH (rowH h 78 (va_cpy (h 10) (h 78) 0 0 42)) 76 4 (n : Int)) 76 5 (m : Int)) 76 2 (g : Int) 76 4 = (n : Int) := by rw [setH_k (by decide), setH_k (by decide), setH_self]
  have e5 : setH (setH (setH (rowH h 78 (va_cpy (h 10) (h 78) 0 0 42)) 76 4 (n : Int)) 76 5 (m : Int)) 76 2 (g : Int) 76 5 = (m : Int) := by rw [setH_k (by decide), setH_self]
  have e2 : setH (setH (setH (rowH h 78 (va_cpy (h 10) (h 78) 0 0 42)) 76 4 (n : Int)) 76 5 (m : Int)) 76 2 (g : Int) 76 2 = (g : Int) := setH_self _ _ _ _
  generalize setH (setH (setH (rowH h 78 (va_cpy (h 10) (h 78) 0 0 42)) 76 4 (n : Int)) 76 5 (m : Int)) 76 2 (g : Int) = h0 at F0 e78 e4 e5 e2 ⊢
  have h120a : ∀ q, 120 ≤ q → h0 q = h q := (F0.cg (R := []) (C := []) (by decide +kernel)).2.2
  have C0 : CJ sh h0 (h 87) n m L 78 := by
    refine ⟨F0.fix X (by decide +kernel), S.of (F0.row 1 rfl) (fun j j1 j2 => ?_) h120a, R.of B hn10 hm3 e78 (fun _ _ _ => rfl), W, B⟩
    rcases (show j = 1 ∨ j = 2 ∨ j = 3 ∨ j = 4 ∨ j = 5 ∨ j = 6 ∨ j = 7 by omega) with rfl | rfl | rfl | rfl | rfl | rfl | rfl <;> exact F0.row _ rfl
  refine lp_reignC (by omega) (by omega) (by omega) h0 e4 e5 N 0 g h0 (h 87) 0 0 _ _ _ (by omega) rfl (by omega) (by omega) (Fr.refl h0) C0 e2 (fun h1 F1 r => ?_)
  have X1 : Fix sh h1 := F1.fix C0.1 (by decide +kernel)
  generalize hA : rgF L n m N g (h 87) 0 = A at o1 o2 o3 o4 r ⊢
  simp only [pushR0]
  rw [B_147_65 X1, sp_graT X1 o3]
  have X2 : Fix sh (cTell h1 A.1) := cTell_fr.fix X1 (by decide +kernel)
  have X3 : Fix sh (setH (cTell h1 A.1) 85 0 0) := X2.s (by decide +kernel)
  have F3 : Fr [78, 48, 49, 81, 82, 83, 84] [(76, 2), (76, 4), (76, 5), (0, 16), (85, 0)] h (setH (cTell h1 A.1) 85 0 0) := (((F0.mono rfl).trans (F1.mono rfl)).trans (cTell_fr.mono rfl)).set rfl
  have F31 : Fr [84] [(0, 16), (85, 0)] h1 (setH (cTell h1 A.1) 85 0 0) := (cTell_fr.mono rfl).set rfl
  simp only [pushR0]
  -- the reference's side
  rw [B_147_68 X2, B_277_0 X2, hx.w, sp_in hx.l ⟨by decide, by decide⟩ ⟨by decide, by decide⟩, if_pos (by omega)]
  simp only [pushR0]
  rw [B_277_14 X3, show w32 1 = 1 from rfl, if_neg (by decide), hy.w, sp_in hy.l ⟨by decide, by decide⟩ ⟨by decide, by decide⟩, if_pos (by omega)]
  simp only [pushR0]
  rw [B_277_26 X3, show w32 1 = 1 from rfl, if_pos (by decide), F3.row 87 rfl, W.1.1, W.1.2.2.1, w32_id (a := (n : Int)) (by omega) (by omega), w32_id (a := (m : Int)) (by omega) (by omega), if_neg (by omega), if_pos (by omega)]
  have t016 : setH (cTell h1 A.1) 85 0 0 0 16 = cTell h1 A.1 0 16 := by rw [setH_o (by decide)]
  have t84 : setH (cTell h1 A.1) 85 0 0 84 = cTell h1 A.1 84 := by rw [setH_o (by decide)]
  generalize setH (cTell h1 A.1) 85 0 0 = h3 at X3 F3 F31 t016 t84 ⊢
  refine sp_keepAll (k := 16) X3 rfl (by omega) (fun h4 F4 g1 g2 => ?_)
  have X4 : Fix sh h4 := F4.fix X3 (by decide +kernel)
  have X5 : Fix sh (setH h4 85 60 (g : Int)) := X4.s (by decide +kernel)
  simp only [pushR9]
  rw [B_277_66 X4, hx.w]
  have F5 : Fr [90] [(85, 60)] h3 (setH h4 85 60 (g : Int)) := (F4.mono rfl).set rfl
  have e60 : setH h4 85 60 (g : Int) 85 60 = (g : Int) := setH_self _ _ _ _
  have e90 : setH h4 85 60 (g : Int) 90 = h4 90 := setH_o (by decide)
  generalize setH h4 85 60 (g : Int) = h5 at X5 F5 e60 e90 ⊢
  have M5 : MJ sh h5 (h 87) n m L := ⟨X5, by rw [F5.row 87 rfl, F3.row 87 rfl], by rw [F5.at 85 20 rfl, F3.at 85 20 rfl]; exact I.od, W, B⟩
  refine lp_reignM (by omega) (by omega) (by omega) h5 N 0 g h5 (h 87) 0 0 _ _ _ (by omega) rfl (by omega) (by omega) (Fr.refl h5) M5 e60 (fun h6 j5 j6 j7 F6 e6 => ?_)
  rw [hA] at e6 ⊢
  have X6 : Fix sh h6 := F6.fix X5 (by decide +kernel)
  refine lp_rout X6 (fun h7 F7 e7 => ?_) 44 0 h6 _ (by omega) rfl (Fr.refl h6) (fun j hj => by omega)
  have X7 : Fix sh h7 := F7.fix X6 (by decide +kernel)
  have q87 : h7 87 = A.2 := by rw [F7.row 87 rfl]; exact e6
  have X8 : Fix sh (setH (setH h7 85 62 (h7 87 0)) 85 63 (h7 87 1)) := (X7.s (by decide +kernel)).s (by decide +kernel)
  have F8 : Fr [] [(85, 62), (85, 63)] h7 (setH (setH h7 85 62 (h7 87 0)) 85 63 (h7 87 1)) := ((Fr.refl h7).set rfl).set rfl
  have e62 : setH (setH h7 85 62 (h7 87 0)) 85 63 (h7 87 1) 85 62 = (n : Int) := by rw [setH_k (by decide), setH_self, q87, o2 0 (by omega)]; exact W.1.1
  have e63 : setH (setH h7 85 62 (h7 87 0)) 85 63 (h7 87 1) 85 63 = (m : Int) := by rw [setH_self, q87, o2 1 (by omega)]; exact W.1.2.2.1
  generalize setH (setH h7 85 62 (h7 87 0)) 85 63 (h7 87 1) = h8 at X8 F8 e62 e63 ⊢
  refine sp_putBack (k := 16) X8 rfl (by omega) (fun h9 F9 p1 p2 => ?_)
  have X9 : Fix sh h9 := F9.fix X8 (by decide +kernel)
  simp only [pushR9]
  rw [B_277_271 X9, sp_telT X9 (by omega)]
  have Fm := mTell_fr (h := h9) (x := A.1)
  simp only [pushR0]
  rw [B_277_276 (Fm.fix X9 (by decide +kernel))]
  refine ⟨_, rfl, rfl, by omega, by omega, ?_⟩
  have F39 : Fr [87, 90, 103, 105, 106, 119] [(85, 34), (85, 38), (85, 39), (85, 40), (85, 60), (85, 62), (85, 63)] h3 h9 := ((((F5.mono rfl).trans (F6.mono rfl)).trans (F7.mono rfl)).trans (F8.mono rfl)).trans (F9.mono rfl)
  have F : Fr [78, 48, 49, 81, 82, 83, 84, 86, 87, 90, 103, 105, 106, 119] [(76, 2), (76, 4), (76, 5), (0, 16), (85, 0), (85, 1), (85, 34), (85, 38), (85, 39), (85, 40), (85, 60), (85, 62), (85, 63)] h (mTell h9 A.1) := ((F3.mono rfl).trans (F39.mono rfl)).trans (Fm.mono rfl)
  have h120 : ∀ q, 120 ≤ q → mTell h9 A.1 q = h q := (F.cg (R := []) (C := []) (by decide +kernel)).2.2
  have q90 : h8 90 = h4 90 := by rw [F8.row 90 rfl, F7.row 90 rfl, F6.row 90 rfl, e90]
  have e87 : mTell h9 A.1 87 = h 87 := by
    rw [Fm.row 87 rfl]
    funext i
    by_cases hi : 5 ≤ i ∧ i < 49
    · have := p1 (i - 5) (by omega)
      rw [show 5 + (i - 5) = i by omega, q90, g1 (i - 5) (by omega), show 5 + (i - 5) = i by omega, F3.row 87 rfl] at this
      exact this
    · rw [p2 i (by omega), F8.row 87 rfl, q87]; exact o2 i (by omega)
  have f119 : ∀ i, 5 ≤ i → i < 49 → mTell h9 A.1 119 (i - 5) = A.2 i := fun i i1 i2 => by
    rw [Fm.row 119 rfl, F9.row 119 rfl, F8.row 119 rfl, e7 (i - 5) (by omega), e6, show 5 + (i - 5) = i by omega]
  have f78 : mTell h9 A.1 78 = h1 78 := by rw [Fm.row 78 rfl, F39.row 78 rfl, F31.row 78 rfl]
  obtain ⟨q1, q2⟩ := Hs
  refine ⟨F.fix X (by decide +kernel), ⟨n, m, L, ⟨?_, ?_, ?_, ?_⟩, ?_⟩, ?_, ?_, ?_, I.tape.cg (F.cg (by decide +kernel)), ?_, by rw [F.at 85 20 rfl]; exact I.od⟩
  · rw [e87]
    refine S.of (F.row 1 rfl) (fun j j1 j2 => ?_) h120
    rcases (show j = 1 ∨ j = 2 ∨ j = 3 ∨ j = 4 ∨ j = 5 ∨ j = 6 ∨ j = 7 by omega) with rfl | rfl | rfl | rfl | rfl | rfl | rfl <;> exact F.row _ rfl
  · rw [e87, F.row 10 rfl]; exact R
  · rw [e87]; exact W
  · rw [e87]; exact B
  · unfold Hist
    rw [e87, F.at 85 8 rfl, F.at 44 3 rfl, F.at 44 2 rfl, F.row 45 rfl, F.row 46 rfl, F.row 91 rfl]
    refine ⟨q1, q2.cgU hn10 hm3 (fun i hi => ?_)⟩
    rw [Fm.row 90 rfl, F9.row 90 rfl, q90, g2 i (by omega), F3.row 90 rfl]
  · exact I.2.2.1.cg0 (F.cg (by decide +kernel))
  · exact I.2.2.2.1.cg1 (F.cg (by decide +kernel))
  · refine Or.inr ⟨n, m, ⟨by omega, hn10, by omega, hm3⟩, ?_, ?_, ?_, ?_, ?_, ?_⟩
    · rw [Fm.at 76 4 rfl, F39.at 76 4 rfl, F31.at 76 4 rfl, F1.at 76 4 rfl]; exact e4
    · rw [Fm.at 85 62 rfl, F9.at 85 62 rfl]; exact e62
    · rw [Fm.at 76 5 rfl, F39.at 76 5 rfl, F31.at 76 5 rfl, F1.at 76 5 rfl]; exact e5
    · rw [Fm.at 85 63 rfl, F9.at 85 63 rfl]; exact e63
    · rw [f78]; exact r.of o1 hn10 hm3 (fun _ _ => rfl) f119
    · exact o1.of hn10 hm3 f119
  · obtain ⟨t1, t2, t3, t4, t5⟩ := I.scal
    refine Scal.tell (h := h) (h1 := h1) (by omega) I.scal (by rw [F1.row 84 rfl, F0.row 84 rfl]) (by rw [F39.row 86 rfl, F3.row 86 rfl]) ?_ ?_ ?_ ?_ ?_
    · rw [F39.at 0 16 rfl]; exact t016
    · rw [F39.row 84 rfl]; exact t84
    · rw [F39.at 0 15 rfl, F3.at 0 15 rfl, F39.at 85 11 rfl, F3.at 85 11 rfl]; exact t1
    · rw [F39.at 43 10 rfl, F3.at 43 10 rfl, F39.at 85 18 rfl, F3.at 85 18 rfl]; exact t4
    · rw [F39.at 52 10 rfl, F3.at 52 10 rfl, F39.at 85 58 rfl, F3.at 85 58 rfl]; exact t5
