/-! ===== beside: the reference's side, the call ===== -/
section BESIDEM
variable {sc : Nat × (Nat → Int)} {d : Nat} {sh : Shp} {sl : Nat} {h : Sto} {Q : Pst} {G : Nat → Int} {n m : Nat} {L : List Law}
abbrev BsM : List Nat := [103, 105, 113]
theorem lp_bsM {o : Nat} {x1 x3 x4 : Int} (M : MJ sh h G n m L) (ho : o < n) (h3 : 0 ≤ x3 ∧ x3 ≤ 100000000) (hq : ∀ (h' : Sto) (j6 j7 j8 : V), Fr BsM MS h h' → WF sc (d + 8) 260 36 [(2, 85), (0, x1), (0, ((msk (suP G L) n : Nat) : Int)), (0, if x3 ≤ (bsS G L (suP G L) o n).2 then x3 else (bsS G L (suP G L) o n).2), (0, if x3 ≤ (bsS G L (suP G L) o n).2 then x4 else (o : Int)), (0, (o : Int) + 1), j6, j7, j8] [] sh sl h' Q) : ∀ (rem s : Nat) (h' : Sto) (Sx Mx : Int) (j8 : V), s + rem = n → Sx = s → Mx = (bsS G L (suP G L) o s).2 → Fr BsM MS h h' → (∀ j, j < 22 → h' 113 j = (bsS G L (suP G L) o s).1 j) → WF sc (d + 8) 260 77 [(2, 85), (0, x1), (0, ((msk (suP G L) n : Nat) : Int)), (0, x3), (0, x4), (0, (o : Int)), (0, Mx), (0, Sx), j8] [] sh sl h' Q := by
  have W := M.2.2.2.1
  have hn10 := W.1.2.1
  have mb := msk_lt10 (p := suP G L) hn10
  have w3 : w32 x3 = x3 := w32_id (by omega) (by omega)
  intro rem
  induction rem with
  | zero =>
    intro s h' Sx Mx j8 hs hS hM F e
    subst hS hM
    have hsn : s = n := by omega
    subst hsn
    have sb := (bsS_b (p := suP G L) W ho s (Nat.le_refl s)).2.1
    rw [B_260_77 (F.fix M.1 (by decide +kernel)), F.row 87 rfl, M.2.1, W.1.1, w32_id (a := (s : Int)) (by omega) (by omega), if_pos (by omega), w3, w32_id (a := (bsS G L (suP G L) o s).2) (by omega) (by omega)]
    by_cases hc : x3 ≤ (bsS G L (suP G L) o s).2
    · simp only [if_pos hc] at hq
      rw [if_pos hc, if_pos hc]; exact hq h' _ _ _ F
    · simp only [if_neg hc] at hq
      rw [if_neg hc, if_neg hc]; exact hq h' _ _ _ F
  | succ rem ih =>
    intro s h' Sx Mx j8 hs hS hM F e
    subst hS
    have sb := bsS_b (p := suP G L) W ho s (by omega)
    have ib := bsI_b W ho (show s < n by omega)
    have hsn : s < n := by omega
    have X' : Fix sh h' := F.fix M.1 (by decide +kernel)
    rw [B_260_77 X', F.row 87 rfl, M.2.1, W.1.1, w32_id (a := (n : Int)) (by omega) (by omega), w32_id (a := (s : Int)) (by omega) (by omega), if_neg (by omega), B_247_0 X', bit_nat (by omega) (by omega), msk_bit, decide_eq_true hsn, Bool.true_and]
    by_cases hp : suP G L s = true
    case neg =>
      have en : bsS G L (suP G L) o (s + 1) = bsS G L (suP G L) o s := by simp only [bsS, if_neg hp]
      rw [if_neg hp, w32_0, if_pos (by decide)]
      simp only [pushR0]
      rw [B_260_94 X', w32_0, if_pos rfl]
      exact ih (s + 1) h' _ _ _ (by omega) (by simp) (by rw [en]; exact hM) F (fun j hj => by rw [en]; exact e j hj)
    have en1 : (bsS G L (suP G L) o (s + 1)).1 = up (bsS G L (suP G L) o s).1 (bsI G L o s) ((bsS G L (suP G L) o s).1 (bsI G L o s) + 1) := by simp only [bsS, if_pos hp]
    have en2 : (bsS G L (suP G L) o (s + 1)).2 = max (bsS G L (suP G L) o s).2 ((bsS G L (suP G L) o s).1 (bsI G L o s) + 1) := by simp only [bsS, if_pos hp]
    have sq := sb.1 (bsI G L o s)
    have i22 : bsI G L o s < 22 := by
      by_cases es : s = o
      · rw [ib.1 es]; omega
      · have := (ib.2 es).1; omega
    rw [if_pos hp, show w32 1 = 1 from rfl, if_neg (by decide)]
    simp only [pushR0]
    rw [B_260_94 X', show w32 1 = 1 from rfl, if_neg (by decide), w32_id (a := (s : Int)) (by omega) (by omega), w32_id (a := (o : Int)) (by omega) (by omega)]
    -- behind the number of the slot
    have go : ∀ h1, Fr BsM MS h h1 → h1 113 = h' 113 → WF sc (d + 8) 260 117 [(2, 85), (0, x1), (0, ((msk (suP G L) n : Nat) : Int)), (0, x3), (0, x4), (0, (o : Int)), (0, Mx), (0, (s : Int)), j8] [(0, ((bsI G L o s : Nat) : Int))] sh sl h1 Q := by
      intro h1 F1 e1
      rw [B_260_117 (F1.fix M.1 (by decide +kernel)), w32_id (a := ((bsI G L o s : Nat) : Int)) (by omega) (by omega), Int.toNat_natCast, e1, e _ i22, hM, w32_id (a := (bsS G L (suP G L) o s).2) (by omega) (by omega), w32_id (a := (bsS G L (suP G L) o s).1 (bsI G L o s) + 1) (by omega) (by omega)]
      have nxt : ∀ j, j < 22 → setH h1 113 (bsI G L o s) ((bsS G L (suP G L) o s).1 (bsI G L o s) + 1) 113 j = (bsS G L (suP G L) o (s + 1)).1 j := fun j hj => by
        rw [en1]
        by_cases ej : j = bsI G L o s
        · rw [ej, setH_self, up_s]
        · rw [setH_k ej, up_n ej, e1]; exact e j hj
      refine ⟨⟨by omega, by omega⟩, ⟨by omega, by omega⟩, ⟨by omega, by omega⟩, ?_⟩
      by_cases hc : (bsS G L (suP G L) o s).1 (bsI G L o s) + 1 ≤ (bsS G L (suP G L) o s).2
      · rw [if_pos hc]
        exact ih (s + 1) _ _ _ _ (by omega) (by simp) (by rw [en2]; omega) (F1.setP rfl) nxt
      · rw [if_neg hc]
        exact ⟨⟨by omega, by omega⟩, ih (s + 1) _ _ _ _ (by omega) (by simp) (by rw [en2]; omega) (F1.setP rfl) nxt⟩
    by_cases es : s = o
    · have g := go h' F rfl
      rw [ib.1 es] at g
      rw [if_neg (by omega)]
      exact g
    · rw [if_pos (by omega)]
      have MM : MJ sh h' G n m L := M.of F (by decide +kernel) (by decide +kernel)
      refine sp_quarrelOf MM hsn ho (fun h1 F1 => ?_)
      simp only [pushR0]
      rw [(ib.2 es).2]
      exact go h1 (F.trans (F1.mono rfl)) (F1.row 113 rfl)
theorem lp_zM {o : Nat} {x1 x3 x4 : Int} (M : MJ sh h G n m L) (ho : o < n) (h3 : 0 ≤ x3 ∧ x3 ≤ 100000000) (hq : ∀ (h' : Sto) (j6 j7 j8 : V), Fr BsM MS h h' → WF sc (d + 8) 260 36 [(2, 85), (0, x1), (0, ((msk (suP G L) n : Nat) : Int)), (0, if x3 ≤ (bsS G L (suP G L) o n).2 then x3 else (bsS G L (suP G L) o n).2), (0, if x3 ≤ (bsS G L (suP G L) o n).2 then x4 else (o : Int)), (0, (o : Int) + 1), j6, j7, j8] [] sh sl h' Q) : ∀ (rem i : Nat) (h' : Sto) (I : Int) (j7 j8 : V), i + rem = 22 → I = i → Fr BsM MS h h' → (∀ j, j < i → h' 113 j = 0) → WF sc (d + 8) 260 50 [(2, 85), (0, x1), (0, ((msk (suP G L) n : Nat) : Int)), (0, x3), (0, x4), (0, (o : Int)), (0, I), j7, j8] [] sh sl h' Q := by
  intro rem
  induction rem with
  | zero =>
    intro i h' I j7 j8 hi hI F e
    subst hI
    rw [B_260_50 (F.fix M.1 (by decide +kernel)), w32_id (a := (i : Int)) (by omega) (by omega), if_pos (by omega)]
    exact lp_bsM M ho h3 hq n 0 h' _ _ _ (by omega) rfl rfl F (fun j hj => e j (by omega))
  | succ rem ih =>
    intro i h' I j7 j8 hi hI F e
    subst hI
    rw [B_260_50 (F.fix M.1 (by decide +kernel)), w32_id (a := (i : Int)) (by omega) (by omega), if_neg (by omega), Int.toNat_natCast]
    refine ⟨⟨by omega, by omega⟩, ih (i + 1) _ _ _ _ (by omega) (by simp) (F.setP rfl) (fun j hj => ?_)⟩
    by_cases ej : j = i
    · rw [ej, setH_self]
    · rw [setH_k ej]; exact e j (by omega)
theorem lp_boM {x1 : Int} (hx : I32 x1) (M : MJ sh h G n m L) (hq : ∀ h', Fr BsM MS h h' → Q (0, if x1 = 0 then (bsO G L (suP G L) n n).1 else (bsO G L (suP G L) n n).2) sh sl h') : ∀ (rem o : Nat) (h' : Sto) (O x3 x4 : Int) (j6 j7 j8 : V), o + rem = n → O = o → x3 = (bsO G L (suP G L) n o).2 → x4 = (bsO G L (suP G L) n o).1 → Fr BsM MS h h' → WF sc (d + 8) 260 36 [(2, 85), (0, x1), (0, ((msk (suP G L) n : Nat) : Int)), (0, x3), (0, x4), (0, O), j6, j7, j8] [] sh sl h' Q := by
  have W := M.2.2.2.1
  have hn10 := W.1.2.1
  intro rem
  induction rem with
  | zero =>
    intro o h' O x3 x4 j6 j7 j8 ho hO h3 h4 F
    subst hO h3 h4
    have hon : o = n := by omega
    subst hon
    rw [B_260_36 (F.fix M.1 (by decide +kernel)), F.row 87 rfl, M.2.1, W.1.1, w32_id (a := (o : Int)) (by omega) (by omega), if_pos (by omega), hx.w]
    have := hq h' F
    by_cases h0 : x1 = 0
    · rw [if_pos h0] at this
      rw [if_neg (by simpa using h0)]; exact this
    · rw [if_neg h0] at this
      rw [if_pos h0]; exact this
  | succ rem ih =>
    intro o h' O x3 x4 j6 j7 j8 ho hO h3 h4 F
    subst hO
    have ob := bsO_b (p := suP G L) W o (by omega)
    have hb3 : 0 ≤ x3 ∧ x3 ≤ 100000000 := by
      by_cases o0 : o = 0
      · have := ob.1 o0
        rw [this] at h3
        have h3' : x3 = 100000000 := h3
        omega
      · have := (ob.2 (by omega)).2
        omega
    rw [B_260_36 (F.fix M.1 (by decide +kernel)), F.row 87 rfl, M.2.1, W.1.1, w32_id (a := (n : Int)) (by omega) (by omega), w32_id (a := (o : Int)) (by omega) (by omega), if_neg (by omega)]
    have MM : MJ sh h' G n m L := M.of F (by decide +kernel) (by decide +kernel)
    have en : bsO G L (suP G L) n (o + 1) = if (bsO G L (suP G L) n o).2 ≤ (bsS G L (suP G L) o n).2 then bsO G L (suP G L) n o else ((o : Int), (bsS G L (suP G L) o n).2) := rfl
    rw [← h3] at en
    refine lp_zM MM (by omega) hb3 (fun h1 j6 j7 j8 F1 => ?_) 22 0 h' _ _ _ (by omega) rfl (Fr.refl h') (fun j hj => by omega)
    refine ih (o + 1) h1 _ _ _ _ _ _ (by omega) (by simp) ?_ ?_ (F.trans F1)
    · by_cases hc : x3 ≤ (bsS G L (suP G L) o n).2
      · rw [if_pos hc] at en
        rw [if_pos hc, en]; exact h3
      · rw [if_neg hc] at en
        rw [if_neg hc, en]
    · by_cases hc : x3 ≤ (bsS G L (suP G L) o n).2
      · rw [if_pos hc] at en
        rw [if_pos hc, en]; exact h4
      · rw [if_neg hc] at en
        rw [if_neg hc, en]
end BESIDEM
theorem op_beside {x : Int} (hx : I32 x) : OpOK 135 260 0 [(0, x)] := by
  intro sc d sh sl h I
  have X := I.fx
  obtain ⟨n, m, L, Lv, Hs⟩ := I.live
  have C := Lv.cj X
  have M := Lv.mj X I.od
  have W := M.2.2.2.1
  have hn10 := W.1.2.1
  have mb := msk_lt10 (p := suP (h 87) L) hn10
  -- the reference's side, behind the class's
  have hM : ∀ (h1 : Sto) (v : Int), Fr [48, 49, 81, 82, 74] [(71, 6), (71, 7)] h h1 → v = (if (0 ≤ x ∧ x ≤ 1) ∧ msk (suP (h 87) L) n ≠ 0 then (if x = 0 then (bsO (h 87) L (suP (h 87) L) n n).1 else (bsO (h 87) L (suP (h 87) L) n n).2) else -1) → WM sc (d + 100) 260 [(2, 85), (0, x)] sh sl h1 (fun r2 sh2 sl2 h2 => ∃ v', ((0 : Nat), v) = (0, v') ∧ r2 = (0, v') ∧ sh2.length ≤ sh.length + 9 ∧ sl2 ≤ sl + 900 ∧ INV sh2 h2) := by
    intro h1 v F1 hv
    have X1 : Fix sh h1 := F1.fix X (by decide +kernel)
    have F2 : Fr [48, 49, 81, 82, 74] [(71, 6), (71, 7), (85, 0)] h (setH h1 85 0 0) := (F1.mono rfl).set rfl
    have M2 : MJ sh (setH h1 85 0 0) (h 87) n m L := M.of F2 (by decide +kernel) (by decide +kernel)
    rw [B_260_0 X1]
    refine sp_that M2 (fun h3 F3 => ?_)
    have M3 : MJ sh h3 (h 87) n m L := M2.fr F3
    simp only [pushR0]
    rw [B_260_9 M3.1, hx.w, sp_in hx.l ⟨by decide, by decide⟩ ⟨by decide, by decide⟩]
    simp only [pushR0]
    rw [B_260_17 M3.1, w32_id (a := ((msk (suP (h 87) L) n : Nat) : Int)) (by omega) (by omega)]
    by_cases c1 : 0 ≤ x ∧ x ≤ 1
    case neg =>
      rw [if_neg (fun q => c1 q.1)] at hv
      subst hv
      rw [if_neg c1, w32_0, if_pos rfl]
      exact ⟨_, rfl, rfl, by omega, by omega, I.two F2 F3 (by decide +kernel) (by decide +kernel) (by decide +kernel) (by decide +kernel)⟩
    rw [if_pos c1, show w32 1 = 1 from rfl, if_neg (by decide)]
    by_cases c2 : msk (suP (h 87) L) n = 0
    · rw [if_neg (fun q => q.2 c2)] at hv
      subst hv
      rw [if_neg (by omega)]
      exact ⟨_, rfl, rfl, by omega, by omega, I.two F2 F3 (by decide +kernel) (by decide +kernel) (by decide +kernel) (by decide +kernel)⟩
    · rw [if_pos ⟨c1, c2⟩] at hv
      subst hv
      rw [if_pos (by omega)]
      refine lp_boM hx M3 (fun h4 F4 => ?_) n 0 h3 _ _ _ _ _ _ (by omega) rfl rfl rfl (Fr.refl h3)
      have F5 : Fr [103, 105, 113] MS (setH h1 85 0 0) h4 := (F3.mono rfl).trans F4
      exact ⟨_, rfl, rfl, by omega, by omega, I.two F2 F5 (by decide +kernel) (by decide +kernel) (by decide +kernel) (by decide +kernel)⟩
  rw [B_135_0 X, hx.w]
  by_cases a1 : x < 0
  · rw [if_pos a1]; exact hM h _ (Fr.refl h) (by rw [if_neg (by omega)])
  rw [if_neg a1]
  by_cases a2 : 1 < x
  · rw [if_pos a2]; exact hM h _ (Fr.refl h) (by rw [if_neg (by omega)])
  rw [if_neg a2, B_136_0 X]
  refine sp_suspects C (fun h1 F1 => ?_)
  have C1 : CJ sh h1 (h 87) n m L 10 := C.fr F1 (Or.inl rfl)
  simp only [pushR0]
  rw [B_136_4 C1.1]
  have F2 : Fr BsP BsQ h (setH (setH h1 71 6 (-1)) 71 7 (-1)) := ((F1.mono rfl).set rfl).set rfl
  have C2 : CJ sh (setH (setH h1 71 6 (-1)) 71 7 (-1)) (h 87) n m L 10 := C.of F2 (by decide +kernel) (by decide +kernel) (F2.row 10 rfl)
  have e6 : setH (setH h1 71 6 (-1)) 71 7 (-1) 71 6 = -1 := by rw [setH_k (by decide), setH_self]
  by_cases c2 : msk (suP (h 87) L) n = 0
  · rw [B_136_17 C2.1, e6, show w32 (-1) = -1 from rfl, if_pos rfl, c2, show w32 ((0 : Nat) : Int) = 0 from rfl, if_pos rfl]
    have go : Fix sh (setH (setH h1 71 6 (-1)) 71 7 (-1)) := C2.1
    split
    · simp only [pushR0]
      rw [B_135_16 go, w32_0, if_neg (by simp)]
      exact hM _ _ F2 (by rw [if_neg (fun q => q.2 c2)])
    · simp only [pushR0]
      rw [B_135_16 go, w32_0, if_neg (by simp)]
      exact hM _ _ F2 (by rw [if_neg (fun q => q.2 c2)])
  · have hn0 : n ≠ 0 := fun e => c2 (by rw [e]; rfl)
    refine lp_boC C2 c2 (fun h3 F3 r6 r7 => ?_) n 0 _ _ _ (by omega) rfl (Fr.refl _) (by rw [e6]; rfl) (fun q => by omega)
    have F4 : Fr BsP BsQ h h3 := F2.trans F3
    simp only [pushR0]
    rw [B_135_16 (F4.fix X (by decide +kernel)), if_neg hn0, show w32 1 = 1 from rfl, if_pos (by decide), hx.w]
    by_cases x0 : x = 0
    · rw [if_neg (by simpa using x0)]
      exact hM h3 _ F4 (by rw [if_pos ⟨by omega, c2⟩, if_pos x0]; exact r6)
    · rw [if_pos x0]
      exact hM h3 _ F4 (by rw [if_pos ⟨by omega, c2⟩, if_neg x0]; exact r7 (by omega))
