/-! ===== beside ===== -/
def bsI (G : Nat → Int) (L : List Law) (o s : Nat) : Nat := if s = o then 21 else (quarrelA G L s o).toNat
def bsS (G : Nat → Int) (L : List Law) (p : Nat → Bool) (o : Nat) : Nat → (Nat → Int) × Int
  | 0 => (fun _ => 0, 0)
  | s + 1 => if p s = true then (up (bsS G L p o s).1 (bsI G L o s) ((bsS G L p o s).1 (bsI G L o s) + 1), max (bsS G L p o s).2 ((bsS G L p o s).1 (bsI G L o s) + 1)) else bsS G L p o s
def bsO (G : Nat → Int) (L : List Law) (p : Nat → Bool) (n : Nat) : Nat → Int × Int
  | 0 => (-1, 100000000)
  | o + 1 => if (bsO G L p n o).2 ≤ (bsS G L p o n).2 then bsO G L p n o else ((o : Int), (bsS G L p o n).2)
theorem bsI_b {G : Nat → Int} {n m o s : Nat} {L : List Law} (W : SW G n m L) (ho : o < n) (hs : s < n) : (s = o → bsI G L o s = 21) ∧ (s ≠ o → bsI G L o s < 21 ∧ quarrelA G L s o = ((bsI G L o s : Nat) : Int)) := by
  have q := quarrelA_bd W hs ho
  unfold bsI
  refine ⟨fun e => by rw [if_pos e], fun e => ?_⟩
  rw [if_neg e]; omega
theorem bsS_b {G : Nat → Int} {n m o : Nat} {L : List Law} {p : Nat → Bool} (W : SW G n m L) (ho : o < n) : ∀ s, s ≤ n → (∀ j, 0 ≤ (bsS G L p o s).1 j ∧ (bsS G L p o s).1 j ≤ s) ∧ (0 ≤ (bsS G L p o s).2 ∧ (bsS G L p o s).2 ≤ s) ∧ (s ≤ o → (bsS G L p o s).1 21 = 0) := by
  intro s
  induction s with
  | zero => intro _; exact ⟨fun j => ⟨Int.le_refl _, Int.le_refl _⟩, ⟨Int.le_refl _, Int.le_refl _⟩, fun _ => rfl⟩
  | succ s ih =>
    intro hs
    obtain ⟨i1, i2, i3⟩ := ih (by omega)
    have ib := bsI_b W ho (show s < n by omega)
    have i1b := i1 (bsI G L o s)
    simp only [bsS]
    split
    · refine ⟨fun j => ?_, ?_, fun h => ?_⟩
      · show 0 ≤ up _ _ _ j ∧ up _ _ _ j ≤ _
        by_cases e : j = bsI G L o s
        · rw [e, up_s]; omega
        · rw [up_n e]; have := i1 j; omega
      · show 0 ≤ max _ _ ∧ max _ _ ≤ _
        omega
      · show up _ _ _ 21 = 0
        have := (ib.2 (by omega)).1
        rw [up_n (by omega)]; exact i3 (by omega)
    · refine ⟨fun j => by have := i1 j; omega, by omega, fun h => i3 (by omega)⟩
theorem bsO_b {G : Nat → Int} {n m : Nat} {L : List Law} {p : Nat → Bool} (W : SW G n m L) : ∀ o, o ≤ n → (o = 0 → bsO G L p n o = (-1, 100000000)) ∧ (0 < o → (0 ≤ (bsO G L p n o).1 ∧ (bsO G L p n o).1 < o) ∧ 0 ≤ (bsO G L p n o).2 ∧ (bsO G L p n o).2 ≤ n) := by
  intro o
  induction o with
  | zero => intro _; exact ⟨fun _ => rfl, fun h => by omega⟩
  | succ o ih =>
    intro ho
    obtain ⟨i1, i2⟩ := ih (by omega)
    have hn10 := W.1.2.1
    have sb := (bsS_b (p := p) W (show o < n by omega) n (Nat.le_refl n)).2.1
    refine ⟨fun h => by omega, fun _ => ?_⟩
    simp only [bsO]
    by_cases o0 : o = 0
    · have e := i1 o0
      rw [e, if_neg (by show ¬ (100000000 : Int) ≤ _; omega)]
      exact ⟨⟨by show (0 : Int) ≤ (o : Int); omega, by show (o : Int) < _; omega⟩, sb.1, sb.2⟩
    · have i3 := i2 (by omega)
      split
      · exact ⟨⟨i3.1.1, by omega⟩, i3.2⟩
      · exact ⟨⟨by show (0 : Int) ≤ (o : Int); omega, by show (o : Int) < _; omega⟩, sb.1, sb.2⟩
section BESIDE
variable {sc : Nat × (Nat → Int)} {d : Nat} {sh : Shp} {sl : Nat} {h : Sto} {Q : Pst} {G : Nat → Int} {n m : Nat} {L : List Law}
abbrev BsP : List Nat := [48, 49, 81, 82, 74]
theorem lp_bsC {o : Nat} (C : CJ sh h G n m L 10) (ho : o < n) (hq : ∀ h', Fr BsP [] h h' → Q (0, (bsS G L (suP G L) o n).2) sh sl h') : ∀ (rem s : Nat) (h' : Sto) (Sx M : Int) (j5 j6 : V), s + rem = n → Sx = s → M = (bsS G L (suP G L) o s).2 → Fr BsP [] h h' → (∀ j, j < 21 → h' 74 j = (bsS G L (suP G L) o s).1 j) → WF sc (d + 4) 137 26 [(2, 71), (0, ((msk (suP G L) n : Nat) : Int)), (0, (o : Int)), (0, M), (0, Sx), j5, j6] [] sh sl h' Q := by
  have W := C.2.2.2.1
  have hn10 := W.1.2.1
  have mb := msk_lt10 (p := suP G L) hn10
  intro rem
  induction rem with
  | zero =>
    intro s h' Sx M j5 j6 hs hS hM F e
    subst hS hM
    have hsn : s = n := by omega
    rw [B_137_26 (F.fix C.1 (by decide +kernel)), F.at 1 0 rfl, C.2.1.1.1, w32_id (a := (n : Int)) (by omega) (by omega), w32_id (a := (s : Int)) (by omega) (by omega), if_pos (by omega), hsn]
    exact hq h' F
  | succ rem ih =>
    intro s h' Sx M j5 j6 hs hS hM F e
    subst hS
    have sb := bsS_b (p := suP G L) W ho s (by omega)
    have ib := bsI_b W ho (show s < n by omega)
    have hsn : s < n := by omega
    rw [B_137_26 (F.fix C.1 (by decide +kernel)), F.at 1 0 rfl, C.2.1.1.1, w32_id (a := (n : Int)) (by omega) (by omega), w32_id (a := (s : Int)) (by omega) (by omega), if_neg (by omega), bit_nat (by omega) (by omega), msk_bit, decide_eq_true hsn, Bool.true_and, w32_id (a := (o : Int)) (by omega) (by omega)]
    by_cases hp : suP G L s = true
    case neg =>
      have en : bsS G L (suP G L) o (s + 1) = bsS G L (suP G L) o s := by simp only [bsS, if_neg hp]
      rw [if_neg hp, w32_0, if_neg (by simp)]
      exact ih (s + 1) h' _ _ _ _ (by omega) (by simp) (by rw [en]; exact hM) F (fun j hj => by rw [en]; exact e j hj)
    have en1 : (bsS G L (suP G L) o (s + 1)).1 = up (bsS G L (suP G L) o s).1 (bsI G L o s) ((bsS G L (suP G L) o s).1 (bsI G L o s) + 1) := by simp only [bsS, if_pos hp]
    have en2 : (bsS G L (suP G L) o (s + 1)).2 = max (bsS G L (suP G L) o s).2 ((bsS G L (suP G L) o s).1 (bsI G L o s) + 1) := by simp only [bsS, if_pos hp]
    rw [if_pos hp, show w32 1 = 1 from rfl, if_pos (by decide)]
    by_cases es : s = o
    · have e21 := ib.1 es
      rw [if_pos (by omega)]
      refine ih (s + 1) h' _ _ _ _ (by omega) (by simp) ?_ F (fun j hj => ?_)
      · rw [en2, e21, sb.2.2 (by omega), hM, w32_id (a := (bsS G L (suP G L) o s).2) (by omega) (by omega)]
        split <;> omega
      · rw [en1, e21, up_n (by omega)]; exact e j hj
    · obtain ⟨q1, q2⟩ := ib.2 es
      have sq := sb.1 (bsI G L o s)
      rw [if_neg (by omega)]
      have CC : CJ sh h' G n m L 10 := C.of F (by decide +kernel) (by decide +kernel) (F.row 10 rfl)
      refine sp_quarrel JQa CC hsn ho (fun h1 F1 => ?_)
      have F2 : Fr BsP [] h h1 := F.trans (F1.mono rfl)
      have X1 : Fix sh h1 := F2.fix C.1 (by decide +kernel)
      simp only [pushR0]
      rw [B_137_69 X1, q2, w32_id (a := ((bsI G L o s : Nat) : Int)) (by omega) (by omega), Int.toNat_natCast, F1.row 74 rfl, e _ q1, hM, w32_id (a := (bsS G L (suP G L) o s).2) (by omega) (by omega), w32_id (a := (bsS G L (suP G L) o s).1 (bsI G L o s) + 1) (by omega) (by omega)]
      refine ⟨⟨by omega, by omega⟩, ⟨by omega, by omega⟩, ⟨by omega, by omega⟩, ih (s + 1) _ _ _ _ _ (by omega) (by simp) ?_ (F2.setP rfl) (fun j hj => ?_)⟩
      · rw [en2]; split <;> omega
      · rw [en1]
        by_cases ej : j = bsI G L o s
        · rw [ej, setH_self, up_s]
        · rw [setH_k ej, up_n ej, F1.row 74 rfl]; exact e j hj
theorem lp_zC {o : Nat} (C : CJ sh h G n m L 10) (ho : o < n) (hq : ∀ h', Fr BsP [] h h' → Q (0, (bsS G L (suP G L) o n).2) sh sl h') : ∀ (rem i : Nat) (h' : Sto) (I : Int) (j4 j5 j6 : V), i + rem = 21 → I = i → Fr [74] [] h h' → (∀ j, j < i → h' 74 j = 0) → WF sc (d + 4) 137 2 [(2, 71), (0, ((msk (suP G L) n : Nat) : Int)), (0, (o : Int)), (0, I), j4, j5, j6] [] sh sl h' Q := by
  intro rem
  induction rem with
  | zero =>
    intro i h' I j4 j5 j6 hi hI F e
    subst hI
    have CC : CJ sh h' G n m L 10 := C.of F (by decide +kernel) (by decide +kernel) (F.row 10 rfl)
    rw [B_137_2 CC.1, w32_id (a := (i : Int)) (by omega) (by omega), if_pos (by omega)]
    refine lp_bsC CC ho (fun h2 F2 => hq h2 ((F.mono rfl).trans F2)) n 0 h' _ _ _ _ (by omega) rfl rfl (Fr.refl h') (fun j hj => e j (by omega))
  | succ rem ih =>
    intro i h' I j4 j5 j6 hi hI F e
    subst hI
    rw [B_137_2 (F.fix C.1 (by decide +kernel)), w32_id (a := (i : Int)) (by omega) (by omega), if_neg (by omega), Int.toNat_natCast]
    refine ⟨⟨by omega, by omega⟩, ih (i + 1) _ _ _ _ _ (by omega) (by simp) (F.setP rfl) (fun j hj => ?_)⟩
    by_cases ej : j = i
    · rw [ej, setH_self]
    · rw [setH_k ej]; exact e j (by omega)
abbrev BsQ : List (Nat × Nat) := [(71, 6), (71, 7)]
theorem lp_boC (C : CJ sh h G n m L 10) (hm0 : msk (suP G L) n ≠ 0) (hq : ∀ h', Fr BsP BsQ h h' → h' 71 6 = (bsO G L (suP G L) n n).1 → (0 < n → h' 71 7 = (bsO G L (suP G L) n n).2) → Q (0, if n = 0 then 0 else 1) sh sl h') : ∀ (rem o : Nat) (h' : Sto) (O : Int) (j3 : V), o + rem = n → O = o → Fr BsP BsQ h h' → h' 71 6 = (bsO G L (suP G L) n o).1 → (0 < o → h' 71 7 = (bsO G L (suP G L) n o).2) → WF sc (d + 5) 136 17 [(2, 71), (0, ((msk (suP G L) n : Nat) : Int)), (0, O), j3] [] sh sl h' Q := by
  have W := C.2.2.2.1
  have hn10 := W.1.2.1
  have mb := msk_lt10 (p := suP G L) hn10
  intro rem
  induction rem with
  | zero =>
    intro o h' O j3 ho hO F e6 e7
    subst hO
    have hon : o = n := by omega
    subst hon
    have ob := bsO_b (p := suP G L) W o (Nat.le_refl o)
    have := hq h' F e6 e7
    rw [B_136_17 (F.fix C.1 (by decide +kernel)), F.at 1 0 rfl, C.2.1.1.1, w32_id (a := (o : Int)) (by omega) (by omega), if_pos (by omega), e6]
    by_cases o0 : o = 0
    · rw [if_pos o0] at this
      rw [ob.1 o0, if_pos (show w32 (-1) = -1 from rfl)]; exact this
    · have b := ob.2 (by omega)
      rw [if_neg o0] at this
      rw [w32_id (a := (bsO G L (suP G L) o o).1) (by omega) (by omega), if_neg (by omega)]; exact this
  | succ rem ih =>
    intro o h' O j3 ho hO F e6 e7
    subst hO
    have ob := bsO_b (p := suP G L) W o (by omega)
    have hon : o < n := by omega
    have sb := (bsS_b (p := suP G L) W hon n (Nat.le_refl n)).2.1
    have CC : CJ sh h' G n m L 10 := C.of F (by decide +kernel) (by decide +kernel) (F.row 10 rfl)
    rw [B_136_17 CC.1, F.at 1 0 rfl, C.2.1.1.1, w32_id (a := (n : Int)) (by omega) (by omega), w32_id (a := (o : Int)) (by omega) (by omega), if_neg (by omega), w32_id (a := ((msk (suP G L) n : Nat) : Int)) (by omega) (by omega), if_neg (by omega), B_137_0 CC.1]
    refine lp_zC CC hon (fun h1 F1 => ?_) 21 0 h' _ _ _ _ (by omega) rfl (Fr.refl h') (fun j hj => by omega)
    have F2 : Fr BsP BsQ h h1 := F.trans (F1.mono rfl)
    have X1 : Fix sh h1 := F2.fix C.1 (by decide +kernel)
    simp only [pushR0]
    rw [B_136_38 X1, F1.at 71 6 rfl, e6]
    have en : bsO G L (suP G L) n (o + 1) = if (bsO G L (suP G L) n o).2 ≤ (bsS G L (suP G L) o n).2 then bsO G L (suP G L) n o else ((o : Int), (bsS G L (suP G L) o n).2) := rfl
    by_cases o0 : o = 0
    · have b := ob.1 o0
      rw [b, if_neg (by show ¬ (100000000 : Int) ≤ _; omega)] at en
      rw [b, if_pos (show w32 (-1) = -1 from rfl)]
      refine ih (o + 1) _ _ _ (by omega) (by simp) ((F2.set rfl).set rfl) (by rw [en, setH_k (by decide), setH_self]) (fun _ => by rw [en, setH_self])
    · have b := ob.2 (by omega)
      rw [w32_id (a := (bsO G L (suP G L) n o).1) (by omega) (by omega), if_neg (by omega), F1.at 71 7 rfl, e7 (by omega), w32_id (a := (bsO G L (suP G L) n o).2) (by omega) (by omega), w32_id (a := (bsS G L (suP G L) o n).2) (by omega) (by omega)]
      by_cases hc : (bsO G L (suP G L) n o).2 ≤ (bsS G L (suP G L) o n).2
      · rw [if_pos hc] at en
        rw [if_pos hc]
        exact ih (o + 1) _ _ _ (by omega) (by simp) F2 (by rw [en, F1.at 71 6 rfl]; exact e6) (fun _ => by rw [en, F1.at 71 7 rfl]; exact e7 (by omega))
      · rw [if_neg hc] at en
        rw [if_neg hc]
        exact ih (o + 1) _ _ _ (by omega) (by simp) ((F2.set rfl).set rfl) (by rw [en, setH_k (by decide), setH_self]) (fun _ => by rw [en, setH_self])
end BESIDE
