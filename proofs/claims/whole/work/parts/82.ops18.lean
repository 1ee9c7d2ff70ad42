section FEWC2
variable {sc : Nat × (Nat → Int)} {d : Nat} {sh : Shp} {sl : Nat} {h : Sto} {Q : Pst} {cn : Nat → Int} {n m N K : Nat} {G : Nat → Int} {L : List Law}
theorem lp_fwC (X : Fix sh h) (e0 : h 1 0 = (n : Int)) (hn10 : n ≤ 10) (hK : K ≤ 60) (ec : ∀ i, i < n → h 62 i = if N.testBit i = true then cn i else 0) (cb : ∀ i, i < n → 0 ≤ cn i ∧ cn i ≤ 60) (hq : ∀ h', Fr [68] [] h h' → Q (0, ngv (fwF cn (fun s => N.testBit s) n K K)) sh sl h') : ∀ (rem k : Nat) (h' : Sto) (Kx : Int) (j4 j5 : V), k + rem = K → Kx = (k : Int) + 1 → Fr [68] [] h h' → (∀ i, i ≤ k → h' 68 i = ngv (fwF cn (fun s => N.testBit s) n k i)) → WF sc (d + 2) 143 54 [(2, 60), (0, (K : Int)), (0, (N : Int)), (0, Kx), j4, j5] [] sh sl h' Q := by
  intro rem
  induction rem with
  | zero =>
    intro k h' Kx j4 j5 hk hKx F e
    subst hKx
    have hkK : k = K := by omega
    subst hkK
    rw [B_143_54 (F.fix X (by decide +kernel)), w32_id (a := (k : Int)) (by omega) (by omega), w32_id (a := (k : Int) + 1) (by omega) (by omega), if_pos (by omega), Int.toNat_natCast, e k (Nat.le_refl k)]
    exact ⟨⟨by omega, by omega⟩, hq h' F⟩
  | succ rem ih =>
    intro k h' Kx j4 j5 hk hKx F e
    subst hKx
    have fb := fwF_b (cn := cn) (p := fun s => N.testBit s) (n := n) k (by omega)
    rw [B_143_54 (F.fix X (by decide +kernel)), w32_id (a := (K : Int)) (by omega) (by omega), w32_nat (a := (k : Int) + 1) (n := k + 1) (by omega) (by omega), if_neg (by omega), Int.toNat_natCast]
    refine ⟨⟨by omega, by omega⟩, ?_⟩
    have F2 : Fr [68] [] h (setH h' 68 (k + 1) (-1)) := F.setP rfl
    rw [show (k : Int) + 1 = ((k + 1 : Nat) : Int) by omega]
    refine lp_fwSC (cn := cn) (f := fwF cn (fun s => N.testBit s) n k) (k := k + 1) (h := h) X e0 hn10 hK ec cb (by omega) (by omega) (fun i hi => fb i (by omega)) (fun h3 j4 j5 F3 g1 g2 => ?_) n 0 _ _ _ (by omega) rfl F2 (fun i hi => by rw [setH_k (by omega)]; exact e i (by omega)) (setH_self _ _ _ _)
    refine ih (k + 1) h3 _ _ _ (by omega) rfl F3 (fun i hi => ?_)
    simp only [fwF]
    by_cases ei : i = k + 1
    · rw [ei, up_s]; exact g2
    · rw [up_n ei]; exact g1 i (by omega)
theorem lp_fz (C : CJ sh h G n m L 10) (hN : N < 1024) (hK : K ≤ 60) (cb : ∀ i, i < n → 0 ≤ countsA G L i ∧ countsA G L i ≤ 60) (hq : ∀ h', Fr [48, 49, 81, 82, 62, 68] [] h h' → Q (0, ngv (fwF (countsA G L) (fun s => N.testBit s) n K K)) sh sl h') : ∀ (rem s : Nat) (h' : Sto) (S : Int) (j4 j5 : V), s + rem = n → S = s → Fr [48, 49, 81, 82, 62] [] h h' → (∀ i, i < s → h' 62 i = if N.testBit i = true then countsA G L i else 0) → WF sc (d + 4) 143 2 [(2, 60), (0, (K : Int)), (0, (N : Int)), (0, S), j4, j5] [] sh sl h' Q := by
  have W := C.2.2.2.1
  have hn10 := W.1.2.1
  intro rem
  induction rem with
  | zero =>
    intro s h' S j4 j5 hs hS F e
    subst hS
    have hsn : s = n := by omega
    subst hsn
    have X' : Fix sh h' := F.fix C.1 (by decide +kernel)
    rw [B_143_2 X', F.at 1 0 rfl, C.2.1.1.1, w32_id (a := (s : Int)) (by omega) (by omega), if_pos (by omega)]
    refine lp_fwC (cn := countsA G L) (h := h') X' (by rw [F.at 1 0 rfl]; exact C.2.1.1.1) hn10 hK e cb (fun h2 F2 => hq h2 ((F.mono rfl).trans (F2.mono rfl))) K 0 _ _ _ _ (by omega) rfl ((Fr.refl h').setP rfl) (fun i hi => ?_)
    have : i = 0 := by omega
    rw [this, setH_self]; rfl
  | succ rem ih =>
    intro s h' S j4 j5 hs hS F e
    subst hS
    have X' : Fix sh h' := F.fix C.1 (by decide +kernel)
    rw [B_143_2 X', F.at 1 0 rfl, C.2.1.1.1, w32_id (a := (n : Int)) (by omega) (by omega), w32_id (a := (s : Int)) (by omega) (by omega), if_neg (by omega), bit_nat (by omega) (by omega), Int.toNat_natCast]
    by_cases hp : N.testBit s = true
    case neg =>
      rw [if_neg hp, w32_0, if_pos rfl]
      refine ⟨⟨by omega, by omega⟩, ih (s + 1) _ _ _ _ (by omega) (by simp) (F.setP rfl) (fun i hi => ?_)⟩
      by_cases ei : i = s
      · rw [ei, setH_self, if_neg hp]
      · rw [setH_k ei]; exact e i (by omega)
    rw [if_pos hp, show w32 1 = 1 from rfl, if_neg (by decide)]
    have CC : CJ sh h' G n m L 10 := C.of F (by decide +kernel) (by decide +kernel) (F.row 10 rfl)
    refine sp_counts JQa CC (by omega) (fun h1 F1 => ?_)
    have F1' : Fr [48, 49, 81, 82, 62] [] h h1 := F.trans (F1.mono rfl)
    simp only [pushR0]
    rw [B_143_34 (F1'.fix C.1 (by decide +kernel)), w32_id (a := (s : Int)) (by omega) (by omega), Int.toNat_natCast]
    refine ⟨⟨by omega, by omega⟩, ih (s + 1) _ _ _ _ (by omega) (by simp) (F1'.setP rfl) (fun i hi => ?_)⟩
    by_cases ei : i = s
    · rw [ei, setH_self, if_pos hp]
    · rw [setH_k ei, F1.row 62 rfl]; exact e i (by omega)
end FEWC2
