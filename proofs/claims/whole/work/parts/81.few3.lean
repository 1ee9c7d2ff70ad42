def ngv (v : Int) : Int := if v = 100000000 then -1 else v
section FEWC
variable {sc : Nat × (Nat → Int)} {d : Nat} {sh : Shp} {sl : Nat} {h : Sto} {Q : Pst} {cn : Nat → Int} {n N K : Nat}
theorem lp_fwSC (X : Fix sh h) (e0 : h 1 0 = (n : Int)) (hn10 : n ≤ 10) (hK : K ≤ 60) (ec : ∀ i, i < n → h 62 i = if N.testBit i = true then cn i else 0) (cb : ∀ i, i < n → 0 ≤ cn i ∧ cn i ≤ 60) {f : Nat → Int} {k : Nat} (hk1 : 1 ≤ k) (hkK : k ≤ K) (hf : ∀ i, i < k → (0 ≤ f i ∧ f i ≤ i) ∨ f i = 100000000) (hq : ∀ (h' : Sto) (j4 j5 : V), Fr [68] [] h h' → (∀ i, i < k → h' 68 i = ngv (f i)) → h' 68 k = ngv (fwS cn (fun s => N.testBit s) f k n) → WF sc (d + 2) 143 54 [(2, 60), (0, (K : Int)), (0, (N : Int)), (0, (k : Int) + 1), j4, j5] [] sh sl h' Q) : ∀ (rem s : Nat) (h' : Sto) (S : Int) (j5 : V), s + rem = n → S = s → Fr [68] [] h h' → (∀ i, i < k → h' 68 i = ngv (f i)) → h' 68 k = ngv (fwS cn (fun s => N.testBit s) f k s) → WF sc (d + 2) 143 69 [(2, 60), (0, (K : Int)), (0, (N : Int)), (0, (k : Int)), (0, S), j5] [] sh sl h' Q := by
  intro rem
  induction rem with
  | zero =>
    intro s h' S j5 hs hS F e1 e2
    subst hS
    have hsn : s = n := by omega
    subst hsn
    rw [B_143_69 (F.fix X (by decide +kernel)), F.at 1 0 rfl, e0, w32_id (a := (s : Int)) (by omega) (by omega), if_pos (by omega)]
    exact hq h' _ _ F e1 e2
  | succ rem ih =>
    intro s h' S j5 hs hS F e1 e2
    subst hS
    have X' : Fix sh h' := F.fix X (by decide +kernel)
    have cs := cb s (by omega)
    have sb := fwS_b (cn := cn) (p := fun s => N.testBit s) hk1 hf (by omega) s
    have es : fwS cn (fun s => N.testBit s) f k (s + 1) = if N.testBit s = true ∧ 1 ≤ cn s ∧ cn s ≤ k then min (fwS cn (fun s => N.testBit s) f k s) (f (k - (cn s).toNat) + 1) else fwS cn (fun s => N.testBit s) f k s := rfl
    have e62 : h' 62 s = if N.testBit s = true then cn s else 0 := by rw [F.row 62 rfl]; exact ec s (by omega)
    rw [B_143_69 X', F.at 1 0 rfl, e0, w32_id (a := (n : Int)) (by omega) (by omega), w32_id (a := (s : Int)) (by omega) (by omega), if_neg (by omega), Int.toNat_natCast]
    refine ⟨⟨by omega, by omega⟩, ⟨by omega, by omega⟩, ?_⟩
    by_cases hp : N.testBit s = true
    case neg =>
      rw [if_neg hp] at e62
      rw [if_neg (fun q => hp q.1)] at es
      rw [e62, w32_0, if_pos (by decide)]
      exact ih (s + 1) h' _ _ (by omega) (by simp) F e1 (by rw [es]; exact e2)
    rw [if_pos hp] at e62
    rw [e62, w32_id (a := cn s) (by omega) (by omega)]
    by_cases hc0 : cn s ≤ 0
    · rw [if_neg (fun q => by omega)] at es
      rw [if_pos hc0]
      exact ih (s + 1) h' _ _ (by omega) (by simp) F e1 (by rw [es]; exact e2)
    rw [if_neg hc0, w32_id (a := (k : Int) - cn s) (by omega) (by omega)]
    by_cases hck : (k : Int) - cn s < 0
    · rw [if_neg (fun q => by omega)] at es
      rw [if_pos hck]
      exact ih (s + 1) h' _ _ (by omega) (by simp) F e1 (by rw [es]; exact e2)
    rw [if_pos ⟨hp, by omega, by omega⟩] at es
    have fb := hf (k - (cn s).toNat) (by omega)
    rw [if_neg hck, show ((k : Int) - cn s).toNat = k - (cn s).toNat by omega, e1 _ (by omega), w32_id (a := (k : Int)) (by omega) (by omega), Int.toNat_natCast, e2]
    refine ⟨⟨by omega, by omega⟩, ?_⟩
    by_cases h8 : f (k - (cn s).toNat) = 100000000
    · rw [show ngv (f (k - (cn s).toNat)) = -1 by unfold ngv; rw [if_pos h8], show w32 (-1) = -1 from rfl, if_pos rfl]
      exact ih (s + 1) h' _ _ (by omega) (by simp) F e1 (by rw [es, e2, h8]; congr 1; omega)
    rw [show ngv (f (k - (cn s).toNat)) = f (k - (cn s).toNat) by unfold ngv; rw [if_neg h8], w32_id (a := f (k - (cn s).toNat)) (by omega) (by omega), if_neg (by omega)]
    refine ⟨⟨by omega, by omega⟩, ?_⟩
    by_cases h9 : fwS cn (fun s => N.testBit s) f k s = 100000000
    · rw [show ngv (fwS cn (fun s => N.testBit s) f k s) = -1 by unfold ngv; rw [if_pos h9], show w32 (-1) = -1 from rfl, if_pos rfl]
      refine ⟨⟨by omega, by omega⟩, ⟨by omega, by omega⟩, ih (s + 1) _ _ _ (by omega) (by simp) (F.setP rfl) (fun i hi => by rw [setH_k (by omega)]; exact e1 i hi) ?_⟩
      rw [es, setH_self, h9]; unfold ngv; rw [if_neg (by omega)]; omega
    · rw [show ngv (fwS cn (fun s => N.testBit s) f k s) = fwS cn (fun s => N.testBit s) f k s by unfold ngv; rw [if_neg h9]] at e2 ⊢
      rw [w32_id (a := fwS cn (fun s => N.testBit s) f k s) (by omega) (by omega), if_neg (by omega), w32_id (a := f (k - (cn s).toNat) + 1) (by omega) (by omega)]
      refine ⟨⟨by omega, by omega⟩, ⟨by omega, by omega⟩, ?_⟩
      by_cases hv : fwS cn (fun s => N.testBit s) f k s ≤ f (k - (cn s).toNat) + 1
      · rw [if_pos hv]
        refine ih (s + 1) h' _ _ (by omega) (by simp) F e1 ?_
        rw [es, e2]; unfold ngv; rw [if_neg (by omega)]; omega
      · rw [if_neg hv]
        refine ⟨⟨by omega, by omega⟩, ⟨by omega, by omega⟩, ih (s + 1) _ _ _ (by omega) (by simp) (F.setP rfl) (fun i hi => by rw [setH_k (by omega)]; exact e1 i hi) ?_⟩
        rw [es, setH_self]; unfold ngv; rw [if_neg (by omega)]; omega
end FEWC
