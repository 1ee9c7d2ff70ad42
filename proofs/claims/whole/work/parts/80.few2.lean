section FEWM2
variable {sc : Nat × (Nat → Int)} {d : Nat} {sh : Shp} {sl : Nat} {h : Sto} {Q : Pst} {cn : Nat → Int} {n N K : Nat}
theorem lp_fwM (X : Fix sh h) (e0 : h 87 0 = (n : Int)) (hn10 : n ≤ 10) (hN : N < 1024) (hK : K ≤ 60) (ec : ∀ i, i < n → h 109 i = cn i) (cb : ∀ i, i < n → 0 ≤ cn i ∧ cn i ≤ 60) (hq : ∀ h', Fr [114] [] h h' → (∀ i, i ≤ K → h' 114 i = fwF cn (fun s => N.testBit s) n K i) → Q (9, 0) sh sl h') : ∀ (rem k : Nat) (h' : Sto) (Kx : Int) (j4 : V), k + rem = K → Kx = (k : Int) + 1 → Fr [114] [] h h' → (∀ i, i ≤ k → h' 114 i = fwF cn (fun s => N.testBit s) n k i) → WF sc (d + 2) 263 9 [(2, 85), (0, (N : Int)), (0, (K : Int)), (0, Kx), j4] [] sh sl h' Q := by
  intro rem
  induction rem with
  | zero =>
    intro k h' Kx j4 hk hKx F e
    subst hKx
    have hkK : k = K := by omega
    subst hkK
    rw [B_263_9 (F.fix X (by decide +kernel)), w32_id (a := (k : Int)) (by omega) (by omega), w32_id (a := (k : Int) + 1) (by omega) (by omega), if_pos (by omega)]
    exact hq h' F e
  | succ rem ih =>
    intro k h' Kx j4 hk hKx F e
    subst hKx
    have fb := fwF_b (cn := cn) (p := fun s => N.testBit s) (n := n) k (by omega)
    rw [B_263_9 (F.fix X (by decide +kernel)), w32_id (a := (K : Int)) (by omega) (by omega), w32_nat (a := (k : Int) + 1) (n := k + 1) (by omega) (by omega), if_neg (by omega), Int.toNat_natCast]
    refine ⟨⟨by omega, by omega⟩, ?_⟩
    have F2 : Fr [114] [] h (setH h' 114 (k + 1) 100000000) := F.setP rfl
    rw [show (k : Int) + 1 = ((k + 1 : Nat) : Int) by omega]
    refine lp_fwSM (cn := cn) (f := fwF cn (fun s => N.testBit s) n k) (k := k + 1) (h := h) X e0 hn10 hN hK ec cb (by omega) (by omega) (fun i hi => fb i (by omega)) (fun h3 j4 F3 g1 g2 => ?_) n 0 _ _ (by omega) rfl F2 (fun i hi => by rw [setH_k (by omega)]; exact e i (by omega)) (setH_self _ _ _ _)
    refine ih (k + 1) h3 _ _ (by omega) rfl F3 (fun i hi => ?_)
    simp only [fwF]
    by_cases ei : i = k + 1
    · rw [ei, up_s]; exact g2
    · rw [up_n ei]; exact g1 i (by omega)
theorem sp_fewM (X : Fix sh h) (e0 : h 87 0 = (n : Int)) (hn10 : n ≤ 10) (hN : N < 1024) (hK : K ≤ 60) (ec : ∀ i, i < n → h 109 i = cn i) (cb : ∀ i, i < n → 0 ≤ cn i ∧ cn i ≤ 60) (hq : ∀ h', Fr [114] [] h h' → (∀ i, i ≤ K → h' 114 i = fwF cn (fun s => N.testBit s) n K i) → Q (9, 0) sh sl h') : WM sc (d + 2) 263 [(2, 85), (0, (N : Int)), (0, (K : Int))] sh sl h Q := by
  rw [B_263_0 X]
  refine lp_fwM X e0 hn10 hN hK ec cb hq K 0 _ _ _ (by omega) rfl ((Fr.refl h).setP rfl) (fun i hi => ?_)
  have : i = 0 := by omega
  rw [this, setH_self]; rfl
end FEWM2
