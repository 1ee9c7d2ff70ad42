/-! ===== sums of at most five, as bits of a long ===== -/
def rsS (cn : Nat → Int) (p : Nat → Bool) (f : Nat → Bool) (j : Nat) : Nat → Bool
  | 0 => f j
  | s + 1 => rsS cn p f j s || (p s && (decide ((cn s).toNat ≤ j) && f (j - (cn s).toNat)))
def rsF (cn : Nat → Int) (p : Nat → Bool) (n : Nat) : Nat → Nat → Bool
  | 0 => fun j => decide (j = 0)
  | r + 1 => fun j => rsS cn p (rsF cn p n r) j n
section REACH
variable {sc : Nat × (Nat → Int)} {d : Nat} {sh : Shp} {sl : Nat} {h : Sto} {Q : Pst} {cn : Nat → Int} {n N : Nat}
theorem lp_reachI (X : Fix sh h) (e0 : h 1 0 = (n : Int)) (hn10 : n ≤ 10) (hN : N < 1024) (ec : ∀ i, i < n → h 62 i = cn i) (cb : ∀ i, i < n → 0 ≤ cn i ∧ cn i ≤ 60) {f : Nat → Bool} {x4 x5 : Int} (hf : ∀ j, j < 64 → lb x5 j = f j) (hq : ∀ (z x7 : Int), (∀ j, j < 64 → lb z j = rsS cn (fun s => N.testBit s) f j n) → WF sc (d + 1) 140 5 [(2, 60), (0, (N : Int)), (1, z), (9, 0), (0, x4 + 1), (1, x5), (9, 0), (0, x7)] [] sh sl h Q) : ∀ (rem s : Nat) (z S : Int), s + rem = n → S = s → (∀ j, j < 64 → lb z j = rsS cn (fun s => N.testBit s) f j s) → WF sc (d + 1) 140 17 [(2, 60), (0, (N : Int)), (1, z), (9, 0), (0, x4), (1, x5), (9, 0), (0, S)] [] sh sl h Q := by
  intro rem
  induction rem with
  | zero =>
    intro s z S hs hS e
    subst hS
    have hsn : s = n := by omega
    subst hsn
    rw [B_140_17 X, e0, w32_id (a := (s : Int)) (by omega) (by omega), if_pos (by omega)]
    exact hq z _ e
  | succ rem ih =>
    intro s z S hs hS e
    subst hS
    have cs := cb s (by omega)
    rw [B_140_17 X, e0, w32_id (a := (n : Int)) (by omega) (by omega), w32_id (a := (s : Int)) (by omega) (by omega), if_neg (by omega), bit_nat (by omega) (by omega)]
    by_cases hp : N.testBit s = true
    case neg =>
      rw [if_neg hp, w32_0, if_pos rfl]
      refine ih (s + 1) z _ (by omega) (by simp) (fun j hj => ?_)
      simp only [rsS, hp, Bool.false_and, Bool.or_false]
      exact e j hj
    rw [if_pos hp, show w32 1 = 1 from rfl, if_neg (by decide), Int.toNat_natCast, ec s (by omega)]
    refine ⟨⟨by omega, by omega⟩, ih (s + 1) _ _ (by omega) (by simp) (fun j hj => ?_)⟩
    have sl := lb_shl x5 (c := (cn s).toNat) (j := j) (by omega) hj
    rw [show (((cn s).toNat : Nat) : Int) = cn s by omega] at sl
    simp only [rsS, hp, Bool.true_and]
    rw [lb_or, e j hj, sl, hf (j - (cn s).toNat) (by omega)]
theorem lp_reach (X : Fix sh h) (e0 : h 1 0 = (n : Int)) (hn10 : n ≤ 10) (hN : N < 1024) (ec : ∀ i, i < n → h 62 i = cn i) (cb : ∀ i, i < n → 0 ≤ cn i ∧ cn i ≤ 60) (hq : ∀ z : Int, (∀ j, j < 64 → lb z j = rsF cn (fun s => N.testBit s) n 5 j) → Q (1, z) sh sl h) : ∀ (rem r : Nat) (z R : Int) (j5 j6 j7 : V), r + rem = 5 → R = r → (∀ j, j < 64 → lb z j = rsF cn (fun s => N.testBit s) n r j) → WF sc (d + 1) 140 5 [(2, 60), (0, (N : Int)), (1, z), (9, 0), (0, R), j5, j6, j7] [] sh sl h Q := by
  intro rem
  induction rem with
  | zero =>
    intro r z R j5 j6 j7 hr hR e
    subst hR
    have hr5 : r = 5 := by omega
    subst hr5
    rw [B_140_5 X, show w32 ((5 : Nat) : Int) = 5 from rfl, if_pos (by decide)]
    exact hq z e
  | succ rem ih =>
    intro r z R j5 j6 j7 hr hR e
    subst hR
    rw [B_140_5 X, w32_id (a := (r : Int)) (by omega) (by omega), if_neg (by omega)]
    refine lp_reachI X e0 hn10 hN ec cb (f := rsF cn (fun s => N.testBit s) n r) e (fun z2 x7 e2 => ?_) n 0 z _ (by omega) rfl (fun j hj => e j hj)
    exact ih (r + 1) z2 _ _ _ _ (by omega) (by simp) e2
end REACH
