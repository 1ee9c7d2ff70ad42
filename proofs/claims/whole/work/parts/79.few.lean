/-! ===== fewest ===== -/
def fwS (cn : Nat → Int) (p : Nat → Bool) (f : Nat → Int) (k : Nat) : Nat → Int
  | 0 => 100000000
  | s + 1 => if p s = true ∧ 1 ≤ cn s ∧ cn s ≤ k then min (fwS cn p f k s) (f (k - (cn s).toNat) + 1) else fwS cn p f k s
def fwF (cn : Nat → Int) (p : Nat → Bool) (n : Nat) : Nat → (Nat → Int)
  | 0 => fun _ => 0
  | k + 1 => up (fwF cn p n k) (k + 1) (fwS cn p (fwF cn p n k) (k + 1) n)
theorem fwS_b {cn : Nat → Int} {p : Nat → Bool} {f : Nat → Int} {k : Nat} (hk : 1 ≤ k) (hf : ∀ i, i < k → (0 ≤ f i ∧ f i ≤ i) ∨ f i = 100000000) (hk60 : k ≤ 60) : ∀ s, (0 ≤ fwS cn p f k s ∧ fwS cn p f k s ≤ k) ∨ fwS cn p f k s = 100000000 := by
  intro s
  induction s with
  | zero => exact Or.inr rfl
  | succ s ih =>
    simp only [fwS]
    split
    · rename_i h
      have := hf (k - (cn s).toNat) (by omega)
      omega
    · exact ih
theorem fwF_b {cn : Nat → Int} {p : Nat → Bool} {n : Nat} : ∀ k, k ≤ 60 → ∀ i, i ≤ k → (0 ≤ fwF cn p n k i ∧ fwF cn p n k i ≤ i) ∨ fwF cn p n k i = 100000000 := by
  intro k
  induction k with
  | zero => intro _ i hi; exact Or.inl ⟨Int.le_refl _, by show (0 : Int) ≤ _; omega⟩
  | succ k ih =>
    intro hk i hi
    simp only [fwF]
    by_cases e : i = k + 1
    · subst e
      rw [up_s]
      exact fwS_b (by omega) (fun j hj => ih (by omega) j (by omega)) hk n
    · rw [up_n e]; exact ih (by omega) i (by omega)
section FEWM
variable {sc : Nat × (Nat → Int)} {d : Nat} {sh : Shp} {sl : Nat} {h : Sto} {Q : Pst} {cn : Nat → Int} {n N K : Nat}
/-- one number's row of the reference -/
theorem lp_fwSM (X : Fix sh h) (e0 : h 87 0 = (n : Int)) (hn10 : n ≤ 10) (hN : N < 1024) (hK : K ≤ 60) (ec : ∀ i, i < n → h 109 i = cn i) (cb : ∀ i, i < n → 0 ≤ cn i ∧ cn i ≤ 60) {f : Nat → Int} {k : Nat} (hk1 : 1 ≤ k) (hkK : k ≤ K) (hf : ∀ i, i < k → (0 ≤ f i ∧ f i ≤ i) ∨ f i = 100000000) (hq : ∀ (h' : Sto) (j4 : V), Fr [114] [] h h' → (∀ i, i < k → h' 114 i = f i) → h' 114 k = fwS cn (fun s => N.testBit s) f k n → WF sc (d + 2) 263 9 [(2, 85), (0, (N : Int)), (0, (K : Int)), (0, (k : Int) + 1), j4] [] sh sl h' Q) : ∀ (rem s : Nat) (h' : Sto) (S : Int), s + rem = n → S = s → Fr [114] [] h h' → (∀ i, i < k → h' 114 i = f i) → h' 114 k = fwS cn (fun s => N.testBit s) f k s → WF sc (d + 2) 263 26 [(2, 85), (0, (N : Int)), (0, (K : Int)), (0, (k : Int)), (0, S)] [] sh sl h' Q := by
  intro rem
  induction rem with
  | zero =>
    intro s h' S hs hS F e1 e2
    subst hS
    have hsn : s = n := by omega
    subst hsn
    rw [B_263_26 (F.fix X (by decide +kernel)), F.row 87 rfl, e0, w32_id (a := (s : Int)) (by omega) (by omega), if_pos (by omega)]
    exact hq h' _ F e1 e2
  | succ rem ih =>
    intro s h' S hs hS F e1 e2
    subst hS
    have X' : Fix sh h' := F.fix X (by decide +kernel)
    have cs := cb s (by omega)
    have sb := fwS_b (cn := cn) (p := fun s => N.testBit s) hk1 hf (by omega) s
    have es : fwS cn (fun s => N.testBit s) f k (s + 1) = if N.testBit s = true ∧ 1 ≤ cn s ∧ cn s ≤ k then min (fwS cn (fun s => N.testBit s) f k s) (f (k - (cn s).toNat) + 1) else fwS cn (fun s => N.testBit s) f k s := rfl
    rw [B_263_26 X', F.row 87 rfl, e0, w32_id (a := (n : Int)) (by omega) (by omega), w32_id (a := (s : Int)) (by omega) (by omega), if_neg (by omega), B_247_0 X', bit_nat (by omega) (by omega)]
    by_cases hp : N.testBit s = true
    case neg =>
      rw [if_neg (fun q => hp q.1)] at es
      rw [if_neg hp, w32_0, if_pos (by decide)]
      simp only [pushR0]
      rw [B_263_43 X', w32_0, if_pos rfl]
      exact ih (s + 1) h' _ (by omega) (by simp) F e1 (by rw [es]; exact e2)
    rw [if_pos hp, show w32 1 = 1 from rfl, if_neg (by decide)]
    simp only [pushR0]
    rw [B_263_43 X', show w32 1 = 1 from rfl, if_neg (by decide), w32_id (a := (s : Int)) (by omega) (by omega), Int.toNat_natCast, F.row 109 rfl, ec s (by omega), w32_id (a := cn s) (by omega) (by omega), w32_id (a := (k : Int)) (by omega) (by omega), sp_in ⟨by omega, by omega⟩ ⟨by decide, by decide⟩ ⟨by omega, by omega⟩]
    refine ⟨⟨by omega, by omega⟩, ?_⟩
    simp only [pushR0]
    rw [B_263_60 X']
    by_cases hc : 1 ≤ cn s ∧ cn s ≤ k
    case neg =>
      rw [if_neg (fun q => hc q.2)] at es
      rw [if_neg hc, w32_0, if_pos rfl]
      exact ih (s + 1) h' _ (by omega) (by simp) F e1 (by rw [es]; exact e2)
    rw [if_pos ⟨hp, hc⟩] at es
    have fb := hf (k - (cn s).toNat) (by omega)
    rw [if_pos hc, show w32 1 = 1 from rfl, if_neg (by decide), w32_id (a := (s : Int)) (by omega) (by omega), Int.toNat_natCast, F.row 109 rfl, ec s (by omega), w32_nat (a := (k : Int) - cn s) (n := k - (cn s).toNat) (by omega) (by omega), w32_id (a := (k : Int)) (by omega) (by omega), Int.toNat_natCast, Int.toNat_natCast, e2, e1 _ (by omega), w32_id (a := fwS cn (fun s => N.testBit s) f k s) (by omega) (by omega), w32_id (a := f (k - (cn s).toNat) + 1) (by omega) (by omega)]
    refine ⟨⟨by omega, by omega⟩, ⟨by omega, by omega⟩, ⟨by omega, by omega⟩, ?_⟩
    by_cases hv : fwS cn (fun s => N.testBit s) f k s ≤ f (k - (cn s).toNat) + 1
    · rw [if_pos hv]
      exact ih (s + 1) h' _ (by omega) (by simp) F e1 (by rw [es, e2]; omega)
    · rw [if_neg hv]
      refine ⟨⟨by omega, by omega⟩, ⟨by omega, by omega⟩, ⟨by omega, by omega⟩, ih (s + 1) _ _ (by omega) (by simp) (F.setP rfl) (fun i hi => by rw [setH_k (by omega)]; exact e1 i hi) (by rw [es, setH_self]; omega)⟩
end FEWM
