/-! ===== exchanged ===== -/
def swp (a b i : Nat) : Nat := if i = a then b else if i = b then a else i
def exQ (G : Nat → Int) (L : List Law) (l a b : Nat) : Nat → Int := fun i => quarrelA G L (spA G l (swp a b i)) (spA G l (swp a b (i + 1)))
def exV (G : Nat → Int) (L : List Law) (l a b : Nat) : Int := psum (exQ G L l a b) ((G (31 + l)).toNat - 1)
theorem swp_lt {a b i c : Nat} (ha : a < c) (hb : b < c) (hi : i < c) : swp a b i < c := by
  unfold swp; split
  · exact hb
  · split
    · exact ha
    · exact hi
theorem psum_b20 {f : Nat → Int} {k : Nat} (h : ∀ i, i < k → 0 ≤ f i ∧ f i ≤ 20) : 0 ≤ psum f k ∧ psum f k ≤ 20 * k := by
  induction k with
  | zero => exact ⟨Int.le_refl _, Int.le_refl _⟩
  | succ k ih =>
    have h1 := ih (fun i hi => h i (by omega))
    have h2 := h k (by omega)
    show 0 ≤ psum f k + f k ∧ psum f k + f k ≤ _
    omega
theorem exQ_bd {G : Nat → Int} {n m l a b : Nat} {L : List Law} (W : SW G n m L) (B : BW G n m) (hl : l < m) (ha : (a : Int) < G (31 + l)) (hb : (b : Int) < G (31 + l)) : ∀ k, k ≤ (G (31 + l)).toNat - 1 → 0 ≤ psum (exQ G L l a b) k ∧ psum (exQ G L l a b) k ≤ 20 * k := by
  intro k hk
  have c1 := B.2.2.1 l hl
  refine psum_b20 (fun i hi => ?_)
  have s1 := swp_lt (a := a) (b := b) (i := i) (c := (G (31 + l)).toNat) (by omega) (by omega) (by omega)
  have s2 := swp_lt (a := a) (b := b) (i := i + 1) (c := (G (31 + l)).toNat) (by omega) (by omega) (by omega)
  exact quarrelA_bd W (B.sp (i := swp a b i) hl (by omega)).2.1 (B.sp (i := swp a b (i + 1)) hl (by omega)).2.1
section EXCH
variable {sc : Nat × (Nat → Int)} {d : Nat} {sh : Shp} {sl : Nat} {h : Sto} {Q : Pst} {G : Nat → Int} {n m : Nat} {L : List Law}
abbrev XcP : List Nat := [48, 49, 81, 82, 66]
theorem lp_exC {l a b : Nat} (C : CJ sh h G n m L 10) (hl : l < m) (ha : (a : Int) < G (31 + l)) (hb : (b : Int) < G (31 + l)) (hq : ∀ h', Fr XcP [] h h' → Q (0, exV G L l a b) sh sl h') : ∀ (rem i : Nat) (h' : Sto) (acc I : Int), i + rem = (G (31 + l)).toNat → I = i → acc = psum (exQ G L l a b) (i - 1) → Fr XcP [] h h' → (∀ j, j < i → h' 66 j = ((spA G l (swp a b j) : Nat) : Int)) → WF sc (d + 4) 124 6 [(2, 60), (0, (l : Int)), (0, (a : Int)), (0, (b : Int)), (0, acc), (0, I)] [] sh sl h' Q := by
  have W := C.2.2.2.1
  have B := C.2.2.2.2
  have hn10 := W.1.2.1
  have hm3 := W.1.2.2.2.1
  have c1 := B.2.2.1 l hl
  obtain ⟨c, hc⟩ : ∃ c : Nat, G (31 + l) = c := ⟨(G (31 + l)).toNat, by omega⟩
  have hR : ∀ h', Fr XcP [] h h' → h' 10 (21 + l) = (c : Int) := fun h' F => by rw [F.row 10 rfl, (C.2.2.1.2.2.1 l hl).1]; exact hc
  have hS : ∀ h' i, Fr XcP [] h h' → i < c → h' 10 (24 + 5 * l + i) = ((spA G l i : Nat) : Int) := fun h' i F hi => by
    rw [F.row 10 rfl, C.2.2.1.2.2.2 l i hl (by omega)]; exact (B.sp (i := i) hl (by omega)).1
  intro rem
  induction rem with
  | zero =>
    intro i h' acc I hi hI hacc F e
    subst hI hacc
    have X' : Fix sh h' := F.fix C.1 (by decide +kernel)
    have bd := exQ_bd W B hl ha hb (i - 1) (by omega)
    rw [B_124_6 X']
    refine (bn_sizeOf (b := 9) (c := 10) X'.bd (by omega)).mpr ?_
    simp only [pushR0]
    rw [B_124_16 X', hR h' F, w32_id (a := (c : Int)) (by omega) (by omega), w32_id (a := (i : Int)) (by omega) (by omega), if_pos (by omega)]
    have := hq h' F
    unfold exV at this
    rw [show (G (31 + l)).toNat - 1 = i - 1 by omega] at this
    exact this
  | succ rem ih =>
    intro i h' acc I hi hI hacc F e
    subst hI
    have X' : Fix sh h' := F.fix C.1 (by decide +kernel)
    have hic : i < c := by omega
    rw [B_124_6 X']
    refine (bn_sizeOf (b := 9) (c := 10) X'.bd (by omega)).mpr ?_
    simp only [pushR0]
    rw [B_124_16 X', hR h' F, w32_id (a := (c : Int)) (by omega) (by omega), w32_id (a := (i : Int)) (by omega) (by omega), if_neg (by omega), w32_id (a := (a : Int)) (by omega) (by omega), w32_id (a := (b : Int)) (by omega) (by omega)]
    -- the next stamp of the row
    have go : WF sc (d + 4) 124 55 [(2, 60), (0, (l : Int)), (0, (a : Int)), (0, (b : Int)), (0, acc), (0, (i : Int))] [(0, ((spA G l (swp a b i) : Nat) : Int)), (0, (i : Int)), (2, 66)] sh sl h' Q := by
      have F2 : Fr XcP [] h (setH h' 66 i ((spA G l (swp a b i) : Nat) : Int)) := F.setP rfl
      have e2 : ∀ j, j < i + 1 → setH h' 66 i ((spA G l (swp a b i) : Nat) : Int) 66 j = ((spA G l (swp a b j) : Nat) : Int) := fun j hj => by
        by_cases ej : j = i
        · rw [ej, setH_self]
        · rw [setH_k ej]; exact e j (by omega)
      rw [B_124_55 X', w32_id (a := (i : Int)) (by omega) (by omega), Int.toNat_natCast]
      refine ⟨⟨by omega, by omega⟩, ?_⟩
      by_cases i0 : i = 0
      · rw [if_pos (by omega)]
        exact ih (i + 1) _ _ _ (by omega) (by simp) (by rw [hacc, i0]) F2 e2
      · have bd := exQ_bd W B hl ha hb (i - 1) (by omega)
        have s1 := swp_lt (a := a) (b := b) (i := i) (c := c) (by omega) (by omega) hic
        have s2 := swp_lt (a := a) (b := b) (i := i - 1) (c := c) (by omega) (by omega) (by omega)
        rw [if_neg (by omega), w32_nat (a := (i : Int) - 1) (n := i - 1) (by omega) (by omega), Int.toNat_natCast, e2 (i - 1) (by omega), e2 i (by omega)]
        refine ⟨⟨by omega, by omega⟩, ⟨by omega, by omega⟩, ?_⟩
        have C2 : CJ sh (setH h' 66 i ((spA G l (swp a b i) : Nat) : Int)) G n m L 10 := C.of F2 (by decide +kernel) (by decide +kernel) (F2.row 10 rfl)
        refine sp_quarrel JQa C2 (B.sp (i := swp a b (i - 1)) hl (by omega)).2.1 (B.sp (i := swp a b i) hl (by omega)).2.1 (fun h1 F1 => ?_)
        have F3 : Fr XcP [] h h1 := F2.trans (F1.mono rfl)
        simp only [pushR0]
        rw [B_124_86 (F3.fix C.1 (by decide +kernel))]
        refine ih (i + 1) h1 _ _ (by omega) (by simp) ?_ F3 (fun j hj => by rw [F1.row 66 rfl]; exact e2 j hj)
        rw [hacc, show i + 1 - 1 = (i - 1) + 1 by omega]
        show _ = psum (exQ G L l a b) (i - 1) + exQ G L l a b (i - 1)
        unfold exQ
        rw [show i - 1 + 1 = i by omega]
    by_cases ea : i = a
    · rw [if_neg (by omega)]
      refine (bn_stampAt (b := 9) (c := 10) X'.bd (by omega) (by omega)).mpr ?_
      simp only [pushR0]
      rw [hS h' b F (by omega)]
      have es : swp a b i = b := by unfold swp; rw [if_pos ea]
      rw [es] at go
      exact go
    · rw [if_pos (by omega)]
      by_cases eb : i = b
      · rw [if_neg (by omega)]
        refine (bn_stampAt (b := 9) (c := 10) X'.bd (by omega) (by omega)).mpr ?_
        simp only [pushR0]
        rw [hS h' a F (by omega)]
        have es : swp a b i = a := by unfold swp; rw [if_neg ea, if_pos eb]
        rw [es] at go
        exact go
      · rw [if_pos (by omega)]
        refine (bn_stampAt (b := 9) (c := 10) X'.bd (by omega) (by omega)).mpr ?_
        simp only [pushR0]
        rw [hS h' i F (by omega)]
        have es : swp a b i = i := by unfold swp; rw [if_neg ea, if_neg eb]
        rw [es] at go
        exact go
end EXCH
