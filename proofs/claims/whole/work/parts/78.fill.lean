/-! ===== the reference's sheet of counts, quarrels, bars ===== -/
section FILL
variable {sc : Nat × (Nat → Int)} {d : Nat} {sh : Shp} {sl : Nat} {h : Sto} {Q : Pst} {G : Nat → Int} {n m : Nat} {L : List Law}
abbrev FiP : List Nat := [103, 105, 107, 108, 109]
/-- filled up to s, and of s up to r -/
def FiR (G : Nat → Int) (L : List Law) (n s r : Nat) (h : Sto) : Prop := (∀ i k, i < n → k < n → i ≠ k → (i < s ∨ (i = s ∧ k < r)) → h 107 (10 * i + k) = quarrelA G L i k ∧ h 108 (10 * i + k) = (if barredA G L i k then 1 else 0))
theorem lp_fillR {s : Nat} (M : MJ sh h G n m L) (hs : s < n) : ∀ (rem r : Nat) (h' : Sto) (R : Int), r + rem = n → R = r → Fr FiP MS h h' → FiR G L n s r h' → (∀ i, i < s + 1 → h' 109 i = countsA G L i) → (∀ (h'' : Sto) (j2 : V), Fr FiP MS h h'' → FiR G L n (s + 1) 0 h'' → (∀ i, i < s + 1 → h'' 109 i = countsA G L i) → WF sc (d + 8) 241 2 [(2, 85), (0, (s : Int) + 1), j2] [] sh sl h'' Q) → WF sc (d + 8) 241 25 [(2, 85), (0, (s : Int)), (0, R)] [] sh sl h' Q := by
  have W := M.2.2.2.1
  have hn10 := W.1.2.1
  intro rem
  induction rem with
  | zero =>
    intro r h' R hr hR F e1 e2 hq
    subst hR
    rw [B_241_25 (F.fix M.1 (by decide +kernel)), F.row 87 rfl, M.2.1, W.1.1, w32_id (a := (n : Int)) (by omega) (by omega), w32_id (a := (r : Int)) (by omega) (by omega), if_pos (by omega)]
    exact hq h' _ F (fun i k a b c z => e1 i k a b c (by omega)) e2
  | succ rem ih =>
    intro r h' R hr hR F e1 e2 hq
    subst hR
    have X' : Fix sh h' := F.fix M.1 (by decide +kernel)
    rw [B_241_25 X', F.row 87 rfl, M.2.1, W.1.1, w32_id (a := (n : Int)) (by omega) (by omega), w32_id (a := (r : Int)) (by omega) (by omega), if_neg (by omega), w32_id (a := (s : Int)) (by omega) (by omega)]
    by_cases e : r = s
    · rw [if_pos (by omega)]
      exact ih (r + 1) h' _ (by omega) (by simp) F (fun i k a b c z => e1 i k a b c (by omega)) e2 hq
    · rw [if_neg (by omega)]
      have M1 : MJ sh h' G n m L := M.of F (by decide +kernel) (by decide +kernel)
      refine sp_quarrelOf M1 hs (by omega) (fun h1 F1 => ?_)
      have F1' : Fr FiP MS h h1 := F.trans (F1.mono rfl)
      simp only [pushR0]
      rw [B_241_56 (F1'.fix M.1 (by decide +kernel)), w32_nat (a := 10 * (s : Int) + r) (n := 10 * s + r) (by omega) (by omega), Int.toNat_natCast]
      refine ⟨⟨by omega, by omega⟩, ?_⟩
      have F2 : Fr FiP MS h (setH h1 107 (10 * s + r) (quarrelA G L s r)) := F1'.setP rfl
      have M2 : MJ sh (setH h1 107 (10 * s + r) (quarrelA G L s r)) G n m L := M.of F2 (by decide +kernel) (by decide +kernel)
      refine sp_isBarred M2 hs (by omega) (fun h3 F3 => ?_)
      have F3' : Fr FiP MS h h3 := F2.trans (F3.mono rfl)
      simp only [pushR0]
      rw [B_241_73 (F3'.fix M.1 (by decide +kernel)), w32_nat (a := 10 * (s : Int) + r) (n := 10 * s + r) (by omega) (by omega), Int.toNat_natCast]
      refine ⟨⟨⟨by omega, by omega⟩, by split <;> simp⟩, ?_⟩
      refine ih (r + 1) _ _ (by omega) (by simp) (F3'.setP rfl) (fun i k a b c z => ?_) (fun i hi => ?_) hq
      · by_cases ei : 10 * i + k = 10 * s + r
        · have : i = s := by omega
          have : k = r := by omega
          subst i k
          rw [setH_o (by decide), F3.row 107 rfl, setH_self, setH_self]
          exact ⟨rfl, rfl⟩
        · have := e1 i k a b c (by omega)
          rw [setH_o (by decide), F3.row 107 rfl, setH_k ei, F1.row 107 rfl, setH_k ei, F3.row 108 rfl, setH_o (by decide), F1.row 108 rfl]
          exact this
      · rw [setH_o (by decide), F3.row 109 rfl, setH_o (by decide), F1.row 109 rfl]; exact e2 i hi
theorem lp_fill (M : MJ sh h G n m L) (hq : ∀ h', Fr FiP MS h h' → FiR G L n n 0 h' → (∀ i, i < n → h' 109 i = countsA G L i) → Q (9, 0) sh sl h') : ∀ (rem s : Nat) (h' : Sto) (S : Int) (j2 : V), s + rem = n → S = s → Fr FiP MS h h' → FiR G L n s 0 h' → (∀ i, i < s → h' 109 i = countsA G L i) → WF sc (d + 8) 241 2 [(2, 85), (0, S), j2] [] sh sl h' Q := by
  have W := M.2.2.2.1
  have hn10 := W.1.2.1
  intro rem
  induction rem with
  | zero =>
    intro s h' S j2 hs hS F e1 e2
    subst hS
    have hsn : s = n := by omega
    subst hsn
    rw [B_241_2 (F.fix M.1 (by decide +kernel)), F.row 87 rfl, M.2.1, W.1.1, w32_id (a := (s : Int)) (by omega) (by omega), if_pos (by omega)]
    exact hq h' F e1 e2
  | succ rem ih =>
    intro s h' S j2 hs hS F e1 e2
    subst hS
    rw [B_241_2 (F.fix M.1 (by decide +kernel)), F.row 87 rfl, M.2.1, W.1.1, w32_id (a := (n : Int)) (by omega) (by omega), w32_id (a := (s : Int)) (by omega) (by omega), if_neg (by omega)]
    have M1 : MJ sh h' G n m L := M.of F (by decide +kernel) (by decide +kernel)
    refine sp_countsOf M1 (by omega) (fun h1 F1 => ?_)
    have F1' : Fr FiP MS h h1 := F.trans (F1.mono rfl)
    simp only [pushR0]
    rw [B_241_22 (F1'.fix M.1 (by decide +kernel)), w32_id (a := (s : Int)) (by omega) (by omega), Int.toNat_natCast]
    refine ⟨⟨by omega, by omega⟩, ?_⟩
    refine lp_fillR M (by omega) n 0 _ _ (by omega) rfl (F1'.setP rfl) (fun i k a b c z => ?_) (fun i hi => ?_) (fun h2 j2 F2 g1 g2 => ih (s + 1) h2 _ _ (by omega) (by simp) F2 g1 g2)
    · rw [setH_o (by decide), setH_o (by decide), F1.row 107 rfl, F1.row 108 rfl]; exact e1 i k a b c z
    · by_cases ei : i = s
      · rw [ei, setH_self]
      · rw [setH_k ei, F1.row 109 rfl]; exact e2 i (by omega)
theorem sp_fill (M : MJ sh h G n m L) (hq : ∀ h', Fr FiP MS h h' → FiR G L n n 0 h' → (∀ i, i < n → h' 109 i = countsA G L i) → Q (9, 0) sh sl h') : WM sc (d + 8) 241 [(2, 85)] sh sl h Q := by
  rw [B_241_0 M.1]
  exact lp_fill M hq n 0 h _ _ (by omega) rfl (Fr.refl h) (fun i k a b c z => by omega) (fun i hi => by omega)
end FILL
