section SORTS
variable {sc : Nat × (Nat → Int)} {d : Nat} {sh : Shp} {sl : Nat} {h : Sto} {Q : Pst} {G : Nat → Int} {n m f : Nat} {L : List Law} {cn : Nat → Int}
/-- the class's answer when all sets up to k are seen -/
def srC (ok : Nat → Bool) (n k : Nat) : Int × Int := if (srF ok k).1 = -1 then (((2 ^ n - 1 : Nat) : Int), (n : Int)) else srF ok k
theorem srC_s {ok : Nat → Bool} {n k : Nat} (hn : n ≤ 10) (hk : k < 2 ^ n - 1) : srC ok n (k + 1) = if ((cnt k.testBit 10 : Nat) : Int) < (srC ok n k).2 ∧ ok k = true then ((k : Int), ((cnt k.testBit 10 : Nat) : Int)) else srC ok n k := by
  have hc := cnt_part hn hk
  have hb := srF_b (ok := ok) k
  have es : srF ok (k + 1) = if ((cnt k.testBit 10 : Nat) : Int) < (srF ok k).2 ∧ ok k = true then ((k : Int), ((cnt k.testBit 10 : Nat) : Int)) else srF ok k := rfl
  unfold srC
  rw [es]
  by_cases e1 : (srF ok k).1 = -1
  · have e2 : srF ok k = (-1, 100000000) := by rcases hb with h | h; exact h; omega
    rw [if_pos e1, e2]
    by_cases o : ok k = true
    · have a1 : ((cnt k.testBit 10 : Nat) : Int) < ((-1, 100000000) : Int × Int).2 ∧ ok k = true := ⟨by show _ < (100000000 : Int); omega, o⟩
      have a2 : ((cnt k.testBit 10 : Nat) : Int) < ((((2 ^ n - 1 : Nat) : Int), (n : Int)) : Int × Int).2 ∧ ok k = true := ⟨by show _ < (n : Int); omega, o⟩
      rw [if_pos a1, if_pos a2, if_neg (by show ¬ (k : Int) = -1; omega)]
    · have a1 : ¬ (((cnt k.testBit 10 : Nat) : Int) < ((-1, 100000000) : Int × Int).2 ∧ ok k = true) := fun q => o q.2
      have a2 : ¬ (((cnt k.testBit 10 : Nat) : Int) < ((((2 ^ n - 1 : Nat) : Int), (n : Int)) : Int × Int).2 ∧ ok k = true) := fun q => o q.2
      rw [if_neg a1, if_neg a2, if_pos rfl]
  · rw [if_neg e1]
    by_cases o : ((cnt k.testBit 10 : Nat) : Int) < (srF ok k).2 ∧ ok k = true
    · rw [if_pos o, if_neg (by show ¬ (k : Int) = -1; omega)]
    · rw [if_neg o, if_neg e1]
theorem srC_b {ok : Nat → Bool} {n k : Nat} (hn : n ≤ 10) (hk : k ≤ 1024) : (0 ≤ (srC ok n k).1 ∧ (srC ok n k).1 < 1024) ∧ 0 ≤ (srC ok n k).2 ∧ (srC ok n k).2 ≤ 10 := by
  have h2 : 2 ^ n ≤ 2 ^ 10 := Nat.pow_le_pow_right (by omega) hn
  have hb := srF_b (ok := ok) k
  unfold srC
  split
  · exact ⟨⟨by show (0 : Int) ≤ ((2 ^ n - 1 : Nat) : Int); omega, by show ((2 ^ n - 1 : Nat) : Int) < _; omega⟩, by show (0 : Int) ≤ (n : Int); omega, by show (n : Int) ≤ _; omega⟩
  · rcases hb with h | h
    · rename_i q; rw [h] at q; exact absurd rfl q
    · exact ⟨⟨h.1.1, by omega⟩, h.2.1⟩
theorem srC_fin {ok : Nat → Bool} {n : Nat} (hn : n ≤ 10) (ha : ok (2 ^ n - 1) = true) : srF ok (2 ^ n) = srC ok n (2 ^ n - 1) := by
  have h1 : 1 ≤ 2 ^ n := Nat.one_le_two_pow
  have hb := srF_b (ok := ok) (2 ^ n - 1)
  have e : srF ok (2 ^ n) = srF ok (2 ^ n - 1 + 1) := by rw [Nat.sub_add_cancel h1]
  have es : srF ok (2 ^ n - 1 + 1) = if ((cnt (2 ^ n - 1).testBit 10 : Nat) : Int) < (srF ok (2 ^ n - 1)).2 ∧ ok (2 ^ n - 1) = true then (((2 ^ n - 1 : Nat) : Int), ((cnt (2 ^ n - 1).testBit 10 : Nat) : Int)) else srF ok (2 ^ n - 1) := rfl
  rw [e, es]
  unfold srC
  rw [cnt_full hn]
  by_cases e1 : (srF ok (2 ^ n - 1)).1 = -1
  · have e2 : srF ok (2 ^ n - 1) = (-1, 100000000) := by rcases hb with h | h; exact h; omega
    rw [if_pos e1, if_pos ⟨by rw [e2]; show (n : Int) < 100000000; omega, ha⟩]
  · rw [if_neg e1]
    rcases hb with h | h
    · rw [h] at e1; exact absurd rfl e1
    · have := cnt_part hn (show (srF ok (2 ^ n - 1)).1.toNat < 2 ^ n - 1 by omega)
      rw [if_neg (fun q => by omega)]
abbrev SoP : List Nat := [48, 49, 81, 82, 62]
/-- what 140 of the class tells, as okN -/
theorem ok_land {z : Int} {N : Nat} (hf : f ≤ 30) (cb : ∀ i, i < n → 0 ≤ cn i ∧ cn i ≤ 60) (hz : ∀ j, j < 64 → lb z j = rsF cn (fun s => N.testBit s) n 5 j) : w64 (land z (lshl 1 ((f : Int) + 1) - 2)) = w64 (lshl 1 ((f : Int) + 1) - 2) ↔ okN cn n f N = true := by
  rw [land_test hf]
  unfold okN
  rw [okB_iff]
  constructor
  · intro h j h1 h2
    have := h j h1 h2
    rw [hz j (by omega), rsF_iff (fun i hi => (cb i hi).1) 5 j (by omega) (by omega)] at this
    rw [fwF_st f h2]; exact this
  · intro h j h1 h2
    rw [hz j (by omega), rsF_iff (fun i hi => (cb i hi).1) 5 j (by omega) (by omega)]
    have := h j h1 h2
    rw [fwF_st f h2] at this; exact this
theorem sp_reach {N : Nat} (X : Fix sh h) (e0 : h 1 0 = (n : Int)) (hn10 : n ≤ 10) (hN : N < 1024) (ec : ∀ i, i < n → h 62 i = cn i) (cb : ∀ i, i < n → 0 ≤ cn i ∧ cn i ≤ 60) (hq : ∀ z : Int, (∀ j, j < 64 → lb z j = rsF cn (fun s => N.testBit s) n 5 j) → Q (1, z) sh sl h) : WM sc (d + 1) 140 [(2, 60), (0, (N : Int))] sh sl h Q := by
  rw [B_140_0 X]
  refine lp_reach X e0 hn10 hN ec cb hq 5 0 _ _ _ _ _ (by omega) rfl (fun j hj => ?_)
  have : ∀ k : Fin 64, lb 1 (k : Nat) = decide ((k : Nat) = 0) := by decide +kernel
  exact this ⟨j, hj⟩
theorem lp_srC (X : Fix sh h) (e0 : h 1 0 = (n : Int)) (hn10 : n ≤ 10) (hf : f ≤ 30) (ec : ∀ i, i < n → h 62 i = cn i) (cb : ∀ i, i < n → 0 ≤ cn i ∧ cn i ≤ 60) (hq : Q (0, (srC (okN cn n f) n (2 ^ n - 1)).1) sh sl h) : ∀ (rem k : Nat) (A B S : Int) (j8 : V), k + rem = 2 ^ n - 1 → A = (srC (okN cn n f) n k).1 → B = (srC (okN cn n f) n k).2 → S = k → WF sc (d + 2) 139 87 [(2, 60), (0, (f : Int)), (1, lshl 1 ((f : Int) + 1) - 2), (9, 0), (0, ((2 ^ n - 1 : Nat) : Int)), (0, A), (0, B), (0, S), j8] [] sh sl h Q := by
  have h2 : 2 ^ n ≤ 2 ^ 10 := Nat.pow_le_pow_right (by omega) hn10
  intro rem
  induction rem with
  | zero =>
    intro k A B S j8 hk hA hB hS
    subst hA hB hS
    have hkn : k = 2 ^ n - 1 := by omega
    rw [B_139_87 X, w32_id (a := (k : Int)) (by omega) (by omega), w32_id (a := ((2 ^ n - 1 : Nat) : Int)) (by omega) (by omega), if_pos (by omega), hkn]
    exact hq
  | succ rem ih =>
    intro k A B S j8 hk hA hB hS
    have hb := srC_b (ok := okN cn n f) hn10 (show k ≤ 1024 by omega)
    have es := srC_s (ok := okN cn n f) hn10 (show k < 2 ^ n - 1 by omega)
    have hc := cnt_le k.testBit 10
    subst hS
    rw [B_139_87 X, w32_id (a := (k : Int)) (by omega) (by omega), w32_id (a := ((2 ^ n - 1 : Nat) : Int)) (by omega) (by omega), if_neg (by omega), sp_bits (by omega)]
    simp only [pushR0]
    rw [B_139_99 X, w32_id (a := ((cnt k.testBit 10 : Nat) : Int)) (by omega) (by omega), w32_id (a := B) (by omega) (by omega)]
    by_cases c1 : B ≤ ((cnt k.testBit 10 : Nat) : Int)
    · rw [if_neg (fun q => by omega)] at es
      rw [if_pos c1]
      exact ih (k + 1) _ _ _ _ (by omega) (by rw [es]; exact hA) (by rw [es]; exact hB) (by simp)
    · rw [if_neg c1]
      refine sp_reach (N := k) X e0 hn10 (by omega) ec cb (fun z hz => ?_)
      have ol := ok_land (n := n) (cn := cn) hf cb hz
      rw [pushR1, B_139_114 X]
      by_cases o : okN cn n f k = true
      · rw [if_pos ⟨by omega, o⟩] at es
        rw [if_neg (fun q => q (ol.mpr o))]
        exact ih (k + 1) _ _ _ _ (by omega) (by rw [es]) (by rw [es]) (by simp)
      · rw [if_neg (fun q => o q.2)] at es
        rw [if_pos (fun q => o (ol.mp q))]
        exact ih (k + 1) _ _ _ _ (by omega) (by rw [es]; exact hA) (by rw [es]; exact hB) (by simp)
theorem lp_srO (C : CJ sh h G n m L 10) (hf1 : 1 ≤ f) (hf : f ≤ 30) (cb : ∀ i, i < n → 0 ≤ countsA G L i ∧ countsA G L i ≤ 60) (hq : ∀ h', Fr SoP [] h h' → Q (0, if okN (countsA G L) n f (2 ^ n - 1) = true then (srC (okN (countsA G L) n f) n (2 ^ n - 1)).1 else -1) sh sl h') : ∀ (rem s : Nat) (h' : Sto) (S : Int) (j3 j4 j5 j6 j7 j8 : V), s + rem = n → S = s → Fr SoP [] h h' → (∀ i, i < s → h' 62 i = countsA G L i) → WF sc (d + 4) 139 2 [(2, 60), (0, (f : Int)), (0, S), j3, j4, j5, j6, j7, j8] [] sh sl h' Q := by
  have W := C.2.2.2.1
  have hn10 := W.1.2.1
  have h2 : 2 ^ n ≤ 2 ^ 10 := Nat.pow_le_pow_right (by omega) hn10
  have h1 : 1 ≤ 2 ^ n := Nat.one_le_two_pow
  intro rem
  induction rem with
  | zero =>
    intro s h' S j3 j4 j5 j6 j7 j8 hs hS F e
    subst hS
    have hsn : s = n := by omega
    subst hsn
    have X' : Fix sh h' := F.fix C.1 (by decide +kernel)
    have e0 : h' 1 0 = (s : Int) := by rw [F.at 1 0 rfl]; exact C.2.1.1.1
    have ea : ((2 ^ s : Nat) : Int) - 1 = ((2 ^ s - 1 : Nat) : Int) := by omega
    rw [B_139_2 X', e0, w32_id (a := (s : Int)) (by omega) (by omega), if_pos (by omega), ishl_one (by omega), ea]
    refine sp_reach (N := 2 ^ s - 1) X' e0 hn10 (by omega) e cb (fun z hz => ?_)
    have ol := ok_land (n := s) (cn := countsA G L) hf cb hz
    have hq' := hq h' F
    rw [pushR1, B_139_62 X']
    by_cases o : okN (countsA G L) s f (2 ^ s - 1) = true
    · rw [if_pos o] at hq'
      rw [if_pos (ol.mpr o), e0]
      have s1 : 1 ≤ s := by
        by_cases z : s = 0
        · subst z; rw [show 2 ^ 0 - 1 = 0 from rfl, okN_zero hf1] at o; exact absurd o (by decide)
        · omega
      have p2 : 2 ^ 1 ≤ 2 ^ s := Nat.pow_le_pow_right (by omega) s1
      have e1 : srC (okN (countsA G L) s f) s 1 = (((2 ^ s - 1 : Nat) : Int), (s : Int)) := by
        unfold srC
        rw [srF_none 1 (fun i hi => by have : i = 0 := by omega
                                       subst this; exact okN_zero hf1)]
        rw [if_pos rfl]
      exact lp_srC X' e0 hn10 hf e cb hq' (2 ^ s - 2) 1 _ _ _ _ (by omega) (by rw [e1]) (by rw [e1]) rfl
    · rw [if_neg o] at hq'
      rw [if_neg (fun q => o (ol.mp q))]
      exact hq'
  | succ rem ih =>
    intro s h' S j3 j4 j5 j6 j7 j8 hs hS F e
    subst hS
    have X' : Fix sh h' := F.fix C.1 (by decide +kernel)
    rw [B_139_2 X', F.at 1 0 rfl, C.2.1.1.1, w32_id (a := (n : Int)) (by omega) (by omega), w32_id (a := (s : Int)) (by omega) (by omega), if_neg (by omega)]
    have CC : CJ sh h' G n m L 10 := C.of F (by decide +kernel) (by decide +kernel) (F.row 10 rfl)
    refine sp_counts JQa CC (by omega) (fun h1 F1 => ?_)
    have F1' : Fr SoP [] h h1 := F.trans (F1.mono rfl)
    simp only [pushR0]
    rw [B_139_26 (F1'.fix C.1 (by decide +kernel)), w32_id (a := (s : Int)) (by omega) (by omega), Int.toNat_natCast]
    refine ⟨⟨by omega, by omega⟩, ih (s + 1) _ _ _ _ _ _ _ _ (by omega) (by simp) (F1'.setP rfl) (fun i hi => ?_)⟩
    by_cases ei : i = s
    · rw [ei, setH_self]
    · rw [setH_k ei, F1.row 62 rfl]; exact e i (by omega)
end SORTS
