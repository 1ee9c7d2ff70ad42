/-! ===== buffers: who lies well where ===== -/
def rdP (G : Nat → Int) : Nat → Bool := fun s => inP G s && decide (0 < G (18 + s))
def lieW (G : Nat → Int) (L : List Law) (a b : Nat) : Bool := decide (quarrelA G L a b = 0) && !barredA G L a b
def sfP (G : Nat → Int) (L : List Law) (a b : Nat) : Nat → Bool := fun s => rdP G s && (lieW G L a s && lieW G L s b)
def gpP (G : Nat → Int) (L : List Law) (l : Nat) : Nat → Bool := fun i => decide (0 < quarrelA G L (spA G l i) (spA G l (i + 1)))
def gpA (p : Nat → Bool) : Nat → Nat → Nat
  | 0 => fun _ => 0
  | i + 1 => if p i = true then (fun j => if j = cnt p i then i else gpA p i j) else gpA p i
theorem gpA_lt {p : Nat → Bool} : ∀ i j, j < cnt p i → gpA p i j < i := by
  intro i
  induction i with
  | zero => intro j hj; exact absurd hj (by simp [cnt])
  | succ i ih =>
    intro j hj
    simp only [gpA, cnt] at hj ⊢
    by_cases hp : p i = true
    · rw [if_pos hp] at hj ⊢
      by_cases e : j = cnt p i
      · rw [if_pos e]; omega
      · rw [if_neg e]; have := ih j (by omega); omega
    · rw [if_neg hp] at hj ⊢
      have := ih j hj; omega
def sfM (G : Nat → Int) (L : List Law) (n l j : Nat) : Nat := msk (sfP G L (spA G l j) (spA G l (j + 1))) n
section BUFC
variable {sc : Nat × (Nat → Int)} {d : Nat} {sh : Shp} {sl : Nat} {h : Sto} {Q : Pst} {G : Nat → Int} {n m : Nat} {L : List Law}
theorem sp_lieW {a b : Nat} (C : CJ sh h G n m L 10) (ha : a < n) (hb : b < n) (hq : ∀ h', Fr JP [] h h' → Q (0, if lieW G L a b = true then 1 else 0) sh sl h') : WM sc (d + 4) 120 [(2, 60), (0, (a : Int)), (0, (b : Int))] sh sl h Q := by
  have W := C.2.2.2.1
  have qb := quarrelA_bd W ha hb
  rw [B_120_0 C.1]
  refine sp_quarrel JQa C ha hb (fun h1 F1 => ?_)
  have C1 : CJ sh h1 G n m L 10 := C.fr F1 (Or.inl rfl)
  simp only [pushR0]
  rw [B_120_9 C1.1, w32_id (a := quarrelA G L a b) (by omega) (by omega)]
  by_cases q0 : quarrelA G L a b = 0
  · rw [if_neg (fun q => q q0)]
    refine sp_barred JQa C1 ha hb (fun h2 F2 => ?_)
    simp only [pushR0]
    rw [B_120_21 (C1.fr F2 (Or.inl rfl)).1]
    have hq' := hq h2 (F1.trans F2)
    cases hb : barredA G L a b
    · have : lieW G L a b = true := by unfold lieW; rw [hb, decide_eq_true q0]; rfl
      rw [if_pos this] at hq'
      rw [show (if (false : Bool) = true then (1 : Int) else 0) = 0 from rfl, w32_0, if_neg (by simp)]
      exact hq'
    · have : ¬ lieW G L a b = true := by unfold lieW; rw [hb]; simp
      rw [if_neg this] at hq'
      rw [if_pos rfl, show w32 1 = 1 from rfl, if_pos (by decide)]
      exact hq'
  · rw [if_pos q0]
    have hq' := hq h1 F1
    have : ¬ lieW G L a b = true := by unfold lieW; rw [decide_eq_false q0]; simp
    rw [if_neg this] at hq'
    exact hq'
theorem lp_suit {a b : Nat} (C : CJ sh h G n m L 10) (ha : a < n) (hb : b < n) (hq : ∀ h', Fr JP [] h h' → Q (0, (msk (sfP G L a b) n : Int)) sh sl h') : ∀ (rem s : Nat) (A S : Int) (h' : Sto), s + rem = n → A = (msk (sfP G L a b) s : Int) → S = s → Fr JP [] h h' → WF sc (d + 5) 119 5 [(2, 60), (0, (a : Int)), (0, (b : Int)), (0, A), (0, S)] [] sh sl h' Q := by
  have W := C.2.2.2.1
  have B := C.2.2.2.2
  have hn10 := W.1.2.1
  have hm3 := W.1.2.2.2.1
  intro rem
  induction rem with
  | zero =>
    intro s A S h' hs hA hS F
    subst hA hS
    have C' : CJ sh h' G n m L 10 := C.fr F (Or.inl rfl)
    rw [B_119_5 C'.1, C'.2.1.1.1, w32_id (a := (n : Int)) (by omega) (by omega), w32_id (a := (s : Int)) (by omega) (by omega), if_pos (by omega), show s = n by omega]
    exact hq h' F
  | succ rem ih =>
    intro s A S h' hs hA hS F
    subst hA hS
    have hsn : s < n := by omega
    have C' : CJ sh h' G n m L 10 := C.fr F (Or.inl rfl)
    have ms := msk_s (p := sfP G L a b) (k := s) (by omega)
    have skip : sfP G L a b s = false → ∀ h2, Fr JP [] h h2 → WF sc (d + 5) 119 5 [(2, 60), (0, (a : Int)), (0, (b : Int)), (0, ((msk (sfP G L a b) s : Nat) : Int)), (0, (s : Int) + 1)] [] sh sl h2 Q := fun hp h2 F2 => ih (s + 1) _ _ h2 (by omega) (ms.2.1 hp) (by simp) F2
    have hin := home_in C'.2.2.1 B hm3 hsn
    have gl := (B.2.1 s hsn).1
    rw [B_119_5 C'.1, C'.2.1.1.1, w32_id (a := (n : Int)) (by omega) (by omega), w32_id (a := (s : Int)) (by omega) (by omega), if_neg (by omega)]
    refine (bn_homeOf (b := 9) (c := 10) C'.1.bd (by omega)).mpr ?_
    simp only [pushR0]
    rw [B_119_26 C'.1]
    by_cases c1 : inP G s = true
    case neg =>
      rw [if_pos (fun q => c1 (hin.mp q))]
      exact skip (by unfold sfP rdP; rw [Bool.eq_false_iff.mpr c1]; rfl) h' F
    rw [if_neg (fun q => q (hin.mpr c1))]
    refine (bn_glueOf (b := 9) (c := 10) C'.1.bd (by omega)).mpr ?_
    simp only [pushR0]
    rw [B_119_39 C'.1, (C'.2.2.1.2.1 s hsn).1, w32_id (a := G (18 + s)) (by omega) (by omega)]
    by_cases c2 : G (18 + s) ≤ 0
    · rw [if_pos c2]
      exact skip (by unfold sfP rdP; rw [decide_eq_false (by omega), Bool.and_false]; rfl) h' F
    rw [if_neg c2]
    have hrd : rdP G s = true := by unfold rdP; rw [c1, decide_eq_true (by omega)]; rfl
    refine sp_lieW C' ha hsn (fun h1 F1 => ?_)
    have F1' : Fr JP [] h h1 := F.trans F1
    have C1 : CJ sh h1 G n m L 10 := C.fr F1' (Or.inl rfl)
    simp only [pushR0]
    rw [B_119_49 C1.1]
    by_cases c3 : lieW G L a s = true
    case neg =>
      rw [if_neg c3, w32_0, if_pos rfl]
      exact skip (by unfold sfP; rw [Bool.eq_false_iff.mpr c3]; simp) h1 F1'
    rw [if_pos c3, show w32 1 = 1 from rfl, if_neg (by decide)]
    refine sp_lieW C1 hsn hb (fun h2 F2 => ?_)
    have F2' : Fr JP [] h h2 := F1'.trans F2
    simp only [pushR0]
    rw [B_119_59 (C.fr F2' (Or.inl rfl)).1]
    by_cases c4 : lieW G L s b = true
    · rw [if_pos c4, show w32 1 = 1 from rfl, if_neg (by decide)]
      exact ih (s + 1) _ _ h2 (by omega) (ms.1 (by unfold sfP; rw [hrd, c3, c4]; rfl)) (by simp) F2'
    · rw [if_neg c4, w32_0, if_pos rfl]
      exact skip (by unfold sfP; rw [Bool.eq_false_iff.mpr c4]; simp) h2 F2'
theorem sp_suit {a b : Nat} (C : CJ sh h G n m L 10) (ha : a < n) (hb : b < n) (hq : ∀ h', Fr JP [] h h' → Q (0, (msk (sfP G L a b) n : Int)) sh sl h') : WM sc (d + 5) 119 [(2, 60), (0, (a : Int)), (0, (b : Int))] sh sl h Q := by
  rw [B_119_0 C.1]
  exact lp_suit C ha hb hq n 0 _ _ h (by omega) rfl rfl (Fr.refl h)
abbrev BuP : List Nat := [48, 49, 81, 82, 67]
abbrev BuS : List (Nat × Nat) := [(60, 17)]
theorem lp_gaps {l c : Nat} (C : CJ sh h G n m L 10) (hl : l < m) (hc : G (31 + l) = c) (hq : ∀ h', Fr BuP BuS h h' → h' 60 17 = ((cnt (gpP G L l) (c - 1) : Nat) : Int) → (∀ j, j < cnt (gpP G L l) (c - 1) → h' 67 j = ((sfM G L n l (gpA (gpP G L l) (c - 1) j) : Nat) : Int)) → WM sc (d + 5) 121 [(2, 60), (0, 0), (0, 0)] sh sl h' (fun r sh1 sl1 h1 => ∀ (x2 : Int) (j3 j4 : V), WF sc (d + 6) 118 93 [(2, 60), (0, (l : Int)), (0, x2), j3, j4] (pushR r []) sh1 sl1 h1 Q)) : ∀ (rem i : Nat) (h' : Sto) (I : Int) (j3 j4 : V), i + rem = c - 1 → I = (i : Int) + 1 → Fr BuP BuS h h' → h' 60 17 = ((cnt (gpP G L l) i : Nat) : Int) → (∀ j, j < cnt (gpP G L l) i → h' 67 j = ((sfM G L n l (gpA (gpP G L l) i j) : Nat) : Int)) → WF sc (d + 6) 118 7 [(2, 60), (0, (l : Int)), (0, I), j3, j4] [] sh sl h' Q := by
  have W := C.2.2.2.1
  have B := C.2.2.2.2
  have hn10 := W.1.2.1
  have hm3 := W.1.2.2.2.1
  have c1 := B.2.2.1 l hl
  intro rem
  induction rem with
  | zero =>
    intro i h' I j3 j4 hi hI F e1 e2
    subst hI
    have C' : CJ sh h' G n m L 10 := C.of F (by decide +kernel) (by decide +kernel) (F.row 10 rfl)
    have hi' : i = c - 1 := by omega
    rw [B_118_7 C'.1]
    refine (bn_sizeOf (b := 9) (c := 10) C'.1.bd (by omega)).mpr ?_
    simp only [pushR0]
    rw [B_118_16 C'.1, (C'.2.2.1.2.2.1 l hl).1, hc, w32_id (a := (c : Int)) (by omega) (by omega), w32_id (a := (i : Int) + 1) (by omega) (by omega), if_pos (by omega)]
    subst hi'
    exact WM.mono (fun r sh1 sl1 h1 z => z _ _ _) (hq h' F e1 e2)
  | succ rem ih =>
    intro i h' I j3 j4 hi hI F e1 e2
    subst hI
    have C' : CJ sh h' G n m L 10 := C.of F (by decide +kernel) (by decide +kernel) (F.row 10 rfl)
    have s1 := B.sp (i := i) hl (by omega)
    have s2 := B.sp (i := i + 1) hl (by omega)
    have qb := quarrelA_bd W s1.2.1 s2.2.1
    have cl := cnt_le (gpP G L l) i
    rw [B_118_7 C'.1]
    refine (bn_sizeOf (b := 9) (c := 10) C'.1.bd (by omega)).mpr ?_
    simp only [pushR0]
    rw [B_118_16 C'.1, (C'.2.2.1.2.2.1 l hl).1, hc, w32_id (a := (c : Int)) (by omega) (by omega), w32_id (a := (i : Int) + 1) (by omega) (by omega), if_neg (by omega), show (i : Int) + 1 - 1 = (i : Int) by omega]
    refine (bn_stampAt (b := 9) (c := 10) C'.1.bd (by omega) (by omega)).mpr ?_
    simp only [pushR0]
    rw [B_118_30 C'.1, show (i : Int) + 1 = ((i + 1 : Nat) : Int) by omega]
    refine (bn_stampAt (b := 9) (c := 10) C'.1.bd (by omega) (by omega)).mpr ?_
    simp only [pushR0]
    rw [C'.2.2.1.2.2.2 l i hl (by omega), s1.1, C'.2.2.1.2.2.2 l (i + 1) hl (by omega), s2.1, B_118_40 C'.1]
    refine sp_quarrel JQa C' s1.2.1 s2.2.1 (fun h1 F1 => ?_)
    have F1' : Fr BuP BuS h h1 := F.trans (F1.mono rfl)
    have C1 : CJ sh h1 G n m L 10 := C'.fr F1 (Or.inl rfl)
    simp only [pushR0]
    rw [B_118_52 C1.1, w32_id (a := quarrelA G L (spA G l i) (spA G l (i + 1))) (by omega) (by omega)]
    by_cases c2 : quarrelA G L (spA G l i) (spA G l (i + 1)) ≤ 0
    · have hp : ¬ gpP G L l i = true := by unfold gpP; rw [decide_eq_true_eq]; omega
      have ec : cnt (gpP G L l) (i + 1) = cnt (gpP G L l) i := by simp only [cnt]; rw [if_neg hp]
      have eg : gpA (gpP G L l) (i + 1) = gpA (gpP G L l) i := by simp only [gpA]; rw [if_neg hp]
      rw [if_pos c2]
      exact ih (i + 1) h1 _ _ _ (by omega) (by simp) F1' (by rw [ec, F1.at 60 17 rfl]; exact e1) (fun j hj => by rw [ec] at hj; rw [eg, F1.row 67 rfl]; exact e2 j hj)
    · have hp : gpP G L l i = true := by unfold gpP; rw [decide_eq_true_eq]; omega
      have ec : cnt (gpP G L l) (i + 1) = cnt (gpP G L l) i + 1 := by simp only [cnt]; rw [if_pos hp]
      have eg : gpA (gpP G L l) (i + 1) = (fun j => if j = cnt (gpP G L l) i then i else gpA (gpP G L l) i j) := by simp only [gpA]; rw [if_pos hp]
      rw [if_neg c2]
      refine sp_suit C1 s1.2.1 s2.2.1 (fun h2 F2 => ?_)
      have F2' : Fr BuP BuS h h2 := F1'.trans (F2.mono rfl)
      have e17 : h2 60 17 = ((cnt (gpP G L l) i : Nat) : Int) := by rw [F2.at 60 17 rfl, F1.at 60 17 rfl]; exact e1
      have e17' : h1 60 17 = ((cnt (gpP G L l) i : Nat) : Int) := by rw [F1.at 60 17 rfl]; exact e1
      simp only [pushR0]
      rw [B_118_70 (F2'.fix C.1 (by decide +kernel)), e17', e17, w32_id (a := ((cnt (gpP G L l) i : Nat) : Int)) (by omega) (by omega), Int.toNat_natCast]
      refine ⟨⟨by omega, by omega⟩, ih (i + 1) _ _ _ _ (by omega) (by simp) ((F2'.setP rfl).set rfl) ?_ (fun j hj => ?_)⟩
      · rw [setH_self, ec]; omega
      · rw [ec] at hj
        rw [setH_o (by decide), eg]
        show _ = ((sfM G L n l (if j = cnt (gpP G L l) i then i else gpA (gpP G L l) i j) : Nat) : Int)
        by_cases ej : j = cnt (gpP G L l) i
        · subst ej; rw [setH_self, if_pos rfl]; rfl
        · rw [setH_k ej, if_neg ej, F2.row 67 rfl, F1.row 67 rfl]; exact e2 j (by omega)
end BUFC
