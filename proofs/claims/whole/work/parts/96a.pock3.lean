section POCKM
variable {sc : Nat × (Nat → Int)} {d : Nat} {sh : Shp} {sl : Nat} {h : Sto} {Q : Pst} {G : Nat → Int} {n m : Nat} {L : List Law}
theorem lp_next {t : Nat → Int} {k : Nat} {p : Nat → Bool} (X : Fix sh h) (hn10 : n ≤ 10) (hk : k < n) (e : ∀ i, i < k → h 110 i = t i) (T : PkT p t k) (hq : Q (0, ((nxP p t k : Nat) : Int)) sh sl h) : ∀ (rem i : Nat) (A I : Int), i + rem = k → A = ((nxP p t i : Nat) : Int) → I = i → WF sc (d + 2) 254 5 [(2, 85), (0, (k : Int)), (0, ((msk p n : Nat) : Int)), (0, A), (0, I)] [] sh sl h Q := by
  have hl := msk_lt10 (p := p) hn10
  intro rem
  induction rem with
  | zero =>
    intro i A I hi hA hI
    subst hA hI
    have hik : i = k := by omega
    subst hik
    rw [B_254_5 X, w32_id (a := (i : Int)) (by omega) (by omega), if_pos (by omega)]
    exact hq
  | succ rem ih =>
    intro i A I hi hA hI
    subst hA hI
    have ni : nxP p t i ≤ i := PkT.le (fun j hj => T j (by omega))
    have es : nxP p t (i + 1) = if p i = true ∧ ((nxP p t i : Nat) : Int) ≤ t i then (t i).toNat + 1 else nxP p t i := rfl
    rw [B_254_5 X, w32_id (a := (i : Int)) (by omega) (by omega), w32_id (a := (k : Int)) (by omega) (by omega), if_neg (by omega), B_247_0 X, bit_nat (by omega) (by omega), msk_bit, decide_eq_true (show i < n by omega), Bool.true_and]
    by_cases hp : p i = true
    case neg =>
      rw [if_neg (fun z => hp z.1)] at es
      rw [if_neg hp, w32_0, if_pos (by decide)]
      simp only [pushR0]
      rw [B_254_17 X, w32_0, if_pos rfl]
      exact ih (i + 1) _ _ (by omega) (by rw [es]) (by simp)
    have ti := T i (by omega) hp
    rw [if_pos hp, show w32 1 = 1 from rfl, if_neg (by decide)]
    simp only [pushR0]
    rw [B_254_17 X, show w32 1 = 1 from rfl, if_neg (by decide), w32_id (a := (i : Int)) (by omega) (by omega), Int.toNat_natCast, e i (by omega), w32_id (a := t i) (by omega) (by omega), w32_id (a := ((nxP p t i : Nat) : Int)) (by omega) (by omega)]
    refine ⟨⟨by omega, by omega⟩, ?_⟩
    by_cases c : t i < ((nxP p t i : Nat) : Int)
    · rw [if_neg (fun z => by have := z.2; omega)] at es
      rw [if_pos c]
      exact ih (i + 1) _ _ (by omega) (by rw [es]) (by simp)
    · rw [if_pos ⟨hp, by omega⟩] at es
      rw [if_neg c]
      exact ⟨⟨by omega, by omega⟩, ih (i + 1) _ _ (by omega) (by rw [es]; omega) (by simp)⟩
theorem lp_fits {t : Nat → Int} {k c : Nat} (M : MJ sh h G n m L) (Fi : FiR G L n n 0 h) (hk : k < n) (e : ∀ i, i < k → h 110 i = t i) (T : PkT (inP G) t k) (ek : h 110 k = (c : Int)) (hc : c ≤ 100) (hq : Q (0, if ftB (inP G) (frP G L k) t (c : Int) k = true then 1 else 0) sh sl h) : ∀ (rem i : Nat) (A I : Int), i + rem = k → A = (if ftB (inP G) (frP G L k) t (c : Int) i = true then 1 else 0) → I = i → WF sc (d + 2) 255 5 [(2, 85), (0, (k : Int)), (0, ((msk (inP G) n : Nat) : Int)), (0, A), (0, I)] [] sh sl h Q := by
  have W := M.2.2.2.1
  have hn10 := W.1.2.1
  have hl := msk_lt10 (p := inP G) hn10
  have X := M.1
  intro rem
  induction rem with
  | zero =>
    intro i A I hi hA hI
    have hik : i = k := by omega
    subst hik
    rw [B_255_5 X (by rw [hA]; split <;> simp), hI, w32_id (a := (i : Int)) (by omega) (by omega), if_pos (by omega), hA]
    exact hq
  | succ rem ih =>
    intro i A I hi hA hI
    have ni : nxP (inP G) t i ≤ i := PkT.le (fun j hj => T j (by omega))
    have es : ftB (inP G) (frP G L k) t (c : Int) (i + 1) = (ftB (inP G) (frP G L k) t (c : Int) i && (!inP G i || (decide (t i ≠ (c : Int)) || frP G L k i))) := rfl
    have q1 := Fi i k (by omega) hk (by omega) (by omega)
    have q2 := Fi k i hk (by omega) (by omega) (by omega)
    have b1 := quarrelA_bd W (show i < n by omega) hk
    have b2 := quarrelA_bd W hk (show i < n by omega)
    rw [B_255_5 X (by rw [hA]; split <;> simp), hI, w32_id (a := (i : Int)) (by omega) (by omega), w32_id (a := (k : Int)) (by omega) (by omega), if_neg (by omega), hA]
    by_cases cA : ftB (inP G) (frP G L k) t (c : Int) i = true
    case neg =>
      rw [if_neg cA, w32_0, if_pos rfl]
      exact ih (i + 1) _ _ (by omega) (by rw [es, Bool.eq_false_iff.mpr cA, Bool.false_and]; rfl) (by simp)
    rw [cA, Bool.true_and] at es
    rw [if_pos cA, show w32 1 = 1 from rfl, if_neg (by decide), B_247_0 X, bit_nat (by omega) (by omega), msk_bit, decide_eq_true (show i < n by omega), Bool.true_and]
    by_cases hp : inP G i = true
    case neg =>
      rw [if_neg hp, w32_0, if_pos (by decide)]
      simp only [pushR0]
      rw [B_255_21 X, w32_0, if_pos rfl]
      exact ih (i + 1) _ _ (by omega) (by rw [es, Bool.eq_false_iff.mpr hp]; rfl) (by simp)
    have ti := T i (by omega) hp
    rw [hp, Bool.not_true, Bool.false_or] at es
    rw [if_pos hp, show w32 1 = 1 from rfl, if_neg (by decide)]
    simp only [pushR0]
    rw [B_255_21 X, show w32 1 = 1 from rfl, if_neg (by decide), w32_id (a := (i : Int)) (by omega) (by omega), w32_id (a := (k : Int)) (by omega) (by omega), Int.toNat_natCast, Int.toNat_natCast, e i (by omega), ek, w32_id (a := t i) (by omega) (by omega), w32_id (a := (c : Int)) (by omega) (by omega)]
    refine ⟨⟨by omega, by omega⟩, ⟨by omega, by omega⟩, ?_⟩
    by_cases c1 : t i = (c : Int)
    case neg =>
      rw [if_pos c1]
      exact ih (i + 1) _ _ (by omega) (by rw [es, decide_eq_true c1]; rfl) (by simp)
    rw [decide_eq_false (show ¬ t i ≠ (c : Int) from fun q => q c1), Bool.false_or] at es
    rw [if_neg (fun q => q c1), w32_nat (a := 10 * (i : Int) + k) (n := 10 * i + k) (by omega) (by omega), w32_nat (a := 10 * (k : Int) + i) (n := 10 * k + i) (by omega) (by omega), Int.toNat_natCast, Int.toNat_natCast, q1.1, q2.1, w32_id (a := quarrelA G L i k) (by omega) (by omega), w32_id (a := quarrelA G L k i) (by omega) (by omega)]
    refine ⟨⟨by omega, by omega⟩, ?_⟩
    have ef : frP G L k i = (decide (quarrelA G L k i = 0) && decide (quarrelA G L i k = 0)) := by
      show (decide (i ≠ k) && decide (quarrelA G L k i = 0) && decide (quarrelA G L i k = 0)) = _
      rw [decide_eq_true (show i ≠ k by omega), Bool.true_and]
    rw [ef] at es
    by_cases z1 : quarrelA G L i k = 0
    case neg =>
      rw [if_pos z1]
      exact ih (i + 1) _ _ (by omega) (by rw [es, decide_eq_false z1, Bool.and_false]; rfl) (by simp)
    rw [if_neg (fun q => q z1)]
    refine ⟨⟨by omega, by omega⟩, ?_⟩
    by_cases z2 : quarrelA G L k i = 0
    · rw [if_neg (fun q => q z2)]
      exact ih (i + 1) _ _ (by omega) (by rw [es, decide_eq_true z1, decide_eq_true z2]; rfl) (by simp)
    · rw [if_pos z2]
      exact ih (i + 1) _ _ (by omega) (by rw [es, decide_eq_false z2, Bool.false_and]; rfl) (by simp)
theorem lp_pkM {P : Nat} (M : MJ sh h G n m L) (Fi : FiR G L n n 0 h) (hP : P ≤ 10) : ∀ (r k : Nat) (t : Nat → Int) (h' : Sto) (Kx : Int) (j5 : V), k + r = n → Kx = k → PkT (inP G) t k → Fr [110] [] h h' → (∀ i, i < k → h' 110 i = t i) → (r = 0 ∨ h' 110 k = -1) → (∀ h2 t' j5, pkS (inP G) (frP G L) P r k t = some t' → Fr [110] [] h h2 → (∀ i, i < n → h2 110 i = t' i) → WF sc (d + 4) 253 17 [(2, 85), (0, (P : Int)), (0, ((msk (inP G) n : Nat) : Int)), (0, (n : Int)), (0, (n : Int)), j5] [] sh sl h2 Q) → (∀ h2 Kx j5, pkS (inP G) (frP G L) P r k t = none → Kx = (k : Int) - 1 → Fr [110] [] h h2 → (∀ i, i < k → h2 110 i = t i) → WF sc (d + 4) 253 17 [(2, 85), (0, (P : Int)), (0, ((msk (inP G) n : Nat) : Int)), (0, (n : Int)), (0, Kx), j5] [] sh sl h2 Q) → WF sc (d + 4) 253 17 [(2, 85), (0, (P : Int)), (0, ((msk (inP G) n : Nat) : Int)), (0, (n : Int)), (0, Kx), j5] [] sh sl h' Q := by
  have W := M.2.2.2.1
  have hn10 := W.1.2.1
  have hl := msk_lt10 (p := inP G) hn10
  intro r
  induction r with
  | zero =>
    intro k t h' Kx j5 hk hK T F e _ q1 q0
    have hkn : k = n := by omega
    subst hkn hK
    exact q1 h' t _ rfl F e
  | succ r ihr =>
    intro k t h' Kx j5 hk hK T F e hm1 q1 q0
    have hm1 : h' 110 k = -1 := by rcases hm1 with q | q; omega; exact q
    subst hK
    have nl := T.le
    have X' : Fix sh h' := F.fix M.1 (by decide +kernel)
    by_cases hp : inP G k = true
    case neg =>
      have es : pkS (inP G) (frP G L) P (r + 1) k t = pkS (inP G) (frP G L) P r (k + 1) (up t k 100) := by simp only [pkS]; rw [if_neg hp]
      rw [es] at q1 q0
      rw [B_253_17 X', w32_id (a := (k : Int)) (by omega) (by omega), if_neg (by omega), w32_id (a := (n : Int)) (by omega) (by omega), if_neg (by omega), B_247_0 X', bit_nat (by omega) (by omega), msk_bit, decide_eq_true (show k < n by omega), Bool.true_and, if_neg hp, w32_0, if_pos (by decide)]
      simp only [pushR0]
      rw [B_253_34 X', w32_0, if_neg (by simp), w32_id (a := (k : Int)) (by omega) (by omega), Int.toNat_natCast, hm1, show w32 (-1) = -1 from rfl, if_neg (by simp)]
      refine ⟨⟨by omega, by omega⟩, ?_⟩
      rw [B_253_80 X', show w32 1 = 1 from rfl, if_neg (by decide), w32_id (a := (k : Int)) (by omega) (by omega), Int.toNat_natCast, setH_self, show w32 100 = 100 from rfl, if_pos (by decide)]
      refine ⟨⟨by omega, by omega⟩, ⟨by omega, by omega⟩, ?_⟩
      have F2 : Fr [110] [] h (setH h' 110 k 100) := F.setP rfl
      rw [B_253_135 (F2.fix M.1 (by decide +kernel)), show w32 1 = 1 from rfl, if_pos (by decide), w32_nat (a := (k : Int) + 1) (n := k + 1) (by omega) (by omega), Int.toNat_natCast]
      refine ⟨⟨by omega, by omega⟩, ?_⟩
      refine ihr (k + 1) (up t k 100) _ _ _ (by omega) (by omega) (T.step (fun z => absurd z hp)) (F2.setP rfl) (fun i hi => ?_) (Or.inr (setH_self _ _ _ _)) (fun h3 t' j5 hd F3 e3 => q1 h3 t' j5 hd F3 e3) (fun h3 Kx j5 hd hK F3 e3 => ?_)
      · rw [setH_k (by omega)]
        by_cases ei : i = k
        · subst ei; rw [setH_self, up_s]
        · rw [setH_k ei, up_n ei]; exact e i (by omega)
      · have X3 : Fix sh h3 := F3.fix M.1 (by decide +kernel)
        have e3k : h3 110 k = 100 := by rw [e3 k (by omega), up_s]
        rw [hK, show ((k + 1 : Nat) : Int) - 1 = (k : Int) by omega, B_253_17 X3, w32_id (a := (k : Int)) (by omega) (by omega), if_neg (by omega), w32_id (a := (n : Int)) (by omega) (by omega), if_neg (by omega), B_247_0 X3, bit_nat (by omega) (by omega), msk_bit, decide_eq_true (show k < n by omega), Bool.true_and, if_neg hp, w32_0, if_pos (by decide)]
        simp only [pushR0]
        rw [B_253_34 X3, w32_0, if_neg (by simp), w32_id (a := (k : Int)) (by omega) (by omega), Int.toNat_natCast, e3k, show w32 100 = 100 from rfl, if_pos (by decide)]
        refine ⟨⟨by omega, by omega⟩, ⟨by omega, by omega⟩, ?_⟩
        rw [B_253_80 X3, show w32 1 = 1 from rfl, if_neg (by decide), w32_id (a := (k : Int)) (by omega) (by omega), Int.toNat_natCast, setH_self, show w32 (100 + 1) = 101 from rfl, if_neg (by decide)]
        refine ⟨⟨by omega, by omega⟩, ⟨by omega, by omega⟩, ?_⟩
        have F4 : Fr [110] [] h (setH h3 110 k (100 + 1)) := F3.setP rfl
        rw [B_253_129 (F4.fix M.1 (by decide +kernel))]
        exact q0 _ _ _ hd (by omega) F4 (fun i hi => by rw [setH_k (by omega), e3 i (by omega), up_n (by omega)])
    obtain ⟨B, hB⟩ : ∃ B, min P (nxP (inP G) t k + 1) = B := ⟨_, rfl⟩
    obtain ⟨g, hg⟩ : ∃ g : Nat → Option (Nat → Int), g = fun (c : Nat) => if ftB (inP G) (frP G L k) t (c : Int) k = true then pkS (inP G) (frP G L) P r (k + 1) (up t k (c : Int)) else none := ⟨_, rfl⟩
    have es : pkS (inP G) (frP G L) P (r + 1) k t = dfI g B B := by simp only [pkS]; rw [if_pos hp, hB, hg]
    rw [es] at q1 q0
    have lp : ∀ (rem c : Nat) (h' : Sto) (j5 : V), c + rem = B → Fr [110] [] h h' → (∀ i, i < k → h' 110 i = t i) → h' 110 k = (c : Int) - 1 → (∀ h2 t' j5, dfI g B rem = some t' → Fr [110] [] h h2 → (∀ i, i < n → h2 110 i = t' i) → WF sc (d + 4) 253 17 [(2, 85), (0, (P : Int)), (0, ((msk (inP G) n : Nat) : Int)), (0, (n : Int)), (0, (n : Int)), j5] [] sh sl h2 Q) → (∀ h2 Kx j5, dfI g B rem = none → Kx = (k : Int) - 1 → Fr [110] [] h h2 → (∀ i, i < k → h2 110 i = t i) → WF sc (d + 4) 253 17 [(2, 85), (0, (P : Int)), (0, ((msk (inP G) n : Nat) : Int)), (0, (n : Int)), (0, Kx), j5] [] sh sl h2 Q) → WF sc (d + 4) 253 17 [(2, 85), (0, (P : Int)), (0, ((msk (inP G) n : Nat) : Int)), (0, (n : Int)), (0, (k : Int)), j5] [] sh sl h' Q := by
      intro rem
      induction rem with
      | zero =>
        intro c h' j5 hc F e ek q1 q0
        have X' : Fix sh h' := F.fix M.1 (by decide +kernel)
        have F2 : Fr [110] [] h (setH h' 110 k (c : Int)) := F.setP rfl
        have X2 : Fix sh (setH h' 110 k (c : Int)) := F2.fix M.1 (by decide +kernel)
        have e2 : ∀ i, i < k → setH h' 110 k (c : Int) 110 i = t i := fun i hi => by rw [setH_k (by omega)]; exact e i hi
        rw [B_253_17 X', w32_id (a := (k : Int)) (by omega) (by omega), if_neg (by omega), w32_id (a := (n : Int)) (by omega) (by omega), if_neg (by omega), B_247_0 X', bit_nat (by omega) (by omega), msk_bit, decide_eq_true (show k < n by omega), Bool.true_and, if_pos hp, show w32 1 = 1 from rfl, if_neg (by decide)]
        simp only [pushR0]
        rw [B_253_34 X', show w32 1 = 1 from rfl, if_pos (by decide), w32_id (a := (k : Int)) (by omega) (by omega), Int.toNat_natCast, ek, show (c : Int) - 1 + 1 = (c : Int) by omega]
        refine ⟨⟨by omega, by omega⟩, ?_⟩
        rw [B_253_80 X', w32_0, if_pos rfl, w32_id (a := (k : Int)) (by omega) (by omega), Int.toNat_natCast, setH_self, w32_id (a := (c : Int)) (by omega) (by omega), w32_id (a := (P : Int)) (by omega) (by omega)]
        refine ⟨⟨by omega, by omega⟩, ⟨by omega, by omega⟩, ?_⟩
        by_cases c1 : (P : Int) ≤ c
        · rw [if_pos c1, B_253_129 X2]
          exact q0 _ _ _ rfl (by omega) F2 e2
        · rw [if_neg c1]
          refine ⟨⟨by omega, by omega⟩, ?_⟩
          rw [B_254_0 X2]
          refine lp_next X2 hn10 (by omega) e2 T ?_ k 0 _ _ (by omega) rfl rfl
          simp only [pushR0]
          rw [B_253_126 X2, w32_id (a := (c : Int)) (by omega) (by omega), w32_id (a := ((nxP (inP G) t k : Nat) : Int)) (by omega) (by omega), if_neg (by omega), B_253_129 X2]
          exact q0 _ _ _ rfl (by omega) F2 e2
      | succ rem ih =>
        intro c h' j5 hc F e ek q1 q0
        have X' : Fix sh h' := F.fix M.1 (by decide +kernel)
        have F2 : Fr [110] [] h (setH h' 110 k (c : Int)) := F.setP rfl
        have X2 : Fix sh (setH h' 110 k (c : Int)) := F2.fix M.1 (by decide +kernel)
        have e2 : ∀ i, i < k → setH h' 110 k (c : Int) 110 i = t i := fun i hi => by rw [setH_k (by omega)]; exact e i hi
        have ds := dfI_s (g := g) hc
        have egc : g c = if ftB (inP G) (frP G L k) t (c : Int) k = true then pkS (inP G) (frP G L) P r (k + 1) (up t k (c : Int)) else none := by rw [hg]
        rw [ds] at q1 q0
        rw [B_253_17 X', w32_id (a := (k : Int)) (by omega) (by omega), if_neg (by omega), w32_id (a := (n : Int)) (by omega) (by omega), if_neg (by omega), B_247_0 X', bit_nat (by omega) (by omega), msk_bit, decide_eq_true (show k < n by omega), Bool.true_and, if_pos hp, show w32 1 = 1 from rfl, if_neg (by decide)]
        simp only [pushR0]
        rw [B_253_34 X', show w32 1 = 1 from rfl, if_pos (by decide), w32_id (a := (k : Int)) (by omega) (by omega), Int.toNat_natCast, ek, show (c : Int) - 1 + 1 = (c : Int) by omega]
        refine ⟨⟨by omega, by omega⟩, ?_⟩
        rw [B_253_80 X', w32_0, if_pos rfl, w32_id (a := (k : Int)) (by omega) (by omega), Int.toNat_natCast, setH_self, w32_id (a := (c : Int)) (by omega) (by omega), w32_id (a := (P : Int)) (by omega) (by omega), if_neg (by omega)]
        refine ⟨⟨by omega, by omega⟩, ⟨by omega, by omega⟩, ⟨by omega, by omega⟩, ?_⟩
        rw [B_254_0 X2]
        refine lp_next X2 hn10 (by omega) e2 T ?_ k 0 _ _ (by omega) rfl rfl
        simp only [pushR0]
        rw [B_253_126 X2, w32_id (a := (c : Int)) (by omega) (by omega), w32_id (a := ((nxP (inP G) t k : Nat) : Int)) (by omega) (by omega), if_pos (by omega), B_253_135 X2, w32_0, if_neg (by simp), B_255_0 X2]
        have M2 : MJ sh (setH h' 110 k (c : Int)) G n m L := M.of F2 (by decide +kernel) (by decide +kernel)
        have Fi2 : FiR G L n n 0 (setH h' 110 k (c : Int)) := by unfold FiR; rw [F2.row 107 rfl, F2.row 108 rfl]; exact Fi
        refine lp_fits M2 Fi2 (by omega) e2 T (setH_self _ _ _ _) (by omega) ?_ k 0 _ _ (by omega) rfl rfl
        simp only [pushR0]
        rw [B_253_147 X2]
        by_cases ok : ftB (inP G) (frP G L k) t (c : Int) k = true
        · rw [if_pos ok] at egc
          rw [if_pos ok, show w32 1 = 1 from rfl, if_neg (by decide), w32_nat (a := (k : Int) + 1) (n := k + 1) (by omega) (by omega), Int.toNat_natCast]
          refine ⟨⟨by omega, by omega⟩, ?_⟩
          refine ihr (k + 1) (up t k (c : Int)) _ _ _ (by omega) (by omega) (T.step (fun _ => ⟨by omega, by omega⟩)) (F2.setP rfl) (fun i hi => ?_) (Or.inr (setH_self _ _ _ _)) (fun h3 t' j5 hd F3 e3 => ?_) (fun h3 Kx j5 hd hK F3 e3 => ?_)
          · rw [setH_k (by omega)]
            by_cases ei : i = k
            · subst ei; rw [setH_self, up_s]
            · rw [up_n ei]; exact e2 i (by omega)
          · exact q1 h3 t' j5 (by rw [egc, hd]; rfl) F3 e3
          · have en : g c = none := egc.trans hd
            rw [en, Option.none_or] at q1 q0
            rw [hK, show ((k + 1 : Nat) : Int) - 1 = (k : Int) by omega]
            exact ih (c + 1) h3 _ (by omega) F3 (fun i hi => by rw [e3 i (by omega), up_n (by omega)]) (by rw [e3 k (by omega), up_s]; omega) q1 q0
        · rw [if_neg ok] at egc
          rw [egc, Option.none_or] at q1 q0
          rw [if_neg ok, w32_0, if_pos rfl]
          exact ih (c + 1) _ _ (by omega) F2 e2 (by rw [setH_self]; omega) q1 q0
    exact lp B 0 h' _ (by omega) F e (by rw [hm1]; rfl) q1 q0
end POCKM
