/-! ===== made up: what the class lays out ahead ===== -/
section MADED
variable {sc : Nat × (Nat → Int)} {d : Nat} {sh : Shp} {sl : Nat} {h : Sto} {Q : Pst} {G : Nat → Int} {n m : Nat} {L : List Law}
abbrev OpP : List Nat := [48, 49, 81, 82, 61, 62]
abbrev OpS : List (Nat × Nat) := [(60, 11)]
def OpI (G : Nat → Int) (L : List Law) (s : Nat) (h : Sto) : Prop := h 60 11 = ((cnt (rdP G) s : Nat) : Int) ∧ (∀ i, i < cnt (rdP G) s → h 61 i = ((gpA (rdP G) s i : Nat) : Int)) ∧ (∀ c, c < s → rdP G c = true → h 62 c = countsA G L c)
theorem lp_open (C : CJ sh h G n m L 10) (hq : ∀ h', Fr OpP OpS h h' → OpI G L n h' → Q (9, 0) sh sl h') : ∀ (rem s : Nat) (h' : Sto) (S : Int), s + rem = n → S = s → Fr OpP OpS h h' → OpI G L s h' → WF sc (d + 4) 111 7 [(2, 60), (0, S)] [] sh sl h' Q := by
  have W := C.2.2.2.1
  have B := C.2.2.2.2
  have hn10 := W.1.2.1
  have hm3 := W.1.2.2.2.1
  intro rem
  induction rem with
  | zero =>
    intro s h' S hs hS F e
    subst hS
    have hsn : s = n := by omega
    subst hsn
    rw [B_111_7 (F.fix C.1 (by decide +kernel)), F.at 1 0 rfl, C.2.1.1.1, w32_id (a := (s : Int)) (by omega) (by omega), if_pos (by omega)]
    exact hq h' F e
  | succ rem ih =>
    intro s h' S hs hS F e
    subst hS
    have hsn : s < n := by omega
    have C' : CJ sh h' G n m L 10 := C.of F (by decide +kernel) (by decide +kernel) (F.row 10 rfl)
    have hin := home_in C'.2.2.1 B hm3 hsn
    have gl := (B.2.1 s hsn).1
    have cl := cnt_le (rdP G) s
    have no : rdP G s = false → OpI G L (s + 1) h' := fun hp => by
      have ec : cnt (rdP G) (s + 1) = cnt (rdP G) s := by simp only [cnt]; rw [if_neg (by rw [hp]; decide)]
      have eg : gpA (rdP G) (s + 1) = gpA (rdP G) s := by simp only [gpA]; rw [if_neg (by rw [hp]; decide)]
      unfold OpI
      rw [ec, eg]
      refine ⟨e.1, e.2.1, fun c hc hr => ?_⟩
      by_cases es : c = s
      · subst es; rw [hp] at hr; cases hr
      · exact e.2.2 c (by omega) hr
    rw [B_111_7 C'.1, F.at 1 0 rfl, C.2.1.1.1, w32_id (a := (n : Int)) (by omega) (by omega), w32_id (a := (s : Int)) (by omega) (by omega), if_neg (by omega)]
    refine (bn_homeOf (b := 9) (c := 10) C'.1.bd (by omega)).mpr ?_
    simp only [pushR0]
    rw [B_111_26 C'.1]
    by_cases c1 : inP G s = true
    case neg =>
      rw [if_pos (fun q => c1 (hin.mp q))]
      exact ih (s + 1) h' _ (by omega) (by simp) F (no (by unfold rdP; rw [Bool.eq_false_iff.mpr c1]; rfl))
    rw [if_neg (fun q => q (hin.mpr c1))]
    refine (bn_glueOf (b := 9) (c := 10) C'.1.bd (by omega)).mpr ?_
    simp only [pushR0]
    rw [B_111_38 C'.1, (C'.2.2.1.2.1 s hsn).1, w32_id (a := G (18 + s)) (by omega) (by omega)]
    by_cases c2 : G (18 + s) ≤ 0
    · rw [if_pos c2]
      exact ih (s + 1) h' _ (by omega) (by simp) F (no (by unfold rdP; rw [decide_eq_false (by omega), Bool.and_false]))
    have hp : rdP G s = true := by unfold rdP; rw [c1, decide_eq_true (by omega)]; rfl
    have ec : cnt (rdP G) (s + 1) = cnt (rdP G) s + 1 := by simp only [cnt]; rw [if_pos hp]
    have eg : gpA (rdP G) (s + 1) = fun j => if j = cnt (rdP G) s then s else gpA (rdP G) s j := by simp only [gpA]; rw [if_pos hp]
    rw [if_neg c2, e.1, w32_id (a := ((cnt (rdP G) s : Nat) : Int)) (by omega) (by omega), Int.toNat_natCast]
    refine ⟨⟨by omega, by omega⟩, ?_⟩
    have F2 : Fr OpP OpS h (setH (setH h' 61 (cnt (rdP G) s) (s : Int)) 60 11 (((cnt (rdP G) s : Nat) : Int) + 1)) := (F.setP rfl).set rfl
    have C2 : CJ sh (setH (setH h' 61 (cnt (rdP G) s) (s : Int)) 60 11 (((cnt (rdP G) s : Nat) : Int) + 1)) G n m L 10 := C.of F2 (by decide +kernel) (by decide +kernel) (F2.row 10 rfl)
    refine sp_counts JQa C2 hsn (fun h1 F1 => ?_)
    have F1' : Fr OpP OpS h h1 := F2.trans (F1.mono rfl)
    simp only [pushR0]
    rw [B_111_74 (F1'.fix C.1 (by decide +kernel)), w32_id (a := (s : Int)) (by omega) (by omega), Int.toNat_natCast]
    refine ⟨⟨by omega, by omega⟩, ih (s + 1) _ _ (by omega) (by simp) (F1'.setP rfl) ?_⟩
    unfold OpI
    rw [ec, eg, setH_o (by decide), F1.at 60 11 rfl, setH_self, setH_o (by decide), F1.row 61 rfl, setH_o (by decide)]
    refine ⟨by omega, fun i hi => ?_, fun c hc hr => ?_⟩
    · show _ = ((if i = cnt (rdP G) s then s else gpA (rdP G) s i : Nat) : Int)
      by_cases ei : i = cnt (rdP G) s
      · subst ei; rw [setH_self, if_pos rfl]
      · rw [setH_k ei, if_neg ei]; exact e.2.1 i (by omega)
    · by_cases es : c = s
      · subst es; rw [setH_self]
      · rw [setH_k es, F1.row 62 rfl, setH_o (by decide), setH_o (by decide)]; exact e.2.2 c (by omega) hr
theorem lp_rchI {cn : Nat → Int} {rd : Nat → Bool} {k : Nat} (X : Fix sh h) (hn10 : n ≤ 10) (hk : 1 ≤ k ∧ k ≤ 5) (e11 : h 60 11 = ((cnt rd n : Nat) : Int)) (e61 : ∀ i, i < cnt rd n → h 61 i = ((gpA rd n i : Nat) : Int)) (e62 : ∀ c, c < n → rd c = true → h 62 c = cn c) (cb : ∀ c, c < n → 0 ≤ cn c ∧ cn c ≤ 60) (hq : ∀ (h' : Sto) (x2 : Int), Fr [65] [] h h' → (∀ j, j ≠ k → h' 65 j = h 65 j) → (∀ i x, i < cnt rd n → x < 64 → (cn (gpA rd n i)).toNat ≤ x → lb (h 65 (k - 1)) (x - (cn (gpA rd n i)).toNat) = true → lb (h' 65 k) x = true) → WF sc (d + 1) 112 9 [(2, 60), (0, (k : Int) + 1), (0, x2)] [] sh sl h' Q) : ∀ (rem i : Nat) (h' : Sto) (I : Int), i + rem = cnt rd n → I = i → Fr [65] [] h h' → (∀ j, j ≠ k → h' 65 j = h 65 j) → (∀ i' x, i' < i → x < 64 → (cn (gpA rd n i')).toNat ≤ x → lb (h 65 (k - 1)) (x - (cn (gpA rd n i')).toNat) = true → lb (h' 65 k) x = true) → WF sc (d + 1) 112 34 [(2, 60), (0, (k : Int)), (0, I)] [] sh sl h' Q := by
  have hN := cnt_le rd n
  intro rem
  induction rem with
  | zero =>
    intro i h' I hi hI F e1 e2
    subst hI
    have hiN : i = cnt rd n := by omega
    rw [B_112_34 (F.fix X (by decide +kernel)), F.row 60 rfl, e11, w32_id (a := ((cnt rd n : Nat) : Int)) (by omega) (by omega), w32_id (a := (i : Int)) (by omega) (by omega), if_pos (by omega)]
    rw [hiN] at e2
    exact hq h' _ F e1 e2
  | succ rem ih =>
    intro i h' I hi hI F e1 e2
    subst hI
    obtain ⟨c, hc⟩ : ∃ c, gpA rd n i = c := ⟨_, rfl⟩
    have hcn : c < n := by rw [← hc]; exact gpA_lt n i (by omega)
    have hcr : rd c = true := by rw [← hc]; exact gpA_p n i (by omega)
    have cc := cb c hcn
    rw [B_112_34 (F.fix X (by decide +kernel)), F.row 60 rfl, e11, w32_id (a := ((cnt rd n : Nat) : Int)) (by omega) (by omega), w32_id (a := (i : Int)) (by omega) (by omega), if_neg (by omega), w32_id (a := (k : Int)) (by omega) (by omega), w32_nat (a := (k : Int) - 1) (n := k - 1) (by omega) (by omega), Int.toNat_natCast, Int.toNat_natCast, Int.toNat_natCast, F.row 61 rfl, e61 i (by omega), hc, w32_id (a := (c : Int)) (by omega) (by omega), Int.toNat_natCast, F.row 62 rfl, e62 c hcn hcr, e1 (k - 1) (by omega)]
    refine ⟨⟨by omega, by omega⟩, ⟨by omega, by omega⟩, ⟨by omega, by omega⟩, ⟨by omega, by omega⟩, ⟨by omega, by omega⟩, ih (i + 1) _ _ (by omega) (by simp) (F.setP rfl) (fun j hj => by rw [setH_k hj]; exact e1 j hj) (fun i' x hi' hx h1 h2 => ?_)⟩
    rw [setH_self, lb_or]
    by_cases ei : i' = i
    · subst ei
      rw [hc] at h1 h2
      have sl := lb_shl (h 65 (k - 1)) (c := (cn c).toNat) (j := x) (by omega) hx
      rw [show (((cn c).toNat : Nat) : Int) = cn c by omega] at sl
      rw [sl, h2, decide_eq_true h1]
      simp
    · rw [e2 i' x (by omega) hx h1 h2, Bool.true_or]
theorem lp_rch {cn : Nat → Int} {rd : Nat → Bool} (X : Fix sh h) (hn10 : n ≤ 10) (e11 : h 60 11 = ((cnt rd n : Nat) : Int)) (e61 : ∀ i, i < cnt rd n → h 61 i = ((gpA rd n i : Nat) : Int)) (e62 : ∀ c, c < n → rd c = true → h 62 c = cn c) (cb : ∀ c, c < n → 0 ≤ cn c ∧ cn c ≤ 60) (hq : ∀ h', Fr [65] [] h h' → (∀ j x, j ≤ 5 → x < 64 → rcO cn rd n j x → lb (h' 65 j) x = true) → Q (9, 0) sh sl h') : ∀ (rem k : Nat) (h' : Sto) (Kx : Int) (j2 : V), k + rem = 6 → 1 ≤ k → Kx = k → Fr [65] [] h h' → (∀ j x, j < k → x < 64 → rcO cn rd n j x → lb (h' 65 j) x = true) → WF sc (d + 1) 112 9 [(2, 60), (0, Kx), j2] [] sh sl h' Q := by
  intro rem
  induction rem with
  | zero =>
    intro k h' Kx j2 hk h1 hK F e
    subst hK
    rw [B_112_9 (F.fix X (by decide +kernel)), w32_id (a := (k : Int)) (by omega) (by omega), if_pos (by omega)]
    exact hq h' F (fun j x hj => e j x (by omega))
  | succ rem ih =>
    intro k h' Kx j2 hk h1 hK F e
    subst hK
    have X' : Fix sh h' := F.fix X (by decide +kernel)
    rw [B_112_9 X', w32_id (a := (k : Int)) (by omega) (by omega), if_neg (by omega), w32_nat (a := (k : Int) - 1) (n := k - 1) (by omega) (by omega), Int.toNat_natCast, Int.toNat_natCast]
    refine ⟨⟨by omega, by omega⟩, ⟨by omega, by omega⟩, ?_⟩
    have F2 : Fr [65] [] h (setH h' 65 k (h' 65 (k - 1))) := F.setP rfl
    refine lp_rchI (h := setH h' 65 k (h' 65 (k - 1))) (cn := cn) (rd := rd) (F2.fix X (by decide +kernel)) hn10 ⟨h1, by omega⟩ (by rw [F2.row 60 rfl]; exact e11) (fun i hi => by rw [F2.row 61 rfl]; exact e61 i hi) (fun c hc hr => by rw [F2.row 62 rfl]; exact e62 c hc hr) cb (fun h3 x2 F3 g1 g2 => ?_) (cnt rd n) 0 _ _ (by omega) rfl (Fr.refl _) (fun j hj => rfl) (fun i' x hi' => by omega)
    refine ih (k + 1) h3 _ _ (by omega) (by omega) (by simp) (F2.trans F3) (fun j x hj hx hr => ?_)
    by_cases ej : j = k
    · subst ej
      obtain ⟨j', rfl⟩ : ∃ j', j = j' + 1 := ⟨j - 1, by omega⟩
      obtain ⟨c, hc, hcr, hcx, hrc⟩ := hr
      obtain ⟨i, hi, hic⟩ := gpA_sur n c hc hcr
      refine g2 i x hi hx (by rw [hic]; exact hcx) ?_
      rw [hic, Nat.add_sub_cancel, setH_k (by omega)]
      exact e j' _ (by omega) (by omega) hrc
    · rw [g1 j ej, setH_k ej]
      exact e j x (by omega) hx hr
theorem sp_rch {cn : Nat → Int} {rd : Nat → Bool} (X : Fix sh h) (hn10 : n ≤ 10) (e11 : h 60 11 = ((cnt rd n : Nat) : Int)) (e61 : ∀ i, i < cnt rd n → h 61 i = ((gpA rd n i : Nat) : Int)) (e62 : ∀ c, c < n → rd c = true → h 62 c = cn c) (cb : ∀ c, c < n → 0 ≤ cn c ∧ cn c ≤ 60) (hq : ∀ h', Fr [65] [] h h' → (∀ j x, j ≤ 5 → x < 64 → rcO cn rd n j x → lb (h' 65 j) x = true) → Q (9, 0) sh sl h') : WM sc (d + 1) 112 [(2, 60)] sh sl h Q := by
  rw [B_112_0 X]
  refine lp_rch X hn10 e11 e61 e62 cb hq 5 1 _ _ _ (by omega) (by omega) rfl ((Fr.refl h).setP rfl) (fun j x hj hx hr => ?_)
  have : j = 0 := by omega
  subst this
  have hx0 : x = 0 := hr
  subst hx0
  rw [setH_self, lb_one ⟨0, by omega⟩]; rfl
abbrev FqP : List Nat := [48, 49, 81, 82, 63, 64]
abbrev FqS : List (Nat × Nat) := [(60, 13)]
/-- quarrels and bars of the open ones, up to i and of i up to k -/
def FqI (G : Nat → Int) (L : List Law) (n i k : Nat) (h : Sto) : Prop := (0 ≤ h 60 13 ∧ h 60 13 ≤ 20) ∧ ∀ a b, (a < i ∨ (a = i ∧ b < k)) → a < cnt (rdP G) n → b < cnt (rdP G) n → a ≠ b → h 63 (10 * gpA (rdP G) n a + gpA (rdP G) n b) = quarrelA G L (gpA (rdP G) n a) (gpA (rdP G) n b) ∧ h 64 (10 * gpA (rdP G) n a + gpA (rdP G) n b) = (if barredA G L (gpA (rdP G) n a) (gpA (rdP G) n b) = true then 1 else 0) ∧ h 60 13 ≤ quarrelA G L (gpA (rdP G) n a) (gpA (rdP G) n b)
theorem lp_fqI {i : Nat} (C : CJ sh h G n m L 10) (e11 : h 60 11 = ((cnt (rdP G) n : Nat) : Int)) (e61 : ∀ i, i < cnt (rdP G) n → h 61 i = ((gpA (rdP G) n i : Nat) : Int)) (hi : i < cnt (rdP G) n) (hq : ∀ (h' : Sto) (j2 j3 : V), Fr FqP FqS h h' → FqI G L n (i + 1) 0 h' → WF sc (d + 4) 114 8 [(2, 60), (0, (i : Int) + 1), j2, j3] [] sh sl h' Q) : ∀ (rem k : Nat) (h' : Sto) (Kx : Int) (j3 : V), k + rem = cnt (rdP G) n → Kx = k → Fr FqP FqS h h' → FqI G L n i k h' → WF sc (d + 4) 114 18 [(2, 60), (0, (i : Int)), (0, Kx), j3] [] sh sl h' Q := by
  have W := C.2.2.2.1
  have hn10 := W.1.2.1
  have hN := cnt_le (rdP G) n
  intro rem
  induction rem with
  | zero =>
    intro k h' Kx j3 hk hK F e
    subst hK
    rw [B_114_18 (F.fix C.1 (by decide +kernel)), F.at 60 11 rfl, e11, w32_id (a := ((cnt (rdP G) n : Nat) : Int)) (by omega) (by omega), w32_id (a := (k : Int)) (by omega) (by omega), if_pos (by omega)]
    exact hq h' _ _ F ⟨e.1, fun a b hab ha hb hne => e.2 a b (by omega) ha hb hne⟩
  | succ rem ih =>
    intro k h' Kx j3 hk hK F e
    subst hK
    have X' : Fix sh h' := F.fix C.1 (by decide +kernel)
    rw [B_114_18 X', F.at 60 11 rfl, e11, w32_id (a := ((cnt (rdP G) n : Nat) : Int)) (by omega) (by omega), w32_id (a := (k : Int)) (by omega) (by omega), if_neg (by omega), w32_id (a := (i : Int)) (by omega) (by omega)]
    by_cases eik : (i : Int) = k
    · rw [if_pos eik]
      exact ih (k + 1) h' _ _ (by omega) (by simp) F ⟨e.1, fun a b hab ha hb hne => e.2 a b (by omega) ha hb hne⟩
    rw [if_neg eik, Int.toNat_natCast, Int.toNat_natCast, F.row 61 rfl, e61 i hi, e61 k (by omega)]
    refine ⟨⟨by omega, by omega⟩, ⟨by omega, by omega⟩, ⟨by omega, by omega⟩, ⟨by omega, by omega⟩, ?_⟩
    obtain ⟨a, ha⟩ : ∃ a, gpA (rdP G) n i = a := ⟨_, rfl⟩
    obtain ⟨b, hb⟩ : ∃ b, gpA (rdP G) n k = b := ⟨_, rfl⟩
    have han : a < n := by rw [← ha]; exact gpA_lt n i hi
    have hbn : b < n := by rw [← hb]; exact gpA_lt n k (by omega)
    have qb := quarrelA_bd W han hbn
    have C' : CJ sh h' G n m L 10 := C.of F (by decide +kernel) (by decide +kernel) (F.row 10 rfl)
    rw [ha, hb]
    refine sp_quarrel JQa C' han hbn (fun h1 F1 => ?_)
    have F1' : Fr FqP FqS h h1 := F.trans (F1.mono rfl)
    simp only [pushR0]
    rw [B_114_72 (F1'.fix C.1 (by decide +kernel)), w32_nat (a := (a : Int) * 10 + (b : Int)) (n := 10 * a + b) (by omega) (by omega), w32_id (a := (i : Int)) (by omega) (by omega), w32_id (a := (k : Int)) (by omega) (by omega), Int.toNat_natCast, Int.toNat_natCast, Int.toNat_natCast, F1'.row 61 rfl, e61 i hi, e61 k (by omega), ha, hb]
    refine ⟨⟨by omega, by omega⟩, ⟨by omega, by omega⟩, ⟨by omega, by omega⟩, ?_⟩
    have F2 : Fr FqP FqS h (setH h1 63 (10 * a + b) (quarrelA G L a b)) := F1'.setP rfl
    have C2 : CJ sh (setH h1 63 (10 * a + b) (quarrelA G L a b)) G n m L 10 := C.of F2 (by decide +kernel) (by decide +kernel) (F2.row 10 rfl)
    refine sp_barred JQa C2 han hbn (fun h3 F3 => ?_)
    have F3' : Fr FqP FqS h h3 := F2.trans (F3.mono rfl)
    have r63 : h3 63 = setH h1 63 (10 * a + b) (quarrelA G L a b) 63 := F3.row 63 rfl
    have r13 : h3 60 13 = h' 60 13 := by rw [F3.at 60 13 rfl, setH_o (by decide), F1.at 60 13 rfl]
    have lb' := e.1
    simp only [pushR0]
    rw [B_114_97 (F3'.fix C.1 (by decide +kernel)), w32_nat (a := (a : Int) * 10 + (b : Int)) (n := 10 * a + b) (by omega) (by omega), Int.toNat_natCast, r63, setH_self, r13, w32_id (a := quarrelA G L a b) (by omega) (by omega), w32_id (a := h' 60 13) (by omega) (by omega)]
    refine ⟨⟨⟨by omega, by omega⟩, by split <;> simp⟩, ⟨by omega, by omega⟩, ih (k + 1) _ _ _ (by omega) (by simp) ((F3'.setP rfl).set rfl) ⟨?_, fun a2 b2 hab ha2 hb2 hne => ?_⟩⟩
    · rw [setH_self]; split <;> omega
    · rw [setH_o (by decide), setH_o (by decide), setH_o (by decide), setH_self, r63]
      have a2n : gpA (rdP G) n a2 < n := gpA_lt n a2 ha2
      have b2n : gpA (rdP G) n b2 < n := gpA_lt n b2 hb2
      by_cases eab : 10 * gpA (rdP G) n a2 + gpA (rdP G) n b2 = 10 * a + b
      · have e1 : gpA (rdP G) n a2 = a := by omega
        have e2 : gpA (rdP G) n b2 = b := by omega
        rw [e1, e2, setH_self, setH_self]
        refine ⟨rfl, rfl, ?_⟩
        split <;> omega
      · have old := e.2 a2 b2 (by
          rcases hab with z | ⟨z1, z2⟩
          · exact Or.inl z
          · refine Or.inr ⟨z1, ?_⟩
            by_cases z3 : b2 = k
            · exfalso; apply eab; rw [z1, z3, ha, hb]
            · omega) ha2 hb2 hne
        rw [setH_k eab, setH_k eab, F1.row 63 rfl, F3.row 64 rfl, setH_o (by decide), F1.row 64 rfl]
        refine ⟨old.1, old.2.1, ?_⟩
        have := old.2.2
        split <;> omega
theorem lp_fq (C : CJ sh h G n m L 10) (e11 : h 60 11 = ((cnt (rdP G) n : Nat) : Int)) (e61 : ∀ i, i < cnt (rdP G) n → h 61 i = ((gpA (rdP G) n i : Nat) : Int)) (hq : ∀ h', Fr FqP FqS h h' → FqI G L n (cnt (rdP G) n) 0 h' → Q (9, 0) sh sl h') : ∀ (rem i : Nat) (h' : Sto) (I : Int) (j2 j3 : V), i + rem = cnt (rdP G) n → I = i → Fr FqP FqS h h' → FqI G L n i 0 h' → WF sc (d + 4) 114 8 [(2, 60), (0, I), j2, j3] [] sh sl h' Q := by
  have W := C.2.2.2.1
  have hn10 := W.1.2.1
  have hN := cnt_le (rdP G) n
  intro rem
  induction rem with
  | zero =>
    intro i h' I j2 j3 hi hI F e
    subst hI
    have hiN : i = cnt (rdP G) n := by omega
    rw [B_114_8 (F.fix C.1 (by decide +kernel)), F.at 60 11 rfl, e11, w32_id (a := ((cnt (rdP G) n : Nat) : Int)) (by omega) (by omega), w32_id (a := (i : Int)) (by omega) (by omega), if_pos (by omega)]
    rw [hiN] at e
    exact hq h' F e
  | succ rem ih =>
    intro i h' I j2 j3 hi hI F e
    subst hI
    rw [B_114_8 (F.fix C.1 (by decide +kernel)), F.at 60 11 rfl, e11, w32_id (a := ((cnt (rdP G) n : Nat) : Int)) (by omega) (by omega), w32_id (a := (i : Int)) (by omega) (by omega), if_neg (by omega)]
    exact lp_fqI C e11 e61 (by omega) (fun h2 j2 j3 F2 e2 => ih (i + 1) h2 _ _ _ (by omega) (by simp) F2 e2) (cnt (rdP G) n) 0 h' _ _ (by omega) rfl F e
theorem sp_fq (C : CJ sh h G n m L 10) (e11 : h 60 11 = ((cnt (rdP G) n : Nat) : Int)) (e61 : ∀ i, i < cnt (rdP G) n → h 61 i = ((gpA (rdP G) n i : Nat) : Int)) (hq : ∀ h', Fr FqP FqS h h' → FqI G L n (cnt (rdP G) n) 0 h' → Q (9, 0) sh sl h') : WM sc (d + 4) 114 [(2, 60)] sh sl h Q := by
  rw [B_114_0 C.1]
  exact lp_fq C e11 e61 hq (cnt (rdP G) n) 0 _ _ _ _ (by omega) rfl ((Fr.refl h).set rfl) ⟨by rw [setH_self]; exact ⟨by decide, by decide⟩, fun a b hab => by omega⟩
end MADED
