/-! ===== pass, on both sides ===== -/
theorem flS_o {G : Nat → Int} {l : Nat} : ∀ (i x : Nat), (x < 8 ∨ 49 ≤ x) → (∀ j, j < i → j < 5) → l < 3 → (∀ j, j < i → spA G l j < 10) → (flS G l i).2 x = G x ∧ (flS G l i).1 ≤ i := by
  intro i
  induction i with
  | zero => intro x _ _ _ _; exact ⟨rfl, Nat.le_refl _⟩
  | succ i ih =>
    intro x hx h5 hl hs
    have i1 := ih x hx (fun j hj => h5 j (by omega)) hl (fun j hj => hs j (by omega))
    have i5 := h5 i (by omega)
    have si := hs i (by omega)
    by_cases hg : 0 < G (18 + spA G l i)
    · simp only [flS, if_pos hg]
      rw [up_n (by omega), up_n (by omega)]; exact ⟨i1.1, by omega⟩
    · simp only [flS, if_neg hg]
      rw [up_n (by omega), up_n (by omega)]; exact ⟨i1.1, by omega⟩
theorem flG_o {G : Nat → Int} {n m l : Nat} (B : BW G n m) (hn : n ≤ 10) (hm : m ≤ 3) (hl : l < m) (x : Nat) (hx : x < 8 ∨ 49 ≤ x) : flG G l x = G x := by
  have bl := B.2.2.1 l hl
  unfold flG
  rw [up_n (by omega)]
  exact (flS_o _ x hx (fun j hj => by omega) (by omega) (fun j hj => by have := (B.sp (i := j) hl (by omega)).2.1; omega)).1
theorem flN_bd {G : Nat → Int} {n m l : Nat} (B : BW G n m) (hn : n ≤ 10) (hm : m ≤ 3) (hl : l < m) : 0 ≤ flN G l ∧ flN G l ≤ 5 := by
  have bl := B.2.2.1 l hl
  have := (flS_o (G := G) (l := l) (G (31 + l)).toNat 0 (by omega) (fun j hj => by omega) (by omega) (fun j hj => by have := (B.sp (i := j) hl (by omega)).2.1; omega)).2
  unfold flN; omega
theorem day_BR {f H : Nat → Int} {n m : Nat} {v : Int} (R : BR f H n m) (B : BW H n m) (hn : n ≤ 10) (hv : 0 ≤ v ∧ v ≤ 999) : BR (up f 0 v) (up H 5 v) n m ∧ BW (up H 5 v) n m := by
  obtain ⟨r1, r2, r3, r4⟩ := R
  obtain ⟨b1, b2, b3, b4, b5⟩ := B
  refine ⟨⟨by rw [up_s, up_s], fun u hu => ?_, fun k hk => ?_, fun k i hk hi => ?_⟩, by rw [up_s]; exact hv, fun u hu => ?_, fun k hk => ?_, fun k i hk hi => ?_, fun k i j hk hij hj => ?_⟩
  · rw [up_n (by omega), up_n (by omega), up_n (by omega), up_n (by omega)]; exact r2 u hu
  · rw [up_n (by omega), up_n (by omega), up_n (by omega), up_n (by omega)]; exact r3 k hk
  · rw [up_n (by omega)] at hi
    rw [up_n (by omega), up_n (by omega)]; exact r4 k i hk hi
  · rw [up_n (by omega), up_n (by omega)]; exact b2 u hu
  · rw [up_n (by omega), up_n (by omega)]; exact b3 k hk
  · rw [up_n (by omega)] at hi
    obtain ⟨u, u1, u2, u3⟩ := b4 k i hk hi
    exact ⟨u, by rw [up_n (by omega)]; exact u1, u2, by rw [up_n (by omega)]; exact u3⟩
  · rw [up_n (by omega)] at hj
    rw [up_n (by omega), up_n (by omega)]; exact b5 k i j hk hij hj
/-- the rows along the LETTERS -/
theorem pa_B {G : Nat → Int} {n m : Nat} (B : BW G n m) (hn : n ≤ 10) (hm : m ≤ 3) : ∀ l, l ≤ m → BW (paF G l).2 n m ∧ (∀ x, (x < 8 ∨ 49 ≤ x) → (paF G l).2 x = G x) ∧ 0 ≤ (paF G l).1 ∧ (paF G l).1 ≤ 5 * l := by
  intro l
  induction l with
  | zero => intro _; exact ⟨B, fun _ _ => rfl, by show (0 : Int) ≤ 0; omega, by show (0 : Int) ≤ _; omega⟩
  | succ l ih =>
    intro hl
    obtain ⟨i1, i2, i3, i4⟩ := ih (by omega)
    have fb := flN_bd i1 hn hm (show l < m by omega)
    -- a board of the class that agrees, to use fl_BR
    have hR : ∃ f, BR f (paF G l).2 n m := by
      refine ⟨fun i => if i = 0 then (paF G l).2 5 else if i < 11 then (paF G l).2 (18 + (i - 1)) else if i < 21 then (if (paF G l).2 (8 + (i - 11)) = 9 then -2 else (paF G l).2 (8 + (i - 11))) else if i < 24 then (paF G l).2 (31 + (i - 21)) else if i < 39 then (paF G l).2 (34 + (i - 24)) else (paF G l).2 (28 + (i - 39)), ?_, fun u hu => ⟨?_, ?_⟩, fun k hk => ⟨?_, ?_⟩, fun k i hk hi => ?_⟩
      · rfl
      · simp only; rw [if_neg (by omega), if_pos (by omega), show 18 + (1 + u - 1) = 18 + u by omega]
      · simp only; rw [if_neg (by omega), if_neg (by omega), if_pos (by omega), show 8 + (11 + u - 11) = 8 + u by omega]
      · simp only; rw [if_neg (by omega), if_neg (by omega), if_neg (by omega), if_pos (by omega), show 31 + (21 + k - 21) = 31 + k by omega]
      · simp only; rw [if_neg (by omega), if_neg (by omega), if_neg (by omega), if_neg (by omega), if_neg (by omega), show 28 + (39 + k - 39) = 28 + k by omega]
      · have := i1.2.2.1 k hk
        simp only; rw [if_neg (by omega), if_neg (by omega), if_neg (by omega), if_neg (by omega), if_pos (by omega), show 34 + (24 + 5 * k + i - 24) = 34 + 5 * k + i by omega]
    obtain ⟨f, hf⟩ := hR
    refine ⟨(fl_BR hf i1 hn hm (by omega)).2, fun x hx => ?_, ?_, ?_⟩
    · show flG (paF G l).2 l x = G x
      rw [flG_o i1 hn hm (by omega) x hx]; exact i2 x hx
    · show 0 ≤ (paF G l).1 + flN (paF G l).2 l; omega
    · show (paF G l).1 + flN (paF G l).2 l ≤ _; omega
theorem pass_B {G : Nat → Int} {L : List Law} {n m : Nat} (B : BW G n m) (hn : n ≤ 10) (hm : m ≤ 3) (h5 : G 5 ≠ 999) : BW (passG G L n m) n m ∧ 0 ≤ (paF (glF G L n) m).1 ∧ (paF (glF G L n) m).1 ≤ 15 := by
  have b := pa_B (gl_B (L := L) B hn hm) hn hm m (Nat.le_refl m)
  have b5 := B.1
  refine ⟨?_, b.2.2.1, by have := b.2.2.2; omega⟩
  obtain ⟨c1, c2, c3, c4, c5⟩ := b.1
  unfold passG
  refine ⟨by rw [up_s]; omega, fun u hu => ?_, fun k hk => ?_, fun k i hk hi => ?_, fun k i j hk hij hj => ?_⟩
  · rw [up_n (by omega), up_n (by omega)]; exact c2 u hu
  · rw [up_n (by omega), up_n (by omega)]; exact c3 k hk
  · rw [up_n (by omega)] at hi
    obtain ⟨u, u1, u2, u3⟩ := c4 k i hk hi
    exact ⟨u, by rw [up_n (by omega)]; exact u1, u2, by rw [up_n (by omega)]; exact u3⟩
  · rw [up_n (by omega)] at hj
    rw [up_n (by omega), up_n (by omega)]; exact c5 k i j hk hij hj
section PASS
variable {sc : Nat × (Nat → Int)} {d : Nat} {sh : Shp} {sl : Nat} {h : Sto} {Q : Pst} {G : Nat → Int} {n m : Nat} {L : List Law}
theorem lp_drop_a {l : Nat} (X : Fix sh h) (R : BR (h 10) G n m) (B : BW G n m) (hn10 : n ≤ 10) (hm3 : m ≤ 3) (hl : l < m) (hq : ∀ h', Fr [10] [] h h' → BR (h' 10) (flG G l) n m → Q (0, flN G l) sh sl h') : ∀ (rem i : Nat) (h' : Sto) (I K : Int) (j5 : V), i + rem = (G (31 + l)).toNat → I = i → K = ((flS G l i).1 : Int) → Fr [10] [] h h' → h' 10 = flC (h 10) G l i → WF sc (d + 2) 95 14 [(2, 50), (0, (l : Int)), (0, G (31 + l)), (0, K), (0, I), j5] [] sh sl h' Q := by
  have bl := B.2.2.1 l hl
  intro rem
  induction rem with
  | zero =>
    intro i h' I K j5 hi hI hK F e
    subst hI hK
    have X' : Fix sh h' := F.fix X (by decide +kernel)
    have ei : i = (G (31 + l)).toNat := by omega
    subst ei
    have X2 : Fix sh (setH h' 10 (21 + l) ((flS G l (G (31 + l)).toNat).1 : Int)) := X'.a (by decide +kernel)
    rw [B_95_14a X', w32_id (a := G (31 + l)) (by omega) (by omega), w32_id (a := (((G (31 + l)).toNat : Nat) : Int)) (by omega) (by omega), if_pos (by omega)]
    refine (bn_setSize (b := 9) (c := 10) X'.bd (show l < 3 by omega)).mpr ?_
    simp only [pushR9]
    rw [B_95_86a X2]
    refine hq _ (F.setP rfl) ?_
    rw [setH_r, e]
    exact (fl_BR R B hn10 hm3 hl).1
  | succ rem ih =>
    intro i h' I K j5 hi hI hK F e
    subst hI hK
    have X' : Fix sh h' := F.fix X (by decide +kernel)
    obtain ⟨a1, a2, a3, a4, a5, a6, a7, a8, a9⟩ := flI R B hn10 hm3 hl i (by omega)
    have sp := B.sp (i := i) hl (by omega)
    have bs := (B.2.1 _ sp.2.1).1
    rw [B_95_14a X', w32_id (a := G (31 + l)) (by omega) (by omega), w32_id (a := (i : Int)) (by omega) (by omega), if_neg (by omega)]
    refine (bn_stampAt (b := 9) (c := 10) X'.bd (show l < 3 by omega) (show i < 5 by omega)).mpr ?_
    simp only [pushR0]
    rw [B_95_30a X', e, (a4 i (by omega) (by omega)).2, R.2.2.2 l i hl (by omega), sp.1]
    refine (bn_glueOf (b := 9) (c := 10) X'.bd (show spA G l i < 10 by omega)).mpr ?_
    simp only [pushR0]
    rw [B_95_41a X', e, a8 _ (by omega), (R.2.1 _ sp.2.1).1, w32_id (a := G (18 + spA G l i)) (by omega) (by omega)]
    by_cases hg : 0 < G (18 + spA G l i)
    · rw [if_pos (by omega)]
      refine (bn_setStampAt (b := 9) (c := 10) X'.bd (show l < 3 by omega) (show (flS G l i).1 < 5 by omega)).mpr ?_
      simp only [pushR9]
      rw [B_95_68a (X'.a (by decide +kernel))]
      refine ih (i + 1) _ _ _ _ (by omega) (by simp) ?_ (F.setP rfl) ?_
      · simp only [flS, if_pos hg]; simp
      · rw [setH_r, e]; simp only [flC, if_pos hg]
    · rw [if_neg (by omega)]
      refine (bn_setHome (b := 9) (c := 10) X'.bd (show spA G l i < 10 by omega)).mpr ?_
      simp only [pushR9]
      rw [B_95_54a (X'.a (by decide +kernel))]
      refine ih (i + 1) _ _ _ _ (by omega) (by simp) ?_ (F.setP rfl) ?_
      · simp only [flS, if_neg hg]
      · rw [setH_r, e]; simp only [flC, if_neg hg]
theorem sp_drop_a {l : Nat} (X : Fix sh h) (R : BR (h 10) G n m) (B : BW G n m) (hn10 : n ≤ 10) (hm3 : m ≤ 3) (hl : l < m) (hq : ∀ h', Fr [10] [] h h' → BR (h' 10) (flG G l) n m → Q (0, flN G l) sh sl h') : WM sc (d + 2) 95 [(2, 50), (0, (l : Int))] sh sl h Q := by
  rw [B_95_0a X]
  refine (bn_sizeOf (b := 9) (c := 10) X.bd (show l < 3 by omega)).mpr ?_
  simp only [pushR0]
  rw [B_95_8a X, (R.2.2.1 l hl).1]
  exact lp_drop_a X R B hn10 hm3 hl hq (G (31 + l)).toNat 0 h _ _ _ (by omega) rfl rfl (Fr.refl h) rfl
theorem lp_dry_a {j2 : V} (C : CJ sh h G n m L 10) (hq : ∀ h', Fr [51, 48, 49, 81, 82] [] h h' → (∀ s, s < n → h' 51 s = drA G L s) → WF sc (d + 4) 94 68 [(2, 50), (0, 0), j2] [] sh sl h' Q) : ∀ (rem s : Nat) (h' : Sto) (S : Int), s + rem = n → S = s → Fr [51, 48, 49, 81, 82] [] h h' → (∀ j, j < s → h' 51 j = drA G L j) → WF sc (d + 4) 94 18 [(2, 50), (0, S), j2] [] sh sl h' Q := by
  have hC := C
  obtain ⟨X, S, R, W, B⟩ := C
  have hn10 := W.1.2.1
  have hm3 := W.1.2.2.2.1
  intro rem
  induction rem with
  | zero =>
    intro s h' S' hs hS F e
    subst hS
    have X' : Fix sh h' := F.fix X (by decide +kernel)
    have : s = n := by omega
    subst this
    rw [B_94_18a X', F.at 1 0 rfl, S.1.1, w32_id (a := (s : Int)) (by omega) (by omega), if_pos (by omega)]
    exact hq h' F e
  | succ rem ih =>
    intro s h' S' hs hS F e
    subst hS
    have X' : Fix sh h' := F.fix X (by decide +kernel)
    have C' : CJ sh h' G n m L 10 := hC.of F (by decide +kernel) (by decide +kernel) (F.row 10 rfl)
    have R' := C'.2.2.1
    have bs := B.2.1 s (by omega)
    have nx : ∀ h1 (v : Int), Fr [51, 48, 49, 81, 82] [] h h1 → (∀ j, j < s → h1 51 j = drA G L j) → v = drA G L s → WF sc (d + 4) 94 59 [(2, 50), (0, (s : Int)), j2] [(0, v), (0, (s : Int)), (2, 51)] sh sl h1 Q := by
      intro h1 v F1 e1 hv
      have X1 : Fix sh h1 := F1.fix X (by decide +kernel)
      rw [B_94_59a X1, w32_id (a := (s : Int)) (by omega) (by omega), Int.toNat_natCast]
      refine ⟨⟨by omega, by omega⟩, ih (s + 1) _ _ (by omega) (by simp) (F1.setP rfl) (fun j hj => ?_)⟩
      by_cases ej : j = s
      · subst ej; rw [setH_self, hv]
      · rw [setH_k ej]; exact e1 j (by omega)
    rw [B_94_18a X', F.at 1 0 rfl, S.1.1, w32_id (a := (n : Int)) (by omega) (by omega), w32_id (a := (s : Int)) (by omega) (by omega), if_neg (by omega)]
    refine (bn_homeOf (b := 9) (c := 10) X'.bd (show s < 10 by omega)).mpr ?_
    simp only [pushR0]
    rw [B_94_42a X', (R'.2.1 s (by omega)).2]
    have hw : w32 (if G (8 + s) = 9 then -2 else G (8 + s)) = if G (8 + s) = 9 then -2 else G (8 + s) := w32_id (by split <;> omega) (by split <;> omega)
    rw [hw]
    by_cases h9 : G (8 + s) = 9
    · rw [if_pos h9, if_neg (by simp)]
      exact nx h' 0 F e (by unfold drA; rw [if_pos h9])
    · rw [if_neg h9, if_pos (by omega)]
      refine sp_dries JQa C' (by omega) (fun h1 F1 => ?_)
      simp only [pushR0]
      exact nx h1 _ (F.trans (F1.mono rfl)) (fun j hj => by rw [F1.row 51 rfl]; exact e j hj) (by unfold drA; rw [if_neg h9])
theorem lp_glue_a {j2 : V} (X : Fix sh h) (hn : h 1 0 = (n : Int)) (hn10 : n ≤ 10) (R : BR (h 10) G n m) (B : BW G n m) (hd : ∀ s, s < n → h 51 s = drA G L s) (hq : ∀ h', Fr [10] [] h h' → BR (h' 10) (glF G L n) n m → WF sc (d + 2) 94 116 [(2, 50), (0, 0), (0, 0)] [] sh sl h' Q) : ∀ (rem s : Nat) (h' : Sto) (S : Int), s + rem = n → S = s → Fr [10] [] h h' → (∀ i, (i < 1 ∨ 1 + s ≤ i) → h' 10 i = h 10 i) → (∀ j, j < s → h' 10 (1 + j) = max 0 (min (G (18 + j) - drA G L j) 9)) → WF sc (d + 2) 94 68 [(2, 50), (0, S), j2] [] sh sl h' Q := by
  intro rem
  induction rem with
  | zero =>
    intro s h' S hs hS F e1 e2
    subst hS
    have X' : Fix sh h' := F.fix X (by decide +kernel)
    have : s = n := by omega
    subst this
    rw [B_94_68a X', F.at 1 0 rfl, hn, w32_id (a := (s : Int)) (by omega) (by omega), if_pos (by omega)]
    exact hq h' F (gl_R R hn10 e1 e2)
  | succ rem ih =>
    intro s h' S hs hS F e1 e2
    subst hS
    have X' : Fix sh h' := F.fix X (by decide +kernel)
    have bs := (B.2.1 s (by omega)).1
    have db : 0 ≤ drA G L s ∧ drA G L s ≤ 9 := by unfold drA; have := driesA_bd (G := G) (L := L) (s := s); split <;> omega
    rw [B_94_68a X', F.at 1 0 rfl, hn, w32_id (a := (n : Int)) (by omega) (by omega), w32_id (a := (s : Int)) (by omega) (by omega), if_neg (by omega)]
    refine (bn_glueOf (b := 9) (c := 10) X'.bd (show s < 10 by omega)).mpr ?_
    simp only [pushR0]
    rw [B_94_92a X', w32_id (a := (s : Int)) (by omega) (by omega), Int.toNat_natCast, F.row 51 rfl, hd s (by omega), e1 (1 + s) (by omega), (R.2.1 s (by omega)).1, w32_id (a := G (18 + s) - drA G L s) (by omega) (by omega)]
    refine ⟨⟨by omega, by omega⟩, ?_⟩
    refine (bn_setGlue (b := 9) (c := 10) X'.bd (show s < 10 by omega)).mpr ?_
    simp only [pushR9]
    rw [B_94_106a (X'.a (by decide +kernel))]
    refine ih (s + 1) _ _ (by omega) (by simp) (F.setP rfl) (fun i hi => ?_) (fun j hj => ?_)
    · rw [setH_k (by omega)]; exact e1 i (by omega)
    · by_cases ej : j = s
      · subst ej; rw [setH_self]; split <;> omega
      · rw [setH_k (by omega)]; exact e2 j (by omega)
theorem lp_fall_a (X : Fix sh h) (hm : h 1 4 = (m : Int)) (hn10 : n ≤ 10) (hm3 : m ≤ 3) (R : BR (h 10) G n m) (B : BW G n m) (h5 : 0 ≤ G 5 ∧ G 5 < 999) (hq : ∀ h', Fr [10] [] h h' → BR (h' 10) (up (paF G m).2 5 (G 5 + 1)) n m → Q (0, (paF G m).1) sh sl h') : ∀ (rem l : Nat) (h' : Sto) (A I : Int), l + rem = m → I = l → A = (paF G l).1 → Fr [10] [] h h' → BR (h' 10) (paF G l).2 n m → WF sc (d + 3) 94 116 [(2, 50), (0, A), (0, I)] [] sh sl h' Q := by
  intro rem
  induction rem with
  | zero =>
    intro l h' A I hl hI hA F R'
    subst hI hA
    have X' : Fix sh h' := F.fix X (by decide +kernel)
    have : l = m := by omega
    subst this
    have pb := pa_B B hn10 hm3 l (by omega)
    rw [B_94_116a X', F.at 1 4 rfl, hm, w32_id (a := (l : Int)) (by omega) (by omega), if_pos (by omega)]
    refine (bn_today (b := 9) (c := 10) X'.bd).mpr ?_
    simp only [pushR0]
    rw [B_94_152a X', R'.1, pb.2.1 5 (by omega)]
    refine (bn_setDay (b := 9) (c := 10) X'.bd).mpr ?_
    simp only [pushR9]
    rw [B_94_157a (X'.a (by decide +kernel))]
    refine hq _ (F.setP rfl) ?_
    rw [setH_r]
    exact (day_BR R' pb.1 hn10 (by omega)).1
  | succ rem ih =>
    intro l h' A I hl hI hA F R'
    subst hI hA
    have X' : Fix sh h' := F.fix X (by decide +kernel)
    have pb := pa_B B hn10 hm3 l (by omega)
    rw [B_94_116a X', F.at 1 4 rfl, hm, w32_id (a := (m : Int)) (by omega) (by omega), w32_id (a := (l : Int)) (by omega) (by omega), if_neg (by omega)]
    refine sp_drop_a X' R' pb.1 hn10 hm3 (by omega) (fun h1 F1 R1 => ?_)
    simp only [pushR0]
    rw [B_94_133a (F1.fix X' (by decide +kernel))]
    exact ih (l + 1) h1 _ _ (by omega) (by simp) rfl (F.trans F1) R1
theorem sp_passDay_a (C : CJ sh h G n m L 10) (hq : ∀ h', Fr [10, 51, 48, 49, 81, 82] [] h h' → BR (h' 10) (passA G L n m).2 n m → Q (0, (passA G L n m).1) sh sl h') : WM sc (d + 5) 94 [(2, 50)] sh sl h Q := by
  have hC := C
  obtain ⟨X, S, R, W, B⟩ := C
  have hn10 := W.1.2.1
  have hm3 := W.1.2.2.2.1
  have b5 := B.1
  rw [B_94_0a X]
  refine (bn_today (b := 9) (c := 10) X.bd).mpr ?_
  simp only [pushR0]
  rw [B_94_7a X, R.1, w32_id (a := G 5) (by omega) (by omega)]
  unfold passA at hq
  by_cases h9 : G 5 = 999
  · rw [if_neg (by omega)]
    have := hq h (Fr.refl h)
    rw [if_pos h9] at this
    exact this R
  · rw [if_neg h9] at hq
    rw [if_pos (by omega)]
    refine lp_dry_a hC (fun h1 F1 e1 => ?_) n 0 h _ (by omega) rfl (Fr.refl h) (fun j hj => by omega)
    have X1 : Fix sh h1 := F1.fix X (by decide +kernel)
    refine lp_glue_a (L := L) X1 (by rw [F1.at 1 0 rfl]; exact S.1.1) hn10 (by rw [F1.row 10 rfl]; exact R) B e1 (fun h2 F2 R2 => ?_) n 0 h1 _ (by omega) rfl (Fr.refl h1) (fun _ _ => rfl) (fun j hj => by omega)
    have X2 : Fix sh h2 := F2.fix X1 (by decide +kernel)
    have gb := gl_B (L := L) B hn10 hm3
    have g5 : glF G L n 5 = G 5 := glF_o n 5 (by omega)
    refine lp_fall_a X2 (by rw [F2.at 1 4 rfl, F1.at 1 4 rfl]; exact S.1.2.1) hn10 hm3 R2 gb (by rw [g5]; omega) (fun h3 F3 R3 => ?_) m 0 h2 _ _ (by omega) rfl rfl (Fr.refl h2) R2
    rw [g5] at R3
    exact hq h3 (((F1.mono rfl).trans (F2.mono rfl)).trans (F3.mono rfl)) R3
theorem lp_drop_b {l : Nat} (X : Fix sh h) (R : BR (h 78) G n m) (B : BW G n m) (hn10 : n ≤ 10) (hm3 : m ≤ 3) (hl : l < m) (hq : ∀ h', Fr [78] [] h h' → BR (h' 78) (flG G l) n m → Q (0, flN G l) sh sl h') : ∀ (rem i : Nat) (h' : Sto) (I K : Int) (j5 : V), i + rem = (G (31 + l)).toNat → I = i → K = ((flS G l i).1 : Int) → Fr [78] [] h h' → h' 78 = flC (h 78) G l i → WF sc (d + 2) 95 14 [(2, 79), (0, (l : Int)), (0, G (31 + l)), (0, K), (0, I), j5] [] sh sl h' Q := by
  have bl := B.2.2.1 l hl
  intro rem
  induction rem with
  | zero =>
    intro i h' I K j5 hi hI hK F e
    subst hI hK
    have X' : Fix sh h' := F.fix X (by decide +kernel)
    have ei : i = (G (31 + l)).toNat := by omega
    subst ei
    have X2 : Fix sh (setH h' 78 (21 + l) ((flS G l (G (31 + l)).toNat).1 : Int)) := X'.a (by decide +kernel)
    rw [B_95_14b X', w32_id (a := G (31 + l)) (by omega) (by omega), w32_id (a := (((G (31 + l)).toNat : Nat) : Int)) (by omega) (by omega), if_pos (by omega)]
    refine (bn_setSize (b := 77) (c := 78) X'.bdR (show l < 3 by omega)).mpr ?_
    simp only [pushR9]
    rw [B_95_86b X2]
    refine hq _ (F.setP rfl) ?_
    rw [setH_r, e]
    exact (fl_BR R B hn10 hm3 hl).1
  | succ rem ih =>
    intro i h' I K j5 hi hI hK F e
    subst hI hK
    have X' : Fix sh h' := F.fix X (by decide +kernel)
    obtain ⟨a1, a2, a3, a4, a5, a6, a7, a8, a9⟩ := flI R B hn10 hm3 hl i (by omega)
    have sp := B.sp (i := i) hl (by omega)
    have bs := (B.2.1 _ sp.2.1).1
    rw [B_95_14b X', w32_id (a := G (31 + l)) (by omega) (by omega), w32_id (a := (i : Int)) (by omega) (by omega), if_neg (by omega)]
    refine (bn_stampAt (b := 77) (c := 78) X'.bdR (show l < 3 by omega) (show i < 5 by omega)).mpr ?_
    simp only [pushR0]
    rw [B_95_30b X', e, (a4 i (by omega) (by omega)).2, R.2.2.2 l i hl (by omega), sp.1]
    refine (bn_glueOf (b := 77) (c := 78) X'.bdR (show spA G l i < 10 by omega)).mpr ?_
    simp only [pushR0]
    rw [B_95_41b X', e, a8 _ (by omega), (R.2.1 _ sp.2.1).1, w32_id (a := G (18 + spA G l i)) (by omega) (by omega)]
    by_cases hg : 0 < G (18 + spA G l i)
    · rw [if_pos (by omega)]
      refine (bn_setStampAt (b := 77) (c := 78) X'.bdR (show l < 3 by omega) (show (flS G l i).1 < 5 by omega)).mpr ?_
      simp only [pushR9]
      rw [B_95_68b (X'.a (by decide +kernel))]
      refine ih (i + 1) _ _ _ _ (by omega) (by simp) ?_ (F.setP rfl) ?_
      · simp only [flS, if_pos hg]; simp
      · rw [setH_r, e]; simp only [flC, if_pos hg]
    · rw [if_neg (by omega)]
      refine (bn_setHome (b := 77) (c := 78) X'.bdR (show spA G l i < 10 by omega)).mpr ?_
      simp only [pushR9]
      rw [B_95_54b (X'.a (by decide +kernel))]
      refine ih (i + 1) _ _ _ _ (by omega) (by simp) ?_ (F.setP rfl) ?_
      · simp only [flS, if_neg hg]
      · rw [setH_r, e]; simp only [flC, if_neg hg]
theorem sp_drop_b {l : Nat} (X : Fix sh h) (R : BR (h 78) G n m) (B : BW G n m) (hn10 : n ≤ 10) (hm3 : m ≤ 3) (hl : l < m) (hq : ∀ h', Fr [78] [] h h' → BR (h' 78) (flG G l) n m → Q (0, flN G l) sh sl h') : WM sc (d + 2) 95 [(2, 79), (0, (l : Int))] sh sl h Q := by
  rw [B_95_0b X]
  refine (bn_sizeOf (b := 77) (c := 78) X.bdR (show l < 3 by omega)).mpr ?_
  simp only [pushR0]
  rw [B_95_8b X, (R.2.2.1 l hl).1]
  exact lp_drop_b X R B hn10 hm3 hl hq (G (31 + l)).toNat 0 h _ _ _ (by omega) rfl rfl (Fr.refl h) rfl
theorem lp_dry_b {j2 : V} (C : CJ sh h G n m L 78) (hq : ∀ h', Fr [83, 48, 49, 81, 82] [] h h' → (∀ s, s < n → h' 83 s = drA G L s) → WF sc (d + 4) 94 68 [(2, 79), (0, 0), j2] [] sh sl h' Q) : ∀ (rem s : Nat) (h' : Sto) (S : Int), s + rem = n → S = s → Fr [83, 48, 49, 81, 82] [] h h' → (∀ j, j < s → h' 83 j = drA G L j) → WF sc (d + 4) 94 18 [(2, 79), (0, S), j2] [] sh sl h' Q := by
  have hC := C
  obtain ⟨X, S, R, W, B⟩ := C
  have hn10 := W.1.2.1
  have hm3 := W.1.2.2.2.1
  intro rem
  induction rem with
  | zero =>
    intro s h' S' hs hS F e
    subst hS
    have X' : Fix sh h' := F.fix X (by decide +kernel)
    have : s = n := by omega
    subst this
    rw [B_94_18b X', F.at 1 0 rfl, S.1.1, w32_id (a := (s : Int)) (by omega) (by omega), if_pos (by omega)]
    exact hq h' F e
  | succ rem ih =>
    intro s h' S' hs hS F e
    subst hS
    have X' : Fix sh h' := F.fix X (by decide +kernel)
    have C' : CJ sh h' G n m L 78 := hC.of F (by decide +kernel) (by decide +kernel) (F.row 78 rfl)
    have R' := C'.2.2.1
    have bs := B.2.1 s (by omega)
    have nx : ∀ h1 (v : Int), Fr [83, 48, 49, 81, 82] [] h h1 → (∀ j, j < s → h1 83 j = drA G L j) → v = drA G L s → WF sc (d + 4) 94 59 [(2, 79), (0, (s : Int)), j2] [(0, v), (0, (s : Int)), (2, 83)] sh sl h1 Q := by
      intro h1 v F1 e1 hv
      have X1 : Fix sh h1 := F1.fix X (by decide +kernel)
      rw [B_94_59b X1, w32_id (a := (s : Int)) (by omega) (by omega), Int.toNat_natCast]
      refine ⟨⟨by omega, by omega⟩, ih (s + 1) _ _ (by omega) (by simp) (F1.setP rfl) (fun j hj => ?_)⟩
      by_cases ej : j = s
      · subst ej; rw [setH_self, hv]
      · rw [setH_k ej]; exact e1 j (by omega)
    rw [B_94_18b X', F.at 1 0 rfl, S.1.1, w32_id (a := (n : Int)) (by omega) (by omega), w32_id (a := (s : Int)) (by omega) (by omega), if_neg (by omega)]
    refine (bn_homeOf (b := 77) (c := 78) X'.bdR (show s < 10 by omega)).mpr ?_
    simp only [pushR0]
    rw [B_94_42b X', (R'.2.1 s (by omega)).2]
    have hw : w32 (if G (8 + s) = 9 then -2 else G (8 + s)) = if G (8 + s) = 9 then -2 else G (8 + s) := w32_id (by split <;> omega) (by split <;> omega)
    rw [hw]
    by_cases h9 : G (8 + s) = 9
    · rw [if_pos h9, if_neg (by simp)]
      exact nx h' 0 F e (by unfold drA; rw [if_pos h9])
    · rw [if_neg h9, if_pos (by omega)]
      refine sp_dries JQb C' (by omega) (fun h1 F1 => ?_)
      simp only [pushR0]
      exact nx h1 _ (F.trans (F1.mono rfl)) (fun j hj => by rw [F1.row 83 rfl]; exact e j hj) (by unfold drA; rw [if_neg h9])
theorem lp_glue_b {j2 : V} (X : Fix sh h) (hn : h 1 0 = (n : Int)) (hn10 : n ≤ 10) (R : BR (h 78) G n m) (B : BW G n m) (hd : ∀ s, s < n → h 83 s = drA G L s) (hq : ∀ h', Fr [78] [] h h' → BR (h' 78) (glF G L n) n m → WF sc (d + 2) 94 116 [(2, 79), (0, 0), (0, 0)] [] sh sl h' Q) : ∀ (rem s : Nat) (h' : Sto) (S : Int), s + rem = n → S = s → Fr [78] [] h h' → (∀ i, (i < 1 ∨ 1 + s ≤ i) → h' 78 i = h 78 i) → (∀ j, j < s → h' 78 (1 + j) = max 0 (min (G (18 + j) - drA G L j) 9)) → WF sc (d + 2) 94 68 [(2, 79), (0, S), j2] [] sh sl h' Q := by
  intro rem
  induction rem with
  | zero =>
    intro s h' S hs hS F e1 e2
    subst hS
    have X' : Fix sh h' := F.fix X (by decide +kernel)
    have : s = n := by omega
    subst this
    rw [B_94_68b X', F.at 1 0 rfl, hn, w32_id (a := (s : Int)) (by omega) (by omega), if_pos (by omega)]
    exact hq h' F (gl_R R hn10 e1 e2)
  | succ rem ih =>
    intro s h' S hs hS F e1 e2
    subst hS
    have X' : Fix sh h' := F.fix X (by decide +kernel)
    have bs := (B.2.1 s (by omega)).1
    have db : 0 ≤ drA G L s ∧ drA G L s ≤ 9 := by unfold drA; have := driesA_bd (G := G) (L := L) (s := s); split <;> omega
    rw [B_94_68b X', F.at 1 0 rfl, hn, w32_id (a := (n : Int)) (by omega) (by omega), w32_id (a := (s : Int)) (by omega) (by omega), if_neg (by omega)]
    refine (bn_glueOf (b := 77) (c := 78) X'.bdR (show s < 10 by omega)).mpr ?_
    simp only [pushR0]
    rw [B_94_92b X', w32_id (a := (s : Int)) (by omega) (by omega), Int.toNat_natCast, F.row 83 rfl, hd s (by omega), e1 (1 + s) (by omega), (R.2.1 s (by omega)).1, w32_id (a := G (18 + s) - drA G L s) (by omega) (by omega)]
    refine ⟨⟨by omega, by omega⟩, ?_⟩
    refine (bn_setGlue (b := 77) (c := 78) X'.bdR (show s < 10 by omega)).mpr ?_
    simp only [pushR9]
    rw [B_94_106b (X'.a (by decide +kernel))]
    refine ih (s + 1) _ _ (by omega) (by simp) (F.setP rfl) (fun i hi => ?_) (fun j hj => ?_)
    · rw [setH_k (by omega)]; exact e1 i (by omega)
    · by_cases ej : j = s
      · subst ej; rw [setH_self]; split <;> omega
      · rw [setH_k (by omega)]; exact e2 j (by omega)
theorem lp_fall_b (X : Fix sh h) (hm : h 1 4 = (m : Int)) (hn10 : n ≤ 10) (hm3 : m ≤ 3) (R : BR (h 78) G n m) (B : BW G n m) (h5 : 0 ≤ G 5 ∧ G 5 < 999) (hq : ∀ h', Fr [78] [] h h' → BR (h' 78) (up (paF G m).2 5 (G 5 + 1)) n m → Q (0, (paF G m).1) sh sl h') : ∀ (rem l : Nat) (h' : Sto) (A I : Int), l + rem = m → I = l → A = (paF G l).1 → Fr [78] [] h h' → BR (h' 78) (paF G l).2 n m → WF sc (d + 3) 94 116 [(2, 79), (0, A), (0, I)] [] sh sl h' Q := by
  intro rem
  induction rem with
  | zero =>
    intro l h' A I hl hI hA F R'
    subst hI hA
    have X' : Fix sh h' := F.fix X (by decide +kernel)
    have : l = m := by omega
    subst this
    have pb := pa_B B hn10 hm3 l (by omega)
    rw [B_94_116b X', F.at 1 4 rfl, hm, w32_id (a := (l : Int)) (by omega) (by omega), if_pos (by omega)]
    refine (bn_today (b := 77) (c := 78) X'.bdR).mpr ?_
    simp only [pushR0]
    rw [B_94_152b X', R'.1, pb.2.1 5 (by omega)]
    refine (bn_setDay (b := 77) (c := 78) X'.bdR).mpr ?_
    simp only [pushR9]
    rw [B_94_157b (X'.a (by decide +kernel))]
    refine hq _ (F.setP rfl) ?_
    rw [setH_r]
    exact (day_BR R' pb.1 hn10 (by omega)).1
  | succ rem ih =>
    intro l h' A I hl hI hA F R'
    subst hI hA
    have X' : Fix sh h' := F.fix X (by decide +kernel)
    have pb := pa_B B hn10 hm3 l (by omega)
    rw [B_94_116b X', F.at 1 4 rfl, hm, w32_id (a := (m : Int)) (by omega) (by omega), w32_id (a := (l : Int)) (by omega) (by omega), if_neg (by omega)]
    refine sp_drop_b X' R' pb.1 hn10 hm3 (by omega) (fun h1 F1 R1 => ?_)
    simp only [pushR0]
    rw [B_94_133b (F1.fix X' (by decide +kernel))]
    exact ih (l + 1) h1 _ _ (by omega) (by simp) rfl (F.trans F1) R1
theorem sp_passDay_b (C : CJ sh h G n m L 78) (hq : ∀ h', Fr [78, 83, 48, 49, 81, 82] [] h h' → BR (h' 78) (passA G L n m).2 n m → Q (0, (passA G L n m).1) sh sl h') : WM sc (d + 5) 94 [(2, 79)] sh sl h Q := by
  have hC := C
  obtain ⟨X, S, R, W, B⟩ := C
  have hn10 := W.1.2.1
  have hm3 := W.1.2.2.2.1
  have b5 := B.1
  rw [B_94_0b X]
  refine (bn_today (b := 77) (c := 78) X.bdR).mpr ?_
  simp only [pushR0]
  rw [B_94_7b X, R.1, w32_id (a := G 5) (by omega) (by omega)]
  unfold passA at hq
  by_cases h9 : G 5 = 999
  · rw [if_neg (by omega)]
    have := hq h (Fr.refl h)
    rw [if_pos h9] at this
    exact this R
  · rw [if_neg h9] at hq
    rw [if_pos (by omega)]
    refine lp_dry_b hC (fun h1 F1 e1 => ?_) n 0 h _ (by omega) rfl (Fr.refl h) (fun j hj => by omega)
    have X1 : Fix sh h1 := F1.fix X (by decide +kernel)
    refine lp_glue_b (L := L) X1 (by rw [F1.at 1 0 rfl]; exact S.1.1) hn10 (by rw [F1.row 78 rfl]; exact R) B e1 (fun h2 F2 R2 => ?_) n 0 h1 _ (by omega) rfl (Fr.refl h1) (fun _ _ => rfl) (fun j hj => by omega)
    have X2 : Fix sh h2 := F2.fix X1 (by decide +kernel)
    have gb := gl_B (L := L) B hn10 hm3
    have g5 : glF G L n 5 = G 5 := glF_o n 5 (by omega)
    refine lp_fall_b X2 (by rw [F2.at 1 4 rfl, F1.at 1 4 rfl]; exact S.1.2.1) hn10 hm3 R2 gb (by rw [g5]; omega) (fun h3 F3 R3 => ?_) m 0 h2 _ _ (by omega) rfl rfl (Fr.refl h2) R2
    rw [g5] at R3
    exact hq h3 (((F1.mono rfl).trans (F2.mono rfl)).trans (F3.mono rfl)) R3
end PASS
