/-! ===== kept boards ===== -/
/-- what remember leaves of the reference's pile: u2, s2 out of u, s -/
def RemU (u s u2 s2 : Nat → Int) (k : Nat) (G : Nat → Int) (deed : Int) : Prop := ((k < 16 ∧ (∀ i, i < 44 * k → u2 i = u i) ∧ (∀ i, i < 44 → u2 (44 * k + i) = G (5 + i)) ∧ (∀ j, j < k → s2 j = s j) ∧ s2 k = deed) ∨ (k = 16 ∧ (∀ i, i < 660 → u2 i = u (i + 44)) ∧ (∀ i, i < 44 → u2 (660 + i) = G (5 + i)) ∧ (∀ j, j < 15 → s2 j = s (j + 1)) ∧ s2 15 = deed)) ∧ ∀ i, 704 ≤ i → u2 i = u i
def kNext (k : Nat) : Nat := if k < 16 then k + 1 else 16
theorem BR.cgr {f f2 G G2 : Nat → Int} {n m : Nat} (H : BR f G n m) (W : BW G n m) (hn : n ≤ 10) (hm : m ≤ 3) (ef : ∀ i, i < 42 → f2 i = f i) (e : ∀ i, 5 ≤ i → i < 49 → G2 i = G i) : BR f2 G2 n m ∧ BW G2 n m := ⟨H.of W hn hm ef e, W.of hn hm e⟩
theorem HR.ahead {c c2 d u s : Nat → Int} {r t g6 g7 : Int} {n m a : Nat} (H : HR c d u s r t g6 g7 n m) (hn : n ≤ 10) (hm : m ≤ 3) (ha : r = a) (e : ∀ i, (i < 42 * a ∨ 42 * a + 42 ≤ i) → c2 i = c i) : HR c2 d u s r t g6 g7 n m := by
  obtain ⟨a', k, h1, h2, h3, h4, h5⟩ := H
  have : a' = a := by omega
  subst this
  refine ⟨a', k, h1, h2, h3, h4, fun j hj => ?_⟩
  obtain ⟨b1, b2, b3⟩ := h5 j hj
  refine ⟨b1.of b2 hn hm (fun i hi => ?_) (fun _ _ _ => rfl), b2, b3⟩
  exact e _ (by omega)
theorem HR.keep {c d d2 u s u2 s2 f G : Nat → Int} {r t deed : Int} {n m a k : Nat} (H : HR c d u s r t (G 6) (G 7) n m) (hn : n ≤ 10) (hm : m ≤ 3) (ha : r = a) (hk : t = k) (hc : ∀ i, i < 42 → c (42 * a + i) = f i) (R : BR f G n m) (B : BW G n m) (hd : 0 ≤ deed ∧ deed ≤ 3) (hd2 : d2 = up d a deed) (hu : RemU u s u2 s2 k G deed) : HR c d2 u2 s2 (if 17 ≤ a + 1 then 0 else ((a + 1 : Nat) : Int)) (kNext k : Nat) (G 6) (G 7) n m := by
  obtain ⟨a', k', h1, h2, h3, h4, h5⟩ := H
  have e1 : a' = a := by omega
  have e2 : k' = k := by omega
  subst e1 e2
  refine ⟨(a' + 1) % 17, kNext k', by split <;> omega, by omega, rfl, by unfold kNext; split <;> omega, fun j hj => ?_⟩
  have hnew : ∀ (j0 : Nat), (∀ i, i < 44 → u2 (44 * j0 + i) = G (5 + i)) → s2 j0 = deed → ((a' + 1) % 17 + 17 - (kNext k' - j0)) % 17 = a' → BR (fun i => c (42 * (((a' + 1) % 17 + 17 - (kNext k' - j0)) % 17) + i)) (fun i => u2 (44 * j0 + i - 5)) n m ∧ BW (fun i => u2 (44 * j0 + i - 5)) n m ∧ u2 (44 * j0 + 1) = G 6 ∧ u2 (44 * j0 + 2) = G 7 ∧ d2 (((a' + 1) % 17 + 17 - (kNext k' - j0)) % 17) = s2 j0 ∧ 0 ≤ s2 j0 ∧ s2 j0 ≤ 3 := by
    intro j0 z1 z2 z3
    rw [z3, z2, hd2, up_s]
    have eq : ∀ i, 5 ≤ i → i < 49 → u2 (44 * j0 + i - 5) = G i := fun i a b => by
      rw [show 44 * j0 + i - 5 = 44 * j0 + (i - 5) by omega, z1 _ (by omega)]; congr 1; omega
    exact ⟨R.of B hn hm (fun i hi => hc i hi) eq, B.of hn hm eq, z1 1 (by omega), z1 2 (by omega), rfl, hd⟩
  rcases hu.1 with ⟨hk, u1, u2', s1, s2'⟩ | ⟨hk, u1, u2', s1, s2'⟩
  · have ek : kNext k' = k' + 1 := by unfold kNext; rw [if_pos hk]
    by_cases ej : j = k'
    · subst ej
      exact hnew j u2' s2' (by rw [ek]; omega)
    · have hj2 : j < k' := by omega
      obtain ⟨b1, b2, b3, b4, b5, b6⟩ := h5 j hj2
      have es : ((a' + 1) % 17 + 17 - (kNext k' - j)) % 17 = (a' + 17 - (k' - j)) % 17 := by rw [ek]; omega
      have eq : ∀ i, 5 ≤ i → i < 49 → u2 (44 * j + i - 5) = u (44 * j + i - 5) := fun i a b => u1 _ (by omega)
      rw [es, s1 j hj2, u1 _ (by omega), u1 _ (by omega), hd2, up_n (by omega)]
      exact ⟨b1.of b2 hn hm (fun _ _ => rfl) eq, b2.of hn hm eq, b3, b4, b5, b6⟩
  · have ek : kNext k' = 16 := by unfold kNext; rw [if_neg (by omega)]
    by_cases ej : j = 15
    · subst ej
      exact hnew 15 u2' s2' (by rw [ek]; omega)
    · obtain ⟨b1, b2, b3, b4, b5, b6⟩ := h5 (j + 1) (by omega)
      have es : ((a' + 1) % 17 + 17 - (kNext k' - j)) % 17 = (a' + 17 - (k' - (j + 1))) % 17 := by rw [ek]; omega
      have eq : ∀ i, 5 ≤ i → i < 49 → u2 (44 * j + i - 5) = u (44 * (j + 1) + i - 5) := fun i a b => by
        rw [u1 _ (by omega)]; congr 1; omega
      rw [es, s1 j (by omega), u1 _ (by omega), u1 _ (by omega), hd2, up_n (by omega), show 44 * j + 1 + 44 = 44 * (j + 1) + 1 by omega, show 44 * j + 2 + 44 = 44 * (j + 1) + 2 by omega]
      exact ⟨b1.of b2 hn hm (fun _ _ => rfl) eq, b2.of hn hm eq, b3, b4, b5, b6⟩
section HIST
variable {sc : Nat × (Nat → Int)} {d : Nat} {sh : Shp} {sl : Nat} {h : Sto} {Q : Pst}
theorem lp_keepAll {k : Nat} (X : Fix sh h) (hk : k < 18) (hq : ∀ h', Fr [90] [] h h' → (∀ i, i < 44 → h' 90 (44 * k + i) = h 87 (5 + i)) → (∀ i, (i < 44 * k ∨ 44 * k + 44 ≤ i) → h' 90 i = h 90 i) → Q (9, 0) sh sl h') : ∀ (rem i : Nat) (h' : Sto) (I : Int), i + rem = 44 → I = i → Fr [90] [] h h' → (∀ j, j < i → h' 90 (44 * k + j) = h 87 (5 + j)) → (∀ j, (j < 44 * k ∨ 44 * k + 44 ≤ j) → h' 90 j = h 90 j) → WF sc (d + 1) 227 2 [(2, 85), (0, (k : Int)), (0, I)] [] sh sl h' Q := by
  intro rem
  induction rem with
  | zero =>
    intro i h' I hi hI F e1 e2
    subst hI
    have X' : Fix sh h' := F.fix X (by decide +kernel)
    rw [B_227_2 X', w32_id (a := (i : Int)) (by omega) (by omega), if_pos (by omega)]
    exact hq h' F (fun j hj => e1 j (by omega)) e2
  | succ rem ih =>
    intro i h' I hi hI F e1 e2
    subst hI
    have X' : Fix sh h' := F.fix X (by decide +kernel)
    rw [B_227_2 X', w32_id (a := (i : Int)) (by omega) (by omega), if_neg (by omega), w32_nat (a := 5 + (i : Int)) (n := 5 + i) (by omega) (by omega), w32_nat (a := 44 * (k : Int) + i) (n := 44 * k + i) (by omega) (by omega), Int.toNat_natCast, Int.toNat_natCast]
    refine ⟨⟨by omega, by omega⟩, ⟨by omega, by omega⟩, ?_⟩
    refine ih (i + 1) _ _ (by omega) (by simp) (F.setP rfl) (fun j hj => ?_) (fun j hj => ?_)
    · by_cases e : j = i
      · subst e; rw [setH_self, F.row 87 rfl]
      · rw [setH_k (by omega)]; exact e1 j (by omega)
    · rw [setH_k (by omega)]; exact e2 j hj
theorem sp_keepAll {k : Nat} {x : Int} (X : Fix sh h) (hx : x = k) (hk : k < 18) (hq : ∀ h', Fr [90] [] h h' → (∀ i, i < 44 → h' 90 (44 * k + i) = h 87 (5 + i)) → (∀ i, (i < 44 * k ∨ 44 * k + 44 ≤ i) → h' 90 i = h 90 i) → Q (9, 0) sh sl h') : WM sc (d + 1) 227 [(2, 85), (0, x)] sh sl h Q := by
  subst hx
  rw [B_227_0 X]
  exact lp_keepAll X hk hq 44 0 h _ (by omega) rfl (Fr.refl h) (fun j hj => by omega) (fun _ _ => rfl)
theorem lp_putBack {k : Nat} (X : Fix sh h) (hk : k < 18) (hq : ∀ h', Fr [87] [] h h' → (∀ i, i < 44 → h' 87 (5 + i) = h 90 (44 * k + i)) → (∀ i, (i < 5 ∨ 49 ≤ i) → h' 87 i = h 87 i) → Q (9, 0) sh sl h') : ∀ (rem i : Nat) (h' : Sto) (I : Int), i + rem = 44 → I = i → Fr [87] [] h h' → (∀ j, j < i → h' 87 (5 + j) = h 90 (44 * k + j)) → (∀ j, (j < 5 ∨ 49 ≤ j) → h' 87 j = h 87 j) → WF sc (d + 1) 160 2 [(2, 85), (0, (k : Int)), (0, I)] [] sh sl h' Q := by
  intro rem
  induction rem with
  | zero =>
    intro i h' I hi hI F e1 e2
    subst hI
    have X' : Fix sh h' := F.fix X (by decide +kernel)
    rw [B_160_2 X', w32_id (a := (i : Int)) (by omega) (by omega), if_pos (by omega)]
    exact hq h' F (fun j hj => e1 j (by omega)) e2
  | succ rem ih =>
    intro i h' I hi hI F e1 e2
    subst hI
    have X' : Fix sh h' := F.fix X (by decide +kernel)
    rw [B_160_2 X', w32_id (a := (i : Int)) (by omega) (by omega), if_neg (by omega), w32_nat (a := 5 + (i : Int)) (n := 5 + i) (by omega) (by omega), w32_nat (a := 44 * (k : Int) + i) (n := 44 * k + i) (by omega) (by omega), Int.toNat_natCast, Int.toNat_natCast]
    refine ⟨⟨by omega, by omega⟩, ⟨by omega, by omega⟩, ?_⟩
    refine ih (i + 1) _ _ (by omega) (by simp) (F.setP rfl) (fun j hj => ?_) (fun j hj => ?_)
    · by_cases e : j = i
      · subst e; rw [setH_self, F.row 90 rfl]
      · rw [setH_k (by omega)]; exact e1 j (by omega)
    · rw [setH_k (by omega)]; exact e2 j hj
theorem sp_putBack {k : Nat} {x : Int} (X : Fix sh h) (hx : x = k) (hk : k < 18) (hq : ∀ h', Fr [87] [] h h' → (∀ i, i < 44 → h' 87 (5 + i) = h 90 (44 * k + i)) → (∀ i, (i < 5 ∨ 49 ≤ i) → h' 87 i = h 87 i) → Q (9, 0) sh sl h') : WM sc (d + 1) 160 [(2, 85), (0, x)] sh sl h Q := by
  subst hx
  rw [B_160_0 X]
  exact lp_putBack X hk hq 44 0 h _ (by omega) rfl (Fr.refl h) (fun j hj => by omega) (fun _ _ => rfl)
theorem lp_rem1 {x1 : Int} (X : Fix sh h) (hq : ∀ h', Fr [90] [] h h' → (∀ i, i < 660 → h' 90 i = h 90 (i + 44)) → (∀ i, 660 ≤ i → h' 90 i = h 90 i) → WF sc (d + 2) 226 41 [(2, 85), (0, x1), (0, 0)] [] sh sl h' Q) : ∀ (rem i : Nat) (h' : Sto) (I : Int), i + rem = 660 → I = i → Fr [90] [] h h' → (∀ j, j < i → h' 90 j = h 90 (j + 44)) → (∀ j, i ≤ j → h' 90 j = h 90 j) → WF sc (d + 2) 226 11 [(2, 85), (0, x1), (0, I)] [] sh sl h' Q := by
  intro rem
  induction rem with
  | zero =>
    intro i h' I hi hI F e1 e2
    subst hI
    have X' : Fix sh h' := F.fix X (by decide +kernel)
    rw [B_226_11 X', w32_id (a := (i : Int)) (by omega) (by omega), if_pos (by omega)]
    exact hq h' F (fun j hj => e1 j (by omega)) (fun j hj => e2 j (by omega))
  | succ rem ih =>
    intro i h' I hi hI F e1 e2
    subst hI
    have X' : Fix sh h' := F.fix X (by decide +kernel)
    rw [B_226_11 X', w32_id (a := (i : Int)) (by omega) (by omega), if_neg (by omega), w32_nat (a := (i : Int) + 44) (n := i + 44) (by omega) (by omega), Int.toNat_natCast, Int.toNat_natCast]
    refine ⟨⟨by omega, by omega⟩, ⟨by omega, by omega⟩, ?_⟩
    refine ih (i + 1) _ _ (by omega) (by simp) (F.setP rfl) (fun j hj => ?_) (fun j hj => ?_)
    · by_cases e : j = i
      · subst e; rw [setH_self]; exact e2 _ (by omega)
      · rw [setH_k (by omega)]; exact e1 j (by omega)
    · rw [setH_k (by omega)]; exact e2 j (by omega)
theorem lp_rem2 {x1 : Int} (X : Fix sh h) (hq : ∀ h', Fr [91] [] h h' → (∀ i, i < 15 → h' 91 i = h 91 (i + 1)) → WM sc (d + 1) 227 [(2, 85), (0, h 85 8 - 1)] sh sl (setH h' 85 8 (h 85 8 - 1)) (fun r sh1 sl1 h1 => WF sc (d + 2) 226 85 [(2, 85), (0, x1), (0, 15)] (pushR r []) sh1 sl1 h1 Q)) : ∀ (rem i : Nat) (h' : Sto) (I : Int), i + rem = 15 → I = i → Fr [91] [] h h' → (∀ j, j < i → h' 91 j = h 91 (j + 1)) → (∀ j, i ≤ j → h' 91 j = h 91 j) → WF sc (d + 2) 226 41 [(2, 85), (0, x1), (0, I)] [] sh sl h' Q := by
  intro rem
  induction rem with
  | zero =>
    intro i h' I hi hI F e1 e2
    subst hI
    have : i = 15 := by omega
    subst this
    have X' : Fix sh h' := F.fix X (by decide +kernel)
    rw [B_226_41 X', w32_id (a := ((15 : Nat) : Int)) (by omega) (by omega), if_pos (by omega), F.at 85 8 rfl]
    exact hq h' F (fun j hj => e1 j (by omega))
  | succ rem ih =>
    intro i h' I hi hI F e1 e2
    subst hI
    have X' : Fix sh h' := F.fix X (by decide +kernel)
    rw [B_226_41 X', w32_id (a := (i : Int)) (by omega) (by omega), if_neg (by omega), w32_nat (a := (i : Int) + 1) (n := i + 1) (by omega) (by omega), Int.toNat_natCast, Int.toNat_natCast]
    refine ⟨⟨by omega, by omega⟩, ⟨by omega, by omega⟩, ?_⟩
    refine ih (i + 1) _ _ (by omega) (by simp) (F.setP rfl) (fun j hj => ?_) (fun j hj => ?_)
    · by_cases e : j = i
      · subst e; rw [setH_self]; exact e2 _ (by omega)
      · rw [setH_k (by omega)]; exact e1 j (by omega)
    · rw [setH_k (by omega)]; exact e2 j (by omega)
theorem sp_remember {k : Nat} {x : Int} (X : Fix sh h) (hk : h 85 8 = (k : Int)) (hk16 : k ≤ 16) (hq : ∀ h', Fr [90, 91] [(85, 8)] h h' → h' 85 8 = ((kNext k : Nat) : Int) → RemU (h 90) (h 91) (h' 90) (h' 91) k (h 87) x → Q (9, 0) sh sl h') : WM sc (d + 2) 226 [(2, 85), (0, x)] sh sl h Q := by
  rw [B_226_0 X, hk, w32_id (a := (k : Int)) (by omega) (by omega)]
  by_cases h16 : k = 16
  · rw [if_neg (by omega)]
    refine lp_rem1 X (fun h1 F1 a1 a2 => ?_) 660 0 h _ (by omega) rfl (Fr.refl h) (fun j hj => by omega) (fun _ _ => rfl)
    have X1 : Fix sh h1 := F1.fix X (by decide +kernel)
    refine lp_rem2 X1 (fun h2 F2 b1 => ?_) 15 0 h1 _ (by omega) rfl (Fr.refl h1) (fun j hj => by omega) (fun _ _ => rfl)
    have X2 : Fix sh h2 := F2.fix X1 (by decide +kernel)
    have e8 : h1 85 8 = 16 := by rw [F1.at 85 8 rfl, hk, h16]; rfl
    have X3 : Fix sh (setH h2 85 8 (h1 85 8 - 1)) := X2.s (by decide +kernel)
    refine sp_keepAll (k := 15) X3 (by rw [e8]; rfl) (by omega) (fun h4 F4 c1 c2 => ?_)
    have X4 : Fix sh h4 := F4.fix X3 (by decide +kernel)
    have e84 : h4 85 8 = 15 := by rw [F4.at 85 8 rfl, setH_self, e8]; rfl
    simp only [pushR9]
    rw [B_226_85 X4, e84, show w32 15 = 15 from rfl, toNatL]
    refine ⟨⟨by decide, by decide⟩, hq _ ?_ ?_ ⟨Or.inr ⟨h16, fun i hi => ?_, fun i hi => ?_, fun j hj => ?_, ?_⟩, fun i hi => ?_⟩⟩
    · exact (((((F1.mono rfl).trans (F2.mono rfl)).set rfl).trans (F4.mono rfl)).setP rfl).set rfl
    · rw [setH_self]; unfold kNext; rw [if_neg (by omega)]; rfl
    · rw [setH_o (by decide), setH_o (by decide), c2 i (by omega), setH_o (by decide), F2.row 90 rfl, a1 i hi]
    · rw [setH_o (by decide), setH_o (by decide), c1 i hi, setH_o (by decide), F2.row 87 rfl, F1.row 87 rfl]
    · rw [setH_o (by decide), setH_k (by omega), F4.row 91 rfl, setH_o (by decide), b1 j hj, F1.row 91 rfl]
    · rw [setH_o (by decide), setH_self]
    · rw [setH_o (by decide), setH_o (by decide), c2 i (by omega), setH_o (by decide), F2.row 90 rfl, a2 i (by omega)]
  · rw [if_pos (by omega)]
    refine sp_keepAll (k := k) X rfl (by omega) (fun h4 F4 c1 c2 => ?_)
    have X4 : Fix sh h4 := F4.fix X (by decide +kernel)
    have e84 : h4 85 8 = k := by rw [F4.at 85 8 rfl, hk]
    simp only [pushR9]
    rw [B_226_85 X4, e84, w32_id (a := (k : Int)) (by omega) (by omega), Int.toNat_natCast]
    refine ⟨⟨by omega, by omega⟩, hq _ ((F4.mono rfl).setP rfl |>.set rfl) ?_ ⟨Or.inl ⟨by omega, fun i hi => ?_, fun i hi => ?_, fun j hj => ?_, ?_⟩, fun i hi => ?_⟩⟩
    · rw [setH_self]; unfold kNext; rw [if_pos (by omega)]; simp
    · rw [setH_o (by decide), setH_o (by decide), c2 i (by omega)]
    · rw [setH_o (by decide), setH_o (by decide), c1 i hi]
    · rw [setH_o (by decide), setH_k (by omega), F4.row 91 rfl]
    · rw [setH_o (by decide), setH_self]
    · rw [setH_o (by decide), setH_o (by decide), c2 i (by omega)]
/-- the class's side: the board ahead of a deed, in its slot -/
theorem sp_ahead {a : Nat} (X : Fix sh h) (ha : h 44 2 = (a : Int)) (ha17 : a < 17) (hq : ∀ h', Fr [45] [] h h' → (∀ i, i < 42 → h' 45 (42 * a + i) = h 10 i) → (∀ i, (i < 42 * a ∨ 42 * a + 42 ≤ i) → h' 45 i = h 45 i) → Q (9, 0) sh sl h') : WM sc (d + 1) 89 [(2, 44), (2, 9)] sh sl h Q := by
  rw [B_89_0 X, ha, w32_nat (a := (a : Int) * 42) (n := 42 * a) (by omega) (by omega), Int.toNat_natCast]
  refine ⟨⟨⟨by decide, by omega, by decide⟩, by decide, by omega⟩, hq _ ((Fr.refl h).rowP rfl) (fun i hi => ?_) (fun i hi => ?_)⟩
  · rw [rowH_s, pk_cpy_in (by omega) (by omega)]; congr 1; omega
  · rw [rowH_s, pk_cpy_out (by omega)]
theorem sp_keep {a k : Nat} {x : Int} (X : Fix sh h) (ha : h 44 2 = (a : Int)) (ha17 : a < 17) (hk : h 44 3 = (k : Int)) (hk16 : k ≤ 16) (hq : ∀ h', Fr [46] [(44, 2), (44, 3)] h h' → h' 46 = up (h 46) a x → h' 44 2 = (if 17 ≤ a + 1 then 0 else ((a + 1 : Nat) : Int)) → h' 44 3 = ((kNext k : Nat) : Int) → Q (9, 0) sh sl h') : WM sc (d + 1) 96 [(2, 44), (0, x)] sh sl h Q := by
  have ek : (if 16 < w32 ((k : Int) + 1) then (16 : Int) else (k : Int) + 1) = ((kNext k : Nat) : Int) := by
    rw [w32_id (by omega) (by omega)]; unfold kNext; split <;> split <;> omega
  rw [B_96_0 X, ha, hk, w32_id (a := (a : Int)) (by omega) (by omega), w32_nat (a := (a : Int) + 1) (n := a + 1) (by omega) (by omega), Int.toNat_natCast, ek]
  refine ⟨⟨by omega, by omega⟩, ?_⟩
  by_cases h17 : 17 ≤ a + 1
  · rw [if_pos (by omega)]
    refine hq _ (((Fr.refl h).setP rfl).set rfl |>.set rfl) ?_ ?_ (setH_self _ _ _ _)
    · rw [setH_o (by decide), setH_o (by decide), setH_r]
    · rw [setH_k (by decide), setH_self, if_pos h17]
  · rw [if_neg (by omega)]
    refine hq _ (((Fr.refl h).setP rfl).set rfl |>.set rfl) ?_ ?_ (setH_self _ _ _ _)
    · rw [setH_o (by decide), setH_o (by decide), setH_r]
    · rw [setH_k (by decide), setH_self, if_neg h17]; simp
end HIST
