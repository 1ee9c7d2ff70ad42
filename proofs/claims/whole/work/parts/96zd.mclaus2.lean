/-! ===== a clause of a LAW, read by the reference ===== -/
section MLC
variable {sc : Nat × (Nat → Int)} {d : Nat} {sh : Shp} {sl : Nat} {h : Sto} {Q : Pst} {T : Nat → Int} {n : Nat} {od : Bool} {i p lf ws c : Nat}
theorem MC.fix {h2 : Sto} (M : MC i c h h2) (X : Fix sh h) : Fix sh h2 := M.1.fix X (by decide +kernel)
theorem MEx.fr {h2 : Sto} (H : MEx T n od p lf c h) (F : Fr [95, 116] [(85, 21)] h h2) : MEx T n od p lf c h2 := by
  obtain ⟨a, P, R, b1, b2, b3, b4⟩ := H
  refine ⟨a, ⟨P.1, fun i hi => by rw [F.row 94 rfl]; exact P.2 i hi⟩, ?_, by rw [F.at 85 19 rfl]; exact b1, by rw [F.at 85 20 rfl]; exact b2, by rw [F.at 85 26 rfl]; exact b3, by rw [F.at 85 23 rfl]; exact b4⟩
  unfold RdM; rw [F.at 85 13 rfl, F.at 85 14 rfl, F.at 85 15 rfl, F.at 85 16 rfl, F.at 85 17 rfl]; exact R
theorem MC.s21 {v : Int} : MC i c h (setH h 85 21 v) := ⟨(Fr.refl h).set rfl, fun _ _ => by rw [setH_o (by decide), setH_o (by decide)]; exact ⟨rfl, rfl⟩, fun k => k.cg (setH_k (by decide)) (setH_o (by decide)) (setH_o (by decide)), fun _ _ => by rw [setH_o (by decide), setH_o (by decide)]; exact ⟨rfl, rfl⟩⟩
theorem lp_clr200 {x1 : Int} (hi : i < 12) (X : Fix sh h) (hq : ∀ h2, MC i c h h2 → Fr [95] [] h h2 → (∀ j, j < 8 → h2 95 (8 * i + j) = 0) → WF sc (d + 1) 200 75 [(2, 85), (0, x1), (0, ((8 * i : Nat) : Int)), (0, ((8 : Nat) : Int))] [] sh sl h2 Q) : ∀ (rem m : Nat) (h' : Sto) (x2 K : Int), m + rem = 8 → x2 = ((8 * i : Nat) : Int) → K = (m : Int) → MC i c h h' → Fr [95] [] h h' → (∀ j, j < m → h' 95 (8 * i + j) = 0) → WF sc (d + 1) 200 75 [(2, 85), (0, x1), (0, x2), (0, K)] [] sh sl h' Q := by
  intro rem
  induction rem with
  | zero =>
    intro m h' x2 K hm e1 e2 M' F' z'
    have : m = 8 := by omega
    subst this e1 e2
    exact hq h' M' F' z'
  | succ rem ih =>
    intro m h' x2 K hm e1 e2 M' F' z'
    subst e1 e2
    have X' := M'.fix X
    rw [B_200_75 X', w32_id (a := (m : Int)) (by omega) (by omega), if_neg (by omega), w32_nat (a := ((8 * i : Nat) : Int) + (m : Int)) (n := 8 * i + m) (by omega) (by omega), Int.toNat_natCast]
    refine ⟨⟨by omega, by omega⟩, ih (m + 1) _ _ _ (by omega) rfl (by omega) (M'.trans (MC.st (by omega) (by omega)) (Nat.le_refl c)) (F'.setP rfl) (fun j hj => ?_)⟩
    by_cases jm : j = m
    · subst jm; rw [setH_self]
    · rw [setH_k (by omega)]; exact z' j (by omega)
theorem lp_clr270 {x1 : Int} (hi : i < 12) (X : Fix sh h) (hq : ∀ h2, MC i c h h2 → Fr [116] [] h h2 → (∀ j, j < 8 → h2 116 (8 * i + j) = 0) → WF sc (d + 1) 270 85 [(2, 85), (0, x1), (0, ((8 * i : Nat) : Int)), (0, ((8 : Nat) : Int))] [] sh sl h2 Q) : ∀ (rem m : Nat) (h' : Sto) (x2 K : Int), m + rem = 8 → x2 = ((8 * i : Nat) : Int) → K = (m : Int) → MC i c h h' → Fr [116] [] h h' → (∀ j, j < m → h' 116 (8 * i + j) = 0) → WF sc (d + 1) 270 85 [(2, 85), (0, x1), (0, x2), (0, K)] [] sh sl h' Q := by
  intro rem
  induction rem with
  | zero =>
    intro m h' x2 K hm e1 e2 M' F' z'
    have : m = 8 := by omega
    subst this e1 e2
    exact hq h' M' F' z'
  | succ rem ih =>
    intro m h' x2 K hm e1 e2 M' F' z'
    subst e1 e2
    have X' := M'.fix X
    rw [B_270_85 X', w32_id (a := (m : Int)) (by omega) (by omega), if_neg (by omega), w32_nat (a := ((8 * i : Nat) : Int) + (m : Int)) (n := 8 * i + m) (by omega) (by omega), Int.toNat_natCast]
    refine ⟨⟨by omega, by omega⟩, ih (m + 1) _ _ _ (by omega) rfl (by omega) (M'.trans (MC.st (by omega) (by omega)) (Nat.le_refl c)) (F'.setP rfl) (fun j hj => ?_)⟩
    by_cases jm : j = m
    · subst jm; rw [setH_self]
    · rw [setH_k (by omega)]; exact z' j (by omega)
theorem mLawCl (X : Fix sh h) (H : MEx T n false p lf c h) (e21 : h 85 21 = (i : Int)) (hi : i ≤ 12) (q0 : ∀ h2 q, (i = 12 → q = stT T n p) → (i < 12 → clR T n false p lf = .inl q) → Fr MtP MtS h h2 → h2 85 19 = 1 → h2 85 18 = (q : Int) → Q (9, 0) sh sl h2) (q1 : ∀ h2 p5 lf5 cl c2, i < 12 → clR T n false p lf = .inr (p5, lf5, cl) → MC i c h h2 → MEx T n false p5 lf5 c2 h2 → c ≤ c2 → p + 1 ≤ p5 → h2 85 21 = ((i + 1 : Nat) : Int) → ClM false h2 c2 i cl → Q (9, 0) sh sl h2) : WM sc (d + 13) 200 [(2, 85)] sh sl h Q := by
  rw [B_200_0 X]
  refine lp_hd200 X H.1.1 H.2.1 H.2.2.1 ?_ 4 0 _ _ rfl rfl rfl
  rw [B_200_4 X, show w32 ((4 : Nat) : Int) = 4 from rfl, if_pos (by decide), e21, w32_id (a := (i : Int)) (by omega) (by omega)]
  have bad : ∀ (x1 : Int) (j3 : V), (i < 12 → clR T n false p lf = .inl (stT T n p)) → WM sc (d + 12) 202 [(2, 85), (0, 0)] sh sl h (fun r sh1 sl1 h1 => WF sc (d + 13) 200 57 [(2, 85), (0, x1), (0, ((4 : Nat) : Int)), j3] (pushR r []) sh1 sl1 h1 Q) := fun x1 j3 hb => by
    refine xMustF X H rfl (fun h2 F2 g1 g2 => ?_)
    simp only [pushR9]
    rw [B_200_57 (F2.fix X (by decide +kernel)), g1, show w32 1 = 1 from rfl, if_neg (by decide)]
    exact q0 h2 _ (fun _ => rfl) hb (F2.mono rfl) g1 g2
  rcases hdA_eq (T := T) (n := n) (p := p) (od := false) with ⟨e, ea⟩ | ⟨k, k4, e, ea⟩
  · rw [ea, show w32 (-1) = -1 from rfl, if_pos rfl]
    exact bad _ _ (fun _ => clR_0 e)
  rw [ea, w32_id (a := (k : Int)) (by omega) (by omega), if_neg (by omega)]
  refine ite_i (fun i12 => bad _ _ (fun q => by omega)) (fun i12 => ?_)
  have sn := hdR_b H.1.1 e
  have hp := H.1.1
  refine xMustT X H rfl (fun h2 F2 H2 => ?_)
  have X2 : Fix sh h2 := F2.fix X (by decide +kernel)
  have M2 : MC i c h h2 := (MX.nx F2).mc
  simp only [pushR9]
  rw [B_200_57 X2, H2.2.2.2.1, w32_0, if_pos rfl, F2.at 85 21 rfl, e21]
  refine lp_clr200 (c := c) (i := i) (by omega) X2 (fun h3 M3 F3 _ => ?_) 8 0 h2 _ _ rfl (by omega) rfl (MC.refl h2) (Fr.refl h2) (fun j hj => by omega)
  have X3 := M3.fix X2
  have H3 := H2.fr (F3.mono rfl)
  have b3 := H3.1
  have hn := H3.2.1.1
  rw [B_200_75 X3, show w32 ((8 : Nat) : Int) = 8 from rfl, if_pos (by decide), w32_id (a := ((8 * i : Nat) : Int)) (by omega) (by omega), w32_nat (a := ((8 * i : Nat) : Int) + 3) (n := 8 * i + 3) (by omega) (by omega), Int.toNat_natCast, Int.toNat_natCast, F3.at 85 21 rfl, F2.at 85 21 rfl, e21, H3.2.2.2.2.2.2, w32_id (a := (k : Int)) (by omega) (by omega)]
  obtain ⟨h4, hh4⟩ : ∃ h4, setH (setH (setH h3 95 (8 * i) (k : Int)) 85 21 ((i : Int) + 1)) 95 (8 * i + 3) (c : Int) = h4 := ⟨_, rfl⟩
  rw [hh4]
  have F4 : Fr [95, 116] [(85, 21)] h3 h4 := by rw [← hh4]; exact (((Fr.refl h3).setP rfl).set rfl).setP rfl
  have M4 : MC i c h h4 := by
    rw [← hh4]
    exact (((M2.trans M3 (Nat.le_refl c)).trans (MC.st (by omega) (by omega)) (Nat.le_refl c)).trans MC.s21 (Nat.le_refl c)).trans (MC.st (by omega) (by omega)) (Nat.le_refl c)
  have X4 := M4.fix X
  have H4 := H3.fr F4
  have a0 : h4 95 (8 * i) = (k : Int) := by rw [← hh4, setH_k (by omega), setH_o (by decide), setH_self]
  have a3 : h4 95 (8 * i + 3) = (c : Int) := by rw [← hh4, setH_self]
  have a21 : h4 85 21 = ((i + 1 : Nat) : Int) := by rw [← hh4, setH_o (by decide), setH_self]; omega
  -- from the SUM's end on
  have rest : ∀ (h5 : Sto) (p1 lf1 ws1 c1 : Nat) (s1 : Option Ev), smR T n false (decide (k ≠ 3)) (enT T n p) lf 0 = .inr (p1, lf1, ws1, s1) → MC i c h4 h5 → h5 95 = h4 95 → h5 85 21 = h4 85 21 → MEx T n false p1 lf1 c1 h5 → c ≤ c1 → enT T n p ≤ p1 → ws1 < 8388608 → SgR false h5 c1 (c : Int) (c1 : Int) s1 → WF sc (d + 13) 200 135 [(2, 85), (0, (k : Int)), (0, ((8 * i : Nat) : Int)), (0, ((8 : Nat) : Int))] [] sh sl h5 Q := fun h5 p1 lf1 ws1 c1 s1 es M5 r95 r21 H5 hc hp1 hws sg => by
    have X5 := M5.fix X4
    have e2 : onR T n (false && decide (k = 0)) p1 = .inr p1 := onR_f
    have e3 : smR T n false (false && decide (k = 0)) p1 lf1 ws1 = .inr (p1, lf1, ws1, none) := smR_f
    rw [B_200_135 X5, w32_nat (a := ((8 * i : Nat) : Int) + 4) (n := 8 * i + 4) (by omega) (by omega), w32_nat (a := ((8 * i : Nat) : Int) + 5) (n := 8 * i + 5) (by omega) (by omega), Int.toNat_natCast, Int.toNat_natCast, H5.2.2.2.1, w32_0, if_neg (by simp), H5.2.2.2.2.2.2]
    refine ⟨⟨by omega, by omega⟩, ⟨by omega, by omega⟩, ?_⟩
    obtain ⟨h6, hh6⟩ : ∃ h6, setH (setH h5 95 (8 * i + 4) (c1 : Int)) 95 (8 * i + 5) (c1 : Int) = h6 := ⟨_, rfl⟩
    rw [hh6]
    have F6 : Fr [95, 116] [(85, 21)] h5 h6 := by rw [← hh6]; exact ((Fr.refl h5).setP rfl).setP rfl
    have M6 : MC i c1 h5 h6 := by rw [← hh6]; exact (MC.st (by omega) (by omega)).trans (MC.st (by omega) (by omega)) (Nat.le_refl c1)
    have X6 := M6.fix X5
    have H6 := H5.fr F6
    have b6 := H6.1
    have c0 : h6 95 (8 * i) = (k : Int) := by rw [← hh6, setH_k (by omega), setH_k (by omega), r95]; exact a0
    have c3 : h6 95 (8 * i + 3) = (c : Int) := by rw [← hh6, setH_k (by omega), setH_k (by omega), r95]; exact a3
    have c4 : h6 95 (8 * i + 4) = (c1 : Int) := by rw [← hh6, setH_k (by omega), setH_self]
    have c5 : h6 95 (8 * i + 5) = (c1 : Int) := by rw [← hh6, setH_self]
    have M46 := (M4.trans M5 (Nat.le_refl c)).trans M6 hc
    -- the end
    have fin : ∀ (h8 : Sto) (p5 lf5 ws5 c2 : Nat) (ts : Option Ev), ifR T n false p1 lf1 ws1 = .inr (p5, lf5, ws5, ts) → MX c1 h6 h8 → MEx T n false p5 lf5 c2 h8 → c1 ≤ c2 → p1 ≤ p5 → SgR false h8 c2 (c1 : Int) (c2 : Int) ts → WF sc (d + 13) 200 185 [(2, 85), (0, (k : Int)), (0, ((8 * i : Nat) : Int)), (0, ((8 : Nat) : Int))] [] sh sl h8 Q := fun h8 p5 lf5 ws5 c2 ts e5 E8 H8 hc2 hp5 sg8 => by
      rw [B_200_185 (E8.fix X6), w32_nat (a := ((8 * i : Nat) : Int) + 6) (n := 8 * i + 6) (by omega) (by omega), Int.toNat_natCast, H8.2.2.2.2.2.2]
      refine ⟨⟨by omega, by omega⟩, ?_⟩
      have F9 : Fr [95, 116] [(85, 21)] h8 (setH h8 95 (8 * i + 6) (c2 : Int)) := (Fr.refl h8).setP rfl
      have M9 : MC i c1 h8 (setH h8 95 (8 * i + 6) (c2 : Int)) := MC.st (by omega) (by omega)
      have k9 : ∀ j, j ≠ 8 * i + 6 → setH h8 95 (8 * i + 6) (c2 : Int) 95 j = h6 95 j := fun j hj => by rw [setH_k hj, E8.1.row 95 rfl]
      refine q1 _ p5 lf5 (k, ts, s1, none, 1, ws5) c2 (by omega) (clR_6 e es e2 e3 tmR_f e5) ((M46.trans E8.mc hc).trans M9 hc) (H8.fr F9) (by omega) (by omega) ?_ ?_
      · rw [setH_o (by decide), E8.1.at 85 21 rfl, ← hh6, setH_o (by decide), setH_o (by decide), r21]; exact a21
      · unfold ClM
        rw [if_neg (by decide)]
        refine ⟨?_, ?_, ?_⟩
        · rw [k9 _ (by omega)]; exact c0
        · rw [k9 _ (by omega), c5, setH_self]
          exact sg8.mono (Nat.le_refl _) (fun j _ => by rw [setH_o (by decide), setH_o (by decide)]; exact ⟨rfl, rfl⟩)
        · rw [k9 _ (by omega), k9 _ (by omega), c3, c4]
          refine sg.mono hc2 (fun j hj => ?_)
          have e8 := E8.2.1 j hj
          have e6 := M6.2.1 j hj
          rw [setH_o (by decide), setH_o (by decide)]
          exact ⟨e8.1.trans e6.1, e8.2.trans e6.2⟩
    refine sp_isWord (w := [105, 102]) X6 H6.1.1 H6.2.1 H6.2.2.1 (by decide +kernel) (by decide) (by decide) (by decide) ?_
    simp only [pushR0]
    rw [B_200_173 X6]
    by_cases s : seeT T n p1 [105, 102] = true
    · rw [if_pos s, show w32 1 = 1 from rfl, if_neg (by decide)]
      have sn7 := see_ne H6.1.1 (by show 1 ≤ 2; omega) s
      refine xNext X6 H6 (fun h7 F7 H7 => ?_)
      have X7 : Fix sh h7 := F7.fix X6 (by decide +kernel)
      simp only [pushR9]
      rw [B_200_180 X7]
      refine sp_expr (ws := ws1) true X7 H7 hws (fun h8 q hR F8 g1 g2 => ?_) (fun h8 p5 lf5 ws5 ev c2 hR E8 H8 hc8 sg8 => ?_)
      · have hR' : anyK T n false 8 (enT T n p1) lf1 ws1 = .inl q := hR
        simp only [pushR9]
        rw [B_200_185 (F8.fix X7 (by decide +kernel)), w32_nat (a := ((8 * i : Nat) : Int) + 6) (n := 8 * i + 6) (by omega) (by omega), Int.toNat_natCast]
        refine ⟨⟨by omega, by omega⟩, q0 _ q (fun z => by omega) (fun _ => clR_5 e es e2 e3 tmR_f (by unfold ifR; rw [if_pos s, hR'])) ((((M46.1.mono rfl).trans (F7.mono rfl)).trans (F8.mono rfl)).setP rfl) (by rw [setH_o (by decide)]; exact g1) (by rw [setH_o (by decide)]; exact g2)⟩
      · have hR' : anyK T n false 8 (enT T n p1) lf1 ws1 = .inr (p5, lf5, ws5, ev) := hR
        have g := any_good 8 _ _ _ _ _ _ _ H7.1.1 H7.1.2.1 hws hR'
        have b8 := H8.1
        simp only [pushR9]
        exact fin h8 p5 lf5 ws5 c2 (some ev) (by unfold ifR; rw [if_pos s, hR']) ((MX.nx F7).trans E8 (Nat.le_refl _)) H8 (by omega) (by omega) ⟨c1, c2, lf5 - lf1, rfl, rfl, sg8, Nat.le_refl _, by omega⟩
    · rw [if_neg s, w32_0, if_pos rfl]
      exact fin h6 p1 lf1 ws1 c1 none (by unfold ifR; rw [if_neg s]) (MX.refl h6) H6 (Nat.le_refl _) (Nat.le_refl _) ⟨rfl, c1, rfl, Nat.le_refl _⟩
  refine ⟨⟨by omega, by omega⟩, ⟨by omega, by omega⟩, ite_i (fun k3 => ?_) (fun k3 => ?_)⟩
  · exact rest h4 (enT T n p) lf 0 c none (by rw [show decide (k ≠ 3) = false from decide_eq_false (by omega)]; exact smR_f) (MC.refl h4) rfl rfl H4 (Nat.le_refl c) (Nat.le_refl _) (by omega) ⟨rfl, c, rfl, Nat.le_refl c⟩
  · have d3 : decide (k ≠ 3) = true := decide_eq_true (by omega)
    refine sp_expr (ws := 0) false X4 H4 (by omega) (fun h5 q hR F5 g1 g2 => ?_) (fun h5 p1 lf1 ws1 ev c1 hR E5 H5 hc5 sg5 => ?_)
    · have hR' : sumK T n false 8 (enT T n p) lf 0 = .inl q := hR
      have X5 : Fix sh h5 := F5.fix X4 (by decide +kernel)
      simp only [pushR9]
      rw [B_200_135 X5, w32_nat (a := ((8 * i : Nat) : Int) + 4) (n := 8 * i + 4) (by omega) (by omega), w32_nat (a := ((8 * i : Nat) : Int) + 5) (n := 8 * i + 5) (by omega) (by omega), Int.toNat_natCast, Int.toNat_natCast, g1, show w32 1 = 1 from rfl, if_pos (by decide)]
      refine ⟨⟨by omega, by omega⟩, ⟨by omega, by omega⟩, ?_⟩
      have F6 : Fr MtP MtS h (setH (setH h5 95 (8 * i + 4) (h5 85 23)) 95 (8 * i + 5) (h5 85 23)) := (((M4.1.mono rfl).trans (F5.mono rfl)).setP rfl).setP rfl
      rw [B_200_185 (F6.fix X (by decide +kernel)), w32_nat (a := ((8 * i : Nat) : Int) + 6) (n := 8 * i + 6) (by omega) (by omega), Int.toNat_natCast]
      exact ⟨⟨by omega, by omega⟩, q0 _ q (fun z => by omega) (fun _ => clR_1 e (by rw [d3]; exact smR_t0 hR')) (F6.setP rfl) (by rw [setH_o (by decide), setH_o (by decide), setH_o (by decide)]; exact g1) (by rw [setH_o (by decide), setH_o (by decide), setH_o (by decide)]; exact g2)⟩
    · have hR' : sumK T n false 8 (enT T n p) lf 0 = .inr (p1, lf1, ws1, ev) := hR
      have g := sum_good 8 _ _ _ _ _ _ _ H4.1.1 H4.1.2.1 (by omega) hR'
      have b5 := H5.1
      simp only [pushR9]
      exact rest h5 p1 lf1 ws1 c1 (some ev) (by rw [d3]; exact smR_t1 hR') E5.mc (E5.1.row 95 rfl) (E5.1.at 85 21 rfl) H5 (by omega) (by omega) (by omega) ⟨c, c1, lf1 - lf, rfl, rfl, sg5, Nat.le_refl _, by omega⟩
end MLC
