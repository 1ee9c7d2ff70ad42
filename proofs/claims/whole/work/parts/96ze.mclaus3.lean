/-! ===== an ORDER, read by the reference ===== -/
section MOC
variable {sc : Nat × (Nat → Int)} {d : Nat} {sh : Shp} {sl : Nat} {h : Sto} {Q : Pst} {T : Nat → Int} {n : Nat} {i p lf ws c : Nat}
theorem m271 {x : Nat} {K : Int} (hK : K = (x : Int)) (hx : 8 * i ≤ x ∧ x + 1 < 96) (X : Fix sh h) (H : MEx T n true p lf c h) (hws : ws < 8388608) (q0 : ∀ h2 q, sumK T n true 8 p lf ws = .inl q → Fr MtP MtS h h2 → h2 85 19 = 1 → h2 85 18 = (q : Int) → Q (9, 0) sh sl h2) (q1 : ∀ h2 p1 lf1 ws1 ev c1, sumK T n true 8 p lf ws = .inr (p1, lf1, ws1, ev) → MC i c h h2 → MEx T n true p1 lf1 c1 h2 → c < c1 → p ≤ p1 → ws1 < 8388608 → SgR true h2 c1 (h2 116 x) (h2 116 (x + 1)) (some ev) → (∀ j, j ≠ x → j ≠ x + 1 → h2 116 j = h 116 j) → h2 85 21 = h 85 21 → Q (9, 0) sh sl h2) : WM sc (d + 13) 271 [(2, 85), (0, K)] sh sl h Q := by
  subst hK
  have b := H.1
  rw [B_271_0 X, w32_id (a := (x : Int)) (by omega) (by omega), Int.toNat_natCast, H.2.2.2.1, w32_0, if_neg (by simp), H.2.2.2.2.2.2]
  refine ⟨⟨by omega, by omega⟩, ?_⟩
  have F2 : Fr [95, 116] [(85, 21)] h (setH h 116 x (c : Int)) := (Fr.refl h).setP rfl
  have M2 : MC i c h (setH h 116 x (c : Int)) := MC.st (by omega) (by omega)
  have X2 := M2.fix X
  have H2 := H.fr F2
  refine sp_expr (ws := ws) false X2 H2 hws (fun h3 q hR F3 g1 g2 => ?_) (fun h3 p1 lf1 ws1 ev c1 hR E3 H3 hc3 sg3 => ?_)
  · have hR' : sumK T n true 8 p lf ws = .inl q := hR
    simp only [pushR9]
    rw [B_271_22 (F3.fix X2 (by decide +kernel)), w32_nat (a := (x : Int) + 1) (n := x + 1) (by omega) (by omega), Int.toNat_natCast]
    exact ⟨⟨by omega, by omega⟩, q0 _ q hR' (((F2.mono rfl).trans (F3.mono rfl)).setP rfl) (by rw [setH_o (by decide)]; exact g1) (by rw [setH_o (by decide)]; exact g2)⟩
  · have hR' : sumK T n true 8 p lf ws = .inr (p1, lf1, ws1, ev) := hR
    have g := sum_good 8 _ _ _ _ _ _ _ H2.1.1 H2.1.2.1 hws hR'
    have b3 := H3.1
    simp only [pushR9]
    rw [B_271_22 (E3.fix X2), w32_nat (a := (x : Int) + 1) (n := x + 1) (by omega) (by omega), Int.toNat_natCast, H3.2.2.2.2.2.2]
    refine ⟨⟨by omega, by omega⟩, ?_⟩
    have F4 : Fr [95, 116] [(85, 21)] h3 (setH h3 116 (x + 1) (c1 : Int)) := (Fr.refl h3).setP rfl
    refine q1 _ p1 lf1 ws1 ev c1 hR' ((M2.trans E3.mc (Nat.le_refl c)).trans (MC.st (c := c1) (by omega) (by omega)) (by omega)) (H3.fr F4) (by omega) (by omega) (by omega) ?_ (fun j h1 h2 => ?_) ?_
    · refine ⟨c, c1, lf1 - lf, ?_, setH_self _ _ _ _, ?_, Nat.le_refl _, by omega⟩
      · rw [setH_k (by omega), E3.1.row 116 rfl, setH_self]
      · rw [setH_o (by decide), setH_o (by decide)]; exact sg3
    · rw [setH_k h2, E3.1.row 116 rfl, setH_k h1]
    · rw [setH_o (by decide), E3.1.at 85 21 rfl, setH_o (by decide)]
theorem mOrdCl (X : Fix sh h) (H : MEx T n true p lf c h) (e21 : h 85 21 = (i : Int)) (hi : i ≤ 12) (q0 : ∀ h2 q, (i = 12 → q = stT T n p) → (i < 12 → clR T n true p lf = .inl q) → Fr MtP MtS h h2 → h2 85 19 = 1 → h2 85 18 = (q : Int) → Q (9, 0) sh sl h2) (q1 : ∀ h2 p5 lf5 cl c2, i < 12 → clR T n true p lf = .inr (p5, lf5, cl) → MC i c h h2 → MEx T n true p5 lf5 c2 h2 → c ≤ c2 → p + 1 ≤ p5 → h2 85 21 = ((i + 1 : Nat) : Int) → ClM true h2 c2 i cl → Q (9, 0) sh sl h2) : WM sc (d + 14) 270 [(2, 85)] sh sl h Q := by
  rw [B_270_0 X]
  refine lp_hd270 X H.1.1 H.2.1 H.2.2.1 ?_ 4 0 _ _ rfl rfl rfl
  rw [B_270_4 X, show w32 ((4 : Nat) : Int) = 4 from rfl, if_pos (by decide), e21, w32_id (a := (i : Int)) (by omega) (by omega)]
  have bad : ∀ (x1 : Int) (j3 : V), (i < 12 → clR T n true p lf = .inl (stT T n p)) → WM sc (d + 13) 202 [(2, 85), (0, 0)] sh sl h (fun r sh1 sl1 h1 => WF sc (d + 14) 270 57 [(2, 85), (0, x1), (0, ((4 : Nat) : Int)), j3] (pushR r []) sh1 sl1 h1 Q) := fun x1 j3 hb => by
    refine xMustF X H rfl (fun h2 F2 g1 g2 => ?_)
    simp only [pushR9]
    rw [B_270_57 (F2.fix X (by decide +kernel)), g1, show w32 1 = 1 from rfl, if_neg (by decide)]
    exact q0 h2 _ (fun _ => rfl) hb (F2.mono rfl) g1 g2
  rcases hdA_eq (T := T) (n := n) (p := p) (od := true) with ⟨e, ea⟩ | ⟨k, k4, e, ea⟩
  · rw [ea, show w32 (-1) = -1 from rfl, if_pos rfl]
    exact bad _ _ (fun _ => clR_0 e)
  rw [ea, w32_id (a := (k : Int)) (by omega) (by omega), if_neg (by omega)]
  refine ite_i (fun i12 => bad _ _ (fun q => by omega)) (fun i12 => ?_)
  have sn := hdR_b H.1.1 e
  have hp := H.1.1
  refine xMustT X H rfl (fun h2 F2 H2 => ?_)
  have X2 : Fix sh h2 := F2.fix X (by decide +kernel)
  have M2 : MC i c h h2 := (MX.nx F2).mc
  simp only [pushR9]
  rw [B_270_57 X2, H2.2.2.2.1, w32_0, if_pos rfl, F2.at 85 21 rfl, e21]
  have M21 : MC i c h2 (setH h2 85 21 ((i : Int) + 1)) := MC.s21
  refine lp_clr270 (c := c) (i := i) (by omega) (M21.fix X2) (fun h3 M3 F3 z3 => ?_) 8 0 _ _ _ rfl (by omega) rfl (MC.refl _) (Fr.refl _) (fun j hj => by omega)
  have X3 := M3.fix (M21.fix X2)
  have F23 : Fr [95, 116] [(85, 21)] h2 h3 := ((Fr.refl h2).set (v := (i : Int) + 1) rfl).trans (F3.mono rfl)
  have H3 := H2.fr F23
  have b3 := H3.1
  have hn := H3.2.1.1
  have f21 : h3 85 21 = ((i + 1 : Nat) : Int) := by rw [F3.at 85 21 rfl, setH_self]; omega
  rw [B_270_85 X3, show w32 ((8 : Nat) : Int) = 8 from rfl, if_pos (by decide), w32_id (a := ((8 * i : Nat) : Int)) (by omega) (by omega), Int.toNat_natCast, w32_id (a := (k : Int)) (by omega) (by omega)]
  obtain ⟨h4, hh4⟩ : ∃ h4, setH h3 116 (8 * i) (k : Int) = h4 := ⟨_, rfl⟩
  rw [hh4]
  have F4 : Fr [95, 116] [(85, 21)] h3 h4 := by rw [← hh4]; exact (Fr.refl h3).setP rfl
  have M4 : MC i c h h4 := by
    rw [← hh4]
    exact ((M2.trans M21 (Nat.le_refl c)).trans M3 (Nat.le_refl c)).trans (MC.st (by omega) (by omega)) (Nat.le_refl c)
  have X4 := M4.fix X
  have H4 := H3.fr F4
  have a0 : h4 116 (8 * i) = (k : Int) := by rw [← hh4, setH_self]
  have az : ∀ j, 1 ≤ j → j < 8 → h4 116 (8 * i + j) = 0 := fun j h1 h2 => by rw [← hh4, setH_k (by omega)]; exact z3 j h2
  have a21 : h4 85 21 = ((i + 1 : Nat) : Int) := by rw [← hh4, setH_o (by decide)]; exact f21
  -- a fault: to the end
  have b240 : ∀ h5 q, clR T n true p lf = .inl q → Fr MtP MtS h h5 → h5 85 19 = 1 → h5 85 18 = (q : Int) → WF sc (d + 14) 270 240 [(2, 85), (0, (k : Int)), (0, ((8 * i : Nat) : Int)), (0, ((8 : Nat) : Int))] [] sh sl h5 Q := fun h5 q ec F5 g1 g2 => by
    rw [B_270_240 (F5.fix X (by decide +kernel)), w32_nat (a := ((8 * i : Nat) : Int) + 6) (n := 8 * i + 6) (by omega) (by omega), Int.toNat_natCast]
    exact ⟨⟨by omega, by omega⟩, q0 _ q (fun z => by omega) (fun _ => ec) (F5.setP rfl) (by rw [setH_o (by decide)]; exact g1) (by rw [setH_o (by decide)]; exact g2)⟩
  have b154 : ∀ h5 q, clR T n true p lf = .inl q → Fr MtP MtS h h5 → h5 85 19 = 1 → h5 85 18 = (q : Int) → WF sc (d + 14) 270 154 [(2, 85), (0, (k : Int)), (0, ((8 * i : Nat) : Int)), (0, ((8 : Nat) : Int))] [] sh sl h5 Q := fun h5 q ec F5 g1 g2 => by
    rw [B_270_154 (F5.fix X (by decide +kernel)), g1, show w32 1 = 1 from rfl, if_pos (by decide), if_pos (by decide), w32_nat (a := ((8 * i : Nat) : Int) + 7) (n := 8 * i + 7) (by omega) (by omega), w32_nat (a := ((8 * i : Nat) : Int) + 5) (n := 8 * i + 5) (by omega) (by omega), Int.toNat_natCast, Int.toNat_natCast]
    exact ⟨⟨by omega, by omega⟩, ⟨by omega, by omega⟩, b240 _ q ec ((F5.setP rfl).setP rfl) (by rw [setH_o (by decide), setH_o (by decide)]; exact g1) (by rw [setH_o (by decide), setH_o (by decide)]; exact g2)⟩
  have b147 : ∀ h5 q, clR T n true p lf = .inl q → Fr MtP MtS h h5 → h5 85 19 = 1 → h5 85 18 = (q : Int) → WF sc (d + 14) 270 147 [(2, 85), (0, (k : Int)), (0, ((8 * i : Nat) : Int)), (0, ((8 : Nat) : Int))] [] sh sl h5 Q := fun h5 q ec F5 g1 g2 => by
    have X5 : Fix sh h5 := F5.fix X (by decide +kernel)
    have F6 : Fr MtP MtS h (setH h5 116 (8 * i + 3) (h5 85 23)) := F5.setP rfl
    have X6 : Fix sh (setH h5 116 (8 * i + 3) (h5 85 23)) := F6.fix X (by decide +kernel)
    rw [B_270_147 X5, B_271_0 X5, w32_nat (a := ((8 * i : Nat) : Int) + 3) (n := 8 * i + 3) (by omega) (by omega), Int.toNat_natCast, g1, show w32 1 = 1 from rfl, if_pos (by decide), B_271_22 X6, w32_nat (a := ((8 * i : Nat) : Int) + 3 + 1) (n := 8 * i + 4) (by omega) (by omega), Int.toNat_natCast]
    refine ⟨⟨by omega, by omega⟩, ⟨by omega, by omega⟩, ?_⟩
    simp only [pushR9]
    exact b154 _ q ec (F6.setP rfl) (by rw [setH_o (by decide), setH_o (by decide)]; exact g1) (by rw [setH_o (by decide), setH_o (by decide)]; exact g2)
  -- from 'times' on
  have t154 : ∀ (h5 : Sto) (p3 lf3 ws3 c1 : Nat) (s1 s2 : Option Ev), (∀ q, tmR T n true p3 = .inl q → clR T n true p lf = .inl q) → (∀ p4 tm q, tmR T n true p3 = .inr (p4, tm) → ifR T n true p4 lf3 ws3 = .inl q → clR T n true p lf = .inl q) → (∀ p4 tm p5 lf5 ws5 ts, tmR T n true p3 = .inr (p4, tm) → ifR T n true p4 lf3 ws3 = .inr (p5, lf5, ws5, ts) → clR T n true p lf = .inr (p5, lf5, (k, ts, s1, s2, tm, ws5))) → MC i c h h5 → MEx T n true p3 lf3 c1 h5 → c ≤ c1 → p + 1 ≤ p3 → ws3 < 8388608 → h5 85 21 = ((i + 1 : Nat) : Int) → h5 116 (8 * i) = (k : Int) → SgR true h5 c1 (h5 116 (8 * i + 1)) (h5 116 (8 * i + 2)) s1 → SgR true h5 c1 (h5 116 (8 * i + 3)) (h5 116 (8 * i + 4)) s2 → WF sc (d + 14) 270 154 [(2, 85), (0, (k : Int)), (0, ((8 * i : Nat) : Int)), (0, ((8 : Nat) : Int))] [] sh sl h5 Q := fun h5 p3 lf3 ws3 c1 s1 s2 t0 t1 t2 M5 H5 hc hp3 hws r21 r0 sg1 sg2 => by
    have X5 := M5.fix X
    have b5 := H5.1
    -- from 'if' on
    have aft : ∀ (h6 : Sto) (p4 tm : Nat), tmR T n true p3 = .inr (p4, tm) → MC i c1 h5 h6 → MEx T n true p4 lf3 c1 h6 → p3 ≤ p4 → h6 85 21 = ((i + 1 : Nat) : Int) → (∀ j, j ≠ 8 * i + 7 → h6 116 j = h5 116 j) → h6 116 (8 * i + 7) = (tm : Int) → WM sc (d + 13) 201 [(2, 85), (1, 294)] sh sl (setH h6 116 (8 * i + 5) (c1 : Int)) (fun r sh1 sl1 h1 => WF sc (d + 14) 270 228 [(2, 85), (0, (k : Int)), (0, ((8 * i : Nat) : Int)), (0, ((8 : Nat) : Int))] (pushR r []) sh1 sl1 h1 Q) := fun h6 p4 tm ht M6 H6 hp4 s21 sm s7 => by
      have F7 : Fr [95, 116] [(85, 21)] h6 (setH h6 116 (8 * i + 5) (c1 : Int)) := (Fr.refl h6).setP rfl
      have M7 : MC i c1 h6 (setH h6 116 (8 * i + 5) (c1 : Int)) := MC.st (by omega) (by omega)
      have X7 := M7.fix (M6.fix X5)
      have H7 := H6.fr F7
      have M57 := M6.trans M7 (Nat.le_refl c1)
      have M07 := M5.trans M57 hc
      have fin : ∀ (h8 : Sto) (p5 lf5 ws5 c2 : Nat) (ts : Option Ev), ifR T n true p4 lf3 ws3 = .inr (p5, lf5, ws5, ts) → MX c1 (setH h6 116 (8 * i + 5) (c1 : Int)) h8 → MEx T n true p5 lf5 c2 h8 → c1 ≤ c2 → p4 ≤ p5 → SgR true h8 c2 (c1 : Int) (c2 : Int) ts → WF sc (d + 14) 270 240 [(2, 85), (0, (k : Int)), (0, ((8 * i : Nat) : Int)), (0, ((8 : Nat) : Int))] [] sh sl h8 Q := fun h8 p5 lf5 ws5 c2 ts e5 E8 H8 hc2 hp5 sg8 => by
        rw [B_270_240 (E8.fix X7), w32_nat (a := ((8 * i : Nat) : Int) + 6) (n := 8 * i + 6) (by omega) (by omega), Int.toNat_natCast, H8.2.2.2.2.2.2]
        refine ⟨⟨by omega, by omega⟩, ?_⟩
        have F9 : Fr [95, 116] [(85, 21)] h8 (setH h8 116 (8 * i + 6) (c2 : Int)) := (Fr.refl h8).setP rfl
        have M9 : MC i c1 h8 (setH h8 116 (8 * i + 6) (c2 : Int)) := MC.st (by omega) (by omega)
        have k9 : ∀ j, j ≠ 8 * i + 6 → j ≠ 8 * i + 5 → setH h8 116 (8 * i + 6) (c2 : Int) 116 j = h6 116 j := fun j hj h5j => by rw [setH_k hj, E8.1.row 116 rfl, setH_k h5j]
        have kc : ∀ j, j < c1 → (setH h8 116 (8 * i + 6) (c2 : Int)) 96 j = h5 96 j ∧ (setH h8 116 (8 * i + 6) (c2 : Int)) 97 j = h5 97 j := fun j hj => by
          have e8 := E8.2.1 j hj
          have e6 := M57.2.1 j hj
          rw [setH_o (by decide), setH_o (by decide)]
          exact ⟨e8.1.trans e6.1, e8.2.trans e6.2⟩
        refine q1 _ p5 lf5 (k, ts, s1, s2, tm, ws5) c2 (by omega) (t2 p4 tm p5 lf5 ws5 ts ht e5) ((M07.trans E8.mc hc).trans M9 hc) (H8.fr F9) (by omega) (by omega) ?_ ?_
        · rw [setH_o (by decide), E8.1.at 85 21 rfl, setH_o (by decide)]; exact s21
        · unfold ClM
          rw [if_pos rfl]
          refine ⟨?_, ?_, ?_, ?_, ?_⟩
          · rw [k9 _ (by omega) (by omega), sm _ (by omega)]; exact r0
          · have k5 : setH h8 116 (8 * i + 6) (c2 : Int) 116 (8 * i + 5) = (c1 : Int) := by rw [setH_k (by omega), E8.1.row 116 rfl, setH_self]
            rw [k5, setH_self]
            exact sg8.mono (Nat.le_refl _) (fun j _ => by rw [setH_o (by decide), setH_o (by decide)]; exact ⟨rfl, rfl⟩)
          · rw [k9 _ (by omega) (by omega), k9 _ (by omega) (by omega), sm _ (by omega), sm _ (by omega)]
            exact sg1.mono hc2 kc
          · rw [k9 _ (by omega) (by omega), k9 _ (by omega) (by omega), sm _ (by omega), sm _ (by omega)]
            exact sg2.mono hc2 kc
          · rw [k9 _ (by omega) (by omega)]; exact s7
      refine sp_isWord (w := [105, 102]) X7 H7.1.1 H7.2.1 H7.2.2.1 (by decide +kernel) (by decide) (by decide) (by decide) ?_
      simp only [pushR0]
      rw [B_270_228 X7]
      by_cases s : seeT T n p4 [105, 102] = true
      · rw [if_pos s, show w32 1 = 1 from rfl, if_neg (by decide)]
        have sn7 := see_ne H7.1.1 (by show 1 ≤ 2; omega) s
        refine xNext X7 H7 (fun h8 F8 H8 => ?_)
        have X8 : Fix sh h8 := F8.fix X7 (by decide +kernel)
        simp only [pushR9]
        rw [B_270_235 X8]
        refine sp_expr (ws := ws3) true X8 H8 hws (fun h9 q hR F9 g1 g2 => ?_) (fun h9 p5 lf5 ws5 ev c2 hR E9 H9 hc9 sg9 => ?_)
        · have hR' : anyK T n true 8 (enT T n p4) lf3 ws3 = .inl q := hR
          simp only [pushR9]
          exact b240 h9 q (t1 p4 tm q ht (by unfold ifR; rw [if_pos s, hR'])) (((M07.1.mono rfl).trans (F8.mono rfl)).trans (F9.mono rfl)) g1 g2
        · have hR' : anyK T n true 8 (enT T n p4) lf3 ws3 = .inr (p5, lf5, ws5, ev) := hR
          have g := any_good 8 _ _ _ _ _ _ _ H8.1.1 H8.1.2.1 hws hR'
          have b9 := H9.1
          simp only [pushR9]
          exact fin h9 p5 lf5 ws5 c2 (some ev) (by unfold ifR; rw [if_pos s, hR']) ((MX.nx F8).trans E9 (Nat.le_refl _)) H9 (by omega) (by omega) ⟨c1, c2, lf5 - lf3, rfl, rfl, sg9, Nat.le_refl _, by omega⟩
      · rw [if_neg s, w32_0, if_pos rfl]
        exact fin _ p4 lf3 ws3 c1 none (by unfold ifR; rw [if_neg s]) (MX.refl _) H7 (Nat.le_refl _) (Nat.le_refl _) ⟨rfl, c1, rfl, Nat.le_refl _⟩
    have F6 : Fr [95, 116] [(85, 21)] h5 (setH h5 116 (8 * i + 7) 1) := (Fr.refl h5).setP rfl
    have M6 : MC i c1 h5 (setH h5 116 (8 * i + 7) 1) := MC.st (by omega) (by omega)
    have X6 := M6.fix X5
    have H6 := H5.fr F6
    have s21 : setH h5 116 (8 * i + 7) 1 85 21 = ((i + 1 : Nat) : Int) := by rw [setH_o (by decide)]; exact r21
    rw [B_270_154 X5, H5.2.2.2.1, w32_0, if_neg (by simp), w32_nat (a := ((8 * i : Nat) : Int) + 7) (n := 8 * i + 7) (by omega) (by omega), Int.toNat_natCast]
    refine ⟨⟨by omega, by omega⟩, ?_⟩
    refine sp_isWord (w := [116, 105, 109, 101, 115]) X6 H6.1.1 H6.2.1 H6.2.2.1 (by decide +kernel) (by decide) (by decide) (by decide) ?_
    simp only [pushR0]
    rw [B_270_178 X6]
    by_cases s : seeT T n p3 [116, 105, 109, 101, 115] = true
    · rw [if_pos s, show w32 1 = 1 from rfl, if_neg (by decide)]
      have sn6 := see_ne H6.1.1 (by show 1 ≤ 5; omega) s
      refine xNext X6 H6 (fun h7 F7 H7 => ?_)
      have X7 : Fix sh h7 := F7.fix X6 (by decide +kernel)
      have hp7 := H7.1.1
      have R7 := H7.2.2.1
      have kb := kdT_b (T := T) (n := n) (p := enT T n p3)
      have wb := wtT_b (T := T) hp7 (fun i hi => (H7.2.1.2 i hi).1)
      simp only [pushR9]
      rw [B_270_185 X7]
      have no : ¬ (kdT T n (enT T n p3) = 2 ∧ 1 ≤ nmT T n (enT T n p3) ∧ nmT T n (enT T n p3) ≤ 20) → WM sc (d + 12) 202 [(2, 85), (0, 0)] sh sl h7 (fun r sh1 sl1 h1 => WF sc (d + 13) 213 36 [(2, 85), (1, 1), (9, 0), (1, 20), (9, 0), (0, h7 85 17)] (pushR r []) sh1 sl1 h1 (fun r sh1 sl1 h1 => WF sc (d + 14) 270 201 [(2, 85), (0, (k : Int)), (0, ((8 * i : Nat) : Int)), (0, ((8 : Nat) : Int))] (pushR r [(0, ((8 * i : Nat) : Int) + 7), (2, 116)]) sh1 sl1 h1 Q)) := fun nd => by
        refine xMustF X7 H7 rfl (fun h8 F8 g1 g2 => ?_)
        have X8 : Fix sh h8 := F8.fix X7 (by decide +kernel)
        simp only [pushR9]
        rw [B_213_36 X8]
        simp only [pushR0]
        rw [B_270_201 X8, g1, show w32 1 = 1 from rfl, if_pos (by decide), w32_nat (a := ((8 * i : Nat) : Int) + 7) (n := 8 * i + 7) (by omega) (by omega), w32_nat (a := ((8 * i : Nat) : Int) + 5) (n := 8 * i + 5) (by omega) (by omega), Int.toNat_natCast, Int.toNat_natCast]
        exact ⟨⟨by omega, by omega⟩, ⟨by omega, by omega⟩, b240 _ _ (t0 _ (by unfold tmR; rw [if_pos ⟨rfl, s⟩, if_neg nd])) ((((((M5.trans M6 hc).1.mono rfl).trans (F7.mono rfl)).trans (F8.mono rfl)).setP rfl).setP rfl) (by rw [setH_o (by decide), setH_o (by decide)]; exact g1) (by rw [setH_o (by decide), setH_o (by decide)]; exact g2)⟩
      rw [B_213_0 X7, R7.2.2.2.1, w32_id (a := ((kdT T n (enT T n p3) : Nat) : Int)) (by omega) (by omega)]
      refine ite_i (fun k3 => no (fun q => k3 (by omega))) (fun k3 => ?_)
      have k2n : kdT T n (enT T n p3) = 2 := by omega
      have ne := num_eq hp7 k2n
      have e17 : h7 85 17 = wtT T n (enT T n p3) := R7.2.2.2.2
      rw [sp_in ⟨by rw [e17]; omega, by rw [e17]; omega⟩ ⟨by decide, by decide⟩ ⟨by omega, by omega⟩]
      simp only [pushR0]
      rw [B_213_25 X7]
      by_cases inr : 1 ≤ h7 85 17 ∧ h7 85 17 ≤ 20
      · rw [if_pos inr, show w32 1 = 1 from rfl, if_neg (by decide)]
        rw [e17] at inr
        have kn := kd_ne (T := T) (n := n) hp7 (by omega)
        refine xMustT X7 H7 rfl (fun h8 F8 H8 => ?_)
        have X8 : Fix sh h8 := F8.fix X7 (by decide +kernel)
        simp only [pushR9]
        rw [B_213_36 X8]
        simp only [pushR0]
        rw [B_270_201 X8, H8.2.2.2.1, w32_0, if_neg (by simp), w32_nat (a := ((8 * i : Nat) : Int) + 7) (n := 8 * i + 7) (by omega) (by omega), w32_nat (a := ((8 * i : Nat) : Int) + 5) (n := 8 * i + 5) (by omega) (by omega), Int.toNat_natCast, Int.toNat_natCast, H8.2.2.2.2.2.2]
        refine ⟨⟨by omega, by omega⟩, ⟨by omega, by omega⟩, ?_⟩
        have F9 : Fr [95, 116] [(85, 21)] h8 (setH h8 116 (8 * i + 7) (h7 85 17)) := (Fr.refl h8).setP rfl
        refine aft _ (enT T n (enT T n p3)) (nmT T n (enT T n p3)).toNat (by unfold tmR; rw [if_pos ⟨rfl, s⟩, if_pos (by omega)]) (((M6.trans (MX.nx F7).mc (Nat.le_refl c1)).trans (MX.nx F8).mc (Nat.le_refl c1)).trans (MC.st (by omega) (by omega)) (Nat.le_refl c1)) (H8.fr F9) (by omega) ?_ (fun j hj => ?_) ?_
        · rw [setH_o (by decide), F8.at 85 21 rfl, F7.at 85 21 rfl]; exact s21
        · rw [setH_k hj, F8.row 116 rfl, F7.row 116 rfl, setH_k hj]
        · rw [setH_self, e17]; omega
      · rw [if_neg inr, w32_0, if_pos rfl]
        rw [e17] at inr
        exact no (fun q => inr (by omega))
    · rw [if_neg s, w32_0, if_pos rfl, w32_nat (a := ((8 * i : Nat) : Int) + 5) (n := 8 * i + 5) (by omega) (by omega), Int.toNat_natCast, H6.2.2.2.1, w32_0, if_neg (by simp), H6.2.2.2.2.2.2]
      refine ⟨⟨by omega, by omega⟩, ?_⟩
      exact aft _ p3 1 (by unfold tmR; rw [if_neg (fun q => s q.2)]) M6 H6 (Nat.le_refl _) s21 (fun j hj => setH_k hj) (by rw [setH_self]; rfl)
  refine ⟨⟨by omega, by omega⟩, ite_i (fun k3 => ?_) (fun k3 => ?_)⟩
  · have d3 : decide (k ≠ 3) = false := decide_eq_false (by omega)
    have d0 : (true && decide (k = 0)) = false := by rw [Bool.true_and]; exact decide_eq_false (by omega)
    have e1 : smR T n true (decide (k ≠ 3)) (enT T n p) lf 0 = .inr (enT T n p, lf, 0, none) := by rw [d3]; exact smR_f
    have e2 : onR T n (true && decide (k = 0)) (enT T n p) = .inr (enT T n p) := by rw [d0]; exact onR_f
    have e3 : smR T n true (true && decide (k = 0)) (enT T n p) lf 0 = .inr (enT T n p, lf, 0, none) := by rw [d0]; exact smR_f
    rw [B_270_125 X4, w32_id (a := (k : Int)) (by omega) (by omega), if_pos (by omega)]
    exact t154 h4 (enT T n p) lf 0 c none none (fun q ht => clR_4 e e1 e2 e3 ht) (fun p4 tm q ht e5 => clR_5 e e1 e2 e3 ht e5) (fun p4 tm p5 lf5 ws5 ts ht e5 => clR_6 e e1 e2 e3 ht e5) M4 H4 (Nat.le_refl c) (by omega) (by omega) a21 a0 ⟨by rw [az 1 (by omega) (by omega), az 2 (by omega) (by omega)], 0, az 2 (by omega) (by omega), by omega⟩ ⟨by rw [az 3 (by omega) (by omega), az 4 (by omega) (by omega)], 0, az 4 (by omega) (by omega), by omega⟩
  · have d3 : decide (k ≠ 3) = true := decide_eq_true (by omega)
    refine m271 (i := i) (x := 8 * i + 1) (ws := 0) (by omega) (by omega) X4 H4 (by omega) (fun h5 q hR F5 g1 g2 => ?_) (fun h5 p1 lf1 ws1 ev c1 hR M5 H5 hc5 hp5 hw5 sg5 sm5 r21 => ?_)
    · have ec := clR_1 e (by rw [d3]; exact smR_t0 hR)
      have F6 := (M4.1.mono (S' := MtS) rfl).trans F5
      have X5 : Fix sh h5 := F6.fix X (by decide +kernel)
      simp only [pushR9]
      rw [B_270_125 X5, w32_id (a := (k : Int)) (by omega) (by omega), g1, show w32 1 = 1 from rfl]
      refine ite_i (fun k0 => b154 h5 q ec F6 g1 g2) (fun k0 => ?_)
      rw [if_pos (by decide)]
      exact b147 h5 q ec F6 g1 g2
    · have e1 : smR T n true (decide (k ≠ 3)) (enT T n p) lf 0 = .inr (p1, lf1, ws1, some ev) := by rw [d3]; exact smR_t1 hR
      have M45 := M4.trans M5 (Nat.le_refl c)
      have X5 := M5.fix X4
      have f0 : h5 116 (8 * i) = (k : Int) := by rw [sm5 _ (by omega) (by omega)]; exact a0
      have f3 : h5 116 (8 * i + 3) = 0 := by rw [sm5 _ (by omega) (by omega)]; exact az 3 (by omega) (by omega)
      have f4 : h5 116 (8 * i + 4) = 0 := by rw [sm5 _ (by omega) (by omega)]; exact az 4 (by omega) (by omega)
      simp only [pushR9]
      rw [B_270_125 X5, w32_id (a := (k : Int)) (by omega) (by omega), H5.2.2.2.1, w32_0]
      refine ite_i (fun k0 => ?_) (fun k0 => ?_)
      · have d0 : (true && decide (k = 0)) = false := by rw [Bool.true_and]; exact decide_eq_false (by omega)
        have e2 : onR T n (true && decide (k = 0)) p1 = .inr p1 := by rw [d0]; exact onR_f
        have e3 : smR T n true (true && decide (k = 0)) p1 lf1 ws1 = .inr (p1, lf1, ws1, none) := by rw [d0]; exact smR_f
        exact t154 h5 p1 lf1 ws1 c1 (some ev) none (fun q ht => clR_4 e e1 e2 e3 ht) (fun p4 tm q ht e5 => clR_5 e e1 e2 e3 ht e5) (fun p4 tm p5 lf5 ws5 ts ht e5 => clR_6 e e1 e2 e3 ht e5) M45 H5 (by omega) (by omega) hw5 (by rw [r21]; exact a21) f0 sg5 ⟨by rw [f3, f4], 0, f4, by omega⟩
      · have d0 : (true && decide (k = 0)) = true := by rw [Bool.true_and]; exact decide_eq_true (by omega)
        rw [if_neg (by simp)]
        refine sp_isWord (w := [111, 110]) X5 H5.1.1 H5.2.1 H5.2.2.1 (by decide +kernel) (by decide) (by decide) (by decide) ?_
        simp only [pushR0]
        rw [B_270_144 X5]
        by_cases s : seeT T n p1 [111, 110] = true
        · have e2 : onR T n (true && decide (k = 0)) p1 = .inr (enT T n p1) := by rw [d0]; unfold onR; rw [if_pos rfl, if_pos s]
          have sn5 := see_ne H5.1.1 (by show 1 ≤ 2; omega) s
          rw [if_pos s]
          refine xMustT X5 H5 rfl (fun h6 F6 H6 => ?_)
          have X6 : Fix sh h6 := F6.fix X5 (by decide +kernel)
          simp only [pushR9]
          rw [B_270_147 X6]
          have M46 := M45.trans (MX.nx (c := c1) F6).mc (by omega)
          refine m271 (i := i) (x := 8 * i + 3) (ws := ws1) (by omega) (by omega) X6 H6 hw5 (fun h7 q hR7 F7 g1 g2 => ?_) (fun h7 p3 lf3 ws3 ev2 c2 hR7 M7 H7 hc7 hp7 hw7 sg7 sm7 r217 => ?_)
          · simp only [pushR9]
            exact b154 h7 q (clR_3 e e1 e2 (by rw [d0]; exact smR_t0 hR7)) ((M46.1.mono rfl).trans F7) g1 g2
          · have e3 : smR T n true (true && decide (k = 0)) (enT T n p1) lf1 ws1 = .inr (p3, lf3, ws3, some ev2) := by rw [d0]; exact smR_t1 hR7
            simp only [pushR9]
            refine t154 h7 p3 lf3 ws3 c2 (some ev) (some ev2) (fun q ht => clR_4 e e1 e2 e3 ht) (fun p4 tm q ht e5 => clR_5 e e1 e2 e3 ht e5) (fun p4 tm p5 lf5 ws5 ts ht e5 => clR_6 e e1 e2 e3 ht e5) (M46.trans M7 (by omega)) H7 (by omega) (by omega) hw7 (by rw [r217, F6.at 85 21 rfl, r21]; exact a21) (by rw [sm7 _ (by omega) (by omega), F6.row 116 rfl]; exact f0) ?_ sg7
            rw [sm7 _ (by omega) (by omega), sm7 _ (by omega) (by omega), F6.row 116 rfl]
            refine sg5.mono (by omega) (fun j hj => ?_)
            have e7 := M7.2.1 j hj
            rw [F6.row 96 rfl, F6.row 97 rfl] at e7
            exact e7
        · have e2 : onR T n (true && decide (k = 0)) p1 = .inl (stT T n p1) := by rw [d0]; unfold onR; rw [if_pos rfl, if_neg s]
          rw [if_neg s]
          refine xMustF X5 H5 rfl (fun h6 F6 g1 g2 => ?_)
          simp only [pushR9]
          exact b147 h6 _ (clR_2 e e1 e2) ((M45.1.mono rfl).trans (F6.mono rfl)) g1 g2
end MOC
