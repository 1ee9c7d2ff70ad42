section BUFL
variable {sc : Nat × (Nat → Int)} {d : Nat} {sh : Shp} {sl : Nat} {h : Sto} {Q : Pst} {G : Nat → Int} {n m : Nat} {L : List Law}
theorem lp_bfM {l N : Nat} {gp : Nat → Nat} {x2 : Int} (H : BfM sh h G n m L l N gp) : ∀ (r k : Nat) (t : Nat → Int) (h' : Sto) (Kx : Int), k + r = N → Kx = k → Fr [110] [] h h' → (∀ i, i < k → h' 110 i = t i) → (∀ i, i < k → 0 ≤ t i ∧ t i < 10) → (r = 0 ∨ h' 110 k = -1) → (∀ h2 t', dfs (bfOK (fun j => sfM G L n l (gp j))) n r k t = some t' → Fr [110] [] h h2 → (∀ i, i < N → h2 110 i = t' i) → WF sc (d + 4) 248 107 [(2, 85), (0, (l : Int)), (0, x2), (0, ((msk (rdP G) n : Nat) : Int)), (0, (N : Int)), (0, (N : Int))] [] sh sl h2 Q) → (∀ h2 Kx, dfs (bfOK (fun j => sfM G L n l (gp j))) n r k t = none → Kx = (k : Int) - 1 → Fr [110] [] h h2 → (∀ i, i < k → h2 110 i = t i) → WF sc (d + 4) 248 107 [(2, 85), (0, (l : Int)), (0, x2), (0, ((msk (rdP G) n : Nat) : Int)), (0, (N : Int)), (0, Kx)] [] sh sl h2 Q) → WF sc (d + 4) 248 107 [(2, 85), (0, (l : Int)), (0, x2), (0, ((msk (rdP G) n : Nat) : Int)), (0, (N : Int)), (0, Kx)] [] sh sl h' Q := by
  have M := H.1
  have W := M.2.2.2.1
  have hn10 := W.1.2.1
  have hN4 := H.2.2.2.1
  intro r
  induction r with
  | zero =>
    intro k t h' Kx hk hK F e tb _ q1 q0
    have hkN : k = N := by omega
    subst hkN hK
    exact q1 h' t rfl F e
  | succ r ihr =>
    intro k t h' Kx hk hK F e tb hm1 q1 q0
    have hm1 : h' 110 k = -1 := by rcases hm1 with q | q; omega; exact q
    subst hK
    obtain ⟨S, hS⟩ : ∃ S : Nat → Nat, S = fun j => sfM G L n l (gp j) := ⟨_, rfl⟩
    rw [← hS] at ihr q1 q0
    have ed : dfs (bfOK S) n (r + 1) k t = dfI (fun c => if bfOK S t k c = true then dfs (bfOK S) n r (k + 1) (up t k (c : Int)) else none) n n := rfl
    obtain ⟨g, hg⟩ : ∃ g : Nat → Option (Nat → Int), g = fun c => if bfOK S t k c = true then dfs (bfOK S) n r (k + 1) (up t k (c : Int)) else none := ⟨_, rfl⟩
    rw [ed, ← hg] at q1 q0
    have lp : ∀ (rem c : Nat) (h' : Sto), c + rem = n → Fr [110] [] h h' → (∀ i, i < k → h' 110 i = t i) → h' 110 k = (c : Int) - 1 → (∀ h2 t', dfI g n rem = some t' → Fr [110] [] h h2 → (∀ i, i < N → h2 110 i = t' i) → WF sc (d + 4) 248 107 [(2, 85), (0, (l : Int)), (0, x2), (0, ((msk (rdP G) n : Nat) : Int)), (0, (N : Int)), (0, (N : Int))] [] sh sl h2 Q) → (∀ h2 Kx, dfI g n rem = none → Kx = (k : Int) - 1 → Fr [110] [] h h2 → (∀ i, i < k → h2 110 i = t i) → WF sc (d + 4) 248 107 [(2, 85), (0, (l : Int)), (0, x2), (0, ((msk (rdP G) n : Nat) : Int)), (0, (N : Int)), (0, Kx)] [] sh sl h2 Q) → WF sc (d + 4) 248 107 [(2, 85), (0, (l : Int)), (0, x2), (0, ((msk (rdP G) n : Nat) : Int)), (0, (N : Int)), (0, (k : Int))] [] sh sl h' Q := by
      intro rem
      induction rem with
      | zero =>
        intro c h' hc F e ek q1 q0
        rw [B_248_107 (F.fix M.1 (by decide +kernel)), w32_id (a := (k : Int)) (by omega) (by omega), if_neg (by omega), w32_id (a := (N : Int)) (by omega) (by omega), if_neg (by omega), Int.toNat_natCast, ek, F.row 87 rfl, M.2.1, W.1.1, show (c : Int) - 1 + 1 = (c : Int) by omega, w32_id (a := (c : Int)) (by omega) (by omega), w32_id (a := (n : Int)) (by omega) (by omega), if_neg (by omega)]
        refine ⟨⟨by omega, by omega⟩, ⟨by omega, by omega⟩, ⟨by omega, by omega⟩, q0 _ _ rfl (by omega) (F.setP rfl) (fun i hi => ?_)⟩
        rw [setH_k (by omega)]; exact e i hi
      | succ rem ih =>
        intro c h' hc F e ek q1 q0
        have es := dfI_s (g := g) hc
        have egc : g c = if bfOK S t k c = true then dfs (bfOK S) n r (k + 1) (up t k (c : Int)) else none := by rw [hg]
        rw [es] at q1 q0
        rw [B_248_107 (F.fix M.1 (by decide +kernel)), w32_id (a := (k : Int)) (by omega) (by omega), if_neg (by omega), w32_id (a := (N : Int)) (by omega) (by omega), if_neg (by omega), Int.toNat_natCast, ek, F.row 87 rfl, M.2.1, W.1.1, show (c : Int) - 1 + 1 = (c : Int) by omega, w32_id (a := (c : Int)) (by omega) (by omega), w32_id (a := (n : Int)) (by omega) (by omega), if_pos (by omega)]
        refine ⟨⟨by omega, by omega⟩, ⟨by omega, by omega⟩, ⟨by omega, by omega⟩, ?_⟩
        have F2 : Fr [110] [] h (setH h' 110 k (c : Int)) := F.setP rfl
        have e2 : ∀ i, i < k → setH h' 110 k (c : Int) 110 i = t i := fun i hi => by rw [setH_k (by omega)]; exact e i hi
        refine sp_isBuf (gp := gp) (t := t) (H.fr F2) (by omega) e2 tb (setH_self _ _ _ _) (by omega) ?_
        simp only [pushR0]
        have X2 : Fix sh (setH h' 110 k (c : Int)) := F2.fix M.1 (by decide +kernel)
        rw [B_248_160 X2, ← hS]
        by_cases ok : bfOK S t k c = true
        · rw [if_pos ok] at egc
          rw [if_pos ok, show w32 1 = 1 from rfl, if_neg (by decide), w32_nat (a := (k : Int) + 1) (n := k + 1) (by omega) (by omega), Int.toNat_natCast]
          refine ⟨⟨by omega, by omega⟩, ?_⟩
          refine ihr (k + 1) (up t k (c : Int)) _ _ (by omega) (by omega) (F2.setP rfl) (fun i hi => ?_) (fun i hi => ?_) (Or.inr (setH_self _ _ _ _)) (fun h3 t' hd F3 e3 => ?_) (fun h3 Kx hd hK F3 e3 => ?_)
          · rw [setH_k (by omega)]
            by_cases ei : i = k
            · rw [ei, setH_self, up_s]
            · rw [up_n ei]; exact e2 i (by omega)
          · by_cases ei : i = k
            · rw [ei, up_s]; omega
            · rw [up_n ei]; exact tb i (by omega)
          · exact q1 h3 t' (by rw [egc, hd]; rfl) F3 e3
          · have en : g c = none := egc.trans hd
            rw [en, Option.none_or] at q1 q0
            rw [hK, show ((k + 1 : Nat) : Int) - 1 = (k : Int) by omega]
            exact ih (c + 1) h3 (by omega) F3 (fun i hi => by rw [e3 i (by omega), up_n (by omega)]) (by rw [e3 k (by omega), up_s]; omega) q1 q0
        · rw [if_neg ok] at egc
          rw [egc, Option.none_or] at q1 q0
          rw [if_neg ok, w32_0, if_pos rfl]
          exact ih (c + 1) _ (by omega) F2 e2 (by rw [setH_self]; omega) q1 q0
    exact lp n 0 h' (by omega) F e (by rw [hm1]; rfl) q1 q0
theorem lp_gapsM {l c : Nat} {x2 x3 : Int} (M : MJ sh h G n m L) (Fi : FiR G L n n 0 h) (hl : l < m) (hc : G (31 + l) = c) (hq : ∀ h', Fr [112] [] h h' → (∀ j, j < cnt (gpP G L l) (c - 1) → h' 112 j = ((gpA (gpP G L l) (c - 1) j : Nat) : Int)) → WF sc (d + 2) 248 107 [(2, 85), (0, (l : Int)), (0, x2), (0, x3), (0, ((cnt (gpP G L l) (c - 1) : Nat) : Int)), (0, 0)] [] sh sl (setH h' 110 0 (-1)) Q) : ∀ (rem i : Nat) (h' : Sto) (A I : Int), i + rem = c - 1 → A = ((cnt (gpP G L l) i : Nat) : Int) → I = i → Fr [112] [] h h' → (∀ j, j < cnt (gpP G L l) i → h' 112 j = ((gpA (gpP G L l) i j : Nat) : Int)) → WF sc (d + 2) 248 35 [(2, 85), (0, (l : Int)), (0, x2), (0, x3), (0, A), (0, I)] [] sh sl h' Q := by
  have W := M.2.2.2.1
  have B := M.2.2.2.2
  have hn10 := W.1.2.1
  have hm3 := W.1.2.2.2.1
  have c1 := B.2.2.1 l hl
  intro rem
  induction rem with
  | zero =>
    intro i h' A I hi hA hI F e
    subst hA hI
    have hi' : i = c - 1 := by omega
    rw [B_248_35 (F.fix M.1 (by decide +kernel)), w32_nat (a := 31 + (l : Int)) (n := 31 + l) (by omega) (by omega), Int.toNat_natCast, F.row 87 rfl, M.2.1, hc, w32_id (a := (c : Int)) (by omega) (by omega), w32_id (a := (i : Int) + 1) (by omega) (by omega), if_pos (by omega)]
    subst hi'
    exact ⟨⟨by omega, by omega⟩, hq h' F e⟩
  | succ rem ih =>
    intro i h' A I hi hA hI F e
    subst hA hI
    have X' : Fix sh h' := F.fix M.1 (by decide +kernel)
    have s1 := B.sp (i := i) hl (by omega)
    have s2 := B.sp (i := i + 1) hl (by omega)
    have l1 := s1.2.1
    have l2 := s2.2.1
    have qb := quarrelA_bd W s1.2.1 s2.2.1
    have cl := cnt_le (gpP G L l) i
    have ne : spA G l i ≠ spA G l (i + 1) := fun q => B.2.2.2.2 l i (i + 1) hl (by omega) (by omega) (by rw [s1.1, s2.1, q])
    have fq := (Fi _ _ l1 l2 ne (by omega)).1
    rw [B_248_35 X', w32_nat (a := 31 + (l : Int)) (n := 31 + l) (by omega) (by omega), Int.toNat_natCast, F.row 87 rfl, M.2.1, hc, w32_id (a := (c : Int)) (by omega) (by omega), w32_id (a := (i : Int) + 1) (by omega) (by omega), if_neg (by omega), sp_mstampAt (l := l) (i := i) X' rfl rfl (by omega) (by omega)]
    refine ⟨⟨by omega, by omega⟩, ?_⟩
    simp only [pushR0]
    rw [B_248_64 X', sp_mstampAt (l := l) (i := i + 1) X' rfl (by omega) (by omega) (by omega)]
    simp only [pushR0]
    rw [B_248_74 X', F.row 87 rfl, M.2.1, s1.1, s2.1, w32_nat (a := 10 * ((spA G l i : Nat) : Int) + ((spA G l (i + 1) : Nat) : Int)) (n := 10 * spA G l i + spA G l (i + 1)) (by omega) (by omega), Int.toNat_natCast, F.row 107 rfl, fq, w32_id (a := quarrelA G L (spA G l i) (spA G l (i + 1))) (by omega) (by omega)]
    refine ⟨⟨by omega, by omega⟩, ?_⟩
    by_cases c2 : quarrelA G L (spA G l i) (spA G l (i + 1)) ≤ 0
    · have hp : ¬ gpP G L l i = true := by unfold gpP; rw [decide_eq_true_eq]; omega
      have ec : cnt (gpP G L l) (i + 1) = cnt (gpP G L l) i := by simp only [cnt]; rw [if_neg hp]
      have eg : gpA (gpP G L l) (i + 1) = gpA (gpP G L l) i := by simp only [gpA]; rw [if_neg hp]
      rw [if_pos c2]
      exact ih (i + 1) h' _ _ (by omega) (by rw [ec]) (by simp) F (fun j hj => by rw [ec] at hj; rw [eg]; exact e j hj)
    · have hp : gpP G L l i = true := by unfold gpP; rw [decide_eq_true_eq]; omega
      have ec : cnt (gpP G L l) (i + 1) = cnt (gpP G L l) i + 1 := by simp only [cnt]; rw [if_pos hp]
      have eg : gpA (gpP G L l) (i + 1) = (fun j => if j = cnt (gpP G L l) i then i else gpA (gpP G L l) i j) := by simp only [gpA]; rw [if_pos hp]
      rw [if_neg c2, w32_id (a := ((cnt (gpP G L l) i : Nat) : Int)) (by omega) (by omega), Int.toNat_natCast]
      refine ⟨⟨by omega, by omega⟩, ih (i + 1) _ _ _ (by omega) (by rw [ec]; omega) (by simp) (F.setP rfl) (fun j hj => ?_)⟩
      rw [ec] at hj
      rw [eg]
      show _ = ((if j = cnt (gpP G L l) i then i else gpA (gpP G L l) i j : Nat) : Int)
      by_cases ej : j = cnt (gpP G L l) i
      · subst ej; rw [setH_self, if_pos rfl]
      · rw [setH_k ej, if_neg ej]; exact e j (by omega)
end BUFL
theorem op_buffers {x y : Int} (hx : I32 x) (hy : I32 y) : OpOK 117 248 0 [(0, x), (0, y)] := by
  intro sc d sh sl h I
  have X := I.fx
  obtain ⟨n, m, L, Lv, Hs⟩ := I.live
  have C := Lv.cj X
  have M := Lv.mj X I.od
  have W := M.2.2.2.1
  have B := M.2.2.2.2
  have hn10 := W.1.2.1
  have hm3 := W.1.2.2.2.1
  have bad : ¬ ((0 ≤ x ∧ x < m) ∧ -1 ≤ y) → WM sc (d + 100) 248 [(2, 85), (0, x), (0, y)] sh sl h (fun r2 sh2 sl2 h2 => ∃ v, ((0 : Nat), (-1 : Int)) = (0, v) ∧ r2 = (0, v) ∧ sh2.length ≤ sh.length + 9 ∧ sl2 ≤ sl + 900 ∧ INV sh2 h2) := by
    intro hb
    have X2 : Fix sh (setH h 85 0 0) := X.s (by decide +kernel)
    rw [B_248_0 X, sp_mLetter X2 hx (by rw [setH_o (by decide)]; exact W.1.2.2.1) hm3]
    simp only [pushR0]
    rw [B_248_10 X2, hy.w]
    by_cases c1 : 0 ≤ x ∧ x < m
    · rw [if_pos c1, show w32 1 = 1 from rfl, if_neg (by decide), if_neg (fun q => hb ⟨c1, q⟩)]
      exact ⟨_, rfl, rfl, by omega, by omega, I.thrown⟩
    · rw [if_neg c1, w32_0, if_pos rfl]
      exact ⟨_, rfl, rfl, by omega, by omega, I.thrown⟩
  rw [B_117_0 X, sp_cLetter X hx C.2.1.1.2.1 hm3]
  simp only [pushR0]
  rw [B_117_5 X, hy.w]
  by_cases c1 : 0 ≤ x ∧ x < m
  case neg => rw [if_neg c1, w32_0, if_pos rfl]; exact bad (fun q => c1 q.1)
  rw [if_pos c1, show w32 1 = 1 from rfl, if_neg (by decide)]
  by_cases c2 : y < -1
  · rw [if_pos c2]; exact bad (by omega)
  rw [if_neg c2]
  clear bad
  obtain ⟨l, rfl⟩ : ∃ l : Nat, x = l := ⟨x.toNat, by omega⟩
  have hl : l < m := by omega
  have cb := B.2.2.1 l hl
  obtain ⟨c, hc⟩ : ∃ c : Nat, h 87 (31 + l) = c := ⟨(h 87 (31 + l)).toNat, by omega⟩
  obtain ⟨N, hN⟩ : ∃ N, cnt (gpP (h 87) L l) (c - 1) = N := ⟨_, rfl⟩
  obtain ⟨gp, hgp⟩ : ∃ gp, gpA (gpP (h 87) L l) (c - 1) = gp := ⟨_, rfl⟩
  have hN4 : N ≤ 4 := by have := cnt_le (gpP (h 87) L l) (c - 1); omega
  have gl : ∀ j, j < N → gp j < c - 1 := fun j hj => by rw [← hgp]; exact gpA_lt (c - 1) j (by omega)
  obtain ⟨res, hres⟩ : ∃ res, dfs (bfOK (fun j => sfM (h 87) L n l (gp j))) n N 0 (fun _ => 0) = res := ⟨_, rfl⟩
  have F0 : Fr BuP BuS h (setH h 60 17 0) := (Fr.refl h).set rfl
  have hM : ∀ (h1 : Sto) (v : Int), Fr [48, 49, 81, 82, 67, 70] BuS h h1 → (res = none → v = -1) → (∀ t, res = some t → v = (if y = -1 then (N : Int) else if (N : Int) ≤ y then -1 else t y.toNat)) → WM sc (d + 100) 248 [(2, 85), (0, (l : Int)), (0, y)] sh sl h1 (fun r2 sh2 sl2 h2 => ∃ v', ((0 : Nat), v) = (0, v') ∧ r2 = (0, v') ∧ sh2.length ≤ sh.length + 9 ∧ sl2 ≤ sl + 900 ∧ INV sh2 h2) := by
    intro h1 v F1 hv0 hv1
    have X1 : Fix sh h1 := F1.fix X (by decide +kernel)
    have F2 : Fr [48, 49, 81, 82, 67, 70] [(60, 17), (85, 0)] h (setH h1 85 0 0) := (F1.mono rfl).set rfl
    have M2 : MJ sh (setH h1 85 0 0) (h 87) n m L := M.of F2 (by decide +kernel) (by decide +kernel)
    rw [B_248_0 X1, sp_mLetter M2.1 hx (by rw [M2.2.1]; exact W.1.2.2.1) hm3, if_pos c1]
    simp only [pushR0]
    rw [B_248_10 M2.1, show w32 1 = 1 from rfl, if_neg (by decide), hy.w, if_pos (by omega)]
    refine sp_fill M2 (fun h3 F3 Fi _ => ?_)
    have M3 : MJ sh h3 (h 87) n m L := M2.of F3 (by decide +kernel) (by decide +kernel)
    simp only [pushR9]
    rw [B_248_24 M3.1]
    refine sp_ready M3 ?_
    simp only [pushR0]
    rw [B_248_28 M3.1]
    refine lp_gapsM M3 Fi hl hc (fun h4 F4 e4 => ?_) (c - 1) 0 h3 _ _ (by omega) rfl rfl (Fr.refl h3) (fun j hj => absurd hj (by simp [cnt]))
    rw [hN, hgp] at e4
    have F4' : Fr [112, 110] [] h3 (setH h4 110 0 (-1)) := (F4.mono rfl).setP rfl
    have H : BfM sh (setH h4 110 0 (-1)) (h 87) n m L l N gp := by
      refine ⟨M3.of F4' (by decide +kernel) (by decide +kernel), ?_, hl, hN4, fun j hj => ⟨?_, ?_⟩⟩
      · unfold FiR; rw [F4'.row 107 rfl, F4'.row 108 rfl]; exact Fi
      · rw [setH_o (by decide)]; exact e4 j hj
      · have := gl j hj; omega
    rw [hN]
    have fin : ∀ h5, Fr [110] [] (setH h4 110 0 (-1)) h5 → INV sh h5 := fun h5 F5 => by
      have F6 : Fr [103, 105, 107, 108, 109, 112, 110] MS (setH h1 85 0 0) h5 := ((F3.mono rfl).trans (F4'.mono rfl)).trans (F5.mono rfl)
      exact I.two F2 F6 (by decide +kernel) (by decide +kernel) (by decide +kernel) (by decide +kernel)
    refine lp_bfM H N 0 (fun _ => 0) _ _ (by omega) rfl (Fr.refl _) (fun i hi => by omega) (fun i hi => by omega) (Or.inr (setH_self _ _ _ _)) (fun h5 t' hd F5 e5 => ?_) (fun h5 Kx hd hK F5 e5 => ?_)
    · have hv := hv1 t' (hres.symm.trans hd)
      have Z := fin h5 F5
      rw [B_248_107 Z.1, w32_id (a := (N : Int)) (by omega) (by omega), if_neg (by omega), if_pos (by omega), if_pos (by omega), hy.w]
      by_cases y1 : y = -1
      · rw [if_neg (fun q => q y1)]
        rw [if_pos y1] at hv
        exact ⟨_, by rw [hv], rfl, by omega, by omega, Z⟩
      · rw [if_neg y1] at hv
        rw [if_pos y1]
        by_cases y2 : (N : Int) ≤ y
        · rw [if_pos y2] at hv ⊢
          exact ⟨_, by rw [hv], rfl, by omega, by omega, Z⟩
        · rw [if_neg y2] at hv ⊢
          rw [e5 y.toNat (by omega)]
          exact ⟨⟨by omega, by omega⟩, _, by rw [hv], rfl, by omega, by omega, Z⟩
    · have hv := hv0 (hres.symm.trans hd)
      have Z := fin h5 F5
      rw [B_248_107 Z.1, hK, show ((0 : Nat) : Int) - 1 = -1 from rfl, show w32 (-1) = -1 from rfl, if_pos (by decide), if_neg (by decide)]
      exact ⟨_, by rw [hv], rfl, by omega, by omega, Z⟩
  rw [B_118_0 X]
  refine lp_gaps C hl hc (fun h1 F1 e17 e67 => ?_) (c - 1) 0 _ _ _ _ (by omega) rfl F0 (by rw [setH_self]; rfl) (fun j hj => absurd hj (by simp [cnt]))
  rw [hN] at e17 e67
  rw [hgp] at e67
  have X1 : Fix sh h1 := F1.fix X (by decide +kernel)
  refine sp_fillC (S := fun j => sfM (h 87) L n l (gp j)) X1 (by rw [F1.at 1 0 rfl]; exact C.2.1.1.1) hn10 hN4 e17 e67 (fun i hi => msk_lt10 hn10) N 0 _ (fun _ => 0) 0 h1 _ _ (by omega) (by omega) rfl (by omega) (fun s hs => ⟨fun q => by rw [Nat.zero_testBit] at q; exact absurd q (by decide), fun ⟨i, hi, _⟩ => by omega⟩) (Fr.refl h1) (fun i hi => by omega) (fun h2 t' hd F2 e2 j2 j3 j4 => ?_) (fun h2 hd F2 e2 j2 j3 j4 => ?_)
  · have F3 : Fr [48, 49, 81, 82, 67, 70] BuS h h2 := (F1.mono rfl).trans (F2.mono rfl)
    have X2 : Fix sh h2 := F3.fix X (by decide +kernel)
    rw [hd] at hres
    simp only [pushR0]
    rw [B_118_93 X2 (Or.inr rfl)]
    simp only [pushR0]
    rw [B_117_21 X2, show w32 1 = 1 from rfl, if_pos (by decide), hy.w, F2.at 60 17 rfl, e17, w32_id (a := (N : Int)) (by omega) (by omega)]
    have nn : ∀ v : Int, res = none → v = -1 := fun v q => by rw [q] at hres; cases hres
    by_cases y1 : y = -1
    · rw [if_neg (fun q => q y1)]
      exact hM h2 _ F3 (nn _) (fun t ht => by rw [if_pos y1])
    · rw [if_pos y1]
      by_cases y2 : (N : Int) ≤ y
      · rw [if_pos y2]
        exact hM h2 _ F3 (nn _) (fun t ht => by rw [if_neg y1, if_pos y2])
      · rw [if_neg y2]
        refine ⟨⟨by omega, by omega⟩, hM h2 _ F3 (nn _) (fun t ht => ?_)⟩
        rw [if_neg y1, if_neg y2, e2 y.toNat (by omega)]
        rw [← hres] at ht
        cases ht; rfl
  · have F3 : Fr [48, 49, 81, 82, 67, 70] BuS h h2 := (F1.mono rfl).trans (F2.mono rfl)
    have X2 : Fix sh h2 := F3.fix X (by decide +kernel)
    rw [hd] at hres
    simp only [pushR0]
    rw [B_118_93 X2 (Or.inl rfl)]
    simp only [pushR0]
    rw [B_117_21 X2, w32_0, if_neg (by simp)]
    exact hM h2 _ F3 (fun _ => rfl) (fun t ht => by rw [← hres] at ht; cases ht)
