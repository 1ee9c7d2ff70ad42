/-! ===== the class's clauses and text ===== -/
def PtR (T : Nat → Int) (n : Nat) (od : Bool) (ci F p lf c : Nat) (h h2 : Sto) : Prop := ∃ k p4 lf3 ws3 s1 s2 tm c1, (∀ q, ifR T n od p4 lf3 ws3 = .inl q → clR T n od p lf = .inl q) ∧ (∀ p5 lf5 ws5 ts, ifR T n od p4 lf3 ws3 = .inr (p5, lf5, ws5, ts) → clR T n od p lf = .inr (p5, lf5, (k, ts, s1, s2, tm, ws5))) ∧ CT ci c h h2 ∧ CI T n od ci p4 lf3 ws3 c1 h2 ∧ c ≤ c1 ∧ p + 1 ≤ p4 ∧ h2 35 ci = (k : Int) ∧ h2 36 ci = (tm : Int) ∧ SgO F h2 c1 (h2 37 ci) s1 ∧ SgO F h2 c1 (h2 38 ci) s2 ∧ h2 39 ci = -1
section CTX
variable {sc : Nat × (Nat → Int)} {sh : Shp} {sl : Nat} {T : Nat → Int} {n : Nat} {od : Bool} {ci F : Nat} {p lf ws c : Nat} {h : Sto} {Q : Pst}
theorem cLawCl {D : Nat} (hF : 8 ≤ F) (hD : 46 ≤ D) (X : Fix sh h) (H : CI T n false ci p lf 0 c h) (g36 : h 36 ci = 1) (g37 : h 37 ci = -1) (g38 : h 38 ci = -1) (g39 : h 39 ci = -1) (q0 : ∀ h2 q, clR T n false p lf = .inl q → Fr TxP PsS h h2 → h2 43 10 = (q : Int) → Q (0, 0) sh sl h2) (q1 : ∀ h2, PtR T n false ci F p lf c h h2 → Q (0, 1) sh sl h2) : WM sc D 71 [(2, 43), (0, (ci : Int))] sh sl h Q := by
  obtain ⟨E, rfl⟩ : ∃ E, D = E + 46 := ⟨D - 46, by omega⟩
  have bd := H.bd
  have hci := H.1.2.2.2.2
  rw [B_71_0 X]
  refine cHeadL X H (fun e => ?_) (fun k e => ?_)
  · simp only [pushR0]
    rw [B_71_4 X, show w32 (-1) = -1 from rfl, if_neg (by simp)]
    refine cFail X H (fun h2 F2 g2 => ?_)
    simp only [pushR0]
    rw [B_71_14 (F2.fix X (by decide +kernel)) (Or.inl rfl)]
    exact q0 h2 _ (clR_0 e) (F2.mono rfl) g2
  · have kb := hdR_b bd.1 e
    have o2 : onR T n (false && decide (k = 0)) = onR T n false := rfl
    simp only [pushR0]
    rw [B_71_4 X, w32_id (a := (k : Int)) (by omega) (by omega), if_pos (by omega)]
    refine cNext X H (fun h2 F2 H2 => ?_)
    have X2 : Fix sh h2 := F2.fix X (by decide +kernel)
    have b2 := H2.bd
    have g3 : h2 34 1 = (c : Int) := H2.2.2.2.2.2.2.1
    simp only [pushR9]
    rw [B_71_19 X2, w32_id (a := (ci : Int)) (by omega) (by omega), Int.toNat_natCast, w32_id (a := (k : Int)) (by omega) (by omega)]
    have C3 : CT ci c h2 (setH h2 35 ci (k : Int)) := CT.st (by omega)
    have H3 := H2.st (r := 35) (i := ci) (v := (k : Int)) (by omega)
    refine ⟨⟨by omega, by omega⟩, ite_i (fun k3 => ⟨⟨by omega, by omega⟩, ?_⟩) (fun k3 => ?_)⟩
    · have d3 : decide (k ≠ 3) = true := decide_eq_true (by omega)
      have C4 : CT ci c (setH h2 35 ci (k : Int)) (setH (setH h2 35 ci (k : Int)) 37 ci (h2 34 1)) := CT.st (by omega)
      have H4 := H3.st (r := 37) (i := ci) (v := h2 34 1) (by omega)
      have X4 := C4.fix (C3.fix X2)
      refine cWhole ⟨fun q => (by cases q), hF⟩ (by omega) X4 H4 (by omega) (fun h5 q hS F5 g5 => ?_) (fun h5 p1 lf1 ws1 ev c1 hS E5 H5 hc hc2 sg => ?_)
      · simp only [pushR0]
        rw [B_71_56 (F5.fix X4 (by decide +kernel)) (Or.inl rfl)]
        exact q0 h5 q (clR_1 e (by rw [d3]; exact smR_t0 hS)) ((((F2.mono rfl).trans C3.1).trans C4.1).trans (F5.mono rfl)) g5
      · have g := sum_good 8 _ _ _ _ _ _ _ b2.1 H4.1.2.2.1 H4.1.2.2.2.1 hS
        have b5 := H5.bd
        simp only [pushR0]
        rw [B_71_56 (E5.fix X4) (Or.inr rfl)]
        have r37 : h5 37 ci = (c : Int) := by rw [E5.1.row 37 rfl, setH_self, g3]
        have e1 : smR T n false (decide (k ≠ 3)) (enT T n p) lf 0 = .inr (p1, lf1, ws1, some ev) := by rw [d3]; exact smR_t1 hS
        refine q1 h5 ⟨k, p1, lf1, ws1, some ev, none, 1, c1, fun q e5 => clR_5 e e1 onR_f smR_f tmR_f e5, fun p5 lf5 ws5 ts e5 => clR_6 e e1 onR_f smR_f tmR_f e5, (((CE.nx F2).ct.trans C3 (Nat.le_refl c)).trans C4 (Nat.le_refl c)).trans E5.ct (Nat.le_refl c), H5, by omega, by omega, ?_, ?_, by rw [r37]; exact sg, ?_, ?_⟩
        · rw [E5.1.row 35 rfl, setH_o (by decide), setH_self]
        · rw [E5.1.row 36 rfl, setH_o (by decide), setH_o (by decide), F2.row 36 rfl]; exact g36
        · rw [E5.1.row 38 rfl, setH_o (by decide), setH_o (by decide), F2.row 38 rfl]; exact g38
        · rw [E5.1.row 39 rfl, setH_o (by decide), setH_o (by decide), F2.row 39 rfl]; exact g39
    · have d3 : decide (k ≠ 3) = false := decide_eq_false (by omega)
      have e1 : smR T n false (decide (k ≠ 3)) (enT T n p) lf 0 = .inr (enT T n p, lf, 0, none) := by rw [d3]; exact smR_f
      refine q1 _ ⟨k, enT T n p, lf, 0, none, none, 1, c, fun q e5 => clR_5 e e1 onR_f smR_f tmR_f e5, fun p5 lf5 ws5 ts e5 => clR_6 e e1 onR_f smR_f tmR_f e5, (CE.nx F2).ct.trans C3 (Nat.le_refl c), H3, Nat.le_refl c, by omega, setH_self _ _ _ _, ?_, ?_, ?_, ?_⟩
      · rw [setH_o (by decide), F2.row 36 rfl]; exact g36
      · show _ = _
        rw [setH_o (by decide), F2.row 37 rfl]; exact g37
      · show _ = _
        rw [setH_o (by decide), F2.row 38 rfl]; exact g38
      · rw [setH_o (by decide), F2.row 39 rfl]; exact g39
theorem cOrdCl {D : Nat} (hF : 20 ≤ F) (hD : 46 ≤ D) (X : Fix sh h) (H : CI T n true ci p lf 0 c h) (g36 : h 36 ci = 1) (g37 : h 37 ci = -1) (g38 : h 38 ci = -1) (g39 : h 39 ci = -1) (q0 : ∀ h2 q, clR T n true p lf = .inl q → Fr TxP PsS h h2 → h2 43 10 = (q : Int) → Q (0, 0) sh sl h2) (q1 : ∀ h2, PtR T n true ci F p lf c h h2 → Q (0, 1) sh sl h2) : WM sc D 59 [(2, 43), (0, (ci : Int))] sh sl h Q := by
  obtain ⟨E, rfl⟩ : ∃ E, D = E + 46 := ⟨D - 46, by omega⟩
  have bd := H.bd
  have hci := H.1.2.2.2.2
  rw [B_59_0 X]
  refine cHeadO X H (fun e => ?_) (fun k e => ?_)
  · simp only [pushR0]
    rw [B_59_4 X, show w32 (-1) = -1 from rfl, if_neg (by simp)]
    refine cFail X H (fun h2 F2 g2 => ?_)
    simp only [pushR0]
    rw [B_59_14 (F2.fix X (by decide +kernel)) (Or.inl rfl)]
    exact q0 h2 _ (clR_0 e) (F2.mono rfl) g2
  · have kb := hdR_b bd.1 e
    simp only [pushR0]
    rw [B_59_4 X, w32_id (a := (k : Int)) (by omega) (by omega), if_pos (by omega)]
    refine cNext X H (fun h2 F2 H2 => ?_)
    have X2 : Fix sh h2 := F2.fix X (by decide +kernel)
    have b2 := H2.bd
    have g3 : h2 34 1 = (c : Int) := H2.2.2.2.2.2.2.1
    simp only [pushR9]
    rw [B_59_19 X2, w32_id (a := (ci : Int)) (by omega) (by omega), Int.toNat_natCast, w32_id (a := (k : Int)) (by omega) (by omega)]
    have C3 : CT ci c h2 (setH h2 35 ci (k : Int)) := CT.st (by omega)
    have H3 := H2.st (r := 35) (i := ci) (v := (k : Int)) (by omega)
    -- the rest, from 'times'
    have rest : ∀ (h5 : Sto) (p3 lf3 ws3 c1 : Nat) (s1 s2 : Option Ev), (∀ q, tmR T n true p3 = .inl q → clR T n true p lf = .inl q) → (∀ p4 tm q, tmR T n true p3 = .inr (p4, tm) → ifR T n true p4 lf3 ws3 = .inl q → clR T n true p lf = .inl q) → (∀ p4 tm p5 lf5 ws5 ts, tmR T n true p3 = .inr (p4, tm) → ifR T n true p4 lf3 ws3 = .inr (p5, lf5, ws5, ts) → clR T n true p lf = .inr (p5, lf5, (k, ts, s1, s2, tm, ws5))) → CT ci c h h5 → CI T n true ci p3 lf3 ws3 c1 h5 → c ≤ c1 → p + 1 ≤ p3 → h5 35 ci = (k : Int) → h5 36 ci = 1 → SgO F h5 c1 (h5 37 ci) s1 → SgO F h5 c1 (h5 38 ci) s2 → h5 39 ci = -1 → WM sc (E + 45) 67 [(2, 43), (2, -36)] sh sl h5 (fun r sh1 sl1 h1 => WF sc (E + 46) 59 108 [(2, 43), (0, (ci : Int)), (0, (k : Int))] (pushR r []) sh1 sl1 h1 Q) := fun h5 p3 lf3 ws3 c1 s1 s2 t0 t1 t2 C5 H5 hc hp r35 r36 sg1 sg2 r39 => by
      refine cTimes (by omega) (C5.fix X) H5 r36 (fun h6 q ht F6 g6 => q0 h6 q (t0 q ht) (C5.1.trans F6) g6) (fun h6 p4 tm ht C6 H6 hp6 s36 sm => ?_)
      refine q1 h6 ⟨k, p4, lf3, ws3, s1, s2, tm, c1, fun q e5 => t1 p4 tm q ht e5, fun p5 lf5 ws5 ts e5 => t2 p4 tm p5 lf5 ws5 ts ht e5, C5.trans C6 hc, H6, hc, by omega, by rw [sm 35 (by omega)]; exact r35, s36, ?_, ?_, by rw [sm 39 (by omega)]; exact r39⟩
      · rw [sm 37 (by omega)]; exact sg1.mono (Nat.le_refl _) (fun i hi => C6.2.1 i hi)
      · rw [sm 38 (by omega)]; exact sg2.mono (Nat.le_refl _) (fun i hi => C6.2.1 i hi)
    refine ⟨⟨by omega, by omega⟩, ite_i (fun k3 => ?_) (fun k3 => ⟨⟨by omega, by omega⟩, ?_⟩)⟩
    · have d3 : decide (k ≠ 3) = false := decide_eq_false (by omega)
      have d0 : (true && decide (k = 0)) = false := by rw [Bool.true_and]; exact decide_eq_false (by omega)
      have e1 : smR T n true (decide (k ≠ 3)) (enT T n p) lf 0 = .inr (enT T n p, lf, 0, none) := by rw [d3]; exact smR_f
      have e2 : onR T n (true && decide (k = 0)) (enT T n p) = .inr (enT T n p) := by rw [d0]; exact onR_f
      have e3 : smR T n true (true && decide (k = 0)) (enT T n p) lf 0 = .inr (enT T n p, lf, 0, none) := by rw [d0]; exact smR_f
      rw [if_pos (by omega)]
      refine rest _ (enT T n p) lf 0 c none none (fun q ht => clR_4 e e1 e2 e3 ht) (fun p4 tm q ht e5 => clR_5 e e1 e2 e3 ht e5) (fun p4 tm p5 lf5 ws5 ts ht e5 => clR_6 e e1 e2 e3 ht e5) ((CE.nx F2).ct.trans C3 (Nat.le_refl c)) H3 (Nat.le_refl c) (by omega) (setH_self _ _ _ _) ?_ ?_ ?_ ?_
      · rw [setH_o (by decide), F2.row 36 rfl]; exact g36
      · show _ = _
        rw [setH_o (by decide), F2.row 37 rfl]; exact g37
      · show _ = _
        rw [setH_o (by decide), F2.row 38 rfl]; exact g38
      · rw [setH_o (by decide), F2.row 39 rfl]; exact g39
    · have d3 : decide (k ≠ 3) = true := decide_eq_true (by omega)
      have C4 : CT ci c (setH h2 35 ci (k : Int)) (setH (setH h2 35 ci (k : Int)) 37 ci (h2 34 1)) := CT.st (by omega)
      have H4 := H3.st (r := 37) (i := ci) (v := h2 34 1) (by omega)
      have X4 := C4.fix (C3.fix X2)
      have C24 := ((CE.nx F2).ct.trans C3 (Nat.le_refl c)).trans C4 (Nat.le_refl c)
      refine cWhole ⟨fun _ => hF, by omega⟩ (by omega) X4 H4 (by omega) (fun h5 q hS F5 g5 => ?_) (fun h5 p1 lf1 ws1 ev c1 hS E5 H5 hc hc2 sg => ?_)
      · simp only [pushR0]
        rw [B_59_54 (F5.fix X4 (by decide +kernel)), w32_0, if_neg (by simp)]
        exact q0 h5 q (clR_1 e (by rw [d3]; exact smR_t0 hS)) (C24.1.trans (F5.mono rfl)) g5
      · have X5 := E5.fix X4
        have g := sum_good 8 _ _ _ _ _ _ _ b2.1 H4.1.2.2.1 H4.1.2.2.2.1 hS
        have b5 := H5.bd
        have r37 : h5 37 ci = (c : Int) := by rw [E5.1.row 37 rfl, setH_self, g3]
        have r35 : h5 35 ci = (k : Int) := by rw [E5.1.row 35 rfl, setH_o (by decide), setH_self]
        have r36 : h5 36 ci = 1 := by rw [E5.1.row 36 rfl, setH_o (by decide), setH_o (by decide), F2.row 36 rfl]; exact g36
        have r38 : h5 38 ci = -1 := by rw [E5.1.row 38 rfl, setH_o (by decide), setH_o (by decide), F2.row 38 rfl]; exact g38
        have r39 : h5 39 ci = -1 := by rw [E5.1.row 39 rfl, setH_o (by decide), setH_o (by decide), F2.row 39 rfl]; exact g39
        have e1 : smR T n true (decide (k ≠ 3)) (enT T n p) lf 0 = .inr (p1, lf1, ws1, some ev) := by rw [d3]; exact smR_t1 hS
        have C5 := C24.trans E5.ct (Nat.le_refl c)
        simp only [pushR0]
        rw [B_59_54 X5, show w32 1 = 1 from rfl, if_pos (by decide), w32_id (a := (k : Int)) (by omega) (by omega)]
        refine ite_i (fun k0 => ?_) (fun k0 => ?_)
        · have d0 : (true && decide (k = 0)) = false := by rw [Bool.true_and]; exact decide_eq_false (by omega)
          have e2 : onR T n (true && decide (k = 0)) p1 = .inr p1 := by rw [d0]; exact onR_f
          have e3 : smR T n true (true && decide (k = 0)) p1 lf1 ws1 = .inr (p1, lf1, ws1, none) := by rw [d0]; exact smR_f
          exact rest h5 p1 lf1 ws1 c1 (some ev) none (fun q ht => clR_4 e e1 e2 e3 ht) (fun p4 tm q ht e5 => clR_5 e e1 e2 e3 ht e5) (fun p4 tm p5 lf5 ws5 ts ht e5 => clR_6 e e1 e2 e3 ht e5) C5 H5 (by omega) (by omega) r35 r36 (by rw [r37]; exact sg) r38 r39
        · have d0 : (true && decide (k = 0)) = true := by rw [Bool.true_and]; exact decide_eq_true (by omega)
          refine cTook (w := [111, 110]) rfl (by decide) X5 H5 (fun h6 s F6 H6 => ?_) (fun s => ?_)
          · have X6 : Fix sh h6 := F6.fix X5 (by decide +kernel)
            have sn := see_ne b5.1 (by show 1 ≤ 2; omega) s
            have e2 : onR T n (true && decide (k = 0)) p1 = .inr (enT T n p1) := by rw [d0]; unfold onR; rw [if_pos rfl, if_pos s]
            have g6 : h6 34 1 = (c1 : Int) := H6.2.2.2.2.2.2.1
            have C7 : CT ci c1 h6 (setH h6 38 ci (h6 34 1)) := CT.st (by omega)
            have H7 := H6.st (r := 38) (i := ci) (v := h6 34 1) (by omega)
            have X7 := C7.fix X6
            have C67 := (C5.trans (CE.nx (c := c1) F6).ct (by omega)).trans C7 (by omega)
            simp only [pushR0]
            rw [B_59_69 X6, show w32 1 = 1 from rfl, if_pos (by decide), w32_id (a := (ci : Int)) (by omega) (by omega), Int.toNat_natCast]
            refine ⟨⟨by omega, by omega⟩, ?_⟩
            refine cWhole ⟨fun _ => hF, by omega⟩ (by omega) X7 H7 (by omega) (fun h8 q hS8 F8 g8 => ?_) (fun h8 p3 lf3 ws3 ev2 c2 hS8 E8 H8 hc8 hc28 sg8 => ?_)
            · simp only [pushR0]
              rw [B_59_97 (F8.fix X7 (by decide +kernel)), w32_0, if_neg (by simp)]
              exact q0 h8 q (clR_3 e e1 e2 (by rw [d0]; exact smR_t0 hS8)) (C67.1.trans (F8.mono rfl)) g8
            · have X8 := E8.fix X7
              have gg := sum_good 8 _ _ _ _ _ _ _ H7.bd.1 H7.1.2.2.1 H7.1.2.2.2.1 hS8
              have e3 : smR T n true (true && decide (k = 0)) (enT T n p1) lf1 ws1 = .inr (p3, lf3, ws3, some ev2) := by rw [d0]; exact smR_t1 hS8
              have ok : ∀ i, i < c1 → h8 41 i = h5 41 i ∧ h8 42 i = h5 42 i := fun i hi => by
                have a := E8.2.1 i hi
                rw [setH_o (by decide), setH_o (by decide), F6.row 41 rfl, F6.row 42 rfl] at a
                exact a
              simp only [pushR0]
              rw [B_59_97 X8, show w32 1 = 1 from rfl, if_pos (by decide)]
              refine rest h8 p3 lf3 ws3 c2 (some ev) (some ev2) (fun q ht => clR_4 e e1 e2 e3 ht) (fun p4 tm q ht e5 => clR_5 e e1 e2 e3 ht e5) (fun p4 tm p5 lf5 ws5 ts ht e5 => clR_6 e e1 e2 e3 ht e5) (C67.trans E8.ct (by omega)) H8 (by omega) (by omega) ?_ ?_ ?_ ?_ ?_
              · rw [E8.1.row 35 rfl, setH_o (by decide), F6.row 35 rfl]; exact r35
              · rw [E8.1.row 36 rfl, setH_o (by decide), F6.row 36 rfl]; exact r36
              · rw [E8.1.row 37 rfl, setH_o (by decide), F6.row 37 rfl, r37]; exact sg.mono (by omega) ok
              · rw [E8.1.row 38 rfl, setH_self, g6]; exact sg8
              · rw [E8.1.row 39 rfl, setH_o (by decide), F6.row 39 rfl]; exact r39
          · have e2 : onR T n (true && decide (k = 0)) p1 = .inl (stT T n p1) := by rw [d0]; unfold onR; rw [if_pos rfl, if_neg (by rw [s]; decide)]
            simp only [pushR0]
            rw [B_59_69 X5, w32_0, if_neg (by simp)]
            refine cFail X5 H5 (fun h6 F6 g6 => ?_)
            simp only [pushR0]
            rw [B_59_76 (F6.fix X5 (by decide +kernel)) (Or.inl rfl)]
            exact q0 h6 _ (clR_2 e e1 e2) (C5.1.trans (F6.mono rfl)) g6
end CTX
