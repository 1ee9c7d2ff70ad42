/-! ===== row ===== -/
def stB (w r t g : Int) : Bool := decide (1 ≤ w) && decide (w ≤ 20) && decide (0 ≤ r) && decide (r ≤ 5) && decide (0 ≤ t) && decide (t ≤ 9) && decide (0 ≤ g) && decide (g ≤ 9)
theorem stB_iff {w r t g : Int} : stB w r t g = true ↔ stOK w r t g := by
  unfold stB stOK; simp [and_assoc]
abbrev RwS : Type := (Nat → Int) × Nat × Nat × Nat
def rowF (T : Nat → Int) (t : Nat) : Nat → Nat → (Nat → Int) → Nat → Nat → Nat → RwS
  | 0, _, G, n, c, s => (G, n, c, s)
  | fuel + 1, k, G, n, c, s => if t ≤ k then (G, n, c, s) else if (decide (k + 4 ≤ t) && decide (n < 10) && stB (T k) (T (k + 1)) (T (k + 2)) (T (k + 3))) = true then rowF T t fuel (k + 4) (stG G n (T k) (T (k + 1)) (T (k + 2)) (T (k + 3))) (n + 1) (c + 1) s else rowF T t fuel (k + 4) G n c (s + 1)
section ROW
variable {sc : Nat × (Nat → Int)} {d : Nat} {sh : Shp} {sl : Nat} {h : Sto} {Q : Pst} {m : Nat} {L : List Law}
theorem lp_row {T : Nat → Int} {t : Nat} (X : Fix sh h) (ht : h 0 14 = (t : Int)) (ht4 : t ≤ 400) (hT : TapR (h 33) T t) (hm3 : m ≤ 3) (r : RwS) (hq : ∀ h', SR sh h' 1 r.1 r.2.1 m L → BR (h' 10) r.1 r.2.1 m → SW r.1 r.2.1 m L → BW r.1 r.2.1 m → Fr [2, 3, 4, 10] [(1, 0)] h h' → Q (0, (r.2.2.1 : Int)) sh sl (setH (setH (setH (setH h' 0 14 0) 0 15 (r.2.2.2 : Int)) 44 3 0) 0 16 0)) :
    ∀ (fuel k : Nat) (G : Nat → Int) (n c s : Nat) (h' : Sto) (K C Z : Int), K = k → C = c → Z = s → t ≤ k + 4 * fuel → k ≤ 404 → rowF T t fuel k G n c s = r → SR sh h' 1 G n m L → BR (h' 10) G n m → SW G n m L → BW G n m → Fr [2, 3, 4, 10] [(1, 0)] h h' → WF sc (d + 4) 51 20 [(2, 0), (0, C), (0, Z), (0, K)] [] sh sl h' Q := by
  have hend : ∀ (k : Nat) (h' : Sto), t ≤ k → k ≤ 404 → SR sh h' 1 r.1 r.2.1 m L → BR (h' 10) r.1 r.2.1 m → SW r.1 r.2.1 m L → BW r.1 r.2.1 m → Fr [2, 3, 4, 10] [(1, 0)] h h' → WF sc (d + 4) 51 20 [(2, 0), (0, (r.2.2.1 : Int)), (0, (r.2.2.2 : Int)), (0, (k : Int))] [] sh sl h' Q := by
    intro k h' hk hk4 S R W B F
    have X' : Fix sh h' := F.fix X (by decide +kernel)
    have X3 : Fix sh (setH (setH (setH h' 0 14 0) 0 15 (r.2.2.2 : Int)) 44 3 0) := ((X'.s (by decide +kernel)).s (by decide +kernel)).s (by decide +kernel)
    rw [B_51_20 X', F.at 0 14 rfl, ht, w32_id (a := (t : Int)) (by omega) (by omega), w32_id (a := (k : Int)) (by omega) (by omega), if_pos (by omega), sp_granted X3]
    simp only [pushR0]
    rw [B_51_74 (X3.s (by decide +kernel))]
    exact hq h' S R W B F
  intro fuel
  induction fuel with
  | zero =>
    intro k G n c s h' K C Z hK hC hZ hf hk4 hr S R W B F
    subst hK hC hZ
    simp only [rowF] at hr
    subst hr
    exact hend k h' (by omega) hk4 S R W B F
  | succ fuel ih =>
    intro k G n c s h' K C Z hK hC hZ hf hk4 hr S R W B F
    subst hK hC hZ
    have hn10 := W.1.2.1
    simp only [rowF] at hr
    by_cases h1 : t ≤ k
    · rw [if_pos h1] at hr
      subst hr
      exact hend k h' h1 hk4 S R W B F
    · rw [if_neg h1] at hr
      have X' : Fix sh h' := F.fix X (by decide +kernel)
      rw [B_51_20 X', F.at 0 14 rfl, ht, w32_id (a := (t : Int)) (by omega) (by omega), w32_id (a := (k : Int)) (by omega) (by omega), if_neg (by omega), B_52_0 X', F.at 0 14 rfl, ht, w32_id (a := (t : Int)) (by omega) (by omega), w32_id (a := (k : Int)) (by omega) (by omega), w32_nat (a := (k : Int) + 4) (n := k + 4) (by omega) (by omega), if_neg (by omega)]
      have hno : rowF T t fuel (k + 4) G n c (s + 1) = r → WF sc (d + 4) 51 33 [(2, 0), (0, (c : Int)), (0, (s : Int)), (0, (k : Int))] (pushR (0, 0) []) sh sl h' Q := by
        intro hr2
        simp only [pushR0]
        rw [B_51_33 X', w32_0, if_pos rfl]
        exact ih (k + 4) G n c (s + 1) h' _ _ _ (by simp) rfl (by simp) (by omega) (by omega) hr2 S R W B F
      by_cases h2 : k + 4 ≤ t
      · rw [if_neg (by omega), S.1.1, w32_id (a := (n : Int)) (by omega) (by omega)]
        by_cases h3 : n < 10
        · have q0 := hT k (by omega)
          have q1 := hT (k + 1) (by omega)
          have q2 := hT (k + 2) (by omega)
          have q3 := hT (k + 3) (by omega)
          have b0 : iand (h 33 k) 255 = T k := by rw [q0.2.2, iand255, b8_back ⟨q0.1, q0.2.1⟩]
          have b1 : iand (h 33 (k + 1)) 255 = T (k + 1) := by rw [q1.2.2, iand255, b8_back ⟨q1.1, q1.2.1⟩]
          have b2 : iand (h 33 (k + 2)) 255 = T (k + 2) := by rw [q2.2.2, iand255, b8_back ⟨q2.1, q2.2.1⟩]
          have b3 : iand (h 33 (k + 3)) 255 = T (k + 3) := by rw [q3.2.2, iand255, b8_back ⟨q3.1, q3.2.1⟩]
          rw [if_pos (by omega), w32_nat (a := (k : Int) + 1) (n := k + 1) (by omega) (by omega), w32_nat (a := (k : Int) + 2) (n := k + 2) (by omega) (by omega), w32_nat (a := (k : Int) + 3) (n := k + 3) (by omega) (by omega)]
          simp only [Int.toNat_natCast, F.row 33 rfl, b0, b1, b2, b3]
          refine ⟨⟨by omega, by omega⟩, ⟨by omega, by omega⟩, ⟨by omega, by omega⟩, ⟨by omega, by omega⟩, ?_⟩
          refine sp_canBe X' ⟨by omega, by omega⟩ ⟨by omega, by omega⟩ ⟨by omega, by omega⟩ ⟨by omega, by omega⟩ (fun hk => ?_) (fun hk => ?_)
          · simp only [pushR0]
            rw [B_52_89 X', w32_0, if_neg (by simp)]
            exact hno (by rw [if_neg (by simp [h2, h3]; rw [← Bool.not_eq_true, stB_iff]; exact hk)] at hr; exact hr)
          · simp only [pushR0]
            rw [B_52_89 X', show w32 1 = 1 from rfl, if_pos (by decide)]
            refine sp_addStamp (n := n) X' S.1.1 h3 (fun hz F2 e0 e2 e3 e4 e10 => ?_)
            have X2 : Fix sh hz := F2.fix X' (by decide +kernel)
            simp only [pushR0]
            rw [B_52_107 X2]
            simp only [pushR0]
            rw [B_51_33 X2, show w32 1 = 1 from rfl, if_neg (by decide)]
            rw [if_pos (by simp [h2, h3]; exact stB_iff.mpr hk)] at hr
            have hC := stG_C S R B h3 hm3 F2 e0 e2 e3 e4 e10
            exact ih (k + 4) _ (n + 1) (c + 1) s hz _ _ _ (by simp) (by simp) rfl (by omega) (by omega) hr hC.1 hC.2 (stG_W W h3 hk) (stG_B B h3 hm3 hk) (F.trans F2)
        · rw [if_neg (by omega)]
          exact hno (by rw [if_neg (by simp [h3])] at hr; exact hr)
      · rw [if_pos (by omega)]
        exact hno (by rw [if_neg (by simp [h2])] at hr; exact hr)
theorem lp_mrow {T : Nat → Int} {t : Nat} (X : Fix sh h) (hT4 : h 94 = T) (hT : ∀ i, i < t → 0 ≤ T i ∧ T i < 256) (ht4 : t ≤ 400) (r : RwS) (hq : ∀ h', h' 87 = r.1 → r.2.2.1 ≤ 404 → h' 85 11 = (r.2.2.2 : Int) → Fr [87] [(85, 11)] h h' → Q (0, (r.2.2.1 : Int)) sh sl (setH (setH h' 85 8 0) 85 1 0)) :
    ∀ (fuel k : Nat) (G : Nat → Int) (n c s : Nat) (h' : Sto) (K C : Int), K = k → C = c → h' 85 11 = (s : Int) → t ≤ k + 4 * fuel → k ≤ 404 → c ≤ k → rowF T t fuel k G n c s = r → h' 87 = G → G 0 = n → n ≤ 10 → Fr [87] [(85, 11)] h h' → WF sc (d + 4) 188 35 [(2, 85), (0, (t : Int)), (0, C), (0, K)] [] sh sl h' Q := by
  have hend : ∀ (k : Nat) (h' : Sto), t ≤ k → k ≤ 404 → h' 87 = r.1 → r.2.2.1 ≤ 404 → h' 85 11 = (r.2.2.2 : Int) → Fr [87] [(85, 11)] h h' → WF sc (d + 4) 188 35 [(2, 85), (0, (t : Int)), (0, (r.2.2.1 : Int)), (0, (k : Int))] [] sh sl h' Q := by
    intro k h' hk hk4 e1 e2 e3 F
    have X' : Fix sh h' := F.fix X (by decide +kernel)
    rw [B_188_35 X', w32_id (a := (t : Int)) (by omega) (by omega), w32_id (a := (k : Int)) (by omega) (by omega), if_pos (by omega), sp_settled X' (by omega), if_pos (by omega), mTellG (by omega)]
    simp only [pushR0]
    rw [B_188_111 ((X'.s (by decide +kernel)).s (by decide +kernel))]
    exact hq h' e1 e2 e3 F
  intro fuel
  induction fuel with
  | zero =>
    intro k G n c s h' K C hK hC hZ hf hk4 hck hr e87 en hn10 F
    subst hK hC
    simp only [rowF] at hr
    subst hr
    exact hend k h' (by omega) hk4 e87 (by show c ≤ 404; omega) hZ F
  | succ fuel ih =>
    intro k G n c s h' K C hK hC hZ hf hk4 hck hr e87 en hn10 F
    subst hK hC
    simp only [rowF] at hr
    by_cases h1 : t ≤ k
    · rw [if_pos h1] at hr
      subst hr
      exact hend k h' h1 hk4 e87 (by show c ≤ 404; omega) hZ F
    · rw [if_neg h1] at hr
      have X' : Fix sh h' := F.fix X (by decide +kernel)
      rw [B_188_35 X', w32_id (a := (t : Int)) (by omega) (by omega), w32_id (a := (k : Int)) (by omega) (by omega), if_neg (by omega), w32_nat (a := (k : Int) + 3) (n := k + 3) (by omega) (by omega)]
      have hno : ∀ h2, Fr [] [(85, 11)] h' h2 → h2 85 11 = (s : Int) + 1 → rowF T t fuel (k + 4) G n c (s + 1) = r → WF sc (d + 4) 188 35 [(2, 85), (0, (t : Int)), (0, (c : Int)), (0, (k : Int) + 4)] [] sh sl h2 Q := by
        intro h2 F2 e2 hr2
        exact ih (k + 4) G n c (s + 1) h2 _ _ (by simp) rfl (by rw [e2]; simp) (by omega) (by omega) (by omega) hr2 (by rw [F2.row 87 rfl]; exact e87) en hn10 (F.trans (F2.mono rfl))
      by_cases h2 : k + 4 ≤ t
      · rw [if_neg (by omega)]
        have q0 := hT k (by omega)
        have q1 := hT (k + 1) (by omega)
        have q2 := hT (k + 2) (by omega)
        have q3 := hT (k + 3) (by omega)
        rw [w32_nat (a := (k : Int) + 1) (n := k + 1) (by omega) (by omega), w32_nat (a := (k : Int) + 2) (n := k + 2) (by omega) (by omega)]
        simp only [Int.toNat_natCast, F.row 94 rfl, hT4]
        refine ⟨⟨by omega, by omega⟩, ⟨by omega, by omega⟩, ⟨by omega, by omega⟩, ⟨by omega, by omega⟩, ?_⟩
        refine sp_come (n := n) X' ⟨by omega, by omega⟩ ⟨by omega, by omega⟩ ⟨by omega, by omega⟩ ⟨by omega, by omega⟩ (by rw [e87]; exact en) hn10 (fun hk => ?_) (fun hk h10 => ?_) (fun hk h10 hz F2 e2 => ?_)
        · simp only [pushR0]
          rw [B_188_81 X', show w32 (-1) = -1 from rfl, if_pos (by decide)]
          refine hno _ ((Fr.refl h').set rfl) (by rw [setH_self, hZ]) ?_
          rw [if_neg (by simp [h2]; intro _; rw [← Bool.not_eq_true, stB_iff]; exact hk)] at hr; exact hr
        · simp only [pushR0]
          rw [B_188_81 X', show w32 (-5) = -5 from rfl, if_pos (by decide)]
          refine hno _ ((Fr.refl h').set rfl) (by rw [setH_self, hZ]) ?_
          rw [if_neg (by simp [h10])] at hr; exact hr
        · have X2 : Fix sh hz := F2.fix X' (by decide +kernel)
          simp only [pushR0]
          rw [B_188_81 X2, w32_id (a := (n : Int)) (by omega) (by omega), if_neg (by omega)]
          rw [if_pos (by simp [h2, h10]; exact stB_iff.mpr hk)] at hr
          exact ih (k + 4) _ (n + 1) (c + 1) s hz _ _ (by simp) (by simp) (by rw [F2.at 85 11 rfl]; exact hZ) (by omega) (by omega) (by omega) hr (by rw [e2, e87]) (by rw [stG_0]; simp) (by omega) (F.trans (F2.mono rfl))
      · rw [if_pos (by omega)]
        exact hno _ ((Fr.refl h').set rfl) (by rw [setH_self, hZ]) (by rw [if_neg (by simp [h2])] at hr; exact hr)
end ROW
theorem op_row : OpOK 51 188 0 [] := by
  intro sc d sh sl h I
  have X := I.fx
  obtain ⟨t, t1, t2, t3, t4⟩ := I.tape
  obtain ⟨n, m, L, ⟨S, R, W, B⟩, Hs⟩ := I.live
  have hm3 := W.1.2.2.2.1
  rw [B_51_0 X, t1, w32_id (a := (t : Int)) (by omega) (by omega)]
  by_cases ht : t = 0
  · rw [if_neg (by omega), sp_refT X (by omega)]
    have Xr : Fix sh (cTell h (-6)) := cTell_fr.fix X (by decide +kernel)
    have Xr2 : Fix sh (setH (setH (cTell h (-6)) 85 0 0) 85 13 0) := (Xr.s (by decide +kernel)).s (by decide +kernel)
    simp only [pushR0]
    rw [B_51_13 Xr, B_188_0 Xr, cTell_fr.at 85 13 rfl, t2, w32_id (a := (t : Int)) (by omega) (by omega), if_neg (by omega), sp_telT Xr2 (by omega)]
    simp only [pushR0]
    rw [B_188_25 (mTell_fr.fix Xr2 (by decide +kernel))]
    refine ⟨_, rfl, rfl, by omega, by omega, ?_⟩
    have e : setH (setH (cTell h (-6)) 85 0 0) 85 13 0 = setH (cTell h (-6)) 85 0 0 := by
      funext q k
      by_cases hq : q = 85 ∧ k = 13
      · obtain ⟨rfl, rfl⟩ := hq
        rw [setH_self, setH_k (by decide), cTell_fr.at 85 13 rfl, t2, ht]; rfl
      · exact setH_other (by omega)
    rw [e]
    exact I.ref (by omega)
  · rw [if_pos (by omega)]
    refine lp_row (T := h 94) (t := t) X t1 t3 t4 hm3 (rowF (h 94) t 101 0 (h 87) n 0 0) ?_ 101 0 (h 87) n 0 0 h _ _ _ rfl rfl rfl (by omega) (by omega) rfl S R W B (Fr.refl h)
    intro h1 S1 R1 W1 B1 F1
    generalize hr : rowF (h 94) t 101 0 (h 87) n 0 0 = r at *
    have X1 : Fix sh h1 := F1.fix X (by decide +kernel)
    generalize hh2 : setH (setH (setH (setH h1 0 14 0) 0 15 (r.2.2.2 : Int)) 44 3 0) 0 16 0 = h2
    have F2 : Fr [] [(0, 14), (0, 15), (44, 3), (0, 16)] h1 h2 := by rw [← hh2]; exact ((((Fr.refl h1).set rfl).set rfl).set rfl).set rfl
    have X2 : Fix sh h2 := F2.fix X1 (by decide +kernel)
    have F12 : Fr [2, 3, 4, 10] [(1, 0), (0, 14), (0, 15), (44, 3), (0, 16)] h h2 := (F1.mono rfl).trans (F2.mono rfl)
    rw [B_188_0 X2, F12.at 85 13 rfl, t2, w32_id (a := (t : Int)) (by omega) (by omega), if_pos (by omega)]
    have X3 : Fix sh (setH (setH (setH h2 85 0 0) 85 13 0) 85 11 0) := ((X2.s (by decide +kernel)).s (by decide +kernel)).s (by decide +kernel)
    have F3 : Fr [2, 3, 4, 10] [(1, 0), (0, 14), (0, 15), (44, 3), (0, 16), (85, 0), (85, 13), (85, 11)] h (setH (setH (setH h2 85 0 0) 85 13 0) 85 11 0) := (((F12.mono rfl).set rfl).set rfl).set rfl
    refine lp_mrow (T := h 94) (t := t) X3 (F3.row 94 rfl) (fun i hi => ⟨(t4 i hi).1, (t4 i hi).2.1⟩) t3 r ?_ 101 0 (h 87) n 0 0 _ _ _ rfl rfl (setH_self _ _ _ _) (by omega) (by omega) (by omega) hr (F3.row 87 rfl) W.1.1 W.1.2.1 (Fr.refl _)
    intro h4 e87 hc e11 F4
    refine ⟨_, rfl, rfl, by omega, by omega, ?_⟩
    have F : Fr [2, 3, 4, 10, 87] [(1, 0), (0, 14), (0, 15), (44, 3), (0, 16), (85, 0), (85, 13), (85, 11), (85, 8), (85, 1)] h (setH (setH h4 85 8 0) 85 1 0) := (((F3.mono rfl).trans (F4.mono rfl)).set rfl).set rfl
    have ec : ∀ q k, q ≠ 87 → q ≠ 85 → setH (setH h4 85 8 0) 85 1 0 q k = h2 q k := fun q k a b => by
      rw [setH_o b, setH_o b, F4 q k (by simp [a]) (by simp [b]), setH_o b, setH_o b, setH_o b]
    have er : ∀ q, q ≠ 87 → q ≠ 85 → q ≠ 0 → q ≠ 44 → setH (setH h4 85 8 0) 85 1 0 q = h1 q := fun q a b c d => by
      funext k
      rw [ec q k a b, F2 q k (by simp) (by simp [c, d])]
    have e3 : setH (setH h4 85 8 0) 85 1 0 87 = r.1 := by rw [setH_o (by decide), setH_o (by decide)]; exact e87
    refine I.upd F (by decide +kernel) (by decide +kernel) ⟨r.2.1, m, L, ?_, Hs.zero ?_ ?_ (F.at 44 2 rfl)⟩ ⟨0, ?_, ?_, by omega, fun i hi => by omega⟩ ⟨?_, ?_, ?_, ?_, ?_⟩ (by rw [F.at 85 20 rfl]; exact I.od)
    · unfold Live
      rw [e3, er 10 (by decide) (by decide) (by decide) (by decide)]
      exact ⟨S1.of (er 1 (by decide) (by decide) (by decide) (by decide)) (fun j h1 h2 => er _ (by omega) (by omega) (by omega) (by omega)) (fun q hq => er q (by omega) (by omega) (by omega) (by omega)), R1, W1, B1⟩
    · rw [setH_k (by decide), setH_self]
    · rw [ec 44 3 (by decide) (by decide), ← hh2]; simp (disch := omega) only [setH_o, setH_self]
    · rw [ec 0 14 (by decide) (by decide), ← hh2]; simp (disch := omega) only [setH_o, setH_k, setH_self]; rfl
    · rw [setH_k (by decide), setH_k (by decide), F4.at 85 13 rfl, setH_k (by decide), setH_self]; rfl
    · rw [ec 0 15 (by decide) (by decide), setH_k (by decide), setH_k (by decide), e11, ← hh2]; simp (disch := omega) only [setH_o, setH_k, setH_self]
    · rw [ec 0 16 (by decide) (by decide), setH_self, ← hh2, setH_self]
    · rw [F.row 84 rfl, F.row 86 rfl]; exact I.scal.2.2.1
    · rw [F.at 43 10 rfl, F.at 85 18 rfl]; exact I.scal.2.2.2.1
    · rw [F.at 52 10 rfl, F.at 85 58 rfl]; exact I.scal.2.2.2.2
