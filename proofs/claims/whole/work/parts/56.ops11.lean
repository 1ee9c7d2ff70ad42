theorem rkF_congr {op ar op2 ar2 : Nat → Int} {lk : Int → Int → Int} {W last : Nat} (e : ∀ k, k < last → op2 k = op k ∧ ar2 k = ar k) : ∀ (n k : Nat) (stk : List Int), rkF op2 ar2 lk W last n k stk = rkF op ar lk W last n k stk := by
  intro n
  induction n with
  | zero => intro k stk; rfl
  | succ n ih =>
    intro k stk
    simp only [rkF]
    by_cases hk : k < last
    · rw [(e k hk).1, (e k hk).2]; simp only [ih]
    · rw [if_pos (by simpa using hk), if_pos (by simpa using hk)]
theorem RgM.of2 {G G2 : Nat → Int} {z : Nat} {a b : Int} {ev : Ev} (H : RgM G z a b ev) (hz : z + 900 ≤ 5494) (e : ∀ i, i < 5494 → G2 i = G i) : RgM G2 z a b ev := by
  obtain ⟨i, j, h1, h2, h3, h4, h5, h6⟩ := H
  refine ⟨i, j, h1, h2, h3, h4, fun k hk => ?_, fun f hf => ?_⟩
  · rw [e _ (by omega), e _ (by omega)]; exact h5 k hk
  · rw [← h6 f hf]
    exact rkF_congr (fun k hk => ⟨e _ (by omega), e _ (by omega)⟩) _ _ _
theorem LawM.of2 {G G2 : Nat → Int} {z : Nat} {Lw : Law} (H : LawM G z Lw) (hL : Lw.length ≤ 12) (hz : z + 900 ≤ 5494) (e : ∀ i, i < 5494 → G2 i = G i) : LawM G2 z Lw := by
  refine ⟨by rw [e _ (by omega)]; exact H.1, fun i c hc => ?_⟩
  have hi := (List.getElem?_eq_some_iff.mp hc).1
  obtain ⟨h1, h2, h3⟩ := H.2 i c hc
  rw [e _ (by omega), e _ (by omega), e _ (by omega), e _ (by omega), e _ (by omega)]
  refine ⟨h1, ?_, ?_⟩
  · cases hc1 : c.2.1 with
    | none => rw [hc1] at h2; exact h2
    | some ev => rw [hc1] at h2; exact h2.of2 hz e
  · cases hc2 : c.2.2 with
    | none => trivial
    | some ev => rw [hc2] at h3; exact h3.of2 hz e
theorem SW.of2 {G G2 : Nat → Int} {n m : Nat} {L : List Law} (H : SW G n m L) (e : ∀ i, i < 5494 → G2 i = G i) : SW G2 n m L := by
  obtain ⟨h1, h2, h3, h4, h5⟩ := H
  refine ⟨?_, fun s hs => ?_, fun l hl => ?_, fun i hi => ?_, fun k Lw hk => ?_⟩
  · rw [e 0 (by omega), e 1 (by omega), e 2 (by omega), e 3 (by omega), e 4 (by omega), e 6 (by omega), e 7 (by omega)]; exact h1
  · rw [e _ (by omega), e _ (by omega), e _ (by omega)]; exact h2 s hs
  · rw [e _ (by omega)]; exact h3 l hl
  · rw [e 2 (by omega)] at hi
    rw [e _ (by omega), e _ (by omega)]; exact h4 i hi
  · have hk6 := (List.getElem?_eq_some_iff.mp hk).1
    exact ⟨(h5 k Lw hk).1.of2 (h5 k Lw hk).2.1 (by omega) e, (h5 k Lw hk).2⟩
/-- a state copied -/
theorem SR.copy {sh : Shp} {h h2 : Sto} {a b n m : Nat} {G G2 : Nat → Int} {L : List Law} (S : SR sh h b G n m L) (hn : n ≤ 10) (hm : m ≤ 3) (h26 : G 2 ≤ 6) (hL : L.length ≤ 6) (eG : ∀ i, i < 94 → G2 i = G i) (f1 : h2 a 0 = h b 0 ∧ h2 a 4 = h b 4 ∧ h2 a 6 = h b 6 ∧ h2 a 9 = h b 9 ∧ h2 a 10 = h b 10 ∧ h2 a 11 = h b 11 ∧ h2 a 13 = h b 13) (f2 : ∀ i, i < 10 → h2 (a + 1) i = h (b + 1) i ∧ h2 (a + 2) i = h (b + 2) i ∧ h2 (a + 3) i = h (b + 3) i) (f3 : ∀ i, i < 3 → h2 (a + 4) i = h (b + 4) i) (f4 : ∀ i, i < 6 → h2 (a + 5) i = h (b + 5) i ∧ h2 (a + 6) i = h (b + 6) i ∧ h2 (a + 7) i = h (b + 7) i) (hh : ∀ q, 120 ≤ q → h2 q = h q) : SR sh h2 a G2 n m L := by
  obtain ⟨s1, s2, s3, s4, s5⟩ := S
  obtain ⟨g1, g2, g3, g4, g5, g6, g7⟩ := f1
  refine ⟨?_, fun s hs => ?_, fun l hl => ?_, fun i hi => ?_, fun k Lw hk => ?_⟩
  · rw [g1, g2, g3, g4, g5, g6, g7, eG 2 (by omega), eG 4 (by omega), eG 6 (by omega), eG 7 (by omega)]; exact s1
  · rw [(f2 s (by omega)).1, (f2 s (by omega)).2.1, (f2 s (by omega)).2.2, eG _ (by omega), eG _ (by omega), eG _ (by omega)]; exact s2 s hs
  · rw [f3 l (by omega), eG _ (by omega)]; exact s3 l hl
  · rw [eG 2 (by omega)] at hi
    rw [(f4 i (by omega)).1, (f4 i (by omega)).2.1, eG _ (by omega), eG _ (by omega)]; exact s4 i hi
  · have hk6 := (List.getElem?_eq_some_iff.mp hk).1
    obtain ⟨p, h1, h2⟩ := s5 k Lw hk
    exact ⟨p, by rw [(f4 k (by omega)).2.2]; exact h1, h2.of hh⟩
section IMG
variable {sc : Nat × (Nat → Int)} {d : Nat} {sh : Shp} {sl : Nat} {h : Sto} {Q : Pst}
theorem lp_mimg {k : Nat} (X : Fix sh h) (hk : k ≤ 1) (hq : ∀ h', Fr [88] [] h h' → (∀ j, j < 5494 → h' 88 (5494 * k + j) = h 87 j) → (∀ j, (j < 5494 * k ∨ 5494 * k + 5494 ≤ j) → h' 88 j = h 88 j) → Q (0, 0) sh sl (setH (setH h' 89 k 1) 85 1 0)) : ∀ (rem i : Nat) (h' : Sto) (I : Int), i + rem = 5494 → I = i → Fr [88] [] h h' → (∀ j, j < i → h' 88 (5494 * k + j) = h 87 j) → (∀ j, (j < 5494 * k ∨ 5494 * k + 5494 ≤ j) → h' 88 j = h 88 j) → WF sc (d + 2) 161 23 [(2, 85), (0, (k : Int)), (0, I)] [] sh sl h' Q := by
  intro rem
  induction rem with
  | zero =>
    intro i h' I hi hI F e1 e2
    subst hI
    have : i = 5494 := by omega
    subst this
    have X' : Fix sh h' := F.fix X (by decide +kernel)
    have X2 : Fix sh (setH h' 89 k 1) := X'.a (by decide +kernel)
    rw [B_161_23 X', w32_id (a := ((5494 : Nat) : Int)) (by omega) (by omega), if_pos (by omega), w32_id (a := (k : Int)) (by omega) (by omega), Int.toNat_natCast, sp_telT X2 (by omega), mTell0]
    refine ⟨⟨by omega, by omega⟩, ?_⟩
    simp only [pushR0]
    rw [B_161_66 (X2.s (by decide +kernel))]
    exact hq h' F e1 e2
  | succ rem ih =>
    intro i h' I hi hI F e1 e2
    subst hI
    have X' : Fix sh h' := F.fix X (by decide +kernel)
    rw [B_161_23 X', w32_id (a := (i : Int)) (by omega) (by omega), if_neg (by omega), w32_nat (a := 5494 * (k : Int) + i) (n := 5494 * k + i) (by omega) (by omega), Int.toNat_natCast, Int.toNat_natCast]
    refine ⟨⟨by omega, by omega⟩, ⟨by omega, by omega⟩, ?_⟩
    refine ih (i + 1) _ _ (by omega) (by simp) (F.setP rfl) (fun j hj => ?_) (fun j hj => ?_)
    · by_cases e : j = i
      · subst e; rw [setH_self, F.row 87 rfl]
      · rw [setH_k (by omega)]; exact e1 j (by omega)
    · rw [setH_k (by omega)]; exact e2 j hj
theorem lp_mback {k : Nat} (X : Fix sh h) (hk : k ≤ 1) (hq : ∀ h', Fr [87] [] h h' → (∀ j, j < 5494 → h' 87 j = h 88 (5494 * k + j)) → Q (0, 0) sh sl (setH (setH h' 85 8 0) 85 1 0)) : ∀ (rem i : Nat) (h' : Sto) (I : Int), i + rem = 5494 → I = i → Fr [87] [] h h' → (∀ j, j < i → h' 87 j = h 88 (5494 * k + j)) → WF sc (d + 2) 163 39 [(2, 85), (0, (k : Int)), (0, I)] [] sh sl h' Q := by
  intro rem
  induction rem with
  | zero =>
    intro i h' I hi hI F e1
    subst hI
    have : i = 5494 := by omega
    subst this
    have X' : Fix sh h' := F.fix X (by decide +kernel)
    rw [B_163_39 X', w32_id (a := ((5494 : Nat) : Int)) (by omega) (by omega), if_pos (by omega), sp_settled X' (by omega), if_pos (by omega), mTell0]
    simp only [pushR0]
    rw [B_163_75 ((X'.s (by decide +kernel)).s (by decide +kernel))]
    exact hq h' F e1
  | succ rem ih =>
    intro i h' I hi hI F e1
    subst hI
    have X' : Fix sh h' := F.fix X (by decide +kernel)
    rw [B_163_39 X', w32_id (a := (i : Int)) (by omega) (by omega), if_neg (by omega), w32_nat (a := 5494 * (k : Int) + i) (n := 5494 * k + i) (by omega) (by omega), Int.toNat_natCast, Int.toNat_natCast]
    refine ⟨⟨by omega, by omega⟩, ⟨by omega, by omega⟩, ?_⟩
    refine ih (i + 1) _ _ (by omega) (by simp) (F.setP rfl) (fun j hj => ?_)
    by_cases e : j = i
    · subst e; rw [setH_self, F.row 88 rfl]
    · rw [setH_k (by omega)]; exact e1 j (by omega)
theorem sp_isImage {x : Int} (X : Fix sh h) (hx : I32 x) : WM sc (d + 1) 152 [(0, x)] sh sl h Q ↔ Q (0, if 0 ≤ x ∧ x ≤ 1 then 1 else 0) sh sl h := by
  rw [B_152_0 X, hx.w]
  by_cases h0 : x < 0
  · rw [if_pos h0, if_neg (by omega)]
  · rw [if_neg h0]
    by_cases h1 : 2 ≤ x
    · rw [if_pos h1, if_neg (by omega)]
    · rw [if_neg h1, if_pos (by omega)]
end IMG
theorem im_bad {x : Int} {y1 y2 : Nat} (hx : I32 x) (hb : ¬ (0 ≤ x ∧ x ≤ 1)) (hy : (y1 = 151 ∧ y2 = 161) ∨ (y1 = 154 ∧ y2 = 163)) : OpOK y1 y2 0 [(0, x)] := by
  intro sc d sh sl h I
  have X := I.fx
  have Xr : Fix sh (cTell h (-1)) := cTell_fr.fix X (by decide +kernel)
  have Xr2 : Fix sh (setH (cTell h (-1)) 85 0 0) := Xr.s (by decide +kernel)
  rcases hy with ⟨rfl, rfl⟩ | ⟨rfl, rfl⟩
  · rw [B_151_0 X, sp_isImage X hx, if_neg hb]
    simp only [pushR0]
    rw [B_151_4 X, w32_0, if_neg (by simp), sp_refT X (by omega)]
    simp only [pushR0]
    rw [B_151_12 Xr, B_161_0 Xr, hx.w, sp_in hx.l ⟨by decide, by decide⟩ ⟨by decide, by decide⟩, if_neg hb]
    simp only [pushR0]
    rw [B_161_12 Xr2, w32_0, if_neg (by simp), sp_telT Xr2 (by omega)]
    simp only [pushR0]
    rw [B_161_20 (mTell_fr.fix Xr2 (by decide +kernel))]
    exact ⟨_, rfl, rfl, by omega, by omega, I.ref (by omega)⟩
  · rw [B_154_0 X, sp_isImage X hx, if_neg hb]
    simp only [pushR0]
    rw [B_154_4 X, w32_0, if_neg (by simp), sp_refT X (by omega)]
    simp only [pushR0]
    rw [B_154_12 Xr, B_163_0 Xr, hx.w, sp_in hx.l ⟨by decide, by decide⟩ ⟨by decide, by decide⟩, if_neg hb]
    simp only [pushR0]
    rw [B_163_12 Xr2, w32_0, if_neg (by simp), sp_telT Xr2 (by omega)]
    simp only [pushR0]
    rw [B_163_20 (mTell_fr.fix Xr2 (by decide +kernel))]
    exact ⟨_, rfl, rfl, by omega, by omega, I.ref (by omega)⟩
theorem op_image_0 : OpOK 151 161 0 [(0, 0)] := by
  intro sc d sh sl h I
  have X := I.fx
  have hx : I32 0 := ⟨by decide, by decide⟩
  obtain ⟨n, m, L, ⟨S, R, W, B⟩, Hs⟩ := I.live
  have hI := I
  obtain ⟨-, -, i0, i1, rg, -, -, -⟩ := hI
  have lt8 : LT1 sh (h 8) := i0.2.2.2.1
  rw [B_151_0 X, sp_isImage X hx, if_pos ⟨by decide, by decide⟩]
  simp only [pushR0]
  rw [B_151_4 X]
  simp only [show w32 1 = 1 from rfl, show w32 0 = 0 from rfl]
  rw [if_pos (by decide), toNatL, ff_11_0 X]
  refine ⟨⟨by decide, by decide⟩, fs_12 X, ?_⟩
  refine sp_cps_12_1 X lt8 (fun h1 F1 g1 g2 g3 g4 g5 => ?_)
  have X1 : Fix sh h1 := F1.fix X (by decide +kernel)
  have X2 : Fix sh (setH h1 32 0 1) := X1.a (by decide +kernel)
  have X3 : Fix sh (setH (setH h1 32 0 1) 0 16 0) := X2.s (by decide +kernel)
  have X4 : Fix sh (setH (setH (setH h1 32 0 1) 0 16 0) 85 0 0) := X3.s (by decide +kernel)
  simp only [pushR9]
  rw [B_151_26 X1, show w32 0 = 0 from rfl, toNatL, sp_granted X2]
  refine ⟨⟨by decide, by decide⟩, ?_⟩
  simp only [pushR0]
  rw [B_151_38 X3, B_161_0 X3, hx.w, sp_in hx.l ⟨by decide, by decide⟩ ⟨by decide, by decide⟩, if_pos ⟨by decide, by decide⟩]
  simp only [pushR0]
  rw [B_161_12 X4, show w32 1 = 1 from rfl, if_pos (by decide)]
  refine lp_mimg (k := 0) X4 (by decide) (fun h5 F5 e1 e2 => ?_) 5494 0 _ _ (by omega) rfl (Fr.refl _) (fun j hj => by omega) (fun _ _ => rfl)
  refine ⟨_, rfl, rfl, by omega, by omega, ?_⟩
  have F4 : Fr [13, 14, 15, 16, 17, 18, 19, 21] [(12, 0), (12, 4), (12, 6), (12, 9), (12, 10), (12, 11), (12, 13), (32, 0), (0, 16), (85, 0)] h (setH (setH (setH h1 32 0 1) 0 16 0) 85 0 0) := (((F1.mono rfl).set rfl).set rfl).set rfl
  have F : Fr [13, 14, 15, 16, 17, 18, 19, 21, 88] [(12, 0), (12, 4), (12, 6), (12, 9), (12, 10), (12, 11), (12, 13), (32, 0), (0, 16), (85, 0), (89, 0), (85, 1)] h (setH (setH h5 89 0 1) 85 1 0) := (((F4.mono rfl).trans (F5.mono rfl)).set rfl).set rfl
  have ec : ∀ q k, q ≠ 88 → q ≠ 89 → q ≠ 85 → q ≠ 0 → q ≠ 32 → setH (setH h5 89 0 1) 85 1 0 q k = h1 q k := fun q k b1 b2 b3 b4 b5 => by
    rw [setH_o b3, setH_o b2, F5 q k (by simp [b1]) (by simp), setH_o b3, setH_o b4, setH_o b5]
  have e88 : ∀ j, j < 5494 → setH (setH h5 89 0 1) 85 1 0 88 (5494 * 0 + j) = h 87 j := fun j hj => by
    rw [setH_o (by decide), setH_o (by decide), e1 j hj, F4.row 87 rfl]
  have e88o : ∀ j, (j < 5494 * 0 ∨ 5494 * 0 + 5494 ≤ j) → setH (setH h5 89 0 1) 85 1 0 88 j = h 88 j := fun j hj => by
    rw [setH_o (by decide), setH_o (by decide), e2 j hj, F4.row 88 rfl]
  have h120 : ∀ q, 120 ≤ q → setH (setH h5 89 0 1) 85 1 0 q = h q := (F.cg (R := []) (C := []) (by decide +kernel)).2.2
  refine ⟨F.fix X (by decide +kernel), ⟨n, m, L, Live.cg ⟨S, R, W, B⟩ (F.cg (by decide +kernel)), Hs.cg (F.cg (by decide +kernel))⟩, ?_, ?_, rg.cg (F.cg (by decide +kernel)), I.tape.cg (F.cg (by decide +kernel)), ?_, by rw [F.at 85 20 rfl]; exact I.od⟩
  · refine ⟨Or.inr ?_, ?_, fun _ => ⟨n, m, L, ?_, ?_, ?_, ?_⟩, ?_, ?_⟩
    · rw [setH_o (by decide), setH_self]
    · rw [setH_o (by decide), setH_o (by decide), F5.row 32 rfl, setH_o (by decide), setH_o (by decide), setH_self, setH_o (by decide), setH_self]
    · refine S.copy (a := 12) W.1.2.1 W.1.2.2.2.1 W.1.2.2.2.2.1.2 W.1.2.2.2.2.2.2.1 (fun i hi => e88 i (by omega)) ?_ (fun i hi => ?_) (fun i hi => ?_) (fun i hi => ?_) h120
      · simp only [ec 12 _ (by decide) (by decide) (by decide) (by decide) (by decide)]; exact g1
      · simp only [ec (12 + 1) _ (by decide) (by decide) (by decide) (by decide) (by decide), ec (12 + 2) _ (by decide) (by decide) (by decide) (by decide) (by decide), ec (12 + 3) _ (by decide) (by decide) (by decide) (by decide) (by decide)]; exact g2 i hi
      · rw [ec (12 + 4) _ (by decide) (by decide) (by decide) (by decide) (by decide)]; exact g3 i hi
      · rw [ec (12 + 5) _ (by decide) (by decide) (by decide) (by decide) (by decide), ec (12 + 6) _ (by decide) (by decide) (by decide) (by decide) (by decide), ec (12 + 7) _ (by decide) (by decide) (by decide) (by decide) (by decide)]; exact g4 i hi
    · refine R.of B W.1.2.1 W.1.2.2.2.1 (fun i hi => ?_) (fun i _ hi => e88 i (by omega))
      show setH (setH h5 89 0 1) 85 1 0 21 i = _
      rw [ec 21 _ (by decide) (by decide) (by decide) (by decide) (by decide)]; exact g5 i hi
    · exact W.of2 (fun i hi => e88 i hi)
    · exact B.of W.1.2.1 W.1.2.2.2.1 (fun i _ hi => e88 i (by omega))
    · rw [F.row 8 rfl]; exact lt8
    · intro j hj
      show setH (setH h5 89 0 1) 85 1 0 19 j = -1 ∨ shAt sh (setH (setH h5 89 0 1) 85 1 0 19 j) = some (0, 9)
      rw [ec 19 _ (by decide) (by decide) (by decide) (by decide) (by decide), (g4 j hj).2.2]; exact lt8 j hj
  · obtain ⟨a1, a2, a3, a4, a5⟩ := i1
    refine ⟨by rw [F.at 89 1 rfl]; exact a1, by rw [F.at 89 1 rfl, F.at 32 1 rfl]; exact a2, fun hh => ?_, by rw [F.row 8 rfl]; exact a4, by rw [F.row (19 + 10 * 1) rfl]; exact a5⟩
    rw [F.at 89 1 rfl] at hh
    obtain ⟨n2, m2, L2, c1, c2, c3, c4⟩ := a3 hh
    have eo : (fun i => setH (setH h5 89 0 1) 85 1 0 88 (5494 * 1 + i)) = (fun i => if i < 5494 then h 88 (5494 * 1 + i) else setH (setH h5 89 0 1) 85 1 0 88 (5494 * 1 + i)) := by
      funext i
      split
      · exact e88o _ (by omega)
      · rfl
    rw [eo, F.row (21 + 10 * 1) rfl]
    have eq : ∀ i, i < 5494 → (fun i => if i < 5494 then h 88 (5494 * 1 + i) else setH (setH h5 89 0 1) 85 1 0 88 (5494 * 1 + i)) i = h 88 (5494 * 1 + i) := fun i hi => if_pos hi
    refine ⟨n2, m2, L2, ?_, c2.of c4 c3.1.2.1 c3.1.2.2.2.1 (fun _ _ => rfl) (fun i _ hi => eq i (by omega)), c3.of2 eq, c4.of c3.1.2.1 c3.1.2.2.2.1 (fun i _ hi => eq i (by omega))⟩
    have c1' := c1.of (h2 := setH (setH h5 89 0 1) 85 1 0) (F.row (12 + 10 * 1) rfl) (fun j h1 h2 => ?_) h120
    · exact c1'.copy c3.1.2.1 c3.1.2.2.2.1 c3.1.2.2.2.2.1.2 c3.1.2.2.2.2.2.2.1 (fun i hi => eq i (by omega)) ⟨rfl, rfl, rfl, rfl, rfl, rfl, rfl⟩ (fun _ _ => ⟨rfl, rfl, rfl⟩) (fun _ _ => rfl) (fun _ _ => ⟨rfl, rfl, rfl⟩) (fun _ _ => rfl)
    · rcases (show j = 1 ∨ j = 2 ∨ j = 3 ∨ j = 4 ∨ j = 5 ∨ j = 6 ∨ j = 7 by omega) with rfl | rfl | rfl | rfl | rfl | rfl | rfl <;> exact F.row _ rfl
  · obtain ⟨s1, s2, s3, s4, s5⟩ := I.scal
    refine ⟨by rw [F.at 0 15 rfl, F.at 85 11 rfl]; exact s1, ?_, by rw [F.row 84 rfl, F.row 86 rfl]; exact s3, by rw [F.at 43 10 rfl, F.at 85 18 rfl]; exact s4, by rw [F.at 52 10 rfl, F.at 85 58 rfl]; exact s5⟩
    rw [setH_self, setH_o (by decide), setH_o (by decide), F5.at 0 16 rfl, setH_o (by decide), setH_self]
theorem op_image_1 : OpOK 151 161 0 [(0, 1)] := by
  intro sc d sh sl h I
  have X := I.fx
  have hx : I32 1 := ⟨by decide, by decide⟩
  obtain ⟨n, m, L, ⟨S, R, W, B⟩, Hs⟩ := I.live
  have hI := I
  obtain ⟨-, -, i0, i1, rg, -, -, -⟩ := hI
  have lt8 : LT1 sh (h 8) := i0.2.2.2.1
  rw [B_151_0 X, sp_isImage X hx, if_pos ⟨by decide, by decide⟩]
  simp only [pushR0]
  rw [B_151_4 X]
  simp only [show w32 1 = 1 from rfl, show w32 0 = 0 from rfl]
  rw [if_pos (by decide), toNatL, ff_11_1 X]
  refine ⟨⟨by decide, by decide⟩, fs_22 X, ?_⟩
  refine sp_cps_22_1 X lt8 (fun h1 F1 g1 g2 g3 g4 g5 => ?_)
  have X1 : Fix sh h1 := F1.fix X (by decide +kernel)
  have X2 : Fix sh (setH h1 32 1 1) := X1.a (by decide +kernel)
  have X3 : Fix sh (setH (setH h1 32 1 1) 0 16 0) := X2.s (by decide +kernel)
  have X4 : Fix sh (setH (setH (setH h1 32 1 1) 0 16 0) 85 0 0) := X3.s (by decide +kernel)
  simp only [pushR9]
  rw [B_151_26 X1, show w32 1 = 1 from rfl, toNatL, sp_granted X2]
  refine ⟨⟨by decide, by decide⟩, ?_⟩
  simp only [pushR0]
  rw [B_151_38 X3, B_161_0 X3, hx.w, sp_in hx.l ⟨by decide, by decide⟩ ⟨by decide, by decide⟩, if_pos ⟨by decide, by decide⟩]
  simp only [pushR0]
  rw [B_161_12 X4, show w32 1 = 1 from rfl, if_pos (by decide)]
  refine lp_mimg (k := 1) X4 (by decide) (fun h5 F5 e1 e2 => ?_) 5494 0 _ _ (by omega) rfl (Fr.refl _) (fun j hj => by omega) (fun _ _ => rfl)
  refine ⟨_, rfl, rfl, by omega, by omega, ?_⟩
  have F4 : Fr [23, 24, 25, 26, 27, 28, 29, 31] [(22, 0), (22, 4), (22, 6), (22, 9), (22, 10), (22, 11), (22, 13), (32, 1), (0, 16), (85, 0)] h (setH (setH (setH h1 32 1 1) 0 16 0) 85 0 0) := (((F1.mono rfl).set rfl).set rfl).set rfl
  have F : Fr [23, 24, 25, 26, 27, 28, 29, 31, 88] [(22, 0), (22, 4), (22, 6), (22, 9), (22, 10), (22, 11), (22, 13), (32, 1), (0, 16), (85, 0), (89, 1), (85, 1)] h (setH (setH h5 89 1 1) 85 1 0) := (((F4.mono rfl).trans (F5.mono rfl)).set rfl).set rfl
  have ec : ∀ q k, q ≠ 88 → q ≠ 89 → q ≠ 85 → q ≠ 0 → q ≠ 32 → setH (setH h5 89 1 1) 85 1 0 q k = h1 q k := fun q k b1 b2 b3 b4 b5 => by
    rw [setH_o b3, setH_o b2, F5 q k (by simp [b1]) (by simp), setH_o b3, setH_o b4, setH_o b5]
  have e88 : ∀ j, j < 5494 → setH (setH h5 89 1 1) 85 1 0 88 (5494 * 1 + j) = h 87 j := fun j hj => by
    rw [setH_o (by decide), setH_o (by decide), e1 j hj, F4.row 87 rfl]
  have e88o : ∀ j, (j < 5494 * 1 ∨ 5494 * 1 + 5494 ≤ j) → setH (setH h5 89 1 1) 85 1 0 88 j = h 88 j := fun j hj => by
    rw [setH_o (by decide), setH_o (by decide), e2 j hj, F4.row 88 rfl]
  have h120 : ∀ q, 120 ≤ q → setH (setH h5 89 1 1) 85 1 0 q = h q := (F.cg (R := []) (C := []) (by decide +kernel)).2.2
  refine ⟨F.fix X (by decide +kernel), ⟨n, m, L, Live.cg ⟨S, R, W, B⟩ (F.cg (by decide +kernel)), Hs.cg (F.cg (by decide +kernel))⟩, ?_, ?_, rg.cg (F.cg (by decide +kernel)), I.tape.cg (F.cg (by decide +kernel)), ?_, by rw [F.at 85 20 rfl]; exact I.od⟩
  · obtain ⟨a1, a2, a3, a4, a5⟩ := i0
    refine ⟨by rw [F.at 89 0 rfl]; exact a1, by rw [F.at 89 0 rfl, F.at 32 0 rfl]; exact a2, fun hh => ?_, by rw [F.row 8 rfl]; exact a4, by rw [F.row (19 + 10 * 0) rfl]; exact a5⟩
    rw [F.at 89 0 rfl] at hh
    obtain ⟨n2, m2, L2, c1, c2, c3, c4⟩ := a3 hh
    have eo : (fun i => setH (setH h5 89 1 1) 85 1 0 88 (5494 * 0 + i)) = (fun i => if i < 5494 then h 88 (5494 * 0 + i) else setH (setH h5 89 1 1) 85 1 0 88 (5494 * 0 + i)) := by
      funext i
      split
      · exact e88o _ (by omega)
      · rfl
    rw [eo, F.row (21 + 10 * 0) rfl]
    have eq : ∀ i, i < 5494 → (fun i => if i < 5494 then h 88 (5494 * 0 + i) else setH (setH h5 89 1 1) 85 1 0 88 (5494 * 0 + i)) i = h 88 (5494 * 0 + i) := fun i hi => if_pos hi
    refine ⟨n2, m2, L2, ?_, c2.of c4 c3.1.2.1 c3.1.2.2.2.1 (fun _ _ => rfl) (fun i _ hi => eq i (by omega)), c3.of2 eq, c4.of c3.1.2.1 c3.1.2.2.2.1 (fun i _ hi => eq i (by omega))⟩
    have c1' := c1.of (h2 := setH (setH h5 89 1 1) 85 1 0) (F.row (12 + 10 * 0) rfl) (fun j h1 h2 => ?_) h120
    · exact c1'.copy c3.1.2.1 c3.1.2.2.2.1 c3.1.2.2.2.2.1.2 c3.1.2.2.2.2.2.2.1 (fun i hi => eq i (by omega)) ⟨rfl, rfl, rfl, rfl, rfl, rfl, rfl⟩ (fun _ _ => ⟨rfl, rfl, rfl⟩) (fun _ _ => rfl) (fun _ _ => ⟨rfl, rfl, rfl⟩) (fun _ _ => rfl)
    · rcases (show j = 1 ∨ j = 2 ∨ j = 3 ∨ j = 4 ∨ j = 5 ∨ j = 6 ∨ j = 7 by omega) with rfl | rfl | rfl | rfl | rfl | rfl | rfl <;> exact F.row _ rfl
  · refine ⟨Or.inr ?_, ?_, fun _ => ⟨n, m, L, ?_, ?_, ?_, ?_⟩, ?_, ?_⟩
    · rw [setH_o (by decide), setH_self]
    · rw [setH_o (by decide), setH_o (by decide), F5.row 32 rfl, setH_o (by decide), setH_o (by decide), setH_self, setH_o (by decide), setH_self]
    · refine S.copy (a := 22) W.1.2.1 W.1.2.2.2.1 W.1.2.2.2.2.1.2 W.1.2.2.2.2.2.2.1 (fun i hi => e88 i (by omega)) ?_ (fun i hi => ?_) (fun i hi => ?_) (fun i hi => ?_) h120
      · simp only [ec 22 _ (by decide) (by decide) (by decide) (by decide) (by decide)]; exact g1
      · simp only [ec (22 + 1) _ (by decide) (by decide) (by decide) (by decide) (by decide), ec (22 + 2) _ (by decide) (by decide) (by decide) (by decide) (by decide), ec (22 + 3) _ (by decide) (by decide) (by decide) (by decide) (by decide)]; exact g2 i hi
      · rw [ec (22 + 4) _ (by decide) (by decide) (by decide) (by decide) (by decide)]; exact g3 i hi
      · rw [ec (22 + 5) _ (by decide) (by decide) (by decide) (by decide) (by decide), ec (22 + 6) _ (by decide) (by decide) (by decide) (by decide) (by decide), ec (22 + 7) _ (by decide) (by decide) (by decide) (by decide) (by decide)]; exact g4 i hi
    · refine R.of B W.1.2.1 W.1.2.2.2.1 (fun i hi => ?_) (fun i _ hi => e88 i (by omega))
      show setH (setH h5 89 1 1) 85 1 0 31 i = _
      rw [ec 31 _ (by decide) (by decide) (by decide) (by decide) (by decide)]; exact g5 i hi
    · exact W.of2 (fun i hi => e88 i hi)
    · exact B.of W.1.2.1 W.1.2.2.2.1 (fun i _ hi => e88 i (by omega))
    · rw [F.row 8 rfl]; exact lt8
    · intro j hj
      show setH (setH h5 89 1 1) 85 1 0 29 j = -1 ∨ shAt sh (setH (setH h5 89 1 1) 85 1 0 29 j) = some (0, 9)
      rw [ec 29 _ (by decide) (by decide) (by decide) (by decide) (by decide), (g4 j hj).2.2]; exact lt8 j hj
  · obtain ⟨s1, s2, s3, s4, s5⟩ := I.scal
    refine ⟨by rw [F.at 0 15 rfl, F.at 85 11 rfl]; exact s1, ?_, by rw [F.row 84 rfl, F.row 86 rfl]; exact s3, by rw [F.at 43 10 rfl, F.at 85 18 rfl]; exact s4, by rw [F.at 52 10 rfl, F.at 85 58 rfl]; exact s5⟩
    rw [setH_self, setH_o (by decide), setH_o (by decide), F5.at 0 16 rfl, setH_o (by decide), setH_self]
theorem op_image {x : Int} (hx : I32 x) : OpOK 151 161 0 [(0, x)] := by
  by_cases h : 0 ≤ x ∧ x ≤ 1
  · rcases (show x = 0 ∨ x = 1 by omega) with e | e
    · subst e; exact op_image_0
    · subst e; exact op_image_1
  · exact im_bad hx h (Or.inl ⟨rfl, rfl⟩)
