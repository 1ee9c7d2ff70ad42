section MOVER2
variable {sc : Nat × (Nat → Int)} {d : Nat} {sh : Shp} {sl : Nat} {h : Sto} {Q : Pst} {G : Nat → Int} {n m : Nat} {L : List Law}
theorem lp_canHome_a {l : Nat} {x2 : Int} (X : Fix sh h) (R : BR (h 10) G n m) (B : BW G n m) (hn10 : n ≤ 10) (hm3 : m ≤ 3) (hl : l < m) (hq : ∀ h', Fr [10] [] h h' → (∀ i, (∀ j, j < (G (31 + l)).toNat → i ≠ 11 + spA G l j) → h' 10 i = h 10 i) → (∀ j, j < (G (31 + l)).toNat → h' 10 (11 + spA G l j) = -2) → WM sc (d + 2) 34 [(2, 9), (0, (l : Int)), (0, 0)] sh sl h' (fun r sh1 sl1 h1 => WF sc (d + 3) 93 108 [(2, 50), (0, (l : Int)), (0, x2), (0, (((G (31 + l)).toNat : Nat) : Int))] (pushR r []) sh1 sl1 h1 Q)) : ∀ (rem k : Nat) (h' : Sto) (K : Int), k + rem = (G (31 + l)).toNat → K = k → Fr [10] [] h h' → (∀ i, (∀ j, j < k → i ≠ 11 + spA G l j) → h' 10 i = h 10 i) → (∀ j, j < k → h' 10 (11 + spA G l j) = -2) → WF sc (d + 3) 93 63 [(2, 50), (0, (l : Int)), (0, x2), (0, K)] [] sh sl h' Q := by
  have bl := B.2.2.1 l hl
  have hsp : ∀ j, j < (G (31 + l)).toNat → spA G l j < n := fun j hj => (B.sp hl (by omega)).2.1
  intro rem
  induction rem with
  | zero =>
    intro k h' K hk hK F e1 e2
    subst hK
    have X' : Fix sh h' := F.fix X (by decide +kernel)
    rw [B_93_63a X']
    refine (bn_sizeOf (b := 9) (c := 10) X'.bd (show l < 3 by omega)).mpr ?_
    simp only [pushR0]
    rw [B_93_72a X', e1 (21 + l) (fun j hj => by have := hsp j (by omega); omega), (R.2.2.1 l hl).1, w32_id (a := G (31 + l)) (by omega) (by omega), w32_id (a := (k : Int)) (by omega) (by omega), if_pos (by omega)]
    have ek : k = (G (31 + l)).toNat := by omega
    subst ek
    exact hq h' F e1 e2
  | succ rem ih =>
    intro k h' K hk hK F e1 e2
    subst hK
    have X' : Fix sh h' := F.fix X (by decide +kernel)
    have sp := B.sp (i := k) hl (by omega)
    rw [B_93_63a X']
    refine (bn_sizeOf (b := 9) (c := 10) X'.bd (show l < 3 by omega)).mpr ?_
    simp only [pushR0]
    rw [B_93_72a X', e1 (21 + l) (fun j hj => by have := hsp j (by omega); omega), (R.2.2.1 l hl).1, w32_id (a := G (31 + l)) (by omega) (by omega), w32_id (a := (k : Int)) (by omega) (by omega), if_neg (by omega)]
    refine (bn_stampAt (b := 9) (c := 10) X'.bd (show l < 3 by omega) (show k < 5 by omega)).mpr ?_
    simp only [pushR0]
    rw [B_93_88a X', e1 (24 + 5 * l + k) (fun j hj => by have := hsp j (by omega); omega), R.2.2.2 l k hl (by omega), sp.1]
    refine (bn_setHome (b := 9) (c := 10) X'.bd (show spA G l k < 10 by omega)).mpr ?_
    simp only [pushR9]
    rw [B_93_93a (X'.a (by decide +kernel))]
    refine ih (k + 1) _ _ (by omega) (by simp) (F.setP rfl) (fun i hi => ?_) (fun j hj => ?_)
    · rw [setH_k (hi k (by omega))]; exact e1 i (fun j hj => hi j (by omega))
    · by_cases e : spA G l j = spA G l k
      · rw [e, setH_self]
      · rw [setH_k (by omega)]
        exact e2 j (by
          rcases Nat.lt_or_ge j k with q | q
          · exact q
          · exact absurd (by rw [show j = k by omega]) e)
theorem sp_cancelAll_a {y : Int} (hy : I32 y) (C : CJ sh h G n m L 10) (hq : ∀ h', Fr [10, 48, 49, 81, 82] [] h h' → BR (h' 10) (cancelA G L m y).2 n m → Q (0, (cancelA G L m y).1) sh sl h') : WM sc (d + 6) 93 [(2, 50), (0, y)] sh sl h Q := by
  have hC := C
  obtain ⟨X, S, R, W, B⟩ := C
  have hn10 := W.1.2.1
  have hm3 := W.1.2.2.2.1
  have hno : ¬ (0 ≤ y ∧ y < m) → Q (0, -2) sh sl h := fun hc => by
    have := hq h (Fr.refl h)
    unfold cancelA at this
    rw [if_neg hc] at this
    exact this R
  rw [B_93_0a X, hy.w, S.1.2.1, w32_id (a := (m : Int)) (by omega) (by omega)]
  by_cases c3 : y < 0
  · rw [if_pos c3]; exact hno (by omega)
  rw [if_neg c3]
  by_cases c4 : y < m
  case neg => rw [if_neg c4]; exact hno (by omega)
  rw [if_pos c4]
  obtain ⟨l, rfl⟩ : ∃ l : Nat, y = l := ⟨y.toNat, by omega⟩
  have hl : l < m := by omega
  have bl := B.2.2.1 l hl
  have hca : cancelA G L m (l : Int) = if canCan G L l = true then (quOnA G L l, canG G L l) else (-3, G) := by
    unfold cancelA; rw [if_pos (by omega), Int.toNat_natCast]
  rw [hca] at hq
  have hno3 : canCan G L l = false → ∀ h1, Fr JP [] h h1 → Q (0, -3) sh sl h1 := fun hf h1 F1 => by
    have := hq h1 (F1.mono rfl)
    rw [hf] at this
    exact this (by rw [F1.row 10 rfl]; exact R)
  refine (bn_sizeOf (b := 9) (c := 10) X.bd (show l < 3 by omega)).mpr ?_
  simp only [pushR0]
  rw [B_93_26a X, (R.2.2.1 l hl).1, w32_id (a := G (31 + l)) (by omega) (by omega)]
  by_cases c5 : G (31 + l) = 0
  · rw [if_pos c5]; exact hno3 (by unfold canCan; simp [c5]) h (Fr.refl h)
  rw [if_neg c5]
  refine sp_paid JQa hC hl (fun h1 F1 => ?_)
  have X1 : Fix sh h1 := F1.fix X (by decide +kernel)
  have pb := paidA_bd W B hl
  have fe := W.2.2.1 l hl
  simp only [pushR0]
  rw [B_93_37a X1, w32_id (a := (l : Int)) (by omega) (by omega), Int.toNat_natCast, F1.row 5 rfl, S.2.2.1 l hl, w32_id (a := G (79 + l)) (by omega) (by omega), w32_id (a := paidA G L l) (by omega) (by omega)]
  refine ⟨⟨by omega, by omega⟩, ?_⟩
  by_cases c6 : G (79 + l) ≤ paidA G L l
  case neg => rw [if_neg c6]; exact hno3 (by unfold canCan; simp [c6]) h1 F1
  rw [if_pos c6]
  have hyes : canCan G L l = true := by unfold canCan; simp [c6]; omega
  rw [if_pos hyes] at hq
  have qb := quOnA_bd W B hl
  refine sp_quOn JQa (hC.fr F1 JQa.c) hl (fun h2 F2 => ?_)
  have F12 := F1.trans F2
  have X2 : Fix sh h2 := F12.fix X (by decide +kernel)
  have C2 := hC.fr F12 JQa.c
  simp only [pushR0]
  rw [B_93_60a X2]
  have R2 : BR (h2 10) G n m := C2.2.2.1
  refine lp_canHome_a X2 R2 B hn10 hm3 hl (fun h3 F3 e1 e2 => ?_) (G (31 + l)).toNat 0 h2 _ (by omega) rfl (Fr.refl h2) (fun _ _ => rfl) (fun j hj => by omega)
  have X3 : Fix sh h3 := F3.fix X2 (by decide +kernel)
  have hsp : ∀ j, j < (G (31 + l)).toNat → spA G l j < n := fun j hj => (B.sp hl (by omega)).2.1
  have X4 : Fix sh (setH h3 10 (21 + l) 0) := X3.a (by decide +kernel)
  refine (bn_setSize (b := 9) (c := 10) X3.bd (show l < 3 by omega)).mpr ?_
  simp only [pushR9]
  rw [B_93_108a X4]
  refine (bn_lateOf (b := 9) (c := 10) X4.bd (show l < 3 by omega)).mpr ?_
  simp only [pushR0]
  have el : setH h3 10 (21 + l) 0 10 (39 + l) = G (28 + l) := by
    rw [setH_k (by omega), e1 (39 + l) (fun j hj => by have := hsp j hj; omega), (R2.2.2.1 l hl).2]
  rw [B_93_121a X4, el, w32_id (a := G (28 + l) + quOnA G L l) (by omega) (by omega)]
  have ev : (if 9999 < G (28 + l) + quOnA G L l then 9999 else G (28 + l) + quOnA G L l) = min (G (28 + l) + quOnA G L l) 9999 := by omega
  rw [ev]
  have X5 : Fix sh (setH (setH h3 10 (21 + l) 0) 10 (39 + l) (min (G (28 + l) + quOnA G L l) 9999)) := X4.a (by decide +kernel)
  refine (bn_setLate (b := 9) (c := 10) X4.bd (show l < 3 by omega)).mpr ?_
  simp only [pushR9]
  rw [B_93_132a X5]
  refine hq _ ((((F12.mono rfl).trans (F3.mono rfl)).setP rfl).setP rfl) ?_
  unfold canG
  refine can_R R B hn10 hm3 hl (by omega) (fun i h1 h2 h3 => ?_) (fun j hj => ?_) ?_ (setH_self _ _ _ _)
  · rw [setH_k h3, setH_k h2, e1 i h1, F12.row 10 rfl]
  · have := hsp j hj
    rw [setH_k (by omega), setH_k (by omega), e2 j hj]
  · rw [setH_k (by omega), setH_self]
theorem lp_canHome_b {l : Nat} {x2 : Int} (X : Fix sh h) (R : BR (h 78) G n m) (B : BW G n m) (hn10 : n ≤ 10) (hm3 : m ≤ 3) (hl : l < m) (hq : ∀ h', Fr [78] [] h h' → (∀ i, (∀ j, j < (G (31 + l)).toNat → i ≠ 11 + spA G l j) → h' 78 i = h 78 i) → (∀ j, j < (G (31 + l)).toNat → h' 78 (11 + spA G l j) = -2) → WM sc (d + 2) 34 [(2, 77), (0, (l : Int)), (0, 0)] sh sl h' (fun r sh1 sl1 h1 => WF sc (d + 3) 93 108 [(2, 79), (0, (l : Int)), (0, x2), (0, (((G (31 + l)).toNat : Nat) : Int))] (pushR r []) sh1 sl1 h1 Q)) : ∀ (rem k : Nat) (h' : Sto) (K : Int), k + rem = (G (31 + l)).toNat → K = k → Fr [78] [] h h' → (∀ i, (∀ j, j < k → i ≠ 11 + spA G l j) → h' 78 i = h 78 i) → (∀ j, j < k → h' 78 (11 + spA G l j) = -2) → WF sc (d + 3) 93 63 [(2, 79), (0, (l : Int)), (0, x2), (0, K)] [] sh sl h' Q := by
  have bl := B.2.2.1 l hl
  have hsp : ∀ j, j < (G (31 + l)).toNat → spA G l j < n := fun j hj => (B.sp hl (by omega)).2.1
  intro rem
  induction rem with
  | zero =>
    intro k h' K hk hK F e1 e2
    subst hK
    have X' : Fix sh h' := F.fix X (by decide +kernel)
    rw [B_93_63b X']
    refine (bn_sizeOf (b := 77) (c := 78) X'.bdR (show l < 3 by omega)).mpr ?_
    simp only [pushR0]
    rw [B_93_72b X', e1 (21 + l) (fun j hj => by have := hsp j (by omega); omega), (R.2.2.1 l hl).1, w32_id (a := G (31 + l)) (by omega) (by omega), w32_id (a := (k : Int)) (by omega) (by omega), if_pos (by omega)]
    have ek : k = (G (31 + l)).toNat := by omega
    subst ek
    exact hq h' F e1 e2
  | succ rem ih =>
    intro k h' K hk hK F e1 e2
    subst hK
    have X' : Fix sh h' := F.fix X (by decide +kernel)
    have sp := B.sp (i := k) hl (by omega)
    rw [B_93_63b X']
    refine (bn_sizeOf (b := 77) (c := 78) X'.bdR (show l < 3 by omega)).mpr ?_
    simp only [pushR0]
    rw [B_93_72b X', e1 (21 + l) (fun j hj => by have := hsp j (by omega); omega), (R.2.2.1 l hl).1, w32_id (a := G (31 + l)) (by omega) (by omega), w32_id (a := (k : Int)) (by omega) (by omega), if_neg (by omega)]
    refine (bn_stampAt (b := 77) (c := 78) X'.bdR (show l < 3 by omega) (show k < 5 by omega)).mpr ?_
    simp only [pushR0]
    rw [B_93_88b X', e1 (24 + 5 * l + k) (fun j hj => by have := hsp j (by omega); omega), R.2.2.2 l k hl (by omega), sp.1]
    refine (bn_setHome (b := 77) (c := 78) X'.bdR (show spA G l k < 10 by omega)).mpr ?_
    simp only [pushR9]
    rw [B_93_93b (X'.a (by decide +kernel))]
    refine ih (k + 1) _ _ (by omega) (by simp) (F.setP rfl) (fun i hi => ?_) (fun j hj => ?_)
    · rw [setH_k (hi k (by omega))]; exact e1 i (fun j hj => hi j (by omega))
    · by_cases e : spA G l j = spA G l k
      · rw [e, setH_self]
      · rw [setH_k (by omega)]
        exact e2 j (by
          rcases Nat.lt_or_ge j k with q | q
          · exact q
          · exact absurd (by rw [show j = k by omega]) e)
theorem sp_cancelAll_b {y : Int} (hy : I32 y) (C : CJ sh h G n m L 78) (hq : ∀ h', Fr [78, 48, 49, 81, 82] [] h h' → BR (h' 78) (cancelA G L m y).2 n m → Q (0, (cancelA G L m y).1) sh sl h') : WM sc (d + 6) 93 [(2, 79), (0, y)] sh sl h Q := by
  have hC := C
  obtain ⟨X, S, R, W, B⟩ := C
  have hn10 := W.1.2.1
  have hm3 := W.1.2.2.2.1
  have hno : ¬ (0 ≤ y ∧ y < m) → Q (0, -2) sh sl h := fun hc => by
    have := hq h (Fr.refl h)
    unfold cancelA at this
    rw [if_neg hc] at this
    exact this R
  rw [B_93_0b X, hy.w, S.1.2.1, w32_id (a := (m : Int)) (by omega) (by omega)]
  by_cases c3 : y < 0
  · rw [if_pos c3]; exact hno (by omega)
  rw [if_neg c3]
  by_cases c4 : y < m
  case neg => rw [if_neg c4]; exact hno (by omega)
  rw [if_pos c4]
  obtain ⟨l, rfl⟩ : ∃ l : Nat, y = l := ⟨y.toNat, by omega⟩
  have hl : l < m := by omega
  have bl := B.2.2.1 l hl
  have hca : cancelA G L m (l : Int) = if canCan G L l = true then (quOnA G L l, canG G L l) else (-3, G) := by
    unfold cancelA; rw [if_pos (by omega), Int.toNat_natCast]
  rw [hca] at hq
  have hno3 : canCan G L l = false → ∀ h1, Fr JP [] h h1 → Q (0, -3) sh sl h1 := fun hf h1 F1 => by
    have := hq h1 (F1.mono rfl)
    rw [hf] at this
    exact this (by rw [F1.row 78 rfl]; exact R)
  refine (bn_sizeOf (b := 77) (c := 78) X.bdR (show l < 3 by omega)).mpr ?_
  simp only [pushR0]
  rw [B_93_26b X, (R.2.2.1 l hl).1, w32_id (a := G (31 + l)) (by omega) (by omega)]
  by_cases c5 : G (31 + l) = 0
  · rw [if_pos c5]; exact hno3 (by unfold canCan; simp [c5]) h (Fr.refl h)
  rw [if_neg c5]
  refine sp_paid JQb hC hl (fun h1 F1 => ?_)
  have X1 : Fix sh h1 := F1.fix X (by decide +kernel)
  have pb := paidA_bd W B hl
  have fe := W.2.2.1 l hl
  simp only [pushR0]
  rw [B_93_37b X1, w32_id (a := (l : Int)) (by omega) (by omega), Int.toNat_natCast, F1.row 5 rfl, S.2.2.1 l hl, w32_id (a := G (79 + l)) (by omega) (by omega), w32_id (a := paidA G L l) (by omega) (by omega)]
  refine ⟨⟨by omega, by omega⟩, ?_⟩
  by_cases c6 : G (79 + l) ≤ paidA G L l
  case neg => rw [if_neg c6]; exact hno3 (by unfold canCan; simp [c6]) h1 F1
  rw [if_pos c6]
  have hyes : canCan G L l = true := by unfold canCan; simp [c6]; omega
  rw [if_pos hyes] at hq
  have qb := quOnA_bd W B hl
  refine sp_quOn JQb (hC.fr F1 JQb.c) hl (fun h2 F2 => ?_)
  have F12 := F1.trans F2
  have X2 : Fix sh h2 := F12.fix X (by decide +kernel)
  have C2 := hC.fr F12 JQb.c
  simp only [pushR0]
  rw [B_93_60b X2]
  have R2 : BR (h2 78) G n m := C2.2.2.1
  refine lp_canHome_b X2 R2 B hn10 hm3 hl (fun h3 F3 e1 e2 => ?_) (G (31 + l)).toNat 0 h2 _ (by omega) rfl (Fr.refl h2) (fun _ _ => rfl) (fun j hj => by omega)
  have X3 : Fix sh h3 := F3.fix X2 (by decide +kernel)
  have hsp : ∀ j, j < (G (31 + l)).toNat → spA G l j < n := fun j hj => (B.sp hl (by omega)).2.1
  have X4 : Fix sh (setH h3 78 (21 + l) 0) := X3.a (by decide +kernel)
  refine (bn_setSize (b := 77) (c := 78) X3.bdR (show l < 3 by omega)).mpr ?_
  simp only [pushR9]
  rw [B_93_108b X4]
  refine (bn_lateOf (b := 77) (c := 78) X4.bdR (show l < 3 by omega)).mpr ?_
  simp only [pushR0]
  have el : setH h3 78 (21 + l) 0 78 (39 + l) = G (28 + l) := by
    rw [setH_k (by omega), e1 (39 + l) (fun j hj => by have := hsp j hj; omega), (R2.2.2.1 l hl).2]
  rw [B_93_121b X4, el, w32_id (a := G (28 + l) + quOnA G L l) (by omega) (by omega)]
  have ev : (if 9999 < G (28 + l) + quOnA G L l then 9999 else G (28 + l) + quOnA G L l) = min (G (28 + l) + quOnA G L l) 9999 := by omega
  rw [ev]
  have X5 : Fix sh (setH (setH h3 78 (21 + l) 0) 78 (39 + l) (min (G (28 + l) + quOnA G L l) 9999)) := X4.a (by decide +kernel)
  refine (bn_setLate (b := 77) (c := 78) X4.bdR (show l < 3 by omega)).mpr ?_
  simp only [pushR9]
  rw [B_93_132b X5]
  refine hq _ ((((F12.mono rfl).trans (F3.mono rfl)).setP rfl).setP rfl) ?_
  unfold canG
  refine can_R R B hn10 hm3 hl (by omega) (fun i h1 h2 h3 => ?_) (fun j hj => ?_) ?_ (setH_self _ _ _ _)
  · rw [setH_k h3, setH_k h2, e1 i h1, F12.row 78 rfl]
  · have := hsp j hj
    rw [setH_k (by omega), setH_k (by omega), e2 j hj]
  · rw [setH_k (by omega), setH_self]
end MOVER2
