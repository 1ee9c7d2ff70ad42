/-! ===== exchanged: the pairs, the call ===== -/
def exStep (G : Nat → Int) (L : List Law) (l : Nat) (st : Int × Int) (a b : Nat) : Int × Int := if st.1 ≤ exV G L l a b then st else (exV G L l a b, 10 * (a : Int) + b)
def exB (G : Nat → Int) (L : List Law) (l a : Nat) : Nat → Nat → Int × Int → Int × Int
  | 0, _, st => st
  | r + 1, b, st => exB G L l a r (b + 1) (exStep G L l st a b)
def exA (G : Nat → Int) (L : List Law) (l c : Nat) : Nat → Nat → Int × Int → Int × Int
  | 0, _, st => st
  | r + 1, a, st => exA G L l c r (a + 1) (exB G L l a (c - (a + 1)) (a + 1) st)
def EI (q0 : Int) (st : Int × Int) : Prop := (0 ≤ st.1 ∧ st.1 ≤ 80) ∧ ((st.2 = -1 ∧ st.1 = q0) ∨ ((0 ≤ st.2 ∧ st.2 ≤ 100) ∧ st.1 < q0))
def XR (h : Sto) (st : Int × Int) : Prop := h 60 14 = st.1 ∧ (0 ≤ st.2 → h 60 19 = st.2)
theorem exV_bd {G : Nat → Int} {n m l a b : Nat} {L : List Law} (W : SW G n m L) (B : BW G n m) (hl : l < m) (ha : (a : Int) < G (31 + l)) (hb : (b : Int) < G (31 + l)) : 0 ≤ exV G L l a b ∧ exV G L l a b ≤ 80 := by
  have c1 := B.2.2.1 l hl
  have := exQ_bd (L := L) W B hl ha hb ((G (31 + l)).toNat - 1) (Nat.le_refl _)
  unfold exV; omega
theorem EI.step {G : Nat → Int} {n m l a b : Nat} {L : List Law} {q0 : Int} {st : Int × Int} (E : EI q0 st) (W : SW G n m L) (B : BW G n m) (hl : l < m) (ha : (a : Int) < G (31 + l)) (hb : (b : Int) < G (31 + l)) : EI q0 (exStep G L l st a b) := by
  have c1 := B.2.2.1 l hl
  have v := exV_bd (L := L) W B hl ha hb
  unfold exStep
  split
  · exact E
  · rename_i hc
    obtain ⟨e1, e2⟩ := E
    exact ⟨v, Or.inr ⟨⟨by show (0 : Int) ≤ 10 * (a : Int) + b; omega, by show 10 * (a : Int) + b ≤ (100 : Int); omega⟩, by show exV G L l a b < q0; omega⟩⟩
section EXCHO
variable {sc : Nat × (Nat → Int)} {d : Nat} {sh : Shp} {sl : Nat} {h : Sto} {Q : Pst} {G : Nat → Int} {n m : Nat} {L : List Law}
abbrev XcS : List (Nat × Nat) := [(60, 14), (60, 19)]
theorem lp_xbC {l a c : Nat} {q0 : Int} (C : CJ sh h G n m L 10) (hl : l < m) (hc : G (31 + l) = (c : Int)) (hac : a < c) : ∀ (rem b : Nat) (h' : Sto) (st : Int × Int) (Bx : Int) (j5 : V), b + rem = c → Bx = b → Fr XcP XcS h h' → XR h' st → EI q0 st → (∀ (h'' : Sto) (j4 j5 : V), Fr XcP XcS h h'' → XR h'' (exB G L l a rem b st) → EI q0 (exB G L l a rem b st) → WF sc (d + 6) 123 16 [(2, 60), (0, (l : Int)), (0, q0), (0, (a : Int) + 1), j4, j5] [] sh sl h'' Q) → WF sc (d + 6) 123 33 [(2, 60), (0, (l : Int)), (0, q0), (0, (a : Int)), (0, Bx), j5] [] sh sl h' Q := by
  have W := C.2.2.2.1
  have B := C.2.2.2.2
  have hm3 := W.1.2.2.2.1
  have c1 := B.2.2.1 l hl
  have hR : ∀ h', Fr XcP XcS h h' → h' 10 (21 + l) = (c : Int) := fun h' F => by rw [F.row 10 rfl, (C.2.2.1.2.2.1 l hl).1]; exact hc
  intro rem
  induction rem with
  | zero =>
    intro b h' st Bx j5 hb hB F R E hq
    subst hB
    have X' : Fix sh h' := F.fix C.1 (by decide +kernel)
    rw [B_123_33 X']
    refine (bn_sizeOf (b := 9) (c := 10) X'.bd (by omega)).mpr ?_
    simp only [pushR0]
    rw [B_123_43 X', hR h' F, w32_id (a := (c : Int)) (by omega) (by omega), w32_id (a := (b : Int)) (by omega) (by omega), if_pos (by omega)]
    exact hq h' _ _ F R E
  | succ rem ih =>
    intro b h' st Bx j5 hb hB F R E hq
    subst hB
    have X' : Fix sh h' := F.fix C.1 (by decide +kernel)
    have CC : CJ sh h' G n m L 10 := C.of F (by decide +kernel) (by decide +kernel) (F.row 10 rfl)
    have v := exV_bd (L := L) (a := a) (b := b) W B hl (by omega) (by omega)
    have E2 := E.step (a := a) (b := b) W B hl (by omega) (by omega)
    rw [B_123_33 X']
    refine (bn_sizeOf (b := 9) (c := 10) X'.bd (by omega)).mpr ?_
    simp only [pushR0]
    rw [B_123_43 X', hR h' F, w32_id (a := (c : Int)) (by omega) (by omega), w32_id (a := (b : Int)) (by omega) (by omega), if_neg (by omega), B_124_0 X']
    refine lp_exC CC hl (by omega) (by omega) (fun h1 F1 => ?_) c 0 h' _ _ (by omega) rfl rfl (Fr.refl h') (fun j hj => by omega)
    have F2 : Fr XcP XcS h h1 := F.trans (F1.mono rfl)
    have X1 : Fix sh h1 := F2.fix C.1 (by decide +kernel)
    have e1 := E.1
    simp only [pushR0]
    rw [B_123_54 X1, F1.at 60 14 rfl, R.1, w32_id (a := st.1) (by omega) (by omega), w32_id (a := exV G L l a b) (by omega) (by omega)]
    by_cases hv : st.1 ≤ exV G L l a b
    · have es : exStep G L l st a b = st := by unfold exStep; rw [if_pos hv]
      rw [if_pos hv]
      simp only [exB, es] at hq
      exact ih (b + 1) h1 st _ _ (by omega) (by simp) F2 ⟨by rw [F1.at 60 14 rfl]; exact R.1, fun z => by rw [F1.at 60 19 rfl]; exact R.2 z⟩ E hq
    · have es : exStep G L l st a b = (exV G L l a b, 10 * (a : Int) + b) := by unfold exStep; rw [if_neg hv]
      rw [if_neg hv]
      refine ih (b + 1) _ (exStep G L l st a b) _ _ (by omega) (by simp) ((F2.set rfl).set rfl) ⟨by rw [es, setH_k (by decide), setH_self], fun _ => by rw [es, setH_self]⟩ E2 hq
theorem lp_xaC {l c : Nat} {q0 : Int} (C : CJ sh h G n m L 10) (hl : l < m) (hc : G (31 + l) = (c : Int)) (hq0 : 0 ≤ q0 ∧ q0 ≤ 80) : ∀ (rem a : Nat) (h' : Sto) (st : Int × Int) (Ax : Int) (j4 j5 : V), a + rem = c → Ax = a → Fr XcP XcS h h' → XR h' st → EI q0 st → (∀ (h'' : Sto), Fr XcP XcS h h'' → XR h'' (exA G L l c rem a st) → EI q0 (exA G L l c rem a st) → Q (0, if q0 ≤ (exA G L l c rem a st).1 then 0 else 1) sh sl h'') → WF sc (d + 6) 123 16 [(2, 60), (0, (l : Int)), (0, q0), (0, Ax), j4, j5] [] sh sl h' Q := by
  have W := C.2.2.2.1
  have B := C.2.2.2.2
  have hm3 := W.1.2.2.2.1
  have c1 := B.2.2.1 l hl
  have hR : ∀ h', Fr XcP XcS h h' → h' 10 (21 + l) = (c : Int) := fun h' F => by rw [F.row 10 rfl, (C.2.2.1.2.2.1 l hl).1]; exact hc
  intro rem
  induction rem with
  | zero =>
    intro a h' st Ax j4 j5 ha hA F R E hq
    subst hA
    have X' : Fix sh h' := F.fix C.1 (by decide +kernel)
    have e1 := E.1
    rw [B_123_16 X']
    refine (bn_sizeOf (b := 9) (c := 10) X'.bd (by omega)).mpr ?_
    simp only [pushR0]
    rw [B_123_25 X', hR h' F, w32_id (a := (c : Int)) (by omega) (by omega), w32_id (a := (a : Int)) (by omega) (by omega), if_pos (by omega), R.1, w32_id (a := q0) (by omega) (by omega), w32_id (a := st.1) (by omega) (by omega)]
    have := hq h' F R E
    have e0 : exA G L l c 0 a st = st := rfl
    rw [e0] at this
    by_cases hv : q0 ≤ st.1
    · rw [if_pos hv]; rw [if_pos hv] at this; exact this
    · rw [if_neg hv]; rw [if_neg hv] at this; exact this
  | succ rem ih =>
    intro a h' st Ax j4 j5 ha hA F R E hq
    subst hA
    have X' : Fix sh h' := F.fix C.1 (by decide +kernel)
    rw [B_123_16 X']
    refine (bn_sizeOf (b := 9) (c := 10) X'.bd (by omega)).mpr ?_
    simp only [pushR0]
    rw [B_123_25 X', hR h' F, w32_id (a := (c : Int)) (by omega) (by omega), w32_id (a := (a : Int)) (by omega) (by omega), if_neg (by omega)]
    refine lp_xbC C hl hc (by omega) (c - (a + 1)) (a + 1) h' st _ _ (by omega) (by simp) F R E (fun h1 j4 j5 F1 R1 E1 => ?_)
    exact ih (a + 1) h1 _ _ _ _ (by omega) (by simp) F1 R1 E1 hq
theorem lp_xbM {l a c : Nat} {x2 q0 : Int} (M : MJ sh h G n m L) (hl : l < m) (hc : G (31 + l) = (c : Int)) (hac : a < c) : ∀ (rem b : Nat) (h' : Sto) (st : Int × Int) (Bx : Int) (j8 j9 : V), b + rem = c → Bx = b → Fr [87, 103, 105] MS h h' → h' 87 = G → EI q0 st → (∀ (h'' : Sto) (j7 j8 j9 : V), Fr [87, 103, 105] MS h h'' → h'' 87 = G → EI q0 (exB G L l a rem b st) → WF sc (d + 8) 251 45 [(2, 85), (0, (l : Int)), (0, x2), (0, (exB G L l a rem b st).1), (0, (exB G L l a rem b st).2), (0, 34 + 5 * (l : Int)), (0, (a : Int) + 1), j7, j8, j9] [] sh sl h'' Q) → WF sc (d + 8) 251 65 [(2, 85), (0, (l : Int)), (0, x2), (0, st.1), (0, st.2), (0, 34 + 5 * (l : Int)), (0, (a : Int)), (0, Bx), j8, j9] [] sh sl h' Q := by
  have W := M.2.2.2.1
  have B := M.2.2.2.2
  have hn10 := W.1.2.1
  have hm3 := W.1.2.2.2.1
  have c1 := B.2.2.1 l hl
  intro rem
  induction rem with
  | zero =>
    intro b h' st Bx j8 j9 hb hB F e87 E hq
    subst hB
    rw [B_251_65 (F.fix M.1 (by decide +kernel)), w32_nat (a := 31 + (l : Int)) (n := 31 + l) (by omega) (by omega), Int.toNat_natCast, e87, hc, w32_id (a := (c : Int)) (by omega) (by omega), w32_id (a := (b : Int)) (by omega) (by omega), if_pos (by omega)]
    exact ⟨⟨by omega, by omega⟩, hq h' _ _ _ F e87 E⟩
  | succ rem ih =>
    intro b h' st Bx j8 j9 hb hB F e87 E hq
    subst hB
    have X' : Fix sh h' := F.fix M.1 (by decide +kernel)
    have v := exV_bd (L := L) (a := a) (b := b) W B hl (by omega) (by omega)
    have E2 := E.step (a := a) (b := b) W B hl (by omega) (by omega)
    have e1 := E.1
    rw [B_251_65 X', w32_nat (a := 31 + (l : Int)) (n := 31 + l) (by omega) (by omega), Int.toNat_natCast, e87, hc, w32_id (a := (c : Int)) (by omega) (by omega), w32_id (a := (b : Int)) (by omega) (by omega), if_neg (by omega), w32_nat (a := 34 + 5 * (l : Int) + (a : Int)) (n := 34 + 5 * l + a) (by omega) (by omega), w32_nat (a := 34 + 5 * (l : Int) + (b : Int)) (n := 34 + 5 * l + b) (by omega) (by omega), Int.toNat_natCast, Int.toNat_natCast]
    refine ⟨⟨by omega, by omega⟩, ⟨by omega, by omega⟩, ⟨by omega, by omega⟩, ⟨by omega, by omega⟩, ⟨by omega, by omega⟩, ?_⟩
    have es : setH (setH h' 87 (34 + 5 * l + a) (G (34 + 5 * l + b))) 87 (34 + 5 * l + b) (G (34 + 5 * l + a)) 87 = swG G l a b := by rw [setH_r, setH_r, e87]; rfl
    have F2 : Fr [87, 103, 105] MS h (setH (setH h' 87 (34 + 5 * l + a) (G (34 + 5 * l + b))) 87 (34 + 5 * l + b) (G (34 + 5 * l + a))) := (F.setP rfl).setP rfl
    have M2 : MJ sh (setH (setH h' 87 (34 + 5 * l + a) (G (34 + 5 * l + b))) 87 (34 + 5 * l + b) (G (34 + 5 * l + a))) (swG G l a b) n m L := ⟨F2.fix M.1 (by decide +kernel), es, by rw [F2.at 85 20 rfl]; exact M.2.2.1, W.of (fun i hi => swG_o (by omega) (by omega)), swG_B B hn10 hm3 hl (by omega) (by omega)⟩
    generalize setH (setH h' 87 (34 + 5 * l + a) (G (34 + 5 * l + b))) 87 (34 + 5 * l + b) (G (34 + 5 * l + a)) = h2 at es F2 M2 ⊢
    refine sp_mquOn M2 hl (fun h3 F3 => ?_)
    have F4 : Fr [87, 103, 105] MS h h3 := F2.trans (F3.mono rfl)
    have e3 : h3 87 = swG G l a b := by rw [F3.row 87 rfl]; exact es
    rw [swG_q B hn10 hm3 hl (by omega) (by omega)]
    simp only [pushR0]
    rw [B_251_128 (F4.fix M.1 (by decide +kernel)), w32_nat (a := 34 + 5 * (l : Int) + (a : Int)) (n := 34 + 5 * l + a) (by omega) (by omega), w32_nat (a := 34 + 5 * (l : Int) + (b : Int)) (n := 34 + 5 * l + b) (by omega) (by omega), Int.toNat_natCast, Int.toNat_natCast, e3, w32_id (a := st.1) (by omega) (by omega), w32_id (a := exV G L l a b) (by omega) (by omega)]
    refine ⟨⟨by omega, by omega⟩, ⟨by omega, by omega⟩, ⟨by omega, by omega⟩, ?_⟩
    have e5 : setH (setH h3 87 (34 + 5 * l + b) (swG G l a b (34 + 5 * l + a))) 87 (34 + 5 * l + a) (G (34 + 5 * l + a)) 87 = G := by rw [setH_r, setH_r, e3]; exact swG_back
    have F5 : Fr [87, 103, 105] MS h (setH (setH h3 87 (34 + 5 * l + b) (swG G l a b (34 + 5 * l + a))) 87 (34 + 5 * l + a) (G (34 + 5 * l + a))) := (F4.setP rfl).setP rfl
    by_cases hv : st.1 ≤ exV G L l a b
    · have es : exStep G L l st a b = st := by unfold exStep; rw [if_pos hv]
      rw [if_pos hv, if_pos hv]
      simp only [exB, es] at hq
      exact ih (b + 1) _ st _ _ _ (by omega) (by simp) F5 e5 E hq
    · have es : exStep G L l st a b = (exV G L l a b, 10 * (a : Int) + b) := by unfold exStep; rw [if_neg hv]
      rw [es] at E2
      simp only [exB, es] at hq
      rw [if_neg hv, if_neg hv]
      exact ih (b + 1) _ (exV G L l a b, 10 * (a : Int) + b) _ _ _ (by omega) (by simp) F5 e5 E2 hq
theorem lp_xaM {l c : Nat} {x2 q0 : Int} (hx : I32 x2) (M : MJ sh h G n m L) (hl : l < m) (hc : G (31 + l) = (c : Int)) : ∀ (rem a : Nat) (h' : Sto) (st : Int × Int) (Ax : Int) (j7 j8 j9 : V), a + rem = c → Ax = a → Fr [87, 103, 105] MS h h' → h' 87 = G → EI q0 st → (∀ (h'' : Sto), Fr [87, 103, 105] MS h h'' → h'' 87 = G → Q (0, if (exA G L l c rem a st).2 = -1 then -1 else if x2 = 0 then (exA G L l c rem a st).2 else (exA G L l c rem a st).1) sh sl h'') → WF sc (d + 8) 251 45 [(2, 85), (0, (l : Int)), (0, x2), (0, st.1), (0, st.2), (0, 34 + 5 * (l : Int)), (0, Ax), j7, j8, j9] [] sh sl h' Q := by
  have W := M.2.2.2.1
  have B := M.2.2.2.2
  have hm3 := W.1.2.2.2.1
  have c1 := B.2.2.1 l hl
  intro rem
  induction rem with
  | zero =>
    intro a h' st Ax j7 j8 j9 ha hA F e87 E hq
    subst hA
    obtain ⟨e1, e2⟩ := E
    rw [B_251_45 (F.fix M.1 (by decide +kernel)), w32_nat (a := 31 + (l : Int)) (n := 31 + l) (by omega) (by omega), Int.toNat_natCast, e87, hc, w32_id (a := (c : Int)) (by omega) (by omega), w32_id (a := (a : Int)) (by omega) (by omega), if_pos (by omega), w32_id (a := st.2) (by omega) (by omega), hx.w]
    refine ⟨⟨by omega, by omega⟩, ?_⟩
    have := hq h' F e87
    have e0 : exA G L l c 0 a st = st := rfl
    rw [e0] at this
    by_cases hm1 : st.2 = -1
    · rw [if_pos hm1] at this ⊢; rw [hm1]; exact this
    · rw [if_neg hm1] at this ⊢
      by_cases h0 : x2 = 0
      · rw [if_pos h0] at this
        rw [if_neg (by simpa using h0)]; exact this
      · rw [if_neg h0] at this
        rw [if_pos h0]; exact this
  | succ rem ih =>
    intro a h' st Ax j7 j8 j9 ha hA F e87 E hq
    subst hA
    rw [B_251_45 (F.fix M.1 (by decide +kernel)), w32_nat (a := 31 + (l : Int)) (n := 31 + l) (by omega) (by omega), Int.toNat_natCast, e87, hc, w32_id (a := (c : Int)) (by omega) (by omega), w32_id (a := (a : Int)) (by omega) (by omega), if_neg (by omega)]
    refine ⟨⟨by omega, by omega⟩, ?_⟩
    refine lp_xbM (q0 := q0) M hl hc (by omega) (c - (a + 1)) (a + 1) h' st _ _ _ (by omega) (by simp) F e87 E (fun h1 j7 j8 j9 F1 e1 E1 => ?_)
    exact ih (a + 1) h1 _ _ _ _ _ (by omega) (by simp) F1 e1 E1 hq
end EXCHO
