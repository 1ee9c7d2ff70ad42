section POCKO
variable {sc : Nat × (Nat → Int)} {d : Nat} {sh : Shp} {sl : Nat} {h : Sto} {Q : Pst} {G : Nat → Int} {n m : Nat} {L : List Law}
abbrev PkP : List Nat := [48, 49, 81, 82, 72, 75]
abbrev PkQ : List Nat := [48, 49, 81, 82, 72, 73, 75]
def PkI (G : Nat → Int) (L : List Law) (n s : Nat) (h : Sto) : Prop := ∀ i, i < s → (inP G i = true → h 75 i = 0 ∧ h 72 i = ((msk (frP G L i) n : Nat) : Int)) ∧ (inP G i = false → h 75 i = 100)
theorem lp_pk0 (C : CJ sh h G n m L 10) (hq0 : ∀ h', Fr PkP [] h h' → (∀ i, i < n → inP G i = false) → (∀ i, i < n → h' 75 i = 100) → Q (0, 0) sh sl h') (hq1 : ∀ h' j3, Fr PkP [] h h' → (∃ i, i < n ∧ inP G i = true) → PkI G L n n h' → WF sc (d + 6) 126 89 [(2, 71), (0, 1), (0, 1), j3] [] sh sl h' Q) : ∀ (rem s : Nat) (A S : Int) (h' : Sto) (j3 : V), s + rem = n → S = s → ((A = 0 ∧ ∀ i, i < s → inP G i = false) ∨ (A = 1 ∧ ∃ i, i < s ∧ inP G i = true)) → Fr PkP [] h h' → PkI G L n s h' → WF sc (d + 6) 126 4 [(2, 71), (0, A), (0, S), j3] [] sh sl h' Q := by
  have W := C.2.2.2.1
  have B := C.2.2.2.2
  have hn10 := W.1.2.1
  have hm3 := W.1.2.2.2.1
  intro rem
  induction rem with
  | zero =>
    intro s A S h' j3 hs hS hA F e
    subst hS
    have hsn : s = n := by omega
    subst hsn
    rw [B_126_4 (F.fix C.1 (by decide +kernel)), F.at 1 0 rfl, C.2.1.1.1, w32_id (a := (s : Int)) (by omega) (by omega), if_pos (by omega)]
    rcases hA with ⟨hA, hA2⟩ | ⟨hA, hA2⟩
    · rw [hA, w32_0, if_neg (by simp)]
      exact hq0 h' F hA2 (fun i hi => (e i hi).2 (hA2 i hi))
    · rw [hA, show w32 1 = 1 from rfl, if_pos (by decide)]
      exact hq1 h' j3 F hA2 e
  | succ rem ih =>
    intro s A S h' j3 hs hS hA F e
    subst hS
    have hsn : s < n := by omega
    have C' : CJ sh h' G n m L 10 := C.of F (by decide +kernel) (by decide +kernel) (F.row 10 rfl)
    have hin := home_in C'.2.2.1 B hm3 hsn
    rw [B_126_4 C'.1, F.at 1 0 rfl, C.2.1.1.1, w32_id (a := (n : Int)) (by omega) (by omega), w32_id (a := (s : Int)) (by omega) (by omega), if_neg (by omega)]
    refine (bn_homeOf (b := 9) (c := 10) C'.1.bd (by omega)).mpr ?_
    simp only [pushR0]
    rw [B_126_26 C'.1, w32_id (a := (s : Int)) (by omega) (by omega), Int.toNat_natCast]
    by_cases hp : inP G s = true
    case neg =>
      have hp' : inP G s = false := Bool.eq_false_iff.mpr hp
      rw [if_pos (fun q => hp (hin.mp q))]
      refine ⟨⟨by omega, by omega⟩, ⟨by omega, by omega⟩, ih (s + 1) _ _ _ _ (by omega) (by simp) ?_ ((F.setP rfl).setP rfl) (fun i hi => ?_)⟩
      · rcases hA with ⟨hA, hA2⟩ | ⟨hA, i, hi, hA2⟩
        · refine Or.inl ⟨by rw [hA]; decide +kernel, fun i hi => ?_⟩
          by_cases ei : i = s
          · subst ei; exact hp'
          · exact hA2 i (by omega)
        · exact Or.inr ⟨by rw [hA]; decide +kernel, i, by omega, hA2⟩
      · by_cases ei : i = s
        · subst ei
          rw [setH_o (by decide), setH_self, hp']
          exact ⟨fun z => (by cases z), fun _ => rfl⟩
        · rw [setH_k ei, setH_o (by decide), setH_k ei, setH_o (by decide)]
          exact e i (by omega)
    · rw [if_neg (fun q => q (hin.mpr hp))]
      refine ⟨⟨by omega, by omega⟩, ?_⟩
      have F2 : Fr PkP [] h (setH h' 75 s 0) := F.setP rfl
      have C2 : CJ sh (setH h' 75 s 0) G n m L 10 := C.of F2 (by decide +kernel) (by decide +kernel) (F2.row 10 rfl)
      refine sp_friends C2 hsn (fun h3 F3 => ?_)
      have F3' : Fr PkP [] h h3 := F2.trans (F3.mono rfl)
      simp only [pushR0]
      rw [B_126_70 (F3'.fix C.1 (by decide +kernel)), w32_id (a := (s : Int)) (by omega) (by omega), Int.toNat_natCast]
      refine ⟨⟨by omega, by omega⟩, ih (s + 1) _ _ _ _ (by omega) (by simp) ?_ (F3'.setP rfl) (fun i hi => ?_)⟩
      · refine Or.inr ⟨?_, s, by omega, hp⟩
        rcases hA with ⟨hA, _⟩ | ⟨hA, _⟩
        · rw [hA]; decide +kernel
        · rw [hA]; decide +kernel
      · by_cases ei : i = s
        · subst ei
          rw [setH_o (by decide), F3.row 75 rfl, setH_self, setH_self, hp]
          exact ⟨fun _ => ⟨rfl, rfl⟩, fun z => by cases z⟩
        · rw [setH_k ei, setH_o (by decide), F3.row 75 rfl, setH_k ei, F3.row 72 rfl, setH_o (by decide)]
          exact e i (by omega)
theorem lp_pkC {x1 : Int} (X : Fix sh h) (e0 : h 1 0 = (n : Int)) (hn10 : n ≤ 10) (e : PkI G L n n h) (hq : ∀ P t' h', 1 ≤ P → P ≤ 10 → pkS (inP G) (frP G L) P n 0 (fun _ => 0) = some t' → (∀ j, 1 ≤ j → j < P → pkS (inP G) (frP G L) j n 0 (fun _ => 0) = none) → Fr PoP [] h h' → (∀ i, i < n → h' 75 i = t' i) → Q (0, (P : Int)) sh sl h') : ∀ (rem P : Nat) (h' : Sto) (Px : Int) (j3 : V), P + rem = 10 → Px = P → 1 ≤ P → (∀ j, 1 ≤ j → j < P → pkS (inP G) (frP G L) j n 0 (fun _ => 0) = none) → Fr PoP [] h h' → (∀ i, i < n → (inP G i = true → 0 ≤ h' 75 i ∧ h' 75 i < 10) ∧ (inP G i = false → h' 75 i = 100)) → WF sc (d + 12) 126 89 [(2, 71), (0, x1), (0, Px), j3] [] sh sl h' Q := by
  have T0 : PkT (inP G) (fun _ => 0) 0 := fun i hi => by omega
  intro rem
  induction rem with
  | zero =>
    intro P h' Px j3 hP hPx h1 hn F e75
    subst hPx
    have hP10 : P = 10 := by omega
    subst hP10
    rw [B_126_89 (F.fix X (by decide +kernel)), show w32 ((10 : Nat) : Int) = 10 from rfl, if_pos (by decide)]
    refine sp_part (P := 10) (p := inP G) (fr := frP G L) (h := h) X e0 hn10 (by omega) (fun i hi hp => ((e i hi).1 hp).2) n 0 _ (fun _ => 0) h' _ _ _ (by omega) (by omega) rfl rfl T0 F (fun i hi => by omega) e75 (fun c hc => absurd hc (by simp [nxP])) (fun h2 t' hd F2 e2 => ?_) (fun h2 hd F2 e2 f75 f73 => ?_)
    · simp only [pushR0]
      rw [B_126_121 (F2.fix X (by decide +kernel))]
      exact hq 10 t' h2 (by omega) (by omega) hd hn F2 e2
    · exact absurd hd (pkS_ten n 0 _ (by omega) T0)
  | succ rem ih =>
    intro P h' Px j3 hP hPx h1 hn F e75
    subst hPx
    rw [B_126_89 (F.fix X (by decide +kernel)), w32_id (a := (P : Int)) (by omega) (by omega), if_neg (by omega)]
    refine sp_part (P := P) (p := inP G) (fr := frP G L) (h := h) X e0 hn10 (by omega) (fun i hi hp => ((e i hi).1 hp).2) n 0 _ (fun _ => 0) h' _ _ _ (by omega) (by omega) rfl rfl T0 F (fun i hi => by omega) e75 (fun c hc => absurd hc (by simp [nxP])) (fun h2 t' hd F2 e2 => ?_) (fun h2 hd F2 e2 f75 f73 => ?_)
    · simp only [pushR0]
      rw [B_126_102 (F2.fix X (by decide +kernel)), show w32 1 = 1 from rfl, if_neg (by decide)]
      exact hq P t' h2 h1 (by omega) hd hn F2 e2
    · simp only [pushR0]
      rw [B_126_102 (F2.fix X (by decide +kernel)), w32_0, if_pos rfl]
      refine ih (P + 1) h2 _ _ (by omega) (by simp) (by omega) (fun j h1 hj => ?_) F2 f75
      by_cases ej : j = P
      · subst ej; exact hd
      · exact hn j h1 (by omega)
theorem sp_fp {P : Nat} (M : MJ sh h G n m L) (Fi : FiR G L n n 0 h) (hP : P ≤ 10) (q1 : ∀ h2 t', pkS (inP G) (frP G L) P n 0 (fun _ => 0) = some t' → Fr [110] [] h h2 → (∀ i, i < n → h2 110 i = t' i) → Q (0, 1) sh sl h2) (q0 : ∀ h2, pkS (inP G) (frP G L) P n 0 (fun _ => 0) = none → Fr [110] [] h h2 → Q (0, 0) sh sl h2) : WM sc (d + 4) 253 [(2, 85), (0, (P : Int)), (0, ((msk (inP G) n : Nat) : Int))] sh sl h Q := by
  have W := M.2.2.2.1
  have hn10 := W.1.2.1
  have F0 : Fr [110] [] h (setH h 110 0 (-1)) := (Fr.refl h).setP rfl
  have M0 : MJ sh (setH h 110 0 (-1)) G n m L := M.of F0 (by decide +kernel) (by decide +kernel)
  rw [B_253_0 M.1, M.2.1, W.1.1]
  refine lp_pkM M0 (by unfold FiR; rw [F0.row 107 rfl, F0.row 108 rfl]; exact Fi) hP n 0 (fun _ => 0) _ _ _ (by omega) rfl (fun i hi => by omega) (Fr.refl _) (fun i hi => by omega) (Or.inr (setH_self _ _ _ _)) (fun h2 t' j5 hd F2 e2 => ?_) (fun h2 Kx j5 hd hK F2 e2 => ?_)
  · rw [B_253_17 (F2.fix M0.1 (by decide +kernel)), w32_id (a := (n : Int)) (by omega) (by omega), if_neg (by omega), if_pos (by omega), if_neg (by simp)]
    exact q1 h2 t' hd (F0.trans F2) e2
  · rw [B_253_17 (F2.fix M0.1 (by decide +kernel)), hK, show ((0 : Nat) : Int) - 1 = -1 from rfl, show w32 (-1) = -1 from rfl, if_pos (by decide), w32_id (a := (n : Int)) (by omega) (by omega), if_pos (by omega)]
    exact q0 h2 hd (F0.trans F2)
theorem lp_pkL {x : Int} {P' : Nat} {t' : Nat → Int} (M : MJ sh h G n m L) (Fi : FiR G L n n 0 h) (hP : P' ≤ 10) (hx : 0 ≤ x ∧ x ≤ n) (hd' : pkS (inP G) (frP G L) P' n 0 (fun _ => 0) = some t') (hn : ∀ j, j < P' → pkS (inP G) (frP G L) j n 0 (fun _ => 0) = none) (hq : ∀ h2, Fr [110] [] h h2 → Q (0, if x = 0 then (P' : Int) else t' (x - 1).toNat) sh sl h2) : ∀ (rem P : Nat) (h' : Sto) (Px : Int), P + rem = P' → Px = P → Fr [110] [] h h' → WF sc (d + 5) 252 34 [(2, 85), (0, x), (0, ((msk (inP G) n : Nat) : Int)), (0, Px)] [] sh sl h' Q := by
  have W := M.2.2.2.1
  have hn10 := W.1.2.1
  intro rem
  induction rem with
  | zero =>
    intro P h' Px hP hPx F
    subst hPx
    have hPP : P = P' := by omega
    subst hPP
    have M' : MJ sh h' G n m L := M.of F (by decide +kernel) (by decide +kernel)
    rw [B_252_34 M'.1]
    refine sp_fp M' (by unfold FiR; rw [F.row 107 rfl, F.row 108 rfl]; exact Fi) (by omega) (fun h2 t2 hd F2 e2 => ?_) (fun h2 hd F2 => by rw [hd'] at hd; cases hd)
    rw [hd'] at hd
    cases hd
    have hq' := hq h2 (F.trans F2)
    simp only [pushR0]
    rw [B_252_40 (F2.fix M'.1 (by decide +kernel)), show w32 1 = 1 from rfl, if_pos (by decide), w32_id (a := x) (by omega) (by omega)]
    by_cases x0 : x = 0
    · rw [if_neg (fun q => q x0)]
      rw [if_pos x0] at hq'; exact hq'
    · rw [if_pos x0, w32_id (a := x - 1) (by omega) (by omega), e2 _ (by omega)]
      rw [if_neg x0] at hq'
      exact ⟨⟨by omega, by omega⟩, hq'⟩
  | succ rem ih =>
    intro P h' Px hP hPx F
    subst hPx
    have M' : MJ sh h' G n m L := M.of F (by decide +kernel) (by decide +kernel)
    rw [B_252_34 M'.1]
    refine sp_fp M' (by unfold FiR; rw [F.row 107 rfl, F.row 108 rfl]; exact Fi) (by omega) (fun h2 t2 hd F2 e2 => by rw [hn P (by omega)] at hd; cases hd) (fun h2 hd F2 => ?_)
    simp only [pushR0]
    rw [B_252_40 (F2.fix M'.1 (by decide +kernel)), w32_0, if_neg (by simp)]
    exact ih (P + 1) h2 _ (by omega) (by simp) (F.trans F2)
end POCKO
theorem op_pockets {x : Int} (hx : I32 x) : OpOK 125 252 0 [(0, x)] := by
  intro sc d sh sl h I
  have X := I.fx
  obtain ⟨n, m, L, Lv, Hs⟩ := I.live
  have C := Lv.cj X
  have M := Lv.mj X I.od
  have W := M.2.2.2.1
  have hn10 := W.1.2.1
  have bad : ¬ (0 ≤ x ∧ x ≤ n) → WM sc (d + 100) 252 [(2, 85), (0, x)] sh sl h (fun r2 sh2 sl2 h2 => ∃ v, ((0 : Nat), (-1 : Int)) = (0, v) ∧ r2 = (0, v) ∧ sh2.length ≤ sh.length + 9 ∧ sl2 ≤ sl + 900 ∧ INV sh2 h2) := by
    intro hb
    have X2 : Fix sh (setH h 85 0 0) := X.s (by decide +kernel)
    rw [B_252_0 X, M.2.1, W.1.1, hx.w, w32_id (a := (n : Int)) (by omega) (by omega), sp_in hx.l ⟨by decide, by decide⟩ ⟨by omega, by omega⟩, if_neg hb]
    simp only [pushR0]
    rw [B_252_18 X2, w32_0, if_neg (by simp)]
    exact ⟨_, rfl, rfl, by omega, by omega, I.thrown⟩
  rw [B_125_0 X, C.2.1.1.1, hx.w, w32_id (a := (n : Int)) (by omega) (by omega)]
  by_cases a1 : x < 0
  · rw [if_pos a1]; exact bad (by omega)
  rw [if_neg a1]
  by_cases a2 : x ≤ n
  case neg => rw [if_neg a2]; exact bad (by omega)
  rw [if_pos a2]
  clear bad
  have hM : ∀ (h1 : Sto) (v : Int) (P' : Nat) (t' : Nat → Int), Fr PkQ [] h h1 → P' ≤ 10 → pkS (inP (h 87)) (frP (h 87) L) P' n 0 (fun _ => 0) = some t' → (∀ j, j < P' → pkS (inP (h 87)) (frP (h 87) L) j n 0 (fun _ => 0) = none) → v = (if x = 0 then (P' : Int) else t' (x - 1).toNat) → WM sc (d + 100) 252 [(2, 85), (0, x)] sh sl h1 (fun r2 sh2 sl2 h2 => ∃ v', ((0 : Nat), v) = (0, v') ∧ r2 = (0, v') ∧ sh2.length ≤ sh.length + 9 ∧ sl2 ≤ sl + 900 ∧ INV sh2 h2) := by
    intro h1 v P' t' F1 hP hd hn hv
    have X1 : Fix sh h1 := F1.fix X (by decide +kernel)
    have F2 : Fr PkQ [(85, 0)] h (setH h1 85 0 0) := (F1.mono rfl).set rfl
    have M2 : MJ sh (setH h1 85 0 0) (h 87) n m L := M.of F2 (by decide +kernel) (by decide +kernel)
    rw [B_252_0 X1, F1.row 87 rfl, W.1.1, hx.w, w32_id (a := (n : Int)) (by omega) (by omega), sp_in hx.l ⟨by decide, by decide⟩ ⟨by omega, by omega⟩, if_pos (by omega)]
    simp only [pushR0]
    rw [B_252_18 M2.1, show w32 1 = 1 from rfl, if_pos (by decide)]
    refine sp_fill M2 (fun h3 F3 Fi _ => ?_)
    have M3 : MJ sh h3 (h 87) n m L := M2.of F3 (by decide +kernel) (by decide +kernel)
    simp only [pushR9]
    rw [B_252_27 M3.1]
    refine sp_minSheet M3.1 M3.2.1 W.1.1 hn10 M3.2.2.2.2 W.1.2.2.2.1 ?_
    simp only [pushR0]
    rw [B_252_31 M3.1]
    refine lp_pkL M3 Fi hP ⟨by omega, by omega⟩ hd hn (fun h4 F4 => ?_) P' 0 h3 _ (by omega) rfl (Fr.refl h3)
    have F5 : Fr [103, 105, 107, 108, 109, 110] MS (setH h1 85 0 0) h4 := (F3.mono rfl).trans (F4.mono rfl)
    exact ⟨_, by rw [← hv], rfl, by omega, by omega, I.two F2 F5 (by decide +kernel) (by decide +kernel) (by decide +kernel) (by decide +kernel)⟩
  rw [B_126_0 X]
  refine lp_pk0 C (fun h1 F1 hno e1 => ?_) (fun h1 j3 F1 hany e1 => ?_) n 0 _ _ h _ (by omega) rfl (Or.inl ⟨rfl, fun i hi => by omega⟩) (Fr.refl h) (fun i hi => by omega)
  · obtain ⟨t', ht, he⟩ := pkS_none (p := inP (h 87)) (fr := frP (h 87) L) (P := 0) n 0 (fun _ => 0) (fun i _ hi => hno i (by omega)) (fun i hi => by omega)
    have F1' : Fr PkQ [] h h1 := F1.mono rfl
    simp only [pushR0]
    rw [B_125_24 (F1.fix X (by decide +kernel)), hx.w]
    by_cases x0 : x = 0
    · rw [if_neg (fun q => q x0)]
      exact hM h1 _ 0 t' F1' (by omega) ht (fun j hj => by omega) (by rw [if_pos x0]; rfl)
    · rw [if_pos x0, w32_id (a := x - 1) (by omega) (by omega)]
      refine ⟨⟨by omega, by omega⟩, hM h1 _ 0 t' F1' (by omega) ht (fun j hj => by omega) ?_⟩
      rw [if_neg x0, e1 _ (by omega), he _ (by omega)]
  · refine lp_pkC (F1.fix X (by decide +kernel)) (by rw [F1.at 1 0 rfl]; exact C.2.1.1.1) hn10 e1 (fun P t' h2 p1 p2 hd hn F2 e2 => ?_) 9 1 h1 _ _ (by omega) rfl (by omega) (fun j h1 h2 => by omega) (Fr.refl h1) (fun i hi => ⟨fun z => by rw [((e1 i hi).1 z).1]; exact ⟨by decide, by decide⟩, (e1 i hi).2⟩)
    have F3 : Fr PkQ [] h h2 := (F1.mono rfl).trans (F2.mono rfl)
    have hn' : ∀ j, j < P → pkS (inP (h 87)) (frP (h 87) L) j n 0 (fun _ => 0) = none := fun j hj => by
      by_cases j0 : j = 0
      · subst j0
        obtain ⟨i, hi, hp⟩ := hany
        exact pkS_none0 n 0 _ ⟨i, by omega, by omega, hp⟩
      · exact hn j (by omega) hj
    simp only [pushR0]
    rw [B_125_24 (F3.fix X (by decide +kernel)), hx.w]
    by_cases x0 : x = 0
    · rw [if_neg (fun q => q x0)]
      exact hM h2 _ P t' F3 p2 hd hn' (by rw [if_pos x0])
    · rw [if_pos x0, w32_id (a := x - 1) (by omega) (by omega)]
      refine ⟨⟨by omega, by omega⟩, hM h2 _ P t' F3 p2 hd hn' ?_⟩
      rw [if_neg x0, e2 _ (by omega)]
