/-! ===== the reference's whole text ===== -/
abbrev MzS : List (Nat × Nat) := [(85, 14), (85, 15), (85, 16), (85, 17), (85, 18), (85, 19), (85, 23), (85, 26), (85, 29), (85, 30), (85, 21), (85, 13), (85, 20)]
theorem ClM.mono {od : Bool} {c c2 i : Nat} {h h2 : Sto} {cl : Clx} (H : ClM od h c i cl) (hc : c ≤ c2) (e : ∀ j, j < c → h2 96 j = h 96 j ∧ h2 97 j = h 97 j) (r : ∀ j, j < 8 * i + 8 → h2 95 j = h 95 j ∧ h2 116 j = h 116 j) : ClM od h2 c2 i cl := by
  unfold ClM at H ⊢
  cases od with
  | false =>
    rw [if_neg (by decide)] at H ⊢
    obtain ⟨a1, a2, a3⟩ := H
    rw [(r (8 * i) (by omega)).1, (r (8 * i + 5) (by omega)).1, (r (8 * i + 6) (by omega)).1, (r (8 * i + 3) (by omega)).1, (r (8 * i + 4) (by omega)).1]
    exact ⟨a1, a2.mono hc e, a3.mono hc e⟩
  | true =>
    rw [if_pos rfl] at H ⊢
    obtain ⟨a1, a2, a3, a4, a5⟩ := H
    rw [(r (8 * i) (by omega)).2, (r (8 * i + 5) (by omega)).2, (r (8 * i + 6) (by omega)).2, (r (8 * i + 3) (by omega)).2, (r (8 * i + 4) (by omega)).2, (r (8 * i + 1) (by omega)).2, (r (8 * i + 2) (by omega)).2, (r (8 * i + 7) (by omega)).2]
    exact ⟨a1, a2.mono hc e, a3.mono hc e, a4.mono hc e, a5⟩
section MTX
variable {sc : Nat × (Nat → Int)} {d : Nat} {sh : Shp} {sl : Nat} {h : Sto} {Q : Pst} {T : Nat → Int} {n : Nat} {od : Bool} {p lf ws c : Nat}
theorem mBegin {x : Int} (X : Fix sh h) (P : TpM T n h) (e13 : h 85 13 = (n : Int)) (hx : x = if od = true then 1 else 0) (hq : ∀ h2, Fr MtP MzS h h2 → MEx T n od 0 0 0 h2 → h2 85 21 = ((0 : Nat) : Int) → h2 85 18 = -1 → Q (9, 0) sh sl h2) : WM sc (d + 4) 195 [(2, 85), (0, x)] sh sl h Q := by
  have x01 : x = 0 ∨ x = 1 := by rw [hx]; cases od <;> decide
  have F1 : Fr [] [(85, 20)] h (setH h 85 20 x) := (Fr.refl h).set rfl
  have X1 : Fix sh (setH h 85 20 x) := F1.fix X (by decide +kernel)
  rw [B_195_0 X]
  refine ⟨x01, ?_⟩
  rw [B_196_0 X1]
  obtain ⟨h2, hh2⟩ : ∃ h2, setH (setH (setH (setH h 85 20 x) 85 15 0) 85 19 0) 85 18 (-1) = h2 := ⟨_, rfl⟩
  rw [hh2]
  have F2 : Fr [] [(85, 20), (85, 15), (85, 19), (85, 18)] h h2 := by rw [← hh2]; exact ((((Fr.refl h).set rfl).set rfl).set rfl).set rfl
  have X2 : Fix sh h2 := F2.fix X (by decide +kernel)
  have P2 : TpM T n h2 := ⟨P.1, fun i hi => by rw [F2.row 94 rfl]; exact P.2 i hi⟩
  have k15 : h2 85 15 = ((0 : Nat) : Int) := by rw [← hh2, setH_k (by decide), setH_k (by decide), setH_self]; rfl
  have k19 : h2 85 19 = 0 := by rw [← hh2, setH_k (by decide), setH_self]
  have k18 : h2 85 18 = -1 := by rw [← hh2, setH_self]
  have k20 : h2 85 20 = x := by rw [← hh2, setH_k (by decide), setH_k (by decide), setH_k (by decide), setH_self]
  refine sp_nextM (p := 0) X2 (by omega) P2 (by rw [F2.at 85 13 rfl]; exact e13) k15 (fun h3 F3 R3 => ?_)
  have X3 : Fix sh h3 := F3.fix X2 (by decide +kernel)
  simp only [pushR9]
  rw [B_196_19 X3]
  simp only [pushR9]
  rw [B_195_9 X3]
  have F4 : Fr [] [(85, 21), (85, 23), (85, 26)] h3 (setH (setH (setH h3 85 21 0) 85 23 0) 85 26 0) := (((Fr.refl h3).set rfl).set rfl).set rfl
  refine hq _ (((F2.mono rfl).trans (F3.mono rfl)).trans (F4.mono rfl)) ⟨⟨by omega, by omega, by omega⟩, ⟨P.1, fun i hi => by rw [F4.row 94 rfl, F3.row 94 rfl]; exact P2.2 i hi⟩, ?_, ?_, ?_, ?_, ?_⟩ ?_ ?_
  · unfold RdM; rw [F4.at 85 13 rfl, F4.at 85 14 rfl, F4.at 85 15 rfl, F4.at 85 16 rfl, F4.at 85 17 rfl]; exact R3
  · rw [F4.at 85 19 rfl, F3.at 85 19 rfl]; exact k19
  · rw [F4.at 85 20 rfl, F3.at 85 20 rfl, k20, hx]
  · rw [setH_self]; rfl
  · rw [setH_k (by decide), setH_self]; rfl
  · rw [setH_k (by decide), setH_k (by decide), setH_self]; rfl
  · rw [F4.at 85 18 rfl, F3.at 85 18 rfl]; exact k18
/-- the end of a text -/
theorem mEndB (X : Fix sh h) (b19 : h 85 19 = 1) (hq : ∀ h2, Fr [] [(85, 20), (85, 13)] h h2 → h2 85 20 = 0 → h2 85 13 = 0 → Q (9, 0) sh sl h2) : WM sc (d + 4) 220 [(2, 85)] sh sl h Q := by
  rw [B_220_0 X, b19, show w32 1 = 1 from rfl, if_pos (by decide), B_220_19 X]
  exact hq _ (((Fr.refl h).set rfl).set rfl) (by rw [setH_k (by decide), setH_self]) (setH_self _ _ _ _)
theorem mEnd (X : Fix sh h) (H : MEx T n od p lf c h) (q0 : ∀ h2, kdT T n p ≠ 0 → Fr [] [(85, 20), (85, 13), (85, 18), (85, 19)] h h2 → h2 85 19 = 1 → h2 85 18 = ((stT T n p : Nat) : Int) → h2 85 20 = 0 → h2 85 13 = 0 → Q (9, 0) sh sl h2) (q1 : ∀ h2, kdT T n p = 0 → Fr [] [(85, 20), (85, 13)] h h2 → h2 85 20 = 0 → h2 85 13 = 0 → Q (9, 0) sh sl h2) : WM sc (d + 4) 220 [(2, 85)] sh sl h Q := by
  have kb := kdT_b (T := T) (n := n) (p := p)
  rw [B_220_0 X, H.2.2.2.1, w32_0, if_neg (by simp), H.2.2.1.2.2.2.1, w32_id (a := ((kdT T n p : Nat) : Int)) (by omega) (by omega)]
  refine ite_i (fun k0 => ?_) (fun k0 => ?_)
  · rw [B_220_19 X]
    exact q1 _ (by omega) (((Fr.refl h).set rfl).set rfl) (by rw [setH_k (by decide), setH_self]) (setH_self _ _ _ _)
  · refine xMustF X H rfl (fun h2 F2 g1 g2 => ?_)
    simp only [pushR9]
    rw [B_220_19 (F2.fix X (by decide +kernel))]
    exact q0 _ (by omega) (((F2.mono rfl).set rfl).set rfl) (by rw [setH_k (by decide), setH_k (by decide)]; exact g1) (by rw [setH_k (by decide), setH_k (by decide)]; exact g2) (by rw [setH_k (by decide), setH_self]) (setH_self _ _ _ _)
theorem mTxt194 {js : V} (X : Fix sh h) (q0 : ∀ h2 q, txR T n false 12 0 0 [] = .inl q → Fr MtP MzS h h2 → h2 85 19 = 1 → h2 85 18 = (q : Int) → h2 85 20 = 0 → h2 85 13 = 0 → WF sc (d + 14) 194 68 [(2, 85), js,js] [] sh sl h2 Q) (q1 : ∀ (h2 : Sto) (L : List Clx) (c : Nat), txR T n false 12 0 0 [] = .inr L → Fr MtP MzS h h2 → h2 85 19 = 0 → h2 85 18 = -1 → L.length ≤ 12 → c ≤ 400 → h2 85 21 = (L.length : Int) → h2 85 23 = (c : Int) → MKb h2 → (∀ i cl, L[i]? = some cl → ClM false h2 c i cl) → h2 85 20 = 0 → h2 85 13 = 0 → WF sc (d + 14) 194 68 [(2, 85), js,js] [] sh sl h2 Q) : ∀ (r i p lf c : Nat) (L : List Clx) (h' : Sto) (Q' : Pst), i + r = 12 → L.length = i → Fr MtP MzS h h' → h' 85 18 = -1 → MKb h' → MEx T n false p lf c h' → h' 85 21 = (i : Int) → (∀ j cl, L[j]? = some cl → ClM false h' c j cl) → txR T n false r p lf L = txR T n false 12 0 0 [] → (∀ h2, Fix sh h2 → WF sc (d + 14) 194 37 [(2, 85), js,js] [] sh sl h2 Q → Q' (9, 0) sh sl h2) → WM sc (d + 13) 200 [(2, 85)] sh sl h' Q' := by
  -- after a fault
  have bad : ∀ h2 q, txR T n false 12 0 0 [] = .inl q → Fr MtP MzS h h2 → h2 85 19 = 1 → h2 85 18 = (q : Int) → WF sc (d + 14) 194 37 [(2, 85), js,js] [] sh sl h2 Q := fun h2 q e F2 g1 g2 => by
    have X2 : Fix sh h2 := F2.fix X (by decide +kernel)
    rw [B_194_37 X2, g1, show w32 1 = 1 from rfl, if_pos (by decide)]
    refine mEndB X2 g1 (fun h3 F3 k1 k2 => ?_)
    simp only [pushR9]
    exact q0 h3 q e (F2.trans (F3.mono rfl)) (by rw [F3.at 85 19 rfl]; exact g1) (by rw [F3.at 85 18 rfl]; exact g2) k1 k2
  intro r
  induction r with
  | zero =>
    intro i p lf c L h' Q' hi hL F' g' k' H' e21 hC hR hQ
    have X' : Fix sh h' := F'.fix X (by decide +kernel)
    refine mLawCl X' H' e21 (by omega) (fun h2 q a1 a2 F2 g1 g2 => ?_) (fun h2 p5 lf5 cl c2 a1 => by omega)
    have F3 := F'.trans (F2.mono (S' := MzS) rfl)
    refine hQ h2 (F3.fix X (by decide +kernel)) (bad h2 q ?_ F3 g1 g2)
    rw [← hR, a1 (by omega)]; rfl
  | succ r ih =>
    intro i p lf c L h' Q' hi hL F' g' k' H' e21 hC hR hQ
    have X' : Fix sh h' := F'.fix X (by decide +kernel)
    refine mLawCl X' H' e21 (by omega) (fun h2 q a1 a2 F2 g1 g2 => ?_) (fun h2 p5 lf5 cl c2 a1 ec M2 H2 hc hp5 f21 hcl => ?_)
    · have F3 := F'.trans (F2.mono (S' := MzS) rfl)
      exact hQ h2 (F3.fix X (by decide +kernel)) (bad h2 q (by rw [← hR]; exact txR_0 (a2 (by omega))) F3 g1 g2)
    · have F3 := F'.trans (M2.1.mono (S' := MzS) rfl)
      have X2 : Fix sh h2 := F3.fix X (by decide +kernel)
      have k2 := M2.2.2.1 k'
      have g2 : h2 85 18 = -1 := by rw [M2.1.at 85 18 rfl]; exact g'
      have b2 := H2.1
      have hn := H2.2.1.1
      have len : (L ++ [cl]).length = i + 1 := by rw [List.length_append, hL]; rfl
      have cls : ∀ j cl2, (L ++ [cl])[j]? = some cl2 → ClM false h2 c2 j cl2 := fun j cl2 hj => by
        by_cases ji : j < i
        · rw [List.getElem?_append_left (by omega)] at hj
          exact (hC j cl2 hj).mono hc (fun m hm => M2.2.1 m hm) (fun m hm => M2.2.2.2 m (by omega))
        · rw [List.getElem?_append_right (by omega)] at hj
          have j0 : j - L.length = 0 := by
            cases hx : j - L.length with
            | zero => rfl
            | succ m => rw [hx] at hj; cases hj
          rw [j0] at hj
          cases hj
          have ej : j = i := by omega
          subst ej
          exact hcl
      refine hQ h2 X2 ?_
      rw [B_194_37 X2, H2.2.2.2.1, w32_0, if_neg (by simp)]
      refine sp_isSign (c := 59) X2 H2.1.1 H2.2.1 H2.2.2.1 (by decide) (by decide) ?_
      simp only [pushR0]
      rw [B_194_50 X2]
      by_cases s : seeT T n p5 [59] = true
      · have k3 := (kw_sign (c := 59) H2.1.1 (by decide)).mpr s
        rw [if_pos s, show w32 1 = 1 from rfl, if_neg (by decide)]
        refine xNext X2 H2 (fun h3 F4 H3 => ?_)
        have X3 : Fix sh h3 := F4.fix X2 (by decide +kernel)
        simp only [pushR9]
        rw [B_194_57 X3]
        refine ih (i + 1) (enT T n p5) lf5 c2 (L ++ [cl]) h3 _ (by omega) len (F3.trans (F4.mono rfl)) (by rw [F4.at 85 18 rfl]; exact g2) (k2.cg (F4.at 85 23 rfl) (F4.row 96 rfl) (F4.row 97 rfl)) H3 (by rw [F4.at 85 21 rfl]; exact f21) (fun j cl2 hj => (cls j cl2 hj).mono (Nat.le_refl _) (fun m _ => by rw [F4.row 96 rfl, F4.row 97 rfl]; exact ⟨rfl, rfl⟩) (fun m _ => by rw [F4.row 95 rfl, F4.row 116 rfl]; exact ⟨rfl, rfl⟩)) (by rw [← hR, txR_1 ec, if_neg (by omega), if_pos s]) (fun h4 X4 hw => ?_)
        simp only [pushR9]
        rw [B_194_61 X4]
        exact hw
      · rw [if_neg s, w32_0, if_pos rfl]
        refine mEnd X2 H2 (fun h3 k0 F4 j1 j2 j3 j4 => ?_) (fun h3 k0 F4 j3 j4 => ?_)
        · simp only [pushR9]
          exact q0 h3 _ (by rw [← hR, txR_1 ec, if_neg k0, if_neg s]) (F3.trans (F4.mono rfl)) j1 j2 j3 j4
        · simp only [pushR9]
          exact q1 h3 _ c2 (by rw [← hR, txR_1 ec, if_pos k0]) (F3.trans (F4.mono rfl)) (by rw [F4.at 85 19 rfl]; exact H2.2.2.2.1) (by rw [F4.at 85 18 rfl]; exact g2) (by omega) (by omega) (by rw [F4.at 85 21 rfl, f21, len]) (by rw [F4.at 85 23 rfl]; exact H2.2.2.2.2.2.2) (k2.cg (F4.at 85 23 rfl) (F4.row 96 rfl) (F4.row 97 rfl)) (fun j cl2 hj => (cls j cl2 hj).mono (Nat.le_refl _) (fun m _ => by rw [F4.row 96 rfl, F4.row 97 rfl]; exact ⟨rfl, rfl⟩) (fun m _ => by rw [F4.row 95 rfl, F4.row 116 rfl]; exact ⟨rfl, rfl⟩)) j3 j4
theorem mTxt269 {js : V} (X : Fix sh h) (q0 : ∀ h2 q, txR T n true 12 0 0 [] = .inl q → Fr MtP MzS h h2 → h2 85 19 = 1 → h2 85 18 = (q : Int) → h2 85 20 = 0 → h2 85 13 = 0 → WF sc (d + 15) 269 50 [(2, 85), js,js,js] [] sh sl h2 Q) (q1 : ∀ (h2 : Sto) (L : List Clx) (c : Nat), txR T n true 12 0 0 [] = .inr L → Fr MtP MzS h h2 → h2 85 19 = 0 → h2 85 18 = -1 → L.length ≤ 12 → c ≤ 400 → h2 85 21 = (L.length : Int) → h2 85 23 = (c : Int) → MKb h2 → (∀ i cl, L[i]? = some cl → ClM true h2 c i cl) → h2 85 20 = 0 → h2 85 13 = 0 → WF sc (d + 15) 269 50 [(2, 85), js,js,js] [] sh sl h2 Q) : ∀ (r i p lf c : Nat) (L : List Clx) (h' : Sto) (Q' : Pst), i + r = 12 → L.length = i → Fr MtP MzS h h' → h' 85 18 = -1 → MKb h' → MEx T n true p lf c h' → h' 85 21 = (i : Int) → (∀ j cl, L[j]? = some cl → ClM true h' c j cl) → txR T n true r p lf L = txR T n true 12 0 0 [] → (∀ h2, Fix sh h2 → WF sc (d + 15) 269 19 [(2, 85), js,js,js] [] sh sl h2 Q → Q' (9, 0) sh sl h2) → WM sc (d + 14) 270 [(2, 85)] sh sl h' Q' := by
  -- after a fault
  have bad : ∀ h2 q, txR T n true 12 0 0 [] = .inl q → Fr MtP MzS h h2 → h2 85 19 = 1 → h2 85 18 = (q : Int) → WF sc (d + 15) 269 19 [(2, 85), js,js,js] [] sh sl h2 Q := fun h2 q e F2 g1 g2 => by
    have X2 : Fix sh h2 := F2.fix X (by decide +kernel)
    rw [B_269_19 X2, g1, show w32 1 = 1 from rfl, if_pos (by decide)]
    refine mEndB X2 g1 (fun h3 F3 k1 k2 => ?_)
    simp only [pushR9]
    exact q0 h3 q e (F2.trans (F3.mono rfl)) (by rw [F3.at 85 19 rfl]; exact g1) (by rw [F3.at 85 18 rfl]; exact g2) k1 k2
  intro r
  induction r with
  | zero =>
    intro i p lf c L h' Q' hi hL F' g' k' H' e21 hC hR hQ
    have X' : Fix sh h' := F'.fix X (by decide +kernel)
    refine mOrdCl X' H' e21 (by omega) (fun h2 q a1 a2 F2 g1 g2 => ?_) (fun h2 p5 lf5 cl c2 a1 => by omega)
    have F3 := F'.trans (F2.mono (S' := MzS) rfl)
    refine hQ h2 (F3.fix X (by decide +kernel)) (bad h2 q ?_ F3 g1 g2)
    rw [← hR, a1 (by omega)]; rfl
  | succ r ih =>
    intro i p lf c L h' Q' hi hL F' g' k' H' e21 hC hR hQ
    have X' : Fix sh h' := F'.fix X (by decide +kernel)
    refine mOrdCl X' H' e21 (by omega) (fun h2 q a1 a2 F2 g1 g2 => ?_) (fun h2 p5 lf5 cl c2 a1 ec M2 H2 hc hp5 f21 hcl => ?_)
    · have F3 := F'.trans (F2.mono (S' := MzS) rfl)
      exact hQ h2 (F3.fix X (by decide +kernel)) (bad h2 q (by rw [← hR]; exact txR_0 (a2 (by omega))) F3 g1 g2)
    · have F3 := F'.trans (M2.1.mono (S' := MzS) rfl)
      have X2 : Fix sh h2 := F3.fix X (by decide +kernel)
      have k2 := M2.2.2.1 k'
      have g2 : h2 85 18 = -1 := by rw [M2.1.at 85 18 rfl]; exact g'
      have b2 := H2.1
      have hn := H2.2.1.1
      have len : (L ++ [cl]).length = i + 1 := by rw [List.length_append, hL]; rfl
      have cls : ∀ j cl2, (L ++ [cl])[j]? = some cl2 → ClM true h2 c2 j cl2 := fun j cl2 hj => by
        by_cases ji : j < i
        · rw [List.getElem?_append_left (by omega)] at hj
          exact (hC j cl2 hj).mono hc (fun m hm => M2.2.1 m hm) (fun m hm => M2.2.2.2 m (by omega))
        · rw [List.getElem?_append_right (by omega)] at hj
          have j0 : j - L.length = 0 := by
            cases hx : j - L.length with
            | zero => rfl
            | succ m => rw [hx] at hj; cases hj
          rw [j0] at hj
          cases hj
          have ej : j = i := by omega
          subst ej
          exact hcl
      refine hQ h2 X2 ?_
      rw [B_269_19 X2, H2.2.2.2.1, w32_0, if_neg (by simp)]
      refine sp_isSign (c := 59) X2 H2.1.1 H2.2.1 H2.2.2.1 (by decide) (by decide) ?_
      simp only [pushR0]
      rw [B_269_32 X2]
      by_cases s : seeT T n p5 [59] = true
      · have k3 := (kw_sign (c := 59) H2.1.1 (by decide)).mpr s
        rw [if_pos s, show w32 1 = 1 from rfl, if_neg (by decide)]
        refine xNext X2 H2 (fun h3 F4 H3 => ?_)
        have X3 : Fix sh h3 := F4.fix X2 (by decide +kernel)
        simp only [pushR9]
        rw [B_269_39 X3]
        refine ih (i + 1) (enT T n p5) lf5 c2 (L ++ [cl]) h3 _ (by omega) len (F3.trans (F4.mono rfl)) (by rw [F4.at 85 18 rfl]; exact g2) (k2.cg (F4.at 85 23 rfl) (F4.row 96 rfl) (F4.row 97 rfl)) H3 (by rw [F4.at 85 21 rfl]; exact f21) (fun j cl2 hj => (cls j cl2 hj).mono (Nat.le_refl _) (fun m _ => by rw [F4.row 96 rfl, F4.row 97 rfl]; exact ⟨rfl, rfl⟩) (fun m _ => by rw [F4.row 95 rfl, F4.row 116 rfl]; exact ⟨rfl, rfl⟩)) (by rw [← hR, txR_1 ec, if_neg (by omega), if_pos s]) (fun h4 X4 hw => ?_)
        simp only [pushR9]
        rw [B_269_43 X4]
        exact hw
      · rw [if_neg s, w32_0, if_pos rfl]
        refine mEnd X2 H2 (fun h3 k0 F4 j1 j2 j3 j4 => ?_) (fun h3 k0 F4 j3 j4 => ?_)
        · simp only [pushR9]
          exact q0 h3 _ (by rw [← hR, txR_1 ec, if_neg k0, if_neg s]) (F3.trans (F4.mono rfl)) j1 j2 j3 j4
        · simp only [pushR9]
          exact q1 h3 _ c2 (by rw [← hR, txR_1 ec, if_pos k0]) (F3.trans (F4.mono rfl)) (by rw [F4.at 85 19 rfl]; exact H2.2.2.2.1) (by rw [F4.at 85 18 rfl]; exact g2) (by omega) (by omega) (by rw [F4.at 85 21 rfl, f21, len]) (by rw [F4.at 85 23 rfl]; exact H2.2.2.2.2.2.2) (k2.cg (F4.at 85 23 rfl) (F4.row 96 rfl) (F4.row 97 rfl)) (fun j cl2 hj => (cls j cl2 hj).mono (Nat.le_refl _) (fun m _ => by rw [F4.row 96 rfl, F4.row 97 rfl]; exact ⟨rfl, rfl⟩) (fun m _ => by rw [F4.row 95 rfl, F4.row 116 rfl]; exact ⟨rfl, rfl⟩)) j3 j4
end MTX
