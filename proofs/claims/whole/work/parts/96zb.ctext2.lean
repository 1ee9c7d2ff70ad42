/-! ===== the class's whole text ===== -/
abbrev TxS : List (Nat × Nat) := [(43, 4), (43, 5), (43, 6), (43, 7), (43, 8), (43, 10), (34, 1), (34, 0), (43, 2), (43, 9)]
def ClC (od : Bool) (F : Nat) (h : Sto) (c i : Nat) (cl : Clx) : Prop := h 35 i = (cl.1 : Int) ∧ SgO F h c (h 39 i) cl.2.1 ∧ SgO F h c (h 37 i) cl.2.2.1 ∧ SgO F h c (h 38 i) cl.2.2.2.1 ∧ h 36 i = (cl.2.2.2.2.1 : Int) ∧ (od = true → h 40 i = (cl.2.2.2.2.2 : Int))
theorem ClC.mono {od : Bool} {F c c2 i : Nat} {h h2 : Sto} {cl : Clx} (H : ClC od F h c i cl) (hc : c ≤ c2) (e : ∀ j, j < c → h2 41 j = h 41 j ∧ h2 42 j = h 42 j) (r : ∀ r, 35 ≤ r → r ≤ 40 → h2 r i = h r i) : ClC od F h2 c2 i cl := by
  obtain ⟨a1, a2, a3, a4, a5, a6⟩ := H
  refine ⟨?_, ?_, ?_, ?_, ?_, fun q => ?_⟩
  · rw [r 35 (by omega) (by omega)]; exact a1
  · rw [r 39 (by omega) (by omega)]; exact a2.mono hc e
  · rw [r 37 (by omega) (by omega)]; exact a3.mono hc e
  · rw [r 38 (by omega) (by omega)]; exact a4.mono hc e
  · rw [r 36 (by omega) (by omega)]; exact a5
  · rw [r 40 (by omega) (by omega)]; exact a6 q
/-- the class between two clauses -/
def TI (T : Nat → Int) (n : Nat) (od : Bool) (p lf c : Nat) (h : Sto) : Prop := (p ≤ n ∧ c ≤ p ∧ lf ≤ 50) ∧ TpC T n h ∧ RdC T n p h ∧ h 43 3 = (if od = true then 1 else 0) ∧ h 43 8 = (lf : Int) ∧ h 34 1 = (c : Int)
section CTX2
variable {sc : Nat × (Nat → Int)} {sh : Shp} {sl : Nat} {T : Nat → Int} {n : Nat} {od : Bool} {F : Nat} {h : Sto} {Q : Pst}
theorem CI.ti {ci p lf ws c : Nat} (H : CI T n od ci p lf ws c h) : TI T n od p lf c h := ⟨⟨H.1.1, H.1.2.1, H.1.2.2.1⟩, H.2.1, H.2.2.1, H.2.2.2.1, H.2.2.2.2.1, H.2.2.2.2.2.2.1⟩
/-- a clause begins -/
def bgC (h : Sto) (i : Nat) : Sto := setH (setH (setH (setH (setH (setH h 43 9 (i : Int)) 36 i 1) 37 i (-1)) 38 i (-1)) 39 i (-1)) 40 i 0
theorem bgC_fr {i : Nat} : Fr TxP TxS h (bgC h i) := ((((((Fr.refl h).set rfl).setP rfl).setP rfl).setP rfl).setP rfl).setP rfl
theorem bgC_row {i r : Nat} (hr : r ≠ 43) (h1 : r < 36 ∨ 40 < r) : bgC h i r = h r := by
  unfold bgC
  rw [setH_o (by omega), setH_o (by omega), setH_o (by omega), setH_o (by omega), setH_o (by omega), setH_o hr]
theorem bgC_43 {i k : Nat} (hk : k ≠ 9) : bgC h i 43 k = h 43 k := by
  unfold bgC
  rw [setH_o (by omega), setH_o (by omega), setH_o (by omega), setH_o (by omega), setH_o (by omega), setH_k hk]
theorem bgC_ot {i j r : Nat} (hj : j ≠ i) (hr : r ≠ 43) : bgC h i r j = h r j := by
  unfold bgC
  rw [setH_other (Or.inr hj), setH_other (Or.inr hj), setH_other (Or.inr hj), setH_other (Or.inr hj), setH_other (Or.inr hj), setH_other (Or.inl hr)]
theorem TI.ci {i p lf c : Nat} (H : TI T n od p lf c h) (hi : i < 12) : CI T n od i p lf 0 c (bgC h i) := by
  obtain ⟨⟨a1, a2, a3⟩, P, R, b1, b2, b3⟩ := H
  refine ⟨⟨a1, a2, a3, by omega, hi⟩, ⟨P.1, fun j hj => by rw [bgC_row (by decide) (by omega)]; exact P.2 j hj⟩, ?_, by rw [bgC_43 (by decide)]; exact b1, by rw [bgC_43 (by decide)]; exact b2, ?_, by rw [bgC_row (by decide) (by omega)]; exact b3, fun _ => ?_⟩
  · unfold RdC; rw [bgC_43 (by decide), bgC_43 (by decide), bgC_43 (by decide), bgC_43 (by decide), bgC_43 (by decide)]; exact R
  · unfold bgC; rw [setH_o (by decide), setH_o (by decide), setH_o (by decide), setH_o (by decide), setH_o (by decide), setH_self]
  · unfold bgC; rw [setH_self]; rfl
theorem txR_0 {r p lf q : Nat} {L : List Clx} (e : clR T n od p lf = .inl q) : txR T n od (r + 1) p lf L = .inl q := by
  unfold txR; rw [e]
theorem txR_1 {r p lf p1 lf1 : Nat} {cl : Clx} {L : List Clx} (e : clR T n od p lf = .inr (p1, lf1, cl)) : txR T n od (r + 1) p lf L = if kdT T n p1 = 0 then .inr (L ++ [cl]) else if seeT T n p1 [59] = true then txR T n od r (enT T n p1) lf1 (L ++ [cl]) else .inl (stT T n p1) := by
  conv => lhs; unfold txR
  rw [e]
theorem cText {D : Nat} (hF : (od = true → 20 ≤ F) ∧ 8 ≤ F) (hD : 48 ≤ D) (X : Fix sh h) (P : TpC T n h) (hod : h 43 3 = (if od = true then 1 else 0)) (q0 : ∀ h2 q, txR T n od 12 0 0 [] = .inl q → Fr TxP TxS h h2 → h2 43 10 = (q : Int) → Q (0, 0) sh sl h2) (q1 : ∀ (h2 : Sto) (L : List Clx) (c : Nat), txR T n od 12 0 0 [] = .inr L → Fr TxP TxS h h2 → h2 43 10 = -1 → L.length ≤ 12 → c ≤ 400 → h2 34 0 = (L.length : Int) → h2 34 1 = (c : Int) → CKb h2 → (∀ i cl, L[i]? = some cl → ClC od F h2 c i cl) → Q (0, 1) sh sl h2) : WM sc D 56 [(2, 43), (0, (n : Int))] sh sl h Q := by
  obtain ⟨E, rfl⟩ : ∃ E, D = E + 48 := ⟨D - 48, by omega⟩
  have hn := P.1
  have lp : ∀ (r i p lf c : Nat) (L : List Clx) (h' : Sto), i + r = 12 → L.length = i → Fr TxP TxS h h' → h' 43 10 = -1 → CKb h' → TI T n od p lf c h' → (∀ j cl, L[j]? = some cl → ClC od F h' c j cl) → txR T n od r p lf L = txR T n od 12 0 0 [] → WF sc (E + 48) 56 50 [(2, 43), (0, (n : Int)), (0, (i : Int))] [] sh sl h' Q := by
    intro r
    induction r with
    | zero =>
      intro i p lf c L h' hi hL F' g' k' H' hC hR
      have X' : Fix sh h' := F'.fix X (by decide +kernel)
      rw [B_56_50 X', w32_id (a := (i : Int)) (by omega) (by omega), if_pos (by omega), B_62_0 X']
      simp only [pushR0]
      have F2 : Fr TxP TxS h (setH h' 43 10 (h' 43 5)) := F'.set rfl
      rw [B_56_202 (F2.fix X (by decide +kernel)) (Or.inl rfl)]
      exact q0 _ (stT T n p) (by rw [← hR]; rfl) F2 (by rw [setH_self, H'.2.2.1.2.2.1])
    | succ r ih =>
      intro i p lf c L h' hi hL F' g' k' H' hC hR
      have X' : Fix sh h' := F'.fix X (by decide +kernel)
      have F1 : Fr TxP TxS h (bgC h' i) := F'.trans bgC_fr
      have X1 : Fix sh (bgC h' i) := F1.fix X (by decide +kernel)
      have H1 := H'.ci (i := i) (by omega)
      have z36 : bgC h' i 36 i = 1 := by unfold bgC; rw [setH_o (by decide), setH_o (by decide), setH_o (by decide), setH_o (by decide), setH_self]
      have z37 : bgC h' i 37 i = -1 := by unfold bgC; rw [setH_o (by decide), setH_o (by decide), setH_o (by decide), setH_self]
      have z38 : bgC h' i 38 i = -1 := by unfold bgC; rw [setH_o (by decide), setH_o (by decide), setH_self]
      have z39 : bgC h' i 39 i = -1 := by unfold bgC; rw [setH_o (by decide), setH_self]
      have z10 : bgC h' i 43 10 = -1 := by rw [bgC_43 (by decide)]; exact g'
      have bad : ∀ h2 q, clR T n od p lf = .inl q → Fr TxP PsS (bgC h' i) h2 → h2 43 10 = (q : Int) → Q (0, 0) sh sl h2 := fun h2 q e F2 g2 => q0 h2 q (by rw [← hR]; exact txR_0 e) (F1.trans (F2.mono rfl)) g2
      -- after the clause's first half
      have half : ∀ h2, PtR T n od i F p lf c (bgC h' i) h2 → WM sc (E + 47) 73 [(2, 43), (0, (i : Int))] sh sl h2 (fun r sh1 sl1 h1 => WF sc (E + 48) 56 154 [(2, 43), (0, (n : Int)), (0, (i : Int))] (pushR r []) sh1 sl1 h1 Q) := fun h2 ⟨k, p4, lf3, ws3, s1, s2, tm, c1, t0, t1, C2, H2, hc, hp, r35, r36, sg1, sg2, r39⟩ => by
        have X2 := C2.fix X1
        refine cCond hF (by omega) X2 H2 r39 (fun h3 q e3 F3 g3 => ?_) (fun h3 p5 lf5 ws5 ts c2 e3 C3 H3 hc3 hp3 sg3 sm => ?_)
        · simp only [pushR0]
          rw [B_56_154 (F3.fix X2 (by decide +kernel)), w32_0, if_neg (by simp)]
          exact bad h3 q (t0 q e3) (C2.1.trans F3) g3
        · have X3 := C3.fix X2
          have ec := t1 p5 lf5 ws5 ts e3
          have C13 := C2.trans C3 hc
          have F4 : Fr TxP TxS h (setH h3 34 0 ((i : Int) + 1)) := (F1.trans (C13.1.mono rfl)).set rfl
          have X4 : Fix sh (setH h3 34 0 ((i : Int) + 1)) := F4.fix X (by decide +kernel)
          have g4 : setH h3 34 0 ((i : Int) + 1) 43 10 = -1 := by rw [setH_o (by decide), C13.2.2.2.1]; exact z10
          have k4 : CKb (setH h3 34 0 ((i : Int) + 1)) := (C13.2.2.2.2 (k'.cg (by rw [bgC_row (by decide) (by omega)]) (bgC_row (by decide) (by omega)) (bgC_row (by decide) (by omega)))).cg (setH_k (by decide)) (setH_o (by decide)) (setH_o (by decide))
          have b3 := H3.bd
          have kb := kdT_b (T := T) (n := n) (p := p5)
          have clC : ∀ h5 : Sto, (∀ r, r ≠ 34 → r ≠ 43 → h5 r = h3 r) → ∀ j cl, (L ++ [(k, ts, s1, s2, tm, ws5)])[j]? = some cl → ClC od F h5 c2 j cl := fun h5 hr j cl hj => by
            by_cases ji : j < i
            · rw [List.getElem?_append_left (by omega)] at hj
              refine (hC j cl hj).mono (by omega) (fun m hm => ?_) (fun r h1 h2 => ?_)
              · rw [hr 41 (by decide) (by decide), hr 42 (by decide) (by decide)]
                have a := C13.2.1 m hm
                rw [bgC_row (by decide) (by omega), bgC_row (by decide) (by omega)] at a
                exact a
              · rw [hr r (by omega) (by omega), C13.2.2.1 r j h1 h2 (by omega), bgC_ot (by omega) (by omega)]
            · rw [List.getElem?_append_right (by omega)] at hj
              have j0 : j - L.length = 0 := by
                cases hx : j - L.length with
                | zero => rfl
                | succ m => rw [hx] at hj; cases hj
              rw [j0] at hj
              cases hj
              have ej : j = i := by omega
              subst ej
              refine ⟨?_, ?_, ?_, ?_, ?_, fun q => ?_⟩
              · rw [hr 35 (by decide) (by decide), sm 35 (by omega)]; exact r35
              · rw [hr 39 (by decide) (by decide)]; exact sg3.mono (Nat.le_refl _) (fun m _ => by rw [hr 41 (by decide) (by decide), hr 42 (by decide) (by decide)]; exact ⟨rfl, rfl⟩)
              · rw [hr 37 (by decide) (by decide), sm 37 (by omega)]
                refine sg1.mono hc3 (fun m hm => ?_)
                rw [hr 41 (by decide) (by decide), hr 42 (by decide) (by decide)]; exact C3.2.1 m hm
              · rw [hr 38 (by decide) (by decide), sm 38 (by omega)]
                refine sg2.mono hc3 (fun m hm => ?_)
                rw [hr 41 (by decide) (by decide), hr 42 (by decide) (by decide)]; exact C3.2.1 m hm
              · rw [hr 36 (by decide) (by decide), sm 36 (by omega)]; exact r36
              · rw [hr 40 (by decide) (by decide)]; exact H3.2.2.2.2.2.2.2 q
          have len : (L ++ [(k, ts, s1, s2, tm, ws5)]).length = i + 1 := by rw [List.length_append, hL]; rfl
          have s4 : ∀ r, r ≠ 34 → r ≠ 43 → setH h3 34 0 ((i : Int) + 1) r = h3 r := fun r h1 _ => setH_o h1
          have H4 : CI T n od i p5 lf5 ws5 c2 (setH h3 34 0 ((i : Int) + 1)) := by
            obtain ⟨a, P3, R3, b1, b2, b3, b4, b5⟩ := H3
            refine ⟨a, ⟨P3.1, fun j hj => by rw [setH_o (by decide)]; exact P3.2 j hj⟩, ?_, by rw [setH_o (by decide)]; exact b1, by rw [setH_o (by decide)]; exact b2, by rw [setH_o (by decide)]; exact b3, by rw [setH_k (by decide)]; exact b4, fun q => by rw [setH_o (by decide)]; exact b5 q⟩
            unfold RdC; rw [setH_o (by decide)]; exact R3
          simp only [pushR0]
          rw [B_56_154 X3, show w32 1 = 1 from rfl, if_pos (by decide), H3.2.2.1.2.1, w32_id (a := ((kdT T n p5 : Nat) : Int)) (by omega) (by omega)]
          refine ite_i (fun k0 => ?_) (fun k0 => ?_)
          · refine cTook (w := [59]) rfl (by decide) X4 H4 (fun h5 s F5 H5 => ?_) (fun s => ?_)
            · have X5 : Fix sh h5 := F5.fix X4 (by decide +kernel)
              simp only [pushR0]
              rw [B_56_184 X5, show w32 1 = 1 from rfl, if_pos (by decide)]
              refine ih (i + 1) (enT T n p5) lf5 c2 _ h5 (by omega) len (F4.trans (F5.mono rfl)) (by rw [F5.at 43 10 rfl]; exact g4) (k4.cg (F5.at 34 1 rfl) (F5.row 41 rfl) (F5.row 42 rfl)) H5.ti (fun j cl hj => ?_) (by rw [← hR, txR_1 ec, if_neg (by omega), if_pos s])
              have a := clC _ s4 j cl hj
              exact a.mono (Nat.le_refl _) (fun m _ => by rw [F5.row 41 rfl, F5.row 42 rfl]; exact ⟨rfl, rfl⟩) (fun r h1 h2 => F5.at r j (by
                have hr : r = 35 ∨ r = 36 ∨ r = 37 ∨ r = 38 ∨ r = 39 ∨ r = 40 := by omega
                rcases hr with e | e | e | e | e | e <;> subst e <;> rfl))
            · simp only [pushR0]
              rw [B_56_184 X4, w32_0, if_neg (by simp)]
              refine cFail X4 H4 (fun h5 F5 g5 => ?_)
              simp only [pushR0]
              rw [B_56_191 (F5.fix X4 (by decide +kernel)) (Or.inl rfl)]
              exact q0 h5 _ (by rw [← hR, txR_1 ec, if_neg (by omega), if_neg (by rw [s]; decide)]) (F4.trans (F5.mono rfl)) g5
          · exact q1 _ _ c2 (by rw [← hR, txR_1 ec, if_pos (by omega)]) F4 g4 (by omega) (by omega) (by rw [setH_self, len]; omega) (by rw [setH_k (by decide)]; exact H3.2.2.2.2.2.2.1) k4 (clC _ s4)
      rw [B_56_50 X', w32_id (a := (i : Int)) (by omega) (by omega), if_neg (by omega), if_neg (by omega), Int.toNat_natCast, H'.2.2.2.1]
      refine ⟨⟨by omega, by omega⟩, ⟨by omega, by omega⟩, ⟨by omega, by omega⟩, ⟨by omega, by omega⟩, ⟨by omega, by omega⟩, ?_⟩
      cases od with
      | false =>
        rw [show (if (false : Bool) = true then (1 : Int) else 0) = 0 from rfl, w32_0, if_pos rfl]
        refine cLawCl hF.2 (by omega) X1 H1 z36 z37 z38 z39 (fun h2 q e F2 g2 => ?_) (fun h2 pt => ?_)
        · simp only [pushR0]
          rw [B_56_146 (F2.fix X1 (by decide +kernel)), w32_0, if_pos rfl]
          exact bad h2 q e F2 g2
        · have C2 : Fix sh h2 := by obtain ⟨_, _, _, _, _, _, _, _, _, _, C2, _⟩ := pt; exact C2.fix X1
          simp only [pushR0]
          rw [B_56_146 C2, show w32 1 = 1 from rfl, if_neg (by decide)]
          exact half h2 pt
      | true =>
        rw [show (if (true : Bool) = true then (1 : Int) else 0) = 1 from rfl, show w32 1 = 1 from rfl, if_neg (by decide)]
        refine cOrdCl (hF.1 rfl) (by omega) X1 H1 z36 z37 z38 z39 (fun h2 q e F2 g2 => ?_) (fun h2 pt => ?_)
        · simp only [pushR0]
          rw [B_56_135 (F2.fix X1 (by decide +kernel)), w32_0, if_pos rfl]
          exact bad h2 q e F2 g2
        · have C2 : Fix sh h2 := by obtain ⟨_, _, _, _, _, _, _, _, _, _, C2, _⟩ := pt; exact C2.fix X1
          simp only [pushR0]
          rw [B_56_135 C2, show w32 1 = 1 from rfl, if_neg (by decide)]
          exact half h2 pt
  rw [B_56_0 X, w32_id (a := (n : Int)) (by omega) (by omega), if_neg (by omega)]
  have F0 : Fr TxP TxS h (setH (setH (setH (setH (setH (setH h 43 2 (n : Int)) 43 10 (-1)) 43 8 0) 43 6 0) 34 0 0) 34 1 0) := ((((((Fr.refl h).set rfl).set rfl).set rfl).set rfl).set rfl).set rfl
  have X0 := F0.fix X (by decide +kernel)
  have P0 : TpC T n (setH (setH (setH (setH (setH (setH h 43 2 (n : Int)) 43 10 (-1)) 43 8 0) 43 6 0) 34 0 0) 34 1 0) := ⟨P.1, fun i hi => by rw [F0.row 33 rfl]; exact P.2 i hi⟩
  refine sp_nextC (p := 0) X0 (by omega) P0 (by rw [setH_o (by decide), setH_o (by decide), setH_k (by decide), setH_k (by decide), setH_k (by decide), setH_self]) (by rw [setH_o (by decide), setH_o (by decide), setH_self]; rfl) (fun h2 F2 R2 => ?_)
  have X2 : Fix sh h2 := F2.fix X0 (by decide +kernel)
  simp only [pushR9]
  rw [B_56_48 X2]
  refine lp 12 0 0 0 0 [] h2 (by omega) rfl (F0.trans (F2.mono rfl)) ?_ (fun i hi => by rw [F2.at 34 1 rfl, setH_self] at hi; omega) ⟨⟨by omega, by omega, by omega⟩, ⟨P.1, fun i hi => by rw [F2.row 33 rfl]; exact P0.2 i hi⟩, R2, ?_, ?_, ?_⟩ (fun j cl hj => by cases hj) rfl
  · rw [F2.at 43 10 rfl, setH_o (by decide), setH_o (by decide), setH_k (by decide), setH_k (by decide), setH_self]
  · rw [F2.at 43 3 rfl, F0.at 43 3 rfl]; exact hod
  · rw [F2.at 43 8 rfl, setH_o (by decide), setH_o (by decide), setH_k (by decide), setH_self]; rfl
  · rw [F2.at 34 1 rfl, setH_self]; rfl
end CTX2
