section CREAD2
variable {sc : Nat × (Nat → Int)} {sh : Shp} {sl : Nat} {T : Nat → Int} {n : Nat} {od : Bool} {ci F : Nat}
theorem CI.bd {p lf ws c : Nat} {h : Sto} (H : CI T n od ci p lf ws c h) : p ≤ n ∧ c ≤ p ∧ lf ≤ 50 ∧ n ≤ 400 := ⟨H.1.1, H.1.2.1, H.1.2.2.1, H.2.1.1⟩
theorem nx_ag {h h2 : Sto} {c e : Nat} (F2 : Fr [] NxS h h2) : AgE (h 41) (h 42) (h2 41) (h2 42) c e := fun i _ _ => by rw [F2.row 41 rfl, F2.row 42 rfl]; exact ⟨rfl, rfl⟩
theorem CE.ag {h h2 : Sto} {c c0 e : Nat} (E : CE ci c h h2) (he : e ≤ c) : AgE (h 41) (h 42) (h2 41) (h2 42) c0 e := fun i _ hi => E.2.1 i (by omega)
theorem cPart {k : Nat} {inner : Option RdF} {x : Int} (hk : k ≤ 8) (hx : x = 8 - (k : Int)) (hF : (od = true → 20 ≤ F) ∧ 8 ≤ F) (hi : (k = 0 ∧ inner = none) ∨ (1 ≤ k ∧ ∃ S, inner = some S ∧ RGood n false S ∧ CSp sc sh sl T n od ci F (13 + 3 * k) 64 [(2, 43), (0, x + 1)] S)) : CSp sc sh sl T n od ci F (14 + 3 * k) 66 [(2, 43), (0, x)] (partR T n od inner) := by
  intro D p lf ws c h Q hD X H q0 q1
  obtain ⟨E, rfl⟩ : ∃ E, D = E + 13 := ⟨D - 13, by omega⟩
  have bd := H.bd
  rw [B_66_0 X]
  refine cSee (w := [91]) rfl (by decide) X H (fun s => ?_) (fun s => ?_)
  · have eR : partR T n od inner p lf ws = brkR T n inner 93 p lf ws := by unfold partR; rw [if_pos s]
    rw [eR] at q0 q1
    have sn := see_ne bd.1 (by show 1 ≤ 1; omega) s
    simp only [pushR0]
    rcases hi with ⟨k0, hin⟩ | ⟨k1, S, hin, hg, hS⟩
    · subst hin
      rw [B_66_6 X, show w32 1 = 1 from rfl, if_neg (by decide), w32_id (a := x) (by omega) (by omega), if_neg (by omega)]
      refine cFail X H (fun h2 F2 g2 => ?_)
      simp only [pushR0]
      rw [B_66_19 (F2.fix X (by decide +kernel)) (Or.inl rfl)]
      exact q0 h2 _ rfl F2 g2
    · subst hin
      have eB : brkR T n (some S) 93 p lf ws = match S (enT T n p) lf ws with
        | .inl q => .inl q
        | .inr (p1, lf1, ws1, ev) => if seeT T n p1 [93] = true then .inr (enT T n p1, lf1, ws1, ev) else .inl (stT T n p1) := rfl
      rw [B_66_6 X, show w32 1 = 1 from rfl, if_neg (by decide), w32_id (a := x) (by omega) (by omega), if_pos (by omega)]
      refine cNext X H (fun h2 F2 H2 => ?_)
      have X2 : Fix sh h2 := F2.fix X (by decide +kernel)
      simp only [pushR9]
      rw [B_66_24 X2]
      refine hS (E + 12) _ _ _ _ h2 _ (by omega) X2 H2 (fun h3 q hSq F3 g3 => ?_) (fun h3 p1 lf1 ws1 ev c1 hSq E3 H3 hc3 sg => ?_)
      · simp only [pushR0]
        rw [B_66_31 (F3.fix X2 (by decide +kernel)), w32_0, if_pos rfl]
        exact q0 h3 q (by rw [eB, hSq]) ((F2.mono rfl).trans F3) g3
      · have X3 : Fix sh h3 := E3.fix X2
        have b3 := H3.bd
        simp only [pushR0]
        rw [B_66_31 X3, show w32 1 = 1 from rfl, if_neg (by decide)]
        refine cTook (w := [93]) rfl (by decide) X3 H3 (fun h4 s4 F4 H4 => ?_) (fun s4 => ?_)
        · have s5 := see_ne b3.1 (by show 1 ≤ 1; omega) s4
          simp only [pushR0]
          rw [B_66_40 (F4.fix X3 (by decide +kernel)), show w32 1 = 1 from rfl, if_pos (by decide)]
          refine q1 h4 _ _ _ _ c1 (by rw [eB, hSq]; show (if seeT T n p1 [93] = true then _ else _) = _; rw [if_pos s4]) (((CE.nx F2).trans E3 (Nat.le_refl c)).trans (CE.nx (c := c) F4) (Nat.le_refl c)) H4 (by omega) (sg.cg (nx_ag F4))
        · simp only [pushR0]
          rw [B_66_40 X3, w32_0, if_neg (by simp)]
          refine cFail X3 H3 (fun h4 F4 g4 => ?_)
          simp only [pushR0]
          rw [B_66_47 (F4.fix X3 (by decide +kernel)), w32_0, if_pos rfl]
          exact q0 h4 _ (by rw [eB, hSq]; show (if seeT T n p1 [93] = true then _ else _) = _; rw [if_neg (by rw [s4]; decide)]) (((F2.mono rfl).trans E3.1).trans F4) g4
  · have eR : partR T n od inner p lf ws = leafR T n od p lf ws := by unfold partR; rw [if_neg (by rw [s]; decide)]
    rw [eR] at q0 q1
    have R := H.2.2.1
    have nb := nmT_b (T := T) bd.1
    have kb := kdT_b (T := T) (n := n) (p := p)
    -- one leaf more
    have H1 : lf < 50 → CI T n od ci p (lf + 1) ws c (setH h 43 8 ((lf : Int) + 1)) := fun l5 => by
      obtain ⟨⟨a1, a2, a3, a4, a5⟩, P2, R2, b1, b2, b3, b4, b5⟩ := H
      refine ⟨⟨a1, a2, by omega, a4, a5⟩, ⟨P2.1, fun i hi => by rw [setH_o (by decide)]; exact P2.2 i hi⟩, ?_, by rw [setH_k (by decide)]; exact b1, by rw [setH_self]; omega, by rw [setH_k (by decide)]; exact b3, by rw [setH_o (by decide)]; exact b4, fun q => by rw [setH_o (by decide)]; exact b5 q⟩
      unfold RdC; rw [setH_k (by decide), setH_k (by decide), setH_k (by decide), setH_k (by decide), setH_k (by decide)]; exact R2
    have F1 : Fr PsP PsS h (setH h 43 8 ((lf : Int) + 1)) := (Fr.refl h).set rfl
    have E1 : CE ci c h (setH h 43 8 ((lf : Int) + 1)) := ⟨F1, fun i _ => by rw [setH_o (by decide), setH_o (by decide)]; exact ⟨rfl, rfl⟩, fun i _ => by rw [setH_o (by decide)], by rw [setH_k (by decide)], fun k => k.cg (by rw [setH_o (by decide)]) (setH_o (by decide)) (setH_o (by decide))⟩
    have X1 : Fix sh (setH h 43 8 ((lf : Int) + 1)) := F1.fix X (by decide +kernel)
    have word : ∀ j2, lf < 50 → ¬ (kdT T n p = 2 ∧ nmT T n p ≤ 1000) → (if w32 (h 43 3) = 0 then WM sc (E + 12) 70 [(2, 43)] sh sl (setH h 43 8 ((lf : Int) + 1)) (fun r sh1 sl1 h1 => WF sc (E + 13) 66 132 [(2, 43), (0, x), j2] (pushR r []) sh1 sl1 h1 Q) else WM sc (E + 12) 69 [(2, 43)] sh sl (setH h 43 8 ((lf : Int) + 1)) (fun r sh1 sl1 h1 => WF sc (E + 13) 66 125 [(2, 43), (0, x), j2] (pushR r []) sh1 sl1 h1 Q)) := fun j2 l5 nd => by
      have eL0 : wrdR T n od p = none → leafR T n od p lf ws = .inl (stT T n p) := fun e => by
        unfold leafR; rw [if_neg (by omega), if_neg nd, e]
      have eL1 : ∀ w, wrdR T n od p = some (w, 0) → leafR T n od p lf ws = .inr (enT T n p, lf + 1, ws ||| 2 ^ w, fun f => some (f w)) := fun w e => by
        unfold leafR; rw [if_neg (by omega), if_neg nd, e]
      have eL2 : ∀ w ch, wrdR T n od p = some (w, ch + 1) → leafR T n od p lf ws = if kdT T n (enT T n p) = 2 ∧ nmT T n (enT T n p) < ((ch + 1 : Nat) : Int) then .inr (enT T n (enT T n p), lf + 1, ws ||| 2 ^ (w + (nmT T n (enT T n p)).toNat), fun f => some (f (w + (nmT T n (enT T n p)).toNat))) else .inl (stT T n (enT T n p)) := fun w ch e => by
        unfold leafR; rw [if_neg (by omega), if_neg nd, e]
      have H1 := H1 l5
      rw [H.2.2.2.1]
      cases od with
      | false =>
        rw [show (if (false : Bool) = true then (1 : Int) else 0) = 0 from rfl, w32_0, if_pos rfl]
        have ew : wrdR T n false p = wLaw T n p := by unfold wrdR; rw [if_neg (by decide)]
        rw [ew] at eL0 eL1 eL2
        refine cLawWord (R := fun p lf ws => leafR T n false p lf ws) hF.2 X1 H1 eL0 eL1 (fun h2 q hq F2 g2 => ?_) (fun h2 p1 lf1 ws1 ev c1 hq E2 H2 hc2 sg => ?_)
        · simp only [pushR0]
          rw [B_66_132 (F2.fix X1 (by decide +kernel)) (Or.inl rfl)]
          exact q0 h2 q hq (F1.trans F2) g2
        · simp only [pushR0]
          rw [B_66_132 (E2.fix X1) (Or.inr rfl)]
          exact q1 h2 p1 lf1 ws1 ev c1 hq (E1.trans E2 (Nat.le_refl c)) H2 hc2 sg
      | true =>
        rw [show (if (true : Bool) = true then (1 : Int) else 0) = 1 from rfl, show w32 1 = 1 from rfl, if_neg (by decide)]
        have ew : wrdR T n true p = wOrd T n p := by unfold wrdR; rw [if_pos rfl]
        rw [ew] at eL0 eL1 eL2
        refine cOrdWord (R := fun p lf ws => leafR T n true p lf ws) (hF.1 rfl) X1 H1 eL0 eL1 eL2 (fun h2 q hq F2 g2 => ?_) (fun h2 p1 lf1 ws1 ev c1 hq E2 H2 hc2 sg => ?_)
        · have X2 : Fix sh h2 := F2.fix X1 (by decide +kernel)
          simp only [pushR0]
          rw [B_66_125 X2, B_66_132 X2 (Or.inl rfl)]
          exact q0 h2 q hq (F1.trans F2) g2
        · simp only [pushR0]
          rw [B_66_125 (E2.fix X1), B_66_132 (E2.fix X1) (Or.inr rfl)]
          exact q1 h2 p1 lf1 ws1 ev c1 hq (E1.trans E2 (Nat.le_refl c)) H2 hc2 sg
    simp only [pushR0]
    rw [B_66_6 X, w32_0, if_pos rfl, H.2.2.2.2.1, w32_id (a := (lf : Int)) (by omega) (by omega), R.2.1, R.2.2.2.2, w32_id (a := ((kdT T n p : Nat) : Int)) (by omega) (by omega), w32_id (a := nmT T n p) (by omega) (by omega)]
    refine ite_i (fun l5 => ite_i (fun k2 => word _ (by omega) (by omega)) (fun k2 => ite_i (fun k3 => word _ (by omega) (by omega)) (fun k3 => ?_))) (fun l5 => ?_)
    · have eL : leafR T n od p lf ws = .inr (enT T n p, lf + 1, ws, fun _ => some (nmT T n p)) := by
        unfold leafR; rw [if_neg (by omega), if_pos (by omega)]
      have H1 := H1 (by omega)
      have kn := kd_ne (T := T) (n := n) bd.1 (by omega)
      refine cNext X1 H1 (fun h2 F2 H2 => ?_)
      have X2 : Fix sh h2 := F2.fix X1 (by decide +kernel)
      simp only [pushR9]
      rw [B_66_107 X2]
      refine cPut X2 H2 (by omega) (by omega) (fun h3 E3 H3 g1 g2 => ?_)
      simp only [pushR0]
      rw [B_66_113 (E3.fix X2) (Or.inr rfl)]
      refine q1 h3 _ _ _ _ (c + 1) eL ((E1.trans (CE.nx F2) (Nat.le_refl c)).trans E3 (Nat.le_refl c)) H3 (by omega) ?_
      rw [show lf + 1 - lf = 1 by omega]
      exact seC_num g1 g2
    · refine cFail X H (fun h2 F2 g2 => ?_)
      simp only [pushR0]
      rw [B_66_69 (F2.fix X (by decide +kernel)) (Or.inl rfl)]
      exact q0 h2 _ (by unfold leafR; rw [if_pos (by omega)]) F2 g2
end CREAD2
