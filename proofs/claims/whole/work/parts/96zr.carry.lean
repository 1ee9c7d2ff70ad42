/-! ===== orders: the class carries them out ===== -/
abbrev OP : List Nat := [10, 45, 46, 48, 49, 51, 58, 59, 81, 82]
abbrev OS : List (Nat × Nat) := [(44, 2), (44, 3), (52, 6), (52, 7), (52, 8), (52, 9)]
abbrev OS1 : List (Nat × Nat) := [(44, 2), (44, 3), (52, 6), (52, 7), (52, 8), (52, 9), (52, 10)]
/-- the class's state is x -/
def KC (sh : Shp) (h : Sto) (n m : Nat) (L : List Law) (x : OSt) : Prop := CJ sh h x.1 n m L 10 ∧ h 52 6 = x.2.1 ∧ h 52 7 = x.2.2.1 ∧ HR (h 45) (h 46) x.2.2.2.1 x.2.2.2.2.1 (h 44 2) (h 44 3) (x.1 6) (x.1 7) n m ∧ h 44 3 = (x.2.2.2.2.2 : Int)
/-- what lies read, for the class -/
def OTx (h : Sto) (c : Nat) (Lx : List Clx) : Prop := h 34 0 = (Lx.length : Int) ∧ Lx.length ≤ 12 ∧ h 34 1 = (c : Int) ∧ c ≤ 400 ∧ CKb h ∧ ∀ i cl, Lx[i]? = some cl → ClC true 20 h c i cl ∧ ClG true cl
theorem OTx.fr {h h2 : Sto} {c : Nat} {Lx : List Clx} (O : OTx h c Lx) (F : Fr OP OS h h2) : OTx h2 c Lx := by
  obtain ⟨o1, o2, o3, o4, o5, o6⟩ := O
  exact ⟨by rw [F.at 34 0 rfl]; exact o1, o2, by rw [F.at 34 1 rfl]; exact o3, o4, o5.cg (F.at 34 1 rfl) (F.row 41 rfl) (F.row 42 rfl), fun i cl hl => ⟨(o6 i cl hl).1.fr F rfl, (o6 i cl hl).2⟩⟩
theorem CJ.nextA {sh : Shp} {h h2 : Sto} {G : Nat → Int} {n m : Nat} {L : List Law} {A : Dd} (C : CJ sh h G n m L 10) (D : Dok G n m A) (F : Fr AP AS h h2) (r : BR (h2 10) A.2 n m) : CJ sh h2 A.2 n m L 10 := by
  obtain ⟨X, S, R, W, B⟩ := C
  have h120 : ∀ q, 120 ≤ q → h2 q = h q := (F.cg (R := []) (C := []) (by decide +kernel)).2.2
  refine ⟨F.fix X (by decide +kernel), (S.of (F.row 1 rfl) (fun j j1 j2 => ?_) h120).ofG (fun i hi => D.2.2.2 i (by omega)), r, W.of D.2.2.2, D.2.2.1⟩
  rcases (show j = 1 ∨ j = 2 ∨ j = 3 ∨ j = 4 ∨ j = 5 ∨ j = 6 ∨ j = 7 by omega) with rfl | rfl | rfl | rfl | rfl | rfl | rfl <;> exact F.row _ rfl
/-- a SUM's worth, with its bounds -/
theorem evO_b {o : Option Ev} {f : Nat → Int} (hf : FOK f) (hn : FNB f) (g : ∀ ev, o = some ev → EvOK ev) : (evO o f = none ∧ w64 ((evO o f).getD (-2000000000)) = -2000000000) ∨ ∃ v, evO o f = some v ∧ I32 v ∧ (evO o f).getD (-2000000000) = v ∧ ¬ w64 v = -2000000000 := by
  cases o with
  | none => exact Or.inr ⟨-1, rfl, ⟨by decide, by decide⟩, rfl, by decide⟩
  | some ev =>
    cases he : ev f with
    | none =>
      refine Or.inl ⟨he, ?_⟩
      show w64 ((ev f).getD (-2000000000)) = _
      rw [he]; rfl
    | some v =>
      have b := (g ev rfl f hf v he).1
      have b2 := (g ev rfl f hf v he).2 hn
      refine Or.inr ⟨v, he, ⟨b.1, b.2⟩, ?_, ?_⟩
      · show (ev f).getD (-2000000000) = v
        rw [he]; rfl
      · rw [w64_id (by omega) (by omega)]; omega
/-- the same, for the reference -/
theorem evO_bM {o : Option Ev} {f : Nat → Int} (hf : FOK f) (g : ∀ ev, o = some ev → EvOK ev) : evO o f = none ∨ ∃ v, evO o f = some v ∧ I32 v := by
  cases o with
  | none => exact Or.inr ⟨-1, rfl, ⟨by decide, by decide⟩⟩
  | some ev =>
    cases he : ev f with
    | none => exact Or.inl he
    | some v =>
      have b := (g ev rfl f hf v he).1
      exact Or.inr ⟨v, he, ⟨b.1, b.2⟩⟩
section CARRY
variable {sc : Nat × (Nat → Int)} {d : Nat} {sh : Shp} {sl : Nat} {h0 : Sto} {Q : Pst} {n m : Nat} {L : List Law} {G0 : Nat → Int} {c : Nat} {Lx : List Clx}
/-- all is put back -/
def GvC (h0 h1 : Sto) (i : Nat) : Prop := Fr OP OS1 h0 h1 ∧ (∀ j, j < 42 → h1 10 j = h0 54 j) ∧ (∀ j, j < 714 → h1 45 j = h0 56 j) ∧ (∀ j, j < 17 → h1 46 j = h0 57 j) ∧ h1 44 2 = h0 55 2 ∧ h1 44 3 = h0 55 3 ∧ h1 52 10 = (i : Int)
theorem sp_giveUp {h : Sto} {i : Nat} (X : Fix sh h) (F : Fr OP OS h0 h) (hq : ∀ h1, GvC h0 h1 i → Q (0, -3) sh sl h1) : WM sc (d + 2) 97 [(2, 52), (0, (i : Int))] sh sl h Q := by
  rw [B_97_0 X, B_83_0b X]
  simp only [pushR9]
  obtain ⟨h2, hh2⟩ : ∃ h2, rowH h 10 (va_cpy (h 54) (h 10) 0 0 42) = h2 := ⟨_, rfl⟩
  have F2 : Fr OP OS h h2 := by rw [← hh2]; exact (Fr.refl h).rowP rfl
  have X2 := F2.fix X (by decide +kernel)
  rw [hh2, B_97_14 X2, B_84_0b X2]
  simp only [pushR9]
  obtain ⟨h3, hh3⟩ : ∃ h3, setH (setH (rowH (rowH h2 45 (va_cpy (h2 56) (h2 45) 0 0 714)) 46 (va_cpy (h2 57) (h2 46) 0 0 17)) 44 2 (h2 55 2)) 44 3 (h2 55 3) = h3 := ⟨_, rfl⟩
  have F3 : Fr OP OS h2 h3 := by rw [← hh3]; exact ((((Fr.refl h2).rowP rfl).rowP rfl).set rfl).set rfl
  have X3 := F3.fix X2 (by decide +kernel)
  have FF := F.trans F2
  rw [hh3, B_97_25 X3]
  refine hq _ ⟨(((F.trans F2).trans F3).mono rfl).set rfl, fun j hj => ?_, fun j hj => ?_, fun j hj => ?_, ?_, ?_, setH_self _ _ _ _⟩
  · rw [setH_o (by decide), ← hh3, setH_o (by decide), setH_o (by decide), rowH_o (by decide), rowH_o (by decide), ← hh2, rowH_s, pk_cpy_in (by omega) (by omega), F.row 54 rfl]
    first | done | rfl | (congr 1; omega) | simp
  · rw [setH_o (by decide), ← hh3, setH_o (by decide), setH_o (by decide), rowH_o (by decide), rowH_s, pk_cpy_in (by omega) (by omega), FF.row 56 rfl]
    first | done | rfl | (congr 1; omega) | simp
  · rw [setH_o (by decide), ← hh3, setH_o (by decide), setH_o (by decide), rowH_s, pk_cpy_in (by omega) (by omega), FF.row 57 rfl]
    first | done | rfl | (congr 1; omega) | simp
  · rw [setH_o (by decide), ← hh3, setH_k (by decide), setH_self, FF.at 55 2 rfl]
  · rw [setH_o (by decide), ← hh3, setH_self, FF.at 55 3 rfl]
/-- the times of a clause -/
theorem lp_tmC {i : Nat} {cl : Clx} (X0 : Fix sh h0) (O : OTx h0 c Lx) (hi : Lx[i]? = some cl) : ∀ (r t : Nat) (h' : Sto) (x : OSt) (T : Int) (j4 j5 : V), t + r = cl.2.2.2.2.1 → T = t → Fr OP OS h0 h' → KC sh h' n m L x → OOK L n m G0 x → ODn x (20 * i + t) → (tmO L n m cl r x = none → ∀ h1, GvC h0 h1 i → Q (0, -3) sh sl h1) → (∀ y, tmO L n m cl r x = some y → ∀ h1 T2 k4 k5, Fr OP OS h0 h1 → KC sh h1 n m L y → WF sc (d + 12) 82 37 [(2, 52), (2, 34), (0, (i : Int) + 1), (0, T2), k4, k5] [] sh sl h1 Q) → WF sc (d + 12) 82 47 [(2, 52), (2, 34), (0, (i : Int)), (0, T), j4, j5] [] sh sl h' Q := by
  have il : i < Lx.length := (List.getElem?_eq_some_iff.mp hi).1
  have l12 := O.2.1
  have bi : 0 ≤ w32 (i : Int) ∧ w32 (i : Int) < 12 := by rw [w32_id (a := (i : Int)) (by omega) (by omega)]; omega
  have ei : (w32 (i : Int)).toNat = i := by rw [w32_id (a := (i : Int)) (by omega) (by omega)]; omega
  have gcl := (O.2.2.2.2.2 i cl hi).2
  have tb := gcl.2.2.2.2.2.2.1
  intro r
  induction r with
  | zero =>
    intro t h' x T j4 j5 ht hT F K Vo Vd q0 hq
    subst hT
    have O' := O.fr F
    have hcl := (O'.2.2.2.2.2 i cl hi).1
    rw [B_82_47 K.1.1, ei, hcl.2.2.2.2.1, w32_id (a := ((cl.2.2.2.2.1 : Nat) : Int)) (by omega) (by omega), w32_id (a := (t : Int)) (by omega) (by omega), if_pos (by omega)]
    exact ⟨bi, hq x rfl h' _ _ _ F K⟩
  | succ r ih =>
    intro t h' x T j4 j5 ht hT F K Vo Vd q0 hq
    subst hT
    have O' := O.fr F
    have hcl := (O'.2.2.2.2.2 i cl hi).1
    obtain ⟨C, e6, e7, hr, ek⟩ := K
    rw [B_82_47 C.1, ei, hcl.2.2.2.2.1, w32_id (a := ((cl.2.2.2.2.1 : Nat) : Int)) (by omega) (by omega), w32_id (a := (t : Int)) (by omega) (by omega), if_neg (by omega)]
    refine ⟨bi, ?_⟩
    -- a refusal
    have no : ∀ (h3 : Sto) (x4 z0 : Int) (j5 : V), stO L n m cl x = none → z0 < 0 → I32 z0 → Fr OP OS h0 h3 → Fix sh h3 → WF sc (d + 12) 82 131 [(2, 52), (2, 34), (0, (i : Int)), (0, (t : Int)), (0, x4), j5] [(0, z0)] sh sl h3 Q := fun h3 x4 z0 j5 hst hz hz2 F3 X3 => by
      rw [B_82_131 X3, hz2.w, if_neg (by omega)]
      refine sp_giveUp (d := d + 9) X3 F3 (fun h4 g => ?_)
      simp only [pushR0]
      rw [B_82_143 (g.1.fix X0 (by decide +kernel))]
      exact q0 (by simp only [tmO, hst]) h4 g
    refine sp_due (d := d + 5) C e6 e7 (by omega) O'.2.2.1 O'.2.2.2.1 O'.2.2.2.2.1 hcl gcl (fun hd h1 F1 => ?_) (fun hd h1 F1 e8 e9 => ?_)
    · have F1' : Fr OP OS h0 h1 := F.trans (F1.mono rfl)
      have X1 := F1.fix C.1 (by decide +kernel)
      simp only [pushR0]
      rw [B_82_63 X1, w32_0, if_neg (by simp)]
      have es : stO L n m cl x = some x := by unfold stO; rw [if_neg (by rw [hd]; decide)]
      refine ih (t + 1) h1 x _ _ _ (by omega) (by simp) F1' ⟨C.of F1 (by decide +kernel) (by decide +kernel) (F1.row 10 rfl), by rw [F1.at 52 6 rfl]; exact e6, by rw [F1.at 52 7 rfl]; exact e7, ?_, by rw [F1.at 44 3 rfl]; exact ek⟩ Vo (Vd.mono (by omega)) (fun hn => q0 (by simp only [tmO, es]; exact hn)) (fun y hy => hq y ?_)
      · rw [F1.row 45 rfl, F1.row 46 rfl, F1.at 44 2 rfl, F1.at 44 3 rfl]; exact hr
      · simp only [tmO, es]; exact hy
    · have F1' : Fr OP OS h0 h1 := F.trans (F1.mono rfl)
      have X1 := F1.fix C.1 (by decide +kernel)
      have C1 : CJ sh h1 x.1 n m L 10 := C.of F1 (by decide +kernel) (by decide +kernel) (F1.row 10 rfl)
      simp only [pushR0]
      rw [B_82_63 X1, show w32 1 = 1 from rfl, if_pos (by decide), e8, e9]
      have i3 : I32 (-3) := ⟨by decide, by decide⟩
      rcases evO_b (o := cl.2.2.1) (f := fcA L n m x) fcA_ok (fcA_n Vo Vd (by omega)) (fun ev h => (gcl.2.2.1 ev h).1) with ⟨n1, w1⟩ | ⟨a, a1, a2, a3, a4⟩
      · rw [w1, if_pos rfl]
        exact no h1 _ _ _ (by unfold stO; rw [if_pos hd, n1]) (by decide) i3 F1' X1
      rw [a3, if_neg a4]
      rcases evO_b (o := cl.2.2.2.1) (f := fcA L n m x) fcA_ok (fcA_n Vo Vd (by omega)) (fun ev h => (gcl.2.2.2.1 ev h).1) with ⟨n2, w2⟩ | ⟨b, b1, b2, b3, b4⟩
      · rw [w2, if_neg (by simp)]
        exact no h1 _ _ _ (by unfold stO; rw [if_pos hd, a1, n2]) (by decide) i3 F1' X1
      rw [b3, if_pos b4, ei, (hcl.fr F1 rfl).1]
      refine ⟨bi, ?_⟩
      have D : Dok x.1 n m (dA x.1 L n m cl.1 a b) := dA_ok C.2.2.2.1 C.2.2.2.2
      obtain ⟨ra, rk, r1, r2, r3, r4, r5⟩ := hr
      have rk' : rk = x.2.2.2.2.2 := by omega
      refine sp_act (d := d + 3) (a := ra) (k := rk) a2 b2 C1 (by rw [F1.at 44 2 rfl]; exact r1) r2 (by rw [F1.at 44 3 rfl]; exact r3) r4 (dA_act gcl.1) D.1 (fun h2 F2 br s1 s2 kp => ?_)
      have F2' : Fr OP OS h0 h2 := F1'.trans (F2.mono rfl)
      have X2 := F2.fix X1 (by decide +kernel)
      have D1 := D.1
      simp only [pushR0]
      by_cases hz : (dA x.1 L n m cl.1 a b).1 < 0
      · exact no h2 _ _ _ (by unfold stO; rw [if_pos hd, a1, b1]; simp only [if_pos hz]) hz ⟨by omega, by omega⟩ F2' X2
      have O2 := O.fr F2'
      have hcl2 := (O2.2.2.2.2.2 i cl hi).1
      have hc3 := gcl.1
      have es : stO L n m cl x = some ((dA x.1 L n m cl.1 a b).2, x.2.1 + 1, if cl.1 = 2 then (dA x.1 L n m cl.1 a b).1 else x.2.2.1, remU2 x.2.2.2.1 x.2.2.2.2.2 x.1, remS2 x.2.2.2.2.1 x.2.2.2.2.2 (cl.1 : Int), kNext x.2.2.2.2.2) := by
        unfold stO; rw [if_pos hd, a1, b1]; simp only [if_neg hz]
      have V2 := (stO_ok Vo es).1
      have V3 := stO_dn Vo Vd es
      have C2 : CJ sh h2 (dA x.1 L n m cl.1 a b).2 n m L 10 := C1.nextA D F2 br
      have hn10 := C.2.2.2.1.1.2.1
      have hm3 := C.2.2.2.1.1.2.2.2.1
      rw [B_82_131 X2, w32_id (a := (dA x.1 L n m cl.1 a b).1) (by omega) (by omega), if_pos (by omega), ei, hcl2.1, w32_id (a := ((cl.1 : Nat) : Int)) (by omega) (by omega)]
      refine ⟨bi, ?_⟩
      have g6 : h2 52 6 = x.2.1 := by rw [F2.at 52 6 rfl, F1.at 52 6 rfl]; exact e6
      have g7 : h2 52 7 = x.2.2.1 := by rw [F2.at 52 7 rfl, F1.at 52 7 rfl]; exact e7
      have k1 : KpC h1 h2 ra rk (cl.1 : Int) (dA x.1 L n m cl.1 a b).1 := kp
      have hR : HR (h2 45) (h2 46) (remU2 x.2.2.2.1 x.2.2.2.2.2 x.1) (remS2 x.2.2.2.2.1 x.2.2.2.2.2 (cl.1 : Int)) (h2 44 2) (h2 44 3) ((dA x.1 L n m cl.1 a b).2 6) ((dA x.1 L n m cl.1 a b).2 7) n m ∧ h2 44 3 = ((kNext x.2.2.2.2.2 : Nat) : Int) := by
        rcases k1 with ⟨z, -⟩ | ⟨z, k2, k3, k4⟩
        · omega
        rw [k3, k4, D.2.2.2 6 (by omega), D.2.2.2 7 (by omega), ← rk']
        have hA : HR (h2 45) (h1 46) x.2.2.2.1 x.2.2.2.2.1 (h' 44 2) (h' 44 3) (x.1 6) (x.1 7) n m := by
          rw [F1.row 46 rfl]
          refine HR.ahead (c := h' 45) ⟨ra, rk, r1, r2, r3, r4, r5⟩ hn10 hm3 r1 (fun j hj => ?_)
          rw [s2 j hj, F1.row 45 rfl]
        exact ⟨hA.keep hn10 hm3 r1 r3 s1 C1.2.2.1 C1.2.2.2.2 ⟨by omega, by omega⟩ k2 (rem2_ok r4), rfl⟩
      refine ite_i (fun h2k => ?_) (fun h2k => ?_)
      · have F3 : Fr [] OS h2 (setH h2 52 6 (h2 52 6 + 1)) := (Fr.refl h2).set rfl
        refine ih (t + 1) _ ((dA x.1 L n m cl.1 a b).2, x.2.1 + 1, if cl.1 = 2 then (dA x.1 L n m cl.1 a b).1 else x.2.2.1, remU2 x.2.2.2.1 x.2.2.2.2.2 x.1, remS2 x.2.2.2.2.1 x.2.2.2.2.2 (cl.1 : Int), kNext x.2.2.2.2.2) _ _ _ (by omega) (by simp) (F2'.set rfl) ⟨C2.of F3 (by decide +kernel) (by decide +kernel) (F3.row 10 rfl), by rw [setH_self, g6], ?_, ?_, ?_⟩ V2 (V3.mono (by omega)) (fun hn => q0 (by simp only [tmO, es]; exact hn)) (fun y hy => hq y ?_)
        · rw [setH_k (by decide), g7]
          show x.2.2.1 = if cl.1 = 2 then (dA x.1 L n m cl.1 a b).1 else x.2.2.1
          rw [if_neg (by omega)]
        · rw [setH_o (by decide), setH_o (by decide), setH_o (by decide)]; exact hR.1
        · rw [setH_o (by decide)]; exact hR.2
        · simp only [tmO, es]; exact hy
      · have F3 : Fr [] OS h2 (setH (setH h2 52 7 (dA x.1 L n m cl.1 a b).1) 52 6 (h2 52 6 + 1)) := ((Fr.refl h2).set rfl).set rfl
        refine ih (t + 1) _ ((dA x.1 L n m cl.1 a b).2, x.2.1 + 1, if cl.1 = 2 then (dA x.1 L n m cl.1 a b).1 else x.2.2.1, remU2 x.2.2.2.1 x.2.2.2.2.2 x.1, remS2 x.2.2.2.2.1 x.2.2.2.2.2 (cl.1 : Int), kNext x.2.2.2.2.2) _ _ _ (by omega) (by simp) ((F2'.set rfl).set rfl) ⟨C2.of F3 (by decide +kernel) (by decide +kernel) (F3.row 10 rfl), by rw [setH_self, g6], ?_, ?_, ?_⟩ V2 (V3.mono (by omega)) (fun hn => q0 (by simp only [tmO, es]; exact hn)) (fun y hy => hq y ?_)
        · rw [setH_k (by decide), setH_self]
          show _ = if cl.1 = 2 then (dA x.1 L n m cl.1 a b).1 else x.2.2.1
          rw [if_pos (by omega)]
        · rw [setH_o (by decide), setH_o (by decide), setH_o (by decide), setH_o (by decide), setH_o (by decide), setH_o (by decide)]; exact hR.1
        · rw [setH_o (by decide), setH_o (by decide)]; exact hR.2
        · simp only [tmO, es]; exact hy
/-- all clauses -/
theorem lp_clC (X0 : Fix sh h0) (O : OTx h0 c Lx) : ∀ (R : List Clx) (i : Nat) (h' : Sto) (x : OSt) (I : Int) (j3 j4 j5 : V), i + R.length = Lx.length → I = i → (∀ j cl, R[j]? = some cl → Lx[i + j]? = some cl) → Fr OP OS h0 h' → KC sh h' n m L x → OOK L n m G0 x → ODn x (20 * i) → (∀ e, rnO L n m R i x = .inl e → ∀ h1, GvC h0 h1 e → Q (0, -3) sh sl h1) → (∀ y, rnO L n m R i x = .inr y → ∀ h1, Fr OP OS h0 h1 → KC sh h1 n m L y → Q (0, y.2.1) sh sl h1) → WF sc (d + 12) 82 37 [(2, 52), (2, 34), (0, I), j3, j4, j5] [] sh sl h' Q := by
  have l12 := O.2.1
  intro R
  induction R with
  | nil =>
    intro i h' x I j3 j4 j5 hl hI hR F K Vo Vd q0 q1
    subst hI
    have O' := O.fr F
    rw [List.length_nil] at hl
    rw [B_82_37 K.1.1, O'.1, w32_id (a := ((Lx.length : Nat) : Int)) (by omega) (by omega), w32_id (a := (i : Int)) (by omega) (by omega), if_pos (by omega), K.2.1]
    exact q1 x rfl h' F K
  | cons cl R ih =>
    intro i h' x I j3 j4 j5 hl hI hR F K Vo Vd q0 q1
    subst hI
    have O' := O.fr F
    rw [List.length_cons] at hl
    have hcl : Lx[i]? = some cl := by have := hR 0 cl rfl; simpa using this
    rw [B_82_37 K.1.1, O'.1, w32_id (a := ((Lx.length : Nat) : Int)) (by omega) (by omega), w32_id (a := (i : Int)) (by omega) (by omega), if_neg (by omega)]
    refine lp_tmC (G0 := G0) X0 O hcl cl.2.2.2.2.1 0 h' x _ _ _ (by omega) rfl F K Vo (Vd.mono (by omega)) (fun ht h1 g => q0 i (by simp only [rnO, ht]) h1 g) (fun y hy h1 T2 k4 k5 F1 K1 => ?_)
    have er : rnO L n m (cl :: R) i x = rnO L n m R (i + 1) y := by simp only [rnO, hy]
    rw [er] at q0 q1
    have tb := (O.2.2.2.2.2 i cl hcl).2.2.2.2.2.2.2.1
    refine ih (i + 1) h1 y _ _ _ _ (by omega) (by simp) (fun j c2 hj => ?_) F1 K1 (tmO_ok _ _ _ Vo hy).1 ((tmO_dn _ _ _ _ Vo Vd hy).mono (by omega)) q0 q1
    have := hR (j + 1) c2 (by simpa using hj)
    rw [show i + 1 + j = i + (j + 1) by omega]; exact this
end CARRY
section CARRY2
variable {sc : Nat × (Nat → Int)} {d : Nat} {sh : Shp} {sl : Nat} {h : Sto} {Q : Pst} {n m : Nat} {L : List Law} {G u s : Nat → Int} {c k : Nat} {Lx : List Clx}
abbrev OcP : List Nat := [10, 45, 46, 48, 49, 51, 54, 56, 57, 58, 59, 81, 82]
abbrev OcS : List (Nat × Nat) := [(44, 2), (44, 3), (52, 6), (52, 7), (52, 8), (52, 9), (55, 2), (55, 3)]
abbrev OcT : List (Nat × Nat) := [(44, 2), (44, 3), (52, 6), (52, 7), (52, 8), (52, 9), (52, 10), (55, 2), (55, 3)]
theorem sp_carry (C : CJ sh h G n m L 10) (O : OTx h c Lx) (hR : HR (h 45) (h 46) u s (h 44 2) (h 44 3) (G 6) (G 7) n m) (ek : h 44 3 = (k : Int)) (hk : k ≤ 16)
    (q0 : ∀ e, rnO L n m Lx 0 (G, 0, -1, u, s, k) = .inl e → ∀ h1, Fr OcP OcT h h1 → (∀ j, j < 42 → h1 10 j = h 10 j) → (∀ j, j < 714 → h1 45 j = h 45 j) → (∀ j, j < 17 → h1 46 j = h 46 j) → h1 44 2 = h 44 2 → h1 44 3 = h 44 3 → h1 52 10 = (e : Int) → Q (0, -3) sh sl h1)
    (q1 : ∀ y, rnO L n m Lx 0 (G, 0, -1, u, s, k) = .inr y → ∀ h1, Fr OcP OcS h h1 → KC sh h1 n m L y → Q (0, y.2.1) sh sl h1) : WM sc (d + 12) 82 [(2, 52), (2, 34)] sh sl h Q := by
  have X := C.1
  rw [B_82_0 X, B_83_0a X]
  simp only [pushR9]
  obtain ⟨h2, hh2⟩ : ∃ h2, rowH h 54 (va_cpy (h 10) (h 54) 0 0 42) = h2 := ⟨_, rfl⟩
  have F2 : Fr [54] [] h h2 := by rw [← hh2]; exact (Fr.refl h).rowP rfl
  have X2 := F2.fix X (by decide +kernel)
  rw [hh2, B_82_14 X2, B_84_0a X2]
  simp only [pushR9]
  obtain ⟨h3, hh3⟩ : ∃ h3, setH (setH (rowH (rowH h2 56 (va_cpy (h2 45) (h2 56) 0 0 714)) 57 (va_cpy (h2 46) (h2 57) 0 0 17)) 55 2 (h2 44 2)) 55 3 (h2 44 3) = h3 := ⟨_, rfl⟩
  have F3 : Fr [56, 57] [(55, 2), (55, 3)] h2 h3 := by rw [← hh3]; exact ((((Fr.refl h2).rowP rfl).rowP rfl).set rfl).set rfl
  have X3 := F3.fix X2 (by decide +kernel)
  rw [hh3, B_82_25 X3]
  obtain ⟨h4, hh4⟩ : ∃ h4, setH (setH h3 52 6 0) 52 7 (-1) = h4 := ⟨_, rfl⟩
  have F4 : Fr [] [(52, 6), (52, 7)] h3 h4 := by rw [← hh4]; exact ((Fr.refl h3).set rfl).set rfl
  rw [hh4]
  have FF : Fr [54, 56, 57] [(55, 2), (55, 3), (52, 6), (52, 7)] h h4 := ((F2.mono rfl).trans (F3.mono rfl)).trans (F4.mono rfl)
  have X4 := FF.fix X (by decide +kernel)
  have O4 : OTx h4 c Lx := by
    obtain ⟨o1, o2, o3, o4, o5, o6⟩ := O
    exact ⟨by rw [FF.at 34 0 rfl]; exact o1, o2, by rw [FF.at 34 1 rfl]; exact o3, o4, o5.cg (FF.at 34 1 rfl) (FF.row 41 rfl) (FF.row 42 rfl), fun i cl hl => ⟨(o6 i cl hl).1.fr FF rfl, (o6 i cl hl).2⟩⟩
  have K4 : KC sh h4 n m L (G, 0, -1, u, s, k) := by
    refine ⟨C.of FF (by decide +kernel) (by decide +kernel) (FF.row 10 rfl), by rw [← hh4, setH_k (by decide), setH_self], by rw [← hh4, setH_self], ?_, by rw [FF.at 44 3 rfl]; exact ek⟩
    rw [FF.row 45 rfl, FF.row 46 rfl, FF.at 44 2 rfl, FF.at 44 3 rfl]; exact hR
  refine lp_clC (G0 := G) X4 O4 Lx 0 h4 (G, 0, -1, u, s, k) _ _ _ _ (by omega) rfl (fun j cl hj => by rw [Nat.zero_add]; exact hj) (Fr.refl h4) K4 ⟨C.2.2.2.1, C.2.2.2.2, fun _ _ => rfl, hk⟩ ⟨⟨by show (0 : Int) ≤ 0; omega, by show (0 : Int) ≤ _; omega⟩, by show (-1 : Int) ≤ -1; omega, by show (-1 : Int) ≤ 80; omega⟩ (fun e he h1 g => ?_) (fun y hy h1 F1 K1 => q1 y hy h1 ((FF.mono rfl).trans (F1.mono rfl)) K1)
  obtain ⟨g1, g2, g3, g4, g5, g6, g7⟩ := g
  refine q0 e he h1 ((FF.mono rfl).trans (g1.mono rfl)) (fun j hj => ?_) (fun j hj => ?_) (fun j hj => ?_) ?_ ?_ g7
  · rw [g2 j hj, F4.row 54 rfl, F3.row 54 rfl, ← hh2, rowH_s, pk_cpy_in (by omega) (by omega)]
    first | done | rfl | (congr 1; omega) | simp
  · rw [g3 j hj, F4.row 56 rfl, ← hh3, setH_o (by decide), setH_o (by decide), rowH_o (by decide), rowH_s, pk_cpy_in (by omega) (by omega), F2.row 45 rfl]
    first | done | rfl | (congr 1; omega) | simp
  · rw [g4 j hj, F4.row 57 rfl, ← hh3, setH_o (by decide), setH_o (by decide), rowH_s, pk_cpy_in (by omega) (by omega), F2.row 46 rfl]
    first | done | rfl | (congr 1; omega) | simp
  · rw [g5, F4.at 55 2 rfl, ← hh3, setH_k (by decide), setH_self, F2.at 44 2 rfl]
  · rw [g6, F4.at 55 3 rfl, ← hh3, setH_self, F2.at 44 3 rfl]
end CARRY2
