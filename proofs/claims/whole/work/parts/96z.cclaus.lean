section CCL
variable {sc : Nat × (Nat → Int)} {sh : Shp} {sl : Nat} {T : Nat → Int} {n : Nat} {od : Bool} {ci F : Nat} {d p lf ws c : Nat} {h : Sto} {Q : Pst}
theorem CT.fix {h2 : Sto} (E : CT ci c h h2) (X : Fix sh h) : Fix sh h2 := E.1.fix X (by decide +kernel)
theorem CI.st {r i : Nat} {v : Int} (hr : r = 35 ∨ r = 36 ∨ r = 37 ∨ r = 38 ∨ r = 39) (H : CI T n od ci p lf ws c h) : CI T n od ci p lf ws c (setH h r i v) := by
  obtain ⟨a, P, R, b1, b2, b3, b4, b5⟩ := H
  refine ⟨a, ⟨P.1, fun i hi => by rw [setH_o (by omega)]; exact P.2 i hi⟩, ?_, by rw [setH_o (by omega)]; exact b1, by rw [setH_o (by omega)]; exact b2, by rw [setH_o (by omega)]; exact b3, by rw [setH_o (by omega)]; exact b4, fun q => by rw [setH_o (by omega)]; exact b5 q⟩
  unfold RdC; rw [setH_o (by omega)]; exact R
theorem cHeadL (X : Fix sh h) (H : CI T n false ci p lf ws c h) (q0 : hdR T n false p = none → Q (0, -1) sh sl h) (q1 : ∀ k : Nat, hdR T n false p = some k → Q (0, (k : Int)) sh sl h) : WM sc (d + 12) 72 [(2, 43)] sh sl h Q := by
  have eR : hdR T n false p = hdLaw T n p := by unfold hdR; rw [if_neg (by decide)]
  rw [B_72_0 X]
  refine cSee (w := [113, 117, 97, 114, 114, 101, 108, 115]) rfl (by decide) X H (fun s0 => ?_) (fun s0 => ?_)
  · simp only [pushR0]
    rw [B_72_6 X, show w32 1 = 1 from rfl, if_neg (by decide)]
    exact q1 0 (by rw [eR]; unfold hdLaw; rw [if_pos s0])
  simp only [pushR0]
  rw [B_72_6 X, w32_0, if_pos rfl]
  refine cSee (w := [100, 114, 105, 101, 115]) rfl (by decide) X H (fun s1 => ?_) (fun s1 => ?_)
  · simp only [pushR0]
    rw [B_72_19 X, show w32 1 = 1 from rfl, if_neg (by decide)]
    exact q1 1 (by rw [eR]; unfold hdLaw; rw [if_neg (by rw [s0]; decide), if_pos s1])
  simp only [pushR0]
  rw [B_72_19 X, w32_0, if_pos rfl]
  refine cSee (w := [99, 111, 117, 110, 116, 115]) rfl (by decide) X H (fun s2 => ?_) (fun s2 => ?_)
  · simp only [pushR0]
    rw [B_72_32 X, show w32 1 = 1 from rfl, if_neg (by decide)]
    exact q1 2 (by rw [eR]; unfold hdLaw; rw [if_neg (by rw [s0]; decide), if_neg (by rw [s1]; decide), if_pos s2])
  simp only [pushR0]
  rw [B_72_32 X, w32_0, if_pos rfl]
  refine cSee (w := [98, 97, 114, 115]) rfl (by decide) X H (fun s3 => ?_) (fun s3 => ?_)
  · simp only [pushR0]
    rw [B_72_45 X, show w32 1 = 1 from rfl, if_neg (by decide)]
    exact q1 3 (by rw [eR]; unfold hdLaw; rw [if_neg (by rw [s0]; decide), if_neg (by rw [s1]; decide), if_neg (by rw [s2]; decide), if_pos s3])
  simp only [pushR0]
  rw [B_72_45 X, w32_0, if_pos rfl]
  exact q0 (by rw [eR]; unfold hdLaw; rw [if_neg (by rw [s0]; decide), if_neg (by rw [s1]; decide), if_neg (by rw [s2]; decide), if_neg (by rw [s3]; decide)])
theorem cHeadO (X : Fix sh h) (H : CI T n true ci p lf ws c h) (q0 : hdR T n true p = none → Q (0, -1) sh sl h) (q1 : ∀ k : Nat, hdR T n true p = some k → Q (0, (k : Int)) sh sl h) : WM sc (d + 12) 60 [(2, 43)] sh sl h Q := by
  have eR : hdR T n true p = hdOrd T n p := by unfold hdR; rw [if_pos rfl]
  rw [B_60_0 X]
  refine cSee (w := [115, 116, 105, 99, 107]) rfl (by decide) X H (fun s0 => ?_) (fun s0 => ?_)
  · simp only [pushR0]
    rw [B_60_6 X, show w32 1 = 1 from rfl, if_neg (by decide)]
    exact q1 0 (by rw [eR]; unfold hdOrd; rw [if_pos s0])
  simp only [pushR0]
  rw [B_60_6 X, w32_0, if_pos rfl]
  refine cSee (w := [112, 101, 101, 108]) rfl (by decide) X H (fun s1 => ?_) (fun s1 => ?_)
  · simp only [pushR0]
    rw [B_60_19 X, show w32 1 = 1 from rfl, if_neg (by decide)]
    exact q1 1 (by rw [eR]; unfold hdOrd; rw [if_neg (by rw [s0]; decide), if_pos s1])
  simp only [pushR0]
  rw [B_60_19 X, w32_0, if_pos rfl]
  refine cSee (w := [99, 97, 110, 99, 101, 108]) rfl (by decide) X H (fun s2 => ?_) (fun s2 => ?_)
  · simp only [pushR0]
    rw [B_60_32 X, show w32 1 = 1 from rfl, if_neg (by decide)]
    exact q1 2 (by rw [eR]; unfold hdOrd; rw [if_neg (by rw [s0]; decide), if_neg (by rw [s1]; decide), if_pos s2])
  simp only [pushR0]
  rw [B_60_32 X, w32_0, if_pos rfl]
  refine cSee (w := [112, 97, 115, 115]) rfl (by decide) X H (fun s3 => ?_) (fun s3 => ?_)
  · simp only [pushR0]
    rw [B_60_45 X, show w32 1 = 1 from rfl, if_neg (by decide)]
    exact q1 3 (by rw [eR]; unfold hdOrd; rw [if_neg (by rw [s0]; decide), if_neg (by rw [s1]; decide), if_neg (by rw [s2]; decide), if_pos s3])
  simp only [pushR0]
  rw [B_60_45 X, w32_0, if_pos rfl]
  exact q0 (by rw [eR]; unfold hdOrd; rw [if_neg (by rw [s0]; decide), if_neg (by rw [s1]; decide), if_neg (by rw [s2]; decide), if_neg (by rw [s3]; decide)])
/-- 'times', for an order -/
theorem cTimes {D : Nat} {x2 : Int} (hD : 12 ≤ D) (X : Fix sh h) (H : CI T n true ci p lf ws c h) (g36 : h 36 ci = 1) (q0 : ∀ h2 q, tmR T n true p = .inl q → Fr TxP PsS h h2 → h2 43 10 = (q : Int) → Q (0, 0) sh sl h2) (q1 : ∀ h2 p4 tm, tmR T n true p = .inr (p4, tm) → CT ci c h h2 → CI T n true ci p4 lf ws c h2 → p ≤ p4 → h2 36 ci = (tm : Int) → (∀ r, r = 35 ∨ r = 37 ∨ r = 38 ∨ r = 39 ∨ r = 41 ∨ r = 42 → h2 r = h r) → Q (0, 1) sh sl h2) : WM sc D 67 [(2, 43), (2, -36)] sh sl h (fun r sh1 sl1 h1 => WF sc (D + 1) 59 108 [(2, 43), (0, (ci : Int)), (0, x2)] (pushR r []) sh1 sl1 h1 Q) := by
  obtain ⟨E, rfl⟩ : ∃ E, D = E + 12 := ⟨D - 12, by omega⟩
  have bd := H.bd
  have hci := H.1.2.2.2.2
  refine cTook (w := [116, 105, 109, 101, 115]) rfl (by decide) X H (fun h2 s F2 H2 => ?_) (fun s => ?_)
  · have X2 : Fix sh h2 := F2.fix X (by decide +kernel)
    have sn := see_ne bd.1 (by show 1 ≤ 5; omega) s
    have R := H2.2.2.1
    have nb := nmT_b (T := T) (n := n) (p := enT T n p) sn.2.1
    have kb := kdT_b (T := T) (n := n) (p := enT T n p)
    have bad : ¬ (kdT T n (enT T n p) = 2 ∧ 1 ≤ nmT T n (enT T n p) ∧ nmT T n (enT T n p) ≤ 20) → WM sc (E + 12) 62 [(2, 43)] sh sl h2 (fun r sh1 sl1 h1 => WF sc (E + 13) 59 140 [(2, 43), (0, (ci : Int)), (0, x2)] (pushR r []) sh1 sl1 h1 Q) := fun nd => by
      refine cFail X2 H2 (fun h3 F3 g3 => ?_)
      simp only [pushR0]
      rw [B_59_140 (F3.fix X2 (by decide +kernel)) (Or.inl rfl)]
      exact q0 h3 _ (by unfold tmR; rw [if_pos ⟨rfl, s⟩, if_neg nd]) ((F2.mono rfl).trans (F3.mono rfl)) g3
    simp only [pushR0]
    rw [B_59_108 X2, show w32 1 = 1 from rfl, if_neg (by decide), R.2.1, R.2.2.2.2, w32_id (a := ((kdT T n (enT T n p) : Nat) : Int)) (by omega) (by omega), w32_id (a := nmT T n (enT T n p)) (by omega) (by omega), w32_id (a := (ci : Int)) (by omega) (by omega), Int.toNat_natCast]
    refine ite_i (fun k2 => bad (by omega)) (fun k2 => ite_i (fun k3 => bad (by omega)) (fun k3 => ite_i (fun k4 => ⟨⟨by omega, by omega⟩, ?_⟩) (fun k4 => bad (by omega))))
    have kn := kd_ne (T := T) (n := n) sn.2.1 (by omega)
    have H3 := H2.st (r := 36) (i := ci) (v := nmT T n (enT T n p)) (by omega)
    have C3 : CT ci c h2 (setH h2 36 ci (nmT T n (enT T n p))) := CT.st (by omega)
    refine cNext (C3.fix X2) H3 (fun h4 F4 H4 => ?_)
    have X4 : Fix sh h4 := F4.fix (C3.fix X2) (by decide +kernel)
    simp only [pushR9]
    rw [B_59_158 X4]
    refine q1 h4 _ (nmT T n (enT T n p)).toNat (by unfold tmR; rw [if_pos ⟨rfl, s⟩, if_pos (by omega)]) (((CE.nx F2).ct.trans C3 (Nat.le_refl c)).trans (CE.nx F4).ct (Nat.le_refl c)) H4 (by omega) ?_ (fun r hr => ?_)
    · rw [F4.row 36 rfl, setH_self]; omega
    · rcases hr with e | e | e | e | e | e <;> subst e
      · rw [F4.row 35 rfl, setH_o (by decide), F2.row 35 rfl]
      · rw [F4.row 37 rfl, setH_o (by decide), F2.row 37 rfl]
      · rw [F4.row 38 rfl, setH_o (by decide), F2.row 38 rfl]
      · rw [F4.row 39 rfl, setH_o (by decide), F2.row 39 rfl]
      · rw [F4.row 41 rfl, setH_o (by decide), F2.row 41 rfl]
      · rw [F4.row 42 rfl, setH_o (by decide), F2.row 42 rfl]
  · simp only [pushR0]
    rw [B_59_108 X, w32_0, if_pos rfl, B_59_158 X]
    exact q1 h p 1 (by unfold tmR; rw [if_neg (by rw [s]; simp)]) (CT.refl h) H (Nat.le_refl p) g36 (fun _ _ => rfl)
/-- the TEST of a clause -/
theorem cCond {D : Nat} (hF : (od = true → 20 ≤ F) ∧ 8 ≤ F) (hD : 46 ≤ D) (X : Fix sh h) (H : CI T n od ci p lf ws c h) (g39 : h 39 ci = -1) (q0 : ∀ h2 q, ifR T n od p lf ws = .inl q → Fr TxP PsS h h2 → h2 43 10 = (q : Int) → Q (0, 0) sh sl h2) (q1 : ∀ h2 p5 lf5 ws5 ts c1, ifR T n od p lf ws = .inr (p5, lf5, ws5, ts) → CT ci c h h2 → CI T n od ci p5 lf5 ws5 c1 h2 → c ≤ c1 → p ≤ p5 → SgO F h2 c1 (h2 39 ci) ts → (∀ r, r = 35 ∨ r = 36 ∨ r = 37 ∨ r = 38 → h2 r = h r) → Q (0, 1) sh sl h2) : WM sc D 73 [(2, 43), (0, (ci : Int))] sh sl h Q := by
  obtain ⟨E, rfl⟩ : ∃ E, D = E + 13 := ⟨D - 13, by omega⟩
  have bd := H.bd
  have hci := H.1.2.2.2.2
  rw [B_73_0 X]
  refine cTook (w := [105, 102]) rfl (by decide) X H (fun h2 s F2 H2 => ?_) (fun s => ?_)
  · have X2 : Fix sh h2 := F2.fix X (by decide +kernel)
    have sn := see_ne bd.1 (by show 1 ≤ 2; omega) s
    have H3 := H2.st (r := 39) (i := ci) (v := h2 34 1) (by omega)
    have C3 : CT ci c h2 (setH h2 39 ci (h2 34 1)) := CT.st (by omega)
    have X3 := C3.fix X2
    have g3 : h2 34 1 = (c : Int) := H2.2.2.2.2.2.2.1
    have b2 := H2.bd
    simp only [pushR0]
    rw [B_73_6 X2, show w32 1 = 1 from rfl, if_pos (by decide), w32_id (a := (ci : Int)) (by omega) (by omega), Int.toNat_natCast]
    refine ⟨⟨by omega, by omega⟩, ?_⟩
    refine cAnyK hF 8 0 (by omega) (by omega) (E + 12) _ _ _ c _ _ (by omega) X3 H3 (fun h4 q hS F4 g4 => ?_) (fun h4 p1 lf1 ws1 ev c1 hS E4 H4 hc4 sg => ?_)
    · simp only [pushR0]
      rw [B_73_32 (F4.fix X3 (by decide +kernel)), w32_0, if_pos rfl]
      exact q0 h4 q (by unfold ifR; rw [if_pos s, hS]) (((F2.mono rfl).trans C3.1).trans (F4.mono rfl)) g4
    · have X4 := E4.fix X3
      have g := any_good 8 _ _ _ _ _ _ _ b2.1 H3.1.2.2.1 H3.1.2.2.2.1 hS
      have b4 := H4.bd
      have s2 := sg.1
      simp only [pushR0]
      rw [B_73_32 X4, show w32 1 = 1 from rfl, if_neg (by decide)]
      refine cPut X4 H4 (by omega) (by omega) (fun h5 E5 H5 g1 g2 => ?_)
      simp only [pushR0]
      rw [B_73_42 (E5.fix X4), show w32 1 = 1 from rfl, if_neg (by decide)]
      have r39 : h5 39 ci = (c : Int) := by rw [E5.1.row 39 rfl, E4.1.row 39 rfl, setH_self, g3]
      refine q1 h5 p1 lf1 ws1 (some ev) (c1 + 1) (by unfold ifR; rw [if_pos s, hS]) ((((CE.nx F2).ct.trans C3 (Nat.le_refl c)).trans E4.ct (Nat.le_refl c)).trans E5.ct (by omega)) H5 (by omega) (by omega) ⟨c, c1, lf1 - lf, r39, sg.cg (E5.ag (Nat.le_refl _)), g1, by omega, by omega⟩ (fun r hr => ?_)
      rcases hr with e | e | e | e <;> subst e
      · rw [E5.1.row 35 rfl, E4.1.row 35 rfl, setH_o (by decide), F2.row 35 rfl]
      · rw [E5.1.row 36 rfl, E4.1.row 36 rfl, setH_o (by decide), F2.row 36 rfl]
      · rw [E5.1.row 37 rfl, E4.1.row 37 rfl, setH_o (by decide), F2.row 37 rfl]
      · rw [E5.1.row 38 rfl, E4.1.row 38 rfl, setH_o (by decide), F2.row 38 rfl]
  · simp only [pushR0]
    rw [B_73_6 X, w32_0, if_neg (by simp)]
    exact q1 h p lf ws none c (by unfold ifR; rw [if_neg (by rw [s]; decide)]) (CT.refl h) H (Nat.le_refl c) (Nat.le_refl p) g39 (fun _ _ => rfl)
end CCL
