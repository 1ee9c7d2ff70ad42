/-! ===== the class's reader: leaves ===== -/
abbrev PsP : List Nat := [40, 41, 42]
abbrev PsS : List (Nat × Nat) := [(43, 4), (43, 5), (43, 6), (43, 7), (43, 8), (43, 10), (34, 1)]
def CI (T : Nat → Int) (n : Nat) (od : Bool) (ci p lf ws c : Nat) (h : Sto) : Prop := (p ≤ n ∧ c ≤ p ∧ lf ≤ 50 ∧ ws < 8388608 ∧ ci < 12) ∧ TpC T n h ∧ RdC T n p h ∧ h 43 3 = (if od = true then 1 else 0) ∧ h 43 8 = (lf : Int) ∧ h 43 9 = (ci : Int) ∧ h 34 1 = (c : Int) ∧ (od = true → h 40 ci = (ws : Int))
/-- code of the class within bounds -/
def CKb (h : Sto) : Prop := ∀ i : Nat, (i : Int) < h 34 1 → (0 ≤ h 41 i ∧ h 41 i ≤ 13) ∧ 0 ≤ h 42 i ∧ h 42 i < 2147483648
theorem CKb.cg {h h2 : Sto} (H : CKb h) (e1 : h2 34 1 = h 34 1) (e2 : h2 41 = h 41) (e3 : h2 42 = h 42) : CKb h2 := fun i hi => by
  rw [e1] at hi; rw [e2, e3]; exact H i hi
theorem CKb.s42 {h : Sto} {j : Nat} {v : Int} (H : CKb h) (hv : 0 ≤ v ∧ v < 2147483648) : CKb (setH h 42 j v) := fun i hi => by
  rw [setH_o (by decide)] at hi
  have a := H i hi
  rw [setH_o (by decide)]
  by_cases ic : i = j
  · subst ic; rw [setH_self]; exact ⟨a.1, hv⟩
  · rw [setH_k ic]; exact a
def CE (ci c : Nat) (h h2 : Sto) : Prop := Fr PsP PsS h h2 ∧ (∀ i, i < c → h2 41 i = h 41 i ∧ h2 42 i = h 42 i) ∧ (∀ i, i ≠ ci → h2 40 i = h 40 i) ∧ h2 43 10 = h 43 10 ∧ (CKb h → CKb h2)
theorem CE.refl {ci c : Nat} (h : Sto) : CE ci c h h := ⟨Fr.refl h, fun _ _ => ⟨rfl, rfl⟩, fun _ _ => rfl, rfl, id⟩
theorem CE.trans {ci c c1 : Nat} {h h1 h2 : Sto} (A : CE ci c h h1) (B : CE ci c1 h1 h2) (hc : c ≤ c1) : CE ci c h h2 :=
  ⟨A.1.trans B.1, fun i hi => ⟨(B.2.1 i (by omega)).1.trans (A.2.1 i hi).1, (B.2.1 i (by omega)).2.trans (A.2.1 i hi).2⟩, fun i hi => (B.2.2.1 i hi).trans (A.2.2.1 i hi), B.2.2.2.1.trans A.2.2.2.1, fun k => B.2.2.2.2 (A.2.2.2.2 k)⟩
theorem CE.nx {ci c : Nat} {h h2 : Sto} (F : Fr [] NxS h h2) : CE ci c h h2 := ⟨F.mono rfl, fun i _ => ⟨by rw [F.row 41 rfl], by rw [F.row 42 rfl]⟩, fun i _ => by rw [F.row 40 rfl], F.at 43 10 rfl, fun k => k.cg (F.at 34 1 rfl) (F.row 41 rfl) (F.row 42 rfl)⟩
section CREAD
variable {sc : Nat × (Nat → Int)} {d : Nat} {sh : Shp} {sl : Nat} {h : Sto} {Q : Pst} {T : Nat → Int} {n : Nat} {od : Bool} {ci p lf ws c : Nat}
theorem CE.fix {h2 : Sto} (E : CE ci c h h2) (X : Fix sh h) : Fix sh h2 := E.1.fix X (by decide +kernel)
theorem cNext (X : Fix sh h) (H : CI T n od ci p lf ws c h) (hq : ∀ h2, Fr [] NxS h h2 → CI T n od ci (enT T n p) lf ws c h2 → Q (9, 0) sh sl h2) : WM sc (d + 2) 57 [(2, 43)] sh sl h Q := by
  obtain ⟨⟨a1, a2, a3, a4, a5⟩, P, R, b1, b2, b3, b4, b5⟩ := H
  have eb := enT_b (T := T) a1
  have sb := stT_b (T := T) a1
  refine sp_nextC X eb.2.1 P R.1 R.2.2.2.1 (fun h2 F R2 => hq h2 F ?_)
  exact ⟨⟨eb.2.1, by omega, a3, a4, a5⟩, ⟨P.1, fun i hi => by rw [F.row 33 rfl]; exact P.2 i hi⟩, R2, by rw [F.at 43 3 rfl]; exact b1, by rw [F.at 43 8 rfl]; exact b2, by rw [F.at 43 9 rfl]; exact b3, by rw [F.at 34 1 rfl]; exact b4, fun q => by rw [F.row 40 rfl]; exact b5 q⟩
theorem cSee {z : Int} {w : List Int} (hz : txAt z = some w) (hw : w.length ≤ 10 ∧ ∀ i, i < w.length → 0 ≤ w.getD i 0 ∧ w.getD i 0 < 128) (X : Fix sh h) (H : CI T n od ci p lf ws c h) (q1 : seeT T n p w = true → Q (0, 1) sh sl h) (q0 : seeT T n p w = false → Q (0, 0) sh sl h) : WM sc (d + 11) 61 [(2, 43), (2, z)] sh sl h Q := by
  refine sp_sees X H.1.1 H.2.1 H.2.2.1 hz hw.1 hw.2 ?_
  by_cases s : seeT T n p w = true
  · rw [if_pos s]; exact q1 s
  · rw [if_neg s]; exact q0 (Bool.eq_false_iff.mpr s)
theorem cTook {z : Int} {w : List Int} (hz : txAt z = some w) (hw : w.length ≤ 10 ∧ ∀ i, i < w.length → 0 ≤ w.getD i 0 ∧ w.getD i 0 < 128) (X : Fix sh h) (H : CI T n od ci p lf ws c h) (q1 : ∀ h2, seeT T n p w = true → Fr [] NxS h h2 → CI T n od ci (enT T n p) lf ws c h2 → Q (0, 1) sh sl h2) (q0 : seeT T n p w = false → Q (0, 0) sh sl h) : WM sc (d + 12) 67 [(2, 43), (2, z)] sh sl h Q := by
  rw [B_67_0 X]
  refine cSee hz hw X H (fun s => ?_) (fun s => ?_)
  · simp only [pushR0]
    rw [B_67_5 X, show w32 1 = 1 from rfl, if_pos (by decide)]
    refine cNext X H (fun h2 F H2 => ?_)
    simp only [pushR9]
    rw [B_67_14 (F.fix X (by decide +kernel))]
    exact q1 h2 s F H2
  · simp only [pushR0]
    rw [B_67_5 X, w32_0, if_neg (by simp)]
    exact q0 s
theorem cFail (X : Fix sh h) (H : CI T n od ci p lf ws c h) (hq : ∀ h2, Fr PsP PsS h h2 → h2 43 10 = ((stT T n p : Nat) : Int) → Q (0, 0) sh sl h2) : WM sc (d + 1) 62 [(2, 43)] sh sl h Q := by
  rw [B_62_0 X]
  exact hq _ ((Fr.refl h).set rfl) (by rw [setH_self, H.2.2.1.2.2.1])
theorem cPut {x1 x2 : Int} (X : Fix sh h) (H : CI T n od ci p lf ws c h) (hc : c < 400) (hcp : c + 1 ≤ p) (hq : ∀ h2, CE ci c h h2 → CI T n od ci p lf ws (c + 1) h2 → h2 41 c = x1 → h2 42 c = x2 → Q (0, 1) sh sl h2) (hx : (0 ≤ x1 ∧ x1 ≤ 13) ∧ 0 ≤ x2 ∧ x2 < 2147483648 := by omega) : WM sc (d + 2) 68 [(2, 43), (0, x1), (0, x2)] sh sl h Q := by
  obtain ⟨⟨a1, a2, a3, a4, a5⟩, P, R, b1, b2, b3, b4, b5⟩ := H
  rw [B_68_0 X, b4, w32_id (a := (c : Int)) (by omega) (by omega), if_pos (by omega), Int.toNat_natCast]
  refine ⟨⟨by omega, by omega⟩, ⟨by omega, by omega⟩, ?_⟩
  have F : Fr PsP PsS h (setH (setH (setH h 41 c x1) 42 c x2) 34 1 ((c : Int) + 1)) := (((Fr.refl h).setP rfl).setP rfl).set rfl
  have r40 : setH (setH (setH h 41 c x1) 42 c x2) 34 1 ((c : Int) + 1) 40 = h 40 := by rw [setH_o (by decide), setH_o (by decide), setH_o (by decide)]
  have kb : CKb h → CKb (setH (setH (setH h 41 c x1) 42 c x2) 34 1 ((c : Int) + 1)) := fun k i hi => by
    rw [setH_self] at hi
    by_cases ic : i = c
    · subst ic
      rw [setH_o (by decide), setH_o (by decide), setH_self, setH_o (by decide), setH_self]; exact hx
    · rw [setH_o (by decide), setH_o (by decide), setH_k ic, setH_o (by decide), setH_k ic, setH_o (by decide)]
      exact k i (by rw [b4]; omega)
  have r33 : setH (setH (setH h 41 c x1) 42 c x2) 34 1 ((c : Int) + 1) 33 = h 33 := by rw [setH_o (by decide), setH_o (by decide), setH_o (by decide)]
  have r43 : setH (setH (setH h 41 c x1) 42 c x2) 34 1 ((c : Int) + 1) 43 = h 43 := by rw [setH_o (by decide), setH_o (by decide), setH_o (by decide)]
  refine hq _ ⟨F, fun i hi => ⟨?_, ?_⟩, fun i _ => by rw [r40], by rw [r43], kb⟩ ⟨⟨a1, by omega, a3, a4, a5⟩, ⟨P.1, fun i hi => by rw [r33]; exact P.2 i hi⟩, ?_, by rw [r43]; exact b1, by rw [r43]; exact b2, by rw [r43]; exact b3, by rw [setH_self]; omega, fun q => by rw [r40]; exact b5 q⟩ ?_ ?_
  · rw [setH_o (by decide), setH_o (by decide), setH_k (by omega)]
  · rw [setH_o (by decide), setH_k (by omega), setH_o (by decide)]
  · unfold RdC; rw [r43]; exact R
  · rw [setH_o (by decide), setH_o (by decide), setH_self]
  · rw [setH_o (by decide), setH_self]
/-- what a reading method of the class must do -/
def CSp (sc : Nat × (Nat → Int)) (sh : Shp) (sl : Nat) (T : Nat → Int) (n : Nat) (od : Bool) (ci F m y : Nat) (A : List V) (R : RdF) : Prop := ∀ (D p lf ws c : Nat) (h : Sto) (Q : Pst), m ≤ D → Fix sh h → CI T n od ci p lf ws c h → (∀ h2 q, R p lf ws = .inl q → Fr PsP PsS h h2 → h2 43 10 = (q : Int) → Q (0, 0) sh sl h2) → (∀ h2 p1 lf1 ws1 ev c1, R p lf ws = .inr (p1, lf1, ws1, ev) → CE ci c h h2 → CI T n od ci p1 lf1 ws1 c1 h2 → c1 + p ≤ c + p1 → SeC (h2 41) (h2 42) F c c1 (lf1 - lf) ev → Q (0, 1) sh sl h2) → WM sc D y A sh sl h Q
/-- a word of a LAW -/
theorem cLawWord {F : Nat} {R : RdF} (hF : 8 ≤ F) (X : Fix sh h) (H : CI T n false ci p (lf + 1) ws c h) (hR0 : wLaw T n p = none → R p lf ws = .inl (stT T n p)) (hR1 : ∀ w, wLaw T n p = some (w, 0) → R p lf ws = .inr (enT T n p, lf + 1, ws ||| 2 ^ w, fun f => some (f w))) (q0 : ∀ h2 q, R p lf ws = .inl q → Fr PsP PsS h h2 → h2 43 10 = (q : Int) → Q (0, 0) sh sl h2) (q1 : ∀ h2 p1 lf1 ws1 ev c1, R p lf ws = .inr (p1, lf1, ws1, ev) → CE ci c h h2 → CI T n false ci p1 lf1 ws1 c1 h2 → c1 + p ≤ c + p1 → SeC (h2 41) (h2 42) F c c1 (lf1 - lf) ev → Q (0, 1) sh sl h2) : WM sc (d + 12) 70 [(2, 43)] sh sl h Q := by
  have fin : ∀ w : Nat, w < 8 → wLaw T n p = some (w, 0) → WM sc (d + 11) 57 [(2, 43)] sh sl h (fun r sh1 sl1 h1 => WF sc (d + 12) 70 122 [(2, 43), (0, (w : Int))] (pushR r []) sh1 sl1 h1 Q) := fun w hw hwl => by
    have b := wrdR_b (T := T) (n := n) (od := false) (p := p) (w := w) (ch := 0) H.1.1 (by unfold wrdR; rw [if_neg (by decide)]; exact hwl)
    refine cNext X H (fun h2 F2 H2 => ?_)
    have X2 : Fix sh h2 := F2.fix X (by decide +kernel)
    simp only [pushR9]
    rw [B_70_122 X2]
    have hn := H.2.1.1
    have hcp := H.1.2.1
    refine cPut X2 H2 (by omega) (by omega) (fun h3 E3 H3 g1 g2 => ?_)
    simp only [pushR0]
    rw [B_70_128 (E3.fix X2) (Or.inr rfl)]
    refine q1 h3 _ _ _ _ (c + 1) (hR1 w hwl) ((CE.nx F2).trans E3 (Nat.le_refl c)) ?_ (by omega) ?_
    · obtain ⟨⟨a1, a2, a3, a4, a5⟩, H3⟩ := H3
      exact ⟨⟨a1, a2, a3, orw_lt a4 (by omega), a5⟩, H3.1, H3.2.1, H3.2.2.1, H3.2.2.2.1, H3.2.2.2.2.1, H3.2.2.2.2.2.1, fun q => by cases q⟩
    · rw [show lf + 1 - lf = 1 by omega]
      exact seC_wrd g1 g2 (by omega)
  rw [B_70_0 X]
  refine cSee (w := [116, 101, 109, 112, 101, 114]) rfl (by decide) X H (fun s0 => ?_) (fun s0 => ?_)
  · simp only [pushR0]
    rw [B_70_6 X, show w32 1 = 1 from rfl, if_neg (by decide)]
    exact fin 0 (by omega) (by unfold wLaw; rw [if_pos s0])
  simp only [pushR0]
  rw [B_70_6 X, w32_0, if_pos rfl]
  refine cSee (w := [105, 114, 101]) rfl (by decide) X H (fun s1 => ?_) (fun s1 => ?_)
  · simp only [pushR0]
    rw [B_70_19 X, show w32 1 = 1 from rfl, if_neg (by decide)]
    exact fin 1 (by omega) (by unfold wLaw; rw [if_neg (by rw [s0]; decide), if_pos s1])
  simp only [pushR0]
  rw [B_70_19 X, w32_0, if_pos rfl]
  refine cSee (w := [114, 101, 97, 108, 109]) rfl (by decide) X H (fun s2 => ?_) (fun s2 => ?_)
  · simp only [pushR0]
    rw [B_70_32 X, show w32 1 = 1 from rfl, if_neg (by decide)]
    exact fin 2 (by omega) (by unfold wLaw; rw [if_neg (by rw [s0]; decide), if_neg (by rw [s1]; decide), if_pos s2])
  simp only [pushR0]
  rw [B_70_32 X, w32_0, if_pos rfl]
  refine cSee (w := [108, 97, 110, 100]) rfl (by decide) X H (fun s3 => ?_) (fun s3 => ?_)
  · simp only [pushR0]
    rw [B_70_45 X, show w32 1 = 1 from rfl, if_neg (by decide)]
    exact fin 3 (by omega) (by unfold wLaw; rw [if_neg (by rw [s0]; decide), if_neg (by rw [s1]; decide), if_neg (by rw [s2]; decide), if_pos s3])
  simp only [pushR0]
  rw [B_70_45 X, w32_0, if_pos rfl]
  refine cSee (w := [119, 111, 114, 116, 104]) rfl (by decide) X H (fun s4 => ?_) (fun s4 => ?_)
  · simp only [pushR0]
    rw [B_70_58 X, show w32 1 = 1 from rfl, if_neg (by decide)]
    exact fin 4 (by omega) (by unfold wLaw; rw [if_neg (by rw [s0]; decide), if_neg (by rw [s1]; decide), if_neg (by rw [s2]; decide), if_neg (by rw [s3]; decide), if_pos s4])
  simp only [pushR0]
  rw [B_70_58 X, w32_0, if_pos rfl]
  refine cSee (w := [103, 108, 117, 101]) rfl (by decide) X H (fun s5 => ?_) (fun s5 => ?_)
  · simp only [pushR0]
    rw [B_70_71 X, show w32 1 = 1 from rfl, if_neg (by decide)]
    exact fin 5 (by omega) (by unfold wLaw; rw [if_neg (by rw [s0]; decide), if_neg (by rw [s1]; decide), if_neg (by rw [s2]; decide), if_neg (by rw [s3]; decide), if_neg (by rw [s4]; decide), if_pos s5])
  simp only [pushR0]
  rw [B_70_71 X, w32_0, if_pos rfl]
  refine cSee (w := [100, 97, 121]) rfl (by decide) X H (fun s6 => ?_) (fun s6 => ?_)
  · simp only [pushR0]
    rw [B_70_84 X, show w32 1 = 1 from rfl, if_neg (by decide)]
    exact fin 6 (by omega) (by unfold wLaw; rw [if_neg (by rw [s0]; decide), if_neg (by rw [s1]; decide), if_neg (by rw [s2]; decide), if_neg (by rw [s3]; decide), if_neg (by rw [s4]; decide), if_neg (by rw [s5]; decide), if_pos s6])
  simp only [pushR0]
  rw [B_70_84 X, w32_0, if_pos rfl]
  refine cSee (w := [109, 111, 111, 100]) rfl (by decide) X H (fun s7 => ?_) (fun s7 => ?_)
  · simp only [pushR0]
    rw [B_70_98 X, show w32 1 = 1 from rfl, if_neg (by decide)]
    exact fin 7 (by omega) (by unfold wLaw; rw [if_neg (by rw [s0]; decide), if_neg (by rw [s1]; decide), if_neg (by rw [s2]; decide), if_neg (by rw [s3]; decide), if_neg (by rw [s4]; decide), if_neg (by rw [s5]; decide), if_neg (by rw [s6]; decide), if_pos s7])
  simp only [pushR0]
  rw [B_70_98 X, w32_0, if_pos rfl]
  refine cFail X H (fun h2 F2 g2 => ?_)
  simp only [pushR0]
  rw [B_70_117 (F2.fix X (by decide +kernel)) (Or.inl rfl)]
  exact q0 h2 _ (hR0 (by unfold wLaw; rw [if_neg (by rw [s0]; decide), if_neg (by rw [s1]; decide), if_neg (by rw [s2]; decide), if_neg (by rw [s3]; decide), if_neg (by rw [s4]; decide), if_neg (by rw [s5]; decide), if_neg (by rw [s6]; decide), if_neg (by rw [s7]; decide)])) F2 g2
/-- a word of ORDERS -/
theorem cOrdWord {F : Nat} {R : RdF} (hF : 20 ≤ F) (X : Fix sh h) (H : CI T n true ci p (lf + 1) ws c h) (hR0 : wOrd T n p = none → R p lf ws = .inl (stT T n p)) (hR1 : ∀ w, wOrd T n p = some (w, 0) → R p lf ws = .inr (enT T n p, lf + 1, ws ||| 2 ^ w, fun f => some (f w))) (hR2 : ∀ w ch, wOrd T n p = some (w, ch + 1) → R p lf ws = if kdT T n (enT T n p) = 2 ∧ nmT T n (enT T n p) < ((ch + 1 : Nat) : Int) then .inr (enT T n (enT T n p), lf + 1, ws ||| 2 ^ (w + (nmT T n (enT T n p)).toNat), fun f => some (f (w + (nmT T n (enT T n p)).toNat))) else .inl (stT T n (enT T n p))) (q0 : ∀ h2 q, R p lf ws = .inl q → Fr PsP PsS h h2 → h2 43 10 = (q : Int) → Q (0, 0) sh sl h2) (q1 : ∀ h2 p1 lf1 ws1 ev c1, R p lf ws = .inr (p1, lf1, ws1, ev) → CE ci c h h2 → CI T n true ci p1 lf1 ws1 c1 h2 → c1 + p ≤ c + p1 → SeC (h2 41) (h2 42) F c c1 (lf1 - lf) ev → Q (0, 1) sh sl h2) : WM sc (d + 12) 69 [(2, 43)] sh sl h Q := by
  have hn := H.2.1.1
  have hcp := H.1.2.1
  -- the word is known: it is put
  have put : ∀ (h2 : Sto) (p1 w : Nat) (x2 : Int), w < 20 → p < p1 → R p lf ws = .inr (p1, lf + 1, ws ||| 2 ^ w, fun f => some (f w)) → CE ci c h h2 → CI T n true ci p1 (lf + 1) ws c h2 → WF sc (d + 12) 69 173 [(2, 43), (0, (w : Int)), (0, x2)] [] sh sl h2 Q := fun h2 p1 w x2 hw hp1 hRw E2 H2 => by
    have X2 : Fix sh h2 := E2.fix X
    obtain ⟨⟨a1, a2, a3, a4, a5⟩, P2, R2, b1, b2, b3, b4, b5⟩ := H2
    have pw : 2 ^ w < 2 ^ 23 := Nat.pow_lt_pow_right (by omega) (by omega)
    rw [B_69_173 X2, b3, w32_id (a := (ci : Int)) (by omega) (by omega), Int.toNat_natCast, b5 rfl, ishl_one (by omega), ior_nat (by omega) (by omega)]
    refine ⟨⟨by omega, by omega⟩, ⟨by omega, by omega⟩, ?_⟩
    have F3 : Fr PsP PsS h2 (setH h2 40 ci ((ws ||| 2 ^ w : Nat) : Int)) := (Fr.refl h2).setP rfl
    have E3 : CE ci c h2 (setH h2 40 ci ((ws ||| 2 ^ w : Nat) : Int)) := ⟨F3, fun i _ => by rw [setH_o (by decide), setH_o (by decide)]; exact ⟨rfl, rfl⟩, fun i hi => by rw [setH_k hi], by rw [setH_o (by decide)], fun k => k.cg (by rw [setH_o (by decide)]) (setH_o (by decide)) (setH_o (by decide))⟩
    have H3 : CI T n true ci p1 (lf + 1) (ws ||| 2 ^ w) c (setH h2 40 ci ((ws ||| 2 ^ w : Nat) : Int)) := by
      refine ⟨⟨a1, a2, a3, orw_lt a4 (by omega), a5⟩, ⟨P2.1, fun i hi => by rw [setH_o (by decide)]; exact P2.2 i hi⟩, ?_, by rw [setH_o (by decide)]; exact b1, by rw [setH_o (by decide)]; exact b2, by rw [setH_o (by decide)]; exact b3, by rw [setH_o (by decide)]; exact b4, fun _ => setH_self _ _ _ _⟩
      unfold RdC; rw [setH_o (by decide)]; exact R2
    refine cPut (E3.fix X2) H3 (by omega) (by omega) (fun h4 E4 H4 g1 g2 => ?_)
    simp only [pushR0]
    rw [B_69_197 (E4.fix (E3.fix X2)) (Or.inr rfl)]
    refine q1 h4 _ _ _ _ (c + 1) hRw ((E2.trans E3 (Nat.le_refl c)).trans E4 (Nat.le_refl c)) H4 (by omega) ?_
    rw [show lf + 1 - lf = 1 by omega]
    exact seC_wrd g1 g2 (by omega)
  have fin0 : ∀ w : Nat, w < 4 → wOrd T n p = some (w, 0) → WM sc (d + 11) 57 [(2, 43)] sh sl h (fun r sh1 sl1 h1 => ∀ j2, WF sc (d + 12) 69 109 [(2, 43), (0, (w : Int)), j2] (pushR r []) sh1 sl1 h1 Q) := fun w hw hwl => by
    have b := wrdR_b (T := T) (n := n) (od := true) (p := p) (w := w) (ch := 0) H.1.1 (by unfold wrdR; rw [if_pos rfl]; exact hwl)
    refine cNext X H (fun h2 F2 H2 j2 => ?_)
    simp only [pushR9]
    rw [B_69_109 (F2.fix X (by decide +kernel)), w32_id (a := (w : Int)) (by omega) (by omega), if_neg (by omega), if_pos (by omega), if_pos (by omega)]
    exact put h2 _ w _ (by omega) b.1.1 (hR1 w hwl) (CE.nx F2) H2
  -- a number must stand behind it
  have num : ∀ (h2 : Sto) (w ch : Nat) (j2 : V), wOrd T n p = some (w, ch) → 1 ≤ ch → w + ch ≤ 20 → Fr [] NxS h h2 → CI T n true ci (enT T n p) (lf + 1) ws c h2 → (kdT T n (enT T n p) = 2 ∧ nmT T n (enT T n p) < (ch : Int) → WM sc (d + 11) 57 [(2, 43)] sh sl h2 (fun r sh1 sl1 h1 => WF sc (d + 12) 69 173 [(2, 43), (0, (w : Int) + nmT T n (enT T n p)), (0, (ch : Int))] (pushR r []) sh1 sl1 h1 Q)) ∧ (¬ (kdT T n (enT T n p) = 2 ∧ nmT T n (enT T n p) < (ch : Int)) → WM sc (d + 11) 62 [(2, 43)] sh sl h2 (fun r sh1 sl1 h1 => WF sc (d + 12) 69 161 [(2, 43), (0, (w : Int)), (0, (ch : Int))] (pushR r []) sh1 sl1 h1 Q)) := fun h2 w ch j2 hwl hch hwc F2 H2 => by
    have X2 : Fix sh h2 := F2.fix X (by decide +kernel)
    obtain ⟨ch', rfl⟩ : ∃ ch', ch = ch' + 1 := ⟨ch - 1, by omega⟩
    have r2 := hR2 w ch' hwl
    have b := wrdR_b (T := T) (n := n) (od := true) (p := p) (w := w) (ch := ch' + 1) H.1.1 (by unfold wrdR; rw [if_pos rfl]; exact hwl)
    have nb := nmT_b (T := T) (n := n) H2.1.1
    refine ⟨fun cc => ?_, fun cc => ?_⟩
    · rw [if_pos cc] at r2
      have kn := kd_ne (T := T) (n := n) H2.1.1 (by omega)
      refine cNext X2 H2 (fun h3 F3 H3 => ?_)
      simp only [pushR9]
      rw [show (w : Int) + nmT T n (enT T n p) = ((w + (nmT T n (enT T n p)).toNat : Nat) : Int) by omega]
      exact put h3 _ _ _ (by omega) (by omega) r2 ((CE.nx F2).trans (CE.nx F3) (Nat.le_refl c)) H3
    · rw [if_neg cc] at r2
      refine cFail X2 H2 (fun h3 F3 g3 => ?_)
      simp only [pushR0]
      rw [B_69_161 (F3.fix X2 (by decide +kernel)) (Or.inl rfl)]
      exact q0 h3 _ r2 ((F2.mono rfl).trans F3) g3
  have fin3 : ∀ w : Nat, (w = 4 ∨ w = 7) → wOrd T n p = some (w, 3) → WM sc (d + 11) 57 [(2, 43)] sh sl h (fun r sh1 sl1 h1 => ∀ j2, WF sc (d + 12) 69 109 [(2, 43), (0, (w : Int)), j2] (pushR r []) sh1 sl1 h1 Q) := fun w hw hwl => by
    refine cNext X H (fun h2 F2 H2 j2 => ?_)
    have X2 : Fix sh h2 := F2.fix X (by decide +kernel)
    have nb := nmT_b (T := T) (n := n) H2.1.1
    have kb := kdT_b (T := T) (n := n) (p := enT T n p)
    have nu := num h2 w 3 j2 hwl (by omega) (by omega) F2 H2
    simp only [pushR9]
    have go : WF sc (d + 12) 69 120 [(2, 43), (0, (w : Int)), j2] [] sh sl h2 Q := by
      rw [B_69_120 X2, H2.2.2.1.2.1, H2.2.2.1.2.2.2.2, w32_id (a := ((kdT T n (enT T n p) : Nat) : Int)) (by omega) (by omega), w32_id (a := nmT T n (enT T n p)) (by omega) (by omega)]
      refine ite_i (fun k2 => nu.2 (by omega)) (fun k2 => ite_i (fun k3 => nu.1 (by omega)) (fun k3 => nu.2 (by omega)))
    rw [B_69_109 X2, w32_id (a := (w : Int)) (by omega) (by omega)]
    rcases hw with rfl | rfl
    · rw [if_pos (by decide)]; exact go
    · rw [if_neg (by decide), if_neg (by decide)]; exact go
  have fin10 : wOrd T n p = some (10, 10) → WM sc (d + 11) 57 [(2, 43)] sh sl h (fun r sh1 sl1 h1 => ∀ j2, WF sc (d + 12) 69 109 [(2, 43), (0, 10), j2] (pushR r []) sh1 sl1 h1 Q) := fun hwl => by
    refine cNext X H (fun h2 F2 H2 j2 => ?_)
    have X2 : Fix sh h2 := F2.fix X (by decide +kernel)
    have nb := nmT_b (T := T) (n := n) H2.1.1
    have kb := kdT_b (T := T) (n := n) (p := enT T n p)
    have nu := num h2 10 10 j2 hwl (by omega) (by omega) F2 H2
    simp only [pushR9]
    rw [B_69_109 X2, show w32 10 = 10 from rfl, if_neg (by decide), if_pos (by decide), if_neg (by decide), H2.2.2.1.2.1, H2.2.2.1.2.2.2.2, w32_id (a := ((kdT T n (enT T n p) : Nat) : Int)) (by omega) (by omega), w32_id (a := nmT T n (enT T n p)) (by omega) (by omega)]
    refine ite_i (fun k2 => nu.2 (by omega)) (fun k2 => ite_i (fun k3 => nu.1 (by omega)) (fun k3 => nu.2 (by omega)))
  rw [B_69_0 X]
  refine cSee (w := [100, 97, 121]) rfl (by decide) X H (fun s0 => ?_) (fun s0 => ?_)
  · simp only [pushR0]
    rw [B_69_6 X, show w32 1 = 1 from rfl, if_neg (by decide)]
    exact WM.mono (fun r sh1 sl1 h1 z => z _) (fin0 0 (by omega) (by unfold wOrd; rw [if_pos s0]))
  simp only [pushR0]
  rw [B_69_6 X, w32_0, if_pos rfl]
  refine cSee (w := [100, 111, 110, 101]) rfl (by decide) X H (fun s1 => ?_) (fun s1 => ?_)
  · simp only [pushR0]
    rw [B_69_19 X, show w32 1 = 1 from rfl, if_neg (by decide)]
    exact WM.mono (fun r sh1 sl1 h1 z => z _) (fin0 1 (by omega) (by unfold wOrd; rw [if_neg (by rw [s0]; decide), if_pos s1]))
  simp only [pushR0]
  rw [B_69_19 X, w32_0, if_pos rfl]
  refine cSee (w := [108, 97, 116, 101, 115, 116]) rfl (by decide) X H (fun s2 => ?_) (fun s2 => ?_)
  · simp only [pushR0]
    rw [B_69_32 X, show w32 1 = 1 from rfl, if_neg (by decide)]
    exact WM.mono (fun r sh1 sl1 h1 z => z _) (fin0 2 (by omega) (by unfold wOrd; rw [if_neg (by rw [s0]; decide), if_neg (by rw [s1]; decide), if_pos s2]))
  simp only [pushR0]
  rw [B_69_32 X, w32_0, if_pos rfl]
  refine cSee (w := [102, 114, 101, 101]) rfl (by decide) X H (fun s3 => ?_) (fun s3 => ?_)
  · simp only [pushR0]
    rw [B_69_45 X, show w32 1 = 1 from rfl, if_neg (by decide)]
    exact WM.mono (fun r sh1 sl1 h1 z => z _) (fin0 3 (by omega) (by unfold wOrd; rw [if_neg (by rw [s0]; decide), if_neg (by rw [s1]; decide), if_neg (by rw [s2]; decide), if_pos s3]))
  simp only [pushR0]
  rw [B_69_45 X, w32_0, if_pos rfl]
  refine cSee (w := [112, 97, 105, 100]) rfl (by decide) X H (fun s4 => ?_) (fun s4 => ?_)
  · simp only [pushR0]
    rw [B_69_58 X, show w32 1 = 1 from rfl, if_neg (by decide)]
    exact WM.mono (fun r sh1 sl1 h1 z => z _) (fin3 4 (by omega) (by unfold wOrd; rw [if_neg (by rw [s0]; decide), if_neg (by rw [s1]; decide), if_neg (by rw [s2]; decide), if_neg (by rw [s3]; decide), if_pos s4]))
  simp only [pushR0]
  rw [B_69_58 X, w32_0, if_pos rfl]
  refine cSee (w := [113, 117, 97, 114, 114, 101, 108]) rfl (by decide) X H (fun s5 => ?_) (fun s5 => ?_)
  · simp only [pushR0]
    rw [B_69_71 X, show w32 1 = 1 from rfl, if_neg (by decide)]
    exact WM.mono (fun r sh1 sl1 h1 z => z _) (fin3 7 (by omega) (by unfold wOrd; rw [if_neg (by rw [s0]; decide), if_neg (by rw [s1]; decide), if_neg (by rw [s2]; decide), if_neg (by rw [s3]; decide), if_neg (by rw [s4]; decide), if_pos s5]))
  simp only [pushR0]
  rw [B_69_71 X, w32_0, if_pos rfl]
  refine cSee (w := [115, 112, 111, 116]) rfl (by decide) X H (fun s6 => ?_) (fun s6 => ?_)
  · simp only [pushR0]
    rw [B_69_85 X, show w32 1 = 1 from rfl, if_neg (by decide)]
    exact WM.mono (fun r sh1 sl1 h1 z => z _) (fin10 (by unfold wOrd; rw [if_neg (by rw [s0]; decide), if_neg (by rw [s1]; decide), if_neg (by rw [s2]; decide), if_neg (by rw [s3]; decide), if_neg (by rw [s4]; decide), if_neg (by rw [s5]; decide), if_pos s6]))
  simp only [pushR0]
  rw [B_69_85 X, w32_0, if_pos rfl]
  refine cFail X H (fun h2 F2 g2 => ?_)
  simp only [pushR0]
  rw [B_69_104 (F2.fix X (by decide +kernel)) (Or.inl rfl)]
  exact q0 h2 _ (hR0 (by unfold wOrd; rw [if_neg (by rw [s0]; decide), if_neg (by rw [s1]; decide), if_neg (by rw [s2]; decide), if_neg (by rw [s3]; decide), if_neg (by rw [s4]; decide), if_neg (by rw [s5]; decide), if_neg (by rw [s6]; decide)])) F2 g2
end CREAD
