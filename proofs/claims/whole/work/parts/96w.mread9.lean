section MREAD9
variable {sc : Nat × (Nat → Int)} {d : Nat} {sh : Shp} {sl : Nat} {T : Nat → Int} {n : Nat} {od : Bool}
/-- a fault: the pile is written out, and that is all -/
theorem mBad {h h2 : Sto} {Q : Pst} {q : Nat} {x1 t : Int} (X : Fix sh h) (B : MB q h h2) (hq : ∀ h3, Fr MrP MrS h h3 → h3 85 19 = 1 → h3 85 18 = (q : Int) → Q (9, 0) sh sl h3) : WF sc (d + 12) 203 20 [(2, 85), (0, x1), (0, t)] [] sh sl h2 Q := by
  obtain ⟨F, b1, b2, pl, c, S⟩ := B
  have X2 : Fix sh h2 := F.fix X (by decide +kernel)
  rw [B_203_20 X2, b1, show w32 1 = 1 from rfl, if_pos (by decide), E_216]
  obtain ⟨tl, rest, e, ht, hr⟩ := pl_split 1 pl
  rw [e] at S
  refine lp_settle (by decide) X2 hr tl c h2 S ht (Fr.refl h2) (fun h3 F3 g1 g2 g3 g4 => ?_)
  have X3 : Fix sh h3 := F3.fix X2 (by decide +kernel)
  simp only [pushR9]
  rw [B_203_81 X3]
  exact hq h3 (F.trans (F3.mono rfl)) (by rw [F3.at 85 19 rfl]; exact b1) (by rw [F3.at 85 18 rfl]; exact b2)
/-- the end: the pile is written out -/
theorem mOver {h : Sto} {Q : Pst} {p lf c b : Nat} {tl : Pil} {x1 : Int} (X : Fix sh h) (H : MI T n od p lf c tl b h) (ht : ∀ x ∈ tl, 1 ≤ bnd x.1) (hq : ∀ h2, Fr [96, 97] [(85, 23), (85, 29)] h h2 → h2 96 = (fluS tl (h 96, h 97, c)).1 → h2 97 = (fluS tl (h 96, h 97, c)).2.1 → c ≤ (fluS tl (h 96, h 97, c)).2.2 → MI T n od p lf (fluS tl (h 96, h 97, c)).2.2 [] b h2 → Q (9, 0) sh sl h2) : WF sc (d + 12) 203 20 [(2, 85), (0, x1), (0, 4)] [] sh sl h Q := by
  rw [B_203_20 X, H.2.2.2.1, w32_0, if_neg (by simp), show w32 4 = 4 from rfl, if_pos rfl]
  refine mSettle (pl := []) (by decide) X (by rw [List.append_nil]; exact H) ht (fun x r e => by cases e) (fun h2 F2 g1 g2 g3 H2 => ?_)
  simp only [pushR9]
  rw [B_203_81 (F2.fix X (by decide +kernel))]
  exact hq h2 F2 g1 g2 g3 H2
/-- the state between two expressions -/
def MEx (T : Nat → Int) (n : Nat) (od : Bool) (p lf c : Nat) (h : Sto) : Prop := (p ≤ n ∧ lf ≤ 50 ∧ c ≤ p) ∧ TpM T n h ∧ RdM T n p h ∧ h 85 19 = 0 ∧ h 85 20 = (if od = true then 1 else 0) ∧ h 85 26 = (lf : Int) ∧ h 85 23 = (c : Int)
theorem MEx.mi {h : Sto} {p lf c : Nat} (H : MEx T n od p lf c h) : MI T n od p lf c [] 0 (setH (setH h 85 29 0) 85 30 0) := by
  obtain ⟨⟨a1, a2, a3⟩, P, R, b1, b2, b3, b4⟩ := H
  have hn := P.1
  have F : Fr [] [(85, 29), (85, 30)] h (setH (setH h 85 29 0) 85 30 0) := ((Fr.refl h).set rfl).set rfl
  exact ⟨⟨a1, a2, a3, by omega⟩, ⟨P.1, fun i hi => by rw [F.row 94 rfl]; exact P.2 i hi⟩, R.fr (F.mono rfl), by rw [F.at 85 19 rfl]; exact b1, by rw [F.at 85 20 rfl]; exact b2, by rw [F.at 85 26 rfl]; exact b3, setH_self _ _ _ _, by rw [setH_k (by decide), setH_self]; rfl, by rw [F.at 85 23 rfl]; exact b4, trivial, fun x hx => (by cases hx), by show c + 0 ≤ 400; omega⟩
theorem MI.me {h : Sto} {p lf c b : Nat} {pl : Pil} (H : MI T n od p lf c pl b h) : MEx T n od p lf c h := by
  obtain ⟨⟨a1, a2, a3, a4⟩, P, R, b1, b2, b3, b4, k1, k2, k⟩ := H
  exact ⟨⟨a1, a2, by omega⟩, P, R, b1, b2, b3, k2⟩
theorem sp_expr {h : Sto} {Q : Pst} {p lf ws c : Nat} (tst : Bool) (X : Fix sh h) (H : MEx T n od p lf c h) (hws : ws < 8388608) (q0 : ∀ h2 q, (if tst = true then anyK T n od 8 else sumK T n od 8) p lf ws = .inl q → Fr MrP MrS h h2 → h2 85 19 = 1 → h2 85 18 = (q : Int) → Q (9, 0) sh sl h2) (q1 : ∀ h2 p1 lf1 ws1 ev c1, (if tst = true then anyK T n od 8 else sumK T n od 8) p lf ws = .inr (p1, lf1, ws1, ev) → MX c h h2 → MEx T n od p1 lf1 c1 h2 → c < c1 → SeM (h2 96) (h2 97) (wxF od) (wtp od) c c1 (lf1 - lf) ev → Q (9, 0) sh sl h2) : WM sc (d + 12) 203 [(2, 85), (0, if tst = true then 1 else 0)] sh sl h Q := by
  have F0 : Fr [] [(85, 29), (85, 30)] h (setH (setH h 85 29 0) 85 30 0) := ((Fr.refl h).set rfl).set rfl
  have X0 : Fix sh (setH (setH h 85 29 0) 85 30 0) := F0.fix X (by decide +kernel)
  have H0 := H.mi
  have bad : ∀ h2 q (x1 t : Int), (if tst = true then anyK T n od 8 else sumK T n od 8) p lf ws = .inl q → MB q (setH (setH h 85 29 0) 85 30 0) h2 → WF sc (d + 12) 203 20 [(2, 85), (0, x1), (0, t)] [] sh sl h2 Q := fun h2 q x1 t hR B => mBad X0 B (fun h3 F3 g1 g2 => q0 h3 q hR ((F0.mono rfl).trans F3) g1 g2)
  -- written out, and done
  have fin : ∀ (h2 : Sto) (p1 lf1 ws1 c1 : Nat) (ev : Ev) (tl : Pil) (x1 : Int), (if tst = true then anyK T n od 8 else sumK T n od 8) p lf ws = .inr (p1, lf1, ws1, ev) → MX c (setH (setH h 85 29 0) 85 30 0) h2 → MI T n od p1 lf1 c1 (tl ++ []) 0 h2 → c ≤ c1 → (∀ x ∈ tl, 1 ≤ bnd x.1) → TlC c tl → TlT od h2 c c1 (lf1 - lf) tl ev → WF sc (d + 12) 203 20 [(2, 85), (0, x1), (0, 4)] [] sh sl h2 Q := fun h2 p1 lf1 ws1 c1 ev tl x1 hR E2 H2 hc ht htc hT => by
    rw [List.append_nil] at H2
    refine mOver (E2.fix X0) H2 ht (fun h3 F3 g1 g2 g3 H3 => ?_)
    unfold TlT at hT
    have lo := fluS_lo tl (h2 96, h2 97, c1) htc hc
    obtain ⟨s2, hs2⟩ : ∃ s2, fluS tl (h2 96, h2 97, c1) = s2 := ⟨_, rfl⟩
    rw [hs2] at hT g1 g2 g3 H3 lo
    have hT1 := hT.1
    refine q1 h3 p1 lf1 ws1 ev s2.2.2 hR ⟨((F0.mono rfl).trans E2.1).trans (F3.mono rfl), fun i hi => ?_, fun k => mkb_flu (pl := []) (E2.2.2 (k.cg (F0.at 85 23 rfl) (F0.row 96 rfl) (F0.row 97 rfl))) (by rw [List.append_nil]; exact H2.2.2.2.2.2.2.2) (by rw [hs2]; exact g1) (by rw [hs2]; exact g2) (by rw [hs2]; exact H3.2.2.2.2.2.2.2.2.1)⟩ H3.me hT1.1 (by rw [g1, g2]; exact hT)
    have l := lo i hi
    have e := E2.2.1 i hi
    rw [g1, g2]
    exact ⟨l.1.trans (e.1.trans (by rw [F0.row 96 rfl])), l.2.trans (e.2.trans (by rw [F0.row 97 rfl]))⟩
  cases tst with
  | false =>
    rw [show (if (false : Bool) = true then (1 : Int) else 0) = 0 from rfl, B_203_0 X, w32_0, if_pos rfl]
    refine mSumK 8 0 rfl _ p lf ws c [] Q X0 H0 hws (fun x r e => by cases e) (fun h2 q t hR B => bad h2 q _ t hR B) (fun h2 p1 lf1 ws1 ev c1 tl hR E2 H2 hc ht htc hE hT => ?_)
    have X2 := E2.fix X0
    refine t_sum X2 H2 (bs_in X2 H2 hE.2.1 hE.1 ?_)
    have ii : innP (tl ++ []) = -1 := by rw [innP_app (fun x hx => by have := ht x hx; omega)]; rfl
    rw [ii, B_214_101 X2, show w32 (-1) = -1 from rfl, if_pos (by decide), if_neg (by simp), w32_0, if_neg (by simp)]
    simp only [pushR0]
    rw [B_203_65 X2, B_203_72 X2]
    exact fin h2 p1 lf1 ws1 c1 ev tl _ hR E2 H2 hc (fun x hx => by have := ht x hx; omega) htc hT
  | true =>
    rw [show (if (true : Bool) = true then (1 : Int) else 0) = 1 from rfl, B_203_0 X, show w32 1 = 1 from rfl, if_neg (by decide)]
    refine mAnyK 8 0 rfl _ p lf ws c [] Q X0 H0 hws ⟨fun x r e => (by cases e), by decide⟩ (fun h2 q t hR B => bad h2 q _ t hR B) (fun h2 p1 lf1 ws1 ev c1 tl hR E2 H2 hc ht htc hE hT => ?_)
    have X2 := E2.fix X0
    refine t_told X2 H2 (bt_no X2 H2 hE ?_)
    have ii : innP (tl ++ []) = -1 := by rw [innP_app (fun x hx => (ht x hx).2.2)]; rfl
    rw [ii, B_219_80 X2, show w32 (-1) = -1 from rfl, if_neg (by simp)]
    simp only [pushR0]
    rw [B_203_72 X2]
    exact fin h2 p1 lf1 ws1 c1 ev tl _ hR E2 H2 hc (fun x hx => (ht x hx).1) htc hT
end MREAD9
