/-! ===== clauses, in either language ===== -/
/-- kind, TEST, first SUM, second SUM, times, words -/
abbrev Clx : Type := Nat × Option Ev × Option Ev × Option Ev × Nat × Nat
abbrev RsC : Type := Sum Nat (Nat × Nat × Clx)
section CLAUS
variable (T : Nat → Int) (n : Nat) (od : Bool)
def hdLaw (p : Nat) : Option Nat := if seeT T n p [113, 117, 97, 114, 114, 101, 108, 115] = true then some 0 else if seeT T n p [100, 114, 105, 101, 115] = true then some 1 else if seeT T n p [99, 111, 117, 110, 116, 115] = true then some 2 else if seeT T n p [98, 97, 114, 115] = true then some 3 else none
def hdOrd (p : Nat) : Option Nat := if seeT T n p [115, 116, 105, 99, 107] = true then some 0 else if seeT T n p [112, 101, 101, 108] = true then some 1 else if seeT T n p [99, 97, 110, 99, 101, 108] = true then some 2 else if seeT T n p [112, 97, 115, 115] = true then some 3 else none
def hdR (p : Nat) : Option Nat := if od = true then hdOrd T n p else hdLaw T n p
/-- place, leaves, words, and the SUM, if one is due -/
def smR (due : Bool) (p lf ws : Nat) : Sum Nat (Nat × Nat × Nat × Option Ev) := if due = true then (match sumK T n od 8 p lf ws with
  | .inl q => .inl q
  | .inr (p1, lf1, ws1, ev) => .inr (p1, lf1, ws1, some ev)) else .inr (p, lf, ws, none)
def onR (due : Bool) (p : Nat) : Sum Nat Nat := if due = true then (if seeT T n p [111, 110] = true then .inr (enT T n p) else .inl (stT T n p)) else .inr p
def tmR (p : Nat) : Sum Nat (Nat × Nat) := if od = true ∧ seeT T n p [116, 105, 109, 101, 115] = true then (if kdT T n (enT T n p) = 2 ∧ 1 ≤ nmT T n (enT T n p) ∧ nmT T n (enT T n p) ≤ 20 then .inr (enT T n (enT T n p), (nmT T n (enT T n p)).toNat) else .inl (stT T n (enT T n p))) else .inr (p, 1)
def ifR (p lf ws : Nat) : Sum Nat (Nat × Nat × Nat × Option Ev) := if seeT T n p [105, 102] = true then (match anyK T n od 8 (enT T n p) lf ws with
  | .inl q => .inl q
  | .inr (p1, lf1, ws1, ev) => .inr (p1, lf1, ws1, some ev)) else .inr (p, lf, ws, none)
def clR (p lf : Nat) : RsC := match hdR T n od p with
  | none => .inl (stT T n p)
  | some k => match smR T n od (decide (k ≠ 3)) (enT T n p) lf 0 with
    | .inl q => .inl q
    | .inr (p1, lf1, ws1, s1) => match onR T n (od && decide (k = 0)) p1 with
      | .inl q => .inl q
      | .inr p2 => match smR T n od (od && decide (k = 0)) p2 lf1 ws1 with
        | .inl q => .inl q
        | .inr (p3, lf3, ws3, s2) => match tmR T n od p3 with
          | .inl q => .inl q
          | .inr (p4, tm) => match ifR T n od p4 lf3 ws3 with
            | .inl q => .inl q
            | .inr (p5, lf5, ws5, ts) => .inr (p5, lf5, (k, ts, s1, s2, tm, ws5))
def txR : Nat → Nat → Nat → List Clx → Sum Nat (List Clx)
  | 0, p, _, _ => .inl (stT T n p)
  | r + 1, p, lf, L => match clR T n od p lf with
    | .inl q => .inl q
    | .inr (p1, lf1, cl) => if kdT T n p1 = 0 then .inr (L ++ [cl]) else if seeT T n p1 [59] = true then txR r (enT T n p1) lf1 (L ++ [cl]) else .inl (stT T n p1)
end CLAUS
/-- a closed stretch of the class's code at v -/
def SgO (F : Nat) (h : Sto) (c : Nat) (v : Int) (o : Option Ev) : Prop := match o with
  | none => v = -1
  | some ev => ∃ a e l : Nat, v = (a : Int) ∧ SeC (h 41) (h 42) F a e l ev ∧ h 41 e = 13 ∧ e < c ∧ l ≤ 50
theorem SgO.mono {F c c2 : Nat} {h h2 : Sto} {v : Int} {o : Option Ev} (H : SgO F h c v o) (hc : c ≤ c2) (e : ∀ i, i < c → h2 41 i = h 41 i ∧ h2 42 i = h 42 i) : SgO F h2 c2 v o := by
  cases o with
  | none => exact H
  | some ev =>
    obtain ⟨a, e1, l, h1, h3, h4, h5, h6⟩ := H
    exact ⟨a, e1, l, h1, h3.cg (fun i _ hi => e i (by omega)), by rw [(e e1 h5).1]; exact h4, by omega, h6⟩
section CCLAUS
variable {sc : Nat × (Nat → Int)} {sh : Shp} {sl : Nat} {T : Nat → Int} {n : Nat} {od : Bool} {ci F : Nat}
/-- a SUM with its STOP -/
theorem cWhole {D p lf ws c : Nat} {h : Sto} {Q : Pst} (hF : (od = true → 20 ≤ F) ∧ 8 ≤ F) (hD : 42 ≤ D) (X : Fix sh h) (H : CI T n od ci p lf ws c h) (hc : c + 1 ≤ p) (q0 : ∀ h2 q, sumK T n od 8 p lf ws = .inl q → Fr PsP PsS h h2 → h2 43 10 = (q : Int) → Q (0, 0) sh sl h2) (q1 : ∀ h2 p1 lf1 ws1 ev c1, sumK T n od 8 p lf ws = .inr (p1, lf1, ws1, ev) → CE ci c h h2 → CI T n od ci p1 lf1 ws1 c1 h2 → c < c1 → c1 + p ≤ c + p1 + 1 → SgO F h2 c1 (c : Int) (some ev) → Q (0, 1) sh sl h2) : WM sc D 63 [(2, 43)] sh sl h Q := by
  obtain ⟨E, rfl⟩ : ∃ E, D = E + 3 := ⟨D - 3, by omega⟩
  have bd := H.bd
  rw [B_63_0 X]
  refine cSumK hF 8 0 (by omega) (by omega) (E + 2) p lf ws c h _ (by omega) X H (fun h2 q hS F2 g2 => ?_) (fun h2 p1 lf1 ws1 ev c1 hS E2 H2 hc2 sg => ?_)
  · simp only [pushR0]
    rw [B_63_5 (F2.fix X (by decide +kernel)), w32_0, if_pos rfl]
    exact q0 h2 q hS F2 g2
  · have g := sum_good 8 _ _ _ _ _ _ _ bd.1 H.1.2.2.1 H.1.2.2.2.1 hS
    have X2 := E2.fix X
    have b2 := H2.bd
    have s2 := sg.1
    simp only [pushR0]
    rw [B_63_5 X2, show w32 1 = 1 from rfl, if_neg (by decide)]
    refine cPut X2 H2 (by omega) (by omega) (fun h3 E3 H3 g1 g2 => ?_)
    simp only [pushR0]
    rw [B_63_15 (E3.fix X2), show w32 1 = 1 from rfl, if_neg (by decide)]
    exact q1 h3 p1 lf1 ws1 ev (c1 + 1) hS (E2.trans E3 (by omega)) H3 (by omega) (by omega) ⟨c, c1, lf1 - lf, rfl, sg.cg (E3.ag (Nat.le_refl _)), g1, by omega, by omega⟩
end CCLAUS
