/-! ===== what a text read is good for ===== -/
def ClG (od : Bool) (cl : Clx) : Prop := cl.1 ≤ 3 ∧ (∀ ev, cl.2.1 = some ev → (EvOK ev ∧ EvD ev cl.2.2.2.2.2) ∧ EvB ev) ∧ (∀ ev, cl.2.2.1 = some ev → EvOK ev ∧ EvD ev cl.2.2.2.2.2) ∧ (∀ ev, cl.2.2.2.1 = some ev → EvOK ev ∧ EvD ev cl.2.2.2.2.2) ∧ (cl.2.2.1 = none ↔ cl.1 = 3) ∧ (cl.2.2.2.1 = none ↔ ¬ (od = true ∧ cl.1 = 0)) ∧ (1 ≤ cl.2.2.2.2.1 ∧ cl.2.2.2.2.1 ≤ 20) ∧ cl.2.2.2.2.2 < 8388608
section GOOD
variable {T : Nat → Int} {n : Nat} {od : Bool} {p p1 lf lf1 ws ws1 k tm : Nat} {s : Option Ev}
theorem smR_good {due : Bool} (hp : p ≤ n) (hl : lf ≤ 50) (hw : ws < 8388608) (e : smR T n od due p lf ws = .inr (p1, lf1, ws1, s)) : (p ≤ p1 ∧ p1 ≤ n) ∧ lf1 ≤ 50 ∧ ws1 < 8388608 ∧ (∀ x, ws.testBit x = true → ws1.testBit x = true) ∧ (∀ ev, s = some ev → EvOK ev ∧ EvD ev ws1) ∧ (s = none ↔ due = false) := by
  cases due with
  | false =>
    rw [smR_f] at e
    cases e
    exact ⟨⟨Nat.le_refl _, hp⟩, hl, hw, fun _ h => h, fun ev h => (by cases h), by simp⟩
  | true =>
    unfold smR at e
    rw [if_pos rfl] at e
    cases hS : sumK T n od 8 p lf ws with
    | inl q => rw [hS] at e; cases e
    | inr x =>
      obtain ⟨a, b, c, ev⟩ := x
      rw [hS] at e
      cases e
      have g := sum_good 8 _ _ _ _ _ _ _ hp hl hw hS
      exact ⟨⟨by omega, g.1.2⟩, g.2.1.2, g.2.2.1, g.2.2.2.1, fun ev2 h => (by cases h; exact ⟨g.2.2.2.2.2.1, g.2.2.2.2.1⟩), by simp⟩
theorem ifR_good (hp : p ≤ n) (hl : lf ≤ 50) (hw : ws < 8388608) (e : ifR T n od p lf ws = .inr (p1, lf1, ws1, s)) : (p ≤ p1 ∧ p1 ≤ n) ∧ lf1 ≤ 50 ∧ ws1 < 8388608 ∧ (∀ x, ws.testBit x = true → ws1.testBit x = true) ∧ (∀ ev, s = some ev → (EvOK ev ∧ EvD ev ws1) ∧ EvB ev) := by
  unfold ifR at e
  split at e
  · next c =>
    have eb := enT_b (T := T) hp
    have sb := stT_b (T := T) hp
    cases hS : anyK T n od 8 (enT T n p) lf ws with
    | inl q => rw [hS] at e; cases e
    | inr x =>
      obtain ⟨a, b, c, ev⟩ := x
      rw [hS] at e
      cases e
      have g := any_good 8 _ _ _ _ _ _ _ eb.2.1 hl hw hS
      exact ⟨⟨by omega, g.1.2⟩, g.2.1.2, g.2.2.1, g.2.2.2.1, fun ev2 h => (by cases h; exact ⟨⟨g.2.2.2.2.2.1, g.2.2.2.2.1⟩, g.2.2.2.2.2.2 rfl⟩)⟩
  · cases e
    exact ⟨⟨Nat.le_refl _, hp⟩, hl, hw, fun _ h => h, fun ev h => (by cases h)⟩
theorem onR_good {due : Bool} (hp : p ≤ n) (e : onR T n due p = .inr p1) : p ≤ p1 ∧ p1 ≤ n := by
  have eb := enT_b (T := T) hp
  have sb := stT_b (T := T) hp
  unfold onR at e
  split at e
  · split at e
    · cases e; omega
    · cases e
  · cases e; omega
theorem tmR_good (hp : p ≤ n) (e : tmR T n od p = .inr (p1, tm)) : (p ≤ p1 ∧ p1 ≤ n) ∧ 1 ≤ tm ∧ tm ≤ 20 := by
  have eb := enT_b (T := T) hp
  have sb := stT_b (T := T) hp
  have eb2 := enT_b (T := T) eb.2.1
  have sb2 := stT_b (T := T) eb.2.1
  unfold tmR at e
  split at e
  · split at e
    · next c => cases e; omega
    · cases e
  · cases e; omega
theorem clR_good {cl : Clx} (hp : p ≤ n) (hl : lf ≤ 50) (e : clR T n od p lf = .inr (p1, lf1, cl)) : p1 ≤ n ∧ lf1 ≤ 50 ∧ ClG od cl := by
  unfold clR at e
  have eb := enT_b (T := T) hp
  cases e0 : hdR T n od p with
  | none => rw [e0] at e; cases e
  | some k =>
    have kb := hdR_b hp e0
    rw [e0] at e
    simp only [] at e
    cases e1 : smR T n od (decide (k ≠ 3)) (enT T n p) lf 0 with
    | inl q => rw [e1] at e; cases e
    | inr x =>
      obtain ⟨pa, la, wa, s1⟩ := x
      have g1 := smR_good eb.2.1 hl (by omega) e1
      rw [e1] at e
      simp only [] at e
      cases e2 : onR T n (od && decide (k = 0)) pa with
      | inl q => rw [e2] at e; cases e
      | inr pb =>
        have g2 := onR_good g1.1.2 e2
        rw [e2] at e
        simp only [] at e
        cases e3 : smR T n od (od && decide (k = 0)) pb la wa with
        | inl q => rw [e3] at e; cases e
        | inr x =>
          obtain ⟨pc, lc, wc, s2⟩ := x
          have g3 := smR_good g2.2 g1.2.1 g1.2.2.1 e3
          rw [e3] at e
          simp only [] at e
          cases e4 : tmR T n od pc with
          | inl q => rw [e4] at e; cases e
          | inr x =>
            obtain ⟨pd, tm⟩ := x
            have g4 := tmR_good g3.1.2 e4
            rw [e4] at e
            simp only [] at e
            cases e5 : ifR T n od pd lc wc with
            | inl q => rw [e5] at e; cases e
            | inr x =>
              obtain ⟨pe, le, we, ts⟩ := x
              have g5 := ifR_good g4.1.2 g3.2.1 g3.2.2.1 e5
              rw [e5] at e
              cases e
              refine ⟨g5.1.2, g5.2.1, by show k ≤ 3; omega, fun ev h => g5.2.2.2.2 ev h, fun ev h => ?_, fun ev h => ?_, ?_, ?_, g4.2, g5.2.2.1⟩
              · have a := g1.2.2.2.2.1 ev h
                exact ⟨a.1, (a.2.mono g3.2.2.2.1).mono g5.2.2.2.1⟩
              · have a := g3.2.2.2.2.1 ev h
                exact ⟨a.1, a.2.mono g5.2.2.2.1⟩
              · have a := g1.2.2.2.2.2
                show s1 = none ↔ k = 3
                rw [a]
                simp
              · have a := g3.2.2.2.2.2
                show s2 = none ↔ ¬ (od = true ∧ k = 0)
                rw [a]
                cases od <;> simp
theorem txR_good : ∀ (r p lf : Nat) (L L2 : List Clx), p ≤ n → lf ≤ 50 → (∀ cl ∈ L, ClG od cl) → txR T n od r p lf L = .inr L2 → ∀ cl ∈ L2, ClG od cl := by
  intro r
  induction r with
  | zero => intro p lf L L2 hp hl hL e; cases e
  | succ r ih =>
    intro p lf L L2 hp hl hL e
    cases ec : clR T n od p lf with
    | inl q => rw [txR_0 ec] at e; cases e
    | inr x =>
      obtain ⟨p1, lf1, cl⟩ := x
      have g := clR_good hp hl ec
      have eb := enT_b (T := T) g.1
      rw [txR_1 ec] at e
      have hL2 : ∀ c ∈ L ++ [cl], ClG od c := fun c hc => by
        rcases List.mem_append.mp hc with h | h
        · exact hL c h
        · rw [List.mem_singleton.mp h]; exact g.2.2
      split at e
      · cases e; exact hL2
      · split at e
        · exact ih _ _ _ _ eb.2.1 g.2.1 hL2 e
        · cases e
end GOOD
/-- the law that a text means -/
def lawOf (L : List Clx) : Law := L.map (fun cl => (cl.1, cl.2.1, cl.2.2.1))
theorem lawOf_len {L : List Clx} : (lawOf L).length = L.length := List.length_map _
theorem lawOf_get {L : List Clx} {i : Nat} {c : Cl} (h : (lawOf L)[i]? = some c) : ∃ cl, L[i]? = some cl ∧ c = (cl.1, cl.2.1, cl.2.2.1) := by
  unfold lawOf at h
  rw [List.getElem?_map] at h
  cases hL : L[i]? with
  | none => rw [hL] at h; cases h
  | some cl => rw [hL] at h; exact ⟨cl, rfl, by cases h; rfl⟩
theorem lawOf_ok {od : Bool} {L : List Clx} (hl : L.length ≤ 12) (H : ∀ cl ∈ L, ClG od cl) : LawOK (lawOf L) := by
  refine ⟨by rw [lawOf_len]; exact hl, fun c hc => ?_⟩
  obtain ⟨cl, h1, h2⟩ := List.mem_map.mp hc
  subst h2
  have g := H cl h1
  exact ⟨g.1, fun ev h => (g.2.1 ev h).2, fun ev h => (g.2.2.1 ev h).1, g.2.2.2.2.1.symm⟩
/-- the law, in the class's new Script -/
theorem lawC_new {nb : Nat} {sh sh2 : Shp} {h h2 : Sto} {L : List Clx} (hl : L.length ≤ 12) (hb : nb ≤ 400) (h120 : 120 ≤ sh.length) (hln : sh2.length = sh.length + 9) (s0 : shAt sh2 (sh.length : Int) = some (0, 9)) (s1 : ∀ j, j < 8 → shAt sh2 ((sh.length + 1 + j : Nat) : Int) = some (1, if j < 6 then L.length else nb)) (C : CpS L.length nb sh h 8 h2) (kb : CKb h) (e1 : h 34 1 = (nb : Int)) (H : ∀ i cl, L[i]? = some cl → ClC false 8 h nb i cl) : LawC sh2 h2 sh.length (lawOf L) := by
  obtain ⟨c1, c2, c3, c4⟩ := C
  have r7 : ∀ i, i < nb → h2 (sh.length + 1 + 6) i = h 41 i := fun i hi => c4 6 (by omega) i (by simpa using hi)
  have r8 : ∀ i, i < nb → h2 (sh.length + 1 + 7) i = h 42 i := fun i hi => c4 7 (by omega) i (by simpa using hi)
  have tl : ∀ (v : Int) (o : Option Ev), SgO 8 h nb v o → TellC (h2 (sh.length + 1 + 6)) (h2 (sh.length + 1 + 7)) nb 8 v o := fun v o hs => by
    cases o with
    | none => exact hs
    | some ev =>
      obtain ⟨a, e, l, g1, g2, g3, g4, g5⟩ := hs
      subst g1
      have g2' := g2.cg (op2 := h2 (sh.length + 1 + 6)) (ar2 := h2 (sh.length + 1 + 7)) (fun i _ hi => ⟨r7 i (by omega), r8 i (by omega)⟩)
      exact sgC_tell g2'.sg (by rw [r7 e g4]; exact g3) g4 hb (by omega)
  refine ⟨nb, L.length, nb, sh.length + 1 + 0, sh.length + 1 + 2, sh.length + 1 + 4, sh.length + 1 + 6, sh.length + 1 + 7, ⟨h120, by omega⟩, ⟨by omega, by omega, by omega, by omega, by omega⟩, s0, by rw [lawOf_len]; exact c2.1, by rw [lawOf_len]; exact Nat.le_refl _, c2.2, hb, Nat.le_refl _, ⟨c3 0 (by omega), s1 0 (by omega)⟩, ⟨c3 2 (by omega), s1 2 (by omega)⟩, ⟨c3 4 (by omega), s1 4 (by omega)⟩, ⟨c3 6 (by omega), s1 6 (by omega)⟩, ⟨c3 7 (by omega), s1 7 (by omega)⟩, fun i hi => ?_, fun i hi => ?_, fun i c hc => ?_⟩
  · rw [r7 i hi]; exact (kb i (by rw [e1]; omega)).1
  · rw [r8 i hi]; exact (kb i (by rw [e1]; omega)).2
  · obtain ⟨cl, hL, hcl⟩ := lawOf_get hc
    subst hcl
    have il : i < L.length := (List.getElem?_eq_some_iff.mp hL).1
    obtain ⟨k1, k2, k3, -⟩ := H i cl hL
    refine ⟨?_, ?_, ?_⟩
    · rw [c4 0 (by omega) i (by simpa using il)]; exact k1
    · rw [c4 4 (by omega) i (by simpa using il)]; exact tl _ _ k2
    · rw [c4 2 (by omega) i (by simpa using il)]; exact tl _ _ k3
