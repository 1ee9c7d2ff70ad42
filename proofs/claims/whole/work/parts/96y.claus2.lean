/-! ===== clauses: pure equations; the class's clause ===== -/
section CLAUS2
variable {T : Nat → Int} {n : Nat} {od : Bool} {p p1 p2 p3 p4 p5 lf lf1 lf3 lf5 ws1 ws3 ws5 k tm q : Nat} {s1 s2 ts : Option Ev}
theorem clR_0 (e : hdR T n od p = none) : clR T n od p lf = .inl (stT T n p) := by
  unfold clR; rw [e]
theorem clR_1 (e : hdR T n od p = some k) (e1 : smR T n od (decide (k ≠ 3)) (enT T n p) lf 0 = .inl q) : clR T n od p lf = .inl q := by
  unfold clR; rw [e]; simp only []; rw [e1]
theorem clR_2 (e : hdR T n od p = some k) (e1 : smR T n od (decide (k ≠ 3)) (enT T n p) lf 0 = .inr (p1, lf1, ws1, s1)) (e2 : onR T n (od && decide (k = 0)) p1 = .inl q) : clR T n od p lf = .inl q := by
  unfold clR; rw [e]; simp only []; rw [e1]; simp only []; rw [e2]
theorem clR_3 (e : hdR T n od p = some k) (e1 : smR T n od (decide (k ≠ 3)) (enT T n p) lf 0 = .inr (p1, lf1, ws1, s1)) (e2 : onR T n (od && decide (k = 0)) p1 = .inr p2) (e3 : smR T n od (od && decide (k = 0)) p2 lf1 ws1 = .inl q) : clR T n od p lf = .inl q := by
  unfold clR; rw [e]; simp only []; rw [e1]; simp only []; rw [e2]; simp only []; rw [e3]
theorem clR_4 (e : hdR T n od p = some k) (e1 : smR T n od (decide (k ≠ 3)) (enT T n p) lf 0 = .inr (p1, lf1, ws1, s1)) (e2 : onR T n (od && decide (k = 0)) p1 = .inr p2) (e3 : smR T n od (od && decide (k = 0)) p2 lf1 ws1 = .inr (p3, lf3, ws3, s2)) (e4 : tmR T n od p3 = .inl q) : clR T n od p lf = .inl q := by
  unfold clR; rw [e]; simp only []; rw [e1]; simp only []; rw [e2]; simp only []; rw [e3]; simp only []; rw [e4]
theorem clR_5 (e : hdR T n od p = some k) (e1 : smR T n od (decide (k ≠ 3)) (enT T n p) lf 0 = .inr (p1, lf1, ws1, s1)) (e2 : onR T n (od && decide (k = 0)) p1 = .inr p2) (e3 : smR T n od (od && decide (k = 0)) p2 lf1 ws1 = .inr (p3, lf3, ws3, s2)) (e4 : tmR T n od p3 = .inr (p4, tm)) (e5 : ifR T n od p4 lf3 ws3 = .inl q) : clR T n od p lf = .inl q := by
  unfold clR; rw [e]; simp only []; rw [e1]; simp only []; rw [e2]; simp only []; rw [e3]; simp only []; rw [e4]; simp only []; rw [e5]
theorem clR_6 (e : hdR T n od p = some k) (e1 : smR T n od (decide (k ≠ 3)) (enT T n p) lf 0 = .inr (p1, lf1, ws1, s1)) (e2 : onR T n (od && decide (k = 0)) p1 = .inr p2) (e3 : smR T n od (od && decide (k = 0)) p2 lf1 ws1 = .inr (p3, lf3, ws3, s2)) (e4 : tmR T n od p3 = .inr (p4, tm)) (e5 : ifR T n od p4 lf3 ws3 = .inr (p5, lf5, ws5, ts)) : clR T n od p lf = .inr (p5, lf5, (k, ts, s1, s2, tm, ws5)) := by
  unfold clR; rw [e]; simp only []; rw [e1]; simp only []; rw [e2]; simp only []; rw [e3]; simp only []; rw [e4]; simp only []; rw [e5]
theorem smR_f : smR T n od false p lf ws1 = .inr (p, lf, ws1, none) := by unfold smR; rw [if_neg (by decide)]
theorem smR_t0 (e : sumK T n od 8 p lf ws1 = .inl q) : smR T n od true p lf ws1 = .inl q := by unfold smR; rw [if_pos rfl, e]
theorem smR_t1 {ev : Ev} (e : sumK T n od 8 p lf ws1 = .inr (p1, lf1, ws3, ev)) : smR T n od true p lf ws1 = .inr (p1, lf1, ws3, some ev) := by unfold smR; rw [if_pos rfl, e]
theorem onR_f : onR T n false p = .inr p := by unfold onR; rw [if_neg (by decide)]
theorem tmR_f : tmR T n false p = .inr (p, 1) := by unfold tmR; rw [if_neg (by simp)]
theorem hdR_b (hp : p ≤ n) (e : hdR T n od p = some k) : k < 4 ∧ p + 1 ≤ enT T n p := by
  unfold hdR at e
  cases od with
  | false =>
    rw [if_neg (by decide)] at e
    unfold hdLaw at e
    split at e
    · next s => cases e; exact ⟨by omega, (see_ne hp (by show 1 ≤ 8; omega) s).1⟩
    split at e
    · next s => cases e; exact ⟨by omega, (see_ne hp (by show 1 ≤ 5; omega) s).1⟩
    split at e
    · next s => cases e; exact ⟨by omega, (see_ne hp (by show 1 ≤ 6; omega) s).1⟩
    split at e
    · next s => cases e; exact ⟨by omega, (see_ne hp (by show 1 ≤ 4; omega) s).1⟩
    cases e
  | true =>
    rw [if_pos rfl] at e
    unfold hdOrd at e
    split at e
    · next s => cases e; exact ⟨by omega, (see_ne hp (by show 1 ≤ 5; omega) s).1⟩
    split at e
    · next s => cases e; exact ⟨by omega, (see_ne hp (by show 1 ≤ 4; omega) s).1⟩
    split at e
    · next s => cases e; exact ⟨by omega, (see_ne hp (by show 1 ≤ 6; omega) s).1⟩
    split at e
    · next s => cases e; exact ⟨by omega, (see_ne hp (by show 1 ≤ 4; omega) s).1⟩
    cases e
end CLAUS2
abbrev TxP : List Nat := [35, 36, 37, 38, 39, 40, 41, 42]
/-- what a clause may change -/
def CT (ci c : Nat) (h h2 : Sto) : Prop := Fr TxP PsS h h2 ∧ (∀ i, i < c → h2 41 i = h 41 i ∧ h2 42 i = h 42 i) ∧ (∀ r i, 35 ≤ r → r ≤ 40 → i ≠ ci → h2 r i = h r i) ∧ h2 43 10 = h 43 10 ∧ (CKb h → CKb h2)
theorem CT.refl {ci c : Nat} (h : Sto) : CT ci c h h := ⟨Fr.refl h, fun _ _ => ⟨rfl, rfl⟩, fun _ _ _ _ _ => rfl, rfl, id⟩
theorem CT.trans {ci c c1 : Nat} {h h1 h2 : Sto} (A : CT ci c h h1) (B : CT ci c1 h1 h2) (hc : c ≤ c1) : CT ci c h h2 :=
  ⟨A.1.trans B.1, fun i hi => ⟨(B.2.1 i (by omega)).1.trans (A.2.1 i hi).1, (B.2.1 i (by omega)).2.trans (A.2.1 i hi).2⟩, fun r i h1 h2 hi => (B.2.2.1 r i h1 h2 hi).trans (A.2.2.1 r i h1 h2 hi), B.2.2.2.1.trans A.2.2.2.1, fun k => B.2.2.2.2 (A.2.2.2.2 k)⟩
theorem CE.ct {ci c : Nat} {h h2 : Sto} (E : CE ci c h h2) : CT ci c h h2 := ⟨E.1.mono rfl, E.2.1, fun r i h1 h3 hi => by
  by_cases r4 : r = 40
  · subst r4; exact E.2.2.1 i hi
  · have hr : r = 35 ∨ r = 36 ∨ r = 37 ∨ r = 38 ∨ r = 39 := by omega
    rcases hr with e | e | e | e | e <;> subst e
    · rw [E.1.row 35 rfl]
    · rw [E.1.row 36 rfl]
    · rw [E.1.row 37 rfl]
    · rw [E.1.row 38 rfl]
    · rw [E.1.row 39 rfl], E.2.2.2⟩
theorem CT.st {ci c r : Nat} {h : Sto} {v : Int} (hr : r = 35 ∨ r = 36 ∨ r = 37 ∨ r = 38 ∨ r = 39) : CT ci c h (setH h r ci v) := by
  refine ⟨?_, fun i _ => by rw [setH_o (by omega), setH_o (by omega)]; exact ⟨rfl, rfl⟩, fun r2 i _ _ hi => ?_, by rw [setH_o (by omega)], fun k => k.cg (by rw [setH_o (by omega)]) (setH_o (by omega)) (setH_o (by omega))⟩
  · rcases hr with e | e | e | e | e <;> subst e <;> exact (Fr.refl h).setP rfl
  · by_cases e : r2 = r
    · subst e; rw [setH_k hi]
    · rw [setH_o e]
