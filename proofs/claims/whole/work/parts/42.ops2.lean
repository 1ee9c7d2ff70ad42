/-! ===== calls that change the row ===== -/
def up (f : Nat → Int) (k : Nat) (v : Int) : Nat → Int := fun j => if j = k then v else f j
theorem up_s {f : Nat → Int} {k : Nat} {v : Int} : up f k v k = v := if_pos rfl
theorem up_n {f : Nat → Int} {k j : Nat} {v : Int} (h : j ≠ k) : up f k v j = f j := if_neg h
theorem setH_r {h : Sto} {p k : Nat} {v : Int} : setH h p k v p = up (h p) k v := by
  funext j; unfold setH up; rw [if_pos rfl]
theorem cTell0 {h : Sto} : cTell h 0 = setH h 0 16 0 := rfl
theorem mTell0 {h : Sto} : mTell h 0 = setH h 85 1 0 := rfl
theorem mTellG {h : Sto} {x : Int} (hx : 0 ≤ x) : mTell h x = setH h 85 1 0 := if_neg (by omega)
theorem cTellG {h : Sto} {x : Int} (hx : 0 ≤ x) : cTell h x = setH h 0 16 0 := if_neg (by omega)
abbrev finR : List Nat := [8, 12, 13, 14, 15, 16, 17, 18, 19, 21, 22, 23, 24, 25, 26, 27, 28, 29, 31, 32, 88, 89, 78, 119, 94, 33, 84, 86]
abbrev finC : List (Nat × Nat) := [(76, 4), (76, 5), (85, 62), (85, 63), (0, 14), (85, 13), (0, 15), (85, 11), (43, 10), (85, 18), (52, 10), (85, 58), (85, 20)]
theorem INV.fin {P : List Nat} {S : List (Nat × Nat)} {sh : Shp} {h h2 : Sto} (I : INV sh h) (F : Fr P S h h2) (hf : fixF P S = true) (hc : cgF finR finC P S = true) (z : h2 0 16 = h2 85 1) (hL : ∃ n m L, Live sh h2 n m L ∧ Hist h2 n m) : INV sh h2 := by
  have E := F.cg hc
  obtain ⟨a, -, c0, c1, d, e, ⟨s1, s2, s3, s4, s5⟩, o⟩ := I
  refine ⟨F.fix a hf, hL, c0.cg0 (E.sub (by decide +kernel)), c1.cg1 (E.sub (by decide +kernel)), d.cg (E.sub (by decide +kernel)), e.cg (E.sub (by decide +kernel)), ⟨?_, z, ?_, ?_, ?_⟩, by rw [E.c 85 20 rfl]; exact o⟩
  · rw [E.c 0 15 rfl, E.c 85 11 rfl]; exact s1
  · rw [E.r 84 rfl, E.r 86 rfl]; exact s3
  · rw [E.c 43 10 rfl, E.c 85 18 rfl]; exact s4
  · rw [E.c 52 10 rfl, E.c 85 58 rfl]; exact s5
theorem SR.ofG {sh : Shp} {h : Sto} {b n m : Nat} {G G2 : Nat → Int} {L : List Law} (H : SR sh h b G n m L) (e : ∀ i, (i = 2 ∨ i = 4 ∨ i = 6 ∨ i = 7 ∨ 49 ≤ i) → G2 i = G i) : SR sh h b G2 n m L := by
  obtain ⟨s1, s2, s3, s4, s5⟩ := H
  refine ⟨?_, fun s hs => ?_, fun l hl => ?_, fun i hi => ?_, s5⟩
  · rw [e 2 (by omega), e 4 (by omega), e 6 (by omega), e 7 (by omega)]; exact s1
  · rw [e _ (by omega), e _ (by omega), e _ (by omega)]; exact s2 s hs
  · rw [e _ (by omega)]; exact s3 l hl
  · rw [e 2 (by omega)] at hi
    rw [e _ (by omega), e _ (by omega)]; exact s4 i hi
theorem SW.laws {G G2 : Nat → Int} {n m : Nat} {L : List Law} (W : SW G n m L) (e : ∀ i, 94 ≤ i → G2 i = G i) : ∀ k Lw, L[k]? = some Lw → LawM G2 (94 + 900 * k) Lw ∧ LawOK Lw := fun k Lw hk => ⟨(W.2.2.2.2 k Lw hk).1.of (by omega) e, (W.2.2.2.2 k Lw hk).2⟩
theorem op_forget : OpOK 131 257 0 [] := by
  intro sc d sh sl h I
  have X1 : Fix sh (setH h 1 6 0) := I.fx.s (by decide +kernel)
  rw [B_131_0 I.fx, B_257_0 X1, setH_o (by decide)]
  obtain ⟨n, m, L, ⟨S, R, W, B⟩, Hs⟩ := I.live
  refine ⟨_, rfl, by rw [S.1.2.2.1], by omega, by omega, ?_⟩
  have F : Fr [] [(1, 6), (85, 0), (87, 2)] h (setH (setH (setH h 1 6 0) 85 0 0) 87 2 0) := (((Fr.refl h).set rfl).set rfl).set rfl
  have e87 : setH (setH (setH h 1 6 0) 85 0 0) 87 2 0 87 = up (h 87) 2 0 := by simp (disch := omega) only [setH_o, setH_r]
  have e1 : setH (setH (setH h 1 6 0) 85 0 0) 87 2 0 1 = up (h 1) 6 0 := by simp (disch := omega) only [setH_o, setH_r]
  refine I.fin F (by decide +kernel) (by decide +kernel) (by rw [F.at 0 16 rfl, F.at 85 1 rfl]; exact I.scal.2.1) ⟨n, m, L, ⟨?_, ?_, ?_, ?_⟩, Hs.cg (F.cg (by decide +kernel))⟩
  · have S' : SR sh (setH (setH (setH h 1 6 0) 85 0 0) 87 2 0) 1 (h 87) n m L ∨ True := Or.inr trivial
    obtain ⟨s1, s2, s3, s4, s5⟩ := S
    rw [e87]
    refine ⟨?_, fun s hs => ?_, fun l hl => ?_, fun i hi => ?_, fun k Lw hk => ?_⟩
    · rw [e1]; simp (disch := omega) only [up_s, up_n]; simp only [s1, and_self]
    · rw [F.row (1 + 1) rfl, F.row (1 + 2) rfl, F.row (1 + 3) rfl, up_n (by omega), up_n (by omega), up_n (by omega)]; exact s2 s hs
    · rw [F.row (1 + 4) rfl, up_n (by omega)]; exact s3 l hl
    · rw [up_s] at hi; omega
    · obtain ⟨p, h1, h2⟩ := s5 k Lw hk
      exact ⟨p, by rw [F.row (1 + 7) rfl]; exact h1, h2.of (F.cg (R := []) (C := []) (by decide +kernel)).2.2⟩
  · rw [e87, F.row 10 rfl]
    exact R.of B W.1.2.1 W.1.2.2.2.1 (fun _ _ => rfl) (fun i h1 h2 => up_n (by omega))
  · rw [e87]
    obtain ⟨w1, w2, w3, w4, w5⟩ := W
    refine ⟨?_, fun s hs => ?_, fun l hl => ?_, fun i hi => ?_, SW.laws ⟨w1, w2, w3, w4, w5⟩ (fun i hi => up_n (by omega))⟩
    · simp (disch := omega) only [up_s, up_n]; omega
    · simp (disch := omega) only [up_n]; exact w2 s hs
    · simp (disch := omega) only [up_n]; exact w3 l hl
    · rw [up_s] at hi; omega
  · rw [e87]
    exact B.of W.1.2.1 W.1.2.2.2.1 (fun i h1 h2 => up_n (by omega))
