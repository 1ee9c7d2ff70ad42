/-! ===== calls: what each of them must keep ===== -/
def OpOK (y1 y2 t : Nat) (A : List V) : Prop := ∀ (sc : Nat × (Nat → Int)) (d : Nat) (sh : Shp) (sl : Nat) (h : Sto), INV sh h → WM sc (d + 100) y1 ((2, 0) :: A) sh sl h (fun r sh1 sl1 h1 => WM sc (d + 100) y2 ((2, 85) :: A) sh1 sl1 h1 (fun r2 sh2 sl2 h2 => ∃ v, r = (t, v) ∧ r2 = (t, v) ∧ sh2.length ≤ sh.length + 9 ∧ sl2 ≤ sl + 900 ∧ INV sh2 h2))
abbrev imgR : List Nat := [8, 12, 13, 14, 15, 16, 17, 18, 19, 21, 22, 23, 24, 25, 26, 27, 28, 29, 31, 32, 88, 89, 78, 119]
abbrev imgC : List (Nat × Nat) := [(76, 4), (76, 5), (85, 62), (85, 63)]
abbrev tapR : List Nat := [94, 33]
abbrev tapC : List (Nat × Nat) := [(0, 14), (85, 13)]
theorem Cg.sub {R R' : List Nat} {C C' : List (Nat × Nat)} {h h' : Sto} (E : Cg R C h h') (hs : (R'.all (fun q => R.contains q) && C'.all (fun x => R.contains x.1 || C.contains x)) = true) : Cg R' C' h h' := by
  rw [Bool.and_eq_true, List.all_eq_true, List.all_eq_true] at hs
  refine ⟨fun q hq => E.r q (hs.1 q hq), fun x hx => ?_, E.2.2⟩
  rcases Bool.or_eq_true_iff.mp (hs.2 x hx) with h1 | h1
  · rw [E.r _ h1]
  · exact E.c _ _ h1
/-- images, reigns stay; the rest is shown -/
theorem INV.upd {P : List Nat} {S : List (Nat × Nat)} {sh : Shp} {h h2 : Sto} (I : INV sh h) (F : Fr P S h h2) (hf : fixF P S = true) (hc : cgF imgR imgC P S = true) (hL : ∃ n m L, Live sh h2 n m L ∧ Hist h2 n m) (hT : Tape h2) (hS : Scal h2) (ho : h2 85 20 = 0) : INV sh h2 := by
  obtain ⟨a, -, c0, c1, d, -, -, -⟩ := I
  have E := F.cg hc
  exact ⟨F.fix a hf, hL, c0.cg0 (E.sub (by decide +kernel)), c1.cg1 (E.sub (by decide +kernel)), d.cg (E.sub (by decide +kernel)), hT, hS, ho⟩
theorem INV.live {sh : Shp} {h : Sto} (I : INV sh h) : ∃ n m L, Live sh h n m L ∧ Hist h n m := I.2.1
theorem INV.fx {sh : Shp} {h : Sto} (I : INV sh h) : Fix sh h := I.1
theorem INV.tape {sh : Shp} {h : Sto} (I : INV sh h) : Tape h := I.2.2.2.2.2.1
theorem INV.scal {sh : Shp} {h : Sto} (I : INV sh h) : Scal h := I.2.2.2.2.2.2.1
theorem INV.od {sh : Shp} {h : Sto} (I : INV sh h) : h 85 20 = 0 := I.2.2.2.2.2.2.2
/-- only what the last answer was and how often it was refused -/
theorem INV.stat {sh : Shp} {h h2 : Sto} (I : INV sh h) (F : Fr [84, 86] [(0, 16), (85, 1), (85, 0)] h h2) (e1 : h2 0 16 = h2 85 1) (e2 : ∀ i, i < 7 → h2 84 i = h2 86 i) : INV sh h2 := by
  obtain ⟨n, m, L, a, b⟩ := I.live
  refine I.upd F (by decide +kernel) (by decide +kernel) ⟨n, m, L, a.cg (F.cg (by decide +kernel)), b.cg (F.cg (by decide +kernel))⟩ (I.tape.cg (F.cg (by decide +kernel))) ?_ (by rw [F.at 85 20 rfl]; exact I.od)
  obtain ⟨s1, s2, s3, s4, s5⟩ := I.scal
  refine ⟨?_, e1, e2, ?_, ?_⟩
  · rw [F.at 0 15 rfl, F.at 85 11 rfl]; exact s1
  · rw [F.at 43 10 rfl, F.at 85 18 rfl]; exact s4
  · rw [F.at 52 10 rfl, F.at 85 58 rfl]; exact s5
/-- what a call's answer leaves on the class's side, on the reference's -/
def cTell (h : Sto) (x : Int) : Sto := if x < 0 then setH (setH h 0 16 x) 84 (-x).toNat (h 84 (-x).toNat + 1) else setH h 0 16 0
def mTell (h : Sto) (x : Int) : Sto := if x < 0 then setH (setH h 85 1 x) 86 (-x).toNat (h 86 (-x).toNat + 1) else setH h 85 1 0
theorem cTell_fr {h : Sto} {x : Int} : Fr [84] [(0, 16)] h (cTell h x) := by
  unfold cTell; split
  · exact ((Fr.refl h).set rfl).setP rfl
  · exact (Fr.refl h).set rfl
theorem mTell_fr {h : Sto} {x : Int} : Fr [86] [(85, 1)] h (mTell h x) := by
  unfold mTell; split
  · exact ((Fr.refl h).set rfl).setP rfl
  · exact (Fr.refl h).set rfl
/-- Scal, from stores before the answers -/
theorem Scal.tell {h h1 h2 : Sto} {x : Int} (hx : -6 ≤ x) (S : Scal h) (e1 : h1 84 = h 84) (e2 : h2 86 = h 86) (a1 : h2 0 16 = cTell h1 x 0 16) (a2 : h2 84 = cTell h1 x 84) (e3 : h2 0 15 = h2 85 11) (e4 : h2 43 10 = h2 85 18) (e5 : h2 52 10 = h2 85 58) : Scal (mTell h2 x) := by
  obtain ⟨s1, s2, s3, s4, s5⟩ := S
  have F := mTell_fr (h := h2) (x := x)
  refine ⟨by rw [F.at 0 15 rfl, F.at 85 11 rfl]; exact e3, ?_, fun i hi => ?_, by rw [F.at 43 10 rfl, F.at 85 18 rfl]; exact e4, by rw [F.at 52 10 rfl, F.at 85 58 rfl]; exact e5⟩
  · rw [F.at 0 16 rfl, a1]
    unfold cTell mTell
    by_cases h : x < 0
    · rw [if_pos h, if_pos h, setH_o (by decide), setH_self, setH_o (by decide), setH_self]
    · rw [if_neg h, if_neg h, setH_self, setH_self]
  · rw [F.row 84 rfl, a2]
    unfold cTell mTell
    by_cases hn : x < 0
    · rw [if_pos hn, if_pos hn]
      by_cases hi2 : i = (-x).toNat
      · rw [hi2, setH_self, setH_self, e1, e2, s3 _ (by omega)]
      · rw [setH_k hi2, setH_k hi2, setH_o (by decide), setH_o (by decide), e1, e2, s3 i hi]
    · rw [if_neg hn, if_neg hn, setH_o (by decide), setH_o (by decide), e1, e2]; exact s3 i hi
section OPS1
variable {sc : Nat × (Nat → Int)} {d : Nat} {sh : Shp} {sl : Nat} {h : Sto} {Q : Pst}
theorem sp_refT {x : Int} (X : Fix sh h) (hx : -6 ≤ x ∧ x ≤ -1) : WM sc d 14 [(2, 0), (0, x)] sh sl h Q ↔ Q (0, x) sh sl (cTell h x) := by
  rw [sp_refused X hx]; unfold cTell; rw [if_pos (by omega)]
theorem sp_graT {x : Int} (X : Fix sh h) (hx : 0 ≤ x) : WM sc d 18 [(2, 0), (0, x)] sh sl h Q ↔ Q (0, x) sh sl (cTell h x) := by
  rw [sp_granted X]; unfold cTell; rw [if_neg (by omega)]
theorem sp_ansT {x : Int} (X : Fix sh h) (hx : -6 ≤ x ∧ x ≤ 2147483647) : WM sc (d + 1) 98 [(2, 0), (0, x)] sh sl h Q ↔ Q (0, x) sh sl (cTell h x) := by
  rw [B_98_0 X, w32_id (a := x) (by omega) (by omega)]
  have X2 : Fix sh (cTell h x) := cTell_fr.fix X (by decide +kernel)
  by_cases h0 : 0 ≤ x
  · rw [if_pos h0, sp_graT X h0]
    simp only [pushR0, B_98_17 X2]
  · rw [if_neg h0, sp_refT X (by omega)]
    simp only [pushR0, B_98_9 X2, B_98_17 X2]
theorem sp_telT {x : Int} (X : Fix sh h) (hx : -6 ≤ x ∧ x ≤ 2147483647) : WM sc d 159 [(2, 85), (0, x)] sh sl h Q ↔ Q (0, x) sh sl (mTell h x) := by
  rw [sp_mtell X hx]; rfl
theorem sp_settled {x : Int} (X : Fix sh h) (hx : -6 ≤ x ∧ x ≤ 2147483647) : WM sc (d + 1) 164 [(2, 85), (0, x)] sh sl h Q ↔ Q (0, x) sh sl (mTell (if 0 ≤ x then setH h 85 8 0 else h) x) := by
  rw [B_164_0 X, w32_id (a := x) (by omega) (by omega)]
  by_cases h0 : 0 ≤ x
  · have X1 : Fix sh (setH h 85 8 0) := X.s (by decide +kernel)
    rw [if_pos h0, if_pos h0, sp_telT X1 hx]
    simp only [pushR0, B_164_21 (mTell_fr.fix X1 (by decide +kernel))]
  · have e : setH h 85 8 (h 85 8) = h := by
      funext q k
      by_cases hq : q = 85 ∧ k = 8
      · obtain ⟨rfl, rfl⟩ := hq; exact setH_self _ _ _ _
      · exact setH_other (by omega)
    rw [if_neg h0, if_neg h0, e, sp_telT X hx]
    simp only [pushR0, B_164_21 (mTell_fr.fix X (by decide +kernel))]
end OPS1
/-- a refusal, alike on both sides -/
theorem INV.ref {sh : Shp} {h : Sto} {x : Int} (I : INV sh h) (hx : -6 ≤ x) : INV sh (mTell (setH (cTell h x) 85 0 0) x) := by
  have F : Fr [84, 86] [(0, 16), (85, 1), (85, 0)] h (mTell (setH (cTell h x) 85 0 0) x) := (((cTell_fr (h := h) (x := x)).mono rfl).set (p := 85) (k := 0) (v := 0) rfl).trans (mTell_fr.mono rfl)
  have S : Scal (mTell (setH (cTell h x) 85 0 0) x) := by
    obtain ⟨s1, s2, s3, s4, s5⟩ := I.scal
    have Fc := cTell_fr (h := h) (x := x)
    refine Scal.tell (h := h) (h1 := h) hx I.scal rfl (by rw [setH_o (by decide), Fc.row 86 rfl]) (by rw [setH_o (by decide)]) (by rw [setH_o (by decide)]) ?_ ?_ ?_
    · rw [setH_o (by decide), setH_k (by decide), Fc.at 0 15 rfl, Fc.at 85 11 rfl]; exact s1
    · rw [setH_o (by decide), setH_k (by decide), Fc.at 43 10 rfl, Fc.at 85 18 rfl]; exact s4
    · rw [setH_o (by decide), setH_k (by decide), Fc.at 52 10 rfl, Fc.at 85 58 rfl]; exact s5
  exact I.stat F S.2.1 S.2.2.1
theorem INV.thrown {sh : Shp} {h : Sto} (I : INV sh h) : INV sh (setH h 85 0 0) := I.fr (P := []) (S := [(85, 0)]) ((Fr.refl h).set rfl) (by decide +kernel) (by decide +kernel)
theorem op_status : OpOK 156 281 0 [] := by
  intro sc d sh sl h I
  rw [B_156_0 I.fx, B_281_0 I.fx]
  exact ⟨_, rfl, by rw [← I.scal.2.1], by omega, by omega, I.thrown⟩
theorem op_misprints : OpOK 53 189 0 [] := by
  intro sc d sh sl h I
  rw [B_53_0 I.fx, B_189_0 I.fx]
  exact ⟨_, rfl, by rw [← I.scal.1], by omega, by omega, I.thrown⟩
theorem op_fault : OpOK 99 193 0 [] := by
  intro sc d sh sl h I
  rw [B_99_0 I.fx, B_193_0 I.fx]
  exact ⟨_, rfl, by rw [← I.scal.2.2.2.1], by omega, by omega, I.thrown⟩
theorem op_stopped : OpOK 100 276 0 [] := by
  intro sc d sh sl h I
  rw [B_100_0 I.fx, B_276_0 I.fx]
  exact ⟨_, rfl, by rw [← I.scal.2.2.2.2], by omega, by omega, I.thrown⟩
theorem op_end {x : Int} (hx : I32 x) : OpOK 50 192 0 [(0, x)] := by
  intro sc d sh sl h I
  obtain ⟨t, t1, t2, t3, t4⟩ := I.tape
  have X2 : Fix sh (setH h 0 14 x) := I.fx.s (by decide +kernel)
  rw [B_50_0 I.fx, hx.w, t1, w32_id (a := (t : Int)) (by omega) (by omega)]
  by_cases h0 : x < 0
  · rw [if_pos h0, B_192_0 I.fx, hx.w, if_pos h0]
    exact ⟨_, rfl, rfl, by omega, by omega, I.thrown⟩
  · rw [if_neg h0]
    by_cases h1 : x ≤ t
    · rw [if_pos h1, B_192_0 X2, hx.w, if_neg h0, setH_o (by decide), t2, w32_id (a := (t : Int)) (by omega) (by omega), if_pos h1]
      refine ⟨_, rfl, rfl, by omega, by omega, ?_⟩
      have F : Fr [] [(0, 14), (85, 0), (85, 13)] h (setH (setH (setH h 0 14 x) 85 0 0) 85 13 x) := (((Fr.refl h).set rfl).set rfl).set rfl
      obtain ⟨n, m, L, a, b⟩ := I.live
      refine I.upd F (by decide +kernel) (by decide +kernel) ⟨n, m, L, a.cg (F.cg (by decide +kernel)), b.cg (F.cg (by decide +kernel))⟩ ?_ (I.scal.cg (F.cg (by decide +kernel))) (by rw [F.at 85 20 rfl]; exact I.od)
      refine ⟨x.toNat, ?_, ?_, by omega, ?_⟩
      · rw [setH_o (by decide), setH_o (by decide), setH_self]; omega
      · rw [setH_self]; omega
      · rw [F.row 94 rfl, F.row 33 rfl]; exact fun i hi => t4 i (by omega)
    · rw [if_neg h1, B_192_0 I.fx, hx.w, if_neg h0, t2, w32_id (a := (t : Int)) (by omega) (by omega), if_neg h1]
      exact ⟨_, rfl, rfl, by omega, by omega, I.thrown⟩
