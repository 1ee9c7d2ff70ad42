/-! ===== what a LAW tells ===== -/
def vS (c : Cl) (f : Nat → Int) : Option Int := match c.2.2 with
  | some s => s f
  | none => some 1
/-- what a CLAUSE tells, if it HOLDS -/
def holdsV (c : Cl) (f : Nat → Int) : Option Int := match c.2.1 with
  | some t => if t f = some 1 then vS c f else none
  | none => vS c f
def ofKind (k : Nat) (f : Nat → Int) (c : Cl) : Option Int := if c.1 = k then holdsV c f else none
/-- as the last of the kind that HOLDS tells -/
def tdF (k : Nat) (f : Nat → Int) : List Cl → Option Int
  | [] => none
  | c :: r => (match tdF k f r with | some v => some v | none => ofKind k f c)
theorem tdF_snoc (k : Nat) (f : Nat → Int) (A : List Cl) (x : Cl) : tdF k f (A ++ [x]) = (match ofKind k f x with | some v => some v | none => tdF k f A) := by
  induction A with
  | nil =>
    simp only [List.nil_append, tdF]
    cases ofKind k f x <;> rfl
  | cons c r ih =>
    simp only [List.cons_append, tdF, ih]
    cases ofKind k f x <;> rfl
/-- the facts that a law is asked by -/
def fct (G : Nat → Int) (l : Nat) (r : Option Nat) : Nat → Int := fun k => match k with
  | 0 => G (69 + l)
  | 1 => (match r with | some r => G (69 + r) | none => -1)
  | 2 => G (59 + l)
  | 3 => (match r with | some r => G (59 + r) | none => -1)
  | 4 => G (49 + l)
  | 5 => G (18 + l)
  | 6 => G 5
  | 7 => G 7
  | _ => 0
def tellsA (G : Nat → Int) (L : List Law) (k l : Nat) (r : Option Nat) : Option Int := if G 4 < 0 then none else match L[(G 4).toNat]? with
  | some Lw => tdF k (fct G l r) Lw
  | none => none
def toldA (o : Option Int) (without most : Int) : Int := match o with
  | some v => max 0 (min v most)
  | none => without
def quarrelA (G : Nat → Int) (L : List Law) (l r : Nat) : Int := toldA (tellsA G L 0 l (some r)) (if G (59 + l) = G (59 + r) then 0 else G (69 + l) + G (69 + r)) 20
def barredA (G : Nat → Int) (L : List Law) (l r : Nat) : Bool := (tellsA G L 3 l (some r)).isSome
def driesA (G : Nat → Int) (L : List Law) (s : Nat) : Int := toldA (tellsA G L 1 s none) 1 9
def countsA (G : Nat → Int) (L : List Law) (s : Nat) : Int := toldA (tellsA G L 2 s none) (G (49 + s)) 60
theorem fct_ok {G : Nat → Int} {n m : Nat} {L : List Law} {l : Nat} {r : Option Nat} (W : SW G n m L) (B : BW G n m) (hl : l < n) (hr : ∀ x, r = some x → x < n) : FOK (fct G l r) := by
  have w1 := W.2.1 l hl
  have w2 := B.2.1 l hl
  have w3 := W.1
  have w4 := B.1
  intro i
  match i with
  | 0 => show -2147483648 ≤ G (69 + l) ∧ G (69 + l) < 2147483648; omega
  | 1 =>
    cases r with
    | none => show (-2147483648 : Int) ≤ -1 ∧ (-1 : Int) < 2147483648; omega
    | some r => have := W.2.1 r (hr r rfl); show -2147483648 ≤ G (69 + r) ∧ G (69 + r) < 2147483648; omega
  | 2 => show -2147483648 ≤ G (59 + l) ∧ G (59 + l) < 2147483648; omega
  | 3 =>
    cases r with
    | none => show (-2147483648 : Int) ≤ -1 ∧ (-1 : Int) < 2147483648; omega
    | some r => have := W.2.1 r (hr r rfl); show -2147483648 ≤ G (59 + r) ∧ G (59 + r) < 2147483648; omega
  | 4 => show -2147483648 ≤ G (49 + l) ∧ G (49 + l) < 2147483648; omega
  | 5 => show -2147483648 ≤ G (18 + l) ∧ G (18 + l) < 2147483648; omega
  | 6 => show -2147483648 ≤ G 5 ∧ G 5 < 2147483648; omega
  | 7 => show -2147483648 ≤ G 7 ∧ G 7 < 2147483648; omega
  | i + 8 => exact ⟨by show (-2147483648 : Int) ≤ 0; decide, by show (0 : Int) < 2147483648; decide⟩
theorem fct_n {G : Nat → Int} {n m : Nat} {L : List Law} {l : Nat} {r : Option Nat} (W : SW G n m L) (B : BW G n m) (hl : l < n) (hr : ∀ x, r = some x → x < n) : FNB (fct G l r) := by
  have w1 := W.2.1 l hl
  have w2 := B.2.1 l hl
  have w3 := W.1
  have w4 := B.1
  intro i
  match i with
  | 0 => show -2000000000 < G (69 + l); omega
  | 1 =>
    cases r with
    | none => show (-2000000000 : Int) < -1; omega
    | some r => have := W.2.1 r (hr r rfl); show -2000000000 < G (69 + r); omega
  | 2 => show -2000000000 < G (59 + l); omega
  | 3 =>
    cases r with
    | none => show (-2000000000 : Int) < -1; omega
    | some r => have := W.2.1 r (hr r rfl); show -2000000000 < G (59 + r); omega
  | 4 => show -2000000000 < G (49 + l); omega
  | 5 => show -2000000000 < G (18 + l); omega
  | 6 => show -2000000000 < G 5; omega
  | 7 => show -2000000000 < G 7; omega
  | i + 8 => show (-2000000000 : Int) < 0; decide
theorem vS_n {Lw : Law} {c : Cl} {f : Nat → Int} {v : Int} (O : LawOK Lw) (hc : c ∈ Lw) (hf : FOK f) (hn : FNB f) (h : vS c f = some v) : -2000000000 < v := by
  unfold vS at h
  cases h2 : c.2.2 with
  | none => rw [h2] at h; cases h; decide
  | some ev => rw [h2] at h; exact ((O.2 c hc).2.2.1 ev h2 f hf v h).2 hn
theorem vS_ok {Lw : Law} {c : Cl} {f : Nat → Int} {v : Int} (O : LawOK Lw) (hc : c ∈ Lw) (hf : FOK f) (h : vS c f = some v) : -2147483648 ≤ v ∧ v < 2147483648 := by
  unfold vS at h
  cases h2 : c.2.2 with
  | none => rw [h2] at h; cases h; decide
  | some ev => rw [h2] at h; exact ((O.2 c hc).2.2.1 ev h2 f hf v h).1
theorem tdF_ok {Lw : Law} {k : Nat} {f : Nat → Int} (O : LawOK Lw) (hf : FOK f) : ∀ (A : List Cl), (∀ c ∈ A, c ∈ Lw) → ∀ v, tdF k f A = some v → (-2147483648 ≤ v ∧ v < 2147483648) ∧ (k = 3 → v = 1) := by
  intro A
  induction A with
  | nil => intro _ v h; cases h
  | cons c r ih =>
    intro hA v h
    simp only [tdF] at h
    cases hr : tdF k f r with
    | some w => rw [hr] at h; cases h; exact ih (fun c hc => hA c (List.mem_cons_of_mem _ hc)) _ hr
    | none =>
      rw [hr] at h
      simp only [ofKind] at h
      split at h
      · rename_i hk
        have hc := hA c (List.mem_cons_self ..)
        have hv : vS c f = some v := by
          unfold holdsV at h
          cases h1 : c.2.1 with
          | none => rw [h1] at h; exact h
          | some t =>
            rw [h1] at h
            simp only at h
            split at h
            · exact h
            · cases h
        refine ⟨vS_ok O hc hf hv, fun h3 => ?_⟩
        have := ((O.2 c hc).2.2.2).mp (hk.trans h3)
        unfold vS at hv
        rw [this] at hv; cases hv; rfl
      · cases h
theorem tellsA_ok {G : Nat → Int} {n m : Nat} {L : List Law} {k l : Nat} {r : Option Nat} (W : SW G n m L) (B : BW G n m) (hl : l < n) (hr : ∀ x, r = some x → x < n) {v : Int} (h : tellsA G L k l r = some v) : (-2147483648 ≤ v ∧ v < 2147483648) ∧ (k = 3 → v = 1) := by
  unfold tellsA at h
  split at h
  · cases h
  · cases hL : L[(G 4).toNat]? with
    | none => rw [hL] at h; cases h
    | some Lw =>
      rw [hL] at h
      exact tdF_ok (W.2.2.2.2 _ _ hL).2 (fct_ok W B hl hr) Lw (fun c hc => hc) v h
theorem quarrelA_bd {G : Nat → Int} {n m : Nat} {L : List Law} (W : SW G n m L) {l r : Nat} (hl : l < n) (hr : r < n) : 0 ≤ quarrelA G L l r ∧ quarrelA G L l r ≤ 20 := by
  unfold quarrelA toldA
  have w1 := W.2.1 l hl
  have w2 := W.2.1 r hr
  split
  · omega
  · split <;> omega
theorem driesA_bd {G : Nat → Int} {L : List Law} {s : Nat} : 0 ≤ driesA G L s ∧ driesA G L s ≤ 9 := by
  unfold driesA toldA
  split <;> omega
theorem countsA_bd {G : Nat → Int} {n m : Nat} {L : List Law} (W : SW G n m L) {s : Nat} (hs : s < n) : 0 ≤ countsA G L s ∧ countsA G L s ≤ 60 := by
  unfold countsA toldA
  have w1 := W.2.1 s hs
  split <;> omega
/-! ===== the class's judges ===== -/
def JQ (j b c fa ks : Nat) : Prop := (j = 47 ∧ b = 9 ∧ c = 10 ∧ fa = 48 ∧ ks = 49) ∨ (j = 80 ∧ b = 77 ∧ c = 78 ∧ fa = 81 ∧ ks = 82)
theorem JQ.sh {sh : Shp} {h : Sto} {j b c fa ks : Nat} (J : JQ j b c fa ks) (G : Fix sh h) : shAt sh (j : Int) = some (0, 4) ∧ shAt sh (fa : Int) = some (1, 8) ∧ shAt sh (ks : Int) = some (2, 64) ∧ h j 0 = 1 ∧ h j 1 = (b : Int) ∧ h j 2 = (fa : Int) ∧ h j 3 = (ks : Int) ∧ Bd sh h (b : Int) (c : Int) := by
  rcases J with ⟨rfl, rfl, rfl, rfl, rfl⟩ | ⟨rfl, rfl, rfl, rfl, rfl⟩
  · exact ⟨fs_47 G, fs_48 G, fs_49 G, ff_47_0 G, ff_47_1 G, ff_47_2 G, ff_47_3 G, fs_9 G, ff_9_0 G, fs_10 G⟩
  · exact ⟨fs_80 G, fs_81 G, fs_82 G, ff_80_0 G, ff_80_1 G, ff_80_2 G, ff_80_3 G, fs_77 G, ff_77_0 G, fs_78 G⟩
theorem JQ.ne {j b c fa ks : Nat} (J : JQ j b c fa ks) : 10 < fa ∧ 10 < ks ∧ fa < 85 ∧ ks < 85 ∧ fa ≠ ks ∧ j ≠ fa ∧ j ≠ ks ∧ b ≠ fa ∧ b ≠ ks ∧ c ≠ fa ∧ c ≠ ks := by
  unfold JQ at J; omega
/-- the judges' own rows -/
abbrev JP : List Nat := [48, 49, 81, 82]
theorem JQ.fr {h h2 : Sto} {j b c fa ks : Nat} (J : JQ j b c fa ks) (hh : ∀ q, q ≠ fa → q ≠ ks → h2 q = h q) : Fr JP [] h h2 := by
  intro q k h1 _
  have : q ≠ fa ∧ q ≠ ks := by
    constructor
    · rintro rfl; rcases J with ⟨_, _, _, rfl, _⟩ | ⟨_, _, _, rfl, _⟩ <;> exact h1 (by decide)
    · rintro rfl; rcases J with ⟨_, _, _, _, rfl⟩ | ⟨_, _, _, _, rfl⟩ <;> exact h1 (by decide)
  rw [hh q this.1 this.2]
/-- what the class's judges need: state at 1, cells at c, both as the row G -/
def CJ (sh : Shp) (h : Sto) (G : Nat → Int) (n m : Nat) (L : List Law) (c : Nat) : Prop := Fix sh h ∧ SR sh h 1 G n m L ∧ BR (h c) G n m ∧ SW G n m L ∧ BW G n m
theorem CJ.of {P : List Nat} {S : List (Nat × Nat)} {sh : Shp} {h h2 : Sto} {G : Nat → Int} {n m c : Nat} {L : List Law} (H : CJ sh h G n m L c) (F : Fr P S h h2) (hf : fixF P S = true) (hc : cgF [1, 2, 3, 4, 5, 6, 7, 8] [] P S = true) (he : h2 c = h c) : CJ sh h2 G n m L c := by
  have E := F.cg hc
  refine ⟨F.fix H.1 hf, H.2.1.of (E.r 1 rfl) (fun j h1 h2 => E.1 _ ?_) E.2.2, by rw [he]; exact H.2.2.1, H.2.2.2⟩
  have : j = 1 ∨ j = 2 ∨ j = 3 ∨ j = 4 ∨ j = 5 ∨ j = 6 ∨ j = 7 := by omega
  rcases this with rfl | rfl | rfl | rfl | rfl | rfl | rfl <;> decide
theorem JQ.c {j b c fa ks : Nat} (J : JQ j b c fa ks) : c = 10 ∨ c = 78 := by unfold JQ at J; omega
theorem CJ.fr {sh : Shp} {h h2 : Sto} {G : Nat → Int} {n m c : Nat} {L : List Law} (H : CJ sh h G n m L c) (F : Fr JP [] h h2) (hc : c = 10 ∨ c = 78) : CJ sh h2 G n m L c := by
  refine H.of F (by decide +kernel) (by decide +kernel) ?_
  rcases hc with rfl | rfl
  · exact F.row 10 rfl
  · exact F.row 78 rfl
theorem tlF_congr (op ar : Nat → Int) {f g : Nat → Int} (N F : Nat) (hfg : ∀ k, k < F → f k = g k) (hn : ∀ i, i < N → 0 ≤ ar i) : ∀ (left step : Nat) (stk : List Int), tlF op ar f N F left step stk = tlF op ar g N F left step stk := by
  intro left
  induction left with
  | zero => intro step stk; rfl
  | succ left ih =>
    intro step stk
    simp only [tlF]
    split
    · rfl
    · rename_i hs
      have := hn step (Decidable.not_not.mp hs)
      simp only [ih]
      by_cases h1 : (F : Int) ≤ ar step
      · simp only [h1, or_true, if_true]
      · rw [hfg (ar step).toNat (by omega)]
theorem Bd.of {sh : Shp} {h h2 : Sto} {b c : Int} (B : Bd sh h b c) (e : h2 b.toNat = h b.toNat) : Bd sh h2 b c := ⟨B.1, by rw [e]; exact B.2.1, B.2.2⟩
section BOARDN
variable {sc : Nat × (Nat → Int)} {d : Nat} {sh : Shp} {sl : Nat} {h : Sto} {Q : Pst} {b c : Nat}
theorem bn_glueOf {s : Nat} (hB : Bd sh h (b : Int) (c : Int)) (hs : s < 10) : WM sc d 21 [(2, (b : Int)), (0, (s : Int))] sh sl h Q ↔ Q (0, h c (1 + s)) sh sl h := by
  rw [sp_glueOf hB ⟨by omega, by omega⟩, show ((1 : Int) + s).toNat = 1 + s by omega, Int.toNat_natCast]
theorem bn_homeOf {s : Nat} (hB : Bd sh h (b : Int) (c : Int)) (hs : s < 10) : WM sc d 23 [(2, (b : Int)), (0, (s : Int))] sh sl h Q ↔ Q (0, h c (11 + s)) sh sl h := by
  rw [sp_homeOf hB ⟨by omega, by omega⟩, show ((11 : Int) + s).toNat = 11 + s by omega, Int.toNat_natCast]
theorem bn_sizeOf {s : Nat} (hB : Bd sh h (b : Int) (c : Int)) (hs : s < 3) : WM sc d 25 [(2, (b : Int)), (0, (s : Int))] sh sl h Q ↔ Q (0, h c (21 + s)) sh sl h := by
  rw [sp_sizeOf hB ⟨by omega, by omega⟩, show ((21 : Int) + s).toNat = 21 + s by omega, Int.toNat_natCast]
theorem bn_lateOf {s : Nat} (hB : Bd sh h (b : Int) (c : Int)) (hs : s < 3) : WM sc d 41 [(2, (b : Int)), (0, (s : Int))] sh sl h Q ↔ Q (0, h c (39 + s)) sh sl h := by
  rw [sp_lateOf hB ⟨by omega, by omega⟩, show ((39 : Int) + s).toNat = 39 + s by omega, Int.toNat_natCast]
theorem bn_today (hB : Bd sh h (b : Int) (c : Int)) : WM sc d 29 [(2, (b : Int))] sh sl h Q ↔ Q (0, h c 0) sh sl h := by
  rw [sp_today hB, Int.toNat_natCast]
theorem bn_stampAt {l i : Nat} (hB : Bd sh h (b : Int) (c : Int)) (hl : l < 3) (hi : i < 5) : WM sc d 26 [(2, (b : Int)), (0, (l : Int)), (0, (i : Int))] sh sl h Q ↔ Q (0, h c (24 + 5 * l + i)) sh sl h := by
  rw [sp_stampAt hB ⟨by omega, by omega⟩ ⟨by omega, by omega⟩, show ((24 : Int) + l * 5 + i).toNat = 24 + 5 * l + i by omega, Int.toNat_natCast]
theorem bn_setDay {x : Int} (hB : Bd sh h (b : Int) (c : Int)) : WM sc d 47 [(2, (b : Int)), (0, x)] sh sl h Q ↔ Q (9, 0) sh sl (setH h c 0 x) := by
  rw [sp_setDay hB, Int.toNat_natCast]
theorem bn_setGlue {s : Nat} {x : Int} (hB : Bd sh h (b : Int) (c : Int)) (hs : s < 10) : WM sc d 16 [(2, (b : Int)), (0, (s : Int)), (0, x)] sh sl h Q ↔ Q (9, 0) sh sl (setH h c (1 + s) x) := by
  rw [sp_setGlue hB ⟨by omega, by omega⟩, show ((1 : Int) + s).toNat = 1 + s by omega, Int.toNat_natCast]
theorem bn_setHome {s : Nat} {x : Int} (hB : Bd sh h (b : Int) (c : Int)) (hs : s < 10) : WM sc d 17 [(2, (b : Int)), (0, (s : Int)), (0, x)] sh sl h Q ↔ Q (9, 0) sh sl (setH h c (11 + s) x) := by
  rw [sp_setHome hB ⟨by omega, by omega⟩, show ((11 : Int) + s).toNat = 11 + s by omega, Int.toNat_natCast]
theorem bn_setSize {s : Nat} {x : Int} (hB : Bd sh h (b : Int) (c : Int)) (hs : s < 3) : WM sc d 34 [(2, (b : Int)), (0, (s : Int)), (0, x)] sh sl h Q ↔ Q (9, 0) sh sl (setH h c (21 + s) x) := by
  rw [sp_setSize hB ⟨by omega, by omega⟩, show ((21 : Int) + s).toNat = 21 + s by omega, Int.toNat_natCast]
theorem bn_setLate {s : Nat} {x : Int} (hB : Bd sh h (b : Int) (c : Int)) (hs : s < 3) : WM sc d 35 [(2, (b : Int)), (0, (s : Int)), (0, x)] sh sl h Q ↔ Q (9, 0) sh sl (setH h c (39 + s) x) := by
  rw [sp_setLate hB ⟨by omega, by omega⟩, show ((39 : Int) + s).toNat = 39 + s by omega, Int.toNat_natCast]
theorem bn_setStampAt {l i : Nat} {x : Int} (hB : Bd sh h (b : Int) (c : Int)) (hl : l < 3) (hi : i < 5) : WM sc d 91 [(2, (b : Int)), (0, (l : Int)), (0, (i : Int)), (0, x)] sh sl h Q ↔ Q (9, 0) sh sl (setH h c (24 + 5 * l + i) x) := by
  rw [sp_setStampAt hB ⟨by omega, by omega⟩ ⟨by omega, by omega⟩, show ((24 : Int) + l * 5 + i).toNat = 24 + 5 * l + i by omega, Int.toNat_natCast]
end BOARDN
section JUDGE
variable {sc : Nat × (Nat → Int)} {d : Nat} {sh : Shp} {sl : Nat} {h : Sto} {Q : Pst} {j b c fa ks : Nat}
/-- telling, at a read TEXT -/
theorem sp_tellE {p po pa N No F : Nat} {v : Int} {ev : Ev} {f : Nat → Int} (hp : shAt sh (p : Int) = some (0, 9)) (hN : h p 1 = (N : Int)) (hN4 : N ≤ 400) (hNo : N ≤ No) (hop : h p 8 = (po : Int)) (hso : shAt sh (po : Int) = some (1, No)) (har : h p 9 = (pa : Int)) (hsa : shAt sh (pa : Int) = some (1, No)) (ho : ∀ i, i < N → 0 ≤ h po i ∧ h po i ≤ 13) (ha : ∀ i, i < N → 0 ≤ h pa i ∧ h pa i < 2147483648)
    (hF : shAt sh (fa : Int) = some (1, F)) (hF4 : F ≤ 400) (hK : shAt sh (ks : Int) = some (2, 64)) (hne : p ≠ ks ∧ po ≠ ks ∧ pa ≠ ks ∧ fa ≠ ks) (H : TellC (h po) (h pa) N F v (some ev)) (hf : FOK f) (hfe : ∀ i, i < F → h fa i = f i)
    (hq : ∀ h', (∀ q, q ≠ ks → h' q = h q) → Q (1, (ev f).getD (-2000000000)) sh sl h') : WM sc d 30 [(2, (p : Int)), (0, v), (2, (fa : Int)), (2, (ks : Int))] sh sl h Q := by
  obtain ⟨a, h1, h2, h3⟩ := H
  subst h1
  have e : tlF (h po) (h pa) (h fa) N F N a [] = ev f := by
    rw [← h3 f hf]
    exact tlF_congr _ _ _ _ hfe (fun i hi => (ha i hi).1) _ _ _
  rw [← e] at hq
  simp only [E_30, R_30_0, R_30_1, R_30_3, R_30_4, R_30_6, R_30_7, R_30_10, hp, true_and, Int.toNat_natCast, nl2, nl9, nl0, hN]
  exact lp_tell hp hN hN4 hop har hso hsa hNo hF hF4 hK hne.1 hne.2.1 hne.2.2.1 hne.2.2.2 ho ha (fun i hi => by rw [hfe i hi]; exact hf i) N a [] h _ _ _ _ _ _ _ _ _ _ _ (by simp) rfl rfl hN4 (by omega) trivial (by simp) (by simp) (fun _ _ => rfl) hq
theorem TellC.bd {op ar : Nat → Int} {N F : Nat} {v : Int} {e : Option Ev} (H : TellC op ar N F v e) : (v = -1 ↔ e = none) ∧ -1 ≤ v ∧ v < 400 := by
  unfold TellC at H
  cases e with
  | none => simp at H; subst H; simp
  | some ev => obtain ⟨a, h1, h2, -⟩ := H; subst h1; simp; omega
theorem lp_told {kind without most l r fo : Int} {p : Nat} {Lw : Law} {f : Nat → Int} {k : Nat} (G : Fix sh h) (J : JQ j b c fa ks) (hL : LawC sh h p Lw) (hO : LawOK Lw) (hk : kind = (k : Int)) (hk3 : k ≤ 3) (hm : 0 ≤ most ∧ most ≤ 60) (hf : ∀ i, i < 8 → h fa i = f i) (hfb : FOK f) (hfn : FNB f) :
    ∀ (i : Nat) (h' : Sto) (I : Int) (j9 j10 : V), I = (i : Int) - 1 → i ≤ Lw.length → (∀ q, q ≠ ks → h' q = h q) → (∀ h'', (∀ q, q ≠ ks → h'' q = h q) → Q (0, toldA (tdF k f (Lw.take i)) without most) sh sl h'') →
      WF sc (d + 1) 28 193 [(2, (j : Int)), (0, kind), (0, l), (0, r), (0, without), (0, most), (0, fo), (2, (p : Int)), (0, I), j9, j10] [] sh sl h' Q := by
  obtain ⟨js, fs, kss, j0, j1, j2, j3, jB⟩ := J.sh G
  obtain ⟨n1, n2, n3, n4, n5, n6, n7, n8, n9, n10, n11⟩ := J.ne
  have hC : Lw.length ≤ 12 := hO.1
  obtain ⟨N, Nc, No, pk, pf, pt, po, pa, hp, ⟨b1, b2, b3, b4, b5⟩, g1, g2, g3, g4, g5, g6, ⟨g7, g8⟩, ⟨g9, g10⟩, ⟨g11, g12⟩, ⟨g13, g14⟩, ⟨g15, g16⟩, g17, g18, g19⟩ := hL
  intro i
  induction i with
  | zero =>
    intro h' I j9 j10 hI hi hh hq
    subst hI
    simp (disch := omega) only [R_28_193, R_28_195, R_28_322, R_28_324, Int.natCast_zero, Int.zero_sub, w32_id, w64_id, if_pos, if_neg, if_true, if_false, not_true_eq_false, not_false_eq_true, nl0, nl1, nl2, nl9, Int.toNat_natCast, pushR0, pushR1, pushR2, pushR9, true_and, and_true, wgt_nil, wgt_0, wgt_1, wgt_2, lcmp_lt, lcmp_gt, lcmp_eq, lcmp_ge, lcmp_le]
    exact hq h' hh
  | succ i ih =>
    intro h' I j9 j10 hI hi hh hq
    have hI2 : I = (i : Int) := by omega
    subst hI2
    obtain ⟨cl, hcl⟩ : ∃ cl, Lw[i]? = some cl := ⟨Lw[i], List.getElem?_eq_getElem (by omega)⟩
    obtain ⟨r1, r3, r4⟩ := g19 i cl hcl
    have hcm : cl ∈ Lw := List.mem_of_getElem? hcl
    obtain ⟨q1, q2, q3, q4⟩ := hO.2 cl hcm
    have htake : Lw.take (i + 1) = Lw.take i ++ [cl] := by rw [List.take_add_one, hcl]; rfl
    rw [htake, tdF_snoc] at hq
    have e1 := hh p (by omega)
    have e2 := hh pk (by omega)
    have e3 := hh pt (by omega)
    have e4 := hh pf (by omega)
    have e5 := hh j n7
    have t3 := r3.bd
    have t4 := r4.bd
    have hnext : ofKind k f cl = none → ∀ h2 (j9 j10 : V), (∀ q, q ≠ ks → h2 q = h q) → WF sc (d + 1) 28 316 [(2, (j : Int)), (0, kind), (0, l), (0, r), (0, without), (0, most), (0, fo), (2, (p : Int)), (0, (i : Int)), j9, j10] [] sh sl h2 Q := by
      intro hn h2 k9 k10 hh2
      simp (disch := omega) only [R_28_316, R_28_319, w32_id, w64_id, if_pos, if_neg, if_true, if_false, not_true_eq_false, not_false_eq_true, nl0, nl1, nl2, nl9, Int.toNat_natCast, pushR0, pushR1, pushR2, pushR9, true_and, and_true, wgt_nil, wgt_0, wgt_1, wgt_2, lcmp_lt, lcmp_gt, lcmp_eq, lcmp_ge, lcmp_le]
      rw [hn] at hq
      exact ih h2 _ _ _ (by omega) (by omega) hh2 hq
    have htell : ∀ (h2 : Sto) (v : Int) (ev : Ev) (Q2 : Pst), (∀ q, q ≠ ks → h2 q = h q) → TellC (h po) (h pa) N 8 v (some ev) → (∀ h3, (∀ q, q ≠ ks → h3 q = h q) → Q2 (1, (ev f).getD (-2000000000)) sh sl h3) → WM sc d 30 [(2, (p : Int)), (0, v), (2, (fa : Int)), (2, (ks : Int))] sh sl h2 Q2 := by
      intro h2 v ev Q2 hh2 hT hq2
      have z1 := hh2 p (by omega)
      have z2 := hh2 po (by omega)
      have z3 := hh2 pa (by omega)
      have z4 := hh2 fa (by omega)
      exact sp_tellE (po := po) (pa := pa) (N := N) (No := No) (F := 8) (f := f) (ev := ev) g1 (by rw [z1]; exact g4) g5 g6 (by rw [z1]; exact g13) g14 (by rw [z1]; exact g15) g16 (by rw [z2]; exact g17) (by rw [z3]; exact g18) fs (by omega) kss ⟨by omega, by omega, by omega, by omega⟩ (by rw [z2, z3]; exact hT) hfb (fun i hi => by rw [z4]; exact hf i hi) (fun h3 hh3 => hq2 h3 (fun q hqk => (hh3 q hqk).trans (hh2 q hqk)))
    rw [R_28_193]
    simp (disch := omega) only [R_28_195, R_28_198, R_28_200, R_28_203, R_28_205, R_28_206, R_28_207, R_28_210, R_28_213, R_28_215, R_28_218, R_28_220, R_28_221, R_28_222, e1, e2, e3, g1, g7, g11, r1, inA_of g8, inA_of g12, w32_id, w64_id, if_pos, if_neg, if_true, if_false, not_true_eq_false, not_false_eq_true, nl0, nl1, nl2, nl9, Int.toNat_natCast, pushR0, pushR1, pushR2, pushR9, true_and, and_true, wgt_nil, wgt_0, wgt_1, wgt_2, lcmp_lt, lcmp_gt, lcmp_eq, lcmp_ge, lcmp_le, hk]
    refine ⟨⟨by omega, by omega⟩, ?_⟩
    rw [← hk]
    by_cases hkk : cl.1 = k
    · rw [if_pos (by omega)]
      refine ⟨⟨by omega, by omega⟩, ?_⟩
      have hval : ∀ h2 (j9 j10 : V), (∀ q, q ≠ ks → h2 q = h q) → ofKind k f cl = vS cl f → WF sc (d + 1) 28 254 [(2, (j : Int)), (0, kind), (0, l), (0, r), (0, without), (0, most), (0, fo), (2, (p : Int)), (0, (i : Int)), j9, j10] [] sh sl h2 Q := by
        intro h2 k9 k10 hh2 ho
        have z1 := hh2 p (by omega)
        have z2 := hh2 pf (by omega)
        have z3 := hh2 j n7
        have hend : ∀ (h3 : Sto) (k9 k10 : V), (∀ q, q ≠ ks → h3 q = h q) → WF sc (d + 1) 28 291 [(2, (j : Int)), (0, kind), (0, l), (0, r), (0, without), (0, most), (0, fo), (2, (p : Int)), (0, (i : Int)), k9, k10] [(1, (vS cl f).getD (-2000000000))] sh sl h3 Q := by
          intro h3 k9 k10 hh3
          cases hv : vS cl f with
          | none =>
            simp (disch := omega) only [R_28_291, R_28_293, R_28_295, R_28_298, R_28_299, w32_id, w64_id, if_pos, if_neg, if_true, if_false, not_true_eq_false, not_false_eq_true, nl0, nl1, nl2, nl9, Int.toNat_natCast, pushR0, pushR1, pushR2, pushR9, true_and, and_true, wgt_nil, wgt_0, wgt_1, wgt_2, lcmp_lt, lcmp_gt, lcmp_eq, lcmp_ge, lcmp_le, Option.getD_none]
            exact hnext (ho.trans hv) h3 _ _ hh3
          | some v =>
            have hb := vS_ok hO hcm hfb hv
            have hb2 := vS_n hO hcm hfb hfn hv
            simp (disch := omega) only [R_28_291, R_28_293, R_28_295, R_28_298, R_28_299, R_28_302, R_28_303, R_28_305, R_28_307, R_28_308, R_28_311, R_28_314, R_28_315, w32_id, w64_id, if_pos, if_neg, if_true, if_false, not_true_eq_false, not_false_eq_true, nl0, nl1, nl2, nl9, Int.toNat_natCast, pushR0, pushR1, pushR2, pushR9, true_and, and_true, wgt_nil, wgt_0, wgt_1, wgt_2, lcmp_lt, lcmp_gt, lcmp_eq, lcmp_ge, lcmp_le, Option.getD_some]
            have := hq h3 hh3
            rw [ho.trans hv] at this
            simp only [toldA] at this
            refine ⟨by omega, by omega, ?_⟩
            have e : (if (if most < v then most else v) < 0 then 0 else (if most < v then most else v)) = max 0 (min v most) := by omega
            rw [e]; exact this
        simp (disch := omega) only [R_28_254, R_28_256, R_28_259, R_28_261, R_28_262, R_28_263, R_28_266, R_28_267, R_28_270, R_28_272, R_28_274, R_28_277, R_28_279, R_28_280, R_28_281, R_28_284, R_28_285, R_28_288, z1, z2, z3, g1, g9, js, j2, j3, inA_of g10, w32_id, w64_id, if_pos, if_neg, if_true, if_false, not_true_eq_false, not_false_eq_true, nl0, nl1, nl2, nl9, Int.toNat_natCast, pushR0, pushR1, pushR2, pushR9, true_and, and_true, wgt_nil, wgt_0, wgt_1, wgt_2, lcmp_lt, lcmp_gt, lcmp_eq, lcmp_ge, lcmp_le]
        refine ⟨⟨by omega, by omega⟩, ?_⟩
        by_cases hn : h pf i = -1
        · rw [if_neg (by omega)]
          have hv : vS cl f = some 1 := by unfold vS; rw [t4.1.mp hn]
          have := hend h2 k9 k10 hh2
          rw [hv] at this; exact this
        · rw [if_pos (by omega)]
          refine ⟨⟨by omega, by omega⟩, ?_⟩
          cases hc2 : cl.2.2 with
          | none => exact absurd (t4.1.mpr hc2) hn
          | some ev =>
            rw [hc2] at r4
            refine ⟨by omega, htell h2 _ ev _ hh2 r4 (fun h3 hh3 => ?_)⟩
            have hv : vS cl f = ev f := by unfold vS; rw [hc2]
            have := hend h3 k9 k10 hh3
            rw [hv] at this; exact this
      by_cases hn : h pt i = -1
      · rw [if_pos (by omega)]
        have hc1 := t3.1.mp hn
        exact hval h' _ _ hh (by unfold ofKind holdsV; rw [if_pos hkk, hc1])
      · rw [if_neg (by omega)]
        cases hc1 : cl.2.1 with
        | none => exact absurd (t3.1.mpr hc1) hn
        | some ev =>
          rw [hc1] at r3
          simp (disch := omega) only [R_28_225, R_28_227, R_28_229, R_28_232, R_28_234, R_28_235, R_28_236, R_28_239, R_28_240, R_28_243, e1, e3, e5, g1, g11, js, j2, j3, inA_of g12, w32_id, w64_id, if_pos, if_neg, if_true, if_false, not_true_eq_false, not_false_eq_true, nl0, nl1, nl2, nl9, Int.toNat_natCast, pushR0, pushR1, pushR2, pushR9, true_and, and_true, wgt_nil, wgt_0, wgt_1, wgt_2, lcmp_lt, lcmp_gt, lcmp_eq, lcmp_ge, lcmp_le]
          refine ⟨⟨by omega, by omega⟩, by omega, htell h' _ ev _ hh r3 (fun h3 hh3 => ?_)⟩
          simp only [pushR1]
          cases hv : ev f with
          | none =>
            simp (disch := omega) only [R_28_246, R_28_247, R_28_248, R_28_251, w32_id, w64_id, if_pos, if_neg, if_true, if_false, not_true_eq_false, not_false_eq_true, nl0, nl1, nl2, nl9, Int.toNat_natCast, pushR0, pushR1, pushR2, pushR9, true_and, and_true, wgt_nil, wgt_0, wgt_1, wgt_2, lcmp_lt, lcmp_gt, lcmp_eq, lcmp_ge, lcmp_le, Option.getD_none]
            exact hnext (by unfold ofKind holdsV; rw [if_pos hkk, hc1]; simp [hv]) h3 _ _ hh3
          | some v =>
            have hb := q2 ev hc1 f hfb v hv
            simp (disch := omega) only [R_28_246, R_28_247, R_28_248, R_28_251, w32_id, w64_id, if_pos, if_neg, if_true, if_false, not_true_eq_false, not_false_eq_true, nl0, nl1, nl2, nl9, Int.toNat_natCast, pushR0, pushR1, pushR2, pushR9, true_and, and_true, wgt_nil, wgt_0, wgt_1, wgt_2, lcmp_lt, lcmp_gt, lcmp_eq, lcmp_ge, lcmp_le, Option.getD_some]
            by_cases h1 : v = 1
            · subst h1
              rw [if_pos rfl]
              exact hval h3 _ _ hh3 (by unfold ofKind holdsV; rw [if_pos hkk, hc1]; simp [hv])
            · rw [if_neg h1]
              exact hnext (by unfold ofKind holdsV; rw [if_pos hkk, hc1]; simp [hv, h1]) h3 _ _ hh3
    · rw [if_neg (by omega)]
      exact hnext (by unfold ofKind; rw [if_neg hkk]) h' _ _ hh
end JUDGE
