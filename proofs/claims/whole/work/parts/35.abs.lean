/-! ===== the abstract state: what both sides stand for ===== -/
/-- a SUM or TEST: by facts a value, or broken -/
abbrev Ev : Type := (Nat → Int) → Option Int
/-- a CLAUSE of a LAW: kind, TEST, SUM -/
abbrev Cl : Type := Nat × Option Ev × Option Ev
abbrev Law : Type := List Cl
/-- count of STAMPS, worth, realm, temper; count of LETTERS, fee; what was heard; rain, mood; laws, force -/
abbrev Sta : Type := Nat × (Nat → Int) × (Nat → Int) × (Nat → Int) × Nat × (Nat → Int) × List (Nat × Int) × Int × Int × List Law × Int
def sN (S : Sta) : Nat := S.1
def sW (S : Sta) : Nat → Int := S.2.1
def sR (S : Sta) : Nat → Int := S.2.2.1
def sT (S : Sta) : Nat → Int := S.2.2.2.1
def sM (S : Sta) : Nat := S.2.2.2.2.1
def sF (S : Sta) : Nat → Int := S.2.2.2.2.2.1
def sH (S : Sta) : List (Nat × Int) := S.2.2.2.2.2.2.1
def sRa (S : Sta) : Int := S.2.2.2.2.2.2.2.1
def sMo (S : Sta) : Int := S.2.2.2.2.2.2.2.2.1
def sL (S : Sta) : List Law := S.2.2.2.2.2.2.2.2.2.1
def sFo (S : Sta) : Int := S.2.2.2.2.2.2.2.2.2.2
/-- a board: day, glue, home (a LETTER, -1 the sheet, -2 cancelled), rows, late -/
abbrev Bo : Type := Int × (Nat → Int) × (Nat → Int) × (Nat → List Nat) × (Nat → Int)
def bD (B : Bo) : Int := B.1
def bG (B : Bo) : Nat → Int := B.2.1
def bH (B : Bo) : Nat → Int := B.2.2.1
def bR (B : Bo) : Nat → List Nat := B.2.2.2.1
def bL (B : Bo) : Nat → Int := B.2.2.2.2
def up {α : Type} (f : Nat → α) (k : Nat) (v : α) : Nat → α := fun j => if j = k then v else f j
/-- what is always so -/
def SWf (S : Sta) : Prop := sN S ≤ 10 ∧ sM S ≤ 3 ∧ (∀ s, s < sN S → (1 ≤ sW S s ∧ sW S s ≤ 20) ∧ (0 ≤ sR S s ∧ sR S s ≤ 5) ∧ (0 ≤ sT S s ∧ sT S s ≤ 9)) ∧ (∀ l, l < sM S → 0 ≤ sF S l ∧ sF S l ≤ 60) ∧ ((sH S).length ≤ 6 ∧ ∀ q ∈ sH S, q.1 < sN S ∧ 0 ≤ q.2 ∧ q.2 ≤ 20) ∧ (0 ≤ sRa S ∧ sRa S ≤ 10) ∧ (0 ≤ sMo S ∧ sMo S ≤ 9) ∧ (sL S).length ≤ 6 ∧ (-1 ≤ sFo S ∧ sFo S < (sL S).length)
def BWf (n m : Nat) (B : Bo) : Prop := (0 ≤ bD B ∧ bD B ≤ 999) ∧ (∀ s, s < n → (0 ≤ bG B s ∧ bG B s ≤ 9) ∧ (-2 ≤ bH B s ∧ bH B s < m)) ∧ ∀ l, l < m → (0 ≤ bL B l ∧ bL B l ≤ 9999) ∧ (bR B l).length ≤ 5 ∧ (bR B l).Nodup ∧ ∀ s ∈ bR B l, s < n ∧ bH B s = l
/-- the facts that a law is asked by -/
def fct (S : Sta) (B : Bo) (l : Nat) (r : Option Nat) : Nat → Int := fun k => match k with
  | 0 => sT S l
  | 1 => (match r with | some r => sT S r | none => -1)
  | 2 => sR S l
  | 3 => (match r with | some r => sR S r | none => -1)
  | 4 => sW S l
  | 5 => bG B l
  | 6 => bD B
  | 7 => sMo S
  | _ => 0
/-- what a CLAUSE tells, if it HOLDS -/
def holdsV (c : Cl) (f : Nat → Int) : Option Int := match c.2.1 with
  | some t => if t f = some 1 then (match c.2.2 with | some s => s f | none => some 1) else none
  | none => (match c.2.2 with | some s => s f | none => some 1)
def ofKind (k : Nat) (f : Nat → Int) (c : Cl) : Option Int := if c.1 = k then holdsV c f else none
/-- as the last of the kind that HOLDS tells -/
def tdF (k : Nat) (f : Nat → Int) : List Cl → Option Int
  | [] => none
  | c :: r => (match tdF k f r with | some v => some v | none => ofKind k f c)
theorem tdF_snoc (k : Nat) (f : Nat → Int) (A : List Cl) (x : Cl) : tdF k f (A ++ [x]) = (match ofKind k f x with | some v => some v | none => tdF k f A) := by
  induction A with
  | nil =>
    simp only [List.nil_append, tdF]
    cases ofKind k f x <;> rfl
  | cons c r ih =>
    simp only [List.cons_append, tdF, ih]
    cases ofKind k f x <;> rfl
def lawNow (S : Sta) : Option Law := if sFo S < 0 then none else (sL S)[(sFo S).toNat]?
def tellsA (S : Sta) (B : Bo) (k l : Nat) (r : Option Nat) : Option Int := (lawNow S).bind (tdF k (fct S B l r))
def clampA (most : Int) (v : Int) : Int := max 0 (min v most)
def quarrelA (S : Sta) (B : Bo) (l r : Nat) : Int := match tellsA S B 0 l (some r) with
  | some v => clampA 20 v
  | none => if sR S l = sR S r then 0 else sT S l + sT S r
def barredA (S : Sta) (B : Bo) (l r : Nat) : Bool := (tellsA S B 3 l (some r)).isSome
def driesA (S : Sta) (B : Bo) (s : Nat) : Int := match tellsA S B 1 s none with
  | some v => clampA 9 v
  | none => 1
def countsA (S : Sta) (B : Bo) (s : Nat) : Int := match tellsA S B 2 s none with
  | some v => clampA 60 v
  | none => sW S s
def paidL (S : Sta) (B : Bo) (r : List Nat) : Int := (r.map (countsA S B)).sum
def quarrelL (S : Sta) (B : Bo) : List Nat → Int
  | a :: b :: r => quarrelA S B a b + quarrelL S B (b :: r)
  | _ => 0
/-! how the class holds it -/
def BoC (f : Nat → Int) (n m : Nat) (B : Bo) : Prop := f 0 = bD B ∧ (∀ s, s < n → f (1 + s) = bG B s ∧ f (11 + s) = bH B s) ∧ ∀ l, l < m → f (21 + l) = ((bR B l).length : Int) ∧ f (39 + l) = bL B l ∧ ∀ i, i < (bR B l).length → f (24 + 5 * l + i) = ((bR B l).getD i 0 : Nat)
/-- a read TEXT at p: what telling from there gives -/
def TellC (sh : Shp) (h : Sto) (p F : Nat) (v : Int) (e : Option Ev) : Prop := (v = -1 ∧ e = none) ∨ ∃ (a N : Nat) (ev : Ev), v = (a : Int) ∧ e = some ev ∧ a < 400 ∧ h p 1 = (N : Int) ∧ ∀ f, tlF (h (h p 8).toNat) (h (h p 9).toNat) f N F N a [] = ev f
def ScrC (sh : Shp) (h : Sto) (p : Nat) : Prop := shAt sh (p : Int) = some (0, 9) ∧ ∃ (C N Nc No : Nat) (pk px pf ps pt pw po pa : Nat), h p 0 = (C : Int) ∧ C ≤ 12 ∧ C ≤ Nc ∧ h p 1 = (N : Int) ∧ N ≤ 400 ∧ N ≤ No
  ∧ (h p 2 = (pk : Int) ∧ shAt sh (pk : Int) = some (1, Nc)) ∧ (h p 3 = (px : Int) ∧ shAt sh (px : Int) = some (1, Nc)) ∧ (h p 4 = (pf : Int) ∧ shAt sh (pf : Int) = some (1, Nc)) ∧ (h p 5 = (ps : Int) ∧ shAt sh (ps : Int) = some (1, Nc)) ∧ (h p 6 = (pt : Int) ∧ shAt sh (pt : Int) = some (1, Nc)) ∧ (h p 7 = (pw : Int) ∧ shAt sh (pw : Int) = some (1, Nc)) ∧ (h p 8 = (po : Int) ∧ shAt sh (po : Int) = some (1, No)) ∧ (h p 9 = (pa : Int) ∧ shAt sh (pa : Int) = some (1, No))
  ∧ (∀ i, i < N → 0 ≤ h po i ∧ h po i ≤ 13) ∧ (∀ i, i < N → 0 ≤ h pa i ∧ h pa i < 2147483648)
/-- a LAW at p -/
def LawC (sh : Shp) (h : Sto) (p : Nat) (L : Law) : Prop := ScrC sh h p ∧ (∀ k, 2 ≤ k → k ≤ 9 → 120 ≤ h p k ∧ h p k < sh.length) ∧ h p 0 = (L.length : Int) ∧ ∀ i c, L[i]? = some c → h (h p 2).toNat i = (c.1 : Int) ∧ c.1 ≤ 3 ∧ TellC sh h p 8 (h (h p 6).toNat i) c.2.1 ∧ TellC sh h p 8 (h (h p 4).toNat i) c.2.2
/-- a State whose object is at b, its arrays behind it -/
def StC (sh : Shp) (h : Sto) (b : Nat) (S : Sta) : Prop := h b 0 = (sN S : Int) ∧ (∀ s, s < sN S → h (b + 1) s = sW S s ∧ h (b + 2) s = sR S s ∧ h (b + 3) s = sT S s) ∧ h b 4 = (sM S : Int) ∧ (∀ l, l < sM S → h (b + 4) l = sF S l) ∧ h b 6 = ((sH S).length : Int) ∧ (∀ i q, (sH S)[i]? = some q → h (b + 5) i = (q.1 : Int) ∧ h (b + 6) i = q.2) ∧ h b 9 = sRa S ∧ h b 10 = sMo S ∧ h b 11 = ((sL S).length : Int) ∧ (∀ i L, (sL S)[i]? = some L → ∃ p : Nat, h (b + 7) i = (p : Int) ∧ 120 ≤ p ∧ p < sh.length ∧ LawC sh h p L) ∧ h b 13 = sFo S
/-! Board's methods, their numbers Nat -/
section BOARDN
variable {sc : Nat × (Nat → Int)} {d : Nat} {sh : Shp} {sl : Nat} {h : Sto} {Q : Pst} {b c : Nat}
theorem bn_glueOf {s : Nat} (hB : Bd sh h (b : Int) (c : Int)) (hs : s < 10) : WM sc d 21 [(2, (b : Int)), (0, (s : Int))] sh sl h Q ↔ Q (0, h c (1 + s)) sh sl h := by
  rw [sp_glueOf hB ⟨by omega, by omega⟩, show ((1 : Int) + s).toNat = 1 + s by omega, Int.toNat_natCast]
theorem bn_homeOf {s : Nat} (hB : Bd sh h (b : Int) (c : Int)) (hs : s < 10) : WM sc d 23 [(2, (b : Int)), (0, (s : Int))] sh sl h Q ↔ Q (0, h c (11 + s)) sh sl h := by
  rw [sp_homeOf hB ⟨by omega, by omega⟩, show ((11 : Int) + s).toNat = 11 + s by omega, Int.toNat_natCast]
theorem bn_sizeOf {s : Nat} (hB : Bd sh h (b : Int) (c : Int)) (hs : s < 3) : WM sc d 25 [(2, (b : Int)), (0, (s : Int))] sh sl h Q ↔ Q (0, h c (21 + s)) sh sl h := by
  rw [sp_sizeOf hB ⟨by omega, by omega⟩, show ((21 : Int) + s).toNat = 21 + s by omega, Int.toNat_natCast]
theorem bn_lateOf {s : Nat} (hB : Bd sh h (b : Int) (c : Int)) (hs : s < 3) : WM sc d 41 [(2, (b : Int)), (0, (s : Int))] sh sl h Q ↔ Q (0, h c (39 + s)) sh sl h := by
  rw [sp_lateOf hB ⟨by omega, by omega⟩, show ((39 : Int) + s).toNat = 39 + s by omega, Int.toNat_natCast]
theorem bn_today (hB : Bd sh h (b : Int) (c : Int)) : WM sc d 29 [(2, (b : Int))] sh sl h Q ↔ Q (0, h c 0) sh sl h := by
  rw [sp_today hB, Int.toNat_natCast]
theorem bn_stampAt {l i : Nat} (hB : Bd sh h (b : Int) (c : Int)) (hl : l < 3) (hi : i < 5) : WM sc d 26 [(2, (b : Int)), (0, (l : Int)), (0, (i : Int))] sh sl h Q ↔ Q (0, h c (24 + 5 * l + i)) sh sl h := by
  rw [sp_stampAt hB ⟨by omega, by omega⟩ ⟨by omega, by omega⟩, show ((24 : Int) + l * 5 + i).toNat = 24 + 5 * l + i by omega, Int.toNat_natCast]
theorem bn_setDay {x : Int} (hB : Bd sh h (b : Int) (c : Int)) : WM sc d 47 [(2, (b : Int)), (0, x)] sh sl h Q ↔ Q (9, 0) sh sl (setH h c 0 x) := by
  rw [sp_setDay hB, Int.toNat_natCast]
theorem bn_setGlue {s : Nat} {x : Int} (hB : Bd sh h (b : Int) (c : Int)) (hs : s < 10) : WM sc d 16 [(2, (b : Int)), (0, (s : Int)), (0, x)] sh sl h Q ↔ Q (9, 0) sh sl (setH h c (1 + s) x) := by
  rw [sp_setGlue hB ⟨by omega, by omega⟩, show ((1 : Int) + s).toNat = 1 + s by omega, Int.toNat_natCast]
theorem bn_setHome {s : Nat} {x : Int} (hB : Bd sh h (b : Int) (c : Int)) (hs : s < 10) : WM sc d 17 [(2, (b : Int)), (0, (s : Int)), (0, x)] sh sl h Q ↔ Q (9, 0) sh sl (setH h c (11 + s) x) := by
  rw [sp_setHome hB ⟨by omega, by omega⟩, show ((11 : Int) + s).toNat = 11 + s by omega, Int.toNat_natCast]
theorem bn_setSize {s : Nat} {x : Int} (hB : Bd sh h (b : Int) (c : Int)) (hs : s < 3) : WM sc d 34 [(2, (b : Int)), (0, (s : Int)), (0, x)] sh sl h Q ↔ Q (9, 0) sh sl (setH h c (21 + s) x) := by
  rw [sp_setSize hB ⟨by omega, by omega⟩, show ((21 : Int) + s).toNat = 21 + s by omega, Int.toNat_natCast]
theorem bn_setLate {s : Nat} {x : Int} (hB : Bd sh h (b : Int) (c : Int)) (hs : s < 3) : WM sc d 35 [(2, (b : Int)), (0, (s : Int)), (0, x)] sh sl h Q ↔ Q (9, 0) sh sl (setH h c (39 + s) x) := by
  rw [sp_setLate hB ⟨by omega, by omega⟩, show ((39 : Int) + s).toNat = 39 + s by omega, Int.toNat_natCast]
theorem bn_setStampAt {l i : Nat} {x : Int} (hB : Bd sh h (b : Int) (c : Int)) (hl : l < 3) (hi : i < 5) : WM sc d 91 [(2, (b : Int)), (0, (l : Int)), (0, (i : Int)), (0, x)] sh sl h Q ↔ Q (9, 0) sh sl (setH h c (24 + 5 * l + i) x) := by
  rw [sp_setStampAt hB ⟨by omega, by omega⟩ ⟨by omega, by omega⟩, show ((24 : Int) + l * 5 + i).toNat = 24 + 5 * l + i by omega, Int.toNat_natCast]
end BOARDN
/-! the two judges -/
def JQ (j b c fa ks : Nat) : Prop := (j = 47 ∧ b = 9 ∧ c = 10 ∧ fa = 48 ∧ ks = 49) ∨ (j = 80 ∧ b = 77 ∧ c = 78 ∧ fa = 81 ∧ ks = 82)
theorem JQ.sh {sh : Shp} {h : Sto} {j b c fa ks : Nat} (J : JQ j b c fa ks) (G : Fix sh h) : shAt sh (j : Int) = some (0, 4) ∧ shAt sh (fa : Int) = some (1, 8) ∧ shAt sh (ks : Int) = some (2, 64) ∧ h j 0 = 1 ∧ h j 1 = (b : Int) ∧ h j 2 = (fa : Int) ∧ h j 3 = (ks : Int) ∧ Bd sh h (b : Int) (c : Int) := by
  rcases J with ⟨rfl, rfl, rfl, rfl, rfl⟩ | ⟨rfl, rfl, rfl, rfl, rfl⟩
  · exact ⟨fs_47 G, fs_48 G, fs_49 G, ff_47_0 G, ff_47_1 G, ff_47_2 G, ff_47_3 G, fs_9 G, ff_9_0 G, fs_10 G⟩
  · exact ⟨fs_80 G, fs_81 G, fs_82 G, ff_80_0 G, ff_80_1 G, ff_80_2 G, ff_80_3 G, fs_77 G, ff_77_0 G, fs_78 G⟩
theorem JQ.ne {j b c fa ks : Nat} (J : JQ j b c fa ks) : 10 < fa ∧ 10 < ks ∧ fa < 85 ∧ ks < 85 ∧ fa ≠ ks ∧ j ≠ fa ∧ j ≠ ks ∧ b ≠ fa ∧ b ≠ ks ∧ c ≠ fa ∧ c ≠ ks := by
  unfold JQ at J; omega
theorem JQ.fix {sh : Shp} {h h2 : Sto} {j b c fa ks : Nat} (J : JQ j b c fa ks) (G : Fix sh h) (hh : ∀ q, q ≠ fa → q ≠ ks → h2 q = h q) : Fix sh h2 := by
  rcases J with ⟨rfl, rfl, rfl, rfl, rfl⟩ | ⟨rfl, rfl, rfl, rfl, rfl⟩
  · refine G.of (fun q hq => ?_)
    have : q.1 ≠ 48 ∧ q.1 ≠ 49 := (by decide +kernel : ∀ q ∈ fld0, q.1 ≠ 48 ∧ q.1 ≠ 49) q hq
    rw [hh _ this.1 this.2]
  · refine G.of (fun q hq => ?_)
    have : q.1 ≠ 81 ∧ q.1 ≠ 82 := (by decide +kernel : ∀ q ∈ fld0, q.1 ≠ 81 ∧ q.1 ≠ 82) q hq
    rw [hh _ this.1 this.2]
theorem tlF_congr (op ar : Nat → Int) {f g : Nat → Int} (N F : Nat) (hfg : ∀ k, k < F → f k = g k) (hn : ∀ i, i < N → 0 ≤ ar i) : ∀ (left step : Nat) (stk : List Int), tlF op ar f N F left step stk = tlF op ar g N F left step stk := by
  intro left
  induction left with
  | zero => intro step stk; rfl
  | succ left ih =>
    intro step stk
    simp only [tlF]
    split
    · rfl
    · rename_i hs
      have := hn step (Decidable.not_not.mp hs)
      simp only [ih]
      by_cases h1 : (F : Int) ≤ ar step
      · simp only [h1, or_true, if_true]
      · rw [hfg (ar step).toNat (by omega)]
/-- what telling gives lies in an int's range -/
theorem tlF_bd {op ar f : Nat → Int} {N F : Nat} (ha : ∀ i, i < N → 0 ≤ ar i ∧ ar i < 2147483648) (hf : ∀ i, i < F → -2147483648 ≤ f i ∧ f i < 2147483648) : ∀ (left step : Nat) (stk : List Int), (∀ v ∈ stk, -2147483648 ≤ v ∧ v < 2147483648) → ∀ v, tlF op ar f N F left step stk = some v → -2147483648 ≤ v ∧ v < 2147483648 := by
  have hE : ∀ (stk : List Int), (∀ v ∈ stk, -2147483648 ≤ v ∧ v < 2147483648) → ∀ v, tlEnd stk = some v → -2147483648 ≤ v ∧ v < 2147483648 := by
    intro stk hs v hv
    cases stk with
    | nil => cases hv
    | cons a r =>
      cases r with
      | nil => cases hv; exact hs _ (by simp)
      | cons b r => cases hv
  intro left
  induction left with
  | zero => intro step stk hs v hv; exact hE stk hs v hv
  | succ left ih =>
    intro step stk hs v hv
    simp only [tlF] at hv
    split at hv
    · exact hE stk hs v hv
    · rename_i hsN
      have hsN : step < N := Decidable.not_not.mp hsN
      split at hv
      · exact hE stk hs v hv
      · split at hv
        · split at hv
          · cases hv
          · refine ih _ _ ?_ v hv
            intro u hu
            rcases List.mem_cons.mp hu with rfl | hm
            · have := ha step hsN; omega
            · exact hs u hm
        · split at hv
          · split at hv
            · cases hv
            · rename_i hx
              refine ih _ _ ?_ v hv
              intro u hu
              rcases List.mem_cons.mp hu with rfl | hm
              · have := ha step hsN
                exact hf _ (by omega)
              · exact hs u hm
          · split at hv
            · cases stk with
              | nil => cases hv
              | cons a r =>
                have hr : ∀ u ∈ r, -2147483648 ≤ u ∧ u < 2147483648 := fun u hu => hs u (List.mem_cons_of_mem _ hu)
                simp only at hv
                split at hv
                · refine ih _ _ ?_ v hv
                  intro u hu
                  rcases List.mem_cons.mp hu with rfl | hm
                  · split <;> omega
                  · exact hr u hm
                · split at hv
                  · split at hv
                    · exact ih _ _ hs v hv
                    · exact ih _ _ hr v hv
                  · split at hv
                    · exact ih _ _ hr v hv
                    · exact ih _ _ hs v hv
            · cases stk with
              | nil => cases hv
              | cons a r1 =>
                cases r1 with
                | nil => cases hv
                | cons b r =>
                  simp only at hv
                  split at hv
                  · cases hv
                  · split at hv
                    · cases hv
                    · refine ih _ _ ?_ v hv
                      intro u hu
                      rcases List.mem_cons.mp hu with rfl | hm
                      · omega
                      · exact hs u (List.mem_cons_of_mem _ (List.mem_cons_of_mem _ hm))
section TELL2
variable {sc : Nat × (Nat → Int)} {d : Nat} {sh : Shp} {sl : Nat} {h : Sto} {Q : Pst}
/-- telling, at a read TEXT -/
theorem sp_tell {p fa ks F a N : Nat} (hS : ScrC sh h p) (hF : shAt sh (fa : Int) = some (1, F)) (hF4 : F ≤ 400) (hK : shAt sh (ks : Int) = some (2, 64)) (hne : p ≠ ks ∧ h p 8 ≠ (ks : Int) ∧ h p 9 ≠ (ks : Int) ∧ fa ≠ ks) (ha : a < 400) (hN : h p 1 = (N : Int)) (hf : ∀ i, i < F → -2147483648 ≤ h fa i ∧ h fa i < 2147483648)
    (hq : ∀ h', (∀ q, q ≠ ks → h' q = h q) → Q (1, (tlF (h (h p 8).toNat) (h (h p 9).toNat) (h fa) N F N a []).getD (-9223372036854775808)) sh sl h') : WM sc d 30 [(2, (p : Int)), (0, (a : Int)), (2, (fa : Int)), (2, (ks : Int))] sh sl h Q := by
  obtain ⟨h1, C, N', Nc, No, pk, px, pf, ps, pt, pw, po, pa, g1, g2, g3, g4, g5, g6, g7, g8, g9, g10, g11, g12, ⟨g13, g14⟩, ⟨g15, g16⟩, g17, g18⟩ := hS
  have e : N' = N := by rw [g4] at hN; omega
  subst e
  rw [g13, g15, Int.toNat_natCast, Int.toNat_natCast] at hq
  simp only [E_30, R_30_0, R_30_1, R_30_3, R_30_4, R_30_6, R_30_7, R_30_10, h1, true_and, Int.toNat_natCast, nl2, nl9, nl0, g4]
  exact lp_tell h1 g4 g5 g13 g15 g14 g16 g6 hF hF4 hK hne.1 (fun e => hne.2.1 (by rw [g13, e])) (fun e => hne.2.2.1 (by rw [g15, e])) hne.2.2.2 g17 g18 hf N' a [] h _ _ _ _ _ _ _ _ _ _ _ (by simp) rfl rfl g5 (by omega) trivial (by simp) (by simp) (fun _ _ => rfl) hq
end TELL2
