/-! ===== reading: what both readers find ===== -/
/-- a fault's place, or: where it stands then, how many leaves, which words, what it means -/
abbrev Res : Type := Sum Nat (Nat × Nat × Nat × Ev)
abbrev RdF : Type := Nat → Nat → Nat → Res
def binE (o : Int) (a b : Ev) : Ev := fun f => match a f with
  | none => none
  | some x => match b f with
    | none => none
    | some y => if y = 0 ∧ (o = 8 ∨ o = 9) then none else if 1000000000 < jn o x y ∨ jn o x y < -1000000000 then none else some (jn o x y)
def notE (a : Ev) : Ev := fun f => match a f with
  | none => none
  | some v => some (if v = 0 then 1 else 0)
def andE (a b : Ev) : Ev := fun f => match a f with
  | none => none
  | some v => if v = 0 then some v else b f
def orE (a b : Ev) : Ev := fun f => match a f with
  | none => none
  | some v => if v = 0 then b f else some v
section READ
variable (T : Nat → Int) (n : Nat) (od : Bool)
def wLaw (p : Nat) : Option (Nat × Nat) :=
  if seeT T n p [116, 101, 109, 112, 101, 114] = true then some (0, 0)
  else if seeT T n p [105, 114, 101] = true then some (1, 0)
  else if seeT T n p [114, 101, 97, 108, 109] = true then some (2, 0)
  else if seeT T n p [108, 97, 110, 100] = true then some (3, 0)
  else if seeT T n p [119, 111, 114, 116, 104] = true then some (4, 0)
  else if seeT T n p [103, 108, 117, 101] = true then some (5, 0)
  else if seeT T n p [100, 97, 121] = true then some (6, 0)
  else if seeT T n p [109, 111, 111, 100] = true then some (7, 0)
  else none
def wOrd (p : Nat) : Option (Nat × Nat) :=
  if seeT T n p [100, 97, 121] = true then some (0, 0)
  else if seeT T n p [100, 111, 110, 101] = true then some (1, 0)
  else if seeT T n p [108, 97, 116, 101, 115, 116] = true then some (2, 0)
  else if seeT T n p [102, 114, 101, 101] = true then some (3, 0)
  else if seeT T n p [112, 97, 105, 100] = true then some (4, 3)
  else if seeT T n p [113, 117, 97, 114, 114, 101, 108] = true then some (7, 3)
  else if seeT T n p [115, 112, 111, 116] = true then some (10, 10)
  else none
def wrdR (p : Nat) : Option (Nat × Nat) := if od = true then wOrd T n p else wLaw T n p
def leafR (p lf ws : Nat) : Res :=
  if 50 ≤ lf then .inl (stT T n p)
  else if kdT T n p = 2 ∧ nmT T n p ≤ 1000 then .inr (enT T n p, lf + 1, ws, fun _ => some (nmT T n p))
  else match wrdR T n od p with
    | none => .inl (stT T n p)
    | some (w, 0) => .inr (enT T n p, lf + 1, ws ||| 2 ^ w, fun f => some (f w))
    | some (w, ch + 1) => if kdT T n (enT T n p) = 2 ∧ nmT T n (enT T n p) < ((ch + 1 : Nat) : Int) then .inr (enT T n (enT T n p), lf + 1, ws ||| 2 ^ (w + (nmT T n (enT T n p)).toNat), fun f => some (f (w + (nmT T n (enT T n p)).toNat))) else .inl (stT T n (enT T n p))
/-- what stands in brackets: o opens, c closes -/
def brkR (inner : Option RdF) (c : Int) (p lf ws : Nat) : Res := match inner with
  | none => .inl (stT T n p)
  | some S => match S (enT T n p) lf ws with
    | .inl q => .inl q
    | .inr (p1, lf1, ws1, ev) => if seeT T n p1 [c] = true then .inr (enT T n p1, lf1, ws1, ev) else .inl (stT T n p1)
def partR (inner : Option RdF) : RdF := fun p lf ws => if seeT T n p [91] = true then brkR T n inner 93 p lf ws else leafR T n od p lf ws
def loopR (P : RdF) (opR : Nat → Option (Ev → Ev → Ev)) (bd : Bool) : Nat → Nat → Nat → Nat → Ev → Res
  | 0, p, lf, ws, ev => if bd = true then .inl (stT T n p) else .inr (p, lf, ws, ev)
  | r + 1, p, lf, ws, ev => match opR p with
    | none => .inr (p, lf, ws, ev)
    | some E => match P (enT T n p) lf ws with
      | .inl q => .inl q
      | .inr (p1, lf1, ws1, ev1) => loopR P opR bd r p1 lf1 ws1 (E ev ev1)
def chnR (P : RdF) (opR : Nat → Option (Ev → Ev → Ev)) (bd : Bool) : RdF := fun p lf ws => match P p lf ws with
  | .inl q => .inl q
  | .inr (p1, lf1, ws1, ev1) => loopR T n P opR bd 400 p1 lf1 ws1 ev1
/-- which of these signs it is: the number that the class calls the operation by -/
def mulN (p : Nat) : Option Int := if seeT T n p [42] = true then some 7 else if seeT T n p [47] = true then some 8 else if seeT T n p [37] = true then some 9 else none
def addN (p : Nat) : Option Int := if seeT T n p [43] = true then some 5 else if seeT T n p [45] = true then some 6 else none
def cmpN (p : Nat) : Option Int := if seeT T n p [60] = true then some 10 else if seeT T n p [62] = true then some 11 else if seeT T n p [61] = true then some 12 else none
def mulO (p : Nat) : Option (Ev → Ev → Ev) := (mulN T n p).map binE
def addO (p : Nat) : Option (Ev → Ev → Ev) := (addN T n p).map binE
def andO (p : Nat) : Option (Ev → Ev → Ev) := if seeT T n p [97, 110, 100] = true then some andE else none
def orO (p : Nat) : Option (Ev → Ev → Ev) := if seeT T n p [111, 114] = true then some orE else none
def sumK : Nat → RdF
  | 0 => chnR T n (chnR T n (partR T n od none) (mulO T n) true) (addO T n) true
  | k + 1 => chnR T n (chnR T n (partR T n od (some (sumK k))) (mulO T n) true) (addO T n) true
def cmpR (S : RdF) : RdF := fun p lf ws => match S p lf ws with
  | .inl q => .inl q
  | .inr (p1, lf1, ws1, e1) => match cmpN T n p1 with
    | none => .inl (stT T n p1)
    | some o => match S (enT T n p1) lf1 ws1 with
      | .inl q => .inl q
      | .inr (p2, lf2, ws2, e2) => .inr (p2, lf2, ws2, binE o e1 e2)
def notR : Nat → Nat → Bool → Nat × Bool
  | 0, p, b => (p, b)
  | r + 1, p, b => if seeT T n p [110, 111, 116] = true then notR r (enT T n p) (!b) else (p, b)
def atmR (inner : Option RdF) (C : RdF) : RdF := fun p lf ws => if seeT T n p [40] = true then brkR T n inner 41 p lf ws else C p lf ws
def plnR (inner : Option RdF) (C : RdF) : RdF := fun p lf ws => match atmR T n inner C (notR T n 400 p false).1 lf ws with
  | .inl q => .inl q
  | .inr (p1, lf1, ws1, ev) => .inr (p1, lf1, ws1, if (notR T n 400 p false).2 = true then notE ev else ev)
def anyK : Nat → RdF
  | 0 => chnR T n (chnR T n (plnR T n none (cmpR T n (sumK T n od 0))) (andO T n) false) (orO T n) false
  | k + 1 => chnR T n (chnR T n (plnR T n (some (anyK k)) (cmpR T n (sumK T n od (k + 1)))) (andO T n) false) (orO T n) false
end READ
/-! ===== what is read is well ===== -/
def EvD (ev : Ev) (ws : Nat) : Prop := ∀ f g : Nat → Int, (∀ w, ws.testBit w = true → f w = g w) → ev f = ev g
theorem EvD.mono {ev : Ev} {a b : Nat} (H : EvD ev a) (h : ∀ w, a.testBit w = true → b.testBit w = true) : EvD ev b := fun f g e => H f g (fun w hw => e w (h w hw))
/-- tst: it is a TEST -/
def RGood (n : Nat) (tst : Bool) (R : RdF) : Prop := ∀ p lf ws p1 lf1 ws1 ev, p ≤ n → lf ≤ 50 → ws < 8388608 → R p lf ws = .inr (p1, lf1, ws1, ev) → (p < p1 ∧ p1 ≤ n) ∧ (lf < lf1 ∧ lf1 ≤ 50) ∧ ws1 < 8388608 ∧ (∀ w, ws.testBit w = true → ws1.testBit w = true) ∧ EvD ev ws1 ∧ EvOK ev ∧ (tst = true → EvB ev)
theorem bin_D {o : Int} {a b : Ev} {ws : Nat} (ha : EvD a ws) (hb : EvD b ws) : EvD (binE o a b) ws := fun f g e => by
  unfold binE; rw [ha f g e, hb f g e]
theorem and_D {a b : Ev} {ws : Nat} (ha : EvD a ws) (hb : EvD b ws) : EvD (andE a b) ws := fun f g e => by
  unfold andE; rw [ha f g e, hb f g e]
theorem or_D {a b : Ev} {ws : Nat} (ha : EvD a ws) (hb : EvD b ws) : EvD (orE a b) ws := fun f g e => by
  unfold orE; rw [ha f g e, hb f g e]
theorem not_D {a : Ev} {ws : Nat} (ha : EvD a ws) : EvD (notE a) ws := fun f g e => by
  unfold notE; rw [ha f g e]
theorem bin_ok {o : Int} {a b : Ev} : EvOK (binE o a b) := fun f _ v h => by
  unfold binE at h
  split at h
  · cases h
  · split at h
    · cases h
    · split at h
      · cases h
      · split at h
        · cases h
        · cases h; exact ⟨by omega, fun _ => by omega⟩
theorem bin_b {o : Int} {a b : Ev} (ho : 10 ≤ o) : EvB (binE o a b) := fun f _ v h => by
  unfold binE at h
  split at h
  · cases h
  · split at h
    · cases h
    · split at h
      · cases h
      · split at h
        · cases h
        · cases h
          unfold jn
          rw [if_neg (by omega), if_neg (by omega), if_neg (by omega), if_neg (by omega), if_neg (by omega)]
          split
          · split <;> omega
          · split
            · split <;> omega
            · split <;> omega
theorem not_b {a : Ev} : EvB (notE a) := fun f _ v h => by
  unfold notE at h
  split at h
  · cases h
  · cases h; split <;> omega
theorem and_b {a b : Ev} (ha : EvB a) (hb : EvB b) : EvB (andE a b) := fun f hf v h => by
  unfold andE at h
  split at h
  · cases h
  · rename_i x hx
    split at h
    · cases h; exact ha f hf _ hx
    · exact hb f hf v h
theorem or_b {a b : Ev} (ha : EvB a) (hb : EvB b) : EvB (orE a b) := fun f hf v h => by
  unfold orE at h
  split at h
  · cases h
  · rename_i x hx
    split at h
    · exact hb f hf v h
    · cases h; exact ha f hf _ hx
theorem EvB.ok {a : Ev} (h : EvB a) : EvOK a := fun f hf v e => by have := h f hf v e; exact ⟨by omega, fun _ => by omega⟩
section GOOD
variable {T : Nat → Int} {n : Nat} {od : Bool}
theorem see_ne {p : Nat} {w : List Int} (hp : p ≤ n) (hw : 1 ≤ w.length) (h : seeT T n p w = true) : p < enT T n p ∧ enT T n p ≤ n ∧ stT T n p < n := by
  have sb := stT_b (T := T) hp
  have eb := enT_b (T := T) hp
  unfold seeT at h
  rw [Bool.and_eq_true, decide_eq_true_eq] at h
  omega
theorem kd_ne {p : Nat} (hp : p ≤ n) (h : kdT T n p ≠ 0) : p < enT T n p ∧ enT T n p ≤ n ∧ stT T n p < n := by
  have sb := stT_b (T := T) hp
  have eb := enT_b (T := T) hp
  have kb := kdT_b (T := T) (n := n) (p := p)
  omega
theorem nmT_b {p : Nat} (hp : p ≤ n) : 0 ≤ nmT T n p ∧ nmT T n p ≤ 1001 := by
  unfold nmT
  split
  · rename_i k2
    refine nmF_b _ (fun j hj => ?_)
    have := enT_in (T := T) hp (show stT T n p ≤ stT T n p + j by omega) (show stT T n p + j < enT T n p by omega)
    rw [k2] at this; exact ckd2.mp this
  · omega
theorem wrdR_b {p w ch : Nat} (hp : p ≤ n) (h : wrdR T n od p = some (w, ch)) : (p < enT T n p ∧ enT T n p ≤ n) ∧ w + ch ≤ 20 ∧ w < 23 := by
  have key : ∃ l : List Int, 1 ≤ l.length ∧ seeT T n p l = true ∧ w + ch ≤ 20 ∧ w < 23 := by
    unfold wrdR wOrd wLaw at h
    repeat' split at h
    all_goals first
      | (cases h; done)
      | (cases h; refine ⟨_, ?_, by assumption, by omega, by omega⟩; simp)
  obtain ⟨l, h1, h2, h3⟩ := key
  have := see_ne hp h1 h2
  exact ⟨⟨this.1, this.2.1⟩, h3⟩
theorem orw_lt {ws w : Nat} (h : ws < 8388608) (hw : w < 23) : ws ||| 2 ^ w < 8388608 := Nat.or_lt_two_pow (n := 23) h (Nat.pow_lt_pow_right (by omega) hw)
theorem leaf_good {p lf ws p1 lf1 ws1 : Nat} {ev : Ev} (hp : p ≤ n) (hlf : lf ≤ 50) (hws : ws < 8388608) (h : leafR T n od p lf ws = .inr (p1, lf1, ws1, ev)) : (p < p1 ∧ p1 ≤ n) ∧ (lf1 = lf + 1 ∧ lf1 ≤ 50) ∧ ws1 < 8388608 ∧ (∀ w, ws.testBit w = true → ws1.testBit w = true) ∧ EvD ev ws1 ∧ EvOK ev := by
  have nb := nmT_b (T := T) hp
  unfold leafR at h
  split at h
  · cases h
  · rename_i c50
    split at h
    · rename_i c
      cases h
      have := kd_ne (T := T) hp (by omega)
      exact ⟨⟨this.1, this.2.1⟩, ⟨rfl, by omega⟩, hws, fun w hw => hw, fun f g _ => rfl, fun f _ v hv => by cases hv; exact ⟨by omega, fun _ => by omega⟩⟩
    · split at h
      · cases h
      · rename_i w hw
        cases h
        have b := wrdR_b hp hw
        refine ⟨b.1, ⟨rfl, by omega⟩, orw_lt hws b.2.2, fun w hw => by rw [Nat.testBit_or, hw, Bool.true_or], fun f g e => ?_, fun f hf v hv => by cases hv; exact ⟨hf _, fun hn => hn _⟩⟩
        show some _ = some _
        rw [e w (by rw [Nat.testBit_or, Nat.testBit_two_pow]; simp)]
      · rename_i w ch hw
        have b := wrdR_b hp hw
        split at h
        · rename_i c
          cases h
          have := kd_ne (T := T) b.1.2 (by omega)
          have nb2 := nmT_b (T := T) b.1.2
          refine ⟨⟨by omega, this.2.1⟩, ⟨rfl, by omega⟩, orw_lt hws (by omega), fun w hw => by rw [Nat.testBit_or, hw, Bool.true_or], fun f g e => ?_, fun f hf v hv => by cases hv; exact ⟨hf _, fun hn => hn _⟩⟩
          show some _ = some _
          rw [e _ (by rw [Nat.testBit_or, Nat.testBit_two_pow]; simp)]
        · cases h
theorem brk_good {tst : Bool} {inner : Option RdF} {c : Int} {p lf ws p1 lf1 ws1 : Nat} {ev : Ev} {w : List Int} (hi : ∀ S, inner = some S → RGood n tst S) (hp : p ≤ n) (hlf : lf ≤ 50) (hws : ws < 8388608) (hw : 1 ≤ w.length) (hs : seeT T n p w = true) (h : brkR T n inner c p lf ws = .inr (p1, lf1, ws1, ev)) : (p < p1 ∧ p1 ≤ n) ∧ (lf < lf1 ∧ lf1 ≤ 50) ∧ ws1 < 8388608 ∧ (∀ w, ws.testBit w = true → ws1.testBit w = true) ∧ EvD ev ws1 ∧ EvOK ev ∧ (tst = true → EvB ev) := by
  have s0 := see_ne hp hw hs
  unfold brkR at h
  split at h
  · cases h
  · rename_i S
    split at h
    · cases h
    · rename_i q1 l1 x1 e1 hS
      split at h
      · rename_i hc
        cases h
        have g := hi S rfl _ _ _ _ _ _ _ s0.2.1 hlf hws hS
        have s1 := see_ne g.1.2 (by show 1 ≤ 1; omega) hc
        exact ⟨⟨by omega, s1.2.1⟩, g.2⟩
      · cases h
theorem part_good {inner : Option RdF} (hi : ∀ S, inner = some S → RGood n false S) : RGood n false (partR T n od inner) := by
  intro p lf ws p1 lf1 ws1 ev hp hlf hws h
  unfold partR at h
  split at h
  · rename_i hs
    exact brk_good hi hp hlf hws (by show 1 ≤ 1; omega) hs h
  · have g := leaf_good hp hlf hws h
    exact ⟨g.1, ⟨by omega, g.2.1.2⟩, g.2.2.1, g.2.2.2.1, g.2.2.2.2.1, g.2.2.2.2.2, fun q => by cases q⟩
/-- what joins two: a token, and a sense -/
def OGood (T : Nat → Int) (n : Nat) (tst : Bool) (opR : Nat → Option (Ev → Ev → Ev)) : Prop := ∀ p E, p ≤ n → opR p = some E → (p < enT T n p ∧ enT T n p ≤ n) ∧ (∀ a b ws, EvD a ws → EvD b ws → EvD (E a b) ws) ∧ (∀ a b, EvOK a → EvOK b → EvOK (E a b)) ∧ (tst = true → ∀ a b, EvB a → EvB b → EvB (E a b))
theorem loop_good {tst bd : Bool} {P : RdF} {opR : Nat → Option (Ev → Ev → Ev)} (hP : RGood n tst P) (hO : OGood T n tst opR) : ∀ r p lf ws ev p1 lf1 ws1 ev1, p ≤ n → lf ≤ 50 → ws < 8388608 → EvD ev ws → EvOK ev → (tst = true → EvB ev) → loopR T n P opR bd r p lf ws ev = .inr (p1, lf1, ws1, ev1) → (p ≤ p1 ∧ p1 ≤ n) ∧ (lf ≤ lf1 ∧ lf1 ≤ 50) ∧ ws1 < 8388608 ∧ (∀ w, ws.testBit w = true → ws1.testBit w = true) ∧ EvD ev1 ws1 ∧ EvOK ev1 ∧ (tst = true → EvB ev1) := by
  intro r
  induction r with
  | zero =>
    intro p lf ws ev p1 lf1 ws1 ev1 hp hlf hws hD hO2 hB h
    unfold loopR at h
    split at h
    · cases h
    · cases h; exact ⟨⟨Nat.le_refl _, hp⟩, ⟨Nat.le_refl _, hlf⟩, hws, fun w hw => hw, hD, hO2, hB⟩
  | succ r ih =>
    intro p lf ws ev p1 lf1 ws1 ev1 hp hlf hws hD hO2 hB h
    unfold loopR at h
    split at h
    · cases h; exact ⟨⟨Nat.le_refl _, hp⟩, ⟨Nat.le_refl _, hlf⟩, hws, fun w hw => hw, hD, hO2, hB⟩
    · rename_i E hE
      have o := hO p E hp hE
      split at h
      · cases h
      · rename_i q1 l1 x1 e1 hP1
        have g := hP _ _ _ _ _ _ _ o.1.2 hlf hws hP1
        have i := ih q1 l1 x1 (E ev e1) p1 lf1 ws1 ev1 g.1.2 g.2.1.2 g.2.2.1 (o.2.1 _ _ _ (hD.mono g.2.2.2.1) g.2.2.2.2.1) (o.2.2.1 _ _ hO2 g.2.2.2.2.2.1) (fun q => o.2.2.2 q _ _ (hB q) (g.2.2.2.2.2.2 q)) h
        exact ⟨⟨by omega, i.1.2⟩, ⟨by omega, i.2.1.2⟩, i.2.2.1, fun w hw => i.2.2.2.1 w (g.2.2.2.1 w hw), i.2.2.2.2⟩
theorem chn_good {tst bd : Bool} {P : RdF} {opR : Nat → Option (Ev → Ev → Ev)} (hP : RGood n tst P) (hO : OGood T n tst opR) : RGood n tst (chnR T n P opR bd) := by
  intro p lf ws p1 lf1 ws1 ev hp hlf hws h
  unfold chnR at h
  split at h
  · cases h
  · rename_i q1 l1 x1 e1 hP1
    have g := hP _ _ _ _ _ _ _ hp hlf hws hP1
    have i := loop_good hP hO 400 q1 l1 x1 e1 p1 lf1 ws1 ev g.1.2 g.2.1.2 g.2.2.1 g.2.2.2.2.1 g.2.2.2.2.2.1 g.2.2.2.2.2.2 h
    exact ⟨⟨by omega, i.1.2⟩, ⟨by omega, i.2.1.2⟩, i.2.2.1, fun w hw => i.2.2.2.1 w (g.2.2.2.1 w hw), i.2.2.2.2⟩
theorem see1 {p : Nat} {c : Int} (hp : p ≤ n) (h : seeT T n p [c] = true) : p < enT T n p ∧ enT T n p ≤ n := by
  have := see_ne hp (by show 1 ≤ 1; omega) h
  exact ⟨this.1, this.2.1⟩
theorem mulN_s {p : Nat} {o : Int} (hp : p ≤ n) (h : mulN T n p = some o) : (p < enT T n p ∧ enT T n p ≤ n) ∧ 7 ≤ o ∧ o ≤ 9 := by
  unfold mulN at h
  repeat' split at h
  all_goals first
    | (cases h; done)
    | (cases h; exact ⟨see1 hp (by assumption), by omega, by omega⟩)
theorem addN_s {p : Nat} {o : Int} (hp : p ≤ n) (h : addN T n p = some o) : (p < enT T n p ∧ enT T n p ≤ n) ∧ 5 ≤ o ∧ o ≤ 6 := by
  unfold addN at h
  repeat' split at h
  all_goals first
    | (cases h; done)
    | (cases h; exact ⟨see1 hp (by assumption), by omega, by omega⟩)
theorem cmpN_s {p : Nat} {o : Int} (hp : p ≤ n) (h : cmpN T n p = some o) : (p < enT T n p ∧ enT T n p ≤ n) ∧ 10 ≤ o ∧ o ≤ 12 := by
  unfold cmpN at h
  repeat' split at h
  all_goals first
    | (cases h; done)
    | (cases h; exact ⟨see1 hp (by assumption), by omega, by omega⟩)
theorem mulO_good : OGood T n false (mulO T n) := by
  intro p E hp h
  unfold mulO at h
  cases e : mulN T n p with
  | none => rw [e] at h; cases h
  | some o =>
    rw [e] at h; cases h
    exact ⟨(mulN_s hp e).1, fun a b ws ha hb => bin_D ha hb, fun a b _ _ => bin_ok, fun q => by cases q⟩
theorem addO_good : OGood T n false (addO T n) := by
  intro p E hp h
  unfold addO at h
  cases e : addN T n p with
  | none => rw [e] at h; cases h
  | some o =>
    rw [e] at h; cases h
    exact ⟨(addN_s hp e).1, fun a b ws ha hb => bin_D ha hb, fun a b _ _ => bin_ok, fun q => by cases q⟩
theorem and_ok {a b : Ev} (ha : EvOK a) (hb : EvOK b) : EvOK (andE a b) := fun f hf v h => by
  unfold andE at h
  split at h
  · cases h
  · rename_i x hx
    split at h
    · cases h; exact ha f hf _ hx
    · exact hb f hf v h
theorem or_ok {a b : Ev} (ha : EvOK a) (hb : EvOK b) : EvOK (orE a b) := fun f hf v h => by
  unfold orE at h
  split at h
  · cases h
  · rename_i x hx
    split at h
    · exact hb f hf v h
    · cases h; exact ha f hf _ hx
theorem andO_good : OGood T n true (andO T n) := by
  intro p E hp h
  unfold andO at h
  split at h
  · rename_i hs
    cases h
    have := see_ne hp (by show 1 ≤ 3; omega) hs
    exact ⟨⟨this.1, this.2.1⟩, fun a b ws => and_D, fun a b => and_ok, fun _ a b => and_b⟩
  · cases h
theorem orO_good : OGood T n true (orO T n) := by
  intro p E hp h
  unfold orO at h
  split at h
  · rename_i hs
    cases h
    have := see_ne hp (by show 1 ≤ 2; omega) hs
    exact ⟨⟨this.1, this.2.1⟩, fun a b ws => or_D, fun a b => or_ok, fun _ a b => or_b⟩
  · cases h
theorem sum_good : ∀ k, RGood n false (sumK T n od k) := by
  intro k
  induction k with
  | zero => exact chn_good (chn_good (part_good (fun S h => by cases h)) mulO_good) addO_good
  | succ k ih => exact chn_good (chn_good (part_good (fun S h => by cases h; exact ih)) mulO_good) addO_good
theorem cmp_good {S : RdF} (hS : RGood n false S) : RGood n true (cmpR T n S) := by
  intro p lf ws p1 lf1 ws1 ev hp hlf hws h
  unfold cmpR at h
  split at h
  · cases h
  · rename_i q1 l1 x1 e1 h1
    have g := hS _ _ _ _ _ _ _ hp hlf hws h1
    split at h
    · cases h
    · rename_i o ho
      have s := cmpN_s g.1.2 ho
      split at h
      · cases h
      · rename_i q2 l2 x2 e2 h2
        cases h
        have g2 := hS _ _ _ _ _ _ _ s.1.2 g.2.1.2 g.2.2.1 h2
        exact ⟨⟨by omega, g2.1.2⟩, ⟨by omega, g2.2.1.2⟩, g2.2.2.1, fun w hw => g2.2.2.2.1 w (g.2.2.2.1 w hw), bin_D (g.2.2.2.2.1.mono g2.2.2.2.1) g2.2.2.2.2.1, bin_ok, fun _ => bin_b s.2.1⟩
theorem not_pos {b : Bool} : ∀ r p, p ≤ n → p ≤ (notR T n r p b).1 ∧ (notR T n r p b).1 ≤ n := by
  intro r
  induction r generalizing b with
  | zero => intro p hp; exact ⟨Nat.le_refl _, hp⟩
  | succ r ih =>
    intro p hp
    unfold notR
    split
    · rename_i hs
      have := see_ne hp (by show 1 ≤ 3; omega) hs
      have i := ih (b := !b) (enT T n p) this.2.1
      omega
    · exact ⟨Nat.le_refl _, hp⟩
theorem atm_good {inner : Option RdF} {C : RdF} (hi : ∀ S, inner = some S → RGood n true S) (hC : RGood n true C) : RGood n true (atmR T n inner C) := by
  intro p lf ws p1 lf1 ws1 ev hp hlf hws h
  unfold atmR at h
  split at h
  · rename_i hs
    exact brk_good hi hp hlf hws (by show 1 ≤ 1; omega) hs h
  · exact hC _ _ _ _ _ _ _ hp hlf hws h
theorem pln_good {inner : Option RdF} {C : RdF} (hi : ∀ S, inner = some S → RGood n true S) (hC : RGood n true C) : RGood n true (plnR T n inner C) := by
  intro p lf ws p1 lf1 ws1 ev hp hlf hws h
  unfold plnR at h
  have np := not_pos (T := T) (b := false) 400 p hp
  split at h
  · cases h
  · rename_i q1 l1 x1 e1 h1
    have g := atm_good hi hC _ _ _ _ _ _ _ np.2 hlf hws h1
    cases h
    refine ⟨⟨by omega, g.1.2⟩, g.2.1, g.2.2.1, g.2.2.2.1, ?_, ?_, fun _ => ?_⟩
    · split
      · exact not_D g.2.2.2.2.1
      · exact g.2.2.2.2.1
    · split
      · exact not_b.ok
      · exact g.2.2.2.2.2.1
    · split
      · exact not_b
      · exact g.2.2.2.2.2.2 rfl
theorem any_good : ∀ k, RGood n true (anyK T n od k) := by
  intro k
  induction k with
  | zero => exact chn_good (chn_good (pln_good (fun S h => by cases h) (cmp_good (sum_good 0))) andO_good) orO_good
  | succ k ih => exact chn_good (chn_good (pln_good (fun S h => by cases h; exact ih) (cmp_good (sum_good (k + 1)))) andO_good) orO_good
end GOOD
