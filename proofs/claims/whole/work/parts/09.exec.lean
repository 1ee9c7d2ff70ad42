/-! ===== runs: calls, returns, and what the JDK does ===== -/
/-- with the law itself, which nobody calls, at the end -/
def MTL : List ME := MT ++ [(⟨"StampQuarrelsLaw", "law", "([I)Z"⟩, code, 4, some .boolean, 13, 1, 0)]
def insAt (y pc : Nat) : Option (Instr × Nat) := match MTL[y]? with
  | some q => match decode q.2.1 pc with
    | .ok r => some r
    | .error _ => none
  | none => none
def ocOf (y : Nat) : Nat := match MTL[y]? with | some q => q.2.2.2.2.1 | none => 99
def iniOf (y : Nat) : Bool := match MTL[y]? with | some q => decide (q.1.name = "<init>") | none => false
def maxLOf (y : Nat) : Nat := match MTL[y]? with | some q => q.2.2.1 | none => 0
def retOf (y : Nat) : Option FieldType := match MTL[y]? with | some q => q.2.2.2.1 | none => none
def npOf (y : Nat) : Nat := match MTL[y]? with | some q => q.2.2.2.2.2.1 | none => 0
def wgt (S : List V) : Nat := (S.map (fun v => if v.1 = 1 then 2 else 1)).sum
def flatV (A : List V) : List V := A.flatMap (fun v => if v.1 = 1 then [v, (9, 0)] else [v])
def ent (A : List V) (n : Nat) : List V := flatV A ++ List.replicate (n - (flatV A).length) (9, 0)
def pushR (r : V) (S : List V) : List V := if r.1 = 9 then S else r :: S
def txts : List (List Int) := [[115, 116, 105, 99, 107], [112, 101, 101, 108], [99, 97, 110, 99, 101, 108], [112, 97, 115, 115], [91], [93], [100, 97, 121], [100, 111, 110, 101], [108, 97, 116, 101, 115, 116], [102, 114, 101, 101], [112, 97, 105, 100], [113, 117, 97, 114, 114, 101, 108], [115, 112, 111, 116], [116, 101, 109, 112, 101, 114], [105, 114, 101], [114, 101, 97, 108, 109], [108, 97, 110, 100], [119, 111, 114, 116, 104], [103, 108, 117, 101], [109, 111, 111, 100], [42], [47], [37], [43], [45], [111, 110], [116, 105, 109, 101, 115], [113, 117, 97, 114, 114, 101, 108, 115], [100, 114, 105, 101, 115], [99, 111, 117, 110, 116, 115], [98, 97, 114, 115], [105, 102], [110, 111, 116], [40], [41], [60], [62], [61], [97, 110, 100], [111, 114], [59]]
def txAt (z : Int) : Option (List Int) := if z ≤ -10 then txts[(-z - 10).toNat]? else none
/-- calls that are no method of ours: Object's constructor, arraycopy, length, charAt, Math -/
def prim (k o : Nat) (S : List V) (σ : St) : Option (List V × St) := match k with
  | 3 => if o = 1 then (popT 2 S).bind fun a => if 0 ≤ a.1 ∧ wgt a.2 ≤ 8 then some (a.2, σ) else none else none
  | 4 => if o = 2 then (popT 0 S).bind fun n => (popT 0 n.2).bind fun dp => (popT 2 dp.2).bind fun dst => (popT 0 dst.2).bind fun sp => (popT 2 sp.2).bind fun src => (arrAt σ dst.1).bind fun kd => (arrAt σ src.1).bind fun ks =>
      if (kd.1 = 1 ∧ ks.1 = 1) ∧ (0 ≤ w32 sp.1 ∧ 0 ≤ w32 dp.1 ∧ 0 ≤ w32 n.1) ∧ w32 sp.1 + w32 n.1 ≤ ks.2 ∧ w32 dp.1 + w32 n.1 ≤ kd.2 ∧ wgt src.2 ≤ 8 then
        some (src.2, (σ.1, σ.2.1, rowH σ.2.2 dst.1.toNat (va_cpy (σ.2.2 src.1.toNat) (σ.2.2 dst.1.toNat) (w32 sp.1).toNat (w32 dp.1).toNat (w32 n.1).toNat))) else none else none
  | 5 => if o = 0 then (popT 2 S).bind fun a => (txAt a.1).bind fun t => if wgt a.2 ≤ 8 then some ((0, (t.length : Int)) :: a.2, σ) else none else none
  | 6 => if o = 0 then (popT 0 S).bind fun i => (popT 2 i.2).bind fun a => (txAt a.1).bind fun t => if 0 ≤ w32 i.1 ∧ w32 i.1 < t.length ∧ wgt a.2 ≤ 8 then some ((0, t.getD (w32 i.1).toNat 0) :: a.2, σ) else none else none
  | 7 => if o = 2 then (popT 0 S).bind fun b => (popT 0 b.2).bind fun a => if wgt a.2 ≤ 8 then some ((0, if w32 a.1 < w32 b.1 then b.1 else a.1) :: a.2, σ) else none else none
  | 8 => if o = 2 then (popT 0 S).bind fun b => (popT 0 b.2).bind fun a => if wgt a.2 ≤ 8 then some ((0, if w32 b.1 < w32 a.1 then b.1 else a.1) :: a.2, σ) else none else none
  | 9 => if o = 2 then (popT 1 S).bind fun b => (popT 1 b.2).bind fun a => if wgt a.2 ≤ 8 then some ((1, if w64 b.1 < w64 a.1 then a.1 else b.1) :: a.2, σ) else none else none
  | 10 => if o = 2 then (popT 1 S).bind fun b => (popT 1 b.2).bind fun a => if wgt a.2 ≤ 8 then some ((1, if w64 b.1 < w64 a.1 then b.1 else a.1) :: a.2, σ) else none else none
  | _ => none
def cidx (ins : Instr) : Option (Nat × Nat) := match ins with
  | .invokevirtual i => some (0, i)
  | .invokespecial i => some (1, i)
  | .invokestatic i => some (2, i)
  | _ => none
def recOK (k cy : Nat) (A : List V) (σ : St) : Bool := match k with
  | 0 => match A with
    | (2, z) :: _ => decide (arrAt σ z = some (0, ocOf cy))
    | _ => false
  | 1 => match A with
    | (2, z) :: _ => decide (0 ≤ z)
    | _ => false
  | _ => true
def retV (rt : Option FieldType) (ins : Instr) (S : List V) : Option V := match ins, rt, S with
  | .ireturn, some .int, [(0, x)] => some (0, x)
  | .ireturn, some .boolean, [(0, x)] => if x = 0 ∨ x = 1 then some (0, x) else none
  | .lreturn, some .long, [(1, x)] => some (1, x)
  | .areturn, some (.object _), [(2, x)] => some (2, x)
  | .return_, none, [] => some (9, 0)
  | _, _, _ => none
def nargs (k cy : Nat) : Nat := npOf cy + (if k = 2 then 0 else 1)
def callOK (k o cy : Nat) (S : List V) (σ : St) : Bool := decide (k = o) && decide (nargs k cy ≤ S.length) && recOK k cy (S.take (nargs k cy)).reverse σ && decide (wgt (S.drop (nargs k cy)) ≤ 8) && decide ((flatV (S.take (nargs k cy)).reverse).length ≤ maxLOf cy) && decide (cy < MT.length)
def exF (sc : Nat × (Nat → Int)) : Nat → Nat → Nat → Nat → List V → List V → St → Option (V × St)
  | 0, _, _, _, _, _, _ => none
  | n + 1, d, y, pc, L, S, σ => (insAt y pc).bind fun ii => if okLen ii.1 ii.2 = true then
      (match cidx ii.1 with
      | some (o, i) => (mlook (ocOf y) i).bind fun kc => (match d with
        | 0 => none
        | d' + 1 => if kc.1 ≤ 2 then (if callOK kc.1 o kc.2 S σ = true then (exF sc n d' kc.2 0 (ent (S.take (nargs kc.1 kc.2)).reverse (maxLOf kc.2)) [] σ).bind fun q => exF sc n (d' + 1) y (pc + 3) L (pushR q.1 (S.drop (nargs kc.1 kc.2))) q.2 else none)
          else if 5 ≤ kc.1 ∧ kc.1 ≤ 6 ∧ d' < 9 then none else (prim kc.1 o S σ).bind fun q => exF sc n (d' + 1) y (pc + 3) L q.1 q.2)
      | none => match retV (retOf y) ii.1 S with
        | some r => some (r, σ)
        | none => (pst (ocOf y) (iniOf y) sc pc L S σ ii.1).bind fun q => exF sc n d y q.1 q.2.1 q.2.2.1 q.2.2.2) else none
/-! more fuel, more depth -/
theorem exF_mono (sc : Nat × (Nat → Int)) : ∀ (n d y pc : Nat) (L S : List V) (σ : St) (r : V × St), exF sc n d y pc L S σ = some r → ∀ (n' d' : Nat), n ≤ n' → d ≤ d' → exF sc n' d' y pc L S σ = some r := by
  intro n
  induction n with
  | zero => intro d y pc L S σ r h; cases h
  | succ n ih =>
    intro d y pc L S σ r h n' d' hn hd
    obtain ⟨n2, rfl⟩ : ∃ k, n' = k + 1 := ⟨n' - 1, by omega⟩
    have hn2 : n ≤ n2 := by omega
    unfold exF at h ⊢
    obtain ⟨ii, h1, h⟩ := Option.bind_eq_some_iff.mp h
    rw [h1, Option.bind_some]
    split at h
    · rename_i hok
      rw [if_pos hok]
      split at h
      · rename_i o i hci
        obtain ⟨kc, hm, h⟩ := Option.bind_eq_some_iff.mp h
        rw [hm, Option.bind_some]
        cases d with
        | zero => cases h
        | succ d0 =>
          obtain ⟨d2, rfl⟩ : ∃ k, d' = k + 1 := ⟨d' - 1, by omega⟩
          have hd2 : d0 ≤ d2 := by omega
          dsimp only at h ⊢
          split at h
          · rename_i hk
            rw [if_pos hk]
            split at h
            · rename_i hc
              rw [if_pos hc]
              obtain ⟨q, hq, h⟩ := Option.bind_eq_some_iff.mp h
              rw [ih _ _ _ _ _ _ _ hq _ _ hn2 hd2, Option.bind_some]
              exact ih _ _ _ _ _ _ _ h _ _ hn2 hd
            · cases h
          · rename_i hk
            rw [if_neg hk]
            split at h
            · cases h
            · rename_i h5
              rw [if_neg (by omega)]
              obtain ⟨q, hq, h⟩ := Option.bind_eq_some_iff.mp h
              rw [hq, Option.bind_some]
              exact ih _ _ _ _ _ _ _ h _ _ hn2 hd
      · rename_i hci
        split at h
        · exact h
        · obtain ⟨q, hq, h⟩ := Option.bind_eq_some_iff.mp h
          rw [hq, Option.bind_some]
          exact ih _ _ _ _ _ _ _ h _ _ hn2 hd
    · cases h
/-! a state only grows -/
def grows (σ σ' : St) : Prop := σ.1.length ≤ σ'.1.length ∧ σ.2.1 ≤ σ'.2.1
