/-! ===== a pure machine over numbers: the program's own bytecode, run on a flat store ===== -/
/-- a value: tag (0 int, 1 long, 2 a reference, 9 none) and number. A reference is a place in the store, -1 null, -2 the script, -(10 + i) the i-th text -/
abbrev V : Type := Nat × Int
/-- a state: the cells' shapes ((0, class) an object; (1 int, 2 long, 3 byte, 4 boolean, 5 Script, 6 State, length) an array), slots used, contents -/
abbrev St : Type := List (Nat × Nat) × Nat × (Nat → Nat → Int)
def setH (h : Nat → Nat → Int) (p k : Nat) (v : Int) : Nat → Nat → Int := fun q j => if q = p then (if j = k then v else h q j) else h q j
def rowH (h : Nat → Nat → Int) (p : Nat) (f : Nat → Int) : Nat → Nat → Int := fun q j => if q = p then f j else h q j
def popT (t : Nat) (S : List V) : Option (Int × List V) := match S with
  | (u, x) :: R => if u = t then some (x, R) else none
  | [] => none
def ldv (t i : Nat) (L : List V) : Option Int := match L[i]? with
  | some (u, x) => if u = t then some x else none
  | none => none
def st1 (L : List V) (i : Nat) (v : V) : List V := match i with
  | 0 => L.set 0 v
  | j + 1 => (if (L.getD j (9, 0)).1 = 1 then L.set j (9, 0) else L).set (j + 1) v
def st2 (L : List V) (i : Nat) (v : V) : List V := (st1 L i v).set (i + 1) (9, 0)
def jmp (pc : Nat) (off : Int) : Option Nat := if 0 ≤ (pc : Int) + off then some ((pc : Int) + off).toNat else none
def arrAt (σ : St) (z : Int) : Option (Nat × Nat) := if 0 ≤ z then σ.1[z.toNat]? else none
def inA (i : Int) (n : Nat) : Prop := 0 ≤ w32 i ∧ w32 i < n
def tcond (c : Jvm.ClassFile.Cond) (a b : Int) : Bool := match c with
  | .eq => decide (a = b)
  | .ne => decide (a ≠ b)
  | .lt => decide (a < b)
  | .ge => decide (b ≤ a)
  | .gt => decide (b < a)
  | .le => decide (a ≤ b)
def klook (oc i : Nat) : Option (Nat × Int) := ((klk oc).find? (fun q => q.1 == i)).map (fun q => (q.2.1, q.2.2.1))
def flook (oc i : Nat) : Option (Nat × Nat) := ((flk oc).find? (fun q => q.1 == i)).map (fun q => (q.2.1, q.2.2.1))
def nlook (oc i : Nat) : Option Nat := ((nlk oc).find? (fun q => q.1 == i)).map (fun q => q.2.1)
def mlook (oc i : Nat) : Option (Nat × Nat) := ((mlk oc).find? (fun q => q.1 == i)).map (fun q => (q.2.1, q.2.2.1))
/-- a field's tag as it lies on the stack, and whether it holds 0, 1 alone -/
def ftag (ci k : Nat) : Nat := (FTG.getD ci []).getD k 9
def vtag (t : Nat) : Nat := if t = 10 then 0 else t
def ffin (ci k : Nat) : Bool := match cls[ci]? with | some r => (r.2.1 k).2.2.2 | none => true
def fnum (ci : Nat) : Nat := match cls[ci]? with | some r => r.2.2 | none => 0
def akind (t : ArrayType) : Option Nat := match t with
  | .int => some 1
  | .long => some 2
  | .byte => some 3
  | .boolean => some 4
  | _ => none
/-- arrays of references: the kinds 5 and 6, of which class -/
def qkind (ci : Nat) : Option Nat := if cN ci = "StampQuarrels$Script" then some 5 else if cN ci = "StampQuarrels$State" then some 6 else none
def push1 (σ : St) (sh : Nat × Nat) (n : Nat) (f : Nat → Int) : St := (σ.1 ++ [sh], σ.2.1 + n, rowH σ.2.2 σ.1.length f)
abbrev Nx : Type := Nat × List V × List V × St
/-- one instruction that is no call and no return -/
def pst (oc : Nat) (ini : Bool) (sc : Nat × (Nat → Int)) (pc : Nat) (L S : List V) (σ : St) (ins : Instr) : Option Nx := match ins with
  | .aconst_null => some (pc + 1, L, (2, -1) :: S, σ)
  | .iconst i => some (pc + 1, L, (0, i) :: S, σ)
  | .bipush n => if b8 n = n then some (pc + 2, L, (0, n) :: S, σ) else none
  | .sipush n => if n.bmod 65536 = n then some (pc + 3, L, (0, n) :: S, σ) else none
  | .lconst n => some (pc + 1, L, (1, ((n : Nat) : Int)) :: S, σ)
  | .ldc i => (klook oc i).bind fun q => if q.1 = 0 then some (pc + 2, L, (0, q.2) :: S, σ) else if q.1 = 2 then some (pc + 2, L, (2, -(10 + q.2)) :: S, σ) else none
  | .ldc_w i => (klook oc i).bind fun q => if q.1 = 0 then some (pc + 3, L, (0, q.2) :: S, σ) else none
  | .ldc2_w i => (klook oc i).bind fun q => if q.1 = 1 then some (pc + 3, L, (1, q.2) :: S, σ) else none
  | .iload i => (ldv 0 i L).bind fun x => some (pc + 2, L, (0, x) :: S, σ)
  | .iload_n i => (ldv 0 i L).bind fun x => some (pc + 1, L, (0, x) :: S, σ)
  | .lload i => (ldv 1 i L).bind fun x => some (pc + 2, L, (1, x) :: S, σ)
  | .lload_n i => (ldv 1 i L).bind fun x => some (pc + 1, L, (1, x) :: S, σ)
  | .aload i => (ldv 2 i L).bind fun x => some (pc + 2, L, (2, x) :: S, σ)
  | .aload_n i => (ldv 2 i L).bind fun x => some (pc + 1, L, (2, x) :: S, σ)
  | .istore i => (popT 0 S).bind fun q => if i < L.length then some (pc + 2, st1 L i (0, q.1), q.2, σ) else none
  | .istore_n i => (popT 0 S).bind fun q => if (i : Nat) < L.length then some (pc + 1, st1 L i (0, q.1), q.2, σ) else none
  | .lstore i => (popT 1 S).bind fun q => if i + 1 < L.length then some (pc + 2, st2 L i (1, q.1), q.2, σ) else none
  | .lstore_n i => (popT 1 S).bind fun q => if (i : Nat) + 1 < L.length then some (pc + 1, st2 L i (1, q.1), q.2, σ) else none
  | .astore i => (popT 2 S).bind fun q => if i < L.length then some (pc + 2, st1 L i (2, q.1), q.2, σ) else none
  | .astore_n i => (popT 2 S).bind fun q => if (i : Nat) < L.length then some (pc + 1, st1 L i (2, q.1), q.2, σ) else none
  | .iinc i n => (ldv 0 i L).bind fun x => some (pc + 3, st1 L i (0, x + n), S, σ)
  | .iadd => (popT 0 S).bind fun b => (popT 0 b.2).bind fun a => some (pc + 1, L, (0, a.1 + b.1) :: a.2, σ)
  | .isub => (popT 0 S).bind fun b => (popT 0 b.2).bind fun a => some (pc + 1, L, (0, a.1 - b.1) :: a.2, σ)
  | .imul => (popT 0 S).bind fun b => (popT 0 b.2).bind fun a => some (pc + 1, L, (0, a.1 * b.1) :: a.2, σ)
  | .idiv => (popT 0 S).bind fun b => (popT 0 b.2).bind fun a => if w32 b.1 = 0 then none else some (pc + 1, L, (0, (w32 a.1).tdiv (w32 b.1)) :: a.2, σ)
  | .irem => (popT 0 S).bind fun b => (popT 0 b.2).bind fun a => if w32 b.1 = 0 then none else some (pc + 1, L, (0, (w32 a.1).tmod (w32 b.1)) :: a.2, σ)
  | .ineg => (popT 0 S).bind fun a => some (pc + 1, L, (0, -a.1) :: a.2, σ)
  | .iand => (popT 0 S).bind fun b => (popT 0 b.2).bind fun a => some (pc + 1, L, (0, iand a.1 b.1) :: a.2, σ)
  | .ior => (popT 0 S).bind fun b => (popT 0 b.2).bind fun a => some (pc + 1, L, (0, ior a.1 b.1) :: a.2, σ)
  | .ixor => (popT 0 S).bind fun b => (popT 0 b.2).bind fun a => some (pc + 1, L, (0, ixor a.1 b.1) :: a.2, σ)
  | .ishl => (popT 0 S).bind fun b => (popT 0 b.2).bind fun a => some (pc + 1, L, (0, ishl a.1 b.1) :: a.2, σ)
  | .ishr => (popT 0 S).bind fun b => (popT 0 b.2).bind fun a => some (pc + 1, L, (0, ishr a.1 b.1) :: a.2, σ)
  | .iushr => (popT 0 S).bind fun b => (popT 0 b.2).bind fun a => some (pc + 1, L, (0, iushr a.1 b.1) :: a.2, σ)
  | .ladd => (popT 1 S).bind fun b => (popT 1 b.2).bind fun a => some (pc + 1, L, (1, a.1 + b.1) :: a.2, σ)
  | .lsub => (popT 1 S).bind fun b => (popT 1 b.2).bind fun a => some (pc + 1, L, (1, a.1 - b.1) :: a.2, σ)
  | .lmul => (popT 1 S).bind fun b => (popT 1 b.2).bind fun a => some (pc + 1, L, (1, a.1 * b.1) :: a.2, σ)
  | .ldiv => (popT 1 S).bind fun b => (popT 1 b.2).bind fun a => if w64 b.1 = 0 then none else some (pc + 1, L, (1, (w64 a.1).tdiv (w64 b.1)) :: a.2, σ)
  | .lrem => (popT 1 S).bind fun b => (popT 1 b.2).bind fun a => if w64 b.1 = 0 then none else some (pc + 1, L, (1, (w64 a.1).tmod (w64 b.1)) :: a.2, σ)
  | .land => (popT 1 S).bind fun b => (popT 1 b.2).bind fun a => some (pc + 1, L, (1, land a.1 b.1) :: a.2, σ)
  | .lor => (popT 1 S).bind fun b => (popT 1 b.2).bind fun a => some (pc + 1, L, (1, lor a.1 b.1) :: a.2, σ)
  | .lshl => (popT 0 S).bind fun b => (popT 1 b.2).bind fun a => some (pc + 1, L, (1, lshl a.1 b.1) :: a.2, σ)
  | .lshr => (popT 0 S).bind fun b => (popT 1 b.2).bind fun a => some (pc + 1, L, (1, lshr a.1 b.1) :: a.2, σ)
  | .lcmp => (popT 1 S).bind fun b => (popT 1 b.2).bind fun a => some (pc + 1, L, (0, lcmpI a.1 b.1) :: a.2, σ)
  | .i2l => (popT 0 S).bind fun a => some (pc + 1, L, (1, w32 a.1) :: a.2, σ)
  | .l2i => (popT 1 S).bind fun a => some (pc + 1, L, (0, a.1) :: a.2, σ)
  | .i2b => (popT 0 S).bind fun a => some (pc + 1, L, (0, b8 a.1) :: a.2, σ)
  | .dup => match S with
    | v :: R => if v.1 = 1 ∨ v.1 = 9 then none else some (pc + 1, L, v :: v :: R, σ)
    | [] => none
  | .pop => match S with
    | v :: R => if v.1 = 1 ∨ v.1 = 9 then none else some (pc + 1, L, R, σ)
    | [] => none
  | .dup2 => match S with
    | v :: u :: R => if v.1 = 1 ∨ v.1 = 9 ∨ u.1 = 1 ∨ u.1 = 9 then none else some (pc + 1, L, v :: u :: v :: u :: R, σ)
    | _ => none
  | .ifCond c off => (popT 0 S).bind fun a => (jmp pc off).bind fun t => some (if tcond c (w32 a.1) 0 then t else pc + 3, L, a.2, σ)
  | .if_icmp c off => (popT 0 S).bind fun b => (popT 0 b.2).bind fun a => (jmp pc off).bind fun t => some (if tcond c (w32 a.1) (w32 b.1) then t else pc + 3, L, a.2, σ)
  | .ifnull off => (popT 2 S).bind fun a => (jmp pc off).bind fun t => some (if a.1 = -1 then t else pc + 3, L, a.2, σ)
  | .ifnonnull off => (popT 2 S).bind fun a => (jmp pc off).bind fun t => some (if a.1 = -1 then pc + 3 else t, L, a.2, σ)
  | .goto off => (jmp pc off).bind fun t => some (t, L, S, σ)
  | .tableswitch d lo hi offs => (popT 0 S).bind fun a => (jmp pc (if w32 a.1 < lo ∨ hi < w32 a.1 then d else (offs[(w32 a.1 - lo).toNat]?).getD (-1000000))).bind fun t => if w32 a.1 < lo ∨ hi < w32 a.1 ∨ (offs[(w32 a.1 - lo).toNat]?).isSome then some (t, L, a.2, σ) else none
  | .getfield i => (popT 2 S).bind fun a => (flook oc i).bind fun f => if arrAt σ a.1 = some (0, f.1) then some (pc + 3, L, (vtag (ftag f.1 f.2), σ.2.2 a.1.toNat f.2) :: a.2, σ) else none
  | .putfield i => (flook oc i).bind fun f => (popT (vtag (ftag f.1 f.2)) S).bind fun x => (popT 2 x.2).bind fun a =>
      if arrAt σ a.1 = some (0, f.1) ∧ (ffin f.1 f.2 = true → ini = true ∧ f.1 = oc) ∧ (ftag f.1 f.2 = 10 → x.1 = 0 ∨ x.1 = 1) then some (pc + 3, L, a.2, (σ.1, σ.2.1, setH σ.2.2 a.1.toNat f.2 x.1)) else none
  | .arraylength => (popT 2 S).bind fun a => if oc = 13 ∧ a.1 = -2 then some (pc + 1, L, (0, (sc.1 : Int)) :: a.2, σ) else (arrAt σ a.1).bind fun k => if k.1 = 0 then none else some (pc + 1, L, (0, (k.2 : Int)) :: a.2, σ)
  | .iaload => (popT 0 S).bind fun i => (popT 2 i.2).bind fun a => if oc = 13 ∧ a.1 = -2 then (if 0 ≤ w32 i.1 ∧ w32 i.1 < sc.1 then some (pc + 1, L, (0, sc.2 (w32 i.1).toNat) :: a.2, σ) else none)
      else (arrAt σ a.1).bind fun k => if k.1 = 1 ∧ 0 ≤ w32 i.1 ∧ w32 i.1 < k.2 then some (pc + 1, L, (0, σ.2.2 a.1.toNat (w32 i.1).toNat) :: a.2, σ) else none
  | .laload => (popT 0 S).bind fun i => (popT 2 i.2).bind fun a => (arrAt σ a.1).bind fun k => if k.1 = 2 ∧ 0 ≤ w32 i.1 ∧ w32 i.1 < k.2 then some (pc + 1, L, (1, σ.2.2 a.1.toNat (w32 i.1).toNat) :: a.2, σ) else none
  | .baload => (popT 0 S).bind fun i => (popT 2 i.2).bind fun a => (arrAt σ a.1).bind fun k => if (k.1 = 3 ∨ k.1 = 4) ∧ 0 ≤ w32 i.1 ∧ w32 i.1 < k.2 then some (pc + 1, L, (0, σ.2.2 a.1.toNat (w32 i.1).toNat) :: a.2, σ) else none
  | .aaload => (popT 0 S).bind fun i => (popT 2 i.2).bind fun a => (arrAt σ a.1).bind fun k => if (k.1 = 5 ∨ k.1 = 6) ∧ 0 ≤ w32 i.1 ∧ w32 i.1 < k.2 then some (pc + 1, L, (2, σ.2.2 a.1.toNat (w32 i.1).toNat) :: a.2, σ) else none
  | .iastore => (popT 0 S).bind fun x => (popT 0 x.2).bind fun i => (popT 2 i.2).bind fun a => (arrAt σ a.1).bind fun k => if k.1 = 1 ∧ 0 ≤ w32 i.1 ∧ w32 i.1 < k.2 then some (pc + 1, L, a.2, (σ.1, σ.2.1, setH σ.2.2 a.1.toNat (w32 i.1).toNat x.1)) else none
  | .lastore => (popT 1 S).bind fun x => (popT 0 x.2).bind fun i => (popT 2 i.2).bind fun a => (arrAt σ a.1).bind fun k => if k.1 = 2 ∧ 0 ≤ w32 i.1 ∧ w32 i.1 < k.2 then some (pc + 1, L, a.2, (σ.1, σ.2.1, setH σ.2.2 a.1.toNat (w32 i.1).toNat x.1)) else none
  | .bastore => (popT 0 S).bind fun x => (popT 0 x.2).bind fun i => (popT 2 i.2).bind fun a => (arrAt σ a.1).bind fun k =>
      if k.1 = 3 ∧ 0 ≤ w32 i.1 ∧ w32 i.1 < k.2 then some (pc + 1, L, a.2, (σ.1, σ.2.1, setH σ.2.2 a.1.toNat (w32 i.1).toNat (b8 x.1)))
      else if k.1 = 4 ∧ 0 ≤ w32 i.1 ∧ w32 i.1 < k.2 ∧ (x.1 = 0 ∨ x.1 = 1) then some (pc + 1, L, a.2, (σ.1, σ.2.1, setH σ.2.2 a.1.toNat (w32 i.1).toNat x.1)) else none
  | .aastore => (popT 2 S).bind fun x => (popT 0 x.2).bind fun i => (popT 2 i.2).bind fun a => (arrAt σ a.1).bind fun k => if x.1 = -1 then (if (k.1 = 5 ∨ k.1 = 6) ∧ 0 ≤ w32 i.1 ∧ w32 i.1 < k.2 then some (pc + 1, L, a.2, (σ.1, σ.2.1, setH σ.2.2 a.1.toNat (w32 i.1).toNat x.1)) else none) else (arrAt σ x.1).bind fun o =>
      if o.1 = 0 ∧ qkind o.2 = some k.1 ∧ 0 ≤ w32 i.1 ∧ w32 i.1 < k.2 then some (pc + 1, L, a.2, (σ.1, σ.2.1, setH σ.2.2 a.1.toNat (w32 i.1).toNat x.1)) else none
  | .newarray t => (popT 0 S).bind fun n => (akind t).bind fun k => if 0 ≤ w32 n.1 ∧ w32 n.1 ≤ 20000 then some (pc + 2, L, (2, (σ.1.length : Int)) :: n.2, push1 σ (k, (w32 n.1).toNat) (w32 n.1).toNat (fun _ => 0)) else none
  | .anewarray i => (popT 0 S).bind fun n => (nlook oc i).bind fun ci => (qkind ci).bind fun k => if 0 ≤ w32 n.1 ∧ w32 n.1 ≤ 20000 then some (pc + 3, L, (2, (σ.1.length : Int)) :: n.2, push1 σ (k, (w32 n.1).toNat) (w32 n.1).toNat (fun _ => -1)) else none
  | .new i => (nlook oc i).bind fun ci => if ci < 13 then some (pc + 3, L, (2, (σ.1.length : Int)) :: S, push1 σ (0, ci) (fnum ci) (fun k => if ftag ci k = 2 then -1 else 0)) else none
  | _ => none
