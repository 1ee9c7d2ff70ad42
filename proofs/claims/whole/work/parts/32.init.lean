/-! ===== both constructors (printed by wip/gen/init.py) ===== -/
theorem oc_ne : ∀ y, y < 282 → ocOf y ≠ 13 := by
  have h : (List.range 282).all (fun y => decide (ocOf y ≠ 13)) = true := by decide +kernel
  intro y hy
  exact of_decide_eq_true (List.all_eq_true.mp h y (List.mem_range.mpr hy))
theorem mt_len : MT.length = 282 := by decide +kernel
theorem pst_sc {oc : Nat} {ini : Bool} (sc sc2 : Nat × (Nat → Int)) {pc : Nat} {L S : List V} {σ : St} {ins : Instr} (ho : oc ≠ 13) : pst oc ini sc pc L S σ ins = pst oc ini sc2 pc L S σ ins := by
  cases ins
  case iaload =>
    show (popT 0 S).bind _ = (popT 0 S).bind _
    congr 1; funext i
    show (popT 2 i.2).bind _ = (popT 2 i.2).bind _
    congr 1; funext a
    rw [if_neg (fun q => ho q.1), if_neg (fun q => ho q.1)]
  case arraylength =>
    show (popT 2 S).bind _ = (popT 2 S).bind _
    congr 1; funext a
    rw [if_neg (fun q => ho q.1), if_neg (fun q => ho q.1)]
  all_goals rfl
theorem exF_sc (sc sc2 : Nat × (Nat → Int)) : ∀ (n d y pc : Nat) (L S : List V) (σ : St), y < 282 → exF sc n d y pc L S σ = exF sc2 n d y pc L S σ := by
  intro n
  induction n with
  | zero => intro d y pc L S σ _; rfl
  | succ n ih =>
    intro d y pc L S σ hy
    unfold exF
    congr 1; funext ii
    split
    · split
      · congr 1; funext kc
        cases d with
        | zero => rfl
        | succ d0 =>
          dsimp only
          split
          · split
            · rename_i hc
              have hcy : kc.2 < 282 := by
                unfold callOK at hc
                simp only [Bool.and_eq_true, decide_eq_true_eq] at hc
                rw [← mt_len]; exact hc.2
              rw [ih _ _ _ _ _ _ hcy]
              congr 1; funext q
              exact ih _ _ _ _ _ _ hy
            · rfl
          · split
            · rfl
            · congr 1; funext q
              exact ih _ _ _ _ _ _ hy
      · split
        · rfl
        · rw [pst_sc sc sc2 (oc_ne y hy)]
          congr 1; funext q
          exact ih _ _ _ _ _ _ hy
    · rfl
/-- what the store holds behind both constructors, where it isn't 0 (arrays of laws: null) -/
def ini0 : List (Nat × Nat × Int) := [(0, 0, 1), (0, 1, 11), (0, 2, 32), (0, 3, 33), (0, 4, 34), (0, 5, 43), (0, 6, 44), (0, 7, 47), (0, 8, 50), (0, 9, 52), (0, 10, 60), (0, 11, 71), (0, 12, 76), (0, 13, 84), (1, 1, 2), (1, 2, 3), (1, 3, 4), (1, 5, 5), (1, 7, 6), (1, 8, 7), (1, 9, 1), (1, 12, 8), (1, 13, -1), (1, 14, 9), (9, 0, 10), (11, 0, 12), (11, 1, 22), (12, 1, 13), (12, 2, 14), (12, 3, 15), (12, 5, 16), (12, 7, 17), (12, 8, 18), (12, 9, 1), (12, 12, 19), (12, 13, -1), (12, 14, 20), (20, 0, 21), (22, 1, 23), (22, 2, 24), (22, 3, 25), (22, 5, 26), (22, 7, 27), (22, 8, 28), (22, 9, 1), (22, 12, 29), (22, 13, -1), (22, 14, 30), (30, 0, 31), (34, 2, 35), (34, 3, 36), (34, 4, 37), (34, 5, 38), (34, 6, 39), (34, 7, 40), (34, 8, 41), (34, 9, 42), (43, 0, 33), (43, 1, 34), (43, 10, -1), (44, 0, 45), (44, 1, 46), (47, 0, 1), (47, 1, 9), (47, 2, 48), (47, 3, 49), (50, 0, 47), (50, 1, 1), (50, 2, 9), (50, 3, 44), (50, 4, 51), (52, 0, 50), (52, 1, 44), (52, 2, 53), (52, 3, 55), (52, 4, 58), (52, 5, 59), (52, 10, -1), (53, 0, 54), (55, 0, 56), (55, 1, 57), (60, 0, 47), (60, 1, 1), (60, 2, 9), (60, 3, 61), (60, 4, 62), (60, 5, 63), (60, 6, 64), (60, 7, 65), (60, 8, 66), (60, 9, 67), (60, 10, 68), (60, 16, 69), (60, 18, 70), (71, 0, 47), (71, 1, 1), (71, 2, 72), (71, 3, 73), (71, 4, 74), (71, 5, 75), (76, 0, 1), (76, 1, 79), (76, 3, 77), (77, 0, 78), (79, 0, 80), (79, 1, 1), (79, 2, 77), (79, 3, -1), (79, 4, 83), (80, 0, 1), (80, 1, 77), (80, 2, 81), (80, 3, 82), (85, 2, 86), (85, 3, 87), (85, 4, 88), (85, 5, 89), (85, 6, 90), (85, 7, 91), (85, 9, 92), (85, 10, 93), (85, 12, 94), (85, 18, -1), (85, 22, 95), (85, 24, 96), (85, 25, 97), (85, 27, 98), (85, 28, 99), (85, 31, 100), (85, 32, 101), (85, 33, 102), (85, 35, 103), (85, 36, 104), (85, 37, 105), (85, 41, 106), (85, 42, 107), (85, 43, 108), (85, 44, 109), (85, 45, 110), (85, 46, 111), (85, 49, 112), (85, 50, 113), (85, 51, 114), (85, 52, 115), (85, 53, 116), (85, 54, 117), (85, 55, 118), (85, 58, -1), (85, 61, 119), (85, 62, -1), (85, 63, -1), (87, 4, -1), (87, 6, 1), (100, 0, 676774066), (100, 1, 9797), (100, 2, 19039629), (100, 3, 394692), (100, 4, 24627848), (100, 5, 242341), (100, 6, 4153), (100, 7, 441828), (101, 0, 4153), (101, 1, 146885), (101, 2, 404362868), (101, 3, 215205), (101, 4, 525604), (101, 5, 18959911084), (101, 6, 639476), (102, 0, 606717154707), (102, 1, 4793523), (102, 2, 117095059), (102, 3, 67155), (115, 0, 20587627), (115, 1, 529580), (115, 2, 102173868), (115, 3, 525939)]
def iniV (p k : Nat) : Int := match ini0.find? (fun q => q.1 == p && q.2.1 == k) with
  | some q => q.2.2
  | none => if p = 8 ∨ p = 19 ∨ p = 29 then -1 else 0
def cut0 (s : Nat × Nat) : Nat := if s.1 = 0 then fnum s.2 else min s.2 8
def chk0 (sh : Shp) (h : Sto) (a b : Nat) : Bool := (List.range (b - a)).all (fun i => (List.range (cut0 (sh.getD (a + i) (0, 99)))).all (fun k => decide (h (a + i) k = iniV (a + i) k)))
def run1 : Option (V × St) := exF (0, fun _ => 0) 700 20 0 0 (ent [(2, 0)] (maxLOf 0)) [] ([(0, 11)], 17, rowH (fun _ _ => 0) 0 (fun k => if ftag 11 k = 2 then -1 else 0))
theorem run1_ok : (match run1 with | some (r, sh, sl, h) => decide (r = (9, 0)) && decide (sh = shp0.take 85) && decide (sl = 3873) && chk0 sh h 0 85 | none => false) = true := by decide +kernel
def run2 : Option (V × St) := run1.bind fun q => exF (0, fun _ => 0) 400 20 157 0 (ent [(2, 85)] (maxLOf 157)) [] (push1 q.2 (0, 12) (fnum 12) (fun k => if ftag 12 k = 2 then -1 else 0))
theorem run2_sh : (match run2 with | some (r, sh, sl, h) => decide (r = (9, 0)) && decide (sh = shp0) && decide (sl = 24976) | none => false) = true := by decide +kernel
theorem run2_0 : (match run2 with | some (r, sh, sl, h) => chk0 shp0 h 0 40 | none => false) = true := by decide +kernel
theorem run2_40 : (match run2 with | some (r, sh, sl, h) => chk0 shp0 h 40 85 | none => false) = true := by decide +kernel
theorem run2_85 : (match run2 with | some (r, sh, sl, h) => chk0 shp0 h 85 120 | none => false) = true := by decide +kernel
