/-! ===== a Script made anew ===== -/
/-- a Script at sh.length with j of its 8 rows -/
def MkScr (a b : Nat) (sh : Shp) (sl : Nat) (h : Sto) (j : Nat) (sh2 : Shp) (sl2 : Nat) (h2 : Sto) : Prop := (∃ dy, sh2 = sh ++ dy) ∧ sh2.length = sh.length + 1 + j ∧ sl2 ≤ sl + 10 + (if j ≤ 6 then j * a else 6 * a + (j - 6) * b) ∧ shAt sh2 (sh.length : Int) = some (0, 9) ∧ (∀ m, m < j → shAt sh2 ((sh.length + 1 + m : Nat) : Int) = some (1, if m < 6 then a else b) ∧ h2 sh.length (2 + m) = ((sh.length + 1 + m : Nat) : Int)) ∧ ∀ q, q < sh.length → h2 q = h q
theorem shAt_new {sh : Shp} {q : Nat × Nat} {z : Int} (hz : z = (sh.length : Int)) : shAt (sh ++ [q]) z = some q := by
  unfold shAt
  rw [if_pos (by omega), show z.toNat = sh.length by omega, List.getElem?_append_right (Nat.le_refl _), Nat.sub_self]; rfl
theorem MkScr.step {a b : Nat} {sh sh2 : Shp} {sl sl2 : Nat} {h h2 : Sto} {j : Nat} (M : MkScr a b sh sl h j sh2 sl2 h2) (hj : j < 8) {x : Nat} (hx : x = if j < 6 then a else b) {k : Nat} (hk : k = 2 + j) {p : Nat} (hp : p = sh.length) {v : Int} (hv : v = (sh2.length : Int)) : MkScr a b sh sl h (j + 1) (sh2 ++ [(1, x)]) (sl2 + x) (setH (rowH h2 sh2.length (fun _ => 0)) p k v) := by
  obtain ⟨⟨dy, e⟩, m1, m2, m3, m4, m5⟩ := M
  subst hk hp hv
  refine ⟨⟨dy ++ [(1, x)], by rw [e, List.append_assoc]⟩, by rw [List.length_append, m1]; rfl, ?_, shAt_app m3, fun m hm => ?_, fun q hq => ?_⟩
  · have : j = 0 ∨ j = 1 ∨ j = 2 ∨ j = 3 ∨ j = 4 ∨ j = 5 ∨ j = 6 ∨ j = 7 := by omega
    rcases this with e | e | e | e | e | e | e | e <;> subst e <;> subst hx <;> simp at m2 ⊢ <;> omega
  · by_cases mj : m = j
    · subst mj
      refine ⟨by rw [shAt_new (by rw [m1]), hx], ?_⟩
      rw [setH_self, m1]
    · have a := m4 m (by omega)
      refine ⟨shAt_app a.1, ?_⟩
      rw [setH_k (by omega), rowH_o (by omega)]; exact a.2
  · rw [setH_o (by omega), rowH_o (by omega)]; exact m5 q hq
section SCR
variable {sc : Nat × (Nat → Int)} {d : Nat} {sh : Shp} {sl : Nat} {h : Sto} {Q : Pst}
theorem sp_scr {a b : Nat} {sh0 : Shp} {sl0 : Nat} {h0 : Sto} (ha : a ≤ 12) (hb : b ≤ 400) (M : MkScr a b sh0 sl0 h0 0 sh sl h) (hq : ∀ sh2 sl2 h2, MkScr a b sh0 sl0 h0 8 sh2 sl2 h2 → Q (9, 0) sh2 sl2 h2) : WM sc (d + 1) 3 [(2, (sh0.length : Int)), (0, (a : Int)), (0, (b : Int))] sh sl h Q := by
  have wa : w32 (a : Int) = (a : Int) := w32_id (by omega) (by omega)
  have wb : w32 (b : Int) = (b : Int) := w32_id (by omega) (by omega)
  have xa : (if w32 (a : Int) < w32 0 then (0 : Int) else (a : Int)) = (a : Int) := by rw [wa, w32_0, if_neg (by omega)]
  have xb : (if w32 (b : Int) < w32 0 then (0 : Int) else (b : Int)) = (b : Int) := by rw [wb, w32_0, if_neg (by omega)]
  rw [E_3, R_3_0, R_3_1]
  refine ⟨⟨by omega, by decide⟩, ?_⟩
  rw [R_3_4, R_3_5, R_3_6]
  refine ⟨by decide, ?_⟩
  rw [xa, R_3_9, nl0, R_3_10, R_3_11, R_3_12]
  refine ⟨by decide, ?_⟩
  rw [xb, R_3_15, nl0]
  rw [R_3_17, R_3_18, R_3_19, wa, Int.toNat_natCast]
  refine ⟨⟨by omega, by omega⟩, ?_⟩
  rw [R_3_21, Int.toNat_natCast]
  refine ⟨shAt_app M.2.2.2.1, ?_⟩
  replace M := M.step (by omega) (x := a) (by simp) (k := 2 + 0) rfl rfl rfl
  rw [R_3_24, R_3_25, R_3_26, wa, Int.toNat_natCast]
  refine ⟨⟨by omega, by omega⟩, ?_⟩
  rw [R_3_28, Int.toNat_natCast]
  refine ⟨shAt_app M.2.2.2.1, ?_⟩
  replace M := M.step (by omega) (x := a) (by simp) (k := 2 + 1) rfl rfl rfl
  rw [R_3_31, R_3_32, R_3_33, wa, Int.toNat_natCast]
  refine ⟨⟨by omega, by omega⟩, ?_⟩
  rw [R_3_35, Int.toNat_natCast]
  refine ⟨shAt_app M.2.2.2.1, ?_⟩
  replace M := M.step (by omega) (x := a) (by simp) (k := 2 + 2) rfl rfl rfl
  rw [R_3_38, R_3_39, R_3_40, wa, Int.toNat_natCast]
  refine ⟨⟨by omega, by omega⟩, ?_⟩
  rw [R_3_42, Int.toNat_natCast]
  refine ⟨shAt_app M.2.2.2.1, ?_⟩
  replace M := M.step (by omega) (x := a) (by simp) (k := 2 + 3) rfl rfl rfl
  rw [R_3_45, R_3_46, R_3_47, wa, Int.toNat_natCast]
  refine ⟨⟨by omega, by omega⟩, ?_⟩
  rw [R_3_49, Int.toNat_natCast]
  refine ⟨shAt_app M.2.2.2.1, ?_⟩
  replace M := M.step (by omega) (x := a) (by simp) (k := 2 + 4) rfl rfl rfl
  rw [R_3_52, R_3_53, R_3_54, wa, Int.toNat_natCast]
  refine ⟨⟨by omega, by omega⟩, ?_⟩
  rw [R_3_56, Int.toNat_natCast]
  refine ⟨shAt_app M.2.2.2.1, ?_⟩
  replace M := M.step (by omega) (x := a) (by simp) (k := 2 + 5) rfl rfl rfl
  rw [R_3_59, R_3_60, R_3_62, wb, Int.toNat_natCast]
  refine ⟨⟨by omega, by omega⟩, ?_⟩
  rw [R_3_64, Int.toNat_natCast]
  refine ⟨shAt_app M.2.2.2.1, ?_⟩
  replace M := M.step (by omega) (x := b) (by simp) (k := 2 + 6) rfl rfl rfl
  rw [R_3_67, R_3_68, R_3_70, wb, Int.toNat_natCast]
  refine ⟨⟨by omega, by omega⟩, ?_⟩
  rw [R_3_72, Int.toNat_natCast]
  refine ⟨shAt_app M.2.2.2.1, ?_⟩
  replace M := M.step (by omega) (x := b) (by simp) (k := 2 + 7) rfl rfl rfl
  rw [R_3_75]
  exact hq _ _ _ M
end SCR
