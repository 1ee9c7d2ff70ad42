/-! ===== a Script trimmed ===== -/
theorem Fix.ext {sh sh2 : Shp} {h h2 : Sto} (X : Fix sh h) (hs : ∃ dy, sh2 = sh ++ dy) (hh : ∀ q, q < sh.length → h2 q = h q) : Fix sh2 h2 ∧ 120 ≤ sh.length := by
  obtain ⟨⟨dy0, e⟩, f⟩ := X
  obtain ⟨dy, e2⟩ := hs
  have l0 : shp0.length = 120 := by decide +kernel
  have l1 : 120 ≤ sh.length := by rw [e, List.length_append, l0]; omega
  have fl : ∀ q ∈ fld0, q.1 < 120 := by decide +kernel
  exact ⟨⟨⟨dy0 ++ dy, by rw [e2, e, List.append_assoc]⟩, fun q hq => by rw [hh q.1 (by have := fl q hq; omega)]; exact f q hq⟩, l1⟩
/-- m rows copied -/
def CpS (na nb : Nat) (sh : Shp) (h : Sto) (m : Nat) (h2 : Sto) : Prop := (∀ q, q < sh.length → h2 q = h q) ∧ (h2 sh.length 0 = (na : Int) ∧ h2 sh.length 1 = (nb : Int)) ∧ (∀ j, j < 8 → h2 sh.length (2 + j) = ((sh.length + 1 + j : Nat) : Int)) ∧ ∀ j, j < m → ∀ i, i < (if j < 6 then na else nb) → h2 (sh.length + 1 + j) i = h (35 + j) i
theorem CpS.step {na nb m x s : Nat} {sh : Shp} {h h2 : Sto} (C : CpS na nb sh h m h2) (hm : m < 8) (hl : 120 ≤ sh.length) (hx : x = if m < 6 then na else nb) (hs : s = 35 + m) : CpS na nb sh h (m + 1) (rowH h2 (sh.length + 1 + m) (va_cpy (h2 s) (h2 (sh.length + 1 + m)) 0 0 x)) := by
  obtain ⟨c1, c2, c3, c4⟩ := C
  subst hs
  refine ⟨fun q hq => by rw [rowH_o (by omega)]; exact c1 q hq, by rw [rowH_o (by omega)]; exact c2, fun j hj => by rw [rowH_o (by omega)]; exact c3 j hj, fun j hj i hi => ?_⟩
  by_cases jm : j = m
  · subst jm
    rw [rowH_s, pk_cpy_in (by omega) (by rw [hx]; omega), c1 _ (by omega)]
    simp
  · rw [rowH_o (by omega)]; exact c4 j (by omega) i hi
section TRIM
variable {sc : Nat × (Nat → Int)} {d : Nat} {sh : Shp} {sl : Nat} {h : Sto} {Q : Pst}
theorem sp_trim {na nb : Nat} (X : Fix sh h) (ha : h 34 0 = (na : Int)) (hna : na ≤ 12) (hb : h 34 1 = (nb : Int)) (hnb : nb ≤ 400) (hq : ∀ sh2 sl2 h2, (∃ dy, sh2 = sh ++ dy) → sh2.length = sh.length + 9 → sl2 ≤ sl + 10 + (6 * na + 2 * nb) → shAt sh2 (sh.length : Int) = some (0, 9) → (∀ j, j < 8 → shAt sh2 ((sh.length + 1 + j : Nat) : Int) = some (1, if j < 6 then na else nb)) → CpS na nb sh h 8 h2 → Q (2, (sh.length : Int)) sh2 sl2 h2) : WM sc (d + 2) 78 [(2, 34)] sh sl h Q := by
  have wa : w32 (na : Int) = (na : Int) := w32_id (by omega) (by omega)
  have wb : w32 (nb : Int) = (nb : Int) := w32_id (by omega) (by omega)
  have t34 : (34 : Int).toNat = 34 := rfl
  obtain ⟨X1, hl⟩ := X.ext (sh2 := sh ++ [(0, 9)]) (h2 := rowH h sh.length (fun k => if ftag 9 k = 2 then -1 else 0)) ⟨[(0, 9)], rfl⟩ (fun q hq => rowH_o (by omega))
  have r34 : rowH h sh.length (fun k => if ftag 9 k = 2 then -1 else 0) 34 = h 34 := rowH_o (by omega)
  rw [E_78, R_78_0, R_78_3, R_78_4, R_78_5, t34, r34, ha]
  refine ⟨fs_34 X1, ?_⟩
  rw [R_78_8, R_78_9, t34, r34, hb]
  refine ⟨fs_34 X1, ?_⟩
  rw [R_78_12]
  refine ⟨⟨by omega, by simp [wgt]⟩, ?_⟩
  refine sp_scr (sh0 := sh) (sl0 := sl) (h0 := h) hna hnb ⟨⟨[(0, 9)], rfl⟩, by rw [List.length_append]; rfl, by simp, shAt_new rfl, fun m hm => by omega, fun q hq => rowH_o (by omega)⟩ (fun sh2 sl2 h2 M => ?_)
  obtain ⟨hs, m1, m2, m3, m4, m5⟩ := M
  obtain ⟨X2, -⟩ := X.ext hs m5
  have s34 := fs_34 X2
  have sN := m3
  simp only [pushR9]
  rw [R_78_15, nl2, R_78_16, R_78_17, R_78_18, t34, m5 34 (by omega), ha]
  refine ⟨s34, ?_⟩
  rw [R_78_21, Int.toNat_natCast]
  refine ⟨sN, ?_⟩
  rw [R_78_24, R_78_25, R_78_26, t34, setH_o (by omega), m5 34 (by omega), hb]
  refine ⟨s34, ?_⟩
  rw [R_78_29, Int.toNat_natCast]
  refine ⟨sN, ?_⟩
  obtain ⟨h3, hh3⟩ : ∃ h3, setH (setH h2 sh.length 0 (na : Int)) sh.length 1 (nb : Int) = h3 := ⟨_, rfl⟩
  rw [hh3]
  have C : CpS na nb sh h 0 h3 := by
    rw [← hh3]
    exact ⟨fun q hq => by rw [setH_o (by omega), setH_o (by omega)]; exact m5 q hq, ⟨by rw [setH_k (by decide), setH_self], by rw [setH_self]⟩, fun j hj => by rw [setH_k (by omega), setH_k (by omega)]; exact (m4 j hj).2, fun j hj => by omega⟩
  clear hh3
  have mk : ∀ j, j < 8 → shAt sh2 ((sh.length + 1 + j : Nat) : Int) = some (1, if j < 6 then na else nb) := fun j hj => (m4 j hj).1
  rw [R_78_32, R_78_33, t34, C.1 34 (by omega), ff_34_2 X]
  refine ⟨s34, ?_⟩
  rw [R_78_36, R_78_37, R_78_38, Int.toNat_natCast, show (2 : Nat) = 2 + 0 from rfl, C.2.2.1 0 (by omega)]
  refine ⟨sN, ?_⟩
  rw [R_78_41, R_78_42, R_78_43, t34, C.1 34 (by omega), ha]
  refine ⟨s34, ?_⟩
  rw [R_78_46 (mk 0 (by omega)) (fs_35 X2), wa, w32_0, show (0 : Int).toNat = 0 from rfl, Int.toNat_natCast, Int.toNat_natCast, show (35 : Int).toNat = 35 from rfl]
  refine ⟨⟨⟨by omega, by omega, by omega⟩, by omega, by simp, by decide⟩, ?_⟩
  replace C := C.step (x := na) (s := 35) (by omega) hl (by simp) rfl
  rw [R_78_49, R_78_50, t34, C.1 34 (by omega), ff_34_3 X]
  refine ⟨s34, ?_⟩
  rw [R_78_53, R_78_54, R_78_55, Int.toNat_natCast, show (3 : Nat) = 2 + 1 from rfl, C.2.2.1 1 (by omega)]
  refine ⟨sN, ?_⟩
  rw [R_78_58, R_78_59, R_78_60, t34, C.1 34 (by omega), ha]
  refine ⟨s34, ?_⟩
  rw [R_78_63 (mk 1 (by omega)) (fs_36 X2), wa, w32_0, show (0 : Int).toNat = 0 from rfl, Int.toNat_natCast, Int.toNat_natCast, show (36 : Int).toNat = 36 from rfl]
  refine ⟨⟨⟨by omega, by omega, by omega⟩, by omega, by simp, by decide⟩, ?_⟩
  replace C := C.step (x := na) (s := 36) (by omega) hl (by simp) rfl
  rw [R_78_66, R_78_67, t34, C.1 34 (by omega), ff_34_4 X]
  refine ⟨s34, ?_⟩
  rw [R_78_70, R_78_71, R_78_72, Int.toNat_natCast, show (4 : Nat) = 2 + 2 from rfl, C.2.2.1 2 (by omega)]
  refine ⟨sN, ?_⟩
  rw [R_78_75, R_78_76, R_78_77, t34, C.1 34 (by omega), ha]
  refine ⟨s34, ?_⟩
  rw [R_78_80 (mk 2 (by omega)) (fs_37 X2), wa, w32_0, show (0 : Int).toNat = 0 from rfl, Int.toNat_natCast, Int.toNat_natCast, show (37 : Int).toNat = 37 from rfl]
  refine ⟨⟨⟨by omega, by omega, by omega⟩, by omega, by simp, by decide⟩, ?_⟩
  replace C := C.step (x := na) (s := 37) (by omega) hl (by simp) rfl
  rw [R_78_83, R_78_84, t34, C.1 34 (by omega), ff_34_5 X]
  refine ⟨s34, ?_⟩
  rw [R_78_87, R_78_88, R_78_89, Int.toNat_natCast, show (5 : Nat) = 2 + 3 from rfl, C.2.2.1 3 (by omega)]
  refine ⟨sN, ?_⟩
  rw [R_78_92, R_78_93, R_78_94, t34, C.1 34 (by omega), ha]
  refine ⟨s34, ?_⟩
  rw [R_78_97 (mk 3 (by omega)) (fs_38 X2), wa, w32_0, show (0 : Int).toNat = 0 from rfl, Int.toNat_natCast, Int.toNat_natCast, show (38 : Int).toNat = 38 from rfl]
  refine ⟨⟨⟨by omega, by omega, by omega⟩, by omega, by simp, by decide⟩, ?_⟩
  replace C := C.step (x := na) (s := 38) (by omega) hl (by simp) rfl
  rw [R_78_100, R_78_101, t34, C.1 34 (by omega), ff_34_6 X]
  refine ⟨s34, ?_⟩
  rw [R_78_104, R_78_105, R_78_106, Int.toNat_natCast, show (6 : Nat) = 2 + 4 from rfl, C.2.2.1 4 (by omega)]
  refine ⟨sN, ?_⟩
  rw [R_78_109, R_78_110, R_78_111, t34, C.1 34 (by omega), ha]
  refine ⟨s34, ?_⟩
  rw [R_78_114 (mk 4 (by omega)) (fs_39 X2), wa, w32_0, show (0 : Int).toNat = 0 from rfl, Int.toNat_natCast, Int.toNat_natCast, show (39 : Int).toNat = 39 from rfl]
  refine ⟨⟨⟨by omega, by omega, by omega⟩, by omega, by simp, by decide⟩, ?_⟩
  replace C := C.step (x := na) (s := 39) (by omega) hl (by simp) rfl
  rw [R_78_117, R_78_118, t34, C.1 34 (by omega), ff_34_7 X]
  refine ⟨s34, ?_⟩
  rw [R_78_121, R_78_122, R_78_123, Int.toNat_natCast, show (7 : Nat) = 2 + 5 from rfl, C.2.2.1 5 (by omega)]
  refine ⟨sN, ?_⟩
  rw [R_78_126, R_78_127, R_78_128, t34, C.1 34 (by omega), ha]
  refine ⟨s34, ?_⟩
  rw [R_78_131 (mk 5 (by omega)) (fs_40 X2), wa, w32_0, show (0 : Int).toNat = 0 from rfl, Int.toNat_natCast, Int.toNat_natCast, show (40 : Int).toNat = 40 from rfl]
  refine ⟨⟨⟨by omega, by omega, by omega⟩, by omega, by simp, by decide⟩, ?_⟩
  replace C := C.step (x := na) (s := 40) (by omega) hl (by simp) rfl
  rw [R_78_134, R_78_135, t34, C.1 34 (by omega), ff_34_8 X]
  refine ⟨s34, ?_⟩
  rw [R_78_138, R_78_139, R_78_140, Int.toNat_natCast, show (8 : Nat) = 2 + 6 from rfl, C.2.2.1 6 (by omega)]
  refine ⟨sN, ?_⟩
  rw [R_78_143, R_78_144, R_78_145, t34, C.1 34 (by omega), hb]
  refine ⟨s34, ?_⟩
  rw [R_78_148 (mk 6 (by omega)) (fs_41 X2), wb, w32_0, show (0 : Int).toNat = 0 from rfl, Int.toNat_natCast, Int.toNat_natCast, show (41 : Int).toNat = 41 from rfl]
  refine ⟨⟨⟨by omega, by omega, by omega⟩, by omega, by simp, by decide⟩, ?_⟩
  replace C := C.step (x := nb) (s := 41) (by omega) hl (by simp) rfl
  rw [R_78_151, R_78_152, t34, C.1 34 (by omega), ff_34_9 X]
  refine ⟨s34, ?_⟩
  rw [R_78_155, R_78_156, R_78_157, Int.toNat_natCast, show (9 : Nat) = 2 + 7 from rfl, C.2.2.1 7 (by omega)]
  refine ⟨sN, ?_⟩
  rw [R_78_160, R_78_161, R_78_162, t34, C.1 34 (by omega), hb]
  refine ⟨s34, ?_⟩
  rw [R_78_165 (mk 7 (by omega)) (fs_42 X2), wb, w32_0, show (0 : Int).toNat = 0 from rfl, Int.toNat_natCast, Int.toNat_natCast, show (42 : Int).toNat = 42 from rfl]
  refine ⟨⟨⟨by omega, by omega, by omega⟩, by omega, by simp, by decide⟩, ?_⟩
  replace C := C.step (x := nb) (s := 42) (by omega) hl (by simp) rfl
  rw [R_78_168, R_78_169]
  exact hq sh2 sl2 _ hs m1 (by rw [if_neg (by decide)] at m2; exact m2) m3 mk C
end TRIM
