/-! ===== more cells at the end: what stays ===== -/
theorem shAt_lt {sh : Shp} {p : Nat} {q : Nat × Nat} (h : shAt sh (p : Int) = some q) : p < sh.length := by
  unfold shAt at h
  rw [if_pos (by omega), Int.toNat_natCast] at h
  exact (List.getElem?_eq_some_iff.mp h).1
theorem LawC.ext {sh sh2 : Shp} {h h2 : Sto} {p : Nat} {Lw : Law} (H : LawC sh h p Lw) (hs : ∃ dy, sh2 = sh ++ dy) (hh : ∀ q, 120 ≤ q → q < sh.length → h2 q = h q) : LawC sh2 h2 p Lw := by
  obtain ⟨N, Nc, No, pk, pf, pt, po, pa, hp, hb, g1, g2, g3, g4, g5, g6, ⟨g7, g8⟩, ⟨g9, g10⟩, ⟨g11, g12⟩, ⟨g13, g14⟩, ⟨g15, g16⟩, g17, g18, g19⟩ := H
  obtain ⟨dy, e⟩ := hs
  subst e
  have e0 := hh p hp.1 hp.2
  have e1 := hh pk hb.1 (shAt_lt g8)
  have e2 := hh pf hb.2.1 (shAt_lt g10)
  have e3 := hh pt hb.2.2.1 (shAt_lt g12)
  have e4 := hh po hb.2.2.2.1 (shAt_lt g14)
  have e5 := hh pa hb.2.2.2.2 (shAt_lt g16)
  refine ⟨N, Nc, No, pk, pf, pt, po, pa, ⟨hp.1, by rw [List.length_append]; omega⟩, hb, shAt_app g1, by rw [e0]; exact g2, g3, by rw [e0]; exact g4, g5, g6, ⟨by rw [e0]; exact g7, shAt_app g8⟩, ⟨by rw [e0]; exact g9, shAt_app g10⟩, ⟨by rw [e0]; exact g11, shAt_app g12⟩, ⟨by rw [e0]; exact g13, shAt_app g14⟩, ⟨by rw [e0]; exact g15, shAt_app g16⟩, ?_, ?_, ?_⟩
  · rw [e4]; exact g17
  · rw [e5]; exact g18
  · rw [e1, e2, e3, e4, e5]; exact g19
theorem SR.ext {sh sh2 : Shp} {h h2 : Sto} {b n m : Nat} {G : Nat → Int} {L : List Law} (H : SR sh h b G n m L) (hs : ∃ dy, sh2 = sh ++ dy) (h0 : h2 b = h b) (hj : ∀ j, 1 ≤ j → j ≤ 7 → h2 (b + j) = h (b + j)) (hh : ∀ q, 120 ≤ q → q < sh.length → h2 q = h q) : SR sh2 h2 b G n m L := by
  unfold SR at H ⊢
  rw [h0, hj 1 (by omega) (by omega), hj 2 (by omega) (by omega), hj 3 (by omega) (by omega), hj 4 (by omega) (by omega), hj 5 (by omega) (by omega), hj 6 (by omega) (by omega), hj 7 (by omega) (by omega)]
  exact ⟨H.1, H.2.1, H.2.2.1, H.2.2.2.1, fun k Lw hk => let ⟨p, e, hp⟩ := H.2.2.2.2 k Lw hk; ⟨p, e, hp.ext hs hh⟩⟩
theorem LT1.ext {sh sh2 : Shp} {f : Nat → Int} (H : LT1 sh f) (hs : ∃ dy, sh2 = sh ++ dy) : LT1 sh2 f := fun j hj => by
  obtain ⟨dy, e⟩ := hs
  subst e
  rcases H j hj with a | a
  · exact Or.inl a
  · exact Or.inr (shAt_app a)
theorem Img.ext {sh sh2 : Shp} {h h2 : Sto} {k : Nat} (hk : k = 0 ∨ k = 1) (H : Img sh h k) (hs : ∃ dy, sh2 = sh ++ dy) (e : ∀ q, (q = 32 ∨ q = 88 ∨ q = 89 ∨ (12 ≤ q ∧ q ≤ 31)) → h2 q = h q) (hh : ∀ q, 120 ≤ q → q < sh.length → h2 q = h q) (l8 : LT1 sh2 (h2 8)) : Img sh2 h2 k := by
  obtain ⟨a, b, c, -, lt⟩ := H
  unfold Img
  rw [e 89 (by omega), e 32 (by omega), e 88 (by omega), e (21 + 10 * k) (by omega), e (19 + 10 * k) (by omega)]
  refine ⟨a, b, fun h1 => ?_, l8, lt.ext hs⟩
  obtain ⟨n, m, L, s1, s2⟩ := c h1
  exact ⟨n, m, L, s1.ext hs (e _ (by omega)) (fun j h1 h2 => e _ (by omega)) hh, s2⟩
/-- the board's side of a text read in vain -/
theorem INV.txt {P : List Nat} {S : List (Nat × Nat)} {sh : Shp} {h h2 : Sto} (I : INV sh h) (F : Fr P S h h2) (hf : fixF P S = true) (hc : cgF imgR imgC P S = true) (hc2 : cgF [1, 2, 3, 4, 5, 6, 7, 8, 10, 87] [] P S = true) (hc3 : cgF [45, 46, 90, 91] [(85, 8), (44, 3), (44, 2), (87, 6), (87, 7)] P S = true) (k1 : h2 0 14 = 0) (k2 : h2 85 13 = 0) (sl : Scal h2) (ho : h2 85 20 = 0) : INV sh h2 := by
  obtain ⟨n, m, L, a, b⟩ := I.live
  exact I.upd F hf hc ⟨n, m, L, a.cg (F.cg hc2), b.cg (F.cg hc3)⟩ ⟨0, k1, k2, by omega, fun i hi => by omega⟩ sl ho
section CLAW
variable {sc : Nat × (Nat → Int)} {d : Nat} {sh : Shp} {sl : Nat} {h : Sto} {Q : Pst}
/-- a law laid into the class's row -/
theorem sp_addLaw {k N : Nat} (X : Fix sh h) (e11 : h 1 11 = (k : Int)) (hk : k < 6) (sN : shAt sh (N : Int) = some (0, 9)) (hq : Q (0, (k : Int)) sh sl (setH (setH h 8 k (N : Int)) 1 11 ((k : Int) + 1))) : WM sc d 79 [(2, 1), (2, (N : Int))] sh sl h Q := by
  have t1 : (1 : Int).toNat = 1 := rfl
  rw [E_79, R_79_0, R_79_1, t1, e11]
  refine ⟨fs_1 X, ?_⟩
  rw [R_79_4, nl2, R_79_5, R_79_6, t1, ff_1_12 X]
  refine ⟨fs_1 X, ?_⟩
  rw [R_79_9, R_79_10, R_79_11 (fs_8 X) sN rfl, w32_id (a := (k : Int)) (by omega) (by omega), Int.toNat_natCast, show (8 : Int).toNat = 8 from rfl]
  refine ⟨⟨by omega, by omega⟩, ?_⟩
  rw [R_79_12, R_79_13, R_79_14, t1, setH_o (by decide), e11]
  refine ⟨fs_1 X, ?_⟩
  rw [R_79_17, R_79_18, R_79_19, t1]
  refine ⟨fs_1 X, ?_⟩
  rw [R_79_22, R_79_23]
  exact hq
end CLAW
