/-! ===== the relation with a law more ===== -/
abbrev LnP : List Nat := [35, 36, 37, 38, 39, 40, 41, 42, 95, 96, 97, 98, 99, 116, 84, 86, 8, 87]
abbrev LnS : List (Nat × Nat) := [(43, 4), (43, 5), (43, 6), (43, 7), (43, 8), (43, 10), (34, 1), (34, 0), (43, 2), (43, 9), (85, 14), (85, 15), (85, 16), (85, 17), (85, 18), (85, 19), (85, 23), (85, 26), (85, 29), (85, 30), (85, 21), (85, 13), (85, 20), (0, 14), (43, 3), (0, 16), (85, 0), (85, 1), (1, 11)]
theorem law_inv {sh sh2 : Shp} {h hE : Sto} {n m k : Nat} {L : List Law} {Lw : Law} (I : INV sh h) (LV : Live sh h n m L) (HI : Hist h n m) (hk : L.length = k) (hk6 : k < 6) (hs : ∃ dy, sh2 = sh ++ dy) (h120 : 120 ≤ sh.length) (F0 : Fr LnP LnS h (fun q => if q < sh.length then hE q else h q)) (r8 : ∀ j, j ≠ k → hE 8 j = h 8 j) (r8k : hE 8 k = (sh.length : Int)) (r111 : hE 1 11 = ((k + 1 : Nat) : Int)) (s0 : shAt sh2 (sh.length : Int) = some (0, 9)) (lc : LawC sh2 hE sh.length Lw) (lm : LawM (hE 87) (94 + 900 * k) Lw) (lo : LawOK Lw) (g1 : ∀ j, j < 94 + 900 * k → j ≠ 3 → hE 87 j = h 87 j) (g3 : hE 87 3 = ((k + 1 : Nat) : Int)) (k1 : hE 0 14 = 0) (k2 : hE 85 13 = 0) (k3 : hE 85 20 = 0) (sl : Scal hE) (XE : Fix sh2 hE) : INV sh2 hE := by
  have row : ∀ q, q < 120 → (LnP.contains q || LnS.any (fun x => x.1 == q)) = false → hE q = h q := fun q hq hc => by
    have a : (if q < sh.length then hE q else h q) = h q := F0.row q hc
    rw [if_pos (by omega)] at a; exact a
  have at_ : ∀ q j, q < 120 → (LnP.contains q || LnS.contains (q, j)) = false → hE q j = h q j := fun q j hq hc => by
    have a : (if q < sh.length then hE q else h q) j = h q j := F0.at q j hc
    rw [if_pos (by omega)] at a; exact a
  have big : ∀ q, 120 ≤ q → q < sh.length → hE q = h q := fun q h1 h2 => by
    funext j
    have a : (if q < sh.length then hE q else h q) j = h q j := F0 q j (fun hm => by simp at hm; omega) (fun hm => by simp at hm; omega)
    rw [if_pos h2] at a; exact a
  have rowv : ∀ q, (q = 32 ∨ q = 88 ∨ q = 89 ∨ (12 ≤ q ∧ q ≤ 31)) → hE q = h q := fun q hq => by
    funext j
    have a : (if q < sh.length then hE q else h q) j = h q j := F0 q j (fun hm => by simp at hm; omega) (fun hm => by simp at hm; omega)
    rw [if_pos (by omega)] at a; exact a
  obtain ⟨X, -, i0, i1, rg, -, -, -⟩ := I
  have l8 : LT1 sh2 (hE 8) := fun j hj => by
    by_cases jk : j = k
    · subst jk; rw [r8k]; exact Or.inr s0
    · rw [r8 j jk]; exact (i0.2.2.2.1.ext hs) j hj
  obtain ⟨a, b, c, e⟩ := LV
  obtain ⟨⟨b0, b4, b6, b9, b10, b11, b13⟩, sr2, sr3, sr4, sr5⟩ := a
  obtain ⟨⟨w0, w0n, w1, w1m, w2, w3, w3n, w4, w6, w7⟩, sw2, sw3, sw4, sw5⟩ := c
  have len : (L ++ [Lw]).length = k + 1 := by rw [List.length_append, hk]; rfl
  have get : ∀ j x, (L ++ [Lw])[j]? = some x → (L[j]? = some x ∧ j < k) ∨ (j = k ∧ x = Lw) := fun j x hj => by
    by_cases ji : j < k
    · rw [List.getElem?_append_left (by omega)] at hj; exact Or.inl ⟨hj, ji⟩
    · rw [List.getElem?_append_right (by omega)] at hj
      have j0 : j - L.length = 0 := by
        cases hx : j - L.length with
        | zero => rfl
        | succ m => rw [hx] at hj; cases hj
      rw [j0] at hj
      cases hj
      exact Or.inr ⟨by omega, rfl⟩
  refine ⟨XE, ⟨n, m, L ++ [Lw], ⟨⟨⟨?_, ?_, ?_, ?_, ?_, ?_, ?_⟩, fun s hs2 => ?_, fun l hl => ?_, fun i hi => ?_, fun j x hj => ?_⟩, ?_, ⟨⟨?_, w0n, ?_, w1m, ?_, ?_, ?_, ?_, ?_, ?_⟩, fun s hs2 => ?_, fun l hl => ?_, fun i hi => ?_, fun j x hj => ?_⟩, ?_⟩, ?_⟩, i0.ext (Or.inl rfl) hs rowv big l8, i1.ext (Or.inr rfl) hs rowv big l8, ?_, ⟨0, k1, k2, by omega, fun i hi => by omega⟩, sl, k3⟩
  · rw [at_ 1 0 (by omega) rfl]; exact b0
  · rw [at_ 1 4 (by omega) rfl]; exact b4
  · rw [at_ 1 6 (by omega) rfl, g1 2 (by omega) (by omega)]; exact b6
  · rw [at_ 1 9 (by omega) rfl, g1 6 (by omega) (by omega)]; exact b9
  · rw [at_ 1 10 (by omega) rfl, g1 7 (by omega) (by omega)]; exact b10
  · rw [r111, len]
  · rw [at_ 1 13 (by omega) rfl, g1 4 (by omega) (by omega)]; exact b13
  · rw [row (1 + 1) (by omega) rfl, row (1 + 2) (by omega) rfl, row (1 + 3) (by omega) rfl, g1 (49 + s) (by omega) (by omega), g1 (59 + s) (by omega) (by omega), g1 (69 + s) (by omega) (by omega)]; exact sr2 s hs2
  · rw [row (1 + 4) (by omega) rfl, g1 (79 + l) (by omega) (by omega)]; exact sr3 l hl
  · rw [g1 2 (by omega) (by omega)] at hi
    rw [row (1 + 5) (by omega) rfl, row (1 + 6) (by omega) rfl, g1 (82 + 2 * i) (by omega) (by omega), g1 (82 + 2 * i + 1) (by omega) (by omega)]; exact sr4 i hi
  · rcases get j x hj with ⟨h1, h2⟩ | ⟨h1, h2⟩
    · obtain ⟨p, e1, e2⟩ := sr5 j x h1
      exact ⟨p, (r8 j (by omega)).trans e1, e2.ext hs big⟩
    · subst h1 h2
      exact ⟨sh.length, r8k, lc⟩
  · exact b.of e w0n w1m (fun i _ => by rw [row 10 (by omega) rfl]) (fun i h5 h49 => g1 i (by omega) (by omega))
  · rw [g1 0 (by omega) (by omega)]; exact w0
  · rw [g1 1 (by omega) (by omega)]; exact w1
  · rw [g1 2 (by omega) (by omega)]; exact w2
  · rw [g3, len]
  · rw [len]; omega
  · rw [g1 4 (by omega) (by omega), len]; omega
  · rw [g1 6 (by omega) (by omega)]; exact w6
  · rw [g1 7 (by omega) (by omega)]; exact w7
  · rw [g1 (49 + s) (by omega) (by omega), g1 (59 + s) (by omega) (by omega), g1 (69 + s) (by omega) (by omega)]; exact sw2 s hs2
  · rw [g1 (79 + l) (by omega) (by omega)]; exact sw3 l hl
  · rw [g1 2 (by omega) (by omega)] at hi
    rw [g1 (82 + 2 * i) (by omega) (by omega), g1 (82 + 2 * i + 1) (by omega) (by omega)]; exact sw4 i hi
  · rcases get j x hj with ⟨h1, h2⟩ | ⟨h1, h2⟩
    · have o := sw5 j x h1
      exact ⟨o.1.of9 o.2.1 (fun i _ _ => g1 i (by omega) (by omega)), o.2⟩
    · subst h1 h2
      exact ⟨lm, lo⟩
  · exact e.of w0n w1m (fun i h5 h49 => g1 i (by omega) (by omega))
  · unfold Hist at HI ⊢
    rw [at_ 85 8 (by omega) rfl, at_ 44 3 (by omega) rfl, row 45 (by omega) rfl, row 46 (by omega) rfl, row 90 (by omega) rfl, row 91 (by omega) rfl, at_ 44 2 (by omega) rfl, g1 6 (by omega) (by omega), g1 7 (by omega) (by omega)]
    exact HI
  · unfold Rgn at rg ⊢
    rw [row 78 (by omega) rfl, row 119 (by omega) rfl, at_ 76 4 (by omega) rfl, at_ 76 5 (by omega) rfl, at_ 85 62 (by omega) rfl, at_ 85 63 (by omega) rfl]
    exact rg
