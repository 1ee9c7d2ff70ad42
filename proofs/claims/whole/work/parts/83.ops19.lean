theorem op_fewest {x y : Int} (hx : I32 x) (hy : I32 y) : OpOK 142 265 0 [(0, x), (0, y)] := by
  intro sc d sh sl h I
  have X := I.fx
  obtain ⟨n, m, L, Lv, Hs⟩ := I.live
  have C := Lv.cj X
  have M := Lv.mj X I.od
  have W := M.2.2.2.1
  have hn10 := W.1.2.1
  have bad : ¬ ((0 ≤ x ∧ x ≤ 60) ∧ 0 ≤ y ∧ y ≤ 1023) → WM sc (d + 100) 265 [(2, 85), (0, x), (0, y)] sh sl h (fun r2 sh2 sl2 h2 => ∃ v, ((0 : Nat), (-1 : Int)) = (0, v) ∧ r2 = (0, v) ∧ sh2.length ≤ sh.length + 9 ∧ sl2 ≤ sl + 900 ∧ INV sh2 h2) := by
    intro hb
    have X2 : Fix sh (setH h 85 0 0) := X.s (by decide +kernel)
    rw [B_265_0 X, hx.w, sp_in hx.l ⟨by decide, by decide⟩ ⟨by decide, by decide⟩]
    simp only [pushR0]
    rw [B_265_14 X2]
    by_cases c1 : 0 ≤ x ∧ x ≤ 60
    · rw [if_pos c1, show w32 1 = 1 from rfl, if_neg (by decide), hy.w, sp_in hy.l ⟨by decide, by decide⟩ ⟨by decide, by decide⟩, if_neg (fun q => hb ⟨c1, q⟩)]
      simp only [pushR0]
      rw [B_265_26 X2, w32_0, if_neg (by simp)]
      exact ⟨_, rfl, rfl, by omega, by omega, I.thrown⟩
    · rw [if_neg c1, w32_0, if_pos rfl]
      exact ⟨_, rfl, rfl, by omega, by omega, I.thrown⟩
  rw [B_142_0 X, hx.w, hy.w]
  by_cases a1 : x < 0
  · rw [if_pos a1]; exact bad (by omega)
  rw [if_neg a1]
  by_cases a2 : 60 < x
  · rw [if_pos a2]; exact bad (by omega)
  rw [if_neg a2]
  by_cases a3 : y < 0
  · rw [if_pos a3]; exact bad (by omega)
  rw [if_neg a3]
  by_cases a4 : y ≤ 1023
  case neg => rw [if_neg a4]; exact bad (by omega)
  rw [if_pos a4]
  clear bad
  obtain ⟨K, rfl⟩ : ∃ K : Nat, x = K := ⟨x.toNat, by omega⟩
  obtain ⟨N, rfl⟩ : ∃ N : Nat, y = N := ⟨y.toNat, by omega⟩
  have cb : ∀ i, i < n → 0 ≤ countsA (h 87) L i ∧ countsA (h 87) L i ≤ 60 := fun i hi => countsA_bd W hi
  have fb := fwF_b (cn := countsA (h 87) L) (p := fun s => N.testBit s) (n := n) K (by omega) K (Nat.le_refl K)
  rw [B_143_0 X]
  refine lp_fz C (by omega) (by omega) cb (fun h1 F1 => ?_) n 0 h _ _ _ (by omega) rfl (Fr.refl h) (fun i hi => by omega)
  have X1 : Fix sh h1 := F1.fix X (by decide +kernel)
  simp only [pushR0]
  have F2 : Fr [48, 49, 81, 82, 62, 68] [(85, 0)] h (setH h1 85 0 0) := (F1.mono rfl).set rfl
  have M2 : MJ sh (setH h1 85 0 0) (h 87) n m L := M.of F2 (by decide +kernel) (by decide +kernel)
  rw [B_142_32 X1, B_265_0 X1, hx.w, sp_in hx.l ⟨by decide, by decide⟩ ⟨by decide, by decide⟩, if_pos (by omega)]
  simp only [pushR0]
  rw [B_265_14 M2.1, show w32 1 = 1 from rfl, if_neg (by decide), hy.w, sp_in hy.l ⟨by decide, by decide⟩ ⟨by decide, by decide⟩, if_pos (by omega)]
  simp only [pushR0]
  rw [B_265_26 M2.1, show w32 1 = 1 from rfl, if_pos (by decide)]
  refine sp_fill M2 (fun h3 F3 _ e109 => ?_)
  have M3 : MJ sh h3 (h 87) n m L := M2.of F3 (by decide +kernel) (by decide +kernel)
  simp only [pushR9]
  rw [B_265_35 M3.1]
  refine sp_fewM (cn := countsA (h 87) L) M3.1 (by rw [M3.2.1]; exact W.1.1) hn10 (by omega) (by omega) e109 cb (fun h4 F4 e114 => ?_)
  have F5 : Fr [103, 105, 107, 108, 109, 114] MS (setH h1 85 0 0) h4 := (F3.mono rfl).trans (F4.mono rfl)
  have IE : INV sh h4 := I.two F2 F5 (by decide +kernel) (by decide +kernel) (by decide +kernel) (by decide +kernel)
  simp only [pushR9]
  rw [B_265_41 (F4.fix M3.1 (by decide +kernel)), w32_id (a := (K : Int)) (by omega) (by omega), Int.toNat_natCast, e114 K (Nat.le_refl K), w32_id (a := fwF (countsA (h 87) L) (fun s => N.testBit s) n K K) (by omega) (by omega)]
  refine ⟨⟨by omega, by omega⟩, ?_⟩
  unfold ngv
  by_cases h8 : fwF (countsA (h 87) L) (fun s => N.testBit s) n K K = 100000000
  · rw [if_pos h8, if_neg (by simpa using h8)]
    exact ⟨_, rfl, rfl, by omega, by omega, IE⟩
  · rw [if_neg h8, if_pos h8]
    exact ⟨⟨by omega, by omega⟩, _, rfl, rfl, by omega, by omega, IE⟩
