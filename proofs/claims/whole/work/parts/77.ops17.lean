theorem op_exchanged {x y : Int} (hx : I32 x) (hy : I32 y) : OpOK 122 251 0 [(0, x), (0, y)] := by
  intro sc d sh sl h I
  have X := I.fx
  obtain ⟨n, m, L, Lv, Hs⟩ := I.live
  have C := Lv.cj X
  have M := Lv.mj X I.od
  have W := M.2.2.2.1
  have B := M.2.2.2.2
  have hm3 := W.1.2.2.2.1
  have bad : ¬ ((0 ≤ x ∧ x < m) ∧ 0 ≤ y ∧ y ≤ 1) → WM sc (d + 100) 251 [(2, 85), (0, x), (0, y)] sh sl h (fun r2 sh2 sl2 h2 => ∃ v, ((0 : Nat), (-1 : Int)) = (0, v) ∧ r2 = (0, v) ∧ sh2.length ≤ sh.length + 9 ∧ sl2 ≤ sl + 900 ∧ INV sh2 h2) := by
    intro hb
    have X2 : Fix sh (setH h 85 0 0) := X.s (by decide +kernel)
    rw [B_251_0 X, sp_mLetter X2 hx (by rw [setH_o (by decide)]; exact W.1.2.2.1) hm3]
    simp only [pushR0]
    rw [B_251_10 X2]
    by_cases c1 : 0 ≤ x ∧ x < m
    · rw [if_pos c1, show w32 1 = 1 from rfl, if_neg (by decide), hy.w, sp_in hy.l ⟨by decide, by decide⟩ ⟨by decide, by decide⟩, if_neg (fun q => hb ⟨c1, q⟩)]
      simp only [pushR0]
      rw [B_251_20 X2, w32_0, if_neg (by simp)]
      exact ⟨_, rfl, rfl, by omega, by omega, I.thrown⟩
    · rw [if_neg c1, w32_0, if_pos rfl]
      exact ⟨_, rfl, rfl, by omega, by omega, I.thrown⟩
  rw [B_122_0 X, sp_cLetter X hx C.2.1.1.2.1 hm3]
  simp only [pushR0]
  rw [B_122_5 X, hy.w]
  by_cases c1 : 0 ≤ x ∧ x < m
  case neg => rw [if_neg c1, w32_0, if_pos rfl]; exact bad (fun q => c1 q.1)
  rw [if_pos c1, show w32 1 = 1 from rfl, if_neg (by decide)]
  by_cases c2 : y < 0
  · rw [if_pos c2]; exact bad (by omega)
  rw [if_neg c2]
  by_cases c3 : 1 < y
  · rw [if_pos c3]; exact bad (by omega)
  rw [if_neg c3]
  clear bad
  obtain ⟨l, rfl⟩ : ∃ l : Nat, x = l := ⟨x.toNat, by omega⟩
  have hl : l < m := by omega
  have qb := quOnA_bd W B hl
  have cb := B.2.2.1 l hl
  obtain ⟨c, hc⟩ : ∃ c : Nat, h 87 (31 + l) = c := ⟨(h 87 (31 + l)).toNat, by omega⟩
  have E0 : EI (quOnA (h 87) L l) (quOnA (h 87) L l, -1) := ⟨qb, Or.inl ⟨rfl, rfl⟩⟩
  rw [B_123_0 X]
  refine sp_quOn JQa C hl (fun h1 F1 => ?_)
  have X1 : Fix sh h1 := F1.fix X (by decide +kernel)
  simp only [pushR0]
  rw [B_123_8 X1]
  have F2 : Fr XcP XcS h (setH h1 60 14 (quOnA (h 87) L l)) := (F1.mono rfl).set rfl
  refine lp_xaC (h := h) C hl hc qb c 0 _ (quOnA (h 87) L l, -1) _ _ _ (by omega) rfl F2 ⟨setH_self _ _ _ _, fun z => by have z' : (0 : Int) ≤ -1 := z; omega⟩ E0 (fun h3 F3 R3 E3 => ?_)
  have X3 : Fix sh h3 := F3.fix X (by decide +kernel)
  obtain ⟨st, hst⟩ : ∃ st, exA (h 87) L l c c 0 (quOnA (h 87) L l, -1) = st := ⟨_, rfl⟩
  rw [hst] at R3 E3 ⊢
  -- the reference's side, behind the class's
  have hM : WM sc (d + 100) 251 [(2, 85), (0, (l : Int)), (0, y)] sh sl h3 (fun r2 sh2 sl2 h2 => ∃ v', ((0 : Nat), if st.2 = -1 then -1 else if y = 0 then st.2 else st.1) = (0, v') ∧ r2 = (0, v') ∧ sh2.length ≤ sh.length + 9 ∧ sl2 ≤ sl + 900 ∧ INV sh2 h2) := by
    have F4 : Fr XcP [(60, 14), (60, 19), (85, 0)] h (setH h3 85 0 0) := (F3.mono rfl).set rfl
    have M4 : MJ sh (setH h3 85 0 0) (h 87) n m L := M.of F4 (by decide +kernel) (by decide +kernel)
    rw [B_251_0 X3, sp_mLetter M4.1 hx (by rw [M4.2.1]; exact W.1.2.2.1) hm3, if_pos c1]
    simp only [pushR0]
    rw [B_251_10 M4.1, show w32 1 = 1 from rfl, if_neg (by decide), hy.w, sp_in hy.l ⟨by decide, by decide⟩ ⟨by decide, by decide⟩, if_pos (by omega)]
    simp only [pushR0]
    rw [B_251_20 M4.1, show w32 1 = 1 from rfl, if_pos (by decide)]
    refine sp_mquOn M4 hl (fun h5 F5 => ?_)
    have M5 : MJ sh h5 (h 87) n m L := M4.fr F5
    simp only [pushR0]
    rw [B_251_30 M5.1]
    refine lp_xaM (q0 := quOnA (h 87) L l) hy M5 hl hc c 0 h5 (quOnA (h 87) L l, -1) _ _ _ _ (by omega) rfl (Fr.refl h5) M5.2.1 E0 (fun h6 F6 e6 => ?_)
    rw [hst]
    have F7 : Fr MP MS (setH h3 85 0 0) h6 := by
      refine F5.trans (fun q k q1 q2 => ?_)
      by_cases e : q = 87
      · subst e; rw [e6, M5.2.1]
      · exact F6 q k (by simp [e]; simpa using q1) q2
    exact ⟨_, rfl, rfl, by omega, by omega, I.two F4 F7 (by decide +kernel) (by decide +kernel) (by decide +kernel) (by decide +kernel)⟩
  simp only [pushR0]
  rw [B_122_25 X3, hy.w]
  obtain ⟨e1, e2⟩ := E3
  rcases e2 with ⟨e2, e3⟩ | ⟨e2, e3⟩
  · rw [if_pos (show quOnA (h 87) L l ≤ st.1 by omega), w32_0, if_neg (by simp)]
    rw [if_pos e2] at hM
    exact hM
  · rw [if_neg (show ¬ quOnA (h 87) L l ≤ st.1 by omega), show w32 1 = 1 from rfl, if_pos (by decide)]
    rw [if_neg (show ¬ st.2 = -1 by omega)] at hM
    by_cases y0 : y = 0
    · rw [if_pos y0] at hM
      rw [if_neg (by simpa using y0), R3.2 e2.1]; exact hM
    · rw [if_neg y0] at hM
      rw [if_pos y0, R3.1]; exact hM
