/-! terms -/
theorem Live.term {sh : Shp} {h h2 : Sto} {n m k : Nat} {L : List Law} {v : Int} (H : Live sh h n m L) (F : Fr [10, 87] [(1, 9), (1, 10), (44, 3), (0, 16), (85, 0), (85, 8), (85, 1)] h h2) (e87 : h2 87 = up (h 87) (5 + k) v) (hk : (k = 0 ∧ (0 ≤ v ∧ v ≤ 999) ∧ h2 1 9 = h 1 9 ∧ h2 1 10 = h 1 10 ∧ h2 10 = up (h 10) 0 v) ∨ (k = 1 ∧ (0 ≤ v ∧ v ≤ 10) ∧ h2 1 9 = v ∧ h2 1 10 = h 1 10 ∧ h2 10 = h 10) ∨ (k = 2 ∧ (0 ≤ v ∧ v ≤ 9) ∧ h2 1 9 = h 1 9 ∧ h2 1 10 = v ∧ h2 10 = h 10)) : Live sh h2 n m L := by
  obtain ⟨S, R, W, B⟩ := H
  have hS := S
  have hW := W
  have hn10 := W.1.2.1
  have hm3 := W.1.2.2.2.1
  obtain ⟨⟨s0, s4, s6, s9, s10, s11, s13⟩, s2, s3, s4', s5⟩ := S
  obtain ⟨w1, w2, w3, w4, w5⟩ := W
  obtain ⟨r1, r2, r3, r4⟩ := R
  obtain ⟨b1, b2, b3, b4, b5⟩ := B
  unfold Live
  rw [e87]
  have hk2 : k ≤ 2 := by omega
  refine ⟨⟨?_, fun s hs => ?_, fun l hl => ?_, fun i hi => ?_, hS.laws (F.row (1 + 7) rfl) (F.cg (R := []) (C := []) (by decide +kernel)).2.2⟩, ⟨?_, fun s hs => ?_, fun l hl => ?_, fun l i hl hi => ?_⟩, ⟨?_, fun s hs => ?_, fun l hl => ?_, fun i hi => ?_, SW.laws hW (fun i hi => up_n (by omega))⟩, ?_, fun s hs => ?_, fun l hl => ?_, fun l i hl hi => ?_, fun l i k hl hik hk => ?_⟩
  · rw [F.at 1 0 rfl, F.at 1 4 rfl, F.at 1 6 rfl, F.at 1 11 rfl, F.at 1 13 rfl, up_n (j := 2) (by omega), up_n (j := 4) (by omega)]
    refine ⟨s0, s4, s6, ?_, ?_, s11, s13⟩
    · rcases hk with ⟨rfl, _, h1, h2, _⟩ | ⟨rfl, _, h1, h2, _⟩ | ⟨rfl, _, h1, h2, _⟩
      · rw [h1, up_n (by omega)]; exact s9
      · rw [h1, up_s]
      · rw [h1, up_n (by omega)]; exact s9
    · rcases hk with ⟨rfl, _, h1, h2, _⟩ | ⟨rfl, _, h1, h2, _⟩ | ⟨rfl, _, h1, h2, _⟩
      · rw [h2, up_n (by omega)]; exact s10
      · rw [h2, up_n (by omega)]; exact s10
      · rw [h2, up_s]
  · rw [F.row (1 + 1) rfl, F.row (1 + 2) rfl, F.row (1 + 3) rfl, up_n (by omega), up_n (by omega), up_n (by omega)]; exact s2 s hs
  · rw [F.row (1 + 4) rfl, up_n (by omega)]; exact s3 l hl
  · rw [up_n (by omega)] at hi
    rw [F.row (1 + 5) rfl, F.row (1 + 6) rfl, up_n (by omega), up_n (by omega)]; exact s4' i hi
  · rcases hk with ⟨rfl, _, _, _, h3⟩ | ⟨rfl, _, _, _, h3⟩ | ⟨rfl, _, _, _, h3⟩
    · rw [h3, up_s, up_s]
    · rw [h3, up_n (by omega)]; exact r1
    · rw [h3, up_n (by omega)]; exact r1
  · rw [up_n (j := 18 + s) (by omega), up_n (j := 8 + s) (by omega)]
    rcases hk with ⟨rfl, _, _, _, h3⟩ | ⟨rfl, _, _, _, h3⟩ | ⟨rfl, _, _, _, h3⟩
    · rw [h3, up_n (by omega), up_n (by omega)]; exact r2 s hs
    · rw [h3]; exact r2 s hs
    · rw [h3]; exact r2 s hs
  · rw [up_n (j := 31 + l) (by omega), up_n (j := 28 + l) (by omega)]
    rcases hk with ⟨rfl, _, _, _, h3⟩ | ⟨rfl, _, _, _, h3⟩ | ⟨rfl, _, _, _, h3⟩
    · rw [h3, up_n (by omega), up_n (by omega)]; exact r3 l hl
    · rw [h3]; exact r3 l hl
    · rw [h3]; exact r3 l hl
  · have := b3 l hl
    rw [up_n (j := 31 + l) (by omega)] at hi
    rw [up_n (j := 34 + 5 * l + i) (by omega)]
    rcases hk with ⟨rfl, _, _, _, h3⟩ | ⟨rfl, _, _, _, h3⟩ | ⟨rfl, _, _, _, h3⟩
    · rw [h3, up_n (by omega)]; exact r4 l i hl hi
    · rw [h3]; exact r4 l i hl hi
    · rw [h3]; exact r4 l i hl hi
  · rw [up_n (j := 0) (by omega), up_n (j := 1) (by omega), up_n (j := 2) (by omega), up_n (j := 3) (by omega), up_n (j := 4) (by omega)]
    have e6 : 0 ≤ up (h 87) (5 + k) v 6 ∧ up (h 87) (5 + k) v 6 ≤ 10 := by unfold up; split <;> omega
    have e7 : 0 ≤ up (h 87) (5 + k) v 7 ∧ up (h 87) (5 + k) v 7 ≤ 9 := by unfold up; split <;> omega
    omega
  · rw [up_n (by omega), up_n (by omega), up_n (by omega)]; exact w2 s hs
  · rw [up_n (by omega)]; exact w3 l hl
  · rw [up_n (by omega)] at hi
    rw [up_n (by omega), up_n (by omega)]; exact w4 i hi
  · have e5 : 0 ≤ up (h 87) (5 + k) v 5 ∧ up (h 87) (5 + k) v 5 ≤ 999 := by unfold up; split <;> omega
    exact e5
  · rw [up_n (by omega), up_n (by omega)]; exact b2 s hs
  · rw [up_n (by omega), up_n (by omega)]; exact b3 l hl
  · have := b3 l hl
    rw [up_n (j := 31 + l) (by omega)] at hi
    obtain ⟨s, h1, h2, h3⟩ := b4 l i hl hi
    exact ⟨s, by rw [up_n (by omega)]; exact h1, h2, by rw [up_n (by omega)]; exact h3⟩
  · have := b3 l hl
    rw [up_n (j := 31 + l) (by omega)] at hk
    rw [up_n (by omega), up_n (by omega)]; exact b5 l i _ hl hik hk
theorem op_terms {x y : Int} (hx : I32 x) (hy : I32 y) : OpOK 44 186 0 [(0, x), (0, y)] := by
  intro sc d sh sl h I
  have X := I.fx
  obtain ⟨n, m, L, Lv, Hs⟩ := I.live
  have hn10 := Lv.2.2.1.1.2.1
  have Xr : ∀ v, Fix sh (cTell h v) := fun v => cTell_fr.fix X (by decide +kernel)
  have Xr2 : ∀ v, Fix sh (setH (cTell h v) 85 0 0) := fun v => (Xr v).s (by decide +kernel)
  have hbad : ∀ j3, ¬ ((x = 0 ∧ 0 ≤ y ∧ y ≤ 999) ∨ (x = 1 ∧ 0 ≤ y ∧ y ≤ 10) ∨ (x = 2 ∧ 0 ≤ y ∧ y ≤ 9)) → WM sc (d + 99) 14 [(2, 0), (0, -1)] sh sl h (fun r sh1 sl1 h1 => WF sc (d + 99 + 1) 44 26 [(2, 0), (0, x), (0, y), j3] (pushR r []) sh1 sl1 h1 (fun r sh1 sl1 h1 => WM sc (d + 100) 186 [(2, 85), (0, x), (0, y)] sh1 sl1 h1 (fun r2 sh2 sl2 h2 => ∃ v, r = (0, v) ∧ r2 = (0, v) ∧ sh2.length ≤ sh.length + 9 ∧ sl2 ≤ sl + 900 ∧ INV sh2 h2))) := by
    intro j3 hb
    rw [sp_refT X (by omega)]
    simp only [pushR0]
    rw [B_44_26 (Xr _), B_186_0 (Xr _), hx.w, hy.w]
    have hend : ∀ x3, WM sc (d + 99) 159 [(2, 85), (0, -1)] sh sl (setH (cTell h (-1)) 85 0 0) (fun r sh1 sl1 h1 => WF sc (d + 99 + 1) 186 70 [(2, 85), (0, x), (0, y), (0, x3)] (pushR r []) sh1 sl1 h1 (fun r2 sh2 sl2 h2 => ∃ v, ((0 : Nat), (-1 : Int)) = (0, v) ∧ r2 = (0, v) ∧ sh2.length ≤ sh.length + 9 ∧ sl2 ≤ sl + 900 ∧ INV sh2 h2)) := by
      intro x3
      rw [sp_telT (Xr2 _) (by omega)]
      simp only [pushR0]
      rw [B_186_70 (mTell_fr.fix (Xr2 _) (by decide +kernel))]
      exact ⟨_, rfl, rfl, by omega, by omega, I.ref (by omega)⟩
    by_cases h0 : x = 0
    · rw [if_neg (by omega), sp_in hy.l ⟨by decide, by decide⟩ ⟨by decide, by decide⟩, if_neg (by omega)]
      simp only [pushR0]
      rw [B_186_18 (Xr2 _), w32_0, if_neg (by simp)]; exact hend _
    · rw [if_pos h0]
      by_cases h1 : x = 1
      · rw [if_neg (by omega), sp_in hy.l ⟨by decide, by decide⟩ ⟨by decide, by decide⟩, if_neg (by omega)]
        simp only [pushR0]
        rw [B_186_35 (Xr2 _), w32_0, if_neg (by simp)]; exact hend _
      · rw [if_pos h1]
        by_cases h2 : x = 2
        · rw [if_neg (by omega), sp_in hy.l ⟨by decide, by decide⟩ ⟨by decide, by decide⟩, if_neg (by omega)]
          simp only [pushR0]
          rw [B_186_52 (Xr2 _), w32_0, if_pos rfl]; exact hend _
        · rw [if_pos h2]; exact hend _
  have hgood : ∀ (k : Nat) (h1 : Sto) (was : Int) , x = (k : Int) → was = h 87 (5 + k) → Fr [10] [(1, 9), (1, 10), (44, 3), (0, 16)] h h1 → h1 0 16 = 0 → h1 44 3 = 0 → ((k = 0 ∧ (0 ≤ y ∧ y ≤ 999) ∧ h1 1 9 = h 1 9 ∧ h1 1 10 = h 1 10 ∧ h1 10 = up (h 10) 0 y) ∨ (k = 1 ∧ (0 ≤ y ∧ y ≤ 10) ∧ h1 1 9 = y ∧ h1 1 10 = h 1 10 ∧ h1 10 = h 10) ∨ (k = 2 ∧ (0 ≤ y ∧ y ≤ 9) ∧ h1 1 9 = h 1 9 ∧ h1 1 10 = y ∧ h1 10 = h 10)) → WM sc (d + 100) 186 [(2, 85), (0, x), (0, y)] sh sl h1 (fun r2 sh2 sl2 h2 => ∃ v, ((0 : Nat), was) = (0, v) ∧ r2 = (0, v) ∧ sh2.length ≤ sh.length + 9 ∧ sl2 ≤ sl + 900 ∧ INV sh2 h2) := by
    intro k h1 was hxk hw F z1 z2 hk
    have X1 : Fix sh h1 := F.fix X (by decide +kernel)
    have X2 : Fix sh (setH h1 85 0 0) := X1.s (by decide +kernel)
    have X3 : Fix sh (setH (setH h1 85 0 0) 85 8 0) := X2.s (by decide +kernel)
    have hk2 : k ≤ 2 := by omega
    have hend : ∀ x3, WM sc (d + 99) 187 [(2, 85), (0, 5 + x), (0, y)] sh sl (setH (setH h1 85 0 0) 85 8 0) (fun r sh1 sl1 h1 => WF sc (d + 99 + 1) 186 84 [(2, 85), (0, x), (0, y), (0, x3)] (pushR r []) sh1 sl1 h1 (fun r2 sh2 sl2 h2 => ∃ v, ((0 : Nat), was) = (0, v) ∧ r2 = (0, v) ∧ sh2.length ≤ sh.length + 9 ∧ sl2 ≤ sl + 900 ∧ INV sh2 h2)) := by
      intro x3
      rw [B_187_0 X3, w32_nat (a := 5 + x) (n := 5 + k) (by omega) (by omega), Int.toNat_natCast]
      refine ⟨⟨by omega, by omega⟩, ⟨by omega, by omega⟩, ?_⟩
      have e87 : setH (setH h1 85 0 0) 85 8 0 87 = h 87 := by rw [setH_o (by decide), setH_o (by decide), F.row 87 rfl]
      simp only [pushR0]
      rw [B_186_84 ((X3.a (p := 87) (by decide +kernel)).s (by decide +kernel)), e87, ← hw]
      refine ⟨_, rfl, rfl, by omega, by omega, ?_⟩
      have Fa : Fr [10, 87] [(1, 9), (1, 10), (44, 3), (0, 16), (85, 0), (85, 8), (85, 1)] h (setH (setH (setH (setH h1 85 0 0) 85 8 0) 87 (5 + k) y) 85 1 0) := ((((F.mono rfl).set (p := 85) (k := 0) (v := 0) rfl).set (p := 85) (k := 8) (v := 0) rfl).setP (p := 87) (k := 5 + k) (v := y) rfl).set rfl
      have e10 : setH (setH (setH (setH h1 85 0 0) 85 8 0) 87 (5 + k) y) 85 1 0 10 = h1 10 := by simp (disch := omega) only [setH_o]
      have e1 : setH (setH (setH (setH h1 85 0 0) 85 8 0) 87 (5 + k) y) 85 1 0 1 = h1 1 := by simp (disch := omega) only [setH_o]
      refine I.fin Fa (by decide +kernel) (by decide +kernel) ?_ ⟨n, m, L, Lv.term (k := k) (v := y) Fa ?_ ?_, Hs.zero ?_ ?_ (Fa.at 44 2 rfl)⟩
      · rw [setH_self]; simp (disch := omega) only [setH_o]; exact z1
      · rw [setH_o (by decide), setH_r, e87]
      · rw [e10, e1]; exact hk
      · rw [setH_k (by decide), setH_o (by decide), setH_self]
      · simp (disch := omega) only [setH_o]; exact z2
    rw [B_186_0 X1, hx.w, hy.w]
    rcases hk with ⟨rfl, hv, _⟩ | ⟨rfl, hv, _⟩ | ⟨rfl, hv, _⟩
    · rw [if_neg (by omega), sp_in hy.l ⟨by decide, by decide⟩ ⟨by decide, by decide⟩, if_pos (by omega)]
      simp only [pushR0]
      rw [B_186_18 X2, show w32 1 = 1 from rfl, if_pos (by decide)]; exact hend _
    · rw [if_pos (by omega), if_neg (by omega), sp_in hy.l ⟨by decide, by decide⟩ ⟨by decide, by decide⟩, if_pos (by omega)]
      simp only [pushR0]
      rw [B_186_35 X2, show w32 1 = 1 from rfl, if_pos (by decide)]; exact hend _
    · rw [if_pos (by omega), if_pos (by omega), if_neg (by omega), sp_in hy.l ⟨by decide, by decide⟩ ⟨by decide, by decide⟩, if_pos (by omega)]
      simp only [pushR0]
      rw [B_186_52 X2, show w32 1 = 1 from rfl, if_neg (by decide)]; exact hend _
  obtain ⟨S, R, W, B⟩ := Lv
  rw [B_44_0 X, hx.w, hy.w]
  by_cases c1 : x < 0
  · rw [if_pos c1]; exact hbad _ (by omega)
  rw [if_neg c1]
  by_cases c2 : 2 < x
  · rw [if_pos c2]; exact hbad _ (by omega)
  rw [if_neg c2]
  by_cases c3 : y < 0
  · rw [if_pos c3]; exact hbad _ (by omega)
  rw [if_neg c3, B_45_0 X, hx.w]
  rcases (show x = 0 ∨ x = 1 ∨ x = 2 by omega) with e | e | e
  · rw [if_neg (by omega)]
    simp only [pushR0]
    rw [B_44_18 X, hy.w, show w32 999 = 999 from rfl]
    by_cases c4 : y ≤ 999
    · rw [if_pos c4, B_46_0 X, hx.w, if_neg (by omega), sp_today X.bd]
      simp only [pushR0]
      rw [B_46_14 X]
      simp only [pushR0]
      rw [B_44_32 X, hx.w, if_neg (by omega), sp_setDay X.bd]
      have X1 : Fix sh (setH h 10 0 y) := X.a (by decide +kernel)
      have X2 : Fix sh (setH (setH h 10 0 y) 44 3 0) := X1.s (by decide +kernel)
      have X3 : Fix sh (setH (setH (setH h 10 0 y) 44 3 0) 0 16 0) := X2.s (by decide +kernel)
      simp only [pushR9, toNatL]
      rw [B_44_48 X1, sp_granted X2]
      simp only [pushR0]
      rw [B_44_88 X3]
      refine hgood 0 _ _ e R.1 ((((Fr.refl h).setP rfl).set rfl).set rfl) (setH_self _ _ _ _) (by rw [setH_o (by decide), setH_self]) (Or.inl ⟨rfl, by omega, ?_, ?_, ?_⟩) <;> simp (disch := omega) only [setH_o, setH_r]
    · rw [if_neg c4]; exact hbad _ (by omega)
  · rw [if_pos (by omega), if_neg (by omega)]
    simp only [pushR0]
    rw [B_44_18 X, hy.w, show w32 10 = 10 from rfl]
    by_cases c4 : y ≤ 10
    · rw [if_pos c4, B_46_0 X, hx.w, if_pos (by omega), if_neg (by omega)]
      simp only [pushR0]
      rw [B_44_32 X, hx.w, if_pos (by omega), if_neg (by omega)]
      have X2 : Fix sh (setH (setH h 1 9 y) 44 3 0) := (X.s (by decide +kernel)).s (by decide +kernel)
      have X3 : Fix sh (setH (setH (setH h 1 9 y) 44 3 0) 0 16 0) := X2.s (by decide +kernel)
      rw [sp_granted X2]
      simp only [pushR0]
      rw [B_44_88 X3]
      refine hgood 1 _ _ e S.1.2.2.2.1 ((((Fr.refl h).set rfl).set rfl).set rfl) (setH_self _ _ _ _) (by rw [setH_o (by decide), setH_self]) (Or.inr (Or.inl ⟨rfl, by omega, ?_, ?_, ?_⟩)) <;> simp (disch := omega) only [setH_o, setH_r, up_s, up_n]
    · rw [if_neg c4]; exact hbad _ (by omega)
  · rw [if_pos (by omega), if_pos (by omega)]
    simp only [pushR0]
    rw [B_44_18 X, hy.w, show w32 9 = 9 from rfl]
    by_cases c4 : y ≤ 9
    · rw [if_pos c4, B_46_0 X, hx.w, if_pos (by omega), if_pos (by omega)]
      simp only [pushR0]
      rw [B_44_32 X, hx.w, if_pos (by omega), if_pos (by omega)]
      have X2 : Fix sh (setH (setH h 1 10 y) 44 3 0) := (X.s (by decide +kernel)).s (by decide +kernel)
      have X3 : Fix sh (setH (setH (setH h 1 10 y) 44 3 0) 0 16 0) := X2.s (by decide +kernel)
      rw [sp_granted X2]
      simp only [pushR0]
      rw [B_44_88 X3]
      refine hgood 2 _ _ e S.1.2.2.2.2.1 ((((Fr.refl h).set rfl).set rfl).set rfl) (setH_self _ _ _ _) (by rw [setH_o (by decide), setH_self]) (Or.inr (Or.inr ⟨rfl, by omega, ?_, ?_, ?_⟩)) <;> simp (disch := omega) only [setH_o, setH_r, up_s, up_n]
    · rw [if_neg c4]; exact hbad _ (by omega)
