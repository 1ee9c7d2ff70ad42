theorem op_madeUp {x y : Int} (hx : I32 x) (hy : I32 y) : OpOK 109 240 0 [(0, x), (0, y)] := by
  intro sc d sh sl h I
  have X := I.fx
  obtain ⟨n, m, L, Lv, Hs⟩ := I.live
  have C := Lv.cj X
  have M := Lv.mj X I.od
  have W := M.2.2.2.1
  have B := M.2.2.2.2
  have hn10 := W.1.2.1
  have hm3 := W.1.2.2.2.1
  have bad : ¬ ((0 ≤ x ∧ x < m) ∧ 0 ≤ y ∧ y ≤ 6) → WM sc (d + 100) 240 [(2, 85), (0, x), (0, y)] sh sl h (fun r2 sh2 sl2 h2 => ∃ v, ((0 : Nat), (-1 : Int)) = (0, v) ∧ r2 = (0, v) ∧ sh2.length ≤ sh.length + 9 ∧ sl2 ≤ sl + 900 ∧ INV sh2 h2) := by
    intro hb
    have X2 : Fix sh (setH h 85 0 0) := X.s (by decide +kernel)
    rw [B_240_0 X, sp_mLetter X2 hx (by rw [setH_o (by decide)]; exact W.1.2.2.1) hm3]
    simp only [pushR0]
    rw [B_240_10 X2]
    by_cases c1 : 0 ≤ x ∧ x < m
    · rw [if_pos c1, show w32 1 = 1 from rfl, if_neg (by decide), hy.w, sp_in hy.l ⟨by decide, by decide⟩ ⟨by decide, by decide⟩, if_neg (fun q => hb ⟨c1, q⟩)]
      simp only [pushR0]
      rw [B_240_22 X2, w32_0, if_neg (by simp)]
      exact ⟨_, rfl, rfl, by omega, by omega, I.thrown⟩
    · rw [if_neg c1, w32_0, if_pos rfl]
      exact ⟨_, rfl, rfl, by omega, by omega, I.thrown⟩
  rw [B_109_0 X, sp_cLetter X hx C.2.1.1.2.1 hm3]
  simp only [pushR0]
  rw [B_109_5 X, hy.w]
  by_cases c1 : 0 ≤ x ∧ x < m
  case neg => rw [if_neg c1, w32_0, if_pos rfl]; exact bad (fun q => c1 q.1)
  rw [if_pos c1, show w32 1 = 1 from rfl, if_neg (by decide)]
  by_cases c2 : y < 0
  · rw [if_pos c2]; exact bad (by omega)
  rw [if_neg c2]
  by_cases c3 : y ≤ 6
  case neg => rw [if_neg c3]; exact bad (by omega)
  rw [if_pos c3]
  clear bad
  obtain ⟨l, rfl⟩ : ∃ l : Nat, x = l := ⟨x.toNat, by omega⟩
  have hl : l < m := by omega
  obtain ⟨fee, hfe⟩ : ∃ fee, h 87 (79 + l) = fee := ⟨_, rfl⟩
  have hf : 0 ≤ fee ∧ fee ≤ 60 := by rw [← hfe]; exact W.2.2.1 l hl
  have cb : ∀ c, c < n → 0 ≤ countsA (h 87) L c ∧ countsA (h 87) L c ≤ 60 := fun c hc => countsA_bd W hc
  have qb : ∀ a b, a < n → b < n → 0 ≤ quarrelA (h 87) L a b ∧ quarrelA (h 87) L a b ≤ 20 := fun a b ha hb => quarrelA_bd W ha hb
  have T0 : tV (rdP (h 87)) n (fun _ => 0) 0 := fun i hi => by omega
  have N0 : tN (fun _ => 0) 0 := fun i j _ hj => by omega
  obtain ⟨BF, hBF⟩ : ∃ BF, mC (countsA (h 87) L) (quarrelA (h 87) L) (barredA (h 87) L) (rdP (h 87)) fee n 5 0 (fun _ => 0) (updB (countsA (h 87) L) (quarrelA (h 87) L) fee ((100000000, 100000000, fun _ => 0) : Bst) (fun _ => 0) 0) = BF := ⟨_, rfl⟩
  -- the reference's side, behind the class's
  have hM : ∀ (h1 : Sto) (v : Int), Fr [48, 49, 81, 82, 61, 62, 63, 64, 65, 66, 69] [(60, 11), (60, 12), (60, 13), (60, 14), (60, 15)] h h1 → (WB BF → v = (if BF.2.1 = 100000000 then -1 else if y = 0 then BF.1 else if y = 1 then BF.2.1 else if BF.2.1 ≤ y - 2 then -1 else BF.2.2 (y - 2).toNat)) → WM sc (d + 100) 240 [(2, 85), (0, (l : Int)), (0, y)] sh sl h1 (fun r2 sh2 sl2 h2 => ∃ v', ((0 : Nat), v) = (0, v') ∧ r2 = (0, v') ∧ sh2.length ≤ sh.length + 9 ∧ sl2 ≤ sl + 900 ∧ INV sh2 h2) := by
    intro h1 v F1 hv
    have X1 : Fix sh h1 := F1.fix X (by decide +kernel)
    have F2 : Fr [48, 49, 81, 82, 61, 62, 63, 64, 65, 66, 69] [(60, 11), (60, 12), (60, 13), (60, 14), (60, 15), (85, 0)] h (setH h1 85 0 0) := (F1.mono rfl).set rfl
    have M2 : MJ sh (setH h1 85 0 0) (h 87) n m L := M.of F2 (by decide +kernel) (by decide +kernel)
    rw [B_240_0 X1, sp_mLetter M2.1 hx (by rw [M2.2.1]; exact W.1.2.2.1) hm3, if_pos c1]
    simp only [pushR0]
    rw [B_240_10 M2.1, show w32 1 = 1 from rfl, if_neg (by decide), hy.w, sp_in hy.l ⟨by decide, by decide⟩ ⟨by decide, by decide⟩, if_pos (by omega)]
    simp only [pushR0]
    rw [B_240_22 M2.1, show w32 1 = 1 from rfl, if_pos (by decide)]
    refine sp_fill M2 (fun h3 F3 Fi e109 => ?_)
    have M3 : MJ sh h3 (h 87) n m L := M2.of F3 (by decide +kernel) (by decide +kernel)
    simp only [pushR9]
    rw [B_240_31 M3.1, w32_nat (a := 79 + (l : Int)) (n := 79 + l) (by omega) (by omega), Int.toNat_natCast, M3.2.1, hfe]
    refine ⟨⟨by omega, by omega⟩, ?_⟩
    rw [B_242_0 M3.1]
    refine sp_ready M3 ?_
    simp only [pushR0]
    rw [B_242_4 M3.1]
    have K3 : MkM sh h3 (h 87) n m L := ⟨M3, Fi, e109⟩
    have F4 : Fr MkP MkS h3 (setH (setH h3 85 47 100000000) 85 48 100000000) := ((Fr.refl h3).set rfl).set rfl
    refine sp_take (k := 0) (t := fun _ => 0) (B := (100000000, 100000000, fun _ => 0)) (K3.fr F4) hf (by omega) (fun i hi => by omega) T0 N0 ⟨by rw [setH_k (by decide), setH_self], by rw [setH_self], Or.inl ⟨rfl, rfl⟩, fun q => by have q' : (100000000 : Int) ≤ 5 := q; omega⟩ (fun h5 F5 HB5 => ?_)
    have F5' : Fr MkP MkS h3 h5 := F4.trans (F5.mono rfl)
    simp only [pushR9]
    rw [B_242_25 (F5'.fix M3.1 (by decide +kernel))]
    refine lp_mkM K3 hf 5 0 (fun _ => 0) _ _ _ (by omega) rfl T0 N0 (F5'.setP rfl) (fun i hi => by omega) (setH_self _ _ _ _) (by unfold BM; rw [setH_o (by decide), setH_o (by decide)]; exact HB5) (fun h6 Kx hK F6 e6 HB6 => ?_)
    rw [hBF] at HB6
    have X6 : Fix sh h6 := F6.fix M3.1 (by decide +kernel)
    have F7 : Fr [103, 105, 107, 108, 109, 110, 111] [(85, 34), (85, 38), (85, 39), (85, 40), (85, 47), (85, 48)] (setH h1 85 0 0) h6 := (F3.mono rfl).trans (F6.mono rfl)
    have IE : INV sh h6 := I.two F2 F7 (by decide +kernel) (by decide +kernel) (by decide +kernel) (by decide +kernel)
    obtain ⟨g1, g2, g3, g4⟩ := HB6
    have hv := hv g3
    rw [B_242_34 X6, hK, show ((0 : Nat) : Int) - 1 = -1 from rfl, show w32 (-1) = -1 from rfl, if_pos (by decide)]
    simp only [pushR9]
    have r48 : w32 (h6 85 48) = BF.2.1 := by rw [g2]; rcases g3 with z | z <;> exact w32_id (by omega) (by omega)
    rw [B_240_44 X6, r48, hy.w, w32_id (a := y - 2) (by omega) (by omega), g1, g2]
    by_cases d1 : BF.2.1 = 100000000
    · rw [if_pos d1] at hv
      rw [if_neg (fun z => z d1)]
      exact ⟨_, by rw [hv], rfl, by omega, by omega, IE⟩
    rw [if_neg d1] at hv
    rw [if_pos d1]
    by_cases d2 : y = 0
    · rw [if_pos d2] at hv
      rw [if_neg (fun z => z d2)]
      exact ⟨_, by rw [hv], rfl, by omega, by omega, IE⟩
    rw [if_neg d2] at hv
    rw [if_pos d2]
    by_cases d3 : y = 1
    · rw [if_pos d3] at hv
      rw [if_neg (fun z => z d3)]
      exact ⟨_, by rw [hv], rfl, by omega, by omega, IE⟩
    rw [if_neg d3] at hv
    rw [if_pos d3]
    by_cases d4 : BF.2.1 ≤ y - 2
    · rw [if_pos d4] at hv ⊢
      exact ⟨_, by rw [hv], rfl, by omega, by omega, IE⟩
    · rw [if_neg d4] at hv ⊢
      have b5 : BF.2.1 ≤ 5 := by rcases g3 with z | z; exact absurd z.2 d1; omega
      rw [g4 b5 (y - 2).toNat (by omega)]
      exact ⟨⟨by omega, by omega⟩, _, by rw [hv], rfl, by omega, by omega, IE⟩
  have e5 : h 5 l = fee := by rw [C.2.1.2.2.1 l hl]; exact hfe
  rw [w32_id (a := (l : Int)) (by omega) (by omega), Int.toNat_natCast, e5]
  refine ⟨⟨by omega, by omega⟩, ?_⟩
  rw [B_110_0 X]
  obtain ⟨h0, hh0⟩ : ∃ h0, setH (setH (setH h 60 12 fee) 60 15 (-1)) 60 14 (-1) = h0 := ⟨_, rfl⟩
  have F0 : Fr [] [(60, 12), (60, 14), (60, 15)] h h0 := by rw [← hh0]; exact (((Fr.refl h).set rfl).set rfl).set rfl
  have e12 : h0 60 12 = fee := by rw [← hh0, setH_k (by decide), setH_k (by decide), setH_self]
  have e15 : h0 60 15 = -1 := by rw [← hh0, setH_k (by decide), setH_self]
  rw [hh0]
  have C0 : CJ sh h0 (h 87) n m L 10 := C.of F0 (by decide +kernel) (by decide +kernel) (F0.row 10 rfl)
  rw [B_111_0 C0.1]
  refine lp_open C0 (fun h1 F1 O1 => ?_) n 0 _ _ (by omega) rfl ((Fr.refl h0).set rfl) ⟨setH_self _ _ _ _, fun i hi => absurd hi (by simp [cnt]), fun c hc => by omega⟩
  have X1 : Fix sh h1 := F1.fix C0.1 (by decide +kernel)
  simp only [pushR9]
  rw [B_110_19 X1]
  refine sp_rch (cn := countsA (h 87) L) (rd := rdP (h 87)) X1 hn10 O1.1 O1.2.1 O1.2.2 cb (fun h2 F2 R2 => ?_)
  have X2 : Fix sh h2 := F2.fix X1 (by decide +kernel)
  simp only [pushR9]
  rw [B_110_23 X2, B_113_0 X2]
  have F02 : Fr [48, 49, 81, 82, 61, 62, 63, 64, 65, 66, 69] [(60, 11), (60, 12), (60, 13), (60, 14), (60, 15)] h h2 := ((F0.mono rfl).trans (F1.mono rfl)).trans (F2.mono rfl)
  refine lp_need (cn := countsA (h 87) L) (rd := rdP (h 87)) (n := n) (most := 5) X2 (by omega) (by omega) R2 (fun z hz => ?_) 6 0 _ (by omega) rfl (fun j x hj => by omega)
  simp only [pushR0]
  rw [B_110_29 X2]
  rcases hz with ⟨hz, hz2⟩ | ⟨v, hz, hv5, hz2⟩
  · rw [hz, show w32 (-1) = -1 from rfl, if_neg (by simp)]
    simp only [pushR0]
    rw [B_109_36 X2, w32_0, if_neg (by simp)]
    refine hM h2 _ F02 (fun _ => ?_)
    have eB : BF = ((100000000, 100000000, fun _ => 0) : Bst) := by
      rw [← hBF]
      refine noimp (l2 := 0) (fun c hc => (cb c hc).1) (fun t k c k1 T hc ok => ?_) 5 0 _ (Or.inr rfl) T0 (fun j x hj hx he => ?_)
      · obtain ⟨s, es, h1, h2⟩ := T (k - 1) (by omega)
        unfold dQ; rw [if_neg (by omega), es, Int.toNat_natCast]; exact (qb s c h1 hc).1
      · exact absurd (hz2 j x hj hx (by rw [he]; show fee - psum _ 0 = fee; show fee - 0 = fee; omega)) id
    rw [eB, if_pos rfl]
  rw [hz, w32_id (a := (v : Int)) (by omega) (by omega), if_pos (by omega)]
  have C2 : CJ sh h2 (h 87) n m L 10 := C.of F02 (by decide +kernel) (by decide +kernel) (F02.row 10 rfl)
  refine sp_fq C2 (by rw [F2.row 60 rfl]; exact O1.1) (fun i hi => by rw [F2.row 61 rfl]; exact O1.2.1 i hi) (fun h3 F3 Q3 => ?_)
  have X3 : Fix sh h3 := F3.fix X2 (by decide +kernel)
  have F03 : Fr [48, 49, 81, 82, 61, 62, 63, 64, 65, 66, 69] [(60, 11), (60, 12), (60, 13), (60, 14), (60, 15)] h h3 := F02.trans (F3.mono rfl)
  simp only [pushR9]
  rw [B_110_39 X3]
  have K3 : MkC h3 (countsA (h 87) L) (quarrelA (h 87) L) (barredA (h 87) L) (rdP (h 87)) fee (h3 60 13) n := by
    refine ⟨by rw [F3.at 60 11 rfl, F2.row 60 rfl]; exact O1.1, fun i hi => by rw [F3.row 61 rfl, F2.row 61 rfl]; exact O1.2.1 i hi, fun c hc hr => by rw [F3.row 62 rfl, F2.row 62 rfl]; exact O1.2.2 c hc hr, by rw [F3.at 60 12 rfl, F2.row 60 rfl, F1.at 60 12 rfl]; exact e12, rfl, fun a b ha hb hra hrb hne => ?_, fun j x hj hx hr => by rw [F3.row 65 rfl]; exact R2 j x hj hx hr⟩
    obtain ⟨i, hi, hia⟩ := gpA_sur n a ha hra
    obtain ⟨k, hk, hkb⟩ := gpA_sur n b hb hrb
    have := Q3.2 i k (Or.inl hi) hi hk (fun q => hne (by rw [← hia, ← hkb, q]))
    rw [hia, hkb] at this
    exact ⟨this.1, this.2.1⟩
  have hl2 : ∀ a b, a < n → b < n → rdP (h 87) a = true → rdP (h 87) b = true → a ≠ b → h3 60 13 ≤ quarrelA (h 87) L a b := fun a b ha hb hra hrb hne => by
    obtain ⟨i, hi, hia⟩ := gpA_sur n a ha hra
    obtain ⟨k, hk, hkb⟩ := gpA_sur n b hb hrb
    have := Q3.2 i k (Or.inl hi) hi hk (fun q => hne (by rw [← hia, ← hkb, q]))
    rw [hia, hkb] at this
    exact this.2.2
  have B3 : BC h3 ((100000000, 100000000, fun _ => 0) : Bst) := Or.inl ⟨by rw [F3.at 60 15 rfl, F2.row 60 rfl, F1.at 60 15 rfl]; exact e15, rfl, rfl⟩
  refine sp_ext X3 hn10 K3 cb qb Q3.1 hl2 hf 5 0 _ (fun _ => 0) 0 _ h3 _ _ _ _ (by omega) (by omega) rfl rfl rfl (by omega) (fun s hs => ⟨fun q => by rw [Nat.zero_testBit] at q; exact absurd q (by decide), fun ⟨i, hi, _⟩ => by omega⟩) T0 (Fr.refl h3) (fun i hi => by omega) B3 (fun h4 F4 e4 B4 => ?_)
  rw [hBF] at B4
  have X4 : Fix sh h4 := F4.fix X3 (by decide +kernel)
  have F04 : Fr [48, 49, 81, 82, 61, 62, 63, 64, 65, 66, 69] [(60, 11), (60, 12), (60, 13), (60, 14), (60, 15)] h h4 := F03.trans (F4.mono rfl)
  simp only [pushR9]
  rw [B_110_47 X4]
  rcases B4 with ⟨g1, g2, g3⟩ | ⟨g1, g2, g3, g4⟩
  · rw [g1, show w32 (-1) = -1 from rfl, if_pos rfl]
    simp only [pushR0]
    rw [B_109_36 X4, w32_0, if_neg (by simp)]
    exact hM h4 _ F04 (fun _ => by rw [if_pos g3])
  · have n8 : ¬ BF.2.1 = 100000000 := by omega
    rw [g1, w32_id (a := BF.2.1) (by omega) (by omega), if_neg (by omega)]
    simp only [pushR0]
    rw [B_109_36 X4, show w32 1 = 1 from rfl, if_pos (by decide), hy.w, w32_id (a := y - 2) (by omega) (by omega), g1, g2, w32_id (a := BF.2.1) (by omega) (by omega)]
    by_cases d2 : y = 0
    · rw [if_neg (fun z => z d2)]
      exact hM h4 _ F04 (fun _ => by rw [if_neg n8, if_pos d2])
    rw [if_pos d2]
    by_cases d3 : y = 1
    · rw [if_neg (fun z => z d3)]
      exact hM h4 _ F04 (fun _ => by rw [if_neg n8, if_neg d2, if_pos d3])
    rw [if_pos d3]
    by_cases d4 : BF.2.1 ≤ y - 2
    · rw [if_pos d4]
      exact hM h4 _ F04 (fun _ => by rw [if_neg n8, if_neg d2, if_neg d3, if_pos d4])
    · rw [if_neg d4]
      refine ⟨⟨by omega, by omega⟩, hM h4 _ F04 (fun _ => ?_)⟩
      rw [if_neg n8, if_neg d2, if_neg d3, if_neg d4]
      exact g4 (y - 2).toNat (by omega)
