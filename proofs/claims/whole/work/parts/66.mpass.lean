theorem ex_BR {G : Nat → Int} {n m : Nat} (B : BW G n m) (hn : n ≤ 10) (hm : m ≤ 3) : ∃ f, BR f G n m := by
  refine ⟨fun i => if i = 0 then G 5 else if i < 11 then G (18 + (i - 1)) else if i < 21 then (if G (8 + (i - 11)) = 9 then -2 else G (8 + (i - 11))) else if i < 24 then G (31 + (i - 21)) else if i < 39 then G (34 + (i - 24)) else G (28 + (i - 39)), ?_, fun u hu => ⟨?_, ?_⟩, fun k hk => ⟨?_, ?_⟩, fun k i hk hi => ?_⟩
  · rfl
  · simp only; rw [if_neg (by omega), if_pos (by omega), show 18 + (1 + u - 1) = 18 + u by omega]
  · simp only; rw [if_neg (by omega), if_neg (by omega), if_pos (by omega), show 8 + (11 + u - 11) = 8 + u by omega]
  · simp only; rw [if_neg (by omega), if_neg (by omega), if_neg (by omega), if_pos (by omega), show 31 + (21 + k - 21) = 31 + k by omega]
  · simp only; rw [if_neg (by omega), if_neg (by omega), if_neg (by omega), if_neg (by omega), if_neg (by omega), show 28 + (39 + k - 39) = 28 + k by omega]
  · have := B.2.2.1 k hk
    simp only; rw [if_neg (by omega), if_neg (by omega), if_neg (by omega), if_neg (by omega), if_pos (by omega), show 34 + (24 + 5 * k + i - 24) = 34 + 5 * k + i by omega]
section MPASS
variable {sc : Nat × (Nat → Int)} {d : Nat} {sh : Shp} {sl : Nat} {h : Sto} {Q : Pst} {G : Nat → Int} {n m : Nat} {L : List Law}
theorem lp_mdry {j2 : V} (M : MJ sh h G n m L) (hq : ∀ h', Fr [103, 105, 106] MS h h' → (∀ s, s < n → h' 106 s = drA G L s) → WF sc (d + 7) 238 49 [(2, 85), (0, 0), j2] [] sh sl h' Q) : ∀ (rem s : Nat) (h' : Sto) (S : Int), s + rem = n → S = s → Fr [103, 105, 106] MS h h' → (∀ j, j < s → h' 106 j = drA G L j) → WF sc (d + 7) 238 2 [(2, 85), (0, S), j2] [] sh sl h' Q := by
  have hM := M
  obtain ⟨X, e87, e20, W, B⟩ := M
  have hn10 := W.1.2.1
  have hm3 := W.1.2.2.2.1
  intro rem
  induction rem with
  | zero =>
    intro s h' S hs hS F e
    subst hS
    have M' : MJ sh h' G n m L := hM.of F (by decide +kernel) (by decide +kernel)
    have : s = n := by omega
    subst this
    rw [B_238_2 M'.1, M'.2.1, W.1.1, w32_id (a := (s : Int)) (by omega) (by omega), if_pos (by omega)]
    exact hq h' F e
  | succ rem ih =>
    intro s h' S hs hS F e
    subst hS
    have M' : MJ sh h' G n m L := hM.of F (by decide +kernel) (by decide +kernel)
    have bs := B.2.1 s (by omega)
    have nx : ∀ h1 (v : Int), Fr [103, 105, 106] MS h h1 → (∀ j, j < s → h1 106 j = drA G L j) → v = drA G L s → WF sc (d + 7) 238 40 [(2, 85), (0, (s : Int)), j2] [(0, v), (0, (s : Int)), (2, 106)] sh sl h1 Q := by
      intro h1 v F1 e1 hv
      have X1 : Fix sh h1 := F1.fix X (by decide +kernel)
      rw [B_238_40 X1, w32_id (a := (s : Int)) (by omega) (by omega), Int.toNat_natCast]
      refine ⟨⟨by omega, by omega⟩, ih (s + 1) _ _ (by omega) (by simp) (F1.setP rfl) (fun j hj => ?_)⟩
      by_cases ej : j = s
      · subst ej; rw [setH_self, hv]
      · rw [setH_k ej]; exact e1 j (by omega)
    rw [B_238_2 M'.1, M'.2.1, W.1.1, w32_id (a := (n : Int)) (by omega) (by omega), w32_id (a := (s : Int)) (by omega) (by omega), if_neg (by omega), w32_nat (a := 8 + (s : Int)) (n := 8 + s) (by omega) (by omega), Int.toNat_natCast, w32_id (a := G (8 + s)) (by omega) (by omega)]
    refine ⟨⟨by omega, by omega⟩, ?_⟩
    by_cases h9 : G (8 + s) = 9
    · rw [if_neg (by simpa using h9)]
      exact nx h' 0 F e (by unfold drA; rw [if_pos h9])
    · rw [if_pos h9]
      refine sp_driesOf M' (by omega) (fun h1 F1 => ?_)
      simp only [pushR0]
      exact nx h1 _ (F.trans (F1.mono rfl)) (fun j hj => by rw [F1.row 106 rfl]; exact e j hj) (by unfold drA; rw [if_neg h9])
theorem lp_mglue {j2 : V} (X : Fix sh h) (e87 : h 87 = G) (hn : G 0 = (n : Int)) (hn10 : n ≤ 10) (B : BW G n m) (hd : ∀ s, s < n → h 106 s = drA G L s) (hq : ∀ h', Fr [87] [] h h' → h' 87 = glF G L n → WF sc (d + 2) 238 101 [(2, 85), (0, 0), (0, 0)] [] sh sl h' Q) : ∀ (rem s : Nat) (h' : Sto) (S : Int), s + rem = n → S = s → Fr [87] [] h h' → h' 87 = glF G L s → WF sc (d + 2) 238 49 [(2, 85), (0, S), j2] [] sh sl h' Q := by
  intro rem
  induction rem with
  | zero =>
    intro s h' S hs hS F e
    subst hS
    have X' : Fix sh h' := F.fix X (by decide +kernel)
    have : s = n := by omega
    subst this
    rw [B_238_49 X', e, glF_o s 0 (by omega), hn, w32_id (a := (s : Int)) (by omega) (by omega), if_pos (by omega)]
    exact hq h' F e
  | succ rem ih =>
    intro s h' S hs hS F e
    subst hS
    have X' : Fix sh h' := F.fix X (by decide +kernel)
    have bs := (B.2.1 s (by omega)).1
    have db : 0 ≤ drA G L s ∧ drA G L s ≤ 9 := by unfold drA; have := driesA_bd (G := G) (L := L) (s := s); split <;> omega
    rw [B_238_49 X', e, glF_o s 0 (by omega), hn, w32_id (a := (n : Int)) (by omega) (by omega), w32_id (a := (s : Int)) (by omega) (by omega), if_neg (by omega), w32_nat (a := 18 + (s : Int)) (n := 18 + s) (by omega) (by omega), Int.toNat_natCast, Int.toNat_natCast, F.row 106 rfl, hd s (by omega), glF_o s (18 + s) (by omega), w32_id (a := G (18 + s) - drA G L s) (by omega) (by omega), sp_within X' ⟨by omega, by omega⟩ ⟨by decide, by decide⟩ ⟨by decide, by decide⟩ (by decide)]
    refine ⟨⟨by omega, by omega⟩, ⟨by omega, by omega⟩, ?_⟩
    simp only [pushR0]
    rw [B_238_90 X', w32_nat (a := 18 + (s : Int)) (n := 18 + s) (by omega) (by omega), Int.toNat_natCast]
    refine ⟨⟨by omega, by omega⟩, ih (s + 1) _ _ (by omega) (by simp) (F.setP rfl) ?_⟩
    rw [setH_r, e]; rfl
theorem lp_mletters (X : Fix sh h) (e87 : h 87 = G) (hm : G 1 = (m : Int)) (hn10 : n ≤ 10) (hm3 : m ≤ 3) (B : BW G n m) (hq : ∀ h', Fr [87] [] h h' → h' 87 = up (paF G m).2 5 (G 5 + 1) → Q (0, (paF G m).1) sh sl h') : ∀ (rem l : Nat) (h' : Sto) (A I : Int), l + rem = m → I = l → A = (paF G l).1 → Fr [87] [] h h' → h' 87 = (paF G l).2 → WF sc (d + 3) 238 101 [(2, 85), (0, A), (0, I)] [] sh sl h' Q := by
  intro rem
  induction rem with
  | zero =>
    intro l h' A I hl hI hA F e
    subst hI hA
    have X' : Fix sh h' := F.fix X (by decide +kernel)
    have : l = m := by omega
    subst this
    have pb := pa_B B hn10 hm3 l (by omega)
    rw [B_238_101 X', e, pb.2.1 1 (by omega), pb.2.1 5 (by omega), hm, w32_id (a := (l : Int)) (by omega) (by omega), if_pos (by omega)]
    refine hq _ (F.setP rfl) ?_
    rw [setH_r, e]
  | succ rem ih =>
    intro l h' A I hl hI hA F e
    subst hI hA
    have X' : Fix sh h' := F.fix X (by decide +kernel)
    have pb := pa_B B hn10 hm3 l (by omega)
    obtain ⟨f, hf⟩ := ex_BR pb.1 hn10 hm3
    rw [B_238_101 X', e, pb.2.1 1 (by omega), hm, w32_id (a := (m : Int)) (by omega) (by omega), w32_id (a := (l : Int)) (by omega) (by omega), if_neg (by omega)]
    refine sp_mfall X' e hf pb.1 hn10 hm3 (by omega) (fun h1 F1 e1 => ?_)
    simp only [pushR0]
    rw [B_238_117 (F1.fix X' (by decide +kernel))]
    exact ih (l + 1) h1 _ _ (by omega) (by simp) rfl (F.trans F1) e1
theorem sp_passIt (M : MJ sh h G n m L) (hq : ∀ h', Fr [87, 103, 105, 106] MS h h' → h' 87 = passG G L n m → Q (0, (paF (glF G L n) m).1) sh sl h') : WM sc (d + 7) 238 [(2, 85)] sh sl h Q := by
  have hM := M
  obtain ⟨X, e87, e20, W, B⟩ := M
  have hn10 := W.1.2.1
  have hm3 := W.1.2.2.2.1
  rw [B_238_0 X]
  refine lp_mdry hM (fun h1 F1 e1 => ?_) n 0 h _ (by omega) rfl (Fr.refl h) (fun j hj => by omega)
  have X1 : Fix sh h1 := F1.fix X (by decide +kernel)
  refine lp_mglue (L := L) X1 (by rw [F1.row 87 rfl]; exact e87) W.1.1 hn10 B e1 (fun h2 F2 e2 => ?_) n 0 h1 _ (by omega) rfl (Fr.refl h1) (by rw [F1.row 87 rfl]; exact e87)
  have X2 : Fix sh h2 := F2.fix X1 (by decide +kernel)
  refine lp_mletters X2 e2 (by rw [glF_o n 1 (by omega)]; exact W.1.2.2.1) hn10 hm3 (gl_B B hn10 hm3) (fun h3 F3 e3 => ?_) m 0 h2 _ _ (by omega) rfl rfl (Fr.refl h2) e2
  rw [glF_o n 5 (by omega)] at e3
  exact hq h3 (((F1.mono rfl).trans (F2.mono rfl)).trans (F3.mono rfl)) e3
/-- what a deed's answer leaves of the reference's pile -/
def RemC (h h' : Sto) (k : Nat) (G : Nat → Int) (deed ans : Int) : Prop := (ans < 0 ∧ h' 90 = h 90 ∧ h' 91 = h 91 ∧ h' 85 8 = h 85 8) ∨ (0 ≤ ans ∧ h' 85 8 = ((kNext k : Nat) : Int) ∧ RemU (h 90) (h 91) (h' 90) (h' 91) k G deed)
abbrev DP : List Nat := [87, 90, 91, 103, 105, 106]
abbrev DS : List (Nat × Nat) := [(85, 8), (85, 34), (85, 38), (85, 39), (85, 40)]
theorem sp_stickNow {x y : Int} {k : Nat} (hx : I32 x) (hy : I32 y) (M : MJ sh h G n m L) (hk : h 85 8 = (k : Int)) (hk16 : k ≤ 16) (hq : ∀ h', Fr DP DS h h' → h' 87 = (stickA G L n m x y).2 → RemC h h' k G 0 (stickA G L n m x y).1 → Q (0, (stickA G L n m x y).1) sh sl h') : WM sc (d + 9) 224 [(2, 85), (0, x), (0, y)] sh sl h Q := by
  have hM := M
  obtain ⟨X, e87, e20, W, B⟩ := M
  have hn10 := W.1.2.1
  have hm3 := W.1.2.2.2.1
  have hno : ¬ ((0 ≤ x ∧ x < n) ∧ (0 ≤ y ∧ y < m)) → Q (0, -2) sh sl h := fun hc => by
    have := hq h (Fr.refl h)
    unfold stickA at this
    rw [if_neg hc] at this
    exact this e87 (Or.inl ⟨by simp, rfl, rfl, rfl⟩)
  rw [B_224_0 X, sp_mStamp X hx (by rw [e87]; exact W.1.1) hn10]
  simp only [pushR0]
  rw [B_224_5 X]
  by_cases c1 : 0 ≤ x ∧ x < n
  case neg => rw [if_neg c1, w32_0, if_pos rfl]; exact hno (by omega)
  rw [if_pos c1, show w32 1 = 1 from rfl, if_neg (by decide), sp_mLetter X hy (by rw [e87]; exact W.1.2.2.1) hm3]
  simp only [pushR0]
  rw [B_224_13 X]
  by_cases c2 : 0 ≤ y ∧ y < m
  case neg => rw [if_neg c2, w32_0, if_neg (by simp)]; exact hno (by omega)
  rw [if_pos c2, show w32 1 = 1 from rfl, if_pos (by decide)]
  obtain ⟨s, rfl⟩ : ∃ s : Nat, x = s := ⟨x.toNat, by omega⟩
  obtain ⟨l, rfl⟩ : ∃ l : Nat, y = l := ⟨y.toNat, by omega⟩
  have hs : s < n := by omega
  have hl : l < m := by omega
  have bl := B.2.2.1 l hl
  have hst : stickA G L n m (s : Int) (l : Int) = if canStk G L s l = true then (G (31 + l), stickG G s l) else (-3, G) := by
    unfold stickA; rw [if_pos (by omega), Int.toNat_natCast, Int.toNat_natCast]
  rw [hst] at hq
  refine sp_canStick hM hs hl (fun h1 F1 => ?_)
  have M1 := hM.fr F1
  simp only [pushR0]
  rw [B_224_25 M1.1]
  by_cases hc : canStk G L s l = true
  · rw [if_pos hc] at hq
    rw [if_pos hc, show w32 1 = 1 from rfl, if_pos (by decide)]
    have h5 : G (31 + l) < 5 := by unfold canStk at hc; simp at hc; omega
    refine sp_remember (k := k) M1.1 (by rw [F1.at 85 8 rfl]; exact hk) hk16 (fun h2 F2 e8 rm => ?_)
    rw [F1.row 90 rfl, F1.row 91 rfl, M1.2.1] at rm
    have X2 := F2.fix M1.1 (by decide +kernel)
    simp only [pushR9]
    rw [B_224_36 X2]
    refine sp_stickIt (G := G) X2 (by rw [F2.row 87 rfl]; exact M1.2.1) (by omega) (by omega) (by omega) (fun h3 F3 e3 => ?_)
    have X3 := F3.fix X2 (by decide +kernel)
    have e31 : stickG G s l (31 + l) = G (31 + l) + 1 := by unfold stickG; rw [up_n (by omega), up_s]
    simp only [pushR9]
    rw [B_224_42 X3, w32_nat (a := 31 + (l : Int)) (n := 31 + l) (by omega) (by omega), Int.toNat_natCast, e3, e31, show G (31 + l) + 1 - 1 = G (31 + l) by omega]
    exact ⟨⟨by omega, by omega⟩, hq h3 (((F1.mono rfl).trans (F2.mono rfl)).trans (F3.mono rfl)) e3 (Or.inr ⟨bl.2.1, by rw [F3.at 85 8 rfl]; exact e8, by rw [F3.row 90 rfl, F3.row 91 rfl]; exact rm⟩)⟩
  · rw [if_neg hc] at hq
    rw [if_neg hc, w32_0, if_neg (by simp)]
    exact hq h1 (F1.mono rfl) M1.2.1 (Or.inl ⟨by simp, F1.row 90 rfl, F1.row 91 rfl, F1.at 85 8 rfl⟩)
theorem sp_peelNow {y : Int} {k : Nat} (hy : I32 y) (M : MJ sh h G n m L) (hk : h 85 8 = (k : Int)) (hk16 : k ≤ 16) (hq : ∀ h', Fr DP DS h h' → h' 87 = (peelA G m y).2 → RemC h h' k G 1 (peelA G m y).1 → Q (0, (peelA G m y).1) sh sl h') : WM sc (d + 9) 230 [(2, 85), (0, y)] sh sl h Q := by
  have hM := M
  obtain ⟨X, e87, e20, W, B⟩ := M
  have hn10 := W.1.2.1
  have hm3 := W.1.2.2.2.1
  rw [B_230_0 X, sp_mLetter X hy (by rw [e87]; exact W.1.2.2.1) hm3]
  simp only [pushR0]
  rw [B_230_5 X]
  unfold peelA at hq
  by_cases c2 : 0 ≤ y ∧ y < m
  case neg =>
    rw [if_neg c2] at hq
    rw [if_neg c2, w32_0, if_neg (by simp)]
    exact hq h (Fr.refl h) e87 (Or.inl ⟨by simp, rfl, rfl, rfl⟩)
  rw [if_pos c2] at hq
  rw [if_pos c2, show w32 1 = 1 from rfl, if_pos (by decide)]
  obtain ⟨l, rfl⟩ : ∃ l : Nat, y = l := ⟨y.toNat, by omega⟩
  have hl : l < m := by omega
  have bl := B.2.2.1 l hl
  rw [Int.toNat_natCast] at hq
  rw [w32_nat (a := 31 + (l : Int)) (n := 31 + l) (by omega) (by omega), Int.toNat_natCast, e87, w32_id (a := G (31 + l)) (by omega) (by omega)]
  refine ⟨⟨by omega, by omega⟩, ?_⟩
  by_cases hz : G (31 + l) = 0
  · rw [if_pos hz] at hq
    rw [if_neg (by simpa using hz)]
    exact hq h (Fr.refl h) e87 (Or.inl ⟨by simp, rfl, rfl, rfl⟩)
  · rw [if_neg hz] at hq
    rw [if_pos hz]
    refine sp_remember (k := k) X hk hk16 (fun h2 F2 e8 rm => ?_)
    rw [e87] at rm
    have X2 := F2.fix X (by decide +kernel)
    simp only [pushR9]
    rw [B_230_31 X2]
    refine sp_peelIt (G := G) X2 (by rw [F2.row 87 rfl]; exact e87) hl B hn10 hm3 hz (fun h3 F3 e3 => ?_)
    simp only [pushR0]
    rw [B_230_36 (F3.fix X2 (by decide +kernel))]
    exact hq h3 ((F2.mono rfl).trans (F3.mono rfl)) e3 (Or.inr ⟨by show (0 : Int) ≤ ((spA G l _ : Nat) : Int); omega, by rw [F3.at 85 8 rfl]; exact e8, by rw [F3.row 90 rfl, F3.row 91 rfl]; exact rm⟩)
theorem sp_cancelNow {y : Int} {k : Nat} (hy : I32 y) (M : MJ sh h G n m L) (hk : h 85 8 = (k : Int)) (hk16 : k ≤ 16) (hq : ∀ h', Fr DP DS h h' → h' 87 = (cancelA G L m y).2 → RemC h h' k G 2 (cancelA G L m y).1 → Q (0, (cancelA G L m y).1) sh sl h') : WM sc (d + 9) 233 [(2, 85), (0, y)] sh sl h Q := by
  have hM := M
  obtain ⟨X, e87, e20, W, B⟩ := M
  have hn10 := W.1.2.1
  have hm3 := W.1.2.2.2.1
  rw [B_233_0 X, sp_mLetter X hy (by rw [e87]; exact W.1.2.2.1) hm3]
  simp only [pushR0]
  rw [B_233_5 X]
  unfold cancelA at hq
  by_cases c2 : 0 ≤ y ∧ y < m
  case neg =>
    rw [if_neg c2] at hq
    rw [if_neg c2, w32_0, if_neg (by simp)]
    exact hq h (Fr.refl h) e87 (Or.inl ⟨by simp, rfl, rfl, rfl⟩)
  rw [if_pos c2] at hq
  rw [if_pos c2, show w32 1 = 1 from rfl, if_pos (by decide)]
  obtain ⟨l, rfl⟩ : ∃ l : Nat, y = l := ⟨y.toNat, by omega⟩
  have hl : l < m := by omega
  rw [Int.toNat_natCast] at hq
  have qb := quOnA_bd W B hl
  refine sp_canCancel hM hl (fun h1 F1 => ?_)
  have M1 := hM.fr F1
  simp only [pushR0]
  rw [B_233_16 M1.1]
  by_cases hc : canCan G L l = true
  · rw [if_pos hc] at hq
    rw [if_pos hc, show w32 1 = 1 from rfl, if_pos (by decide)]
    refine sp_remember (k := k) M1.1 (by rw [F1.at 85 8 rfl]; exact hk) hk16 (fun h2 F2 e8 rm => ?_)
    rw [F1.row 90 rfl, F1.row 91 rfl, M1.2.1] at rm
    have M2 : MJ sh h2 G n m L := M1.of F2 (by decide +kernel) (by decide +kernel)
    simp only [pushR9]
    rw [B_233_27 M2.1]
    refine sp_cancelIt M2 hl (fun h3 F3 e3 => ?_)
    simp only [pushR0]
    rw [B_233_32 (F3.fix M2.1 (by decide +kernel))]
    exact hq h3 (((F1.mono rfl).trans (F2.mono rfl)).trans (F3.mono rfl)) e3 (Or.inr ⟨qb.1, by rw [F3.at 85 8 rfl]; exact e8, by rw [F3.row 90 rfl, F3.row 91 rfl]; exact rm⟩)
  · rw [if_neg hc] at hq
    rw [if_neg hc, w32_0, if_neg (by simp)]
    exact hq h1 (F1.mono rfl) M1.2.1 (Or.inl ⟨by simp, F1.row 90 rfl, F1.row 91 rfl, F1.at 85 8 rfl⟩)
theorem sp_passNow {k : Nat} (M : MJ sh h G n m L) (hk : h 85 8 = (k : Int)) (hk16 : k ≤ 16) (hq : ∀ h', Fr DP DS h h' → h' 87 = (passA G L n m).2 → RemC h h' k G 3 (passA G L n m).1 → Q (0, (passA G L n m).1) sh sl h') : WM sc (d + 9) 237 [(2, 85)] sh sl h Q := by
  have hM := M
  obtain ⟨X, e87, e20, W, B⟩ := M
  have hn10 := W.1.2.1
  have hm3 := W.1.2.2.2.1
  have b5 := B.1
  rw [B_237_0 X, e87, w32_id (a := G 5) (by omega) (by omega)]
  unfold passA at hq
  by_cases h9 : G 5 = 999
  · rw [if_pos h9] at hq
    rw [if_neg (by simpa using h9)]
    exact hq h (Fr.refl h) e87 (Or.inl ⟨by simp, rfl, rfl, rfl⟩)
  · rw [if_neg h9] at hq
    rw [if_pos h9]
    refine sp_remember (k := k) X hk hk16 (fun h2 F2 e8 rm => ?_)
    rw [e87] at rm
    have M2 : MJ sh h2 G n m L := hM.of F2 (by decide +kernel) (by decide +kernel)
    simp only [pushR9]
    rw [B_237_20 M2.1]
    refine sp_passIt M2 (fun h3 F3 e3 => ?_)
    simp only [pushR0]
    rw [B_237_24 (F3.fix M2.1 (by decide +kernel))]
    exact hq h3 ((F2.mono rfl).trans (F3.mono rfl)) e3 (Or.inr ⟨(pass_B B hn10 hm3 h9).2.1, by rw [F3.at 85 8 rfl]; exact e8, by rw [F3.row 90 rfl, F3.row 91 rfl]; exact rm⟩)
end MPASS
