/-! ===== orders: the reference ===== -/
def FM (h : Sto) (fw : Nat → Int) : Prop := (∀ o : Nat, 1 ≤ o → o ≤ 4 → h 104 o = w32 (fw (o - 1))) ∧ (∀ l, l < 3 → h 117 l = fw (4 + l)) ∧ ∀ l, l < 3 → h 118 l = fw (7 + l)
theorem FM.cg {h h2 : Sto} {fw : Nat → Int} (H : FM h fw) (e1 : h2 104 = h 104) (e2 : h2 117 = h 117) (e3 : h2 118 = h 118) : FM h2 fw := by
  unfold FM; rw [e1, e2, e3]; exact H
/-- what lies read, for the reference -/
def MTx (h : Sto) (c : Nat) (Lx : List Clx) : Prop := h 85 21 = (Lx.length : Int) ∧ Lx.length ≤ 12 ∧ h 85 23 = (c : Int) ∧ c ≤ 400 ∧ MKb h ∧ ∀ i cl, Lx[i]? = some cl → ClM true h c i cl ∧ ClG true cl
theorem ClM.fr {P : List Nat} {S : List (Nat × Nat)} {h h2 : Sto} {c i : Nat} {cl : Clx} (H : ClM true h c i cl) (F : Fr P S h h2) (hs : ([95, 96, 97, 116].all (fun q => !(P.contains q || S.any (fun x => x.1 == q)))) = true) : ClM true h2 c i cl := by
  rw [List.all_eq_true] at hs
  have e : ∀ q ∈ [95, 96, 97, 116], h2 q = h q := fun q hq => F.row q (by have := hs q hq; simpa using this)
  refine H.mono (Nat.le_refl c) (fun j _ => ?_) (fun j _ => ?_)
  · rw [e 96 (by decide), e 97 (by decide)]; exact ⟨rfl, rfl⟩
  · rw [e 95 (by decide), e 116 (by decide)]; exact ⟨rfl, rfl⟩
theorem MTx.fr {P : List Nat} {S : List (Nat × Nat)} {h h2 : Sto} {c : Nat} {Lx : List Clx} (O : MTx h c Lx) (F : Fr P S h h2) (hs : ([95, 96, 97, 116].all (fun q => !(P.contains q || S.any (fun x => x.1 == q)))) = true) (h21 : (P.contains 85 || S.contains (85, 21)) = false) (h23 : (P.contains 85 || S.contains (85, 23)) = false) : MTx h2 c Lx := by
  obtain ⟨o1, o2, o3, o4, o5, o6⟩ := O
  have hs' := List.all_eq_true.mp hs
  have e : ∀ q ∈ [95, 96, 97, 116], h2 q = h q := fun q hq => F.row q (by have := hs' q hq; simpa using this)
  exact ⟨by rw [F.at 85 21 h21]; exact o1, o2, by rw [F.at 85 23 h23]; exact o3, o4, o5.cg (F.at 85 23 h23) (e 96 (by decide)) (e 97 (by decide)), fun i cl hl => ⟨(o6 i cl hl).1.fr F hs, (o6 i cl hl).2⟩⟩
theorem ClM.all {h : Sto} {c i : Nat} {cl : Clx} (H : ClM true h c i cl) : h 116 (8 * i) = (cl.1 : Int) ∧ SgR true h c (h 116 (8 * i + 5)) (h 116 (8 * i + 6)) cl.2.1 ∧ SgR true h c (h 116 (8 * i + 1)) (h 116 (8 * i + 2)) cl.2.2.1 ∧ SgR true h c (h 116 (8 * i + 3)) (h 116 (8 * i + 4)) cl.2.2.2.1 ∧ h 116 (8 * i + 7) = (cl.2.2.2.2.1 : Int) := by
  unfold ClM at H; rw [if_pos rfl] at H; exact H
abbrev RoP : List Nat := [105]
abbrev RoS : List (Nat × Nat) := [(85, 20), (85, 38), (85, 39), (85, 59)]
section REFO
variable {sc : Nat × (Nat → Int)} {d : Nat} {sh : Shp} {sl : Nat} {h : Sto} {Q : Pst} {n m : Nat} {L : List Law} {x : OSt} {c : Nat}
theorem sp_rkO {g : Sto} {a b : Int} {ev : Ev} (X : Fix sh g) (e20 : g 85 20 = 1) (e87 : g 87 = x.1) (W : SW x.1 n m L) (B : BW x.1 n m) (fm : FM g (rwA L n m x)) (e23 : g 85 23 = (c : Int)) (hc : c ≤ 400) (kb : MKb g) (S : SgR true g c a b (some ev)) (hq : ∀ h', Fr RkP RkS g h' → h' 85 38 = (if ev (fcA L n m x) = none then 1 else 0) → (∀ v, ev (fcA L n m x) = some v → h' 85 39 = v) → Q (9, 0) sh sl h') : WM sc (d + 5) 175 [(2, 85), (0, a), (0, b)] sh sl g Q := by
  obtain ⟨i, j, l, rfl, rfl, r3, r4, r5⟩ := S
  have ij := r3.1.1
  have hn10 := W.1.2.1
  have wt : wtp true = 7 := rfl
  rw [wt] at r3
  have kk : ∀ k, k < j → (0 ≤ g 96 k ∧ g 96 k ≤ 32) ∧ 0 ≤ g 97 k ∧ g 97 k < 2147483648 := fun k hk => kb k (by rw [e23]; omega)
  rw [B_175_0 X]
  have X0 : Fix sh (setH g 85 38 0) := X.s (by decide +kernel)
  refine lp_reckon (d := d + 2) (h := setH g 85 38 0) (op := g 96) (ar := g 97) (lk := fun o a => fcA L n m x (wxF true o a)) (W := 7) (last := j) X0 (by decide) (by omega) (fun k hk => ?_) (fun k hk => (kk k hk).2) (fun o a => fcA_ok _) ?_ ?_ (ev (fcA L n m x)) ?_ 401 i [] _ _ _ _ _ (sgM_run r3.sg (by omega) (by omega) fcA_ok) rfl rfl (by omega) trivial (by simp) (by simp) (Fr.refl _) (setH_self _ _ _ _)
  · have := (kk k hk).1
    exact ⟨by omega, by omega⟩
  · intro h' x3 k j5 j6 hF hb hk hw
    have X' := hF.fix X0 (by decide +kernel)
    have e1 : h' 85 20 = 1 := by rw [hF.at 85 20 rfl, setH_k (by decide)]; exact e20
    have e2 : h' 96 = g 96 := by rw [hF.row 96 rfl, setH_o (by decide)]
    have e3 : h' 97 = g 97 := by rw [hF.row 97 rfl, setH_o (by decide)]
    rw [B_175_10 X', w32_id (a := (j : Int)) (by omega) (by omega), w32_id (a := (k : Int)) (by omega) (by omega), if_neg (by omega), hb, if_neg (by decide), e1, show w32 1 = 1 from rfl, if_neg (by decide), e2, Int.toNat_natCast, B_175_57 X', e1, show w32 1 = 1 from rfl, if_neg (by decide), w32_id (a := (k : Int)) (by omega) (by omega), e3, Int.toNat_natCast]
    exact ⟨⟨by omega, by omega⟩, ⟨by omega, by omega⟩, hw⟩
  · intro h' x3 x4 k j6 hF hk ho1 ho2 h3 hw
    have X' := hF.fix X0 (by decide +kernel)
    have e1 : h' 85 20 = 1 := by rw [hF.at 85 20 rfl, setH_k (by decide)]; exact e20
    have g4 : h' 104 = g 104 := by rw [hF.row 104 rfl, setH_o (by decide)]
    have g7 : h' 117 = g 117 := by rw [hF.row 117 rfl, setH_o (by decide)]
    have g8 : h' 118 = g 118 := by rw [hF.row 118 rfl, setH_o (by decide)]
    have g87 : h' 87 = x.1 := by rw [hF.row 87 rfl, setH_o (by decide)]; exact e87
    have kb1 := kk k hk
    obtain ⟨s, es⟩ : ∃ s : Nat, g 97 k = s := ⟨(g 97 k).toNat, by omega⟩
    obtain ⟨o, eo⟩ : ∃ o : Nat, g 96 k = o := ⟨(g 96 k).toNat, by omega⟩
    have hw : WF sc (d + 2 + 3) 175 211 [(2, 85), (0, (i : Int)), (0, (j : Int)), (0, x3), (0, x4 + 1), (0, g 96 k), (0, g 97 k)] [(1, fcA L n m x (wxF true (g 96 k) (g 97 k))), (0, x3), (2, 105)] sh sl h' Q := hw
    rw [es] at hw h3 ⊢
    rw [eo] at hw h3 ho1 ho2 ⊢
    rw [B_175_95 X', w32_id (a := (o : Int)) (by omega) (by omega), if_neg (by omega), if_pos (by omega), e1, show w32 1 = 1 from rfl, if_pos (by decide)]
    unfold wxF at hw
    rw [if_pos rfl] at hw
    by_cases o5 : o < 5
    · rw [if_pos (by omega)] at hw
      rw [if_neg (by omega), g4, Int.toNat_natCast, fm.1 o (by omega) (by omega)]
      refine ⟨⟨by omega, by omega⟩, ?_⟩
      rw [Int.toNat_natCast] at hw
      exact hw
    rw [if_neg (by omega)] at hw
    rw [if_pos (by omega)]
    by_cases o7 : o = 7
    · subst o7
      rw [if_neg (by decide), if_neg (by decide), Int.toNat_natCast] at hw
      rw [if_neg (by simp), sp_mStamp X' ⟨by omega, by omega⟩ (by rw [g87]; exact W.1.1) hn10]
      simp only [pushR0]
      rw [B_175_169 X']
      have ef : fcA L n m x (10 + s) = w32 (if s < n then spotA x.1 m s else -1) := by
        show w32 (rwA L n m x (10 + s)) = _
        rw [rwA_10]
      rw [ef] at hw
      by_cases hs : s < n
      · rw [show (if 0 ≤ (s : Int) ∧ (s : Int) < (n : Int) then (1 : Int) else 0) = 1 from if_pos (by omega), show w32 1 = 1 from rfl, if_neg (by decide)]
        rw [if_pos hs] at hw
        refine sp_mspot X' g87 W B hs ?_
        simp only [pushR0]
        rw [B_175_178 X']
        exact hw
      · rw [show (if 0 ≤ (s : Int) ∧ (s : Int) < (n : Int) then (1 : Int) else 0) = 0 from if_neg (by omega), w32_0, if_pos rfl]
        rw [if_neg hs, show w32 (-1) = -1 from rfl] at hw
        exact hw
    have o56 : o = 5 ∨ o = 6 := by omega
    have s3 : s < 3 := by omega
    rw [if_pos (by omega), w32_id (a := (s : Int)) (by omega) (by omega), Int.toNat_natCast, g7, g8, fm.2.1 s s3, fm.2.2 s s3]
    rw [Int.toNat_natCast] at hw
    rcases o56 with rfl | rfl
    · rw [if_neg (by simp)]
      rw [if_pos (by decide)] at hw
      exact ⟨⟨by omega, by omega⟩, hw⟩
    · rw [if_pos (by decide)]
      rw [if_neg (by decide), if_pos (by decide)] at hw
      exact ⟨⟨by omega, by omega⟩, hw⟩
  · intro h' hF hb hv
    exact hq h' (((Fr.refl g).set (P := RkP) (S := RkS) (p := 85) (k := 38) (v := 0) rfl).trans hF) hb hv
theorem SgR.b {a b : Int} {o : Option Ev} {od : Bool} (S : SgR od h c a b o) (hc : c ≤ 400) : w32 a = a ∧ w32 b = b ∧ (a = b ↔ o = none) ∧ (b ≤ a ↔ o = none) := by
  cases o with
  | none =>
    obtain ⟨h1, e, h2, h3⟩ := S
    subst h1
    subst h2
    exact ⟨w32_id (by omega) (by omega), w32_id (by omega) (by omega), ⟨fun _ => rfl, fun _ => rfl⟩, ⟨fun _ => rfl, fun _ => Int.le_refl _⟩⟩
  | some ev =>
    obtain ⟨i, j, l, h1, h2, h3, h4, h5⟩ := S
    have := h3.1.1
    subst h1
    subst h2
    exact ⟨w32_id (by omega) (by omega), w32_id (by omega) (by omega), ⟨fun q => by omega, fun q => by cases q⟩, ⟨fun q => by omega, fun q => by cases q⟩⟩
/-- a SUM or TEST of orders, asked of the reference -/
theorem sp_sum {z : Nat} {Z : Int} {o : Option Ev} (hZ : Z = (z : Int)) (hz : z + 1 < 96) (e59 : h 85 59 = 0) (M : MJ sh h x.1 n m L) (fm : FM h (rwA L n m x)) (e23 : h 85 23 = (c : Int)) (hc : c ≤ 400) (kb : MKb h) (S : SgR true h c (h 116 z) (h 116 (z + 1)) o)
    (hq : ∀ h' v, Fr RoP RoS h h' → h' 85 20 = 0 → h' 85 59 = (if evO o (fcA L n m x) = none then 1 else 0) → (∀ v', evO o (fcA L n m x) = some v' → v = v') → Q (0, v) sh sl h') : WM sc (d + 6) 273 [(2, 85), (0, Z)] sh sl h Q := by
  subst hZ
  have bz : 0 ≤ w32 (z : Int) ∧ w32 (z : Int) < 96 := by rw [w32_id (a := (z : Int)) (by omega) (by omega)]; omega
  have ez : (w32 (z : Int)).toNat = z := by rw [w32_id (a := (z : Int)) (by omega) (by omega)]; omega
  have bz1 : 0 ≤ w32 ((z : Int) + 1) ∧ w32 ((z : Int) + 1) < 96 := by rw [w32_nat (a := (z : Int) + 1) (n := z + 1) (by omega) (by omega)]; omega
  have ez1 : (w32 ((z : Int) + 1)).toNat = z + 1 := by rw [w32_nat (a := (z : Int) + 1) (n := z + 1) (by omega) (by omega)]; omega
  obtain ⟨w1, w2, w3, w4⟩ := S.b hc
  rw [B_273_0 M.1, e59, w32_0, if_neg (by simp), ez, ez1, w1, w2]
  refine ⟨bz, bz1, ?_⟩
  cases o with
  | none =>
    rw [if_neg (by simpa using w3.mpr rfl)]
    exact hq h (-1) (Fr.refl h) M.2.2.1 (by rw [e59]; rfl) (fun v' e => by injection e)
  | some ev =>
    rw [if_pos (fun q => by have := w3.mp q; cases this)]
    refine ⟨bz, bz1, ?_⟩
    have F1 : Fr [] [(85, 20)] h (setH h 85 20 1) := (Fr.refl h).set rfl
    have X1 := F1.fix M.1 (by decide +kernel)
    refine sp_rkO (x := x) (n := n) (m := m) (L := L) (c := c) X1 (setH_self _ _ _ _) (by rw [F1.row 87 rfl]; exact M.2.1) M.2.2.2.1 M.2.2.2.2 (fm.cg (F1.row 104 rfl) (F1.row 117 rfl) (F1.row 118 rfl)) (by rw [F1.at 85 23 rfl]; exact e23) hc (kb.cg (F1.at 85 23 rfl) (F1.row 96 rfl) (F1.row 97 rfl)) (S.mono (Nat.le_refl c) (fun j _ => by rw [F1.row 96 rfl, F1.row 97 rfl]; exact ⟨rfl, rfl⟩)) (fun h2 F2 k1 k2 => ?_)
    simp only [pushR9]
    have X2 := F2.fix X1 (by decide +kernel)
    rw [B_273_49 X2]
    refine ⟨by rw [k1]; split <;> simp, hq _ _ (((F1.mono rfl).trans (F2.mono rfl)).set rfl |>.set rfl) (by rw [setH_k (by decide), setH_self]) (by rw [setH_self]; exact k1) (fun v' e => k2 v' e)⟩
/-- a deed of orders, done by the reference -/
theorem sp_deedM {kd k : Nat} {a b : Int} {G : Nat → Int} (hkd : kd ≤ 3) (ha : I32 a) (hb : I32 b) (M : MJ sh h G n m L) (hk : h 85 8 = (k : Int)) (hk16 : k ≤ 16) (hq : ∀ h', Fr DP DS h h' → h' 87 = (dA G L n m kd a b).2 → RemC h h' k G (kd : Int) (dA G L n m kd a b).1 → Q (0, (dA G L n m kd a b).1) sh sl h') : WM sc (d + 10) 274 [(2, 85), (0, (kd : Int)), (0, a), (0, b)] sh sl h Q := by
  rw [B_274_0 M.1, w32_id (a := (kd : Int)) (by omega) (by omega)]
  rcases (show kd = 0 ∨ kd = 1 ∨ kd = 2 ∨ kd = 3 by omega) with rfl | rfl | rfl | rfl
  · rw [if_neg (by decide), if_pos (by decide)]
    refine sp_stickNow ha hb M hk hk16 (fun h1 F1 e1 r1 => ?_)
    simp only [pushR0]
    rw [B_274_34 (F1.fix M.1 (by decide +kernel))]
    exact hq h1 F1 e1 r1
  · rw [if_neg (by decide), if_neg (by decide), if_pos (by decide)]
    refine sp_peelNow ha M hk hk16 (fun h1 F1 e1 r1 => ?_)
    simp only [pushR0]
    rw [B_274_40 (F1.fix M.1 (by decide +kernel))]
    exact hq h1 F1 e1 r1
  · rw [if_neg (by decide), if_neg (by decide), if_neg (by decide)]
    refine sp_cancelNow ha M hk hk16 (fun h1 F1 e1 r1 => ?_)
    simp only [pushR0]
    rw [B_274_46 (F1.fix M.1 (by decide +kernel))]
    exact hq h1 F1 e1 r1
  · rw [if_pos (by decide)]
    refine sp_passNow M hk hk16 (fun h1 F1 e1 r1 => ?_)
    simp only [pushR0]
    rw [B_274_51 (F1.fix M.1 (by decide +kernel))]
    exact hq h1 F1 e1 r1
abbrev FmP : List Nat := [103, 104, 105, 117, 118]
/-- the facts of the letters -/
theorem lp_fm {Z : Int} {j3 j4 : V} (M : MJ sh h x.1 n m L) (hq : ∀ h', Fr [103, 105, 117, 118] MS h h' → (∀ l, l < 3 → h' 117 l = rwA L n m x (4 + l)) → (∀ l, l < 3 → h' 118 l = rwA L n m x (7 + l)) → WF sc (d + 9) 272 51 [(2, 85), (0, Z), (0, 3), j3, j4] [] sh sl h' Q) : ∀ (rem l : Nat) (h' : Sto) (I : Int), l + rem = 3 → I = l → Fr [103, 105, 117, 118] MS h h' → (∀ k, k < l → h' 117 k = rwA L n m x (4 + k)) → (∀ k, k < l → h' 118 k = rwA L n m x (7 + k)) → WF sc (d + 9) 272 51 [(2, 85), (0, Z), (0, I), j3, j4] [] sh sl h' Q := by
  have W := M.2.2.2.1
  have hm3 := W.1.2.2.2.1
  intro rem
  induction rem with
  | zero =>
    intro l h' I hl hI F k1 k2
    have : l = 3 := by omega
    subst this
    subst hI
    exact hq h' F k1 k2
  | succ rem ih =>
    intro l h' I hl hI F k1 k2
    subst hI
    have hl3 : l < 3 := by omega
    have M' : MJ sh h' x.1 n m L := M.of F (by decide +kernel) (by decide +kernel)
    have wl : Unit → w32 (l : Int) = (l : Int) := fun _ => w32_id (by omega) (by omega)
    have il : I32 (l : Int) := ⟨by omega, by omega⟩
    have e1 : ∀ {g : Sto}, MJ sh g x.1 n m L → g 87 1 = (m : Int) := fun mg => by rw [mg.2.1]; exact W.1.2.2.1
    -- the second half
    have snd : ∀ h2, Fr [103, 105, 117, 118] MS h h2 → (∀ k, k < l + 1 → h2 117 k = rwA L n m x (4 + k)) → (∀ k, k < l → h2 118 k = rwA L n m x (7 + k)) → WM sc (d + 8) 170 [(2, 85), (0, (l : Int))] sh sl h2 (fun r sh1 sl1 h1 => WF sc (d + 9) 272 89 [(2, 85), (0, Z), (0, (l : Int)), j3, j4] (pushR r [(0, (l : Int)), (2, 118)]) sh1 sl1 h1 Q) := fun h2 F2 a1 a2 => by
      have M2 : MJ sh h2 x.1 n m L := M.of F2 (by decide +kernel) (by decide +kernel)
      rw [sp_mLetter M2.1 il (e1 M2) hm3]
      simp only [pushR0]
      rw [B_272_89 M2.1]
      by_cases c : l < m
      · rw [show (if 0 ≤ (l : Int) ∧ (l : Int) < (m : Int) then (1 : Int) else 0) = 1 from if_pos (by omega), show w32 1 = 1 from rfl, if_neg (by decide)]
        refine sp_mquOn M2 c (fun h3 F3 => ?_)
        have F3' : Fr [103, 105, 117, 118] MS h h3 := F2.trans (F3.mono rfl)
        simp only [pushR0]
        rw [B_272_97 (F3'.fix M.1 (by decide +kernel)), wl (), Int.toNat_natCast]
        refine ⟨⟨by omega, by omega⟩, ih (l + 1) _ _ (by omega) (by simp) (F3'.setP rfl) (fun k hk => ?_) (fun k hk => ?_)⟩
        · rw [setH_o (by decide), F3.row 117 rfl]; exact a1 k hk
        · by_cases ek : k = l
          · subst ek; rw [setH_self, rwA_7 hl3, if_pos c]
          · rw [setH_k ek, F3.row 118 rfl]; exact a2 k (by omega)
      · rw [show (if 0 ≤ (l : Int) ∧ (l : Int) < (m : Int) then (1 : Int) else 0) = 0 from if_neg (by omega), w32_0, if_pos rfl, wl (), Int.toNat_natCast]
        refine ⟨⟨by omega, by omega⟩, ih (l + 1) _ _ (by omega) (by simp) (F2.setP rfl) (fun k hk => ?_) (fun k hk => ?_)⟩
        · rw [setH_o (by decide)]; exact a1 k hk
        · by_cases ek : k = l
          · subst ek; rw [setH_self, rwA_7 hl3, if_neg c]
          · rw [setH_k ek]; exact a2 k (by omega)
    rw [B_272_51 M'.1, wl (), if_neg (by omega), sp_mLetter M'.1 il (e1 M') hm3]
    simp only [pushR0]
    rw [B_272_66 M'.1]
    by_cases c : l < m
    · rw [show (if 0 ≤ (l : Int) ∧ (l : Int) < (m : Int) then (1 : Int) else 0) = 1 from if_pos (by omega), show w32 1 = 1 from rfl, if_neg (by decide)]
      refine sp_mpaid M' c (fun h3 F3 => ?_)
      have F3' : Fr [103, 105, 117, 118] MS h h3 := F.trans (F3.mono rfl)
      simp only [pushR0]
      rw [B_272_74 (F3'.fix M.1 (by decide +kernel)), wl (), Int.toNat_natCast]
      refine ⟨⟨by omega, by omega⟩, snd _ (F3'.setP rfl) (fun k hk => ?_) (fun k hk => ?_)⟩
      · by_cases ek : k = l
        · subst ek; rw [setH_self, rwA_4 hl3, if_pos c]
        · rw [setH_k ek, F3.row 117 rfl]; exact k1 k (by omega)
      · rw [setH_o (by decide), F3.row 118 rfl]; exact k2 k hk
    · rw [show (if 0 ≤ (l : Int) ∧ (l : Int) < (m : Int) then (1 : Int) else 0) = 0 from if_neg (by omega), w32_0, if_pos rfl, wl (), Int.toNat_natCast]
      refine ⟨⟨by omega, by omega⟩, snd _ (F.setP rfl) (fun k hk => ?_) (fun k hk => ?_)⟩
      · by_cases ek : k = l
        · subst ek; rw [setH_self, rwA_4 hl3, if_neg c]
        · rw [setH_k ek]; exact k1 k (by omega)
      · rw [setH_o (by decide)]; exact k2 k hk
end REFO
