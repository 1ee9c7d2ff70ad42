section MREAD5
variable {sc : Nat × (Nat → Int)} {d : Nat} {sh : Shp} {sl : Nat} {T : Nat → Int} {n : Nat} {od : Bool} {x1 : Int}
def ariT (k : Int) (tl : Pil) : Prop := ∀ x ∈ tl, k ≤ bnd x.1 ∧ 20 ≤ x.1 ∧ x.1 ≤ 24
theorem ariT.tc {k : Int} {tl : Pil} {c : Nat} (H : ariT k tl) : TlC c tl := fun x hx z => by have := H x hx; omega
theorem nx_agM {h h2 : Sto} {c e : Nat} (F2 : Fr [] NmS h h2) : AgE (h 96) (h 97) (h2 96) (h2 97) c e := fun i _ _ => by rw [F2.row 96 rfl, F2.row 97 rfl]; exact ⟨rfl, rfl⟩
theorem MX.ag {h h2 : Sto} {c c0 e : Nat} (E : MX c h h2) (he : e ≤ c) : AgE (h 96) (h 97) (h2 96) (h2 97) c0 e := fun i _ hi => E.2.1 i (by omega)
def MRq (sc : Nat × (Nat → Int)) (sh : Shp) (sl : Nat) (T : Nat → Int) (n : Nat) (od : Bool) (D : Nat) (x1 t0 t1 : Int) (R : RdF) (b : Nat) (Bs : Pil → Prop) (Tl : Pil → Prop) (En : Nat → Prop) (Pr : Nat → Prop) : Prop := ∀ (h : Sto) (p lf ws c : Nat) (pl : Pil) (Q : Pst), Pr p → Fix sh h → MI T n od p lf c pl b h → ws < 8388608 → Bs pl → (∀ h2 q t, R p lf ws = .inl q → MB q h h2 → WF sc D 203 20 [(2, 85), (0, x1), (0, t)] [] sh sl h2 Q) → (∀ h2 p1 lf1 ws1 ev c1 tl, R p lf ws = .inr (p1, lf1, ws1, ev) → MX c h h2 → MI T n od p1 lf1 c1 (tl ++ pl) b h2 → c ≤ c1 → Tl tl → TlC c tl → En p1 → TlT od h2 c c1 (lf1 - lf) tl ev → WF sc D 203 20 [(2, 85), (0, x1), (0, t1)] [] sh sl h2 Q) → WF sc D 203 20 [(2, 85), (0, x1), (0, t0)] [] sh sl h Q
/-- + and -, or *, / and % -/
theorem mChainQ {t0 : Int} {Pr : Nat → Prop} {P : RdF} {opN : Nat → Option Int} {b : Nat} {kb : Int} {BI TI : Pil → Prop} {EI : Nat → Prop} (hop : ∀ p o, p ≤ n → opN p = some o → arN T n p o ∧ (5 ≤ o ∧ o ≤ 9) ∧ bnd (o + 15) = kb ∧ p < enT T n p ∧ enT T n p ≤ n) (hk : 5 ≤ kb) (hTI : ∀ tl, TI tl → ariT kb tl) (hB1 : ∀ pl, topB kb pl → BI pl) (hB2 : ∀ o pl, (5 ≤ o ∧ o ≤ 9) → bnd (o + 15) = kb → BI ((o + 15, 0) :: pl)) (hP0 : MRq sc sh sl T n od (d + 12) x1 t0 3 P b BI TI EI Pr) (hP : MRd sc sh sl T n od (d + 12) x1 1 3 P b BI TI EI) (hg : RGood n false P) : MRq sc sh sl T n od (d + 12) x1 t0 3 (chnR T n P (fun p => (opN p).map binE) true) b (topB kb) (ariT kb) (fun p => opN p = none ∧ EI p) Pr := by
  intro h p lf ws c pl Q hpr X H hws hB hb hq
  have hn4 := H.2.1.1
  have lp : ∀ (rem i : Nat) (h' : Sto) (p' lf' ws' c' : Nat) (tl : Pil) (ev : Ev), i + rem = 400 → p + 2 * i ≤ p' → MX c h h' → MI T n od p' lf' c' (tl ++ pl) b h' → ws' < 8388608 → c ≤ c' → lf < lf' → ariT kb tl → EI p' → TlT od h' c c' (lf' - lf) tl ev → (∀ h2 q t, loopR T n P (fun p => (opN p).map binE) true rem p' lf' ws' ev = .inl q → MB q h h2 → WF sc (d + 12) 203 20 [(2, 85), (0, x1), (0, t)] [] sh sl h2 Q) → (∀ h2 p1 lf1 ws1 ev1 c1 tl, loopR T n P (fun p => (opN p).map binE) true rem p' lf' ws' ev = .inr (p1, lf1, ws1, ev1) → MX c h h2 → MI T n od p1 lf1 c1 (tl ++ pl) b h2 → c ≤ c1 → ariT kb tl → TlC c tl → (opN p1 = none ∧ EI p1) → TlT od h2 c c1 (lf1 - lf) tl ev1 → WF sc (d + 12) 203 20 [(2, 85), (0, x1), (0, 3)] [] sh sl h2 Q) → WF sc (d + 12) 203 20 [(2, 85), (0, x1), (0, 3)] [] sh sl h' Q := by
    intro rem
    induction rem with
    | zero =>
      intro i h' p' lf' ws' c' tl ev hi hpi E' H'
      have := H'.1.1
      omega
    | succ rem ih =>
      intro i h' p' lf' ws' c' tl ev hi hpi E' H' hws' hcc hlf ht hE hT hb hq
      have hp' := H'.1.1
      cases ho : opN p' with
      | none =>
        exact hq h' p' lf' ws' ev c' tl (by simp only [loopR, ho, Option.map_none]) E' H' hcc ht ht.tc ⟨ho, hE⟩ hT
      | some o =>
        obtain ⟨o1, o2, o3, o4, o5⟩ := hop p' o hp' ho
        refine bs_op (E'.fix X) H' o1 (fun x hx => by rw [o3]; exact (ht x hx).1) (by rw [o3]; exact hB) (fun h2 F2 g1 g2 g3 H2 => ?_)
        obtain ⟨c2, hc2⟩ : ∃ c2, (fluS tl (h' 96, h' 97, c')).2.2 = c2 := ⟨_, rfl⟩
        unfold TlT at hT
        rw [hc2] at g3 H2 hT
        rw [← g1, ← g2] at hT
        have lo := fluS_lo tl (h' 96, h' 97, c') (ht.tc (c := c)) hcc
        have E2 : MX c h' h2 := ⟨F2, fun i hi => by rw [g1, g2]; exact lo i hi, fun k => mkb_flu k H'.2.2.2.2.2.2.2 g1 g2 (by rw [H2.2.2.2.2.2.2.2.2.1, hc2])⟩
        have hT1 := hT.1
        refine hP h2 (enT T n p') lf' ws' c2 ((o + 15, 0) :: pl) Q (E2.fix (E'.fix X)) H2 hws' (hB2 o pl o2 o3) (fun h3 q t hPq B3 => ?_) (fun h3 p1 lf1 ws1 ev1 c3 tl1 hPq E3 H3 hc3 ht1 htc1 hE1 hT3 => ?_)
        · exact hb h3 q t (by simp only [loopR, ho, Option.map_some, hPq]) (B3.sub ((E'.1.trans F2)))
        · have g := hg _ _ _ _ _ _ _ o5 H'.1.2.1 hws' hPq
          have el : loopR T n P (fun p => (opN p).map binE) true (rem + 1) p' lf' ws' ev = loopR T n P (fun p => (opN p).map binE) true rem p1 lf1 ws1 (binE o ev ev1) := by simp only [loopR, ho, Option.map_some, hPq]
          rw [el] at hb hq
          have at1 := hTI tl1 ht1
          have atl : ariT kb (tl1 ++ [(o + 15, 0)]) := fun x hx => by
            rcases List.mem_append.mp hx with z | z
            · exact at1 x z
            · have : x = (o + 15, 0) := by simpa using z
              subst this
              exact ⟨by show kb ≤ bnd (o + 15); omega, by show 20 ≤ o + 15; omega, by show o + 15 ≤ 24; omega⟩
          have H3' : MI T n od p1 lf1 c3 ((tl1 ++ [(o + 15, 0)]) ++ pl) b h3 := by rw [List.append_assoc]; exact H3
          refine ih (i + 1) h3 p1 lf1 ws1 c3 (tl1 ++ [(o + 15, 0)]) (binE o ev ev1) (by omega) (by omega) ((E'.trans E2 (Nat.le_refl c)).trans E3 (by omega)) H3' g.2.2.1 (by omega) (by omega) atl hE1 ?_ hb hq
          unfold TlT at hT3 ⊢
          rw [fluS_app]
          obtain ⟨s3, hs3⟩ : ∃ s3, fluS tl1 (h3 96, h3 97, c3) = s3 := ⟨_, rfl⟩
          have lo3 := fluS_lo tl1 (h3 96, h3 97, c3) (at1.tc (c := c2)) hc3
          rw [hs3] at hT3 lo3 ⊢
          have e4 : fluS [(o + 15, 0)] s3 = (up s3.1 s3.2.2 (o + 15), up s3.2.1 s3.2.2 0, s3.2.2 + 1) := by
            show (if (o + 15 = 29 ∨ o + 15 = 30) then _ else _) = _
            rw [if_neg (by omega)]; rfl
          rw [e4]
          have hT31 := hT3.1
          show SeM (up s3.1 s3.2.2 (o + 15)) (up s3.2.1 s3.2.2 0) (wxF od) (wtp od) c (s3.2.2 + 1) (lf1 - lf) (binE o ev ev1)
          rw [show lf1 - lf = (lf' - lf) + (lf1 - lf') by omega]
          refine seM_bin (e1 := c2) (hT.cg ?_) (hT3.cg ?_) up_s (by omega)
          · refine (E3.ag (Nat.le_refl c2)).tr (fun i i1 i2 => ?_)
            have l3 := lo3 i i2
            rw [up_n (by omega), up_n (by omega)]
            exact l3
          · intro i i1 i2
            rw [up_n (by omega), up_n (by omega)]; exact ⟨rfl, rfl⟩
  refine hP0 h p lf ws c pl Q hpr X H hws (hB1 pl hB) (fun h2 q t hPq B2 => hb h2 q t (by unfold chnR; rw [hPq]) B2) (fun h2 p1 lf1 ws1 ev1 c1 tl hPq E2 H2 hc2 ht htc hE hT => ?_)
  have g := hg _ _ _ _ _ _ _ H.1.1 H.1.2.1 hws hPq
  have eC : chnR T n P (fun p => (opN p).map binE) true p lf ws = loopR T n P (fun p => (opN p).map binE) true 400 p1 lf1 ws1 ev1 := by unfold chnR; rw [hPq]
  rw [eC] at hb hq
  exact lp 400 0 h2 p1 lf1 ws1 c1 tl ev1 (by omega) (by omega) E2 H2 g.2.2.1 hc2 (by omega) (hTI tl ht) hE hT hb hq
theorem mChain {P : RdF} {opN : Nat → Option Int} {b : Nat} {kb : Int} {BI TI : Pil → Prop} {EI : Nat → Prop} (hop : ∀ p o, p ≤ n → opN p = some o → arN T n p o ∧ (5 ≤ o ∧ o ≤ 9) ∧ bnd (o + 15) = kb ∧ p < enT T n p ∧ enT T n p ≤ n) (hk : 5 ≤ kb) (hTI : ∀ tl, TI tl → ariT kb tl) (hB1 : ∀ pl, topB kb pl → BI pl) (hB2 : ∀ o pl, (5 ≤ o ∧ o ≤ 9) → bnd (o + 15) = kb → BI ((o + 15, 0) :: pl)) (hP : MRd sc sh sl T n od (d + 12) x1 1 3 P b BI TI EI) (hg : RGood n false P) : MRd sc sh sl T n od (d + 12) x1 1 3 (chnR T n P (fun p => (opN p).map binE) true) b (topB kb) (ariT kb) (fun p => opN p = none ∧ EI p) :=
  fun h p lf ws c pl Q => mChainQ (Pr := fun _ => True) hop hk hTI hB1 hB2 (fun h p lf ws c pl Q _ => hP h p lf ws c pl Q) hP hg h p lf ws c pl Q trivial
theorem mulN_ar {p : Nat} {o : Int} (hp : p ≤ n) (h : mulN T n p = some o) : arN T n p o ∧ (5 ≤ o ∧ o ≤ 9) ∧ bnd (o + 15) = 6 ∧ p < enT T n p ∧ enT T n p ≤ n := by
  have s := mulN_s hp h
  refine ⟨?_, by omega, by unfold bnd; rw [if_neg (by omega), if_neg (by omega), if_neg (by omega), if_neg (by omega), if_neg (by omega), if_pos (by omega)], s.1⟩
  unfold mulN at h
  unfold arN
  split at h
  · cases h; exact Or.inr (Or.inr (Or.inl ⟨rfl, by assumption⟩))
  · split at h
    · cases h; exact Or.inr (Or.inr (Or.inr (Or.inl ⟨rfl, by assumption⟩)))
    · split at h
      · cases h; exact Or.inr (Or.inr (Or.inr (Or.inr ⟨rfl, by assumption⟩)))
      · cases h
theorem addN_ar {p : Nat} {o : Int} (hp : p ≤ n) (h : addN T n p = some o) : arN T n p o ∧ (5 ≤ o ∧ o ≤ 9) ∧ bnd (o + 15) = 5 ∧ p < enT T n p ∧ enT T n p ≤ n := by
  have s := addN_s hp h
  refine ⟨?_, by omega, by unfold bnd; rw [if_neg (by omega), if_neg (by omega), if_neg (by omega), if_neg (by omega), if_neg (by omega), if_neg (by omega)], s.1⟩
  unfold addN at h
  unfold arN
  split at h
  · cases h; exact Or.inl ⟨rfl, by assumption⟩
  · split at h
    · cases h; exact Or.inr (Or.inl ⟨rfl, by assumption⟩)
    · cases h
abbrev SEn (T : Nat → Int) (n : Nat) : Nat → Prop := fun p => addN T n p = none ∧ (mulN T n p = none ∧ True)
/-- a part: a leaf, or a SUM in square brackets -/
theorem mPartW {e : Nat} {h : Sto} {Q : Pst} {k p lf ws c b : Nat} {pl : Pil} {inner : Option RdF} (hkb : b + k = 8) (hi : (k = 0 ∧ inner = none) ∨ (1 ≤ k ∧ ∃ S, inner = some S ∧ RGood n false S ∧ MRd sc sh sl T n od (d + 12) x1 1 3 S (b + 1) (topB 5) (ariT 5) (SEn T n))) (X : Fix sh h) (H : MI T n od p lf c pl b h) (hws : ws < 8388608) (hb : ∀ h2 q t, partR T n od inner p lf ws = .inl q → MB q h h2 → WF sc (d + 12) 203 20 [(2, 85), (0, x1), (0, t)] [] sh sl h2 Q) (hq : ∀ h2 p1 lf1 ws1 ev c1, partR T n od inner p lf ws = .inr (p1, lf1, ws1, ev) → MX c h h2 → MI T n od p1 lf1 c1 pl b h2 → c ≤ c1 → SeM (h2 96) (h2 97) (wxF od) (wtp od) c c1 (lf1 - lf) ev → WF sc (d + 12) 203 20 [(2, 85), (0, x1), (0, 3)] [] sh sl h2 Q) : WM sc (e + 10) 208 [(2, 85)] sh sl h (fun r sh1 sl1 h1 => ∃ t, r = (0, t) ∧ sh1 = sh ∧ sl1 = sl ∧ Fix sh h1 ∧ WF sc (d + 12) 203 20 [(2, 85), (0, x1), (0, t)] [] sh sl h1 Q) := by
  have hp := H.1.1
  have P := H.2.1
  have R := H.2.2.1
  have hn4 := P.1
  have b30 := H.2.2.2.2.2.2.1
  by_cases s : seeT T n p [91] = true
  case neg =>
    have s' : seeT T n p [91] = false := Bool.eq_false_iff.mpr s
    have eR : partR T n od inner p lf ws = leafR T n od p lf ws := by unfold partR; rw [if_neg s]
    rw [eR] at hb hq
    refine mLeaf (ws := ws) X H s' (fun h2 q hl B2 => ⟨3, rfl, rfl, rfl, B2.1.fix X (by decide +kernel), hb h2 q 3 hl B2⟩) (fun h2 p1 lf1 ws1 ev hl E2 H2 sg => ⟨3, rfl, rfl, rfl, E2.fix X, hq h2 p1 lf1 ws1 ev (c + 1) hl E2 H2 (by omega) ?_⟩)
    have g := leaf_good hp H.1.2.1 hws hl
    rw [show lf1 - lf = 1 by omega]; exact sg
  have eR : partR T n od inner p lf ws = brkR T n inner 93 p lf ws := by unfold partR; rw [if_pos s]
  rw [eR] at hb hq
  have sn := see_ne hp (by show 1 ≤ 1; omega) s
  have hbb := H.1.2.2.2
  rw [B_208_0 X]
  refine sp_isSign (c := 91) X hp P R (by decide) (by decide) ?_
  rw [if_pos s]
  simp only [pushR0]
  rw [B_208_6 X, show w32 1 = 1 from rfl, if_neg (by decide), B_207_0 X, b30, w32_id (a := (b : Int)) (by omega) (by omega)]
  rcases hi with ⟨k0, hin⟩ | ⟨k1, S, hin, hg, hS⟩
  · subst hin
    rw [if_pos (by omega)]
    refine mMustF X H rfl (fun h2 B2 P2 g20 g23 => ?_)
    have X2 : Fix sh h2 := B2.1.fix X (by decide +kernel)
    simp only [pushR9]
    rw [B_207_18 X2, B2.2.1, show w32 1 = 1 from rfl, if_pos (by decide), B_207_41 X2]
    simp only [pushR9]
    rw [B_208_15 X2]
    exact ⟨1, rfl, rfl, rfl, X2, hb h2 _ 1 rfl B2⟩
  · subst hin
    have eB : brkR T n (some S) 93 p lf ws = match S (enT T n p) lf ws with
      | .inl q => .inl q
      | .inr (p1, lf1, ws1, ev) => if seeT T n p1 [93] = true then .inr (enT T n p1, lf1, ws1, ev) else .inl (stT T n p1) := rfl
    rw [if_neg (by omega)]
    refine mMustT X H rfl (fun h2 F2 H2 => ?_)
    have X2 : Fix sh h2 := F2.fix X (by decide +kernel)
    have H2' := H2
    obtain ⟨⟨a1, a2, a3, a4⟩, P2, R2, b1, b2, b3, b4, k2⟩ := H2'
    simp only [pushR9]
    rw [B_207_18 X2, b1, w32_0, if_neg (by simp), b4]
    have F3 : Fr [] [(85, 30)] h2 (setH h2 85 30 ((b : Int) + 1)) := (Fr.refl h2).set rfl
    have X3 : Fix sh (setH h2 85 30 ((b : Int) + 1)) := F3.fix X2 (by decide +kernel)
    have H3 : MI T n od (enT T n p) lf c pl (b + 1) (setH h2 85 30 ((b : Int) + 1)) := by
      obtain ⟨g1, g2, g3, g4, g5⟩ := k2
      refine ⟨⟨a1, a2, a3, by omega⟩, ⟨P2.1, fun i hi => by rw [F3.row 94 rfl]; exact P2.2 i hi⟩, ?_, by rw [F3.at 85 19 rfl]; exact b1, by rw [F3.at 85 20 rfl]; exact b2, by rw [F3.at 85 26 rfl]; exact b3, by rw [setH_self]; omega, by rw [F3.at 85 29 rfl]; exact g1, by rw [F3.at 85 23 rfl]; exact g2, by rw [F3.row 98 rfl, F3.row 99 rfl]; exact g3, g4, g5⟩
      unfold RdM; rw [F3.at 85 13 rfl, F3.at 85 14 rfl, F3.at 85 15 rfl, F3.at 85 16 rfl, F3.at 85 17 rfl]; exact R2
    have a3' := H.1.2.2.1
    refine mPush (a := 0) X3 H3 (by omega) (by omega) (by omega) (fun h4 E4 F4 S4 => ?_)
    have X4 := E4.fix X3
    have H4 := H3.push F4 S4 (by omega)
    simp only [pushR9]
    rw [B_207_41 X4]
    simp only [pushR9]
    rw [B_208_15 X4]
    refine ⟨1, rfl, rfl, rfl, X4, ?_⟩
    have E24 : MX c h h4 := ((MX.nx F2).trans (c1 := c) ⟨F3.mono rfl, fun i _ => by rw [F3.row 96 rfl, F3.row 97 rfl]; exact ⟨rfl, rfl⟩, fun k => k.cg (F3.at 85 23 rfl) (F3.row 96 rfl) (F3.row 97 rfl)⟩ (Nat.le_refl c)).trans E4 (Nat.le_refl c)
    refine hS h4 (enT T n p) lf ws c ((32, 0) :: pl) Q X4 H4 hws (fun x r e => by cases e; decide) (fun h5 q t hSq B5 => hb h5 q t (by rw [eB, hSq]) (B5.sub E24.1)) (fun h5 p1 lf1 ws1 ev c1 tl hSq E5 H5 hc5 ht5 htc5 hE5 hT5 => ?_)
    have X5 := E5.fix X4
    have hp5 := H5.1.1
    have P5 := H5.2.1
    have R5 := H5.2.2.1
    have in5 : innP (tl ++ (32, 0) :: pl) = 32 := by rw [innP_app (fun x hx => by have := ht5 x hx; omega)]; rfl
    refine t_sum X5 H5 (bs_in X5 H5 hE5.2.1 hE5.1 ?_)
    rw [in5, B_214_101 X5, show w32 32 = 32 from rfl, if_neg (by simp)]
    refine sp_isSign (c := 93) X5 hp5 P5 R5 (by decide) (by decide) ?_
    simp only [pushR0]
    rw [B_214_115 X5]
    by_cases s5 : seeT T n p1 [93] = true
    · have sn5 := see_ne hp5 (by show 1 ≤ 1; omega) s5
      rw [if_pos s5]
      refine mMustT X5 H5 rfl (fun h6 F6 H6 => ?_)
      have X6 : Fix sh h6 := F6.fix X5 (by decide +kernel)
      simp only [pushR9]
      rw [B_214_118 X6, H6.2.2.2.1, w32_0, if_neg (by simp)]
      refine mSettle (by decide) X6 H6 (fun x hx => (ht5 x hx).1) (fun x r e => by cases e; decide) (fun h7 F7 g1 g2 g3 H7 => ?_)
      have X7 : Fix sh h7 := F7.fix X6 (by decide +kernel)
      obtain ⟨⟨c1', c2', c3', c4'⟩, P7, R7, e1, e2, e3, e4, k1', k2', k3', k4', k5'⟩ := H7
      simp only [pushR9]
      rw [B_214_130 X7, k1', e4]
      simp only [pushR0]
      obtain ⟨h8, hh8⟩ : ∃ h8, setH (setH h7 85 29 ((((32, 0) :: pl : Pil).length : Int) - 1)) 85 30 (((b + 1 : Nat) : Int) - 1) = h8 := ⟨_, rfl⟩
      rw [hh8]
      have F8 : Fr [] [(85, 29), (85, 30)] h7 h8 := by rw [← hh8]; exact ((Fr.refl h7).set rfl).set rfl
      have X8 : Fix sh h8 := F8.fix X7 (by decide +kernel)
      have ln : ((32, 0) :: pl : Pil).length = pl.length + 1 := rfl
      rw [B_203_65 X8, B_203_72 X8]
      obtain ⟨ce, hce⟩ : ∃ ce, (fluS tl (h6 96, h6 97, c1)).2.2 = ce := ⟨_, rfl⟩
      have r6 : h6 96 = h5 96 ∧ h6 97 = h5 97 := ⟨F6.row 96 rfl, F6.row 97 rfl⟩
      unfold TlT at hT5
      rw [← r6.1, ← r6.2, hce, ← g1, ← g2] at hT5
      rw [hce] at c3' k2' k5' g3
      have lo := fluS_lo tl (h6 96, h6 97, c1) htc5 hc5
      have hT51 := hT5.1
      refine hq h8 (enT T n p1) lf1 ws1 ev ce (by rw [eB, hSq]; show (if seeT T n p1 [93] = true then _ else _) = _; rw [if_pos s5]) ?_ ⟨⟨c1', c2', by omega, by omega⟩, ⟨P7.1, fun i hi => by rw [F8.row 94 rfl]; exact P7.2 i hi⟩, ?_, by rw [F8.at 85 19 rfl]; exact e1, by rw [F8.at 85 20 rfl]; exact e2, by rw [F8.at 85 26 rfl]; exact e3, by rw [← hh8, setH_self]; omega, by rw [← hh8, setH_k (by decide), setH_self, ln]; omega, by rw [F8.at 85 23 rfl]; exact k2', by rw [F8.row 98 rfl, F8.row 99 rfl]; exact k3'.2.2, fun x hx => k4' x (by simp [hx]), by omega⟩ (by omega) ?_
      · refine (E24.trans E5 (Nat.le_refl c)).trans (c1 := c) ⟨((F6.mono rfl).trans (F7.mono rfl)).trans (F8.mono rfl), fun i hi => ?_, fun k => (mkb_flu (k.cg (F6.at 85 23 rfl) (F6.row 96 rfl) (F6.row 97 rfl)) H6.2.2.2.2.2.2.2 g1 g2 (by rw [k2', hce])).cg (F8.at 85 23 rfl) (F8.row 96 rfl) (F8.row 97 rfl)⟩ (Nat.le_refl c)
        have l := lo i hi
        rw [F8.row 96 rfl, F8.row 97 rfl, g1, g2]
        exact ⟨l.1.trans (by rw [r6.1]), l.2.trans (by rw [r6.2])⟩
      · unfold RdM; rw [F8.at 85 13 rfl, F8.at 85 14 rfl, F8.at 85 15 rfl, F8.at 85 16 rfl, F8.at 85 17 rfl]; exact R7
      · rw [F8.row 96 rfl, F8.row 97 rfl]; exact hT5
    · rw [if_neg s5]
      refine mMustF X5 H5 rfl (fun h6 B6 P6 g20 g23 => ?_)
      have X6 : Fix sh h6 := B6.1.fix X5 (by decide +kernel)
      simp only [pushR9]
      rw [B_214_118 X6, B6.2.1, show w32 1 = 1 from rfl, if_pos (by decide)]
      simp only [pushR0]
      rw [B_203_65 X6, B_203_72 X6]
      exact hb h6 _ 3 (by rw [eB, hSq]; show (if seeT T n p1 [93] = true then _ else _) = _; rw [if_neg s5]) ((B6.sub E5.1).sub E24.1)
theorem mPart {k b : Nat} {inner : Option RdF} (hkb : b + k = 8) (hi : (k = 0 ∧ inner = none) ∨ (1 ≤ k ∧ ∃ S, inner = some S ∧ RGood n false S ∧ MRd sc sh sl T n od (d + 12) x1 1 3 S (b + 1) (topB 5) (ariT 5) (SEn T n))) : MRd sc sh sl T n od (d + 12) x1 1 3 (partR T n od inner) b (fun _ => True) (fun tl => tl = []) (fun _ => True) := by
  intro h p lf ws c pl Q X H hws _ hb hq
  refine t_part X H (WM.mono (fun r sh1 sl1 h1 z => ?_) (mPartW (e := d + 1) (k := k) (Q := Q) (x1 := x1) hkb hi X H hws hb (fun h2 p1 lf1 ws1 ev c1 hR E2 H2 hc2 sg => hq h2 p1 lf1 ws1 ev c1 [] hR E2 H2 hc2 rfl (fun x hx => by cases hx) trivial sg)))
  obtain ⟨t, rfl, rfl, rfl, X1, hw⟩ := z
  simp only [pushR0]
  rw [B_203_52 X1, B_203_72 X1]
  exact hw
/-- at the beginning of a TEST, where neither "not" nor a round bracket stands -/
def Pr0 (T : Nat → Int) (n : Nat) : Nat → Prop := fun p => seeT T n p [110, 111, 116] = false ∧ seeT T n p [40] = false
theorem mPart0 {k b : Nat} {inner : Option RdF} (hkb : b + k = 8) (hi : (k = 0 ∧ inner = none) ∨ (1 ≤ k ∧ ∃ S, inner = some S ∧ RGood n false S ∧ MRd sc sh sl T n od (d + 12) x1 1 3 S (b + 1) (topB 5) (ariT 5) (SEn T n))) : MRq sc sh sl T n od (d + 12) x1 0 3 (partR T n od inner) b (fun _ => True) (fun tl => tl = []) (fun _ => True) (Pr0 T n) := by
  intro h p lf ws c pl Q hpr X H hws _ hb hq
  have hp := H.1.1
  have P := H.2.1
  have R := H.2.2.1
  refine t_plain X H ?_
  rw [B_204_0 X]
  refine sp_isWord (w := [110, 111, 116]) X hp P R (by decide +kernel) (by decide) (by decide) (by decide) ?_
  rw [if_neg (by rw [hpr.1]; decide)]
  simp only [pushR0]
  rw [B_204_7 X, w32_0, if_pos rfl]
  refine sp_isSign (c := 40) X hp P R (by decide) (by decide) ?_
  rw [if_neg (by rw [hpr.2]; decide)]
  simp only [pushR0]
  rw [B_204_29 X, w32_0, if_pos rfl]
  refine WM.mono (fun r sh1 sl1 h1 z => ?_) (mPartW (e := d) (k := k) (Q := Q) (x1 := x1) hkb hi X H hws hb (fun h2 p1 lf1 ws1 ev c1 hR E2 H2 hc2 sg => hq h2 p1 lf1 ws1 ev c1 [] hR E2 H2 hc2 rfl (fun x hx => by cases hx) trivial sg))
  obtain ⟨t, rfl, rfl, rfl, X1, hw⟩ := z
  simp only [pushR0]
  rw [B_204_44 X1]
  simp only [pushR0]
  rw [B_203_40 X1, B_203_72 X1]
  exact hw
theorem mSumK : ∀ (k b : Nat), b + k = 8 → MRd sc sh sl T n od (d + 12) x1 1 3 (sumK T n od k) b (topB 5) (ariT 5) (SEn T n) := by
  have term : ∀ {b : Nat} {inner : Option RdF}, RGood n false (partR T n od inner) → MRd sc sh sl T n od (d + 12) x1 1 3 (partR T n od inner) b (fun _ => True) (fun tl => tl = []) (fun _ => True) → MRd sc sh sl T n od (d + 12) x1 1 3 (chnR T n (partR T n od inner) (mulO T n) true) b (topB 6) (ariT 6) (fun p => mulN T n p = none ∧ True) := fun g hp =>
    mChain (opN := mulN T n) (kb := 6) (fun p o h1 h2 => mulN_ar h1 h2) (by omega) (fun tl e x hx => by rw [e] at hx; cases hx) (fun _ _ => trivial) (fun _ _ _ _ => trivial) hp g
  have sum : ∀ {b : Nat} {inner : Option RdF}, RGood n false (partR T n od inner) → MRd sc sh sl T n od (d + 12) x1 1 3 (partR T n od inner) b (fun _ => True) (fun tl => tl = []) (fun _ => True) → MRd sc sh sl T n od (d + 12) x1 1 3 (chnR T n (chnR T n (partR T n od inner) (mulO T n) true) (addO T n) true) b (topB 5) (ariT 5) (SEn T n) := fun g hp =>
    mChain (opN := addN T n) (kb := 5) (fun p o h1 h2 => addN_ar h1 h2) (by omega) (fun tl e x hx => by have := e x hx; omega) (fun pl hpl x r e => by have := hpl x r e; omega) (fun o pl _ ob x r e => by cases e; show bnd (o + 15) < 6; omega) (term g hp) (chn_good g mulO_good)
  intro k
  induction k with
  | zero =>
    intro b hb
    have g : RGood n false (partR T n od none) := part_good (fun S h => by cases h)
    exact sum g (mPart hb (Or.inl ⟨rfl, rfl⟩))
  | succ k ih =>
    intro b hb
    have g : RGood n false (partR T n od (some (sumK T n od k))) := part_good (fun S h => by cases h; exact sum_good k)
    exact sum g (mPart hb (Or.inr ⟨by omega, _, rfl, sum_good k, ih (b + 1) (by omega)⟩))
theorem mSumK0 (k b : Nat) (hb : b + k = 8) : MRq sc sh sl T n od (d + 12) x1 0 3 (sumK T n od k) b (topB 5) (ariT 5) (SEn T n) (Pr0 T n) := by
  have term : ∀ {b : Nat} {inner : Option RdF}, RGood n false (partR T n od inner) → MRq sc sh sl T n od (d + 12) x1 0 3 (partR T n od inner) b (fun _ => True) (fun tl => tl = []) (fun _ => True) (Pr0 T n) → MRd sc sh sl T n od (d + 12) x1 1 3 (partR T n od inner) b (fun _ => True) (fun tl => tl = []) (fun _ => True) → MRq sc sh sl T n od (d + 12) x1 0 3 (chnR T n (partR T n od inner) (mulO T n) true) b (topB 6) (ariT 6) (fun p => mulN T n p = none ∧ True) (Pr0 T n) ∧ MRd sc sh sl T n od (d + 12) x1 1 3 (chnR T n (partR T n od inner) (mulO T n) true) b (topB 6) (ariT 6) (fun p => mulN T n p = none ∧ True) := fun g hp0 hp =>
    ⟨mChainQ (opN := mulN T n) (kb := 6) (fun p o h1 h2 => mulN_ar h1 h2) (by omega) (fun tl e x hx => by rw [e] at hx; cases hx) (fun _ _ => trivial) (fun _ _ _ _ => trivial) hp0 hp g, mChain (opN := mulN T n) (kb := 6) (fun p o h1 h2 => mulN_ar h1 h2) (by omega) (fun tl e x hx => by rw [e] at hx; cases hx) (fun _ _ => trivial) (fun _ _ _ _ => trivial) hp g⟩
  have sum : ∀ {b : Nat} {inner : Option RdF}, RGood n false (partR T n od inner) → MRq sc sh sl T n od (d + 12) x1 0 3 (partR T n od inner) b (fun _ => True) (fun tl => tl = []) (fun _ => True) (Pr0 T n) → MRd sc sh sl T n od (d + 12) x1 1 3 (partR T n od inner) b (fun _ => True) (fun tl => tl = []) (fun _ => True) → MRq sc sh sl T n od (d + 12) x1 0 3 (chnR T n (chnR T n (partR T n od inner) (mulO T n) true) (addO T n) true) b (topB 5) (ariT 5) (SEn T n) (Pr0 T n) := fun g hp0 hp =>
    mChainQ (opN := addN T n) (kb := 5) (fun p o h1 h2 => addN_ar h1 h2) (by omega) (fun tl e x hx => by have := e x hx; omega) (fun pl hpl x r e => by have := hpl x r e; omega) (fun o pl _ ob x r e => by cases e; show bnd (o + 15) < 6; omega) (term g hp0 hp).1 (term g hp0 hp).2 (chn_good g mulO_good)
  cases k with
  | zero =>
    have g : RGood n false (partR T n od none) := part_good (fun S h => by cases h)
    exact sum g (mPart0 hb (Or.inl ⟨rfl, rfl⟩)) (mPart hb (Or.inl ⟨rfl, rfl⟩))
  | succ k =>
    have g : RGood n false (partR T n od (some (sumK T n od k))) := part_good (fun S h => by cases h; exact sum_good k)
    exact sum g (mPart0 hb (Or.inr ⟨by omega, _, rfl, sum_good k, mSumK k (b + 1) (by omega)⟩)) (mPart hb (Or.inr ⟨by omega, _, rfl, sum_good k, mSumK k (b + 1) (by omega)⟩))
end MREAD5
