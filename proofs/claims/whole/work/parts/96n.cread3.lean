section CREAD3
variable {sc : Nat × (Nat → Int)} {sh : Shp} {sl : Nat} {T : Nat → Int} {n : Nat} {od : Bool} {ci F : Nat}
theorem cTerm {m : Nat} {P : RdF} {x : Int} (hm : 14 ≤ m) (hP : CSp sc sh sl T n od ci F m 66 [(2, 43), (0, x)] P) (hg : RGood n false P) : CSp sc sh sl T n od ci F (m + 1) 65 [(2, 43), (0, x)] (chnR T n P (mulO T n) true) := by
  intro D p lf ws c h Q hD X H q0 q1
  obtain ⟨E, rfl⟩ : ∃ E, D = E + 13 := ⟨D - 13, by omega⟩
  have bd := H.bd
  have lp : ∀ (rem i : Nat) (h' : Sto) (p' lf' ws' c' : Nat) (ev : Ev) (I : Int) (j3 : V), i + rem = 400 → I = i → CE ci c h h' → CI T n od ci p' lf' ws' c' h' → p ≤ p' → c' + p ≤ c + p' → c ≤ c' → lf < lf' → SeC (h' 41) (h' 42) F c c' (lf' - lf) ev → (∀ h2 q, loopR T n P (mulO T n) true rem p' lf' ws' ev = .inl q → Fr PsP PsS h h2 → h2 43 10 = (q : Int) → Q (0, 0) sh sl h2) → (∀ h2 p1 lf1 ws1 ev1 c1, loopR T n P (mulO T n) true rem p' lf' ws' ev = .inr (p1, lf1, ws1, ev1) → CE ci c h h2 → CI T n od ci p1 lf1 ws1 c1 h2 → c1 + p ≤ c + p1 → SeC (h2 41) (h2 42) F c c1 (lf1 - lf) ev1 → Q (0, 1) sh sl h2) → WF sc (E + 13) 65 12 [(2, 43), (0, x), (0, I), j3] [] sh sl h' Q := by
    intro rem
    induction rem with
    | zero =>
      intro i h' p' lf' ws' c' ev I j3 hi hI E' H' hpp hcc hcc2 hlf sg q0 q1
      subst hI
      have X' := E'.fix X
      rw [B_65_12 X', w32_id (a := (i : Int)) (by omega) (by omega), if_pos (by omega)]
      refine cFail X' H' (fun h2 F2 g2 => ?_)
      simp only [pushR0]
      rw [B_65_103 (F2.fix X' (by decide +kernel)) (Or.inl rfl)]
      exact q0 h2 _ (by simp only [loopR]; rfl) (E'.1.trans F2) g2
    | succ rem ih =>
      intro i h' p' lf' ws' c' ev I j3 hi hI E' H' hpp hcc hcc2 hlf sg q0 q1
      subst hI
      have X' := E'.fix X
      have b' := H'.bd
      have eo0 : mulN T n p' = none → loopR T n P (mulO T n) true (rem + 1) p' lf' ws' ev = .inr (p', lf', ws', ev) := fun e => by
        simp only [loopR, mulO, e, Option.map_none]
      have eoF : ∀ o q, mulN T n p' = some o → P (enT T n p') lf' ws' = .inl q → loopR T n P (mulO T n) true (rem + 1) p' lf' ws' ev = .inl q := fun o q e e2 => by
        simp only [loopR, mulO, e, Option.map_some, e2]
      have eoS : ∀ o p1 lf1 ws1 ev1, mulN T n p' = some o → P (enT T n p') lf' ws' = .inr (p1, lf1, ws1, ev1) → loopR T n P (mulO T n) true (rem + 1) p' lf' ws' ev = loopR T n P (mulO T n) true rem p1 lf1 ws1 (binE o ev ev1) := fun o p1 lf1 ws1 ev1 e e2 => by
        simp only [loopR, mulO, e, Option.map_some, e2]
      have go : ∀ o : Int, mulN T n p' = some o → WM sc (E + 12) 57 [(2, 43)] sh sl h' (fun r sh1 sl1 h1 => WF sc (E + 13) 65 74 [(2, 43), (0, x), (0, (i : Int)), (0, o)] (pushR r []) sh1 sl1 h1 Q) := fun o ho => by
        have on := mulN_s b'.1 ho
        refine cNext X' H' (fun h2 F2 H2 => ?_)
        have X2 : Fix sh h2 := F2.fix X' (by decide +kernel)
        simp only [pushR9]
        rw [B_65_74 X2]
        refine hP (E + 12) _ _ _ _ h2 _ (by omega) X2 H2 (fun h3 q hPq F3 g3 => ?_) (fun h3 p1 lf1 ws1 ev1 c1 hPq E3 H3 hc3 sg3 => ?_)
        · simp only [pushR0]
          rw [B_65_79 (F3.fix X2 (by decide +kernel)), w32_0, if_pos rfl]
          exact q0 h3 q (eoF o q ho hPq) ((E'.1.trans (F2.mono rfl)).trans F3) g3
        · have g := hg _ _ _ _ _ _ _ on.1.2 H2.1.2.2.1 H2.1.2.2.2.1 hPq
          have X3 := E3.fix X2
          have s3 := sg3.1
          simp only [pushR0]
          rw [B_65_79 X3, show w32 1 = 1 from rfl, if_neg (by decide)]
          refine cPut X3 H3 (by omega) (by omega) (fun h4 E4 H4 g1 g2 => ?_)
          simp only [pushR0]
          rw [B_65_88 (E4.fix X3), show w32 1 = 1 from rfl, if_pos (by decide)]
          have el := eoS o p1 lf1 ws1 ev1 ho hPq
          rw [el] at q0 q1
          have E24 : CE ci c h h4 := ((E'.trans (CE.nx (c := c') F2) hcc2).trans E3 hcc2).trans E4 (by omega)
          refine ih (i + 1) h4 p1 lf1 ws1 (c1 + 1) (binE o ev ev1) _ _ (by omega) (by simp) E24 H4 (by omega) (by omega) (by omega) (by omega) ?_ q0 q1
          rw [show lf1 - lf = (lf' - lf) + (lf1 - lf') by omega]
          refine seC_bin (e1 := c') ((sg.cg (nx_ag F2)).cg (((E3.ag (Nat.le_refl _)).tr (E4.ag (by omega))))) (sg3.cg (E4.ag (Nat.le_refl _))) g1 (by omega)
      rw [B_65_12 X', w32_id (a := (i : Int)) (by omega) (by omega), if_neg (by omega)]
      refine cSee (w := [42]) rfl (by decide) X' H' (fun s0 => ?_) (fun s0 => ?_)
      · simp only [pushR0]
        rw [B_65_25 X', show w32 1 = 1 from rfl, if_neg (by decide)]
        exact go 7 (by unfold mulN; rw [if_pos s0])
      simp only [pushR0]
      rw [B_65_25 X', w32_0, if_pos rfl]
      refine cSee (w := [47]) rfl (by decide) X' H' (fun s1 => ?_) (fun s1 => ?_)
      · simp only [pushR0]
        rw [B_65_39 X', show w32 1 = 1 from rfl, if_neg (by decide)]
        exact go 8 (by unfold mulN; rw [if_neg (by rw [s0]; decide), if_pos s1])
      simp only [pushR0]
      rw [B_65_39 X', w32_0, if_pos rfl]
      refine cSee (w := [37]) rfl (by decide) X' H' (fun s2 => ?_) (fun s2 => ?_)
      · simp only [pushR0]
        rw [B_65_53 X', show w32 1 = 1 from rfl, if_neg (by decide)]
        exact go 9 (by unfold mulN; rw [if_neg (by rw [s0]; decide), if_neg (by rw [s1]; decide), if_pos s2])
      simp only [pushR0]
      rw [B_65_53 X', w32_0, if_pos rfl]
      exact q1 h' _ _ _ _ c' (eo0 (by unfold mulN; rw [if_neg (by rw [s0]; decide), if_neg (by rw [s1]; decide), if_neg (by rw [s2]; decide)])) E' H' hcc sg
  rw [B_65_0 X]
  refine hP (E + 12) p lf ws c h _ (by omega) X H (fun h2 q hq F2 g2 => ?_) (fun h2 p1 lf1 ws1 ev1 c1 hq E2 H2 hc2 sg2 => ?_)
  · simp only [pushR0]
    rw [B_65_5 (F2.fix X (by decide +kernel)), w32_0, if_neg (by simp)]
    exact q0 h2 q (by unfold chnR; rw [hq]) F2 g2
  · have g := hg _ _ _ _ _ _ _ bd.1 H.1.2.2.1 H.1.2.2.2.1 hq
    have s2 := sg2.1
    have eC : chnR T n P (mulO T n) true p lf ws = loopR T n P (mulO T n) true 400 p1 lf1 ws1 ev1 := by unfold chnR; rw [hq]
    rw [eC] at q0 q1
    simp only [pushR0]
    rw [B_65_5 (E2.fix X), show w32 1 = 1 from rfl, if_pos (by decide)]
    exact lp 400 0 h2 p1 lf1 ws1 c1 ev1 _ _ (by omega) rfl E2 H2 (by omega) hc2 (by omega) (by omega) sg2 q0 q1
theorem cSum {m : Nat} {P : RdF} {x : Int} (hm : 14 ≤ m) (hP : CSp sc sh sl T n od ci F m 65 [(2, 43), (0, x)] P) (hg : RGood n false P) : CSp sc sh sl T n od ci F (m + 1) 64 [(2, 43), (0, x)] (chnR T n P (addO T n) true) := by
  intro D p lf ws c h Q hD X H q0 q1
  obtain ⟨E, rfl⟩ : ∃ E, D = E + 13 := ⟨D - 13, by omega⟩
  have bd := H.bd
  have lp : ∀ (rem i : Nat) (h' : Sto) (p' lf' ws' c' : Nat) (ev : Ev) (I : Int) (j3 : V), i + rem = 400 → I = i → CE ci c h h' → CI T n od ci p' lf' ws' c' h' → p ≤ p' → c' + p ≤ c + p' → c ≤ c' → lf < lf' → SeC (h' 41) (h' 42) F c c' (lf' - lf) ev → (∀ h2 q, loopR T n P (addO T n) true rem p' lf' ws' ev = .inl q → Fr PsP PsS h h2 → h2 43 10 = (q : Int) → Q (0, 0) sh sl h2) → (∀ h2 p1 lf1 ws1 ev1 c1, loopR T n P (addO T n) true rem p' lf' ws' ev = .inr (p1, lf1, ws1, ev1) → CE ci c h h2 → CI T n od ci p1 lf1 ws1 c1 h2 → c1 + p ≤ c + p1 → SeC (h2 41) (h2 42) F c c1 (lf1 - lf) ev1 → Q (0, 1) sh sl h2) → WF sc (E + 13) 64 12 [(2, 43), (0, x), (0, I), j3] [] sh sl h' Q := by
    intro rem
    induction rem with
    | zero =>
      intro i h' p' lf' ws' c' ev I j3 hi hI E' H' hpp hcc hcc2 hlf sg q0 q1
      subst hI
      have X' := E'.fix X
      rw [B_64_12 X', w32_id (a := (i : Int)) (by omega) (by omega), if_pos (by omega)]
      refine cFail X' H' (fun h2 F2 g2 => ?_)
      simp only [pushR0]
      rw [B_64_88 (F2.fix X' (by decide +kernel)) (Or.inl rfl)]
      exact q0 h2 _ (by simp only [loopR]; rfl) (E'.1.trans F2) g2
    | succ rem ih =>
      intro i h' p' lf' ws' c' ev I j3 hi hI E' H' hpp hcc hcc2 hlf sg q0 q1
      subst hI
      have X' := E'.fix X
      have b' := H'.bd
      have eo0 : addN T n p' = none → loopR T n P (addO T n) true (rem + 1) p' lf' ws' ev = .inr (p', lf', ws', ev) := fun e => by
        simp only [loopR, addO, e, Option.map_none]
      have eoF : ∀ o q, addN T n p' = some o → P (enT T n p') lf' ws' = .inl q → loopR T n P (addO T n) true (rem + 1) p' lf' ws' ev = .inl q := fun o q e e2 => by
        simp only [loopR, addO, e, Option.map_some, e2]
      have eoS : ∀ o p1 lf1 ws1 ev1, addN T n p' = some o → P (enT T n p') lf' ws' = .inr (p1, lf1, ws1, ev1) → loopR T n P (addO T n) true (rem + 1) p' lf' ws' ev = loopR T n P (addO T n) true rem p1 lf1 ws1 (binE o ev ev1) := fun o p1 lf1 ws1 ev1 e e2 => by
        simp only [loopR, addO, e, Option.map_some, e2]
      have go : ∀ o : Int, addN T n p' = some o → WM sc (E + 12) 57 [(2, 43)] sh sl h' (fun r sh1 sl1 h1 => WF sc (E + 13) 64 59 [(2, 43), (0, x), (0, (i : Int)), (0, o)] (pushR r []) sh1 sl1 h1 Q) := fun o ho => by
        have on := addN_s b'.1 ho
        refine cNext X' H' (fun h2 F2 H2 => ?_)
        have X2 : Fix sh h2 := F2.fix X' (by decide +kernel)
        simp only [pushR9]
        rw [B_64_59 X2]
        refine hP (E + 12) _ _ _ _ h2 _ (by omega) X2 H2 (fun h3 q hPq F3 g3 => ?_) (fun h3 p1 lf1 ws1 ev1 c1 hPq E3 H3 hc3 sg3 => ?_)
        · simp only [pushR0]
          rw [B_64_64 (F3.fix X2 (by decide +kernel)), w32_0, if_pos rfl]
          exact q0 h3 q (eoF o q ho hPq) ((E'.1.trans (F2.mono rfl)).trans F3) g3
        · have g := hg _ _ _ _ _ _ _ on.1.2 H2.1.2.2.1 H2.1.2.2.2.1 hPq
          have X3 := E3.fix X2
          have s3 := sg3.1
          simp only [pushR0]
          rw [B_64_64 X3, show w32 1 = 1 from rfl, if_neg (by decide)]
          refine cPut X3 H3 (by omega) (by omega) (fun h4 E4 H4 g1 g2 => ?_)
          simp only [pushR0]
          rw [B_64_73 (E4.fix X3), show w32 1 = 1 from rfl, if_pos (by decide)]
          have el := eoS o p1 lf1 ws1 ev1 ho hPq
          rw [el] at q0 q1
          have E24 : CE ci c h h4 := ((E'.trans (CE.nx (c := c') F2) hcc2).trans E3 hcc2).trans E4 (by omega)
          refine ih (i + 1) h4 p1 lf1 ws1 (c1 + 1) (binE o ev ev1) _ _ (by omega) (by simp) E24 H4 (by omega) (by omega) (by omega) (by omega) ?_ q0 q1
          rw [show lf1 - lf = (lf' - lf) + (lf1 - lf') by omega]
          refine seC_bin (e1 := c') ((sg.cg (nx_ag F2)).cg (((E3.ag (Nat.le_refl _)).tr (E4.ag (by omega))))) (sg3.cg (E4.ag (Nat.le_refl _))) g1 (by omega)
      rw [B_64_12 X', w32_id (a := (i : Int)) (by omega) (by omega), if_neg (by omega)]
      refine cSee (w := [43]) rfl (by decide) X' H' (fun s0 => ?_) (fun s0 => ?_)
      · simp only [pushR0]
        rw [B_64_25 X', show w32 1 = 1 from rfl, if_neg (by decide)]
        exact go 5 (by unfold addN; rw [if_pos s0])
      simp only [pushR0]
      rw [B_64_25 X', w32_0, if_pos rfl]
      refine cSee (w := [45]) rfl (by decide) X' H' (fun s1 => ?_) (fun s1 => ?_)
      · simp only [pushR0]
        rw [B_64_38 X', show w32 1 = 1 from rfl, if_neg (by decide)]
        exact go 6 (by unfold addN; rw [if_neg (by rw [s0]; decide), if_pos s1])
      simp only [pushR0]
      rw [B_64_38 X', w32_0, if_pos rfl]
      exact q1 h' _ _ _ _ c' (eo0 (by unfold addN; rw [if_neg (by rw [s0]; decide), if_neg (by rw [s1]; decide)])) E' H' hcc sg
  rw [B_64_0 X]
  refine hP (E + 12) p lf ws c h _ (by omega) X H (fun h2 q hq F2 g2 => ?_) (fun h2 p1 lf1 ws1 ev1 c1 hq E2 H2 hc2 sg2 => ?_)
  · simp only [pushR0]
    rw [B_64_5 (F2.fix X (by decide +kernel)), w32_0, if_neg (by simp)]
    exact q0 h2 q (by unfold chnR; rw [hq]) F2 g2
  · have g := hg _ _ _ _ _ _ _ bd.1 H.1.2.2.1 H.1.2.2.2.1 hq
    have s2 := sg2.1
    have eC : chnR T n P (addO T n) true p lf ws = loopR T n P (addO T n) true 400 p1 lf1 ws1 ev1 := by unfold chnR; rw [hq]
    rw [eC] at q0 q1
    simp only [pushR0]
    rw [B_64_5 (E2.fix X), show w32 1 = 1 from rfl, if_pos (by decide)]
    exact lp 400 0 h2 p1 lf1 ws1 c1 ev1 _ _ (by omega) rfl E2 H2 (by omega) hc2 (by omega) (by omega) sg2 q0 q1
theorem cAll {m : Nat} {P : RdF} {x : Int} (hm : 14 ≤ m) (hP : CSp sc sh sl T n od ci F m 76 [(2, 43), (0, x)] P) (hg : RGood n true P) : CSp sc sh sl T n od ci F (m + 1) 75 [(2, 43), (0, x)] (chnR T n P (andO T n) false) := by
  intro D p lf ws c h Q hD X H q0 q1
  obtain ⟨E, rfl⟩ : ∃ E, D = E + 13 := ⟨D - 13, by omega⟩
  have bd := H.bd
  have lp : ∀ (rem i : Nat) (h' : Sto) (p' lf' ws' c' : Nat) (ev : Ev) (I : Int) (j3 : V), i + rem = 400 → I = i → CE ci c h h' → CI T n od ci p' lf' ws' c' h' → p ≤ p' → c' + p ≤ c + p' → c ≤ c' → lf < lf' → SeC (h' 41) (h' 42) F c c' (lf' - lf) ev → (∀ h2 q, loopR T n P (andO T n) false rem p' lf' ws' ev = .inl q → Fr PsP PsS h h2 → h2 43 10 = (q : Int) → Q (0, 0) sh sl h2) → (∀ h2 p1 lf1 ws1 ev1 c1, loopR T n P (andO T n) false rem p' lf' ws' ev = .inr (p1, lf1, ws1, ev1) → CE ci c h h2 → CI T n od ci p1 lf1 ws1 c1 h2 → c1 + p ≤ c + p1 → SeC (h2 41) (h2 42) F c c1 (lf1 - lf) ev1 → Q (0, 1) sh sl h2) → WF sc (E + 13) 75 12 [(2, 43), (0, x), (0, I), j3] [] sh sl h' Q := by
    intro rem
    induction rem with
    | zero =>
      intro i h' p' lf' ws' c' ev I j3 hi hI E' H' hpp hcc hcc2 hlf sg q0 q1
      subst hI
      have X' := E'.fix X
      rw [B_75_12 X', w32_id (a := (i : Int)) (by omega) (by omega), if_pos (by omega)]
      exact q1 h' _ _ _ _ c' (by simp only [loopR]; rfl) E' H' hcc sg
    | succ rem ih =>
      intro i h' p' lf' ws' c' ev I j3 hi hI E' H' hpp hcc hcc2 hlf sg q0 q1
      subst hI
      have X' := E'.fix X
      have b' := H'.bd
      rw [B_75_12 X', w32_id (a := (i : Int)) (by omega) (by omega), if_neg (by omega)]
      refine cTook (w := [97, 110, 100]) rfl (by decide) X' H' (fun h2 s F2 H2 => ?_) (fun s => ?_)
      · have sn := see_ne b'.1 (by decide) s
        have X2 : Fix sh h2 := F2.fix X' (by decide +kernel)
        have e34 := H2.2.2.2.2.2.2.1
        have eoF : ∀ q, P (enT T n p') lf' ws' = .inl q → loopR T n P (andO T n) false (rem + 1) p' lf' ws' ev = .inl q := fun q e2 => by
          simp only [loopR, andO, s, if_true, e2]
        have eoS : ∀ p1 lf1 ws1 ev1, P (enT T n p') lf' ws' = .inr (p1, lf1, ws1, ev1) → loopR T n P (andO T n) false (rem + 1) p' lf' ws' ev = loopR T n P (andO T n) false rem p1 lf1 ws1 (andE ev ev1) := fun p1 lf1 ws1 ev1 e2 => by
          simp only [loopR, andO, s, if_true, e2]
        simp only [pushR0]
        rw [B_75_25 X2, show w32 1 = 1 from rfl, if_neg (by decide), e34]
        refine cPut X2 H2 (by omega) (by omega) (fun h3 E3 H3 g1 g2 => ?_)
        have X3 := E3.fix X2
        simp only [pushR0]
        rw [B_75_42 X3, show w32 1 = 1 from rfl, if_neg (by decide)]
        refine hP (E + 12) _ _ _ _ h3 _ (by omega) X3 H3 (fun h4 q hPq F4 g4 => ?_) (fun h4 p1 lf1 ws1 ev1 c1 hPq E4 H4 hc4 sg4 => ?_)
        · simp only [pushR0]
          rw [B_75_50 (F4.fix X3 (by decide +kernel)), w32_0, if_neg (by simp)]
          exact q0 h4 q (eoF q hPq) (((E'.1.trans (F2.mono rfl)).trans E3.1).trans F4) g4
        · have g := hg _ _ _ _ _ _ _ sn.2.1 H3.1.2.2.1 H3.1.2.2.2.1 hPq
          have X4 := E4.fix X3
          have s4 := sg4.1
          have b4 := H4.bd
          simp only [pushR0]
          rw [B_75_50 X4, show w32 1 = 1 from rfl, if_pos (by decide), w32_id (a := (c' : Int)) (by omega) (by omega), Int.toNat_natCast, H4.2.2.2.2.2.2.1]
          refine ⟨⟨by omega, by omega⟩, ?_⟩
          have el := eoS p1 lf1 ws1 ev1 hPq
          rw [el] at q0 q1
          have E14 : CE ci c h h4 := ((E'.trans (CE.nx (c := c') F2) hcc2).trans E3 hcc2).trans E4 (by omega)
          have F5 : Fr PsP PsS h4 (setH h4 42 c' ((c1 : Nat) : Int)) := (Fr.refl h4).setP rfl
          have E5 : CE ci c h (setH h4 42 c' ((c1 : Nat) : Int)) := E14.trans (c1 := c) ⟨F5, fun k hk => by rw [setH_o (by decide), setH_k (by omega)]; exact ⟨rfl, rfl⟩, fun k _ => by rw [setH_o (by decide)], by rw [setH_o (by decide)], fun kb => kb.s42 (by omega)⟩ (Nat.le_refl c)
          have H5 : CI T n od ci p1 lf1 ws1 c1 (setH h4 42 c' ((c1 : Nat) : Int)) := by
            obtain ⟨a1, P2, R2, b1, b2, b3, b4, b5⟩ := H4
            refine ⟨a1, ⟨P2.1, fun i hi => by rw [setH_o (by decide)]; exact P2.2 i hi⟩, ?_, by rw [setH_o (by decide)]; exact b1, by rw [setH_o (by decide)]; exact b2, by rw [setH_o (by decide)]; exact b3, by rw [setH_o (by decide)]; exact b4, fun q => by rw [setH_o (by decide)]; exact b5 q⟩
            unfold RdC; rw [setH_o (by decide)]; exact R2
          have pa : ∀ c0 e0, (e0 ≤ c' ∨ c' < c0) → AgE (h4 41) (h4 42) (setH h4 42 c' ((c1 : Nat) : Int) 41) (setH h4 42 c' ((c1 : Nat) : Int) 42) c0 e0 := fun c0 e0 hce k k1 k2 => by
            rw [setH_o (by decide), setH_k (by omega)]; exact ⟨rfl, rfl⟩
          refine ih (i + 1) _ p1 lf1 ws1 c1 (andE ev ev1) _ _ (by omega) (by simp) E5 H5 (by omega) (by omega) (by omega) (by omega) ?_ q0 q1
          rw [show lf1 - lf = (lf' - lf) + (lf1 - lf') by omega]
          refine seC_and (e1 := c') ((sg.cg (nx_ag F2)).cg (((E3.ag (Nat.le_refl _)).tr (E4.ag (by omega))).tr (pa _ _ (by omega)))) (sg4.cg (pa _ _ (by omega))) ?_ (setH_self _ _ _ _)
          rw [setH_o (by decide), (E4.2.1 c' (by omega)).1]; exact g1
      · simp only [pushR0]
        rw [B_75_25 X', w32_0, if_pos rfl]
        exact q1 h' _ _ _ _ c' (by simp only [loopR, andO, s]; rfl) E' H' hcc sg
  rw [B_75_0 X]
  refine hP (E + 12) p lf ws c h _ (by omega) X H (fun h2 q hq F2 g2 => ?_) (fun h2 p1 lf1 ws1 ev1 c1 hq E2 H2 hc2 sg2 => ?_)
  · simp only [pushR0]
    rw [B_75_5 (F2.fix X (by decide +kernel)), w32_0, if_neg (by simp)]
    exact q0 h2 q (by unfold chnR; rw [hq]) F2 g2
  · have g := hg _ _ _ _ _ _ _ bd.1 H.1.2.2.1 H.1.2.2.2.1 hq
    have s2 := sg2.1
    have eC : chnR T n P (andO T n) false p lf ws = loopR T n P (andO T n) false 400 p1 lf1 ws1 ev1 := by unfold chnR; rw [hq]
    rw [eC] at q0 q1
    simp only [pushR0]
    rw [B_75_5 (E2.fix X), show w32 1 = 1 from rfl, if_pos (by decide)]
    exact lp 400 0 h2 p1 lf1 ws1 c1 ev1 _ _ (by omega) rfl E2 H2 (by omega) hc2 (by omega) (by omega) sg2 q0 q1
theorem cAny {m : Nat} {P : RdF} {x : Int} (hm : 14 ≤ m) (hP : CSp sc sh sl T n od ci F m 75 [(2, 43), (0, x)] P) (hg : RGood n true P) : CSp sc sh sl T n od ci F (m + 1) 74 [(2, 43), (0, x)] (chnR T n P (orO T n) false) := by
  intro D p lf ws c h Q hD X H q0 q1
  obtain ⟨E, rfl⟩ : ∃ E, D = E + 13 := ⟨D - 13, by omega⟩
  have bd := H.bd
  have lp : ∀ (rem i : Nat) (h' : Sto) (p' lf' ws' c' : Nat) (ev : Ev) (I : Int) (j3 : V), i + rem = 400 → I = i → CE ci c h h' → CI T n od ci p' lf' ws' c' h' → p ≤ p' → c' + p ≤ c + p' → c ≤ c' → lf < lf' → SeC (h' 41) (h' 42) F c c' (lf' - lf) ev → (∀ h2 q, loopR T n P (orO T n) false rem p' lf' ws' ev = .inl q → Fr PsP PsS h h2 → h2 43 10 = (q : Int) → Q (0, 0) sh sl h2) → (∀ h2 p1 lf1 ws1 ev1 c1, loopR T n P (orO T n) false rem p' lf' ws' ev = .inr (p1, lf1, ws1, ev1) → CE ci c h h2 → CI T n od ci p1 lf1 ws1 c1 h2 → c1 + p ≤ c + p1 → SeC (h2 41) (h2 42) F c c1 (lf1 - lf) ev1 → Q (0, 1) sh sl h2) → WF sc (E + 13) 74 12 [(2, 43), (0, x), (0, I), j3] [] sh sl h' Q := by
    intro rem
    induction rem with
    | zero =>
      intro i h' p' lf' ws' c' ev I j3 hi hI E' H' hpp hcc hcc2 hlf sg q0 q1
      subst hI
      have X' := E'.fix X
      rw [B_74_12 X', w32_id (a := (i : Int)) (by omega) (by omega), if_pos (by omega)]
      exact q1 h' _ _ _ _ c' (by simp only [loopR]; rfl) E' H' hcc sg
    | succ rem ih =>
      intro i h' p' lf' ws' c' ev I j3 hi hI E' H' hpp hcc hcc2 hlf sg q0 q1
      subst hI
      have X' := E'.fix X
      have b' := H'.bd
      rw [B_74_12 X', w32_id (a := (i : Int)) (by omega) (by omega), if_neg (by omega)]
      refine cTook (w := [111, 114]) rfl (by decide) X' H' (fun h2 s F2 H2 => ?_) (fun s => ?_)
      · have sn := see_ne b'.1 (by decide) s
        have X2 : Fix sh h2 := F2.fix X' (by decide +kernel)
        have e34 := H2.2.2.2.2.2.2.1
        have eoF : ∀ q, P (enT T n p') lf' ws' = .inl q → loopR T n P (orO T n) false (rem + 1) p' lf' ws' ev = .inl q := fun q e2 => by
          simp only [loopR, orO, s, if_true, e2]
        have eoS : ∀ p1 lf1 ws1 ev1, P (enT T n p') lf' ws' = .inr (p1, lf1, ws1, ev1) → loopR T n P (orO T n) false (rem + 1) p' lf' ws' ev = loopR T n P (orO T n) false rem p1 lf1 ws1 (orE ev ev1) := fun p1 lf1 ws1 ev1 e2 => by
          simp only [loopR, orO, s, if_true, e2]
        simp only [pushR0]
        rw [B_74_25 X2, show w32 1 = 1 from rfl, if_neg (by decide), e34]
        refine cPut X2 H2 (by omega) (by omega) (fun h3 E3 H3 g1 g2 => ?_)
        have X3 := E3.fix X2
        simp only [pushR0]
        rw [B_74_42 X3, show w32 1 = 1 from rfl, if_neg (by decide)]
        refine hP (E + 12) _ _ _ _ h3 _ (by omega) X3 H3 (fun h4 q hPq F4 g4 => ?_) (fun h4 p1 lf1 ws1 ev1 c1 hPq E4 H4 hc4 sg4 => ?_)
        · simp only [pushR0]
          rw [B_74_50 (F4.fix X3 (by decide +kernel)), w32_0, if_neg (by simp)]
          exact q0 h4 q (eoF q hPq) (((E'.1.trans (F2.mono rfl)).trans E3.1).trans F4) g4
        · have g := hg _ _ _ _ _ _ _ sn.2.1 H3.1.2.2.1 H3.1.2.2.2.1 hPq
          have X4 := E4.fix X3
          have s4 := sg4.1
          have b4 := H4.bd
          simp only [pushR0]
          rw [B_74_50 X4, show w32 1 = 1 from rfl, if_pos (by decide), w32_id (a := (c' : Int)) (by omega) (by omega), Int.toNat_natCast, H4.2.2.2.2.2.2.1]
          refine ⟨⟨by omega, by omega⟩, ?_⟩
          have el := eoS p1 lf1 ws1 ev1 hPq
          rw [el] at q0 q1
          have E14 : CE ci c h h4 := ((E'.trans (CE.nx (c := c') F2) hcc2).trans E3 hcc2).trans E4 (by omega)
          have F5 : Fr PsP PsS h4 (setH h4 42 c' ((c1 : Nat) : Int)) := (Fr.refl h4).setP rfl
          have E5 : CE ci c h (setH h4 42 c' ((c1 : Nat) : Int)) := E14.trans (c1 := c) ⟨F5, fun k hk => by rw [setH_o (by decide), setH_k (by omega)]; exact ⟨rfl, rfl⟩, fun k _ => by rw [setH_o (by decide)], by rw [setH_o (by decide)], fun kb => kb.s42 (by omega)⟩ (Nat.le_refl c)
          have H5 : CI T n od ci p1 lf1 ws1 c1 (setH h4 42 c' ((c1 : Nat) : Int)) := by
            obtain ⟨a1, P2, R2, b1, b2, b3, b4, b5⟩ := H4
            refine ⟨a1, ⟨P2.1, fun i hi => by rw [setH_o (by decide)]; exact P2.2 i hi⟩, ?_, by rw [setH_o (by decide)]; exact b1, by rw [setH_o (by decide)]; exact b2, by rw [setH_o (by decide)]; exact b3, by rw [setH_o (by decide)]; exact b4, fun q => by rw [setH_o (by decide)]; exact b5 q⟩
            unfold RdC; rw [setH_o (by decide)]; exact R2
          have pa : ∀ c0 e0, (e0 ≤ c' ∨ c' < c0) → AgE (h4 41) (h4 42) (setH h4 42 c' ((c1 : Nat) : Int) 41) (setH h4 42 c' ((c1 : Nat) : Int) 42) c0 e0 := fun c0 e0 hce k k1 k2 => by
            rw [setH_o (by decide), setH_k (by omega)]; exact ⟨rfl, rfl⟩
          refine ih (i + 1) _ p1 lf1 ws1 c1 (orE ev ev1) _ _ (by omega) (by simp) E5 H5 (by omega) (by omega) (by omega) (by omega) ?_ q0 q1
          rw [show lf1 - lf = (lf' - lf) + (lf1 - lf') by omega]
          refine seC_or (e1 := c') ((sg.cg (nx_ag F2)).cg (((E3.ag (Nat.le_refl _)).tr (E4.ag (by omega))).tr (pa _ _ (by omega)))) (sg4.cg (pa _ _ (by omega))) ?_ (setH_self _ _ _ _)
          rw [setH_o (by decide), (E4.2.1 c' (by omega)).1]; exact g1
      · simp only [pushR0]
        rw [B_74_25 X', w32_0, if_pos rfl]
        exact q1 h' _ _ _ _ c' (by simp only [loopR, orO, s]; rfl) E' H' hcc sg
  rw [B_74_0 X]
  refine hP (E + 12) p lf ws c h _ (by omega) X H (fun h2 q hq F2 g2 => ?_) (fun h2 p1 lf1 ws1 ev1 c1 hq E2 H2 hc2 sg2 => ?_)
  · simp only [pushR0]
    rw [B_74_5 (F2.fix X (by decide +kernel)), w32_0, if_neg (by simp)]
    exact q0 h2 q (by unfold chnR; rw [hq]) F2 g2
  · have g := hg _ _ _ _ _ _ _ bd.1 H.1.2.2.1 H.1.2.2.2.1 hq
    have s2 := sg2.1
    have eC : chnR T n P (orO T n) false p lf ws = loopR T n P (orO T n) false 400 p1 lf1 ws1 ev1 := by unfold chnR; rw [hq]
    rw [eC] at q0 q1
    simp only [pushR0]
    rw [B_74_5 (E2.fix X), show w32 1 = 1 from rfl, if_pos (by decide)]
    exact lp 400 0 h2 p1 lf1 ws1 c1 ev1 _ _ (by omega) rfl E2 H2 (by omega) hc2 (by omega) (by omega) sg2 q0 q1
theorem cCmp {m : Nat} {S : RdF} {x : Int} (hm : 14 ≤ m) (hS : CSp sc sh sl T n od ci F m 64 [(2, 43), (0, x)] S) (hg : RGood n false S) : CSp sc sh sl T n od ci F (m + 1) 77 [(2, 43), (0, x)] (cmpR T n S) := by
  intro D p lf ws c h Q hD X H q0 q1
  obtain ⟨E, rfl⟩ : ∃ E, D = E + 13 := ⟨D - 13, by omega⟩
  have bd := H.bd
  rw [B_77_0 X]
  refine hS (E + 12) p lf ws c h _ (by omega) X H (fun h2 q hq F2 g2 => ?_) (fun h2 p1 lf1 ws1 ev1 c1 hq E2 H2 hc2 sg2 => ?_)
  · simp only [pushR0]
    rw [B_77_5 (F2.fix X (by decide +kernel)), w32_0, if_neg (by simp)]
    exact q0 h2 q (by unfold cmpR; rw [hq]) F2 g2
  · have g := hg _ _ _ _ _ _ _ bd.1 H.1.2.2.1 H.1.2.2.2.1 hq
    have X2 := E2.fix X
    have b2 := H2.bd
    have s2 := sg2.1
    simp only [pushR0]
    rw [B_77_5 X2, show w32 1 = 1 from rfl, if_pos (by decide)]
    have e0 : cmpN T n p1 = none → cmpR T n S p lf ws = .inl (stT T n p1) := fun e => by unfold cmpR; rw [hq]; simp only [e]
    have eF : ∀ o q, cmpN T n p1 = some o → S (enT T n p1) lf1 ws1 = .inl q → cmpR T n S p lf ws = .inl q := fun o q e e2 => by unfold cmpR; rw [hq]; simp only [e, e2]
    have eS : ∀ o p2 lf2 ws2 ev2, cmpN T n p1 = some o → S (enT T n p1) lf1 ws1 = .inr (p2, lf2, ws2, ev2) → cmpR T n S p lf ws = .inr (p2, lf2, ws2, binE o ev1 ev2) := fun o p2 lf2 ws2 ev2 e e2 => by unfold cmpR; rw [hq]; simp only [e, e2]
    have go : ∀ o : Int, cmpN T n p1 = some o → WM sc (E + 12) 57 [(2, 43)] sh sl h2 (fun r sh1 sl1 h1 => WF sc (E + 13) 77 68 [(2, 43), (0, x), (0, o)] (pushR r []) sh1 sl1 h1 Q) := fun o ho => by
      have on := cmpN_s b2.1 ho
      refine cNext X2 H2 (fun h3 F3 H3 => ?_)
      have X3 : Fix sh h3 := F3.fix X2 (by decide +kernel)
      simp only [pushR9]
      rw [B_77_68 X3]
      refine hS (E + 12) _ _ _ _ h3 _ (by omega) X3 H3 (fun h4 q hPq F4 g4 => ?_) (fun h4 p2 lf2 ws2 ev2 c2 hPq E4 H4 hc4 sg4 => ?_)
      · simp only [pushR0]
        rw [B_77_73 (F4.fix X3 (by decide +kernel)), w32_0, if_pos rfl]
        exact q0 h4 q (eF o q ho hPq) ((E2.1.trans (F3.mono rfl)).trans F4) g4
      · have g4 := hg _ _ _ _ _ _ _ on.1.2 H3.1.2.2.1 H3.1.2.2.2.1 hPq
        have X4 := E4.fix X3
        have s4 := sg4.1
        have b4 := H4.bd
        simp only [pushR0]
        rw [B_77_73 X4, show w32 1 = 1 from rfl, if_neg (by decide)]
        refine cPut X4 H4 (by omega) (by omega) (fun h5 E5 H5 k1 k2 => ?_)
        simp only [pushR0]
        rw [B_77_82 (E5.fix X4), show w32 1 = 1 from rfl, if_neg (by decide)]
        refine q1 h5 _ _ _ _ (c2 + 1) (eS o p2 lf2 ws2 ev2 ho hPq) (((E2.trans (CE.nx (c := c1) F3) (by omega)).trans E4 (by omega)).trans E5 (by omega)) H5 (by omega) ?_
        rw [show lf2 - lf = (lf1 - lf) + (lf2 - lf1) by omega]
        exact seC_bin (e1 := c1) ((sg2.cg (nx_ag F3)).cg ((E4.ag (Nat.le_refl _)).tr (E5.ag (by omega)))) (sg4.cg (E5.ag (Nat.le_refl _))) k1 (by omega)
    refine cSee (w := [60]) rfl (by decide) X2 H2 (fun s0 => ?_) (fun s0 => ?_)
    · simp only [pushR0]
      rw [B_77_16 X2, show w32 1 = 1 from rfl, if_neg (by decide)]
      exact go 10 (by unfold cmpN; rw [if_pos s0])
    simp only [pushR0]
    rw [B_77_16 X2, w32_0, if_pos rfl]
    refine cSee (w := [62]) rfl (by decide) X2 H2 (fun s1 => ?_) (fun s1 => ?_)
    · simp only [pushR0]
      rw [B_77_30 X2, show w32 1 = 1 from rfl, if_neg (by decide)]
      exact go 11 (by unfold cmpN; rw [if_neg (by rw [s0]; decide), if_pos s1])
    simp only [pushR0]
    rw [B_77_30 X2, w32_0, if_pos rfl]
    refine cSee (w := [61]) rfl (by decide) X2 H2 (fun s2 => ?_) (fun s2 => ?_)
    · simp only [pushR0]
      rw [B_77_44 X2, show w32 1 = 1 from rfl, if_neg (by decide)]
      exact go 12 (by unfold cmpN; rw [if_neg (by rw [s0]; decide), if_neg (by rw [s1]; decide), if_pos s2])
    simp only [pushR0]
    rw [B_77_44 X2, w32_0, if_pos rfl]
    refine cFail X2 H2 (fun h3 F3 g3 => ?_)
    simp only [pushR0]
    rw [B_77_63 (F3.fix X2 (by decide +kernel)) (Or.inl rfl)]
    exact q0 h3 _ (e0 (by unfold cmpN; rw [if_neg (by rw [s0]; decide), if_neg (by rw [s1]; decide), if_neg (by rw [s2]; decide)])) (E2.1.trans F3) g3
theorem not_turn : ∀ r p b, p ≤ n → (notR T n r p b).2 ≠ b → p < (notR T n r p b).1 := by
  intro r
  induction r with
  | zero => intro p b _ h; exact absurd rfl h
  | succ r ih =>
    intro p b hp h
    unfold notR at h ⊢
    split
    · rename_i hs
      have := see_ne hp (by decide) hs
      have i := not_pos (T := T) (b := !b) r (enT T n p) this.2.1
      omega
    · rename_i hs
      rw [if_neg hs] at h
      exact absurd rfl h
theorem cPln {k m : Nat} {inner : Option RdF} {C : RdF} {x : Int} (hm : 14 ≤ m) (hk : k ≤ 8) (hx : x = 8 - (k : Int)) (hC : CSp sc sh sl T n od ci F m 77 [(2, 43), (0, x)] C) (hgC : RGood n true C) (hi : (k = 0 ∧ inner = none) ∨ (1 ≤ k ∧ ∃ S, inner = some S ∧ RGood n true S ∧ CSp sc sh sl T n od ci F m 74 [(2, 43), (0, x + 1)] S)) : CSp sc sh sl T n od ci F (m + 1) 76 [(2, 43), (0, x)] (plnR T n inner C) := by
  intro D p lf ws c h Q hD X H q0 q1
  obtain ⟨E, rfl⟩ : ∃ E, D = E + 13 := ⟨D - 13, by omega⟩
  have bd := H.bd
  have hgi : ∀ S, inner = some S → RGood n true S := fun S hS => by
    rcases hi with ⟨_, h0⟩ | ⟨_, S2, h0, hg, _⟩
    · rw [h0] at hS; cases hS
    · rw [h0] at hS; cases hS; exact hg
  have np := not_pos (T := T) (b := false) 400 p bd.1
  have nt := not_turn (T := T) (n := n) 400 p false bd.1
  obtain ⟨pb, hpb⟩ : ∃ pb, notR T n 400 p false = pb := ⟨_, rfl⟩
  rw [hpb] at np nt
  have eF : ∀ q, atmR T n inner C pb.1 lf ws = .inl q → plnR T n inner C p lf ws = .inl q := fun q e => by unfold plnR; rw [hpb, e]
  have eS : ∀ p1 lf1 ws1 ev, atmR T n inner C pb.1 lf ws = .inr (p1, lf1, ws1, ev) → plnR T n inner C p lf ws = .inr (p1, lf1, ws1, if pb.2 = true then notE ev else ev) := fun p1 lf1 ws1 ev e => by unfold plnR; rw [hpb, e]
  -- behind the "not"s
  have fin : ∀ (h2 : Sto) (p1 lf1 ws1 c1 : Nat) (ev : Ev), atmR T n inner C pb.1 lf ws = .inr (p1, lf1, ws1, ev) → CE ci c h h2 → CI T n od ci p1 lf1 ws1 c1 h2 → c1 + pb.1 ≤ c + p1 → SeC (h2 41) (h2 42) F c c1 (lf1 - lf) ev → ((pb.2 = false → Q (0, 1) sh sl h2) ∧ (pb.2 = true → ∀ x2 x3 : Int, WM sc (E + 12) 68 [(2, 43), (0, 2), (0, 0)] sh sl h2 (fun r sh1 sl1 h1 => WF sc (E + 13) 76 106 [(2, 43), (0, x), (0, x2), (0, x3)] (pushR r []) sh1 sl1 h1 Q))) := fun h2 p1 lf1 ws1 c1 ev ha E2 H2 hc2 sg2 => by
    have e := eS p1 lf1 ws1 ev ha
    have b2 := H2.bd
    have s2 := sg2.1
    refine ⟨fun hb => ?_, fun hb x2 x3 => ?_⟩
    · rw [hb, if_neg (by decide)] at e
      exact q1 h2 _ _ _ _ c1 e E2 H2 (by omega) sg2
    · rw [hb, if_pos rfl] at e
      have nt' := nt (by rw [hb]; decide)
      refine cPut (E2.fix X) H2 (by omega) (by omega) (fun h3 E3 H3 g1 g2 => ?_)
      simp only [pushR0]
      rw [B_76_106 (E3.fix (E2.fix X)), show w32 1 = 1 from rfl, if_neg (by decide)]
      exact q1 h3 _ _ _ _ (c1 + 1) e (E2.trans E3 (by omega)) H3 (by omega) (seC_not (sg2.cg (E3.ag (Nat.le_refl _))) g1)
  have atm : ∀ (h' : Sto) (x2 x3 : Int), x2 = (if pb.2 = true then 1 else 0) → Fr [] NxS h h' ∨ h' = h → CI T n od ci pb.1 lf ws c h' → WM sc (E + 12) 61 [(2, 43), (2, -43)] sh sl h' (fun r sh1 sl1 h1 => WF sc (E + 13) 76 42 [(2, 43), (0, x), (0, x2), (0, x3)] (pushR r []) sh1 sl1 h1 Q) := fun h' x2 x3 hx2 hF' H' => by
    have F' : Fr [] NxS h h' := by
      rcases hF' with z | z
      · exact z
      · rw [z]; exact Fr.refl h
    have E' : CE ci c h h' := CE.nx F'
    have X' := E'.fix X
    have b' := H'.bd
    refine cSee (w := [40]) rfl (by decide) X' H' (fun s => ?_) (fun s => ?_)
    · have eA : atmR T n inner C pb.1 lf ws = brkR T n inner 41 pb.1 lf ws := by unfold atmR; rw [if_pos s]
      have sn := see_ne b'.1 (by decide) s
      simp only [pushR0]
      rcases hi with ⟨k0, hin⟩ | ⟨k1, S, hin, hg, hS⟩
      · subst hin
        rw [B_76_42 X', show w32 1 = 1 from rfl, if_neg (by decide), w32_id (a := x) (by omega) (by omega), if_neg (by omega)]
        refine cFail X' H' (fun h2 F2 g2 => ?_)
        simp only [pushR0]
        rw [B_76_55 (F2.fix X' (by decide +kernel)) (Or.inl rfl)]
        exact q0 h2 _ (eF _ (by rw [eA]; rfl)) (E'.1.trans F2) g2
      · subst hin
        have eB : brkR T n (some S) 41 pb.1 lf ws = match S (enT T n pb.1) lf ws with
          | .inl q => .inl q
          | .inr (p1, lf1, ws1, ev) => if seeT T n p1 [41] = true then .inr (enT T n p1, lf1, ws1, ev) else .inl (stT T n p1) := rfl
        rw [B_76_42 X', show w32 1 = 1 from rfl, if_neg (by decide), w32_id (a := x) (by omega) (by omega), if_pos (by omega)]
        refine cNext X' H' (fun h2 F2 H2 => ?_)
        have X2 : Fix sh h2 := F2.fix X' (by decide +kernel)
        simp only [pushR9]
        rw [B_76_60 X2]
        refine hS (E + 12) _ _ _ _ h2 _ (by omega) X2 H2 (fun h3 q hSq F3 g3 => ?_) (fun h3 p1 lf1 ws1 ev c1 hSq E3 H3 hc3 sg => ?_)
        · simp only [pushR0]
          rw [B_76_67 (F3.fix X2 (by decide +kernel)), w32_0, if_neg (by simp)]
          exact q0 h3 q (eF q (by rw [eA, eB, hSq])) ((E'.1.trans (F2.mono rfl)).trans F3) g3
        · have X3 : Fix sh h3 := E3.fix X2
          have b3 := H3.bd
          simp only [pushR0]
          rw [B_76_67 X3, show w32 1 = 1 from rfl, if_pos (by decide)]
          refine cTook (w := [41]) rfl (by decide) X3 H3 (fun h4 s4 F4 H4 => ?_) (fun s4 => ?_)
          · have s5 := see_ne b3.1 (by decide) s4
            have fn := fin h4 (enT T n p1) lf1 ws1 c1 ev (by rw [eA, eB, hSq]; show (if seeT T n p1 [41] = true then _ else _) = _; rw [if_pos s4]) (((E'.trans (CE.nx (c := c) F2) (Nat.le_refl c)).trans E3 (Nat.le_refl c)).trans (CE.nx (c := c) F4) (Nat.le_refl c)) H4 (by omega) (sg.cg (nx_ag F4))
            simp only [pushR0]
            rw [B_76_78 (F4.fix X3 (by decide +kernel)), show w32 1 = 1 from rfl, if_pos (by decide), hx2]
            cases hb : pb.2 with
            | false => rw [show (if (false : Bool) = true then (1 : Int) else 0) = 0 from rfl, w32_0, if_pos rfl]; exact fn.1 hb
            | true => rw [show (if (true : Bool) = true then (1 : Int) else 0) = 1 from rfl, show w32 1 = 1 from rfl, if_neg (by decide)]; exact fn.2 hb _ _
          · simp only [pushR0]
            rw [B_76_78 X3, w32_0, if_neg (by simp)]
            refine cFail X3 H3 (fun h4 F4 g4 => ?_)
            simp only [pushR0]
            rw [B_76_85 (F4.fix X3 (by decide +kernel)) (Or.inl rfl)]
            exact q0 h4 _ (eF _ (by rw [eA, eB, hSq]; show (if seeT T n p1 [41] = true then _ else _) = _; rw [if_neg (by rw [s4]; decide)])) (((E'.1.trans (F2.mono rfl)).trans E3.1).trans F4) g4
    · have eA : atmR T n inner C pb.1 lf ws = C pb.1 lf ws := by unfold atmR; rw [if_neg (by rw [s]; decide)]
      simp only [pushR0]
      rw [B_76_42 X', w32_0, if_pos rfl]
      refine hC (E + 12) _ _ _ _ h' _ (by omega) X' H' (fun h3 q hSq F3 g3 => ?_) (fun h3 p1 lf1 ws1 ev c1 hSq E3 H3 hc3 sg => ?_)
      · simp only [pushR0]
        rw [B_76_91 (F3.fix X' (by decide +kernel)), w32_0, if_neg (by simp)]
        exact q0 h3 q (eF q (by rw [eA, hSq])) (E'.1.trans F3) g3
      · have fn := fin h3 p1 lf1 ws1 c1 ev (by rw [eA, hSq]) (E'.trans E3 (Nat.le_refl c)) H3 hc3 sg
        simp only [pushR0]
        rw [B_76_91 (E3.fix X'), show w32 1 = 1 from rfl, if_pos (by decide), hx2]
        cases hb : pb.2 with
        | false => rw [show (if (false : Bool) = true then (1 : Int) else 0) = 0 from rfl, w32_0, if_pos rfl]; exact fn.1 hb
        | true => rw [show (if (true : Bool) = true then (1 : Int) else 0) = 1 from rfl, show w32 1 = 1 from rfl, if_neg (by decide)]; exact fn.2 hb _ _
  -- the "not"s
  have lp : ∀ (rem i : Nat) (h' : Sto) (p' : Nat) (b : Bool) (I x2 : Int), i + rem = 400 → I = i → x2 = (if b = true then 1 else 0) → notR T n rem p' b = pb → Fr [] NxS h h' → CI T n od ci p' lf ws c h' → WF sc (E + 13) 76 4 [(2, 43), (0, x), (0, x2), (0, I)] [] sh sl h' Q := by
    intro rem
    induction rem with
    | zero =>
      intro i h' p' b I x2 hi hI hx2 hn F' H'
      subst hI
      have e : (p', b) = pb := hn
      rw [B_76_4 (F'.fix X (by decide +kernel)), w32_id (a := (i : Int)) (by omega) (by omega), if_pos (by omega)]
      exact atm h' x2 _ (by rw [hx2, ← e]) (Or.inl F') (by rw [← e]; exact H')
    | succ rem ih =>
      intro i h' p' b I x2 hi hI hx2 hn F' H'
      subst hI
      have X' : Fix sh h' := F'.fix X (by decide +kernel)
      rw [B_76_4 X', w32_id (a := (i : Int)) (by omega) (by omega), if_neg (by omega)]
      unfold notR at hn
      refine cTook (w := [110, 111, 116]) rfl (by decide) X' H' (fun h2 s F2 H2 => ?_) (fun s => ?_)
      · rw [if_pos s] at hn
        simp only [pushR0]
        rw [B_76_17 (F2.fix X' (by decide +kernel)), show w32 1 = 1 from rfl, if_neg (by decide), hx2]
        cases b with
        | false =>
          rw [show (if (false : Bool) = true then (1 : Int) else 0) = 0 from rfl, w32_0, if_neg (by simp)]
          exact ih (i + 1) h2 _ true _ _ (by omega) (by simp) rfl hn (F'.trans F2) H2
        | true =>
          rw [show (if (true : Bool) = true then (1 : Int) else 0) = 1 from rfl, show w32 1 = 1 from rfl, if_pos (by decide)]
          exact ih (i + 1) h2 _ false _ _ (by omega) (by simp) rfl hn (F'.trans F2) H2
      · rw [if_neg (by rw [s]; decide)] at hn
        simp only [pushR0]
        rw [B_76_17 X', w32_0, if_pos rfl]
        exact atm h' x2 _ (by rw [hx2, ← hn]) (Or.inl F') (by rw [← hn]; exact H')
  rw [B_76_0 X]
  exact lp 400 0 h p false _ _ (by omega) rfl rfl hpb (Fr.refl h) H
/-- SUM, TEST of the class, with k brackets to spare -/
theorem cSumK (hF : (od = true → 20 ≤ F) ∧ 8 ≤ F) : ∀ (k : Nat) (x : Int), k ≤ 8 → x = 8 - (k : Int) → CSp sc sh sl T n od ci F (16 + 3 * k) 64 [(2, 43), (0, x)] (sumK T n od k) := by
  intro k
  induction k with
  | zero =>
    intro x hk hx
    have g : RGood n false (partR T n od none) := part_good (fun S h => by cases h)
    exact cSum (by omega) (cTerm (by omega) (cPart hk hx hF (Or.inl ⟨rfl, rfl⟩)) g) (chn_good g mulO_good)
  | succ k ih =>
    intro x hk hx
    have g : RGood n false (partR T n od (some (sumK T n od k))) := part_good (fun S h => by cases h; exact sum_good k)
    have hp : CSp sc sh sl T n od ci F (14 + 3 * (k + 1)) 66 [(2, 43), (0, x)] (partR T n od (some (sumK T n od k))) := cPart hk hx hF (Or.inr ⟨by omega, _, rfl, sum_good k, by
      have := ih (x + 1) (by omega) (by omega)
      rw [show 13 + 3 * (k + 1) = 16 + 3 * k by omega]; exact this⟩)
    rw [show 16 + 3 * (k + 1) = 14 + 3 * (k + 1) + 1 + 1 by omega]
    exact cSum (by omega) (cTerm (by omega) hp g) (chn_good g mulO_good)
theorem cAnyK (hF : (od = true → 20 ≤ F) ∧ 8 ≤ F) : ∀ (k : Nat) (x : Int), k ≤ 8 → x = 8 - (k : Int) → CSp sc sh sl T n od ci F (20 + 3 * k) 74 [(2, 43), (0, x)] (anyK T n od k) := by
  intro k
  induction k with
  | zero =>
    intro x hk hx
    have hc := cCmp (by omega) (cSumK (sc := sc) (sh := sh) (sl := sl) (T := T) (n := n) (ci := ci) hF 0 x hk hx) (sum_good 0)
    have gc : RGood n true (cmpR T n (sumK T n od 0)) := cmp_good (sum_good 0)
    have g : RGood n true (plnR T n none (cmpR T n (sumK T n od 0))) := pln_good (fun S h => by cases h) gc
    exact cAny (by omega) (cAll (by omega) (cPln (k := 0) (by omega) hk hx hc gc (Or.inl ⟨rfl, rfl⟩)) g) (chn_good g andO_good)
  | succ k ih =>
    intro x hk hx
    have hc := cCmp (by omega) (cSumK (sc := sc) (sh := sh) (sl := sl) (T := T) (n := n) (ci := ci) hF (k + 1) x hk hx) (sum_good (k + 1))
    have gc : RGood n true (cmpR T n (sumK T n od (k + 1))) := cmp_good (sum_good (k + 1))
    have g : RGood n true (plnR T n (some (anyK T n od k)) (cmpR T n (sumK T n od (k + 1)))) := pln_good (fun S h => by cases h; exact any_good k) gc
    rw [show 20 + 3 * (k + 1) = 16 + 3 * (k + 1) + 1 + 1 + 1 + 1 by omega]
    refine cAny (by omega) (cAll (by omega) (cPln (k := k + 1) (by omega) hk hx hc gc (Or.inr ⟨by omega, _, rfl, any_good k, ?_⟩)) g) (chn_good g andO_good)
    have := ih (x + 1) (by omega) (by omega)
    rw [show 16 + 3 * (k + 1) + 1 = 20 + 3 * k by omega]; exact this
end CREAD3
