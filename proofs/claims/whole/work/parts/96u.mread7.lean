def BsA (k : Int) (pl : Pil) : Prop := topB k pl ∧ innP pl ≠ 32
abbrev AEn (T : Nat → Int) (n : Nat) : Nat → Prop := fun p => seeT T n p [111, 114] = false ∧ (seeT T n p [97, 110, 100] = false ∧ True)
section MREAD7
variable {sc : Nat × (Nat → Int)} {d : Nat} {sh : Shp} {sl : Nat} {T : Nat → Int} {n : Nat} {od : Bool}
theorem MI.pn {h h3 h4 : Sto} {p lf c b : Nat} {pl : Pil} {x : Int × Nat} (H : MI T n od p lf c pl b h) (F : Fr [98, 99] [(85, 29)] h h3) (S : PlS h3 (x :: pl) c) (F4 : Fr [] NmS h3 h4) (R4 : RdM T n (enT T n p) h4) (hlt : p < enT T n p ∧ enT T n p ≤ n) : MI T n od (enT T n p) lf c (x :: pl) b h4 := by
  obtain ⟨⟨a1, a2, a3, a4⟩, P, R0, b1, b2, b3, b4, k⟩ := H
  obtain ⟨k1, k2, k3, k4, k5⟩ := S
  exact ⟨⟨hlt.2, a2, by show c + (pl.length + 1) ≤ _; omega, a4⟩, ⟨P.1, fun i hi => by rw [F4.row 94 rfl, F.row 94 rfl]; exact P.2 i hi⟩, R4, by rw [F4.at 85 19 rfl, F.at 85 19 rfl]; exact b1, by rw [F4.at 85 20 rfl, F.at 85 20 rfl]; exact b2, by rw [F4.at 85 26 rfl, F.at 85 26 rfl]; exact b3, by rw [F4.at 85 30 rfl, F.at 85 30 rfl]; exact b4, by rw [F4.at 85 29 rfl]; exact k1, by rw [F4.at 85 23 rfl]; exact k2, by rw [F4.row 98 rfl, F4.row 99 rfl]; exact k3, k4, k5⟩
theorem RdM.fr {h h2 : Sto} {p : Nat} (R : RdM T n p h) (F : Fr MrP [(85, 18), (85, 19), (85, 23), (85, 26), (85, 29), (85, 30)] h h2) : RdM T n p h2 := by
  unfold RdM; rw [F.at 85 13 rfl, F.at 85 14 rfl, F.at 85 15 rfl, F.at 85 16 rfl, F.at 85 17 rfl]; exact R
/-- behind a TEST: "and", "or" -/
theorem bt_op {h : Sto} {Q : Pst} {p lf c b : Nat} {tl pl : Pil} {oc kb : Int} {w : List Int} (X : Fix sh h) (H : MI T n od p lf c (tl ++ pl) b h) (hw : (oc = 29 ∧ kb = 2 ∧ w = [97, 110, 100]) ∨ (oc = 30 ∧ kb = 1 ∧ w = [111, 114])) (s : seeT T n p w = true) (ht : ∀ x ∈ tl, kb ≤ bnd x.1) (hpl : topB kb pl) (hq : ∀ h2 c2, c2 = (fluS tl (h 96, h 97, c)).2.2 → Fr MrP MrT h h2 → h2 96 = up (fluS tl (h 96, h 97, c)).1 c2 oc → h2 97 = up (fluS tl (h 96, h 97, c)).2.1 c2 0 → c ≤ c2 → MI T n od (enT T n p) lf (c2 + 1) ((oc, c2) :: pl) b h2 → WF sc (d + 12) 203 20 [(2, 85), (0, 1), (0, 0)] [] sh sl h2 Q) : WF sc (d + 12) 203 20 [(2, 85), (0, 1), (0, 2)] [] sh sl h Q := by
  have hp := H.1.1
  have P := H.2.1
  have R := H.2.2.1
  have hn4 := P.1
  have a3 := H.1.2.2.1
  have eb := enT_b (T := T) hp
  have sb := stT_b (T := T) hp
  have l2 : p + 2 ≤ enT T n p := by
    have s' := s
    unfold seeT at s'
    rw [Bool.and_eq_true, decide_eq_true_eq] at s'
    have : 2 ≤ w.length := by rcases hw with ⟨_, _, rfl⟩ | ⟨_, _, rfl⟩ <;> decide
    omega
  have ok : (20 ≤ oc ∧ oc ≤ 32) ∧ (1 ≤ kb ∧ kb ≤ 2) := by rcases hw with ⟨h1, h2, _⟩ | ⟨h1, h2, _⟩ <;> omega
  -- settled, laid on the pile, put, gone on
  have go : ∀ xz : Int, (oc = 29 ∧ xz = 1 ∨ oc = 30 ∧ xz = 0) → WM sc (d + 10) 216 [(2, 85), (0, kb)] sh sl h (fun r sh1 sl1 h1 => WF sc (d + 11) 219 35 [(2, 85), (0, xz)] (pushR r []) sh1 sl1 h1 (fun r sh1 sl1 h1 => WF sc (d + 12) 203 72 [(2, 85), (0, 1), (0, 2)] (pushR r []) sh1 sl1 h1 Q)) := fun xz hxz => by
    refine mSettle (by omega) X H ht hpl (fun h2 F2 g1 g2 g3 H2 => ?_)
    have X2 : Fix sh h2 := F2.fix X (by decide +kernel)
    obtain ⟨c2, hc2⟩ : ∃ c2, (fluS tl (h 96, h 97, c)).2.2 = c2 := ⟨_, rfl⟩
    rw [hc2] at g3 H2
    have a3' := H2.1.2.2.1
    have e23 := H2.2.2.2.2.2.2.2.2.1
    have psh : ∀ o : Int, o = oc → WM sc (d + 10) 205 [(2, 85), (0, o), (0, (c2 : Int))] sh sl h2 (fun r sh1 sl1 h1 => WF sc (d + 11) 219 54 [(2, 85), (0, xz)] (pushR r []) sh1 sl1 h1 (fun r sh1 sl1 h1 => WF sc (d + 12) 203 72 [(2, 85), (0, 1), (0, 2)] (pushR r []) sh1 sl1 h1 Q)) := fun o ho => by
      rw [ho]
      refine mPush (a := c2) X2 H2 (by omega) ok.1 (by omega) (fun h3 E3 F3 S3 => ?_)
      have X3 := E3.fix X2
      have e23' : h3 85 23 = (c2 : Int) := S3.2.1
      have emt : ∀ o : Int, o = oc → WM sc (d + 10) 212 [(2, 85), (0, o), (0, 0)] sh sl h3 (fun r sh1 sl1 h1 => WF sc (d + 11) 219 70 [(2, 85), (0, xz)] (pushR r []) sh1 sl1 h1 (fun r sh1 sl1 h1 => WF sc (d + 12) 203 72 [(2, 85), (0, 1), (0, 2)] (pushR r []) sh1 sl1 h1 Q)) := fun o ho => by
        rw [ho, B_212_0 X3, e23', w32_id (a := (c2 : Int)) (by omega) (by omega), Int.toNat_natCast]
        refine ⟨⟨by omega, by omega⟩, ⟨by omega, by omega⟩, ?_⟩
        obtain ⟨h4, hh4⟩ : ∃ h4, setH (setH (setH h3 96 c2 oc) 97 c2 0) 85 23 ((c2 : Int) + 1) = h4 := ⟨_, rfl⟩
        rw [hh4]
        have F4 : Fr [96, 97] [(85, 23)] h3 h4 := by rw [← hh4]; exact (((Fr.refl h3).setP rfl).setP rfl).set rfl
        have X4 : Fix sh h4 := F4.fix X3 (by decide +kernel)
        have R4 : RdM T n p h4 := (H2.2.2.1.fr (F3.mono rfl)).fr (F4.mono rfl)
        simp only [pushR9]
        rw [B_219_70 X4]
        refine sp_nextM X4 eb.2.1 ⟨P.1, fun i hi => by rw [F4.row 94 rfl, F3.row 94 rfl]; exact H2.2.1.2 i hi⟩ R4.1 R4.2.2.1 (fun h5 F5 R5 => ?_)
        have X5 : Fix sh h5 := F5.fix X4 (by decide +kernel)
        simp only [pushR9]
        rw [B_219_74 X5]
        simp only [pushR0]
        rw [B_203_72 X5]
        obtain ⟨⟨a1, a2, a3'', a4⟩, P', R0, b1, b2, b3, b4, k⟩ := H2
        obtain ⟨k1, k2, k3, k4, k5⟩ := S3
        have ln : ((oc, c2) :: pl : Pil).length = pl.length + 1 := rfl
        rw [ln] at k5
        refine hq h5 c2 hc2.symm ((((F2.mono rfl).trans E3.1).trans (F4.mono rfl)).trans (F5.mono rfl)) ?_ ?_ g3 ⟨⟨eb.2.1, a2, by rw [ln]; omega, a4⟩, ⟨P.1, fun i hi => by rw [F5.row 94 rfl, F4.row 94 rfl, F3.row 94 rfl]; exact P'.2 i hi⟩, R5, by rw [F5.at 85 19 rfl, F4.at 85 19 rfl, F3.at 85 19 rfl]; exact b1, by rw [F5.at 85 20 rfl, F4.at 85 20 rfl, F3.at 85 20 rfl]; exact b2, by rw [F5.at 85 26 rfl, F4.at 85 26 rfl, F3.at 85 26 rfl]; exact b3, by rw [F5.at 85 30 rfl, F4.at 85 30 rfl, F3.at 85 30 rfl]; exact b4, by rw [F5.at 85 29 rfl, F4.at 85 29 rfl]; exact k1, by rw [F5.at 85 23 rfl, ← hh4, setH_self]; omega, by rw [F5.row 98 rfl, F5.row 99 rfl, F4.row 98 rfl, F4.row 99 rfl]; exact k3, k4, by rw [ln]; omega⟩
        · rw [F5.row 96 rfl, ← hh4, setH_o (by decide), setH_o (by decide), row_set, F3.row 96 rfl, g1]
        · rw [F5.row 97 rfl, ← hh4, setH_o (by decide), row_set, setH_o (by decide), F3.row 97 rfl, g2]
      simp only [pushR9]
      rw [B_219_54 X3, w32_id (a := xz) (by omega) (by omega)]
      exact ite_i (fun z => emt 30 (by omega)) (fun z => emt 29 (by omega))
    simp only [pushR9]
    rw [B_219_35 X2, w32_id (a := xz) (by omega) (by omega), e23]
    exact ite_i (fun z => psh 30 (by omega)) (fun z => psh 29 (by omega))
  refine t_told X H ?_
  rw [B_219_0 X]
  refine sp_isWord (w := [97, 110, 100]) X hp P R (by decide +kernel) (by decide) (by decide) (by decide) ?_
  simp only [pushR0]
  rw [B_219_7 X]
  rcases hw with ⟨h1, h2, h3⟩ | ⟨h1, h2, h3⟩
  · subst h3
    have g := go 1 (Or.inl ⟨h1, rfl⟩)
    rw [h2] at g
    rw [if_pos s, show w32 1 = 1 from rfl, if_pos (by decide), if_neg (by decide)]
    exact g
  · subst h3
    have g := go 0 (Or.inr ⟨h1, rfl⟩)
    rw [h2] at g
    have na : ¬ seeT T n p [97, 110, 100] = true := fun q => by have := see_inj s q; exact absurd this (by decide)
    rw [if_neg na, w32_0, if_neg (by simp)]
    refine sp_isWord (w := [111, 114]) X hp P R (by decide +kernel) (by decide) (by decide) (by decide) ?_
    simp only [pushR0]
    rw [if_pos s, B_219_19 X, show w32 1 = 1 from rfl, if_neg (by decide), w32_0, if_pos rfl]
    exact g
theorem bt_no {h : Sto} {Q : Pst} {p lf c b : Nat} {pl : Pil} (X : Fix sh h) (H : MI T n od p lf c pl b h) (hE : AEn T n p) (hq : WF sc (d + 11) 219 80 [(2, 85), (0, 0)] [(0, innP pl)] sh sl h Q) : WM sc (d + 11) 219 [(2, 85)] sh sl h Q := by
  have hp := H.1.1
  have P := H.2.1
  have R := H.2.2.1
  rw [B_219_0 X]
  refine sp_isWord (w := [97, 110, 100]) X hp P R (by decide +kernel) (by decide) (by decide) (by decide) ?_
  simp only [pushR0]
  rw [if_neg (by rw [hE.2.1]; decide), B_219_7 X, w32_0, if_neg (by simp)]
  refine sp_isWord (w := [111, 114]) X hp P R (by decide +kernel) (by decide) (by decide) (by decide) ?_
  simp only [pushR0]
  rw [if_neg (by rw [hE.1]; decide), B_219_19 X, w32_0, if_pos rfl]
  refine sp_inner X H.2.2.2.2.2.2.2 ?_
  simp only [pushR0]
  exact hq
theorem mChain2 {P : RdF} {opO : Nat → Option (Ev → Ev → Ev)} {E : Ev → Ev → Ev} {w : List Int} {oc kb : Int} {b : Nat} {BI TI : Pil → Prop} {EI : Nat → Prop} (hw : (oc = 29 ∧ kb = 2 ∧ w = [97, 110, 100]) ∨ (oc = 30 ∧ kb = 1 ∧ w = [111, 114])) (hop : ∀ p, opO p = if seeT T n p w = true then some E else none) (hseg : ∀ (op ar : Nat → Int) (c e1 e l1 l2 : Nat) (a b : Ev), SeM op ar (wxF od) (wtp od) c e1 l1 a → EvB a → SeM op ar (wxF od) (wtp od) (e1 + 1) e l2 b → op e1 = oc → ar e1 = (e : Int) → SeM op ar (wxF od) (wtp od) c e (l1 + l2) (E a b)) (hTI : ∀ tl, TI tl → tesT kb tl) (hB1 : ∀ pl, BsA kb pl → BI pl) (hB2 : ∀ a pl, BsA kb pl → BI ((oc, a) :: pl)) (hO : OGood T n true opO) (hP : MRd sc sh sl T n od (d + 12) 1 0 2 P b BI TI EI) (hg : RGood n true P) : MRd sc sh sl T n od (d + 12) 1 0 2 (chnR T n P opO false) b (BsA kb) (tesT kb) (fun p => seeT T n p w = false ∧ EI p) := by
  intro h p lf ws c pl Q X H hws hB hb hq
  have hn4 := H.2.1.1
  have ok : (29 ≤ oc ∧ oc ≤ 30) ∧ (1 ≤ kb ∧ kb ≤ 2) ∧ bnd oc = kb := by rcases hw with ⟨h1, h2, _⟩ | ⟨h1, h2, _⟩ <;> subst h1 h2 <;> decide
  have lp : ∀ (rem i : Nat) (h' : Sto) (p' lf' ws' c' : Nat) (tl : Pil) (ev : Ev), i + rem = 400 → p + 2 * i ≤ p' → MX c h h' → MI T n od p' lf' c' (tl ++ pl) b h' → ws' < 8388608 → c ≤ c' → lf < lf' → tesT kb tl → TlC c tl → EvB ev → EI p' → TlT od h' c c' (lf' - lf) tl ev → (∀ h2 q t, loopR T n P opO false rem p' lf' ws' ev = .inl q → MB q h h2 → WF sc (d + 12) 203 20 [(2, 85), (0, 1), (0, t)] [] sh sl h2 Q) → (∀ h2 p1 lf1 ws1 ev1 c1 tl, loopR T n P opO false rem p' lf' ws' ev = .inr (p1, lf1, ws1, ev1) → MX c h h2 → MI T n od p1 lf1 c1 (tl ++ pl) b h2 → c ≤ c1 → tesT kb tl → TlC c tl → (seeT T n p1 w = false ∧ EI p1) → TlT od h2 c c1 (lf1 - lf) tl ev1 → WF sc (d + 12) 203 20 [(2, 85), (0, 1), (0, 2)] [] sh sl h2 Q) → WF sc (d + 12) 203 20 [(2, 85), (0, 1), (0, 2)] [] sh sl h' Q := by
    intro rem
    induction rem with
    | zero =>
      intro i h' p' lf' ws' c' tl ev hi hpi E' H'
      have := H'.1.1
      omega
    | succ rem ih =>
      intro i h' p' lf' ws' c' tl ev hi hpi E' H' hws' hcc hlf ht htc hev hE hT hb hq
      have hp' := H'.1.1
      by_cases s : seeT T n p' w = true
      case neg =>
        exact hq h' p' lf' ws' ev c' tl (by simp only [loopR, hop, s]; rfl) E' H' hcc ht htc ⟨Bool.eq_false_iff.mpr s, hE⟩ hT
      have ho : opO p' = some E := by rw [hop, if_pos s]
      have og := hO p' E hp' ho
      refine bt_op (E'.fix X) H' hw s (fun x hx => (ht x hx).1) hB.1 (fun h2 c2 hc2 F2 g1 g2 g3 H2 => ?_)
      unfold TlT at hT
      have lo := fluS_lo tl (h' 96, h' 97, c') htc hcc
      obtain ⟨s2, hs2⟩ : ∃ s2, fluS tl (h' 96, h' 97, c') = s2 := ⟨_, rfl⟩
      rw [hs2] at hT hc2 g1 g2 lo
      rw [← hc2] at hT
      have hT1 := hT.1
      have kb2 : MKb h' → MKb h2 := fun k i hi => by
        obtain ⟨s1, s22, s3, s4, s5⟩ := H'.2.2.2.2.2.2.2
        rw [List.length_append] at s5
        have e23 := H2.2.2.2.2.2.2.2.2.1
        rw [e23] at hi
        rw [g1, g2]
        unfold KBd
        by_cases ic : i = c2
        · rw [ic, up_s, up_s]; exact ⟨⟨by omega, by omega⟩, by omega, by omega⟩
        · rw [up_n ic, up_n ic, ← hs2]
          exact fluS_kb tl (h' 96, h' 97, c') (fun x hx => s4 x (by simp [hx])) (by show c' + tl.length ≤ 400; omega) (fun j hj => k j (by rw [s22]; have : j < c' := hj; omega)) i (by rw [hs2, ← hc2]; omega)
      have E2 : MX c h' h2 := ⟨F2, fun i hi => by rw [g1, g2, up_n (by omega), up_n (by omega)]; exact lo i hi, kb2⟩
      have hT' : SeM (h2 96) (h2 97) (wxF od) (wtp od) c c2 (lf' - lf) ev := hT.cg (fun i i1 i2 => by rw [g1, g2, up_n (by omega), up_n (by omega)]; exact ⟨rfl, rfl⟩)
      refine hP h2 (enT T n p') lf' ws' (c2 + 1) ((oc, c2) :: pl) Q (E2.fix (E'.fix X)) H2 hws' (hB2 c2 pl hB) (fun h3 q t hPq B3 => ?_) (fun h3 p1 lf1 ws1 ev1 c3 tl1 hPq E3 H3 hc3 ht1 htc1 hE1 hT3 => ?_)
      · exact hb h3 q t (by simp only [loopR, ho, hPq]) (B3.sub (E'.1.trans F2))
      · have g := hg _ _ _ _ _ _ _ og.1.2 H'.1.2.1 hws' hPq
        have el : loopR T n P opO false (rem + 1) p' lf' ws' ev = loopR T n P opO false rem p1 lf1 ws1 (E ev ev1) := by simp only [loopR, ho, hPq]
        rw [el] at hb hq
        have at1 := hTI tl1 ht1
        have atl : tesT kb (tl1 ++ [(oc, c2)]) := fun x hx => by
          rcases List.mem_append.mp hx with z | z
          · exact at1 x z
          · have : x = (oc, c2) := by simpa using z
            subst this
            exact ⟨by show kb ≤ bnd oc; omega, by show 20 ≤ oc; omega, by show oc < 31; omega⟩
        have tcl : TlC c (tl1 ++ [(oc, c2)]) := fun x hx z => by
          rcases List.mem_append.mp hx with y | y
          · have := htc1 x y z; omega
          · have : x = (oc, c2) := by simpa using y
            subst this
            show c ≤ c2; omega
        have H3' : MI T n od p1 lf1 c3 ((tl1 ++ [(oc, c2)]) ++ pl) b h3 := by rw [List.append_assoc]; exact H3
        refine ih (i + 1) h3 p1 lf1 ws1 c3 (tl1 ++ [(oc, c2)]) (E ev ev1) (by omega) (by omega) ((E'.trans E2 (Nat.le_refl c)).trans E3 (by omega)) H3' g.2.2.1 (by omega) (by omega) atl tcl (og.2.2.2 rfl _ _ hev (g.2.2.2.2.2.2 rfl)) hE1 ?_ hb hq
        unfold TlT at hT3 ⊢
        rw [fluS_app]
        have lo3 := fluS_lo tl1 (h3 96, h3 97, c3) htc1 hc3
        obtain ⟨s3, hs3⟩ : ∃ s3, fluS tl1 (h3 96, h3 97, c3) = s3 := ⟨_, rfl⟩
        rw [hs3] at hT3 lo3 ⊢
        have e4 : fluS [(oc, c2)] s3 = (s3.1, up s3.2.1 c2 (s3.2.2 : Int), s3.2.2) := by
          show (if (oc = 29 ∨ oc = 30) then _ else _) = _
          rw [if_pos (by omega)]; rfl
        rw [e4]
        have hT31 := hT3.1
        show SeM s3.1 (up s3.2.1 c2 (s3.2.2 : Int)) (wxF od) (wtp od) c s3.2.2 (lf1 - lf) (E ev ev1)
        rw [show lf1 - lf = (lf' - lf) + (lf1 - lf') by omega]
        refine hseg _ _ c c2 s3.2.2 _ _ ev ev1 (hT'.cg ?_) hev (hT3.cg ?_) ?_ up_s
        · refine (E3.ag (show c2 ≤ c2 + 1 by omega)).tr (fun i i1 i2 => ?_)
          have l3 := lo3 i (by omega)
          rw [up_n (by omega)]
          exact l3
        · intro i i1 i2
          rw [up_n (by omega)]; exact ⟨rfl, rfl⟩
        · have l3 := (lo3 c2 (by omega)).1
          rw [l3]
          show h3 96 c2 = oc
          rw [(E3.2.1 c2 (by omega)).1, g1, up_s]
  refine hP h p lf ws c pl Q X H hws (hB1 pl hB) (fun h2 q t hPq B2 => hb h2 q t (by unfold chnR; rw [hPq]) B2) (fun h2 p1 lf1 ws1 ev1 c1 tl hPq E2 H2 hc2 ht htc hE hT => ?_)
  have g := hg _ _ _ _ _ _ _ H.1.1 H.1.2.1 hws hPq
  have eC : chnR T n P opO false p lf ws = loopR T n P opO false 400 p1 lf1 ws1 ev1 := by unfold chnR; rw [hPq]
  rw [eC] at hb hq
  exact lp 400 0 h2 p1 lf1 ws1 c1 tl ev1 (by omega) (by omega) E2 H2 g.2.2.1 hc2 (by omega) (hTI tl ht) htc (g.2.2.2.2.2.2 rfl) hE hT hb hq
end MREAD7
