section MREAD8
variable {sc : Nat × (Nat → Int)} {d : Nat} {sh : Shp} {sl : Nat} {T : Nat → Int} {n : Nat} {od : Bool}
abbrev nts (j : Nat) : Pil := List.replicate j ((28, 0) : Int × Nat)
theorem nts_mem {j : Nat} {x : Int × Nat} (h : x ∈ nts j) : x = (28, 0) := (List.mem_replicate.mp h).2
theorem innP_nts {j : Nat} {pl : Pil} : innP (nts j ++ pl) = innP pl := innP_app (fun x hx => by rw [nts_mem hx]; decide)
theorem BsT.nts {j : Nat} {pl : Pil} (H : BsT pl) : BsT (nts j ++ pl) := by
  refine ⟨fun x r e => ?_, by rw [innP_nts]; exact H.2⟩
  cases j with
  | zero => exact H.1 x r e
  | succ j =>
    have e' : ((28, 0) : Int × Nat) :: (List.replicate j (28, 0) ++ pl) = x :: r := e
    cases e'
    decide
theorem mPln {k b : Nat} {inner : Option RdF} (hkb : b + k = 8) (hi : (k = 0 ∧ inner = none) ∨ (1 ≤ k ∧ ∃ A, inner = some A ∧ RGood n true A ∧ MRd sc sh sl T n od (d + 12) 1 0 2 A (b + 1) (BsA 1) (tesT 1) (AEn T n))) : MRd sc sh sl T n od (d + 12) 1 0 2 (plnR T n inner (cmpR T n (sumK T n od k))) b BsT (tesT 3) (fun _ => True) := by
  intro h p lf ws c pl Q X H hws hB hb hq
  have hn4 := H.2.1.1
  have hp := H.1.1
  have gC : RGood n true (cmpR T n (sumK T n od k)) := cmp_good (sum_good k)
  have hgi : ∀ S, inner = some S → RGood n true S := fun S hS => by
    rcases hi with ⟨_, h0⟩ | ⟨_, S2, h0, hg, _⟩
    · rw [h0] at hS; cases hS
    · rw [h0] at hS; cases hS; exact hg
  have np := not_pos (T := T) (b := false) 400 p hp
  obtain ⟨pb, hpb⟩ : ∃ pb, notR T n 400 p false = pb := ⟨_, rfl⟩
  rw [hpb] at np
  have eF : ∀ q, atmR T n inner (cmpR T n (sumK T n od k)) pb.1 lf ws = .inl q → plnR T n inner (cmpR T n (sumK T n od k)) p lf ws = .inl q := fun q e => by unfold plnR; rw [hpb, e]
  have eS : ∀ p1 lf1 ws1 ev, atmR T n inner (cmpR T n (sumK T n od k)) pb.1 lf ws = .inr (p1, lf1, ws1, ev) → plnR T n inner (cmpR T n (sumK T n od k)) p lf ws = .inr (p1, lf1, ws1, if pb.2 = true then notE ev else ev) := fun p1 lf1 ws1 ev e => by unfold plnR; rw [hpb, e]
  -- behind it
  have fin : ∀ (j : Nat) (h2 : Sto) (p1 lf1 ws1 c1 : Nat) (tl : Pil) (ev : Ev), pb.2 = decide (j % 2 = 1) → atmR T n inner (cmpR T n (sumK T n od k)) pb.1 lf ws = .inr (p1, lf1, ws1, ev) → MX c h h2 → MI T n od p1 lf1 c1 (tl ++ (nts j ++ pl)) b h2 → c ≤ c1 → tesT 4 tl → TlC c tl → TlT od h2 c c1 (lf1 - lf) tl ev → WF sc (d + 12) 203 20 [(2, 85), (0, 1), (0, 2)] [] sh sl h2 Q := fun j h2 p1 lf1 ws1 c1 tl ev hpj ha E2 H2 hc2 ht htc hT => by
    have g := atm_good hgi gC _ _ _ _ _ _ _ np.2 H.1.2.1 hws ha
    have H2' : MI T n od p1 lf1 c1 ((tl ++ nts j) ++ pl) b h2 := by rw [List.append_assoc]; exact H2
    refine hq h2 p1 lf1 ws1 _ c1 (tl ++ nts j) (eS _ _ _ _ ha) E2 H2' hc2 (fun x hx => ?_) (fun x hx z => ?_) trivial ?_
    · rcases List.mem_append.mp hx with y | y
      · have := ht x y; omega
      · rw [nts_mem y]; decide
    · rcases List.mem_append.mp hx with y | y
      · exact htc x y z
      · rw [nts_mem y] at z; exact absurd z (by decide)
    · unfold TlT at hT ⊢
      rw [fluS_app]
      have sn := seM_nots (g.2.2.2.2.2.2 rfl) j (fluS tl (h2 96, h2 97, c1)) hT
      have ep : (if pb.2 = true then notE ev else ev) = parE j ev := by
        unfold parE
        rw [hpj]
        by_cases z : j % 2 = 1
        · rw [if_pos (decide_eq_true z), if_pos z]
        · rw [if_neg (by rw [decide_eq_false z]; decide), if_neg z]
      rw [ep]; exact sn
  have atm : ∀ (j : Nat) (h' : Sto), pb.2 = decide (j % 2 = 1) → seeT T n pb.1 [110, 111, 116] = false → MX c h h' → MI T n od pb.1 lf c (nts j ++ pl) b h' → WF sc (d + 12) 203 20 [(2, 85), (0, 1), (0, 0)] [] sh sl h' Q := fun j h' hpj hnn E' H' => by
    have X' := E'.fix X
    have hp' := H'.1.1
    have P := H'.2.1
    have R := H'.2.2.1
    have a3 := H'.1.2.2.1
    by_cases s : seeT T n pb.1 [40] = true
    case neg =>
      have eA : atmR T n inner (cmpR T n (sumK T n od k)) pb.1 lf ws = cmpR T n (sumK T n od k) pb.1 lf ws := by unfold atmR; rw [if_neg s]
      refine mCmp hkb h' pb.1 lf ws c (nts j ++ pl) Q ⟨hnn, Bool.eq_false_iff.mpr s⟩ X' H' hws hB.nts (fun h2 q t hC B2 => hb h2 q t (eF q (by rw [eA, hC])) (B2.sub E'.1)) (fun h2 p1 lf1 ws1 ev c1 tl hC E2 H2 hc2 ht htc _ hT => ?_)
      exact fin j h2 p1 lf1 ws1 c1 tl ev hpj (by rw [eA, hC]) (E'.trans E2 (Nat.le_refl c)) H2 hc2 ht htc hT
    have eA : atmR T n inner (cmpR T n (sumK T n od k)) pb.1 lf ws = brkR T n inner 41 pb.1 lf ws := by unfold atmR; rw [if_pos s]
    have sn := see_ne hp' (by show 1 ≤ 1; omega) s
    have hbb := H'.1.2.2.2
    have b30 := H'.2.2.2.2.2.2.1
    refine t_plain X' H' ?_
    rw [B_204_0 X']
    refine sp_isWord (w := [110, 111, 116]) X' hp' P R (by decide +kernel) (by decide) (by decide) (by decide) ?_
    rw [if_neg (by rw [hnn]; decide)]
    simp only [pushR0]
    rw [B_204_7 X', w32_0, if_pos rfl]
    refine sp_isSign (c := 40) X' hp' P R (by decide) (by decide) ?_
    rw [if_pos s]
    simp only [pushR0]
    rw [B_204_29 X', show w32 1 = 1 from rfl, if_neg (by decide), B_207_0 X', b30, w32_id (a := (b : Int)) (by omega) (by omega)]
    rcases hi with ⟨k0, hin⟩ | ⟨k1, A, hin, hg, hA⟩
    · subst hin
      rw [if_pos (by omega)]
      refine mMustF X' H' rfl (fun h2 B2 P2 g20 g23 => ?_)
      have X2 : Fix sh h2 := B2.1.fix X' (by decide +kernel)
      simp only [pushR9]
      rw [B_207_18 X2, B2.2.1, show w32 1 = 1 from rfl, if_pos (by decide), B_207_41 X2]
      simp only [pushR9]
      rw [B_204_38 X2]
      simp only [pushR0]
      rw [B_203_40 X2, B_203_72 X2]
      exact hb h2 _ 0 (eF _ (by rw [eA]; rfl)) (B2.sub E'.1)
    · subst hin
      have eB : brkR T n (some A) 41 pb.1 lf ws = match A (enT T n pb.1) lf ws with
        | .inl q => .inl q
        | .inr (p1, lf1, ws1, ev) => if seeT T n p1 [41] = true then .inr (enT T n p1, lf1, ws1, ev) else .inl (stT T n p1) := rfl
      rw [if_neg (by omega)]
      refine mMustT X' H' rfl (fun h2 F2 H2 => ?_)
      have X2 : Fix sh h2 := F2.fix X' (by decide +kernel)
      have H2' := H2
      obtain ⟨⟨a1, a2, a3', a4⟩, P2, R2, b1, b2, b3, b4, k2⟩ := H2'
      simp only [pushR9]
      rw [B_207_18 X2, b1, w32_0, if_neg (by simp), b4]
      have F3 : Fr [] [(85, 30)] h2 (setH h2 85 30 ((b : Int) + 1)) := (Fr.refl h2).set rfl
      have X3 : Fix sh (setH h2 85 30 ((b : Int) + 1)) := F3.fix X2 (by decide +kernel)
      have H3 : MI T n od (enT T n pb.1) lf c (nts j ++ pl) (b + 1) (setH h2 85 30 ((b : Int) + 1)) := by
        obtain ⟨g1, g2, g3, g4, g5⟩ := k2
        refine ⟨⟨a1, a2, a3', by omega⟩, ⟨P2.1, fun i hi => by rw [F3.row 94 rfl]; exact P2.2 i hi⟩, R2.fr (F3.mono rfl), by rw [F3.at 85 19 rfl]; exact b1, by rw [F3.at 85 20 rfl]; exact b2, by rw [F3.at 85 26 rfl]; exact b3, by rw [setH_self]; omega, by rw [F3.at 85 29 rfl]; exact g1, by rw [F3.at 85 23 rfl]; exact g2, by rw [F3.row 98 rfl, F3.row 99 rfl]; exact g3, g4, g5⟩
      refine mPush (a := 0) X3 H3 (by omega) (by omega) (by omega) (fun h4 E4 F4 S4 => ?_)
      have X4 := E4.fix X3
      have H4 := H3.push F4 S4 (by omega)
      simp only [pushR9]
      rw [B_207_41 X4]
      simp only [pushR9]
      rw [B_204_38 X4]
      simp only [pushR0]
      rw [B_203_40 X4, B_203_72 X4]
      have E24 : MX c h h4 := ((E'.trans (MX.nx (c := c) F2) (Nat.le_refl c)).trans (c1 := c) ⟨F3.mono rfl, fun i _ => by rw [F3.row 96 rfl, F3.row 97 rfl]; exact ⟨rfl, rfl⟩, fun k => k.cg (F3.at 85 23 rfl) (F3.row 96 rfl) (F3.row 97 rfl)⟩ (Nat.le_refl c)).trans E4 (Nat.le_refl c)
      refine hA h4 (enT T n pb.1) lf ws c ((31, 0) :: (nts j ++ pl)) Q X4 H4 hws ⟨fun x r e => by cases e; decide, by show (if (31 : Int) ≤ 31 then (31 : Int) else innP (nts j ++ pl)) ≠ 32; rw [if_pos (by decide)]; decide⟩ (fun h5 q t hSq B5 => hb h5 q t (eF q (by rw [eA, eB, hSq])) (B5.sub E24.1)) (fun h5 p1 lf1 ws1 ev c1 tl hSq E5 H5 hc5 ht5 htc5 hE5 hT5 => ?_)
      have X5 := E5.fix X4
      have hp5 := H5.1.1
      have P5 := H5.2.1
      have R5 := H5.2.2.1
      have in5 : innP (tl ++ (31, 0) :: (nts j ++ pl)) = 31 := by rw [innP_app (fun x hx => (ht5 x hx).2.2)]; rfl
      refine t_told X5 H5 (bt_no X5 H5 hE5 ?_)
      rw [in5, B_219_80 X5, show w32 31 = 31 from rfl, if_pos (by decide)]
      refine sp_isSign (c := 41) X5 hp5 P5 R5 (by decide) (by decide) ?_
      simp only [pushR0]
      rw [B_219_93 X5]
      by_cases s5 : seeT T n p1 [41] = true
      · have sn5 := see_ne hp5 (by show 1 ≤ 1; omega) s5
        rw [if_pos s5]
        refine mMustT X5 H5 rfl (fun h6 F6 H6 => ?_)
        have X6 : Fix sh h6 := F6.fix X5 (by decide +kernel)
        simp only [pushR9]
        rw [B_219_96 X6, H6.2.2.2.1, w32_0, if_neg (by simp)]
        refine mSettle (by decide) X6 H6 (fun x hx => (ht5 x hx).1) (fun x r e => by cases e; decide) (fun h7 F7 g1 g2 g3 H7 => ?_)
        have X7 : Fix sh h7 := F7.fix X6 (by decide +kernel)
        obtain ⟨⟨c1', c2', c3', c4'⟩, P7, R7, e1, e2, e3, e4, k1', k2', k3', k4', k5'⟩ := H7
        simp only [pushR9]
        rw [B_219_108 X7, k1', e4]
        simp only [pushR0]
        obtain ⟨h8, hh8⟩ : ∃ h8, setH (setH h7 85 29 ((((31, 0) :: (nts j ++ pl) : Pil).length : Int) - 1)) 85 30 (((b + 1 : Nat) : Int) - 1) = h8 := ⟨_, rfl⟩
        rw [hh8]
        have F8 : Fr [] [(85, 29), (85, 30)] h7 h8 := by rw [← hh8]; exact ((Fr.refl h7).set rfl).set rfl
        have X8 : Fix sh h8 := F8.fix X7 (by decide +kernel)
        have ln : ((31, 0) :: (nts j ++ pl) : Pil).length = (nts j ++ pl).length + 1 := rfl
        rw [ln] at c3' k5'
        rw [B_203_72 X8]
        obtain ⟨ce, hce⟩ : ∃ ce, (fluS tl (h6 96, h6 97, c1)).2.2 = ce := ⟨_, rfl⟩
        have r6 : h6 96 = h5 96 ∧ h6 97 = h5 97 := ⟨F6.row 96 rfl, F6.row 97 rfl⟩
        unfold TlT at hT5
        rw [← r6.1, ← r6.2, hce, ← g1, ← g2] at hT5
        rw [hce] at c3' k2' k5' g3
        have lo := fluS_lo tl (h6 96, h6 97, c1) htc5 hc5
        have hT51 := hT5.1
        refine fin j h8 (enT T n p1) lf1 ws1 ce [] ev hpj (by rw [eA, eB, hSq]; show (if seeT T n p1 [41] = true then _ else _) = _; rw [if_pos s5]) ?_ ⟨⟨c1', c2', by show ce + (nts j ++ pl).length ≤ _; omega, by omega⟩, ⟨P7.1, fun i hi => by rw [F8.row 94 rfl]; exact P7.2 i hi⟩, R7.fr (F8.mono rfl), by rw [F8.at 85 19 rfl]; exact e1, by rw [F8.at 85 20 rfl]; exact e2, by rw [F8.at 85 26 rfl]; exact e3, by rw [← hh8, setH_self]; omega, by rw [← hh8, setH_k (by decide), setH_self, ln]; show _ = ((nts j ++ pl).length : Int); omega, by rw [F8.at 85 23 rfl]; exact k2', by rw [F8.row 98 rfl, F8.row 99 rfl]; exact k3'.2.2, fun x hx => k4' x (List.mem_cons_of_mem _ hx), by show ce + (nts j ++ pl).length ≤ 400; omega⟩ (by omega) (fun x hx => by cases hx) (fun x hx => by cases hx) ?_
        · refine (E24.trans E5 (Nat.le_refl c)).trans (c1 := c) ⟨((F6.mono rfl).trans (F7.mono rfl)).trans (F8.mono rfl), fun i hi => ?_, fun k => (mkb_flu (k.cg (F6.at 85 23 rfl) (F6.row 96 rfl) (F6.row 97 rfl)) H6.2.2.2.2.2.2.2 g1 g2 (by rw [k2', hce])).cg (F8.at 85 23 rfl) (F8.row 96 rfl) (F8.row 97 rfl)⟩ (Nat.le_refl c)
          have l := lo i hi
          rw [F8.row 96 rfl, F8.row 97 rfl, g1, g2]
          exact ⟨l.1.trans (by rw [r6.1]), l.2.trans (by rw [r6.2])⟩
        · show SeM (h8 96) (h8 97) (wxF od) (wtp od) c ce (lf1 - lf) ev
          rw [F8.row 96 rfl, F8.row 97 rfl]; exact hT5
      · rw [if_neg s5]
        refine mMustF X5 H5 rfl (fun h6 B6 P6 g20 g23 => ?_)
        have X6 : Fix sh h6 := B6.1.fix X5 (by decide +kernel)
        simp only [pushR9]
        rw [B_219_96 X6, B6.2.1, show w32 1 = 1 from rfl, if_pos (by decide)]
        simp only [pushR0]
        rw [B_203_72 X6]
        exact hb h6 _ 2 (eF _ (by rw [eA, eB, hSq]; show (if seeT T n p1 [41] = true then _ else _) = _; rw [if_neg s5])) ((B6.sub E5.1).sub E24.1)
  have lp : ∀ (rem i : Nat) (h' : Sto) (p' : Nat) (bl : Bool), i + rem = 400 → p + 3 * i ≤ p' → notR T n rem p' bl = pb → bl = decide (i % 2 = 1) → MX c h h' → MI T n od p' lf c (nts i ++ pl) b h' → WF sc (d + 12) 203 20 [(2, 85), (0, 1), (0, 0)] [] sh sl h' Q := by
    intro rem
    induction rem with
    | zero =>
      intro i h' p' bl hi hpi hn hbl E' H'
      have := H'.1.1
      omega
    | succ rem ih =>
      intro i h' p' bl hi hpi hn hbl E' H'
      have X' := E'.fix X
      have hp' := H'.1.1
      have P := H'.2.1
      have R := H'.2.2.1
      have a3 := H'.1.2.2.1
      unfold notR at hn
      by_cases s : seeT T n p' [110, 111, 116] = true
      case neg =>
        rw [if_neg s] at hn
        have h1 : p' = pb.1 := by rw [← hn]
        have h2 : bl = pb.2 := by rw [← hn]
        subst h1
        exact atm i h' (by rw [← h2]; exact hbl) (Bool.eq_false_iff.mpr s) E' H'
      rw [if_pos s] at hn
      have l3 : p' + 3 ≤ enT T n p' ∧ enT T n p' ≤ n := by
        have s' := s
        unfold seeT at s'
        rw [Bool.and_eq_true, decide_eq_true_eq] at s'
        have eb := enT_b (T := T) hp'
        have sb := stT_b (T := T) hp'
        have : ([110, 111, 116] : List Int).length = 3 := rfl
        omega
      refine t_plain X' H' ?_
      rw [B_204_0 X']
      refine sp_isWord (w := [110, 111, 116]) X' hp' P R (by decide +kernel) (by decide) (by decide) (by decide) ?_
      rw [if_pos s]
      simp only [pushR0]
      rw [B_204_7 X', show w32 1 = 1 from rfl, if_neg (by decide)]
      refine mPush (a := 0) X' H' (by omega) (by omega) (by omega) (fun h3 E3 F3 S3 => ?_)
      have X3 := E3.fix X'
      have R3 : RdM T n p' h3 := R.fr (F3.mono rfl)
      simp only [pushR9]
      rw [B_204_17 X3]
      refine sp_nextM X3 l3.2 ⟨P.1, fun i hi => by rw [F3.row 94 rfl]; exact P.2 i hi⟩ R3.1 R3.2.2.1 (fun h4 F4 R4 => ?_)
      have X4 : Fix sh h4 := F4.fix X3 (by decide +kernel)
      simp only [pushR9]
      rw [B_204_21 X4]
      simp only [pushR0]
      rw [B_203_40 X4, B_203_72 X4]
      refine ih (i + 1) h4 (enT T n p') (!bl) (by omega) (by omega) hn ?_ ((E'.trans E3 (Nat.le_refl c)).trans (MX.nx (c := c) F4) (Nat.le_refl c)) (H'.pn F3 S3 F4 R4 ⟨by omega, l3.2⟩)
      rw [hbl]
      by_cases z : i % 2 = 1
      · rw [decide_eq_true z, decide_eq_false (by omega)]; rfl
      · rw [decide_eq_false z, decide_eq_true (by omega)]; rfl
  exact lp 400 0 h p false (by omega) (by omega) hpb rfl (MX.refl h) H
theorem mAnyK : ∀ (k b : Nat), b + k = 8 → MRd sc sh sl T n od (d + 12) 1 0 2 (anyK T n od k) b (BsA 1) (tesT 1) (AEn T n) := by
  have any : ∀ {k b : Nat} {inner : Option RdF}, RGood n true (plnR T n inner (cmpR T n (sumK T n od k))) → MRd sc sh sl T n od (d + 12) 1 0 2 (plnR T n inner (cmpR T n (sumK T n od k))) b BsT (tesT 3) (fun _ => True) → MRd sc sh sl T n od (d + 12) 1 0 2 (chnR T n (chnR T n (plnR T n inner (cmpR T n (sumK T n od k))) (andO T n) false) (orO T n) false) b (BsA 1) (tesT 1) (AEn T n) := fun g hp => by
    refine mChain2 (w := [111, 114]) (oc := 30) (kb := 1) (E := orE) (BI := BsA 2) (TI := tesT 2) (Or.inr ⟨rfl, rfl, rfl⟩) (fun p => rfl) (fun op ar c e1 e l1 l2 a b A hB B ho har => seM_or A hB B ho har) (fun tl h x hx => by have := h x hx; omega) (fun pl h => ⟨fun x r e => by have := h.1 x r e; omega, h.2⟩) (fun a pl h => ⟨fun x r e => by cases e; show bnd 30 < 2; decide, h.2⟩) orO_good ?_ (chn_good g andO_good)
    exact mChain2 (w := [97, 110, 100]) (oc := 29) (kb := 2) (E := andE) (BI := BsT) (TI := tesT 3) (Or.inl ⟨rfl, rfl, rfl⟩) (fun p => rfl) (fun op ar c e1 e l1 l2 a b A _ B ho har => seM_and A B ho har) (fun tl h x hx => by have := h x hx; omega) (fun pl h => ⟨fun x r e => by
      have h1 := h.1 x r e
      unfold bnd at h1
      repeat' split at h1
      all_goals omega, h.2⟩) (fun a pl h => ⟨fun x r e => by cases e; show (28 : Int) ≤ 29; decide, h.2⟩) andO_good hp g
  intro k
  induction k with
  | zero =>
    intro b hb
    exact any (pln_good (fun S h => by cases h) (cmp_good (sum_good 0))) (mPln hb (Or.inl ⟨rfl, rfl⟩))
  | succ k ih =>
    intro b hb
    exact any (pln_good (fun S h => by cases h; exact any_good k) (cmp_good (sum_good (k + 1)))) (mPln hb (Or.inr ⟨by omega, _, rfl, any_good k, ih (b + 1) (by omega)⟩))
end MREAD8
