/-! ===== the reference's reader: TESTS ===== -/
theorem SeM.ev {op ar : Nat → Int} {wx : Int → Int → Nat} {W c e l : Nat} {a b : Ev} (A : SeM op ar wx W c e l a) (h : ∀ f, FOK f → a f = b f) : SeM op ar wx W c e l b := by
  refine ⟨A.1, fun op2 ar2 g => ⟨(A.2 op2 ar2 g).1, fun fa N k stk hf hN hk hs => ?_⟩⟩
  obtain ⟨k', h1, h2⟩ := (A.2 op2 ar2 g).2 fa N k stk hf hN hk hs
  rw [h fa hf] at h2
  exact ⟨k', h1, h2⟩
theorem notnot {a : Ev} (hB : EvB a) : ∀ f, FOK f → notE (notE a) f = a f := fun f hf => by
  unfold notE
  cases h : a f with
  | none => rfl
  | some v =>
    rcases hB f hf v h with z | z
    · subst z; rfl
    · subst z; rfl
def parE (j : Nat) (ev : Ev) : Ev := if j % 2 = 1 then notE ev else ev
theorem seM_nots {wx : Int → Int → Nat} {W c l : Nat} {ev : Ev} (hB : EvB ev) : ∀ (j : Nat) (s : (Nat → Int) × (Nat → Int) × Nat), SeM s.1 s.2.1 wx W c s.2.2 l ev → SeM (fluS (List.replicate j ((28, 0) : Int × Nat)) s).1 (fluS (List.replicate j ((28, 0) : Int × Nat)) s).2.1 wx W c (fluS (List.replicate j ((28, 0) : Int × Nat)) s).2.2 l (parE j ev) := by
  have key : ∀ (j : Nat) (ev : Ev) (s : (Nat → Int) × (Nat → Int) × Nat), EvB ev → SeM s.1 s.2.1 wx W c s.2.2 l ev → SeM (fluS (List.replicate j ((28, 0) : Int × Nat)) s).1 (fluS (List.replicate j ((28, 0) : Int × Nat)) s).2.1 wx W c (fluS (List.replicate j ((28, 0) : Int × Nat)) s).2.2 l (parE j ev) := by
    intro j
    induction j with
    | zero => intro ev s _ h; exact h
    | succ j ih =>
      intro ev s hB h
      have h1 := h.1
      have e : fluS (List.replicate (j + 1) ((28, 0) : Int × Nat)) s = fluS (List.replicate j ((28, 0) : Int × Nat)) (up s.1 s.2.2 28, up s.2.1 s.2.2 0, s.2.2 + 1) := by
        rw [List.replicate_succ]
        show (if ((28 : Int) = 29 ∨ (28 : Int) = 30) then _ else _) = _
        rw [if_neg (by decide)]
      rw [e]
      have h2 : SeM (up s.1 s.2.2 28) (up s.2.1 s.2.2 0) wx W c (s.2.2 + 1) l (notE ev) := seM_not (h.cg (fun i i1 i2 => by rw [up_n (by omega), up_n (by omega)]; exact ⟨rfl, rfl⟩)) hB up_s
      refine (ih (notE ev) (up s.1 s.2.2 28, up s.2.1 s.2.2 0, s.2.2 + 1) not_b h2).ev (fun f hf => ?_)
      unfold parE
      by_cases z : j % 2 = 1
      · rw [if_pos z, if_neg (by omega)]; exact notnot hB f hf
      · rw [if_neg z, if_pos (by omega)]
  intro j s h
  exact key j ev s hB h
def BsT (pl : Pil) : Prop := (∀ x r, pl = x :: r → 28 ≤ x.1) ∧ innP pl ≠ 32
theorem BsT.top5 {pl : Pil} (H : BsT pl) : topB 5 pl := fun x r e => by
  have := H.1 x r e
  unfold bnd
  repeat' split
  all_goals omega
theorem BsT.cmp {pl : Pil} (H : BsT pl) : cmpP pl = false := by
  cases pl with
  | nil => rfl
  | cons x r =>
    have := H.1 x r rfl
    show (if 20 ≤ x.1 ∧ x.1 ≤ 24 then _ else decide (25 ≤ x.1 ∧ x.1 ≤ 27)) = false
    rw [if_neg (by omega)]
    exact decide_eq_false (by omega)
def tesT (k : Int) (tl : Pil) : Prop := ∀ x ∈ tl, k ≤ bnd x.1 ∧ 20 ≤ x.1 ∧ x.1 < 31
theorem innP_b {pl : Pil} : ∀ (_ : PlOK pl), innP pl = -1 ∨ (31 ≤ innP pl ∧ innP pl ≤ 32) := by
  induction pl with
  | nil => intro _; exact Or.inl rfl
  | cons x r ih =>
    intro H
    show (if 31 ≤ x.1 then x.1 else innP r) = -1 ∨ (31 ≤ (if 31 ≤ x.1 then x.1 else innP r) ∧ (if 31 ≤ x.1 then x.1 else innP r) ≤ 32)
    have hx := (H x (by simp)).1
    split
    · omega
    · exact ih (fun y hy => H y (by simp [hy]))
section MREAD6
variable {sc : Nat × (Nat → Int)} {d : Nat} {sh : Shp} {sl : Nat} {T : Nat → Int} {n : Nat} {od : Bool}
/-- behind the first SUM of a comparison -/
theorem bs_cmp {h : Sto} {Q : Pst} {p lf c b : Nat} {tl pl : Pil} (X : Fix sh h) (H : MI T n od p lf c (tl ++ pl) b h) (hE : SEn T n p) (hB : BsT pl) (ht : ariT 5 tl) (q0 : ∀ h2, cmpN T n p = none → MB (stT T n p) h h2 → WF sc (d + 12) 203 20 [(2, 85), (0, 1), (0, 1)] [] sh sl h2 Q) (q1 : ∀ h2 o, cmpN T n p = some o → Fr MrP MrT h h2 → h2 96 = (fluS tl (h 96, h 97, c)).1 → h2 97 = (fluS tl (h 96, h 97, c)).2.1 → c ≤ (fluS tl (h 96, h 97, c)).2.2 → MI T n od (enT T n p) lf (fluS tl (h 96, h 97, c)).2.2 ((o + 15, 0) :: pl) b h2 → WF sc (d + 12) 203 20 [(2, 85), (0, 1), (0, 1)] [] sh sl h2 Q) : WF sc (d + 12) 203 20 [(2, 85), (0, 1), (0, 3)] [] sh sl h Q := by
  have hp := H.1.1
  have P := H.2.1
  have R := H.2.2.1
  have hn4 := P.1
  have ii : innP (tl ++ pl) = innP pl := innP_app (fun x hx => by have := ht x hx; omega)
  have ib := innP_b (pl := pl) (fun x hx => H.2.2.2.2.2.2.2.2.2.2.1 x (by simp [hx]))
  have cc : cmpP (tl ++ pl) = false := by rw [cmpP_app (fun x hx => (ht x hx).2)]; exact hB.cmp
  refine t_sum X H (bs_in X H hE.2.1 hE.1 ?_)
  rw [ii]
  -- settled, laid on the pile
  have go : ∀ (o : Int) (x3 : Int), cmpN T n p = some o → WM sc (d + 10) 202 [(2, 85), (0, 1)] sh sl h (fun r sh1 sl1 h1 => WF sc (d + 11) 214 227 [(2, 85), (0, 1), (0, o + 15), (0, x3)] (pushR r []) sh1 sl1 h1 (fun r sh1 sl1 h1 => WF sc (d + 12) 203 65 [(2, 85), (0, 1), (0, 3)] (pushR r []) sh1 sl1 h1 Q)) := fun o x3 ho => by
    have on := cmpN_s hp ho
    refine mMustT X H rfl (fun h2 F2 H2 => ?_)
    have X2 : Fix sh h2 := F2.fix X (by decide +kernel)
    simp only [pushR9]
    rw [B_214_227 X2, H2.2.2.2.1, w32_0, if_neg (by simp)]
    refine mSettle (by decide) X2 H2 (fun x hx => (ht x hx).1) hB.top5 (fun h3 F3 g1 g2 g3 H3 => ?_)
    have X3 : Fix sh h3 := F3.fix X2 (by decide +kernel)
    have a3 := H.1.2.2.1
    have ln : (tl ++ pl).length = tl.length + pl.length := List.length_append
    have fl : (fluS tl (h2 96, h2 97, c)).2.2 ≤ c + tl.length := (fluS_le tl (h2 96, h2 97, c)).2
    simp only [pushR9]
    rw [B_214_239 X3]
    refine mPush (a := 0) X3 H3 (by omega) (by omega) (by omega) (fun h4 E4 F4 S4 => ?_)
    have X4 := E4.fix X3
    have H4 := H3.push F4 S4 (by omega)
    simp only [pushR9]
    rw [B_214_245 X4]
    simp only [pushR0]
    rw [B_203_65 X4, B_203_72 X4]
    have r2 : h2 96 = h 96 ∧ h2 97 = h 97 := ⟨F2.row 96 rfl, F2.row 97 rfl⟩
    rw [r2.1, r2.2] at g1 g2 g3 H4
    exact q1 h4 o ho (((F2.mono rfl).trans (F3.mono rfl)).trans E4.1) (by rw [F4.row 96 rfl]; exact g1) (by rw [F4.row 97 rfl]; exact g2) g3 H4
  have tes : WM sc (d + 10) 218 [(2, 85)] sh sl h (fun r sh1 sl1 h1 => WF sc (d + 11) 214 167 [(2, 85), (0, 1), (0, -1), (0, innP pl)] (pushR r []) sh1 sl1 h1 (fun r sh1 sl1 h1 => WF sc (d + 12) 203 65 [(2, 85), (0, 1), (0, 3)] (pushR r []) sh1 sl1 h1 Q)) := by
    refine sp_cmpd X H.2.2.2.2.2.2.2 ?_
    rw [cc, if_neg (by decide)]
    simp only [pushR0]
    rw [B_214_167 X, w32_0, if_pos rfl]
    refine sp_isSign (c := 60) X hp P R (by decide) (by decide) ?_
    simp only [pushR0]
    rw [B_214_178 X]
    by_cases s1 : seeT T n p [60] = true
    · rw [if_pos s1, show w32 1 = 1 from rfl, if_neg (by decide)]
      exact go 10 _ (by unfold cmpN; rw [if_pos s1])
    rw [if_neg s1, w32_0, if_pos rfl]
    refine sp_isSign (c := 62) X hp P R (by decide) (by decide) ?_
    simp only [pushR0]
    rw [B_214_192 X]
    by_cases s2 : seeT T n p [62] = true
    · rw [if_pos s2, show w32 1 = 1 from rfl, if_neg (by decide)]
      exact go 11 _ (by unfold cmpN; rw [if_neg s1, if_pos s2])
    rw [if_neg s2, w32_0, if_pos rfl]
    refine sp_isSign (c := 61) X hp P R (by decide) (by decide) ?_
    simp only [pushR0]
    rw [B_214_216 X]
    by_cases s3 : seeT T n p [61] = true
    · rw [if_pos s3, show w32 1 = 1 from rfl, if_neg (by decide)]
      exact go 12 _ (by unfold cmpN; rw [if_neg s1, if_neg s2, if_pos s3])
    · rw [if_neg s3, w32_0, if_pos rfl]
      refine mMustF X H rfl (fun h2 B2 P2 g20 g23 => ?_)
      have X2 : Fix sh h2 := B2.1.fix X (by decide +kernel)
      simp only [pushR9]
      rw [B_214_227 X2, B2.2.1, show w32 1 = 1 from rfl, if_pos (by decide), B_214_245 X2]
      simp only [pushR0]
      rw [B_203_65 X2, B_203_72 X2]
      exact q0 h2 (by unfold cmpN; rw [if_neg s1, if_neg s2, if_neg s3]) B2
  rw [B_214_101 X, w32_id (a := innP pl) (by omega) (by omega), if_pos hB.2]
  refine ite_i (fun _ => tes) (fun _ => ?_)
  rw [show w32 1 = 1 from rfl, if_pos (by decide)]
  exact tes
/-- behind its second SUM -/
theorem bs_cmp2 {h : Sto} {Q : Pst} {p lf c b : Nat} {tl pl : Pil} {o : Int} (X : Fix sh h) (H : MI T n od p lf c (tl ++ (o + 15, 0) :: pl) b h) (ho : 10 ≤ o ∧ o ≤ 12) (hE : SEn T n p) (hB : BsT pl) (ht : ariT 5 tl) (hq : WF sc (d + 12) 203 20 [(2, 85), (0, 1), (0, 2)] [] sh sl h Q) : WF sc (d + 12) 203 20 [(2, 85), (0, 1), (0, 3)] [] sh sl h Q := by
  have ii : innP (tl ++ (o + 15, 0) :: pl) = innP pl := by
    rw [innP_app (fun x hx => by have := ht x hx; omega)]
    show (if 31 ≤ o + 15 then _ else innP pl) = innP pl
    rw [if_neg (by omega)]
  have ib := innP_b (pl := pl) (fun x hx => H.2.2.2.2.2.2.2.2.2.2.1 x (by simp [hx]))
  have cc : cmpP (tl ++ (o + 15, 0) :: pl) = true := by
    rw [cmpP_app (fun x hx => (ht x hx).2)]
    show (if 20 ≤ o + 15 ∧ o + 15 ≤ 24 then _ else decide (25 ≤ o + 15 ∧ o + 15 ≤ 27)) = true
    rw [if_neg (by omega)]
    exact decide_eq_true (by omega)
  refine t_sum X H (bs_in X H hE.2.1 hE.1 ?_)
  rw [ii]
  have tes : WM sc (d + 10) 218 [(2, 85)] sh sl h (fun r sh1 sl1 h1 => WF sc (d + 11) 214 167 [(2, 85), (0, 1), (0, -1), (0, innP pl)] (pushR r []) sh1 sl1 h1 (fun r sh1 sl1 h1 => WF sc (d + 12) 203 65 [(2, 85), (0, 1), (0, 3)] (pushR r []) sh1 sl1 h1 Q)) := by
    refine sp_cmpd X H.2.2.2.2.2.2.2 ?_
    rw [cc, if_pos rfl]
    simp only [pushR0]
    rw [B_214_167 X, show w32 1 = 1 from rfl, if_neg (by decide)]
    simp only [pushR0]
    rw [B_203_65 X, B_203_72 X]
    exact hq
  rw [B_214_101 X, w32_id (a := innP pl) (by omega) (by omega), if_pos hB.2]
  refine ite_i (fun _ => tes) (fun _ => ?_)
  rw [show w32 1 = 1 from rfl, if_pos (by decide)]
  exact tes
theorem mCmp {k b : Nat} (hkb : b + k = 8) : MRq sc sh sl T n od (d + 12) 1 0 2 (cmpR T n (sumK T n od k)) b BsT (tesT 4) (fun _ => True) (Pr0 T n) := by
  intro h p lf ws c pl Q hpr X H hws hB hb hq
  refine mSumK0 k b hkb h p lf ws c pl Q hpr X H hws hB.top5 (fun h2 q t hS B2 => hb h2 q t (by unfold cmpR; rw [hS]) B2) (fun h2 p1 lf1 ws1 e1 c1 tl hS E2 H2 hc2 ht htc hE hT => ?_)
  have g := sum_good k _ _ _ _ _ _ _ H.1.1 H.1.2.1 hws hS
  have X2 := E2.fix X
  refine bs_cmp X2 H2 hE hB ht (fun h3 hn B3 => hb h3 _ 1 (by unfold cmpR; rw [hS]; simp only [hn]) (B3.sub E2.1)) (fun h3 o ho F3 g1 g2 g3 H3 => ?_)
  have on := cmpN_s H2.1.1 ho
  obtain ⟨c2, hc2'⟩ : ∃ c2, (fluS tl (h2 96, h2 97, c1)).2.2 = c2 := ⟨_, rfl⟩
  unfold TlT at hT
  rw [hc2'] at g3 H3 hT
  rw [← g1, ← g2] at hT
  have hT1 := hT.1
  have lo := fluS_lo tl (h2 96, h2 97, c1) htc hc2
  have E3 : MX c h2 h3 := ⟨F3, fun i hi => by rw [g1, g2]; exact lo i hi, fun k => mkb_flu k H2.2.2.2.2.2.2.2 g1 g2 (by rw [H3.2.2.2.2.2.2.2.2.1, hc2'])⟩
  have tb5 : topB 5 ((o + 15, 0) :: pl) := fun x r e => by
    cases e
    show bnd (o + 15) < 5
    unfold bnd
    repeat' split
    all_goals omega
  refine mSumK k b hkb h3 (enT T n p1) lf1 ws1 c2 ((o + 15, 0) :: pl) Q (E3.fix X2) H3 g.2.2.1 tb5 (fun h4 q t hS2 B4 => hb h4 q t (by unfold cmpR; rw [hS]; simp only [ho, hS2]) ((B4.sub F3).sub E2.1)) (fun h4 p2 lf2 ws2 e2 c3 tl2 hS2 E4 H4 hc4 ht2 htc2 hE2 hT2 => ?_)
  have g2' := sum_good k _ _ _ _ _ _ _ on.1.2 H2.1.2.1 g.2.2.1 hS2
  refine bs_cmp2 (E4.fix (E3.fix X2)) H4 on.2 hE2 hB ht2 ?_
  have H4' : MI T n od p2 lf2 c3 ((tl2 ++ [(o + 15, 0)]) ++ pl) b h4 := by rw [List.append_assoc]; exact H4
  have tt : tesT 4 (tl2 ++ [(o + 15, 0)]) := fun x hx => by
    rcases List.mem_append.mp hx with z | z
    · have := ht2 x z; omega
    · have : x = (o + 15, 0) := by simpa using z
      subst this
      refine ⟨?_, by show 20 ≤ o + 15; omega, by show o + 15 < 31; omega⟩
      show 4 ≤ bnd (o + 15)
      unfold bnd
      repeat' split
      all_goals omega
  refine hq h4 p2 lf2 ws2 (binE o e1 e2) c3 (tl2 ++ [(o + 15, 0)]) (by unfold cmpR; rw [hS]; simp only [ho, hS2]) ((E2.trans E3 (Nat.le_refl c)).trans E4 (by omega)) H4' (by omega) tt (fun x hx z => ?_) trivial ?_
  · rcases List.mem_append.mp hx with y | y
    · have := ht2 x y; omega
    · have : x = (o + 15, 0) := by simpa using y
      subst this
      have z' : o + 15 = 29 ∨ o + 15 = 30 := z
      omega
  unfold TlT at hT2 ⊢
  rw [fluS_app]
  obtain ⟨s3, hs3⟩ : ∃ s3, fluS tl2 (h4 96, h4 97, c3) = s3 := ⟨_, rfl⟩
  have lo3 := fluS_lo tl2 (h4 96, h4 97, c3) htc2 hc4
  rw [hs3] at hT2 lo3 ⊢
  have e4 : fluS [(o + 15, 0)] s3 = (up s3.1 s3.2.2 (o + 15), up s3.2.1 s3.2.2 0, s3.2.2 + 1) := by
    show (if (o + 15 = 29 ∨ o + 15 = 30) then _ else _) = _
    rw [if_neg (by omega)]; rfl
  rw [e4]
  have hT21 := hT2.1
  show SeM (up s3.1 s3.2.2 (o + 15)) (up s3.2.1 s3.2.2 0) (wxF od) (wtp od) c (s3.2.2 + 1) (lf2 - lf) (binE o e1 e2)
  rw [show lf2 - lf = (lf1 - lf) + (lf2 - lf1) by omega]
  refine seM_bin (e1 := c2) (hT.cg ?_) (hT2.cg ?_) up_s (by omega)
  · refine (E4.ag (Nat.le_refl c2)).tr (fun i i1 i2 => ?_)
    have l3 := lo3 i i2
    rw [up_n (by omega), up_n (by omega)]
    exact l3
  · intro i i1 i2
    rw [up_n (by omega), up_n (by omega)]; exact ⟨rfl, rfl⟩
end MREAD6
