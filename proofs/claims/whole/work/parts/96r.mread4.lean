/-! ===== the reference's reader: SUMS ===== -/
/-- a tail of the pile, and what is told when it is written out -/
def TlT (od : Bool) (h : Sto) (c c1 l : Nat) (tl : Pil) (ev : Ev) : Prop := SeM (fluS tl (h 96, h 97, c1)).1 (fluS tl (h 96, h 97, c1)).2.1 (wxF od) (wtp od) c (fluS tl (h 96, h 97, c1)).2.2 l ev
def topB (k : Int) (pl : Pil) : Prop := ∀ x r, pl = x :: r → bnd x.1 < k
def TlC (c : Nat) (tl : Pil) : Prop := ∀ x ∈ tl, (x.1 = 29 ∨ x.1 = 30) → c ≤ x.2
theorem fluS_lo {c : Nat} : ∀ (tl : Pil) (s : (Nat → Int) × (Nat → Int) × Nat), TlC c tl → c ≤ s.2.2 → ∀ i, i < c → (fluS tl s).1 i = s.1 i ∧ (fluS tl s).2.1 i = s.2.1 i := by
  intro tl
  induction tl with
  | nil => intro s _ _ i _; exact ⟨rfl, rfl⟩
  | cons x r ih =>
    intro s ht hc i hi
    show (if x.1 = 29 ∨ x.1 = 30 then fluS r _ else fluS r _).1 i = _ ∧ (if x.1 = 29 ∨ x.1 = 30 then fluS r _ else fluS r _).2.1 i = _
    have ht' : TlC c r := fun y hy => ht y (by simp [hy])
    split
    · rename_i z
      have := ih (s.1, up s.2.1 x.2 (s.2.2 : Int), s.2.2) ht' hc i hi
      have hx := ht x (by simp) z
      refine ⟨this.1, this.2.trans ?_⟩
      show up s.2.1 x.2 (s.2.2 : Int) i = _
      rw [up_n (by omega)]
    · have := ih (up s.1 s.2.2 x.1, up s.2.1 s.2.2 0, s.2.2 + 1) ht' (by show c ≤ s.2.2 + 1; omega) i hi
      refine ⟨this.1.trans ?_, this.2.trans ?_⟩
      · show up s.1 s.2.2 x.1 i = _; rw [up_n (by omega)]
      · show up s.2.1 s.2.2 0 i = _; rw [up_n (by omega)]
/-- turn t0 reads R and comes to turn t1 -/
def MRd (sc : Nat × (Nat → Int)) (sh : Shp) (sl : Nat) (T : Nat → Int) (n : Nat) (od : Bool) (D : Nat) (x1 t0 t1 : Int) (R : RdF) (b : Nat) (Bs : Pil → Prop) (Tl : Pil → Prop) (En : Nat → Prop) : Prop := ∀ (h : Sto) (p lf ws c : Nat) (pl : Pil) (Q : Pst), Fix sh h → MI T n od p lf c pl b h → ws < 8388608 → Bs pl → (∀ h2 q t, R p lf ws = .inl q → MB q h h2 → WF sc D 203 20 [(2, 85), (0, x1), (0, t)] [] sh sl h2 Q) → (∀ h2 p1 lf1 ws1 ev c1 tl, R p lf ws = .inr (p1, lf1, ws1, ev) → MX c h h2 → MI T n od p1 lf1 c1 (tl ++ pl) b h2 → c ≤ c1 → Tl tl → TlC c tl → En p1 → TlT od h2 c c1 (lf1 - lf) tl ev → WF sc D 203 20 [(2, 85), (0, x1), (0, t1)] [] sh sl h2 Q) → WF sc D 203 20 [(2, 85), (0, x1), (0, t0)] [] sh sl h Q
section MREAD4
variable {sc : Nat × (Nat → Int)} {d : Nat} {sh : Shp} {sl : Nat} {T : Nat → Int} {n : Nat} {od : Bool} {x1 : Int}
theorem t_part {h : Sto} {Q : Pst} {p lf c b : Nat} {pl : Pil} (X : Fix sh h) (H : MI T n od p lf c pl b h) (hq : WM sc (d + 11) 208 [(2, 85)] sh sl h (fun r sh1 sl1 h1 => WF sc (d + 12) 203 52 [(2, 85), (0, x1), (0, 1)] (pushR r []) sh1 sl1 h1 Q)) : WF sc (d + 12) 203 20 [(2, 85), (0, x1), (0, 1)] [] sh sl h Q := by
  rw [B_203_20 X, H.2.2.2.1, w32_0, if_neg (by simp), show w32 1 = 1 from rfl, if_neg (by decide), if_pos (by decide), if_neg (by decide)]
  exact hq
theorem t_plain {h : Sto} {Q : Pst} {p lf c b : Nat} {pl : Pil} (X : Fix sh h) (H : MI T n od p lf c pl b h) (hq : WM sc (d + 11) 204 [(2, 85)] sh sl h (fun r sh1 sl1 h1 => WF sc (d + 12) 203 40 [(2, 85), (0, x1), (0, 0)] (pushR r []) sh1 sl1 h1 Q)) : WF sc (d + 12) 203 20 [(2, 85), (0, x1), (0, 0)] [] sh sl h Q := by
  rw [B_203_20 X, H.2.2.2.1, w32_0, if_neg (by simp), if_neg (by decide), if_neg (by simp)]
  exact hq
theorem t_sum {h : Sto} {Q : Pst} {p lf c b : Nat} {pl : Pil} (X : Fix sh h) (H : MI T n od p lf c pl b h) (hq : WM sc (d + 11) 214 [(2, 85), (0, x1)] sh sl h (fun r sh1 sl1 h1 => WF sc (d + 12) 203 65 [(2, 85), (0, x1), (0, 3)] (pushR r []) sh1 sl1 h1 Q)) : WF sc (d + 12) 203 20 [(2, 85), (0, x1), (0, 3)] [] sh sl h Q := by
  rw [B_203_20 X, H.2.2.2.1, w32_0, if_neg (by simp), show w32 3 = 3 from rfl, if_neg (by decide), if_pos (by decide), if_pos (by decide), if_neg (by decide)]
  exact hq
theorem t_told {h : Sto} {Q : Pst} {p lf c b : Nat} {pl : Pil} (X : Fix sh h) (H : MI T n od p lf c pl b h) (hq : WM sc (d + 11) 219 [(2, 85)] sh sl h (fun r sh1 sl1 h1 => WF sc (d + 12) 203 72 [(2, 85), (0, x1), (0, 2)] (pushR r []) sh1 sl1 h1 Q)) : WF sc (d + 12) 203 20 [(2, 85), (0, x1), (0, 2)] [] sh sl h Q := by
  rw [B_203_20 X, H.2.2.2.1, w32_0, if_neg (by simp), show w32 2 = 2 from rfl, if_neg (by decide), if_pos (by decide), if_pos (by decide), if_pos (by decide)]
  exact hq
/-- the pile is written out down to pl -/
theorem mSettle {h : Sto} {Q : Pst} {p lf c b : Nat} {tl pl : Pil} {least : Int} (hl : 0 ≤ least ∧ least ≤ 9) (X : Fix sh h) (H : MI T n od p lf c (tl ++ pl) b h) (ht : ∀ x ∈ tl, least ≤ bnd x.1) (hpl : topB least pl) (hq : ∀ h2, Fr [96, 97] [(85, 23), (85, 29)] h h2 → h2 96 = (fluS tl (h 96, h 97, c)).1 → h2 97 = (fluS tl (h 96, h 97, c)).2.1 → c ≤ (fluS tl (h 96, h 97, c)).2.2 → MI T n od p lf (fluS tl (h 96, h 97, c)).2.2 pl b h2 → Q (9, 0) sh sl h2) : WM sc (d + 2) 216 [(2, 85), (0, least)] sh sl h Q := by
  rw [E_216]
  have fl' : c ≤ (fluS tl (h 96, h 97, c)).2.2 ∧ (fluS tl (h 96, h 97, c)).2.2 ≤ c + tl.length := fluS_le tl (h 96, h 97, c)
  have hlen : (tl ++ pl).length = tl.length + pl.length := List.length_append
  refine lp_settle hl X hpl tl c h H.2.2.2.2.2.2.2 ht (Fr.refl h) (fun h2 F g1 g2 g3 g4 => hq h2 F g2 g3 fl'.1 ?_)
  obtain ⟨⟨a1, a2, a3, a4⟩, P, R0, b1, b2, b3, b4, k1, k2, k3, k4, k5⟩ := H
  refine ⟨⟨a1, a2, by omega, a4⟩, ⟨P.1, fun i hi => by rw [F.row 94 rfl]; exact P.2 i hi⟩, ?_, by rw [F.at 85 19 rfl]; exact b1, by rw [F.at 85 20 rfl]; exact b2, by rw [F.at 85 26 rfl]; exact b3, by rw [F.at 85 30 rfl]; exact b4, g1, g4, by rw [F.row 98 rfl, F.row 99 rfl]; exact k3.tail, fun x hx => k4 x (by simp [hx]), by omega⟩
  unfold RdM; rw [F.at 85 13 rfl, F.at 85 14 rfl, F.at 85 15 rfl, F.at 85 16 rfl, F.at 85 17 rfl]; exact R0
theorem MI.push {h h2 : Sto} {p lf c b : Nat} {pl : Pil} {x : Int × Nat} (H : MI T n od p lf c pl b h) (F : Fr [98, 99] [(85, 29)] h h2) (S : PlS h2 (x :: pl) c) (hc : c + pl.length + 1 ≤ p) : MI T n od p lf c (x :: pl) b h2 := by
  obtain ⟨⟨a1, a2, a3, a4⟩, P, R0, b1, b2, b3, b4, k⟩ := H
  refine ⟨⟨a1, a2, by show c + (pl.length + 1) ≤ p; omega, a4⟩, ⟨P.1, fun i hi => by rw [F.row 94 rfl]; exact P.2 i hi⟩, ?_, by rw [F.at 85 19 rfl]; exact b1, by rw [F.at 85 20 rfl]; exact b2, by rw [F.at 85 26 rfl]; exact b3, by rw [F.at 85 30 rfl]; exact b4, S⟩
  unfold RdM; rw [F.at 85 13 rfl, F.at 85 14 rfl, F.at 85 15 rfl, F.at 85 16 rfl, F.at 85 17 rfl]; exact R0
theorem see_1 {p : Nat} {a b : Int} (h : seeT T n p [a] = true) (hne : a ≠ b) : seeT T n p [b] = false := by
  rw [Bool.eq_false_iff]
  intro q
  have := see_inj h q
  simp only [List.cons.injEq] at this
  exact hne this.1
/-- + - * / % -/
def arN (T : Nat → Int) (n p : Nat) (o : Int) : Prop := (o = 5 ∧ seeT T n p [43] = true) ∨ (o = 6 ∧ seeT T n p [45] = true) ∨ (o = 7 ∧ seeT T n p [42] = true) ∨ (o = 8 ∧ seeT T n p [47] = true) ∨ (o = 9 ∧ seeT T n p [37] = true)
theorem bs_op {h : Sto} {Q : Pst} {p lf c b : Nat} {tl pl : Pil} {o : Int} (X : Fix sh h) (H : MI T n od p lf c (tl ++ pl) b h) (ho : arN T n p o) (ht : ∀ x ∈ tl, bnd (o + 15) ≤ bnd x.1) (hpl : topB (bnd (o + 15)) pl) (hq : ∀ h2, Fr MrP MrT h h2 → h2 96 = (fluS tl (h 96, h 97, c)).1 → h2 97 = (fluS tl (h 96, h 97, c)).2.1 → c ≤ (fluS tl (h 96, h 97, c)).2.2 → MI T n od (enT T n p) lf (fluS tl (h 96, h 97, c)).2.2 ((o + 15, 0) :: pl) b h2 → WF sc (d + 12) 203 20 [(2, 85), (0, x1), (0, 1)] [] sh sl h2 Q) : WF sc (d + 12) 203 20 [(2, 85), (0, x1), (0, 3)] [] sh sl h Q := by
  have hp := H.1.1
  have P := H.2.1
  have R := H.2.2.1
  refine t_sum X H ?_
  -- settled, laid on the pile, gone on
  have go : ∀ j3 : V, (∃ w, seeT T n p [w] = true) → 5 ≤ o ∧ o ≤ 9 → WM sc (d + 10) 215 [(0, o + 15)] sh sl h (fun r sh1 sl1 h1 => WF sc (d + 11) 214 82 [(2, 85), (0, x1), (0, o + 15), j3] (pushR r [(2, 85)]) sh1 sl1 h1 (fun r sh1 sl1 h1 => WF sc (d + 12) 203 65 [(2, 85), (0, x1), (0, 3)] (pushR r []) sh1 sl1 h1 Q)) := fun j3 ⟨w, hw⟩ ob => by
    have sn := see_ne hp (by show 1 ≤ 1; omega) hw
    have bb := bnd_b (o + 15)
    refine sp_bnd X (by omega) ?_
    simp only [pushR0]
    rw [B_214_82 X]
    refine mSettle (by omega) X H ht hpl (fun h2 F2 g1 g2 g3 H2 => ?_)
    have X2 : Fix sh h2 := F2.fix X (by decide +kernel)
    have hn4 := P.1
    have hc2 := H2.1.2.2.1
    simp only [pushR9]
    rw [B_214_85 X2]
    refine mPush (a := 0) X2 H2 (by omega) (by omega) (by omega) (fun h3 E3 F3 S3 => ?_)
    have X3 := E3.fix X2
    simp only [pushR9]
    rw [B_214_91 X3]
    -- the next token, with room for what was laid down
    have R3 : RdM T n p h3 := by
      unfold RdM; rw [F3.at 85 13 rfl, F3.at 85 14 rfl, F3.at 85 15 rfl, F3.at 85 16 rfl, F3.at 85 17 rfl]; exact H2.2.2.1
    refine sp_nextM X3 sn.2.1 ⟨P.1, fun i hi => by rw [F3.row 94 rfl, F2.row 94 rfl]; exact P.2 i hi⟩ R3.1 R3.2.2.1 (fun h4 F4 R4 => ?_)
    have X4 : Fix sh h4 := F4.fix X3 (by decide +kernel)
    simp only [pushR9]
    rw [B_214_95 X4]
    simp only [pushR0]
    rw [B_203_65 X4, B_203_72 X4]
    obtain ⟨⟨a1, a2, a3, a4⟩, P', R0, b1, b2, b3, b4, k⟩ := H2
    obtain ⟨k1, k2, k3, k4, k5⟩ := S3
    refine hq h4 (((F2.mono rfl).trans E3.1).trans (F4.mono rfl)) (by rw [F4.row 96 rfl, F3.row 96 rfl]; exact g1) (by rw [F4.row 97 rfl, F3.row 97 rfl]; exact g2) g3 ⟨⟨sn.2.1, a2, ?_, a4⟩, ⟨P.1, fun i hi => by rw [F4.row 94 rfl, F3.row 94 rfl]; exact P'.2 i hi⟩, R4, by rw [F4.at 85 19 rfl, F3.at 85 19 rfl]; exact b1, by rw [F4.at 85 20 rfl, F3.at 85 20 rfl]; exact b2, by rw [F4.at 85 26 rfl, F3.at 85 26 rfl]; exact b3, by rw [F4.at 85 30 rfl, F3.at 85 30 rfl]; exact b4, by rw [F4.at 85 29 rfl]; exact k1, by rw [F4.at 85 23 rfl]; exact k2, by rw [F4.row 98 rfl, F4.row 99 rfl]; exact k3, k4, k5⟩
    show _ + (pl.length + 1) ≤ _; omega
  rw [B_214_0 X]
  rcases ho with ⟨rfl, s⟩ | ⟨rfl, s⟩ | ⟨rfl, s⟩ | ⟨rfl, s⟩ | ⟨rfl, s⟩
  · refine sp_isSign (c := 43) X hp P R (by decide) (by decide) ?_
    rw [if_pos s]
    simp only [pushR0]
    rw [B_214_6 X, show w32 1 = 1 from rfl, if_neg (by decide)]
    exact go _ ⟨_, s⟩ (by omega)
  all_goals
    refine sp_isSign (c := 43) X hp P R (by decide) (by decide) ?_
    rw [if_neg (by rw [see_1 s (by decide)]; decide)]
    simp only [pushR0]
    rw [B_214_6 X, w32_0, if_pos rfl]
  · refine sp_isSign (c := 45) X hp P R (by decide) (by decide) ?_
    rw [if_pos s]
    simp only [pushR0]
    rw [B_214_20 X, show w32 1 = 1 from rfl, if_neg (by decide)]
    exact go _ ⟨_, s⟩ (by omega)
  all_goals
    refine sp_isSign (c := 45) X hp P R (by decide) (by decide) ?_
    rw [if_neg (by rw [see_1 s (by decide)]; decide)]
    simp only [pushR0]
    rw [B_214_20 X, w32_0, if_pos rfl]
  · refine sp_isSign (c := 42) X hp P R (by decide) (by decide) ?_
    rw [if_pos s]
    simp only [pushR0]
    rw [B_214_34 X, show w32 1 = 1 from rfl, if_neg (by decide)]
    exact go _ ⟨_, s⟩ (by omega)
  all_goals
    refine sp_isSign (c := 42) X hp P R (by decide) (by decide) ?_
    rw [if_neg (by rw [see_1 s (by decide)]; decide)]
    simp only [pushR0]
    rw [B_214_34 X, w32_0, if_pos rfl]
  · refine sp_isSign (c := 47) X hp P R (by decide) (by decide) ?_
    rw [if_pos s]
    simp only [pushR0]
    rw [B_214_48 X, show w32 1 = 1 from rfl, if_neg (by decide)]
    exact go _ ⟨_, s⟩ (by omega)
  · refine sp_isSign (c := 47) X hp P R (by decide) (by decide) ?_
    rw [if_neg (by rw [see_1 s (by decide)]; decide)]
    simp only [pushR0]
    rw [B_214_48 X, w32_0, if_pos rfl]
    refine sp_isSign (c := 37) X hp P R (by decide) (by decide) ?_
    rw [if_pos s]
    simp only [pushR0]
    rw [B_214_62 X, show w32 1 = 1 from rfl, if_neg (by decide)]
    exact go _ ⟨_, s⟩ (by omega)
theorem bs_in {h : Sto} {Q : Pst} {p lf c b : Nat} {pl : Pil} (X : Fix sh h) (H : MI T n od p lf c pl b h) (h1 : mulN T n p = none) (h2 : addN T n p = none) (hq : WF sc (d + 11) 214 101 [(2, 85), (0, x1), (0, -1), (9, 0)] [(0, innP pl)] sh sl h Q) : WM sc (d + 11) 214 [(2, 85), (0, x1)] sh sl h Q := by
  have hp := H.1.1
  have P := H.2.1
  have R := H.2.2.1
  unfold mulN at h1
  unfold addN at h2
  split at h2
  · cases h2
  · rename_i s1
    split at h2
    · cases h2
    · rename_i s2
      split at h1
      · cases h1
      · rename_i s3
        split at h1
        · cases h1
        · rename_i s4
          split at h1
          · cases h1
          · rename_i s5
            rw [B_214_0 X]
            refine sp_isSign (c := 43) X hp P R (by decide) (by decide) ?_
            rw [if_neg s1]
            simp only [pushR0]
            rw [B_214_6 X, w32_0, if_pos rfl]
            refine sp_isSign (c := 45) X hp P R (by decide) (by decide) ?_
            rw [if_neg s2]
            simp only [pushR0]
            rw [B_214_20 X, w32_0, if_pos rfl]
            refine sp_isSign (c := 42) X hp P R (by decide) (by decide) ?_
            rw [if_neg s3]
            simp only [pushR0]
            rw [B_214_34 X, w32_0, if_pos rfl]
            refine sp_isSign (c := 47) X hp P R (by decide) (by decide) ?_
            rw [if_neg s4]
            simp only [pushR0]
            rw [B_214_48 X, w32_0, if_pos rfl]
            refine sp_isSign (c := 37) X hp P R (by decide) (by decide) ?_
            rw [if_neg s5]
            simp only [pushR0]
            rw [B_214_62 X, w32_0, if_pos rfl]
            refine sp_inner X H.2.2.2.2.2.2.2 ?_
            simp only [pushR0]
            exact hq
end MREAD4
