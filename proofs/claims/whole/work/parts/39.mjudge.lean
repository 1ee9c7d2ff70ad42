/-! ===== the reference's judging ===== -/
theorem w32_nat {a : Int} {n : Nat} (h : a = (n : Int)) (hn : n < 2147483648) : w32 a = (n : Int) := by subst h; exact w32_id (by omega) (by omega)
abbrev MP : List Nat := [103, 105]
abbrev MS : List (Nat × Nat) := [(85, 34), (85, 38), (85, 39), (85, 40)]
abbrev EP : List Nat := [105]
abbrev ES : List (Nat × Nat) := [(85, 38), (85, 39), (85, 40)]
/-- a law of the reference, about to be asked by the facts f -/
def MLw (sh : Shp) (h : Sto) (z : Nat) (Lw : Law) (f : Nat → Int) : Prop := Fix sh h ∧ h 85 20 = 0 ∧ h 85 34 = (z : Int) ∧ (94 ≤ z ∧ z + 900 ≤ 5494) ∧ LawM (h 87) z Lw ∧ LawOK Lw ∧ FOK f ∧ ∀ o : Nat, 1 ≤ o → o ≤ 8 → h 103 o = f (o - 1)
theorem MLw.fr {sh : Shp} {h h2 : Sto} {z : Nat} {Lw : Law} {f : Nat → Int} (H : MLw sh h z Lw f) (F : Fr EP ES h h2) : MLw sh h2 z Lw f := by
  unfold MLw
  rw [F.at 85 20 rfl, F.at 85 34 rfl, F.row 87 rfl, F.row 103 rfl]
  exact ⟨F.fix H.1 (by decide +kernel), H.2⟩
section MJUDGE
variable {sc : Nat × (Nat → Int)} {d : Nat} {sh : Shp} {sl : Nat} {h : Sto} {Q : Pst}
theorem sp_rkLaw {z : Nat} {Lw : Law} {f : Nat → Int} {a b : Int} {ev : Ev} (H : MLw sh h z Lw f) (R : RgM (h 87) z a b ev) (hq : ∀ h', Fr EP ES h h' → h' 85 38 = (if ev f = none then 1 else 0) → (∀ v, ev f = some v → h' 85 39 = v) → Q (9, 0) sh sl h') : WM sc (d + 3) 175 [(2, 85), (0, a), (0, b)] sh sl h Q := by
  obtain ⟨X, h1, h2, h3, h4, h5, h6, h7⟩ := H
  obtain ⟨i, j, rfl, rfl, r3, r4, r5, r6⟩ := R
  rw [B_175_0 X]
  have X0 : Fix sh (setH h 85 38 0) := X.s (by decide +kernel)
  refine lp_reckon (h := setH h 85 38 0) (op := fun k => h 87 (z + 98 + 2 * k)) (ar := fun k => h 87 (z + 98 + 2 * k + 1)) (lk := fun o _ => f (o.toNat - 1)) (W := 8) X0 (by decide) r4 (fun k hk => (r5 k hk).1) (fun k hk => (r5 k hk).2) (fun o a => h6 _) ?_ ?_ (ev f) ?_ 401 i [] _ _ _ _ _ (r6 f h6) rfl rfl (by omega) trivial (by simp) (by simp) (Fr.refl _) (setH_self _ _ _ _)
  · intro h' x3 k j5 j6 hF hb hk hw
    have X' := hF.fix X0 (by decide +kernel)
    have e1 : h' 85 20 = 0 := by rw [hF.at 85 20 rfl, setH_k (by decide)]; exact h1
    have e2 : h' 85 34 = z := by rw [hF.at 85 34 rfl, setH_k (by decide)]; exact h2
    have e3 : h' 87 = h 87 := by rw [hF.row 87 rfl, setH_o (by decide)]
    have q1 : Unit → w32 ((z : Int) + 98 + 2 * k) = ((z + 98 + 2 * k : Nat) : Int) := fun _ => w32_nat (by omega) (by omega)
    have q2 : Unit → w32 ((z : Int) + 98 + 2 * k + 1) = ((z + 98 + 2 * k + 1 : Nat) : Int) := fun _ => w32_nat (by omega) (by omega)
    rw [B_175_10 X', w32_id (a := (j : Int)) (by omega) (by omega), w32_id (a := (k : Int)) (by omega) (by omega), if_neg (by omega), hb, if_neg (by decide), e1, w32_0, if_pos rfl, e2, q1 (), e3, Int.toNat_natCast, B_175_57 X', e1, w32_0, if_pos rfl, e2, q2 (), e3, Int.toNat_natCast]
    exact ⟨⟨by omega, by omega⟩, ⟨by omega, by omega⟩, hw⟩
  · intro h' x3 x4 k j6 hF hk ho1 ho2 _ hw
    have X' := hF.fix X0 (by decide +kernel)
    have e1 : h' 85 20 = 0 := by rw [hF.at 85 20 rfl, setH_k (by decide)]; exact h1
    have e3 : h' 103 = h 103 := by rw [hF.row 103 rfl, setH_o (by decide)]
    rw [B_175_95 X', w32_id (a := h 87 (z + 98 + 2 * k)) (by omega) (by omega), if_neg (by omega), if_pos (by omega), e1, if_neg (by decide), e3, h7 _ (by omega) (by omega)]
    exact ⟨⟨by omega, by omega⟩, hw⟩
  · intro h' hF hb hv
    exact hq h' (((Fr.refl h).set (P := EP) (S := ES) (p := 85) (k := 38) (v := 0) rfl).trans (hF.mono rfl)) hb hv
theorem sp_isSo {z i : Nat} {Lw : Law} {f : Nat → Int} {cl : Cl} {x : Int} (H : MLw sh h z Lw f) (hi : Lw[i]? = some cl) (hx : x = ((z + 2 + 8 * i : Nat) : Int)) (hq0 : ∀ h', Fr EP ES h h' → holdsV cl f = none → Q (0, 0) sh sl h') (hq1 : ∀ h' v, Fr EP ES h h' → holdsV cl f = some v → (cl.1 ≠ 3 → h' 85 40 = v) → Q (0, 1) sh sl h') : WM sc (d + 4) 174 [(2, 85), (0, x)] sh sl h Q := by
  subst hx
  have H0 := H
  obtain ⟨X, h1, h2, h3, h4, h5, h6, h7⟩ := H
  have hcm : cl ∈ Lw := List.mem_of_getElem? hi
  have hil : i < Lw.length := (List.getElem?_eq_some_iff.mp hi).1
  have hlen := h5.1
  obtain ⟨k1, k2, k3, k4⟩ := h5.2 cl hcm
  obtain ⟨c1, c2, c3⟩ := h4.2 i cl hi
  have w5 : Unit → w32 (((z + 2 + 8 * i : Nat) : Int) + 5) = ((z + 2 + 8 * i + 5 : Nat) : Int) := fun _ => w32_nat (by omega) (by omega)
  have w6 : Unit → w32 (((z + 2 + 8 * i : Nat) : Int) + 6) = ((z + 2 + 8 * i + 6 : Nat) : Int) := fun _ => w32_nat (by omega) (by omega)
  have w3 : Unit → w32 (((z + 2 + 8 * i : Nat) : Int) + 3) = ((z + 2 + 8 * i + 3 : Nat) : Int) := fun _ => w32_nat (by omega) (by omega)
  have w4 : Unit → w32 (((z + 2 + 8 * i : Nat) : Int) + 4) = ((z + 2 + 8 * i + 4 : Nat) : Int) := fun _ => w32_nat (by omega) (by omega)
  have w0 : Unit → w32 ((z + 2 + 8 * i : Nat) : Int) = ((z + 2 + 8 * i : Nat) : Int) := fun _ => w32_nat (by omega) (by omega)
  have hsum : ∀ h', Fr EP ES h h' → holdsV cl f = vS cl f → cl.1 ≠ 3 → WM sc (d + 3) 175 [(2, 85), (0, h 87 (z + 2 + 8 * i + 3)), (0, h 87 (z + 2 + 8 * i + 4))] sh sl h' (fun r sh1 sl1 h1 => WF sc (d + 3 + 1) 174 89 [(2, 85), (0, ((z + 2 + 8 * i : Nat) : Int))] (pushR r []) sh1 sl1 h1 Q) := by
    intro h' hF hh hc
    cases hc2 : cl.2.2 with
    | none => exact absurd (k4.mpr hc2) hc
    | some ev =>
      rw [hc2] at c3
      have hv : vS cl f = ev f := by unfold vS; rw [hc2]
      rw [hv] at hh
      refine sp_rkLaw (ev := ev) (H0.fr hF) (by rw [hF.row 87 rfl]; exact c3) ?_
      intro h2 hF2 hb hv2
      simp only [pushR9]
      rw [B_174_89 (H0.fr (hF.trans hF2)).1]
      cases he : ev f with
      | none =>
        rw [show h2 85 38 = 1 by rw [hb, he]; rfl, show w32 1 = 1 from rfl, if_pos (by decide)]
        exact hq0 _ ((hF.trans hF2).set rfl) (hh.trans he)
      | some v =>
        rw [show h2 85 38 = 0 by rw [hb, he]; rfl, w32_0, if_neg (by simp)]
        exact hq1 _ v ((hF.trans hF2).set rfl) (hh.trans he) (fun _ => by rw [setH_self]; exact hv2 v he)
  have hfin : ∀ h', Fr EP ES h h' → holdsV cl f = vS cl f → ((0 ≤ w32 ((z + 2 + 8 * i : Nat) : Int) ∧ w32 ((z + 2 + 8 * i : Nat) : Int) < 5494) ∧ (if w32 (h' 87 ((w32 ((z + 2 + 8 * i : Nat) : Int)).toNat)) = 3 then Q (0, 1) sh sl h' else (0 ≤ w32 (((z + 2 + 8 * i : Nat) : Int) + 3) ∧ w32 (((z + 2 + 8 * i : Nat) : Int) + 3) < 5494) ∧ (0 ≤ w32 (((z + 2 + 8 * i : Nat) : Int) + 4) ∧ w32 (((z + 2 + 8 * i : Nat) : Int) + 4) < 5494) ∧ WM sc (d + 3) 175 [(2, 85), (0, h' 87 ((w32 (((z + 2 + 8 * i : Nat) : Int) + 3)).toNat)), (0, h' 87 ((w32 (((z + 2 + 8 * i : Nat) : Int) + 4)).toNat))] sh sl h' (fun r sh1 sl1 h1 => WF sc (d + 3 + 1) 174 89 [(2, 85), (0, ((z + 2 + 8 * i : Nat) : Int))] (pushR r []) sh1 sl1 h1 Q))) := by
    intro h' hF hh
    rw [w0 (), w3 (), w4 (), Int.toNat_natCast, Int.toNat_natCast, Int.toNat_natCast, hF.row 87 rfl, c1, w32_id (a := (cl.1 : Int)) (by omega) (by omega)]
    refine ⟨⟨by omega, by omega⟩, ?_⟩
    by_cases hc : cl.1 = 3
    · rw [if_pos (by omega)]
      have : vS cl f = some 1 := by unfold vS; rw [k4.mp hc]
      exact hq1 h' 1 hF (hh.trans this) (fun h => absurd hc h)
    · rw [if_neg (by omega)]
      exact ⟨⟨by omega, by omega⟩, ⟨by omega, by omega⟩, hsum h' hF hh hc⟩
  rw [B_174_0 X, w5 (), w6 (), Int.toNat_natCast, Int.toNat_natCast]
  refine ⟨⟨by omega, by omega⟩, ⟨by omega, by omega⟩, ?_⟩
  cases hc1 : cl.2.1 with
  | none =>
    rw [hc1] at c2
    simp only at c2
    rw [if_pos (by rw [c2.1]; exact Int.le_refl _)]
    exact hfin h (Fr.refl h) (by unfold holdsV; rw [hc1])
  | some ev =>
    rw [hc1] at c2
    simp only at c2
    have c2' := c2
    obtain ⟨p, q, e1, e2, e3, e4, -⟩ := c2'
    rw [e1, e2, w32_id (a := (p : Int)) (by omega) (by omega), w32_id (a := (q : Int)) (by omega) (by omega), if_neg (by omega)]
    refine ⟨⟨by omega, by omega⟩, ⟨by omega, by omega⟩, ?_⟩
    rw [← e1, ← e2]
    refine sp_rkLaw (ev := ev) H0 c2 ?_
    intro h2 hF2 hb hv2
    simp only [pushR9]
    rw [B_174_41 (H0.fr hF2).1]
    cases he : ev f with
    | none =>
      rw [show h2 85 38 = 1 by rw [hb, he]; rfl, show w32 1 = 1 from rfl, if_pos (by decide)]
      exact hq0 _ hF2 (by unfold holdsV; rw [hc1]; simp [he])
    | some v =>
      have hb01 := k2 ev hc1 f h6 v he
      rw [show h2 85 38 = 0 by rw [hb, he]; rfl, w32_0, if_neg (by simp), hv2 v he, w64_id (by omega) (by omega)]
      by_cases hz : v = 0
      · rw [if_neg (by omega)]
        exact hq0 _ hF2 (by unfold holdsV; rw [hc1]; simp [he, hz])
      · rw [if_pos hz]
        exact hfin h2 hF2 (by unfold holdsV; rw [hc1]; simp [he]; omega)
theorem lp_tells {z k : Nat} {Lw : Law} {f : Nat → Int} {l r without : Int} (H : MLw sh h z Lw f) (hk : k ≤ 3) (hq : ∀ h', Fr EP ES h h' → Q (1, (tdF k f Lw).getD without) sh sl h') :
    ∀ (rem i : Nat) (h' : Sto) (told I : Int) (j9 : V), i + rem = Lw.length → told = (tdF k f (Lw.take i)).getD without → I = i → Fr EP ES h h' → WF sc (d + 5) 173 185 [(2, 85), (0, (k : Int)), (0, l), (0, r), (1, without), (9, 0), (1, told), (9, 0), (0, I), j9] [] sh sl h' Q := by
  intro rem
  induction rem with
  | zero =>
    intro i h' told I j9 hi ht hI hF
    subst hI
    obtain ⟨X, h1, h2, h3, h4, h5, h6, h7⟩ := H.fr hF
    have hC := h5.1
    have w1 : Unit → w32 ((z : Int) + 1) = ((z + 1 : Nat) : Int) := fun _ => w32_nat (by omega) (by omega)
    rw [B_173_185 X, h2, w1 (), Int.toNat_natCast, h4.1, w32_id (a := (Lw.length : Int)) (by omega) (by omega), w32_id (a := (i : Int)) (by omega) (by omega), if_pos (by omega), ht, List.take_of_length_le (by omega)]
    exact ⟨⟨by omega, by omega⟩, hq h' hF⟩
  | succ rem ih =>
    intro i h' told I j9 hi ht hI hF
    subst hI
    have H' := H.fr hF
    obtain ⟨X, h1, h2, h3, h4, h5, h6, h7⟩ := H'
    have hC := h5.1
    have w1 : Unit → w32 ((z : Int) + 1) = ((z + 1 : Nat) : Int) := fun _ => w32_nat (by omega) (by omega)
    have w2 : Unit → w32 ((z : Int) + 2 + 8 * i) = ((z + 2 + 8 * i : Nat) : Int) := fun _ => w32_nat (by omega) (by omega)
    obtain ⟨cl, hcl⟩ : ∃ cl, Lw[i]? = some cl := ⟨Lw[i], List.getElem?_eq_getElem (by omega)⟩
    have hcm : cl ∈ Lw := List.mem_of_getElem? hcl
    have htake : Lw.take (i + 1) = Lw.take i ++ [cl] := by rw [List.take_add_one, hcl]; rfl
    have ht2 : (tdF k f (Lw.take (i + 1))).getD without = match ofKind k f cl with | some v => v | none => told := by
      rw [htake, tdF_snoc, ht]
      cases ofKind k f cl <;> rfl
    obtain ⟨k1, k2, k3, k4⟩ := h5.2 cl hcm
    rw [B_173_185 X, h2, w1 (), Int.toNat_natCast, h4.1, w32_id (a := (Lw.length : Int)) (by omega) (by omega), w32_id (a := (i : Int)) (by omega) (by omega), if_neg (by omega), w2 (), Int.toNat_natCast, (h4.2 i cl hcl).1, w32_id (a := (cl.1 : Int)) (by omega) (by omega), w32_id (a := (k : Int)) (by omega) (by omega)]
    refine ⟨⟨by omega, by omega⟩, ⟨by omega, by omega⟩, ?_⟩
    by_cases hkk : cl.1 = k
    · rw [if_neg (by omega)]
      refine sp_isSo (H.fr hF) hcl (by omega) ?_ ?_
      · intro h2 hF2 hn
        have X2 := (H.fr (hF.trans hF2)).1
        simp only [pushR0]
        rw [B_173_232 X2, w32_0, if_pos rfl]
        exact ih (i + 1) h2 _ _ _ (by omega) (by rw [ht2]; unfold ofKind; rw [if_pos hkk, hn]) (by simp) (hF.trans hF2)
      · intro h2 v hF2 hv hs
        have X2 := (H.fr (hF.trans hF2)).1
        simp only [pushR0]
        rw [B_173_232 X2, show w32 1 = 1 from rfl, if_neg (by decide), w32_id (a := (k : Int)) (by omega) (by omega)]
        by_cases h3 : k = 3
        · rw [if_neg (by omega)]
          have hv1 : v = 1 := by
            have := (tdF_ok h5 h6 [cl] (fun c hc => by rw [List.mem_singleton.mp hc]; exact hcm) v (by simp only [tdF, ofKind]; rw [if_pos hkk]; exact hv) (k := k)).2 h3
            exact this
          subst hv1
          exact ih (i + 1) h2 _ _ _ (by omega) (by rw [ht2]; unfold ofKind; rw [if_pos hkk, hv]) (by simp) (hF.trans hF2)
        · rw [if_pos (by omega), hs (by omega)]
          exact ih (i + 1) h2 _ _ _ (by omega) (by rw [ht2]; unfold ofKind; rw [if_pos hkk, hv]) (by simp) (hF.trans hF2)
    · rw [if_pos (by omega)]
      exact ih (i + 1) h' _ _ _ (by omega) (by rw [ht2]; unfold ofKind; rw [if_neg hkk]) (by simp) hF
end MJUDGE
/-- what the reference's judging needs: its row is G -/
def MJ (sh : Shp) (h : Sto) (G : Nat → Int) (n m : Nat) (L : List Law) : Prop := Fix sh h ∧ h 87 = G ∧ h 85 20 = 0 ∧ SW G n m L ∧ BW G n m
theorem MJ.of {P : List Nat} {S : List (Nat × Nat)} {sh : Shp} {h h2 : Sto} {G : Nat → Int} {n m : Nat} {L : List Law} (H : MJ sh h G n m L) (F : Fr P S h h2) (hf : fixF P S = true) (hc : cgF [87] [(85, 20)] P S = true) : MJ sh h2 G n m L := by
  have E := F.cg hc
  exact ⟨F.fix H.1 hf, by rw [E.r 87 rfl]; exact H.2.1, by rw [E.c 85 20 rfl]; exact H.2.2.1, H.2.2.2⟩
theorem MJ.fr {sh : Shp} {h h2 : Sto} {G : Nat → Int} {n m : Nat} {L : List Law} (H : MJ sh h G n m L) (F : Fr MP MS h h2) : MJ sh h2 G n m L := H.of F (by decide +kernel) (by decide +kernel)
section MJUDGE2
variable {sc : Nat × (Nat → Int)} {d : Nat} {sh : Shp} {sl : Nat} {h : Sto} {Q : Pst} {G : Nat → Int} {n m : Nat} {L : List Law}
theorem sp_tells {k l : Nat} {r : Option Nat} {kind ri without : Int} (H : MJ sh h G n m L) (hk : kind = (k : Int)) (hk3 : k ≤ 3) (hl : l < n) (hr : (r = none ∧ ri = -1) ∨ ∃ x : Nat, r = some x ∧ ri = x ∧ x < n) (hq : ∀ h', Fr MP MS h h' → Q (1, (tellsA G L k l r).getD without) sh sl h') : WM sc (d + 5) 173 [(2, 85), (0, kind), (0, (l : Int)), (0, ri), (1, without)] sh sl h Q := by
  subst hk
  have H0 := H
  obtain ⟨X, e87, e20, W, B⟩ := H
  have w := W.1
  have wl := W.2.1 l hl
  have bl := B.2.1 l hl
  have b5 := B.1
  rw [B_173_0 X, e87]
  by_cases hf : G 4 < 0
  · have : G 4 = -1 := by omega
    rw [this, show w32 (-1) = -1 from rfl, if_neg (by simp)]
    have := hq h (Fr.refl h)
    unfold tellsA at this
    rw [if_pos hf] at this; exact this
  · rw [w32_id (a := G 4) (by omega) (by omega), if_pos (by omega)]
    obtain ⟨Lw, hL⟩ : ∃ Lw, L[(G 4).toNat]? = some Lw := ⟨L[(G 4).toNat], List.getElem?_eq_getElem (by omega)⟩
    obtain ⟨hM, hO⟩ := W.2.2.2.2 _ _ hL
    have hrx : ∀ x, r = some x → x < n := by
      intro x hx
      rcases hr with ⟨h1, _⟩ | ⟨y, h1, h2, h3⟩
      · rw [h1] at hx; cases hx
      · rw [h1] at hx; cases hx; exact h3
    have hfok := fct_ok W B hl hrx
    have ht : tellsA G L k l r = tdF k (fct G l r) Lw := by unfold tellsA; rw [if_neg hf, hL]
    rw [ht] at hq
    have q1 : Unit → w32 (69 + (l : Int)) = ((69 + l : Nat) : Int) := fun _ => w32_nat (by omega) (by omega)
    have q2 : Unit → w32 (59 + (l : Int)) = ((59 + l : Nat) : Int) := fun _ => w32_nat (by omega) (by omega)
    have q3 : Unit → w32 (49 + (l : Int)) = ((49 + l : Nat) : Int) := fun _ => w32_nat (by omega) (by omega)
    have q4 : Unit → w32 (18 + (l : Int)) = ((18 + l : Nat) : Int) := fun _ => w32_nat (by omega) (by omega)
    have v1 : w32 (G (69 + l)) = G (69 + l) := w32_id (by omega) (by omega)
    have v2 : w32 (G (59 + l)) = G (59 + l) := w32_id (by omega) (by omega)
    have v3 : w32 (G (49 + l)) = G (49 + l) := w32_id (by omega) (by omega)
    have v4 : w32 (G (18 + l)) = G (18 + l) := w32_id (by omega) (by omega)
    have v5 : w32 (G 5) = G 5 := w32_id (by omega) (by omega)
    have v6 : w32 (G 7) = G 7 := w32_id (by omega) (by omega)
    have hgo : ∀ (s2 s4 : Int), s2 = fct G l r 1 → s4 = fct G l r 3 → WF sc (d + 5) 173 185 [(2, 85), (0, (k : Int)), (0, (l : Int)), (0, ri), (1, without), (9, 0), (1, without), (9, 0), (0, 0), (9, 0)] [] sh sl (setH (setH (setH (setH (setH (setH (setH (setH (setH h 85 34 (94 + 900 * G 4)) 103 1 (G (69 + l))) 103 2 s2) 103 3 (G (59 + l))) 103 4 s4) 103 5 (G (49 + l))) 103 6 (G (18 + l))) 103 7 (G 5)) 103 8 (G 7)) Q := by
      intro s2 s4 hs2 hs4
      have hF : Fr MP MS h (setH (setH (setH (setH (setH (setH (setH (setH (setH h 85 34 (94 + 900 * G 4)) 103 1 (G (69 + l))) 103 2 s2) 103 3 (G (59 + l))) 103 4 s4) 103 5 (G (49 + l))) 103 6 (G (18 + l))) 103 7 (G 5)) 103 8 (G 7)) := ((((((((((Fr.refl h).set rfl).setP rfl).setP rfl).setP rfl).setP rfl).setP rfl).setP rfl).setP rfl).setP rfl)
      refine lp_tells (z := 94 + 900 * (G 4).toNat) (Lw := Lw) (f := fct G l r) (k := k) ?_ hk3 ?_ Lw.length 0 _ _ _ _ (by omega) (by simp [tdF]) rfl (Fr.refl _)
      · obtain ⟨X2, e2, e3, _⟩ := H0.fr hF
        refine ⟨X2, e3, ?_, ⟨by omega, by omega⟩, by rw [e2]; exact hM, hO, hfok, ?_⟩
        · simp only [setH_o (show (85 : Nat) ≠ 103 by decide), setH_self]; omega
        · intro o h1 h2
          rcases (show o = 1 ∨ o = 2 ∨ o = 3 ∨ o = 4 ∨ o = 5 ∨ o = 6 ∨ o = 7 ∨ o = 8 by omega) with e | e | e | e | e | e | e | e <;> subst e <;> simp (disch := omega) only [setH_self, setH_k]
          · rfl
          · exact hs2
          · rfl
          · exact hs4
          · rfl
          · rfl
          · rfl
          · rfl
      · intro h' hF'
        exact hq h' (hF.trans (hF'.mono rfl))
    simp only [q1 (), q2 (), q3 (), q4 (), Int.toNat_natCast, v1, v2, v3, v4, v5, v6]
    refine ⟨⟨by omega, by omega⟩, ?_⟩
    rcases hr with ⟨rfl, rfl⟩ | ⟨x, rfl, rfl, hx⟩
    · rw [show w32 (-1) = -1 from rfl, if_neg (by simp), if_neg (by simp)]
      exact ⟨⟨by omega, by omega⟩, ⟨by omega, by omega⟩, ⟨by omega, by omega⟩, hgo (-1) (-1) rfl rfl⟩
    · have wx := W.2.1 x hx
      have p1 : Unit → w32 (69 + (x : Int)) = ((69 + x : Nat) : Int) := fun _ => w32_nat (by omega) (by omega)
      have p2 : Unit → w32 (59 + (x : Int)) = ((59 + x : Nat) : Int) := fun _ => w32_nat (by omega) (by omega)
      have u1 : w32 (G (69 + x)) = G (69 + x) := w32_id (by omega) (by omega)
      have u2 : w32 (G (59 + x)) = G (59 + x) := w32_id (by omega) (by omega)
      rw [w32_id (a := (x : Int)) (by omega) (by omega), if_pos (by omega), if_pos (by omega), p1 (), p2 (), Int.toNat_natCast, Int.toNat_natCast, u1, u2]
      exact ⟨⟨by omega, by omega⟩, ⟨by omega, by omega⟩, ⟨by omega, by omega⟩, ⟨by omega, by omega⟩, ⟨by omega, by omega⟩, hgo _ _ rfl rfl⟩
theorem sp_within {v lo hi : Int} (X : Fix sh h) (hv : I64 v) (hl : I32 lo) (hh : I32 hi) (hlh : lo ≤ hi) : WM sc (d + 1) 177 [(1, v), (0, lo), (0, hi)] sh sl h Q ↔ Q (0, max lo (min v hi)) sh sl h := by
  rw [B_177_0 X, hl.w, hl.l.w, hh.w, hh.l.w, hv.w]
  by_cases h1 : lo ≤ v
  · rw [if_pos h1]
    by_cases h2 : v ≤ hi
    · rw [if_pos h2, show max lo (min v hi) = v by omega]
    · rw [if_neg h2, show max lo (min v hi) = hi by omega]
  · rw [if_neg h1, show max lo (min v hi) = lo by omega]
theorem getD_told {o : Option Int} {without most : Int} (h : 0 ≤ without ∧ without ≤ most) : max 0 (min (o.getD without) most) = toldA o without most := by
  cases o with
  | none => show max 0 (min without most) = without; omega
  | some v => rfl
theorem getD_I64 {o : Option Int} {without : Int} (ho : ∀ v, o = some v → (-2147483648 ≤ v ∧ v < 2147483648)) (h : 0 ≤ without ∧ without ≤ 100) : I64 (o.getD without) := by
  cases o with
  | none => exact ⟨by show _ ≤ without; omega, by show without < _; omega⟩
  | some v => have := ho v rfl; exact ⟨by show _ ≤ v; omega, by show v < _; omega⟩
theorem sp_quarrelOf {l r : Nat} (H : MJ sh h G n m L) (hl : l < n) (hr : r < n) (hq : ∀ h', Fr MP MS h h' → Q (0, quarrelA G L l r) sh sl h') : WM sc (d + 6) 183 [(2, 85), (0, (l : Int)), (0, (r : Int))] sh sl h Q := by
  have H0 := H
  obtain ⟨X, e87, e20, W, B⟩ := H
  have wl := W.2.1 l hl
  have wr := W.2.1 r hr
  have w := W.1
  have q1 : Unit → w32 (69 + (l : Int)) = ((69 + l : Nat) : Int) := fun _ => w32_nat (by omega) (by omega)
  have q2 : Unit → w32 (59 + (l : Int)) = ((59 + l : Nat) : Int) := fun _ => w32_nat (by omega) (by omega)
  have q3 : Unit → w32 (69 + (r : Int)) = ((69 + r : Nat) : Int) := fun _ => w32_nat (by omega) (by omega)
  have q4 : Unit → w32 (59 + (r : Int)) = ((59 + r : Nat) : Int) := fun _ => w32_nat (by omega) (by omega)
  have hgo : ∀ (x3 wo : Int), wo = (if G (59 + l) = G (59 + r) then 0 else G (69 + l) + G (69 + r)) → WM sc (d + 5) 173 [(2, 85), (0, 0), (0, (l : Int)), (0, (r : Int)), (1, wo)] sh sl h (fun r_1 sh1 sl1 h1 => WF sc (d + 5 + 1) 183 54 [(2, 85), (0, (l : Int)), (0, (r : Int)), (0, x3)] (pushR r_1 []) sh1 sl1 h1 Q) := by
    intro x3 wo hwo
    have hwb : 0 ≤ wo ∧ wo ≤ 20 := by rw [hwo]; split <;> omega
    refine sp_tells (k := 0) (r := some r) H0 rfl (by omega) hl (Or.inr ⟨r, rfl, rfl, hr⟩) ?_
    intro h' hF
    have X' := (H0.fr hF).1
    simp only [pushR1]
    rw [B_183_54 X', sp_within X' (getD_I64 (fun v hv => (tellsA_ok W B hl (fun x hx => by cases hx; exact hr) hv).1) (by omega)) ⟨by decide, by decide⟩ ⟨by decide, by decide⟩ (by decide), getD_told hwb]
    simp only [pushR0]
    rw [B_183_60 X', hwo]
    exact hq h' hF
  rw [B_183_0 X, e87]
  simp only [q1 (), q2 (), q3 (), q4 (), Int.toNat_natCast]
  rw [w32_id (a := G (59 + l)) (by omega) (by omega), w32_id (a := G (59 + r)) (by omega) (by omega), w32_id (a := G (69 + l) + G (69 + r)) (by omega) (by omega)]
  refine ⟨⟨by omega, by omega⟩, ⟨by omega, by omega⟩, ?_⟩
  by_cases he : G (59 + l) = G (59 + r)
  · rw [if_neg (by simpa using he)]
    exact hgo 0 0 (by rw [if_pos he])
  · rw [if_pos he]
    exact ⟨⟨by omega, by omega⟩, ⟨by omega, by omega⟩, hgo _ _ (by rw [if_neg he])⟩
theorem sp_isBarred {l r : Nat} (H : MJ sh h G n m L) (hl : l < n) (hr : r < n) (hq : ∀ h', Fr MP MS h h' → Q (0, if barredA G L l r then 1 else 0) sh sl h') : WM sc (d + 6) 185 [(2, 85), (0, (l : Int)), (0, (r : Int))] sh sl h Q := by
  have H0 := H
  obtain ⟨X, e87, e20, W, B⟩ := H
  rw [B_185_0 X]
  refine sp_tells (k := 3) (r := some r) H0 rfl (by omega) hl (Or.inr ⟨r, rfl, rfl, hr⟩) ?_
  intro h' hF
  have X' := (H0.fr hF).1
  have := hq h' hF
  unfold barredA at this
  simp only [pushR1]
  rw [B_185_8 X']
  cases ht : tellsA G L 3 l (some r) with
  | none => rw [ht] at this; simpa [w64_0] using this
  | some v =>
    have := (tellsA_ok W B hl (fun x hx => by cases hx; exact hr) ht).2 rfl
    subst this
    rw [ht] at this
    simpa [show w64 1 = 1 from rfl] using this
theorem sp_driesOf {s : Nat} (H : MJ sh h G n m L) (hl : s < n) (hq : ∀ h', Fr MP MS h h' → Q (0, driesA G L s) sh sl h') : WM sc (d + 6) 178 [(2, 85), (0, (s : Int))] sh sl h Q := by
  have H0 := H
  obtain ⟨X, e87, e20, W, B⟩ := H
  rw [B_178_0 X]
  refine sp_tells (k := 1) (r := none) H0 rfl (by omega) hl (Or.inl ⟨rfl, rfl⟩) ?_
  intro h' hF
  have X' := (H0.fr hF).1
  simp only [pushR1]
  rw [B_178_8 X', sp_within X' (getD_I64 (fun v hv => (tellsA_ok W B hl (fun x hx => by cases hx) hv).1) (by omega)) ⟨by decide, by decide⟩ ⟨by decide, by decide⟩ (by decide), getD_told (by omega)]
  simp only [pushR0]
  rw [B_178_14 X']
  exact hq h' hF
theorem sp_countsOf {s : Nat} (H : MJ sh h G n m L) (hl : s < n) (hq : ∀ h', Fr MP MS h h' → Q (0, countsA G L s) sh sl h') : WM sc (d + 6) 172 [(2, 85), (0, (s : Int))] sh sl h Q := by
  have H0 := H
  obtain ⟨X, e87, e20, W, B⟩ := H
  have wl := W.2.1 s hl
  have w := W.1
  have q1 : Unit → w32 (49 + (s : Int)) = ((49 + s : Nat) : Int) := fun _ => w32_nat (by omega) (by omega)
  rw [B_172_0 X, e87, q1 (), Int.toNat_natCast, w32_id (a := G (49 + s)) (by omega) (by omega)]
  refine ⟨⟨by omega, by omega⟩, ?_⟩
  refine sp_tells (k := 2) (r := none) H0 rfl (by omega) hl (Or.inl ⟨rfl, rfl⟩) ?_
  intro h' hF
  have X' := (H0.fr hF).1
  simp only [pushR1]
  rw [B_172_17 X', sp_within X' (getD_I64 (fun v hv => (tellsA_ok W B hl (fun x hx => by cases hx) hv).1) (by omega)) ⟨by decide, by decide⟩ ⟨by decide, by decide⟩ (by decide), getD_told (by omega)]
  simp only [pushR0]
  rw [B_172_23 X']
  exact hq h' hF
end MJUDGE2
