def wxF (od : Bool) (o a : Int) : Nat := if od = true then (if o < 5 then o.toNat - 1 else if o = 5 then 4 + a.toNat else if o = 6 then 7 + a.toNat else 10 + a.toNat) else o.toNat - 1
def wtp (od : Bool) : Nat := if od = true then 7 else 8
section MREAD3
variable {sc : Nat × (Nat → Int)} {d : Nat} {sh : Shp} {sl : Nat} {h : Sto} {Q : Pst} {T : Nat → Int} {n : Nat} {od : Bool} {p lf ws c b : Nat} {pl : Pil}
theorem wrd_kd {x : Nat × Nat} (hp : p ≤ n) (h : wrdR T n od p = some x) : kdT T n p = 1 := by
  unfold wrdR wOrd wLaw at h
  repeat' split at h
  all_goals first
    | (cases h; done)
    | (rename_i q; exact ((kw_word hp (by decide) (by decide)).mpr q).1)
theorem num_eq (hp : p ≤ n) (k2 : kdT T n p = 2) : 0 ≤ wtT T n p ∧ nmT T n p = min (wtT T n p) 1001 ∧ wtT T n p ≤ 10000010 := by
  have dg : ∀ j, j < enT T n p - stT T n p → 48 ≤ T (stT T n p + j) ∧ T (stT T n p + j) ≤ 57 := fun j hj => by
    have := enT_in (T := T) hp (show stT T n p ≤ stT T n p + j by omega) (show stT T n p + j < enT T n p by omega)
    rw [k2] at this; exact ckd2.mp this
  have db := dwF_b _ dg
  unfold wtT nmT
  rw [if_neg (by omega), if_neg (by omega), if_pos k2, if_pos k2]
  omega
theorem MB.sub {q : Nat} {h1 h2 : Sto} {P : List Nat} {S : List (Nat × Nat)} (F : Fr P S h h1) (H : MB q h1 h2) (hs : subF P S MrP MrS = true := by rfl) : MB q h h2 := ⟨(F.mono hs).trans H.1, H.2⟩
/-- one leaf -/
theorem mLf {z o a : Int} (X : Fix sh h) (H : MI T n od p lf c pl b h) (hz : z = 0 ∨ z = 1) (hn : z = 1 → p < enT T n p) (q0 : (z = 0 ∨ 50 ≤ lf) → ∀ h2, MB (stT T n p) h h2 → h2 85 20 = h 85 20 → Q (9, 0) sh sl h2) (q1 : z = 1 → lf < 50 → ∀ h2, MX c h h2 → MI T n od (enT T n p) (lf + 1) (c + 1) pl b h2 → h2 96 c = o → h2 97 c = a → Q (9, 0) sh sl h2) (hk : z = 1 → (0 ≤ o ∧ o ≤ 32) ∧ 0 ≤ a ∧ a < 2147483648 := by omega) : WM sc (d + 5) 211 [(2, 85), (0, z), (0, o), (0, a)] sh sl h Q := by
  have b26 := H.2.2.2.2.2.1
  have hlf := H.1.2.1
  have bad : (z = 0 ∨ 50 ≤ lf) → WM sc (d + 4) 202 [(2, 85), (0, 0)] sh sl h (fun r sh1 sl1 h1 => WF sc (d + 5) 211 22 [(2, 85), (0, z), (0, o), (0, a)] (pushR r []) sh1 sl1 h1 Q) := fun hb => by
    refine mMustF X H rfl (fun h2 B2 P2 g20 g23 => ?_)
    simp only [pushR9]
    rw [B_211_22 (B2.1.fix X (by decide +kernel)), B2.2.1, show w32 1 = 1 from rfl, if_pos (by decide)]
    exact q0 hb h2 B2 g20
  rw [B_211_0 X, b26, w32_id (a := (lf : Int)) (by omega) (by omega), w32_id (a := z) (by omega) (by omega)]
  refine ite_i (fun z0 => bad (Or.inl z0)) (fun z0 => ite_i (fun l5 => bad (Or.inr (by omega))) (fun l5 => ?_))
  have z1 : z = 1 := by omega
  have hen := hn z1
  refine mMustT X H rfl (fun h2 F2 H2 => ?_)
  have X2 : Fix sh h2 := F2.fix X (by decide +kernel)
  have H2' := H2
  obtain ⟨⟨a1, a2, a3, a4⟩, P, R0, b1, b2, b3, b4, g1, g2, g3, g4, g5⟩ := H2'
  have hn4 := P.1
  have a3' := H.1.2.2.1
  simp only [pushR9]
  rw [B_211_22 X2, b1, w32_0, if_neg (by simp), B_212_0 X2, g2, w32_id (a := (c : Int)) (by omega) (by omega), Int.toNat_natCast]
  refine ⟨⟨by omega, by omega⟩, ⟨by omega, by omega⟩, ?_⟩
  simp only [pushR9]
  have F3 : Fr MrP MrT h2 (setH (setH (setH h2 96 c o) 97 c a) 85 23 ((c : Int) + 1)) := (((Fr.refl h2).setP rfl).setP rfl).set rfl
  rw [B_211_35 (F3.fix X2 (by decide +kernel)), setH_k (by decide), setH_o (by decide), setH_o (by decide), b3]
  obtain ⟨h4, hh4⟩ : ∃ h4, setH (setH (setH (setH h2 96 c o) 97 c a) 85 23 ((c : Int) + 1)) 85 26 ((lf : Int) + 1) = h4 := ⟨_, rfl⟩
  rw [hh4]
  have F4 : Fr [96, 97] [(85, 23), (85, 26)] h2 h4 := by rw [← hh4]; exact ((((Fr.refl h2).setP rfl).setP rfl).set rfl).set rfl
  have e96 : ∀ i, i ≠ c → h4 96 i = h2 96 i := fun i hi => by rw [← hh4, setH_o (by decide), setH_o (by decide), setH_o (by decide), setH_k hi]
  have e97 : ∀ i, i ≠ c → h4 97 i = h2 97 i := fun i hi => by rw [← hh4, setH_o (by decide), setH_o (by decide), setH_k hi, setH_o (by decide)]
  have k4 : MKb h2 → MKb h4 := fun k i hi => by
    unfold KBd
    rw [← hh4, setH_k (by decide), setH_self] at hi
    by_cases ic : i = c
    · subst ic
      rw [← hh4, setH_o (by decide), setH_o (by decide), setH_o (by decide), setH_self, setH_o (by decide), setH_o (by decide), setH_self]; exact hk z1
    · rw [e96 i ic, e97 i ic]; exact k i (by rw [g2]; omega)
  refine q1 z1 (by omega) h4 ((MX.nx F2).trans (c1 := c) ⟨F4.mono rfl, fun i hi => ⟨e96 i (by omega), e97 i (by omega)⟩, k4⟩ (Nat.le_refl c)) ⟨⟨a1, by omega, by omega, a4⟩, ⟨P.1, fun i hi => by rw [F4.row 94 rfl]; exact P.2 i hi⟩, ?_, by rw [F4.at 85 19 rfl]; exact b1, by rw [F4.at 85 20 rfl]; exact b2, by rw [← hh4, setH_self]; omega, by rw [F4.at 85 30 rfl]; exact b4, by rw [F4.at 85 29 rfl]; exact g1, by rw [← hh4, setH_k (by decide), setH_self]; omega, by rw [F4.row 98 rfl, F4.row 99 rfl]; exact g3, g4, by omega⟩ ?_ ?_
  · unfold RdM; rw [F4.at 85 13 rfl, F4.at 85 14 rfl, F4.at 85 15 rfl, F4.at 85 16 rfl, F4.at 85 17 rfl]; exact R0
  · rw [← hh4, setH_o (by decide), setH_o (by decide), setH_o (by decide), setH_self]
  · rw [← hh4, setH_o (by decide), setH_o (by decide), setH_self]
theorem mLeaf (X : Fix sh h) (H : MI T n od p lf c pl b h) (s : seeT T n p [91] = false) (q0 : ∀ h2 q, leafR T n od p lf ws = .inl q → MB q h h2 → Q (0, 3) sh sl h2) (q1 : ∀ h2 p1 lf1 ws1 ev, leafR T n od p lf ws = .inr (p1, lf1, ws1, ev) → MX c h h2 → MI T n od p1 lf1 (c + 1) pl b h2 → SeM (h2 96) (h2 97) (wxF od) (wtp od) c (c + 1) 1 ev → Q (0, 3) sh sl h2) : WM sc (d + 8) 208 [(2, 85)] sh sl h Q := by
  have hp := H.1.1
  have P := H.2.1
  have R := H.2.2.1
  have e20 := H.2.2.2.2.1
  have kb := kdT_b (T := T) (n := n) (p := p)
  have wb := wtT_b (T := T) hp (fun i hi => (P.2 i hi).1)
  have nb := nmT_b (T := T) hp
  have core : ∀ its : Int, ((wrdR T n od p = none ∧ its = -1) ∨ (∃ w, wrdR T n od p = some (w, 0) ∧ (1 ≤ its ∧ its ≤ (wtp od : Int) ∧ its < 20) ∧ (od = true → its < 5) ∧ wxF od its 0 = w) ∨ (od = true ∧ ∃ w ch, wrdR T n od p = some (w, ch + 1) ∧ (5 ≤ its ∧ its ≤ 7) ∧ (its = 7 → ch = 9) ∧ (its ≠ 7 → ch = 2) ∧ ∀ a : Nat, wxF od its (a : Int) = w + a)) → WF sc (d + 8) 208 35 [(2, 85), (9, 0), (9, 0), (9, 0)] [(0, its)] sh sl h Q := by
    intro its hs
    have hib : -1 ≤ its ∧ its ≤ 8 := by
      rcases hs with ⟨_, z⟩ | ⟨w, _, z, _⟩ | ⟨_, w, ch, _, z, _⟩
      · omega
      · have : wtp od ≤ 8 := by unfold wtp; split <;> omega
        omega
      · omega
    -- behind the leaf, nothing more is due
    have done : ∀ (h2 : Sto) (x2 : Int) (j3 : V), (h2 85 20 = h 85 20) → (h2 85 19 = 1 ∨ its < 5 ∨ od = false) → Fix sh h2 → Q (0, 3) sh sl h2 → WF sc (d + 8) 208 102 [(2, 85), (0, its), (0, x2), j3] [] sh sl h2 Q := fun h2 x2 j3 g20 hd X2 hQ => by
      rw [B_208_102 X2, g20, e20, w32_id (a := its) (by omega) (by omega)]
      rcases hd with z | z | z
      · rw [z, show w32 1 = 1 from rfl]
        cases od with
        | false => rw [show (if (false : Bool) = true then (1 : Int) else 0) = 0 from rfl, w32_0, if_pos rfl]; exact hQ
        | true =>
          rw [show (if (true : Bool) = true then (1 : Int) else 0) = 1 from rfl, show w32 1 = 1 from rfl, if_neg (by decide)]
          refine ite_i (fun _ => hQ) (fun _ => ?_)
          rw [if_pos (by decide)]; exact hQ
      · refine ite_i (fun _ => hQ) (fun _ => ?_)
        rw [if_pos z]; exact hQ
      · subst z
        rw [show (if (false : Bool) = true then (1 : Int) else 0) = 0 from rfl, w32_0, if_pos rfl]; exact hQ
    -- digits
    have dig : kdT T n p = 2 → nmT T n p ≤ 1000 → WF sc (d + 8) 208 76 [(2, 85), (0, its), (0, 1), (9, 0)] [(0, 1), (2, 85)] sh sl h Q := fun k2 n1 => by
      have ne := num_eq hp k2
      have its1 : its = -1 := by
        rcases hs with ⟨_, z⟩ | ⟨w, z, _⟩ | ⟨_, w, ch, z, _⟩
        · exact z
        · have := wrd_kd hp z; omega
        · have := wrd_kd hp z; omega
      have kn := kd_ne (T := T) hp (by omega)
      rw [B_208_76 X, its1, show w32 (-1) = -1 from rfl, if_neg (by simp), show w32 1 = 1 from rfl, if_neg (by decide), R.2.2.2.2]
      refine mLf X H (Or.inr rfl) (fun _ => kn.1) (fun hb h2 B2 g20 => ?_) (fun _ l5 h2 E2 H2 k1 k2' => ?_)
      · simp only [pushR9]
        rw [← its1]
        refine done h2 _ _ g20 (Or.inl B2.2.1) (B2.1.fix X (by decide +kernel)) (q0 h2 _ ?_ B2)
        unfold leafR; rw [if_pos (by omega)]
      · simp only [pushR9]
        rw [← its1]
        refine done h2 _ _ (by rw [E2.1.at 85 20 rfl]) (Or.inr (Or.inl (by omega))) (E2.fix X) (q1 h2 (enT T n p) (lf + 1) ws (fun _ => some (nmT T n p)) ?_ E2 H2 (seM_num k1 (k2'.trans (show wtT T n p = nmT T n p by omega))))
        unfold leafR; rw [if_neg (by omega), if_pos ⟨k2, n1⟩]
    -- no digits
    have wrd : ¬ (kdT T n p = 2 ∧ nmT T n p ≤ 1000) → WF sc (d + 8) 208 59 [(2, 85), (0, its), (9, 0), (9, 0)] [] sh sl h Q := fun nd => by
      have eL : ∀ r : Res, 50 ≤ lf → r = .inl (stT T n p) → leafR T n od p lf ws = r := fun r l5 hr => by unfold leafR; rw [if_pos l5, hr]
      rw [B_208_59 X, w32_id (a := its) (by omega) (by omega)]
      rcases hs with ⟨hw, z⟩ | ⟨w, hw, z1, z2, z3⟩ | ⟨ho, w, ch, hw, z1, z2, z3, z4⟩
      · rw [if_neg (fun q => q z), B_208_76 X, z, show w32 (-1) = -1 from rfl, if_neg (by simp), w32_0, if_pos rfl]
        refine mLf X H (Or.inl rfl) (fun q => by omega) (fun hb h2 B2 g20 => ?_) (fun q => by omega)
        simp only [pushR9]
        rw [← z]
        refine done h2 _ _ g20 (Or.inl B2.2.1) (B2.1.fix X (by decide +kernel)) (q0 h2 _ ?_ B2)
        unfold leafR
        by_cases l5 : 50 ≤ lf
        · rw [if_pos l5]
        · rw [if_neg l5, if_neg nd, hw]
      · have wr := wrdR_b hp hw
        rw [if_pos (by omega), B_208_76 X, w32_id (a := its) (by omega) (by omega), if_pos (by omega), w32_0, if_pos rfl]
        refine mLf X H (Or.inr rfl) (fun _ => wr.1.1) (fun hb h2 B2 g20 => ?_) (fun _ l5 h2 E2 H2 k1 k2 => ?_)
        · simp only [pushR9]
          exact done h2 _ _ g20 (Or.inl B2.2.1) (B2.1.fix X (by decide +kernel)) (q0 h2 _ (eL _ (by omega) rfl) B2)
        · simp only [pushR9]
          refine done h2 _ _ (by rw [E2.1.at 85 20 rfl]) ?_ (E2.fix X) (q1 h2 (enT T n p) (lf + 1) (ws ||| 2 ^ w) (fun f => some (f w)) ?_ E2 H2 (seM_wrd k1 k2 z1 ?_ z3))
          · cases od with
            | false => exact Or.inr (Or.inr rfl)
            | true => exact Or.inr (Or.inl (z2 rfl))
          · unfold leafR; rw [if_neg (by omega), if_neg nd, hw]
          · cases od with
            | false => exact Or.inl (by decide)
            | true => exact Or.inr (Or.inl (z2 rfl))
      · have wr := wrdR_b hp hw
        rw [if_pos (by omega), B_208_76 X, w32_id (a := its) (by omega) (by omega), if_pos (by omega), w32_0, if_pos rfl]
        refine mLf X H (Or.inr rfl) (fun _ => wr.1.1) (fun hb h2 B2 g20 => ?_) (fun _ l5 h2 E2 H2 k1 k2 => ?_)
        · simp only [pushR9]
          exact done h2 _ _ g20 (Or.inl B2.2.1) (B2.1.fix X (by decide +kernel)) (q0 h2 _ (eL _ (by omega) rfl) B2)
        -- a number behind it
        have X2 := E2.fix X
        have hp2 := H2.1.1
        have P2 := H2.2.1
        have R2 := H2.2.2.1
        have kb2 := kdT_b (T := T) (n := n) (p := enT T n p)
        have wb2 := wtT_b (T := T) hp2 (fun i hi => (P2.2 i hi).1)
        have e23 := H2.2.2.2.2.2.2.2.2.1
        have nb2 := nmT_b (T := T) (n := n) hp2
        have hcl := H2.1.2.2.1
        have hn4 := P2.1
        have eR : leafR T n od p lf ws = if kdT T n (enT T n p) = 2 ∧ nmT T n (enT T n p) < ((ch + 1 : Nat) : Int) then .inr (enT T n (enT T n p), lf + 1, ws ||| 2 ^ (w + (nmT T n (enT T n p)).toNat), fun f => some (f (w + (nmT T n (enT T n p)).toNat))) else .inl (stT T n (enT T n p)) := by
          unfold leafR; rw [if_neg (by omega), if_neg nd, hw]
        have num : ∀ hi : Int, hi = (ch : Int) → WM sc (d + 7) 213 [(2, 85), (1, 0), (1, hi)] sh sl h2 (fun r sh1 sl1 h1 => WF sc (d + 8) 208 153 [(2, 85), (0, its), (0, 0), (0, (((c + 1 : Nat) : Nat) : Int) - 1)] (pushR r [(0, (((c + 1 : Nat) : Nat) : Int) - 1), (2, 97)]) sh1 sl1 h1 Q) := fun hi hhi => by
          -- the fault
          have no : ∀ x1 x3 : Int, ¬ (kdT T n (enT T n p) = 2 ∧ nmT T n (enT T n p) < ((ch + 1 : Nat) : Int)) → WM sc (d + 6) 202 [(2, 85), (0, 0)] sh sl h2 (fun r sh1 sl1 h1 => WF sc (d + 7) 213 36 [(2, 85), (1, x1), (9, 0), (1, x3), (9, 0), (0, wtT T n (enT T n p))] (pushR r []) sh1 sl1 h1 (fun r sh1 sl1 h1 => WF sc (d + 8) 208 153 [(2, 85), (0, its), (0, 0), (0, (((c + 1 : Nat) : Nat) : Int) - 1)] (pushR r [(0, (((c + 1 : Nat) : Nat) : Int) - 1), (2, 97)]) sh1 sl1 h1 Q)) := fun x1 x3 nk => by
            rw [if_neg nk] at eR
            refine mMustF X2 H2 rfl (fun h3 B3 P3 g20 g23 => ?_)
            have X3 : Fix sh h3 := B3.1.fix X2 (by decide +kernel)
            simp only [pushR9]
            rw [B_213_36 X3]
            simp only [pushR0]
            rw [B_208_153 X3, w32_nat (a := ((c + 1 : Nat) : Int) - 1) (n := c) (by omega) (by omega), Int.toNat_natCast]
            refine ⟨⟨by omega, by omega⟩, q0 _ _ eR ⟨(((E2.1.mono rfl).trans B3.1).setP rfl), by rw [setH_o (by decide)]; exact B3.2.1, by rw [setH_o (by decide)]; exact B3.2.2.1, pl, c + 1, ?_⟩⟩
            obtain ⟨g1, g2, g3, g4, g5⟩ := P3
            exact ⟨by rw [setH_o (by decide)]; exact g1, by rw [setH_o (by decide)]; exact g2, by rw [setH_o (by decide), setH_o (by decide)]; exact g3, g4, g5⟩
          rw [B_213_0 X2, R2.2.2.2.1, R2.2.2.2.2, w32_id (a := ((kdT T n (enT T n p) : Nat) : Int)) (by omega) (by omega)]
          refine ite_i (fun k3 => no _ _ (fun q => k3 (by omega))) (fun k3 => ?_)
          have k2n : kdT T n (enT T n p) = 2 := by omega
          have ne := num_eq hp2 k2n
          rw [sp_in ⟨by omega, by omega⟩ ⟨by decide, by decide⟩ ⟨by omega, by omega⟩]
          simp only [pushR0]
          rw [B_213_25 X2]
          by_cases inr : 0 ≤ wtT T n (enT T n p) ∧ wtT T n (enT T n p) ≤ hi
          · rw [if_pos ⟨k2n, by omega⟩] at eR
            have kn := kd_ne (T := T) (n := n) hp2 (by omega)
            rw [if_pos inr, show w32 1 = 1 from rfl, if_neg (by decide)]
            refine mMustT X2 H2 rfl (fun h3 F3 H3 => ?_)
            have X3 : Fix sh h3 := F3.fix X2 (by decide +kernel)
            simp only [pushR9]
            rw [B_213_36 X3]
            simp only [pushR0]
            rw [B_208_153 X3, w32_nat (a := ((c + 1 : Nat) : Int) - 1) (n := c) (by omega) (by omega), Int.toNat_natCast]
            refine ⟨⟨by omega, by omega⟩, q1 _ _ _ _ _ eR ?_ ?_ ?_⟩
            · refine (E2.trans (MX.nx (c := c) F3) (Nat.le_refl c)).trans (c1 := c) ⟨(Fr.refl h3).setP rfl, fun i hi => ⟨by rw [setH_o (by decide)], by rw [setH_k (by omega)]⟩, fun k => k.s97 (by omega)⟩ (Nat.le_refl c)
            · obtain ⟨a1, P', R0, b1, b2, b3, b4, g1, g2, g3, g4, g5⟩ := H3
              refine ⟨a1, ⟨P'.1, fun i hi => by rw [setH_o (by decide)]; exact P'.2 i hi⟩, ?_, by rw [setH_o (by decide)]; exact b1, by rw [setH_o (by decide)]; exact b2, by rw [setH_o (by decide)]; exact b3, by rw [setH_o (by decide)]; exact b4, by rw [setH_o (by decide)]; exact g1, by rw [setH_o (by decide)]; exact g2, by rw [setH_o (by decide), setH_o (by decide)]; exact g3, g4, g5⟩
              unfold RdM; rw [setH_o (by decide)]; exact R0
            · have wt : wtp od = 7 := by unfold wtp; rw [if_pos ho]
              refine seM_wrd (o := its) (x := wtT T n (enT T n p)) ?_ (setH_self _ _ _ _) ⟨by omega, by omega, by omega⟩ ?_ ?_
              · rw [setH_o (by decide), F3.row 96 rfl]; exact k1
              · by_cases i7 : its = 7
                · omega
                · have := z3 i7
                  omega
              · have := z4 (wtT T n (enT T n p)).toNat
                rw [show (((wtT T n (enT T n p)).toNat : Nat) : Int) = wtT T n (enT T n p) by omega] at this
                rw [this, show (nmT T n (enT T n p)).toNat = (wtT T n (enT T n p)).toNat by omega]
          · rw [if_neg inr, w32_0, if_pos rfl]
            exact no _ _ (fun q => inr ⟨by omega, by omega⟩)
        simp only [pushR9]
        rw [B_208_102 X2, E2.1.at 85 20 rfl, e20, ho, show (if (true : Bool) = true then (1 : Int) else 0) = 1 from rfl, show w32 1 = 1 from rfl, if_neg (by decide), w32_id (a := its) (by omega) (by omega), if_neg (by omega), H2.2.2.2.1, w32_0, if_neg (by simp), e23]
        refine ite_i (fun z7 => num 2 (by rw [z3 z7]; rfl)) (fun z7 => num 9 (by rw [z2 (by omega)]; rfl))
    rw [B_208_35 X, R.2.2.2.1, R.2.2.2.2, w32_id (a := ((kdT T n p : Nat) : Int)) (by omega) (by omega), w64_id (a := wtT T n p) (by omega) (by omega)]
    refine ite_i (fun k3 => wrd (fun q => k3 (by omega))) (fun k3 => ?_)
    have k2 : kdT T n p = 2 := by omega
    have ne := num_eq hp k2
    refine ite_i (fun k4 => wrd (by omega)) (fun k4 => ite_i (fun _ => dig k2 (by omega)) (fun _ => dig k2 (by omega)))
  rw [B_208_0 X]
  refine sp_isSign (c := 91) X hp P R (by decide) (by decide) ?_
  rw [if_neg (by rw [s]; decide)]
  simp only [pushR0]
  rw [B_208_6 X, w32_0, if_pos rfl, e20]
  cases od with
  | false =>
    rw [show (if (false : Bool) = true then (1 : Int) else 0) = 0 from rfl, w32_0, if_pos rfl, B_210_0 X]
    refine lp_pt210 X hp P R ?_ 8 0 _ _ (by omega) rfl rfl
    simp only [pushR0]
    refine core _ ?_
    have ew : wrdR T n false p = wLaw T n p := by unfold wrdR; rw [if_neg (by decide)]
    rw [ew]
    rcases ptF_law (T := T) (n := n) (p := p) with ⟨a1, a2⟩ | ⟨w, a1, a2, a3⟩
    · exact Or.inl ⟨a1, a2⟩
    · refine Or.inr (Or.inl ⟨w, a2, ?_, fun q => (by cases q), ?_⟩)
      · rw [a3, show wtp false = 8 from rfl]; omega
      · rw [a3]; show ((w + 1 : Nat) : Int).toNat - 1 = w; omega
  | true =>
    rw [show (if (true : Bool) = true then (1 : Int) else 0) = 1 from rfl, show w32 1 = 1 from rfl, if_neg (by decide), B_209_0 X]
    refine lp_pt209 X hp P R ?_ 7 0 _ _ (by omega) rfl rfl
    simp only [pushR0]
    rw [B_208_28 X]
    refine core _ ?_
    have ew : wrdR T n true p = wOrd T n p := by unfold wrdR; rw [if_pos rfl]
    rw [ew]
    rcases ptF_ord (T := T) (n := n) (p := p) with ⟨a1, a2⟩ | ⟨w, a1, a2, a3⟩ | ⟨a1, a2⟩ | ⟨a1, a2⟩ | ⟨a1, a2⟩
    · exact Or.inl ⟨a1, a2⟩
    · refine Or.inr (Or.inl ⟨w, a2, ?_, fun _ => by omega, ?_⟩)
      · rw [a3, show wtp true = 7 from rfl]; omega
      · rw [a3]; unfold wxF; rw [if_pos rfl, if_pos (by omega)]; omega
    · exact Or.inr (Or.inr ⟨rfl, 4, 2, a1, by omega, fun q => by omega, fun _ => rfl, fun a => by rw [a2]; unfold wxF; rw [if_pos rfl, if_neg (by decide), if_pos rfl]; omega⟩)
    · exact Or.inr (Or.inr ⟨rfl, 7, 2, a1, by omega, fun q => by omega, fun _ => rfl, fun a => by rw [a2]; unfold wxF; rw [if_pos rfl, if_neg (by decide), if_neg (by decide), if_pos rfl]; omega⟩)
    · exact Or.inr (Or.inr ⟨rfl, 10, 9, a1, by omega, fun _ => rfl, fun q => by omega, fun a => by rw [a2]; unfold wxF; rw [if_pos rfl, if_neg (by decide), if_neg (by decide), if_neg (by decide)]; omega⟩)
end MREAD3
