/-! ===== the reference's reckonAll: runs its code ===== -/
abbrev RkP : List Nat := [105]
abbrev RkS : List (Nat × Nat) := [(85, 38), (85, 39)]
section RECKON
variable {sc : Nat × (Nat → Int)} {d : Nat} {sh : Shp} {sl : Nat} {h : Sto} {Q : Pst}
theorem sp_reckon {op a b : Int} (X : Fix sh h) (hb0 : h 85 38 = 0) (ha : I32 a) (hb : I32 b) (ho : 20 ≤ op ∧ op ≤ 27) (hq : ∀ h' v, Fr [] [(85, 38)] h h' → (if b = 0 ∧ (op = 23 ∨ op = 24) then h' 85 38 = 1 ∧ v = 0 else h' 85 38 = 0 ∧ v = jn (op - 15) a b) → Q (1, v) sh sl h') : WM sc (d + 1) 176 [(2, 85), (0, op), (1, a), (1, b)] sh sl h Q := by
  have wa : w64 a = a := ha.l.w
  have wb : w64 b = b := hb.l.w
  have wo : w32 op = op := w32_id (by omega) (by omega)
  rw [B_176_0 X, wo, wa, wb]
  simp only [B_176_72 X, B_176_104 X, B_176_135 X, B_176_148 X, B_176_161 X, wa, wb, w32_0, show w32 1 = 1 from rfl]
  rcases (show op = 20 ∨ op = 21 ∨ op = 22 ∨ op = 23 ∨ op = 24 ∨ op = 25 ∨ op = 26 ∨ op = 27 by omega) with e | e | e | e | e | e | e | e
  · subst e; simp; exact hq h _ (Fr.refl h) (by simp [hb0, jn])
  · subst e; simp; exact hq h _ (Fr.refl h) (by simp [hb0, jn])
  · subst e; simp; exact hq h _ (Fr.refl h) (by simp [hb0, jn])
  · subst e; simp
    by_cases hz : b = 0
    · simp [hz]; exact hq _ _ ((Fr.refl h).set rfl) (by simp [hz, setH_self])
    · simp [hz]; exact hq _ _ ((Fr.refl h).set rfl) (by simp [hz, setH_self, jn])
  · subst e; simp
    by_cases hz : b = 0
    · simp [hz]; exact hq _ _ ((Fr.refl h).set rfl) (by simp [hz, setH_self])
    · simp [hz]; exact hq _ _ ((Fr.refl h).set rfl) (by simp [hz, setH_self, jn])
  · subst e; simp
    split
    · exact hq h _ (Fr.refl h) (by simp [hb0, jn]; omega)
    · exact hq h _ (Fr.refl h) (by simp [hb0, jn]; omega)
  · subst e; simp
    split
    · exact hq h _ (Fr.refl h) (by simp [hb0, jn]; omega)
    · exact hq h _ (Fr.refl h) (by simp [hb0, jn]; omega)
  · subst e; simp
    split
    · exact hq h _ (Fr.refl h) (by simp [hb0, jn, *])
    · exact hq h _ (Fr.refl h) (by simp [hb0, jn, *])
theorem jn_bd {w a b : Int} (hw : 5 ≤ w ∧ w ≤ 12) (ha : I32 a) (hb : I32 b) (hz : ¬ (b = 0 ∧ (w = 8 ∨ w = 9))) : I64 (jn w a b) := by
  obtain ⟨a1, a2⟩ := ha
  obtain ⟨b1, b2⟩ := hb
  have hm := mul_bd a1 a2 b1 b2
  have h1 := tmod_bd (a := a) (b := b) a1 a2
  unfold jn I64
  rcases (show w = 5 ∨ w = 6 ∨ w = 7 ∨ w = 8 ∨ w = 9 ∨ w = 10 ∨ w = 11 ∨ w = 12 by omega) with e | e | e | e | e | e | e | e
  · subst e; simp; omega
  · subst e; simp; omega
  · subst e; simp; omega
  · subst e; simp
    have := tdiv_bd (a := a) (b := b) (by omega) a1 a2
    omega
  · subst e; simp; omega
  · subst e; simp; split <;> omega
  · subst e; simp; split <;> omega
  · subst e; simp; split <;> omega
theorem lp_reckon {op ar : Nat → Int} {lk : Int → Int → Int} {W last : Nat} {x1 : Int} (X : Fix sh h) (hW : W < 20) (hlast : last ≤ 400)
    (hop : ∀ k, k < last → I32 (op k)) (har : ∀ k, k < last → 0 ≤ ar k ∧ ar k < 2147483648) (hlk : ∀ o a, I32 (lk o a))
    (hfe : ∀ (h' : Sto) (x3 : Int) (k : Nat) (j5 j6 : V), Fr RkP RkS h h' → h' 85 38 = 0 → k < last → WF sc (d + 3) 175 95 [(2, 85), (0, x1), (0, (last : Int)), (0, x3), (0, (k : Int)), (0, op k), j6] [(0, ar k)] sh sl h' Q → WF sc (d + 3) 175 10 [(2, 85), (0, x1), (0, (last : Int)), (0, x3), (0, (k : Int)), j5, j6] [] sh sl h' Q)
    (hlf : ∀ (h' : Sto) (x3 x4 : Int) (k : Nat) (j6 : V), Fr RkP RkS h h' → k < last → 1 ≤ op k → op k ≤ W → (W ≠ 7 ∨ op k < 5 ∨ 6 < op k ∨ ar k < 3) → WF sc (d + 3) 175 211 [(2, 85), (0, x1), (0, (last : Int)), (0, x3), (0, x4 + 1), (0, op k), (0, ar k)] [(1, lk (op k) (ar k)), (0, x3), (2, 105)] sh sl h' Q → WF sc (d + 3) 175 95 [(2, 85), (0, x1), (0, (last : Int)), (0, x3), (0, x4), (0, op k), j6] [(0, ar k)] sh sl h' Q)
    (r : Option Int) (hq : ∀ h', Fr RkP RkS h h' → h' 85 38 = (if r = none then 1 else 0) → (∀ v, r = some v → h' 85 39 = v) → Q (9, 0) sh sl h') :
    ∀ (fuel k : Nat) (stk : List Int) (h' : Sto) (T P : Int) (j5 j6 : V), rkF op ar lk W last fuel k stk = some r → T = stk.length → P = k → (k : Int) < 2147483648 → StkR (h' 105) stk → stk.length ≤ 400 → (∀ v ∈ stk, I32 v) → Fr RkP RkS h h' → h' 85 38 = 0 →
      WF sc (d + 3) 175 10 [(2, 85), (0, x1), (0, (last : Int)), (0, T), (0, P), j5, j6] [] sh sl h' Q := by
  intro fuel
  induction fuel with
  | zero => intro k stk h' T P j5 j6 hr; cases hr
  | succ fuel ih =>
    intro k stk h' T P j5 j6 hr hT hP hk hs hl hv hF hb
    subst hT hP
    have X' : Fix sh h' := hF.fix X (by decide +kernel)
    simp only [rkF] at hr
    by_cases hkl : k < last
    · rw [if_neg (by simpa using hkl)] at hr
      have ho := hop k hkl
      have ha := har k hkl
      have wo : w32 (op k) = op k := ho.w
      have hpush : ∀ (x : Int) (rs : List Int), StkR (h' 105) rs → StkR (setH h' 105 rs.length x 105) (x :: rs) := fun x rs hr => ⟨setH_self _ _ _ _, hr.of (fun i hi => setH_other (Or.inr (by omega)))⟩
      refine hfe h' _ k j5 j6 hF hb hkl ?_
      split at hr
      · cases hr
      · rename_i h0
        split at hr
        · rename_i h20
          split at hr
          · cases hr
          · rename_i hlw
            have hfin : ∀ v : Int, I32 v → rkF op ar lk W last fuel (k + 1) (v :: stk) = some r → WF sc (d + 3) 175 211 [(2, 85), (0, x1), (0, (last : Int)), (0, (stk.length : Int)), (0, (k : Int) + 1), (0, op k), (0, ar k)] [(1, v), (0, (stk.length : Int)), (2, 105)] sh sl h' Q := by
              intro v hv1 hr1
              rw [B_175_211 X', B_175_357 (X'.a (by decide +kernel)), w32_id (a := (stk.length : Int)) (by omega) (by omega), Int.toNat_natCast]
              refine ⟨⟨by omega, by omega⟩, ih (k + 1) (v :: stk) _ _ _ _ _ hr1 (by simp) (by simp) (by omega) (hpush _ _ hs) (by simp; omega) ?_ (hF.setP rfl) (by rw [setH_o (by decide)]; exact hb)⟩
              intro u hu
              rcases List.mem_cons.mp hu with rfl | hm
              · exact hv1
              · exact hv u hm
            by_cases hz : op k = 0
            · rw [B_175_95 X', wo, if_neg (by omega), if_neg (by omega)]
              rw [if_pos hz] at hr
              have : w32 (ar k) = ar k := w32_id (by omega) (by omega)
              rw [this]
              exact hfin _ ⟨by omega, by omega⟩ hr
            · rw [if_neg hz] at hr
              exact hlf h' _ _ k j6 hF hkl (by omega) (by omega) (by omega) (hfin _ (hlk _ _) hr)
        · rename_i h20
          split at hr
          · rename_i h28
            match stk, hs, hl, hv, hr with
            | [], _, _, _, hr => cases hr
            | [_], _, _, _, hr => cases hr
            | b :: a :: rs, hs, hl, hv, hr =>
              simp only at hr
              have hb1 := hv b (by simp)
              have ha1 := hv a (by simp)
              have ht1 : h' 105 (rs.length + 1) = b := hs.1
              have ht2 : h' 105 rs.length = a := hs.2.1
              have hl2 : rs.length + 2 ≤ 400 := by simpa using hl
              rw [B_175_95 X', wo, if_pos (by omega), if_neg (by omega)]
              have q1 : w32 (((b :: a :: rs).length : Nat) + (-1) - 1 : Int) = rs.length := by rw [w32_id] <;> simp <;> omega
              have q2 : w32 (((b :: a :: rs).length : Nat) + (-1) : Int) = (rs.length : Int) + 1 := by rw [w32_id] <;> simp <;> omega
              have q3 : ((rs.length : Int) + 1).toNat = rs.length + 1 := by omega
              rw [q1, q2, q3, Int.toNat_natCast, ht1, ht2]
              refine ⟨⟨by omega, by omega⟩, ⟨by omega, by omega⟩, ?_⟩
              refine sp_reckon X' hb ha1 hb1 ⟨by omega, by omega⟩ ?_
              intro h2 v hF2 hc
              have X2 : Fix sh h2 := hF2.fix X' (by decide +kernel)
              have hF2' : Fr RkP RkS h h2 := hF.trans (hF2.mono rfl)
              have e105 : h2 105 = h' 105 := hF2.row 105 rfl
              simp only [pushR1]
              rw [B_175_255 X2, q1, Int.toNat_natCast]
              refine ⟨⟨by omega, by omega⟩, ?_⟩
              by_cases hbz : b = 0 ∧ (op k = 23 ∨ op k = 24)
              · rw [if_pos hbz] at hc hr
                cases hr
                rw [hc.1, if_pos (by decide), B_175_357 (((X2.a (by decide +kernel))).s (by decide +kernel)), B_175_10 (((X2.a (by decide +kernel))).s (by decide +kernel))]
                have hend : ∀ x, Q (9, 0) sh sl (setH (setH (setH h2 105 rs.length v) 85 38 1) 85 39 x) := fun x => hq _ (((hF2'.setP rfl).set rfl).set rfl) (by rw [setH_k (by decide), setH_self]; rfl) (fun v hv => by cases hv)
                rw [setH_self]
                simp only [show w32 1 = 1 from rfl, hend, ite_self, if_true, show ¬ ((1 : Int) = 0) by decide, not_false_eq_true]
              · rw [if_neg hbz] at hc hr
                have hj := jn_bd (w := op k - 15) ⟨by omega, by omega⟩ ha1 hb1 (by omega)
                rw [hc.1, if_neg (by decide)]
                rw [setH_self, hc.2]
                refine ⟨⟨by omega, by omega⟩, ?_⟩
                rw [sp_in hj ⟨by decide, by decide⟩ ⟨by decide, by decide⟩]
                simp only [pushR0]
                have X3 : Fix sh (setH h2 105 rs.length (jn (op k - 15) a b)) := X2.a (by decide +kernel)
                rw [B_175_281 X3]
                by_cases hr1 : 1000000000 < jn (op k - 15) a b ∨ jn (op k - 15) a b < -1000000000
                · rw [if_pos hr1] at hr
                  cases hr
                  have X4 : Fix sh (setH (setH h2 105 rs.length (jn (op k - 15) a b)) 85 38 1) := X3.s (by decide +kernel)
                  rw [show (if -1000000000 ≤ jn (op k - 15) a b ∧ jn (op k - 15) a b ≤ 1000000000 then (1 : Int) else 0) = 0 from if_neg (by omega), show w32 0 = 0 from rfl, if_neg (by simp), B_175_357 X4, B_175_10 X4]
                  have hend : ∀ x, Q (9, 0) sh sl (setH (setH (setH h2 105 rs.length (jn (op k - 15) a b)) 85 38 1) 85 39 x) := fun x => hq _ (((hF2'.setP rfl).set rfl).set rfl) (by rw [setH_k (by decide), setH_self]; rfl) (fun v hv => by cases hv)
                  rw [setH_self]
                  simp only [show w32 1 = 1 from rfl, hend, ite_self, if_true, show ¬ ((1 : Int) = 0) by decide, not_false_eq_true]
                · rw [if_neg hr1] at hr
                  have X4 : Fix sh (setH (setH h2 105 rs.length (jn (op k - 15) a b)) 85 38 0) := X3.s (by decide +kernel)
                  rw [show (if -1000000000 ≤ jn (op k - 15) a b ∧ jn (op k - 15) a b ≤ 1000000000 then (1 : Int) else 0) = 1 from if_pos (by omega), show w32 1 = 1 from rfl, if_pos (by decide), B_175_357 X4]
                  refine ih (k + 1) (jn (op k - 15) a b :: rs) _ _ _ _ _ hr (by simp; omega) (by simp) (by omega) ?_ (by simp; omega) ?_ ((hF2'.setP rfl).set rfl) (setH_self _ _ _ _)
                  · rw [setH_o (by decide)]
                    refine ⟨setH_self _ _ _ _, hs.2.2.of (fun i hi => ?_)⟩
                    rw [setH_k (by omega), e105]
                  · intro u hu
                    rcases List.mem_cons.mp hu with rfl | hm
                    · exact ⟨by omega, by omega⟩
                    · exact hv u (List.mem_cons_of_mem _ (List.mem_cons_of_mem _ hm))
          · rename_i h28
            split at hr
            · rename_i he
              match stk, hs, hl, hv, hr with
              | [], _, _, _, hr => cases hr
              | v :: rs, hs, hl, hv, hr =>
                simp only at hr
                have hv1 := hv v (by simp)
                have ht1 : h' 105 rs.length = v := hs.1
                have hl2 : rs.length + 1 ≤ 400 := by simpa using hl
                have q1 : w32 (((v :: rs).length : Nat) - 1 : Int) = rs.length := by rw [w32_id] <;> simp <;> omega
                by_cases hv01 : v = 0 ∨ v = 1
                case neg => rw [if_neg hv01] at hr; cases hr
                rw [if_pos hv01] at hr
                rw [B_175_95 X', wo, if_pos (by omega), if_pos (by omega), if_neg (by omega), q1, Int.toNat_natCast, ht1]
                refine ⟨⟨by omega, by omega⟩, ⟨by omega, by omega⟩, ?_⟩
                rw [B_175_357 (X'.a (by decide +kernel))]
                refine ih (k + 1) ((1 - v) :: rs) _ _ _ _ _ hr (by simp) (by simp) (by omega) (hpush _ _ hs.2) (by simpa using hl) ?_ (hF.setP rfl) (by rw [setH_o (by decide)]; exact hb)
                intro u hu
                rcases List.mem_cons.mp hu with rfl | hm
                · exact ⟨by omega, by omega⟩
                · exact hv u (List.mem_cons_of_mem _ hm)
            · rename_i he
              match stk, hs, hl, hv, hr with
              | [], _, _, _, hr => cases hr
              | v :: rs, hs, hl, hv, hr =>
                simp only at hr
                have hv1 := hv v (by simp)
                have ht1 : h' 105 rs.length = v := hs.1
                have hl2 : rs.length + 1 ≤ 400 := by simpa using hl
                have q1 : w32 (((v :: rs).length : Nat) - 1 : Int) = rs.length := by rw [w32_id] <;> simp <;> omega
                have wv : w64 v = v := hv1.l.w
                rw [B_175_95 X', wo, if_pos (by omega), if_pos (by omega), if_pos he, q1, Int.toNat_natCast, ht1]
                refine ⟨⟨by omega, by omega⟩, ?_⟩
                have hvr : ∀ u ∈ rs, I32 u := fun u hu => hv u (List.mem_cons_of_mem _ hu)
                by_cases h29 : op k = 29
                · rw [if_neg (by omega), B_175_343 X', wv, w64_0]
                  rw [if_pos h29] at hr
                  by_cases hz : v = 0
                  · rw [if_pos hz] at hr
                    rw [if_neg (by omega), B_175_357 X']
                    exact ih (ar k).toNat (v :: rs) h' _ _ _ _ hr rfl (by omega) (by omega) hs hl hv hF hb
                  · rw [if_neg hz] at hr
                    rw [if_pos hz, B_175_357 X']
                    exact ih (k + 1) rs h' _ _ _ _ hr (by simp; omega) (by simp) (by omega) hs.2 (by omega) hvr hF hb
                · rw [if_pos (by omega), B_175_343 X', wv, show w64 1 = 1 from rfl]
                  rw [if_neg h29] at hr
                  by_cases hz : v = 1
                  · rw [if_pos hz] at hr
                    rw [if_neg (by omega), B_175_357 X']
                    exact ih (ar k).toNat (v :: rs) h' _ _ _ _ hr rfl (by omega) (by omega) hs hl hv hF hb
                  · rw [if_neg hz] at hr
                    rw [if_pos hz, B_175_357 X']
                    exact ih (k + 1) rs h' _ _ _ _ hr (by simp; omega) (by simp) (by omega) hs.2 (by omega) hvr hF hb
    · rw [if_pos (by simpa using hkl)] at hr
      match stk, hs, hr with
      | [], _, hr => cases hr
      | [v], hs, hr =>
        cases hr
        rw [B_175_10 X', w32_id (a := (last : Int)) (by omega) (by omega), w32_id (a := (k : Int)) (by omega) (by omega), if_pos (by omega), w32_id (a := (([v] : List Int).length : Int)) (by simp) (by simp), if_neg (by simp), show h' 105 0 = v from hs.1]
        exact hq _ (hF.set rfl) (by rw [setH_k (by decide)]; exact hb) (fun u hu => by cases hu; rw [setH_self])
      | _ :: _ :: _, _, hr => cases hr
end RECKON
