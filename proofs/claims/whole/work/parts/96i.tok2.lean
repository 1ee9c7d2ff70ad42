/-! ===== tokens of the reference ===== -/
theorem rnF_stop {T : Nat → Int} {k n : Nat} : ∀ r q, q + r = n → rnF T k r q < n → ckd (T (rnF T k r q)) ≠ k := by
  intro r
  induction r with
  | zero => intro q h1 h2; simp only [rnF] at h2; omega
  | succ r ih =>
    intro q h1 h2
    simp only [rnF] at h2 ⊢
    split at h2
    · rename_i hc; rw [if_pos hc]; exact ih (q + 1) (by omega) h2
    · rename_i hc; rw [if_neg hc]; exact hc
theorem enT_stop {T : Nat → Int} {n p : Nat} (hp : p ≤ n) (hk : kdT T n p = 1 ∨ kdT T n p = 2) (he : enT T n p < n) : ckd (T (enT T n p)) ≠ kdT T n p := by
  have s1 : stT T n p < n := by
    have := kdT_b (T := T) (n := n) (p := p); omega
  have en : enT T n p = rnF T (kdT T n p) (n - stT T n p) (stT T n p) := by unfold enT; rw [if_pos s1, if_neg (by omega)]
  have := rnF_stop (T := T) (n := n) (k := kdT T n p) (n - stT T n p) (stT T n p) (by omega) (by rw [← en]; exact he)
  rw [← en] at this
  exact this
section TOKM
variable {sc : Nat × (Nat → Int)} {d : Nat} {sh : Shp} {sl : Nat} {h : Sto} {Q : Pst} {T : Nat → Int} {n : Nat}
abbrev NmS : List (Nat × Nat) := [(85, 14), (85, 15), (85, 16), (85, 17)]
theorem sp_small {c : Int} (X : Fix sh h) (hc : 0 ≤ c ∧ c < 256) (hq : Q (0, if ckd c = 1 then 1 else 0) sh sl h) : WM sc (d + 1) 198 [(0, c)] sh sl h Q := by
  rw [B_198_0 X, w32_id (a := c) (by omega) (by omega)]
  by_cases h1 : ckd c = 1
  · rw [if_pos h1] at hq
    have := ckd1.mp h1
    rw [if_neg (by omega), if_neg (by omega)]; exact hq
  · rw [if_neg h1] at hq
    have : ¬ (97 ≤ c ∧ c ≤ 122) := fun q => h1 (ckd1.mpr q)
    by_cases h2 : c < 97
    · rw [if_pos h2]; exact hq
    · rw [if_neg h2, if_pos (by omega)]; exact hq
theorem sp_digit {c : Int} (X : Fix sh h) (hc : 0 ≤ c ∧ c < 256) (hq : Q (0, if ckd c = 2 then 1 else 0) sh sl h) : WM sc (d + 1) 199 [(0, c)] sh sl h Q := by
  rw [B_199_0 X, w32_id (a := c) (by omega) (by omega)]
  by_cases h1 : ckd c = 2
  · rw [if_pos h1] at hq
    have := ckd2.mp h1
    rw [if_neg (by omega), if_neg (by omega)]; exact hq
  · rw [if_neg h1] at hq
    have : ¬ (48 ≤ c ∧ c ≤ 57) := fun q => h1 (ckd2.mpr q)
    by_cases h2 : c < 48
    · rw [if_pos h2]; exact hq
    · rw [if_neg h2, if_pos (by omega)]; exact hq
theorem lp_dig {p : Nat} (X : Fix sh h) (hp : p ≤ n) (P : TpM T n h) (e13 : h 85 13 = (n : Int)) (e14 : h 85 14 = (stT T n p : Int)) (e16 : h 85 16 = (kdT T n p : Int)) (hq : ∀ h', Fr [] [(85, 15), (85, 17)] h h' → RdM T n p h' → Q (9, 0) sh sl h') : ∀ (rem e : Nat) (h' : Sto), e + rem = enT T n p → stT T n p ≤ e → Fr [] [(85, 15), (85, 17)] h h' → h' 85 15 = (e : Int) → (kdT T n p = 2 → h' 85 17 = dwF T (stT T n p) (e - stT T n p)) → (kdT T n p ≠ 2 → e = enT T n p ∧ h' 85 17 = wtT T n p) → WF sc (d + 2) 197 243 [(2, 85)] [] sh sl h' Q := by
  have hn := P.1
  have sb := stT_b (T := T) hp
  have eb := enT_b (T := T) hp
  have kb := kdT_b (T := T) (n := n) (p := p)
  intro rem
  induction rem with
  | zero =>
    intro e h' he hs F e15 e17 e17'
    have X' : Fix sh h' := F.fix X (by decide +kernel)
    have hee : e = enT T n p := by omega
    rw [B_197_243 X', F.at 85 16 rfl, e16, w32_id (a := ((kdT T n p : Nat) : Int)) (by omega) (by omega)]
    by_cases k2 : kdT T n p = 2
    case neg =>
      rw [if_pos (by omega)]
      exact hq h' F ⟨by rw [F.at 85 13 rfl]; exact e13, by rw [F.at 85 14 rfl]; exact e14, by rw [e15, hee], by rw [F.at 85 16 rfl]; exact e16, (e17' k2).2⟩
    have fin : RdM T n p h' := ⟨by rw [F.at 85 13 rfl]; exact e13, by rw [F.at 85 14 rfl]; exact e14, by rw [e15, hee], by rw [F.at 85 16 rfl]; exact e16, by rw [e17 k2, hee]; unfold wtT; rw [if_neg (by omega), if_neg (by omega), if_pos k2]⟩
    rw [if_neg (by omega), F.at 85 13 rfl, e13, e15, w32_id (a := (n : Int)) (by omega) (by omega), w32_id (a := (e : Int)) (by omega) (by omega)]
    by_cases c : (n : Int) ≤ e
    · rw [if_pos c]; exact hq h' F fin
    · have t := P.2 e (by omega)
      have st := enT_stop (T := T) hp (Or.inr k2) (by omega)
      rw [← hee] at st
      rw [if_neg c, Int.toNat_natCast, F.row 94 rfl, t.2]
      refine ⟨⟨by omega, by omega⟩, sp_digit X' t.1 ?_⟩
      rw [if_neg (by omega)]
      simp only [pushR0]
      rw [B_197_274 X', w32_0, if_pos rfl]
      exact hq h' F fin
  | succ rem ih =>
    intro e h' he hs F e15 e17 e17'
    have X' : Fix sh h' := F.fix X (by decide +kernel)
    have k2 : kdT T n p = 2 := by
      by_cases k2 : kdT T n p = 2
      · exact k2
      · have := (e17' k2).1; omega
    have hin := enT_in (T := T) hp hs (show e < enT T n p by omega)
    have t := P.2 e (by omega)
    have dg : ∀ j, j < e - stT T n p → 48 ≤ T (stT T n p + j) ∧ T (stT T n p + j) ≤ 57 := fun j hj => by
      have := enT_in (T := T) hp (show stT T n p ≤ stT T n p + j by omega) (show stT T n p + j < enT T n p by omega)
      rw [k2] at this; exact ckd2.mp this
    have db := dwF_b (e - stT T n p) dg
    rw [B_197_243 X', F.at 85 16 rfl, e16, w32_id (a := ((kdT T n p : Nat) : Int)) (by omega) (by omega), if_neg (by omega), F.at 85 13 rfl, e13, e15, w32_id (a := (n : Int)) (by omega) (by omega), w32_id (a := (e : Int)) (by omega) (by omega), if_neg (by omega), Int.toNat_natCast, F.row 94 rfl, t.2]
    refine ⟨⟨by omega, by omega⟩, sp_digit X' t.1 ?_⟩
    rw [if_pos (hin.trans k2)]
    simp only [pushR0]
    rw [B_197_274 X', show w32 1 = 1 from rfl, if_neg (by decide), e15, e17 k2, w64_id (a := dwF T (stT T n p) (e - stT T n p)) (by omega) (by omega), w32_id (a := (e : Int)) (by omega) (by omega), Int.toNat_natCast, F.row 94 rfl, t.2, w32_id (a := T e) (by omega) (by omega)]
    have es : dwF T (stT T n p) (e + 1 - stT T n p) = if dwF T (stT T n p) (e - stT T n p) ≤ 1000000 then dwF T (stT T n p) (e - stT T n p) * 10 + T e - 48 else dwF T (stT T n p) (e - stT T n p) := by
      rw [show e + 1 - stT T n p = (e - stT T n p) + 1 by omega]
      simp only [dwF]
      rw [show stT T n p + (e - stT T n p) = e by omega]
    by_cases c : dwF T (stT T n p) (e - stT T n p) ≤ 1000000
    · rw [if_pos c] at es ⊢
      refine ⟨⟨by omega, by omega⟩, ih (e + 1) _ (by omega) (by omega) ((F.set rfl).set rfl) (by rw [setH_self]; omega) (fun _ => ?_) (fun q => absurd k2 q)⟩
      rw [setH_k (by decide), setH_self, es]
    · rw [if_neg c] at es ⊢
      refine ih (e + 1) _ (by omega) (by omega) ((F.set rfl).set rfl) (by rw [setH_self]; omega) (fun _ => ?_) (fun q => absurd k2 q)
      rw [setH_k (by decide), setH_self, es]
theorem lp_wrd {p : Nat} (X : Fix sh h) (hp : p ≤ n) (P : TpM T n h) (e13 : h 85 13 = (n : Int)) (e14 : h 85 14 = (stT T n p : Int)) (e16 : h 85 16 = (kdT T n p : Int)) (hq : ∀ h', Fr [] [(85, 15), (85, 17)] h h' → RdM T n p h' → Q (9, 0) sh sl h') : ∀ (rem e : Nat) (h' : Sto), e + rem = enT T n p → stT T n p ≤ e → Fr [] [(85, 15), (85, 17)] h h' → h' 85 15 = (e : Int) → (kdT T n p = 1 → h' 85 17 = wwF T (stT T n p) (e - stT T n p)) → (kdT T n p = 2 → e = stT T n p ∧ h' 85 17 = 0) → (kdT T n p ≠ 1 → kdT T n p ≠ 2 → e = enT T n p ∧ h' 85 17 = wtT T n p) → WF sc (d + 2) 197 149 [(2, 85)] [] sh sl h' Q := by
  have hn := P.1
  have sb := stT_b (T := T) hp
  have eb := enT_b (T := T) hp
  have kb := kdT_b (T := T) (n := n) (p := p)
  have dg : ∀ (e : Nat) (h' : Sto), stT T n p ≤ e → e ≤ enT T n p → Fr [] [(85, 15), (85, 17)] h h' → h' 85 15 = (e : Int) → (kdT T n p = 2 → h' 85 17 = dwF T (stT T n p) (e - stT T n p)) → (kdT T n p ≠ 2 → e = enT T n p ∧ h' 85 17 = wtT T n p) → WF sc (d + 2) 197 243 [(2, 85)] [] sh sl h' Q := fun e h' h1 h2 F e15 a b =>
    lp_dig X hp P e13 e14 e16 hq (enT T n p - e) e h' (by omega) h1 F e15 a b
  intro rem
  induction rem with
  | zero =>
    intro e h' he hs F e15 a1 a2 a3
    have X' : Fix sh h' := F.fix X (by decide +kernel)
    have hee : e = enT T n p := by omega
    rw [B_197_149 X', F.at 85 16 rfl, e16, w32_id (a := ((kdT T n p : Nat) : Int)) (by omega) (by omega)]
    by_cases k1 : kdT T n p = 1
    case neg =>
      rw [if_pos (by omega)]
      refine dg e h' hs (by omega) F e15 (fun k2 => ?_) (fun k2 => a3 k1 k2)
      have := a2 k2
      rw [this.2, this.1, Nat.sub_self]; rfl
    have w1 : h' 85 17 = wtT T n p := by rw [a1 k1, hee]; unfold wtT; rw [if_neg (by omega), if_pos k1]
    rw [if_neg (by omega), F.at 85 13 rfl, e13, e15, w32_id (a := (n : Int)) (by omega) (by omega), w32_id (a := (e : Int)) (by omega) (by omega)]
    by_cases c : (n : Int) ≤ e
    · rw [if_pos c]; exact dg e h' hs (by omega) F e15 (fun k2 => by omega) (fun _ => ⟨hee, w1⟩)
    · have t := P.2 e (by omega)
      have st := enT_stop (T := T) hp (Or.inl k1) (by omega)
      rw [← hee] at st
      rw [if_neg c, Int.toNat_natCast, F.row 94 rfl, t.2]
      refine ⟨⟨by omega, by omega⟩, sp_small X' t.1 ?_⟩
      rw [if_neg (by omega)]
      simp only [pushR0]
      rw [B_197_180 X', w32_0, if_pos rfl]
      exact dg e h' hs (by omega) F e15 (fun k2 => by omega) (fun _ => ⟨hee, w1⟩)
  | succ rem ih =>
    intro e h' he hs F e15 a1 a2 a3
    have X' : Fix sh h' := F.fix X (by decide +kernel)
    rw [B_197_149 X', F.at 85 16 rfl, e16, w32_id (a := ((kdT T n p : Nat) : Int)) (by omega) (by omega)]
    by_cases k1 : kdT T n p = 1
    case neg =>
      rw [if_pos (by omega)]
      refine dg e h' hs (by omega) F e15 (fun k2 => ?_) (fun k2 => by have := a3 k1 k2; omega)
      have := a2 k2
      rw [this.2, this.1, Nat.sub_self]; rfl
    have hin := enT_in (T := T) hp hs (show e < enT T n p by omega)
    have t := P.2 e (by omega)
    rw [if_neg (by omega), F.at 85 13 rfl, e13, e15, w32_id (a := (n : Int)) (by omega) (by omega), w32_id (a := (e : Int)) (by omega) (by omega), if_neg (by omega), Int.toNat_natCast, F.row 94 rfl, t.2]
    refine ⟨⟨by omega, by omega⟩, sp_small X' t.1 ?_⟩
    rw [if_pos (hin.trans k1)]
    simp only [pushR0]
    rw [B_197_180 X', show w32 1 = 1 from rfl, if_neg (by decide), e15, F.at 85 14 rfl, e14, a1 k1, w32_id (a := (e : Int) - ((stT T n p : Nat) : Int)) (by omega) (by omega), w32_id (a := (e : Int)) (by omega) (by omega), Int.toNat_natCast, F.row 94 rfl, t.2, w32_id (a := T e) (by omega) (by omega)]
    have es : wwF T (stT T n p) (e + 1 - stT T n p) = if 10 ≤ e - stT T n p then -1 else wwF T (stT T n p) (e - stT T n p) * 32 + T e - 96 := by
      rw [show e + 1 - stT T n p = (e - stT T n p) + 1 by omega]
      simp only [wwF]
      rw [show stT T n p + (e - stT T n p) = e by omega]
    by_cases c : 10 ≤ e - stT T n p
    · rw [if_pos c] at es
      rw [if_pos (by omega)]
      refine ih (e + 1) _ (by omega) (by omega) ((F.set rfl).set rfl) (by rw [setH_self]; omega) (fun _ => ?_) (fun q => by omega) (fun q => absurd k1 q)
      rw [setH_k (by decide), setH_self, es]
    · rw [if_neg c] at es
      rw [if_neg (by omega)]
      refine ⟨⟨by omega, by omega⟩, ih (e + 1) _ (by omega) (by omega) ((F.set rfl).set rfl) (by rw [setH_self]; omega) (fun _ => ?_) (fun q => by omega) (fun q => absurd k1 q)⟩
      rw [setH_k (by decide), setH_self, es]
theorem lp_mx1 {p : Nat} (X : Fix sh h) (hp : p ≤ n) (P : TpM T n h) (e13 : h 85 13 = (n : Int)) (hq : ∀ h', Fr [] NmS h h' → RdM T n p h' → Q (9, 0) sh sl h') : ∀ (rem s : Nat) (h' : Sto), s + rem = n → skF T rem s = stT T n p → Fr [] NmS h h' → h' 85 14 = (s : Int) → WF sc (d + 2) 197 8 [(2, 85)] [] sh sl h' Q := by
  have hn := P.1
  have sb := stT_b (T := T) hp
  have eb := enT_b (T := T) hp
  have kb := kdT_b (T := T) (n := n) (p := p)
  have go : ∀ (h' : Sto) (s : Nat), s = stT T n p → Fr [] NmS h h' → h' 85 14 = (s : Int) → WF sc (d + 2) 197 46 [(2, 85)] [] sh sl h' Q := fun h' s hs F e14 => by
    have X' : Fix sh h' := F.fix X (by decide +kernel)
    -- into the loops
    have fin : ∀ (h2 : Sto) (e : Nat), Fr [] NmS h h2 → h2 85 14 = (stT T n p : Int) → h2 85 16 = (kdT T n p : Int) → stT T n p ≤ e → e ≤ enT T n p → h2 85 15 = (e : Int) → (kdT T n p = 1 → e = stT T n p ∧ h2 85 17 = 0) → (kdT T n p = 2 → e = stT T n p ∧ h2 85 17 = 0) → (kdT T n p ≠ 1 → kdT T n p ≠ 2 → e = enT T n p ∧ h2 85 17 = wtT T n p) → WF sc (d + 2) 197 149 [(2, 85)] [] sh sl h2 Q := fun h2 e F2 g14 g16 l1 l2 g15 a1 a2 a3 => by
      refine lp_wrd (h := h2) (F2.fix X (by decide +kernel)) hp ⟨hn, fun i hi => by rw [F2.row 94 rfl]; exact P.2 i hi⟩ (by rw [F2.at 85 13 rfl]; exact e13) g14 g16 (fun h3 F3 R3 => hq h3 (F2.trans (F3.mono rfl)) R3) (enT T n p - e) e h2 (by omega) l1 (Fr.refl h2) g15 (fun k1 => ?_) a2 a3
      have := a1 k1
      rw [this.2, this.1, Nat.sub_self]; rfl
    rw [B_197_46 X', F.at 85 13 rfl, e13, e14, w32_id (a := (n : Int)) (by omega) (by omega), w32_id (a := (s : Int)) (by omega) (by omega)]
    by_cases c : (s : Int) = n
    · have k0 : kdT T n p = 0 := by rw [kb.2]; omega
      rw [if_neg (fun q => q c)]
      refine fin _ (stT T n p) (((F.set rfl).set rfl).set rfl) (by rw [setH_k (by decide), setH_k (by decide), setH_k (by decide), e14, hs]) (by rw [setH_self, k0]; rfl) (Nat.le_refl _) (by omega) (by rw [setH_k (by decide), setH_k (by decide), setH_self, hs]) (fun k => by omega) (fun k => by omega) (fun _ _ => ⟨?_, ?_⟩)
      · unfold enT; rw [if_neg (by omega)]
      · rw [setH_k (by decide), setH_self]; unfold wtT; rw [if_pos k0]
    rw [if_pos c]
    have hsn : s < n := by omega
    have t := P.2 s hsn
    have ek : kdT T n p = ckd (T s) := by unfold kdT; rw [if_pos (by omega), hs]
    have cb := ckd_b (T s)
    have F2 : Fr [] NmS h (setH (setH h' 85 15 (s : Int)) 85 17 0) := (F.set rfl).set rfl
    have X2 : Fix sh (setH (setH h' 85 15 (s : Int)) 85 17 0) := F2.fix X (by decide +kernel)
    have g14 : setH (setH h' 85 15 (s : Int)) 85 17 0 85 14 = (s : Int) := by rw [setH_k (by decide), setH_k (by decide)]; exact e14
    rw [Int.toNat_natCast, F.row 94 rfl, t.2]
    refine ⟨⟨by omega, by omega⟩, sp_small X2 t.1 ?_⟩
    simp only [pushR0]
    rw [B_197_87 X2, g14, w32_id (a := (s : Int)) (by omega) (by omega), Int.toNat_natCast, F2.row 94 rfl, t.2]
    by_cases k1 : ckd (T s) = 1
    · rw [if_pos k1, show w32 1 = 1 from rfl, if_neg (by decide)]
      refine fin _ (stT T n p) (F2.set rfl) (by rw [setH_k (by decide), g14, hs]) (by rw [setH_self, ek, k1]; rfl) (Nat.le_refl _) (by omega) (by rw [setH_k (by decide), setH_k (by decide), setH_self, hs]) (fun _ => ⟨rfl, by rw [setH_k (by decide), setH_self]⟩) (fun k => by omega) (fun k => by omega)
    rw [if_neg k1, w32_0, if_pos rfl]
    refine ⟨⟨by omega, by omega⟩, sp_digit X2 t.1 ?_⟩
    simp only [pushR0]
    rw [B_197_106 X2, g14, w32_id (a := (s : Int)) (by omega) (by omega), Int.toNat_natCast, F2.row 94 rfl, t.2, w32_id (a := T s) (by omega) (by omega)]
    by_cases k2 : ckd (T s) = 2
    · rw [if_pos k2, show w32 1 = 1 from rfl, if_neg (by decide)]
      refine fin _ (stT T n p) (F2.set rfl) (by rw [setH_k (by decide), g14, hs]) (by rw [setH_self, ek, k2]; rfl) (Nat.le_refl _) (by omega) (by rw [setH_k (by decide), setH_k (by decide), setH_self, hs]) (fun k => by omega) (fun _ => ⟨rfl, by rw [setH_k (by decide), setH_self]⟩) (fun _ k => by omega)
    · have k3 : ckd (T s) = 3 := by omega
      have en : enT T n p = stT T n p + 1 := by unfold enT; rw [if_pos (by omega), if_pos (by omega)]
      rw [if_neg k2, w32_0, if_pos rfl]
      refine ⟨⟨by omega, by omega⟩, fin _ (stT T n p + 1) (((F2.set rfl).set rfl).set rfl) (by rw [setH_k (by decide), setH_k (by decide), setH_k (by decide), g14, hs]) (by rw [setH_k (by decide), setH_k (by decide), setH_self, ek, k3]; rfl) (by omega) (by omega) ?_ (fun k => by omega) (fun k => by omega) (fun _ _ => ⟨by omega, ?_⟩)⟩
      · rw [setH_self, setH_k (by decide), setH_self]; omega
      · rw [setH_k (by decide), setH_self]; unfold wtT; rw [if_neg (by omega), if_neg (by omega), if_neg (by omega), hs]
  intro rem
  induction rem with
  | zero =>
    intro s h' hs hk F e14
    have hsn : s = stT T n p := hk
    rw [B_197_8 (F.fix X (by decide +kernel)), F.at 85 13 rfl, e13, e14, w32_id (a := (n : Int)) (by omega) (by omega), w32_id (a := (s : Int)) (by omega) (by omega), if_pos (by omega)]
    exact go h' s hsn F e14
  | succ rem ih =>
    intro s h' hs hk F e14
    have t := P.2 s (by omega)
    rw [B_197_8 (F.fix X (by decide +kernel)), F.at 85 13 rfl, e13, e14, w32_id (a := (n : Int)) (by omega) (by omega), w32_id (a := (s : Int)) (by omega) (by omega), if_neg (by omega), Int.toNat_natCast, F.row 94 rfl, t.2, w32_id (a := T s) (by omega) (by omega)]
    refine ⟨⟨by omega, by omega⟩, ?_⟩
    simp only [skF] at hk
    by_cases c : T s = 32
    · rw [if_pos c] at hk
      rw [if_neg (fun q => q c)]
      exact ih (s + 1) _ (by omega) hk (F.set rfl) (by rw [setH_self]; omega)
    · rw [if_neg c] at hk
      rw [if_pos c]
      exact go h' s hk F e14
theorem sp_nextM {p : Nat} (X : Fix sh h) (hp : p ≤ n) (P : TpM T n h) (e13 : h 85 13 = (n : Int)) (e15 : h 85 15 = (p : Int)) (hq : ∀ h', Fr [] NmS h h' → RdM T n p h' → Q (9, 0) sh sl h') : WM sc (d + 2) 197 [(2, 85)] sh sl h Q := by
  rw [B_197_0 X, e15]
  exact lp_mx1 X hp P e13 hq (n - p) p _ (by omega) rfl ((Fr.refl h).set rfl) (setH_self _ _ _ _)
/-! ===== keywords ===== -/
def encW (w : List Int) : Int := wwF (fun i => w.getD i 0) 0 w.length
theorem ww_inj {T W : Nat → Int} {s r : Nat} : ∀ L m, L ≤ 10 → m ≤ 10 → (∀ j, j < L → 97 ≤ T (s + j) ∧ T (s + j) ≤ 122) → (∀ j, j < m → 97 ≤ W (r + j) ∧ W (r + j) ≤ 122) → wwF T s L = wwF W r m → L = m ∧ ∀ j, j < L → T (s + j) = W (r + j) := by
  intro L
  induction L with
  | zero =>
    intro m _ hm _ hW he
    cases m with
    | zero => exact ⟨rfl, fun j hj => by omega⟩
    | succ m =>
      have b := wwF_b m (fun j hj => hW j (by omega)) (by omega)
      have c := hW m (by omega)
      simp only [wwF] at he
      rw [if_neg (by omega)] at he
      omega
  | succ L ih =>
    intro m hL hm hT hW he
    have b := wwF_b L (fun j hj => hT j (by omega)) (by omega)
    have c := hT L (by omega)
    cases m with
    | zero =>
      simp only [wwF] at he
      rw [if_neg (by omega)] at he
      omega
    | succ m =>
      have b2 := wwF_b m (fun j hj => hW j (by omega)) (by omega)
      have c2 := hW m (by omega)
      simp only [wwF] at he
      rw [if_neg (by omega), if_neg (by omega)] at he
      have e1 : T (s + L) = W (r + m) := by omega
      obtain ⟨g1, g2⟩ := ih m (by omega) (by omega) (fun j hj => hT j (by omega)) (fun j hj => hW j (by omega)) (by omega)
      refine ⟨by omega, fun j hj => ?_⟩
      by_cases ej : j = L
      · subst ej; rw [e1, g1]
      · exact g2 j (by omega)
theorem kw_word {p : Nat} {w : List Int} (hp : p ≤ n) (hw : 1 ≤ w.length ∧ w.length ≤ 10) (hwc : ∀ i, i < w.length → 97 ≤ w.getD i 0 ∧ w.getD i 0 ≤ 122) : (kdT T n p = 1 ∧ wtT T n p = encW w) ↔ seeT T n p w = true := by
  have sb := stT_b (T := T) hp
  have eb := enT_b (T := T) hp
  unfold seeT
  rw [Bool.and_eq_true, decide_eq_true_eq, decide_eq_true_eq]
  constructor
  · intro ⟨k1, hwt⟩
    have lt : ∀ j, j < enT T n p - stT T n p → 97 ≤ T (stT T n p + j) ∧ T (stT T n p + j) ≤ 122 := fun j hj => by
      have := enT_in (T := T) hp (show stT T n p ≤ stT T n p + j by omega) (show stT T n p + j < enT T n p by omega)
      rw [k1] at this; exact ckd1.mp this
    unfold wtT at hwt
    rw [if_neg (by omega), if_pos k1] at hwt
    have eb2 := wwF_b (T := fun i => w.getD i 0) (s := 0) w.length (fun j hj => by rw [Nat.zero_add]; exact hwc j hj) (by omega)
    have hL : enT T n p - stT T n p ≤ 10 := by
      by_cases c : enT T n p - stT T n p ≤ 10
      · exact c
      · exfalso
        obtain ⟨m, hm⟩ : ∃ m, enT T n p - stT T n p = m + 1 := ⟨enT T n p - stT T n p - 1, by omega⟩
        rw [hm] at hwt
        simp only [wwF] at hwt
        rw [if_pos (by omega)] at hwt
        unfold encW at hwt
        omega
    obtain ⟨g1, g2⟩ := ww_inj (T := T) (W := fun i => w.getD i 0) (s := stT T n p) (r := 0) _ _ hL hw.2 lt (fun j hj => by rw [Nat.zero_add]; exact hwc j hj) hwt
    refine ⟨g1, fun i hi => ?_⟩
    have := g2 i (by omega)
    rw [Nat.zero_add] at this; exact this
  · intro ⟨hl, ha⟩
    have s1 : stT T n p < n := by omega
    have k1 : kdT T n p = 1 := by
      unfold kdT; rw [if_pos s1]
      have := ha 0 (by omega)
      rw [Nat.add_zero] at this
      rw [this]; exact ckd1.mpr (hwc 0 (by omega))
    refine ⟨k1, ?_⟩
    unfold wtT encW
    rw [if_neg (by omega), if_pos k1, hl]
    have cg : ∀ L, L ≤ w.length → wwF T (stT T n p) L = wwF (fun i => w.getD i 0) 0 L := by
      intro L
      induction L with
      | zero => intro _; rfl
      | succ L ih => intro h; simp only [wwF]; rw [ih (by omega), ha L (by omega), Nat.zero_add]
    exact cg _ (Nat.le_refl _)
theorem kw_sign {p : Nat} {c : Int} (hp : p ≤ n) (hc : ckd c = 3) : (kdT T n p = 3 ∧ wtT T n p = c) ↔ seeT T n p [c] = true := by
  have sb := stT_b (T := T) hp
  have eb := enT_b (T := T) hp
  have kb := kdT_b (T := T) (n := n) (p := p)
  unfold seeT
  rw [Bool.and_eq_true, decide_eq_true_eq, decide_eq_true_eq]
  constructor
  · intro ⟨k3, hwt⟩
    have s1 : stT T n p < n := by omega
    have en : enT T n p = stT T n p + 1 := by unfold enT; rw [if_pos s1, if_pos k3]
    unfold wtT at hwt
    rw [if_neg (by omega), if_neg (by omega), if_neg (by omega)] at hwt
    refine ⟨by show _ = 1; omega, fun i hi => ?_⟩
    have : i = 0 := by have : i < 1 := hi
                       omega
    subst this
    rw [Nat.add_zero, hwt]; rfl
  · intro ⟨hl, ha⟩
    have hl' : enT T n p - stT T n p = 1 := hl
    have s1 : stT T n p < n := by omega
    have h0 := ha 0 (by show 0 < 1; omega)
    rw [Nat.add_zero] at h0
    have h0' : T (stT T n p) = c := h0
    have k3 : kdT T n p = 3 := by unfold kdT; rw [if_pos s1, h0']; exact hc
    refine ⟨k3, ?_⟩
    unfold wtT
    rw [if_neg (by omega), if_neg (by omega), if_neg (by omega)]; exact h0'
theorem wtT_b {p : Nat} (hp : p ≤ n) (P : ∀ i, i < n → 0 ≤ T i ∧ T i < 256) : -1 ≤ wtT T n p ∧ wtT T n p < 1125899906842624 := by
  have sb := stT_b (T := T) hp
  have eb := enT_b (T := T) hp
  have kb := kdT_b (T := T) (n := n) (p := p)
  unfold wtT
  split
  · omega
  · split
    · rename_i k1
      have lt : ∀ j, j < enT T n p - stT T n p → 97 ≤ T (stT T n p + j) ∧ T (stT T n p + j) ≤ 122 := fun j hj => by
        have := enT_in (T := T) hp (show stT T n p ≤ stT T n p + j by omega) (show stT T n p + j < enT T n p by omega)
        rw [k1] at this; exact ckd1.mp this
      by_cases c : enT T n p - stT T n p ≤ 10
      · have b := wwF_b _ lt c
        have p11 : ∀ k : Fin 11, (32 : Int) ^ (k : Nat) ≤ 32 ^ 10 := by decide +kernel
        have p10 : (32 : Int) ^ (enT T n p - stT T n p) ≤ 32 ^ 10 := p11 ⟨enT T n p - stT T n p, by omega⟩
        have e10 : (32 : Int) ^ 10 = 1125899906842624 := by decide
        omega
      · obtain ⟨m, hm⟩ : ∃ m, enT T n p - stT T n p = m + 1 := ⟨enT T n p - stT T n p - 1, by omega⟩
        rw [hm]; simp only [wwF]; rw [if_pos (by omega)]; omega
    · split
      · rename_i k2
        have dg : ∀ j, j < enT T n p - stT T n p → 48 ≤ T (stT T n p + j) ∧ T (stT T n p + j) ≤ 57 := fun j hj => by
          have := enT_in (T := T) hp (show stT T n p ≤ stT T n p + j by omega) (show stT T n p + j < enT T n p by omega)
          rw [k2] at this; exact ckd2.mp this
        have := dwF_b _ dg
        omega
      · have := P (stT T n p) (by omega); omega
theorem sp_isWord {p : Nat} {w : List Int} {x : Int} (X : Fix sh h) (hp : p ≤ n) (P : TpM T n h) (R : RdM T n p h) (hx : x = encW w) (hw : 1 ≤ w.length ∧ w.length ≤ 10) (hwc : ∀ i, i < w.length → 97 ≤ w.getD i 0 ∧ w.getD i 0 ≤ 122) (hxb : 0 ≤ x ∧ x < 1125899906842624) (hq : Q (0, if seeT T n p w = true then 1 else 0) sh sl h) : WM sc (d + 1) 201 [(2, 85), (1, x)] sh sl h Q := by
  have kb := kdT_b (T := T) (n := n) (p := p)
  have wb := wtT_b (T := T) hp (fun i hi => (P.2 i hi).1)
  have kw := kw_word (T := T) hp hw hwc
  rw [B_201_0 X, R.2.2.2.1, R.2.2.2.2, w32_id (a := ((kdT T n p : Nat) : Int)) (by omega) (by omega), w64_id (a := wtT T n p) (by omega) (by omega), w64_id (a := x) (by omega) (by omega)]
  by_cases k1 : kdT T n p = 1
  case neg =>
    rw [if_neg (fun q => k1 (kw.mpr q).1)] at hq
    rw [if_pos (by omega)]; exact hq
  rw [if_neg (by omega)]
  by_cases c : wtT T n p = x
  · rw [if_pos (kw.mp ⟨k1, c.trans hx⟩)] at hq
    rw [if_neg (fun q => q c)]; exact hq
  · rw [if_neg (fun q => c ((kw.mpr q).2.trans hx.symm))] at hq
    rw [if_pos c]; exact hq
theorem sp_isSign {p : Nat} {c : Int} (X : Fix sh h) (hp : p ≤ n) (P : TpM T n h) (R : RdM T n p h) (hc : ckd c = 3) (hcb : 0 ≤ c ∧ c < 256) (hq : Q (0, if seeT T n p [c] = true then 1 else 0) sh sl h) : WM sc (d + 1) 206 [(2, 85), (0, c)] sh sl h Q := by
  have kb := kdT_b (T := T) (n := n) (p := p)
  have wb := wtT_b (T := T) hp (fun i hi => (P.2 i hi).1)
  have kw := kw_sign (T := T) hp hc
  rw [B_206_0 X, R.2.2.2.1, R.2.2.2.2, w32_id (a := ((kdT T n p : Nat) : Int)) (by omega) (by omega), w64_id (a := wtT T n p) (by omega) (by omega), w32_id (a := c) (by omega) (by omega), w64_id (a := c) (by omega) (by omega)]
  by_cases k1 : kdT T n p = 3
  case neg =>
    rw [if_neg (fun q => k1 (kw.mpr q).1)] at hq
    rw [if_pos (by omega)]; exact hq
  rw [if_neg (by omega)]
  by_cases e : wtT T n p = c
  · rw [if_pos (kw.mp ⟨k1, e⟩)] at hq
    rw [if_neg (fun q => q e)]; exact hq
  · rw [if_neg (fun q => e (kw.mpr q).2)] at hq
    rw [if_pos e]; exact hq
end TOKM
