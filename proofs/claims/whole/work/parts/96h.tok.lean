/-! ===== tokens ===== -/
def ckd (c : Int) : Nat := if 97 ≤ c ∧ c ≤ 122 then 1 else if 48 ≤ c ∧ c ≤ 57 then 2 else 3
def skF (T : Nat → Int) : Nat → Nat → Nat
  | 0, p => p
  | r + 1, p => if T p = 32 then skF T r (p + 1) else p
def rnF (T : Nat → Int) (k : Nat) : Nat → Nat → Nat
  | 0, p => p
  | r + 1, p => if ckd (T p) = k then rnF T k r (p + 1) else p
def nmF (T : Nat → Int) (s : Nat) : Nat → Int
  | 0 => 0
  | i + 1 => min (nmF T s i * 10 + T (s + i) - 48) 1001
def dwF (T : Nat → Int) (s : Nat) : Nat → Int
  | 0 => 0
  | i + 1 => if dwF T s i ≤ 1000000 then dwF T s i * 10 + T (s + i) - 48 else dwF T s i
def wwF (T : Nat → Int) (s : Nat) : Nat → Int
  | 0 => 0
  | i + 1 => if 10 ≤ i then -1 else wwF T s i * 32 + T (s + i) - 96
def stT (T : Nat → Int) (n p : Nat) : Nat := skF T (n - p) p
def kdT (T : Nat → Int) (n p : Nat) : Nat := if stT T n p < n then ckd (T (stT T n p)) else 0
def enT (T : Nat → Int) (n p : Nat) : Nat := if stT T n p < n then (if kdT T n p = 3 then stT T n p + 1 else rnF T (kdT T n p) (n - stT T n p) (stT T n p)) else stT T n p
def nmT (T : Nat → Int) (n p : Nat) : Int := if kdT T n p = 2 then nmF T (stT T n p) (enT T n p - stT T n p) else 0
def wtT (T : Nat → Int) (n p : Nat) : Int := if kdT T n p = 0 then 0 else if kdT T n p = 1 then wwF T (stT T n p) (enT T n p - stT T n p) else if kdT T n p = 2 then dwF T (stT T n p) (enT T n p - stT T n p) else T (stT T n p)
theorem ckd_b (c : Int) : 1 ≤ ckd c ∧ ckd c ≤ 3 := by unfold ckd; split; omega; split <;> omega
theorem skF_b {T : Nat → Int} : ∀ r p, p ≤ skF T r p ∧ skF T r p ≤ p + r := by
  intro r
  induction r with
  | zero => intro p; simp [skF]
  | succ r ih =>
    intro p
    simp only [skF]
    split
    · have := ih (p + 1); omega
    · omega
theorem rnF_b {T : Nat → Int} {k : Nat} : ∀ r p, p ≤ rnF T k r p ∧ rnF T k r p ≤ p + r := by
  intro r
  induction r with
  | zero => intro p; simp [rnF]
  | succ r ih =>
    intro p
    simp only [rnF]
    split
    · have := ih (p + 1); omega
    · omega
theorem rnF_in {T : Nat → Int} {k : Nat} : ∀ r p i, p ≤ i → i < rnF T k r p → ckd (T i) = k := by
  intro r
  induction r with
  | zero => intro p i h1 h2; simp only [rnF] at h2; omega
  | succ r ih =>
    intro p i h1 h2
    simp only [rnF] at h2
    split at h2
    · rename_i hc
      by_cases e : i = p
      · subst e; exact hc
      · exact ih (p + 1) i (by omega) h2
    · omega
theorem stT_b {T : Nat → Int} {n p : Nat} (hp : p ≤ n) : p ≤ stT T n p ∧ stT T n p ≤ n := by
  unfold stT; have := skF_b (T := T) (n - p) p; omega
theorem kdT_b {T : Nat → Int} {n p : Nat} : kdT T n p ≤ 3 ∧ (kdT T n p = 0 ↔ n ≤ stT T n p) := by
  unfold kdT
  split
  · have := ckd_b (T (stT T n p)); omega
  · omega
theorem enT_b {T : Nat → Int} {n p : Nat} (hp : p ≤ n) : stT T n p ≤ enT T n p ∧ enT T n p ≤ n ∧ (stT T n p < n → stT T n p < enT T n p) := by
  have s := stT_b (T := T) hp
  unfold enT
  split
  · rename_i h1
    split
    · omega
    · rename_i h3
      have r := rnF_b (T := T) (k := kdT T n p) (n - stT T n p) (stT T n p)
      refine ⟨r.1, by omega, fun _ => ?_⟩
      obtain ⟨m, hm⟩ : ∃ m, n - stT T n p = m + 1 := ⟨n - stT T n p - 1, by omega⟩
      rw [hm]
      have hk : ckd (T (stT T n p)) = kdT T n p := by unfold kdT; rw [if_pos h1]
      simp only [rnF]
      rw [if_pos hk]
      have := rnF_b (T := T) (k := kdT T n p) m (stT T n p + 1)
      omega
  · omega
theorem enT_in {T : Nat → Int} {n p i : Nat} (hp : p ≤ n) (h1 : stT T n p ≤ i) (h2 : i < enT T n p) : ckd (T i) = kdT T n p := by
  unfold enT at h2
  split at h2
  · rename_i h0
    split at h2
    · have : i = stT T n p := by omega
      rw [this]; unfold kdT; rw [if_pos h0]
    · exact rnF_in _ _ i h1 h2
  · omega
theorem nmF_b {T : Nat → Int} {s : Nat} : ∀ i, (∀ j, j < i → 48 ≤ T (s + j) ∧ T (s + j) ≤ 57) → 0 ≤ nmF T s i ∧ nmF T s i ≤ 1001 := by
  intro i
  induction i with
  | zero => intro _; exact ⟨Int.le_refl _, by show (0 : Int) ≤ 1001; omega⟩
  | succ i ih => intro h; have := ih (fun j hj => h j (by omega)); have := h i (by omega); simp only [nmF]; omega
theorem dwF_b {T : Nat → Int} {s : Nat} : ∀ i, (∀ j, j < i → 48 ≤ T (s + j) ∧ T (s + j) ≤ 57) → 0 ≤ dwF T s i ∧ dwF T s i ≤ 10000010 ∧ nmF T s i = min (dwF T s i) 1001 := by
  intro i
  induction i with
  | zero => intro _; exact ⟨Int.le_refl _, by show (0 : Int) ≤ 10000010; omega, by show (0 : Int) = min 0 1001; omega⟩
  | succ i ih =>
    intro h
    have := ih (fun j hj => h j (by omega)); have := h i (by omega)
    simp only [nmF, dwF]
    split <;> omega
theorem wwF_b {T : Nat → Int} {s : Nat} : ∀ i, (∀ j, j < i → 97 ≤ T (s + j) ∧ T (s + j) ≤ 122) → i ≤ 10 → 0 ≤ wwF T s i ∧ wwF T s i < 32 ^ i := by
  intro i
  induction i with
  | zero => intro _ _; exact ⟨Int.le_refl _, by show (0 : Int) < 32 ^ 0; decide⟩
  | succ i ih =>
    intro h hi
    have h1 := ih (fun j hj => h j (by omega)) (by omega)
    have h2 := h i (by omega)
    simp only [wwF]
    rw [if_neg (by omega), Int.pow_succ]
    omega
theorem ckd1 {c : Int} : ckd c = 1 ↔ 97 ≤ c ∧ c ≤ 122 := by unfold ckd; split; simp; assumption; split <;> simp <;> omega
theorem ckd2 {c : Int} : ckd c = 2 ↔ 48 ≤ c ∧ c ≤ 57 := by unfold ckd; split; simp; omega; split <;> simp <;> omega
/-- the class's, the reference's current token -/
def RdC (T : Nat → Int) (n p : Nat) (h : Sto) : Prop := h 43 2 = (n : Int) ∧ h 43 4 = (kdT T n p : Int) ∧ h 43 5 = (stT T n p : Int) ∧ h 43 6 = (enT T n p : Int) ∧ h 43 7 = nmT T n p
def RdM (T : Nat → Int) (n p : Nat) (h : Sto) : Prop := h 85 13 = (n : Int) ∧ h 85 14 = (stT T n p : Int) ∧ h 85 15 = (enT T n p : Int) ∧ h 85 16 = (kdT T n p : Int) ∧ h 85 17 = wtT T n p
def TpC (T : Nat → Int) (n : Nat) (h : Sto) : Prop := n ≤ 400 ∧ ∀ i, i < n → (0 ≤ T i ∧ T i < 256) ∧ h 33 i = b8 (T i)
def TpM (T : Nat → Int) (n : Nat) (h : Sto) : Prop := n ≤ 400 ∧ ∀ i, i < n → (0 ≤ T i ∧ T i < 256) ∧ h 94 i = T i
theorem b8_v {c : Int} (h : 0 ≤ c ∧ c < 256) : b8 c = if c < 128 then c else c - 256 := by
  unfold b8; rw [Int.bmod_def]; split <;> split <;> omega
section TOKC
variable {sc : Nat × (Nat → Int)} {d : Nat} {sh : Shp} {sl : Nat} {h : Sto} {Q : Pst} {T : Nat → Int} {n : Nat}
abbrev NxS : List (Nat × Nat) := [(43, 4), (43, 5), (43, 6), (43, 7)]
theorem sp_sort {e : Nat} (X : Fix sh h) (P : TpC T n h) (e2 : h 43 2 = (n : Int)) (he : e ≤ 400) (hq : Q (0, ((if e < n then ckd (T e) else 0 : Nat) : Int)) sh sl h) : WM sc (d + 1) 58 [(2, 43), (0, (e : Int))] sh sl h Q := by
  have hn := P.1
  rw [B_58_0 X, e2, w32_id (a := (e : Int)) (by omega) (by omega), w32_id (a := (n : Int)) (by omega) (by omega)]
  by_cases c : e < n
  · have t := P.2 e c
    have bv := b8_v t.1
    rw [if_pos c] at hq
    rw [if_pos (by omega), Int.toNat_natCast, t.2, w32_id (a := b8 (T e)) (by rw [bv]; split <;> omega) (by rw [bv]; split <;> omega)]
    refine ⟨⟨by omega, by omega⟩, ?_⟩
    unfold ckd at hq
    by_cases c1 : 97 ≤ T e ∧ T e ≤ 122
    · rw [if_pos c1] at hq
      rw [if_pos (by omega)] at bv
      rw [if_neg (by omega), if_neg (by omega)]; exact hq
    rw [if_neg c1] at hq
    by_cases c2 : 48 ≤ T e ∧ T e ≤ 57
    · rw [if_pos c2] at hq
      rw [if_pos (by omega)] at bv
      rw [if_pos (by omega), if_neg (by omega), if_neg (by omega)]; exact hq
    · rw [if_neg c2] at hq
      have bc : (b8 (T e) < 48 ∨ 57 < b8 (T e)) ∧ (b8 (T e) < 97 ∨ 122 < b8 (T e)) := by
        rw [bv]; split <;> omega
      obtain ⟨x, hx⟩ : ∃ x, b8 (T e) = x := ⟨_, rfl⟩
      rw [hx] at bc ⊢
      by_cases d1 : x < 97
      · rw [if_pos d1]
        by_cases d2 : x < 48
        · rw [if_pos d2]; exact hq
        · rw [if_neg d2, if_pos (by omega)]; exact hq
      · rw [if_neg d1, if_pos (by omega), if_neg (by omega), if_pos (by omega)]; exact hq
  · rw [if_neg (by omega)]
    rw [if_neg c] at hq
    exact hq
theorem lp_nx2 {p : Nat} (X : Fix sh h) (hp : p ≤ n) (P : TpC T n h) (e2 : h 43 2 = (n : Int)) (e4 : h 43 4 = (kdT T n p : Int)) (e5 : h 43 5 = (stT T n p : Int)) (hq : ∀ h', Fr [] [(43, 6), (43, 7)] h h' → RdC T n p h' → Q (9, 0) sh sl h') : ∀ (rem e : Nat) (h' : Sto), e + rem = enT T n p → stT T n p ≤ e → Fr [] [(43, 6), (43, 7)] h h' → h' 43 6 = (e : Int) → h' 43 7 = (if kdT T n p = 2 then nmF T (stT T n p) (e - stT T n p) else 0) → WF sc (d + 2) 57 71 [(2, 43)] [] sh sl h' Q := by
  have hn := P.1
  have sb := stT_b (T := T) hp
  have eb := enT_b (T := T) hp
  have kb := kdT_b (T := T) (n := n) (p := p)
  have PC : ∀ h', Fr [] [(43, 6), (43, 7)] h h' → TpC T n h' := fun h' F => ⟨hn, fun i hi => by rw [F.row 33 rfl]; exact P.2 i hi⟩
  intro rem
  induction rem with
  | zero =>
    intro e h' he hs F e6 e7
    have X' : Fix sh h' := F.fix X (by decide +kernel)
    have hee : e = enT T n p := by omega
    have fin : RdC T n p h' := ⟨by rw [F.at 43 2 rfl]; exact e2, by rw [F.at 43 4 rfl]; exact e4, by rw [F.at 43 5 rfl]; exact e5, by rw [e6, hee], by rw [e7]; unfold nmT; rw [hee]⟩
    rw [B_57_71 X', F.at 43 2 rfl, e2, e6, w32_id (a := (n : Int)) (by omega) (by omega), w32_id (a := (e : Int)) (by omega) (by omega)]
    by_cases c : (n : Int) ≤ e
    · rw [if_pos c]; exact hq h' F fin
    · rw [if_neg c]
      refine sp_sort X' (PC h' F) (by rw [F.at 43 2 rfl]; exact e2) (by omega) ?_
      simp only [pushR0]
      rw [B_57_90 X', F.at 43 4 rfl, F.at 43 5 rfl, e4, e5, e6, if_pos (show e < n by omega)]
      have cb := ckd_b (T e)
      rw [w32_id (a := ((ckd (T e) : Nat) : Int)) (by omega) (by omega), w32_id (a := ((kdT T n p : Nat) : Int)) (by omega) (by omega)]
      by_cases c2 : ((ckd (T e) : Nat) : Int) = ((kdT T n p : Nat) : Int)
      · rw [if_neg (fun q => q c2)]
        -- the token ends here, so it was a sign
        have s1 : stT T n p < n := by omega
        have hlt := eb.2.2 s1
        have k3 : kdT T n p = 3 := by
          by_cases k3 : kdT T n p = 3
          · exact k3
          · exfalso
            have en : enT T n p = rnF T (kdT T n p) (n - stT T n p) (stT T n p) := by unfold enT; rw [if_pos s1, if_neg k3]
            have stop : ∀ r q, q + r = n → rnF T (kdT T n p) r q < n → ckd (T (rnF T (kdT T n p) r q)) ≠ kdT T n p := by
              intro r
              induction r with
              | zero => intro q h1 h2; simp only [rnF] at h2; omega
              | succ r ih =>
                intro q h1 h2
                simp only [rnF] at h2 ⊢
                split at h2
                · rename_i hc; rw [if_pos hc]; exact ih (q + 1) (by omega) h2
                · rename_i hc; rw [if_neg hc]; exact hc
            have := stop (n - stT T n p) (stT T n p) (by omega) (by rw [← en]; omega)
            rw [← en, ← hee] at this
            omega
        rw [w32_id (a := (e : Int)) (by omega) (by omega), w32_id (a := ((stT T n p : Nat) : Int)) (by omega) (by omega), if_neg (by omega), if_pos (by omega)]
        exact hq h' F fin
      · rw [if_pos c2]; exact hq h' F fin
  | succ rem ih =>
    intro e h' he hs F e6 e7
    have X' : Fix sh h' := F.fix X (by decide +kernel)
    have hen : e < n := by omega
    have hin := enT_in (T := T) hp hs (show e < enT T n p by omega)
    have t := P.2 e hen
    rw [B_57_71 X', F.at 43 2 rfl, e2, e6, w32_id (a := (n : Int)) (by omega) (by omega), w32_id (a := (e : Int)) (by omega) (by omega), if_neg (by omega)]
    refine sp_sort X' (PC h' F) (by rw [F.at 43 2 rfl]; exact e2) (by omega) ?_
    simp only [pushR0]
    rw [B_57_90 X', F.at 43 4 rfl, F.at 43 5 rfl, e4, e5, e6, if_pos hen, hin, if_neg (fun q => q rfl), w32_id (a := (e : Int)) (by omega) (by omega), w32_id (a := ((stT T n p : Nat) : Int)) (by omega) (by omega), w32_id (a := ((kdT T n p : Nat) : Int)) (by omega) (by omega), Int.toNat_natCast, F.row 33 rfl, t.2, e7]
    -- one byte more
    have plain : kdT T n p ≠ 2 → WF sc (d + 2) 57 71 [(2, 43)] [] sh sl (setH h' 43 6 ((e : Int) + 1)) Q := fun k2 => by
      refine ih (e + 1) _ (by omega) (by omega) (F.set rfl) (by rw [setH_self]; omega) ?_
      rw [setH_k (by decide), e7, if_neg k2, if_neg k2]
    have dig : kdT T n p = 2 → WF sc (d + 2) 57 71 [(2, 43)] [] sh sl (setH (setH h' 43 7 (if 1001 < w32 ((if kdT T n p = 2 then nmF T (stT T n p) (e - stT T n p) else 0) * 10 + b8 (T e) - 48) then 1001 else (if kdT T n p = 2 then nmF T (stT T n p) (e - stT T n p) else 0) * 10 + b8 (T e) - 48)) 43 6 ((e : Int) + 1)) Q := fun k2 => by
      have dg : ∀ j, j < e - stT T n p → 48 ≤ T (stT T n p + j) ∧ T (stT T n p + j) ≤ 57 := fun j hj => by
        have := enT_in (T := T) hp (show stT T n p ≤ stT T n p + j by omega) (show stT T n p + j < enT T n p by omega)
        rw [k2] at this; exact ckd2.mp this
      have de := ckd2.mp (hin.trans k2)
      have nb := nmF_b (e - stT T n p) dg
      have bv := b8_v t.1
      rw [if_pos (by omega)] at bv
      refine ih (e + 1) _ (by omega) (by omega) ((F.set rfl).set rfl) (by rw [setH_self]; omega) ?_
      rw [setH_k (by decide), setH_self, if_pos k2, if_pos k2, bv, w32_id (a := nmF T (stT T n p) (e - stT T n p) * 10 + T e - 48) (by omega) (by omega), show e + 1 - stT T n p = (e - stT T n p) + 1 by omega]
      simp only [nmF]
      rw [show stT T n p + (e - stT T n p) = e by omega]
      split <;> omega
    by_cases c0 : (e : Int) = ((stT T n p : Nat) : Int)
    · rw [if_pos c0]
      by_cases k2 : kdT T n p = 2
      · rw [if_neg (fun q => q (by omega))]
        exact ⟨⟨by omega, by omega⟩, dig k2⟩
      · rw [if_pos (by omega)]; exact plain k2
    · rw [if_neg c0]
      have k3 : kdT T n p ≠ 3 := fun k3 => by
        have : enT T n p = stT T n p + 1 := by unfold enT; rw [if_pos (by omega), if_pos k3]
        omega
      rw [if_neg (by omega)]
      by_cases k2 : kdT T n p = 2
      · rw [if_neg (fun q => q (by omega))]
        exact ⟨⟨by omega, by omega⟩, dig k2⟩
      · rw [if_pos (by omega)]; exact plain k2
theorem lp_nx1 {p : Nat} (X : Fix sh h) (hp : p ≤ n) (P : TpC T n h) (e2 : h 43 2 = (n : Int)) (hq : ∀ h', Fr [] NxS h h' → RdC T n p h' → Q (9, 0) sh sl h') : ∀ (rem s : Nat) (h' : Sto), s + rem = n → skF T rem s = stT T n p → Fr [] NxS h h' → h' 43 5 = (s : Int) → WF sc (d + 2) 57 8 [(2, 43)] [] sh sl h' Q := by
  have hn := P.1
  have sb := stT_b (T := T) hp
  have eb := enT_b (T := T) hp
  -- the end of the blanks
  have go : ∀ (h' : Sto) (s : Nat), s = stT T n p → Fr [] NxS h h' → h' 43 5 = (s : Int) → WM sc (d + 1) 58 [(2, 43), (0, (s : Int))] sh sl (setH h' 43 6 (s : Int)) (fun r sh1 sl1 h1 => WF sc (d + 2) 57 63 [(2, 43)] (pushR r [(2, 43)]) sh1 sl1 h1 Q) := fun h' s hs F e5 => by
    have F2 : Fr [] NxS h (setH h' 43 6 (s : Int)) := F.set rfl
    have X2 : Fix sh (setH h' 43 6 (s : Int)) := F2.fix X (by decide +kernel)
    refine sp_sort (T := T) (n := n) X2 ⟨hn, fun i hi => by rw [F2.row 33 rfl]; exact P.2 i hi⟩ (by rw [F2.at 43 2 rfl]; exact e2) (by omega) ?_
    simp only [pushR0]
    rw [B_57_63 X2]
    have ek : (if s < n then ckd (T s) else 0 : Nat) = kdT T n p := by unfold kdT; rw [hs]
    rw [ek]
    have F3 : Fr [] NxS h (setH (setH (setH h' 43 6 (s : Int)) 43 4 ((kdT T n p : Nat) : Int)) 43 7 0) := (F2.set rfl).set rfl
    refine lp_nx2 (h := setH (setH (setH h' 43 6 (s : Int)) 43 4 ((kdT T n p : Nat) : Int)) 43 7 0) (F3.fix X (by decide +kernel)) hp ⟨hn, fun i hi => by rw [F3.row 33 rfl]; exact P.2 i hi⟩ (by rw [F3.at 43 2 rfl]; exact e2) (by rw [setH_k (by decide), setH_self]) (by rw [setH_k (by decide), setH_k (by decide), setH_k (by decide), e5, hs]) (fun h4 F4 R4 => hq h4 (F3.trans (F4.mono rfl)) R4) (enT T n p - stT T n p) (stT T n p) _ (by omega) (Nat.le_refl _) (Fr.refl _) (by rw [setH_k (by decide), setH_k (by decide), setH_self, hs]) (by rw [setH_self, Nat.sub_self]; split <;> rfl)
  intro rem
  induction rem with
  | zero =>
    intro s h' hs hk F e5
    have hsn : s = stT T n p := hk
    rw [B_57_8 (F.fix X (by decide +kernel)), F.at 43 2 rfl, e2, e5, w32_id (a := (n : Int)) (by omega) (by omega), w32_id (a := (s : Int)) (by omega) (by omega), if_pos (by omega)]
    exact go h' s hsn F e5
  | succ rem ih =>
    intro s h' hs hk F e5
    have t := P.2 s (by omega)
    have bv := b8_v t.1
    rw [B_57_8 (F.fix X (by decide +kernel)), F.at 43 2 rfl, e2, e5, w32_id (a := (n : Int)) (by omega) (by omega), w32_id (a := (s : Int)) (by omega) (by omega), if_neg (by omega), Int.toNat_natCast, F.row 33 rfl, t.2, w32_id (a := b8 (T s)) (by rw [bv]; split <;> omega) (by rw [bv]; split <;> omega)]
    refine ⟨⟨by omega, by omega⟩, ?_⟩
    simp only [skF] at hk
    by_cases c : T s = 32
    · rw [if_pos c] at hk
      rw [if_neg (fun q => q (by rw [bv, if_pos (by omega)]; exact c))]
      exact ih (s + 1) _ (by omega) hk (F.set rfl) (by rw [setH_self]; omega)
    · rw [if_neg c] at hk
      rw [if_pos (fun q => by rw [bv] at q; split at q <;> omega)]
      exact go h' s hk F e5
theorem sp_nextC {p : Nat} (X : Fix sh h) (hp : p ≤ n) (P : TpC T n h) (e2 : h 43 2 = (n : Int)) (e6 : h 43 6 = (p : Int)) (hq : ∀ h', Fr [] NxS h h' → RdC T n p h' → Q (9, 0) sh sl h') : WM sc (d + 2) 57 [(2, 43)] sh sl h Q := by
  rw [B_57_0 X, e6]
  exact lp_nx1 X hp P e2 hq (n - p) p _ (by omega) rfl ((Fr.refl h).set rfl) (setH_self _ _ _ _)
/-- the current token's text -/
def seeT (T : Nat → Int) (n p : Nat) (w : List Int) : Bool := decide (enT T n p - stT T n p = w.length) && decide (∀ i, i < w.length → T (stT T n p + i) = w.getD i 0)
theorem lp_sees {p : Nat} {z : Int} {w : List Int} (X : Fix sh h) (hp : p ≤ n) (P : TpC T n h) (R : RdC T n p h) (hz : txAt z = some w) (hw : w.length ≤ 10) (hwc : ∀ i, i < w.length → 0 ≤ w.getD i 0 ∧ w.getD i 0 < 128) (hl : enT T n p - stT T n p = w.length) (hq : Q (0, if seeT T n p w = true then 1 else 0) sh sl h) : ∀ (rem i : Nat) (I : Int), i + rem = w.length → I = i → (∀ j, j < i → T (stT T n p + j) = w.getD j 0) → WF sc (d + 11) 61 20 [(2, 43), (2, z), (0, I)] [] sh sl h Q := by
  have hn := P.1
  have sb := stT_b (T := T) hp
  have eb := enT_b (T := T) hp
  intro rem
  induction rem with
  | zero =>
    intro i I hi hI hj
    subst hI
    have : seeT T n p w = true := by unfold seeT; rw [decide_eq_true hl, decide_eq_true (fun j h1 => hj j (by omega))]; rfl
    rw [if_pos this] at hq
    simp only [R_61_20, R_61_21, R_61_22 hz, R_61_25, R_61_55, R_61_56 (Or.inr rfl), wgt_0, wgt_nil, wgt_2]
    rw [w32_id (a := (w.length : Int)) (by omega) (by omega), w32_id (a := (i : Int)) (by omega) (by omega), if_pos (by omega)]
    exact ⟨by decide, hq⟩
  | succ rem ih =>
    intro i I hi hI hj
    subst hI
    have t := P.2 (stT T n p + i) (by omega)
    have wc := hwc i (by omega)
    have bv := b8_v t.1
    simp only [R_61_20, R_61_21, R_61_22 hz, R_61_25, R_61_28, R_61_29, R_61_32, R_61_33, R_61_36, R_61_37, R_61_38, R_61_39, R_61_40, R_61_41 hz, R_61_44, wgt_0, wgt_nil, wgt_2, fs_43 X, true_and, show (43 : Int).toNat = 43 from rfl, ff_43_0 X]
    rw [w32_id (a := (w.length : Int)) (by omega) (by omega), w32_id (a := (i : Int)) (by omega) (by omega), if_neg (by omega), R.2.2.1, w32_nat (a := ((stT T n p : Nat) : Int) + (i : Int)) (n := stT T n p + i) (by omega) (by omega), Int.toNat_natCast, Int.toNat_natCast, show (33 : Int).toNat = 33 from rfl, t.2]
    refine ⟨by decide, ?_, ⟨by omega, by omega, by decide⟩, ?_⟩
    · refine Or.inl ((inA_of (fs_33 X)).mpr ?_)
      rw [w32_nat (a := ((stT T n p : Nat) : Int) + (i : Int)) (n := stT T n p + i) (by omega) (by omega)]
      omega
    rw [w32_id (a := b8 (T (stT T n p + i))) (by rw [bv]; split <;> omega) (by rw [bv]; split <;> omega), w32_id (a := w.getD i 0) (by omega) (by omega)]
    by_cases c : T (stT T n p + i) = w.getD i 0
    · rw [if_pos (by rw [bv, if_pos (by omega)]; exact c)]
      simp only [R_61_49, R_61_52, nl2]
      exact ih (i + 1) _ (by omega) (by simp) (fun j h1 => by
        by_cases ej : j = i
        · subst ej; exact c
        · exact hj j (by omega))
    · rw [if_neg (fun q => c (by rw [bv] at q; split at q <;> omega))]
      have : ¬ seeT T n p w = true := fun q => by
        unfold seeT at q
        rw [Bool.and_eq_true, decide_eq_true_eq, decide_eq_true_eq] at q
        exact c (q.2 i (by omega))
      rw [if_neg this] at hq
      simp only [R_61_47, R_61_48 (Or.inl rfl)]
      exact hq
theorem sp_sees {p : Nat} {z : Int} {w : List Int} (X : Fix sh h) (hp : p ≤ n) (P : TpC T n h) (R : RdC T n p h) (hz : txAt z = some w) (hw : w.length ≤ 10) (hwc : ∀ i, i < w.length → 0 ≤ w.getD i 0 ∧ w.getD i 0 < 128) (hq : Q (0, if seeT T n p w = true then 1 else 0) sh sl h) : WM sc (d + 11) 61 [(2, 43), (2, z)] sh sl h Q := by
  have hn := P.1
  have sb := stT_b (T := T) hp
  have eb := enT_b (T := T) hp
  simp only [E_61, R_61_0, R_61_1, R_61_4, R_61_5, R_61_8, R_61_9, R_61_10 hz, R_61_13, R_61_16, R_61_17 (Or.inl rfl), R_61_18, R_61_19, wgt_0, wgt_nil, wgt_2, fs_43 X, true_and, show (43 : Int).toNat = 43 from rfl, R.2.2.1, R.2.2.2.1, nl2]
  rw [w32_id (a := ((enT T n p : Nat) : Int) - ((stT T n p : Nat) : Int)) (by omega) (by omega), w32_id (a := (w.length : Int)) (by omega) (by omega)]
  refine ⟨by decide, ?_⟩
  by_cases c : enT T n p - stT T n p = w.length
  · rw [if_pos (by omega)]
    exact lp_sees X hp P R hz hw hwc c hq w.length 0 _ (by omega) rfl (fun j hj => by omega)
  · rw [if_neg (by omega)]
    have : ¬ seeT T n p w = true := fun q => by
      unfold seeT at q
      rw [Bool.and_eq_true, decide_eq_true_eq] at q
      exact c q.1
    rw [if_neg this] at hq
    exact hq
end TOKC
