/-! ===== made up: the reference's search ===== -/
section MADEM
variable {sc : Nat × (Nat → Int)} {d : Nat} {sh : Shp} {sl : Nat} {h : Sto} {Q : Pst} {G : Nat → Int} {n m : Nat} {L : List Law}
def tN (t : Nat → Int) (k : Nat) : Prop := ∀ i j, i < j → j < k → t i ≠ t j
theorem tN.step {t : Nat → Int} {k c : Nat} (H : tN t k) (hc : ∀ i, i < k → t i ≠ (c : Int)) : tN (up t k (c : Int)) (k + 1) := by
  intro i j hij hj
  by_cases e : j = k
  · subst e; rw [up_s, up_n (by omega)]; exact hc i hij
  · rw [up_n e, up_n (by omega)]; exact H i j hij (by omega)
theorem lp_isNx {t : Nat → Int} {k c : Nat} {x2 : Int} (X : Fix sh h) (hk : k < 5) (e : ∀ i, i < k → h 110 i = t i) (tb : ∀ i, i < k → 0 ≤ t i ∧ t i < 10) (ek : h 110 k = (c : Int)) (hc : c < 10) (b0 : Bool) (hq : Q (0, if (b0 && decide (∀ i, i < k → t i ≠ (c : Int))) = true then 1 else 0) sh sl h) : ∀ (rem i : Nat) (A I : Int), i + rem = k → A = (if (b0 && decide (∀ j, j < i → t j ≠ (c : Int))) = true then 1 else 0) → I = i → WF sc (d + 1) 246 52 [(2, 85), (0, (k : Int)), (0, x2), (0, A), (0, I)] [] sh sl h Q := by
  intro rem
  induction rem with
  | zero =>
    intro i A I hi hA hI
    have hik : i = k := by omega
    subst hik
    rw [B_246_52 X (by rw [hA]; split <;> simp), hI, w32_id (a := (i : Int)) (by omega) (by omega), if_pos (by omega), hA]
    exact hq
  | succ rem ih =>
    intro i A I hi hA hI
    have t1 := tb i (by omega)
    rw [B_246_52 X (by rw [hA]; split <;> simp), hI, w32_id (a := (i : Int)) (by omega) (by omega), w32_id (a := (k : Int)) (by omega) (by omega), if_neg (by omega), hA]
    have st : (∀ j, j < i + 1 → t j ≠ (c : Int)) ↔ (∀ j, j < i → t j ≠ (c : Int)) ∧ t i ≠ (c : Int) := by
      constructor
      · intro q; exact ⟨fun j hj => q j (by omega), q i (by omega)⟩
      · intro q j hj
        by_cases ej : j = i
        · subst ej; exact q.2
        · exact q.1 j (by omega)
    by_cases cA : (b0 && decide (∀ j, j < i → t j ≠ (c : Int))) = true
    · rw [if_pos cA, show w32 1 = 1 from rfl, if_neg (by decide), Int.toNat_natCast, Int.toNat_natCast, e i (by omega), ek, w32_id (a := t i) (by omega) (by omega), w32_id (a := (c : Int)) (by omega) (by omega)]
      rw [Bool.and_eq_true, decide_eq_true_eq] at cA
      refine ⟨⟨by omega, by omega⟩, ⟨by omega, by omega⟩, ?_⟩
      by_cases eq : t i = (c : Int)
      · rw [if_pos eq]
        exact ih (i + 1) _ _ (by omega) (by rw [if_neg (fun q => by rw [Bool.and_eq_true, decide_eq_true_eq] at q; exact (st.mp q.2).2 eq)]) (by simp)
      · rw [if_neg eq]
        exact ih (i + 1) _ _ (by omega) (by rw [if_pos (by rw [Bool.and_eq_true, decide_eq_true_eq]; exact ⟨cA.1, st.mpr ⟨cA.2, eq⟩⟩)]) (by simp)
    · rw [if_neg cA, w32_0, if_pos rfl]
      refine ih (i + 1) _ _ (by omega) ?_ (by simp)
      rw [if_neg (fun q => cA (by rw [Bool.and_eq_true, decide_eq_true_eq] at q ⊢; exact ⟨q.1, (st.mp q.2).1⟩))]
/-- what the search of the reference reads -/
def MkM (sh : Shp) (h : Sto) (G : Nat → Int) (n m : Nat) (L : List Law) : Prop := MJ sh h G n m L ∧ FiR G L n n 0 h ∧ ∀ i, i < n → h 109 i = countsA G L i
abbrev MkP : List Nat := [110, 111]
abbrev MkS : List (Nat × Nat) := [(85, 47), (85, 48)]
theorem MkM.fr {h' : Sto} (H : MkM sh h G n m L) (F : Fr MkP MkS h h') : MkM sh h' G n m L := by
  obtain ⟨a, b, c⟩ := H
  refine ⟨a.of F (by decide +kernel) (by decide +kernel), ?_, ?_⟩
  · unfold FiR; rw [F.row 107 rfl, F.row 108 rfl]; exact b
  · rw [F.row 109 rfl]; exact c
theorem tV.tb {rd : Nat → Bool} {t : Nat → Int} {k : Nat} (hn : n ≤ 10) (T : tV rd n t k) : ∀ i, i < k → 0 ≤ t i ∧ t i < 10 := fun i hi => by
  obtain ⟨s, e, h1, -⟩ := T i hi
  omega
theorem sp_isNx {t : Nat → Int} {k c : Nat} (H : MkM sh h G n m L) (hk : k < 5) (e : ∀ i, i < k → h 110 i = t i) (T : tV (rdP G) n t k) (ek : h 110 k = (c : Int)) (hc : c < n) (hq : Q (0, if okR (rdP G) (barredA G L) t k c = true then 1 else 0) sh sl h) : WM sc (d + 2) 246 [(2, 85), (0, (k : Int)), (0, ((msk (rdP G) n : Nat) : Int))] sh sl h Q := by
  obtain ⟨M, Fi, -⟩ := H
  have W := M.2.2.2.1
  have hn10 := W.1.2.1
  have hl := msk_lt10 (p := rdP G) hn10
  have tb := T.tb hn10
  have ob : ∀ b0 : Bool, b0 = (rdP G c && (decide (k = 0) || !barredA G L (t (k - 1)).toNat c)) → okR (rdP G) (barredA G L) t k c = (b0 && decide (∀ i, i < k → t i ≠ (c : Int))) := fun b0 hb => by
    unfold okR; rw [hb, Bool.and_assoc]
  rw [B_246_0 M.1, w32_id (a := (k : Int)) (by omega) (by omega), Int.toNat_natCast, ek, B_247_0 M.1, bit_nat (by omega) (by omega), msk_bit, decide_eq_true hc, Bool.true_and]
  refine ⟨⟨by omega, by omega⟩, ?_⟩
  by_cases r : rdP G c = true
  case neg =>
    rw [ob false (by rw [Bool.eq_false_iff.mpr r]; rfl)] at hq
    rw [if_neg r, w32_0, if_pos (by decide)]
    simp only [pushR0]
    rw [B_246_10 M.1, w32_0, if_pos rfl]
    exact lp_isNx M.1 hk e tb ek (by omega) false hq k 0 _ _ (by omega) rfl rfl
  rw [if_pos r, show w32 1 = 1 from rfl, if_neg (by decide)]
  simp only [pushR0]
  rw [B_246_10 M.1, show w32 1 = 1 from rfl, if_neg (by decide), w32_id (a := (k : Int)) (by omega) (by omega)]
  by_cases k0 : k = 0
  · rw [ob true (by rw [r, decide_eq_true k0]; rfl)] at hq
    rw [if_pos (by omega)]
    exact lp_isNx M.1 hk e tb ek (by omega) true hq k 0 _ _ (by omega) (by rw [if_pos (by simp)]) rfl
  obtain ⟨s, es, hs, hsr⟩ := T (k - 1) (by omega)
  rw [if_neg (by omega), w32_nat (a := (k : Int) - 1) (n := k - 1) (by omega) (by omega), Int.toNat_natCast, Int.toNat_natCast, e (k - 1) (by omega), es, ek, w32_nat (a := 10 * (s : Int) + (c : Int)) (n := 10 * s + c) (by omega) (by omega), Int.toNat_natCast]
  refine ⟨⟨by omega, by omega⟩, ⟨by omega, by omega⟩, ⟨by omega, by omega⟩, ?_⟩
  by_cases esc : s = c
  · -- the same stamp twice: it can't be, whatever stands there
    have no : ∀ b0 : Bool, (b0 && decide (∀ i, i < k → t i ≠ (c : Int))) = false := fun b0 => by
      rw [decide_eq_false (fun q => q (k - 1) (by omega) (by rw [es, esc])), Bool.and_false]
    rw [ob _ rfl, no] at hq
    split
    · exact lp_isNx M.1 hk e tb ek (by omega) false (by rw [no]; exact hq) k 0 _ _ (by omega) rfl rfl
    · exact lp_isNx M.1 hk e tb ek (by omega) true (by rw [no]; exact hq) k 0 _ _ (by omega) (by rw [if_pos (by simp)]) rfl
  have q1 := (Fi s c hs hc esc (by omega)).2
  rw [q1]
  cases hb : barredA G L s c
  · rw [ob true (by rw [r, decide_eq_false k0, es, Int.toNat_natCast, hb]; rfl)] at hq
    rw [show (if (false : Bool) = true then (1 : Int) else 0) = 0 from rfl, w32_0, if_neg (by simp)]
    exact lp_isNx M.1 hk e tb ek (by omega) true hq k 0 _ _ (by omega) (by rw [if_pos (by simp)]) rfl
  · rw [ob false (by rw [r, decide_eq_false k0, es, Int.toNat_natCast, hb]; rfl)] at hq
    rw [if_pos rfl, show w32 1 = 1 from rfl, if_pos (by decide)]
    exact lp_isNx M.1 hk e tb ek (by omega) false hq k 0 _ _ (by omega) rfl rfl
/-- the best so far, in the reference -/
def BM (h : Sto) (B : Bst) : Prop := h 85 47 = B.1 ∧ h 85 48 = B.2.1 ∧ WB B ∧ (B.2.1 ≤ 5 → ∀ i : Nat, (i : Int) < B.2.1 → h 111 i = B.2.2 i)
theorem lp_tkC {fee x3 x4 : Int} {t : Nat → Int} {k : Nat} (X : Fix sh h) (hk : k ≤ 5) (e : ∀ i, i < k → h 110 i = t i) (hq : ∀ h', Fr [111] [] h h' → (∀ i, i < k → h' 111 i = t i) → Q (9, 0) sh sl h') : ∀ (rem i : Nat) (h' : Sto) (I : Int), i + rem = k → I = i → Fr [111] [] h h' → (∀ j, j < i → h' 111 j = t j) → WF sc (d + 1) 245 119 [(2, 85), (0, (k : Int)), (0, fee), (0, x3), (0, x4), (0, I)] [] sh sl h' Q := by
  intro rem
  induction rem with
  | zero =>
    intro i h' I hi hI F g
    subst hI
    have hik : i = k := by omega
    subst hik
    rw [B_245_119 (F.fix X (by decide +kernel)), w32_id (a := (i : Int)) (by omega) (by omega), if_pos (by omega)]
    exact hq h' F g
  | succ rem ih =>
    intro i h' I hi hI F g
    subst hI
    rw [B_245_119 (F.fix X (by decide +kernel)), w32_id (a := (i : Int)) (by omega) (by omega), w32_id (a := (k : Int)) (by omega) (by omega), if_neg (by omega), Int.toNat_natCast, F.row 110 rfl, e i (by omega)]
    refine ⟨⟨by omega, by omega⟩, ⟨by omega, by omega⟩, ih (i + 1) _ _ (by omega) (by simp) (F.setP rfl) (fun j hj => ?_)⟩
    by_cases ej : j = i
    · subst ej; rw [setH_self]
    · rw [setH_k ej]; exact g j (by omega)
theorem lp_tk {fee : Int} {t : Nat → Int} {k : Nat} {B : Bst} (H : MkM sh h G n m L) (hf : 0 ≤ fee ∧ fee ≤ 60) (hk : k ≤ 5) (e : ∀ i, i < k → h 110 i = t i) (T : tV (rdP G) n t k) (N : tN t k) (HB : BM h B) (hq : ∀ h', Fr [111] MkS h h' → BM h' (updB (countsA G L) (quarrelA G L) fee B t k) → Q (9, 0) sh sl h') : ∀ (rem i : Nat) (A C I : Int), i + rem = k → A = sT (countsA G L) t i → C = qT (quarrelA G L) t i → I = i → WF sc (d + 1) 245 8 [(2, 85), (0, (k : Int)), (0, fee), (0, A), (0, C), (0, I)] [] sh sl h Q := by
  obtain ⟨M, Fi, e109⟩ := H
  have W := M.2.2.2.1
  have hn10 := W.1.2.1
  have X := M.1
  have cb : ∀ c, c < n → 0 ≤ countsA G L c ∧ countsA G L c ≤ 60 := fun c hc => countsA_bd W hc
  have qb : ∀ a b, a < n → b < n → 0 ≤ quarrelA G L a b ∧ quarrelA G L a b ≤ 20 := fun a b ha hb => quarrelA_bd W ha hb
  intro rem
  induction rem with
  | zero =>
    intro i A C I hi hA hC hI
    subst hI
    have hik : i = k := by omega
    subst hik
    have sb := sT_b (rd := rdP G) cb T
    have q1 := qT_b (ql := quarrelA G L) qb T
    obtain ⟨b1, b2, b3, b4⟩ := HB
    have r47 : w32 (h 85 47) = B.1 := by rw [b1]; rcases b3 with z | z <;> exact w32_id (by omega) (by omega)
    have r48 : w32 (h 85 48) = B.2.1 := by rw [b2]; rcases b3 with z | z <;> exact w32_id (by omega) (by omega)
    have WU : WB (updB (countsA G L) (quarrelA G L) fee B t i) := WB.upd qb T hk b3
    have keep : ¬ (sT (countsA G L) t i = fee ∧ (qT (quarrelA G L) t i < B.1 ∨ (qT (quarrelA G L) t i = B.1 ∧ (i : Int) < B.2.1))) → Q (9, 0) sh sl h := fun z => by
      refine hq h (Fr.refl h) ?_
      unfold updB; rw [if_neg z]; exact ⟨b1, b2, b3, b4⟩
    have take : (sT (countsA G L) t i = fee ∧ (qT (quarrelA G L) t i < B.1 ∨ (qT (quarrelA G L) t i = B.1 ∧ (i : Int) < B.2.1))) → WF sc (d + 1) 245 119 [(2, 85), (0, (i : Int)), (0, fee), (0, A), (0, C), (0, 0)] [] sh sl (setH (setH h 85 47 C) 85 48 (i : Int)) Q := fun z => by
      have X2 : Fix sh (setH (setH h 85 47 C) 85 48 (i : Int)) := (X.s (by decide +kernel)).s (by decide +kernel)
      refine lp_tkC (t := t) X2 hk (fun j hj => by rw [setH_o (by decide), setH_o (by decide)]; exact e j hj) (fun h2 F2 g2 => ?_) i 0 _ _ (by omega) rfl (Fr.refl _) (fun j hj => by omega)
      refine hq h2 ((((Fr.refl h).set rfl).set rfl).trans (F2.mono rfl)) ?_
      unfold updB at WU ⊢
      rw [if_pos z] at WU ⊢
      refine ⟨by rw [F2.at 85 47 rfl, setH_k (by decide), setH_self, hC], by rw [F2.at 85 48 rfl, setH_self], WU, fun _ j hj => g2 j ?_⟩
      have : (j : Int) < (i : Int) := hj
      omega
    rw [B_245_8 X, w32_id (a := (i : Int)) (by omega) (by omega), if_pos (by omega), r47, r48]
    have wA : w32 A = sT (countsA G L) t i := by rw [hA]; exact w32_id (by omega) (by omega)
    have wC : w32 C = qT (quarrelA G L) t i := by rw [hC]; exact w32_id (by omega) (by omega)
    rw [wA, wC, w32_id (a := fee) (by omega) (by omega)]
    by_cases c1 : sT (countsA G L) t i = fee
    case neg => rw [if_pos c1]; exact keep (fun z => c1 z.1)
    rw [if_neg (fun z => z c1)]
    by_cases c2 : qT (quarrelA G L) t i < B.1
    · rw [if_pos c2]; exact take ⟨c1, Or.inl c2⟩
    rw [if_neg c2]
    by_cases c3 : qT (quarrelA G L) t i = B.1
    case neg => rw [if_pos c3]; exact keep (fun z => by omega)
    rw [if_neg (fun z => z c3)]
    by_cases c4 : B.2.1 ≤ (i : Int)
    · rw [if_pos c4]; exact keep (fun z => by omega)
    · rw [if_neg c4]; exact take ⟨c1, Or.inr ⟨c3, by omega⟩⟩
  | succ rem ih =>
    intro i A C I hi hA hC hI
    subst hI
    obtain ⟨s, es, hs, hsr⟩ := T i (by omega)
    have sS : sT (countsA G L) t (i + 1) = sT (countsA G L) t i + countsA G L s := by
      show psum _ i + countsA G L (t i).toNat = _
      rw [es, Int.toNat_natCast]; rfl
    have sQ : qT (quarrelA G L) t (i + 1) = qT (quarrelA G L) t i + dQ (quarrelA G L) t i s := by
      show psum _ i + dQ (quarrelA G L) t i (t i).toNat = _
      rw [es, Int.toNat_natCast]; rfl
    rw [B_245_8 X, w32_id (a := (i : Int)) (by omega) (by omega), w32_id (a := (k : Int)) (by omega) (by omega), if_neg (by omega), Int.toNat_natCast, e i (by omega), es, w32_id (a := (s : Int)) (by omega) (by omega), Int.toNat_natCast, e109 s hs]
    refine ⟨⟨by omega, by omega⟩, ⟨by omega, by omega⟩, ?_⟩
    by_cases i0 : i = 0
    · rw [if_neg (fun z => z (by omega))]
      refine ih (i + 1) _ _ _ (by omega) (by rw [sS, hA]) ?_ (by simp)
      rw [sQ, hC]; unfold dQ; rw [if_pos i0]
    · obtain ⟨s2, es2, hs2, hsr2⟩ := T (i - 1) (by omega)
      have ne : s2 ≠ s := fun q => N (i - 1) i (by omega) (by omega) (by rw [es, es2, q])
      rw [if_pos (by omega), w32_nat (a := (i : Int) - 1) (n := i - 1) (by omega) (by omega), Int.toNat_natCast, e (i - 1) (by omega), es2, w32_nat (a := 10 * (s2 : Int) + (s : Int)) (n := 10 * s2 + s) (by omega) (by omega), Int.toNat_natCast, (Fi s2 s hs2 hs ne (by omega)).1]
      refine ⟨⟨by omega, by omega⟩, ⟨by omega, by omega⟩, ⟨by omega, by omega⟩, ih (i + 1) _ _ _ (by omega) (by rw [sS, hA]) ?_ (by simp)⟩
      rw [sQ, hC]; unfold dQ; rw [if_neg i0, es2, Int.toNat_natCast]
theorem sp_take {fee : Int} {t : Nat → Int} {k : Nat} {B : Bst} (H : MkM sh h G n m L) (hf : 0 ≤ fee ∧ fee ≤ 60) (hk : k ≤ 5) (e : ∀ i, i < k → h 110 i = t i) (T : tV (rdP G) n t k) (N : tN t k) (HB : BM h B) (hq : ∀ h', Fr [111] MkS h h' → BM h' (updB (countsA G L) (quarrelA G L) fee B t k) → Q (9, 0) sh sl h') : WM sc (d + 1) 245 [(2, 85), (0, (k : Int)), (0, fee)] sh sl h Q := by
  rw [B_245_0 H.1.1]
  exact lp_tk H hf hk e T N HB hq k 0 _ _ _ (by omega) rfl rfl rfl
theorem lp_mkM {fee : Int} (H : MkM sh h G n m L) (hf : 0 ≤ fee ∧ fee ≤ 60) : ∀ (r k : Nat) (t : Nat → Int) (B : Bst) (h' : Sto) (Kx : Int), k + r = 5 → Kx = k → tV (rdP G) n t k → tN t k → Fr MkP MkS h h' → (∀ i, i < k → h' 110 i = t i) → h' 110 k = -1 → BM h' B → (∀ h2 Kx, Kx = (k : Int) - 1 → Fr MkP MkS h h2 → (∀ i, i < k → h2 110 i = t i) → BM h2 (mC (countsA G L) (quarrelA G L) (barredA G L) (rdP G) fee n r k t B) → WF sc (d + 4) 242 34 [(2, 85), (0, fee), (0, ((msk (rdP G) n : Nat) : Int)), (0, Kx)] [] sh sl h2 Q) → WF sc (d + 4) 242 34 [(2, 85), (0, fee), (0, ((msk (rdP G) n : Nat) : Int)), (0, Kx)] [] sh sl h' Q := by
  have M := H.1
  have W := M.2.2.2.1
  have hn10 := W.1.2.1
  intro r
  induction r with
  | zero =>
    intro k t B h' Kx hk hK T N F e ek HB hq
    subst hK
    rw [B_242_34 (F.fix M.1 (by decide +kernel)), w32_id (a := (k : Int)) (by omega) (by omega), if_neg (by omega), if_pos (by omega), Int.toNat_natCast]
    refine ⟨⟨by omega, by omega⟩, ⟨by omega, by omega⟩, hq _ _ (by omega) (F.setP rfl) (fun i hi => by rw [setH_k (by omega)]; exact e i hi) ?_⟩
    show BM _ B
    unfold BM; rw [setH_o (by decide), setH_o (by decide)]; exact HB
  | succ r ihr =>
    intro k t B h' Kx hk hK T N F e ek HB hq
    subst hK
    obtain ⟨f, hfd⟩ : ∃ f : Nat → Bst → Bst, f = fun c B => if okR (rdP G) (barredA G L) t k c = true then mC (countsA G L) (quarrelA G L) (barredA G L) (rdP G) fee n r (k + 1) (up t k (c : Int)) (updB (countsA G L) (quarrelA G L) fee B (up t k (c : Int)) (k + 1)) else B := ⟨_, rfl⟩
    have em : mC (countsA G L) (quarrelA G L) (barredA G L) (rdP G) fee n (r + 1) k t B = iter f n B := by rw [hfd]; rfl
    rw [em] at hq
    have lp : ∀ (rem c : Nat) (h' : Sto), c + rem = n → Fr MkP MkS h h' → (∀ i, i < k → h' 110 i = t i) → h' 110 k = (c : Int) - 1 → BM h' (iter f c B) → WF sc (d + 4) 242 34 [(2, 85), (0, fee), (0, ((msk (rdP G) n : Nat) : Int)), (0, (k : Int))] [] sh sl h' Q := by
      intro rem
      induction rem with
      | zero =>
        intro c h' hc F e ek HB
        have hcn : c = n := by omega
        rw [B_242_34 (F.fix M.1 (by decide +kernel)), w32_id (a := (k : Int)) (by omega) (by omega), if_neg (by omega), if_neg (by omega), Int.toNat_natCast, ek, F.row 87 rfl, M.2.1, W.1.1, show (c : Int) - 1 + 1 = (c : Int) by omega, w32_id (a := (c : Int)) (by omega) (by omega), w32_id (a := (n : Int)) (by omega) (by omega), if_neg (by omega)]
        refine ⟨⟨by omega, by omega⟩, ⟨by omega, by omega⟩, ⟨by omega, by omega⟩, hq _ _ (by omega) (F.setP rfl) (fun i hi => by rw [setH_k (by omega)]; exact e i hi) ?_⟩
        rw [hcn] at HB
        unfold BM; rw [setH_o (by decide), setH_o (by decide)]; exact HB
      | succ rem ih =>
        intro c h' hc F e ek HB
        have efi : iter f (c + 1) B = f c (iter f c B) := rfl
        obtain ⟨Bc, hBc⟩ : ∃ Bc, iter f c B = Bc := ⟨_, rfl⟩
        rw [hBc] at efi HB
        have efc : f c Bc = if okR (rdP G) (barredA G L) t k c = true then mC (countsA G L) (quarrelA G L) (barredA G L) (rdP G) fee n r (k + 1) (up t k (c : Int)) (updB (countsA G L) (quarrelA G L) fee Bc (up t k (c : Int)) (k + 1)) else Bc := by rw [hfd]
        rw [B_242_34 (F.fix M.1 (by decide +kernel)), w32_id (a := (k : Int)) (by omega) (by omega), if_neg (by omega), if_neg (by omega), Int.toNat_natCast, ek, F.row 87 rfl, M.2.1, W.1.1, show (c : Int) - 1 + 1 = (c : Int) by omega, w32_id (a := (c : Int)) (by omega) (by omega), w32_id (a := (n : Int)) (by omega) (by omega), if_pos (by omega)]
        refine ⟨⟨by omega, by omega⟩, ⟨by omega, by omega⟩, ⟨by omega, by omega⟩, ?_⟩
        have F2 : Fr MkP MkS h (setH h' 110 k (c : Int)) := F.setP rfl
        have e2 : ∀ i, i < k → setH h' 110 k (c : Int) 110 i = t i := fun i hi => by rw [setH_k (by omega)]; exact e i hi
        have HB2 : BM (setH h' 110 k (c : Int)) Bc := by unfold BM; rw [setH_o (by decide), setH_o (by decide)]; exact HB
        have H2 := H.fr F2
        refine sp_isNx H2 (by omega) e2 T (setH_self _ _ _ _) (by omega) ?_
        simp only [pushR0]
        rw [B_242_80 H2.1.1]
        by_cases ok : okR (rdP G) (barredA G L) t k c = true
        · rw [if_pos ok] at efc
          have o := okR_iff.mp ok
          have T' := T.step (c := c) (by omega) o.1
          have N' := N.step o.2.2
          rw [if_pos ok, show w32 1 = 1 from rfl, if_neg (by decide), show (k : Int) + 1 = ((k + 1 : Nat) : Int) by omega]
          refine sp_take (t := up t k (c : Int)) H2 hf (by omega) (fun i hi => ?_) T' N' HB2 (fun h3 F3 HB3 => ?_)
          · by_cases ei : i = k
            · subst ei; rw [setH_self, up_s]
            · rw [up_n ei]; exact e2 i (by omega)
          have F3' : Fr MkP MkS h h3 := F2.trans (F3.mono rfl)
          simp only [pushR9]
          rw [B_242_92 (F3'.fix M.1 (by decide +kernel)), w32_id (a := ((k + 1 : Nat) : Int)) (by omega) (by omega), Int.toNat_natCast]
          refine ⟨⟨by omega, by omega⟩, ?_⟩
          refine ihr (k + 1) (up t k (c : Int)) (updB (countsA G L) (quarrelA G L) fee Bc (up t k (c : Int)) (k + 1)) _ _ (by omega) rfl T' N' (F3'.setP rfl) (fun i hi => ?_) (setH_self _ _ _ _) ?_ (fun h4 Kx hK F4 e4 HB4 => ?_)
          · rw [setH_k (by omega), F3.row 110 rfl]
            by_cases ei : i = k
            · subst ei; rw [setH_self, up_s]
            · rw [up_n ei]; exact e2 i (by omega)
          · unfold BM; rw [setH_o (by decide), setH_o (by decide)]; exact HB3
          · rw [hK, show ((k + 1 : Nat) : Int) - 1 = (k : Int) by omega]
            exact ih (c + 1) h4 (by omega) F4 (fun i hi => by rw [e4 i (by omega), up_n (by omega)]) (by rw [e4 k (by omega), up_s]; omega) (by rw [efi, efc]; exact HB4)
        · rw [if_neg ok] at efc
          rw [if_neg ok, w32_0, if_pos rfl]
          exact ih (c + 1) _ (by omega) F2 e2 (by rw [setH_self]; omega) (by rw [efi, efc]; exact HB2)
    exact lp n 0 h' (by omega) F e (by rw [ek]; rfl) HB
end MADEM
