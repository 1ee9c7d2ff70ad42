/-! ===== made up: the class's search ===== -/
theorem lb_shr0 (z : Int) {x : Nat} (hx : x < 64) : lb (lshr z (x : Int)) 0 = lb z x := by
  have h1 : ∀ k : Fin 64, ((((oI ((k : Nat) : Int)).toInt64 &&& 63).toBitVec).smod 64).toNat = (k : Nat) := by decide +kernel
  unfold lb lshr
  rw [oL_back, Int64.toBitVec_shiftRight, BitVec.sshiftRight_eq', h1 ⟨x, hx⟩, BitVec.getLsbD_sshiftRight]
  simp [hx]
theorem ite_i {c : Prop} [Decidable c] {a b : Prop} (h1 : c → a) (h2 : ¬ c → b) : (if c then a else b) := by
  by_cases h : c
  · rw [if_pos h]; exact h1 h
  · rw [if_neg h]; exact h2 h
theorem lb_one : ∀ j : Fin 64, lb 1 (j : Nat) = decide ((j : Nat) = 0) := by decide +kernel
theorem lb_zero : ∀ j : Fin 64, lb 0 (j : Nat) = false := by decide +kernel
theorem l_bit {z : Int} {x : Nat} (hx : x < 64) : w64 (land (lshr z (x : Int)) 1) = 0 ↔ lb z x = false := by
  have r1 := land_rng (lshr z (x : Int)) 1
  have e0 := lb_shr0 z hx
  rw [w64_id r1.1 r1.2]
  constructor
  · intro h
    have := lb_and (lshr z (x : Int)) 1 0
    rw [h, lb_zero ⟨0, by omega⟩, e0, lb_one ⟨0, by omega⟩] at this
    simpa using this.symm
  · intro h
    refine lb_ext r1 ⟨by omega, by omega⟩ (fun j hj => ?_)
    rw [lb_and, lb_one ⟨j, hj⟩, lb_zero ⟨j, hj⟩]
    by_cases j0 : j = 0
    · subst j0; rw [e0, h]; rfl
    · rw [decide_eq_false j0, Bool.and_false]
theorem va_cp {f g : Nat → Int} {n i : Nat} (hi : i < n) : va_cpy f g 0 0 n i = f i := by
  rw [pk_cpy_in (by omega) (by omega)]; simp
section MADEC
variable {sc : Nat × (Nat → Int)} {d : Nat} {sh : Shp} {sl : Nat} {h : Sto} {Q : Pst} {cn : Nat → Int} {ql : Nat → Nat → Int} {ba : Nat → Nat → Bool} {rd : Nat → Bool} {fee l2 : Int} {n : Nat}
theorem lp_need {rest : Int} {most : Nat} (X : Fix sh h) (hr : -1000 ≤ rest ∧ rest ≤ 60) (hm : most ≤ 5) (H : ∀ j x, j ≤ 5 → x < 64 → rcO cn rd n j x → lb (h 65 j) x = true) (hq : ∀ z : Int, ((z = -1 ∧ ∀ j x, j ≤ most → rcO cn rd n j x → (x : Int) = rest → False) ∨ (∃ v : Nat, z = v ∧ v ≤ 5 ∧ ∀ j x, j ≤ most → rcO cn rd n j x → (x : Int) = rest → v ≤ j)) → Q (0, z) sh sl h) : ∀ (rem k : Nat) (K : Int), k + rem = most + 1 → K = k → (∀ j x, j < k → rcO cn rd n j x → (x : Int) = rest → False) → WF sc (d + 1) 113 2 [(2, 60), (0, rest), (0, (most : Int)), (0, K)] [] sh sl h Q := by
  intro rem
  induction rem with
  | zero =>
    intro k K hk hK hn
    subst hK
    rw [B_113_2 X, w32_id (a := (most : Int)) (by omega) (by omega), w32_id (a := (k : Int)) (by omega) (by omega), if_pos (by omega)]
    exact hq _ (Or.inl ⟨rfl, fun j x hj => hn j x (by omega)⟩)
  | succ rem ih =>
    intro k K hk hK hn
    subst hK
    rw [B_113_2 X, w32_id (a := (most : Int)) (by omega) (by omega), w32_id (a := (k : Int)) (by omega) (by omega), if_neg (by omega), if_neg (by omega), w32_id (a := rest) (by omega) (by omega)]
    by_cases c0 : rest < 0
    · rw [if_pos c0]
      exact hq _ (Or.inl ⟨rfl, fun j x _ _ hx => by omega⟩)
    rw [if_neg c0, Int.toNat_natCast]
    refine ⟨⟨by omega, by omega⟩, ?_⟩
    obtain ⟨y, hy⟩ : ∃ y : Nat, rest = y := ⟨rest.toNat, by omega⟩
    have lbt := l_bit (z := h 65 k) (x := y) (by omega)
    rw [← hy] at lbt
    by_cases c1 : lb (h 65 k) y = false
    · rw [if_pos (lbt.mpr c1)]
      refine ih (k + 1) _ (by omega) (by simp) (fun j x hj hx he => ?_)
      by_cases ej : j = k
      · subst ej
        have : x = y := by omega
        subst this
        rw [H j x (by omega) (by omega) hx] at c1
        cases c1
      · exact hn j x (by omega) hx he
    · rw [if_neg (fun q => c1 (lbt.mp q))]
      exact hq _ (Or.inr ⟨k, rfl, by omega, fun j x hj hx he => by
        by_cases q : j < k
        · exact absurd (hn j x q hx he) id
        · omega⟩)
/-- the best so far, in the class -/
def BC (h : Sto) (B : Bst) : Prop := (h 60 15 = -1 ∧ B.1 = 100000000 ∧ B.2.1 = 100000000) ∨ (h 60 15 = B.2.1 ∧ h 60 14 = B.1 ∧ ((0 ≤ B.1 ∧ B.1 ≤ 100) ∧ 0 ≤ B.2.1 ∧ B.2.1 ≤ 5) ∧ ∀ i : Nat, (i : Int) < B.2.1 → h 69 i = B.2.2 i)
theorem sp_better {B : Bst} {q z : Int} (X : Fix sh h) (H : BC h B) (hq : 0 ≤ q ∧ q ≤ 1000) (hz : 0 ≤ z ∧ z ≤ 100) (q1 : bet B q z → Q (0, 1) sh sl h) (q0 : ¬ bet B q z → Q (0, 0) sh sl h) : WM sc (d + 1) 116 [(2, 60), (0, q), (0, z)] sh sl h Q := by
  unfold bet at q1 q0
  rw [B_116_0 X, w32_id (a := q) (by omega) (by omega), w32_id (a := z) (by omega) (by omega)]
  rcases H with ⟨a, b, c⟩ | ⟨a, b, c, -⟩
  · rw [a, show w32 (-1) = -1 from rfl, if_pos rfl]
    exact q1 (by omega)
  · rw [a, b, w32_id (a := B.2.1) (by omega) (by omega), w32_id (a := B.1) (by omega) (by omega), if_neg (by omega)]
    by_cases c1 : q < B.1
    · rw [if_pos c1]; exact q1 (Or.inl c1)
    rw [if_neg c1]
    by_cases c2 : q = B.1
    · rw [if_neg (fun y => y c2)]
      by_cases c3 : B.2.1 ≤ z
      · rw [if_pos c3]; exact q0 (by omega)
      · rw [if_neg c3]; exact q1 (by omega)
    · rw [if_pos c2]; exact q0 (by omega)
def MkC (h : Sto) (cn : Nat → Int) (ql : Nat → Nat → Int) (ba : Nat → Nat → Bool) (rd : Nat → Bool) (fee l2 : Int) (n : Nat) : Prop := h 60 11 = ((cnt rd n : Nat) : Int) ∧ (∀ i, i < cnt rd n → h 61 i = ((gpA rd n i : Nat) : Int)) ∧ (∀ c, c < n → rd c = true → h 62 c = cn c) ∧ h 60 12 = fee ∧ h 60 13 = l2 ∧ (∀ a b, a < n → b < n → rd a = true → rd b = true → a ≠ b → h 63 (10 * a + b) = ql a b ∧ h 64 (10 * a + b) = (if ba a b = true then 1 else 0)) ∧ ∀ j x, j ≤ 5 → x < 64 → rcO cn rd n j x → lb (h 65 j) x = true
abbrev ExP : List Nat := [66, 69]
abbrev ExS : List (Nat × Nat) := [(60, 14), (60, 15)]
theorem MkC.fr {h' : Sto} (H : MkC h cn ql ba rd fee l2 n) (F : Fr ExP ExS h h') : MkC h' cn ql ba rd fee l2 n := by
  unfold MkC
  rw [F.at 60 11 rfl, F.row 61 rfl, F.row 62 rfl, F.at 60 12 rfl, F.at 60 13 rfl, F.row 63 rfl, F.row 64 rfl, F.row 65 rfl]
  exact H
theorem BC.upd {h' : Sto} {B : Bst} {t : Nat → Int} {k : Nat} (H : BC h B) (e1 : h' 60 15 = h 60 15) (e2 : h' 60 14 = h 60 14) (e3 : h' 69 = h 69) : BC h' B := by
  unfold BC; rw [e1, e2, e3]; exact H
theorem sp_ext (X : Fix sh h) (hn10 : n ≤ 10) (K : MkC h cn ql ba rd fee l2 n) (cb : ∀ c, c < n → 0 ≤ cn c ∧ cn c ≤ 60) (qb : ∀ a b, a < n → b < n → 0 ≤ ql a b ∧ ql a b ≤ 20) (lb2 : 0 ≤ l2 ∧ l2 ≤ 20) (hl2 : ∀ a b, a < n → b < n → rd a = true → rd b = true → a ≠ b → l2 ≤ ql a b) (hf : 0 ≤ fee ∧ fee ≤ 60) : ∀ (r k D : Nat) (t : Nat → Int) (u : Nat) (B : Bst) (h' : Sto) (Q : Pst) (Kx Sx Qx : Int), r + 2 ≤ D → k + r = 5 → Kx = k → Sx = sT cn t k → Qx = qT ql t k → u < 1024 → (∀ s, s < 10 → (u.testBit s = true ↔ ∃ i, i < k ∧ t i = (s : Int))) → tV rd n t k → Fr ExP ExS h h' → (∀ i, i < k → h' 66 i = t i) → BC h' B → (∀ h2, Fr ExP ExS h h2 → (∀ i, i < k → h2 66 i = t i) → BC h2 (mC cn ql ba rd fee n r k t (updB cn ql fee B t k)) → Q (9, 0) sh sl h2) → WM sc D 115 [(2, 60), (0, Kx), (0, Sx), (0, Qx), (0, (u : Int))] sh sl h' Q := by
  have hN := cnt_le rd n
  have hd : ∀ (t : Nat → Int) (k c : Nat), 1 ≤ k → tV rd n t k → c < n → okR rd ba t k c = true → l2 ≤ dQ ql t k c := fun t k c k1 T hc ok => by
    obtain ⟨s, e, h1, h2⟩ := T (k - 1) (by omega)
    have o := okR_iff.mp ok
    unfold dQ
    rw [if_neg (by omega), e, Int.toNat_natCast]
    refine hl2 s c h1 hc h2 o.1 (fun q => o.2.2 (k - 1) (by omega) (by rw [e, q]))
  intro r
  induction r with
  | zero =>
    intro k D t u B h' Q Kx Sx Qx hD hk hK hS hQ hu hut T F e HB hq
    subst hK hS hQ
    obtain ⟨D', rfl⟩ : ∃ D', D = D' + 2 := ⟨D - 2, by omega⟩
    have X' : Fix sh h' := F.fix X (by decide +kernel)
    have sb := sT_b (rd := rd) cb T
    have qbb := qT_b (ql := ql) qb T
    have K' := K.fr F
    rw [B_115_0 X', K'.2.2.2.1, w32_id (a := sT cn t k) (by omega) (by omega), w32_id (a := fee) (by omega) (by omega), w32_id (a := (k : Int)) (by omega) (by omega), if_neg (show ¬ (k : Int) < 5 by omega)]
    by_cases cs : sT cn t k = fee
    case neg =>
      rw [if_pos cs]
      refine hq h' F e ?_
      show BC h' (updB cn ql fee B t k)
      unfold updB; rw [if_neg (fun q => cs q.1)]; exact HB
    rw [if_neg (fun q => q cs)]
    refine sp_better X' HB (by omega) (by omega) (fun b1 => ?_) (fun b0 => ?_)
    · simp only [pushR0]
      rw [B_115_14 X', show w32 1 = 1 from rfl, if_neg (by decide), w32_id (a := (k : Int)) (by omega) (by omega), if_neg (show ¬ (k : Int) < 5 by omega), Int.toNat_natCast]
      refine ⟨by omega, hq _ (((F.set rfl).set rfl).rowP rfl) (fun i hi => by rw [rowH_o (by decide), setH_o (by decide), setH_o (by decide)]; exact e i hi) ?_⟩
      show BC _ (updB cn ql fee B t k)
      unfold updB
      rw [if_pos ⟨cs, b1⟩]
      refine Or.inr ⟨by rw [rowH_o (by decide), setH_self], by rw [rowH_o (by decide), setH_k (by decide), setH_self], ⟨⟨qbb.1, by show qT ql t k ≤ 100; omega⟩, by show (0 : Int) ≤ (k : Int); omega, by show (k : Int) ≤ 5; omega⟩, fun i hi => ?_⟩
      have hi' : i < k := by have : (i : Int) < (k : Int) := hi
                             omega
      rw [rowH_s, va_cp hi']; exact e i hi'
    · simp only [pushR0]
      rw [B_115_14 X', w32_0, if_pos rfl, w32_id (a := (k : Int)) (by omega) (by omega), if_neg (show ¬ (k : Int) < 5 by omega)]
      refine hq h' F e ?_
      show BC h' (updB cn ql fee B t k)
      unfold updB; rw [if_neg (fun q => b0 q.2)]; exact HB
  | succ r ihr =>
    intro k D t u B h' Q Kx Sx Qx hD hk hK hS hQ hu hut T F e HB hq
    subst hK hS hQ
    obtain ⟨D', rfl⟩ : ∃ D', D = D' + 2 := ⟨D - 2, by omega⟩
    have X' : Fix sh h' := F.fix X (by decide +kernel)
    have sb := sT_b (rd := rd) cb T
    have qbb := qT_b (ql := ql) qb T
    have K' := K.fr F
    obtain ⟨B1, hB1⟩ : ∃ B1, updB cn ql fee B t k = B1 := ⟨_, rfl⟩
    rw [hB1, mC_open] at hq
    obtain ⟨fO, hfO⟩ : ∃ fO : Nat → Bst → Bst, fO = fun i B => if okR rd ba t k (gpA rd n i) = true then mC cn ql ba rd fee n r (k + 1) (up t k ((gpA rd n i : Nat) : Int)) (updB cn ql fee B (up t k ((gpA rd n i : Nat) : Int)) (k + 1)) else B := ⟨_, rfl⟩
    rw [← hfO] at hq
    have lp : ∀ (rem i : Nat) (h' : Sto) (Ix : Int) (j6 j7 j8 j9 j10 : V), i + rem = cnt rd n → Ix = i → Fr ExP ExS h h' → (∀ i, i < k → h' 66 i = t i) → BC h' (iter fO i B1) → WF sc (D' + 2) 115 50 [(2, 60), (0, (k : Int)), (0, sT cn t k), (0, qT ql t k), (0, (u : Int)), (0, Ix), j6, j7, j8, j9, j10] [] sh sl h' Q := by
      intro rem
      induction rem with
      | zero =>
        intro i h' Ix j6 j7 j8 j9 j10 hi hI F e HB
        subst hI
        have hiN : i = cnt rd n := by omega
        rw [B_115_50 (F.fix X (by decide +kernel)), (K.fr F).1, w32_id (a := ((cnt rd n : Nat) : Int)) (by omega) (by omega), w32_id (a := (i : Int)) (by omega) (by omega), if_pos (by omega)]
        rw [hiN] at HB
        exact hq h' F e HB
      | succ rem ih =>
        intro i h' Ix j6 j7 j8 j9 j10 hi hI F e HB
        subst hI
        have X' : Fix sh h' := F.fix X (by decide +kernel)
        have K' := K.fr F
        obtain ⟨c, hc⟩ : ∃ c, gpA rd n i = c := ⟨_, rfl⟩
        have hcn : c < n := by rw [← hc]; exact gpA_lt n i (by omega)
        have hcr : rd c = true := by rw [← hc]; exact gpA_p n i (by omega)
        have e61 : h' 61 i = (c : Int) := by rw [K'.2.1 i (by omega), hc]
        have e62 : h' 62 c = cn c := K'.2.2.1 c hcn hcr
        have cc := cb c hcn
        have efi : iter fO (i + 1) B1 = fO i (iter fO i B1) := rfl
        obtain ⟨Bi, hBi⟩ : ∃ Bi, iter fO i B1 = Bi := ⟨_, rfl⟩
        rw [hBi] at efi HB
        have efo : fO i Bi = if okR rd ba t k c = true then mC cn ql ba rd fee n r (k + 1) (up t k (c : Int)) (updB cn ql fee Bi (up t k (c : Int)) (k + 1)) else Bi := by rw [hfO]; show (if okR rd ba t k (gpA rd n i) = true then _ else Bi) = _; rw [hc]
        -- not gone on with
        have skip : ∀ (h2 : Sto) (x6 x7 x8 : Int) (j9 j10 : V), Fr ExP ExS h h2 → (∀ i, i < k → h2 66 i = t i) → BC h2 (fO i Bi) → WF sc (D' + 2) 115 213 [(2, 60), (0, (k : Int)), (0, sT cn t k), (0, qT ql t k), (0, (u : Int)), (0, (i : Int)), (0, x6), (0, x7), (0, x8), j9, j10] [] sh sl h2 Q := fun h2 x6 x7 x8 j9 j10 F2 e2 H2 => by
          rw [B_115_213 (F2.fix X (by decide +kernel))]
          exact ih (i + 1) h2 _ _ _ _ _ _ (by omega) (by simp) F2 e2 (by rw [efi]; exact H2)
        rw [B_115_50 X', K'.1, w32_id (a := ((cnt rd n : Nat) : Int)) (by omega) (by omega), w32_id (a := (i : Int)) (by omega) (by omega), if_neg (by omega), Int.toNat_natCast, e61, w32_id (a := (c : Int)) (by omega) (by omega), Int.toNat_natCast, e62, K'.2.2.2.1]
        refine ⟨⟨by omega, by omega⟩, ⟨by omega, by omega⟩, ?_⟩
        rw [show (5 : Int) - (k : Int) - 1 = ((r : Nat) : Int) by omega, B_113_0 X']
        refine lp_need (cn := cn) (rd := rd) (n := n) (most := r) X' (by omega) (by omega) K'.2.2.2.2.2.2 (fun z hz => ?_) (r + 1) 0 _ (by omega) rfl (fun j x hj => by omega)
        simp only [pushR0]
        rw [B_115_95 X', bit_nat (by omega) (by omega)]
        by_cases cu : u.testBit c = true
        · rw [if_pos cu, show w32 1 = 1 from rfl, if_pos (by decide)]
          refine skip h' _ _ _ _ _ F e ?_
          rw [efo, if_neg (fun q => ?_)]
          · exact HB
          · obtain ⟨j, hj, ht⟩ := (hut c (by omega)).mp cu
            exact (okR_iff.mp q).2.2 j hj ht
        rw [if_neg cu, w32_0, if_neg (by simp)]
        have nin : ∀ j, j < k → t j ≠ (c : Int) := fun j hj ht => cu ((hut c (by omega)).mpr ⟨j, hj, ht⟩)
        have tv' : tV rd n (up t k (c : Int)) (k + 1) := T.step hcn hcr
        have su : sT cn (up t k (c : Int)) (k + 1) = sT cn t k + cn c := sT_up
        -- no row below is better
        have ni : okR rd ba t k c = true → (∀ j x, j ≤ r → rcO cn rd n j x → (x : Int) = fee - (sT cn t k + cn c) → ¬ bet Bi (qT ql (up t k (c : Int)) (k + 1) + (j : Int) * l2) (((k + 1 : Nat) : Int) + j)) → BC h' (fO i Bi) := fun ok hb => by
          rw [efo, if_pos ok, noimp (fun c hc => (cb c hc).1) hd r (k + 1) _ (Or.inl (by omega)) tv' (fun j x h1 h2 h3 => hb j x h1 h2 (by rw [su] at h3; exact h3))]
          exact HB
        have nok : okR rd ba t k c ≠ true → BC h' (fO i Bi) := fun q => by rw [efo, if_neg q]; exact HB
        rcases hz with ⟨hz, hz2⟩ | ⟨v, hz, hv5, hz2⟩
        · rw [hz, show w32 (-1) = -1 from rfl, if_neg (by simp)]
          refine skip h' _ _ _ _ _ F e ?_
          by_cases ok : okR rd ba t k c = true
          · exact ni ok (fun j x h1 h2 h3 => absurd (hz2 j x h1 h2 h3) id)
          · exact nok ok
        rw [hz, w32_id (a := (v : Int)) (by omega) (by omega), if_pos (by omega), K'.2.2.2.2.1]
        have vl1 : 0 ≤ (v : Int) * l2 := Int.mul_nonneg (by omega) lb2.1
        have vl2 : (v : Int) * l2 ≤ 5 * 20 := Int.mul_le_mul (by omega) lb2.2 lb2.1 (by omega)
        have qu : qT ql (up t k (c : Int)) (k + 1) = qT ql t k + dQ ql t k c := qT_up
        have qb' := qT_b (ql := ql) qb tv'
        have go : ∀ (q' : Int) (j10 : V), okR rd ba t k c = true → q' = qT ql (up t k (c : Int)) (k + 1) → WM sc (D' + 1) 116 [(2, 60), (0, q' + (v : Int) * l2), (0, (k : Int) + 1 + (v : Int))] sh sl h' (fun r sh1 sl1 h1 => WF sc (D' + 2) 115 184 [(2, 60), (0, (k : Int)), (0, sT cn t k), (0, qT ql t k), (0, (u : Int)), (0, (i : Int)), (0, (c : Int)), (0, sT cn t k + cn c), (0, (v : Int)), (0, q'), j10] (pushR r []) sh1 sl1 h1 Q) := by
          intro q' j10 ok hq'
          rw [if_pos ok] at efo
          refine sp_better X' HB (by omega) (by omega) (fun b1 => ?_) (fun b0 => ?_)
          · simp only [pushR0]
            rw [B_115_184 X', show w32 1 = 1 from rfl, if_neg (by decide), w32_id (a := (k : Int)) (by omega) (by omega), Int.toNat_natCast, setbit hu (by omega)]
            have p : 2 ^ c < 2 ^ 10 := Nat.pow_lt_pow_right (by omega) (by omega)
            refine ⟨⟨by omega, by omega⟩, ihr (k + 1) (D' + 1) (up t k (c : Int)) (u ||| 2 ^ c) Bi _ _ _ _ _ (by omega) (by omega) (by omega) su.symm hq' (Nat.or_lt_two_pow (n := 10) hu p) (fun s hs => ?_) tv' (F.setP rfl) (fun i hi => ?_) (HB.upd (t := t) (k := k) (by rw [setH_o (by decide)]) (by rw [setH_o (by decide)]) (by rw [setH_o (by decide)])) (fun h2 F2 e2 H2 => ?_)⟩
            · rw [Nat.testBit_or, Nat.testBit_two_pow, Bool.or_eq_true, hut s hs, decide_eq_true_eq]
              constructor
              · rintro (⟨i, hi, hti⟩ | q)
                · exact ⟨i, by omega, by rw [up_n (by omega)]; exact hti⟩
                · exact ⟨k, by omega, by rw [up_s, q]⟩
              · rintro ⟨i, hi, hti⟩
                by_cases ei : i = k
                · rw [ei, up_s] at hti; exact Or.inr (by omega)
                · rw [up_n ei] at hti; exact Or.inl ⟨i, by omega, hti⟩
            · by_cases ei : i = k
              · rw [ei, setH_self, up_s]
              · rw [setH_k ei, up_n ei]; exact e i (by omega)
            · simp only [pushR9]
              exact skip h2 _ _ _ _ _ F2 (fun i hi => by rw [e2 i (by omega), up_n (by omega)]) (by rw [efo]; exact H2)
          · simp only [pushR0]
            rw [B_115_184 X', w32_0, if_pos rfl]
            refine skip h' _ _ _ _ _ F e (ni ok (fun j x h1 h2 h3 => bet_mono b0 ?_ ?_))
            · have vj := hz2 j x h1 h2 h3
              have : (v : Int) * l2 ≤ (j : Int) * l2 := Int.mul_le_mul_of_nonneg_right (by omega) lb2.1
              omega
            · have vj := hz2 j x h1 h2 h3
              omega
        rw [w32_id (a := (k : Int)) (by omega) (by omega)]
        refine ite_i (fun k0' => ?_) (fun k0' => ?_)
        · have k0 : k = 0 := by omega
          have ok : okR rd ba t k c = true := okR_iff.mpr ⟨hcr, Or.inl k0, nin⟩
          exact go _ _ ok (by rw [qu]; unfold dQ; rw [if_pos k0, Int.add_zero])
        · have k0 : k ≠ 0 := by omega
          obtain ⟨s, es, hs, hsr⟩ := T (k - 1) (by omega)
          have e66 : h' 66 (k - 1) = (s : Int) := by rw [e (k - 1) (by omega), es]
          have ne : s ≠ c := fun q => nin (k - 1) (by omega) (by rw [es, q])
          have e6 := K'.2.2.2.2.2.1 s c hs hcn hsr hcr ne
          have qsc := qb s c hs hcn
          rw [w32_nat (a := (k : Int) - 1) (n := k - 1) (by omega) (by omega), Int.toNat_natCast, e66, w32_nat (a := (s : Int) * 10 + (c : Int)) (n := 10 * s + c) (by omega) (by omega), Int.toNat_natCast, e6.1, e6.2]
          refine ⟨⟨by omega, by omega⟩, ⟨by omega, by omega⟩, ?_⟩
          cases hba : ba s c
          · rw [show (if (false : Bool) = true then (1 : Int) else 0) = 0 from rfl, w32_0, if_pos rfl]
            refine ⟨⟨by omega, by omega⟩, ?_⟩
            have ok : okR rd ba t k c = true := okR_iff.mpr ⟨hcr, Or.inr (by rw [es, Int.toNat_natCast]; exact hba), nin⟩
            exact go _ _ ok (by rw [qu]; unfold dQ; rw [if_neg k0, es, Int.toNat_natCast])
          · rw [if_pos rfl, show w32 1 = 1 from rfl, if_neg (by decide)]
            refine skip h' _ _ _ _ _ F e (nok (fun q => ?_))
            rcases (okR_iff.mp q).2.1 with z | z
            · exact k0 z
            · rw [es, Int.toNat_natCast, hba] at z; cases z
    rw [B_115_0 X', K'.2.2.2.1, w32_id (a := sT cn t k) (by omega) (by omega), w32_id (a := fee) (by omega) (by omega), w32_id (a := (k : Int)) (by omega) (by omega), if_pos (show (k : Int) < 5 by omega)]
    by_cases cs : sT cn t k = fee
    case neg =>
      rw [if_pos cs]
      refine lp (cnt rd n) 0 h' _ _ _ _ _ _ (by omega) rfl F e ?_
      show BC h' B1
      rw [← hB1]; unfold updB; rw [if_neg (fun q => cs q.1)]; exact HB
    rw [if_neg (fun q => q cs)]
    refine sp_better X' HB (by omega) (by omega) (fun b1 => ?_) (fun b0 => ?_)
    · simp only [pushR0]
      rw [B_115_14 X', show w32 1 = 1 from rfl, if_neg (by decide), w32_id (a := (k : Int)) (by omega) (by omega), if_pos (show (k : Int) < 5 by omega), Int.toNat_natCast]
      refine ⟨by omega, lp (cnt rd n) 0 _ _ _ _ _ _ _ (by omega) rfl (((F.set rfl).set rfl).rowP rfl) (fun i hi => by rw [rowH_o (by decide), setH_o (by decide), setH_o (by decide)]; exact e i hi) ?_⟩
      show BC _ B1
      rw [← hB1]
      unfold updB
      rw [if_pos ⟨cs, b1⟩]
      refine Or.inr ⟨by rw [rowH_o (by decide), setH_self], by rw [rowH_o (by decide), setH_k (by decide), setH_self], ⟨⟨qbb.1, by show qT ql t k ≤ 100; omega⟩, by show (0 : Int) ≤ (k : Int); omega, by show (k : Int) ≤ 5; omega⟩, fun i hi => ?_⟩
      have hi' : i < k := by have : (i : Int) < (k : Int) := hi
                             omega
      rw [rowH_s, va_cp hi']; exact e i hi'
    · simp only [pushR0]
      rw [B_115_14 X', w32_0, if_pos rfl, w32_id (a := (k : Int)) (by omega) (by omega), if_pos (show (k : Int) < 5 by omega)]
      refine lp (cnt rd n) 0 h' _ _ _ _ _ _ (by omega) rfl F e ?_
      show BC h' B1
      rw [← hB1]; unfold updB; rw [if_neg (fun q => b0 q.2)]; exact HB
end MADEC
