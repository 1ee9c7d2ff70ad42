/-! ===== bits once more; searches ===== -/
theorem gl32 {a i : Nat} (ha : a < 4294967296) : (BitVec.ofInt 32 (a : Int)).getLsbD i = a.testBit i := by
  rw [← BitVec.testBit_toNat, bv32 ha]
theorem bvm1 : BitVec.ofInt 32 (-1) = BitVec.allOnes 32 := by decide +kernel
theorem tb_ge {a i : Nat} (ha : a < 1024) (hi : 10 ≤ i) : a.testBit i = false := Nat.testBit_lt_two_pow (Nat.lt_of_lt_of_le (show a < 2 ^ 10 from ha) (Nat.pow_le_pow_right (by omega) hi))
theorem clr_bit {a s : Nat} (ha : a < 1024) (hs : s < 10) : ∃ b : Nat, iand (a : Int) (ixor (ishl 1 (s : Int)) (-1)) = (b : Int) ∧ b < 1024 ∧ ∀ i, b.testBit i = (a.testBit i && decide (i ≠ s)) := by
  have p : 2 ^ s < 2 ^ 10 := Nat.pow_lt_pow_right (by omega) hs
  have e0 : iand (a : Int) (ixor (ishl 1 (s : Int)) (-1)) = (BitVec.ofInt 32 (a : Int) &&& (BitVec.ofInt 32 ((2 ^ s : Nat) : Int) ^^^ BitVec.ofInt 32 (-1))).toInt := by
    rw [ishl_one (by omega), iand_bv, ixor_bv, BitVec.ofInt_toInt]
  have e1 : (BitVec.ofInt 32 (a : Int) &&& (BitVec.ofInt 32 ((2 ^ s : Nat) : Int) ^^^ BitVec.ofInt 32 (-1))).toNat ≤ a := by
    rw [BitVec.toNat_and, bv32 (by omega)]; exact Nat.and_le_left
  refine ⟨_, e0.trans (toInt_small (by omega)), by omega, fun i => ?_⟩
  rw [BitVec.testBit_toNat, BitVec.getLsbD_and, BitVec.getLsbD_xor, gl32 (by omega), gl32 (by omega), Nat.testBit_two_pow, bvm1, BitVec.getLsbD_allOnes]
  by_cases h32 : i < 32
  · by_cases e : i = s
    · subst e; simp [h32]
    · have e' : ¬ s = i := fun q => e q.symm
      simp [h32, e, e']
  · rw [tb_ge ha (by omega), Bool.false_and, Bool.false_and]
theorem andnot_bit {a u s : Nat} (ha : a < 1024) (hu : u < 1024) (hs : s < 10) : w32 (iand (iand (a : Int) (ixor (u : Int) (-1))) (ishl 1 (s : Int))) = 0 ↔ ¬ (a.testBit s = true ∧ u.testBit s = false) := by
  have ep : BitVec.ofInt 32 ((2 ^ s : Nat) : Int) = BitVec.twoPow 32 s := by
    have : ∀ k : Fin 10, BitVec.ofInt 32 ((2 ^ (k : Nat) : Nat) : Int) = BitVec.twoPow 32 (k : Nat) := by decide +kernel
    exact this ⟨s, hs⟩
  have ew : w32 (BitVec.twoPow 32 s).toInt ≠ 0 := by
    have : ∀ k : Fin 10, w32 (BitVec.twoPow 32 (k : Nat)).toInt ≠ 0 := by decide +kernel
    exact this ⟨s, hs⟩
  have e0 : iand (iand (a : Int) (ixor (u : Int) (-1))) (ishl 1 (s : Int)) = (BitVec.ofInt 32 (a : Int) &&& (BitVec.ofInt 32 (u : Int) ^^^ BitVec.ofInt 32 (-1)) &&& BitVec.ofInt 32 ((2 ^ s : Nat) : Int)).toInt := by
    rw [ishl_one (by omega), iand_bv, iand_bv, ixor_bv, BitVec.ofInt_toInt, BitVec.ofInt_toInt]
  have gb : (BitVec.ofInt 32 (a : Int) &&& (BitVec.ofInt 32 (u : Int) ^^^ BitVec.ofInt 32 (-1))).getLsbD s = (a.testBit s && !u.testBit s) := by
    rw [BitVec.getLsbD_and, BitVec.getLsbD_xor, gl32 (by omega), gl32 (by omega), bvm1, BitVec.getLsbD_allOnes]
    have : s < 32 := by omega
    simp [this]
  rw [e0, ep, BitVec.and_twoPow, gb]
  by_cases h1 : a.testBit s = true ∧ u.testBit s = false
  · have hb : (a.testBit s && !u.testBit s) = true := by rw [h1.1, h1.2]; rfl
    rw [hb, if_pos rfl]
    exact ⟨fun q => absurd q ew, fun q => absurd h1 q⟩
  · have h2 : (a.testBit s && !u.testBit s) = false := by
      cases e1 : a.testBit s
      · rfl
      · cases e2 : u.testBit s
        · exact absurd ⟨e1, e2⟩ h1
        · rfl
    rw [h2, if_neg (by decide)]
    exact ⟨fun _ => h1, fun _ => by decide +kernel⟩
/-- inside & ~friends -/
theorem andnot_zero {a u : Nat} (ha : a < 1024) (hu : u < 1024) : w32 (iand (a : Int) (ixor (u : Int) (-1))) = 0 ↔ ∀ i, i < 10 → a.testBit i = true → u.testBit i = true := by
  have e0 : iand (a : Int) (ixor (u : Int) (-1)) = (BitVec.ofInt 32 (a : Int) &&& (BitVec.ofInt 32 (u : Int) ^^^ BitVec.ofInt 32 (-1))).toInt := by
    rw [iand_bv, ixor_bv, BitVec.ofInt_toInt]
  have e1 : (BitVec.ofInt 32 (a : Int) &&& (BitVec.ofInt 32 (u : Int) ^^^ BitVec.ofInt 32 (-1))).toNat ≤ a := by
    rw [BitVec.toNat_and, bv32 (by omega)]; exact Nat.and_le_left
  have gb : ∀ i, i < 32 → (BitVec.ofInt 32 (a : Int) &&& (BitVec.ofInt 32 (u : Int) ^^^ BitVec.ofInt 32 (-1))).getLsbD i = (a.testBit i && !u.testBit i) := fun i hi => by
    rw [BitVec.getLsbD_and, BitVec.getLsbD_xor, gl32 (by omega), gl32 (by omega), bvm1, BitVec.getLsbD_allOnes]
    simp [hi]
  rw [e0, toInt_small (by omega), w32_id (by omega) (by omega)]
  constructor
  · intro h i hi ht
    have hz : (BitVec.ofInt 32 (a : Int) &&& (BitVec.ofInt 32 (u : Int) ^^^ BitVec.ofInt 32 (-1))).toNat = 0 := by omega
    have := gb i (by omega)
    rw [← BitVec.testBit_toNat, hz, Nat.zero_testBit, ht, Bool.true_and] at this
    cases e : u.testBit i
    · rw [e] at this; exact absurd this (by decide)
    · rfl
  · intro h
    have hz : (BitVec.ofInt 32 (a : Int) &&& (BitVec.ofInt 32 (u : Int) ^^^ BitVec.ofInt 32 (-1))).toNat = 0 := by
      refine Nat.eq_of_testBit_eq (fun i => ?_)
      rw [Nat.zero_testBit, BitVec.testBit_toNat]
      by_cases h32 : i < 32
      · rw [gb i h32]
        by_cases h10 : i < 10
        · cases e : a.testBit i
          · rfl
          · rw [h i h10 e]; rfl
        · rw [tb_ge ha (by omega), Bool.false_and]
      · exact BitVec.getLsbD_of_ge _ _ (by omega)
    omega
def dfI {α : Type} (g : Nat → Option α) (n : Nat) : Nat → Option α
  | 0 => none
  | r + 1 => (g (n - (r + 1))).or (dfI g n r)
theorem dfI_s {α : Type} {g : Nat → Option α} {n r c : Nat} (h : c + (r + 1) = n) : dfI g n (r + 1) = (g c).or (dfI g n r) := by
  show (g (n - (r + 1))).or (dfI g n r) = _
  rw [show n - (r + 1) = c by omega]
/-- the first row of choices, in their order, that goes to the end -/
def dfs (ok : (Nat → Int) → Nat → Nat → Bool) (n : Nat) : Nat → Nat → (Nat → Int) → Option (Nat → Int)
  | 0, _, t => some t
  | r + 1, k, t => dfI (fun c => if ok t k c = true then dfs ok n r (k + 1) (up t k (c : Int)) else none) n n
def bfOK (S : Nat → Nat) (t : Nat → Int) (k c : Nat) : Bool := (S k).testBit c && decide (∀ i, i < k → t i ≠ (c : Int))
theorem bfOK_iff {S : Nat → Nat} {t : Nat → Int} {k c : Nat} : bfOK S t k c = true ↔ (S k).testBit c = true ∧ ∀ i, i < k → t i ≠ (c : Int) := by
  unfold bfOK; rw [Bool.and_eq_true, decide_eq_true_eq]
section FILLC
variable {sc : Nat × (Nat → Int)} {d : Nat} {sh : Shp} {sl : Nat} {h : Sto} {n N : Nat} {S : Nat → Nat}
theorem sp_fillC (X : Fix sh h) (e0 : h 1 0 = (n : Int)) (hn10 : n ≤ 10) (hN : N ≤ 4) (e17 : h 60 17 = (N : Int)) (e67 : ∀ i, i < N → h 67 i = (S i : Int)) (sb : ∀ i, i < N → S i < 1024) : ∀ (r k D : Nat) (t : Nat → Int) (u : Nat) (h' : Sto) (Q : Pst) (K : Int), r + 1 ≤ D → k + r = N → K = k → u < 1024 → (∀ s, s < 10 → (u.testBit s = true ↔ ∃ i, i < k ∧ t i = (s : Int))) → Fr [70] [] h h' → (∀ i, i < k → h' 70 i = t i) → (∀ h2 t', dfs (bfOK S) n r k t = some t' → Fr [70] [] h h2 → (∀ i, i < N → h2 70 i = t' i) → Q (0, 1) sh sl h2) → (∀ h2, dfs (bfOK S) n r k t = none → Fr [70] [] h h2 → (∀ i, i < k → h2 70 i = t i) → Q (0, 0) sh sl h2) → WM sc D 121 [(2, 60), (0, K), (0, (u : Int))] sh sl h' Q := by
  intro r
  induction r with
  | zero =>
    intro k D t u h' Q K hD hk hK hu hut F e q1 q0
    subst hK
    obtain ⟨D', rfl⟩ : ∃ D', D = D' + 1 := ⟨D - 1, by omega⟩
    rw [B_121_0 (F.fix X (by decide +kernel)), F.row 60 rfl, e17, w32_id (a := (k : Int)) (by omega) (by omega), w32_id (a := (N : Int)) (by omega) (by omega), if_neg (by omega)]
    exact q1 h' t rfl F (fun i hi => e i (by omega))
  | succ r ihr =>
    intro k D t u h' Q K hD hk hK hu hut F e q1 q0
    subst hK
    obtain ⟨D', rfl⟩ : ∃ D', D = D' + 1 := ⟨D - 1, by omega⟩
    rw [B_121_0 (F.fix X (by decide +kernel)), F.row 60 rfl, e17, w32_id (a := (k : Int)) (by omega) (by omega), w32_id (a := (N : Int)) (by omega) (by omega), if_pos (by omega)]
    have ed : dfs (bfOK S) n (r + 1) k t = dfI (fun c => if bfOK S t k c = true then dfs (bfOK S) n r (k + 1) (up t k (c : Int)) else none) n n := rfl
    obtain ⟨g, hg⟩ : ∃ g : Nat → Option (Nat → Int), g = fun c => if bfOK S t k c = true then dfs (bfOK S) n r (k + 1) (up t k (c : Int)) else none := ⟨_, rfl⟩
    rw [ed, ← hg] at q1 q0
    have lp : ∀ (rem c : Nat) (h' : Sto) (Cx : Int), c + rem = n → Cx = c → Fr [70] [] h h' → (∀ i, i < k → h' 70 i = t i) → (∀ h2 t', dfI g n rem = some t' → Fr [70] [] h h2 → (∀ i, i < N → h2 70 i = t' i) → Q (0, 1) sh sl h2) → (∀ h2, dfI g n rem = none → Fr [70] [] h h2 → (∀ i, i < k → h2 70 i = t i) → Q (0, 0) sh sl h2) → WF sc (D' + 1) 121 12 [(2, 60), (0, (k : Int)), (0, (u : Int)), (0, Cx)] [] sh sl h' Q := by
      intro rem
      induction rem with
      | zero =>
        intro c h' Cx hc hC F e q1 q0
        subst hC
        rw [B_121_12 (F.fix X (by decide +kernel)), F.row 1 rfl, e0, w32_id (a := (n : Int)) (by omega) (by omega), w32_id (a := (c : Int)) (by omega) (by omega), if_pos (by omega)]
        exact q0 h' rfl F e
      | succ rem ih =>
        intro c h' Cx hc hC F e q1 q0
        subst hC
        have es := dfI_s (g := g) hc
        have egc : g c = if bfOK S t k c = true then dfs (bfOK S) n r (k + 1) (up t k (c : Int)) else none := by rw [hg]
        rw [es] at q1 q0
        have X' : Fix sh h' := F.fix X (by decide +kernel)
        rw [B_121_12 X', F.row 1 rfl, e0, w32_id (a := (n : Int)) (by omega) (by omega), w32_id (a := (c : Int)) (by omega) (by omega), if_neg (by omega), w32_id (a := (k : Int)) (by omega) (by omega), Int.toNat_natCast, F.row 67 rfl, e67 k (by omega)]
        refine ⟨⟨by omega, by omega⟩, ?_⟩
        have an := andnot_bit (a := S k) (u := u) (s := c) (sb k (by omega)) hu (by omega)
        by_cases hb : (S k).testBit c = true ∧ u.testBit c = false
        · rw [if_neg (fun q => an.mp q hb), setbit hu (by omega)]
          have ok : bfOK S t k c = true := bfOK_iff.mpr ⟨hb.1, fun i hi hti => by
            have := (hut c (by omega)).mpr ⟨i, hi, hti⟩
            rw [hb.2] at this; exact absurd this (by decide)⟩
          rw [if_pos ok] at egc
          have p : 2 ^ c < 2 ^ 10 := Nat.pow_lt_pow_right (by omega) (by omega)
          refine ⟨⟨by omega, by omega⟩, ?_⟩
          refine ihr (k + 1) D' (up t k (c : Int)) (u ||| 2 ^ c) _ _ _ (by omega) (by omega) (by omega) (Nat.or_lt_two_pow (n := 10) hu p) (fun s hs => ?_) (F.setP rfl) (fun i hi => ?_) (fun h2 t' hd F2 e2 => ?_) (fun h2 hd F2 e2 => ?_)
          · rw [Nat.testBit_or, Nat.testBit_two_pow, Bool.or_eq_true, hut s hs, decide_eq_true_eq]
            constructor
            · rintro (⟨i, hi, hti⟩ | q)
              · exact ⟨i, by omega, by rw [up_n (by omega)]; exact hti⟩
              · exact ⟨k, by omega, by rw [up_s, q]⟩
            · rintro ⟨i, hi, hti⟩
              by_cases ei : i = k
              · rw [ei, up_s] at hti; exact Or.inr (by omega)
              · rw [up_n ei] at hti; exact Or.inl ⟨i, by omega, hti⟩
          · by_cases ei : i = k
            · rw [ei, setH_self, up_s]
            · rw [setH_k ei, up_n ei]; exact e i (by omega)
          · simp only [pushR0]
            rw [B_121_59 (F2.fix X (by decide +kernel)), show w32 1 = 1 from rfl, if_neg (by decide)]
            exact q1 h2 t' (by rw [egc, hd]; rfl) F2 e2
          · simp only [pushR0]
            rw [B_121_59 (F2.fix X (by decide +kernel)), w32_0, if_pos rfl]
            have en : g c = none := egc.trans hd
            rw [en, Option.none_or] at q1 q0
            exact ih (c + 1) h2 _ (by omega) (by simp) F2 (fun i hi => by rw [e2 i (by omega), up_n (by omega)]) q1 q0
        · rw [if_pos (an.mpr hb)]
          have nok : ¬ bfOK S t k c = true := fun q => by
            obtain ⟨b1, b2⟩ := bfOK_iff.mp q
            refine hb ⟨b1, ?_⟩
            cases eu : u.testBit c
            · rfl
            · obtain ⟨i, hi, hti⟩ := (hut c (by omega)).mp eu
              exact absurd hti (b2 i hi)
          rw [if_neg nok] at egc
          rw [egc, Option.none_or] at q1 q0
          exact ih (c + 1) h' _ (by omega) (by simp) F e q1 q0
    exact lp n 0 h' _ (by omega) rfl F e q1 q0
end FILLC
