/-! ===== made up: the best row ===== -/
abbrev Bst : Type := Int × Int × (Nat → Int)
def iter {α : Type} (f : Nat → α → α) : Nat → α → α
  | 0, s => s
  | k + 1, s => f k (iter f k s)
theorem iter_id {α : Type} {f : Nat → α → α} {s : α} : ∀ n, (∀ c, c < n → f c s = s) → iter f n s = s := by
  intro n
  induction n with
  | zero => intro _; rfl
  | succ n ih => intro h; show f n (iter f n s) = s; rw [ih (fun c hc => h c (by omega))]; exact h n (by omega)
theorem iter_congr {α : Type} {f g : Nat → α → α} {s : α} : ∀ n, (∀ c, c < n → f c = g c) → iter f n s = iter g n s := by
  intro n
  induction n with
  | zero => intro _; rfl
  | succ n ih => intro h; show f n (iter f n s) = g n (iter g n s); rw [ih (fun c hc => h c (by omega)), h n (by omega)]
theorem iter_pos {α : Type} {f : Nat → α → α} {p : Nat → Bool} (h : ∀ c s, p c = false → f c s = s) : ∀ n s, iter f n s = iter (fun i => f (gpA p n i)) (cnt p n) s := by
  intro n
  induction n with
  | zero => intro s; rfl
  | succ n ih =>
    intro s
    show f n (iter f n s) = _
    by_cases hp : p n = true
    · have ec : cnt p (n + 1) = cnt p n + 1 := by simp only [cnt]; rw [if_pos hp]
      have eg : gpA p (n + 1) = fun j => if j = cnt p n then n else gpA p n j := by simp only [gpA]; rw [if_pos hp]
      rw [ec, eg]
      show _ = f (if cnt p n = cnt p n then n else gpA p n (cnt p n)) (iter _ (cnt p n) s)
      rw [if_pos rfl, ih s]
      exact congrArg (f n) (iter_congr (cnt p n) (fun c hc => by show f (gpA p n c) = f (if c = cnt p n then n else gpA p n c); rw [if_neg (by omega)]))
    · have ec : cnt p (n + 1) = cnt p n := by simp only [cnt]; rw [if_neg hp]
      have eg : gpA p (n + 1) = gpA p n := by simp only [gpA]; rw [if_neg hp]
      rw [ec, eg, h n _ (Bool.eq_false_iff.mpr hp), ih s]
theorem gpA_p {p : Nat → Bool} : ∀ n j, j < cnt p n → p (gpA p n j) = true := by
  intro n
  induction n with
  | zero => intro j hj; exact absurd hj (by simp [cnt])
  | succ n ih =>
    intro j hj
    by_cases hp : p n = true
    · have ec : cnt p (n + 1) = cnt p n + 1 := by simp only [cnt]; rw [if_pos hp]
      have eg : gpA p (n + 1) = fun j => if j = cnt p n then n else gpA p n j := by simp only [gpA]; rw [if_pos hp]
      rw [eg]
      show p (if j = cnt p n then n else gpA p n j) = true
      by_cases e : j = cnt p n
      · rw [if_pos e]; exact hp
      · rw [if_neg e]; exact ih j (by omega)
    · have ec : cnt p (n + 1) = cnt p n := by simp only [cnt]; rw [if_neg hp]
      have eg : gpA p (n + 1) = gpA p n := by simp only [gpA]; rw [if_neg hp]
      rw [eg]; exact ih j (by omega)
theorem gpA_sur {p : Nat → Bool} : ∀ n c, c < n → p c = true → ∃ i, i < cnt p n ∧ gpA p n i = c := by
  intro n
  induction n with
  | zero => intro c hc; omega
  | succ n ih =>
    intro c hc hpc
    by_cases hp : p n = true
    · have ec : cnt p (n + 1) = cnt p n + 1 := by simp only [cnt]; rw [if_pos hp]
      have eg : gpA p (n + 1) = fun j => if j = cnt p n then n else gpA p n j := by simp only [gpA]; rw [if_pos hp]
      rw [eg, ec]
      by_cases e : c = n
      · exact ⟨cnt p n, by omega, by show (if cnt p n = cnt p n then n else _) = c; rw [if_pos rfl, e]⟩
      · obtain ⟨i, h1, h2⟩ := ih c (by omega) hpc
        exact ⟨i, by omega, by show (if i = cnt p n then n else gpA p n i) = c; rw [if_neg (by omega)]; exact h2⟩
    · have ec : cnt p (n + 1) = cnt p n := by simp only [cnt]; rw [if_neg hp]
      have eg : gpA p (n + 1) = gpA p n := by simp only [gpA]; rw [if_neg hp]
      rw [eg, ec]
      have e : c ≠ n := fun e => hp (by rw [← e]; exact hpc)
      exact ih c (by omega) hpc
theorem gpA_inj {p : Nat → Bool} : ∀ n i j, i < j → j < cnt p n → gpA p n i ≠ gpA p n j := by
  intro n
  induction n with
  | zero => intro i j _ hj; exact absurd hj (by simp [cnt])
  | succ n ih =>
    intro i j hij hj
    by_cases hp : p n = true
    · have ec : cnt p (n + 1) = cnt p n + 1 := by simp only [cnt]; rw [if_pos hp]
      have eg : gpA p (n + 1) = fun j => if j = cnt p n then n else gpA p n j := by simp only [gpA]; rw [if_pos hp]
      rw [eg]
      show (if i = cnt p n then n else gpA p n i) ≠ (if j = cnt p n then n else gpA p n j)
      rw [if_neg (show i ≠ cnt p n by omega)]
      by_cases e : j = cnt p n
      · rw [if_pos e]; have := gpA_lt (p := p) n i (by omega); omega
      · rw [if_neg e]; exact ih i j hij (by omega)
    · have ec : cnt p (n + 1) = cnt p n := by simp only [cnt]; rw [if_neg hp]
      have eg : gpA p (n + 1) = gpA p n := by simp only [gpA]; rw [if_neg hp]
      rw [eg]; exact ih i j hij (by omega)
section MADE
variable {cn : Nat → Int} {ql : Nat → Nat → Int} {ba : Nat → Nat → Bool} {rd : Nat → Bool} {fee l2 : Int} {n : Nat}
def sT (cn : Nat → Int) (t : Nat → Int) (k : Nat) : Int := psum (fun i => cn (t i).toNat) k
def dQ (ql : Nat → Nat → Int) (t : Nat → Int) (k c : Nat) : Int := if k = 0 then 0 else ql (t (k - 1)).toNat c
def qT (ql : Nat → Nat → Int) (t : Nat → Int) (k : Nat) : Int := psum (fun i => dQ ql t i (t i).toNat) k
theorem psum_congr2 {f g : Nat → Int} : ∀ k, (∀ i, i < k → f i = g i) → psum f k = psum g k := by
  intro k
  induction k with
  | zero => intro _; rfl
  | succ k ih => intro h; show psum f k + f k = psum g k + g k; rw [ih (fun i hi => h i (by omega)), h k (by omega)]
theorem sT_up {t : Nat → Int} {k c : Nat} : sT cn (up t k (c : Int)) (k + 1) = sT cn t k + cn c := by
  unfold sT
  show psum _ k + cn (up t k (c : Int) k).toNat = _
  rw [up_s, Int.toNat_natCast, psum_congr2 k (fun i hi => by rw [up_n (show i ≠ k by omega)])]
theorem qT_up {t : Nat → Int} {k c : Nat} : qT ql (up t k (c : Int)) (k + 1) = qT ql t k + dQ ql t k c := by
  unfold qT
  show psum _ k + dQ ql (up t k (c : Int)) k (up t k (c : Int) k).toNat = _
  have e1 : dQ ql (up t k (c : Int)) k (up t k (c : Int) k).toNat = dQ ql t k c := by
    rw [up_s, Int.toNat_natCast]
    unfold dQ
    by_cases k0 : k = 0
    · rw [if_pos k0, if_pos k0]
    · rw [if_neg k0, if_neg k0, up_n (by omega)]
  rw [e1, psum_congr2 k (fun i hi => ?_)]
  rw [up_n (show i ≠ k by omega)]
  unfold dQ
  by_cases i0 : i = 0
  · rw [if_pos i0, if_pos i0]
  · rw [if_neg i0, if_neg i0, up_n (by omega)]
def bet (B : Bst) (q z : Int) : Prop := q < B.1 ∨ (q = B.1 ∧ z < B.2.1)
theorem bet_mono {B : Bst} {q z q2 z2 : Int} (h : ¬ bet B q z) (h1 : q ≤ q2) (h2 : z ≤ z2) : ¬ bet B q2 z2 := by
  unfold bet at h ⊢; omega
noncomputable def updB (cn : Nat → Int) (ql : Nat → Nat → Int) (fee : Int) (B : Bst) (t : Nat → Int) (k : Nat) : Bst := if sT cn t k = fee ∧ (qT ql t k < B.1 ∨ (qT ql t k = B.1 ∧ (k : Int) < B.2.1)) then (qT ql t k, (k : Int), t) else B
def okR (rd : Nat → Bool) (ba : Nat → Nat → Bool) (t : Nat → Int) (k c : Nat) : Bool := rd c && ((decide (k = 0) || !ba (t (k - 1)).toNat c) && decide (∀ i, i < k → t i ≠ (c : Int)))
theorem okR_iff {t : Nat → Int} {k c : Nat} : okR rd ba t k c = true ↔ rd c = true ∧ (k = 0 ∨ ba (t (k - 1)).toNat c = false) ∧ ∀ i, i < k → t i ≠ (c : Int) := by
  unfold okR
  rw [Bool.and_eq_true, Bool.and_eq_true, Bool.or_eq_true, decide_eq_true_eq, decide_eq_true_eq, Bool.not_eq_true']
noncomputable def mC (cn : Nat → Int) (ql : Nat → Nat → Int) (ba : Nat → Nat → Bool) (rd : Nat → Bool) (fee : Int) (n : Nat) : Nat → Nat → (Nat → Int) → Bst → Bst
  | 0, _, _, B => B
  | r + 1, k, t, B => iter (fun c B => if okR rd ba t k c = true then mC cn ql ba rd fee n r (k + 1) (up t k (c : Int)) (updB cn ql fee B (up t k (c : Int)) (k + 1)) else B) n B
/-- rows as they can be -/
def tV (rd : Nat → Bool) (n : Nat) (t : Nat → Int) (k : Nat) : Prop := ∀ i, i < k → ∃ s : Nat, t i = (s : Int) ∧ s < n ∧ rd s = true
theorem tV.step {t : Nat → Int} {k c : Nat} (H : tV rd n t k) (hc : c < n) (hr : rd c = true) : tV rd n (up t k (c : Int)) (k + 1) := by
  intro i hi
  by_cases e : i = k
  · subst e; exact ⟨c, up_s, hc, hr⟩
  · rw [up_n e]; exact H i (by omega)
/-- sums of j of them, each as often as may be -/
def rcO (cn : Nat → Int) (rd : Nat → Bool) (n : Nat) : Nat → Nat → Prop
  | 0, x => x = 0
  | j + 1, x => ∃ c, c < n ∧ rd c = true ∧ (cn c).toNat ≤ x ∧ rcO cn rd n j (x - (cn c).toNat)
theorem noimp (cb : ∀ c, c < n → 0 ≤ cn c) (hd : ∀ (t : Nat → Int) (k c : Nat), 1 ≤ k → tV rd n t k → c < n → okR rd ba t k c = true → l2 ≤ dQ ql t k c) {B : Bst} : ∀ r k t, (1 ≤ k ∨ l2 = 0) → tV rd n t k → (∀ j x, j ≤ r → rcO cn rd n j x → (x : Int) = fee - sT cn t k → ¬ bet B (qT ql t k + (j : Int) * l2) ((k : Int) + j)) → mC cn ql ba rd fee n r k t (updB cn ql fee B t k) = B := by
  intro r
  induction r with
  | zero =>
    intro k t hk T H
    show updB cn ql fee B t k = B
    unfold updB
    rw [if_neg (fun z => ?_)]
    refine H 0 0 (by omega) rfl (by have := z.1; omega) ?_
    unfold bet
    rw [show ((0 : Nat) : Int) * l2 = 0 by simp, Int.add_zero]
    exact z.2.imp id (fun q => ⟨q.1, by have := q.2; omega⟩)
  | succ r ih =>
    intro k t hk T H
    have e0 : updB cn ql fee B t k = B := by
      unfold updB
      rw [if_neg (fun z => ?_)]
      refine H 0 0 (by omega) rfl (by have := z.1; omega) ?_
      unfold bet
      rw [show ((0 : Nat) : Int) * l2 = 0 by simp, Int.add_zero]
      exact z.2.imp id (fun q => ⟨q.1, by have := q.2; omega⟩)
    rw [e0]
    show iter _ n B = B
    refine iter_id n (fun c hc => ?_)
    show (if okR rd ba t k c = true then _ else B) = B
    by_cases ok : okR rd ba t k c = true
    · rw [if_pos ok]
      have o := okR_iff.mp ok
      have dl : l2 ≤ dQ ql t k c := by
        by_cases k1 : 1 ≤ k
        · exact hd t k c k1 T hc ok
        · have k0 : k = 0 := by omega
          have l0 : l2 = 0 := by rcases hk with z | z; omega; exact z
          unfold dQ; rw [if_pos k0, l0]; exact Int.le_refl _
      refine ih (k + 1) _ (Or.inl (by omega)) (T.step hc o.1) (fun j x hj hx hs => ?_)
      have cc := cb c hc
      have h1 := H (j + 1) (x + (cn c).toNat) (by omega) ⟨c, hc, o.1, by omega, by rw [Nat.add_sub_cancel]; exact hx⟩ (by rw [sT_up] at hs; omega)
      refine bet_mono h1 ?_ (by omega)
      rw [qT_up]
      have : ((j + 1 : Nat) : Int) * l2 = (j : Int) * l2 + l2 := by rw [Int.natCast_add, Int.add_mul]; simp
      omega
    · rw [if_neg ok]
theorem mC_open {r k : Nat} {t : Nat → Int} {B : Bst} : mC cn ql ba rd fee n (r + 1) k t B = iter (fun i B => if okR rd ba t k (gpA rd n i) = true then mC cn ql ba rd fee n r (k + 1) (up t k ((gpA rd n i : Nat) : Int)) (updB cn ql fee B (up t k ((gpA rd n i : Nat) : Int)) (k + 1)) else B) (cnt rd n) B := by
  show iter _ n B = _
  rw [iter_pos (p := rd) (fun c s hp => ?_)]
  rw [if_neg (fun z => by have := (okR_iff.mp z).1; rw [hp] at this; cases this)]
/-- the best so far, as it can be -/
def WB (B : Bst) : Prop := (B.1 = 100000000 ∧ B.2.1 = 100000000) ∨ ((0 ≤ B.1 ∧ B.1 ≤ 100) ∧ 0 ≤ B.2.1 ∧ B.2.1 ≤ 5)
theorem qT_b {t : Nat → Int} {k : Nat} (qb : ∀ a b, a < n → b < n → 0 ≤ ql a b ∧ ql a b ≤ 20) (T : tV rd n t k) : 0 ≤ qT ql t k ∧ qT ql t k ≤ 20 * k := by
  unfold qT
  refine psum_b20 (fun i hi => ?_)
  unfold dQ
  by_cases i0 : i = 0
  · rw [if_pos i0]; omega
  · rw [if_neg i0]
    obtain ⟨s, e, h1, -⟩ := T i hi
    obtain ⟨s2, e2, h2, -⟩ := T (i - 1) (by omega)
    rw [e, e2, Int.toNat_natCast, Int.toNat_natCast]
    exact qb s2 s h2 h1
theorem sT_b {t : Nat → Int} : ∀ {k : Nat}, (∀ c, c < n → 0 ≤ cn c ∧ cn c ≤ 60) → tV rd n t k → 0 ≤ sT cn t k ∧ sT cn t k ≤ 60 * k := by
  intro k
  induction k with
  | zero => intro _ _; exact ⟨Int.le_refl _, Int.le_refl _⟩
  | succ k ih =>
    intro cb T
    have h1 := ih cb (fun i hi => T i (by omega))
    obtain ⟨s, e, h2, -⟩ := T k (by omega)
    have h3 := cb s h2
    unfold sT at h1 ⊢
    show 0 ≤ psum _ k + cn (t k).toNat ∧ psum _ k + cn (t k).toNat ≤ _
    rw [e, Int.toNat_natCast]
    omega
theorem WB.upd {B : Bst} {t : Nat → Int} {k : Nat} (qb : ∀ a b, a < n → b < n → 0 ≤ ql a b ∧ ql a b ≤ 20) (T : tV rd n t k) (hk : k ≤ 5) (H : WB B) : WB (updB cn ql fee B t k) := by
  unfold updB
  have := qT_b (ql := ql) qb T
  split
  · exact Or.inr ⟨⟨this.1, by show qT ql t k ≤ 100; omega⟩, by show (0 : Int) ≤ (k : Int); omega, by show (k : Int) ≤ 5; omega⟩
  · exact H
end MADE
