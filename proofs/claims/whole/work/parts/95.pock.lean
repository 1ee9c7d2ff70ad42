/-! ===== pockets ===== -/
def nxP (p : Nat → Bool) (t : Nat → Int) : Nat → Nat
  | 0 => 0
  | i + 1 => if p i = true ∧ ((nxP p t i : Nat) : Int) ≤ t i then (t i).toNat + 1 else nxP p t i
def ftB (p fr : Nat → Bool) (t : Nat → Int) (c : Int) : Nat → Bool
  | 0 => true
  | i + 1 => ftB p fr t c i && (!p i || (decide (t i ≠ c) || fr i))
def pkS (p : Nat → Bool) (fr : Nat → Nat → Bool) (P : Nat) : Nat → Nat → (Nat → Int) → Option (Nat → Int)
  | 0, _, t => some t
  | r + 1, k, t => if p k = true then dfI (fun c => if ftB p (fr k) t (c : Int) k = true then pkS p fr P r (k + 1) (up t k (c : Int)) else none) (min P (nxP p t k + 1)) (min P (nxP p t k + 1)) else pkS p fr P r (k + 1) (up t k 100)
theorem nxP_congr {p : Nat → Bool} {t t2 : Nat → Int} : ∀ k, (∀ i, i < k → t i = t2 i) → nxP p t k = nxP p t2 k := by
  intro k
  induction k with
  | zero => intro _; rfl
  | succ k ih => intro h; simp only [nxP]; rw [ih (fun i hi => h i (by omega)), h k (by omega)]
theorem ftB_iff {p fr : Nat → Bool} {t : Nat → Int} {c : Int} : ∀ k, ftB p fr t c k = true ↔ ∀ i, i < k → p i = true → t i = c → fr i = true := by
  intro k
  induction k with
  | zero => exact ⟨fun _ i hi => by omega, fun _ => rfl⟩
  | succ k ih =>
    simp only [ftB, Bool.and_eq_true, ih]
    constructor
    · intro ⟨a, b⟩ i hi h1 h2
      by_cases e : i = k
      · subst e
        rw [h1, decide_eq_false (show ¬ t i ≠ c from fun q => q h2)] at b
        simpa using b
      · exact a i (by omega) h1 h2
    · intro a
      refine ⟨fun i hi => a i (by omega), ?_⟩
      cases hp : p k
      · rfl
      · by_cases h2 : t k = c
        · rw [a k (by omega) hp h2]; simp
        · rw [decide_eq_true h2]; simp
/-- choices as they can be -/
def PkT (p : Nat → Bool) (t : Nat → Int) (k : Nat) : Prop := ∀ i, i < k → p i = true → 0 ≤ t i ∧ t i ≤ ((nxP p t i : Nat) : Int)
theorem PkT.le {p : Nat → Bool} {t : Nat → Int} : ∀ {k : Nat}, PkT p t k → nxP p t k ≤ k := by
  intro k
  induction k with
  | zero => intro _; exact Nat.le_refl _
  | succ k ih =>
    intro h
    have := ih (fun i hi => h i (by omega))
    simp only [nxP]
    split
    · rename_i q
      have := h k (by omega) q.1
      omega
    · omega
theorem nxP_gt {p : Nat → Bool} {t : Nat → Int} : ∀ k i, i < k → p i = true → t i < ((nxP p t k : Nat) : Int) := by
  intro k
  induction k with
  | zero => intro i hi; omega
  | succ k ih =>
    intro i hi hp
    simp only [nxP]
    by_cases e : i = k
    · subst e
      split
      · omega
      · rename_i q
        have : ¬ ((nxP p t i : Nat) : Int) ≤ t i := fun z => q ⟨hp, z⟩
        omega
    · have := ih i (by omega) hp
      split
      · omega
      · exact this
theorem PkT.step {p : Nat → Bool} {t : Nat → Int} {k : Nat} {c : Int} (H : PkT p t k) (hc : p k = true → 0 ≤ c ∧ c ≤ ((nxP p t k : Nat) : Int)) : PkT p (up t k c) (k + 1) := by
  intro i hi hp
  rw [nxP_congr (p := p) (t := up t k c) (t2 := t) i (fun j hj => up_n (by omega))]
  by_cases e : i = k
  · subst e; rw [up_s]; exact hc hp
  · rw [up_n e]; exact H i (by omega) hp
theorem nxP_up {p : Nat → Bool} {t : Nat → Int} {k : Nat} {c : Int} : nxP p (up t k c) (k + 1) = if p k = true ∧ ((nxP p t k : Nat) : Int) ≤ c then c.toNat + 1 else nxP p t k := by
  simp only [nxP]
  rw [nxP_congr (p := p) (t := up t k c) (t2 := t) k (fun j hj => up_n (by omega)), up_s]
def mkP (p : Nat → Bool) (t : Nat → Int) (k : Nat) (c : Int) : Nat := msk (fun i => p i && decide (t i = c)) k
theorem mkP_up {p : Nat → Bool} {t : Nat → Int} {k : Nat} {c c2 : Int} : mkP p (up t k c) (k + 1) c2 = if p k = true ∧ c = c2 then mkP p t k c2 ||| 2 ^ k else mkP p t k c2 := by
  unfold mkP
  have e : msk (fun i => p i && decide (up t k c i = c2)) k = msk (fun i => p i && decide (t i = c2)) k := msk_congr k (fun i hi => by rw [up_n (by omega)])
  simp only [msk, e]
  rw [up_s]
  by_cases q : p k = true ∧ c = c2
  · rw [if_pos q, if_pos (by rw [q.1, decide_eq_true q.2]; rfl)]
  · rw [if_neg q, if_neg (fun z => q (by rw [Bool.and_eq_true, decide_eq_true_eq] at z; exact z))]
theorem mkP_new {p : Nat → Bool} {t : Nat → Int} {k : Nat} : mkP p t k ((nxP p t k : Nat) : Int) = 0 := by
  unfold mkP
  refine (msk_ext (fun i => ?_)).symm
  rw [Nat.zero_testBit]
  by_cases hi : i < k
  · rw [decide_eq_true hi, Bool.true_and]
    cases hp : p i
    · rfl
    · have := nxP_gt (p := p) (t := t) k i hi hp
      rw [decide_eq_false (by omega)]; rfl
  · rw [decide_eq_false hi]; rfl
theorem mkP_lt {p : Nat → Bool} {t : Nat → Int} {k : Nat} {c : Int} (hk : k ≤ 10) : mkP p t k c < 1024 := msk_lt10 hk
/-- ten pockets are enough -/
theorem dfI_none {α : Type} {g : Nat → Option α} {n : Nat} : ∀ r c, c + r = n → dfI g n r = none → ∀ i, c ≤ i → i < n → g i = none := by
  intro r
  induction r with
  | zero => intro c hc _ i h1 h2; omega
  | succ r ih =>
    intro c hc h i h1 h2
    rw [dfI_s hc] at h
    cases hg : g c with
    | some a => rw [hg] at h; cases h
    | none =>
      rw [hg, Option.none_or] at h
      by_cases e : i = c
      · subst e; exact hg
      · exact ih (c + 1) (by omega) h i (by omega) h2
theorem pkS_ten {p : Nat → Bool} {fr : Nat → Nat → Bool} : ∀ r k t, k + r ≤ 10 → PkT p t k → pkS p fr 10 r k t ≠ none := by
  intro r
  induction r with
  | zero => intro k t _ _ h; cases h
  | succ r ih =>
    intro k t hk H h
    simp only [pkS] at h
    by_cases hp : p k = true
    · rw [if_pos hp] at h
      have nl := H.le
      have := dfI_none _ 0 (by omega) h (nxP p t k) (by omega) (by omega)
      rw [if_pos ((ftB_iff k).mpr (fun i hi h1 h2 => by have := nxP_gt (p := p) (t := t) k i hi h1; omega))] at this
      exact ih (k + 1) _ (by omega) (H.step (fun _ => ⟨by omega, by omega⟩)) this
    · rw [if_neg hp] at h
      exact ih (k + 1) _ (by omega) (H.step (fun z => absurd z hp)) h
theorem pkS_none0 {p : Nat → Bool} {fr : Nat → Nat → Bool} : ∀ r k t, (∃ i, k ≤ i ∧ i < k + r ∧ p i = true) → pkS p fr 0 r k t = none := by
  intro r
  induction r with
  | zero => intro k t ⟨i, h1, h2, _⟩; omega
  | succ r ih =>
    intro k t ⟨i, h1, h2, h3⟩
    simp only [pkS]
    by_cases hp : p k = true
    · rw [if_pos hp, Nat.zero_min]; rfl
    · rw [if_neg hp]
      exact ih (k + 1) _ ⟨i, by by_cases e : i = k
                                · subst e; exact absurd h3 hp
                                · omega, by omega, h3⟩
/-- what stays 100 -/
theorem pkS_none {p : Nat → Bool} {fr : Nat → Nat → Bool} {P : Nat} : ∀ r k t, (∀ i, k ≤ i → i < k + r → p i = false) → (∀ i, i < k → t i = 100) → ∃ t', pkS p fr P r k t = some t' ∧ ∀ i, i < k + r → t' i = 100 := by
  intro r
  induction r with
  | zero => intro k t _ h; exact ⟨t, rfl, fun i hi => h i (by omega)⟩
  | succ r ih =>
    intro k t hp h
    simp only [pkS]
    rw [if_neg (by rw [hp k (by omega) (by omega)]; decide)]
    obtain ⟨t', a, b⟩ := ih (k + 1) (up t k 100) (fun i h1 h2 => hp i (by omega) (by omega)) (fun i hi => by
      by_cases e : i = k
      · subst e; exact up_s
      · rw [up_n e]; exact h i (by omega))
    exact ⟨t', a, fun i hi => b i (by omega)⟩
