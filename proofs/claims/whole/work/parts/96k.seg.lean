/-! ===== stretches of code: what they tell ===== -/
def SgC (op ar : Nat → Int) (F c e l : Nat) (ev : Ev) : Prop := (c < e ∧ 1 ≤ l) ∧ ∀ (fa : Nat → Int) (N k : Nat) (stk : List Int), FOK fa → e ≤ N → e - c ≤ k → stk.length + l ≤ 64 → ∃ k', k - (e - c) ≤ k' ∧ tlF op ar fa N F k c stk = (match ev fa with
  | none => none
  | some v => tlF op ar fa N F k' e (v :: stk))
section SEGC
variable {op ar : Nat → Int} {F c e l : Nat} {ev : Ev}
theorem sgC_num {x : Int} (h1 : op c = 0) (h2 : ar c = x) : SgC op ar F c (c + 1) 1 (fun _ => some x) := by
  refine ⟨⟨by omega, by omega⟩, fun fa N k stk _ hN hk hs => ?_⟩
  obtain ⟨k, rfl⟩ : ∃ k', k = k' + 1 := ⟨k - 1, by omega⟩
  refine ⟨k, by omega, ?_⟩
  show tlF op ar fa N F (k + 1) c stk = tlF op ar fa N F k (c + 1) (x :: stk)
  rw [show tlF op ar fa N F (k + 1) c stk = _ from by simp only [tlF]; rfl]
  rw [if_neg (by omega), h1, if_neg (by decide), if_pos rfl, if_neg (by omega), h2]
theorem sgC_wrd {w : Nat} (h1 : op c = 1) (h2 : ar c = (w : Int)) (hw : w < F) : SgC op ar F c (c + 1) 1 (fun f => some (f w)) := by
  refine ⟨⟨by omega, by omega⟩, fun fa N k stk _ hN hk hs => ?_⟩
  obtain ⟨k, rfl⟩ : ∃ k', k = k' + 1 := ⟨k - 1, by omega⟩
  refine ⟨k, by omega, ?_⟩
  show tlF op ar fa N F (k + 1) c stk = tlF op ar fa N F k (c + 1) (fa w :: stk)
  rw [show tlF op ar fa N F (k + 1) c stk = _ from by simp only [tlF]; rfl]
  rw [if_neg (by omega), h1, if_neg (by decide), if_neg (by decide), if_pos rfl, h2, if_neg (by omega), Int.toNat_natCast]
theorem sgC_bin {o : Int} {e1 l1 l2 : Nat} {a b : Ev} (A : SgC op ar F c e1 l1 a) (B : SgC op ar F e1 e l2 b) (ho : op e = o) (hob : 5 ≤ o ∧ o ≤ 12) : SgC op ar F c (e + 1) (l1 + l2) (binE o a b) := by
  obtain ⟨⟨a1, a2⟩, A⟩ := A
  obtain ⟨⟨b1, b2⟩, B⟩ := B
  refine ⟨⟨by omega, by omega⟩, fun fa N k stk hf hN hk hs => ?_⟩
  obtain ⟨k1, hk1, hA⟩ := A fa N k stk hf (by omega) (by omega) (by omega)
  unfold binE
  cases ha : a fa with
  | none => rw [ha] at hA; exact ⟨k, by omega, hA⟩
  | some x =>
    rw [ha] at hA
    obtain ⟨k2, hk2, hB⟩ := B fa N k1 (x :: stk) hf (by omega) (by omega) (by simp only [List.length_cons]; omega)
    cases hb : b fa with
    | none => rw [hb] at hB; exact ⟨k, by omega, hA.trans hB⟩
    | some y =>
      rw [hb] at hB
      obtain ⟨k3, rfl⟩ : ∃ k', k2 = k' + 1 := ⟨k2 - 1, by omega⟩
      refine ⟨k3, by omega, (hA.trans hB).trans ?_⟩
      show tlF op ar fa N F (k3 + 1) e (y :: x :: stk) = _
      rw [show tlF op ar fa N F (k3 + 1) e (y :: x :: stk) = _ from by simp only [tlF]; rfl]
      rw [if_neg (by omega), ho, if_neg (by omega), if_neg (by omega), if_neg (by omega), if_neg (by omega)]
      dsimp only
      by_cases z1 : y = 0 ∧ (o = 8 ∨ o = 9)
      · rw [if_pos z1, if_pos z1]
      · rw [if_neg z1, if_neg z1]
        by_cases z2 : 1000000000 < jn o x y ∨ jn o x y < -1000000000
        · rw [if_pos z2, if_pos z2]
        · rw [if_neg z2, if_neg z2]
theorem sgC_not {a : Ev} (A : SgC op ar F c e l a) (ho : op e = 2) : SgC op ar F c (e + 1) l (notE a) := by
  obtain ⟨⟨a1, a2⟩, A⟩ := A
  refine ⟨⟨by omega, by omega⟩, fun fa N k stk hf hN hk hs => ?_⟩
  obtain ⟨k1, hk1, hA⟩ := A fa N k stk hf (by omega) (by omega) (by omega)
  unfold notE
  cases ha : a fa with
  | none => rw [ha] at hA; exact ⟨k, by omega, hA⟩
  | some x =>
    rw [ha] at hA
    obtain ⟨k3, rfl⟩ : ∃ k', k1 = k' + 1 := ⟨k1 - 1, by omega⟩
    refine ⟨k3, by omega, hA.trans ?_⟩
    show tlF op ar fa N F (k3 + 1) e (x :: stk) = _
    rw [show tlF op ar fa N F (k3 + 1) e (x :: stk) = _ from by simp only [tlF]; rfl]
    rw [if_neg (by omega), ho, if_neg (by decide), if_neg (by decide), if_neg (by decide), if_pos (by decide)]
    rfl
theorem sgC_and {e1 l1 l2 : Nat} {a b : Ev} (A : SgC op ar F c e1 l1 a) (B : SgC op ar F (e1 + 1) e l2 b) (ho : op e1 = 3) (har : ar e1 = (e : Int)) : SgC op ar F c e (l1 + l2) (andE a b) := by
  obtain ⟨⟨a1, a2⟩, A⟩ := A
  obtain ⟨⟨b1, b2⟩, B⟩ := B
  refine ⟨⟨by omega, by omega⟩, fun fa N k stk hf hN hk hs => ?_⟩
  obtain ⟨k1, hk1, hA⟩ := A fa N k stk hf (by omega) (by omega) (by omega)
  unfold andE
  cases ha : a fa with
  | none => rw [ha] at hA; exact ⟨k, by omega, hA⟩
  | some x =>
    rw [ha] at hA
    obtain ⟨k3, rfl⟩ : ∃ k', k1 = k' + 1 := ⟨k1 - 1, by omega⟩
    have st : tlF op ar fa N F (k3 + 1) e1 (x :: stk) = if x = 0 then tlF op ar fa N F k3 e (x :: stk) else tlF op ar fa N F k3 (e1 + 1) stk := by
      rw [show tlF op ar fa N F (k3 + 1) e1 (x :: stk) = _ from by simp only [tlF]; rfl]
      rw [if_neg (by omega), ho, if_neg (by decide), if_neg (by decide), if_neg (by decide), if_pos (by decide)]
      show (if (3 : Int) = 2 then _ else if (3 : Int) = 3 then _ else _) = _
      rw [if_neg (by decide), if_pos rfl, har, Int.toNat_natCast]
    have hA' : tlF op ar fa N F k c stk = tlF op ar fa N F (k3 + 1) e1 (x :: stk) := hA
    rw [hA', st]
    by_cases z : x = 0
    · rw [if_pos z]
      refine ⟨k3, by omega, ?_⟩
      show _ = (match (if x = 0 then some x else b fa) with
        | none => none
        | some v => tlF op ar fa N F k3 e (v :: stk))
      rw [if_pos z]
    · rw [if_neg z]
      obtain ⟨k4, hk4, hB⟩ := B fa N k3 stk hf (by omega) (by omega) (by omega)
      refine ⟨k4, by omega, ?_⟩
      show _ = (match (if x = 0 then some x else b fa) with
        | none => none
        | some v => tlF op ar fa N F k4 e (v :: stk))
      rw [if_neg z]; exact hB
theorem sgC_or {e1 l1 l2 : Nat} {a b : Ev} (A : SgC op ar F c e1 l1 a) (B : SgC op ar F (e1 + 1) e l2 b) (ho : op e1 = 4) (har : ar e1 = (e : Int)) : SgC op ar F c e (l1 + l2) (orE a b) := by
  obtain ⟨⟨a1, a2⟩, A⟩ := A
  obtain ⟨⟨b1, b2⟩, B⟩ := B
  refine ⟨⟨by omega, by omega⟩, fun fa N k stk hf hN hk hs => ?_⟩
  obtain ⟨k1, hk1, hA⟩ := A fa N k stk hf (by omega) (by omega) (by omega)
  unfold orE
  cases ha : a fa with
  | none => rw [ha] at hA; exact ⟨k, by omega, hA⟩
  | some x =>
    rw [ha] at hA
    obtain ⟨k3, rfl⟩ : ∃ k', k1 = k' + 1 := ⟨k1 - 1, by omega⟩
    have st : tlF op ar fa N F (k3 + 1) e1 (x :: stk) = if x = 0 then tlF op ar fa N F k3 (e1 + 1) stk else tlF op ar fa N F k3 e (x :: stk) := by
      rw [show tlF op ar fa N F (k3 + 1) e1 (x :: stk) = _ from by simp only [tlF]; rfl]
      rw [if_neg (by omega), ho, if_neg (by decide), if_neg (by decide), if_neg (by decide), if_pos (by decide)]
      show (if (4 : Int) = 2 then _ else if (4 : Int) = 3 then _ else _) = _
      rw [if_neg (by decide), if_neg (by decide), har, Int.toNat_natCast]
    have hA' : tlF op ar fa N F k c stk = tlF op ar fa N F (k3 + 1) e1 (x :: stk) := hA
    rw [hA', st]
    by_cases z : x = 0
    · rw [if_pos z]
      obtain ⟨k4, hk4, hB⟩ := B fa N k3 stk hf (by omega) (by omega) (by omega)
      refine ⟨k4, by omega, ?_⟩
      show _ = (match (if x = 0 then b fa else some x) with
        | none => none
        | some v => tlF op ar fa N F k4 e (v :: stk))
      rw [if_pos z]; exact hB
    · rw [if_neg z]
      refine ⟨k3, by omega, ?_⟩
      show _ = (match (if x = 0 then b fa else some x) with
        | none => none
        | some v => tlF op ar fa N F k3 e (v :: stk))
      rw [if_neg z]
/-- closed by a STOP -/
theorem sgC_tell {N : Nat} (A : SgC op ar F c e l ev) (ho : op e = 13) (hN : e < N) (hN4 : N ≤ 400) (hl : l ≤ 64) : TellC op ar N F (c : Int) (some ev) := by
  obtain ⟨⟨a1, a2⟩, A⟩ := A
  refine ⟨c, rfl, by omega, fun f hf => ?_⟩
  obtain ⟨k', hk', hA⟩ := A f N N [] hf (by omega) (by omega) (by simp; exact hl)
  rw [hA]
  cases ev f with
  | none => rfl
  | some v =>
    show tlF op ar f N F k' e [v] = some v
    cases k' with
    | zero => rfl
    | succ k' =>
      rw [show tlF op ar f N F (k' + 1) e [v] = _ from by simp only [tlF]; rfl]
      rw [if_neg (by omega), if_pos ho]; rfl
end SEGC
/-! ===== the same of the reference ===== -/
def SgM (op ar : Nat → Int) (wx : Int → Int → Nat) (W c e l : Nat) (ev : Ev) : Prop := (c < e ∧ 1 ≤ l) ∧ ∀ (fa : Nat → Int) (N k : Nat) (stk : List Int), FOK fa → e ≤ N → e - c ≤ k → stk.length + l ≤ 400 → ∃ k', k - (e - c) ≤ k' ∧ rkF op ar (fun o a => fa (wx o a)) W N k c stk = (match ev fa with
  | none => some none
  | some v => rkF op ar (fun o a => fa (wx o a)) W N k' e (v :: stk))
section SEGM
variable {op ar : Nat → Int} {wx : Int → Int → Nat} {W c e l : Nat} {ev : Ev}
theorem sgM_num {x : Int} (h1 : op c = 0) (h2 : ar c = x) : SgM op ar wx W c (c + 1) 1 (fun _ => some x) := by
  refine ⟨⟨by omega, by omega⟩, fun fa N k stk _ hN hk hs => ?_⟩
  obtain ⟨k, rfl⟩ : ∃ k', k = k' + 1 := ⟨k - 1, by omega⟩
  refine ⟨k, by omega, ?_⟩
  show rkF op ar (fun o a => fa (wx o a)) W N (k + 1) c stk = rkF op ar (fun o a => fa (wx o a)) W N k (c + 1) (x :: stk)
  rw [show rkF op ar (fun o a => fa (wx o a)) W N (k + 1) c stk = _ from by simp only [rkF]; rfl]
  rw [if_neg (by omega), h1, if_neg (by decide), if_pos (by decide), if_neg (by omega), if_pos rfl, h2]
theorem sgM_wrd {w : Nat} {o a : Int} (h1 : op c = o) (h2 : ar c = a) (ho : 1 ≤ o ∧ o ≤ W ∧ o < 20) (h3 : W ≠ 7 ∨ o < 5 ∨ 6 < o ∨ a < 3) (hw : wx o a = w) : SgM op ar wx W c (c + 1) 1 (fun f => some (f w)) := by
  refine ⟨⟨by omega, by omega⟩, fun fa N k stk _ hN hk hs => ?_⟩
  obtain ⟨k, rfl⟩ : ∃ k', k = k' + 1 := ⟨k - 1, by omega⟩
  refine ⟨k, by omega, ?_⟩
  show rkF op ar (fun o a => fa (wx o a)) W N (k + 1) c stk = rkF op ar (fun o a => fa (wx o a)) W N k (c + 1) (fa w :: stk)
  rw [show rkF op ar (fun o a => fa (wx o a)) W N (k + 1) c stk = _ from by simp only [rkF]; rfl]
  rw [if_neg (by omega), h1, if_neg (by omega), if_pos (by omega), if_neg (by omega), if_neg (by omega), h2, hw]
theorem sgM_bin {o : Int} {e1 l1 l2 : Nat} {a b : Ev} (A : SgM op ar wx W c e1 l1 a) (B : SgM op ar wx W e1 e l2 b) (ho : op e = o + 15) (hob : 5 ≤ o ∧ o ≤ 12) : SgM op ar wx W c (e + 1) (l1 + l2) (binE o a b) := by
  obtain ⟨⟨a1, a2⟩, A⟩ := A
  obtain ⟨⟨b1, b2⟩, B⟩ := B
  refine ⟨⟨by omega, by omega⟩, fun fa N k stk hf hN hk hs => ?_⟩
  obtain ⟨k1, hk1, hA⟩ := A fa N k stk hf (by omega) (by omega) (by omega)
  unfold binE
  cases ha : a fa with
  | none => rw [ha] at hA; exact ⟨k, by omega, hA⟩
  | some x =>
    rw [ha] at hA
    obtain ⟨k2, hk2, hB⟩ := B fa N k1 (x :: stk) hf (by omega) (by omega) (by simp only [List.length_cons]; omega)
    cases hb : b fa with
    | none => rw [hb] at hB; exact ⟨k, by omega, hA.trans hB⟩
    | some y =>
      rw [hb] at hB
      obtain ⟨k3, rfl⟩ : ∃ k', k2 = k' + 1 := ⟨k2 - 1, by omega⟩
      refine ⟨k3, by omega, (hA.trans hB).trans ?_⟩
      show rkF op ar (fun o a => fa (wx o a)) W N (k3 + 1) e (y :: x :: stk) = _
      rw [show rkF op ar (fun o a => fa (wx o a)) W N (k3 + 1) e (y :: x :: stk) = _ from by simp only [rkF]; rfl]
      rw [if_neg (by omega), ho, if_neg (by omega), if_neg (by omega), if_pos (by omega), show o + 15 - 15 = o by omega]
      dsimp only
      by_cases z1 : y = 0 ∧ (o = 8 ∨ o = 9)
      · have z1' : y = 0 ∧ (o + 15 = 23 ∨ o + 15 = 24) := by omega
        rw [if_pos z1, if_pos z1']
      · have z1' : ¬ (y = 0 ∧ (o + 15 = 23 ∨ o + 15 = 24)) := by omega
        rw [if_neg z1, if_neg z1']
        by_cases z2 : 1000000000 < jn o x y ∨ jn o x y < -1000000000
        · rw [if_pos z2, if_pos z2]
        · rw [if_neg z2, if_neg z2]
theorem sgM_not {a : Ev} (A : SgM op ar wx W c e l a) (hB : EvB a) (ho : op e = 28) : SgM op ar wx W c (e + 1) l (notE a) := by
  obtain ⟨⟨a1, a2⟩, A⟩ := A
  refine ⟨⟨by omega, by omega⟩, fun fa N k stk hf hN hk hs => ?_⟩
  obtain ⟨k1, hk1, hA⟩ := A fa N k stk hf (by omega) (by omega) (by omega)
  unfold notE
  cases ha : a fa with
  | none => rw [ha] at hA; exact ⟨k, by omega, hA⟩
  | some x =>
    rw [ha] at hA
    have xb := hB fa hf x ha
    obtain ⟨k3, rfl⟩ : ∃ k', k1 = k' + 1 := ⟨k1 - 1, by omega⟩
    refine ⟨k3, by omega, hA.trans ?_⟩
    show rkF op ar (fun o a => fa (wx o a)) W N (k3 + 1) e (x :: stk) = rkF op ar (fun o a => fa (wx o a)) W N k3 (e + 1) ((if x = 0 then 1 else 0) :: stk)
    rw [show rkF op ar (fun o a => fa (wx o a)) W N (k3 + 1) e (x :: stk) = _ from by simp only [rkF]; rfl]
    rw [if_neg (by omega), ho, if_neg (by decide), if_neg (by decide), if_neg (by decide), if_pos rfl, if_pos xb]
    rcases xb with z | z
    · rw [z, if_pos rfl]; rfl
    · rw [z, if_neg (by decide)]; rfl
theorem sgM_and {e1 l1 l2 : Nat} {a b : Ev} (A : SgM op ar wx W c e1 l1 a) (B : SgM op ar wx W (e1 + 1) e l2 b) (ho : op e1 = 29) (har : ar e1 = (e : Int)) : SgM op ar wx W c e (l1 + l2) (andE a b) := by
  obtain ⟨⟨a1, a2⟩, A⟩ := A
  obtain ⟨⟨b1, b2⟩, B⟩ := B
  refine ⟨⟨by omega, by omega⟩, fun fa N k stk hf hN hk hs => ?_⟩
  obtain ⟨k1, hk1, hA⟩ := A fa N k stk hf (by omega) (by omega) (by omega)
  unfold andE
  cases ha : a fa with
  | none => rw [ha] at hA; exact ⟨k, by omega, hA⟩
  | some x =>
    rw [ha] at hA
    obtain ⟨k3, rfl⟩ : ∃ k', k1 = k' + 1 := ⟨k1 - 1, by omega⟩
    have st : rkF op ar (fun o a => fa (wx o a)) W N (k3 + 1) e1 (x :: stk) = if x = 0 then rkF op ar (fun o a => fa (wx o a)) W N k3 e (x :: stk) else rkF op ar (fun o a => fa (wx o a)) W N k3 (e1 + 1) stk := by
      rw [show rkF op ar (fun o a => fa (wx o a)) W N (k3 + 1) e1 (x :: stk) = _ from by simp only [rkF]; rfl]
      rw [if_neg (by omega), ho, if_neg (by decide), if_neg (by decide), if_neg (by decide), if_neg (by decide), if_pos rfl, har, Int.toNat_natCast]
    have hA' : rkF op ar (fun o a => fa (wx o a)) W N k c stk = rkF op ar (fun o a => fa (wx o a)) W N (k3 + 1) e1 (x :: stk) := hA
    rw [hA', st]
    by_cases z : x = 0
    · rw [if_pos z]
      refine ⟨k3, by omega, ?_⟩
      show _ = (match (if x = 0 then some x else b fa) with
        | none => some none
        | some v => rkF op ar (fun o a => fa (wx o a)) W N k3 e (v :: stk))
      rw [if_pos z]
    · rw [if_neg z]
      obtain ⟨k4, hk4, hB⟩ := B fa N k3 stk hf (by omega) (by omega) (by omega)
      refine ⟨k4, by omega, ?_⟩
      show _ = (match (if x = 0 then some x else b fa) with
        | none => some none
        | some v => rkF op ar (fun o a => fa (wx o a)) W N k4 e (v :: stk))
      rw [if_neg z]; exact hB
theorem sgM_or {e1 l1 l2 : Nat} {a b : Ev} (A : SgM op ar wx W c e1 l1 a) (hBa : EvB a) (B : SgM op ar wx W (e1 + 1) e l2 b) (ho : op e1 = 30) (har : ar e1 = (e : Int)) : SgM op ar wx W c e (l1 + l2) (orE a b) := by
  obtain ⟨⟨a1, a2⟩, A⟩ := A
  obtain ⟨⟨b1, b2⟩, B⟩ := B
  refine ⟨⟨by omega, by omega⟩, fun fa N k stk hf hN hk hs => ?_⟩
  obtain ⟨k1, hk1, hA⟩ := A fa N k stk hf (by omega) (by omega) (by omega)
  unfold orE
  cases ha : a fa with
  | none => rw [ha] at hA; exact ⟨k, by omega, hA⟩
  | some x =>
    rw [ha] at hA
    have xb := hBa fa hf x ha
    obtain ⟨k3, rfl⟩ : ∃ k', k1 = k' + 1 := ⟨k1 - 1, by omega⟩
    have st : rkF op ar (fun o a => fa (wx o a)) W N (k3 + 1) e1 (x :: stk) = if x = 0 then rkF op ar (fun o a => fa (wx o a)) W N k3 (e1 + 1) stk else rkF op ar (fun o a => fa (wx o a)) W N k3 e (x :: stk) := by
      rw [show rkF op ar (fun o a => fa (wx o a)) W N (k3 + 1) e1 (x :: stk) = _ from by simp only [rkF]; rfl]
      rw [if_neg (by omega), ho, if_neg (by decide), if_neg (by decide), if_neg (by decide), if_neg (by decide), show (if (30 : Int) = 29 then (0 : Int) else 1) = 1 from rfl, har, Int.toNat_natCast]
      rcases xb with z | z
      · rw [z, if_neg (by decide), if_pos rfl]
      · rw [z, if_pos rfl, if_neg (by decide)]
    have hA' : rkF op ar (fun o a => fa (wx o a)) W N k c stk = rkF op ar (fun o a => fa (wx o a)) W N (k3 + 1) e1 (x :: stk) := hA
    rw [hA', st]
    by_cases z : x = 0
    · rw [if_pos z]
      obtain ⟨k4, hk4, hB⟩ := B fa N k3 stk hf (by omega) (by omega) (by omega)
      refine ⟨k4, by omega, ?_⟩
      show _ = (match (if x = 0 then b fa else some x) with
        | none => some none
        | some v => rkF op ar (fun o a => fa (wx o a)) W N k4 e (v :: stk))
      rw [if_pos z]; exact hB
    · rw [if_neg z]
      refine ⟨k3, by omega, ?_⟩
      show _ = (match (if x = 0 then b fa else some x) with
        | none => some none
        | some v => rkF op ar (fun o a => fa (wx o a)) W N k3 e (v :: stk))
      rw [if_neg z]
theorem sgM_run (A : SgM op ar wx W c e l ev) (he : e ≤ 400) (hl : l ≤ 400) {f : Nat → Int} (hf : FOK f) : rkF op ar (fun o a => f (wx o a)) W e 401 c [] = some (ev f) := by
  obtain ⟨⟨a1, a2⟩, A⟩ := A
  obtain ⟨k', hk', hA⟩ := A f e 401 [] hf (by omega) (by omega) (by simp; exact hl)
  rw [hA]
  cases ev f with
  | none => rfl
  | some v =>
    obtain ⟨k3, rfl⟩ : ∃ k3, k' = k3 + 1 := ⟨k' - 1, by omega⟩
    show rkF op ar (fun o a => f (wx o a)) W e (k3 + 1) e [v] = some (some v)
    rw [show rkF op ar (fun o a => f (wx o a)) W e (k3 + 1) e [v] = _ from by simp only [rkF]; rfl]
    rw [if_pos (by omega)]
end SEGM
/-! ===== stretches that read their own places alone ===== -/
def AgE (op ar op2 ar2 : Nat → Int) (c e : Nat) : Prop := ∀ i, c ≤ i → i < e → op2 i = op i ∧ ar2 i = ar i
theorem AgE.sub {op ar op2 ar2 : Nat → Int} {c e c2 e2 : Nat} (A : AgE op ar op2 ar2 c e) (h1 : c ≤ c2) (h2 : e2 ≤ e) : AgE op ar op2 ar2 c2 e2 := fun i a b => A i (by omega) (by omega)
theorem AgE.tr {op ar op2 ar2 op3 ar3 : Nat → Int} {c e : Nat} (A : AgE op ar op2 ar2 c e) (B : AgE op2 ar2 op3 ar3 c e) : AgE op ar op3 ar3 c e := fun i a b => ⟨(B i a b).1.trans (A i a b).1, (B i a b).2.trans (A i a b).2⟩
def SeC (op ar : Nat → Int) (F c e l : Nat) (ev : Ev) : Prop := (c < e ∧ 1 ≤ l) ∧ ∀ op2 ar2, AgE op ar op2 ar2 c e → SgC op2 ar2 F c e l ev
def SeM (op ar : Nat → Int) (wx : Int → Int → Nat) (W c e l : Nat) (ev : Ev) : Prop := (c < e ∧ 1 ≤ l) ∧ ∀ op2 ar2, AgE op ar op2 ar2 c e → SgM op2 ar2 wx W c e l ev
section SEGS
variable {op ar : Nat → Int} {wx : Int → Int → Nat} {F W c e e1 l l1 l2 : Nat} {ev a b : Ev}
theorem AgE.refl : AgE op ar op ar c e := fun _ _ _ => ⟨rfl, rfl⟩
theorem SeC.sg (A : SeC op ar F c e l ev) : SgC op ar F c e l ev := A.2 op ar AgE.refl
theorem SeM.sg (A : SeM op ar wx W c e l ev) : SgM op ar wx W c e l ev := A.2 op ar AgE.refl
theorem SeC.cg {op2 ar2 : Nat → Int} (A : SeC op ar F c e l ev) (g : AgE op ar op2 ar2 c e) : SeC op2 ar2 F c e l ev := ⟨A.1, fun op3 ar3 g3 => A.2 op3 ar3 (g.tr g3)⟩
theorem SeM.cg {op2 ar2 : Nat → Int} (A : SeM op ar wx W c e l ev) (g : AgE op ar op2 ar2 c e) : SeM op2 ar2 wx W c e l ev := ⟨A.1, fun op3 ar3 g3 => A.2 op3 ar3 (g.tr g3)⟩
theorem seC_num {x : Int} (h1 : op c = 0) (h2 : ar c = x) : SeC op ar F c (c + 1) 1 (fun _ => some x) := ⟨⟨by omega, by omega⟩, fun op2 ar2 g => sgC_num (by rw [(g c (by omega) (by omega)).1]; exact h1) (by rw [(g c (by omega) (by omega)).2]; exact h2)⟩
theorem seC_wrd {w : Nat} (h1 : op c = 1) (h2 : ar c = (w : Int)) (hw : w < F) : SeC op ar F c (c + 1) 1 (fun f => some (f w)) := ⟨⟨by omega, by omega⟩, fun op2 ar2 g => sgC_wrd (by rw [(g c (by omega) (by omega)).1]; exact h1) (by rw [(g c (by omega) (by omega)).2]; exact h2) hw⟩
theorem seC_bin {o : Int} (A : SeC op ar F c e1 l1 a) (B : SeC op ar F e1 e l2 b) (ho : op e = o) (hob : 5 ≤ o ∧ o ≤ 12) : SeC op ar F c (e + 1) (l1 + l2) (binE o a b) := by
  have a1 := A.1
  have b1 := B.1
  exact ⟨⟨by omega, by omega⟩, fun op2 ar2 g => sgC_bin (A.2 op2 ar2 (g.sub (by omega) (by omega))) (B.2 op2 ar2 (g.sub (by omega) (by omega))) (by rw [(g e (by omega) (by omega)).1]; exact ho) hob⟩
theorem seC_not (A : SeC op ar F c e l a) (ho : op e = 2) : SeC op ar F c (e + 1) l (notE a) := by
  have a1 := A.1
  exact ⟨⟨by omega, by omega⟩, fun op2 ar2 g => sgC_not (A.2 op2 ar2 (g.sub (by omega) (by omega))) (by rw [(g e (by omega) (by omega)).1]; exact ho)⟩
theorem seC_and (A : SeC op ar F c e1 l1 a) (B : SeC op ar F (e1 + 1) e l2 b) (ho : op e1 = 3) (har : ar e1 = (e : Int)) : SeC op ar F c e (l1 + l2) (andE a b) := by
  have a1 := A.1
  have b1 := B.1
  exact ⟨⟨by omega, by omega⟩, fun op2 ar2 g => sgC_and (A.2 op2 ar2 (g.sub (by omega) (by omega))) (B.2 op2 ar2 (g.sub (by omega) (by omega))) (by rw [(g e1 (by omega) (by omega)).1]; exact ho) (by rw [(g e1 (by omega) (by omega)).2]; exact har)⟩
theorem seC_or (A : SeC op ar F c e1 l1 a) (B : SeC op ar F (e1 + 1) e l2 b) (ho : op e1 = 4) (har : ar e1 = (e : Int)) : SeC op ar F c e (l1 + l2) (orE a b) := by
  have a1 := A.1
  have b1 := B.1
  exact ⟨⟨by omega, by omega⟩, fun op2 ar2 g => sgC_or (A.2 op2 ar2 (g.sub (by omega) (by omega))) (B.2 op2 ar2 (g.sub (by omega) (by omega))) (by rw [(g e1 (by omega) (by omega)).1]; exact ho) (by rw [(g e1 (by omega) (by omega)).2]; exact har)⟩
theorem seM_num {x : Int} (h1 : op c = 0) (h2 : ar c = x) : SeM op ar wx W c (c + 1) 1 (fun _ => some x) := ⟨⟨by omega, by omega⟩, fun op2 ar2 g => sgM_num (by rw [(g c (by omega) (by omega)).1]; exact h1) (by rw [(g c (by omega) (by omega)).2]; exact h2)⟩
theorem seM_wrd {w : Nat} {o x : Int} (h1 : op c = o) (h2 : ar c = x) (ho : 1 ≤ o ∧ o ≤ W ∧ o < 20) (h3 : W ≠ 7 ∨ o < 5 ∨ 6 < o ∨ x < 3) (hw : wx o x = w) : SeM op ar wx W c (c + 1) 1 (fun f => some (f w)) := ⟨⟨by omega, by omega⟩, fun op2 ar2 g => sgM_wrd (by rw [(g c (by omega) (by omega)).1]; exact h1) (by rw [(g c (by omega) (by omega)).2]; exact h2) ho h3 hw⟩
theorem seM_bin {o : Int} (A : SeM op ar wx W c e1 l1 a) (B : SeM op ar wx W e1 e l2 b) (ho : op e = o + 15) (hob : 5 ≤ o ∧ o ≤ 12) : SeM op ar wx W c (e + 1) (l1 + l2) (binE o a b) := by
  have a1 := A.1
  have b1 := B.1
  exact ⟨⟨by omega, by omega⟩, fun op2 ar2 g => sgM_bin (A.2 op2 ar2 (g.sub (by omega) (by omega))) (B.2 op2 ar2 (g.sub (by omega) (by omega))) (by rw [(g e (by omega) (by omega)).1]; exact ho) hob⟩
theorem seM_not (A : SeM op ar wx W c e l a) (hB : EvB a) (ho : op e = 28) : SeM op ar wx W c (e + 1) l (notE a) := by
  have a1 := A.1
  exact ⟨⟨by omega, by omega⟩, fun op2 ar2 g => sgM_not (A.2 op2 ar2 (g.sub (by omega) (by omega))) hB (by rw [(g e (by omega) (by omega)).1]; exact ho)⟩
theorem seM_and (A : SeM op ar wx W c e1 l1 a) (B : SeM op ar wx W (e1 + 1) e l2 b) (ho : op e1 = 29) (har : ar e1 = (e : Int)) : SeM op ar wx W c e (l1 + l2) (andE a b) := by
  have a1 := A.1
  have b1 := B.1
  exact ⟨⟨by omega, by omega⟩, fun op2 ar2 g => sgM_and (A.2 op2 ar2 (g.sub (by omega) (by omega))) (B.2 op2 ar2 (g.sub (by omega) (by omega))) (by rw [(g e1 (by omega) (by omega)).1]; exact ho) (by rw [(g e1 (by omega) (by omega)).2]; exact har)⟩
theorem seM_or (A : SeM op ar wx W c e1 l1 a) (hB : EvB a) (B : SeM op ar wx W (e1 + 1) e l2 b) (ho : op e1 = 30) (har : ar e1 = (e : Int)) : SeM op ar wx W c e (l1 + l2) (orE a b) := by
  have a1 := A.1
  have b1 := B.1
  exact ⟨⟨by omega, by omega⟩, fun op2 ar2 g => sgM_or (A.2 op2 ar2 (g.sub (by omega) (by omega))) hB (B.2 op2 ar2 (g.sub (by omega) (by omega))) (by rw [(g e1 (by omega) (by omega)).1]; exact ho) (by rw [(g e1 (by omega) (by omega)).2]; exact har)⟩
end SEGS
