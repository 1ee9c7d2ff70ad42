/-! ===== a deed, on both sides ===== -/
/-- what a deed's outcome keeps -/
def Dok (G : Nat → Int) (n m : Nat) (A : Dd) : Prop := (-3 ≤ A.1 ∧ A.1 ≤ 80) ∧ (A.1 < 0 → A.2 = G) ∧ BW A.2 n m ∧ ∀ i, (i < 5 ∨ i = 6 ∨ i = 7 ∨ 49 ≤ i) → A.2 i = G i
theorem Dok.no {G : Nat → Int} {n m : Nat} {v : Int} (B : BW G n m) (hv : -3 ≤ v ∧ v < 0) : Dok G n m (v, G) := ⟨⟨hv.1, by show v ≤ 80; omega⟩, fun _ => rfl, B, fun _ _ => rfl⟩
theorem cnF_x {G : Nat → Int} {l : Nat} : ∀ (k x : Nat), (x < 8 ∨ 49 ≤ x) → l < 3 → k ≤ 5 → (∀ j, j < k → spA G l j < 10) → cnF G l k x = G x := by
  intro k
  induction k with
  | zero => intro x _ _ _ _; rfl
  | succ k ih =>
    intro x hx hl hk hs
    have := hs k (by omega)
    simp only [cnF]
    rw [up_n (by omega), up_n (by omega)]
    exact ih x hx hl (by omega) (fun j hj => hs j (by omega))
section DOK
variable {G : Nat → Int} {n m : Nat} {L : List Law} {x y : Int}
theorem stick_ok (W : SW G n m L) (B : BW G n m) : Dok G n m (stickA G L n m x y) := by
  have hn10 := W.1.2.1
  have hm3 := W.1.2.2.2.1
  unfold stickA
  split
  · rename_i c
    split
    · rename_i hc
      have hl : y.toNat < m := by omega
      have hs : x.toNat < n := by omega
      have bl := B.2.2.1 _ hl
      unfold canStk at hc; simp at hc
      refine ⟨⟨by show (-3 : Int) ≤ G _; omega, by show G _ ≤ (80 : Int); omega⟩, fun h => ?_, stick_B B hn10 hm3 hs hl (by omega) (by omega), fun i hi => ?_⟩
      · have h' : G (31 + y.toNat) < 0 := h
        omega
      · show stickG G _ _ i = G i
        unfold stickG
        rw [up_n (by omega), up_n (by omega), up_n (by omega)]
    · exact Dok.no B ⟨by decide, by decide⟩
  · exact Dok.no B ⟨by decide, by decide⟩
theorem peel_ok (W : SW G n m L) (B : BW G n m) : Dok G n m (peelA G m y) := by
  have hn10 := W.1.2.1
  have hm3 := W.1.2.2.2.1
  unfold peelA
  split
  · split
    · exact Dok.no B ⟨by decide, by decide⟩
    · rename_i hc
      have hl : y.toNat < m := by omega
      have bl := B.2.2.1 _ hl
      have sb := (B.sp (i := (G (31 + y.toNat)).toNat - 1) hl (by omega)).2.1
      refine ⟨⟨by show (-3 : Int) ≤ ((spA G _ _ : Nat) : Int); omega, by show ((spA G _ _ : Nat) : Int) ≤ 80; omega⟩, fun h => ?_, peel_B B hn10 hm3 hl hc, fun i hi => ?_⟩
      · have h' : ((spA G y.toNat ((G (31 + y.toNat)).toNat - 1) : Nat) : Int) < 0 := h
        omega
      · show peelG G _ i = G i
        unfold peelG
        rw [up_n (by omega), up_n (by omega), up_n (by omega)]
  · exact Dok.no B ⟨by decide, by decide⟩
theorem cancel_ok (W : SW G n m L) (B : BW G n m) : Dok G n m (cancelA G L m y) := by
  have hn10 := W.1.2.1
  have hm3 := W.1.2.2.2.1
  unfold cancelA
  split
  · split
    · rename_i hc
      have hl : y.toNat < m := by omega
      have bl := B.2.2.1 _ hl
      have qb := quOnA_bd W B hl
      have hv : 0 ≤ min (G (28 + y.toNat) + quOnA G L y.toNat) 9999 ∧ min (G (28 + y.toNat) + quOnA G L y.toNat) 9999 ≤ 9999 := by omega
      have B2 := up28 B hn10 hm3 hl hv
      refine ⟨⟨by show (-3 : Int) ≤ quOnA G L _; omega, by show quOnA G L _ ≤ 80; omega⟩, fun h => ?_, can_B B hn10 hm3 hl hv, fun i hi => ?_⟩
      · have h' : quOnA G L y.toNat < 0 := h
        omega
      · show canG G L _ i = G i
        unfold canG
        rw [up_n (by omega), cnF_x _ i (by omega) (by omega) (by omega) (fun j hj => ?_), up_n (by omega)]
        have := (B2.sp (i := j) hl (by rw [up_n (by omega)]; omega)).2.1
        omega
    · exact Dok.no B ⟨by decide, by decide⟩
  · exact Dok.no B ⟨by decide, by decide⟩
theorem pass_ok (W : SW G n m L) (B : BW G n m) : Dok G n m (passA G L n m) := by
  have hn10 := W.1.2.1
  have hm3 := W.1.2.2.2.1
  unfold passA
  split
  · exact Dok.no B ⟨by decide, by decide⟩
  · rename_i h9
    have pb := pass_B (L := L) B hn10 hm3 h9
    have b := pa_B (gl_B (L := L) B hn10 hm3) hn10 hm3 m (Nat.le_refl m)
    refine ⟨⟨by show (-3 : Int) ≤ (paF _ _).1; omega, by show (paF _ _).1 ≤ 80; omega⟩, fun h => ?_, pb.1, fun i hi => ?_⟩
    · have h' : (paF (glF G L n) m).1 < 0 := h
      omega
    · show passG G L n m i = G i
      unfold passG
      rw [up_n (by omega), b.2.1 i (by omega), glF_o n i (by omega)]
end DOK
/-- what keep leaves of the class's ring -/
def KpC (h h' : Sto) (a k : Nat) (deed ans : Int) : Prop := (ans < 0 ∧ h' 46 = h 46 ∧ h' 44 2 = h 44 2 ∧ h' 44 3 = h 44 3) ∨ (0 ≤ ans ∧ h' 46 = up (h 46) a deed ∧ h' 44 2 = (if 17 ≤ a + 1 then 0 else ((a + 1 : Nat) : Int)) ∧ h' 44 3 = ((kNext k : Nat) : Int))
abbrev AP : List Nat := [10, 45, 46, 48, 49, 51, 81, 82]
abbrev AS : List (Nat × Nat) := [(44, 2), (44, 3)]
section ACTS
variable {sc : Nat × (Nat → Int)} {d : Nat} {sh : Shp} {sl : Nat} {h : Sto} {Q : Pst} {G : Nat → Int} {n m : Nat} {L : List Law}
theorem sp_actT {a k : Nat} {x1 x2 x3 z : Int} {j4 : V} (X : Fix sh h) (hz : -3 ≤ z ∧ z ≤ 80) (ha : h 44 2 = (a : Int)) (ha17 : a < 17) (hk : h 44 3 = (k : Int)) (hk16 : k ≤ 16) (hq : ∀ h', Fr [46] AS h h' → KpC h h' a k x1 z → Q (0, z) sh sl h') : WF sc (d + 2) 88 61 [(2, 50), (0, x1), (0, x2), (0, x3), j4] [(0, z)] sh sl h Q := by
  rw [B_88_61a X, w32_id (a := z) (by omega) (by omega)]
  by_cases hn : z < 0
  · rw [if_pos hn, B_88_83a X]; exact hq h (Fr.refl h) (Or.inl ⟨hn, rfl, rfl, rfl⟩)
  · rw [if_neg hn]
    refine sp_keep X ha ha17 hk hk16 (fun h1 F1 e1 e2 e3 => ?_)
    simp only [pushR9]
    rw [B_88_83a (F1.fix X (by decide +kernel))]
    exact hq h1 F1 (Or.inr ⟨by omega, e1, e2, e3⟩)
theorem sp_act {a k : Nat} {x1 x2 x3 : Int} {A : Dd} (i2 : I32 x2) (i3 : I32 x3) (C : CJ sh h G n m L 10) (ha : h 44 2 = (a : Int)) (ha17 : a < 17) (hk : h 44 3 = (k : Int)) (hk16 : k ≤ 16) (hA : (x1 = 0 ∧ A = stickA G L n m x2 x3) ∨ (x1 = 1 ∧ A = peelA G m x2) ∨ (x1 = 2 ∧ A = cancelA G L m x2) ∨ (x1 = 3 ∧ A = passA G L n m)) (hd : -3 ≤ A.1 ∧ A.1 ≤ 80) (hq : ∀ h', Fr AP AS h h' → BR (h' 10) A.2 n m → (∀ i, i < 42 → h' 45 (42 * a + i) = h 10 i) → (∀ i, (i < 42 * a ∨ 42 * a + 42 ≤ i) → h' 45 i = h 45 i) → KpC h h' a k x1 A.1 → Q (0, A.1) sh sl h') : WM sc (d + 8) 88 [(2, 50), (0, x1), (0, x2), (0, x3)] sh sl h Q := by
  rw [B_88_0a C.1]
  refine sp_ahead C.1 ha ha17 (fun h1 F1 e1 e2 => ?_)
  have C1 : CJ sh h1 G n m L 10 := C.of F1 (by decide +kernel) (by decide +kernel) (F1.row 10 rfl)
  simp only [pushR9]
  rw [B_88_18a C1.1]
  have tail : ∀ h2, Fr [10, 48, 49, 51, 81, 82] [] h1 h2 → BR (h2 10) A.2 n m → WF sc (d + 8) 88 61 [(2, 50), (0, x1), (0, x2), (0, x3), (9, 0)] [(0, A.1)] sh sl h2 Q := fun h2 F2 r => by
    refine sp_actT (a := a) (k := k) (F2.fix C1.1 (by decide +kernel)) hd (by rw [F2.at 44 2 rfl, F1.at 44 2 rfl]; exact ha) ha17 (by rw [F2.at 44 3 rfl, F1.at 44 3 rfl]; exact hk) hk16 (fun h3 F3 kp => ?_)
    refine hq h3 (((F1.mono rfl).trans (F2.mono rfl)).trans (F3.mono rfl)) (by rw [F3.row 10 rfl]; exact r) (fun i hi => by rw [F3.row 45 rfl, F2.row 45 rfl]; exact e1 i hi) (fun i hi => by rw [F3.row 45 rfl, F2.row 45 rfl]; exact e2 i hi) ?_
    unfold KpC at kp ⊢
    rw [F2.row 46 rfl, F1.row 46 rfl, F2.at 44 2 rfl, F1.at 44 2 rfl, F2.at 44 3 rfl, F1.at 44 3 rfl] at kp
    exact kp
  rcases hA with ⟨rfl, rfl⟩ | ⟨rfl, rfl⟩ | ⟨rfl, rfl⟩ | ⟨rfl, rfl⟩
  · rw [w32_0, if_neg (by decide)]
    refine sp_stickOn_a i2 i3 C1 (fun h2 F2 r => ?_)
    simp only [pushR0]
    rw [B_88_28a (F2.fix C1.1 (by decide +kernel))]
    exact tail h2 (F2.mono rfl) r
  · rw [show w32 1 = 1 from rfl, if_pos (by decide), if_neg (by decide)]
    refine sp_peelFrom_a i2 C1 (fun h2 F2 r => ?_)
    simp only [pushR0]
    rw [B_88_41a (F2.fix C1.1 (by decide +kernel))]
    exact tail h2 (F2.mono rfl) r
  · rw [show w32 2 = 2 from rfl, if_pos (by decide), if_pos (by decide), if_neg (by decide)]
    refine sp_cancelAll_a i2 C1 (fun h2 F2 r => ?_)
    simp only [pushR0]
    rw [B_88_54a (F2.fix C1.1 (by decide +kernel))]
    exact tail h2 (F2.mono rfl) r
  · rw [show w32 3 = 3 from rfl, if_pos (by decide), if_pos (by decide), if_pos (by decide)]
    refine sp_passDay_a C1 (fun h2 F2 r => ?_)
    simp only [pushR0]
    exact tail h2 (F2.mono rfl) r
end ACTS
theorem deed_inv {sh : Shp} {h h1 h4 : Sto} {n m a k : Nat} {L : List Law} {deed : Int} {A : Dd} (I : INV sh h) (Lv : Live sh h n m L) (Hs : Hist h n m) (ha : h 44 2 = (a : Int)) (hk : h 44 3 = (k : Int)) (D : Dok (h 87) n m A) (hdd : 0 ≤ deed ∧ deed ≤ 3) (F1 : Fr AP AS h h1) (r : BR (h1 10) A.2 n m) (s1 : ∀ i, i < 42 → h1 45 (42 * a + i) = h 10 i) (s2 : ∀ i, (i < 42 * a ∨ 42 * a + 42 ≤ i) → h1 45 i = h 45 i) (kp : KpC h h1 a k deed A.1) (F4 : Fr DP DS (setH (cTell h1 A.1) 85 0 0) h4) (e87 : h4 87 = A.2) (rm : RemC (setH (cTell h1 A.1) 85 0 0) h4 k (h 87) deed A.1) : INV sh (mTell h4 A.1) := by
  obtain ⟨S, R, W, B⟩ := Lv
  obtain ⟨q1, q2⟩ := Hs
  have hn10 := W.1.2.1
  have hm3 := W.1.2.2.2.1
  obtain ⟨D1, D2, D3, D4⟩ := D
  have Fc := cTell_fr (h := h1) (x := A.1)
  have Fm := mTell_fr (h := h4) (x := A.1)
  have F3 : Fr [10, 45, 46, 48, 49, 51, 81, 82, 84] [(44, 2), (44, 3), (0, 16), (85, 0)] h (setH (cTell h1 A.1) 85 0 0) := ((F1.mono rfl).trans (Fc.mono rfl)).set rfl
  have F3c : Fr [84] [(0, 16), (85, 0)] h1 (setH (cTell h1 A.1) 85 0 0) := (Fc.mono rfl).set rfl
  have F : Fr [10, 45, 46, 48, 49, 51, 81, 82, 84, 86, 87, 90, 91, 103, 105, 106] [(44, 2), (44, 3), (0, 16), (85, 0), (85, 1), (85, 8), (85, 34), (85, 38), (85, 39), (85, 40)] h (mTell h4 A.1) := ((F3.mono rfl).trans (F4.mono rfl)).trans (Fm.mono rfl)
  have x87 : mTell h4 A.1 87 = A.2 := by rw [Fm.row 87 rfl]; exact e87
  have h120 : ∀ q, 120 ≤ q → mTell h4 A.1 q = h q := (F.cg (R := []) (C := []) (by decide +kernel)).2.2
  have c45 : mTell h4 A.1 45 = h1 45 := by rw [Fm.row 45 rfl, F4.row 45 rfl, F3c.row 45 rfl]
  have c46 : mTell h4 A.1 46 = h1 46 := by rw [Fm.row 46 rfl, F4.row 46 rfl, F3c.row 46 rfl]
  have c2 : mTell h4 A.1 44 2 = h1 44 2 := by rw [Fm.at 44 2 rfl, F4.at 44 2 rfl, F3c.at 44 2 rfl]
  have c3 : mTell h4 A.1 44 3 = h1 44 3 := by rw [Fm.at 44 3 rfl, F4.at 44 3 rfl, F3c.at 44 3 rfl]
  have q3 : HR (h1 45) (h 46) (h 90) (h 91) (h 44 2) (h 44 3) (h 87 6) (h 87 7) n m := q2.ahead hn10 hm3 ha s2
  refine I.upd F (by decide +kernel) (by decide +kernel) ⟨n, m, L, ⟨?_, ?_, ?_, ?_⟩, ?_⟩ (I.tape.cg (F.cg (by decide +kernel))) ?_ (by rw [F.at 85 20 rfl]; exact I.od)
  · rw [x87]
    refine (S.of (F.row 1 rfl) (fun j j1 j2 => ?_) h120).ofG (fun i hi => D4 i (by omega))
    rcases (show j = 1 ∨ j = 2 ∨ j = 3 ∨ j = 4 ∨ j = 5 ∨ j = 6 ∨ j = 7 by omega) with rfl | rfl | rfl | rfl | rfl | rfl | rfl <;> exact F.row _ rfl
  · rw [x87, Fm.row 10 rfl, F4.row 10 rfl, F3c.row 10 rfl]; exact r
  · rw [x87]; exact W.of D4
  · rw [x87]; exact D3
  · unfold Hist
    rw [x87, D4 6 (by omega), D4 7 (by omega), c45, c46, c2, c3, Fm.at 85 8 rfl, Fm.row 90 rfl, Fm.row 91 rfl]
    rcases kp with ⟨k1, k2, k3, k4⟩ | ⟨k1, k2, k3, k4⟩
    · rcases rm with ⟨-, r2, r3, r4⟩ | ⟨r1, -⟩
      case inr => omega
      rw [k2, k3, k4, r2, r3, r4, F3.at 85 8 rfl, F3.row 90 rfl, F3.row 91 rfl]
      exact ⟨q1, q3⟩
    · rcases rm with ⟨r1, -⟩ | ⟨-, r2, r3⟩
      case inl => omega
      rw [F3.row 90 rfl, F3.row 91 rfl] at r3
      rw [k2, k3, k4, r2]
      exact ⟨rfl, q3.keep hn10 hm3 ha hk s1 R B hdd rfl r3⟩
  · obtain ⟨t1, t2, t3, t4, t5⟩ := I.scal
    refine Scal.tell (h := h) (h1 := h1) (by omega) I.scal (F1.row 84 rfl) (by rw [F4.row 86 rfl, F3.row 86 rfl]) ?_ ?_ ?_ ?_ ?_
    · rw [F4.at 0 16 rfl, setH_o (by decide)]
    · rw [F4.row 84 rfl, setH_o (by decide)]
    · rw [F4.at 0 15 rfl, F3.at 0 15 rfl, F4.at 85 11 rfl, F3.at 85 11 rfl]; exact t1
    · rw [F4.at 43 10 rfl, F3.at 43 10 rfl, F4.at 85 18 rfl, F3.at 85 18 rfl]; exact t4
    · rw [F4.at 52 10 rfl, F3.at 52 10 rfl, F4.at 85 58 rfl, F3.at 85 58 rfl]; exact t5
theorem Hist.ak {h : Sto} {n m : Nat} (Hs : Hist h n m) : ∃ a k : Nat, h 44 2 = a ∧ a < 17 ∧ h 44 3 = k ∧ k ≤ 16 := by
  obtain ⟨-, a, k, h1, h2, h3, h4, -⟩ := Hs
  exact ⟨a, k, h1, h2, h3, h4⟩
