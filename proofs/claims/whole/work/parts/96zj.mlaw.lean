/-! ===== the law in the reference's row ===== -/
theorem rkF_cg {op ar op2 ar2 : Nat → Int} {lk : Int → Int → Int} {W last : Nat} (e : ∀ k, k < last → op2 k = op k ∧ ar2 k = ar k) : ∀ (n k : Nat) (stk : List Int), rkF op2 ar2 lk W last n k stk = rkF op ar lk W last n k stk := by
  intro n
  induction n with
  | zero => intro k stk; rfl
  | succ n ih =>
    intro k stk
    by_cases hk : k < last
    · simp only [rkF, (e k hk).1, (e k hk).2, ih]
    · simp only [rkF]
      rw [if_pos hk, if_pos hk]
theorem RgM.of9 {G G2 : Nat → Int} {z : Nat} {a b : Int} {ev : Ev} (H : RgM G z a b ev) (e : ∀ i, z ≤ i → i < z + 900 → G2 i = G i) : RgM G2 z a b ev := by
  obtain ⟨i, j, h1, h2, h3, h4, h5, h6⟩ := H
  refine ⟨i, j, h1, h2, h3, h4, fun k hk => ?_, fun f hf => ?_⟩
  · rw [e _ (by omega) (by omega), e _ (by omega) (by omega)]; exact h5 k hk
  · rw [rkF_cg (op := fun k => G (z + 98 + 2 * k)) (ar := fun k => G (z + 98 + 2 * k + 1)) (fun k hk => ⟨e _ (by omega) (by omega), e _ (by omega) (by omega)⟩)]
    exact h6 f hf
theorem LawM.of9 {G G2 : Nat → Int} {z : Nat} {Lw : Law} (H : LawM G z Lw) (hl : Lw.length ≤ 12) (e : ∀ i, z ≤ i → i < z + 900 → G2 i = G i) : LawM G2 z Lw := by
  refine ⟨by rw [e _ (by omega) (by omega)]; exact H.1, fun i c hc => ?_⟩
  have il : i < Lw.length := (List.getElem?_eq_some_iff.mp hc).1
  obtain ⟨h1, h2, h3⟩ := H.2 i c hc
  rw [e _ (by omega) (by omega), e _ (by omega) (by omega), e _ (by omega) (by omega), e _ (by omega) (by omega), e _ (by omega) (by omega)]
  refine ⟨h1, ?_, ?_⟩
  · cases hc1 : c.2.1 with
    | none => rw [hc1] at h2; exact h2
    | some ev => rw [hc1] at h2; exact h2.of9 e
  · cases hc2 : c.2.2 with
    | none => trivial
    | some ev => rw [hc2] at h3; exact h3.of9 e
/-- the law, copied into the row -/
theorem lawM_new {G : Nat → Int} {z c : Nat} {h : Sto} {L : List Clx} (hc : c ≤ 400) (e23 : h 85 23 = (c : Int)) (kb : MKb h) (g1 : G (z + 1) = (L.length : Int)) (g2 : ∀ i, i < 8 * L.length → G (z + 2 + i) = h 95 i) (g3 : ∀ i, i < c → G (z + 98 + 2 * i) = h 96 i ∧ G (z + 98 + 2 * i + 1) = h 97 i) (H : ∀ i cl, L[i]? = some cl → ClM false h c i cl) : LawM G z (lawOf L) := by
  have wx : ∀ f : Nat → Int, (fun o a => f (wxF false o a)) = fun (o _ : Int) => f (o.toNat - 1) := fun f => by
    funext o a; unfold wxF; rw [if_neg (by decide)]
  have rg : ∀ (v1 v2 : Int) (ev : Ev), SgR false h c v1 v2 (some ev) → RgM G z v1 v2 ev := fun v1 v2 ev hs => by
    obtain ⟨a, e, l, h1, h2, h3, h4, h5⟩ := hs
    have h3' := h3.cg (op2 := fun k => G (z + 98 + 2 * k)) (ar2 := fun k => G (z + 98 + 2 * k + 1)) (fun i _ hi => g3 i (by omega))
    have ae := h3.1.1
    refine ⟨a, e, h1, h2, ae, by omega, fun k hk => ?_, fun f hf => ?_⟩
    · have b := kb k (by rw [e23]; omega)
      unfold KBd at b
      rw [(g3 k (by omega)).1, (g3 k (by omega)).2]
      omega
    · have r := sgM_run h3'.sg (by omega) (by omega) hf
      rw [wx] at r
      exact r
  refine ⟨by rw [lawOf_len]; exact g1, fun i c1 hc1 => ?_⟩
  obtain ⟨cl, hL, hcl⟩ := lawOf_get hc1
  subst hcl
  have il : i < L.length := (List.getElem?_eq_some_iff.mp hL).1
  have k := H i cl hL
  unfold ClM at k
  rw [if_neg (by decide)] at k
  obtain ⟨k1, k2, k3⟩ := k
  rw [show z + 2 + 8 * i + 5 = z + 2 + (8 * i + 5) by omega, show z + 2 + 8 * i + 6 = z + 2 + (8 * i + 6) by omega, show z + 2 + 8 * i + 3 = z + 2 + (8 * i + 3) by omega, show z + 2 + 8 * i + 4 = z + 2 + (8 * i + 4) by omega, g2 (8 * i) (by omega), g2 (8 * i + 5) (by omega), g2 (8 * i + 6) (by omega), g2 (8 * i + 3) (by omega), g2 (8 * i + 4) (by omega)]
  refine ⟨k1, ?_, ?_⟩
  · show (match cl.2.1 with | none => _ | some ev => _)
    cases hc1 : cl.2.1 with
    | none =>
      rw [hc1] at k2
      obtain ⟨j1, a, j2, j3⟩ := k2
      exact ⟨j1, by omega, by omega⟩
    | some ev => rw [hc1] at k2; exact rg _ _ ev k2
  · show (match cl.2.2.1 with | none => _ | some ev => _)
    cases hc1 : cl.2.2.1 with
    | none => trivial
    | some ev => rw [hc1] at k3; exact rg _ _ ev k3
section MLAW
variable {sc : Nat × (Nat → Int)} {d : Nat} {sh : Shp} {sl : Nat} {h : Sto} {Q : Pst}
theorem m194c {k len c : Nat} {j1 j2 : V} (X : Fix sh h) (e3 : h 87 3 = (k : Int)) (hk : k < 6) (e19 : h 85 19 = 0) (e21 : h 85 21 = (len : Int)) (hl : len ≤ 12) (e23 : h 85 23 = (c : Int)) (hc : c ≤ 400) (hq : ∀ h2, Fr [87] [] h h2 → (∀ j, j < 94 + 900 * k → j ≠ 3 → h2 87 j = h 87 j) → h2 87 3 = ((k + 1 : Nat) : Int) → h2 87 (94 + 900 * k + 1) = (len : Int) → (∀ i, i < 8 * len → h2 87 (94 + 900 * k + 2 + i) = h 95 i) → (∀ i, i < c → h2 87 (94 + 900 * k + 98 + 2 * i) = h 96 i ∧ h2 87 (94 + 900 * k + 98 + 2 * i + 1) = h 97 i) → Q (0, (k : Int)) sh sl (mTell h2 (k : Int))) : WF sc (d + 1) 194 68 [(2, 85), j1, j2] [] sh sl h Q := by
  have lpB : ∀ (rem m : Nat) (h' : Sto) (K : Int), m + rem = c → K = (m : Int) → Fr [87] [] h h' → (∀ j, j < 94 + 900 * k → h' 87 j = h 87 j) → h' 87 (94 + 900 * k + 1) = (len : Int) → (∀ i, i < 8 * len → h' 87 (94 + 900 * k + 2 + i) = h 95 i) → (∀ i, i < m → h' 87 (94 + 900 * k + 98 + 2 * i) = h 96 i ∧ h' 87 (94 + 900 * k + 98 + 2 * i + 1) = h 97 i) → WF sc (d + 1) 194 145 [(2, 85), (0, ((94 + 900 * k : Nat) : Int)), (0, K)] [] sh sl h' Q := by
    intro rem
    induction rem with
    | zero =>
      intro m h' K hm hK F' z1 z2 z3 z4
      subst hK
      have X' : Fix sh h' := F'.fix X (by decide +kernel)
      have mc : m = c := by omega
      subst mc
      have F2 : Fr [87] [] h (setH h' 87 3 ((k : Int) + 1)) := F'.setP rfl
      have X2 : Fix sh (setH h' 87 3 ((k : Int) + 1)) := F2.fix X (by decide +kernel)
      rw [B_194_145 X', F'.at 85 23 rfl, e23, w32_id (a := (m : Int)) (by omega) (by omega), if_pos (by omega), z1 3 (by omega), e3, show (k : Int) + 1 - 1 = (k : Int) by omega, sp_telT X2 (by omega)]
      simp only [pushR0]
      rw [B_194_221 (mTell_fr.fix X2 (by decide +kernel))]
      refine hq _ F2 (fun j h1 h3 => by rw [setH_k h3]; exact z1 j h1) (by rw [setH_self]; omega) (by rw [setH_k (by omega)]; exact z2) (fun i hi => by rw [setH_k (by omega)]; exact z3 i hi) (fun i hi => by rw [setH_k (by omega), setH_k (by omega)]; exact z4 i hi)
    | succ rem ih =>
      intro m h' K hm hK F' z1 z2 z3 z4
      subst hK
      have X' : Fix sh h' := F'.fix X (by decide +kernel)
      rw [B_194_145 X', F'.at 85 23 rfl, e23, w32_id (a := (c : Int)) (by omega) (by omega), w32_id (a := (m : Int)) (by omega) (by omega), if_neg (by omega), w32_nat (a := ((94 + 900 * k : Nat) : Int) + 98 + 2 * (m : Int)) (n := 94 + 900 * k + 98 + 2 * m) (by omega) (by omega), w32_nat (a := ((94 + 900 * k : Nat) : Int) + 98 + 2 * (m : Int) + 1) (n := 94 + 900 * k + 98 + 2 * m + 1) (by omega) (by omega), Int.toNat_natCast, Int.toNat_natCast, Int.toNat_natCast, F'.row 96 rfl, F'.row 97 rfl]
      refine ⟨⟨by omega, by omega⟩, ⟨by omega, by omega⟩, ⟨by omega, by omega⟩, ⟨by omega, by omega⟩, ?_⟩
      refine ih (m + 1) _ _ (by omega) (by omega) ((F'.setP rfl).setP rfl) (fun j hj => by rw [setH_k (by omega), setH_k (by omega)]; exact z1 j hj) (by rw [setH_k (by omega), setH_k (by omega)]; exact z2) (fun i hi => by rw [setH_k (by omega), setH_k (by omega)]; exact z3 i hi) (fun i hi => ?_)
      by_cases im : i = m
      · subst im; exact ⟨by rw [setH_k (by omega), setH_self], by rw [setH_self]⟩
      · rw [setH_k (by omega), setH_k (by omega), setH_k (by omega), setH_k (by omega)]; exact z4 i (by omega)
  have lpA : ∀ (rem m : Nat) (h' : Sto) (K : Int), m + rem = 8 * len → K = (m : Int) → Fr [87] [] h h' → (∀ j, j < 94 + 900 * k → h' 87 j = h 87 j) → h' 87 (94 + 900 * k + 1) = (len : Int) → (∀ i, i < m → h' 87 (94 + 900 * k + 2 + i) = h 95 i) → WF sc (d + 1) 194 110 [(2, 85), (0, ((94 + 900 * k : Nat) : Int)), (0, K)] [] sh sl h' Q := by
    intro rem
    induction rem with
    | zero =>
      intro m h' K hm hK F' z1 z2 z3
      subst hK
      have X' : Fix sh h' := F'.fix X (by decide +kernel)
      rw [B_194_110 X', F'.at 85 21 rfl, e21, w32_nat (a := 8 * (len : Int)) (n := 8 * len) (by omega) (by omega), w32_id (a := (m : Int)) (by omega) (by omega), if_pos (by omega)]
      exact lpB c 0 h' 0 (by omega) rfl F' z1 z2 (fun i hi => z3 i (by omega)) (fun i hi => by omega)
    | succ rem ih =>
      intro m h' K hm hK F' z1 z2 z3
      subst hK
      have X' : Fix sh h' := F'.fix X (by decide +kernel)
      rw [B_194_110 X', F'.at 85 21 rfl, e21, w32_nat (a := 8 * (len : Int)) (n := 8 * len) (by omega) (by omega), w32_id (a := (m : Int)) (by omega) (by omega), if_neg (by omega), w32_nat (a := ((94 + 900 * k : Nat) : Int) + 2 + (m : Int)) (n := 94 + 900 * k + 2 + m) (by omega) (by omega), Int.toNat_natCast, Int.toNat_natCast, F'.row 95 rfl]
      refine ⟨⟨by omega, by omega⟩, ⟨by omega, by omega⟩, ?_⟩
      refine ih (m + 1) _ _ (by omega) (by omega) (F'.setP rfl) (fun j hj => by rw [setH_k (by omega)]; exact z1 j hj) (by rw [setH_k (by omega)]; exact z2) (fun i hi => ?_)
      by_cases im : i = m
      · subst im; rw [setH_self]
      · rw [setH_k (by omega)]; exact z3 i (by omega)
  rw [B_194_68 X, e19, w32_0, if_pos rfl, e3, show (94 : Int) + 900 * (k : Int) = ((94 + 900 * k : Nat) : Int) by omega, w32_nat (a := ((94 + 900 * k : Nat) : Int) + 1) (n := 94 + 900 * k + 1) (by omega) (by omega), Int.toNat_natCast, e21]
  refine ⟨⟨by omega, by omega⟩, ?_⟩
  exact lpA (8 * len) 0 _ 0 (by omega) rfl ((Fr.refl h).setP rfl) (fun j hj => setH_k (by omega)) (setH_self _ _ _ _) (fun i hi => by omega)
end MLAW
