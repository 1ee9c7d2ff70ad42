/-! ===== the reference's clauses: heads ===== -/
def hdW (od : Bool) (k : Nat) : List Int := if od = true then ([[115, 116, 105, 99, 107], [112, 101, 101, 108], [99, 97, 110, 99, 101, 108], [112, 97, 115, 115]] : List (List Int)).getD k [] else ([[113, 117, 97, 114, 114, 101, 108, 115], [100, 114, 105, 101, 115], [99, 111, 117, 110, 116, 115], [98, 97, 114, 115]] : List (List Int)).getD k []
theorem hdW_ok : ∀ (od : Bool) (k : Fin 4), (1 ≤ (hdW od k).length ∧ (hdW od k).length ≤ 10) ∧ (∀ i, i < (hdW od k).length → 97 ≤ (hdW od k).getD i 0 ∧ (hdW od k).getD i 0 ≤ 122) ∧ (0 ≤ encW (hdW od k) ∧ encW (hdW od k) < 1125899906842624) ∧ ∀ j : Fin 4, (j : Nat) ≠ k → hdW od j ≠ hdW od k := by decide +kernel
theorem r102 {sh : Shp} {h : Sto} (X : Fix sh h) : ∀ k, k < 4 → h 102 k = encW (hdW false k) := by
  intro k hk
  have : k = 0 ∨ k = 1 ∨ k = 2 ∨ k = 3 := by omega
  rcases this with rfl | rfl | rfl | rfl
  · rw [ff_102_0 X]; decide +kernel
  · rw [ff_102_1 X]; decide +kernel
  · rw [ff_102_2 X]; decide +kernel
  · rw [ff_102_3 X]; decide +kernel
theorem r115 {sh : Shp} {h : Sto} (X : Fix sh h) : ∀ k, k < 4 → h 115 k = encW (hdW true k) := by
  intro k hk
  have : k = 0 ∨ k = 1 ∨ k = 2 ∨ k = 3 := by omega
  rcases this with rfl | rfl | rfl | rfl
  · rw [ff_115_0 X]; decide +kernel
  · rw [ff_115_1 X]; decide +kernel
  · rw [ff_115_2 X]; decide +kernel
  · rw [ff_115_3 X]; decide +kernel
def hdA (T : Nat → Int) (n p : Nat) (od : Bool) : Nat → Int
  | 0 => -1
  | k + 1 => if seeT T n p (hdW od k) = true then (k : Int) else hdA T n p od k
theorem hdR_eq {T : Nat → Int} {n p : Nat} {od : Bool} : hdR T n od p = if seeT T n p (hdW od 0) = true then some 0 else if seeT T n p (hdW od 1) = true then some 1 else if seeT T n p (hdW od 2) = true then some 2 else if seeT T n p (hdW od 3) = true then some 3 else none := by
  cases od with
  | false => unfold hdR; rw [if_neg (by decide)]; rfl
  | true => unfold hdR; rw [if_pos rfl]; rfl
theorem hdA_eq {T : Nat → Int} {n p : Nat} {od : Bool} : (hdR T n od p = none ∧ hdA T n p od 4 = -1) ∨ ∃ k : Nat, k < 4 ∧ hdR T n od p = some k ∧ hdA T n p od 4 = (k : Int) := by
  have eA : hdA T n p od 4 = if seeT T n p (hdW od 3) = true then ((3 : Nat) : Int) else if seeT T n p (hdW od 2) = true then ((2 : Nat) : Int) else if seeT T n p (hdW od 1) = true then ((1 : Nat) : Int) else if seeT T n p (hdW od 0) = true then ((0 : Nat) : Int) else -1 := rfl
  have ne : ∀ i j : Nat, i < 4 ∧ j < 4 ∧ j ≠ i → seeT T n p (hdW od i) = true → ¬ seeT T n p (hdW od j) = true := fun i j hj s1 s2 => (hdW_ok od ⟨i, hj.1⟩).2.2.2 ⟨j, hj.2.1⟩ hj.2.2 (see_inj s2 s1)
  rw [eA, hdR_eq]
  by_cases s0 : seeT T n p (hdW od 0) = true
  · exact Or.inr ⟨0, by omega, by rw [if_pos s0], by rw [if_neg (ne 0 3 (by decide) s0), if_neg (ne 0 2 (by decide) s0), if_neg (ne 0 1 (by decide) s0), if_pos s0]⟩
  by_cases s1 : seeT T n p (hdW od 1) = true
  · exact Or.inr ⟨1, by omega, by rw [if_neg s0, if_pos s1], by rw [if_neg (ne 1 3 (by decide) s1), if_neg (ne 1 2 (by decide) s1), if_pos s1]⟩
  by_cases s2 : seeT T n p (hdW od 2) = true
  · exact Or.inr ⟨2, by omega, by rw [if_neg s0, if_neg s1, if_pos s2], by rw [if_neg (ne 2 3 (by decide) s2), if_pos s2]⟩
  by_cases s3 : seeT T n p (hdW od 3) = true
  · exact Or.inr ⟨3, by omega, by rw [if_neg s0, if_neg s1, if_neg s2, if_pos s3], by rw [if_pos s3]⟩
  · exact Or.inl ⟨by rw [if_neg s0, if_neg s1, if_neg s2, if_neg s3], by rw [if_neg s3, if_neg s2, if_neg s1, if_neg s0]⟩
section MCL
variable {sc : Nat × (Nat → Int)} {d : Nat} {sh : Shp} {sl : Nat} {h : Sto} {Q : Pst} {T : Nat → Int} {n : Nat} {od : Bool} {p lf ws c : Nat}
theorem lp_hd200 {j3 : V} (X : Fix sh h) (hp : p ≤ n) (P : TpM T n h) (R : RdM T n p h) (hq : WF sc (d + 2) 200 4 [(2, 85), (0, hdA T n p false 4), (0, ((4 : Nat) : Int)), j3] [] sh sl h Q) : ∀ (rem k : Nat) (A K : Int), k + rem = 4 → A = hdA T n p false k → K = k → WF sc (d + 2) 200 4 [(2, 85), (0, A), (0, K), j3] [] sh sl h Q := by
  intro rem
  induction rem with
  | zero =>
    intro k A K hk hA hK
    subst hA hK
    have : k = 4 := by omega
    subst this
    exact hq
  | succ rem ih =>
    intro k A K hk hA hK
    subst hA hK
    have ok := hdW_ok false ⟨k, by omega⟩
    simp only at ok
    rw [B_200_4 X, w32_id (a := (k : Int)) (by omega) (by omega), if_neg (by omega), Int.toNat_natCast, r102 X k (by omega)]
    refine ⟨⟨by omega, by omega⟩, sp_isWord (w := hdW false k) X hp P R rfl ok.1 ok.2.1 ok.2.2.1 ?_⟩
    simp only [pushR0]
    rw [B_200_19 X]
    have es : hdA T n p false (k + 1) = if seeT T n p (hdW false k) = true then (k : Int) else hdA T n p false k := rfl
    by_cases s : seeT T n p (hdW false k) = true
    · rw [if_pos s] at es
      rw [if_pos s, show w32 1 = 1 from rfl, if_neg (by decide)]
      exact ih (k + 1) _ _ (by omega) (by rw [es]) (by simp)
    · rw [if_neg s] at es
      rw [if_neg s, w32_0, if_pos rfl]
      exact ih (k + 1) _ _ (by omega) (by rw [es]) (by simp)
theorem lp_hd270 {j3 : V} (X : Fix sh h) (hp : p ≤ n) (P : TpM T n h) (R : RdM T n p h) (hq : WF sc (d + 2) 270 4 [(2, 85), (0, hdA T n p true 4), (0, ((4 : Nat) : Int)), j3] [] sh sl h Q) : ∀ (rem k : Nat) (A K : Int), k + rem = 4 → A = hdA T n p true k → K = k → WF sc (d + 2) 270 4 [(2, 85), (0, A), (0, K), j3] [] sh sl h Q := by
  intro rem
  induction rem with
  | zero =>
    intro k A K hk hA hK
    subst hA hK
    have : k = 4 := by omega
    subst this
    exact hq
  | succ rem ih =>
    intro k A K hk hA hK
    subst hA hK
    have ok := hdW_ok true ⟨k, by omega⟩
    simp only at ok
    rw [B_270_4 X, w32_id (a := (k : Int)) (by omega) (by omega), if_neg (by omega), Int.toNat_natCast, r115 X k (by omega)]
    refine ⟨⟨by omega, by omega⟩, sp_isWord (w := hdW true k) X hp P R rfl ok.1 ok.2.1 ok.2.2.1 ?_⟩
    simp only [pushR0]
    rw [B_270_19 X]
    have es : hdA T n p true (k + 1) = if seeT T n p (hdW true k) = true then (k : Int) else hdA T n p true k := rfl
    by_cases s : seeT T n p (hdW true k) = true
    · rw [if_pos s] at es
      rw [if_pos s, show w32 1 = 1 from rfl, if_neg (by decide)]
      exact ih (k + 1) _ _ (by omega) (by rw [es]) (by simp)
    · rw [if_neg s] at es
      rw [if_neg s, w32_0, if_pos rfl]
      exact ih (k + 1) _ _ (by omega) (by rw [es]) (by simp)
theorem MEx.x {h2 : Sto} (H : MEx T n od p lf c h) (F : Fr [] NmS h h2) (R : RdM T n (enT T n p) h2) : MEx T n od (enT T n p) lf c h2 := by
  obtain ⟨⟨a1, a2, a3⟩, P, R0, b1, b2, b3, b4⟩ := H
  have eb := enT_b (T := T) a1
  have sb := stT_b (T := T) a1
  exact ⟨⟨eb.2.1, a2, by omega⟩, ⟨P.1, fun i hi => by rw [F.row 94 rfl]; exact P.2 i hi⟩, R, by rw [F.at 85 19 rfl]; exact b1, by rw [F.at 85 20 rfl]; exact b2, by rw [F.at 85 26 rfl]; exact b3, by rw [F.at 85 23 rfl]; exact b4⟩
theorem xNext (X : Fix sh h) (H : MEx T n od p lf c h) (hq : ∀ h2, Fr [] NmS h h2 → MEx T n od (enT T n p) lf c h2 → Q (9, 0) sh sl h2) : WM sc (d + 2) 197 [(2, 85)] sh sl h Q := by
  have eb := enT_b (T := T) H.1.1
  exact sp_nextM X eb.2.1 H.2.1 H.2.2.1.1 H.2.2.1.2.2.1 (fun h2 F R => hq h2 F (H.x F R))
theorem xMustT {x : Int} (X : Fix sh h) (H : MEx T n od p lf c h) (hx : x = 1) (hq : ∀ h2, Fr [] NmS h h2 → MEx T n od (enT T n p) lf c h2 → Q (9, 0) sh sl h2) : WM sc (d + 3) 202 [(2, 85), (0, x)] sh sl h Q := by
  subst hx
  rw [B_202_0 X, H.2.2.2.1, w32_0, if_neg (by simp), show w32 1 = 1 from rfl, if_pos (by decide), if_neg (by simp)]
  refine xNext X H (fun h2 F H2 => ?_)
  simp only [pushR9]
  rw [B_202_35 (F.fix X (by decide +kernel))]
  exact hq h2 F H2
theorem xMustF {x : Int} (X : Fix sh h) (H : MEx T n od p lf c h) (hx : x = 0) (hq : ∀ h2, Fr [] [(85, 18), (85, 19)] h h2 → h2 85 19 = 1 → h2 85 18 = ((stT T n p : Nat) : Int) → Q (9, 0) sh sl h2) : WM sc (d + 3) 202 [(2, 85), (0, x)] sh sl h Q := by
  subst hx
  have F : Fr [] [(85, 18), (85, 19)] h (setH (setH h 85 19 1) 85 18 ((stT T n p : Nat) : Int)) := ((Fr.refl h).set rfl).set rfl
  rw [B_202_0 X, H.2.2.2.1, w32_0, if_neg (by simp), if_neg (by simp), H.2.2.1.2.1, B_202_35 (F.fix X (by decide +kernel))]
  exact hq _ F (by rw [setH_k (by decide), setH_self]) (by rw [setH_self])
end MCL
abbrev MtP : List Nat := [95, 96, 97, 98, 99, 116]
abbrev MtS : List (Nat × Nat) := [(85, 14), (85, 15), (85, 16), (85, 17), (85, 18), (85, 19), (85, 23), (85, 26), (85, 29), (85, 30), (85, 21)]
abbrev MtT : List (Nat × Nat) := [(85, 14), (85, 15), (85, 16), (85, 17), (85, 23), (85, 26), (85, 29), (85, 30), (85, 21)]
/-- what a clause of the reference may change -/
def MC (i c : Nat) (h h2 : Sto) : Prop := Fr MtP MtT h h2 ∧ (∀ j, j < c → h2 96 j = h 96 j ∧ h2 97 j = h 97 j) ∧ (MKb h → MKb h2) ∧ ∀ j, j < 8 * i → h2 95 j = h 95 j ∧ h2 116 j = h 116 j
theorem MC.refl {i c : Nat} (h : Sto) : MC i c h h := ⟨Fr.refl h, fun _ _ => ⟨rfl, rfl⟩, id, fun _ _ => ⟨rfl, rfl⟩⟩
theorem MC.trans {i c c1 : Nat} {h h1 h2 : Sto} (A : MC i c h h1) (B : MC i c1 h1 h2) (hc : c ≤ c1) : MC i c h h2 :=
  ⟨A.1.trans B.1, fun j hj => ⟨(B.2.1 j (by omega)).1.trans (A.2.1 j hj).1, (B.2.1 j (by omega)).2.trans (A.2.1 j hj).2⟩, fun k => B.2.2.1 (A.2.2.1 k), fun j hj => ⟨(B.2.2.2 j hj).1.trans (A.2.2.2 j hj).1, (B.2.2.2 j hj).2.trans (A.2.2.2 j hj).2⟩⟩
theorem MX.mc {i c : Nat} {h h2 : Sto} (E : MX c h h2) : MC i c h h2 := ⟨E.1.mono rfl, E.2.1, E.2.2, fun j _ => by rw [E.1.row 95 rfl, E.1.row 116 rfl]; exact ⟨rfl, rfl⟩⟩
theorem MC.st {i c r j : Nat} {h : Sto} {v : Int} (hr : r = 95 ∨ r = 116) (hj : 8 * i ≤ j) : MC i c h (setH h r j v) := by
  refine ⟨?_, fun _ _ => by rw [setH_o (by omega), setH_o (by omega)]; exact ⟨rfl, rfl⟩, fun k => k.cg (by rw [setH_o (by omega)]) (setH_o (by omega)) (setH_o (by omega)), fun m hm => ⟨?_, ?_⟩⟩
  · rcases hr with e | e <;> subst e <;> exact (Fr.refl h).setP rfl
  · exact setH_other (Or.inr (by omega))
  · exact setH_other (Or.inr (by omega))
/-- a stretch of the reference's code from v1 to v2 -/
def SgR (od : Bool) (h : Sto) (c : Nat) (v1 v2 : Int) (o : Option Ev) : Prop := match o with
  | none => v1 = v2 ∧ ∃ a : Nat, v2 = (a : Int) ∧ a ≤ c
  | some ev => ∃ a e l : Nat, v1 = (a : Int) ∧ v2 = (e : Int) ∧ SeM (h 96) (h 97) (wxF od) (wtp od) a e l ev ∧ e ≤ c ∧ l ≤ 50
theorem SgR.mono {od : Bool} {c c2 : Nat} {h h2 : Sto} {v1 v2 : Int} {o : Option Ev} (H : SgR od h c v1 v2 o) (hc : c ≤ c2) (e : ∀ i, i < c → h2 96 i = h 96 i ∧ h2 97 i = h 97 i) : SgR od h2 c2 v1 v2 o := by
  cases o with
  | none =>
    obtain ⟨h1, a, h3, h4⟩ := H
    exact ⟨h1, a, h3, by omega⟩
  | some ev =>
    obtain ⟨a, e1, l, h1, h3, h4, h5, h6⟩ := H
    exact ⟨a, e1, l, h1, h3, h4.cg (fun i _ hi => e i (by omega)), by omega, h6⟩
/-- a clause of a law / of orders in the reference's rows -/
def ClM (od : Bool) (h : Sto) (c i : Nat) (cl : Clx) : Prop := if od = true then h 116 (8 * i) = (cl.1 : Int) ∧ SgR od h c (h 116 (8 * i + 5)) (h 116 (8 * i + 6)) cl.2.1 ∧ SgR od h c (h 116 (8 * i + 1)) (h 116 (8 * i + 2)) cl.2.2.1 ∧ SgR od h c (h 116 (8 * i + 3)) (h 116 (8 * i + 4)) cl.2.2.2.1 ∧ h 116 (8 * i + 7) = (cl.2.2.2.2.1 : Int)
  else h 95 (8 * i) = (cl.1 : Int) ∧ SgR od h c (h 95 (8 * i + 5)) (h 95 (8 * i + 6)) cl.2.1 ∧ SgR od h c (h 95 (8 * i + 3)) (h 95 (8 * i + 4)) cl.2.2.1
