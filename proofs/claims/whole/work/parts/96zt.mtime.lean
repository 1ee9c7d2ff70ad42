/-! ===== orders: a time of a clause, done by the reference ===== -/
abbrev RmP : List Nat := [87, 90, 91, 103, 104, 105, 106, 117, 118]
abbrev RmS : List (Nat × Nat) := [(85, 8), (85, 20), (85, 34), (85, 38), (85, 39), (85, 40), (85, 56), (85, 57), (85, 59)]
/-- the reference's state is x -/
def KM (sh : Shp) (h0 h : Sto) (n m : Nat) (L : List Law) (x : OSt) : Prop := MJ sh h x.1 n m L ∧ h 85 56 = x.2.1 ∧ h 85 57 = x.2.2.1 ∧ h 85 8 = (x.2.2.2.2.2 : Int) ∧ (∀ i, i < 44 * x.2.2.2.2.2 → h 90 i = x.2.2.2.1 i) ∧ (∀ j, j < x.2.2.2.2.2 → h 91 j = x.2.2.2.2.1 j) ∧ ∀ i, 704 ≤ i → h 90 i = h0 90 i
theorem KM.of {P : List Nat} {S : List (Nat × Nat)} {sh : Shp} {h0 h h2 : Sto} {n m : Nat} {L : List Law} {x : OSt} (K : KM sh h0 h n m L x) (F : Fr P S h h2) (hf : fixF P S = true) (hc : cgF [87, 90, 91] [(85, 56), (85, 57), (85, 8)] P S = true) (e20 : h2 85 20 = 0) : KM sh h0 h2 n m L x := by
  obtain ⟨M, a1, a2, a3, a4, a5, a6⟩ := K
  have E := F.cg hc
  refine ⟨⟨F.fix M.1 hf, by rw [E.r 87 rfl]; exact M.2.1, e20, M.2.2.2⟩, by rw [E.c 85 56 rfl]; exact a1, by rw [E.c 85 57 rfl]; exact a2, by rw [E.c 85 8 rfl]; exact a3, ?_, ?_, ?_⟩
  · rw [E.r 90 rfl]; exact a4
  · rw [E.r 91 rfl]; exact a5
  · rw [E.r 90 rfl]; exact a6
def RM (sh : Shp) (h0 h : Sto) (n m : Nat) (L : List Law) (x : OSt) (c : Nat) (Lx : List Clx) : Prop := Fr RmP RmS h0 h ∧ KM sh h0 h n m L x ∧ FM h (rwA L n m x) ∧ MTx h c Lx
theorem RM.ro {sh : Shp} {h0 h h2 : Sto} {n m : Nat} {L : List Law} {x : OSt} {c : Nat} {Lx : List Clx} (R : RM sh h0 h n m L x c Lx) (F : Fr RoP RoS h h2) (e20 : h2 85 20 = 0) : RM sh h0 h2 n m L x c Lx :=
  ⟨R.1.trans (F.mono rfl), R.2.1.of F (by decide +kernel) (by decide +kernel) e20, R.2.2.1.cg (F.row 104 rfl) (F.row 117 rfl) (F.row 118 rfl), R.2.2.2.fr F rfl rfl rfl⟩
theorem zq {z q : Nat} {Z : Int} (h : z + q < 96) (hZ : Z = (z : Int) + (q : Int)) : (0 ≤ w32 Z ∧ w32 Z < 96) ∧ (w32 Z).toNat = z + q := by
  rw [w32_nat (a := Z) (n := z + q) (by omega) (by omega)]
  omega
section TIMEM
variable {sc : Nat × (Nat → Int)} {d : Nat} {sh : Shp} {sl : Nat} {h0 h : Sto} {Q : Pst} {n m : Nat} {L : List Law} {G0 : Nat → Int} {x : OSt} {c i z : Nat} {cl : Clx} {Lx : List Clx}
/-- what is refused -/
def RfM (sh : Shp) (h0 h : Sto) (G0 : Nat → Int) : Prop := Fr RmP RmS h0 h ∧ Fix sh h ∧ (∀ j, (j < 5 ∨ 49 ≤ j) → h 87 j = G0 j) ∧ (∀ j, 704 ≤ j → h 90 j = h0 90 j) ∧ h 85 20 = 0
theorem RM.rf (R : RM sh h0 h n m L x c Lx) (Vo : OOK L n m G0 x) : RfM sh h0 h G0 := ⟨R.1, R.2.1.1.1, fun j hj => by rw [R.2.1.1.2.1]; exact Vo.2.2.1 j (by omega), R.2.1.2.2.2.2.2.2, R.2.1.1.2.2.1⟩
/-- behind the TEST -/
theorem sp_sums (hz : z = 8 * i) (hi : Lx[i]? = some cl) (R : RM sh h0 h n m L x c Lx) (Vo : OOK L n m G0 x) (e59 : h 85 59 = 0) (hd : dueO cl.2.1 (fcA L n m x) = true) {x2 : Int} {j3 j4 : V}
    (q0 : stO L n m cl x = none → ∀ h', RfM sh h0 h' G0 → Q (0, -3) sh sl h') (q1 : ∀ y, stO L n m cl x = some y → ∀ h', Fr RmP RmS h0 h' → KM sh h0 h' n m L y → Q (0, 0) sh sl h') : WM sc (d + 11) 273 [(2, 85), (0, (z : Int) + 1)] sh sl h (fun r sh1 sl1 h1 => WF sc (d + 12) 272 161 [(2, 85), (0, (z : Int)), (0, x2), j3, j4] (pushR r []) sh1 sl1 h1 Q) := by
  have il : i < Lx.length := (List.getElem?_eq_some_iff.mp hi).1
  have l12 := R.2.2.2.2.1
  have gcl := (R.2.2.2.2.2.2.2.2 i cl hi).2
  have c4 := R.2.2.2.2.2.2.1
  have H := (R.2.2.2.2.2.2.2.2 i cl hi).1.all
  rw [← hz] at H
  refine sp_sum (z := z + 1) (x := x) (n := n) (m := m) (L := L) (c := c) (o := cl.2.2.1) (by omega) (by omega) e59 R.2.1.1 R.2.2.1 R.2.2.2.2.2.1 c4 R.2.2.2.2.2.2.2.1 H.2.2.1 (fun h5 v F5 f20 f59 fv => ?_)
  have R5 := R.ro F5 f20
  have X5 := R5.2.1.1.1
  simp only [pushR0]
  rw [B_272_161 X5]
  rcases evO_bM (o := cl.2.2.1) (f := fcA L n m x) fcA_ok (fun ev h => (gcl.2.2.1 ev h).1) with n1 | ⟨a, a1, a2⟩
  · rw [n1, if_pos rfl] at f59
    rw [B_273_0 X5, f59, show w32 1 = 1 from rfl, if_pos (by decide)]
    simp only [pushR0]
    rw [B_272_169 X5, f59, show w32 1 = 1 from rfl, if_neg (by decide)]
    exact q0 (by unfold stO; rw [if_pos hd, n1]) h5 (R5.rf Vo)
  rw [if_neg (by rw [a1]; simp)] at f59
  have va := fv a a1
  subst va
  have H5 := (R5.2.2.2.2.2.2.2.2 i cl hi).1.all
  rw [← hz] at H5
  refine sp_sum (z := z + 3) (x := x) (n := n) (m := m) (L := L) (c := c) (o := cl.2.2.2.1) (by omega) (by omega) f59 R5.2.1.1 R5.2.2.1 R5.2.2.2.2.2.1 c4 R5.2.2.2.2.2.2.2.1 H5.2.2.2.1 (fun h6 v2 F6 g20 g59 gv => ?_)
  have R6 := R5.ro F6 g20
  have X6 := R6.2.1.1.1
  simp only [pushR0]
  rcases evO_bM (o := cl.2.2.2.1) (f := fcA L n m x) fcA_ok (fun ev h => (gcl.2.2.2.1 ev h).1) with n2 | ⟨b, b1, b2⟩
  · rw [n2, if_pos rfl] at g59
    rw [B_272_169 X6, g59, show w32 1 = 1 from rfl, if_neg (by decide)]
    exact q0 (by unfold stO; rw [if_pos hd, a1, n2]) h6 (R6.rf Vo)
  rw [if_neg (by rw [b1]; simp)] at g59
  have vb := gv b b1
  subst vb
  have H6 := (R6.2.2.2.2.2.2.2.2 i cl hi).1.all
  rw [← hz] at H6
  have z0 := zq (z := z) (q := 0) (Z := (z : Int)) (by omega) (by simp)
  rw [Nat.add_zero] at z0
  rw [B_272_169 X6, g59, w32_0, if_pos rfl, z0.2, H6.1]
  refine ⟨z0.1, ?_⟩
  obtain ⟨K1, K2, K3, K4, K5, K6, K7⟩ := R6.2.1
  have D : Dok x.1 n m (dA x.1 L n m cl.1 v v2) := dA_ok Vo.1 Vo.2.1
  have D1 := D.1
  have k16 := Vo.2.2.2
  refine sp_deedM (d := d + 1) gcl.1 a2 b2 K1 K4 k16 (fun h7 F7 e87 rm => ?_)
  have X7 := F7.fix X6 (by decide +kernel)
  have F7' : Fr RmP RmS h0 h7 := R6.1.trans (F7.mono rfl)
  have up : ∀ j, 704 ≤ j → h7 90 j = h0 90 j := fun j hj => by
    rcases rm with ⟨-, r1, -⟩ | ⟨-, -, r1⟩
    · rw [r1]; exact K7 j hj
    · rw [r1.2 j hj]; exact K7 j hj
  have H7 := ((R6.2.2.2.2.2.2.2.2 i cl hi).1.fr F7 rfl).all
  rw [← hz] at H7
  simp only [pushR0]
  rw [B_272_192 X7, w32_id (a := (dA x.1 L n m cl.1 v v2).1) (by omega) (by omega)]
  by_cases hneg : (dA x.1 L n m cl.1 v v2).1 < 0
  · rw [if_neg (by omega)]
    exact q0 (by unfold stO; rw [if_pos hd, a1, b1]; simp only [if_pos hneg]) h7 ⟨F7', X7, fun j hj => by rw [e87, D.2.2.2 j (by omega)]; exact Vo.2.2.1 j (by omega), up, by rw [F7.at 85 20 rfl]; exact g20⟩
  have hk3 := gcl.1
  rw [if_pos (by omega), z0.2, H7.1, w32_id (a := ((cl.1 : Nat) : Int)) (by omega) (by omega)]
  refine ⟨z0.1, ?_⟩
  have es : stO L n m cl x = some ((dA x.1 L n m cl.1 v v2).2, x.2.1 + 1, if cl.1 = 2 then (dA x.1 L n m cl.1 v v2).1 else x.2.2.1, remU2 x.2.2.2.1 x.2.2.2.2.2 x.1, remS2 x.2.2.2.2.1 x.2.2.2.2.2 (cl.1 : Int), kNext x.2.2.2.2.2) := by
    unfold stO; rw [if_pos hd, a1, b1]; simp only [if_neg hneg]
  rcases rm with ⟨q, -⟩ | ⟨-, r1, r2⟩
  · omega
  have two := r2.two (rem2_ok (u := x.2.2.2.1) (s := x.2.2.2.2.1) k16) K5 K6
  have e20' : h7 85 20 = 0 := by rw [F7.at 85 20 rfl]; exact g20
  have g56 : h7 85 56 = x.2.1 := by rw [F7.at 85 56 rfl]; exact K2
  have g57 : h7 85 57 = x.2.2.1 := by rw [F7.at 85 57 rfl]; exact K3
  have K7' : KM sh h0 h7 n m L ((dA x.1 L n m cl.1 v v2).2, x.2.1, x.2.2.1, remU2 x.2.2.2.1 x.2.2.2.2.2 x.1, remS2 x.2.2.2.2.1 x.2.2.2.2.2 (cl.1 : Int), kNext x.2.2.2.2.2) := ⟨⟨X7, e87, e20', Vo.1.of D.2.2.2, D.2.2.1⟩, g56, g57, r1, two.1, two.2, up⟩
  obtain ⟨k1, k2, k3, k4, k5, k6, k7⟩ := K7'
  refine ite_i (fun h2k => ?_) (fun h2k => ?_)
  · obtain ⟨h8, hh8⟩ : ∃ h8, setH (setH h7 85 57 (h7 85 57)) 85 56 (h7 85 56 + 1) = h8 := ⟨_, rfl⟩
    rw [hh8]
    have F8 : Fr [] [(85, 57), (85, 56)] h7 h8 := by rw [← hh8]; exact ((Fr.refl h7).set rfl).set rfl
    refine q1 _ es h8 (F7'.trans (F8.mono rfl)) ⟨k1.of F8 (by decide +kernel) (by decide +kernel), by rw [← hh8, setH_self, g56], ?_, by rw [F8.at 85 8 rfl]; exact k4, by rw [F8.row 90 rfl]; exact k5, by rw [F8.row 91 rfl]; exact k6, by rw [F8.row 90 rfl]; exact k7⟩
    show h8 85 57 = if cl.1 = 2 then (dA x.1 L n m cl.1 v v2).1 else x.2.2.1
    rw [if_neg (by omega), ← hh8, setH_k (by decide), setH_self, g57]
  · obtain ⟨h8, hh8⟩ : ∃ h8, setH (setH h7 85 57 (dA x.1 L n m cl.1 v v2).1) 85 56 (h7 85 56 + 1) = h8 := ⟨_, rfl⟩
    rw [hh8]
    have F8 : Fr [] [(85, 57), (85, 56)] h7 h8 := by rw [← hh8]; exact ((Fr.refl h7).set rfl).set rfl
    refine q1 _ es h8 (F7'.trans (F8.mono rfl)) ⟨k1.of F8 (by decide +kernel) (by decide +kernel), by rw [← hh8, setH_self, g56], ?_, by rw [F8.at 85 8 rfl]; exact k4, by rw [F8.row 90 rfl]; exact k5, by rw [F8.row 91 rfl]; exact k6, by rw [F8.row 90 rfl]; exact k7⟩
    show h8 85 57 = if cl.1 = 2 then (dA x.1 L n m cl.1 v v2).1 else x.2.2.1
    rw [if_pos (by omega), ← hh8, setH_k (by decide), setH_self]
theorem sp_timeM (hz : z = 8 * i) (hi : Lx[i]? = some cl) (F : Fr RmP RmS h0 h) (K : KM sh h0 h n m L x) (Vo : OOK L n m G0 x) (T : MTx h c Lx)
    (q0 : stO L n m cl x = none → ∀ h', RfM sh h0 h' G0 → Q (0, -3) sh sl h') (q1 : ∀ y, stO L n m cl x = some y → ∀ h', Fr RmP RmS h0 h' → KM sh h0 h' n m L y → Q (0, 0) sh sl h') : WM sc (d + 12) 272 [(2, 85), (0, (z : Int))] sh sl h Q := by
  have il : i < Lx.length := (List.getElem?_eq_some_iff.mp hi).1
  have l12 := T.2.1
  have gcl := (T.2.2.2.2.2 i cl hi).2
  have c4 := T.2.2.2.1
  have M := K.1
  have W := Vo.1
  have hn10 := W.1.2.1
  have hm3 := W.1.2.2.2.1
  rw [B_272_0 M.1]
  obtain ⟨h1, hh1⟩ : ∃ h1, setH (setH (setH h 104 1 (w32 (h 87 5))) 104 2 (w32 (h 85 56))) 104 3 (w32 (h 85 57)) = h1 := ⟨_, rfl⟩
  rw [hh1]
  have F1 : Fr [104] [] h h1 := by rw [← hh1]; exact (((Fr.refl h).setP rfl).setP rfl).setP rfl
  have M1 : MJ sh h1 x.1 n m L := M.of F1 (by decide +kernel) (by decide +kernel)
  refine sp_minSheet M1.1 M1.2.1 W.1.1 hn10 M1.2.2.2.2 hm3 ?_
  simp only [pushR0]
  rw [B_272_44 M1.1]
  refine sp_ones M1.1 (msk_lt10 hn10) ?_
  simp only [pushR0]
  rw [cnt_msk hn10, B_272_47 M1.1, show w32 4 = 4 from rfl, toNatL]
  refine ⟨⟨by decide, by decide⟩, ?_⟩
  obtain ⟨h2, hh2⟩ : ∃ h2, setH h1 104 4 (w32 ((cnt (inP x.1) n : Nat) : Int)) = h2 := ⟨_, rfl⟩
  rw [hh2]
  have F2 : Fr [104] [] h h2 := by rw [← hh2]; exact F1.setP rfl
  have M2 : MJ sh h2 x.1 n m L := M.of F2 (by decide +kernel) (by decide +kernel)
  have fm1 : ∀ o : Nat, 1 ≤ o → o ≤ 4 → h2 104 o = w32 (rwA L n m x (o - 1)) := fun o o1 o2 => by
    rcases (show o = 1 ∨ o = 2 ∨ o = 3 ∨ o = 4 by omega) with rfl | rfl | rfl | rfl
    · rw [← hh2, setH_k (by decide), ← hh1, setH_k (by decide), setH_k (by decide), setH_self, M.2.1]; rfl
    · rw [← hh2, setH_k (by decide), ← hh1, setH_k (by decide), setH_self, K.2.1]; rfl
    · rw [← hh2, setH_k (by decide), ← hh1, setH_self, K.2.2.1]; rfl
    · rw [← hh2, setH_self]; rfl
  refine lp_fm (d := d + 3) (x := x) (n := n) (m := m) (L := L) M2 (fun h3 F3 k1 k2 => ?_) 3 0 h2 _ (by omega) rfl (Fr.refl h2) (fun k hk => by omega) (fun k hk => by omega)
  have FF : Fr [103, 104, 105, 117, 118] MS h h3 := (F2.mono rfl).trans (F3.mono rfl)
  have R3 : RM sh h0 h3 n m L x c Lx := ⟨F.trans (FF.mono rfl), K.of FF (by decide +kernel) (by decide +kernel) (by rw [FF.at 85 20 rfl]; exact M.2.2.1), ⟨fun o o1 o2 => by rw [F3.row 104 rfl]; exact fm1 o o1 o2, k1, k2⟩, T.fr FF rfl rfl rfl⟩
  have X3 := R3.2.1.1.1
  have H := (R3.2.2.2.2.2.2.2.2 i cl hi).1.all
  rw [← hz] at H
  have z5 := zq (z := z) (q := 5) (Z := (z : Int) + 5) (by omega) rfl
  have z6 := zq (z := z) (q := 6) (Z := (z : Int) + 6) (by omega) rfl
  obtain ⟨w1, w2, w3, w4⟩ := H.2.1.b c4
  rw [B_272_51 X3, show w32 3 = 3 from rfl, if_pos (by decide), z5.2, z6.2, w1, w2]
  refine ⟨z5.1, z6.1, ?_⟩
  have F4 : Fr RoP RoS h3 (setH h3 85 59 0) := (Fr.refl h3).set rfl
  have R4 := R3.ro F4 (by rw [setH_k (by decide)]; exact R3.2.1.1.2.2.1)
  have e59 : setH h3 85 59 0 85 59 = 0 := setH_self _ _ _ _
  refine ite_i (fun hn => ?_) (fun hn => ?_)
  · have ho := w4.mp hn
    exact sp_sums hz hi R4 Vo e59 (by rw [ho]; rfl) q0 q1
  · have H4 := (R4.2.2.2.2.2.2.2.2 i cl hi).1.all
    rw [← hz] at H4
    cases ho : cl.2.1 with
    | none => exact absurd (w4.mpr ho) hn
    | some ev =>
      have H41 := H4.2.1
      rw [ho] at H41
      refine sp_sum (z := z + 5) (x := x) (n := n) (m := m) (L := L) (c := c) (o := some ev) (by omega) (by omega) e59 R4.2.1.1 R4.2.2.1 R4.2.2.2.2.2.1 c4 R4.2.2.2.2.2.2.2.1 H41 (fun h5 v F5 f20 f59 fv => ?_)
      have R5 := R4.ro F5 f20
      have X5 := R5.2.1.1.1
      have ed : dueO cl.2.1 (fcA L n m x) = decide (ev (fcA L n m x) = some 1) := by rw [ho]; rfl
      have eb := (gcl.2.1 ev ho).2 (fcA L n m x) fcA_ok
      have f59' : h5 85 59 = if ev (fcA L n m x) = none then 1 else 0 := f59
      have fv' : ∀ v', ev (fcA L n m x) = some v' → v = v' := fv
      have skip : dueO cl.2.1 (fcA L n m x) = false → Q (0, 0) sh sl h5 := fun hd => q1 x (by unfold stO; rw [if_neg (by rw [hd]; decide)]) h5 R5.1 R5.2.1
      simp only [pushR0]
      rw [B_272_140 X5]
      cases he : ev (fcA L n m x) with
      | none =>
        rw [he, if_pos rfl] at f59'
        rw [f59', show w32 1 = 1 from rfl, if_pos (by decide)]
        exact skip (by rw [ed, he]; rfl)
      | some b =>
        rw [he, if_neg (by simp)] at f59'
        rw [f59', w32_0, if_neg (by simp)]
        have vb := fv' b he
        subst vb
        rcases eb v he with e | e
        · rw [e, w32_0, if_neg (by simp)]
          exact skip (by rw [ed, he, e]; rfl)
        · rw [e, show w32 1 = 1 from rfl, if_pos (by decide)]
          exact sp_sums hz hi R5 Vo f59' (by rw [ed, he, e]; rfl) q0 q1
end TIMEM
