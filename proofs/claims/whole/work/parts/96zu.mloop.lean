/-! ===== orders: the reference's loops ===== -/
section LOOPM
variable {sc : Nat × (Nat → Int)} {d : Nat} {sh : Shp} {sl : Nat} {h0 h : Sto} {Q : Pst} {n m : Nat} {L : List Law} {G0 : Nat → Int} {c : Nat} {Lx : List Clx}
theorem lp_gm1 {x1 : Int} (X : Fix sh h) (hq : ∀ h', Fr [90] [] h h' → (∀ i, i < 704 → h' 90 i = h 92 i) → WF sc (d + 1) 275 35 [(2, 85), (0, x1), (0, 0)] [] sh sl h' Q) : ∀ (rem i : Nat) (h' : Sto) (I : Int), i + rem = 704 → I = i → Fr [90] [] h h' → (∀ j, j < i → h' 90 j = h 92 j) → WF sc (d + 1) 275 8 [(2, 85), (0, x1), (0, I)] [] sh sl h' Q := by
  intro rem
  induction rem with
  | zero =>
    intro i h' I hi hI F e1
    subst hI
    have X' : Fix sh h' := F.fix X (by decide +kernel)
    rw [B_275_8 X', w32_id (a := (i : Int)) (by omega) (by omega), if_pos (by omega)]
    exact hq h' F (fun j hj => e1 j (by omega))
  | succ rem ih =>
    intro i h' I hi hI F e1
    subst hI
    have X' : Fix sh h' := F.fix X (by decide +kernel)
    rw [B_275_8 X', w32_id (a := (i : Int)) (by omega) (by omega), if_neg (by omega), Int.toNat_natCast]
    refine ⟨⟨by omega, by omega⟩, ⟨by omega, by omega⟩, ih (i + 1) _ _ (by omega) (by simp) (F.setP rfl) (fun j hj => ?_)⟩
    by_cases e : j = i
    · subst e; rw [setH_self, F.row 92 rfl]
    · rw [setH_k (by omega)]; exact e1 j (by omega)
theorem lp_gm2 {x1 : Int} (X : Fix sh h) (hq : ∀ h', Fr [91] [] h h' → (∀ i, i < 16 → h' 91 i = h 93 i) → Q (9, 0) sh sl (setH h' 85 8 x1)) : ∀ (rem i : Nat) (h' : Sto) (I : Int), i + rem = 16 → I = i → Fr [91] [] h h' → (∀ j, j < i → h' 91 j = h 93 j) → WF sc (d + 1) 275 35 [(2, 85), (0, x1), (0, I)] [] sh sl h' Q := by
  intro rem
  induction rem with
  | zero =>
    intro i h' I hi hI F e1
    subst hI
    have X' : Fix sh h' := F.fix X (by decide +kernel)
    rw [B_275_35 X', w32_id (a := (i : Int)) (by omega) (by omega), if_pos (by omega)]
    exact hq h' F (fun j hj => e1 j (by omega))
  | succ rem ih =>
    intro i h' I hi hI F e1
    subst hI
    have X' : Fix sh h' := F.fix X (by decide +kernel)
    rw [B_275_35 X', w32_id (a := (i : Int)) (by omega) (by omega), if_neg (by omega), Int.toNat_natCast]
    refine ⟨⟨by omega, by omega⟩, ⟨by omega, by omega⟩, ih (i + 1) _ _ (by omega) (by simp) (F.setP rfl) (fun j hj => ?_)⟩
    by_cases e : j = i
    · subst e; rw [setH_self, F.row 93 rfl]
    · rw [setH_k (by omega)]; exact e1 j (by omega)
/-- all is put back -/
def GvM (h0 h1 : Sto) (G0 : Nat → Int) (x1 : Int) : Prop := Fr RmP RmS h0 h1 ∧ (∀ j, j < 44 → h1 87 (5 + j) = h0 90 (748 + j)) ∧ (∀ j, (j < 5 ∨ 49 ≤ j) → h1 87 j = G0 j) ∧ (∀ j, j < 704 → h1 90 j = h0 92 j) ∧ (∀ j, j < 16 → h1 91 j = h0 93 j) ∧ h1 85 8 = x1 ∧ h1 85 20 = 0
theorem sp_giveM {x1 : Int} (R : RfM sh h0 h G0) (hq : ∀ h1, Fix sh h1 → GvM h0 h1 G0 x1 → Q (9, 0) sh sl h1) : WM sc (d + 2) 275 [(2, 85), (0, x1)] sh sl h Q := by
  obtain ⟨F, X, g1, g2, g3⟩ := R
  rw [B_275_0 X]
  refine sp_putBack (k := 17) X rfl (by omega) (fun h1 F1 a1 a2 => ?_)
  have X1 := F1.fix X (by decide +kernel)
  simp only [pushR9]
  rw [B_275_6 X1]
  refine lp_gm1 (d := d + 1) X1 (fun h2 F2 b1 => ?_) 704 0 h1 _ (by omega) rfl (Fr.refl h1) (fun j hj => by omega)
  have X2 := F2.fix X1 (by decide +kernel)
  refine lp_gm2 (d := d + 1) X2 (fun h3 F3 c1 => ?_) 16 0 h2 _ (by omega) rfl (Fr.refl h2) (fun j hj => by omega)
  have X3 := F3.fix X2 (by decide +kernel)
  refine hq _ (X3.s (by decide +kernel)) ⟨((((F.trans (F1.mono rfl)).trans (F2.mono rfl)).trans (F3.mono rfl))).set rfl, fun j hj => ?_, fun j hj => ?_, fun j hj => ?_, fun j hj => ?_, setH_self _ _ _ _, by rw [setH_k (by decide), F3.at 85 20 rfl, F2.at 85 20 rfl, F1.at 85 20 rfl]; exact g3⟩
  · rw [setH_o (by decide), F3.row 87 rfl, F2.row 87 rfl, a1 j hj, show 44 * 17 + j = 748 + j by omega]; exact g2 _ (by omega)
  · rw [setH_o (by decide), F3.row 87 rfl, F2.row 87 rfl, a2 j hj]; exact g1 j hj
  · rw [setH_o (by decide), F3.row 90 rfl, b1 j hj, F1.row 92 rfl, F.row 92 rfl]
  · rw [setH_o (by decide), c1 j hj, F2.row 93 rfl, F1.row 93 rfl, F.row 93 rfl]
/-- the times of a clause -/
theorem lp_tmM {i : Nat} {cl : Clx} {x1 : Int} (T : MTx h0 c Lx) (hi : Lx[i]? = some cl) : ∀ (r t : Nat) (h' : Sto) (x : OSt) (I : Int), t + r = cl.2.2.2.2.1 → I = t → Fr RmP RmS h0 h' → KM sh h0 h' n m L x → OOK L n m G0 x → (tmO L n m cl r x = none → ∀ h1, Fix sh h1 → GvM h0 h1 G0 x1 → Q (0, -3) sh sl (mTell (setH h1 85 58 (i : Int)) (-3))) → (∀ y, tmO L n m cl r x = some y → ∀ h1 k3, Fr RmP RmS h0 h1 → KM sh h0 h1 n m L y → WF sc (d + 13) 269 140 [(2, 85), (0, x1), (0, (i : Int) + 1), k3] [] sh sl h1 Q) → WF sc (d + 13) 269 150 [(2, 85), (0, x1), (0, (i : Int)), (0, I)] [] sh sl h' Q := by
  have il : i < Lx.length := (List.getElem?_eq_some_iff.mp hi).1
  have l12 := T.2.1
  have gcl := (T.2.2.2.2.2 i cl hi).2
  have tb := gcl.2.2.2.2.2.2.1
  have z7 := zq (z := 8 * i) (q := 7) (Z := 8 * (i : Int) + 7) (by omega) (by omega)
  have z8 : (8 * (i : Int)) = ((8 * i : Nat) : Int) := by omega
  intro r
  induction r with
  | zero =>
    intro t h' x I ht hI F K Vo q0 hq
    subst hI
    have T' : MTx h' c Lx := T.fr F rfl rfl rfl
    have H := (T'.2.2.2.2.2 i cl hi).1.all
    rw [B_269_150 K.1.1, z7.2, H.2.2.2.2, w32_id (a := ((cl.2.2.2.2.1 : Nat) : Int)) (by omega) (by omega), w32_id (a := (t : Int)) (by omega) (by omega), if_pos (by omega)]
    exact ⟨z7.1, hq x rfl h' _ F K⟩
  | succ r ih =>
    intro t h' x I ht hI F K Vo q0 hq
    subst hI
    have T' : MTx h' c Lx := T.fr F rfl rfl rfl
    have H := (T'.2.2.2.2.2 i cl hi).1.all
    rw [B_269_150 K.1.1, z7.2, H.2.2.2.2, w32_id (a := ((cl.2.2.2.2.1 : Nat) : Int)) (by omega) (by omega), w32_id (a := (t : Int)) (by omega) (by omega), if_neg (by omega), z8]
    refine ⟨z7.1, sp_timeM (c := c) (Lx := Lx) rfl hi F K Vo T' (fun es h1 R1 => ?_) (fun y es h1 F1 K1 => ?_)⟩
    · simp only [pushR0]
      rw [B_269_174 R1.2.1, show w32 (-3) = -3 from rfl, if_neg (by decide)]
      refine sp_giveM (d := d + 10) R1 (fun h2 X2 g => ?_)
      simp only [pushR9]
      have X3 : Fix sh (setH h2 85 58 (i : Int)) := X2.s (by decide +kernel)
      rw [B_269_182 X2, sp_telT X3 (by decide)]
      simp only [pushR0]
      rw [B_269_193 (mTell_fr.fix X3 (by decide +kernel))]
      exact q0 (by simp only [tmO, es]) h2 X2 g
    · simp only [pushR0]
      rw [B_269_174 K1.1.1, w32_0, if_pos (by decide)]
      refine ih (t + 1) h1 y _ (by omega) (by simp) F1 K1 (stO_ok Vo es).1 (fun hn => q0 (by simp only [tmO, es]; exact hn)) (fun y2 hy => hq y2 (by simp only [tmO, es]; exact hy))
/-- all clauses -/
theorem lp_clM {x1 : Int} (T : MTx h0 c Lx) : ∀ (R : List Clx) (i : Nat) (h' : Sto) (x : OSt) (I : Int) (j3 : V), i + R.length = Lx.length → I = i → (∀ j cl, R[j]? = some cl → Lx[i + j]? = some cl) → (0 ≤ x.2.1 ∧ x.2.1 ≤ 20 * i) → Fr RmP RmS h0 h' → KM sh h0 h' n m L x → OOK L n m G0 x → (∀ e, rnO L n m R i x = .inl e → ∀ h1, Fix sh h1 → GvM h0 h1 G0 x1 → Q (0, -3) sh sl (mTell (setH h1 85 58 (e : Int)) (-3))) → (∀ y, rnO L n m R i x = .inr y → ∀ h1, Fr RmP RmS h0 h1 → KM sh h0 h1 n m L y → Q (0, y.2.1) sh sl (mTell h1 y.2.1)) → WF sc (d + 13) 269 140 [(2, 85), (0, x1), (0, I), j3] [] sh sl h' Q := by
  have l12 := T.2.1
  intro R
  induction R with
  | nil =>
    intro i h' x I j3 hl hI hR hb F K Vo q0 q1
    subst hI
    have T' : MTx h' c Lx := T.fr F rfl rfl rfl
    rw [List.length_nil] at hl
    rw [B_269_140 K.1.1, T'.1, w32_id (a := ((Lx.length : Nat) : Int)) (by omega) (by omega), w32_id (a := (i : Int)) (by omega) (by omega), if_pos (by omega), K.2.1, sp_telT K.1.1 (by omega)]
    simp only [pushR0]
    rw [B_269_214 (mTell_fr.fix K.1.1 (by decide +kernel))]
    exact q1 x rfl h' F K
  | cons cl R ih =>
    intro i h' x I j3 hl hI hR hb F K Vo q0 q1
    subst hI
    have T' : MTx h' c Lx := T.fr F rfl rfl rfl
    rw [List.length_cons] at hl
    have hcl : Lx[i]? = some cl := by have := hR 0 cl rfl; simpa using this
    have tb := (T.2.2.2.2.2 i cl hcl).2.2.2.2.2.2.2.1
    rw [B_269_140 K.1.1, T'.1, w32_id (a := ((Lx.length : Nat) : Int)) (by omega) (by omega), w32_id (a := (i : Int)) (by omega) (by omega), if_neg (by omega)]
    refine lp_tmM (G0 := G0) T hcl cl.2.2.2.2.1 0 h' x _ (by omega) rfl F K Vo (fun ht h1 X1 g => q0 i (by simp only [rnO, ht]) h1 X1 g) (fun y hy h1 k3 F1 K1 => ?_)
    have er : rnO L n m (cl :: R) i x = rnO L n m R (i + 1) y := by simp only [rnO, hy]
    rw [er] at q0 q1
    have to := tmO_ok _ _ _ Vo hy
    refine ih (i + 1) h1 y _ _ (by omega) (by simp) (fun j c2 hj => ?_) (by omega) F1 K1 to.1 q0 q1
    have := hR (j + 1) c2 (by simpa using hj)
    rw [show i + 1 + j = i + (j + 1) by omega]; exact this
theorem lp_bm1 {x1 : Int} {j3 : V} (X : Fix sh h) (hq : ∀ h', Fr [92] [] h h' → (∀ i, i < 704 → h' 92 i = h 90 i) → WF sc (d + 1) 269 104 [(2, 85), (0, x1), (0, 0), j3] [] sh sl h' Q) : ∀ (rem i : Nat) (h' : Sto) (I : Int), i + rem = 704 → I = i → Fr [92] [] h h' → (∀ j, j < i → h' 92 j = h 90 j) → WF sc (d + 1) 269 77 [(2, 85), (0, x1), (0, I), j3] [] sh sl h' Q := by
  intro rem
  induction rem with
  | zero =>
    intro i h' I hi hI F e1
    subst hI
    have X' : Fix sh h' := F.fix X (by decide +kernel)
    rw [B_269_77 X', w32_id (a := (i : Int)) (by omega) (by omega), if_pos (by omega)]
    exact hq h' F (fun j hj => e1 j (by omega))
  | succ rem ih =>
    intro i h' I hi hI F e1
    subst hI
    have X' : Fix sh h' := F.fix X (by decide +kernel)
    rw [B_269_77 X', w32_id (a := (i : Int)) (by omega) (by omega), if_neg (by omega), Int.toNat_natCast]
    refine ⟨⟨by omega, by omega⟩, ⟨by omega, by omega⟩, ih (i + 1) _ _ (by omega) (by simp) (F.setP rfl) (fun j hj => ?_)⟩
    by_cases e : j = i
    · subst e; rw [setH_self, F.row 90 rfl]
    · rw [setH_k (by omega)]; exact e1 j (by omega)
theorem lp_bm2 {x1 : Int} {j3 : V} (X : Fix sh h) (hq : ∀ h', Fr [93] [] h h' → (∀ i, i < 16 → h' 93 i = h 91 i) → WF sc (d + 1) 269 140 [(2, 85), (0, x1), (0, 0), j3] [] sh sl (setH (setH h' 85 56 0) 85 57 (-1)) Q) : ∀ (rem i : Nat) (h' : Sto) (I : Int), i + rem = 16 → I = i → Fr [93] [] h h' → (∀ j, j < i → h' 93 j = h 91 j) → WF sc (d + 1) 269 104 [(2, 85), (0, x1), (0, I), j3] [] sh sl h' Q := by
  intro rem
  induction rem with
  | zero =>
    intro i h' I hi hI F e1
    subst hI
    have X' : Fix sh h' := F.fix X (by decide +kernel)
    rw [B_269_104 X', w32_id (a := (i : Int)) (by omega) (by omega), if_pos (by omega)]
    exact hq h' F (fun j hj => e1 j (by omega))
  | succ rem ih =>
    intro i h' I hi hI F e1
    subst hI
    have X' : Fix sh h' := F.fix X (by decide +kernel)
    rw [B_269_104 X', w32_id (a := (i : Int)) (by omega) (by omega), if_neg (by omega), Int.toNat_natCast]
    refine ⟨⟨by omega, by omega⟩, ⟨by omega, by omega⟩, ih (i + 1) _ _ (by omega) (by simp) (F.setP rfl) (fun j hj => ?_)⟩
    by_cases e : j = i
    · subst e; rw [setH_self, F.row 91 rfl]
    · rw [setH_k (by omega)]; exact e1 j (by omega)
abbrev OmP : List Nat := [87, 90, 91, 92, 93, 103, 104, 105, 106, 117, 118]
/-- the reference's orders from what was read on -/
theorem sp_carryM {G u s : Nat → Int} {k : Nat} {j1 j2 j3 : V} (M : MJ sh h G n m L) (T : MTx h c Lx) (e19 : h 85 19 = 0) (ek : h 85 8 = (k : Int)) (hk : k ≤ 16) (eu : ∀ i, i < 44 * k → h 90 i = u i) (es : ∀ j, j < k → h 91 j = s j)
    (q0 : ∀ e, rnO L n m Lx 0 (G, 0, -1, u, s, k) = .inl e → ∀ h1, Fix sh h1 → Fr OmP RmS h h1 → h1 87 = G → (∀ j, j < 44 * k → h1 90 j = u j) → (∀ j, j < k → h1 91 j = s j) → h1 85 8 = (k : Int) → h1 85 20 = 0 → Q (0, -3) sh sl (mTell (setH h1 85 58 (e : Int)) (-3)))
    (q1 : ∀ y, rnO L n m Lx 0 (G, 0, -1, u, s, k) = .inr y → ∀ h1, Fr OmP RmS h h1 → MJ sh h1 y.1 n m L → h1 85 8 = (y.2.2.2.2.2 : Int) → (∀ j, j < 44 * y.2.2.2.2.2 → h1 90 j = y.2.2.2.1 j) → (∀ j, j < y.2.2.2.2.2 → h1 91 j = y.2.2.2.2.1 j) → Q (0, y.2.1) sh sl (mTell h1 y.2.1)) : WF sc (d + 13) 269 50 [(2, 85), j1, j2, j3] [] sh sl h Q := by
  rw [B_269_50 M.1, e19, w32_0, if_pos rfl]
  refine sp_keepAll (k := 17) M.1 rfl (by omega) (fun h1 F1 a1 a2 => ?_)
  have X1 := F1.fix M.1 (by decide +kernel)
  simp only [pushR9]
  rw [B_269_70 X1, F1.at 85 8 rfl, ek]
  refine lp_bm1 (d := d + 12) X1 (fun h2 F2 b1 => ?_) 704 0 h1 _ (by omega) rfl (Fr.refl h1) (fun j hj => by omega)
  have X2 := F2.fix X1 (by decide +kernel)
  refine lp_bm2 (d := d + 12) X2 (fun h3 F3 c1 => ?_) 16 0 h2 _ (by omega) rfl (Fr.refl h2) (fun j hj => by omega)
  obtain ⟨h4, hh4⟩ : ∃ h4, setH (setH h3 85 56 0) 85 57 (-1) = h4 := ⟨_, rfl⟩
  rw [hh4]
  have F4 : Fr [] [(85, 56), (85, 57)] h3 h4 := by rw [← hh4]; exact ((Fr.refl h3).set rfl).set rfl
  have FF : Fr [90, 92, 93] [(85, 56), (85, 57)] h h4 := (((F1.mono rfl).trans (F2.mono rfl)).trans (F3.mono rfl)).trans (F4.mono rfl)
  have M4 : MJ sh h4 G n m L := M.of FF (by decide +kernel) (by decide +kernel)
  have T4 : MTx h4 c Lx := T.fr FF rfl rfl rfl
  have n90 : ∀ j, j < 748 → h4 90 j = h 90 j := fun j hj => by rw [F4.row 90 rfl, F3.row 90 rfl, F2.row 90 rfl, a2 j (by omega)]
  have n91 : h4 91 = h 91 := by rw [F4.row 91 rfl, F3.row 91 rfl, F2.row 91 rfl, F1.row 91 rfl]
  have K4 : KM sh h4 h4 n m L (G, 0, -1, u, s, k) := by
    refine ⟨M4, by rw [← hh4, setH_k (by decide), setH_self], by rw [← hh4, setH_self], by rw [FF.at 85 8 rfl]; exact ek, fun j hj => ?_, fun j hj => ?_, fun _ _ => rfl⟩
    · have hj' : j < 44 * k := hj
      rw [n90 j (by omega)]; exact eu j hj
    · rw [n91]; exact es j hj
  refine lp_clM (G0 := G) T4 Lx 0 h4 (G, 0, -1, u, s, k) _ _ (by omega) rfl (fun j cl hj => by rw [Nat.zero_add]; exact hj) ⟨Int.le_refl 0, Int.le_refl 0⟩ (Fr.refl h4) K4 ⟨M.2.2.2.1, M.2.2.2.2, fun _ _ => rfl, hk⟩ (fun e he h5 X5 g => ?_) (fun y hy h5 F5 K5 => ?_)
  · obtain ⟨g1, g2, g3, g4, g5, g6, g7⟩ := g
    refine q0 e he h5 X5 ((FF.mono rfl).trans (g1.mono rfl)) ?_ (fun j hj => ?_) (fun j hj => ?_) g6 g7
    · funext j
      by_cases hj : j < 5 ∨ 49 ≤ j
      · exact g3 j hj
      · have e1 := g2 (j - 5) (by omega)
        have e2 := a1 (j - 5) (by omega)
        rw [show 5 + (j - 5) = j by omega] at e1 e2
        rw [show 44 * 17 + (j - 5) = 748 + (j - 5) by omega] at e2
        rw [e1, F4.row 90 rfl, F3.row 90 rfl, F2.row 90 rfl, e2, M.2.1]
    · rw [g4 j (by omega), F4.row 92 rfl, F3.row 92 rfl, b1 j (by omega), a2 j (by omega)]; exact eu j hj
    · rw [g5 j (by omega), F4.row 93 rfl, c1 j (by omega), F2.row 91 rfl, F1.row 91 rfl]; exact es j hj
  · exact q1 y hy h5 ((FF.mono rfl).trans (F5.mono rfl)) K5.1 K5.2.2.2.1 K5.2.2.2.2.1 K5.2.2.2.2.2.1
end LOOPM
