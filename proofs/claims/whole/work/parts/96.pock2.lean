section POCKC
variable {sc : Nat × (Nat → Int)} {d : Nat} {sh : Shp} {sl : Nat} {h : Sto} {Q : Pst} {n : Nat} {p : Nat → Bool} {fr : Nat → Nat → Bool}
abbrev PoP : List Nat := [73, 75]
theorem sp_part {P : Nat} (X : Fix sh h) (e0 : h 1 0 = (n : Int)) (hn10 : n ≤ 10) (hP : P ≤ 10) (e72 : ∀ i, i < n → p i = true → h 72 i = ((msk (fr i) n : Nat) : Int)) : ∀ (r k D : Nat) (t : Nat → Int) (h' : Sto) (Q : Pst) (K Fx : Int), r + 1 ≤ D → k + r = n → K = k → Fx = ((nxP p t k : Nat) : Int) → PkT p t k → Fr PoP [] h h' → (∀ i, i < k → h' 75 i = t i) → (∀ i, i < n → (p i = true → 0 ≤ h' 75 i ∧ h' 75 i < 10) ∧ (p i = false → h' 75 i = 100)) → (∀ c, c < nxP p t k → h' 73 c = ((mkP p t k (c : Int) : Nat) : Int)) → (∀ h2 t', pkS p fr P r k t = some t' → Fr PoP [] h h2 → (∀ i, i < n → h2 75 i = t' i) → Q (0, 1) sh sl h2) → (∀ h2, pkS p fr P r k t = none → Fr PoP [] h h2 → (∀ i, i < k → h2 75 i = t i) → (∀ i, i < n → (p i = true → 0 ≤ h2 75 i ∧ h2 75 i < 10) ∧ (p i = false → h2 75 i = 100)) → (∀ c, c < nxP p t k → h2 73 c = ((mkP p t k (c : Int) : Nat) : Int)) → Q (0, 0) sh sl h2) → WM sc D 128 [(2, 71), (0, K), (0, Fx), (0, (P : Int))] sh sl h' Q := by
  intro r
  induction r with
  | zero =>
    intro k D t h' Q K Fx hD hk hK hF T F e e75 e73 q1 q0
    subst hK hF
    obtain ⟨D', rfl⟩ : ∃ D', D = D' + 1 := ⟨D - 1, by omega⟩
    rw [B_128_0 (F.fix X (by decide +kernel)), F.row 1 rfl, e0, w32_id (a := (k : Int)) (by omega) (by omega), w32_id (a := (n : Int)) (by omega) (by omega), if_neg (by omega)]
    exact q1 h' t rfl F (fun i hi => e i (by omega))
  | succ r ihr =>
    intro k D t h' Q K Fx hD hk hK hF T F e e75 e73 q1 q0
    subst hK hF
    obtain ⟨D', rfl⟩ : ∃ D', D = D' + 1 := ⟨D - 1, by omega⟩
    have X' : Fix sh h' := F.fix X (by decide +kernel)
    have nl := T.le
    have e75k := e75 k (by omega)
    rw [B_128_0 X', F.row 1 rfl, e0, w32_id (a := (k : Int)) (by omega) (by omega), w32_id (a := (n : Int)) (by omega) (by omega), if_pos (by omega), Int.toNat_natCast]
    refine ⟨⟨by omega, by omega⟩, ?_⟩
    by_cases hp : p k = true
    case neg =>
      have hp' : p k = false := Bool.eq_false_iff.mpr hp
      have es : pkS p fr P (r + 1) k t = pkS p fr P r (k + 1) (up t k 100) := by simp only [pkS]; rw [if_neg hp]
      have en : nxP p (up t k 100) (k + 1) = nxP p t k := by rw [nxP_up, if_neg (fun z => hp z.1)]
      have em : ∀ c2, mkP p (up t k 100) (k + 1) c2 = mkP p t k c2 := fun c2 => by rw [mkP_up, if_neg (fun z => hp z.1)]
      rw [e75k.2 hp', show w32 100 = 100 from rfl, if_neg (by simp)]
      rw [es] at q1 q0
      refine ihr (k + 1) D' (up t k 100) h' _ _ _ (by omega) (by omega) (by omega) (by rw [en]) (T.step (fun z => absurd z hp)) F (fun i hi => ?_) e75 (fun c hc => by rw [en] at hc; rw [em]; exact e73 c hc) (fun h2 t' hd F2 e2 => ?_) (fun h2 hd F2 e2 f75 f73 => ?_)
      · by_cases ei : i = k
        · subst ei; rw [up_s]; exact e75k.2 hp'
        · rw [up_n ei]; exact e i (by omega)
      · simp only [pushR0]
        rw [B_128_33 (F2.fix X (by decide +kernel)) (Or.inr rfl)]
        exact q1 h2 t' hd F2 e2
      · simp only [pushR0]
        rw [B_128_33 (F2.fix X (by decide +kernel)) (Or.inl rfl)]
        exact q0 h2 hd F2 (fun i hi => by rw [e2 i (by omega), up_n (by omega)]) f75 (fun c hc => by rw [f73 c (by rw [en]; exact hc), em])
    have k1 := e75k.1 hp
    rw [w32_id (a := h' 75 k) (by omega) (by omega), if_pos (by omega)]
    obtain ⟨B, hB⟩ : ∃ B, min P (nxP p t k + 1) = B := ⟨_, rfl⟩
    obtain ⟨g, hg⟩ : ∃ g : Nat → Option (Nat → Int), g = fun (c : Nat) => if ftB p (fr k) t (c : Int) k = true then pkS p fr P r (k + 1) (up t k (c : Int)) else none := ⟨_, rfl⟩
    have es : pkS p fr P (r + 1) k t = dfI g B B := by simp only [pkS]; rw [if_pos hp, hB, hg]
    rw [es] at q1 q0
    have lp : ∀ (rem c : Nat) (h' : Sto) (Cx : Int) (j5 : V), c + rem = B → Cx = c → Fr PoP [] h h' → (∀ i, i < k → h' 75 i = t i) → (∀ i, i < n → (p i = true → 0 ≤ h' 75 i ∧ h' 75 i < 10) ∧ (p i = false → h' 75 i = 100)) → (∀ c, c < nxP p t k → h' 73 c = ((mkP p t k (c : Int) : Nat) : Int)) → (∀ h2 t', dfI g B rem = some t' → Fr PoP [] h h2 → (∀ i, i < n → h2 75 i = t' i) → Q (0, 1) sh sl h2) → (∀ h2, dfI g B rem = none → Fr PoP [] h h2 → (∀ i, i < k → h2 75 i = t i) → (∀ i, i < n → (p i = true → 0 ≤ h2 75 i ∧ h2 75 i < 10) ∧ (p i = false → h2 75 i = 100)) → (∀ c, c < nxP p t k → h2 73 c = ((mkP p t k (c : Int) : Nat) : Int)) → Q (0, 0) sh sl h2) → WF sc (D' + 1) 128 37 [(2, 71), (0, (k : Int)), (0, ((nxP p t k : Nat) : Int)), (0, (P : Int)), (0, Cx), j5] [] sh sl h' Q := by
      intro rem
      induction rem with
      | zero =>
        intro c h' Cx j5 hc hC F e e75 e73 q1 q0
        subst hC
        rw [B_128_37 (F.fix X (by decide +kernel)), w32_id (a := ((nxP p t k : Nat) : Int)) (by omega) (by omega), w32_id (a := (c : Int)) (by omega) (by omega), w32_id (a := (P : Int)) (by omega) (by omega)]
        by_cases c1 : ((nxP p t k : Nat) : Int) < c
        · rw [if_pos c1]; exact q0 h' rfl F e e75 e73
        · rw [if_neg c1, if_pos (by omega)]; exact q0 h' rfl F e e75 e73
      | succ rem ih =>
        intro c h' Cx j5 hc hC F e e75 e73 q1 q0
        subst hC
        have X' : Fix sh h' := F.fix X (by decide +kernel)
        have ds := dfI_s (g := g) hc
        have egc : g c = if ftB p (fr k) t (c : Int) k = true then pkS p fr P r (k + 1) (up t k (c : Int)) else none := by rw [hg]
        rw [ds] at q1 q0
        have ml := mkP_lt (p := p) (t := t) (k := k) (c := (c : Int)) (by omega)
        have fl := msk_lt10 (p := fr k) hn10
        have az := andnot_zero ml fl
        have fit : ftB p (fr k) t (c : Int) k = true ↔ w32 (iand ((mkP p t k (c : Int) : Nat) : Int) (ixor ((msk (fr k) n : Nat) : Int) (-1))) = 0 := by
          rw [az, ftB_iff]
          constructor
          · intro z i hi ht
            unfold mkP at ht
            rw [msk_bit, Bool.and_eq_true, Bool.and_eq_true, decide_eq_true_eq, decide_eq_true_eq] at ht
            rw [msk_bit, decide_eq_true (show i < n by omega), Bool.true_and]
            exact z i ht.1 ht.2.1 ht.2.2
          · intro z i hi h1 h2
            have := z i (by omega) (by unfold mkP; rw [msk_bit, decide_eq_true hi, h1, decide_eq_true h2]; rfl)
            rw [msk_bit, Bool.and_eq_true] at this
            exact this.2
        -- one pocket tried, whichever
        have go : ∀ (x5 : Int), x5 = ((mkP p t k (c : Int) : Nat) : Int) → ftB p (fr k) t (c : Int) k = true → WM sc D' 128 [(2, 71), (0, (k : Int) + 1), (0, (if ((nxP p t k : Nat) : Int) < (c : Int) + 1 then (c : Int) + 1 else ((nxP p t k : Nat) : Int))), (0, (P : Int))] sh sl (setH (setH h' 73 c (ior x5 (ishl 1 (k : Int)))) 75 k (c : Int)) (fun r sh1 sl1 h1 => WF sc (D' + 1) 128 122 [(2, 71), (0, (k : Int)), (0, ((nxP p t k : Nat) : Int)), (0, (P : Int)), (0, (c : Int)), (0, x5)] (pushR r []) sh1 sl1 h1 Q) := by
          intro x5 hx5 ok
          rw [if_pos ok] at egc
          have en : (if ((nxP p t k : Nat) : Int) < (c : Int) + 1 then (c : Int) + 1 else ((nxP p t k : Nat) : Int)) = ((nxP p (up t k (c : Int)) (k + 1) : Nat) : Int) := by
            rw [nxP_up]
            by_cases z : ((nxP p t k : Nat) : Int) ≤ (c : Int)
            · rw [if_pos (by omega), if_pos ⟨hp, z⟩]; omega
            · rw [if_neg (by omega), if_neg (fun y => z y.2)]
          have en2 : ∀ c2, c2 < nxP p t k → c2 < nxP p (up t k (c : Int)) (k + 1) := fun c2 h2 => by
            rw [nxP_up]; split <;> omega
          have en3 : ∀ c2, c2 < nxP p (up t k (c : Int)) (k + 1) → c2 ≠ c → c2 < nxP p t k := fun c2 h2 h3 => by
            rw [nxP_up] at h2; split at h2 <;> omega
          rw [en, hx5, setbit ml (by omega)]
          refine ihr (k + 1) D' (up t k (c : Int)) _ _ _ _ (by omega) (by omega) (by omega) rfl (T.step (fun _ => ⟨by omega, by omega⟩)) ((F.setP rfl).setP rfl) (fun i hi => ?_) (fun i hi => ?_) (fun c2 hc2 => ?_) (fun h2 t' hd F2 e2 => ?_) (fun h2 hd F2 e2 f75 f73 => ?_)
          · by_cases ei : i = k
            · subst ei; rw [setH_self, up_s]
            · rw [setH_k ei, setH_o (by decide), up_n ei]; exact e i (by omega)
          · by_cases ei : i = k
            · subst ei; rw [setH_self]; exact ⟨fun _ => ⟨by omega, by omega⟩, fun z => by rw [hp] at z; cases z⟩
            · rw [setH_k ei, setH_o (by decide)]; exact e75 i hi
          · rw [setH_o (by decide), mkP_up]
            by_cases ec : c2 = c
            · subst ec; rw [setH_self, if_pos ⟨hp, rfl⟩]
            · rw [setH_k ec, if_neg (fun z => ec (by have := z.2; omega))]
              exact e73 c2 (en3 c2 hc2 ec)
          · simp only [pushR0]
            rw [B_128_122 (F2.fix X (by decide +kernel)), show w32 1 = 1 from rfl, if_neg (by decide)]
            exact q1 h2 t' (by rw [egc, hd]; rfl) F2 e2
          · simp only [pushR0]
            rw [B_128_122 (F2.fix X (by decide +kernel)), w32_0, if_pos rfl, w32_id (a := (c : Int)) (by omega) (by omega), Int.toNat_natCast]
            have gn : g c = none := egc.trans hd
            rw [gn, Option.none_or] at q1 q0
            refine ⟨⟨by omega, by omega⟩, ih (c + 1) _ _ _ (by omega) (by simp) (F2.setP rfl) (fun i hi => ?_) (fun i hi => ?_) (fun c2 hc2 => ?_) q1 q0⟩
            · rw [setH_o (by decide), e2 i (by omega), up_n (by omega)]
            · rw [setH_o (by decide)]; exact f75 i hi
            · by_cases ec : c2 = c
              · subst ec; rw [setH_self]
              · rw [setH_k ec, f73 c2 (en2 c2 hc2), mkP_up, if_neg (fun z => ec (by have := z.2; omega))]
        rw [B_128_37 X', w32_id (a := ((nxP p t k : Nat) : Int)) (by omega) (by omega), w32_id (a := (c : Int)) (by omega) (by omega), w32_id (a := (P : Int)) (by omega) (by omega), if_neg (by omega), if_neg (by omega), w32_id (a := (k : Int)) (by omega) (by omega), Int.toNat_natCast, Int.toNat_natCast, F.row 72 rfl, e72 k (by omega) hp, w32_id (a := (c : Int) + 1) (by omega) (by omega)]
        by_cases c2 : ((nxP p t k : Nat) : Int) ≤ (c : Int)
        · have ecn : c = nxP p t k := by omega
          have em : mkP p t k (c : Int) = 0 := by rw [ecn]; exact mkP_new
          have ok : ftB p (fr k) t (c : Int) k = true := by
            rw [ftB_iff]
            intro i hi h1 h2
            have := nxP_gt (p := p) (t := t) k i hi h1
            omega
          rw [if_pos c2]
          have g0 := go 0 (by rw [em]; rfl) ok
          have z0 : w32 (iand 0 (ixor ((msk (fr k) n : Nat) : Int) (-1))) = 0 := by
            have := fit.mp ok
            rw [em] at this; exact this
          rw [if_pos z0]
          exact ⟨⟨by omega, by omega⟩, ⟨by omega, by omega⟩, ⟨by omega, by omega⟩, g0⟩
        · have e73c := e73 c (by omega)
          rw [if_neg c2, e73c]
          refine ⟨⟨by omega, by omega⟩, ⟨by omega, by omega⟩, ?_⟩
          by_cases ok : ftB p (fr k) t (c : Int) k = true
          · rw [if_pos (fit.mp ok)]
            exact ⟨⟨by omega, by omega⟩, ⟨by omega, by omega⟩, go _ rfl ok⟩
          · rw [if_neg (fun z => ok (fit.mpr z))]
            rw [if_neg ok] at egc
            rw [egc, Option.none_or] at q1 q0
            exact ih (c + 1) h' _ _ (by omega) (by simp) F e e75 e73 q1 q0
    exact lp B 0 h' _ _ (by omega) rfl F e e75 e73 q1 q0
end POCKC
