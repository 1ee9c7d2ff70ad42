/-! ===== orders: the class's look ===== -/
def LkD (fw : Nat → Int) (ws : Nat) (h : Sto) (p : Nat → Prop) : Prop := ∀ w, w < 20 → p w → ws.testBit w = true → h 58 w = fw w
theorem LkD.set {fw : Nat → Int} {ws w0 : Nat} {h : Sto} {p q : Nat → Prop} {v : Int} (D : LkD fw ws h p) (hv : v = fw w0) (hq : ∀ w, q w → p w ∨ w = w0) : LkD fw ws (setH h 58 w0 v) q := fun w hw hqw hb => by
  by_cases e : w = w0
  · subst e; rw [setH_self]; exact hv
  · rw [setH_k e]; exact D w hw ((hq w hqw).resolve_right e) hb
theorem LkD.skip {fw : Nat → Int} {ws w0 : Nat} {h : Sto} {p q : Nat → Prop} (D : LkD fw ws h p) (hb : ws.testBit w0 = false) (hq : ∀ w, q w → p w ∨ w = w0) : LkD fw ws h q := fun w hw hqw hb2 => by
  rcases hq w hqw with a | a
  · exact D w hw a hb2
  · subst a; rw [hb] at hb2; cases hb2
theorem LkD.cg {fw : Nat → Int} {ws : Nat} {h h2 : Sto} {p : Nat → Prop} (D : LkD fw ws h p) (e : h2 58 = h 58) : LkD fw ws h2 p := by unfold LkD; rw [e]; exact D
theorem bitW {ws k : Nat} {z : Int} (hw : ws < 8388608) (hk : k < 32) (hz : z = k) : w32 (iand (ishr (ws : Int) z) 1) = 0 ↔ ws.testBit k = false := by
  subst hz
  rw [bit_nat (by omega) hk]
  cases ws.testBit k
  · exact ⟨fun _ => rfl, fun _ => rfl⟩
  · exact ⟨fun h => absurd h (by decide), fun h => by cases h⟩
abbrev LkP : List Nat := [48, 49, 58, 81, 82]
section LOOK
variable {sc : Nat × (Nat → Int)} {d : Nat} {sh : Shp} {sl : Nat} {h : Sto} {Q : Pst} {n m : Nat} {L : List Law} {x : OSt} {ws : Nat}
theorem CJ.lk {h2 : Sto} {G : Nat → Int} (C : CJ sh h G n m L 10) (F : Fr LkP [] h h2) : CJ sh h2 G n m L 10 := C.of F (by decide +kernel) (by decide +kernel) (F.row 10 rfl)
theorem lp_look2 {j4 : V} (C : CJ sh h x.1 n m L 10) (hw : ws < 8388608) (hq : ∀ h', Fr LkP [] h h' → LkD (rwA L n m x) ws h' (fun w => w < 20) → Q (9, 0) sh sl h') : ∀ (rem s : Nat) (h' : Sto) (I : Int), s + rem = 10 → I = s → Fr LkP [] h h' → LkD (rwA L n m x) ws h' (fun w => w < 10 + s) → WF sc (d + 5) 86 168 [(2, 52), (0, (ws : Int)), (2, 9), (0, I), j4] [] sh sl h' Q := by
  have W := C.2.2.2.1
  have hn10 := W.1.2.1
  have hm3 := W.1.2.2.2.1
  intro rem
  induction rem with
  | zero =>
    intro s h' I hs hI F D
    subst hI
    rw [B_86_168 (C.lk F).1, w32_id (a := (s : Int)) (by omega) (by omega), if_pos (by omega)]
    refine hq h' F (fun w h1 h2 => D w h1 ?_)
    show w < 10 + s
    omega
  | succ rem ih =>
    intro s h' I hs hI F D
    subst hI
    have C' := C.lk F
    have hn : h' 1 0 = (n : Int) := C'.2.1.1.1
    have w10 : Unit → w32 (10 + (s : Int)) = ((10 + s : Nat) : Int) := fun _ => w32_nat (by omega) (by omega)
    rw [B_86_168 C'.1, w32_id (a := (s : Int)) (by omega) (by omega), if_neg (by omega), hn, w32_id (a := (n : Int)) (by omega) (by omega)]
    refine ite_i (fun hb => ?_) (fun hb => ?_)
    · have hb' := (bitW hw (show 10 + s < 32 by omega) (show (10 + (s : Int)) = ((10 + s : Nat) : Int) by omega)).mp hb
      exact ih (s + 1) h' _ (by omega) (by simp) F (D.skip hb' (fun w (h2 : w < 10 + (s + 1)) => (by omega : w < 10 + s ∨ w = 10 + s)))
    · refine ite_i (fun hs2 => ?_) (fun hs2 => ?_)
      · rw [w10 (), Int.toNat_natCast]
        refine ⟨⟨by omega, by omega⟩, ih (s + 1) _ _ (by omega) (by simp) (F.setP rfl) (D.set (w0 := 10 + s) ?_ (fun w (h2 : w < 10 + (s + 1)) => (by omega : w < 10 + s ∨ w = 10 + s)))⟩
        rw [rwA_10, if_neg (by omega)]
      · refine (sp_cspot (b := 9) (c := 10) C'.1.bd C'.2.2.1 C'.2.2.2.2 hn10 hm3 (show s < n by omega)).mpr ?_
        simp only [pushR0]
        rw [B_86_212 C'.1, w10 (), Int.toNat_natCast]
        refine ⟨⟨by omega, by omega⟩, ih (s + 1) _ _ (by omega) (by simp) (F.setP rfl) (D.set (w0 := 10 + s) ?_ (fun w (h2 : w < 10 + (s + 1)) => (by omega : w < 10 + s ∨ w = 10 + s)))⟩
        rw [rwA_10, if_pos (by omega)]
theorem lp_look1 (C : CJ sh h x.1 n m L 10) (hw : ws < 8388608) (hq : ∀ h' j4, Fr LkP [] h h' → LkD (rwA L n m x) ws h' (fun w => w < 10) → WF sc (d + 5) 86 168 [(2, 52), (0, (ws : Int)), (2, 9), (0, 0), j4] [] sh sl h' Q) : ∀ (rem l : Nat) (h' : Sto) (I : Int) (j4 : V), l + rem = 3 → I = l → Fr LkP [] h h' → LkD (rwA L n m x) ws h' (fun w => w < 4 + l ∨ (7 ≤ w ∧ w < 7 + l)) → WF sc (d + 5) 86 56 [(2, 52), (0, (ws : Int)), (2, 9), (0, I), j4] [] sh sl h' Q := by
  have W := C.2.2.2.1
  have hn10 := W.1.2.1
  have hm3 := W.1.2.2.2.1
  intro rem
  induction rem with
  | zero =>
    intro l h' I j4 hl hI F D
    subst hI
    rw [B_86_56 (C.lk F).1, w32_id (a := (l : Int)) (by omega) (by omega), if_pos (by omega)]
    refine hq h' _ F (fun w h1 h2 => D w h1 ?_)
    have : w < 10 := h2
    show w < 4 + l ∨ (7 ≤ w ∧ w < 7 + l)
    omega
  | succ rem ih =>
    intro l h' I j4 hl hI F D
    subst hI
    have hl3 : l < 3 := by omega
    have C' := C.lk F
    have hm : h' 1 4 = (m : Int) := C'.2.1.1.2.1
    have w4 : Unit → w32 (4 + (l : Int)) = ((4 + l : Nat) : Int) := fun _ => w32_nat (by omega) (by omega)
    have w7 : Unit → w32 (7 + (l : Int)) = ((7 + l : Nat) : Int) := fun _ => w32_nat (by omega) (by omega)
    have k7 : ∀ w, (w < 4 + (l + 1) ∨ (7 ≤ w ∧ w < 7 + (l + 1))) → (w < 5 + l ∨ (7 ≤ w ∧ w < 7 + l)) ∨ w = 7 + l := fun w h2 => by omega
    have k4 : ∀ w, (w < 5 + l ∨ (7 ≤ w ∧ w < 7 + l)) → (w < 4 + l ∨ (7 ≤ w ∧ w < 7 + l)) ∨ w = 4 + l := fun w h2 => by omega
    have snd : ∀ (h2 : Sto) (x4 : Int), x4 = (if l < m then 1 else 0) → Fr LkP [] h h2 → LkD (rwA L n m x) ws h2 (fun w => w < 5 + l ∨ (7 ≤ w ∧ w < 7 + l)) → WF sc (d + 5) 86 120 [(2, 52), (0, (ws : Int)), (2, 9), (0, (l : Int)), (0, x4)] [] sh sl h2 Q := by
      intro h2 x4 h4 F2 D2
      have C2 := C.lk F2
      rw [B_86_120 C2.1]
      refine ite_i (fun hb => ?_) (fun hb => ?_)
      · have hb' := (bitW hw (show 7 + l < 32 by omega) (show (7 + (l : Int)) = ((7 + l : Nat) : Int) by omega)).mp hb
        exact ih (l + 1) h2 _ _ (by omega) (by simp) F2 (D2.skip hb' k7)
      · by_cases c : l < m
        · rw [if_pos c] at h4
          rw [h4, show w32 1 = 1 from rfl, if_neg (by decide)]
          refine sp_quOn JQa C2 c (fun h3 F3 => ?_)
          simp only [pushR0]
          have F3' : Fr LkP [] h h3 := F2.trans (F3.mono rfl)
          rw [B_86_155 (C.lk F3').1, w7 (), Int.toNat_natCast]
          refine ⟨⟨by omega, by omega⟩, ih (l + 1) _ _ _ (by omega) (by simp) (F3'.setP rfl) (LkD.set (w0 := 7 + l) (D2.cg (F3.row 58 rfl)) ?_ k7)⟩
          rw [rwA_7 hl3, if_pos c]
        · rw [if_neg c] at h4
          rw [h4, w32_0, if_pos rfl, w7 (), Int.toNat_natCast]
          refine ⟨⟨by omega, by omega⟩, ih (l + 1) _ _ _ (by omega) (by simp) (F2.setP rfl) (D2.set (w0 := 7 + l) ?_ k7)⟩
          rw [rwA_7 hl3, if_neg c]
    rw [B_86_56 C'.1, w32_id (a := (l : Int)) (by omega) (by omega), if_neg (by omega), hm, w32_id (a := (m : Int)) (by omega) (by omega)]
    refine ite_i (fun hc => ?_) (fun hc => ?_)
    · have c : ¬ l < m := by omega
      refine ite_i (fun hb => ?_) (fun hb => ?_)
      · have hb' := (bitW hw (show 4 + l < 32 by omega) (show (4 + (l : Int)) = ((4 + l : Nat) : Int) by omega)).mp hb
        exact snd h' 0 (by rw [if_neg c]) F (D.skip hb' k4)
      · rw [w4 (), Int.toNat_natCast]
        exact ⟨⟨by omega, by omega⟩, snd _ 0 (by rw [if_neg c]) (F.setP rfl) (D.set (w0 := 4 + l) (by rw [rwA_4 hl3, if_neg c]) k4)⟩
    · have c : l < m := by omega
      refine ite_i (fun hb => ?_) (fun hb => ?_)
      · have hb' := (bitW hw (show 4 + l < 32 by omega) (show (4 + (l : Int)) = ((4 + l : Nat) : Int) by omega)).mp hb
        exact snd h' 1 (by rw [if_pos c]) F (D.skip hb' k4)
      · refine sp_paid JQa C' c (fun h3 F3 => ?_)
        simp only [pushR0]
        have F3' : Fr LkP [] h h3 := F.trans (F3.mono rfl)
        rw [B_86_115 (C.lk F3').1, w4 (), Int.toNat_natCast]
        exact ⟨⟨by omega, by omega⟩, snd _ 1 (by rw [if_pos c]) (F3'.setP rfl) (LkD.set (w0 := 4 + l) (D.cg (F3.row 58 rfl)) (by rw [rwA_4 hl3, if_pos c]) k4)⟩
theorem sp_look (C : CJ sh h x.1 n m L 10) (hw : ws < 8388608) (e6 : h 52 6 = x.2.1) (e7 : h 52 7 = x.2.2.1) (hq : ∀ h', Fr LkP [] h h' → LkD (rwA L n m x) ws h' (fun w => w < 20) → Q (9, 0) sh sl h') : WM sc (d + 5) 86 [(2, 52), (0, (ws : Int))] sh sl h Q := by
  have W := C.2.2.2.1
  have hn10 := W.1.2.1
  have hm3 := W.1.2.2.2.1
  rw [B_86_0 C.1]
  refine (bn_today (b := 9) (c := 10) C.1.bd).mpr ?_
  simp only [pushR0]
  rw [B_86_17 C.1, w32_0, Int.toNat_zero]
  refine ⟨⟨by decide, by decide⟩, ?_⟩
  obtain ⟨h1, hh1⟩ : ∃ h1, setH (setH (setH h 58 0 (h 10 0)) 58 1 (h 52 6)) 58 2 (h 52 7) = h1 := ⟨_, rfl⟩
  rw [hh1]
  have F1 : Fr LkP [] h h1 := by rw [← hh1]; exact (((Fr.refl h).setP rfl).setP rfl).setP rfl
  have C1 := C.lk F1
  refine sp_inSheet C1.1 C1.2.1.1.1 C1.2.2.1 C1.2.2.2.2 hn10 hm3 ?_
  simp only [pushR0]
  rw [B_86_53 C1.1, show w32 3 = 3 from rfl, toNatL]
  refine ⟨⟨by decide, by decide⟩, lp_look1 C hw (fun h' j4 F D => lp_look2 C hw hq 10 0 h' _ (by omega) rfl F D) 3 0 _ _ _ (by omega) rfl (F1.setP rfl) (fun w h1 h2 h3 => ?_)⟩
  have h2' : w < 4 + 0 ∨ (7 ≤ w ∧ w < 7 + 0) := h2
  rcases (show w = 0 ∨ w = 1 ∨ w = 2 ∨ w = 3 by omega) with rfl | rfl | rfl | rfl
  · rw [setH_k (by decide), ← hh1, setH_k (by decide), setH_k (by decide), setH_self]
    exact C.2.2.1.1
  · rw [setH_k (by decide), ← hh1, setH_k (by decide), setH_self]
    exact e6
  · rw [setH_k (by decide), ← hh1, setH_self]
    exact e7
  · rw [setH_self]; rfl
end LOOK
/-! ===== orders: is a clause due ===== -/
theorem SgO.tell {h : Sto} {F c : Nat} {v : Int} {ev : Ev} (S : SgO F h c v (some ev)) (hc : c ≤ 400) : TellC (h 41) (h 42) c F v (some ev) := by
  obtain ⟨a, e, l, h1, h3, h4, h5, h6⟩ := S
  subst h1
  exact sgC_tell h3.sg h4 h5 hc (by omega)
theorem SgO.w {h : Sto} {F c : Nat} {v : Int} {o : Option Ev} (S : SgO F h c v o) (hc : c ≤ 400) : w32 v = v ∧ (v = -1 ↔ o = none) := by
  cases o with
  | none =>
    have e : v = -1 := S
    subst e
    exact ⟨rfl, ⟨fun _ => rfl, fun _ => rfl⟩⟩
  | some ev =>
    obtain ⟨a, e, l, h1, h3, h4, h5, h6⟩ := S
    have := h3.1.1
    subst h1
    exact ⟨w32_id (by omega) (by omega), ⟨fun q => by omega, fun q => by cases q⟩⟩
abbrev DuP : List Nat := [48, 49, 58, 59, 81, 82]
abbrev DuS : List (Nat × Nat) := [(52, 8), (52, 9)]
def RyC (sh : Shp) (h : Sto) (fw : Nat → Int) (c i : Nat) (cl : Clx) : Prop := Fix sh h ∧ h 34 1 = (c : Int) ∧ c ≤ 400 ∧ CKb h ∧ ClC true 20 h c i cl ∧ LkD fw cl.2.2.2.2.2 h (fun w => w < 20)
theorem ClC.fr {P : List Nat} {S : List (Nat × Nat)} {h h2 : Sto} {F c i : Nat} {cl : Clx} (H : ClC true F h c i cl) (Fr1 : Fr P S h h2) (hs : ([35, 36, 37, 38, 39, 40, 41, 42].all (fun q => !(P.contains q || S.any (fun x => x.1 == q)))) = true) : ClC true F h2 c i cl := by
  rw [List.all_eq_true] at hs
  have e : ∀ q ∈ [35, 36, 37, 38, 39, 40, 41, 42], h2 q = h q := fun q hq => Fr1.row q (by have := hs q hq; simpa using this)
  refine H.mono (Nat.le_refl c) (fun j _ => ?_) (fun r r1 r2 => ?_)
  · rw [e 41 (by decide), e 42 (by decide)]; exact ⟨rfl, rfl⟩
  · rw [e r]
    rcases (show r = 35 ∨ r = 36 ∨ r = 37 ∨ r = 38 ∨ r = 39 ∨ r = 40 by omega) with rfl | rfl | rfl | rfl | rfl | rfl <;> decide
theorem RyC.fr {sh : Shp} {h h2 : Sto} {fw : Nat → Int} {c i : Nat} {cl : Clx} (R : RyC sh h fw c i cl) (F : Fr [59] DuS h h2) : RyC sh h2 fw c i cl := by
  obtain ⟨X, e1, hc, kb, hcl, D⟩ := R
  exact ⟨F.fix X (by decide +kernel), by rw [F.at 34 1 rfl]; exact e1, hc, kb.cg (F.at 34 1 rfl) (F.row 41 rfl) (F.row 42 rfl), hcl.fr F rfl, D.cg (F.row 58 rfl)⟩
section DUE
variable {sc : Nat × (Nat → Int)} {d : Nat} {sh : Shp} {sl : Nat} {h : Sto} {Q : Pst} {n m : Nat} {L : List Law} {x : OSt} {c i : Nat} {cl : Clx}
theorem sp_tellO {fw : Nat → Int} {v : Int} {ev : Ev} (R : RyC sh h fw c i cl) (S : SgO 20 h c v (some ev)) (hd : EvD ev cl.2.2.2.2.2) (hq : ∀ h', Fr [59] [] h h' → Q (1, (ev (fun w => w32 (fw w))).getD (-2000000000)) sh sl h') : WM sc d 30 [(2, 34), (0, v), (2, 58), (2, 59)] sh sl h Q := by
  obtain ⟨X, e1, hc, kb, hcl, D⟩ := R
  have ef : ev (fun w => if w < 20 then w32 (h 58 w) else w32 (fw w)) = ev (fun w => w32 (fw w)) := hd _ _ (fun w hb => by
    by_cases c : w < 20
    · show (if w < 20 then w32 (h 58 w) else w32 (fw w)) = w32 (fw w)
      rw [if_pos c, D w c c hb]
    · show (if w < 20 then w32 (h 58 w) else w32 (fw w)) = w32 (fw w)
      rw [if_neg c])
  refine sp_tellW (p := 34) (po := 41) (pa := 42) (N := c) (No := 400) (F := 20) (fa := 58) (ks := 59) (f := fun w => if w < 20 then w32 (h 58 w) else w32 (fw w)) (fs_34 X) e1 hc hc (ff_34_8 X) (fs_41 X) (ff_34_9 X) (fs_42 X) (fun j hj => (kb j (by rw [e1]; omega)).1) (fun j hj => (kb j (by rw [e1]; omega)).2) (fs_58 X) (by decide) (fs_59 X) ⟨by decide, by decide, by decide, by decide⟩ (S.tell hc) (fun j => ?_) (fun j hj => ?_) (fun h' e => ?_)
  · show -2147483648 ≤ (if j < 20 then w32 (h 58 j) else w32 (fw j)) ∧ (if j < 20 then w32 (h 58 j) else w32 (fw j)) < 2147483648
    split
    · exact w32_range _
    · exact w32_range _
  · show _ = if j < 20 then w32 (h 58 j) else w32 (fw j)
    rw [if_pos hj]
  · rw [ef]
    refine hq h' (fun q k h1 _ => ?_)
    rw [e q (by simpa using h1)]
theorem sp_due (C : CJ sh h x.1 n m L 10) (e6 : h 52 6 = x.2.1) (e7 : h 52 7 = x.2.2.1) (hi : i < 12) (e1 : h 34 1 = (c : Int)) (hc : c ≤ 400) (kb : CKb h) (H : ClC true 20 h c i cl) (g : ClG true cl)
    (q0 : dueO cl.2.1 (fcA L n m x) = false → ∀ h', Fr DuP DuS h h' → Q (0, 0) sh sl h')
    (q1 : dueO cl.2.1 (fcA L n m x) = true → ∀ h', Fr DuP DuS h h' → h' 52 8 = (evO cl.2.2.1 (fcA L n m x)).getD (-2000000000) → h' 52 9 = (evO cl.2.2.2.1 (fcA L n m x)).getD (-2000000000) → Q (0, 1) sh sl h') : WM sc (d + 6) 85 [(2, 52), (2, 34), (0, (i : Int))] sh sl h Q := by
  have bi : 0 ≤ w32 (i : Int) ∧ w32 (i : Int) < 12 := by rw [w32_id (a := (i : Int)) (by omega) (by omega)]; omega
  have ei : (w32 (i : Int)).toNat = i := by rw [w32_id (a := (i : Int)) (by omega) (by omega)]; omega
  have e40 : h 40 ((w32 (i : Int)).toNat) = (cl.2.2.2.2.2 : Int) := by rw [ei]; exact H.2.2.2.2.2 rfl
  obtain ⟨g1, g2, g3, g4, g5, g6, g7, g8⟩ := g
  rw [B_85_0 C.1, e40]
  refine ⟨bi, sp_look C g8 e6 e7 (fun h1 F1 D1 => ?_)⟩
  simp only [pushR9]
  have X1 := F1.fix C.1 (by decide +kernel)
  have F1' : Fr DuP DuS h h1 := F1.mono rfl
  have R1 : RyC sh h1 (rwA L n m x) c i cl := ⟨X1, by rw [F1.at 34 1 rfl]; exact e1, hc, kb.cg (F1.at 34 1 rfl) (F1.row 41 rfl) (F1.row 42 rfl), H.fr F1 rfl, D1⟩
  -- behind both sums
  have Z : dueO cl.2.1 (fcA L n m x) = true → ∀ (h4 : Sto) (z2 : Int), Fr DuP DuS h h4 → Fix sh h4 → h4 52 8 = (evO cl.2.2.1 (fcA L n m x)).getD (-2000000000) → z2 = (evO cl.2.2.2.1 (fcA L n m x)).getD (-2000000000) → WF sc (d + 6) 85 118 [(2, 52), (2, 34), (0, (i : Int))] [(1, z2), (2, 52)] sh sl h4 Q := fun hd h4 z2 F4 X4 k8 k9 => by
    rw [B_85_118 X4]
    exact q1 hd _ (F4.set rfl) (by rw [setH_k (by decide)]; exact k8) (by rw [setH_self]; exact k9)
  -- behind the first
  have Bs : dueO cl.2.1 (fcA L n m x) = true → ∀ (h3 : Sto) (z1 : Int), Fr DuP DuS h h3 → RyC sh h3 (rwA L n m x) c i cl → z1 = (evO cl.2.2.1 (fcA L n m x)).getD (-2000000000) → WF sc (d + 6) 85 80 [(2, 52), (2, 34), (0, (i : Int))] [(1, z1), (2, 52)] sh sl h3 Q := fun hd h3 z1 F3 R3 k8 => by
    have s2 := R3.2.2.2.2.1.2.2.2.1
    have R4 : RyC sh (setH h3 52 8 z1) (rwA L n m x) c i cl := R3.fr ((Fr.refl h3).set rfl)
    have s4 := R4.2.2.2.2.1.2.2.2.1
    rw [B_85_80 R3.1]
    refine ⟨bi, ite_i (fun hn => ⟨bi, ?_⟩) (fun hn => ?_)⟩
    · rw [ei] at hn ⊢
      cases ho : cl.2.2.2.1 with
      | none => rw [(s2.w hc).1] at hn; exact absurd ((s2.w hc).2.mpr ho) hn
      | some ev =>
        rw [setH_o (by decide)] at s4
        rw [ho] at s4
        refine sp_tellO R4 s4 (g4 ev ho).2 (fun h5 F5 => ?_)
        simp only [pushR1]
        refine Z hd h5 _ ((F3.set rfl).trans (F5.mono rfl)) (F5.fix R4.1 (by decide +kernel)) ?_ ?_
        · rw [F5.at 52 8 rfl, setH_self]; exact k8
        · rw [ho]; rfl
    · rw [ei] at hn
      have hnn : w32 (h3 38 i) = -1 := Decidable.not_not.mp hn
      rw [(s2.w hc).1] at hnn
      have ho := (s2.w hc).2.mp hnn
      refine Z hd _ _ (F3.set rfl) R4.1 (by rw [setH_self]; exact k8) ?_
      rw [ho]; rfl
  -- the sums
  have A : ∀ h2, Fr DuP DuS h h2 → RyC sh h2 (rwA L n m x) c i cl → dueO cl.2.1 (fcA L n m x) = true → (0 ≤ w32 (i : Int) ∧ w32 (i : Int) < 12) ∧ (if ¬ w32 (h2 37 ((w32 (i : Int)).toNat)) = (-1) then (0 ≤ w32 (i : Int) ∧ w32 (i : Int) < 12) ∧ WM sc (d + 5) 30 [(2, 34), (0, h2 37 ((w32 (i : Int)).toNat)), (2, 58), (2, 59)] sh sl h2 (fun r sh1 sl1 h1 => WF sc (d + 6) 85 80 [(2, 52), (2, 34), (0, (i : Int))] (pushR r [(2, 52)]) sh1 sl1 h1 Q) else WF sc (d + 6) 85 80 [(2, 52), (2, 34), (0, (i : Int))] [(1, -1), (2, 52)] sh sl h2 Q) := fun h2 F2 R2 hd => by
    have s1 := R2.2.2.2.2.1.2.2.1
    refine ⟨bi, ite_i (fun hn => ⟨bi, ?_⟩) (fun hn => ?_)⟩
    · rw [ei] at hn ⊢
      cases ho : cl.2.2.1 with
      | none => rw [(s1.w hc).1] at hn; exact absurd ((s1.w hc).2.mpr ho) hn
      | some ev =>
        rw [ho] at s1
        refine sp_tellO R2 s1 (g3 ev ho).2 (fun h5 F5 => ?_)
        simp only [pushR1]
        refine Bs hd h5 _ (F2.trans (F5.mono rfl)) (R2.fr (F5.mono rfl)) ?_
        rw [ho]; rfl
    · rw [ei] at hn
      have hnn : w32 (h2 37 i) = -1 := Decidable.not_not.mp hn
      rw [(s1.w hc).1] at hnn
      have ho := (s1.w hc).2.mp hnn
      refine Bs hd _ _ F2 R2 ?_
      rw [ho]; rfl
  have s0 := R1.2.2.2.2.1.2.1
  rw [B_85_10 X1]
  refine ⟨bi, ite_i (fun hn => ?_) (fun hn => ⟨bi, ?_⟩)⟩
  · rw [ei, (s0.w hc).1] at hn
    have ho := (s0.w hc).2.mp hn
    exact A h1 F1' R1 (by rw [ho]; rfl)
  · rw [ei] at hn ⊢
    cases ho : cl.2.1 with
    | none => rw [(s0.w hc).1] at hn; exact absurd ((s0.w hc).2.mpr ho) hn
    | some ev =>
      rw [ho] at s0
      refine sp_tellO R1 s0 (g2 ev ho).1.2 (fun h5 F5 => ?_)
      have R5 := R1.fr (F5.mono rfl)
      simp only [pushR1]
      rw [B_85_38 R5.1]
      have ed : dueO cl.2.1 (fcA L n m x) = decide (ev (fcA L n m x) = some 1) := by rw [ho]; rfl
      have ev1 : ev (fun w => w32 (rwA L n m x w)) = ev (fcA L n m x) := rfl
      rw [ev1]
      have eb := (g2 ev ho).2 (fcA L n m x) fcA_ok
      refine ite_i (fun hz => ?_) (fun hz => ?_)
      · refine A h5 (F1'.trans (F5.mono rfl)) R5 ?_
        rw [ed, decide_eq_true_eq]
        cases he : ev (fcA L n m x) with
        | none => rw [he] at hz; exact absurd hz (by decide)
        | some v =>
          rw [he] at hz
          rcases eb v he with e | e
          · subst e; exact absurd hz (by decide)
          · rw [e]
      · refine q0 ?_ h5 (F1'.trans (F5.mono rfl))
        rw [ed, decide_eq_false_iff_not]
        intro he
        rw [he] at hz
        exact hz rfl
end DUE
