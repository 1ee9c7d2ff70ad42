/-! ===== frames: what stays ===== -/
/-- all stays but the places of P and the cells of S -/
def Fr (P : List Nat) (S : List (Nat × Nat)) (h h' : Sto) : Prop := ∀ q k, q ∉ P → (q, k) ∉ S → h' q k = h q k
theorem Fr.refl {P : List Nat} {S : List (Nat × Nat)} (h : Sto) : Fr P S h h := fun _ _ _ _ => rfl
theorem Fr.trans {P : List Nat} {S : List (Nat × Nat)} {h h1 h2 : Sto} (F : Fr P S h h1) (F2 : Fr P S h1 h2) : Fr P S h h2 := fun q k a b => (F2 q k a b).trans (F q k a b)
def subF (P : List Nat) (S : List (Nat × Nat)) (P' : List Nat) (S' : List (Nat × Nat)) : Bool := P.all (fun q => P'.contains q) && S.all (fun x => P'.contains x.1 || S'.contains x)
theorem Fr.mono {P P' : List Nat} {S S' : List (Nat × Nat)} {h h' : Sto} (F : Fr P S h h') (hs : subF P S P' S' = true) : Fr P' S' h h' := by
  unfold subF at hs
  rw [Bool.and_eq_true, List.all_eq_true, List.all_eq_true] at hs
  intro q k h1 h2
  refine F q k (fun hm => h1 ?_) (fun hm => ?_)
  · have := hs.1 q hm; simpa using this
  · have := hs.2 (q, k) hm
    simp only [Bool.or_eq_true, List.contains_iff_mem] at this
    rcases this with h3 | h3
    · exact h1 h3
    · exact h2 h3
theorem Fr.set {P : List Nat} {S : List (Nat × Nat)} {h h' : Sto} {p k : Nat} {v : Int} (F : Fr P S h h') (hs : (P.contains p || S.contains (p, k)) = true) : Fr P S h (setH h' p k v) := by
  intro q j h1 h2
  rw [← F q j h1 h2]
  refine setH_other ?_
  simp only [Bool.or_eq_true, List.contains_iff_mem] at hs
  by_cases e : q = p
  · subst e
    refine Or.inr (fun e2 => ?_)
    subst e2
    rcases hs with h3 | h3
    · exact h1 h3
    · exact h2 h3
  · exact Or.inl e
theorem Fr.setP {P : List Nat} {S : List (Nat × Nat)} {h h' : Sto} {p k : Nat} {v : Int} (F : Fr P S h h') (hs : P.contains p = true) : Fr P S h (setH h' p k v) := F.set (by rw [hs]; rfl)
theorem Fr.rowP {P : List Nat} {S : List (Nat × Nat)} {h h' : Sto} {p : Nat} {f : Nat → Int} (F : Fr P S h h') (hs : P.contains p = true) : Fr P S h (rowH h' p f) := by
  intro q j h1 h2
  rw [← F q j h1 h2]
  unfold rowH
  rw [if_neg (fun e => h1 (by subst e; simpa using hs))]
theorem Fr.at {P : List Nat} {S : List (Nat × Nat)} {h h' : Sto} (F : Fr P S h h') (q k : Nat) (hs : (P.contains q || S.contains (q, k)) = false) : h' q k = h q k := by
  rw [Bool.or_eq_false_iff] at hs
  exact F q k (by simpa using hs.1) (by simpa using hs.2)
theorem Fr.row {P : List Nat} {S : List (Nat × Nat)} {h h' : Sto} (F : Fr P S h h') (q : Nat) (hs : (P.contains q || S.any (fun x => x.1 == q)) = false) : h' q = h q := by
  funext k
  refine F q k (fun hm => ?_) (fun hm => ?_)
  · simp [hm] at hs
  · have : (S.any (fun x => x.1 == q)) = true := List.any_eq_true.mpr ⟨_, hm, by simp⟩
    rw [this] at hs; simp at hs
def fixF (P : List Nat) (S : List (Nat × Nat)) : Bool := fld0.all (fun q => !(P.contains q.1) && !(S.contains (q.1, q.2.1)))
theorem Fr.fix {P : List Nat} {S : List (Nat × Nat)} {sh : Shp} {h h' : Sto} (F : Fr P S h h') (G : Fix sh h) (hs : fixF P S = true) : Fix sh h' := by
  refine G.of (fun q hq => ?_)
  unfold fixF at hs
  have := List.all_eq_true.mp hs q hq
  simp only [Bool.and_eq_true, Bool.not_eq_true', ← Bool.not_eq_true, List.contains_iff_mem] at this
  exact F _ _ this.1 this.2
/-- rows R, cells C and all from 120 on agree -/
def Cg (R : List Nat) (C : List (Nat × Nat)) (h h' : Sto) : Prop := (∀ q ∈ R, h' q = h q) ∧ (∀ x ∈ C, h' x.1 x.2 = h x.1 x.2) ∧ ∀ q, 120 ≤ q → h' q = h q
def cgF (R : List Nat) (C : List (Nat × Nat)) (P : List Nat) (S : List (Nat × Nat)) : Bool := P.all (fun q => decide (q < 120) && !(R.contains q) && C.all (fun x => x.1 != q)) && S.all (fun x => decide (x.1 < 120) && !(R.contains x.1) && !(C.contains x))
theorem Fr.cg {P : List Nat} {S : List (Nat × Nat)} {R : List Nat} {C : List (Nat × Nat)} {h h' : Sto} (F : Fr P S h h') (hs : cgF R C P S = true) : Cg R C h h' := by
  unfold cgF at hs
  rw [Bool.and_eq_true, List.all_eq_true, List.all_eq_true] at hs
  obtain ⟨h1, h2⟩ := hs
  simp only [Bool.and_eq_true, Bool.not_eq_true', ← Bool.not_eq_true, List.contains_iff_mem, decide_eq_true_eq, List.all_eq_true, bne_iff_ne] at h1 h2
  refine ⟨fun q hq => ?_, fun x hx => ?_, fun q hq => ?_⟩
  · funext k; exact F q k (fun hm => (h1 q hm).1.2 hq) (fun hm => (h2 _ hm).1.2 hq)
  · exact F _ _ (fun hm => (h1 _ hm).2 x hx rfl) (fun hm => (h2 _ hm).2 hx)
  · funext k; exact F q k (fun hm => by have := (h1 q hm).1.1; omega) (fun hm => by have := (h2 _ hm).1.1; omega)
theorem Cg.r {R : List Nat} {C : List (Nat × Nat)} {h h' : Sto} (H : Cg R C h h') (q : Nat) (hq : R.contains q = true) : h' q = h q := H.1 q (by simpa using hq)
theorem Cg.c {R : List Nat} {C : List (Nat × Nat)} {h h' : Sto} (H : Cg R C h h') (q k : Nat) (hq : C.contains (q, k) = true) : h' q k = h q k := H.2.1 (q, k) (by simpa using hq)
/-! ===== laws: what they mean ===== -/
/-- a SUM or TEST: by facts a value, or broken -/
abbrev Ev : Type := (Nat → Int) → Option Int
/-- a CLAUSE of a LAW: kind, TEST, SUM -/
abbrev Cl : Type := Nat × Option Ev × Option Ev
abbrev Law : Type := List Cl
def FOK (f : Nat → Int) : Prop := ∀ i, -2147483648 ≤ f i ∧ f i < 2147483648
/-- no fact is as low as the class's word for BROKEN -/
def FNB (f : Nat → Int) : Prop := ∀ i, -2000000000 < f i
def EvOK (ev : Ev) : Prop := ∀ f, FOK f → ∀ v, ev f = some v → (-2147483648 ≤ v ∧ v < 2147483648) ∧ (FNB f → -2000000000 < v)
def EvB (ev : Ev) : Prop := ∀ f, FOK f → ∀ v, ev f = some v → v = 0 ∨ v = 1
def LawOK (Lw : Law) : Prop := Lw.length ≤ 12 ∧ ∀ c ∈ Lw, c.1 ≤ 3 ∧ (∀ ev, c.2.1 = some ev → EvB ev) ∧ (∀ ev, c.2.2 = some ev → EvOK ev) ∧ (c.1 = 3 ↔ c.2.2 = none)
/-- the reference's code, run -/
def rkF (op ar : Nat → Int) (lk : Int → Int → Int) (W last : Nat) : Nat → Nat → List Int → Option (Option Int)
  | 0, _, _ => none
  | n + 1, k, stk =>
    if ¬ k < last then (match stk with
      | [v] => some (some v)
      | _ => none)
    else if op k < 0 then none
    else if op k < 20 then (if 400 ≤ stk.length ∨ (W : Int) < op k ∨ (W = 7 ∧ 5 ≤ op k ∧ op k ≤ 6 ∧ 3 ≤ ar k) then none else rkF op ar lk W last n (k + 1) ((if op k = 0 then ar k else lk (op k) (ar k)) :: stk))
    else if op k < 28 then (match stk with
      | b :: a :: r => if b = 0 ∧ (op k = 23 ∨ op k = 24) then some none else if 1000000000 < jn (op k - 15) a b ∨ jn (op k - 15) a b < -1000000000 then some none else rkF op ar lk W last n (k + 1) (jn (op k - 15) a b :: r)
      | _ => none)
    else if op k = 28 then (match stk with
      | v :: r => if v = 0 ∨ v = 1 then rkF op ar lk W last n (k + 1) ((1 - v) :: r) else none
      | [] => none)
    else (match stk with
      | v :: r => if v = (if op k = 29 then 0 else 1) then rkF op ar lk W last n (ar k).toNat (v :: r) else rkF op ar lk W last n (k + 1) r
      | [] => none)
/-- a stretch of a law's code in the reference's row, from a to b -/
def RgM (G : Nat → Int) (z : Nat) (a b : Int) (ev : Ev) : Prop := ∃ i j : Nat, a = i ∧ b = j ∧ i < j ∧ j ≤ 400 ∧ (∀ k, k < j → (-2147483648 ≤ G (z + 98 + 2 * k) ∧ G (z + 98 + 2 * k) < 2147483648) ∧ 0 ≤ G (z + 98 + 2 * k + 1) ∧ G (z + 98 + 2 * k + 1) < 2147483648) ∧ ∀ f, FOK f → rkF (fun k => G (z + 98 + 2 * k)) (fun k => G (z + 98 + 2 * k + 1)) (fun o _ => f (o.toNat - 1)) 8 j 401 i [] = some (ev f)
def LawM (G : Nat → Int) (z : Nat) (Lw : Law) : Prop := G (z + 1) = Lw.length ∧ ∀ i c, Lw[i]? = some c → G (z + 2 + 8 * i) = c.1 ∧ (match c.2.1 with
    | none => G (z + 2 + 8 * i + 5) = G (z + 2 + 8 * i + 6) ∧ 0 ≤ G (z + 2 + 8 * i + 6) ∧ G (z + 2 + 8 * i + 6) ≤ 400
    | some ev => RgM G z (G (z + 2 + 8 * i + 5)) (G (z + 2 + 8 * i + 6)) ev) ∧ (match c.2.2 with
    | none => True
    | some ev => RgM G z (G (z + 2 + 8 * i + 3)) (G (z + 2 + 8 * i + 4)) ev)
/-- telling by the class's Script at p from v on -/
def TellC (op ar : Nat → Int) (N F : Nat) (v : Int) (e : Option Ev) : Prop := match e with
  | none => v = -1
  | some ev => ∃ a : Nat, v = (a : Int) ∧ a < 400 ∧ ∀ f, FOK f → tlF op ar f N F N a [] = ev f
/-- a LAW at p -/
def LawC (sh : Shp) (h : Sto) (p : Nat) (Lw : Law) : Prop := ∃ (N Nc No pk pf pt po pa : Nat), (120 ≤ p ∧ p < sh.length) ∧ (120 ≤ pk ∧ 120 ≤ pf ∧ 120 ≤ pt ∧ 120 ≤ po ∧ 120 ≤ pa) ∧ shAt sh (p : Int) = some (0, 9) ∧ h p 0 = (Lw.length : Int) ∧ Lw.length ≤ Nc ∧ h p 1 = (N : Int) ∧ N ≤ 400 ∧ N ≤ No
  ∧ (h p 2 = (pk : Int) ∧ shAt sh (pk : Int) = some (1, Nc)) ∧ (h p 4 = (pf : Int) ∧ shAt sh (pf : Int) = some (1, Nc)) ∧ (h p 6 = (pt : Int) ∧ shAt sh (pt : Int) = some (1, Nc)) ∧ (h p 8 = (po : Int) ∧ shAt sh (po : Int) = some (1, No)) ∧ (h p 9 = (pa : Int) ∧ shAt sh (pa : Int) = some (1, No))
  ∧ (∀ i, i < N → 0 ≤ h po i ∧ h po i ≤ 13) ∧ (∀ i, i < N → 0 ≤ h pa i ∧ h pa i < 2147483648)
  ∧ ∀ i c, Lw[i]? = some c → h pk i = (c.1 : Int) ∧ TellC (h po) (h pa) N 8 (h pt i) c.2.1 ∧ TellC (h po) (h pa) N 8 (h pf i) c.2.2
/-! ===== boards and states: the class's cells against the reference's row ===== -/
def BR (f G : Nat → Int) (n m : Nat) : Prop := f 0 = G 5 ∧ (∀ s, s < n → f (1 + s) = G (18 + s) ∧ f (11 + s) = if G (8 + s) = 9 then -2 else G (8 + s)) ∧ (∀ l, l < m → f (21 + l) = G (31 + l) ∧ f (39 + l) = G (28 + l)) ∧ ∀ l i : Nat, l < m → (i : Int) < G (31 + l) → f (24 + 5 * l + i) = G (34 + 5 * l + i)
def BW (G : Nat → Int) (n m : Nat) : Prop := (0 ≤ G 5 ∧ G 5 ≤ 999) ∧ (∀ s, s < n → (0 ≤ G (18 + s) ∧ G (18 + s) ≤ 9) ∧ (G (8 + s) = 9 ∨ (-1 ≤ G (8 + s) ∧ G (8 + s) < m))) ∧ (∀ l, l < m → (0 ≤ G (28 + l) ∧ G (28 + l) ≤ 9999) ∧ 0 ≤ G (31 + l) ∧ G (31 + l) ≤ 5) ∧ (∀ l i : Nat, l < m → (i : Int) < G (31 + l) → ∃ s : Nat, G (34 + 5 * l + i) = s ∧ s < n ∧ G (8 + s) = l) ∧ ∀ l i k : Nat, l < m → i < k → (k : Int) < G (31 + l) → G (34 + 5 * l + i) ≠ G (34 + 5 * l + k)
def SR (sh : Shp) (h : Sto) (b : Nat) (G : Nat → Int) (n m : Nat) (L : List Law) : Prop := (h b 0 = n ∧ h b 4 = m ∧ h b 6 = G 2 ∧ h b 9 = G 6 ∧ h b 10 = G 7 ∧ h b 11 = (L.length : Int) ∧ h b 13 = G 4) ∧ (∀ s, s < n → h (b + 1) s = G (49 + s) ∧ h (b + 2) s = G (59 + s) ∧ h (b + 3) s = G (69 + s)) ∧ (∀ l, l < m → h (b + 4) l = G (79 + l)) ∧ (∀ i : Nat, (i : Int) < G 2 → h (b + 5) i = G (82 + 2 * i) ∧ h (b + 6) i = G (82 + 2 * i + 1)) ∧ ∀ k Lw, L[k]? = some Lw → ∃ p : Nat, h (b + 7) k = p ∧ LawC sh h p Lw
def SW (G : Nat → Int) (n m : Nat) (L : List Law) : Prop := (G 0 = n ∧ n ≤ 10 ∧ G 1 = m ∧ m ≤ 3 ∧ (0 ≤ G 2 ∧ G 2 ≤ 6) ∧ G 3 = (L.length : Int) ∧ L.length ≤ 6 ∧ (-1 ≤ G 4 ∧ G 4 < L.length) ∧ (0 ≤ G 6 ∧ G 6 ≤ 10) ∧ 0 ≤ G 7 ∧ G 7 ≤ 9) ∧ (∀ s, s < n → (1 ≤ G (49 + s) ∧ G (49 + s) ≤ 20) ∧ (0 ≤ G (59 + s) ∧ G (59 + s) ≤ 5) ∧ 0 ≤ G (69 + s) ∧ G (69 + s) ≤ 9) ∧ (∀ l, l < m → 0 ≤ G (79 + l) ∧ G (79 + l) ≤ 60) ∧ (∀ i : Nat, (i : Int) < G 2 → (0 ≤ G (82 + 2 * i) ∧ G (82 + 2 * i) < n) ∧ 0 ≤ G (82 + 2 * i + 1) ∧ G (82 + 2 * i + 1) ≤ 20) ∧ ∀ k Lw, L[k]? = some Lw → LawM G (94 + 900 * k) Lw ∧ LawOK Lw
/-! ===== the relation between both sides, kept from call to call ===== -/
def Live (sh : Shp) (h : Sto) (n m : Nat) (L : List Law) : Prop := SR sh h 1 (h 87) n m L ∧ BR (h 10) (h 87) n m ∧ SW (h 87) n m L ∧ BW (h 87) n m
/-- kept boards: the class's ring, the reference's pile -/
def HR (c d u s : Nat → Int) (r t g6 g7 : Int) (n m : Nat) : Prop := ∃ a k : Nat, r = a ∧ a < 17 ∧ t = k ∧ k ≤ 16 ∧ ∀ j, j < k → BR (fun i => c (42 * ((a + 17 - (k - j)) % 17) + i)) (fun i => u (44 * j + i - 5)) n m ∧ BW (fun i => u (44 * j + i - 5)) n m ∧ u (44 * j + 1) = g6 ∧ u (44 * j + 2) = g7 ∧ d ((a + 17 - (k - j)) % 17) = s j ∧ 0 ≤ s j ∧ s j ≤ 3
def Hist (h : Sto) (n m : Nat) : Prop := h 85 8 = h 44 3 ∧ HR (h 45) (h 46) (h 90) (h 91) (h 44 2) (h 44 3) (h 87 6) (h 87 7) n m
/-- what lies in a row of laws: nothing, or a Script -/
def LT1 (sh : Shp) (f : Nat → Int) : Prop := ∀ j, j < 6 → f j = -1 ∨ shAt sh (f j) = some (0, 9)
def Img (sh : Shp) (h : Sto) (k : Nat) : Prop := (h 89 k = 0 ∨ h 89 k = 1) ∧ h 32 k = h 89 k ∧ (h 89 k = 1 → ∃ n m L, SR sh h (12 + 10 * k) (fun i => h 88 (5494 * k + i)) n m L ∧ BR (h (21 + 10 * k)) (fun i => h 88 (5494 * k + i)) n m ∧ SW (fun i => h 88 (5494 * k + i)) n m L ∧ BW (fun i => h 88 (5494 * k + i)) n m) ∧ LT1 sh (h 8) ∧ LT1 sh (h (19 + 10 * k))
def Rgn (h : Sto) : Prop := (h 76 4 = 0 ∧ h 76 5 = 0 ∧ h 85 62 = -1 ∧ h 85 63 = -1) ∨ ∃ n m : Nat, (1 ≤ n ∧ n ≤ 10 ∧ 1 ≤ m ∧ m ≤ 3) ∧ h 76 4 = n ∧ h 85 62 = n ∧ h 76 5 = m ∧ h 85 63 = m ∧ BR (h 78) (fun i => h 119 (i - 5)) n m ∧ BW (fun i => h 119 (i - 5)) n m
def Tape (h : Sto) : Prop := ∃ t : Nat, h 0 14 = t ∧ h 85 13 = t ∧ t ≤ 400 ∧ ∀ i, i < t → 0 ≤ h 94 i ∧ h 94 i < 256 ∧ h 33 i = b8 (h 94 i)
def Scal (h : Sto) : Prop := h 0 15 = h 85 11 ∧ h 0 16 = h 85 1 ∧ (∀ i, i < 7 → h 84 i = h 86 i) ∧ h 43 10 = h 85 18 ∧ h 52 10 = h 85 58
def INV (sh : Shp) (h : Sto) : Prop := Fix sh h ∧ (∃ n m L, Live sh h n m L ∧ Hist h n m) ∧ Img sh h 0 ∧ Img sh h 1 ∧ Rgn h ∧ Tape h ∧ Scal h ∧ h 85 20 = 0
/-! ===== what agrees stays ===== -/
theorem LawC.of {sh : Shp} {h h2 : Sto} {p : Nat} {Lw : Law} (H : LawC sh h p Lw) (hh : ∀ q, 120 ≤ q → h2 q = h q) : LawC sh h2 p Lw := by
  obtain ⟨N, Nc, No, pk, pf, pt, po, pa, hp, ⟨b1, b2, b3, b4, b5⟩, H⟩ := H
  refine ⟨N, Nc, No, pk, pf, pt, po, pa, hp, ⟨b1, b2, b3, b4, b5⟩, ?_⟩
  rw [hh p hp.1, hh pk b1, hh pf b2, hh pt b3, hh po b4, hh pa b5]
  exact H
theorem shAt_app {sh dy : Shp} {z : Int} {q : Nat × Nat} (h : shAt sh z = some q) : shAt (sh ++ dy) z = some q := by
  unfold shAt at h ⊢
  by_cases hz : 0 ≤ z
  · rw [if_pos hz] at h ⊢
    rw [List.getElem?_append_left (List.getElem?_eq_some_iff.mp h).1]; exact h
  · rw [if_neg hz] at h; cases h
theorem LawC.app {sh dy : Shp} {h : Sto} {p : Nat} {Lw : Law} (H : LawC sh h p Lw) : LawC (sh ++ dy) h p Lw := by
  obtain ⟨N, Nc, No, pk, pf, pt, po, pa, hp, hb, g1, g2, g3, g4, g5, g6, ⟨g7, g8⟩, ⟨g9, g10⟩, ⟨g11, g12⟩, ⟨g13, g14⟩, ⟨g15, g16⟩, g17⟩ := H
  exact ⟨N, Nc, No, pk, pf, pt, po, pa, ⟨hp.1, by rw [List.length_append]; omega⟩, hb, shAt_app g1, g2, g3, g4, g5, g6, ⟨g7, shAt_app g8⟩, ⟨g9, shAt_app g10⟩, ⟨g11, shAt_app g12⟩, ⟨g13, shAt_app g14⟩, ⟨g15, shAt_app g16⟩, g17⟩
theorem SR.of {sh : Shp} {h h2 : Sto} {b n m : Nat} {G : Nat → Int} {L : List Law} (H : SR sh h b G n m L) (h0 : h2 b = h b) (hj : ∀ j, 1 ≤ j → j ≤ 7 → h2 (b + j) = h (b + j)) (hh : ∀ q, 120 ≤ q → h2 q = h q) : SR sh h2 b G n m L := by
  unfold SR at H ⊢
  rw [h0, hj 1 (by omega) (by omega), hj 2 (by omega) (by omega), hj 3 (by omega) (by omega), hj 4 (by omega) (by omega), hj 5 (by omega) (by omega), hj 6 (by omega) (by omega), hj 7 (by omega) (by omega)]
  exact ⟨H.1, H.2.1, H.2.2.1, H.2.2.2.1, fun k Lw hk => let ⟨p, e, hp⟩ := H.2.2.2.2 k Lw hk; ⟨p, e, hp.of hh⟩⟩
theorem SR.app {sh dy : Shp} {h : Sto} {b n m : Nat} {G : Nat → Int} {L : List Law} (H : SR sh h b G n m L) : SR (sh ++ dy) h b G n m L :=
  ⟨H.1, H.2.1, H.2.2.1, H.2.2.2.1, fun k Lw hk => let ⟨p, e, hp⟩ := H.2.2.2.2 k Lw hk; ⟨p, e, hp.app⟩⟩
theorem RgM.of {G G2 : Nat → Int} {z : Nat} {a b : Int} {ev : Ev} (H : RgM G z a b ev) (hz : 94 ≤ z) (e : ∀ i, 94 ≤ i → G2 i = G i) : RgM G2 z a b ev := by
  obtain ⟨i, j, h1, h2, h3, h4, h5, h6⟩ := H
  refine ⟨i, j, h1, h2, h3, h4, fun k hk => ?_, fun f hf => ?_⟩
  · rw [e _ (by omega), e _ (by omega)]; exact h5 k hk
  · rw [show (fun k => G2 (z + 98 + 2 * k)) = fun k => G (z + 98 + 2 * k) from funext fun k => e _ (by omega), show (fun k => G2 (z + 98 + 2 * k + 1)) = fun k => G (z + 98 + 2 * k + 1) from funext fun k => e _ (by omega)]
    exact h6 f hf
theorem LawM.of {G G2 : Nat → Int} {z : Nat} {Lw : Law} (H : LawM G z Lw) (hz : 94 ≤ z) (e : ∀ i, 94 ≤ i → G2 i = G i) : LawM G2 z Lw := by
  refine ⟨by rw [e _ (by omega)]; exact H.1, fun i c hc => ?_⟩
  obtain ⟨h1, h2, h3⟩ := H.2 i c hc
  rw [e _ (by omega), e _ (by omega), e _ (by omega), e _ (by omega), e _ (by omega)]
  refine ⟨h1, ?_, ?_⟩
  · cases hc1 : c.2.1 with
    | none => rw [hc1] at h2; exact h2
    | some ev => rw [hc1] at h2; exact h2.of hz e
  · cases hc2 : c.2.2 with
    | none => trivial
    | some ev => rw [hc2] at h3; exact h3.of hz e
theorem SW.of {G G2 : Nat → Int} {n m : Nat} {L : List Law} (H : SW G n m L) (e : ∀ i, (i < 5 ∨ i = 6 ∨ i = 7 ∨ 49 ≤ i) → G2 i = G i) : SW G2 n m L := by
  obtain ⟨h1, h2, h3, h4, h5⟩ := H
  refine ⟨?_, fun s hs => ?_, fun l hl => ?_, fun i hi => ?_, fun k Lw hk => ?_⟩
  · rw [e 0 (by omega), e 1 (by omega), e 2 (by omega), e 3 (by omega), e 4 (by omega), e 6 (by omega), e 7 (by omega)]; exact h1
  · rw [e _ (by omega), e _ (by omega), e _ (by omega)]; exact h2 s hs
  · rw [e _ (by omega)]; exact h3 l hl
  · rw [e 2 (by omega)] at hi
    rw [e _ (by omega), e _ (by omega)]; exact h4 i hi
  · exact ⟨(h5 k Lw hk).1.of (by omega) (fun i hi => e i (by omega)), (h5 k Lw hk).2⟩
theorem BW.of {G G2 : Nat → Int} {n m : Nat} (H : BW G n m) (hn : n ≤ 10) (hm : m ≤ 3) (e : ∀ i, 5 ≤ i → i < 49 → G2 i = G i) : BW G2 n m := by
  obtain ⟨h1, h2, h3, h4, h5⟩ := H
  refine ⟨by rw [e 5 (by omega) (by omega)]; exact h1, fun s hs => ?_, fun l hl => ?_, fun l i hl hi => ?_, fun l i k hl hik hk => ?_⟩
  · rw [e _ (by omega) (by omega), e _ (by omega) (by omega)]; exact h2 s hs
  · rw [e _ (by omega) (by omega), e _ (by omega) (by omega)]; exact h3 l hl
  · have := h3 l hl
    rw [e (31 + l) (by omega) (by omega)] at hi
    obtain ⟨s, a, b, c⟩ := h4 l i hl hi
    exact ⟨s, by rw [e _ (by omega) (by omega)]; exact a, b, by rw [e _ (by omega) (by omega)]; exact c⟩
  · have := h3 l hl
    rw [e (31 + l) (by omega) (by omega)] at hk
    rw [e _ (by omega) (by omega), e _ (by omega) (by omega)]; exact h5 l i k hl hik hk
theorem BR.of {f f2 G G2 : Nat → Int} {n m : Nat} (H : BR f G n m) (W : BW G n m) (hn : n ≤ 10) (hm : m ≤ 3) (ef : ∀ i, i < 42 → f2 i = f i) (e : ∀ i, 5 ≤ i → i < 49 → G2 i = G i) : BR f2 G2 n m := by
  obtain ⟨h1, h2, h3, h4⟩ := H
  refine ⟨by rw [ef 0 (by omega), e 5 (by omega) (by omega)]; exact h1, fun s hs => ?_, fun l hl => ?_, fun l i hl hi => ?_⟩
  · rw [ef _ (by omega), ef _ (by omega), e _ (by omega) (by omega), e _ (by omega) (by omega)]; exact h2 s hs
  · rw [ef _ (by omega), ef _ (by omega), e _ (by omega) (by omega), e _ (by omega) (by omega)]; exact h3 l hl
  · have := W.2.2.1 l hl
    rw [e (31 + l) (by omega) (by omega)] at hi
    rw [ef _ (by omega), e _ (by omega) (by omega)]; exact h4 l i hl hi
theorem Live.cg {sh : Shp} {h h2 : Sto} {n m : Nat} {L : List Law} (H : Live sh h n m L) (E : Cg [1, 2, 3, 4, 5, 6, 7, 8, 10, 87] [] h h2) : Live sh h2 n m L := by
  obtain ⟨a, b, c, d⟩ := H
  unfold Live
  rw [E.r 87 rfl, E.r 10 rfl]
  refine ⟨a.of (E.r 1 rfl) (fun j h1 h2 => E.1 _ ?_) E.2.2, b, c, d⟩
  have : j = 1 ∨ j = 2 ∨ j = 3 ∨ j = 4 ∨ j = 5 ∨ j = 6 ∨ j = 7 := by omega
  rcases this with rfl | rfl | rfl | rfl | rfl | rfl | rfl <;> decide
theorem Hist.cg {h h2 : Sto} {n m : Nat} (H : Hist h n m) (E : Cg [45, 46, 90, 91] [(85, 8), (44, 3), (44, 2), (87, 6), (87, 7)] h h2) : Hist h2 n m := by
  unfold Hist
  rw [E.r 45 rfl, E.r 46 rfl, E.r 90 rfl, E.r 91 rfl, E.c 85 8 rfl, E.c 44 3 rfl, E.c 44 2 rfl, E.c 87 6 rfl, E.c 87 7 rfl]
  exact H
theorem Img.cg0 {sh : Shp} {h h2 : Sto} (H : Img sh h 0) (E : Cg [8, 12, 13, 14, 15, 16, 17, 18, 19, 21, 32, 88, 89] [] h h2) : Img sh h2 0 := by
  obtain ⟨a, b, c, lt⟩ := H
  unfold Img
  rw [E.r 89 rfl, E.r 32 rfl, E.r 88 rfl, E.r (21 + 10 * 0) rfl, E.r 8 rfl, E.r (19 + 10 * 0) rfl]
  refine ⟨a, b, fun h1 => ?_, lt⟩
  obtain ⟨n, m, L, s1, s2⟩ := c h1
  refine ⟨n, m, L, s1.of (E.r _ rfl) (fun j h1 h2 => E.1 _ ?_) E.2.2, s2⟩
  have : j = 1 ∨ j = 2 ∨ j = 3 ∨ j = 4 ∨ j = 5 ∨ j = 6 ∨ j = 7 := by omega
  rcases this with rfl | rfl | rfl | rfl | rfl | rfl | rfl <;> decide
theorem Img.cg1 {sh : Shp} {h h2 : Sto} (H : Img sh h 1) (E : Cg [8, 22, 23, 24, 25, 26, 27, 28, 29, 31, 32, 88, 89] [] h h2) : Img sh h2 1 := by
  obtain ⟨a, b, c, lt⟩ := H
  unfold Img
  rw [E.r 89 rfl, E.r 32 rfl, E.r 88 rfl, E.r (21 + 10 * 1) rfl, E.r 8 rfl, E.r (19 + 10 * 1) rfl]
  refine ⟨a, b, fun h1 => ?_, lt⟩
  obtain ⟨n, m, L, s1, s2⟩ := c h1
  refine ⟨n, m, L, s1.of (E.r _ rfl) (fun j h1 h2 => E.1 _ ?_) E.2.2, s2⟩
  have : j = 1 ∨ j = 2 ∨ j = 3 ∨ j = 4 ∨ j = 5 ∨ j = 6 ∨ j = 7 := by omega
  rcases this with rfl | rfl | rfl | rfl | rfl | rfl | rfl <;> decide
theorem Rgn.cg {h h2 : Sto} (H : Rgn h) (E : Cg [78, 119] [(76, 4), (76, 5), (85, 62), (85, 63)] h h2) : Rgn h2 := by
  unfold Rgn
  rw [E.r 78 rfl, E.r 119 rfl, E.c 76 4 rfl, E.c 76 5 rfl, E.c 85 62 rfl, E.c 85 63 rfl]
  exact H
theorem Tape.cg {h h2 : Sto} (H : Tape h) (E : Cg [94, 33] [(0, 14), (85, 13)] h h2) : Tape h2 := by
  unfold Tape
  rw [E.r 94 rfl, E.r 33 rfl, E.c 0 14 rfl, E.c 85 13 rfl]
  exact H
theorem Scal.cg {h h2 : Sto} (H : Scal h) (E : Cg [84, 86] [(0, 15), (85, 11), (0, 16), (85, 1), (43, 10), (85, 18), (52, 10), (85, 58)] h h2) : Scal h2 := by
  unfold Scal
  rw [E.r 84 rfl, E.r 86 rfl, E.c 0 15 rfl, E.c 85 11 rfl, E.c 0 16 rfl, E.c 85 1 rfl, E.c 43 10 rfl, E.c 85 18 rfl, E.c 52 10 rfl, E.c 85 58 rfl]
  exact H
/-- what nothing of the relation reads -/
theorem INV.fr {P : List Nat} {S : List (Nat × Nat)} {sh : Shp} {h h2 : Sto} (H : INV sh h) (F : Fr P S h h2) (hf : fixF P S = true) (hc : cgF [1, 2, 3, 4, 5, 6, 7, 8, 10, 87, 45, 46, 90, 91, 12, 13, 14, 15, 16, 17, 18, 19, 21, 22, 23, 24, 25, 26, 27, 28, 29, 31, 32, 88, 89, 78, 119, 94, 33, 84, 86] [(85, 8), (44, 3), (44, 2), (76, 4), (76, 5), (85, 62), (85, 63), (0, 14), (85, 13), (0, 15), (85, 11), (0, 16), (85, 1), (43, 10), (85, 18), (52, 10), (85, 58), (85, 20)] P S = true) : INV sh h2 := by
  have E := F.cg hc
  have sub : ∀ (R : List Nat) (C : List (Nat × Nat)), (R.all (fun q => [1, 2, 3, 4, 5, 6, 7, 8, 10, 87, 45, 46, 90, 91, 12, 13, 14, 15, 16, 17, 18, 19, 21, 22, 23, 24, 25, 26, 27, 28, 29, 31, 32, 88, 89, 78, 119, 94, 33, 84, 86].contains q)) = true → (C.all (fun x => [1, 2, 3, 4, 5, 6, 7, 8, 10, 87, 45, 46, 90, 91, 12, 13, 14, 15, 16, 17, 18, 19, 21, 22, 23, 24, 25, 26, 27, 28, 29, 31, 32, 88, 89, 78, 119, 94, 33, 84, 86].contains x.1 || [((85 : Nat), (8 : Nat)), (44, 3), (44, 2), (76, 4), (76, 5), (85, 62), (85, 63), (0, 14), (85, 13), (0, 15), (85, 11), (0, 16), (85, 1), (43, 10), (85, 18), (52, 10), (85, 58), (85, 20)].contains x)) = true → Cg R C h h2 := by
    intro R C hR hC
    refine ⟨fun q hq => E.r q (List.all_eq_true.mp hR q hq), fun x hx => ?_, E.2.2⟩
    rcases Bool.or_eq_true_iff.mp (List.all_eq_true.mp hC x hx) with h1 | h1
    · rw [E.r _ h1]
    · exact E.c _ _ h1
  obtain ⟨a, ⟨n, m, L, b1, b2⟩, c0, c1, d, e, f, g⟩ := H
  exact ⟨F.fix a hf, ⟨n, m, L, b1.cg (sub _ _ rfl rfl), b2.cg (sub _ _ rfl rfl)⟩, c0.cg0 (sub _ _ rfl rfl), c1.cg1 (sub _ _ rfl rfl), d.cg (sub _ _ rfl rfl), e.cg (sub _ _ rfl rfl), f.cg (sub _ _ rfl rfl), by rw [E.c 85 20 rfl]; exact g⟩
