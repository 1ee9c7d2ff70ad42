/-! ===== the reference's reader: its pile ===== -/
abbrev Pil : Type := List (Int × Nat)
def PlR (f g : Nat → Int) : Pil → Prop
  | [] => True
  | x :: r => f r.length = x.1 ∧ g r.length = (x.2 : Int) ∧ PlR f g r
def PlOK (pl : Pil) : Prop := ∀ x ∈ pl, (20 ≤ x.1 ∧ x.1 ≤ 32) ∧ x.2 < 400
def bnd (o : Int) : Int := if 31 ≤ o then 0 else if o = 30 then 1 else if o = 29 then 2 else if o = 28 then 3 else if 25 ≤ o then 4 else if 22 ≤ o then 6 else 5
theorem PlR.of {f g f2 g2 : Nat → Int} : ∀ {pl : Pil}, PlR f g pl → (∀ i, i < pl.length → f2 i = f i ∧ g2 i = g i) → PlR f2 g2 pl := by
  intro pl
  induction pl with
  | nil => intro _ _; trivial
  | cons x r ih =>
    intro h e
    have e0 := e r.length (by simp)
    exact ⟨e0.1.trans h.1, e0.2.trans h.2.1, ih h.2.2 (fun i hi => e i (by simp; omega))⟩
theorem PlR.tail {f g : Nat → Int} {tl pl : Pil} : PlR f g (tl ++ pl) → PlR f g pl := by
  induction tl with
  | nil => intro h; exact h
  | cons x r ih => intro h; exact ih h.2.2
/-- code, written out of the pile -/
def fluS : Pil → (Nat → Int) × (Nat → Int) × Nat → (Nat → Int) × (Nat → Int) × Nat
  | [], s => s
  | x :: r, s => if x.1 = 29 ∨ x.1 = 30 then fluS r (s.1, up s.2.1 x.2 (s.2.2 : Int), s.2.2) else fluS r (up s.1 s.2.2 x.1, up s.2.1 s.2.2 0, s.2.2 + 1)
theorem fluS_app : ∀ (a b : Pil) (s : (Nat → Int) × (Nat → Int) × Nat), fluS (a ++ b) s = fluS b (fluS a s) := by
  intro a
  induction a with
  | nil => intro b s; rfl
  | cons x r ih =>
    intro b s
    show (if x.1 = 29 ∨ x.1 = 30 then fluS (r ++ b) _ else fluS (r ++ b) _) = fluS b (if x.1 = 29 ∨ x.1 = 30 then fluS r _ else fluS r _)
    split <;> exact ih b _
theorem fluS_le : ∀ (a : Pil) (s : (Nat → Int) × (Nat → Int) × Nat), s.2.2 ≤ (fluS a s).2.2 ∧ (fluS a s).2.2 ≤ s.2.2 + a.length := by
  intro a
  induction a with
  | nil => intro s; exact ⟨Nat.le_refl _, Nat.le_refl _⟩
  | cons x r ih =>
    intro s
    show _ ≤ (if x.1 = 29 ∨ x.1 = 30 then fluS r _ else fluS r _).2.2 ∧ (if x.1 = 29 ∨ x.1 = 30 then fluS r _ else fluS r _).2.2 ≤ _
    have e : (x :: r).length = r.length + 1 := rfl
    rw [e]
    split
    · have := ih (s.1, up s.2.1 x.2 (s.2.2 : Int), s.2.2)
      have this' : s.2.2 ≤ (fluS r (s.1, up s.2.1 x.2 (s.2.2 : Int), s.2.2)).2.2 ∧ (fluS r (s.1, up s.2.1 x.2 (s.2.2 : Int), s.2.2)).2.2 ≤ s.2.2 + r.length := this
      omega
    · have := ih (up s.1 s.2.2 x.1, up s.2.1 s.2.2 0, s.2.2 + 1)
      have this' : s.2.2 + 1 ≤ (fluS r (up s.1 s.2.2 x.1, up s.2.1 s.2.2 0, s.2.2 + 1)).2.2 ∧ (fluS r (up s.1 s.2.2 x.1, up s.2.1 s.2.2 0, s.2.2 + 1)).2.2 ≤ s.2.2 + 1 + r.length := this
      omega
theorem row_set {h : Sto} {p k : Nat} {v : Int} : setH h p k v p = up (h p) k v := by
  funext j
  by_cases e : j = k
  · subst e; rw [setH_self, up_s]
  · rw [setH_k e, up_n e]
def innP : Pil → Int
  | [] => -1
  | x :: r => if 31 ≤ x.1 then x.1 else innP r
def cmpP : Pil → Bool
  | [] => false
  | x :: r => if 20 ≤ x.1 ∧ x.1 ≤ 24 then cmpP r else decide (25 ≤ x.1 ∧ x.1 ≤ 27)
theorem innP_app {tl pl : Pil} (h : ∀ x ∈ tl, x.1 < 31) : innP (tl ++ pl) = innP pl := by
  induction tl with
  | nil => rfl
  | cons x r ih =>
    show (if 31 ≤ x.1 then x.1 else innP (r ++ pl)) = _
    rw [if_neg (by have := h x (by simp); omega)]
    exact ih (fun y hy => h y (by simp [hy]))
theorem cmpP_app {tl pl : Pil} (h : ∀ x ∈ tl, 20 ≤ x.1 ∧ x.1 ≤ 24) : cmpP (tl ++ pl) = cmpP pl := by
  induction tl with
  | nil => rfl
  | cons x r ih =>
    show (if 20 ≤ x.1 ∧ x.1 ≤ 24 then cmpP (r ++ pl) else _) = _
    rw [if_pos (h x (by simp))]
    exact ih (fun y hy => h y (by simp [hy]))
theorem pl_split (least : Int) : ∀ pl : Pil, ∃ tl rest, pl = tl ++ rest ∧ (∀ x ∈ tl, least ≤ bnd x.1) ∧ ∀ x r, rest = x :: r → bnd x.1 < least := by
  intro pl
  induction pl with
  | nil => exact ⟨[], [], rfl, fun x hx => (by cases hx), fun x r h => (by cases h)⟩
  | cons x r ih =>
    by_cases c : least ≤ bnd x.1
    · obtain ⟨tl, rest, e, h1, h2⟩ := ih
      refine ⟨x :: tl, rest, by rw [e]; rfl, fun y hy => ?_, h2⟩
      rcases List.mem_cons.mp hy with z | z
      · rw [z]; exact c
      · exact h1 y z
    · exact ⟨[], x :: r, rfl, fun y hy => (by cases hy), fun y r2 h => (by cases h; omega)⟩
abbrev MrP : List Nat := [96, 97, 98, 99]
abbrev MrS : List (Nat × Nat) := [(85, 14), (85, 15), (85, 16), (85, 17), (85, 18), (85, 19), (85, 23), (85, 26), (85, 29), (85, 30)]
abbrev MrT : List (Nat × Nat) := [(85, 14), (85, 15), (85, 16), (85, 17), (85, 23), (85, 26), (85, 29), (85, 30)]
def PlS (h : Sto) (pl : Pil) (c : Nat) : Prop := h 85 29 = (pl.length : Int) ∧ h 85 23 = (c : Int) ∧ PlR (h 98) (h 99) pl ∧ PlOK pl ∧ c + pl.length ≤ 400
def MI (T : Nat → Int) (n : Nat) (od : Bool) (p lf c : Nat) (pl : Pil) (b : Nat) (h : Sto) : Prop := (p ≤ n ∧ lf ≤ 50 ∧ c + pl.length ≤ p ∧ b ≤ 8) ∧ TpM T n h ∧ RdM T n p h ∧ h 85 19 = 0 ∧ h 85 20 = (if od = true then 1 else 0) ∧ h 85 26 = (lf : Int) ∧ h 85 30 = (b : Int) ∧ PlS h pl c
def MB (q : Nat) (h h2 : Sto) : Prop := Fr MrP MrS h h2 ∧ h2 85 19 = 1 ∧ h2 85 18 = (q : Int) ∧ ∃ pl c, PlS h2 pl c
/-- code of the reference within bounds -/
def KBd (op ar : Nat → Int) (i : Nat) : Prop := (0 ≤ op i ∧ op i ≤ 32) ∧ 0 ≤ ar i ∧ ar i < 2147483648
def MKb (h : Sto) : Prop := ∀ i : Nat, (i : Int) < h 85 23 → KBd (h 96) (h 97) i
theorem MKb.cg {h h2 : Sto} (H : MKb h) (e1 : h2 85 23 = h 85 23) (e2 : h2 96 = h 96) (e3 : h2 97 = h 97) : MKb h2 := fun i hi => by
  rw [e1] at hi; rw [e2, e3]; exact H i hi
theorem MKb.s97 {h : Sto} {j : Nat} {v : Int} (H : MKb h) (hv : 0 ≤ v ∧ v < 2147483648) : MKb (setH h 97 j v) := fun i hi => by
  rw [setH_o (by decide)] at hi
  have a := H i hi
  unfold KBd at a ⊢
  rw [setH_o (by decide)]
  by_cases ic : i = j
  · subst ic; rw [setH_self]; exact ⟨a.1, hv⟩
  · rw [setH_k ic]; exact a
theorem fluS_kb : ∀ (a : Pil) (s : (Nat → Int) × (Nat → Int) × Nat), PlOK a → s.2.2 + a.length ≤ 400 → (∀ i, i < s.2.2 → KBd s.1 s.2.1 i) → ∀ i, i < (fluS a s).2.2 → KBd (fluS a s).1 (fluS a s).2.1 i := by
  intro a
  induction a with
  | nil => intro s _ _ hk; exact hk
  | cons x r ih =>
    intro s ho hl hk
    have e : (x :: r).length = r.length + 1 := rfl
    rw [e] at hl
    have hx := ho x (by simp)
    have hr : PlOK r := fun y hy => ho y (by simp [hy])
    have eF : fluS (x :: r) s = if x.1 = 29 ∨ x.1 = 30 then fluS r (s.1, up s.2.1 x.2 (s.2.2 : Int), s.2.2) else fluS r (up s.1 s.2.2 x.1, up s.2.1 s.2.2 0, s.2.2 + 1) := rfl
    rw [eF]
    split
    · refine ih _ hr (by show s.2.2 + r.length ≤ 400; omega) (fun i hi => ?_)
      have b := hk i hi
      unfold KBd at b ⊢
      show (0 ≤ s.1 i ∧ s.1 i ≤ 32) ∧ 0 ≤ up s.2.1 x.2 (s.2.2 : Int) i ∧ up s.2.1 x.2 (s.2.2 : Int) i < 2147483648
      by_cases ic : i = x.2
      · rw [ic, up_s]; rw [ic] at b; exact ⟨b.1, by omega, by omega⟩
      · rw [up_n ic]; exact b
    · refine ih _ hr (by show s.2.2 + 1 + r.length ≤ 400; omega) (fun i hi => ?_)
      have hi2 : i < s.2.2 + 1 := hi
      unfold KBd
      show (0 ≤ up s.1 s.2.2 x.1 i ∧ up s.1 s.2.2 x.1 i ≤ 32) ∧ 0 ≤ up s.2.1 s.2.2 0 i ∧ up s.2.1 s.2.2 0 i < 2147483648
      by_cases ic : i = s.2.2
      · rw [ic, up_s, up_s]; exact ⟨⟨by omega, by omega⟩, by omega, by omega⟩
      · rw [up_n ic, up_n ic]; exact hk i (by omega)
theorem mkb_flu {h h2 : Sto} {tl pl : Pil} {c : Nat} (k : MKb h) (S : PlS h (tl ++ pl) c) (g1 : h2 96 = (fluS tl (h 96, h 97, c)).1) (g2 : h2 97 = (fluS tl (h 96, h 97, c)).2.1) (g3 : h2 85 23 = ((fluS tl (h 96, h 97, c)).2.2 : Int)) : MKb h2 := fun i hi => by
  obtain ⟨s1, s2, s3, s4, s5⟩ := S
  rw [List.length_append] at s5
  rw [g3] at hi
  rw [g1, g2]
  exact fluS_kb tl (h 96, h 97, c) (fun x hx => s4 x (by simp [hx])) (by show c + tl.length ≤ 400; omega) (fun j hj => k j (by rw [s2]; have : j < c := hj; omega)) i (by omega)
def MX (c : Nat) (h h2 : Sto) : Prop := Fr MrP MrT h h2 ∧ (∀ i, i < c → h2 96 i = h 96 i ∧ h2 97 i = h 97 i) ∧ (MKb h → MKb h2)
theorem MX.refl {c : Nat} (h : Sto) : MX c h h := ⟨Fr.refl h, fun _ _ => ⟨rfl, rfl⟩, id⟩
theorem MX.trans {c c1 : Nat} {h h1 h2 : Sto} (A : MX c h h1) (B : MX c1 h1 h2) (hc : c ≤ c1) : MX c h h2 := ⟨A.1.trans B.1, fun i hi => ⟨(B.2.1 i (by omega)).1.trans (A.2.1 i hi).1, (B.2.1 i (by omega)).2.trans (A.2.1 i hi).2⟩, fun k => B.2.2 (A.2.2 k)⟩
section MREAD
variable {sc : Nat × (Nat → Int)} {d : Nat} {sh : Shp} {sl : Nat} {h : Sto} {Q : Pst} {T : Nat → Int} {n : Nat} {od : Bool} {p lf ws c b : Nat} {pl : Pil}
theorem MX.fix {h2 : Sto} (E : MX c h h2) (X : Fix sh h) : Fix sh h2 := E.1.fix X (by decide +kernel)
theorem MX.nx {h2 : Sto} (F : Fr [] NmS h h2) : MX c h h2 := ⟨F.mono rfl, fun i _ => by rw [F.row 96 rfl, F.row 97 rfl]; exact ⟨rfl, rfl⟩, fun k => k.cg (F.at 85 23 rfl) (F.row 96 rfl) (F.row 97 rfl)⟩
theorem sp_bnd {o : Int} (X : Fix sh h) (ho : 20 ≤ o ∧ o ≤ 32) (hq : Q (0, bnd o) sh sl h) : WM sc (d + 1) 215 [(0, o)] sh sl h Q := by
  unfold bnd at hq
  rw [B_215_0 X, w32_id (a := o) (by omega) (by omega)]
  by_cases c1 : 31 ≤ o
  · rw [if_pos c1] at hq; rw [if_neg (by omega)]; exact hq
  rw [if_neg c1] at hq; rw [if_pos (by omega)]
  by_cases c2 : o = 30
  · rw [if_pos c2] at hq; rw [if_neg (fun z => z c2)]; exact hq
  rw [if_neg c2] at hq; rw [if_pos c2]
  by_cases c3 : o = 29
  · rw [if_pos c3] at hq; rw [if_neg (fun z => z c3)]; exact hq
  rw [if_neg c3] at hq; rw [if_pos c3]
  by_cases c4 : o = 28
  · rw [if_pos c4] at hq; rw [if_neg (fun z => z c4)]; exact hq
  rw [if_neg c4] at hq; rw [if_pos c4]
  by_cases c5 : 25 ≤ o
  · rw [if_pos c5] at hq; rw [if_neg (by omega)]; exact hq
  rw [if_neg c5] at hq; rw [if_pos (by omega)]
  by_cases c6 : 22 ≤ o
  · rw [if_pos c6] at hq; rw [if_neg (by omega)]; exact hq
  · rw [if_neg c6] at hq; rw [if_pos (by omega)]; exact hq
theorem bnd_b (o : Int) : 0 ≤ bnd o ∧ bnd o ≤ 6 := by
  unfold bnd
  repeat' split
  all_goals omega
theorem lp_settle {least : Int} (hl : 0 ≤ least ∧ least ≤ 9) (X : Fix sh h) {rest : Pil} (hr : ∀ x r, rest = x :: r → bnd x.1 < least) : ∀ (tl : Pil) (c : Nat) (h' : Sto), PlS h' (tl ++ rest) c → (∀ x ∈ tl, least ≤ bnd x.1) → Fr [96, 97] [(85, 23), (85, 29)] h h' → (∀ h2, Fr [96, 97] [(85, 23), (85, 29)] h h2 → h2 85 29 = (rest.length : Int) → h2 96 = (fluS tl (h' 96, h' 97, c)).1 → h2 97 = (fluS tl (h' 96, h' 97, c)).2.1 → h2 85 23 = ((fluS tl (h' 96, h' 97, c)).2.2 : Int) → Q (9, 0) sh sl h2) → WF sc (d + 2) 216 0 [(2, 85), (0, least)] [] sh sl h' Q := by
  intro tl
  induction tl with
  | nil =>
    intro c h' hP ht F hq
    obtain ⟨p1, p2, p3, p4, p5⟩ := hP
    have X' : Fix sh h' := F.fix X (by decide +kernel)
    rw [List.nil_append] at p1 p3 p4 p5
    have hq' := hq h' F p1 rfl rfl p2
    cases rest with
    | nil =>
      have p1' : h' 85 29 = 0 := p1
      rw [B_216_0 X', p1', w32_0, if_pos (by decide)]; exact hq'
    | cons x r =>
      have e : (x :: r).length = r.length + 1 := rfl
      rw [e] at p1 p5
      have ox := (p4 x (by simp)).1
      have bx := bnd_b x.1
      have lt := hr x r rfl
      rw [B_216_0 X', p1, w32_id (a := ((r.length + 1 : Nat) : Int)) (by omega) (by omega), if_neg (by omega), w32_nat (a := ((r.length + 1 : Nat) : Int) - 1) (n := r.length) (by omega) (by omega), Int.toNat_natCast, p3.1]
      refine ⟨⟨by omega, by omega⟩, sp_bnd X' ox ?_⟩
      simp only [pushR0]
      rw [B_216_21 X', w32_id (a := bnd x.1) (by omega) (by omega), w32_id (a := least) (by omega) (by omega), if_pos (by omega)]
      exact hq'
  | cons x tl ih =>
    intro c h' hP ht F hq
    obtain ⟨p1, p2, p3, p4, p5⟩ := hP
    have X' : Fix sh h' := F.fix X (by decide +kernel)
    have e : (x :: tl ++ rest).length = (tl ++ rest).length + 1 := rfl
    rw [e] at p1 p5
    have p3' : h' 98 (tl ++ rest).length = x.1 ∧ h' 99 (tl ++ rest).length = (x.2 : Int) ∧ PlR (h' 98) (h' 99) (tl ++ rest) := p3
    have p4x := p4 x (by simp)
    have ox := p4x.1
    have bx := bnd_b x.1
    have lx := ht x (by simp)
    have wx : Unit → w32 x.1 = x.1 := fun _ => w32_id (by omega) (by omega)
    have w1 : Unit → w32 (((tl ++ rest).length + 1 : Nat) : Int) = (((tl ++ rest).length + 1 : Nat) : Int) := fun _ => w32_id (by omega) (by omega)
    have w2 : Unit → w32 ((((tl ++ rest).length + 1 : Nat) : Int) - 1) = ((tl ++ rest).length : Int) := fun _ => w32_nat (by omega) (by omega)
    rw [B_216_0 X', p1, w1 (), if_neg (by omega), w2 (), Int.toNat_natCast, p3'.1]
    refine ⟨⟨by omega, by omega⟩, sp_bnd X' ox ?_⟩
    simp only [pushR0]
    have eF : fluS (x :: tl) (h' 96, h' 97, c) = if x.1 = 29 ∨ x.1 = 30 then fluS tl (h' 96, up (h' 97) x.2 (c : Int), c) else fluS tl (up (h' 96) c x.1, up (h' 97) c 0, c + 1) := rfl
    rw [eF] at hq
    -- AND, OR: the place is told
    have pat : (x.1 = 29 ∨ x.1 = 30) → WF sc (d + 2) 216 0 [(2, 85), (0, least)] [] sh sl (setH (setH h' 85 29 ((((tl ++ rest).length + 1 : Nat) : Int) - 1)) 97 x.2 (c : Int)) Q := fun z => by
      rw [if_pos z] at hq
      refine ih c _ ⟨?_, ?_, ?_, fun y hy => p4 y (by simp only [List.cons_append, List.mem_cons]; exact Or.inr hy), by omega⟩ (fun y hy => ht y (by simp [hy])) ((F.set rfl).setP rfl) (fun h2 F2 g1 g2 g3 g4 => hq h2 F2 g1 ?_ ?_ ?_)
      · rw [setH_o (by decide), setH_self]; omega
      · rw [setH_o (by decide), setH_k (by decide)]; exact p2
      · rw [setH_o (by decide), setH_o (by decide), setH_o (by decide), setH_o (by decide)]; exact p3'.2.2
      · rw [g2, setH_o (by decide), setH_o (by decide), row_set, setH_o (by decide)]
      · rw [g3, setH_o (by decide), setH_o (by decide), row_set, setH_o (by decide)]
      · rw [g4, setH_o (by decide), setH_o (by decide), row_set, setH_o (by decide)]
    rw [B_216_21 X', p1, w2 (), Int.toNat_natCast, w32_id (a := bnd x.1) (by omega) (by omega), w32_id (a := least) (by omega) (by omega), if_neg (by omega), p3'.1, p3'.2.1, wx (), w32_id (a := (x.2 : Int)) (by omega) (by omega), Int.toNat_natCast, p2]
    refine ⟨⟨by omega, by omega⟩, ite_i (fun z => ⟨⟨by omega, by omega⟩, ⟨by omega, by omega⟩, pat (Or.inl z)⟩) (fun z => ⟨⟨by omega, by omega⟩, ite_i (fun z2 => ⟨⟨by omega, by omega⟩, ?_⟩) (fun z2 => ⟨⟨by omega, by omega⟩, ⟨by omega, by omega⟩, pat (Or.inr (by omega))⟩)⟩)⟩
    rw [if_neg (by omega)] at hq
    have X3 : Fix sh (setH h' 85 29 ((((tl ++ rest).length + 1 : Nat) : Int) - 1)) := X'.s (by decide +kernel)
    rw [B_212_0 X3, setH_k (by decide), p2, w32_id (a := (c : Int)) (by omega) (by omega), Int.toNat_natCast]
    refine ⟨⟨by omega, by omega⟩, ⟨by omega, by omega⟩, ?_⟩
    simp only [pushR9]
    have F4 : Fr [96, 97] [(85, 23), (85, 29)] h (setH (setH (setH (setH h' 85 29 ((((tl ++ rest).length + 1 : Nat) : Int) - 1)) 96 c x.1) 97 c 0) 85 23 ((c : Int) + 1)) := ((((F.set rfl).setP rfl).setP rfl).set rfl)
    rw [B_216_98 (F4.fix X (by decide +kernel))]
    refine ih (c + 1) _ ⟨?_, ?_, ?_, fun y hy => p4 y (by simp only [List.cons_append, List.mem_cons]; exact Or.inr hy), by omega⟩ (fun y hy => ht y (by simp [hy])) F4 (fun h2 F2 g1 g2 g3 g4 => hq h2 F2 g1 ?_ ?_ ?_)
    · rw [setH_k (by decide), setH_o (by decide), setH_o (by decide), setH_self]; omega
    · rw [setH_self]; omega
    · rw [setH_o (by decide), setH_o (by decide), setH_o (by decide), setH_o (by decide), setH_o (by decide), setH_o (by decide), setH_o (by decide), setH_o (by decide)]; exact p3'.2.2
    · rw [g2, setH_o (by decide), setH_o (by decide), row_set, setH_o (by decide), setH_o (by decide), row_set, setH_o (by decide), setH_o (by decide)]
    · rw [g3, setH_o (by decide), setH_o (by decide), row_set, setH_o (by decide), setH_o (by decide), row_set, setH_o (by decide), setH_o (by decide)]
    · rw [g4, setH_o (by decide), setH_o (by decide), row_set, setH_o (by decide), setH_o (by decide), row_set, setH_o (by decide), setH_o (by decide)]
end MREAD
