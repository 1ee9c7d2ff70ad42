/-! ===== weakest preconditions over the pure machine, an equivalence an instruction (printed by wip/gen/wp.py) ===== -/
abbrev Shp : Type := List (Nat × Nat)
abbrev Sto : Type := Nat → Nat → Int
abbrev Pst : Type := V → Shp → Nat → Sto → Prop
def WF (sc : Nat × (Nat → Int)) (d y pc : Nat) (L S : List V) (sh : Shp) (sl : Nat) (h : Sto) (Q : Pst) : Prop := ∃ (n : Nat) (r : V) (sh' : Shp) (sl' : Nat) (h' : Sto), exF sc n d y pc L S (sh, sl, h) = some (r, sh', sl', h') ∧ Q r sh' sl' h'
/-- a method's run from its entry -/
def WM (sc : Nat × (Nat → Int)) (d y : Nat) (A : List V) (sh : Shp) (sl : Nat) (h : Sto) (Q : Pst) : Prop := WF sc d y 0 (ent A (maxLOf y)) [] sh sl h Q
section WP
variable {sc : Nat × (Nat → Int)} {d y pc : Nat} {L S : List V} {sh : Shp} {sl : Nat} {h : Sto} {Q Q' : Pst} {len : Nat}
theorem WF.mono (hq : ∀ r sh' sl' h', Q r sh' sl' h' → Q' r sh' sl' h') (hw : WF sc d y pc L S sh sl h Q) : WF sc d y pc L S sh sl h Q' := by
  obtain ⟨n, r, a, b, c, h1, h2⟩ := hw
  exact ⟨n, r, a, b, c, h1, hq _ _ _ _ h2⟩
theorem WM.mono {A : List V} (hq : ∀ r sh' sl' h', Q r sh' sl' h' → Q' r sh' sl' h') (hw : WM sc d y A sh sl h Q) : WM sc d y A sh sl h Q' := WF.mono hq hw
theorem WF.deeper {d' : Nat} (hd : d ≤ d') (hw : WF sc d y pc L S sh sl h Q) : WF sc d' y pc L S sh sl h Q := by
  obtain ⟨n, r, a, b, c, h1, h2⟩ := hw
  exact ⟨n, r, a, b, c, exF_mono sc _ _ _ _ _ _ _ _ h1 _ _ (Nat.le_refl _) hd, h2⟩
theorem WM.deeper {d' : Nat} {A : List V} (hd : d ≤ d') (hw : WM sc d y A sh sl h Q) : WM sc d' y A sh sl h Q := WF.deeper hd hw
theorem WF_step {ins : Instr} (hi : insAt y pc = some (ins, len)) (hk : okLen ins len = true) (hc : cidx ins = none) (hr : retV (retOf y) ins S = none) : WF sc d y pc L S sh sl h Q ↔ ∃ q, pst (ocOf y) (iniOf y) sc pc L S (sh, sl, h) ins = some q ∧ WF sc d y q.1 q.2.1 q.2.2.1 q.2.2.2.1 q.2.2.2.2.1 q.2.2.2.2.2 Q := by
  constructor
  · rintro ⟨n, r, a, b, c, h1, h2⟩
    cases n with
    | zero => cases h1
    | succ n =>
      unfold exF at h1
      rw [hi, Option.bind_some, if_pos hk] at h1
      dsimp only at h1
      rw [hc] at h1
      dsimp only at h1
      rw [hr] at h1
      obtain ⟨q, hq, h1⟩ := Option.bind_eq_some_iff.mp h1
      exact ⟨q, hq, n, r, a, b, c, h1, h2⟩
  · rintro ⟨q, hq, n, r, a, b, c, h1, h2⟩
    refine ⟨n + 1, r, a, b, c, ?_, h2⟩
    unfold exF
    rw [hi, Option.bind_some, if_pos hk]
    dsimp only
    rw [hc]
    dsimp only
    rw [hr]
    dsimp only
    rw [hq]
    exact h1
theorem WF_one {ins : Instr} (hi : insAt y pc = some (ins, len)) (hk : okLen ins len = true) (hc : cidx ins = none) (hr : retV (retOf y) ins S = none) {pc' : Nat} {L' S' : List V} {sh' : Shp} {sl' : Nat} {h' : Sto} (hp : pst (ocOf y) (iniOf y) sc pc L S (sh, sl, h) ins = some (pc', L', S', sh', sl', h')) : WF sc d y pc L S sh sl h Q ↔ WF sc d y pc' L' S' sh' sl' h' Q := by
  rw [WF_step hi hk hc hr]
  constructor
  · rintro ⟨q, hq, hw⟩
    rw [hp] at hq; cases hq; exact hw
  · intro hw; exact ⟨_, hp, hw⟩
theorem WF_if {ins : Instr} (hi : insAt y pc = some (ins, len)) (hk : okLen ins len = true) (hc : cidx ins = none) (hr : retV (retOf y) ins S = none) {P : Prop} {pc' : Nat} {L' S' : List V} {sh' : Shp} {sl' : Nat} {h' : Sto} (hp : P → pst (ocOf y) (iniOf y) sc pc L S (sh, sl, h) ins = some (pc', L', S', sh', sl', h')) (hn : ¬ P → pst (ocOf y) (iniOf y) sc pc L S (sh, sl, h) ins = none) : WF sc d y pc L S sh sl h Q ↔ P ∧ WF sc d y pc' L' S' sh' sl' h' Q := by
  rw [WF_step hi hk hc hr]
  constructor
  · rintro ⟨q, hq, hw⟩
    by_cases hP : P
    · rw [hp hP] at hq; cases hq; exact ⟨hP, hw⟩
    · rw [hn hP] at hq; cases hq
  · rintro ⟨hP, hw⟩; exact ⟨_, hp hP, hw⟩
theorem WF_ret {ins : Instr} {r : V} (hi : insAt y pc = some (ins, len)) (hk : okLen ins len = true) (hc : cidx ins = none) (hr : retV (retOf y) ins S = some r) : WF sc d y pc L S sh sl h Q ↔ Q r sh sl h := by
  constructor
  · rintro ⟨n, r1, a, b, c, h1, h2⟩
    cases n with
    | zero => cases h1
    | succ n =>
      unfold exF at h1
      rw [hi, Option.bind_some, if_pos hk] at h1
      dsimp only at h1
      rw [hc] at h1
      dsimp only at h1
      rw [hr] at h1
      cases h1; exact h2
  · intro hq
    refine ⟨1, r, sh, sl, h, ?_, hq⟩
    unfold exF
    rw [hi, Option.bind_some, if_pos hk]
    dsimp only
    rw [hc]
    dsimp only
    rw [hr]
/-- a call: the callee's run, then ours -/
theorem WF_call {ins : Instr} {k o i cy : Nat} (hi : insAt y pc = some (ins, 3)) (hk : okLen ins 3 = true) (hc : cidx ins = some (o, i)) (hm : mlook (ocOf y) i = some (k, cy)) (hk2 : k ≤ 2) :
    WF sc (d + 1) y pc L S sh sl h Q ↔ callOK k o cy S (sh, sl, h) = true ∧ WM sc d cy (S.take (nargs k cy)).reverse sh sl h (fun r sh1 sl1 h1 => WF sc (d + 1) y (pc + 3) L (pushR r (S.drop (nargs k cy))) sh1 sl1 h1 Q) := by
  constructor
  · rintro ⟨n, r, a, b, c, h1, h2⟩
    cases n with
    | zero => cases h1
    | succ n =>
      unfold exF at h1
      rw [hi, Option.bind_some, if_pos hk] at h1
      dsimp only at h1
      rw [hc] at h1
      dsimp only at h1
      rw [hm, Option.bind_some] at h1
      dsimp only at h1
      rw [if_pos hk2] at h1
      split at h1
      · rename_i hok
        obtain ⟨⟨r1, sh1, sl1, st1⟩, h3, h4⟩ := Option.bind_eq_some_iff.mp h1
        exact ⟨hok, n, r1, sh1, sl1, st1, h3, n, r, a, b, c, h4, h2⟩
      · cases h1
  · rintro ⟨hok, n, r1, sh1, sl1, st1, h3, n2, r, a, b, c, h4, h2⟩
    refine ⟨max n n2 + 1, r, a, b, c, ?_, h2⟩
    unfold exF
    rw [hi, Option.bind_some, if_pos hk]
    dsimp only
    rw [hc]
    dsimp only
    rw [hm, Option.bind_some]
    dsimp only
    rw [if_pos hk2, if_pos hok, exF_mono sc _ _ _ _ _ _ _ _ h3 _ _ (Nat.le_max_left n n2) (Nat.le_refl _), Option.bind_some]
    exact exF_mono sc _ _ _ _ _ _ _ _ h4 _ _ (Nat.le_max_right n n2) (Nat.le_refl _)
theorem WF_prim {ins : Instr} {k o i cy : Nat} (hi : insAt y pc = some (ins, 3)) (hk : okLen ins 3 = true) (hc : cidx ins = some (o, i)) (hm : mlook (ocOf y) i = some (k, cy)) (hk2 : ¬ k ≤ 2) (h5 : ¬ (5 ≤ k ∧ k ≤ 6 ∧ d < 9)) :
    WF sc (d + 1) y pc L S sh sl h Q ↔ ∃ q, prim k o S (sh, sl, h) = some q ∧ WF sc (d + 1) y (pc + 3) L q.1 q.2.1 q.2.2.1 q.2.2.2 Q := by
  constructor
  · rintro ⟨n, r, a, b, c, h1, h2⟩
    cases n with
    | zero => cases h1
    | succ n =>
      unfold exF at h1
      rw [hi, Option.bind_some, if_pos hk] at h1
      dsimp only at h1
      rw [hc] at h1
      dsimp only at h1
      rw [hm, Option.bind_some] at h1
      dsimp only at h1
      rw [if_neg hk2, if_neg h5] at h1
      obtain ⟨q, hq, h1⟩ := Option.bind_eq_some_iff.mp h1
      exact ⟨q, hq, n, r, a, b, c, h1, h2⟩
  · rintro ⟨q, hq, n, r, a, b, c, h1, h2⟩
    refine ⟨n + 1, r, a, b, c, ?_, h2⟩
    unfold exF
    rw [hi, Option.bind_some, if_pos hk]
    dsimp only
    rw [hc]
    dsimp only
    rw [hm, Option.bind_some]
    dsimp only
    rw [if_neg hk2, if_neg h5, hq]
    exact h1
def shAt (sh : Shp) (z : Int) : Option (Nat × Nat) := if 0 ≤ z then sh[z.toNat]? else none
theorem shAt_eq {sh : Shp} {sl : Nat} {h : Sto} {z : Int} : arrAt (sh, sl, h) z = shAt sh z := rfl
theorem w_aconst_null (hi : insAt y pc = some (.aconst_null, 1)) : WF sc d y pc L S sh sl h Q ↔ WF sc d y (pc + 1) L ((2, -1) :: S) sh sl h Q := WF_one hi rfl rfl rfl rfl
theorem w_iconst {i : Int} (hi : insAt y pc = some (.iconst i, 1)) : WF sc d y pc L S sh sl h Q ↔ WF sc d y (pc + 1) L ((0, i) :: S) sh sl h Q := WF_one hi rfl rfl rfl rfl
theorem w_bipush {n : Int} (hi : insAt y pc = some (.bipush n, 2)) (hb : b8 n = n) : WF sc d y pc L S sh sl h Q ↔ WF sc d y (pc + 2) L ((0, n) :: S) sh sl h Q := WF_one hi rfl rfl rfl (by show (if b8 n = n then _ else none) = _; rw [if_pos hb])
theorem w_sipush {n : Int} (hi : insAt y pc = some (.sipush n, 3)) (hb : n.bmod 65536 = n) : WF sc d y pc L S sh sl h Q ↔ WF sc d y (pc + 3) L ((0, n) :: S) sh sl h Q := WF_one hi rfl rfl rfl (by show (if n.bmod 65536 = n then _ else none) = _; rw [if_pos hb])
theorem w_lconst {n : Fin 2} {v : Int} (hi : insAt y pc = some (.lconst n, 1)) (hv : ((n : Nat) : Int) = v) : WF sc d y pc L S sh sl h Q ↔ WF sc d y (pc + 1) L ((1, v) :: S) sh sl h Q := by subst hv; exact WF_one hi rfl rfl rfl rfl
theorem w_ldc {i : Nat} {v : Int} (hi : insAt y pc = some (.ldc i, 2)) (hq : klook (ocOf y) i = some (0, v)) : WF sc d y pc L S sh sl h Q ↔ WF sc d y (pc + 2) L ((0, v) :: S) sh sl h Q := WF_one hi rfl rfl rfl (by show (klook (ocOf y) i).bind _ = _; rw [hq]; rfl)
theorem w_ldc_w {i : Nat} {v : Int} (hi : insAt y pc = some (.ldc_w i, 3)) (hq : klook (ocOf y) i = some (0, v)) : WF sc d y pc L S sh sl h Q ↔ WF sc d y (pc + 3) L ((0, v) :: S) sh sl h Q := WF_one hi rfl rfl rfl (by show (klook (ocOf y) i).bind _ = _; rw [hq]; rfl)
theorem w_ldc2_w {i : Nat} {v : Int} (hi : insAt y pc = some (.ldc2_w i, 3)) (hq : klook (ocOf y) i = some (1, v)) : WF sc d y pc L S sh sl h Q ↔ WF sc d y (pc + 3) L ((1, v) :: S) sh sl h Q := WF_one hi rfl rfl rfl (by show (klook (ocOf y) i).bind _ = _; rw [hq]; rfl)
theorem w_ldcS {i : Nat} {v z : Int} (hi : insAt y pc = some (.ldc i, 2)) (hq : klook (ocOf y) i = some (2, v)) (hz : -(10 + v) = z) : WF sc d y pc L S sh sl h Q ↔ WF sc d y (pc + 2) L ((2, z) :: S) sh sl h Q := by subst hz; exact WF_one hi rfl rfl rfl (by show (klook (ocOf y) i).bind _ = _; rw [hq]; rfl)
theorem w_iload {i : Nat} {x : Int} (hi : insAt y pc = some (.iload i, 2)) (hl : L[i]? = some (0, x)) : WF sc d y pc L S sh sl h Q ↔ WF sc d y (pc + 2) L ((0, x) :: S) sh sl h Q := WF_one hi rfl rfl rfl (by show (ldv 0 i L).bind _ = _; rw [show ldv 0 i L = some x by unfold ldv; rw [hl]; rfl]; rfl)
theorem w_iload_n {i : Fin 4} {x : Int} (hi : insAt y pc = some (.iload_n i, 1)) (hl : L[(i : Nat)]? = some (0, x)) : WF sc d y pc L S sh sl h Q ↔ WF sc d y (pc + 1) L ((0, x) :: S) sh sl h Q := WF_one hi rfl rfl rfl (by show (ldv 0 i L).bind _ = _; rw [show ldv 0 i L = some x by unfold ldv; rw [hl]; rfl]; rfl)
theorem w_istore {i : Nat} {x : Int} {L' : List V} (hi : insAt y pc = some (.istore i, 2)) (hl : i < L.length) (he : st1 L i (0, x) = L') : WF sc d y pc L ((0, x) :: S) sh sl h Q ↔ WF sc d y (pc + 2) L' S sh sl h Q := by subst he; exact WF_one hi rfl rfl rfl (by show (if i < L.length then _ else none) = _; rw [if_pos hl])
theorem w_istore_n {i : Fin 4} {x : Int} {L' : List V} (hi : insAt y pc = some (.istore_n i, 1)) (hl : (i : Nat) < L.length) (he : st1 L i (0, x) = L') : WF sc d y pc L ((0, x) :: S) sh sl h Q ↔ WF sc d y (pc + 1) L' S sh sl h Q := by subst he; exact WF_one hi rfl rfl rfl (by show (if (i : Nat) < L.length then _ else none) = _; rw [if_pos hl])
theorem w_lload {i : Nat} {x : Int} (hi : insAt y pc = some (.lload i, 2)) (hl : L[i]? = some (1, x)) : WF sc d y pc L S sh sl h Q ↔ WF sc d y (pc + 2) L ((1, x) :: S) sh sl h Q := WF_one hi rfl rfl rfl (by show (ldv 1 i L).bind _ = _; rw [show ldv 1 i L = some x by unfold ldv; rw [hl]; rfl]; rfl)
theorem w_lload_n {i : Fin 4} {x : Int} (hi : insAt y pc = some (.lload_n i, 1)) (hl : L[(i : Nat)]? = some (1, x)) : WF sc d y pc L S sh sl h Q ↔ WF sc d y (pc + 1) L ((1, x) :: S) sh sl h Q := WF_one hi rfl rfl rfl (by show (ldv 1 i L).bind _ = _; rw [show ldv 1 i L = some x by unfold ldv; rw [hl]; rfl]; rfl)
theorem w_lstore {i : Nat} {x : Int} {L' : List V} (hi : insAt y pc = some (.lstore i, 2)) (hl : i + 1 < L.length) (he : st2 L i (1, x) = L') : WF sc d y pc L ((1, x) :: S) sh sl h Q ↔ WF sc d y (pc + 2) L' S sh sl h Q := by subst he; exact WF_one hi rfl rfl rfl (by show (if i + 1 < L.length then _ else none) = _; rw [if_pos hl])
theorem w_lstore_n {i : Fin 4} {x : Int} {L' : List V} (hi : insAt y pc = some (.lstore_n i, 1)) (hl : (i : Nat) + 1 < L.length) (he : st2 L i (1, x) = L') : WF sc d y pc L ((1, x) :: S) sh sl h Q ↔ WF sc d y (pc + 1) L' S sh sl h Q := by subst he; exact WF_one hi rfl rfl rfl (by show (if (i : Nat) + 1 < L.length then _ else none) = _; rw [if_pos hl])
theorem w_aload {i : Nat} {x : Int} (hi : insAt y pc = some (.aload i, 2)) (hl : L[i]? = some (2, x)) : WF sc d y pc L S sh sl h Q ↔ WF sc d y (pc + 2) L ((2, x) :: S) sh sl h Q := WF_one hi rfl rfl rfl (by show (ldv 2 i L).bind _ = _; rw [show ldv 2 i L = some x by unfold ldv; rw [hl]; rfl]; rfl)
theorem w_aload_n {i : Fin 4} {x : Int} (hi : insAt y pc = some (.aload_n i, 1)) (hl : L[(i : Nat)]? = some (2, x)) : WF sc d y pc L S sh sl h Q ↔ WF sc d y (pc + 1) L ((2, x) :: S) sh sl h Q := WF_one hi rfl rfl rfl (by show (ldv 2 i L).bind _ = _; rw [show ldv 2 i L = some x by unfold ldv; rw [hl]; rfl]; rfl)
theorem w_astore {i : Nat} {x : Int} {L' : List V} (hi : insAt y pc = some (.astore i, 2)) (hl : i < L.length) (he : st1 L i (2, x) = L') : WF sc d y pc L ((2, x) :: S) sh sl h Q ↔ WF sc d y (pc + 2) L' S sh sl h Q := by subst he; exact WF_one hi rfl rfl rfl (by show (if i < L.length then _ else none) = _; rw [if_pos hl])
theorem w_astore_n {i : Fin 4} {x : Int} {L' : List V} (hi : insAt y pc = some (.astore_n i, 1)) (hl : (i : Nat) < L.length) (he : st1 L i (2, x) = L') : WF sc d y pc L ((2, x) :: S) sh sl h Q ↔ WF sc d y (pc + 1) L' S sh sl h Q := by subst he; exact WF_one hi rfl rfl rfl (by show (if (i : Nat) < L.length then _ else none) = _; rw [if_pos hl])
theorem w_iinc {i : Nat} {n x : Int} {L' : List V} (hi : insAt y pc = some (.iinc i n, 3)) (hl : L[i]? = some (0, x)) (he : st1 L i (0, x + n) = L') : WF sc d y pc L S sh sl h Q ↔ WF sc d y (pc + 3) L' S sh sl h Q := by subst he; exact WF_one hi rfl rfl rfl (by show (ldv 0 i L).bind _ = _; rw [show ldv 0 i L = some x by unfold ldv; rw [hl]; rfl]; rfl)
theorem w_iadd {a b : Int} (hi : insAt y pc = some (.iadd, 1)) : WF sc d y pc L ((0, b) :: (0, a) :: S) sh sl h Q ↔ WF sc d y (pc + 1) L ((0, a + b) :: S) sh sl h Q := WF_one hi rfl rfl rfl rfl
theorem w_isub {a b : Int} (hi : insAt y pc = some (.isub, 1)) : WF sc d y pc L ((0, b) :: (0, a) :: S) sh sl h Q ↔ WF sc d y (pc + 1) L ((0, a - b) :: S) sh sl h Q := WF_one hi rfl rfl rfl rfl
theorem w_imul {a b : Int} (hi : insAt y pc = some (.imul, 1)) : WF sc d y pc L ((0, b) :: (0, a) :: S) sh sl h Q ↔ WF sc d y (pc + 1) L ((0, a * b) :: S) sh sl h Q := WF_one hi rfl rfl rfl rfl
theorem w_iand {a b : Int} (hi : insAt y pc = some (.iand, 1)) : WF sc d y pc L ((0, b) :: (0, a) :: S) sh sl h Q ↔ WF sc d y (pc + 1) L ((0, iand a b) :: S) sh sl h Q := WF_one hi rfl rfl rfl rfl
theorem w_ior {a b : Int} (hi : insAt y pc = some (.ior, 1)) : WF sc d y pc L ((0, b) :: (0, a) :: S) sh sl h Q ↔ WF sc d y (pc + 1) L ((0, ior a b) :: S) sh sl h Q := WF_one hi rfl rfl rfl rfl
theorem w_ixor {a b : Int} (hi : insAt y pc = some (.ixor, 1)) : WF sc d y pc L ((0, b) :: (0, a) :: S) sh sl h Q ↔ WF sc d y (pc + 1) L ((0, ixor a b) :: S) sh sl h Q := WF_one hi rfl rfl rfl rfl
theorem w_ishl {a b : Int} (hi : insAt y pc = some (.ishl, 1)) : WF sc d y pc L ((0, b) :: (0, a) :: S) sh sl h Q ↔ WF sc d y (pc + 1) L ((0, ishl a b) :: S) sh sl h Q := WF_one hi rfl rfl rfl rfl
theorem w_ishr {a b : Int} (hi : insAt y pc = some (.ishr, 1)) : WF sc d y pc L ((0, b) :: (0, a) :: S) sh sl h Q ↔ WF sc d y (pc + 1) L ((0, ishr a b) :: S) sh sl h Q := WF_one hi rfl rfl rfl rfl
theorem w_iushr {a b : Int} (hi : insAt y pc = some (.iushr, 1)) : WF sc d y pc L ((0, b) :: (0, a) :: S) sh sl h Q ↔ WF sc d y (pc + 1) L ((0, iushr a b) :: S) sh sl h Q := WF_one hi rfl rfl rfl rfl
theorem w_ladd {a b : Int} (hi : insAt y pc = some (.ladd, 1)) : WF sc d y pc L ((1, b) :: (1, a) :: S) sh sl h Q ↔ WF sc d y (pc + 1) L ((1, a + b) :: S) sh sl h Q := WF_one hi rfl rfl rfl rfl
theorem w_lsub {a b : Int} (hi : insAt y pc = some (.lsub, 1)) : WF sc d y pc L ((1, b) :: (1, a) :: S) sh sl h Q ↔ WF sc d y (pc + 1) L ((1, a - b) :: S) sh sl h Q := WF_one hi rfl rfl rfl rfl
theorem w_lmul {a b : Int} (hi : insAt y pc = some (.lmul, 1)) : WF sc d y pc L ((1, b) :: (1, a) :: S) sh sl h Q ↔ WF sc d y (pc + 1) L ((1, a * b) :: S) sh sl h Q := WF_one hi rfl rfl rfl rfl
theorem w_land {a b : Int} (hi : insAt y pc = some (.land, 1)) : WF sc d y pc L ((1, b) :: (1, a) :: S) sh sl h Q ↔ WF sc d y (pc + 1) L ((1, land a b) :: S) sh sl h Q := WF_one hi rfl rfl rfl rfl
theorem w_lor {a b : Int} (hi : insAt y pc = some (.lor, 1)) : WF sc d y pc L ((1, b) :: (1, a) :: S) sh sl h Q ↔ WF sc d y (pc + 1) L ((1, lor a b) :: S) sh sl h Q := WF_one hi rfl rfl rfl rfl
theorem w_lshl {a b : Int} (hi : insAt y pc = some (.lshl, 1)) : WF sc d y pc L ((0, b) :: (1, a) :: S) sh sl h Q ↔ WF sc d y (pc + 1) L ((1, lshl a b) :: S) sh sl h Q := WF_one hi rfl rfl rfl rfl
theorem w_lshr {a b : Int} (hi : insAt y pc = some (.lshr, 1)) : WF sc d y pc L ((0, b) :: (1, a) :: S) sh sl h Q ↔ WF sc d y (pc + 1) L ((1, lshr a b) :: S) sh sl h Q := WF_one hi rfl rfl rfl rfl
theorem w_lcmp {a b : Int} (hi : insAt y pc = some (.lcmp, 1)) : WF sc d y pc L ((1, b) :: (1, a) :: S) sh sl h Q ↔ WF sc d y (pc + 1) L ((0, lcmpI a b) :: S) sh sl h Q := WF_one hi rfl rfl rfl rfl
theorem w_ineg {a : Int} (hi : insAt y pc = some (.ineg, 1)) : WF sc d y pc L ((0, a) :: S) sh sl h Q ↔ WF sc d y (pc + 1) L ((0, -a) :: S) sh sl h Q := WF_one hi rfl rfl rfl rfl
theorem w_i2l {a : Int} (hi : insAt y pc = some (.i2l, 1)) : WF sc d y pc L ((0, a) :: S) sh sl h Q ↔ WF sc d y (pc + 1) L ((1, w32 a) :: S) sh sl h Q := WF_one hi rfl rfl rfl rfl
theorem w_l2i {a : Int} (hi : insAt y pc = some (.l2i, 1)) : WF sc d y pc L ((1, a) :: S) sh sl h Q ↔ WF sc d y (pc + 1) L ((0, a) :: S) sh sl h Q := WF_one hi rfl rfl rfl rfl
theorem w_i2b {a : Int} (hi : insAt y pc = some (.i2b, 1)) : WF sc d y pc L ((0, a) :: S) sh sl h Q ↔ WF sc d y (pc + 1) L ((0, b8 a) :: S) sh sl h Q := WF_one hi rfl rfl rfl rfl
theorem w_idiv {a b : Int} (hi : insAt y pc = some (.idiv, 1)) : WF sc d y pc L ((0, b) :: (0, a) :: S) sh sl h Q ↔ ¬ w32 b = 0 ∧ WF sc d y (pc + 1) L ((0, (w32 a).tdiv (w32 b)) :: S) sh sl h Q := WF_if hi rfl rfl rfl (fun hP => by show (if w32 b = 0 then none else _) = _; rw [if_neg hP]) (fun hP => by show (if w32 b = 0 then none else _) = _; rw [if_pos (Decidable.not_not.mp hP)])
theorem w_irem {a b : Int} (hi : insAt y pc = some (.irem, 1)) : WF sc d y pc L ((0, b) :: (0, a) :: S) sh sl h Q ↔ ¬ w32 b = 0 ∧ WF sc d y (pc + 1) L ((0, (w32 a).tmod (w32 b)) :: S) sh sl h Q := WF_if hi rfl rfl rfl (fun hP => by show (if w32 b = 0 then none else _) = _; rw [if_neg hP]) (fun hP => by show (if w32 b = 0 then none else _) = _; rw [if_pos (Decidable.not_not.mp hP)])
theorem w_ldiv {a b : Int} (hi : insAt y pc = some (.ldiv, 1)) : WF sc d y pc L ((1, b) :: (1, a) :: S) sh sl h Q ↔ ¬ w64 b = 0 ∧ WF sc d y (pc + 1) L ((1, (w64 a).tdiv (w64 b)) :: S) sh sl h Q := WF_if hi rfl rfl rfl (fun hP => by show (if w64 b = 0 then none else _) = _; rw [if_neg hP]) (fun hP => by show (if w64 b = 0 then none else _) = _; rw [if_pos (Decidable.not_not.mp hP)])
theorem w_lrem {a b : Int} (hi : insAt y pc = some (.lrem, 1)) : WF sc d y pc L ((1, b) :: (1, a) :: S) sh sl h Q ↔ ¬ w64 b = 0 ∧ WF sc d y (pc + 1) L ((1, (w64 a).tmod (w64 b)) :: S) sh sl h Q := WF_if hi rfl rfl rfl (fun hP => by show (if w64 b = 0 then none else _) = _; rw [if_neg hP]) (fun hP => by show (if w64 b = 0 then none else _) = _; rw [if_pos (Decidable.not_not.mp hP)])
theorem w_dup_0 {a : Int} (hi : insAt y pc = some (.dup, 1)) : WF sc d y pc L ((0, a) :: S) sh sl h Q ↔ WF sc d y (pc + 1) L ((0, a) :: (0, a) :: S) sh sl h Q := WF_one hi rfl rfl rfl rfl
theorem w_pop_0 {a : Int} (hi : insAt y pc = some (.pop, 1)) : WF sc d y pc L ((0, a) :: S) sh sl h Q ↔ WF sc d y (pc + 1) L S sh sl h Q := WF_one hi rfl rfl rfl rfl
theorem w_dup_2 {a : Int} (hi : insAt y pc = some (.dup, 1)) : WF sc d y pc L ((2, a) :: S) sh sl h Q ↔ WF sc d y (pc + 1) L ((2, a) :: (2, a) :: S) sh sl h Q := WF_one hi rfl rfl rfl rfl
theorem w_pop_2 {a : Int} (hi : insAt y pc = some (.pop, 1)) : WF sc d y pc L ((2, a) :: S) sh sl h Q ↔ WF sc d y (pc + 1) L S sh sl h Q := WF_one hi rfl rfl rfl rfl
theorem w_dup2_02 {a b : Int} (hi : insAt y pc = some (.dup2, 1)) : WF sc d y pc L ((0, a) :: (2, b) :: S) sh sl h Q ↔ WF sc d y (pc + 1) L ((0, a) :: (2, b) :: (0, a) :: (2, b) :: S) sh sl h Q := WF_one hi rfl rfl rfl rfl
theorem w_ifCond_eq {a : Int} {off : Int} {t : Nat} (hi : insAt y pc = some (.ifCond .eq off, 3)) (ht : jmp pc off = some t) : WF sc d y pc L ((0, a) :: S) sh sl h Q ↔ (if w32 a = 0 then WF sc d y t L S sh sl h Q else WF sc d y (pc + 3) L S sh sl h Q) := by
  have hp : pst (ocOf y) (iniOf y) sc pc L ((0, a) :: S) (sh, sl, h) (.ifCond .eq off) = some (if tcond .eq (w32 a) (0) then t else pc + 3, L, S, sh, sl, h) := by show (jmp pc off).bind _ = _; rw [ht]; rfl
  rw [WF_one hi rfl rfl rfl hp]
  by_cases hP : w32 a = 0
  · rw [if_pos hP, if_pos (show tcond .eq (w32 a) (0) = true from decide_eq_true hP)]
  · rw [if_neg hP, if_neg (show ¬ tcond .eq (w32 a) (0) = true from fun q => hP (of_decide_eq_true q))]
theorem w_if_icmp_eq {a b : Int} {off : Int} {t : Nat} (hi : insAt y pc = some (.if_icmp .eq off, 3)) (ht : jmp pc off = some t) : WF sc d y pc L ((0, b) :: (0, a) :: S) sh sl h Q ↔ (if w32 a = w32 b then WF sc d y t L S sh sl h Q else WF sc d y (pc + 3) L S sh sl h Q) := by
  have hp : pst (ocOf y) (iniOf y) sc pc L ((0, b) :: (0, a) :: S) (sh, sl, h) (.if_icmp .eq off) = some (if tcond .eq (w32 a) (w32 b) then t else pc + 3, L, S, sh, sl, h) := by show (jmp pc off).bind _ = _; rw [ht]; rfl
  rw [WF_one hi rfl rfl rfl hp]
  by_cases hP : w32 a = w32 b
  · rw [if_pos hP, if_pos (show tcond .eq (w32 a) (w32 b) = true from decide_eq_true hP)]
  · rw [if_neg hP, if_neg (show ¬ tcond .eq (w32 a) (w32 b) = true from fun q => hP (of_decide_eq_true q))]
theorem w_ifCond_ne {a : Int} {off : Int} {t : Nat} (hi : insAt y pc = some (.ifCond .ne off, 3)) (ht : jmp pc off = some t) : WF sc d y pc L ((0, a) :: S) sh sl h Q ↔ (if ¬ w32 a = 0 then WF sc d y t L S sh sl h Q else WF sc d y (pc + 3) L S sh sl h Q) := by
  have hp : pst (ocOf y) (iniOf y) sc pc L ((0, a) :: S) (sh, sl, h) (.ifCond .ne off) = some (if tcond .ne (w32 a) (0) then t else pc + 3, L, S, sh, sl, h) := by show (jmp pc off).bind _ = _; rw [ht]; rfl
  rw [WF_one hi rfl rfl rfl hp]
  by_cases hP : ¬ w32 a = 0
  · rw [if_pos hP, if_pos (show tcond .ne (w32 a) (0) = true from decide_eq_true hP)]
  · rw [if_neg hP, if_neg (show ¬ tcond .ne (w32 a) (0) = true from fun q => hP (of_decide_eq_true q))]
theorem w_if_icmp_ne {a b : Int} {off : Int} {t : Nat} (hi : insAt y pc = some (.if_icmp .ne off, 3)) (ht : jmp pc off = some t) : WF sc d y pc L ((0, b) :: (0, a) :: S) sh sl h Q ↔ (if ¬ w32 a = w32 b then WF sc d y t L S sh sl h Q else WF sc d y (pc + 3) L S sh sl h Q) := by
  have hp : pst (ocOf y) (iniOf y) sc pc L ((0, b) :: (0, a) :: S) (sh, sl, h) (.if_icmp .ne off) = some (if tcond .ne (w32 a) (w32 b) then t else pc + 3, L, S, sh, sl, h) := by show (jmp pc off).bind _ = _; rw [ht]; rfl
  rw [WF_one hi rfl rfl rfl hp]
  by_cases hP : ¬ w32 a = w32 b
  · rw [if_pos hP, if_pos (show tcond .ne (w32 a) (w32 b) = true from decide_eq_true hP)]
  · rw [if_neg hP, if_neg (show ¬ tcond .ne (w32 a) (w32 b) = true from fun q => hP (of_decide_eq_true q))]
theorem w_ifCond_lt {a : Int} {off : Int} {t : Nat} (hi : insAt y pc = some (.ifCond .lt off, 3)) (ht : jmp pc off = some t) : WF sc d y pc L ((0, a) :: S) sh sl h Q ↔ (if w32 a < 0 then WF sc d y t L S sh sl h Q else WF sc d y (pc + 3) L S sh sl h Q) := by
  have hp : pst (ocOf y) (iniOf y) sc pc L ((0, a) :: S) (sh, sl, h) (.ifCond .lt off) = some (if tcond .lt (w32 a) (0) then t else pc + 3, L, S, sh, sl, h) := by show (jmp pc off).bind _ = _; rw [ht]; rfl
  rw [WF_one hi rfl rfl rfl hp]
  by_cases hP : w32 a < 0
  · rw [if_pos hP, if_pos (show tcond .lt (w32 a) (0) = true from decide_eq_true hP)]
  · rw [if_neg hP, if_neg (show ¬ tcond .lt (w32 a) (0) = true from fun q => hP (of_decide_eq_true q))]
theorem w_if_icmp_lt {a b : Int} {off : Int} {t : Nat} (hi : insAt y pc = some (.if_icmp .lt off, 3)) (ht : jmp pc off = some t) : WF sc d y pc L ((0, b) :: (0, a) :: S) sh sl h Q ↔ (if w32 a < w32 b then WF sc d y t L S sh sl h Q else WF sc d y (pc + 3) L S sh sl h Q) := by
  have hp : pst (ocOf y) (iniOf y) sc pc L ((0, b) :: (0, a) :: S) (sh, sl, h) (.if_icmp .lt off) = some (if tcond .lt (w32 a) (w32 b) then t else pc + 3, L, S, sh, sl, h) := by show (jmp pc off).bind _ = _; rw [ht]; rfl
  rw [WF_one hi rfl rfl rfl hp]
  by_cases hP : w32 a < w32 b
  · rw [if_pos hP, if_pos (show tcond .lt (w32 a) (w32 b) = true from decide_eq_true hP)]
  · rw [if_neg hP, if_neg (show ¬ tcond .lt (w32 a) (w32 b) = true from fun q => hP (of_decide_eq_true q))]
theorem w_ifCond_ge {a : Int} {off : Int} {t : Nat} (hi : insAt y pc = some (.ifCond .ge off, 3)) (ht : jmp pc off = some t) : WF sc d y pc L ((0, a) :: S) sh sl h Q ↔ (if 0 ≤ w32 a then WF sc d y t L S sh sl h Q else WF sc d y (pc + 3) L S sh sl h Q) := by
  have hp : pst (ocOf y) (iniOf y) sc pc L ((0, a) :: S) (sh, sl, h) (.ifCond .ge off) = some (if tcond .ge (w32 a) (0) then t else pc + 3, L, S, sh, sl, h) := by show (jmp pc off).bind _ = _; rw [ht]; rfl
  rw [WF_one hi rfl rfl rfl hp]
  by_cases hP : 0 ≤ w32 a
  · rw [if_pos hP, if_pos (show tcond .ge (w32 a) (0) = true from decide_eq_true hP)]
  · rw [if_neg hP, if_neg (show ¬ tcond .ge (w32 a) (0) = true from fun q => hP (of_decide_eq_true q))]
theorem w_if_icmp_ge {a b : Int} {off : Int} {t : Nat} (hi : insAt y pc = some (.if_icmp .ge off, 3)) (ht : jmp pc off = some t) : WF sc d y pc L ((0, b) :: (0, a) :: S) sh sl h Q ↔ (if w32 b ≤ w32 a then WF sc d y t L S sh sl h Q else WF sc d y (pc + 3) L S sh sl h Q) := by
  have hp : pst (ocOf y) (iniOf y) sc pc L ((0, b) :: (0, a) :: S) (sh, sl, h) (.if_icmp .ge off) = some (if tcond .ge (w32 a) (w32 b) then t else pc + 3, L, S, sh, sl, h) := by show (jmp pc off).bind _ = _; rw [ht]; rfl
  rw [WF_one hi rfl rfl rfl hp]
  by_cases hP : w32 b ≤ w32 a
  · rw [if_pos hP, if_pos (show tcond .ge (w32 a) (w32 b) = true from decide_eq_true hP)]
  · rw [if_neg hP, if_neg (show ¬ tcond .ge (w32 a) (w32 b) = true from fun q => hP (of_decide_eq_true q))]
theorem w_ifCond_gt {a : Int} {off : Int} {t : Nat} (hi : insAt y pc = some (.ifCond .gt off, 3)) (ht : jmp pc off = some t) : WF sc d y pc L ((0, a) :: S) sh sl h Q ↔ (if 0 < w32 a then WF sc d y t L S sh sl h Q else WF sc d y (pc + 3) L S sh sl h Q) := by
  have hp : pst (ocOf y) (iniOf y) sc pc L ((0, a) :: S) (sh, sl, h) (.ifCond .gt off) = some (if tcond .gt (w32 a) (0) then t else pc + 3, L, S, sh, sl, h) := by show (jmp pc off).bind _ = _; rw [ht]; rfl
  rw [WF_one hi rfl rfl rfl hp]
  by_cases hP : 0 < w32 a
  · rw [if_pos hP, if_pos (show tcond .gt (w32 a) (0) = true from decide_eq_true hP)]
  · rw [if_neg hP, if_neg (show ¬ tcond .gt (w32 a) (0) = true from fun q => hP (of_decide_eq_true q))]
theorem w_if_icmp_gt {a b : Int} {off : Int} {t : Nat} (hi : insAt y pc = some (.if_icmp .gt off, 3)) (ht : jmp pc off = some t) : WF sc d y pc L ((0, b) :: (0, a) :: S) sh sl h Q ↔ (if w32 b < w32 a then WF sc d y t L S sh sl h Q else WF sc d y (pc + 3) L S sh sl h Q) := by
  have hp : pst (ocOf y) (iniOf y) sc pc L ((0, b) :: (0, a) :: S) (sh, sl, h) (.if_icmp .gt off) = some (if tcond .gt (w32 a) (w32 b) then t else pc + 3, L, S, sh, sl, h) := by show (jmp pc off).bind _ = _; rw [ht]; rfl
  rw [WF_one hi rfl rfl rfl hp]
  by_cases hP : w32 b < w32 a
  · rw [if_pos hP, if_pos (show tcond .gt (w32 a) (w32 b) = true from decide_eq_true hP)]
  · rw [if_neg hP, if_neg (show ¬ tcond .gt (w32 a) (w32 b) = true from fun q => hP (of_decide_eq_true q))]
theorem w_ifCond_le {a : Int} {off : Int} {t : Nat} (hi : insAt y pc = some (.ifCond .le off, 3)) (ht : jmp pc off = some t) : WF sc d y pc L ((0, a) :: S) sh sl h Q ↔ (if w32 a ≤ 0 then WF sc d y t L S sh sl h Q else WF sc d y (pc + 3) L S sh sl h Q) := by
  have hp : pst (ocOf y) (iniOf y) sc pc L ((0, a) :: S) (sh, sl, h) (.ifCond .le off) = some (if tcond .le (w32 a) (0) then t else pc + 3, L, S, sh, sl, h) := by show (jmp pc off).bind _ = _; rw [ht]; rfl
  rw [WF_one hi rfl rfl rfl hp]
  by_cases hP : w32 a ≤ 0
  · rw [if_pos hP, if_pos (show tcond .le (w32 a) (0) = true from decide_eq_true hP)]
  · rw [if_neg hP, if_neg (show ¬ tcond .le (w32 a) (0) = true from fun q => hP (of_decide_eq_true q))]
theorem w_if_icmp_le {a b : Int} {off : Int} {t : Nat} (hi : insAt y pc = some (.if_icmp .le off, 3)) (ht : jmp pc off = some t) : WF sc d y pc L ((0, b) :: (0, a) :: S) sh sl h Q ↔ (if w32 a ≤ w32 b then WF sc d y t L S sh sl h Q else WF sc d y (pc + 3) L S sh sl h Q) := by
  have hp : pst (ocOf y) (iniOf y) sc pc L ((0, b) :: (0, a) :: S) (sh, sl, h) (.if_icmp .le off) = some (if tcond .le (w32 a) (w32 b) then t else pc + 3, L, S, sh, sl, h) := by show (jmp pc off).bind _ = _; rw [ht]; rfl
  rw [WF_one hi rfl rfl rfl hp]
  by_cases hP : w32 a ≤ w32 b
  · rw [if_pos hP, if_pos (show tcond .le (w32 a) (w32 b) = true from decide_eq_true hP)]
  · rw [if_neg hP, if_neg (show ¬ tcond .le (w32 a) (w32 b) = true from fun q => hP (of_decide_eq_true q))]
theorem w_ifnull {a off : Int} {t : Nat} (hi : insAt y pc = some (.ifnull off, 3)) (ht : jmp pc off = some t) : WF sc d y pc L ((2, a) :: S) sh sl h Q ↔ (if a = -1 then WF sc d y t L S sh sl h Q else WF sc d y (pc + 3) L S sh sl h Q) := by
  rw [WF_one (pc' := if a = -1 then t else pc + 3) hi rfl rfl rfl (by show (jmp pc off).bind _ = _; rw [ht]; rfl)]; split <;> rfl
theorem w_ifnonnull {a off : Int} {t : Nat} (hi : insAt y pc = some (.ifnonnull off, 3)) (ht : jmp pc off = some t) : WF sc d y pc L ((2, a) :: S) sh sl h Q ↔ (if a = -1 then WF sc d y (pc + 3) L S sh sl h Q else WF sc d y t L S sh sl h Q) := by
  rw [WF_one (pc' := if a = -1 then pc + 3 else t) hi rfl rfl rfl (by show (jmp pc off).bind _ = _; rw [ht]; rfl)]; split <;> rfl
theorem w_goto {off : Int} {t : Nat} (hi : insAt y pc = some (.goto off, 3)) (ht : jmp pc off = some t) : WF sc d y pc L S sh sl h Q ↔ WF sc d y t L S sh sl h Q := WF_one hi rfl rfl rfl (by show (jmp pc off).bind _ = _; rw [ht]; rfl)
theorem w_getfield {i ci k t : Nat} {z : Int} (hi : insAt y pc = some (.getfield i, 3)) (hf : flook (ocOf y) i = some (ci, k)) (ht : vtag (ftag ci k) = t) : WF sc d y pc L ((2, z) :: S) sh sl h Q ↔ shAt sh z = some (0, ci) ∧ WF sc d y (pc + 3) L ((t, h z.toNat k) :: S) sh sl h Q := by
  subst ht
  exact WF_if hi rfl rfl rfl (fun hP => by show (flook (ocOf y) i).bind _ = _; rw [hf]; show (if shAt sh z = some (0, ci) then _ else none) = _; rw [if_pos hP]) (fun hP => by show (flook (ocOf y) i).bind _ = _; rw [hf]; show (if shAt sh z = some (0, ci) then _ else none) = _; rw [if_neg hP])
theorem w_putfield {i ci k t : Nat} {z x : Int} (hi : insAt y pc = some (.putfield i, 3)) (hf : flook (ocOf y) i = some (ci, k)) (ht : vtag (ftag ci k) = t) (hfin : ffin ci k = true → iniOf y = true ∧ ci = ocOf y) (hb : ftag ci k ≠ 10) : WF sc d y pc L ((t, x) :: (2, z) :: S) sh sl h Q ↔ shAt sh z = some (0, ci) ∧ WF sc d y (pc + 3) L S sh sl (setH h z.toNat k x) Q := by
  subst ht
  have key : pst (ocOf y) (iniOf y) sc pc L ((vtag (ftag ci k), x) :: (2, z) :: S) (sh, sl, h) (.putfield i) = if shAt sh z = some (0, ci) ∧ (ffin ci k = true → iniOf y = true ∧ ci = ocOf y) ∧ (ftag ci k = 10 → x = 0 ∨ x = 1) then some (pc + 3, L, S, sh, sl, setH h z.toNat k x) else none := by
    show (flook (ocOf y) i).bind _ = _
    rw [hf]
    show (popT (vtag (ftag ci k)) _).bind _ = _
    rw [show popT (vtag (ftag ci k)) ((vtag (ftag ci k), x) :: (2, z) :: S) = some (x, (2, z) :: S) by unfold popT; simp]
    rfl
  exact WF_if hi rfl rfl rfl (fun hP => by rw [key, if_pos ⟨hP, hfin, fun h => absurd h hb⟩]) (fun hP => by rw [key, if_neg (fun q => hP q.1)])
theorem w_putfieldZ {i ci k : Nat} {z x : Int} (hi : insAt y pc = some (.putfield i, 3)) (hf : flook (ocOf y) i = some (ci, k)) (hfin : ffin ci k = false) (hb : ftag ci k = 10) : WF sc d y pc L ((0, x) :: (2, z) :: S) sh sl h Q ↔ (shAt sh z = some (0, ci) ∧ (x = 0 ∨ x = 1)) ∧ WF sc d y (pc + 3) L S sh sl (setH h z.toNat k x) Q := by
  have ht : vtag (ftag ci k) = 0 := by rw [hb]; rfl
  have key : pst (ocOf y) (iniOf y) sc pc L ((0, x) :: (2, z) :: S) (sh, sl, h) (.putfield i) = if shAt sh z = some (0, ci) ∧ (ffin ci k = true → iniOf y = true ∧ ci = ocOf y) ∧ (ftag ci k = 10 → x = 0 ∨ x = 1) then some (pc + 3, L, S, sh, sl, setH h z.toNat k x) else none := by
    show (flook (ocOf y) i).bind _ = _
    rw [hf]
    show (popT (vtag (ftag ci k)) _).bind _ = _
    rw [ht]
    rfl
  exact WF_if hi rfl rfl rfl (fun hP => by rw [key]; exact if_pos ⟨hP.1, (fun q => by rw [hfin] at q; cases q), fun _ => hP.2⟩) (fun hP => by rw [key]; exact if_neg (fun q => hP ⟨q.1, q.2.2 hb⟩))
/-- a place of an array -/
def inAr (sh : Shp) (k : Nat) (z i : Int) : Prop := ∃ n, shAt sh z = some (k, n) ∧ 0 ≤ w32 i ∧ w32 i < (n : Int)
theorem inA_of {sh : Shp} {k n : Nat} {z i : Int} (hz : shAt sh z = some (k, n)) : inAr sh k z i ↔ 0 ≤ w32 i ∧ w32 i < (n : Int) := by
  constructor
  · rintro ⟨m, h1, h2⟩; rw [hz] at h1; cases h1; exact h2
  · intro h; exact ⟨n, hz, h⟩
theorem bind_arr {sh : Shp} {sl : Nat} {h : Sto} {z : Int} {f : Nat × Nat → Option Nx} {P : Nat × Nat → Prop} {v : Nx} (h1 : ∀ k, shAt sh z = some k → P k → f k = some v) (h2 : ∀ k, shAt sh z = some k → ¬ P k → f k = none) : ((∃ k, shAt sh z = some k ∧ P k) → (arrAt (sh, sl, h) z).bind f = some v) ∧ (¬ (∃ k, shAt sh z = some k ∧ P k) → (arrAt (sh, sl, h) z).bind f = none) := by
  rw [shAt_eq]
  constructor
  · rintro ⟨k, hk, hP⟩; rw [hk]; exact h1 k hk hP
  · intro hn
    cases hz : shAt sh z with
    | none => rfl
    | some k => exact h2 k hz (fun hP => hn ⟨k, hz, hP⟩)
theorem w_iaload0 {i z x : Int} (hi : insAt y pc = some (.iaload, 1)) (ho : ocOf y ≠ 13) : WF sc d y pc L ((0, i) :: (2, z) :: S) sh sl h Q ↔ (∃ k, shAt sh z = some k ∧ (k.1 = 1 ∧ 0 ≤ w32 i ∧ w32 i < k.2)) ∧ WF sc d y (pc + 1) L ((0, h z.toNat (w32 i).toNat) :: S) sh sl h Q := by
  have key := bind_arr (sh := sh) (sl := sl) (h := h) (z := z) (P := fun k => (k.1 = 1 ∧ 0 ≤ w32 i ∧ w32 i < k.2)) (f := fun k => if (k.1 = 1 ∧ 0 ≤ w32 i ∧ w32 i < k.2) then some (pc + 1, L, ((0, h z.toNat (w32 i).toNat) :: S), sh, sl, h) else none) (v := (pc + 1, L, ((0, h z.toNat (w32 i).toNat) :: S), sh, sl, h)) (fun k _ hP => if_pos hP) (fun k _ hP => if_neg hP)
  have e : ∀ f : Nat × Nat → Option Nx, (if ocOf y = 13 ∧ z = -2 then (if 0 ≤ w32 i ∧ w32 i < sc.1 then some (pc + 1, L, (0, sc.2 (w32 i).toNat) :: S, sh, sl, h) else none) else (arrAt (sh, sl, h) z).bind f) = (arrAt (sh, sl, h) z).bind f := fun f => if_neg (fun q => ho q.1)
  exact WF_if hi rfl rfl rfl (fun hP => (e _).trans (key.1 hP)) (fun hP => (e _).trans (key.2 hP))
theorem w_laload0 {i z x : Int} (hi : insAt y pc = some (.laload, 1)) : WF sc d y pc L ((0, i) :: (2, z) :: S) sh sl h Q ↔ (∃ k, shAt sh z = some k ∧ (k.1 = 2 ∧ 0 ≤ w32 i ∧ w32 i < k.2)) ∧ WF sc d y (pc + 1) L ((1, h z.toNat (w32 i).toNat) :: S) sh sl h Q := by
  have key := bind_arr (sh := sh) (sl := sl) (h := h) (z := z) (P := fun k => (k.1 = 2 ∧ 0 ≤ w32 i ∧ w32 i < k.2)) (f := fun k => if (k.1 = 2 ∧ 0 ≤ w32 i ∧ w32 i < k.2) then some (pc + 1, L, ((1, h z.toNat (w32 i).toNat) :: S), sh, sl, h) else none) (v := (pc + 1, L, ((1, h z.toNat (w32 i).toNat) :: S), sh, sl, h)) (fun k _ hP => if_pos hP) (fun k _ hP => if_neg hP)
  exact WF_if hi rfl rfl rfl key.1 key.2
theorem w_baload0 {i z x : Int} (hi : insAt y pc = some (.baload, 1)) : WF sc d y pc L ((0, i) :: (2, z) :: S) sh sl h Q ↔ (∃ k, shAt sh z = some k ∧ ((k.1 = 3 ∨ k.1 = 4) ∧ 0 ≤ w32 i ∧ w32 i < k.2)) ∧ WF sc d y (pc + 1) L ((0, h z.toNat (w32 i).toNat) :: S) sh sl h Q := by
  have key := bind_arr (sh := sh) (sl := sl) (h := h) (z := z) (P := fun k => ((k.1 = 3 ∨ k.1 = 4) ∧ 0 ≤ w32 i ∧ w32 i < k.2)) (f := fun k => if ((k.1 = 3 ∨ k.1 = 4) ∧ 0 ≤ w32 i ∧ w32 i < k.2) then some (pc + 1, L, ((0, h z.toNat (w32 i).toNat) :: S), sh, sl, h) else none) (v := (pc + 1, L, ((0, h z.toNat (w32 i).toNat) :: S), sh, sl, h)) (fun k _ hP => if_pos hP) (fun k _ hP => if_neg hP)
  exact WF_if hi rfl rfl rfl key.1 key.2
theorem w_aaload0 {i z x : Int} (hi : insAt y pc = some (.aaload, 1)) : WF sc d y pc L ((0, i) :: (2, z) :: S) sh sl h Q ↔ (∃ k, shAt sh z = some k ∧ ((k.1 = 5 ∨ k.1 = 6) ∧ 0 ≤ w32 i ∧ w32 i < k.2)) ∧ WF sc d y (pc + 1) L ((2, h z.toNat (w32 i).toNat) :: S) sh sl h Q := by
  have key := bind_arr (sh := sh) (sl := sl) (h := h) (z := z) (P := fun k => ((k.1 = 5 ∨ k.1 = 6) ∧ 0 ≤ w32 i ∧ w32 i < k.2)) (f := fun k => if ((k.1 = 5 ∨ k.1 = 6) ∧ 0 ≤ w32 i ∧ w32 i < k.2) then some (pc + 1, L, ((2, h z.toNat (w32 i).toNat) :: S), sh, sl, h) else none) (v := (pc + 1, L, ((2, h z.toNat (w32 i).toNat) :: S), sh, sl, h)) (fun k _ hP => if_pos hP) (fun k _ hP => if_neg hP)
  exact WF_if hi rfl rfl rfl key.1 key.2
theorem w_iastore0 {i z x : Int} (hi : insAt y pc = some (.iastore, 1)) : WF sc d y pc L ((0, x) :: (0, i) :: (2, z) :: S) sh sl h Q ↔ (∃ k, shAt sh z = some k ∧ (k.1 = 1 ∧ 0 ≤ w32 i ∧ w32 i < k.2)) ∧ WF sc d y (pc + 1) L S sh sl (setH h z.toNat (w32 i).toNat x) Q := by
  have key := bind_arr (sh := sh) (sl := sl) (h := h) (z := z) (P := fun k => (k.1 = 1 ∧ 0 ≤ w32 i ∧ w32 i < k.2)) (f := fun k => if (k.1 = 1 ∧ 0 ≤ w32 i ∧ w32 i < k.2) then some (pc + 1, L, S, sh, sl, (setH h z.toNat (w32 i).toNat x)) else none) (v := (pc + 1, L, S, sh, sl, (setH h z.toNat (w32 i).toNat x))) (fun k _ hP => if_pos hP) (fun k _ hP => if_neg hP)
  exact WF_if hi rfl rfl rfl key.1 key.2
theorem w_lastore0 {i z x : Int} (hi : insAt y pc = some (.lastore, 1)) : WF sc d y pc L ((1, x) :: (0, i) :: (2, z) :: S) sh sl h Q ↔ (∃ k, shAt sh z = some k ∧ (k.1 = 2 ∧ 0 ≤ w32 i ∧ w32 i < k.2)) ∧ WF sc d y (pc + 1) L S sh sl (setH h z.toNat (w32 i).toNat x) Q := by
  have key := bind_arr (sh := sh) (sl := sl) (h := h) (z := z) (P := fun k => (k.1 = 2 ∧ 0 ≤ w32 i ∧ w32 i < k.2)) (f := fun k => if (k.1 = 2 ∧ 0 ≤ w32 i ∧ w32 i < k.2) then some (pc + 1, L, S, sh, sl, (setH h z.toNat (w32 i).toNat x)) else none) (v := (pc + 1, L, S, sh, sl, (setH h z.toNat (w32 i).toNat x))) (fun k _ hP => if_pos hP) (fun k _ hP => if_neg hP)
  exact WF_if hi rfl rfl rfl key.1 key.2
theorem w_iaload {i z : Int} (hi : insAt y pc = some (.iaload, 1)) (ho : ocOf y ≠ 13) : WF sc d y pc L ((0, i) :: (2, z) :: S) sh sl h Q ↔ inAr sh 1 z i ∧ WF sc d y (pc + 1) L ((0, h z.toNat (w32 i).toNat) :: S) sh sl h Q := by
  rw [w_iaload0 (x := 0) hi ho]
  refine and_congr_left (fun _ => ⟨?_, ?_⟩)
  · rintro ⟨⟨a, n⟩, h1, h2, h3⟩; simp only at h2 h3; subst h2; exact ⟨n, h1, h3⟩
  · rintro ⟨n, h1, h3⟩; exact ⟨(1, n), h1, rfl, h3⟩
theorem w_laload {i z : Int} (hi : insAt y pc = some (.laload, 1)) : WF sc d y pc L ((0, i) :: (2, z) :: S) sh sl h Q ↔ inAr sh 2 z i ∧ WF sc d y (pc + 1) L ((1, h z.toNat (w32 i).toNat) :: S) sh sl h Q := by
  rw [w_laload0 (x := 0) hi]
  refine and_congr_left (fun _ => ⟨?_, ?_⟩)
  · rintro ⟨⟨a, n⟩, h1, h2, h3⟩; simp only at h2 h3; subst h2; exact ⟨n, h1, h3⟩
  · rintro ⟨n, h1, h3⟩; exact ⟨(2, n), h1, rfl, h3⟩
theorem w_iastore {i z x : Int} (hi : insAt y pc = some (.iastore, 1)) : WF sc d y pc L ((0, x) :: (0, i) :: (2, z) :: S) sh sl h Q ↔ inAr sh 1 z i ∧ WF sc d y (pc + 1) L S sh sl (setH h z.toNat (w32 i).toNat x) Q := by
  rw [w_iastore0 hi]
  refine and_congr_left (fun _ => ⟨?_, ?_⟩)
  · rintro ⟨⟨a, n⟩, h1, h2, h3⟩; simp only at h2 h3; subst h2; exact ⟨n, h1, h3⟩
  · rintro ⟨n, h1, h3⟩; exact ⟨(1, n), h1, rfl, h3⟩
theorem w_lastore {i z x : Int} (hi : insAt y pc = some (.lastore, 1)) : WF sc d y pc L ((1, x) :: (0, i) :: (2, z) :: S) sh sl h Q ↔ inAr sh 2 z i ∧ WF sc d y (pc + 1) L S sh sl (setH h z.toNat (w32 i).toNat x) Q := by
  rw [w_lastore0 hi]
  refine and_congr_left (fun _ => ⟨?_, ?_⟩)
  · rintro ⟨⟨a, n⟩, h1, h2, h3⟩; simp only at h2 h3; subst h2; exact ⟨n, h1, h3⟩
  · rintro ⟨n, h1, h3⟩; exact ⟨(2, n), h1, rfl, h3⟩
theorem w_baload {i z : Int} (hi : insAt y pc = some (.baload, 1)) : WF sc d y pc L ((0, i) :: (2, z) :: S) sh sl h Q ↔ (inAr sh 3 z i ∨ inAr sh 4 z i) ∧ WF sc d y (pc + 1) L ((0, h z.toNat (w32 i).toNat) :: S) sh sl h Q := by
  rw [w_baload0 (x := 0) hi]
  refine and_congr_left (fun _ => ⟨?_, ?_⟩)
  · rintro ⟨⟨a, n⟩, h1, h2, h3⟩; simp only at h2 h3; rcases h2 with rfl | rfl; exact Or.inl ⟨n, h1, h3⟩; exact Or.inr ⟨n, h1, h3⟩
  · rintro (⟨n, h1, h3⟩ | ⟨n, h1, h3⟩); exact ⟨(3, n), h1, Or.inl rfl, h3⟩; exact ⟨(4, n), h1, Or.inr rfl, h3⟩
theorem w_aaload {i z : Int} (hi : insAt y pc = some (.aaload, 1)) : WF sc d y pc L ((0, i) :: (2, z) :: S) sh sl h Q ↔ (inAr sh 5 z i ∨ inAr sh 6 z i) ∧ WF sc d y (pc + 1) L ((2, h z.toNat (w32 i).toNat) :: S) sh sl h Q := by
  rw [w_aaload0 (x := 0) hi]
  refine and_congr_left (fun _ => ⟨?_, ?_⟩)
  · rintro ⟨⟨a, n⟩, h1, h2, h3⟩; simp only at h2 h3; rcases h2 with rfl | rfl; exact Or.inl ⟨n, h1, h3⟩; exact Or.inr ⟨n, h1, h3⟩
  · rintro (⟨n, h1, h3⟩ | ⟨n, h1, h3⟩); exact ⟨(5, n), h1, Or.inl rfl, h3⟩; exact ⟨(6, n), h1, Or.inr rfl, h3⟩
theorem w_bastoreB {x i z : Int} {n : Nat} (hi : insAt y pc = some (.bastore, 1)) (hz : shAt sh z = some (3, n)) : WF sc d y pc L ((0, x) :: (0, i) :: (2, z) :: S) sh sl h Q ↔ (0 ≤ w32 i ∧ w32 i < n) ∧ WF sc d y (pc + 1) L S sh sl (setH h z.toNat (w32 i).toNat (b8 x)) Q := by
  exact WF_if hi rfl rfl rfl (fun hP => by show (arrAt (sh, sl, h) z).bind _ = _; rw [shAt_eq, hz]; exact if_pos ⟨rfl, hP.1, hP.2⟩) (fun hP => by show (arrAt (sh, sl, h) z).bind _ = _; rw [shAt_eq, hz]; exact (if_neg (fun q => hP ⟨q.2.1, q.2.2⟩)).trans (if_neg (fun q => by cases q.1)))
theorem w_bastoreZ {x i z : Int} {n : Nat} (hi : insAt y pc = some (.bastore, 1)) (hz : shAt sh z = some (4, n)) : WF sc d y pc L ((0, x) :: (0, i) :: (2, z) :: S) sh sl h Q ↔ ((0 ≤ w32 i ∧ w32 i < n) ∧ (x = 0 ∨ x = 1)) ∧ WF sc d y (pc + 1) L S sh sl (setH h z.toNat (w32 i).toNat x) Q := by
  have key : pst (ocOf y) (iniOf y) sc pc L ((0, x) :: (0, i) :: (2, z) :: S) (sh, sl, h) .bastore = if (4 : Nat) = 3 ∧ 0 ≤ w32 i ∧ w32 i < n then some (pc + 1, L, S, sh, sl, setH h z.toNat (w32 i).toNat (b8 x)) else if (4 : Nat) = 4 ∧ 0 ≤ w32 i ∧ w32 i < n ∧ (x = 0 ∨ x = 1) then some (pc + 1, L, S, sh, sl, setH h z.toNat (w32 i).toNat x) else none := by
    show (arrAt (sh, sl, h) z).bind _ = _; rw [shAt_eq, hz]; rfl
  rw [if_neg (fun q => absurd q.1 (by decide))] at key
  exact WF_if hi rfl rfl rfl (fun hP => by rw [key]; exact if_pos ⟨rfl, hP.1.1, hP.1.2, hP.2⟩) (fun hP => by rw [key]; exact if_neg (fun q => hP ⟨⟨q.2.1, q.2.2.1⟩, q.2.2.2⟩))
theorem w_aastore {x i z : Int} {k n ci : Nat} (hi : insAt y pc = some (.aastore, 1)) (hz : shAt sh z = some (k, n)) (hx : shAt sh x = some (0, ci)) (hq : qkind ci = some k) : WF sc d y pc L ((2, x) :: (0, i) :: (2, z) :: S) sh sl h Q ↔ (0 ≤ w32 i ∧ w32 i < n) ∧ WF sc d y (pc + 1) L S sh sl (setH h z.toNat (w32 i).toNat x) Q := by
  have hx1 : ¬ x = -1 := by intro q; rw [q] at hx; cases hx
  exact WF_if hi rfl rfl rfl (fun hP => by show (arrAt (sh, sl, h) z).bind _ = _; rw [shAt_eq, hz]; refine (if_neg hx1).trans ?_; show (arrAt (sh, sl, h) x).bind _ = _; rw [shAt_eq, hx]; exact if_pos ⟨rfl, hq, hP.1, hP.2⟩) (fun hP => by show (arrAt (sh, sl, h) z).bind _ = _; rw [shAt_eq, hz]; refine (if_neg hx1).trans ?_; show (arrAt (sh, sl, h) x).bind _ = _; rw [shAt_eq, hx]; exact if_neg (fun q => hP ⟨q.2.2.1, q.2.2.2⟩))
theorem w_aastoreN {i z : Int} {k n : Nat} (hi : insAt y pc = some (.aastore, 1)) (hz : shAt sh z = some (k, n)) (hq : k = 5 ∨ k = 6) : WF sc d y pc L ((2, -1) :: (0, i) :: (2, z) :: S) sh sl h Q ↔ (0 ≤ w32 i ∧ w32 i < n) ∧ WF sc d y (pc + 1) L S sh sl (setH h z.toNat (w32 i).toNat (-1)) Q := by
  have key : pst (ocOf y) (iniOf y) sc pc L ((2, -1) :: (0, i) :: (2, z) :: S) (sh, sl, h) .aastore = if (k = 5 ∨ k = 6) ∧ 0 ≤ w32 i ∧ w32 i < n then some (pc + 1, L, S, sh, sl, setH h z.toNat (w32 i).toNat (-1)) else none := by
    show (arrAt (sh, sl, h) z).bind _ = _; rw [shAt_eq, hz]; rfl
  exact WF_if hi rfl rfl rfl (fun hP => by rw [key]; exact if_pos ⟨hq, hP.1, hP.2⟩) (fun hP => by rw [key]; exact if_neg (fun q => hP ⟨q.2.1, q.2.2⟩))
theorem w_slen (hi : insAt y pc = some (.arraylength, 1)) (ho : ocOf y = 13) : WF sc d y pc L ((2, -2) :: S) sh sl h Q ↔ WF sc d y (pc + 1) L ((0, (sc.1 : Int)) :: S) sh sl h Q := WF_one hi rfl rfl rfl (if_pos ⟨ho, rfl⟩)
theorem w_sld {i : Int} (hi : insAt y pc = some (.iaload, 1)) (ho : ocOf y = 13) : WF sc d y pc L ((0, i) :: (2, -2) :: S) sh sl h Q ↔ (0 ≤ w32 i ∧ w32 i < sc.1) ∧ WF sc d y (pc + 1) L ((0, sc.2 (w32 i).toNat) :: S) sh sl h Q := WF_if hi rfl rfl rfl (fun hP => (if_pos ⟨ho, rfl⟩).trans (if_pos hP)) (fun hP => (if_pos ⟨ho, rfl⟩).trans (if_neg hP))
theorem w_alen {z : Int} {k n : Nat} (hi : insAt y pc = some (.arraylength, 1)) (ho : ocOf y ≠ 13) (hz : shAt sh z = some (k + 1, n)) : WF sc d y pc L ((2, z) :: S) sh sl h Q ↔ WF sc d y (pc + 1) L ((0, (n : Int)) :: S) sh sl h Q := by
  exact WF_one hi rfl rfl rfl (by show (if ocOf y = 13 ∧ z = -2 then _ else _) = _; rw [if_neg (fun q => ho q.1)]; show (arrAt (sh, sl, h) z).bind _ = _; rw [shAt_eq, hz]; rfl)
theorem w_newarray {t : ArrayType} {k : Nat} {n : Int} (hi : insAt y pc = some (.newarray t, 2)) (hk : akind t = some k) : WF sc d y pc L ((0, n) :: S) sh sl h Q ↔ (0 ≤ w32 n ∧ w32 n ≤ 20000) ∧ WF sc d y (pc + 2) L ((2, (sh.length : Int)) :: S) (sh ++ [(k, (w32 n).toNat)]) (sl + (w32 n).toNat) (rowH h sh.length (fun _ => 0)) Q := WF_if hi rfl rfl rfl (fun hP => by show (akind t).bind _ = _; rw [hk]; exact if_pos hP) (fun hP => by show (akind t).bind _ = _; rw [hk]; exact if_neg hP)
theorem w_anewarray {i ci k : Nat} {n : Int} (hi : insAt y pc = some (.anewarray i, 3)) (hl : nlook (ocOf y) i = some ci) (hk : qkind ci = some k) : WF sc d y pc L ((0, n) :: S) sh sl h Q ↔ (0 ≤ w32 n ∧ w32 n ≤ 20000) ∧ WF sc d y (pc + 3) L ((2, (sh.length : Int)) :: S) (sh ++ [(k, (w32 n).toNat)]) (sl + (w32 n).toNat) (rowH h sh.length (fun _ => -1)) Q := WF_if hi rfl rfl rfl (fun hP => by show (nlook (ocOf y) i).bind _ = _; rw [hl]; show (qkind ci).bind _ = _; rw [hk]; exact if_pos hP) (fun hP => by show (nlook (ocOf y) i).bind _ = _; rw [hl]; show (qkind ci).bind _ = _; rw [hk]; exact if_neg hP)
theorem w_new {i ci : Nat} (hi : insAt y pc = some (.new i, 3)) (hl : nlook (ocOf y) i = some ci) (hc : ci < 13) : WF sc d y pc L S sh sl h Q ↔ WF sc d y (pc + 3) L ((2, (sh.length : Int)) :: S) (sh ++ [(0, ci)]) (sl + fnum ci) (rowH h sh.length (fun k => if ftag ci k = 2 then -1 else 0)) Q := WF_one hi rfl rfl rfl (by show (nlook (ocOf y) i).bind _ = _; rw [hl]; exact if_pos hc)
theorem w_ireturn {x : Int} (hi : insAt y pc = some (.ireturn, 1)) (hr : retOf y = some .int) : WF sc d y pc L [(0, x)] sh sl h Q ↔ Q (0, x) sh sl h := WF_ret hi rfl rfl (by rw [hr]; rfl)
theorem w_zreturn {x : Int} (hi : insAt y pc = some (.ireturn, 1)) (hr : retOf y = some .boolean) (hx : x = 0 ∨ x = 1) : WF sc d y pc L [(0, x)] sh sl h Q ↔ Q (0, x) sh sl h := WF_ret hi rfl rfl (by rw [hr]; exact if_pos hx)
theorem w_lreturn {x : Int} (hi : insAt y pc = some (.lreturn, 1)) (hr : retOf y = some .long) : WF sc d y pc L [(1, x)] sh sl h Q ↔ Q (1, x) sh sl h := WF_ret hi rfl rfl (by rw [hr]; rfl)
theorem w_areturn {x : Int} {C : String} (hi : insAt y pc = some (.areturn, 1)) (hr : retOf y = some (.object C)) : WF sc d y pc L [(2, x)] sh sl h Q ↔ Q (2, x) sh sl h := WF_ret hi rfl rfl (by rw [hr]; rfl)
theorem w_return (hi : insAt y pc = some (.return_, 1)) (hr : retOf y = none) : WF sc d y pc L [] sh sl h Q ↔ Q (9, 0) sh sl h := WF_ret hi rfl rfl (by rw [hr]; rfl)


/-! calls, by the kinds -/
theorem w_callV {i cy ci : Nat} {z : Int} {A : List V} (hi : insAt y pc = some (.invokevirtual i, 3)) (hm : mlook (ocOf y) i = some (0, cy)) (hn : npOf cy = A.length) (hf : (flatV ((2, z) :: A)).length ≤ maxLOf cy) (hcy : cy < MT.length) (ho : ocOf cy = ci) :
    WF sc (d + 1) y pc L (A.reverse ++ (2, z) :: S) sh sl h Q ↔ (shAt sh z = some (0, ci) ∧ wgt S ≤ 8) ∧ WM sc d cy ((2, z) :: A) sh sl h (fun r sh1 sl1 h1 => WF sc (d + 1) y (pc + 3) L (pushR r S) sh1 sl1 h1 Q) := by
  have hna : nargs 0 cy = (A.reverse ++ [(2, z)]).length := by unfold nargs; rw [hn]; simp
  have e : A.reverse ++ (2, z) :: S = (A.reverse ++ [(2, z)]) ++ S := by simp
  rw [WF_call hi rfl rfl hm (Nat.zero_le _), e, hna, List.take_left, List.drop_left]
  rw [show (A.reverse ++ [((2, z) : V)]).reverse = (2, z) :: A by simp]
  refine and_congr_left (fun _ => ?_)
  unfold callOK
  rw [hna, List.take_left, List.drop_left, show (A.reverse ++ [((2, z) : V)]).reverse = (2, z) :: A by simp]
  simp only [Bool.and_eq_true, decide_eq_true_eq, recOK, ho, shAt_eq]
  constructor
  · rintro ⟨⟨⟨⟨⟨-, -⟩, h1⟩, h2⟩, -⟩, -⟩; exact ⟨h1, h2⟩
  · rintro ⟨h1, h2⟩; exact ⟨⟨⟨⟨⟨trivial, by simp⟩, h1⟩, h2⟩, hf⟩, hcy⟩
theorem w_callI {i cy : Nat} {z : Int} {A : List V} (hi : insAt y pc = some (.invokespecial i, 3)) (hm : mlook (ocOf y) i = some (1, cy)) (hn : npOf cy = A.length) (hf : (flatV ((2, z) :: A)).length ≤ maxLOf cy) (hcy : cy < MT.length) :
    WF sc (d + 1) y pc L (A.reverse ++ (2, z) :: S) sh sl h Q ↔ (0 ≤ z ∧ wgt S ≤ 8) ∧ WM sc d cy ((2, z) :: A) sh sl h (fun r sh1 sl1 h1 => WF sc (d + 1) y (pc + 3) L (pushR r S) sh1 sl1 h1 Q) := by
  have hna : nargs 1 cy = (A.reverse ++ [(2, z)]).length := by unfold nargs; rw [hn]; simp
  have e : A.reverse ++ (2, z) :: S = (A.reverse ++ [(2, z)]) ++ S := by simp
  rw [WF_call hi rfl rfl hm (by decide), e, hna, List.take_left, List.drop_left]
  rw [show (A.reverse ++ [((2, z) : V)]).reverse = (2, z) :: A by simp]
  refine and_congr_left (fun _ => ?_)
  unfold callOK
  rw [hna, List.take_left, List.drop_left, show (A.reverse ++ [((2, z) : V)]).reverse = (2, z) :: A by simp]
  simp only [Bool.and_eq_true, decide_eq_true_eq, recOK]
  constructor
  · rintro ⟨⟨⟨⟨⟨-, -⟩, h1⟩, h2⟩, -⟩, -⟩; exact ⟨h1, h2⟩
  · rintro ⟨h1, h2⟩; exact ⟨⟨⟨⟨⟨trivial, by simp⟩, h1⟩, h2⟩, hf⟩, hcy⟩
theorem w_callS {i cy : Nat} {A : List V} (hi : insAt y pc = some (.invokestatic i, 3)) (hm : mlook (ocOf y) i = some (2, cy)) (hn : npOf cy = A.length) (hf : (flatV A).length ≤ maxLOf cy) (hcy : cy < MT.length) :
    WF sc (d + 1) y pc L (A.reverse ++ S) sh sl h Q ↔ wgt S ≤ 8 ∧ WM sc d cy A sh sl h (fun r sh1 sl1 h1 => WF sc (d + 1) y (pc + 3) L (pushR r S) sh1 sl1 h1 Q) := by
  have hna : nargs 2 cy = A.reverse.length := by unfold nargs; rw [hn]; simp
  rw [WF_call hi rfl rfl hm (by decide), hna, List.take_left, List.drop_left, List.reverse_reverse]
  refine and_congr_left (fun _ => ?_)
  unfold callOK
  rw [hna, List.take_left, List.drop_left, List.reverse_reverse]
  simp only [Bool.and_eq_true, decide_eq_true_eq, recOK]
  constructor
  · rintro ⟨⟨⟨⟨⟨-, -⟩, h1⟩, h2⟩, -⟩, -⟩; exact h2
  · intro h2; exact ⟨⟨⟨⟨⟨trivial, by simp⟩, trivial⟩, h2⟩, hf⟩, hcy⟩
theorem WF_prim1 {ins : Instr} {k o i cy : Nat} (hi : insAt y pc = some (ins, 3)) (hk : okLen ins 3 = true) (hc : cidx ins = some (o, i)) (hm : mlook (ocOf y) i = some (k, cy)) (hk2 : ¬ k ≤ 2) (h5 : ¬ (5 ≤ k ∧ k ≤ 6 ∧ d < 9)) {P : Prop} {S' : List V} {h' : Sto} (hp : P → prim k o S (sh, sl, h) = some (S', sh, sl, h')) (hn : ¬ P → prim k o S (sh, sl, h) = none) :
    WF sc (d + 1) y pc L S sh sl h Q ↔ P ∧ WF sc (d + 1) y (pc + 3) L S' sh sl h' Q := by
  rw [WF_prim hi hk hc hm hk2 h5]
  constructor
  · rintro ⟨q, hq, hw⟩
    by_cases hP : P
    · rw [hp hP] at hq; cases hq; exact ⟨hP, hw⟩
    · rw [hn hP] at hq; cases hq
  · rintro ⟨hP, hw⟩; exact ⟨_, hp hP, hw⟩
theorem w_objInit {i cy : Nat} {z : Int} (hi : insAt y pc = some (.invokespecial i, 3)) (hm : mlook (ocOf y) i = some (3, cy)) : WF sc (d + 1) y pc L ((2, z) :: S) sh sl h Q ↔ (0 ≤ z ∧ wgt S ≤ 8) ∧ WF sc (d + 1) y (pc + 3) L S sh sl h Q :=
  WF_prim1 hi rfl rfl hm (by decide) (by omega) (fun hP => if_pos hP) (fun hP => if_neg hP)
theorem w_mmax {i cy : Nat} {a b : Int} (hi : insAt y pc = some (.invokestatic i, 3)) (hm : mlook (ocOf y) i = some (7, cy)) : WF sc (d + 1) y pc L ((0, b) :: (0, a) :: S) sh sl h Q ↔ wgt S ≤ 8 ∧ WF sc (d + 1) y (pc + 3) L ((0, if w32 a < w32 b then b else a) :: S) sh sl h Q :=
  WF_prim1 hi rfl rfl hm (by decide) (by omega) (fun hP => if_pos hP) (fun hP => if_neg hP)
theorem w_mmin {i cy : Nat} {a b : Int} (hi : insAt y pc = some (.invokestatic i, 3)) (hm : mlook (ocOf y) i = some (8, cy)) : WF sc (d + 1) y pc L ((0, b) :: (0, a) :: S) sh sl h Q ↔ wgt S ≤ 8 ∧ WF sc (d + 1) y (pc + 3) L ((0, if w32 b < w32 a then b else a) :: S) sh sl h Q :=
  WF_prim1 hi rfl rfl hm (by decide) (by omega) (fun hP => if_pos hP) (fun hP => if_neg hP)
theorem w_mmaxL {i cy : Nat} {a b : Int} (hi : insAt y pc = some (.invokestatic i, 3)) (hm : mlook (ocOf y) i = some (9, cy)) : WF sc (d + 1) y pc L ((1, b) :: (1, a) :: S) sh sl h Q ↔ wgt S ≤ 8 ∧ WF sc (d + 1) y (pc + 3) L ((1, if w64 b < w64 a then a else b) :: S) sh sl h Q :=
  WF_prim1 hi rfl rfl hm (by decide) (by omega) (fun hP => if_pos hP) (fun hP => if_neg hP)
theorem w_mminL {i cy : Nat} {a b : Int} (hi : insAt y pc = some (.invokestatic i, 3)) (hm : mlook (ocOf y) i = some (10, cy)) : WF sc (d + 1) y pc L ((1, b) :: (1, a) :: S) sh sl h Q ↔ wgt S ≤ 8 ∧ WF sc (d + 1) y (pc + 3) L ((1, if w64 b < w64 a then b else a) :: S) sh sl h Q :=
  WF_prim1 hi rfl rfl hm (by decide) (by omega) (fun hP => if_pos hP) (fun hP => if_neg hP)
theorem w_strlen {i cy : Nat} {z : Int} {t : List Int} (hi : insAt y pc = some (.invokevirtual i, 3)) (hm : mlook (ocOf y) i = some (5, cy)) (ht : txAt z = some t) : WF sc (d + 10) y pc L ((2, z) :: S) sh sl h Q ↔ wgt S ≤ 8 ∧ WF sc (d + 10) y (pc + 3) L ((0, (t.length : Int)) :: S) sh sl h Q :=
  WF_prim1 (d := d + 9) hi rfl rfl hm (by decide) (by omega) (fun hP => by show (txAt z).bind _ = _; rw [ht]; exact if_pos hP) (fun hP => by show (txAt z).bind _ = _; rw [ht]; exact if_neg hP)
theorem w_strat {i cy : Nat} {z j : Int} {t : List Int} (hi : insAt y pc = some (.invokevirtual i, 3)) (hm : mlook (ocOf y) i = some (6, cy)) (ht : txAt z = some t) : WF sc (d + 10) y pc L ((0, j) :: (2, z) :: S) sh sl h Q ↔ (0 ≤ w32 j ∧ w32 j < t.length ∧ wgt S ≤ 8) ∧ WF sc (d + 10) y (pc + 3) L ((0, t.getD (w32 j).toNat 0) :: S) sh sl h Q :=
  WF_prim1 (d := d + 9) hi rfl rfl hm (by decide) (by omega) (fun hP => by show (txAt z).bind _ = _; rw [ht]; exact if_pos hP) (fun hP => by show (txAt z).bind _ = _; rw [ht]; exact if_neg hP)
theorem w_copy {i cy nd ns : Nat} {dst src n dp sp : Int} (hi : insAt y pc = some (.invokestatic i, 3)) (hm : mlook (ocOf y) i = some (4, cy)) (h1 : shAt sh dst = some (1, nd)) (h2 : shAt sh src = some (1, ns)) :
    WF sc (d + 1) y pc L ((0, n) :: (0, dp) :: (2, dst) :: (0, sp) :: (2, src) :: S) sh sl h Q ↔ ((0 ≤ w32 sp ∧ 0 ≤ w32 dp ∧ 0 ≤ w32 n) ∧ w32 sp + w32 n ≤ ns ∧ w32 dp + w32 n ≤ nd ∧ wgt S ≤ 8) ∧ WF sc (d + 1) y (pc + 3) L S sh sl (rowH h dst.toNat (va_cpy (h src.toNat) (h dst.toNat) (w32 sp).toNat (w32 dp).toNat (w32 n).toNat)) Q :=
  WF_prim1 hi rfl rfl hm (by decide) (by omega) (fun hP => by show (arrAt (sh, sl, h) dst).bind _ = _; rw [shAt_eq, h1]; show (arrAt (sh, sl, h) src).bind _ = _; rw [shAt_eq, h2]; exact if_pos ⟨⟨rfl, rfl⟩, hP⟩) (fun hP => by show (arrAt (sh, sl, h) dst).bind _ = _; rw [shAt_eq, h1]; show (arrAt (sh, sl, h) src).bind _ = _; rw [shAt_eq, h2]; exact if_neg (fun q => hP q.2))
/-! evaluation helpers -/
def nl (v : V) : V := if v.1 = 1 then (9, 0) else v
theorem nl0 (x : Int) : nl (0, x) = (0, x) := rfl
theorem nl1 (x : Int) : nl (1, x) = (9, 0) := rfl
theorem nl2 (x : Int) : nl (2, x) = (2, x) := rfl
theorem nl9 (x : Int) : nl (9, x) = (9, x) := rfl
theorem pushR0 (x : Int) (S : List V) : pushR (0, x) S = (0, x) :: S := rfl
theorem pushR1 (x : Int) (S : List V) : pushR (1, x) S = (1, x) :: S := rfl
theorem pushR2 (x : Int) (S : List V) : pushR (2, x) S = (2, x) :: S := rfl
theorem pushR9 (x : Int) (S : List V) : pushR (9, x) S = S := rfl
theorem wgt_nil : wgt [] = 0 := rfl
theorem wgt_0 (x : Int) (S : List V) : wgt ((0, x) :: S) = 1 + wgt S := by simp [wgt]
theorem wgt_1 (x : Int) (S : List V) : wgt ((1, x) :: S) = 2 + wgt S := by simp [wgt]
theorem wgt_2 (x : Int) (S : List V) : wgt ((2, x) :: S) = 1 + wgt S := by simp [wgt]
theorem st1_0 (l0 v : V) (l : List V) : st1 (l0 :: l) 0 v = v :: l := by rfl
theorem st2_0 (l0 l1 v : V) (l : List V) : st2 (l0 :: l1 :: l) 0 v = v :: (9, 0) :: l := by unfold st2; rw [st1_0]; rfl
theorem st1_1 (l0 l1 v : V) (l : List V) : st1 (l0 :: l1 :: l) 1 v = nl l0 :: v :: l := by unfold nl; show (List.set (if l0.1 = 1 then _ else _) _ _) = _; split <;> rfl
theorem st2_1 (l0 l1 l2 v : V) (l : List V) : st2 (l0 :: l1 :: l2 :: l) 1 v = nl l0 :: v :: (9, 0) :: l := by unfold st2; rw [st1_1]; rfl
theorem st1_2 (l0 l1 l2 v : V) (l : List V) : st1 (l0 :: l1 :: l2 :: l) 2 v = l0 :: nl l1 :: v :: l := by unfold nl; show (List.set (if l1.1 = 1 then _ else _) _ _) = _; split <;> rfl
theorem st2_2 (l0 l1 l2 l3 v : V) (l : List V) : st2 (l0 :: l1 :: l2 :: l3 :: l) 2 v = l0 :: nl l1 :: v :: (9, 0) :: l := by unfold st2; rw [st1_2]; rfl
theorem st1_3 (l0 l1 l2 l3 v : V) (l : List V) : st1 (l0 :: l1 :: l2 :: l3 :: l) 3 v = l0 :: l1 :: nl l2 :: v :: l := by unfold nl; show (List.set (if l2.1 = 1 then _ else _) _ _) = _; split <;> rfl
theorem st2_3 (l0 l1 l2 l3 l4 v : V) (l : List V) : st2 (l0 :: l1 :: l2 :: l3 :: l4 :: l) 3 v = l0 :: l1 :: nl l2 :: v :: (9, 0) :: l := by unfold st2; rw [st1_3]; rfl
theorem st1_4 (l0 l1 l2 l3 l4 v : V) (l : List V) : st1 (l0 :: l1 :: l2 :: l3 :: l4 :: l) 4 v = l0 :: l1 :: l2 :: nl l3 :: v :: l := by unfold nl; show (List.set (if l3.1 = 1 then _ else _) _ _) = _; split <;> rfl
theorem st2_4 (l0 l1 l2 l3 l4 l5 v : V) (l : List V) : st2 (l0 :: l1 :: l2 :: l3 :: l4 :: l5 :: l) 4 v = l0 :: l1 :: l2 :: nl l3 :: v :: (9, 0) :: l := by unfold st2; rw [st1_4]; rfl
theorem st1_5 (l0 l1 l2 l3 l4 l5 v : V) (l : List V) : st1 (l0 :: l1 :: l2 :: l3 :: l4 :: l5 :: l) 5 v = l0 :: l1 :: l2 :: l3 :: nl l4 :: v :: l := by unfold nl; show (List.set (if l4.1 = 1 then _ else _) _ _) = _; split <;> rfl
theorem st2_5 (l0 l1 l2 l3 l4 l5 l6 v : V) (l : List V) : st2 (l0 :: l1 :: l2 :: l3 :: l4 :: l5 :: l6 :: l) 5 v = l0 :: l1 :: l2 :: l3 :: nl l4 :: v :: (9, 0) :: l := by unfold st2; rw [st1_5]; rfl
theorem st1_6 (l0 l1 l2 l3 l4 l5 l6 v : V) (l : List V) : st1 (l0 :: l1 :: l2 :: l3 :: l4 :: l5 :: l6 :: l) 6 v = l0 :: l1 :: l2 :: l3 :: l4 :: nl l5 :: v :: l := by unfold nl; show (List.set (if l5.1 = 1 then _ else _) _ _) = _; split <;> rfl
theorem st2_6 (l0 l1 l2 l3 l4 l5 l6 l7 v : V) (l : List V) : st2 (l0 :: l1 :: l2 :: l3 :: l4 :: l5 :: l6 :: l7 :: l) 6 v = l0 :: l1 :: l2 :: l3 :: l4 :: nl l5 :: v :: (9, 0) :: l := by unfold st2; rw [st1_6]; rfl
theorem st1_7 (l0 l1 l2 l3 l4 l5 l6 l7 v : V) (l : List V) : st1 (l0 :: l1 :: l2 :: l3 :: l4 :: l5 :: l6 :: l7 :: l) 7 v = l0 :: l1 :: l2 :: l3 :: l4 :: l5 :: nl l6 :: v :: l := by unfold nl; show (List.set (if l6.1 = 1 then _ else _) _ _) = _; split <;> rfl
theorem st2_7 (l0 l1 l2 l3 l4 l5 l6 l7 l8 v : V) (l : List V) : st2 (l0 :: l1 :: l2 :: l3 :: l4 :: l5 :: l6 :: l7 :: l8 :: l) 7 v = l0 :: l1 :: l2 :: l3 :: l4 :: l5 :: nl l6 :: v :: (9, 0) :: l := by unfold st2; rw [st1_7]; rfl
theorem st1_8 (l0 l1 l2 l3 l4 l5 l6 l7 l8 v : V) (l : List V) : st1 (l0 :: l1 :: l2 :: l3 :: l4 :: l5 :: l6 :: l7 :: l8 :: l) 8 v = l0 :: l1 :: l2 :: l3 :: l4 :: l5 :: l6 :: nl l7 :: v :: l := by unfold nl; show (List.set (if l7.1 = 1 then _ else _) _ _) = _; split <;> rfl
theorem st2_8 (l0 l1 l2 l3 l4 l5 l6 l7 l8 l9 v : V) (l : List V) : st2 (l0 :: l1 :: l2 :: l3 :: l4 :: l5 :: l6 :: l7 :: l8 :: l9 :: l) 8 v = l0 :: l1 :: l2 :: l3 :: l4 :: l5 :: l6 :: nl l7 :: v :: (9, 0) :: l := by unfold st2; rw [st1_8]; rfl
theorem st1_9 (l0 l1 l2 l3 l4 l5 l6 l7 l8 l9 v : V) (l : List V) : st1 (l0 :: l1 :: l2 :: l3 :: l4 :: l5 :: l6 :: l7 :: l8 :: l9 :: l) 9 v = l0 :: l1 :: l2 :: l3 :: l4 :: l5 :: l6 :: l7 :: nl l8 :: v :: l := by unfold nl; show (List.set (if l8.1 = 1 then _ else _) _ _) = _; split <;> rfl
theorem st2_9 (l0 l1 l2 l3 l4 l5 l6 l7 l8 l9 l10 v : V) (l : List V) : st2 (l0 :: l1 :: l2 :: l3 :: l4 :: l5 :: l6 :: l7 :: l8 :: l9 :: l10 :: l) 9 v = l0 :: l1 :: l2 :: l3 :: l4 :: l5 :: l6 :: l7 :: nl l8 :: v :: (9, 0) :: l := by unfold st2; rw [st1_9]; rfl
theorem st1_10 (l0 l1 l2 l3 l4 l5 l6 l7 l8 l9 l10 v : V) (l : List V) : st1 (l0 :: l1 :: l2 :: l3 :: l4 :: l5 :: l6 :: l7 :: l8 :: l9 :: l10 :: l) 10 v = l0 :: l1 :: l2 :: l3 :: l4 :: l5 :: l6 :: l7 :: l8 :: nl l9 :: v :: l := by unfold nl; show (List.set (if l9.1 = 1 then _ else _) _ _) = _; split <;> rfl
theorem st2_10 (l0 l1 l2 l3 l4 l5 l6 l7 l8 l9 l10 l11 v : V) (l : List V) : st2 (l0 :: l1 :: l2 :: l3 :: l4 :: l5 :: l6 :: l7 :: l8 :: l9 :: l10 :: l11 :: l) 10 v = l0 :: l1 :: l2 :: l3 :: l4 :: l5 :: l6 :: l7 :: l8 :: nl l9 :: v :: (9, 0) :: l := by unfold st2; rw [st1_10]; rfl
theorem st1_11 (l0 l1 l2 l3 l4 l5 l6 l7 l8 l9 l10 l11 v : V) (l : List V) : st1 (l0 :: l1 :: l2 :: l3 :: l4 :: l5 :: l6 :: l7 :: l8 :: l9 :: l10 :: l11 :: l) 11 v = l0 :: l1 :: l2 :: l3 :: l4 :: l5 :: l6 :: l7 :: l8 :: l9 :: nl l10 :: v :: l := by unfold nl; show (List.set (if l10.1 = 1 then _ else _) _ _) = _; split <;> rfl
theorem st2_11 (l0 l1 l2 l3 l4 l5 l6 l7 l8 l9 l10 l11 l12 v : V) (l : List V) : st2 (l0 :: l1 :: l2 :: l3 :: l4 :: l5 :: l6 :: l7 :: l8 :: l9 :: l10 :: l11 :: l12 :: l) 11 v = l0 :: l1 :: l2 :: l3 :: l4 :: l5 :: l6 :: l7 :: l8 :: l9 :: nl l10 :: v :: (9, 0) :: l := by unfold st2; rw [st1_11]; rfl
theorem st1_12 (l0 l1 l2 l3 l4 l5 l6 l7 l8 l9 l10 l11 l12 v : V) (l : List V) : st1 (l0 :: l1 :: l2 :: l3 :: l4 :: l5 :: l6 :: l7 :: l8 :: l9 :: l10 :: l11 :: l12 :: l) 12 v = l0 :: l1 :: l2 :: l3 :: l4 :: l5 :: l6 :: l7 :: l8 :: l9 :: l10 :: nl l11 :: v :: l := by unfold nl; show (List.set (if l11.1 = 1 then _ else _) _ _) = _; split <;> rfl
theorem st2_12 (l0 l1 l2 l3 l4 l5 l6 l7 l8 l9 l10 l11 l12 l13 v : V) (l : List V) : st2 (l0 :: l1 :: l2 :: l3 :: l4 :: l5 :: l6 :: l7 :: l8 :: l9 :: l10 :: l11 :: l12 :: l13 :: l) 12 v = l0 :: l1 :: l2 :: l3 :: l4 :: l5 :: l6 :: l7 :: l8 :: l9 :: l10 :: nl l11 :: v :: (9, 0) :: l := by unfold st2; rw [st1_12]; rfl
theorem st1_13 (l0 l1 l2 l3 l4 l5 l6 l7 l8 l9 l10 l11 l12 l13 v : V) (l : List V) : st1 (l0 :: l1 :: l2 :: l3 :: l4 :: l5 :: l6 :: l7 :: l8 :: l9 :: l10 :: l11 :: l12 :: l13 :: l) 13 v = l0 :: l1 :: l2 :: l3 :: l4 :: l5 :: l6 :: l7 :: l8 :: l9 :: l10 :: l11 :: nl l12 :: v :: l := by unfold nl; show (List.set (if l12.1 = 1 then _ else _) _ _) = _; split <;> rfl
theorem st2_13 (l0 l1 l2 l3 l4 l5 l6 l7 l8 l9 l10 l11 l12 l13 l14 v : V) (l : List V) : st2 (l0 :: l1 :: l2 :: l3 :: l4 :: l5 :: l6 :: l7 :: l8 :: l9 :: l10 :: l11 :: l12 :: l13 :: l14 :: l) 13 v = l0 :: l1 :: l2 :: l3 :: l4 :: l5 :: l6 :: l7 :: l8 :: l9 :: l10 :: l11 :: nl l12 :: v :: (9, 0) :: l := by unfold st2; rw [st1_13]; rfl
theorem st1_14 (l0 l1 l2 l3 l4 l5 l6 l7 l8 l9 l10 l11 l12 l13 l14 v : V) (l : List V) : st1 (l0 :: l1 :: l2 :: l3 :: l4 :: l5 :: l6 :: l7 :: l8 :: l9 :: l10 :: l11 :: l12 :: l13 :: l14 :: l) 14 v = l0 :: l1 :: l2 :: l3 :: l4 :: l5 :: l6 :: l7 :: l8 :: l9 :: l10 :: l11 :: l12 :: nl l13 :: v :: l := by unfold nl; show (List.set (if l13.1 = 1 then _ else _) _ _) = _; split <;> rfl
theorem st2_14 (l0 l1 l2 l3 l4 l5 l6 l7 l8 l9 l10 l11 l12 l13 l14 l15 v : V) (l : List V) : st2 (l0 :: l1 :: l2 :: l3 :: l4 :: l5 :: l6 :: l7 :: l8 :: l9 :: l10 :: l11 :: l12 :: l13 :: l14 :: l15 :: l) 14 v = l0 :: l1 :: l2 :: l3 :: l4 :: l5 :: l6 :: l7 :: l8 :: l9 :: l10 :: l11 :: l12 :: nl l13 :: v :: (9, 0) :: l := by unfold st2; rw [st1_14]; rfl
theorem st1_15 (l0 l1 l2 l3 l4 l5 l6 l7 l8 l9 l10 l11 l12 l13 l14 l15 v : V) (l : List V) : st1 (l0 :: l1 :: l2 :: l3 :: l4 :: l5 :: l6 :: l7 :: l8 :: l9 :: l10 :: l11 :: l12 :: l13 :: l14 :: l15 :: l) 15 v = l0 :: l1 :: l2 :: l3 :: l4 :: l5 :: l6 :: l7 :: l8 :: l9 :: l10 :: l11 :: l12 :: l13 :: nl l14 :: v :: l := by unfold nl; show (List.set (if l14.1 = 1 then _ else _) _ _) = _; split <;> rfl
theorem st2_15 (l0 l1 l2 l3 l4 l5 l6 l7 l8 l9 l10 l11 l12 l13 l14 l15 l16 v : V) (l : List V) : st2 (l0 :: l1 :: l2 :: l3 :: l4 :: l5 :: l6 :: l7 :: l8 :: l9 :: l10 :: l11 :: l12 :: l13 :: l14 :: l15 :: l16 :: l) 15 v = l0 :: l1 :: l2 :: l3 :: l4 :: l5 :: l6 :: l7 :: l8 :: l9 :: l10 :: l11 :: l12 :: l13 :: nl l14 :: v :: (9, 0) :: l := by unfold st2; rw [st1_15]; rfl
theorem insAt_of {y pc : Nat} {q : ME} {r : Instr × Nat} (h : MTL[y]? = some q) (hd : decode q.2.1 pc = .ok r) : insAt y pc = some r := by unfold insAt; rw [h]; dsimp only; rw [hd]
theorem tab_at {b : ByteArray} {T : List (Nat × Instr × Nat)} (h : T.all (fun q => decide (decode b q.1 = .ok q.2)) = true) {k pc len : Nat} {ins : Instr} (hk : T[k]? = some (pc, ins, len)) : decode b pc = .ok (ins, len) := by
  rw [List.all_eq_true] at h
  have h1 := h _ (List.mem_of_getElem? hk)
  rw [decide_eq_true_iff] at h1
  exact h1

end WP
