/-! ===== shapes only grow at their end ===== -/
def preS (σ σ' : St) : Prop := ∃ dy, σ'.1 = σ.1 ++ dy
theorem pr_refl (σ : St) : preS σ σ := ⟨[], by simp⟩
theorem pr_set (σ : St) (h : Nat → Nat → Int) : preS σ (σ.1, σ.2.1, h) := ⟨[], by simp⟩
theorem pr_push (σ : St) (sh : Nat × Nat) (n : Nat) (f : Nat → Int) : preS σ (push1 σ sh n f) := ⟨[sh], by simp [push1]⟩
theorem preS.trans {σ σ1 σ2 : St} (h1 : preS σ σ1) (h2 : preS σ1 σ2) : preS σ σ2 := by
  obtain ⟨a, ha⟩ := h1
  obtain ⟨b, hb⟩ := h2
  exact ⟨a ++ b, by rw [hb, ha, List.append_assoc]⟩
set_option maxHeartbeats 1000000 in
theorem pst_pre {oc : Nat} {ini : Bool} {sc : Nat × (Nat → Int)} {pc : Nat} {L S : List V} {σ : St} {ins : Instr} {q : Nx} (h : pst oc ini sc pc L S σ ins = some q) : preS σ q.2.2.2 := by
  cases ins
  all_goals try (cases h; done)
  case aconst_null =>
    cases h; exact pr_refl _
  case iconst i =>
    cases h; exact pr_refl _
  case lconst n =>
    cases h; exact pr_refl _
  case bipush n =>
    replace h : (if _ then _ else none) = _ := h
    split at h
    · cases h; exact pr_refl _
    · cases h
  case sipush n =>
    replace h : (if _ then _ else none) = _ := h
    split at h
    · cases h; exact pr_refl _
    · cases h
  case ldc i =>
    obtain ⟨_, -, h⟩ := Option.bind_eq_some_iff.mp h
    split at h
    · cases h; exact pr_refl _
    · split at h
      · cases h; exact pr_refl _
      · cases h
  case ldc_w i =>
    obtain ⟨_, -, h⟩ := Option.bind_eq_some_iff.mp h
    try dsimp only at h
    split at h
    · first | (cases h; done) | (cases h; exact pr_refl _)
    · first | (cases h; done) | (cases h; exact pr_refl _)
  case ldc2_w i =>
    obtain ⟨_, -, h⟩ := Option.bind_eq_some_iff.mp h
    try dsimp only at h
    split at h
    · first | (cases h; done) | (cases h; exact pr_refl _)
    · first | (cases h; done) | (cases h; exact pr_refl _)
  case iload i =>
    obtain ⟨_, -, h⟩ := Option.bind_eq_some_iff.mp h
    cases h; exact pr_refl _
  case iload_n i =>
    obtain ⟨_, -, h⟩ := Option.bind_eq_some_iff.mp h
    cases h; exact pr_refl _
  case lload i =>
    obtain ⟨_, -, h⟩ := Option.bind_eq_some_iff.mp h
    cases h; exact pr_refl _
  case lload_n i =>
    obtain ⟨_, -, h⟩ := Option.bind_eq_some_iff.mp h
    cases h; exact pr_refl _
  case aload i =>
    obtain ⟨_, -, h⟩ := Option.bind_eq_some_iff.mp h
    cases h; exact pr_refl _
  case aload_n i =>
    obtain ⟨_, -, h⟩ := Option.bind_eq_some_iff.mp h
    cases h; exact pr_refl _
  case istore i =>
    obtain ⟨_, -, h⟩ := Option.bind_eq_some_iff.mp h
    try dsimp only at h
    split at h
    · first | (cases h; done) | (cases h; exact pr_refl _)
    · first | (cases h; done) | (cases h; exact pr_refl _)
  case istore_n i =>
    obtain ⟨_, -, h⟩ := Option.bind_eq_some_iff.mp h
    try dsimp only at h
    split at h
    · first | (cases h; done) | (cases h; exact pr_refl _)
    · first | (cases h; done) | (cases h; exact pr_refl _)
  case lstore i =>
    obtain ⟨_, -, h⟩ := Option.bind_eq_some_iff.mp h
    try dsimp only at h
    split at h
    · first | (cases h; done) | (cases h; exact pr_refl _)
    · first | (cases h; done) | (cases h; exact pr_refl _)
  case lstore_n i =>
    obtain ⟨_, -, h⟩ := Option.bind_eq_some_iff.mp h
    try dsimp only at h
    split at h
    · first | (cases h; done) | (cases h; exact pr_refl _)
    · first | (cases h; done) | (cases h; exact pr_refl _)
  case astore i =>
    obtain ⟨_, -, h⟩ := Option.bind_eq_some_iff.mp h
    try dsimp only at h
    split at h
    · first | (cases h; done) | (cases h; exact pr_refl _)
    · first | (cases h; done) | (cases h; exact pr_refl _)
  case astore_n i =>
    obtain ⟨_, -, h⟩ := Option.bind_eq_some_iff.mp h
    try dsimp only at h
    split at h
    · first | (cases h; done) | (cases h; exact pr_refl _)
    · first | (cases h; done) | (cases h; exact pr_refl _)
  case iinc i n =>
    obtain ⟨_, -, h⟩ := Option.bind_eq_some_iff.mp h
    cases h; exact pr_refl _
  case iadd =>
    obtain ⟨_, -, h⟩ := Option.bind_eq_some_iff.mp h
    obtain ⟨_, -, h⟩ := Option.bind_eq_some_iff.mp h
    cases h; exact pr_refl _
  case isub =>
    obtain ⟨_, -, h⟩ := Option.bind_eq_some_iff.mp h
    obtain ⟨_, -, h⟩ := Option.bind_eq_some_iff.mp h
    cases h; exact pr_refl _
  case imul =>
    obtain ⟨_, -, h⟩ := Option.bind_eq_some_iff.mp h
    obtain ⟨_, -, h⟩ := Option.bind_eq_some_iff.mp h
    cases h; exact pr_refl _
  case iand =>
    obtain ⟨_, -, h⟩ := Option.bind_eq_some_iff.mp h
    obtain ⟨_, -, h⟩ := Option.bind_eq_some_iff.mp h
    cases h; exact pr_refl _
  case ior =>
    obtain ⟨_, -, h⟩ := Option.bind_eq_some_iff.mp h
    obtain ⟨_, -, h⟩ := Option.bind_eq_some_iff.mp h
    cases h; exact pr_refl _
  case ixor =>
    obtain ⟨_, -, h⟩ := Option.bind_eq_some_iff.mp h
    obtain ⟨_, -, h⟩ := Option.bind_eq_some_iff.mp h
    cases h; exact pr_refl _
  case ishl =>
    obtain ⟨_, -, h⟩ := Option.bind_eq_some_iff.mp h
    obtain ⟨_, -, h⟩ := Option.bind_eq_some_iff.mp h
    cases h; exact pr_refl _
  case ishr =>
    obtain ⟨_, -, h⟩ := Option.bind_eq_some_iff.mp h
    obtain ⟨_, -, h⟩ := Option.bind_eq_some_iff.mp h
    cases h; exact pr_refl _
  case iushr =>
    obtain ⟨_, -, h⟩ := Option.bind_eq_some_iff.mp h
    obtain ⟨_, -, h⟩ := Option.bind_eq_some_iff.mp h
    cases h; exact pr_refl _
  case ladd =>
    obtain ⟨_, -, h⟩ := Option.bind_eq_some_iff.mp h
    obtain ⟨_, -, h⟩ := Option.bind_eq_some_iff.mp h
    cases h; exact pr_refl _
  case lsub =>
    obtain ⟨_, -, h⟩ := Option.bind_eq_some_iff.mp h
    obtain ⟨_, -, h⟩ := Option.bind_eq_some_iff.mp h
    cases h; exact pr_refl _
  case lmul =>
    obtain ⟨_, -, h⟩ := Option.bind_eq_some_iff.mp h
    obtain ⟨_, -, h⟩ := Option.bind_eq_some_iff.mp h
    cases h; exact pr_refl _
  case land =>
    obtain ⟨_, -, h⟩ := Option.bind_eq_some_iff.mp h
    obtain ⟨_, -, h⟩ := Option.bind_eq_some_iff.mp h
    cases h; exact pr_refl _
  case lor =>
    obtain ⟨_, -, h⟩ := Option.bind_eq_some_iff.mp h
    obtain ⟨_, -, h⟩ := Option.bind_eq_some_iff.mp h
    cases h; exact pr_refl _
  case lshl =>
    obtain ⟨_, -, h⟩ := Option.bind_eq_some_iff.mp h
    obtain ⟨_, -, h⟩ := Option.bind_eq_some_iff.mp h
    cases h; exact pr_refl _
  case lshr =>
    obtain ⟨_, -, h⟩ := Option.bind_eq_some_iff.mp h
    obtain ⟨_, -, h⟩ := Option.bind_eq_some_iff.mp h
    cases h; exact pr_refl _
  case lcmp =>
    obtain ⟨_, -, h⟩ := Option.bind_eq_some_iff.mp h
    obtain ⟨_, -, h⟩ := Option.bind_eq_some_iff.mp h
    cases h; exact pr_refl _
  case idiv =>
    obtain ⟨_, -, h⟩ := Option.bind_eq_some_iff.mp h
    obtain ⟨_, -, h⟩ := Option.bind_eq_some_iff.mp h
    try dsimp only at h
    split at h
    · first | (cases h; done) | (cases h; exact pr_refl _)
    · first | (cases h; done) | (cases h; exact pr_refl _)
  case irem =>
    obtain ⟨_, -, h⟩ := Option.bind_eq_some_iff.mp h
    obtain ⟨_, -, h⟩ := Option.bind_eq_some_iff.mp h
    try dsimp only at h
    split at h
    · first | (cases h; done) | (cases h; exact pr_refl _)
    · first | (cases h; done) | (cases h; exact pr_refl _)
  case ldiv =>
    obtain ⟨_, -, h⟩ := Option.bind_eq_some_iff.mp h
    obtain ⟨_, -, h⟩ := Option.bind_eq_some_iff.mp h
    try dsimp only at h
    split at h
    · first | (cases h; done) | (cases h; exact pr_refl _)
    · first | (cases h; done) | (cases h; exact pr_refl _)
  case lrem =>
    obtain ⟨_, -, h⟩ := Option.bind_eq_some_iff.mp h
    obtain ⟨_, -, h⟩ := Option.bind_eq_some_iff.mp h
    try dsimp only at h
    split at h
    · first | (cases h; done) | (cases h; exact pr_refl _)
    · first | (cases h; done) | (cases h; exact pr_refl _)
  case ineg =>
    obtain ⟨_, -, h⟩ := Option.bind_eq_some_iff.mp h
    cases h; exact pr_refl _
  case i2l =>
    obtain ⟨_, -, h⟩ := Option.bind_eq_some_iff.mp h
    cases h; exact pr_refl _
  case l2i =>
    obtain ⟨_, -, h⟩ := Option.bind_eq_some_iff.mp h
    cases h; exact pr_refl _
  case i2b =>
    obtain ⟨_, -, h⟩ := Option.bind_eq_some_iff.mp h
    cases h; exact pr_refl _
  case dup =>
    match S, h with
    | v :: S1, h =>
      replace h : (if v.1 = 1 ∨ v.1 = 9 then none else some _) = _ := h
      split at h
      · cases h
      · cases h; exact pr_refl _
  case pop =>
    match S, h with
    | v :: S1, h =>
      replace h : (if v.1 = 1 ∨ v.1 = 9 then none else some _) = _ := h
      split at h
      · cases h
      · cases h; exact pr_refl _
  case dup2 =>
    match S, h with
    | v :: u :: S1, h =>
      replace h : (if v.1 = 1 ∨ v.1 = 9 ∨ u.1 = 1 ∨ u.1 = 9 then none else some _) = _ := h
      split at h
      · cases h
      · cases h; exact pr_refl _
  case ifCond c off =>
    obtain ⟨_, -, h⟩ := Option.bind_eq_some_iff.mp h
    obtain ⟨_, -, h⟩ := Option.bind_eq_some_iff.mp h
    cases h; exact pr_refl _
  case if_icmp c off =>
    obtain ⟨_, -, h⟩ := Option.bind_eq_some_iff.mp h
    obtain ⟨_, -, h⟩ := Option.bind_eq_some_iff.mp h
    obtain ⟨_, -, h⟩ := Option.bind_eq_some_iff.mp h
    cases h; exact pr_refl _
  case ifnull off =>
    obtain ⟨_, -, h⟩ := Option.bind_eq_some_iff.mp h
    obtain ⟨_, -, h⟩ := Option.bind_eq_some_iff.mp h
    cases h; exact pr_refl _
  case ifnonnull off =>
    obtain ⟨_, -, h⟩ := Option.bind_eq_some_iff.mp h
    obtain ⟨_, -, h⟩ := Option.bind_eq_some_iff.mp h
    cases h; exact pr_refl _
  case goto off =>
    obtain ⟨_, -, h⟩ := Option.bind_eq_some_iff.mp h
    cases h; exact pr_refl _
  case tableswitch d lo hi offs =>
    obtain ⟨_, -, h⟩ := Option.bind_eq_some_iff.mp h
    obtain ⟨_, -, h⟩ := Option.bind_eq_some_iff.mp h
    try dsimp only at h
    split at h
    · first | (cases h; done) | (cases h; exact pr_refl _)
    · first | (cases h; done) | (cases h; exact pr_refl _)
  case getfield i =>
    obtain ⟨_, -, h⟩ := Option.bind_eq_some_iff.mp h
    obtain ⟨_, -, h⟩ := Option.bind_eq_some_iff.mp h
    try dsimp only at h
    split at h
    · first | (cases h; done) | (cases h; exact pr_refl _)
    · first | (cases h; done) | (cases h; exact pr_refl _)
  case putfield i =>
    obtain ⟨_, -, h⟩ := Option.bind_eq_some_iff.mp h
    obtain ⟨_, -, h⟩ := Option.bind_eq_some_iff.mp h
    obtain ⟨_, -, h⟩ := Option.bind_eq_some_iff.mp h
    try dsimp only at h
    split at h
    · first | (cases h; done) | (cases h; exact pr_set _ _)
    · first | (cases h; done) | (cases h; exact pr_set _ _)
  case arraylength =>
    obtain ⟨_, -, h⟩ := Option.bind_eq_some_iff.mp h
    split at h
    · cases h; exact pr_refl _
    · obtain ⟨_, -, h⟩ := Option.bind_eq_some_iff.mp h
      split at h
      · cases h
      · cases h; exact pr_refl _
  case iaload =>
    obtain ⟨_, -, h⟩ := Option.bind_eq_some_iff.mp h
    obtain ⟨_, -, h⟩ := Option.bind_eq_some_iff.mp h
    split at h
    · split at h
      · cases h; exact pr_refl _
      · cases h
    · obtain ⟨_, -, h⟩ := Option.bind_eq_some_iff.mp h
      split at h
      · cases h; exact pr_refl _
      · cases h
  case laload =>
    obtain ⟨_, -, h⟩ := Option.bind_eq_some_iff.mp h
    obtain ⟨_, -, h⟩ := Option.bind_eq_some_iff.mp h
    obtain ⟨_, -, h⟩ := Option.bind_eq_some_iff.mp h
    try dsimp only at h
    split at h
    · first | (cases h; done) | (cases h; exact pr_refl _)
    · first | (cases h; done) | (cases h; exact pr_refl _)
  case baload =>
    obtain ⟨_, -, h⟩ := Option.bind_eq_some_iff.mp h
    obtain ⟨_, -, h⟩ := Option.bind_eq_some_iff.mp h
    obtain ⟨_, -, h⟩ := Option.bind_eq_some_iff.mp h
    try dsimp only at h
    split at h
    · first | (cases h; done) | (cases h; exact pr_refl _)
    · first | (cases h; done) | (cases h; exact pr_refl _)
  case aaload =>
    obtain ⟨_, -, h⟩ := Option.bind_eq_some_iff.mp h
    obtain ⟨_, -, h⟩ := Option.bind_eq_some_iff.mp h
    obtain ⟨_, -, h⟩ := Option.bind_eq_some_iff.mp h
    try dsimp only at h
    split at h
    · first | (cases h; done) | (cases h; exact pr_refl _)
    · first | (cases h; done) | (cases h; exact pr_refl _)
  case iastore =>
    obtain ⟨_, -, h⟩ := Option.bind_eq_some_iff.mp h
    obtain ⟨_, -, h⟩ := Option.bind_eq_some_iff.mp h
    obtain ⟨_, -, h⟩ := Option.bind_eq_some_iff.mp h
    obtain ⟨_, -, h⟩ := Option.bind_eq_some_iff.mp h
    try dsimp only at h
    split at h
    · first | (cases h; done) | (cases h; exact pr_set _ _)
    · first | (cases h; done) | (cases h; exact pr_set _ _)
  case lastore =>
    obtain ⟨_, -, h⟩ := Option.bind_eq_some_iff.mp h
    obtain ⟨_, -, h⟩ := Option.bind_eq_some_iff.mp h
    obtain ⟨_, -, h⟩ := Option.bind_eq_some_iff.mp h
    obtain ⟨_, -, h⟩ := Option.bind_eq_some_iff.mp h
    try dsimp only at h
    split at h
    · first | (cases h; done) | (cases h; exact pr_set _ _)
    · first | (cases h; done) | (cases h; exact pr_set _ _)
  case bastore =>
    obtain ⟨_, -, h⟩ := Option.bind_eq_some_iff.mp h
    obtain ⟨_, -, h⟩ := Option.bind_eq_some_iff.mp h
    obtain ⟨_, -, h⟩ := Option.bind_eq_some_iff.mp h
    obtain ⟨_, -, h⟩ := Option.bind_eq_some_iff.mp h
    split at h
    · cases h; exact pr_set _ _
    · split at h
      · cases h; exact pr_set _ _
      · cases h
  case aastore =>
    obtain ⟨_, -, h⟩ := Option.bind_eq_some_iff.mp h
    obtain ⟨_, -, h⟩ := Option.bind_eq_some_iff.mp h
    obtain ⟨_, -, h⟩ := Option.bind_eq_some_iff.mp h
    obtain ⟨_, -, h⟩ := Option.bind_eq_some_iff.mp h
    split at h
    · split at h
      · cases h; exact pr_set _ _
      · cases h
    · obtain ⟨_, -, h⟩ := Option.bind_eq_some_iff.mp h
      try dsimp only at h
      split at h
      · cases h; exact pr_set _ _
      · cases h
  case newarray t =>
    obtain ⟨_, -, h⟩ := Option.bind_eq_some_iff.mp h
    obtain ⟨_, -, h⟩ := Option.bind_eq_some_iff.mp h
    try dsimp only at h
    split at h
    · first | (cases h; done) | (cases h; exact pr_push _ _ _ _)
    · first | (cases h; done) | (cases h; exact pr_push _ _ _ _)
  case anewarray i =>
    obtain ⟨_, -, h⟩ := Option.bind_eq_some_iff.mp h
    obtain ⟨_, -, h⟩ := Option.bind_eq_some_iff.mp h
    obtain ⟨_, -, h⟩ := Option.bind_eq_some_iff.mp h
    try dsimp only at h
    split at h
    · first | (cases h; done) | (cases h; exact pr_push _ _ _ _)
    · first | (cases h; done) | (cases h; exact pr_push _ _ _ _)
  case new i =>
    obtain ⟨_, -, h⟩ := Option.bind_eq_some_iff.mp h
    try dsimp only at h
    split at h
    · first | (cases h; done) | (cases h; exact pr_push _ _ _ _)
    · first | (cases h; done) | (cases h; exact pr_push _ _ _ _)
theorem exF_pre (sc : Nat × (Nat → Int)) : ∀ (n d y pc : Nat) (L S : List V) (σ : St) (r : V × St), exF sc n d y pc L S σ = some r → preS σ r.2 := by
  intro n
  induction n with
  | zero => intro d y pc L S σ r h; cases h
  | succ n ih =>
    intro d y pc L S σ r h
    unfold exF at h
    obtain ⟨ii, h1, h⟩ := Option.bind_eq_some_iff.mp h
    split at h
    · split at h
      · obtain ⟨kc, hm, h⟩ := Option.bind_eq_some_iff.mp h
        cases d with
        | zero => cases h
        | succ d0 =>
          dsimp only at h
          split at h
          · split at h
            · obtain ⟨q, hq, h⟩ := Option.bind_eq_some_iff.mp h
              exact (ih _ _ _ _ _ _ _ hq).trans (ih _ _ _ _ _ _ _ h)
            · cases h
          · split at h
            · cases h
            · obtain ⟨q, hq, h⟩ := Option.bind_eq_some_iff.mp h
              have e := prim_same hq
              have g := ih _ _ _ _ _ _ _ h
              obtain ⟨dy, hd⟩ := g
              exact ⟨dy, by rw [hd, e.1]⟩
      · split at h
        · injection h with h
          subst h
          exact pr_refl _
        · obtain ⟨q, hq, h⟩ := Option.bind_eq_some_iff.mp h
          exact (pst_pre hq).trans (ih _ _ _ _ _ _ _ h)
    · cases h
theorem WM.pre {sc : Nat × (Nat → Int)} {d y : Nat} {A : List V} {sh : Shp} {sl : Nat} {h : Sto} {Q : Pst} (hw : WM sc d y A sh sl h Q) : WM sc d y A sh sl h (fun r sh1 sl1 h1 => Q r sh1 sl1 h1 ∧ ∃ dy, sh1 = sh ++ dy) := by
  obtain ⟨n, r, sh1, sl1, h1, e, hq⟩ := hw
  exact ⟨n, r, sh1, sl1, h1, e, hq, exF_pre sc _ _ _ _ _ _ _ _ e⟩
theorem wgt_p (r : V) : wgt (pushR r []) ≤ 8 := by
  unfold pushR
  split
  · decide
  · unfold wgt
    simp only [List.map_cons, List.map_nil, List.sum_cons, List.sum_nil]
    split <;> omega
