/-! ===== a state only grows (printed by wip/gen/grows.py) ===== -/
theorem gr_refl (σ : St) : grows σ σ := ⟨Nat.le_refl _, Nat.le_refl _⟩
theorem gr_set (σ : St) (h : Nat → Nat → Int) : grows σ (σ.1, σ.2.1, h) := ⟨Nat.le_refl _, Nat.le_refl _⟩
theorem gr_push (σ : St) (sh : Nat × Nat) (n : Nat) (f : Nat → Int) : grows σ (push1 σ sh n f) := ⟨by simp [push1], by simp [push1]⟩
set_option maxHeartbeats 1000000 in
theorem pst_grows {oc : Nat} {ini : Bool} {sc : Nat × (Nat → Int)} {pc : Nat} {L S : List V} {σ : St} {ins : Instr} {q : Nx} (h : pst oc ini sc pc L S σ ins = some q) : grows σ q.2.2.2 := by
  cases ins
  all_goals try (cases h; done)
  case aconst_null =>
    cases h; exact gr_refl _
  case iconst i =>
    cases h; exact gr_refl _
  case lconst n =>
    cases h; exact gr_refl _
  case bipush n =>
    replace h : (if _ then _ else none) = _ := h
    split at h
    · cases h; exact gr_refl _
    · cases h
  case sipush n =>
    replace h : (if _ then _ else none) = _ := h
    split at h
    · cases h; exact gr_refl _
    · cases h
  case ldc i =>
    obtain ⟨_, -, h⟩ := Option.bind_eq_some_iff.mp h
    split at h
    · cases h; exact gr_refl _
    · split at h
      · cases h; exact gr_refl _
      · cases h
  case ldc_w i =>
    obtain ⟨_, -, h⟩ := Option.bind_eq_some_iff.mp h
    try dsimp only at h
    split at h
    · first | (cases h; done) | (cases h; exact gr_refl _)
    · first | (cases h; done) | (cases h; exact gr_refl _)
  case ldc2_w i =>
    obtain ⟨_, -, h⟩ := Option.bind_eq_some_iff.mp h
    try dsimp only at h
    split at h
    · first | (cases h; done) | (cases h; exact gr_refl _)
    · first | (cases h; done) | (cases h; exact gr_refl _)
  case iload i =>
    obtain ⟨_, -, h⟩ := Option.bind_eq_some_iff.mp h
    cases h; exact gr_refl _
  case iload_n i =>
    obtain ⟨_, -, h⟩ := Option.bind_eq_some_iff.mp h
    cases h; exact gr_refl _
  case lload i =>
    obtain ⟨_, -, h⟩ := Option.bind_eq_some_iff.mp h
    cases h; exact gr_refl _
  case lload_n i =>
    obtain ⟨_, -, h⟩ := Option.bind_eq_some_iff.mp h
    cases h; exact gr_refl _
  case aload i =>
    obtain ⟨_, -, h⟩ := Option.bind_eq_some_iff.mp h
    cases h; exact gr_refl _
  case aload_n i =>
    obtain ⟨_, -, h⟩ := Option.bind_eq_some_iff.mp h
    cases h; exact gr_refl _
  case istore i =>
    obtain ⟨_, -, h⟩ := Option.bind_eq_some_iff.mp h
    try dsimp only at h
    split at h
    · first | (cases h; done) | (cases h; exact gr_refl _)
    · first | (cases h; done) | (cases h; exact gr_refl _)
  case istore_n i =>
    obtain ⟨_, -, h⟩ := Option.bind_eq_some_iff.mp h
    try dsimp only at h
    split at h
    · first | (cases h; done) | (cases h; exact gr_refl _)
    · first | (cases h; done) | (cases h; exact gr_refl _)
  case lstore i =>
    obtain ⟨_, -, h⟩ := Option.bind_eq_some_iff.mp h
    try dsimp only at h
    split at h
    · first | (cases h; done) | (cases h; exact gr_refl _)
    · first | (cases h; done) | (cases h; exact gr_refl _)
  case lstore_n i =>
    obtain ⟨_, -, h⟩ := Option.bind_eq_some_iff.mp h
    try dsimp only at h
    split at h
    · first | (cases h; done) | (cases h; exact gr_refl _)
    · first | (cases h; done) | (cases h; exact gr_refl _)
  case astore i =>
    obtain ⟨_, -, h⟩ := Option.bind_eq_some_iff.mp h
    try dsimp only at h
    split at h
    · first | (cases h; done) | (cases h; exact gr_refl _)
    · first | (cases h; done) | (cases h; exact gr_refl _)
  case astore_n i =>
    obtain ⟨_, -, h⟩ := Option.bind_eq_some_iff.mp h
    try dsimp only at h
    split at h
    · first | (cases h; done) | (cases h; exact gr_refl _)
    · first | (cases h; done) | (cases h; exact gr_refl _)
  case iinc i n =>
    obtain ⟨_, -, h⟩ := Option.bind_eq_some_iff.mp h
    cases h; exact gr_refl _
  case iadd =>
    obtain ⟨_, -, h⟩ := Option.bind_eq_some_iff.mp h
    obtain ⟨_, -, h⟩ := Option.bind_eq_some_iff.mp h
    cases h; exact gr_refl _
  case isub =>
    obtain ⟨_, -, h⟩ := Option.bind_eq_some_iff.mp h
    obtain ⟨_, -, h⟩ := Option.bind_eq_some_iff.mp h
    cases h; exact gr_refl _
  case imul =>
    obtain ⟨_, -, h⟩ := Option.bind_eq_some_iff.mp h
    obtain ⟨_, -, h⟩ := Option.bind_eq_some_iff.mp h
    cases h; exact gr_refl _
  case iand =>
    obtain ⟨_, -, h⟩ := Option.bind_eq_some_iff.mp h
    obtain ⟨_, -, h⟩ := Option.bind_eq_some_iff.mp h
    cases h; exact gr_refl _
  case ior =>
    obtain ⟨_, -, h⟩ := Option.bind_eq_some_iff.mp h
    obtain ⟨_, -, h⟩ := Option.bind_eq_some_iff.mp h
    cases h; exact gr_refl _
  case ixor =>
    obtain ⟨_, -, h⟩ := Option.bind_eq_some_iff.mp h
    obtain ⟨_, -, h⟩ := Option.bind_eq_some_iff.mp h
    cases h; exact gr_refl _
  case ishl =>
    obtain ⟨_, -, h⟩ := Option.bind_eq_some_iff.mp h
    obtain ⟨_, -, h⟩ := Option.bind_eq_some_iff.mp h
    cases h; exact gr_refl _
  case ishr =>
    obtain ⟨_, -, h⟩ := Option.bind_eq_some_iff.mp h
    obtain ⟨_, -, h⟩ := Option.bind_eq_some_iff.mp h
    cases h; exact gr_refl _
  case iushr =>
    obtain ⟨_, -, h⟩ := Option.bind_eq_some_iff.mp h
    obtain ⟨_, -, h⟩ := Option.bind_eq_some_iff.mp h
    cases h; exact gr_refl _
  case ladd =>
    obtain ⟨_, -, h⟩ := Option.bind_eq_some_iff.mp h
    obtain ⟨_, -, h⟩ := Option.bind_eq_some_iff.mp h
    cases h; exact gr_refl _
  case lsub =>
    obtain ⟨_, -, h⟩ := Option.bind_eq_some_iff.mp h
    obtain ⟨_, -, h⟩ := Option.bind_eq_some_iff.mp h
    cases h; exact gr_refl _
  case lmul =>
    obtain ⟨_, -, h⟩ := Option.bind_eq_some_iff.mp h
    obtain ⟨_, -, h⟩ := Option.bind_eq_some_iff.mp h
    cases h; exact gr_refl _
  case land =>
    obtain ⟨_, -, h⟩ := Option.bind_eq_some_iff.mp h
    obtain ⟨_, -, h⟩ := Option.bind_eq_some_iff.mp h
    cases h; exact gr_refl _
  case lor =>
    obtain ⟨_, -, h⟩ := Option.bind_eq_some_iff.mp h
    obtain ⟨_, -, h⟩ := Option.bind_eq_some_iff.mp h
    cases h; exact gr_refl _
  case lshl =>
    obtain ⟨_, -, h⟩ := Option.bind_eq_some_iff.mp h
    obtain ⟨_, -, h⟩ := Option.bind_eq_some_iff.mp h
    cases h; exact gr_refl _
  case lshr =>
    obtain ⟨_, -, h⟩ := Option.bind_eq_some_iff.mp h
    obtain ⟨_, -, h⟩ := Option.bind_eq_some_iff.mp h
    cases h; exact gr_refl _
  case lcmp =>
    obtain ⟨_, -, h⟩ := Option.bind_eq_some_iff.mp h
    obtain ⟨_, -, h⟩ := Option.bind_eq_some_iff.mp h
    cases h; exact gr_refl _
  case idiv =>
    obtain ⟨_, -, h⟩ := Option.bind_eq_some_iff.mp h
    obtain ⟨_, -, h⟩ := Option.bind_eq_some_iff.mp h
    try dsimp only at h
    split at h
    · first | (cases h; done) | (cases h; exact gr_refl _)
    · first | (cases h; done) | (cases h; exact gr_refl _)
  case irem =>
    obtain ⟨_, -, h⟩ := Option.bind_eq_some_iff.mp h
    obtain ⟨_, -, h⟩ := Option.bind_eq_some_iff.mp h
    try dsimp only at h
    split at h
    · first | (cases h; done) | (cases h; exact gr_refl _)
    · first | (cases h; done) | (cases h; exact gr_refl _)
  case ldiv =>
    obtain ⟨_, -, h⟩ := Option.bind_eq_some_iff.mp h
    obtain ⟨_, -, h⟩ := Option.bind_eq_some_iff.mp h
    try dsimp only at h
    split at h
    · first | (cases h; done) | (cases h; exact gr_refl _)
    · first | (cases h; done) | (cases h; exact gr_refl _)
  case lrem =>
    obtain ⟨_, -, h⟩ := Option.bind_eq_some_iff.mp h
    obtain ⟨_, -, h⟩ := Option.bind_eq_some_iff.mp h
    try dsimp only at h
    split at h
    · first | (cases h; done) | (cases h; exact gr_refl _)
    · first | (cases h; done) | (cases h; exact gr_refl _)
  case ineg =>
    obtain ⟨_, -, h⟩ := Option.bind_eq_some_iff.mp h
    cases h; exact gr_refl _
  case i2l =>
    obtain ⟨_, -, h⟩ := Option.bind_eq_some_iff.mp h
    cases h; exact gr_refl _
  case l2i =>
    obtain ⟨_, -, h⟩ := Option.bind_eq_some_iff.mp h
    cases h; exact gr_refl _
  case i2b =>
    obtain ⟨_, -, h⟩ := Option.bind_eq_some_iff.mp h
    cases h; exact gr_refl _
  case dup =>
    match S, h with
    | v :: S1, h =>
      replace h : (if v.1 = 1 ∨ v.1 = 9 then none else some _) = _ := h
      split at h
      · cases h
      · cases h; exact gr_refl _
  case pop =>
    match S, h with
    | v :: S1, h =>
      replace h : (if v.1 = 1 ∨ v.1 = 9 then none else some _) = _ := h
      split at h
      · cases h
      · cases h; exact gr_refl _
  case dup2 =>
    match S, h with
    | v :: u :: S1, h =>
      replace h : (if v.1 = 1 ∨ v.1 = 9 ∨ u.1 = 1 ∨ u.1 = 9 then none else some _) = _ := h
      split at h
      · cases h
      · cases h; exact gr_refl _
  case ifCond c off =>
    obtain ⟨_, -, h⟩ := Option.bind_eq_some_iff.mp h
    obtain ⟨_, -, h⟩ := Option.bind_eq_some_iff.mp h
    cases h; exact gr_refl _
  case if_icmp c off =>
    obtain ⟨_, -, h⟩ := Option.bind_eq_some_iff.mp h
    obtain ⟨_, -, h⟩ := Option.bind_eq_some_iff.mp h
    obtain ⟨_, -, h⟩ := Option.bind_eq_some_iff.mp h
    cases h; exact gr_refl _
  case ifnull off =>
    obtain ⟨_, -, h⟩ := Option.bind_eq_some_iff.mp h
    obtain ⟨_, -, h⟩ := Option.bind_eq_some_iff.mp h
    cases h; exact gr_refl _
  case ifnonnull off =>
    obtain ⟨_, -, h⟩ := Option.bind_eq_some_iff.mp h
    obtain ⟨_, -, h⟩ := Option.bind_eq_some_iff.mp h
    cases h; exact gr_refl _
  case goto off =>
    obtain ⟨_, -, h⟩ := Option.bind_eq_some_iff.mp h
    cases h; exact gr_refl _
  case tableswitch d lo hi offs =>
    obtain ⟨_, -, h⟩ := Option.bind_eq_some_iff.mp h
    obtain ⟨_, -, h⟩ := Option.bind_eq_some_iff.mp h
    try dsimp only at h
    split at h
    · first | (cases h; done) | (cases h; exact gr_refl _)
    · first | (cases h; done) | (cases h; exact gr_refl _)
  case getfield i =>
    obtain ⟨_, -, h⟩ := Option.bind_eq_some_iff.mp h
    obtain ⟨_, -, h⟩ := Option.bind_eq_some_iff.mp h
    try dsimp only at h
    split at h
    · first | (cases h; done) | (cases h; exact gr_refl _)
    · first | (cases h; done) | (cases h; exact gr_refl _)
  case putfield i =>
    obtain ⟨_, -, h⟩ := Option.bind_eq_some_iff.mp h
    obtain ⟨_, -, h⟩ := Option.bind_eq_some_iff.mp h
    obtain ⟨_, -, h⟩ := Option.bind_eq_some_iff.mp h
    try dsimp only at h
    split at h
    · first | (cases h; done) | (cases h; exact gr_set _ _)
    · first | (cases h; done) | (cases h; exact gr_set _ _)
  case arraylength =>
    obtain ⟨_, -, h⟩ := Option.bind_eq_some_iff.mp h
    split at h
    · cases h; exact gr_refl _
    · obtain ⟨_, -, h⟩ := Option.bind_eq_some_iff.mp h
      split at h
      · cases h
      · cases h; exact gr_refl _
  case iaload =>
    obtain ⟨_, -, h⟩ := Option.bind_eq_some_iff.mp h
    obtain ⟨_, -, h⟩ := Option.bind_eq_some_iff.mp h
    split at h
    · split at h
      · cases h; exact gr_refl _
      · cases h
    · obtain ⟨_, -, h⟩ := Option.bind_eq_some_iff.mp h
      split at h
      · cases h; exact gr_refl _
      · cases h
  case laload =>
    obtain ⟨_, -, h⟩ := Option.bind_eq_some_iff.mp h
    obtain ⟨_, -, h⟩ := Option.bind_eq_some_iff.mp h
    obtain ⟨_, -, h⟩ := Option.bind_eq_some_iff.mp h
    try dsimp only at h
    split at h
    · first | (cases h; done) | (cases h; exact gr_refl _)
    · first | (cases h; done) | (cases h; exact gr_refl _)
  case baload =>
    obtain ⟨_, -, h⟩ := Option.bind_eq_some_iff.mp h
    obtain ⟨_, -, h⟩ := Option.bind_eq_some_iff.mp h
    obtain ⟨_, -, h⟩ := Option.bind_eq_some_iff.mp h
    try dsimp only at h
    split at h
    · first | (cases h; done) | (cases h; exact gr_refl _)
    · first | (cases h; done) | (cases h; exact gr_refl _)
  case aaload =>
    obtain ⟨_, -, h⟩ := Option.bind_eq_some_iff.mp h
    obtain ⟨_, -, h⟩ := Option.bind_eq_some_iff.mp h
    obtain ⟨_, -, h⟩ := Option.bind_eq_some_iff.mp h
    try dsimp only at h
    split at h
    · first | (cases h; done) | (cases h; exact gr_refl _)
    · first | (cases h; done) | (cases h; exact gr_refl _)
  case iastore =>
    obtain ⟨_, -, h⟩ := Option.bind_eq_some_iff.mp h
    obtain ⟨_, -, h⟩ := Option.bind_eq_some_iff.mp h
    obtain ⟨_, -, h⟩ := Option.bind_eq_some_iff.mp h
    obtain ⟨_, -, h⟩ := Option.bind_eq_some_iff.mp h
    try dsimp only at h
    split at h
    · first | (cases h; done) | (cases h; exact gr_set _ _)
    · first | (cases h; done) | (cases h; exact gr_set _ _)
  case lastore =>
    obtain ⟨_, -, h⟩ := Option.bind_eq_some_iff.mp h
    obtain ⟨_, -, h⟩ := Option.bind_eq_some_iff.mp h
    obtain ⟨_, -, h⟩ := Option.bind_eq_some_iff.mp h
    obtain ⟨_, -, h⟩ := Option.bind_eq_some_iff.mp h
    try dsimp only at h
    split at h
    · first | (cases h; done) | (cases h; exact gr_set _ _)
    · first | (cases h; done) | (cases h; exact gr_set _ _)
  case bastore =>
    obtain ⟨_, -, h⟩ := Option.bind_eq_some_iff.mp h
    obtain ⟨_, -, h⟩ := Option.bind_eq_some_iff.mp h
    obtain ⟨_, -, h⟩ := Option.bind_eq_some_iff.mp h
    obtain ⟨_, -, h⟩ := Option.bind_eq_some_iff.mp h
    split at h
    · cases h; exact gr_set _ _
    · split at h
      · cases h; exact gr_set _ _
      · cases h
  case aastore =>
    obtain ⟨_, -, h⟩ := Option.bind_eq_some_iff.mp h
    obtain ⟨_, -, h⟩ := Option.bind_eq_some_iff.mp h
    obtain ⟨_, -, h⟩ := Option.bind_eq_some_iff.mp h
    obtain ⟨_, -, h⟩ := Option.bind_eq_some_iff.mp h
    split at h
    · split at h
      · cases h; exact gr_set _ _
      · cases h
    · obtain ⟨_, -, h⟩ := Option.bind_eq_some_iff.mp h
      try dsimp only at h
      split at h
      · cases h; exact gr_set _ _
      · cases h
  case newarray t =>
    obtain ⟨_, -, h⟩ := Option.bind_eq_some_iff.mp h
    obtain ⟨_, -, h⟩ := Option.bind_eq_some_iff.mp h
    try dsimp only at h
    split at h
    · first | (cases h; done) | (cases h; exact gr_push _ _ _ _)
    · first | (cases h; done) | (cases h; exact gr_push _ _ _ _)
  case anewarray i =>
    obtain ⟨_, -, h⟩ := Option.bind_eq_some_iff.mp h
    obtain ⟨_, -, h⟩ := Option.bind_eq_some_iff.mp h
    obtain ⟨_, -, h⟩ := Option.bind_eq_some_iff.mp h
    try dsimp only at h
    split at h
    · first | (cases h; done) | (cases h; exact gr_push _ _ _ _)
    · first | (cases h; done) | (cases h; exact gr_push _ _ _ _)
  case new i =>
    obtain ⟨_, -, h⟩ := Option.bind_eq_some_iff.mp h
    try dsimp only at h
    split at h
    · first | (cases h; done) | (cases h; exact gr_push _ _ _ _)
    · first | (cases h; done) | (cases h; exact gr_push _ _ _ _)
theorem prim_same {k o : Nat} {S : List V} {σ : St} {q : List V × St} (h : prim k o S σ = some q) : q.2.1 = σ.1 ∧ q.2.2.1 = σ.2.1 := by
  match k, h with
  | 3, h =>
    replace h : (if o = 1 then _ else none) = _ := h
    split at h
    · obtain ⟨_, -, h⟩ := Option.bind_eq_some_iff.mp h
      split at h
      · cases h; exact ⟨rfl, rfl⟩
      · cases h
    · cases h
  | 4, h =>
    replace h : (if o = 2 then _ else none) = _ := h
    split at h
    · obtain ⟨_, -, h⟩ := Option.bind_eq_some_iff.mp h
      obtain ⟨_, -, h⟩ := Option.bind_eq_some_iff.mp h
      obtain ⟨_, -, h⟩ := Option.bind_eq_some_iff.mp h
      obtain ⟨_, -, h⟩ := Option.bind_eq_some_iff.mp h
      obtain ⟨_, -, h⟩ := Option.bind_eq_some_iff.mp h
      obtain ⟨_, -, h⟩ := Option.bind_eq_some_iff.mp h
      obtain ⟨_, -, h⟩ := Option.bind_eq_some_iff.mp h
      split at h
      · cases h; exact ⟨rfl, rfl⟩
      · cases h
    · cases h
  | 5, h =>
    replace h : (if o = 0 then _ else none) = _ := h
    split at h
    · obtain ⟨_, -, h⟩ := Option.bind_eq_some_iff.mp h
      obtain ⟨_, -, h⟩ := Option.bind_eq_some_iff.mp h
      split at h
      · cases h; exact ⟨rfl, rfl⟩
      · cases h
    · cases h
  | 6, h =>
    replace h : (if o = 0 then _ else none) = _ := h
    split at h
    · obtain ⟨_, -, h⟩ := Option.bind_eq_some_iff.mp h
      obtain ⟨_, -, h⟩ := Option.bind_eq_some_iff.mp h
      obtain ⟨_, -, h⟩ := Option.bind_eq_some_iff.mp h
      split at h
      · cases h; exact ⟨rfl, rfl⟩
      · cases h
    · cases h
  | 7, h =>
    replace h : (if o = 2 then _ else none) = _ := h
    split at h
    · obtain ⟨_, -, h⟩ := Option.bind_eq_some_iff.mp h
      obtain ⟨_, -, h⟩ := Option.bind_eq_some_iff.mp h
      split at h
      · cases h; exact ⟨rfl, rfl⟩
      · cases h
    · cases h
  | 8, h =>
    replace h : (if o = 2 then _ else none) = _ := h
    split at h
    · obtain ⟨_, -, h⟩ := Option.bind_eq_some_iff.mp h
      obtain ⟨_, -, h⟩ := Option.bind_eq_some_iff.mp h
      split at h
      · cases h; exact ⟨rfl, rfl⟩
      · cases h
    · cases h
  | 9, h =>
    replace h : (if o = 2 then _ else none) = _ := h
    split at h
    · obtain ⟨_, -, h⟩ := Option.bind_eq_some_iff.mp h
      obtain ⟨_, -, h⟩ := Option.bind_eq_some_iff.mp h
      split at h
      · cases h; exact ⟨rfl, rfl⟩
      · cases h
    · cases h
  | 10, h =>
    replace h : (if o = 2 then _ else none) = _ := h
    split at h
    · obtain ⟨_, -, h⟩ := Option.bind_eq_some_iff.mp h
      obtain ⟨_, -, h⟩ := Option.bind_eq_some_iff.mp h
      split at h
      · cases h; exact ⟨rfl, rfl⟩
      · cases h
    · cases h
