theorem ir_11 : ∀ q ∈ MT_11, (decide (q.1.name = "<init>") && !(decide (q.2.2.2.1 = none))) = false := by decide +kernel
theorem ir_10 : ∀ q ∈ MT_10, (decide (q.1.name = "<init>") && !(decide (q.2.2.2.1 = none))) = false := by decide +kernel
theorem ir_9 : ∀ q ∈ MT_9, (decide (q.1.name = "<init>") && !(decide (q.2.2.2.1 = none))) = false := by decide +kernel
theorem ir_8 : ∀ q ∈ MT_8, (decide (q.1.name = "<init>") && !(decide (q.2.2.2.1 = none))) = false := by decide +kernel
theorem ir_7 : ∀ q ∈ MT_7, (decide (q.1.name = "<init>") && !(decide (q.2.2.2.1 = none))) = false := by decide +kernel
theorem ir_6 : ∀ q ∈ MT_6, (decide (q.1.name = "<init>") && !(decide (q.2.2.2.1 = none))) = false := by decide +kernel
theorem ir_5 : ∀ q ∈ MT_5, (decide (q.1.name = "<init>") && !(decide (q.2.2.2.1 = none))) = false := by decide +kernel
theorem ir_4 : ∀ q ∈ MT_4, (decide (q.1.name = "<init>") && !(decide (q.2.2.2.1 = none))) = false := by decide +kernel
theorem ir_3 : ∀ q ∈ MT_3, (decide (q.1.name = "<init>") && !(decide (q.2.2.2.1 = none))) = false := by decide +kernel
theorem ir_2 : ∀ q ∈ MT_2, (decide (q.1.name = "<init>") && !(decide (q.2.2.2.1 = none))) = false := by decide +kernel
theorem ir_1 : ∀ q ∈ MT_1, (decide (q.1.name = "<init>") && !(decide (q.2.2.2.1 = none))) = false := by decide +kernel
theorem ir_0 : ∀ q ∈ MT_0, (decide (q.1.name = "<init>") && !(decide (q.2.2.2.1 = none))) = false := by decide +kernel
/-! the number of locals stays (printed by wip/gen/lens.py) -/
theorem st2_len (L : List V) (i : Nat) (v : V) : (st2 L i v).length = L.length := by unfold st2; rw [List.length_set, st1_len]
set_option maxHeartbeats 1000000 in
theorem pst_len {oc : Nat} {ini : Bool} {sc : Nat × (Nat → Int)} {pc : Nat} {L S : List V} {σ : St} {ins : Instr} {q : Nx} (h : pst oc ini sc pc L S σ ins = some q) : q.2.1.length = L.length := by
  cases ins
  all_goals try (cases h; done)
  case aconst_null =>
    cases h; first | rfl | exact st1_len _ _ _ | exact st2_len _ _ _
  case iconst i =>
    cases h; first | rfl | exact st1_len _ _ _ | exact st2_len _ _ _
  case lconst n =>
    cases h; first | rfl | exact st1_len _ _ _ | exact st2_len _ _ _
  case bipush n =>
    replace h : (if _ then _ else none) = _ := h
    split at h
    · cases h; first | rfl | exact st1_len _ _ _ | exact st2_len _ _ _
    · cases h
  case sipush n =>
    replace h : (if _ then _ else none) = _ := h
    split at h
    · cases h; first | rfl | exact st1_len _ _ _ | exact st2_len _ _ _
    · cases h
  case ldc i =>
    obtain ⟨_, -, h⟩ := Option.bind_eq_some_iff.mp h
    split at h
    · cases h; first | rfl | exact st1_len _ _ _ | exact st2_len _ _ _
    · split at h
      · cases h; first | rfl | exact st1_len _ _ _ | exact st2_len _ _ _
      · cases h
  case ldc_w i =>
    obtain ⟨_, -, h⟩ := Option.bind_eq_some_iff.mp h
    try dsimp only at h
    split at h
    · first | (cases h; done) | (cases h; first | rfl | exact st1_len _ _ _ | exact st2_len _ _ _)
    · first | (cases h; done) | (cases h; first | rfl | exact st1_len _ _ _ | exact st2_len _ _ _)
  case ldc2_w i =>
    obtain ⟨_, -, h⟩ := Option.bind_eq_some_iff.mp h
    try dsimp only at h
    split at h
    · first | (cases h; done) | (cases h; first | rfl | exact st1_len _ _ _ | exact st2_len _ _ _)
    · first | (cases h; done) | (cases h; first | rfl | exact st1_len _ _ _ | exact st2_len _ _ _)
  case iload i =>
    obtain ⟨_, -, h⟩ := Option.bind_eq_some_iff.mp h
    cases h; first | rfl | exact st1_len _ _ _ | exact st2_len _ _ _
  case iload_n i =>
    obtain ⟨_, -, h⟩ := Option.bind_eq_some_iff.mp h
    cases h; first | rfl | exact st1_len _ _ _ | exact st2_len _ _ _
  case lload i =>
    obtain ⟨_, -, h⟩ := Option.bind_eq_some_iff.mp h
    cases h; first | rfl | exact st1_len _ _ _ | exact st2_len _ _ _
  case lload_n i =>
    obtain ⟨_, -, h⟩ := Option.bind_eq_some_iff.mp h
    cases h; first | rfl | exact st1_len _ _ _ | exact st2_len _ _ _
  case aload i =>
    obtain ⟨_, -, h⟩ := Option.bind_eq_some_iff.mp h
    cases h; first | rfl | exact st1_len _ _ _ | exact st2_len _ _ _
  case aload_n i =>
    obtain ⟨_, -, h⟩ := Option.bind_eq_some_iff.mp h
    cases h; first | rfl | exact st1_len _ _ _ | exact st2_len _ _ _
  case istore i =>
    obtain ⟨_, -, h⟩ := Option.bind_eq_some_iff.mp h
    try dsimp only at h
    split at h
    · first | (cases h; done) | (cases h; first | rfl | exact st1_len _ _ _ | exact st2_len _ _ _)
    · first | (cases h; done) | (cases h; first | rfl | exact st1_len _ _ _ | exact st2_len _ _ _)
  case istore_n i =>
    obtain ⟨_, -, h⟩ := Option.bind_eq_some_iff.mp h
    try dsimp only at h
    split at h
    · first | (cases h; done) | (cases h; first | rfl | exact st1_len _ _ _ | exact st2_len _ _ _)
    · first | (cases h; done) | (cases h; first | rfl | exact st1_len _ _ _ | exact st2_len _ _ _)
  case lstore i =>
    obtain ⟨_, -, h⟩ := Option.bind_eq_some_iff.mp h
    try dsimp only at h
    split at h
    · first | (cases h; done) | (cases h; first | rfl | exact st1_len _ _ _ | exact st2_len _ _ _)
    · first | (cases h; done) | (cases h; first | rfl | exact st1_len _ _ _ | exact st2_len _ _ _)
  case lstore_n i =>
    obtain ⟨_, -, h⟩ := Option.bind_eq_some_iff.mp h
    try dsimp only at h
    split at h
    · first | (cases h; done) | (cases h; first | rfl | exact st1_len _ _ _ | exact st2_len _ _ _)
    · first | (cases h; done) | (cases h; first | rfl | exact st1_len _ _ _ | exact st2_len _ _ _)
  case astore i =>
    obtain ⟨_, -, h⟩ := Option.bind_eq_some_iff.mp h
    try dsimp only at h
    split at h
    · first | (cases h; done) | (cases h; first | rfl | exact st1_len _ _ _ | exact st2_len _ _ _)
    · first | (cases h; done) | (cases h; first | rfl | exact st1_len _ _ _ | exact st2_len _ _ _)
  case astore_n i =>
    obtain ⟨_, -, h⟩ := Option.bind_eq_some_iff.mp h
    try dsimp only at h
    split at h
    · first | (cases h; done) | (cases h; first | rfl | exact st1_len _ _ _ | exact st2_len _ _ _)
    · first | (cases h; done) | (cases h; first | rfl | exact st1_len _ _ _ | exact st2_len _ _ _)
  case iinc i n =>
    obtain ⟨_, -, h⟩ := Option.bind_eq_some_iff.mp h
    cases h; first | rfl | exact st1_len _ _ _ | exact st2_len _ _ _
  case iadd =>
    obtain ⟨_, -, h⟩ := Option.bind_eq_some_iff.mp h
    obtain ⟨_, -, h⟩ := Option.bind_eq_some_iff.mp h
    cases h; first | rfl | exact st1_len _ _ _ | exact st2_len _ _ _
  case isub =>
    obtain ⟨_, -, h⟩ := Option.bind_eq_some_iff.mp h
    obtain ⟨_, -, h⟩ := Option.bind_eq_some_iff.mp h
    cases h; first | rfl | exact st1_len _ _ _ | exact st2_len _ _ _
  case imul =>
    obtain ⟨_, -, h⟩ := Option.bind_eq_some_iff.mp h
    obtain ⟨_, -, h⟩ := Option.bind_eq_some_iff.mp h
    cases h; first | rfl | exact st1_len _ _ _ | exact st2_len _ _ _
  case iand =>
    obtain ⟨_, -, h⟩ := Option.bind_eq_some_iff.mp h
    obtain ⟨_, -, h⟩ := Option.bind_eq_some_iff.mp h
    cases h; first | rfl | exact st1_len _ _ _ | exact st2_len _ _ _
  case ior =>
    obtain ⟨_, -, h⟩ := Option.bind_eq_some_iff.mp h
    obtain ⟨_, -, h⟩ := Option.bind_eq_some_iff.mp h
    cases h; first | rfl | exact st1_len _ _ _ | exact st2_len _ _ _
  case ixor =>
    obtain ⟨_, -, h⟩ := Option.bind_eq_some_iff.mp h
    obtain ⟨_, -, h⟩ := Option.bind_eq_some_iff.mp h
    cases h; first | rfl | exact st1_len _ _ _ | exact st2_len _ _ _
  case ishl =>
    obtain ⟨_, -, h⟩ := Option.bind_eq_some_iff.mp h
    obtain ⟨_, -, h⟩ := Option.bind_eq_some_iff.mp h
    cases h; first | rfl | exact st1_len _ _ _ | exact st2_len _ _ _
  case ishr =>
    obtain ⟨_, -, h⟩ := Option.bind_eq_some_iff.mp h
    obtain ⟨_, -, h⟩ := Option.bind_eq_some_iff.mp h
    cases h; first | rfl | exact st1_len _ _ _ | exact st2_len _ _ _
  case iushr =>
    obtain ⟨_, -, h⟩ := Option.bind_eq_some_iff.mp h
    obtain ⟨_, -, h⟩ := Option.bind_eq_some_iff.mp h
    cases h; first | rfl | exact st1_len _ _ _ | exact st2_len _ _ _
  case ladd =>
    obtain ⟨_, -, h⟩ := Option.bind_eq_some_iff.mp h
    obtain ⟨_, -, h⟩ := Option.bind_eq_some_iff.mp h
    cases h; first | rfl | exact st1_len _ _ _ | exact st2_len _ _ _
  case lsub =>
    obtain ⟨_, -, h⟩ := Option.bind_eq_some_iff.mp h
    obtain ⟨_, -, h⟩ := Option.bind_eq_some_iff.mp h
    cases h; first | rfl | exact st1_len _ _ _ | exact st2_len _ _ _
  case lmul =>
    obtain ⟨_, -, h⟩ := Option.bind_eq_some_iff.mp h
    obtain ⟨_, -, h⟩ := Option.bind_eq_some_iff.mp h
    cases h; first | rfl | exact st1_len _ _ _ | exact st2_len _ _ _
  case land =>
    obtain ⟨_, -, h⟩ := Option.bind_eq_some_iff.mp h
    obtain ⟨_, -, h⟩ := Option.bind_eq_some_iff.mp h
    cases h; first | rfl | exact st1_len _ _ _ | exact st2_len _ _ _
  case lor =>
    obtain ⟨_, -, h⟩ := Option.bind_eq_some_iff.mp h
    obtain ⟨_, -, h⟩ := Option.bind_eq_some_iff.mp h
    cases h; first | rfl | exact st1_len _ _ _ | exact st2_len _ _ _
  case lshl =>
    obtain ⟨_, -, h⟩ := Option.bind_eq_some_iff.mp h
    obtain ⟨_, -, h⟩ := Option.bind_eq_some_iff.mp h
    cases h; first | rfl | exact st1_len _ _ _ | exact st2_len _ _ _
  case lshr =>
    obtain ⟨_, -, h⟩ := Option.bind_eq_some_iff.mp h
    obtain ⟨_, -, h⟩ := Option.bind_eq_some_iff.mp h
    cases h; first | rfl | exact st1_len _ _ _ | exact st2_len _ _ _
  case lcmp =>
    obtain ⟨_, -, h⟩ := Option.bind_eq_some_iff.mp h
    obtain ⟨_, -, h⟩ := Option.bind_eq_some_iff.mp h
    cases h; first | rfl | exact st1_len _ _ _ | exact st2_len _ _ _
  case idiv =>
    obtain ⟨_, -, h⟩ := Option.bind_eq_some_iff.mp h
    obtain ⟨_, -, h⟩ := Option.bind_eq_some_iff.mp h
    try dsimp only at h
    split at h
    · first | (cases h; done) | (cases h; first | rfl | exact st1_len _ _ _ | exact st2_len _ _ _)
    · first | (cases h; done) | (cases h; first | rfl | exact st1_len _ _ _ | exact st2_len _ _ _)
  case irem =>
    obtain ⟨_, -, h⟩ := Option.bind_eq_some_iff.mp h
    obtain ⟨_, -, h⟩ := Option.bind_eq_some_iff.mp h
    try dsimp only at h
    split at h
    · first | (cases h; done) | (cases h; first | rfl | exact st1_len _ _ _ | exact st2_len _ _ _)
    · first | (cases h; done) | (cases h; first | rfl | exact st1_len _ _ _ | exact st2_len _ _ _)
  case ldiv =>
    obtain ⟨_, -, h⟩ := Option.bind_eq_some_iff.mp h
    obtain ⟨_, -, h⟩ := Option.bind_eq_some_iff.mp h
    try dsimp only at h
    split at h
    · first | (cases h; done) | (cases h; first | rfl | exact st1_len _ _ _ | exact st2_len _ _ _)
    · first | (cases h; done) | (cases h; first | rfl | exact st1_len _ _ _ | exact st2_len _ _ _)
  case lrem =>
    obtain ⟨_, -, h⟩ := Option.bind_eq_some_iff.mp h
    obtain ⟨_, -, h⟩ := Option.bind_eq_some_iff.mp h
    try dsimp only at h
    split at h
    · first | (cases h; done) | (cases h; first | rfl | exact st1_len _ _ _ | exact st2_len _ _ _)
    · first | (cases h; done) | (cases h; first | rfl | exact st1_len _ _ _ | exact st2_len _ _ _)
  case ineg =>
    obtain ⟨_, -, h⟩ := Option.bind_eq_some_iff.mp h
    cases h; first | rfl | exact st1_len _ _ _ | exact st2_len _ _ _
  case i2l =>
    obtain ⟨_, -, h⟩ := Option.bind_eq_some_iff.mp h
    cases h; first | rfl | exact st1_len _ _ _ | exact st2_len _ _ _
  case l2i =>
    obtain ⟨_, -, h⟩ := Option.bind_eq_some_iff.mp h
    cases h; first | rfl | exact st1_len _ _ _ | exact st2_len _ _ _
  case i2b =>
    obtain ⟨_, -, h⟩ := Option.bind_eq_some_iff.mp h
    cases h; first | rfl | exact st1_len _ _ _ | exact st2_len _ _ _
  case dup =>
    match S, h with
    | v :: S1, h =>
      replace h : (if v.1 = 1 ∨ v.1 = 9 then none else some _) = _ := h
      split at h
      · cases h
      · cases h; first | rfl | exact st1_len _ _ _ | exact st2_len _ _ _
  case pop =>
    match S, h with
    | v :: S1, h =>
      replace h : (if v.1 = 1 ∨ v.1 = 9 then none else some _) = _ := h
      split at h
      · cases h
      · cases h; first | rfl | exact st1_len _ _ _ | exact st2_len _ _ _
  case dup2 =>
    match S, h with
    | v :: u :: S1, h =>
      replace h : (if v.1 = 1 ∨ v.1 = 9 ∨ u.1 = 1 ∨ u.1 = 9 then none else some _) = _ := h
      split at h
      · cases h
      · cases h; first | rfl | exact st1_len _ _ _ | exact st2_len _ _ _
  case ifCond c off =>
    obtain ⟨_, -, h⟩ := Option.bind_eq_some_iff.mp h
    obtain ⟨_, -, h⟩ := Option.bind_eq_some_iff.mp h
    cases h; first | rfl | exact st1_len _ _ _ | exact st2_len _ _ _
  case if_icmp c off =>
    obtain ⟨_, -, h⟩ := Option.bind_eq_some_iff.mp h
    obtain ⟨_, -, h⟩ := Option.bind_eq_some_iff.mp h
    obtain ⟨_, -, h⟩ := Option.bind_eq_some_iff.mp h
    cases h; first | rfl | exact st1_len _ _ _ | exact st2_len _ _ _
  case ifnull off =>
    obtain ⟨_, -, h⟩ := Option.bind_eq_some_iff.mp h
    obtain ⟨_, -, h⟩ := Option.bind_eq_some_iff.mp h
    cases h; first | rfl | exact st1_len _ _ _ | exact st2_len _ _ _
  case ifnonnull off =>
    obtain ⟨_, -, h⟩ := Option.bind_eq_some_iff.mp h
    obtain ⟨_, -, h⟩ := Option.bind_eq_some_iff.mp h
    cases h; first | rfl | exact st1_len _ _ _ | exact st2_len _ _ _
  case goto off =>
    obtain ⟨_, -, h⟩ := Option.bind_eq_some_iff.mp h
    cases h; first | rfl | exact st1_len _ _ _ | exact st2_len _ _ _
  case tableswitch d lo hi offs =>
    obtain ⟨_, -, h⟩ := Option.bind_eq_some_iff.mp h
    obtain ⟨_, -, h⟩ := Option.bind_eq_some_iff.mp h
    try dsimp only at h
    split at h
    · first | (cases h; done) | (cases h; first | rfl | exact st1_len _ _ _ | exact st2_len _ _ _)
    · first | (cases h; done) | (cases h; first | rfl | exact st1_len _ _ _ | exact st2_len _ _ _)
  case getfield i =>
    obtain ⟨_, -, h⟩ := Option.bind_eq_some_iff.mp h
    obtain ⟨_, -, h⟩ := Option.bind_eq_some_iff.mp h
    try dsimp only at h
    split at h
    · first | (cases h; done) | (cases h; first | rfl | exact st1_len _ _ _ | exact st2_len _ _ _)
    · first | (cases h; done) | (cases h; first | rfl | exact st1_len _ _ _ | exact st2_len _ _ _)
  case putfield i =>
    obtain ⟨_, -, h⟩ := Option.bind_eq_some_iff.mp h
    obtain ⟨_, -, h⟩ := Option.bind_eq_some_iff.mp h
    obtain ⟨_, -, h⟩ := Option.bind_eq_some_iff.mp h
    try dsimp only at h
    split at h
    · first | (cases h; done) | (cases h; first | rfl | exact st1_len _ _ _ | exact st2_len _ _ _)
    · first | (cases h; done) | (cases h; first | rfl | exact st1_len _ _ _ | exact st2_len _ _ _)
  case arraylength =>
    obtain ⟨_, -, h⟩ := Option.bind_eq_some_iff.mp h
    split at h
    · cases h; first | rfl | exact st1_len _ _ _ | exact st2_len _ _ _
    · obtain ⟨_, -, h⟩ := Option.bind_eq_some_iff.mp h
      split at h
      · cases h
      · cases h; first | rfl | exact st1_len _ _ _ | exact st2_len _ _ _
  case iaload =>
    obtain ⟨_, -, h⟩ := Option.bind_eq_some_iff.mp h
    obtain ⟨_, -, h⟩ := Option.bind_eq_some_iff.mp h
    split at h
    · split at h
      · cases h; first | rfl | exact st1_len _ _ _ | exact st2_len _ _ _
      · cases h
    · obtain ⟨_, -, h⟩ := Option.bind_eq_some_iff.mp h
      split at h
      · cases h; first | rfl | exact st1_len _ _ _ | exact st2_len _ _ _
      · cases h
  case laload =>
    obtain ⟨_, -, h⟩ := Option.bind_eq_some_iff.mp h
    obtain ⟨_, -, h⟩ := Option.bind_eq_some_iff.mp h
    obtain ⟨_, -, h⟩ := Option.bind_eq_some_iff.mp h
    try dsimp only at h
    split at h
    · first | (cases h; done) | (cases h; first | rfl | exact st1_len _ _ _ | exact st2_len _ _ _)
    · first | (cases h; done) | (cases h; first | rfl | exact st1_len _ _ _ | exact st2_len _ _ _)
  case baload =>
    obtain ⟨_, -, h⟩ := Option.bind_eq_some_iff.mp h
    obtain ⟨_, -, h⟩ := Option.bind_eq_some_iff.mp h
    obtain ⟨_, -, h⟩ := Option.bind_eq_some_iff.mp h
    try dsimp only at h
    split at h
    · first | (cases h; done) | (cases h; first | rfl | exact st1_len _ _ _ | exact st2_len _ _ _)
    · first | (cases h; done) | (cases h; first | rfl | exact st1_len _ _ _ | exact st2_len _ _ _)
  case aaload =>
    obtain ⟨_, -, h⟩ := Option.bind_eq_some_iff.mp h
    obtain ⟨_, -, h⟩ := Option.bind_eq_some_iff.mp h
    obtain ⟨_, -, h⟩ := Option.bind_eq_some_iff.mp h
    try dsimp only at h
    split at h
    · first | (cases h; done) | (cases h; first | rfl | exact st1_len _ _ _ | exact st2_len _ _ _)
    · first | (cases h; done) | (cases h; first | rfl | exact st1_len _ _ _ | exact st2_len _ _ _)
  case iastore =>
    obtain ⟨_, -, h⟩ := Option.bind_eq_some_iff.mp h
    obtain ⟨_, -, h⟩ := Option.bind_eq_some_iff.mp h
    obtain ⟨_, -, h⟩ := Option.bind_eq_some_iff.mp h
    obtain ⟨_, -, h⟩ := Option.bind_eq_some_iff.mp h
    try dsimp only at h
    split at h
    · first | (cases h; done) | (cases h; first | rfl | exact st1_len _ _ _ | exact st2_len _ _ _)
    · first | (cases h; done) | (cases h; first | rfl | exact st1_len _ _ _ | exact st2_len _ _ _)
  case lastore =>
    obtain ⟨_, -, h⟩ := Option.bind_eq_some_iff.mp h
    obtain ⟨_, -, h⟩ := Option.bind_eq_some_iff.mp h
    obtain ⟨_, -, h⟩ := Option.bind_eq_some_iff.mp h
    obtain ⟨_, -, h⟩ := Option.bind_eq_some_iff.mp h
    try dsimp only at h
    split at h
    · first | (cases h; done) | (cases h; first | rfl | exact st1_len _ _ _ | exact st2_len _ _ _)
    · first | (cases h; done) | (cases h; first | rfl | exact st1_len _ _ _ | exact st2_len _ _ _)
  case bastore =>
    obtain ⟨_, -, h⟩ := Option.bind_eq_some_iff.mp h
    obtain ⟨_, -, h⟩ := Option.bind_eq_some_iff.mp h
    obtain ⟨_, -, h⟩ := Option.bind_eq_some_iff.mp h
    obtain ⟨_, -, h⟩ := Option.bind_eq_some_iff.mp h
    split at h
    · cases h; first | rfl | exact st1_len _ _ _ | exact st2_len _ _ _
    · split at h
      · cases h; first | rfl | exact st1_len _ _ _ | exact st2_len _ _ _
      · cases h
  case aastore =>
    obtain ⟨_, -, h⟩ := Option.bind_eq_some_iff.mp h
    obtain ⟨_, -, h⟩ := Option.bind_eq_some_iff.mp h
    obtain ⟨_, -, h⟩ := Option.bind_eq_some_iff.mp h
    obtain ⟨_, -, h⟩ := Option.bind_eq_some_iff.mp h
    split at h
    · split at h
      · cases h; first | rfl | exact st1_len _ _ _ | exact st2_len _ _ _
      · cases h
    · obtain ⟨_, -, h⟩ := Option.bind_eq_some_iff.mp h
      try dsimp only at h
      split at h
      · cases h; first | rfl | exact st1_len _ _ _ | exact st2_len _ _ _
      · cases h
  case newarray t =>
    obtain ⟨_, -, h⟩ := Option.bind_eq_some_iff.mp h
    obtain ⟨_, -, h⟩ := Option.bind_eq_some_iff.mp h
    try dsimp only at h
    split at h
    · first | (cases h; done) | (cases h; first | rfl | exact st1_len _ _ _ | exact st2_len _ _ _)
    · first | (cases h; done) | (cases h; first | rfl | exact st1_len _ _ _ | exact st2_len _ _ _)
  case anewarray i =>
    obtain ⟨_, -, h⟩ := Option.bind_eq_some_iff.mp h
    obtain ⟨_, -, h⟩ := Option.bind_eq_some_iff.mp h
    obtain ⟨_, -, h⟩ := Option.bind_eq_some_iff.mp h
    try dsimp only at h
    split at h
    · first | (cases h; done) | (cases h; first | rfl | exact st1_len _ _ _ | exact st2_len _ _ _)
    · first | (cases h; done) | (cases h; first | rfl | exact st1_len _ _ _ | exact st2_len _ _ _)
  case new i =>
    obtain ⟨_, -, h⟩ := Option.bind_eq_some_iff.mp h
    try dsimp only at h
    split at h
    · first | (cases h; done) | (cases h; first | rfl | exact st1_len _ _ _ | exact st2_len _ _ _)
    · first | (cases h; done) | (cases h; first | rfl | exact st1_len _ _ _ | exact st2_len _ _ _)
theorem init_ret0 : ∀ q ∈ MT, (decide (q.1.name = "<init>") && !(decide (q.2.2.2.1 = none))) = false := by
  intro q hq
  rw [MT] at hq; simp only [List.mem_append] at hq
  rcases hq with (((((((((((h | h) | h) | h) | h) | h) | h) | h) | h) | h) | h) | h) <;> first | exact ir_0 q h | exact ir_1 q h | exact ir_2 q h | exact ir_3 q h | exact ir_4 q h | exact ir_5 q h | exact ir_6 q h | exact ir_7 q h | exact ir_8 q h | exact ir_9 q h | exact ir_10 q h | exact ir_11 q h
theorem init_ret (q : ME) (hq : q ∈ MT) (h : q.1.name = "<init>") : q.2.2.2.1 = none := by
  have := init_ret0 q hq
  rw [decide_eq_true h] at this
  simpa using this
