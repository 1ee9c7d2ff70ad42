/-! ===== the law's run in the pure machine ===== -/
theorem pure_law (sc : Nat × (Nat → Int)) (hL : sc.1 ≤ 384) (hr : ∀ j, -2147483648 ≤ sc.2 j ∧ sc.2 j < 2147483648) : PureLaw sc := by
  obtain ⟨n, r, sh, sl, h, e, e1, e2, e3⟩ := lw_start hL hr
  subst e1
  exact ⟨n, sh, sl, h, e, e2, e3⟩
