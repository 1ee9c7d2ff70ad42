/-! ===== telling, over facts as they are wrapped ===== -/
section TELLW
variable {sc : Nat × (Nat → Int)} {d : Nat} {sh : Shp} {sl : Nat} {h : Sto} {Q : Pst}
theorem lp_tellW {p fa ks po pa : Nat} {N F : Nat} {a1 : Int} (hp : shAt sh (p : Int) = some (0, 9)) (hN : h p 1 = (N : Int)) (hN4 : N ≤ 400) (hop : h p 8 = (po : Int)) (har : h p 9 = (pa : Int))
    {No : Nat} (hso : shAt sh (po : Int) = some (1, No)) (hsa : shAt sh (pa : Int) = some (1, No)) (hNo : N ≤ No) (hF : shAt sh (fa : Int) = some (1, F)) (hF4 : F ≤ 400) (hK : shAt sh (ks : Int) = some (2, 64))
    (n1 : p ≠ ks) (n2 : po ≠ ks) (n3 : pa ≠ ks) (n4 : fa ≠ ks)
    (ho : ∀ i, i < N → 0 ≤ h po i ∧ h po i ≤ 13) (ha : ∀ i, i < N → 0 ≤ h pa i ∧ h pa i < 2147483648) {ff : Nat → Int} (hf : ∀ i, i < F → w32 (h fa i) = ff i) (hfb : ∀ i, -2147483648 ≤ ff i ∧ ff i < 2147483648) :
    ∀ (left step : Nat) (stk : List Int) (h' : Sto) (T P W : Int) (j7 j8 j9 j10 j11 j12 j13 j14 : V), T = stk.length → P = step → W = left → left ≤ 400 → (step : Int) < 2147483648 → StkR (h' ks) stk → stk.length ≤ 64 → (∀ v ∈ stk, -2147483648 ≤ v ∧ v < 2147483648) → (∀ q, q ≠ ks → h' q = h q) →
      (∀ h'', (∀ q, q ≠ ks → h'' q = h q) → Q (1, (tlF (h po) (h pa) ff N F left step stk).getD (-2000000000)) sh sl h'') →
      WF sc d 30 12 [(2, (p : Int)), (0, a1), (2, (fa : Int)), (2, (ks : Int)), (0, T), (0, P), (0, W), j7, j8, j9, j10, j11, j12, j13, j14] [] sh sl h' Q := by
  have hEnd : ∀ (step left : Int) (stk : List Int) (h' : Sto) (j7 j8 j9 j10 j11 j12 j13 j14 : V), StkR (h' ks) stk → stk.length ≤ 64 → Q (1, (tlEnd stk).getD (-2000000000)) sh sl h' →
      WF sc d 30 441 [(2, (p : Int)), (0, a1), (2, (fa : Int)), (2, (ks : Int)), (0, (stk.length : Int)), (0, step), (0, left), j7, j8, j9, j10, j11, j12, j13, j14] [] sh sl h' Q := by
    intro step left stk h' j7 j8 j9 j10 j11 j12 j13 j14 hs hl hq
    have e1 : w32 (stk.length : Int) = stk.length := w32_id (by omega) (by omega)
    have e2 : w32 1 = 1 := rfl
    simp only [R_30_441, R_30_443, R_30_444, R_30_447, R_30_448, R_30_449, R_30_450, R_30_453, R_30_456, inA_of hK, e1, e2, w32_0, Int.toNat_natCast, Int.toNat_zero]
    cases stk with
    | nil => exact hq
    | cons v r =>
      cases r with
      | nil =>
        have : h' ks 0 = v := hs.1
        simp only [tlEnd, Option.getD_some] at hq
        simp [this, hq]
      | cons u r =>
        rw [if_pos (by simp; omega)]; exact hq
  intro left
  induction left with
  | zero =>
    intro step stk h' T P W j7 j8 j9 j10 j11 j12 j13 j14 hT hP hW hl hst hs hk hv hh hq
    subst hT hP hW
    simp only [R_30_12, R_30_14, Int.natCast_zero, w32_0, Int.le_refl, if_true]
    exact hEnd _ 0 _ _ _ _ _ _ _ _ _ _ hs hk (hq h' hh)
  | succ left ih =>
    intro step stk h' T P W j7 j8 j9 j10 j11 j12 j13 j14 hT hP hW hl hst hs hk hv hh hq
    subst hT hP hW
    have hh1 := hh p n1
    have hh2 := hh po n2
    have hh3 := hh pa n3
    have hh4 := hh fa n4
    rw [R_30_12]
    simp (disch := omega) only [Int.natCast_add, Int.natCast_one, R_30_14, R_30_17, R_30_19, R_30_22, R_30_24, R_30_25, hp, true_and, Int.toNat_natCast, hh1, hN, R_30_28, w32_id, if_neg]
    by_cases hsN : step < N
    · obtain ⟨o1, o2⟩ := ho step hsN
      obtain ⟨a1', a2'⟩ := ha step hsN
      simp (disch := omega) only [if_neg, R_30_31, R_30_32, hp, true_and, hh1, hop, har, hh2, hh3, R_30_35, R_30_37, inA_of hso, inA_of hsa, w32_id, Int.toNat_natCast, R_30_38, R_30_40, R_30_41, R_30_44, R_30_46, R_30_47, R_30_49, R_30_52, nl0]
      refine ⟨⟨by omega, by omega⟩, ⟨by omega, by omega⟩, ?_⟩
      have hcont : ∀ (stk2 : List Int) (s2 : Nat) (h2 : Sto) (T P W : Int) (j7 j8 j9 j10 j11 j12 j13 j14 : V), T = stk2.length → P = s2 → W = (left : Int) + 1 → (s2 : Int) < 2147483648 → StkR (h2 ks) stk2 → stk2.length ≤ 64 → (∀ v ∈ stk2, -2147483648 ≤ v ∧ v < 2147483648) → (∀ q, q ≠ ks → h2 q = h' q) → tlF (h po) (h pa) ff N F (left + 1) step stk = tlF (h po) (h pa) ff N F left s2 stk2 → WF sc d 30 435 [(2, (p : Int)), (0, a1), (2, (fa : Int)), (2, (ks : Int)), (0, T), (0, P), (0, W), j7, j8, j9, j10, j11, j12, j13, j14] [] sh sl h2 Q := by
        intro stk2 s2 h2 T P W k7 k8 k9 k10 k11 k12 k13 k14 hT hP hW hs2 hS2 hk2 hv2 hh2 he
        subst hT hP hW
        simp only [R_30_435, R_30_438, nl0]
        exact ih s2 stk2 h2 _ _ _ _ _ _ _ _ _ _ _ rfl rfl (by omega) (by omega) hs2 hS2 hk2 hv2 (fun q hq => (hh2 q hq).trans (hh q hq)) (fun h'' hh'' => by rw [← he]; exact hq h'' hh'')
      have hbrk : tlF (h po) (h pa) ff N F (left + 1) step stk = none → Q (1, -2000000000) sh sl h' := by
        intro he
        have := hq h' hh
        rw [he] at this; exact this
      have hset : ∀ (i : Nat) (x : Int), ∀ q, q ≠ ks → setH h' ks i x q = h' q := by
        intro i x q hqk
        funext j; exact setH_other (Or.inl hqk)
      have hpush : ∀ (x : Int) (r : List Int), StkR (h' ks) r → StkR (setH h' ks r.length x ks) (x :: r) := by
        intro x r hr
        exact ⟨setH_self _ _ _ _, hr.of (fun i hi => setH_other (Or.inr (by omega)))⟩
      rcases (show h po step = 0 ∨ h po step = 1 ∨ h po step = 2 ∨ h po step = 3 ∨ h po step = 4 ∨ (5 ≤ h po step ∧ h po step ≤ 12) ∨ h po step = 13 by omega) with hw | hw | hw | hw | hw | hw | hw
      · simp (disch := omega) only [R_30_0, R_30_1, R_30_3, R_30_4, R_30_6, R_30_7, R_30_10, R_30_14, R_30_17, R_30_19, R_30_22, R_30_24, R_30_25, R_30_28, R_30_31, R_30_32, R_30_35, R_30_37, R_30_38, R_30_40, R_30_41, R_30_44, R_30_46, R_30_47, R_30_49, R_30_52, R_30_54, R_30_56, R_30_59, R_30_62, R_30_64, R_30_67, R_30_69, R_30_70, R_30_73, R_30_75, R_30_77, R_30_80, R_30_82, R_30_83, R_30_86, R_30_88, R_30_91, R_30_93, R_30_95, R_30_98, R_30_101, R_30_102, R_30_103, R_30_105, R_30_107, R_30_110, R_30_112, R_30_113, R_30_116, R_30_117, R_30_119, R_30_120, R_30_121, R_30_122, R_30_125, R_30_128, R_30_130, R_30_131, R_30_134, R_30_136, R_30_137, R_30_140, R_30_142, R_30_143, R_30_146, R_30_148, R_30_149, R_30_152, R_30_155, R_30_156, R_30_157, R_30_159, R_30_160, R_30_161, R_30_162, R_30_163, R_30_164, R_30_167, R_30_168, R_30_171, R_30_172, R_30_174, R_30_176, R_30_177, R_30_180, R_30_181, R_30_183, R_30_184, R_30_185, R_30_187, R_30_190, R_30_191, R_30_194, R_30_195, R_30_196, R_30_199, R_30_201, R_30_203, R_30_204, R_30_207, R_30_208, R_30_211, R_30_212, R_30_215, R_30_217, R_30_219, R_30_222, R_30_225, R_30_228, R_30_230, R_30_231, R_30_234, R_30_235, R_30_237, R_30_238, R_30_239, R_30_240, R_30_241, R_30_242, R_30_245, R_30_247, R_30_249, R_30_252, R_30_254, R_30_256, R_30_259, R_30_262, R_30_263, R_30_266, R_30_267, R_30_269, R_30_270, R_30_271, R_30_272, R_30_274, R_30_275, R_30_277, R_30_278, R_30_280, R_30_282, R_30_283, R_30_286, R_30_288, R_30_290, R_30_291, R_30_294, R_30_296, R_30_298, R_30_301, R_30_303, R_30_305, R_30_306, R_30_309, R_30_311, R_30_313, R_30_316, R_30_318, R_30_320, R_30_321, R_30_324, R_30_326, R_30_328, R_30_331, R_30_333, R_30_335, R_30_336, R_30_339, R_30_341, R_30_343, R_30_346, R_30_348, R_30_350, R_30_351, R_30_354, R_30_356, R_30_358, R_30_361, R_30_363, R_30_365, R_30_366, R_30_369, R_30_372, R_30_374, R_30_376, R_30_379, R_30_381, R_30_383, R_30_384, R_30_387, R_30_390, R_30_392, R_30_394, R_30_395, R_30_398, R_30_399, R_30_402, R_30_403, R_30_405, R_30_407, R_30_410, R_30_411, R_30_414, R_30_416, R_30_419, R_30_420, R_30_423, R_30_426, R_30_427, R_30_428, R_30_430, R_30_431, R_30_432, R_30_434, R_30_443, R_30_444, R_30_447, R_30_448, R_30_449, R_30_450, R_30_453, R_30_456, R_30_76 hK, R_30_94 hF, hw, w32_id, w64_id, if_pos, if_neg, if_true, if_false, not_true_eq_false, not_false_eq_true, nl0, nl1, nl2, nl9, Int.toNat_natCast, pushR0, pushR1, pushR2, pushR9, true_and, and_true, wgt_nil, wgt_0, wgt_1, wgt_2, lcmp_lt, lcmp_gt, lcmp_eq, lcmp_ge, lcmp_le, inA_of hK, inA_of hF, hh4]
        split
        · exact hbrk (by simp only [tlF]; simp [hsN, hw]; omega)
        · refine ⟨⟨by omega, by omega⟩, hcont (h pa step :: stk) (step + 1) _ _ _ _ _ _ _ _ _ _ _ _ (by simp) (by simp) rfl (by omega) (hpush _ _ hs) (by simp; omega) ?_ (hset _ _) (by simp only [tlF]; simp [hsN, hw]; omega)⟩
          intro v hv'
          rcases List.mem_cons.mp hv' with rfl | hm
          · omega
          · exact hv v hm
      · simp (disch := omega) only [R_30_0, R_30_1, R_30_3, R_30_4, R_30_6, R_30_7, R_30_10, R_30_14, R_30_17, R_30_19, R_30_22, R_30_24, R_30_25, R_30_28, R_30_31, R_30_32, R_30_35, R_30_37, R_30_38, R_30_40, R_30_41, R_30_44, R_30_46, R_30_47, R_30_49, R_30_52, R_30_54, R_30_56, R_30_59, R_30_62, R_30_64, R_30_67, R_30_69, R_30_70, R_30_73, R_30_75, R_30_77, R_30_80, R_30_82, R_30_83, R_30_86, R_30_88, R_30_91, R_30_93, R_30_95, R_30_98, R_30_101, R_30_102, R_30_103, R_30_105, R_30_107, R_30_110, R_30_112, R_30_113, R_30_116, R_30_117, R_30_119, R_30_120, R_30_121, R_30_122, R_30_125, R_30_128, R_30_130, R_30_131, R_30_134, R_30_136, R_30_137, R_30_140, R_30_142, R_30_143, R_30_146, R_30_148, R_30_149, R_30_152, R_30_155, R_30_156, R_30_157, R_30_159, R_30_160, R_30_161, R_30_162, R_30_163, R_30_164, R_30_167, R_30_168, R_30_171, R_30_172, R_30_174, R_30_176, R_30_177, R_30_180, R_30_181, R_30_183, R_30_184, R_30_185, R_30_187, R_30_190, R_30_191, R_30_194, R_30_195, R_30_196, R_30_199, R_30_201, R_30_203, R_30_204, R_30_207, R_30_208, R_30_211, R_30_212, R_30_215, R_30_217, R_30_219, R_30_222, R_30_225, R_30_228, R_30_230, R_30_231, R_30_234, R_30_235, R_30_237, R_30_238, R_30_239, R_30_240, R_30_241, R_30_242, R_30_245, R_30_247, R_30_249, R_30_252, R_30_254, R_30_256, R_30_259, R_30_262, R_30_263, R_30_266, R_30_267, R_30_269, R_30_270, R_30_271, R_30_272, R_30_274, R_30_275, R_30_277, R_30_278, R_30_280, R_30_282, R_30_283, R_30_286, R_30_288, R_30_290, R_30_291, R_30_294, R_30_296, R_30_298, R_30_301, R_30_303, R_30_305, R_30_306, R_30_309, R_30_311, R_30_313, R_30_316, R_30_318, R_30_320, R_30_321, R_30_324, R_30_326, R_30_328, R_30_331, R_30_333, R_30_335, R_30_336, R_30_339, R_30_341, R_30_343, R_30_346, R_30_348, R_30_350, R_30_351, R_30_354, R_30_356, R_30_358, R_30_361, R_30_363, R_30_365, R_30_366, R_30_369, R_30_372, R_30_374, R_30_376, R_30_379, R_30_381, R_30_383, R_30_384, R_30_387, R_30_390, R_30_392, R_30_394, R_30_395, R_30_398, R_30_399, R_30_402, R_30_403, R_30_405, R_30_407, R_30_410, R_30_411, R_30_414, R_30_416, R_30_419, R_30_420, R_30_423, R_30_426, R_30_427, R_30_428, R_30_430, R_30_431, R_30_432, R_30_434, R_30_443, R_30_444, R_30_447, R_30_448, R_30_449, R_30_450, R_30_453, R_30_456, R_30_76 hK, R_30_94 hF, hw, w32_id, w64_id, if_pos, if_neg, if_true, if_false, not_true_eq_false, not_false_eq_true, nl0, nl1, nl2, nl9, Int.toNat_natCast, pushR0, pushR1, pushR2, pushR9, true_and, and_true, wgt_nil, wgt_0, wgt_1, wgt_2, lcmp_lt, lcmp_gt, lcmp_eq, lcmp_ge, lcmp_le, inA_of hK, inA_of hF, hh4]
        split
        · exact hbrk (by simp only [tlF]; simp [hsN, hw]; omega)
        · split
          · rename_i g1 g2
            obtain ⟨z1, z2⟩ := hfb (h pa step).toNat
            rw [hf (h pa step).toNat (by omega)]
            refine ⟨⟨by omega, by omega⟩, ⟨by omega, by omega⟩, hcont (ff (h pa step).toNat :: stk) (step + 1) _ _ _ _ _ _ _ _ _ _ _ _ (by simp) (by simp) rfl (by omega) (hpush _ _ hs) (by simp; omega) ?_ (hset _ _) (by simp only [tlF]; simp [hsN, hw]; omega)⟩
            intro v hv'
            rcases List.mem_cons.mp hv' with rfl | hm
            · omega
            · exact hv v hm
          · exact hbrk (by simp only [tlF]; simp [hsN, hw]; omega)
      · simp (disch := omega) only [R_30_0, R_30_1, R_30_3, R_30_4, R_30_6, R_30_7, R_30_10, R_30_14, R_30_17, R_30_19, R_30_22, R_30_24, R_30_25, R_30_28, R_30_31, R_30_32, R_30_35, R_30_37, R_30_38, R_30_40, R_30_41, R_30_44, R_30_46, R_30_47, R_30_49, R_30_52, R_30_54, R_30_56, R_30_59, R_30_62, R_30_64, R_30_67, R_30_69, R_30_70, R_30_73, R_30_75, R_30_77, R_30_80, R_30_82, R_30_83, R_30_86, R_30_88, R_30_91, R_30_93, R_30_95, R_30_98, R_30_101, R_30_102, R_30_103, R_30_105, R_30_107, R_30_110, R_30_112, R_30_113, R_30_116, R_30_117, R_30_119, R_30_120, R_30_121, R_30_122, R_30_125, R_30_128, R_30_130, R_30_131, R_30_134, R_30_136, R_30_137, R_30_140, R_30_142, R_30_143, R_30_146, R_30_148, R_30_149, R_30_152, R_30_155, R_30_156, R_30_157, R_30_159, R_30_160, R_30_161, R_30_162, R_30_163, R_30_164, R_30_167, R_30_168, R_30_171, R_30_172, R_30_174, R_30_176, R_30_177, R_30_180, R_30_181, R_30_183, R_30_184, R_30_185, R_30_187, R_30_190, R_30_191, R_30_194, R_30_195, R_30_196, R_30_199, R_30_201, R_30_203, R_30_204, R_30_207, R_30_208, R_30_211, R_30_212, R_30_215, R_30_217, R_30_219, R_30_222, R_30_225, R_30_228, R_30_230, R_30_231, R_30_234, R_30_235, R_30_237, R_30_238, R_30_239, R_30_240, R_30_241, R_30_242, R_30_245, R_30_247, R_30_249, R_30_252, R_30_254, R_30_256, R_30_259, R_30_262, R_30_263, R_30_266, R_30_267, R_30_269, R_30_270, R_30_271, R_30_272, R_30_274, R_30_275, R_30_277, R_30_278, R_30_280, R_30_282, R_30_283, R_30_286, R_30_288, R_30_290, R_30_291, R_30_294, R_30_296, R_30_298, R_30_301, R_30_303, R_30_305, R_30_306, R_30_309, R_30_311, R_30_313, R_30_316, R_30_318, R_30_320, R_30_321, R_30_324, R_30_326, R_30_328, R_30_331, R_30_333, R_30_335, R_30_336, R_30_339, R_30_341, R_30_343, R_30_346, R_30_348, R_30_350, R_30_351, R_30_354, R_30_356, R_30_358, R_30_361, R_30_363, R_30_365, R_30_366, R_30_369, R_30_372, R_30_374, R_30_376, R_30_379, R_30_381, R_30_383, R_30_384, R_30_387, R_30_390, R_30_392, R_30_394, R_30_395, R_30_398, R_30_399, R_30_402, R_30_403, R_30_405, R_30_407, R_30_410, R_30_411, R_30_414, R_30_416, R_30_419, R_30_420, R_30_423, R_30_426, R_30_427, R_30_428, R_30_430, R_30_431, R_30_432, R_30_434, R_30_443, R_30_444, R_30_447, R_30_448, R_30_449, R_30_450, R_30_453, R_30_456, R_30_76 hK, R_30_94 hF, hw, w32_id, w64_id, if_pos, if_neg, if_true, if_false, not_true_eq_false, not_false_eq_true, nl0, nl1, nl2, nl9, Int.toNat_natCast, pushR0, pushR1, pushR2, pushR9, true_and, and_true, wgt_nil, wgt_0, wgt_1, wgt_2, lcmp_lt, lcmp_gt, lcmp_eq, lcmp_ge, lcmp_le, inA_of hK, inA_of hF, hh4]
        cases stk with
        | nil => exact hbrk (by simp [tlF, hsN, hw])
        | cons v r =>
          have hv0 := hv v (by simp)
          have hvr : ∀ u ∈ r, -2147483648 ≤ u ∧ u < 2147483648 := fun u hu => hv u (List.mem_cons_of_mem _ hu)
          have ht : h' ks r.length = v := hs.1
          have hk' : r.length + 1 ≤ 64 := by simpa using hk
          have ei : ((r.length : Int) + 1 - 1).toNat = r.length := by omega
          simp (disch := omega) only [List.length_cons, Int.natCast_add, Int.natCast_one, ei, ht, w32_id, w64_id, if_pos, if_neg, if_true, if_false, not_true_eq_false, not_false_eq_true, nl0, nl1, nl2, nl9, Int.toNat_natCast, pushR0, pushR1, pushR2, pushR9, true_and, and_true, wgt_nil, wgt_0, wgt_1, wgt_2, lcmp_lt, lcmp_gt, lcmp_eq, lcmp_ge, lcmp_le]
          refine ⟨⟨by omega, by omega⟩, ?_⟩
          split
          · rename_i g1
            refine ⟨⟨by omega, by omega⟩, hcont (1 :: r) (step + 1) _ _ _ _ _ _ _ _ _ _ _ _ (by simp) (by simp) rfl (by omega) (hpush _ _ hs.2) (by simpa using hk') ?_ (hset _ _) (by simp [tlF, hsN, hw, g1])⟩
            intro u hu
            rcases List.mem_cons.mp hu with rfl | hm
            · omega
            · exact hvr u hm
          · rename_i g1
            refine ⟨⟨by omega, by omega⟩, hcont (0 :: r) (step + 1) _ _ _ _ _ _ _ _ _ _ _ _ (by simp) (by simp) rfl (by omega) (hpush _ _ hs.2) (by simpa using hk') ?_ (hset _ _) (by simp [tlF, hsN, hw, g1])⟩
            intro u hu
            rcases List.mem_cons.mp hu with rfl | hm
            · omega
            · exact hvr u hm
      · simp (disch := omega) only [R_30_0, R_30_1, R_30_3, R_30_4, R_30_6, R_30_7, R_30_10, R_30_14, R_30_17, R_30_19, R_30_22, R_30_24, R_30_25, R_30_28, R_30_31, R_30_32, R_30_35, R_30_37, R_30_38, R_30_40, R_30_41, R_30_44, R_30_46, R_30_47, R_30_49, R_30_52, R_30_54, R_30_56, R_30_59, R_30_62, R_30_64, R_30_67, R_30_69, R_30_70, R_30_73, R_30_75, R_30_77, R_30_80, R_30_82, R_30_83, R_30_86, R_30_88, R_30_91, R_30_93, R_30_95, R_30_98, R_30_101, R_30_102, R_30_103, R_30_105, R_30_107, R_30_110, R_30_112, R_30_113, R_30_116, R_30_117, R_30_119, R_30_120, R_30_121, R_30_122, R_30_125, R_30_128, R_30_130, R_30_131, R_30_134, R_30_136, R_30_137, R_30_140, R_30_142, R_30_143, R_30_146, R_30_148, R_30_149, R_30_152, R_30_155, R_30_156, R_30_157, R_30_159, R_30_160, R_30_161, R_30_162, R_30_163, R_30_164, R_30_167, R_30_168, R_30_171, R_30_172, R_30_174, R_30_176, R_30_177, R_30_180, R_30_181, R_30_183, R_30_184, R_30_185, R_30_187, R_30_190, R_30_191, R_30_194, R_30_195, R_30_196, R_30_199, R_30_201, R_30_203, R_30_204, R_30_207, R_30_208, R_30_211, R_30_212, R_30_215, R_30_217, R_30_219, R_30_222, R_30_225, R_30_228, R_30_230, R_30_231, R_30_234, R_30_235, R_30_237, R_30_238, R_30_239, R_30_240, R_30_241, R_30_242, R_30_245, R_30_247, R_30_249, R_30_252, R_30_254, R_30_256, R_30_259, R_30_262, R_30_263, R_30_266, R_30_267, R_30_269, R_30_270, R_30_271, R_30_272, R_30_274, R_30_275, R_30_277, R_30_278, R_30_280, R_30_282, R_30_283, R_30_286, R_30_288, R_30_290, R_30_291, R_30_294, R_30_296, R_30_298, R_30_301, R_30_303, R_30_305, R_30_306, R_30_309, R_30_311, R_30_313, R_30_316, R_30_318, R_30_320, R_30_321, R_30_324, R_30_326, R_30_328, R_30_331, R_30_333, R_30_335, R_30_336, R_30_339, R_30_341, R_30_343, R_30_346, R_30_348, R_30_350, R_30_351, R_30_354, R_30_356, R_30_358, R_30_361, R_30_363, R_30_365, R_30_366, R_30_369, R_30_372, R_30_374, R_30_376, R_30_379, R_30_381, R_30_383, R_30_384, R_30_387, R_30_390, R_30_392, R_30_394, R_30_395, R_30_398, R_30_399, R_30_402, R_30_403, R_30_405, R_30_407, R_30_410, R_30_411, R_30_414, R_30_416, R_30_419, R_30_420, R_30_423, R_30_426, R_30_427, R_30_428, R_30_430, R_30_431, R_30_432, R_30_434, R_30_443, R_30_444, R_30_447, R_30_448, R_30_449, R_30_450, R_30_453, R_30_456, R_30_76 hK, R_30_94 hF, hw, w32_id, w64_id, if_pos, if_neg, if_true, if_false, not_true_eq_false, not_false_eq_true, nl0, nl1, nl2, nl9, Int.toNat_natCast, pushR0, pushR1, pushR2, pushR9, true_and, and_true, wgt_nil, wgt_0, wgt_1, wgt_2, lcmp_lt, lcmp_gt, lcmp_eq, lcmp_ge, lcmp_le, inA_of hK, inA_of hF, hh4]
        cases stk with
        | nil => exact hbrk (by simp [tlF, hsN, hw])
        | cons v r =>
          have hv0 := hv v (by simp)
          have hvr : ∀ u ∈ r, -2147483648 ≤ u ∧ u < 2147483648 := fun u hu => hv u (List.mem_cons_of_mem _ hu)
          have ht : h' ks r.length = v := hs.1
          have hk' : r.length + 1 ≤ 64 := by simpa using hk
          have ei : ((r.length : Int) + 1 - 1).toNat = r.length := by omega
          simp (disch := omega) only [List.length_cons, Int.natCast_add, Int.natCast_one, ei, ht, w32_id, w64_id, if_pos, if_neg, if_true, if_false, not_true_eq_false, not_false_eq_true, nl0, nl1, nl2, nl9, Int.toNat_natCast, pushR0, pushR1, pushR2, pushR9, true_and, and_true, wgt_nil, wgt_0, wgt_1, wgt_2, lcmp_lt, lcmp_gt, lcmp_eq, lcmp_ge, lcmp_le]
          refine ⟨⟨by omega, by omega⟩, ?_⟩
          split
          · rename_i g1
            exact hcont (v :: r) (h pa step).toNat _ _ _ _ _ _ _ _ _ _ _ _ (by simp) (by omega) rfl (by omega) hs hk hv (fun _ _ => rfl) (by simp [tlF, hsN, hw, g1])
          · rename_i g1
            exact hcont r (step + 1) _ _ _ _ _ _ _ _ _ _ _ _ (by omega) (by simp) rfl (by omega) hs.2 (by omega) hvr (fun _ _ => rfl) (by simp [tlF, hsN, hw, g1])
      · simp (disch := omega) only [R_30_0, R_30_1, R_30_3, R_30_4, R_30_6, R_30_7, R_30_10, R_30_14, R_30_17, R_30_19, R_30_22, R_30_24, R_30_25, R_30_28, R_30_31, R_30_32, R_30_35, R_30_37, R_30_38, R_30_40, R_30_41, R_30_44, R_30_46, R_30_47, R_30_49, R_30_52, R_30_54, R_30_56, R_30_59, R_30_62, R_30_64, R_30_67, R_30_69, R_30_70, R_30_73, R_30_75, R_30_77, R_30_80, R_30_82, R_30_83, R_30_86, R_30_88, R_30_91, R_30_93, R_30_95, R_30_98, R_30_101, R_30_102, R_30_103, R_30_105, R_30_107, R_30_110, R_30_112, R_30_113, R_30_116, R_30_117, R_30_119, R_30_120, R_30_121, R_30_122, R_30_125, R_30_128, R_30_130, R_30_131, R_30_134, R_30_136, R_30_137, R_30_140, R_30_142, R_30_143, R_30_146, R_30_148, R_30_149, R_30_152, R_30_155, R_30_156, R_30_157, R_30_159, R_30_160, R_30_161, R_30_162, R_30_163, R_30_164, R_30_167, R_30_168, R_30_171, R_30_172, R_30_174, R_30_176, R_30_177, R_30_180, R_30_181, R_30_183, R_30_184, R_30_185, R_30_187, R_30_190, R_30_191, R_30_194, R_30_195, R_30_196, R_30_199, R_30_201, R_30_203, R_30_204, R_30_207, R_30_208, R_30_211, R_30_212, R_30_215, R_30_217, R_30_219, R_30_222, R_30_225, R_30_228, R_30_230, R_30_231, R_30_234, R_30_235, R_30_237, R_30_238, R_30_239, R_30_240, R_30_241, R_30_242, R_30_245, R_30_247, R_30_249, R_30_252, R_30_254, R_30_256, R_30_259, R_30_262, R_30_263, R_30_266, R_30_267, R_30_269, R_30_270, R_30_271, R_30_272, R_30_274, R_30_275, R_30_277, R_30_278, R_30_280, R_30_282, R_30_283, R_30_286, R_30_288, R_30_290, R_30_291, R_30_294, R_30_296, R_30_298, R_30_301, R_30_303, R_30_305, R_30_306, R_30_309, R_30_311, R_30_313, R_30_316, R_30_318, R_30_320, R_30_321, R_30_324, R_30_326, R_30_328, R_30_331, R_30_333, R_30_335, R_30_336, R_30_339, R_30_341, R_30_343, R_30_346, R_30_348, R_30_350, R_30_351, R_30_354, R_30_356, R_30_358, R_30_361, R_30_363, R_30_365, R_30_366, R_30_369, R_30_372, R_30_374, R_30_376, R_30_379, R_30_381, R_30_383, R_30_384, R_30_387, R_30_390, R_30_392, R_30_394, R_30_395, R_30_398, R_30_399, R_30_402, R_30_403, R_30_405, R_30_407, R_30_410, R_30_411, R_30_414, R_30_416, R_30_419, R_30_420, R_30_423, R_30_426, R_30_427, R_30_428, R_30_430, R_30_431, R_30_432, R_30_434, R_30_443, R_30_444, R_30_447, R_30_448, R_30_449, R_30_450, R_30_453, R_30_456, R_30_76 hK, R_30_94 hF, hw, w32_id, w64_id, if_pos, if_neg, if_true, if_false, not_true_eq_false, not_false_eq_true, nl0, nl1, nl2, nl9, Int.toNat_natCast, pushR0, pushR1, pushR2, pushR9, true_and, and_true, wgt_nil, wgt_0, wgt_1, wgt_2, lcmp_lt, lcmp_gt, lcmp_eq, lcmp_ge, lcmp_le, inA_of hK, inA_of hF, hh4]
        cases stk with
        | nil => exact hbrk (by simp [tlF, hsN, hw])
        | cons v r =>
          have hv0 := hv v (by simp)
          have hvr : ∀ u ∈ r, -2147483648 ≤ u ∧ u < 2147483648 := fun u hu => hv u (List.mem_cons_of_mem _ hu)
          have ht : h' ks r.length = v := hs.1
          have hk' : r.length + 1 ≤ 64 := by simpa using hk
          have ei : ((r.length : Int) + 1 - 1).toNat = r.length := by omega
          simp (disch := omega) only [List.length_cons, Int.natCast_add, Int.natCast_one, ei, ht, w32_id, w64_id, if_pos, if_neg, if_true, if_false, not_true_eq_false, not_false_eq_true, nl0, nl1, nl2, nl9, Int.toNat_natCast, pushR0, pushR1, pushR2, pushR9, true_and, and_true, wgt_nil, wgt_0, wgt_1, wgt_2, lcmp_lt, lcmp_gt, lcmp_eq, lcmp_ge, lcmp_le]
          refine ⟨⟨by omega, by omega⟩, ?_⟩
          split
          · rename_i g1
            exact hcont r (step + 1) _ _ _ _ _ _ _ _ _ _ _ _ (by omega) (by simp) rfl (by omega) hs.2 (by omega) hvr (fun _ _ => rfl) (by simp [tlF, hsN, hw, g1])
          · rename_i g1
            exact hcont (v :: r) (h pa step).toNat _ _ _ _ _ _ _ _ _ _ _ _ (by simp) (by omega) rfl (by omega) hs hk hv (fun _ _ => rfl) (by simp [tlF, hsN, hw, g1])
      · obtain ⟨w1, w2⟩ := hw
        have hwn : ¬ h po step = 13 ∧ ¬ h po step = 0 ∧ ¬ h po step = 1 ∧ ¬ h po step ≤ 4 := by omega
        simp (disch := omega) only [R_30_0, R_30_1, R_30_3, R_30_4, R_30_6, R_30_7, R_30_10, R_30_14, R_30_17, R_30_19, R_30_22, R_30_24, R_30_25, R_30_28, R_30_31, R_30_32, R_30_35, R_30_37, R_30_38, R_30_40, R_30_41, R_30_44, R_30_46, R_30_47, R_30_49, R_30_52, R_30_54, R_30_56, R_30_59, R_30_62, R_30_64, R_30_67, R_30_69, R_30_70, R_30_73, R_30_75, R_30_77, R_30_80, R_30_82, R_30_83, R_30_86, R_30_88, R_30_91, R_30_93, R_30_95, R_30_98, R_30_101, R_30_102, R_30_103, R_30_105, R_30_107, R_30_110, R_30_112, R_30_113, R_30_116, R_30_117, R_30_119, R_30_120, R_30_121, R_30_122, R_30_125, R_30_128, R_30_130, R_30_131, R_30_134, R_30_136, R_30_137, R_30_140, R_30_142, R_30_143, R_30_146, R_30_148, R_30_149, R_30_152, R_30_155, R_30_156, R_30_157, R_30_159, R_30_160, R_30_161, R_30_162, R_30_163, R_30_164, R_30_167, R_30_168, R_30_171, R_30_172, R_30_174, R_30_176, R_30_177, R_30_180, R_30_181, R_30_183, R_30_184, R_30_185, R_30_187, R_30_190, R_30_191, R_30_194, R_30_195, R_30_196, R_30_199, R_30_201, R_30_203, R_30_204, R_30_207, R_30_208, R_30_211, R_30_212, R_30_215, R_30_217, R_30_219, R_30_222, R_30_225, R_30_228, R_30_230, R_30_231, R_30_234, R_30_235, R_30_237, R_30_238, R_30_239, R_30_240, R_30_241, R_30_242, R_30_245, R_30_247, R_30_249, R_30_252, R_30_254, R_30_256, R_30_259, R_30_262, R_30_263, R_30_266, R_30_267, R_30_269, R_30_270, R_30_271, R_30_272, R_30_274, R_30_275, R_30_277, R_30_278, R_30_282, R_30_283, R_30_286, R_30_288, R_30_290, R_30_291, R_30_294, R_30_296, R_30_298, R_30_301, R_30_303, R_30_305, R_30_306, R_30_309, R_30_311, R_30_313, R_30_316, R_30_318, R_30_320, R_30_321, R_30_324, R_30_326, R_30_328, R_30_331, R_30_333, R_30_335, R_30_336, R_30_339, R_30_341, R_30_343, R_30_346, R_30_348, R_30_350, R_30_351, R_30_354, R_30_356, R_30_358, R_30_361, R_30_363, R_30_365, R_30_366, R_30_369, R_30_372, R_30_374, R_30_376, R_30_379, R_30_381, R_30_383, R_30_384, R_30_387, R_30_390, R_30_392, R_30_394, R_30_395, R_30_398, R_30_399, R_30_402, R_30_403, R_30_405, R_30_407, R_30_410, R_30_411, R_30_414, R_30_416, R_30_419, R_30_420, R_30_423, R_30_426, R_30_427, R_30_428, R_30_430, R_30_431, R_30_432, R_30_434, R_30_443, R_30_444, R_30_447, R_30_448, R_30_449, R_30_450, R_30_453, R_30_456, R_30_76 hK, R_30_94 hF, w32_id, w64_id, if_pos, if_neg, if_true, if_false, not_true_eq_false, not_false_eq_true, nl0, nl1, nl2, nl9, Int.toNat_natCast, pushR0, pushR1, pushR2, pushR9, true_and, and_true, wgt_nil, wgt_0, wgt_1, wgt_2, lcmp_lt, lcmp_gt, lcmp_eq, lcmp_ge, lcmp_le, inA_of hK]
        cases stk with
        | nil => exact hbrk (by simp [tlF, hsN, hwn])
        | cons b r1 =>
          cases r1 with
          | nil => exact hbrk (by simp [tlF, hsN, hwn])
          | cons a r =>
            have hb := hv b (by simp)
            have ha := hv a (by simp)
            have hvr : ∀ u ∈ r, -2147483648 ≤ u ∧ u < 2147483648 := fun u hu => hv u (List.mem_cons_of_mem _ (List.mem_cons_of_mem _ hu))
            have ht1 : h' ks (r.length + 1) = b := hs.1
            have ht2 : h' ks r.length = a := hs.2.1
            have hk' : r.length + 2 ≤ 64 := by simpa using hk
            have ei : ((r.length : Int) + 1 + 1 - 1).toNat = r.length + 1 := by omega
            have ei2 : ((r.length : Int) + 1 + 1 + -1 - 1).toNat = r.length := by omega
            have ei3 : ((r.length : Int) + 1 + 1 + -1).toNat = r.length + 1 := by omega
            have htl : tlF (h po) (h pa) ff N F (left + 1) step (b :: a :: r) = if b = 0 ∧ (h po step = 8 ∨ h po step = 9) then none else if 1000000000 < jn (h po step) a b ∨ jn (h po step) a b < -1000000000 then none else tlF (h po) (h pa) ff N F left (step + 1) (jn (h po step) a b :: r) := by
              simp only [tlF, hwn, if_false, not_true_eq_false, hsN]
            simp (disch := omega) only [List.length_cons, Int.natCast_add, Int.natCast_one, ei, ei2, ei3, ht1, ht2, w32_id, w64_id, if_pos, if_neg, if_true, if_false, not_true_eq_false, not_false_eq_true, nl0, nl1, nl2, nl9, Int.toNat_natCast, pushR0, pushR1, pushR2, pushR9, true_and, and_true, wgt_nil, wgt_0, wgt_1, wgt_2, lcmp_lt, lcmp_gt, lcmp_eq, lcmp_ge, lcmp_le]
            refine ⟨⟨by omega, by omega⟩, ?_⟩
            have hmain : ¬ (b = 0 ∧ (h po step = 8 ∨ h po step = 9)) → WF sc d 30 280 [(2, (p : Int)), (0, a1), (2, (fa : Int)), (2, (ks : Int)), (0, (r.length : Int) + 1 + 1 + -1), (0, (step : Int) + 1), (0, (left : Int) + 1), (0, h po step), (0, h pa step), (1, a), (9, 0), (1, b), (9, 0), j13, j14] [] sh sl h' Q := by
              intro hnb
              rw [if_neg hnb] at htl
              have hfin : ∀ J : Int, J = jn (h po step) a b → -9223372036854775808 ≤ J ∧ J < 9223372036854775808 → WF sc d 30 403 [(2, (p : Int)), (0, a1), (2, (fa : Int)), (2, (ks : Int)), (0, (r.length : Int) + 1 + 1 + -1), (0, (step : Int) + 1), (0, (left : Int) + 1), (0, h po step), (0, h pa step), (1, a), (9, 0), (1, b), (9, 0), j13, j14] [(1, J)] sh sl h' Q := by
                intro J hJ hJb
                rw [← hJ] at htl
                simp (disch := omega) only [R_30_403, R_30_405, R_30_407, R_30_410, R_30_411, R_30_414, R_30_416, R_30_419, R_30_420, R_30_423, R_30_426, R_30_427, R_30_428, R_30_430, R_30_431, R_30_432, R_30_434, w32_id, w64_id, if_pos, if_neg, if_true, if_false, not_true_eq_false, not_false_eq_true, nl0, nl1, nl2, nl9, Int.toNat_natCast, pushR0, pushR1, pushR2, pushR9, true_and, and_true, wgt_nil, wgt_0, wgt_1, wgt_2, lcmp_lt, lcmp_gt, lcmp_eq, lcmp_ge, lcmp_le, inA_of hK, ei2]
                by_cases g1 : 1000000000 < J
                · rw [if_pos g1]
                  exact hbrk (by rw [htl, if_pos (Or.inl g1)])
                · rw [if_neg g1]
                  by_cases g2 : J < -1000000000
                  · rw [if_neg (by omega)]
                    exact hbrk (by rw [htl, if_pos (Or.inr g2)])
                  · rw [if_pos (by omega)]
                    refine ⟨⟨by omega, by omega⟩, hcont (J :: r) (step + 1) _ _ _ _ _ _ _ _ _ _ _ _ (by simp; omega) (by simp) rfl (by omega) (hpush _ _ hs.2.2) (by simp; omega) ?_ (hset _ _) (by rw [htl, if_neg (by omega)])⟩
                    intro u hu
                    rcases List.mem_cons.mp hu with rfl | hm
                    · omega
                    · exact hvr u hm
              have hm := mul_bd ha.1 ha.2 hb.1 hb.2
              have hw64 : w64 a = a ∧ w64 b = b := ⟨w64_id (by omega) (by omega), w64_id (by omega) (by omega)⟩
              rcases (show h po step = 5 ∨ h po step = 6 ∨ h po step = 7 ∨ h po step = 8 ∨ h po step = 9 ∨ h po step = 10 ∨ h po step = 11 ∨ h po step = 12 by omega) with hw | hw | hw | hw | hw | hw | hw | hw
              · simp (disch := omega) only [R_30_0, R_30_1, R_30_3, R_30_4, R_30_6, R_30_7, R_30_10, R_30_14, R_30_17, R_30_19, R_30_22, R_30_24, R_30_25, R_30_28, R_30_31, R_30_32, R_30_35, R_30_37, R_30_38, R_30_40, R_30_41, R_30_44, R_30_46, R_30_47, R_30_49, R_30_52, R_30_54, R_30_56, R_30_59, R_30_62, R_30_64, R_30_67, R_30_69, R_30_70, R_30_73, R_30_75, R_30_77, R_30_80, R_30_82, R_30_83, R_30_86, R_30_88, R_30_91, R_30_93, R_30_95, R_30_98, R_30_101, R_30_102, R_30_103, R_30_105, R_30_107, R_30_110, R_30_112, R_30_113, R_30_116, R_30_117, R_30_119, R_30_120, R_30_121, R_30_122, R_30_125, R_30_128, R_30_130, R_30_131, R_30_134, R_30_136, R_30_137, R_30_140, R_30_142, R_30_143, R_30_146, R_30_148, R_30_149, R_30_152, R_30_155, R_30_156, R_30_157, R_30_159, R_30_160, R_30_161, R_30_162, R_30_163, R_30_164, R_30_167, R_30_168, R_30_171, R_30_172, R_30_174, R_30_176, R_30_177, R_30_180, R_30_181, R_30_183, R_30_184, R_30_185, R_30_187, R_30_190, R_30_191, R_30_194, R_30_195, R_30_196, R_30_199, R_30_201, R_30_203, R_30_204, R_30_207, R_30_208, R_30_211, R_30_212, R_30_215, R_30_217, R_30_219, R_30_222, R_30_225, R_30_228, R_30_230, R_30_231, R_30_234, R_30_235, R_30_237, R_30_238, R_30_239, R_30_240, R_30_241, R_30_242, R_30_245, R_30_247, R_30_249, R_30_252, R_30_254, R_30_256, R_30_259, R_30_262, R_30_263, R_30_266, R_30_267, R_30_269, R_30_270, R_30_271, R_30_272, R_30_274, R_30_275, R_30_277, R_30_278, R_30_280, R_30_282, R_30_283, R_30_286, R_30_288, R_30_290, R_30_291, R_30_294, R_30_296, R_30_298, R_30_301, R_30_303, R_30_305, R_30_306, R_30_309, R_30_311, R_30_313, R_30_316, R_30_318, R_30_320, R_30_321, R_30_324, R_30_326, R_30_328, R_30_331, R_30_333, R_30_335, R_30_336, R_30_339, R_30_341, R_30_343, R_30_346, R_30_348, R_30_350, R_30_351, R_30_354, R_30_356, R_30_358, R_30_361, R_30_363, R_30_365, R_30_366, R_30_369, R_30_372, R_30_374, R_30_376, R_30_379, R_30_381, R_30_383, R_30_384, R_30_387, R_30_390, R_30_392, R_30_394, R_30_395, R_30_398, R_30_399, R_30_402, R_30_405, R_30_407, R_30_410, R_30_411, R_30_414, R_30_416, R_30_419, R_30_420, R_30_423, R_30_426, R_30_427, R_30_428, R_30_430, R_30_431, R_30_432, R_30_434, R_30_443, R_30_444, R_30_447, R_30_448, R_30_449, R_30_450, R_30_453, R_30_456, hw, w32_id, w64_id, if_pos, if_neg, if_true, if_false, not_true_eq_false, not_false_eq_true, nl0, nl1, nl2, nl9, Int.toNat_natCast, pushR0, pushR1, pushR2, pushR9, true_and, and_true, wgt_nil, wgt_0, wgt_1, wgt_2, lcmp_lt, lcmp_gt, lcmp_eq, lcmp_ge, lcmp_le]
                rw [hw] at hfin
                exact hfin _ (by simp [jn]) (by omega)
              · simp (disch := omega) only [R_30_0, R_30_1, R_30_3, R_30_4, R_30_6, R_30_7, R_30_10, R_30_14, R_30_17, R_30_19, R_30_22, R_30_24, R_30_25, R_30_28, R_30_31, R_30_32, R_30_35, R_30_37, R_30_38, R_30_40, R_30_41, R_30_44, R_30_46, R_30_47, R_30_49, R_30_52, R_30_54, R_30_56, R_30_59, R_30_62, R_30_64, R_30_67, R_30_69, R_30_70, R_30_73, R_30_75, R_30_77, R_30_80, R_30_82, R_30_83, R_30_86, R_30_88, R_30_91, R_30_93, R_30_95, R_30_98, R_30_101, R_30_102, R_30_103, R_30_105, R_30_107, R_30_110, R_30_112, R_30_113, R_30_116, R_30_117, R_30_119, R_30_120, R_30_121, R_30_122, R_30_125, R_30_128, R_30_130, R_30_131, R_30_134, R_30_136, R_30_137, R_30_140, R_30_142, R_30_143, R_30_146, R_30_148, R_30_149, R_30_152, R_30_155, R_30_156, R_30_157, R_30_159, R_30_160, R_30_161, R_30_162, R_30_163, R_30_164, R_30_167, R_30_168, R_30_171, R_30_172, R_30_174, R_30_176, R_30_177, R_30_180, R_30_181, R_30_183, R_30_184, R_30_185, R_30_187, R_30_190, R_30_191, R_30_194, R_30_195, R_30_196, R_30_199, R_30_201, R_30_203, R_30_204, R_30_207, R_30_208, R_30_211, R_30_212, R_30_215, R_30_217, R_30_219, R_30_222, R_30_225, R_30_228, R_30_230, R_30_231, R_30_234, R_30_235, R_30_237, R_30_238, R_30_239, R_30_240, R_30_241, R_30_242, R_30_245, R_30_247, R_30_249, R_30_252, R_30_254, R_30_256, R_30_259, R_30_262, R_30_263, R_30_266, R_30_267, R_30_269, R_30_270, R_30_271, R_30_272, R_30_274, R_30_275, R_30_277, R_30_278, R_30_280, R_30_282, R_30_283, R_30_286, R_30_288, R_30_290, R_30_291, R_30_294, R_30_296, R_30_298, R_30_301, R_30_303, R_30_305, R_30_306, R_30_309, R_30_311, R_30_313, R_30_316, R_30_318, R_30_320, R_30_321, R_30_324, R_30_326, R_30_328, R_30_331, R_30_333, R_30_335, R_30_336, R_30_339, R_30_341, R_30_343, R_30_346, R_30_348, R_30_350, R_30_351, R_30_354, R_30_356, R_30_358, R_30_361, R_30_363, R_30_365, R_30_366, R_30_369, R_30_372, R_30_374, R_30_376, R_30_379, R_30_381, R_30_383, R_30_384, R_30_387, R_30_390, R_30_392, R_30_394, R_30_395, R_30_398, R_30_399, R_30_402, R_30_405, R_30_407, R_30_410, R_30_411, R_30_414, R_30_416, R_30_419, R_30_420, R_30_423, R_30_426, R_30_427, R_30_428, R_30_430, R_30_431, R_30_432, R_30_434, R_30_443, R_30_444, R_30_447, R_30_448, R_30_449, R_30_450, R_30_453, R_30_456, hw, w32_id, w64_id, if_pos, if_neg, if_true, if_false, not_true_eq_false, not_false_eq_true, nl0, nl1, nl2, nl9, Int.toNat_natCast, pushR0, pushR1, pushR2, pushR9, true_and, and_true, wgt_nil, wgt_0, wgt_1, wgt_2, lcmp_lt, lcmp_gt, lcmp_eq, lcmp_ge, lcmp_le]
                rw [hw] at hfin
                exact hfin _ (by simp [jn]) (by omega)
              · simp (disch := omega) only [R_30_0, R_30_1, R_30_3, R_30_4, R_30_6, R_30_7, R_30_10, R_30_14, R_30_17, R_30_19, R_30_22, R_30_24, R_30_25, R_30_28, R_30_31, R_30_32, R_30_35, R_30_37, R_30_38, R_30_40, R_30_41, R_30_44, R_30_46, R_30_47, R_30_49, R_30_52, R_30_54, R_30_56, R_30_59, R_30_62, R_30_64, R_30_67, R_30_69, R_30_70, R_30_73, R_30_75, R_30_77, R_30_80, R_30_82, R_30_83, R_30_86, R_30_88, R_30_91, R_30_93, R_30_95, R_30_98, R_30_101, R_30_102, R_30_103, R_30_105, R_30_107, R_30_110, R_30_112, R_30_113, R_30_116, R_30_117, R_30_119, R_30_120, R_30_121, R_30_122, R_30_125, R_30_128, R_30_130, R_30_131, R_30_134, R_30_136, R_30_137, R_30_140, R_30_142, R_30_143, R_30_146, R_30_148, R_30_149, R_30_152, R_30_155, R_30_156, R_30_157, R_30_159, R_30_160, R_30_161, R_30_162, R_30_163, R_30_164, R_30_167, R_30_168, R_30_171, R_30_172, R_30_174, R_30_176, R_30_177, R_30_180, R_30_181, R_30_183, R_30_184, R_30_185, R_30_187, R_30_190, R_30_191, R_30_194, R_30_195, R_30_196, R_30_199, R_30_201, R_30_203, R_30_204, R_30_207, R_30_208, R_30_211, R_30_212, R_30_215, R_30_217, R_30_219, R_30_222, R_30_225, R_30_228, R_30_230, R_30_231, R_30_234, R_30_235, R_30_237, R_30_238, R_30_239, R_30_240, R_30_241, R_30_242, R_30_245, R_30_247, R_30_249, R_30_252, R_30_254, R_30_256, R_30_259, R_30_262, R_30_263, R_30_266, R_30_267, R_30_269, R_30_270, R_30_271, R_30_272, R_30_274, R_30_275, R_30_277, R_30_278, R_30_280, R_30_282, R_30_283, R_30_286, R_30_288, R_30_290, R_30_291, R_30_294, R_30_296, R_30_298, R_30_301, R_30_303, R_30_305, R_30_306, R_30_309, R_30_311, R_30_313, R_30_316, R_30_318, R_30_320, R_30_321, R_30_324, R_30_326, R_30_328, R_30_331, R_30_333, R_30_335, R_30_336, R_30_339, R_30_341, R_30_343, R_30_346, R_30_348, R_30_350, R_30_351, R_30_354, R_30_356, R_30_358, R_30_361, R_30_363, R_30_365, R_30_366, R_30_369, R_30_372, R_30_374, R_30_376, R_30_379, R_30_381, R_30_383, R_30_384, R_30_387, R_30_390, R_30_392, R_30_394, R_30_395, R_30_398, R_30_399, R_30_402, R_30_405, R_30_407, R_30_410, R_30_411, R_30_414, R_30_416, R_30_419, R_30_420, R_30_423, R_30_426, R_30_427, R_30_428, R_30_430, R_30_431, R_30_432, R_30_434, R_30_443, R_30_444, R_30_447, R_30_448, R_30_449, R_30_450, R_30_453, R_30_456, hw, w32_id, w64_id, if_pos, if_neg, if_true, if_false, not_true_eq_false, not_false_eq_true, nl0, nl1, nl2, nl9, Int.toNat_natCast, pushR0, pushR1, pushR2, pushR9, true_and, and_true, wgt_nil, wgt_0, wgt_1, wgt_2, lcmp_lt, lcmp_gt, lcmp_eq, lcmp_ge, lcmp_le]
                rw [hw] at hfin
                exact hfin _ (by simp [jn]) hm
              · simp (disch := omega) only [R_30_0, R_30_1, R_30_3, R_30_4, R_30_6, R_30_7, R_30_10, R_30_14, R_30_17, R_30_19, R_30_22, R_30_24, R_30_25, R_30_28, R_30_31, R_30_32, R_30_35, R_30_37, R_30_38, R_30_40, R_30_41, R_30_44, R_30_46, R_30_47, R_30_49, R_30_52, R_30_54, R_30_56, R_30_59, R_30_62, R_30_64, R_30_67, R_30_69, R_30_70, R_30_73, R_30_75, R_30_77, R_30_80, R_30_82, R_30_83, R_30_86, R_30_88, R_30_91, R_30_93, R_30_95, R_30_98, R_30_101, R_30_102, R_30_103, R_30_105, R_30_107, R_30_110, R_30_112, R_30_113, R_30_116, R_30_117, R_30_119, R_30_120, R_30_121, R_30_122, R_30_125, R_30_128, R_30_130, R_30_131, R_30_134, R_30_136, R_30_137, R_30_140, R_30_142, R_30_143, R_30_146, R_30_148, R_30_149, R_30_152, R_30_155, R_30_156, R_30_157, R_30_159, R_30_160, R_30_161, R_30_162, R_30_163, R_30_164, R_30_167, R_30_168, R_30_171, R_30_172, R_30_174, R_30_176, R_30_177, R_30_180, R_30_181, R_30_183, R_30_184, R_30_185, R_30_187, R_30_190, R_30_191, R_30_194, R_30_195, R_30_196, R_30_199, R_30_201, R_30_203, R_30_204, R_30_207, R_30_208, R_30_211, R_30_212, R_30_215, R_30_217, R_30_219, R_30_222, R_30_225, R_30_228, R_30_230, R_30_231, R_30_234, R_30_235, R_30_237, R_30_238, R_30_239, R_30_240, R_30_241, R_30_242, R_30_245, R_30_247, R_30_249, R_30_252, R_30_254, R_30_256, R_30_259, R_30_262, R_30_263, R_30_266, R_30_267, R_30_269, R_30_270, R_30_271, R_30_272, R_30_274, R_30_275, R_30_277, R_30_278, R_30_280, R_30_282, R_30_283, R_30_286, R_30_288, R_30_290, R_30_291, R_30_294, R_30_296, R_30_298, R_30_301, R_30_303, R_30_305, R_30_306, R_30_309, R_30_311, R_30_313, R_30_316, R_30_318, R_30_320, R_30_321, R_30_324, R_30_326, R_30_328, R_30_331, R_30_333, R_30_335, R_30_336, R_30_339, R_30_341, R_30_343, R_30_346, R_30_348, R_30_350, R_30_351, R_30_354, R_30_356, R_30_358, R_30_361, R_30_363, R_30_365, R_30_366, R_30_369, R_30_372, R_30_374, R_30_376, R_30_379, R_30_381, R_30_383, R_30_384, R_30_387, R_30_390, R_30_392, R_30_394, R_30_395, R_30_398, R_30_399, R_30_402, R_30_405, R_30_407, R_30_410, R_30_411, R_30_414, R_30_416, R_30_419, R_30_420, R_30_423, R_30_426, R_30_427, R_30_428, R_30_430, R_30_431, R_30_432, R_30_434, R_30_443, R_30_444, R_30_447, R_30_448, R_30_449, R_30_450, R_30_453, R_30_456, hw, w32_id, w64_id, if_pos, if_neg, if_true, if_false, not_true_eq_false, not_false_eq_true, nl0, nl1, nl2, nl9, Int.toNat_natCast, pushR0, pushR1, pushR2, pushR9, true_and, and_true, wgt_nil, wgt_0, wgt_1, wgt_2, lcmp_lt, lcmp_gt, lcmp_eq, lcmp_ge, lcmp_le]
                rw [hw] at hfin
                have hb0 : b ≠ 0 := by omega
                have := tdiv_bd (a := a) hb0 ha.1 ha.2
                exact ⟨hb0, hfin _ (by simp [jn]) (by omega)⟩
              · simp (disch := omega) only [R_30_0, R_30_1, R_30_3, R_30_4, R_30_6, R_30_7, R_30_10, R_30_14, R_30_17, R_30_19, R_30_22, R_30_24, R_30_25, R_30_28, R_30_31, R_30_32, R_30_35, R_30_37, R_30_38, R_30_40, R_30_41, R_30_44, R_30_46, R_30_47, R_30_49, R_30_52, R_30_54, R_30_56, R_30_59, R_30_62, R_30_64, R_30_67, R_30_69, R_30_70, R_30_73, R_30_75, R_30_77, R_30_80, R_30_82, R_30_83, R_30_86, R_30_88, R_30_91, R_30_93, R_30_95, R_30_98, R_30_101, R_30_102, R_30_103, R_30_105, R_30_107, R_30_110, R_30_112, R_30_113, R_30_116, R_30_117, R_30_119, R_30_120, R_30_121, R_30_122, R_30_125, R_30_128, R_30_130, R_30_131, R_30_134, R_30_136, R_30_137, R_30_140, R_30_142, R_30_143, R_30_146, R_30_148, R_30_149, R_30_152, R_30_155, R_30_156, R_30_157, R_30_159, R_30_160, R_30_161, R_30_162, R_30_163, R_30_164, R_30_167, R_30_168, R_30_171, R_30_172, R_30_174, R_30_176, R_30_177, R_30_180, R_30_181, R_30_183, R_30_184, R_30_185, R_30_187, R_30_190, R_30_191, R_30_194, R_30_195, R_30_196, R_30_199, R_30_201, R_30_203, R_30_204, R_30_207, R_30_208, R_30_211, R_30_212, R_30_215, R_30_217, R_30_219, R_30_222, R_30_225, R_30_228, R_30_230, R_30_231, R_30_234, R_30_235, R_30_237, R_30_238, R_30_239, R_30_240, R_30_241, R_30_242, R_30_245, R_30_247, R_30_249, R_30_252, R_30_254, R_30_256, R_30_259, R_30_262, R_30_263, R_30_266, R_30_267, R_30_269, R_30_270, R_30_271, R_30_272, R_30_274, R_30_275, R_30_277, R_30_278, R_30_280, R_30_282, R_30_283, R_30_286, R_30_288, R_30_290, R_30_291, R_30_294, R_30_296, R_30_298, R_30_301, R_30_303, R_30_305, R_30_306, R_30_309, R_30_311, R_30_313, R_30_316, R_30_318, R_30_320, R_30_321, R_30_324, R_30_326, R_30_328, R_30_331, R_30_333, R_30_335, R_30_336, R_30_339, R_30_341, R_30_343, R_30_346, R_30_348, R_30_350, R_30_351, R_30_354, R_30_356, R_30_358, R_30_361, R_30_363, R_30_365, R_30_366, R_30_369, R_30_372, R_30_374, R_30_376, R_30_379, R_30_381, R_30_383, R_30_384, R_30_387, R_30_390, R_30_392, R_30_394, R_30_395, R_30_398, R_30_399, R_30_402, R_30_405, R_30_407, R_30_410, R_30_411, R_30_414, R_30_416, R_30_419, R_30_420, R_30_423, R_30_426, R_30_427, R_30_428, R_30_430, R_30_431, R_30_432, R_30_434, R_30_443, R_30_444, R_30_447, R_30_448, R_30_449, R_30_450, R_30_453, R_30_456, hw, w32_id, w64_id, if_pos, if_neg, if_true, if_false, not_true_eq_false, not_false_eq_true, nl0, nl1, nl2, nl9, Int.toNat_natCast, pushR0, pushR1, pushR2, pushR9, true_and, and_true, wgt_nil, wgt_0, wgt_1, wgt_2, lcmp_lt, lcmp_gt, lcmp_eq, lcmp_ge, lcmp_le]
                rw [hw] at hfin
                have hb0 : b ≠ 0 := by omega
                have := tmod_bd (a := a) (b := b) ha.1 ha.2
                exact ⟨hb0, hfin _ (by simp [jn]) (by omega)⟩
              · simp (disch := omega) only [R_30_0, R_30_1, R_30_3, R_30_4, R_30_6, R_30_7, R_30_10, R_30_14, R_30_17, R_30_19, R_30_22, R_30_24, R_30_25, R_30_28, R_30_31, R_30_32, R_30_35, R_30_37, R_30_38, R_30_40, R_30_41, R_30_44, R_30_46, R_30_47, R_30_49, R_30_52, R_30_54, R_30_56, R_30_59, R_30_62, R_30_64, R_30_67, R_30_69, R_30_70, R_30_73, R_30_75, R_30_77, R_30_80, R_30_82, R_30_83, R_30_86, R_30_88, R_30_91, R_30_93, R_30_95, R_30_98, R_30_101, R_30_102, R_30_103, R_30_105, R_30_107, R_30_110, R_30_112, R_30_113, R_30_116, R_30_117, R_30_119, R_30_120, R_30_121, R_30_122, R_30_125, R_30_128, R_30_130, R_30_131, R_30_134, R_30_136, R_30_137, R_30_140, R_30_142, R_30_143, R_30_146, R_30_148, R_30_149, R_30_152, R_30_155, R_30_156, R_30_157, R_30_159, R_30_160, R_30_161, R_30_162, R_30_163, R_30_164, R_30_167, R_30_168, R_30_171, R_30_172, R_30_174, R_30_176, R_30_177, R_30_180, R_30_181, R_30_183, R_30_184, R_30_185, R_30_187, R_30_190, R_30_191, R_30_194, R_30_195, R_30_196, R_30_199, R_30_201, R_30_203, R_30_204, R_30_207, R_30_208, R_30_211, R_30_212, R_30_215, R_30_217, R_30_219, R_30_222, R_30_225, R_30_228, R_30_230, R_30_231, R_30_234, R_30_235, R_30_237, R_30_238, R_30_239, R_30_240, R_30_241, R_30_242, R_30_245, R_30_247, R_30_249, R_30_252, R_30_254, R_30_256, R_30_259, R_30_262, R_30_263, R_30_266, R_30_267, R_30_269, R_30_270, R_30_271, R_30_272, R_30_274, R_30_275, R_30_277, R_30_278, R_30_280, R_30_282, R_30_283, R_30_286, R_30_288, R_30_290, R_30_291, R_30_294, R_30_296, R_30_298, R_30_301, R_30_303, R_30_305, R_30_306, R_30_309, R_30_311, R_30_313, R_30_316, R_30_318, R_30_320, R_30_321, R_30_324, R_30_326, R_30_328, R_30_331, R_30_333, R_30_335, R_30_336, R_30_339, R_30_341, R_30_343, R_30_346, R_30_348, R_30_350, R_30_351, R_30_354, R_30_356, R_30_358, R_30_361, R_30_363, R_30_365, R_30_366, R_30_369, R_30_372, R_30_374, R_30_376, R_30_379, R_30_381, R_30_383, R_30_384, R_30_387, R_30_390, R_30_392, R_30_394, R_30_395, R_30_398, R_30_399, R_30_402, R_30_405, R_30_407, R_30_410, R_30_411, R_30_414, R_30_416, R_30_419, R_30_420, R_30_423, R_30_426, R_30_427, R_30_428, R_30_430, R_30_431, R_30_432, R_30_434, R_30_443, R_30_444, R_30_447, R_30_448, R_30_449, R_30_450, R_30_453, R_30_456, hw, w32_id, w64_id, if_pos, if_neg, if_true, if_false, not_true_eq_false, not_false_eq_true, nl0, nl1, nl2, nl9, Int.toNat_natCast, pushR0, pushR1, pushR2, pushR9, true_and, and_true, wgt_nil, wgt_0, wgt_1, wgt_2, lcmp_lt, lcmp_gt, lcmp_eq, lcmp_ge, lcmp_le]
                rw [hw] at hfin
                split
                · exact hfin _ (by simp [jn]; omega) (by omega)
                · exact hfin _ (by simp [jn]; omega) (by omega)
              · simp (disch := omega) only [R_30_0, R_30_1, R_30_3, R_30_4, R_30_6, R_30_7, R_30_10, R_30_14, R_30_17, R_30_19, R_30_22, R_30_24, R_30_25, R_30_28, R_30_31, R_30_32, R_30_35, R_30_37, R_30_38, R_30_40, R_30_41, R_30_44, R_30_46, R_30_47, R_30_49, R_30_52, R_30_54, R_30_56, R_30_59, R_30_62, R_30_64, R_30_67, R_30_69, R_30_70, R_30_73, R_30_75, R_30_77, R_30_80, R_30_82, R_30_83, R_30_86, R_30_88, R_30_91, R_30_93, R_30_95, R_30_98, R_30_101, R_30_102, R_30_103, R_30_105, R_30_107, R_30_110, R_30_112, R_30_113, R_30_116, R_30_117, R_30_119, R_30_120, R_30_121, R_30_122, R_30_125, R_30_128, R_30_130, R_30_131, R_30_134, R_30_136, R_30_137, R_30_140, R_30_142, R_30_143, R_30_146, R_30_148, R_30_149, R_30_152, R_30_155, R_30_156, R_30_157, R_30_159, R_30_160, R_30_161, R_30_162, R_30_163, R_30_164, R_30_167, R_30_168, R_30_171, R_30_172, R_30_174, R_30_176, R_30_177, R_30_180, R_30_181, R_30_183, R_30_184, R_30_185, R_30_187, R_30_190, R_30_191, R_30_194, R_30_195, R_30_196, R_30_199, R_30_201, R_30_203, R_30_204, R_30_207, R_30_208, R_30_211, R_30_212, R_30_215, R_30_217, R_30_219, R_30_222, R_30_225, R_30_228, R_30_230, R_30_231, R_30_234, R_30_235, R_30_237, R_30_238, R_30_239, R_30_240, R_30_241, R_30_242, R_30_245, R_30_247, R_30_249, R_30_252, R_30_254, R_30_256, R_30_259, R_30_262, R_30_263, R_30_266, R_30_267, R_30_269, R_30_270, R_30_271, R_30_272, R_30_274, R_30_275, R_30_277, R_30_278, R_30_280, R_30_282, R_30_283, R_30_286, R_30_288, R_30_290, R_30_291, R_30_294, R_30_296, R_30_298, R_30_301, R_30_303, R_30_305, R_30_306, R_30_309, R_30_311, R_30_313, R_30_316, R_30_318, R_30_320, R_30_321, R_30_324, R_30_326, R_30_328, R_30_331, R_30_333, R_30_335, R_30_336, R_30_339, R_30_341, R_30_343, R_30_346, R_30_348, R_30_350, R_30_351, R_30_354, R_30_356, R_30_358, R_30_361, R_30_363, R_30_365, R_30_366, R_30_369, R_30_372, R_30_374, R_30_376, R_30_379, R_30_381, R_30_383, R_30_384, R_30_387, R_30_390, R_30_392, R_30_394, R_30_395, R_30_398, R_30_399, R_30_402, R_30_405, R_30_407, R_30_410, R_30_411, R_30_414, R_30_416, R_30_419, R_30_420, R_30_423, R_30_426, R_30_427, R_30_428, R_30_430, R_30_431, R_30_432, R_30_434, R_30_443, R_30_444, R_30_447, R_30_448, R_30_449, R_30_450, R_30_453, R_30_456, hw, w32_id, w64_id, if_pos, if_neg, if_true, if_false, not_true_eq_false, not_false_eq_true, nl0, nl1, nl2, nl9, Int.toNat_natCast, pushR0, pushR1, pushR2, pushR9, true_and, and_true, wgt_nil, wgt_0, wgt_1, wgt_2, lcmp_lt, lcmp_gt, lcmp_eq, lcmp_ge, lcmp_le]
                rw [hw] at hfin
                split
                · exact hfin _ (by simp [jn]; omega) (by omega)
                · exact hfin _ (by simp [jn]; omega) (by omega)
              · simp (disch := omega) only [R_30_0, R_30_1, R_30_3, R_30_4, R_30_6, R_30_7, R_30_10, R_30_14, R_30_17, R_30_19, R_30_22, R_30_24, R_30_25, R_30_28, R_30_31, R_30_32, R_30_35, R_30_37, R_30_38, R_30_40, R_30_41, R_30_44, R_30_46, R_30_47, R_30_49, R_30_52, R_30_54, R_30_56, R_30_59, R_30_62, R_30_64, R_30_67, R_30_69, R_30_70, R_30_73, R_30_75, R_30_77, R_30_80, R_30_82, R_30_83, R_30_86, R_30_88, R_30_91, R_30_93, R_30_95, R_30_98, R_30_101, R_30_102, R_30_103, R_30_105, R_30_107, R_30_110, R_30_112, R_30_113, R_30_116, R_30_117, R_30_119, R_30_120, R_30_121, R_30_122, R_30_125, R_30_128, R_30_130, R_30_131, R_30_134, R_30_136, R_30_137, R_30_140, R_30_142, R_30_143, R_30_146, R_30_148, R_30_149, R_30_152, R_30_155, R_30_156, R_30_157, R_30_159, R_30_160, R_30_161, R_30_162, R_30_163, R_30_164, R_30_167, R_30_168, R_30_171, R_30_172, R_30_174, R_30_176, R_30_177, R_30_180, R_30_181, R_30_183, R_30_184, R_30_185, R_30_187, R_30_190, R_30_191, R_30_194, R_30_195, R_30_196, R_30_199, R_30_201, R_30_203, R_30_204, R_30_207, R_30_208, R_30_211, R_30_212, R_30_215, R_30_217, R_30_219, R_30_222, R_30_225, R_30_228, R_30_230, R_30_231, R_30_234, R_30_235, R_30_237, R_30_238, R_30_239, R_30_240, R_30_241, R_30_242, R_30_245, R_30_247, R_30_249, R_30_252, R_30_254, R_30_256, R_30_259, R_30_262, R_30_263, R_30_266, R_30_267, R_30_269, R_30_270, R_30_271, R_30_272, R_30_274, R_30_275, R_30_277, R_30_278, R_30_280, R_30_282, R_30_283, R_30_286, R_30_288, R_30_290, R_30_291, R_30_294, R_30_296, R_30_298, R_30_301, R_30_303, R_30_305, R_30_306, R_30_309, R_30_311, R_30_313, R_30_316, R_30_318, R_30_320, R_30_321, R_30_324, R_30_326, R_30_328, R_30_331, R_30_333, R_30_335, R_30_336, R_30_339, R_30_341, R_30_343, R_30_346, R_30_348, R_30_350, R_30_351, R_30_354, R_30_356, R_30_358, R_30_361, R_30_363, R_30_365, R_30_366, R_30_369, R_30_372, R_30_374, R_30_376, R_30_379, R_30_381, R_30_383, R_30_384, R_30_387, R_30_390, R_30_392, R_30_394, R_30_395, R_30_398, R_30_399, R_30_402, R_30_405, R_30_407, R_30_410, R_30_411, R_30_414, R_30_416, R_30_419, R_30_420, R_30_423, R_30_426, R_30_427, R_30_428, R_30_430, R_30_431, R_30_432, R_30_434, R_30_443, R_30_444, R_30_447, R_30_448, R_30_449, R_30_450, R_30_453, R_30_456, hw, w32_id, w64_id, if_pos, if_neg, if_true, if_false, not_true_eq_false, not_false_eq_true, nl0, nl1, nl2, nl9, Int.toNat_natCast, pushR0, pushR1, pushR2, pushR9, true_and, and_true, wgt_nil, wgt_0, wgt_1, wgt_2, lcmp_lt, lcmp_gt, lcmp_eq, lcmp_ge, lcmp_le]
                rw [hw] at hfin
                split
                · exact hfin _ (by simp [jn]; omega) (by omega)
                · exact hfin _ (by simp [jn]; omega) (by omega)
            split
            · exact ⟨⟨by omega, by omega⟩, ⟨by omega, by omega⟩, hmain (by omega)⟩
            · split
              · exact hbrk (by rw [htl, if_pos (by omega)])
              · split
                · exact ⟨⟨by omega, by omega⟩, ⟨by omega, by omega⟩, hmain (by omega)⟩
                · exact hbrk (by rw [htl, if_pos (by omega)])
      · simp (disch := omega) only [R_30_0, R_30_1, R_30_3, R_30_4, R_30_6, R_30_7, R_30_10, R_30_14, R_30_17, R_30_19, R_30_22, R_30_24, R_30_25, R_30_28, R_30_31, R_30_32, R_30_35, R_30_37, R_30_38, R_30_40, R_30_41, R_30_44, R_30_46, R_30_47, R_30_49, R_30_52, R_30_54, R_30_56, R_30_59, R_30_62, R_30_64, R_30_67, R_30_69, R_30_70, R_30_73, R_30_75, R_30_77, R_30_80, R_30_82, R_30_83, R_30_86, R_30_88, R_30_91, R_30_93, R_30_95, R_30_98, R_30_101, R_30_102, R_30_103, R_30_105, R_30_107, R_30_110, R_30_112, R_30_113, R_30_116, R_30_117, R_30_119, R_30_120, R_30_121, R_30_122, R_30_125, R_30_128, R_30_130, R_30_131, R_30_134, R_30_136, R_30_137, R_30_140, R_30_142, R_30_143, R_30_146, R_30_148, R_30_149, R_30_152, R_30_155, R_30_156, R_30_157, R_30_159, R_30_160, R_30_161, R_30_162, R_30_163, R_30_164, R_30_167, R_30_168, R_30_171, R_30_172, R_30_174, R_30_176, R_30_177, R_30_180, R_30_181, R_30_183, R_30_184, R_30_185, R_30_187, R_30_190, R_30_191, R_30_194, R_30_195, R_30_196, R_30_199, R_30_201, R_30_203, R_30_204, R_30_207, R_30_208, R_30_211, R_30_212, R_30_215, R_30_217, R_30_219, R_30_222, R_30_225, R_30_228, R_30_230, R_30_231, R_30_234, R_30_235, R_30_237, R_30_238, R_30_239, R_30_240, R_30_241, R_30_242, R_30_245, R_30_247, R_30_249, R_30_252, R_30_254, R_30_256, R_30_259, R_30_262, R_30_263, R_30_266, R_30_267, R_30_269, R_30_270, R_30_271, R_30_272, R_30_274, R_30_275, R_30_277, R_30_278, R_30_280, R_30_282, R_30_283, R_30_286, R_30_288, R_30_290, R_30_291, R_30_294, R_30_296, R_30_298, R_30_301, R_30_303, R_30_305, R_30_306, R_30_309, R_30_311, R_30_313, R_30_316, R_30_318, R_30_320, R_30_321, R_30_324, R_30_326, R_30_328, R_30_331, R_30_333, R_30_335, R_30_336, R_30_339, R_30_341, R_30_343, R_30_346, R_30_348, R_30_350, R_30_351, R_30_354, R_30_356, R_30_358, R_30_361, R_30_363, R_30_365, R_30_366, R_30_369, R_30_372, R_30_374, R_30_376, R_30_379, R_30_381, R_30_383, R_30_384, R_30_387, R_30_390, R_30_392, R_30_394, R_30_395, R_30_398, R_30_399, R_30_402, R_30_403, R_30_405, R_30_407, R_30_410, R_30_411, R_30_414, R_30_416, R_30_419, R_30_420, R_30_423, R_30_426, R_30_427, R_30_428, R_30_430, R_30_431, R_30_432, R_30_434, R_30_443, R_30_444, R_30_447, R_30_448, R_30_449, R_30_450, R_30_453, R_30_456, hw, w32_id, w64_id, if_pos, if_neg, if_true, if_false, not_true_eq_false, not_false_eq_true, nl0, nl1, nl2, nl9, Int.toNat_natCast, pushR0, pushR1, pushR2, pushR9, true_and, and_true, wgt_nil, wgt_0, wgt_1, wgt_2, lcmp_lt, lcmp_gt, lcmp_eq, lcmp_ge, lcmp_le]
        refine hEnd _ _ _ _ _ _ _ _ _ _ _ _ hs hk ?_
        have := hq h' hh
        unfold tlF at this
        rwa [if_neg (by simpa using hsN), if_pos hw] at this
    · rw [if_pos (show ((N : Int) ≤ step) by omega)]
      refine hEnd _ _ _ _ _ _ _ _ _ _ _ _ hs hk ?_
      have := hq h' hh
      unfold tlF at this
      rwa [if_pos hsN] at this
end TELLW
section TELLO
variable {sc : Nat × (Nat → Int)} {d : Nat} {sh : Shp} {sl : Nat} {h : Sto} {Q : Pst}
theorem sp_tellW {p po pa N No F fa ks : Nat} {v : Int} {ev : Ev} {f : Nat → Int} (hp : shAt sh (p : Int) = some (0, 9)) (hN : h p 1 = (N : Int)) (hN4 : N ≤ 400) (hNo : N ≤ No) (hop : h p 8 = (po : Int)) (hso : shAt sh (po : Int) = some (1, No)) (har : h p 9 = (pa : Int)) (hsa : shAt sh (pa : Int) = some (1, No)) (ho : ∀ i, i < N → 0 ≤ h po i ∧ h po i ≤ 13) (ha : ∀ i, i < N → 0 ≤ h pa i ∧ h pa i < 2147483648)
    (hF : shAt sh (fa : Int) = some (1, F)) (hF4 : F ≤ 400) (hK : shAt sh (ks : Int) = some (2, 64)) (hne : p ≠ ks ∧ po ≠ ks ∧ pa ≠ ks ∧ fa ≠ ks) (H : TellC (h po) (h pa) N F v (some ev)) (hf : FOK f) (hfe : ∀ i, i < F → w32 (h fa i) = f i)
    (hq : ∀ h', (∀ q, q ≠ ks → h' q = h q) → Q (1, (ev f).getD (-2000000000)) sh sl h') : WM sc d 30 [(2, (p : Int)), (0, v), (2, (fa : Int)), (2, (ks : Int))] sh sl h Q := by
  obtain ⟨a, h1, h2, h3⟩ := H
  subst h1
  rw [← h3 f hf] at hq
  simp only [E_30, R_30_0, R_30_1, R_30_3, R_30_4, R_30_6, R_30_7, R_30_10, hp, true_and, Int.toNat_natCast, nl2, nl9, nl0, hN]
  exact lp_tellW hp hN hN4 hop har hso hsa hNo hF hF4 hK hne.1 hne.2.1 hne.2.2.1 hne.2.2.2 ho ha hfe hf N a [] h _ _ _ _ _ _ _ _ _ _ _ (by simp) rfl rfl hN4 (by omega) trivial (by simp) (by simp) (fun _ _ => rfl) hq
end TELLO
/-! ===== orders: what is done, pure ===== -/
/-- board, done, latest, kept boards, their deeds, how many -/
abbrev OSt : Type := (Nat → Int) × Int × Int × (Nat → Int) × (Nat → Int) × Nat
/-- the facts, not wrapped -/
def rwA (L : List Law) (n m : Nat) (x : OSt) (w : Nat) : Int := if w = 0 then x.1 5 else if w = 1 then x.2.1 else if w = 2 then x.2.2.1 else if w = 3 then (cnt (inP x.1) n : Int) else if w < 7 then (if w - 4 < m then paidA x.1 L (w - 4) else -1) else if w < 10 then (if w - 7 < m then quOnA x.1 L (w - 7) else -1) else (if w - 10 < n then spotA x.1 m (w - 10) else -1)
def fcA (L : List Law) (n m : Nat) (x : OSt) : Nat → Int := fun w => w32 (rwA L n m x w)
theorem fcA_ok {L : List Law} {n m : Nat} {x : OSt} : FOK (fcA L n m x) := fun i => w32_range _
section RWA
variable {L : List Law} {n m : Nat} {x : OSt}
theorem rwA_4 {l : Nat} (hl : l < 3) : rwA L n m x (4 + l) = if l < m then paidA x.1 L l else -1 := by
  unfold rwA
  rw [if_neg (by omega), if_neg (by omega), if_neg (by omega), if_neg (by omega), if_pos (by omega), show 4 + l - 4 = l by omega]
theorem rwA_7 {l : Nat} (hl : l < 3) : rwA L n m x (7 + l) = if l < m then quOnA x.1 L l else -1 := by
  unfold rwA
  rw [if_neg (by omega), if_neg (by omega), if_neg (by omega), if_neg (by omega), if_neg (by omega), if_pos (by omega), show 7 + l - 7 = l by omega]
theorem rwA_10 {s : Nat} : rwA L n m x (10 + s) = if s < n then spotA x.1 m s else -1 := by
  unfold rwA
  rw [if_neg (by omega), if_neg (by omega), if_neg (by omega), if_neg (by omega), if_neg (by omega), if_neg (by omega), show 10 + s - 10 = s by omega]
end RWA
def dA (G : Nat → Int) (L : List Law) (n m k : Nat) (a b : Int) : Dd := if k = 0 then stickA G L n m a b else if k = 1 then peelA G m a else if k = 2 then cancelA G L m a else passA G L n m
theorem dA_ok {G : Nat → Int} {L : List Law} {n m k : Nat} {a b : Int} (W : SW G n m L) (B : BW G n m) : Dok G n m (dA G L n m k a b) := by
  unfold dA
  split
  · exact stick_ok W B
  · split
    · exact peel_ok W B
    · split
      · exact cancel_ok W B
      · exact pass_ok W B
theorem dA_act {G : Nat → Int} {L : List Law} {n m k : Nat} {a b : Int} (hk : k ≤ 3) : ((k : Int) = 0 ∧ dA G L n m k a b = stickA G L n m a b) ∨ ((k : Int) = 1 ∧ dA G L n m k a b = peelA G m a) ∨ ((k : Int) = 2 ∧ dA G L n m k a b = cancelA G L m a) ∨ ((k : Int) = 3 ∧ dA G L n m k a b = passA G L n m) := by
  rcases (show k = 0 ∨ k = 1 ∨ k = 2 ∨ k = 3 by omega) with rfl | rfl | rfl | rfl
  · exact Or.inl ⟨rfl, rfl⟩
  · exact Or.inr (Or.inl ⟨rfl, rfl⟩)
  · exact Or.inr (Or.inr (Or.inl ⟨rfl, rfl⟩))
  · exact Or.inr (Or.inr (Or.inr ⟨rfl, rfl⟩))
def evO (o : Option Ev) (f : Nat → Int) : Option Int := match o with
  | none => some (-1)
  | some ev => ev f
def dueO (o : Option Ev) (f : Nat → Int) : Bool := match o with
  | none => true
  | some ev => decide (ev f = some 1)
def remU2 (u : Nat → Int) (k : Nat) (G : Nat → Int) : Nat → Int := fun i => if k < 16 then (if i < 44 * k then u i else if i < 704 then G (5 + (i - 44 * k)) else u i) else (if i < 660 then u (i + 44) else if i < 704 then G (5 + (i - 660)) else u i)
def remS2 (s : Nat → Int) (k : Nat) (deed : Int) : Nat → Int := fun j => if k < 16 then (if j < k then s j else deed) else (if j < 15 then s (j + 1) else deed)
theorem rem2_ok {u s G : Nat → Int} {k : Nat} {deed : Int} (hk : k ≤ 16) : RemU u s (remU2 u k G) (remS2 s k deed) k G deed := by
  by_cases h : k < 16
  · refine ⟨Or.inl ⟨h, fun i hi => ?_, fun i hi => ?_, fun j hj => ?_, ?_⟩, fun i hi => ?_⟩
    · unfold remU2; rw [if_pos h, if_pos hi]
    · unfold remU2; rw [if_pos h, if_neg (by omega), if_pos (by omega), show 44 * k + i - 44 * k = i by omega]
    · unfold remS2; rw [if_pos h, if_pos hj]
    · unfold remS2; rw [if_pos h, if_neg (by omega)]
    · unfold remU2; rw [if_pos h, if_neg (by omega), if_neg (by omega)]
  · refine ⟨Or.inr ⟨by omega, fun i hi => ?_, fun i hi => ?_, fun j hj => ?_, ?_⟩, fun i hi => ?_⟩
    · unfold remU2; rw [if_neg h, if_pos hi]
    · unfold remU2; rw [if_neg h, if_neg (by omega), if_pos (by omega), show 660 + i - 660 = i by omega]
    · unfold remS2; rw [if_neg h, if_pos hj]
    · unfold remS2; rw [if_neg h, if_neg (by omega)]
    · unfold remU2; rw [if_neg h, if_neg (by omega), if_neg (by omega)]
/-- what two rememberings of the same leave -/
theorem RemU.two {u s u2 s2 v t v2 t2 G : Nat → Int} {k : Nat} {deed : Int} (A : RemU u s u2 s2 k G deed) (B : RemU v t v2 t2 k G deed) (eu : ∀ i, i < 44 * k → u i = v i) (es : ∀ j, j < k → s j = t j) : (∀ i, i < 44 * kNext k → u2 i = v2 i) ∧ ∀ j, j < kNext k → s2 j = t2 j := by
  unfold kNext
  rcases A.1 with ⟨a1, a2, a3, a4, a5⟩ | ⟨a1, a2, a3, a4, a5⟩
  · rcases B.1 with ⟨b1, b2, b3, b4, b5⟩ | ⟨b1, -⟩
    case inr => omega
    rw [if_pos a1]
    refine ⟨fun i hi => ?_, fun j hj => ?_⟩
    · by_cases c : i < 44 * k
      · rw [a2 i c, b2 i c, eu i c]
      · have x := a3 (i - 44 * k) (by omega)
        have y := b3 (i - 44 * k) (by omega)
        rw [show 44 * k + (i - 44 * k) = i by omega] at x y
        rw [x, y]
    · by_cases c : j < k
      · rw [a4 j c, b4 j c, es j c]
      · rw [show j = k by omega, a5, b5]
  · rcases B.1 with ⟨b1, -⟩ | ⟨b1, b2, b3, b4, b5⟩
    case inl => omega
    rw [if_neg (by omega)]
    subst a1
    refine ⟨fun i hi => ?_, fun j hj => ?_⟩
    · by_cases c : i < 660
      · rw [a2 i c, b2 i c, eu _ (by omega)]
      · have x := a3 (i - 660) (by omega)
        have y := b3 (i - 660) (by omega)
        rw [show 660 + (i - 660) = i by omega] at x y
        rw [x, y]
    · by_cases c : j < 15
      · rw [a4 j c, b4 j c, es _ (by omega)]
      · rw [show j = 15 by omega, a5, b5]
theorem HR.pile {c d u s u2 s2 : Nat → Int} {r t g6 g7 : Int} {n m k : Nat} (H : HR c d u s r t g6 g7 n m) (hn : n ≤ 10) (hm : m ≤ 3) (ht : t = k) (eu : ∀ i, i < 44 * k → u2 i = u i) (es : ∀ j, j < k → s2 j = s j) : HR c d u2 s2 r t g6 g7 n m := by
  obtain ⟨a, k', h1, h2, h3, h4, h5⟩ := H
  have : k' = k := by omega
  subst this
  refine ⟨a, k', h1, h2, h3, h4, fun j hj => ?_⟩
  obtain ⟨b1, b2, b3, b4, b5, b6⟩ := h5 j hj
  have eq : ∀ i, 5 ≤ i → i < 49 → u2 (44 * j + i - 5) = u (44 * j + i - 5) := fun i p q => eu _ (by omega)
  rw [es j hj, eu _ (by omega), eu _ (by omega)]
  exact ⟨b1.of b2 hn hm (fun _ _ => rfl) eq, b2.of hn hm eq, b3, b4, b5, b6⟩
/-- one time of a clause -/
def stO (L : List Law) (n m : Nat) (cl : Clx) (x : OSt) : Option OSt :=
  if dueO cl.2.1 (fcA L n m x) = true then
    (match evO cl.2.2.1 (fcA L n m x), evO cl.2.2.2.1 (fcA L n m x) with
    | some a, some b => if (dA x.1 L n m cl.1 a b).1 < 0 then none else some ((dA x.1 L n m cl.1 a b).2, x.2.1 + 1, if cl.1 = 2 then (dA x.1 L n m cl.1 a b).1 else x.2.2.1, remU2 x.2.2.2.1 x.2.2.2.2.2 x.1, remS2 x.2.2.2.2.1 x.2.2.2.2.2 (cl.1 : Int), kNext x.2.2.2.2.2)
    | _, _ => none)
  else some x
def tmO (L : List Law) (n m : Nat) (cl : Clx) : Nat → OSt → Option OSt
  | 0, x => some x
  | r + 1, x => match stO L n m cl x with
    | none => none
    | some y => tmO L n m cl r y
def rnO (L : List Law) (n m : Nat) : List Clx → Nat → OSt → Sum Nat OSt
  | [], _, x => .inr x
  | cl :: r, i, x => match tmO L n m cl cl.2.2.2.2.1 x with
    | none => .inl i
    | some y => rnO L n m r (i + 1) y
def OOK (L : List Law) (n m : Nat) (G0 : Nat → Int) (x : OSt) : Prop := SW x.1 n m L ∧ BW x.1 n m ∧ (∀ i, (i < 5 ∨ i = 6 ∨ i = 7 ∨ 49 ≤ i) → x.1 i = G0 i) ∧ x.2.2.2.2.2 ≤ 16
/-- how many were run, and what the latest cancel told, stay small -/
def ODn (x : OSt) (k : Nat) : Prop := (0 ≤ x.2.1 ∧ x.2.1 ≤ k) ∧ -1 ≤ x.2.2.1 ∧ x.2.2.1 ≤ 80
theorem spotA_bd {G : Nat → Int} {n m s : Nat} (B : BW G n m) : -1 ≤ spotA G m s ∧ spotA G m s ≤ 5 := by
  unfold spotA
  split
  · rename_i h
    have b := B.2.2.1 (G (8 + s)).toNat (by omega)
    have q := spotL_bd (f := fun i => G (34 + 5 * (G (8 + s)).toNat + i)) (s := (s : Int)) (n := (G (31 + (G (8 + s)).toNat)).toNat)
    omega
  · omega
theorem fcA_n {L : List Law} {n m : Nat} {G0 : Nat → Int} {x : OSt} {k : Nat} (O : OOK L n m G0 x) (D : ODn x k) (hk : k ≤ 1000) : FNB (fcA L n m x) := by
  intro w
  have r : -1 ≤ rwA L n m x w ∧ rwA L n m x w ≤ 1000 := by
    obtain ⟨⟨d1, d2⟩, d3, d4⟩ := D
    have b5 := O.2.1.1
    have cl := cnt_le (inP x.1) n
    have w1 := O.1.1
    unfold rwA
    split
    · omega
    split
    · omega
    split
    · omega
    split
    · omega
    split
    · split
      · have := paidA_bd O.1 O.2.1 (l := w - 4) (by assumption)
        omega
      · omega
    split
    · split
      · have := quOnA_bd O.1 O.2.1 (l := w - 7) (by assumption)
        omega
      · omega
    split
    · have := spotA_bd (s := w - 10) O.2.1
      omega
    · omega
  show -2000000000 < w32 (rwA L n m x w)
  rw [w32_id (by omega) (by omega)]
  omega
theorem kNext_le {k : Nat} (h : k ≤ 16) : kNext k ≤ 16 := by unfold kNext; split <;> omega
section OPURE
variable {L : List Law} {n m : Nat} {G0 : Nat → Int} {cl : Clx}
theorem stO_ok {x y : OSt} (O : OOK L n m G0 x) (e : stO L n m cl x = some y) : OOK L n m G0 y ∧ x.2.1 ≤ y.2.1 ∧ y.2.1 ≤ x.2.1 + 1 := by
  unfold stO at e
  split at e
  · split at e
    · rename_i a b h1 h2
      split at e
      · cases e
      · injection e with e
        subst e
        have D : Dok x.1 n m (dA x.1 L n m cl.1 a b) := dA_ok O.1 O.2.1
        refine ⟨⟨O.1.of D.2.2.2, D.2.2.1, fun i hi => (D.2.2.2 i hi).trans (O.2.2.1 i hi), kNext_le O.2.2.2⟩, ?_, ?_⟩
        · show x.2.1 ≤ x.2.1 + 1; omega
        · show x.2.1 + 1 ≤ x.2.1 + 1; omega
    · cases e
  · injection e with e
    subst e
    exact ⟨O, by omega, by omega⟩
theorem stO_dn {x y : OSt} {k : Nat} (O : OOK L n m G0 x) (V : ODn x k) (e : stO L n m cl x = some y) : ODn y (k + 1) := by
  obtain ⟨⟨v1, v2⟩, v3, v4⟩ := V
  unfold stO at e
  split at e
  · split at e
    · rename_i a b h1 h2
      split at e
      · cases e
      · rename_i hz
        injection e with e
        subst e
        have D : Dok x.1 n m (dA x.1 L n m cl.1 a b) := dA_ok O.1 O.2.1
        have D1 := D.1
        refine ⟨⟨?_, ?_⟩, ?_⟩
        · show 0 ≤ x.2.1 + 1; omega
        · show x.2.1 + 1 ≤ ((k + 1 : Nat) : Int); omega
        · show -1 ≤ (if cl.1 = 2 then (dA x.1 L n m cl.1 a b).1 else x.2.2.1) ∧ (if cl.1 = 2 then (dA x.1 L n m cl.1 a b).1 else x.2.2.1) ≤ 80
          split <;> omega
    · cases e
  · injection e with e
    subst e
    exact ⟨⟨v1, by omega⟩, v3, v4⟩
theorem tmO_dn : ∀ (r k : Nat) (x y : OSt), OOK L n m G0 x → ODn x k → tmO L n m cl r x = some y → ODn y (k + r) := by
  intro r
  induction r with
  | zero =>
    intro k x y O V e
    simp only [tmO] at e
    injection e with e
    subst e
    exact V
  | succ r ih =>
    intro k x y O V e
    simp only [tmO] at e
    split at e
    · cases e
    · rename_i z hz
      have b := ih (k + 1) z y (stO_ok O hz).1 (stO_dn O V hz) e
      rw [show k + (r + 1) = k + 1 + r by omega]
      exact b
theorem ODn.mono {x : OSt} {k k2 : Nat} (V : ODn x k) (h : k ≤ k2) : ODn x k2 := ⟨⟨V.1.1, by have := V.1.2; omega⟩, V.2⟩
theorem tmO_ok : ∀ (r : Nat) (x y : OSt), OOK L n m G0 x → tmO L n m cl r x = some y → OOK L n m G0 y ∧ x.2.1 ≤ y.2.1 ∧ y.2.1 ≤ x.2.1 + r := by
  intro r
  induction r with
  | zero =>
    intro x y O e
    simp only [tmO] at e
    injection e with e
    subst e
    exact ⟨O, by omega, by omega⟩
  | succ r ih =>
    intro x y O e
    simp only [tmO] at e
    split at e
    · cases e
    · rename_i z hz
      have a := stO_ok O hz
      have b := ih z y a.1 e
      exact ⟨b.1, by omega, by omega⟩
theorem rnO_ok : ∀ (R : List Clx) (i : Nat) (x y : OSt), (∀ cl ∈ R, cl.2.2.2.2.1 ≤ 20) → OOK L n m G0 x → rnO L n m R i x = .inr y → OOK L n m G0 y ∧ x.2.1 ≤ y.2.1 ∧ y.2.1 ≤ x.2.1 + 20 * R.length := by
  intro R
  induction R with
  | nil =>
    intro i x y _ O e
    simp only [rnO] at e
    injection e with e
    subst e
    exact ⟨O, by omega, by simp⟩
  | cons cl R ih =>
    intro i x y ht O e
    simp only [rnO] at e
    split at e
    · cases e
    · rename_i z hz
      have a := tmO_ok _ _ _ O hz
      have b := ih _ z y (fun c hc => ht c (List.mem_cons_of_mem _ hc)) a.1 e
      have t := ht cl (by simp)
      rw [List.length_cons]
      exact ⟨b.1, by omega, by omega⟩
theorem rnO_lt : ∀ (R : List Clx) (i e : Nat) (x : OSt), rnO L n m R i x = .inl e → e < i + R.length := by
  intro R
  induction R with
  | nil =>
    intro i e x h
    simp only [rnO] at h
    cases h
  | cons cl R ih =>
    intro i e x h
    simp only [rnO] at h
    rw [List.length_cons]
    split at h
    · injection h with h
      omega
    · have := ih _ _ _ h
      omega
end OPURE
