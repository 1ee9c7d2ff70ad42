/-! ===== the law: a call of each kind ===== -/
section CASES
variable {sc : Nat × (Nat → Int)} {d : Nat} {sh : Shp} {sl : Nat} {h : Sto} {Q : Pst} {I : Int}
theorem L_0 (hr : ∀ j, -2147483648 ≤ sc.2 j ∧ sc.2 j < 2147483648) (hB : ∀ z : Int, 1 ≤ z → z ≤ 5 → 0 ≤ w32 (I + z) ∧ w32 (I + z) < sc.1) (IN : INV sh h) (hq : ∀ sh2 sl2 h2, sh2.length ≤ sh.length + 9 → sl2 ≤ sl + 900 → INV sh2 h2 → WF sc (d + 101) 282 1202 [(2, -2), (2, 0), (2, 85), (0, I)] [] sh2 sl2 h2 Q) : WF sc (d + 101) 282 204 [(2, -2), (2, 0), (2, 85), (0, I)] [] sh sl h Q := by
  simp only [R_282_204, R_282_205, R_282_206, R_282_207, R_282_208, R_282_209, R_282_210, R_282_211, R_282_212, R_282_213, R_282_214, R_282_215, R_282_216, R_282_217, R_282_218, R_282_219, R_282_220, R_282_221, R_282_222, R_282_223, R_282_224, R_282_225]
  refine ⟨hB 1 (by decide) (by decide), ?_⟩
  refine ⟨hB 2 (by decide) (by decide), ?_⟩
  refine ⟨hB 3 (by decide) (by decide), ?_⟩
  refine ⟨hB 4 (by decide) (by decide), ?_⟩
  refine ⟨⟨fs_0 IN.fx, by decide⟩, WM.mono (fun r sh1 sl1 h1 hw => ?_) (WM.pre ((op_stamp (hr _) (hr _) (hr _) (hr _)) sc d sh sl h IN))⟩
  obtain ⟨hw, dy, e⟩ := hw
  have s85 : shAt sh1 85 = some (0, 12) := by rw [e]; exact shAt_app (fs_85 IN.fx)
  simp only [R_282_228, R_282_229, R_282_230, R_282_231, R_282_232, R_282_233, R_282_234, R_282_235, R_282_236, R_282_237, R_282_238, R_282_239, R_282_240, R_282_241, R_282_242, R_282_243, R_282_244, R_282_245, R_282_246, R_282_247, R_282_248, R_282_249]
  refine ⟨hB 1 (by decide) (by decide), ?_⟩
  refine ⟨hB 2 (by decide) (by decide), ?_⟩
  refine ⟨hB 3 (by decide) (by decide), ?_⟩
  refine ⟨hB 4 (by decide) (by decide), ?_⟩
  refine ⟨⟨s85, wgt_p r⟩, WM.mono (fun r2 sh2 sl2 h2 hz => ?_) hw⟩
  obtain ⟨v, e1, e2, l1, l2, I2⟩ := hz
  subst e1 e2
  simp only [pushR0]
  rw [R_282_252, if_pos rfl]
  exact hq sh2 sl2 h2 l1 l2 I2
theorem L_1 (hr : ∀ j, -2147483648 ≤ sc.2 j ∧ sc.2 j < 2147483648) (hB : ∀ z : Int, 1 ≤ z → z ≤ 5 → 0 ≤ w32 (I + z) ∧ w32 (I + z) < sc.1) (IN : INV sh h) (hq : ∀ sh2 sl2 h2, sh2.length ≤ sh.length + 9 → sl2 ≤ sl + 900 → INV sh2 h2 → WF sc (d + 101) 282 1202 [(2, -2), (2, 0), (2, 85), (0, I)] [] sh2 sl2 h2 Q) : WF sc (d + 101) 282 257 [(2, -2), (2, 0), (2, 85), (0, I)] [] sh sl h Q := by
  simp only [R_282_257, R_282_258, R_282_259, R_282_260, R_282_261, R_282_262, R_282_263, R_282_264, R_282_265, R_282_266, R_282_267, R_282_268]
  refine ⟨hB 1 (by decide) (by decide), ?_⟩
  refine ⟨hB 2 (by decide) (by decide), ?_⟩
  refine ⟨⟨fs_0 IN.fx, by decide⟩, WM.mono (fun r sh1 sl1 h1 hw => ?_) (WM.pre ((op_of (hr _) (hr _)) sc d sh sl h IN))⟩
  obtain ⟨hw, dy, e⟩ := hw
  have s85 : shAt sh1 85 = some (0, 12) := by rw [e]; exact shAt_app (fs_85 IN.fx)
  simp only [R_282_271, R_282_272, R_282_273, R_282_274, R_282_275, R_282_276, R_282_277, R_282_278, R_282_279, R_282_280, R_282_281, R_282_282]
  refine ⟨hB 1 (by decide) (by decide), ?_⟩
  refine ⟨hB 2 (by decide) (by decide), ?_⟩
  refine ⟨⟨s85, wgt_p r⟩, WM.mono (fun r2 sh2 sl2 h2 hz => ?_) hw⟩
  obtain ⟨v, e1, e2, l1, l2, I2⟩ := hz
  subst e1 e2
  simp only [pushR0]
  rw [R_282_285, if_pos rfl]
  exact hq sh2 sl2 h2 l1 l2 I2
theorem L_2 (hr : ∀ j, -2147483648 ≤ sc.2 j ∧ sc.2 j < 2147483648) (hB : ∀ z : Int, 1 ≤ z → z ≤ 5 → 0 ≤ w32 (I + z) ∧ w32 (I + z) < sc.1) (IN : INV sh h) (hq : ∀ sh2 sl2 h2, sh2.length ≤ sh.length + 9 → sl2 ≤ sl + 900 → INV sh2 h2 → WF sc (d + 101) 282 1202 [(2, -2), (2, 0), (2, 85), (0, I)] [] sh2 sl2 h2 Q) : WF sc (d + 101) 282 290 [(2, -2), (2, 0), (2, 85), (0, I)] [] sh sl h Q := by
  simp only [R_282_290, R_282_291, R_282_292, R_282_293, R_282_294, R_282_295, R_282_296]
  refine ⟨hB 1 (by decide) (by decide), ?_⟩
  refine ⟨⟨fs_0 IN.fx, by decide⟩, WM.mono (fun r sh1 sl1 h1 hw => ?_) (WM.pre ((op_letter (hr _)) sc d sh sl h IN))⟩
  obtain ⟨hw, dy, e⟩ := hw
  have s85 : shAt sh1 85 = some (0, 12) := by rw [e]; exact shAt_app (fs_85 IN.fx)
  simp only [R_282_299, R_282_300, R_282_301, R_282_302, R_282_303, R_282_304, R_282_305]
  refine ⟨hB 1 (by decide) (by decide), ?_⟩
  refine ⟨⟨s85, wgt_p r⟩, WM.mono (fun r2 sh2 sl2 h2 hz => ?_) hw⟩
  obtain ⟨v, e1, e2, l1, l2, I2⟩ := hz
  subst e1 e2
  simp only [pushR0]
  rw [R_282_308, if_pos rfl]
  exact hq sh2 sl2 h2 l1 l2 I2
theorem L_3 (hr : ∀ j, -2147483648 ≤ sc.2 j ∧ sc.2 j < 2147483648) (hB : ∀ z : Int, 1 ≤ z → z ≤ 5 → 0 ≤ w32 (I + z) ∧ w32 (I + z) < sc.1) (IN : INV sh h) (hq : ∀ sh2 sl2 h2, sh2.length ≤ sh.length + 9 → sl2 ≤ sl + 900 → INV sh2 h2 → WF sc (d + 101) 282 1202 [(2, -2), (2, 0), (2, 85), (0, I)] [] sh2 sl2 h2 Q) : WF sc (d + 101) 282 313 [(2, -2), (2, 0), (2, 85), (0, I)] [] sh sl h Q := by
  simp only [R_282_313, R_282_314, R_282_315, R_282_316, R_282_317, R_282_318, R_282_319, R_282_320, R_282_321, R_282_322, R_282_323, R_282_324]
  refine ⟨hB 1 (by decide) (by decide), ?_⟩
  refine ⟨hB 2 (by decide) (by decide), ?_⟩
  refine ⟨⟨fs_0 IN.fx, by decide⟩, WM.mono (fun r sh1 sl1 h1 hw => ?_) (WM.pre ((op_at (hr _) (hr _)) sc d sh sl h IN))⟩
  obtain ⟨hw, dy, e⟩ := hw
  have s85 : shAt sh1 85 = some (0, 12) := by rw [e]; exact shAt_app (fs_85 IN.fx)
  simp only [R_282_327, R_282_328, R_282_329, R_282_330, R_282_331, R_282_332, R_282_333, R_282_334, R_282_335, R_282_336, R_282_337, R_282_338]
  refine ⟨hB 1 (by decide) (by decide), ?_⟩
  refine ⟨hB 2 (by decide) (by decide), ?_⟩
  refine ⟨⟨s85, wgt_p r⟩, WM.mono (fun r2 sh2 sl2 h2 hz => ?_) hw⟩
  obtain ⟨v, e1, e2, l1, l2, I2⟩ := hz
  subst e1 e2
  simp only [pushR0]
  rw [R_282_341, if_pos rfl]
  exact hq sh2 sl2 h2 l1 l2 I2
theorem L_4 (hr : ∀ j, -2147483648 ≤ sc.2 j ∧ sc.2 j < 2147483648) (hB : ∀ z : Int, 1 ≤ z → z ≤ 5 → 0 ≤ w32 (I + z) ∧ w32 (I + z) < sc.1) (IN : INV sh h) (hq : ∀ sh2 sl2 h2, sh2.length ≤ sh.length + 9 → sl2 ≤ sl + 900 → INV sh2 h2 → WF sc (d + 101) 282 1202 [(2, -2), (2, 0), (2, 85), (0, I)] [] sh2 sl2 h2 Q) : WF sc (d + 101) 282 346 [(2, -2), (2, 0), (2, 85), (0, I)] [] sh sl h Q := by
  simp only [R_282_346, R_282_347, R_282_348, R_282_349, R_282_350, R_282_351, R_282_352, R_282_353, R_282_354, R_282_355, R_282_356, R_282_357, R_282_358, R_282_359, R_282_360, R_282_361, R_282_362]
  refine ⟨hB 1 (by decide) (by decide), ?_⟩
  refine ⟨hB 2 (by decide) (by decide), ?_⟩
  refine ⟨hB 3 (by decide) (by decide), ?_⟩
  refine ⟨⟨fs_0 IN.fx, by decide⟩, WM.mono (fun r sh1 sl1 h1 hw => ?_) (WM.pre ((op_asks (hr _) (hr _) (hr _)) sc d sh sl h IN))⟩
  obtain ⟨hw, dy, e⟩ := hw
  have s85 : shAt sh1 85 = some (0, 12) := by rw [e]; exact shAt_app (fs_85 IN.fx)
  simp only [R_282_365, R_282_366, R_282_367, R_282_368, R_282_369, R_282_370, R_282_371, R_282_372, R_282_373, R_282_374, R_282_375, R_282_376, R_282_377, R_282_378, R_282_379, R_282_380, R_282_381]
  refine ⟨hB 1 (by decide) (by decide), ?_⟩
  refine ⟨hB 2 (by decide) (by decide), ?_⟩
  refine ⟨hB 3 (by decide) (by decide), ?_⟩
  refine ⟨⟨s85, wgt_p r⟩, WM.mono (fun r2 sh2 sl2 h2 hz => ?_) hw⟩
  obtain ⟨v, e1, e2, l1, l2, I2⟩ := hz
  subst e1 e2
  simp only [pushR0]
  rw [R_282_384, if_pos rfl]
  exact hq sh2 sl2 h2 l1 l2 I2
theorem L_5 (hr : ∀ j, -2147483648 ≤ sc.2 j ∧ sc.2 j < 2147483648) (hB : ∀ z : Int, 1 ≤ z → z ≤ 5 → 0 ≤ w32 (I + z) ∧ w32 (I + z) < sc.1) (IN : INV sh h) (hq : ∀ sh2 sl2 h2, sh2.length ≤ sh.length + 9 → sl2 ≤ sl + 900 → INV sh2 h2 → WF sc (d + 101) 282 1202 [(2, -2), (2, 0), (2, 85), (0, I)] [] sh2 sl2 h2 Q) : WF sc (d + 101) 282 389 [(2, -2), (2, 0), (2, 85), (0, I)] [] sh sl h Q := by
  simp only [R_282_389, R_282_390, R_282_391, R_282_392, R_282_393, R_282_394, R_282_395, R_282_396, R_282_397, R_282_398, R_282_399, R_282_400]
  refine ⟨hB 1 (by decide) (by decide), ?_⟩
  refine ⟨hB 2 (by decide) (by decide), ?_⟩
  refine ⟨⟨fs_0 IN.fx, by decide⟩, WM.mono (fun r sh1 sl1 h1 hw => ?_) (WM.pre ((op_terms (hr _) (hr _)) sc d sh sl h IN))⟩
  obtain ⟨hw, dy, e⟩ := hw
  have s85 : shAt sh1 85 = some (0, 12) := by rw [e]; exact shAt_app (fs_85 IN.fx)
  simp only [R_282_403, R_282_404, R_282_405, R_282_406, R_282_407, R_282_408, R_282_409, R_282_410, R_282_411, R_282_412, R_282_413, R_282_414]
  refine ⟨hB 1 (by decide) (by decide), ?_⟩
  refine ⟨hB 2 (by decide) (by decide), ?_⟩
  refine ⟨⟨s85, wgt_p r⟩, WM.mono (fun r2 sh2 sl2 h2 hz => ?_) hw⟩
  obtain ⟨v, e1, e2, l1, l2, I2⟩ := hz
  subst e1 e2
  simp only [pushR0]
  rw [R_282_417, if_pos rfl]
  exact hq sh2 sl2 h2 l1 l2 I2
theorem L_6 (hr : ∀ j, -2147483648 ≤ sc.2 j ∧ sc.2 j < 2147483648) (hB : ∀ z : Int, 1 ≤ z → z ≤ 5 → 0 ≤ w32 (I + z) ∧ w32 (I + z) < sc.1) (IN : INV sh h) (hq : ∀ sh2 sl2 h2, sh2.length ≤ sh.length + 9 → sl2 ≤ sl + 900 → INV sh2 h2 → WF sc (d + 101) 282 1202 [(2, -2), (2, 0), (2, 85), (0, I)] [] sh2 sl2 h2 Q) : WF sc (d + 101) 282 422 [(2, -2), (2, 0), (2, 85), (0, I)] [] sh sl h Q := by
  simp only [R_282_422, R_282_423, R_282_424, R_282_425, R_282_426, R_282_427, R_282_428, R_282_429, R_282_430, R_282_431, R_282_432, R_282_433, R_282_434, R_282_435, R_282_436, R_282_437, R_282_438, R_282_439, R_282_440, R_282_441, R_282_442, R_282_443, R_282_444, R_282_445, R_282_446, R_282_447, R_282_448]
  refine ⟨hB 1 (by decide) (by decide), ?_⟩
  refine ⟨hB 2 (by decide) (by decide), ?_⟩
  refine ⟨hB 3 (by decide) (by decide), ?_⟩
  refine ⟨hB 4 (by decide) (by decide), ?_⟩
  refine ⟨hB 5 (by decide) (by decide), ?_⟩
  refine ⟨⟨fs_0 IN.fx, by decide⟩, WM.mono (fun r sh1 sl1 h1 hw => ?_) (WM.pre ((op_feed) sc d sh sl h IN))⟩
  obtain ⟨hw, dy, e⟩ := hw
  have s85 : shAt sh1 85 = some (0, 12) := by rw [e]; exact shAt_app (fs_85 IN.fx)
  simp only [R_282_451, R_282_452, R_282_453, R_282_454, R_282_455, R_282_456, R_282_457, R_282_458, R_282_459, R_282_460, R_282_461, R_282_462, R_282_463, R_282_464, R_282_465, R_282_466, R_282_467, R_282_468, R_282_469, R_282_470, R_282_471, R_282_472, R_282_473, R_282_474, R_282_475, R_282_476, R_282_477]
  refine ⟨hB 1 (by decide) (by decide), ?_⟩
  refine ⟨hB 2 (by decide) (by decide), ?_⟩
  refine ⟨hB 3 (by decide) (by decide), ?_⟩
  refine ⟨hB 4 (by decide) (by decide), ?_⟩
  refine ⟨hB 5 (by decide) (by decide), ?_⟩
  refine ⟨⟨s85, wgt_p r⟩, WM.mono (fun r2 sh2 sl2 h2 hz => ?_) hw⟩
  obtain ⟨v, e1, e2, l1, l2, I2⟩ := hz
  subst e1 e2
  simp only [pushR0]
  rw [R_282_480, if_pos rfl]
  exact hq sh2 sl2 h2 l1 l2 I2
theorem L_7 (hr : ∀ j, -2147483648 ≤ sc.2 j ∧ sc.2 j < 2147483648) (hB : ∀ z : Int, 1 ≤ z → z ≤ 5 → 0 ≤ w32 (I + z) ∧ w32 (I + z) < sc.1) (IN : INV sh h) (hq : ∀ sh2 sl2 h2, sh2.length ≤ sh.length + 9 → sl2 ≤ sl + 900 → INV sh2 h2 → WF sc (d + 101) 282 1202 [(2, -2), (2, 0), (2, 85), (0, I)] [] sh2 sl2 h2 Q) : WF sc (d + 101) 282 485 [(2, -2), (2, 0), (2, 85), (0, I)] [] sh sl h Q := by
  simp only [R_282_485, R_282_486, R_282_487, R_282_488, R_282_489, R_282_490, R_282_491]
  refine ⟨hB 1 (by decide) (by decide), ?_⟩
  refine ⟨⟨fs_0 IN.fx, by decide⟩, WM.mono (fun r sh1 sl1 h1 hw => ?_) (WM.pre ((op_end (hr _)) sc d sh sl h IN))⟩
  obtain ⟨hw, dy, e⟩ := hw
  have s85 : shAt sh1 85 = some (0, 12) := by rw [e]; exact shAt_app (fs_85 IN.fx)
  simp only [R_282_494, R_282_495, R_282_496, R_282_497, R_282_498, R_282_499, R_282_500]
  refine ⟨hB 1 (by decide) (by decide), ?_⟩
  refine ⟨⟨s85, wgt_p r⟩, WM.mono (fun r2 sh2 sl2 h2 hz => ?_) hw⟩
  obtain ⟨v, e1, e2, l1, l2, I2⟩ := hz
  subst e1 e2
  simp only [pushR0]
  rw [R_282_503, if_pos rfl]
  exact hq sh2 sl2 h2 l1 l2 I2
theorem L_8 (hr : ∀ j, -2147483648 ≤ sc.2 j ∧ sc.2 j < 2147483648) (hB : ∀ z : Int, 1 ≤ z → z ≤ 5 → 0 ≤ w32 (I + z) ∧ w32 (I + z) < sc.1) (IN : INV sh h) (hq : ∀ sh2 sl2 h2, sh2.length ≤ sh.length + 9 → sl2 ≤ sl + 900 → INV sh2 h2 → WF sc (d + 101) 282 1202 [(2, -2), (2, 0), (2, 85), (0, I)] [] sh2 sl2 h2 Q) : WF sc (d + 101) 282 508 [(2, -2), (2, 0), (2, 85), (0, I)] [] sh sl h Q := by
  simp only [R_282_508, R_282_509]
  refine ⟨⟨fs_0 IN.fx, by decide⟩, WM.mono (fun r sh1 sl1 h1 hw => ?_) (WM.pre (op_row sc d sh sl h IN))⟩
  obtain ⟨hw, dy, e⟩ := hw
  have s85 : shAt sh1 85 = some (0, 12) := by rw [e]; exact shAt_app (fs_85 IN.fx)
  simp only [R_282_512, R_282_513]
  refine ⟨⟨s85, wgt_p r⟩, WM.mono (fun r2 sh2 sl2 h2 hz => ?_) hw⟩
  obtain ⟨v, e1, e2, l1, l2, I2⟩ := hz
  subst e1 e2
  simp only [pushR0]
  rw [R_282_516, if_pos rfl]
  exact hq sh2 sl2 h2 l1 l2 I2
theorem L_9 (hr : ∀ j, -2147483648 ≤ sc.2 j ∧ sc.2 j < 2147483648) (hB : ∀ z : Int, 1 ≤ z → z ≤ 5 → 0 ≤ w32 (I + z) ∧ w32 (I + z) < sc.1) (IN : INV sh h) (hq : ∀ sh2 sl2 h2, sh2.length ≤ sh.length + 9 → sl2 ≤ sl + 900 → INV sh2 h2 → WF sc (d + 101) 282 1202 [(2, -2), (2, 0), (2, 85), (0, I)] [] sh2 sl2 h2 Q) : WF sc (d + 101) 282 521 [(2, -2), (2, 0), (2, 85), (0, I)] [] sh sl h Q := by
  simp only [R_282_521, R_282_522]
  refine ⟨⟨fs_0 IN.fx, by decide⟩, WM.mono (fun r sh1 sl1 h1 hw => ?_) (WM.pre (op_misprints sc d sh sl h IN))⟩
  obtain ⟨hw, dy, e⟩ := hw
  have s85 : shAt sh1 85 = some (0, 12) := by rw [e]; exact shAt_app (fs_85 IN.fx)
  simp only [R_282_525, R_282_526]
  refine ⟨⟨s85, wgt_p r⟩, WM.mono (fun r2 sh2 sl2 h2 hz => ?_) hw⟩
  obtain ⟨v, e1, e2, l1, l2, I2⟩ := hz
  subst e1 e2
  simp only [pushR0]
  rw [R_282_529, if_pos rfl]
  exact hq sh2 sl2 h2 l1 l2 I2
theorem L_10 (hr : ∀ j, -2147483648 ≤ sc.2 j ∧ sc.2 j < 2147483648) (hB : ∀ z : Int, 1 ≤ z → z ≤ 5 → 0 ≤ w32 (I + z) ∧ w32 (I + z) < sc.1) (IN : INV sh h) (hq : ∀ sh2 sl2 h2, sh2.length ≤ sh.length + 9 → sl2 ≤ sl + 900 → INV sh2 h2 → WF sc (d + 101) 282 1202 [(2, -2), (2, 0), (2, 85), (0, I)] [] sh2 sl2 h2 Q) : WF sc (d + 101) 282 534 [(2, -2), (2, 0), (2, 85), (0, I)] [] sh sl h Q := by
  simp only [R_282_534, R_282_535]
  refine ⟨⟨fs_0 IN.fx, by decide⟩, WM.mono (fun r sh1 sl1 h1 hw => ?_) (WM.pre (op_law sc d sh sl h IN))⟩
  obtain ⟨hw, dy, e⟩ := hw
  have s85 : shAt sh1 85 = some (0, 12) := by rw [e]; exact shAt_app (fs_85 IN.fx)
  simp only [R_282_538, R_282_539]
  refine ⟨⟨s85, wgt_p r⟩, WM.mono (fun r2 sh2 sl2 h2 hz => ?_) hw⟩
  obtain ⟨v, e1, e2, l1, l2, I2⟩ := hz
  subst e1 e2
  simp only [pushR0]
  rw [R_282_542, if_pos rfl]
  exact hq sh2 sl2 h2 l1 l2 I2
theorem L_11 (hr : ∀ j, -2147483648 ≤ sc.2 j ∧ sc.2 j < 2147483648) (hB : ∀ z : Int, 1 ≤ z → z ≤ 5 → 0 ≤ w32 (I + z) ∧ w32 (I + z) < sc.1) (IN : INV sh h) (hq : ∀ sh2 sl2 h2, sh2.length ≤ sh.length + 9 → sl2 ≤ sl + 900 → INV sh2 h2 → WF sc (d + 101) 282 1202 [(2, -2), (2, 0), (2, 85), (0, I)] [] sh2 sl2 h2 Q) : WF sc (d + 101) 282 547 [(2, -2), (2, 0), (2, 85), (0, I)] [] sh sl h Q := by
  simp only [R_282_547, R_282_548]
  refine ⟨⟨fs_0 IN.fx, by decide⟩, WM.mono (fun r sh1 sl1 h1 hw => ?_) (WM.pre (op_orders sc d sh sl h IN))⟩
  obtain ⟨hw, dy, e⟩ := hw
  have s85 : shAt sh1 85 = some (0, 12) := by rw [e]; exact shAt_app (fs_85 IN.fx)
  simp only [R_282_551, R_282_552]
  refine ⟨⟨s85, wgt_p r⟩, WM.mono (fun r2 sh2 sl2 h2 hz => ?_) hw⟩
  obtain ⟨v, e1, e2, l1, l2, I2⟩ := hz
  subst e1 e2
  simp only [pushR0]
  rw [R_282_555, if_pos rfl]
  exact hq sh2 sl2 h2 l1 l2 I2
theorem L_12 (hr : ∀ j, -2147483648 ≤ sc.2 j ∧ sc.2 j < 2147483648) (hB : ∀ z : Int, 1 ≤ z → z ≤ 5 → 0 ≤ w32 (I + z) ∧ w32 (I + z) < sc.1) (IN : INV sh h) (hq : ∀ sh2 sl2 h2, sh2.length ≤ sh.length + 9 → sl2 ≤ sl + 900 → INV sh2 h2 → WF sc (d + 101) 282 1202 [(2, -2), (2, 0), (2, 85), (0, I)] [] sh2 sl2 h2 Q) : WF sc (d + 101) 282 560 [(2, -2), (2, 0), (2, 85), (0, I)] [] sh sl h Q := by
  simp only [R_282_560, R_282_561]
  refine ⟨⟨fs_0 IN.fx, by decide⟩, WM.mono (fun r sh1 sl1 h1 hw => ?_) (WM.pre (op_fault sc d sh sl h IN))⟩
  obtain ⟨hw, dy, e⟩ := hw
  have s85 : shAt sh1 85 = some (0, 12) := by rw [e]; exact shAt_app (fs_85 IN.fx)
  simp only [R_282_564, R_282_565]
  refine ⟨⟨s85, wgt_p r⟩, WM.mono (fun r2 sh2 sl2 h2 hz => ?_) hw⟩
  obtain ⟨v, e1, e2, l1, l2, I2⟩ := hz
  subst e1 e2
  simp only [pushR0]
  rw [R_282_568, if_pos rfl]
  exact hq sh2 sl2 h2 l1 l2 I2
theorem L_13 (hr : ∀ j, -2147483648 ≤ sc.2 j ∧ sc.2 j < 2147483648) (hB : ∀ z : Int, 1 ≤ z → z ≤ 5 → 0 ≤ w32 (I + z) ∧ w32 (I + z) < sc.1) (IN : INV sh h) (hq : ∀ sh2 sl2 h2, sh2.length ≤ sh.length + 9 → sl2 ≤ sl + 900 → INV sh2 h2 → WF sc (d + 101) 282 1202 [(2, -2), (2, 0), (2, 85), (0, I)] [] sh2 sl2 h2 Q) : WF sc (d + 101) 282 573 [(2, -2), (2, 0), (2, 85), (0, I)] [] sh sl h Q := by
  simp only [R_282_573, R_282_574]
  refine ⟨⟨fs_0 IN.fx, by decide⟩, WM.mono (fun r sh1 sl1 h1 hw => ?_) (WM.pre (op_stopped sc d sh sl h IN))⟩
  obtain ⟨hw, dy, e⟩ := hw
  have s85 : shAt sh1 85 = some (0, 12) := by rw [e]; exact shAt_app (fs_85 IN.fx)
  simp only [R_282_577, R_282_578]
  refine ⟨⟨s85, wgt_p r⟩, WM.mono (fun r2 sh2 sl2 h2 hz => ?_) hw⟩
  obtain ⟨v, e1, e2, l1, l2, I2⟩ := hz
  subst e1 e2
  simp only [pushR0]
  rw [R_282_581, if_pos rfl]
  exact hq sh2 sl2 h2 l1 l2 I2
theorem L_14 (hr : ∀ j, -2147483648 ≤ sc.2 j ∧ sc.2 j < 2147483648) (hB : ∀ z : Int, 1 ≤ z → z ≤ 5 → 0 ≤ w32 (I + z) ∧ w32 (I + z) < sc.1) (IN : INV sh h) (hq : ∀ sh2 sl2 h2, sh2.length ≤ sh.length + 9 → sl2 ≤ sl + 900 → INV sh2 h2 → WF sc (d + 101) 282 1202 [(2, -2), (2, 0), (2, 85), (0, I)] [] sh2 sl2 h2 Q) : WF sc (d + 101) 282 586 [(2, -2), (2, 0), (2, 85), (0, I)] [] sh sl h Q := by
  simp only [R_282_586, R_282_587, R_282_588, R_282_589, R_282_590, R_282_591, R_282_592]
  refine ⟨hB 1 (by decide) (by decide), ?_⟩
  refine ⟨⟨fs_0 IN.fx, by decide⟩, WM.mono (fun r sh1 sl1 h1 hw => ?_) (WM.pre ((op_force (hr _)) sc d sh sl h IN))⟩
  obtain ⟨hw, dy, e⟩ := hw
  have s85 : shAt sh1 85 = some (0, 12) := by rw [e]; exact shAt_app (fs_85 IN.fx)
  simp only [R_282_595, R_282_596, R_282_597, R_282_598, R_282_599, R_282_600, R_282_601]
  refine ⟨hB 1 (by decide) (by decide), ?_⟩
  refine ⟨⟨s85, wgt_p r⟩, WM.mono (fun r2 sh2 sl2 h2 hz => ?_) hw⟩
  obtain ⟨v, e1, e2, l1, l2, I2⟩ := hz
  subst e1 e2
  simp only [pushR0]
  rw [R_282_604, if_pos rfl]
  exact hq sh2 sl2 h2 l1 l2 I2
theorem L_15 (hr : ∀ j, -2147483648 ≤ sc.2 j ∧ sc.2 j < 2147483648) (hB : ∀ z : Int, 1 ≤ z → z ≤ 5 → 0 ≤ w32 (I + z) ∧ w32 (I + z) < sc.1) (IN : INV sh h) (hq : ∀ sh2 sl2 h2, sh2.length ≤ sh.length + 9 → sl2 ≤ sl + 900 → INV sh2 h2 → WF sc (d + 101) 282 1202 [(2, -2), (2, 0), (2, 85), (0, I)] [] sh2 sl2 h2 Q) : WF sc (d + 101) 282 609 [(2, -2), (2, 0), (2, 85), (0, I)] [] sh sl h Q := by
  simp only [R_282_609, R_282_610, R_282_611, R_282_612, R_282_613, R_282_614, R_282_615, R_282_616, R_282_617, R_282_618, R_282_619, R_282_620]
  refine ⟨hB 1 (by decide) (by decide), ?_⟩
  refine ⟨hB 2 (by decide) (by decide), ?_⟩
  refine ⟨⟨fs_0 IN.fx, by decide⟩, WM.mono (fun r sh1 sl1 h1 hw => ?_) (WM.pre ((op_stick (hr _) (hr _)) sc d sh sl h IN))⟩
  obtain ⟨hw, dy, e⟩ := hw
  have s85 : shAt sh1 85 = some (0, 12) := by rw [e]; exact shAt_app (fs_85 IN.fx)
  simp only [R_282_623, R_282_624, R_282_625, R_282_626, R_282_627, R_282_628, R_282_629, R_282_630, R_282_631, R_282_632, R_282_633, R_282_634]
  refine ⟨hB 1 (by decide) (by decide), ?_⟩
  refine ⟨hB 2 (by decide) (by decide), ?_⟩
  refine ⟨⟨s85, wgt_p r⟩, WM.mono (fun r2 sh2 sl2 h2 hz => ?_) hw⟩
  obtain ⟨v, e1, e2, l1, l2, I2⟩ := hz
  subst e1 e2
  simp only [pushR0]
  rw [R_282_637, if_pos rfl]
  exact hq sh2 sl2 h2 l1 l2 I2
theorem L_16 (hr : ∀ j, -2147483648 ≤ sc.2 j ∧ sc.2 j < 2147483648) (hB : ∀ z : Int, 1 ≤ z → z ≤ 5 → 0 ≤ w32 (I + z) ∧ w32 (I + z) < sc.1) (IN : INV sh h) (hq : ∀ sh2 sl2 h2, sh2.length ≤ sh.length + 9 → sl2 ≤ sl + 900 → INV sh2 h2 → WF sc (d + 101) 282 1202 [(2, -2), (2, 0), (2, 85), (0, I)] [] sh2 sl2 h2 Q) : WF sc (d + 101) 282 642 [(2, -2), (2, 0), (2, 85), (0, I)] [] sh sl h Q := by
  simp only [R_282_642, R_282_643, R_282_644, R_282_645, R_282_646, R_282_647, R_282_648]
  refine ⟨hB 1 (by decide) (by decide), ?_⟩
  refine ⟨⟨fs_0 IN.fx, by decide⟩, WM.mono (fun r sh1 sl1 h1 hw => ?_) (WM.pre ((op_peel (hr _)) sc d sh sl h IN))⟩
  obtain ⟨hw, dy, e⟩ := hw
  have s85 : shAt sh1 85 = some (0, 12) := by rw [e]; exact shAt_app (fs_85 IN.fx)
  simp only [R_282_651, R_282_652, R_282_653, R_282_654, R_282_655, R_282_656, R_282_657]
  refine ⟨hB 1 (by decide) (by decide), ?_⟩
  refine ⟨⟨s85, wgt_p r⟩, WM.mono (fun r2 sh2 sl2 h2 hz => ?_) hw⟩
  obtain ⟨v, e1, e2, l1, l2, I2⟩ := hz
  subst e1 e2
  simp only [pushR0]
  rw [R_282_660, if_pos rfl]
  exact hq sh2 sl2 h2 l1 l2 I2
theorem L_17 (hr : ∀ j, -2147483648 ≤ sc.2 j ∧ sc.2 j < 2147483648) (hB : ∀ z : Int, 1 ≤ z → z ≤ 5 → 0 ≤ w32 (I + z) ∧ w32 (I + z) < sc.1) (IN : INV sh h) (hq : ∀ sh2 sl2 h2, sh2.length ≤ sh.length + 9 → sl2 ≤ sl + 900 → INV sh2 h2 → WF sc (d + 101) 282 1202 [(2, -2), (2, 0), (2, 85), (0, I)] [] sh2 sl2 h2 Q) : WF sc (d + 101) 282 665 [(2, -2), (2, 0), (2, 85), (0, I)] [] sh sl h Q := by
  simp only [R_282_665, R_282_666, R_282_667, R_282_668, R_282_669, R_282_670, R_282_671]
  refine ⟨hB 1 (by decide) (by decide), ?_⟩
  refine ⟨⟨fs_0 IN.fx, by decide⟩, WM.mono (fun r sh1 sl1 h1 hw => ?_) (WM.pre ((op_cancel (hr _)) sc d sh sl h IN))⟩
  obtain ⟨hw, dy, e⟩ := hw
  have s85 : shAt sh1 85 = some (0, 12) := by rw [e]; exact shAt_app (fs_85 IN.fx)
  simp only [R_282_674, R_282_675, R_282_676, R_282_677, R_282_678, R_282_679, R_282_680]
  refine ⟨hB 1 (by decide) (by decide), ?_⟩
  refine ⟨⟨s85, wgt_p r⟩, WM.mono (fun r2 sh2 sl2 h2 hz => ?_) hw⟩
  obtain ⟨v, e1, e2, l1, l2, I2⟩ := hz
  subst e1 e2
  simp only [pushR0]
  rw [R_282_683, if_pos rfl]
  exact hq sh2 sl2 h2 l1 l2 I2
theorem L_18 (hr : ∀ j, -2147483648 ≤ sc.2 j ∧ sc.2 j < 2147483648) (hB : ∀ z : Int, 1 ≤ z → z ≤ 5 → 0 ≤ w32 (I + z) ∧ w32 (I + z) < sc.1) (IN : INV sh h) (hq : ∀ sh2 sl2 h2, sh2.length ≤ sh.length + 9 → sl2 ≤ sl + 900 → INV sh2 h2 → WF sc (d + 101) 282 1202 [(2, -2), (2, 0), (2, 85), (0, I)] [] sh2 sl2 h2 Q) : WF sc (d + 101) 282 688 [(2, -2), (2, 0), (2, 85), (0, I)] [] sh sl h Q := by
  simp only [R_282_688, R_282_689]
  refine ⟨⟨fs_0 IN.fx, by decide⟩, WM.mono (fun r sh1 sl1 h1 hw => ?_) (WM.pre (op_pass sc d sh sl h IN))⟩
  obtain ⟨hw, dy, e⟩ := hw
  have s85 : shAt sh1 85 = some (0, 12) := by rw [e]; exact shAt_app (fs_85 IN.fx)
  simp only [R_282_692, R_282_693]
  refine ⟨⟨s85, wgt_p r⟩, WM.mono (fun r2 sh2 sl2 h2 hz => ?_) hw⟩
  obtain ⟨v, e1, e2, l1, l2, I2⟩ := hz
  subst e1 e2
  simp only [pushR0]
  rw [R_282_696, if_pos rfl]
  exact hq sh2 sl2 h2 l1 l2 I2
theorem L_19 (hr : ∀ j, -2147483648 ≤ sc.2 j ∧ sc.2 j < 2147483648) (hB : ∀ z : Int, 1 ≤ z → z ≤ 5 → 0 ≤ w32 (I + z) ∧ w32 (I + z) < sc.1) (IN : INV sh h) (hq : ∀ sh2 sl2 h2, sh2.length ≤ sh.length + 9 → sl2 ≤ sl + 900 → INV sh2 h2 → WF sc (d + 101) 282 1202 [(2, -2), (2, 0), (2, 85), (0, I)] [] sh2 sl2 h2 Q) : WF sc (d + 101) 282 701 [(2, -2), (2, 0), (2, 85), (0, I)] [] sh sl h Q := by
  simp only [R_282_701, R_282_702]
  refine ⟨⟨fs_0 IN.fx, by decide⟩, WM.mono (fun r sh1 sl1 h1 hw => ?_) (WM.pre (op_undo sc d sh sl h IN))⟩
  obtain ⟨hw, dy, e⟩ := hw
  have s85 : shAt sh1 85 = some (0, 12) := by rw [e]; exact shAt_app (fs_85 IN.fx)
  simp only [R_282_705, R_282_706]
  refine ⟨⟨s85, wgt_p r⟩, WM.mono (fun r2 sh2 sl2 h2 hz => ?_) hw⟩
  obtain ⟨v, e1, e2, l1, l2, I2⟩ := hz
  subst e1 e2
  simp only [pushR0]
  rw [R_282_709, if_pos rfl]
  exact hq sh2 sl2 h2 l1 l2 I2
theorem L_20 (hr : ∀ j, -2147483648 ≤ sc.2 j ∧ sc.2 j < 2147483648) (hB : ∀ z : Int, 1 ≤ z → z ≤ 5 → 0 ≤ w32 (I + z) ∧ w32 (I + z) < sc.1) (IN : INV sh h) (hq : ∀ sh2 sl2 h2, sh2.length ≤ sh.length + 9 → sl2 ≤ sl + 900 → INV sh2 h2 → WF sc (d + 101) 282 1202 [(2, -2), (2, 0), (2, 85), (0, I)] [] sh2 sl2 h2 Q) : WF sc (d + 101) 282 714 [(2, -2), (2, 0), (2, 85), (0, I)] [] sh sl h Q := by
  simp only [R_282_714, R_282_715, R_282_716, R_282_717, R_282_718, R_282_719, R_282_720, R_282_721, R_282_722, R_282_723, R_282_724, R_282_725]
  refine ⟨hB 1 (by decide) (by decide), ?_⟩
  refine ⟨hB 2 (by decide) (by decide), ?_⟩
  refine ⟨⟨fs_0 IN.fx, by decide⟩, WM.mono (fun r sh1 sl1 h1 hw => ?_) (WM.pre ((op_madeUp (hr _) (hr _)) sc d sh sl h IN))⟩
  obtain ⟨hw, dy, e⟩ := hw
  have s85 : shAt sh1 85 = some (0, 12) := by rw [e]; exact shAt_app (fs_85 IN.fx)
  simp only [R_282_728, R_282_729, R_282_730, R_282_731, R_282_732, R_282_733, R_282_734, R_282_735, R_282_736, R_282_737, R_282_738, R_282_739]
  refine ⟨hB 1 (by decide) (by decide), ?_⟩
  refine ⟨hB 2 (by decide) (by decide), ?_⟩
  refine ⟨⟨s85, wgt_p r⟩, WM.mono (fun r2 sh2 sl2 h2 hz => ?_) hw⟩
  obtain ⟨v, e1, e2, l1, l2, I2⟩ := hz
  subst e1 e2
  simp only [pushR0]
  rw [R_282_742, if_pos rfl]
  exact hq sh2 sl2 h2 l1 l2 I2
theorem L_21 (hr : ∀ j, -2147483648 ≤ sc.2 j ∧ sc.2 j < 2147483648) (hB : ∀ z : Int, 1 ≤ z → z ≤ 5 → 0 ≤ w32 (I + z) ∧ w32 (I + z) < sc.1) (IN : INV sh h) (hq : ∀ sh2 sl2 h2, sh2.length ≤ sh.length + 9 → sl2 ≤ sl + 900 → INV sh2 h2 → WF sc (d + 101) 282 1202 [(2, -2), (2, 0), (2, 85), (0, I)] [] sh2 sl2 h2 Q) : WF sc (d + 101) 282 747 [(2, -2), (2, 0), (2, 85), (0, I)] [] sh sl h Q := by
  simp only [R_282_747, R_282_748, R_282_749, R_282_750, R_282_751, R_282_752, R_282_753, R_282_754, R_282_755, R_282_756, R_282_757, R_282_758]
  refine ⟨hB 1 (by decide) (by decide), ?_⟩
  refine ⟨hB 2 (by decide) (by decide), ?_⟩
  refine ⟨⟨fs_0 IN.fx, by decide⟩, WM.mono (fun r sh1 sl1 h1 hw => ?_) (WM.pre ((op_buffers (hr _) (hr _)) sc d sh sl h IN))⟩
  obtain ⟨hw, dy, e⟩ := hw
  have s85 : shAt sh1 85 = some (0, 12) := by rw [e]; exact shAt_app (fs_85 IN.fx)
  simp only [R_282_761, R_282_762, R_282_763, R_282_764, R_282_765, R_282_766, R_282_767, R_282_768, R_282_769, R_282_770, R_282_771, R_282_772]
  refine ⟨hB 1 (by decide) (by decide), ?_⟩
  refine ⟨hB 2 (by decide) (by decide), ?_⟩
  refine ⟨⟨s85, wgt_p r⟩, WM.mono (fun r2 sh2 sl2 h2 hz => ?_) hw⟩
  obtain ⟨v, e1, e2, l1, l2, I2⟩ := hz
  subst e1 e2
  simp only [pushR0]
  rw [R_282_775, if_pos rfl]
  exact hq sh2 sl2 h2 l1 l2 I2
theorem L_22 (hr : ∀ j, -2147483648 ≤ sc.2 j ∧ sc.2 j < 2147483648) (hB : ∀ z : Int, 1 ≤ z → z ≤ 5 → 0 ≤ w32 (I + z) ∧ w32 (I + z) < sc.1) (IN : INV sh h) (hq : ∀ sh2 sl2 h2, sh2.length ≤ sh.length + 9 → sl2 ≤ sl + 900 → INV sh2 h2 → WF sc (d + 101) 282 1202 [(2, -2), (2, 0), (2, 85), (0, I)] [] sh2 sl2 h2 Q) : WF sc (d + 101) 282 780 [(2, -2), (2, 0), (2, 85), (0, I)] [] sh sl h Q := by
  simp only [R_282_780, R_282_781, R_282_782, R_282_783, R_282_784, R_282_785, R_282_786, R_282_787, R_282_788, R_282_789, R_282_790, R_282_791]
  refine ⟨hB 1 (by decide) (by decide), ?_⟩
  refine ⟨hB 2 (by decide) (by decide), ?_⟩
  refine ⟨⟨fs_0 IN.fx, by decide⟩, WM.mono (fun r sh1 sl1 h1 hw => ?_) (WM.pre ((op_exchanged (hr _) (hr _)) sc d sh sl h IN))⟩
  obtain ⟨hw, dy, e⟩ := hw
  have s85 : shAt sh1 85 = some (0, 12) := by rw [e]; exact shAt_app (fs_85 IN.fx)
  simp only [R_282_794, R_282_795, R_282_796, R_282_797, R_282_798, R_282_799, R_282_800, R_282_801, R_282_802, R_282_803, R_282_804, R_282_805]
  refine ⟨hB 1 (by decide) (by decide), ?_⟩
  refine ⟨hB 2 (by decide) (by decide), ?_⟩
  refine ⟨⟨s85, wgt_p r⟩, WM.mono (fun r2 sh2 sl2 h2 hz => ?_) hw⟩
  obtain ⟨v, e1, e2, l1, l2, I2⟩ := hz
  subst e1 e2
  simp only [pushR0]
  rw [R_282_808, if_pos rfl]
  exact hq sh2 sl2 h2 l1 l2 I2
theorem L_23 (hr : ∀ j, -2147483648 ≤ sc.2 j ∧ sc.2 j < 2147483648) (hB : ∀ z : Int, 1 ≤ z → z ≤ 5 → 0 ≤ w32 (I + z) ∧ w32 (I + z) < sc.1) (IN : INV sh h) (hq : ∀ sh2 sl2 h2, sh2.length ≤ sh.length + 9 → sl2 ≤ sl + 900 → INV sh2 h2 → WF sc (d + 101) 282 1202 [(2, -2), (2, 0), (2, 85), (0, I)] [] sh2 sl2 h2 Q) : WF sc (d + 101) 282 813 [(2, -2), (2, 0), (2, 85), (0, I)] [] sh sl h Q := by
  simp only [R_282_813, R_282_814, R_282_815, R_282_816, R_282_817, R_282_818, R_282_819]
  refine ⟨hB 1 (by decide) (by decide), ?_⟩
  refine ⟨⟨fs_0 IN.fx, by decide⟩, WM.mono (fun r sh1 sl1 h1 hw => ?_) (WM.pre ((op_pockets (hr _)) sc d sh sl h IN))⟩
  obtain ⟨hw, dy, e⟩ := hw
  have s85 : shAt sh1 85 = some (0, 12) := by rw [e]; exact shAt_app (fs_85 IN.fx)
  simp only [R_282_822, R_282_823, R_282_824, R_282_825, R_282_826, R_282_827, R_282_828]
  refine ⟨hB 1 (by decide) (by decide), ?_⟩
  refine ⟨⟨s85, wgt_p r⟩, WM.mono (fun r2 sh2 sl2 h2 hz => ?_) hw⟩
  obtain ⟨v, e1, e2, l1, l2, I2⟩ := hz
  subst e1 e2
  simp only [pushR0]
  rw [R_282_831, if_pos rfl]
  exact hq sh2 sl2 h2 l1 l2 I2
theorem L_24 (hr : ∀ j, -2147483648 ≤ sc.2 j ∧ sc.2 j < 2147483648) (hB : ∀ z : Int, 1 ≤ z → z ≤ 5 → 0 ≤ w32 (I + z) ∧ w32 (I + z) < sc.1) (IN : INV sh h) (hq : ∀ sh2 sl2 h2, sh2.length ≤ sh.length + 9 → sl2 ≤ sl + 900 → INV sh2 h2 → WF sc (d + 101) 282 1202 [(2, -2), (2, 0), (2, 85), (0, I)] [] sh2 sl2 h2 Q) : WF sc (d + 101) 282 836 [(2, -2), (2, 0), (2, 85), (0, I)] [] sh sl h Q := by
  simp only [R_282_836, R_282_837, R_282_838, R_282_839, R_282_840, R_282_841, R_282_842, R_282_843, R_282_844, R_282_845, R_282_846, R_282_847]
  refine ⟨hB 1 (by decide) (by decide), ?_⟩
  refine ⟨hB 2 (by decide) (by decide), ?_⟩
  refine ⟨⟨fs_0 IN.fx, by decide⟩, WM.mono (fun r sh1 sl1 h1 hw => ?_) (WM.pre ((op_hear (hr _) (hr _)) sc d sh sl h IN))⟩
  obtain ⟨hw, dy, e⟩ := hw
  have s85 : shAt sh1 85 = some (0, 12) := by rw [e]; exact shAt_app (fs_85 IN.fx)
  simp only [R_282_850, R_282_851, R_282_852, R_282_853, R_282_854, R_282_855, R_282_856, R_282_857, R_282_858, R_282_859, R_282_860, R_282_861]
  refine ⟨hB 1 (by decide) (by decide), ?_⟩
  refine ⟨hB 2 (by decide) (by decide), ?_⟩
  refine ⟨⟨s85, wgt_p r⟩, WM.mono (fun r2 sh2 sl2 h2 hz => ?_) hw⟩
  obtain ⟨v, e1, e2, l1, l2, I2⟩ := hz
  subst e1 e2
  simp only [pushR0]
  rw [R_282_864, if_pos rfl]
  exact hq sh2 sl2 h2 l1 l2 I2
theorem L_25 (hr : ∀ j, -2147483648 ≤ sc.2 j ∧ sc.2 j < 2147483648) (hB : ∀ z : Int, 1 ≤ z → z ≤ 5 → 0 ≤ w32 (I + z) ∧ w32 (I + z) < sc.1) (IN : INV sh h) (hq : ∀ sh2 sl2 h2, sh2.length ≤ sh.length + 9 → sl2 ≤ sl + 900 → INV sh2 h2 → WF sc (d + 101) 282 1202 [(2, -2), (2, 0), (2, 85), (0, I)] [] sh2 sl2 h2 Q) : WF sc (d + 101) 282 869 [(2, -2), (2, 0), (2, 85), (0, I)] [] sh sl h Q := by
  simp only [R_282_869, R_282_870]
  refine ⟨⟨fs_0 IN.fx, by decide⟩, WM.mono (fun r sh1 sl1 h1 hw => ?_) (WM.pre (op_forget sc d sh sl h IN))⟩
  obtain ⟨hw, dy, e⟩ := hw
  have s85 : shAt sh1 85 = some (0, 12) := by rw [e]; exact shAt_app (fs_85 IN.fx)
  simp only [R_282_873, R_282_874]
  refine ⟨⟨s85, wgt_p r⟩, WM.mono (fun r2 sh2 sl2 h2 hz => ?_) hw⟩
  obtain ⟨v, e1, e2, l1, l2, I2⟩ := hz
  subst e1 e2
  simp only [pushR0]
  rw [R_282_877, if_pos rfl]
  exact hq sh2 sl2 h2 l1 l2 I2
theorem L_26 (hr : ∀ j, -2147483648 ≤ sc.2 j ∧ sc.2 j < 2147483648) (hB : ∀ z : Int, 1 ≤ z → z ≤ 5 → 0 ≤ w32 (I + z) ∧ w32 (I + z) < sc.1) (IN : INV sh h) (hq : ∀ sh2 sl2 h2, sh2.length ≤ sh.length + 9 → sl2 ≤ sl + 900 → INV sh2 h2 → WF sc (d + 101) 282 1202 [(2, -2), (2, 0), (2, 85), (0, I)] [] sh2 sl2 h2 Q) : WF sc (d + 101) 282 882 [(2, -2), (2, 0), (2, 85), (0, I)] [] sh sl h Q := by
  simp only [R_282_882, R_282_883]
  refine ⟨⟨fs_0 IN.fx, by decide⟩, WM.mono (fun r sh1 sl1 h1 hw => ?_) (WM.pre (op_canBe sc d sh sl h IN))⟩
  obtain ⟨hw, dy, e⟩ := hw
  have s85 : shAt sh1 85 = some (0, 12) := by rw [e]; exact shAt_app (fs_85 IN.fx)
  simp only [R_282_886, R_282_887]
  refine ⟨⟨s85, wgt_p r⟩, WM.mono (fun r2 sh2 sl2 h2 hz => ?_) hw⟩
  obtain ⟨v, e1, e2, l1, l2, I2⟩ := hz
  subst e1 e2
  simp only [pushR0]
  rw [R_282_890, if_pos rfl]
  exact hq sh2 sl2 h2 l1 l2 I2
theorem L_27 (hr : ∀ j, -2147483648 ≤ sc.2 j ∧ sc.2 j < 2147483648) (hB : ∀ z : Int, 1 ≤ z → z ≤ 5 → 0 ≤ w32 (I + z) ∧ w32 (I + z) < sc.1) (IN : INV sh h) (hq : ∀ sh2 sl2 h2, sh2.length ≤ sh.length + 9 → sl2 ≤ sl + 900 → INV sh2 h2 → WF sc (d + 101) 282 1202 [(2, -2), (2, 0), (2, 85), (0, I)] [] sh2 sl2 h2 Q) : WF sc (d + 101) 282 895 [(2, -2), (2, 0), (2, 85), (0, I)] [] sh sl h Q := by
  simp only [R_282_895, R_282_896, R_282_897, R_282_898, R_282_899, R_282_900, R_282_901]
  refine ⟨hB 1 (by decide) (by decide), ?_⟩
  refine ⟨⟨fs_0 IN.fx, by decide⟩, WM.mono (fun r sh1 sl1 h1 hw => ?_) (WM.pre ((op_beside (hr _)) sc d sh sl h IN))⟩
  obtain ⟨hw, dy, e⟩ := hw
  have s85 : shAt sh1 85 = some (0, 12) := by rw [e]; exact shAt_app (fs_85 IN.fx)
  simp only [R_282_904, R_282_905, R_282_906, R_282_907, R_282_908, R_282_909, R_282_910]
  refine ⟨hB 1 (by decide) (by decide), ?_⟩
  refine ⟨⟨s85, wgt_p r⟩, WM.mono (fun r2 sh2 sl2 h2 hz => ?_) hw⟩
  obtain ⟨v, e1, e2, l1, l2, I2⟩ := hz
  subst e1 e2
  simp only [pushR0]
  rw [R_282_913, if_pos rfl]
  exact hq sh2 sl2 h2 l1 l2 I2
theorem L_28 (hr : ∀ j, -2147483648 ≤ sc.2 j ∧ sc.2 j < 2147483648) (hB : ∀ z : Int, 1 ≤ z → z ≤ 5 → 0 ≤ w32 (I + z) ∧ w32 (I + z) < sc.1) (IN : INV sh h) (hq : ∀ sh2 sl2 h2, sh2.length ≤ sh.length + 9 → sl2 ≤ sl + 900 → INV sh2 h2 → WF sc (d + 101) 282 1202 [(2, -2), (2, 0), (2, 85), (0, I)] [] sh2 sl2 h2 Q) : WF sc (d + 101) 282 918 [(2, -2), (2, 0), (2, 85), (0, I)] [] sh sl h Q := by
  simp only [R_282_918, R_282_919, R_282_920, R_282_921, R_282_922, R_282_923, R_282_924, R_282_925, R_282_926, R_282_927, R_282_928, R_282_929]
  refine ⟨hB 1 (by decide) (by decide), ?_⟩
  refine ⟨hB 2 (by decide) (by decide), ?_⟩
  refine ⟨⟨fs_0 IN.fx, by decide⟩, WM.mono (fun r sh1 sl1 h1 hw => ?_) (WM.pre ((op_sorts (hr _) (hr _)) sc d sh sl h IN))⟩
  obtain ⟨hw, dy, e⟩ := hw
  have s85 : shAt sh1 85 = some (0, 12) := by rw [e]; exact shAt_app (fs_85 IN.fx)
  simp only [R_282_932, R_282_933, R_282_934, R_282_935, R_282_936, R_282_937, R_282_938, R_282_939, R_282_940, R_282_941, R_282_942, R_282_943]
  refine ⟨hB 1 (by decide) (by decide), ?_⟩
  refine ⟨hB 2 (by decide) (by decide), ?_⟩
  refine ⟨⟨s85, wgt_p r⟩, WM.mono (fun r2 sh2 sl2 h2 hz => ?_) hw⟩
  obtain ⟨v, e1, e2, l1, l2, I2⟩ := hz
  subst e1 e2
  simp only [pushR0]
  rw [R_282_946, if_pos rfl]
  exact hq sh2 sl2 h2 l1 l2 I2
theorem L_29 (hr : ∀ j, -2147483648 ≤ sc.2 j ∧ sc.2 j < 2147483648) (hB : ∀ z : Int, 1 ≤ z → z ≤ 5 → 0 ≤ w32 (I + z) ∧ w32 (I + z) < sc.1) (IN : INV sh h) (hq : ∀ sh2 sl2 h2, sh2.length ≤ sh.length + 9 → sl2 ≤ sl + 900 → INV sh2 h2 → WF sc (d + 101) 282 1202 [(2, -2), (2, 0), (2, 85), (0, I)] [] sh2 sl2 h2 Q) : WF sc (d + 101) 282 951 [(2, -2), (2, 0), (2, 85), (0, I)] [] sh sl h Q := by
  simp only [R_282_951, R_282_952, R_282_953, R_282_954, R_282_955, R_282_956, R_282_957, R_282_958, R_282_959, R_282_960, R_282_961, R_282_962]
  refine ⟨hB 1 (by decide) (by decide), ?_⟩
  refine ⟨hB 2 (by decide) (by decide), ?_⟩
  refine ⟨⟨fs_0 IN.fx, by decide⟩, WM.mono (fun r sh1 sl1 h1 hw => ?_) (WM.pre ((op_fewest (hr _) (hr _)) sc d sh sl h IN))⟩
  obtain ⟨hw, dy, e⟩ := hw
  have s85 : shAt sh1 85 = some (0, 12) := by rw [e]; exact shAt_app (fs_85 IN.fx)
  simp only [R_282_965, R_282_966, R_282_967, R_282_968, R_282_969, R_282_970, R_282_971, R_282_972, R_282_973, R_282_974, R_282_975, R_282_976]
  refine ⟨hB 1 (by decide) (by decide), ?_⟩
  refine ⟨hB 2 (by decide) (by decide), ?_⟩
  refine ⟨⟨s85, wgt_p r⟩, WM.mono (fun r2 sh2 sl2 h2 hz => ?_) hw⟩
  obtain ⟨v, e1, e2, l1, l2, I2⟩ := hz
  subst e1 e2
  simp only [pushR0]
  rw [R_282_979, if_pos rfl]
  exact hq sh2 sl2 h2 l1 l2 I2
theorem L_30 (hr : ∀ j, -2147483648 ≤ sc.2 j ∧ sc.2 j < 2147483648) (hB : ∀ z : Int, 1 ≤ z → z ≤ 5 → 0 ≤ w32 (I + z) ∧ w32 (I + z) < sc.1) (IN : INV sh h) (hq : ∀ sh2 sl2 h2, sh2.length ≤ sh.length + 9 → sl2 ≤ sl + 900 → INV sh2 h2 → WF sc (d + 101) 282 1202 [(2, -2), (2, 0), (2, 85), (0, I)] [] sh2 sl2 h2 Q) : WF sc (d + 101) 282 984 [(2, -2), (2, 0), (2, 85), (0, I)] [] sh sl h Q := by
  simp only [R_282_984, R_282_985, R_282_986, R_282_987, R_282_988, R_282_989, R_282_990]
  refine ⟨hB 1 (by decide) (by decide), ?_⟩
  refine ⟨⟨fs_0 IN.fx, by decide⟩, WM.mono (fun r sh1 sl1 h1 hw => ?_) (WM.pre ((op_holds (hr _)) sc d sh sl h IN))⟩
  obtain ⟨hw, dy, e⟩ := hw
  have s85 : shAt sh1 85 = some (0, 12) := by rw [e]; exact shAt_app (fs_85 IN.fx)
  simp only [R_282_993, R_282_994, R_282_995, R_282_996, R_282_997, R_282_998, R_282_999]
  refine ⟨hB 1 (by decide) (by decide), ?_⟩
  refine ⟨⟨s85, wgt_p r⟩, WM.mono (fun r2 sh2 sl2 h2 hz => ?_) hw⟩
  obtain ⟨v, e1, e2, l1, l2, I2⟩ := hz
  subst e1 e2
  simp only [pushR1]
  rw [R_282_1002, R_282_1003, if_pos (lcmp_eq.mpr rfl)]
  exact hq sh2 sl2 h2 l1 l2 I2
theorem L_31 (hr : ∀ j, -2147483648 ≤ sc.2 j ∧ sc.2 j < 2147483648) (hB : ∀ z : Int, 1 ≤ z → z ≤ 5 → 0 ≤ w32 (I + z) ∧ w32 (I + z) < sc.1) (IN : INV sh h) (hq : ∀ sh2 sl2 h2, sh2.length ≤ sh.length + 9 → sl2 ≤ sl + 900 → INV sh2 h2 → WF sc (d + 101) 282 1202 [(2, -2), (2, 0), (2, 85), (0, I)] [] sh2 sl2 h2 Q) : WF sc (d + 101) 282 1008 [(2, -2), (2, 0), (2, 85), (0, I)] [] sh sl h Q := by
  simp only [R_282_1008, R_282_1009, R_282_1010, R_282_1011, R_282_1012, R_282_1013, R_282_1014]
  refine ⟨hB 1 (by decide) (by decide), ?_⟩
  refine ⟨⟨fs_0 IN.fx, by decide⟩, WM.mono (fun r sh1 sl1 h1 hw => ?_) (WM.pre ((op_kin (hr _)) sc d sh sl h IN))⟩
  obtain ⟨hw, dy, e⟩ := hw
  have s85 : shAt sh1 85 = some (0, 12) := by rw [e]; exact shAt_app (fs_85 IN.fx)
  simp only [R_282_1017, R_282_1018, R_282_1019, R_282_1020, R_282_1021, R_282_1022, R_282_1023]
  refine ⟨hB 1 (by decide) (by decide), ?_⟩
  refine ⟨⟨s85, wgt_p r⟩, WM.mono (fun r2 sh2 sl2 h2 hz => ?_) hw⟩
  obtain ⟨v, e1, e2, l1, l2, I2⟩ := hz
  subst e1 e2
  simp only [pushR0]
  rw [R_282_1026, if_pos rfl]
  exact hq sh2 sl2 h2 l1 l2 I2
theorem L_32 (hr : ∀ j, -2147483648 ≤ sc.2 j ∧ sc.2 j < 2147483648) (hB : ∀ z : Int, 1 ≤ z → z ≤ 5 → 0 ≤ w32 (I + z) ∧ w32 (I + z) < sc.1) (IN : INV sh h) (hq : ∀ sh2 sl2 h2, sh2.length ≤ sh.length + 9 → sl2 ≤ sl + 900 → INV sh2 h2 → WF sc (d + 101) 282 1202 [(2, -2), (2, 0), (2, 85), (0, I)] [] sh2 sl2 h2 Q) : WF sc (d + 101) 282 1031 [(2, -2), (2, 0), (2, 85), (0, I)] [] sh sl h Q := by
  simp only [R_282_1031, R_282_1032, R_282_1033, R_282_1034, R_282_1035, R_282_1036, R_282_1037]
  refine ⟨hB 1 (by decide) (by decide), ?_⟩
  refine ⟨⟨fs_0 IN.fx, by decide⟩, WM.mono (fun r sh1 sl1 h1 hw => ?_) (WM.pre ((op_compare (hr _)) sc d sh sl h IN))⟩
  obtain ⟨hw, dy, e⟩ := hw
  have s85 : shAt sh1 85 = some (0, 12) := by rw [e]; exact shAt_app (fs_85 IN.fx)
  simp only [R_282_1040, R_282_1041, R_282_1042, R_282_1043, R_282_1044, R_282_1045, R_282_1046]
  refine ⟨hB 1 (by decide) (by decide), ?_⟩
  refine ⟨⟨s85, wgt_p r⟩, WM.mono (fun r2 sh2 sl2 h2 hz => ?_) hw⟩
  obtain ⟨v, e1, e2, l1, l2, I2⟩ := hz
  subst e1 e2
  simp only [pushR0]
  rw [R_282_1049, if_pos rfl]
  exact hq sh2 sl2 h2 l1 l2 I2
theorem L_33 (hr : ∀ j, -2147483648 ≤ sc.2 j ∧ sc.2 j < 2147483648) (hB : ∀ z : Int, 1 ≤ z → z ≤ 5 → 0 ≤ w32 (I + z) ∧ w32 (I + z) < sc.1) (IN : INV sh h) (hq : ∀ sh2 sl2 h2, sh2.length ≤ sh.length + 9 → sl2 ≤ sl + 900 → INV sh2 h2 → WF sc (d + 101) 282 1202 [(2, -2), (2, 0), (2, 85), (0, I)] [] sh2 sl2 h2 Q) : WF sc (d + 101) 282 1054 [(2, -2), (2, 0), (2, 85), (0, I)] [] sh sl h Q := by
  simp only [R_282_1054, R_282_1055, R_282_1056, R_282_1057, R_282_1058, R_282_1059, R_282_1060, R_282_1061, R_282_1062, R_282_1063, R_282_1064, R_282_1065]
  refine ⟨hB 1 (by decide) (by decide), ?_⟩
  refine ⟨hB 2 (by decide) (by decide), ?_⟩
  refine ⟨⟨fs_0 IN.fx, by decide⟩, WM.mono (fun r sh1 sl1 h1 hw => ?_) (WM.pre ((op_reigns (hr _) (hr _)) sc d sh sl h IN))⟩
  obtain ⟨hw, dy, e⟩ := hw
  have s85 : shAt sh1 85 = some (0, 12) := by rw [e]; exact shAt_app (fs_85 IN.fx)
  simp only [R_282_1068, R_282_1069, R_282_1070, R_282_1071, R_282_1072, R_282_1073, R_282_1074, R_282_1075, R_282_1076, R_282_1077, R_282_1078, R_282_1079]
  refine ⟨hB 1 (by decide) (by decide), ?_⟩
  refine ⟨hB 2 (by decide) (by decide), ?_⟩
  refine ⟨⟨s85, wgt_p r⟩, WM.mono (fun r2 sh2 sl2 h2 hz => ?_) hw⟩
  obtain ⟨v, e1, e2, l1, l2, I2⟩ := hz
  subst e1 e2
  simp only [pushR0]
  rw [R_282_1082, if_pos rfl]
  exact hq sh2 sl2 h2 l1 l2 I2
theorem L_34 (hr : ∀ j, -2147483648 ≤ sc.2 j ∧ sc.2 j < 2147483648) (hB : ∀ z : Int, 1 ≤ z → z ≤ 5 → 0 ≤ w32 (I + z) ∧ w32 (I + z) < sc.1) (IN : INV sh h) (hq : ∀ sh2 sl2 h2, sh2.length ≤ sh.length + 9 → sl2 ≤ sl + 900 → INV sh2 h2 → WF sc (d + 101) 282 1202 [(2, -2), (2, 0), (2, 85), (0, I)] [] sh2 sl2 h2 Q) : WF sc (d + 101) 282 1087 [(2, -2), (2, 0), (2, 85), (0, I)] [] sh sl h Q := by
  simp only [R_282_1087, R_282_1088, R_282_1089, R_282_1090, R_282_1091, R_282_1092, R_282_1093, R_282_1094, R_282_1095, R_282_1096, R_282_1097, R_282_1098]
  refine ⟨hB 1 (by decide) (by decide), ?_⟩
  refine ⟨hB 2 (by decide) (by decide), ?_⟩
  refine ⟨⟨fs_0 IN.fx, by decide⟩, WM.mono (fun r sh1 sl1 h1 hw => ?_) (WM.pre ((op_drawn (hr _) (hr _)) sc d sh sl h IN))⟩
  obtain ⟨hw, dy, e⟩ := hw
  have s85 : shAt sh1 85 = some (0, 12) := by rw [e]; exact shAt_app (fs_85 IN.fx)
  simp only [R_282_1101, R_282_1102, R_282_1103, R_282_1104, R_282_1105, R_282_1106, R_282_1107, R_282_1108, R_282_1109, R_282_1110, R_282_1111, R_282_1112]
  refine ⟨hB 1 (by decide) (by decide), ?_⟩
  refine ⟨hB 2 (by decide) (by decide), ?_⟩
  refine ⟨⟨s85, wgt_p r⟩, WM.mono (fun r2 sh2 sl2 h2 hz => ?_) hw⟩
  obtain ⟨v, e1, e2, l1, l2, I2⟩ := hz
  subst e1 e2
  simp only [pushR0]
  rw [R_282_1115, if_pos rfl]
  exact hq sh2 sl2 h2 l1 l2 I2
theorem L_35 (hr : ∀ j, -2147483648 ≤ sc.2 j ∧ sc.2 j < 2147483648) (hB : ∀ z : Int, 1 ≤ z → z ≤ 5 → 0 ≤ w32 (I + z) ∧ w32 (I + z) < sc.1) (IN : INV sh h) (hq : ∀ sh2 sl2 h2, sh2.length ≤ sh.length + 9 → sl2 ≤ sl + 900 → INV sh2 h2 → WF sc (d + 101) 282 1202 [(2, -2), (2, 0), (2, 85), (0, I)] [] sh2 sl2 h2 Q) : WF sc (d + 101) 282 1120 [(2, -2), (2, 0), (2, 85), (0, I)] [] sh sl h Q := by
  simp only [R_282_1120, R_282_1121, R_282_1122, R_282_1123, R_282_1124, R_282_1125, R_282_1126]
  refine ⟨hB 1 (by decide) (by decide), ?_⟩
  refine ⟨⟨fs_0 IN.fx, by decide⟩, WM.mono (fun r sh1 sl1 h1 hw => ?_) (WM.pre ((op_image (hr _)) sc d sh sl h IN))⟩
  obtain ⟨hw, dy, e⟩ := hw
  have s85 : shAt sh1 85 = some (0, 12) := by rw [e]; exact shAt_app (fs_85 IN.fx)
  simp only [R_282_1129, R_282_1130, R_282_1131, R_282_1132, R_282_1133, R_282_1134, R_282_1135]
  refine ⟨hB 1 (by decide) (by decide), ?_⟩
  refine ⟨⟨s85, wgt_p r⟩, WM.mono (fun r2 sh2 sl2 h2 hz => ?_) hw⟩
  obtain ⟨v, e1, e2, l1, l2, I2⟩ := hz
  subst e1 e2
  simp only [pushR0]
  rw [R_282_1138, if_pos rfl]
  exact hq sh2 sl2 h2 l1 l2 I2
theorem L_36 (hr : ∀ j, -2147483648 ≤ sc.2 j ∧ sc.2 j < 2147483648) (hB : ∀ z : Int, 1 ≤ z → z ≤ 5 → 0 ≤ w32 (I + z) ∧ w32 (I + z) < sc.1) (IN : INV sh h) (hq : ∀ sh2 sl2 h2, sh2.length ≤ sh.length + 9 → sl2 ≤ sl + 900 → INV sh2 h2 → WF sc (d + 101) 282 1202 [(2, -2), (2, 0), (2, 85), (0, I)] [] sh2 sl2 h2 Q) : WF sc (d + 101) 282 1143 [(2, -2), (2, 0), (2, 85), (0, I)] [] sh sl h Q := by
  simp only [R_282_1143, R_282_1144, R_282_1145, R_282_1146, R_282_1147, R_282_1148, R_282_1149]
  refine ⟨hB 1 (by decide) (by decide), ?_⟩
  refine ⟨⟨fs_0 IN.fx, by decide⟩, WM.mono (fun r sh1 sl1 h1 hw => ?_) (WM.pre ((op_back (hr _)) sc d sh sl h IN))⟩
  obtain ⟨hw, dy, e⟩ := hw
  have s85 : shAt sh1 85 = some (0, 12) := by rw [e]; exact shAt_app (fs_85 IN.fx)
  simp only [R_282_1152, R_282_1153, R_282_1154, R_282_1155, R_282_1156, R_282_1157, R_282_1158]
  refine ⟨hB 1 (by decide) (by decide), ?_⟩
  refine ⟨⟨s85, wgt_p r⟩, WM.mono (fun r2 sh2 sl2 h2 hz => ?_) hw⟩
  obtain ⟨v, e1, e2, l1, l2, I2⟩ := hz
  subst e1 e2
  simp only [pushR0]
  rw [R_282_1161, if_pos rfl]
  exact hq sh2 sl2 h2 l1 l2 I2
theorem L_37 (hr : ∀ j, -2147483648 ≤ sc.2 j ∧ sc.2 j < 2147483648) (hB : ∀ z : Int, 1 ≤ z → z ≤ 5 → 0 ≤ w32 (I + z) ∧ w32 (I + z) < sc.1) (IN : INV sh h) (hq : ∀ sh2 sl2 h2, sh2.length ≤ sh.length + 9 → sl2 ≤ sl + 900 → INV sh2 h2 → WF sc (d + 101) 282 1202 [(2, -2), (2, 0), (2, 85), (0, I)] [] sh2 sl2 h2 Q) : WF sc (d + 101) 282 1166 [(2, -2), (2, 0), (2, 85), (0, I)] [] sh sl h Q := by
  simp only [R_282_1166, R_282_1167, R_282_1168, R_282_1169, R_282_1170, R_282_1171, R_282_1172]
  refine ⟨hB 1 (by decide) (by decide), ?_⟩
  refine ⟨⟨fs_0 IN.fx, by decide⟩, WM.mono (fun r sh1 sl1 h1 hw => ?_) (WM.pre ((op_count (hr _)) sc d sh sl h IN))⟩
  obtain ⟨hw, dy, e⟩ := hw
  have s85 : shAt sh1 85 = some (0, 12) := by rw [e]; exact shAt_app (fs_85 IN.fx)
  simp only [R_282_1175, R_282_1176, R_282_1177, R_282_1178, R_282_1179, R_282_1180, R_282_1181]
  refine ⟨hB 1 (by decide) (by decide), ?_⟩
  refine ⟨⟨s85, wgt_p r⟩, WM.mono (fun r2 sh2 sl2 h2 hz => ?_) hw⟩
  obtain ⟨v, e1, e2, l1, l2, I2⟩ := hz
  subst e1 e2
  simp only [pushR0]
  rw [R_282_1184, if_pos rfl]
  exact hq sh2 sl2 h2 l1 l2 I2
theorem L_38 (hr : ∀ j, -2147483648 ≤ sc.2 j ∧ sc.2 j < 2147483648) (hB : ∀ z : Int, 1 ≤ z → z ≤ 5 → 0 ≤ w32 (I + z) ∧ w32 (I + z) < sc.1) (IN : INV sh h) (hq : ∀ sh2 sl2 h2, sh2.length ≤ sh.length + 9 → sl2 ≤ sl + 900 → INV sh2 h2 → WF sc (d + 101) 282 1202 [(2, -2), (2, 0), (2, 85), (0, I)] [] sh2 sl2 h2 Q) : WF sc (d + 101) 282 1189 [(2, -2), (2, 0), (2, 85), (0, I)] [] sh sl h Q := by
  simp only [R_282_1189, R_282_1190]
  refine ⟨⟨fs_0 IN.fx, by decide⟩, WM.mono (fun r sh1 sl1 h1 hw => ?_) (WM.pre (op_status sc d sh sl h IN))⟩
  obtain ⟨hw, dy, e⟩ := hw
  have s85 : shAt sh1 85 = some (0, 12) := by rw [e]; exact shAt_app (fs_85 IN.fx)
  simp only [R_282_1193, R_282_1194]
  refine ⟨⟨s85, wgt_p r⟩, WM.mono (fun r2 sh2 sl2 h2 hz => ?_) hw⟩
  obtain ⟨v, e1, e2, l1, l2, I2⟩ := hz
  subst e1 e2
  simp only [pushR0]
  rw [R_282_1197, if_pos rfl]
  exact hq sh2 sl2 h2 l1 l2 I2
end CASES
/-- one round of the law -/
theorem lw_sw {sc : Nat × (Nat → Int)} {d : Nat} {sh : Shp} {sl : Nat} {h : Sto} {Q : Pst} {I x : Int} (hr : ∀ j, -2147483648 ≤ sc.2 j ∧ sc.2 j < 2147483648) (hB : ∀ z : Int, 1 ≤ z → z ≤ 5 → 0 ≤ w32 (I + z) ∧ w32 (I + z) < sc.1) (IN : INV sh h) (hq : ∀ sh2 sl2 h2, sh2.length ≤ sh.length + 9 → sl2 ≤ sl + 900 → INV sh2 h2 → WF sc (d + 101) 282 1202 [(2, -2), (2, 0), (2, 85), (0, I)] [] sh2 sl2 h2 Q) : WF sc (d + 101) 282 33 [(2, -2), (2, 0), (2, 85), (0, I)] [(0, x)] sh sl h Q := by
  rw [R_282_33]
  refine ite_i (fun _ => hq sh sl h (by omega) (by omega) IN) (fun _ => ?_)
  refine ite_i (fun _ => L_0 hr hB IN hq) (fun _ => ?_)
  refine ite_i (fun _ => L_1 hr hB IN hq) (fun _ => ?_)
  refine ite_i (fun _ => L_2 hr hB IN hq) (fun _ => ?_)
  refine ite_i (fun _ => L_3 hr hB IN hq) (fun _ => ?_)
  refine ite_i (fun _ => L_4 hr hB IN hq) (fun _ => ?_)
  refine ite_i (fun _ => L_5 hr hB IN hq) (fun _ => ?_)
  refine ite_i (fun _ => L_6 hr hB IN hq) (fun _ => ?_)
  refine ite_i (fun _ => L_7 hr hB IN hq) (fun _ => ?_)
  refine ite_i (fun _ => L_8 hr hB IN hq) (fun _ => ?_)
  refine ite_i (fun _ => L_9 hr hB IN hq) (fun _ => ?_)
  refine ite_i (fun _ => L_10 hr hB IN hq) (fun _ => ?_)
  refine ite_i (fun _ => L_11 hr hB IN hq) (fun _ => ?_)
  refine ite_i (fun _ => L_12 hr hB IN hq) (fun _ => ?_)
  refine ite_i (fun _ => L_13 hr hB IN hq) (fun _ => ?_)
  refine ite_i (fun _ => L_14 hr hB IN hq) (fun _ => ?_)
  refine ite_i (fun _ => L_15 hr hB IN hq) (fun _ => ?_)
  refine ite_i (fun _ => L_16 hr hB IN hq) (fun _ => ?_)
  refine ite_i (fun _ => L_17 hr hB IN hq) (fun _ => ?_)
  refine ite_i (fun _ => L_18 hr hB IN hq) (fun _ => ?_)
  refine ite_i (fun _ => L_19 hr hB IN hq) (fun _ => ?_)
  refine ite_i (fun _ => L_20 hr hB IN hq) (fun _ => ?_)
  refine ite_i (fun _ => L_21 hr hB IN hq) (fun _ => ?_)
  refine ite_i (fun _ => L_22 hr hB IN hq) (fun _ => ?_)
  refine ite_i (fun _ => L_23 hr hB IN hq) (fun _ => ?_)
  refine ite_i (fun _ => L_24 hr hB IN hq) (fun _ => ?_)
  refine ite_i (fun _ => L_25 hr hB IN hq) (fun _ => ?_)
  refine ite_i (fun _ => L_26 hr hB IN hq) (fun _ => ?_)
  refine ite_i (fun _ => L_27 hr hB IN hq) (fun _ => ?_)
  refine ite_i (fun _ => L_28 hr hB IN hq) (fun _ => ?_)
  refine ite_i (fun _ => L_29 hr hB IN hq) (fun _ => ?_)
  refine ite_i (fun _ => L_30 hr hB IN hq) (fun _ => ?_)
  refine ite_i (fun _ => L_31 hr hB IN hq) (fun _ => ?_)
  refine ite_i (fun _ => L_32 hr hB IN hq) (fun _ => ?_)
  refine ite_i (fun _ => L_33 hr hB IN hq) (fun _ => ?_)
  refine ite_i (fun _ => L_34 hr hB IN hq) (fun _ => ?_)
  refine ite_i (fun _ => L_35 hr hB IN hq) (fun _ => ?_)
  refine ite_i (fun _ => L_36 hr hB IN hq) (fun _ => ?_)
  refine ite_i (fun _ => L_37 hr hB IN hq) (fun _ => ?_)
  exact L_38 hr hB IN hq
