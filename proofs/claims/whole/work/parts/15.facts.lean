/-! what the tables say of each method (printed by wip/gen/rules.py) -/
def TL_11 : List ME := MT_11 ++ [(⟨"StampQuarrelsLaw", "law", "([I)Z"⟩, code, 4, some .boolean, 13, 1, 0)]
def TL_10 : List ME := MT_10 ++ TL_11
def TL_9 : List ME := MT_9 ++ TL_10
def TL_8 : List ME := MT_8 ++ TL_9
def TL_7 : List ME := MT_7 ++ TL_8
def TL_6 : List ME := MT_6 ++ TL_7
def TL_5 : List ME := MT_5 ++ TL_6
def TL_4 : List ME := MT_4 ++ TL_5
def TL_3 : List ME := MT_3 ++ TL_4
def TL_2 : List ME := MT_2 ++ TL_3
def TL_1 : List ME := MT_1 ++ TL_2
def TL_0 : List ME := MT_0 ++ TL_1
theorem ap_r {α : Type} {a b : List α} {n : Nat} (ha : a.length = n) (k : Nat) : (a ++ b)[n + k]? = b[k]? := by rw [List.getElem?_append_right (by omega)]; congr 1; omega
theorem tl_0 (j : Nat) : MTL[24 * 0 + j]? = TL_0[j]? := by
  have e : MTL = TL_0 := by unfold MTL MT TL_0 TL_1 TL_2 TL_3 TL_4 TL_5 TL_6 TL_7 TL_8 TL_9 TL_10 TL_11; simp only [List.append_assoc]
  rw [e]; congr 1; omega
theorem tl_1 (j : Nat) : MTL[24 * 1 + j]? = TL_1[j]? := by
  rw [show 24 * 1 + j = 24 * 0 + (24 + j) by omega, tl_0, TL_0]; exact ap_r rfl j
theorem tl_2 (j : Nat) : MTL[24 * 2 + j]? = TL_2[j]? := by
  rw [show 24 * 2 + j = 24 * 1 + (24 + j) by omega, tl_1, TL_1]; exact ap_r rfl j
theorem tl_3 (j : Nat) : MTL[24 * 3 + j]? = TL_3[j]? := by
  rw [show 24 * 3 + j = 24 * 2 + (24 + j) by omega, tl_2, TL_2]; exact ap_r rfl j
theorem tl_4 (j : Nat) : MTL[24 * 4 + j]? = TL_4[j]? := by
  rw [show 24 * 4 + j = 24 * 3 + (24 + j) by omega, tl_3, TL_3]; exact ap_r rfl j
theorem tl_5 (j : Nat) : MTL[24 * 5 + j]? = TL_5[j]? := by
  rw [show 24 * 5 + j = 24 * 4 + (24 + j) by omega, tl_4, TL_4]; exact ap_r rfl j
theorem tl_6 (j : Nat) : MTL[24 * 6 + j]? = TL_6[j]? := by
  rw [show 24 * 6 + j = 24 * 5 + (24 + j) by omega, tl_5, TL_5]; exact ap_r rfl j
theorem tl_7 (j : Nat) : MTL[24 * 7 + j]? = TL_7[j]? := by
  rw [show 24 * 7 + j = 24 * 6 + (24 + j) by omega, tl_6, TL_6]; exact ap_r rfl j
theorem tl_8 (j : Nat) : MTL[24 * 8 + j]? = TL_8[j]? := by
  rw [show 24 * 8 + j = 24 * 7 + (24 + j) by omega, tl_7, TL_7]; exact ap_r rfl j
theorem tl_9 (j : Nat) : MTL[24 * 9 + j]? = TL_9[j]? := by
  rw [show 24 * 9 + j = 24 * 8 + (24 + j) by omega, tl_8, TL_8]; exact ap_r rfl j
theorem tl_10 (j : Nat) : MTL[24 * 10 + j]? = TL_10[j]? := by
  rw [show 24 * 10 + j = 24 * 9 + (24 + j) by omega, tl_9, TL_9]; exact ap_r rfl j
theorem tl_11 (j : Nat) : MTL[24 * 11 + j]? = TL_11[j]? := by
  rw [show 24 * 11 + j = 24 * 10 + (24 + j) by omega, tl_10, TL_10]; exact ap_r rfl j
theorem m_0 : MTL[0]? = some (⟨"StampQuarrels", "<init>", "()V"⟩, prog_1_method_1_code, 2, none, 11, 0, 158) := (congrArg (fun k => MTL[k]?) (show (0 : Nat) = 24 * 0 + 0 from rfl)).trans ((tl_0 0).trans rfl)
theorem o_0 : ocOf 0 = 11 := ocOf_eq m_0
theorem r_0 : retOf 0 = none := retOf_eq m_0
theorem x_0 : maxLOf 0 = 2 := maxLOf_eq m_0
theorem p_0 : npOf 0 = 0 := npOf_eq m_0
theorem n_0 : iniOf 0 = true := (iniOf_eq m_0).trans (by decide)
theorem m_1 : MTL[1]? = some (⟨"StampQuarrels$State", "<init>", "()V"⟩, prog_12_method_1_code, 1, none, 10, 0, 166) := (congrArg (fun k => MTL[k]?) (show (1 : Nat) = 24 * 0 + 1 from rfl)).trans ((tl_0 1).trans rfl)
theorem o_1 : ocOf 1 = 10 := ocOf_eq m_1
theorem r_1 : retOf 1 = none := retOf_eq m_1
theorem x_1 : maxLOf 1 = 1 := maxLOf_eq m_1
theorem p_1 : npOf 1 = 0 := npOf_eq m_1
theorem n_1 : iniOf 1 = true := (iniOf_eq m_1).trans (by decide)
theorem m_2 : MTL[2]? = some (⟨"StampQuarrels$Board", "<init>", "()V"⟩, prog_2_method_1_code, 1, none, 0, 0, 174) := (congrArg (fun k => MTL[k]?) (show (2 : Nat) = 24 * 0 + 2 from rfl)).trans ((tl_0 2).trans rfl)
theorem o_2 : ocOf 2 = 0 := ocOf_eq m_2
theorem r_2 : retOf 2 = none := retOf_eq m_2
theorem x_2 : maxLOf 2 = 1 := maxLOf_eq m_2
theorem p_2 : npOf 2 = 0 := npOf_eq m_2
theorem n_2 : iniOf 2 = true := (iniOf_eq m_2).trans (by decide)
theorem m_3 : MTL[3]? = some (⟨"StampQuarrels$Script", "<init>", "(II)V"⟩, prog_11_method_1_code, 5, none, 9, 2, 265) := (congrArg (fun k => MTL[k]?) (show (3 : Nat) = 24 * 0 + 3 from rfl)).trans ((tl_0 3).trans rfl)
theorem o_3 : ocOf 3 = 9 := ocOf_eq m_3
theorem r_3 : retOf 3 = none := retOf_eq m_3
theorem x_3 : maxLOf 3 = 5 := maxLOf_eq m_3
theorem p_3 : npOf 3 = 2 := npOf_eq m_3
theorem n_3 : iniOf 3 = true := (iniOf_eq m_3).trans (by decide)
theorem m_4 : MTL[4]? = some (⟨"StampQuarrels$Reader", "<init>", "([BLStampQuarrels$Script;)V"⟩, prog_9_method_1_code, 3, none, 7, 2, 328) := (congrArg (fun k => MTL[k]?) (show (4 : Nat) = 24 * 0 + 4 from rfl)).trans ((tl_0 4).trans rfl)
theorem o_4 : ocOf 4 = 7 := ocOf_eq m_4
theorem r_4 : retOf 4 = none := retOf_eq m_4
theorem x_4 : maxLOf 4 = 3 := maxLOf_eq m_4
theorem p_4 : npOf 4 = 2 := npOf_eq m_4
theorem n_4 : iniOf 4 = true := (iniOf_eq m_4).trans (by decide)
theorem m_5 : MTL[5]? = some (⟨"StampQuarrels$History", "<init>", "()V"⟩, prog_5_method_1_code, 1, none, 3, 0, 369) := (congrArg (fun k => MTL[k]?) (show (5 : Nat) = 24 * 0 + 5 from rfl)).trans ((tl_0 5).trans rfl)
theorem o_5 : ocOf 5 = 3 := ocOf_eq m_5
theorem r_5 : retOf 5 = none := retOf_eq m_5
theorem x_5 : maxLOf 5 = 1 := maxLOf_eq m_5
theorem p_5 : npOf 5 = 0 := npOf_eq m_5
theorem n_5 : iniOf 5 = true := (iniOf_eq m_5).trans (by decide)
theorem m_6 : MTL[6]? = some (⟨"StampQuarrels$Judge", "<init>", "(LStampQuarrels$State;LStampQuarrels$Board;)V"⟩, prog_6_method_1_code, 3, none, 4, 2, 389) := (congrArg (fun k => MTL[k]?) (show (6 : Nat) = 24 * 0 + 6 from rfl)).trans ((tl_0 6).trans rfl)
theorem o_6 : ocOf 6 = 4 := ocOf_eq m_6
theorem r_6 : retOf 6 = none := retOf_eq m_6
theorem x_6 : maxLOf 6 = 3 := maxLOf_eq m_6
theorem p_6 : npOf 6 = 2 := npOf_eq m_6
theorem n_6 : iniOf 6 = true := (iniOf_eq m_6).trans (by decide)
theorem m_7 : MTL[7]? = some (⟨"StampQuarrels$Mover", "<init>", "(LStampQuarrels$Judge;LStampQuarrels$History;)V"⟩, prog_7_method_1_code, 3, none, 5, 2, 415) := (congrArg (fun k => MTL[k]?) (show (7 : Nat) = 24 * 0 + 7 from rfl)).trans ((tl_0 7).trans rfl)
theorem o_7 : ocOf 7 = 5 := ocOf_eq m_7
theorem r_7 : retOf 7 = none := retOf_eq m_7
theorem x_7 : maxLOf 7 = 3 := maxLOf_eq m_7
theorem p_7 : npOf 7 = 2 := npOf_eq m_7
theorem n_7 : iniOf 7 = true := (iniOf_eq m_7).trans (by decide)
theorem m_8 : MTL[8]? = some (⟨"StampQuarrels$Clerk", "<init>", "(LStampQuarrels$Mover;LStampQuarrels$History;)V"⟩, prog_3_method_1_code, 3, none, 1, 2, 440) := (congrArg (fun k => MTL[k]?) (show (8 : Nat) = 24 * 0 + 8 from rfl)).trans ((tl_0 8).trans rfl)
theorem o_8 : ocOf 8 = 1 := ocOf_eq m_8
theorem r_8 : retOf 8 = none := retOf_eq m_8
theorem x_8 : maxLOf 8 = 3 := maxLOf_eq m_8
theorem p_8 : npOf 8 = 2 := npOf_eq m_8
theorem n_8 : iniOf 8 = true := (iniOf_eq m_8).trans (by decide)
theorem m_9 : MTL[9]? = some (⟨"StampQuarrels$Plans", "<init>", "(LStampQuarrels$Judge;)V"⟩, prog_8_method_1_code, 2, none, 6, 1, 485) := (congrArg (fun k => MTL[k]?) (show (9 : Nat) = 24 * 0 + 9 from rfl)).trans ((tl_0 9).trans rfl)
theorem o_9 : ocOf 9 = 6 := ocOf_eq m_9
theorem r_9 : retOf 9 = none := retOf_eq m_9
theorem x_9 : maxLOf 9 = 2 := maxLOf_eq m_9
theorem p_9 : npOf 9 = 1 := npOf_eq m_9
theorem n_9 : iniOf 9 = true := (iniOf_eq m_9).trans (by decide)
theorem m_10 : MTL[10]? = some (⟨"StampQuarrels$Guess", "<init>", "(LStampQuarrels$Judge;)V"⟩, prog_4_method_1_code, 2, none, 2, 1, 558) := (congrArg (fun k => MTL[k]?) (show (10 : Nat) = 24 * 0 + 10 from rfl)).trans ((tl_0 10).trans rfl)
theorem o_10 : ocOf 10 = 2 := ocOf_eq m_10
theorem r_10 : retOf 10 = none := retOf_eq m_10
theorem x_10 : maxLOf 10 = 2 := maxLOf_eq m_10
theorem p_10 : npOf 10 = 1 := npOf_eq m_10
theorem n_10 : iniOf 10 = true := (iniOf_eq m_10).trans (by decide)
theorem m_11 : MTL[11]? = some (⟨"StampQuarrels$Reign", "<init>", "(LStampQuarrels$State;)V"⟩, prog_10_method_1_code, 2, none, 8, 1, 592) := (congrArg (fun k => MTL[k]?) (show (11 : Nat) = 24 * 0 + 11 from rfl)).trans ((tl_0 11).trans rfl)
theorem o_11 : ocOf 11 = 8 := ocOf_eq m_11
theorem r_11 : retOf 11 = none := retOf_eq m_11
theorem x_11 : maxLOf 11 = 2 := maxLOf_eq m_11
theorem p_11 : npOf 11 = 1 := npOf_eq m_11
theorem n_11 : iniOf 11 = true := (iniOf_eq m_11).trans (by decide)
theorem m_12 : MTL[12]? = some (⟨"StampQuarrels", "stamp", "(IIII)I"⟩, prog_1_method_2_code, 5, some .int, 11, 4, 677) := (congrArg (fun k => MTL[k]?) (show (12 : Nat) = 24 * 0 + 12 from rfl)).trans ((tl_0 12).trans rfl)
theorem o_12 : ocOf 12 = 11 := ocOf_eq m_12
theorem r_12 : retOf 12 = some .int := retOf_eq m_12
theorem x_12 : maxLOf 12 = 5 := maxLOf_eq m_12
theorem p_12 : npOf 12 = 4 := npOf_eq m_12
theorem n_12 : iniOf 12 = false := (iniOf_eq m_12).trans (by decide)
theorem m_13 : MTL[13]? = some (⟨"StampQuarrels", "canBeStamp", "(IIII)Z"⟩, prog_1_method_48_code, 4, some .boolean, 11, 4, 680) := (congrArg (fun k => MTL[k]?) (show (13 : Nat) = 24 * 0 + 13 from rfl)).trans ((tl_0 13).trans rfl)
theorem o_13 : ocOf 13 = 11 := ocOf_eq m_13
theorem r_13 : retOf 13 = some .boolean := retOf_eq m_13
theorem x_13 : maxLOf 13 = 4 := maxLOf_eq m_13
theorem p_13 : npOf 13 = 4 := npOf_eq m_13
theorem n_13 : iniOf 13 = false := (iniOf_eq m_13).trans (by decide)
theorem m_14 : MTL[14]? = some (⟨"StampQuarrels", "refused", "(I)I"⟩, prog_1_method_41_code, 2, some .int, 11, 1, 684) := (congrArg (fun k => MTL[k]?) (show (14 : Nat) = 24 * 0 + 14 from rfl)).trans ((tl_0 14).trans rfl)
theorem o_14 : ocOf 14 = 11 := ocOf_eq m_14
theorem r_14 : retOf 14 = some .int := retOf_eq m_14
theorem x_14 : maxLOf 14 = 2 := maxLOf_eq m_14
theorem p_14 : npOf 14 = 1 := npOf_eq m_14
theorem n_14 : iniOf 14 = false := (iniOf_eq m_14).trans (by decide)
theorem m_15 : MTL[15]? = some (⟨"StampQuarrels$State", "addStamp", "(IIII)I"⟩, prog_12_method_3_code, 6, some .int, 10, 4, 688) := (congrArg (fun k => MTL[k]?) (show (15 : Nat) = 24 * 0 + 15 from rfl)).trans ((tl_0 15).trans rfl)
theorem o_15 : ocOf 15 = 10 := ocOf_eq m_15
theorem r_15 : retOf 15 = some .int := retOf_eq m_15
theorem x_15 : maxLOf 15 = 6 := maxLOf_eq m_15
theorem p_15 : npOf 15 = 4 := npOf_eq m_15
theorem n_15 : iniOf 15 = false := (iniOf_eq m_15).trans (by decide)
theorem m_16 : MTL[16]? = some (⟨"StampQuarrels$Board", "setGlue", "(II)V"⟩, prog_2_method_6_code, 3, none, 0, 2, 692) := (congrArg (fun k => MTL[k]?) (show (16 : Nat) = 24 * 0 + 16 from rfl)).trans ((tl_0 16).trans rfl)
theorem o_16 : ocOf 16 = 0 := ocOf_eq m_16
theorem r_16 : retOf 16 = none := retOf_eq m_16
theorem x_16 : maxLOf 16 = 3 := maxLOf_eq m_16
theorem p_16 : npOf 16 = 2 := npOf_eq m_16
theorem n_16 : iniOf 16 = false := (iniOf_eq m_16).trans (by decide)
theorem m_17 : MTL[17]? = some (⟨"StampQuarrels$Board", "setHome", "(II)V"⟩, prog_2_method_8_code, 3, none, 0, 2, 696) := (congrArg (fun k => MTL[k]?) (show (17 : Nat) = 24 * 0 + 17 from rfl)).trans ((tl_0 17).trans rfl)
theorem o_17 : ocOf 17 = 0 := ocOf_eq m_17
theorem r_17 : retOf 17 = none := retOf_eq m_17
theorem x_17 : maxLOf 17 = 3 := maxLOf_eq m_17
theorem p_17 : npOf 17 = 2 := npOf_eq m_17
theorem n_17 : iniOf 17 = false := (iniOf_eq m_17).trans (by decide)
theorem m_18 : MTL[18]? = some (⟨"StampQuarrels", "granted", "(I)I"⟩, prog_1_method_42_code, 2, some .int, 11, 1, 700) := (congrArg (fun k => MTL[k]?) (show (18 : Nat) = 24 * 0 + 18 from rfl)).trans ((tl_0 18).trans rfl)
theorem o_18 : ocOf 18 = 11 := ocOf_eq m_18
theorem r_18 : retOf 18 = some .int := retOf_eq m_18
theorem x_18 : maxLOf 18 = 2 := maxLOf_eq m_18
theorem p_18 : npOf 18 = 1 := npOf_eq m_18
theorem n_18 : iniOf 18 = false := (iniOf_eq m_18).trans (by decide)
theorem m_19 : MTL[19]? = some (⟨"StampQuarrels", "of", "(II)I"⟩, prog_1_method_3_code, 4, some .int, 11, 2, 704) := (congrArg (fun k => MTL[k]?) (show (19 : Nat) = 24 * 0 + 19 from rfl)).trans ((tl_0 19).trans rfl)
theorem o_19 : ocOf 19 = 11 := ocOf_eq m_19
theorem r_19 : retOf 19 = some .int := retOf_eq m_19
theorem x_19 : maxLOf 19 = 4 := maxLOf_eq m_19
theorem p_19 : npOf 19 = 2 := npOf_eq m_19
theorem n_19 : iniOf 19 = false := (iniOf_eq m_19).trans (by decide)
theorem m_20 : MTL[20]? = some (⟨"StampQuarrels", "isStamp", "(I)Z"⟩, prog_1_method_44_code, 2, some .boolean, 11, 1, 708) := (congrArg (fun k => MTL[k]?) (show (20 : Nat) = 24 * 0 + 20 from rfl)).trans ((tl_0 20).trans rfl)
theorem o_20 : ocOf 20 = 11 := ocOf_eq m_20
theorem r_20 : retOf 20 = some .boolean := retOf_eq m_20
theorem x_20 : maxLOf 20 = 2 := maxLOf_eq m_20
theorem p_20 : npOf 20 = 1 := npOf_eq m_20
theorem n_20 : iniOf 20 = false := (iniOf_eq m_20).trans (by decide)
theorem m_21 : MTL[21]? = some (⟨"StampQuarrels$Board", "glueOf", "(I)I"⟩, prog_2_method_5_code, 2, some .int, 0, 1, 712) := (congrArg (fun k => MTL[k]?) (show (21 : Nat) = 24 * 0 + 21 from rfl)).trans ((tl_0 21).trans rfl)
theorem o_21 : ocOf 21 = 0 := ocOf_eq m_21
theorem r_21 : retOf 21 = some .int := retOf_eq m_21
theorem x_21 : maxLOf 21 = 2 := maxLOf_eq m_21
theorem p_21 : npOf 21 = 1 := npOf_eq m_21
theorem n_21 : iniOf 21 = false := (iniOf_eq m_21).trans (by decide)
theorem m_22 : MTL[22]? = some (⟨"StampQuarrels$Board", "letterOf", "(I)I"⟩, prog_2_method_9_code, 2, some .int, 0, 1, 716) := (congrArg (fun k => MTL[k]?) (show (22 : Nat) = 24 * 0 + 22 from rfl)).trans ((tl_0 22).trans rfl)
theorem o_22 : ocOf 22 = 0 := ocOf_eq m_22
theorem r_22 : retOf 22 = some .int := retOf_eq m_22
theorem x_22 : maxLOf 22 = 2 := maxLOf_eq m_22
theorem p_22 : npOf 22 = 1 := npOf_eq m_22
theorem n_22 : iniOf 22 = false := (iniOf_eq m_22).trans (by decide)
theorem m_23 : MTL[23]? = some (⟨"StampQuarrels$Board", "homeOf", "(I)I"⟩, prog_2_method_7_code, 2, some .int, 0, 1, 720) := (congrArg (fun k => MTL[k]?) (show (23 : Nat) = 24 * 0 + 23 from rfl)).trans ((tl_0 23).trans rfl)
theorem o_23 : ocOf 23 = 0 := ocOf_eq m_23
theorem r_23 : retOf 23 = some .int := retOf_eq m_23
theorem x_23 : maxLOf 23 = 2 := maxLOf_eq m_23
theorem p_23 : npOf 23 = 1 := npOf_eq m_23
theorem n_23 : iniOf 23 = false := (iniOf_eq m_23).trans (by decide)
theorem m_24 : MTL[24]? = some (⟨"StampQuarrels$Board", "spotOf", "(I)I"⟩, prog_2_method_16_code, 4, some .int, 0, 1, 725) := (congrArg (fun k => MTL[k]?) (show (24 : Nat) = 24 * 1 + 0 from rfl)).trans ((tl_1 0).trans rfl)
theorem o_24 : ocOf 24 = 0 := ocOf_eq m_24
theorem r_24 : retOf 24 = some .int := retOf_eq m_24
theorem x_24 : maxLOf 24 = 4 := maxLOf_eq m_24
theorem p_24 : npOf 24 = 1 := npOf_eq m_24
theorem n_24 : iniOf 24 = false := (iniOf_eq m_24).trans (by decide)
theorem m_25 : MTL[25]? = some (⟨"StampQuarrels$Board", "sizeOf", "(I)I"⟩, prog_2_method_10_code, 2, some .int, 0, 1, 730) := (congrArg (fun k => MTL[k]?) (show (25 : Nat) = 24 * 1 + 1 from rfl)).trans ((tl_1 1).trans rfl)
theorem o_25 : ocOf 25 = 0 := ocOf_eq m_25
theorem r_25 : retOf 25 = some .int := retOf_eq m_25
theorem x_25 : maxLOf 25 = 2 := maxLOf_eq m_25
theorem p_25 : npOf 25 = 1 := npOf_eq m_25
theorem n_25 : iniOf 25 = false := (iniOf_eq m_25).trans (by decide)
theorem m_26 : MTL[26]? = some (⟨"StampQuarrels$Board", "stampAt", "(II)I"⟩, prog_2_method_12_code, 3, some .int, 0, 2, 734) := (congrArg (fun k => MTL[k]?) (show (26 : Nat) = 24 * 1 + 2 from rfl)).trans ((tl_1 2).trans rfl)
theorem o_26 : ocOf 26 = 0 := ocOf_eq m_26
theorem r_26 : retOf 26 = some .int := retOf_eq m_26
theorem x_26 : maxLOf 26 = 3 := maxLOf_eq m_26
theorem p_26 : npOf 26 = 2 := npOf_eq m_26
theorem n_26 : iniOf 26 = false := (iniOf_eq m_26).trans (by decide)
theorem m_27 : MTL[27]? = some (⟨"StampQuarrels$Judge", "counts", "(I)I"⟩, prog_6_method_5_code, 2, some .int, 4, 1, 739) := (congrArg (fun k => MTL[k]?) (show (27 : Nat) = 24 * 1 + 3 from rfl)).trans ((tl_1 3).trans rfl)
theorem o_27 : ocOf 27 = 4 := ocOf_eq m_27
theorem r_27 : retOf 27 = some .int := retOf_eq m_27
theorem x_27 : maxLOf 27 = 2 := maxLOf_eq m_27
theorem p_27 : npOf 27 = 1 := npOf_eq m_27
theorem n_27 : iniOf 27 = false := (iniOf_eq m_27).trans (by decide)
theorem m_28 : MTL[28]? = some (⟨"StampQuarrels$Judge", "told", "(IIIII)I"⟩, prog_6_method_8_code, 11, some .int, 4, 5, 743) := (congrArg (fun k => MTL[k]?) (show (28 : Nat) = 24 * 1 + 4 from rfl)).trans ((tl_1 4).trans rfl)
theorem o_28 : ocOf 28 = 4 := ocOf_eq m_28
theorem r_28 : retOf 28 = some .int := retOf_eq m_28
theorem x_28 : maxLOf 28 = 11 := maxLOf_eq m_28
theorem p_28 : npOf 28 = 5 := npOf_eq m_28
theorem n_28 : iniOf 28 = false := (iniOf_eq m_28).trans (by decide)
theorem m_29 : MTL[29]? = some (⟨"StampQuarrels$Board", "today", "()I"⟩, prog_2_method_3_code, 1, some .int, 0, 0, 748) := (congrArg (fun k => MTL[k]?) (show (29 : Nat) = 24 * 1 + 5 from rfl)).trans ((tl_1 5).trans rfl)
theorem o_29 : ocOf 29 = 0 := ocOf_eq m_29
theorem r_29 : retOf 29 = some .int := retOf_eq m_29
theorem x_29 : maxLOf 29 = 1 := maxLOf_eq m_29
theorem p_29 : npOf 29 = 0 := npOf_eq m_29
theorem n_29 : iniOf 29 = false := (iniOf_eq m_29).trans (by decide)
theorem m_30 : MTL[30]? = some (⟨"StampQuarrels$Script", "tell", "(I[I[J)J"⟩, prog_11_method_3_code, 15, some .long, 9, 3, 752) := (congrArg (fun k => MTL[k]?) (show (30 : Nat) = 24 * 1 + 6 from rfl)).trans ((tl_1 6).trans rfl)
theorem o_30 : ocOf 30 = 9 := ocOf_eq m_30
theorem r_30 : retOf 30 = some .long := retOf_eq m_30
theorem x_30 : maxLOf 30 = 15 := maxLOf_eq m_30
theorem p_30 : npOf 30 = 3 := npOf_eq m_30
theorem n_30 : iniOf 30 = false := (iniOf_eq m_30).trans (by decide)
theorem m_31 : MTL[31]? = some (⟨"StampQuarrels$Judge", "dries", "(I)I"⟩, prog_6_method_4_code, 2, some .int, 4, 1, 766) := (congrArg (fun k => MTL[k]?) (show (31 : Nat) = 24 * 1 + 7 from rfl)).trans ((tl_1 7).trans rfl)
theorem o_31 : ocOf 31 = 4 := ocOf_eq m_31
theorem r_31 : retOf 31 = some .int := retOf_eq m_31
theorem x_31 : maxLOf 31 = 2 := maxLOf_eq m_31
theorem p_31 : npOf 31 = 1 := npOf_eq m_31
theorem n_31 : iniOf 31 = false := (iniOf_eq m_31).trans (by decide)
theorem m_32 : MTL[32]? = some (⟨"StampQuarrels", "letter", "(I)I"⟩, prog_1_method_4_code, 2, some .int, 11, 1, 770) := (congrArg (fun k => MTL[k]?) (show (32 : Nat) = 24 * 1 + 8 from rfl)).trans ((tl_1 8).trans rfl)
theorem o_32 : ocOf 32 = 11 := ocOf_eq m_32
theorem r_32 : retOf 32 = some .int := retOf_eq m_32
theorem x_32 : maxLOf 32 = 2 := maxLOf_eq m_32
theorem p_32 : npOf 32 = 1 := npOf_eq m_32
theorem n_32 : iniOf 32 = false := (iniOf_eq m_32).trans (by decide)
theorem m_33 : MTL[33]? = some (⟨"StampQuarrels$State", "addLetter", "(I)I"⟩, prog_12_method_4_code, 3, some .int, 10, 1, 774) := (congrArg (fun k => MTL[k]?) (show (33 : Nat) = 24 * 1 + 9 from rfl)).trans ((tl_1 9).trans rfl)
theorem o_33 : ocOf 33 = 10 := ocOf_eq m_33
theorem r_33 : retOf 33 = some .int := retOf_eq m_33
theorem x_33 : maxLOf 33 = 3 := maxLOf_eq m_33
theorem p_33 : npOf 33 = 1 := npOf_eq m_33
theorem n_33 : iniOf 33 = false := (iniOf_eq m_33).trans (by decide)
theorem m_34 : MTL[34]? = some (⟨"StampQuarrels$Board", "setSize", "(II)V"⟩, prog_2_method_11_code, 3, none, 0, 2, 778) := (congrArg (fun k => MTL[k]?) (show (34 : Nat) = 24 * 1 + 10 from rfl)).trans ((tl_1 10).trans rfl)
theorem o_34 : ocOf 34 = 0 := ocOf_eq m_34
theorem r_34 : retOf 34 = none := retOf_eq m_34
theorem x_34 : maxLOf 34 = 3 := maxLOf_eq m_34
theorem p_34 : npOf 34 = 2 := npOf_eq m_34
theorem n_34 : iniOf 34 = false := (iniOf_eq m_34).trans (by decide)
theorem m_35 : MTL[35]? = some (⟨"StampQuarrels$Board", "setLate", "(II)V"⟩, prog_2_method_15_code, 3, none, 0, 2, 782) := (congrArg (fun k => MTL[k]?) (show (35 : Nat) = 24 * 1 + 11 from rfl)).trans ((tl_1 11).trans rfl)
theorem o_35 : ocOf 35 = 0 := ocOf_eq m_35
theorem r_35 : retOf 35 = none := retOf_eq m_35
theorem x_35 : maxLOf 35 = 3 := maxLOf_eq m_35
theorem p_35 : npOf 35 = 2 := npOf_eq m_35
theorem n_35 : iniOf 35 = false := (iniOf_eq m_35).trans (by decide)
theorem m_36 : MTL[36]? = some (⟨"StampQuarrels", "at", "(II)I"⟩, prog_1_method_5_code, 5, some .int, 11, 2, 786) := (congrArg (fun k => MTL[k]?) (show (36 : Nat) = 24 * 1 + 12 from rfl)).trans ((tl_1 12).trans rfl)
theorem o_36 : ocOf 36 = 11 := ocOf_eq m_36
theorem r_36 : retOf 36 = some .int := retOf_eq m_36
theorem x_36 : maxLOf 36 = 5 := maxLOf_eq m_36
theorem p_36 : npOf 36 = 2 := npOf_eq m_36
theorem n_36 : iniOf 36 = false := (iniOf_eq m_36).trans (by decide)
theorem m_37 : MTL[37]? = some (⟨"StampQuarrels", "isLetter", "(I)Z"⟩, prog_1_method_45_code, 2, some .boolean, 11, 1, 790) := (congrArg (fun k => MTL[k]?) (show (37 : Nat) = 24 * 1 + 13 from rfl)).trans ((tl_1 13).trans rfl)
theorem o_37 : ocOf 37 = 11 := ocOf_eq m_37
theorem r_37 : retOf 37 = some .boolean := retOf_eq m_37
theorem x_37 : maxLOf 37 = 2 := maxLOf_eq m_37
theorem p_37 : npOf 37 = 1 := npOf_eq m_37
theorem n_37 : iniOf 37 = false := (iniOf_eq m_37).trans (by decide)
theorem m_38 : MTL[38]? = some (⟨"StampQuarrels$Judge", "paid", "(I)I"⟩, prog_6_method_6_code, 4, some .int, 4, 1, 795) := (congrArg (fun k => MTL[k]?) (show (38 : Nat) = 24 * 1 + 14 from rfl)).trans ((tl_1 14).trans rfl)
theorem o_38 : ocOf 38 = 4 := ocOf_eq m_38
theorem r_38 : retOf 38 = some .int := retOf_eq m_38
theorem x_38 : maxLOf 38 = 4 := maxLOf_eq m_38
theorem p_38 : npOf 38 = 1 := npOf_eq m_38
theorem n_38 : iniOf 38 = false := (iniOf_eq m_38).trans (by decide)
theorem m_39 : MTL[39]? = some (⟨"StampQuarrels$Judge", "quarrelOn", "(I)I"⟩, prog_6_method_7_code, 4, some .int, 4, 1, 802) := (congrArg (fun k => MTL[k]?) (show (39 : Nat) = 24 * 1 + 15 from rfl)).trans ((tl_1 15).trans rfl)
theorem o_39 : ocOf 39 = 4 := ocOf_eq m_39
theorem r_39 : retOf 39 = some .int := retOf_eq m_39
theorem x_39 : maxLOf 39 = 4 := maxLOf_eq m_39
theorem p_39 : npOf 39 = 1 := npOf_eq m_39
theorem n_39 : iniOf 39 = false := (iniOf_eq m_39).trans (by decide)
theorem m_40 : MTL[40]? = some (⟨"StampQuarrels$Judge", "quarrel", "(II)I"⟩, prog_6_method_2_code, 5, some .int, 4, 2, 806) := (congrArg (fun k => MTL[k]?) (show (40 : Nat) = 24 * 1 + 16 from rfl)).trans ((tl_1 16).trans rfl)
theorem o_40 : ocOf 40 = 4 := ocOf_eq m_40
theorem r_40 : retOf 40 = some .int := retOf_eq m_40
theorem x_40 : maxLOf 40 = 5 := maxLOf_eq m_40
theorem p_40 : npOf 40 = 2 := npOf_eq m_40
theorem n_40 : iniOf 40 = false := (iniOf_eq m_40).trans (by decide)
theorem m_41 : MTL[41]? = some (⟨"StampQuarrels$Board", "lateOf", "(I)I"⟩, prog_2_method_14_code, 2, some .int, 0, 1, 810) := (congrArg (fun k => MTL[k]?) (show (41 : Nat) = 24 * 1 + 17 from rfl)).trans ((tl_1 17).trans rfl)
theorem o_41 : ocOf 41 = 0 := ocOf_eq m_41
theorem r_41 : retOf 41 = some .int := retOf_eq m_41
theorem x_41 : maxLOf 41 = 2 := maxLOf_eq m_41
theorem p_41 : npOf 41 = 1 := npOf_eq m_41
theorem n_41 : iniOf 41 = false := (iniOf_eq m_41).trans (by decide)
theorem m_42 : MTL[42]? = some (⟨"StampQuarrels", "asks", "(III)I"⟩, prog_1_method_6_code, 4, some .int, 11, 3, 815) := (congrArg (fun k => MTL[k]?) (show (42 : Nat) = 24 * 1 + 18 from rfl)).trans ((tl_1 18).trans rfl)
theorem o_42 : ocOf 42 = 11 := ocOf_eq m_42
theorem r_42 : retOf 42 = some .int := retOf_eq m_42
theorem x_42 : maxLOf 42 = 4 := maxLOf_eq m_42
theorem p_42 : npOf 42 = 3 := npOf_eq m_42
theorem n_42 : iniOf 42 = false := (iniOf_eq m_42).trans (by decide)
theorem m_43 : MTL[43]? = some (⟨"StampQuarrels$Judge", "barred", "(II)Z"⟩, prog_6_method_3_code, 3, some .boolean, 4, 2, 820) := (congrArg (fun k => MTL[k]?) (show (43 : Nat) = 24 * 1 + 19 from rfl)).trans ((tl_1 19).trans rfl)
theorem o_43 : ocOf 43 = 4 := ocOf_eq m_43
theorem r_43 : retOf 43 = some .boolean := retOf_eq m_43
theorem x_43 : maxLOf 43 = 3 := maxLOf_eq m_43
theorem p_43 : npOf 43 = 2 := npOf_eq m_43
theorem n_43 : iniOf 43 = false := (iniOf_eq m_43).trans (by decide)
theorem m_44 : MTL[44]? = some (⟨"StampQuarrels", "terms", "(II)I"⟩, prog_1_method_7_code, 4, some .int, 11, 2, 824) := (congrArg (fun k => MTL[k]?) (show (44 : Nat) = 24 * 1 + 20 from rfl)).trans ((tl_1 20).trans rfl)
theorem o_44 : ocOf 44 = 11 := ocOf_eq m_44
theorem r_44 : retOf 44 = some .int := retOf_eq m_44
theorem x_44 : maxLOf 44 = 4 := maxLOf_eq m_44
theorem p_44 : npOf 44 = 2 := npOf_eq m_44
theorem n_44 : iniOf 44 = false := (iniOf_eq m_44).trans (by decide)
theorem m_45 : MTL[45]? = some (⟨"StampQuarrels", "mostOfTerm", "(I)I"⟩, prog_1_method_49_code, 1, some .int, 11, 1, 827) := (congrArg (fun k => MTL[k]?) (show (45 : Nat) = 24 * 1 + 21 from rfl)).trans ((tl_1 21).trans rfl)
theorem o_45 : ocOf 45 = 11 := ocOf_eq m_45
theorem r_45 : retOf 45 = some .int := retOf_eq m_45
theorem x_45 : maxLOf 45 = 1 := maxLOf_eq m_45
theorem p_45 : npOf 45 = 1 := npOf_eq m_45
theorem n_45 : iniOf 45 = false := (iniOf_eq m_45).trans (by decide)
theorem m_46 : MTL[46]? = some (⟨"StampQuarrels", "termNow", "(I)I"⟩, prog_1_method_50_code, 2, some .int, 11, 1, 831) := (congrArg (fun k => MTL[k]?) (show (46 : Nat) = 24 * 1 + 22 from rfl)).trans ((tl_1 22).trans rfl)
theorem o_46 : ocOf 46 = 11 := ocOf_eq m_46
theorem r_46 : retOf 46 = some .int := retOf_eq m_46
theorem x_46 : maxLOf 46 = 2 := maxLOf_eq m_46
theorem p_46 : npOf 46 = 1 := npOf_eq m_46
theorem n_46 : iniOf 46 = false := (iniOf_eq m_46).trans (by decide)
theorem m_47 : MTL[47]? = some (⟨"StampQuarrels$Board", "setDay", "(I)V"⟩, prog_2_method_4_code, 2, none, 0, 1, 836) := (congrArg (fun k => MTL[k]?) (show (47 : Nat) = 24 * 1 + 23 from rfl)).trans ((tl_1 23).trans rfl)
theorem o_47 : ocOf 47 = 0 := ocOf_eq m_47
theorem r_47 : retOf 47 = none := retOf_eq m_47
theorem x_47 : maxLOf 47 = 2 := maxLOf_eq m_47
theorem p_47 : npOf 47 = 1 := npOf_eq m_47
theorem n_47 : iniOf 47 = false := (iniOf_eq m_47).trans (by decide)
theorem m_48 : MTL[48]? = some (⟨"StampQuarrels", "feed", "(IIIII)I"⟩, prog_1_method_8_code, 6, some .int, 11, 5, 840) := (congrArg (fun k => MTL[k]?) (show (48 : Nat) = 24 * 2 + 0 from rfl)).trans ((tl_2 0).trans rfl)
theorem o_48 : ocOf 48 = 11 := ocOf_eq m_48
theorem r_48 : retOf 48 = some .int := retOf_eq m_48
theorem x_48 : maxLOf 48 = 6 := maxLOf_eq m_48
theorem p_48 : npOf 48 = 5 := npOf_eq m_48
theorem n_48 : iniOf 48 = false := (iniOf_eq m_48).trans (by decide)
theorem m_49 : MTL[49]? = some (⟨"StampQuarrels", "putOnTape", "(I)V"⟩, prog_1_method_51_code, 3, none, 11, 1, 844) := (congrArg (fun k => MTL[k]?) (show (49 : Nat) = 24 * 2 + 1 from rfl)).trans ((tl_2 1).trans rfl)
theorem o_49 : ocOf 49 = 11 := ocOf_eq m_49
theorem r_49 : retOf 49 = none := retOf_eq m_49
theorem x_49 : maxLOf 49 = 3 := maxLOf_eq m_49
theorem p_49 : npOf 49 = 1 := npOf_eq m_49
theorem n_49 : iniOf 49 = false := (iniOf_eq m_49).trans (by decide)
theorem m_50 : MTL[50]? = some (⟨"StampQuarrels", "end", "(I)I"⟩, prog_1_method_9_code, 2, some .int, 11, 1, 848) := (congrArg (fun k => MTL[k]?) (show (50 : Nat) = 24 * 2 + 2 from rfl)).trans ((tl_2 2).trans rfl)
theorem o_50 : ocOf 50 = 11 := ocOf_eq m_50
theorem r_50 : retOf 50 = some .int := retOf_eq m_50
theorem x_50 : maxLOf 50 = 2 := maxLOf_eq m_50
theorem p_50 : npOf 50 = 1 := npOf_eq m_50
theorem n_50 : iniOf 50 = false := (iniOf_eq m_50).trans (by decide)
theorem m_51 : MTL[51]? = some (⟨"StampQuarrels", "row", "()I"⟩, prog_1_method_10_code, 4, some .int, 11, 0, 852) := (congrArg (fun k => MTL[k]?) (show (51 : Nat) = 24 * 2 + 3 from rfl)).trans ((tl_2 3).trans rfl)
theorem o_51 : ocOf 51 = 11 := ocOf_eq m_51
theorem r_51 : retOf 51 = some .int := retOf_eq m_51
theorem x_51 : maxLOf 51 = 4 := maxLOf_eq m_51
theorem p_51 : npOf 51 = 0 := npOf_eq m_51
theorem n_51 : iniOf 51 = false := (iniOf_eq m_51).trans (by decide)
theorem m_52 : MTL[52]? = some (⟨"StampQuarrels", "printed", "(I)Z"⟩, prog_1_method_52_code, 6, some .boolean, 11, 1, 856) := (congrArg (fun k => MTL[k]?) (show (52 : Nat) = 24 * 2 + 4 from rfl)).trans ((tl_2 4).trans rfl)
theorem o_52 : ocOf 52 = 11 := ocOf_eq m_52
theorem r_52 : retOf 52 = some .boolean := retOf_eq m_52
theorem x_52 : maxLOf 52 = 6 := maxLOf_eq m_52
theorem p_52 : npOf 52 = 1 := npOf_eq m_52
theorem n_52 : iniOf 52 = false := (iniOf_eq m_52).trans (by decide)
theorem m_53 : MTL[53]? = some (⟨"StampQuarrels", "misprints", "()I"⟩, prog_1_method_11_code, 1, some .int, 11, 0, 860) := (congrArg (fun k => MTL[k]?) (show (53 : Nat) = 24 * 2 + 5 from rfl)).trans ((tl_2 5).trans rfl)
theorem o_53 : ocOf 53 = 11 := ocOf_eq m_53
theorem r_53 : retOf 53 = some .int := retOf_eq m_53
theorem x_53 : maxLOf 53 = 1 := maxLOf_eq m_53
theorem p_53 : npOf 53 = 0 := npOf_eq m_53
theorem n_53 : iniOf 53 = false := (iniOf_eq m_53).trans (by decide)
theorem m_54 : MTL[54]? = some (⟨"StampQuarrels", "law", "()I"⟩, prog_1_method_12_code, 2, some .int, 11, 0, 864) := (congrArg (fun k => MTL[k]?) (show (54 : Nat) = 24 * 2 + 6 from rfl)).trans ((tl_2 6).trans rfl)
theorem o_54 : ocOf 54 = 11 := ocOf_eq m_54
theorem r_54 : retOf 54 = some .int := retOf_eq m_54
theorem x_54 : maxLOf 54 = 2 := maxLOf_eq m_54
theorem p_54 : npOf 54 = 0 := npOf_eq m_54
theorem n_54 : iniOf 54 = false := (iniOf_eq m_54).trans (by decide)
theorem m_55 : MTL[55]? = some (⟨"StampQuarrels$Reader", "readLaw", "(I)Z"⟩, prog_9_method_2_code, 2, some .boolean, 7, 1, 868) := (congrArg (fun k => MTL[k]?) (show (55 : Nat) = 24 * 2 + 7 from rfl)).trans ((tl_2 7).trans rfl)
theorem o_55 : ocOf 55 = 7 := ocOf_eq m_55
theorem r_55 : retOf 55 = some .boolean := retOf_eq m_55
theorem x_55 : maxLOf 55 = 2 := maxLOf_eq m_55
theorem p_55 : npOf 55 = 1 := npOf_eq m_55
theorem n_55 : iniOf 55 = false := (iniOf_eq m_55).trans (by decide)
theorem m_56 : MTL[56]? = some (⟨"StampQuarrels$Reader", "readText", "(I)Z"⟩, prog_9_method_4_code, 3, some .boolean, 7, 1, 872) := (congrArg (fun k => MTL[k]?) (show (56 : Nat) = 24 * 2 + 8 from rfl)).trans ((tl_2 8).trans rfl)
theorem o_56 : ocOf 56 = 7 := ocOf_eq m_56
theorem r_56 : retOf 56 = some .boolean := retOf_eq m_56
theorem x_56 : maxLOf 56 = 3 := maxLOf_eq m_56
theorem p_56 : npOf 56 = 1 := npOf_eq m_56
theorem n_56 : iniOf 56 = false := (iniOf_eq m_56).trans (by decide)
theorem m_57 : MTL[57]? = some (⟨"StampQuarrels$Reader", "next", "()V"⟩, prog_9_method_24_code, 1, none, 7, 0, 879) := (congrArg (fun k => MTL[k]?) (show (57 : Nat) = 24 * 2 + 9 from rfl)).trans ((tl_2 9).trans rfl)
theorem o_57 : ocOf 57 = 7 := ocOf_eq m_57
theorem r_57 : retOf 57 = none := retOf_eq m_57
theorem x_57 : maxLOf 57 = 1 := maxLOf_eq m_57
theorem p_57 : npOf 57 = 0 := npOf_eq m_57
theorem n_57 : iniOf 57 = false := (iniOf_eq m_57).trans (by decide)
theorem m_58 : MTL[58]? = some (⟨"StampQuarrels$Reader", "sortAt", "(I)I"⟩, prog_9_method_25_code, 3, some .int, 7, 1, 883) := (congrArg (fun k => MTL[k]?) (show (58 : Nat) = 24 * 2 + 10 from rfl)).trans ((tl_2 10).trans rfl)
theorem o_58 : ocOf 58 = 7 := ocOf_eq m_58
theorem r_58 : retOf 58 = some .int := retOf_eq m_58
theorem x_58 : maxLOf 58 = 3 := maxLOf_eq m_58
theorem p_58 : npOf 58 = 1 := npOf_eq m_58
theorem n_58 : iniOf 58 = false := (iniOf_eq m_58).trans (by decide)
theorem m_59 : MTL[59]? = some (⟨"StampQuarrels$Reader", "orderClause", "(I)Z"⟩, prog_9_method_7_code, 3, some .boolean, 7, 1, 887) := (congrArg (fun k => MTL[k]?) (show (59 : Nat) = 24 * 2 + 11 from rfl)).trans ((tl_2 11).trans rfl)
theorem o_59 : ocOf 59 = 7 := ocOf_eq m_59
theorem r_59 : retOf 59 = some .boolean := retOf_eq m_59
theorem x_59 : maxLOf 59 = 3 := maxLOf_eq m_59
theorem p_59 : npOf 59 = 1 := npOf_eq m_59
theorem n_59 : iniOf 59 = false := (iniOf_eq m_59).trans (by decide)
theorem m_60 : MTL[60]? = some (⟨"StampQuarrels$Reader", "orderKind", "()I"⟩, prog_9_method_8_code, 1, some .int, 7, 0, 891) := (congrArg (fun k => MTL[k]?) (show (60 : Nat) = 24 * 2 + 12 from rfl)).trans ((tl_2 12).trans rfl)
theorem o_60 : ocOf 60 = 7 := ocOf_eq m_60
theorem r_60 : retOf 60 = some .int := retOf_eq m_60
theorem x_60 : maxLOf 60 = 1 := maxLOf_eq m_60
theorem p_60 : npOf 60 = 0 := npOf_eq m_60
theorem n_60 : iniOf 60 = false := (iniOf_eq m_60).trans (by decide)
theorem m_61 : MTL[61]? = some (⟨"StampQuarrels$Reader", "sees", "(Ljava/lang/String;)Z"⟩, prog_9_method_23_code, 3, some .boolean, 7, 1, 896) := (congrArg (fun k => MTL[k]?) (show (61 : Nat) = 24 * 2 + 13 from rfl)).trans ((tl_2 13).trans rfl)
theorem o_61 : ocOf 61 = 7 := ocOf_eq m_61
theorem r_61 : retOf 61 = some .boolean := retOf_eq m_61
theorem x_61 : maxLOf 61 = 3 := maxLOf_eq m_61
theorem p_61 : npOf 61 = 1 := npOf_eq m_61
theorem n_61 : iniOf 61 = false := (iniOf_eq m_61).trans (by decide)
theorem m_62 : MTL[62]? = some (⟨"StampQuarrels$Reader", "fail", "()Z"⟩, prog_9_method_21_code, 1, some .boolean, 7, 0, 951) := (congrArg (fun k => MTL[k]?) (show (62 : Nat) = 24 * 2 + 14 from rfl)).trans ((tl_2 14).trans rfl)
theorem o_62 : ocOf 62 = 7 := ocOf_eq m_62
theorem r_62 : retOf 62 = some .boolean := retOf_eq m_62
theorem x_62 : maxLOf 62 = 1 := maxLOf_eq m_62
theorem p_62 : npOf 62 = 0 := npOf_eq m_62
theorem n_62 : iniOf 62 = false := (iniOf_eq m_62).trans (by decide)
theorem m_63 : MTL[63]? = some (⟨"StampQuarrels$Reader", "wholeSum", "()Z"⟩, prog_9_method_9_code, 1, some .boolean, 7, 0, 955) := (congrArg (fun k => MTL[k]?) (show (63 : Nat) = 24 * 2 + 15 from rfl)).trans ((tl_2 15).trans rfl)
theorem o_63 : ocOf 63 = 7 := ocOf_eq m_63
theorem r_63 : retOf 63 = some .boolean := retOf_eq m_63
theorem x_63 : maxLOf 63 = 1 := maxLOf_eq m_63
theorem p_63 : npOf 63 = 0 := npOf_eq m_63
theorem n_63 : iniOf 63 = false := (iniOf_eq m_63).trans (by decide)
theorem m_64 : MTL[64]? = some (⟨"StampQuarrels$Reader", "sum", "(I)Z"⟩, prog_9_method_15_code, 4, some .boolean, 7, 1, 959) := (congrArg (fun k => MTL[k]?) (show (64 : Nat) = 24 * 2 + 16 from rfl)).trans ((tl_2 16).trans rfl)
theorem o_64 : ocOf 64 = 7 := ocOf_eq m_64
theorem r_64 : retOf 64 = some .boolean := retOf_eq m_64
theorem x_64 : maxLOf 64 = 4 := maxLOf_eq m_64
theorem p_64 : npOf 64 = 1 := npOf_eq m_64
theorem n_64 : iniOf 64 = false := (iniOf_eq m_64).trans (by decide)
theorem m_65 : MTL[65]? = some (⟨"StampQuarrels$Reader", "term", "(I)Z"⟩, prog_9_method_16_code, 4, some .boolean, 7, 1, 963) := (congrArg (fun k => MTL[k]?) (show (65 : Nat) = 24 * 2 + 17 from rfl)).trans ((tl_2 17).trans rfl)
theorem o_65 : ocOf 65 = 7 := ocOf_eq m_65
theorem r_65 : retOf 65 = some .boolean := retOf_eq m_65
theorem x_65 : maxLOf 65 = 4 := maxLOf_eq m_65
theorem p_65 : npOf 65 = 1 := npOf_eq m_65
theorem n_65 : iniOf 65 = false := (iniOf_eq m_65).trans (by decide)
theorem m_66 : MTL[66]? = some (⟨"StampQuarrels$Reader", "part", "(I)Z"⟩, prog_9_method_17_code, 3, some .boolean, 7, 1, 967) := (congrArg (fun k => MTL[k]?) (show (66 : Nat) = 24 * 2 + 18 from rfl)).trans ((tl_2 18).trans rfl)
theorem o_66 : ocOf 66 = 7 := ocOf_eq m_66
theorem r_66 : retOf 66 = some .boolean := retOf_eq m_66
theorem x_66 : maxLOf 66 = 3 := maxLOf_eq m_66
theorem p_66 : npOf 66 = 1 := npOf_eq m_66
theorem n_66 : iniOf 66 = false := (iniOf_eq m_66).trans (by decide)
theorem m_67 : MTL[67]? = some (⟨"StampQuarrels$Reader", "took", "(Ljava/lang/String;)Z"⟩, prog_9_method_22_code, 2, some .boolean, 7, 1, 973) := (congrArg (fun k => MTL[k]?) (show (67 : Nat) = 24 * 2 + 19 from rfl)).trans ((tl_2 19).trans rfl)
theorem o_67 : ocOf 67 = 7 := ocOf_eq m_67
theorem r_67 : retOf 67 = some .boolean := retOf_eq m_67
theorem x_67 : maxLOf 67 = 2 := maxLOf_eq m_67
theorem p_67 : npOf 67 = 1 := npOf_eq m_67
theorem n_67 : iniOf 67 = false := (iniOf_eq m_67).trans (by decide)
theorem m_68 : MTL[68]? = some (⟨"StampQuarrels$Reader", "put", "(II)Z"⟩, prog_9_method_20_code, 3, some .boolean, 7, 2, 977) := (congrArg (fun k => MTL[k]?) (show (68 : Nat) = 24 * 2 + 20 from rfl)).trans ((tl_2 20).trans rfl)
theorem o_68 : ocOf 68 = 7 := ocOf_eq m_68
theorem r_68 : retOf 68 = some .boolean := retOf_eq m_68
theorem x_68 : maxLOf 68 = 3 := maxLOf_eq m_68
theorem p_68 : npOf 68 = 2 := npOf_eq m_68
theorem n_68 : iniOf 68 = false := (iniOf_eq m_68).trans (by decide)
theorem m_69 : MTL[69]? = some (⟨"StampQuarrels$Reader", "orderWord", "()Z"⟩, prog_9_method_19_code, 3, some .boolean, 7, 0, 981) := (congrArg (fun k => MTL[k]?) (show (69 : Nat) = 24 * 2 + 21 from rfl)).trans ((tl_2 21).trans rfl)
theorem o_69 : ocOf 69 = 7 := ocOf_eq m_69
theorem r_69 : retOf 69 = some .boolean := retOf_eq m_69
theorem x_69 : maxLOf 69 = 3 := maxLOf_eq m_69
theorem p_69 : npOf 69 = 0 := npOf_eq m_69
theorem n_69 : iniOf 69 = false := (iniOf_eq m_69).trans (by decide)
theorem m_70 : MTL[70]? = some (⟨"StampQuarrels$Reader", "lawWord", "()Z"⟩, prog_9_method_18_code, 2, some .boolean, 7, 0, 992) := (congrArg (fun k => MTL[k]?) (show (70 : Nat) = 24 * 2 + 22 from rfl)).trans ((tl_2 22).trans rfl)
theorem o_70 : ocOf 70 = 7 := ocOf_eq m_70
theorem r_70 : retOf 70 = some .boolean := retOf_eq m_70
theorem x_70 : maxLOf 70 = 2 := maxLOf_eq m_70
theorem p_70 : npOf 70 = 0 := npOf_eq m_70
theorem n_70 : iniOf 70 = false := (iniOf_eq m_70).trans (by decide)
theorem m_71 : MTL[71]? = some (⟨"StampQuarrels$Reader", "lawClause", "(I)Z"⟩, prog_9_method_5_code, 3, some .boolean, 7, 1, 1010) := (congrArg (fun k => MTL[k]?) (show (71 : Nat) = 24 * 2 + 23 from rfl)).trans ((tl_2 23).trans rfl)
theorem o_71 : ocOf 71 = 7 := ocOf_eq m_71
theorem r_71 : retOf 71 = some .boolean := retOf_eq m_71
theorem x_71 : maxLOf 71 = 3 := maxLOf_eq m_71
theorem p_71 : npOf 71 = 1 := npOf_eq m_71
theorem n_71 : iniOf 71 = false := (iniOf_eq m_71).trans (by decide)
theorem m_72 : MTL[72]? = some (⟨"StampQuarrels$Reader", "lawKind", "()I"⟩, prog_9_method_6_code, 1, some .int, 7, 0, 1014) := (congrArg (fun k => MTL[k]?) (show (72 : Nat) = 24 * 3 + 0 from rfl)).trans ((tl_3 0).trans rfl)
theorem o_72 : ocOf 72 = 7 := ocOf_eq m_72
theorem r_72 : retOf 72 = some .int := retOf_eq m_72
theorem x_72 : maxLOf 72 = 1 := maxLOf_eq m_72
theorem p_72 : npOf 72 = 0 := npOf_eq m_72
theorem n_72 : iniOf 72 = false := (iniOf_eq m_72).trans (by decide)
theorem m_73 : MTL[73]? = some (⟨"StampQuarrels$Reader", "condition", "(I)Z"⟩, prog_9_method_10_code, 2, some .boolean, 7, 1, 1022) := (congrArg (fun k => MTL[k]?) (show (73 : Nat) = 24 * 3 + 1 from rfl)).trans ((tl_3 1).trans rfl)
theorem o_73 : ocOf 73 = 7 := ocOf_eq m_73
theorem r_73 : retOf 73 = some .boolean := retOf_eq m_73
theorem x_73 : maxLOf 73 = 2 := maxLOf_eq m_73
theorem p_73 : npOf 73 = 1 := npOf_eq m_73
theorem n_73 : iniOf 73 = false := (iniOf_eq m_73).trans (by decide)
theorem m_74 : MTL[74]? = some (⟨"StampQuarrels$Reader", "anyOf", "(I)Z"⟩, prog_9_method_11_code, 4, some .boolean, 7, 1, 1027) := (congrArg (fun k => MTL[k]?) (show (74 : Nat) = 24 * 3 + 2 from rfl)).trans ((tl_3 2).trans rfl)
theorem o_74 : ocOf 74 = 7 := ocOf_eq m_74
theorem r_74 : retOf 74 = some .boolean := retOf_eq m_74
theorem x_74 : maxLOf 74 = 4 := maxLOf_eq m_74
theorem p_74 : npOf 74 = 1 := npOf_eq m_74
theorem n_74 : iniOf 74 = false := (iniOf_eq m_74).trans (by decide)
theorem m_75 : MTL[75]? = some (⟨"StampQuarrels$Reader", "allOf", "(I)Z"⟩, prog_9_method_12_code, 4, some .boolean, 7, 1, 1031) := (congrArg (fun k => MTL[k]?) (show (75 : Nat) = 24 * 3 + 3 from rfl)).trans ((tl_3 3).trans rfl)
theorem o_75 : ocOf 75 = 7 := ocOf_eq m_75
theorem r_75 : retOf 75 = some .boolean := retOf_eq m_75
theorem x_75 : maxLOf 75 = 4 := maxLOf_eq m_75
theorem p_75 : npOf 75 = 1 := npOf_eq m_75
theorem n_75 : iniOf 75 = false := (iniOf_eq m_75).trans (by decide)
theorem m_76 : MTL[76]? = some (⟨"StampQuarrels$Reader", "plain", "(I)Z"⟩, prog_9_method_13_code, 4, some .boolean, 7, 1, 1035) := (congrArg (fun k => MTL[k]?) (show (76 : Nat) = 24 * 3 + 4 from rfl)).trans ((tl_3 4).trans rfl)
theorem o_76 : ocOf 76 = 7 := ocOf_eq m_76
theorem r_76 : retOf 76 = some .boolean := retOf_eq m_76
theorem x_76 : maxLOf 76 = 4 := maxLOf_eq m_76
theorem p_76 : npOf 76 = 1 := npOf_eq m_76
theorem n_76 : iniOf 76 = false := (iniOf_eq m_76).trans (by decide)
theorem m_77 : MTL[77]? = some (⟨"StampQuarrels$Reader", "comparison", "(I)Z"⟩, prog_9_method_14_code, 3, some .boolean, 7, 1, 1042) := (congrArg (fun k => MTL[k]?) (show (77 : Nat) = 24 * 3 + 5 from rfl)).trans ((tl_3 5).trans rfl)
theorem o_77 : ocOf 77 = 7 := ocOf_eq m_77
theorem r_77 : retOf 77 = some .boolean := retOf_eq m_77
theorem x_77 : maxLOf 77 = 3 := maxLOf_eq m_77
theorem p_77 : npOf 77 = 1 := npOf_eq m_77
theorem n_77 : iniOf 77 = false := (iniOf_eq m_77).trans (by decide)
theorem m_78 : MTL[78]? = some (⟨"StampQuarrels$Script", "trimmed", "()LStampQuarrels$Script;"⟩, prog_11_method_2_code, 2, some (.object "StampQuarrels$Script"), 9, 0, 1052) := (congrArg (fun k => MTL[k]?) (show (78 : Nat) = 24 * 3 + 6 from rfl)).trans ((tl_3 6).trans rfl)
theorem o_78 : ocOf 78 = 9 := ocOf_eq m_78
theorem r_78 : retOf 78 = some (.object "StampQuarrels$Script") := retOf_eq m_78
theorem x_78 : maxLOf 78 = 2 := maxLOf_eq m_78
theorem p_78 : npOf 78 = 0 := npOf_eq m_78
theorem n_78 : iniOf 78 = false := (iniOf_eq m_78).trans (by decide)
theorem m_79 : MTL[79]? = some (⟨"StampQuarrels$State", "addLaw", "(LStampQuarrels$Script;)I"⟩, prog_12_method_6_code, 3, some .int, 10, 1, 1061) := (congrArg (fun k => MTL[k]?) (show (79 : Nat) = 24 * 3 + 7 from rfl)).trans ((tl_3 7).trans rfl)
theorem o_79 : ocOf 79 = 10 := ocOf_eq m_79
theorem r_79 : retOf 79 = some .int := retOf_eq m_79
theorem x_79 : maxLOf 79 = 3 := maxLOf_eq m_79
theorem p_79 : npOf 79 = 1 := npOf_eq m_79
theorem n_79 : iniOf 79 = false := (iniOf_eq m_79).trans (by decide)
theorem m_80 : MTL[80]? = some (⟨"StampQuarrels", "orders", "()I"⟩, prog_1_method_13_code, 2, some .int, 11, 0, 1065) := (congrArg (fun k => MTL[k]?) (show (80 : Nat) = 24 * 3 + 8 from rfl)).trans ((tl_3 8).trans rfl)
theorem o_80 : ocOf 80 = 11 := ocOf_eq m_80
theorem r_80 : retOf 80 = some .int := retOf_eq m_80
theorem x_80 : maxLOf 80 = 2 := maxLOf_eq m_80
theorem p_80 : npOf 80 = 0 := npOf_eq m_80
theorem n_80 : iniOf 80 = false := (iniOf_eq m_80).trans (by decide)
theorem m_81 : MTL[81]? = some (⟨"StampQuarrels$Reader", "readOrders", "(I)Z"⟩, prog_9_method_3_code, 2, some .boolean, 7, 1, 1069) := (congrArg (fun k => MTL[k]?) (show (81 : Nat) = 24 * 3 + 9 from rfl)).trans ((tl_3 9).trans rfl)
theorem o_81 : ocOf 81 = 7 := ocOf_eq m_81
theorem r_81 : retOf 81 = some .boolean := retOf_eq m_81
theorem x_81 : maxLOf 81 = 2 := maxLOf_eq m_81
theorem p_81 : npOf 81 = 1 := npOf_eq m_81
theorem n_81 : iniOf 81 = false := (iniOf_eq m_81).trans (by decide)
theorem m_82 : MTL[82]? = some (⟨"StampQuarrels$Clerk", "carryOut", "(LStampQuarrels$Script;)I"⟩, prog_3_method_2_code, 6, some .int, 1, 1, 1073) := (congrArg (fun k => MTL[k]?) (show (82 : Nat) = 24 * 3 + 10 from rfl)).trans ((tl_3 10).trans rfl)
theorem o_82 : ocOf 82 = 1 := ocOf_eq m_82
theorem r_82 : retOf 82 = some .int := retOf_eq m_82
theorem x_82 : maxLOf 82 = 6 := maxLOf_eq m_82
theorem p_82 : npOf 82 = 1 := npOf_eq m_82
theorem n_82 : iniOf 82 = false := (iniOf_eq m_82).trans (by decide)
theorem m_83 : MTL[83]? = some (⟨"StampQuarrels$Board", "copyFrom", "(LStampQuarrels$Board;)V"⟩, prog_2_method_2_code, 2, none, 0, 1, 1077) := (congrArg (fun k => MTL[k]?) (show (83 : Nat) = 24 * 3 + 11 from rfl)).trans ((tl_3 11).trans rfl)
theorem o_83 : ocOf 83 = 0 := ocOf_eq m_83
theorem r_83 : retOf 83 = none := retOf_eq m_83
theorem x_83 : maxLOf 83 = 2 := maxLOf_eq m_83
theorem p_83 : npOf 83 = 1 := npOf_eq m_83
theorem n_83 : iniOf 83 = false := (iniOf_eq m_83).trans (by decide)
theorem m_84 : MTL[84]? = some (⟨"StampQuarrels$History", "copyFrom", "(LStampQuarrels$History;)V"⟩, prog_5_method_2_code, 2, none, 3, 1, 1082) := (congrArg (fun k => MTL[k]?) (show (84 : Nat) = 24 * 3 + 12 from rfl)).trans ((tl_3 12).trans rfl)
theorem o_84 : ocOf 84 = 3 := ocOf_eq m_84
theorem r_84 : retOf 84 = none := retOf_eq m_84
theorem x_84 : maxLOf 84 = 2 := maxLOf_eq m_84
theorem p_84 : npOf 84 = 1 := npOf_eq m_84
theorem n_84 : iniOf 84 = false := (iniOf_eq m_84).trans (by decide)
theorem m_85 : MTL[85]? = some (⟨"StampQuarrels$Clerk", "isDue", "(LStampQuarrels$Script;I)Z"⟩, prog_3_method_4_code, 3, some .boolean, 1, 2, 1087) := (congrArg (fun k => MTL[k]?) (show (85 : Nat) = 24 * 3 + 13 from rfl)).trans ((tl_3 13).trans rfl)
theorem o_85 : ocOf 85 = 1 := ocOf_eq m_85
theorem r_85 : retOf 85 = some .boolean := retOf_eq m_85
theorem x_85 : maxLOf 85 = 3 := maxLOf_eq m_85
theorem p_85 : npOf 85 = 2 := npOf_eq m_85
theorem n_85 : iniOf 85 = false := (iniOf_eq m_85).trans (by decide)
theorem m_86 : MTL[86]? = some (⟨"StampQuarrels$Clerk", "look", "(I)V"⟩, prog_3_method_5_code, 5, none, 1, 1, 1091) := (congrArg (fun k => MTL[k]?) (show (86 : Nat) = 24 * 3 + 14 from rfl)).trans ((tl_3 14).trans rfl)
theorem o_86 : ocOf 86 = 1 := ocOf_eq m_86
theorem r_86 : retOf 86 = none := retOf_eq m_86
theorem x_86 : maxLOf 86 = 5 := maxLOf_eq m_86
theorem p_86 : npOf 86 = 1 := npOf_eq m_86
theorem n_86 : iniOf 86 = false := (iniOf_eq m_86).trans (by decide)
theorem m_87 : MTL[87]? = some (⟨"StampQuarrels$State", "inSheet", "()I"⟩, prog_12_method_7_code, 3, some .int, 10, 0, 1096) := (congrArg (fun k => MTL[k]?) (show (87 : Nat) = 24 * 3 + 15 from rfl)).trans ((tl_3 15).trans rfl)
theorem o_87 : ocOf 87 = 10 := ocOf_eq m_87
theorem r_87 : retOf 87 = some .int := retOf_eq m_87
theorem x_87 : maxLOf 87 = 3 := maxLOf_eq m_87
theorem p_87 : npOf 87 = 0 := npOf_eq m_87
theorem n_87 : iniOf 87 = false := (iniOf_eq m_87).trans (by decide)
theorem m_88 : MTL[88]? = some (⟨"StampQuarrels$Mover", "act", "(III)I"⟩, prog_7_method_2_code, 5, some .int, 5, 3, 1107) := (congrArg (fun k => MTL[k]?) (show (88 : Nat) = 24 * 3 + 16 from rfl)).trans ((tl_3 16).trans rfl)
theorem o_88 : ocOf 88 = 5 := ocOf_eq m_88
theorem r_88 : retOf 88 = some .int := retOf_eq m_88
theorem x_88 : maxLOf 88 = 5 := maxLOf_eq m_88
theorem p_88 : npOf 88 = 3 := npOf_eq m_88
theorem n_88 : iniOf 88 = false := (iniOf_eq m_88).trans (by decide)
theorem m_89 : MTL[89]? = some (⟨"StampQuarrels$History", "ahead", "(LStampQuarrels$Board;)V"⟩, prog_5_method_3_code, 2, none, 3, 1, 1111) := (congrArg (fun k => MTL[k]?) (show (89 : Nat) = 24 * 3 + 17 from rfl)).trans ((tl_3 17).trans rfl)
theorem o_89 : ocOf 89 = 3 := ocOf_eq m_89
theorem r_89 : retOf 89 = none := retOf_eq m_89
theorem x_89 : maxLOf 89 = 2 := maxLOf_eq m_89
theorem p_89 : npOf 89 = 1 := npOf_eq m_89
theorem n_89 : iniOf 89 = false := (iniOf_eq m_89).trans (by decide)
theorem m_90 : MTL[90]? = some (⟨"StampQuarrels$Mover", "stickOn", "(II)I"⟩, prog_7_method_3_code, 4, some .int, 5, 2, 1115) := (congrArg (fun k => MTL[k]?) (show (90 : Nat) = 24 * 3 + 18 from rfl)).trans ((tl_3 18).trans rfl)
theorem o_90 : ocOf 90 = 5 := ocOf_eq m_90
theorem r_90 : retOf 90 = some .int := retOf_eq m_90
theorem x_90 : maxLOf 90 = 4 := maxLOf_eq m_90
theorem p_90 : npOf 90 = 2 := npOf_eq m_90
theorem n_90 : iniOf 90 = false := (iniOf_eq m_90).trans (by decide)
theorem m_91 : MTL[91]? = some (⟨"StampQuarrels$Board", "setStampAt", "(III)V"⟩, prog_2_method_13_code, 4, none, 0, 3, 1124) := (congrArg (fun k => MTL[k]?) (show (91 : Nat) = 24 * 3 + 19 from rfl)).trans ((tl_3 19).trans rfl)
theorem o_91 : ocOf 91 = 0 := ocOf_eq m_91
theorem r_91 : retOf 91 = none := retOf_eq m_91
theorem x_91 : maxLOf 91 = 4 := maxLOf_eq m_91
theorem p_91 : npOf 91 = 3 := npOf_eq m_91
theorem n_91 : iniOf 91 = false := (iniOf_eq m_91).trans (by decide)
theorem m_92 : MTL[92]? = some (⟨"StampQuarrels$Mover", "peelFrom", "(I)I"⟩, prog_7_method_4_code, 4, some .int, 5, 1, 1130) := (congrArg (fun k => MTL[k]?) (show (92 : Nat) = 24 * 3 + 20 from rfl)).trans ((tl_3 20).trans rfl)
theorem o_92 : ocOf 92 = 5 := ocOf_eq m_92
theorem r_92 : retOf 92 = some .int := retOf_eq m_92
theorem x_92 : maxLOf 92 = 4 := maxLOf_eq m_92
theorem p_92 : npOf 92 = 1 := npOf_eq m_92
theorem n_92 : iniOf 92 = false := (iniOf_eq m_92).trans (by decide)
theorem m_93 : MTL[93]? = some (⟨"StampQuarrels$Mover", "cancelAll", "(I)I"⟩, prog_7_method_5_code, 4, some .int, 5, 1, 1134) := (congrArg (fun k => MTL[k]?) (show (93 : Nat) = 24 * 3 + 21 from rfl)).trans ((tl_3 21).trans rfl)
theorem o_93 : ocOf 93 = 5 := ocOf_eq m_93
theorem r_93 : retOf 93 = some .int := retOf_eq m_93
theorem x_93 : maxLOf 93 = 4 := maxLOf_eq m_93
theorem p_93 : npOf 93 = 1 := npOf_eq m_93
theorem n_93 : iniOf 93 = false := (iniOf_eq m_93).trans (by decide)
theorem m_94 : MTL[94]? = some (⟨"StampQuarrels$Mover", "passDay", "()I"⟩, prog_7_method_6_code, 3, some .int, 5, 0, 1143) := (congrArg (fun k => MTL[k]?) (show (94 : Nat) = 24 * 3 + 22 from rfl)).trans ((tl_3 22).trans rfl)
theorem o_94 : ocOf 94 = 5 := ocOf_eq m_94
theorem r_94 : retOf 94 = some .int := retOf_eq m_94
theorem x_94 : maxLOf 94 = 3 := maxLOf_eq m_94
theorem p_94 : npOf 94 = 0 := npOf_eq m_94
theorem n_94 : iniOf 94 = false := (iniOf_eq m_94).trans (by decide)
theorem m_95 : MTL[95]? = some (⟨"StampQuarrels$Mover", "dropDry", "(I)I"⟩, prog_7_method_7_code, 6, some .int, 5, 1, 1151) := (congrArg (fun k => MTL[k]?) (show (95 : Nat) = 24 * 3 + 23 from rfl)).trans ((tl_3 23).trans rfl)
theorem o_95 : ocOf 95 = 5 := ocOf_eq m_95
theorem r_95 : retOf 95 = some .int := retOf_eq m_95
theorem x_95 : maxLOf 95 = 6 := maxLOf_eq m_95
theorem p_95 : npOf 95 = 1 := npOf_eq m_95
theorem n_95 : iniOf 95 = false := (iniOf_eq m_95).trans (by decide)
theorem m_96 : MTL[96]? = some (⟨"StampQuarrels$History", "keep", "(I)V"⟩, prog_5_method_4_code, 2, none, 3, 1, 1156) := (congrArg (fun k => MTL[k]?) (show (96 : Nat) = 24 * 4 + 0 from rfl)).trans ((tl_4 0).trans rfl)
theorem o_96 : ocOf 96 = 3 := ocOf_eq m_96
theorem r_96 : retOf 96 = none := retOf_eq m_96
theorem x_96 : maxLOf 96 = 2 := maxLOf_eq m_96
theorem p_96 : npOf 96 = 1 := npOf_eq m_96
theorem n_96 : iniOf 96 = false := (iniOf_eq m_96).trans (by decide)
theorem m_97 : MTL[97]? = some (⟨"StampQuarrels$Clerk", "giveUp", "(I)I"⟩, prog_3_method_3_code, 2, some .int, 1, 1, 1161) := (congrArg (fun k => MTL[k]?) (show (97 : Nat) = 24 * 4 + 1 from rfl)).trans ((tl_4 1).trans rfl)
theorem o_97 : ocOf 97 = 1 := ocOf_eq m_97
theorem r_97 : retOf 97 = some .int := retOf_eq m_97
theorem x_97 : maxLOf 97 = 2 := maxLOf_eq m_97
theorem p_97 : npOf 97 = 1 := npOf_eq m_97
theorem n_97 : iniOf 97 = false := (iniOf_eq m_97).trans (by decide)
theorem m_98 : MTL[98]? = some (⟨"StampQuarrels", "answered", "(I)I"⟩, prog_1_method_43_code, 2, some .int, 11, 1, 1165) := (congrArg (fun k => MTL[k]?) (show (98 : Nat) = 24 * 4 + 2 from rfl)).trans ((tl_4 2).trans rfl)
theorem o_98 : ocOf 98 = 11 := ocOf_eq m_98
theorem r_98 : retOf 98 = some .int := retOf_eq m_98
theorem x_98 : maxLOf 98 = 2 := maxLOf_eq m_98
theorem p_98 : npOf 98 = 1 := npOf_eq m_98
theorem n_98 : iniOf 98 = false := (iniOf_eq m_98).trans (by decide)
theorem m_99 : MTL[99]? = some (⟨"StampQuarrels", "fault", "()I"⟩, prog_1_method_14_code, 1, some .int, 11, 0, 1169) := (congrArg (fun k => MTL[k]?) (show (99 : Nat) = 24 * 4 + 3 from rfl)).trans ((tl_4 3).trans rfl)
theorem o_99 : ocOf 99 = 11 := ocOf_eq m_99
theorem r_99 : retOf 99 = some .int := retOf_eq m_99
theorem x_99 : maxLOf 99 = 1 := maxLOf_eq m_99
theorem p_99 : npOf 99 = 0 := npOf_eq m_99
theorem n_99 : iniOf 99 = false := (iniOf_eq m_99).trans (by decide)
theorem m_100 : MTL[100]? = some (⟨"StampQuarrels", "stopped", "()I"⟩, prog_1_method_15_code, 1, some .int, 11, 0, 1173) := (congrArg (fun k => MTL[k]?) (show (100 : Nat) = 24 * 4 + 4 from rfl)).trans ((tl_4 4).trans rfl)
theorem o_100 : ocOf 100 = 11 := ocOf_eq m_100
theorem r_100 : retOf 100 = some .int := retOf_eq m_100
theorem x_100 : maxLOf 100 = 1 := maxLOf_eq m_100
theorem p_100 : npOf 100 = 0 := npOf_eq m_100
theorem n_100 : iniOf 100 = false := (iniOf_eq m_100).trans (by decide)
theorem m_101 : MTL[101]? = some (⟨"StampQuarrels", "force", "(I)I"⟩, prog_1_method_16_code, 3, some .int, 11, 1, 1177) := (congrArg (fun k => MTL[k]?) (show (101 : Nat) = 24 * 4 + 5 from rfl)).trans ((tl_4 5).trans rfl)
theorem o_101 : ocOf 101 = 11 := ocOf_eq m_101
theorem r_101 : retOf 101 = some .int := retOf_eq m_101
theorem x_101 : maxLOf 101 = 3 := maxLOf_eq m_101
theorem p_101 : npOf 101 = 1 := npOf_eq m_101
theorem n_101 : iniOf 101 = false := (iniOf_eq m_101).trans (by decide)
theorem m_102 : MTL[102]? = some (⟨"StampQuarrels", "isLaw", "(I)Z"⟩, prog_1_method_46_code, 2, some .boolean, 11, 1, 1181) := (congrArg (fun k => MTL[k]?) (show (102 : Nat) = 24 * 4 + 6 from rfl)).trans ((tl_4 6).trans rfl)
theorem o_102 : ocOf 102 = 11 := ocOf_eq m_102
theorem r_102 : retOf 102 = some .boolean := retOf_eq m_102
theorem x_102 : maxLOf 102 = 2 := maxLOf_eq m_102
theorem p_102 : npOf 102 = 1 := npOf_eq m_102
theorem n_102 : iniOf 102 = false := (iniOf_eq m_102).trans (by decide)
theorem m_103 : MTL[103]? = some (⟨"StampQuarrels", "stick", "(II)I"⟩, prog_1_method_17_code, 3, some .int, 11, 2, 1185) := (congrArg (fun k => MTL[k]?) (show (103 : Nat) = 24 * 4 + 7 from rfl)).trans ((tl_4 7).trans rfl)
theorem o_103 : ocOf 103 = 11 := ocOf_eq m_103
theorem r_103 : retOf 103 = some .int := retOf_eq m_103
theorem x_103 : maxLOf 103 = 3 := maxLOf_eq m_103
theorem p_103 : npOf 103 = 2 := npOf_eq m_103
theorem n_103 : iniOf 103 = false := (iniOf_eq m_103).trans (by decide)
theorem m_104 : MTL[104]? = some (⟨"StampQuarrels", "peel", "(I)I"⟩, prog_1_method_18_code, 2, some .int, 11, 1, 1190) := (congrArg (fun k => MTL[k]?) (show (104 : Nat) = 24 * 4 + 8 from rfl)).trans ((tl_4 8).trans rfl)
theorem o_104 : ocOf 104 = 11 := ocOf_eq m_104
theorem r_104 : retOf 104 = some .int := retOf_eq m_104
theorem x_104 : maxLOf 104 = 2 := maxLOf_eq m_104
theorem p_104 : npOf 104 = 1 := npOf_eq m_104
theorem n_104 : iniOf 104 = false := (iniOf_eq m_104).trans (by decide)
theorem m_105 : MTL[105]? = some (⟨"StampQuarrels", "cancel", "(I)I"⟩, prog_1_method_19_code, 2, some .int, 11, 1, 1194) := (congrArg (fun k => MTL[k]?) (show (105 : Nat) = 24 * 4 + 9 from rfl)).trans ((tl_4 9).trans rfl)
theorem o_105 : ocOf 105 = 11 := ocOf_eq m_105
theorem r_105 : retOf 105 = some .int := retOf_eq m_105
theorem x_105 : maxLOf 105 = 2 := maxLOf_eq m_105
theorem p_105 : npOf 105 = 1 := npOf_eq m_105
theorem n_105 : iniOf 105 = false := (iniOf_eq m_105).trans (by decide)
theorem m_106 : MTL[106]? = some (⟨"StampQuarrels", "pass", "()I"⟩, prog_1_method_20_code, 1, some .int, 11, 0, 1198) := (congrArg (fun k => MTL[k]?) (show (106 : Nat) = 24 * 4 + 10 from rfl)).trans ((tl_4 10).trans rfl)
theorem o_106 : ocOf 106 = 11 := ocOf_eq m_106
theorem r_106 : retOf 106 = some .int := retOf_eq m_106
theorem x_106 : maxLOf 106 = 1 := maxLOf_eq m_106
theorem p_106 : npOf 106 = 0 := npOf_eq m_106
theorem n_106 : iniOf 106 = false := (iniOf_eq m_106).trans (by decide)
theorem m_107 : MTL[107]? = some (⟨"StampQuarrels", "undo", "()I"⟩, prog_1_method_21_code, 1, some .int, 11, 0, 1202) := (congrArg (fun k => MTL[k]?) (show (107 : Nat) = 24 * 4 + 11 from rfl)).trans ((tl_4 11).trans rfl)
theorem o_107 : ocOf 107 = 11 := ocOf_eq m_107
theorem r_107 : retOf 107 = some .int := retOf_eq m_107
theorem x_107 : maxLOf 107 = 1 := maxLOf_eq m_107
theorem p_107 : npOf 107 = 0 := npOf_eq m_107
theorem n_107 : iniOf 107 = false := (iniOf_eq m_107).trans (by decide)
theorem m_108 : MTL[108]? = some (⟨"StampQuarrels$History", "takeBack", "(LStampQuarrels$Board;)I"⟩, prog_5_method_5_code, 2, some .int, 3, 1, 1206) := (congrArg (fun k => MTL[k]?) (show (108 : Nat) = 24 * 4 + 12 from rfl)).trans ((tl_4 12).trans rfl)
theorem o_108 : ocOf 108 = 3 := ocOf_eq m_108
theorem r_108 : retOf 108 = some .int := retOf_eq m_108
theorem x_108 : maxLOf 108 = 2 := maxLOf_eq m_108
theorem p_108 : npOf 108 = 1 := npOf_eq m_108
theorem n_108 : iniOf 108 = false := (iniOf_eq m_108).trans (by decide)
theorem m_109 : MTL[109]? = some (⟨"StampQuarrels", "madeUp", "(II)I"⟩, prog_1_method_22_code, 3, some .int, 11, 2, 1210) := (congrArg (fun k => MTL[k]?) (show (109 : Nat) = 24 * 4 + 13 from rfl)).trans ((tl_4 13).trans rfl)
theorem o_109 : ocOf 109 = 11 := ocOf_eq m_109
theorem r_109 : retOf 109 = some .int := retOf_eq m_109
theorem x_109 : maxLOf 109 = 3 := maxLOf_eq m_109
theorem p_109 : npOf 109 = 2 := npOf_eq m_109
theorem n_109 : iniOf 109 = false := (iniOf_eq m_109).trans (by decide)
theorem m_110 : MTL[110]? = some (⟨"StampQuarrels$Plans", "makeUp", "(I)Z"⟩, prog_8_method_2_code, 2, some .boolean, 6, 1, 1214) := (congrArg (fun k => MTL[k]?) (show (110 : Nat) = 24 * 4 + 14 from rfl)).trans ((tl_4 14).trans rfl)
theorem o_110 : ocOf 110 = 6 := ocOf_eq m_110
theorem r_110 : retOf 110 = some .boolean := retOf_eq m_110
theorem x_110 : maxLOf 110 = 2 := maxLOf_eq m_110
theorem p_110 : npOf 110 = 1 := npOf_eq m_110
theorem n_110 : iniOf 110 = false := (iniOf_eq m_110).trans (by decide)
theorem m_111 : MTL[111]? = some (⟨"StampQuarrels$Plans", "findOpen", "()V"⟩, prog_8_method_3_code, 2, none, 6, 0, 1218) := (congrArg (fun k => MTL[k]?) (show (111 : Nat) = 24 * 4 + 15 from rfl)).trans ((tl_4 15).trans rfl)
theorem o_111 : ocOf 111 = 6 := ocOf_eq m_111
theorem r_111 : retOf 111 = none := retOf_eq m_111
theorem x_111 : maxLOf 111 = 2 := maxLOf_eq m_111
theorem p_111 : npOf 111 = 0 := npOf_eq m_111
theorem n_111 : iniOf 111 = false := (iniOf_eq m_111).trans (by decide)
theorem m_112 : MTL[112]? = some (⟨"StampQuarrels$Plans", "findReach", "()V"⟩, prog_8_method_4_code, 3, none, 6, 0, 1225) := (congrArg (fun k => MTL[k]?) (show (112 : Nat) = 24 * 4 + 16 from rfl)).trans ((tl_4 16).trans rfl)
theorem o_112 : ocOf 112 = 6 := ocOf_eq m_112
theorem r_112 : retOf 112 = none := retOf_eq m_112
theorem x_112 : maxLOf 112 = 3 := maxLOf_eq m_112
theorem p_112 : npOf 112 = 0 := npOf_eq m_112
theorem n_112 : iniOf 112 = false := (iniOf_eq m_112).trans (by decide)
theorem m_113 : MTL[113]? = some (⟨"StampQuarrels$Plans", "stillNeeded", "(II)I"⟩, prog_8_method_5_code, 4, some .int, 6, 2, 1229) := (congrArg (fun k => MTL[k]?) (show (113 : Nat) = 24 * 4 + 17 from rfl)).trans ((tl_4 17).trans rfl)
theorem o_113 : ocOf 113 = 6 := ocOf_eq m_113
theorem r_113 : retOf 113 = some .int := retOf_eq m_113
theorem x_113 : maxLOf 113 = 4 := maxLOf_eq m_113
theorem p_113 : npOf 113 = 2 := npOf_eq m_113
theorem n_113 : iniOf 113 = false := (iniOf_eq m_113).trans (by decide)
theorem m_114 : MTL[114]? = some (⟨"StampQuarrels$Plans", "findQuarrels", "()V"⟩, prog_8_method_6_code, 4, none, 6, 0, 1233) := (congrArg (fun k => MTL[k]?) (show (114 : Nat) = 24 * 4 + 18 from rfl)).trans ((tl_4 18).trans rfl)
theorem o_114 : ocOf 114 = 6 := ocOf_eq m_114
theorem r_114 : retOf 114 = none := retOf_eq m_114
theorem x_114 : maxLOf 114 = 4 := maxLOf_eq m_114
theorem p_114 : npOf 114 = 0 := npOf_eq m_114
theorem n_114 : iniOf 114 = false := (iniOf_eq m_114).trans (by decide)
theorem m_115 : MTL[115]? = some (⟨"StampQuarrels$Plans", "extend", "(IIII)V"⟩, prog_8_method_8_code, 11, none, 6, 4, 1240) := (congrArg (fun k => MTL[k]?) (show (115 : Nat) = 24 * 4 + 19 from rfl)).trans ((tl_4 19).trans rfl)
theorem o_115 : ocOf 115 = 6 := ocOf_eq m_115
theorem r_115 : retOf 115 = none := retOf_eq m_115
theorem x_115 : maxLOf 115 = 11 := maxLOf_eq m_115
theorem p_115 : npOf 115 = 4 := npOf_eq m_115
theorem n_115 : iniOf 115 = false := (iniOf_eq m_115).trans (by decide)
theorem m_116 : MTL[116]? = some (⟨"StampQuarrels$Plans", "isBetter", "(II)Z"⟩, prog_8_method_7_code, 3, some .boolean, 6, 2, 1244) := (congrArg (fun k => MTL[k]?) (show (116 : Nat) = 24 * 4 + 20 from rfl)).trans ((tl_4 20).trans rfl)
theorem o_116 : ocOf 116 = 6 := ocOf_eq m_116
theorem r_116 : retOf 116 = some .boolean := retOf_eq m_116
theorem x_116 : maxLOf 116 = 3 := maxLOf_eq m_116
theorem p_116 : npOf 116 = 2 := npOf_eq m_116
theorem n_116 : iniOf 116 = false := (iniOf_eq m_116).trans (by decide)
theorem m_117 : MTL[117]? = some (⟨"StampQuarrels", "buffers", "(II)I"⟩, prog_1_method_23_code, 3, some .int, 11, 2, 1249) := (congrArg (fun k => MTL[k]?) (show (117 : Nat) = 24 * 4 + 21 from rfl)).trans ((tl_4 21).trans rfl)
theorem o_117 : ocOf 117 = 11 := ocOf_eq m_117
theorem r_117 : retOf 117 = some .int := retOf_eq m_117
theorem x_117 : maxLOf 117 = 3 := maxLOf_eq m_117
theorem p_117 : npOf 117 = 2 := npOf_eq m_117
theorem n_117 : iniOf 117 = false := (iniOf_eq m_117).trans (by decide)
theorem m_118 : MTL[118]? = some (⟨"StampQuarrels$Plans", "findBuffers", "(I)Z"⟩, prog_8_method_9_code, 5, some .boolean, 6, 1, 1253) := (congrArg (fun k => MTL[k]?) (show (118 : Nat) = 24 * 4 + 22 from rfl)).trans ((tl_4 22).trans rfl)
theorem o_118 : ocOf 118 = 6 := ocOf_eq m_118
theorem r_118 : retOf 118 = some .boolean := retOf_eq m_118
theorem x_118 : maxLOf 118 = 5 := maxLOf_eq m_118
theorem p_118 : npOf 118 = 1 := npOf_eq m_118
theorem n_118 : iniOf 118 = false := (iniOf_eq m_118).trans (by decide)
theorem m_119 : MTL[119]? = some (⟨"StampQuarrels$Plans", "suitable", "(II)I"⟩, prog_8_method_10_code, 5, some .int, 6, 2, 1259) := (congrArg (fun k => MTL[k]?) (show (119 : Nat) = 24 * 4 + 23 from rfl)).trans ((tl_4 23).trans rfl)
theorem o_119 : ocOf 119 = 6 := ocOf_eq m_119
theorem r_119 : retOf 119 = some .int := retOf_eq m_119
theorem x_119 : maxLOf 119 = 5 := maxLOf_eq m_119
theorem p_119 : npOf 119 = 2 := npOf_eq m_119
theorem n_119 : iniOf 119 = false := (iniOf_eq m_119).trans (by decide)
theorem m_120 : MTL[120]? = some (⟨"StampQuarrels$Plans", "lieWell", "(II)Z"⟩, prog_8_method_11_code, 3, some .boolean, 6, 2, 1263) := (congrArg (fun k => MTL[k]?) (show (120 : Nat) = 24 * 5 + 0 from rfl)).trans ((tl_5 0).trans rfl)
theorem o_120 : ocOf 120 = 6 := ocOf_eq m_120
theorem r_120 : retOf 120 = some .boolean := retOf_eq m_120
theorem x_120 : maxLOf 120 = 3 := maxLOf_eq m_120
theorem p_120 : npOf 120 = 2 := npOf_eq m_120
theorem n_120 : iniOf 120 = false := (iniOf_eq m_120).trans (by decide)
theorem m_121 : MTL[121]? = some (⟨"StampQuarrels$Plans", "fill", "(II)Z"⟩, prog_8_method_12_code, 4, some .boolean, 6, 2, 1267) := (congrArg (fun k => MTL[k]?) (show (121 : Nat) = 24 * 5 + 1 from rfl)).trans ((tl_5 1).trans rfl)
theorem o_121 : ocOf 121 = 6 := ocOf_eq m_121
theorem r_121 : retOf 121 = some .boolean := retOf_eq m_121
theorem x_121 : maxLOf 121 = 4 := maxLOf_eq m_121
theorem p_121 : npOf 121 = 2 := npOf_eq m_121
theorem n_121 : iniOf 121 = false := (iniOf_eq m_121).trans (by decide)
theorem m_122 : MTL[122]? = some (⟨"StampQuarrels", "exchanged", "(II)I"⟩, prog_1_method_24_code, 3, some .int, 11, 2, 1271) := (congrArg (fun k => MTL[k]?) (show (122 : Nat) = 24 * 5 + 2 from rfl)).trans ((tl_5 2).trans rfl)
theorem o_122 : ocOf 122 = 11 := ocOf_eq m_122
theorem r_122 : retOf 122 = some .int := retOf_eq m_122
theorem x_122 : maxLOf 122 = 3 := maxLOf_eq m_122
theorem p_122 : npOf 122 = 2 := npOf_eq m_122
theorem n_122 : iniOf 122 = false := (iniOf_eq m_122).trans (by decide)
theorem m_123 : MTL[123]? = some (⟨"StampQuarrels$Plans", "findExchange", "(I)Z"⟩, prog_8_method_13_code, 6, some .boolean, 6, 1, 1275) := (congrArg (fun k => MTL[k]?) (show (123 : Nat) = 24 * 5 + 3 from rfl)).trans ((tl_5 3).trans rfl)
theorem o_123 : ocOf 123 = 6 := ocOf_eq m_123
theorem r_123 : retOf 123 = some .boolean := retOf_eq m_123
theorem x_123 : maxLOf 123 = 6 := maxLOf_eq m_123
theorem p_123 : npOf 123 = 1 := npOf_eq m_123
theorem n_123 : iniOf 123 = false := (iniOf_eq m_123).trans (by decide)
theorem m_124 : MTL[124]? = some (⟨"StampQuarrels$Plans", "quarrelExchanged", "(III)I"⟩, prog_8_method_14_code, 6, some .int, 6, 3, 1280) := (congrArg (fun k => MTL[k]?) (show (124 : Nat) = 24 * 5 + 4 from rfl)).trans ((tl_5 4).trans rfl)
theorem o_124 : ocOf 124 = 6 := ocOf_eq m_124
theorem r_124 : retOf 124 = some .int := retOf_eq m_124
theorem x_124 : maxLOf 124 = 6 := maxLOf_eq m_124
theorem p_124 : npOf 124 = 3 := npOf_eq m_124
theorem n_124 : iniOf 124 = false := (iniOf_eq m_124).trans (by decide)
theorem m_125 : MTL[125]? = some (⟨"StampQuarrels", "pockets", "(I)I"⟩, prog_1_method_25_code, 3, some .int, 11, 1, 1284) := (congrArg (fun k => MTL[k]?) (show (125 : Nat) = 24 * 5 + 5 from rfl)).trans ((tl_5 5).trans rfl)
theorem o_125 : ocOf 125 = 11 := ocOf_eq m_125
theorem r_125 : retOf 125 = some .int := retOf_eq m_125
theorem x_125 : maxLOf 125 = 3 := maxLOf_eq m_125
theorem p_125 : npOf 125 = 1 := npOf_eq m_125
theorem n_125 : iniOf 125 = false := (iniOf_eq m_125).trans (by decide)
theorem m_126 : MTL[126]? = some (⟨"StampQuarrels$Guess", "findPockets", "()I"⟩, prog_4_method_3_code, 4, some .int, 2, 0, 1288) := (congrArg (fun k => MTL[k]?) (show (126 : Nat) = 24 * 5 + 6 from rfl)).trans ((tl_5 6).trans rfl)
theorem o_126 : ocOf 126 = 2 := ocOf_eq m_126
theorem r_126 : retOf 126 = some .int := retOf_eq m_126
theorem x_126 : maxLOf 126 = 4 := maxLOf_eq m_126
theorem p_126 : npOf 126 = 0 := npOf_eq m_126
theorem n_126 : iniOf 126 = false := (iniOf_eq m_126).trans (by decide)
theorem m_127 : MTL[127]? = some (⟨"StampQuarrels$Guess", "friendsOf", "(I)I"⟩, prog_4_method_2_code, 4, some .int, 2, 1, 1293) := (congrArg (fun k => MTL[k]?) (show (127 : Nat) = 24 * 5 + 7 from rfl)).trans ((tl_5 7).trans rfl)
theorem o_127 : ocOf 127 = 2 := ocOf_eq m_127
theorem r_127 : retOf 127 = some .int := retOf_eq m_127
theorem x_127 : maxLOf 127 = 4 := maxLOf_eq m_127
theorem p_127 : npOf 127 = 1 := npOf_eq m_127
theorem n_127 : iniOf 127 = false := (iniOf_eq m_127).trans (by decide)
theorem m_128 : MTL[128]? = some (⟨"StampQuarrels$Guess", "part", "(III)Z"⟩, prog_4_method_4_code, 6, some .boolean, 2, 3, 1298) := (congrArg (fun k => MTL[k]?) (show (128 : Nat) = 24 * 5 + 8 from rfl)).trans ((tl_5 8).trans rfl)
theorem o_128 : ocOf 128 = 2 := ocOf_eq m_128
theorem r_128 : retOf 128 = some .boolean := retOf_eq m_128
theorem x_128 : maxLOf 128 = 6 := maxLOf_eq m_128
theorem p_128 : npOf 128 = 3 := npOf_eq m_128
theorem n_128 : iniOf 128 = false := (iniOf_eq m_128).trans (by decide)
theorem m_129 : MTL[129]? = some (⟨"StampQuarrels", "hear", "(II)I"⟩, prog_1_method_26_code, 3, some .int, 11, 2, 1303) := (congrArg (fun k => MTL[k]?) (show (129 : Nat) = 24 * 5 + 9 from rfl)).trans ((tl_5 9).trans rfl)
theorem o_129 : ocOf 129 = 11 := ocOf_eq m_129
theorem r_129 : retOf 129 = some .int := retOf_eq m_129
theorem x_129 : maxLOf 129 = 3 := maxLOf_eq m_129
theorem p_129 : npOf 129 = 2 := npOf_eq m_129
theorem n_129 : iniOf 129 = false := (iniOf_eq m_129).trans (by decide)
theorem m_130 : MTL[130]? = some (⟨"StampQuarrels$State", "addHeard", "(II)I"⟩, prog_12_method_5_code, 3, some .int, 10, 2, 1307) := (congrArg (fun k => MTL[k]?) (show (130 : Nat) = 24 * 5 + 10 from rfl)).trans ((tl_5 10).trans rfl)
theorem o_130 : ocOf 130 = 10 := ocOf_eq m_130
theorem r_130 : retOf 130 = some .int := retOf_eq m_130
theorem x_130 : maxLOf 130 = 3 := maxLOf_eq m_130
theorem p_130 : npOf 130 = 2 := npOf_eq m_130
theorem n_130 : iniOf 130 = false := (iniOf_eq m_130).trans (by decide)
theorem m_131 : MTL[131]? = some (⟨"StampQuarrels", "forget", "()I"⟩, prog_1_method_27_code, 2, some .int, 11, 0, 1311) := (congrArg (fun k => MTL[k]?) (show (131 : Nat) = 24 * 5 + 11 from rfl)).trans ((tl_5 11).trans rfl)
theorem o_131 : ocOf 131 = 11 := ocOf_eq m_131
theorem r_131 : retOf 131 = some .int := retOf_eq m_131
theorem x_131 : maxLOf 131 = 2 := maxLOf_eq m_131
theorem p_131 : npOf 131 = 0 := npOf_eq m_131
theorem n_131 : iniOf 131 = false := (iniOf_eq m_131).trans (by decide)
theorem m_132 : MTL[132]? = some (⟨"StampQuarrels", "canBe", "()I"⟩, prog_1_method_28_code, 1, some .int, 11, 0, 1315) := (congrArg (fun k => MTL[k]?) (show (132 : Nat) = 24 * 5 + 12 from rfl)).trans ((tl_5 12).trans rfl)
theorem o_132 : ocOf 132 = 11 := ocOf_eq m_132
theorem r_132 : retOf 132 = some .int := retOf_eq m_132
theorem x_132 : maxLOf 132 = 1 := maxLOf_eq m_132
theorem p_132 : npOf 132 = 0 := npOf_eq m_132
theorem n_132 : iniOf 132 = false := (iniOf_eq m_132).trans (by decide)
theorem m_133 : MTL[133]? = some (⟨"StampQuarrels$Guess", "suspects", "()I"⟩, prog_4_method_5_code, 3, some .int, 2, 0, 1319) := (congrArg (fun k => MTL[k]?) (show (133 : Nat) = 24 * 5 + 13 from rfl)).trans ((tl_5 13).trans rfl)
theorem o_133 : ocOf 133 = 2 := ocOf_eq m_133
theorem r_133 : retOf 133 = some .int := retOf_eq m_133
theorem x_133 : maxLOf 133 = 3 := maxLOf_eq m_133
theorem p_133 : npOf 133 = 0 := npOf_eq m_133
theorem n_133 : iniOf 133 = false := (iniOf_eq m_133).trans (by decide)
theorem m_134 : MTL[134]? = some (⟨"StampQuarrels$Guess", "wouldQuarrelSo", "(I)Z"⟩, prog_4_method_6_code, 4, some .boolean, 2, 1, 1323) := (congrArg (fun k => MTL[k]?) (show (134 : Nat) = 24 * 5 + 14 from rfl)).trans ((tl_5 14).trans rfl)
theorem o_134 : ocOf 134 = 2 := ocOf_eq m_134
theorem r_134 : retOf 134 = some .boolean := retOf_eq m_134
theorem x_134 : maxLOf 134 = 4 := maxLOf_eq m_134
theorem p_134 : npOf 134 = 1 := npOf_eq m_134
theorem n_134 : iniOf 134 = false := (iniOf_eq m_134).trans (by decide)
theorem m_135 : MTL[135]? = some (⟨"StampQuarrels", "beside", "(I)I"⟩, prog_1_method_29_code, 2, some .int, 11, 1, 1327) := (congrArg (fun k => MTL[k]?) (show (135 : Nat) = 24 * 5 + 15 from rfl)).trans ((tl_5 15).trans rfl)
theorem o_135 : ocOf 135 = 11 := ocOf_eq m_135
theorem r_135 : retOf 135 = some .int := retOf_eq m_135
theorem x_135 : maxLOf 135 = 2 := maxLOf_eq m_135
theorem p_135 : npOf 135 = 1 := npOf_eq m_135
theorem n_135 : iniOf 135 = false := (iniOf_eq m_135).trans (by decide)
theorem m_136 : MTL[136]? = some (⟨"StampQuarrels$Guess", "findBeside", "()Z"⟩, prog_4_method_7_code, 4, some .boolean, 2, 0, 1331) := (congrArg (fun k => MTL[k]?) (show (136 : Nat) = 24 * 5 + 16 from rfl)).trans ((tl_5 16).trans rfl)
theorem o_136 : ocOf 136 = 2 := ocOf_eq m_136
theorem r_136 : retOf 136 = some .boolean := retOf_eq m_136
theorem x_136 : maxLOf 136 = 4 := maxLOf_eq m_136
theorem p_136 : npOf 136 = 0 := npOf_eq m_136
theorem n_136 : iniOf 136 = false := (iniOf_eq m_136).trans (by decide)
theorem m_137 : MTL[137]? = some (⟨"StampQuarrels$Guess", "mostAlike", "(II)I"⟩, prog_4_method_8_code, 7, some .int, 2, 2, 1336) := (congrArg (fun k => MTL[k]?) (show (137 : Nat) = 24 * 5 + 17 from rfl)).trans ((tl_5 17).trans rfl)
theorem o_137 : ocOf 137 = 2 := ocOf_eq m_137
theorem r_137 : retOf 137 = some .int := retOf_eq m_137
theorem x_137 : maxLOf 137 = 7 := maxLOf_eq m_137
theorem p_137 : npOf 137 = 2 := npOf_eq m_137
theorem n_137 : iniOf 137 = false := (iniOf_eq m_137).trans (by decide)
theorem m_138 : MTL[138]? = some (⟨"StampQuarrels", "sorts", "(II)I"⟩, prog_1_method_30_code, 4, some .int, 11, 2, 1340) := (congrArg (fun k => MTL[k]?) (show (138 : Nat) = 24 * 5 + 18 from rfl)).trans ((tl_5 18).trans rfl)
theorem o_138 : ocOf 138 = 11 := ocOf_eq m_138
theorem r_138 : retOf 138 = some .int := retOf_eq m_138
theorem x_138 : maxLOf 138 = 4 := maxLOf_eq m_138
theorem p_138 : npOf 138 = 2 := npOf_eq m_138
theorem n_138 : iniOf 138 = false := (iniOf_eq m_138).trans (by decide)
theorem m_139 : MTL[139]? = some (⟨"StampQuarrels$Plans", "findSorts", "(I)I"⟩, prog_8_method_15_code, 9, some .int, 6, 1, 1344) := (congrArg (fun k => MTL[k]?) (show (139 : Nat) = 24 * 5 + 19 from rfl)).trans ((tl_5 19).trans rfl)
theorem o_139 : ocOf 139 = 6 := ocOf_eq m_139
theorem r_139 : retOf 139 = some .int := retOf_eq m_139
theorem x_139 : maxLOf 139 = 9 := maxLOf_eq m_139
theorem p_139 : npOf 139 = 1 := npOf_eq m_139
theorem n_139 : iniOf 139 = false := (iniOf_eq m_139).trans (by decide)
theorem m_140 : MTL[140]? = some (⟨"StampQuarrels$Plans", "allSums", "(I)J"⟩, prog_8_method_16_code, 8, some .long, 6, 1, 1349) := (congrArg (fun k => MTL[k]?) (show (140 : Nat) = 24 * 5 + 20 from rfl)).trans ((tl_5 20).trans rfl)
theorem o_140 : ocOf 140 = 6 := ocOf_eq m_140
theorem r_140 : retOf 140 = some .long := retOf_eq m_140
theorem x_140 : maxLOf 140 = 8 := maxLOf_eq m_140
theorem p_140 : npOf 140 = 1 := npOf_eq m_140
theorem n_140 : iniOf 140 = false := (iniOf_eq m_140).trans (by decide)
theorem m_141 : MTL[141]? = some (⟨"java/lang/Integer", "bitCount", "(I)I"⟩, prog_15_method_49_code, 1, some .int, 15, 1, 1352) := (congrArg (fun k => MTL[k]?) (show (141 : Nat) = 24 * 5 + 21 from rfl)).trans ((tl_5 21).trans rfl)
theorem o_141 : ocOf 141 = 15 := ocOf_eq m_141
theorem r_141 : retOf 141 = some .int := retOf_eq m_141
theorem x_141 : maxLOf 141 = 1 := maxLOf_eq m_141
theorem p_141 : npOf 141 = 1 := npOf_eq m_141
theorem n_141 : iniOf 141 = false := (iniOf_eq m_141).trans (by decide)
theorem m_142 : MTL[142]? = some (⟨"StampQuarrels", "fewest", "(II)I"⟩, prog_1_method_31_code, 3, some .int, 11, 2, 1360) := (congrArg (fun k => MTL[k]?) (show (142 : Nat) = 24 * 5 + 22 from rfl)).trans ((tl_5 22).trans rfl)
theorem o_142 : ocOf 142 = 11 := ocOf_eq m_142
theorem r_142 : retOf 142 = some .int := retOf_eq m_142
theorem x_142 : maxLOf 142 = 3 := maxLOf_eq m_142
theorem p_142 : npOf 142 = 2 := npOf_eq m_142
theorem n_142 : iniOf 142 = false := (iniOf_eq m_142).trans (by decide)
theorem m_143 : MTL[143]? = some (⟨"StampQuarrels$Plans", "findFewest", "(II)I"⟩, prog_8_method_17_code, 6, some .int, 6, 2, 1364) := (congrArg (fun k => MTL[k]?) (show (143 : Nat) = 24 * 5 + 23 from rfl)).trans ((tl_5 23).trans rfl)
theorem o_143 : ocOf 143 = 6 := ocOf_eq m_143
theorem r_143 : retOf 143 = some .int := retOf_eq m_143
theorem x_143 : maxLOf 143 = 6 := maxLOf_eq m_143
theorem p_143 : npOf 143 = 2 := npOf_eq m_143
theorem n_143 : iniOf 143 = false := (iniOf_eq m_143).trans (by decide)
theorem m_144 : MTL[144]? = some (⟨"StampQuarrels", "holds", "(I)J"⟩, prog_1_method_32_code, 7, some .long, 11, 1, 1368) := (congrArg (fun k => MTL[k]?) (show (144 : Nat) = 24 * 6 + 0 from rfl)).trans ((tl_6 0).trans rfl)
theorem o_144 : ocOf 144 = 11 := ocOf_eq m_144
theorem r_144 : retOf 144 = some .long := retOf_eq m_144
theorem x_144 : maxLOf 144 = 7 := maxLOf_eq m_144
theorem p_144 : npOf 144 = 1 := npOf_eq m_144
theorem n_144 : iniOf 144 = false := (iniOf_eq m_144).trans (by decide)
theorem m_145 : MTL[145]? = some (⟨"StampQuarrels", "kin", "(I)I"⟩, prog_1_method_33_code, 2, some .int, 11, 1, 1375) := (congrArg (fun k => MTL[k]?) (show (145 : Nat) = 24 * 6 + 1 from rfl)).trans ((tl_6 1).trans rfl)
theorem o_145 : ocOf 145 = 11 := ocOf_eq m_145
theorem r_145 : retOf 145 = some .int := retOf_eq m_145
theorem x_145 : maxLOf 145 = 2 := maxLOf_eq m_145
theorem p_145 : npOf 145 = 1 := npOf_eq m_145
theorem n_145 : iniOf 145 = false := (iniOf_eq m_145).trans (by decide)
theorem m_146 : MTL[146]? = some (⟨"StampQuarrels", "compare", "(I)I"⟩, prog_1_method_34_code, 5, some .int, 11, 1, 1380) := (congrArg (fun k => MTL[k]?) (show (146 : Nat) = 24 * 6 + 2 from rfl)).trans ((tl_6 2).trans rfl)
theorem o_146 : ocOf 146 = 11 := ocOf_eq m_146
theorem r_146 : retOf 146 = some .int := retOf_eq m_146
theorem x_146 : maxLOf 146 = 5 := maxLOf_eq m_146
theorem p_146 : npOf 146 = 1 := npOf_eq m_146
theorem n_146 : iniOf 146 = false := (iniOf_eq m_146).trans (by decide)
theorem m_147 : MTL[147]? = some (⟨"StampQuarrels", "reigns", "(II)I"⟩, prog_1_method_35_code, 3, some .int, 11, 2, 1384) := (congrArg (fun k => MTL[k]?) (show (147 : Nat) = 24 * 6 + 3 from rfl)).trans ((tl_6 3).trans rfl)
theorem o_147 : ocOf 147 = 11 := ocOf_eq m_147
theorem r_147 : retOf 147 = some .int := retOf_eq m_147
theorem x_147 : maxLOf 147 = 3 := maxLOf_eq m_147
theorem p_147 : npOf 147 = 2 := npOf_eq m_147
theorem n_147 : iniOf 147 = false := (iniOf_eq m_147).trans (by decide)
theorem m_148 : MTL[148]? = some (⟨"StampQuarrels$Reign", "run", "(II)I"⟩, prog_10_method_2_code, 8, some .int, 8, 2, 1389) := (congrArg (fun k => MTL[k]?) (show (148 : Nat) = 24 * 6 + 4 from rfl)).trans ((tl_6 4).trans rfl)
theorem o_148 : ocOf 148 = 8 := ocOf_eq m_148
theorem r_148 : retOf 148 = some .int := retOf_eq m_148
theorem x_148 : maxLOf 148 = 8 := maxLOf_eq m_148
theorem p_148 : npOf 148 = 2 := npOf_eq m_148
theorem n_148 : iniOf 148 = false := (iniOf_eq m_148).trans (by decide)
theorem m_149 : MTL[149]? = some (⟨"StampQuarrels$Reign", "draw", "(I)I"⟩, prog_10_method_3_code, 2, some .int, 8, 1, 1395) := (congrArg (fun k => MTL[k]?) (show (149 : Nat) = 24 * 6 + 5 from rfl)).trans ((tl_6 5).trans rfl)
theorem o_149 : ocOf 149 = 8 := ocOf_eq m_149
theorem r_149 : retOf 149 = some .int := retOf_eq m_149
theorem x_149 : maxLOf 149 = 2 := maxLOf_eq m_149
theorem p_149 : npOf 149 = 1 := npOf_eq m_149
theorem n_149 : iniOf 149 = false := (iniOf_eq m_149).trans (by decide)
theorem m_150 : MTL[150]? = some (⟨"StampQuarrels", "drawn", "(II)I"⟩, prog_1_method_36_code, 3, some .int, 11, 2, 1403) := (congrArg (fun k => MTL[k]?) (show (150 : Nat) = 24 * 6 + 6 from rfl)).trans ((tl_6 6).trans rfl)
theorem o_150 : ocOf 150 = 11 := ocOf_eq m_150
theorem r_150 : retOf 150 = some .int := retOf_eq m_150
theorem x_150 : maxLOf 150 = 3 := maxLOf_eq m_150
theorem p_150 : npOf 150 = 2 := npOf_eq m_150
theorem n_150 : iniOf 150 = false := (iniOf_eq m_150).trans (by decide)
theorem m_151 : MTL[151]? = some (⟨"StampQuarrels", "image", "(I)I"⟩, prog_1_method_37_code, 2, some .int, 11, 1, 1407) := (congrArg (fun k => MTL[k]?) (show (151 : Nat) = 24 * 6 + 7 from rfl)).trans ((tl_6 7).trans rfl)
theorem o_151 : ocOf 151 = 11 := ocOf_eq m_151
theorem r_151 : retOf 151 = some .int := retOf_eq m_151
theorem x_151 : maxLOf 151 = 2 := maxLOf_eq m_151
theorem p_151 : npOf 151 = 1 := npOf_eq m_151
theorem n_151 : iniOf 151 = false := (iniOf_eq m_151).trans (by decide)
theorem m_152 : MTL[152]? = some (⟨"StampQuarrels", "isImage", "(I)Z"⟩, prog_1_method_47_code, 1, some .boolean, 11, 1, 1410) := (congrArg (fun k => MTL[k]?) (show (152 : Nat) = 24 * 6 + 8 from rfl)).trans ((tl_6 8).trans rfl)
theorem o_152 : ocOf 152 = 11 := ocOf_eq m_152
theorem r_152 : retOf 152 = some .boolean := retOf_eq m_152
theorem x_152 : maxLOf 152 = 1 := maxLOf_eq m_152
theorem p_152 : npOf 152 = 1 := npOf_eq m_152
theorem n_152 : iniOf 152 = false := (iniOf_eq m_152).trans (by decide)
theorem m_153 : MTL[153]? = some (⟨"StampQuarrels$State", "copyFrom", "(LStampQuarrels$State;)V"⟩, prog_12_method_2_code, 3, none, 10, 1, 1414) := (congrArg (fun k => MTL[k]?) (show (153 : Nat) = 24 * 6 + 9 from rfl)).trans ((tl_6 9).trans rfl)
theorem o_153 : ocOf 153 = 10 := ocOf_eq m_153
theorem r_153 : retOf 153 = none := retOf_eq m_153
theorem x_153 : maxLOf 153 = 3 := maxLOf_eq m_153
theorem p_153 : npOf 153 = 1 := npOf_eq m_153
theorem n_153 : iniOf 153 = false := (iniOf_eq m_153).trans (by decide)
theorem m_154 : MTL[154]? = some (⟨"StampQuarrels", "back", "(I)I"⟩, prog_1_method_38_code, 2, some .int, 11, 1, 1420) := (congrArg (fun k => MTL[k]?) (show (154 : Nat) = 24 * 6 + 10 from rfl)).trans ((tl_6 10).trans rfl)
theorem o_154 : ocOf 154 = 11 := ocOf_eq m_154
theorem r_154 : retOf 154 = some .int := retOf_eq m_154
theorem x_154 : maxLOf 154 = 2 := maxLOf_eq m_154
theorem p_154 : npOf 154 = 1 := npOf_eq m_154
theorem n_154 : iniOf 154 = false := (iniOf_eq m_154).trans (by decide)
theorem m_155 : MTL[155]? = some (⟨"StampQuarrels", "count", "(I)I"⟩, prog_1_method_39_code, 2, some .int, 11, 1, 1424) := (congrArg (fun k => MTL[k]?) (show (155 : Nat) = 24 * 6 + 11 from rfl)).trans ((tl_6 11).trans rfl)
theorem o_155 : ocOf 155 = 11 := ocOf_eq m_155
theorem r_155 : retOf 155 = some .int := retOf_eq m_155
theorem x_155 : maxLOf 155 = 2 := maxLOf_eq m_155
theorem p_155 : npOf 155 = 1 := npOf_eq m_155
theorem n_155 : iniOf 155 = false := (iniOf_eq m_155).trans (by decide)
theorem m_156 : MTL[156]? = some (⟨"StampQuarrels", "status", "()I"⟩, prog_1_method_40_code, 1, some .int, 11, 0, 1429) := (congrArg (fun k => MTL[k]?) (show (156 : Nat) = 24 * 6 + 12 from rfl)).trans ((tl_6 12).trans rfl)
theorem o_156 : ocOf 156 = 11 := ocOf_eq m_156
theorem r_156 : retOf 156 = some .int := retOf_eq m_156
theorem x_156 : maxLOf 156 = 1 := maxLOf_eq m_156
theorem p_156 : npOf 156 = 0 := npOf_eq m_156
theorem n_156 : iniOf 156 = false := (iniOf_eq m_156).trans (by decide)
theorem m_157 : MTL[157]? = some (⟨"StampQuarrelsModel", "<init>", "()V"⟩, prog_14_method_1_code, 1, none, 12, 0, 1434) := (congrArg (fun k => MTL[k]?) (show (157 : Nat) = 24 * 6 + 13 from rfl)).trans ((tl_6 13).trans rfl)
theorem o_157 : ocOf 157 = 12 := ocOf_eq m_157
theorem r_157 : retOf 157 = none := retOf_eq m_157
theorem x_157 : maxLOf 157 = 1 := maxLOf_eq m_157
theorem p_157 : npOf 157 = 0 := npOf_eq m_157
theorem n_157 : iniOf 157 = true := (iniOf_eq m_157).trans (by decide)
theorem m_158 : MTL[158]? = some (⟨"StampQuarrelsModel", "undo", "()I"⟩, prog_14_method_13_code, 1, some .int, 12, 0, 1654) := (congrArg (fun k => MTL[k]?) (show (158 : Nat) = 24 * 6 + 14 from rfl)).trans ((tl_6 14).trans rfl)
theorem o_158 : ocOf 158 = 12 := ocOf_eq m_158
theorem r_158 : retOf 158 = some .int := retOf_eq m_158
theorem x_158 : maxLOf 158 = 1 := maxLOf_eq m_158
theorem p_158 : npOf 158 = 0 := npOf_eq m_158
theorem n_158 : iniOf 158 = false := (iniOf_eq m_158).trans (by decide)
theorem m_159 : MTL[159]? = some (⟨"StampQuarrelsModel", "tell", "(I)I"⟩, prog_14_method_7_code, 2, some .int, 12, 1, 1658) := (congrArg (fun k => MTL[k]?) (show (159 : Nat) = 24 * 6 + 15 from rfl)).trans ((tl_6 15).trans rfl)
theorem o_159 : ocOf 159 = 12 := ocOf_eq m_159
theorem r_159 : retOf 159 = some .int := retOf_eq m_159
theorem x_159 : maxLOf 159 = 2 := maxLOf_eq m_159
theorem p_159 : npOf 159 = 1 := npOf_eq m_159
theorem n_159 : iniOf 159 = false := (iniOf_eq m_159).trans (by decide)
theorem m_160 : MTL[160]? = some (⟨"StampQuarrelsModel", "putBack", "(I)V"⟩, prog_14_method_11_code, 3, none, 12, 1, 1662) := (congrArg (fun k => MTL[k]?) (show (160 : Nat) = 24 * 6 + 16 from rfl)).trans ((tl_6 16).trans rfl)
theorem o_160 : ocOf 160 = 12 := ocOf_eq m_160
theorem r_160 : retOf 160 = none := retOf_eq m_160
theorem x_160 : maxLOf 160 = 3 := maxLOf_eq m_160
theorem p_160 : npOf 160 = 1 := npOf_eq m_160
theorem n_160 : iniOf 160 = false := (iniOf_eq m_160).trans (by decide)
theorem m_161 : MTL[161]? = some (⟨"StampQuarrelsModel", "image", "(I)I"⟩, prog_14_method_14_code, 3, some .int, 12, 1, 1666) := (congrArg (fun k => MTL[k]?) (show (161 : Nat) = 24 * 6 + 17 from rfl)).trans ((tl_6 17).trans rfl)
theorem o_161 : ocOf 161 = 12 := ocOf_eq m_161
theorem r_161 : retOf 161 = some .int := retOf_eq m_161
theorem x_161 : maxLOf 161 = 3 := maxLOf_eq m_161
theorem p_161 : npOf 161 = 1 := npOf_eq m_161
theorem n_161 : iniOf 161 = false := (iniOf_eq m_161).trans (by decide)
theorem m_162 : MTL[162]? = some (⟨"StampQuarrelsModel", "in", "(JJJ)Z"⟩, prog_14_method_3_code, 6, some .boolean, 12, 3, 1669) := (congrArg (fun k => MTL[k]?) (show (162 : Nat) = 24 * 6 + 18 from rfl)).trans ((tl_6 18).trans rfl)
theorem o_162 : ocOf 162 = 12 := ocOf_eq m_162
theorem r_162 : retOf 162 = some .boolean := retOf_eq m_162
theorem x_162 : maxLOf 162 = 6 := maxLOf_eq m_162
theorem p_162 : npOf 162 = 3 := npOf_eq m_162
theorem n_162 : iniOf 162 = false := (iniOf_eq m_162).trans (by decide)
theorem m_163 : MTL[163]? = some (⟨"StampQuarrelsModel", "back", "(I)I"⟩, prog_14_method_15_code, 3, some .int, 12, 1, 1673) := (congrArg (fun k => MTL[k]?) (show (163 : Nat) = 24 * 6 + 19 from rfl)).trans ((tl_6 19).trans rfl)
theorem o_163 : ocOf 163 = 12 := ocOf_eq m_163
theorem r_163 : retOf 163 = some .int := retOf_eq m_163
theorem x_163 : maxLOf 163 = 3 := maxLOf_eq m_163
theorem p_163 : npOf 163 = 1 := npOf_eq m_163
theorem n_163 : iniOf 163 = false := (iniOf_eq m_163).trans (by decide)
theorem m_164 : MTL[164]? = some (⟨"StampQuarrelsModel", "settled", "(I)I"⟩, prog_14_method_9_code, 2, some .int, 12, 1, 1677) := (congrArg (fun k => MTL[k]?) (show (164 : Nat) = 24 * 6 + 20 from rfl)).trans ((tl_6 20).trans rfl)
theorem o_164 : ocOf 164 = 12 := ocOf_eq m_164
theorem r_164 : retOf 164 = some .int := retOf_eq m_164
theorem x_164 : maxLOf 164 = 2 := maxLOf_eq m_164
theorem p_164 : npOf 164 = 1 := npOf_eq m_164
theorem n_164 : iniOf 164 = false := (iniOf_eq m_164).trans (by decide)
theorem m_165 : MTL[165]? = some (⟨"StampQuarrelsModel", "stamp", "(IIII)I"⟩, prog_14_method_23_code, 5, some .int, 12, 4, 1681) := (congrArg (fun k => MTL[k]?) (show (165 : Nat) = 24 * 6 + 21 from rfl)).trans ((tl_6 21).trans rfl)
theorem o_165 : ocOf 165 = 12 := ocOf_eq m_165
theorem r_165 : retOf 165 = some .int := retOf_eq m_165
theorem x_165 : maxLOf 165 = 5 := maxLOf_eq m_165
theorem p_165 : npOf 165 = 4 := npOf_eq m_165
theorem n_165 : iniOf 165 = false := (iniOf_eq m_165).trans (by decide)
theorem m_166 : MTL[166]? = some (⟨"StampQuarrelsModel", "come", "(IIII)I"⟩, prog_14_method_22_code, 6, some .int, 12, 4, 1685) := (congrArg (fun k => MTL[k]?) (show (166 : Nat) = 24 * 6 + 22 from rfl)).trans ((tl_6 22).trans rfl)
theorem o_166 : ocOf 166 = 12 := ocOf_eq m_166
theorem r_166 : retOf 166 = some .int := retOf_eq m_166
theorem x_166 : maxLOf 166 = 6 := maxLOf_eq m_166
theorem p_166 : npOf 166 = 4 := npOf_eq m_166
theorem n_166 : iniOf 166 = false := (iniOf_eq m_166).trans (by decide)
theorem m_167 : MTL[167]? = some (⟨"StampQuarrelsModel", "of", "(II)I"⟩, prog_14_method_24_code, 4, some .int, 12, 2, 1692) := (congrArg (fun k => MTL[k]?) (show (167 : Nat) = 24 * 6 + 23 from rfl)).trans ((tl_6 23).trans rfl)
theorem o_167 : ocOf 167 = 12 := ocOf_eq m_167
theorem r_167 : retOf 167 = some .int := retOf_eq m_167
theorem x_167 : maxLOf 167 = 4 := maxLOf_eq m_167
theorem p_167 : npOf 167 = 2 := npOf_eq m_167
theorem n_167 : iniOf 167 = false := (iniOf_eq m_167).trans (by decide)
theorem m_168 : MTL[168]? = some (⟨"StampQuarrelsModel", "isStamp", "(I)Z"⟩, prog_14_method_16_code, 2, some .boolean, 12, 1, 1696) := (congrArg (fun k => MTL[k]?) (show (168 : Nat) = 24 * 7 + 0 from rfl)).trans ((tl_7 0).trans rfl)
theorem o_168 : ocOf 168 = 12 := ocOf_eq m_168
theorem r_168 : retOf 168 = some .boolean := retOf_eq m_168
theorem x_168 : maxLOf 168 = 2 := maxLOf_eq m_168
theorem p_168 : npOf 168 = 1 := npOf_eq m_168
theorem n_168 : iniOf 168 = false := (iniOf_eq m_168).trans (by decide)
theorem m_169 : MTL[169]? = some (⟨"StampQuarrelsModel", "spotOf", "(I)I"⟩, prog_14_method_19_code, 5, some .int, 12, 1, 1700) := (congrArg (fun k => MTL[k]?) (show (169 : Nat) = 24 * 7 + 1 from rfl)).trans ((tl_7 1).trans rfl)
theorem o_169 : ocOf 169 = 12 := ocOf_eq m_169
theorem r_169 : retOf 169 = some .int := retOf_eq m_169
theorem x_169 : maxLOf 169 = 5 := maxLOf_eq m_169
theorem p_169 : npOf 169 = 1 := npOf_eq m_169
theorem n_169 : iniOf 169 = false := (iniOf_eq m_169).trans (by decide)
theorem m_170 : MTL[170]? = some (⟨"StampQuarrelsModel", "isLetter", "(I)Z"⟩, prog_14_method_17_code, 2, some .boolean, 12, 1, 1704) := (congrArg (fun k => MTL[k]?) (show (170 : Nat) = 24 * 7 + 2 from rfl)).trans ((tl_7 2).trans rfl)
theorem o_170 : ocOf 170 = 12 := ocOf_eq m_170
theorem r_170 : retOf 170 = some .boolean := retOf_eq m_170
theorem x_170 : maxLOf 170 = 2 := maxLOf_eq m_170
theorem p_170 : npOf 170 = 1 := npOf_eq m_170
theorem n_170 : iniOf 170 = false := (iniOf_eq m_170).trans (by decide)
theorem m_171 : MTL[171]? = some (⟨"StampQuarrelsModel", "stampAt", "(II)I"⟩, prog_14_method_18_code, 3, some .int, 12, 2, 1708) := (congrArg (fun k => MTL[k]?) (show (171 : Nat) = 24 * 7 + 3 from rfl)).trans ((tl_7 3).trans rfl)
theorem o_171 : ocOf 171 = 12 := ocOf_eq m_171
theorem r_171 : retOf 171 = some .int := retOf_eq m_171
theorem x_171 : maxLOf 171 = 3 := maxLOf_eq m_171
theorem p_171 : npOf 171 = 2 := npOf_eq m_171
theorem n_171 : iniOf 171 = false := (iniOf_eq m_171).trans (by decide)
theorem m_172 : MTL[172]? = some (⟨"StampQuarrelsModel", "countsOf", "(I)I"⟩, prog_14_method_72_code, 2, some .int, 12, 1, 1712) := (congrArg (fun k => MTL[k]?) (show (172 : Nat) = 24 * 7 + 4 from rfl)).trans ((tl_7 4).trans rfl)
theorem o_172 : ocOf 172 = 12 := ocOf_eq m_172
theorem r_172 : retOf 172 = some .int := retOf_eq m_172
theorem x_172 : maxLOf 172 = 2 := maxLOf_eq m_172
theorem p_172 : npOf 172 = 1 := npOf_eq m_172
theorem n_172 : iniOf 172 = false := (iniOf_eq m_172).trans (by decide)
theorem m_173 : MTL[173]? = some (⟨"StampQuarrelsModel", "tells", "(IIIJ)J"⟩, prog_14_method_69_code, 10, some .long, 12, 4, 1716) := (congrArg (fun k => MTL[k]?) (show (173 : Nat) = 24 * 7 + 5 from rfl)).trans ((tl_7 5).trans rfl)
theorem o_173 : ocOf 173 = 12 := ocOf_eq m_173
theorem r_173 : retOf 173 = some .long := retOf_eq m_173
theorem x_173 : maxLOf 173 = 10 := maxLOf_eq m_173
theorem p_173 : npOf 173 = 4 := npOf_eq m_173
theorem n_173 : iniOf 173 = false := (iniOf_eq m_173).trans (by decide)
theorem m_174 : MTL[174]? = some (⟨"StampQuarrelsModel", "isSo", "(I)Z"⟩, prog_14_method_68_code, 2, some .boolean, 12, 1, 1721) := (congrArg (fun k => MTL[k]?) (show (174 : Nat) = 24 * 7 + 6 from rfl)).trans ((tl_7 6).trans rfl)
theorem o_174 : ocOf 174 = 12 := ocOf_eq m_174
theorem r_174 : retOf 174 = some .boolean := retOf_eq m_174
theorem x_174 : maxLOf 174 = 2 := maxLOf_eq m_174
theorem p_174 : npOf 174 = 1 := npOf_eq m_174
theorem n_174 : iniOf 174 = false := (iniOf_eq m_174).trans (by decide)
theorem m_175 : MTL[175]? = some (⟨"StampQuarrelsModel", "reckonAll", "(II)V"⟩, prog_14_method_67_code, 7, none, 12, 2, 1725) := (congrArg (fun k => MTL[k]?) (show (175 : Nat) = 24 * 7 + 7 from rfl)).trans ((tl_7 7).trans rfl)
theorem o_175 : ocOf 175 = 12 := ocOf_eq m_175
theorem r_175 : retOf 175 = none := retOf_eq m_175
theorem x_175 : maxLOf 175 = 7 := maxLOf_eq m_175
theorem p_175 : npOf 175 = 2 := npOf_eq m_175
theorem n_175 : iniOf 175 = false := (iniOf_eq m_175).trans (by decide)
theorem m_176 : MTL[176]? = some (⟨"StampQuarrelsModel", "reckon", "(IJJ)J"⟩, prog_14_method_66_code, 6, some .long, 12, 3, 1729) := (congrArg (fun k => MTL[k]?) (show (176 : Nat) = 24 * 7 + 8 from rfl)).trans ((tl_7 8).trans rfl)
theorem o_176 : ocOf 176 = 12 := ocOf_eq m_176
theorem r_176 : retOf 176 = some .long := retOf_eq m_176
theorem x_176 : maxLOf 176 = 6 := maxLOf_eq m_176
theorem p_176 : npOf 176 = 3 := npOf_eq m_176
theorem n_176 : iniOf 176 = false := (iniOf_eq m_176).trans (by decide)
theorem m_177 : MTL[177]? = some (⟨"StampQuarrelsModel", "within", "(JII)I"⟩, prog_14_method_6_code, 4, some .int, 12, 3, 1734) := (congrArg (fun k => MTL[k]?) (show (177 : Nat) = 24 * 7 + 9 from rfl)).trans ((tl_7 9).trans rfl)
theorem o_177 : ocOf 177 = 12 := ocOf_eq m_177
theorem r_177 : retOf 177 = some .int := retOf_eq m_177
theorem x_177 : maxLOf 177 = 4 := maxLOf_eq m_177
theorem p_177 : npOf 177 = 3 := npOf_eq m_177
theorem n_177 : iniOf 177 = false := (iniOf_eq m_177).trans (by decide)
theorem m_178 : MTL[178]? = some (⟨"StampQuarrelsModel", "driesOf", "(I)I"⟩, prog_14_method_71_code, 2, some .int, 12, 1, 1738) := (congrArg (fun k => MTL[k]?) (show (178 : Nat) = 24 * 7 + 10 from rfl)).trans ((tl_7 10).trans rfl)
theorem o_178 : ocOf 178 = 12 := ocOf_eq m_178
theorem r_178 : retOf 178 = some .int := retOf_eq m_178
theorem x_178 : maxLOf 178 = 2 := maxLOf_eq m_178
theorem p_178 : npOf 178 = 1 := npOf_eq m_178
theorem n_178 : iniOf 178 = false := (iniOf_eq m_178).trans (by decide)
theorem m_179 : MTL[179]? = some (⟨"StampQuarrelsModel", "letter", "(I)I"⟩, prog_14_method_25_code, 3, some .int, 12, 1, 1742) := (congrArg (fun k => MTL[k]?) (show (179 : Nat) = 24 * 7 + 11 from rfl)).trans ((tl_7 11).trans rfl)
theorem o_179 : ocOf 179 = 12 := ocOf_eq m_179
theorem r_179 : retOf 179 = some .int := retOf_eq m_179
theorem x_179 : maxLOf 179 = 3 := maxLOf_eq m_179
theorem p_179 : npOf 179 = 1 := npOf_eq m_179
theorem n_179 : iniOf 179 = false := (iniOf_eq m_179).trans (by decide)
theorem m_180 : MTL[180]? = some (⟨"StampQuarrelsModel", "at", "(II)I"⟩, prog_14_method_28_code, 3, some .int, 12, 2, 1747) := (congrArg (fun k => MTL[k]?) (show (180 : Nat) = 24 * 7 + 12 from rfl)).trans ((tl_7 12).trans rfl)
theorem o_180 : ocOf 180 = 12 := ocOf_eq m_180
theorem r_180 : retOf 180 = some .int := retOf_eq m_180
theorem x_180 : maxLOf 180 = 3 := maxLOf_eq m_180
theorem p_180 : npOf 180 = 2 := npOf_eq m_180
theorem n_180 : iniOf 180 = false := (iniOf_eq m_180).trans (by decide)
theorem m_181 : MTL[181]? = some (⟨"StampQuarrelsModel", "paidOn", "(I)I"⟩, prog_14_method_26_code, 4, some .int, 12, 1, 1751) := (congrArg (fun k => MTL[k]?) (show (181 : Nat) = 24 * 7 + 13 from rfl)).trans ((tl_7 13).trans rfl)
theorem o_181 : ocOf 181 = 12 := ocOf_eq m_181
theorem r_181 : retOf 181 = some .int := retOf_eq m_181
theorem x_181 : maxLOf 181 = 4 := maxLOf_eq m_181
theorem p_181 : npOf 181 = 1 := npOf_eq m_181
theorem n_181 : iniOf 181 = false := (iniOf_eq m_181).trans (by decide)
theorem m_182 : MTL[182]? = some (⟨"StampQuarrelsModel", "quarrelOn", "(I)I"⟩, prog_14_method_27_code, 4, some .int, 12, 1, 1755) := (congrArg (fun k => MTL[k]?) (show (182 : Nat) = 24 * 7 + 14 from rfl)).trans ((tl_7 14).trans rfl)
theorem o_182 : ocOf 182 = 12 := ocOf_eq m_182
theorem r_182 : retOf 182 = some .int := retOf_eq m_182
theorem x_182 : maxLOf 182 = 4 := maxLOf_eq m_182
theorem p_182 : npOf 182 = 1 := npOf_eq m_182
theorem n_182 : iniOf 182 = false := (iniOf_eq m_182).trans (by decide)
theorem m_183 : MTL[183]? = some (⟨"StampQuarrelsModel", "quarrelOf", "(II)I"⟩, prog_14_method_70_code, 4, some .int, 12, 2, 1759) := (congrArg (fun k => MTL[k]?) (show (183 : Nat) = 24 * 7 + 15 from rfl)).trans ((tl_7 15).trans rfl)
theorem o_183 : ocOf 183 = 12 := ocOf_eq m_183
theorem r_183 : retOf 183 = some .int := retOf_eq m_183
theorem x_183 : maxLOf 183 = 4 := maxLOf_eq m_183
theorem p_183 : npOf 183 = 2 := npOf_eq m_183
theorem n_183 : iniOf 183 = false := (iniOf_eq m_183).trans (by decide)
theorem m_184 : MTL[184]? = some (⟨"StampQuarrelsModel", "asks", "(III)I"⟩, prog_14_method_29_code, 4, some .int, 12, 3, 1764) := (congrArg (fun k => MTL[k]?) (show (184 : Nat) = 24 * 7 + 16 from rfl)).trans ((tl_7 16).trans rfl)
theorem o_184 : ocOf 184 = 12 := ocOf_eq m_184
theorem r_184 : retOf 184 = some .int := retOf_eq m_184
theorem x_184 : maxLOf 184 = 4 := maxLOf_eq m_184
theorem p_184 : npOf 184 = 3 := npOf_eq m_184
theorem n_184 : iniOf 184 = false := (iniOf_eq m_184).trans (by decide)
theorem m_185 : MTL[185]? = some (⟨"StampQuarrelsModel", "isBarred", "(II)Z"⟩, prog_14_method_73_code, 3, some .boolean, 12, 2, 1768) := (congrArg (fun k => MTL[k]?) (show (185 : Nat) = 24 * 7 + 17 from rfl)).trans ((tl_7 17).trans rfl)
theorem o_185 : ocOf 185 = 12 := ocOf_eq m_185
theorem r_185 : retOf 185 = some .boolean := retOf_eq m_185
theorem x_185 : maxLOf 185 = 3 := maxLOf_eq m_185
theorem p_185 : npOf 185 = 2 := npOf_eq m_185
theorem n_185 : iniOf 185 = false := (iniOf_eq m_185).trans (by decide)
theorem m_186 : MTL[186]? = some (⟨"StampQuarrelsModel", "terms", "(II)I"⟩, prog_14_method_30_code, 4, some .int, 12, 2, 1772) := (congrArg (fun k => MTL[k]?) (show (186 : Nat) = 24 * 7 + 18 from rfl)).trans ((tl_7 18).trans rfl)
theorem o_186 : ocOf 186 = 12 := ocOf_eq m_186
theorem r_186 : retOf 186 = some .int := retOf_eq m_186
theorem x_186 : maxLOf 186 = 4 := maxLOf_eq m_186
theorem p_186 : npOf 186 = 2 := npOf_eq m_186
theorem n_186 : iniOf 186 = false := (iniOf_eq m_186).trans (by decide)
theorem m_187 : MTL[187]? = some (⟨"StampQuarrelsModel", "change", "(II)I"⟩, prog_14_method_8_code, 4, some .int, 12, 2, 1778) := (congrArg (fun k => MTL[k]?) (show (187 : Nat) = 24 * 7 + 19 from rfl)).trans ((tl_7 19).trans rfl)
theorem o_187 : ocOf 187 = 12 := ocOf_eq m_187
theorem r_187 : retOf 187 = some .int := retOf_eq m_187
theorem x_187 : maxLOf 187 = 4 := maxLOf_eq m_187
theorem p_187 : npOf 187 = 2 := npOf_eq m_187
theorem n_187 : iniOf 187 = false := (iniOf_eq m_187).trans (by decide)
theorem m_188 : MTL[188]? = some (⟨"StampQuarrelsModel", "row", "()I"⟩, prog_14_method_31_code, 4, some .int, 12, 0, 1782) := (congrArg (fun k => MTL[k]?) (show (188 : Nat) = 24 * 7 + 20 from rfl)).trans ((tl_7 20).trans rfl)
theorem o_188 : ocOf 188 = 12 := ocOf_eq m_188
theorem r_188 : retOf 188 = some .int := retOf_eq m_188
theorem x_188 : maxLOf 188 = 4 := maxLOf_eq m_188
theorem p_188 : npOf 188 = 0 := npOf_eq m_188
theorem n_188 : iniOf 188 = false := (iniOf_eq m_188).trans (by decide)
theorem m_189 : MTL[189]? = some (⟨"StampQuarrelsModel", "misprints", "()I"⟩, prog_14_method_32_code, 1, some .int, 12, 0, 1786) := (congrArg (fun k => MTL[k]?) (show (189 : Nat) = 24 * 7 + 21 from rfl)).trans ((tl_7 21).trans rfl)
theorem o_189 : ocOf 189 = 12 := ocOf_eq m_189
theorem r_189 : retOf 189 = some .int := retOf_eq m_189
theorem x_189 : maxLOf 189 = 1 := maxLOf_eq m_189
theorem p_189 : npOf 189 = 0 := npOf_eq m_189
theorem n_189 : iniOf 189 = false := (iniOf_eq m_189).trans (by decide)
theorem m_190 : MTL[190]? = some (⟨"StampQuarrelsModel", "feed", "(IIIII)I"⟩, prog_14_method_34_code, 6, some .int, 12, 5, 1790) := (congrArg (fun k => MTL[k]?) (show (190 : Nat) = 24 * 7 + 22 from rfl)).trans ((tl_7 22).trans rfl)
theorem o_190 : ocOf 190 = 12 := ocOf_eq m_190
theorem r_190 : retOf 190 = some .int := retOf_eq m_190
theorem x_190 : maxLOf 190 = 6 := maxLOf_eq m_190
theorem p_190 : npOf 190 = 5 := npOf_eq m_190
theorem n_190 : iniOf 190 = false := (iniOf_eq m_190).trans (by decide)
theorem m_191 : MTL[191]? = some (⟨"StampQuarrelsModel", "four", "(I)V"⟩, prog_14_method_33_code, 3, none, 12, 1, 1794) := (congrArg (fun k => MTL[k]?) (show (191 : Nat) = 24 * 7 + 23 from rfl)).trans ((tl_7 23).trans rfl)
theorem o_191 : ocOf 191 = 12 := ocOf_eq m_191
theorem r_191 : retOf 191 = none := retOf_eq m_191
theorem x_191 : maxLOf 191 = 3 := maxLOf_eq m_191
theorem p_191 : npOf 191 = 1 := npOf_eq m_191
theorem n_191 : iniOf 191 = false := (iniOf_eq m_191).trans (by decide)
theorem m_192 : MTL[192]? = some (⟨"StampQuarrelsModel", "end", "(I)I"⟩, prog_14_method_35_code, 2, some .int, 12, 1, 1798) := (congrArg (fun k => MTL[k]?) (show (192 : Nat) = 24 * 8 + 0 from rfl)).trans ((tl_8 0).trans rfl)
theorem o_192 : ocOf 192 = 12 := ocOf_eq m_192
theorem r_192 : retOf 192 = some .int := retOf_eq m_192
theorem x_192 : maxLOf 192 = 2 := maxLOf_eq m_192
theorem p_192 : npOf 192 = 1 := npOf_eq m_192
theorem n_192 : iniOf 192 = false := (iniOf_eq m_192).trans (by decide)
theorem m_193 : MTL[193]? = some (⟨"StampQuarrelsModel", "fault", "()I"⟩, prog_14_method_44_code, 1, some .int, 12, 0, 1802) := (congrArg (fun k => MTL[k]?) (show (193 : Nat) = 24 * 8 + 1 from rfl)).trans ((tl_8 1).trans rfl)
theorem o_193 : ocOf 193 = 12 := ocOf_eq m_193
theorem r_193 : retOf 193 = some .int := retOf_eq m_193
theorem x_193 : maxLOf 193 = 1 := maxLOf_eq m_193
theorem p_193 : npOf 193 = 0 := npOf_eq m_193
theorem n_193 : iniOf 193 = false := (iniOf_eq m_193).trans (by decide)
theorem m_194 : MTL[194]? = some (⟨"StampQuarrelsModel", "law", "()I"⟩, prog_14_method_63_code, 3, some .int, 12, 0, 1806) := (congrArg (fun k => MTL[k]?) (show (194 : Nat) = 24 * 8 + 2 from rfl)).trans ((tl_8 2).trans rfl)
theorem o_194 : ocOf 194 = 12 := ocOf_eq m_194
theorem r_194 : retOf 194 = some .int := retOf_eq m_194
theorem x_194 : maxLOf 194 = 3 := maxLOf_eq m_194
theorem p_194 : npOf 194 = 0 := npOf_eq m_194
theorem n_194 : iniOf 194 = false := (iniOf_eq m_194).trans (by decide)
theorem m_195 : MTL[195]? = some (⟨"StampQuarrelsModel", "beginText", "(Z)V"⟩, prog_14_method_60_code, 2, none, 12, 1, 1810) := (congrArg (fun k => MTL[k]?) (show (195 : Nat) = 24 * 8 + 3 from rfl)).trans ((tl_8 3).trans rfl)
theorem o_195 : ocOf 195 = 12 := ocOf_eq m_195
theorem r_195 : retOf 195 = none := retOf_eq m_195
theorem x_195 : maxLOf 195 = 2 := maxLOf_eq m_195
theorem p_195 : npOf 195 = 1 := npOf_eq m_195
theorem n_195 : iniOf 195 = false := (iniOf_eq m_195).trans (by decide)
theorem m_196 : MTL[196]? = some (⟨"StampQuarrelsModel", "begin", "()V"⟩, prog_14_method_38_code, 1, none, 12, 0, 1814) := (congrArg (fun k => MTL[k]?) (show (196 : Nat) = 24 * 8 + 4 from rfl)).trans ((tl_8 4).trans rfl)
theorem o_196 : ocOf 196 = 12 := ocOf_eq m_196
theorem r_196 : retOf 196 = none := retOf_eq m_196
theorem x_196 : maxLOf 196 = 1 := maxLOf_eq m_196
theorem p_196 : npOf 196 = 0 := npOf_eq m_196
theorem n_196 : iniOf 196 = false := (iniOf_eq m_196).trans (by decide)
theorem m_197 : MTL[197]? = some (⟨"StampQuarrelsModel", "next", "()V"⟩, prog_14_method_39_code, 1, none, 12, 0, 1818) := (congrArg (fun k => MTL[k]?) (show (197 : Nat) = 24 * 8 + 5 from rfl)).trans ((tl_8 5).trans rfl)
theorem o_197 : ocOf 197 = 12 := ocOf_eq m_197
theorem r_197 : retOf 197 = none := retOf_eq m_197
theorem x_197 : maxLOf 197 = 1 := maxLOf_eq m_197
theorem p_197 : npOf 197 = 0 := npOf_eq m_197
theorem n_197 : iniOf 197 = false := (iniOf_eq m_197).trans (by decide)
theorem m_198 : MTL[198]? = some (⟨"StampQuarrelsModel", "isSmall", "(I)Z"⟩, prog_14_method_36_code, 1, some .boolean, 12, 1, 1821) := (congrArg (fun k => MTL[k]?) (show (198 : Nat) = 24 * 8 + 6 from rfl)).trans ((tl_8 6).trans rfl)
theorem o_198 : ocOf 198 = 12 := ocOf_eq m_198
theorem r_198 : retOf 198 = some .boolean := retOf_eq m_198
theorem x_198 : maxLOf 198 = 1 := maxLOf_eq m_198
theorem p_198 : npOf 198 = 1 := npOf_eq m_198
theorem n_198 : iniOf 198 = false := (iniOf_eq m_198).trans (by decide)
theorem m_199 : MTL[199]? = some (⟨"StampQuarrelsModel", "isDigit", "(I)Z"⟩, prog_14_method_37_code, 1, some .boolean, 12, 1, 1824) := (congrArg (fun k => MTL[k]?) (show (199 : Nat) = 24 * 8 + 7 from rfl)).trans ((tl_8 7).trans rfl)
theorem o_199 : ocOf 199 = 12 := ocOf_eq m_199
theorem r_199 : retOf 199 = some .boolean := retOf_eq m_199
theorem x_199 : maxLOf 199 = 1 := maxLOf_eq m_199
theorem p_199 : npOf 199 = 1 := npOf_eq m_199
theorem n_199 : iniOf 199 = false := (iniOf_eq m_199).trans (by decide)
theorem m_200 : MTL[200]? = some (⟨"StampQuarrelsModel", "readLaw", "()V"⟩, prog_14_method_62_code, 4, none, 12, 0, 1832) := (congrArg (fun k => MTL[k]?) (show (200 : Nat) = 24 * 8 + 8 from rfl)).trans ((tl_8 8).trans rfl)
theorem o_200 : ocOf 200 = 12 := ocOf_eq m_200
theorem r_200 : retOf 200 = none := retOf_eq m_200
theorem x_200 : maxLOf 200 = 4 := maxLOf_eq m_200
theorem p_200 : npOf 200 = 0 := npOf_eq m_200
theorem n_200 : iniOf 200 = false := (iniOf_eq m_200).trans (by decide)
theorem m_201 : MTL[201]? = some (⟨"StampQuarrelsModel", "isWord", "(J)Z"⟩, prog_14_method_40_code, 3, some .boolean, 12, 1, 1836) := (congrArg (fun k => MTL[k]?) (show (201 : Nat) = 24 * 8 + 9 from rfl)).trans ((tl_8 9).trans rfl)
theorem o_201 : ocOf 201 = 12 := ocOf_eq m_201
theorem r_201 : retOf 201 = some .boolean := retOf_eq m_201
theorem x_201 : maxLOf 201 = 3 := maxLOf_eq m_201
theorem p_201 : npOf 201 = 1 := npOf_eq m_201
theorem n_201 : iniOf 201 = false := (iniOf_eq m_201).trans (by decide)
theorem m_202 : MTL[202]? = some (⟨"StampQuarrelsModel", "must", "(Z)V"⟩, prog_14_method_42_code, 2, none, 12, 1, 1840) := (congrArg (fun k => MTL[k]?) (show (202 : Nat) = 24 * 8 + 10 from rfl)).trans ((tl_8 10).trans rfl)
theorem o_202 : ocOf 202 = 12 := ocOf_eq m_202
theorem r_202 : retOf 202 = none := retOf_eq m_202
theorem x_202 : maxLOf 202 = 2 := maxLOf_eq m_202
theorem p_202 : npOf 202 = 1 := npOf_eq m_202
theorem n_202 : iniOf 202 = false := (iniOf_eq m_202).trans (by decide)
theorem m_203 : MTL[203]? = some (⟨"StampQuarrelsModel", "readExpression", "(Z)V"⟩, prog_14_method_59_code, 3, none, 12, 1, 1844) := (congrArg (fun k => MTL[k]?) (show (203 : Nat) = 24 * 8 + 11 from rfl)).trans ((tl_8 11).trans rfl)
theorem o_203 : ocOf 203 = 12 := ocOf_eq m_203
theorem r_203 : retOf 203 = none := retOf_eq m_203
theorem x_203 : maxLOf 203 = 3 := maxLOf_eq m_203
theorem p_203 : npOf 203 = 1 := npOf_eq m_203
theorem n_203 : iniOf 203 = false := (iniOf_eq m_203).trans (by decide)
theorem m_204 : MTL[204]? = some (⟨"StampQuarrelsModel", "readPlain", "()I"⟩, prog_14_method_56_code, 1, some .int, 12, 0, 1848) := (congrArg (fun k => MTL[k]?) (show (204 : Nat) = 24 * 8 + 12 from rfl)).trans ((tl_8 12).trans rfl)
theorem o_204 : ocOf 204 = 12 := ocOf_eq m_204
theorem r_204 : retOf 204 = some .int := retOf_eq m_204
theorem x_204 : maxLOf 204 = 1 := maxLOf_eq m_204
theorem p_204 : npOf 204 = 0 := npOf_eq m_204
theorem n_204 : iniOf 204 = false := (iniOf_eq m_204).trans (by decide)
theorem m_205 : MTL[205]? = some (⟨"StampQuarrelsModel", "push", "(II)V"⟩, prog_14_method_46_code, 3, none, 12, 2, 1853) := (congrArg (fun k => MTL[k]?) (show (205 : Nat) = 24 * 8 + 13 from rfl)).trans ((tl_8 13).trans rfl)
theorem o_205 : ocOf 205 = 12 := ocOf_eq m_205
theorem r_205 : retOf 205 = none := retOf_eq m_205
theorem x_205 : maxLOf 205 = 3 := maxLOf_eq m_205
theorem p_205 : npOf 205 = 2 := npOf_eq m_205
theorem n_205 : iniOf 205 = false := (iniOf_eq m_205).trans (by decide)
theorem m_206 : MTL[206]? = some (⟨"StampQuarrelsModel", "isSign", "(I)Z"⟩, prog_14_method_41_code, 2, some .boolean, 12, 1, 1857) := (congrArg (fun k => MTL[k]?) (show (206 : Nat) = 24 * 8 + 14 from rfl)).trans ((tl_8 14).trans rfl)
theorem o_206 : ocOf 206 = 12 := ocOf_eq m_206
theorem r_206 : retOf 206 = some .boolean := retOf_eq m_206
theorem x_206 : maxLOf 206 = 2 := maxLOf_eq m_206
theorem p_206 : npOf 206 = 1 := npOf_eq m_206
theorem n_206 : iniOf 206 = false := (iniOf_eq m_206).trans (by decide)
theorem m_207 : MTL[207]? = some (⟨"StampQuarrelsModel", "openBracket", "(I)V"⟩, prog_14_method_53_code, 2, none, 12, 1, 1861) := (congrArg (fun k => MTL[k]?) (show (207 : Nat) = 24 * 8 + 15 from rfl)).trans ((tl_8 15).trans rfl)
theorem o_207 : ocOf 207 = 12 := ocOf_eq m_207
theorem r_207 : retOf 207 = none := retOf_eq m_207
theorem x_207 : maxLOf 207 = 2 := maxLOf_eq m_207
theorem p_207 : npOf 207 = 1 := npOf_eq m_207
theorem n_207 : iniOf 207 = false := (iniOf_eq m_207).trans (by decide)
theorem m_208 : MTL[208]? = some (⟨"StampQuarrelsModel", "readPart", "()I"⟩, prog_14_method_55_code, 4, some .int, 12, 0, 1865) := (congrArg (fun k => MTL[k]?) (show (208 : Nat) = 24 * 8 + 16 from rfl)).trans ((tl_8 16).trans rfl)
theorem o_208 : ocOf 208 = 12 := ocOf_eq m_208
theorem r_208 : retOf 208 = some .int := retOf_eq m_208
theorem x_208 : maxLOf 208 = 4 := maxLOf_eq m_208
theorem p_208 : npOf 208 = 0 := npOf_eq m_208
theorem n_208 : iniOf 208 = false := (iniOf_eq m_208).trans (by decide)
theorem m_209 : MTL[209]? = some (⟨"StampQuarrelsModel", "orderPartAt", "()I"⟩, prog_14_method_52_code, 3, some .int, 12, 0, 1869) := (congrArg (fun k => MTL[k]?) (show (209 : Nat) = 24 * 8 + 17 from rfl)).trans ((tl_8 17).trans rfl)
theorem o_209 : ocOf 209 = 12 := ocOf_eq m_209
theorem r_209 : retOf 209 = some .int := retOf_eq m_209
theorem x_209 : maxLOf 209 = 3 := maxLOf_eq m_209
theorem p_209 : npOf 209 = 0 := npOf_eq m_209
theorem n_209 : iniOf 209 = false := (iniOf_eq m_209).trans (by decide)
theorem m_210 : MTL[210]? = some (⟨"StampQuarrelsModel", "partAt", "()I"⟩, prog_14_method_51_code, 3, some .int, 12, 0, 1873) := (congrArg (fun k => MTL[k]?) (show (210 : Nat) = 24 * 8 + 18 from rfl)).trans ((tl_8 18).trans rfl)
theorem o_210 : ocOf 210 = 12 := ocOf_eq m_210
theorem r_210 : retOf 210 = some .int := retOf_eq m_210
theorem x_210 : maxLOf 210 = 3 := maxLOf_eq m_210
theorem p_210 : npOf 210 = 0 := npOf_eq m_210
theorem n_210 : iniOf 210 = false := (iniOf_eq m_210).trans (by decide)
theorem m_211 : MTL[211]? = some (⟨"StampQuarrelsModel", "leaf", "(ZII)V"⟩, prog_14_method_54_code, 4, none, 12, 3, 1878) := (congrArg (fun k => MTL[k]?) (show (211 : Nat) = 24 * 8 + 19 from rfl)).trans ((tl_8 19).trans rfl)
theorem o_211 : ocOf 211 = 12 := ocOf_eq m_211
theorem r_211 : retOf 211 = none := retOf_eq m_211
theorem x_211 : maxLOf 211 = 4 := maxLOf_eq m_211
theorem p_211 : npOf 211 = 3 := npOf_eq m_211
theorem n_211 : iniOf 211 = false := (iniOf_eq m_211).trans (by decide)
theorem m_212 : MTL[212]? = some (⟨"StampQuarrelsModel", "emit", "(II)V"⟩, prog_14_method_45_code, 3, none, 12, 2, 1882) := (congrArg (fun k => MTL[k]?) (show (212 : Nat) = 24 * 8 + 20 from rfl)).trans ((tl_8 20).trans rfl)
theorem o_212 : ocOf 212 = 12 := ocOf_eq m_212
theorem r_212 : retOf 212 = none := retOf_eq m_212
theorem x_212 : maxLOf 212 = 3 := maxLOf_eq m_212
theorem p_212 : npOf 212 = 2 := npOf_eq m_212
theorem n_212 : iniOf 212 = false := (iniOf_eq m_212).trans (by decide)
theorem m_213 : MTL[213]? = some (⟨"StampQuarrelsModel", "number", "(JJ)I"⟩, prog_14_method_43_code, 6, some .int, 12, 2, 1887) := (congrArg (fun k => MTL[k]?) (show (213 : Nat) = 24 * 8 + 21 from rfl)).trans ((tl_8 21).trans rfl)
theorem o_213 : ocOf 213 = 12 := ocOf_eq m_213
theorem r_213 : retOf 213 = some .int := retOf_eq m_213
theorem x_213 : maxLOf 213 = 6 := maxLOf_eq m_213
theorem p_213 : npOf 213 = 2 := npOf_eq m_213
theorem n_213 : iniOf 213 = false := (iniOf_eq m_213).trans (by decide)
theorem m_214 : MTL[214]? = some (⟨"StampQuarrelsModel", "behindSum", "(Z)I"⟩, prog_14_method_57_code, 4, some .int, 12, 1, 1891) := (congrArg (fun k => MTL[k]?) (show (214 : Nat) = 24 * 8 + 22 from rfl)).trans ((tl_8 22).trans rfl)
theorem o_214 : ocOf 214 = 12 := ocOf_eq m_214
theorem r_214 : retOf 214 = some .int := retOf_eq m_214
theorem x_214 : maxLOf 214 = 4 := maxLOf_eq m_214
theorem p_214 : npOf 214 = 1 := npOf_eq m_214
theorem n_214 : iniOf 214 = false := (iniOf_eq m_214).trans (by decide)
theorem m_215 : MTL[215]? = some (⟨"StampQuarrelsModel", "binds", "(I)I"⟩, prog_14_method_47_code, 1, some .int, 12, 1, 1894) := (congrArg (fun k => MTL[k]?) (show (215 : Nat) = 24 * 8 + 23 from rfl)).trans ((tl_8 23).trans rfl)
theorem o_215 : ocOf 215 = 12 := ocOf_eq m_215
theorem r_215 : retOf 215 = some .int := retOf_eq m_215
theorem x_215 : maxLOf 215 = 1 := maxLOf_eq m_215
theorem p_215 : npOf 215 = 1 := npOf_eq m_215
theorem n_215 : iniOf 215 = false := (iniOf_eq m_215).trans (by decide)
theorem m_216 : MTL[216]? = some (⟨"StampQuarrelsModel", "settle", "(I)V"⟩, prog_14_method_48_code, 2, none, 12, 1, 1898) := (congrArg (fun k => MTL[k]?) (show (216 : Nat) = 24 * 9 + 0 from rfl)).trans ((tl_9 0).trans rfl)
theorem o_216 : ocOf 216 = 12 := ocOf_eq m_216
theorem r_216 : retOf 216 = none := retOf_eq m_216
theorem x_216 : maxLOf 216 = 2 := maxLOf_eq m_216
theorem p_216 : npOf 216 = 1 := npOf_eq m_216
theorem n_216 : iniOf 216 = false := (iniOf_eq m_216).trans (by decide)
theorem m_217 : MTL[217]? = some (⟨"StampQuarrelsModel", "inner", "()I"⟩, prog_14_method_49_code, 3, some .int, 12, 0, 1902) := (congrArg (fun k => MTL[k]?) (show (217 : Nat) = 24 * 9 + 1 from rfl)).trans ((tl_9 1).trans rfl)
theorem o_217 : ocOf 217 = 12 := ocOf_eq m_217
theorem r_217 : retOf 217 = some .int := retOf_eq m_217
theorem x_217 : maxLOf 217 = 3 := maxLOf_eq m_217
theorem p_217 : npOf 217 = 0 := npOf_eq m_217
theorem n_217 : iniOf 217 = false := (iniOf_eq m_217).trans (by decide)
theorem m_218 : MTL[218]? = some (⟨"StampQuarrelsModel", "isCompared", "()Z"⟩, prog_14_method_50_code, 2, some .boolean, 12, 0, 1906) := (congrArg (fun k => MTL[k]?) (show (218 : Nat) = 24 * 9 + 2 from rfl)).trans ((tl_9 2).trans rfl)
theorem o_218 : ocOf 218 = 12 := ocOf_eq m_218
theorem r_218 : retOf 218 = some .boolean := retOf_eq m_218
theorem x_218 : maxLOf 218 = 2 := maxLOf_eq m_218
theorem p_218 : npOf 218 = 0 := npOf_eq m_218
theorem n_218 : iniOf 218 = false := (iniOf_eq m_218).trans (by decide)
theorem m_219 : MTL[219]? = some (⟨"StampQuarrelsModel", "behindTest", "()I"⟩, prog_14_method_58_code, 2, some .int, 12, 0, 1913) := (congrArg (fun k => MTL[k]?) (show (219 : Nat) = 24 * 9 + 3 from rfl)).trans ((tl_9 3).trans rfl)
theorem o_219 : ocOf 219 = 12 := ocOf_eq m_219
theorem r_219 : retOf 219 = some .int := retOf_eq m_219
theorem x_219 : maxLOf 219 = 2 := maxLOf_eq m_219
theorem p_219 : npOf 219 = 0 := npOf_eq m_219
theorem n_219 : iniOf 219 = false := (iniOf_eq m_219).trans (by decide)
theorem m_220 : MTL[220]? = some (⟨"StampQuarrelsModel", "endText", "()V"⟩, prog_14_method_61_code, 1, none, 12, 0, 1920) := (congrArg (fun k => MTL[k]?) (show (220 : Nat) = 24 * 9 + 4 from rfl)).trans ((tl_9 4).trans rfl)
theorem o_220 : ocOf 220 = 12 := ocOf_eq m_220
theorem r_220 : retOf 220 = none := retOf_eq m_220
theorem x_220 : maxLOf 220 = 1 := maxLOf_eq m_220
theorem p_220 : npOf 220 = 0 := npOf_eq m_220
theorem n_220 : iniOf 220 = false := (iniOf_eq m_220).trans (by decide)
theorem m_221 : MTL[221]? = some (⟨"StampQuarrelsModel", "force", "(I)I"⟩, prog_14_method_65_code, 2, some .int, 12, 1, 1924) := (congrArg (fun k => MTL[k]?) (show (221 : Nat) = 24 * 9 + 5 from rfl)).trans ((tl_9 5).trans rfl)
theorem o_221 : ocOf 221 = 12 := ocOf_eq m_221
theorem r_221 : retOf 221 = some .int := retOf_eq m_221
theorem x_221 : maxLOf 221 = 2 := maxLOf_eq m_221
theorem p_221 : npOf 221 = 1 := npOf_eq m_221
theorem n_221 : iniOf 221 = false := (iniOf_eq m_221).trans (by decide)
theorem m_222 : MTL[222]? = some (⟨"StampQuarrelsModel", "isLaw", "(I)Z"⟩, prog_14_method_64_code, 2, some .boolean, 12, 1, 1928) := (congrArg (fun k => MTL[k]?) (show (222 : Nat) = 24 * 9 + 6 from rfl)).trans ((tl_9 6).trans rfl)
theorem o_222 : ocOf 222 = 12 := ocOf_eq m_222
theorem r_222 : retOf 222 = some .boolean := retOf_eq m_222
theorem x_222 : maxLOf 222 = 2 := maxLOf_eq m_222
theorem p_222 : npOf 222 = 1 := npOf_eq m_222
theorem n_222 : iniOf 222 = false := (iniOf_eq m_222).trans (by decide)
theorem m_223 : MTL[223]? = some (⟨"StampQuarrelsModel", "stick", "(II)I"⟩, prog_14_method_77_code, 3, some .int, 12, 2, 1932) := (congrArg (fun k => MTL[k]?) (show (223 : Nat) = 24 * 9 + 7 from rfl)).trans ((tl_9 7).trans rfl)
theorem o_223 : ocOf 223 = 12 := ocOf_eq m_223
theorem r_223 : retOf 223 = some .int := retOf_eq m_223
theorem x_223 : maxLOf 223 = 3 := maxLOf_eq m_223
theorem p_223 : npOf 223 = 2 := npOf_eq m_223
theorem n_223 : iniOf 223 = false := (iniOf_eq m_223).trans (by decide)
theorem m_224 : MTL[224]? = some (⟨"StampQuarrelsModel", "stickNow", "(II)I"⟩, prog_14_method_76_code, 3, some .int, 12, 2, 1936) := (congrArg (fun k => MTL[k]?) (show (224 : Nat) = 24 * 9 + 8 from rfl)).trans ((tl_9 8).trans rfl)
theorem o_224 : ocOf 224 = 12 := ocOf_eq m_224
theorem r_224 : retOf 224 = some .int := retOf_eq m_224
theorem x_224 : maxLOf 224 = 3 := maxLOf_eq m_224
theorem p_224 : npOf 224 = 2 := npOf_eq m_224
theorem n_224 : iniOf 224 = false := (iniOf_eq m_224).trans (by decide)
theorem m_225 : MTL[225]? = some (⟨"StampQuarrelsModel", "canStick", "(II)Z"⟩, prog_14_method_74_code, 4, some .boolean, 12, 2, 1940) := (congrArg (fun k => MTL[k]?) (show (225 : Nat) = 24 * 9 + 9 from rfl)).trans ((tl_9 9).trans rfl)
theorem o_225 : ocOf 225 = 12 := ocOf_eq m_225
theorem r_225 : retOf 225 = some .boolean := retOf_eq m_225
theorem x_225 : maxLOf 225 = 4 := maxLOf_eq m_225
theorem p_225 : npOf 225 = 2 := npOf_eq m_225
theorem n_225 : iniOf 225 = false := (iniOf_eq m_225).trans (by decide)
theorem m_226 : MTL[226]? = some (⟨"StampQuarrelsModel", "remember", "(I)V"⟩, prog_14_method_12_code, 3, none, 12, 1, 1944) := (congrArg (fun k => MTL[k]?) (show (226 : Nat) = 24 * 9 + 10 from rfl)).trans ((tl_9 10).trans rfl)
theorem o_226 : ocOf 226 = 12 := ocOf_eq m_226
theorem r_226 : retOf 226 = none := retOf_eq m_226
theorem x_226 : maxLOf 226 = 3 := maxLOf_eq m_226
theorem p_226 : npOf 226 = 1 := npOf_eq m_226
theorem n_226 : iniOf 226 = false := (iniOf_eq m_226).trans (by decide)
theorem m_227 : MTL[227]? = some (⟨"StampQuarrelsModel", "keepAll", "(I)V"⟩, prog_14_method_10_code, 3, none, 12, 1, 1948) := (congrArg (fun k => MTL[k]?) (show (227 : Nat) = 24 * 9 + 11 from rfl)).trans ((tl_9 11).trans rfl)
theorem o_227 : ocOf 227 = 12 := ocOf_eq m_227
theorem r_227 : retOf 227 = none := retOf_eq m_227
theorem x_227 : maxLOf 227 = 3 := maxLOf_eq m_227
theorem p_227 : npOf 227 = 1 := npOf_eq m_227
theorem n_227 : iniOf 227 = false := (iniOf_eq m_227).trans (by decide)
theorem m_228 : MTL[228]? = some (⟨"StampQuarrelsModel", "stickIt", "(II)V"⟩, prog_14_method_75_code, 3, none, 12, 2, 1952) := (congrArg (fun k => MTL[k]?) (show (228 : Nat) = 24 * 9 + 12 from rfl)).trans ((tl_9 12).trans rfl)
theorem o_228 : ocOf 228 = 12 := ocOf_eq m_228
theorem r_228 : retOf 228 = none := retOf_eq m_228
theorem x_228 : maxLOf 228 = 3 := maxLOf_eq m_228
theorem p_228 : npOf 228 = 2 := npOf_eq m_228
theorem n_228 : iniOf 228 = false := (iniOf_eq m_228).trans (by decide)
theorem m_229 : MTL[229]? = some (⟨"StampQuarrelsModel", "peel", "(I)I"⟩, prog_14_method_80_code, 2, some .int, 12, 1, 1956) := (congrArg (fun k => MTL[k]?) (show (229 : Nat) = 24 * 9 + 13 from rfl)).trans ((tl_9 13).trans rfl)
theorem o_229 : ocOf 229 = 12 := ocOf_eq m_229
theorem r_229 : retOf 229 = some .int := retOf_eq m_229
theorem x_229 : maxLOf 229 = 2 := maxLOf_eq m_229
theorem p_229 : npOf 229 = 1 := npOf_eq m_229
theorem n_229 : iniOf 229 = false := (iniOf_eq m_229).trans (by decide)
theorem m_230 : MTL[230]? = some (⟨"StampQuarrelsModel", "peelNow", "(I)I"⟩, prog_14_method_79_code, 2, some .int, 12, 1, 1960) := (congrArg (fun k => MTL[k]?) (show (230 : Nat) = 24 * 9 + 14 from rfl)).trans ((tl_9 14).trans rfl)
theorem o_230 : ocOf 230 = 12 := ocOf_eq m_230
theorem r_230 : retOf 230 = some .int := retOf_eq m_230
theorem x_230 : maxLOf 230 = 2 := maxLOf_eq m_230
theorem p_230 : npOf 230 = 1 := npOf_eq m_230
theorem n_230 : iniOf 230 = false := (iniOf_eq m_230).trans (by decide)
theorem m_231 : MTL[231]? = some (⟨"StampQuarrelsModel", "peelIt", "(I)I"⟩, prog_14_method_78_code, 3, some .int, 12, 1, 1964) := (congrArg (fun k => MTL[k]?) (show (231 : Nat) = 24 * 9 + 15 from rfl)).trans ((tl_9 15).trans rfl)
theorem o_231 : ocOf 231 = 12 := ocOf_eq m_231
theorem r_231 : retOf 231 = some .int := retOf_eq m_231
theorem x_231 : maxLOf 231 = 3 := maxLOf_eq m_231
theorem p_231 : npOf 231 = 1 := npOf_eq m_231
theorem n_231 : iniOf 231 = false := (iniOf_eq m_231).trans (by decide)
theorem m_232 : MTL[232]? = some (⟨"StampQuarrelsModel", "cancel", "(I)I"⟩, prog_14_method_84_code, 2, some .int, 12, 1, 1968) := (congrArg (fun k => MTL[k]?) (show (232 : Nat) = 24 * 9 + 16 from rfl)).trans ((tl_9 16).trans rfl)
theorem o_232 : ocOf 232 = 12 := ocOf_eq m_232
theorem r_232 : retOf 232 = some .int := retOf_eq m_232
theorem x_232 : maxLOf 232 = 2 := maxLOf_eq m_232
theorem p_232 : npOf 232 = 1 := npOf_eq m_232
theorem n_232 : iniOf 232 = false := (iniOf_eq m_232).trans (by decide)
theorem m_233 : MTL[233]? = some (⟨"StampQuarrelsModel", "cancelNow", "(I)I"⟩, prog_14_method_83_code, 2, some .int, 12, 1, 1972) := (congrArg (fun k => MTL[k]?) (show (233 : Nat) = 24 * 9 + 17 from rfl)).trans ((tl_9 17).trans rfl)
theorem o_233 : ocOf 233 = 12 := ocOf_eq m_233
theorem r_233 : retOf 233 = some .int := retOf_eq m_233
theorem x_233 : maxLOf 233 = 2 := maxLOf_eq m_233
theorem p_233 : npOf 233 = 1 := npOf_eq m_233
theorem n_233 : iniOf 233 = false := (iniOf_eq m_233).trans (by decide)
theorem m_234 : MTL[234]? = some (⟨"StampQuarrelsModel", "canCancel", "(I)Z"⟩, prog_14_method_81_code, 2, some .boolean, 12, 1, 1976) := (congrArg (fun k => MTL[k]?) (show (234 : Nat) = 24 * 9 + 18 from rfl)).trans ((tl_9 18).trans rfl)
theorem o_234 : ocOf 234 = 12 := ocOf_eq m_234
theorem r_234 : retOf 234 = some .boolean := retOf_eq m_234
theorem x_234 : maxLOf 234 = 2 := maxLOf_eq m_234
theorem p_234 : npOf 234 = 1 := npOf_eq m_234
theorem n_234 : iniOf 234 = false := (iniOf_eq m_234).trans (by decide)
theorem m_235 : MTL[235]? = some (⟨"StampQuarrelsModel", "cancelIt", "(I)I"⟩, prog_14_method_82_code, 4, some .int, 12, 1, 1980) := (congrArg (fun k => MTL[k]?) (show (235 : Nat) = 24 * 9 + 19 from rfl)).trans ((tl_9 19).trans rfl)
theorem o_235 : ocOf 235 = 12 := ocOf_eq m_235
theorem r_235 : retOf 235 = some .int := retOf_eq m_235
theorem x_235 : maxLOf 235 = 4 := maxLOf_eq m_235
theorem p_235 : npOf 235 = 1 := npOf_eq m_235
theorem n_235 : iniOf 235 = false := (iniOf_eq m_235).trans (by decide)
theorem m_236 : MTL[236]? = some (⟨"StampQuarrelsModel", "pass", "()I"⟩, prog_14_method_88_code, 1, some .int, 12, 0, 1984) := (congrArg (fun k => MTL[k]?) (show (236 : Nat) = 24 * 9 + 20 from rfl)).trans ((tl_9 20).trans rfl)
theorem o_236 : ocOf 236 = 12 := ocOf_eq m_236
theorem r_236 : retOf 236 = some .int := retOf_eq m_236
theorem x_236 : maxLOf 236 = 1 := maxLOf_eq m_236
theorem p_236 : npOf 236 = 0 := npOf_eq m_236
theorem n_236 : iniOf 236 = false := (iniOf_eq m_236).trans (by decide)
theorem m_237 : MTL[237]? = some (⟨"StampQuarrelsModel", "passNow", "()I"⟩, prog_14_method_87_code, 1, some .int, 12, 0, 1988) := (congrArg (fun k => MTL[k]?) (show (237 : Nat) = 24 * 9 + 21 from rfl)).trans ((tl_9 21).trans rfl)
theorem o_237 : ocOf 237 = 12 := ocOf_eq m_237
theorem r_237 : retOf 237 = some .int := retOf_eq m_237
theorem x_237 : maxLOf 237 = 1 := maxLOf_eq m_237
theorem p_237 : npOf 237 = 0 := npOf_eq m_237
theorem n_237 : iniOf 237 = false := (iniOf_eq m_237).trans (by decide)
theorem m_238 : MTL[238]? = some (⟨"StampQuarrelsModel", "passIt", "()I"⟩, prog_14_method_86_code, 3, some .int, 12, 0, 1992) := (congrArg (fun k => MTL[k]?) (show (238 : Nat) = 24 * 9 + 22 from rfl)).trans ((tl_9 22).trans rfl)
theorem o_238 : ocOf 238 = 12 := ocOf_eq m_238
theorem r_238 : retOf 238 = some .int := retOf_eq m_238
theorem x_238 : maxLOf 238 = 3 := maxLOf_eq m_238
theorem p_238 : npOf 238 = 0 := npOf_eq m_238
theorem n_238 : iniOf 238 = false := (iniOf_eq m_238).trans (by decide)
theorem m_239 : MTL[239]? = some (⟨"StampQuarrelsModel", "fallFrom", "(I)I"⟩, prog_14_method_85_code, 6, some .int, 12, 1, 1996) := (congrArg (fun k => MTL[k]?) (show (239 : Nat) = 24 * 9 + 23 from rfl)).trans ((tl_9 23).trans rfl)
theorem o_239 : ocOf 239 = 12 := ocOf_eq m_239
theorem r_239 : retOf 239 = some .int := retOf_eq m_239
theorem x_239 : maxLOf 239 = 6 := maxLOf_eq m_239
theorem p_239 : npOf 239 = 1 := npOf_eq m_239
theorem n_239 : iniOf 239 = false := (iniOf_eq m_239).trans (by decide)
theorem m_240 : MTL[240]? = some (⟨"StampQuarrelsModel", "madeUp", "(II)I"⟩, prog_14_method_93_code, 3, some .int, 12, 2, 2000) := (congrArg (fun k => MTL[k]?) (show (240 : Nat) = 24 * 10 + 0 from rfl)).trans ((tl_10 0).trans rfl)
theorem o_240 : ocOf 240 = 12 := ocOf_eq m_240
theorem r_240 : retOf 240 = some .int := retOf_eq m_240
theorem x_240 : maxLOf 240 = 3 := maxLOf_eq m_240
theorem p_240 : npOf 240 = 2 := npOf_eq m_240
theorem n_240 : iniOf 240 = false := (iniOf_eq m_240).trans (by decide)
theorem m_241 : MTL[241]? = some (⟨"StampQuarrelsModel", "layStamps", "()V"⟩, prog_14_method_89_code, 3, none, 12, 0, 2005) := (congrArg (fun k => MTL[k]?) (show (241 : Nat) = 24 * 10 + 1 from rfl)).trans ((tl_10 1).trans rfl)
theorem o_241 : ocOf 241 = 12 := ocOf_eq m_241
theorem r_241 : retOf 241 = none := retOf_eq m_241
theorem x_241 : maxLOf 241 = 3 := maxLOf_eq m_241
theorem p_241 : npOf 241 = 0 := npOf_eq m_241
theorem n_241 : iniOf 241 = false := (iniOf_eq m_241).trans (by decide)
theorem m_242 : MTL[242]? = some (⟨"StampQuarrelsModel", "findRow", "(I)V"⟩, prog_14_method_92_code, 4, none, 12, 1, 2009) := (congrArg (fun k => MTL[k]?) (show (242 : Nat) = 24 * 10 + 2 from rfl)).trans ((tl_10 2).trans rfl)
theorem o_242 : ocOf 242 = 12 := ocOf_eq m_242
theorem r_242 : retOf 242 = none := retOf_eq m_242
theorem x_242 : maxLOf 242 = 4 := maxLOf_eq m_242
theorem p_242 : npOf 242 = 1 := npOf_eq m_242
theorem n_242 : iniOf 242 = false := (iniOf_eq m_242).trans (by decide)
theorem m_243 : MTL[243]? = some (⟨"StampQuarrelsModel", "ready", "()I"⟩, prog_14_method_21_code, 3, some .int, 12, 0, 2013) := (congrArg (fun k => MTL[k]?) (show (243 : Nat) = 24 * 10 + 3 from rfl)).trans ((tl_10 3).trans rfl)
theorem o_243 : ocOf 243 = 12 := ocOf_eq m_243
theorem r_243 : retOf 243 = some .int := retOf_eq m_243
theorem x_243 : maxLOf 243 = 3 := maxLOf_eq m_243
theorem p_243 : npOf 243 = 0 := npOf_eq m_243
theorem n_243 : iniOf 243 = false := (iniOf_eq m_243).trans (by decide)
theorem m_244 : MTL[244]? = some (⟨"StampQuarrelsModel", "inSheet", "()I"⟩, prog_14_method_20_code, 3, some .int, 12, 0, 2017) := (congrArg (fun k => MTL[k]?) (show (244 : Nat) = 24 * 10 + 4 from rfl)).trans ((tl_10 4).trans rfl)
theorem o_244 : ocOf 244 = 12 := ocOf_eq m_244
theorem r_244 : retOf 244 = some .int := retOf_eq m_244
theorem x_244 : maxLOf 244 = 3 := maxLOf_eq m_244
theorem p_244 : npOf 244 = 0 := npOf_eq m_244
theorem n_244 : iniOf 244 = false := (iniOf_eq m_244).trans (by decide)
theorem m_245 : MTL[245]? = some (⟨"StampQuarrelsModel", "takeRow", "(II)V"⟩, prog_14_method_91_code, 6, none, 12, 2, 2022) := (congrArg (fun k => MTL[k]?) (show (245 : Nat) = 24 * 10 + 5 from rfl)).trans ((tl_10 5).trans rfl)
theorem o_245 : ocOf 245 = 12 := ocOf_eq m_245
theorem r_245 : retOf 245 = none := retOf_eq m_245
theorem x_245 : maxLOf 245 = 6 := maxLOf_eq m_245
theorem p_245 : npOf 245 = 2 := npOf_eq m_245
theorem n_245 : iniOf 245 = false := (iniOf_eq m_245).trans (by decide)
theorem m_246 : MTL[246]? = some (⟨"StampQuarrelsModel", "isNext", "(II)Z"⟩, prog_14_method_90_code, 5, some .boolean, 12, 2, 2026) := (congrArg (fun k => MTL[k]?) (show (246 : Nat) = 24 * 10 + 6 from rfl)).trans ((tl_10 6).trans rfl)
theorem o_246 : ocOf 246 = 12 := ocOf_eq m_246
theorem r_246 : retOf 246 = some .boolean := retOf_eq m_246
theorem x_246 : maxLOf 246 = 5 := maxLOf_eq m_246
theorem p_246 : npOf 246 = 2 := npOf_eq m_246
theorem n_246 : iniOf 246 = false := (iniOf_eq m_246).trans (by decide)
theorem m_247 : MTL[247]? = some (⟨"StampQuarrelsModel", "is", "(II)Z"⟩, prog_14_method_4_code, 2, some .boolean, 12, 2, 2029) := (congrArg (fun k => MTL[k]?) (show (247 : Nat) = 24 * 10 + 7 from rfl)).trans ((tl_10 7).trans rfl)
theorem o_247 : ocOf 247 = 12 := ocOf_eq m_247
theorem r_247 : retOf 247 = some .boolean := retOf_eq m_247
theorem x_247 : maxLOf 247 = 2 := maxLOf_eq m_247
theorem p_247 : npOf 247 = 2 := npOf_eq m_247
theorem n_247 : iniOf 247 = false := (iniOf_eq m_247).trans (by decide)
theorem m_248 : MTL[248]? = some (⟨"StampQuarrelsModel", "buffers", "(II)I"⟩, prog_14_method_96_code, 6, some .int, 12, 2, 2033) := (congrArg (fun k => MTL[k]?) (show (248 : Nat) = 24 * 10 + 8 from rfl)).trans ((tl_10 8).trans rfl)
theorem o_248 : ocOf 248 = 12 := ocOf_eq m_248
theorem r_248 : retOf 248 = some .int := retOf_eq m_248
theorem x_248 : maxLOf 248 = 6 := maxLOf_eq m_248
theorem p_248 : npOf 248 = 2 := npOf_eq m_248
theorem n_248 : iniOf 248 = false := (iniOf_eq m_248).trans (by decide)
theorem m_249 : MTL[249]? = some (⟨"StampQuarrelsModel", "isBuffer", "(III)Z"⟩, prog_14_method_95_code, 6, some .boolean, 12, 3, 2037) := (congrArg (fun k => MTL[k]?) (show (249 : Nat) = 24 * 10 + 9 from rfl)).trans ((tl_10 9).trans rfl)
theorem o_249 : ocOf 249 = 12 := ocOf_eq m_249
theorem r_249 : retOf 249 = some .boolean := retOf_eq m_249
theorem x_249 : maxLOf 249 = 6 := maxLOf_eq m_249
theorem p_249 : npOf 249 = 3 := npOf_eq m_249
theorem n_249 : iniOf 249 = false := (iniOf_eq m_249).trans (by decide)
theorem m_250 : MTL[250]? = some (⟨"StampQuarrelsModel", "parts", "(III)Z"⟩, prog_14_method_94_code, 6, some .boolean, 12, 3, 2041) := (congrArg (fun k => MTL[k]?) (show (250 : Nat) = 24 * 10 + 10 from rfl)).trans ((tl_10 10).trans rfl)
theorem o_250 : ocOf 250 = 12 := ocOf_eq m_250
theorem r_250 : retOf 250 = some .boolean := retOf_eq m_250
theorem x_250 : maxLOf 250 = 6 := maxLOf_eq m_250
theorem p_250 : npOf 250 = 3 := npOf_eq m_250
theorem n_250 : iniOf 250 = false := (iniOf_eq m_250).trans (by decide)
theorem m_251 : MTL[251]? = some (⟨"StampQuarrelsModel", "exchanged", "(II)I"⟩, prog_14_method_97_code, 10, some .int, 12, 2, 2045) := (congrArg (fun k => MTL[k]?) (show (251 : Nat) = 24 * 10 + 11 from rfl)).trans ((tl_10 11).trans rfl)
theorem o_251 : ocOf 251 = 12 := ocOf_eq m_251
theorem r_251 : retOf 251 = some .int := retOf_eq m_251
theorem x_251 : maxLOf 251 = 10 := maxLOf_eq m_251
theorem p_251 : npOf 251 = 2 := npOf_eq m_251
theorem n_251 : iniOf 251 = false := (iniOf_eq m_251).trans (by decide)
theorem m_252 : MTL[252]? = some (⟨"StampQuarrelsModel", "pockets", "(I)I"⟩, prog_14_method_101_code, 4, some .int, 12, 1, 2049) := (congrArg (fun k => MTL[k]?) (show (252 : Nat) = 24 * 10 + 12 from rfl)).trans ((tl_10 12).trans rfl)
theorem o_252 : ocOf 252 = 12 := ocOf_eq m_252
theorem r_252 : retOf 252 = some .int := retOf_eq m_252
theorem x_252 : maxLOf 252 = 4 := maxLOf_eq m_252
theorem p_252 : npOf 252 = 1 := npOf_eq m_252
theorem n_252 : iniOf 252 = false := (iniOf_eq m_252).trans (by decide)
theorem m_253 : MTL[253]? = some (⟨"StampQuarrelsModel", "findPockets", "(II)Z"⟩, prog_14_method_100_code, 6, some .boolean, 12, 2, 2053) := (congrArg (fun k => MTL[k]?) (show (253 : Nat) = 24 * 10 + 13 from rfl)).trans ((tl_10 13).trans rfl)
theorem o_253 : ocOf 253 = 12 := ocOf_eq m_253
theorem r_253 : retOf 253 = some .boolean := retOf_eq m_253
theorem x_253 : maxLOf 253 = 6 := maxLOf_eq m_253
theorem p_253 : npOf 253 = 2 := npOf_eq m_253
theorem n_253 : iniOf 253 = false := (iniOf_eq m_253).trans (by decide)
theorem m_254 : MTL[254]? = some (⟨"StampQuarrelsModel", "nextPocket", "(II)I"⟩, prog_14_method_99_code, 5, some .int, 12, 2, 2057) := (congrArg (fun k => MTL[k]?) (show (254 : Nat) = 24 * 10 + 14 from rfl)).trans ((tl_10 14).trans rfl)
theorem o_254 : ocOf 254 = 12 := ocOf_eq m_254
theorem r_254 : retOf 254 = some .int := retOf_eq m_254
theorem x_254 : maxLOf 254 = 5 := maxLOf_eq m_254
theorem p_254 : npOf 254 = 2 := npOf_eq m_254
theorem n_254 : iniOf 254 = false := (iniOf_eq m_254).trans (by decide)
theorem m_255 : MTL[255]? = some (⟨"StampQuarrelsModel", "fitsPocket", "(II)Z"⟩, prog_14_method_98_code, 5, some .boolean, 12, 2, 2061) := (congrArg (fun k => MTL[k]?) (show (255 : Nat) = 24 * 10 + 15 from rfl)).trans ((tl_10 15).trans rfl)
theorem o_255 : ocOf 255 = 12 := ocOf_eq m_255
theorem r_255 : retOf 255 = some .boolean := retOf_eq m_255
theorem x_255 : maxLOf 255 = 5 := maxLOf_eq m_255
theorem p_255 : npOf 255 = 2 := npOf_eq m_255
theorem n_255 : iniOf 255 = false := (iniOf_eq m_255).trans (by decide)
theorem m_256 : MTL[256]? = some (⟨"StampQuarrelsModel", "hear", "(II)I"⟩, prog_14_method_102_code, 4, some .int, 12, 2, 2065) := (congrArg (fun k => MTL[k]?) (show (256 : Nat) = 24 * 10 + 16 from rfl)).trans ((tl_10 16).trans rfl)
theorem o_256 : ocOf 256 = 12 := ocOf_eq m_256
theorem r_256 : retOf 256 = some .int := retOf_eq m_256
theorem x_256 : maxLOf 256 = 4 := maxLOf_eq m_256
theorem p_256 : npOf 256 = 2 := npOf_eq m_256
theorem n_256 : iniOf 256 = false := (iniOf_eq m_256).trans (by decide)
theorem m_257 : MTL[257]? = some (⟨"StampQuarrelsModel", "forget", "()I"⟩, prog_14_method_103_code, 2, some .int, 12, 0, 2069) := (congrArg (fun k => MTL[k]?) (show (257 : Nat) = 24 * 10 + 17 from rfl)).trans ((tl_10 17).trans rfl)
theorem o_257 : ocOf 257 = 12 := ocOf_eq m_257
theorem r_257 : retOf 257 = some .int := retOf_eq m_257
theorem x_257 : maxLOf 257 = 2 := maxLOf_eq m_257
theorem p_257 : npOf 257 = 0 := npOf_eq m_257
theorem n_257 : iniOf 257 = false := (iniOf_eq m_257).trans (by decide)
theorem m_258 : MTL[258]? = some (⟨"StampQuarrelsModel", "canBe", "()I"⟩, prog_14_method_105_code, 1, some .int, 12, 0, 2073) := (congrArg (fun k => MTL[k]?) (show (258 : Nat) = 24 * 10 + 18 from rfl)).trans ((tl_10 18).trans rfl)
theorem o_258 : ocOf 258 = 12 := ocOf_eq m_258
theorem r_258 : retOf 258 = some .int := retOf_eq m_258
theorem x_258 : maxLOf 258 = 1 := maxLOf_eq m_258
theorem p_258 : npOf 258 = 0 := npOf_eq m_258
theorem n_258 : iniOf 258 = false := (iniOf_eq m_258).trans (by decide)
theorem m_259 : MTL[259]? = some (⟨"StampQuarrelsModel", "thatCanBe", "()I"⟩, prog_14_method_104_code, 6, some .int, 12, 0, 2077) := (congrArg (fun k => MTL[k]?) (show (259 : Nat) = 24 * 10 + 19 from rfl)).trans ((tl_10 19).trans rfl)
theorem o_259 : ocOf 259 = 12 := ocOf_eq m_259
theorem r_259 : retOf 259 = some .int := retOf_eq m_259
theorem x_259 : maxLOf 259 = 6 := maxLOf_eq m_259
theorem p_259 : npOf 259 = 0 := npOf_eq m_259
theorem n_259 : iniOf 259 = false := (iniOf_eq m_259).trans (by decide)
theorem m_260 : MTL[260]? = some (⟨"StampQuarrelsModel", "beside", "(I)I"⟩, prog_14_method_106_code, 9, some .int, 12, 1, 2081) := (congrArg (fun k => MTL[k]?) (show (260 : Nat) = 24 * 10 + 20 from rfl)).trans ((tl_10 20).trans rfl)
theorem o_260 : ocOf 260 = 12 := ocOf_eq m_260
theorem r_260 : retOf 260 = some .int := retOf_eq m_260
theorem x_260 : maxLOf 260 = 9 := maxLOf_eq m_260
theorem p_260 : npOf 260 = 1 := npOf_eq m_260
theorem n_260 : iniOf 260 = false := (iniOf_eq m_260).trans (by decide)
theorem m_261 : MTL[261]? = some (⟨"StampQuarrelsModel", "sorts", "(II)I"⟩, prog_14_method_109_code, 6, some .int, 12, 2, 2085) := (congrArg (fun k => MTL[k]?) (show (261 : Nat) = 24 * 10 + 21 from rfl)).trans ((tl_10 21).trans rfl)
theorem o_261 : ocOf 261 = 12 := ocOf_eq m_261
theorem r_261 : retOf 261 = some .int := retOf_eq m_261
theorem x_261 : maxLOf 261 = 6 := maxLOf_eq m_261
theorem p_261 : npOf 261 = 2 := npOf_eq m_261
theorem n_261 : iniOf 261 = false := (iniOf_eq m_261).trans (by decide)
theorem m_262 : MTL[262]? = some (⟨"StampQuarrelsModel", "ones", "(I)I"⟩, prog_14_method_5_code, 3, some .int, 12, 1, 2089) := (congrArg (fun k => MTL[k]?) (show (262 : Nat) = 24 * 10 + 22 from rfl)).trans ((tl_10 22).trans rfl)
theorem o_262 : ocOf 262 = 12 := ocOf_eq m_262
theorem r_262 : retOf 262 = some .int := retOf_eq m_262
theorem x_262 : maxLOf 262 = 3 := maxLOf_eq m_262
theorem p_262 : npOf 262 = 1 := npOf_eq m_262
theorem n_262 : iniOf 262 = false := (iniOf_eq m_262).trans (by decide)
theorem m_263 : MTL[263]? = some (⟨"StampQuarrelsModel", "layFees", "(II)V"⟩, prog_14_method_107_code, 5, none, 12, 2, 2093) := (congrArg (fun k => MTL[k]?) (show (263 : Nat) = 24 * 10 + 23 from rfl)).trans ((tl_10 23).trans rfl)
theorem o_263 : ocOf 263 = 12 := ocOf_eq m_263
theorem r_263 : retOf 263 = none := retOf_eq m_263
theorem x_263 : maxLOf 263 = 5 := maxLOf_eq m_263
theorem p_263 : npOf 263 = 2 := npOf_eq m_263
theorem n_263 : iniOf 263 = false := (iniOf_eq m_263).trans (by decide)
theorem m_264 : MTL[264]? = some (⟨"StampQuarrelsModel", "makesAll", "(I)Z"⟩, prog_14_method_108_code, 4, some .boolean, 12, 1, 2097) := (congrArg (fun k => MTL[k]?) (show (264 : Nat) = 24 * 11 + 0 from rfl)).trans ((tl_11 0).trans rfl)
theorem o_264 : ocOf 264 = 12 := ocOf_eq m_264
theorem r_264 : retOf 264 = some .boolean := retOf_eq m_264
theorem x_264 : maxLOf 264 = 4 := maxLOf_eq m_264
theorem p_264 : npOf 264 = 1 := npOf_eq m_264
theorem n_264 : iniOf 264 = false := (iniOf_eq m_264).trans (by decide)
theorem m_265 : MTL[265]? = some (⟨"StampQuarrelsModel", "fewest", "(II)I"⟩, prog_14_method_110_code, 3, some .int, 12, 2, 2101) := (congrArg (fun k => MTL[k]?) (show (265 : Nat) = 24 * 11 + 1 from rfl)).trans ((tl_11 1).trans rfl)
theorem o_265 : ocOf 265 = 12 := ocOf_eq m_265
theorem r_265 : retOf 265 = some .int := retOf_eq m_265
theorem x_265 : maxLOf 265 = 3 := maxLOf_eq m_265
theorem p_265 : npOf 265 = 2 := npOf_eq m_265
theorem n_265 : iniOf 265 = false := (iniOf_eq m_265).trans (by decide)
theorem m_266 : MTL[266]? = some (⟨"StampQuarrelsModel", "holds", "(I)J"⟩, prog_14_method_111_code, 5, some .long, 12, 1, 2106) := (congrArg (fun k => MTL[k]?) (show (266 : Nat) = 24 * 11 + 2 from rfl)).trans ((tl_11 2).trans rfl)
theorem o_266 : ocOf 266 = 12 := ocOf_eq m_266
theorem r_266 : retOf 266 = some .long := retOf_eq m_266
theorem x_266 : maxLOf 266 = 5 := maxLOf_eq m_266
theorem p_266 : npOf 266 = 1 := npOf_eq m_266
theorem n_266 : iniOf 266 = false := (iniOf_eq m_266).trans (by decide)
theorem m_267 : MTL[267]? = some (⟨"StampQuarrelsModel", "kin", "(I)I"⟩, prog_14_method_112_code, 4, some .int, 12, 1, 2111) := (congrArg (fun k => MTL[k]?) (show (267 : Nat) = 24 * 11 + 3 from rfl)).trans ((tl_11 3).trans rfl)
theorem o_267 : ocOf 267 = 12 := ocOf_eq m_267
theorem r_267 : retOf 267 = some .int := retOf_eq m_267
theorem x_267 : maxLOf 267 = 4 := maxLOf_eq m_267
theorem p_267 : npOf 267 = 1 := npOf_eq m_267
theorem n_267 : iniOf 267 = false := (iniOf_eq m_267).trans (by decide)
theorem m_268 : MTL[268]? = some (⟨"StampQuarrelsModel", "compare", "(I)I"⟩, prog_14_method_113_code, 5, some .int, 12, 1, 2115) := (congrArg (fun k => MTL[k]?) (show (268 : Nat) = 24 * 11 + 4 from rfl)).trans ((tl_11 4).trans rfl)
theorem o_268 : ocOf 268 = 12 := ocOf_eq m_268
theorem r_268 : retOf 268 = some .int := retOf_eq m_268
theorem x_268 : maxLOf 268 = 5 := maxLOf_eq m_268
theorem p_268 : npOf 268 = 1 := npOf_eq m_268
theorem n_268 : iniOf 268 = false := (iniOf_eq m_268).trans (by decide)
theorem m_269 : MTL[269]? = some (⟨"StampQuarrelsModel", "orders", "()I"⟩, prog_14_method_119_code, 4, some .int, 12, 0, 2119) := (congrArg (fun k => MTL[k]?) (show (269 : Nat) = 24 * 11 + 5 from rfl)).trans ((tl_11 5).trans rfl)
theorem o_269 : ocOf 269 = 12 := ocOf_eq m_269
theorem r_269 : retOf 269 = some .int := retOf_eq m_269
theorem x_269 : maxLOf 269 = 4 := maxLOf_eq m_269
theorem p_269 : npOf 269 = 0 := npOf_eq m_269
theorem n_269 : iniOf 269 = false := (iniOf_eq m_269).trans (by decide)
theorem m_270 : MTL[270]? = some (⟨"StampQuarrelsModel", "readOrder", "()V"⟩, prog_14_method_115_code, 4, none, 12, 0, 2123) := (congrArg (fun k => MTL[k]?) (show (270 : Nat) = 24 * 11 + 6 from rfl)).trans ((tl_11 6).trans rfl)
theorem o_270 : ocOf 270 = 12 := ocOf_eq m_270
theorem r_270 : retOf 270 = none := retOf_eq m_270
theorem x_270 : maxLOf 270 = 4 := maxLOf_eq m_270
theorem p_270 : npOf 270 = 0 := npOf_eq m_270
theorem n_270 : iniOf 270 = false := (iniOf_eq m_270).trans (by decide)
theorem m_271 : MTL[271]? = some (⟨"StampQuarrelsModel", "readSum", "(I)V"⟩, prog_14_method_114_code, 2, none, 12, 1, 2127) := (congrArg (fun k => MTL[k]?) (show (271 : Nat) = 24 * 11 + 7 from rfl)).trans ((tl_11 7).trans rfl)
theorem o_271 : ocOf 271 = 12 := ocOf_eq m_271
theorem r_271 : retOf 271 = none := retOf_eq m_271
theorem x_271 : maxLOf 271 = 2 := maxLOf_eq m_271
theorem p_271 : npOf 271 = 1 := npOf_eq m_271
theorem n_271 : iniOf 271 = false := (iniOf_eq m_271).trans (by decide)
theorem m_272 : MTL[272]? = some (⟨"StampQuarrelsModel", "run", "(I)I"⟩, prog_14_method_118_code, 5, some .int, 12, 1, 2133) := (congrArg (fun k => MTL[k]?) (show (272 : Nat) = 24 * 11 + 8 from rfl)).trans ((tl_11 8).trans rfl)
theorem o_272 : ocOf 272 = 12 := ocOf_eq m_272
theorem r_272 : retOf 272 = some .int := retOf_eq m_272
theorem x_272 : maxLOf 272 = 5 := maxLOf_eq m_272
theorem p_272 : npOf 272 = 1 := npOf_eq m_272
theorem n_272 : iniOf 272 = false := (iniOf_eq m_272).trans (by decide)
theorem m_273 : MTL[273]? = some (⟨"StampQuarrelsModel", "sumOf", "(I)I"⟩, prog_14_method_116_code, 2, some .int, 12, 1, 2137) := (congrArg (fun k => MTL[k]?) (show (273 : Nat) = 24 * 11 + 9 from rfl)).trans ((tl_11 9).trans rfl)
theorem o_273 : ocOf 273 = 12 := ocOf_eq m_273
theorem r_273 : retOf 273 = some .int := retOf_eq m_273
theorem x_273 : maxLOf 273 = 2 := maxLOf_eq m_273
theorem p_273 : npOf 273 = 1 := npOf_eq m_273
theorem n_273 : iniOf 273 = false := (iniOf_eq m_273).trans (by decide)
theorem m_274 : MTL[274]? = some (⟨"StampQuarrelsModel", "act", "(III)I"⟩, prog_14_method_117_code, 4, some .int, 12, 3, 2141) := (congrArg (fun k => MTL[k]?) (show (274 : Nat) = 24 * 11 + 10 from rfl)).trans ((tl_11 10).trans rfl)
theorem o_274 : ocOf 274 = 12 := ocOf_eq m_274
theorem r_274 : retOf 274 = some .int := retOf_eq m_274
theorem x_274 : maxLOf 274 = 4 := maxLOf_eq m_274
theorem p_274 : npOf 274 = 3 := npOf_eq m_274
theorem n_274 : iniOf 274 = false := (iniOf_eq m_274).trans (by decide)
theorem m_275 : MTL[275]? = some (⟨"StampQuarrelsModel", "giveBack", "(I)V"⟩, prog_14_method_120_code, 3, none, 12, 1, 2145) := (congrArg (fun k => MTL[k]?) (show (275 : Nat) = 24 * 11 + 11 from rfl)).trans ((tl_11 11).trans rfl)
theorem o_275 : ocOf 275 = 12 := ocOf_eq m_275
theorem r_275 : retOf 275 = none := retOf_eq m_275
theorem x_275 : maxLOf 275 = 3 := maxLOf_eq m_275
theorem p_275 : npOf 275 = 1 := npOf_eq m_275
theorem n_275 : iniOf 275 = false := (iniOf_eq m_275).trans (by decide)
theorem m_276 : MTL[276]? = some (⟨"StampQuarrelsModel", "stopped", "()I"⟩, prog_14_method_121_code, 1, some .int, 12, 0, 2149) := (congrArg (fun k => MTL[k]?) (show (276 : Nat) = 24 * 11 + 12 from rfl)).trans ((tl_11 12).trans rfl)
theorem o_276 : ocOf 276 = 12 := ocOf_eq m_276
theorem r_276 : retOf 276 = some .int := retOf_eq m_276
theorem x_276 : maxLOf 276 = 1 := maxLOf_eq m_276
theorem p_276 : npOf 276 = 0 := npOf_eq m_276
theorem n_276 : iniOf 276 = false := (iniOf_eq m_276).trans (by decide)
theorem m_277 : MTL[277]? = some (⟨"StampQuarrelsModel", "reigns", "(II)I"⟩, prog_14_method_123_code, 8, some .int, 12, 2, 2153) := (congrArg (fun k => MTL[k]?) (show (277 : Nat) = 24 * 11 + 13 from rfl)).trans ((tl_11 13).trans rfl)
theorem o_277 : ocOf 277 = 12 := ocOf_eq m_277
theorem r_277 : retOf 277 = some .int := retOf_eq m_277
theorem x_277 : maxLOf 277 = 8 := maxLOf_eq m_277
theorem p_277 : npOf 277 = 2 := npOf_eq m_277
theorem n_277 : iniOf 277 = false := (iniOf_eq m_277).trans (by decide)
theorem m_278 : MTL[278]? = some (⟨"StampQuarrelsModel", "draw", "(I)I"⟩, prog_14_method_122_code, 2, some .int, 12, 1, 2157) := (congrArg (fun k => MTL[k]?) (show (278 : Nat) = 24 * 11 + 14 from rfl)).trans ((tl_11 14).trans rfl)
theorem o_278 : ocOf 278 = 12 := ocOf_eq m_278
theorem r_278 : retOf 278 = some .int := retOf_eq m_278
theorem x_278 : maxLOf 278 = 2 := maxLOf_eq m_278
theorem p_278 : npOf 278 = 1 := npOf_eq m_278
theorem n_278 : iniOf 278 = false := (iniOf_eq m_278).trans (by decide)
theorem m_279 : MTL[279]? = some (⟨"StampQuarrelsModel", "drawn", "(II)I"⟩, prog_14_method_124_code, 4, some .int, 12, 2, 2164) := (congrArg (fun k => MTL[k]?) (show (279 : Nat) = 24 * 11 + 15 from rfl)).trans ((tl_11 15).trans rfl)
theorem o_279 : ocOf 279 = 12 := ocOf_eq m_279
theorem r_279 : retOf 279 = some .int := retOf_eq m_279
theorem x_279 : maxLOf 279 = 4 := maxLOf_eq m_279
theorem p_279 : npOf 279 = 2 := npOf_eq m_279
theorem n_279 : iniOf 279 = false := (iniOf_eq m_279).trans (by decide)
theorem m_280 : MTL[280]? = some (⟨"StampQuarrelsModel", "count", "(I)I"⟩, prog_14_method_125_code, 2, some .int, 12, 1, 2168) := (congrArg (fun k => MTL[k]?) (show (280 : Nat) = 24 * 11 + 16 from rfl)).trans ((tl_11 16).trans rfl)
theorem o_280 : ocOf 280 = 12 := ocOf_eq m_280
theorem r_280 : retOf 280 = some .int := retOf_eq m_280
theorem x_280 : maxLOf 280 = 2 := maxLOf_eq m_280
theorem p_280 : npOf 280 = 1 := npOf_eq m_280
theorem n_280 : iniOf 280 = false := (iniOf_eq m_280).trans (by decide)
theorem m_281 : MTL[281]? = some (⟨"StampQuarrelsModel", "status", "()I"⟩, prog_14_method_126_code, 1, some .int, 12, 0, 2174) := (congrArg (fun k => MTL[k]?) (show (281 : Nat) = 24 * 11 + 17 from rfl)).trans ((tl_11 17).trans rfl)
theorem o_281 : ocOf 281 = 12 := ocOf_eq m_281
theorem r_281 : retOf 281 = some .int := retOf_eq m_281
theorem x_281 : maxLOf 281 = 1 := maxLOf_eq m_281
theorem p_281 : npOf 281 = 0 := npOf_eq m_281
theorem n_281 : iniOf 281 = false := (iniOf_eq m_281).trans (by decide)
theorem m_282 : MTL[282]? = some (⟨"StampQuarrelsLaw", "law", "([I)Z"⟩, code, 4, some .boolean, 13, 1, 0) := (congrArg (fun k => MTL[k]?) (show (282 : Nat) = 24 * 11 + 18 from rfl)).trans ((tl_11 18).trans rfl)
theorem o_282 : ocOf 282 = 13 := ocOf_eq m_282
theorem r_282 : retOf 282 = some .boolean := retOf_eq m_282
theorem x_282 : maxLOf 282 = 4 := maxLOf_eq m_282
theorem p_282 : npOf 282 = 1 := npOf_eq m_282
theorem n_282 : iniOf 282 = false := (iniOf_eq m_282).trans (by decide)
