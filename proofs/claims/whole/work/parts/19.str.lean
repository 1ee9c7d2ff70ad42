/-! ===== texts: length() and charAt() of the JDK on the class's own text constants (printed by wip/gen/str.py) ===== -/
def lenS : List Nat := [5, 4, 6, 4, 1, 1, 3, 4, 6, 4, 4, 7, 4, 6, 3, 5, 4, 5, 4, 4, 1, 1, 1, 1, 1, 2, 5, 8, 5, 6, 4, 2, 3, 1, 1, 1, 1, 1, 3, 2, 1]
def bytS : List (List Int32) := [[115, 116, 105, 99, 107], [112, 101, 101, 108], [99, 97, 110, 99, 101, 108], [112, 97, 115, 115], [91], [93], [100, 97, 121], [100, 111, 110, 101], [108, 97, 116, 101, 115, 116], [102, 114, 101, 101], [112, 97, 105, 100], [113, 117, 97, 114, 114, 101, 108], [115, 112, 111, 116], [116, 101, 109, 112, 101, 114], [105, 114, 101], [114, 101, 97, 108, 109], [108, 97, 110, 100], [119, 111, 114, 116, 104], [103, 108, 117, 101], [109, 111, 111, 100], [42], [47], [37], [43], [45], [111, 110], [116, 105, 109, 101, 115], [113, 117, 97, 114, 114, 101, 108, 115], [100, 114, 105, 101, 115], [99, 111, 117, 110, 116, 115], [98, 97, 114, 115], [105, 102], [110, 111, 116], [40], [41], [60], [62], [61], [97, 110, 100], [111, 114], [59]]
def strS : List (Nat × String) := [(128, "stick"), (130, "peel"), (132, "cancel"), (134, "pass"), (192, "["), (194, "]"), (216, "day"), (222, "done"), (224, "latest"), (226, "free"), (228, "paid"), (230, "quarrel"), (232, "spot"), (202, "temper"), (206, "ire"), (208, "realm"), (210, "land"), (212, "worth"), (214, "glue"), (218, "mood"), (186, "*"), (188, "/"), (190, "%"), (179, "+"), (181, "-"), (122, "on"), (124, "times"), (108, "quarrels"), (113, "dries"), (115, "counts"), (117, "bars"), (143, "if"), (161, "not"), (163, "("), (165, ")"), (170, "<"), (172, ">"), (174, "="), (159, "and"), (151, "or"), (91, ";")]
def JLen : ME := (⟨"java/lang/String", "length", "()I"⟩, prog_17_method_54_code, 1, some .int, 0, 0, 0)
set_option maxRecDepth 100000 in
theorem JLen_c : Cond.code JLen.1 JLen.2.1 JLen.2.2.1 JLen.2.2.2.1 ∈ lw_g := gi (List.mem_of_getElem? (i := 900) rfl)
theorem dJLen_0 : decode prog_17_method_54_code 0 = .ok (.aload_n 0, 1) := by decide +kernel
theorem dJLen_1 : decode prog_17_method_54_code 1 = .ok (.getfield 9, 3) := by decide +kernel
theorem dJLen_4 : decode prog_17_method_54_code 4 = .ok (.arraylength, 1) := by decide +kernel
theorem dJLen_5 : decode prog_17_method_54_code 5 = .ok (.aload_n 0, 1) := by decide +kernel
theorem dJLen_6 : decode prog_17_method_54_code 6 = .ok (.invokevirtual 335, 3) := by decide +kernel
theorem dJLen_9 : decode prog_17_method_54_code 9 = .ok (.ishr, 1) := by decide +kernel
theorem dJLen_10 : decode prog_17_method_54_code 10 = .ok (.ireturn, 1) := by decide +kernel
def JCod : ME := (⟨"java/lang/String", "coder", "()B"⟩, prog_17_method_152_code, 1, some .byte, 0, 0, 0)
set_option maxRecDepth 100000 in
theorem JCod_c : Cond.code JCod.1 JCod.2.1 JCod.2.2.1 JCod.2.2.2.1 ∈ lw_g := gi (List.mem_of_getElem? (i := 904) rfl)
theorem dJCod_0 : decode prog_17_method_152_code 0 = .ok (.getstatic 38, 3) := by decide +kernel
theorem dJCod_3 : decode prog_17_method_152_code 3 = .ok (.ifCond .eq 10, 3) := by decide +kernel
theorem dJCod_6 : decode prog_17_method_152_code 6 = .ok (.aload_n 0, 1) := by decide +kernel
theorem dJCod_7 : decode prog_17_method_152_code 7 = .ok (.getfield 15, 3) := by decide +kernel
theorem dJCod_10 : decode prog_17_method_152_code 10 = .ok (.goto 4, 3) := by decide +kernel
theorem dJCod_13 : decode prog_17_method_152_code 13 = .ok (.iconst 1, 1) := by decide +kernel
theorem dJCod_14 : decode prog_17_method_152_code 14 = .ok (.ireturn, 1) := by decide +kernel
def JLat : ME := (⟨"java/lang/String", "isLatin1", "()Z"⟩, prog_17_method_154_code, 1, some .boolean, 0, 0, 0)
set_option maxRecDepth 100000 in
theorem JLat_c : Cond.code JLat.1 JLat.2.1 JLat.2.2.1 JLat.2.2.2.1 ∈ lw_g := gi (List.mem_of_getElem? (i := 914) rfl)
theorem dJLat_0 : decode prog_17_method_154_code 0 = .ok (.getstatic 38, 3) := by decide +kernel
theorem dJLat_3 : decode prog_17_method_154_code 3 = .ok (.ifCond .eq 14, 3) := by decide +kernel
theorem dJLat_6 : decode prog_17_method_154_code 6 = .ok (.aload_n 0, 1) := by decide +kernel
theorem dJLat_7 : decode prog_17_method_154_code 7 = .ok (.getfield 15, 3) := by decide +kernel
theorem dJLat_10 : decode prog_17_method_154_code 10 = .ok (.ifCond .ne 7, 3) := by decide +kernel
theorem dJLat_13 : decode prog_17_method_154_code 13 = .ok (.iconst 1, 1) := by decide +kernel
theorem dJLat_14 : decode prog_17_method_154_code 14 = .ok (.goto 4, 3) := by decide +kernel
theorem dJLat_17 : decode prog_17_method_154_code 17 = .ok (.iconst 0, 1) := by decide +kernel
theorem dJLat_18 : decode prog_17_method_154_code 18 = .ok (.ireturn, 1) := by decide +kernel
def JChr : ME := (⟨"java/lang/String", "charAt", "(I)C"⟩, prog_17_method_56_code, 2, some .char, 0, 1, 0)
set_option maxRecDepth 100000 in
theorem JChr_c : Cond.code JChr.1 JChr.2.1 JChr.2.2.1 JChr.2.2.2.1 ∈ lw_g := gi (List.mem_of_getElem? (i := 910) rfl)
theorem dJChr_0 : decode prog_17_method_56_code 0 = .ok (.aload_n 0, 1) := by decide +kernel
theorem dJChr_1 : decode prog_17_method_56_code 1 = .ok (.invokevirtual 492, 3) := by decide +kernel
theorem dJChr_4 : decode prog_17_method_56_code 4 = .ok (.ifCond .eq 12, 3) := by decide +kernel
theorem dJChr_7 : decode prog_17_method_56_code 7 = .ok (.aload_n 0, 1) := by decide +kernel
theorem dJChr_8 : decode prog_17_method_56_code 8 = .ok (.getfield 9, 3) := by decide +kernel
theorem dJChr_11 : decode prog_17_method_56_code 11 = .ok (.iload_n 1, 1) := by decide +kernel
theorem dJChr_12 : decode prog_17_method_56_code 12 = .ok (.invokestatic 495, 3) := by decide +kernel
theorem dJChr_15 : decode prog_17_method_56_code 15 = .ok (.ireturn, 1) := by decide +kernel
theorem dJChr_16 : decode prog_17_method_56_code 16 = .ok (.aload_n 0, 1) := by decide +kernel
theorem dJChr_17 : decode prog_17_method_56_code 17 = .ok (.getfield 9, 3) := by decide +kernel
theorem dJChr_20 : decode prog_17_method_56_code 20 = .ok (.iload_n 1, 1) := by decide +kernel
theorem dJChr_21 : decode prog_17_method_56_code 21 = .ok (.invokestatic 498, 3) := by decide +kernel
theorem dJChr_24 : decode prog_17_method_56_code 24 = .ok (.ireturn, 1) := by decide +kernel
def JLch : ME := (⟨"java/lang/StringLatin1", "charAt", "([BI)C"⟩, prog_18_method_2_code, 2, some .char, 0, 2, 0)
set_option maxRecDepth 100000 in
theorem JLch_c : Cond.code JLch.1 JLch.2.1 JLch.2.2.1 JLch.2.2.2.1 ∈ lw_g := gi (List.mem_of_getElem? (i := 917) rfl)
theorem dJLch_0 : decode prog_18_method_2_code 0 = .ok (.iload_n 1, 1) := by decide +kernel
theorem dJLch_1 : decode prog_18_method_2_code 1 = .ok (.aload_n 0, 1) := by decide +kernel
theorem dJLch_2 : decode prog_18_method_2_code 2 = .ok (.arraylength, 1) := by decide +kernel
theorem dJLch_3 : decode prog_18_method_2_code 3 = .ok (.invokestatic 9, 3) := by decide +kernel
theorem dJLch_6 : decode prog_18_method_2_code 6 = .ok (.aload_n 0, 1) := by decide +kernel
theorem dJLch_7 : decode prog_18_method_2_code 7 = .ok (.iload_n 1, 1) := by decide +kernel
theorem dJLch_8 : decode prog_18_method_2_code 8 = .ok (.baload, 1) := by decide +kernel
theorem dJLch_9 : decode prog_18_method_2_code 9 = .ok (.sipush 255, 3) := by decide +kernel
theorem dJLch_12 : decode prog_18_method_2_code 12 = .ok (.iand, 1) := by decide +kernel
theorem dJLch_13 : decode prog_18_method_2_code 13 = .ok (.i2c, 1) := by decide +kernel
theorem dJLch_14 : decode prog_18_method_2_code 14 = .ok (.ireturn, 1) := by decide +kernel
def JChk : ME := (⟨"java/lang/String", "checkIndex", "(II)V"⟩, prog_17_method_155_code, 2, none, 0, 2, 0)
set_option maxRecDepth 100000 in
theorem JChk_c : Cond.code JChk.1 JChk.2.1 JChk.2.2.1 JChk.2.2.2.1 ∈ lw_g := gi (List.mem_of_getElem? (i := 920) rfl)
theorem dJChk_0 : decode prog_17_method_155_code 0 = .ok (.iload_n 0, 1) := by decide +kernel
theorem dJChk_1 : decode prog_17_method_155_code 1 = .ok (.iload_n 1, 1) := by decide +kernel
theorem dJChk_2 : decode prog_17_method_155_code 2 = .ok (.getstatic 1053, 3) := by decide +kernel
theorem dJChk_5 : decode prog_17_method_155_code 5 = .ok (.invokestatic 1059, 3) := by decide +kernel
theorem dJChk_8 : decode prog_17_method_155_code 8 = .ok (.pop, 1) := by decide +kernel
theorem dJChk_9 : decode prog_17_method_155_code 9 = .ok (.return_, 1) := by decide +kernel
def JPre : ME := (⟨"jdk/internal/util/Preconditions", "checkIndex", "(IILjava/util/function/BiFunction;)I"⟩, prog_21_method_11_code, 3, some .int, 0, 3, 0)
set_option maxRecDepth 100000 in
theorem JPre_c : Cond.code JPre.1 JPre.2.1 JPre.2.2.1 JPre.2.2.2.1 ∈ lw_g := gi (List.mem_of_getElem? (i := 925) rfl)
theorem dJPre_0 : decode prog_21_method_11_code 0 = .ok (.iload_n 0, 1) := by decide +kernel
theorem dJPre_1 : decode prog_21_method_11_code 1 = .ok (.ifCond .lt 8, 3) := by decide +kernel
theorem dJPre_4 : decode prog_21_method_11_code 4 = .ok (.iload_n 0, 1) := by decide +kernel
theorem dJPre_5 : decode prog_21_method_11_code 5 = .ok (.iload_n 1, 1) := by decide +kernel
theorem dJPre_6 : decode prog_21_method_11_code 6 = .ok (.if_icmp .lt 10, 3) := by decide +kernel
theorem dJPre_9 : decode prog_21_method_11_code 9 = .ok (.aload_n 2, 1) := by decide +kernel
theorem dJPre_10 : decode prog_21_method_11_code 10 = .ok (.iload_n 0, 1) := by decide +kernel
theorem dJPre_11 : decode prog_21_method_11_code 11 = .ok (.iload_n 1, 1) := by decide +kernel
theorem dJPre_12 : decode prog_21_method_11_code 12 = .ok (.invokestatic 95, 3) := by decide +kernel
theorem dJPre_15 : decode prog_21_method_11_code 15 = .ok (.athrow, 1) := by decide +kernel
theorem dJPre_16 : decode prog_21_method_11_code 16 = .ok (.iload_n 0, 1) := by decide +kernel
theorem dJPre_17 : decode prog_21_method_11_code 17 = .ok (.ireturn, 1) := by decide +kernel
theorem good_wsJ {q : ME} (hc : Cond.code q.1 q.2.1 q.2.2.1 q.2.2.2.1 ∈ lw_g) {l : List Cond} (hl : ∀ w ∈ l, w ∈ lw_g) : GoodIn lw_g (l ++ wsY q) := by
  intro w hw
  rcases List.mem_append.mp hw with h | h
  · exact ⟨hl w h, good_g (hl w h)⟩
  · rcases List.mem_cons.mp h with rfl | h
    · exact ⟨hc, good_g hc⟩
    · exact ⟨h, good_g h⟩
theorem cgH {p : Program} {l : Launch} {e : Env} {R : Room} {s : State} {m : MethodId} {args : Array Value} {below : List Frame} {meth : Method} {c : Code} {H : Heap} {locs : List Loc} {cells slots pc : Nat} {Q : State → Prop} {ls : Array Slot} {rest st0 : List Value} {Qa : State → Outcome → State → Prop} {rv9 : Option Value}
    (hr : va_Run p l e R s m args below meth c H locs cells slots 0 0 (F0 m pc ls st0) rest Qa (fun _ => False)) (hq : ∀ st oc t, Qa st oc t → oc = .returned rv9 ∧ t.heap = st.heap)
    (kk : W p l e R s m args below meth c H locs cells slots Q (F0 m (pc + 3) ls (rv9.toList ++ rest))) :
    W p l e R s m args below meth c H locs cells slots Q (F0 m pc ls st0) := by
  intro T hT X
  obtain ⟨v, st₀, t, T', L, h0, X', hL, e1, e2, hqa, st⟩ := hr T hT X
  obtain ⟨e3, e4⟩ := hq _ _ _ hqa
  cases e3
  have hL0 : L = [] := List.eq_nil_iff_forall_not_mem.mpr (fun q hq => hL q hq)
  subst hL0
  rw [List.append_nil] at X'
  obtain ⟨t2, a1, b1⟩ := kk T' (by rw [e1, e4, h0]) X'
  exact ⟨t2, st t2 a1, b1⟩
section CALLJ
variable {p : Program} {l : Launch} {e : Env} {R : Room} {s : State} {m : MethodId} {args : Array Value} {below : List Frame} {meth : Method} {c : Code} {H : Heap} {locs : List Loc} {cells slots mc ms pc d0 : Nat} {ls : Array Slot} {cc : ByteArray} {own : String} {Pc : Array Value → State → Prop} {Qc : Array Value → State → Outcome → State → Prop} {free : Addr → Prop} {rest As : List Value} {b i : Nat} {qc : ME}
theorem run_VJ (hx : p.tables.exec = Jvm.exec) (hb : c.code = cc) (hml : c.maxLocals = ls.size) (hown : s.vm.findClass own = some m.cls) (hts : ∀ w ∈ lw_g, w.before args s = true) (hcode : Cond.code qc.1 qc.2.1 qc.2.2.1 qc.2.2.2.1 ∈ lw_g) (hne : qc.1.cls ≠ "java/lang/invoke/MethodHandle" ∧ qc.1.cls ≠ "java/lang/invoke/VarHandle" ∧ (parseMethodDescriptor qc.1.desc).map (fun d => d.parameters.length) = some qc.2.2.2.2.2.1) (hM : Met l qc.1 (wsY qc) (rmD d0 mc ms) Pc Qc mc ms free)
    (w1 : Cond.methodLink own i qc.1 ∈ lw_g) (w2 : Cond.instanceMethod qc.1 ∈ lw_g) (w3 : Cond.selects qc.1.cls qc.1 qc.1 ∈ lw_g) (w4 : Cond.initialized qc.1.cls ∈ lw_g) (hRm : d0 + 1 ≤ R.frames ∧ 8 + (qc.2.2.1 + 11) + 100 * d0 ≤ R.locals)
    (hp : PreV s H qc.1.cls b Pc As) (hn : As.length = qc.2.2.2.2.2.1) (hW : (rest.map fun v => v.category).sum ≤ 8) (hdg : decode cc pc = .ok (.invokevirtual i, 3)) (hf : cells + mc ≤ R.cells ∧ slots + ms ≤ R.slots) :
    va_Run p l e R s m args below meth c H locs cells slots mc ms (F0 m pc ls (As.reverse ++ .ref b :: rest)) rest (Qc (Value.ref b :: As).toArray) free := by
  have hG : GoodIn lw_g (wsV own i qc.1.cls qc.1 (wsY qc)) := good_wsJ hcode (fun w hw => by
    simp only [List.mem_cons, List.not_mem_nil, or_false] at hw
    rcases hw with rfl | rfl | rfl | rfl <;> assumption)
  exact va_runV (bytes := qc.2.1) (maxL := qc.2.2.1) (ret := qc.2.2.2.1) (n := qc.2.2.2.2.2.1) (own := own) (Ts := lw_g) ⟨hx, hb, hml, hown, hts⟩ hM (cwV qc.2.2.2.2.2.1 hts hG (wsY_eq qc) rfl rfl ⟨rfl, hne⟩ hRm) hp rfl hn rfl rfl (lv_room hW) hdg hf
theorem run_SJ (hx : p.tables.exec = Jvm.exec) (hb : c.code = cc) (hml : c.maxLocals = ls.size) (hown : s.vm.findClass own = some m.cls) (hts : ∀ w ∈ lw_g, w.before args s = true) (hcode : Cond.code qc.1 qc.2.1 qc.2.2.1 qc.2.2.2.1 ∈ lw_g) (hne : qc.1.cls ≠ "java/lang/invoke/MethodHandle" ∧ qc.1.cls ≠ "java/lang/invoke/VarHandle" ∧ (parseMethodDescriptor qc.1.desc).map (fun d => d.parameters.length) = some qc.2.2.2.2.2.1) (hM : Met l qc.1 (wsY qc) (rmD d0 mc ms) Pc Qc mc ms free)
    (w1 : Cond.methodLink own i qc.1 ∈ lw_g) (w2 : Cond.static qc.1 ∈ lw_g) (w4 : Cond.initialized qc.1.cls ∈ lw_g) (hRm : d0 + 1 ≤ R.frames ∧ 8 + (qc.2.2.1 + 11) + 100 * d0 ≤ R.locals)
    (hp : PreS s H Pc As) (hn : As.length = qc.2.2.2.2.2.1) (hW : (rest.map fun v => v.category).sum ≤ 8) (hdg : decode cc pc = .ok (.invokestatic i, 3)) (hf : cells + mc ≤ R.cells ∧ slots + ms ≤ R.slots) :
    va_Run p l e R s m args below meth c H locs cells slots mc ms (F0 m pc ls (As.reverse ++ rest)) rest (Qc As.toArray) free := by
  have hG : GoodIn lw_g (va_wsS own i qc.1 (wsY qc)) := good_wsJ hcode (fun w hw => by
    simp only [List.mem_cons, List.not_mem_nil, or_false] at hw
    rcases hw with rfl | rfl | rfl <;> assumption)
  exact va_runS (bytes := qc.2.1) (maxL := qc.2.2.1) (ret := qc.2.2.2.1) (n := qc.2.2.2.2.2.1) (own := own) (Ts := lw_g) ⟨hx, hb, hml, hown, hts⟩ hM (va_cwS qc.2.2.2.2.2.1 hts hG (wsY_eq qc) rfl rfl hne hRm) hp rfl hn rfl rfl (lv_room hW) hdg hf
end CALLJ
def TS (adK adV : Nat → Nat) (b0 : Nat) (U : State) (H : Heap) : Prop := ∀ i : Nat, i < 41 → va_O "java/lang/String" (adK i) (Ab b0) U H ∧ va_OF "java/lang/String" "coder" "B" (.int 0) (adK i) (Ab b0) U H ∧ va_OF "java/lang/String" "value" "[B" (.ref (adV i)) (adK i) (Ab b0) U H ∧ va_T .byte (adV i) (lenS.getD i 0) (fun j => .int ((bytS.getD i []).getD j 0)) (Ab b0) U H
theorem TS.moved {adK adV : Nat → Nat} {b0 : Nat} {u U : State} {H : Heap} (hvm : u.vm.Alike U.vm) (h : TS adK adV b0 u H) : TS adK adV b0 U H := fun i hi => ⟨(h i hi).1.moved hvm, (h i hi).2.1.moved hvm, (h i hi).2.2.1.moved hvm, (h i hi).2.2.2.moved hvm⟩
theorem TS.kept {adK adV : Nat → Nat} {b0 : Nat} {U : State} {H H1 : Heap} (h : TS adK adV b0 U H) (hq : ∀ a : Nat, a < H.size → ¬ Ab b0 a → H1[a]? = H[a]?) : TS adK adV b0 U H1 := fun i hi => ⟨(h i hi).1.kept hq, (h i hi).2.1.kept hq, (h i hi).2.2.1.kept hq, (h i hi).2.2.2.kept hq⟩
theorem ts_recv {adK adV : Nat → Nat} {b0 : Nat} {s : State} {H : Heap} {locs : List Loc} {i : Nat} (hV : TS adK adV b0 s s.heap) (hi : i < 41) (hS : va_S (Ab b0) s.heap H locs) : ∃ cell : Cell, H[adK i]? = some cell ∧ cell.vm.isStatics = false ∧ s.vm.findClass "java/lang/String" = some cell.cls := by
  obtain ⟨cell, h1, h2, h3, -⟩ := (hV i hi).1.kept hS.2.1
  exact ⟨cell, h1, h2, h3⟩
def PS (adK adV : Nat → Nat) (b0 : Nat) (tF : Option Nat) (U : State) : Prop := TS adK adV b0 U U.heap ∧ va_Z "java/lang/String" "COMPACT_STRINGS" "Z" (.int 1) (Ab b0) U U.heap ∧ va_Z "jdk/internal/util/Preconditions" "SIOOBE_FORMATTER" "Ljava/util/function/BiFunction;" (va_rf tF) (Ab b0) U U.heap
def QJ (r : Int32) : Array Value → State → Outcome → State → Prop := fun _ st oc t => oc = .returned (some (.int r)) ∧ t.heap = st.heap
def QJv : Array Value → State → Outcome → State → Prop := fun _ st oc t => oc = .returned none ∧ t.heap = st.heap
theorem PS.blind {adK adV : Nat → Nat} {b0 : Nat} {tF : Option Nat} (av : List Value) : FrameBlind (va_Pc av (PS adK adV b0 tF)) := by
  intro a U g mk h
  obtain ⟨h1, h2, h3, h4⟩ := h
  exact ⟨h1, h2.moved (u := U) (U := U.calling g mk a) (Vm.Alike.refl U.vm), h3.moved (u := U) (U := U.calling g mk a) (Vm.Alike.refl U.vm), h4.moved (u := U) (U := U.calling g mk a) (Vm.Alike.refl U.vm)⟩
theorem PS.at_ {adK adV : Nat → Nat} {b0 : Nat} {tF : Option Nat} {s U : State} {H : Heap} {locs : List Loc} (h : PS adK adV b0 tF s) (hS : va_S (Ab b0) s.heap H locs) (hU : U.heap = H) (hW : s.WarmedH U.vm) : PS adK adV b0 tF U := by
  obtain ⟨h1, h2, h3⟩ := h
  refine ⟨?_, ?_, ?_⟩
  · rw [hU]; exact (h1.moved hW.alike).kept hS.2.1
  · rw [hU]; exact (h2.moved hW.alike).kept hS.2.1
  · rw [hU]; exact (h3.moved hW.alike).kept hS.2.1
theorem vS_more {b0 : Nat} {H0 H : Heap} {locs L : List Loc} (h : va_S (Ab b0) H0 H locs) (hL : ∀ q ∈ L, Ab b0 q.base) : va_S (Ab b0) H0 H (locs ++ L) := ⟨h.1, h.2.1, fun q hq => (List.mem_append.mp hq).elim (h.2.2 q) (hL q)⟩
set_option maxHeartbeats 1000000 in
theorem j_coder (l : Launch) {adK adV : Nat → Nat} {b0 : Nat} {tF : Option Nat} {i : Nat} (hi : i < 41) (d : Nat) : Met l JCod.1 (wsY JCod) (rmD (d + 0) 0 0) (va_Pc [.ref (adK i)] (PS adK adV b0 tF)) (QJ 0) 0 0 (fun _ => False) := by
  refine Met.ofW (cc := prog_17_method_152_code) (maxL := 1) (ret := some .byte) (by decide) rfl ?_
  intro p e s m args below meth c s₁ B hml hv
  obtain ⟨rfl, hPS⟩ := hv
  obtain ⟨hV, hZ, hZ2⟩ := id hPS
  have hx := B.exec
  have hb := B.bytes
  have hr := B.returns
  have hg : ∀ w ∈ lw_g, w.before _ s = true := fun w h => atoms_spec (ws := wsY JCod) B.pre w (List.mem_cons_of_mem _ h)
  have hown : s.vm.findClass "java/lang/String" = some m.cls := findClass_of_methodNamed B.named
  have hlocks := B.notSynchronized
  have hl := lv_entry ([.ref (adK i)]) (n := 1) (Nat.le_of_ble_eq_true rfl)
  rw [lg_entry_eq]
  generalize (lg_sl ([.ref (adK i)]) ++ List.replicate (1 - (lg_sl ([.ref (adK i)])).length) Slot.unset).toArray = ls at hl ⊢
  have hl : lv_has ls 1 [(0, .ref (adK i))] := hl
  have hS : va_S (Ab b0) s.heap s.heap [] := va_S.rf
  refine va_gets hx hb hZ hS hown (hg _ (gi (List.mem_of_getElem? (i := 905) (by decide +kernel)))) (fun _ h => h) dJCod_0 ?_
  refine lv_if_eq (tgt := 13) hx hb dJCod_3 (by decide) (fun hc => absurd hc (by decide)) (fun _ => ?_)
  refine lv_aload_n hx hb dJCod_6 rfl (lv_at hl 0 rfl) ?_
  refine vk_getf hx hb (hV i hi).2.1 hS hown (hg _ (gi (List.mem_of_getElem? (i := 2176) (by decide +kernel)))) (fun _ h => h) dJCod_7 ?_
  refine lv_goto (tgt := 14) hx hb dJCod_10 (by decide) ?_
  exact W.zret (ty := .byte) hx hb hr (by decide) (fun t ht hW => ⟨rfl, ht⟩) (fun q h => by cases h) dJCod_14
set_option maxHeartbeats 1000000 in
theorem j_latin (l : Launch) {adK adV : Nat → Nat} {b0 : Nat} {tF : Option Nat} {i : Nat} (hi : i < 41) (d : Nat) : Met l JLat.1 (wsY JLat) (rmD (d + 0) 0 0) (va_Pc [.ref (adK i)] (PS adK adV b0 tF)) (QJ 1) 0 0 (fun _ => False) := by
  refine Met.ofW (cc := prog_17_method_154_code) (maxL := 1) (ret := some .boolean) (by decide) rfl ?_
  intro p e s m args below meth c s₁ B hml hv
  obtain ⟨rfl, hPS⟩ := hv
  obtain ⟨hV, hZ, hZ2⟩ := id hPS
  have hx := B.exec
  have hb := B.bytes
  have hr := B.returns
  have hg : ∀ w ∈ lw_g, w.before _ s = true := fun w h => atoms_spec (ws := wsY JLat) B.pre w (List.mem_cons_of_mem _ h)
  have hown : s.vm.findClass "java/lang/String" = some m.cls := findClass_of_methodNamed B.named
  have hlocks := B.notSynchronized
  have hl := lv_entry ([.ref (adK i)]) (n := 1) (Nat.le_of_ble_eq_true rfl)
  rw [lg_entry_eq]
  generalize (lg_sl ([.ref (adK i)]) ++ List.replicate (1 - (lg_sl ([.ref (adK i)])).length) Slot.unset).toArray = ls at hl ⊢
  have hl : lv_has ls 1 [(0, .ref (adK i))] := hl
  have hS : va_S (Ab b0) s.heap s.heap [] := va_S.rf
  refine va_gets hx hb hZ hS hown (hg _ (gi (List.mem_of_getElem? (i := 905) (by decide +kernel)))) (fun _ h => h) dJLat_0 ?_
  refine lv_if_eq (tgt := 17) hx hb dJLat_3 (by decide) (fun hc => absurd hc (by decide)) (fun _ => ?_)
  refine lv_aload_n hx hb dJLat_6 rfl (lv_at hl 0 rfl) ?_
  refine vk_getf hx hb (hV i hi).2.1 hS hown (hg _ (gi (List.mem_of_getElem? (i := 2176) (by decide +kernel)))) (fun _ h => h) dJLat_7 ?_
  refine lv_if_ne (tgt := 17) hx hb dJLat_10 (by decide) (fun hc => absurd rfl hc) (fun _ => ?_)
  refine lv_iconst (v := 1) hx hb dJLat_13 (by decide) ?_
  refine lv_goto (tgt := 18) hx hb dJLat_14 (by decide) ?_
  exact W.zret (ty := .boolean) hx hb hr (by decide) (fun t ht hW => ⟨rfl, ht⟩) (fun q h => by cases h) dJLat_18
set_option maxHeartbeats 1000000 in
theorem j_preR (l : Launch) {adK adV : Nat → Nat} {b0 : Nat} {tF : Option Nat} {a n : Int32} {x : Nat} (h0 : ¬ a < 0) (h1 : a < n) (d : Nat) : Met l JPre.1 (wsY JPre) (rmD (d + 0) 0 0) (va_Pc [.int a, .int n, .ref x] (PS adK adV b0 tF)) (QJ a) 0 0 (fun _ => False) := by
  refine Met.ofW (cc := prog_21_method_11_code) (maxL := 3) (ret := some .int) (by decide) rfl ?_
  intro p e s m args below meth c s₁ B hml hv
  obtain ⟨rfl, hPS⟩ := hv
  obtain ⟨hV, hZ, hZ2⟩ := id hPS
  have hx := B.exec
  have hb := B.bytes
  have hr := B.returns
  have hg : ∀ w ∈ lw_g, w.before _ s = true := fun w h => atoms_spec (ws := wsY JPre) B.pre w (List.mem_cons_of_mem _ h)
  have hown : s.vm.findClass "jdk/internal/util/Preconditions" = some m.cls := findClass_of_methodNamed B.named
  have hlocks := B.notSynchronized
  have hl := lv_entry ([.int a, .int n, .ref x]) (n := 3) (Nat.le_of_ble_eq_true rfl)
  rw [lg_entry_eq]
  generalize (lg_sl ([.int a, .int n, .ref x]) ++ List.replicate (3 - (lg_sl ([.int a, .int n, .ref x])).length) Slot.unset).toArray = ls at hl ⊢
  have hl : lv_has ls 3 [(0, .int a), (1, .int n), (2, .ref x)] := hl
  have hS : va_S (Ab b0) s.heap s.heap [] := va_S.rf
  refine lv_iload_n hx hb dJPre_0 rfl (lv_at hl 0 rfl) ?_
  refine lv_if_lt (tgt := 9) hx hb dJPre_1 (by decide) (fun hc => absurd hc h0) (fun _ => ?_)
  refine lv_iload_n hx hb dJPre_4 rfl (lv_at hl 0 rfl) ?_
  refine lv_iload_n hx hb dJPre_5 rfl (lv_at hl 1 rfl) ?_
  refine lv_icmp_lt (tgt := 16) hx hb dJPre_6 (by decide) (fun _ => ?_) (fun hc => absurd h1 hc)
  refine lv_iload_n hx hb dJPre_16 rfl (lv_at hl 0 rfl) ?_
  exact W.iret hx hb hr (fun t ht hW => ⟨rfl, ht⟩) (fun q h => by cases h) dJPre_17
set_option maxHeartbeats 1000000 in
theorem j_preN (l : Launch) {adK adV : Nat → Nat} {b0 : Nat} {tF : Option Nat} {a n : Int32} {x : Nat} (h0 : ¬ a < 0) (h1 : a < n) (d : Nat) : Met l JPre.1 (wsY JPre) (rmD (d + 0) 0 0) (va_Pc [.int a, .int n, .null] (PS adK adV b0 tF)) (QJ a) 0 0 (fun _ => False) := by
  refine Met.ofW (cc := prog_21_method_11_code) (maxL := 3) (ret := some .int) (by decide) rfl ?_
  intro p e s m args below meth c s₁ B hml hv
  obtain ⟨rfl, hPS⟩ := hv
  obtain ⟨hV, hZ, hZ2⟩ := id hPS
  have hx := B.exec
  have hb := B.bytes
  have hr := B.returns
  have hg : ∀ w ∈ lw_g, w.before _ s = true := fun w h => atoms_spec (ws := wsY JPre) B.pre w (List.mem_cons_of_mem _ h)
  have hown : s.vm.findClass "jdk/internal/util/Preconditions" = some m.cls := findClass_of_methodNamed B.named
  have hlocks := B.notSynchronized
  have hl := lv_entry ([.int a, .int n, .null]) (n := 3) (Nat.le_of_ble_eq_true rfl)
  rw [lg_entry_eq]
  generalize (lg_sl ([.int a, .int n, .null]) ++ List.replicate (3 - (lg_sl ([.int a, .int n, .null])).length) Slot.unset).toArray = ls at hl ⊢
  have hl : lv_has ls 3 [(0, .int a), (1, .int n), (2, .null)] := hl
  have hS : va_S (Ab b0) s.heap s.heap [] := va_S.rf
  refine lv_iload_n hx hb dJPre_0 rfl (lv_at hl 0 rfl) ?_
  refine lv_if_lt (tgt := 9) hx hb dJPre_1 (by decide) (fun hc => absurd hc h0) (fun _ => ?_)
  refine lv_iload_n hx hb dJPre_4 rfl (lv_at hl 0 rfl) ?_
  refine lv_iload_n hx hb dJPre_5 rfl (lv_at hl 1 rfl) ?_
  refine lv_icmp_lt (tgt := 16) hx hb dJPre_6 (by decide) (fun _ => ?_) (fun hc => absurd h1 hc)
  refine lv_iload_n hx hb dJPre_16 rfl (lv_at hl 0 rfl) ?_
  exact W.iret hx hb hr (fun t ht hW => ⟨rfl, ht⟩) (fun q h => by cases h) dJPre_17
theorem j_pre (l : Launch) {adK adV : Nat → Nat} {b0 : Nat} {tF : Option Nat} {a n : Int32} {x : Option Nat} (h0 : ¬ a < 0) (h1 : a < n) (d : Nat) : Met l JPre.1 (wsY JPre) (rmD (d + 0) 0 0) (va_Pc [.int a, .int n, va_rf x] (PS adK adV b0 tF)) (QJ a) 0 0 (fun _ => False) := by
  cases x with
  | none => exact j_preN l (x := 0) h0 h1 d
  | some t => exact j_preR l h0 h1 d
set_option maxHeartbeats 1000000 in
theorem j_chk (l : Launch) {adK adV : Nat → Nat} {b0 : Nat} {tF : Option Nat} {a n : Int32} (h0 : ¬ a < 0) (h1 : a < n) (d : Nat) : Met l JChk.1 (wsY JChk) (rmD (d + 1) 0 0) (va_Pc [.int a, .int n] (PS adK adV b0 tF)) QJv 0 0 (fun _ => False) := by
  refine Met.ofW (cc := prog_17_method_155_code) (maxL := 2) (ret := none) (by decide) rfl ?_
  intro p e s m args below meth c s₁ B hml hv
  obtain ⟨rfl, hPS⟩ := hv
  obtain ⟨hV, hZ, hZ2⟩ := id hPS
  have hx := B.exec
  have hb := B.bytes
  have hr := B.returns
  have hg : ∀ w ∈ lw_g, w.before _ s = true := fun w h => atoms_spec (ws := wsY JChk) B.pre w (List.mem_cons_of_mem _ h)
  have hown : s.vm.findClass "java/lang/String" = some m.cls := findClass_of_methodNamed B.named
  have hlocks := B.notSynchronized
  have hl := lv_entry ([.int a, .int n]) (n := 2) (Nat.le_of_ble_eq_true rfl)
  rw [lg_entry_eq]
  generalize (lg_sl ([.int a, .int n]) ++ List.replicate (2 - (lg_sl ([.int a, .int n])).length) Slot.unset).toArray = ls at hl ⊢
  have hl : lv_has ls 2 [(0, .int a), (1, .int n)] := hl
  have hS : va_S (Ab b0) s.heap s.heap [] := va_S.rf
  refine lv_iload_n hx hb dJChk_0 rfl (lv_at hl 0 rfl) ?_
  refine lv_iload_n hx hb dJChk_1 rfl (lv_at hl 1 rfl) ?_
  refine va_gets hx hb hZ2 hS hown (hg _ (gi (List.mem_of_getElem? (i := 921) (by decide +kernel)))) (fun _ h => h) dJChk_2 ?_
  refine cgH (run_SJ (qc := JPre) (As := [.int a, .int n, va_rf tF]) (rest := []) hx hb (hml.trans hl.1.symm) hown hg JPre_c ⟨by decide, by decide, by decide +kernel⟩ (j_pre l (adK := adK) (adV := adV) (b0 := b0) (tF := tF) (x := tF) h0 h1 d) (gi (List.mem_of_getElem? (i := 923) (by decide +kernel))) (gi (List.mem_of_getElem? (i := 924) (by decide +kernel))) (gi (List.mem_of_getElem? (i := 150) (by decide +kernel))) ⟨Nat.le_refl _, by show 8 + (3 + 11) + 100 * (d + 0) ≤ 100 * (d + 1); omega⟩ ⟨PS.blind _, fun U hU hW => ⟨rfl, hPS.at_ hS hU hW⟩⟩ rfl (Nat.zero_le _) dJChk_5 ⟨Nat.le_refl _, Nat.le_refl _⟩) (fun _ _ _ h => h) ?_
  refine lv_pop hx hb dJChk_8 rfl ?_
  exact W.vret hx hb hr (fun t ht hW => ⟨rfl, ht⟩) (fun q h => by cases h) dJChk_9
set_option maxHeartbeats 1000000 in
theorem j_len (l : Launch) {adK adV : Nat → Nat} {b0 : Nat} {tF : Option Nat} {i : Nat} (hi : i < 41) (d : Nat) : Met l JLen.1 (wsY JLen) (rmD (d + 1) 0 0) (va_Pc [.ref (adK i)] (PS adK adV b0 tF)) (QJ (Int32.ofNat (lenS.getD i 0))) 0 0 (fun _ => False) := by
  refine Met.ofW (cc := prog_17_method_54_code) (maxL := 1) (ret := some .int) (by decide) rfl ?_
  intro p e s m args below meth c s₁ B hml hv
  obtain ⟨rfl, hPS⟩ := hv
  obtain ⟨hV, hZ, hZ2⟩ := id hPS
  have hx := B.exec
  have hb := B.bytes
  have hr := B.returns
  have hg : ∀ w ∈ lw_g, w.before _ s = true := fun w h => atoms_spec (ws := wsY JLen) B.pre w (List.mem_cons_of_mem _ h)
  have hown : s.vm.findClass "java/lang/String" = some m.cls := findClass_of_methodNamed B.named
  have hlocks := B.notSynchronized
  have hl := lv_entry ([.ref (adK i)]) (n := 1) (Nat.le_of_ble_eq_true rfl)
  rw [lg_entry_eq]
  generalize (lg_sl ([.ref (adK i)]) ++ List.replicate (1 - (lg_sl ([.ref (adK i)])).length) Slot.unset).toArray = ls at hl ⊢
  have hl : lv_has ls 1 [(0, .ref (adK i))] := hl
  have hS : va_S (Ab b0) s.heap s.heap [] := va_S.rf
  refine lv_aload_n hx hb dJLen_0 rfl (lv_at hl 0 rfl) ?_
  refine vk_getf hx hb (hV i hi).2.2.1 hS hown (hg _ (gi (List.mem_of_getElem? (i := 2175) (by decide +kernel)))) (fun _ h => h) dJLen_1 ?_
  refine va_tlen hx hb (hV i hi).2.2.2 hS rfl dJLen_4 ?_
  refine lv_aload_n hx hb dJLen_5 rfl (lv_at hl 0 rfl) ?_
  refine cgH (run_VJ (qc := JCod) (As := []) (b := adK i) (rest := [.int (Int32.ofNat (lenS.getD i 0))]) hx hb (hml.trans hl.1.symm) hown hg JCod_c ⟨by decide, by decide, by decide +kernel⟩ (j_coder l (adK := adK) (adV := adV) (b0 := b0) (tF := tF) hi d) (gi (List.mem_of_getElem? (i := 901) (by decide +kernel))) (gi (List.mem_of_getElem? (i := 902) (by decide +kernel))) (gi (List.mem_of_getElem? (i := 903) (by decide +kernel))) (gi (List.mem_of_getElem? (i := 148) (by decide +kernel))) ⟨Nat.le_refl _, by show 8 + (1 + 11) + 100 * (d + 0) ≤ 100 * (d + 1); omega⟩ ⟨PS.blind _, ts_recv hV hi hS, fun U hU hW => ⟨rfl, hPS.at_ hS hU hW⟩⟩ rfl (Nat.le_of_ble_eq_true rfl) dJLen_6 ⟨Nat.le_refl _, Nat.le_refl _⟩) (fun _ _ _ h => h) ?_
  refine lv_ishr hx hb dJLen_9 ?_
  have e9 : (Int32.ofNat (lenS.getD i 0)) >>> ((0 : Int32) &&& 31) = Int32.ofNat (lenS.getD i 0) := (show ∀ i, i < 41 → (Int32.ofNat (lenS.getD i 0)) >>> ((0 : Int32) &&& 31) = Int32.ofNat (lenS.getD i 0) by decide +kernel) i hi
  rw [e9]
  exact W.iret hx hb hr (fun t ht hW => ⟨rfl, ht⟩) (fun q h => by cases h) dJLen_10
def chS (i j : Nat) : Int32 := (bytS.getD i []).getD j 0
theorem chS_ok : ∀ i, i < 41 → ∀ j, j < lenS.getD i 0 → ((chS i j &&& 255).toUInt32 % 65536).toInt32 = chS i j ∧ narrow .char (.int (chS i j)) = .int (chS i j) := by decide +kernel
set_option maxHeartbeats 1000000 in
theorem j_lch (l : Launch) {adK adV : Nat → Nat} {b0 : Nat} {tF : Option Nat} {i j : Nat} (hi : i < 41) (hj : j < lenS.getD i 0) (d : Nat) : Met l JLch.1 (wsY JLch) (rmD (d + 2) 0 0) (va_Pc [.ref (adV i), .int (nI j)] (PS adK adV b0 tF)) (QJ (chS i j)) 0 0 (fun _ => False) := by
  refine Met.ofW (cc := prog_18_method_2_code) (maxL := 2) (ret := some .char) (by decide) rfl ?_
  intro p e s m args below meth c s₁ B hml hv
  obtain ⟨rfl, hPS⟩ := hv
  obtain ⟨hV, hZ, hZ2⟩ := id hPS
  have hx := B.exec
  have hb := B.bytes
  have hr := B.returns
  have hg : ∀ w ∈ lw_g, w.before _ s = true := fun w h => atoms_spec (ws := wsY JLch) B.pre w (List.mem_cons_of_mem _ h)
  have hown : s.vm.findClass "java/lang/StringLatin1" = some m.cls := findClass_of_methodNamed B.named
  have hlocks := B.notSynchronized
  have hl := lv_entry ([.ref (adV i), .int (nI j)]) (n := 2) (Nat.le_of_ble_eq_true rfl)
  rw [lg_entry_eq]
  generalize (lg_sl ([.ref (adV i), .int (nI j)]) ++ List.replicate (2 - (lg_sl ([.ref (adV i), .int (nI j)])).length) Slot.unset).toArray = ls at hl ⊢
  have hl : lv_has ls 2 [(0, .ref (adV i)), (1, .int (nI j))] := hl
  have hS : va_S (Ab b0) s.heap s.heap [] := va_S.rf
  have hj31 : lenS.getD i 0 < 2 ^ 31 := (show ∀ i, i < 41 → lenS.getD i 0 < 2 ^ 31 by decide +kernel) i hi
  refine lv_iload_n hx hb dJLch_0 rfl (lv_at hl 1 rfl) ?_
  refine lv_aload_n hx hb dJLch_1 rfl (lv_at hl 0 rfl) ?_
  refine va_tlen hx hb (hV i hi).2.2.2 hS rfl dJLch_2 ?_
  refine cgH (run_SJ (qc := JChk) (As := [.int (nI j), .int (Int32.ofNat (lenS.getD i 0))]) (rest := []) hx hb (hml.trans hl.1.symm) hown hg JChk_c ⟨by decide, by decide, by decide +kernel⟩ (j_chk l (adK := adK) (adV := adV) (b0 := b0) (tF := tF) (nI_pos (by omega)) (nI_lt hj hj31) d) (gi (List.mem_of_getElem? (i := 918) (by decide +kernel))) (gi (List.mem_of_getElem? (i := 919) (by decide +kernel))) (gi (List.mem_of_getElem? (i := 148) (by decide +kernel))) ⟨Nat.le_refl _, by show 8 + (2 + 11) + 100 * (d + 1) ≤ 100 * (d + 2); omega⟩ ⟨PS.blind _, fun U hU hW => ⟨rfl, hPS.at_ hS hU hW⟩⟩ rfl (Nat.zero_le _) dJLch_3 ⟨Nat.le_refl _, Nat.le_refl _⟩) (fun _ _ _ h => h) ?_
  refine lv_aload_n hx hb dJLch_6 rfl (lv_at hl 0 rfl) ?_
  refine lv_iload_n hx hb dJLch_7 rfl (lv_at hl 1 rfl) ?_
  refine va_tb hx hb (hV i hi).2.2.2 hS (vp_in_nI hj hj31) (v := .int (chS i j)) (by rw [nI_clamp (by omega)]; rfl) dJLch_8 ?_
  refine lv_sipush (v := 255) hx hb dJLch_9 (by decide) ?_
  refine lv_iand hx hb dJLch_12 ?_
  refine lv_i2c hx hb dJLch_13 (chS_ok i hi j hj).1 ?_
  exact W.zret (ty := .char) hx hb hr (chS_ok i hi j hj).2 (fun t ht hW => ⟨rfl, ht⟩) (fun q h => by cases h) dJLch_14
set_option maxHeartbeats 1000000 in
theorem j_chr (l : Launch) {adK adV : Nat → Nat} {b0 : Nat} {tF : Option Nat} {i j : Nat} (hi : i < 41) (hj : j < lenS.getD i 0) (d : Nat) : Met l JChr.1 (wsY JChr) (rmD (d + 3) 0 0) (va_Pc [.ref (adK i), .int (nI j)] (PS adK adV b0 tF)) (QJ (chS i j)) 0 0 (fun _ => False) := by
  refine Met.ofW (cc := prog_17_method_56_code) (maxL := 2) (ret := some .char) (by decide) rfl ?_
  intro p e s m args below meth c s₁ B hml hv
  obtain ⟨rfl, hPS⟩ := hv
  obtain ⟨hV, hZ, hZ2⟩ := id hPS
  have hx := B.exec
  have hb := B.bytes
  have hr := B.returns
  have hg : ∀ w ∈ lw_g, w.before _ s = true := fun w h => atoms_spec (ws := wsY JChr) B.pre w (List.mem_cons_of_mem _ h)
  have hown : s.vm.findClass "java/lang/String" = some m.cls := findClass_of_methodNamed B.named
  have hlocks := B.notSynchronized
  have hl := lv_entry ([.ref (adK i), .int (nI j)]) (n := 2) (Nat.le_of_ble_eq_true rfl)
  rw [lg_entry_eq]
  generalize (lg_sl ([.ref (adK i), .int (nI j)]) ++ List.replicate (2 - (lg_sl ([.ref (adK i), .int (nI j)])).length) Slot.unset).toArray = ls at hl ⊢
  have hl : lv_has ls 2 [(0, .ref (adK i)), (1, .int (nI j))] := hl
  have hS : va_S (Ab b0) s.heap s.heap [] := va_S.rf
  refine lv_aload_n hx hb dJChr_0 rfl (lv_at hl 0 rfl) ?_
  refine cgH (run_VJ (qc := JLat) (As := []) (b := adK i) (rest := []) hx hb (hml.trans hl.1.symm) hown hg JLat_c ⟨by decide, by decide, by decide +kernel⟩ (j_latin l (adK := adK) (adV := adV) (b0 := b0) (tF := tF) hi (d + 2)) (gi (List.mem_of_getElem? (i := 911) (by decide +kernel))) (gi (List.mem_of_getElem? (i := 912) (by decide +kernel))) (gi (List.mem_of_getElem? (i := 913) (by decide +kernel))) (gi (List.mem_of_getElem? (i := 148) (by decide +kernel))) ⟨Nat.le_refl _, by show 8 + (1 + 11) + 100 * (d + 2 + 0) ≤ 100 * (d + 3); omega⟩ ⟨PS.blind _, ts_recv hV hi hS, fun U hU hW => ⟨rfl, hPS.at_ hS hU hW⟩⟩ rfl (Nat.le_of_ble_eq_true rfl) dJChr_1 ⟨Nat.le_refl _, Nat.le_refl _⟩) (fun _ _ _ h => h) ?_
  refine lv_if_eq (tgt := 16) hx hb dJChr_4 (by decide) (fun hc => absurd hc (by decide)) (fun _ => ?_)
  refine lv_aload_n hx hb dJChr_7 rfl (lv_at hl 0 rfl) ?_
  refine vk_getf hx hb (hV i hi).2.2.1 hS hown (hg _ (gi (List.mem_of_getElem? (i := 2175) (by decide +kernel)))) (fun _ h => h) dJChr_8 ?_
  refine lv_iload_n hx hb dJChr_11 rfl (lv_at hl 1 rfl) ?_
  refine cgH (run_SJ (qc := JLch) (As := [.ref (adV i), .int (nI j)]) (rest := []) hx hb (hml.trans hl.1.symm) hown hg JLch_c ⟨by decide, by decide, by decide +kernel⟩ (j_lch l (adK := adK) (adV := adV) (b0 := b0) (tF := tF) hi hj d) (gi (List.mem_of_getElem? (i := 915) (by decide +kernel))) (gi (List.mem_of_getElem? (i := 916) (by decide +kernel))) (gi (List.mem_of_getElem? (i := 149) (by decide +kernel))) ⟨Nat.le_refl _, by show 8 + (2 + 11) + 100 * (d + 2) ≤ 100 * (d + 3); omega⟩ ⟨PS.blind _, fun U hU hW => ⟨rfl, hPS.at_ hS hU hW⟩⟩ rfl (Nat.zero_le _) dJChr_12 ⟨Nat.le_refl _, Nat.le_refl _⟩) (fun _ _ _ h => h) ?_
  exact W.zret (ty := .char) hx hb hr (chS_ok i hi j hj).2 (fun t ht hW => ⟨rfl, ht⟩) (fun q h => by cases h) dJChr_15
/-- what is kept of the texts along a run: they lie ahead of b0 -/
def ExT (b0 : Nat) (adK adV : Nat → Nat) (tF : Option Nat) (Hb : Heap) (U : State) : Prop := TS adK adV b0 U Hb ∧ va_Z "java/lang/String" "COMPACT_STRINGS" "Z" (.int 1) (Ab b0) U Hb ∧ va_Z "jdk/internal/util/Preconditions" "SIOOBE_FORMATTER" "Ljava/util/function/BiFunction;" (va_rf tF) (Ab b0) U Hb ∧ ∀ i, i < 41 → vk_R "StampQuarrels$Reader" (strS.getD i (0, "")).1 (strS.getD i (0, "")).2 (adK i) U
theorem ExT.warm {b0 : Nat} {adK adV : Nat → Nat} {tF : Option Nat} {Hb : Heap} : ∀ u U : State, u.WarmedH U.vm → ExT b0 adK adV tF Hb u → ExT b0 adK adV tF Hb U := fun _ _ hW h => ⟨h.1.moved hW.alike, h.2.1.moved hW.alike, h.2.2.1.moved hW.alike, fun i hi => (h.2.2.2 i hi).warm hW⟩
theorem ExT.same {b0 : Nat} {adK adV : Nat → Nat} {tF : Option Nat} {Hb : Heap} : ∀ u U : State, U.vm = u.vm → ExT b0 adK adV tF Hb u → ExT b0 adK adV tF Hb U := fun u U hv h => by
  have ha : u.vm.Alike U.vm := by rw [hv]; exact Vm.Alike.refl u.vm
  exact ⟨h.1.moved ha, h.2.1.moved ha, h.2.2.1.moved ha, fun i hi => (h.2.2.2 i hi).same hv⟩
theorem klk_str : ∀ oc, oc < 16 → ∀ q ∈ klk oc, q.2.1 = 2 → cN oc = "StampQuarrels$Reader" ∧ 0 ≤ q.2.2.1 ∧ q.2.2.1.toNat < 41 ∧ (strS.getD q.2.2.1.toNat (0, "")).1 = q.1 := by decide +kernel
theorem klk_out : ∀ oc q, q ∈ klk oc → oc < 16 := by
  intro oc q h
  match oc, h with
  | 0, h => decide
  | 1, h => decide
  | 2, h => decide
  | 3, h => decide
  | 4, h => decide
  | 5, h => decide
  | 6, h => decide
  | 7, h => decide
  | 8, h => decide
  | 9, h => decide
  | 10, h => decide
  | 11, h => decide
  | 12, h => decide
  | 13, h => decide
  | 14, h => decide
  | 15, h => decide
  | n + 16, h => exact absurd h List.not_mem_nil
theorem ldc_ok {b0 : Nat} {adK adV : Nat → Nat} {tF : Option Nat} {Hb : Heap} {ex : Nat → Nat} (hex : ∀ i, i < 41 → ex (10 + i) = adK i) : LdcOK ex (ExT b0 adK adV tF Hb) := by
  intro U hU oc i q hk h2
  unfold klook at hk
  obtain ⟨r, h1, h3⟩ := Option.map_eq_some_iff.mp hk
  obtain ⟨hm, he⟩ := find_mem h1
  have hi : r.1 = i := by simpa using he
  subst h3
  simp only at h2 ⊢
  obtain ⟨e1, e2, e3, e4⟩ := klk_str oc (klk_out oc r hm) r hm h2
  refine ⟨e2, (strS.getD r.2.2.1.toNat (0, "")).2, ?_⟩
  rw [hex _ e3, e1, ← hi, ← e4]
  exact hU.2.2.2 _ e3
theorem tx_ok : ∀ i, i < 41 → (txts.getD i []).length = lenS.getD i 0 ∧ ∀ j, j < lenS.getD i 0 → chS i j = oI ((txts.getD i []).getD j 0) := by decide +kernel
theorem txAt_some {z : Int} {t : List Int} (h : txAt z = some t) : ∃ i : Nat, i < 41 ∧ z = -(10 + (i : Int)) ∧ t = txts.getD i [] := by
  unfold txAt at h
  split at h
  · rename_i hz
    have hlt := (List.getElem?_eq_some_iff.mp h).1
    refine ⟨(-z - 10).toNat, hlt, by omega, ?_⟩
    rw [List.getD_eq_getElem?_getD, h]; rfl
  · cases h
theorem ofNat_oI (n : Nat) : Int32.ofNat n = oI (n : Int) := by
  first | rfl | (rw [← Int32.toInt_inj]; simp)
set_option maxHeartbeats 1000000 in
theorem str_ok {D : va_G} {b0 : Nat} {adK adV : Nat → Nat} {tF : Option Nat} {ex : Nat → Nat} {aC : Nat → ClassId} {Hb : Heap} {sc : Nat × (Nat → Int)} (hex : ∀ i, i < 41 → ex (10 + i) = adK i) : StrOK D b0 ex aC Hb sc (ExT b0 adK adV tF Hb) := by
  intro p l e R s m args below meth c H locs cells slots Q cc pc ls rest oc ini σ i k z t E hml hR hL hfr hlo hc hs hrest hdg hm ht
  obtain ⟨hx, hb, hown, hts, -, hK⟩ := E
  obtain ⟨w, hw, hz, rfl⟩ := txAt_some ht
  obtain ⟨-, -, -, hbz, -, hE1, hE2, hE3, -⟩ := hK
  obtain ⟨r, hrm, hr1, hr2, hr3, hr4⟩ := mlook_some hm
  simp only at hr2 hr3
  have hv : vv b0 ex (2, z) = .ref (adK w) := by
    rw [vv_2, hz]
    have : rfv b0 ex (-(10 + (w : Int))) = some (ex (10 + w)) := by
      unfold rfv; rw [if_neg (by omega), if_pos (by omega)]; congr 2; omega
    rw [this, hex w hw]; rfl
  rw [hv]
  have hS0 := hR.S hbz hL
  have hPSat : ∀ U : State, U.heap = H → s.WarmedH U.vm → PS adK adV b0 tF U := fun U hU hW => by
    refine ⟨?_, ?_, ?_⟩
    · rw [hU]; exact (hE1.moved hW.alike).kept hS0.2.1
    · rw [hU]; exact (hE2.moved hW.alike).kept hS0.2.1
    · rw [hU]; exact (hE3.moved hW.alike).kept hS0.2.1
  have hrecv : ∃ cell : Cell, H[adK w]? = some cell ∧ cell.vm.isStatics = false ∧ s.vm.findClass "java/lang/String" = some cell.cls := by
    obtain ⟨cell, h1, h2, h3, -⟩ := (hE1 w hw).1.kept hS0.2.1
    exact ⟨cell, h1, h2, h3⟩
  refine ⟨fun hk kk => ?_, fun hk j hj0 hj1 kk => ?_⟩
  · subst hk
    unfold mlchk at hr4; rw [hr2] at hr4
    have hlk := List.mem_of_getElem? (of_decide_eq_true hr4)
    rw [hr1] at hlk
    refine cgH (run_VJ (qc := JLen) (As := []) (b := adK w) (rest := rest) (mc := 0) (ms := 0) hx hb hml hown hts JLen_c ⟨by decide, by decide, by decide +kernel⟩ (j_len l (adK := adK) (adV := adV) (b0 := b0) (tF := tF) hw 0) (gi hlk) (gi (List.mem_of_getElem? (i := 898) (by decide +kernel))) (gi (List.mem_of_getElem? (i := 899) (by decide +kernel))) (gi (List.mem_of_getElem? (i := 148) (by decide +kernel))) ⟨by omega, by show 8 + (1 + 11) + 100 * (0 + 1) ≤ R.locals; omega⟩ ⟨PS.blind _, hrecv, fun U hU hW => ⟨rfl, hPSat U hU hW⟩⟩ rfl hrest hdg ⟨hc, hs⟩) (fun _ _ _ h => h) ?_
    rw [ofNat_oI, ← (tx_ok w hw).1]
    exact kk
  · subst hk
    unfold mlchk at hr4; rw [hr2] at hr4
    have hlk := List.mem_of_getElem? (of_decide_eq_true hr4)
    rw [hr1] at hlk
    rw [(tx_ok w hw).1] at hj1
    have hjl : (w32 j).toNat < lenS.getD w 0 := by omega
    have hj : oI j = nI (w32 j).toNat := by
      show oI j = Int32.ofNat _
      rw [ofNat_oI, Int.toNat_of_nonneg hj0, oI_w]
    rw [hj]
    refine cgH (run_VJ (qc := JChr) (As := [.int (nI (w32 j).toNat)]) (b := adK w) (rest := rest) (mc := 0) (ms := 0) hx hb hml hown hts JChr_c ⟨by decide, by decide, by decide +kernel⟩ (j_chr l (adK := adK) (adV := adV) (b0 := b0) (tF := tF) hw hjl 0) (gi hlk) (gi (List.mem_of_getElem? (i := 908) (by decide +kernel))) (gi (List.mem_of_getElem? (i := 909) (by decide +kernel))) (gi (List.mem_of_getElem? (i := 148) (by decide +kernel))) ⟨by omega, by show 8 + (2 + 11) + 100 * (0 + 3) ≤ R.locals; omega⟩ ⟨PS.blind _, hrecv, fun U hU hW => ⟨rfl, hPSat U hU hW⟩⟩ rfl hrest hdg ⟨hc, hs⟩) (fun _ _ _ h => h) ?_
    rw [(tx_ok w hw).2 _ hjl]
    exact kk
