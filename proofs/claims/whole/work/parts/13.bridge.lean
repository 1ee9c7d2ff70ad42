/-! ===== THE BRIDGE, its induction ===== -/
theorem cg {p : Program} {l : Launch} {e : Env} {R : Room} {s : State} {m : MethodId} {args : Array Value} {below : List Frame} {meth : Method} {c : Code} {H : Heap} {locs : List Loc} {cells slots mc ms pc : Nat} {Q : State → Prop} {ls : Array Slot} {rest st0 : List Value} {Qa : State → Outcome → State → Prop} {free : Addr → Prop}
    (hr : va_Run p l e R s m args below meth c H locs cells slots mc ms (F0 m pc ls st0) rest Qa free)
    (kk : ∀ (v : Option Value) (st₀ t : State) (H1 : Heap) (L : List Loc), t.heap = H1 → Qa st₀ (.returned v) t → (∀ q ∈ L, free q.base) → W p l e R s m args below meth c H1 (locs ++ L) (cells + mc) (slots + ms) Q (F0 m (pc + 3) ls (v.toList ++ rest))) :
    W p l e R s m args below meth c H locs cells slots Q (F0 m pc ls st0) := by
  intro T hT X
  obtain ⟨v, st₀, t, T', L, h0, X', hL, e1, e2, hq, st⟩ := hr T hT X
  obtain ⟨t2, a1, b1⟩ := kk v st₀ t T'.heap L e1.symm hq hL T' rfl X'
  exact ⟨t2, st t2 a1, b1⟩
theorem pcY_blind {D : va_G} {b0 : Nat} {ex : Nat → Nat} {aC : Nat → ClassId} {Hb : Heap} {sc : Nat × (Nat → Int)} {ExS : State → Prop} (hE : ∀ u U : State, U.vm = u.vm → ExS u → ExS U) (A : List V) (σ : St) : FrameBlind (PcY D b0 ex aC Hb sc ExS A σ) := by
  intro a U g mk h
  obtain ⟨h1, h2, h3⟩ := h
  exact ⟨h1, h2.same hE (u := U) (U := U.calling g mk a) rfl, h3⟩
theorem pushR_map {b0 : Nat} {ex : Nat → Nat} (r : V) (S : List V) : (rv b0 ex r).toList ++ S.map (vv b0 ex) = (pushR r S).map (vv b0 ex) := by
  unfold rv pushR
  split <;> rfl
theorem insAt_some {y pc : Nat} {ii : Instr × Nat} (h : insAt y pc = some ii) : ∃ q, MTL[y]? = some q ∧ decode q.2.1 pc = .ok ii := by
  unfold insAt at h
  split at h
  · rename_i q hq
    split at h
    · rename_i r hr; cases h; exact ⟨q, hq, hr⟩
    · cases h
  · cases h
theorem ocOf_eq {y : Nat} {q : ME} (h : MTL[y]? = some q) : ocOf y = q.2.2.2.2.1 := by unfold ocOf; rw [h]
theorem iniOf_eq {y : Nat} {q : ME} (h : MTL[y]? = some q) : iniOf y = decide (q.1.name = "<init>") := by unfold iniOf; rw [h]
theorem maxLOf_eq {y : Nat} {q : ME} (h : MTL[y]? = some q) : maxLOf y = q.2.2.1 := by unfold maxLOf; rw [h]
theorem retOf_eq {y : Nat} {q : ME} (h : MTL[y]? = some q) : retOf y = q.2.2.2.1 := by unfold retOf; rw [h]
theorem npOf_eq {y : Nat} {q : ME} (h : MTL[y]? = some q) : npOf y = q.2.2.2.2.2.1 := by unfold npOf; rw [h]
theorem mN_eq {y : Nat} {q : ME} (h : MT[y]? = some q) : mN y = q.1 := by unfold mN; rw [h]
theorem cidx_len {ins : Instr} {x : Nat × Nat} (h : cidx ins = some x) {len : Nat} (hl : okLen ins len = true) : len = 3 := by
  cases ins <;> first | (cases h; done) | exact of_decide_eq_true hl
theorem cidx_0 {ins : Instr} {i : Nat} (h : cidx ins = some (0, i)) : ins = .invokevirtual i := by cases ins <;> first | (cases h; done) | (cases h; rfl)
theorem cidx_1 {ins : Instr} {i : Nat} (h : cidx ins = some (1, i)) : ins = .invokespecial i := by cases ins <;> first | (cases h; done) | (cases h; rfl)
theorem cidx_2 {ins : Instr} {i : Nat} (h : cidx ins = some (2, i)) : ins = .invokestatic i := by cases ins <;> first | (cases h; done) | (cases h; rfl)
theorem retV_len {rt : Option FieldType} {ins : Instr} {S : List V} {r : V} (h : retV rt ins S = some r) {len : Nat} (hl : okLen ins len = true) : len = 1 := by
  cases ins <;> first | exact of_decide_eq_true hl | (unfold retV at h; cases h; done) | (simp [retV] at h; done)
theorem cons_of_map {b0 : Nat} {ex : Nat → Nat} {S : List V} {n : Nat} {v : V} {As : List V} (h : (S.take n).reverse = v :: As) : S.map (vv b0 ex) = (As.map (vv b0 ex)).reverse ++ vv b0 ex v :: (S.drop n).map (vv b0 ex) := by
  have h1 : S.take n = As.reverse ++ [v] := by
    have := congrArg List.reverse h
    simpa using this
  conv => lhs; rw [← List.take_append_drop n S, h1]
  simp
theorem all_of_map {b0 : Nat} {ex : Nat → Nat} {S : List V} {n : Nat} : S.map (vv b0 ex) = ((S.take n).reverse.map (vv b0 ex)).reverse ++ (S.drop n).map (vv b0 ex) := by
  conv => lhs; rw [← List.take_append_drop n S]
  simp
theorem recOK_0 {cy : Nat} {A : List V} {σ : St} (h : recOK 0 cy A σ = true) : ∃ z As, A = (2, z) :: As ∧ arrAt σ z = some (0, ocOf cy) := by
  match A, h with
  | (2, z) :: As, h => exact ⟨z, As, rfl, of_decide_eq_true h⟩
theorem recOK_1 {cy : Nat} {A : List V} {σ : St} (h : recOK 1 cy A σ = true) : ∃ z As, A = (2, z) :: As ∧ 0 ≤ z := by
  match A, h with
  | (2, z) :: As, h => exact ⟨z, As, rfl, of_decide_eq_true h⟩
theorem wsY_eq (q : ME) : wsY q = Cond.code q.1 q.2.1 q.2.2.1 q.2.2.2.1 :: lw_g := rfl
section CALLS
variable {p : Program} {l : Launch} {e : Env} {R : Room} {s : State} {m : MethodId} {args : Array Value} {below : List Frame} {meth : Method} {c : Code} {H : Heap} {locs : List Loc} {cells slots mc ms pc d0 : Nat} {ls : Array Slot} {cc : ByteArray} {own : String} {Pc : Array Value → State → Prop} {Qc : Array Value → State → Outcome → State → Prop} {free : Addr → Prop} {rest As : List Value} {b i : Nat} {qc : ME}
theorem run_V (hx : p.tables.exec = Jvm.exec) (hb : c.code = cc) (hml : c.maxLocals = ls.size) (hown : s.vm.findClass own = some m.cls) (hts : ∀ w ∈ lw_g, w.before args s = true) (hcin : qc ∈ MT) (hM : Met l qc.1 (wsY qc) (rmD d0 mc ms) Pc Qc mc ms free)
    (w1 : Cond.methodLink own i qc.1 ∈ lw_g) (w2 : Cond.instanceMethod qc.1 ∈ lw_g) (w3 : Cond.selects qc.1.cls qc.1 qc.1 ∈ lw_g) (w4 : Cond.initialized qc.1.cls ∈ lw_g) (hRm : d0 + 1 ≤ R.frames ∧ 8 + (qc.2.2.1 + 11) + 100 * d0 ≤ R.locals)
    (hp : PreV s H qc.1.cls b Pc As) (hn : As.length = qc.2.2.2.2.2.1) (hW : (rest.map fun v => v.category).sum ≤ 8) (hdg : decode cc pc = .ok (.invokevirtual i, 3)) (hf : cells + mc ≤ R.cells ∧ slots + ms ≤ R.slots) :
    va_Run p l e R s m args below meth c H locs cells slots mc ms (F0 m pc ls (As.reverse ++ .ref b :: rest)) rest (Qc (Value.ref b :: As).toArray) free := by
  obtain ⟨hpl, hne1, hne2, hdesc, hcn, hml60⟩ := mchk_all hcin
  have hG : GoodIn lw_g (wsV own i qc.1.cls qc.1 (wsY qc)) := good_pre hcin (fun w hw => by
    simp only [List.mem_cons, List.not_mem_nil, or_false] at hw
    rcases hw with rfl | rfl | rfl | rfl <;> assumption)
  exact va_runV (bytes := qc.2.1) (maxL := qc.2.2.1) (ret := qc.2.2.2.1) (n := qc.2.2.2.2.2.1) (own := own) (Ts := lw_g) ⟨hx, hb, hml, hown, hts⟩ hM (cwV qc.2.2.2.2.2.1 hts hG (wsY_eq qc) rfl rfl ⟨rfl, hne1, hne2, hdesc⟩ hRm) hp rfl hn rfl rfl (lv_room hW) hdg hf
theorem run_I (hx : p.tables.exec = Jvm.exec) (hb : c.code = cc) (hml : c.maxLocals = ls.size) (hown : s.vm.findClass own = some m.cls) (hts : ∀ w ∈ lw_g, w.before args s = true) (hcin : qc ∈ MT) (hM : Met l qc.1 (wsY qc) (rmD d0 mc ms) Pc Qc mc ms free)
    (w1 : Cond.methodLink own i qc.1 ∈ lw_g) (w2 : Cond.instanceMethod qc.1 ∈ lw_g) (w3 : qc.1.name = "<init>") (w4 : Cond.initialized qc.1.cls ∈ lw_g) (hRm : d0 + 1 ≤ R.frames ∧ 8 + (qc.2.2.1 + 11) + 100 * d0 ≤ R.locals)
    (hp : PreS s H Pc (.ref b :: As)) (hn : As.length = qc.2.2.2.2.2.1) (hW : (rest.map fun v => v.category).sum ≤ 8) (hdg : decode cc pc = .ok (.invokespecial i, 3)) (hf : cells + mc ≤ R.cells ∧ slots + ms ≤ R.slots) :
    va_Run p l e R s m args below meth c H locs cells slots mc ms (F0 m pc ls (As.reverse ++ .ref b :: rest)) rest (Qc (Value.ref b :: As).toArray) free := by
  obtain ⟨hpl, hne1, hne2, hdesc, hcn, hml60⟩ := mchk_all hcin
  have hrt := init_ret qc hcin w3
  exact va_runI (bytes := qc.2.1) (maxL := qc.2.2.1) (n := qc.2.2.2.2.2.1) (own := own) (Ts := lw_g) ⟨hx, hb, hml, hown, hts⟩ hM (cwI qc.2.2.2.2.2.1 hts (good_wsY hcin) (ws' := lw_g) (by rw [wsY_eq, hrt]) rfl rfl (hts _ w4) (hts _ w1) (hts _ w2) w3 ⟨hne1, hne2, hdesc⟩ hRm) hp rfl hn rfl rfl (lv_room hW) hdg hf
theorem run_S (hx : p.tables.exec = Jvm.exec) (hb : c.code = cc) (hml : c.maxLocals = ls.size) (hown : s.vm.findClass own = some m.cls) (hts : ∀ w ∈ lw_g, w.before args s = true) (hcin : qc ∈ MT) (hM : Met l qc.1 (wsY qc) (rmD d0 mc ms) Pc Qc mc ms free)
    (w1 : Cond.methodLink own i qc.1 ∈ lw_g) (w2 : Cond.static qc.1 ∈ lw_g) (w4 : Cond.initialized qc.1.cls ∈ lw_g) (hRm : d0 + 1 ≤ R.frames ∧ 8 + (qc.2.2.1 + 11) + 100 * d0 ≤ R.locals)
    (hp : PreS s H Pc As) (hn : As.length = qc.2.2.2.2.2.1) (hW : (rest.map fun v => v.category).sum ≤ 8) (hdg : decode cc pc = .ok (.invokestatic i, 3)) (hf : cells + mc ≤ R.cells ∧ slots + ms ≤ R.slots) :
    va_Run p l e R s m args below meth c H locs cells slots mc ms (F0 m pc ls (As.reverse ++ rest)) rest (Qc As.toArray) free := by
  obtain ⟨hpl, hne1, hne2, hdesc, hcn, hml60⟩ := mchk_all hcin
  have hG : GoodIn lw_g (va_wsS own i qc.1 (wsY qc)) := good_pre hcin (fun w hw => by
    simp only [List.mem_cons, List.not_mem_nil, or_false] at hw
    rcases hw with rfl | rfl | rfl <;> assumption)
  exact va_runS (bytes := qc.2.1) (maxL := qc.2.2.1) (ret := qc.2.2.2.1) (n := qc.2.2.2.2.2.1) (own := own) (Ts := lw_g) ⟨hx, hb, hml, hown, hts⟩ hM (va_cwS qc.2.2.2.2.2.1 hts hG (wsY_eq qc) rfl rfl ⟨hne1, hne2, hdesc⟩ hRm) hp rfl hn rfl rfl (lv_room hW) hdg hf
end CALLS
set_option maxHeartbeats 1000000 in
theorem frameP (sc : Nat × (Nat → Int)) : ∀ n, FrameP sc n := by
  intro n
  induction n with
  | zero => intro d y pc L S σ r σ' h; cases h
  | succ n ih =>
    intro d y pc L S σ r σ' h
    unfold exF at h
    obtain ⟨⟨ins, len⟩, hi, h⟩ := Option.bind_eq_some_iff.mp h
    obtain ⟨q0, hq0, hdg⟩ := insAt_some hi
    dsimp only at h
    split at h
    · rename_i hok
      split at h
      · rename_i o i hci
        obtain ⟨⟨k, cy⟩, hm, h⟩ := Option.bind_eq_some_iff.mp h
        cases d with
        | zero => cases h
        | succ d0 =>
          dsimp only at h
          have hl3 := cidx_len hci hok
          subst hl3
          rw [ocOf_eq hq0] at hm
          obtain ⟨rr, hrm, hr1, hr2, hr3, hr4⟩ := mlook_some hm
          simp only at hr2 hr3
          split at h
          · rename_i hk
            split at h
            · rename_i hc
              obtain ⟨⟨r1, σ1⟩, h1, h2⟩ := Option.bind_eq_some_iff.mp h
              dsimp only at h2
              obtain ⟨g2, F2⟩ := ih _ _ _ _ _ _ _ _ h2
              obtain ⟨g1, -⟩ := ih _ _ _ _ _ _ _ _ h1
              refine ⟨⟨Nat.le_trans g1.1 g2.1, Nat.le_trans g1.2 g2.2⟩, ?_⟩
              intro q hq D b0 ex aC Hb ExS hSur p l e R s m args below meth c H locs ls Q c0 s0 E hfr hlo hR hL hv hml hc0 hs0 hcR hsR hret
              obtain rfl : q0 = q := Option.some.inj (hq0.symm.trans hq)
              obtain ⟨hx, hb, hown, hts, hini, hK⟩ := id E
              unfold callOK at hc
              simp only [Bool.and_eq_true, decide_eq_true_eq] at hc
              obtain ⟨⟨⟨⟨⟨hko, hlen⟩, hrec⟩, hwg⟩, hflat⟩, hcy⟩ := hc
              obtain ⟨qc, hqc⟩ : ∃ qc, MT[cy]? = some qc := ⟨_, List.getElem?_eq_getElem hcy⟩
              have hcin := mt_in hqc
              obtain ⟨hpl, hne1, hne2, hdesc, hcn, hml60⟩ := mchk_all hcin
              rw [maxLOf_eq (mt_l hqc)] at hflat h1
              have hM := met_of ih hqc hflat h1 hSur l
              have hmN := mN_eq hqc
              have hW8 : (((S.drop (nargs k cy)).map (vv b0 ex)).map fun v => v.category).sum ≤ 8 := by rw [wgt_vv]; exact hwg
              have hRm : d0 + 1 ≤ R.frames ∧ 8 + (qc.2.2.1 + 11) + 100 * d0 ≤ R.locals := ⟨hfr, by omega⟩
              have hroom : σ.1.length - c0 + (σ1.1.length - σ.1.length) ≤ R.cells ∧ σ.2.1 - s0 + (σ1.2.1 - σ.2.1) ≤ R.slots := by
                obtain ⟨a1, a2⟩ := g1; obtain ⟨a3, a4⟩ := g2
                exact ⟨by omega, by omega⟩
              have go : ∀ (st0 : List Value) (Qa : State → Outcome → State → Prop), va_Run p l e R s m args below meth c H locs (σ.1.length - c0) (σ.2.1 - s0) (σ1.1.length - σ.1.length) (σ1.2.1 - σ.2.1) (F0 m pc ls st0) ((S.drop (nargs k cy)).map (vv b0 ex)) Qa (Ab b0) → (∀ st oc t, Qa st oc t → oc = .returned (rv b0 ex r1) ∧ Rel D b0 ex aC Hb σ1 t.heap) → W p l e R s m args below meth c H locs (σ.1.length - c0) (σ.2.1 - s0) Q (F0 m pc ls st0) := by
                intro st0 Qa hrun hQ
                refine cg hrun (fun v st₀ t H1 L1 ht hqa hL1 => ?_)
                obtain ⟨e1, e2⟩ := hQ _ _ _ hqa
                cases e1
                rw [ht] at e2
                have e3 : σ.1.length - c0 + (σ1.1.length - σ.1.length) = σ1.1.length - c0 := by have := g1.1; omega
                have e4 : σ.2.1 - s0 + (σ1.2.1 - σ.2.1) = σ1.2.1 - s0 := by have := g1.2; omega
                rw [e3, e4, pushR_map]
                refine F2 q0 hq D b0 ex aC Hb ExS hSur p l e R s m args below meth c H1 (locs ++ L1) ls Q c0 s0 E hfr hlo e2 ?_ hv hml (Nat.le_trans hc0 g1.1) (Nat.le_trans hs0 g1.2) hcR hsR hret
                intro x hx9
                rcases List.mem_append.mp hx9 with h9 | h9
                · exact hL x h9
                · exact hL1 x h9
              have hpreS : ∀ U : State, U.heap = H → s.WarmedH U.vm → PcY D b0 ex aC Hb sc ExS (S.take (nargs k cy)).reverse σ ((S.take (nargs k cy)).reverse.map (vv b0 ex)).toArray U := fun U hU hWm => ⟨rfl, hK.moved hSur.2.2.1 hWm, by rw [hU]; exact hR⟩
              rcases (show k = 0 ∨ k = 1 ∨ k = 2 by omega) with rfl | rfl | rfl
              · subst hko
                obtain rfl := cidx_0 hci
                · obtain ⟨z, As, hA, hz⟩ := recOK_0 hrec
                  obtain ⟨hvz, hat⟩ := hR.at_ hz
                  unfold mlchk at hr4; rw [hr2] at hr4
                  simp only [Bool.and_eq_true, decide_eq_true_eq] at hr4
                  obtain ⟨⟨⟨w1, w2⟩, w3⟩, w4⟩ := hr4
                  rw [hr3, hmN] at w1 w2 w3 w4
                  rw [hr1] at w1
                  have w1 := gi (List.mem_of_getElem? w1)
                  have w2 := gi (List.mem_of_getElem? w2)
                  have w3 := gi (List.mem_of_getElem? w3)
                  have w4 := gi (List.mem_of_getElem? w4)
                  rw [cons_of_map hA, hvz]
                  rw [hA] at hM hpreS hflat
                  have hobj : ∃ cellB : Cell, H[b0 + z.toNat]? = some cellB ∧ cellB.vm.isStatics = false ∧ s.vm.findClass qc.1.cls = some cellB.cls := by
                    obtain ⟨r9, hr9, hat9⟩ := hat
                    have hcls9 := (cls_ok _ _ hr9).2.2.2.2.2.1
                    rw [ocOf_eq (mt_l hqc), cN_of hcin] at hcls9
                    rw [hcls9]
                    exact va_recv (q0 := 0) hK.1 (one_P (q := (b0 + z.toNat, .inr (ocOf cy, objV b0 ex (ocOf cy) (σ.2.2 z.toNat)))) ⟨r9, hr9, hat9⟩) hr9 rfl
                  refine go _ _ (run_V hx hb hml hown hts hcin hM w1 w2 w3 w4 hRm ⟨pcY_blind hSur.2.2.2 _ _, hobj, fun U hU hWm => ?_⟩ ?_ hW8 hdg hroom) (fun _ _ _ hq9 => hq9)
                  · have := hpreS U hU hWm
                    rw [List.map_cons, hvz] at this
                    exact this
                  · have h9 := congrArg List.length hA
                    rw [List.length_reverse, List.length_take, List.length_cons, Nat.min_eq_left hlen] at h9
                    rw [List.length_map]
                    have : nargs 0 cy = qc.2.2.2.2.2.1 + 1 := by unfold nargs; rw [npOf_eq (mt_l hqc)]; rfl
                    omega
              · subst hko
                obtain rfl := cidx_1 hci
                · obtain ⟨z, As, hA, hz⟩ := recOK_1 hrec
                  have hvz : vv b0 ex (2, z) = .ref (b0 + z.toNat) := by rw [vv_2, rfv_nn hz]; rfl
                  unfold mlchk at hr4; rw [hr2] at hr4
                  simp only [Bool.and_eq_true, decide_eq_true_eq] at hr4
                  obtain ⟨⟨⟨w1, w2⟩, w3⟩, w4⟩ := hr4
                  rw [hr3, hmN] at w1 w2 w3 w4
                  rw [hr1] at w1
                  have w1 := gi (List.mem_of_getElem? w1)
                  have w2 := gi (List.mem_of_getElem? w2)
                  have w4 := gi (List.mem_of_getElem? w4)
                  rw [cons_of_map hA, hvz]
                  rw [hA] at hM hpreS hflat
                  refine go _ _ (run_I hx hb hml hown hts hcin hM w1 w2 w3 w4 hRm ⟨pcY_blind hSur.2.2.2 _ _, fun U hU hWm => ?_⟩ ?_ hW8 hdg hroom) (fun _ _ _ hq9 => hq9)
                  · have := hpreS U hU hWm
                    rw [List.map_cons, hvz] at this
                    exact this
                  · have h9 := congrArg List.length hA
                    rw [List.length_reverse, List.length_take, List.length_cons, Nat.min_eq_left hlen] at h9
                    rw [List.length_map]
                    have : nargs 1 cy = qc.2.2.2.2.2.1 + 1 := by unfold nargs; rw [npOf_eq (mt_l hqc)]; rfl
                    omega
              · subst hko
                obtain rfl := cidx_2 hci
                unfold mlchk at hr4; rw [hr2] at hr4
                simp only [Bool.and_eq_true, decide_eq_true_eq] at hr4
                obtain ⟨⟨w1, w2⟩, w4⟩ := hr4
                rw [hr3, hmN] at w1 w2 w4
                rw [hr1] at w1
                have w1 := gi (List.mem_of_getElem? w1)
                have w2 := gi (List.mem_of_getElem? w2)
                have w4 := gi (List.mem_of_getElem? w4)
                rw [all_of_map (n := nargs 2 cy)]
                refine go _ _ (run_S hx hb hml hown hts hcin hM w1 w2 w4 hRm ⟨pcY_blind hSur.2.2.2 _ _, hpreS⟩ ?_ hW8 hdg hroom) (fun _ _ _ hq9 => hq9)
                rw [List.length_map, List.length_reverse, List.length_take, Nat.min_eq_left hlen]
                unfold nargs; rw [npOf_eq (mt_l hqc)]; rfl
            · cases h
          · rename_i hk
            split at h
            · cases h
            · rename_i h5
              obtain ⟨⟨S1, σ1⟩, h1, h2⟩ := Option.bind_eq_some_iff.mp h
              dsimp only at h2
              obtain ⟨g2, F2⟩ := ih _ _ _ _ _ _ _ _ h2
              obtain ⟨p1, p2⟩ := prim_same h1
              simp only at p1 p2
              refine ⟨⟨by rw [← p1]; exact g2.1, by rw [← p2]; exact g2.2⟩, ?_⟩
              intro q hq D b0 ex aC Hb ExS hSur p l e R s m args below meth c H locs ls Q c0 s0 E hfr hlo hR hL hv hml hc0 hs0 hcR hsR hret
              obtain rfl : q0 = q := Option.some.inj (hq0.symm.trans hq)
              have gA := g2.1
              have gB := g2.2
              refine sim_prim hSur.2.1 E hml hR hL hci hdg hm hk h1 (by omega) (by omega) (fun h56 => ⟨by omega, by omega⟩) (by rw [← p1]; omega) (by rw [← p2]; omega) (fun H' locs' hR' hL' => ?_)
              have := F2 q0 hq D b0 ex aC Hb ExS hSur p l e R s m args below meth c H' locs' ls Q c0 s0 E hfr hlo hR' hL' hv hml (by rw [p1]; exact hc0) (by rw [p2]; exact hs0) hcR hsR hret
              rw [p1, p2] at this
              exact this
      · rename_i hci
        split at h
        · rename_i r1 hrv
          cases h
          refine ⟨gr_refl _, ?_⟩
          intro q hq D b0 ex aC Hb ExS hSur p l e R s m args below meth c H locs ls Q c0 s0 E hfr hlo hR hL hv hml hc0 hs0 hcR hsR hret
          obtain rfl : q0 = q := Option.some.inj (hq0.symm.trans hq)
          have hl1 := retV_len hrv hok
          subst hl1
          rw [retOf_eq hq0] at hrv
          exact hret pc ls H locs ins S hdg hrv hR hL
        · obtain ⟨⟨pc1, L1, S1, σ1⟩, h1, h2⟩ := Option.bind_eq_some_iff.mp h
          dsimp only at h2
          obtain ⟨g2, F2⟩ := ih _ _ _ _ _ _ _ _ h2
          have g1 := pst_grows h1
          simp only at g1
          refine ⟨⟨Nat.le_trans g1.1 g2.1, Nat.le_trans g1.2 g2.2⟩, ?_⟩
          intro q hq D b0 ex aC Hb ExS hSur p l e R s m args below meth c H locs ls Q c0 s0 E hfr hlo hR hL hv hml hc0 hs0 hcR hsR hret
          obtain rfl : q0 = q := Option.some.inj (hq0.symm.trans hq)
          rw [ocOf_eq hq0, iniOf_eq hq0] at h1
          have gA := g2.1
          have gB := g2.2
          refine sim_pst hSur.1 E hR hL hv hdg hok h1 hc0 hs0 (by omega) (by omega) (fun ls' H' locs' hv' hR' hL' => ?_)
          have hsz : ls'.size = ls.size := by
            have e1 := hv'.1
            have e2 := hv.1
            have e3 := pst_len h1
            simp only at e3
            omega
          exact F2 q0 hq D b0 ex aC Hb ExS hSur p l e R s m args below meth c H' locs' ls' Q c0 s0 E hfr hlo hR' hL' hv' (by rw [hml, hsz]) (Nat.le_trans hc0 g1.1) (Nat.le_trans hs0 g1.2) hcR hsR hret
    · cases h
