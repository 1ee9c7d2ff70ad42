theorem texts_of {b : Nat} {s : State} (hgv : (Jvm.Cond.and given_1 narrow_1).before #[Value.ref b] s = true) (hts : ∀ w ∈ lw_tbl, w.before #[Value.ref b] s = true) : ∃ (adK adV : Nat → Nat) (tF : Option Nat), ExT s.heap.size adK adV tF s.heap s := by
  have hs : ∀ c ∈ givS, c.before #[Value.ref b] s = true := flat_of_before _ hgv
  have hA : ∀ a : Nat, a < s.heap.size → ¬ Ab s.heap.size a := fun a h => by unfold Ab; omega
  have h0 : ∀ i : Nat, ∃ q : Nat × Nat, i < 41 → (tmS i).eval #[Value.ref b] s none [] s = some (.ref q.1) ∧ va_O "java/lang/String" q.1 (Ab s.heap.size) s s.heap ∧ va_OF "java/lang/String" "coder" "B" (.int 0) q.1 (Ab s.heap.size) s s.heap ∧ va_OF "java/lang/String" "value" "[B" (.ref q.2) q.1 (Ab s.heap.size) s s.heap ∧ va_T .byte q.2 (lenS.getD i 0) (fun j => .int ((bytS.getD i []).getD j 0)) (Ab s.heap.size) s s.heap := by
    intro i
    by_cases hi : i < 41
    · obtain ⟨a, c, cA, kA, q1, q2, q3, q4, q5, q6, -⟩ := Cond.exactly_spec (args := #[Value.ref b]) (first := s) (o := none) (s := s) (idx := []) (t := tmS i) (cls := "java/lang/String") (hs _ (gS_ex i hi))
      obtain ⟨t, ht, hT⟩ := va_Tof (f := fun j => .int ((bytS.getD i []).getD j 0)) (A := Ab s.heap.size) (len31 i hi) (hs _ (gS_ar i hi)) (va_eqt (hs _ (gS_le i hi))) (fun j hj => va_eqt (hs _ (gS_el i hi j hj))) hA
      exact ⟨(a, t), fun _ => ⟨q1, ⟨cA, q3, q5, by rw [q6]; exact q2, hA a (Array.getElem?_eq_some_iff.mp q3).1⟩, vk_OFof q1 (va_eqt (hs _ (gS_co i hi))) hA, vk_OFof q1 ht hA, hT⟩⟩
    · exact ⟨(0, 0), fun h => absurd h hi⟩
  obtain ⟨ad, had⟩ := Classical.axiomOfChoice h0
  obtain ⟨tF, hF⟩ : ∃ tF : Option Nat, va_Z "jdk/internal/util/Preconditions" "SIOOBE_FORMATTER" "Ljava/util/function/BiFunction;" (va_rf tF) (Ab s.heap.size) s s.heap := by
    rcases va_Zqof (A := Ab s.heap.size) (hts _ (List.mem_of_getElem? (i := 922) (by decide +kernel))) (hts _ (List.mem_of_getElem? (i := 150) (by decide +kernel))) (hs _ gS_cs.2) hA with h | ⟨t, h⟩
    · exact ⟨none, h⟩
    · exact ⟨some t, h⟩
  refine ⟨fun i => (ad i).1, fun i => (ad i).2, tF, fun i hi => (had i hi).2, va_Zof (hts _ (List.mem_of_getElem? (i := 906) (by decide +kernel))) (hts _ (List.mem_of_getElem? (i := 148) (by decide +kernel))) (va_eqi (hs _ gS_cs.1)) hA, hF, fun i hi => ?_⟩
  have e1 := (had i hi).1
  exact vk_R.of (A := #[Value.ref b]) (hts _ (gS_sr i hi)) e1
theorem arr_of {args : Array Value} {s : State} {ty : FieldType} (h : (Cond.arrayClass ty).before args s = true) : ∃ cA : ClassId, ArrOfT s cA ty ∧ s.vm.findClass ("[" ++ ty.toString) = some cA := by
  obtain ⟨c, k, comp, h1, h2, h3⟩ := Cond.arrayClass_spec h
  exact ⟨c, fun n z => ⟨fun k h => (by cases h), k, h2, comp, h3⟩, h1⟩
theorem over_of {args : Array Value} {s : State} {C : String} (h : (Cond.arrayOver (.object C)).before args s = true) : ∃ cA : ClassId, ArrOfT s cA (.object C) ∧ va_RA s cA (.object C) := by
  obtain ⟨comp, c, k, h1, h2, h3, h4, h5⟩ := Cond.arrayOver_spec h
  exact ⟨c, fun n z => ⟨fun k h => (by cases h), k, h3, comp, h4⟩, k, comp, h3, h4, h1, h5⟩
/-- the law's run in the pure machine, from nothing -/
def PureLaw (sc : Nat × (Nat → Int)) : Prop := ∃ (n : Nat) (sh : Shp) (sl : Nat) (h : Sto), exF sc n 800 282 0 [(2, -2), (9, 0), (9, 0), (9, 0)] [] ([], 0, fun _ _ => 0) = some ((0, 1), sh, sl, h) ∧ sh.length ≤ 600000 ∧ sl ≤ 7302250
theorem law_in : MTL[282]? = some (⟨"StampQuarrelsLaw", "law", "([I)Z"⟩, code, 4, some .boolean, 13, 1, 0) := m_282
set_option maxHeartbeats 1000000 in
theorem start_of {p : Program} {e : Env} {s : State} {m : MethodId} {below : List Frame} {meth : Method} {c : Code} (l : Launch) {b L : Nat} {xs : Nat → Int32}
    (hx : p.tables.exec = Jvm.exec) (hb : c.code = code) (hr : meth.sig.returnType = ret) (hml : c.maxLocals = 4) (hown : s.vm.findClass "StampQuarrelsLaw" = some m.cls) (hts : ∀ w ∈ lw_tbl, w.before #[Value.ref b] s = true) (hX : va_X b L xs s s.heap) (hbl : b < s.heap.size) (hlocks : meth.locks = false)
    (ex : Nat → Nat) (hex : ex 2 = b) (ExS : State → Prop) (hEx : ExS s) (hSur : ∀ D aC, Sur s.heap.size ex D aC s.heap (L, fun j => (xs j).toInt) ExS) (hp : PureLaw (L, fun j => (xs j).toInt))
    (lwZ : State → Prop) (hZ : ∀ (pc : Nat) (ls : Array Slot) (H : Heap), decode code pc = .ok (.ireturn, 1) → W p l e room_1 s m #[Value.ref b] below meth c H [] 600000 7302250 lwZ (F0 m pc ls [.int 1])) :
    W p l e room_1 s m #[Value.ref b] below meth c s.heap [] 0 0 lwZ (entryFrame m ([Value.ref b] : List Value).toArray 4) := by
  obtain ⟨n, sh, sl, h, hrun, hc, hs⟩ := hp
  have hg : ∀ w ∈ lw_g, w.before #[Value.ref b] s = true := fun w hw => hts w (List.mem_filter.mp hw).1
  have hKn : ∀ (ci : Nat) (q : vw_C), cls[ci]? = some q → ∃ (cC : ClassId) (iS : Nat → Nat), u_Kn s q.1 q.2.1 q.2.2 cC iS := by
    intro ci q hq
    obtain ⟨c1, -, -, -, ⟨c5, -⟩, -⟩ := cls_ok ci q hq
    exact u_known hg c1 (hg _ c5)
  obtain ⟨dC, dI, hD⟩ : ∃ (dC : Nat → ClassId) (dI : Nat → Nat → Nat), ∀ (k : Nat) (q : vw_C), cls[k]? = some q → u_Kn s q.1 q.2.1 q.2.2 (dC k) (dI k) := by
    have h0 : ∀ k : Nat, ∃ q : ClassId × (Nat → Nat), ∀ r, cls[k]? = some r → u_Kn s r.1 r.2.1 r.2.2 q.1 q.2 := by
      intro k
      cases hk : cls[k]? with
      | none => exact ⟨(0, fun _ => 0), fun r hr => by cases hr⟩
      | some r =>
        obtain ⟨cC, iS, h⟩ := hKn k r hk
        exact ⟨(cC, iS), fun r2 hr => by cases hr; exact h⟩
    obtain ⟨f, hf⟩ := Classical.axiomOfChoice h0
    exact ⟨fun k => (f k).1, fun k => (f k).2, fun k q hq => hf k q hq⟩
  obtain ⟨a1, x1, y1⟩ := arr_of (hts (Cond.arrayClass .int) (List.mem_of_getElem? (i := 181) (by decide +kernel)))
  obtain ⟨a2, x2, y2⟩ := arr_of (hts (Cond.arrayClass .long) (List.mem_of_getElem? (i := 410) (by decide +kernel)))
  obtain ⟨a3, x3, y3⟩ := arr_of (hts (Cond.arrayClass .byte) (List.mem_of_getElem? (i := 323) (by decide +kernel)))
  obtain ⟨a4, x4, y4⟩ := arr_of (hts (Cond.arrayClass .boolean) (List.mem_of_getElem? (i := 322) (by decide +kernel)))
  have o5 := hts (Cond.arrayOver (.object "StampQuarrels$Script")) (List.mem_of_getElem? (i := 169) (by decide +kernel))
  have o6 := hts (Cond.arrayOver (.object "StampQuarrels$State")) (List.mem_of_getElem? (i := 260) (by decide +kernel))
  obtain ⟨a5, x5, y5⟩ := over_of o5
  obtain ⟨a6, x6, y6⟩ := over_of o6
  have hK : va_K (dC, dI) cls (tysF (fun k => match k with | 1 => a1 | 2 => a2 | 3 => a3 | 4 => a4 | 5 => a5 | _ => a6)) s := by
    refine ⟨hD, fun k q hk => ?_⟩
    match k, hk with
    | 0, hk => cases hk; exact ⟨x1, y1⟩
    | 1, hk => cases hk; exact ⟨x2, y2⟩
    | 2, hk => cases hk; exact ⟨x3, y3⟩
    | 3, hk => cases hk; exact ⟨x4, y4⟩
    | 4, hk => cases hk; exact ⟨x5, y5⟩
    | 5, hk => cases hk; exact ⟨x6, y6⟩
    | k + 6, hk => simp [tysF] at hk
  generalize (fun k : Nat => match k with | 1 => a1 | 2 => a2 | 3 => a3 | 4 => a4 | 5 => a5 | _ => a6) = aC at hK
  have hX' : va_X (ex 2) L (fun j => oI (xs j).toInt) s s.heap := by
    rw [hex]
    have : (fun j => oI (xs j).toInt) = xs := by funext j; exact oI_self _
    rw [this]; exact hX
  have hRK : RelK (dC, dI) s.heap.size ex aC s.heap (L, fun j => (xs j).toInt) ExS s := ⟨hK, hX', by rw [hex]; exact hbl, rfl, ⟨va_AO.of o5, va_AO.of o6⟩, hEx⟩
  have hl := lv_entry ([.ref b]) (n := 4) (Nat.le_of_ble_eq_true rfl)
  rw [lg_entry_eq]
  generalize (lg_sl ([.ref b]) ++ List.replicate (4 - (lg_sl ([.ref b])).length) Slot.unset).toArray = ls at hl ⊢
  have hv2 : vv s.heap.size ex (2, -2) = .ref b := by
    show va_rf (rfv s.heap.size ex (-2)) = _
    unfold rfv
    rw [if_neg (by decide), if_pos (by decide), show (-(-2) : Int).toNat = 2 from rfl, hex]; rfl
  have hlv : lvR s.heap.size ex ls [(2, -2), (9, 0), (9, 0), (9, 0)] := by
    have := ent_lvR (b0 := s.heap.size) (ex := ex) (A := [(2, -2)]) (n := 4) (ls := ls) (by decide) (by show lv_has ls 4 (lv_args 0 [vv s.heap.size ex (2, -2)]); rw [hv2]; exact hl)
    exact this
  have hR0 : Rel (dC, dI) s.heap.size ex aC s.heap ([], 0, fun _ _ => 0) s.heap := ⟨by simp, fun k sh0 hk => by simp at hk, fun _ _ => rfl⟩
  have E : EnvOK p s m #[Value.ref b] meth c code 13 (decide ("law" = "<init>")) (dC, dI) s.heap.size ex aC s.heap (L, fun j => (xs j).toInt) ExS := ⟨hx, hb, hown, hg, fun hi => absurd (of_decide_eq_true hi) (by decide), hRK⟩
  obtain ⟨hgr, hF⟩ := frameP (L, fun j => (xs j).toInt) n 800 282 0 _ _ _ _ _ hrun
  have := hF _ law_in (dC, dI) s.heap.size ex aC s.heap ExS (hSur _ _) p l e room_1 s m #[Value.ref b] below meth c s.heap [] ls lwZ 0 0 E (by decide) (by decide) hR0 (fun x hx => by cases hx) hlv (by rw [hml]; exact hlv.1.symm) (Nat.zero_le _) (Nat.zero_le _) hc hs ?_
  · exact this
  · intro pcr ls' H' locs' ins S' hd hrv hR' hL'
    have hS : ins = .ireturn ∧ S' = [(0, 1)] := by
      unfold retV at hrv
      split at hrv
      · rename_i hrt; cases hrt
      · split at hrv
        · cases hrv; exact ⟨rfl, rfl⟩
        · cases hrv
      · rename_i hrt; cases hrt
      · rename_i hrt; cases hrt
      · rename_i hrt; cases hrt
      · cases hrv
    obtain ⟨rfl, rfl⟩ := hS
    refine va_forget (fun q hq => hL' q hq) (W.widen (k := 600000) (n := 7302250) hc hs ?_)
    exact hZ pcr ls' H' hd
/-- THE LAW, from its entry, out of its pure run -/
theorem whole_of {p : Program} {e : Env} {s : State} {m : MethodId} {below : List Frame} {meth : Method} {c : Code} (l : Launch) {b L : Nat} {xs : Nat → Int32}
    (hx : p.tables.exec = Jvm.exec) (hb : c.code = code) (hr : meth.sig.returnType = ret) (hml : c.maxLocals = 4) (hown : s.vm.findClass "StampQuarrelsLaw" = some m.cls) (hts : ∀ w ∈ lw_tbl, w.before #[Value.ref b] s = true) (hX : va_X b L xs s s.heap) (hbl : b < s.heap.size) (hlocks : meth.locks = false) (hgv : (Jvm.Cond.and given_1 narrow_1).before #[Value.ref b] s = true)
    (hp : PureLaw (L, fun j => (xs j).toInt)) (lwZ : State → Prop) (hZ : ∀ (pc : Nat) (ls : Array Slot) (H : Heap), decode code pc = .ok (.ireturn, 1) → W p l e room_1 s m #[Value.ref b] below meth c H [] 600000 7302250 lwZ (F0 m pc ls [.int 1])) :
    W p l e room_1 s m #[Value.ref b] below meth c s.heap [] 0 0 lwZ (entryFrame m ([Value.ref b] : List Value).toArray 4) := by
  obtain ⟨adK, adV, tF, hT⟩ := texts_of hgv hts
  have hex : ∀ i, i < 41 → (fun k : Nat => if k = 2 then b else adK (k - 10)) (10 + i) = adK i := by
    intro i hi
    show (if 10 + i = 2 then b else adK (10 + i - 10)) = adK i
    rw [if_neg (by omega)]; congr 1; omega
  exact start_of l hx hb hr hml hown hts hX hbl hlocks (fun k => if k = 2 then b else adK (k - 10)) rfl (ExT s.heap.size adK adV tF s.heap) hT (fun D aC => ⟨ldc_ok hex, str_ok hex, ExT.warm, ExT.same⟩) hp lwZ hZ
