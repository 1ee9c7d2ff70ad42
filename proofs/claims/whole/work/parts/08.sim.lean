/-! ===== one instruction: the machine follows the pure one (printed by wip/gen/sim.py) ===== -/
def ilen (ins : Instr) : Nat := match ins with
  | .bipush _ => 2
  | .sipush _ => 3
  | .ldc _ => 2
  | .ldc_w _ => 3
  | .ldc2_w _ => 3
  | .iload _ => 2
  | .lload _ => 2
  | .aload _ => 2
  | .istore _ => 2
  | .lstore _ => 2
  | .astore _ => 2
  | .iinc _ _ => 3
  | .ifCond _ _ => 3
  | .if_icmp _ _ => 3
  | .ifnull _ => 3
  | .ifnonnull _ => 3
  | .goto _ => 3
  | .getfield _ => 3
  | .putfield _ => 3
  | .newarray _ => 2
  | .anewarray _ => 3
  | .new _ => 3
  | .invokevirtual _ => 3
  | .invokespecial _ => 3
  | .invokestatic _ => 3
  | _ => 1
def okLen (ins : Instr) (len : Nat) : Bool := match ins with
  | .tableswitch _ _ _ _ => true
  | _ => len == ilen ins
section SIM
variable {p : Program} {l : Launch} {e : Env} {R : Room} {s : State} {m : MethodId} {args : Array Value} {below : List Frame} {meth : Method} {c : Code} {H : Heap} {locs : List Loc} {Q : State → Prop}
variable {cc : ByteArray} {pc : Nat} {ls : Array Slot} {oc : Nat} {ini : Bool} {D : va_G} {b0 : Nat} {ex : Nat → Nat} {aC : Nat → ClassId} {Hb : Heap} {sc : Nat × (Nat → Int)} {ExS : State → Prop} {σ : St}
/-- texts: an ldc of the i-th text, given by what ExS says -/
def LdcOK (ex : Nat → Nat) (ExS : State → Prop) : Prop := ∀ (U : State), ExS U → ∀ (oc i : Nat) (q : Nat × Int), klook oc i = some q → q.1 = 2 → 0 ≤ q.2 ∧ ∃ tx, vk_R (cN oc) i tx (ex (10 + q.2.toNat)) U
theorem vv_ref2 {b0 : Nat} {ex : Nat → Nat} (x : Int) : vv b0 ex (2, x) = .null ∨ ∃ a, vv b0 ex (2, x) = .ref a := by
  rw [vv_2]; cases h : rfv b0 ex x with
  | none => exact Or.inl rfl
  | some a => exact Or.inr ⟨a, rfl⟩
set_option maxHeartbeats 4000000 in
set_option maxRecDepth 100000 in
theorem sim_pst (hld : LdcOK ex ExS) (E : EnvOK p s m args meth c cc oc ini D b0 ex aC Hb sc ExS) (hR : Rel D b0 ex aC Hb σ H) (hL : LocOK b0 locs) {L S : List V} (hv : lvR b0 ex ls L) {ins : Instr} {len : Nat} (hdg : decode cc pc = .ok (ins, len)) (hlen : okLen ins len = true)
    {pc' : Nat} {L' S' : List V} {σ' : St} (h : pst oc ini sc pc L S σ ins = some (pc', L', S', σ')) {c0 s0 : Nat} (hc0 : c0 ≤ σ.1.length) (hs0 : s0 ≤ σ.2.1) (hcR : σ'.1.length - c0 ≤ R.cells) (hsR : σ'.2.1 - s0 ≤ R.slots)
    (kk : ∀ (ls' : Array Slot) (H' : Heap) (locs' : List Loc), lvR b0 ex ls' L' → Rel D b0 ex aC Hb σ' H' → LocOK b0 locs' → W p l e R s m args below meth c H' locs' (σ'.1.length - c0) (σ'.2.1 - s0) Q (F0 m pc' ls' (S'.map (vv b0 ex)))) :
    W p l e R s m args below meth c H locs (σ.1.length - c0) (σ.2.1 - s0) Q (F0 m pc ls (S.map (vv b0 ex))) := by
  obtain ⟨hx, hb, hown, hts, hini, hK⟩ := id E
  cases ins
  all_goals try (cases h; done)
  all_goals try (have hlen : len = _ := of_decide_eq_true hlen; subst hlen)
  case aconst_null =>
    cases h
    exact lv_null hx hb hdg (kk ls H locs hv hR hL)
  case iconst i =>
    cases h
    exact lv_iconst hx hb hdg rfl (kk ls H locs hv hR hL)
  case bipush n =>
    change (if b8 n = n then _ else none) = _ at h
    split at h
    · rename_i hn; cases h
      refine lv_bipush hx hb hdg rfl ?_
      have e : (Int8.ofInt n).toInt32 = oI n := by
        rw [← Int32.toInt_inj, Int8.toInt_toInt32, Int8.toInt_ofInt, oI_toInt]
        have h8 : n.bmod 256 = n := hn
        rw [show (Int8.size : Nat) = 256 from rfl, h8]
        have := w32_id (a := n) (by rw [← h8, Int.bmod_def]; omega) (by rw [← h8, Int.bmod_def]; omega)
        exact this.symm
      rw [e]; exact kk ls H locs hv hR hL
    · cases h
  case sipush n =>
    change (if n.bmod 65536 = n then _ else none) = _ at h
    split at h
    · rename_i hn; cases h
      refine lv_sipush hx hb hdg rfl ?_
      have e : (Int16.ofInt n).toInt32 = oI n := by
        rw [← Int32.toInt_inj, Int16.toInt_toInt32, Int16.toInt_ofInt, oI_toInt]
        have h8 : n.bmod 65536 = n := hn
        rw [show (Int16.size : Nat) = 65536 from rfl, h8]
        have := w32_id (a := n) (by rw [← h8, Int.bmod_def]; omega) (by rw [← h8, Int.bmod_def]; omega)
        exact this.symm
      rw [e]; exact kk ls H locs hv hR hL
    · cases h
  case lconst n =>
    cases h
    exact lv_lconst hx hb hdg rfl (kk ls H locs hv hR hL)
  case ldc i =>
    obtain ⟨⟨t, q⟩, hq, h⟩ := Option.bind_eq_some_iff.mp h
    dsimp only at h
    split at h
    · rename_i h0; cases h
      exact lv_ldc hx hb hown (hts _ (gi ((klook_some hq).1 h0))) hdg (kk ls H locs hv hR hL)
    · split at h
      · rename_i h0; cases h
        obtain ⟨hq0, tx, hZ⟩ := hld s hK.2.2.2.2.2 oc i _ hq h0
        refine va_ldcS hx hb hown hZ hdg ?_
        have := kk ls H locs hv hR hL
        simp only at hq0
        have e9 : rfv b0 ex (-(10 + q)) = some (ex (10 + q.toNat)) := by
          unfold rfv; rw [if_neg (by omega), if_pos (by omega)]; congr 2; omega
        rw [List.map_cons, vv_2, e9] at this
        exact this
      · cases h
  case ldc_w i =>
    obtain ⟨⟨t, q⟩, hq, h⟩ := Option.bind_eq_some_iff.mp h
    dsimp only at h
    split at h
    · rename_i h0; cases h
      exact lv_ldcw hx hb hown (hts _ (gi ((klook_some hq).1 h0))) hdg (kk ls H locs hv hR hL)
    · cases h
  case ldc2_w i =>
    obtain ⟨⟨t, q⟩, hq, h⟩ := Option.bind_eq_some_iff.mp h
    dsimp only at h
    split at h
    · rename_i h0; cases h
      exact lv_ldc2 hx hb hown (hts _ (gi ((klook_some hq).2 h0))) hdg (kk ls H locs hv hR hL)
    · cases h
  case iload i =>
    obtain ⟨x, hl, h⟩ := Option.bind_eq_some_iff.mp h
    cases h
    exact lv_iload hx hb hdg (hv.ld hl (by decide)).2 (kk ls H locs hv hR hL)
  case iload_n i =>
    obtain ⟨x, hl, h⟩ := Option.bind_eq_some_iff.mp h
    cases h
    exact lv_iload_n hx hb hdg rfl (hv.ld hl (by decide)).2 (kk ls H locs hv hR hL)
  case lload i =>
    obtain ⟨x, hl, h⟩ := Option.bind_eq_some_iff.mp h
    cases h
    exact lv_lload hx hb hdg (hv.ld hl (by decide)).2 (kk ls H locs hv hR hL)
  case lload_n i =>
    obtain ⟨x, hl, h⟩ := Option.bind_eq_some_iff.mp h
    cases h
    exact lv_lload_n hx hb hdg rfl (hv.ld hl (by decide)).2 (kk ls H locs hv hR hL)
  case aload i =>
    obtain ⟨x, hl, h⟩ := Option.bind_eq_some_iff.mp h
    cases h
    have hls := (hv.ld hl (by decide)).2
    have hkk := kk ls H locs hv hR hL
    rw [List.map_cons] at hkk
    rcases vv_ref2 (b0 := b0) (ex := ex) x with hr | ⟨a, hr⟩
    · rw [hr] at hls hkk; exact lv_aloadN hx hb hdg hls hkk
    · rw [hr] at hls hkk; exact lv_aload hx hb hdg hls hkk
  case aload_n i =>
    obtain ⟨x, hl, h⟩ := Option.bind_eq_some_iff.mp h
    cases h
    have hls := (hv.ld hl (by decide)).2
    have hkk := kk ls H locs hv hR hL
    rw [List.map_cons] at hkk
    rcases vv_ref2 (b0 := b0) (ex := ex) x with hr | ⟨a, hr⟩
    · rw [hr] at hls hkk; exact lv_aload_nN hx hb hdg rfl hls hkk
    · rw [hr] at hls hkk; exact lv_aload_n hx hb hdg rfl hls hkk
  case istore i =>
    obtain ⟨⟨x, S1⟩, hqx, h9⟩ := Option.bind_eq_some_iff.mp h
    clear h
    obtain rfl := popT_some hqx
    have h := h9
    clear h9
    dsimp only at h
    split at h
    · rename_i hi; cases h
      exact lv_istore hx hb hdg hv.has hi rfl (fun ls2 h2 => kk ls2 H locs (lvR.s1 (v := (0, x)) (by show (0 : Nat) ≠ 9; decide) h2) hR hL)
    · cases h
  case lstore i =>
    obtain ⟨⟨x, S1⟩, hqx, h9⟩ := Option.bind_eq_some_iff.mp h
    clear h
    obtain rfl := popT_some hqx
    have h := h9
    clear h9
    dsimp only at h
    split at h
    · rename_i hi; cases h
      exact lv_lstore hx hb hdg hv.has hi rfl (fun ls2 h2 => kk ls2 H locs (lvR.s2 (v := (1, x)) (by show (1 : Nat) ≠ 9; decide) h2) hR hL)
    · cases h
  case astore i =>
    obtain ⟨⟨x, S1⟩, hqx, h9⟩ := Option.bind_eq_some_iff.mp h
    clear h
    obtain rfl := popT_some hqx
    have h := h9
    clear h9
    dsimp only at h
    split at h
    · rename_i hi; cases h
      have hkk := fun ls2 h2 => kk ls2 H locs (lvR.s1 (v := (2, x)) (i := i) (L := L) (by show (2 : Nat) ≠ 9; decide) h2) hR hL
      rw [List.map_cons]
      rcases vv_ref2 (b0 := b0) (ex := ex) x with hr | ⟨a, hr⟩
      · rw [hr] at hkk ⊢; exact lv_astoreN hx hb hdg hv.has hi rfl hkk
      · rw [hr] at hkk ⊢; exact lv_astore hx hb hdg hv.has hi rfl hkk
    · cases h
  case istore_n i =>
    obtain ⟨⟨x, S1⟩, hqx, h9⟩ := Option.bind_eq_some_iff.mp h
    clear h
    obtain rfl := popT_some hqx
    have h := h9
    clear h9
    dsimp only at h
    split at h
    · rename_i hi; cases h
      exact lv_istore_n hx hb hdg rfl hv.has hi rfl (fun ls2 h2 => kk ls2 H locs (lvR.s1 (v := (0, x)) (by show (0 : Nat) ≠ 9; decide) h2) hR hL)
    · cases h
  case lstore_n i =>
    obtain ⟨⟨x, S1⟩, hqx, h9⟩ := Option.bind_eq_some_iff.mp h
    clear h
    obtain rfl := popT_some hqx
    have h := h9
    clear h9
    dsimp only at h
    split at h
    · rename_i hi; cases h
      exact lv_lstore_n hx hb hdg rfl hv.has hi rfl (fun ls2 h2 => kk ls2 H locs (lvR.s2 (v := (1, x)) (by show (1 : Nat) ≠ 9; decide) h2) hR hL)
    · cases h
  case astore_n i =>
    obtain ⟨⟨x, S1⟩, hqx, h9⟩ := Option.bind_eq_some_iff.mp h
    clear h
    obtain rfl := popT_some hqx
    have h := h9
    clear h9
    dsimp only at h
    split at h
    · rename_i hi; cases h
      have hkk := fun ls2 h2 => kk ls2 H locs (lvR.s1 (v := (2, x)) (i := i) (L := L) (by show (2 : Nat) ≠ 9; decide) h2) hR hL
      rw [List.map_cons]
      rcases vv_ref2 (b0 := b0) (ex := ex) x with hr | ⟨a, hr⟩
      · rw [hr] at hkk ⊢; exact lv_astore_nN hx hb hdg rfl hv.has hi rfl hkk
      · rw [hr] at hkk ⊢; exact lv_astore_n hx hb hdg rfl hv.has hi rfl hkk
    · cases h
  case iinc i n =>
    obtain ⟨x, hl, h⟩ := Option.bind_eq_some_iff.mp h
    cases h
    obtain ⟨hli, hls⟩ := hv.ld hl (by decide)
    have hi : i < L.length := (List.getElem?_eq_some_iff.mp hli).1
    obtain ⟨k, hk⟩ := List.getElem?_of_mem (lvl_mem.mpr ⟨(0, x), hli, by show (0 : Nat) ≠ 9; decide, rfl⟩ : (i, vv b0 ex (0, x)) ∈ lvl b0 ex L)
    refine lv_iinc hx hb hdg hv.has hk rfl hi rfl (fun ls2 h2 => kk ls2 H locs (lvR.s1 (v := (0, x + n)) (by show (0 : Nat) ≠ 9; decide) ?_) hR hL)
    rw [vv_0, oI_add]; exact h2
  case iadd =>
    obtain ⟨⟨b, S1⟩, hqb, h9⟩ := Option.bind_eq_some_iff.mp h
    clear h
    obtain rfl := popT_some hqb
    have h := h9
    clear h9
    obtain ⟨⟨a, S2⟩, hqa, h9⟩ := Option.bind_eq_some_iff.mp h
    clear h
    obtain rfl := popT_some hqa
    have h := h9
    clear h9
    cases h
    refine lv_iadd hx hb hdg ?_
    rw [← oI_add]
    exact kk ls H locs hv hR hL
  case isub =>
    obtain ⟨⟨b, S1⟩, hqb, h9⟩ := Option.bind_eq_some_iff.mp h
    clear h
    obtain rfl := popT_some hqb
    have h := h9
    clear h9
    obtain ⟨⟨a, S2⟩, hqa, h9⟩ := Option.bind_eq_some_iff.mp h
    clear h
    obtain rfl := popT_some hqa
    have h := h9
    clear h9
    cases h
    refine lv_isub hx hb hdg ?_
    rw [← oI_sub]
    exact kk ls H locs hv hR hL
  case imul =>
    obtain ⟨⟨b, S1⟩, hqb, h9⟩ := Option.bind_eq_some_iff.mp h
    clear h
    obtain rfl := popT_some hqb
    have h := h9
    clear h9
    obtain ⟨⟨a, S2⟩, hqa, h9⟩ := Option.bind_eq_some_iff.mp h
    clear h
    obtain rfl := popT_some hqa
    have h := h9
    clear h9
    cases h
    refine lv_imul hx hb hdg ?_
    rw [← oI_mul]
    exact kk ls H locs hv hR hL
  case ladd =>
    obtain ⟨⟨b, S1⟩, hqb, h9⟩ := Option.bind_eq_some_iff.mp h
    clear h
    obtain rfl := popT_some hqb
    have h := h9
    clear h9
    obtain ⟨⟨a, S2⟩, hqa, h9⟩ := Option.bind_eq_some_iff.mp h
    clear h
    obtain rfl := popT_some hqa
    have h := h9
    clear h9
    cases h
    refine lv_ladd hx hb hdg ?_
    rw [← oL_add]
    exact kk ls H locs hv hR hL
  case lsub =>
    obtain ⟨⟨b, S1⟩, hqb, h9⟩ := Option.bind_eq_some_iff.mp h
    clear h
    obtain rfl := popT_some hqb
    have h := h9
    clear h9
    obtain ⟨⟨a, S2⟩, hqa, h9⟩ := Option.bind_eq_some_iff.mp h
    clear h
    obtain rfl := popT_some hqa
    have h := h9
    clear h9
    cases h
    refine lv_lsub hx hb hdg ?_
    rw [← oL_sub]
    exact kk ls H locs hv hR hL
  case lmul =>
    obtain ⟨⟨b, S1⟩, hqb, h9⟩ := Option.bind_eq_some_iff.mp h
    clear h
    obtain rfl := popT_some hqb
    have h := h9
    clear h9
    obtain ⟨⟨a, S2⟩, hqa, h9⟩ := Option.bind_eq_some_iff.mp h
    clear h
    obtain rfl := popT_some hqa
    have h := h9
    clear h9
    cases h
    refine lv_lmul hx hb hdg ?_
    rw [← oL_mul]
    exact kk ls H locs hv hR hL
  case iand =>
    obtain ⟨⟨b, S1⟩, hqb, h9⟩ := Option.bind_eq_some_iff.mp h
    clear h
    obtain rfl := popT_some hqb
    have h := h9
    clear h9
    obtain ⟨⟨a, S2⟩, hqa, h9⟩ := Option.bind_eq_some_iff.mp h
    clear h
    obtain rfl := popT_some hqa
    have h := h9
    clear h9
    cases h
    refine lv_iand hx hb hdg ?_
    have hkk := kk ls H locs hv hR hL; rw [List.map_cons, vv_0, show oI (iand a b) = _ from oI_self _] at hkk; exact hkk
  case ior =>
    obtain ⟨⟨b, S1⟩, hqb, h9⟩ := Option.bind_eq_some_iff.mp h
    clear h
    obtain rfl := popT_some hqb
    have h := h9
    clear h9
    obtain ⟨⟨a, S2⟩, hqa, h9⟩ := Option.bind_eq_some_iff.mp h
    clear h
    obtain rfl := popT_some hqa
    have h := h9
    clear h9
    cases h
    refine lv_ior hx hb hdg ?_
    have hkk := kk ls H locs hv hR hL; rw [List.map_cons, vv_0, show oI (ior a b) = _ from oI_self _] at hkk; exact hkk
  case ixor =>
    obtain ⟨⟨b, S1⟩, hqb, h9⟩ := Option.bind_eq_some_iff.mp h
    clear h
    obtain rfl := popT_some hqb
    have h := h9
    clear h9
    obtain ⟨⟨a, S2⟩, hqa, h9⟩ := Option.bind_eq_some_iff.mp h
    clear h
    obtain rfl := popT_some hqa
    have h := h9
    clear h9
    cases h
    refine lv_ixor hx hb hdg ?_
    have hkk := kk ls H locs hv hR hL; rw [List.map_cons, vv_0, show oI (ixor a b) = _ from oI_self _] at hkk; exact hkk
  case ishl =>
    obtain ⟨⟨b, S1⟩, hqb, h9⟩ := Option.bind_eq_some_iff.mp h
    clear h
    obtain rfl := popT_some hqb
    have h := h9
    clear h9
    obtain ⟨⟨a, S2⟩, hqa, h9⟩ := Option.bind_eq_some_iff.mp h
    clear h
    obtain rfl := popT_some hqa
    have h := h9
    clear h9
    cases h
    refine lv_ishl hx hb hdg ?_
    have hkk := kk ls H locs hv hR hL; rw [List.map_cons, vv_0, show oI (ishl a b) = _ from oI_self _] at hkk; exact hkk
  case ishr =>
    obtain ⟨⟨b, S1⟩, hqb, h9⟩ := Option.bind_eq_some_iff.mp h
    clear h
    obtain rfl := popT_some hqb
    have h := h9
    clear h9
    obtain ⟨⟨a, S2⟩, hqa, h9⟩ := Option.bind_eq_some_iff.mp h
    clear h
    obtain rfl := popT_some hqa
    have h := h9
    clear h9
    cases h
    refine lv_ishr hx hb hdg ?_
    have hkk := kk ls H locs hv hR hL; rw [List.map_cons, vv_0, show oI (ishr a b) = _ from oI_self _] at hkk; exact hkk
  case iushr =>
    obtain ⟨⟨b, S1⟩, hqb, h9⟩ := Option.bind_eq_some_iff.mp h
    clear h
    obtain rfl := popT_some hqb
    have h := h9
    clear h9
    obtain ⟨⟨a, S2⟩, hqa, h9⟩ := Option.bind_eq_some_iff.mp h
    clear h
    obtain rfl := popT_some hqa
    have h := h9
    clear h9
    cases h
    refine lv_iushr hx hb hdg rfl ?_
    have hkk := kk ls H locs hv hR hL; rw [List.map_cons, vv_0, show oI (iushr a b) = _ from oI_self _] at hkk; exact hkk
  case land =>
    obtain ⟨⟨b, S1⟩, hqb, h9⟩ := Option.bind_eq_some_iff.mp h
    clear h
    obtain rfl := popT_some hqb
    have h := h9
    clear h9
    obtain ⟨⟨a, S2⟩, hqa, h9⟩ := Option.bind_eq_some_iff.mp h
    clear h
    obtain rfl := popT_some hqa
    have h := h9
    clear h9
    cases h
    refine lv_land hx hb hdg ?_
    have hkk := kk ls H locs hv hR hL; rw [List.map_cons, vv_1, show oL (land a b) = _ from oL_self _] at hkk; exact hkk
  case lor =>
    obtain ⟨⟨b, S1⟩, hqb, h9⟩ := Option.bind_eq_some_iff.mp h
    clear h
    obtain rfl := popT_some hqb
    have h := h9
    clear h9
    obtain ⟨⟨a, S2⟩, hqa, h9⟩ := Option.bind_eq_some_iff.mp h
    clear h
    obtain rfl := popT_some hqa
    have h := h9
    clear h9
    cases h
    refine lv_lor hx hb hdg ?_
    have hkk := kk ls H locs hv hR hL; rw [List.map_cons, vv_1, show oL (lor a b) = _ from oL_self _] at hkk; exact hkk
  case lshl =>
    obtain ⟨⟨b, S1⟩, hqb, h9⟩ := Option.bind_eq_some_iff.mp h
    clear h
    obtain rfl := popT_some hqb
    have h := h9
    clear h9
    obtain ⟨⟨a, S2⟩, hqa, h9⟩ := Option.bind_eq_some_iff.mp h
    clear h
    obtain rfl := popT_some hqa
    have h := h9
    clear h9
    cases h
    refine lv_lshl hx hb hdg rfl ?_
    have hkk := kk ls H locs hv hR hL; rw [List.map_cons, vv_1, show oL (lshl a b) = _ from oL_self _] at hkk; exact hkk
  case lshr =>
    obtain ⟨⟨b, S1⟩, hqb, h9⟩ := Option.bind_eq_some_iff.mp h
    clear h
    obtain rfl := popT_some hqb
    have h := h9
    clear h9
    obtain ⟨⟨a, S2⟩, hqa, h9⟩ := Option.bind_eq_some_iff.mp h
    clear h
    obtain rfl := popT_some hqa
    have h := h9
    clear h9
    cases h
    refine lv_lshr hx hb hdg rfl ?_
    have hkk := kk ls H locs hv hR hL; rw [List.map_cons, vv_1, show oL (lshr a b) = _ from oL_self _] at hkk; exact hkk
  case idiv =>
    obtain ⟨⟨b, S1⟩, hqb, h9⟩ := Option.bind_eq_some_iff.mp h
    clear h
    obtain rfl := popT_some hqb
    have h := h9
    clear h9
    obtain ⟨⟨a, S2⟩, hqa, h9⟩ := Option.bind_eq_some_iff.mp h
    clear h
    obtain rfl := popT_some hqa
    have h := h9
    clear h9
    dsimp only at h
    split at h
    · cases h
    · rename_i hb0; cases h
      refine lv_idiv hx hb hdg (by rw [oI_eq0]; exact hb0) ?_
      rw [← oI_div]; exact kk ls H locs hv hR hL
  case irem =>
    obtain ⟨⟨b, S1⟩, hqb, h9⟩ := Option.bind_eq_some_iff.mp h
    clear h
    obtain rfl := popT_some hqb
    have h := h9
    clear h9
    obtain ⟨⟨a, S2⟩, hqa, h9⟩ := Option.bind_eq_some_iff.mp h
    clear h
    obtain rfl := popT_some hqa
    have h := h9
    clear h9
    dsimp only at h
    split at h
    · cases h
    · rename_i hb0; cases h
      refine lv_irem hx hb hdg (by rw [oI_eq0]; exact hb0) ?_
      rw [← oI_rem]; exact kk ls H locs hv hR hL
  case ldiv =>
    obtain ⟨⟨b, S1⟩, hqb, h9⟩ := Option.bind_eq_some_iff.mp h
    clear h
    obtain rfl := popT_some hqb
    have h := h9
    clear h9
    obtain ⟨⟨a, S2⟩, hqa, h9⟩ := Option.bind_eq_some_iff.mp h
    clear h
    obtain rfl := popT_some hqa
    have h := h9
    clear h9
    dsimp only at h
    split at h
    · cases h
    · rename_i hb0; cases h
      refine lv_ldiv hx hb hdg (by rw [oL_eq0]; exact hb0) ?_
      rw [← oL_div]; exact kk ls H locs hv hR hL
  case lrem =>
    obtain ⟨⟨b, S1⟩, hqb, h9⟩ := Option.bind_eq_some_iff.mp h
    clear h
    obtain rfl := popT_some hqb
    have h := h9
    clear h9
    obtain ⟨⟨a, S2⟩, hqa, h9⟩ := Option.bind_eq_some_iff.mp h
    clear h
    obtain rfl := popT_some hqa
    have h := h9
    clear h9
    dsimp only at h
    split at h
    · cases h
    · rename_i hb0; cases h
      refine lv_lrem hx hb hdg (by rw [oL_eq0]; exact hb0) ?_
      rw [← oL_rem]; exact kk ls H locs hv hR hL
  case ineg =>
    obtain ⟨⟨a, S1⟩, hqa, h9⟩ := Option.bind_eq_some_iff.mp h
    clear h
    obtain rfl := popT_some hqa
    have h := h9
    clear h9
    cases h
    refine lv_ineg hx hb hdg ?_
    rw [← oI_neg]; exact kk ls H locs hv hR hL
  case lcmp =>
    obtain ⟨⟨b, S1⟩, hqb, h9⟩ := Option.bind_eq_some_iff.mp h
    clear h
    obtain rfl := popT_some hqb
    have h := h9
    clear h9
    obtain ⟨⟨a, S2⟩, hqa, h9⟩ := Option.bind_eq_some_iff.mp h
    clear h
    obtain rfl := popT_some hqa
    have h := h9
    clear h9
    cases h
    refine W.lcmp hx hb hdg ?_
    rw [oI_cmp]; exact kk ls H locs hv hR hL
  case i2l =>
    obtain ⟨⟨a, S1⟩, hqa, h9⟩ := Option.bind_eq_some_iff.mp h
    clear h
    obtain rfl := popT_some hqa
    have h := h9
    clear h9
    cases h
    refine lv_i2l hx hb hdg rfl ?_
    rw [oI_l]; exact kk ls H locs hv hR hL
  case l2i =>
    obtain ⟨⟨a, S1⟩, hqa, h9⟩ := Option.bind_eq_some_iff.mp h
    clear h
    obtain rfl := popT_some hqa
    have h := h9
    clear h9
    cases h
    refine lv_l2i hx hb hdg rfl ?_
    rw [oL_i]; exact kk ls H locs hv hR hL
  case i2b =>
    obtain ⟨⟨a, S1⟩, hqa, h9⟩ := Option.bind_eq_some_iff.mp h
    clear h
    obtain rfl := popT_some hqa
    have h := h9
    clear h9
    cases h
    refine lv_i2b hx hb hdg rfl ?_
    rw [oI_b]; exact kk ls H locs hv hR hL
  case dup =>
    match S, h with
    | v :: S1, h =>
      change (if v.1 = 1 ∨ v.1 = 9 then none else some _) = _ at h
      split at h
      · cases h
      · rename_i hc; cases h
        exact lv_dup hx hb hdg (by rw [vv_cat, if_neg (by omega)]) (kk ls H locs hv hR hL)
  case pop =>
    match S, h with
    | v :: S1, h =>
      change (if v.1 = 1 ∨ v.1 = 9 then none else some _) = _ at h
      split at h
      · cases h
      · rename_i hc; cases h
        exact lv_pop hx hb hdg (by rw [vv_cat, if_neg (by omega)]) (kk ls H locs hv hR hL)
  case dup2 =>
    match S, h with
    | v :: u :: S1, h =>
      change (if v.1 = 1 ∨ v.1 = 9 ∨ u.1 = 1 ∨ u.1 = 9 then none else some _) = _ at h
      split at h
      · cases h
      · rename_i hc; cases h
        exact lv_dup2_11 hx hb hdg (by rw [vv_cat, if_neg (by omega)]) (by rw [vv_cat, if_neg (by omega)]) (kk ls H locs hv hR hL)
  case ifCond cd off =>
    obtain ⟨⟨a, S1⟩, hqa, h9⟩ := Option.bind_eq_some_iff.mp h
    clear h
    obtain rfl := popT_some hqa
    have h := h9
    clear h9
    obtain ⟨t, ht, h⟩ := Option.bind_eq_some_iff.mp h
    cases h
    have ht := jmp_some ht
    cases cd
    case eq =>
      have hkk := kk ls H locs hv hR hL
      dsimp only at hkk
      refine lv_if_eq hx hb hdg ht (fun hc => ?_) (fun hc => ?_)
      · rw [if_pos (show tcond .eq (w32 a) 0 = true from decide_eq_true ((oI_eq a 0).mp hc))] at hkk; exact hkk
      · rw [if_neg (show ¬ tcond .eq (w32 a) 0 = true from fun q => hc ((oI_eq a 0).mpr (of_decide_eq_true q)))] at hkk; exact hkk
    case ne =>
      have hkk := kk ls H locs hv hR hL
      dsimp only at hkk
      refine lv_if_ne hx hb hdg ht (fun hc => ?_) (fun hc => ?_)
      · rw [if_pos (show tcond .ne (w32 a) 0 = true from decide_eq_true (fun q => hc ((oI_eq a 0).mpr q)))] at hkk; exact hkk
      · rw [if_neg (show ¬ tcond .ne (w32 a) 0 = true from fun q => (of_decide_eq_true q : _ ≠ _) ((oI_eq a 0).mp hc))] at hkk; exact hkk
    case lt =>
      have hkk := kk ls H locs hv hR hL
      dsimp only at hkk
      refine lv_if_lt hx hb hdg ht (fun hc => ?_) (fun hc => ?_)
      · rw [if_pos (show tcond .lt (w32 a) 0 = true from decide_eq_true ((oI_lt a 0).mp hc))] at hkk; exact hkk
      · rw [if_neg (show ¬ tcond .lt (w32 a) 0 = true from fun q => hc ((oI_lt a 0).mpr (of_decide_eq_true q)))] at hkk; exact hkk
    case ge =>
      have hkk := kk ls H locs hv hR hL
      dsimp only at hkk
      refine lv_if_ge hx hb hdg ht (fun hc => ?_) (fun hc => ?_)
      · rw [if_pos (show tcond .ge (w32 a) 0 = true from decide_eq_true ((oI_le 0 a).mp hc))] at hkk; exact hkk
      · rw [if_neg (show ¬ tcond .ge (w32 a) 0 = true from fun q => hc ((oI_le 0 a).mpr (of_decide_eq_true q)))] at hkk; exact hkk
    case gt =>
      have hkk := kk ls H locs hv hR hL
      dsimp only at hkk
      refine lv_if_gt hx hb hdg ht (fun hc => ?_) (fun hc => ?_)
      · rw [if_pos (show tcond .gt (w32 a) 0 = true from decide_eq_true ((oI_lt 0 a).mp hc))] at hkk; exact hkk
      · rw [if_neg (show ¬ tcond .gt (w32 a) 0 = true from fun q => hc ((oI_lt 0 a).mpr (of_decide_eq_true q)))] at hkk; exact hkk
    case le =>
      have hkk := kk ls H locs hv hR hL
      dsimp only at hkk
      refine lv_if_le hx hb hdg ht (fun hc => ?_) (fun hc => ?_)
      · rw [if_pos (show tcond .le (w32 a) 0 = true from decide_eq_true ((oI_le a 0).mp hc))] at hkk; exact hkk
      · rw [if_neg (show ¬ tcond .le (w32 a) 0 = true from fun q => hc ((oI_le a 0).mpr (of_decide_eq_true q)))] at hkk; exact hkk
  case if_icmp cd off =>
    obtain ⟨⟨b, S1⟩, hqb, h9⟩ := Option.bind_eq_some_iff.mp h
    clear h
    obtain rfl := popT_some hqb
    have h := h9
    clear h9
    obtain ⟨⟨a, S2⟩, hqa, h9⟩ := Option.bind_eq_some_iff.mp h
    clear h
    obtain rfl := popT_some hqa
    have h := h9
    clear h9
    obtain ⟨t, ht, h⟩ := Option.bind_eq_some_iff.mp h
    cases h
    have ht := jmp_some ht
    cases cd
    case eq =>
      have hkk := kk ls H locs hv hR hL
      dsimp only at hkk
      refine lv_icmp_eq hx hb hdg ht (fun hc => ?_) (fun hc => ?_)
      · rw [if_pos (show tcond .eq (w32 a) (w32 b) = true from decide_eq_true ((oI_eq a b).mp hc))] at hkk; exact hkk
      · rw [if_neg (show ¬ tcond .eq (w32 a) (w32 b) = true from fun q => hc ((oI_eq a b).mpr (of_decide_eq_true q)))] at hkk; exact hkk
    case ne =>
      have hkk := kk ls H locs hv hR hL
      dsimp only at hkk
      refine lv_icmp_ne hx hb hdg ht (fun hc => ?_) (fun hc => ?_)
      · rw [if_pos (show tcond .ne (w32 a) (w32 b) = true from decide_eq_true (fun q => hc ((oI_eq a b).mpr q)))] at hkk; exact hkk
      · rw [if_neg (show ¬ tcond .ne (w32 a) (w32 b) = true from fun q => (of_decide_eq_true q : _ ≠ _) ((oI_eq a b).mp hc))] at hkk; exact hkk
    case lt =>
      have hkk := kk ls H locs hv hR hL
      dsimp only at hkk
      refine lv_icmp_lt hx hb hdg ht (fun hc => ?_) (fun hc => ?_)
      · rw [if_pos (show tcond .lt (w32 a) (w32 b) = true from decide_eq_true ((oI_lt a b).mp hc))] at hkk; exact hkk
      · rw [if_neg (show ¬ tcond .lt (w32 a) (w32 b) = true from fun q => hc ((oI_lt a b).mpr (of_decide_eq_true q)))] at hkk; exact hkk
    case ge =>
      have hkk := kk ls H locs hv hR hL
      dsimp only at hkk
      refine lv_icmp_ge hx hb hdg ht (fun hc => ?_) (fun hc => ?_)
      · rw [if_pos (show tcond .ge (w32 a) (w32 b) = true from decide_eq_true ((oI_le b a).mp hc))] at hkk; exact hkk
      · rw [if_neg (show ¬ tcond .ge (w32 a) (w32 b) = true from fun q => hc ((oI_le b a).mpr (of_decide_eq_true q)))] at hkk; exact hkk
    case gt =>
      have hkk := kk ls H locs hv hR hL
      dsimp only at hkk
      refine lv_icmp_gt hx hb hdg ht (fun hc => ?_) (fun hc => ?_)
      · rw [if_pos (show tcond .gt (w32 a) (w32 b) = true from decide_eq_true ((oI_lt b a).mp hc))] at hkk; exact hkk
      · rw [if_neg (show ¬ tcond .gt (w32 a) (w32 b) = true from fun q => hc ((oI_lt b a).mpr (of_decide_eq_true q)))] at hkk; exact hkk
    case le =>
      have hkk := kk ls H locs hv hR hL
      dsimp only at hkk
      refine lv_icmp_le hx hb hdg ht (fun hc => ?_) (fun hc => ?_)
      · rw [if_pos (show tcond .le (w32 a) (w32 b) = true from decide_eq_true ((oI_le a b).mp hc))] at hkk; exact hkk
      · rw [if_neg (show ¬ tcond .le (w32 a) (w32 b) = true from fun q => hc ((oI_le a b).mpr (of_decide_eq_true q)))] at hkk; exact hkk
  case ifnull off =>
    obtain ⟨⟨a, S1⟩, hqa, h9⟩ := Option.bind_eq_some_iff.mp h
    clear h
    obtain rfl := popT_some hqa
    have h := h9
    clear h9
    obtain ⟨t, ht, h⟩ := Option.bind_eq_some_iff.mp h
    cases h
    have ht := jmp_some ht
    have hkk := kk ls H locs hv hR hL
    rw [List.map_cons]
    by_cases ha : a = -1
    · subst ha; rw [if_pos rfl] at hkk; exact lv_ifnullN hx hb hdg ht hkk
    · rw [if_neg ha] at hkk
      rw [vv_2, show rfv b0 ex a = some (if a < 0 then ex (-a).toNat else b0 + a.toNat) by unfold rfv; rw [if_neg ha]; split <;> rfl]; exact lv_ifnull hx hb hdg hkk
  case ifnonnull off =>
    obtain ⟨⟨a, S1⟩, hqa, h9⟩ := Option.bind_eq_some_iff.mp h
    clear h
    obtain rfl := popT_some hqa
    have h := h9
    clear h9
    obtain ⟨t, ht, h⟩ := Option.bind_eq_some_iff.mp h
    cases h
    have ht := jmp_some ht
    have hkk := kk ls H locs hv hR hL
    rw [List.map_cons]
    by_cases ha : a = -1
    · subst ha; rw [if_pos rfl] at hkk; exact lv_ifnonnullN hx hb hdg hkk
    · rw [if_neg ha] at hkk
      rw [vv_2, show rfv b0 ex a = some (if a < 0 then ex (-a).toNat else b0 + a.toNat) by unfold rfv; rw [if_neg ha]; split <;> rfl]; exact lv_ifnonnull hx hb hdg ht hkk
  case goto off =>
    obtain ⟨t, ht, h⟩ := Option.bind_eq_some_iff.mp h
    cases h
    exact lv_goto hx hb hdg (jmp_some ht) (kk ls H locs hv hR hL)
  case tableswitch d lo hi offs =>
    obtain ⟨⟨a, S1⟩, hqa, h9⟩ := Option.bind_eq_some_iff.mp h
    clear h
    obtain rfl := popT_some hqa
    have h := h9
    clear h9
    obtain ⟨t, ht, h⟩ := Option.bind_eq_some_iff.mp h
    have ht := jmp_some ht
    dsimp only at h ht
    split at h
    · rename_i hc; cases h
      by_cases hout : w32 a < lo ∨ hi < w32 a
      · rw [if_pos hout] at ht
        exact lv_tableOut hx hb hdg (by rw [oI_toInt]; exact hout) ht (kk ls H locs hv hR hL)
      · rw [if_neg hout] at ht
        have hs : (offs[(w32 a - lo).toNat]?).isSome := by rcases hc with h1 | h1 | h1; exact absurd (Or.inl h1) hout; exact absurd (Or.inr h1) hout; exact h1
        obtain ⟨off, ho⟩ := Option.isSome_iff_exists.mp hs
        rw [ho] at ht
        exact lv_tableIn hx hb hdg (by rw [oI_toInt]; exact fun q => hout (Or.inl q)) (by rw [oI_toInt]; exact fun q => hout (Or.inr q)) (by rw [oI_toInt]; exact ho) ht (kk ls H locs hv hR hL)
    · cases h
  case getfield i =>
    obtain ⟨⟨a, S1⟩, hqa, h9⟩ := Option.bind_eq_some_iff.mp h
    clear h
    obtain rfl := popT_some hqa
    have h := h9
    clear h9
    obtain ⟨f, hf, h⟩ := Option.bind_eq_some_iff.mp h
    dsimp only at h
    split at h
    · rename_i hz; cases h
      exact ow_get E hR hf hz hdg (kk ls H locs hv hR hL)
    · cases h
  case putfield i =>
    obtain ⟨f, hf, h⟩ := Option.bind_eq_some_iff.mp h
    obtain ⟨⟨x, S1⟩, hqx, h9⟩ := Option.bind_eq_some_iff.mp h
    clear h
    obtain rfl := popT_some hqx
    have h := h9
    clear h9
    obtain ⟨⟨a, S2⟩, hqa, h9⟩ := Option.bind_eq_some_iff.mp h
    clear h
    obtain rfl := popT_some hqa
    have h := h9
    clear h9
    dsimp only at h
    split at h
    · rename_i hz; cases h
      exact ow_put E hR hL hf hz.1 hz.2.1 hz.2.2 hdg (fun H1 l1 h1 h2 => kk ls H1 l1 hv h1 h2)
    · cases h
  case arraylength =>
    obtain ⟨⟨a, S1⟩, hqa, h9⟩ := Option.bind_eq_some_iff.mp h
    clear h
    obtain rfl := popT_some hqa
    have h := h9
    clear h9
    dsimp only at h
    split at h
    · rename_i ha; cases h; obtain ⟨-, rfl⟩ := ha
      exact ow_slen E hR hL hdg (kk ls H locs hv hR hL)
    · obtain ⟨k, hk, h⟩ := Option.bind_eq_some_iff.mp h
      split at h
      · cases h
      · rename_i h0; cases h
        exact ow_alen E hR h0 hk hdg (kk ls H locs hv hR hL)
  case iaload =>
    obtain ⟨⟨i, S1⟩, hqi, h9⟩ := Option.bind_eq_some_iff.mp h
    clear h
    obtain rfl := popT_some hqi
    have h := h9
    clear h9
    obtain ⟨⟨a, S2⟩, hqa, h9⟩ := Option.bind_eq_some_iff.mp h
    clear h
    obtain rfl := popT_some hqa
    have h := h9
    clear h9
    dsimp only at h
    split at h
    · rename_i ha; obtain ⟨-, rfl⟩ := ha
      split at h
      · rename_i hi; cases h
        exact ow_sld E hR hL hi hdg (kk ls H locs hv hR hL)
      · cases h
    · obtain ⟨⟨k, n⟩, hk, h⟩ := Option.bind_eq_some_iff.mp h
      dsimp only at h
      split at h
      · rename_i h0; cases h; obtain ⟨rfl, h0⟩ := h0
        exact ow_iald E hR hk h0 hdg (kk ls H locs hv hR hL)
      · cases h
  case laload =>
    obtain ⟨⟨i, S1⟩, hqi, h9⟩ := Option.bind_eq_some_iff.mp h
    clear h
    obtain rfl := popT_some hqi
    have h := h9
    clear h9
    obtain ⟨⟨a, S2⟩, hqa, h9⟩ := Option.bind_eq_some_iff.mp h
    clear h
    obtain rfl := popT_some hqa
    have h := h9
    clear h9
    obtain ⟨⟨k, n⟩, hk, h⟩ := Option.bind_eq_some_iff.mp h
    dsimp only at h
    split at h
    · rename_i h0; cases h; obtain ⟨rfl, h0⟩ := h0
      exact ow_lald E hR hk h0 hdg (kk ls H locs hv hR hL)
    · cases h
  case baload =>
    obtain ⟨⟨i, S1⟩, hqi, h9⟩ := Option.bind_eq_some_iff.mp h
    clear h
    obtain rfl := popT_some hqi
    have h := h9
    clear h9
    obtain ⟨⟨a, S2⟩, hqa, h9⟩ := Option.bind_eq_some_iff.mp h
    clear h
    obtain rfl := popT_some hqa
    have h := h9
    clear h9
    obtain ⟨⟨k, n⟩, hk, h⟩ := Option.bind_eq_some_iff.mp h
    dsimp only at h
    split at h
    · rename_i h0; cases h; obtain ⟨hkk, h0⟩ := h0
      exact ow_bald E hR hkk hk h0 hdg (kk ls H locs hv hR hL)
    · cases h
  case aaload =>
    obtain ⟨⟨i, S1⟩, hqi, h9⟩ := Option.bind_eq_some_iff.mp h
    clear h
    obtain rfl := popT_some hqi
    have h := h9
    clear h9
    obtain ⟨⟨a, S2⟩, hqa, h9⟩ := Option.bind_eq_some_iff.mp h
    clear h
    obtain rfl := popT_some hqa
    have h := h9
    clear h9
    obtain ⟨⟨k, n⟩, hk, h⟩ := Option.bind_eq_some_iff.mp h
    dsimp only at h
    split at h
    · rename_i h0; cases h; obtain ⟨hkk, h0⟩ := h0
      exact ow_aald E hR hkk hk h0 hdg (kk ls H locs hv hR hL)
    · cases h
  case iastore =>
    obtain ⟨⟨x, S0⟩, hqx, h9⟩ := Option.bind_eq_some_iff.mp h
    clear h
    obtain rfl := popT_some hqx
    have h := h9
    clear h9
    obtain ⟨⟨i, S1⟩, hqi, h9⟩ := Option.bind_eq_some_iff.mp h
    clear h
    obtain rfl := popT_some hqi
    have h := h9
    clear h9
    obtain ⟨⟨a, S2⟩, hqa, h9⟩ := Option.bind_eq_some_iff.mp h
    clear h
    obtain rfl := popT_some hqa
    have h := h9
    clear h9
    obtain ⟨⟨k, n⟩, hk, h⟩ := Option.bind_eq_some_iff.mp h
    dsimp only at h
    split at h
    · rename_i h0; cases h; obtain ⟨rfl, h0⟩ := h0
      exact ow_iast E hR hL hk h0 hdg (fun H1 l1 h1 h2 => kk ls H1 l1 hv h1 h2)
    · cases h
  case lastore =>
    obtain ⟨⟨x, S0⟩, hqx, h9⟩ := Option.bind_eq_some_iff.mp h
    clear h
    obtain rfl := popT_some hqx
    have h := h9
    clear h9
    obtain ⟨⟨i, S1⟩, hqi, h9⟩ := Option.bind_eq_some_iff.mp h
    clear h
    obtain rfl := popT_some hqi
    have h := h9
    clear h9
    obtain ⟨⟨a, S2⟩, hqa, h9⟩ := Option.bind_eq_some_iff.mp h
    clear h
    obtain rfl := popT_some hqa
    have h := h9
    clear h9
    obtain ⟨⟨k, n⟩, hk, h⟩ := Option.bind_eq_some_iff.mp h
    dsimp only at h
    split at h
    · rename_i h0; cases h; obtain ⟨rfl, h0⟩ := h0
      exact ow_last E hR hL hk h0 hdg (fun H1 l1 h1 h2 => kk ls H1 l1 hv h1 h2)
    · cases h
  case bastore =>
    obtain ⟨⟨x, S0⟩, hqx, h9⟩ := Option.bind_eq_some_iff.mp h
    clear h
    obtain rfl := popT_some hqx
    have h := h9
    clear h9
    obtain ⟨⟨i, S1⟩, hqi, h9⟩ := Option.bind_eq_some_iff.mp h
    clear h
    obtain rfl := popT_some hqi
    have h := h9
    clear h9
    obtain ⟨⟨a, S2⟩, hqa, h9⟩ := Option.bind_eq_some_iff.mp h
    clear h
    obtain rfl := popT_some hqa
    have h := h9
    clear h9
    obtain ⟨⟨k, n⟩, hk, h⟩ := Option.bind_eq_some_iff.mp h
    dsimp only at h
    split at h
    · rename_i h0; cases h; obtain ⟨rfl, h0⟩ := h0
      exact ow_bast E hR hL hk h0 hdg (fun H1 l1 h1 h2 => kk ls H1 l1 hv h1 h2)
    · split at h
      · rename_i h0; cases h; obtain ⟨rfl, h0, h1, h2⟩ := h0
        exact ow_zast E hR hL hk ⟨h0, h1⟩ h2 hdg (fun H1 l1 h1 h2 => kk ls H1 l1 hv h1 h2)
      · cases h
  case aastore =>
    obtain ⟨⟨x, S0⟩, hqx, h9⟩ := Option.bind_eq_some_iff.mp h
    clear h
    obtain rfl := popT_some hqx
    have h := h9
    clear h9
    obtain ⟨⟨i, S1⟩, hqi, h9⟩ := Option.bind_eq_some_iff.mp h
    clear h
    obtain rfl := popT_some hqi
    have h := h9
    clear h9
    obtain ⟨⟨a, S2⟩, hqa, h9⟩ := Option.bind_eq_some_iff.mp h
    clear h
    obtain rfl := popT_some hqa
    have h := h9
    clear h9
    obtain ⟨⟨k, n⟩, hk, h⟩ := Option.bind_eq_some_iff.mp h
    dsimp only at h
    split at h
    · rename_i hm; subst hm
      split at h
      · rename_i h0; cases h; obtain ⟨hq, h1, h2⟩ := h0
        exact ow_aastN E hR hL hq hk ⟨h1, h2⟩ hdg (fun H1 l1 h1 h2 => kk ls H1 l1 hv h1 h2)
      · cases h
    · obtain ⟨⟨o0, ci⟩, ho, h⟩ := Option.bind_eq_some_iff.mp h
      dsimp only at h
      split at h
      · rename_i h0; cases h; obtain ⟨rfl, hq, h1, h2⟩ := h0
        exact ow_aast E hR hL hq hk ho ⟨h1, h2⟩ hdg (fun H1 l1 h1 h2 => kk ls H1 l1 hv h1 h2)
      · cases h
  case newarray t =>
    obtain ⟨⟨n, S1⟩, hqn, h9⟩ := Option.bind_eq_some_iff.mp h
    clear h
    obtain rfl := popT_some hqn
    have h := h9
    clear h9
    obtain ⟨k, hk, h⟩ := Option.bind_eq_some_iff.mp h
    dsimp only at h
    split at h
    · rename_i hn; cases h
      have ec : (push1 σ (k, (w32 n).toNat) (w32 n).toNat (fun _ => 0)).1.length - c0 = σ.1.length - c0 + 1 := by simp only [push1, List.length_append, List.length_cons, List.length_nil]; omega
      have es : (push1 σ (k, (w32 n).toNat) (w32 n).toNat (fun _ => 0)).2.1 - s0 = σ.2.1 - s0 + (w32 n).toNat := by simp only [push1]; omega
      rw [ec] at hcR kk; rw [es] at hsR kk
      exact ow_newa E hR hk hn hcR hsR hdg (fun H1 h1 => kk ls H1 locs hv h1 hL)
    · cases h
  case anewarray i =>
    obtain ⟨⟨n, S1⟩, hqn, h9⟩ := Option.bind_eq_some_iff.mp h
    clear h
    obtain rfl := popT_some hqn
    have h := h9
    clear h9
    obtain ⟨ci, hl, h⟩ := Option.bind_eq_some_iff.mp h
    obtain ⟨k, hk, h⟩ := Option.bind_eq_some_iff.mp h
    dsimp only at h
    split at h
    · rename_i hn; cases h
      have ec : (push1 σ (k, (w32 n).toNat) (w32 n).toNat (fun _ => -1)).1.length - c0 = σ.1.length - c0 + 1 := by simp only [push1, List.length_append, List.length_cons, List.length_nil]; omega
      have es : (push1 σ (k, (w32 n).toNat) (w32 n).toNat (fun _ => -1)).2.1 - s0 = σ.2.1 - s0 + (w32 n).toNat := by simp only [push1]; omega
      rw [ec] at hcR kk; rw [es] at hsR kk
      exact ow_newq E hR hl hk hn hcR hsR hdg (fun H1 h1 => kk ls H1 locs hv h1 hL)
    · cases h
  case new i =>
    obtain ⟨ci, hl, h⟩ := Option.bind_eq_some_iff.mp h
    split at h
    · rename_i hn; cases h
      have ec : (push1 σ (0, ci) (fnum ci) (fun k => if ftag ci k = 2 then -1 else 0)).1.length - c0 = σ.1.length - c0 + 1 := by simp only [push1, List.length_append, List.length_cons, List.length_nil]; omega
      have es : (push1 σ (0, ci) (fnum ci) (fun k => if ftag ci k = 2 then -1 else 0)).2.1 - s0 = σ.2.1 - s0 + fnum ci := by simp only [push1]; omega
      rw [ec] at hcR kk; rw [es] at hsR kk
      exact ow_new E hR hl hn hcR hsR hdg (fun H1 h1 => kk ls H1 locs hv h1 hL)
    · cases h
end SIM
