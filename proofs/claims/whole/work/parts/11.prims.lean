/-! ===== a run of the pure machine is a run of the machine (printed by wip/gen/run.py) ===== -/
section RUN
variable {p : Program} {l : Launch} {e : Env} {R : Room} {s : State} {m : MethodId} {args : Array Value} {below : List Frame} {meth : Method} {c : Code} {H : Heap} {locs : List Loc} {cells slots : Nat} {Q : State → Prop}
variable {cc : ByteArray} {pc : Nat} {ls : Array Slot} {rest : List Value} {oc : Nat} {ini : Bool} {D : va_G} {b0 : Nat} {ex : Nat → Nat} {aC : Nat → ClassId} {Hb : Heap} {sc : Nat × (Nat → Int)} {ExS : State → Prop} {σ : St}
theorem mlook_some {oc i : Nat} {kc : Nat × Nat} (h : mlook oc i = some kc) : ∃ q, q ∈ mlk oc ∧ q.1 = i ∧ q.2.1 = kc.1 ∧ q.2.2.1 = kc.2 ∧ mlchk oc q = true := by
  unfold mlook at h
  obtain ⟨r, h1, h2⟩ := Option.map_eq_some_iff.mp h
  obtain ⟨hm, he⟩ := find_mem h1
  exact ⟨r, hm, by simpa using he, by rw [← h2], by rw [← h2], mlk_ok oc r hm⟩
theorem wgt_vv {b0 : Nat} {ex : Nat → Nat} (S : List V) : ((S.map (vv b0 ex)).map fun v => v.category).sum = wgt S := by
  unfold wgt
  rw [List.map_map]
  congr 1
  apply List.map_congr_left
  intro v _
  exact vv_cat v
theorem ow_copy (E : EnvOK p s m args meth c cc oc ini D b0 ex aC Hb sc ExS) (hml : c.maxLocals = ls.size) (hR : Rel D b0 ex aC Hb σ H) (hL : LocOK b0 locs) {index : Nat} (hlink : Cond.methodLink (cN oc) index arraycopyName ∈ lw_tbl) {z0 z1 sp dp n : Int} {n0 n1 : Nat} (ha0 : arrAt σ z0 = some (1, n0)) (ha1 : arrAt σ z1 = some (1, n1))
    (h1 : 0 ≤ w32 sp) (h2 : 0 ≤ w32 dp) (h3 : 0 ≤ w32 n) (h4 : w32 sp + w32 n ≤ n0) (h5 : w32 dp + w32 n ≤ n1) (hframes : 1 ≤ R.frames) (hlocals : (rest.map fun v => v.category).sum + 20 ≤ R.locals) (hdg : decode cc pc = .ok (.invokestatic index, 3))
    (kk : ∀ (H1 : Heap) (locs1 : List Loc), Rel D b0 ex aC Hb (σ.1, σ.2.1, rowH σ.2.2 z1.toNat (va_cpy (σ.2.2 z0.toNat) (σ.2.2 z1.toNat) (w32 sp).toNat (w32 dp).toNat (w32 n).toNat)) H1 → LocOK b0 locs1 → W p l e R s m args below meth c H1 locs1 cells slots Q (F0 m (pc + 3) ls rest)) :
    W p l e R s m args below meth c H locs cells slots Q (F0 m pc ls (.int (oI n) :: .int (oI dp) :: vv b0 ex (2, z1) :: .int (oI sp) :: vv b0 ex (2, z0) :: rest)) := by
  obtain ⟨hx, hb, hown, hts, -, hK⟩ := E
  obtain ⟨hv0, hat0⟩ := hR.at_ ha0
  obtain ⟨hv1, hat1⟩ := hR.at_ ha1
  rw [hv0, hv1]
  have nn : ∀ z : Int, 0 ≤ w32 z → (oI z).toInt = ((w32 z).toNat : Int) := fun z hz => by rw [oI_toInt]; omega
  have n0' : ∀ z : Int, 0 ≤ w32 z → ¬ oI z < 0 := fun z hz => by rw [oI_lt0]; omega
  intro T hT X
  have hc0 : H[b0 + z0.toNat]? = some (vp_cell (aC 1) (n0, .inl (fun j => oI (σ.2.2 z0.toNat j)))) := hat0
  have hc1 : H[b0 + z1.toNat]? = some (vp_cell (aC 1) (n1, .inl (fun j => oI (σ.2.2 z1.toNat j)))) := hat1
  obtain ⟨-, k0, hk0, cm0, hkk0⟩ := (hK.1.2 0 _ rfl).1 n0 (fun j => .int (oI (σ.2.2 z0.toNat j)))
  obtain ⟨-, k1, hk1, cm1, hkk1⟩ := (hK.1.2 0 _ rfl).1 n1 (fun j => .int (oI (σ.2.2 z1.toNat j)))
  have hlt0 : (w32 sp).toNat + (w32 n).toNat ≤ n0 := by omega
  obtain ⟨vm', X', step⟩ := X.arraycopy hx hown (hts _ (gi hlink)) (hts _ (gi (List.mem_of_getElem? (i := 1057) (by decide +kernel)))) (hts _ (gi (List.mem_of_getElem? (i := 1056) (by decide +kernel)))) (hts _ (gi (List.mem_of_getElem? (i := 152) (by decide +kernel)))) (src := b0 + z0.toNat) (dst := b0 + z1.toNat) (cs := vp_cell (aC 1) (n0, .inl (fun j => oI (σ.2.2 z0.toNat j)))) (cd := vp_cell (aC 1) (n1, .inl (fun j => oI (σ.2.2 z1.toNat j)))) (srcPos := oI sp) (destPos := oI dp) (n := oI n) (by rw [hT]; exact hc0) (by rw [hT]; exact hc1)
    (fun _ h => by cases h) (fun _ h => by cases h) (fun h => by cases h) (fun h => by cases h) hk0 hk1 hkk0 hkk1 (by simp [refKind]) (n0' _ h1) (n0' _ h2) (n0' _ h3)
    (by rw [nn sp h1, nn n h3]; show ¬ _ > ((arrV (aC 1) n0 (fun j => .int (oI (σ.2.2 z0.toNat j)))).slots.size : Int); rw [arrV_size]; omega)
    (by rw [nn dp h2, nn n h3]; show ¬ _ > ((arrV (aC 1) n1 (fun j => .int (oI (σ.2.2 z1.toNat j)))).slots.size : Int); rw [arrV_size]; omega)
    (fun vm₁ _ i hi => by
      have e : (vp_cell (aC 1) (n0, .inl (fun j => oI (σ.2.2 z0.toNat j)))).slots.getD ((oI sp).toNatClampNeg + i) .null = .int (oI (σ.2.2 z0.toNat ((oI sp).toNatClampNeg + i))) := by
        show (arrV (aC 1) n0 (fun j => .int (oI (σ.2.2 z0.toNat j)))).slots.getD _ _ = _
        rw [oI_clamp] at hi ⊢
        rw [Array.getD_eq_getD_getElem?, arrV_read _ _ (by omega)]
        rfl
      refine ⟨?_, ?_⟩
      · rw [e]; rfl
      · rw [e]; exact trivial)
    (g := F0 m pc ls (.int (oI n) :: .int (oI dp) :: .ref (b0 + z1.toNat) :: .int (oI sp) :: .ref (b0 + z0.toNat) :: rest)) rfl (by rw [hml]) (rest := rest) rfl (by rw [hb]; exact hdg) hframes (by show 2 * 0 + _ + (nativeFrameWords "java/lang/System" "arraycopy" 5 + 11) ≤ _; rw [show nativeFrameWords "java/lang/System" "arraycopy" 5 = 7 by decide]; omega)
  have e1 := va_copied (sp := (oI sp).toNatClampNeg) (dp := (oI dp).toNatClampNeg) (n := (oI n).toNatClampNeg) (fun z => Value.int z) (aC 1) (aC 1) (n1 := n1) (fun j => oI (σ.2.2 z0.toNat j)) (fun j => oI (σ.2.2 z1.toNat j)) (n0 := n0) (by rw [oI_clamp, oI_clamp]; exact hlt0)
  have e1 : copied (vp_cell (aC 1) (n0, .inl (fun j => oI (σ.2.2 z0.toNat j)))) (vp_cell (aC 1) (n1, .inl (fun j => oI (σ.2.2 z1.toNat j)))) (oI sp) (oI dp) (oI n) = vp_cell (aC 1) (n1, .inl (va_cpy (fun j => oI (σ.2.2 z0.toNat j)) (fun j => oI (σ.2.2 z1.toNat j)) (oI sp).toNatClampNeg (oI dp).toNatClampNeg (oI n).toNatClampNeg)) := e1
  rw [e1] at X' step
  have hl : b0 + z1.toNat < H.size := (Array.getElem?_eq_some_iff.mp hc1).1
  generalize hce : vp_cell (aC 1) (n1, .inl (va_cpy (fun j => oI (σ.2.2 z0.toNat j)) (fun j => oI (σ.2.2 z1.toNat j)) (oI sp).toNatClampNeg (oI dp).toNatClampNeg (oI n).toNatClampNeg)) = ce at X' step
  have hheap : ((T.setVm vm').setCell (b0 + z1.toNat) ce).heap = H.setIfInBounds (b0 + z1.toNat) ce := by rw [← hT]; rfl
  have oq : ∀ q : Nat, q ≠ b0 + z1.toNat → (H.setIfInBounds (b0 + z1.toNat) ce)[q]? = H[q]? := fun q hq => by simp [Array.getElem?_setIfInBounds, Ne.symm hq]
  have hrow : rowH σ.2.2 z1.toNat (va_cpy (σ.2.2 z0.toNat) (σ.2.2 z1.toNat) (w32 sp).toNat (w32 dp).toNat (w32 n).toNat) z1.toNat = va_cpy (σ.2.2 z0.toNat) (σ.2.2 z1.toNat) (w32 sp).toNat (w32 dp).toNat (w32 n).toNat := by
    funext j; unfold rowH; rw [if_pos rfl]
  obtain ⟨t, a1, b1⟩ := kk _ _ (hR.upd (H1 := H.setIfInBounds (b0 + z1.toNat) ce) (arrAt_some ha1).2 (fun q h => by funext j; unfold rowH; rw [if_neg h]) (by
      rw [hrow]
      show (H.setIfInBounds (b0 + z1.toNat) ce)[b0 + z1.toNat]? = some (vp_cell (aC 1) (n1, .inl (fun j => oI (va_cpy (σ.2.2 z0.toNat) (σ.2.2 z1.toNat) (w32 sp).toNat (w32 dp).toNat (w32 n).toNat j))))
      rw [show (H.setIfInBounds (b0 + z1.toNat) ce)[b0 + z1.toNat]? = some ce by simp [Array.getElem?_setIfInBounds, hl], ← hce, oI_clamp, oI_clamp, oI_clamp]
      congr 4
      funext j
      unfold va_cpy
      split <;> rfl) (by simp) oq) (fun q hq => by
      rcases List.mem_append.mp hq with h | h
      · exact hL q h
      · obtain ⟨z, -, hz⟩ := List.mem_map.mp h
        rw [← hz]
        exact Nat.le_add_right _ _) _ hheap X'
  exact ⟨t, step t a1, b1⟩
/-- what is said of the JDK's length and charAt on a text (proved in a part of its own) -/
def StrOK (D : va_G) (b0 : Nat) (ex : Nat → Nat) (aC : Nat → ClassId) (Hb : Heap) (sc : Nat × (Nat → Int)) (ExS : State → Prop) : Prop :=
  ∀ (p : Program) (l : Launch) (e : Env) (R : Room) (s : State) (m : MethodId) (args : Array Value) (below : List Frame) (meth : Method) (c : Code) (H : Heap) (locs : List Loc) (cells slots : Nat) (Q : State → Prop) (cc : ByteArray) (pc : Nat) (ls : Array Slot) (rest : List Value) (oc : Nat) (ini : Bool) (σ : St) (i k : Nat) (z : Int) (t : List Int),
    EnvOK p s m args meth c cc oc ini D b0 ex aC Hb sc ExS → c.maxLocals = ls.size → Rel D b0 ex aC Hb σ H → LocOK b0 locs → 9 ≤ R.frames → 900 ≤ R.locals → cells ≤ R.cells → slots ≤ R.slots → (rest.map fun v => v.category).sum ≤ 8 → decode cc pc = .ok (.invokevirtual i, 3) → mlook oc i = some (k, 0) → txAt z = some t →
    (k = 5 → W p l e R s m args below meth c H locs cells slots Q (F0 m (pc + 3) ls (.int (oI (t.length : Int)) :: rest)) → W p l e R s m args below meth c H locs cells slots Q (F0 m pc ls (vv b0 ex (2, z) :: rest))) ∧
    (k = 6 → ∀ j : Int, 0 ≤ w32 j → w32 j < t.length → W p l e R s m args below meth c H locs cells slots Q (F0 m (pc + 3) ls (.int (oI (t.getD (w32 j).toNat 0)) :: rest)) → W p l e R s m args below meth c H locs cells slots Q (F0 m pc ls (.int (oI j) :: vv b0 ex (2, z) :: rest)))
theorem mlk_zero : ∀ oc, oc < 16 → ∀ q ∈ mlk oc, 2 < q.2.1 → q.2.2.1 = 0 := by decide +kernel
theorem mlk_out : ∀ oc q, q ∈ mlk oc → oc < 16 := by
  intro oc q h
  match oc, h with
  | 0, h => decide
  | 1, h => decide
  | 2, h => decide
  | 3, h => decide
  | 4, h => decide
  | 5, h => decide
  | 6, h => decide
  | 7, h => decide
  | 8, h => decide
  | 9, h => decide
  | 10, h => decide
  | 11, h => decide
  | 12, h => decide
  | 13, h => decide
  | 14, h => decide
  | 15, h => decide
  | n + 16, h => exact absurd h List.not_mem_nil
theorem mlook_0 {oc i : Nat} {kc : Nat × Nat} (h : mlook oc i = some kc) (h2 : 2 < kc.1) : kc.2 = 0 := by
  obtain ⟨q, hm, -, e1, e2, -⟩ := mlook_some h
  rw [← e2]; exact mlk_zero oc (mlk_out oc q hm) q hm (by rw [e1]; exact h2)
set_option maxHeartbeats 1000000 in
theorem sim_prim (hst : StrOK D b0 ex aC Hb sc ExS) (E : EnvOK p s m args meth c cc oc ini D b0 ex aC Hb sc ExS) (hml : c.maxLocals = ls.size) (hR : Rel D b0 ex aC Hb σ H) (hL : LocOK b0 locs) {ins : Instr} {o i : Nat} (hci : cidx ins = some (o, i)) (hdg : decode cc pc = .ok (ins, 3)) {kc : Nat × Nat} (hm : mlook oc i = some kc) (hk2 : ¬ kc.1 ≤ 2)
    {S : List V} {q : List V × St} (h : prim kc.1 o S σ = some q) (hd : 1 ≤ R.frames) (hl : 100 ≤ R.locals) (h5 : kc.1 = 5 ∨ kc.1 = 6 → 9 ≤ R.frames ∧ 900 ≤ R.locals) (hcR : cells ≤ R.cells) (hsR : slots ≤ R.slots)
    (kk : ∀ (H' : Heap) (locs' : List Loc), Rel D b0 ex aC Hb q.2 H' → LocOK b0 locs' → W p l e R s m args below meth c H' locs' cells slots Q (F0 m (pc + 3) ls (q.1.map (vv b0 ex)))) :
    W p l e R s m args below meth c H locs cells slots Q (F0 m pc ls (S.map (vv b0 ex))) := by
  obtain ⟨hx, hb, hown, hts, hini, hK⟩ := id E
  obtain ⟨r, hrm, hr1, hr2, hr3, hr4⟩ := mlook_some hm
  have hk0 := mlook_0 hm (by omega)
  obtain ⟨k, cy⟩ := kc
  simp only at hk2 h hk0 hr2 hr3 h5
  subst hk0
  have hw : ∀ S1 : List V, wgt S1 ≤ 8 → ((S1.map (vv b0 ex)).map fun v => v.category).sum ≤ 8 := fun S1 h => by rw [wgt_vv]; exact h
  match k, h, hr2 with
  | 3, g, hr2 =>
    replace g : (if o = 1 then _ else none) = _ := g
    split at g
    · rename_i ho; subst ho
      obtain ⟨⟨a, S1⟩, hqa, h9⟩ := Option.bind_eq_some_iff.mp g
      clear g
      obtain rfl := popT_some hqa
      dsimp only at h9
      split at h9
      · rename_i ha; cases h9
        have hins : ins = .invokespecial i := by cases ins <;> first | (cases hci; done) | (cases hci; rfl)
        subst hins
        unfold mlchk at hr4; rw [hr2] at hr4
        have hlk := List.mem_of_getElem? (of_decide_eq_true hr4)
        rw [hr1] at hlk
        rw [List.map_cons, vv_2, rfv_nn ha.1]
        refine W.objInit hx hb hown (hts _ (gi hlk)) (hts _ (gi (List.mem_of_getElem? (i := 160) (by decide +kernel)))) (hts _ (gi (List.mem_of_getElem? (i := 161) (by decide +kernel)))) rfl hml.symm rfl hdg hd ?_ (kk H locs hR hL)
        show 2 * 0 + _ + 12 ≤ _
        have := hw S1 ha.2
        dsimp only
        omega
      · cases h9
    · cases g
  | 4, g, hr2 =>
    replace g : (if o = 2 then _ else none) = _ := g
    split at g
    · rename_i ho; subst ho
      obtain ⟨⟨n, S1⟩, hq1, h9⟩ := Option.bind_eq_some_iff.mp g
      clear g
      obtain rfl := popT_some hq1
      obtain ⟨⟨dp, S2⟩, hq2, h8⟩ := Option.bind_eq_some_iff.mp h9
      clear h9
      obtain rfl := popT_some hq2
      obtain ⟨⟨dst, S3⟩, hq3, h9⟩ := Option.bind_eq_some_iff.mp h8
      clear h8
      obtain rfl := popT_some hq3
      obtain ⟨⟨sp, S4⟩, hq4, h8⟩ := Option.bind_eq_some_iff.mp h9
      clear h9
      obtain rfl := popT_some hq4
      obtain ⟨⟨src, S5⟩, hq5, h9⟩ := Option.bind_eq_some_iff.mp h8
      clear h8
      obtain rfl := popT_some hq5
      obtain ⟨⟨kd, nd⟩, hkd, h9⟩ := Option.bind_eq_some_iff.mp h9
      obtain ⟨⟨ks, ns⟩, hks, h9⟩ := Option.bind_eq_some_iff.mp h9
      dsimp only at h9
      split at h9
      · rename_i hc; cases h9
        obtain ⟨⟨rfl, rfl⟩, ⟨c1, c2, c3⟩, c4, c5, c6⟩ := hc
        have hins : ins = .invokestatic i := by cases ins <;> first | (cases hci; done) | (cases hci; rfl)
        subst hins
        unfold mlchk at hr4; rw [hr2] at hr4
        have hlk := List.mem_of_getElem? (of_decide_eq_true hr4)
        rw [hr1] at hlk
        have := hw S5 c6
        exact ow_copy E hml hR hL hlk hks hkd c1 c2 c3 c4 c5 hd (by dsimp only; omega) hdg (fun H1 l1 h1 h2 => kk H1 l1 h1 h2)
      · cases h9
    · cases g
  | 5, g, hr2 =>
    replace g : (if o = 0 then _ else none) = _ := g
    split at g
    · rename_i ho; subst ho
      obtain ⟨⟨a, S1⟩, hqa, h9⟩ := Option.bind_eq_some_iff.mp g
      clear g
      obtain rfl := popT_some hqa
      obtain ⟨t, ht, h9⟩ := Option.bind_eq_some_iff.mp h9
      dsimp only at h9
      split at h9
      · rename_i ha; cases h9
        have hins : ins = .invokevirtual i := by cases ins <;> first | (cases hci; done) | (cases hci; rfl)
        subst hins
        obtain ⟨f1, f2⟩ := h5 (Or.inl rfl)
        exact (hst p l e R s m args below meth c H locs cells slots Q cc pc ls _ oc ini σ i 5 a t E hml hR hL f1 f2 hcR hsR (hw S1 ha) hdg hm ht).1 rfl (kk H locs hR hL)
      · cases h9
    · cases g
  | 6, g, hr2 =>
    replace g : (if o = 0 then _ else none) = _ := g
    split at g
    · rename_i ho; subst ho
      obtain ⟨⟨j, S0⟩, hqj, h9⟩ := Option.bind_eq_some_iff.mp g
      clear g
      obtain rfl := popT_some hqj
      obtain ⟨⟨a, S1⟩, hqa, h8⟩ := Option.bind_eq_some_iff.mp h9
      clear h9
      obtain rfl := popT_some hqa
      obtain ⟨t, ht, h9⟩ := Option.bind_eq_some_iff.mp h8
      dsimp only at h9
      split at h9
      · rename_i ha; cases h9
        have hins : ins = .invokevirtual i := by cases ins <;> first | (cases hci; done) | (cases hci; rfl)
        subst hins
        obtain ⟨f1, f2⟩ := h5 (Or.inr rfl)
        exact (hst p l e R s m args below meth c H locs cells slots Q cc pc ls _ oc ini σ i 6 a t E hml hR hL f1 f2 hcR hsR (hw S1 ha.2.2) hdg hm ht).2 rfl j ha.1 ha.2.1 (kk H locs hR hL)
      · cases h9
    · cases g
  | 7, g, hr2 =>
    replace g : (if o = 2 then _ else none) = _ := g
    split at g
    · rename_i ho; subst ho
      obtain ⟨⟨b, S0⟩, hqb, h9⟩ := Option.bind_eq_some_iff.mp g
      clear g
      obtain rfl := popT_some hqb
      obtain ⟨⟨a, S1⟩, hqa, h8⟩ := Option.bind_eq_some_iff.mp h9
      clear h9
      obtain rfl := popT_some hqa
      dsimp only at h8
      split at h8
      · rename_i ha; cases h8
        have hins : ins = .invokestatic i := by cases ins <;> first | (cases hci; done) | (cases hci; rfl)
        subst hins
        unfold mlchk at hr4; rw [hr2] at hr4
        have hlk := List.mem_of_getElem? (of_decide_eq_true hr4)
        rw [hr1] at hlk
        have h8 := hw S1 ha
        refine va_mmax hx hb hml hown (hts _ (gi hlk)) (hts _ (gi (List.mem_of_getElem? (i := 268) (by decide +kernel)))) (hts _ (gi (List.mem_of_getElem? (i := 138) (by decide +kernel)))) (hts _ (gi (List.mem_of_getElem? (i := 269) (by decide +kernel)))) hd (by dsimp only; omega) hcR hsR hdg ?_
        have hkk := kk H locs hR hL
        rw [List.map_cons, vv_0] at hkk
        have e : (if oI a < oI b then oI b else oI a) = oI (if w32 a < w32 b then b else a) := by
          by_cases hc : w32 a < w32 b
          · rw [if_pos hc, if_pos ((oI_lt a b).mpr hc)]
          · rw [if_neg hc, if_neg (fun q => hc ((oI_lt a b).mp q))]
        rw [← e] at hkk
        exact hkk
      · cases h8
    · cases g
  | 8, g, hr2 =>
    replace g : (if o = 2 then _ else none) = _ := g
    split at g
    · rename_i ho; subst ho
      obtain ⟨⟨b, S0⟩, hqb, h9⟩ := Option.bind_eq_some_iff.mp g
      clear g
      obtain rfl := popT_some hqb
      obtain ⟨⟨a, S1⟩, hqa, h8⟩ := Option.bind_eq_some_iff.mp h9
      clear h9
      obtain rfl := popT_some hqa
      dsimp only at h8
      split at h8
      · rename_i ha; cases h8
        have hins : ins = .invokestatic i := by cases ins <;> first | (cases hci; done) | (cases hci; rfl)
        subst hins
        unfold mlchk at hr4; rw [hr2] at hr4
        have hlk := List.mem_of_getElem? (of_decide_eq_true hr4)
        rw [hr1] at hlk
        have h8 := hw S1 ha
        refine va_mmin hx hb hml hown (hts _ (gi hlk)) (hts _ (gi (List.mem_of_getElem? (i := 874) (by decide +kernel)))) (hts _ (gi (List.mem_of_getElem? (i := 138) (by decide +kernel)))) (hts _ (gi (List.mem_of_getElem? (i := 875) (by decide +kernel)))) hd (by dsimp only; omega) hcR hsR hdg ?_
        have hkk := kk H locs hR hL
        rw [List.map_cons, vv_0] at hkk
        have e : (if oI b < oI a then oI b else oI a) = oI (if w32 b < w32 a then b else a) := by
          by_cases hc : w32 b < w32 a
          · rw [if_pos hc, if_pos ((oI_lt b a).mpr hc)]
          · rw [if_neg hc, if_neg (fun q => hc ((oI_lt b a).mp q))]
        rw [← e] at hkk
        exact hkk
      · cases h8
    · cases g
  | 9, g, hr2 =>
    replace g : (if o = 2 then _ else none) = _ := g
    split at g
    · rename_i ho; subst ho
      obtain ⟨⟨b, S0⟩, hqb, h9⟩ := Option.bind_eq_some_iff.mp g
      clear g
      obtain rfl := popT_some hqb
      obtain ⟨⟨a, S1⟩, hqa, h8⟩ := Option.bind_eq_some_iff.mp h9
      clear h9
      obtain rfl := popT_some hqa
      dsimp only at h8
      split at h8
      · rename_i ha; cases h8
        have hins : ins = .invokestatic i := by cases ins <;> first | (cases hci; done) | (cases hci; rfl)
        subst hins
        unfold mlchk at hr4; rw [hr2] at hr4
        have hlk := List.mem_of_getElem? (of_decide_eq_true hr4)
        rw [hr1] at hlk
        have h8 := hw S1 ha
        refine va_mmax_long hx hb hml hown (hts _ (gi hlk)) (hts _ (gi (List.mem_of_getElem? (i := 761) (by decide +kernel)))) (hts _ (gi (List.mem_of_getElem? (i := 138) (by decide +kernel)))) (hts _ (gi (List.mem_of_getElem? (i := 762) (by decide +kernel)))) hd (by dsimp only; omega) hcR hsR hdg ?_
        have hkk := kk H locs hR hL
        rw [List.map_cons, vv_1] at hkk
        have e : (if oL b < oL a then oL a else oL b) = oL (if w64 b < w64 a then a else b) := by
          by_cases hc : w64 b < w64 a
          · rw [if_pos hc, if_pos ((oL_lt b a).mpr hc)]
          · rw [if_neg hc, if_neg (fun q => hc ((oL_lt b a).mp q))]
        rw [← e] at hkk
        exact hkk
      · cases h8
    · cases g
  | 10, g, hr2 =>
    replace g : (if o = 2 then _ else none) = _ := g
    split at g
    · rename_i ho; subst ho
      obtain ⟨⟨b, S0⟩, hqb, h9⟩ := Option.bind_eq_some_iff.mp g
      clear g
      obtain rfl := popT_some hqb
      obtain ⟨⟨a, S1⟩, hqa, h8⟩ := Option.bind_eq_some_iff.mp h9
      clear h9
      obtain rfl := popT_some hqa
      dsimp only at h8
      split at h8
      · rename_i ha; cases h8
        have hins : ins = .invokestatic i := by cases ins <;> first | (cases hci; done) | (cases hci; rfl)
        subst hins
        unfold mlchk at hr4; rw [hr2] at hr4
        have hlk := List.mem_of_getElem? (of_decide_eq_true hr4)
        rw [hr1] at hlk
        have h8 := hw S1 ha
        refine va_mmin_long hx hb hml hown (hts _ (gi hlk)) (hts _ (gi (List.mem_of_getElem? (i := 758) (by decide +kernel)))) (hts _ (gi (List.mem_of_getElem? (i := 138) (by decide +kernel)))) (hts _ (gi (List.mem_of_getElem? (i := 759) (by decide +kernel)))) hd (by dsimp only; omega) hcR hsR hdg ?_
        have hkk := kk H locs hR hL
        rw [List.map_cons, vv_1] at hkk
        have e : (if oL b < oL a then oL b else oL a) = oL (if w64 b < w64 a then b else a) := by
          by_cases hc : w64 b < w64 a
          · rw [if_pos hc, if_pos ((oL_lt b a).mpr hc)]
          · rw [if_neg hc, if_neg (fun q => hc ((oL_lt b a).mp q))]
        rw [← e] at hkk
        exact hkk
      · cases h8
    · cases g
  | 0, h, hr2 => omega
  | 1, h, hr2 => omega
  | 2, h, hr2 => omega
  | n + 11, h, hr2 => cases h
def rv (b0 : Nat) (ex : Nat → Nat) (r : V) : Option Value := if r.1 = 9 then none else some (vv b0 ex r)
end RUN
