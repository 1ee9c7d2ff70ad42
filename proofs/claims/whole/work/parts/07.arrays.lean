/-! ===== arrays and new cells over the store ===== -/
section OA
variable {p : Program} {l : Launch} {e : Env} {R : Room} {s : State} {m : MethodId} {args : Array Value} {below : List Frame} {meth : Method} {c : Code} {H : Heap} {locs : List Loc} {cells slots : Nat} {Q : State → Prop}
variable {cc : ByteArray} {pc : Nat} {ls : Array Slot} {rest : List Value} {oc : Nat} {ini : Bool} {D : va_G} {b0 : Nat} {ex : Nat → Nat} {aC : Nat → ClassId} {Hb : Heap} {sc : Nat × (Nat → Int)} {ExS : State → Prop} {σ : St}
theorem ow_iald (E : EnvOK p s m args meth c cc oc ini D b0 ex aC Hb sc ExS) (hR : Rel D b0 ex aC Hb σ H) {n : Nat} {i z : Int} (hz : arrAt σ z = some (1, n)) (hi : 0 ≤ w32 i ∧ w32 i < n) (hdg : decode cc pc = .ok (.iaload, 1))
    (kk : W p l e R s m args below meth c H locs cells slots Q (F0 m (pc + 1) ls (.int (oI (σ.2.2 z.toNat (w32 i).toNat)) :: rest))) : W p l e R s m args below meth c H locs cells slots Q (F0 m pc ls (.int (oI i) :: vv b0 ex (2, z) :: rest)) := by
  obtain ⟨hx, hb, hown, hts, -, hK⟩ := E
  obtain ⟨hv, hat⟩ := hR.at_ hz
  rw [hv]
  refine va_iald hx hb hK.1 (one_P hat) 0 0 rfl rfl ((oI_in i n).mpr hi) hdg ?_
  rw [oI_clamp]; exact kk
theorem ow_lald (E : EnvOK p s m args meth c cc oc ini D b0 ex aC Hb sc ExS) (hR : Rel D b0 ex aC Hb σ H) {n : Nat} {i z : Int} (hz : arrAt σ z = some (2, n)) (hi : 0 ≤ w32 i ∧ w32 i < n) (hdg : decode cc pc = .ok (.laload, 1))
    (kk : W p l e R s m args below meth c H locs cells slots Q (F0 m (pc + 1) ls (.long (oL (σ.2.2 z.toNat (w32 i).toNat)) :: rest))) : W p l e R s m args below meth c H locs cells slots Q (F0 m pc ls (.int (oI i) :: vv b0 ex (2, z) :: rest)) := by
  obtain ⟨hx, hb, hown, hts, -, hK⟩ := E
  obtain ⟨hv, hat⟩ := hR.at_ hz
  rw [hv]
  refine va_lald hx hb hK.1 (one_P hat) 0 1 rfl rfl ((oI_in i n).mpr hi) hdg ?_
  rw [oI_clamp]; exact kk
theorem ow_bald (E : EnvOK p s m args meth c cc oc ini D b0 ex aC Hb sc ExS) (hR : Rel D b0 ex aC Hb σ H) {k n : Nat} {i z : Int} (hk : k = 3 ∨ k = 4) (hz : arrAt σ z = some (k, n)) (hi : 0 ≤ w32 i ∧ w32 i < n) (hdg : decode cc pc = .ok (.baload, 1))
    (kk : W p l e R s m args below meth c H locs cells slots Q (F0 m (pc + 1) ls (.int (oI (σ.2.2 z.toNat (w32 i).toNat)) :: rest))) : W p l e R s m args below meth c H locs cells slots Q (F0 m pc ls (.int (oI i) :: vv b0 ex (2, z) :: rest)) := by
  obtain ⟨hx, hb, hown, hts, -, hK⟩ := E
  obtain ⟨hv, hat⟩ := hR.at_ hz
  rw [hv]
  rcases hk with rfl | rfl
  · refine va_bald hx hb hK.1 (one_P hat) 0 2 rfl rfl ((oI_in i n).mpr hi) hdg ?_
    rw [oI_clamp]; exact kk
  · refine va_zald hx hb hK.1 (one_P hat) 0 3 rfl rfl ((oI_in i n).mpr hi) hdg ?_
    rw [oI_clamp]; exact kk
theorem ow_aald (E : EnvOK p s m args meth c cc oc ini D b0 ex aC Hb sc ExS) (hR : Rel D b0 ex aC Hb σ H) {k n : Nat} {i z : Int} (hk : k = 5 ∨ k = 6) (hz : arrAt σ z = some (k, n)) (hi : 0 ≤ w32 i ∧ w32 i < n) (hdg : decode cc pc = .ok (.aaload, 1))
    (kk : W p l e R s m args below meth c H locs cells slots Q (F0 m (pc + 1) ls (vv b0 ex (2, σ.2.2 z.toNat (w32 i).toNat) :: rest))) : W p l e R s m args below meth c H locs cells slots Q (F0 m pc ls (.int (oI i) :: vv b0 ex (2, z) :: rest)) := by
  obtain ⟨hx, hb, hown, hts, -, hK⟩ := E
  obtain ⟨hv, hat⟩ := hR.at_ hz
  rw [hv]
  rcases hk with rfl | rfl
  · refine va_aldq hx hb hK.1 (one_P hat) 0 4 rfl rfl ((oI_in i n).mpr hi) hdg ?_
    rw [oI_clamp]; exact kk
  · refine va_aldq hx hb hK.1 (one_P hat) 0 5 rfl rfl ((oI_in i n).mpr hi) hdg ?_
    rw [oI_clamp]; exact kk
theorem ow_alen (E : EnvOK p s m args meth c cc oc ini D b0 ex aC Hb sc ExS) (hR : Rel D b0 ex aC Hb σ H) {k : Nat × Nat} {z : Int} (hk : k.1 ≠ 0) (hz : arrAt σ z = some k) (hdg : decode cc pc = .ok (.arraylength, 1))
    (kk : W p l e R s m args below meth c H locs cells slots Q (F0 m (pc + 1) ls (.int (oI (k.2 : Int)) :: rest))) : W p l e R s m args below meth c H locs cells slots Q (F0 m pc ls (vv b0 ex (2, z) :: rest)) := by
  obtain ⟨hx, hb, hown, hts, -, hK⟩ := E
  obtain ⟨hv, hat⟩ := hR.at_ hz
  rw [hv]
  obtain ⟨a, n⟩ := k
  match a, hk, hat with
  | 1, _, hat => exact va_alen hx hb hK.1 (one_P hat) 0 0 rfl rfl rfl hdg kk
  | 2, _, hat => exact va_alen hx hb hK.1 (one_P hat) 0 1 rfl rfl rfl hdg kk
  | 3, _, hat => exact va_alen hx hb hK.1 (one_P hat) 0 2 rfl rfl rfl hdg kk
  | 4, _, hat => exact va_alen hx hb hK.1 (one_P hat) 0 3 rfl rfl rfl hdg kk
  | 5, _, hat => exact va_alen hx hb hK.1 (one_P hat) 0 4 rfl rfl rfl hdg kk
  | q + 6, _, hat => exact va_alen hx hb hK.1 (one_P hat) 0 5 rfl rfl rfl hdg kk
theorem ow_sld (E : EnvOK p s m args meth c cc oc ini D b0 ex aC Hb sc ExS) (hR : Rel D b0 ex aC Hb σ H) (hL : LocOK b0 locs) {i : Int} (hi : 0 ≤ w32 i ∧ w32 i < sc.1) (hdg : decode cc pc = .ok (.iaload, 1))
    (kk : W p l e R s m args below meth c H locs cells slots Q (F0 m (pc + 1) ls (.int (oI (sc.2 (w32 i).toNat)) :: rest))) : W p l e R s m args below meth c H locs cells slots Q (F0 m pc ls (.int (oI i) :: vv b0 ex (2, -2) :: rest)) := by
  obtain ⟨hx, hb, hown, hts, -, hK, hX, hlt, hz, -⟩ := E
  refine va_sld hx hb hX (by rw [hz]; exact hlt) (A := Ab b0) (by unfold Ab; omega) (hR.S hz hL) ((oI_in i _).mpr hi) hdg ?_
  rw [oI_clamp]; exact kk
theorem ow_slen (E : EnvOK p s m args meth c cc oc ini D b0 ex aC Hb sc ExS) (hR : Rel D b0 ex aC Hb σ H) (hL : LocOK b0 locs) (hdg : decode cc pc = .ok (.arraylength, 1))
    (kk : W p l e R s m args below meth c H locs cells slots Q (F0 m (pc + 1) ls (.int (oI (sc.1 : Int)) :: rest))) : W p l e R s m args below meth c H locs cells slots Q (F0 m pc ls (vv b0 ex (2, -2) :: rest)) := by
  obtain ⟨hx, hb, hown, hts, -, hK, hX, hlt, hz, -⟩ := E
  exact va_slen hx hb hX (by rw [hz]; exact hlt) (A := Ab b0) (show ¬ b0 ≤ ex 2 by omega) (hR.S hz hL) hdg kk
theorem ow_iast (E : EnvOK p s m args meth c cc oc ini D b0 ex aC Hb sc ExS) (hR : Rel D b0 ex aC Hb σ H) (hL : LocOK b0 locs) {n : Nat} {i z x : Int} (hz : arrAt σ z = some (1, n)) (hi : 0 ≤ w32 i ∧ w32 i < n) (hdg : decode cc pc = .ok (.iastore, 1))
    (kk : ∀ (H1 : Heap) (locs1 : List Loc), Rel D b0 ex aC Hb (σ.1, σ.2.1, setH σ.2.2 z.toNat (w32 i).toNat x) H1 → LocOK b0 locs1 → W p l e R s m args below meth c H1 locs1 cells slots Q (F0 m (pc + 1) ls rest)) : W p l e R s m args below meth c H locs cells slots Q (F0 m pc ls (.int (oI x) :: .int (oI i) :: vv b0 ex (2, z) :: rest)) := by
  obtain ⟨hx, hb, hown, hts, -, hK⟩ := E
  obtain ⟨hv, hat⟩ := hR.at_ hz
  rw [hv]
  have ht := (hK.1.2 0 _ rfl).1 n (fun j => .int (oI (σ.2.2 z.toNat j)))
  refine W.iast hx hb hat ht (fun q => by cases q) (by show ¬ (_ ∨ (arrV _ _ _).slots.size ≤ _); rw [arrV_size]; exact (oI_in i n).mpr hi) rfl rfl hdg fun H1 e1 z1 oq => ?_
  refine kk H1 _ (hR.upd (arrAt_some hz).2 (fun q h => setH_ne h) ?_ z1 oq) (hL.add (Nat.le_add_right _ _))
  show H1[b0 + z.toNat]? = some (vp_cell _ _)
  rw [e1, oI_clamp, setH_row]
  dsimp only
  rw [vp_cell_i, vp_cell_i, arrV_store]
  congr 2
  funext q
  by_cases hq : q = (w32 i).toNat
  · subst hq; simp [updV]
  · simp [updV, hq]
theorem ow_last (E : EnvOK p s m args meth c cc oc ini D b0 ex aC Hb sc ExS) (hR : Rel D b0 ex aC Hb σ H) (hL : LocOK b0 locs) {n : Nat} {i z x : Int} (hz : arrAt σ z = some (2, n)) (hi : 0 ≤ w32 i ∧ w32 i < n) (hdg : decode cc pc = .ok (.lastore, 1))
    (kk : ∀ (H1 : Heap) (locs1 : List Loc), Rel D b0 ex aC Hb (σ.1, σ.2.1, setH σ.2.2 z.toNat (w32 i).toNat x) H1 → LocOK b0 locs1 → W p l e R s m args below meth c H1 locs1 cells slots Q (F0 m (pc + 1) ls rest)) : W p l e R s m args below meth c H locs cells slots Q (F0 m pc ls (.long (oL x) :: .int (oI i) :: vv b0 ex (2, z) :: rest)) := by
  obtain ⟨hx, hb, hown, hts, -, hK⟩ := E
  obtain ⟨hv, hat⟩ := hR.at_ hz
  rw [hv]
  have ht := (hK.1.2 1 _ rfl).1 n (fun j => .long (oL (σ.2.2 z.toNat j)))
  refine W.last hx hb hat ht (fun q => by cases q) (by show ¬ (_ ∨ (arrV _ _ _).slots.size ≤ _); rw [arrV_size]; exact (oI_in i n).mpr hi) rfl rfl hdg fun H1 e1 z1 oq => ?_
  refine kk H1 _ (hR.upd (arrAt_some hz).2 (fun q h => setH_ne h) ?_ z1 oq) (hL.add (Nat.le_add_right _ _))
  show H1[b0 + z.toNat]? = some (vp_cell _ _)
  rw [e1, oI_clamp, setH_row]
  dsimp only
  rw [vp_cell_l, vp_cell_l, arrV_store]
  congr 2
  funext q
  by_cases hq : q = (w32 i).toNat
  · subst hq; simp [updV]
  · simp [updV, hq]
theorem ow_bast (E : EnvOK p s m args meth c cc oc ini D b0 ex aC Hb sc ExS) (hR : Rel D b0 ex aC Hb σ H) (hL : LocOK b0 locs) {n : Nat} {i z x : Int} (hz : arrAt σ z = some (3, n)) (hi : 0 ≤ w32 i ∧ w32 i < n) (hdg : decode cc pc = .ok (.bastore, 1))
    (kk : ∀ (H1 : Heap) (locs1 : List Loc), Rel D b0 ex aC Hb (σ.1, σ.2.1, setH σ.2.2 z.toNat (w32 i).toNat (b8 x)) H1 → LocOK b0 locs1 → W p l e R s m args below meth c H1 locs1 cells slots Q (F0 m (pc + 1) ls rest)) : W p l e R s m args below meth c H locs cells slots Q (F0 m pc ls (.int (oI x) :: .int (oI i) :: vv b0 ex (2, z) :: rest)) := by
  obtain ⟨hx, hb, hown, hts, -, hK⟩ := E
  obtain ⟨hv, hat⟩ := hR.at_ hz
  rw [hv]
  have ht := (hK.1.2 2 _ rfl).1 n (fun j => .int (oI (σ.2.2 z.toNat j)))
  refine W.bast hx hb hat ht (fun q => by cases q) (by show ¬ (_ ∨ (arrV _ _ _).slots.size ≤ _); rw [arrV_size]; exact (oI_in i n).mpr hi) rfl rfl hdg fun H1 e1 z1 oq => ?_
  refine kk H1 _ (hR.upd (arrAt_some hz).2 (fun q h => setH_ne h) ?_ z1 oq) (hL.add (Nat.le_add_right _ _))
  show H1[b0 + z.toNat]? = some (vp_cell _ _)
  rw [e1, oI_clamp, setH_row]
  dsimp only
  rw [vp_cell_i, vp_cell_i, arrV_store, show narrow .byte (.int (oI x)) = .int (oI x).toInt8.toInt32 from rfl, oI_b]
  congr 2
  funext q
  by_cases hq : q = (w32 i).toNat
  · subst hq; simp [updV]
  · simp [updV, hq]
theorem ow_zast (E : EnvOK p s m args meth c cc oc ini D b0 ex aC Hb sc ExS) (hR : Rel D b0 ex aC Hb σ H) (hL : LocOK b0 locs) {n : Nat} {i z x : Int} (hz : arrAt σ z = some (4, n)) (hi : 0 ≤ w32 i ∧ w32 i < n) (hbo : x = 0 ∨ x = 1) (hdg : decode cc pc = .ok (.bastore, 1))
    (kk : ∀ (H1 : Heap) (locs1 : List Loc), Rel D b0 ex aC Hb (σ.1, σ.2.1, setH σ.2.2 z.toNat (w32 i).toNat x) H1 → LocOK b0 locs1 → W p l e R s m args below meth c H1 locs1 cells slots Q (F0 m (pc + 1) ls rest)) : W p l e R s m args below meth c H locs cells slots Q (F0 m pc ls (.int (oI x) :: .int (oI i) :: vv b0 ex (2, z) :: rest)) := by
  obtain ⟨hx, hb, hown, hts, -, hK⟩ := E
  obtain ⟨hv, hat⟩ := hR.at_ hz
  rw [hv]
  have ht := (hK.1.2 3 _ rfl).1 n (fun j => .int (oI (σ.2.2 z.toNat j)))
  refine W.zast hx hb hat ht (fun q => by cases q) (by show ¬ (_ ∨ (arrV _ _ _).slots.size ≤ _); rw [arrV_size]; exact (oI_in i n).mpr hi) rfl rfl hdg fun H1 e1 z1 oq => ?_
  refine kk H1 _ (hR.upd (arrAt_some hz).2 (fun q h => setH_ne h) ?_ z1 oq) (hL.add (Nat.le_add_right _ _))
  show H1[b0 + z.toNat]? = some (vp_cell _ _)
  have hnx : narrow .boolean (.int (oI x)) = .int (oI x) := by rcases hbo with rfl | rfl <;> decide
  rw [e1, oI_clamp, setH_row, hnx]
  dsimp only
  rw [vp_cell_i, vp_cell_i, arrV_store]
  congr 2
  funext q
  by_cases hq : q = (w32 i).toNat
  · subst hq; simp [updV]
  · simp [updV, hq]
theorem qkind_some {ci k : Nat} (h : qkind ci = some k) : (k = 5 ∧ cN ci = "StampQuarrels$Script") ∨ (k = 6 ∧ cN ci = "StampQuarrels$State") := by
  unfold qkind at h
  split at h
  · cases h; exact Or.inl ⟨rfl, by assumption⟩
  · split at h
    · cases h; exact Or.inr ⟨rfl, by assumption⟩
    · cases h
theorem ow_aast (E : EnvOK p s m args meth c cc oc ini D b0 ex aC Hb sc ExS) (hR : Rel D b0 ex aC Hb σ H) (hL : LocOK b0 locs) {k n ci : Nat} {i z x : Int} (hq : qkind ci = some k) (hz : arrAt σ z = some (k, n)) (ho : arrAt σ x = some (0, ci)) (hi : 0 ≤ w32 i ∧ w32 i < n) (hdg : decode cc pc = .ok (.aastore, 1))
    (kk : ∀ (H1 : Heap) (locs1 : List Loc), Rel D b0 ex aC Hb (σ.1, σ.2.1, setH σ.2.2 z.toNat (w32 i).toNat x) H1 → LocOK b0 locs1 → W p l e R s m args below meth c H1 locs1 cells slots Q (F0 m (pc + 1) ls rest)) : W p l e R s m args below meth c H locs cells slots Q (F0 m pc ls (vv b0 ex (2, x) :: .int (oI i) :: vv b0 ex (2, z) :: rest)) := by
  obtain ⟨hx, hb, hown, hts, -, hK⟩ := E
  obtain ⟨hv, hat⟩ := hR.at_ hz
  obtain ⟨hv2, hat2⟩ := hR.at_ ho
  obtain ⟨hx0, -⟩ := arrAt_some ho
  rw [hv, hv2]
  obtain ⟨r, hr, cell, g1, g2, g3, -⟩ := hat2
  have hcls := (hK.1.1 ci r hr).2
  obtain ⟨-, -, -, -, -, c6, -⟩ := cls_ok _ _ hr
  have hin := (oI_in i n).mpr hi
  have hlt : (oI i).toNatClampNeg < n := Nat.not_le.mp fun q => hin (Or.inr q)
  have h0 : ¬ oI i < 0 := fun q => hin (Or.inl q)
  have key : ∀ (t0 : Nat) (cA : ClassId), (tysF aC)[t0]? = some (cA, .object r.1) → va_at D cls (b0 + z.toNat, .inl (cA, n, .inr (.inr (.inr (.inr (fun j => rfv b0 ex (σ.2.2 z.toNat j))))))) H →
      (∀ f : Nat → Int, cellV b0 ex aC (k, n) f = .inl (cA, n, .inr (.inr (.inr (.inr (fun j => rfv b0 ex (f j))))))) → W p l e R s m args below meth c H locs cells slots Q (F0 m pc ls (.ref (b0 + x.toNat) :: .int (oI i) :: .ref (b0 + z.toNat) :: rest)) := by
    intro t0 cA ht hat hce
    obtain ⟨kA, comp, k1, k2, k3, -⟩ := (hK.1.2 t0 _ ht).2
    have hcomp : comp = D.1 ci := Option.some.inj (k3.symm.trans hcls.1)
    subst hcomp
    obtain ⟨kC, hkC, -⟩ := hcls.2
    refine W.aast hx hb hat (fun q h => by cases h) (fun h => by cases h) k1 k2 rfl hkC ⟨h0, by show _ < (arrV _ _ _).slots.size; rw [arrV_size]; exact hlt⟩ g1 (fun q h => by rw [g3] at h; cases h) (by rw [g2]; exact hkC) (by rw [g2]; exact va_assign hcls) rfl rfl hdg fun H1 e1 z1 oq => ?_
    refine kk H1 _ (hR.upd (arrAt_some hz).2 (fun q h => setH_ne h) ?_ z1 oq) (hL.add (Nat.le_add_right _ _))
    rw [hce]
    show H1[b0 + z.toNat]? = some (vp_cell _ _)
    rw [e1, oI_clamp, setH_row]
    dsimp only
    rw [vp_cell_q, vp_cell_q, arrV_store]
    congr 2
    funext q
    by_cases hq : q = (w32 i).toNat
    · subst hq; simp [updV, rfv_nn hx0, va_rf]
    · simp [updV, hq]
  rcases qkind_some hq with ⟨rfl, hc⟩ | ⟨rfl, hc⟩
  · exact key 4 (aC 5) (by rw [← c6, hc]; rfl) hat (fun f => rfl)
  · exact key 5 (aC 6) (by rw [← c6, hc]; rfl) hat (fun f => rfl)
theorem W_aastN (hexec : p.tables.exec = Jvm.exec) (hb : c.code = cc) {a : Addr} {cell : Cell} {j : Int32} {k : Class} {comp : ClassId} {t : FieldType}
    (hcell : H[a]? = some cell) (hobj : ∀ q, cell.vm ≠ .statics q) (hknown : cell.vm ≠ .unknown) (hk : s.vm.classes[cell.cls]? = some k) (hkind : k.kind = .array comp t) (href : t.isReference = true)
    (hin : ¬ j < 0 ∧ j.toNatClampNeg < cell.slots.size)
    {g : JFrame} (hg : g.method = m) {rest : List Value} (hstack : g.stack = .null :: .int j :: .ref a :: rest) (hdg : decode cc g.pc = .ok (.aastore, 1))
    (kk : ∀ H' : Heap, H'[a]? = some (cell.setSlot j.toNatClampNeg .null) → H'.size = H.size → (∀ q, q ≠ a → H'[q]? = H[q]?) → W p l e R s m args below meth c H' (locs ++ [⟨a, j.toNatClampNeg⟩]) cells slots Q { g with pc := g.pc + 1, stack := rest }) :
    W p l e R s m args below meth c H locs cells slots Q g := by
  intro T hT X
  have hT' : T.heap[a]? = some cell := by rw [hT]; exact hcell
  obtain ⟨X', st⟩ := X.aastoreNullIn hexec hT' hobj hknown hk hkind href hin hg hstack (by rw [hb]; exact hdg)
  have hlt : a < T.heap.size := (Array.getElem?_eq_some_iff.mp hT').1
  obtain ⟨t', a1, b1⟩ := kk _ (heapAt_setCell_self _ hlt) (by rw [size_setCell, hT]) (fun q hq => by rw [heapAt_setCell_ne _ (Ne.symm hq), hT]) (T.setCell a (cell.setSlot j.toNatClampNeg .null)) rfl X'
  exact ⟨t', st t' a1, b1⟩
theorem ow_aastN (E : EnvOK p s m args meth c cc oc ini D b0 ex aC Hb sc ExS) (hR : Rel D b0 ex aC Hb σ H) (hL : LocOK b0 locs) {k n : Nat} {i z : Int} (hq : k = 5 ∨ k = 6) (hz : arrAt σ z = some (k, n)) (hi : 0 ≤ w32 i ∧ w32 i < n) (hdg : decode cc pc = .ok (.aastore, 1))
    (kk : ∀ (H1 : Heap) (locs1 : List Loc), Rel D b0 ex aC Hb (σ.1, σ.2.1, setH σ.2.2 z.toNat (w32 i).toNat (-1)) H1 → LocOK b0 locs1 → W p l e R s m args below meth c H1 locs1 cells slots Q (F0 m (pc + 1) ls rest)) : W p l e R s m args below meth c H locs cells slots Q (F0 m pc ls (vv b0 ex (2, -1) :: .int (oI i) :: vv b0 ex (2, z) :: rest)) := by
  obtain ⟨hx, hb, hown, hts, -, hK⟩ := E
  obtain ⟨hv, hat⟩ := hR.at_ hz
  rw [hv, show vv b0 ex (2, -1) = .null from rfl]
  have hin := (oI_in i n).mpr hi
  have hlt : (oI i).toNatClampNeg < n := Nat.not_le.mp fun q => hin (Or.inr q)
  have h0 : ¬ oI i < 0 := fun q => hin (Or.inl q)
  have key : ∀ (t0 : Nat) (cA : ClassId) (C : String), (tysF aC)[t0]? = some (cA, .object C) → va_at D cls (b0 + z.toNat, .inl (cA, n, .inr (.inr (.inr (.inr (fun j => rfv b0 ex (σ.2.2 z.toNat j))))))) H →
      (∀ f : Nat → Int, cellV b0 ex aC (k, n) f = .inl (cA, n, .inr (.inr (.inr (.inr (fun j => rfv b0 ex (f j))))))) → W p l e R s m args below meth c H locs cells slots Q (F0 m pc ls (.null :: .int (oI i) :: .ref (b0 + z.toNat) :: rest)) := by
    intro t0 cA C ht hat hce
    obtain ⟨kA, comp, k1, k2, k3, -⟩ := (hK.1.2 t0 _ ht).2
    refine W_aastN hx hb hat (fun q h => by cases h) (fun h => by cases h) k1 k2 rfl ⟨h0, by show _ < (arrV _ _ _).slots.size; rw [arrV_size]; exact hlt⟩ rfl rfl hdg fun H1 e1 z1 oq => ?_
    refine kk H1 _ (hR.upd (arrAt_some hz).2 (fun q h => setH_ne h) ?_ z1 oq) (hL.add (Nat.le_add_right _ _))
    rw [hce]
    show H1[b0 + z.toNat]? = some (vp_cell _ _)
    rw [e1, oI_clamp, setH_row]
    dsimp only
    rw [vp_cell_q, vp_cell_q, arrV_store]
    congr 2
    funext q
    by_cases hq : q = (w32 i).toNat
    · subst hq; simp [updV, rfv_null, va_rf]
    · simp [updV, hq]
  rcases hq with rfl | rfl
  · exact key 4 (aC 5) _ rfl hat (fun f => rfl)
  · exact key 5 (aC 6) _ rfl hat (fun f => rfl)
theorem ow_newa (E : EnvOK p s m args meth c cc oc ini D b0 ex aC Hb sc ExS) (hR : Rel D b0 ex aC Hb σ H) {t : ArrayType} {k : Nat} {n : Int} (hk : akind t = some k) (hn : 0 ≤ w32 n ∧ w32 n ≤ 20000) (hcells : cells + 1 ≤ R.cells) (hslots : slots + (w32 n).toNat ≤ R.slots) (hdg : decode cc pc = .ok (.newarray t, 2))
    (kk : ∀ H1 : Heap, Rel D b0 ex aC Hb (push1 σ (k, (w32 n).toNat) (w32 n).toNat (fun _ => 0)) H1 → W p l e R s m args below meth c H1 locs (cells + 1) (slots + (w32 n).toNat) Q (F0 m (pc + 2) ls (vv b0 ex (2, (σ.1.length : Int)) :: rest))) : W p l e R s m args below meth c H locs cells slots Q (F0 m pc ls (.int (oI n) :: rest)) := by
  obtain ⟨hx, hb, hown, hts, -, hK⟩ := E
  have hz := hR.1
  have key : ∀ (t0 : Nat), (tysF aC)[t0]? = some (aC k, newarray.typeOf t) → Cond.arrayClass (newarray.typeOf t) ∈ lw_tbl → (∀ cA, va_RA s cA (newarray.typeOf t) = (s.vm.findClass ("[" ++ (newarray.typeOf t).toString) = some cA)) →
      (vp_cell (aC k) = fun a => vp_cell (aC k) a) → (∀ H1 : Heap, H1[H.size]? = some (arrV (aC k) (w32 n).toNat (fun _ => defaultValue (newarray.typeOf t))) → va_at D cls (H.size, cellV b0 ex aC (k, (w32 n).toNat) (fun _ => 0)) H1) → componentBytes (newarray.typeOf t) ≤ 8 →
      W p l e R s m args below meth c H locs cells slots Q (F0 m pc ls (.int (oI n) :: rest)) := by
    intro t0 ht hw hra _ hce hcb
    have hb2 : (w32 n).toNat * componentBytes (newarray.typeOf t) ≤ 536870912 := by
      have : (w32 n).toNat ≤ 20000 := by omega
      calc (w32 n).toNat * componentBytes (newarray.typeOf t) ≤ 20000 * 8 := Nat.mul_le_mul this hcb
        _ ≤ 536870912 := by decide
    refine va_newaK hx hb (hts _ (gi hw)) rfl hdg rfl (by rw [oI_lt0]; omega) (oI_clamp n) hb2 hcells hslots rfl fun H1 cA e1 z1 o1 hAr hNm => ?_
    have hca : cA = aC k := by
      have h1 := (hK.1.2 t0 _ ht).2
      simp only [hra] at h1
      exact Option.some.inj (hNm.symm.trans h1)
    subst hca
    have := kk H1 (hR.push (hce H1 e1) z1 o1)
    rw [vv_2, rfv_nn (by omega), Int.toNat_natCast, ← hz] at this
    exact this
  cases t <;> simp only [akind, Option.some.injEq, reduceCtorEq] at hk <;> subst hk
  · exact key 3 rfl (List.mem_of_getElem? (i := 322) (by decide +kernel)) (fun _ => rfl) rfl (fun H1 h => h) (by decide)
  · exact key 2 rfl (List.mem_of_getElem? (i := 323) (by decide +kernel)) (fun _ => rfl) rfl (fun H1 h => h) (by decide)
  · exact key 0 rfl (List.mem_of_getElem? (i := 181) (by decide +kernel)) (fun _ => rfl) rfl (fun H1 h => h) (by decide)
  · exact key 1 rfl (List.mem_of_getElem? (i := 410) (by decide +kernel)) (fun _ => rfl) rfl (fun H1 h => h) (by decide)
theorem ow_new (E : EnvOK p s m args meth c cc oc ini D b0 ex aC Hb sc ExS) (hR : Rel D b0 ex aC Hb σ H) {i ci : Nat} (hl : nlook oc i = some ci) (hci : ci < 13) (hcells : cells + 1 ≤ R.cells) (hslots : slots + fnum ci ≤ R.slots) (hdg : decode cc pc = .ok (.new i, 3))
    (kk : ∀ H1 : Heap, Rel D b0 ex aC Hb (push1 σ (0, ci) (fnum ci) (fun k => if ftag ci k = 2 then -1 else 0)) H1 → W p l e R s m args below meth c H1 locs (cells + 1) (slots + fnum ci) Q (F0 m (pc + 3) ls (vv b0 ex (2, (σ.1.length : Int)) :: rest))) : W p l e R s m args below meth c H locs cells slots Q (F0 m pc ls rest) := by
  obtain ⟨hx, hb, hown, hts, -, hK⟩ := E
  have hz := hR.1
  obtain ⟨r, hr⟩ : ∃ r, cls[ci]? = some r := ⟨_, List.getElem?_eq_getElem (by show ci < 13; exact hci)⟩
  obtain ⟨c1, c2, c3, c4, ⟨c5, c5'⟩, c6, c7⟩ := cls_ok _ _ hr
  have hlk := nlook_some hl
  rw [c6] at hlk
  have hfn := fnum_eq hr
  rw [hfn] at hslots
  have hKn := hK.1.1 ci _ hr
  refine W.newcK hx hb hown (hts _ (gi hlk)) (hts _ c5) (hts _ c5') rfl hdg hcells hslots hKn.2.1 rfl fun H1 kC hkC e1 z1 o1 => ?_
  have := kk H1 (hR.push ⟨r, hr, (u_born (fty ci) hts c1 hKn hkC e1 c2).to (fun j hj => ?_)⟩ z1 o1)
  · rw [vv_2, rfv_nn (by omega), Int.toNat_natCast, ← hz, hfn] at this
    exact this
  · rw [tyok_def (b0 := b0) (ex := ex) (c7 j hj)]
    exact (objV_V (f := fun k => if ftag ci k = 2 then -1 else 0) (by rw [hfn]; exact hj)).symm
theorem ow_newq (E : EnvOK p s m args meth c cc oc ini D b0 ex aC Hb sc ExS) (hR : Rel D b0 ex aC Hb σ H) {i ci k : Nat} {n : Int} (hl : nlook oc i = some ci) (hq : qkind ci = some k) (hn : 0 ≤ w32 n ∧ w32 n ≤ 20000) (hcells : cells + 1 ≤ R.cells) (hslots : slots + (w32 n).toNat ≤ R.slots) (hdg : decode cc pc = .ok (.anewarray i, 3))
    (kk : ∀ H1 : Heap, Rel D b0 ex aC Hb (push1 σ (k, (w32 n).toNat) (w32 n).toNat (fun _ => -1)) H1 → W p l e R s m args below meth c H1 locs (cells + 1) (slots + (w32 n).toNat) Q (F0 m (pc + 3) ls (vv b0 ex (2, (σ.1.length : Int)) :: rest))) : W p l e R s m args below meth c H locs cells slots Q (F0 m pc ls (.int (oI n) :: rest)) := by
  obtain ⟨hx, hb, hown, hts, -, hK⟩ := E
  have hz := hR.1
  have hlk := nlook_some hl
  have key : ∀ (C : String) (t0 : Nat) (cA : ClassId), cN ci = C → (tysF aC)[t0]? = some (cA, .object C) → va_AO C s → (∀ f : Nat → Int, cellV b0 ex aC (k, (w32 n).toNat) f = .inl (cA, (w32 n).toNat, .inr (.inr (.inr (.inr (fun j => rfv b0 ex (f j))))))) → W p l e R s m args below meth c H locs cells slots Q (F0 m pc ls (.int (oI n) :: rest)) := by
    intro C t0 cA hC ht hw hce
    subst hC
    refine W.anew hx hb hown (hts _ (gi hlk)) (va_AO.use hw) rfl hdg rfl (by rw [oI_lt0]; omega) (by rw [oI_clamp]; omega) hcells (by rw [oI_clamp]; exact hslots) fun cA2 kA comp f1 f2 f3 f4 => ?_
    rw [oI_clamp]
    have hca : cA2 = cA := by
      obtain ⟨_, _, -, -, -, h4⟩ := (hK.1.2 t0 _ ht).2
      exact Option.some.inj (f1.symm.trans h4)
    subst hca
    generalize hH1 : H.push ({ cls := cA2, slots := Array.replicate (w32 n).toNat .null, vm := .none } : Cell) = H1
    have z1 : H1.size = H.size + 1 := by rw [← hH1, Array.size_push]
    have e1 : H1[H.size]? = some (arrV cA2 (w32 n).toNat (fun _ => .null)) := by rw [← hH1, Array.getElem?_push_size, ← arrV_new]
    have o1 : ∀ q : Nat, q < H.size → H1[q]? = H[q]? := fun q hq => by rw [← hH1, Array.getElem?_push, if_neg (Nat.ne_of_lt hq)]
    have := kk H1 (hR.push (by rw [hce]; exact e1) z1 o1)
    rw [vv_2, rfv_nn (by omega), Int.toNat_natCast, ← hz] at this
    exact this
  rcases qkind_some hq with ⟨rfl, hc⟩ | ⟨rfl, hc⟩
  · exact key _ 4 (aC 5) hc rfl hK.2.2.2.2.1.1 (fun f => rfl)
  · exact key _ 5 (aC 6) hc rfl hK.2.2.2.2.1.2 (fun f => rfl)
end OA
