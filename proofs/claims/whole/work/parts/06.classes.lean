/-! ===== the classes, one statement for all (printed by wip/gen/clsok.py) ===== -/
def tyok (t : Nat) (ty : FieldType) : Bool := match t, ty with
  | 0, .int => true
  | 1, .long => true
  | 10, .boolean => true
  | 2, .object _ => true
  | 2, .array _ => true
  | _, _ => false
def fty (ci k : Nat) : FieldType := (TYS.getD ci []).getD k .int
/-- the words that every state of a run keeps -/
def lw_g : List Cond := lw_tbl.filter goodWord
theorem gi {w : Cond} (h : w ∈ lw_tbl) (hg : goodWord w = true := by rfl) : w ∈ lw_g := List.mem_filter.mpr ⟨h, hg⟩
theorem ulay_good (C : String) (T : u_T) (k : Nat) : goodWord (u_lay C T k) = true := by unfold u_lay; split <;> rfl
def clsP (ci : Nat) (r : vw_C) : Prop := (∀ w ∈ u_ws r.1 r.2.1 r.2.2, w ∈ lw_g) ∧ (∀ k, k < r.2.2 → parseFieldDescriptor (r.2.1 k).2.2.1 = some (fty ci k)) ∧ (∀ a, a < r.2.2 → ∀ b, b < r.2.2 → a ≠ b → (r.2.1 a).2.1 ≠ (r.2.1 b).2.1) ∧ (∀ k, k < r.2.2 → (r.2.1 k).1 = r.1) ∧ (Cond.instantiable r.1 r.2.2 ∈ lw_g ∧ Cond.initialized r.1 ∈ lw_g) ∧ cN ci = r.1 ∧ ∀ k, k < r.2.2 → tyok (ftag ci k) (fty ci k) = true
theorem fm_in {C : String} {T : u_T} {N : Nat} {ps : List Nat} (h : u_ws C T N = ps.filterMap (fun i => lw_tbl[i]?)) : ∀ w ∈ u_ws C T N, w ∈ lw_g := by
  intro w hw
  have hg : goodWord w = true := by
    unfold u_ws at hw
    obtain ⟨k, -, rfl⟩ := List.mem_map.mp hw
    exact ulay_good C T k
  rw [h] at hw
  obtain ⟨i, -, hi⟩ := List.mem_filterMap.mp hw
  exact gi (List.mem_of_getElem? hi) hg
theorem tok_0 : ∀ k, k < 1 → tyok (ftag 0 k) (fty 0 k) = true := by decide +kernel
theorem tok_1 : ∀ k, k < 11 → tyok (ftag 1 k) (fty 1 k) = true := by decide +kernel
theorem tok_2 : ∀ k, k < 8 → tyok (ftag 2 k) (fty 2 k) = true := by decide +kernel
theorem tok_3 : ∀ k, k < 4 → tyok (ftag 3 k) (fty 3 k) = true := by decide +kernel
theorem tok_4 : ∀ k, k < 4 → tyok (ftag 4 k) (fty 4 k) = true := by decide +kernel
theorem tok_5 : ∀ k, k < 5 → tyok (ftag 5 k) (fty 5 k) = true := by decide +kernel
theorem tok_6 : ∀ k, k < 20 → tyok (ftag 6 k) (fty 6 k) = true := by decide +kernel
theorem tok_7 : ∀ k, k < 11 → tyok (ftag 7 k) (fty 7 k) = true := by decide +kernel
theorem tok_8 : ∀ k, k < 6 → tyok (ftag 8 k) (fty 8 k) = true := by decide +kernel
theorem tok_9 : ∀ k, k < 10 → tyok (ftag 9 k) (fty 9 k) = true := by decide +kernel
theorem tok_10 : ∀ k, k < 15 → tyok (ftag 10 k) (fty 10 k) = true := by decide +kernel
theorem tok_11 : ∀ k, k < 17 → tyok (ftag 11 k) (fty 11 k) = true := by decide +kernel
theorem tok_12 : ∀ k, k < 64 → tyok (ftag 12 k) (fty 12 k) = true := by decide +kernel
theorem cls_ok : ∀ (ci : Nat) (r : vw_C), cls[ci]? = some r → clsP ci r
  | 0, r, h => by cases h; exact ⟨fm_in lays_0, typ_0, nam_0, own_0, ⟨gi ins_0.1, gi ins_0.2⟩, rfl, tok_0⟩
  | 1, r, h => by cases h; exact ⟨fm_in lays_1, typ_1, nam_1, own_1, ⟨gi ins_1.1, gi ins_1.2⟩, rfl, tok_1⟩
  | 2, r, h => by cases h; exact ⟨fm_in lays_2, typ_2, nam_2, own_2, ⟨gi ins_2.1, gi ins_2.2⟩, rfl, tok_2⟩
  | 3, r, h => by cases h; exact ⟨fm_in lays_3, typ_3, nam_3, own_3, ⟨gi ins_3.1, gi ins_3.2⟩, rfl, tok_3⟩
  | 4, r, h => by cases h; exact ⟨fm_in lays_4, typ_4, nam_4, own_4, ⟨gi ins_4.1, gi ins_4.2⟩, rfl, tok_4⟩
  | 5, r, h => by cases h; exact ⟨fm_in lays_5, typ_5, nam_5, own_5, ⟨gi ins_5.1, gi ins_5.2⟩, rfl, tok_5⟩
  | 6, r, h => by cases h; exact ⟨fm_in lays_6, typ_6, nam_6, own_6, ⟨gi ins_6.1, gi ins_6.2⟩, rfl, tok_6⟩
  | 7, r, h => by cases h; exact ⟨fm_in lays_7, typ_7, nam_7, own_7, ⟨gi ins_7.1, gi ins_7.2⟩, rfl, tok_7⟩
  | 8, r, h => by cases h; exact ⟨fm_in lays_8, typ_8, nam_8, own_8, ⟨gi ins_8.1, gi ins_8.2⟩, rfl, tok_8⟩
  | 9, r, h => by cases h; exact ⟨fm_in lays_9, typ_9, nam_9, own_9, ⟨gi ins_9.1, gi ins_9.2⟩, rfl, tok_9⟩
  | 10, r, h => by cases h; exact ⟨fm_in lays_10, typ_10, nam_10, own_10, ⟨gi ins_10.1, gi ins_10.2⟩, rfl, tok_10⟩
  | 11, r, h => by cases h; exact ⟨fm_in lays_11, typ_11, nam_11, own_11, ⟨gi ins_11.1, gi ins_11.2⟩, rfl, tok_11⟩
  | 12, r, h => by cases h; exact ⟨fm_in lays_12, typ_12, nam_12, own_12, ⟨gi ins_12.1, gi ins_12.2⟩, rfl, tok_12⟩
  | n + 13, r, h => by simp at h
theorem fnum_eq {ci : Nat} {r : vw_C} (h : cls[ci]? = some r) : fnum ci = r.2.2 := by unfold fnum; rw [h]
theorem ffin_eq {ci k : Nat} {r : vw_C} (h : cls[ci]? = some r) : ffin ci k = (r.2.1 k).2.2.2 := by unfold ffin; rw [h]
theorem tyok_val {b0 : Nat} {ex : Nat → Nat} {t : Nat} {ty : FieldType} {x : Int} (h : tyok t ty = true) (hb : t = 10 → x = 0 ∨ x = 1) : narrow ty (vv b0 ex (vtag t, x)) = vv b0 ex (vtag t, x) ∧ fits ty (vv b0 ex (vtag t, x)) = true := by
  unfold tyok at h
  split at h
  · exact ⟨rfl, rfl⟩
  · exact ⟨rfl, rfl⟩
  · rcases hb rfl with rfl | rfl
    · exact ⟨show narrow .boolean (.int (oI 0)) = .int (oI 0) by decide, show fits .boolean (.int (oI 0)) = true by decide⟩
    · exact ⟨show narrow .boolean (.int (oI 1)) = .int (oI 1) by decide, show fits .boolean (.int (oI 1)) = true by decide⟩
  · refine ⟨?_, ?_⟩
    · show narrow _ (va_rf (rfv b0 ex x)) = va_rf (rfv b0 ex x)
      cases rfv b0 ex x <;> rfl
    · show fits _ (va_rf (rfv b0 ex x)) = _
      cases rfv b0 ex x <;> rfl
  · refine ⟨?_, ?_⟩
    · show narrow _ (va_rf (rfv b0 ex x)) = va_rf (rfv b0 ex x)
      cases rfv b0 ex x <;> rfl
    · show fits _ (va_rf (rfv b0 ex x)) = _
      cases rfv b0 ex x <;> rfl
  · cases h
theorem tyok_def {b0 : Nat} {ex : Nat → Nat} {t : Nat} {ty : FieldType} (h : tyok t ty = true) : defaultValue ty = vv b0 ex (vtag t, if t = 2 then -1 else 0) := by
  unfold tyok at h
  split at h <;> first | rfl | cases h
theorem objV_get {b0 : Nat} {ex : Nat → Nat} {ci k : Nat} {f : Nat → Int} (hk : k < fnum ci) : (objV b0 ex ci f)[k]? = some (vv b0 ex (vtag (ftag ci k), f k)) := by
  unfold objV
  rw [List.getElem?_map, List.getElem?_range hk]; rfl
theorem objV_V {b0 : Nat} {ex : Nat → Nat} {ci k : Nat} {f : Nat → Int} (hk : k < fnum ci) : vp_V (objV b0 ex ci f) k = vv b0 ex (vtag (ftag ci k), f k) := by
  unfold vp_V
  rw [List.getD_eq_getElem?_getD, objV_get hk]; rfl
/-- texts: what is said of them at the start (part 08 uses it) -/
def RelK (D : va_G) (b0 : Nat) (ex : Nat → Nat) (aC : Nat → ClassId) (Hb : Heap) (sc : Nat × (Nat → Int)) (ExS : State → Prop) (U : State) : Prop :=
  va_K D cls (tysF aC) U ∧ va_X (ex 2) sc.1 (fun j => oI (sc.2 j)) U Hb ∧ ex 2 < b0 ∧ Hb.size = b0 ∧ (va_AO "StampQuarrels$Script" U ∧ va_AO "StampQuarrels$State" U) ∧ ExS U
def EnvOK (p : Program) (s : State) (m : MethodId) (args : Array Value) (meth : Method) (c : Code) (cc : ByteArray) (oc : Nat) (ini : Bool) (D : va_G) (b0 : Nat) (ex : Nat → Nat) (aC : Nat → ClassId) (Hb : Heap) (sc : Nat × (Nat → Int)) (ExS : State → Prop) : Prop :=
  p.tables.exec = Jvm.exec ∧ c.code = cc ∧ s.vm.findClass (cN oc) = some m.cls ∧ (∀ w ∈ lw_g, w.before args s = true) ∧ (ini = true → meth.name = "<init>") ∧ RelK D b0 ex aC Hb sc ExS s
def LocOK (b0 : Nat) (locs : List Loc) : Prop := ∀ q ∈ locs, Ab b0 q.base
theorem LocOK.add {b0 : Nat} {locs : List Loc} (h : LocOK b0 locs) {a k : Nat} (ha : b0 ≤ a) : LocOK b0 (locs ++ [⟨a, k⟩]) := by
  intro q hq
  rcases List.mem_append.mp hq with h1 | h1
  · exact h q h1
  · rw [List.mem_singleton.mp h1]; exact ha
theorem Rel.S {D : va_G} {b0 : Nat} {ex : Nat → Nat} {aC : Nat → ClassId} {Hb : Heap} {σ : St} {H : Heap} {locs : List Loc} (hR : Rel D b0 ex aC Hb σ H) (hz : Hb.size = b0) (hL : LocOK b0 locs) : va_S (Ab b0) Hb H locs :=
  ⟨by rw [hz, hR.1]; omega, fun q h1 _ => hR.2.2 q (by omega), hL⟩
theorem setH_row {h : Nat → Nat → Int} {p k : Nat} {v : Int} : setH h p k v p = fun j => if j = k then v else h p j := by
  funext j; unfold setH; rw [if_pos rfl]
theorem setH_ne {h : Nat → Nat → Int} {p k q : Nat} {v : Int} (e : q ≠ p) : setH h p k v q = h q := by
  funext j; unfold setH; rw [if_neg e]
section OW
variable {p : Program} {l : Launch} {e : Env} {R : Room} {s : State} {m : MethodId} {args : Array Value} {below : List Frame} {meth : Method} {c : Code} {H : Heap} {locs : List Loc} {cells slots : Nat} {Q : State → Prop}
variable {cc : ByteArray} {pc : Nat} {ls : Array Slot} {rest : List Value} {oc : Nat} {ini : Bool} {D : va_G} {b0 : Nat} {ex : Nat → Nat} {aC : Nat → ClassId} {Hb : Heap} {sc : Nat × (Nat → Int)} {ExS : State → Prop} {σ : St}
theorem ow_get (E : EnvOK p s m args meth c cc oc ini D b0 ex aC Hb sc ExS) (hR : Rel D b0 ex aC Hb σ H) {i : Nat} {f : Nat × Nat} {z : Int} (hf : flook oc i = some f) (hz : arrAt σ z = some (0, f.1)) (hdg : decode cc pc = .ok (.getfield i, 3))
    (kk : W p l e R s m args below meth c H locs cells slots Q (F0 m (pc + 3) ls (vv b0 ex (vtag (ftag f.1 f.2), σ.2.2 z.toNat f.2) :: rest))) : W p l e R s m args below meth c H locs cells slots Q (F0 m pc ls (vv b0 ex (2, z) :: rest)) := by
  obtain ⟨hx, hb, hown, hts, -, hK⟩ := E
  obtain ⟨r, hr, hk, hlk⟩ := flook_some hf
  obtain ⟨hv, hat⟩ := hR.at_ hz
  obtain ⟨c1, c2, c3, c4, -⟩ := cls_ok _ _ hr
  rw [hv]
  exact va_get (C := r.1) (T := r.2.1) (N := r.2.2) hx hb hts c1 hown hK.1 (one_P hat) 0 rfl hr f.2 hk (hts _ (gi hlk)) (fun x h => by rw [c4 _ hk] at h; exact h) (objV_get (by rw [fnum_eq hr]; exact hk)) hdg kk
theorem ow_put (E : EnvOK p s m args meth c cc oc ini D b0 ex aC Hb sc ExS) (hR : Rel D b0 ex aC Hb σ H) (hL : LocOK b0 locs) {i : Nat} {f : Nat × Nat} {z x : Int} (hf : flook oc i = some f) (hz : arrAt σ z = some (0, f.1)) (hfi : ffin f.1 f.2 = true → ini = true ∧ f.1 = oc) (hbo : ftag f.1 f.2 = 10 → x = 0 ∨ x = 1) (hdg : decode cc pc = .ok (.putfield i, 3))
    (kk : ∀ (H1 : Heap) (locs1 : List Loc), Rel D b0 ex aC Hb (σ.1, σ.2.1, setH σ.2.2 z.toNat f.2 x) H1 → LocOK b0 locs1 → W p l e R s m args below meth c H1 locs1 cells slots Q (F0 m (pc + 3) ls rest)) : W p l e R s m args below meth c H locs cells slots Q (F0 m pc ls (vv b0 ex (vtag (ftag f.1 f.2), x) :: vv b0 ex (2, z) :: rest)) := by
  obtain ⟨hx, hb, hown, hts, hini, hK⟩ := E
  obtain ⟨r, hr, hk, hlk⟩ := flook_some hf
  obtain ⟨hv, hat⟩ := hR.at_ hz
  obtain ⟨c1, c2, c3, c4, -, c6, c7⟩ := cls_ok _ _ hr
  obtain ⟨hn, hfit⟩ := tyok_val (b0 := b0) (ex := ex) (x := x) (c7 _ hk) hbo
  rw [hv]
  have hap := va_apart (own := cN oc) hts c1 (fty f.1) c2 c3 hK.1 hr
  obtain ⟨r2, h1, cell, q1, q2, q3, q4⟩ := hat
  have hr2 : r2 = r := Option.some.inj (h1.symm.trans hr)
  subst hr2
  obtain ⟨hSl, hfc, kC, hkC, hkind⟩ := hK.1.1 f.1 _ hr
  obtain ⟨cf, kf, fi, fl, hi, hsl⟩ := hSl f.2 hk
  have hst := (u_facts hfc hkC (u_lays hts c1 hk) hi).1
  have hi2 : s.fieldFound? r2.1 (r2.2.1 f.2).2.1 (r2.2.1 f.2).2.2.1 = some (cf, kf, fi, fl) := by rw [c4 _ hk] at hi; exact hi
  have hlay := hts _ (c1 _ (u_in_lay hk))
  have hp : σ.1[z.toNat]? = some (0, f.1) := (arrAt_some hz).2
  have fin : ∀ (H' : Heap) (lc : List Loc), H'[b0 + z.toNat]? = some (cell.setSlot fl.slot (vv b0 ex (vtag (ftag f.1 f.2), x))) → H'.size = H.size → (∀ q, q ≠ b0 + z.toNat → H'[q]? = H[q]?) → LocOK b0 lc → W p l e R s m args below meth c H' lc cells slots Q (F0 m (pc + 3) ls rest) := by
    intro H' lc e1 e2 e3 hlc
    rw [hsl] at e1
    refine kk H' lc (hR.upd hp (fun q h => setH_ne h) ⟨r2, hr, ?_⟩ e2 e3) hlc
    refine t_OB.to (V := updV (vp_V (objV b0 ex f.1 (σ.2.2 z.toNat))) f.2 (vv b0 ex (vtag (ftag f.1 f.2), x))) ⟨_, e1, q2, q3, t_set q4 hap hk _⟩ (fun j hj => ?_)
    rw [← fnum_eq hr] at hj
    show _ = vp_V (objV b0 ex f.1 (setH σ.2.2 z.toNat f.2 x z.toNat)) j
    rw [objV_V hj, setH_row]
    unfold updV
    by_cases ej : j = f.2
    · subst ej; simp
    · simp only [ej, if_false]; exact objV_V hj
  unfold u_lay at hlay
  by_cases hfin : (r2.2.1 f.2).2.2.2 = true
  · obtain ⟨hi0, hoc⟩ := hfi (by rw [ffin_eq hr]; exact hfin)
    rw [if_pos hfin] at hlay
    have hcf : m.cls = cf := by
      obtain ⟨_, _, c', _, _, _, -, -, hf', -, -, -, hown2, -⟩ := Cond.laysFinal_spec hlay
      have e1 : c' = cf := by have := hi.symm.trans hf'; simp at this; exact this.1.symm
      rw [c4 _ hk, ← c6, hoc] at hown2
      rw [← e1]; exact Option.some.inj (hown.symm.trans hown2)
    have h6 := u_fits hfc hkC hkind (Or.inr hlay) hi (c2 _ hk) hn hfit
    refine W.putFinK hx hb hown (hts _ (gi hlk)) hi2 hst hcf (hini hi0) (by rw [q2]; exact h6) q1 q3 (by rw [hsl]; exact k2_hasslot (q4 _ hk)) rfl rfl hdg fun H' e1 e2 e3 => fin H' _ e1 e2 e3 (hL.add (Nat.le_add_right _ _))
  · rw [if_neg hfin] at hlay
    have h6 := u_store hfc hkC hkind hlay hi (c2 _ hk) hn hfit
    refine W.putK hx hb (f := fl) ⟨hown, hts _ (gi hlk), ⟨_, _, _, hi2⟩, hst⟩ (by rw [q2]; exact h6) q1 q3 (by rw [hsl]; exact k2_hasslot (q4 _ hk)) rfl rfl hdg fun H' e1 e2 e3 => fin H' _ e1 e2 e3 (hL.add (Nat.le_add_right _ _))
end OW
