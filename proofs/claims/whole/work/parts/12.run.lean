/-! ===== THE BRIDGE: what the pure machine answers, the machine answers ===== -/
def wsY (q : ME) : List Cond := Cond.code q.1 q.2.1 q.2.2.1 q.2.2.2.1 :: lw_g
theorem good_g {w : Cond} (h : w ∈ lw_g) : (w.onTables && w.keeps) = true ∨ ∃ ty, w = .arrayClass ty := good_of_word (List.mem_filter.mp h).2
theorem good_wsY {q : ME} (hq : q ∈ MT) : GoodIn lw_g (wsY q) := by
  intro w hw
  rcases List.mem_cons.mp hw with rfl | h
  · exact ⟨gi (mt_code q hq), good_g (gi (mt_code q hq))⟩
  · exact ⟨h, good_g h⟩
theorem good_pre {q : ME} (hq : q ∈ MT) {l : List Cond} (hl : ∀ w ∈ l, w ∈ lw_g) : GoodIn lw_g (l ++ wsY q) := by
  intro w hw
  rcases List.mem_append.mp hw with h | h
  · exact ⟨hl w h, good_g (hl w h)⟩
  · exact good_wsY hq w h
def rmD (d mc ms : Nat) : Room := { frames := d, cells := mc, slots := ms, locals := 100 * d }
/-- what must hold of the surroundings -/
def Sur (b0 : Nat) (ex : Nat → Nat) (D : va_G) (aC : Nat → ClassId) (Hb : Heap) (sc : Nat × (Nat → Int)) (ExS : State → Prop) : Prop :=
  LdcOK ex ExS ∧ StrOK D b0 ex aC Hb sc ExS ∧ (∀ u U : State, u.WarmedH U.vm → ExS u → ExS U) ∧ ∀ u U : State, U.vm = u.vm → ExS u → ExS U
theorem RelK.moved {D : va_G} {b0 : Nat} {ex : Nat → Nat} {aC : Nat → ClassId} {Hb : Heap} {sc : Nat × (Nat → Int)} {ExS : State → Prop} (hE : ∀ u U : State, u.WarmedH U.vm → ExS u → ExS U) {u U : State} (hW : u.WarmedH U.vm) (h : RelK D b0 ex aC Hb sc ExS u) : RelK D b0 ex aC Hb sc ExS U :=
  ⟨h.1.moved hW.alike, h.2.1.moved hW.alike, h.2.2.1, h.2.2.2.1, ⟨h.2.2.2.2.1.1.moved hW.alike, h.2.2.2.2.1.2.moved hW.alike⟩, hE u U hW h.2.2.2.2.2⟩
theorem RelK.same {D : va_G} {b0 : Nat} {ex : Nat → Nat} {aC : Nat → ClassId} {Hb : Heap} {sc : Nat × (Nat → Int)} {ExS : State → Prop} (hE : ∀ u U : State, U.vm = u.vm → ExS u → ExS U) {u U : State} (hv : U.vm = u.vm) (h : RelK D b0 ex aC Hb sc ExS u) : RelK D b0 ex aC Hb sc ExS U := by
  have ha : u.vm.Alike U.vm := by rw [hv]; exact Vm.Alike.refl u.vm
  exact ⟨h.1.moved ha, h.2.1.moved ha, h.2.2.1, h.2.2.2.1, ⟨h.2.2.2.2.1.1.moved ha, h.2.2.2.2.1.2.moved ha⟩, hE u U hv h.2.2.2.2.2⟩
/-- a contract's start and end -/
def PcY (D : va_G) (b0 : Nat) (ex : Nat → Nat) (aC : Nat → ClassId) (Hb : Heap) (sc : Nat × (Nat → Int)) (ExS : State → Prop) (A : List V) (σ : St) : Array Value → State → Prop := va_Pc (A.map (vv b0 ex)) (fun U => RelK D b0 ex aC Hb sc ExS U ∧ Rel D b0 ex aC Hb σ U.heap)
def QcY (D : va_G) (b0 : Nat) (ex : Nat → Nat) (aC : Nat → ClassId) (Hb : Heap) (r : V) (σ : St) : Array Value → State → Outcome → State → Prop := fun _ _ oc t => oc = .returned (rv b0 ex r) ∧ Rel D b0 ex aC Hb σ t.heap
/-- a run of a frame, from a place in a method's code: it comes to a return -/
def FrameP (sc : Nat × (Nat → Int)) (n : Nat) : Prop := ∀ (d y pc : Nat) (L S : List V) (σ : St) (r : V) (σ' : St), exF sc n d y pc L S σ = some (r, σ') → grows σ σ' ∧
  ∀ (q : ME), MTL[y]? = some q → ∀ (D : va_G) (b0 : Nat) (ex : Nat → Nat) (aC : Nat → ClassId) (Hb : Heap) (ExS : State → Prop), Sur b0 ex D aC Hb sc ExS →
  ∀ (p : Program) (l : Launch) (e : Env) (R : Room) (s : State) (m : MethodId) (args : Array Value) (below : List Frame) (meth : Method) (c : Code) (H : Heap) (locs : List Loc) (ls : Array Slot) (Q : State → Prop) (c0 s0 : Nat),
  EnvOK p s m args meth c q.2.1 q.2.2.2.2.1 (decide (q.1.name = "<init>")) D b0 ex aC Hb sc ExS → d ≤ R.frames → 100 * d ≤ R.locals → Rel D b0 ex aC Hb σ H → LocOK b0 locs → lvR b0 ex ls L → c.maxLocals = ls.size → c0 ≤ σ.1.length → s0 ≤ σ.2.1 → σ'.1.length - c0 ≤ R.cells → σ'.2.1 - s0 ≤ R.slots →
  (∀ (pcr : Nat) (ls' : Array Slot) (H' : Heap) (locs' : List Loc) (ins : Instr) (S' : List V), decode q.2.1 pcr = .ok (ins, 1) → retV q.2.2.2.1 ins S' = some r → Rel D b0 ex aC Hb σ' H' → LocOK b0 locs' → W p l e R s m args below meth c H' locs' (σ'.1.length - c0) (σ'.2.1 - s0) Q (F0 m pcr ls' (S'.map (vv b0 ex)))) →
  W p l e R s m args below meth c H locs (σ.1.length - c0) (σ.2.1 - s0) Q (F0 m pc ls (S.map (vv b0 ex)))
/-! a method's locals at its entry -/
theorem lg_flat {b0 : Nat} {ex : Nat → Nat} : ∀ A : List V, (lg_sl (A.map (vv b0 ex))).length = (flatV A).length := by
  intro A
  induction A with
  | nil => rfl
  | cons v A ih =>
    show ((if (vv b0 ex v).category = 2 then _ else _) ++ lg_sl (A.map (vv b0 ex))).length = ((if v.1 = 1 then _ else _) ++ flatV A).length
    rw [List.length_append, List.length_append, ih, vv_cat]
    by_cases h : v.1 = 1 <;> simp [h]
theorem lv_flat {b0 : Nat} {ex : Nat → Nat} : ∀ (A : List V) (i k : Nat) (v : V), (flatV A)[k]? = some v → v.1 ≠ 9 → (i + k, vv b0 ex v) ∈ lv_args i (A.map (vv b0 ex)) := by
  intro A
  induction A with
  | nil => intro i k v h; cases k <;> cases h
  | cons a A ih =>
    intro i k v h hv
    show _ ∈ (i, vv b0 ex a) :: lv_args (if (vv b0 ex a).category = 2 then i + 2 else i + 1) (A.map (vv b0 ex))
    rw [vv_cat]
    change ((if a.1 = 1 then [a, (9, 0)] else [a]) ++ flatV A)[k]? = some v at h
    by_cases ha : a.1 = 1
    · rw [if_pos ha] at h ⊢
      match k, h with
      | 0, h => cases h; exact List.mem_cons_self
      | 1, h => cases h; exact absurd rfl hv
      | k + 2, h =>
        have := ih (i + 2) k v h hv
        rw [show i + (k + 2) = i + 2 + k by omega]
        exact List.mem_cons_of_mem _ this
    · rw [if_neg ha] at h ⊢
      match k, h with
      | 0, h => cases h; exact List.mem_cons_self
      | k + 1, h =>
        have := ih (i + 1) k v h hv
        rw [show i + (k + 1) = i + 1 + k by omega]
        exact List.mem_cons_of_mem _ this
theorem ent_lvR {b0 : Nat} {ex : Nat → Nat} {A : List V} {n : Nat} {ls : Array Slot} (hn : (flatV A).length ≤ n) (h : lv_has ls n (lv_args 0 (A.map (vv b0 ex)))) : lvR b0 ex ls (ent A n) := by
  refine ⟨by rw [h.1]; unfold ent; simp; omega, h.2.1, fun k v hk hv => ?_⟩
  unfold ent at hk
  rw [List.getElem?_append] at hk
  split at hk
  · have := lv_flat (b0 := b0) (ex := ex) A 0 k v hk hv
    rw [Nat.zero_add] at this
    exact h.2.2 _ this
  · have := List.mem_replicate.mp (List.mem_of_getElem? hk)
    rw [this.2] at hv; exact absurd rfl hv
theorem mt_in {y : Nat} {q : ME} (h : MT[y]? = some q) : q ∈ MT := List.mem_of_getElem? h
theorem mt_l {y : Nat} {q : ME} (h : MT[y]? = some q) : MTL[y]? = some q := by
  unfold MTL; rw [List.getElem?_append_left (List.getElem?_eq_some_iff.mp h).1]; exact h
theorem mchk_all {q : ME} (h : q ∈ MT) : plainName q.1.cls = true ∧ q.1.cls ≠ "java/lang/invoke/MethodHandle" ∧ q.1.cls ≠ "java/lang/invoke/VarHandle" ∧ (parseMethodDescriptor q.1.desc).map (fun d => d.parameters.length) = some q.2.2.2.2.2.1 ∧ CN[q.2.2.2.2.1]? = some q.1.cls ∧ q.2.2.1 ≤ 60 := by
  have h := mt_ok q h
  unfold mchk at h
  simp only [Bool.and_eq_true, decide_eq_true_eq] at h
  obtain ⟨⟨⟨⟨⟨h1, h2⟩, h3⟩, h4⟩, h5⟩, h6⟩ := h
  exact ⟨h1, h2, h3, h4, h5, h6⟩
theorem cN_of {q : ME} (h : q ∈ MT) : cN q.2.2.2.2.1 = q.1.cls := by unfold cN; rw [(mchk_all h).2.2.2.2.1]
/-- a method's contract out of a run of its frame -/
theorem met_of {sc : Nat × (Nat → Int)} {n : Nat} (hF : FrameP sc n) {d y : Nat} {A : List V} {σ : St} {r : V} {σ' : St} {q : ME} (hq : MT[y]? = some q) (hA : (flatV A).length ≤ q.2.2.1) (h : exF sc n d y 0 (ent A q.2.2.1) [] σ = some (r, σ'))
    {D : va_G} {b0 : Nat} {ex : Nat → Nat} {aC : Nat → ClassId} {Hb : Heap} {ExS : State → Prop} (hSur : Sur b0 ex D aC Hb sc ExS) (l : Launch) :
    Met l q.1 (wsY q) (rmD d (σ'.1.length - σ.1.length) (σ'.2.1 - σ.2.1)) (PcY D b0 ex aC Hb sc ExS A σ) (QcY D b0 ex aC Hb r σ') (σ'.1.length - σ.1.length) (σ'.2.1 - σ.2.1) (Ab b0) := by
  have hin := mt_in hq
  obtain ⟨hpl, -⟩ := mchk_all hin
  obtain ⟨hgr, hF⟩ := hF d y 0 _ _ _ _ _ h
  refine Met.ofW (cc := q.2.1) (maxL := q.2.2.1) (ret := q.2.2.2.1) hpl rfl ?_
  intro p e s m args below meth c s₁ B hml hv
  obtain ⟨rfl, hK, hR⟩ := hv
  have hts := atoms_spec (ws := wsY q) B.pre
  have hown : s.vm.findClass q.1.cls = some m.cls := findClass_of_methodNamed B.named
  have hr := B.returns
  have hl := lv_entry (A.map (vv b0 ex)) (n := q.2.2.1) (by rw [lg_flat]; exact hA)
  rw [lg_entry_eq]
  generalize (lg_sl (A.map (vv b0 ex)) ++ List.replicate (q.2.2.1 - (lg_sl (A.map (vv b0 ex))).length) Slot.unset).toArray = ls at hl ⊢
  have E : EnvOK p s m (A.map (vv b0 ex)).toArray meth c q.2.1 q.2.2.2.2.1 (decide (q.1.name = "<init>")) D b0 ex aC Hb sc ExS :=
    ⟨B.exec, B.bytes, by rw [cN_of hin]; exact hown, fun w hw => hts w (List.mem_cons_of_mem _ hw), fun hi => by rw [(name_of_methodNamed B.named B.method).1]; exact of_decide_eq_true hi, hK⟩
  have hW := hF q (mt_l hq) D b0 ex aC Hb ExS hSur p l e (headSpec (wsY q) (rmD d (σ'.1.length - σ.1.length) (σ'.2.1 - σ.2.1))).room s m _ below meth c s.heap [] ls (MQ below (QcY D b0 ex aC Hb r σ') (A.map (vv b0 ex)).toArray s (σ'.1.length - σ.1.length) (σ'.2.1 - σ.2.1) (Ab b0)) σ.1.length σ.2.1 E (Nat.le_refl _) (Nat.le_refl _) hR (fun x hx => by cases hx) (ent_lvR hA hl) (by rw [hml, hl.1]) (Nat.le_refl _) (Nat.le_refl _) (Nat.le_refl _) (Nat.le_refl _) ?_
  · rw [Nat.sub_self, Nat.sub_self] at hW
    exact hW
  · intro pcr ls' H' locs' ins S' hd hrv hR' hL'
    have hlocks := B.notSynchronized
    have hx := B.exec
    have hb := B.bytes
    have hq2 : ∀ t : State, t.heap = H' → s.WarmedH t.vm → QcY D b0 ex aC Hb r σ' (A.map (vv b0 ex)).toArray s (.returned (rv b0 ex r)) t := fun t ht _ => ⟨rfl, by rw [ht]; exact hR'⟩
    generalize hrt : q.2.2.2.1 = rt at hrv hr
    unfold retV at hrv
    split at hrv
    · cases hrv; exact W.iret hx hb hr hq2 hL' hd
    · split at hrv
      · rename_i hx01; cases hrv
        exact W.zret hx hb hr (by rcases hx01 with rfl | rfl <;> decide) hq2 hL' hd
      · cases hrv
    · cases hrv; exact W.lret hx hb hr hq2 hL' hd
    · cases hrv
      exact W.aret hx hb hr (Or.inl ⟨_, rfl⟩) (vv_ref2 _) hq2 hL' hd
    · cases hrv; exact W.vret hx hb hr hq2 hL' hd
    · cases hrv
