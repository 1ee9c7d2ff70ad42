/-! ===== the store and the heap: place k lies at b0 + k ===== -/
/-- addresses of what lies ahead of b0: ex 2 the script, ex (10 + i) the i-th text -/
def rfv (b0 : Nat) (ex : Nat → Nat) (z : Int) : Option Nat := if z = -1 then none else if z < 0 then some (ex (-z).toNat) else some (b0 + z.toNat)
def vv (b0 : Nat) (ex : Nat → Nat) (v : V) : Value := match v.1 with
  | 0 => .int (oI v.2)
  | 1 => .long (oL v.2)
  | _ => va_rf (rfv b0 ex v.2)
theorem vv_0 {b0 : Nat} {ex : Nat → Nat} (x : Int) : vv b0 ex (0, x) = .int (oI x) := rfl
theorem vv_1 {b0 : Nat} {ex : Nat → Nat} (x : Int) : vv b0 ex (1, x) = .long (oL x) := rfl
theorem vv_2 {b0 : Nat} {ex : Nat → Nat} (x : Int) : vv b0 ex (2, x) = va_rf (rfv b0 ex x) := rfl
theorem rfv_nn {b0 : Nat} {ex : Nat → Nat} {x : Int} (h : 0 ≤ x) : rfv b0 ex x = some (b0 + x.toNat) := by
  unfold rfv; rw [if_neg (by omega), if_neg (by omega)]
theorem rfv_null {b0 : Nat} {ex : Nat → Nat} : rfv b0 ex (-1) = none := rfl
theorem vv_cat {b0 : Nat} {ex : Nat → Nat} (v : V) : (vv b0 ex v).category = if v.1 = 1 then 2 else 1 := by
  obtain ⟨t, x⟩ := v
  match t with
  | 0 => rfl
  | 1 => rfl
  | n + 2 =>
    show (va_rf (rfv b0 ex x)).category = _
    rw [if_neg (show ¬ (n + 2 = 1) by omega)]
    cases rfv b0 ex x <;> rfl
def aty (k : Nat) : FieldType := match k with
  | 1 => .int
  | 2 => .long
  | 3 => .byte
  | 4 => .boolean
  | 5 => .object "StampQuarrels$Script"
  | _ => .object "StampQuarrels$State"
def tysF (aC : Nat → ClassId) : List (ClassId × FieldType) := [(aC 1, .int), (aC 2, .long), (aC 3, .byte), (aC 4, .boolean), (aC 5, .object "StampQuarrels$Script"), (aC 6, .object "StampQuarrels$State")]
def objV (b0 : Nat) (ex : Nat → Nat) (ci : Nat) (f : Nat → Int) : List Value := (List.range (fnum ci)).map (fun j => vv b0 ex (vtag (ftag ci j), f j))
def cellV (b0 : Nat) (ex : Nat → Nat) (aC : Nat → ClassId) (k : Nat × Nat) (f : Nat → Int) : va_E := match k.1 with
  | 0 => .inr (k.2, objV b0 ex k.2 f)
  | 1 => .inl (aC 1, k.2, .inl (fun j => oI (f j)))
  | 2 => .inl (aC 2, k.2, .inr (.inl (fun j => oL (f j))))
  | 3 => .inl (aC 3, k.2, .inl (fun j => oI (f j)))
  | 4 => .inl (aC 4, k.2, .inl (fun j => oI (f j)))
  | 5 => .inl (aC 5, k.2, .inr (.inr (.inr (.inr (fun j => rfv b0 ex (f j))))))
  | _ => .inl (aC 6, k.2, .inr (.inr (.inr (.inr (fun j => rfv b0 ex (f j))))))
def Rel (D : va_G) (b0 : Nat) (ex : Nat → Nat) (aC : Nat → ClassId) (Hb : Heap) (σ : St) (H : Heap) : Prop :=
  H.size = b0 + σ.1.length ∧ (∀ k sh, σ.1[k]? = some sh → va_at D cls (b0 + k, cellV b0 ex aC sh (σ.2.2 k)) H) ∧ ∀ q, q < b0 → H[q]? = Hb[q]?
def Ab (b0 : Nat) : Nat → Prop := fun q => b0 ≤ q
theorem one_P {D : va_G} {cl : List vw_C} {q : Nat × va_E} {H : Heap} (h : va_at D cl q H) : va_P D cl [q] H := by
  intro k r hk
  match k, hk with
  | 0, hk => cases hk; exact h
  | k + 1, hk => simp at hk
theorem one_D {A : Nat → Prop} {q : Nat × va_E} (h : A q.1) : va_D A [q] := by
  refine ⟨fun i j p r hi hj _ => ?_, fun k r hk => ?_⟩
  · have h1 := (List.getElem?_eq_some_iff.mp hi).1
    have h2 := (List.getElem?_eq_some_iff.mp hj).1
    simp at h1 h2; omega
  · match k, hk with
    | 0, hk => cases hk; exact h
    | k + 1, hk => simp at hk
theorem arrAt_some {σ : St} {z : Int} {k : Nat × Nat} (h : arrAt σ z = some k) : 0 ≤ z ∧ σ.1[z.toNat]? = some k := by
  unfold arrAt at h
  split at h
  · exact ⟨by assumption, h⟩
  · cases h
theorem Rel.at_ {D : va_G} {b0 : Nat} {ex : Nat → Nat} {aC : Nat → ClassId} {Hb : Heap} {σ : St} {H : Heap} (hR : Rel D b0 ex aC Hb σ H) {z : Int} {k : Nat × Nat} (h : arrAt σ z = some k) : vv b0 ex (2, z) = .ref (b0 + z.toNat) ∧ va_at D cls (b0 + z.toNat, cellV b0 ex aC k (σ.2.2 z.toNat)) H := by
  obtain ⟨h0, h1⟩ := arrAt_some h
  refine ⟨?_, hR.2.1 _ _ h1⟩
  rw [vv_2, rfv_nn h0]; rfl
/-- one cell is written -/
theorem Rel.upd {D : va_G} {b0 : Nat} {ex : Nat → Nat} {aC : Nat → ClassId} {Hb : Heap} {σ : St} {H H1 : Heap} (hR : Rel D b0 ex aC Hb σ H) {p : Nat} {sh : Nat × Nat} {h' : Nat → Nat → Int} (hp : σ.1[p]? = some sh) (ho : ∀ q, q ≠ p → h' q = σ.2.2 q)
    (hn : va_at D cls (b0 + p, cellV b0 ex aC sh (h' p)) H1) (z : H1.size = H.size) (oq : ∀ q : Nat, q ≠ b0 + p → H1[q]? = H[q]?) : Rel D b0 ex aC Hb (σ.1, σ.2.1, h') H1 := by
  refine ⟨by rw [z]; exact hR.1, fun k s hk => ?_, fun q hq => by rw [oq q (by omega)]; exact hR.2.2 q hq⟩
  by_cases e : k = p
  · subst e
    have : s = sh := Option.some.inj (hk.symm.trans hp)
    subst this
    exact hn
  · show va_at D cls (b0 + k, cellV b0 ex aC s (h' k)) H1
    rw [ho k e]
    exact (hR.2.1 k s hk).kept (oq _ (by show b0 + k ≠ b0 + p; omega))
/-- one cell comes -/
theorem Rel.push {D : va_G} {b0 : Nat} {ex : Nat → Nat} {aC : Nat → ClassId} {Hb : Heap} {σ : St} {H H1 : Heap} (hR : Rel D b0 ex aC Hb σ H) {sh : Nat × Nat} {f : Nat → Int} {n : Nat}
    (hn : va_at D cls (H.size, cellV b0 ex aC sh f) H1) (z : H1.size = H.size + 1) (oq : ∀ q : Nat, q < H.size → H1[q]? = H[q]?) : Rel D b0 ex aC Hb (push1 σ sh n f) H1 := by
  have hz := hR.1
  refine ⟨by rw [z, hz]; simp [push1]; omega, fun k s hk => ?_, fun q hq => by rw [oq q (by omega)]; exact hR.2.2 q hq⟩
  simp only [push1] at hk ⊢
  rw [List.getElem?_append] at hk
  split at hk
  · rename_i hlt
    have e : rowH σ.2.2 σ.1.length f k = σ.2.2 k := by
      funext j; unfold rowH; rw [if_neg (by omega)]
    rw [e]
    exact (hR.2.1 k s hk).kept (oq _ (by show b0 + k < H.size; omega))
  · rename_i hge
    have hk0 : k - σ.1.length = 0 := by
      have := (List.getElem?_eq_some_iff.mp hk).1
      simp at this; omega
    rw [hk0] at hk
    cases hk
    have ek : k = σ.1.length := by omega
    subst ek
    have e : rowH σ.2.2 σ.1.length f σ.1.length = f := by
      funext j; unfold rowH; rw [if_pos rfl]
    rw [e, ← hz]
    exact hn
/-! the locals -/
def lvR (b0 : Nat) (ex : Nat → Nat) (ls : Array Slot) (L : List V) : Prop := ls.size = L.length ∧ lv_wf ls ∧ ∀ (k : Nat) (v : V), L[k]? = some v → v.1 ≠ 9 → ls[k]? = some (.val (vv b0 ex v))
def lvl (b0 : Nat) (ex : Nat → Nat) (L : List V) : List (Nat × Value) := (List.range L.length).filterMap (fun k => match L[k]? with
  | some v => if v.1 = 9 then none else some (k, vv b0 ex v)
  | none => none)
theorem lvl_mem {b0 : Nat} {ex : Nat → Nat} {L : List V} {q : Nat × Value} : q ∈ lvl b0 ex L ↔ ∃ v, L[q.1]? = some v ∧ v.1 ≠ 9 ∧ q.2 = vv b0 ex v := by
  unfold lvl
  rw [List.mem_filterMap]
  constructor
  · rintro ⟨k, hk, h⟩
    split at h
    · rename_i v hv
      split at h
      · cases h
      · cases h; exact ⟨v, hv, by assumption, rfl⟩
    · cases h
  · rintro ⟨v, h1, h2, h3⟩
    obtain ⟨k, x⟩ := q
    refine ⟨k, List.mem_range.mpr (List.getElem?_eq_some_iff.mp h1).1, ?_⟩
    simp only at h1 h3
    rw [h1, h3]; simp [h2]
theorem lvR.has {b0 : Nat} {ex : Nat → Nat} {ls : Array Slot} {L : List V} (h : lvR b0 ex ls L) : lv_has ls L.length (lvl b0 ex L) := by
  refine ⟨h.1, h.2.1, fun q hq => ?_⟩
  obtain ⟨v, h1, h2, h3⟩ := lvl_mem.mp hq
  rw [h3]; exact h.2.2 _ _ h1 h2
theorem lvR.ld {b0 : Nat} {ex : Nat → Nat} {ls : Array Slot} {L : List V} (h : lvR b0 ex ls L) {t i : Nat} {x : Int} (hl : ldv t i L = some x) (ht : t ≠ 9) : L[i]? = some (t, x) ∧ ls[i]? = some (.val (vv b0 ex (t, x))) := by
  unfold ldv at hl
  split at hl
  · rename_i u y hy
    split at hl
    · rename_i e; subst e; cases hl; exact ⟨hy, h.2.2 _ _ hy ht⟩
    · cases hl
  · cases hl
theorem st1_len (L : List V) (i : Nat) (v : V) : (st1 L i v).length = L.length := by
  cases i with
  | zero => simp [st1]
  | succ j => show (List.set (if (L.getD j (9, 0)).1 = 1 then L.set j (9, 0) else L) (j + 1) v).length = _; split <;> simp
theorem st1_get {L : List V} {i k : Nat} {v w : V} (h : (st1 L i v)[k]? = some w) : (k = i ∧ w = v) ∨ (k ≠ i ∧ L[k]? = some w ∧ ¬ (k + 1 = i ∧ w.1 = 1)) ∨ w = (9, 0) := by
  cases i with
  | zero =>
    simp only [st1] at h
    by_cases e : k = 0
    · subst e
      have hl := (List.getElem?_eq_some_iff.mp h).1
      rw [List.getElem?_set_self (by simpa using hl)] at h
      cases h; exact Or.inl ⟨rfl, rfl⟩
    · rw [List.getElem?_set_ne (Ne.symm e)] at h
      exact Or.inr (Or.inl ⟨e, h, by omega⟩)
  | succ j =>
    simp only [st1] at h
    by_cases e : k = j + 1
    · subst e
      have hl := (List.getElem?_eq_some_iff.mp h).1
      rw [List.getElem?_set_self (by simpa using hl)] at h
      cases h; exact Or.inl ⟨rfl, rfl⟩
    · rw [List.getElem?_set_ne (Ne.symm e)] at h
      split at h
      · rename_i h9
        by_cases e2 : k = j
        · subst e2
          have hl := (List.getElem?_eq_some_iff.mp h).1
          rw [List.getElem?_set_self (by simpa using hl)] at h
          cases h; exact Or.inr (Or.inr rfl)
        · rw [List.getElem?_set_ne (Ne.symm e2)] at h
          exact Or.inr (Or.inl ⟨e, h, by omega⟩)
      · rename_i h9
        refine Or.inr (Or.inl ⟨e, h, fun hh => ?_⟩)
        have : k = j := by omega
        subst this
        rw [List.getD_eq_getElem?_getD, h] at h9
        exact h9 hh.2
theorem lvR.s1 {b0 : Nat} {ex : Nat → Nat} {ls' : Array Slot} {L : List V} {i : Nat} {v : V} (hv : v.1 ≠ 9) (h' : lv_has ls' L.length ((i, vv b0 ex v) :: (lvl b0 ex L).filter (fun q => !(q.1 == i) && !(q.1 + 1 == i && q.2.category == 2)))) : lvR b0 ex ls' (st1 L i v) := by
  refine ⟨by rw [st1_len]; exact h'.1, h'.2.1, fun k w hk hw => ?_⟩
  rcases st1_get hk with ⟨e, e2⟩ | ⟨e, hL, hn⟩ | e
  · subst e; subst e2
    exact h'.2.2 (_, _) List.mem_cons_self
  · refine h'.2.2 (k, vv b0 ex w) (List.mem_cons_of_mem _ (List.mem_filter.mpr ⟨lvl_mem.mpr ⟨w, hL, hw, rfl⟩, ?_⟩))
    simp only [vv_cat, Bool.and_eq_true, Bool.not_eq_true', beq_eq_false_iff_ne, ne_eq, e, not_false_eq_true, true_and, Bool.and_eq_false_imp, beq_iff_eq]
    intro hk1
    split
    · rename_i h1; exact absurd ⟨hk1, h1⟩ hn
    · decide
  · subst e; exact absurd rfl hw
theorem lvR.s2 {b0 : Nat} {ex : Nat → Nat} {ls' : Array Slot} {L : List V} {i : Nat} {v : V} (hv : v.1 ≠ 9) (h' : lv_has ls' L.length ((i, vv b0 ex v) :: (lvl b0 ex L).filter (fun q => !(q.1 == i) && (!(q.1 == i + 1) && !(q.1 + 1 == i && q.2.category == 2))))) : lvR b0 ex ls' (st2 L i v) := by
  refine ⟨by unfold st2; rw [List.length_set, st1_len]; exact h'.1, h'.2.1, fun k w hk hw => ?_⟩
  unfold st2 at hk
  by_cases e1 : k = i + 1
  · subst e1
    have hl := (List.getElem?_eq_some_iff.mp hk).1
    rw [List.getElem?_set_self (by simpa using hl)] at hk
    cases hk; exact absurd rfl hw
  rw [List.getElem?_set_ne (Ne.symm e1)] at hk
  rcases st1_get hk with ⟨e, e2⟩ | ⟨e, hL, hn⟩ | e
  · subst e; subst e2
    exact h'.2.2 (_, _) List.mem_cons_self
  · refine h'.2.2 (k, vv b0 ex w) (List.mem_cons_of_mem _ (List.mem_filter.mpr ⟨lvl_mem.mpr ⟨w, hL, hw, rfl⟩, ?_⟩))
    simp only [vv_cat, Bool.and_eq_true, Bool.not_eq_true', beq_eq_false_iff_ne, ne_eq, e, e1, not_false_eq_true, true_and, Bool.and_eq_false_imp, beq_iff_eq]
    intro hk1
    split
    · rename_i h1; exact absurd ⟨hk1, h1⟩ hn
    · decide
  · subst e; exact absurd rfl hw
theorem popT_some {t : Nat} {S : List V} {q : Int × List V} (h : popT t S = some q) : S = (t, q.1) :: q.2 := by
  unfold popT at h
  split at h
  · split at h
    · rename_i e; subst e; cases h; rfl
    · cases h
  · cases h
theorem jmp_some {pc : Nat} {off : Int} {t : Nat} (h : jmp pc off = some t) : (pc : Int) + off = (t : Int) := by
  unfold jmp at h
  split at h
  · cases h; omega
  · cases h
/-! what the tables' links say -/
theorem find_mem {α : Type} {l : List α} {p : α → Bool} {x : α} (h : l.find? p = some x) : x ∈ l ∧ p x = true := ⟨List.mem_of_find?_eq_some h, List.find?_some h⟩
theorem klook_some {oc i : Nat} {q : Nat × Int} (h : klook oc i = some q) : (q.1 = 0 → Cond.constant (cN oc) i (oI q.2) ∈ lw_tbl) ∧ (q.1 = 1 → Cond.constantLong (cN oc) i (oL q.2) ∈ lw_tbl) := by
  unfold klook at h
  obtain ⟨r, h1, h2⟩ := Option.map_eq_some_iff.mp h
  obtain ⟨hm, he⟩ := find_mem h1
  have hi : r.1 = i := by simpa using he
  have hc := klk_ok oc r hm
  subst h2; subst hi
  refine ⟨fun h0 => ?_, fun h0 => ?_⟩
  · simp only at h0
    unfold klchk at hc; rw [h0] at hc
    exact List.mem_of_getElem? (of_decide_eq_true hc)
  · simp only at h0
    unfold klchk at hc; rw [h0] at hc
    exact List.mem_of_getElem? (of_decide_eq_true hc)
theorem flook_some {oc i : Nat} {f : Nat × Nat} (h : flook oc i = some f) : ∃ r, cls[f.1]? = some r ∧ f.2 < r.2.2 ∧ Cond.fieldLink (cN oc) i r.1 (r.2.1 f.2).2.1 (r.2.1 f.2).2.2.1 ∈ lw_tbl := by
  unfold flook at h
  obtain ⟨q, h1, h2⟩ := Option.map_eq_some_iff.mp h
  obtain ⟨hm, he⟩ := find_mem h1
  have hi : q.1 = i := by simpa using he
  have hc := flk_ok oc q hm
  subst h2; subst hi
  unfold flchk at hc
  split at hc
  · rename_i r hr
    simp only [Bool.and_eq_true, decide_eq_true_eq] at hc
    exact ⟨r, hr, hc.1, List.mem_of_getElem? hc.2⟩
  · cases hc
theorem nlook_some {oc i ci : Nat} (h : nlook oc i = some ci) : Cond.classLink (cN oc) i (cN ci) ∈ lw_tbl := by
  unfold nlook at h
  obtain ⟨q, h1, h2⟩ := Option.map_eq_some_iff.mp h
  obtain ⟨hm, he⟩ := find_mem h1
  have hi : q.1 = i := by simpa using he
  have hc := nlk_ok oc q hm
  subst h2; subst hi
  unfold nlchk at hc
  exact List.mem_of_getElem? (of_decide_eq_true hc)
