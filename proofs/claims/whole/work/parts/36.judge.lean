/-! ===== Judge: the law in force, asked ===== -/
/-- what told answers -/
def toldA (o : Option Int) (without most : Int) : Int := match o with
  | some v => clampA most v
  | none => without
/-- rows of a LAW lie behind 120, and stay -/
theorem LawC.of {sh : Shp} {h h2 : Sto} {p : Nat} {L : Law} (H : LawC sh h p L) (hp : 120 ≤ p ∧ p < sh.length) (hh : ∀ q, 120 ≤ q → q < sh.length → h2 q = h q) : LawC sh h2 p L := by
  have e0 : h2 p = h p := hh p hp.1 hp.2
  obtain ⟨hS, hb, hc, hr⟩ := H
  have ek : ∀ k, 2 ≤ k → k ≤ 9 → h2 (h p k).toNat = h (h p k).toNat := fun k h1 h2 => hh _ (by have := hb k h1 h2; omega) (by have := hb k h1 h2; omega)
  refine ⟨?_, ?_, ?_, ?_⟩
  · obtain ⟨h1, C, N, Nc, No, pk, px, pf, ps, pt, pw, po, pa, g1, g2, g3, g4, g5, g6, g7, g8, g9, g10, g11, g12, ⟨g13, g14⟩, ⟨g15, g16⟩, g17, g18⟩ := hS
    have e8 := ek 8 (by omega) (by omega)
    have e9 := ek 9 (by omega) (by omega)
    rw [g13, Int.toNat_natCast] at e8
    rw [g15, Int.toNat_natCast] at e9
    refine ⟨h1, C, N, Nc, No, pk, px, pf, ps, pt, pw, po, pa, ?_⟩
    rw [e0, e8, e9]
    exact ⟨g1, g2, g3, g4, g5, g6, g7, g8, g9, g10, g11, g12, ⟨g13, g14⟩, ⟨g15, g16⟩, g17, g18⟩
  · intro k h1 h2; rw [e0]; exact hb k h1 h2
  · rw [e0]; exact hc
  · intro i c hi
    obtain ⟨r1, r2, r3, r4⟩ := hr i c hi
    rw [e0, ek 2 (by omega) (by omega), ek 6 (by omega) (by omega), ek 4 (by omega) (by omega)]
    refine ⟨r1, r2, ?_, ?_⟩
    · unfold TellC at r3 ⊢; rw [e0, ek 8 (by omega) (by omega), ek 9 (by omega) (by omega)]; exact r3
    · unfold TellC at r4 ⊢; rw [e0, ek 8 (by omega) (by omega), ek 9 (by omega) (by omega)]; exact r4
theorem TellC.congr {sh : Shp} {h : Sto} {p F : Nat} {v : Int} {ev : Ev} (H : TellC sh h p F v (some ev)) (hS : ScrC sh h p) {f g : Nat → Int} (hfg : ∀ k, k < F → f k = g k) : ev f = ev g := by
  rcases H with ⟨_, h2⟩ | ⟨a, N, ev', h1, h2, h3, h4, h5⟩
  · cases h2
  · cases h2
    obtain ⟨k1, C, N', Nc, No, pk, px, pf, ps, pt, pw, po, pa, g1, g2, g3, g4, g5, g6, g7, g8, g9, g10, g11, g12, ⟨g13, g14⟩, ⟨g15, g16⟩, g17, g18⟩ := hS
    have e : N' = N := by rw [g4] at h4; omega
    subst e
    rw [← h5, ← h5]
    refine tlF_congr _ _ _ _ hfg (fun i hi => ?_) _ _ _
    rw [g15, Int.toNat_natCast]; exact (g18 i hi).1
theorem TellC.bd {sh : Shp} {h : Sto} {p F : Nat} {v : Int} {ev : Ev} (H : TellC sh h p F v (some ev)) (hS : ScrC sh h p) {f : Nat → Int} (hf : ∀ i, i < F → -2147483648 ≤ f i ∧ f i < 2147483648) {x : Int} (hx : ev f = some x) : -2147483648 ≤ x ∧ x < 2147483648 := by
  rcases H with ⟨_, h2⟩ | ⟨a, N, ev', h1, h2, h3, h4, h5⟩
  · cases h2
  · cases h2
    obtain ⟨k1, C, N', Nc, No, pk, px, pf, ps, pt, pw, po, pa, g1, g2, g3, g4, g5, g6, g7, g8, g9, g10, g11, g12, ⟨g13, g14⟩, ⟨g15, g16⟩, g17, g18⟩ := hS
    have e : N' = N := by rw [g4] at h4; omega
    subst e
    rw [← h5] at hx
    refine tlF_bd (fun i hi => ?_) hf _ _ _ (by simp) x hx
    rw [g15, Int.toNat_natCast]; exact g18 i hi
section JUDGE
variable {sc : Nat × (Nat → Int)} {d : Nat} {sh : Shp} {sl : Nat} {h : Sto} {Q : Pst} {j b c fa ks : Nat}
/-- telling at a clause's place, by TellC -/
theorem sp_tellE {p F : Nat} {v : Int} {ev : Ev} (H : TellC sh h p F v (some ev)) (hS : ScrC sh h p) (hF : shAt sh (fa : Int) = some (1, F)) (hF4 : F ≤ 400) (hK : shAt sh (ks : Int) = some (2, 64)) (hne : p ≠ ks ∧ h p 8 ≠ (ks : Int) ∧ h p 9 ≠ (ks : Int) ∧ fa ≠ ks) (hf : ∀ i, i < F → -2147483648 ≤ h fa i ∧ h fa i < 2147483648)
    (hq : ∀ h', (∀ q, q ≠ ks → h' q = h q) → Q (1, (ev (h fa)).getD (-9223372036854775808)) sh sl h') : WM sc d 30 [(2, (p : Int)), (0, v), (2, (fa : Int)), (2, (ks : Int))] sh sl h Q := by
  rcases H with ⟨_, h2⟩ | ⟨a, N, ev', h1, h2, h3, h4, h5⟩
  · cases h2
  · cases h2
    subst h1
    exact sp_tell hS hF hF4 hK hne h3 h4 hf (fun h' hh => by rw [h5]; exact hq h' hh)
theorem TellC.none_iff {p F : Nat} {v : Int} {e : Option Ev} (H : TellC sh h p F v e) : (v = -1 ↔ e = none) ∧ -1 ≤ v ∧ v < 400 := by
  rcases H with ⟨h1, h2⟩ | ⟨a, N, ev', h1, h2, h3, h4, h5⟩
  · subst h1 h2; simp
  · subst h1 h2; simp; omega
theorem lp_told {kind without most l r fo : Int} {p : Nat} {L : Law} {f : Nat → Int} {k : Nat} (G : Fix sh h) (J : JQ j b c fa ks) (hL : LawC sh h p L) (hp : 120 ≤ p ∧ p < sh.length) (hk : kind = (k : Int)) (hk3 : k ≤ 3) (hm : 0 ≤ most ∧ most ≤ 60) (hf : ∀ i, i < 8 → h fa i = f i) (hfb : ∀ i, i < 8 → -2147483648 ≤ f i ∧ f i < 2147483648) :
    ∀ (i : Nat) (h' : Sto) (I : Int) (j9 j10 : V), I = (i : Int) - 1 → i ≤ L.length → (∀ q, q ≠ ks → h' q = h q) → (∀ h'', (∀ q, q ≠ ks → h'' q = h q) → Q (0, toldA (tdF k f (L.take i)) without most) sh sl h'') →
      WF sc (d + 1) 28 193 [(2, (j : Int)), (0, kind), (0, l), (0, r), (0, without), (0, most), (0, fo), (2, (p : Int)), (0, I), j9, j10] [] sh sl h' Q := by
  obtain ⟨js, fs, kss, j0, j1, j2, j3, jB⟩ := J.sh G
  obtain ⟨n1, n2, n3, n4, n5, n6, n7, n8, n9, n10, n11⟩ := J.ne
  intro i
  induction i with
  | zero =>
    intro h' I j9 j10 hI hi hh hq
    subst hI
    simp (disch := omega) only [R_28_193, R_28_195, R_28_322, R_28_324, Int.natCast_zero, Int.zero_sub, w32_id, w64_id, if_pos, if_neg, if_true, if_false, not_true_eq_false, not_false_eq_true, nl0, nl1, nl2, nl9, Int.toNat_natCast, pushR0, pushR1, pushR2, pushR9, true_and, and_true, wgt_nil, wgt_0, wgt_1, wgt_2, lcmp_lt, lcmp_gt, lcmp_eq, lcmp_ge, lcmp_le]
    exact hq h' hh
  | succ i ih =>
    intro h' I j9 j10 hI hi hh hq
    have hI2 : I = (i : Int) := by omega
    subst hI2
    have hb := hL.2.1
    have hC : L.length ≤ 12 := by
      obtain ⟨⟨_, C, N, Nc, No, pk, px, pf, ps, pt, pw, po, pa, g1, g2, _⟩, _, hc, _⟩ := hL
      rw [g1] at hc; omega
    have hp' : h' p = h p := hh p (by omega)
    have hL' : LawC sh h' p L := hL.of hp (fun q hq1 hq2 => hh q (by omega))
    obtain ⟨hS', hb', hc', hr'⟩ := hL'
    obtain ⟨cl, hcl⟩ : ∃ cl, L[i]? = some cl := ⟨L[i], List.getElem?_eq_getElem (by omega)⟩
    obtain ⟨r1, r2, r3, r4⟩ := hr' i cl hcl
    have htake : L.take (i + 1) = L.take i ++ [cl] := by rw [List.take_add_one, hcl]; rfl
    rw [htake, tdF_snoc] at hq
    have hfa : ∀ k, k < 8 → h' fa k = f k := fun k hk => by rw [hh fa n5]; exact hf k hk
    have hfb' : ∀ k, k < 8 → -2147483648 ≤ h' fa k ∧ h' fa k < 2147483648 := fun k hk => by rw [hfa k hk]; exact hfb k hk
    have hps := hS'.1
    obtain ⟨C, N, Nc, No, pk, px, pf, ps, pt, pw, po, pa, g1, g2, g3, g4, g5, g6, ⟨g7, g8⟩, _, ⟨g9, g10⟩, _, ⟨g11, g12⟩, _, ⟨g13, _⟩, ⟨g14, _⟩, _⟩ := hS'.2
    have hlen : C = L.length := by rw [g1] at hc'; omega
    rw [g7, Int.toNat_natCast] at r1
    rw [g11, Int.toNat_natCast] at r3
    rw [g9, Int.toNat_natCast] at r4
    have hj' : h' j = h j := hh j n7
    have b8' := hb' 8 (by omega) (by omega)
    have b9' := hb' 9 (by omega) (by omega)
    have hnext : ofKind k f cl = none → ∀ h2 (j9 j10 : V), (∀ q, q ≠ ks → h2 q = h' q) → WF sc (d + 1) 28 316 [(2, (j : Int)), (0, kind), (0, l), (0, r), (0, without), (0, most), (0, fo), (2, (p : Int)), (0, (i : Int)), j9, j10] [] sh sl h2 Q := by
      intro hn h2 k9 k10 hh2
      simp (disch := omega) only [R_28_316, R_28_319, w32_id, w64_id, if_pos, if_neg, if_true, if_false, not_true_eq_false, not_false_eq_true, nl0, nl1, nl2, nl9, Int.toNat_natCast, pushR0, pushR1, pushR2, pushR9, true_and, and_true, wgt_nil, wgt_0, wgt_1, wgt_2, lcmp_lt, lcmp_gt, lcmp_eq, lcmp_ge, lcmp_le]
      rw [hn] at hq
      exact ih h2 _ _ _ (by omega) (by omega) (fun q hqk => (hh2 q hqk).trans (hh q hqk)) hq
    have t3 := r3.none_iff
    have t4 := r4.none_iff
    rw [R_28_193]
    simp (disch := omega) only [R_28_195, R_28_198, R_28_200, R_28_203, R_28_205, R_28_206, R_28_207, R_28_210, R_28_213, R_28_215, R_28_218, R_28_220, R_28_221, R_28_222, hps, g7, g11, r1, inA_of g8, inA_of g12, w32_id, w64_id, if_pos, if_neg, if_true, if_false, not_true_eq_false, not_false_eq_true, nl0, nl1, nl2, nl9, Int.toNat_natCast, pushR0, pushR1, pushR2, pushR9, true_and, and_true, wgt_nil, wgt_0, wgt_1, wgt_2, lcmp_lt, lcmp_gt, lcmp_eq, lcmp_ge, lcmp_le, hk]
    refine ⟨⟨by omega, by omega⟩, ?_⟩
    by_cases hkk : cl.1 = k
    · rw [if_pos (by omega)]
      refine ⟨⟨by omega, by omega⟩, ?_⟩
      have hval : ∀ h2 (j9 j10 : V), (∀ q, q ≠ ks → h2 q = h' q) → (∀ o, o = (match cl.2.2 with | some s => s f | none => some 1) → ofKind k f cl = o) → WF sc (d + 1) 28 254 [(2, (j : Int)), (0, kind), (0, l), (0, r), (0, without), (0, most), (0, fo), (2, (p : Int)), (0, (i : Int)), j9, j10] [] sh sl h2 Q := by
        sorry
      sorry
    · rw [if_neg (by omega)]
      rw [← hk]
      exact hnext (by unfold ofKind; rw [if_neg hkk]) h' _ _ (fun _ _ => rfl)
end JUDGE
