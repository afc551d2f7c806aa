/-! THE MODEL'S STEPS, over its row -/
theorem ix3 {c x : Int32} {b : Nat} (hc : c.toInt = b) (hb : b ≤ 10000) (h0 : 0 ≤ x.toInt) (h1 : x.toInt ≤ 1000) : (c + 3 * x).toInt = b + 3 * x.toInt := by
  have e3 : (3 : Int32).toInt = 3 := rfl
  have e : (3 * x).toInt = 3 * x.toInt := by rw [nmul (by rw [e3]; omega) (by rw [e3]; omega), e3]
  rw [nadd (by rw [e]; omega) (by rw [e]; omega), e, hc]
theorem ixp {c x : Int32} {b : Nat} (hc : c.toInt = b) (hb : b ≤ 1000000) (h0 : -100000 ≤ x.toInt) (h1 : x.toInt ≤ 1000000) : (c + x).toInt = b + x.toInt := by
  rw [nadd (by omega) (by omega), hc]
theorem ixs {x y : Int32} {k : Nat} (hy : y.toInt = k) (hk : k ≤ 10000) (h0 : -100000 ≤ x.toInt) (h1 : x.toInt ≤ 1000000) : (x + y).toInt = x.toInt + k := by
  rw [nadd (by omega) (by omega), hy]
/-- what stood three places further on, from place base on, i places -/
def zcut (r : Nat → Int32) (base i : Nat) : Nat → Int32 := fun j => if base ≤ j ∧ j < base + i then r (j + 3) else r j
theorem zcut_0 (r : Nat → Int32) (base : Nat) : zcut r base 0 = r := funext fun j => if_neg (by omega)
theorem zcut_s (r : Nat → Int32) (base i : Nat) : zu (zcut r base i) (base + i) (r (base + i + 3)) = zcut r base (i + 1) := by
  funext j
  unfold zu zcut
  by_cases h : j = base + i
  · rw [if_pos h, if_pos (by omega), h]
  · rw [if_neg h]
    by_cases h2 : base ≤ j ∧ j < base + i
    · rw [if_pos h2, if_pos (by omega)]
    · rw [if_neg h2, if_neg (by omega)]
theorem zcut_out (r : Nat → Int32) {base i j : Nat} (h : ¬ (base ≤ j ∧ j < base + i)) : zcut r base i j = r j := if_neg h
def rPut (r : Nat → Int32) (base cnt : Nat) (a b c : Int32) : Nat → Int32 := zu (zu (zu (zu r (base + 3 * (r cnt).toNatClampNeg) a) (base + 3 * (r cnt).toNatClampNeg + 1) b) (base + 3 * (r cnt).toNatClampNeg + 2) c) cnt (r cnt + 1)
def rSends (r : Nat → Int32) (w v : Int32) : Nat → Int32 := rPut r 2963 19 (r 5 + r 1) w v
def rCut (r : Nat → Int32) : Nat → Int32 := zu (zcut r 99 117) 18 (r 18 - 1)
def rNotes (r : Nat → Int32) (c v : Int32) : Nat → Int32 := if r 18 = 40 then rPut (rCut r) 99 18 (r 5) c v else rPut r 99 18 (r 5) c v
theorem m_sends {ln : Nat → Nat} {σ : zS} {r pf : Nat → Int32} {n far : Int32} (g1 : gr σ 455 1 = some 456) (l1 : ln 456 = 4763) (h0 : 0 ≤ (r 19).toInt) (h1 : (r 19).toInt ≤ 599) {w v : Int32} {Q : zS → Prop} (hq : Q (zms σ (rSends r w v) pf n far)) : wX12_sends ln (zms σ r pf n far) 455 w v Q := by
  have c0 := ncl h0
  have e0 : ((2963 : Int32) + 3 * r 19).toInt = 2963 + 3 * (r 19).toInt := ix3 (b := 2963) rfl (by decide) h0 (by omega)
  have e1 : ((2963 : Int32) + 3 * r 19 + 1).toInt = 2963 + 3 * (r 19).toInt + 1 := by rw [ixs (k := 1) rfl (by decide) (by omega) (by omega), e0]; rfl
  have e2 : ((2963 : Int32) + 3 * r 19 + 2).toInt = 2963 + 3 * (r 19).toInt + 2 := by rw [ixs (k := 2) rfl (by decide) (by omega) (by omega), e0]; rfl
  have v0 : vp_in ((2963 : Int32) + 3 * r 19) 4763 := nin (by omega) (by omega)
  have v1 : vp_in ((2963 : Int32) + 3 * r 19 + 1) 4763 := nin (by omega) (by omega)
  have v2 : vp_in ((2963 : Int32) + 3 * r 19 + 2) 4763 := nin (by omega) (by omega)
  have i0 : ((2963 : Int32) + 3 * r 19).toNatClampNeg = 2963 + 3 * (r 19).toNatClampNeg := by rw [ncln, e0]; omega
  have i1 : ((2963 : Int32) + 3 * r 19 + 1).toNatClampNeg = 2963 + 3 * (r 19).toNatClampNeg + 1 := by rw [ncln, e1]; omega
  have i2 : ((2963 : Int32) + 3 * r 19 + 2).toNatClampNeg = 2963 + 3 * (r 19).toNatClampNeg + 2 := by rw [ncln, e2]; omega
  have k0 : ¬ 19 = 2963 + 3 * (r 19).toNatClampNeg := by omega
  have k1 : ¬ 19 = 2963 + 3 * (r 19).toNatClampNeg + 1 := by omega
  have k2 : ¬ 19 = 2963 + 3 * (r 19).toNatClampNeg + 2 := by omega
  simp only [wX12_sends, gr_zms, g1, Option.some.injEq, exists_eq_left', l1, si_zms_q, gi_zms_q, forall_eq, true_and, vq1, cq1, vq5, cq5, vq19, cq19, v0, v1, v2, i0, i1, i2, zu_ap, k0, k1, k2, if_false]
  exact hq
theorem m_notes57 {ln : Nat → Nat} {σ : zS} {r pf : Nat → Int32} {n far : Int32} (g1 : gr σ 455 1 = some 456) (l1 : ln 456 = 4763) (h0 : 0 ≤ (r 18).toInt) (h1 : (r 18).toInt ≤ 39) {w v : Int32} {Q : zS → Prop} (hq : Q (zms σ (rPut r 99 18 (r 5) w v) pf n far)) : wX12_notes_57 ln Q 455 w v (zms σ r pf n far) := by
  have c0 := ncl h0
  have e0 : ((99 : Int32) + 3 * r 18).toInt = 99 + 3 * (r 18).toInt := ix3 (b := 99) rfl (by decide) h0 (by omega)
  have e1 : ((99 : Int32) + 3 * r 18 + 1).toInt = 99 + 3 * (r 18).toInt + 1 := by rw [ixs (k := 1) rfl (by decide) (by omega) (by omega), e0]; rfl
  have e2 : ((99 : Int32) + 3 * r 18 + 2).toInt = 99 + 3 * (r 18).toInt + 2 := by rw [ixs (k := 2) rfl (by decide) (by omega) (by omega), e0]; rfl
  have v0 : vp_in ((99 : Int32) + 3 * r 18) 4763 := nin (by omega) (by omega)
  have v1 : vp_in ((99 : Int32) + 3 * r 18 + 1) 4763 := nin (by omega) (by omega)
  have v2 : vp_in ((99 : Int32) + 3 * r 18 + 2) 4763 := nin (by omega) (by omega)
  have i0 : ((99 : Int32) + 3 * r 18).toNatClampNeg = 99 + 3 * (r 18).toNatClampNeg := by rw [ncln, e0]; omega
  have i1 : ((99 : Int32) + 3 * r 18 + 1).toNatClampNeg = 99 + 3 * (r 18).toNatClampNeg + 1 := by rw [ncln, e1]; omega
  have i2 : ((99 : Int32) + 3 * r 18 + 2).toNatClampNeg = 99 + 3 * (r 18).toNatClampNeg + 2 := by rw [ncln, e2]; omega
  have k0 : ¬ 18 = 99 + 3 * (r 18).toNatClampNeg := by omega
  have k1 : ¬ 18 = 99 + 3 * (r 18).toNatClampNeg + 1 := by omega
  have k2 : ¬ 18 = 99 + 3 * (r 18).toNatClampNeg + 2 := by omega
  simp only [wX12_notes_57, gr_zms, g1, Option.some.injEq, exists_eq_left', l1, si_zms_q, gi_zms_q, forall_eq, true_and, vq5, cq5, vq18, cq18, v0, v1, v2, i0, i1, i2, zu_ap, k0, k1, k2, if_false]
  exact hq
theorem m_notes14 {ln : Nat → Nat} {σ : zS} {r pf : Nat → Int32} {n far : Int32} (g1 : gr σ 455 1 = some 456) (l1 : ln 456 = 4763) (h40 : r 18 = 40) {w v : Int32} {Q : zS → Prop} (hq : Q (zms σ (rPut (rCut r) 99 18 (r 5) w v) pf n far)) : ∀ d i : Nat, i + d = 117 → wX12_notes_14 ln Q (d + 1) 455 w v (nI i) (zms σ (zcut r 99 i) pf n far) := by
  intro d
  induction d with
  | zero =>
    intro i hi
    obtain rfl : i = 117 := by omega
    have hc : (117 : Int32) ≤ nI 117 := by decide
    have hz : zcut r 99 117 18 = r 18 := zcut_out r (by omega)
    have h18 : zu (zcut r 99 117) 18 (r 18 - 1) 18 = 39 := by rw [zu_self, h40]; decide
    have h5 : zu (zcut r 99 117) 18 (r 18 - 1) 5 = r 5 := by rw [zu_ne (by decide)]; exact zcut_out r (by omega)
    simp only [wX12_notes_14, hc, gr_zms, g1, Option.some.injEq, exists_eq_left', l1, si_zms_q, gi_zms_q, forall_eq, true_and, vq18, cq18, hz, not_true, false_imp_iff, and_true, true_implies]
    refine m_notes57 g1 l1 (by rw [h18]; decide) (by rw [h18]; decide) ?_
    rw [h5]
    exact hq
  | succ d ih =>
    intro i hi
    have hc : ¬ (117 : Int32) ≤ nI i := nI_ge (a := i) (b := 117) (by omega) (by decide)
    have x0 : (99 : Int32) + nI i = nI (99 + i) := nI_add 99 i
    have x1 : nI (99 + i) + 3 = nI (99 + i + 3) := nI_add (99 + i) 3
    have v0 : vp_in (nI (99 + i)) 4763 := vp_in_nI (by omega) (by omega)
    have v1 : vp_in (nI (99 + i + 3)) 4763 := vp_in_nI (by omega) (by omega)
    have i0 : (nI (99 + i)).toNatClampNeg = 99 + i := nI_clamp (by omega)
    have i1 : (nI (99 + i + 3)).toNatClampNeg = 99 + i + 3 := nI_clamp (by omega)
    have hz : zcut r 99 i (99 + i + 3) = r (99 + i + 3) := zcut_out r (by omega)
    rw [wX12_notes_14]
    simp only [hc, x0, x1, gr_zms, g1, Option.some.injEq, exists_eq_left', l1, si_zms_q, gi_zms_q, forall_eq, true_and, v0, v1, i0, i1, hz, false_imp_iff, not_false_eq_true, true_implies, zcut_s, nI_1]
    exact ih (i + 1) (by omega)
theorem m_notes {ln : Nat → Nat} {σ : zS} {r pf : Nat → Int32} {n far : Int32} (g1 : gr σ 455 1 = some 456) (l1 : ln 456 = 4763) (h0 : 0 ≤ (r 18).toInt) (h1 : (r 18).toInt ≤ 40) {w v : Int32} {Q : zS → Prop} (hq : Q (zms σ (rNotes r w v) pf n far)) : wX12_notes ln (zms σ r pf n far) 455 w v Q := by
  unfold rNotes at hq
  simp only [wX12_notes, gr_zms, g1, Option.some.injEq, exists_eq_left', l1, si_zms_q, gi_zms_q, forall_eq, true_and, vq18, cq18]
  refine ⟨fun h => ?_, fun h => ?_⟩
  · rw [if_pos h] at hq
    refine ⟨118, ?_⟩
    have := m_notes14 g1 l1 h hq 117 0 rfl
    rw [zcut_0] at this
    exact this
  · rw [if_neg h] at hq
    have h2 : (r 18).toInt ≠ 40 := fun e => h (by rw [neq, e]; rfl)
    exact m_notes57 g1 l1 h0 (by omega) hq
