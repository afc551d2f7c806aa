/-! THE MODEL'S STEPS: what is received, checks, meanings, prints -/
theorem zSb_chr : ∀ i, i < 36 → ∀ k, k < 40 → ((((zSbyt.getD i []).getD k 0) &&& 255).toUInt32 % 65536).toInt32 = (zSbyt.getD i []).getD k 0 := by decide +kernel
theorem w_charAt {ln : Nat → Nat} {σ : zS} {i k : Nat} {v : Int32} {Q : Int32 → zS → Prop} (hi : i < 36) (hk : k < zSlen.getD i 0) (hk2 : k < 40) (hv : v = nI k) (hq : Q ((zSbyt.getD i []).getD k 0) σ) : wJ0_charAt_5068e ln σ i v Q := by
  subst hv
  have hl := (zSb_ln i hi).2
  have hc : (nI k).toNatClampNeg = k := nI_clamp (by omega)
  refine ⟨fun h => absurd h (by decide), fun _ => ⟨fun _ => ?_, fun h => absurd rfl h⟩⟩
  refine ⟨fun h => absurd h (by decide), fun _ x e => ?_⟩
  subst e
  refine ⟨fun h => absurd h (nI_pos (by omega)), fun _ => ⟨fun _ => ⟨vp_in_nI hk (by omega), fun x e => ?_⟩, fun h => absurd (nI_lt hk (by omega)) h⟩⟩
  rw [hc] at e
  have e2 := zSb_chr i hi k hk2
  rw [← e] at e2
  refine ⟨pk_nc x, ?_⟩
  rw [e2]
  exact hq
/-- the character of a position -/
def zchr (p : Int32) (f : Bool) : Int32 := if f then (zSbyt.getD 13 []).getD (p - 2).toNatClampNeg 0 else 97 + p - 2
theorem m_characterOf {ln : Nat → Nat} {σ : zS} {t : Nat} {p f : Int32} {Q : Int32 → zS → Prop} (h0 : 2 ≤ p.toInt) (h1 : p.toInt < 28) (hq : Q (zchr p (!decide (f = 0))) σ) : wX12_characterOf ln σ t p f Q := by
  refine ⟨fun h => ?_, fun h x e => ?_⟩
  · rw [h] at hq; exact hq
  · subst e
    have e2 : (p - 2).toInt = p.toInt - 2 := nsub (b := 2) (by show _ ≤ p.toInt - 2; omega) (by show p.toInt - 2 < _; omega)
    have hl : zSlen.getD 13 0 = 26 := rfl
    refine w_charAt (k := (p - 2).toNatClampNeg) (by decide) (by rw [hl, ncln]; omega) (by rw [ncln]; omega) ?_ ?_
    · rw [neq, nI_toInt (by rw [ncln]; omega), ncln]; omega
    · have e3 : (!decide (f = 0)) = true := by simp [h]
      rw [e3] at hq
      exact hq
def rReceives (r : Nat → Int32) (o : Nat) (c : Int32) : Nat → Int32 := if r (29 + o) = 1000 then r else zu (zu r (963 + 1000 * o + (r (29 + o)).toNatClampNeg) c) (29 + o) (r (29 + o) + 1)
def rRecvs (r : Nat → Int32) (o : Nat) : Nat → (Nat → Int32)
  | 0 => r
  | k + 1 => rReceives (rRecvs r o k) o (r (59 + k))
theorem rReceives_b (r : Nat → Int32) (o : Nat) (c : Int32) (h0 : 0 ≤ (r (29 + o)).toInt) (h1 : (r (29 + o)).toInt ≤ 1000) : 0 ≤ (rReceives r o c (29 + o)).toInt ∧ (rReceives r o c (29 + o)).toInt ≤ 1000 := by
  unfold rReceives
  split
  · exact ⟨h0, h1⟩
  · have h9 : (r (29 + o)).toInt ≠ 1000 := fun e => (by assumption : ¬ r (29 + o) = 1000) (by rw [neq, e]; rfl)
    have e2 : (r (29 + o) + 1).toInt = (r (29 + o)).toInt + 1 := ixs (k := 1) rfl (by decide) (by omega) (by omega)
    rw [zu_self, e2]
    omega
theorem rReceives_out (r : Nat → Int32) (o : Nat) (c : Int32) (h0 : 0 ≤ (r (29 + o)).toInt) (h1 : (r (29 + o)).toInt ≤ 1000) {j : Nat} (hj : j ≠ 29 + o) (hj2 : ¬ (963 + 1000 * o ≤ j ∧ j < 1963 + 1000 * o)) : rReceives r o c j = r j := by
  have c0 := ncl h0
  unfold rReceives
  split
  · rfl
  · have h9 : (r (29 + o)).toInt ≠ 1000 := fun e => (by assumption : ¬ r (29 + o) = 1000) (by rw [neq, e]; rfl)
    rw [zu_ne hj, zu_ne (by omega)]
theorem rRecvs_b (r : Nat → Int32) (o : Nat) (h0 : 0 ≤ (r (29 + o)).toInt) (h1 : (r (29 + o)).toInt ≤ 1000) : ∀ k, 0 ≤ (rRecvs r o k (29 + o)).toInt ∧ (rRecvs r o k (29 + o)).toInt ≤ 1000
  | 0 => ⟨h0, h1⟩
  | k + 1 => rReceives_b _ o _ (rRecvs_b r o h0 h1 k).1 (rRecvs_b r o h0 h1 k).2
theorem rRecvs_out (r : Nat → Int32) (o : Nat) (h0 : 0 ≤ (r (29 + o)).toInt) (h1 : (r (29 + o)).toInt ≤ 1000) {j : Nat} (hj : j ≠ 29 + o) (hj2 : ¬ (963 + 1000 * o ≤ j ∧ j < 1963 + 1000 * o)) : ∀ k, rRecvs r o k j = r j
  | 0 => rfl
  | k + 1 => (rReceives_out _ o _ (rRecvs_b r o h0 h1 k).1 (rRecvs_b r o h0 h1 k).2 hj hj2).trans (rRecvs_out r o h0 h1 hj hj2 k)
theorem a963_0 : (963 : Int32) + 1000 * 0 = 963 := by decide
theorem a963_1 : (963 : Int32) + 1000 * 1 = 1963 := by decide
theorem m_receives {ln : Nat → Nat} {σ : zS} {r pf : Nat → Int32} {n far : Int32} (g1 : gr σ 455 1 = some 456) (l1 : ln 456 = 4763) {ov c : Int32} {q : Nat} (ho : ov = 0 ∧ q = 0 ∨ ov = 1 ∧ q = 1) (h0 : 0 ≤ (r (29 + q)).toInt) (h1 : (r (29 + q)).toInt ≤ 1000) {Q : zS → Prop} (hq : Q (zms σ (rReceives r q c) pf n far)) : wX12_receives ln (zms σ r pf n far) 455 ov c Q := by
  have c0 := ncl h0
  unfold rReceives at hq
  rcases ho with ⟨rfl, rfl⟩ | ⟨rfl, rfl⟩
  · simp only [Nat.add_zero, Nat.mul_zero, Nat.reduceAdd] at hq h0 h1 c0
    have e0 : ((963 : Int32) + r 29).toInt = 963 + (r 29).toInt := ixp (b := 963) rfl (by decide) (by omega) (by omega)
    simp only [wX12_receives, a963_0, gr_zms, g1, Option.some.injEq, exists_eq_left', l1, si_zms_q, gi_zms_q, forall_eq, true_and, ao21_0, ao21_1, ao23_0, ao23_1, ao25_0, ao25_1, ao27_0, ao27_1, ao29_0, ao29_1, ao31_0, ao31_1, ao33_0, ao33_1, ao35_0, ao35_1, ao37_0, ao37_1, vq21, cq21, vq22, cq22, vq23, cq23, vq24, cq24, vq25, cq25, vq26, cq26, vq27, cq27, vq28, cq28, vq29, cq29, vq30, cq30, vq31, cq31, vq32, cq32, vq33, cq33, vq34, cq34, vq35, cq35, vq36, cq36, vq37, cq37, vq38, cq38]
    refine ⟨fun h => ?_, fun h => ?_⟩
    · rw [if_pos h] at hq; exact hq
    · rw [if_neg h] at hq
      have h9 : (r 29).toInt ≠ 1000 := fun e => h (by rw [neq, e]; rfl)
      have v0 : vp_in ((963 : Int32) + r 29) 4763 := nin (by omega) (by omega)
      have i0 : ((963 : Int32) + r 29).toNatClampNeg = 963 + (r 29).toNatClampNeg := by rw [ncln, e0]; omega
      have k0 : ¬ 29 = 963 + (r 29).toNatClampNeg := by omega
      simp only [v0, i0, zu_ap, k0, if_false, true_and]
      exact hq
  · simp only [Nat.reduceAdd, Nat.reduceMul] at hq h0 h1 c0
    have e0 : ((1963 : Int32) + r 30).toInt = 1963 + (r 30).toInt := ixp (b := 1963) rfl (by decide) (by omega) (by omega)
    simp only [wX12_receives, a963_1, gr_zms, g1, Option.some.injEq, exists_eq_left', l1, si_zms_q, gi_zms_q, forall_eq, true_and, ao21_0, ao21_1, ao23_0, ao23_1, ao25_0, ao25_1, ao27_0, ao27_1, ao29_0, ao29_1, ao31_0, ao31_1, ao33_0, ao33_1, ao35_0, ao35_1, ao37_0, ao37_1, vq21, cq21, vq22, cq22, vq23, cq23, vq24, cq24, vq25, cq25, vq26, cq26, vq27, cq27, vq28, cq28, vq29, cq29, vq30, cq30, vq31, cq31, vq32, cq32, vq33, cq33, vq34, cq34, vq35, cq35, vq36, cq36, vq37, cq37, vq38, cq38]
    refine ⟨fun h => ?_, fun h => ?_⟩
    · rw [if_pos h] at hq; exact hq
    · rw [if_neg h] at hq
      have h9 : (r 30).toInt ≠ 1000 := fun e => h (by rw [neq, e]; rfl)
      have v0 : vp_in ((1963 : Int32) + r 30) 4763 := nin (by omega) (by omega)
      have i0 : ((1963 : Int32) + r 30).toNatClampNeg = 1963 + (r 30).toNatClampNeg := by rw [ncln, e0]; omega
      have k0 : ¬ 30 = 1963 + (r 30).toNatClampNeg := by omega
      simp only [v0, i0, zu_ap, k0, if_false, true_and]
      exact hq
def rChecks (r : Nat → Int32) (q : Nat) (p : Int32) : Nat → Int32 :=
  if p = 2 + (r 12 - r 12 / (r 0 - 2) * (r 0 - 2)) then rClears (rSends (rReceives (rRecvs (rNotes r 1 (r 11)) q (r 11).toNatClampNeg) q 47) 1 0)
  else rClears (rSends (rNotes r 2 (r 12)) 2 0)
theorem m_checks52 {ln : Nat → Nat} {σ : zS} {r pf : Nat → Int32} {n far : Int32} (g1 : gr σ 455 1 = some 456) (l1 : ln 456 = 4763) {ov : Int32} {q : Nat} (ho : ov = 0 ∧ q = 0 ∨ ov = 1 ∧ q = 1) (hr0 : 0 ≤ (r (29 + q)).toInt) (hr1 : (r (29 + q)).toInt ≤ 1000) {m : Nat} (hm : m ≤ 40) (h11 : r 11 = nI m) (h19 : 0 ≤ (r 19).toInt) (h19' : (r 19).toInt ≤ 599) {Q : zS → Prop} (hq : Q (zms σ (rClears (rSends (rReceives (rRecvs r q m) q 47) 1 0)) pf n far)) : ∀ d k : Nat, k + d = m → wX12_checks_52 ln Q (d + 1) 455 ov 1 (nI k) (zms σ (rRecvs r q k) pf n far) := by
  have hq2 : q = 0 ∨ q = 1 := by omega
  intro d
  induction d with
  | zero =>
    intro k hk
    obtain rfl : k = m := by omega
    have hb := rRecvs_b r q hr0 hr1 k
    have e11 : rRecvs r q k 11 = nI k := (rRecvs_out r q hr0 hr1 (by omega) (by omega) k).trans h11
    have e19 : rReceives (rRecvs r q k) q 47 19 = r 19 := (rReceives_out _ q _ hb.1 hb.2 (by omega) (by omega)).trans (rRecvs_out r q hr0 hr1 (by omega) (by omega) k)
    have hc : nI k ≤ nI k := nI_le (Nat.le_refl k) (by omega)
    rw [wX12_checks_52]
    simp only [gr_zms, g1, Option.some.injEq, exists_eq_left', l1, si_zms_q, gi_zms_q, forall_eq, true_and, vq11, cq11, e11, hc, not_true, false_imp_iff, and_true, true_implies]
    refine m_receives g1 l1 ho hb.1 hb.2 ⟨fun h => absurd h (by decide), fun _ => ?_⟩
    refine m_sends g1 l1 (by rw [e19]; exact h19) (by rw [e19]; exact h19') ?_
    exact (m_clears g1 l1).mpr hq
  | succ d ih =>
    intro k hk
    have hb := rRecvs_b r q hr0 hr1 k
    have e11 : rRecvs r q k 11 = nI m := (rRecvs_out r q hr0 hr1 (by omega) (by omega) k).trans h11
    have e59 : rRecvs r q k (59 + k) = r (59 + k) := rRecvs_out r q hr0 hr1 (by omega) (by omega) k
    have hc : ¬ nI m ≤ nI k := nI_ge (by omega) (by omega)
    have x0 : (59 : Int32) + nI k = nI (59 + k) := nI_add 59 k
    have v0 : vp_in (nI (59 + k)) 4763 := vp_in_nI (by omega) (by omega)
    have i0 : (nI (59 + k)).toNatClampNeg = 59 + k := nI_clamp (by omega)
    rw [wX12_checks_52]
    simp only [gr_zms, g1, Option.some.injEq, exists_eq_left', l1, si_zms_q, gi_zms_q, forall_eq, true_and, vq11, cq11, e11, hc, x0, v0, i0, e59, false_imp_iff, not_false_eq_true, true_implies, nI_1]
    exact m_receives g1 l1 ho hb.1 hb.2 (ih (k + 1) (by omega))
theorem m_checks {ln : Nat → Nat} {σ : zS} {r pf : Nat → Int32} {n far : Int32} (g1 : gr σ 455 1 = some 456) (l1 : ln 456 = 4763) {q : Nat} (ho : (1 : Int32) - r 6 = 0 ∧ q = 0 ∨ (1 : Int32) - r 6 = 1 ∧ q = 1) (hN : 6 ≤ (r 0).toInt ∧ (r 0).toInt ≤ 28) (h18 : 0 ≤ (r 18).toInt) (h18' : (r 18).toInt ≤ 40) (h19 : 0 ≤ (r 19).toInt) (h19' : (r 19).toInt ≤ 599) (h11 : 0 ≤ (r 11).toInt) (h11' : (r 11).toInt ≤ 40) (hr0 : 0 ≤ (r (29 + q)).toInt) (hr1 : (r (29 + q)).toInt ≤ 1000) {p : Int32} {Q : zS → Prop} (hq : Q (zms σ (rChecks r q p) pf n far)) : wX12_checks ln (zms σ r pf n far) 455 p Q := by
  have hq2 : q = 0 ∨ q = 1 := by omega
  have hz : ¬ r 0 - 2 = 0 := fun e => by
    have e2 : (r 0 - 2).toInt = (r 0).toInt - 2 := nsub (b := 2) (by show _ ≤ (r 0).toInt - 2; omega) (by show (r 0).toInt - 2 < _; omega)
    rw [neq, e2] at e
    have : (0 : Int32).toInt = 0 := rfl
    omega
  unfold rChecks at hq
  simp only [wX12_checks, wX12_receiver, gr_zms, g1, Option.some.injEq, exists_eq_left', l1, si_zms_q, gi_zms_q, forall_eq, true_and, vq0, cq0, vq6, cq6, vq12, cq12, hz, not_false_eq_true]
  refine ⟨fun h => ?_, fun h => ?_⟩
  · rw [if_pos h] at hq
    refine ⟨fun h => absurd h (by decide), fun _ => ?_⟩
    simp only [gr_zms, g1, Option.some.injEq, exists_eq_left', l1, si_zms_q, gi_zms_q, forall_eq, true_and, vq11, cq11]
    refine m_notes g1 l1 h18 h18' ⟨(r 11).toNatClampNeg + 1, ?_⟩
    have hm : (r 11).toNatClampNeg ≤ 40 := by have := ncl h11; omega
    have e11 : r 11 = nI (r 11).toNatClampNeg := by rw [neq, nI_toInt (by omega)]; exact (ncl h11).symm
    have hb : rNotes r 1 (r 11) (29 + q) = r (29 + q) := rNotes_out r h18 h18' (by omega) (by omega)
    have hb19 : rNotes r 1 (r 11) 19 = r 19 := rNotes_out r h18 h18' (by omega) (by omega)
    have hb11 : rNotes r 1 (r 11) 11 = r 11 := rNotes_out r h18 h18' (by omega) (by omega)
    exact m_checks52 g1 l1 ho (by rw [hb]; exact hr0) (by rw [hb]; exact hr1) hm (by rw [hb11]; exact e11) (by rw [hb19]; exact h19) (by rw [hb19]; exact h19') hq (r 11).toNatClampNeg 0 (by omega)
  · rw [if_neg h] at hq
    refine ⟨fun _ => ?_, fun h => absurd rfl h⟩
    simp only [gr_zms, g1, Option.some.injEq, exists_eq_left', l1, si_zms_q, gi_zms_q, forall_eq, true_and, vq12, cq12]
    have hb19 : rNotes r 2 (r 12) 19 = r 19 := rNotes_out r h18 h18' (by omega) (by omega)
    refine m_notes g1 l1 h18 h18' ⟨fun _ => ?_, fun h => absurd rfl h⟩
    refine m_sends g1 l1 (by rw [hb19]; exact h19) (by rw [hb19]; exact h19') ?_
    exact (m_clears g1 l1).mpr hq
