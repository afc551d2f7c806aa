/-! THE MODEL'S STEPS: meanings, the round, prints -/
def rCount (r : Nat → Int32) : Nat → Int32 := zu r 12 (r 12 + 1)
def rLetter (r : Nat → Int32) (p : Int32) : Nat → Int32 := zu (zu r (59 + (r 11).toNatClampNeg) (zchr p (decide (r 13 = 1)))) 11 (r 11 + 1)
def rTake (r : Nat → Int32) (p : Int32) : Nat → Int32 := if 2 ≤ p then (if 40 ≤ r 11 then rCount r else rCount (rLetter r p)) else rCount (zu r 13 p)
def rMeans (r : Nat → Int32) (q : Nat) (p : Int32) : Nat → Int32 := if r 14 = 1 then rChecks r q p else if ¬ 2 ≤ p ∧ p = r 13 then zu r 14 1 else rTake r p
/-- what the steps on a printed position need -/
def zOkM (r : Nat → Int32) (q : Nat) : Prop := ((1 : Int32) - r 6 = 0 ∧ q = 0 ∨ (1 : Int32) - r 6 = 1 ∧ q = 1) ∧ (6 ≤ (r 0).toInt ∧ (r 0).toInt ≤ 28) ∧ (0 ≤ (r 18).toInt ∧ (r 18).toInt ≤ 40) ∧ (0 ≤ (r 19).toInt ∧ (r 19).toInt ≤ 599) ∧ (0 ≤ (r 11).toInt ∧ (r 11).toInt ≤ 40) ∧ (0 ≤ (r (29 + q)).toInt ∧ (r (29 + q)).toInt ≤ 1000)
theorem m_means117 {ln : Nat → Nat} {σ : zS} {r pf : Nat → Int32} {n far : Int32} (g1 : gr σ 455 1 = some 456) (l1 : ln 456 = 4763) {Q : zS → Prop} (hq : Q (zms σ (rCount r) pf n far)) : wX12_means_117 ln Q 455 (zms σ r pf n far) := by
  simp only [wX12_means_117, gr_zms, g1, Option.some.injEq, exists_eq_left', l1, si_zms_q, gi_zms_q, forall_eq, true_and, vq12, cq12]
  exact hq
theorem m_means102 {ln : Nat → Nat} {σ : zS} {r pf : Nat → Int32} {n far : Int32} (g1 : gr σ 455 1 = some 456) (l1 : ln 456 = 4763) (h0 : 0 ≤ (r 11).toInt) (h1 : (r 11).toInt ≤ 39) {p f : Int32} (hp : 2 ≤ p.toInt) (hp2 : p.toInt < 28) (hf : (!decide (f = 0)) = decide (r 13 = 1)) {Q : zS → Prop} (hq : Q (zms σ (rCount (rLetter r p)) pf n far)) : wX12_means_102 ln Q 455 456 (59 + r 11) 455 p f (zms σ r pf n far) := by
  have c0 := ncl h0
  have e0 : ((59 : Int32) + r 11).toInt = 59 + (r 11).toInt := ixp (b := 59) rfl (by decide) (by omega) (by omega)
  have v0 : vp_in ((59 : Int32) + r 11) 4763 := nin (by omega) (by omega)
  have i0 : ((59 : Int32) + r 11).toNatClampNeg = 59 + (r 11).toNatClampNeg := by rw [ncln, e0]; omega
  have k0 : ¬ 11 = 59 + (r 11).toNatClampNeg := by omega
  refine m_characterOf hp hp2 ?_
  rw [hf]
  simp only [gr_zms, g1, Option.some.injEq, exists_eq_left', l1, si_zms_q, gi_zms_q, forall_eq, true_and, vq11, cq11, v0, i0, zu_ap, k0, if_false]
  exact m_means117 g1 l1 hq
theorem m_means42 {ln : Nat → Nat} {σ : zS} {r pf : Nat → Int32} {n far : Int32} (g1 : gr σ 455 1 = some 456) (l1 : ln 456 = 4763) (h0 : 0 ≤ (r 11).toInt) (h1 : (r 11).toInt ≤ 40) {p : Int32} (hp2 : p.toInt < 28) {Q : zS → Prop} (hq : Q (zms σ (rTake r p) pf n far)) : wX12_means_42 ln Q 455 p (zms σ r pf n far) := by
  unfold rTake at hq
  simp only [wX12_means_42, gr_zms, g1, Option.some.injEq, exists_eq_left', l1, si_zms_q, gi_zms_q, forall_eq, true_and, vq11, cq11, vq13, cq13]
  refine ⟨fun h => ?_, fun h => ?_⟩
  · rw [if_pos h] at hq
    have hp : 2 ≤ p.toInt := by rw [nle] at h; exact h
    refine ⟨fun h2 => ?_, fun h2 => ?_⟩
    · rw [if_pos h2] at hq
      exact m_means117 g1 l1 hq
    · rw [if_neg h2] at hq
      have h39 : (r 11).toInt ≤ 39 := by
        rw [nle] at h2
        have : (40 : Int32).toInt = 40 := rfl
        omega
      exact ⟨fun h3 => m_means102 g1 l1 h0 h39 hp hp2 (by rw [h3]; decide) hq, fun h3 => m_means102 g1 l1 h0 h39 hp hp2 (by simp [h3]) hq⟩
  · rw [if_neg h] at hq
    exact m_means117 g1 l1 hq
theorem m_means {ln : Nat → Nat} {σ : zS} {r pf : Nat → Int32} {n far : Int32} (g1 : gr σ 455 1 = some 456) (l1 : ln 456 = 4763) {q : Nat} (ok : zOkM r q) {p : Int32} (hp2 : p.toInt < 28) {Q : zS → Prop} (hq : Q (zms σ (rMeans r q p) pf n far)) : wX12_means ln (zms σ r pf n far) 455 p Q := by
  obtain ⟨ho, hN, h18, h19, h11, hr⟩ := ok
  unfold rMeans at hq
  simp only [wX12_means, gr_zms, g1, Option.some.injEq, exists_eq_left', l1, si_zms_q, gi_zms_q, forall_eq, true_and, vq13, cq13, vq14, cq14]
  refine ⟨fun h => ?_, fun h => ?_⟩
  · rw [if_pos h] at hq
    exact m_checks g1 l1 ho hN h18.1 h18.2 h19.1 h19.2 h11.1 h11.2 hr.1 hr.2 hq
  · rw [if_neg h] at hq
    refine ⟨fun h2 => ?_, fun h2 => ⟨fun h3 => ?_, fun h3 => ?_⟩⟩
    · rw [if_neg (fun h9 => h9.1 h2)] at hq
      exact m_means42 g1 l1 h11.1 h11.2 hp2 hq
    · rw [if_pos ⟨h2, h3⟩] at hq
      exact hq
    · rw [if_neg (fun h9 => h3 h9.2)] at hq
      exact m_means42 g1 l1 h11.1 h11.2 hp2 hq
theorem nbm64 {x : Int} (h1 : -9223372036854775808 ≤ x) (h2 : x < 9223372036854775808) : x.bmod (2 ^ 64) = x := by
  rw [Int.bmod_def]
  split <;> omega
theorem n64 (x : Int32) : x.toInt64.toInt = x.toInt := Int32.toInt_toInt64 x
/-- a long cut to an int that holds it -/
theorem n6432 {x : Int64} (h1 : -2147483648 ≤ x.toInt) (h2 : x.toInt < 2147483648) : x.toInt32.toInt = x.toInt := by
  rw [Int64.toInt_toInt32]
  exact nbm h1 h2
theorem m_within {ln : Nat → Nat} {σ : zS} {r pf : Nat → Int32} {n far : Int32} (g1 : gr σ 455 1 = some 456) (l1 : ln 456 = 4763) (hN : 6 ≤ (r 0).toInt ∧ (r 0).toInt ≤ 28) {v : Int64} (hv : -1000000000000000 ≤ v.toInt ∧ v.toInt ≤ 1000000000000000) {Q : Int32 → zS → Prop} (hq : Q (mI v.toInt (1000 * (r 0).toInt)) (zms σ r pf n far)) : wX12_within ln (zms σ r pf n far) 455 v Q := by
  have t1 : (1000 : Int32).toInt = 1000 := rfl
  have eR : (1000 * r 0).toInt = 1000 * (r 0).toInt := by rw [nmul (by rw [t1]; omega) (by rw [t1]; omega), t1]
  simp only [wX12_within, wX12_round, gr_zms, g1, Option.some.injEq, exists_eq_left', l1, si_zms_q, gi_zms_q, forall_eq, true_and, vq0, cq0]
  have eb : (1000 * r 0).toInt64.toInt = 1000 * (r 0).toInt := by rw [n64, eR]
  generalize hb : (1000 * r 0).toInt64 = b at eb ⊢
  have hb0 : 0 < b.toInt := by omega
  have t := ntd v.toInt b.toInt hb0
  have h3 := Int.emod_nonneg v.toInt (show b.toInt ≠ 0 by omega)
  have h4 := Int.emod_lt_of_pos v.toInt hb0
  have hd : (v / b).toInt = v.toInt.tdiv b.toInt := by
    rw [Int64.toInt_div]
    refine nbm64 ?_ ?_
    · by_cases h : 0 ≤ v.toInt
      · have := Int.tdiv_nonneg h (show 0 ≤ b.toInt by omega); omega
      · have h8 := Int.neg_tdiv (a := v.toInt) (b := b.toInt)
        have h9 : (-v.toInt).tdiv b.toInt ≤ -v.toInt := by
          rw [Int.tdiv_eq_ediv_of_nonneg (by omega)]
          exact Int.ediv_le_self _ (by omega)
        omega
    · by_cases h : 0 ≤ v.toInt
      · rw [Int.tdiv_eq_ediv_of_nonneg h]
        have := Int.ediv_le_self (b := b.toInt) h
        omega
      · have h8 := Int.neg_tdiv (a := v.toInt) (b := b.toInt)
        have h9 : 0 ≤ (-v.toInt).tdiv b.toInt := Int.tdiv_nonneg (by omega) (by omega)
        omega
  have hm : (v / b * b).toInt = v.toInt.tdiv b.toInt * b.toInt := by
    rw [Int64.toInt_mul, hd]
    exact nbm64 (by omega) (by omega)
  have hx : (v - v / b * b).toInt = v.toInt - v.toInt.tdiv b.toInt * b.toInt := by
    rw [Int64.toInt_sub, hm]
    exact nbm64 (by omega) (by omega)
  have hx2 : (v - v / b * b).toInt32.toInt = v.toInt - v.toInt.tdiv b.toInt * b.toInt := by rw [n6432 (by omega) (by omega), hx]
  have z0 : (0 : Int32).toInt = 0 := rfl
  have z1 : (0 : Int64).toInt = 0 := rfl
  refine ⟨fun h => ?_, fun h => ?_, fun h => ?_⟩
  · have : b.toInt = (0 : Int64).toInt := by rw [h]
    omega
  · rw [nle, z0, hx2] at h
    have e : (v - v / b * b).toInt32 = mI v.toInt (1000 * (r 0).toInt) := by
      rw [neq, hx2, mIt (by omega) (by omega), ← eb]
      omega
    rw [e]; exact hq
  · rw [nle, z0, hx2] at h
    have e : (v - v / b * b).toInt32 + 1000 * r 0 = mI v.toInt (1000 * (r 0).toInt) := by
      rw [neq, mIt (by omega) (by omega), nadd (by rw [hx2, eR]; omega) (by rw [hx2, eR]; omega), hx2, eR, ← eb]
      omega
    rw [e]; exact hq
