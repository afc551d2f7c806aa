/-! THE MODEL'S TICK: what is sent; the tick -/
def zact (r : Nat → Int32) : Prop := ¬ r 6 = -1 ∧ ¬ r 7 = 1
def zLn (r : Nat → Int32) : Nat := 12 * zo r + (r (27 + zo r)).toNatClampNeg
def rPosn (r : Nat → Int32) : Int32 := (rPath r (zLn r)).getD (r 9).toNatClampNeg 0
def rFar (r : Nat → Int32) : Int32 := mI ((r (21 + zo r)).toInt - 1000 * (rPosn r).toInt) (1000 * (r 0).toInt)
def rCnt (r : Nat → Int32) : Nat → Int32 := zu r 16 (r 16 + 1)
def rSnd (r : Nat → Int32) (p : Int32) : Nat → Int32 := if rLost r (r 16) then zu r 17 (r 17 + 1) else rSends r 0 p
def rEndL (r : Nat → Int32) (L : Nat) : Nat → Int32 := if r 9 = nI L then zu (zu r 7 1) 8 (r 5 + 2 * r 1 + r 3) else r
def rNext (r : Nat → Int32) (L : Nat) : Nat → Int32 := rEndL (zu r 9 (r 9 + 1)) L
def rLooks (r : Nat → Int32) : Nat → Int32 := if r 6 = -1 ∨ r 7 = 1 then r else if r (23 + zo r) ≤ rFar r then r else rNext (rSnd (rCnt r) (rPosn r)) (rPath r (zLn r)).length
theorem m_isSender {ln : Nat → Nat} {σ : zS} {r pf : Nat → Int32} {n far : Int32} (g1 : gr σ 455 1 = some 456) (l1 : ln 456 = 4763) {Q : Int32 → zS → Prop} (hq : Q (if r 6 = -1 then 0 else 1) (zms σ r pf n far)) : wX12_isSender ln (zms σ r pf n far) 455 Q := by
  simp only [wX12_isSender, gr_zms, g1, Option.some.injEq, exists_eq_left', l1, si_zms_q, gi_zms_q, forall_eq, true_and, vq6, cq6]
  refine ⟨fun h => ?_, fun h => ?_⟩
  · rw [if_pos h] at hq; exact hq
  · rw [if_neg h] at hq; exact hq
theorem m_looks123 {ln : Nat → Nat} {σ : zS} {r pf : Nat → Int32} {far : Int32} {L : Nat} (g1 : gr σ 455 1 = some 456) (l1 : ln 456 = 4763) {Q : zS → Prop} (hq : Q (zms σ (rNext r L) pf (nI L) far)) : wX12_looksForNext_123 ln Q 455 (zms σ r pf (nI L) far) := by
  unfold rNext rEndL at hq
  simp only [wX12_looksForNext_123, gr_zms, g1, Option.some.injEq, exists_eq_left', l1, si_zms_q, gi_zms_q, forall_eq, true_and, vq1, cq1, vq3, cq3, vq5, cq5, vq7, cq7, vq8, cq8, vq9, cq9, gi_zms_n, zu_self]
  refine ⟨fun h => ?_, fun h => ?_⟩
  · rw [if_pos (by rw [zu_self]; exact h)] at hq
    simp only [zu_ap, Nat.reduceEqDiff, if_false] at hq ⊢
    exact hq
  · rw [if_neg (by rw [zu_self]; exact h)] at hq
    exact hq
theorem m_looks {ln : Nat → Nat} {σ : zS} {r pf : Nat → Int32} {n far : Int32} (g1 : gr σ 455 1 = some 456) (l1 : ln 456 = 4763) (g6 : gr σ 455 6 = some 460) (l6 : ln 460 = 64) (h : zW r) (h19 : (r 19).toInt ≤ 599) (h9 : zact r → 0 ≤ (r 9).toInt ∧ (r 9).toInt < (rPath r (zLn r)).length) {Q : zS → Prop} (hq : ∀ pf' n', Q (zms σ (rLooks r) pf' n' far)) : wX12_looksForNext ln (zms σ r pf n far) 455 Q := by
  have hN := h.N
  refine m_isSender g1 l1 ⟨fun h2 => ?_, fun h2 => ?_⟩
  · have h6 : r 6 = -1 := Decidable.byContradiction fun hc => by rw [if_neg hc] at h2; exact absurd h2 (by decide)
    have := hq pf n
    unfold rLooks at this
    rw [if_pos (Or.inl h6)] at this
    exact this
  · have h6 : ¬ r 6 = -1 := fun hc => h2 (by rw [if_pos hc])
    have ho : r 6 = 0 ∧ zo r = 0 ∨ r 6 = 1 ∧ zo r = 1 := by
      rcases h.s with hs | hs | hs
      · exact absurd hs h6
      · exact Or.inl ⟨hs, by unfold zo; rw [hs]; rfl⟩
      · exact Or.inr ⟨hs, by unfold zo; rw [hs]; rfl⟩
    have i21 : ((21 : Int32) + r 6).toNatClampNeg = 21 + zo r := (oix ho 21 (by decide)).1
    have v21 : vp_in ((21 : Int32) + r 6) 4763 := (oix ho 21 (by decide)).2
    have i23 : ((23 : Int32) + r 6).toNatClampNeg = 23 + zo r := (oix ho 23 (by decide)).1
    have v23 : vp_in ((23 : Int32) + r 6) 4763 := (oix ho 23 (by decide)).2
    have i27 : ((27 : Int32) + r 6).toNatClampNeg = 27 + zo r := (oix ho 27 (by decide)).1
    have v27 : vp_in ((27 : Int32) + r 6) 4763 := (oix ho 27 (by decide)).2
    simp only [gr_zms, g1, Option.some.injEq, exists_eq_left', l1, si_zms_q, gi_zms_q, forall_eq, true_and, vq6, cq6, vq7, cq7]
    refine ⟨fun h7 => ?_, fun h7 => ?_⟩
    · have := hq pf n
      unfold rLooks at this
      rw [if_pos (Or.inr h7)] at this
      exact this
    · have ha := h9 ⟨h6, h7⟩
      have hD : 0 ≤ (r (27 + zo r)).toInt ∧ (r (27 + zo r)).toInt ≤ 12 ∧ (r (27 + zo r)).toInt ≤ 11 := by
        have a0 := h.D0
        have a1 := h.D1
        have b0 := h.L0
        have b1 := h.L1
        rcases ho with ⟨e1, e2⟩ | ⟨e1, e2⟩
        · have := h.S0 e1
          rw [e2]; exact ⟨a0.1, show (r 27).toInt ≤ 12 by omega, show (r 27).toInt ≤ 11 by omega⟩
        · have := h.S1 e1
          rw [e2]; exact ⟨a1.1, show (r 28).toInt ≤ 12 by omega, show (r 28).toInt ≤ 11 by omega⟩
      have hL : zLn r ≤ 23 := by
        have := ncl hD.1
        unfold zLn
        rcases ho with ⟨e1, e2⟩ | ⟨e1, e2⟩ <;> omega
      have hov : 12 * r 6 + r (27 + zo r) = nI (zLn r) := by
        have c0 := ncl hD.1
        have t12 : (12 : Int32).toInt = 12 := rfl
        have e6 : (r 6).toInt = zo r := by
          rcases ho with ⟨e1, e2⟩ | ⟨e1, e2⟩
          · rw [e1, e2]; rfl
          · rw [e1, e2]; rfl
        have hz : zo r ≤ 1 := by omega
        have em : (12 * r 6).toInt = 12 * zo r := by rw [nmul (by rw [t12, e6]; omega) (by rw [t12, e6]; omega), t12, e6]
        rw [neq, nadd (by rw [em]; omega) (by rw [em]; omega), em, nI_toInt (by omega)]
        unfold zLn
        omega
      simp only [wX12_findsOwn, i27, v27, gr_zms, g1, Option.some.injEq, exists_eq_left', l1, si_zms_q, gi_zms_q, forall_eq, true_and, vq6, cq6]
      refine m_finds g1 l1 g6 l6 hN hL hov (h.len (zLn r) (by omega)) (fun pf' hp => ?_)
      have c9 := ncl ha.1
      have v9 : vp_in (r 9) 64 := by
        have := zpath_len (rChr r (zLn r)) (r (219 + zLn r)).toNatClampNeg (r 0)
        have h2 := zenc_len (rChr r (zLn r)) (r (219 + zLn r)).toNatClampNeg
        have h3 := h.len (zLn r) (by omega)
        have h4 := ncl h3.1
        have h5 : (rPath r (zLn r)).length ≤ 62 := by unfold rPath; omega
        exact nin ha.1 (by omega)
      have ep : pf' (r 9).toNatClampNeg = rPosn r := hp _ (by omega)
      simp only [gr_zms, g1, Option.some.injEq, exists_eq_left', l1, si_zms_q, gi_zms_q, forall_eq, true_and, vq9, cq9, g6, l6, v9, gi_zms_p, ep, i21, v21]
      have hr := nrange (r (21 + zo r))
      have hp2 := nrange (rPosn r)
      have t1 : (1000 : Int64).toInt = 1000 := rfl
      have em : (1000 * (rPosn r).toInt64).toInt = 1000 * (rPosn r).toInt := by
        rw [Int64.toInt_mul, t1, n64]
        exact nbm64 (by omega) (by omega)
      have e64 : ((r (21 + zo r)).toInt64 - 1000 * (rPosn r).toInt64).toInt = (r (21 + zo r)).toInt - 1000 * (rPosn r).toInt := by
        rw [Int64.toInt_sub, em, n64]
        exact nbm64 (by omega) (by omega)
      refine m_within g1 l1 hN (by omega) ?_
      rw [e64]
      simp only [gr_zms, g1, Option.some.injEq, exists_eq_left', l1, si_zms_q, gi_zms_q, forall_eq, true_and, vq16, cq16, vq17, cq17, i23, v23, g6, gi_zms_p, zu_self]
      have hq2 := hq pf' (nI (rPath r (zLn r)).length)
      unfold rLooks at hq2
      rw [if_neg (fun hc => hc.elim h6 h7)] at hq2
      refine ⟨fun hl => ?_, fun hl => ?_⟩
      · have hl2 : ¬ r (23 + zo r) ≤ rFar r := by
          have : (rFar r).toInt < (r (23 + zo r)).toInt := (nlt _ _).mp hl
          rw [nle]; omega
        rw [if_neg hl2] at hq2
        have hl20 := h.l
        refine m_isLost (r := rCnt r) g1 l1 (by show 0 ≤ (zu r 16 (r 16 + 1) 20).toInt; rw [zu_ne (by decide)]; exact hl20.1) (by show (zu r 16 (r 16 + 1) 20).toInt ≤ 20; rw [zu_ne (by decide)]; exact hl20.2) ?_
        have e16 : rCnt r 16 = r 16 + 1 := zu_self r 16 _
        have e19 : rCnt r 19 = r 19 := zu_ne (by decide)
        unfold rSnd at hq2
        rw [e16] at hq2
        cases hL2 : rLost (rCnt r) (r 16 + 1)
        · rw [hL2] at hq2
          refine ⟨fun _ => ?_, fun h => absurd rfl h⟩
          exact m_sends g1 l1 (by rw [e19]; exact h.u.1) (by rw [e19]; exact h19) (m_looks123 g1 l1 hq2)
        · rw [hL2] at hq2
          refine ⟨fun h => absurd h (by decide), fun _ => ?_⟩
          simp only [gr_zms, g1, Option.some.injEq, exists_eq_left', l1, si_zms_q, gi_zms_q, forall_eq, true_and, vq17, cq17]
          exact m_looks123 g1 l1 hq2
      · have hl2 : r (23 + zo r) ≤ rFar r := by
          have : ¬ (rFar r).toInt < (r (23 + zo r)).toInt := fun hc => hl ((nlt _ _).mpr hc)
          rw [nle]; omega
        rw [if_pos hl2] at hq2
        exact hq2
