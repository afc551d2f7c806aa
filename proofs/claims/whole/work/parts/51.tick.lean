/-! THE MODEL'S TICK -/
def rTurn1 (r : Nat → Int32) (q : Nat) : Nat → Int32 := zu r (21 + q) (mI ((r (21 + q)).toInt + (r (23 + q)).toInt) (1000 * (r 0).toInt))
def rTick0 (r : Nat → Int32) : Nat → Int32 := rTurn1 (rTurn1 (zu r 5 (r 5 + 1)) 0) 1
def rT1 (r : Nat → Int32) : Nat → Int32 := if r 6 = -1 then r else if r 7 = 1 then (if r 5 < r 8 then r else rLineFailed r) else r
def rT2 (r : Nat → Int32) : Nat → Int32 := if r 6 = -1 then r else if r 5 - r 15 < r 3 then r else rClears r
def rArrd (x : (Nat → Int32) × Int32) : (Nat → Int32) × Int32 := rArr 601 (rTick0 x.1, x.2)
def rTick (x : (Nat → Int32) × Int32) : (Nat → Int32) × Int32 := (rT2 (rT1 (rLooks (rArrd x).1)), (rArrd x).2)
theorem zW_looks {r : Nat → Int32} (h : zW r) (h19 : (r 19).toInt ≤ 599) : zW (rLooks r) := by
  unfold rLooks
  split
  · exact h
  · split
    · exact h
    · have h1 : zW (rCnt r) := zW_out h (nk (by omega)) _
      have h2 : zW (rSnd (rCnt r) (rPosn r)) := by
        unfold rSnd
        split
        · exact zW_out h1 (nk (by omega)) _
        · exact zW_sends h1 (by show (zu r 16 (r 16 + 1) 19).toInt ≤ 599; rw [zu_ne (by decide)]; exact h19)
      unfold rNext rEndL
      have h3 : zW (zu (rSnd (rCnt r) (rPosn r)) 9 (rSnd (rCnt r) (rPosn r) 9 + 1)) := zW_out h2 (nk (by omega)) _
      generalize zu (rSnd (rCnt r) (rPosn r)) 9 (rSnd (rCnt r) (rPosn r) 9 + 1) = r3 at h3 ⊢
      split
      · exact zW_out (zW_u7 h3 (Or.inr rfl)) (nk (by omega)) _
      · exact h3
theorem zW.h6 {r : Nat → Int32} (h : zW r) (hn : ¬ r 6 = -1) : r 6 = 0 ∨ r 6 = 1 := h.s.elim (fun e => absurd e hn) id
theorem zW_T1 {r : Nat → Int32} (h : zW r) : zW (rT1 r) := by
  unfold rT1
  split
  · exact h
  · split
    · split
      · exact h
      · exact zW_lineFailed h (h.h6 (by assumption))
    · exact h
theorem zW_T2 {r : Nat → Int32} (h : zW r) : zW (rT2 r) := by
  unfold rT2
  split
  · exact h
  · split
    · exact h
    · exact zW_clears h
theorem zW_tick0 {r : Nat → Int32} (h : zW r) (hT : (r 5).toInt ≤ 109999) : zW (rTick0 r) := by
  have hN := h.N
  have h5 := h.T
  have e5 : (r 5 + 1).toInt = (r 5).toInt + 1 := ixs (k := 1) rfl (by decide) (by omega) (by omega)
  have h1 : zW (zu r 5 (r 5 + 1)) := zW_u5 h (by omega)
  have key : ∀ r' : Nat → Int32, zW r' → ∀ q, q = 0 ∨ q = 1 → zW (rTurn1 r' q) := by
    intro r' h' q hq
    have hN' := h'.N
    have hm : 0 ≤ (mI ((r' (21 + q)).toInt + (r' (23 + q)).toInt) (1000 * (r' 0).toInt)).toInt ∧ (mI ((r' (21 + q)).toInt + (r' (23 + q)).toInt) (1000 * (r' 0).toInt)).toInt < 1000 * (r' 0).toInt := ⟨mI_lo (by omega) (by omega), mI_hi (by omega) (by omega)⟩
    unfold rTurn1
    rcases hq with rfl | rfl
    · exact zW_u21 h' hm
    · exact zW_u22 h' hm
  exact key _ (key _ h1 0 (Or.inl rfl)) 1 (Or.inr rfl)
theorem m_ticks103 {ln : Nat → Nat} {σ : zS} {r pf : Nat → Int32} {n far : Int32} (g1 : gr σ 455 1 = some 456) (l1 : ln 456 = 4763) {Q : zS → Prop} (hq : Q (zms σ (rT2 r) pf n far)) : wX12_ticks_103 ln Q 455 (zms σ r pf n far) := by
  unfold rT2 at hq
  refine m_isSender g1 l1 ⟨fun h => ?_, fun h => ?_⟩
  · have h6 : r 6 = -1 := Decidable.byContradiction fun hc => by rw [if_neg hc] at h; exact absurd h (by decide)
    rw [if_pos h6] at hq
    exact hq
  · have h6 : ¬ r 6 = -1 := fun hc => h (by rw [if_pos hc])
    rw [if_neg h6] at hq
    simp only [gr_zms, g1, Option.some.injEq, exists_eq_left', l1, si_zms_q, gi_zms_q, forall_eq, true_and, vq3, cq3, vq5, cq5, vq15, cq15, m_clears g1 l1]
    refine ⟨fun h => ?_, fun h => ?_⟩
    · rw [if_pos h] at hq; exact hq
    · rw [if_neg h] at hq; exact hq
theorem m_ticksTail {ln : Nat → Nat} {σ : zS} {r pf : Nat → Int32} {n far : Int32} (g1 : gr σ 455 1 = some 456) (l1 : ln 456 = 4763) (hW : zW r) {Q : zS → Prop} (hq : Q (zms σ (rT2 (rT1 r)) pf n far)) : wX12_isSender ln (zms σ r pf n far) 455 (fun r4 σ3 => ((r4 = 0 → wX12_ticks_103 ln Q 455 σ3) ∧ (¬ r4 = 0 → ∃ j5 : Nat, gr σ3 455 1 = some j5 ∧ vp_in (7 : Int32) (ln j5) ∧ (((gi σ3 j5 (7 : Int32).toNatClampNeg) = 1 → ∃ j7 : Nat, gr σ3 455 1 = some j7 ∧ vp_in (5 : Int32) (ln j7) ∧ ∃ j9 : Nat, gr σ3 455 1 = some j9 ∧ vp_in (8 : Int32) (ln j9) ∧ (((gi σ3 j7 (5 : Int32).toNatClampNeg) < (gi σ3 j9 (8 : Int32).toNatClampNeg) → wX12_ticks_103 ln Q 455 σ3) ∧ (¬ (gi σ3 j7 (5 : Int32).toNatClampNeg) < (gi σ3 j9 (8 : Int32).toNatClampNeg) → wX12_lineFailed ln σ3 455 (fun σ11 => wX12_ticks_103 ln Q 455 σ11)))) ∧ (¬ (gi σ3 j5 (7 : Int32).toNatClampNeg) = 1 → wX12_ticks_103 ln Q 455 σ3))))) := by
  have he := hW.e
  unfold rT1 at hq
  refine m_isSender g1 l1 ⟨fun h => ?_, fun h => ?_⟩
  · have h6 : r 6 = -1 := Decidable.byContradiction fun hc => by rw [if_neg hc] at h; exact absurd h (by decide)
    rw [if_pos h6] at hq
    exact m_ticks103 g1 l1 hq
  · have h6 : ¬ r 6 = -1 := fun hc => h (by rw [if_pos hc])
    rw [if_neg h6] at hq
    simp only [gr_zms, g1, Option.some.injEq, exists_eq_left', l1, si_zms_q, gi_zms_q, forall_eq, true_and, vq5, cq5, vq7, cq7, vq8, cq8]
    refine ⟨fun h7 => ⟨fun h8 => ?_, fun h8 => ?_⟩, fun h7 => ?_⟩
    · rw [if_pos h7, if_pos h8] at hq
      exact m_ticks103 g1 l1 hq
    · rw [if_pos h7, if_neg h8] at hq
      exact m_lineFailed g1 l1 (hW.h6 h6) he.1 he.2 (m_ticks103 g1 l1 hq)
    · rw [if_neg h7] at hq
      exact m_ticks103 g1 l1 hq
theorem m_turn12 {ln : Nat → Nat} {σ : zS} {r pf : Nat → Int32} {n far : Int32} (g1 : gr σ 455 1 = some 456) (l1 : ln 456 = 4763) {v : Int32} {q k : Nat} (hv : v = 0 ∧ q = 0 ∨ v = 1 ∧ q = 1) (hW : zW r) {Q : zS → Prop} (hn : wX12_ticks_12 ln Q k 455 (v + 1) (zms σ (rTurn1 r q) pf n far)) : wX12_ticks_12 ln Q (k + 1) 455 v (zms σ r pf n far) := by
  have hN := hW.N
  have hc : ¬ (2 : Int32) ≤ v := by rcases hv with ⟨rfl, -⟩ | ⟨rfl, -⟩ <;> decide
  have i21 : ((21 : Int32) + v).toNatClampNeg = 21 + q := (oix hv 21 (by decide)).1
  have v21 : vp_in ((21 : Int32) + v) 4763 := (oix hv 21 (by decide)).2
  have i23 : ((23 : Int32) + v).toNatClampNeg = 23 + q := (oix hv 23 (by decide)).1
  have v23 : vp_in ((23 : Int32) + v) 4763 := (oix hv 23 (by decide)).2
  have e64 : ((r (21 + q)).toInt64 + (r (23 + q)).toInt64).toInt = (r (21 + q)).toInt + (r (23 + q)).toInt := by
    have h1 := nrange (r (21 + q))
    have h2 := nrange (r (23 + q))
    rw [Int64.toInt_add, n64, n64]
    exact nbm64 (by omega) (by omega)
  have hr1 := nrange (r (21 + q))
  have hr2 := nrange (r (23 + q))
  rw [wX12_ticks_12]
  simp only [hc, gr_zms, g1, Option.some.injEq, exists_eq_left', l1, si_zms_q, gi_zms_q, forall_eq, true_and, i21, v21, i23, v23, false_imp_iff, not_false_eq_true, true_implies]
  refine m_within g1 l1 hN (by omega) ?_
  rw [e64]
  simp only [gr_zms, g1, Option.some.injEq, exists_eq_left', l1, si_zms_q, gi_zms_q, forall_eq, true_and]
  exact hn
theorem m_ticks {ln : Nat → Nat} {σ : zS} {r pf : Nat → Int32} {n far : Int32} (g1 : gr σ 455 1 = some 456) (l1 : ln 456 = 4763) (g6 : gr σ 455 6 = some 460) (l6 : ln 460 = 64) (h : zW r) (hT : (r 5).toInt ≤ 109999) (hJ : ∀ j, j ≤ 601 → zW (rArr j (rTick0 r, far)).1 ∧ zUS (rArr j (rTick0 r, far)).1) (hd : ¬ rDue (rArrd (r, far)).1) (h19 : ((rArrd (r, far)).1 19).toInt ≤ 599) (h9 : zact (rArrd (r, far)).1 → 0 ≤ ((rArrd (r, far)).1 9).toInt ∧ ((rArrd (r, far)).1 9).toInt < (rPath (rArrd (r, far)).1 (zLn (rArrd (r, far)).1)).length) {Q : zS → Prop} (hq : ∀ pf' n', Q (zms σ (rTick (r, far)).1 pf' n' (rTick (r, far)).2)) : wX12_ticks ln (zms σ r pf n far) 455 Q := by
  have h5 := h.T
  have e5 : (r 5 + 1).toInt = (r 5).toInt + 1 := ixs (k := 1) rfl (by decide) (by omega) (by omega)
  have h1 : zW (zu r 5 (r 5 + 1)) := zW_u5 h (by omega)
  have h0 := zW_tick0 h hT
  simp only [wX12_ticks, gr_zms, g1, Option.some.injEq, exists_eq_left', l1, si_zms_q, gi_zms_q, forall_eq, true_and, vq5, cq5]
  refine ⟨3, m_turn12 g1 l1 (Or.inl ⟨rfl, rfl⟩) h1 (m_turn12 g1 l1 (v := 0 + 1) (Or.inr ⟨rfl, rfl⟩) ?_ ?_)⟩
  · have hN' := h1.N
    exact zW_u21 h1 ⟨mI_lo (by omega) (by omega), mI_hi (by omega) (by omega)⟩
  · rw [wX12_ticks_12]
    refine ⟨fun _ => ?_, fun hc => absurd (show (2 : Int32) ≤ 0 + 1 + 1 by decide) hc⟩
    have hWa := (hJ 601 (Nat.le_refl _)).1
    refine ⟨602, m_arrives0 g1 l1 601 (rTick0 r) far hJ hd ?_⟩
    refine m_looks (r := (rArrd (r, far)).1) (far := (rArrd (r, far)).2) g1 l1 g6 l6 hWa h19 h9 (fun pf' n' => ?_)
    exact m_ticksTail g1 l1 (zW_looks hWa h19) (hq pf' n')
