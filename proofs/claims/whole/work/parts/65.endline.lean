/-! THE CLASS'S STEPS: lines that end, signals -/
theorem C_eventB {ln : Nat → Nat} {σ : zS} {b : Nat} {f : Nat → Nat → Int32} {s0 s1 : Int64} {r : Nat → Int32} (S : zMs (gr σ) ln b) (h : RR f s0 s1 r) (hn : (r 11).toNatClampNeg ≤ 40 ∧ (r 20).toNatClampNeg ≤ 20 ∧ (r (29 + 0)).toNatClampNeg ≤ 1000 ∧ (r (29 + 1)).toNatClampNeg ≤ 1000) (hb : 0 ≤ (r 18).toInt ∧ (r 18).toInt ≤ 40) {t c v : Int32} (ht : t = r 5) {Q : zS → Prop} (hq : ∀ f', RR f' s0 s1 (rNotes r c v) → Q (zcs σ b f' s0 s1)) : wX8_add ln (zcs σ b f s0 s1) (b + 12) t c v Q := by
  subst ht
  obtain ⟨nb, nz, nm0, nm1⟩ := hn
  obtain ⟨⟨m1, m2, m3, m4, m5, m6⟩, ⟨a1, a2, a3, a4, a5, a6, a7, a8, a9⟩, ⟨l1, l2, l3, l4, l5, l6⟩⟩ := S
  obtain ⟨h1, ⟨h2, h2'⟩, ⟨h3, h3'⟩, h4, h5, h6, h7, h8, h9⟩ := h
  have c0 := ncl hb.1
  obtain ⟨e1, e2, s, hs, e3, hr⟩ := h6
  have em : r 18 = nI (r 18).toNatClampNeg := by rw [neq, nI_toInt (by omega)]; omega
  have e2' : f 12 3 = nI (r 18).toNatClampNeg := e2.trans em
  refine c_recadd (c := 12) (cap := 40) (by decide) a8 l5 (by decide) e1 e3 e2' hs (by omega) (hq _ ?_)
  have er : ∀ k, k ≠ 18 → ¬ (99 ≤ k ∧ k < 219) → rNotes r c v k = r k := fun k => rNotes_out r hb.1 hb.2
  by_cases hn : (r 18).toNatClampNeg = 40
  · rw [if_pos hn]
    have h40 : r 18 = 40 := by rw [em, hn]; rfl
    have ef : ∀ k, k ≠ 12 → k ≠ 13 → zf (cPut (cDrop f 12 40 s (r 18).toNatClampNeg) 12 (3 * rix 40 (if s + 1 < 40 then s + 1 else 0) ((r 18).toNatClampNeg - 1)) (r 5) c v) 12 3 (nI ((r 18).toNatClampNeg - 1 + 1)) k = f k := fun k k1 k2 => by
      unfold cPut cDrop
      rw [zf_ne k1, zf_ne k2, zf_ne k2, zf_ne k2, zf_ne k1, zf_ne k1]
    refine ⟨RS_c h1 (ef 0 (by omega) (by omega)) (fun k hk => er k (by omega) (by omega)), ⟨RO_c h2 (ef 1 (by omega) (by omega)) (fun k hk => er k (by omega) (by omega)), RO_c h2' (ef 4 (by omega) (by omega)) (fun k hk => er k (by omega) (by omega))⟩, ⟨RV_c h3 (ef 2 (by omega) (by omega)) (ef 3 (by omega) (by omega)) (er _ (by omega) (by omega)) (fun k hk => er _ (by omega) (by omega)), RV_c h3' (ef 5 (by omega) (by omega)) (ef 6 (by omega) (by omega)) (er _ (by omega) (by omega)) (fun k hk => er _ (by omega) (by omega))⟩, RB_c h4 (ef 7 (by omega) (by omega)) (ef 8 (by omega) (by omega)) (ef 9 (by omega) (by omega)) (fun k hk => er k (by omega) (by omega)) (fun k hk => er _ (by omega) (by omega)), RT_c h5 (ef 10 (by omega) (by omega)) (ef 11 (by omega) (by omega)) (er _ (by omega) (by omega)) (fun k hk => er _ (by omega) (by omega)), ?_, RZ_c h7 (ef 14 (by omega) (by omega)) (ef 15 (by omega) (by omega)) (er _ (by omega) (by omega)) (fun k hk => er _ (by omega) (by omega)), by rw [er 37 (by omega) (by omega)]; exact h8, by rw [er 38 (by omega) (by omega)]; exact h9⟩
    have eN : rNotes r c v = rPut (rCut r) 99 18 (r 5) c v := by unfold rNotes; rw [if_pos h40]
    have e18 : rCut r 18 = 39 := by unfold rCut; rw [zu_self, h40]; decide
    have c39 : (rCut r 18).toNatClampNeg = 39 := by rw [e18]; decide
    have e18' : rNotes r c v 18 = 40 := by rw [eN]; unfold rPut; rw [zu_self, e18]; decide
    have hd := ring_drop hr hs (by omega) (by omega)
    rw [hn] at hd ⊢
    have hd2 : ring False 40 (if s + 1 < 40 then s + 1 else 0) 39 (f 13) (fun j => rCut r (99 + j)) := ring_cong hd rfl (fun j hj => by
      unfold rCut zcut
      rw [zu_ne (by omega), if_pos (by omega)]
      rfl)
    have hp := ring_put hd2 (show (if s + 1 < 40 then s + 1 else 0) < 40 by split <;> omega) (by decide) (a1 := r 5) (a2 := c) (a3 := v) (b3 := v) (fun _ => rfl)
    refine ⟨?_, ?_, if s + 1 < 40 then s + 1 else 0, by split <;> omega, ?_, ?_⟩
    · unfold cPut cDrop
      simp only [zf_ap, if_true, Nat.reduceEqDiff, if_false]
      exact e1
    · rw [e18']
      simp only [zf_ap, if_true]
      rfl
    · unfold cPut cDrop
      simp only [zf_ap, if_true, Nat.reduceEqDiff, if_false]
    · rw [e18', eN, rPut_e _ (by decide), c39]
      unfold cPut cDrop
      rw [zf_ne (by decide), zf_eq, zf_eq, zf_eq, zf_ne (by decide), zf_ne (by decide)]
      exact hp
  · rw [if_neg hn]
    have h40 : ¬ r 18 = 40 := fun e => hn (by rw [e]; rfl)
    have ef : ∀ k, k ≠ 12 → k ≠ 13 → zf (cPut f 12 (3 * rix 40 s (r 18).toNatClampNeg) (r 5) c v) 12 3 (nI ((r 18).toNatClampNeg + 1)) k = f k := fun k k1 k2 => by
      unfold cPut
      rw [zf_ne k1, zf_ne k2, zf_ne k2, zf_ne k2]
    refine ⟨RS_c h1 (ef 0 (by omega) (by omega)) (fun k hk => er k (by omega) (by omega)), ⟨RO_c h2 (ef 1 (by omega) (by omega)) (fun k hk => er k (by omega) (by omega)), RO_c h2' (ef 4 (by omega) (by omega)) (fun k hk => er k (by omega) (by omega))⟩, ⟨RV_c h3 (ef 2 (by omega) (by omega)) (ef 3 (by omega) (by omega)) (er _ (by omega) (by omega)) (fun k hk => er _ (by omega) (by omega)), RV_c h3' (ef 5 (by omega) (by omega)) (ef 6 (by omega) (by omega)) (er _ (by omega) (by omega)) (fun k hk => er _ (by omega) (by omega))⟩, RB_c h4 (ef 7 (by omega) (by omega)) (ef 8 (by omega) (by omega)) (ef 9 (by omega) (by omega)) (fun k hk => er k (by omega) (by omega)) (fun k hk => er _ (by omega) (by omega)), RT_c h5 (ef 10 (by omega) (by omega)) (ef 11 (by omega) (by omega)) (er _ (by omega) (by omega)) (fun k hk => er _ (by omega) (by omega)), ?_, RZ_c h7 (ef 14 (by omega) (by omega)) (ef 15 (by omega) (by omega)) (er _ (by omega) (by omega)) (fun k hk => er _ (by omega) (by omega)), by rw [er 37 (by omega) (by omega)]; exact h8, by rw [er 38 (by omega) (by omega)]; exact h9⟩
    have eN : rNotes r c v = rPut r 99 18 (r 5) c v := by unfold rNotes; rw [if_neg h40]
    have e18' : rNotes r c v 18 = nI ((r 18).toNatClampNeg + 1) := by
      rw [eN]
      unfold rPut
      rw [zu_self, ← nI_1, ← em]
    have hp := ring_put hr hs (show (r 18).toNatClampNeg < 40 by omega) (a1 := r 5) (a2 := c) (a3 := v) (b3 := v) (fun _ => rfl)
    refine ⟨?_, ?_, s, hs, ?_, ?_⟩
    · unfold cPut
      simp only [zf_ap, if_true, Nat.reduceEqDiff, if_false]
      exact e1
    · rw [e18']
      simp only [zf_ap, if_true]
    · unfold cPut
      simp only [zf_ap, if_true, Nat.reduceEqDiff, if_false]
      exact e3
    · rw [e18', nI_clamp (by omega), eN, rPut_e _ (by decide)]
      unfold cPut
      rw [zf_ne (by decide), zf_eq, zf_eq, zf_eq]
      exact hp
theorem zW.nbx {r : Nat → Int32} (h : zW r) : (r 11).toNatClampNeg ≤ 40 ∧ (r 20).toNatClampNeg ≤ 20 ∧ (r (29 + 0)).toNatClampNeg ≤ 1000 ∧ (r (29 + 1)).toNatClampNeg ≤ 1000 := by
  obtain ⟨a, b, c, d, e, f⟩ := h.bn
  exact ⟨a, c, d, e⟩
theorem zW.nbD0 {r : Nat → Int32} (h : zW r) : (rDone r 0 11).toNatClampNeg ≤ 40 ∧ (rDone r 0 20).toNatClampNeg ≤ 20 ∧ (rDone r 0 (29 + 0)).toNatClampNeg ≤ 1000 ∧ (rDone r 0 (29 + 1)).toNatClampNeg ≤ 1000 := by
  unfold rDone
  rw [zu_ne (by decide), zu_ne (by decide), zu_ne (by decide), zu_ne (by decide), zu_ne (by decide), zu_ne (by decide), zu_ne (by decide), zu_ne (by decide)]
  exact h.nbx
theorem zW.nbD1 {r : Nat → Int32} (h : zW r) : (rDone r 1 11).toNatClampNeg ≤ 40 ∧ (rDone r 1 20).toNatClampNeg ≤ 20 ∧ (rDone r 1 (29 + 0)).toNatClampNeg ≤ 1000 ∧ (rDone r 1 (29 + 1)).toNatClampNeg ≤ 1000 := by
  unfold rDone
  rw [zu_ne (by decide), zu_ne (by decide), zu_ne (by decide), zu_ne (by decide), zu_ne (by decide), zu_ne (by decide), zu_ne (by decide), zu_ne (by decide)]
  exact h.nbx
theorem rBegins_id {x : Nat → Int32} (h7 : x 7 = 0) (h9 : x 9 = 0) : rBegins x = x := by
  funext j
  unfold rBegins
  by_cases e9 : j = 9
  · subst e9; rw [zu_self, h9]
  · rw [zu_ne e9]
    by_cases e7 : j = 7
    · subst e7; rw [zu_self, h7]
    · rw [zu_ne e7]
theorem rEnds_pre (x : Nat → Int32) : rEnds (zu (zu x 7 0) 9 0) = rEnds x := by
  funext j
  simp only [rEnds, rClears, zu_ap]
  by_cases e9 : j = 9
  · subst e9; rfl
  · by_cases e7 : j = 7
    · subst e7; rfl
    · simp only [e7, e9, if_false]
theorem rBegins_pre (x : Nat → Int32) : rBegins (zu (zu x 7 0) 9 0) = rBegins x := by
  funext j
  simp only [rBegins, zu_ap]
  by_cases e9 : j = 9
  · subst e9; rfl
  · by_cases e7 : j = 7
    · subst e7; rfl
    · simp only [e7, e9, if_false]
theorem rDone_pre (x : Nat → Int32) {q : Nat} (hq : q ≤ 1) : rDone (zu (zu x 7 0) 9 0) q = zu (zu (rDone x q) 7 0) 9 0 := by
  funext j
  unfold rDone
  rw [zu_ne (show 27 + q ≠ 9 by omega), zu_ne (show 27 + q ≠ 7 by omega)]
  simp only [zu_ap]
  by_cases e9 : j = 9
  · subst e9; simp only [if_true, Nat.reduceEqDiff, if_false, if_neg (show ¬ 9 = 27 + q by omega)]
  · by_cases e7 : j = 7
    · subst e7; simp only [if_true, Nat.reduceEqDiff, if_false, if_neg (show ¬ 7 = 27 + q by omega)]
    · simp only [e7, e9, if_false]
theorem rLineDone_pre (x : Nat → Int32) (h6 : x 6 = 0 ∨ x 6 = 1) : rLineDone (zu (zu x 7 0) 9 0) = rLineDone x := by
  have hz : zo (zu (zu x 7 0) 9 0) = zo x := by unfold zo; rw [zu_ne (by decide), zu_ne (by decide)]
  have hq : zo x ≤ 1 := by
    unfold zo
    rcases h6 with e | e <;> rw [e] <;> decide
  unfold rLineDone
  rw [hz, rDone_pre x hq, rEnds_pre, rBegins_pre, zu_ne (show 25 + zo x ≠ 9 by omega), zu_ne (show 25 + zo x ≠ 7 by omega), zu_ne (show 27 + zo x ≠ 9 by omega), zu_ne (show 27 + zo x ≠ 7 by omega), zu_ne (show 6 ≠ 9 by decide), zu_ne (show 6 ≠ 7 by decide)]
theorem rLineFailed_again (r : Nat → Int32) : zu (zu (zu r 7 0) 9 0) 10 (r 10 + 1) = rAgain r := by
  funext j
  simp only [rAgain, rBegins, zu_ap]
  by_cases e9 : j = 9
  · subst e9; rfl
  · by_cases e7 : j = 7
    · subst e7; rfl
    · simp only [e7, e9, if_false]
theorem C_done0 {ln : Nat → Nat} {σ : zS} {b p : Nat} {f : Nat → Nat → Int32} {s0 s1 : Int64} {r : Nat → Int32} (S : zMs (gr σ) ln b) (gp : gr σ b 0 = some p) (hp : p + 127 ≤ b ∨ b + 16 ≤ p) (PL : zPl σ ln p r) (h : RR f s0 s1 r) (hW : zW r) (h6 : r 6 = 0) (h7 : r 7 = 0) (h9 : r 9 = 0) {Q : zS → Prop} (hq : ∀ f', RR f' s0 s1 (rLineDone r) → Q (zcs σ b f' s0 s1)) : wX3_endLine_84 ln Q b (b + 1) (zcs σ b f s0 s1) := by
  have S' := S
  obtain ⟨⟨m1, m2, m3, m4, m5, m6⟩, ⟨a1, a2, a3, a4, a5, a6, a7, a8, a9⟩, ⟨l1, l2, l3, l4, l5, l6⟩⟩ := S
  have PL' := PL
  obtain ⟨-, ⟨pd0, pd1⟩, ⟨pc0, pc1⟩, -, -⟩ := PL'
  have hRs := h.1
  have hRo := h.2.1.1
  have ez : zo r = 0 := by unfold zo; rw [h6]; rfl
  have eD : f 1 2 = r 27 := hRo.2.2.1
  have h1 := RRs_27 h (r 27 + 1)
  have h2 := RRs_10 h1 0
  have eDn : zu (zu r 27 (r 27 + 1)) 10 0 = rDone r 0 := rfl
  rw [eDn] at h2
  have hb := hW.e
  unfold rLineDone at hq
  rw [ez] at hq
  have g3 : gi (zcs σ b (zf (zf f 1 2 (r 27 + 1)) 0 7 0) s0 s1) (p + 3) 2 = r 25 := by rw [gi_zcs_o _ _ _ _ _ (by omega)]; exact pc0
  have e03 : zf (zf f 1 2 (r 27 + 1)) 0 7 0 0 3 = 0 := by
    have : zf (zf f 1 2 (r 27 + 1)) 0 7 0 0 3 = f 0 3 := by simp only [zf_ap, if_true, Nat.reduceEqDiff, if_false]
    rw [this, hRs.2.2.1, h6]
  have e01 : zf (zf f 1 2 (r 27 + 1)) 0 7 0 0 1 = r 5 := by
    have : zf (zf f 1 2 (r 27 + 1)) 0 7 0 0 1 = f 0 1 := by simp only [zf_ap, if_true, Nat.reduceEqDiff, if_false]
    rw [this, hRs.1]
  have eo2 : zf (zf f 1 2 (r 27 + 1)) 0 7 0 1 2 = r 27 + 1 := by simp only [zf_ap, if_true, Nat.reduceEqDiff, if_false]
  simp only [wX3_endLine_84, gi_zcs_k σ b _ s0 s1 (show 1 < 16 by decide), eD, forall_eq, si_zcs_k σ b _ s0 s1 (show 1 < 16 by decide), si_zcs_b, gr_zcs, gp, Option.some.injEq, exists_eq_left', gi_zcs_b, e03]
  refine ⟨fun h => absurd h (by decide), fun _ => ?_⟩
  simp only [gr_zcs, pd0, Option.some.injEq, exists_eq_left']
  simp only [g3, eo2]
  have hbD : (rDone r 0 18) = r 18 := by unfold rDone; rw [zu_ne (by decide), zu_ne (by decide)]
  have hbD' : 0 ≤ (rDone r 0 18).toInt ∧ (rDone r 0 18).toInt ≤ 40 := by rw [hbD]; exact hb
  have e5 : rDone r 0 5 = r 5 := by unfold rDone; rw [zu_ne (by decide), zu_ne (by decide)]
  refine ⟨fun hc => ?_, fun hc => ?_⟩
  · have hc2 : ¬ r (25 + 0) ≤ r (27 + 0) + 1 := by
      show ¬ r 25 ≤ r 27 + 1
      rw [nlt] at hc
      rw [nle]; omega
    rw [if_neg hc2] at hq
    rw [rBegins_id (by unfold rDone; rw [zu_ne (by decide), zu_ne (by decide)]; exact h7) (by unfold rDone; rw [zu_ne (by decide), zu_ne (by decide)]; exact h9)] at hq
    exact hq _ h2
  · have hc2 : r (25 + 0) ≤ r (27 + 0) + 1 := by
      show r 25 ≤ r 27 + 1
      rw [nlt] at hc
      rw [nle]; omega
    rw [if_pos hc2, rNotes_ends _ hbD'] at hq
    simp only [gr_zcs, m5, Option.some.injEq, exists_eq_left', gi_zcs_b, e03, e01]
    refine C_eventB S' h2 hW.nbD0 hbD' e5.symm (fun f3 h3 => ?_)
    refine C_ends S' h3 (by rw [rNotes_out _ hbD'.1 hbD'.2 (by decide) (by decide)]; unfold rDone; rw [zu_ne (by decide), zu_ne (by decide)]; exact hW.b.1) (fun f4 h4 => ?_)
    rw [h6] at hq
    exact hq f4 h4
theorem C_done1 {ln : Nat → Nat} {σ : zS} {b p : Nat} {f : Nat → Nat → Int32} {s0 s1 : Int64} {r : Nat → Int32} (S : zMs (gr σ) ln b) (gp : gr σ b 0 = some p) (hp : p + 127 ≤ b ∨ b + 16 ≤ p) (PL : zPl σ ln p r) (h : RR f s0 s1 r) (hW : zW r) (h6 : r 6 = 1) (h7 : r 7 = 0) (h9 : r 9 = 0) {Q : zS → Prop} (hq : ∀ f', RR f' s0 s1 (rLineDone r) → Q (zcs σ b f' s0 s1)) : wX3_endLine_84 ln Q b (b + 4) (zcs σ b f s0 s1) := by
  have S' := S
  obtain ⟨⟨m1, m2, m3, m4, m5, m6⟩, ⟨a1, a2, a3, a4, a5, a6, a7, a8, a9⟩, ⟨l1, l2, l3, l4, l5, l6⟩⟩ := S
  have PL' := PL
  obtain ⟨-, ⟨pd0, pd1⟩, ⟨pc0, pc1⟩, -, -⟩ := PL'
  have hRs := h.1
  have hRo := h.2.1.2
  have ez : zo r = 1 := by unfold zo; rw [h6]; rfl
  have eD : f 4 2 = r 28 := hRo.2.2.1
  have h1 := RRs_28 h (r 28 + 1)
  have h2 := RRs_10 h1 0
  have eDn : zu (zu r 28 (r 28 + 1)) 10 0 = rDone r 1 := rfl
  rw [eDn] at h2
  have hb := hW.e
  unfold rLineDone at hq
  rw [ez] at hq
  have g3 : gi (zcs σ b (zf (zf f 4 2 (r 28 + 1)) 0 7 0) s0 s1) (p + 65) 2 = r 26 := by rw [gi_zcs_o _ _ _ _ _ (by omega)]; exact pc1
  have e03 : zf (zf f 4 2 (r 28 + 1)) 0 7 0 0 3 = 1 := by
    have : zf (zf f 4 2 (r 28 + 1)) 0 7 0 0 3 = f 0 3 := by simp only [zf_ap, if_true, Nat.reduceEqDiff, if_false]
    rw [this, hRs.2.2.1, h6]
  have e01 : zf (zf f 4 2 (r 28 + 1)) 0 7 0 0 1 = r 5 := by
    have : zf (zf f 4 2 (r 28 + 1)) 0 7 0 0 1 = f 0 1 := by simp only [zf_ap, if_true, Nat.reduceEqDiff, if_false]
    rw [this, hRs.1]
  have eo2 : zf (zf f 4 2 (r 28 + 1)) 0 7 0 4 2 = r 28 + 1 := by simp only [zf_ap, if_true, Nat.reduceEqDiff, if_false]
  simp only [wX3_endLine_84, gi_zcs_k σ b _ s0 s1 (show 4 < 16 by decide), eD, forall_eq, si_zcs_k σ b _ s0 s1 (show 4 < 16 by decide), si_zcs_b, gr_zcs, gp, Option.some.injEq, exists_eq_left', gi_zcs_b, e03]
  refine ⟨fun _ => ?_, fun h => absurd rfl h⟩
  simp only [gr_zcs, pd1, Option.some.injEq, exists_eq_left']
  simp only [g3, eo2]
  have hbD : (rDone r 1 18) = r 18 := by unfold rDone; rw [zu_ne (by decide), zu_ne (by decide)]
  have hbD' : 0 ≤ (rDone r 1 18).toInt ∧ (rDone r 1 18).toInt ≤ 40 := by rw [hbD]; exact hb
  have e5 : rDone r 1 5 = r 5 := by unfold rDone; rw [zu_ne (by decide), zu_ne (by decide)]
  refine ⟨fun hc => ?_, fun hc => ?_⟩
  · have hc2 : ¬ r (25 + 1) ≤ r (27 + 1) + 1 := by
      show ¬ r 26 ≤ r 28 + 1
      rw [nlt] at hc
      rw [nle]; omega
    rw [if_neg hc2] at hq
    rw [rBegins_id (by unfold rDone; rw [zu_ne (by decide), zu_ne (by decide)]; exact h7) (by unfold rDone; rw [zu_ne (by decide), zu_ne (by decide)]; exact h9)] at hq
    exact hq _ h2
  · have hc2 : r (25 + 1) ≤ r (27 + 1) + 1 := by
      show r 26 ≤ r 28 + 1
      rw [nlt] at hc
      rw [nle]; omega
    rw [if_pos hc2, rNotes_ends _ hbD'] at hq
    simp only [gr_zcs, m5, Option.some.injEq, exists_eq_left', gi_zcs_b, e03, e01]
    refine C_eventB S' h2 hW.nbD1 hbD' e5.symm (fun f3 h3 => ?_)
    refine C_ends S' h3 (by rw [rNotes_out _ hbD'.1 hbD'.2 (by decide) (by decide)]; unfold rDone; rw [zu_ne (by decide), zu_ne (by decide)]; exact hW.b.1) (fun f4 h4 => ?_)
    rw [h6] at hq
    exact hq f4 h4
