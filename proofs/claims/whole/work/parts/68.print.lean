/-! THE CLASS'S STEPS: prints, what is taken, checks -/
theorem pAbs_e (x : Int32) : (if 0 ≤ x then x else 0 - x) = pAbs x := by
  unfold pAbs
  rw [Int32.zero_sub]
theorem pClamp_e {x m : Int32} (hm : 0 ≤ m.toInt ∧ m.toInt ≤ 500) : (if -m < (if m < x then m else x) then (if m < x then m else x) else -m) = pClamp x m := by
  have hn : (-m).toInt = -m.toInt := nneg (by omega)
  unfold pClamp
  by_cases h1 : m < x
  · have h1' := (nlt _ _).mp h1
    rw [if_pos h1]
    have a : -m ≤ x := by rw [nle, hn]; omega
    have b : ¬ x ≤ m := by rw [nle]; omega
    rw [if_pos a, if_neg b]
    by_cases h2 : -m < m
    · rw [if_pos h2]
    · rw [if_neg h2]
      rw [nlt, hn] at h2
      rw [neq, hn]; omega
  · have h1' : ¬ m.toInt < x.toInt := fun h => h1 ((nlt _ _).mpr h)
    rw [if_neg h1]
    have b : x ≤ m := by rw [nle]; omega
    by_cases h2 : -m < x
    · have h2' := (nlt _ _).mp h2
      rw [if_pos h2, if_pos (by rw [nle]; omega), if_pos b]
    · have h2' : ¬ (-m).toInt < x.toInt := fun h => h2 ((nlt _ _).mpr h)
      rw [if_neg h2]
      by_cases h3 : -m ≤ x
      · rw [if_pos h3, if_pos b]
        rw [nle] at h3
        rw [neq]; omega
      · rw [if_neg h3]
theorem pClamp_r {x m : Int32} (hm : 0 ≤ m.toInt ∧ m.toInt ≤ 500) : -500 ≤ (pClamp x m).toInt ∧ (pClamp x m).toInt ≤ 500 := by
  have hn : (-m).toInt = -m.toInt := nneg (by omega)
  unfold pClamp
  split
  · rename_i h
    rw [nle, hn] at h
    split
    · rename_i h2
      rw [nle] at h2
      omega
    · omega
  · rw [hn]; omega
theorem rPr_e0 (r : Nat → Int32) (ph : Int32) (off a : Int32) : zu (zu (zu (zu r 31 (r 31 + 1)) 37 (r 37 + off)) 35 (if r 35 < a then a else r 35)) 21 ph = rP2 (rPc (zu r 21 ph) 0 off) 0 a := by
  have hA : ¬ r 35 < a ↔ a ≤ r 35 := by rw [nlt, nle]; omega
  unfold rP2 rPc
  show _ = if a ≤ zu (zu (zu r 21 ph) 31 (zu r 21 ph 31 + 1)) 37 (zu r 21 ph 37 + off) 35 then zu (zu (zu r 21 ph) 31 (zu r 21 ph 31 + 1)) 37 (zu r 21 ph 37 + off) else zu (zu (zu (zu r 21 ph) 31 (zu r 21 ph 31 + 1)) 37 (zu r 21 ph 37 + off)) 35 a
  have e35 : zu (zu (zu r 21 ph) 31 (zu r 21 ph 31 + 1)) 37 (zu r 21 ph 37 + off) 35 = r 35 := by rw [zu_ne (by decide), zu_ne (by decide), zu_ne (by decide)]
  rw [e35, zu_ne (show 31 ≠ 21 by decide), zu_ne (show 37 ≠ 21 by decide)]
  by_cases h : r 35 < a
  · have h2 : ¬ a ≤ r 35 := fun h3 => (hA.mpr h3) h
    rw [if_pos h, if_neg h2]
    funext j
    simp only [zu_ap]
    by_cases e1 : j = 21
    · subst e1; rfl
    · simp only [e1, if_false]
  · rw [if_neg h, if_pos (hA.mp h)]
    funext j
    simp only [zu_ap]
    by_cases e1 : j = 21
    · subst e1; rfl
    · simp only [e1, if_false]
      by_cases e2 : j = 35
      · subst e2; rfl
      · simp only [e2, if_false]
theorem C_print0 {ln : Nat → Nat} {σ : zS} {b p : Nat} {f : Nat → Nat → Int32} {s0 s1 : Int64} {r : Nat → Int32} (S : zMs (gr σ) ln b) (gp : gr σ b 0 = some p) (hp : p + 127 ≤ b ∨ b + 16 ≤ p) (PL : zPl σ ln p r) (h : RR f s0 s1 r) (hW : zW r) (hsum : -2147483648 ≤ (r 37).toInt + (rOff r 0).toInt ∧ (r 37).toInt + (rOff r 0).toInt < 2147483648) {Q : Int32 → zS → Prop} (hq : ∀ f' s0' s1', RR f' s0' s1' (rP2 (rPc (rTurned r 0 (pClamp (rOff r 0) (r 2))) 0 (rOff r 0)) 0 (pAbs (rOff r 0))) → Q (rPos r 0) (zcs σ b f' s0' s1')) : wX4_print ln (zcs σ b f s0 s1) (b + 1) (r 2) (r 0) Q := by
  have hN := hW.N
  have hP := hW.p0
  have hc := hW.c
  have hO := h.2.1.1
  have hs : s0 = (r 37).toInt64 := h.2.2.2.2.2.2.2.1
  obtain ⟨e1, e2, e3⟩ := rPos_lt (q := 0) hN ⟨hP.1, show (r 21).toInt < 28000 by omega⟩
  have e1 : (rNear r 0).toInt = ((r 21).toInt + 500) / 1000 := e1
  have t1 : (1000 : Int32).toInt = 1000 := rfl
  have eN : (1000 * r 0).toInt = 1000 * (r 0).toInt := by rw [nmul (by rw [t1]; omega) (by rw [t1]; omega), t1]
  have f0 : f 1 0 = r 21 := hO.1
  have f3 : f 1 3 = r 31 := hO.2.2.2.1
  have f5 : f 1 5 = r 35 := hO.2.2.2.2.2
  have hcl := pClamp_r (x := rOff r 0) hc
  have ncl' : (-(pClamp (rOff r 0) (r 2))).toInt = -(pClamp (rOff r 0) (r 2)).toInt := nneg (by omega)
  have e64 : (r 37).toInt64 + (rOff r 0).toInt64 = (r 37 + rOff r 0).toInt64 := by
    have hr := nrange (r 37)
    have hr2 := nrange (rOff r 0)
    rw [neq64, Int64.toInt_add, n64, n64, n64, nadd hsum.1 hsum.2]
    exact nbm64 (by omega) (by omega)
  have h1 := RRs_31 h (r 31 + 1)
  have h2 := RRs_37 h1 (r 37 + rOff r 0)
  have h3 := RRs_35 h2 (if r 35 < pAbs (rOff r 0) then pAbs (rOff r 0) else r 35)
  have h4 := RRs_21 h3 (mI ((r 21).toInt - (pClamp (rOff r 0) (r 2)).toInt) (1000 * (r 0).toInt))
  rw [rPr_e0] at h4
  simp only [wX4_print, wX4_nearestPosition, gi_zcs_k σ b _ _ _ (show 1 < 16 by decide), f0, f3, forall_eq, si_zcs_k σ b _ _ _ (show 1 < 16 by decide), gl_zcs_0, sl_zcs_0, hs]
  have eo : r 21 - 1000 * ((r 21 + 500) / 1000) = rOff r 0 := rfl
  have f5' : zf f 1 3 (r 31 + 1) 1 5 = r 35 := by
    have : zf f 1 3 (r 31 + 1) 1 5 = f 1 5 := by simp only [zf_ap, if_true, Nat.reduceEqDiff, if_false]
    rw [this]; exact f5
  have f0' : zf (zf f 1 3 (r 31 + 1)) 1 5 (if r 35 < pAbs (rOff r 0) then pAbs (rOff r 0) else r 35) 1 0 = r 21 := by
    have : zf (zf f 1 3 (r 31 + 1)) 1 5 (if r 35 < pAbs (rOff r 0) then pAbs (rOff r 0) else r 35) 1 0 = f 1 0 := by simp only [zf_ap, if_true, Nat.reduceEqDiff, if_false]
    rw [this]; exact f0
  simp only [eo, pAbs_e, f5', e64, pClamp_e hc]
  simp only [wX4_turn, gi_zcs_k σ b _ _ _ (show 1 < 16 by decide), f0', forall_eq]
  refine wmodulo (by rw [eN]; omega) ?_
  have ea : (r 21 + -pClamp (rOff r 0) (r 2)).toInt = (r 21).toInt - (pClamp (rOff r 0) (r 2)).toInt := by rw [nadd (by omega) (by omega), ncl']; omega
  rw [ea, eN]
  simp only [si_zcs_k σ b _ _ _ (show 1 < 16 by decide)]
  refine wmodulo (by omega) ?_
  have ep : mI ((r 21 + 500) / 1000).toInt (r 0).toInt = rPos r 0 := by
    rw [neq, mIt (by omega) (by omega), e3]
    show (rNear r 0).toInt % _ = _
    rw [e1]
  rw [ep]
  exact hq _ _ _ h4
theorem rPr_e1 (r : Nat → Int32) (ph : Int32) (off a : Int32) : zu (zu (zu (zu r 32 (r 32 + 1)) 38 (r 38 + off)) 36 (if r 36 < a then a else r 36)) 22 ph = rP2 (rPc (zu r 22 ph) 1 off) 1 a := by
  have hA : ¬ r 36 < a ↔ a ≤ r 36 := by rw [nlt, nle]; omega
  unfold rP2 rPc
  show _ = if a ≤ zu (zu (zu r 22 ph) 32 (zu r 22 ph 32 + 1)) 38 (zu r 22 ph 38 + off) 36 then zu (zu (zu r 22 ph) 32 (zu r 22 ph 32 + 1)) 38 (zu r 22 ph 38 + off) else zu (zu (zu (zu r 22 ph) 32 (zu r 22 ph 32 + 1)) 38 (zu r 22 ph 38 + off)) 36 a
  have e35 : zu (zu (zu r 22 ph) 32 (zu r 22 ph 32 + 1)) 38 (zu r 22 ph 38 + off) 36 = r 36 := by rw [zu_ne (by decide), zu_ne (by decide), zu_ne (by decide)]
  rw [e35, zu_ne (show 32 ≠ 22 by decide), zu_ne (show 38 ≠ 22 by decide)]
  by_cases h : r 36 < a
  · have h2 : ¬ a ≤ r 36 := fun h3 => (hA.mpr h3) h
    rw [if_pos h, if_neg h2]
    funext j
    simp only [zu_ap]
    by_cases e1 : j = 22
    · subst e1; rfl
    · simp only [e1, if_false]
  · rw [if_neg h, if_pos (hA.mp h)]
    funext j
    simp only [zu_ap]
    by_cases e1 : j = 22
    · subst e1; rfl
    · simp only [e1, if_false]
      by_cases e2 : j = 36
      · subst e2; rfl
      · simp only [e2, if_false]
theorem C_print1 {ln : Nat → Nat} {σ : zS} {b p : Nat} {f : Nat → Nat → Int32} {s0 s1 : Int64} {r : Nat → Int32} (S : zMs (gr σ) ln b) (gp : gr σ b 0 = some p) (hp : p + 127 ≤ b ∨ b + 16 ≤ p) (PL : zPl σ ln p r) (h : RR f s0 s1 r) (hW : zW r) (hsum : -2147483648 ≤ (r 38).toInt + (rOff r 1).toInt ∧ (r 38).toInt + (rOff r 1).toInt < 2147483648) {Q : Int32 → zS → Prop} (hq : ∀ f' s0' s1', RR f' s0' s1' (rP2 (rPc (rTurned r 1 (pClamp (rOff r 1) (r 2))) 1 (rOff r 1)) 1 (pAbs (rOff r 1))) → Q (rPos r 1) (zcs σ b f' s0' s1')) : wX4_print ln (zcs σ b f s0 s1) (b + 4) (r 2) (r 0) Q := by
  have hN := hW.N
  have hP := hW.p1
  have hc := hW.c
  have hO := h.2.1.2
  have hs : s1 = (r 38).toInt64 := h.2.2.2.2.2.2.2.2
  obtain ⟨e1, e2, e3⟩ := rPos_lt (q := 1) hN ⟨hP.1, show (r 22).toInt < 28000 by omega⟩
  have e1 : (rNear r 1).toInt = ((r 22).toInt + 500) / 1000 := e1
  have t1 : (1000 : Int32).toInt = 1000 := rfl
  have eN : (1000 * r 0).toInt = 1000 * (r 0).toInt := by rw [nmul (by rw [t1]; omega) (by rw [t1]; omega), t1]
  have f0 : f 4 0 = r 22 := hO.1
  have f3 : f 4 3 = r 32 := hO.2.2.2.1
  have f5 : f 4 5 = r 36 := hO.2.2.2.2.2
  have hcl := pClamp_r (x := rOff r 1) hc
  have ncl' : (-(pClamp (rOff r 1) (r 2))).toInt = -(pClamp (rOff r 1) (r 2)).toInt := nneg (by omega)
  have e64 : (r 38).toInt64 + (rOff r 1).toInt64 = (r 38 + rOff r 1).toInt64 := by
    have hr := nrange (r 38)
    have hr2 := nrange (rOff r 1)
    rw [neq64, Int64.toInt_add, n64, n64, n64, nadd hsum.1 hsum.2]
    exact nbm64 (by omega) (by omega)
  have h1 := RRs_32 h (r 32 + 1)
  have h2 := RRs_38 h1 (r 38 + rOff r 1)
  have h3 := RRs_36 h2 (if r 36 < pAbs (rOff r 1) then pAbs (rOff r 1) else r 36)
  have h4 := RRs_22 h3 (mI ((r 22).toInt - (pClamp (rOff r 1) (r 2)).toInt) (1000 * (r 0).toInt))
  rw [rPr_e1] at h4
  simp only [wX4_print, wX4_nearestPosition, gi_zcs_k σ b _ _ _ (show 4 < 16 by decide), f0, f3, forall_eq, si_zcs_k σ b _ _ _ (show 4 < 16 by decide), gl_zcs_1, sl_zcs_1, hs]
  have eo : r 22 - 1000 * ((r 22 + 500) / 1000) = rOff r 1 := rfl
  have f5' : zf f 4 3 (r 32 + 1) 4 5 = r 36 := by
    have : zf f 4 3 (r 32 + 1) 4 5 = f 4 5 := by simp only [zf_ap, if_true, Nat.reduceEqDiff, if_false]
    rw [this]; exact f5
  have f0' : zf (zf f 4 3 (r 32 + 1)) 4 5 (if r 36 < pAbs (rOff r 1) then pAbs (rOff r 1) else r 36) 4 0 = r 22 := by
    have : zf (zf f 4 3 (r 32 + 1)) 4 5 (if r 36 < pAbs (rOff r 1) then pAbs (rOff r 1) else r 36) 4 0 = f 4 0 := by simp only [zf_ap, if_true, Nat.reduceEqDiff, if_false]
    rw [this]; exact f0
  simp only [eo, pAbs_e, f5', e64, pClamp_e hc]
  simp only [wX4_turn, gi_zcs_k σ b _ _ _ (show 4 < 16 by decide), f0', forall_eq]
  refine wmodulo (by rw [eN]; omega) ?_
  have ea : (r 22 + -pClamp (rOff r 1) (r 2)).toInt = (r 22).toInt - (pClamp (rOff r 1) (r 2)).toInt := by rw [nadd (by omega) (by omega), ncl']; omega
  rw [ea, eN]
  simp only [si_zcs_k σ b _ _ _ (show 4 < 16 by decide)]
  refine wmodulo (by omega) ?_
  have ep : mI ((r 22 + 500) / 1000).toInt (r 0).toInt = rPos r 1 := by
    rw [neq, mIt (by omega) (by omega), e3]
    show (rNear r 1).toInt % _ = _
    rw [e1]
  rw [ep]
  exact hq _ _ _ h4
theorem C_take {ln : Nat → Nat} {σ : zS} {b p : Nat} {f : Nat → Nat → Int32} {s0 s1 : Int64} {r : Nat → Int32} (S : zMs (gr σ) ln b) (gp : gr σ b 0 = some p) (hp : p + 127 ≤ b ∨ b + 16 ≤ p) (PL : zPl σ ln p r) (h : RR f s0 s1 r) (hW : zW r) (h13 : r 13 = 0 ∨ r 13 = 1) {v : Int32} (hv : 0 ≤ v.toInt ∧ v.toInt < 28) {Q : zS → Prop} (hq : ∀ f', RR f' s0 s1 (if ¬ 2 ≤ v ∧ v = r 13 then zu r 14 1 else rTake r v) → Q (zcs σ b f' s0 s1)) : wX7_take ln (zcs σ b f s0 s1) (b + 7) v Q := by
  have S' := S
  obtain ⟨⟨m1, m2, m3, m4, m5, m6⟩, ⟨a1, a2, a3, a4, a5, a6, a7, a8, a9⟩, ⟨l1, l2, l3, l4, l5, l6⟩⟩ := S
  obtain ⟨nb, ne, nz, nm0, nm1, nt⟩ := hW.bn
  have hb := hW.b
  have c0 := ncl hb.1
  have hB := h.2.2.2.1
  have f1 : f 7 1 = r 12 := hB.1
  have f2 : f 7 2 = r 13 := hB.2.1
  have fs : f 8 1 = r 11 := hB.2.2.2.1
  have h7 : (7 : Nat) < 16 := by decide
  have t2 : (2 : Int32).toInt = 2 := rfl
  simp only [wX7_take, gi_zcs_k σ b _ s0 s1 h7, f2, si_zcs_k σ b _ s0 s1 h7, forall_eq]
  refine ⟨fun he => ?_, fun he => ⟨fun h2 => ?_, fun h2 => ?_⟩⟩
  · have hn : ¬ 2 ≤ v := by
      rw [he]
      rcases h13 with e | e <;> rw [e] <;> decide
    rw [if_pos ⟨hn, he⟩] at hq
    exact hq _ (RRs_14 h nb 1)
  · rw [if_neg (fun hc => hc.1 h2)] at hq
    have hv2 : 2 ≤ v.toInt := by rw [nle] at h2; exact h2
    unfold rTake at hq
    rw [if_pos h2] at hq
    have go : ∀ fg : Int32, (!decide (fg = 0)) = decide (r 13 = 1) → wX7_take_45 ln Q (b + 7) (b + 8) v fg (zcs σ b f s0 s1) := by
      intro fg hfg
      refine w_chr hv2 hv.2 ?_
      refine c_radd (c := 8) (cap := 40) (by decide) a6 l3 (by decide) (by rw [fs]; exact hb.1) ?_
      unfold cAdd
      rw [fs, hfg]
      by_cases h40 : nI 40 ≤ r 11
      · rw [if_pos h40]
        rw [if_pos (show 40 ≤ r 11 from h40)] at hq
        have := RRs_12 h nb (r 12 + 1)
        simp only [gi_zcs_k σ b _ s0 s1 h7, f1, si_zcs_k σ b _ s0 s1 h7, forall_eq]
        exact hq _ this
      · rw [if_neg h40]
        rw [if_neg (show ¬ 40 ≤ r 11 from h40)] at hq
        have h39 : (r 11).toInt ≤ 39 := by
          rw [nle] at h40
          have : (nI 40).toInt = 40 := rfl
          omega
        have h1 := RRs_buf nz h h39 hb.1 (zchr v (decide (r 13 = 1)))
        have hn1 : (rLetter r v 11).toNatClampNeg ≤ 40 := by
          have e1 : (r 11 + 1).toInt = (r 11).toInt + 1 := ixs (k := 1) rfl (by decide) (by omega) (by omega)
          unfold rLetter
          rw [zu_self, ncln, e1]
          omega
        have h2' := RRs_12 h1 hn1 (rLetter r v 12 + 1)
        have f1' : zf (zf f 9 (r 11).toNatClampNeg (zchr v (decide (r 13 = 1)))) 8 1 (r 11 + 1) 7 1 = rLetter r v 12 := h1.2.2.2.1.1
        simp only [gi_zcs_k σ b _ s0 s1 h7, f1', si_zcs_k σ b _ s0 s1 h7, forall_eq]
        exact hq _ h2'
    simp only [gr_zcs, a5, Option.some.injEq, exists_eq_left']
    exact ⟨fun h3 => go 1 (by rw [h3]; decide), fun h3 => go 0 (by simp [h3])⟩
  · rw [if_neg (fun hc => he hc.2)] at hq
    unfold rTake at hq
    rw [if_neg h2] at hq
    have h1 := RRs_13 h nb v
    have h2' := RRs_12 h1 (by rw [zu_ne (by decide)]; exact nb) (zu r 13 v 12 + 1)
    have f1' : zf f 7 2 v 7 1 = zu r 13 v 12 := h1.2.2.2.1.1
    rw [f1']
    exact hq _ h2'
theorem rTake_nc {r : Nat → Int32} {v : Int32} : True := trivial
