/-! from 70.pulse -/
/-! THE CLASS'S STEPS: a line's check, a pulse that arrives -/
theorem check_e {r : Nat → Int32} (hN : 6 ≤ (r 0).toInt ∧ (r 0).toInt ≤ 28) (h12 : 0 ≤ (r 12).toInt) : mI (r 12).toInt (r 0 - 2).toInt = r 12 - r 12 / (r 0 - 2) * (r 0 - 2) := by
  have e2 : (r 0 - 2).toInt = (r 0).toInt - 2 := nsub (b := 2) (by show _ ≤ (r 0).toInt - 2; omega) (by show (r 0).toInt - 2 < _; omega)
  rw [neq, mIt (by omega) (by omega), nrem h12 (by omega)]
theorem C_check26f {ln : Nat → Nat} {σ : zS} {b p : Nat} {f : Nat → Nat → Int32} {s0 s1 : Int64} {r : Nat → Int32} (S : zMs (gr σ) ln b) (gp : gr σ b 0 = some p) (hp : p + 127 ≤ b ∨ b + 16 ≤ p) (PL : zPl σ ln p r) (h : RR f s0 s1 r) (hW : zW r) (h19 : (r 19).toInt ≤ 599) {t : Nat} {Q : zS → Prop} (hq : ∀ f', RR f' s0 s1 (rClears (rSends (rNotes r 2 (r 12)) 2 0)) → Q (zcs σ b f' s0 s1)) : wX3_checkLine_26 ln Q b t 0 (zcs σ b f s0 s1) := by
  have S' := S
  obtain ⟨⟨m1, m2, m3, m4, m5, m6⟩, ⟨a1, a2, a3, a4, a5, a6, a7, a8, a9⟩, ⟨l1, l2, l3, l4, l5, l6⟩⟩ := S
  have f71 : f 7 1 = r 12 := h.2.2.2.1.1
  have f01 : f 0 1 = r 5 := h.1.1
  refine ⟨fun _ => ?_, fun h => absurd rfl h⟩
  simp only [gr_zcs, m5, m3, Option.some.injEq, exists_eq_left', gi_zcs_k σ b _ _ _ (show 7 < 16 by decide), f71, gi_zcs_b, f01, forall_eq]
  refine C_event S' h hW (c := 2) (v := r 12) rfl (fun f1 h1 => ?_)
  have e19 : rNotes r 2 (r 12) 19 = r 19 := rNotes_out r hW.e.1 hW.e.2 (by decide) (by decide)
  exact C_end0 S' gp hp (PL.c (zkp_notes (fun _ _ => rfl) hW.e) hW) h1 (zW_notes hW) (by rw [e19]; exact h19) false hq
theorem C_check0 {ln : Nat → Nat} {σ : zS} {b p : Nat} {f : Nat → Nat → Int32} {s0 s1 : Int64} {r : Nat → Int32} (S : zMs (gr σ) ln b) (gp : gr σ b 0 = some p) (hp : p + 127 ≤ b ∨ b + 16 ≤ p) (PL : zPl σ ln p r) (h : RR f s0 s1 r) (hW : zW r) (h19 : (r 19).toInt ≤ 599) (h12 : 0 ≤ (r 12).toInt) {pr : Int32} {Q : zS → Prop} (hq : ∀ f', RR f' s0 s1 (rChecks r 0 pr) → Q (zcs σ b f' s0 s1)) : wX3_checkLine ln (zcs σ b f s0 s1) b (b + 1) pr Q := by
  have S' := S
  obtain ⟨⟨m1, m2, m3, m4, m5, m6⟩, ⟨a1, a2, a3, a4, a5, a6, a7, a8, a9⟩, ⟨l1, l2, l3, l4, l5, l6⟩⟩ := S
  have PL' := PL
  obtain ⟨⟨pn, pdl, pg, prr⟩, -⟩ := PL'
  have hN := hW.N
  have f71 : f 7 1 = r 12 := h.2.2.2.1.1
  have gN : gi (zcs σ b f s0 s1) p 0 = r 0 := by rw [gi_zcs_o _ _ _ _ _ (by omega)]; exact pn
  have e2 : (r 0 - 2).toInt = (r 0).toInt - 2 := nsub (b := 2) (by show _ ≤ (r 0).toInt - 2; omega) (by show (r 0).toInt - 2 < _; omega)
  simp only [wX3_checkLine, gr_zcs, m3, gp, Option.some.injEq, exists_eq_left', gN, gi_zcs_k σ b _ _ _ (show 7 < 16 by decide), f71, wX11_checkPosition, forall_eq]
  refine wmodulo (by omega) ?_
  rw [check_e hN h12]
  unfold rChecks at hq
  refine ⟨fun hc => ?_, fun hc => ?_⟩
  · rw [if_pos hc] at hq
    refine ⟨fun h => absurd h (by decide), fun _ => ?_⟩
    simp only [gr_zcs, m3, a5, Option.some.injEq, exists_eq_left']
    have hb := hW.b
    have hm : (r 11).toNatClampNeg ≤ 40 := by have := ncl hb.1; omega
    have e11 : r 11 = nI (r 11).toNatClampNeg := by rw [neq, nI_toInt (by omega)]; exact (ncl hb.1).symm
    exact ⟨(r 11).toNatClampNeg + 1, C_check43_0 S' gp hp PL hW h19 hm e11 hq (r 11).toNatClampNeg 0 (by omega) f h⟩
  · rw [if_neg hc] at hq
    exact C_check26f S' gp hp PL h hW h19 hq
theorem C_check1 {ln : Nat → Nat} {σ : zS} {b p : Nat} {f : Nat → Nat → Int32} {s0 s1 : Int64} {r : Nat → Int32} (S : zMs (gr σ) ln b) (gp : gr σ b 0 = some p) (hp : p + 127 ≤ b ∨ b + 16 ≤ p) (PL : zPl σ ln p r) (h : RR f s0 s1 r) (hW : zW r) (h19 : (r 19).toInt ≤ 599) (h12 : 0 ≤ (r 12).toInt) {pr : Int32} {Q : zS → Prop} (hq : ∀ f', RR f' s0 s1 (rChecks r 1 pr) → Q (zcs σ b f' s0 s1)) : wX3_checkLine ln (zcs σ b f s0 s1) b (b + 4) pr Q := by
  have S' := S
  obtain ⟨⟨m1, m2, m3, m4, m5, m6⟩, ⟨a1, a2, a3, a4, a5, a6, a7, a8, a9⟩, ⟨l1, l2, l3, l4, l5, l6⟩⟩ := S
  have PL' := PL
  obtain ⟨⟨pn, pdl, pg, prr⟩, -⟩ := PL'
  have hN := hW.N
  have f71 : f 7 1 = r 12 := h.2.2.2.1.1
  have gN : gi (zcs σ b f s0 s1) p 0 = r 0 := by rw [gi_zcs_o _ _ _ _ _ (by omega)]; exact pn
  have e2 : (r 0 - 2).toInt = (r 0).toInt - 2 := nsub (b := 2) (by show _ ≤ (r 0).toInt - 2; omega) (by show (r 0).toInt - 2 < _; omega)
  simp only [wX3_checkLine, gr_zcs, m3, gp, Option.some.injEq, exists_eq_left', gN, gi_zcs_k σ b _ _ _ (show 7 < 16 by decide), f71, wX11_checkPosition, forall_eq]
  refine wmodulo (by omega) ?_
  rw [check_e hN h12]
  unfold rChecks at hq
  refine ⟨fun hc => ?_, fun hc => ?_⟩
  · rw [if_pos hc] at hq
    refine ⟨fun h => absurd h (by decide), fun _ => ?_⟩
    simp only [gr_zcs, m3, a5, Option.some.injEq, exists_eq_left']
    have hb := hW.b
    have hm : (r 11).toNatClampNeg ≤ 40 := by have := ncl hb.1; omega
    have e11 : r 11 = nI (r 11).toNatClampNeg := by rw [neq, nI_toInt (by omega)]; exact (ncl hb.1).symm
    exact ⟨(r 11).toNatClampNeg + 1, C_check43_1 S' gp hp PL hW h19 hm e11 hq (r 11).toNatClampNeg 0 (by omega) f h⟩
  · rw [if_neg hc] at hq
    exact C_check26f S' gp hp PL h hW h19 hq
theorem rPrinted_15 (r : Nat → Int32) {q : Nat} (hq : q ≤ 1) (x pos : Int32) : rPrinted (zu r 15 x) q pos = zu (rPrinted r q pos) 15 x ∧ rPos (zu r 15 x) q = rPos r q ∧ rOff (zu r 15 x) q = rOff r q ∧ rPrinted r q pos 5 = r 5 := by
  have e21 : zu r 15 x (21 + q) = r (21 + q) := zu_ne (by omega)
  have e0 : zu r 15 x 0 = r 0 := zu_ne (by decide)
  have e2 : zu r 15 x 2 = r 2 := zu_ne (by decide)
  have ep : rPos (zu r 15 x) q = rPos r q := by unfold rPos rNear; rw [e21, e0]
  have eo : rOff (zu r 15 x) q = rOff r q := by unfold rOff rNear; rw [e21]
  have h1 : rTurned (zu r 15 x) q (pClamp (rOff r q) (r 2)) = zu (rTurned r q (pClamp (rOff r q) (r 2))) 15 x := by
    unfold rTurned
    rw [e21, e0, zu_comm _ (by omega)]
  have h2 : ∀ r' : Nat → Int32, rPc (zu r' 15 x) q (rOff r q) = zu (rPc r' q (rOff r q)) 15 x := fun r' => by
    unfold rPc
    rw [zu_ne (show 31 + q ≠ 15 by omega), zu_ne (show 37 + q ≠ 15 by omega), zu_comm _ (show 15 ≠ 31 + q by omega), zu_comm _ (show 15 ≠ 37 + q by omega)]
  have h3 : ∀ r' : Nat → Int32, rP2 (zu r' 15 x) q (pAbs (rOff r q)) = zu (rP2 r' q (pAbs (rOff r q))) 15 x := fun r' => by
    unfold rP2
    rw [zu_ne (show 35 + q ≠ 15 by omega)]
    split
    · rfl
    · rw [zu_comm _ (show 15 ≠ 35 + q by omega)]
  have h4 : ∀ r' : Nat → Int32, rP3 (zu r' 15 x) q (rPos r q) pos = zu (rP3 r' q (rPos r q) pos) 15 x := fun r' => by
    unfold rP3
    rw [zu_ne (show 33 + q ≠ 15 by omega)]
    split
    · rfl
    · rw [zu_comm _ (show 15 ≠ 33 + q by omega)]
  have h5 : rPrinted r q pos 5 = r 5 := by
    have a1 : rPc (rTurned r q (pClamp (rOff r q) (r 2))) q (rOff r q) 5 = r 5 := by
      unfold rPc rTurned
      rw [zu_ne (by omega), zu_ne (by omega), zu_ne (by omega)]
    have a2 : rP2 (rPc (rTurned r q (pClamp (rOff r q) (r 2))) q (rOff r q)) q (pAbs (rOff r q)) 5 = r 5 := by
      unfold rP2
      split
      · exact a1
      · rw [zu_ne (by omega)]; exact a1
    unfold rPrinted
    generalize rP2 (rPc (rTurned r q (pClamp (rOff r q) (r 2))) q (rOff r q)) q (pAbs (rOff r q)) = r2 at a2 ⊢
    unfold rP3
    split
    · exact a2
    · rw [zu_ne (by omega)]; exact a2
  refine ⟨?_, ep, eo, h5⟩
  unfold rPrinted
  rw [ep, eo, e2, h1, h2, h3, h4]
theorem C_pulse50_0 {ln : Nat → Nat} {σ : zS} {b p : Nat} {f : Nat → Nat → Int32} {s0 s1 : Int64} {r : Nat → Int32} (S : zMs (gr σ) ln b) (gp : gr σ b 0 = some p) (hp : p + 127 ≤ b ∨ b + 16 ≤ p) (PL : zPl σ ln p r) (h : RR f s0 s1 r) (hW : zW r) (h19 : (r 19).toInt ≤ 599) (h12 : 0 ≤ (r 12).toInt) (h13 : r 13 = 0 ∨ r 13 = 1) {v : Int32} (hv : 0 ≤ v.toInt ∧ v.toInt < 28) {Q : zS → Prop} (hq : ∀ f', RR f' s0 s1 (rMeans r 0 v) → Q (zcs σ b f' s0 s1)) (h14 : r 14 = 0 ∨ r 14 = 1) : wX3_takePulse_50 ln Q b (b + 1) v (zcs σ b f s0 s1) := by
  have S' := S
  obtain ⟨⟨m1, m2, m3, m4, m5, m6⟩, ⟨a1, a2, a3, a4, a5, a6, a7, a8, a9⟩, ⟨l1, l2, l3, l4, l5, l6⟩⟩ := S
  have f73 : f 7 3 = r 14 := h.2.2.2.1.2.2.1
  unfold rMeans at hq
  simp only [wX3_takePulse_50, gr_zcs, m3, Option.some.injEq, exists_eq_left', gi_zcs_k σ b _ _ _ (show 7 < 16 by decide), f73]
  refine ⟨fun hc => ?_, fun hc => ?_⟩
  · rw [if_neg (by rw [hc]; decide)] at hq
    exact C_take S' gp hp PL h hW h13 hv hq
  · have h14' : r 14 = 1 := h14.elim (fun e => absurd e hc) id
    rw [if_pos h14'] at hq
    exact C_check0 S' gp hp PL h hW h19 h12 hq
theorem C_pulse0 {ln : Nat → Nat} {σ : zS} {b p : Nat} {f : Nat → Nat → Int32} {s0 s1 : Int64} {r : Nat → Int32} (S : zMs (gr σ) ln b) (gp : gr σ b 0 = some p) (hp : p + 127 ≤ b ∨ b + 16 ≤ p) (PL : zPl σ ln p r) (h : RR f s0 s1 r) (hW : zW r) (h6 : r 6 = 1) (h19 : (r 19).toInt ≤ 599) (h12 : 0 ≤ (r 12).toInt) (h13 : r 13 = 0 ∨ r 13 = 1) (h14 : r 14 = 0 ∨ r 14 = 1) (hsum : -2147483648 ≤ (r 37).toInt + (rOff r 0).toInt ∧ (r 37).toInt + (rOff r 0).toInt < 2147483648) {pos : Int32} {Q : zS → Prop} (hq : ∀ f' s0' s1', RR f' s0' s1' (rPrints r 0 pos) → Q (zcs σ b f' s0' s1')) : wX3_takePulse ln (zcs σ b f s0 s1) b pos Q := by
  have S' := S
  obtain ⟨⟨m1, m2, m3, m4, m5, m6⟩, ⟨a1, a2, a3, a4, a5, a6, a7, a8, a9⟩, ⟨l1, l2, l3, l4, l5, l6⟩⟩ := S
  have hN := hW.N
  have hP := hW.p0
  have f03 : f 0 3 = 1 := h.1.2.2.1.trans h6
  have f01 : f 0 1 = r 5 := h.1.1
  have h15 := RRs_15 h (r 5)
  have hW15 : zW (zu r 15 (r 5)) := zW_out hW (nk (by omega)) _
  have hk15 : zkp r (zu r 15 (r 5)) := zkp_zu (fun _ _ => rfl) (nsk (by omega)) _
  have PL15 := PL.c hk15 hW
  have PL' := PL
  obtain ⟨⟨pn, pdl, pg, prr⟩, -⟩ := PL'
  obtain ⟨q1, q2, q3, q4⟩ := rPrinted_15 r (q := 0) (by decide) (r 5) pos
  obtain ⟨e1, e2, e3⟩ := rPos_lt (q := 0) hN ⟨hP.1, show (r 21).toInt < 28000 by omega⟩
  have gN : gi (zcs σ b (zf f 0 8 (r 5)) s0 s1) p 0 = r 0 := by rw [gi_zcs_o _ _ _ _ _ (by omega)]; exact pn
  have g2 : zf f 0 8 (r 5) 0 2 = r 2 := by
    have : zf f 0 8 (r 5) 0 2 = f 0 2 := by simp only [zf_ap, if_true, Nat.reduceEqDiff, if_false]
    rw [this]; exact h.1.2.1
  have e1m : (1 : Int32) - 1 = 0 := by decide
  simp only [wX3_takePulse, gi_zcs_b, f03, e1m, forall_eq]
  refine ⟨fun h => absurd h (by decide), fun _ => ?_⟩
  simp only [gr_zcs, m1, Option.some.injEq, exists_eq_left', gi_zcs_b, f01, si_zcs_b, forall_eq, gp, gN, g2]
  have e15_2 : zu r 15 (r 5) 2 = r 2 := zu_ne (by decide)
  have e15_0 : zu r 15 (r 5) 0 = r 0 := zu_ne (by decide)
  have e15_37 : zu r 15 (r 5) 37 = r 37 := zu_ne (by decide)
  have hpr : rPrinted (zu r 15 (r 5)) 0 pos = rP3 (rP2 (rPc (rTurned (zu r 15 (r 5)) 0 (pClamp (rOff (zu r 15 (r 5)) 0) (zu r 15 (r 5) 2))) 0 (rOff (zu r 15 (r 5)) 0)) 0 (pAbs (rOff (zu r 15 (r 5)) 0))) 0 (rPos (zu r 15 (r 5)) 0) pos := rfl
  have hprt := C_print0 S' gp hp PL15 h15 hW15 (by rw [e15_37, q3]; exact hsum) (Q := fun r10 σ9 => ((r10 = pos → wX3_takePulse_50 ln Q b (b + 1) r10 σ9) ∧ (¬ r10 = pos → wX3_takePulse_50 ln Q b (b + 1) r10 (si σ9 (b + 1) 4 (gi σ9 (b + 1) 4 + 1)))))
  rw [e15_2, e15_0] at hprt
  refine hprt (fun f1 t0 t1 h1 => ?_)
  rw [q2]
  have hWp := zW_printed hW (q := 0) (by decide) pos
  have hWf : zW (zu (rPrinted r 0 pos) 15 (rPrinted r 0 pos 5)) := zW_out hWp.1 (nk (by omega)) _
  have hkf : zkp r (zu (rPrinted r 0 pos) 15 (rPrinted r 0 pos 5)) := zkp_zu (zkp_printed (fun _ _ => rfl) (by decide) pos) (nsk (by omega)) _
  have hkey : ∀ j, j = 12 ∨ j = 13 ∨ j = 14 → zu (rPrinted r 0 pos) 15 (rPrinted r 0 pos 5) j = r j := by
    intro j hj
    rw [zu_ne (by omega)]
    unfold rPrinted
    have a1 : rPc (rTurned r 0 (pClamp (rOff r 0) (r 2))) 0 (rOff r 0) j = r j := by
      unfold rPc rTurned
      rw [zu_ne (by omega), zu_ne (by omega), zu_ne (by omega)]
    have a2 : rP2 (rPc (rTurned r 0 (pClamp (rOff r 0) (r 2))) 0 (rOff r 0)) 0 (pAbs (rOff r 0)) j = r j := by
      unfold rP2
      split
      · exact a1
      · rw [zu_ne (by omega)]; exact a1
    generalize rP2 (rPc (rTurned r 0 (pClamp (rOff r 0) (r 2))) 0 (rOff r 0)) 0 (pAbs (rOff r 0)) = r2 at a2 ⊢
    unfold rP3
    split
    · exact a2
    · rw [zu_ne (by omega)]; exact a2
  have hv : 0 ≤ (rPos r 0).toInt ∧ (rPos r 0).toInt < 28 := by
    have m1 := Int.emod_nonneg (((r (21 + 0)).toInt + 500) / 1000) (show (r 0).toInt ≠ 0 by omega)
    have m2 := Int.emod_lt_of_pos (((r (21 + 0)).toInt + 500) / 1000) (show 0 < (r 0).toInt by omega)
    omega
  have fin : ∀ f2, RR f2 t0 t1 (zu (rPrinted r 0 pos) 15 (rPrinted r 0 pos 5)) → wX3_takePulse_50 ln Q b (b + 1) (rPos r 0) (zcs σ b f2 t0 t1) := by
    intro f2 h2
    refine C_pulse50_0 S' gp hp (PL.c hkf hW) h2 hWf (by rw [zu_ne (by decide), hWp.2.1]; exact h19) (by rw [hkey 12 (by omega)]; exact h12) (by rw [hkey 13 (by omega)]; exact h13) hv (fun f3 h3 => hq f3 t0 t1 h3) (by rw [hkey 14 (by omega)]; exact h14)
  rw [q4] at fin
  rw [← q1, hpr, q2] at fin
  unfold rP3 at fin
  refine ⟨fun hc => ?_, fun hc => ?_⟩
  · rw [if_pos hc] at fin
    exact fin f1 h1
  · rw [if_neg hc] at fin
    have f4 := h1.2.1.1.2.2.2.2.1
    have f4 : f1 1 4 = _ := f4
    simp only [gi_zcs_k σ b _ _ _ (show 1 < 16 by decide), si_zcs_k σ b _ _ _ (show 1 < 16 by decide), f4]
    exact fin _ (RRs_33 h1 _)
theorem C_pulse50_1 {ln : Nat → Nat} {σ : zS} {b p : Nat} {f : Nat → Nat → Int32} {s0 s1 : Int64} {r : Nat → Int32} (S : zMs (gr σ) ln b) (gp : gr σ b 0 = some p) (hp : p + 127 ≤ b ∨ b + 16 ≤ p) (PL : zPl σ ln p r) (h : RR f s0 s1 r) (hW : zW r) (h19 : (r 19).toInt ≤ 599) (h12 : 0 ≤ (r 12).toInt) (h13 : r 13 = 0 ∨ r 13 = 1) {v : Int32} (hv : 0 ≤ v.toInt ∧ v.toInt < 28) {Q : zS → Prop} (hq : ∀ f', RR f' s0 s1 (rMeans r 1 v) → Q (zcs σ b f' s0 s1)) (h14 : r 14 = 0 ∨ r 14 = 1) : wX3_takePulse_50 ln Q b (b + 4) v (zcs σ b f s0 s1) := by
  have S' := S
  obtain ⟨⟨m1, m2, m3, m4, m5, m6⟩, ⟨a1, a2, a3, a4, a5, a6, a7, a8, a9⟩, ⟨l1, l2, l3, l4, l5, l6⟩⟩ := S
  have f73 : f 7 3 = r 14 := h.2.2.2.1.2.2.1
  unfold rMeans at hq
  simp only [wX3_takePulse_50, gr_zcs, m3, Option.some.injEq, exists_eq_left', gi_zcs_k σ b _ _ _ (show 7 < 16 by decide), f73]
  refine ⟨fun hc => ?_, fun hc => ?_⟩
  · rw [if_neg (by rw [hc]; decide)] at hq
    exact C_take S' gp hp PL h hW h13 hv hq
  · have h14' : r 14 = 1 := h14.elim (fun e => absurd e hc) id
    rw [if_pos h14'] at hq
    exact C_check1 S' gp hp PL h hW h19 h12 hq
theorem C_pulse1 {ln : Nat → Nat} {σ : zS} {b p : Nat} {f : Nat → Nat → Int32} {s0 s1 : Int64} {r : Nat → Int32} (S : zMs (gr σ) ln b) (gp : gr σ b 0 = some p) (hp : p + 127 ≤ b ∨ b + 16 ≤ p) (PL : zPl σ ln p r) (h : RR f s0 s1 r) (hW : zW r) (h6 : r 6 = 0) (h19 : (r 19).toInt ≤ 599) (h12 : 0 ≤ (r 12).toInt) (h13 : r 13 = 0 ∨ r 13 = 1) (h14 : r 14 = 0 ∨ r 14 = 1) (hsum : -2147483648 ≤ (r 38).toInt + (rOff r 1).toInt ∧ (r 38).toInt + (rOff r 1).toInt < 2147483648) {pos : Int32} {Q : zS → Prop} (hq : ∀ f' s0' s1', RR f' s0' s1' (rPrints r 1 pos) → Q (zcs σ b f' s0' s1')) : wX3_takePulse ln (zcs σ b f s0 s1) b pos Q := by
  have S' := S
  obtain ⟨⟨m1, m2, m3, m4, m5, m6⟩, ⟨a1, a2, a3, a4, a5, a6, a7, a8, a9⟩, ⟨l1, l2, l3, l4, l5, l6⟩⟩ := S
  have hN := hW.N
  have hP := hW.p1
  have f03 : f 0 3 = 0 := h.1.2.2.1.trans h6
  have f01 : f 0 1 = r 5 := h.1.1
  have h15 := RRs_15 h (r 5)
  have hW15 : zW (zu r 15 (r 5)) := zW_out hW (nk (by omega)) _
  have hk15 : zkp r (zu r 15 (r 5)) := zkp_zu (fun _ _ => rfl) (nsk (by omega)) _
  have PL15 := PL.c hk15 hW
  have PL' := PL
  obtain ⟨⟨pn, pdl, pg, prr⟩, -⟩ := PL'
  obtain ⟨q1, q2, q3, q4⟩ := rPrinted_15 r (q := 1) (by decide) (r 5) pos
  obtain ⟨e1, e2, e3⟩ := rPos_lt (q := 1) hN ⟨hP.1, show (r 22).toInt < 28000 by omega⟩
  have gN : gi (zcs σ b (zf f 0 8 (r 5)) s0 s1) p 0 = r 0 := by rw [gi_zcs_o _ _ _ _ _ (by omega)]; exact pn
  have g2 : zf f 0 8 (r 5) 0 2 = r 2 := by
    have : zf f 0 8 (r 5) 0 2 = f 0 2 := by simp only [zf_ap, if_true, Nat.reduceEqDiff, if_false]
    rw [this]; exact h.1.2.1
  have e1m : (1 : Int32) - 0 = 1 := by decide
  simp only [wX3_takePulse, gi_zcs_b, f03, e1m, forall_eq]
  refine ⟨fun _ => ?_, fun h => absurd rfl h⟩
  simp only [gr_zcs, m2, Option.some.injEq, exists_eq_left', gi_zcs_b, f01, si_zcs_b, forall_eq, gp, gN, g2]
  have e15_2 : zu r 15 (r 5) 2 = r 2 := zu_ne (by decide)
  have e15_0 : zu r 15 (r 5) 0 = r 0 := zu_ne (by decide)
  have e15_37 : zu r 15 (r 5) 38 = r 38 := zu_ne (by decide)
  have hpr : rPrinted (zu r 15 (r 5)) 1 pos = rP3 (rP2 (rPc (rTurned (zu r 15 (r 5)) 1 (pClamp (rOff (zu r 15 (r 5)) 1) (zu r 15 (r 5) 2))) 1 (rOff (zu r 15 (r 5)) 1)) 1 (pAbs (rOff (zu r 15 (r 5)) 1))) 1 (rPos (zu r 15 (r 5)) 1) pos := rfl
  have hprt := C_print1 S' gp hp PL15 h15 hW15 (by rw [e15_37, q3]; exact hsum) (Q := fun r10 σ9 => ((r10 = pos → wX3_takePulse_50 ln Q b (b + 4) r10 σ9) ∧ (¬ r10 = pos → wX3_takePulse_50 ln Q b (b + 4) r10 (si σ9 (b + 4) 4 (gi σ9 (b + 4) 4 + 1)))))
  rw [e15_2, e15_0] at hprt
  refine hprt (fun f1 t0 t1 h1 => ?_)
  rw [q2]
  have hWp := zW_printed hW (q := 1) (by decide) pos
  have hWf : zW (zu (rPrinted r 1 pos) 15 (rPrinted r 1 pos 5)) := zW_out hWp.1 (nk (by omega)) _
  have hkf : zkp r (zu (rPrinted r 1 pos) 15 (rPrinted r 1 pos 5)) := zkp_zu (zkp_printed (fun _ _ => rfl) (by decide) pos) (nsk (by omega)) _
  have hkey : ∀ j, j = 12 ∨ j = 13 ∨ j = 14 → zu (rPrinted r 1 pos) 15 (rPrinted r 1 pos 5) j = r j := by
    intro j hj
    rw [zu_ne (by omega)]
    unfold rPrinted
    have a1 : rPc (rTurned r 1 (pClamp (rOff r 1) (r 2))) 1 (rOff r 1) j = r j := by
      unfold rPc rTurned
      rw [zu_ne (by omega), zu_ne (by omega), zu_ne (by omega)]
    have a2 : rP2 (rPc (rTurned r 1 (pClamp (rOff r 1) (r 2))) 1 (rOff r 1)) 1 (pAbs (rOff r 1)) j = r j := by
      unfold rP2
      split
      · exact a1
      · rw [zu_ne (by omega)]; exact a1
    generalize rP2 (rPc (rTurned r 1 (pClamp (rOff r 1) (r 2))) 1 (rOff r 1)) 1 (pAbs (rOff r 1)) = r2 at a2 ⊢
    unfold rP3
    split
    · exact a2
    · rw [zu_ne (by omega)]; exact a2
  have hv : 0 ≤ (rPos r 1).toInt ∧ (rPos r 1).toInt < 28 := by
    have m1 := Int.emod_nonneg (((r (21 + 1)).toInt + 500) / 1000) (show (r 0).toInt ≠ 0 by omega)
    have m2 := Int.emod_lt_of_pos (((r (21 + 1)).toInt + 500) / 1000) (show 0 < (r 0).toInt by omega)
    omega
  have fin : ∀ f2, RR f2 t0 t1 (zu (rPrinted r 1 pos) 15 (rPrinted r 1 pos 5)) → wX3_takePulse_50 ln Q b (b + 4) (rPos r 1) (zcs σ b f2 t0 t1) := by
    intro f2 h2
    refine C_pulse50_1 S' gp hp (PL.c hkf hW) h2 hWf (by rw [zu_ne (by decide), hWp.2.1]; exact h19) (by rw [hkey 12 (by omega)]; exact h12) (by rw [hkey 13 (by omega)]; exact h13) hv (fun f3 h3 => hq f3 t0 t1 h3) (by rw [hkey 14 (by omega)]; exact h14)
  rw [q4] at fin
  rw [← q1, hpr, q2] at fin
  unfold rP3 at fin
  refine ⟨fun hc => ?_, fun hc => ?_⟩
  · rw [if_pos hc] at fin
    exact fin f1 h1
  · rw [if_neg hc] at fin
    have f4 := h1.2.1.2.2.2.2.2.1
    have f4 : f1 4 4 = _ := f4
    simp only [gi_zcs_k σ b _ _ _ (show 4 < 16 by decide), si_zcs_k σ b _ _ _ (show 4 < 16 by decide), f4]
    exact fin _ (RRs_34 h1 _)

/-! from 71.looks -/
/-! THE CLASS'S STEPS: what is sent; how a tick ends -/
theorem w_rget {ln : Nat → Nat} {σ : zS} {a a' cap m k : Nat} {v : Int32} (g : gr σ a 0 = some a') (l : ln a' = cap) (hcap : cap < 2 ^ 31) (hm : gi σ a 1 = nI m) (hm2 : m ≤ cap) (hk : v = nI k) (hk2 : k < m) {Q : Int32 → zS → Prop} (hq : Q (gi σ a' k) σ) : wX9_get ln σ a v Q := by
  subst hk
  have e1 : ¬ nI k < 0 := nI_pos (by omega)
  have e2 : ¬ nI m ≤ nI k := nI_ge hk2 (by omega)
  have e3 : ¬ nI cap ≤ nI k := nI_ge (by omega) (by omega)
  have e4 : vp_in (nI k) cap := vp_in_nI (by omega) (by omega)
  have e5 : (nI k).toNatClampNeg = k := nI_clamp (by omega)
  simp only [wX9_get, g, Option.some.injEq, exists_eq_left', l, hm, e1, e2, e3, e4, e5, false_imp_iff, not_false_eq_true, true_implies, true_and]
  exact hq
theorem w_rget_no {ln : Nat → Nat} {σ : zS} {a m k : Nat} {v : Int32} (hm : gi σ a 1 = nI m) (hk : v = nI k) (hk2 : m ≤ k) (hk3 : k < 2 ^ 31) {Q : Int32 → zS → Prop} (hq : Q (-1) σ) : wX9_get ln σ a v Q := by
  subst hk
  have e1 : ¬ nI k < 0 := nI_pos (by omega)
  have e2 : nI m ≤ nI k := nI_le hk2 (by omega)
  simp only [wX9_get, hm, e1, e2, false_imp_iff, not_false_eq_true, true_implies, true_and, not_true, and_true]
  exact hq
theorem w_line {ln : Nat → Nat} {σ : zS} {a a' c m k : Nat} {v : Int32} (g : gr σ a 3 = some a') (l : ln a' = 12) (hm : gi σ a 2 = nI m) (hm2 : m ≤ 12) (hk : v = nI k) (hk2 : k < m) (gc : gr σ a' k = some c) {Q : Option Nat → zS → Prop} (hq : Q (some c) σ) : wX0_line ln σ a v Q := by
  subst hk
  have e1 : ¬ nI k < 0 := nI_pos (by omega)
  have e2 : ¬ nI m ≤ nI k := nI_ge hk2 (by omega)
  have e3 : ¬ nI 12 ≤ nI k := nI_ge (by omega) (by omega)
  have e4 : vp_in (nI k) 12 := vp_in_nI (by omega) (by omega)
  have e5 : (nI k).toNatClampNeg = k := nI_clamp (by omega)
  simp only [wX0_line, g, Option.some.injEq, exists_eq_left', l, hm, e1, e2, e3, e4, e5, gc, false_imp_iff, not_false_eq_true, true_implies, true_and]
  exact hq
theorem rPath_len {r : Nat → Int32} (hW : zW r) {a : Nat} (ha : a < 24) : 2 ≤ (rPath r a).length ∧ (rPath r a).length ≤ 62 := by
  have h1 := zpath_len (rChr r a) (r (219 + a)).toNatClampNeg (r 0)
  have h2 := zenc_len (rChr r a) (r (219 + a)).toNatClampNeg
  have h3 := hW.len a ha
  have h4 := ncl h3.1
  unfold rPath
  omega
/-- every position of a path is one -/
def zQp (r : Nat → Int32) : Prop := ∀ q : Nat, q < 2 → ∀ k : Nat, k < 12 → (k : Int) < (r (25 + q)).toInt → ∀ j, j < (rPath r (12 * q + k)).length → 0 ≤ ((rPath r (12 * q + k)).getD j 0).toInt ∧ ((rPath r (12 * q + k)).getD j 0).toInt < 28
theorem zQp.c {r r' : Nat → Int32} (h : zQp r) (e : zkp r r') (hW : zW r) : zQp r' := by
  intro q hq k hk hk2
  rw [e (25 + q) (by omega)] at hk2
  rw [e.path (by omega) (hW.len _ (by omega)).2]
  exact h q hq k hk hk2
/-- what the class takes for the next position -/
def rNp (r : Nat → Int32) : Int32 := if (r 9).toNatClampNeg < (rPath r (zLn r)).length then rPosn r else -1
theorem zact_o {r : Nat → Int32} (hW : zW r) (ha : ¬ r 6 = -1) : (r 6 = 0 ∧ zo r = 0 ∧ zLn r = 12 * 0 + (r 27).toNatClampNeg ∧ (r 27).toNatClampNeg < 12 ∧ (((r 27).toNatClampNeg : Nat) : Int) < (r (25 + 0)).toInt) ∨ (r 6 = 1 ∧ zo r = 1 ∧ zLn r = 12 * 1 + (r 28).toNatClampNeg ∧ (r 28).toNatClampNeg < 12 ∧ (((r 28).toNatClampNeg : Nat) : Int) < (r (25 + 1)).toInt) := by
  have a0 := hW.D0
  have a1 := hW.D1
  have b0 := hW.L0
  have b1 := hW.L1
  rcases hW.h6 ha with e | e
  · left
    have hz : zo r = 0 := by unfold zo; rw [e]; rfl
    have := hW.S0 e
    have hc := ncl a0.1
    refine ⟨e, hz, ?_, by omega, ?_⟩
    · unfold zLn; rw [hz]
    · show _ < (r 25).toInt
      omega
  · right
    have hz : zo r = 1 := by unfold zo; rw [e]; rfl
    have := hW.S1 e
    have hc := ncl a1.1
    refine ⟨e, hz, ?_, by omega, ?_⟩
    · unfold zLn; rw [hz]
    · show _ < (r 26).toInt
      omega
theorem C_next0 {ln : Nat → Nat} {σ : zS} {b p : Nat} {f : Nat → Nat → Int32} {s0 s1 : Int64} {r : Nat → Int32} (S : zMs (gr σ) ln b) (gp : gr σ b 0 = some p) (hp : p + 127 ≤ b ∨ b + 16 ≤ p) (PL : zPl σ ln p r) (h : RR f s0 s1 r) (hW : zW r) (h9 : 0 ≤ (r 9).toInt) (h6 : r 6 = 0) (h7 : r 7 = 0) {Q : Int32 → zS → Prop} (hq : Q (rNp r) (zcs σ b f s0 s1)) : wX3_nextPosition ln (zcs σ b f s0 s1) b Q := by
  have S' := S
  obtain ⟨⟨m1, m2, m3, m4, m5, m6⟩, ⟨a1, a2, a3, a4, a5, a6, a7, a8, a9⟩, ⟨l1, l2, l3, l4, l5, l6⟩⟩ := S
  obtain ⟨pN, ⟨pd0, pd1⟩, ⟨pc0, pc1⟩, ⟨pl0, pl1, pn0, pn1⟩, pe⟩ := PL
  have e03 : f 0 3 = 0 := h.1.2.2.1.trans h6
  have e04 : f 0 4 = 0 := h.1.2.2.2.1.trans h7
  have e06 : f 0 6 = r 9 := h.1.2.2.2.2.2.1
  have eD : f 1 2 = r 27 := h.2.1.1.2.2.1
  have hc9 := ncl h9
  have h9n : r 9 = nI (r 9).toNatClampNeg := by rw [neq, nI_toInt (by have := nrange (r 9); omega)]; omega
  obtain ⟨ez, eL, k12, kL⟩ : zo r = 0 ∧ zLn r = 12 * 0 + (r 27).toNatClampNeg ∧ (r 27).toNatClampNeg < 12 ∧ (((r 27).toNatClampNeg : Nat) : Int) < (r (25 + 0)).toInt := by
    rcases zact_o hW (by rw [h6]; decide) with hh | hh
    · exact ⟨hh.2.1, hh.2.2.1, hh.2.2.2.1, hh.2.2.2.2⟩
    · exact absurd (h6.symm.trans hh.1) (by decide)
  have hDn := hW.D0
  have hLn := hW.L0
  have hcD := ncl hDn.1
  have hcL := ncl hLn.1
  have eDn : r 27 = nI (r 27).toNatClampNeg := by rw [neq, nI_toInt (by omega)]; omega
  have eLn : r 25 = nI (r 25).toNatClampNeg := by rw [neq, nI_toInt (by omega)]; omega
  obtain ⟨⟨x1, x2, x3, x4⟩, xx⟩ := pe 0 (by decide) (r 27).toNatClampNeg k12
  obtain ⟨y1, y2⟩ := xx kL
  have hPL := rPath_len hW (a := 12 * 0 + (r 27).toNatClampNeg) (by omega)
  simp only [wX3_nextPosition, gi_zcs_b, e03, e04]
  refine ⟨fun h => absurd h (by decide), fun _ => ⟨fun _ => ?_, fun h => absurd trivial h⟩⟩
  simp only [gr_zcs, gp, Option.some.injEq, exists_eq_left', forall_eq, wX6_desk]
  refine ⟨fun h => absurd h (by decide), fun _ => ?_⟩
  simp only [gr_zcs, pd0, Option.some.injEq, exists_eq_left', wX3_office, gi_zcs_b, e03, forall_eq]
  refine ⟨fun h => absurd h (by decide), fun _ => ?_⟩
  simp only [gr_zcs, m1, Option.some.injEq, exists_eq_left', gi_zcs_k σ b f s0 s1 (show 1 < 16 by decide), eD]
  have hL3 : gi (zcs σ b f s0 s1) (p + 3) 2 = nI (r 25).toNatClampNeg := by rw [gi_zcs_o _ _ _ _ _ (by omega), pc0]; exact eLn
  refine w_line (k := (r 27).toNatClampNeg) (gr_zcs σ b f s0 s1 ▸ pl0) pn0 hL3 (by omega) eDn (by have : (25 + 0) = 25 := rfl; rw [this] at kL; omega) (gr_zcs σ b f s0 s1 ▸ x1) ⟨fun h => absurd h (by simp), fun j hj => ?_⟩
  obtain rfl := Option.some.inj hj
  have x2' : gr (zcs σ b f s0 s1) (p + 5 + 62 * 0 + 5 * (r 27).toNatClampNeg) 1 = some (p + 8 + 62 * 0 + 5 * (r 27).toNatClampNeg) := x2
  refine ⟨_, x2', ?_⟩
  have e06' : gi (zcs σ b f s0 s1) b 6 = r 9 := by rw [gi_zcs_b]; exact e06
  rw [e06']
  have x3' : gr (zcs σ b f s0 s1) (p + 8 + 62 * 0 + 5 * (r 27).toNatClampNeg) 0 = some (p + 9 + 62 * 0 + 5 * (r 27).toNatClampNeg) := x3
  have y1' : gi (zcs σ b f s0 s1) (p + 8 + 62 * 0 + 5 * (r 27).toNatClampNeg) 1 = nI (rPath r (12 * 0 + (r 27).toNatClampNeg)).length := by rw [gi_zcs_o _ _ _ _ _ (by omega)]; exact y1
  unfold rNp rPosn at hq
  rw [eL] at hq
  by_cases hk : (r 9).toNatClampNeg < (rPath r (12 * 0 + (r 27).toNatClampNeg)).length
  · rw [if_pos hk] at hq
    refine w_rget x3' x4 (by decide) y1' (by omega) h9n hk ?_
    rw [gi_zcs_o _ _ _ _ _ (by omega), y2 _ hk]
    exact hq
  · rw [if_neg hk] at hq
    exact w_rget_no y1' h9n (by omega) (by have := nrange (r 9); omega) hq
theorem C_next1 {ln : Nat → Nat} {σ : zS} {b p : Nat} {f : Nat → Nat → Int32} {s0 s1 : Int64} {r : Nat → Int32} (S : zMs (gr σ) ln b) (gp : gr σ b 0 = some p) (hp : p + 127 ≤ b ∨ b + 16 ≤ p) (PL : zPl σ ln p r) (h : RR f s0 s1 r) (hW : zW r) (h9 : 0 ≤ (r 9).toInt) (h6 : r 6 = 1) (h7 : r 7 = 0) {Q : Int32 → zS → Prop} (hq : Q (rNp r) (zcs σ b f s0 s1)) : wX3_nextPosition ln (zcs σ b f s0 s1) b Q := by
  have S' := S
  obtain ⟨⟨m1, m2, m3, m4, m5, m6⟩, ⟨a1, a2, a3, a4, a5, a6, a7, a8, a9⟩, ⟨l1, l2, l3, l4, l5, l6⟩⟩ := S
  obtain ⟨pN, ⟨pd0, pd1⟩, ⟨pc0, pc1⟩, ⟨pl0, pl1, pn0, pn1⟩, pe⟩ := PL
  have e03 : f 0 3 = 1 := h.1.2.2.1.trans h6
  have e04 : f 0 4 = 0 := h.1.2.2.2.1.trans h7
  have e06 : f 0 6 = r 9 := h.1.2.2.2.2.2.1
  have eD : f 4 2 = r 28 := h.2.1.2.2.2.1
  have hc9 := ncl h9
  have h9n : r 9 = nI (r 9).toNatClampNeg := by rw [neq, nI_toInt (by have := nrange (r 9); omega)]; omega
  obtain ⟨ez, eL, k12, kL⟩ : zo r = 1 ∧ zLn r = 12 * 1 + (r 28).toNatClampNeg ∧ (r 28).toNatClampNeg < 12 ∧ (((r 28).toNatClampNeg : Nat) : Int) < (r (25 + 1)).toInt := by
    rcases zact_o hW (by rw [h6]; decide) with hh | hh
    · exact absurd (h6.symm.trans hh.1) (by decide)
    · exact ⟨hh.2.1, hh.2.2.1, hh.2.2.2.1, hh.2.2.2.2⟩
  have hDn := hW.D1
  have hLn := hW.L1
  have hcD := ncl hDn.1
  have hcL := ncl hLn.1
  have eDn : r 28 = nI (r 28).toNatClampNeg := by rw [neq, nI_toInt (by omega)]; omega
  have eLn : r 26 = nI (r 26).toNatClampNeg := by rw [neq, nI_toInt (by omega)]; omega
  obtain ⟨⟨x1, x2, x3, x4⟩, xx⟩ := pe 1 (by decide) (r 28).toNatClampNeg k12
  obtain ⟨y1, y2⟩ := xx kL
  have hPL := rPath_len hW (a := 12 * 1 + (r 28).toNatClampNeg) (by omega)
  simp only [wX3_nextPosition, gi_zcs_b, e03, e04]
  refine ⟨fun h => absurd h (by decide), fun _ => ⟨fun _ => ?_, fun h => absurd trivial h⟩⟩
  simp only [gr_zcs, gp, Option.some.injEq, exists_eq_left', forall_eq, wX6_desk]
  refine ⟨fun _ => ?_, fun h => absurd trivial h⟩
  simp only [gr_zcs, pd1, Option.some.injEq, exists_eq_left', wX3_office, gi_zcs_b, e03, forall_eq]
  refine ⟨fun _ => ?_, fun h => absurd trivial h⟩
  simp only [gr_zcs, m2, Option.some.injEq, exists_eq_left', gi_zcs_k σ b f s0 s1 (show 4 < 16 by decide), eD]
  have hL3 : gi (zcs σ b f s0 s1) (p + 65) 2 = nI (r 26).toNatClampNeg := by rw [gi_zcs_o _ _ _ _ _ (by omega), pc1]; exact eLn
  refine w_line (k := (r 28).toNatClampNeg) (gr_zcs σ b f s0 s1 ▸ pl1) pn1 hL3 (by omega) eDn (by have : (25 + 1) = 26 := rfl; rw [this] at kL; omega) (gr_zcs σ b f s0 s1 ▸ x1) ⟨fun h => absurd h (by simp), fun j hj => ?_⟩
  obtain rfl := Option.some.inj hj
  have x2' : gr (zcs σ b f s0 s1) (p + 5 + 62 * 1 + 5 * (r 28).toNatClampNeg) 1 = some (p + 8 + 62 * 1 + 5 * (r 28).toNatClampNeg) := x2
  refine ⟨_, x2', ?_⟩
  have e06' : gi (zcs σ b f s0 s1) b 6 = r 9 := by rw [gi_zcs_b]; exact e06
  rw [e06']
  have x3' : gr (zcs σ b f s0 s1) (p + 8 + 62 * 1 + 5 * (r 28).toNatClampNeg) 0 = some (p + 9 + 62 * 1 + 5 * (r 28).toNatClampNeg) := x3
  have y1' : gi (zcs σ b f s0 s1) (p + 8 + 62 * 1 + 5 * (r 28).toNatClampNeg) 1 = nI (rPath r (12 * 1 + (r 28).toNatClampNeg)).length := by rw [gi_zcs_o _ _ _ _ _ (by omega)]; exact y1
  unfold rNp rPosn at hq
  rw [eL] at hq
  by_cases hk : (r 9).toNatClampNeg < (rPath r (12 * 1 + (r 28).toNatClampNeg)).length
  · rw [if_pos hk] at hq
    refine w_rget x3' x4 (by decide) y1' (by omega) h9n hk ?_
    rw [gi_zcs_o _ _ _ _ _ (by omega), y2 _ hk]
    exact hq
  · rw [if_neg hk] at hq
    exact w_rget_no y1' h9n (by omega) (by have := nrange (r 9); omega) hq
theorem C_next {ln : Nat → Nat} {σ : zS} {b p : Nat} {f : Nat → Nat → Int32} {s0 s1 : Int64} {r : Nat → Int32} (S : zMs (gr σ) ln b) (gp : gr σ b 0 = some p) (hp : p + 127 ≤ b ∨ b + 16 ≤ p) (PL : zPl σ ln p r) (h : RR f s0 s1 r) (hW : zW r) (h9 : zact r → 0 ≤ (r 9).toInt) {Q : Int32 → zS → Prop} (hn : ¬ zact r → Q (-1) (zcs σ b f s0 s1)) (hq : zact r → Q (rNp r) (zcs σ b f s0 s1)) : wX3_nextPosition ln (zcs σ b f s0 s1) b Q := by
  by_cases ha : zact r
  · have h7 : r 7 = 0 := hW.w.elim id (fun e => absurd e ha.2)
    rcases hW.h6 ha.1 with h6 | h6
    · exact C_next0 S gp hp PL h hW (h9 ha) h6 h7 (hq ha)
    · exact C_next1 S gp hp PL h hW (h9 ha) h6 h7 (hq ha)
  · have hn := hn ha
    have e03 : f 0 3 = r 6 := h.1.2.2.1
    have e04 : f 0 4 = r 7 := h.1.2.2.2.1
    simp only [wX3_nextPosition, gi_zcs_b, e03, e04]
    refine ⟨fun _ => hn, fun h6 => ⟨fun h7 => absurd ⟨h6, fun h1 => ?_⟩ ha, fun _ => hn⟩⟩
    rw [h7] at h1
    exact absurd h1 (by decide)
theorem C_holds {ln : Nat → Nat} {σ : zS} {b : Nat} {f : Nat → Nat → Int32} {s0 s1 : Int64} {r : Nat → Int32} (S : zMs (gr σ) ln b) (h : RR f s0 s1 r) (hl : 0 ≤ (r 20).toInt ∧ (r 20).toInt ≤ 20) {num : Int32} {Q : Int32 → zS → Prop} (hq : Q (if rLost r num then 1 else 0) (zcs σ b f s0 s1)) : wX9_holds ln (zcs σ b f s0 s1) (b + 14) num Q := by
  obtain ⟨⟨m1, m2, m3, m4, m5, m6⟩, ⟨a1, a2, a3, a4, a5, a6, a7, a8, a9⟩, ⟨l1, l2, l3, l4, l5, l6⟩⟩ := S
  obtain ⟨z1, z2⟩ := h.2.2.2.2.2.2.1
  have c0 := ncl hl.1
  have hm : (r 20).toNatClampNeg ≤ 20 := by omega
  have e20 : f 14 1 = nI (r 20).toNatClampNeg := by rw [z1, neq, nI_toInt (by omega)]; omega
  have key : ∀ d k : Nat, k + d = (r 20).toNatClampNeg → (∀ j, j < k → r (39 + j) ≠ num) → wX9_holds_2 ln Q (d + 1) (b + 14) num (nI k) (zcs σ b f s0 s1) := by
    intro d
    induction d with
    | zero =>
      intro k hk hj
      have hc : nI (r 20).toNatClampNeg ≤ nI k := nI_le (by omega) (by omega)
      have hf : rLost r num = false := by
        unfold rLost
        rw [List.any_eq_false]
        intro j hj2
        have := hj j (by have := List.mem_range.mp hj2; omega)
        simp [this]
      rw [hf] at hq
      rw [wX9_holds_2]
      simp only [gi_zcs_k σ b f s0 s1 (show 14 < 16 by decide), e20, hc, not_true, false_imp_iff, and_true, true_implies]
      exact hq
    | succ d ih =>
      intro k hk hj
      have hc : ¬ nI (r 20).toNatClampNeg ≤ nI k := nI_ge (by omega) (by omega)
      rw [wX9_holds_2]
      simp only [gi_zcs_k σ b f s0 s1 (show 14 < 16 by decide), e20, hc, false_imp_iff, not_false_eq_true, true_implies, true_and]
      refine c_rget (c := 14) (cap := 20) (by decide) a9 l6 (by decide) e20 hm rfl (by omega) ?_
      rw [z2 k (by omega)]
      refine ⟨fun h => ?_, fun h => ?_⟩
      · have ht : rLost r num = true := by
          unfold rLost
          rw [List.any_eq_true]
          exact ⟨k, List.mem_range.mpr (by omega), by simp [h]⟩
        rw [ht] at hq
        exact hq
      · intro x3 e3
        subst e3
        rw [nI_1]
        exact ih (k + 1) (by omega) (fun j hj2 => by
          by_cases e : j = k
          · rw [e]; exact h
          · exact hj j (by omega))
  exact ⟨(r 20).toNatClampNeg + 1, key (r 20).toNatClampNeg 0 (by omega) (fun j hj => absurd hj (Nat.not_lt_zero j))⟩
theorem C_sendPulse {ln : Nat → Nat} {σ : zS} {b p : Nat} {f : Nat → Nat → Int32} {s0 s1 : Int64} {r : Nat → Int32} (S : zMs (gr σ) ln b) (gp : gr σ b 0 = some p) (hp : p + 127 ≤ b ∨ b + 16 ≤ p) (PL : zPl σ ln p r) (h : RR f s0 s1 r) (hW : zW r) (h19 : (r 19).toInt ≤ 599) {pos : Int32} {Q : zS → Prop} (hq : ∀ f', RR f' s0 s1 (rSnd (rCnt r) pos) → Q (zcs σ b f' s0 s1)) : wX3_sendPulse ln (zcs σ b f s0 s1) b pos Q := by
  have S' := S
  obtain ⟨⟨m1, m2, m3, m4, m5, m6⟩, ⟨a1, a2, a3, a4, a5, a6, a7, a8, a9⟩, ⟨l1, l2, l3, l4, l5, l6⟩⟩ := S
  have PL' := PL
  obtain ⟨⟨pn, pdl, pg, prr⟩, -⟩ := PL'
  have f09 : f 0 9 = r 16 := h.1.2.2.2.2.2.2.2.2.1
  have h1 := RRs_16 h (r 16 + 1)
  have e1 : zu r 16 (r 16 + 1) = rCnt r := rfl
  rw [e1] at h1
  have hW1 : zW (rCnt r) := zW_out hW (nk (by omega)) _
  have e16 : rCnt r 16 = r 16 + 1 := zu_self r 16 _
  have c1 : zf f 0 9 (r 16 + 1) 0 9 = r 16 + 1 := by simp only [zf_ap, if_true]
  have c2 : zf f 0 9 (r 16 + 1) 0 1 = r 5 := by
    have : zf f 0 9 (r 16 + 1) 0 1 = f 0 1 := by simp only [zf_ap, if_true, Nat.reduceEqDiff, if_false]
    rw [this]; exact h.1.1
  have c3 : zf f 0 9 (r 16 + 1) 0 10 = r 17 := by
    have : zf f 0 9 (r 16 + 1) 0 10 = f 0 10 := by simp only [zf_ap, if_true, Nat.reduceEqDiff, if_false]
    rw [this]; exact h.1.2.2.2.2.2.2.2.2.2
  have gd : gi (zcs σ b (zf f 0 9 (r 16 + 1)) s0 s1) p 1 = r 1 := by rw [gi_zcs_o _ _ _ _ _ (by omega)]; exact pdl
  unfold rSnd at hq
  rw [e16] at hq
  simp only [wX3_sendPulse, gi_zcs_b, f09, forall_eq, si_zcs_b, gr_zcs, m6, Option.some.injEq, exists_eq_left', c1]
  refine C_holds S' h1 (by show 0 ≤ (zu r 16 (r 16 + 1) 20).toInt ∧ (zu r 16 (r 16 + 1) 20).toInt ≤ 20; rw [zu_ne (by decide)]; exact hW.l) ?_
  cases hL : rLost (rCnt r) (r 16 + 1)
  · rw [hL] at hq
    refine ⟨fun _ => ?_, fun h => absurd rfl h⟩
    simp only [gr_zcs, m4, gp, Option.some.injEq, exists_eq_left', gi_zcs_b, c2, gd, forall_eq]
    have e5 : r 5 + r 1 = rCnt r 5 + rCnt r 1 := by
      show _ = zu r 16 (r 16 + 1) 5 + zu r 16 (r 16 + 1) 1
      rw [zu_ne (by decide), zu_ne (by decide)]
    exact C_send S' h1 hW1 (by show (zu r 16 (r 16 + 1) 19).toInt ≤ 599; rw [zu_ne (by decide)]; exact h19) (w := 0) (v := pos) e5 (fun _ => rfl) hq
  · rw [hL] at hq
    refine ⟨fun h => absurd h (by decide), fun _ => ?_⟩
    simp only [gi_zcs_b, c3, forall_eq, si_zcs_b]
    have h2 := RRs_17 h1 (rCnt r 17 + 1)
    have e17 : rCnt r 17 = r 17 := zu_ne (by decide)
    rw [e17] at h2 hq
    exact hq _ h2
theorem C_looks0 {ln : Nat → Nat} {σ : zS} {b p : Nat} {f : Nat → Nat → Int32} {s0 s1 : Int64} {r : Nat → Int32} (S : zMs (gr σ) ln b) (gp : gr σ b 0 = some p) (hp : p + 127 ≤ b ∨ b + 16 ≤ p) (PL : zPl σ ln p r) (h : RR f s0 s1 r) (hW : zW r) (hQ : zQp r) (h19 : (r 19).toInt ≤ 599) (h9 : 0 ≤ (r 9).toInt ∧ (r 9).toInt < (rPath r (zLn r)).length) (h6 : r 6 = 0) (h7 : r 7 = 0) {Q : zS → Prop} (hq : ∀ f', RR f' s0 s1 (rLooks r) → Q (zcs σ b f' s0 s1)) : wX3_sendIfPassing ln (zcs σ b f s0 s1) b Q := by
  have S' := S
  obtain ⟨⟨m1, m2, m3, m4, m5, m6⟩, ⟨a1, a2, a3, a4, a5, a6, a7, a8, a9⟩, ⟨l1, l2, l3, l4, l5, l6⟩⟩ := S
  have PL' := PL
  obtain ⟨⟨pn, pdl, pg, prr⟩, -⟩ := PL'
  have ha : zact r := ⟨by rw [h6]; decide, by rw [h7]; decide⟩
  have hc9 := ncl h9.1
  have e03 : f 0 3 = 0 := h.1.2.2.1.trans h6
  obtain ⟨ez, eL, k12, kL⟩ : zo r = 0 ∧ zLn r = 12 * 0 + (r 27).toNatClampNeg ∧ (r 27).toNatClampNeg < 12 ∧ (((r 27).toNatClampNeg : Nat) : Int) < (r (25 + 0)).toInt := by
    rcases zact_o hW (by rw [h6]; decide) with hh | hh
    · exact ⟨hh.2.1, hh.2.2.1, hh.2.2.2.1, hh.2.2.2.2⟩
    · exact absurd (h6.symm.trans hh.1) (by decide)
  have hlt : (r 9).toNatClampNeg < (rPath r (zLn r)).length := by omega
  have hPL := rPath_len hW (a := zLn r) (by rw [eL]; omega)
  have eNp : rNp r = rPosn r := by unfold rNp; rw [if_pos hlt]
  have hps : 0 ≤ (rPosn r).toInt ∧ (rPosn r).toInt < 28 := by
    unfold rPosn
    rw [eL]
    exact hQ 0 (by decide) _ k12 kL _ (by rw [← eL]; exact hlt)
  have hN := hW.N
  have hph := hW.p0
  have hr0 := hW.r0
  have f0 : f 1 0 = r 21 := h.2.1.1.1
  have f1 : f 1 1 = r 23 := h.2.1.1.2.1
  have gN : gi (zcs σ b f s0 s1) p 0 = r 0 := by rw [gi_zcs_o _ _ _ _ _ (by omega)]; exact pn
  have t1 : (1000 : Int32).toInt = 1000 := rfl
  have eN : (1000 * r 0).toInt = 1000 * (r 0).toInt := by rw [nmul (by rw [t1]; omega) (by rw [t1]; omega), t1]
  have eP : (1000 * rPosn r).toInt = 1000 * (rPosn r).toInt := by rw [nmul (by rw [t1]; omega) (by rw [t1]; omega), t1]
  have eX : (r 21 - 1000 * rPosn r).toInt = (r 21).toInt - 1000 * (rPosn r).toInt := by rw [nsub (by rw [eP]; omega) (by rw [eP]; omega), eP]
  have eF : mI (r 21 - 1000 * rPosn r).toInt (1000 * r 0).toInt = rFar r := by
    rw [eX, eN]
    unfold rFar
    rw [ez]
  unfold rLooks at hq
  rw [if_neg (fun hc => hc.elim ha.1 ha.2), ez] at hq
  refine C_next0 S' gp hp PL h hW h9.1 h6 h7 ?_
  rw [eNp]
  have hne : ¬ rPosn r = -1 := fun e => by
    rw [e] at hps
    exact absurd hps.1 (by decide)
  refine ⟨fun h => absurd h hne, fun _ => ?_⟩
  simp only [gi_zcs_b, e03, forall_eq, wX3_office]
  refine ⟨fun h => absurd h (by decide), fun _ => ?_⟩
  simp only [gr_zcs, m1, gp, Option.some.injEq, exists_eq_left', wX6_circle, gN, gi_zcs_k σ b f s0 s1 (show 1 < 16 by decide), f0, forall_eq]
  refine wmodulo (by omega) ?_
  rw [eF]
  simp only [gi_zcs_k σ b f s0 s1 (show 1 < 16 by decide), f1]
  refine ⟨fun hl => ?_, fun hl => ?_⟩
  · have hl2 : ¬ r (23 + 0) ≤ rFar r := by
      show ¬ r 23 ≤ rFar r
      rw [nlt] at hl
      rw [nle]; omega
    rw [if_neg hl2] at hq
    refine C_sendPulse S' gp hp PL h hW h19 (fun f2 h2 => ?_)
    have hW1 : zW (rCnt r) := zW_out hW (nk (by omega)) _
    have hk1 : zkp r (rCnt r) := zkp_zu (fun _ _ => rfl) (nsk (by omega)) _
    have hsn : ∀ k, k = 5 ∨ k = 1 ∨ k = 3 ∨ k = 6 ∨ k = 7 ∨ k = 9 ∨ k = 27 ∨ k = 28 → rSnd (rCnt r) (rPosn r) k = r k := by
      intro k hk
      have : rCnt r k = r k := zu_ne (by omega)
      unfold rSnd
      split
      · rw [zu_ne (by omega)]; exact this
      · rw [← this]
        unfold rSends
        exact rPut_out _ (by omega) (by omega)
    have hW2 : zW (rSnd (rCnt r) (rPosn r)) := by
      unfold rSnd
      split
      · exact zW_out hW1 (nk (by omega)) _
      · exact zW_sends hW1 (by show (zu r 16 (r 16 + 1) 19).toInt ≤ 599; rw [zu_ne (by decide)]; exact h19)
    have hk2 : zkp r (rSnd (rCnt r) (rPosn r)) := by
      unfold rSnd
      split
      · exact zkp_zu hk1 (nsk (by omega)) _
      · exact zkp_sends hk1
    unfold rNext at hq
    generalize rSnd (rCnt r) (rPosn r) = r2 at h2 hW2 hk2 hsn hq
    have f06 : f2 0 6 = r 9 := (h2.1.2.2.2.2.2.1).trans (hsn 9 (by omega))
    have e9 := hsn 9 (by omega)
    rw [e9] at hq
    simp only [gi_zcs_b, f06, forall_eq, si_zcs_b]
    have h3 := RRs_9 h2 (r 9 + 1)
    have hW3 : zW (zu r2 9 (r 9 + 1)) := zW_out hW2 (nk (by omega)) _
    have hk3 : zkp r (zu r2 9 (r 9 + 1)) := zkp_zu hk2 (nsk (by omega)) _
    have e91 : (r 9 + 1).toInt = (r 9).toInt + 1 := ixs (k := 1) rfl (by decide) (by omega) (by omega)
    have h39 : zu r2 9 (r 9 + 1) 9 = r 9 + 1 := zu_self _ _ _
    have h36 : zu r2 9 (r 9 + 1) 6 = 0 := by rw [zu_ne (by decide), hsn 6 (by omega)]; exact h6
    have h37 : zu r2 9 (r 9 + 1) 7 = 0 := by rw [zu_ne (by decide), hsn 7 (by omega)]; exact h7
    have hLn3 : zLn (zu r2 9 (r 9 + 1)) = zLn r := by
      have hz3 : zo (zu r2 9 (r 9 + 1)) = zo r := by unfold zo; rw [h36, h6]
      unfold zLn
      rw [hz3, ez, zu_ne (by decide), hsn (27 + 0) (by omega)]
    have hP3 : rPath (zu r2 9 (r 9 + 1)) (zLn (zu r2 9 (r 9 + 1))) = rPath r (zLn r) := by
      rw [hLn3]
      exact hk3.path (by rw [eL]; omega) (hW.len _ (by rw [eL]; omega)).2
    have hkE : zu r2 9 (r 9 + 1) 5 = r 5 ∧ zu r2 9 (r 9 + 1) 1 = r 1 ∧ zu r2 9 (r 9 + 1) 3 = r 3 := ⟨by rw [zu_ne (by decide), hsn 5 (by omega)], by rw [zu_ne (by decide), hsn 1 (by omega)], by rw [zu_ne (by decide), hsn 3 (by omega)]⟩
    unfold rEndL at hq
    rw [hkE.1, hkE.2.1, hkE.2.2, h39] at hq
    generalize hr3 : zu r2 9 (r 9 + 1) = r3 at h3 hW3 hk3 h39 h36 h37 hLn3 hP3 hkE hq
    refine C_next0 S' gp hp (PL.c hk3 hW) h3 hW3 (by rw [h39]; omega) h36 h37 ?_
    have hc3 : (r 9 + 1).toNatClampNeg = (r 9).toNatClampNeg + 1 := by rw [ncln, e91]; omega
    have hQ3 := hQ.c hk3 hW
    refine ⟨fun hn => ?_, fun hn => ?_⟩
    · have hL2 : r 9 + 1 = nI (rPath r (zLn r)).length := by
        apply Decidable.byContradiction
        intro hcn
        have hlt3 : (r3 9).toNatClampNeg < (rPath r3 (zLn r3)).length := by
          rw [h39, hP3, hc3]
          have : ¬ (r 9).toNatClampNeg + 1 = (rPath r (zLn r)).length := fun e => hcn (by rw [neq, nI_toInt (by omega), e91]; omega)
          omega
        unfold rNp at hn
        rw [if_pos hlt3] at hn
        unfold rPosn at hn
        rw [hLn3, eL] at hn
        have e25 : r3 (25 + 0) = r (25 + 0) := hk3 _ (by omega)
        have := hQ3 0 (by decide) _ k12 (by rw [e25]; exact kL) (r3 9).toNatClampNeg (by rw [← eL, ← hLn3]; exact hlt3)
        rw [hn] at this
        exact absurd this.1 (by decide)
      rw [if_pos hL2] at hq
      have c1 : zf (zf f2 0 6 (r 9 + 1)) 0 4 1 0 1 = r 5 := by
        have : zf (zf f2 0 6 (r 9 + 1)) 0 4 1 0 1 = zf f2 0 6 (r 9 + 1) 0 1 := by simp only [zf_ap, if_true, Nat.reduceEqDiff, if_false]
        rw [this]; exact h3.1.1.trans hkE.1
      have gd : gi (zcs σ b (zf (zf f2 0 6 (r 9 + 1)) 0 4 1) s0 s1) p 1 = r 1 := by rw [gi_zcs_o _ _ _ _ _ (by omega)]; exact pdl
      have gg : gi (zcs σ b (zf (zf f2 0 6 (r 9 + 1)) 0 4 1) s0 s1) p 3 = r 3 := by rw [gi_zcs_o _ _ _ _ _ (by omega)]; exact pg
      simp only [forall_eq, si_zcs_b, gr_zcs, gp, Option.some.injEq, exists_eq_left', gi_zcs_b, c1, gd, gg]
      exact hq _ (RRs_w h3 _)
    · have hL2 : ¬ r 9 + 1 = nI (rPath r (zLn r)).length := by
        intro hcn
        apply hn
        have hlt3 : ¬ (r3 9).toNatClampNeg < (rPath r3 (zLn r3)).length := by
          rw [h39, hP3, hcn, nI_clamp (by omega)]
          omega
        unfold rNp
        rw [if_neg hlt3]
      rw [if_neg hL2] at hq
      exact hq _ h3
  · have hl2 : r (23 + 0) ≤ rFar r := by
      show r 23 ≤ rFar r
      rw [nlt] at hl
      rw [nle]; omega
    rw [if_pos hl2] at hq
    exact hq f h
theorem C_looks1 {ln : Nat → Nat} {σ : zS} {b p : Nat} {f : Nat → Nat → Int32} {s0 s1 : Int64} {r : Nat → Int32} (S : zMs (gr σ) ln b) (gp : gr σ b 0 = some p) (hp : p + 127 ≤ b ∨ b + 16 ≤ p) (PL : zPl σ ln p r) (h : RR f s0 s1 r) (hW : zW r) (hQ : zQp r) (h19 : (r 19).toInt ≤ 599) (h9 : 0 ≤ (r 9).toInt ∧ (r 9).toInt < (rPath r (zLn r)).length) (h6 : r 6 = 1) (h7 : r 7 = 0) {Q : zS → Prop} (hq : ∀ f', RR f' s0 s1 (rLooks r) → Q (zcs σ b f' s0 s1)) : wX3_sendIfPassing ln (zcs σ b f s0 s1) b Q := by
  have S' := S
  obtain ⟨⟨m1, m2, m3, m4, m5, m6⟩, ⟨a1, a2, a3, a4, a5, a6, a7, a8, a9⟩, ⟨l1, l2, l3, l4, l5, l6⟩⟩ := S
  have PL' := PL
  obtain ⟨⟨pn, pdl, pg, prr⟩, -⟩ := PL'
  have ha : zact r := ⟨by rw [h6]; decide, by rw [h7]; decide⟩
  have hc9 := ncl h9.1
  have e03 : f 0 3 = 1 := h.1.2.2.1.trans h6
  obtain ⟨ez, eL, k12, kL⟩ : zo r = 1 ∧ zLn r = 12 * 1 + (r 28).toNatClampNeg ∧ (r 28).toNatClampNeg < 12 ∧ (((r 28).toNatClampNeg : Nat) : Int) < (r (25 + 1)).toInt := by
    rcases zact_o hW (by rw [h6]; decide) with hh | hh
    · exact absurd (h6.symm.trans hh.1) (by decide)
    · exact ⟨hh.2.1, hh.2.2.1, hh.2.2.2.1, hh.2.2.2.2⟩
  have hlt : (r 9).toNatClampNeg < (rPath r (zLn r)).length := by omega
  have hPL := rPath_len hW (a := zLn r) (by rw [eL]; omega)
  have eNp : rNp r = rPosn r := by unfold rNp; rw [if_pos hlt]
  have hps : 0 ≤ (rPosn r).toInt ∧ (rPosn r).toInt < 28 := by
    unfold rPosn
    rw [eL]
    exact hQ 1 (by decide) _ k12 kL _ (by rw [← eL]; exact hlt)
  have hN := hW.N
  have hph := hW.p1
  have hr0 := hW.r1
  have f0 : f 4 0 = r 22 := h.2.1.2.1
  have f1 : f 4 1 = r 24 := h.2.1.2.2.1
  have gN : gi (zcs σ b f s0 s1) p 0 = r 0 := by rw [gi_zcs_o _ _ _ _ _ (by omega)]; exact pn
  have t1 : (1000 : Int32).toInt = 1000 := rfl
  have eN : (1000 * r 0).toInt = 1000 * (r 0).toInt := by rw [nmul (by rw [t1]; omega) (by rw [t1]; omega), t1]
  have eP : (1000 * rPosn r).toInt = 1000 * (rPosn r).toInt := by rw [nmul (by rw [t1]; omega) (by rw [t1]; omega), t1]
  have eX : (r 22 - 1000 * rPosn r).toInt = (r 22).toInt - 1000 * (rPosn r).toInt := by rw [nsub (by rw [eP]; omega) (by rw [eP]; omega), eP]
  have eF : mI (r 22 - 1000 * rPosn r).toInt (1000 * r 0).toInt = rFar r := by
    rw [eX, eN]
    unfold rFar
    rw [ez]
  unfold rLooks at hq
  rw [if_neg (fun hc => hc.elim ha.1 ha.2), ez] at hq
  refine C_next1 S' gp hp PL h hW h9.1 h6 h7 ?_
  rw [eNp]
  have hne : ¬ rPosn r = -1 := fun e => by
    rw [e] at hps
    exact absurd hps.1 (by decide)
  refine ⟨fun h => absurd h hne, fun _ => ?_⟩
  simp only [gi_zcs_b, e03, forall_eq, wX3_office]
  refine ⟨fun _ => ?_, fun h => absurd trivial h⟩
  simp only [gr_zcs, m2, gp, Option.some.injEq, exists_eq_left', wX6_circle, gN, gi_zcs_k σ b f s0 s1 (show 4 < 16 by decide), f0, forall_eq]
  refine wmodulo (by omega) ?_
  rw [eF]
  simp only [gi_zcs_k σ b f s0 s1 (show 4 < 16 by decide), f1]
  refine ⟨fun hl => ?_, fun hl => ?_⟩
  · have hl2 : ¬ r (23 + 1) ≤ rFar r := by
      show ¬ r 24 ≤ rFar r
      rw [nlt] at hl
      rw [nle]; omega
    rw [if_neg hl2] at hq
    refine C_sendPulse S' gp hp PL h hW h19 (fun f2 h2 => ?_)
    have hW1 : zW (rCnt r) := zW_out hW (nk (by omega)) _
    have hk1 : zkp r (rCnt r) := zkp_zu (fun _ _ => rfl) (nsk (by omega)) _
    have hsn : ∀ k, k = 5 ∨ k = 1 ∨ k = 3 ∨ k = 6 ∨ k = 7 ∨ k = 9 ∨ k = 27 ∨ k = 28 → rSnd (rCnt r) (rPosn r) k = r k := by
      intro k hk
      have : rCnt r k = r k := zu_ne (by omega)
      unfold rSnd
      split
      · rw [zu_ne (by omega)]; exact this
      · rw [← this]
        unfold rSends
        exact rPut_out _ (by omega) (by omega)
    have hW2 : zW (rSnd (rCnt r) (rPosn r)) := by
      unfold rSnd
      split
      · exact zW_out hW1 (nk (by omega)) _
      · exact zW_sends hW1 (by show (zu r 16 (r 16 + 1) 19).toInt ≤ 599; rw [zu_ne (by decide)]; exact h19)
    have hk2 : zkp r (rSnd (rCnt r) (rPosn r)) := by
      unfold rSnd
      split
      · exact zkp_zu hk1 (nsk (by omega)) _
      · exact zkp_sends hk1
    unfold rNext at hq
    generalize rSnd (rCnt r) (rPosn r) = r2 at h2 hW2 hk2 hsn hq
    have f06 : f2 0 6 = r 9 := (h2.1.2.2.2.2.2.1).trans (hsn 9 (by omega))
    have e9 := hsn 9 (by omega)
    rw [e9] at hq
    simp only [gi_zcs_b, f06, forall_eq, si_zcs_b]
    have h3 := RRs_9 h2 (r 9 + 1)
    have hW3 : zW (zu r2 9 (r 9 + 1)) := zW_out hW2 (nk (by omega)) _
    have hk3 : zkp r (zu r2 9 (r 9 + 1)) := zkp_zu hk2 (nsk (by omega)) _
    have e91 : (r 9 + 1).toInt = (r 9).toInt + 1 := ixs (k := 1) rfl (by decide) (by omega) (by omega)
    have h39 : zu r2 9 (r 9 + 1) 9 = r 9 + 1 := zu_self _ _ _
    have h36 : zu r2 9 (r 9 + 1) 6 = 1 := by rw [zu_ne (by decide), hsn 6 (by omega)]; exact h6
    have h37 : zu r2 9 (r 9 + 1) 7 = 0 := by rw [zu_ne (by decide), hsn 7 (by omega)]; exact h7
    have hLn3 : zLn (zu r2 9 (r 9 + 1)) = zLn r := by
      have hz3 : zo (zu r2 9 (r 9 + 1)) = zo r := by unfold zo; rw [h36, h6]
      unfold zLn
      rw [hz3, ez, zu_ne (by decide), hsn (27 + 1) (by omega)]
    have hP3 : rPath (zu r2 9 (r 9 + 1)) (zLn (zu r2 9 (r 9 + 1))) = rPath r (zLn r) := by
      rw [hLn3]
      exact hk3.path (by rw [eL]; omega) (hW.len _ (by rw [eL]; omega)).2
    have hkE : zu r2 9 (r 9 + 1) 5 = r 5 ∧ zu r2 9 (r 9 + 1) 1 = r 1 ∧ zu r2 9 (r 9 + 1) 3 = r 3 := ⟨by rw [zu_ne (by decide), hsn 5 (by omega)], by rw [zu_ne (by decide), hsn 1 (by omega)], by rw [zu_ne (by decide), hsn 3 (by omega)]⟩
    unfold rEndL at hq
    rw [hkE.1, hkE.2.1, hkE.2.2, h39] at hq
    generalize hr3 : zu r2 9 (r 9 + 1) = r3 at h3 hW3 hk3 h39 h36 h37 hLn3 hP3 hkE hq
    refine C_next1 S' gp hp (PL.c hk3 hW) h3 hW3 (by rw [h39]; omega) h36 h37 ?_
    have hc3 : (r 9 + 1).toNatClampNeg = (r 9).toNatClampNeg + 1 := by rw [ncln, e91]; omega
    have hQ3 := hQ.c hk3 hW
    refine ⟨fun hn => ?_, fun hn => ?_⟩
    · have hL2 : r 9 + 1 = nI (rPath r (zLn r)).length := by
        apply Decidable.byContradiction
        intro hcn
        have hlt3 : (r3 9).toNatClampNeg < (rPath r3 (zLn r3)).length := by
          rw [h39, hP3, hc3]
          have : ¬ (r 9).toNatClampNeg + 1 = (rPath r (zLn r)).length := fun e => hcn (by rw [neq, nI_toInt (by omega), e91]; omega)
          omega
        unfold rNp at hn
        rw [if_pos hlt3] at hn
        unfold rPosn at hn
        rw [hLn3, eL] at hn
        have e25 : r3 (25 + 1) = r (25 + 1) := hk3 _ (by omega)
        have := hQ3 1 (by decide) _ k12 (by rw [e25]; exact kL) (r3 9).toNatClampNeg (by rw [← eL, ← hLn3]; exact hlt3)
        rw [hn] at this
        exact absurd this.1 (by decide)
      rw [if_pos hL2] at hq
      have c1 : zf (zf f2 0 6 (r 9 + 1)) 0 4 1 0 1 = r 5 := by
        have : zf (zf f2 0 6 (r 9 + 1)) 0 4 1 0 1 = zf f2 0 6 (r 9 + 1) 0 1 := by simp only [zf_ap, if_true, Nat.reduceEqDiff, if_false]
        rw [this]; exact h3.1.1.trans hkE.1
      have gd : gi (zcs σ b (zf (zf f2 0 6 (r 9 + 1)) 0 4 1) s0 s1) p 1 = r 1 := by rw [gi_zcs_o _ _ _ _ _ (by omega)]; exact pdl
      have gg : gi (zcs σ b (zf (zf f2 0 6 (r 9 + 1)) 0 4 1) s0 s1) p 3 = r 3 := by rw [gi_zcs_o _ _ _ _ _ (by omega)]; exact pg
      simp only [forall_eq, si_zcs_b, gr_zcs, gp, Option.some.injEq, exists_eq_left', gi_zcs_b, c1, gd, gg]
      exact hq _ (RRs_w h3 _)
    · have hL2 : ¬ r 9 + 1 = nI (rPath r (zLn r)).length := by
        intro hcn
        apply hn
        have hlt3 : ¬ (r3 9).toNatClampNeg < (rPath r3 (zLn r3)).length := by
          rw [h39, hP3, hcn, nI_clamp (by omega)]
          omega
        unfold rNp
        rw [if_neg hlt3]
      rw [if_neg hL2] at hq
      exact hq _ h3
  · have hl2 : r (23 + 1) ≤ rFar r := by
      show r 24 ≤ rFar r
      rw [nlt] at hl
      rw [nle]; omega
    rw [if_pos hl2] at hq
    exact hq f h
theorem C_looks {ln : Nat → Nat} {σ : zS} {b p : Nat} {f : Nat → Nat → Int32} {s0 s1 : Int64} {r : Nat → Int32} (S : zMs (gr σ) ln b) (gp : gr σ b 0 = some p) (hp : p + 127 ≤ b ∨ b + 16 ≤ p) (PL : zPl σ ln p r) (h : RR f s0 s1 r) (hW : zW r) (hQ : zQp r) (h19 : (r 19).toInt ≤ 599) (h9 : zact r → 0 ≤ (r 9).toInt ∧ (r 9).toInt < (rPath r (zLn r)).length) {Q : zS → Prop} (hq : ∀ f', RR f' s0 s1 (rLooks r) → Q (zcs σ b f' s0 s1)) : wX3_sendIfPassing ln (zcs σ b f s0 s1) b Q := by
  by_cases ha : zact r
  · have h7 : r 7 = 0 := hW.w.elim id (fun e => absurd e ha.2)
    rcases hW.h6 ha.1 with h6 | h6
    · exact C_looks0 S gp hp PL h hW hQ h19 (h9 ha) h6 h7 hq
    · exact C_looks1 S gp hp PL h hW hQ h19 (h9 ha) h6 h7 hq
  · refine C_next S gp hp PL h hW (fun h => absurd h ha) (fun _ => ⟨fun _ => ?_, fun h => absurd rfl h⟩) (fun h => absurd h ha)
    have e : rLooks r = r := by
      unfold rLooks
      rw [if_pos ?_]
      by_cases h6 : r 6 = -1
      · exact Or.inl h6
      · exact Or.inr (Decidable.byContradiction fun h7 => ha ⟨h6, h7⟩)
    rw [e] at hq
    exact hq f h
theorem C_tick148 {ln : Nat → Nat} {σ : zS} {b p : Nat} {f : Nat → Nat → Int32} {s0 s1 : Int64} {r : Nat → Int32} (S : zMs (gr σ) ln b) (gp : gr σ b 0 = some p) (hp : p + 127 ≤ b ∨ b + 16 ≤ p) (PL : zPl σ ln p r) (h : RR f s0 s1 r) (hW : zW r) {Q : zS → Prop} (hq : ∀ f', RR f' s0 s1 (rT2 r) → Q (zcs σ b f' s0 s1)) : wX3_tick_148 ln Q b (zcs σ b f s0 s1) := by
  have S' := S
  obtain ⟨⟨m1, m2, m3, m4, m5, m6⟩, ⟨a1, a2, a3, a4, a5, a6, a7, a8, a9⟩, ⟨l1, l2, l3, l4, l5, l6⟩⟩ := S
  obtain ⟨⟨pn, pdl, pg, prr⟩, -⟩ := PL
  have e03 : f 0 3 = r 6 := h.1.2.2.1
  have e01 : f 0 1 = r 5 := h.1.1
  have e08 : f 0 8 = r 15 := h.1.2.2.2.2.2.2.2.1
  have gg : gi (zcs σ b f s0 s1) p 3 = r 3 := by rw [gi_zcs_o _ _ _ _ _ (by omega)]; exact pg
  unfold rT2 at hq
  simp only [wX3_tick_148, wX3_silentTicks, gi_zcs_b, e03, e01, e08, gr_zcs, gp, m3, Option.some.injEq, exists_eq_left', gg]
  refine ⟨fun h6 => ?_, fun h6 => ⟨fun hl => ?_, fun hl => ?_⟩⟩
  · rw [if_pos h6] at hq; exact hq f h
  · rw [if_neg h6, if_pos hl] at hq; exact hq f h
  · rw [if_neg h6, if_neg hl] at hq
    exact C_clears S' h hW.b.1 hq
theorem C_tick121 {ln : Nat → Nat} {σ : zS} {b p : Nat} {f : Nat → Nat → Int32} {s0 s1 : Int64} {r : Nat → Int32} (S : zMs (gr σ) ln b) (gp : gr σ b 0 = some p) (hp : p + 127 ≤ b ∨ b + 16 ≤ p) (PL : zPl σ ln p r) (h : RR f s0 s1 r) (hW : zW r) (hQ : zQp r) (h19 : (r 19).toInt ≤ 599) (h9 : zact r → 0 ≤ (r 9).toInt ∧ (r 9).toInt < (rPath r (zLn r)).length) (h67 : r 7 = 1 → ¬ r 6 = -1) {Q : zS → Prop} (hq : ∀ f', RR f' s0 s1 (rT2 (rT1 (rLooks r))) → Q (zcs σ b f' s0 s1)) : wX3_tick_121 ln Q b (zcs σ b f s0 s1) := by
  refine C_looks S gp hp PL h hW hQ h19 h9 (fun f1 h1 => ?_)
  have hW1 := zW_looks hW h19
  have hk1 : zkp r (rLooks r) := zkp_looks (fun _ _ => rfl)
  have h61 : rLooks r 7 = 1 → ¬ rLooks r 6 = -1 := by
    intro h7 h6
    unfold rLooks at h6 h7
    split at h6
    · rename_i hc
      rw [if_pos hc] at h7
      exact h67 h7 h6
    · rename_i hc
      have h6' : ¬ r 6 = -1 := fun e => hc (Or.inl e)
      split at h6
      · exact h6' h6
      · refine h6' (Eq.trans ?_ h6)
        have e1 : rCnt r 6 = r 6 := zu_ne (by decide)
        have e2 : rSnd (rCnt r) (rPosn r) 6 = r 6 := by
          unfold rSnd
          split
          · rw [zu_ne (by decide)]; exact e1
          · unfold rSends
            rw [rPut_out _ (by decide) (by omega)]; exact e1
        unfold rNext rEndL
        split
        · rw [zu_ne (by decide), zu_ne (by decide), zu_ne (by decide), e2]
        · rw [zu_ne (by decide), e2]
  have PL1 := PL.c hk1 hW
  generalize rLooks r = r1 at h1 hW1 hk1 h61 PL1 hq
  have e04 : f1 0 4 = r1 7 := h1.1.2.2.2.1
  have e01 : f1 0 1 = r1 5 := h1.1.1
  unfold rT1 at hq
  simp only [gi_zcs_b, e04, e01]
  refine ⟨fun h7 => ?_, fun h7 => ⟨fun hl => ?_, fun hl => ?_⟩⟩
  · have : ¬ r1 7 = 1 := by rw [h7]; decide
    have e : (if r1 6 = -1 then r1 else if r1 7 = 1 then (if r1 5 < r1 8 then r1 else rLineFailed r1) else r1) = r1 := by
      by_cases h6 : r1 6 = -1
      · rw [if_pos h6]
      · rw [if_neg h6, if_neg this]
    rw [e] at hq
    exact C_tick148 S gp hp PL1 h1 hW1 hq
  · have h71 : r1 7 = 1 := hW1.w.elim (fun e => absurd e h7) id
    have e05 : f1 0 5 = r1 8 := h1.1.2.2.2.2.1 h71
    rw [e05] at hl
    rw [if_neg (h61 h71), if_pos h71, if_pos hl] at hq
    exact C_tick148 S gp hp PL1 h1 hW1 hq
  · have h71 : r1 7 = 1 := hW1.w.elim (fun e => absurd e h7) id
    have e05 : f1 0 5 = r1 8 := h1.1.2.2.2.2.1 h71
    rw [e05] at hl
    rw [if_neg (h61 h71), if_pos h71, if_neg hl] at hq
    have h6 := hW1.h6 (h61 h71)
    refine C_endLine S gp hp PL1 h1 hW1 h6 false (fun f2 h2 => ?_)
    have hk2 : zkp r (rLineFailed r1) := zkp_lineFailed hk1 h6 hW1.e
    exact C_tick148 S gp hp (PL.c hk2 hW) h2 (zW_lineFailed hW1 h6) hq

/-! from 72.transit -/
/-! THE TRANSIT by arrivals; how many are under way -/
def zTv (n : Nat) (a : Nat → Int) (w : Nat → Int32) (top lo pc hp ha : Int) (ex : Prop) : Prop :=
  (∀ k, k < n → lo ≤ a k ∧ a k ≤ top) ∧ (∀ i j, i < j → j < n → a i ≤ a j) ∧ (∀ k, k < n → w k = 0 ∨ w k = 1 ∨ w k = 2 ∨ w k = 3) ∧
  (∀ k, k < n → w k = 0 → pc ≤ a k ∧ a k ≤ hp) ∧ (∀ i j, i < j → j < n → w i = 0 → w j = 0 → a i < a j) ∧
  (∀ k, k < n → (w k = 1 ∨ w k = 2) → a k ≤ ha ∧ (ex → a k ≤ ha - 1)) ∧ (∀ i j, i < j → j < n → (w i = 1 ∨ w i = 2) → (w j = 1 ∨ w j = 2) → a i + 2 ≤ a j)
theorem zTv_0 {a : Nat → Int} {w : Nat → Int32} {top lo pc hp ha : Int} {ex : Prop} : zTv 0 a w top lo pc hp ha ex := ⟨fun _ h => absurd h (Nat.not_lt_zero _), fun _ _ _ h => absurd h (Nat.not_lt_zero _), fun _ h => absurd h (Nat.not_lt_zero _), fun _ h => absurd h (Nat.not_lt_zero _), fun _ _ _ h => absurd h (Nat.not_lt_zero _), fun _ h => absurd h (Nat.not_lt_zero _), fun _ _ _ h => absurd h (Nat.not_lt_zero _)⟩
theorem zTv_cong {n n' : Nat} {a a' : Nat → Int} {w w' : Nat → Int32} {top top' lo pc hp ha : Int} {ex ex' : Prop} (h : zTv n a w top lo pc hp ha ex) (hn : n' = n) (hA : ∀ k, k < n → a' k = a k) (hw : ∀ k, k < n → w' k = w k) (ht : top' = top) (he : ex' → ex) : zTv n' a' w' top' lo pc hp ha ex' := by
  subst hn ht
  obtain ⟨h1, h2, h3, h4, h5, h6, h7⟩ := h
  refine ⟨fun k hk => ?_, fun i j hij hj => ?_, fun k hk => ?_, fun k hk h0 => ?_, fun i j hij hj hi0 hj0 => ?_, fun k hk h0 => ?_, fun i j hij hj hi0 hj0 => ?_⟩
  · rw [hA k hk]; exact h1 k hk
  · rw [hA i (by omega), hA j hj]; exact h2 i j hij hj
  · rw [hw k hk]; exact h3 k hk
  · rw [hw k hk] at h0; rw [hA k hk]; exact h4 k hk h0
  · rw [hw i (by omega)] at hi0; rw [hw j hj] at hj0; rw [hA i (by omega), hA j hj]; exact h5 i j hij hj hi0 hj0
  · rw [hw k hk] at h0; rw [hA k hk]; exact ⟨(h6 k hk h0).1, fun e => (h6 k hk h0).2 (he e)⟩
  · rw [hw i (by omega)] at hi0; rw [hw j hj] at hj0; rw [hA i (by omega), hA j hj]; exact h7 i j hij hj hi0 hj0
theorem zTv_mono {n : Nat} {a : Nat → Int} {w : Nat → Int32} {top top' lo lo' pc pc' hp hp' ha ha' : Int} {ex : Prop} (h : zTv n a w top lo pc hp ha ex) (h0 : top ≤ top') (h1 : lo' ≤ lo) (h2 : pc' ≤ pc) (h3 : hp ≤ hp') (h4 : ha ≤ ha') : zTv n a w top' lo' pc' hp' ha' ex := by
  obtain ⟨a1, a2, a3, a4, a5, a6, a7⟩ := h
  refine ⟨fun k hk => ?_, a2, a3, fun k hk e => ?_, a5, fun k hk e => ⟨?_, fun x => ?_⟩, a7⟩
  · have := a1 k hk; omega
  · have := a4 k hk e; omega
  · have := (a6 k hk e).1; omega
  · have := (a6 k hk e).2 x; omega
theorem zTv_lo {n : Nat} {a : Nat → Int} {w : Nat → Int32} {top lo pc hp ha : Int} {ex : Prop} (h : zTv n a w top lo pc hp ha ex) (h0 : 0 < n → lo < a 0) : zTv n a w top (lo + 1) pc hp ha ex := by
  obtain ⟨a1, a2, a3, a4, a5, a6, a7⟩ := h
  refine ⟨fun k hk => ?_, a2, a3, a4, a5, a6, a7⟩
  have h1 := a1 k hk
  have h2 := h0 (by omega)
  by_cases hk0 : k = 0
  · subst hk0; omega
  · have := a2 0 k (by omega) hk
    omega
theorem zTv_pop {n : Nat} {a : Nat → Int} {w : Nat → Int32} {top lo pc hp ha : Int} {ex : Prop} (h : zTv (n + 1) a w top lo pc hp ha ex) : zTv n (fun k => a (k + 1)) (fun k => w (k + 1)) top lo pc hp ha ex := by
  obtain ⟨a1, a2, a3, a4, a5, a6, a7⟩ := h
  exact ⟨fun k hk => a1 (k + 1) (by omega), fun i j hij hj => a2 (i + 1) (j + 1) (by omega) (by omega), fun k hk => a3 (k + 1) (by omega), fun k hk => a4 (k + 1) (by omega), fun i j hij hj => a5 (i + 1) (j + 1) (by omega) (by omega), fun k hk => a6 (k + 1) (by omega), fun i j hij hj => a7 (i + 1) (j + 1) (by omega) (by omega)⟩
theorem zTv_popP {n : Nat} {a : Nat → Int} {w : Nat → Int32} {top lo pc hp ha : Int} {ex : Prop} (h : zTv (n + 1) a w top lo pc hp ha ex) (hw : w 0 = 0) : zTv n (fun k => a (k + 1)) (fun k => w (k + 1)) top lo (pc + 1) hp ha ex := by
  obtain ⟨b1, b2, b3, b4, b5, b6, b7⟩ := zTv_pop h
  obtain ⟨a1, a2, a3, a4, a5, a6, a7⟩ := h
  refine ⟨b1, b2, b3, fun k hk e => ?_, b5, b6, b7⟩
  have h1 := b4 k hk e
  have h2 := a5 0 (k + 1) (by omega) (by omega) hw e
  have h3 := (a4 0 (by omega) hw).1
  show pc + 1 ≤ a (k + 1) ∧ a (k + 1) ≤ hp
  have h1' : pc ≤ a (k + 1) ∧ a (k + 1) ≤ hp := h1
  omega
theorem zTv_push {n : Nat} {a a' : Nat → Int} {w w' : Nat → Int32} {top lo pc hp ha hp' ha' : Int} {ex ex' : Prop} (h : zTv n a w top lo pc hp ha ex) (hA : ∀ k, k < n → a' k = a k) (hw : ∀ k, k < n → w' k = w k) (hn : a' n = top) (hlo : lo ≤ top) (hpl : hp ≤ hp') (hal : ha ≤ ha') (hxx : ex' → ex)
    (hc : (w' n = 0 ∧ hp < top ∧ pc ≤ top ∧ top ≤ hp') ∨ ((w' n = 1 ∨ w' n = 2) ∧ ex ∧ ¬ ex' ∧ ha + 1 = top ∧ top ≤ ha') ∨ w' n = 3) : zTv (n + 1) a' w' top lo pc hp' ha' ex' := by
  obtain ⟨a1, a2, a3, a4, a5, a6, a7⟩ := h
  have n0 : ¬ (0 : Int32) = 1 := by decide
  have n1 : ¬ (0 : Int32) = 2 := by decide
  have n2 : ¬ (1 : Int32) = 0 := by decide
  have n3 : ¬ (2 : Int32) = 0 := by decide
  have n4 : ¬ (3 : Int32) = 0 := by decide
  have n5 : ¬ (3 : Int32) = 1 := by decide
  have n6 : ¬ (3 : Int32) = 2 := by decide
  refine ⟨fun k hk => ?_, fun i j hij hj => ?_, fun k hk => ?_, fun k hk h0 => ?_, fun i j hij hj hi0 hj0 => ?_, fun k hk h0 => ?_, fun i j hij hj hi0 hj0 => ?_⟩
  · by_cases e : k = n
    · subst e; omega
    · rw [hA k (by omega)]; exact a1 k (by omega)
  · rw [hA i (by omega)]
    by_cases e : j = n
    · subst e; rw [hn]; exact (a1 i hij).2
    · rw [hA j (by omega)]; exact a2 i j hij (by omega)
  · by_cases e : k = n
    · subst e
      rcases hc with hc | hc | hc
      · exact Or.inl hc.1
      · exact hc.1.elim (fun x => Or.inr (Or.inl x)) (fun x => Or.inr (Or.inr (Or.inl x)))
      · exact Or.inr (Or.inr (Or.inr hc))
    · rw [hw k (by omega)]; exact a3 k (by omega)
  · by_cases e : k = n
    · subst e
      rcases hc with hc | hc | hc
      · omega
      · exact absurd h0 (fun h => hc.1.elim (fun x => n2 (x.symm.trans h)) (fun x => n3 (x.symm.trans h)))
      · exact absurd (hc.symm.trans h0) n4
    · rw [hw k (by omega)] at h0
      rw [hA k (by omega)]
      have := a4 k (by omega) h0
      omega
  · rw [hw i (by omega)] at hi0
    rw [hA i (by omega)]
    by_cases e : j = n
    · subst e
      rw [hn]
      rcases hc with hc | hc | hc
      · have := (a4 i hij hi0).2
        omega
      · exact absurd hj0 (fun h => hc.1.elim (fun x => n2 (x.symm.trans h)) (fun x => n3 (x.symm.trans h)))
      · exact absurd (hc.symm.trans hj0) n4
    · rw [hw j (by omega)] at hj0
      rw [hA j (by omega)]; exact a5 i j hij (by omega) hi0 hj0
  · by_cases e : k = n
    · subst e
      rw [hn]
      rcases hc with hc | hc | hc
      · exact absurd h0 (fun h => h.elim (fun x => n0 (hc.1.symm.trans x)) (fun x => n1 (hc.1.symm.trans x)))
      · exact ⟨hc.2.2.2.2, fun x => absurd x hc.2.2.1⟩
      · exact absurd h0 (fun h => h.elim (fun x => n5 (hc.symm.trans x)) (fun x => n6 (hc.symm.trans x)))
    · rw [hw k (by omega)] at h0
      rw [hA k (by omega)]
      have := a6 k (by omega) h0
      exact ⟨by omega, fun x => by have := this.2 (hxx x); omega⟩
  · rw [hw i (by omega)] at hi0
    rw [hA i (by omega)]
    by_cases e : j = n
    · subst e
      rw [hn]
      rcases hc with hc | hc | hc
      · exact absurd hj0 (fun h => h.elim (fun x => n0 (hc.1.symm.trans x)) (fun x => n1 (hc.1.symm.trans x)))
      · have := (a6 i hij hi0).2 hc.2.1
        omega
      · exact absurd hj0 (fun h => h.elim (fun x => n5 (hc.symm.trans x)) (fun x => n6 (hc.symm.trans x)))
    · rw [hw j (by omega)] at hj0
      rw [hA j (by omega)]; exact a7 i j hij (by omega) hi0 hj0
/-- how many of the first n -/
def zcnt (p : Nat → Bool) : Nat → Nat
  | 0 => 0
  | n + 1 => zcnt p n + (if p n then 1 else 0)
theorem zcnt_gap {p : Nat → Bool} {a : Nat → Int} {g : Nat} {lo : Int} : ∀ n, (∀ k, k < n → p k = true → lo ≤ a k) → (∀ i j, i < j → j < n → p i = true → p j = true → a i + g ≤ a j) → zcnt p n = 0 ∨ ∃ k, k < n ∧ p k = true ∧ lo + (g : Int) * (zcnt p n : Nat) ≤ a k + g
  | 0, _, _ => Or.inl rfl
  | n + 1, h1, h2 => by
    have ih := zcnt_gap n (fun k hk => h1 k (by omega)) (fun i j hij hj => h2 i j hij (by omega))
    rw [zcnt]
    by_cases hp : p n = true
    · rw [if_pos hp]
      right
      refine ⟨n, by omega, hp, ?_⟩
      rcases ih with ih | ⟨k, k1, k2, k3⟩
      · rw [ih]
        have := h1 n (by omega) hp
        simp
        exact this
      · have := h2 k n k1 (by omega) k2 hp
        rw [Int.natCast_add, Int.mul_add]
        have e : (g : Int) * ((1 : Nat) : Int) = g := by simp
        rw [e]
        omega
    · rw [if_neg hp]
      rcases ih with ih | ⟨k, k1, k2, k3⟩
      · exact Or.inl ih
      · exact Or.inr ⟨k, by omega, k2, k3⟩
theorem zcnt_sum {p q s : Nat → Bool} : ∀ n, (∀ k, k < n → p k = true ∨ q k = true ∨ s k = true) → n ≤ zcnt p n + zcnt q n + zcnt s n
  | 0, _ => Nat.zero_le _
  | n + 1, h => by
    have ih := zcnt_sum n (fun k hk => h k (by omega))
    have h1 := h n (by omega)
    rw [zcnt, zcnt, zcnt]
    rcases h1 with h1 | h1 | h1
    · rw [if_pos h1]; omega
    · rw [if_pos h1]; omega
    · rw [if_pos h1]; omega
theorem zcnt_cong {p q : Nat → Bool} : ∀ n, (∀ k, k < n → p k = q k) → zcnt p n = zcnt q n
  | 0, _ => rfl
  | n + 1, h => by
    rw [zcnt, zcnt, zcnt_cong n (fun k hk => h k (by omega)), h n (by omega)]
theorem zcnt_shift (p : Nat → Bool) : ∀ n, zcnt p (n + 1) = (if p 0 then 1 else 0) + zcnt (fun k => p (k + 1)) n
  | 0 => by simp [zcnt]
  | n + 1 => by
    rw [zcnt, zcnt_shift p n]
    show _ = _ + (zcnt (fun k => p (k + 1)) n + (if p (n + 1) then 1 else 0))
    omega
/-- the transit of a row -/
def nU (r : Nat → Int32) : Nat := (r 19).toNatClampNeg
def aE (r : Nat → Int32) (k : Nat) : Int := (r (2963 + 3 * k)).toInt
def wE (r : Nat → Int32) (k : Nat) : Int32 := r (2964 + 3 * k)
def zTr (r : Nat → Int32) (lo pc hp ha : Int) : Prop := zTv (nU r) (aE r) (wE r) ((r 5).toInt + (r 1).toInt) lo pc hp ha (r 14 = 1)
def zBr (r : Nat → Int32) : Nat := zcnt (fun k => decide (wE r k = 3)) (nU r)
theorem zT_n {r : Nat → Int32} {lo pc hp ha : Int} (h : zTr r lo pc hp ha) (h1 : (r 5).toInt + (r 1).toInt ≤ lo + 50) (h2 : hp ≤ pc + 50) : nU r ≤ 77 + zBr r := by
  obtain ⟨a1, a2, a3, a4, a5, a6, a7⟩ := h
  have hs := zcnt_sum (p := fun k => decide (wE r k = 0)) (q := fun k => decide (wE r k = 1 ∨ wE r k = 2)) (s := fun k => decide (wE r k = 3)) (nU r) (fun k hk => by
    rcases a3 k hk with e | e | e | e
    · exact Or.inl (by simp [e])
    · exact Or.inr (Or.inl (by simp [e]))
    · exact Or.inr (Or.inl (by simp [e]))
    · exact Or.inr (Or.inr (by simp [e])))
  have c0 := zcnt_gap (p := fun k => decide (wE r k = 0)) (a := aE r) (g := 1) (lo := pc) (nU r) (fun k hk e => (a4 k hk (of_decide_eq_true e)).1) (fun i j hij hj e1 e2 => by
    have := a5 i j hij hj (of_decide_eq_true e1) (of_decide_eq_true e2)
    omega)
  have c1 := zcnt_gap (p := fun k => decide (wE r k = 1 ∨ wE r k = 2)) (a := aE r) (g := 2) (lo := lo) (nU r) (fun k hk e => (a1 k hk).1) (fun i j hij hj e1 e2 => by
    have := a7 i j hij hj (of_decide_eq_true e1) (of_decide_eq_true e2)
    omega)
  have b0 : zcnt (fun k => decide (wE r k = 0)) (nU r) ≤ 51 := by
    rcases c0 with c0 | ⟨k, k1, k2, k3⟩
    · omega
    · have := (a4 k k1 (of_decide_eq_true k2)).2
      omega
  have b1 : zcnt (fun k => decide (wE r k = 1 ∨ wE r k = 2)) (nU r) ≤ 26 := by
    rcases c1 with c1 | ⟨k, k1, k2, k3⟩
    · omega
    · have := (a1 k k1).2
      omega
  unfold zBr
  omega
/-- the same transit -/
def zTe (r r' : Nat → Int32) : Prop := r' 19 = r 19 ∧ (∀ j, j < 1800 → r' (2963 + j) = r (2963 + j)) ∧ r' 5 = r 5 ∧ r' 1 = r 1 ∧ (r' 14 = 1 → r 14 = 1)
theorem zTe.nn {r r' : Nat → Int32} (e : zTe r r') : nU r' = nU r := by
  show (r' 19).toNatClampNeg = (r 19).toNatClampNeg
  rw [e.1]
theorem zTe.el {r r' : Nat → Int32} (e : zTe r r') {k : Nat} (hk : k < 600) : aE r' k = aE r k ∧ wE r' k = wE r k := by
  refine ⟨?_, ?_⟩
  · show (r' (2963 + 3 * k)).toInt = (r (2963 + 3 * k)).toInt
    rw [e.2.1 (3 * k) (by omega)]
  · show r' (2964 + 3 * k) = r (2964 + 3 * k)
    have := e.2.1 (3 * k + 1) (by omega)
    have e1 : 2963 + (3 * k + 1) = 2964 + 3 * k := by omega
    rw [e1] at this
    exact this
theorem zTe.T {r r' : Nat → Int32} (e : zTe r r') (hn : nU r ≤ 600) {lo pc hp ha : Int} (h : zTr r lo pc hp ha) : zTr r' lo pc hp ha := zTv_cong h e.nn (fun k hk => (e.el (by omega)).1) (fun k hk => (e.el (by omega)).2) (by rw [e.2.2.1, e.2.2.2.1]) e.2.2.2.2
theorem zTe.B {r r' : Nat → Int32} (e : zTe r r') (hn : nU r ≤ 600) : zBr r' = zBr r := by
  unfold zBr
  rw [e.nn]
  exact zcnt_cong _ (fun k hk => by rw [(e.el (by omega)).2])
theorem zT_0 {r : Nat → Int32} (h : r 19 = 0) {lo pc hp ha : Int} : zTr r lo pc hp ha := by
  unfold zTr nU
  rw [h]
  exact zTv_0
theorem zBr_0 {r : Nat → Int32} (h : r 19 = 0) : zBr r = 0 := by
  unfold zBr nU
  rw [h]
  rfl
theorem rPop_n {r : Nat → Int32} (h : zW r) {n : Nat} (hn : nU r = n + 1) : nU (rPop r) = n ∧ (r 19 - 1).toNatClampNeg = n := by
  have hu := h.u
  unfold nU at hn ⊢
  have e2 : (r 19 - 1).toInt = (r 19).toInt - 1 := nsub (b := 1) (by show _ ≤ (r 19).toInt - 1; omega) (by show (r 19).toInt - 1 < _; omega)
  have e3 : (r 19 - 1).toNatClampNeg = n := by rw [ncln] at hn ⊢; omega
  refine ⟨?_, e3⟩
  unfold rPop
  rw [zcut_out _ (by omega), zu_self]
  exact e3
theorem rPop_at {r : Nat → Int32} (h : zW r) {n : Nat} (hn : nU r = n + 1) {k : Nat} (hk : k < n) : aE (rPop r) k = aE r (k + 1) ∧ wE (rPop r) k = wE r (k + 1) := by
  obtain ⟨h1, h2⟩ := rPop_n h hn
  unfold aE wE rPop zcut
  rw [h2, if_pos (by omega), if_pos (by omega), zu_ne (by omega), zu_ne (by omega)]
  have e1 : 2963 + 3 * k + 3 = 2963 + 3 * (k + 1) := by omega
  have e2 : 2964 + 3 * k + 3 = 2964 + 3 * (k + 1) := by omega
  rw [e1, e2]
  exact ⟨rfl, rfl⟩
theorem rPop_out (r : Nat → Int32) {k : Nat} (h1 : k ≠ 19) (h2 : k < 2963) : rPop r k = r k := by
  unfold rPop
  rw [zcut_out _ (by omega), zu_ne h1]
theorem zT_pop {r : Nat → Int32} (hW : zW r) {n : Nat} (hn : nU r = n + 1) {lo pc hp ha : Int} (h : zTr r lo pc hp ha) : zTr (rPop r) lo (if wE r 0 = 0 then pc + 1 else pc) hp ha := by
  have ht : (rPop r 5).toInt + (rPop r 1).toInt = (r 5).toInt + (r 1).toInt := by rw [rPop_out r (by decide) (by decide), rPop_out r (by decide) (by decide)]
  have he : rPop r 14 = 1 → r 14 = 1 := by rw [rPop_out r (by decide) (by decide)]; exact id
  unfold zTr at h
  rw [hn] at h
  split
  · exact zTv_cong (zTv_popP h (by assumption)) (rPop_n hW hn).1 (fun k hk => (rPop_at hW hn hk).1) (fun k hk => (rPop_at hW hn hk).2) ht he
  · exact zTv_cong (zTv_pop h) (rPop_n hW hn).1 (fun k hk => (rPop_at hW hn hk).1) (fun k hk => (rPop_at hW hn hk).2) ht he
theorem zBr_pop {r : Nat → Int32} (hW : zW r) {n : Nat} (hn : nU r = n + 1) : zBr (rPop r) ≤ zBr r := by
  unfold zBr
  rw [(rPop_n hW hn).1, hn, zcnt_shift]
  rw [zcnt_cong (p := fun k => decide (wE (rPop r) k = 3)) (q := fun k => decide (wE r (k + 1) = 3)) n (fun k hk => by rw [(rPop_at hW hn hk).2])]
  omega
theorem rSends_n {r : Nat → Int32} (h0 : 0 ≤ (r 19).toInt) (h1 : (r 19).toInt ≤ 599) (w v : Int32) : nU (rSends r w v) = nU r + 1 := by
  have e2 : (r 19 + 1).toInt = (r 19).toInt + 1 := ixs (k := 1) rfl (by decide) (by omega) (by omega)
  show (rSends r w v 19).toNatClampNeg = (r 19).toNatClampNeg + 1
  unfold rSends rPut
  rw [zu_self, ncln, ncln, e2]
  omega
theorem rSends_at {r : Nat → Int32} (w v : Int32) : (∀ k, k < nU r → aE (rSends r w v) k = aE r k ∧ wE (rSends r w v) k = wE r k) ∧ aE (rSends r w v) (nU r) = (r 5 + r 1).toInt ∧ wE (rSends r w v) (nU r) = w := by
  refine ⟨fun k hk => ?_, ?_, ?_⟩
  · unfold nU at hk
    unfold aE wE rSends
    rw [rPut_out r (by omega) (by omega), rPut_out r (by omega) (by omega)]
    exact ⟨rfl, rfl⟩
  · unfold aE rSends rPut nU
    rw [zu_ne (by omega), zu_ne (by omega), zu_ne (by omega), zu_self]
  · unfold wE rSends rPut nU
    have e1 : 2964 + 3 * (r 19).toNatClampNeg = 2963 + 3 * (r 19).toNatClampNeg + 1 := by omega
    rw [e1, zu_ne (by omega), zu_ne (by omega), zu_self]
theorem rSends_out (r : Nat → Int32) {w v : Int32} {k : Nat} (h1 : k ≠ 19) (h2 : k < 2963) : rSends r w v k = r k := by
  unfold rSends
  exact rPut_out r h1 (by omega)
theorem zBr_sends {r : Nat → Int32} (h0 : 0 ≤ (r 19).toInt) (h1 : (r 19).toInt ≤ 599) (w v : Int32) : zBr (rSends r w v) = zBr r + (if w = 3 then 1 else 0) := by
  unfold zBr
  obtain ⟨a1, a2, a3⟩ := rSends_at (r := r) w v
  rw [rSends_n h0 h1, zcnt, zcnt_cong (p := fun k => decide (wE (rSends r w v) k = 3)) (q := fun k => decide (wE r k = 3)) (nU r) (fun k hk => by rw [(a1 k hk).2])]
  show _ + (if decide (wE (rSends r w v) (nU r) = 3) = true then 1 else 0) = _
  rw [a3]
  by_cases h : w = 3
  · simp [h]
  · simp [h]

/-! from 73.inv -/
/-! THE INVARIANT of the row; what a signal and a print do to it -/
theorem rClears_out (r : Nat → Int32) {k : Nat} (h : ¬ (11 ≤ k ∧ k ≤ 14)) : rClears r k = r k := by
  unfold rClears
  rw [zu_ne (by omega), zu_ne (by omega), zu_ne (by omega), zu_ne (by omega)]
theorem rEnds_out (r : Nat → Int32) {k : Nat} (h : ¬ (k = 6 ∨ k = 7 ∨ (9 ≤ k ∧ k ≤ 14) ∨ k = 19)) : rEnds r k = r k := by
  unfold rEnds
  rw [rClears_out _ (by omega), zu_ne (by omega), zu_ne (by omega), zu_ne (by omega), zu_ne (by omega), zu_ne (by omega)]
theorem rEnds_at (r : Nat → Int32) : rEnds r 6 = -1 ∧ rEnds r 7 = 0 ∧ rEnds r 9 = 0 ∧ rEnds r 10 = 0 ∧ (∀ k, (11 ≤ k ∧ k ≤ 14) ∨ k = 19 → rEnds r k = 0) := by
  refine ⟨?_, ?_, ?_, ?_, fun k hk => ?_⟩
  · simp only [rEnds, rClears, zu_ap, Nat.reduceEqDiff, if_true, if_false]
  · simp only [rEnds, rClears, zu_ap, Nat.reduceEqDiff, if_true, if_false]
  · simp only [rEnds, rClears, zu_ap, Nat.reduceEqDiff, if_true, if_false]
  · simp only [rEnds, rClears, zu_ap, Nat.reduceEqDiff, if_true, if_false]
  · rcases (show k = 11 ∨ k = 12 ∨ k = 13 ∨ k = 14 ∨ k = 19 by omega) with rfl | rfl | rfl | rfl | rfl <;> simp only [rEnds, rClears, zu_ap, Nat.reduceEqDiff, if_true, if_false]
theorem rDone_out (r : Nat → Int32) {q k : Nat} (h1 : k ≠ 27 + q) (h2 : k ≠ 10) : rDone r q k = r k := by
  unfold rDone
  rw [zu_ne h2, zu_ne h1]
theorem rBegins_out (r : Nat → Int32) {k : Nat} (h1 : k ≠ 7) (h2 : k ≠ 9) : rBegins r k = r k := by
  unfold rBegins
  rw [zu_ne h2, zu_ne h1]
/-- what signals and ends of lines do -/
def zSg (r r' : Nat → Int32) : Prop := (∀ k, ¬ (k = 6 ∨ k = 7 ∨ (9 ≤ k ∧ k ≤ 14) ∨ k = 18 ∨ k = 19 ∨ k = 27 ∨ k = 28 ∨ (99 ≤ k ∧ k < 219)) → r' k = r k) ∧ ((r' 6 = r 6 ∧ r' 7 = 0 ∧ r' 9 = 0 ∧ ∀ k, (11 ≤ k ∧ k ≤ 14) ∨ k = 19 → r' k = r k) ∨ (r' 6 = -1 ∧ r' 7 = 0 ∧ r' 9 = 0 ∧ r' 10 = 0 ∧ ∀ k, (11 ≤ k ∧ k ≤ 14) ∨ k = 19 → r' k = 0))
theorem zo_le {r : Nat → Int32} (h6 : r 6 = 0 ∨ r 6 = 1) : zo r ≤ 1 := by
  unfold zo
  rcases h6 with e | e <;> rw [e] <;> decide
theorem sg_lineDone {r : Nat → Int32} (h6 : r 6 = 0 ∨ r 6 = 1) (he : 0 ≤ (r 18).toInt ∧ (r 18).toInt ≤ 40) : zSg r (rLineDone r) := by
  have hz := zo_le h6
  unfold rLineDone
  split
  · have hb : 0 ≤ (rEnds (rDone r (zo r)) 18).toInt ∧ (rEnds (rDone r (zo r)) 18).toInt ≤ 40 := by rw [rEnds_out _ (by omega), rDone_out _ (by omega) (by omega)]; exact he
    obtain ⟨a1, a2, a3, a4, a5⟩ := rEnds_at (rDone r (zo r))
    refine ⟨fun k hk => ?_, Or.inr ⟨?_, ?_, ?_, ?_, fun k hk => ?_⟩⟩
    · rw [rNotes_out _ hb.1 hb.2 (by omega) (by omega), rEnds_out _ (by omega), rDone_out _ (by omega) (by omega)]
    · rw [rNotes_out _ hb.1 hb.2 (by omega) (by omega)]; exact a1
    · rw [rNotes_out _ hb.1 hb.2 (by omega) (by omega)]; exact a2
    · rw [rNotes_out _ hb.1 hb.2 (by omega) (by omega)]; exact a3
    · rw [rNotes_out _ hb.1 hb.2 (by omega) (by omega)]; exact a4
    · rw [rNotes_out _ hb.1 hb.2 (by omega) (by omega)]; exact a5 k hk
  · refine ⟨fun k hk => ?_, Or.inl ⟨?_, ?_, ?_, fun k hk => ?_⟩⟩
    · rw [rBegins_out _ (by omega) (by omega), rDone_out _ (by omega) (by omega)]
    · rw [rBegins_out _ (by omega) (by omega), rDone_out _ (by omega) (by omega)]
    · unfold rBegins; rw [zu_ne (by decide), zu_self]
    · unfold rBegins; rw [zu_self]
    · rw [rBegins_out _ (by omega) (by omega), rDone_out _ (by omega) (by omega)]
theorem sg_lineFailed {r : Nat → Int32} (h6 : r 6 = 0 ∨ r 6 = 1) (he : 0 ≤ (r 18).toInt ∧ (r 18).toInt ≤ 40) : zSg r (rLineFailed r) := by
  unfold rLineFailed
  split
  · have hk : ∀ k, k ≠ 18 → ¬ (99 ≤ k ∧ k < 219) → rNotes r 4 (r (27 + zo r)) k = r k := fun k h1 h2 => rNotes_out r he.1 he.2 h1 h2
    obtain ⟨s1, s2⟩ := sg_lineDone (r := rNotes r 4 (r (27 + zo r))) (by rw [hk 6 (by decide) (by decide)]; exact h6) (rNotes_18 r _ _ he.1 he.2)
    refine ⟨fun k h => (s1 k h).trans (hk k (by omega) (by omega)), ?_⟩
    rcases s2 with ⟨a1, a2, a3, a4⟩ | s2
    · exact Or.inl ⟨a1.trans (hk 6 (by decide) (by decide)), a2, a3, fun k h => (a4 k h).trans (hk k (by omega) (by omega))⟩
    · exact Or.inr s2
  · have ha : ∀ k, k ≠ 7 → k ≠ 9 → k ≠ 10 → rAgain r k = r k := fun k h1 h2 h3 => by unfold rAgain; rw [rBegins_out _ h1 h2, zu_ne h3]
    have hb : 0 ≤ (rAgain r 18).toInt ∧ (rAgain r 18).toInt ≤ 40 := by rw [ha 18 (by decide) (by decide) (by decide)]; exact he
    refine ⟨fun k hk => ?_, Or.inl ⟨?_, ?_, ?_, fun k hk => ?_⟩⟩
    · rw [rNotes_out _ hb.1 hb.2 (by omega) (by omega), ha k (by omega) (by omega) (by omega)]
    · rw [rNotes_out _ hb.1 hb.2 (by omega) (by omega), ha 6 (by omega) (by omega) (by omega)]
    · rw [rNotes_out _ hb.1 hb.2 (by omega) (by omega)]; unfold rAgain rBegins; rw [zu_ne (by decide), zu_self]
    · rw [rNotes_out _ hb.1 hb.2 (by omega) (by omega)]; unfold rAgain rBegins; rw [zu_self]
    · rw [rNotes_out _ hb.1 hb.2 (by omega) (by omega), ha k (by omega) (by omega) (by omega)]
theorem sg_breaks {r : Nat → Int32} (he : 0 ≤ (r 18).toInt ∧ (r 18).toInt ≤ 40) : zSg r (rBreaks r) := by
  have hb : 0 ≤ (rEnds r 18).toInt ∧ (rEnds r 18).toInt ≤ 40 := by rw [rEnds_out _ (by omega)]; exact he
  obtain ⟨a1, a2, a3, a4, a5⟩ := rEnds_at r
  unfold rBreaks
  refine ⟨fun k hk => ?_, Or.inr ⟨?_, ?_, ?_, ?_, fun k hk => ?_⟩⟩
  · rw [rNotes_out _ hb.1 hb.2 (by omega) (by omega), rEnds_out _ (by omega)]
  · rw [rNotes_out _ hb.1 hb.2 (by omega) (by omega)]; exact a1
  · rw [rNotes_out _ hb.1 hb.2 (by omega) (by omega)]; exact a2
  · rw [rNotes_out _ hb.1 hb.2 (by omega) (by omega)]; exact a3
  · rw [rNotes_out _ hb.1 hb.2 (by omega) (by omega)]; exact a4
  · rw [rNotes_out _ hb.1 hb.2 (by omega) (by omega)]; exact a5 k hk
/-- the buffer's characters -/
def hBuf (r : Nat → Int32) : Prop := ∀ k, k < (r 11).toNatClampNeg → 0 ≤ (r (59 + k)).toInt ∧ (r (59 + k)).toInt < 128
def zx (r : Nat → Int32) (cm : Int) : Prop :=
  (zact r → 0 ≤ (r 9).toInt ∧ (r 9).toInt < (rPath r (zLn r)).length) ∧ (0 ≤ (r 12).toInt ∧ (r 12).toInt ≤ cm) ∧ (r 13 = 0 ∨ r 13 = 1) ∧ (r 14 = 0 ∨ r 14 = 1) ∧
  (-500 * cm ≤ (r 37).toInt ∧ (r 37).toInt ≤ 500 * cm) ∧ (-500 * cm ≤ (r 38).toInt ∧ (r 38).toInt ≤ 500 * cm) ∧
  (r 6 = -1 → r 7 = 0 ∧ r 9 = 0 ∧ r 10 = 0 ∧ r 11 = 0 ∧ r 19 = 0) ∧ hBuf r ∧ zQp r
theorem zx_mono {r : Nat → Int32} {c c' : Int} (h : zx r c) (hc : c ≤ c') : zx r c' := by
  obtain ⟨h1, h2, h3, h4, h5, h6, h7, h8, h9⟩ := h
  exact ⟨h1, ⟨h2.1, by omega⟩, h3, h4, ⟨by omega, by omega⟩, ⟨by omega, by omega⟩, h7, h8, h9⟩
theorem zLn_lt {r : Nat → Int32} (hW : zW r) (h6 : ¬ r 6 = -1) : zLn r < 24 := by
  rcases zact_o hW h6 with h | h
  · rw [h.2.2.1]; have := h.2.2.2.1; omega
  · rw [h.2.2.1]; have := h.2.2.2.1; omega
theorem zLn_len {r : Nat → Int32} (hW : zW r) (h6 : ¬ r 6 = -1) : 2 ≤ (rPath r (zLn r)).length ∧ (rPath r (zLn r)).length ≤ 62 := rPath_len hW (zLn_lt hW h6)
theorem zSg_kp {r r' : Nat → Int32} (h : zSg r r') : zkp r r' := fun k hk => h.1 k (by omega)
theorem zSg_x {r r' : Nat → Int32} (s : zSg r r') (hr6 : r 6 = 0 ∨ r 6 = 1) (hW : zW r) (hW' : zW r') {cm : Int} (h0 : 0 ≤ cm) (h : zx r cm) : zx r' cm := by
  obtain ⟨h1, h2, h3, h4, h5, h6, h7, h8, h9⟩ := h
  have hkp := zSg_kp s
  obtain ⟨s1, s2⟩ := s
  have e9 : r' 9 = 0 := s2.elim (fun x => x.2.2.1) (fun x => x.2.2.1)
  have e11 : ∀ k, (11 ≤ k ∧ k ≤ 14) ∨ k = 19 → r' k = r k ∨ r' k = 0 := fun k hk => s2.elim (fun x => Or.inl (x.2.2.2 k hk)) (fun x => Or.inr (x.2.2.2.2 k hk))
  have z0 : (0 : Int32).toInt = 0 := rfl
  refine ⟨fun ha => ?_, ?_, ?_, ?_, ?_, ?_, fun e => ?_, fun k hk => ?_, h9.c hkp hW⟩
  · rw [e9]
    have := zLn_len hW' ha.1
    exact ⟨by decide, by rw [z0]; omega⟩
  · rcases e11 12 (by omega) with e | e
    · rw [e]; exact h2
    · rw [e]; exact ⟨by decide, by rw [z0]; exact h0⟩
  · rcases e11 13 (by omega) with e | e
    · rw [e]; exact h3
    · exact Or.inl e
  · rcases e11 14 (by omega) with e | e
    · rw [e]; exact h4
    · exact Or.inl e
  · rw [s1 37 (by omega)]; exact h5
  · rw [s1 38 (by omega)]; exact h6
  · rcases s2 with ⟨a1, a2, a3, a4⟩ | ⟨a1, a2, a3, a4, a5⟩
    · rw [a1] at e
      rcases hr6 with x | x <;> exact absurd (x.symm.trans e) (by decide)
    · exact ⟨a2, a3, a4, a5 11 (by omega), a5 19 (by omega)⟩
  · rw [s1 (59 + k) (by
      have := hW'.b
      have := ncl this.1
      omega)]
    rcases e11 11 (by omega) with e | e
    · rw [e] at hk; exact h8 k hk
    · rw [e] at hk; exact absurd hk (Nat.not_lt_zero k)
theorem zSg_e {r r' : Nat → Int32} (s : zSg r r') : (r' 19 = 0 ∧ r' 14 = 0) ∨ zTe r r' := by
  obtain ⟨s1, s2⟩ := s
  rcases s2 with ⟨a1, a2, a3, a4⟩ | ⟨a1, a2, a3, a4, a5⟩
  · refine Or.inr ⟨a4 19 (by omega), fun j hj => s1 _ (by omega), s1 5 (by omega), s1 1 (by omega), fun e => ?_⟩
    rw [a4 14 (by omega)] at e
    exact e
  · exact Or.inl ⟨a5 19 (by omega), a5 14 (by omega)⟩
/-- what a print does -/
theorem rPrinted_out (r : Nat → Int32) {q : Nat} (hq : q ≤ 1) (pos : Int32) {k : Nat} (h : ¬ (k = 21 + q ∨ k = 31 + q ∨ k = 33 + q ∨ k = 35 + q ∨ k = 37 + q)) : rPrinted r q pos k = r k := by
  unfold rPrinted
  have a1 : rPc (rTurned r q (pClamp (rOff r q) (r 2))) q (rOff r q) k = r k := by
    unfold rPc rTurned
    rw [zu_ne (by omega), zu_ne (by omega), zu_ne (by omega)]
  have a2 : rP2 (rPc (rTurned r q (pClamp (rOff r q) (r 2))) q (rOff r q)) q (pAbs (rOff r q)) k = r k := by
    unfold rP2
    split
    · exact a1
    · rw [zu_ne (by omega)]; exact a1
  generalize rP2 (rPc (rTurned r q (pClamp (rOff r q) (r 2))) q (rOff r q)) q (pAbs (rOff r q)) = r2 at a2 ⊢
  unfold rP3
  split
  · exact a2
  · rw [zu_ne (by omega)]; exact a2
theorem rPrinted_37 (r : Nat → Int32) {q : Nat} (hq : q ≤ 1) (pos : Int32) : rPrinted r q pos (37 + q) = r (37 + q) + rOff r q := by
  unfold rPrinted
  have a1 : rPc (rTurned r q (pClamp (rOff r q) (r 2))) q (rOff r q) (37 + q) = r (37 + q) + rOff r q := by
    unfold rPc rTurned
    rw [zu_self, zu_ne (by omega)]
  have a2 : rP2 (rPc (rTurned r q (pClamp (rOff r q) (r 2))) q (rOff r q)) q (pAbs (rOff r q)) (37 + q) = r (37 + q) + rOff r q := by
    unfold rP2
    split
    · exact a1
    · rw [zu_ne (by omega)]; exact a1
  generalize rP2 (rPc (rTurned r q (pClamp (rOff r q) (r 2))) q (rOff r q)) q (pAbs (rOff r q)) = r2 at a2 ⊢
  unfold rP3
  split
  · exact a2
  · rw [zu_ne (by omega)]; exact a2
theorem zfig_b : ∀ k, k < 26 → 0 ≤ ((zSbyt.getD 23 []).getD k 0).toInt ∧ ((zSbyt.getD 23 []).getD k 0).toInt < 128 := by decide +kernel
theorem zchr_b {p : Int32} (h0 : 2 ≤ p.toInt) (h1 : p.toInt < 28) (f : Bool) : 0 ≤ (zchr p f).toInt ∧ (zchr p f).toInt < 128 := by
  have e2 : (p - 2).toInt = p.toInt - 2 := nsub (b := 2) (by show _ ≤ p.toInt - 2; omega) (by show p.toInt - 2 < _; omega)
  unfold zchr
  cases f
  · have e3 : ((97 : Int32) + p).toInt = 97 + p.toInt := ixp (b := 97) rfl (by decide) (by omega) (by omega)
    have e4 : ((97 : Int32) + p - 2).toInt = 97 + p.toInt - 2 := by rw [nsub (b := 2) (by rw [e3]; show _ ≤ 97 + p.toInt - 2; omega) (by rw [e3]; show 97 + p.toInt - 2 < _; omega), e3]; rfl
    show 0 ≤ ((97 : Int32) + p - 2).toInt ∧ ((97 : Int32) + p - 2).toInt < 128
    omega
  · exact zfig_b _ (by rw [ncln]; omega)
theorem rMeans_A {r : Nat → Int32} {q : Nat} (hq : q ≤ 1) (hW : zW r) (p : Int32) (h14 : r 14 = 1) : ∃ s : Nat → Int32, ∃ w : Int32, (w = 1 ∨ w = 2) ∧ rMeans r q p = rClears (rSends s w 0) ∧ ∀ k, ¬ (k = 18 ∨ k = 29 ∨ k = 30 ∨ (99 ≤ k ∧ k < 219) ∨ (963 ≤ k ∧ k < 2963)) → s k = r k := by
  have hm := hW.mq (q := q) (by omega)
  unfold rMeans
  rw [if_pos h14]
  unfold rChecks
  split
  · have hb2 : ∀ x, 0 ≤ (rNotes r 1 x (29 + q)).toInt ∧ (rNotes r 1 x (29 + q)).toInt ≤ 1000 := fun x => by rw [rNotes_out r hW.e.1 hW.e.2 (by omega) (by omega)]; exact hm
    have hb3 := rRecvs_b (rNotes r 1 (r 11)) q (hb2 _).1 (hb2 _).2 (r 11).toNatClampNeg
    refine ⟨_, 1, Or.inl rfl, rfl, fun k hk => ?_⟩
    rw [rReceives_out _ q _ hb3.1 hb3.2 (by omega) (by omega), rRecvs_out _ q (hb2 _).1 (hb2 _).2 (by omega) (by omega), rNotes_out r hW.e.1 hW.e.2 (by omega) (by omega)]
  · refine ⟨_, 2, Or.inr rfl, rfl, fun k hk => ?_⟩
    rw [rNotes_out r hW.e.1 hW.e.2 (by omega) (by omega)]
theorem rMeans_B {r : Nat → Int32} {q : Nat} (hW : zW r) {p : Int32} (hp : 0 ≤ p.toInt ∧ p.toInt < 28) (h14 : ¬ r 14 = 1) (h13 : r 13 = 0 ∨ r 13 = 1) (h14' : r 14 = 0 ∨ r 14 = 1) (hb : hBuf r) : (∀ k, ¬ ((11 ≤ k ∧ k ≤ 14) ∨ (59 ≤ k ∧ k < 99)) → rMeans r q p k = r k) ∧ (rMeans r q p 12 = r 12 ∨ rMeans r q p 12 = r 12 + 1) ∧ (rMeans r q p 13 = 0 ∨ rMeans r q p 13 = 1) ∧ (rMeans r q p 14 = 0 ∨ rMeans r q p 14 = 1) ∧ hBuf (rMeans r q p) := by
  have h11 := hW.b
  have hc := ncl h11.1
  unfold rMeans
  rw [if_neg h14]
  split
  · refine ⟨fun k hk => zu_ne (by omega), Or.inl (zu_ne (by decide)), ?_, Or.inr (zu_self _ _ _), fun k hk => ?_⟩
    · rw [zu_ne (by decide)]; exact h13
    · rw [zu_ne (show 11 ≠ 14 by decide)] at hk
      rw [zu_ne (by omega)]; exact hb k hk
  · rename_i hns
    unfold rTake
    split
    · rename_i h2
      have hp2 : 2 ≤ p.toInt := by rw [nle] at h2; exact h2
      split
      · unfold rCount
        refine ⟨fun k hk => zu_ne (by omega), Or.inr (zu_self _ _ _), ?_, ?_, fun k hk => ?_⟩
        · rw [zu_ne (by decide)]; exact h13
        · rw [zu_ne (by decide)]; exact h14'
        · rw [zu_ne (show 11 ≠ 12 by decide)] at hk
          rw [zu_ne (by omega)]; exact hb k hk
      · rename_i h40
        have h39 : (r 11).toInt ≤ 39 := by
          rw [nle] at h40
          have : (40 : Int32).toInt = 40 := rfl
          omega
        have e1 : (r 11 + 1).toInt = (r 11).toInt + 1 := ixs (k := 1) rfl (by decide) (by omega) (by omega)
        have c1 : (r 11 + 1).toNatClampNeg = (r 11).toNatClampNeg + 1 := by rw [ncln, e1]; omega
        unfold rCount rLetter
        refine ⟨fun k hk => ?_, Or.inr ?_, ?_, ?_, fun k hk => ?_⟩
        · rw [zu_ne (by omega), zu_ne (by omega), zu_ne (by omega)]
        · rw [zu_self, zu_ne (show 12 ≠ 11 by decide), zu_ne (by omega)]
        · rw [zu_ne (by decide), zu_ne (by decide), zu_ne (by omega)]; exact h13
        · rw [zu_ne (by decide), zu_ne (by decide), zu_ne (by omega)]; exact h14'
        · rw [zu_ne (show 11 ≠ 12 by decide), zu_self, c1] at hk
          rw [zu_ne (by omega), zu_ne (by omega)]
          by_cases e : k = (r 11).toNatClampNeg
          · subst e; rw [zu_self]; exact zchr_b hp2 hp.2 _
          · rw [zu_ne (by omega)]; exact hb k (by omega)
    · rename_i h2
      have hp2 : ¬ 2 ≤ p.toInt := by rw [nle] at h2; exact h2
      unfold rCount
      refine ⟨fun k hk => ?_, Or.inr ?_, ?_, ?_, fun k hk => ?_⟩
      · rw [zu_ne (by omega), zu_ne (by omega)]
      · rw [zu_self, zu_ne (by decide)]
      · rw [zu_ne (by decide), zu_self]
        rcases (show p.toInt = 0 ∨ p.toInt = 1 by omega) with e | e
        · exact Or.inl (by rw [neq, e]; rfl)
        · exact Or.inr (by rw [neq, e]; rfl)
      · rw [zu_ne (by decide), zu_ne (by decide)]; exact h14'
      · rw [zu_ne (show 11 ≠ 12 by decide), zu_ne (show 11 ≠ 13 by decide)] at hk
        rw [zu_ne (by omega), zu_ne (by omega)]; exact hb k hk
theorem rOff_b {r : Nat → Int32} {q : Nat} (hN : 6 ≤ (r 0).toInt ∧ (r 0).toInt ≤ 28) (hP : 0 ≤ (r (21 + q)).toInt ∧ (r (21 + q)).toInt < 28000) : -500 ≤ (rOff r q).toInt ∧ (rOff r q).toInt ≤ 500 := by
  obtain ⟨e1, e2, e3⟩ := rPos_lt (q := q) hN hP
  have t1 : (1000 : Int32).toInt = 1000 := rfl
  have eN : (1000 * rNear r q).toInt = 1000 * (rNear r q).toInt := by rw [nmul (by rw [t1]; omega) (by rw [t1]; omega), t1]
  unfold rOff
  rw [nsub (by rw [eN]; omega) (by rw [eN]; omega), eN]
  omega
theorem zW.ph {r : Nat → Int32} (h : zW r) {q : Nat} (hq : q ≤ 1) : 0 ≤ (r (21 + q)).toInt ∧ (r (21 + q)).toInt < 28000 := by
  have hN := h.N
  have h0 := h.p0
  have h1 := h.p1
  rcases (show q = 0 ∨ q = 1 by omega) with rfl | rfl
  · exact ⟨h0.1, show (r 21).toInt < 28000 by omega⟩
  · exact ⟨h1.1, show (r 22).toInt < 28000 by omega⟩
theorem zx_prints {r : Nat → Int32} {q : Nat} (hq : q ≤ 1) (hW : zW r) (h19 : (r 19).toInt ≤ 599) {cm : Int} (h0 : 0 ≤ cm) (h200 : cm ≤ 200000) (hx : zx r cm) (h6 : ¬ r 6 = -1) (pos : Int32) {lo pc hp ha : Int} (hT : zTr r lo pc hp ha) (hlo : lo ≤ (r 5).toInt + (r 1).toInt) (hha : ha + 1 = (r 5).toInt + (r 1).toInt) : zx (rPrints r q pos) (cm + 1) ∧ zTr (rPrints r q pos) lo pc hp (ha + 1) ∧ zBr (rPrints r q pos) = zBr r ∧ rPrints r q pos 5 = r 5 ∧ rPrints r q pos 1 = r 1 ∧ ∀ k, k < nU (rPrints r q pos) → (k < nU r ∧ aE (rPrints r q pos) k = aE r k) ∨ aE (rPrints r q pos) k = (r 5).toInt + (r 1).toInt := by
  have hWr := zW_prints hW (q := q) (by omega) h19 pos
  have hkp := zkp_prints (r := r) (fun _ _ => rfl) (q := q) (by omega) hW pos
  obtain ⟨x1, x2, x3, x4, x5, x6, x7, x8, x9⟩ := hx
  have hob := rOff_b hW.N (hW.ph hq)
  have hd := hW.d
  have hT5 := hW.T
  have hu := hW.u
  have hcu := ncl hu.1
  have e51 : (r 5 + r 1).toInt = (r 5).toInt + (r 1).toInt := nadd (by omega) (by omega)
  have hS : ∀ k, ¬ (k = 15 ∨ k = 21 + q ∨ k = 31 + q ∨ k = 33 + q ∨ k = 35 + q ∨ k = 37 + q) → zu (rPrinted r q pos) 15 (rPrinted r q pos 5) k = r k := fun k hk => by
    rw [zu_ne (by omega)]; exact rPrinted_out r hq pos (by omega)
  have hS37 : zu (rPrinted r q pos) 15 (rPrinted r q pos 5) (37 + q) = r (37 + q) + rOff r q := by rw [zu_ne (by omega)]; exact rPrinted_37 r hq pos
  have hWS : zW (zu (rPrinted r q pos) 15 (rPrinted r q pos 5)) := zW_out (zW_printed hW (q := q) (by omega) pos).1 (nk (by omega)) _
  have hpp : 0 ≤ (rPos r q).toInt ∧ (rPos r q).toInt < 28 := by
    obtain ⟨e1, e2, e3⟩ := rPos_lt (q := q) hW.N (hW.ph hq)
    have hN := hW.N
    have m1 := Int.emod_nonneg (((r (21 + q)).toInt + 500) / 1000) (show (r 0).toInt ≠ 0 by omega)
    have m2 := Int.emod_lt_of_pos (((r (21 + q)).toInt + 500) / 1000) (show 0 < (r 0).toInt by omega)
    omega
  have s37 : ∀ k, k = 37 ∨ k = 38 → -500 * (cm + 1) ≤ (zu (rPrinted r q pos) 15 (rPrinted r q pos 5) k).toInt ∧ (zu (rPrinted r q pos) 15 (rPrinted r q pos 5) k).toInt ≤ 500 * (cm + 1) := by
    intro k hk
    have hr : -500 * cm ≤ (r k).toInt ∧ (r k).toInt ≤ 500 * cm := by
      rcases hk with rfl | rfl
      · exact x5
      · exact x6
    by_cases e : k = 37 + q
    · subst e
      rw [hS37, nadd (by omega) (by omega)]
      omega
    · rw [hS k (by omega)]
      omega
  unfold rPrints at hWr hkp ⊢
  generalize zu (rPrinted r q pos) 15 (rPrinted r q pos 5) = S at hS hWS s37 hWr hkp ⊢
  have e6 : S 6 = r 6 := hS 6 (by omega)
  have key : ∀ M : Nat → Int32, (∀ k, k ≤ 10 ∨ k = 27 ∨ k = 28 → M k = r k) → zkp r M → zact M → 0 ≤ (M 9).toInt ∧ (M 9).toInt < (rPath M (zLn M)).length := by
    intro M hM hk ha
    have ha' : zact r := ⟨by rw [← hM 6 (by omega)]; exact ha.1, by rw [← hM 7 (by omega)]; exact ha.2⟩
    have hz : zo M = zo r := by unfold zo; rw [hM 6 (by omega)]
    have hzl := zo_le (hW.h6 h6)
    have hL : zLn M = zLn r := by
      unfold zLn
      rw [hz, hM (27 + zo r) (by omega)]
    rw [hL, hk.path (zLn_lt hW h6) (hW.len _ (zLn_lt hW h6)).2, hM 9 (by omega)]
    exact x1 ha'
  by_cases h14 : S 14 = 1
  · obtain ⟨s, w, hw, eM, hs⟩ := rMeans_A hq hWS (rPos r q) h14
    have hsr : ∀ k, ¬ (k = 15 ∨ k = 18 ∨ (21 ≤ k ∧ k ≤ 22) ∨ (29 ≤ k ∧ k ≤ 38) ∨ (99 ≤ k ∧ k < 219) ∨ (963 ≤ k ∧ k < 2963)) → s k = r k := fun k hk => (hs k (by omega)).trans (hS k (by omega))
    have h14r : r 14 = 1 := by rw [← hS 14 (by omega)]; exact h14
    have ze : zTe r s := ⟨hsr 19 (by omega), fun j hj => hsr _ (by omega), hsr 5 (by omega), hsr 1 (by omega), fun _ => h14r⟩
    have e19 : s 19 = r 19 := hsr 19 (by omega)
    have hMk : ∀ k, ¬ ((11 ≤ k ∧ k ≤ 15) ∨ k = 18 ∨ k = 19 ∨ (21 ≤ k ∧ k ≤ 22) ∨ (29 ≤ k ∧ k ≤ 38) ∨ (99 ≤ k ∧ k < 219) ∨ 963 ≤ k) → rMeans S q (rPos r q) k = r k := fun k hk => by
      rw [eM, rClears_out _ (by omega), rSends_out _ (by omega) (by omega)]
      exact hsr k (by omega)
    have hM37 : ∀ k, k = 37 ∨ k = 38 → rMeans S q (rPos r q) k = S k := fun k hk => by
      rw [eM, rClears_out _ (by omega), rSends_out _ (by omega) (by omega)]
      exact hs k (by omega)
    have hMz : ∀ k, 11 ≤ k ∧ k ≤ 14 → rMeans S q (rPos r q) k = 0 := fun k hk => by
      rw [eM]
      rcases (show k = 11 ∨ k = 12 ∨ k = 13 ∨ k = 14 by omega) with rfl | rfl | rfl | rfl <;> simp only [rClears, zu_ap, Nat.reduceEqDiff, if_true, if_false]
    have z0 : (0 : Int32).toInt = 0 := rfl
    have hn1 : nU (rMeans S q (rPos r q)) = nU s + 1 := by
      rw [eM]
      show (rClears (rSends s w 0) 19).toNatClampNeg = _
      rw [rClears_out _ (by omega)]
      exact rSends_n (by rw [e19]; exact hu.1) (by rw [e19]; exact h19) w 0
    obtain ⟨t1, t2, t3⟩ := rSends_at (r := s) w 0
    have hat : ∀ k, aE (rMeans S q (rPos r q)) k = aE (rSends s w 0) k ∧ wE (rMeans S q (rPos r q)) k = wE (rSends s w 0) k := fun k => by
      rw [eM]
      unfold aE wE
      rw [rClears_out _ (by omega), rClears_out _ (by omega)]
      exact ⟨rfl, rfl⟩
    have hTs : zTr s lo pc hp ha := ze.T (by show (r 19).toNatClampNeg ≤ 600; omega) hT
    refine ⟨⟨fun a => key _ (fun k hk => hMk k (by omega)) hkp a, ?_, Or.inl (hMz 13 (by omega)), Or.inl (hMz 14 (by omega)), by rw [hM37 37 (by omega)]; exact s37 37 (by omega), by rw [hM37 38 (by omega)]; exact s37 38 (by omega), fun e => ?_, fun k hk => ?_, x9.c hkp hW⟩, ?_, ?_, hMk 5 (by omega), hMk 1 (by omega), fun k hk => ?_⟩
    · rw [hMz 12 (by omega), z0]; exact ⟨by omega, by omega⟩
    · rw [hMk 6 (by omega)] at e
      exact absurd e h6
    · rw [hMz 11 (by omega)] at hk
      exact absurd hk (Nat.not_lt_zero k)
    · have e5 : rMeans S q (rPos r q) 5 = r 5 := hMk 5 (by omega)
      have e1 : rMeans S q (rPos r q) 1 = r 1 := hMk 1 (by omega)
      unfold zTr at hTs ⊢
      rw [hn1, e5, e1]
      rw [hsr 5 (by omega), hsr 1 (by omega)] at hTs
      refine zTv_push hTs (fun k hk => (hat k).1.trans (t1 k hk).1) (fun k hk => (hat k).2.trans (t1 k hk).2) ?_ hlo (Int.le_refl _) (by omega) (fun e => ?_) (Or.inr (Or.inl ⟨?_, ?_, ?_, hha, by omega⟩))
      · rw [(hat _).1, t2, hsr 5 (by omega), hsr 1 (by omega)]; exact e51
      · rw [hMz 14 (by omega)] at e; exact absurd e (by decide)
      · rw [(hat _).2, t3]; exact hw
      · rw [hsr 14 (by omega)]; exact h14r
      · rw [hMz 14 (by omega)]; decide
    · have hb1 := zBr_sends (r := s) (by rw [e19]; exact hu.1) (by rw [e19]; exact h19) w 0
      have hw3 : ¬ w = 3 := by
        rcases hw with rfl | rfl <;> decide
      rw [if_neg hw3, ze.B (by show (r 19).toNatClampNeg ≤ 600; omega)] at hb1
      have : zBr (rMeans S q (rPos r q)) = zBr (rSends s w 0) := by
        unfold zBr
        rw [hn1, rSends_n (by rw [e19]; exact hu.1) (by rw [e19]; exact h19) w 0]
        exact zcnt_cong _ (fun k hk => by rw [(hat k).2])
      rw [this, hb1]
      rfl
    · rw [hn1] at hk
      rw [(hat k).1]
      by_cases hks : k < nU s
      · left
        rw [(t1 k hks).1]
        rw [ze.nn] at hks
        have hcu2 : nU r ≤ 600 := by show (r 19).toNatClampNeg ≤ 600; omega
        exact ⟨hks, (ze.el (by omega)).1⟩
      · right
        have : k = nU s := by omega
        subst this
        rw [t2, hsr 5 (by omega), hsr 1 (by omega)]; exact e51
  · obtain ⟨m1, m2, m3, m4, m5⟩ := rMeans_B (q := q) hWS hpp h14 (by rw [hS 13 (by omega)]; exact x3) (by rw [hS 14 (by omega)]; exact x4) (fun k hk => by
      rw [hS 11 (by omega)] at hk
      have := hW.b
      have := ncl this.1
      rw [hS (59 + k) (by omega)]; exact x8 k hk)
    have ze : zTe r (rMeans S q (rPos r q)) ∨ True := Or.inr trivial
    have hMk : ∀ k, ¬ ((11 ≤ k ∧ k ≤ 15) ∨ (21 ≤ k ∧ k ≤ 22) ∨ (31 ≤ k ∧ k ≤ 38) ∨ (59 ≤ k ∧ k < 99)) → rMeans S q (rPos r q) k = r k := fun k hk => (m1 k (by omega)).trans (hS k (by omega))
    have hn1 : nU (rMeans S q (rPos r q)) = nU r := by
      show (rMeans S q (rPos r q) 19).toNatClampNeg = _
      rw [hMk 19 (by omega)]
      rfl
    have hat : ∀ k, aE (rMeans S q (rPos r q)) k = aE r k ∧ wE (rMeans S q (rPos r q)) k = wE r k := fun k => by
      unfold aE wE
      rw [hMk _ (by omega), hMk _ (by omega)]
      exact ⟨rfl, rfl⟩
    have h12 : rMeans S q (rPos r q) 12 = r 12 ∨ rMeans S q (rPos r q) 12 = r 12 + 1 := by rw [hS 12 (by omega)] at m2; exact m2
    have h121 : (r 12 + 1).toInt = (r 12).toInt + 1 := ixs (k := 1) rfl (by decide) (by omega) (by omega)
    refine ⟨⟨fun a => key _ (fun k hk => hMk k (by omega)) hkp a, ?_, m3, m4, by rw [m1 37 (by omega)]; exact s37 37 (by omega), by rw [m1 38 (by omega)]; exact s37 38 (by omega), fun e => ?_, m5, x9.c hkp hW⟩, ?_, ?_, hMk 5 (by omega), hMk 1 (by omega), fun k hk => ?_⟩
    · rcases h12 with e | e
      · rw [e]; omega
      · rw [e, h121]; omega
    · rw [hMk 6 (by omega)] at e
      exact absurd e h6
    · have hT2 := hT
      obtain ⟨a1, a2, a3, a4, a5, a6, a7⟩ := hT2
      have hT3 : zTv (nU r) (aE r) (wE r) ((r 5).toInt + (r 1).toInt) lo pc hp (ha + 1) (rMeans S q (rPos r q) 14 = 1) := ⟨a1, a2, a3, a4, a5, fun k hk e => ⟨by have := (a6 k hk e).1; omega, fun _ => by have := (a6 k hk e).1; omega⟩, a7⟩
      exact zTv_cong hT3 hn1 (fun k hk => (hat k).1) (fun k hk => (hat k).2) (by rw [hMk 5 (by omega), hMk 1 (by omega)]) id
    · unfold zBr
      rw [hn1]
      exact zcnt_cong _ (fun k hk => by rw [(hat k).2])
    · rw [hn1] at hk
      exact Or.inl ⟨hk, (hat k).1⟩

