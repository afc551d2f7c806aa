/-! THE CLASS'S STEPS: a line's check, a pulse that arrives -/
theorem check_e {r : Nat → Int32} (hN : 6 ≤ (r 0).toInt ∧ (r 0).toInt ≤ 28) (h12 : 0 ≤ (r 12).toInt) : mI (r 12).toInt (r 0 - 2).toInt = r 12 - r 12 / (r 0 - 2) * (r 0 - 2) := by
  have e2 : (r 0 - 2).toInt = (r 0).toInt - 2 := nsub (b := 2) (by show _ ≤ (r 0).toInt - 2; omega) (by show (r 0).toInt - 2 < _; omega)
  rw [neq, mIt (by omega) (by omega), nrem h12 (by omega)]
theorem C_check26f {ln : Nat → Nat} {σ : zS} {b p : Nat} {f : Nat → Nat → Int32} {s0 s1 : Int64} {r : Nat → Int32} (S : zMs (gr σ) ln b) (gp : gr σ b 0 = some p) (hp : p + 127 ≤ b ∨ b + 16 ≤ p) (PL : zPl σ ln p r) (h : RR f s0 s1 r) (hW : zW r) (h19 : (r 19).toInt ≤ 599) {t : Nat} {Q : zS → Prop} (hq : ∀ f', RR f' s0 s1 (rClears (rSends (rNotes r 2 (r 12)) 2 0)) → Q (zcs σ b f' s0 s1)) : wX3_checkLine_26 ln Q b t 0 (zcs σ b f s0 s1) := by
  have S' := S
  obtain ⟨⟨m1, m2, m3, m4, m5, m6⟩, ⟨a1, a2, a3, a4, a5, a6, a7, a8, a9⟩, ⟨l1, l2, l3, l4, l5, l6⟩⟩ := S
  have f71 : f 7 1 = r 12 := h.2.2.2.1.1
  have f01 : f 0 1 = r 5 := h.1.1
  refine ⟨fun _ => ?_, fun h => absurd rfl h⟩
  simp only [gr_zcs, m5, m3, Option.some.injEq, exists_eq_left', gi_zcs_k σ b _ _ _ (show 7 < 16 by decide), f71, gi_zcs_b, f01, forall_eq]
  refine C_event S' h hW (c := 2) (v := r 12) rfl (fun f1 h1 => ?_)
  have e19 : rNotes r 2 (r 12) 19 = r 19 := rNotes_out r hW.e.1 hW.e.2 (by decide) (by decide)
  exact C_end0 S' gp hp (PL.c (zkp_notes (fun _ _ => rfl) hW.e) hW) h1 (zW_notes hW) (by rw [e19]; exact h19) false hq
theorem C_check0 {ln : Nat → Nat} {σ : zS} {b p : Nat} {f : Nat → Nat → Int32} {s0 s1 : Int64} {r : Nat → Int32} (S : zMs (gr σ) ln b) (gp : gr σ b 0 = some p) (hp : p + 127 ≤ b ∨ b + 16 ≤ p) (PL : zPl σ ln p r) (h : RR f s0 s1 r) (hW : zW r) (h19 : (r 19).toInt ≤ 599) (h12 : 0 ≤ (r 12).toInt) {pr : Int32} {Q : zS → Prop} (hq : ∀ f', RR f' s0 s1 (rChecks r 0 pr) → Q (zcs σ b f' s0 s1)) : wX3_checkLine ln (zcs σ b f s0 s1) b (b + 1) pr Q := by
  have S' := S
  obtain ⟨⟨m1, m2, m3, m4, m5, m6⟩, ⟨a1, a2, a3, a4, a5, a6, a7, a8, a9⟩, ⟨l1, l2, l3, l4, l5, l6⟩⟩ := S
  have PL' := PL
  obtain ⟨⟨pn, pdl, pg, prr⟩, -⟩ := PL'
  have hN := hW.N
  have f71 : f 7 1 = r 12 := h.2.2.2.1.1
  have gN : gi (zcs σ b f s0 s1) p 0 = r 0 := by rw [gi_zcs_o _ _ _ _ _ (by omega)]; exact pn
  have e2 : (r 0 - 2).toInt = (r 0).toInt - 2 := nsub (b := 2) (by show _ ≤ (r 0).toInt - 2; omega) (by show (r 0).toInt - 2 < _; omega)
  simp only [wX3_checkLine, gr_zcs, m3, gp, Option.some.injEq, exists_eq_left', gN, gi_zcs_k σ b _ _ _ (show 7 < 16 by decide), f71, wX11_checkPosition, forall_eq]
  refine wmodulo (by omega) ?_
  rw [check_e hN h12]
  unfold rChecks at hq
  refine ⟨fun hc => ?_, fun hc => ?_⟩
  · rw [if_pos hc] at hq
    refine ⟨fun h => absurd h (by decide), fun _ => ?_⟩
    simp only [gr_zcs, m3, a5, Option.some.injEq, exists_eq_left']
    have hb := hW.b
    have hm : (r 11).toNatClampNeg ≤ 40 := by have := ncl hb.1; omega
    have e11 : r 11 = nI (r 11).toNatClampNeg := by rw [neq, nI_toInt (by omega)]; exact (ncl hb.1).symm
    exact ⟨(r 11).toNatClampNeg + 1, C_check43_0 S' gp hp PL hW h19 hm e11 hq (r 11).toNatClampNeg 0 (by omega) f h⟩
  · rw [if_neg hc] at hq
    exact C_check26f S' gp hp PL h hW h19 hq
theorem C_check1 {ln : Nat → Nat} {σ : zS} {b p : Nat} {f : Nat → Nat → Int32} {s0 s1 : Int64} {r : Nat → Int32} (S : zMs (gr σ) ln b) (gp : gr σ b 0 = some p) (hp : p + 127 ≤ b ∨ b + 16 ≤ p) (PL : zPl σ ln p r) (h : RR f s0 s1 r) (hW : zW r) (h19 : (r 19).toInt ≤ 599) (h12 : 0 ≤ (r 12).toInt) {pr : Int32} {Q : zS → Prop} (hq : ∀ f', RR f' s0 s1 (rChecks r 1 pr) → Q (zcs σ b f' s0 s1)) : wX3_checkLine ln (zcs σ b f s0 s1) b (b + 4) pr Q := by
  have S' := S
  obtain ⟨⟨m1, m2, m3, m4, m5, m6⟩, ⟨a1, a2, a3, a4, a5, a6, a7, a8, a9⟩, ⟨l1, l2, l3, l4, l5, l6⟩⟩ := S
  have PL' := PL
  obtain ⟨⟨pn, pdl, pg, prr⟩, -⟩ := PL'
  have hN := hW.N
  have f71 : f 7 1 = r 12 := h.2.2.2.1.1
  have gN : gi (zcs σ b f s0 s1) p 0 = r 0 := by rw [gi_zcs_o _ _ _ _ _ (by omega)]; exact pn
  have e2 : (r 0 - 2).toInt = (r 0).toInt - 2 := nsub (b := 2) (by show _ ≤ (r 0).toInt - 2; omega) (by show (r 0).toInt - 2 < _; omega)
  simp only [wX3_checkLine, gr_zcs, m3, gp, Option.some.injEq, exists_eq_left', gN, gi_zcs_k σ b _ _ _ (show 7 < 16 by decide), f71, wX11_checkPosition, forall_eq]
  refine wmodulo (by omega) ?_
  rw [check_e hN h12]
  unfold rChecks at hq
  refine ⟨fun hc => ?_, fun hc => ?_⟩
  · rw [if_pos hc] at hq
    refine ⟨fun h => absurd h (by decide), fun _ => ?_⟩
    simp only [gr_zcs, m3, a5, Option.some.injEq, exists_eq_left']
    have hb := hW.b
    have hm : (r 11).toNatClampNeg ≤ 40 := by have := ncl hb.1; omega
    have e11 : r 11 = nI (r 11).toNatClampNeg := by rw [neq, nI_toInt (by omega)]; exact (ncl hb.1).symm
    exact ⟨(r 11).toNatClampNeg + 1, C_check43_1 S' gp hp PL hW h19 hm e11 hq (r 11).toNatClampNeg 0 (by omega) f h⟩
  · rw [if_neg hc] at hq
    exact C_check26f S' gp hp PL h hW h19 hq
theorem rPrinted_15 (r : Nat → Int32) {q : Nat} (hq : q ≤ 1) (x pos : Int32) : rPrinted (zu r 15 x) q pos = zu (rPrinted r q pos) 15 x ∧ rPos (zu r 15 x) q = rPos r q ∧ rOff (zu r 15 x) q = rOff r q ∧ rPrinted r q pos 5 = r 5 := by
  have e21 : zu r 15 x (21 + q) = r (21 + q) := zu_ne (by omega)
  have e0 : zu r 15 x 0 = r 0 := zu_ne (by decide)
  have e2 : zu r 15 x 2 = r 2 := zu_ne (by decide)
  have ep : rPos (zu r 15 x) q = rPos r q := by unfold rPos rNear; rw [e21, e0]
  have eo : rOff (zu r 15 x) q = rOff r q := by unfold rOff rNear; rw [e21]
  have h1 : rTurned (zu r 15 x) q (pClamp (rOff r q) (r 2)) = zu (rTurned r q (pClamp (rOff r q) (r 2))) 15 x := by
    unfold rTurned
    rw [e21, e0, zu_comm _ (by omega)]
  have h2 : ∀ r' : Nat → Int32, rPc (zu r' 15 x) q (rOff r q) = zu (rPc r' q (rOff r q)) 15 x := fun r' => by
    unfold rPc
    rw [zu_ne (show 31 + q ≠ 15 by omega), zu_ne (show 37 + q ≠ 15 by omega), zu_comm _ (show 15 ≠ 31 + q by omega), zu_comm _ (show 15 ≠ 37 + q by omega)]
  have h3 : ∀ r' : Nat → Int32, rP2 (zu r' 15 x) q (pAbs (rOff r q)) = zu (rP2 r' q (pAbs (rOff r q))) 15 x := fun r' => by
    unfold rP2
    rw [zu_ne (show 35 + q ≠ 15 by omega)]
    split
    · rfl
    · rw [zu_comm _ (show 15 ≠ 35 + q by omega)]
  have h4 : ∀ r' : Nat → Int32, rP3 (zu r' 15 x) q (rPos r q) pos = zu (rP3 r' q (rPos r q) pos) 15 x := fun r' => by
    unfold rP3
    rw [zu_ne (show 33 + q ≠ 15 by omega)]
    split
    · rfl
    · rw [zu_comm _ (show 15 ≠ 33 + q by omega)]
  have h5 : rPrinted r q pos 5 = r 5 := by
    have a1 : rPc (rTurned r q (pClamp (rOff r q) (r 2))) q (rOff r q) 5 = r 5 := by
      unfold rPc rTurned
      rw [zu_ne (by omega), zu_ne (by omega), zu_ne (by omega)]
    have a2 : rP2 (rPc (rTurned r q (pClamp (rOff r q) (r 2))) q (rOff r q)) q (pAbs (rOff r q)) 5 = r 5 := by
      unfold rP2
      split
      · exact a1
      · rw [zu_ne (by omega)]; exact a1
    unfold rPrinted
    generalize rP2 (rPc (rTurned r q (pClamp (rOff r q) (r 2))) q (rOff r q)) q (pAbs (rOff r q)) = r2 at a2 ⊢
    unfold rP3
    split
    · exact a2
    · rw [zu_ne (by omega)]; exact a2
  refine ⟨?_, ep, eo, h5⟩
  unfold rPrinted
  rw [ep, eo, e2, h1, h2, h3, h4]
theorem C_pulse50_0 {ln : Nat → Nat} {σ : zS} {b p : Nat} {f : Nat → Nat → Int32} {s0 s1 : Int64} {r : Nat → Int32} (S : zMs (gr σ) ln b) (gp : gr σ b 0 = some p) (hp : p + 127 ≤ b ∨ b + 16 ≤ p) (PL : zPl σ ln p r) (h : RR f s0 s1 r) (hW : zW r) (h19 : (r 19).toInt ≤ 599) (h12 : 0 ≤ (r 12).toInt) (h13 : r 13 = 0 ∨ r 13 = 1) {v : Int32} (hv : 0 ≤ v.toInt ∧ v.toInt < 28) {Q : zS → Prop} (hq : ∀ f', RR f' s0 s1 (rMeans r 0 v) → Q (zcs σ b f' s0 s1)) (h14 : r 14 = 0 ∨ r 14 = 1) : wX3_takePulse_50 ln Q b (b + 1) v (zcs σ b f s0 s1) := by
  have S' := S
  obtain ⟨⟨m1, m2, m3, m4, m5, m6⟩, ⟨a1, a2, a3, a4, a5, a6, a7, a8, a9⟩, ⟨l1, l2, l3, l4, l5, l6⟩⟩ := S
  have f73 : f 7 3 = r 14 := h.2.2.2.1.2.2.1
  unfold rMeans at hq
  simp only [wX3_takePulse_50, gr_zcs, m3, Option.some.injEq, exists_eq_left', gi_zcs_k σ b _ _ _ (show 7 < 16 by decide), f73]
  refine ⟨fun hc => ?_, fun hc => ?_⟩
  · rw [if_neg (by rw [hc]; decide)] at hq
    exact C_take S' gp hp PL h hW h13 hv hq
  · have h14' : r 14 = 1 := h14.elim (fun e => absurd e hc) id
    rw [if_pos h14'] at hq
    exact C_check0 S' gp hp PL h hW h19 h12 hq
theorem C_pulse0 {ln : Nat → Nat} {σ : zS} {b p : Nat} {f : Nat → Nat → Int32} {s0 s1 : Int64} {r : Nat → Int32} (S : zMs (gr σ) ln b) (gp : gr σ b 0 = some p) (hp : p + 127 ≤ b ∨ b + 16 ≤ p) (PL : zPl σ ln p r) (h : RR f s0 s1 r) (hW : zW r) (h6 : r 6 = 1) (h19 : (r 19).toInt ≤ 599) (h12 : 0 ≤ (r 12).toInt) (h13 : r 13 = 0 ∨ r 13 = 1) (h14 : r 14 = 0 ∨ r 14 = 1) (hsum : -2147483648 ≤ (r 37).toInt + (rOff r 0).toInt ∧ (r 37).toInt + (rOff r 0).toInt < 2147483648) {pos : Int32} {Q : zS → Prop} (hq : ∀ f' s0' s1', RR f' s0' s1' (rPrints r 0 pos) → Q (zcs σ b f' s0' s1')) : wX3_takePulse ln (zcs σ b f s0 s1) b pos Q := by
  have S' := S
  obtain ⟨⟨m1, m2, m3, m4, m5, m6⟩, ⟨a1, a2, a3, a4, a5, a6, a7, a8, a9⟩, ⟨l1, l2, l3, l4, l5, l6⟩⟩ := S
  have hN := hW.N
  have hP := hW.p0
  have f03 : f 0 3 = 1 := h.1.2.2.1.trans h6
  have f01 : f 0 1 = r 5 := h.1.1
  have h15 := RRs_15 h (r 5)
  have hW15 : zW (zu r 15 (r 5)) := zW_out hW (nk (by omega)) _
  have hk15 : zkp r (zu r 15 (r 5)) := zkp_zu (fun _ _ => rfl) (nsk (by omega)) _
  have PL15 := PL.c hk15 hW
  have PL' := PL
  obtain ⟨⟨pn, pdl, pg, prr⟩, -⟩ := PL'
  obtain ⟨q1, q2, q3, q4⟩ := rPrinted_15 r (q := 0) (by decide) (r 5) pos
  obtain ⟨e1, e2, e3⟩ := rPos_lt (q := 0) hN ⟨hP.1, show (r 21).toInt < 28000 by omega⟩
  have gN : gi (zcs σ b (zf f 0 8 (r 5)) s0 s1) p 0 = r 0 := by rw [gi_zcs_o _ _ _ _ _ (by omega)]; exact pn
  have g2 : zf f 0 8 (r 5) 0 2 = r 2 := by
    have : zf f 0 8 (r 5) 0 2 = f 0 2 := by simp only [zf_ap, if_true, Nat.reduceEqDiff, if_false]
    rw [this]; exact h.1.2.1
  have e1m : (1 : Int32) - 1 = 0 := by decide
  simp only [wX3_takePulse, gi_zcs_b, f03, e1m, forall_eq]
  refine ⟨fun h => absurd h (by decide), fun _ => ?_⟩
  simp only [gr_zcs, m1, Option.some.injEq, exists_eq_left', gi_zcs_b, f01, si_zcs_b, forall_eq, gp, gN, g2]
  have e15_2 : zu r 15 (r 5) 2 = r 2 := zu_ne (by decide)
  have e15_0 : zu r 15 (r 5) 0 = r 0 := zu_ne (by decide)
  have e15_37 : zu r 15 (r 5) 37 = r 37 := zu_ne (by decide)
  have hpr : rPrinted (zu r 15 (r 5)) 0 pos = rP3 (rP2 (rPc (rTurned (zu r 15 (r 5)) 0 (pClamp (rOff (zu r 15 (r 5)) 0) (zu r 15 (r 5) 2))) 0 (rOff (zu r 15 (r 5)) 0)) 0 (pAbs (rOff (zu r 15 (r 5)) 0))) 0 (rPos (zu r 15 (r 5)) 0) pos := rfl
  have hprt := C_print0 S' gp hp PL15 h15 hW15 (by rw [e15_37, q3]; exact hsum) (Q := fun r10 σ9 => ((r10 = pos → wX3_takePulse_50 ln Q b (b + 1) r10 σ9) ∧ (¬ r10 = pos → wX3_takePulse_50 ln Q b (b + 1) r10 (si σ9 (b + 1) 4 (gi σ9 (b + 1) 4 + 1)))))
  rw [e15_2, e15_0] at hprt
  refine hprt (fun f1 t0 t1 h1 => ?_)
  rw [q2]
  have hWp := zW_printed hW (q := 0) (by decide) pos
  have hWf : zW (zu (rPrinted r 0 pos) 15 (rPrinted r 0 pos 5)) := zW_out hWp.1 (nk (by omega)) _
  have hkf : zkp r (zu (rPrinted r 0 pos) 15 (rPrinted r 0 pos 5)) := zkp_zu (zkp_printed (fun _ _ => rfl) (by decide) pos) (nsk (by omega)) _
  have hkey : ∀ j, j = 12 ∨ j = 13 ∨ j = 14 → zu (rPrinted r 0 pos) 15 (rPrinted r 0 pos 5) j = r j := by
    intro j hj
    rw [zu_ne (by omega)]
    unfold rPrinted
    have a1 : rPc (rTurned r 0 (pClamp (rOff r 0) (r 2))) 0 (rOff r 0) j = r j := by
      unfold rPc rTurned
      rw [zu_ne (by omega), zu_ne (by omega), zu_ne (by omega)]
    have a2 : rP2 (rPc (rTurned r 0 (pClamp (rOff r 0) (r 2))) 0 (rOff r 0)) 0 (pAbs (rOff r 0)) j = r j := by
      unfold rP2
      split
      · exact a1
      · rw [zu_ne (by omega)]; exact a1
    generalize rP2 (rPc (rTurned r 0 (pClamp (rOff r 0) (r 2))) 0 (rOff r 0)) 0 (pAbs (rOff r 0)) = r2 at a2 ⊢
    unfold rP3
    split
    · exact a2
    · rw [zu_ne (by omega)]; exact a2
  have hv : 0 ≤ (rPos r 0).toInt ∧ (rPos r 0).toInt < 28 := by
    have m1 := Int.emod_nonneg (((r (21 + 0)).toInt + 500) / 1000) (show (r 0).toInt ≠ 0 by omega)
    have m2 := Int.emod_lt_of_pos (((r (21 + 0)).toInt + 500) / 1000) (show 0 < (r 0).toInt by omega)
    omega
  have fin : ∀ f2, RR f2 t0 t1 (zu (rPrinted r 0 pos) 15 (rPrinted r 0 pos 5)) → wX3_takePulse_50 ln Q b (b + 1) (rPos r 0) (zcs σ b f2 t0 t1) := by
    intro f2 h2
    refine C_pulse50_0 S' gp hp (PL.c hkf hW) h2 hWf (by rw [zu_ne (by decide), hWp.2.1]; exact h19) (by rw [hkey 12 (by omega)]; exact h12) (by rw [hkey 13 (by omega)]; exact h13) hv (fun f3 h3 => hq f3 t0 t1 h3) (by rw [hkey 14 (by omega)]; exact h14)
  rw [q4] at fin
  rw [← q1, hpr, q2] at fin
  unfold rP3 at fin
  refine ⟨fun hc => ?_, fun hc => ?_⟩
  · rw [if_pos hc] at fin
    exact fin f1 h1
  · rw [if_neg hc] at fin
    have f4 := h1.2.1.1.2.2.2.2.1
    have f4 : f1 1 4 = _ := f4
    simp only [gi_zcs_k σ b _ _ _ (show 1 < 16 by decide), si_zcs_k σ b _ _ _ (show 1 < 16 by decide), f4]
    exact fin _ (RRs_33 h1 _)
theorem C_pulse50_1 {ln : Nat → Nat} {σ : zS} {b p : Nat} {f : Nat → Nat → Int32} {s0 s1 : Int64} {r : Nat → Int32} (S : zMs (gr σ) ln b) (gp : gr σ b 0 = some p) (hp : p + 127 ≤ b ∨ b + 16 ≤ p) (PL : zPl σ ln p r) (h : RR f s0 s1 r) (hW : zW r) (h19 : (r 19).toInt ≤ 599) (h12 : 0 ≤ (r 12).toInt) (h13 : r 13 = 0 ∨ r 13 = 1) {v : Int32} (hv : 0 ≤ v.toInt ∧ v.toInt < 28) {Q : zS → Prop} (hq : ∀ f', RR f' s0 s1 (rMeans r 1 v) → Q (zcs σ b f' s0 s1)) (h14 : r 14 = 0 ∨ r 14 = 1) : wX3_takePulse_50 ln Q b (b + 4) v (zcs σ b f s0 s1) := by
  have S' := S
  obtain ⟨⟨m1, m2, m3, m4, m5, m6⟩, ⟨a1, a2, a3, a4, a5, a6, a7, a8, a9⟩, ⟨l1, l2, l3, l4, l5, l6⟩⟩ := S
  have f73 : f 7 3 = r 14 := h.2.2.2.1.2.2.1
  unfold rMeans at hq
  simp only [wX3_takePulse_50, gr_zcs, m3, Option.some.injEq, exists_eq_left', gi_zcs_k σ b _ _ _ (show 7 < 16 by decide), f73]
  refine ⟨fun hc => ?_, fun hc => ?_⟩
  · rw [if_neg (by rw [hc]; decide)] at hq
    exact C_take S' gp hp PL h hW h13 hv hq
  · have h14' : r 14 = 1 := h14.elim (fun e => absurd e hc) id
    rw [if_pos h14'] at hq
    exact C_check1 S' gp hp PL h hW h19 h12 hq
theorem C_pulse1 {ln : Nat → Nat} {σ : zS} {b p : Nat} {f : Nat → Nat → Int32} {s0 s1 : Int64} {r : Nat → Int32} (S : zMs (gr σ) ln b) (gp : gr σ b 0 = some p) (hp : p + 127 ≤ b ∨ b + 16 ≤ p) (PL : zPl σ ln p r) (h : RR f s0 s1 r) (hW : zW r) (h6 : r 6 = 0) (h19 : (r 19).toInt ≤ 599) (h12 : 0 ≤ (r 12).toInt) (h13 : r 13 = 0 ∨ r 13 = 1) (h14 : r 14 = 0 ∨ r 14 = 1) (hsum : -2147483648 ≤ (r 38).toInt + (rOff r 1).toInt ∧ (r 38).toInt + (rOff r 1).toInt < 2147483648) {pos : Int32} {Q : zS → Prop} (hq : ∀ f' s0' s1', RR f' s0' s1' (rPrints r 1 pos) → Q (zcs σ b f' s0' s1')) : wX3_takePulse ln (zcs σ b f s0 s1) b pos Q := by
  have S' := S
  obtain ⟨⟨m1, m2, m3, m4, m5, m6⟩, ⟨a1, a2, a3, a4, a5, a6, a7, a8, a9⟩, ⟨l1, l2, l3, l4, l5, l6⟩⟩ := S
  have hN := hW.N
  have hP := hW.p1
  have f03 : f 0 3 = 0 := h.1.2.2.1.trans h6
  have f01 : f 0 1 = r 5 := h.1.1
  have h15 := RRs_15 h (r 5)
  have hW15 : zW (zu r 15 (r 5)) := zW_out hW (nk (by omega)) _
  have hk15 : zkp r (zu r 15 (r 5)) := zkp_zu (fun _ _ => rfl) (nsk (by omega)) _
  have PL15 := PL.c hk15 hW
  have PL' := PL
  obtain ⟨⟨pn, pdl, pg, prr⟩, -⟩ := PL'
  obtain ⟨q1, q2, q3, q4⟩ := rPrinted_15 r (q := 1) (by decide) (r 5) pos
  obtain ⟨e1, e2, e3⟩ := rPos_lt (q := 1) hN ⟨hP.1, show (r 22).toInt < 28000 by omega⟩
  have gN : gi (zcs σ b (zf f 0 8 (r 5)) s0 s1) p 0 = r 0 := by rw [gi_zcs_o _ _ _ _ _ (by omega)]; exact pn
  have g2 : zf f 0 8 (r 5) 0 2 = r 2 := by
    have : zf f 0 8 (r 5) 0 2 = f 0 2 := by simp only [zf_ap, if_true, Nat.reduceEqDiff, if_false]
    rw [this]; exact h.1.2.1
  have e1m : (1 : Int32) - 0 = 1 := by decide
  simp only [wX3_takePulse, gi_zcs_b, f03, e1m, forall_eq]
  refine ⟨fun _ => ?_, fun h => absurd rfl h⟩
  simp only [gr_zcs, m2, Option.some.injEq, exists_eq_left', gi_zcs_b, f01, si_zcs_b, forall_eq, gp, gN, g2]
  have e15_2 : zu r 15 (r 5) 2 = r 2 := zu_ne (by decide)
  have e15_0 : zu r 15 (r 5) 0 = r 0 := zu_ne (by decide)
  have e15_37 : zu r 15 (r 5) 38 = r 38 := zu_ne (by decide)
  have hpr : rPrinted (zu r 15 (r 5)) 1 pos = rP3 (rP2 (rPc (rTurned (zu r 15 (r 5)) 1 (pClamp (rOff (zu r 15 (r 5)) 1) (zu r 15 (r 5) 2))) 1 (rOff (zu r 15 (r 5)) 1)) 1 (pAbs (rOff (zu r 15 (r 5)) 1))) 1 (rPos (zu r 15 (r 5)) 1) pos := rfl
  have hprt := C_print1 S' gp hp PL15 h15 hW15 (by rw [e15_37, q3]; exact hsum) (Q := fun r10 σ9 => ((r10 = pos → wX3_takePulse_50 ln Q b (b + 4) r10 σ9) ∧ (¬ r10 = pos → wX3_takePulse_50 ln Q b (b + 4) r10 (si σ9 (b + 4) 4 (gi σ9 (b + 4) 4 + 1)))))
  rw [e15_2, e15_0] at hprt
  refine hprt (fun f1 t0 t1 h1 => ?_)
  rw [q2]
  have hWp := zW_printed hW (q := 1) (by decide) pos
  have hWf : zW (zu (rPrinted r 1 pos) 15 (rPrinted r 1 pos 5)) := zW_out hWp.1 (nk (by omega)) _
  have hkf : zkp r (zu (rPrinted r 1 pos) 15 (rPrinted r 1 pos 5)) := zkp_zu (zkp_printed (fun _ _ => rfl) (by decide) pos) (nsk (by omega)) _
  have hkey : ∀ j, j = 12 ∨ j = 13 ∨ j = 14 → zu (rPrinted r 1 pos) 15 (rPrinted r 1 pos 5) j = r j := by
    intro j hj
    rw [zu_ne (by omega)]
    unfold rPrinted
    have a1 : rPc (rTurned r 1 (pClamp (rOff r 1) (r 2))) 1 (rOff r 1) j = r j := by
      unfold rPc rTurned
      rw [zu_ne (by omega), zu_ne (by omega), zu_ne (by omega)]
    have a2 : rP2 (rPc (rTurned r 1 (pClamp (rOff r 1) (r 2))) 1 (rOff r 1)) 1 (pAbs (rOff r 1)) j = r j := by
      unfold rP2
      split
      · exact a1
      · rw [zu_ne (by omega)]; exact a1
    generalize rP2 (rPc (rTurned r 1 (pClamp (rOff r 1) (r 2))) 1 (rOff r 1)) 1 (pAbs (rOff r 1)) = r2 at a2 ⊢
    unfold rP3
    split
    · exact a2
    · rw [zu_ne (by omega)]; exact a2
  have hv : 0 ≤ (rPos r 1).toInt ∧ (rPos r 1).toInt < 28 := by
    have m1 := Int.emod_nonneg (((r (21 + 1)).toInt + 500) / 1000) (show (r 0).toInt ≠ 0 by omega)
    have m2 := Int.emod_lt_of_pos (((r (21 + 1)).toInt + 500) / 1000) (show 0 < (r 0).toInt by omega)
    omega
  have fin : ∀ f2, RR f2 t0 t1 (zu (rPrinted r 1 pos) 15 (rPrinted r 1 pos 5)) → wX3_takePulse_50 ln Q b (b + 4) (rPos r 1) (zcs σ b f2 t0 t1) := by
    intro f2 h2
    refine C_pulse50_1 S' gp hp (PL.c hkf hW) h2 hWf (by rw [zu_ne (by decide), hWp.2.1]; exact h19) (by rw [hkey 12 (by omega)]; exact h12) (by rw [hkey 13 (by omega)]; exact h13) hv (fun f3 h3 => hq f3 t0 t1 h3) (by rw [hkey 14 (by omega)]; exact h14)
  rw [q4] at fin
  rw [← q1, hpr, q2] at fin
  unfold rP3 at fin
  refine ⟨fun hc => ?_, fun hc => ?_⟩
  · rw [if_pos hc] at fin
    exact fin f1 h1
  · rw [if_neg hc] at fin
    have f4 := h1.2.1.2.2.2.2.2.1
    have f4 : f1 4 4 = _ := f4
    simp only [gi_zcs_k σ b _ _ _ (show 4 < 16 by decide), si_zcs_k σ b _ _ _ (show 4 < 16 by decide), f4]
    exact fin _ (RRs_34 h1 _)
