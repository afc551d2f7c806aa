/-! THE CLASS'S STEPS: ends of lines, signals -/
theorem zW_79 {r : Nat → Int32} (h : zW r) : zW (zu (zu r 7 0) 9 0) := zW_out (zW_u7 h (Or.inl rfl)) (nk (by omega)) _
theorem zkp_79 {r : Nat → Int32} : zkp r (zu (zu r 7 0) 9 0) := zkp_zu (zkp_zu (fun _ _ => rfl) (nsk (by omega)) _) (nsk (by omega)) _
def zg (g : Bool) : Int32 := if g then 1 else 0
theorem C_endLine0 {ln : Nat → Nat} {σ : zS} {b p : Nat} {f : Nat → Nat → Int32} {s0 s1 : Int64} {r : Nat → Int32} (S : zMs (gr σ) ln b) (gp : gr σ b 0 = some p) (hp : p + 127 ≤ b ∨ b + 16 ≤ p) (PL : zPl σ ln p r) (h : RR f s0 s1 r) (hW : zW r) (h6 : r 6 = 0) (g : Bool) {Q : zS → Prop} (hq : ∀ f', RR f' s0 s1 (if g then rLineDone r else rLineFailed r) → Q (zcs σ b f' s0 s1)) : wX3_endLine ln (zcs σ b f s0 s1) b (zg g) Q := by
  have S' := S
  obtain ⟨⟨m1, m2, m3, m4, m5, m6⟩, ⟨a1, a2, a3, a4, a5, a6, a7, a8, a9⟩, ⟨l1, l2, l3, l4, l5, l6⟩⟩ := S
  have PL' := PL
  obtain ⟨⟨pn, pdl, pg, pr⟩, ⟨pd0, pd1⟩, ⟨pc0, pc1⟩, -, -⟩ := PL'
  have ez : zo r = 0 := by unfold zo; rw [h6]; rfl
  have e03 : f 0 3 = 0 := h.1.2.2.1.trans h6
  have h1 := RRs_9 (RRs_7 h 0 (by decide)) 0
  have hW1 := zW_79 hW
  have PL1 := PL.c zkp_79 hW
  have h61 : zu (zu r 7 0) 9 0 6 = 0 := by rw [zu_ne (by decide), zu_ne (by decide)]; exact h6
  have hR10 : zf (zf f 0 4 0) 0 6 0 0 7 = r 10 := by
    have : zf (zf f 0 4 0) 0 6 0 0 7 = f 0 7 := by simp only [zf_ap, if_true, Nat.reduceEqDiff, if_false]
    rw [this]; exact h.1.2.2.2.2.2.2.1
  have hR1 : zf (zf f 0 4 0) 0 6 0 0 1 = r 5 := by
    have : zf (zf f 0 4 0) 0 6 0 0 1 = f 0 1 := by simp only [zf_ap, if_true, Nat.reduceEqDiff, if_false]
    rw [this]; exact h.1.1
  have hD : zf (zf f 0 4 0) 0 6 0 1 2 = r 27 := by
    have : zf (zf f 0 4 0) 0 6 0 1 2 = f 1 2 := by simp only [zf_ap, Nat.reduceEqDiff, if_false]
    rw [this]; exact h.2.1.1.2.2.1
  have gr4 : gi (zcs σ b (zf (zf f 0 4 0) 0 6 0) s0 s1) p 4 = r 4 := by rw [gi_zcs_o _ _ _ _ _ (by omega)]; exact pr
  have fin : ∀ {Q : zS → Prop}, (∀ f', RR f' s0 s1 (rLineDone r) → Q (zcs σ b f' s0 s1)) → wX3_endLine_84 ln Q b (b + 1) (zcs σ b (zf (zf f 0 4 0) 0 6 0) s0 s1) := by
    intro Q hq
    refine C_done0 S' gp hp PL1 h1 hW1 h61 (by rw [zu_ne (by decide), zu_self]) (by rw [zu_self]) (fun f' hf => ?_)
    rw [rLineDone_pre r (by rw [h6]; decide)] at hf
    exact hq f' hf
  simp only [wX3_endLine, gi_zcs_b, e03, forall_eq]
  refine ⟨fun h => absurd h (by decide), fun _ => ?_⟩
  simp only [gr_zcs, m1, Option.some.injEq, exists_eq_left', si_zcs_b, forall_eq]
  refine ⟨fun hg => ?_, fun hg => ?_⟩
  · have hgf : g = false := by
      cases g
      · rfl
      · exact absurd hg (by decide)
    subst hgf
    have hq : ∀ f', RR f' s0 s1 (rLineFailed r) → Q (zcs σ b f' s0 s1) := hq
    simp only [gr_zcs, gp, Option.some.injEq, exists_eq_left', gr4, gi_zcs_b, hR10, forall_eq]
    unfold rLineFailed at hq
    rw [ez] at hq
    refine ⟨fun hc => ?_, fun hc => ?_⟩
    · rw [if_pos hc] at hq
      refine ⟨fun _ => ?_, fun h => absurd rfl h⟩
      simp only [gr_zcs, m5, Option.some.injEq, exists_eq_left', gi_zcs_b, hR1, gi_zcs_k σ b _ s0 s1 (show 1 < 16 by decide), hD, forall_eq]
      have e5 : r 5 = zu (zu r 7 0) 9 0 5 := by rw [zu_ne (by decide), zu_ne (by decide)]
      refine C_event S' h1 hW1 (c := 4) (v := r 27) e5 (fun f3 h3 => ?_)
      have eN : rNotes (zu (zu r 7 0) 9 0) 4 (r 27) = zu (zu (rNotes r 4 (r 27)) 7 0) 9 0 := by
        rw [rNotes_zu _ (by rw [zu_ne (by decide)]; exact hW.e) (by decide) (by decide) (by decide), rNotes_zu _ hW.e (by decide) (by decide) (by decide)]
      have h6N : rNotes r 4 (r 27) 6 = 0 := (rNotes_out r hW.e.1 hW.e.2 (by decide) (by decide)).trans h6
      have hW3 := zW_notes (x := 4) (y := r 27) hW1
      have hk3 : zkp r (rNotes (zu (zu r 7 0) 9 0) 4 (r 27)) := zkp_notes zkp_79 hW1.e
      rw [eN] at h3 hW3 hk3
      refine C_done0 S' gp hp (PL.c hk3 hW) h3 hW3 (by rw [zu_ne (by decide), zu_ne (by decide)]; exact h6N) (by rw [zu_ne (by decide), zu_self]) (by rw [zu_self]) (fun f' hf => ?_)
      rw [rLineDone_pre _ (by rw [h6N]; decide)] at hf
      exact hq f' hf
    · rw [if_neg hc] at hq
      have h2 := RRs_10 h1 (r 10 + 1)
      rw [rLineFailed_again] at h2
      have hR1' : zf (zf (zf f 0 4 0) 0 6 0) 0 7 (r 10 + 1) 0 1 = r 5 := by
        have : zf (zf (zf f 0 4 0) 0 6 0) 0 7 (r 10 + 1) 0 1 = zf (zf f 0 4 0) 0 6 0 0 1 := by simp only [zf_ap, if_true, Nat.reduceEqDiff, if_false]
        rw [this]; exact hR1
      have hD' : zf (zf (zf f 0 4 0) 0 6 0) 0 7 (r 10 + 1) 1 2 = r 27 := by
        have : zf (zf (zf f 0 4 0) 0 6 0) 0 7 (r 10 + 1) 1 2 = zf (zf f 0 4 0) 0 6 0 1 2 := by simp only [zf_ap, Nat.reduceEqDiff, if_false]
        rw [this]; exact hD
      have hWa : zW (rAgain r) := zW_begins (zW_out hW (nk (by omega)) _)
      simp only [si_zcs_b, gr_zcs, m5, Option.some.injEq, exists_eq_left', gi_zcs_b, hR1', gi_zcs_k σ b _ s0 s1 (show 1 < 16 by decide), hD', forall_eq]
      have e5 : r 5 = rAgain r 5 := by unfold rAgain rBegins; rw [zu_ne (by decide), zu_ne (by decide), zu_ne (by decide)]
      exact C_event S' h2 hWa (c := 3) (v := r 27) e5 hq
  · have hgf : g = true := by
      cases g
      · exact absurd rfl hg
      · rfl
    subst hgf
    have hq : ∀ f', RR f' s0 s1 (rLineDone r) → Q (zcs σ b f' s0 s1) := hq
    exact ⟨fun h => absurd h (by decide), fun _ => fin hq⟩
theorem C_endLine1 {ln : Nat → Nat} {σ : zS} {b p : Nat} {f : Nat → Nat → Int32} {s0 s1 : Int64} {r : Nat → Int32} (S : zMs (gr σ) ln b) (gp : gr σ b 0 = some p) (hp : p + 127 ≤ b ∨ b + 16 ≤ p) (PL : zPl σ ln p r) (h : RR f s0 s1 r) (hW : zW r) (h6 : r 6 = 1) (g : Bool) {Q : zS → Prop} (hq : ∀ f', RR f' s0 s1 (if g then rLineDone r else rLineFailed r) → Q (zcs σ b f' s0 s1)) : wX3_endLine ln (zcs σ b f s0 s1) b (zg g) Q := by
  have S' := S
  obtain ⟨⟨m1, m2, m3, m4, m5, m6⟩, ⟨a1, a2, a3, a4, a5, a6, a7, a8, a9⟩, ⟨l1, l2, l3, l4, l5, l6⟩⟩ := S
  have PL' := PL
  obtain ⟨⟨pn, pdl, pg, pr⟩, ⟨pd0, pd1⟩, ⟨pc0, pc1⟩, -, -⟩ := PL'
  have ez : zo r = 1 := by unfold zo; rw [h6]; rfl
  have e03 : f 0 3 = 1 := h.1.2.2.1.trans h6
  have h1 := RRs_9 (RRs_7 h 0 (by decide)) 0
  have hW1 := zW_79 hW
  have PL1 := PL.c zkp_79 hW
  have h61 : zu (zu r 7 0) 9 0 6 = 1 := by rw [zu_ne (by decide), zu_ne (by decide)]; exact h6
  have hR10 : zf (zf f 0 4 0) 0 6 0 0 7 = r 10 := by
    have : zf (zf f 0 4 0) 0 6 0 0 7 = f 0 7 := by simp only [zf_ap, if_true, Nat.reduceEqDiff, if_false]
    rw [this]; exact h.1.2.2.2.2.2.2.1
  have hR1 : zf (zf f 0 4 0) 0 6 0 0 1 = r 5 := by
    have : zf (zf f 0 4 0) 0 6 0 0 1 = f 0 1 := by simp only [zf_ap, if_true, Nat.reduceEqDiff, if_false]
    rw [this]; exact h.1.1
  have hD : zf (zf f 0 4 0) 0 6 0 4 2 = r 28 := by
    have : zf (zf f 0 4 0) 0 6 0 4 2 = f 4 2 := by simp only [zf_ap, Nat.reduceEqDiff, if_false]
    rw [this]; exact h.2.1.2.2.2.1
  have gr4 : gi (zcs σ b (zf (zf f 0 4 0) 0 6 0) s0 s1) p 4 = r 4 := by rw [gi_zcs_o _ _ _ _ _ (by omega)]; exact pr
  have fin : ∀ {Q : zS → Prop}, (∀ f', RR f' s0 s1 (rLineDone r) → Q (zcs σ b f' s0 s1)) → wX3_endLine_84 ln Q b (b + 4) (zcs σ b (zf (zf f 0 4 0) 0 6 0) s0 s1) := by
    intro Q hq
    refine C_done1 S' gp hp PL1 h1 hW1 h61 (by rw [zu_ne (by decide), zu_self]) (by rw [zu_self]) (fun f' hf => ?_)
    rw [rLineDone_pre r (by rw [h6]; decide)] at hf
    exact hq f' hf
  simp only [wX3_endLine, gi_zcs_b, e03, forall_eq]
  refine ⟨fun _ => ?_, fun h => absurd rfl h⟩
  simp only [gr_zcs, m2, Option.some.injEq, exists_eq_left', si_zcs_b, forall_eq]
  refine ⟨fun hg => ?_, fun hg => ?_⟩
  · have hgf : g = false := by
      cases g
      · rfl
      · exact absurd hg (by decide)
    subst hgf
    have hq : ∀ f', RR f' s0 s1 (rLineFailed r) → Q (zcs σ b f' s0 s1) := hq
    simp only [gr_zcs, gp, Option.some.injEq, exists_eq_left', gr4, gi_zcs_b, hR10, forall_eq]
    unfold rLineFailed at hq
    rw [ez] at hq
    refine ⟨fun hc => ?_, fun hc => ?_⟩
    · rw [if_pos hc] at hq
      refine ⟨fun _ => ?_, fun h => absurd rfl h⟩
      simp only [gr_zcs, m5, Option.some.injEq, exists_eq_left', gi_zcs_b, hR1, gi_zcs_k σ b _ s0 s1 (show 4 < 16 by decide), hD, forall_eq]
      have e5 : r 5 = zu (zu r 7 0) 9 0 5 := by rw [zu_ne (by decide), zu_ne (by decide)]
      refine C_event S' h1 hW1 (c := 4) (v := r 28) e5 (fun f3 h3 => ?_)
      have eN : rNotes (zu (zu r 7 0) 9 0) 4 (r 28) = zu (zu (rNotes r 4 (r 28)) 7 0) 9 0 := by
        rw [rNotes_zu _ (by rw [zu_ne (by decide)]; exact hW.e) (by decide) (by decide) (by decide), rNotes_zu _ hW.e (by decide) (by decide) (by decide)]
      have h6N : rNotes r 4 (r 28) 6 = 1 := (rNotes_out r hW.e.1 hW.e.2 (by decide) (by decide)).trans h6
      have hW3 := zW_notes (x := 4) (y := r 28) hW1
      have hk3 : zkp r (rNotes (zu (zu r 7 0) 9 0) 4 (r 28)) := zkp_notes zkp_79 hW1.e
      rw [eN] at h3 hW3 hk3
      refine C_done1 S' gp hp (PL.c hk3 hW) h3 hW3 (by rw [zu_ne (by decide), zu_ne (by decide)]; exact h6N) (by rw [zu_ne (by decide), zu_self]) (by rw [zu_self]) (fun f' hf => ?_)
      rw [rLineDone_pre _ (by rw [h6N]; decide)] at hf
      exact hq f' hf
    · rw [if_neg hc] at hq
      have h2 := RRs_10 h1 (r 10 + 1)
      rw [rLineFailed_again] at h2
      have hR1' : zf (zf (zf f 0 4 0) 0 6 0) 0 7 (r 10 + 1) 0 1 = r 5 := by
        have : zf (zf (zf f 0 4 0) 0 6 0) 0 7 (r 10 + 1) 0 1 = zf (zf f 0 4 0) 0 6 0 0 1 := by simp only [zf_ap, if_true, Nat.reduceEqDiff, if_false]
        rw [this]; exact hR1
      have hD' : zf (zf (zf f 0 4 0) 0 6 0) 0 7 (r 10 + 1) 4 2 = r 28 := by
        have : zf (zf (zf f 0 4 0) 0 6 0) 0 7 (r 10 + 1) 4 2 = zf (zf f 0 4 0) 0 6 0 4 2 := by simp only [zf_ap, Nat.reduceEqDiff, if_false]
        rw [this]; exact hD
      have hWa : zW (rAgain r) := zW_begins (zW_out hW (nk (by omega)) _)
      simp only [si_zcs_b, gr_zcs, m5, Option.some.injEq, exists_eq_left', gi_zcs_b, hR1', gi_zcs_k σ b _ s0 s1 (show 4 < 16 by decide), hD', forall_eq]
      have e5 : r 5 = rAgain r 5 := by unfold rAgain rBegins; rw [zu_ne (by decide), zu_ne (by decide), zu_ne (by decide)]
      exact C_event S' h2 hWa (c := 3) (v := r 28) e5 hq
  · have hgf : g = true := by
      cases g
      · exact absurd rfl hg
      · rfl
    subst hgf
    have hq : ∀ f', RR f' s0 s1 (rLineDone r) → Q (zcs σ b f' s0 s1) := hq
    exact ⟨fun h => absurd h (by decide), fun _ => fin hq⟩
theorem C_endLine {ln : Nat → Nat} {σ : zS} {b p : Nat} {f : Nat → Nat → Int32} {s0 s1 : Int64} {r : Nat → Int32} (S : zMs (gr σ) ln b) (gp : gr σ b 0 = some p) (hp : p + 127 ≤ b ∨ b + 16 ≤ p) (PL : zPl σ ln p r) (h : RR f s0 s1 r) (hW : zW r) (h6 : r 6 = 0 ∨ r 6 = 1) (g : Bool) {Q : zS → Prop} (hq : ∀ f', RR f' s0 s1 (if g then rLineDone r else rLineFailed r) → Q (zcs σ b f' s0 s1)) : wX3_endLine ln (zcs σ b f s0 s1) b (zg g) Q := by
  rcases h6 with h6 | h6
  · exact C_endLine0 S gp hp PL h hW h6 g hq
  · exact C_endLine1 S gp hp PL h hW h6 g hq
/-- a signal of kind 1, 2 or 3 -/
def rSignal (r : Nat → Int32) (w : Int32) : Nat → Int32 := if w = 1 then rAnswers r true else if w = 2 then rAnswers r false else rBreaks r
theorem C_signal {ln : Nat → Nat} {σ : zS} {b p : Nat} {f : Nat → Nat → Int32} {s0 s1 : Int64} {r : Nat → Int32} (S : zMs (gr σ) ln b) (gp : gr σ b 0 = some p) (hp : p + 127 ≤ b ∨ b + 16 ≤ p) (PL : zPl σ ln p r) (h : RR f s0 s1 r) (hW : zW r) (h6 : r 6 = 0 ∨ r 6 = 1) {w : Int32} (hw : w = 1 ∨ w = 2 ∨ w = 3) {Q : zS → Prop} (hq : ∀ f', RR f' s0 s1 (rSignal r w) → Q (zcs σ b f' s0 s1)) : wX3_takeSignal ln (zcs σ b f s0 s1) b w Q := by
  have S' := S
  obtain ⟨⟨m1, m2, m3, m4, m5, m6⟩, ⟨a1, a2, a3, a4, a5, a6, a7, a8, a9⟩, ⟨l1, l2, l3, l4, l5, l6⟩⟩ := S
  have hRs := h.1
  have e04 : f 0 4 = r 7 := hRs.2.2.2.1
  have e01 : f 0 1 = r 5 := hRs.1
  have e03 : f 0 3 = r 6 := hRs.2.2.1
  have hA : ∀ g : Bool, (∀ f', RR f' s0 s1 (rAnswers r g) → Q (zcs σ b f' s0 s1)) → ((r 7 = 0 → Q (zcs σ b f s0 s1)) ∧ (¬ r 7 = 0 → wX3_endLine ln (zcs σ b f s0 s1) b (zg g) (fun σ1 => Q σ1))) := by
    intro g hq
    unfold rAnswers at hq
    refine ⟨fun hc => ?_, fun hc => ?_⟩
    · rw [if_pos hc] at hq
      exact hq f h
    · rw [if_neg hc] at hq
      exact C_endLine S' gp hp PL h hW h6 g hq
  unfold rSignal at hq
  simp only [wX3_takeSignal, wX3_takeSignal_53, gi_zcs_b, e04]
  rcases hw with rfl | rfl | rfl
  · rw [if_pos rfl] at hq
    have := hA true hq
    exact ⟨fun h => absurd h (by decide), fun _ => ⟨this.1, fun h7 => ⟨fun _ => this.2 h7, fun h => absurd rfl h⟩⟩⟩
  · rw [if_neg (by decide), if_pos rfl] at hq
    have := hA false hq
    exact ⟨fun h => absurd h (by decide), fun _ => ⟨this.1, fun h7 => ⟨fun h => absurd h (by decide), fun _ => this.2 h7⟩⟩⟩
  · rw [if_neg (by decide), if_neg (by decide)] at hq
    refine ⟨fun _ => ?_, fun h => absurd rfl h⟩
    have go : ∀ line : Int32, line = r (27 + zo r) → wX8_add ln (zcs σ b f s0 s1) (b + 12) (r 5) 5 line (fun σ9 => wX3_endTransmission ln σ9 b (fun σ10 => Q σ10)) := by
      intro line el
      subst el
      unfold rBreaks at hq
      rw [rNotes_ends _ hW.e] at hq
      refine C_event S' h hW rfl (fun f1 h1 => ?_)
      exact C_ends S' h1 (by rw [rNotes_out _ hW.e.1 hW.e.2 (by decide) (by decide)]; exact hW.b.1) hq
    simp only [gr_zcs, m5, Option.some.injEq, exists_eq_left', e03, forall_eq]
    rcases h6 with h6 | h6
    · have ez : zo r = 0 := by unfold zo; rw [h6]; rfl
      rw [h6]
      refine ⟨fun h => absurd h (by decide), fun _ => ?_⟩
      simp only [gr_zcs, m1, Option.some.injEq, exists_eq_left', gi_zcs_b, e01, gi_zcs_k σ b f s0 s1 (show 1 < 16 by decide), forall_eq]
      exact go _ (by rw [ez]; exact h.2.1.1.2.2.1)
    · have ez : zo r = 1 := by unfold zo; rw [h6]; rfl
      rw [h6]
      refine ⟨fun _ => ?_, fun h => absurd rfl h⟩
      simp only [gr_zcs, m2, Option.some.injEq, exists_eq_left', gi_zcs_b, e01, gi_zcs_k σ b f s0 s1 (show 4 < 16 by decide), forall_eq]
      exact go _ (by rw [ez]; exact h.2.1.2.2.2.1)
