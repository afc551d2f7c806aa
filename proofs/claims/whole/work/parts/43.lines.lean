/-! THE MODEL'S STEPS: lines, breaks, what is received -/
theorem ao21_0 : (21 : Int32) + 0 = 21 := by decide
theorem ao21_1 : (21 : Int32) + 1 = 22 := by decide
theorem ao23_0 : (23 : Int32) + 0 = 23 := by decide
theorem ao23_1 : (23 : Int32) + 1 = 24 := by decide
theorem ao25_0 : (25 : Int32) + 0 = 25 := by decide
theorem ao25_1 : (25 : Int32) + 1 = 26 := by decide
theorem ao27_0 : (27 : Int32) + 0 = 27 := by decide
theorem ao27_1 : (27 : Int32) + 1 = 28 := by decide
theorem ao29_0 : (29 : Int32) + 0 = 29 := by decide
theorem ao29_1 : (29 : Int32) + 1 = 30 := by decide
theorem ao31_0 : (31 : Int32) + 0 = 31 := by decide
theorem ao31_1 : (31 : Int32) + 1 = 32 := by decide
theorem ao33_0 : (33 : Int32) + 0 = 33 := by decide
theorem ao33_1 : (33 : Int32) + 1 = 34 := by decide
theorem ao35_0 : (35 : Int32) + 0 = 35 := by decide
theorem ao35_1 : (35 : Int32) + 1 = 36 := by decide
theorem ao37_0 : (37 : Int32) + 0 = 37 := by decide
theorem ao37_1 : (37 : Int32) + 1 = 38 := by decide
theorem vq27 : vp_in (27 : Int32) 4763 := nin (by decide) (by decide)
theorem cq27 : (27 : Int32).toNatClampNeg = 27 := rfl
theorem vq28 : vp_in (28 : Int32) 4763 := nin (by decide) (by decide)
theorem cq28 : (28 : Int32).toNatClampNeg = 28 := rfl
theorem vq29 : vp_in (29 : Int32) 4763 := nin (by decide) (by decide)
theorem cq29 : (29 : Int32).toNatClampNeg = 29 := rfl
theorem vq30 : vp_in (30 : Int32) 4763 := nin (by decide) (by decide)
theorem cq30 : (30 : Int32).toNatClampNeg = 30 := rfl
theorem vq31 : vp_in (31 : Int32) 4763 := nin (by decide) (by decide)
theorem cq31 : (31 : Int32).toNatClampNeg = 31 := rfl
theorem vq32 : vp_in (32 : Int32) 4763 := nin (by decide) (by decide)
theorem cq32 : (32 : Int32).toNatClampNeg = 32 := rfl
theorem vq35 : vp_in (35 : Int32) 4763 := nin (by decide) (by decide)
theorem cq35 : (35 : Int32).toNatClampNeg = 35 := rfl
theorem vq36 : vp_in (36 : Int32) 4763 := nin (by decide) (by decide)
theorem cq36 : (36 : Int32).toNatClampNeg = 36 := rfl
theorem vq37 : vp_in (37 : Int32) 4763 := nin (by decide) (by decide)
theorem cq37 : (37 : Int32).toNatClampNeg = 37 := rfl
theorem vq38 : vp_in (38 : Int32) 4763 := nin (by decide) (by decide)
theorem cq38 : (38 : Int32).toNatClampNeg = 38 := rfl
def zo (r : Nat → Int32) : Nat := (r 6).toNatClampNeg
def rDone (r : Nat → Int32) (o : Nat) : Nat → Int32 := zu (zu r (27 + o) (r (27 + o) + 1)) 10 0
def rLineDone (r : Nat → Int32) : Nat → Int32 := if r (25 + zo r) ≤ r (27 + zo r) + 1 then rNotes (rEnds (rDone r (zo r))) 6 (r 6) else rBegins (rDone r (zo r))
def rAgain (r : Nat → Int32) : Nat → Int32 := rBegins (zu r 10 (r 10 + 1))
def rLineFailed (r : Nat → Int32) : Nat → Int32 := if r 4 ≤ r 10 then rLineDone (rNotes r 4 (r (27 + zo r))) else rNotes (rAgain r) 3 (r (27 + zo r))
def rBreaks (r : Nat → Int32) : Nat → Int32 := rNotes (rEnds r) 5 (r (27 + zo r))
theorem rPut_out (r : Nat → Int32) {b cnt : Nat} {x y z : Int32} {j : Nat} (h1 : j ≠ cnt) (h2 : ¬ (b + 3 * (r cnt).toNatClampNeg ≤ j ∧ j < b + 3 * (r cnt).toNatClampNeg + 3)) : rPut r b cnt x y z j = r j := by
  unfold rPut
  rw [zu_ne h1, zu_ne (by omega), zu_ne (by omega), zu_ne (by omega)]
theorem rNotes_out (r : Nat → Int32) {x y : Int32} {j : Nat} (h0 : 0 ≤ (r 18).toInt) (hm : (r 18).toInt ≤ 40) (h1 : j ≠ 18) (h2 : ¬ (99 ≤ j ∧ j < 219)) : rNotes r x y j = r j := by
  have c0 := ncl h0
  unfold rNotes
  split
  · have e : (rCut r 18).toNatClampNeg = 39 := by
      unfold rCut
      rw [zu_self]
      have h : r 18 = 40 := by assumption
      rw [h]
      decide
    rw [rPut_out _ h1 (by rw [e]; omega)]
    unfold rCut
    rw [zu_ne h1, zcut_out _ (by omega)]
  · have h9 : (r 18).toInt ≠ 40 := fun e => (by assumption : ¬ r 18 = 40) (by rw [neq, e]; rfl)
    rw [rPut_out _ h1 (by omega)]
theorem m_lineDone {ln : Nat → Nat} {σ : zS} {r pf : Nat → Int32} {n far : Int32} (g1 : gr σ 455 1 = some 456) (l1 : ln 456 = 4763) (h6 : r 6 = 0 ∨ r 6 = 1) (h0 : 0 ≤ (r 18).toInt) (h1 : (r 18).toInt ≤ 40) {Q : zS → Prop} (hq : Q (zms σ (rLineDone r) pf n far)) : wX12_lineDone ln (zms σ r pf n far) 455 Q := by
  rcases h6 with h | h
  all_goals
    simp only [rLineDone, zo, rDone, h, cq0, cq1, Nat.add_zero, Nat.reduceAdd] at hq
    simp only [wX12_lineDone, h, gr_zms, g1, Option.some.injEq, exists_eq_left', l1, si_zms_q, gi_zms_q, forall_eq, true_and, vq6, cq6, vq10, cq10, ao21_0, ao21_1, ao23_0, ao23_1, ao25_0, ao25_1, ao27_0, ao27_1, ao29_0, ao29_1, ao31_0, ao31_1, ao33_0, ao33_1, ao35_0, ao35_1, ao37_0, ao37_1, vq21, cq21, vq22, cq22, vq23, cq23, vq24, cq24, vq25, cq25, vq26, cq26, vq27, cq27, vq28, cq28, vq29, cq29, vq30, cq30, vq31, cq31, vq32, cq32, vq33, cq33, vq34, cq34, vq35, cq35, vq36, cq36, vq37, cq37, vq38, cq38, zu_ap, Nat.reduceEqDiff, if_true, if_false, m_ends g1 l1, m_begins g1 l1]
    refine ⟨fun hc => ?_, fun hc => ?_⟩
    · rw [if_pos hc] at hq
      exact m_notes g1 l1 (by show 0 ≤ (rEnds _ 18).toInt; simp only [rEnds, rClears, zu_ap, Nat.reduceEqDiff, if_false]; exact h0) (by show (rEnds _ 18).toInt ≤ 40; simp only [rEnds, rClears, zu_ap, Nat.reduceEqDiff, if_false]; exact h1) hq
    · rw [if_neg hc] at hq
      exact hq
theorem rNotes_18 (r : Nat → Int32) (x y : Int32) (h0 : 0 ≤ (r 18).toInt) (hm : (r 18).toInt ≤ 40) : 0 ≤ (rNotes r x y 18).toInt ∧ (rNotes r x y 18).toInt ≤ 40 := by
  unfold rNotes
  split
  · have h : r 18 = 40 := by assumption
    have e : rPut (rCut r) 99 18 (r 5) x y 18 = 40 := by
      unfold rPut
      rw [zu_self]
      unfold rCut
      rw [zu_self, h]
      decide
    rw [e]
    decide
  · have h9 : (r 18).toInt ≠ 40 := fun e => (by assumption : ¬ r 18 = 40) (by rw [neq, e]; rfl)
    have e : rPut r 99 18 (r 5) x y 18 = r 18 + 1 := by unfold rPut; rw [zu_self]
    have e2 : (r 18 + 1).toInt = (r 18).toInt + 1 := ixs (k := 1) rfl (by decide) (by omega) (by omega)
    rw [e, e2]
    omega
theorem m_lineFailed {ln : Nat → Nat} {σ : zS} {r pf : Nat → Int32} {n far : Int32} (g1 : gr σ 455 1 = some 456) (l1 : ln 456 = 4763) (h6 : r 6 = 0 ∨ r 6 = 1) (h0 : 0 ≤ (r 18).toInt) (h1 : (r 18).toInt ≤ 40) {Q : zS → Prop} (hq : Q (zms σ (rLineFailed r) pf n far)) : wX12_lineFailed ln (zms σ r pf n far) 455 Q := by
  have hn : ∀ x y : Int32, rNotes r x y 6 = r 6 := fun x y => rNotes_out r h0 h1 (by decide) (by decide)
  have hb := rNotes_18 r 4 (r (27 + zo r)) h0 h1
  have ha : rAgain r 18 = r 18 := by simp only [rAgain, rBegins, zu_ap, Nat.reduceEqDiff, if_false]
  have hv : ∀ {Q' : zS → Prop}, Q' (zms σ (rLineFailed r) pf n far) → ((r 4 ≤ r 10 → wX12_notes ln (zms σ r pf n far) 455 4 (r (27 + zo r)) (fun σ11 => wX12_lineDone ln σ11 455 (fun σ12 => Q' σ12))) ∧ (¬ r 4 ≤ r 10 → wX12_notes ln (zms σ (rAgain r) pf n far) 455 3 (r (27 + zo r)) (fun σ19 => Q' σ19))) := by
    intro Q' hq
    unfold rLineFailed at hq
    refine ⟨fun hc => ?_, fun hc => ?_⟩
    · rw [if_pos hc] at hq
      exact m_notes g1 l1 h0 h1 (m_lineDone g1 l1 (by rw [hn]; exact h6) hb.1 hb.2 hq)
    · rw [if_neg hc] at hq
      exact m_notes g1 l1 (by rw [ha]; exact h0) (by rw [ha]; exact h1) hq
  have hw := hv hq
  rcases h6 with h | h
  all_goals
    simp only [zo, h, cq0, cq1, Nat.add_zero, Nat.reduceAdd, rAgain] at hw
    simp only [wX12_lineFailed, h, gr_zms, g1, Option.some.injEq, exists_eq_left', l1, si_zms_q, gi_zms_q, forall_eq, true_and, vq6, cq6, vq10, cq10, vq4, cq4, ao21_0, ao21_1, ao23_0, ao23_1, ao25_0, ao25_1, ao27_0, ao27_1, ao29_0, ao29_1, ao31_0, ao31_1, ao33_0, ao33_1, ao35_0, ao35_1, ao37_0, ao37_1, vq21, cq21, vq22, cq22, vq23, cq23, vq24, cq24, vq25, cq25, vq26, cq26, vq27, cq27, vq28, cq28, vq29, cq29, vq30, cq30, vq31, cq31, vq32, cq32, vq33, cq33, vq34, cq34, vq35, cq35, vq36, cq36, vq37, cq37, vq38, cq38, m_begins g1 l1]
    exact hw
theorem m_breaks {ln : Nat → Nat} {σ : zS} {r pf : Nat → Int32} {n far : Int32} (g1 : gr σ 455 1 = some 456) (l1 : ln 456 = 4763) (h6 : r 6 = 0 ∨ r 6 = 1) (h0 : 0 ≤ (r 18).toInt) (h1 : (r 18).toInt ≤ 40) {Q : zS → Prop} (hq : Q (zms σ (rBreaks r) pf n far)) : wX12_breaks ln (zms σ r pf n far) 455 Q := by
  have ha : rEnds r 18 = r 18 := by simp only [rEnds, rClears, zu_ap, Nat.reduceEqDiff, if_false]
  have hw := m_notes g1 l1 (r := rEnds r) (by rw [ha]; exact h0) (by rw [ha]; exact h1) hq
  rcases h6 with h | h
  all_goals
    simp only [zo, h, cq0, cq1, Nat.add_zero, Nat.reduceAdd] at hw
    simp only [wX12_breaks, h, gr_zms, g1, Option.some.injEq, exists_eq_left', l1, si_zms_q, gi_zms_q, forall_eq, true_and, vq6, cq6, ao21_0, ao21_1, ao23_0, ao23_1, ao25_0, ao25_1, ao27_0, ao27_1, ao29_0, ao29_1, ao31_0, ao31_1, ao33_0, ao33_1, ao35_0, ao35_1, ao37_0, ao37_1, vq21, cq21, vq22, cq22, vq23, cq23, vq24, cq24, vq25, cq25, vq26, cq26, vq27, cq27, vq28, cq28, vq29, cq29, vq30, cq30, vq31, cq31, vq32, cq32, vq33, cq33, vq34, cq34, vq35, cq35, vq36, cq36, vq37, cq37, vq38, cq38, m_ends g1 l1]
    exact hw
def rAnswers (r : Nat → Int32) (b : Bool) : Nat → Int32 := if r 7 = 0 then r else if b then rLineDone r else rLineFailed r
theorem m_answers {ln : Nat → Nat} {σ : zS} {r pf : Nat → Int32} {n far : Int32} (g1 : gr σ 455 1 = some 456) (l1 : ln 456 = 4763) (h6 : r 6 = 0 ∨ r 6 = 1) (h0 : 0 ≤ (r 18).toInt) (h1 : (r 18).toInt ≤ 40) {b : Bool} {Q : zS → Prop} (hq : Q (zms σ (rAnswers r b) pf n far)) : wX12_answers ln (zms σ r pf n far) 455 (if b then 1 else 0) Q := by
  unfold rAnswers at hq
  simp only [wX12_answers, gr_zms, g1, Option.some.injEq, exists_eq_left', l1, si_zms_q, gi_zms_q, forall_eq, true_and, vq7, cq7]
  refine ⟨fun hc => ?_, fun hc => ?_⟩
  · rw [if_pos hc] at hq
    exact hq
  · rw [if_neg hc] at hq
    cases b
    · exact ⟨fun _ => m_lineFailed g1 l1 h6 h0 h1 hq, fun h => absurd rfl h⟩
    · exact ⟨fun h => absurd h (by decide), fun _ => m_lineDone g1 l1 h6 h0 h1 hq⟩
