/-! BOUNDS OF THE ROW -/
def zW (r : Nat → Int32) : Prop := (6 ≤ (r 0).toInt ∧ (r 0).toInt ≤ 28) ∧ (1 ≤ (r 1).toInt ∧ (r 1).toInt ≤ 50) ∧ (0 ≤ (r 2).toInt ∧ (r 2).toInt ≤ 500) ∧ (1 ≤ (r 3).toInt ∧ (r 3).toInt ≤ 5000) ∧ (0 ≤ (r 4).toInt ∧ (r 4).toInt ≤ 9) ∧ (0 ≤ (r 5).toInt ∧ (r 5).toInt ≤ 110000) ∧ (r 6 = -1 ∨ r 6 = 0 ∨ r 6 = 1) ∧ (r 7 = 0 ∨ r 7 = 1) ∧ (0 ≤ (r 11).toInt ∧ (r 11).toInt ≤ 40) ∧ (0 ≤ (r 18).toInt ∧ (r 18).toInt ≤ 40) ∧ (0 ≤ (r 19).toInt ∧ (r 19).toInt ≤ 600) ∧ (0 ≤ (r 20).toInt ∧ (r 20).toInt ≤ 20) ∧ (0 ≤ (r 21).toInt ∧ (r 21).toInt < 1000 * (r 0).toInt) ∧ (10 ≤ (r 23).toInt ∧ (r 23).toInt ≤ 999) ∧ (0 ≤ (r 25).toInt ∧ (r 25).toInt ≤ 12) ∧ (0 ≤ (r 27).toInt ∧ (r 27).toInt ≤ (r 25).toInt) ∧ (0 ≤ (r 29).toInt ∧ (r 29).toInt ≤ 1000) ∧ (0 ≤ (r 22).toInt ∧ (r 22).toInt < 1000 * (r 0).toInt) ∧ (10 ≤ (r 24).toInt ∧ (r 24).toInt ≤ 999) ∧ (0 ≤ (r 26).toInt ∧ (r 26).toInt ≤ 12) ∧ (0 ≤ (r 28).toInt ∧ (r 28).toInt ≤ (r 26).toInt) ∧ (0 ≤ (r 30).toInt ∧ (r 30).toInt ≤ 1000) ∧ (r 6 = 0 → (r 27).toInt < (r 25).toInt) ∧ (r 6 = 1 → (r 28).toInt < (r 26).toInt) ∧ (∀ a, a < 24 → 0 ≤ (r (219 + a)).toInt ∧ (r (219 + a)).toInt ≤ 30)
theorem zW.N {r : Nat → Int32} (h : zW r) : (6 ≤ (r 0).toInt ∧ (r 0).toInt ≤ 28) := h.1
theorem zW.d {r : Nat → Int32} (h : zW r) : (1 ≤ (r 1).toInt ∧ (r 1).toInt ≤ 50) := h.2.1
theorem zW.c {r : Nat → Int32} (h : zW r) : (0 ≤ (r 2).toInt ∧ (r 2).toInt ≤ 500) := h.2.2.1
theorem zW.g {r : Nat → Int32} (h : zW r) : (1 ≤ (r 3).toInt ∧ (r 3).toInt ≤ 5000) := h.2.2.2.1
theorem zW.t {r : Nat → Int32} (h : zW r) : (0 ≤ (r 4).toInt ∧ (r 4).toInt ≤ 9) := h.2.2.2.2.1
theorem zW.T {r : Nat → Int32} (h : zW r) : (0 ≤ (r 5).toInt ∧ (r 5).toInt ≤ 110000) := h.2.2.2.2.2.1
theorem zW.s {r : Nat → Int32} (h : zW r) : (r 6 = -1 ∨ r 6 = 0 ∨ r 6 = 1) := h.2.2.2.2.2.2.1
theorem zW.w {r : Nat → Int32} (h : zW r) : (r 7 = 0 ∨ r 7 = 1) := h.2.2.2.2.2.2.2.1
theorem zW.b {r : Nat → Int32} (h : zW r) : (0 ≤ (r 11).toInt ∧ (r 11).toInt ≤ 40) := h.2.2.2.2.2.2.2.2.1
theorem zW.e {r : Nat → Int32} (h : zW r) : (0 ≤ (r 18).toInt ∧ (r 18).toInt ≤ 40) := h.2.2.2.2.2.2.2.2.2.1
theorem zW.u {r : Nat → Int32} (h : zW r) : (0 ≤ (r 19).toInt ∧ (r 19).toInt ≤ 600) := h.2.2.2.2.2.2.2.2.2.2.1
theorem zW.l {r : Nat → Int32} (h : zW r) : (0 ≤ (r 20).toInt ∧ (r 20).toInt ≤ 20) := h.2.2.2.2.2.2.2.2.2.2.2.1
theorem zW.p0 {r : Nat → Int32} (h : zW r) : (0 ≤ (r 21).toInt ∧ (r 21).toInt < 1000 * (r 0).toInt) := h.2.2.2.2.2.2.2.2.2.2.2.2.1
theorem zW.r0 {r : Nat → Int32} (h : zW r) : (10 ≤ (r 23).toInt ∧ (r 23).toInt ≤ 999) := h.2.2.2.2.2.2.2.2.2.2.2.2.2.1
theorem zW.L0 {r : Nat → Int32} (h : zW r) : (0 ≤ (r 25).toInt ∧ (r 25).toInt ≤ 12) := h.2.2.2.2.2.2.2.2.2.2.2.2.2.2.1
theorem zW.D0 {r : Nat → Int32} (h : zW r) : (0 ≤ (r 27).toInt ∧ (r 27).toInt ≤ (r 25).toInt) := h.2.2.2.2.2.2.2.2.2.2.2.2.2.2.2.1
theorem zW.m0 {r : Nat → Int32} (h : zW r) : (0 ≤ (r 29).toInt ∧ (r 29).toInt ≤ 1000) := h.2.2.2.2.2.2.2.2.2.2.2.2.2.2.2.2.1
theorem zW.p1 {r : Nat → Int32} (h : zW r) : (0 ≤ (r 22).toInt ∧ (r 22).toInt < 1000 * (r 0).toInt) := h.2.2.2.2.2.2.2.2.2.2.2.2.2.2.2.2.2.1
theorem zW.r1 {r : Nat → Int32} (h : zW r) : (10 ≤ (r 24).toInt ∧ (r 24).toInt ≤ 999) := h.2.2.2.2.2.2.2.2.2.2.2.2.2.2.2.2.2.2.1
theorem zW.L1 {r : Nat → Int32} (h : zW r) : (0 ≤ (r 26).toInt ∧ (r 26).toInt ≤ 12) := h.2.2.2.2.2.2.2.2.2.2.2.2.2.2.2.2.2.2.2.1
theorem zW.D1 {r : Nat → Int32} (h : zW r) : (0 ≤ (r 28).toInt ∧ (r 28).toInt ≤ (r 26).toInt) := h.2.2.2.2.2.2.2.2.2.2.2.2.2.2.2.2.2.2.2.2.1
theorem zW.m1 {r : Nat → Int32} (h : zW r) : (0 ≤ (r 30).toInt ∧ (r 30).toInt ≤ 1000) := h.2.2.2.2.2.2.2.2.2.2.2.2.2.2.2.2.2.2.2.2.2.1
theorem zW.S0 {r : Nat → Int32} (h : zW r) : (r 6 = 0 → (r 27).toInt < (r 25).toInt) := h.2.2.2.2.2.2.2.2.2.2.2.2.2.2.2.2.2.2.2.2.2.2.1
theorem zW.S1 {r : Nat → Int32} (h : zW r) : (r 6 = 1 → (r 28).toInt < (r 26).toInt) := h.2.2.2.2.2.2.2.2.2.2.2.2.2.2.2.2.2.2.2.2.2.2.2.1
theorem zW.len {r : Nat → Int32} (h : zW r) : (∀ a, a < 24 → 0 ≤ (r (219 + a)).toInt ∧ (r (219 + a)).toInt ≤ 30) := h.2.2.2.2.2.2.2.2.2.2.2.2.2.2.2.2.2.2.2.2.2.2.2.2
def zkey (k : Nat) : Prop := k ≤ 7 ∨ k = 11 ∨ (18 ≤ k ∧ k ≤ 30) ∨ (219 ≤ k ∧ k < 243)
theorem zW_cong {r r' : Nat → Int32} (e : ∀ k, zkey k → r' k = r k) (h : zW r) : zW r' := by
  have el : ∀ a, a < 24 → r' (219 + a) = r (219 + a) := fun a ha => e _ (by unfold zkey; omega)
  have e0 := e 0 (by unfold zkey; omega)
  have e1 := e 1 (by unfold zkey; omega)
  have e2 := e 2 (by unfold zkey; omega)
  have e3 := e 3 (by unfold zkey; omega)
  have e4 := e 4 (by unfold zkey; omega)
  have e5 := e 5 (by unfold zkey; omega)
  have e6 := e 6 (by unfold zkey; omega)
  have e7 := e 7 (by unfold zkey; omega)
  have e11 := e 11 (by unfold zkey; omega)
  have e18 := e 18 (by unfold zkey; omega)
  have e19 := e 19 (by unfold zkey; omega)
  have e20 := e 20 (by unfold zkey; omega)
  have e21 := e 21 (by unfold zkey; omega)
  have e22 := e 22 (by unfold zkey; omega)
  have e23 := e 23 (by unfold zkey; omega)
  have e24 := e 24 (by unfold zkey; omega)
  have e25 := e 25 (by unfold zkey; omega)
  have e26 := e 26 (by unfold zkey; omega)
  have e27 := e 27 (by unfold zkey; omega)
  have e28 := e 28 (by unfold zkey; omega)
  have e29 := e 29 (by unfold zkey; omega)
  have e30 := e 30 (by unfold zkey; omega)
  obtain ⟨wN, wd, wc, wg, wt, wT, ws, ww, wb, we, wu, wl, wp0, wr0, wL0, wD0, wm0, wp1, wr1, wL1, wD1, wm1, wS0, wS1, wlen⟩ := h
  unfold zW
  rw [e0, e1, e2, e3, e4, e5, e6, e7, e11, e18, e19, e20, e21, e22, e23, e24, e25, e26, e27, e28, e29, e30]
  exact ⟨wN, wd, wc, wg, wt, wT, ws, ww, wb, we, wu, wl, wp0, wr0, wL0, wD0, wm0, wp1, wr1, wL1, wD1, wm1, wS0, wS1, fun a ha => by rw [el a ha]; exact wlen a ha⟩
theorem zW_out {r : Nat → Int32} (h : zW r) {k : Nat} (hk : ¬ zkey k) (v : Int32) : zW (zu r k v) := zW_cong (fun j hj => zu_ne (fun e => hk (e ▸ hj))) h
theorem zW_u5 {r : Nat → Int32} (h : zW r) {v : Int32} (hv : 0 ≤ v.toInt ∧ v.toInt ≤ 110000) : zW (zu r 5 v) := by
  obtain ⟨wN, wd, wc, wg, wt, wT, ws, ww, wb, we, wu, wl, wp0, wr0, wL0, wD0, wm0, wp1, wr1, wL1, wD1, wm1, wS0, wS1, wlen⟩ := h
  unfold zW
  simp only [zu_ap, Nat.reduceEqDiff, if_true, if_false]
  refine ⟨wN, wd, wc, wg, wt, hv, ws, ww, wb, we, wu, wl, wp0, wr0, wL0, wD0, wm0, wp1, wr1, wL1, wD1, wm1, wS0, wS1, fun a ha => ?_⟩
  have hne : ¬ 219 + a = 5 := by omega
  rw [if_neg hne]
  exact wlen a ha
theorem zW_u7 {r : Nat → Int32} (h : zW r) {v : Int32} (hv : v = 0 ∨ v = 1) : zW (zu r 7 v) := by
  obtain ⟨wN, wd, wc, wg, wt, wT, ws, ww, wb, we, wu, wl, wp0, wr0, wL0, wD0, wm0, wp1, wr1, wL1, wD1, wm1, wS0, wS1, wlen⟩ := h
  unfold zW
  simp only [zu_ap, Nat.reduceEqDiff, if_true, if_false]
  refine ⟨wN, wd, wc, wg, wt, wT, ws, hv, wb, we, wu, wl, wp0, wr0, wL0, wD0, wm0, wp1, wr1, wL1, wD1, wm1, wS0, wS1, fun a ha => ?_⟩
  have hne : ¬ 219 + a = 7 := by omega
  rw [if_neg hne]
  exact wlen a ha
theorem zW_u11 {r : Nat → Int32} (h : zW r) {v : Int32} (hv : 0 ≤ v.toInt ∧ v.toInt ≤ 40) : zW (zu r 11 v) := by
  obtain ⟨wN, wd, wc, wg, wt, wT, ws, ww, wb, we, wu, wl, wp0, wr0, wL0, wD0, wm0, wp1, wr1, wL1, wD1, wm1, wS0, wS1, wlen⟩ := h
  unfold zW
  simp only [zu_ap, Nat.reduceEqDiff, if_true, if_false]
  refine ⟨wN, wd, wc, wg, wt, wT, ws, ww, hv, we, wu, wl, wp0, wr0, wL0, wD0, wm0, wp1, wr1, wL1, wD1, wm1, wS0, wS1, fun a ha => ?_⟩
  have hne : ¬ 219 + a = 11 := by omega
  rw [if_neg hne]
  exact wlen a ha
theorem zW_u18 {r : Nat → Int32} (h : zW r) {v : Int32} (hv : 0 ≤ v.toInt ∧ v.toInt ≤ 40) : zW (zu r 18 v) := by
  obtain ⟨wN, wd, wc, wg, wt, wT, ws, ww, wb, we, wu, wl, wp0, wr0, wL0, wD0, wm0, wp1, wr1, wL1, wD1, wm1, wS0, wS1, wlen⟩ := h
  unfold zW
  simp only [zu_ap, Nat.reduceEqDiff, if_true, if_false]
  refine ⟨wN, wd, wc, wg, wt, wT, ws, ww, wb, hv, wu, wl, wp0, wr0, wL0, wD0, wm0, wp1, wr1, wL1, wD1, wm1, wS0, wS1, fun a ha => ?_⟩
  have hne : ¬ 219 + a = 18 := by omega
  rw [if_neg hne]
  exact wlen a ha
theorem zW_u19 {r : Nat → Int32} (h : zW r) {v : Int32} (hv : 0 ≤ v.toInt ∧ v.toInt ≤ 600) : zW (zu r 19 v) := by
  obtain ⟨wN, wd, wc, wg, wt, wT, ws, ww, wb, we, wu, wl, wp0, wr0, wL0, wD0, wm0, wp1, wr1, wL1, wD1, wm1, wS0, wS1, wlen⟩ := h
  unfold zW
  simp only [zu_ap, Nat.reduceEqDiff, if_true, if_false]
  refine ⟨wN, wd, wc, wg, wt, wT, ws, ww, wb, we, hv, wl, wp0, wr0, wL0, wD0, wm0, wp1, wr1, wL1, wD1, wm1, wS0, wS1, fun a ha => ?_⟩
  have hne : ¬ 219 + a = 19 := by omega
  rw [if_neg hne]
  exact wlen a ha
theorem zW_u20 {r : Nat → Int32} (h : zW r) {v : Int32} (hv : 0 ≤ v.toInt ∧ v.toInt ≤ 20) : zW (zu r 20 v) := by
  obtain ⟨wN, wd, wc, wg, wt, wT, ws, ww, wb, we, wu, wl, wp0, wr0, wL0, wD0, wm0, wp1, wr1, wL1, wD1, wm1, wS0, wS1, wlen⟩ := h
  unfold zW
  simp only [zu_ap, Nat.reduceEqDiff, if_true, if_false]
  refine ⟨wN, wd, wc, wg, wt, wT, ws, ww, wb, we, wu, hv, wp0, wr0, wL0, wD0, wm0, wp1, wr1, wL1, wD1, wm1, wS0, wS1, fun a ha => ?_⟩
  have hne : ¬ 219 + a = 20 := by omega
  rw [if_neg hne]
  exact wlen a ha
theorem zW_u2 {r : Nat → Int32} (h : zW r) {v : Int32} (hv : 0 ≤ v.toInt ∧ v.toInt ≤ 500) : zW (zu r 2 v) := by
  obtain ⟨wN, wd, wc, wg, wt, wT, ws, ww, wb, we, wu, wl, wp0, wr0, wL0, wD0, wm0, wp1, wr1, wL1, wD1, wm1, wS0, wS1, wlen⟩ := h
  unfold zW
  simp only [zu_ap, Nat.reduceEqDiff, if_true, if_false]
  refine ⟨wN, wd, hv, wg, wt, wT, ws, ww, wb, we, wu, wl, wp0, wr0, wL0, wD0, wm0, wp1, wr1, wL1, wD1, wm1, wS0, wS1, fun a ha => ?_⟩
  have hne : ¬ 219 + a = 2 := by omega
  rw [if_neg hne]
  exact wlen a ha
theorem zW_u6 {r : Nat → Int32} (h : zW r) {v : Int32} (hv : v = -1 ∨ v = 0 ∨ v = 1) (h0 : v = 0 → (r 27).toInt < (r 25).toInt) (h1 : v = 1 → (r 28).toInt < (r 26).toInt) : zW (zu r 6 v) := by
  obtain ⟨wN, wd, wc, wg, wt, wT, ws, ww, wb, we, wu, wl, wp0, wr0, wL0, wD0, wm0, wp1, wr1, wL1, wD1, wm1, wS0, wS1, wlen⟩ := h
  unfold zW
  simp only [zu_ap, Nat.reduceEqDiff, if_true, if_false]
  refine ⟨wN, wd, wc, wg, wt, wT, hv, ww, wb, we, wu, wl, wp0, wr0, wL0, wD0, wm0, wp1, wr1, wL1, wD1, wm1, h0, h1, fun a ha => ?_⟩
  have hne : ¬ 219 + a = 6 := by omega
  rw [if_neg hne]
  exact wlen a ha
theorem zW_u21 {r : Nat → Int32} (h : zW r) {v : Int32} (hv : 0 ≤ v.toInt ∧ v.toInt < 1000 * (r 0).toInt) : zW (zu r 21 v) := by
  obtain ⟨wN, wd, wc, wg, wt, wT, ws, ww, wb, we, wu, wl, wp0, wr0, wL0, wD0, wm0, wp1, wr1, wL1, wD1, wm1, wS0, wS1, wlen⟩ := h
  unfold zW
  simp only [zu_ap, Nat.reduceEqDiff, if_true, if_false]
  refine ⟨wN, wd, wc, wg, wt, wT, ws, ww, wb, we, wu, wl, hv, wr0, wL0, wD0, wm0, wp1, wr1, wL1, wD1, wm1, wS0, wS1, fun a ha => ?_⟩
  have hne : ¬ 219 + a = 21 := by omega
  rw [if_neg hne]
  exact wlen a ha
theorem zW_u23 {r : Nat → Int32} (h : zW r) {v : Int32} (hv : 10 ≤ v.toInt ∧ v.toInt ≤ 999) : zW (zu r 23 v) := by
  obtain ⟨wN, wd, wc, wg, wt, wT, ws, ww, wb, we, wu, wl, wp0, wr0, wL0, wD0, wm0, wp1, wr1, wL1, wD1, wm1, wS0, wS1, wlen⟩ := h
  unfold zW
  simp only [zu_ap, Nat.reduceEqDiff, if_true, if_false]
  refine ⟨wN, wd, wc, wg, wt, wT, ws, ww, wb, we, wu, wl, wp0, hv, wL0, wD0, wm0, wp1, wr1, wL1, wD1, wm1, wS0, wS1, fun a ha => ?_⟩
  have hne : ¬ 219 + a = 23 := by omega
  rw [if_neg hne]
  exact wlen a ha
theorem zW_u29 {r : Nat → Int32} (h : zW r) {v : Int32} (hv : 0 ≤ v.toInt ∧ v.toInt ≤ 1000) : zW (zu r 29 v) := by
  obtain ⟨wN, wd, wc, wg, wt, wT, ws, ww, wb, we, wu, wl, wp0, wr0, wL0, wD0, wm0, wp1, wr1, wL1, wD1, wm1, wS0, wS1, wlen⟩ := h
  unfold zW
  simp only [zu_ap, Nat.reduceEqDiff, if_true, if_false]
  refine ⟨wN, wd, wc, wg, wt, wT, ws, ww, wb, we, wu, wl, wp0, wr0, wL0, wD0, hv, wp1, wr1, wL1, wD1, wm1, wS0, wS1, fun a ha => ?_⟩
  have hne : ¬ 219 + a = 29 := by omega
  rw [if_neg hne]
  exact wlen a ha
theorem zW_u27 {r : Nat → Int32} (h : zW r) {v : Int32} (hv : 0 ≤ v.toInt ∧ v.toInt ≤ (r 25).toInt) (h0 : r 6 = 0 → v.toInt < (r 25).toInt) : zW (zu r 27 v) := by
  obtain ⟨wN, wd, wc, wg, wt, wT, ws, ww, wb, we, wu, wl, wp0, wr0, wL0, wD0, wm0, wp1, wr1, wL1, wD1, wm1, wS0, wS1, wlen⟩ := h
  unfold zW
  simp only [zu_ap, Nat.reduceEqDiff, if_true, if_false]
  refine ⟨wN, wd, wc, wg, wt, wT, ws, ww, wb, we, wu, wl, wp0, wr0, wL0, hv, wm0, wp1, wr1, wL1, wD1, wm1, h0, wS1, fun a ha => ?_⟩
  have hne : ¬ 219 + a = 27 := by omega
  rw [if_neg hne]
  exact wlen a ha
theorem zW_u22 {r : Nat → Int32} (h : zW r) {v : Int32} (hv : 0 ≤ v.toInt ∧ v.toInt < 1000 * (r 0).toInt) : zW (zu r 22 v) := by
  obtain ⟨wN, wd, wc, wg, wt, wT, ws, ww, wb, we, wu, wl, wp0, wr0, wL0, wD0, wm0, wp1, wr1, wL1, wD1, wm1, wS0, wS1, wlen⟩ := h
  unfold zW
  simp only [zu_ap, Nat.reduceEqDiff, if_true, if_false]
  refine ⟨wN, wd, wc, wg, wt, wT, ws, ww, wb, we, wu, wl, wp0, wr0, wL0, wD0, wm0, hv, wr1, wL1, wD1, wm1, wS0, wS1, fun a ha => ?_⟩
  have hne : ¬ 219 + a = 22 := by omega
  rw [if_neg hne]
  exact wlen a ha
theorem zW_u24 {r : Nat → Int32} (h : zW r) {v : Int32} (hv : 10 ≤ v.toInt ∧ v.toInt ≤ 999) : zW (zu r 24 v) := by
  obtain ⟨wN, wd, wc, wg, wt, wT, ws, ww, wb, we, wu, wl, wp0, wr0, wL0, wD0, wm0, wp1, wr1, wL1, wD1, wm1, wS0, wS1, wlen⟩ := h
  unfold zW
  simp only [zu_ap, Nat.reduceEqDiff, if_true, if_false]
  refine ⟨wN, wd, wc, wg, wt, wT, ws, ww, wb, we, wu, wl, wp0, wr0, wL0, wD0, wm0, wp1, hv, wL1, wD1, wm1, wS0, wS1, fun a ha => ?_⟩
  have hne : ¬ 219 + a = 24 := by omega
  rw [if_neg hne]
  exact wlen a ha
theorem zW_u30 {r : Nat → Int32} (h : zW r) {v : Int32} (hv : 0 ≤ v.toInt ∧ v.toInt ≤ 1000) : zW (zu r 30 v) := by
  obtain ⟨wN, wd, wc, wg, wt, wT, ws, ww, wb, we, wu, wl, wp0, wr0, wL0, wD0, wm0, wp1, wr1, wL1, wD1, wm1, wS0, wS1, wlen⟩ := h
  unfold zW
  simp only [zu_ap, Nat.reduceEqDiff, if_true, if_false]
  refine ⟨wN, wd, wc, wg, wt, wT, ws, ww, wb, we, wu, wl, wp0, wr0, wL0, wD0, wm0, wp1, wr1, wL1, wD1, hv, wS0, wS1, fun a ha => ?_⟩
  have hne : ¬ 219 + a = 30 := by omega
  rw [if_neg hne]
  exact wlen a ha
theorem zW_u28 {r : Nat → Int32} (h : zW r) {v : Int32} (hv : 0 ≤ v.toInt ∧ v.toInt ≤ (r 26).toInt) (h1 : r 6 = 1 → v.toInt < (r 26).toInt) : zW (zu r 28 v) := by
  obtain ⟨wN, wd, wc, wg, wt, wT, ws, ww, wb, we, wu, wl, wp0, wr0, wL0, wD0, wm0, wp1, wr1, wL1, wD1, wm1, wS0, wS1, wlen⟩ := h
  unfold zW
  simp only [zu_ap, Nat.reduceEqDiff, if_true, if_false]
  refine ⟨wN, wd, wc, wg, wt, wT, ws, ww, wb, we, wu, wl, wp0, wr0, wL0, wD0, wm0, wp1, wr1, wL1, hv, wm1, wS0, h1, fun a ha => ?_⟩
  have hne : ¬ 219 + a = 28 := by omega
  rw [if_neg hne]
  exact wlen a ha
theorem nk {k : Nat} (h : (8 ≤ k ∧ k ≤ 10) ∨ (12 ≤ k ∧ k ≤ 17) ∨ (31 ≤ k ∧ k < 219) ∨ 243 ≤ k) : ¬ zkey k := by unfold zkey; omega
theorem zW_clears {r : Nat → Int32} (h : zW r) : zW (rClears r) := zW_out (zW_out (zW_out (zW_u11 h (by decide)) (nk (by omega)) _) (nk (by omega)) _) (nk (by omega)) _
theorem zW_ends {r : Nat → Int32} (h : zW r) : zW (rEnds r) := zW_clears (zW_u19 (zW_out (zW_out (zW_u7 (zW_u6 h (Or.inl rfl) (fun h => absurd h (by decide)) (fun h => absurd h (by decide))) (Or.inl rfl)) (nk (by omega)) _) (nk (by omega)) _) (by decide))
theorem zW_begins {r : Nat → Int32} (h : zW r) : zW (rBegins r) := zW_out (zW_u7 h (Or.inl rfl)) (nk (by omega)) _
theorem zW_put {r : Nat → Int32} (h : zW r) {b cnt : Nat} (hb : b = 99 ∧ cnt = 18 ∨ b = 2963 ∧ cnt = 19) (h0 : 0 ≤ (r cnt).toInt) (h1 : (r cnt).toInt ≤ (if cnt = 18 then 39 else 599)) {x y z : Int32} : zW (rPut r b cnt x y z) := by
  have c0 := ncl h0
  unfold rPut
  rcases hb with ⟨rfl, rfl⟩ | ⟨rfl, rfl⟩
  · rw [if_pos rfl] at h1
    have e2 : (r 18 + 1).toInt = (r 18).toInt + 1 := ixs (k := 1) rfl (by decide) (by omega) (by omega)
    exact zW_u18 (zW_out (zW_out (zW_out h (nk (by omega)) _) (nk (by omega)) _) (nk (by omega)) _) (by omega)
  · rw [if_neg (by decide)] at h1
    have e2 : (r 19 + 1).toInt = (r 19).toInt + 1 := ixs (k := 1) rfl (by decide) (by omega) (by omega)
    exact zW_u19 (zW_out (zW_out (zW_out h (nk (by omega)) _) (nk (by omega)) _) (nk (by omega)) _) (by omega)
theorem zW_sends {r : Nat → Int32} (h : zW r) (h1 : (r 19).toInt ≤ 599) {x y : Int32} : zW (rSends r x y) := zW_put h (Or.inr ⟨rfl, rfl⟩) h.u.1 h1
theorem zW_notes {r : Nat → Int32} (h : zW r) {x y : Int32} : zW (rNotes r x y) := by
  have hu := h.e
  unfold rNotes
  split
  · have hc : zW (rCut r) := by
      unfold rCut
      refine zW_u18 (zW_cong (fun k hk => zcut_out r (by unfold zkey at hk; omega)) h) ?_
      have h40 : r 18 = 40 := by assumption
      rw [h40]
      decide
    have e : rCut r 18 = 39 := by
      unfold rCut
      rw [zu_self]
      have h40 : r 18 = 40 := by assumption
      rw [h40]
      decide
    exact zW_put hc (Or.inl ⟨rfl, rfl⟩) (by rw [e]; decide) (by rw [e]; decide)
  · have h9 : (r 18).toInt ≠ 40 := fun e => (by assumption : ¬ r 18 = 40) (by rw [neq, e]; rfl)
    exact zW_put h (Or.inl ⟨rfl, rfl⟩) hu.1 (by rw [if_pos rfl]; omega)
theorem zW_lineDone {r : Nat → Int32} (h : zW r) (h6 : r 6 = 0 ∨ r 6 = 1) : zW (rLineDone r) := by
  have hL0 := h.L0
  have hL1 := h.L1
  have hD0 := h.D0
  have hD1 := h.D1
  have hS0 := h.S0
  have hS1 := h.S1
  rcases h6 with h6 | h6
  · have hs := hS0 h6
    have e2 : (r 27 + 1).toInt = (r 27).toInt + 1 := ixs (k := 1) rfl (by decide) (by omega) (by omega)
    simp only [rLineDone, zo, rDone, h6, cq0, Nat.add_zero]
    split
    · have hd : zW (zu (zu (zu r 6 (-1)) 27 (r 27 + 1)) 10 0) := zW_out (zW_u27 (zW_u6 h (Or.inl rfl) (fun h => absurd h (by decide)) (fun h => absurd h (by decide))) (by simp only [zu_ap, Nat.reduceEqDiff, if_false]; omega) (fun h => absurd h (by simp only [zu_ap, if_true]; decide))) (nk (by omega)) _
      have he : rEnds (zu (zu r 27 (r 27 + 1)) 10 0) = rEnds (zu (zu (zu r 6 (-1)) 27 (r 27 + 1)) 10 0) := by
        funext j
        simp only [rEnds, rClears, zu_ap]
        by_cases h9 : j = 6
        · subst h9
          rfl
        · simp only [h9, if_false]
      rw [he]
      exact zW_notes (zW_ends hd)
    · rename_i hc
      rw [nle, e2] at hc
      exact zW_begins (zW_out (zW_u27 h (by omega) (fun _ => by omega)) (nk (by omega)) _)
  · have hs := hS1 h6
    have e2 : (r 28 + 1).toInt = (r 28).toInt + 1 := ixs (k := 1) rfl (by decide) (by omega) (by omega)
    simp only [rLineDone, zo, rDone, h6, cq1, Nat.reduceAdd]
    split
    · have hd : zW (zu (zu (zu r 6 (-1)) 28 (r 28 + 1)) 10 0) := zW_out (zW_u28 (zW_u6 h (Or.inl rfl) (fun h => absurd h (by decide)) (fun h => absurd h (by decide))) (by simp only [zu_ap, Nat.reduceEqDiff, if_false]; omega) (fun h => absurd h (by simp only [zu_ap, if_true]; decide))) (nk (by omega)) _
      have he : rEnds (zu (zu r 28 (r 28 + 1)) 10 0) = rEnds (zu (zu (zu r 6 (-1)) 28 (r 28 + 1)) 10 0) := by
        funext j
        simp only [rEnds, rClears, zu_ap]
        by_cases h9 : j = 6
        · subst h9
          rfl
        · simp only [h9, if_false]
      rw [he]
      exact zW_notes (zW_ends hd)
    · rename_i hc
      rw [nle, e2] at hc
      exact zW_begins (zW_out (zW_u28 h (by omega) (fun _ => by omega)) (nk (by omega)) _)
theorem zW_lineFailed {r : Nat → Int32} (h : zW r) (h6 : r 6 = 0 ∨ r 6 = 1) : zW (rLineFailed r) := by
  have hu := h.e
  unfold rLineFailed
  split
  · exact zW_lineDone (zW_notes h) (by rw [rNotes_out r hu.1 hu.2 (by decide) (by decide)]; exact h6)
  · exact zW_notes (zW_begins (zW_out h (nk (by omega)) _))
theorem zW_breaks {r : Nat → Int32} (h : zW r) : zW (rBreaks r) := zW_notes (zW_ends h)
theorem zW_answers {r : Nat → Int32} (h : zW r) (h6 : r 6 = 0 ∨ r 6 = 1) (b : Bool) : zW (rAnswers r b) := by
  unfold rAnswers
  split
  · exact h
  · split
    · exact zW_lineDone h h6
    · exact zW_lineFailed h h6
theorem zW.mq {r : Nat → Int32} (h : zW r) {q : Nat} (hq : q = 0 ∨ q = 1) : 0 ≤ (r (29 + q)).toInt ∧ (r (29 + q)).toInt ≤ 1000 := by
  rcases hq with rfl | rfl
  · exact h.m0
  · exact h.m1
theorem zW_receives {r : Nat → Int32} (h : zW r) {q : Nat} (hq : q = 0 ∨ q = 1) (c : Int32) : zW (rReceives r q c) := by
  have hm := h.mq hq
  have hb := rReceives_b r q c hm.1 hm.2
  unfold rReceives at hb ⊢
  split
  · exact h
  · rename_i hc
    rw [if_neg hc, zu_self] at hb
    rcases hq with rfl | rfl
    · exact zW_u29 (zW_out h (nk (by omega)) _) hb
    · exact zW_u30 (zW_out h (nk (by omega)) _) hb
theorem zW_recvs {r : Nat → Int32} (h : zW r) {q : Nat} (hq : q = 0 ∨ q = 1) : ∀ k, zW (rRecvs r q k)
  | 0 => h
  | k + 1 => zW_receives (zW_recvs h hq k) hq _
theorem zW_checks {r : Nat → Int32} (h : zW r) {q : Nat} (hq : q = 0 ∨ q = 1) (h19 : (r 19).toInt ≤ 599) (p : Int32) : zW (rChecks r q p) := by
  have hu := h.e
  have hn := fun x y : Int32 => rNotes_out r (x := x) (y := y) (j := 19) hu.1 hu.2 (by decide) (by decide)
  unfold rChecks
  split
  · have h2 := zW_recvs (zW_notes (x := 1) (y := r 11) h) hq (r 11).toNatClampNeg
    have hm := (zW_notes (x := 1) (y := r 11) h).mq hq
    have hb := rRecvs_b (rNotes r 1 (r 11)) q hm.1 hm.2 (r 11).toNatClampNeg
    refine zW_clears (zW_sends (zW_receives h2 hq 47) ?_)
    rw [rReceives_out _ q _ hb.1 hb.2 (by omega) (by omega), rRecvs_out _ q hm.1 hm.2 (by omega) (by omega), hn]
    exact h19
  · refine zW_clears (zW_sends (zW_notes h) ?_)
    rw [hn]
    exact h19
theorem zW_means {r : Nat → Int32} (h : zW r) {q : Nat} (hq : q = 0 ∨ q = 1) (h19 : (r 19).toInt ≤ 599) (p : Int32) : zW (rMeans r q p) := by
  have hb := h.b
  have c0 := ncl hb.1
  unfold rMeans
  split
  · exact zW_checks h hq h19 p
  · split
    · exact zW_out h (nk (by omega)) _
    · unfold rTake rCount rLetter
      split
      · split
        · exact zW_out h (nk (by omega)) _
        · rename_i h40
          rw [nle] at h40
          have t40 : (40 : Int32).toInt = 40 := rfl
          have e2 : (r 11 + 1).toInt = (r 11).toInt + 1 := ixs (k := 1) rfl (by decide) (by omega) (by omega)
          exact zW_out (zW_u11 (zW_out h (nk (by omega)) _) (by omega)) (nk (by omega)) _
      · exact zW_out (zW_out h (nk (by omega)) _) (nk (by omega)) _
theorem zW_printed {r : Nat → Int32} (h : zW r) {q : Nat} (hq : q = 0 ∨ q = 1) (pos : Int32) : zW (rPrinted r q pos) ∧ rPrinted r q pos 19 = r 19 ∧ rPrinted r q pos 6 = r 6 := by
  have hN := h.N
  have key : ∀ b : Int32, zW (rTurned r q b) ∧ rTurned r q b 19 = r 19 ∧ rTurned r q b 6 = r 6 := by
    intro b
    have hm : 0 ≤ (mI ((r (21 + q)).toInt - b.toInt) (1000 * (r 0).toInt)).toInt ∧ (mI ((r (21 + q)).toInt - b.toInt) (1000 * (r 0).toInt)).toInt < 1000 * (r 0).toInt := ⟨mI_lo (by omega) (by omega), mI_hi (by omega) (by omega)⟩
    unfold rTurned
    rcases hq with rfl | rfl
    · exact ⟨zW_u21 h hm, zu_ne (by decide), zu_ne (by decide)⟩
    · exact ⟨zW_u22 h hm, zu_ne (by decide), zu_ne (by decide)⟩
  obtain ⟨k1, k2, k3⟩ := key (pClamp (rOff r q) (r 2))
  unfold rPrinted
  generalize rTurned r q (pClamp (rOff r q) (r 2)) = r1 at k1 k2 k3
  have a1 : zW (rPc r1 q (rOff r q)) ∧ rPc r1 q (rOff r q) 19 = r 19 ∧ rPc r1 q (rOff r q) 6 = r 6 := by
    unfold rPc
    exact ⟨zW_out (zW_out k1 (nk (by omega)) _) (nk (by omega)) _, by rw [zu_ne (by omega), zu_ne (by omega)]; exact k2, by rw [zu_ne (by omega), zu_ne (by omega)]; exact k3⟩
  have a2 : zW (rP2 (rPc r1 q (rOff r q)) q (pAbs (rOff r q))) ∧ rP2 (rPc r1 q (rOff r q)) q (pAbs (rOff r q)) 19 = r 19 ∧ rP2 (rPc r1 q (rOff r q)) q (pAbs (rOff r q)) 6 = r 6 := by
    unfold rP2
    split
    · exact a1
    · exact ⟨zW_out a1.1 (nk (by omega)) _, by rw [zu_ne (by omega)]; exact a1.2.1, by rw [zu_ne (by omega)]; exact a1.2.2⟩
  generalize rP2 (rPc r1 q (rOff r q)) q (pAbs (rOff r q)) = r2 at a2 ⊢
  unfold rP3
  split
  · exact a2
  · exact ⟨zW_out a2.1 (nk (by omega)) _, by rw [zu_ne (by omega)]; exact a2.2.1, by rw [zu_ne (by omega)]; exact a2.2.2⟩
theorem zW_prints {r : Nat → Int32} (h : zW r) {q : Nat} (hq : q = 0 ∨ q = 1) (h19 : (r 19).toInt ≤ 599) (pos : Int32) : zW (rPrints r q pos) := by
  obtain ⟨k1, k2, -⟩ := zW_printed h hq pos
  exact zW_means (zW_out k1 (nk (by omega)) _) hq (by rw [zu_ne (by decide), k2]; exact h19) _
theorem zW.ho {r : Nat → Int32} (h6 : r 6 = 0 ∨ r 6 = 1) : ∃ q, (q = 0 ∨ q = 1) ∧ q = ((1 : Int32) - r 6).toNatClampNeg ∧ ((1 : Int32) - r 6 = 0 ∧ q = 0 ∨ (1 : Int32) - r 6 = 1 ∧ q = 1) := by
  rcases h6 with h | h
  · exact ⟨1, Or.inr rfl, by rw [h]; rfl, Or.inr ⟨by rw [h]; rfl, rfl⟩⟩
  · exact ⟨0, Or.inl rfl, by rw [h]; rfl, Or.inl ⟨by rw [h]; rfl, rfl⟩⟩
theorem zW.ok {r : Nat → Int32} (h : zW r) {q : Nat} (ho : (1 : Int32) - r 6 = 0 ∧ q = 0 ∨ (1 : Int32) - r 6 = 1 ∧ q = 1) (h19 : (r 19).toInt ≤ 599) : zOkM r q := ⟨ho, h.N, h.e, ⟨h.u.1, h19⟩, h.b, h.mq (by omega)⟩
