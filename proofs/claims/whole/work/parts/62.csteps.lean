/-! THE CLASS'S STEPS, over the relation -/
theorem zW.bn {r : Nat → Int32} (h : zW r) : (r 11).toNatClampNeg ≤ 40 ∧ (r 18).toNatClampNeg ≤ 40 ∧ (r 20).toNatClampNeg ≤ 20 ∧ (r (29 + 0)).toNatClampNeg ≤ 1000 ∧ (r (29 + 1)).toNatClampNeg ≤ 1000 ∧ (r 19).toNatClampNeg ≤ 600 := by
  have a := h.b
  have b := h.e
  have c := h.l
  have d := h.mq (q := 0) (Or.inl rfl)
  have e := h.mq (q := 1) (Or.inr rfl)
  have f := h.u
  simp only [ncln]
  omega
theorem rPut_e (r : Nat → Int32) {b cnt : Nat} (hc : cnt < b) (x y z : Int32) : (fun j => rPut r b cnt x y z (b + j)) = zu (zu (zu (fun j => r (b + j)) (3 * (r cnt).toNatClampNeg) x) (3 * (r cnt).toNatClampNeg + 1) y) (3 * (r cnt).toNatClampNeg + 2) z := by
  funext j
  unfold rPut
  rw [zu_ne (by omega)]
  by_cases e2 : j = 3 * (r cnt).toNatClampNeg + 2
  · subst e2; rw [zu_self, ← Nat.add_assoc, zu_self]
  · rw [zu_ne e2, zu_ne (by omega)]
    by_cases e1 : j = 3 * (r cnt).toNatClampNeg + 1
    · subst e1; rw [zu_self, ← Nat.add_assoc, zu_self]
    · rw [zu_ne e1, zu_ne (by omega)]
      by_cases e0 : j = 3 * (r cnt).toNatClampNeg
      · subst e0; rw [zu_self, zu_self]
      · rw [zu_ne e0, zu_ne (by omega)]
theorem C_tclear {ln : Nat → Nat} {σ : zS} {b : Nat} {f : Nat → Nat → Int32} {s0 s1 : Int64} {r : Nat → Int32} (h : RR f s0 s1 r) {Q : zS → Prop} (hq : ∀ f', RR f' s0 s1 (zu r 19 0) → Q (zcs σ b f' s0 s1)) : wX8_clear ln (zcs σ b f s0 s1) (b + 10) Q := by
  simp only [wX8_clear, forall_eq, si_zcs_k σ b _ s0 s1 (show 10 < 16 by decide)]
  refine hq _ ?_
  obtain ⟨h1, ⟨h2, h2'⟩, ⟨h3, h3'⟩, h4, h5, h6, h7, h8, h9⟩ := h
  have er : ∀ k, k ≠ 19 → zu r 19 0 k = r k := fun k hk => zu_ne hk
  have ef : ∀ k, k ≠ 10 → zf (zf f 10 2 0) 10 3 0 k = f k := fun k h1 => by rw [zf_ne h1, zf_ne h1]
  refine ⟨RS_c h1 (ef 0 (by omega)) (fun k hk => er k (by omega)), ⟨RO_c h2 (ef 1 (by omega)) (fun k hk => er k (by omega)), RO_c h2' (ef 4 (by omega)) (fun k hk => er k (by omega))⟩, ⟨RV_c h3 (ef 2 (by omega)) (ef 3 (by omega)) (er _ (by omega)) (fun k hk => er _ (by omega)), RV_c h3' (ef 5 (by omega)) (ef 6 (by omega)) (er _ (by omega)) (fun k hk => er _ (by omega))⟩, RB_c h4 (ef 7 (by omega)) (ef 8 (by omega)) (ef 9 (by omega)) (fun k hk => er k (by omega)) (fun k hk => er _ (by omega)), ?_, RE_c h6 (ef 12 (by omega)) (ef 13 (by omega)) (er _ (by omega)) (fun k hk => er _ (by omega)), RZ_c h7 (ef 14 (by omega)) (ef 15 (by omega)) (er _ (by omega)) (fun k hk => er _ (by omega)), by rw [er 37 (by omega)]; exact h8, by rw [er 38 (by omega)]; exact h9⟩
  unfold RT
  simp only [zf_ap, zu_ap, if_true, Nat.reduceEqDiff, if_false]
  exact ⟨h5.1, trivial, 0, by decide, rfl, fun k hk => absurd hk (Nat.not_lt_zero k)⟩
def rEnds0 (r : Nat → Int32) : Nat → Int32 := zu (zu (zu (zu r 6 (-1)) 7 0) 9 0) 10 0
theorem rEnds_e (r : Nat → Int32) : rEnds r = zu (rClears (rEnds0 r)) 19 0 := by
  funext j
  unfold rEnds rEnds0 rClears
  by_cases h : j = 19
  · subst h; simp only [zu_ap, if_true, Nat.reduceEqDiff, if_false]
  · simp only [zu_ap, h, if_false]
theorem C_ends {ln : Nat → Nat} {σ : zS} {b : Nat} {f : Nat → Nat → Int32} {s0 s1 : Int64} {r : Nat → Int32} (S : zMs (gr σ) ln b) (h : RR f s0 s1 r) (hb : 0 ≤ (r 11).toInt) {Q : zS → Prop} (hq : ∀ f', RR f' s0 s1 (rEnds r) → Q (zcs σ b f' s0 s1)) : wX3_endTransmission ln (zcs σ b f s0 s1) b Q := by
  have S' := S
  obtain ⟨⟨m1, m2, m3, m4, m5, m6⟩, ⟨a1, a2, a3, a4, a5, a6, a7, a8, a9⟩, ⟨l1, l2, l3, l4, l5, l6⟩⟩ := S
  simp only [wX3_endTransmission, forall_eq, si_zcs_b, gr_zcs, m3, Option.some.injEq, exists_eq_left']
  have hR : RR (zf (zf (zf (zf f 0 3 (-1)) 0 4 0) 0 6 0) 0 7 0) s0 s1 (rEnds0 r) := by
    obtain ⟨h1, ⟨h2, h2'⟩, ⟨h3, h3'⟩, h4, h5, h6, h7, h8, h9⟩ := h
    have er : ∀ k, k ≠ 6 → k ≠ 7 → k ≠ 9 → k ≠ 10 → rEnds0 r k = r k := fun k e1 e2 e3 e4 => by unfold rEnds0; rw [zu_ne e4, zu_ne e3, zu_ne e2, zu_ne e1]
    have ef : ∀ k, k ≠ 0 → zf (zf (zf (zf f 0 3 (-1)) 0 4 0) 0 6 0) 0 7 0 k = f k := fun k h1 => by rw [zf_ne h1, zf_ne h1, zf_ne h1, zf_ne h1]
    refine ⟨?_, ⟨RO_c h2 (ef 1 (by omega)) (fun k hk => er k (by omega) (by omega) (by omega) (by omega)), RO_c h2' (ef 4 (by omega)) (fun k hk => er k (by omega) (by omega) (by omega) (by omega))⟩, ⟨RV_c h3 (ef 2 (by omega)) (ef 3 (by omega)) (er _ (by omega) (by omega) (by omega) (by omega)) (fun k hk => er _ (by omega) (by omega) (by omega) (by omega)), RV_c h3' (ef 5 (by omega)) (ef 6 (by omega)) (er _ (by omega) (by omega) (by omega) (by omega)) (fun k hk => er _ (by omega) (by omega) (by omega) (by omega))⟩, RB_c h4 (ef 7 (by omega)) (ef 8 (by omega)) (ef 9 (by omega)) (fun k hk => er k (by omega) (by omega) (by omega) (by omega)) (fun k hk => er _ (by omega) (by omega) (by omega) (by omega)), RT_c h5 (ef 10 (by omega)) (ef 11 (by omega)) (er _ (by omega) (by omega) (by omega) (by omega)) (fun k hk => er _ (by omega) (by omega) (by omega) (by omega)), RE_c h6 (ef 12 (by omega)) (ef 13 (by omega)) (er _ (by omega) (by omega) (by omega) (by omega)) (fun k hk => er _ (by omega) (by omega) (by omega) (by omega)), RZ_c h7 (ef 14 (by omega)) (ef 15 (by omega)) (er _ (by omega) (by omega) (by omega) (by omega)) (fun k hk => er _ (by omega) (by omega) (by omega) (by omega)), by rw [er 37 (by omega) (by omega) (by omega) (by omega)]; exact h8, by rw [er 38 (by omega) (by omega) (by omega) (by omega)]; exact h9⟩
    unfold RS rEnds0
    simp only [zf_ap, zu_ap, if_true, Nat.reduceEqDiff, if_false]
    exact ⟨h1.1, h1.2.1, trivial, trivial, fun h => absurd h (by decide), trivial, trivial, h1.2.2.2.2.2.2.2.1, h1.2.2.2.2.2.2.2.2.1, h1.2.2.2.2.2.2.2.2.2⟩
  refine C_clears S' hR (by unfold rEnds0; simp only [zu_ap, Nat.reduceEqDiff, if_false]; exact hb) (fun f1 h1 => ?_)
  simp only [gr_zcs, m4, Option.some.injEq, exists_eq_left']
  refine C_tclear h1 (fun f2 h2 => ?_)
  rw [← rEnds_e] at h2
  exact hq f2 h2
theorem C_event {ln : Nat → Nat} {σ : zS} {b : Nat} {f : Nat → Nat → Int32} {s0 s1 : Int64} {r : Nat → Int32} (S : zMs (gr σ) ln b) (h : RR f s0 s1 r) (hW : zW r) {t c v : Int32} (ht : t = r 5) {Q : zS → Prop} (hq : ∀ f', RR f' s0 s1 (rNotes r c v) → Q (zcs σ b f' s0 s1)) : wX8_add ln (zcs σ b f s0 s1) (b + 12) t c v Q := by
  subst ht
  have hb := hW.e
  obtain ⟨nb, ne, nz, nm0, nm1, nt⟩ := hW.bn
  obtain ⟨⟨m1, m2, m3, m4, m5, m6⟩, ⟨a1, a2, a3, a4, a5, a6, a7, a8, a9⟩, ⟨l1, l2, l3, l4, l5, l6⟩⟩ := S
  obtain ⟨h1, ⟨h2, h2'⟩, ⟨h3, h3'⟩, h4, h5, h6, h7, h8, h9⟩ := h
  have c0 := ncl hb.1
  obtain ⟨e1, e2, s, hs, e3, hr⟩ := h6
  have em : r 18 = nI (r 18).toNatClampNeg := by rw [neq, nI_toInt (by omega)]; omega
  have e2' : f 12 3 = nI (r 18).toNatClampNeg := e2.trans em
  refine c_recadd (c := 12) (cap := 40) (by decide) a8 l5 (by decide) e1 e3 e2' hs (by omega) (hq _ ?_)
  have er : ∀ k, k ≠ 18 → ¬ (99 ≤ k ∧ k < 219) → rNotes r c v k = r k := fun k => rNotes_out r hb.1 hb.2
  by_cases hn : (r 18).toNatClampNeg = 40
  · rw [if_pos hn]
    have h40 : r 18 = 40 := by rw [em, hn]; rfl
    have ef : ∀ k, k ≠ 12 → k ≠ 13 → zf (cPut (cDrop f 12 40 s (r 18).toNatClampNeg) 12 (3 * rix 40 (if s + 1 < 40 then s + 1 else 0) ((r 18).toNatClampNeg - 1)) (r 5) c v) 12 3 (nI ((r 18).toNatClampNeg - 1 + 1)) k = f k := fun k k1 k2 => by
      unfold cPut cDrop
      rw [zf_ne k1, zf_ne k2, zf_ne k2, zf_ne k2, zf_ne k1, zf_ne k1]
    refine ⟨RS_c h1 (ef 0 (by omega) (by omega)) (fun k hk => er k (by omega) (by omega)), ⟨RO_c h2 (ef 1 (by omega) (by omega)) (fun k hk => er k (by omega) (by omega)), RO_c h2' (ef 4 (by omega) (by omega)) (fun k hk => er k (by omega) (by omega))⟩, ⟨RV_c h3 (ef 2 (by omega) (by omega)) (ef 3 (by omega) (by omega)) (er _ (by omega) (by omega)) (fun k hk => er _ (by omega) (by omega)), RV_c h3' (ef 5 (by omega) (by omega)) (ef 6 (by omega) (by omega)) (er _ (by omega) (by omega)) (fun k hk => er _ (by omega) (by omega))⟩, RB_c h4 (ef 7 (by omega) (by omega)) (ef 8 (by omega) (by omega)) (ef 9 (by omega) (by omega)) (fun k hk => er k (by omega) (by omega)) (fun k hk => er _ (by omega) (by omega)), RT_c h5 (ef 10 (by omega) (by omega)) (ef 11 (by omega) (by omega)) (er _ (by omega) (by omega)) (fun k hk => er _ (by omega) (by omega)), ?_, RZ_c h7 (ef 14 (by omega) (by omega)) (ef 15 (by omega) (by omega)) (er _ (by omega) (by omega)) (fun k hk => er _ (by omega) (by omega)), by rw [er 37 (by omega) (by omega)]; exact h8, by rw [er 38 (by omega) (by omega)]; exact h9⟩
    have eN : rNotes r c v = rPut (rCut r) 99 18 (r 5) c v := by unfold rNotes; rw [if_pos h40]
    have e18 : rCut r 18 = 39 := by unfold rCut; rw [zu_self, h40]; decide
    have c39 : (rCut r 18).toNatClampNeg = 39 := by rw [e18]; decide
    have e18' : rNotes r c v 18 = 40 := by rw [eN]; unfold rPut; rw [zu_self, e18]; decide
    have hd := ring_drop hr hs (by omega) (by omega)
    rw [hn] at hd ⊢
    have hd2 : ring False 40 (if s + 1 < 40 then s + 1 else 0) 39 (f 13) (fun j => rCut r (99 + j)) := ring_cong hd rfl (fun j hj => by
      unfold rCut zcut
      rw [zu_ne (by omega), if_pos (by omega)]
      rfl)
    have hp := ring_put hd2 (show (if s + 1 < 40 then s + 1 else 0) < 40 by split <;> omega) (by decide) (a1 := r 5) (a2 := c) (a3 := v) (b3 := v) (fun _ => rfl)
    refine ⟨?_, ?_, if s + 1 < 40 then s + 1 else 0, by split <;> omega, ?_, ?_⟩
    · unfold cPut cDrop
      simp only [zf_ap, if_true, Nat.reduceEqDiff, if_false]
      exact e1
    · rw [e18']
      simp only [zf_ap, if_true]
      rfl
    · unfold cPut cDrop
      simp only [zf_ap, if_true, Nat.reduceEqDiff, if_false]
    · rw [e18', eN, rPut_e _ (by decide), c39]
      unfold cPut cDrop
      rw [zf_ne (by decide), zf_eq, zf_eq, zf_eq, zf_ne (by decide), zf_ne (by decide)]
      exact hp
  · rw [if_neg hn]
    have h40 : ¬ r 18 = 40 := fun e => hn (by rw [e]; rfl)
    have ef : ∀ k, k ≠ 12 → k ≠ 13 → zf (cPut f 12 (3 * rix 40 s (r 18).toNatClampNeg) (r 5) c v) 12 3 (nI ((r 18).toNatClampNeg + 1)) k = f k := fun k k1 k2 => by
      unfold cPut
      rw [zf_ne k1, zf_ne k2, zf_ne k2, zf_ne k2]
    refine ⟨RS_c h1 (ef 0 (by omega) (by omega)) (fun k hk => er k (by omega) (by omega)), ⟨RO_c h2 (ef 1 (by omega) (by omega)) (fun k hk => er k (by omega) (by omega)), RO_c h2' (ef 4 (by omega) (by omega)) (fun k hk => er k (by omega) (by omega))⟩, ⟨RV_c h3 (ef 2 (by omega) (by omega)) (ef 3 (by omega) (by omega)) (er _ (by omega) (by omega)) (fun k hk => er _ (by omega) (by omega)), RV_c h3' (ef 5 (by omega) (by omega)) (ef 6 (by omega) (by omega)) (er _ (by omega) (by omega)) (fun k hk => er _ (by omega) (by omega))⟩, RB_c h4 (ef 7 (by omega) (by omega)) (ef 8 (by omega) (by omega)) (ef 9 (by omega) (by omega)) (fun k hk => er k (by omega) (by omega)) (fun k hk => er _ (by omega) (by omega)), RT_c h5 (ef 10 (by omega) (by omega)) (ef 11 (by omega) (by omega)) (er _ (by omega) (by omega)) (fun k hk => er _ (by omega) (by omega)), ?_, RZ_c h7 (ef 14 (by omega) (by omega)) (ef 15 (by omega) (by omega)) (er _ (by omega) (by omega)) (fun k hk => er _ (by omega) (by omega)), by rw [er 37 (by omega) (by omega)]; exact h8, by rw [er 38 (by omega) (by omega)]; exact h9⟩
    have eN : rNotes r c v = rPut r 99 18 (r 5) c v := by unfold rNotes; rw [if_neg h40]
    have e18' : rNotes r c v 18 = nI ((r 18).toNatClampNeg + 1) := by
      rw [eN]
      unfold rPut
      rw [zu_self, ← nI_1, ← em]
    have hp := ring_put hr hs (show (r 18).toNatClampNeg < 40 by omega) (a1 := r 5) (a2 := c) (a3 := v) (b3 := v) (fun _ => rfl)
    refine ⟨?_, ?_, s, hs, ?_, ?_⟩
    · unfold cPut
      simp only [zf_ap, if_true, Nat.reduceEqDiff, if_false]
      exact e1
    · rw [e18']
      simp only [zf_ap, if_true]
    · unfold cPut
      simp only [zf_ap, if_true, Nat.reduceEqDiff, if_false]
      exact e3
    · rw [e18', nI_clamp (by omega), eN, rPut_e _ (by decide)]
      unfold cPut
      rw [zf_ne (by decide), zf_eq, zf_eq, zf_eq]
      exact hp
theorem C_send {ln : Nat → Nat} {σ : zS} {b : Nat} {f : Nat → Nat → Int32} {s0 s1 : Int64} {r : Nat → Int32} (S : zMs (gr σ) ln b) (h : RR f s0 s1 r) (hW : zW r) (hb' : (r 19).toInt ≤ 599) {t w v v' : Int32} (ht : t = r 5 + r 1) (hv : w = 0 → v' = v) {Q : zS → Prop} (hq : ∀ f', RR f' s0 s1 (rSends r w v) → Q (zcs σ b f' s0 s1)) : wX8_add ln (zcs σ b f s0 s1) (b + 10) t w v' Q := by
  subst ht
  have hb : 0 ≤ (r 19).toInt ∧ (r 19).toInt ≤ 599 := ⟨hW.u.1, hb'⟩
  obtain ⟨nb, ne, nz, nm0, nm1, nt⟩ := hW.bn
  obtain ⟨⟨m1, m2, m3, m4, m5, m6⟩, ⟨a1, a2, a3, a4, a5, a6, a7, a8, a9⟩, ⟨l1, l2, l3, l4, l5, l6⟩⟩ := S
  obtain ⟨h1, ⟨h2, h2'⟩, ⟨h3, h3'⟩, h4, h5, h6, h7, h8, h9⟩ := h
  have c0 := ncl hb.1
  obtain ⟨e1, e2, s, hs, e3, hr⟩ := h5
  have em : r 19 = nI (r 19).toNatClampNeg := by rw [neq, nI_toInt (by omega)]; omega
  have e2' : f 10 3 = nI (r 19).toNatClampNeg := e2.trans em
  refine c_recadd (c := 10) (cap := 640) (by decide) a7 l4 (by decide) e1 e3 e2' hs (by omega) (hq _ ?_)
  have er : ∀ k, k ≠ 19 → k < 2963 → rSends r w v k = r k := fun k k1 k2 => by unfold rSends; exact rPut_out r k1 (by omega)
  rw [if_neg (show ¬ (r 19).toNatClampNeg = 640 by omega)]
  have ef : ∀ k, k ≠ 10 → k ≠ 11 → zf (cPut f 10 (3 * rix 640 s (r 19).toNatClampNeg) (r 5 + r 1) w v') 10 3 (nI ((r 19).toNatClampNeg + 1)) k = f k := fun k k1 k2 => by
    unfold cPut
    rw [zf_ne k1, zf_ne k2, zf_ne k2, zf_ne k2]
  refine ⟨RS_c h1 (ef 0 (by omega) (by omega)) (fun k hk => er k (by omega) (by omega)), ⟨RO_c h2 (ef 1 (by omega) (by omega)) (fun k hk => er k (by omega) (by omega)), RO_c h2' (ef 4 (by omega) (by omega)) (fun k hk => er k (by omega) (by omega))⟩, ⟨RV_c h3 (ef 2 (by omega) (by omega)) (ef 3 (by omega) (by omega)) (er _ (by omega) (by omega)) (fun k hk => er _ (by omega) (by omega)), RV_c h3' (ef 5 (by omega) (by omega)) (ef 6 (by omega) (by omega)) (er _ (by omega) (by omega)) (fun k hk => er _ (by omega) (by omega))⟩, RB_c h4 (ef 7 (by omega) (by omega)) (ef 8 (by omega) (by omega)) (ef 9 (by omega) (by omega)) (fun k hk => er k (by omega) (by omega)) (fun k hk => er _ (by omega) (by omega)), ?_, RE_c h6 (ef 12 (by omega) (by omega)) (ef 13 (by omega) (by omega)) (er _ (by omega) (by omega)) (fun k hk => er _ (by omega) (by omega)), RZ_c h7 (ef 14 (by omega) (by omega)) (ef 15 (by omega) (by omega)) (er _ (by omega) (by omega)) (fun k hk => er _ (by omega) (by omega)), by rw [er 37 (by omega) (by omega)]; exact h8, by rw [er 38 (by omega) (by omega)]; exact h9⟩
  have e18' : rSends r w v 19 = nI ((r 19).toNatClampNeg + 1) := by
    unfold rSends rPut
    rw [zu_self, ← nI_1, ← em]
  have hp := ring_put hr hs (show (r 19).toNatClampNeg < 640 by omega) (a1 := r 5 + r 1) (a2 := w) (a3 := v') (b3 := v) (fun a => hv (a trivial))
  refine ⟨?_, ?_, s, hs, ?_, ?_⟩
  · unfold cPut
    simp only [zf_ap, if_true, Nat.reduceEqDiff, if_false]
    exact e1
  · rw [e18']
    simp only [zf_ap, if_true]
  · unfold cPut
    simp only [zf_ap, if_true, Nat.reduceEqDiff, if_false]
    exact e3
  · rw [e18', nI_clamp (by omega)]
    unfold rSends
    rw [rPut_e _ (by decide)]
    unfold cPut
    rw [zf_ne (by decide), zf_eq, zf_eq, zf_eq]
    exact hp
