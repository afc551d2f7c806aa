/-! THE CLASS'S STEPS: what is sent; how a tick ends -/
theorem w_rget {ln : Nat → Nat} {σ : zS} {a a' cap m k : Nat} {v : Int32} (g : gr σ a 0 = some a') (l : ln a' = cap) (hcap : cap < 2 ^ 31) (hm : gi σ a 1 = nI m) (hm2 : m ≤ cap) (hk : v = nI k) (hk2 : k < m) {Q : Int32 → zS → Prop} (hq : Q (gi σ a' k) σ) : wX9_get ln σ a v Q := by
  subst hk
  have e1 : ¬ nI k < 0 := nI_pos (by omega)
  have e2 : ¬ nI m ≤ nI k := nI_ge hk2 (by omega)
  have e3 : ¬ nI cap ≤ nI k := nI_ge (by omega) (by omega)
  have e4 : vp_in (nI k) cap := vp_in_nI (by omega) (by omega)
  have e5 : (nI k).toNatClampNeg = k := nI_clamp (by omega)
  simp only [wX9_get, g, Option.some.injEq, exists_eq_left', l, hm, e1, e2, e3, e4, e5, false_imp_iff, not_false_eq_true, true_implies, true_and]
  exact hq
theorem w_rget_no {ln : Nat → Nat} {σ : zS} {a m k : Nat} {v : Int32} (hm : gi σ a 1 = nI m) (hk : v = nI k) (hk2 : m ≤ k) (hk3 : k < 2 ^ 31) {Q : Int32 → zS → Prop} (hq : Q (-1) σ) : wX9_get ln σ a v Q := by
  subst hk
  have e1 : ¬ nI k < 0 := nI_pos (by omega)
  have e2 : nI m ≤ nI k := nI_le hk2 (by omega)
  simp only [wX9_get, hm, e1, e2, false_imp_iff, not_false_eq_true, true_implies, true_and, not_true, and_true]
  exact hq
theorem w_line {ln : Nat → Nat} {σ : zS} {a a' c m k : Nat} {v : Int32} (g : gr σ a 3 = some a') (l : ln a' = 12) (hm : gi σ a 2 = nI m) (hm2 : m ≤ 12) (hk : v = nI k) (hk2 : k < m) (gc : gr σ a' k = some c) {Q : Option Nat → zS → Prop} (hq : Q (some c) σ) : wX0_line ln σ a v Q := by
  subst hk
  have e1 : ¬ nI k < 0 := nI_pos (by omega)
  have e2 : ¬ nI m ≤ nI k := nI_ge hk2 (by omega)
  have e3 : ¬ nI 12 ≤ nI k := nI_ge (by omega) (by omega)
  have e4 : vp_in (nI k) 12 := vp_in_nI (by omega) (by omega)
  have e5 : (nI k).toNatClampNeg = k := nI_clamp (by omega)
  simp only [wX0_line, g, Option.some.injEq, exists_eq_left', l, hm, e1, e2, e3, e4, e5, gc, false_imp_iff, not_false_eq_true, true_implies, true_and]
  exact hq
theorem rPath_len {r : Nat → Int32} (hW : zW r) {a : Nat} (ha : a < 24) : 2 ≤ (rPath r a).length ∧ (rPath r a).length ≤ 62 := by
  have h1 := zpath_len (rChr r a) (r (219 + a)).toNatClampNeg (r 0)
  have h2 := zenc_len (rChr r a) (r (219 + a)).toNatClampNeg
  have h3 := hW.len a ha
  have h4 := ncl h3.1
  unfold rPath
  omega
/-- every position of a path is one -/
def zQp (r : Nat → Int32) : Prop := ∀ q : Nat, q < 2 → ∀ k : Nat, k < 12 → (k : Int) < (r (25 + q)).toInt → ∀ j, j < (rPath r (12 * q + k)).length → 0 ≤ ((rPath r (12 * q + k)).getD j 0).toInt ∧ ((rPath r (12 * q + k)).getD j 0).toInt < 28
theorem zQp.c {r r' : Nat → Int32} (h : zQp r) (e : zkp r r') (hW : zW r) : zQp r' := by
  intro q hq k hk hk2
  rw [e (25 + q) (by omega)] at hk2
  rw [e.path (by omega) (hW.len _ (by omega)).2]
  exact h q hq k hk hk2
/-- what the class takes for the next position -/
def rNp (r : Nat → Int32) : Int32 := if (r 9).toNatClampNeg < (rPath r (zLn r)).length then rPosn r else -1
theorem zact_o {r : Nat → Int32} (hW : zW r) (ha : ¬ r 6 = -1) : (r 6 = 0 ∧ zo r = 0 ∧ zLn r = 12 * 0 + (r 27).toNatClampNeg ∧ (r 27).toNatClampNeg < 12 ∧ (((r 27).toNatClampNeg : Nat) : Int) < (r (25 + 0)).toInt) ∨ (r 6 = 1 ∧ zo r = 1 ∧ zLn r = 12 * 1 + (r 28).toNatClampNeg ∧ (r 28).toNatClampNeg < 12 ∧ (((r 28).toNatClampNeg : Nat) : Int) < (r (25 + 1)).toInt) := by
  have a0 := hW.D0
  have a1 := hW.D1
  have b0 := hW.L0
  have b1 := hW.L1
  rcases hW.h6 ha with e | e
  · left
    have hz : zo r = 0 := by unfold zo; rw [e]; rfl
    have := hW.S0 e
    have hc := ncl a0.1
    refine ⟨e, hz, ?_, by omega, ?_⟩
    · unfold zLn; rw [hz]
    · show _ < (r 25).toInt
      omega
  · right
    have hz : zo r = 1 := by unfold zo; rw [e]; rfl
    have := hW.S1 e
    have hc := ncl a1.1
    refine ⟨e, hz, ?_, by omega, ?_⟩
    · unfold zLn; rw [hz]
    · show _ < (r 26).toInt
      omega
theorem C_next0 {ln : Nat → Nat} {σ : zS} {b p : Nat} {f : Nat → Nat → Int32} {s0 s1 : Int64} {r : Nat → Int32} (S : zMs (gr σ) ln b) (gp : gr σ b 0 = some p) (hp : p + 127 ≤ b ∨ b + 16 ≤ p) (PL : zPl σ ln p r) (h : RR f s0 s1 r) (hW : zW r) (h9 : 0 ≤ (r 9).toInt) (h6 : r 6 = 0) (h7 : r 7 = 0) {Q : Int32 → zS → Prop} (hq : Q (rNp r) (zcs σ b f s0 s1)) : wX3_nextPosition ln (zcs σ b f s0 s1) b Q := by
  have S' := S
  obtain ⟨⟨m1, m2, m3, m4, m5, m6⟩, ⟨a1, a2, a3, a4, a5, a6, a7, a8, a9⟩, ⟨l1, l2, l3, l4, l5, l6⟩⟩ := S
  obtain ⟨pN, ⟨pd0, pd1⟩, ⟨pc0, pc1⟩, ⟨pl0, pl1, pn0, pn1⟩, pe⟩ := PL
  have e03 : f 0 3 = 0 := h.1.2.2.1.trans h6
  have e04 : f 0 4 = 0 := h.1.2.2.2.1.trans h7
  have e06 : f 0 6 = r 9 := h.1.2.2.2.2.2.1
  have eD : f 1 2 = r 27 := h.2.1.1.2.2.1
  have hc9 := ncl h9
  have h9n : r 9 = nI (r 9).toNatClampNeg := by rw [neq, nI_toInt (by have := nrange (r 9); omega)]; omega
  obtain ⟨ez, eL, k12, kL⟩ : zo r = 0 ∧ zLn r = 12 * 0 + (r 27).toNatClampNeg ∧ (r 27).toNatClampNeg < 12 ∧ (((r 27).toNatClampNeg : Nat) : Int) < (r (25 + 0)).toInt := by
    rcases zact_o hW (by rw [h6]; decide) with hh | hh
    · exact ⟨hh.2.1, hh.2.2.1, hh.2.2.2.1, hh.2.2.2.2⟩
    · exact absurd (h6.symm.trans hh.1) (by decide)
  have hDn := hW.D0
  have hLn := hW.L0
  have hcD := ncl hDn.1
  have hcL := ncl hLn.1
  have eDn : r 27 = nI (r 27).toNatClampNeg := by rw [neq, nI_toInt (by omega)]; omega
  have eLn : r 25 = nI (r 25).toNatClampNeg := by rw [neq, nI_toInt (by omega)]; omega
  obtain ⟨⟨x1, x2, x3, x4⟩, xx⟩ := pe 0 (by decide) (r 27).toNatClampNeg k12
  obtain ⟨y1, y2⟩ := xx kL
  have hPL := rPath_len hW (a := 12 * 0 + (r 27).toNatClampNeg) (by omega)
  simp only [wX3_nextPosition, gi_zcs_b, e03, e04]
  refine ⟨fun h => absurd h (by decide), fun _ => ⟨fun _ => ?_, fun h => absurd trivial h⟩⟩
  simp only [gr_zcs, gp, Option.some.injEq, exists_eq_left', forall_eq, wX6_desk]
  refine ⟨fun h => absurd h (by decide), fun _ => ?_⟩
  simp only [gr_zcs, pd0, Option.some.injEq, exists_eq_left', wX3_office, gi_zcs_b, e03, forall_eq]
  refine ⟨fun h => absurd h (by decide), fun _ => ?_⟩
  simp only [gr_zcs, m1, Option.some.injEq, exists_eq_left', gi_zcs_k σ b f s0 s1 (show 1 < 16 by decide), eD]
  have hL3 : gi (zcs σ b f s0 s1) (p + 3) 2 = nI (r 25).toNatClampNeg := by rw [gi_zcs_o _ _ _ _ _ (by omega), pc0]; exact eLn
  refine w_line (k := (r 27).toNatClampNeg) (gr_zcs σ b f s0 s1 ▸ pl0) pn0 hL3 (by omega) eDn (by have : (25 + 0) = 25 := rfl; rw [this] at kL; omega) (gr_zcs σ b f s0 s1 ▸ x1) ⟨fun h => absurd h (by simp), fun j hj => ?_⟩
  obtain rfl := Option.some.inj hj
  have x2' : gr (zcs σ b f s0 s1) (p + 5 + 62 * 0 + 5 * (r 27).toNatClampNeg) 1 = some (p + 8 + 62 * 0 + 5 * (r 27).toNatClampNeg) := x2
  refine ⟨_, x2', ?_⟩
  have e06' : gi (zcs σ b f s0 s1) b 6 = r 9 := by rw [gi_zcs_b]; exact e06
  rw [e06']
  have x3' : gr (zcs σ b f s0 s1) (p + 8 + 62 * 0 + 5 * (r 27).toNatClampNeg) 0 = some (p + 9 + 62 * 0 + 5 * (r 27).toNatClampNeg) := x3
  have y1' : gi (zcs σ b f s0 s1) (p + 8 + 62 * 0 + 5 * (r 27).toNatClampNeg) 1 = nI (rPath r (12 * 0 + (r 27).toNatClampNeg)).length := by rw [gi_zcs_o _ _ _ _ _ (by omega)]; exact y1
  unfold rNp rPosn at hq
  rw [eL] at hq
  by_cases hk : (r 9).toNatClampNeg < (rPath r (12 * 0 + (r 27).toNatClampNeg)).length
  · rw [if_pos hk] at hq
    refine w_rget x3' x4 (by decide) y1' (by omega) h9n hk ?_
    rw [gi_zcs_o _ _ _ _ _ (by omega), y2 _ hk]
    exact hq
  · rw [if_neg hk] at hq
    exact w_rget_no y1' h9n (by omega) (by have := nrange (r 9); omega) hq
theorem C_next1 {ln : Nat → Nat} {σ : zS} {b p : Nat} {f : Nat → Nat → Int32} {s0 s1 : Int64} {r : Nat → Int32} (S : zMs (gr σ) ln b) (gp : gr σ b 0 = some p) (hp : p + 127 ≤ b ∨ b + 16 ≤ p) (PL : zPl σ ln p r) (h : RR f s0 s1 r) (hW : zW r) (h9 : 0 ≤ (r 9).toInt) (h6 : r 6 = 1) (h7 : r 7 = 0) {Q : Int32 → zS → Prop} (hq : Q (rNp r) (zcs σ b f s0 s1)) : wX3_nextPosition ln (zcs σ b f s0 s1) b Q := by
  have S' := S
  obtain ⟨⟨m1, m2, m3, m4, m5, m6⟩, ⟨a1, a2, a3, a4, a5, a6, a7, a8, a9⟩, ⟨l1, l2, l3, l4, l5, l6⟩⟩ := S
  obtain ⟨pN, ⟨pd0, pd1⟩, ⟨pc0, pc1⟩, ⟨pl0, pl1, pn0, pn1⟩, pe⟩ := PL
  have e03 : f 0 3 = 1 := h.1.2.2.1.trans h6
  have e04 : f 0 4 = 0 := h.1.2.2.2.1.trans h7
  have e06 : f 0 6 = r 9 := h.1.2.2.2.2.2.1
  have eD : f 4 2 = r 28 := h.2.1.2.2.2.1
  have hc9 := ncl h9
  have h9n : r 9 = nI (r 9).toNatClampNeg := by rw [neq, nI_toInt (by have := nrange (r 9); omega)]; omega
  obtain ⟨ez, eL, k12, kL⟩ : zo r = 1 ∧ zLn r = 12 * 1 + (r 28).toNatClampNeg ∧ (r 28).toNatClampNeg < 12 ∧ (((r 28).toNatClampNeg : Nat) : Int) < (r (25 + 1)).toInt := by
    rcases zact_o hW (by rw [h6]; decide) with hh | hh
    · exact absurd (h6.symm.trans hh.1) (by decide)
    · exact ⟨hh.2.1, hh.2.2.1, hh.2.2.2.1, hh.2.2.2.2⟩
  have hDn := hW.D1
  have hLn := hW.L1
  have hcD := ncl hDn.1
  have hcL := ncl hLn.1
  have eDn : r 28 = nI (r 28).toNatClampNeg := by rw [neq, nI_toInt (by omega)]; omega
  have eLn : r 26 = nI (r 26).toNatClampNeg := by rw [neq, nI_toInt (by omega)]; omega
  obtain ⟨⟨x1, x2, x3, x4⟩, xx⟩ := pe 1 (by decide) (r 28).toNatClampNeg k12
  obtain ⟨y1, y2⟩ := xx kL
  have hPL := rPath_len hW (a := 12 * 1 + (r 28).toNatClampNeg) (by omega)
  simp only [wX3_nextPosition, gi_zcs_b, e03, e04]
  refine ⟨fun h => absurd h (by decide), fun _ => ⟨fun _ => ?_, fun h => absurd trivial h⟩⟩
  simp only [gr_zcs, gp, Option.some.injEq, exists_eq_left', forall_eq, wX6_desk]
  refine ⟨fun _ => ?_, fun h => absurd trivial h⟩
  simp only [gr_zcs, pd1, Option.some.injEq, exists_eq_left', wX3_office, gi_zcs_b, e03, forall_eq]
  refine ⟨fun _ => ?_, fun h => absurd trivial h⟩
  simp only [gr_zcs, m2, Option.some.injEq, exists_eq_left', gi_zcs_k σ b f s0 s1 (show 4 < 16 by decide), eD]
  have hL3 : gi (zcs σ b f s0 s1) (p + 65) 2 = nI (r 26).toNatClampNeg := by rw [gi_zcs_o _ _ _ _ _ (by omega), pc1]; exact eLn
  refine w_line (k := (r 28).toNatClampNeg) (gr_zcs σ b f s0 s1 ▸ pl1) pn1 hL3 (by omega) eDn (by have : (25 + 1) = 26 := rfl; rw [this] at kL; omega) (gr_zcs σ b f s0 s1 ▸ x1) ⟨fun h => absurd h (by simp), fun j hj => ?_⟩
  obtain rfl := Option.some.inj hj
  have x2' : gr (zcs σ b f s0 s1) (p + 5 + 62 * 1 + 5 * (r 28).toNatClampNeg) 1 = some (p + 8 + 62 * 1 + 5 * (r 28).toNatClampNeg) := x2
  refine ⟨_, x2', ?_⟩
  have e06' : gi (zcs σ b f s0 s1) b 6 = r 9 := by rw [gi_zcs_b]; exact e06
  rw [e06']
  have x3' : gr (zcs σ b f s0 s1) (p + 8 + 62 * 1 + 5 * (r 28).toNatClampNeg) 0 = some (p + 9 + 62 * 1 + 5 * (r 28).toNatClampNeg) := x3
  have y1' : gi (zcs σ b f s0 s1) (p + 8 + 62 * 1 + 5 * (r 28).toNatClampNeg) 1 = nI (rPath r (12 * 1 + (r 28).toNatClampNeg)).length := by rw [gi_zcs_o _ _ _ _ _ (by omega)]; exact y1
  unfold rNp rPosn at hq
  rw [eL] at hq
  by_cases hk : (r 9).toNatClampNeg < (rPath r (12 * 1 + (r 28).toNatClampNeg)).length
  · rw [if_pos hk] at hq
    refine w_rget x3' x4 (by decide) y1' (by omega) h9n hk ?_
    rw [gi_zcs_o _ _ _ _ _ (by omega), y2 _ hk]
    exact hq
  · rw [if_neg hk] at hq
    exact w_rget_no y1' h9n (by omega) (by have := nrange (r 9); omega) hq
theorem C_next {ln : Nat → Nat} {σ : zS} {b p : Nat} {f : Nat → Nat → Int32} {s0 s1 : Int64} {r : Nat → Int32} (S : zMs (gr σ) ln b) (gp : gr σ b 0 = some p) (hp : p + 127 ≤ b ∨ b + 16 ≤ p) (PL : zPl σ ln p r) (h : RR f s0 s1 r) (hW : zW r) (h9 : zact r → 0 ≤ (r 9).toInt) {Q : Int32 → zS → Prop} (hn : ¬ zact r → Q (-1) (zcs σ b f s0 s1)) (hq : zact r → Q (rNp r) (zcs σ b f s0 s1)) : wX3_nextPosition ln (zcs σ b f s0 s1) b Q := by
  by_cases ha : zact r
  · have h7 : r 7 = 0 := hW.w.elim id (fun e => absurd e ha.2)
    rcases hW.h6 ha.1 with h6 | h6
    · exact C_next0 S gp hp PL h hW (h9 ha) h6 h7 (hq ha)
    · exact C_next1 S gp hp PL h hW (h9 ha) h6 h7 (hq ha)
  · have hn := hn ha
    have e03 : f 0 3 = r 6 := h.1.2.2.1
    have e04 : f 0 4 = r 7 := h.1.2.2.2.1
    simp only [wX3_nextPosition, gi_zcs_b, e03, e04]
    refine ⟨fun _ => hn, fun h6 => ⟨fun h7 => absurd ⟨h6, fun h1 => ?_⟩ ha, fun _ => hn⟩⟩
    rw [h7] at h1
    exact absurd h1 (by decide)
theorem C_holds {ln : Nat → Nat} {σ : zS} {b : Nat} {f : Nat → Nat → Int32} {s0 s1 : Int64} {r : Nat → Int32} (S : zMs (gr σ) ln b) (h : RR f s0 s1 r) (hl : 0 ≤ (r 20).toInt ∧ (r 20).toInt ≤ 20) {num : Int32} {Q : Int32 → zS → Prop} (hq : Q (if rLost r num then 1 else 0) (zcs σ b f s0 s1)) : wX9_holds ln (zcs σ b f s0 s1) (b + 14) num Q := by
  obtain ⟨⟨m1, m2, m3, m4, m5, m6⟩, ⟨a1, a2, a3, a4, a5, a6, a7, a8, a9⟩, ⟨l1, l2, l3, l4, l5, l6⟩⟩ := S
  obtain ⟨z1, z2⟩ := h.2.2.2.2.2.2.1
  have c0 := ncl hl.1
  have hm : (r 20).toNatClampNeg ≤ 20 := by omega
  have e20 : f 14 1 = nI (r 20).toNatClampNeg := by rw [z1, neq, nI_toInt (by omega)]; omega
  have key : ∀ d k : Nat, k + d = (r 20).toNatClampNeg → (∀ j, j < k → r (39 + j) ≠ num) → wX9_holds_2 ln Q (d + 1) (b + 14) num (nI k) (zcs σ b f s0 s1) := by
    intro d
    induction d with
    | zero =>
      intro k hk hj
      have hc : nI (r 20).toNatClampNeg ≤ nI k := nI_le (by omega) (by omega)
      have hf : rLost r num = false := by
        unfold rLost
        rw [List.any_eq_false]
        intro j hj2
        have := hj j (by have := List.mem_range.mp hj2; omega)
        simp [this]
      rw [hf] at hq
      rw [wX9_holds_2]
      simp only [gi_zcs_k σ b f s0 s1 (show 14 < 16 by decide), e20, hc, not_true, false_imp_iff, and_true, true_implies]
      exact hq
    | succ d ih =>
      intro k hk hj
      have hc : ¬ nI (r 20).toNatClampNeg ≤ nI k := nI_ge (by omega) (by omega)
      rw [wX9_holds_2]
      simp only [gi_zcs_k σ b f s0 s1 (show 14 < 16 by decide), e20, hc, false_imp_iff, not_false_eq_true, true_implies, true_and]
      refine c_rget (c := 14) (cap := 20) (by decide) a9 l6 (by decide) e20 hm rfl (by omega) ?_
      rw [z2 k (by omega)]
      refine ⟨fun h => ?_, fun h => ?_⟩
      · have ht : rLost r num = true := by
          unfold rLost
          rw [List.any_eq_true]
          exact ⟨k, List.mem_range.mpr (by omega), by simp [h]⟩
        rw [ht] at hq
        exact hq
      · intro x3 e3
        subst e3
        rw [nI_1]
        exact ih (k + 1) (by omega) (fun j hj2 => by
          by_cases e : j = k
          · rw [e]; exact h
          · exact hj j (by omega))
  exact ⟨(r 20).toNatClampNeg + 1, key (r 20).toNatClampNeg 0 (by omega) (fun j hj => absurd hj (Nat.not_lt_zero j))⟩
theorem C_sendPulse {ln : Nat → Nat} {σ : zS} {b p : Nat} {f : Nat → Nat → Int32} {s0 s1 : Int64} {r : Nat → Int32} (S : zMs (gr σ) ln b) (gp : gr σ b 0 = some p) (hp : p + 127 ≤ b ∨ b + 16 ≤ p) (PL : zPl σ ln p r) (h : RR f s0 s1 r) (hW : zW r) (h19 : (r 19).toInt ≤ 599) {pos : Int32} {Q : zS → Prop} (hq : ∀ f', RR f' s0 s1 (rSnd (rCnt r) pos) → Q (zcs σ b f' s0 s1)) : wX3_sendPulse ln (zcs σ b f s0 s1) b pos Q := by
  have S' := S
  obtain ⟨⟨m1, m2, m3, m4, m5, m6⟩, ⟨a1, a2, a3, a4, a5, a6, a7, a8, a9⟩, ⟨l1, l2, l3, l4, l5, l6⟩⟩ := S
  have PL' := PL
  obtain ⟨⟨pn, pdl, pg, prr⟩, -⟩ := PL'
  have f09 : f 0 9 = r 16 := h.1.2.2.2.2.2.2.2.2.1
  have h1 := RRs_16 h (r 16 + 1)
  have e1 : zu r 16 (r 16 + 1) = rCnt r := rfl
  rw [e1] at h1
  have hW1 : zW (rCnt r) := zW_out hW (nk (by omega)) _
  have e16 : rCnt r 16 = r 16 + 1 := zu_self r 16 _
  have c1 : zf f 0 9 (r 16 + 1) 0 9 = r 16 + 1 := by simp only [zf_ap, if_true]
  have c2 : zf f 0 9 (r 16 + 1) 0 1 = r 5 := by
    have : zf f 0 9 (r 16 + 1) 0 1 = f 0 1 := by simp only [zf_ap, if_true, Nat.reduceEqDiff, if_false]
    rw [this]; exact h.1.1
  have c3 : zf f 0 9 (r 16 + 1) 0 10 = r 17 := by
    have : zf f 0 9 (r 16 + 1) 0 10 = f 0 10 := by simp only [zf_ap, if_true, Nat.reduceEqDiff, if_false]
    rw [this]; exact h.1.2.2.2.2.2.2.2.2.2
  have gd : gi (zcs σ b (zf f 0 9 (r 16 + 1)) s0 s1) p 1 = r 1 := by rw [gi_zcs_o _ _ _ _ _ (by omega)]; exact pdl
  unfold rSnd at hq
  rw [e16] at hq
  simp only [wX3_sendPulse, gi_zcs_b, f09, forall_eq, si_zcs_b, gr_zcs, m6, Option.some.injEq, exists_eq_left', c1]
  refine C_holds S' h1 (by show 0 ≤ (zu r 16 (r 16 + 1) 20).toInt ∧ (zu r 16 (r 16 + 1) 20).toInt ≤ 20; rw [zu_ne (by decide)]; exact hW.l) ?_
  cases hL : rLost (rCnt r) (r 16 + 1)
  · rw [hL] at hq
    refine ⟨fun _ => ?_, fun h => absurd rfl h⟩
    simp only [gr_zcs, m4, gp, Option.some.injEq, exists_eq_left', gi_zcs_b, c2, gd, forall_eq]
    have e5 : r 5 + r 1 = rCnt r 5 + rCnt r 1 := by
      show _ = zu r 16 (r 16 + 1) 5 + zu r 16 (r 16 + 1) 1
      rw [zu_ne (by decide), zu_ne (by decide)]
    exact C_send S' h1 hW1 (by show (zu r 16 (r 16 + 1) 19).toInt ≤ 599; rw [zu_ne (by decide)]; exact h19) (w := 0) (v := pos) e5 (fun _ => rfl) hq
  · rw [hL] at hq
    refine ⟨fun h => absurd h (by decide), fun _ => ?_⟩
    simp only [gi_zcs_b, c3, forall_eq, si_zcs_b]
    have h2 := RRs_17 h1 (rCnt r 17 + 1)
    have e17 : rCnt r 17 = r 17 := zu_ne (by decide)
    rw [e17] at h2 hq
    exact hq _ h2
theorem C_looks0 {ln : Nat → Nat} {σ : zS} {b p : Nat} {f : Nat → Nat → Int32} {s0 s1 : Int64} {r : Nat → Int32} (S : zMs (gr σ) ln b) (gp : gr σ b 0 = some p) (hp : p + 127 ≤ b ∨ b + 16 ≤ p) (PL : zPl σ ln p r) (h : RR f s0 s1 r) (hW : zW r) (hQ : zQp r) (h19 : (r 19).toInt ≤ 599) (h9 : 0 ≤ (r 9).toInt ∧ (r 9).toInt < (rPath r (zLn r)).length) (h6 : r 6 = 0) (h7 : r 7 = 0) {Q : zS → Prop} (hq : ∀ f', RR f' s0 s1 (rLooks r) → Q (zcs σ b f' s0 s1)) : wX3_sendIfPassing ln (zcs σ b f s0 s1) b Q := by
  have S' := S
  obtain ⟨⟨m1, m2, m3, m4, m5, m6⟩, ⟨a1, a2, a3, a4, a5, a6, a7, a8, a9⟩, ⟨l1, l2, l3, l4, l5, l6⟩⟩ := S
  have PL' := PL
  obtain ⟨⟨pn, pdl, pg, prr⟩, -⟩ := PL'
  have ha : zact r := ⟨by rw [h6]; decide, by rw [h7]; decide⟩
  have hc9 := ncl h9.1
  have e03 : f 0 3 = 0 := h.1.2.2.1.trans h6
  obtain ⟨ez, eL, k12, kL⟩ : zo r = 0 ∧ zLn r = 12 * 0 + (r 27).toNatClampNeg ∧ (r 27).toNatClampNeg < 12 ∧ (((r 27).toNatClampNeg : Nat) : Int) < (r (25 + 0)).toInt := by
    rcases zact_o hW (by rw [h6]; decide) with hh | hh
    · exact ⟨hh.2.1, hh.2.2.1, hh.2.2.2.1, hh.2.2.2.2⟩
    · exact absurd (h6.symm.trans hh.1) (by decide)
  have hlt : (r 9).toNatClampNeg < (rPath r (zLn r)).length := by omega
  have hPL := rPath_len hW (a := zLn r) (by rw [eL]; omega)
  have eNp : rNp r = rPosn r := by unfold rNp; rw [if_pos hlt]
  have hps : 0 ≤ (rPosn r).toInt ∧ (rPosn r).toInt < 28 := by
    unfold rPosn
    rw [eL]
    exact hQ 0 (by decide) _ k12 kL _ (by rw [← eL]; exact hlt)
  have hN := hW.N
  have hph := hW.p0
  have hr0 := hW.r0
  have f0 : f 1 0 = r 21 := h.2.1.1.1
  have f1 : f 1 1 = r 23 := h.2.1.1.2.1
  have gN : gi (zcs σ b f s0 s1) p 0 = r 0 := by rw [gi_zcs_o _ _ _ _ _ (by omega)]; exact pn
  have t1 : (1000 : Int32).toInt = 1000 := rfl
  have eN : (1000 * r 0).toInt = 1000 * (r 0).toInt := by rw [nmul (by rw [t1]; omega) (by rw [t1]; omega), t1]
  have eP : (1000 * rPosn r).toInt = 1000 * (rPosn r).toInt := by rw [nmul (by rw [t1]; omega) (by rw [t1]; omega), t1]
  have eX : (r 21 - 1000 * rPosn r).toInt = (r 21).toInt - 1000 * (rPosn r).toInt := by rw [nsub (by rw [eP]; omega) (by rw [eP]; omega), eP]
  have eF : mI (r 21 - 1000 * rPosn r).toInt (1000 * r 0).toInt = rFar r := by
    rw [eX, eN]
    unfold rFar
    rw [ez]
  unfold rLooks at hq
  rw [if_neg (fun hc => hc.elim ha.1 ha.2), ez] at hq
  refine C_next0 S' gp hp PL h hW h9.1 h6 h7 ?_
  rw [eNp]
  have hne : ¬ rPosn r = -1 := fun e => by
    rw [e] at hps
    exact absurd hps.1 (by decide)
  refine ⟨fun h => absurd h hne, fun _ => ?_⟩
  simp only [gi_zcs_b, e03, forall_eq, wX3_office]
  refine ⟨fun h => absurd h (by decide), fun _ => ?_⟩
  simp only [gr_zcs, m1, gp, Option.some.injEq, exists_eq_left', wX6_circle, gN, gi_zcs_k σ b f s0 s1 (show 1 < 16 by decide), f0, forall_eq]
  refine wmodulo (by omega) ?_
  rw [eF]
  simp only [gi_zcs_k σ b f s0 s1 (show 1 < 16 by decide), f1]
  refine ⟨fun hl => ?_, fun hl => ?_⟩
  · have hl2 : ¬ r (23 + 0) ≤ rFar r := by
      show ¬ r 23 ≤ rFar r
      rw [nlt] at hl
      rw [nle]; omega
    rw [if_neg hl2] at hq
    refine C_sendPulse S' gp hp PL h hW h19 (fun f2 h2 => ?_)
    have hW1 : zW (rCnt r) := zW_out hW (nk (by omega)) _
    have hk1 : zkp r (rCnt r) := zkp_zu (fun _ _ => rfl) (nsk (by omega)) _
    have hsn : ∀ k, k = 5 ∨ k = 1 ∨ k = 3 ∨ k = 6 ∨ k = 7 ∨ k = 9 ∨ k = 27 ∨ k = 28 → rSnd (rCnt r) (rPosn r) k = r k := by
      intro k hk
      have : rCnt r k = r k := zu_ne (by omega)
      unfold rSnd
      split
      · rw [zu_ne (by omega)]; exact this
      · rw [← this]
        unfold rSends
        exact rPut_out _ (by omega) (by omega)
    have hW2 : zW (rSnd (rCnt r) (rPosn r)) := by
      unfold rSnd
      split
      · exact zW_out hW1 (nk (by omega)) _
      · exact zW_sends hW1 (by show (zu r 16 (r 16 + 1) 19).toInt ≤ 599; rw [zu_ne (by decide)]; exact h19)
    have hk2 : zkp r (rSnd (rCnt r) (rPosn r)) := by
      unfold rSnd
      split
      · exact zkp_zu hk1 (nsk (by omega)) _
      · exact zkp_sends hk1
    unfold rNext at hq
    generalize rSnd (rCnt r) (rPosn r) = r2 at h2 hW2 hk2 hsn hq
    have f06 : f2 0 6 = r 9 := (h2.1.2.2.2.2.2.1).trans (hsn 9 (by omega))
    have e9 := hsn 9 (by omega)
    rw [e9] at hq
    simp only [gi_zcs_b, f06, forall_eq, si_zcs_b]
    have h3 := RRs_9 h2 (r 9 + 1)
    have hW3 : zW (zu r2 9 (r 9 + 1)) := zW_out hW2 (nk (by omega)) _
    have hk3 : zkp r (zu r2 9 (r 9 + 1)) := zkp_zu hk2 (nsk (by omega)) _
    have e91 : (r 9 + 1).toInt = (r 9).toInt + 1 := ixs (k := 1) rfl (by decide) (by omega) (by omega)
    have h39 : zu r2 9 (r 9 + 1) 9 = r 9 + 1 := zu_self _ _ _
    have h36 : zu r2 9 (r 9 + 1) 6 = 0 := by rw [zu_ne (by decide), hsn 6 (by omega)]; exact h6
    have h37 : zu r2 9 (r 9 + 1) 7 = 0 := by rw [zu_ne (by decide), hsn 7 (by omega)]; exact h7
    have hLn3 : zLn (zu r2 9 (r 9 + 1)) = zLn r := by
      have hz3 : zo (zu r2 9 (r 9 + 1)) = zo r := by unfold zo; rw [h36, h6]
      unfold zLn
      rw [hz3, ez, zu_ne (by decide), hsn (27 + 0) (by omega)]
    have hP3 : rPath (zu r2 9 (r 9 + 1)) (zLn (zu r2 9 (r 9 + 1))) = rPath r (zLn r) := by
      rw [hLn3]
      exact hk3.path (by rw [eL]; omega) (hW.len _ (by rw [eL]; omega)).2
    have hkE : zu r2 9 (r 9 + 1) 5 = r 5 ∧ zu r2 9 (r 9 + 1) 1 = r 1 ∧ zu r2 9 (r 9 + 1) 3 = r 3 := ⟨by rw [zu_ne (by decide), hsn 5 (by omega)], by rw [zu_ne (by decide), hsn 1 (by omega)], by rw [zu_ne (by decide), hsn 3 (by omega)]⟩
    unfold rEndL at hq
    rw [hkE.1, hkE.2.1, hkE.2.2, h39] at hq
    generalize hr3 : zu r2 9 (r 9 + 1) = r3 at h3 hW3 hk3 h39 h36 h37 hLn3 hP3 hkE hq
    refine C_next0 S' gp hp (PL.c hk3 hW) h3 hW3 (by rw [h39]; omega) h36 h37 ?_
    have hc3 : (r 9 + 1).toNatClampNeg = (r 9).toNatClampNeg + 1 := by rw [ncln, e91]; omega
    have hQ3 := hQ.c hk3 hW
    refine ⟨fun hn => ?_, fun hn => ?_⟩
    · have hL2 : r 9 + 1 = nI (rPath r (zLn r)).length := by
        apply Decidable.byContradiction
        intro hcn
        have hlt3 : (r3 9).toNatClampNeg < (rPath r3 (zLn r3)).length := by
          rw [h39, hP3, hc3]
          have : ¬ (r 9).toNatClampNeg + 1 = (rPath r (zLn r)).length := fun e => hcn (by rw [neq, nI_toInt (by omega), e91]; omega)
          omega
        unfold rNp at hn
        rw [if_pos hlt3] at hn
        unfold rPosn at hn
        rw [hLn3, eL] at hn
        have e25 : r3 (25 + 0) = r (25 + 0) := hk3 _ (by omega)
        have := hQ3 0 (by decide) _ k12 (by rw [e25]; exact kL) (r3 9).toNatClampNeg (by rw [← eL, ← hLn3]; exact hlt3)
        rw [hn] at this
        exact absurd this.1 (by decide)
      rw [if_pos hL2] at hq
      have c1 : zf (zf f2 0 6 (r 9 + 1)) 0 4 1 0 1 = r 5 := by
        have : zf (zf f2 0 6 (r 9 + 1)) 0 4 1 0 1 = zf f2 0 6 (r 9 + 1) 0 1 := by simp only [zf_ap, if_true, Nat.reduceEqDiff, if_false]
        rw [this]; exact h3.1.1.trans hkE.1
      have gd : gi (zcs σ b (zf (zf f2 0 6 (r 9 + 1)) 0 4 1) s0 s1) p 1 = r 1 := by rw [gi_zcs_o _ _ _ _ _ (by omega)]; exact pdl
      have gg : gi (zcs σ b (zf (zf f2 0 6 (r 9 + 1)) 0 4 1) s0 s1) p 3 = r 3 := by rw [gi_zcs_o _ _ _ _ _ (by omega)]; exact pg
      simp only [forall_eq, si_zcs_b, gr_zcs, gp, Option.some.injEq, exists_eq_left', gi_zcs_b, c1, gd, gg]
      exact hq _ (RRs_w h3 _)
    · have hL2 : ¬ r 9 + 1 = nI (rPath r (zLn r)).length := by
        intro hcn
        apply hn
        have hlt3 : ¬ (r3 9).toNatClampNeg < (rPath r3 (zLn r3)).length := by
          rw [h39, hP3, hcn, nI_clamp (by omega)]
          omega
        unfold rNp
        rw [if_neg hlt3]
      rw [if_neg hL2] at hq
      exact hq _ h3
  · have hl2 : r (23 + 0) ≤ rFar r := by
      show r 23 ≤ rFar r
      rw [nlt] at hl
      rw [nle]; omega
    rw [if_pos hl2] at hq
    exact hq f h
theorem C_looks1 {ln : Nat → Nat} {σ : zS} {b p : Nat} {f : Nat → Nat → Int32} {s0 s1 : Int64} {r : Nat → Int32} (S : zMs (gr σ) ln b) (gp : gr σ b 0 = some p) (hp : p + 127 ≤ b ∨ b + 16 ≤ p) (PL : zPl σ ln p r) (h : RR f s0 s1 r) (hW : zW r) (hQ : zQp r) (h19 : (r 19).toInt ≤ 599) (h9 : 0 ≤ (r 9).toInt ∧ (r 9).toInt < (rPath r (zLn r)).length) (h6 : r 6 = 1) (h7 : r 7 = 0) {Q : zS → Prop} (hq : ∀ f', RR f' s0 s1 (rLooks r) → Q (zcs σ b f' s0 s1)) : wX3_sendIfPassing ln (zcs σ b f s0 s1) b Q := by
  have S' := S
  obtain ⟨⟨m1, m2, m3, m4, m5, m6⟩, ⟨a1, a2, a3, a4, a5, a6, a7, a8, a9⟩, ⟨l1, l2, l3, l4, l5, l6⟩⟩ := S
  have PL' := PL
  obtain ⟨⟨pn, pdl, pg, prr⟩, -⟩ := PL'
  have ha : zact r := ⟨by rw [h6]; decide, by rw [h7]; decide⟩
  have hc9 := ncl h9.1
  have e03 : f 0 3 = 1 := h.1.2.2.1.trans h6
  obtain ⟨ez, eL, k12, kL⟩ : zo r = 1 ∧ zLn r = 12 * 1 + (r 28).toNatClampNeg ∧ (r 28).toNatClampNeg < 12 ∧ (((r 28).toNatClampNeg : Nat) : Int) < (r (25 + 1)).toInt := by
    rcases zact_o hW (by rw [h6]; decide) with hh | hh
    · exact absurd (h6.symm.trans hh.1) (by decide)
    · exact ⟨hh.2.1, hh.2.2.1, hh.2.2.2.1, hh.2.2.2.2⟩
  have hlt : (r 9).toNatClampNeg < (rPath r (zLn r)).length := by omega
  have hPL := rPath_len hW (a := zLn r) (by rw [eL]; omega)
  have eNp : rNp r = rPosn r := by unfold rNp; rw [if_pos hlt]
  have hps : 0 ≤ (rPosn r).toInt ∧ (rPosn r).toInt < 28 := by
    unfold rPosn
    rw [eL]
    exact hQ 1 (by decide) _ k12 kL _ (by rw [← eL]; exact hlt)
  have hN := hW.N
  have hph := hW.p1
  have hr0 := hW.r1
  have f0 : f 4 0 = r 22 := h.2.1.2.1
  have f1 : f 4 1 = r 24 := h.2.1.2.2.1
  have gN : gi (zcs σ b f s0 s1) p 0 = r 0 := by rw [gi_zcs_o _ _ _ _ _ (by omega)]; exact pn
  have t1 : (1000 : Int32).toInt = 1000 := rfl
  have eN : (1000 * r 0).toInt = 1000 * (r 0).toInt := by rw [nmul (by rw [t1]; omega) (by rw [t1]; omega), t1]
  have eP : (1000 * rPosn r).toInt = 1000 * (rPosn r).toInt := by rw [nmul (by rw [t1]; omega) (by rw [t1]; omega), t1]
  have eX : (r 22 - 1000 * rPosn r).toInt = (r 22).toInt - 1000 * (rPosn r).toInt := by rw [nsub (by rw [eP]; omega) (by rw [eP]; omega), eP]
  have eF : mI (r 22 - 1000 * rPosn r).toInt (1000 * r 0).toInt = rFar r := by
    rw [eX, eN]
    unfold rFar
    rw [ez]
  unfold rLooks at hq
  rw [if_neg (fun hc => hc.elim ha.1 ha.2), ez] at hq
  refine C_next1 S' gp hp PL h hW h9.1 h6 h7 ?_
  rw [eNp]
  have hne : ¬ rPosn r = -1 := fun e => by
    rw [e] at hps
    exact absurd hps.1 (by decide)
  refine ⟨fun h => absurd h hne, fun _ => ?_⟩
  simp only [gi_zcs_b, e03, forall_eq, wX3_office]
  refine ⟨fun _ => ?_, fun h => absurd trivial h⟩
  simp only [gr_zcs, m2, gp, Option.some.injEq, exists_eq_left', wX6_circle, gN, gi_zcs_k σ b f s0 s1 (show 4 < 16 by decide), f0, forall_eq]
  refine wmodulo (by omega) ?_
  rw [eF]
  simp only [gi_zcs_k σ b f s0 s1 (show 4 < 16 by decide), f1]
  refine ⟨fun hl => ?_, fun hl => ?_⟩
  · have hl2 : ¬ r (23 + 1) ≤ rFar r := by
      show ¬ r 24 ≤ rFar r
      rw [nlt] at hl
      rw [nle]; omega
    rw [if_neg hl2] at hq
    refine C_sendPulse S' gp hp PL h hW h19 (fun f2 h2 => ?_)
    have hW1 : zW (rCnt r) := zW_out hW (nk (by omega)) _
    have hk1 : zkp r (rCnt r) := zkp_zu (fun _ _ => rfl) (nsk (by omega)) _
    have hsn : ∀ k, k = 5 ∨ k = 1 ∨ k = 3 ∨ k = 6 ∨ k = 7 ∨ k = 9 ∨ k = 27 ∨ k = 28 → rSnd (rCnt r) (rPosn r) k = r k := by
      intro k hk
      have : rCnt r k = r k := zu_ne (by omega)
      unfold rSnd
      split
      · rw [zu_ne (by omega)]; exact this
      · rw [← this]
        unfold rSends
        exact rPut_out _ (by omega) (by omega)
    have hW2 : zW (rSnd (rCnt r) (rPosn r)) := by
      unfold rSnd
      split
      · exact zW_out hW1 (nk (by omega)) _
      · exact zW_sends hW1 (by show (zu r 16 (r 16 + 1) 19).toInt ≤ 599; rw [zu_ne (by decide)]; exact h19)
    have hk2 : zkp r (rSnd (rCnt r) (rPosn r)) := by
      unfold rSnd
      split
      · exact zkp_zu hk1 (nsk (by omega)) _
      · exact zkp_sends hk1
    unfold rNext at hq
    generalize rSnd (rCnt r) (rPosn r) = r2 at h2 hW2 hk2 hsn hq
    have f06 : f2 0 6 = r 9 := (h2.1.2.2.2.2.2.1).trans (hsn 9 (by omega))
    have e9 := hsn 9 (by omega)
    rw [e9] at hq
    simp only [gi_zcs_b, f06, forall_eq, si_zcs_b]
    have h3 := RRs_9 h2 (r 9 + 1)
    have hW3 : zW (zu r2 9 (r 9 + 1)) := zW_out hW2 (nk (by omega)) _
    have hk3 : zkp r (zu r2 9 (r 9 + 1)) := zkp_zu hk2 (nsk (by omega)) _
    have e91 : (r 9 + 1).toInt = (r 9).toInt + 1 := ixs (k := 1) rfl (by decide) (by omega) (by omega)
    have h39 : zu r2 9 (r 9 + 1) 9 = r 9 + 1 := zu_self _ _ _
    have h36 : zu r2 9 (r 9 + 1) 6 = 1 := by rw [zu_ne (by decide), hsn 6 (by omega)]; exact h6
    have h37 : zu r2 9 (r 9 + 1) 7 = 0 := by rw [zu_ne (by decide), hsn 7 (by omega)]; exact h7
    have hLn3 : zLn (zu r2 9 (r 9 + 1)) = zLn r := by
      have hz3 : zo (zu r2 9 (r 9 + 1)) = zo r := by unfold zo; rw [h36, h6]
      unfold zLn
      rw [hz3, ez, zu_ne (by decide), hsn (27 + 1) (by omega)]
    have hP3 : rPath (zu r2 9 (r 9 + 1)) (zLn (zu r2 9 (r 9 + 1))) = rPath r (zLn r) := by
      rw [hLn3]
      exact hk3.path (by rw [eL]; omega) (hW.len _ (by rw [eL]; omega)).2
    have hkE : zu r2 9 (r 9 + 1) 5 = r 5 ∧ zu r2 9 (r 9 + 1) 1 = r 1 ∧ zu r2 9 (r 9 + 1) 3 = r 3 := ⟨by rw [zu_ne (by decide), hsn 5 (by omega)], by rw [zu_ne (by decide), hsn 1 (by omega)], by rw [zu_ne (by decide), hsn 3 (by omega)]⟩
    unfold rEndL at hq
    rw [hkE.1, hkE.2.1, hkE.2.2, h39] at hq
    generalize hr3 : zu r2 9 (r 9 + 1) = r3 at h3 hW3 hk3 h39 h36 h37 hLn3 hP3 hkE hq
    refine C_next1 S' gp hp (PL.c hk3 hW) h3 hW3 (by rw [h39]; omega) h36 h37 ?_
    have hc3 : (r 9 + 1).toNatClampNeg = (r 9).toNatClampNeg + 1 := by rw [ncln, e91]; omega
    have hQ3 := hQ.c hk3 hW
    refine ⟨fun hn => ?_, fun hn => ?_⟩
    · have hL2 : r 9 + 1 = nI (rPath r (zLn r)).length := by
        apply Decidable.byContradiction
        intro hcn
        have hlt3 : (r3 9).toNatClampNeg < (rPath r3 (zLn r3)).length := by
          rw [h39, hP3, hc3]
          have : ¬ (r 9).toNatClampNeg + 1 = (rPath r (zLn r)).length := fun e => hcn (by rw [neq, nI_toInt (by omega), e91]; omega)
          omega
        unfold rNp at hn
        rw [if_pos hlt3] at hn
        unfold rPosn at hn
        rw [hLn3, eL] at hn
        have e25 : r3 (25 + 1) = r (25 + 1) := hk3 _ (by omega)
        have := hQ3 1 (by decide) _ k12 (by rw [e25]; exact kL) (r3 9).toNatClampNeg (by rw [← eL, ← hLn3]; exact hlt3)
        rw [hn] at this
        exact absurd this.1 (by decide)
      rw [if_pos hL2] at hq
      have c1 : zf (zf f2 0 6 (r 9 + 1)) 0 4 1 0 1 = r 5 := by
        have : zf (zf f2 0 6 (r 9 + 1)) 0 4 1 0 1 = zf f2 0 6 (r 9 + 1) 0 1 := by simp only [zf_ap, if_true, Nat.reduceEqDiff, if_false]
        rw [this]; exact h3.1.1.trans hkE.1
      have gd : gi (zcs σ b (zf (zf f2 0 6 (r 9 + 1)) 0 4 1) s0 s1) p 1 = r 1 := by rw [gi_zcs_o _ _ _ _ _ (by omega)]; exact pdl
      have gg : gi (zcs σ b (zf (zf f2 0 6 (r 9 + 1)) 0 4 1) s0 s1) p 3 = r 3 := by rw [gi_zcs_o _ _ _ _ _ (by omega)]; exact pg
      simp only [forall_eq, si_zcs_b, gr_zcs, gp, Option.some.injEq, exists_eq_left', gi_zcs_b, c1, gd, gg]
      exact hq _ (RRs_w h3 _)
    · have hL2 : ¬ r 9 + 1 = nI (rPath r (zLn r)).length := by
        intro hcn
        apply hn
        have hlt3 : ¬ (r3 9).toNatClampNeg < (rPath r3 (zLn r3)).length := by
          rw [h39, hP3, hcn, nI_clamp (by omega)]
          omega
        unfold rNp
        rw [if_neg hlt3]
      rw [if_neg hL2] at hq
      exact hq _ h3
  · have hl2 : r (23 + 1) ≤ rFar r := by
      show r 24 ≤ rFar r
      rw [nlt] at hl
      rw [nle]; omega
    rw [if_pos hl2] at hq
    exact hq f h
theorem C_looks {ln : Nat → Nat} {σ : zS} {b p : Nat} {f : Nat → Nat → Int32} {s0 s1 : Int64} {r : Nat → Int32} (S : zMs (gr σ) ln b) (gp : gr σ b 0 = some p) (hp : p + 127 ≤ b ∨ b + 16 ≤ p) (PL : zPl σ ln p r) (h : RR f s0 s1 r) (hW : zW r) (hQ : zQp r) (h19 : (r 19).toInt ≤ 599) (h9 : zact r → 0 ≤ (r 9).toInt ∧ (r 9).toInt < (rPath r (zLn r)).length) {Q : zS → Prop} (hq : ∀ f', RR f' s0 s1 (rLooks r) → Q (zcs σ b f' s0 s1)) : wX3_sendIfPassing ln (zcs σ b f s0 s1) b Q := by
  by_cases ha : zact r
  · have h7 : r 7 = 0 := hW.w.elim id (fun e => absurd e ha.2)
    rcases hW.h6 ha.1 with h6 | h6
    · exact C_looks0 S gp hp PL h hW hQ h19 (h9 ha) h6 h7 hq
    · exact C_looks1 S gp hp PL h hW hQ h19 (h9 ha) h6 h7 hq
  · refine C_next S gp hp PL h hW (fun h => absurd h ha) (fun _ => ⟨fun _ => ?_, fun h => absurd rfl h⟩) (fun h => absurd h ha)
    have e : rLooks r = r := by
      unfold rLooks
      rw [if_pos ?_]
      by_cases h6 : r 6 = -1
      · exact Or.inl h6
      · exact Or.inr (Decidable.byContradiction fun h7 => ha ⟨h6, h7⟩)
    rw [e] at hq
    exact hq f h
theorem C_tick148 {ln : Nat → Nat} {σ : zS} {b p : Nat} {f : Nat → Nat → Int32} {s0 s1 : Int64} {r : Nat → Int32} (S : zMs (gr σ) ln b) (gp : gr σ b 0 = some p) (hp : p + 127 ≤ b ∨ b + 16 ≤ p) (PL : zPl σ ln p r) (h : RR f s0 s1 r) (hW : zW r) {Q : zS → Prop} (hq : ∀ f', RR f' s0 s1 (rT2 r) → Q (zcs σ b f' s0 s1)) : wX3_tick_148 ln Q b (zcs σ b f s0 s1) := by
  have S' := S
  obtain ⟨⟨m1, m2, m3, m4, m5, m6⟩, ⟨a1, a2, a3, a4, a5, a6, a7, a8, a9⟩, ⟨l1, l2, l3, l4, l5, l6⟩⟩ := S
  obtain ⟨⟨pn, pdl, pg, prr⟩, -⟩ := PL
  have e03 : f 0 3 = r 6 := h.1.2.2.1
  have e01 : f 0 1 = r 5 := h.1.1
  have e08 : f 0 8 = r 15 := h.1.2.2.2.2.2.2.2.1
  have gg : gi (zcs σ b f s0 s1) p 3 = r 3 := by rw [gi_zcs_o _ _ _ _ _ (by omega)]; exact pg
  unfold rT2 at hq
  simp only [wX3_tick_148, wX3_silentTicks, gi_zcs_b, e03, e01, e08, gr_zcs, gp, m3, Option.some.injEq, exists_eq_left', gg]
  refine ⟨fun h6 => ?_, fun h6 => ⟨fun hl => ?_, fun hl => ?_⟩⟩
  · rw [if_pos h6] at hq; exact hq f h
  · rw [if_neg h6, if_pos hl] at hq; exact hq f h
  · rw [if_neg h6, if_neg hl] at hq
    exact C_clears S' h hW.b.1 hq
theorem C_tick121 {ln : Nat → Nat} {σ : zS} {b p : Nat} {f : Nat → Nat → Int32} {s0 s1 : Int64} {r : Nat → Int32} (S : zMs (gr σ) ln b) (gp : gr σ b 0 = some p) (hp : p + 127 ≤ b ∨ b + 16 ≤ p) (PL : zPl σ ln p r) (h : RR f s0 s1 r) (hW : zW r) (hQ : zQp r) (h19 : (r 19).toInt ≤ 599) (h9 : zact r → 0 ≤ (r 9).toInt ∧ (r 9).toInt < (rPath r (zLn r)).length) (h67 : r 7 = 1 → ¬ r 6 = -1) {Q : zS → Prop} (hq : ∀ f', RR f' s0 s1 (rT2 (rT1 (rLooks r))) → Q (zcs σ b f' s0 s1)) : wX3_tick_121 ln Q b (zcs σ b f s0 s1) := by
  refine C_looks S gp hp PL h hW hQ h19 h9 (fun f1 h1 => ?_)
  have hW1 := zW_looks hW h19
  have hk1 : zkp r (rLooks r) := zkp_looks (fun _ _ => rfl)
  have h61 : rLooks r 7 = 1 → ¬ rLooks r 6 = -1 := by
    intro h7 h6
    unfold rLooks at h6 h7
    split at h6
    · rename_i hc
      rw [if_pos hc] at h7
      exact h67 h7 h6
    · rename_i hc
      have h6' : ¬ r 6 = -1 := fun e => hc (Or.inl e)
      split at h6
      · exact h6' h6
      · refine h6' (Eq.trans ?_ h6)
        have e1 : rCnt r 6 = r 6 := zu_ne (by decide)
        have e2 : rSnd (rCnt r) (rPosn r) 6 = r 6 := by
          unfold rSnd
          split
          · rw [zu_ne (by decide)]; exact e1
          · unfold rSends
            rw [rPut_out _ (by decide) (by omega)]; exact e1
        unfold rNext rEndL
        split
        · rw [zu_ne (by decide), zu_ne (by decide), zu_ne (by decide), e2]
        · rw [zu_ne (by decide), e2]
  have PL1 := PL.c hk1 hW
  generalize rLooks r = r1 at h1 hW1 hk1 h61 PL1 hq
  have e04 : f1 0 4 = r1 7 := h1.1.2.2.2.1
  have e01 : f1 0 1 = r1 5 := h1.1.1
  unfold rT1 at hq
  simp only [gi_zcs_b, e04, e01]
  refine ⟨fun h7 => ?_, fun h7 => ⟨fun hl => ?_, fun hl => ?_⟩⟩
  · have : ¬ r1 7 = 1 := by rw [h7]; decide
    have e : (if r1 6 = -1 then r1 else if r1 7 = 1 then (if r1 5 < r1 8 then r1 else rLineFailed r1) else r1) = r1 := by
      by_cases h6 : r1 6 = -1
      · rw [if_pos h6]
      · rw [if_neg h6, if_neg this]
    rw [e] at hq
    exact C_tick148 S gp hp PL1 h1 hW1 hq
  · have h71 : r1 7 = 1 := hW1.w.elim (fun e => absurd e h7) id
    have e05 : f1 0 5 = r1 8 := h1.1.2.2.2.2.1 h71
    rw [e05] at hl
    rw [if_neg (h61 h71), if_pos h71, if_pos hl] at hq
    exact C_tick148 S gp hp PL1 h1 hW1 hq
  · have h71 : r1 7 = 1 := hW1.w.elim (fun e => absurd e h7) id
    have e05 : f1 0 5 = r1 8 := h1.1.2.2.2.2.1 h71
    rw [e05] at hl
    rw [if_neg (h61 h71), if_pos h71, if_neg hl] at hq
    have h6 := hW1.h6 (h61 h71)
    refine C_endLine S gp hp PL1 h1 hW1 h6 false (fun f2 h2 => ?_)
    have hk2 : zkp r (rLineFailed r1) := zkp_lineFailed hk1 h6 hW1.e
    exact C_tick148 S gp hp (PL.c hk2 hW) h2 (zW_lineFailed hW1 h6) hq
