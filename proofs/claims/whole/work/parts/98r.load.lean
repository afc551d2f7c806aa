/-! CALLS: load: the worlds that it leaves -/
section ZLOADW
variable {S : zSp} {σ σ' : zS} {N p p' s m : Nat} {h : Nat → Nat → Int32}
theorem zWp.pb' (W : zWp S σ N p p' s m h) : 7 ≤ p' ∧ p' + 127 ≤ 261 ∧ (p' + 127 ≤ p ∨ p + 127 ≤ p') := by have := W.2.1.1; omega
theorem zWp.ps' (W : zWp S σ N p p' s m h) : zPs (gr σ) (zSl S) p' := by
  rcases W.2.1.1 with ⟨_, e⟩ | ⟨_, e⟩
  · rw [e]; exact W.1.2.2.2.2.2.1.2
  · rw [e]; exact W.1.2.2.2.2.2.1.1
/-- a text that fails -/
theorem zWp_err (W : zWp S σ N p p' s m h) (egr : gr σ' = gr σ) (ei : ∀ a, ¬ (a = 0 ∨ a = 1 ∨ a = 3 ∨ a = 4 ∨ (p' ≤ a ∧ a < p' + 127) ∨ a = 455 ∨ a = 457) → gi σ' a = gi σ a) (el : ∀ a, a < 455 → gl σ' a = gl σ a) (e1 : gi σ' 1 1 = 0) (e13 : gi σ' 455 13 = 0) (e5 : gi σ' 455 5 = gi σ 455 5) (e11 : gi σ' 455 11 = gi σ 455 11) (e14 : gi σ' 0 8 = gi σ' 455 14) : zWp S σ' N p p' s m h := by
  have hpb := W.pb'
  have hpp := W.2.1.1
  obtain ⟨w1, w2, ⟨w3, w3'⟩, ⟨w4, w4', w4''⟩, w5, ⟨w6, w6', ⟨h1, h2, h3⟩, ⟨r1, r2⟩, w6''⟩, -, w8, ⟨a, c, s1, s2, s3, s4, s5, s6, s7, s8, s9, s10, s11, s12⟩⟩ := W
  have e456 := ei 456 (by omega)
  unfold zWp
  rw [egr, e456]
  refine ⟨w1, w2, ⟨zPl_ci w3 egr (fun a _ _ => ei a (by omega)), fun q hq k hk hk2 => ?_⟩, ⟨KM_o w4 (fun a _ _ => ⟨ei a (by omega), el a (by omega)⟩), w4', w4''⟩, fun b hb => ?_, ⟨w6, w6', ⟨?_, ?_, fun i hi => ?_⟩, ⟨?_, fun i hi k hk => ?_⟩, w6''⟩, ⟨0, by decide, e1, e13, fun k hk => absurd hk (Nat.not_lt_zero k)⟩, e14, ⟨a, c, ?_, s2, s3, s4, s5, ?_, ?_, ?_, s9, s10, fun k hk => ?_, fun k hk => ?_⟩⟩
  · rw [ei _ (by omega)]
    exact w3' q hq k hk hk2
  · have hb2 := zIsM_b hb
    rw [ei _ (by omega), ei _ (by omega)]
    exact w5 b hb
  · rw [ei _ (by omega)]; exact h1
  · rw [ei _ (by omega)]; exact h2
  · have hb := hslot_b s i
    rw [egr]
    exact ⟨(h3 i hi).1, KM_o (h3 i hi).2 (fun a _ _ => ⟨ei a (by omega), el a (by omega)⟩)⟩
  · rw [e5]; exact r1
  · rw [ei _ (by omega)]; exact r2 i hi k hk
  · rw [egr]; exact s1
  · rw [ei _ (by omega)]; exact s6
  · rw [ei _ (by omega)]; exact s7
  · rw [e11]; exact s8
  · rw [ei _ (by omega), ei _ (by omega)]; exact s11 k hk
  · rw [ei _ (by omega)]; exact s12 k hk
/-- the references as a new text has come -/
theorem zST_new {g g' : Nat → Nat → Option Nat} {ln : Nat → Nat} (H : zST g ln) (e : ∀ a j, ¬ (a = 0 ∧ (j = 6 ∨ j = 7)) → ¬ (a = 261 ∧ j = 0) → g' a j = g a j) : zST g' ln := by
  obtain ⟨⟨a0, a1, a2, a3, a4, a5⟩, ⟨b1, b2, b3⟩, cc, ⟨d1, d2, d3⟩, hm, ⟨p1, p2⟩, ⟨⟨m1, m2, m3, m4, m5, m6, m7, m8⟩, ml⟩⟩ := H
  have zp : ∀ p, p = 7 ∨ p = 134 → zPs g ln p → zPs g' ln p := fun p hp P => by
    obtain ⟨⟨x1, x2, x3⟩, ⟨x4, x5⟩, ⟨x6, x7, x8, x9⟩, xk⟩ := P
    refine ⟨⟨by rw [e _ _ (by omega) (by omega)]; exact x1, by rw [e _ _ (by omega) (by omega)]; exact x2, x3⟩, ⟨by rw [e _ _ (by omega) (by omega)]; exact x4, by rw [e _ _ (by omega) (by omega)]; exact x5⟩, ⟨by rw [e _ _ (by omega) (by omega)]; exact x6, by rw [e _ _ (by omega) (by omega)]; exact x7, x8, x9⟩, fun q hq k hk => ?_⟩
    rw [e _ _ (by omega) (by omega), e _ _ (by omega) (by omega), e _ _ (by omega) (by omega), e _ _ (by omega) (by omega), e _ _ (by omega) (by omega)]
    exact xk q hq k hk
  refine ⟨⟨by rw [e _ _ (by omega) (by omega)]; exact a0, by rw [e _ _ (by omega) (by omega)]; exact a1, by rw [e _ _ (by omega) (by omega)]; exact a2, by rw [e _ _ (by omega) (by omega)]; exact a3, by rw [e _ _ (by omega) (by omega)]; exact a4, by rw [e _ _ (by omega) (by omega)]; exact a5⟩, ⟨by rw [e _ _ (by omega) (by omega)]; exact b1, by rw [e _ _ (by omega) (by omega)]; exact b2, by rw [e _ _ (by omega) (by omega)]; exact b3⟩, cc, ⟨by rw [e _ _ (by omega) (by omega)]; exact d1, fun i hi => by rw [e _ _ (by omega) (by omega)]; exact d2 i hi, d3⟩, fun b hb => ?_, ⟨zp 7 (Or.inl rfl) p1, zp 134 (Or.inr rfl) p2⟩, ⟨⟨by rw [e _ _ (by omega) (by omega)]; exact m1, by rw [e _ _ (by omega) (by omega)]; exact m2, by rw [e _ _ (by omega) (by omega)]; exact m3, by rw [e _ _ (by omega) (by omega)]; exact m4, by rw [e _ _ (by omega) (by omega)]; exact m5, by rw [e _ _ (by omega) (by omega)]; exact m6, by rw [e _ _ (by omega) (by omega)]; exact m7, by rw [e _ _ (by omega) (by omega)]; exact m8⟩, ml⟩⟩
  have hb2 := zIsM_b hb
  have e' : ∀ a j, a ≠ 0 → (a = 261 → j ≠ 0) → g' a j = g a j := fun a j h1 h2 => e a j (fun x => h1 x.1) (fun x => h2 x.1 x.2)
  have hbo : b = 261 ∨ b = 277 ∨ 295 ≤ b := by
    rcases hb with h | h | ⟨i, hi, h⟩ <;> omega
  obtain ⟨⟨y1, y2, y3, y4, y5, y6⟩, ⟨z1, z2, z3, z4, z5, z6, z7, z8, z9⟩, l⟩ := hm b hb
  exact ⟨⟨by rw [e' _ _ (by omega) (by omega)]; exact y1, by rw [e' _ _ (by omega) (by omega)]; exact y2, by rw [e' _ _ (by omega) (by omega)]; exact y3, by rw [e' _ _ (by omega) (by omega)]; exact y4, by rw [e' _ _ (by omega) (by omega)]; exact y5, by rw [e' _ _ (by omega) (by omega)]; exact y6⟩, ⟨by rw [e' _ _ (by omega) (by omega)]; exact z1, by rw [e' _ _ (by omega) (by omega)]; exact z2, by rw [e' _ _ (by omega) (by omega)]; exact z3, by rw [e' _ _ (by omega) (by omega)]; exact z4, by rw [e' _ _ (by omega) (by omega)]; exact z5, by rw [e' _ _ (by omega) (by omega)]; exact z6, by rw [e' _ _ (by omega) (by omega)]; exact z7, by rw [e' _ _ (by omega) (by omega)]; exact z8, by rw [e' _ _ (by omega) (by omega)]; exact z9⟩, l⟩
/-- a plan that was read -/
theorem zPl_read {F : Nat → Nat → Int32} {ln : Nat → Nat} {r : zRow} (PS : zPs (gr σ') ln p') (P : zPn F r) (U : ∀ v : Nat, v < 2 → ∀ k : Nat, k < 12 → (k : Int) < (r (25 + v)).toInt → zPu F r v k) (eF : ∀ k, k < 127 → gi σ' (p' + k) = F k) : zPl σ' ln p' r ∧ zCh σ' p' r := by
  have e0 : gi σ' p' = F 0 := eF 0 (by decide)
  obtain ⟨-, ⟨s1, s2⟩, ⟨s3, s4, s5, s6⟩, sk⟩ := PS
  obtain ⟨⟨a0, a1, a2, a3, a4⟩, b, d, e⟩ := P
  have d0 := (d 0 (by decide)).2.2
  have d1 := (d 1 (by decide)).2.2
  refine ⟨⟨⟨by rw [e0]; exact a0, by rw [e0]; exact a1, by rw [e0]; exact a3, by rw [e0]; exact a4⟩, ⟨s1, s2⟩, ⟨by rw [eF 3 (by decide)]; exact d0, by rw [eF 65 (by decide)]; exact d1⟩, ⟨s3, s4, s5, s6⟩, fun q hq k hk => ⟨⟨(sk q hq k hk).1, (sk q hq k hk).2.2.2.1, (sk q hq k hk).2.2.2.2.1, (sk q hq k hk).2.2.2.2.2.2⟩, fun hlt => ?_⟩⟩, fun q hq k hk hlt => ?_⟩
  · obtain ⟨u1, u2⟩ := U q hq k hk hlt
    rw [show p' + 8 + 62 * q + 5 * k = p' + (8 + 62 * q + 5 * k) by omega, show p' + 9 + 62 * q + 5 * k = p' + (9 + 62 * q + 5 * k) by omega, eF _ (by omega), eF _ (by omega)]
    exact ⟨u1, u2⟩
  · rw [show p' + 6 + 62 * q + 5 * k = p' + (6 + 62 * q + 5 * k) by omega, eF _ (by omega), (e q hq k hk hlt).1, Nat.add_assoc]
/-- a text that was read -/
theorem zWp_new (W : zWp S σ N p p' s m h) {r : zRow} {o : Nat} {F : Nat → Nat → Int32} (V : zPV r o) (P : zPn F r) (U : ∀ v : Nat, v < 2 → ∀ k : Nat, k < 12 → (k : Int) < (r (25 + v)).toInt → zPu F r v k) (eg : gr σ' = gr (sr (sr (sr σ 0 7 (some p)) 0 6 (some p')) 261 0 (some p'))) (eF : ∀ k, k < 127 → gi σ' (p' + k) = F k) (K : KM σ' 261 r) (row : zcg r (gi σ' 456)) (ei : ∀ a, ¬ (a = 0 ∨ a = 1 ∨ a = 3 ∨ a = 4 ∨ (p' ≤ a ∧ a < p' + 127) ∨ (261 ≤ a ∧ a < 277) ∨ a = 293 ∨ a = 455 ∨ a = 456 ∨ a = 457) → gi σ' a = gi σ a) (e08 : gi σ' 0 8 = -1) (e14 : gi σ' 455 14 = -1) (e1 : gi σ' 1 1 = 0) (e13 : gi σ' 455 13 = 0) (e5 : gi σ' 455 5 = 0) (e11 : gi σ' 455 11 = gi σ 455 11) (x1 : gi σ' 293 1 = gi σ 293 1) (x2 : gi σ' 293 2 = 0) : zWp S σ' N p' p s 0 h := by
  have hpb := W.pb'
  have hpp := W.2.1.1
  have E := zPV_E (N := N) V
  have hW := zPV_W V
  obtain ⟨w1, w2, -, -, w5, ⟨w6, w6', ⟨h1, h2, h3⟩, -, -⟩, -, w8, ⟨a, c, s1, s2, s3, s4, s5, s6, s7, s8, s9, s10, s11, s12⟩⟩ := W
  have eg' : ∀ a j, ¬ (a = 0 ∧ (j = 6 ∨ j = 7)) → ¬ (a = 261 ∧ j = 0) → gr σ' a j = gr σ a j := fun a j y1 y2 => by
    rw [eg, gr_sr]
    by_cases z1 : a = 261
    · rw [if_pos z1, if_neg (fun x => y2 ⟨z1, x⟩), gr_sr, if_neg (by omega), gr_sr, if_neg (by omega)]
    · rw [if_neg z1, gr_sr]
      by_cases z2 : a = 0
      · rw [if_pos z2, if_neg (by omega), gr_sr, if_pos z2, if_neg (by omega)]
      · rw [if_neg z2, gr_sr, if_neg z2]
  have ST := zST_new w1 eg'
  have PS : zPs (gr σ') (zSl S) p' := by
    rcases hpp with ⟨_, e⟩ | ⟨_, e⟩
    · rw [e]; exact ST.2.2.2.2.2.1.2
    · rw [e]; exact ST.2.2.2.2.2.1.1
  obtain ⟨PL, CH⟩ := zPl_read PS P U eF
  have k0 : (gi σ' 456 5).toInt ≤ 100000 := by
    rw [row 5 (by decide), V.2.2.2.2.1.2 5 (by omega)]
    decide
  refine ⟨ST, ⟨by omega, ?_, ?_, ?_⟩, ⟨PL.c (zkp_cg row) hW, fun q hq k hk hlt => ?_⟩, ⟨KM_cg K hW row, zEv_cg E row, k0⟩, fun b hb => ?_, ⟨by decide, w6', ⟨x1.trans h1, x2, fun i hi => absurd hi (Nat.not_lt_zero i)⟩, ⟨e5, fun i hi => absurd hi (Nat.not_lt_zero i)⟩, fun i hi => absurd hi (Nat.not_lt_zero i)⟩, ⟨0, by decide, e1, e13, fun k hk => absurd hk (Nat.not_lt_zero k)⟩, e08.trans e14.symm, ⟨a, c, ?_, s2, s3, s4, s5, ?_, ?_, ?_, s9, s10, fun k hk => ?_, fun k hk => ?_⟩⟩
  · rw [eg, gr_sr, if_neg (by decide), gr_sr, if_pos rfl, if_pos rfl]
  · rw [eg, gr_sr, if_neg (by decide), gr_sr, if_pos rfl, if_neg (by decide), gr_sr, if_pos rfl, if_pos rfl]
  · rw [eg, gr_sr, if_pos rfl, if_pos rfl]
  · rw [row (25 + q) (by omega)] at hlt
    rw [row (219 + 12 * q + k) (by omega)]
    exact CH q hq k hk hlt
  · have hb2 := zIsM_b hb
    by_cases eb : b = 261
    · subst eb
      exact KM_cap K
    · have hbo : 277 ≤ b ∧ (b = 277 ∨ 295 ≤ b) := by
        rcases hb with h | h | ⟨i, hi, h⟩ <;> omega
      rw [ei _ (by omega), ei _ (by omega)]
      exact w5 b hb
  · rw [eg' _ _ (by omega) (by omega)]; exact s1
  · rw [ei _ (by omega)]; exact s6
  · rw [ei _ (by omega)]; exact s7
  · rw [e11]; exact s8
  · rw [ei _ (by omega), ei _ (by omega)]; exact s11 k hk
  · rw [ei _ (by omega)]; exact s12 k hk
end ZLOADW
