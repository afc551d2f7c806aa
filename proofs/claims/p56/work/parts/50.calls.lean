/-! THE CLASS'S CALLS: lead, making, input, load, run -/
section QC
variable {S : zSp} {σ : zS} {r : Nat → Int32} {N p p' s m : Nat} {h : Nat → Nat → Int32}
def rLead (r : Nat → Int32) : Int := ((r 22).toInt + (r 1).toInt * (r 24).toInt - (r 21).toInt + 500 * (r 0).toInt) % (1000 * (r 0).toInt) - 500 * (r 0).toInt
theorem q_lead (W : qW S σ r N p p' s m h) {Q : Int32 → zS → Prop} (hq : ∀ v : Int32, v.toInt = rLead r → Q v σ) : wX11_lead (zSl S) σ 0 Q := by
  have S1 := W.sm
  obtain ⟨⟨m1, m2, m3, m4, m5, m6⟩, ⟨a1, a2, a3, a4, a5, a6, a7, a8, a9⟩, -⟩ := S1
  have K1 := W.km
  have hN := W.w.N
  have hd := W.w.d
  have hp0 := W.w.p0
  have hp1 := W.w.p1
  have hr1 := W.w.r1
  have f0 : gi σ 262 0 = r 21 := K1.2.1.1.1
  have f1 : gi σ 265 0 = r 22 := K1.2.1.2.1
  have f2 : gi σ 265 1 = r 24 := K1.2.1.2.2.1
  have pn : gi σ p 0 = r 0 := W.pl.1.1
  have pd : gi σ p 1 = r 1 := W.pl.1.2.1
  have t1 : (1000 : Int32).toInt = 1000 := rfl
  have t2 : (2 : Int32).toInt = 2 := rfl
  have eN : (1000 * r 0).toInt = 1000 * (r 0).toInt := by rw [nmul (by rw [t1]; omega) (by rw [t1]; omega), t1]
  have eh : (1000 * r 0 / 2).toInt = 500 * (r 0).toInt := by rw [ndiv (by rw [eN]; omega) (by rw [t2]; omega), eN, t2]; omega
  have hpr : 10 ≤ (r 1).toInt * (r 24).toInt ∧ (r 1).toInt * (r 24).toInt ≤ 50000 := by
    have x1 : 1 * 10 ≤ (r 1).toInt * (r 24).toInt := Int.mul_le_mul hd.1 hr1.1 (by decide) (by omega)
    have x2 : (r 1).toInt * (r 24).toInt ≤ 50 * 999 := Int.mul_le_mul hd.2 hr1.2 (by omega) (by decide)
    omega
  have em : (r 1 * r 24).toInt = (r 1).toInt * (r 24).toInt := nmul (by omega) (by omega)
  have ea : (r 22 + r 1 * r 24).toInt = (r 22).toInt + (r 1).toInt * (r 24).toInt := by rw [nadd (by rw [em]; omega) (by rw [em]; omega), em]
  have eb : (r 22 + r 1 * r 24 - r 21).toInt = (r 22).toInt + (r 1).toInt * (r 24).toInt - (r 21).toInt := by rw [nsub (by rw [ea]; omega) (by rw [ea]; omega), ea]
  have ec : (r 22 + r 1 * r 24 - r 21 + 1000 * r 0 / 2).toInt = (r 22).toInt + (r 1).toInt * (r 24).toInt - (r 21).toInt + 500 * (r 0).toInt := by rw [nadd (by rw [eb, eh]; omega) (by rw [eb, eh]; omega), eb, eh]
  simp only [wX11_lead, W.g3, W.gp, m1, m2, Option.some.injEq, exists_eq_left', wX6_circle, f0, f1, f2, pn, pd, forall_eq]
  refine wmodulo (by omega) ?_
  rw [ec, eN]
  refine hq _ ?_
  have v2 := mIt (v := (r 22).toInt + (r 1).toInt * (r 24).toInt - (r 21).toInt + 500 * (r 0).toInt) (n := 1000 * (r 0).toInt) (by omega) (by omega)
  have w1 := Int.emod_nonneg ((r 22).toInt + (r 1).toInt * (r 24).toInt - (r 21).toInt + 500 * (r 0).toInt) (show 1000 * (r 0).toInt ≠ 0 by omega)
  have w2 := Int.emod_lt_of_pos ((r 22).toInt + (r 1).toInt * (r 24).toInt - (r 21).toInt + 500 * (r 0).toInt) (show 0 < 1000 * (r 0).toInt by omega)
  rw [nsub (by rw [v2, eh]; omega) (by rw [v2, eh]; omega), v2, eh]
  rfl
end QC
/-- the first world -/
theorem qW_0 {S : zSp} {σ : zS} (M : zMade S σ) : qW S σ r00 0 7 134 0 0 (fun _ _ => 0) ∧ gi σ 1 1 = 0 ∧ zSk S = 455 := by
  obtain ⟨k, ⟨a0, a1, a2, a3, a4, a5, a6, a7⟩, b8, ⟨c1, c2, c3⟩, ⟨d1, d2⟩, ⟨s1, s2, s3, s4⟩, ⟨P7, Z7⟩, P134, ⟨m1, M1, K1⟩, ⟨M2, K2⟩, h1, h2, h3, hkm⟩ := M
  have E := zPV_E (N := 0) zPV_r00
  have KM' : ∀ b, zIsM b → KM σ b r00 := fun b hb => by
    rcases hb with rfl | rfl | ⟨i, hi, rfl⟩
    · exact K1
    · exact K2
    · exact (hkm i hi).2.2
  have ST : qST (gr σ) (zSl S) := by
    refine ⟨⟨a0, a1, a2, a3, a4, a5⟩, ⟨c1, d1, d2⟩, c2, ⟨h1, fun i hi => (hkm i hi).1, h2⟩, fun b hb => ?_, ⟨P7, P134⟩⟩
    rcases hb with rfl | rfl | ⟨i, hi, rfl⟩
    · exact M1
    · exact M2
    · exact (hkm i hi).2.1
  obtain ⟨PL, CH⟩ := zPl_read (σ' := σ) (ln := zSl S) P7 (zPn_r00 Z7) (fun v hv k hk hlt => by
    rw [r00_z (k := 25 + v) (by omega)] at hlt
    exact absurd hlt (by rw [show (0 : Int32).toInt = 0 from rfl]; omega)) (fun k hk => rfl)
  exact ⟨⟨ST, ⟨Or.inl ⟨rfl, rfl⟩, a6, a7, m1⟩, ⟨PL, CH⟩, ⟨K1, E, by decide⟩, fun b hb => KM_cap (KM' b hb), ⟨by decide, by decide, ⟨by rw [h3]; rfl, by rw [h3]; rfl, fun i hi => absurd hi (Nat.not_lt_zero i)⟩⟩, s3 3, by omega⟩, c3, k⟩
/-- the input -/
def qIn (σ : zS) (n : Nat) (c : Nat → Int32) : Prop := gi σ 1 1 = nI n ∧ ∀ k, k < n → gi σ 2 k = c k
def q12 (σ σ' : zS) : Prop := σ'.2 = σ.2 ∧ ∀ a, a ≠ 1 → a ≠ 2 → gi σ' a = gi σ a
theorem q12.tr {σ σ' σ'' : zS} (h : q12 σ σ') (g : q12 σ' σ'') : q12 σ σ'' := ⟨g.1.trans h.1, fun a h1 h2 => (g.2 a h1 h2).trans (h.2 a h1 h2)⟩
theorem qW.in12 {S : zSp} {σ σ' : zS} {r : Nat → Int32} {N p p' s m : Nat} {h : Nat → Nat → Int32} (W : qW S σ r N p p' s m h) (F : q12 σ σ') : qW S σ' r N p p' s m h := by
  obtain ⟨w1, w2, ⟨w3, w3'⟩, ⟨w4, w4'⟩, w5, ⟨w6, w6', ⟨h1, h2, h3⟩⟩, w7, w8⟩ := W
  have egr : gr σ' = gr σ := by show σ'.2.1 = σ.2.1; rw [F.1]
  have egl : gl σ' = gl σ := by show σ'.2.2.1 = σ.2.2.1; rw [F.1]
  have hp : 7 ≤ p := by omega
  unfold qW
  rw [egr]
  refine ⟨w1, w2, ⟨zPl_ci w3 egr (fun a _ _ => F.2 a (by omega) (by omega)), fun q hq k hk hk2 => ?_⟩, ⟨KM_o w4 (fun a _ _ => ⟨F.2 a (by omega) (by omega), by rw [egl]⟩), w4'⟩, fun b hb => ?_, ⟨w6, w6', ⟨?_, ?_, fun i hi => ?_⟩⟩, ?_, w8⟩
  · rw [F.2 _ (by omega) (by omega)]; exact w3' q hq k hk hk2
  · have hb2 := zIsM_b hb
    rw [F.2 _ (by omega) (by omega), F.2 _ (by omega) (by omega)]; exact w5 b hb
  · rw [F.2 _ (by omega) (by omega)]; exact h1
  · rw [F.2 _ (by omega) (by omega)]; exact h2
  · have hb := hslot_b s i
    rw [egr]
    exact ⟨(h3 i hi).1, KM_o (h3 i hi).2 (fun a _ _ => ⟨F.2 a (by omega) (by omega), by rw [egl]⟩)⟩
  · rw [F.2 5 (by decide) (by decide)]; exact w7
/-- the bytes of five words -/
theorem q_append {S : zSp} {σ : zS} {r : Nat → Int32} {N p p' s m : Nat} {h : Nat → Nat → Int32} (W : qW S σ r N p p' s m h) {n : Nat} (hn : n + 20 ≤ 600) {c : Nat → Int32} (I : qIn σ n c) {v1 v2 v3 v4 v5 : Int32} {Q : Int32 → zS → Prop} (hq : ∀ σ', q12 σ σ' → qIn σ' (n + 20) (fun j => if j < n then c j else wdB v1 v2 v3 v4 v5 (j - n) &&& 255) → Q (nI (n + 20)) σ') : wX11_append (zSl S) σ 0 v1 v2 v3 v4 v5 Q := by
  have g0 := W.g1
  have g1 := W.1.2.1.1
  have l2 := W.1.2.2.1
  refine ⟨1, g0, ?_⟩
  unfold wX9_size
  rw [I.1]
  have t580 : (580 : Int32).toInt = 580 := rfl
  refine ⟨fun _ => ?_, fun hx => absurd (by rw [nle, nI_toInt (by omega), t580]; omega) hx⟩
  have A0 : zAc σ σ n 0 (fun j => wdB v1 v2 v3 v4 v5 j &&& 255) := ⟨rfl, fun _ _ _ => rfl, I.1, fun _ _ => rfl, fun j hj => absurd hj (Nat.not_lt_zero j)⟩
  refine C_wd g0 g1 l2 (m := 0) (by omega) A0 rfl rfl rfl rfl (fun σ2 A1 => ?_)
  refine C_wd g0 g1 l2 (m := 4) (by omega) A1 rfl rfl rfl rfl (fun σ3 A2 => ?_)
  refine C_wd g0 g1 l2 (m := 8) (by omega) A2 rfl rfl rfl rfl (fun σ4 A3 => ?_)
  refine C_wd g0 g1 l2 (m := 12) (by omega) A3 rfl rfl rfl rfl (fun σ5 A4 => ?_)
  refine C_wd g0 g1 l2 (m := 16) (by omega) A4 rfl rfl rfl rfl (fun σ6 A5 => ?_)
  obtain ⟨b1, b2, b3, b4, b5⟩ := A5
  have er : gr σ6 = gr σ := by show σ6.2.1 = σ.2.1; rw [b1]
  refine ⟨1, by rw [er]; exact g0, ?_⟩
  show Q (gi σ6 1 1) σ6
  rw [b3]
  refine hq σ6 ⟨b1, b2⟩ ⟨b3, fun k hk => ?_⟩
  by_cases e : k < n
  · rw [b4 k e, I.2 k e]
    show c k = if k < n then c k else _
    rw [if_pos e]
  · obtain ⟨j, rfl⟩ : ∃ j, k = n + j := ⟨k - n, by omega⟩
    rw [b5 j (by omega)]
    show _ = if n + j < n then _ else _
    rw [if_neg e, show n + j - n = j by omega]
theorem q_truncate {S : zSp} {σ : zS} {r : Nat → Int32} {N p p' s m : Nat} {h : Nat → Nat → Int32} (W : qW S σ r N p p' s m h) {n k : Nat} (hn : n ≤ 600) (hk : k ≤ n) {c : Nat → Int32} (I : qIn σ n c) {Q : zS → Prop} (hq : ∀ σ', q12 σ σ' → qIn σ' k c → Q σ') : wX11_truncate (zSl S) σ 0 (nI k) Q := by
  have z0 : (0 : Int32).toInt = 0 := rfl
  have e1 := nI_toInt (n := k) (by omega)
  have e2 := nI_toInt (n := n) (by omega)
  refine ⟨fun hx => absurd hx (by rw [nlt, e1, z0]; omega), fun _ => ⟨1, W.g1, ?_⟩⟩
  unfold wX9_size
  rw [I.1]
  refine ⟨fun _ => ⟨1, W.g1, ?_⟩, fun hx => absurd (by rw [nle, e1, e2]; omega) hx⟩
  unfold wX9_shorten
  rw [I.1]
  refine ⟨fun hx => absurd hx (by rw [nlt, e1, z0]; omega), fun _ => ⟨fun hle => ?_, fun _ σ1 es => ?_⟩⟩
  · rw [nle, e1, e2] at hle
    have : k = n := by omega
    subst this
    exact hq σ ⟨rfl, fun _ _ _ => rfl⟩ I
  · refine hq σ1 ⟨by rw [es]; rfl, fun a h1 h2 => by rw [es]; exact si_out _ _ h1⟩ ⟨by rw [es, si_at, zu_self], fun j hj => ?_⟩
    rw [es, si_out _ _ (by decide)]
    exact I.2 j (by omega)

/-- the references as a new text has come -/
theorem qST_new {g g' : Nat → Nat → Option Nat} {ln : Nat → Nat} (H : qST g ln) (e : ∀ a j, ¬ (a = 0 ∧ (j = 6 ∨ j = 7)) → ¬ (a = 261 ∧ j = 0) → g' a j = g a j) : qST g' ln := by
  obtain ⟨⟨a0, a1, a2, a3, a4, a5⟩, ⟨b1, b2, b3⟩, cc, ⟨d1, d2, d3⟩, hm, ⟨p1, p2⟩⟩ := H
  have zp : ∀ p, p = 7 ∨ p = 134 → zPs g ln p → zPs g' ln p := fun p hp P => by
    obtain ⟨⟨x1, x2, x3⟩, ⟨x4, x5⟩, ⟨x6, x7, x8, x9⟩, xk⟩ := P
    refine ⟨⟨by rw [e _ _ (by omega) (by omega)]; exact x1, by rw [e _ _ (by omega) (by omega)]; exact x2, x3⟩, ⟨by rw [e _ _ (by omega) (by omega)]; exact x4, by rw [e _ _ (by omega) (by omega)]; exact x5⟩, ⟨by rw [e _ _ (by omega) (by omega)]; exact x6, by rw [e _ _ (by omega) (by omega)]; exact x7, x8, x9⟩, fun q hq k hk => ?_⟩
    rw [e _ _ (by omega) (by omega), e _ _ (by omega) (by omega), e _ _ (by omega) (by omega), e _ _ (by omega) (by omega), e _ _ (by omega) (by omega)]
    exact xk q hq k hk
  refine ⟨⟨by rw [e _ _ (by omega) (by omega)]; exact a0, by rw [e _ _ (by omega) (by omega)]; exact a1, by rw [e _ _ (by omega) (by omega)]; exact a2, by rw [e _ _ (by omega) (by omega)]; exact a3, by rw [e _ _ (by omega) (by omega)]; exact a4, by rw [e _ _ (by omega) (by omega)]; exact a5⟩, ⟨by rw [e _ _ (by omega) (by omega)]; exact b1, by rw [e _ _ (by omega) (by omega)]; exact b2, by rw [e _ _ (by omega) (by omega)]; exact b3⟩, cc, ⟨by rw [e _ _ (by omega) (by omega)]; exact d1, fun i hi => by rw [e _ _ (by omega) (by omega)]; exact d2 i hi, d3⟩, fun b hb => ?_, ⟨zp 7 (Or.inl rfl) p1, zp 134 (Or.inr rfl) p2⟩⟩
  have hb2 := zIsM_b hb
  have e' : ∀ a j, a ≠ 0 → (a = 261 → j ≠ 0) → g' a j = g a j := fun a j h1 h2 => e a j (fun x => h1 x.1) (fun x => h2 x.1 x.2)
  have hbo : b = 261 ∨ b = 277 ∨ 295 ≤ b := by
    rcases hb with h | h | ⟨i, hi, h⟩ <;> omega
  obtain ⟨⟨y1, y2, y3, y4, y5, y6⟩, ⟨z1, z2, z3, z4, z5, z6, z7, z8, z9⟩, l⟩ := hm b hb
  exact ⟨⟨by rw [e' _ _ (by omega) (by omega)]; exact y1, by rw [e' _ _ (by omega) (by omega)]; exact y2, by rw [e' _ _ (by omega) (by omega)]; exact y3, by rw [e' _ _ (by omega) (by omega)]; exact y4, by rw [e' _ _ (by omega) (by omega)]; exact y5, by rw [e' _ _ (by omega) (by omega)]; exact y6⟩, ⟨by rw [e' _ _ (by omega) (by omega)]; exact z1, by rw [e' _ _ (by omega) (by omega)]; exact z2, by rw [e' _ _ (by omega) (by omega)]; exact z3, by rw [e' _ _ (by omega) (by omega)]; exact z4, by rw [e' _ _ (by omega) (by omega)]; exact z5, by rw [e' _ _ (by omega) (by omega)]; exact z6, by rw [e' _ _ (by omega) (by omega)]; exact z7, by rw [e' _ _ (by omega) (by omega)]; exact z8, by rw [e' _ _ (by omega) (by omega)]; exact z9⟩, l⟩
theorem qST_e {g g' : Nat → Nat → Option Nat} {ln : Nat → Nat} (h : qST g ln) (e : ∀ a j, ¬ (zIsM a ∧ j = 0) → g' a j = g a j) : qST g' ln := by
  have n : ∀ a, a < 261 ∨ 455 ≤ a ∨ a = 293 ∨ a = 294 → ∀ j, g' a j = g a j := fun a ha j => e a j (fun x => by
    rcases x.1 with y | y | ⟨v, hv, y⟩ <;> omega)
  obtain ⟨⟨a1, a2, a3, a4, a5, a6⟩, ⟨b1, b2, b3⟩, c, ⟨d1, d2, d3⟩, em, ⟨f1, f2⟩⟩ := h
  have ps : ∀ p, p = 7 ∨ p = 134 → zPs g ln p → zPs g' ln p := by
    intro p hp hh
    obtain ⟨⟨x1, x2, x3⟩, ⟨y1, y2⟩, ⟨z1, z2, z3, z4⟩, w⟩ := hh
    refine ⟨⟨by rw [n _ (by omega)]; exact x1, by rw [n _ (by omega)]; exact x2, x3⟩, ⟨by rw [n _ (by omega)]; exact y1, by rw [n _ (by omega)]; exact y2⟩, ⟨by rw [n _ (by omega)]; exact z1, by rw [n _ (by omega)]; exact z2, z3, z4⟩, fun q hq k hk => ?_⟩
    obtain ⟨w1, w2, w3, w4, w5, w6⟩ := w q hq k hk
    exact ⟨by rw [n _ (by omega)]; exact w1, by rw [n _ (by omega)]; exact w2, by rw [n _ (by omega)]; exact w3, by rw [n _ (by omega)]; exact w4, by rw [n _ (by omega)]; exact w5, w6⟩
  refine ⟨⟨by rw [n _ (by omega)]; exact a1, by rw [n _ (by omega)]; exact a2, by rw [n _ (by omega)]; exact a3, by rw [n _ (by omega)]; exact a4, by rw [n _ (by omega)]; exact a5, by rw [n _ (by omega)]; exact a6⟩, ⟨by rw [n _ (by omega)]; exact b1, by rw [n _ (by omega)]; exact b2, by rw [n _ (by omega)]; exact b3⟩, c, ⟨by rw [n _ (by omega)]; exact d1, fun i hi => by rw [n _ (by omega)]; exact d2 i hi, d3⟩, fun b hb => ?_, ⟨ps 7 (Or.inl rfl) f1, ps 134 (Or.inr rfl) f2⟩⟩
  obtain ⟨⟨m1, m2, m3, m4, m5, m6⟩, ⟨k1, k2, k3, k4, k5, k6, k7, k8, k9⟩, l⟩ := em b hb
  have nb : ∀ i j, i = 0 ∧ 11 ≤ j ∨ 1 ≤ i ∧ i < 16 → g' (b + i) j = g (b + i) j := fun i j hij => e _ j (fun x => by
    rcases hb with rfl | rfl | ⟨u, hu, rfl⟩ <;> rcases x.1 with y | y | ⟨v, hv, y⟩ <;> omega)
  have n0 : ∀ j, 11 ≤ j → g' b j = g b j := fun j hj => nb 0 j (Or.inl ⟨rfl, hj⟩)
  exact ⟨⟨by rw [n0 _ (by decide)]; exact m1, by rw [n0 _ (by decide)]; exact m2, by rw [n0 _ (by decide)]; exact m3, by rw [n0 _ (by decide)]; exact m4, by rw [n0 _ (by decide)]; exact m5, by rw [n0 _ (by decide)]; exact m6⟩, ⟨by rw [nb 1 _ (by omega)]; exact k1, by rw [nb 4 _ (by omega)]; exact k2, by rw [nb 2 _ (by omega)]; exact k3, by rw [nb 5 _ (by omega)]; exact k4, by rw [nb 7 _ (by omega)]; exact k5, by rw [nb 8 _ (by omega)]; exact k6, by rw [nb 10 _ (by omega)]; exact k7, by rw [nb 12 _ (by omega)]; exact k8, by rw [nb 14 _ (by omega)]; exact k9⟩, l⟩
/-- a text that was read -/
theorem qW_new {S : zSp} {σ σ' : zS} {r0 : Nat → Int32} {N p p' s m : Nat} {h : Nat → Nat → Int32} (W : qW S σ r0 N p p' s m h) {r : zRow} {o : Nat} {F : Nat → Nat → Int32} (V : zPV r o) (P : zPn F r) (U : ∀ v : Nat, v < 2 → ∀ k : Nat, k < 12 → (k : Int) < (r (25 + v)).toInt → zPu F r v k) (eg : gr σ' = gr (sr (sr (sr σ 0 7 (some p)) 0 6 (some p')) 261 0 (some p'))) (eF : ∀ k, k < 127 → gi σ' (p' + k) = F k) (K : KM σ' 261 r) (ei : ∀ a, ¬ (a = 0 ∨ a = 1 ∨ a = 3 ∨ a = 4 ∨ (p' ≤ a ∧ a < p' + 127) ∨ (261 ≤ a ∧ a < 277) ∨ a = 293) → gi σ' a = gi σ a) (x1 : gi σ' 293 1 = gi σ 293 1) (x2 : gi σ' 293 2 = 0) : qW S σ' r N p' p s 0 h := by
  have hpp := W.2.1.1
  have hpb : 7 ≤ p' ∧ p' + 127 ≤ 261 ∧ (p' + 127 ≤ p ∨ p + 127 ≤ p') := by omega
  have E := zPV_E (N := N) V
  have hW := zPV_W V
  obtain ⟨w1, w2, -, -, w5, ⟨w6, w6', ⟨h1, h2, h3⟩⟩, w7, w8⟩ := W
  have eg' : ∀ a j, ¬ (a = 0 ∧ (j = 6 ∨ j = 7)) → ¬ (a = 261 ∧ j = 0) → gr σ' a j = gr σ a j := fun a j y1 y2 => by
    rw [eg, gr_sr]
    by_cases z1 : a = 261
    · rw [if_pos z1, if_neg (fun x => y2 ⟨z1, x⟩), gr_sr, if_neg (by omega), gr_sr, if_neg (by omega)]
    · rw [if_neg z1, gr_sr]
      by_cases z2 : a = 0
      · rw [if_pos z2, if_neg (by omega), gr_sr, if_pos z2, if_neg (by omega)]
      · rw [if_neg z2, gr_sr, if_neg z2]
  have ST := qST_new w1 eg'
  have PS : zPs (gr σ') (zSl S) p' := by
    rcases hpp with ⟨_, e⟩ | ⟨_, e⟩
    · rw [e]; exact ST.2.2.2.2.2.2
    · rw [e]; exact ST.2.2.2.2.2.1
  obtain ⟨PL, CH⟩ := zPl_read PS P U eF
  have k0 : (r 5).toInt ≤ 100000 := by
    rw [V.2.2.2.2.1.2 5 (by omega)]
    decide
  refine ⟨ST, ⟨by omega, ?_, ?_, ?_⟩, ⟨PL, CH⟩, ⟨K, E, k0⟩, fun b hb => ?_, ⟨by decide, w6', ⟨x1.trans h1, x2, fun i hi => absurd hi (Nat.not_lt_zero i)⟩⟩, ?_, w8⟩
  · rw [eg, gr_sr, if_neg (by decide), gr_sr, if_pos rfl, if_pos rfl]
  · rw [eg, gr_sr, if_neg (by decide), gr_sr, if_pos rfl, if_neg (by decide), gr_sr, if_pos rfl, if_pos rfl]
  · rw [eg, gr_sr, if_pos rfl, if_pos rfl]
  · have hb2 := zIsM_b hb
    by_cases eb : b = 261
    · subst eb
      exact KM_cap K
    · have hbo : 277 ≤ b ∧ (b = 277 ∨ 295 ≤ b) := by
        rcases hb with h | h | ⟨i, hi, h⟩ <;> omega
      rw [ei _ (by omega), ei _ (by omega)]
      exact w5 b hb
  · rw [ei 5 (by omega)]; exact w7
/-- what a load leaves beside the class's cells -/
def q55 (σ σ' : zS) : Prop := ∀ a, 455 ≤ a → gi σ' a = gi σ a ∧ gr σ' a = gr σ a ∧ gl σ' a = gl σ a
theorem q_load {S : zSp} {σ : zS} {r0 : Nat → Int32} {N p p' s m : Nat} {h : Nat → Nat → Int32} (W : qW S σ r0 N p p' s m h) {n : Nat} (hn : n ≤ 600) {c : Nat → Int32} (I : qIn σ n c) (hc : ∀ k, k < n → 0 ≤ (c k).toInt ∧ (c k).toInt < 256) {r : zRow} (hr : pTx (gi σ 2) n (n + 1) true r00 0 0 = .inr r) {Q : Int32 → zS → Prop} {X : String → zS → Prop} (hq : ∀ σ', qW S σ' r N p' p s 0 h → q55 σ σ' → Q (r 25 + r 26) σ') : wxX11_load (zSl S) σ 0 Q X := by
  have hpp := W.2.1.1
  have hpb : 7 ≤ p' ∧ p' + 127 ≤ 261 ∧ (p' + 127 ≤ p ∨ p + 127 ≤ p') := by omega
  have PS' := W.ps'
  have ST := W.st
  have g07 := W.2.1.2.2.1
  have g06 := W.gp
  have G : zTg (gr σ) (zSl S) := ⟨ST.2.1.1, ST.2.1.2.1, ST.2.1.2.2, ST.2.2.1⟩
  have T : zTc σ (gi σ 2) n := ⟨hn, I.1, rfl, fun k hk => by rw [I.2 k hk]; exact hc k hk⟩
  generalize gi σ 2 = c2 at T hr
  obtain ⟨o, V⟩ := pTx_ok _ _ _ _ _ zPV_r00 (fun _ => zFst_r00) hr
  refine ⟨3, ST.1.2.1, p', g07, c_read (by omega) G T PS' (fun e he => ?_) (fun r1 hr1 f3 f4 F P U σ5 e5 => ?_)⟩
  · rw [hr] at he
    cases he
  · rw [hr] at hr1
    cases hr1
    refine ⟨1, by rw [e5]; exact ST.1.1, fun σ7 e7 => ?_⟩
    have z8 : gi σ7 0 8 = -1 := by rw [e7, si_out _ _ (by decide), e5, si_at, zu_self]
    have zF : ∀ k, k < 127 → gi σ7 (p' + k) = F k := fun k hk => by
      rw [e7, si_out _ _ (by omega), e5, si_out _ _ (by omega), gi_zpc_k (by omega) rfl hk]
    have zo : ∀ a, ¬ (a = 0 ∨ a = 1 ∨ a = 3 ∨ a = 4 ∨ (p' ≤ a ∧ a < p' + 127)) → gi σ7 a = gi σ a := fun a ha => by
      rw [e7, si_out _ _ (by omega), e5, si_out _ _ (by omega), gi_zpc_o (by omega) (by omega) (by omega)]
    have zr : gr σ7 = gr σ := by rw [e7, e5]; rfl
    have zl : gl σ7 = gl σ := by rw [e7, e5]; rfl
    refine ⟨fun _ => ⟨p', by rw [zr]; exact g07, p, by rw [zr]; exact g06, fun σ10 e10 σ11 e11 => ?_⟩, fun hx => absurd z8 hx⟩
    have r11 : gr σ11 = gr (sr (sr σ 0 7 (some p)) 0 6 (some p')) := by
      rw [e11, e10]
      funext a j
      rw [gr_sr, gr_sr, gr_sr, gr_sr, zr]
    have i11 : gi σ11 = gi σ7 := by rw [e11, e10]; rfl
    have l11 : gl σ11 = gl σ := by rw [e11, e10]; exact zl
    have eg' : ∀ a j, ¬ (a = 0 ∧ (j = 6 ∨ j = 7)) → ¬ (a = 261 ∧ j = 0) → gr σ11 a j = gr σ a j := fun a j y1 y2 => by
      rw [r11, gr_sr]
      by_cases z2 : a = 0
      · rw [if_pos z2, if_neg (by omega), gr_sr, if_pos z2, if_neg (by omega)]
      · rw [if_neg z2, gr_sr, if_neg z2]
    have ST11 := qST_new ST eg'
    have PS11 : zPs (gr σ11) (zSl S) p' := by
      rcases hpp with ⟨_, e⟩ | ⟨_, e⟩
      · rw [e]; exact ST11.2.2.2.2.2.2
      · rw [e]; exact ST11.2.2.2.2.2.1
    have P0 := P
    obtain ⟨⟨a0, a1, a2, a3, a4⟩, ⟨b1, b2⟩, d, -⟩ := P
    obtain ⟨d01, d02, d03⟩ := d 0 (by decide)
    obtain ⟨d11, d12, d13⟩ := d 1 (by decide)
    have BG : zBg σ11 p' r := by
      unfold zBg
      have eF0 : gi σ7 p' = F 0 := zF 0 (by decide)
      rw [i11, eF0, zF 3 (by decide), zF 65 (by decide), zF 1 (by decide), zF 2 (by decide)]
      exact ⟨a2, ⟨d01, d02⟩, ⟨d11, d12⟩, b1, b2⟩
    have cap := W.2.2.2.2.1 261 (Or.inl rfl)
    refine ⟨261, by rw [eg' _ _ (by omega) (by omega)]; exact ST.1.2.2.2.1, p', by rw [r11, gr_sr, if_pos rfl, if_pos rfl], C_begin (ST11.2.2.2.2.1 261 (Or.inl rfl)) (by omega) PS11 (by rw [i11, zo _ (by omega)]; exact cap.1) (by rw [i11, zo _ (by omega)]; exact cap.2) BG V.2.1 V.2.2.2.2.1 (fun σ14 K14 F14 => ?_)⟩
    have r14 : gr σ14 = gr (sr (sr (sr σ 0 7 (some p)) 0 6 (some p')) 261 0 (some p')) := by
      rw [F14.1]
      funext a j
      rw [gr_sr, gr_sr, r11]
    have o14 : ∀ a j, a ≠ 261 → gr σ14 a j = gr σ11 a j := fun a j ha => by rw [F14.1, gr_sr, if_neg ha]
    refine ⟨293, by rw [o14 _ _ (by omega), eg' _ _ (by omega) (by omega)]; exact ST.1.2.2.2.2.2, fun σ16 e16 => ?_⟩
    have r16 : gr σ16 = gr σ14 := by rw [e16]; rfl
    have l16 : gl σ16 = gl σ14 := by rw [e16]; rfl
    have g6 : gr σ16 0 6 = some p' := by rw [r16, o14 _ _ (by omega), r11, gr_sr, if_pos rfl, if_pos rfl]
    have io : ∀ a, ¬ (a = 0 ∨ a = 1 ∨ a = 3 ∨ a = 4 ∨ (p' ≤ a ∧ a < p' + 127) ∨ (261 ≤ a ∧ a < 277) ∨ a = 293) → gi σ16 a = gi σ a := fun a ha => by
      rw [e16, si_out _ _ (by omega), (F14.2.2 a (by omega)).1, i11, zo a (by omega)]
    have iF : ∀ k, k < 127 → gi σ16 (p' + k) = F k := fun k hk => by
      rw [e16, si_out _ _ (by omega), (F14.2.2 _ (by omega)).1, i11, zF k hk]
    have i293 : gi σ16 293 = zu (gi σ 293) 2 0 := by rw [e16, si_at, (F14.2.2 293 (by omega)).1, i11, zo _ (by omega)]
    have K16 : KM σ16 261 r := KM_o K14 (fun a x1 x2 => ⟨by rw [e16, si_out _ _ (by omega)], by rw [l16]⟩)
    refine ⟨p', g6, p' + 3, by rw [r16, o14 _ _ (by omega)]; exact PS11.2.1.1, p', g6, p' + 65, by rw [r16, o14 _ _ (by omega)]; exact PS11.2.1.2, ?_⟩
    rw [iF 3 (by decide), iF 65 (by decide), d03, d13]
    refine hq σ16 (qW_new W V P0 U (by rw [r16, r14]) iF K16 io (by rw [i293, zu_ne (by decide)]) (by rw [i293, zu_self])) (fun a ha => ⟨io a (by omega), ?_, ?_⟩)
    · rw [r16]
      funext j
      rw [o14 a j (by omega), eg' a j (by omega) (by omega)]
    · rw [l16, (F14.2.2 a (by omega)).2, l11]
/-! ticks -/
def qMid (σ : zS) (p : Nat) (r2 : Nat → Int32) (σ2 : zS) : Prop :=
  (∃ s1 m1 h1, s1 < 10 ∧ m1 ≤ 10 ∧ zHs σ2 p s1 m1 h1) ∧ zCap σ2 ∧ gr σ2 261 0 = some p ∧ KM σ2 261 r2 ∧ (∀ a j, ¬ (zIsM a ∧ j = 0) → gr σ2 a j = gr σ a j) ∧ ∀ a, ¬ (zB16 261 a ∨ zBh a) → gi σ2 a = gi σ a ∧ gl σ2 a = gl σ a
theorem qMid.go {σ σ1 σ2 : zS} {p : Nat} {r1 r2 : Nat → Int32} (M : qMid σ p r1 σ1) (F : zFr (zB16 261) σ1 σ2) (K : KM σ2 261 r2) : qMid σ p r2 σ2 := by
  obtain ⟨⟨s1, m1, h1, hs1, hm1, hHs⟩, hcap, hgm, hKM, hgr, hgi⟩ := M
  have i : ∀ a, ¬ (261 ≤ a ∧ a < 277) → gi σ2 a = gi σ1 a ∧ gl σ2 a = gl σ1 a := fun a ha => F.2.2 a (fun x => ha ⟨x.1, by have := x.2; omega⟩)
  refine ⟨⟨s1, m1, h1, hs1, hm1, ?_, ?_, fun k hk => ?_⟩, fun b hb => ?_, by rw [F.1]; exact hgm, K, fun a j ha => by rw [F.1]; exact hgr a j ha, fun a ha => ?_⟩
  · rw [(i _ (by omega)).1]; exact hHs.1
  · rw [(i _ (by omega)).1]; exact hHs.2.1
  · have hb := hslot_b s1 k
    rw [F.1]
    exact ⟨(hHs.2.2 k hk).1, KM_o (hHs.2.2 k hk).2 (fun a x1 x2 => i a (by omega))⟩
  · by_cases e : b = 261
    · subst e; exact KM_cap K
    · have : 277 ≤ b := by
        rcases hb with rfl | rfl | ⟨u, hu, rfl⟩
        · exact absurd rfl e
        · omega
        · omega
      rw [(i _ (by omega)).1, (i _ (by omega)).1]
      exact hcap b hb
  · have h1 : ¬ zB16 261 a := fun x => ha (Or.inl x)
    exact ⟨(F.2.2 a h1).1.trans (hgi a ha).1, (F.2.2 a h1).2.trans (hgi a ha).2⟩
theorem qMid.W {S : zSp} {σ σ2 : zS} {r r2 : Nat → Int32} {N p p' s m : Nat} {h : Nat → Nat → Int32} (M : qMid σ p r2 σ2) (W : qW S σ r N p p' s m h) (E : zEv r2 N) (kp : zkp r r2) (T : (r2 5).toInt ≤ 100000) : (∃ s1 m1 h1, qW S σ2 r2 N p p' s1 m1 h1) ∧ q55 σ σ2 := by
  have hp := W.pb
  have w1 := W.1
  have w2 := W.2.1
  have w3 := W.2.2.1
  obtain ⟨⟨s1, m1, h1, hs1, hm1, hHs⟩, hcap, hgm, hKM, hgr, hgi⟩ := M
  have hr : ∀ a j, a < 261 → gr σ2 a j = gr σ a j := fun a j ha => hgr a j (fun x => by have := zIsM_b x.1; omega)
  have hi : ∀ a, a < 261 ∨ 455 ≤ a → gi σ2 a = gi σ a ∧ gl σ2 a = gl σ a := fun a ha => hgi a (fun x => x.elim (fun y => by have := y.1; have := y.2; omega) (fun y => by have := y.1; have := y.2; omega))
  refine ⟨⟨s1, m1, h1, qST_e w1 hgr, ⟨w2.1, by rw [hr _ _ (by omega)]; exact w2.2.1, by rw [hr _ _ (by omega)]; exact w2.2.2.1, hgm⟩, ⟨(zPl_cr hp w3.1 hr (fun a ha => (hi a (by omega)).1)).c kp W.w, fun q hq k hk hk2 => ?_⟩, ⟨hKM, E, T⟩, hcap, ⟨hm1, hs1, hHs⟩, ?_, W.2.2.2.2.2.2.2⟩, fun a ha => ⟨(hi a (by omega)).1, funext fun j => hgr a j (fun x => by have := zIsM_b x.1; omega), (hi a (by omega)).2⟩⟩
  · rw [kp (25 + q) (by omega)] at hk2
    rw [kp (219 + 12 * q + k) (by omega), (hi _ (by omega)).1]
    exact w3.2 q hq k hk hk2
  · rw [(hi 5 (by omega)).1]; exact W.2.2.2.2.2.2.1
theorem q_run {S : zSp} {σ : zS} {r : Nat → Int32} {N p p' s m : Nat} {h : Nat → Nat → Int32} (W : qW S σ r N p p' s m h) (hN : N ≤ 512) {k : Nat} (hk : 1 ≤ k ∧ k ≤ 2000) (hT : (r 5).toInt + k ≤ 100000) {Q : Int32 → zS → Prop} (hq : ∀ σ' s' m' h', qW S σ' (rN k r) N p p' s' m' h' → q55 σ σ' → Q (rN k r 16 - r 16) σ') : wX11_run (zSl S) σ 0 (nI k) Q := by
  have ek := nI_toInt (n := k) (by omega)
  have t1 : (1 : Int32).toInt = 1 := rfl
  have t2 : (2000 : Int32).toInt = 2000 := rfl
  have tm : (100000 : Int32).toInt = 100000 := rfl
  have W0 := W
  have T0 := W.w.T
  have hpb := W.pb
  obtain ⟨w1, w2, ⟨w3, w3'⟩, ⟨w4, w4', w4''⟩, w5, ⟨w6, w6', w6''⟩, w7, w8⟩ := W
  have et : gi σ 261 1 = r 5 := w4.1.1
  obtain ⟨n1, n2, n3⟩ := E_N hN k r w4' (by omega)
  refine ⟨fun hx => absurd hx (by rw [nlt, ek, t1]; omega), fun _ => ⟨fun _ => ⟨261, W0.g3, ⟨fun _ => ?_, fun hx => absurd ?_ hx⟩⟩, fun hx => absurd (by rw [nle, ek, t2]; omega) hx⟩⟩
  · refine ⟨293, w1.1.2.2.2.2.2, 261, W0.g3, ?_⟩
    refine C_keep w1.2.2.2.1 w1.2.2.2.2.1 w5 w2.2.2.2 w4 w4'.1 (w4'.2.1.2.2.2.1) w6 w6' w6'' (fun σ1 s' hs' H1 C1 F1 gp1 => ?_)
    have M1 : qMid σ p r σ1 := ⟨⟨s', _, _, hs', by split <;> omega, H1⟩, C1, gp1, KM_o w4 (fun a x1 x2 => F1.2.2 a (fun y => by have := y.1; omega)), F1.1, fun a ha => F1.2.2 a (fun y => ha (Or.inr y))⟩
    have g1 : ∀ a j, a < 261 → gr σ1 a j = gr σ a j := fun a j ha => F1.1 a j (fun x => by have := zIsM_b x.1; omega)
    have i1 : ∀ a, a < 261 → gi σ1 a = gi σ a := fun a ha => (F1.2.2 a (fun y => by have := y.1; omega)).1
    have g03 : gr σ1 0 3 = some 261 := by rw [g1 0 3 (by decide)]; exact W0.g3
    have e9 : gi σ1 261 9 = r 16 := M1.2.2.2.1.1.2.2.2.2.2.2.2.2.1
    refine ⟨261, g03, fun x7 e7 => ⟨k + 1, ?_⟩⟩
    rw [e9] at e7
    subst e7
    refine C_run34 (p := p) (N := N) (ln := zSl S) (Or.inl hpb) hN (m := k) (by omega) k 0 σ1 r (by omega) g03 ((qST_e w1 F1.1).2.2.2.2.1 261 (Or.inl rfl)) gp1 (zPl_cr hpb w3 g1 i1) M1.2.2.2.1 w4' (by omega) (fun σ2 K2 F2 P2 => ?_)
    obtain ⟨⟨s2, m2, h2, W2⟩, L2⟩ := (M1.go F2 K2).W W0 n1 n2 (by omega)
    exact hq σ2 s2 m2 h2 W2 L2
  · rw [nle, et, nadd (by rw [ek]; omega) (by rw [ek]; omega), ek, tm]
    omega

