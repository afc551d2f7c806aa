/-! THE WORLD with another text -/
theorem zMs_l {g : Nat → Nat → Option Nat} {ln ln' : Nat → Nat} {b : Nat} (h : zMs g ln b) (hb : b + 16 ≤ 455) (e : ∀ a, a < 465 → ln' a = ln a) : zMs g ln' b := by
  obtain ⟨m, k, ⟨l1, l2, l3, l4, l5, l6⟩⟩ := h
  exact ⟨m, k, ⟨by rw [e _ (by omega)]; exact l1, by rw [e _ (by omega)]; exact l2, by rw [e _ (by omega)]; exact l3, by rw [e _ (by omega)]; exact l4, by rw [e _ (by omega)]; exact l5, by rw [e _ (by omega)]; exact l6⟩⟩
theorem zPs_l {g : Nat → Nat → Option Nat} {ln ln' : Nat → Nat} {p : Nat} (h : zPs g ln p) (hp : p = 7 ∨ p = 134) (e : ∀ a, a < 465 → ln' a = ln a) : zPs g ln' p := by
  obtain ⟨⟨x1, x2, x3⟩, y, ⟨z1, z2, z3, z4⟩, w⟩ := h
  refine ⟨⟨x1, x2, by rw [e _ (by omega)]; exact x3⟩, y, ⟨z1, z2, by rw [e _ (by omega)]; exact z3, by rw [e _ (by omega)]; exact z4⟩, fun q hq k hk => ?_⟩
  obtain ⟨w1, w2, w3, w4, w5, w6, w7⟩ := w q hq k hk
  exact ⟨w1, w2, w3, w4, w5, by rw [e _ (by omega)]; exact w6, by rw [e _ (by omega)]; exact w7⟩
theorem zST_l {g : Nat → Nat → Option Nat} {ln ln' : Nat → Nat} (h : zST g ln) (e : ∀ a, a < 465 → ln' a = ln a) : zST g ln' := by
  obtain ⟨a, b, ⟨c1, c2, c3⟩, ⟨d1, d2, d3⟩, em, ⟨f1, f2⟩, ⟨gm, ⟨l1, l2, l3, l4, l5, l6, l7⟩⟩⟩ := h
  exact ⟨a, b, ⟨by rw [e _ (by decide)]; exact c1, by rw [e _ (by decide)]; exact c2, by rw [e _ (by decide)]; exact c3⟩, ⟨d1, d2, by rw [e _ (by decide)]; exact d3⟩, fun b hb => zMs_l (em b hb) (zIsM_b hb).2.1 e, ⟨zPs_l f1 (Or.inl rfl) e, zPs_l f2 (Or.inr rfl) e⟩, ⟨gm, ⟨by rw [e _ (by decide)]; exact l1, by rw [e _ (by decide)]; exact l2, by rw [e _ (by decide)]; exact l3, by rw [e _ (by decide)]; exact l4, by rw [e _ (by decide)]; exact l5, by rw [e _ (by decide)]; exact l6, by rw [e _ (by decide)]; exact l7⟩⟩⟩
theorem zPl_l {σ : zS} {ln ln' : Nat → Nat} {p : Nat} {r : Nat → Int32} (hp : p + 127 ≤ 261) (h : zPl σ ln p r) (e : ∀ a, a < 465 → ln' a = ln a) : zPl σ ln' p r := by
  obtain ⟨a1, b1, c1, ⟨d1, d2, d3, d4⟩, e1⟩ := h
  refine ⟨a1, b1, c1, ⟨d1, d2, by rw [e _ (by omega)]; exact d3, by rw [e _ (by omega)]; exact d4⟩, fun q hq k hk => ⟨?_, (e1 q hq k hk).2⟩⟩
  obtain ⟨w1, w2, w3, w4⟩ := (e1 q hq k hk).1
  exact ⟨w1, w2, w3, by rw [e _ (by omega)]; exact w4⟩
theorem zST_g {g g' : Nat → Nat → Option Nat} {ln : Nat → Nat} (h : zST g ln) (e : ∀ a j, a < 465 → ¬ (a = 5 ∧ j = 0) → g' a j = g a j) : zST g' ln := by
  obtain ⟨⟨a1, a2, a3, a4, a5, a6⟩, ⟨b1, b2, b3⟩, c, ⟨d1, d2, d3⟩, em, ⟨f1, f2⟩, ⟨⟨g1, g2, g3, g4, g5, g6, g7, g8⟩, gl⟩⟩ := h
  have ps : ∀ p, p = 7 ∨ p = 134 → zPs g ln p → zPs g' ln p := by
    intro p hp hh
    obtain ⟨⟨x1, x2, x3⟩, ⟨y1, y2⟩, ⟨z1, z2, z3, z4⟩, w⟩ := hh
    refine ⟨⟨by rw [e _ _ (by omega) (by omega)]; exact x1, by rw [e _ _ (by omega) (by omega)]; exact x2, x3⟩, ⟨by rw [e _ _ (by omega) (by omega)]; exact y1, by rw [e _ _ (by omega) (by omega)]; exact y2⟩, ⟨by rw [e _ _ (by omega) (by omega)]; exact z1, by rw [e _ _ (by omega) (by omega)]; exact z2, z3, z4⟩, fun q hq k hk => ?_⟩
    obtain ⟨w1, w2, w3, w4, w5, w6⟩ := w q hq k hk
    exact ⟨by rw [e _ _ (by omega) (by omega)]; exact w1, by rw [e _ _ (by omega) (by omega)]; exact w2, by rw [e _ _ (by omega) (by omega)]; exact w3, by rw [e _ _ (by omega) (by omega)]; exact w4, by rw [e _ _ (by omega) (by omega)]; exact w5, w6⟩
  refine ⟨⟨by rw [e _ _ (by omega) (by omega)]; exact a1, by rw [e _ _ (by omega) (by omega)]; exact a2, by rw [e _ _ (by omega) (by omega)]; exact a3, by rw [e _ _ (by omega) (by omega)]; exact a4, by rw [e _ _ (by omega) (by omega)]; exact a5, by rw [e _ _ (by omega) (by omega)]; exact a6⟩, ⟨by rw [e _ _ (by omega) (by omega)]; exact b1, by rw [e _ _ (by omega) (by omega)]; exact b2, by rw [e _ _ (by omega) (by omega)]; exact b3⟩, c, ⟨by rw [e _ _ (by omega) (by omega)]; exact d1, fun i hi => by rw [e _ _ (by omega) (by omega)]; exact d2 i hi, d3⟩, fun b hb => ?_, ⟨ps 7 (Or.inl rfl) f1, ps 134 (Or.inr rfl) f2⟩, ⟨⟨by rw [e _ _ (by omega) (by omega)]; exact g1, by rw [e _ _ (by omega) (by omega)]; exact g2, by rw [e _ _ (by omega) (by omega)]; exact g3, by rw [e _ _ (by omega) (by omega)]; exact g4, by rw [e _ _ (by omega) (by omega)]; exact g5, by rw [e _ _ (by omega) (by omega)]; exact g6, by rw [e _ _ (by omega) (by omega)]; exact g7, by rw [e _ _ (by omega) (by omega)]; exact g8⟩, gl⟩⟩
  have hb2 := zIsM_b hb
  obtain ⟨⟨m1, m2, m3, m4, m5, m6⟩, ⟨k1, k2, k3, k4, k5, k6, k7, k8, k9⟩, l⟩ := em b hb
  have n0 : ∀ i j, i < 16 → g' (b + i) j = g (b + i) j := fun i j hi => e _ j (by omega) (by omega)
  have n1 : ∀ j, g' b j = g b j := fun j => e _ j (by omega) (by omega)
  exact ⟨⟨by rw [n1]; exact m1, by rw [n1]; exact m2, by rw [n1]; exact m3, by rw [n1]; exact m4, by rw [n1]; exact m5, by rw [n1]; exact m6⟩, ⟨by rw [n0 1 _ (by omega)]; exact k1, by rw [n0 4 _ (by omega)]; exact k2, by rw [n0 2 _ (by omega)]; exact k3, by rw [n0 5 _ (by omega)]; exact k4, by rw [n0 7 _ (by omega)]; exact k5, by rw [n0 8 _ (by omega)]; exact k6, by rw [n0 10 _ (by omega)]; exact k7, by rw [n0 12 _ (by omega)]; exact k8, by rw [n0 14 _ (by omega)]; exact k9⟩, l⟩
theorem zWp_sb {S S' : zSp} {σ σ' : zS} {N p p' s m : Nat} {h : Nat → Nat → Int32} (W : zWp S σ N p p' s m h) (eS : ∀ a, a < 465 → zSl S' a = zSl S a) (eg : ∀ a j, a < 465 → ¬ (a = 5 ∧ j = 0) → gr σ' a j = gr σ a j) (ei : ∀ a, a < 455 → a ≠ 5 → a ≠ 6 → gi σ' a = gi σ a) (ei2 : ∀ a, a = 456 ∨ a = 459 ∨ a = 462 → gi σ' a = gi σ a) (el : ∀ a, a < 455 → gl σ' a = gl σ a) (e5 : ∀ j, j = 5 ∨ j = 13 ∨ j = 14 → gi σ' 455 j = gi σ 455 j) (B : zSB S' σ') : zWp S' σ' N p p' s m h := by
  have W0 := W
  obtain ⟨w1, w2, ⟨w3, w3'⟩, ⟨w4, w4', w4''⟩, w5, ⟨w6, w6', ⟨h1, h2, h3⟩, ⟨r1, r2⟩, w6''⟩, ⟨n, i1, i2, i3, i4⟩, w8, _⟩ := W
  have e456 := ei2 456 (by omega)
  have hp : p + 127 ≤ 261 := W0.pb
  have hp7 : 7 ≤ p := by have := w2.1; omega
  have pl : zPl σ' (zSl S) p (gi σ 456) := by
    obtain ⟨⟨a1, a2, a3, a4⟩, ⟨b1, b1'⟩, ⟨c1, c2⟩, ⟨d1, d2, d3⟩, e1⟩ := w3
    unfold zPl
    rw [ei p (by omega) (by omega) (by omega), ei (p + 3) (by omega) (by omega) (by omega), ei (p + 65) (by omega) (by omega) (by omega), eg p _ (by omega) (by omega), eg p _ (by omega) (by omega), eg (p + 3) _ (by omega) (by omega), eg (p + 65) _ (by omega) (by omega)]
    refine ⟨⟨a1, a2, a3, a4⟩, ⟨b1, b1'⟩, ⟨c1, c2⟩, ⟨d1, d2, d3⟩, fun q hq k hk => ⟨?_, fun hk2 => ?_⟩⟩
    · rw [eg _ _ (by omega) (by omega), eg _ _ (by omega) (by omega), eg _ _ (by omega) (by omega)]
      exact (e1 q hq k hk).1
    · rw [ei _ (by omega) (by omega) (by omega), ei _ (by omega) (by omega) (by omega)]
      exact (e1 q hq k hk).2 hk2
  unfold zWp
  rw [e456]
  refine ⟨zST_l (zST_g w1 eg) eS, ⟨w2.1, by rw [eg _ _ (by omega) (by omega)]; exact w2.2.1, by rw [eg _ _ (by omega) (by omega)]; exact w2.2.2.1, by rw [eg _ _ (by omega) (by omega)]; exact w2.2.2.2⟩, ⟨zPl_l hp pl eS, fun q hq k hk hk2 => ?_⟩, ⟨KM_o w4 (fun a _ _ => ⟨ei a (by omega) (by omega) (by omega), el a (by omega)⟩), w4', w4''⟩, fun b hb => ?_, ⟨w6, w6', ⟨?_, ?_, fun i hi => ?_⟩, ⟨?_, fun i hi k hk => ?_⟩, w6''⟩, ⟨n, i1, ?_, ?_, fun k hk => ?_⟩, ?_, B⟩
  · rw [ei _ (by omega) (by omega) (by omega)]
    exact w3' q hq k hk hk2
  · have hb2 := zIsM_b hb
    rw [ei _ (by omega) (by omega) (by omega), ei _ (by omega) (by omega) (by omega)]
    exact w5 b hb
  · rw [ei _ (by omega) (by omega) (by omega)]; exact h1
  · rw [ei _ (by omega) (by omega) (by omega)]; exact h2
  · have hb := hslot_b s i
    rw [eg _ _ (by omega) (by omega)]
    exact ⟨(h3 i hi).1, KM_o (h3 i hi).2 (fun a _ _ => ⟨ei a (by omega) (by omega) (by omega), el a (by omega)⟩)⟩
  · rw [e5 5 (by omega)]; exact r1
  · rw [ei2 459 (by omega)]; exact r2 i hi k hk
  · rw [ei _ (by omega) (by omega) (by omega)]; exact i2
  · rw [e5 13 (by omega)]; exact i3
  · rw [ei _ (by omega) (by omega) (by omega), ei2 462 (by omega)]; exact i4 k hk
  · rw [ei _ (by omega) (by omega) (by omega), e5 14 (by omega)]; exact w8
theorem sbT_clear {S : zSp} {σ : zS} (B : zSB S σ) {Q : zSp → zS → Prop} (hq : ∀ σ', sbT S σ' [] 0 → sbF S σ S σ' → Q S σ') : wJ4_setLength_d00df S σ 5 0 Q := by
  obtain ⟨a, n, q1, q2, q3, q4, q5, q6, q7, q8, q9, q10, q11, q12⟩ := B
  have n5 : (5 : Nat) ≠ a := by omega
  have hc : 16 ≤ zSl S a ∧ zSl S a ≤ 142 := by omega
  have ec := nI_toInt (n := zSl S a) (by omega)
  have en := nI_toInt (n := n) (by omega)
  have z0 : (0 : Int32).toInt = 0 := rfl
  have fin : ∀ σ', gr σ' = gr σ → (∀ b, b ≠ 5 → gi σ' b = gi σ b) → gi σ' 5 1 = 0 → gi σ' 5 3 = 0 → gl σ' = gl σ → gd σ' = gd σ → Q S σ' := fun σ' a1 a2 a3 a4 a5 a6 => hq σ' ⟨a, by rw [a1]; exact q1, q2, q3, q4, q5, a3, a4, by show 0 + 0 ≤ _; omega, fun k hk => absurd hk (Nat.not_lt_zero k), fun k hk => by rw [a2 a n5.symm]; exact q12 k hk⟩ ⟨Nat.le_refl _, fun _ _ => rfl, fun b j _ _ => by rw [a1], fun b h1 h2 h3 => a2 b h2, fun b _ => ⟨by rw [a5], by rw [a6]⟩⟩
  refine ⟨fun _ => ⟨a, q1, fun x2 e2 => ?_⟩, fun hx => absurd (by decide) hx⟩
  rw [q6, shr0] at e2
  subst e2
  have es : (0 - nI (zSl S a)).toInt = -(zSl S a : Int) := by
    rw [nsub (by rw [ec, z0]; omega) (by rw [ec, z0]; omega), ec, z0]
    omega
  refine ⟨fun _ => ⟨fun _ => ⟨fun hle σ3 e3 => ?_, fun _ σ4 e4 σ5 e5 => ?_⟩, fun hx => absurd (by rw [q7, nle, en, z0]; omega) hx⟩, fun hx => absurd (by rw [nle, es, z0]; omega) hx⟩
  · subst e3
    exact fin _ rfl (fun b hb => si_out _ _ hb) (by rw [si_at, zu_ne (by decide)]; exact q6) (by rw [si_at, zu_self]) rfl rfl
  · subst e4 e5
    exact fin _ rfl (fun b hb => by rw [si_out _ _ hb, si_out _ _ hb]) (by rw [si_at, zu_ne (by decide), si_at, zu_ne (by decide)]; exact q6) (by rw [si_at, zu_self]) rfl rfl
