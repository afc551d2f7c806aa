/-! THE CLASS READS: settings, offices, lost pulses -/
/-- what a statement must leave -/
def cR (σ : zS) (p : Nat) (c : Nat → Int32) (n : Nat) (Q : Int32 → zS → Prop) (res : Nat ⊕ (zRow × Nat × Nat)) : Prop := (∀ e, res = .inl e → ∀ (f3 f4 : Nat → Int32) (F : Nat → Nat → Int32), f4 1 = nI e → Q 0 (zpc σ p f3 f4 F)) ∧ (∀ r o q, res = .inr (r, o, q) → ∀ (f3 f4 : Nat → Int32) (F : Nat → Nat → Int32), f3 1 = nI o → tok f4 c n q → zPn F r → Q 1 (zpc σ p f3 f4 F))
section ZCST
variable {ln : Nat → Nat} {σ : zS} {p : Nat} {f3 f4 : Nat → Int32} {F : Nat → Nat → Int32} {c : Nat → Int32} {n : Nat} {r : zRow} {o q : Nat}
theorem si_zpc_0 (hp : 5 ≤ p) (j : Nat) (v : Int32) : si (zpc σ p f3 f4 F) p j v = zpc σ p f3 f4 (zf F 0 j v) := si_zpc_k hp (k := 0) rfl (by decide) j v
theorem gi_zpc_0 (hp : 5 ≤ p) : gi (zpc σ p f3 f4 F) p = F 0 := gi_zpc_k hp (k := 0) rfl (by decide)
theorem c_addP (hp : 5 ≤ p) {a a' K K' j cap : Nat} (ha : a = p + K) (ha' : a' = p + K') (hK : K < 127) (hK' : K' < 127) (hKK : K ≠ K') (g : gr σ a 0 = some a') (l : ln a' = cap) (h1 : F K 1 = nI j) (hj : j < cap) (hcap : cap ≤ 1000) {v : Int32} {Q : zS → Prop} (hq : Q (zpc σ p f3 f4 (zf (zf F K' j v) K 1 (nI (j + 1))))) : wX9_add ln (zpc σ p f3 f4 F) a v Q := by
  have e1 : gi (zpc σ p f3 f4 F) a 1 = nI j := by rw [gi_zpc_k hp ha hK]; exact h1
  refine ⟨a', g, ?_⟩
  rw [l, e1]
  refine ⟨fun hx => absurd hx (nI_ge hj (by omega)), fun _ => ⟨a', g, fun x3 e3 => ?_⟩⟩
  subst e3
  refine ⟨by rw [l]; exact vp_in_nI hj (by omega), fun σ5 e5 x6 e6 σ7 e7 => ?_⟩
  rw [nI_clamp (by omega), si_zpc_k hp ha' hK'] at e5
  subst e5
  rw [gi_zpc_k hp ha hK, zf_ne hKK, h1, nI_1] at e6
  subst e6
  rw [si_zpc_k hp ha hK] at e7
  subst e7
  exact hq
theorem c_99z {τ : zS} {Q : Int32 → zS → Prop} (h : Q 0 τ) : wX5_statement_99 ln Q 3 0 τ := ⟨fun _ => h, fun x => absurd rfl x⟩
theorem c_99 (hp : 5 ≤ p) (G : zTg (gr σ) ln) (T : zTc σ c n) (hqn : q ≤ n) (ho : f3 1 = nI o) (t : tok f4 c n q) (P : zPn F r) {Q : Int32 → zS → Prop} (hR : cR σ p c n Q (pSemi c n r o q)) : wX5_statement_99 ln Q 3 1 (zpc σ p f3 f4 F) := by
  have hE := tE_le1 c hqn
  have hn := T.1
  refine ⟨fun x => absurd x (by decide), fun _ => c_semi hp G T (q := tE c n q) (by omega) t.2.2 (fun h f4' g1 => ⟨fun _ => hR.1 (tS c n (tE c n q)) ?_ _ _ _ g1, fun x => absurd rfl x⟩) (fun h f4' g => ⟨fun x => absurd x (by decide), fun _ => hR.2 r o (tE c n q) ?_ _ _ _ ho g P⟩)⟩
  · unfold pSemi; rw [if_neg h]
  · unfold pSemi; rw [if_pos h]
theorem c_setk (hp : 5 ≤ p) (G : zTg (gr σ) ln) (T : zTc σ c n) {k : Nat} {lo hi : Int32} (hk : k ≤ 4) (hlo : 0 ≤ lo.toInt) (hqn : q ≤ n) (ho : f3 1 = nI o) (t : tok f4 c n q) (P : zPn F r) {Q : Int32 → zS → Prop} (hR : cR σ p c n Q (pSet c n k lo hi r o q)) : wX5_takeNumber ln (zpc σ p f3 f4 F) 3 lo hi (fun r36 σ35 => ∀ x37 : Int32, x37 = gi σ35 3 2 → ∀ σ38 : zS, σ38 = si σ35 p k x37 → zB1 r36 ∧ wX5_statement_99 ln Q 3 r36 σ38) := by
  have hE := tE_le1 c hqn
  have hn := T.1
  refine c_takeNumber hp G T (q := tE c n q) (by omega) t.2.2 hlo (fun hx f3' f4' g3 g4 x37 e37 σ38 e38 => ?_) (fun hy f3' f4' g3 g2 t' x37 e37 σ38 e38 => ?_)
  · rw [gi_zpc_3] at e37
    subst e37
    rw [si_zpc_0 hp] at e38
    subst e38
    refine ⟨Or.inl rfl, c_99z (hR.1 (tS c n (tE c n q)) ?_ _ _ _ g4)⟩
    unfold pSet
    rw [if_neg (fun h => hx (pNb_t.mp h))]
  · rw [gi_zpc_3, g2] at e37
    subst e37
    rw [si_zpc_0 hp] at e38
    subst e38
    have e : pSet c n k lo hi r o q = pSemi c n (zu r k (tV c n (tE c n q))) o (tE c n q) := by
      unfold pSet
      rw [if_pos (pNb_t.mpr hy)]
    rw [e] at hR
    have h2 := tE_le (c := c) (n := n) (q := tE c n q) (by rw [hy.1]; decide)
    have h3 := tS_ge c n (tE c n q)
    exact ⟨Or.inr rfl, c_99 hp G T (q := tE c n q) (by omega) (by rw [g3 1 (by decide)]; exact ho) t' (zPn_u P hk) hR⟩
theorem c_wheel (hp : 5 ≤ p) (G : zTg (gr σ) ln) (T : zTc σ c n) (hqn : q ≤ n) (ho : f3 1 = nI o) (t : tok f4 c n q) (P : zPn F r) {Q : Int32 → zS → Prop} (hR : cR σ p c n Q (pSet c n 0 6 28 r o q)) : wX5_wheel ln (zpc σ p f3 f4 F) 3 p (fun r26 σ25 => ((r26 = 0 → wX5_statement_99 ln Q 3 0 σ25) ∧ (¬ r26 = 0 → wX5_statement_99 ln Q 3 1 σ25))) := by
  have hE := tE_le1 c hqn
  have hn := T.1
  refine c_takeNumber hp G T (q := tE c n q) (by omega) t.2.2 (by decide) (fun hx f3' f4' g3 g4 => ⟨fun _ => ⟨fun _ => c_99z (hR.1 (tS c n (tE c n q)) ?_ _ _ _ g4), fun x => absurd rfl x⟩, fun x => absurd rfl x⟩) (fun hy f3' f4' g3 g2 t' => ⟨fun x => absurd x (by decide), fun _ x3 e3 σ4 e4 => ⟨fun x => absurd x (by decide), fun _ => ?_⟩⟩)
  · unfold pSet
    rw [if_neg (fun h => hx (pNb_t.mp h))]
  · rw [gi_zpc_3, g2] at e3
    subst e3
    rw [si_zpc_0 hp] at e4
    subst e4
    have e : pSet c n 0 6 28 r o q = pSemi c n (zu r 0 (tV c n (tE c n q))) o (tE c n q) := by
      unfold pSet
      rw [if_pos (pNb_t.mpr hy)]
    rw [e] at hR
    have h2 := tE_le (c := c) (n := n) (q := tE c n q) (by rw [hy.1]; decide)
    have h3 := tS_ge c n (tE c n q)
    exact c_99 hp G T (q := tE c n q) (by omega) (by rw [g3 1 (by decide)]; exact ho) t' (zPn_u P (by decide)) hR
theorem c_deskP (PS : zPs (gr σ) ln p) {v : Nat} (hv : v < 2) {x : Int32} (hx : x = nI v) {Q : Nat → zS → Prop} (hq : Q (p + (3 + 62 * v)) (zpc σ p f3 f4 F)) : wX6_desk ln (zpc σ p f3 f4 F) p x Q := by
  subst hx
  rcases (show v = 0 ∨ v = 1 by omega) with rfl | rfl
  · exact ⟨fun x => absurd x (by decide), fun _ => ⟨p + 3, PS.2.1.1, hq⟩⟩
  · exact ⟨fun _ => ⟨p + 65, PS.2.1.2, hq⟩, fun x => absurd rfl x⟩
theorem c_offst (hp : 5 ≤ p) (G : zTg (gr σ) ln) (T : zTc σ c n) (PS : zPs (gr σ) ln p) (V : zPV r o) (hqn : q ≤ n) (ho : f3 1 = nI o) (t : tok f4 c n q) (P : zPn F r) {Q : Int32 → zS → Prop} (hR : cR σ p c n Q (pOff c n r o q)) : wX5_office ln (zpc σ p f3 f4 F) 3 p (fun r23 σ22 => wX5_statement_99 ln Q 3 r23 σ22) := by
  have hE := tE_le1 c hqn
  have hn := T.1
  have ho2 := V.2.2.2.2.2
  unfold wX5_office
  rw [gi_zpc_3, ho]
  refine ⟨fun hx => c_99z (hR.1 (tS c n q) ?_ _ _ _ t.2.1), fun hx => ?_⟩
  · have := (nI_leI (a := 2) (b := o) (by decide) (by omega)).mp hx
    unfold pOff
    rw [if_pos this]
  have ho3 : o < 2 := by
    rcases Nat.lt_or_ge o 2 with h | h
    · exact h
    · exact absurd (nI_le h (by omega)) hx
  have e0 : gi (zpc σ p f3 f4 F) p 0 = r 0 := by rw [gi_zpc_0 hp]; exact P.1.1
  intro x3 e3
  rw [e0] at e3
  subst e3
  refine c_takeNumber hp G T (q := tE c n q) (by omega) t.2.2 (by decide) (fun hx f3' f4' g3 g4 => ⟨fun _ => c_99z (hR.1 (tS c n (tE c n q)) ?_ _ _ _ g4), fun x => absurd rfl x⟩) (fun hy f3' f4' g3 g2 t' => ⟨fun x => absurd x (by decide), fun _ x6 e6 => ?_⟩)
  · unfold pOff
    rw [if_neg (by omega), if_neg (fun h => hx (pNb_t.mp h))]
  rw [gi_zpc_3, g3 1 (by decide), ho] at e6
  refine c_deskP PS ho3 e6 (fun x9 e9 σ10 e10 => ?_)
  rw [gi_zpc_3, g2] at e9
  subst e9
  rw [si_zpc_k hp (k := 3 + 62 * o) rfl (by omega)] at e10
  subst e10
  have h2 := tE_le (c := c) (n := n) (q := tE c n q) (by rw [hy.1]; decide)
  have h3 := tS_ge c n (tE c n q)
  refine c_takeNumber hp G T (q := tE c n (tE c n q)) (by omega) t'.2.2 (by decide) (fun hx f3'' f4'' k3 k4 => ⟨fun _ => c_99z (hR.1 (tS c n (tE c n (tE c n q))) ?_ _ _ _ k4), fun x => absurd rfl x⟩) (fun hz f3'' f4'' k3 k2 t'' => ⟨fun x => absurd x (by decide), fun _ x13 e13 σ14 e14 x15 e15 σ16 e16 => ?_⟩)
  · unfold pOff
    rw [if_neg (by omega), if_pos (pNb_t.mpr hy), if_neg (fun h => hx (pNb_t.mp h))]
  rw [gi_zpc_3, k2] at e13
  subst e13
  rw [si_zpc_k hp (k := 3 + 62 * o) rfl (by omega)] at e14
  subst e14
  rw [gi_zpc_3, k3 1 (by decide), g3 1 (by decide), ho, nI_1] at e15
  subst e15
  rw [si_zpc_3] at e16
  subst e16
  have e : pOff c n r o q = pSemi c n (zu (zu r (21 + o) (tV c n (tE c n q))) (23 + o) (tV c n (tE c n (tE c n q)))) (o + 1) (tE c n (tE c n q)) := by
    unfold pOff
    rw [if_neg (by omega), if_pos (pNb_t.mpr hy), if_pos (pNb_t.mpr hz)]
  rw [e] at hR
  have h4 := tE_le (c := c) (n := n) (q := tE c n (tE c n q)) (by rw [hz.1]; decide)
  have h5 := tS_ge c n (tE c n (tE c n q))
  have P1 := zPn_o (o := o) (i := 0) (x := tV c n (tE c n q)) P ho3 (by decide)
  have P2 := zPn_o (o := o) (i := 1) (x := tV c n (tE c n (tE c n q))) P1 ho3 (by decide)
  have P3 : zPn (zf (zf F (3 + 62 * o) 0 (tV c n (tE c n q))) (3 + 62 * o) 1 (tV c n (tE c n (tE c n q)))) (zu (zu r (21 + o) (tV c n (tE c n q))) (23 + o) (tV c n (tE c n (tE c n q)))) := P2
  exact c_99 hp G T (q := tE c n (tE c n q)) (by omega) (by rw [zu_self]) t'' P3 hR
theorem c_loss (hp : 5 ≤ p) (G : zTg (gr σ) ln) (T : zTc σ c n) (PS : zPs (gr σ) ln p) (V : zPV r o) (hqn : q ≤ n) (ho : f3 1 = nI o) (t : tok f4 c n q) (P : zPn F r) {Q : Int32 → zS → Prop} (hR : cR σ p c n Q (pLos c n r o q)) : wX5_loss ln (zpc σ p f3 f4 F) 3 p (fun r20 σ19 => wX5_statement_99 ln Q 3 r20 σ19) := by
  have hE := tE_le1 c hqn
  have hn := T.1
  have h20 := V.2.1
  have c20 := ncl h20.1
  obtain ⟨m, hm⟩ : ∃ m, m = (r 20).toNatClampNeg := ⟨_, rfl⟩
  have em : r 20 = nI m := by rw [neq, nI_toInt (by omega)]; omega
  have l20 : (20 : Int32).toInt = 20 := rfl
  have e1 : gi (zpc σ p f3 f4 F) (p + 1) 1 = r 20 := by rw [gi_zpc_k hp (k := 1) rfl (by omega)]; exact P.2.1.1
  refine ⟨p + 1, PS.1.1, ?_⟩
  unfold wX9_size
  rw [e1]
  refine ⟨fun hx => c_99z (hR.1 (tS c n q) ?_ _ _ _ t.2.1), fun hx => ?_⟩
  · rw [nle, l20] at hx
    unfold pLos
    rw [if_pos hx]
  rw [nle, l20] at hx
  refine c_takeNumber hp G T (q := tE c n q) (by omega) t.2.2 (by decide) (fun hx2 f3' f4' g3 g4 => ⟨fun _ => c_99z (hR.1 (tS c n (tE c n q)) ?_ _ _ _ g4), fun x => absurd rfl x⟩) (fun hy f3' f4' g3 g2 t' => ⟨fun x => absurd x (by decide), fun _ => ⟨p + 1, PS.1.1, fun x7 e7 => ?_⟩⟩)
  · unfold pLos
    rw [if_neg hx, if_neg (fun h => hx2 (pNb_t.mp h))]
  rw [gi_zpc_3, g2] at e7
  subst e7
  refine c_addP hp (K := 1) (K' := 2) (j := m) (cap := 20) rfl rfl (by decide) (by decide) (by decide) PS.1.2.1 PS.1.2.2 (by rw [P.2.1.1]; exact em) (by omega) (by decide) ?_
  have e : pLos c n r o q = pSemi c n (rLose r (tV c n (tE c n q))) o (tE c n q) := by
    unfold pLos
    rw [if_neg hx, if_pos (pNb_t.mpr hy)]
  rw [e] at hR
  have h2 := tE_le (c := c) (n := n) (q := tE c n q) (by rw [hy.1]; decide)
  have h3 := tS_ge c n (tE c n q)
  exact c_99 hp G T (q := tE c n q) (by omega) (by rw [g3 1 (by decide)]; exact ho) t' (zPn_l P em (by omega)) hR
end ZCST
