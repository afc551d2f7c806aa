/-! TRIALS: the best limit -/
def bcor (n : Nat) (r : Nat → Int32) : Nat → Nat → (Nat → Int32) → Int32 → Int32 → Int32
  | 0, _, _, b, _ => b
  | d + 1, i, x, b, w => if b = -1 ∨ tM n (zu x 2 (nI (25 * i))) < w then bcor n r d (i + 1) (xR r (rN n (zu x 2 (nI (25 * i))))) (nI (25 * i)) (tM n (zu x 2 (nI (25 * i)))) else bcor n r d (i + 1) (xR r (rN n (zu x 2 (nI (25 * i))))) b w
theorem nI_25 {i : Nat} (hi : i ≤ 21) : nI (25 * i) + 25 = nI (25 * (i + 1)) := by
  have t : (25 : Int32).toInt = 25 := rfl
  have e := nI_toInt (n := 25 * i) (by omega)
  rw [neq, nadd (by rw [e, t]; omega) (by rw [e, t]; omega), e, t, nI_toInt (by omega)]
  omega
theorem nI_500 {i : Nat} (hi : i ≤ 21) : (500 : Int32) < nI (25 * i) ↔ i = 21 := by
  have t : (500 : Int32).toInt = 500 := rfl
  rw [nlt, t, nI_toInt (by omega)]
  omega
theorem nge {a b : Int32} : ¬ a ≤ b ↔ b < a := by
  rw [nle, nlt]
  omega
theorem bc_row {r x : Nat → Int32} {N i : Nat} (h : zEv r N) (hi : i ≤ 20) (c : zcg r x) : zEv (zu x 2 (nI (25 * i))) N ∧ zkp r (zu x 2 (nI (25 * i))) ∧ zu x 2 (nI (25 * i)) 5 = r 5 := by
  have e := nI_toInt (n := 25 * i) (by omega)
  obtain ⟨h1, h2, h3⟩ := zEv_set (zEv_cg h c) (k := 2) (v := nI (25 * i)) (Or.inl rfl) (zW_u2 (zW_cg h.1 c) (by rw [e]; omega))
  exact ⟨h1, (zkp_cg c).tr h2, h3.trans (c 5 (by omega))⟩
theorem C_bc {S : zSp} {σ : zS} {N p p' s m : Nat} {h : Nat → Nat → Int32} (W : zWp S σ N p p' s m h) (hN : N ≤ 512) {n : Nat} (hn : n ≤ 2000) {Q : Int32 → zS → Prop} {X : String → zS → Prop} : ∀ (d i : Nat) (x : Nat → Int32) (b w : Int32) (σ1 : zS), i + d = 21 → zTl σ σ1 → zcg (gi σ 456) x → (∀ σ', zTl σ σ' → Q (bcor n (gi σ 456) d i x b w) σ') → wxX11_bestCorrection_15 (zSl S) Q X (d + 1) 0 (nI n) b w (nI (25 * i)) σ1
  | 0, i, x, b, w, σ1, hi, T, c, hq => by
    rw [wxX11_bestCorrection_15]
    exact ⟨fun _ => hq σ1 T, fun h => absurd ((nI_500 (by omega)).mpr (by omega)) h⟩
  | d + 1, i, x, b, w, σ1, hi, T, c, hq => by
    have T5 := W.2.2.2.1.2.2
    have g4 : gr σ1 0 4 = some 277 := by rw [T.1 0 4 (by omega)]; exact W.1.1.2.2.2.2.1
    have g3 : gr σ1 0 3 = some 261 := by rw [T.1 0 3 (by omega)]; exact W.g3
    rw [wxX11_bestCorrection_15]
    refine ⟨fun h => absurd ((nI_500 (by omega)).mp h) (by omega), fun _ => ⟨277, g4, 261, g3, T_copy W T (fun σ' k t gp => ⟨277, by rw [t.1 0 4 (by omega)]; exact W.1.1.2.2.2.2.1, fun σ5 e5 => ?_⟩)⟩⟩
    subst e5
    obtain ⟨y1, y2, y3⟩ := bc_row W.ev (i := i) (by omega) c
    obtain ⟨k1, k2⟩ := KM_si (σ := σ') (b := 277) (k := 0) (j := 2) (v := nI (25 * i)) (by decide) (RRs_2 (KM_cg k W.w c) _)
    have t2 := t.go k2 k1
    have go : ∀ (b' w' : Int32) σ2, zTl σ σ2 → (∀ σ', zTl σ σ' → Q (bcor n (gi σ 456) d (i + 1) (xR (gi σ 456) (rN n (zu x 2 (nI (25 * i))))) b' w') σ') → ∀ x8 : Int32, x8 = nI (25 * i) + 25 → (wxX11_bestCorrection_15 (zSl S) Q X (d + 1)) 0 (nI n) b' w' x8 σ2 := by
      intro b' w' σ2 T2 hq2 x8 e8
      rw [nI_25 (by omega)] at e8
      subst e8
      exact C_bc W hN hn d (i + 1) _ b' w' σ2 (by omega) T2 (xR_cg _ _) hq2
    rw [bcor] at hq
    refine T_mis W hN t2 (by rw [k2.1]; exact gp) k1 y1 y2 hn (by rw [y3]; exact T5) (fun σ2 T2 => ⟨fun hb => ?_, fun hb => ⟨fun hl => ?_, fun hl => ?_⟩⟩)
    · rw [if_pos (Or.inl hb)] at hq
      exact go _ _ σ2 T2 hq
    · rw [if_neg (fun o => o.elim hb (fun o => absurd hl (nge.mpr o)))] at hq
      exact go _ _ σ2 T2 hq
    · rw [if_pos (Or.inr (nge.mp hl))] at hq
      exact go _ _ σ2 T2 hq
theorem M_bc {ln : Nat → Nat} {r : Nat → Int32} {N : Nat} (E : zEv r N) (h5 : (r 5).toInt ≤ 100000) (hN : N ≤ 512) {n : Nat} (hn : n ≤ 2000) {σ1 : zS} (G1 : zMg (gr σ1) ln) {Q : Int32 → zS → Prop} : ∀ (d i : Nat) (x : Nat → Int32) (b w : Int32) (σa : zS), i + d = 21 → zMt σ1 σa r → gi σa 456 = x → zcg r x → (∀ σ', zMt σ1 σ' r → zcg r (gi σ' 456) → Q (bcor n r d i x b w) σ') → wX12_bestCorrection_41 ln Q (d + 1) 455 (nI n) b w (nI (25 * i)) σa
  | 0, i, x, b, w, σa, hi, T, ex, c, hq => by
    rw [wX12_bestCorrection_41]
    exact ⟨fun _ => hq σa T (by rw [ex]; exact c), fun h => absurd ((nI_500 (by omega)).mpr (by omega)) h⟩
  | d + 1, i, x, b, w, σa, hi, T, ex, c, hq => by
    have Ga : zMg (gr σa) ln := by rw [T.r]; exact G1
    rw [wX12_bestCorrection_41]
    refine ⟨fun h => absurd ((nI_500 (by omega)).mp h) (by omega), fun _ => ⟨456, Ga.1.1, by rw [Ga.2.1]; exact vq2, fun σ3 e3 => ?_⟩⟩
    rw [cq2] at e3
    subst e3
    obtain ⟨y1, y2, y3⟩ := bc_row E (i := i) (by omega) c
    have e456 : gi (si σa 456 2 (nI (25 * i))) 456 = zu x 2 (nI (25 * i)) := by rw [si_at, ex]
    rw [bcor] at hq
    refine M_wrong (σ := si σa 456 2 (nI (25 * i))) Ga hN (by rw [e456]; exact y1) hn (by rw [e456, y3]; exact h5) (fun σb rb _ fb => ?_)
    rw [e456] at rb ⊢
    have Gb : zMg (gr σb) ln := by rw [fb.r]; exact Ga
    refine ⟨458, Gb.1.2.2.1, 456, Gb.1.1, M_back Gb ((T.go (zMf_i _ _ _)).go fb) (fun σc mc rc _ gc => ?_)⟩
    rw [rb] at rc
    have go : ∀ (b' w' : Int32), (∀ σ', zMt σ1 σ' r → zcg r (gi σ' 456) → Q (bcor n r d (i + 1) (xR r (rN n (zu x 2 (nI (25 * i))))) b' w') σ') → ∀ x8 : Int32, x8 = nI (25 * i) + 25 → (wX12_bestCorrection_41 ln Q (d + 1)) 455 (nI n) b' w' x8 σc := by
      intro b' w' hq2 x8 e8
      rw [nI_25 (by omega)] at e8
      subst e8
      exact M_bc E h5 hN hn G1 d (i + 1) _ b' w' σc (by omega) mc rc (xR_cg _ _) hq2
    refine ⟨fun hb => ?_, fun hb => ⟨fun hl => ?_, fun hl => ?_⟩⟩
    · rw [if_pos (Or.inl hb)] at hq
      exact go _ _ hq
    · rw [if_pos (Or.inr hl)] at hq
      exact go _ _ hq
    · rw [if_neg (fun o => o.elim hb hl)] at hq
      exact go _ _ hq
theorem L_bestCorrection {S : zSp} {σ : zS} {N : Nat} (W : zWd S σ N) (hN : N ≤ 512) {v : Int32} {K : Int32 → Int32 → zS → Prop} (hK : zEnd S N K) : wL_bestCorrection (zSl S) σ 0 v 463 (fun r5 σ4 => wX12_bestCorrection (zSl S) σ4 455 v (fun r10 σ9 => K r5 r10 σ9)) := by
  obtain ⟨p, p', s, m, h, W⟩ := W
  have OUT : ∀ (σ0 : zS) (r : Int32), wX12_bestCorrection (zSl S) (sl σ0 463 0 r.toInt64) 455 v (fun r10 σ9 => K 0 r10 σ9) → ∀ x6 : Int64, x6 = r.toInt64 → vp_in (0 : Int32) (zSl S 463) ∧ ∀ σ8 : zS, σ8 = sl σ0 463 (0 : Int32).toNatClampNeg x6 → wX12_bestCorrection (zSl S) σ8 455 v (fun r10 σ9 => K 0 r10 σ9) := fun σ0 r hq => c_out (σ := σ0) W.l463 (Q := fun r5 σ4 => wX12_bestCorrection (zSl S) σ4 455 v (fun r10 σ9 => K r5 r10 σ9)) hq
  have u0 : (1 : Int64).toInt = 1 := rfl
  have u5 : (1000 : Int64).toInt = 1000 := rfl
  have T0 := W.w.T
  have T5 := W.2.2.2.1.2.2
  have g4 : gr σ 0 4 = some 277 := W.1.1.2.2.2.2.1
  have x14 := W.x14
  unfold wL_bestCorrection wxX11_bestCorrection
  refine c_range (fun hr => ⟨22, ?_⟩) (fun hr => ⟨rfl, ?_⟩)
  · have hr : 1 ≤ v.toInt ∧ v.toInt ≤ 1000 := hr
    have ev : v = nI v.toNatClampNeg := by
      have := ncl (a := v) (by omega)
      rw [neq, nI_toInt (by omega)]
      omega
    have cv := ncl (a := v) (by omega)
    have hc := C_bc W hN (n := v.toNatClampNeg) (by omega) (X := fun E5 σ3 => E5 = "java/lang/IllegalArgumentException" ∧ wX12_bestCorrection (zSl S) σ3 455 v (fun r10 σ9 => K 1 r10 σ9)) (Q := fun r7 σ6 => ∀ x6 : Int64, x6 = r7.toInt64 → vp_in (0 : Int32) (zSl S 463) ∧ ∀ σ8 : zS, σ8 = sl σ6 463 (0 : Int32).toNatClampNeg x6 → wX12_bestCorrection (zSl S) σ8 455 v (fun r10 σ9 => K 0 r10 σ9)) 21 0 (gi σ 456) (-1) 0 σ (by omega) W.tl (fun _ _ => rfl) (fun σ2 t2 => OUT _ _ ?_)
    · rw [← ev] at hc
      exact hc
    · generalize hw : bcor v.toNatClampNeg (gi σ 456) 21 0 (gi σ 456) (-1) 0 = res
      intro σ3 e3 x2 e4
      subst e3 e4
      have G2 : zMg (gr (si (sl σ2 463 0 res.toInt64) 455 0 0)) (zSl S) := (t2.st W).2.2.2.2.2.2
      have e456 : gi (si (sl σ2 463 0 res.toInt64) 455 0 0) 456 = gi σ 456 := by rw [row_t]; exact (t2.2.2.1 456 (by omega)).1
      refine n_isIn (fun _ => ⟨fun h => absurd h (by decide), fun _ => ⟨456, G2.1.1, 458, G2.1.2.2.1, ?_⟩⟩) (fun hh => absurd (by rw [t64, u0, u5]; exact hr) hh)
      refine M_save G2 (fun σa ma ra => ⟨22, ?_⟩)
      rw [e456] at ma ra
      have hm := M_bc W.ev T5 hN (n := v.toNatClampNeg) (by omega) G2 (Q := fun r10 σ9 => K 0 r10 σ9) 21 0 (gi σ 456) (-1) 0 σa (by omega) ma ra (fun _ _ => rfl) (fun σb mb cb => by
        rw [hw]
        exact tri_fin W hK t2 mb cb rfl)
      rw [← ev] at hm
      exact hm
  · intro σ1 e1 x2 e2
    subst e1 e2
    refine n_isIn (fun hh => absurd ?_ hr) (fun _ => ⟨fun _ => n_raise (W.thr hK (by decide)), fun h => absurd rfl h⟩)
    rw [t64, u0, u5] at hh
    exact hh
