/-! ACTIONS: breaks, runs, taking back -/
theorem zx_c2 {r r' : Nat → Int32} {cm : Int} (e : ∀ k, k = 6 ∨ k = 7 ∨ (9 ≤ k ∧ k ≤ 14) ∨ k = 27 ∨ k = 28 ∨ k = 37 ∨ k = 38 ∨ (59 ≤ k ∧ k < 99) → r' k = r k) (hk : zkp r r') (hW : zW r) (h6 : ¬ r 6 = -1) (h : zx r cm) : zx r' cm := by
  obtain ⟨x1, x2, x3, x4, x5, x6, x7, x8, x9⟩ := h
  have h11 := hW.b
  have hc11 := ncl h11.1
  refine ⟨fun ha => ?_, by rw [e 12 (by omega)]; exact x2, by rw [e 13 (by omega)]; exact x3, by rw [e 14 (by omega)]; exact x4, by rw [e 37 (by omega)]; exact x5, by rw [e 38 (by omega)]; exact x6, fun h6' => ?_, fun k hk2 => ?_, x9.c hk hW⟩
  · have ha' : zact r := ⟨by rw [← e 6 (by omega)]; exact ha.1, by rw [← e 7 (by omega)]; exact ha.2⟩
    have hz : zo r' = zo r := by unfold zo; rw [e 6 (by omega)]
    have hzl := zo_le (hW.h6 ha'.1)
    have hL : zLn r' = zLn r := by
      unfold zLn
      rw [hz, e (27 + zo r) (by omega)]
    rw [hL, hk.path (zLn_lt hW ha'.1) (hW.len _ (zLn_lt hW ha'.1)).2, e 9 (by omega)]
    exact x1 ha'
  · rw [e 6 (by omega)] at h6'
    exact absurd h6' h6
  · rw [e 11 (by omega)] at hk2
    rw [e (59 + k) (by omega)]
    exact x8 k hk2
theorem E_break {r : Nat → Int32} {N : Nat} (h : zEv r N) (hN : N ≤ 512) (h6 : ¬ r 6 = -1) : zEv (rSends r 3 0) (N + 1) ∧ zkp r (rSends r 3 0) := by
  have hn := h.n hN
  obtain ⟨hW, hx, hT, hB⟩ := h
  have h19 := nU_19 hW hn
  have h0 := hW.u.1
  have kp : zkp r (rSends r 3 0) := zkp_sends zkp.rf
  have e5 : rSends r 3 0 5 = r 5 := rSends_out r (by omega) (by omega)
  have e1 : rSends r 3 0 1 = r 1 := rSends_out r (by omega) (by omega)
  have e14 : rSends r 3 0 14 = r 14 := rSends_out r (by omega) (by omega)
  obtain ⟨a1, a2, a3⟩ := rSends_at (r := r) 3 0
  have hd := hW.d
  have hT5 := hW.T
  refine ⟨⟨zW_sends hW (by omega), ?_, ?_, ?_⟩, kp⟩
  · rw [e5]
    exact zx_c2 (fun k hk => rSends_out r (by omega) (by omega)) kp hW h6 hx
  · rw [e5, e1]
    unfold zTr
    rw [rSends_n h0 (by omega), e5, e1, e14]
    exact zTv_push hT (fun k hk => (a1 k hk).1) (fun k hk => (a1 k hk).2) (by rw [a2, nadd (by omega) (by omega)]) (by omega) (Int.le_refl _) (Int.le_refl _) (fun x => x) (Or.inr (Or.inr a3))
  · rw [zBr_sends h0 (by omega), if_pos rfl]
    omega
theorem L_breakIn {S : zSp} {σ : zS} {N : Nat} (W : zWd S σ N) (hN : N ≤ 512) {K : Int32 → Int32 → zS → Prop} (hK : zEnd S (N + 1) K) : wL_breakIn (zSl S) σ 0 463 (fun r5 σ4 => wX12_breakIn (zSl S) σ4 455 (fun r10 σ9 => K r5 r10 σ9)) := by
  obtain ⟨p, p', s, m, h, W⟩ := W
  have S1 := W.sm
  have K1 := W.km
  have X1 := W.x
  have hK0 : zEnd S N K := fun k b σ' w t g => hK k b σ' (zWd_mono w (by omega)) t g
  have OUT : ∀ (σ0 : zS) (r : Int32), wX12_breakIn (zSl S) (sl σ0 463 0 r.toInt64) 455 (fun r10 σ9 => K 0 r10 σ9) → ∀ x6 : Int64, x6 = r.toInt64 → vp_in (0 : Int32) (zSl S 463) ∧ ∀ σ8 : zS, σ8 = sl σ0 463 (0 : Int32).toNatClampNeg x6 → wX12_breakIn (zSl S) σ8 455 (fun r10 σ9 => K 0 r10 σ9) := fun σ0 r hq => c_out (σ := σ0) W.l463 (Q := fun r5 σ4 => wX12_breakIn (zSl S) σ4 455 (fun r10 σ9 => K r5 r10 σ9)) hq
  have e63 : gi σ 261 3 = gi σ 456 6 := K1.1.2.2.1
  have hd := W.w.d
  unfold wL_breakIn wxX11_breakIn
  refine ⟨261, W.g3, ?_⟩
  rw [e63]
  refine ⟨fun h6 => ⟨rfl, ?_⟩, fun h6 => ⟨293, W.1.1.2.2.2.2.2, 261, W.g3, ?_⟩⟩
  · intro σ1 e1
    subst e1
    refine M_isSender (σ := si σ 455 0 0) W.mg ?_
    rw [row_t, if_pos h6]
    exact ⟨fun _ => n_raise (W.thr hK0 (by decide)), fun h => absurd rfl h⟩
  · have hn := W.ev.n hN
    have h19 := nU_19 W.w hn
    obtain ⟨hE, kp⟩ := E_break W.ev hN h6
    have T5 := W.2.2.2.1.2.2
    refine act_keep W (fun σ1 M F => ⟨261, by rw [M.g (by omega)]; exact W.g3, p, M.2.2.1, fun x2 e2 => ⟨271, ?_, ?_⟩⟩)
    · exact ((M.st W).2.2.2.2.1 261 (Or.inl rfl)).1.2.2.2.1
    have S2 : zMs (gr σ1) (zSl S) 261 := (M.st W).2.2.2.2.1 261 (Or.inl rfl)
    have ep : gi σ1 p 1 = gi σ 456 1 := by rw [M.i (a := p) (by have := W.pb; omega)]; exact W.pl.1.2.1
    have et : gi σ1 261 1 = gi σ 456 5 := M.km.1.1
    rw [et, ep] at e2
    have go : ∀ σ2, zMid S σ p m h (rSends (gi σ 456) 3 0) σ2 → wX12_breakIn (zSl S) (sl σ2 463 0 (gi σ 456 5 + gi σ 456 1).toInt64) 455 (fun r10 σ9 => K 0 r10 σ9) := by
      intro σ2 M2 σ3 e3
      subst e3
      have G2 : zMg (gr (si (sl σ2 463 0 (gi σ 456 5 + gi σ 456 1).toInt64) 455 0 0)) (zSl S) := (M2.st W).2.2.2.2.2.2
      have e456 : gi (si (sl σ2 463 0 (gi σ 456 5 + gi σ 456 1).toInt64) 455 0 0) 456 = gi σ 456 := by rw [row_t]; exact M2.i (a := 456) (by omega)
      refine M_isSender G2 ?_
      rw [e456, if_neg h6]
      refine ⟨fun h => absurd h (by decide), fun _ => ?_⟩
      refine act_rec W M2 (fun σ4 R hrec r4 G4 => ?_)
      refine M_sends G4 (by rw [r4]; exact W.w.u.1) (by rw [r4]; omega) (fun σ5 r5 f5 => ?_)
      rw [r4] at r5
      refine ⟨456, by rw [f5.r]; exact G4.1.1, W.v vq5, 456, by rw [f5.r]; exact G4.1.1, W.v vq1, ?_⟩
      rw [cq5, cq1, r5, rSends_out _ (by omega) (by omega), rSends_out _ (by omega) (by omega)]
      exact act_fin W hK M2 R f5 hrec r5 hE (by omega) (by rw [rSends_out _ (by omega) (by omega)]; exact T5) kp rfl
    have hs := C_send (σ := σ1) (b := 261) S2 M.km W.w (by omega) (t := x2) (w := 3) (v := 0) (v' := -1) e2 (fun e => absurd e (by decide)) (Q := fun σ4 => ∀ x6 : Int64, x6 = x2.toInt64 → vp_in (0 : Int32) (zSl S 463) ∧ ∀ σ8 : zS, σ8 = sl σ4 463 (0 : Int32).toNatClampNeg x6 → wX12_breakIn (zSl S) σ8 455 (fun r10 σ9 => K 0 r10 σ9)) (fun f' hf => by
      rw [e2]
      exact OUT _ _ (go _ (M.go (zFr_zcs _ 261 _ _ _) (KM_zcs hf))))
    rw [zcs_self] at hs
    exact hs
theorem c_time {ln : Nat → Nat} {σ : zS} {v : Int32} {Q : zS → Prop} {X : String → zS → Prop} (g3 : gr σ 0 3 = some 261) {t : Int32} (et : gi σ 261 1 = t) (h1 : t + v ≤ 100000 → Q σ) (h0 : ¬ t + v ≤ 100000 → X "java/lang/IllegalStateException" σ) : wxX11_requireTimeFor ln σ 0 v Q X := by
  refine ⟨261, g3, ?_⟩
  rw [et]
  exact ⟨h1, h0⟩
theorem L_run {S : zSp} {σ : zS} {N : Nat} (W : zWd S σ N) (hN : N ≤ 512) {v : Int32} {K : Int32 → Int32 → zS → Prop} (hK : zEnd S N K) : wL_run (zSl S) σ 0 v 463 (fun r5 σ4 => wX12_run (zSl S) σ4 455 v (fun r10 σ9 => K r5 r10 σ9)) := by
  obtain ⟨p, p', s, m, h, W⟩ := W
  have S1 := W.sm
  have K1 := W.km
  have X1 := W.x
  have OUT : ∀ (σ0 : zS) (r : Int32), wX12_run (zSl S) (sl σ0 463 0 r.toInt64) 455 v (fun r10 σ9 => K 0 r10 σ9) → ∀ x6 : Int64, x6 = r.toInt64 → vp_in (0 : Int32) (zSl S 463) ∧ ∀ σ8 : zS, σ8 = sl σ0 463 (0 : Int32).toNatClampNeg x6 → wX12_run (zSl S) σ8 455 v (fun r10 σ9 => K 0 r10 σ9) := fun σ0 r hq => c_out (σ := σ0) W.l463 (Q := fun r5 σ4 => wX12_run (zSl S) σ4 455 v (fun r10 σ9 => K r5 r10 σ9)) hq
  have u0 : (1 : Int64).toInt = 1 := rfl
  have u5 : (2000 : Int64).toInt = 2000 := rfl
  have et : gi σ 261 1 = gi σ 456 5 := K1.1.1
  have T0 := W.w.T
  have T5 := W.2.2.2.1.2.2
  have tm : (100000 : Int32).toInt = 100000 := rfl
  unfold wL_run wxX11_run
  refine c_range (fun hr => c_time W.g3 et (fun ht => ⟨293, W.1.1.2.2.2.2.2, 261, W.g3, ?_⟩) (fun ht => ⟨fun h => absurd h ise_ne2, fun _ => ⟨rfl, ?_⟩⟩)) (fun hr => ⟨fun _ => ?_, fun h => absurd rfl h⟩)
  · have hr : 1 ≤ v.toInt ∧ v.toInt ≤ 2000 := hr
    have ht' : (gi σ 456 5).toInt + v.toInt ≤ 100000 := by
      rw [nle, nadd (by omega) (by omega), tm] at ht
      exact ht
    have ev : v = nI v.toNatClampNeg := by
      have := ncl (a := v) (by omega)
      rw [neq, nI_toInt (by omega)]
      omega
    have cv := ncl (a := v) (by omega)
    obtain ⟨n1, n2, n3⟩ := E_N hN v.toNatClampNeg (gi σ 456) W.ev (by omega)
    refine act_keep W (fun σ1 M F => ⟨261, by rw [M.g (by omega)]; exact W.g3, fun x9 e9 => ⟨v.toNatClampNeg + 1, ?_⟩⟩)
    have e16 : gi σ1 261 9 = gi σ 456 16 := M.km.1.2.2.2.2.2.2.2.2.1
    rw [e16] at e9
    subst e9
    have go : ∀ σ2, zMid S σ p m h (rN v.toNatClampNeg (gi σ 456)) σ2 → wX12_run (zSl S) (sl σ2 463 0 (rN v.toNatClampNeg (gi σ 456) 16 - gi σ 456 16).toInt64) 455 v (fun r10 σ9 => K 0 r10 σ9) := by
      intro σ2 M2 σ3 e3 x2 e4
      subst e3 e4
      refine n_isIn (fun _ => ⟨fun h => absurd h (by decide), fun _ => ⟨456, (M2.st W).2.2.2.2.2.2.1.1, W.v vq5, ?_⟩⟩) (fun hh => absurd (by rw [t64, u0, u5]; exact hr) hh)
      have e456 : gi (si (sl σ2 463 0 (rN v.toNatClampNeg (gi σ 456) 16 - gi σ 456 16).toInt64) 455 0 0) 456 = gi σ 456 := by rw [row_t]; exact M2.i (a := 456) (by omega)
      rw [cq5, e456]
      refine ⟨fun _ => ?_, fun h => absurd ht h⟩
      refine act_rec W M2 (fun σ4 R hrec r4 G4 => ⟨456, G4.1.1, W.v vq16, fun x10 e10 => ⟨v.toNatClampNeg + 1, ?_⟩⟩)
      rw [cq16, r4] at e10
      subst e10
      have hm := M_run56 (N := N) (ln := zSl S) hN (Q := fun r10 σ9 => K 0 r10 σ9) (m := v.toNatClampNeg) (by omega) (bf := gi σ 456 16) v.toNatClampNeg 0 σ4 (by omega) G4 (by rw [r4]; exact W.ev) (by rw [r4]; omega) (fun σ5 r5 f5 => by
        rw [r4] at r5 ⊢
        exact act_fin W hK M2 R f5 hrec r5 n1 (Nat.le_refl _) (by omega) n2 rfl)
      rw [← ev] at hm
      exact hm
    have hc := C_run34 (p := p) (N := N) (ln := zSl S) (Or.inl W.pb) hN (X := fun E5 σ3 => (E5 = "java/lang/IllegalArgumentException" → wX12_run (zSl S) σ3 455 v (fun r10 σ9 => K 1 r10 σ9)) ∧ (¬ E5 = "java/lang/IllegalArgumentException" → E5 = "java/lang/IllegalStateException" ∧ wX12_run (zSl S) σ3 455 v (fun r10 σ9 => K 2 r10 σ9))) (Q := fun r2 σ1 => ∀ x6 : Int64, x6 = r2.toInt64 → vp_in (0 : Int32) (zSl S 463) ∧ ∀ σ8 : zS, σ8 = sl σ1 463 (0 : Int32).toNatClampNeg x6 → wX12_run (zSl S) σ8 455 v (fun r10 σ9 => K 0 r10 σ9)) (m := v.toNatClampNeg) (by omega) (bf := gi σ 456 16) v.toNatClampNeg 0 σ1 (gi σ 456) (by omega) (by rw [M.g (by omega)]; exact W.g3) ((M.st W).2.2.2.2.1 261 (Or.inl rfl)) M.2.2.1 (M.pl W) M.km W.ev (by omega) (fun σ' k' f' _ => OUT _ _ (go _ (M.go f' k')))
    rw [← ev] at hc
    exact hc
  · have hr : 1 ≤ v.toInt ∧ v.toInt ≤ 2000 := hr
    intro σ1 e1 x2 e2
    subst e1 e2
    refine n_isIn (fun _ => ⟨fun h => absurd h (by decide), fun _ => ⟨456, W.q1, W.v vq5, ?_⟩⟩) (fun hh => absurd (by rw [t64, u0, u5]; exact hr) hh)
    rw [cq5, row_t]
    exact ⟨fun h => absurd h ht, fun _ => n_raise (W.thr hK (by decide))⟩
  · intro σ1 e1 x2 e2
    subst e1 e2
    refine n_isIn (fun hh => absurd ?_ hr) (fun _ => ⟨fun _ => n_raise (W.thr hK (by decide)), fun h => absurd rfl h⟩)
    rw [t64, u0, u5] at hh
    exact hh
theorem L_runUntilDone {S : zSp} {σ : zS} {N : Nat} (W : zWd S σ N) (hN : N ≤ 512) {v : Int32} {K : Int32 → Int32 → zS → Prop} (hK : zEnd S N K) : wL_runUntilDone (zSl S) σ 0 v 463 (fun r5 σ4 => wX12_runUntilDone (zSl S) σ4 455 v (fun r10 σ9 => K r5 r10 σ9)) := by
  obtain ⟨p, p', s, m, h, W⟩ := W
  have S1 := W.sm
  have K1 := W.km
  have X1 := W.x
  have OUT : ∀ (σ0 : zS) (r : Int32), wX12_runUntilDone (zSl S) (sl σ0 463 0 r.toInt64) 455 v (fun r10 σ9 => K 0 r10 σ9) → ∀ x6 : Int64, x6 = r.toInt64 → vp_in (0 : Int32) (zSl S 463) ∧ ∀ σ8 : zS, σ8 = sl σ0 463 (0 : Int32).toNatClampNeg x6 → wX12_runUntilDone (zSl S) σ8 455 v (fun r10 σ9 => K 0 r10 σ9) := fun σ0 r hq => c_out (σ := σ0) W.l463 (Q := fun r5 σ4 => wX12_runUntilDone (zSl S) σ4 455 v (fun r10 σ9 => K r5 r10 σ9)) hq
  have u0 : (1 : Int64).toInt = 1 := rfl
  have u5 : (5000 : Int64).toInt = 5000 := rfl
  have et : gi σ 261 1 = gi σ 456 5 := K1.1.1
  have T0 := W.w.T
  have T5 := W.2.2.2.1.2.2
  have tm : (100000 : Int32).toInt = 100000 := rfl
  unfold wL_runUntilDone wxX11_runUntilDone
  refine c_range (fun hr => c_time W.g3 et (fun ht => ⟨293, W.1.1.2.2.2.2.2, 261, W.g3, ?_⟩) (fun ht => ⟨fun h => absurd h ise_ne2, fun _ => ⟨rfl, ?_⟩⟩)) (fun hr => ⟨fun _ => ?_, fun h => absurd rfl h⟩)
  · have hr : 1 ≤ v.toInt ∧ v.toInt ≤ 5000 := hr
    have ht' : (gi σ 456 5).toInt + v.toInt ≤ 100000 := by
      rw [nle, nadd (by omega) (by omega), tm] at ht
      exact ht
    have ev : v = nI v.toNatClampNeg := by
      have := ncl (a := v) (by omega)
      rw [neq, nI_toInt (by omega)]
      omega
    have cv := ncl (a := v) (by omega)
    obtain ⟨n1, n2, n3, n4⟩ := E_G hN v.toNatClampNeg (gi σ 456) W.ev (by omega)
    refine act_keep W (fun σ1 M F => ⟨261, by rw [M.g (by omega)]; exact W.g3, v.toNatClampNeg + 1, ?_⟩)
    have go : ∀ σ2, zMid S σ p m h (rG v.toNatClampNeg (gi σ 456)).2 σ2 → wX12_runUntilDone (zSl S) (sl σ2 463 0 (nI (0 + (rG v.toNatClampNeg (gi σ 456)).1)).toInt64) 455 v (fun r10 σ9 => K 0 r10 σ9) := by
      intro σ2 M2 σ3 e3 x2 e4
      subst e3 e4
      refine n_isIn (fun _ => ⟨fun h => absurd h (by decide), fun _ => ⟨456, (M2.st W).2.2.2.2.2.2.1.1, W.v vq5, ?_⟩⟩) (fun hh => absurd (by rw [t64, u0, u5]; exact hr) hh)
      have e456 : gi (si (sl σ2 463 0 (nI (0 + (rG v.toNatClampNeg (gi σ 456)).1)).toInt64) 455 0 0) 456 = gi σ 456 := by rw [row_t]; exact M2.i (a := 456) (by omega)
      rw [cq5, e456]
      refine ⟨fun _ => ?_, fun h => absurd ht h⟩
      refine act_rec W M2 (fun σ4 R hrec r4 G4 => ⟨v.toNatClampNeg + 1, ?_⟩)
      have hm := M_goes2 (N := N) (ln := zSl S) hN (Q := fun r10 σ9 => K 0 r10 σ9) (m := v.toNatClampNeg) (by omega) v.toNatClampNeg 0 σ4 (by omega) G4 (by rw [r4]; exact W.ev) (by rw [r4]; omega) (fun σ5 r5 f5 => by
        rw [r4] at r5 ⊢
        exact act_fin W hK M2 R f5 hrec r5 n1 (Nat.le_refl _) (by omega) n2 rfl)
      rw [← ev] at hm
      exact hm
    have hc := C_until2 (b := 261) (p := p) (N := N) (ln := zSl S) (Or.inl W.pb) hN (Q := fun r2 σ1 => ∀ x6 : Int64, x6 = r2.toInt64 → vp_in (0 : Int32) (zSl S 463) ∧ ∀ σ8 : zS, σ8 = sl σ1 463 (0 : Int32).toNatClampNeg x6 → wX12_runUntilDone (zSl S) σ8 455 v (fun r10 σ9 => K 0 r10 σ9)) (m := v.toNatClampNeg) (by omega) v.toNatClampNeg 0 σ1 (gi σ 456) (by omega) ((M.st W).2.2.2.2.1 261 (Or.inl rfl)) M.2.2.1 (M.pl W) M.km W.ev (by omega) (fun σ' k' f' _ => OUT _ _ (go _ (M.go f' k')))
    rw [← ev] at hc
    exact hc
  · have hr : 1 ≤ v.toInt ∧ v.toInt ≤ 5000 := hr
    intro σ1 e1 x2 e2
    subst e1 e2
    refine n_isIn (fun _ => ⟨fun h => absurd h (by decide), fun _ => ⟨456, W.q1, W.v vq5, ?_⟩⟩) (fun hh => absurd (by rw [t64, u0, u5]; exact hr) hh)
    rw [cq5, row_t]
    exact ⟨fun h => absurd h ht, fun _ => n_raise (W.thr hK (by decide))⟩
  · intro σ1 e1 x2 e2
    subst e1 e2
    refine n_isIn (fun hh => absurd ?_ hr) (fun _ => ⟨fun _ => n_raise (W.thr hK (by decide)), fun h => absurd rfl h⟩)
    rw [t64, u0, u5] at hh
    exact hh
theorem L_undo {S : zSp} {σ : zS} {N : Nat} (W : zWd S σ N) {K : Int32 → Int32 → zS → Prop} (hK : zEnd S N K) : wL_undo (zSl S) σ 0 463 (fun r5 σ4 => wX12_undo (zSl S) σ4 455 (fun r10 σ9 => K r5 r10 σ9)) := by
  obtain ⟨p, p', s, m, h, W⟩ := W
  have S1 := W.sm
  have K1 := W.km
  have X1 := W.x
  have OUT : ∀ (σ0 : zS) (r : Int32), wX12_undo (zSl S) (sl σ0 463 0 r.toInt64) 455 (fun r10 σ9 => K 0 r10 σ9) → ∀ x6 : Int64, x6 = r.toInt64 → vp_in (0 : Int32) (zSl S 463) ∧ ∀ σ8 : zS, σ8 = sl σ0 463 (0 : Int32).toNatClampNeg x6 → wX12_undo (zSl S) σ8 455 (fun r10 σ9 => K 0 r10 σ9) := fun σ0 r hq => c_out (σ := σ0) W.l463 (Q := fun r5 σ4 => wX12_undo (zSl S) σ4 455 (fun r10 σ9 => K r5 r10 σ9)) hq
  obtain ⟨h10, hs10, HS, HR, HH⟩ := W.2.2.2.2.2.1
  have g5 : gr σ 0 5 = some 293 := W.1.1.2.2.2.2.2
  unfold wL_undo wxX11_undo
  refine ⟨293, g5, ?_⟩
  unfold wX1_size
  rw [HS.2.1]
  have zE : nI m = 0 ↔ m = 0 := by
    have := nI_eq (a := m) (b := 0) (by omega) (by omega)
    exact this
  refine ⟨fun h0 => ⟨rfl, ?_⟩, fun h0 => ⟨293, g5, 261, W.g3, ?_⟩⟩
  · intro σ1 e1
    subst e1
    rw [si_at, zu_ne (show 5 ≠ 0 by decide), HR.1]
    exact ⟨fun _ => n_raise (W.thr hK (by decide)), fun h => absurd h0 h⟩
  · obtain ⟨m', rfl⟩ : ∃ m', m = m' + 1 := ⟨m - 1, by
      have : ¬ m = 0 := fun e => h0 (zE.mpr e)
      omega⟩
    obtain ⟨H1, H2, H3⟩ := HH m' (by omega)
    refine C_restore W.1.2.2.2.1 W.1.2.2.2.2.1 W.2.2.2.2.1 (by omega) hs10 HS H1.1 H1.2.1.2.2.2.1 (fun σ' a1 a2 a3 a4 a5 => ⟨293, by rw [a4.1 0 5 (fun x => absurd x.2 (by decide))]; exact g5, ?_⟩)
    rw [a1.2.1]
    refine OUT _ _ ?_
    have i : ∀ a, ¬ (261 ≤ a ∧ a < 277) → a ≠ 293 → gi σ' a = gi σ a ∧ gl σ' a = gl σ a := fun a x1 x2 => a4.2.2 a (fun x => x.elim (fun y => x1 ⟨y.1, by have := y.2; omega⟩) x2)
    have G' : zMg (gr σ') (zSl S) := (zST_e W.1 a4.1).2.2.2.2.2.2
    intro σ1 e1
    subst e1
    have e5 : gi (si (sl σ' 463 0 (nI m').toInt64) 455 0 0) 455 5 = nI (m' + 1) := by
      rw [si_at, zu_ne (show 5 ≠ 0 by decide)]
      show gi σ' 455 5 = _
      rw [(i 455 (by omega) (by omega)).1]
      exact HR.1
    rw [e5]
    refine ⟨fun h => absurd h h0, fun _ x2 e2 σ3 e3 => ?_⟩
    rw [← nI_1, Int32.add_sub_cancel] at e2
    subst e2 e3
    have r459 : gi (si (si (sl σ' 463 0 (nI m').toInt64) 455 0 0) 455 5 (nI m')) 459 = gi σ 459 := by
      rw [si_out _ _ (by decide), si_out _ _ (by decide)]
      exact (i 459 (by omega) (by omega)).1
    refine M_undo30 (σ := si (si (sl σ' 463 0 (nI m').toInt64) 455 0 0) 455 5 (nI m')) G' (m := m') (by omega) (by rw [si_at, zu_self]) ?_
    rw [r459]
    have cg : zcg (h m') (fun k => if k < 4763 then gi σ 459 (4763 * m' + k) else gi (si (si (sl σ' 463 0 (nI m').toInt64) 455 0 0) 455 5 (nI m')) 456 k) := fun k hk => by
      show (if k < 4763 then gi σ 459 (4763 * m' + k) else _) = _
      rw [if_pos hk]
      exact HR.2 m' (by omega) k hk
    generalize hrow : (fun k => if k < 4763 then gi σ 459 (4763 * m' + k) else gi (si (si (sl σ' 463 0 (nI m').toInt64) 455 0 0) 455 5 (nI m')) 456 k) = row at cg ⊢
    have o : ∀ a, a ≠ 455 → a ≠ 456 → gi (sI (si (si (sl σ' 463 0 (nI m').toInt64) 455 0 0) 455 5 (nI m')) 456 row) a = gi σ' a := fun a x1 x2 => by
      rw [sI_out _ _ x2, si_out _ _ x1, si_out _ _ x1]
      rfl
    have ol : ∀ a, a ≠ 463 → gl (sI (si (si (sl σ' 463 0 (nI m').toInt64) 455 0 0) 455 5 (nI m')) 456 row) a = gl σ' a := fun a x1 => by
      show gl (sl σ' 463 0 (nI m').toInt64) a = _
      funext j
      rw [gl_sl, if_neg x1]
    have o5 : ∀ j, j ≠ 0 → j ≠ 5 → gi (sI (si (si (sl σ' 463 0 (nI m').toInt64) 455 0 0) 455 5 (nI m')) 456 row) 455 j = gi σ' 455 j := fun j x1 x2 => by
      rw [sI_out _ _ (by decide), si_at, zu_ne x2, si_at, zu_ne x1]
      rfl
    refine hK _ _ _ ⟨p, p', s, m', h, zWp_mk W (r2 := row) (sI_at _ _ _) a4.1 a5 (fun a ha => ?_) (fun j hj => ?_) (KM_cg (KM_o a2 (fun a x1 x2 => ⟨o a (by omega) (by omega), ol a (by omega)⟩)) H1.1 cg) (zEv_cg H1 cg) (by rw [cg 5 (by omega)]; exact H3) (H2.tr (zkp_cg cg)) (fun b hb => ?_) (by omega) hs10 ⟨?_, ?_, fun k hk => ?_⟩ ⟨?_, fun k hk j hj => ?_⟩ (fun k hk => HH k (by omega))⟩ ?_ (fun _ => ?_)
    · rw [o a (by omega) (by omega)]; exact (i a (by omega) (by omega)).1
    · rw [o5 j (by omega) (by omega), (i 455 (by omega) (by omega)).1]
    · have hb2 := zIsM_b hb
      rw [o _ (by omega) (by omega), o _ (by omega) (by omega)]
      exact a3 b hb
    · rw [o _ (by omega) (by omega)]; exact a1.1
    · rw [o _ (by omega) (by omega)]; exact a1.2.1
    · have hb := hslot_b s k
      exact ⟨(a1.2.2 k hk).1, KM_o (a1.2.2 k hk).2 (fun a x1 x2 => ⟨o a (by omega) (by omega), ol a (by omega)⟩)⟩
    · rw [sI_out _ _ (by decide), si_at, zu_self]
    · rw [o _ (by omega) (by omega), (i 459 (by omega) (by omega)).1]; exact HR.2 k (by omega) j hj
    · rw [sI_out _ _ (by decide), si_at, zu_ne (by decide), si_at, zu_self]
    · show gl (sl σ' 463 0 (nI m').toInt64) 463 0 = _
      rw [gl_sl, if_pos rfl, if_pos rfl]
