/-! ACTIONS: runs, starts, breaks, losses, taking back -/
/-- the world anew -/
theorem zWp_mk {S : zSp} {σ : zS} {N p p' s m : Nat} {h : Nat → Nat → Int32} (W : zWp S σ N p p' s m h) {σ5 : zS} {N' s1 m1 : Nat} {h1 : Nat → Nat → Int32} {r2 : Nat → Int32} (row : gi σ5 456 = r2) (egr : ∀ a j, ¬ (zIsM a ∧ j = 0) → gr σ5 a j = gr σ a j) (gm : gr σ5 261 0 = some p) (ei : ∀ a, a < 261 ∨ a = 461 ∨ a = 462 ∨ 465 ≤ a → gi σ5 a = gi σ a) (e5 : ∀ j, j = 11 ∨ j = 13 ∨ j = 14 → gi σ5 455 j = gi σ 455 j) (K : KM σ5 261 r2) (E : zEv r2 N') (T : (r2 5).toInt ≤ 100000) (kp : zkp (gi σ 456) r2) (C : zCap σ5) (hm : m1 ≤ 10) (hs : s1 < 10) (H : zHs σ5 p s1 m1 h1) (R : zRec σ5 m1 h1) (HH : ∀ i, i < m1 → zEv (h1 i) N' ∧ zkp (gi σ 456) (h1 i) ∧ (h1 i 5).toInt ≤ 100000) : zWp S σ5 N' p p' s1 m1 h1 := by
  have W0 := W
  obtain ⟨w1, w2, ⟨w3, w3'⟩, ⟨w4, w4', w4''⟩, w5, w6, ⟨n, i1, i2, i3, i4⟩, w8, ⟨a, c, q1, q2, q3, q4, q5, q6, q7, q8, q9, q10, q11, q12⟩⟩ := W
  have hp : p + 127 ≤ 261 := W0.pb
  have hgr : ∀ a j, a < 261 → gr σ5 a j = gr σ a j := fun a j ha => egr a j (fun x => by have := zIsM_b x.1; omega)
  have pl5 : zPl σ5 (zSl S) p r2 := (zPl_cr hp w3 hgr (fun a ha => ei a (by omega))).c kp W0.w
  unfold zWp
  rw [row]
  refine ⟨zST_e w1 egr, ⟨w2.1, by rw [hgr _ _ (by omega)]; exact w2.2.1, by rw [hgr _ _ (by omega)]; exact w2.2.2.1, gm⟩, ⟨pl5, fun q hq k hk hk2 => ?_⟩, ⟨K, E, T⟩, C, ⟨hm, hs, H, R, fun i hi => ?_⟩, ⟨n, i1, ?_, ?_, fun k hk => ?_⟩, ?_, ⟨a, c, ?_, q2, q3, q4, q5, ?_, ?_, ?_, q9, q10, fun k hk => ?_, fun k hk => ?_⟩⟩
  · rw [kp (25 + q) (by omega)] at hk2
    rw [kp (219 + 12 * q + k) (by omega), ei _ (by omega)]
    exact w3' q hq k hk hk2
  · exact ⟨(HH i hi).1, fun k hk => ((HH i hi).2.1 k hk).trans (kp k hk).symm, (HH i hi).2.2⟩
  · rw [ei _ (by omega)]; exact i2
  · rw [e5 13 (by omega)]; exact i3
  · rw [ei _ (by omega), ei _ (by omega)]; exact i4 k hk
  · rw [ei _ (by omega), e5 14 (by omega)]; exact w8
  · rw [hgr _ _ (by omega)]; exact q1
  · rw [ei _ (by omega)]; exact q6
  · rw [ei _ (by omega)]; exact q7
  · rw [e5 11 (by omega)]; exact q8
  · rw [ei _ (by omega), ei _ (by omega)]; exact q11 k hk
  · rw [ei _ (by omega)]; exact q12 k hk
theorem zMid.pl {S : zSp} {σ σ2 : zS} {N p p' s m : Nat} {h : Nat → Nat → Int32} {r2 : Nat → Int32} (M : zMid S σ p m h r2 σ2) (W : zWp S σ N p p' s m h) : zPl σ2 (zSl S) p (gi σ 456) := zPl_cr W.pb W.pl (fun a j ha => M.g (by omega)) (fun a ha => M.i (by omega))
theorem M_begins {ln : Nat → Nat} {σ : zS} (G : zMg (gr σ) ln) {Q : zS → Prop} (hq : ∀ σ', gi σ' 456 = rBegins (gi σ 456) → zMf σ σ' → Q σ') : wX12_begins ln σ 455 Q := by
  have := (m_begins (σ := σ) (r := gi σ 456) (pf := gi σ 460) (n := gi σ 455 7) (far := gi σ 455 9) (Q := Q) G.1.1 G.2.1).mpr (hq _ rfl (zMf_zms σ _ _ _ _))
  rw [zms_self] at this
  exact this
theorem M_clears {ln : Nat → Nat} {σ : zS} (G : zMg (gr σ) ln) {Q : zS → Prop} (hq : ∀ σ', gi σ' 456 = rClears (gi σ 456) → zMf σ σ' → Q σ') : wX12_clears ln σ 455 Q := by
  have := (m_clears (σ := σ) (r := gi σ 456) (pf := gi σ 460) (n := gi σ 455 7) (far := gi σ 455 9) (Q := Q) G.1.1 G.2.1).mpr (hq _ rfl (zMf_zms σ _ _ _ _))
  rw [zms_self] at this
  exact this
theorem M_sends {ln : Nat → Nat} {σ : zS} (G : zMg (gr σ) ln) (h0 : 0 ≤ (gi σ 456 19).toInt) (h1 : (gi σ 456 19).toInt ≤ 599) {w v : Int32} {Q : zS → Prop} (hq : ∀ σ', gi σ' 456 = rSends (gi σ 456) w v → zMf σ σ' → Q σ') : wX12_sends ln σ 455 w v Q := by
  have := m_sends (σ := σ) (r := gi σ 456) (pf := gi σ 460) (n := gi σ 455 7) (far := gi σ 455 9) (Q := Q) G.1.1 G.2.1 h0 h1 (w := w) (v := v) (hq _ rfl (zMf_zms σ _ _ _ _))
  rw [zms_self] at this
  exact this
/-- rows in which nothing of the transit changed -/
theorem zEv_keep {r r' : Nat → Int32} {N : Nat} (h : zEv r N) (hW : zW r') (kp : zkp r r') (e : ∀ k, k = 1 ∨ (5 ≤ k ∧ k ≤ 7) ∨ (9 ≤ k ∧ k ≤ 14) ∨ k = 19 ∨ k = 27 ∨ k = 28 ∨ k = 37 ∨ k = 38 ∨ (59 ≤ k ∧ k < 99) ∨ 2963 ≤ k → r' k = r k) : zEv r' N := by
  have hn : nU r ≤ 600 := by
    have hu := h.1.u
    have := ncl hu.1
    unfold nU
    omega
  have e5 := e 5 (by omega)
  have e1 := e 1 (by omega)
  have ze : zTe r r' := ⟨e 19 (by omega), fun j hj => e _ (by omega), e5, e1, fun x => by rw [e 14 (by omega)] at x; exact x⟩
  refine ⟨hW, ?_, ?_, by rw [ze.B hn]; exact h.2.2.2⟩
  · rw [e5]
    exact zx_c (fun j hj => e j (by omega)) kp h.1 h.2.1
  · rw [e5, e1]
    exact ze.T hn h.2.2.1
theorem RRs_lose {f : Nat → Nat → Int32} {s0 s1 : Int64} {r : Nat → Int32} (h : RR f s0 s1 r) (hW : zW r) (hl : (r 20).toInt ≤ 19) (v : Int32) : RR (cAdd f 14 20 v) s0 s1 (zu (zu r (39 + (r 20).toNatClampNeg) v) 20 (r 20 + 1)) := by
  have hm := hW.l
  obtain ⟨h1, ⟨h2, h2'⟩, ⟨h3, h3'⟩, h4, h5, h6, h7, h8, h9⟩ := h
  have c0 := ncl hm.1
  have eV : f 14 1 = r 20 := h7.1
  unfold cAdd
  rw [eV]
  have hc : ¬ nI 20 ≤ r 20 := by
    rw [nle]
    have t : (nI 20).toInt = 20 := rfl
    omega
  rw [if_neg hc]
  have e1 : (r 20 + 1).toInt = (r 20).toInt + 1 := ixs (k := 1) rfl (by decide) (by omega) (by omega)
  have c1 : (r 20 + 1).toNatClampNeg = (r 20).toNatClampNeg + 1 := by rw [ncln, e1]; omega
  obtain ⟨nb, ne, nz, nm0, nm1, nt⟩ := hW.bn
  have er : ∀ k, k ≠ 20 ∧ ¬ (39 ≤ k ∧ k < 59) → zu (zu r (39 + (r 20).toNatClampNeg) v) 20 (r 20 + 1) k = r k := fun k hk => by rw [zu_ne hk.1, zu_ne (by omega)]
  have ef : ∀ k, k ≠ 14 ∧ k ≠ 15 → zf (zf f 15 (r 20).toNatClampNeg v) 14 1 (r 20 + 1) k = f k := fun k hk => by rw [zf_ne hk.1, zf_ne hk.2]
  refine ⟨RS_c h1 (ef 0 (by omega)) (fun k hk => er k (by omega)), ⟨RO_c h2 (ef 1 (by omega)) (fun k hk => er k (by omega)), RO_c h2' (ef 4 (by omega)) (fun k hk => er k (by omega))⟩, ⟨RV_c h3 (ef 2 (by omega)) (ef 3 (by omega)) (er _ (by omega)) (fun k hk => er _ (by omega)), RV_c h3' (ef 5 (by omega)) (ef 6 (by omega)) (er _ (by omega)) (fun k hk => er _ (by omega))⟩, RB_c h4 (ef 7 (by omega)) (ef 8 (by omega)) (ef 9 (by omega)) (fun k hk => er k (by omega)) (fun k hk => er _ (by omega)), RT_c h5 (ef 10 (by omega)) (ef 11 (by omega)) (er _ (by omega)) (fun k hk => er _ (by omega)), RE_c h6 (ef 12 (by omega)) (ef 13 (by omega)) (er _ (by omega)) (fun k hk => er _ (by omega)), ⟨?_, fun j hj => ?_⟩, by rw [er 37 (by omega)]; exact h8, by rw [er 38 (by omega)]; exact h9⟩
  · rw [zu_self]
    simp only [zf_ap, if_true]
  · rw [zu_self, c1] at hj
    rw [zf_ne (by decide), zf_eq, zu_ne (show 39 + j ≠ 20 by omega)]
    by_cases e : j = (r 20).toNatClampNeg
    · subst e; rw [zu_self, zu_self]
    · rw [zu_ne e, zu_ne (by omega)]
      exact h7.2 j (by omega)
theorem L_lose {S : zSp} {σ : zS} {N : Nat} (W : zWd S σ N) {v : Int32} {K : Int32 → Int32 → zS → Prop} (hK : zEnd S N K) : wL_lose (zSl S) σ 0 v 463 (fun r5 σ4 => wX12_lose (zSl S) σ4 455 v (fun r10 σ9 => K r5 r10 σ9)) := by
  obtain ⟨p, p', s, m, h, W⟩ := W
  have S1 := W.sm
  have K1 := W.km
  have X1 := W.x
  have OUT : ∀ (σ0 : zS) (r : Int32), wX12_lose (zSl S) (sl σ0 463 0 r.toInt64) 455 v (fun r10 σ9 => K 0 r10 σ9) → ∀ x6 : Int64, x6 = r.toInt64 → vp_in (0 : Int32) (zSl S 463) ∧ ∀ σ8 : zS, σ8 = sl σ0 463 (0 : Int32).toNatClampNeg x6 → wX12_lose (zSl S) σ8 455 v (fun r10 σ9 => K 0 r10 σ9) := fun σ0 r hq => c_out (σ := σ0) W.l463 (Q := fun r5 σ4 => wX12_lose (zSl S) σ4 455 v (fun r10 σ9 => K r5 r10 σ9)) hq
  have u0 : (1 : Int64).toInt = 1 := rfl
  have u5 : (500 : Int64).toInt = 500 := rfl
  have hl := W.w.l
  have cl := ncl hl.1
  unfold wL_lose wxX11_lose
  refine c_range (fun hr => ⟨261, W.g3, 275, S1.1.2.2.2.2.2, ?_⟩) (fun hr => ⟨fun _ => ?_, fun h => absurd rfl h⟩)
  · have hr : 1 ≤ v.toInt ∧ v.toInt ≤ 500 := hr
    have e20 : gi σ 275 1 = gi σ 456 20 := K1.2.2.2.2.2.2.1.1
    unfold wX9_size
    rw [e20]
    refine ⟨fun h19 => ⟨293, W.1.1.2.2.2.2.2, 261, W.g3, ?_⟩, fun h19 => ⟨fun h => absurd h ise_ne2, fun _ => ⟨rfl, ?_⟩⟩⟩
    · have h19' : (gi σ 456 20).toInt ≤ 19 := by
        rw [nlt] at h19
        have t : (20 : Int32).toInt = 20 := rfl
        omega
      have hne : ¬ gi σ 456 20 = 20 := fun e => by
        rw [e] at h19'
        exact absurd h19' (by decide)
      have c19 : (gi σ 456 20 + 1).toInt = (gi σ 456 20).toInt + 1 := ixs (k := 1) rfl (by decide) (by omega) (by omega)
      refine act_keep W (fun σ1 M F => ⟨261, by rw [M.g (by omega)]; exact W.g3, fun x11 e11 => ⟨261, by rw [M.g (by omega)]; exact W.g3, 275, by rw [M.2.2.2.2.1 261 16 (fun x => absurd x.2 (by decide))]; exact S1.1.2.2.2.2.2, ?_⟩⟩)
      have e2 : gi σ1 261 9 = gi σ 456 16 := M.km.1.2.2.2.2.2.2.2.2.1
      rw [e2] at e11
      subst e11
      have S2 : zMs (gr σ1) (zSl S) 261 := (M.st W).2.2.2.2.1 261 (Or.inl rfl)
      have hadd := c_radd (σ := σ1) (b := 261) (f := fun k => gi σ1 (261 + k)) (s0 := gl σ1 262 6) (s1 := gl σ1 265 6) (c := 14) (cap := 20) (ln := zSl S) (by decide) S2.2.1.2.2.2.2.2.2.2.2 S2.2.2.2.2.2.2.2 (by decide) (by show 0 ≤ (gi σ1 275 1).toInt; rw [show gi σ1 275 1 = gi σ 456 20 from M.km.2.2.2.2.2.2.1.1]; exact hl.1) (v := gi σ 456 16 + v) (Q := fun σ14 => ∀ x6 : Int64, x6 = (gi σ 456 16 + v).toInt64 → vp_in (0 : Int32) (zSl S 463) ∧ ∀ σ8 : zS, σ8 = sl σ14 463 (0 : Int32).toNatClampNeg x6 → wX12_lose (zSl S) σ8 455 v (fun r10 σ9 => K 0 r10 σ9))
      rw [zcs_self] at hadd
      refine hadd (OUT _ _ ?_)
      have RRl := RRs_lose M.km W.w h19' (gi σ 456 16 + v)
      have M2 := M.go (zFr_zcs σ1 261 _ _ _) (KM_zcs RRl)
      have kp : zkp (gi σ 456) (zu (zu (gi σ 456) (39 + (gi σ 456 20).toNatClampNeg) (gi σ 456 16 + v)) 20 (gi σ 456 20 + 1)) := zkp_zu (zkp_zu zkp.rf (nsk (by omega)) _) (nsk (by omega)) _
      have er : ∀ k, k ≠ 20 → ¬ (39 ≤ k ∧ k < 59) → zu (zu (gi σ 456) (39 + (gi σ 456 20).toNatClampNeg) (gi σ 456 16 + v)) 20 (gi σ 456 20 + 1) k = gi σ 456 k := fun k h1 h2 => by rw [zu_ne h1, zu_ne (by omega)]
      have hE := zEv_keep W.ev (zW_u20 (zW_out W.w (nk (k := 39 + (gi σ 456 20).toNatClampNeg) (by omega)) (gi σ 456 16 + v)) (v := gi σ 456 20 + 1) (by rw [c19]; omega)) kp (fun k hk => er k (by omega) (by omega))
      intro σ3 e3 x2 e4
      subst e3 e4
      refine n_isIn (fun _ => ⟨fun h => absurd h (by decide), fun _ => ⟨456, (M2.st W).2.2.2.2.2.2.1.1, W.v vq20, ?_⟩⟩) (fun hh => absurd (by rw [t64, u0, u5]; exact hr) hh)
      rw [cq20, row_t]
      have e456 : gi (sl (zcs σ1 261 (cAdd (fun k => gi σ1 (261 + k)) 14 20 (gi σ 456 16 + v)) (gl σ1 262 6) (gl σ1 265 6)) 463 0 (gi σ 456 16 + v).toInt64) 456 = gi σ 456 := M2.i (a := 456) (by omega)
      rw [e456]
      refine ⟨fun e => absurd e hne, fun _ => ?_⟩
      refine act_rec W M2 (fun σ4 R hrec r4 G4 => ⟨456, G4.1.1, W.v vq16, fun x10 e10 => ⟨456, G4.1.1, 456, G4.1.1, W.v vq20, fun x14 e14 => ?_⟩⟩)
      rw [cq16, r4] at e10
      rw [r4] at e14
      have t39 : (39 + gi σ 456 20 : Int32).toInt = 39 + (gi σ 456 20).toInt := by
        have t : (39 : Int32).toInt = 39 := rfl
        rw [nadd (by rw [t]; omega) (by rw [t]; omega), t]
      have c39 : (39 + gi σ 456 20 : Int32).toNatClampNeg = 39 + (gi σ 456 20).toNatClampNeg := by rw [ncln, t39]; omega
      subst e10 e14
      refine ⟨W.v (nin (by rw [t39]; omega) (by rw [t39]; omega)), fun σ16 e16 => ?_⟩
      rw [c39] at e16
      subst e16
      refine ⟨456, G4.1.1, W.v vq20, fun x19 e19 => ⟨W.v vq20, fun σ21 e21 => ?_⟩⟩
      rw [si_at, zu_ne (by omega), r4] at e19
      subst e19 e21
      exact act_fin W hK M2 R ((zMf_i _ _ _).tr (zMf_i _ _ _)) hrec (by rw [si_at, si_at, r4]) hE (Nat.le_refl _) (by rw [er 5 (by omega) (by omega)]; exact W.2.2.2.1.2.2) kp rfl
    · have h20 : gi σ 456 20 = 20 := by
        rw [nlt] at h19
        have t : (20 : Int32).toInt = 20 := rfl
        rw [neq]
        omega
      intro σ1 e1 x2 e2
      subst e1 e2
      refine n_isIn (fun _ => ⟨fun h => absurd h (by decide), fun _ => ⟨456, W.q1, W.v vq20, ?_⟩⟩) (fun hh => absurd (by rw [t64, u0, u5]; exact hr) hh)
      rw [cq20, row_t]
      exact ⟨fun _ => n_raise (W.thr hK (by decide)), fun h => absurd h20 h⟩
  · intro σ1 e1 x2 e2
    subst e1 e2
    refine n_isIn (fun hh => absurd ?_ hr) (fun _ => ⟨fun _ => n_raise (W.thr hK (by decide)), fun h => absurd rfl h⟩)
    rw [t64, u0, u5] at hh
    exact hh
theorem rClears_15 (x : Nat → Int32) (w : Int32) : zu (rClears x) 15 w = rClears (zu x 15 w) := by
  unfold rClears
  rw [zu_comm _ (show 14 ≠ 15 by decide), zu_comm _ (show 13 ≠ 15 by decide), zu_comm _ (show 12 ≠ 15 by decide), zu_comm _ (show 11 ≠ 15 by decide)]
theorem zu_idm {x : Nat → Int32} {k : Nat} {v : Int32} (h : x k = v) : zu x k v = x := by
  funext j
  by_cases e : j = k
  · subst e; rw [zu_self, h]
  · rw [zu_ne e]
theorem E_start {r : Nat → Int32} {N : Nat} (h : zEv r N) (h6 : r 6 = -1) {v : Int32} {q : Nat} (hq : v = 0 ∧ q = 0 ∨ v = 1 ∧ q = 1) (hl : (r (27 + q)).toInt < (r (25 + q)).toInt) (w : Int32) : zEv (zu (zu r 6 v) 15 w) N ∧ zkp r (zu (zu r 6 v) 15 w) := by
  have kp : zkp r (zu (zu r 6 v) 15 w) := zkp_zu (zkp_zu zkp.rf (nsk (by omega)) _) (nsk (by omega)) _
  have e : ∀ k, k ≠ 6 → k ≠ 15 → zu (zu r 6 v) 15 w k = r k := fun k h1 h2 => by rw [zu_ne h2, zu_ne h1]
  have hW : zW (zu (zu r 6 v) 15 w) := by
    refine zW_out (zW_u6 h.1 (Or.inr (hq.elim (fun x => Or.inl x.1) (fun x => Or.inr x.1))) (fun e0 => ?_) (fun e1 => ?_)) (nk (by omega)) _
    · rcases hq with ⟨_, rfl⟩ | ⟨e2, _⟩
      · exact hl
      · rw [e0] at e2; exact absurd e2 (by decide)
    · rcases hq with ⟨e2, _⟩ | ⟨_, rfl⟩
      · rw [e1] at e2; exact absurd e2 (by decide)
      · exact hl
  have e66 : zu (zu r 6 v) 15 w 6 = v := by rw [zu_ne (by decide), zu_self]
  have hn : nU r ≤ 600 := by
    have hu := h.1.u
    have := ncl hu.1
    unfold nU
    omega
  have ze : zTe r (zu (zu r 6 v) 15 w) := ⟨e 19 (by omega) (by omega), fun j hj => e _ (by omega) (by omega), e 5 (by omega) (by omega), e 1 (by omega) (by omega), fun x => by rw [e 14 (by omega) (by omega)] at x; exact x⟩
  obtain ⟨x1, x2, x3, x4, x5, x6, x7, x8, x9⟩ := h.2.1
  obtain ⟨y7, y9, y10, y11, y19⟩ := x7 h6
  refine ⟨⟨hW, ?_, ?_, by rw [ze.B hn]; exact h.2.2.2⟩, kp⟩
  · rw [e 5 (by omega) (by omega)]
    refine ⟨fun ha => ?_, by rw [e 12 (by omega) (by omega)]; exact x2, by rw [e 13 (by omega) (by omega)]; exact x3, by rw [e 14 (by omega) (by omega)]; exact x4, by rw [e 37 (by omega) (by omega)]; exact x5, by rw [e 38 (by omega) (by omega)]; exact x6, fun h6' => ?_, fun k hk2 => ?_, x9.c kp h.1⟩
    · have := (zLn_len hW ha.1).1
      have z0 : (0 : Int32).toInt = 0 := rfl
      rw [e 9 (by omega) (by omega), y9, z0]
      omega
    · rw [e66] at h6'
      rcases hq with ⟨e2, _⟩ | ⟨e2, _⟩
      · rw [e2] at h6'; exact absurd h6' (by decide)
      · rw [e2] at h6'; exact absurd h6' (by decide)
    · rw [e 11 (by omega) (by omega)] at hk2
      rw [e (59 + k) (by omega) (by omega)]
      exact x8 k hk2
  · rw [e 5 (by omega) (by omega), e 1 (by omega) (by omega)]
    exact ze.T hn h.2.2.1
theorem L_start {S : zSp} {σ : zS} {N : Nat} (W : zWd S σ N) (hN : N ≤ 512) {v : Int32} {K : Int32 → Int32 → zS → Prop} (hK : zEnd S N K) : wL_start (zSl S) σ 0 v 463 (fun r5 σ4 => wX12_start (zSl S) σ4 455 v (fun r10 σ9 => K r5 r10 σ9)) := by
  obtain ⟨p, p', s, m, h, W⟩ := W
  have S1 := W.sm
  have K1 := W.km
  have X1 := W.x
  have OUT : ∀ (σ0 : zS) (r : Int32), wX12_start (zSl S) (sl σ0 463 0 r.toInt64) 455 v (fun r10 σ9 => K 0 r10 σ9) → ∀ x6 : Int64, x6 = r.toInt64 → vp_in (0 : Int32) (zSl S 463) ∧ ∀ σ8 : zS, σ8 = sl σ0 463 (0 : Int32).toNatClampNeg x6 → wX12_start (zSl S) σ8 455 v (fun r10 σ9 => K 0 r10 σ9) := fun σ0 r hq => c_out (σ := σ0) W.l463 (Q := fun r5 σ4 => wX12_start (zSl S) σ4 455 v (fun r10 σ9 => K r5 r10 σ9)) hq
  have thr1 : ¬ (v = 0 ∨ v = 1) → wX12_start (zSl S) σ 455 v (fun r10 σ9 => K 1 r10 σ9) := by
    intro hv σ1 e1
    subst e1
    exact n_isOffice (fun h => absurd h hv) (fun _ => ⟨fun _ => n_raise (W.thr hK (by decide)), fun h => absurd rfl h⟩)
  have thr2 : (v = 0 ∨ v = 1) → ¬ gi σ 456 6 = -1 → wX12_start (zSl S) σ 455 v (fun r10 σ9 => K 2 r10 σ9) := by
    intro hv h6 σ1 e1
    subst e1
    refine n_isOffice (fun _ => ⟨fun h => absurd h (by decide), fun _ => ?_⟩) (fun h => absurd hv h)
    refine M_isSender (σ := si σ 455 0 0) W.mg ?_
    rw [row_t, if_neg h6]
    refine ⟨fun h => absurd h (by decide), fun _ => ?_⟩
    unfold wX12_start_46
    exact n_raise (W.thr hK (by decide))
  have thr3 : ∀ q : Nat, (v = 0 ∧ q = 0 ∨ v = 1 ∧ q = 1) → gi σ 456 6 = -1 → gi σ 456 (27 + q) = gi σ 456 (25 + q) → wX12_start (zSl S) σ 455 v (fun r10 σ9 => K 2 r10 σ9) := by
    intro q hq h6 he σ1 e1
    subst e1
    refine n_isOffice (fun _ => ⟨fun h => absurd h (by decide), fun _ => ?_⟩) (fun hn => absurd (hq.elim (fun x => Or.inl x.1) (fun x => Or.inr x.1)) hn)
    refine M_isSender (σ := si σ 455 0 0) W.mg ?_
    rw [row_t, if_pos h6]
    refine ⟨fun _ => ⟨456, W.q1, fun x7 e7 => ?_⟩, fun h => absurd rfl h⟩
    subst e7
    refine ⟨W.v (oix hq 27 (by decide)).2, 456, W.q1, fun x10 e10 => ?_⟩
    subst e10
    refine ⟨W.v (oix hq 25 (by decide)).2, ?_⟩
    rw [show ((27 : Int32) + v).toNatClampNeg = 27 + q from (oix hq 27 (by decide)).1, show ((25 : Int32) + v).toNatClampNeg = 25 + q from (oix hq 25 (by decide)).1, row_t]
    refine ⟨fun _ => ?_, fun h => absurd he h⟩
    unfold wX12_start_46
    exact n_raise (W.thr hK (by decide))
  have go : ∀ q : Nat, (v = 0 ∧ q = 0 ∨ v = 1 ∧ q = 1) → gi σ 456 6 = -1 → (gi σ 456 (27 + q)).toInt < (gi σ 456 (25 + q)).toInt → ∀ σ2, zMid S σ p m h (rClears (zu (zu (gi σ 456) 6 v) 15 (gi σ 456 5))) σ2 → wX12_start (zSl S) (sl σ2 463 0 (gi σ 456 (27 + q)).toInt64) 455 v (fun r10 σ9 => K 0 r10 σ9) := by
    intro q hq h6 hlt σ2 M2 σ3 e3
    subst e3
    have hne : ¬ gi σ 456 (27 + q) = gi σ 456 (25 + q) := fun e => by rw [e] at hlt; omega
    obtain ⟨y7, y9, y10, y11, y19⟩ := X1.2.2.2.2.2.2.1 h6
    obtain ⟨hE0, kp0⟩ := E_start W.ev h6 hq hlt (gi σ 456 5)
    have hE := E_clears hE0 hN
    have kp := kp0.tr (zkp_clears (zkp.rf (r := zu (zu (gi σ 456) 6 v) 15 (gi σ 456 5))))
    have G2 : zMg (gr (si (sl σ2 463 0 (gi σ 456 (27 + q)).toInt64) 455 0 0)) (zSl S) := (M2.st W).2.2.2.2.2.2
    have e456 : gi (si (sl σ2 463 0 (gi σ 456 (27 + q)).toInt64) 455 0 0) 456 = gi σ 456 := by rw [row_t]; exact M2.i (by omega)
    refine n_isOffice (fun _ => ⟨fun h => absurd h (by decide), fun _ => ?_⟩) (fun hn => absurd (hq.elim (fun x => Or.inl x.1) (fun x => Or.inr x.1)) hn)
    refine M_isSender G2 ?_
    rw [e456, if_pos h6]
    refine ⟨fun _ => ⟨456, G2.1.1, fun x7 e7 => ?_⟩, fun h => absurd rfl h⟩
    subst e7
    refine ⟨W.v (oix hq 27 (by decide)).2, 456, G2.1.1, fun x10 e10 => ?_⟩
    subst e10
    refine ⟨W.v (oix hq 25 (by decide)).2, ?_⟩
    rw [show ((27 : Int32) + v).toNatClampNeg = 27 + q from (oix hq 27 (by decide)).1, show ((25 : Int32) + v).toNatClampNeg = 25 + q from (oix hq 25 (by decide)).1, e456]
    refine ⟨fun e => absurd e hne, fun _ => ?_⟩
    refine act_rec W M2 (fun σ4 R hrec r4 G4 => ⟨456, G4.1.1, W.v vq6, fun σ15 e15 => ?_⟩)
    rw [cq6] at e15
    subst e15
    refine ⟨456, G4.1.1, W.v vq10, fun σ18 e18 => ?_⟩
    rw [cq10] at e18
    subst e18
    refine M_begins (σ := si (si σ4 456 6 v) 456 10 0) G4 (fun σ19 r19 f19 => ?_)
    have G19 : zMg (gr σ19) (zSl S) := by rw [f19.r]; exact G4
    refine M_clears G19 (fun σ20 r20 f20 => ?_)
    have G20 : zMg (gr σ20) (zSl S) := by rw [f20.r]; exact G19
    rw [si_at, si_at, r4] at r19
    rw [zu_idm (show zu (gi σ 456) 6 v 10 = 0 by rw [zu_ne (by decide)]; exact y10), rBegins_id (show zu (gi σ 456) 6 v 7 = 0 by rw [zu_ne (by decide)]; exact y7) (show zu (gi σ 456) 6 v 9 = 0 by rw [zu_ne (by decide)]; exact y9)] at r19
    rw [r19] at r20
    refine ⟨456, G20.1.1, 456, G20.1.1, W.v vq5, fun x24 e24 => ⟨W.v vq15, fun σ26 e26 => ?_⟩⟩
    rw [cq5, r20, rClears_out _ (by omega), zu_ne (by decide)] at e24
    rw [cq15] at e26
    subst e24 e26
    refine ⟨456, G20.1.1, fun x28 e28 => ?_⟩
    subst e28
    refine ⟨W.v (oix hq 27 (by decide)).2, ?_⟩
    have erow : gi (si σ20 456 15 (gi σ 456 5)) 456 = rClears (zu (zu (gi σ 456) 6 v) 15 (gi σ 456 5)) := by rw [si_at, r20, rClears_15]
    rw [show ((27 : Int32) + v).toNatClampNeg = 27 + q from (oix hq 27 (by decide)).1, erow, rClears_out _ (by omega), zu_ne (by omega), zu_ne (by omega)]
    exact act_fin W hK M2 R ((((zMf_i _ _ _).tr (zMf_i _ _ _)).tr f19).tr (f20.tr (zMf_i _ _ _))) hrec erow hE (Nat.le_refl _) (by rw [rClears_out _ (by omega), zu_ne (by decide), zu_ne (by decide)]; exact W.2.2.2.1.2.2) kp rfl
  have cls : ∀ q : Nat, (v = 0 ∧ q = 0 ∨ v = 1 ∧ q = 1) → gi σ 456 6 = -1 → (gi σ 456 (27 + q)).toInt < (gi σ 456 (25 + q)).toInt → wX1_keep (zSl S) σ 293 261 (fun σ9 => ∃ j10 : Nat, gr σ9 0 3 = some j10 ∧ wX3_beginTransmission (zSl S) σ9 j10 v (fun σ11 => ∀ x6 : Int64, x6 = (gi σ 456 (27 + q)).toInt64 → vp_in (0 : Int32) (zSl S 463) ∧ ∀ σ8 : zS, σ8 = sl σ11 463 (0 : Int32).toNatClampNeg x6 → wX12_start (zSl S) σ8 455 v (fun r10 σ9 => K 0 r10 σ9))) := by
    intro q hq h6 hlt
    refine act_keep W (fun σ1 M F => ⟨261, by rw [M.g (by omega)]; exact W.g3, ?_⟩)
    intro σ2 e2 x2 ex2 σ3 e3
    subst e2
    have e1 : gi (si σ1 261 3 v) 261 1 = gi σ 456 5 := by
      rw [si_at, zu_ne (by decide)]
      exact M.km.1.1
    rw [e1] at ex2
    subst ex2 e3
    obtain ⟨k1, k2⟩ := KM_si (σ := σ1) (b := 261) (k := 0) (j := 3) (v := v) (by decide) (RRs_6 M.km v)
    obtain ⟨k3, k4⟩ := KM_si (σ := si σ1 261 3 v) (b := 261) (k := 0) (j := 8) (v := gi σ 456 5) (by decide) (RRs_15 k1 (gi σ 456 5))
    have S2 : zMs (gr σ1) (zSl S) 261 := (M.st W).2.2.2.2.1 261 (Or.inl rfl)
    refine ⟨268, S2.1.2.2.1, ?_⟩
    have hcl := C_clears (σ := si (si σ1 261 3 v) 261 8 (gi σ 456 5)) (b := 261) S2 k3 (by rw [zu_ne (by decide), zu_ne (by decide)]; exact W.w.b.1) (Q := fun σ11 => ∀ x6 : Int64, x6 = (gi σ 456 (27 + q)).toInt64 → vp_in (0 : Int32) (zSl S 463) ∧ ∀ σ8 : zS, σ8 = sl σ11 463 (0 : Int32).toNatClampNeg x6 → wX12_start (zSl S) σ8 455 v (fun r10 σ9 => K 0 r10 σ9)) (fun f' hf => OUT _ _ (go q hq h6 hlt _ (M.go ((k2.tr k4).tr (zFr_zcs _ 261 _ _ _)) (KM_zcs hf))))
    rw [zcs_self] at hcl
    exact hcl
  have e63 : gi σ 261 3 = gi σ 456 6 := K1.1.2.2.1
  unfold wL_start wxX11_start
  refine c_office W.st (fun hv x3 e3 => ?_) (fun hv x3 e3 => ?_) (fun hv => ⟨fun _ => thr1 hv, fun h => absurd rfl h⟩)
  · have e27 : gi σ 262 2 = gi σ 456 27 := K1.2.1.1.2.2.1
    rw [e27] at e3
    subst e3
    refine ⟨261, W.g3, ?_⟩
    rw [e63]
    refine ⟨fun h6 => ?_, fun h6 => ⟨fun h => absurd h ise_ne, fun _ => ⟨rfl, thr2 (Or.inl hv) h6⟩⟩⟩
    have dk : gi σ (p + 3) 2 = gi σ 456 25 := W.pl.2.2.1.1
    refine c_desk W.st W.gp W.ps (fun _ => ?_) (fun h => by rw [hv] at h; exact absurd h (by decide)) (fun h => absurd (Or.inl hv) h)
    rw [dk]
    refine ⟨fun hl => ⟨293, W.1.1.2.2.2.2.2, 261, W.g3, cls 0 (Or.inl ⟨hv, rfl⟩) h6 ((nlt _ _).mp hl)⟩, fun hl => ⟨fun h => absurd h ise_ne, fun _ => ⟨rfl, thr3 0 (Or.inl ⟨hv, rfl⟩) h6 ?_⟩⟩⟩
    rw [nlt] at hl
    have := W.w.D0
    show gi σ 456 27 = gi σ 456 25
    rw [neq]
    omega
  · have e27 : gi σ 265 2 = gi σ 456 28 := K1.2.1.2.2.2.1
    rw [e27] at e3
    subst e3
    refine ⟨261, W.g3, ?_⟩
    rw [e63]
    refine ⟨fun h6 => ?_, fun h6 => ⟨fun h => absurd h ise_ne, fun _ => ⟨rfl, thr2 (Or.inr hv) h6⟩⟩⟩
    have dk : gi σ (p + 65) 2 = gi σ 456 26 := W.pl.2.2.1.2
    refine c_desk W.st W.gp W.ps (fun h => by rw [hv] at h; exact absurd h (by decide)) (fun _ => ?_) (fun h => absurd (Or.inr hv) h)
    rw [dk]
    refine ⟨fun hl => ⟨293, W.1.1.2.2.2.2.2, 261, W.g3, cls 1 (Or.inr ⟨hv, rfl⟩) h6 ((nlt _ _).mp hl)⟩, fun hl => ⟨fun h => absurd h ise_ne, fun _ => ⟨rfl, thr3 1 (Or.inr ⟨hv, rfl⟩) h6 ?_⟩⟩⟩
    rw [nlt] at hl
    have := W.w.D1
    show gi σ 456 28 = gi σ 456 26
    rw [neq]
    omega
