/-! THE CLASS'S TICK -/
theorem C_pop {ln : Nat → Nat} {σ : zS} {b : Nat} {f : Nat → Nat → Int32} {s0 s1 : Int64} {r : Nat → Int32} (S : zMs (gr σ) ln b) (h : RR f s0 s1 r) (hW : zW r) (h0 : ¬ r 19 ≤ 0) {Q : zS → Prop} (hq : ∀ f', RR f' s0 s1 (rPop r) → Q (zcs σ b f' s0 s1)) : wX8_removeFirst ln (zcs σ b f s0 s1) (b + 10) Q := by
  obtain ⟨nb, ne, nz, nm0, nm1, nt⟩ := hW.bn
  obtain ⟨h1, ⟨h2, h2'⟩, ⟨h3, h3'⟩, h4, h5, h6, h7, h8, h9⟩ := h
  obtain ⟨e1, e2, s, hs, e3, hr⟩ := h5
  have hcu := ncl hW.u.1
  have z0 : (0 : Int32).toInt = 0 := rfl
  have h19 : 0 < (r 19).toInt := by
    rw [nle] at h0
    omega
  obtain ⟨n, hn⟩ : ∃ n, nU r = n + 1 := ⟨nU r - 1, by unfold nU; omega⟩
  obtain ⟨hp1, hp2⟩ := rPop_n hW hn
  have em : r 19 = nI (n + 1) := by
    unfold nU at hn
    rw [← hn, neq, nI_toInt (by omega)]; omega
  have e2' : f 10 3 = nI (n + 1) := e2.trans em
  refine c_recdrop (c := 10) (cap := 640) (by decide) (by decide) e1 e3 e2' hs (by omega) (by unfold nU at hn; omega) (hq _ ?_)
  have er : ∀ k, k ≠ 19 → k < 2963 → rPop r k = r k := fun k => rPop_out r
  have ef : ∀ k, k ≠ 10 → cDrop f 10 640 s (n + 1) k = f k := fun k hk => by unfold cDrop; rw [zf_ne hk, zf_ne hk]
  refine ⟨RS_c h1 (ef 0 (by omega)) (fun k hk => er k (by omega) (by omega)), ⟨RO_c h2 (ef 1 (by omega)) (fun k hk => er k (by omega) (by omega)), RO_c h2' (ef 4 (by omega)) (fun k hk => er k (by omega) (by omega))⟩, ⟨RV_c h3 (ef 2 (by omega)) (ef 3 (by omega)) (er _ (by omega) (by omega)) (fun k hk => er _ (by omega) (by omega)), RV_c h3' (ef 5 (by omega)) (ef 6 (by omega)) (er _ (by omega) (by omega)) (fun k hk => er _ (by omega) (by omega))⟩, RB_c h4 (ef 7 (by omega)) (ef 8 (by omega)) (ef 9 (by omega)) (fun k hk => er k (by omega) (by omega)) (fun k hk => er _ (by omega) (by omega)), ?_, RE_c h6 (ef 12 (by omega)) (ef 13 (by omega)) (er _ (by omega) (by omega)) (fun k hk => er _ (by omega) (by omega)), RZ_c h7 (ef 14 (by omega)) (ef 15 (by omega)) (er _ (by omega) (by omega)) (fun k hk => er _ (by omega) (by omega)), by rw [er 37 (by omega) (by omega)]; exact h8, by rw [er 38 (by omega) (by omega)]; exact h9⟩
  have e19 : rPop r 19 = nI n := by
    have hx := hp1
    unfold nU at hx
    have hu := (zW_pop hW h0).2.1
    rw [neq, nI_toInt (by unfold nU at hn; omega), hu]
    unfold nU at hn
    omega
  have hn' : (r 19).toNatClampNeg = n + 1 := hn
  rw [hn'] at hr
  have hd := ring_drop hr hs (by omega) (by omega)
  refine ⟨?_, ?_, if s + 1 < 640 then s + 1 else 0, by split <;> omega, ?_, ?_⟩
  · unfold cDrop
    simp only [zf_ap, if_true, Nat.reduceEqDiff, if_false]
    exact e1
  · unfold cDrop
    simp only [zf_ap, if_true]
    rw [e19]
    rfl
  · unfold cDrop
    simp only [zf_ap, if_true, Nat.reduceEqDiff, if_false]
  · rw [e19, nI_clamp (by omega)]
    refine ring_cong hd (ef 11 (by decide)) (fun j hj => ?_)
    show rPop r (2963 + j) = r (2963 + (j + 3))
    unfold rPop zcut
    rw [hp2, if_pos (by omega), zu_ne (by omega)]
    rfl
theorem RR_u {f : Nat → Nat → Int32} {s0 s1 : Int64} {r : Nat → Int32} (h : RR f s0 s1 r) : f 10 3 = r 19 ∧ f 10 0 = nI 640 ∧ ∃ s, s < 640 ∧ f 10 2 = nI s ∧ ring True 640 s (r 19).toNatClampNeg (f 11) (fun j => r (2963 + j)) := ⟨h.2.2.2.2.1.2.1, h.2.2.2.2.1.1, h.2.2.2.2.1.2.2⟩
theorem C_tick60 {ln : Nat → Nat} {σ : zS} {b p : Nat} (S : zMs (gr σ) ln b) (gp : gr σ b 0 = some p) (hp : p + 127 ≤ b ∨ b + 16 ≤ p) {N : Nat} (hN : N ≤ 512) {Q : zS → Prop} : ∀ (m K : Nat) (r : Nat → Int32) (far : Int32) (c : Int) (f : Nat → Nat → Int32) (s0 s1 : Int64), m ≤ K → m ≤ 601 → zdue m r → (c = 0 ∨ c = 1) → zJ r N c → RR f s0 s1 r → zPl σ ln p r → (∀ f' s0' s1', RR f' s0' s1' (rArr K (r, far)).1 → wX3_tick_121 ln Q b (zcs σ b f' s0' s1')) → wX3_tick_60 ln Q (m + 1) b (nI m) (zcs σ b f s0 s1)
  | 0, K, r, far, c, f, s0, s1, hK, hm, hd, hc, hJ, h, PL, hq => by
    have hnd : ¬ (¬ r 19 ≤ 0 ∧ r 2963 = r 5) := fun hu => by
      obtain ⟨_, _, _, _, _, k4⟩ := J_arr hN 0 r far c hc hJ
      exact k4 hd hu
    have e : rArr K (r, far) = (r, far) := by
      cases K with
      | zero => rfl
      | succ K => rw [rArr, if_neg hnd]
    rw [e] at hq
    rw [wX3_tick_60]
    exact ⟨fun _ => hq f s0 s1 h, fun hc => absurd (show nI 0 ≤ 0 by decide) hc⟩
  | m + 1, K, r, far, c, f, s0, s1, hK, hm, hd, hc, hJ, h, PL, hq => by
    have S' := S
    obtain ⟨⟨m1, m2, m3, m4, m5, m6⟩, ⟨a1, a2, a3, a4, a5, a6, a7, a8, a9⟩, ⟨l1, l2, l3, l4, l5, l6⟩⟩ := S
    have hnU := hJ.n hc hN
    have hW := hJ.1
    obtain ⟨u1, u2, s, hs, u3, hr⟩ := RR_u h
    have hcu := ncl hW.u.1
    have z0 : (0 : Int32).toInt = 0 := rfl
    have f01 : f 0 1 = r 5 := h.1.1
    have stop : ¬ (¬ r 19 ≤ 0 ∧ r 2963 = r 5) → wX3_tick_121 ln Q b (zcs σ b f s0 s1) := fun hnd => by
      have e : rArr K (r, far) = (r, far) := by
        cases K with
        | zero => rfl
        | succ K => rw [rArr, if_neg hnd]
      rw [e] at hq
      exact hq f s0 s1 h
    rw [wX3_tick_60]
    refine ⟨fun hv => absurd hv (nI_nle (by omega) (by omega)), fun _ => ?_⟩
    simp only [wX3_isArrivalDue, gr_zcs, m4, Option.some.injEq, exists_eq_left', wX8_size, gi_zcs_k σ b f s0 s1 (show 10 < 16 by decide), u1]
    refine ⟨fun h0 => ⟨fun _ => stop (fun hu => hu.1 h0), fun h => absurd trivial h⟩, fun h0 => ?_⟩
    have h19 : 0 < (r 19).toInt := by
      have := h0
      rw [nle] at this
      omega
    have hu0 := hW.u
    have em : r 19 = nI (r 19).toNatClampNeg := by rw [neq, nI_toInt (by omega)]; omega
    have u1' : f 10 3 = nI (r 19).toNatClampNeg := u1.trans em
    have hn640 : (r 19).toNatClampNeg ≤ 640 := by have := hW.u; omega
    have hg0 : f 11 (3 * rix 640 s 0 + 0) = r 2963 := hr 0 (by omega) 0 (by decide) (fun _ h => absurd h (by decide))
    have hg1 : f 11 (3 * rix 640 s 0 + 1) = r 2964 := hr 0 (by omega) 1 (by decide) (fun _ h => absurd h (by decide))
    have hg2 : r 2964 = 0 → f 11 (3 * rix 640 s 0 + 2) = r 2965 := fun e => hr 0 (by omega) 2 (by decide) (fun _ _ => e)
    refine c_recget (c := 10) (cap := 640) (by decide) a7 l4 (by decide) u2 u3 u1' hs hn640 (k := 0) (by omega) (i := 0) (by decide) rfl rfl ?_
    rw [hg0]
    simp only [gi_zcs_b, f01]
    refine ⟨fun hlt => ⟨fun _ => stop (fun hu => ?_), fun h => absurd trivial h⟩, fun hle => ⟨fun h => absurd h (by decide), fun _ => ?_⟩⟩
    · rw [hu.2, nlt] at hlt
      omega
    have hdue : ¬ r 19 ≤ 0 ∧ r 2963 = r 5 := ⟨h0, by
      have h1 := (hJ.2.2.1.1 0 (by unfold nU; omega)).1
      have h2 : aE r 0 = (r 2963).toInt := rfl
      rw [nlt] at hle
      rw [neq]; omega⟩
    simp only [gr_zcs, m4, Option.some.injEq, exists_eq_left']
    refine c_recget (c := 10) (cap := 640) (by decide) a7 l4 (by decide) u2 u3 u1' hs hn640 (k := 0) (by omega) (i := 1) (by decide) rfl rfl ?_
    rw [hg1]
    simp only [gr_zcs, m4, Option.some.injEq, exists_eq_left']
    refine c_recget (c := 10) (cap := 640) (by decide) a7 l4 (by decide) u2 u3 u1' hs hn640 (k := 0) (by omega) (i := 2) (by decide) rfl rfl ?_
    simp only [gr_zcs, m4, Option.some.injEq, exists_eq_left']
    refine C_pop S' h hW h0 (fun f1 h1 => ?_)
    obtain ⟨K', rfl⟩ : ∃ K', K = K' + 1 := ⟨K - 1, by omega⟩
    have step : rArr (K' + 1) (r, far) = rArr K' (rStep (r, far)) := by rw [rArr, if_pos hdue]
    rw [step] at hq
    obtain ⟨c1, hc1, j1, j2, j3, j4⟩ := J_step hJ hc hN hdue
    obtain ⟨hWp, e19, e6⟩ := zW_pop hW hdue.1
    have hkp := zkp_pop (r := r) (r' := r) (fun _ _ => rfl)
    have PLp := PL.c hkp hW
    have h6n : ¬ r 6 = -1 := fun e => by
      have := (hJ.2.1.2.2.2.2.2.2.1 e).2.2.2.2
      rw [this] at h19
      exact absurd h19 (by decide)
    have h6 := hW.h6 h6n
    have hu600 := hW.u
    have go : ∀ f2 t0 t1, RR f2 t0 t1 (rEntry (rPop r) (r 2964) (r 2965)) → wX3_tick_60 ln Q (m + 1) b (nI m) (zcs σ b f2 t0 t1) := fun f2 t0 t1 h2 =>
      C_tick60 S' gp hp hN m K' (rStep (r, far)).1 (rStep (r, far)).2 c1 f2 t0 t1 (by omega) (by omega) (j4 m hd) hc1 j1 h2 (PL.c j3 hW) hq
    have hkind := hJ.2.2.1.2.2.1 0 (by unfold nU; omega)
    have hw0 : wE r 0 = r 2964 := rfl
    rw [hw0] at hkind
    refine ⟨fun hk0 => ?_, fun hk0 => ?_⟩
    · rw [hg2 hk0]
      have ho : ∀ k, k ≠ 19 → k < 2963 → rPop r k = r k := fun k h1 h2 => rPop_out r h1 h2
      obtain ⟨x1, x2, x3, x4, x5, x6, x7, x8, x9⟩ := hJ.2.1
      have hTb := hW.T
      have hob0 := rOff_b hWp.N (hWp.ph (q := 0) (by decide))
      have hob1 := rOff_b hWp.N (hWp.ph (q := 1) (by decide))
      rcases h6 with h6 | h6
      · have eE : rEntry (rPop r) (r 2964) (r 2965) = rPrints (rPop r) 1 (r 2965) := by
          unfold rEntry zq
          rw [if_pos hk0, e6, h6]
          rfl
        rw [eE] at go
        refine C_pulse1 S' gp hp PLp h1 hWp (e6.trans h6) (by omega) (by rw [ho 12 (by decide) (by decide)]; exact x2.1) (by rw [ho 13 (by decide) (by decide)]; exact x3) (by rw [ho 14 (by decide) (by decide)]; exact x4) (by rw [ho 38 (by decide) (by decide)]; omega) (fun f2 t0 t1 h2 x14 e14 => ?_)
        subst e14
        rw [pk_m1]
        exact go f2 t0 t1 h2
      · have eE : rEntry (rPop r) (r 2964) (r 2965) = rPrints (rPop r) 0 (r 2965) := by
          unfold rEntry zq
          rw [if_pos hk0, e6, h6]
          rfl
        rw [eE] at go
        refine C_pulse0 S' gp hp PLp h1 hWp (e6.trans h6) (by omega) (by rw [ho 12 (by decide) (by decide)]; exact x2.1) (by rw [ho 13 (by decide) (by decide)]; exact x3) (by rw [ho 14 (by decide) (by decide)]; exact x4) (by rw [ho 37 (by decide) (by decide)]; omega) (fun f2 t0 t1 h2 x14 e14 => ?_)
        subst e14
        rw [pk_m1]
        exact go f2 t0 t1 h2
    · have hw : r 2964 = 1 ∨ r 2964 = 2 ∨ r 2964 = 3 := hkind.elim (fun e => absurd e hk0) id
      have eE : rEntry (rPop r) (r 2964) (r 2965) = rSignal (rPop r) (r 2964) := by
        unfold rEntry rSignal
        rw [if_neg hk0]
      rw [eE] at go
      refine C_signal S' gp hp PLp h1 hWp (by rw [e6]; exact h6) hw (fun f2 h2 x12 e12 => ?_)
      subst e12
      rw [pk_m1]
      exact go f2 s0 s1 h2
theorem C_tick {ln : Nat → Nat} {σ : zS} {b p : Nat} {f : Nat → Nat → Int32} {s0 s1 : Int64} {r : Nat → Int32} (S : zMs (gr σ) ln b) (gp : gr σ b 0 = some p) (hp : p + 127 ≤ b ∨ b + 16 ≤ p) (PL : zPl σ ln p r) (h : RR f s0 s1 r) (hW : zW r) {N : Nat} (hN : N ≤ 512) (E : zEv r N) (hT : (r 5).toInt ≤ 109999) (far : Int32) {Q : zS → Prop} (hq : ∀ f' s0' s1', RR f' s0' s1' (rTick (r, far)).1 → Q (zcs σ b f' s0' s1')) : wX3_tick ln (zcs σ b f s0 s1) b Q := by
  have S' := S
  obtain ⟨⟨m1, m2, m3, m4, m5, m6⟩, ⟨a1, a2, a3, a4, a5, a6, a7, a8, a9⟩, ⟨l1, l2, l3, l4, l5, l6⟩⟩ := S
  have PL' := PL
  obtain ⟨⟨pn, pdl, pg, prr⟩, -⟩ := PL'
  have hN0 := hW.N
  have hp0 := hW.p0
  have hp1 := hW.p1
  have hr0 := hW.r0
  have hr1 := hW.r1
  have f01 : f 0 1 = r 5 := h.1.1
  have t1 : (1000 : Int32).toInt = 1000 := rfl
  have eN : (1000 * r 0).toInt = 1000 * (r 0).toInt := by rw [nmul (by rw [t1]; omega) (by rw [t1]; omega), t1]
  have h1 := RRs_5 h (r 5 + 1)
  have h2 := RRs_21 h1 (mI ((zu r 5 (r 5 + 1) 21).toInt + (zu r 5 (r 5 + 1) 23).toInt) (1000 * (zu r 5 (r 5 + 1) 0).toInt))
  have e2 : zu (zu r 5 (r 5 + 1)) 21 (mI ((zu r 5 (r 5 + 1) 21).toInt + (zu r 5 (r 5 + 1) 23).toInt) (1000 * (zu r 5 (r 5 + 1) 0).toInt)) = rTurn1 (zu r 5 (r 5 + 1)) 0 := rfl
  rw [e2] at h2
  have h3 := RRs_22 h2 (mI ((rTurn1 (zu r 5 (r 5 + 1)) 0 22).toInt + (rTurn1 (zu r 5 (r 5 + 1)) 0 24).toInt) (1000 * (rTurn1 (zu r 5 (r 5 + 1)) 0 0).toInt))
  have e3 : zu (rTurn1 (zu r 5 (r 5 + 1)) 0) 22 (mI ((rTurn1 (zu r 5 (r 5 + 1)) 0 22).toInt + (rTurn1 (zu r 5 (r 5 + 1)) 0 24).toInt) (1000 * (rTurn1 (zu r 5 (r 5 + 1)) 0 0).toInt)) = rTick0 r := rfl
  rw [e3] at h3
  have k21 : zu r 5 (r 5 + 1) 21 = r 21 := zu_ne (by decide)
  have k23 : zu r 5 (r 5 + 1) 23 = r 23 := zu_ne (by decide)
  have k0 : zu r 5 (r 5 + 1) 0 = r 0 := zu_ne (by decide)
  have t22 : rTurn1 (zu r 5 (r 5 + 1)) 0 22 = r 22 := by unfold rTurn1; rw [zu_ne (by decide), zu_ne (by decide)]
  have t24 : rTurn1 (zu r 5 (r 5 + 1)) 0 24 = r 24 := by unfold rTurn1; rw [zu_ne (by decide), zu_ne (by decide)]
  have t0 : rTurn1 (zu r 5 (r 5 + 1)) 0 0 = r 0 := by unfold rTurn1; rw [zu_ne (by decide), zu_ne (by decide)]
  rw [k21, k23, k0] at h2 h3
  rw [t22, t24, t0] at h3
  have gN : ∀ f' t0 t1, gi (zcs σ b f' t0 t1) p 0 = r 0 := fun f' t0 t1 => by rw [gi_zcs_o _ _ _ _ _ (by omega)]; exact pn
  have f10 : zf f 0 1 (r 5 + 1) 1 0 = r 21 := h1.2.1.1.1.trans k21
  have f11 : zf f 0 1 (r 5 + 1) 1 1 = r 23 := h1.2.1.1.2.1.trans k23
  have f40 := h2.2.1.2.1
  have f41 := h2.2.1.2.2.1
  have f40 : zf (zf f 0 1 (r 5 + 1)) 1 0 (mI ((r 21).toInt + (r 23).toInt) (1000 * (r 0).toInt)) 4 0 = r 22 := f40.trans t22
  have f41 : zf (zf f 0 1 (r 5 + 1)) 1 0 (mI ((r 21).toInt + (r 23).toInt) (1000 * (r 0).toInt)) 4 1 = r 24 := f41.trans t24
  have e0 : (r 21 + r 23).toInt = (r 21).toInt + (r 23).toInt := nadd (by omega) (by omega)
  have e1 : (r 22 + r 24).toInt = (r 22).toInt + (r 24).toInt := nadd (by omega) (by omega)
  simp only [wX3_tick, gi_zcs_b, f01, forall_eq, si_zcs_b, gr_zcs, m1, m2, gp, Option.some.injEq, exists_eq_left', wX6_circle, gN, wX4_turn, gi_zcs_k σ b _ _ _ (show 1 < 16 by decide), gi_zcs_k σ b _ _ _ (show 4 < 16 by decide), f10, f11]
  refine wmodulo (by omega) ?_
  rw [e0, eN]
  simp only [forall_eq, si_zcs_k σ b _ _ _ (show 1 < 16 by decide), gr_zcs, m2, gp, Option.some.injEq, exists_eq_left', wX6_circle, gN, wX4_turn, gi_zcs_k σ b _ _ _ (show 4 < 16 by decide), f40, f41]
  refine wmodulo (by omega) ?_
  rw [e1, eN]
  simp only [forall_eq, si_zcs_k σ b _ _ _ (show 4 < 16 by decide), gr_zcs, m4, Option.some.injEq, exists_eq_left', wX8_size, gi_zcs_k σ b _ _ _ (show 10 < 16 by decide)]
  have hJ := J_tick0 E hN hT
  have hn0 := hJ.n (Or.inl rfl) hN
  have hcu := ncl hJ.1.u.1
  have u1 : _ = rTick0 r 19 := (RR_u h3).1
  have em : rTick0 r 19 = nI (nU (rTick0 r)) := by unfold nU at hn0 ⊢; rw [neq, nI_toInt (by omega)]; omega
  rw [u1, em]
  obtain ⟨k1, k2, k3, k4, k5, k6, k7, k8⟩ := E_tick E hN hT far
  have hka : zkp r (rArrd (r, far)).1 := by
    obtain ⟨_, _, _, _, x3, _⟩ := J_arr hN 601 (rTick0 r) far 0 (Or.inl rfl) hJ
    exact zkp_tick0.tr x3
  refine ⟨nU (rTick0 r) + 1, C_tick60 S' gp hp hN (nU (rTick0 r)) 601 (rTick0 r) far 0 _ s0 s1 (by omega) (by omega) (fun k hk hk2 => by omega) (Or.inl rfl) hJ h3 (PL.c zkp_tick0 hW) (fun f' s0' s1' h' => ?_)⟩
  have hQ : zQp (rArrd (r, far)).1 := k3.2.1.2.2.2.2.2.2.2.2
  refine C_tick121 S' gp hp (PL.c hka hW) h' k3.1 hQ k4 k5 (fun e7 e6 => ?_) (fun f2 h2 => hq f2 s0' s1' h2)
  have := (k3.2.1.2.2.2.2.2.2.1 e6).1
  have e7 : (rArrd (r, far)).1 7 = 1 := e7
  rw [this] at e7
  exact absurd e7 (by decide)
