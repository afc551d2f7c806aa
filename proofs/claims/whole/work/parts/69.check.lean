/-! THE CLASS'S STEPS: checks, pulses that arrive -/
theorem zu_comm (r : Nat → Int32) {k k' : Nat} (h : k ≠ k') (v v' : Int32) : zu (zu r k v) k' v' = zu (zu r k' v') k v := by
  funext j
  simp only [zu_ap]
  by_cases e : j = k
  · subst e; rw [if_neg h, if_pos rfl, if_pos rfl]
  · rw [if_neg e, if_neg e]
theorem RRs_recv0 {f : Nat → Nat → Int32} {s0 s1 : Int64} {r : Nat → Int32} (h : RR f s0 s1 r) (hW : zW r) (v : Int32) : RR (cAdd f 2 1000 v) s0 s1 (rReceives r 0 v) := by
  have hm := hW.m0
  obtain ⟨h1, ⟨h2, h2'⟩, ⟨h3, h3'⟩, h4, h5, h6, h7, h8, h9⟩ := h
  have c0 := ncl hm.1
  have eV : f 2 1 = r 29 := h3.1
  unfold cAdd rReceives
  rw [eV]
  by_cases hc : nI 1000 ≤ r 29
  · have h1000 : r (29 + 0) = 1000 := by
      show r 29 = 1000
      rw [nle] at hc
      have t : (nI 1000).toInt = 1000 := rfl
      have t2 : (1000 : Int32).toInt = 1000 := rfl
      rw [neq]; omega
    rw [if_pos hc, if_pos h1000]
    exact ⟨h1, ⟨h2, h2'⟩, ⟨h3, h3'⟩, h4, h5, h6, h7, h8, h9⟩
  · have h1000 : ¬ r (29 + 0) = 1000 := fun e => hc (by
      have e : r 29 = 1000 := e
      rw [e]; decide)
    have h999 : (r 29).toInt ≤ 999 := by
      rw [nle] at hc
      have t : (nI 1000).toInt = 1000 := rfl
      omega
    rw [if_neg hc, if_neg h1000]
    have e1 : (r 29 + 1).toInt = (r 29).toInt + 1 := ixs (k := 1) rfl (by decide) (by omega) (by omega)
    have c1 : (r 29 + 1).toNatClampNeg = (r 29).toNatClampNeg + 1 := by rw [ncln, e1]; omega
    obtain ⟨nb, ne, nz, nm0, nm1, nt⟩ := hW.bn
    have er : ∀ k, k ≠ 29 ∧ ¬ (963 ≤ k ∧ k < 1963) → zu (zu r (963 + 1000 * 0 + (r 29).toNatClampNeg) v) 29 (r 29 + 1) k = r k := fun k hk => by rw [zu_ne hk.1, zu_ne (by omega)]
    have ef : ∀ k, k ≠ 2 ∧ k ≠ 3 → zf (zf f 3 (r 29).toNatClampNeg v) 2 1 (r 29 + 1) k = f k := fun k hk => by rw [zf_ne hk.1, zf_ne hk.2]
    refine ⟨RS_c h1 (ef 0 (by omega)) (fun k hk => er k (by omega)), ⟨RO_c h2 (ef 1 (by omega)) (fun k hk => er k (by omega)), RO_c h2' (ef 4 (by omega)) (fun k hk => er k (by omega))⟩, ⟨?_, RV_c h3' (ef 5 (by omega)) (ef 6 (by omega)) (er _ (by omega)) (fun k hk => er _ (by omega))⟩, RB_c h4 (ef 7 (by omega)) (ef 8 (by omega)) (ef 9 (by omega)) (fun k hk => er k (by omega)) (fun k hk => er _ (by omega)), RT_c h5 (ef 10 (by omega)) (ef 11 (by omega)) (er _ (by omega)) (fun k hk => er _ (by omega)), RE_c h6 (ef 12 (by omega)) (ef 13 (by omega)) (er _ (by omega)) (fun k hk => er _ (by omega)), RZ_c h7 (ef 14 (by omega)) (ef 15 (by omega)) (er _ (by omega)) (fun k hk => er _ (by omega)), by rw [er 37 (by omega)]; exact h8, by rw [er 38 (by omega)]; exact h9⟩
    refine ⟨?_, fun j hj => ?_⟩
    · show zf (zf f 3 (r 29).toNatClampNeg v) 2 1 (r 29 + 1) 2 1 = zu _ 29 _ 29
      rw [zu_self]
      simp only [zf_ap, if_true]
    · have hj : j < (zu (zu r (963 + 1000 * 0 + (r 29).toNatClampNeg) v) 29 (r 29 + 1) 29).toNatClampNeg := hj
      rw [zu_self, c1] at hj
      show zf (zf f 3 (r 29).toNatClampNeg v) 2 1 (r 29 + 1) 3 j = zu (zu r (963 + 1000 * 0 + (r 29).toNatClampNeg) v) 29 (r 29 + 1) (963 + 1000 * 0 + j)
      rw [zf_ne (by decide), zf_eq, zu_ne (show 963 + 1000 * 0 + j ≠ 29 by omega)]
      by_cases e : j = (r 29).toNatClampNeg
      · subst e; rw [zu_self, zu_self]
      · rw [zu_ne e, zu_ne (by omega)]
        exact h3.2 j (show j < (r 29).toNatClampNeg by omega)
theorem RRs_recv1 {f : Nat → Nat → Int32} {s0 s1 : Int64} {r : Nat → Int32} (h : RR f s0 s1 r) (hW : zW r) (v : Int32) : RR (cAdd f 5 1000 v) s0 s1 (rReceives r 1 v) := by
  have hm := hW.m1
  obtain ⟨h1, ⟨h2, h2'⟩, ⟨h3, h3'⟩, h4, h5, h6, h7, h8, h9⟩ := h
  have c0 := ncl hm.1
  have eV : f 5 1 = r 30 := h3'.1
  unfold cAdd rReceives
  rw [eV]
  by_cases hc : nI 1000 ≤ r 30
  · have h1000 : r (29 + 1) = 1000 := by
      show r 30 = 1000
      rw [nle] at hc
      have t : (nI 1000).toInt = 1000 := rfl
      have t2 : (1000 : Int32).toInt = 1000 := rfl
      rw [neq]; omega
    rw [if_pos hc, if_pos h1000]
    exact ⟨h1, ⟨h2, h2'⟩, ⟨h3, h3'⟩, h4, h5, h6, h7, h8, h9⟩
  · have h1000 : ¬ r (29 + 1) = 1000 := fun e => hc (by
      have e : r 30 = 1000 := e
      rw [e]; decide)
    have h999 : (r 30).toInt ≤ 999 := by
      rw [nle] at hc
      have t : (nI 1000).toInt = 1000 := rfl
      omega
    rw [if_neg hc, if_neg h1000]
    have e1 : (r 30 + 1).toInt = (r 30).toInt + 1 := ixs (k := 1) rfl (by decide) (by omega) (by omega)
    have c1 : (r 30 + 1).toNatClampNeg = (r 30).toNatClampNeg + 1 := by rw [ncln, e1]; omega
    obtain ⟨nb, ne, nz, nm0, nm1, nt⟩ := hW.bn
    have er : ∀ k, k ≠ 30 ∧ ¬ (1963 ≤ k ∧ k < 2963) → zu (zu r (963 + 1000 * 1 + (r 30).toNatClampNeg) v) 30 (r 30 + 1) k = r k := fun k hk => by rw [zu_ne hk.1, zu_ne (by omega)]
    have ef : ∀ k, k ≠ 5 ∧ k ≠ 6 → zf (zf f 6 (r 30).toNatClampNeg v) 5 1 (r 30 + 1) k = f k := fun k hk => by rw [zf_ne hk.1, zf_ne hk.2]
    refine ⟨RS_c h1 (ef 0 (by omega)) (fun k hk => er k (by omega)), ⟨RO_c h2 (ef 1 (by omega)) (fun k hk => er k (by omega)), RO_c h2' (ef 4 (by omega)) (fun k hk => er k (by omega))⟩, ⟨RV_c h3 (ef 2 (by omega)) (ef 3 (by omega)) (er _ (by omega)) (fun k hk => er _ (by omega)), ?_⟩, RB_c h4 (ef 7 (by omega)) (ef 8 (by omega)) (ef 9 (by omega)) (fun k hk => er k (by omega)) (fun k hk => er _ (by omega)), RT_c h5 (ef 10 (by omega)) (ef 11 (by omega)) (er _ (by omega)) (fun k hk => er _ (by omega)), RE_c h6 (ef 12 (by omega)) (ef 13 (by omega)) (er _ (by omega)) (fun k hk => er _ (by omega)), RZ_c h7 (ef 14 (by omega)) (ef 15 (by omega)) (er _ (by omega)) (fun k hk => er _ (by omega)), by rw [er 37 (by omega)]; exact h8, by rw [er 38 (by omega)]; exact h9⟩
    refine ⟨?_, fun j hj => ?_⟩
    · show zf (zf f 6 (r 30).toNatClampNeg v) 5 1 (r 30 + 1) 5 1 = zu _ 30 _ 30
      rw [zu_self]
      simp only [zf_ap, if_true]
    · have hj : j < (zu (zu r (963 + 1000 * 1 + (r 30).toNatClampNeg) v) 30 (r 30 + 1) 30).toNatClampNeg := hj
      rw [zu_self, c1] at hj
      show zf (zf f 6 (r 30).toNatClampNeg v) 5 1 (r 30 + 1) 6 j = zu (zu r (963 + 1000 * 1 + (r 30).toNatClampNeg) v) 30 (r 30 + 1) (963 + 1000 * 1 + j)
      rw [zf_ne (by decide), zf_eq, zu_ne (show 963 + 1000 * 1 + j ≠ 30 by omega)]
      by_cases e : j = (r 30).toNatClampNeg
      · subst e; rw [zu_self, zu_self]
      · rw [zu_ne e, zu_ne (by omega)]
        exact h3'.2 j (show j < (r 30).toNatClampNeg by omega)
theorem rNotes_receives (r : Nat → Int32) {q : Nat} (hq : q ≤ 1) (c : Int32) {x y : Int32} (h0 : 0 ≤ (r 18).toInt ∧ (r 18).toInt ≤ 40) : rNotes (rReceives r q c) x y = rReceives (rNotes r x y) q c := by
  have e : rNotes r x y (29 + q) = r (29 + q) := rNotes_out r h0.1 h0.2 (by omega) (by omega)
  unfold rReceives
  rw [e]
  split
  · rfl
  · rw [rNotes_zu _ (by rw [zu_ne (by omega)]; exact h0) (by omega) (by omega) (by omega), rNotes_zu _ h0 (by omega) (by omega) (by omega)]
theorem rReceives_18 (r : Nat → Int32) {q : Nat} (hq : q ≤ 1) (c : Int32) : rReceives r q c 18 = r 18 := by
  unfold rReceives
  split
  · rfl
  · rw [zu_ne (by omega), zu_ne (by omega)]
theorem rRecvs_18 (r : Nat → Int32) {q : Nat} (hq : q ≤ 1) : ∀ k, rRecvs r q k 18 = r 18
  | 0 => rfl
  | k + 1 => (rReceives_18 _ hq _).trans (rRecvs_18 r hq k)
theorem rNotes_recvs (r : Nat → Int32) {q : Nat} (hq : q ≤ 1) {x y : Int32} (h0 : 0 ≤ (r 18).toInt ∧ (r 18).toInt ≤ 40) : ∀ k, k ≤ 40 → rNotes (rRecvs r q k) x y = rRecvs (rNotes r x y) q k
  | 0, _ => rfl
  | k + 1, hk => by
    have e : rNotes r x y (59 + k) = r (59 + k) := rNotes_out r h0.1 h0.2 (by omega) (by omega)
    show rNotes (rReceives (rRecvs r q k) q (r (59 + k))) x y = rReceives (rRecvs (rNotes r x y) q k) q (rNotes r x y (59 + k))
    rw [rNotes_receives _ hq _ (by rw [rRecvs_18 r hq]; exact h0), rNotes_recvs r hq h0 k (by omega), e]
theorem cAdd_ne {f : Nat → Nat → Int32} {c cap : Nat} {v : Int32} {k : Nat} (h : k ≠ c) (h2 : k ≠ c + 1) : cAdd f c cap v k = f k := by
  unfold cAdd
  split
  · rfl
  · rw [zf_ne h, zf_ne h2]
theorem C_end0 {ln : Nat → Nat} {σ : zS} {b p : Nat} {f : Nat → Nat → Int32} {s0 s1 : Int64} {r : Nat → Int32} (S : zMs (gr σ) ln b) (gp : gr σ b 0 = some p) (hp : p + 127 ≤ b ∨ b + 16 ≤ p) (PL : zPl σ ln p r) (h : RR f s0 s1 r) (hW : zW r) (h19 : (r 19).toInt ≤ 599) (g : Bool) {Q : zS → Prop} (hq : ∀ f', RR f' s0 s1 (rClears (rSends r (if g then 1 else 2) 0)) → Q (zcs σ b f' s0 s1)) : wX3_checkLine_121 ln Q b (zg g) (zcs σ b f s0 s1) := by
  have S' := S
  obtain ⟨⟨m1, m2, m3, m4, m5, m6⟩, ⟨a1, a2, a3, a4, a5, a6, a7, a8, a9⟩, ⟨l1, l2, l3, l4, l5, l6⟩⟩ := S
  have PL' := PL
  obtain ⟨⟨pn, pdl, pg, pr⟩, -⟩ := PL'
  have gd : gi (zcs σ b f s0 s1) p 1 = r 1 := by rw [gi_zcs_o _ _ _ _ _ (by omega)]; exact pdl
  have e01 : f 0 1 = r 5 := h.1.1
  simp only [wX3_checkLine_121, wX3_checkLine_146, gr_zcs, m4, gp, Option.some.injEq, exists_eq_left', gi_zcs_b, e01, gd]
  have go : ∀ w : Int32, w = (if g then 1 else 2) → wX8_add ln (zcs σ b f s0 s1) (b + 10) (r 5 + r 1) w (-1) (fun σ1 => ∃ j2, gr σ1 b 13 = some j2 ∧ wX7_clear ln σ1 j2 (fun σ3 => Q σ3)) := by
    intro w ew
    subst ew
    refine C_send S' h hW h19 rfl (v := 0) (fun e => absurd e (by cases g <;> decide)) (fun f1 h1 => ?_)
    simp only [gr_zcs, m3, Option.some.injEq, exists_eq_left']
    have e11 : rSends r (if g then 1 else 2) 0 11 = r 11 := by unfold rSends; exact rPut_out r (by decide) (by omega)
    exact C_clears S' h1 (by rw [e11]; exact hW.b.1) hq
  cases g
  · exact ⟨fun _ => go 2 rfl, fun h => absurd rfl h⟩
  · exact ⟨fun h => absurd h (by decide), fun _ => go 1 rfl⟩
theorem C_check43_0 {ln : Nat → Nat} {σ : zS} {b p : Nat} (S : zMs (gr σ) ln b) (gp : gr σ b 0 = some p) (hp : p + 127 ≤ b ∨ b + 16 ≤ p) {r : Nat → Int32} {s0 s1 : Int64} (PL : zPl σ ln p r) (hW : zW r) (h19 : (r 19).toInt ≤ 599) {m : Nat} (hm : m ≤ 40) (e11 : r 11 = nI m) {Q : zS → Prop} (hq : ∀ f', RR f' s0 s1 (rClears (rSends (rReceives (rRecvs (rNotes r 1 (r 11)) 0 m) 0 47) 1 0)) → Q (zcs σ b f' s0 s1)) : ∀ d k : Nat, k + d = m → ∀ f, RR f s0 s1 (rRecvs r 0 k) → wX3_checkLine_43 ln Q (d + 1) b (b + 1) 1 (b + 8) (nI k) (zcs σ b f s0 s1) := by
  have S' := S
  obtain ⟨⟨m1, m2, m3, m4, m5, m6⟩, ⟨a1, a2, a3, a4, a5, a6, a7, a8, a9⟩, ⟨l1, l2, l3, l4, l5, l6⟩⟩ := S
  have hq2 : 0 ≤ 1 := by decide
  have hm0 := hW.mq (q := 0) (by decide)
  intro d
  induction d with
  | zero =>
    intro k hk f h
    obtain rfl : k = m := by omega
    have hWk := zW_recvs hW (q := 0) (by decide) k
    have hk11 : rRecvs r 0 k 11 = nI k := (rRecvs_out r 0 hm0.1 hm0.2 (by decide) (by decide) k).trans e11
    have f81 : f 8 1 = nI k := h.2.2.2.1.2.2.2.1.trans hk11
    have hc : nI k ≤ nI k := nI_le (Nat.le_refl k) (by omega)
    rw [wX3_checkLine_43]
    simp only [wX9_size, gi_zcs_k σ b _ _ _ (show 8 < 16 by decide), f81, hc, not_true, false_imp_iff, and_true, true_implies, gr_zcs, a1, Option.some.injEq, exists_eq_left']
    have h29 : f 2 1 = rRecvs r 0 k 29 := h.2.2.1.1.1
    refine c_radd (c := 2) (cap := 1000) (by decide) a3 l1 (by decide) (by rw [h29]; exact (hWk.mq (q := 0) (by decide)).1) ?_
    have h1 := RRs_recv0 h hWk 47
    have e1 : cAdd f 2 1000 47 8 1 = nI k := by rw [cAdd_ne (by decide) (by decide)]; exact f81
    have e2 : cAdd f 2 1000 47 0 1 = r 5 := by
      rw [cAdd_ne (by decide) (by decide)]
      exact h.1.1.trans (rRecvs_out r 0 hm0.1 hm0.2 (by decide) (by decide) k)
    have hb18 : rReceives (rRecvs r 0 k) 0 47 18 = r 18 := (rReceives_18 _ hq2 _).trans (rRecvs_18 r hq2 k)
    have hWr := zW_receives hWk (q := 0) (by decide) 47
    have e5 : r 5 = rReceives (rRecvs r 0 k) 0 47 5 := by
      have hmk := hWk.mq (q := 0) (by decide)
      rw [rReceives_out _ 0 _ hmk.1 hmk.2 (by decide) (by decide)]
      exact (rRecvs_out r 0 hm0.1 hm0.2 (by decide) (by decide) k).symm
    simp only [gr_zcs, m5, Option.some.injEq, exists_eq_left', gi_zcs_k σ b _ _ _ (show 8 < 16 by decide), gi_zcs_b, e1, e2, forall_eq]
    refine C_event S' h1 hWr (c := 1) (v := nI k) e5 (fun f2 h2 => ?_)
    rw [rNotes_receives _ hq2 _ (by rw [rRecvs_18 r hq2]; exact hW.e), rNotes_recvs r hq2 hW.e k (by omega)] at h2
    have hWn := zW_receives (zW_recvs (zW_notes (x := 1) (y := nI k) hW) (q := 0) (by decide) k) (q := 0) (by decide) 47
    have hkn : zkp r (rReceives (rRecvs (rNotes r 1 (nI k)) 0 k) 0 47) := zkp_receives (zkp_recvs (zkp_notes (fun _ _ => rfl) hW.e) hq2 k) hq2 _
    have e19 : rReceives (rRecvs (rNotes r 1 (nI k)) 0 k) 0 47 19 = r 19 := by
      have hmn := (zW_notes (x := 1) (y := nI k) hW).mq (q := 0) (by decide)
      have hmk := (zW_recvs (zW_notes (x := 1) (y := nI k) hW) (q := 0) (by decide) k).mq (q := 0) (by decide)
      rw [rReceives_out _ 0 _ hmk.1 hmk.2 (by decide) (by decide), rRecvs_out _ 0 hmn.1 hmn.2 (by decide) (by decide), rNotes_out r hW.e.1 hW.e.2 (by decide) (by decide)]
    rw [e11] at hq
    exact C_end0 S' gp hp (PL.c hkn hW) h2 hWn (by rw [e19]; exact h19) true hq
  | succ d ih =>
    intro k hk f h
    have hWk := zW_recvs hW (q := 0) (by decide) k
    have hk11 : rRecvs r 0 k 11 = nI m := (rRecvs_out r 0 hm0.1 hm0.2 (by decide) (by decide) k).trans e11
    have f81 : f 8 1 = nI m := h.2.2.2.1.2.2.2.1.trans hk11
    have hc : ¬ nI m ≤ nI k := nI_ge (by omega) (by omega)
    rw [wX3_checkLine_43]
    simp only [wX9_size, gi_zcs_k σ b _ _ _ (show 8 < 16 by decide), f81, hc, false_imp_iff, not_false_eq_true, true_implies, true_and, gr_zcs, a1, Option.some.injEq, exists_eq_left']
    refine c_rget (c := 8) (cap := 40) (by decide) a6 l3 (by decide) f81 hm rfl (by omega) ?_
    have e9 : f 9 k = r (59 + k) := by
      have hb := h.2.2.2.1.2.2.2.2 k (by rw [hk11, nI_clamp (by omega)]; omega)
      rw [hb]
      exact rRecvs_out r 0 hm0.1 hm0.2 (by omega) (by omega) k
    rw [e9]
    have h29 : f 2 1 = rRecvs r 0 k 29 := h.2.2.1.1.1
    refine c_radd (c := 2) (cap := 1000) (by decide) a3 l1 (by decide) (by rw [h29]; exact (hWk.mq (q := 0) (by decide)).1) ?_
    have h1 := RRs_recv0 h hWk (r (59 + k))
    simp only [forall_eq, nI_1]
    exact ih (k + 1) (by omega) _ h1
theorem C_check43_1 {ln : Nat → Nat} {σ : zS} {b p : Nat} (S : zMs (gr σ) ln b) (gp : gr σ b 0 = some p) (hp : p + 127 ≤ b ∨ b + 16 ≤ p) {r : Nat → Int32} {s0 s1 : Int64} (PL : zPl σ ln p r) (hW : zW r) (h19 : (r 19).toInt ≤ 599) {m : Nat} (hm : m ≤ 40) (e11 : r 11 = nI m) {Q : zS → Prop} (hq : ∀ f', RR f' s0 s1 (rClears (rSends (rReceives (rRecvs (rNotes r 1 (r 11)) 1 m) 1 47) 1 0)) → Q (zcs σ b f' s0 s1)) : ∀ d k : Nat, k + d = m → ∀ f, RR f s0 s1 (rRecvs r 1 k) → wX3_checkLine_43 ln Q (d + 1) b (b + 4) 1 (b + 8) (nI k) (zcs σ b f s0 s1) := by
  have S' := S
  obtain ⟨⟨m1, m2, m3, m4, m5, m6⟩, ⟨a1, a2, a3, a4, a5, a6, a7, a8, a9⟩, ⟨l1, l2, l3, l4, l5, l6⟩⟩ := S
  have hq2 : 1 ≤ 1 := by decide
  have hm0 := hW.mq (q := 1) (by decide)
  intro d
  induction d with
  | zero =>
    intro k hk f h
    obtain rfl : k = m := by omega
    have hWk := zW_recvs hW (q := 1) (by decide) k
    have hk11 : rRecvs r 1 k 11 = nI k := (rRecvs_out r 1 hm0.1 hm0.2 (by decide) (by decide) k).trans e11
    have f81 : f 8 1 = nI k := h.2.2.2.1.2.2.2.1.trans hk11
    have hc : nI k ≤ nI k := nI_le (Nat.le_refl k) (by omega)
    rw [wX3_checkLine_43]
    simp only [wX9_size, gi_zcs_k σ b _ _ _ (show 8 < 16 by decide), f81, hc, not_true, false_imp_iff, and_true, true_implies, gr_zcs, a2, Option.some.injEq, exists_eq_left']
    have h29 : f 5 1 = rRecvs r 1 k 30 := h.2.2.1.2.1
    refine c_radd (c := 5) (cap := 1000) (by decide) a4 l2 (by decide) (by rw [h29]; exact (hWk.mq (q := 1) (by decide)).1) ?_
    have h1 := RRs_recv1 h hWk 47
    have e1 : cAdd f 5 1000 47 8 1 = nI k := by rw [cAdd_ne (by decide) (by decide)]; exact f81
    have e2 : cAdd f 5 1000 47 0 1 = r 5 := by
      rw [cAdd_ne (by decide) (by decide)]
      exact h.1.1.trans (rRecvs_out r 1 hm0.1 hm0.2 (by decide) (by decide) k)
    have hb18 : rReceives (rRecvs r 1 k) 1 47 18 = r 18 := (rReceives_18 _ hq2 _).trans (rRecvs_18 r hq2 k)
    have hWr := zW_receives hWk (q := 1) (by decide) 47
    have e5 : r 5 = rReceives (rRecvs r 1 k) 1 47 5 := by
      have hmk := hWk.mq (q := 1) (by decide)
      rw [rReceives_out _ 1 _ hmk.1 hmk.2 (by decide) (by decide)]
      exact (rRecvs_out r 1 hm0.1 hm0.2 (by decide) (by decide) k).symm
    simp only [gr_zcs, m5, Option.some.injEq, exists_eq_left', gi_zcs_k σ b _ _ _ (show 8 < 16 by decide), gi_zcs_b, e1, e2, forall_eq]
    refine C_event S' h1 hWr (c := 1) (v := nI k) e5 (fun f2 h2 => ?_)
    rw [rNotes_receives _ hq2 _ (by rw [rRecvs_18 r hq2]; exact hW.e), rNotes_recvs r hq2 hW.e k (by omega)] at h2
    have hWn := zW_receives (zW_recvs (zW_notes (x := 1) (y := nI k) hW) (q := 1) (by decide) k) (q := 1) (by decide) 47
    have hkn : zkp r (rReceives (rRecvs (rNotes r 1 (nI k)) 1 k) 1 47) := zkp_receives (zkp_recvs (zkp_notes (fun _ _ => rfl) hW.e) hq2 k) hq2 _
    have e19 : rReceives (rRecvs (rNotes r 1 (nI k)) 1 k) 1 47 19 = r 19 := by
      have hmn := (zW_notes (x := 1) (y := nI k) hW).mq (q := 1) (by decide)
      have hmk := (zW_recvs (zW_notes (x := 1) (y := nI k) hW) (q := 1) (by decide) k).mq (q := 1) (by decide)
      rw [rReceives_out _ 1 _ hmk.1 hmk.2 (by decide) (by decide), rRecvs_out _ 1 hmn.1 hmn.2 (by decide) (by decide), rNotes_out r hW.e.1 hW.e.2 (by decide) (by decide)]
    rw [e11] at hq
    exact C_end0 S' gp hp (PL.c hkn hW) h2 hWn (by rw [e19]; exact h19) true hq
  | succ d ih =>
    intro k hk f h
    have hWk := zW_recvs hW (q := 1) (by decide) k
    have hk11 : rRecvs r 1 k 11 = nI m := (rRecvs_out r 1 hm0.1 hm0.2 (by decide) (by decide) k).trans e11
    have f81 : f 8 1 = nI m := h.2.2.2.1.2.2.2.1.trans hk11
    have hc : ¬ nI m ≤ nI k := nI_ge (by omega) (by omega)
    rw [wX3_checkLine_43]
    simp only [wX9_size, gi_zcs_k σ b _ _ _ (show 8 < 16 by decide), f81, hc, false_imp_iff, not_false_eq_true, true_implies, true_and, gr_zcs, a2, Option.some.injEq, exists_eq_left']
    refine c_rget (c := 8) (cap := 40) (by decide) a6 l3 (by decide) f81 hm rfl (by omega) ?_
    have e9 : f 9 k = r (59 + k) := by
      have hb := h.2.2.2.1.2.2.2.2 k (by rw [hk11, nI_clamp (by omega)]; omega)
      rw [hb]
      exact rRecvs_out r 1 hm0.1 hm0.2 (by omega) (by omega) k
    rw [e9]
    have h29 : f 5 1 = rRecvs r 1 k 30 := h.2.2.1.2.1
    refine c_radd (c := 5) (cap := 1000) (by decide) a4 l2 (by decide) (by rw [h29]; exact (hWk.mq (q := 1) (by decide)).1) ?_
    have h1 := RRs_recv1 h hWk (r (59 + k))
    simp only [forall_eq, nI_1]
    exact ih (k + 1) (by omega) _ h1
