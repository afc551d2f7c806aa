/-! from 74.tickinv -/
/-! THE INVARIANT through a tick -/
def zJ (r : Nat → Int32) (N : Nat) (c : Int) : Prop := zW r ∧ zx r ((r 5).toInt - 1 + c) ∧ zTr r (r 5).toInt ((r 5).toInt + c) ((r 5).toInt + (r 1).toInt - 1) ((r 5).toInt + (r 1).toInt - 1 + c) ∧ zBr r ≤ N
def zKk (r : Nat → Int32) (N : Nat) : Prop := zW r ∧ zx r (r 5).toInt ∧ zTr r ((r 5).toInt + 1) ((r 5).toInt + 1) ((r 5).toInt + (r 1).toInt - 1) ((r 5).toInt + (r 1).toInt) ∧ zBr r ≤ N
/-- between ticks: N breaks at most are under way -/
def zEv (r : Nat → Int32) (N : Nat) : Prop := zW r ∧ zx r (r 5).toInt ∧ zTr r ((r 5).toInt + 1) ((r 5).toInt + 1) ((r 5).toInt + (r 1).toInt) ((r 5).toInt + (r 1).toInt) ∧ zBr r ≤ N
def zdue (m : Nat) (r : Nat → Int32) : Prop := ∀ k, m ≤ k → k < nU r → (r 5).toInt < aE r k
theorem zEv.n {r : Nat → Int32} {N : Nat} (h : zEv r N) (hN : N ≤ 512) : nU r ≤ 589 := by
  obtain ⟨hW, hx, hT, hB⟩ := h
  have hd := hW.d
  have := zT_n hT (by omega) (by omega)
  omega
theorem zKk.n {r : Nat → Int32} {N : Nat} (h : zKk r N) (hN : N ≤ 512) : nU r ≤ 589 := by
  obtain ⟨hW, hx, hT, hB⟩ := h
  have hd := hW.d
  have := zT_n hT (by omega) (by omega)
  omega
theorem zJ.n {r : Nat → Int32} {N : Nat} {c : Int} (h : zJ r N c) (hc : c = 0 ∨ c = 1) (hN : N ≤ 512) : nU r ≤ 589 := by
  obtain ⟨hW, hx, hT, hB⟩ := h
  have hd := hW.d
  have := zT_n hT (by omega) (by omega)
  omega
theorem nU_19 {r : Nat → Int32} (hW : zW r) {m : Nat} (h : nU r ≤ m) : (r 19).toInt ≤ m := by
  have := ncl hW.u.1
  unfold nU at h
  omega
theorem zx_c {r r' : Nat → Int32} {cm : Int} (e : ∀ k, k = 6 ∨ k = 7 ∨ (9 ≤ k ∧ k ≤ 14) ∨ k = 19 ∨ k = 27 ∨ k = 28 ∨ k = 37 ∨ k = 38 ∨ (59 ≤ k ∧ k < 99) → r' k = r k) (hk : zkp r r') (hW : zW r) (h : zx r cm) : zx r' cm := by
  obtain ⟨x1, x2, x3, x4, x5, x6, x7, x8, x9⟩ := h
  have h11 := hW.b
  have hc11 := ncl h11.1
  refine ⟨fun ha => ?_, by rw [e 12 (by omega)]; exact x2, by rw [e 13 (by omega)]; exact x3, by rw [e 14 (by omega)]; exact x4, by rw [e 37 (by omega)]; exact x5, by rw [e 38 (by omega)]; exact x6, fun h6 => ?_, fun k hk2 => ?_, x9.c hk hW⟩
  · have ha' : zact r := ⟨by rw [← e 6 (by omega)]; exact ha.1, by rw [← e 7 (by omega)]; exact ha.2⟩
    have hz : zo r' = zo r := by unfold zo; rw [e 6 (by omega)]
    have hzl := zo_le (hW.h6 ha'.1)
    have hL : zLn r' = zLn r := by
      unfold zLn
      rw [hz, e (27 + zo r) (by omega)]
    rw [hL, hk.path (zLn_lt hW ha'.1) (hW.len _ (zLn_lt hW ha'.1)).2, e 9 (by omega)]
    exact x1 ha'
  · rw [e 6 (by omega)] at h6
    rw [e 7 (by omega), e 9 (by omega), e 10 (by omega), e 11 (by omega), e 19 (by omega)]
    exact x7 h6
  · rw [e 11 (by omega)] at hk2
    rw [e (59 + k) (by omega)]
    exact x8 k hk2
theorem J_signal {r r' : Nat → Int32} {N : Nat} {c : Int} (h : zJ r N c) (hc : c = 0 ∨ c = 1) (hN : N ≤ 512) (h6 : r 6 = 0 ∨ r 6 = 1) (hW' : zW r') (s : zSg r r') : zJ r' N c ∧ r' 5 = r 5 ∧ zkp r r' ∧ ∀ m, zdue m r → zdue m r' := by
  have hn := h.n hc hN
  obtain ⟨hW, hx, hT, hB⟩ := h
  have e5 : r' 5 = r 5 := s.1 5 (by omega)
  have e1 : r' 1 = r 1 := s.1 1 (by omega)
  have h0 : 0 ≤ (r 5).toInt - 1 + c := by have := hx.2.1; omega
  rcases zSg_e s with hz | hz
  · refine ⟨⟨hW', ?_, zT_0 hz.1, by rw [zBr_0 hz.1]; omega⟩, e5, zSg_kp s, fun m hm k hk hk2 => ?_⟩
    · rw [e5]; exact zSg_x s h6 hW hW' h0 hx
    · unfold nU at hk2
      rw [hz.1] at hk2
      exact absurd hk2 (Nat.not_lt_zero k)
  · refine ⟨⟨hW', ?_, ?_, by rw [hz.B (by omega)]; exact hB⟩, e5, zSg_kp s, fun m hm k hk hk2 => ?_⟩
    · rw [e5]; exact zSg_x s h6 hW hW' h0 hx
    · rw [e5, e1]; exact hz.T (by omega) hT
    · rw [hz.nn] at hk2
      rw [e5, (hz.el (by omega)).1]
      exact hm k hk hk2
theorem J_step {r : Nat → Int32} {N : Nat} {c : Int} (h : zJ r N c) (hc : c = 0 ∨ c = 1) (hN : N ≤ 512) (hd : ¬ r 19 ≤ 0 ∧ r 2963 = r 5) : ∃ c' : Int, (c' = 0 ∨ c' = 1) ∧ zJ (rEntry (rPop r) (r 2964) (r 2965)) N c' ∧ rEntry (rPop r) (r 2964) (r 2965) 5 = r 5 ∧ zkp r (rEntry (rPop r) (r 2964) (r 2965)) ∧ ∀ m, zdue (m + 1) r → zdue m (rEntry (rPop r) (r 2964) (r 2965)) := by
  have hnU := h.n hc hN
  obtain ⟨hW, hx, hT, hB⟩ := h
  have z0 : (0 : Int32).toInt = 0 := rfl
  have h19 : 0 < (r 19).toInt := by
    have := hd.1
    rw [nle] at this
    omega
  have hcu := ncl hW.u.1
  obtain ⟨n, hn⟩ : ∃ n, nU r = n + 1 := ⟨nU r - 1, by unfold nU; omega⟩
  obtain ⟨hWp, e19, e6⟩ := zW_pop hW hd.1
  have h6n : ¬ r 6 = -1 := fun e => by
    have := (hx.2.2.2.2.2.2.1 e).2.2.2.2
    rw [this] at h19
    exact absurd h19 (by decide)
  have h6 := hW.h6 h6n
  have ho : ∀ k, k ≠ 19 → k < 2963 → rPop r k = r k := fun k h1 h2 => rPop_out r h1 h2
  have hkp := zkp_pop (r := r) (r' := r) (fun _ _ => rfl)
  have hPT := zT_pop hW hn hT
  have hPB := zBr_pop hW hn
  have hx0 : 0 ≤ (r 5).toInt - 1 + c := by have := hx.2.1; omega
  have hPx : zx (rPop r) ((r 5).toInt - 1 + c) := by
    obtain ⟨x1, x2, x3, x4, x5, x6, x7, x8, x9⟩ := hx
    have hb := hW.b
    have hcb := ncl hb.1
    refine ⟨fun ha => ?_, by rw [ho 12 (by decide) (by decide)]; exact x2, by rw [ho 13 (by decide) (by decide)]; exact x3, by rw [ho 14 (by decide) (by decide)]; exact x4, by rw [ho 37 (by decide) (by decide)]; exact x5, by rw [ho 38 (by decide) (by decide)]; exact x6, fun e => ?_, fun k hk => ?_, x9.c hkp hW⟩
    · have ha' : zact r := ⟨h6n, by rw [← ho 7 (by decide) (by decide)]; exact ha.2⟩
      have hz : zo (rPop r) = zo r := by unfold zo; rw [e6]
      have hzl := zo_le h6
      have hL : zLn (rPop r) = zLn r := by
        unfold zLn
        rw [hz, ho (27 + zo r) (by omega) (by omega)]
      rw [hL, hkp.path (zLn_lt hW h6n) (hW.len _ (zLn_lt hW h6n)).2, ho 9 (by decide) (by decide)]
      exact x1 ha'
    · rw [e6] at e
      exact absurd e h6n
    · rw [ho 11 (by decide) (by decide)] at hk
      rw [ho (59 + k) (by omega) (by omega)]
      exact x8 k hk
  have hPd : ∀ m, zdue (m + 1) r → zdue m (rPop r) := fun m hm k hk hk2 => by
    rw [(rPop_n hW hn).1] at hk2
    rw [ho 5 (by decide) (by decide), (rPop_at hW hn hk2).1]
    exact hm (k + 1) (by omega) (by omega)
  have hPn : nU (rPop r) = n := (rPop_n hW hn).1
  have h6p : rPop r 6 = 0 ∨ rPop r 6 = 1 := by rw [e6]; exact h6
  have e5p : rPop r 5 = r 5 := ho 5 (by decide) (by decide)
  have e1p : rPop r 1 = r 1 := ho 1 (by decide) (by decide)
  have hu600 := hW.u
  have hT2 := hT
  obtain ⟨a1, a2, a3, a4, a5, a6, a7⟩ := hT2
  have hw0 : wE r 0 = r 2964 := rfl
  have ha0 : aE r 0 = (r 5).toInt := by
    show (r 2963).toInt = _
    rw [hd.2]
  have hkind := a3 0 (by omega)
  rw [hw0] at hkind hPT
  have hzW := zW_entry hWp (by omega) h6p (r 2964) (r 2965)
  have hsig : ¬ r 2964 = 0 → ∃ c' : Int, (c' = 0 ∨ c' = 1) ∧ zJ (rEntry (rPop r) (r 2964) (r 2965)) N c' ∧ rEntry (rPop r) (r 2964) (r 2965) 5 = r 5 ∧ zkp r (rEntry (rPop r) (r 2964) (r 2965)) ∧ ∀ m, zdue (m + 1) r → zdue m (rEntry (rPop r) (r 2964) (r 2965)) := by
    intro hne
    rw [if_neg hne] at hPT
    have hJp : zJ (rPop r) N c := ⟨hWp, by rw [e5p]; exact hPx, by rw [e5p, e1p]; exact hPT, by omega⟩
    have fin : ∀ r', zW r' → zSg (rPop r) r' → ∃ c' : Int, (c' = 0 ∨ c' = 1) ∧ zJ r' N c' ∧ r' 5 = r 5 ∧ zkp r r' ∧ ∀ m, zdue (m + 1) r → zdue m r' := fun r' hw s => by
      obtain ⟨b1, b2, b3, b4⟩ := J_signal hJp hc hN h6p hw s
      exact ⟨c, hc, b1, b2.trans e5p, hkp.tr b3, fun m hm => b4 m (hPd m hm)⟩
    have finI : ∃ c' : Int, (c' = 0 ∨ c' = 1) ∧ zJ (rPop r) N c' ∧ rPop r 5 = r 5 ∧ zkp r (rPop r) ∧ ∀ m, zdue (m + 1) r → zdue m (rPop r) := ⟨c, hc, hJp, e5p, hkp, hPd⟩
    unfold rEntry at hzW ⊢
    rw [if_neg hne] at hzW ⊢
    by_cases h1 : r 2964 = 1
    · rw [if_pos h1] at hzW ⊢
      by_cases h7 : rPop r 7 = 0
      · have : rAnswers (rPop r) true = rPop r := by unfold rAnswers; rw [if_pos h7]
        rw [this]; exact finI
      · have : rAnswers (rPop r) true = rLineDone (rPop r) := by unfold rAnswers; rw [if_neg h7, if_pos rfl]
        rw [this] at hzW ⊢; exact fin _ hzW (sg_lineDone h6p hWp.e)
    · rw [if_neg h1] at hzW ⊢
      by_cases h2 : r 2964 = 2
      · rw [if_pos h2] at hzW ⊢
        by_cases h7 : rPop r 7 = 0
        · have : rAnswers (rPop r) false = rPop r := by unfold rAnswers; rw [if_pos h7]
          rw [this]; exact finI
        · have : rAnswers (rPop r) false = rLineFailed (rPop r) := by unfold rAnswers; rw [if_neg h7, if_neg (by decide)]
          rw [this] at hzW ⊢; exact fin _ hzW (sg_lineFailed h6p hWp.e)
      · rw [if_neg h2] at hzW ⊢
        exact fin _ hzW (sg_breaks hWp.e)
  by_cases h0 : r 2964 = 0
  · rw [if_pos h0] at hPT
    have hc0 : c = 0 := by
      have := (a4 0 (by omega) (hw0.trans h0)).1
      rw [ha0] at this
      omega
    subst hc0
    obtain ⟨q, hq, eq, _⟩ := zW.ho h6p
    have hdd := hW.d
    have hTT := hW.T
    have hres := zx_prints (r := rPop r) (q := q) (by omega) hWp (by omega) hx0 (by omega) hPx (by rw [e6]; exact h6n) (r 2965) (lo := (r 5).toInt) (pc := (r 5).toInt + 0 + 1) (hp := (r 5).toInt + (r 1).toInt - 1) (ha := (r 5).toInt + (r 1).toInt - 1 + 0) hPT (by rw [e5p, e1p]; omega) (by rw [e5p, e1p]; omega)
    have eE : rEntry (rPop r) (r 2964) (r 2965) = rPrints (rPop r) q (r 2965) := by
      unfold rEntry zq
      rw [if_pos h0, ← eq]
    rw [eE] at hzW ⊢
    obtain ⟨y1, y2, y3, y4, y5, y6⟩ := hres
    rw [e5p] at y4
    rw [e1p] at y5
    have hkp2 := zkp_prints (r := r) hkp (q := q) hq hWp (r 2965)
    refine ⟨1, Or.inr rfl, ⟨hzW, ?_, ?_, by rw [y3]; omega⟩, y4, hkp2, fun m hm k hk hk2 => ?_⟩
    · rw [y4]
      exact zx_mono y1 (by omega)
    · rw [y4, y5]
      have e1 : (r 5).toInt + 0 + 1 = (r 5).toInt + 1 := by omega
      have e2 : (r 5).toInt + (r 1).toInt - 1 + 0 + 1 = (r 5).toInt + (r 1).toInt - 1 + 1 := by omega
      rw [e1, e2] at y2
      exact y2
    · rw [y4]
      rcases y6 k hk2 with ⟨b1, b2⟩ | b2
      · rw [b2]
        have := hPd m hm k hk b1
        rw [e5p] at this
        exact this
      · rw [b2, e5p, e1p]
        omega
  · exact hsig h0
theorem J_arr {N : Nat} (hN : N ≤ 512) : ∀ (j : Nat) (r : Nat → Int32) (far : Int32) (c : Int), (c = 0 ∨ c = 1) → zJ r N c → ∃ c' : Int, (c' = 0 ∨ c' = 1) ∧ zJ (rArr j (r, far)).1 N c' ∧ (rArr j (r, far)).1 5 = r 5 ∧ zkp r (rArr j (r, far)).1 ∧ (zdue j r → ¬ rDue (rArr j (r, far)).1)
  | 0, r, far, c, hc, h => ⟨c, hc, h, rfl, fun _ _ => rfl, fun hd hu => by
    have hcu := ncl h.1.u.1
    have z0 : (0 : Int32).toInt = 0 := rfl
    have h19 : 0 < (r 19).toInt := by
      have : ¬ r 19 ≤ 0 := hu.1
      rw [nle] at this
      omega
    have h1 := hd 0 (Nat.le_refl _) (by unfold nU; omega)
    have h2 : aE r 0 = (r 5).toInt := by
      show (r 2963).toInt = _
      rw [show r 2963 = r 5 from hu.2]
    omega⟩
  | j + 1, r, far, c, hc, h => by
    by_cases hd : ¬ r 19 ≤ 0 ∧ r 2963 = r 5
    · have step : rArr (j + 1) (r, far) = rArr j (rStep (r, far)) := by rw [rArr, if_pos hd]
      obtain ⟨c1, hc1, h1, h2, h3, h4⟩ := J_step h hc hN hd
      obtain ⟨c2, hc2, k1, k2, k3, k4⟩ := J_arr hN j (rStep (r, far)).1 (rStep (r, far)).2 c1 hc1 h1
      rw [step]
      exact ⟨c2, hc2, k1, k2.trans h2, h3.tr k3, fun hm => k4 (h4 j hm)⟩
    · have step : rArr (j + 1) (r, far) = (r, far) := by rw [rArr, if_neg hd]
      rw [step]
      exact ⟨c, hc, h, rfl, fun _ _ => rfl, fun _ hu => hd hu⟩
theorem rTick0_out (r : Nat → Int32) {k : Nat} (h : k ≠ 5 ∧ k ≠ 21 ∧ k ≠ 22) : rTick0 r k = r k := by
  unfold rTick0 rTurn1
  rw [zu_ne (by omega), zu_ne (by omega), zu_ne h.1]
theorem rTick0_5 (r : Nat → Int32) : rTick0 r 5 = r 5 + 1 := by
  unfold rTick0 rTurn1
  rw [zu_ne (by decide), zu_ne (by decide), zu_self]
theorem J_tick0 {r : Nat → Int32} {N : Nat} (h : zEv r N) (hN : N ≤ 512) (hT5 : (r 5).toInt ≤ 109999) : zJ (rTick0 r) N 0 := by
  have hn := h.n hN
  obtain ⟨hW, hx, hT, hB⟩ := h
  have hT0 := hW.T
  have e5 : (rTick0 r 5).toInt = (r 5).toInt + 1 := by rw [rTick0_5]; exact ixs (k := 1) rfl (by decide) (by omega) (by omega)
  have e1 : rTick0 r 1 = r 1 := rTick0_out r (by omega)
  have e14 : rTick0 r 14 = r 14 := rTick0_out r (by omega)
  have hnu : nU (rTick0 r) = nU r := by unfold nU; rw [rTick0_out r (by omega)]
  have hat : ∀ k, aE (rTick0 r) k = aE r k ∧ wE (rTick0 r) k = wE r k := fun k => by
    unfold aE wE
    rw [rTick0_out r (by omega), rTick0_out r (by omega)]
    exact ⟨rfl, rfl⟩
  refine ⟨zW_tick0 hW hT5, ?_, ?_, ?_⟩
  · rw [e5]
    exact zx_mono (zx_c (fun k hk => rTick0_out r (by omega)) zkp_tick0 hW hx) (by omega)
  · rw [e5, e1]
    unfold zTr at hT ⊢
    rw [e14, e5, e1]
    have h1 := zTv_cong hT hnu (fun k hk => (hat k).1) (fun k hk => (hat k).2) rfl id
    exact zTv_mono h1 (by omega) (by omega) (by omega) (by omega) (by omega)
  · have : zBr (rTick0 r) = zBr r := by
      unfold zBr
      rw [hnu]
      exact zcnt_cong _ (fun k hk => by rw [(hat k).2])
    omega
theorem K_arr {r : Nat → Int32} {N : Nat} {c : Int} (h : zJ r N c) (hc : c = 0 ∨ c = 1) (hd : ¬ rDue r) : zKk r N := by
  obtain ⟨hW, hx, hT, hB⟩ := h
  refine ⟨hW, zx_mono hx (by omega), ?_, hB⟩
  have hcu := ncl hW.u.1
  have z0 : (0 : Int32).toInt = 0 := rfl
  have hh : 0 < nU r → (r 5).toInt < aE r 0 := fun hn => by
    have h1 := (hT.1 0 hn).1
    have h2 : aE r 0 = (r 2963).toInt := rfl
    have h3 : ¬ (r 2963).toInt = (r 5).toInt := fun e => hd ⟨by rw [nle]; unfold nU at hn; omega, by rw [neq]; exact e⟩
    omega
  unfold zTr at hT ⊢
  have h1 := zTv_lo hT hh
  obtain ⟨a1, a2, a3, a4, a5, a6, a7⟩ := h1
  exact ⟨a1, a2, a3, fun k hk e => ⟨(a1 k hk).1, (a4 k hk e).2⟩, a5, fun k hk e => ⟨by have := (a6 k hk e).1; omega, fun x => by have := (a6 k hk e).2 x; omega⟩, a7⟩
theorem rSnd_out (r : Nat → Int32) (p : Int32) {k : Nat} (h : k ≠ 17 ∧ k ≠ 19 ∧ k < 2963) : rSnd r p k = r k := by
  unfold rSnd
  split
  · exact zu_ne h.1
  · exact rSends_out r h.2.1 h.2.2
theorem E_looks {r : Nat → Int32} {N : Nat} (h : zKk r N) (hN : N ≤ 512) : zEv (rLooks r) N ∧ rLooks r 5 = r 5 := by
  have hn := h.n hN
  obtain ⟨hW, hx, hT, hB⟩ := h
  have h19 := nU_19 hW hn
  have hWL := zW_looks hW (by omega)
  have hkL := zkp_looks (r := r) (r' := r) (fun _ _ => rfl)
  have same : zEv r N := ⟨hW, hx, zTv_mono hT (Int.le_refl _) (Int.le_refl _) (Int.le_refl _) (by omega) (Int.le_refl _), hB⟩
  unfold rLooks at hWL hkL ⊢
  split
  · exact ⟨same, rfl⟩
  · rename_i hact
    rw [if_neg hact] at hWL hkL
    split
    · exact ⟨same, rfl⟩
    · rename_i hfar
      rw [if_neg hfar] at hWL hkL
      have ha : zact r := ⟨fun e => hact (Or.inl e), fun e => hact (Or.inr e)⟩
      have h9 := hx.1 ha
      have hd := hW.d
      have hT5 := hW.T
      have hPL := zLn_len hW ha.1
      have hcu := ncl hW.u.1
      have e51 : (r 5 + r 1).toInt = (r 5).toInt + (r 1).toInt := nadd (by omega) (by omega)
      have hc1 : ∀ k, k ≠ 16 → rCnt r k = r k := fun k hk => zu_ne hk
      have hs : ∀ k, k ≠ 16 ∧ k ≠ 17 ∧ k ≠ 19 ∧ k < 2963 → rSnd (rCnt r) (rPosn r) k = r k := fun k hk => (rSnd_out _ _ ⟨hk.2.1, hk.2.2.1, hk.2.2.2⟩).trans (hc1 k hk.1)
      have e91 : (r 9 + 1).toInt = (r 9).toInt + 1 := ixs (k := 1) rfl (by decide) (by omega) (by omega)
      have hR : ∀ k, ¬ ((7 ≤ k ∧ k ≤ 9) ∨ k = 16 ∨ k = 17 ∨ k = 19 ∨ 2963 ≤ k) → rNext (rSnd (rCnt r) (rPosn r)) (rPath r (zLn r)).length k = r k := fun k hk => by
        unfold rNext rEndL
        split
        · rw [zu_ne (by omega), zu_ne (by omega), zu_ne (by omega)]; exact hs k (by omega)
        · rw [zu_ne (by omega)]; exact hs k (by omega)
      have hR9 : rNext (rSnd (rCnt r) (rPosn r)) (rPath r (zLn r)).length 9 = r 9 + 1 := by
        unfold rNext rEndL
        split
        · rw [zu_ne (by decide), zu_ne (by decide), zu_self, hs 9 (by omega)]
        · rw [zu_self, hs 9 (by omega)]
      have hR7 : r 9 + 1 = nI (rPath r (zLn r)).length → rNext (rSnd (rCnt r) (rPosn r)) (rPath r (zLn r)).length 7 = 1 := fun e => by
        unfold rNext rEndL
        rw [if_pos (by rw [zu_self, hs 9 (by omega)]; exact e), zu_ne (by decide), zu_self]
      have hRt : ∀ k, 19 = k ∨ 2963 ≤ k → rNext (rSnd (rCnt r) (rPosn r)) (rPath r (zLn r)).length k = rSnd (rCnt r) (rPosn r) k := fun k hk => by
        unfold rNext rEndL
        split
        · rw [zu_ne (by omega), zu_ne (by omega), zu_ne (by omega)]
        · rw [zu_ne (by omega)]
      generalize hRe : rNext (rSnd (rCnt r) (rPosn r)) (rPath r (zLn r)).length = R at hWL hkL hR hR9 hR7 hRt ⊢
      have e5 : R 5 = r 5 := hR 5 (by omega)
      have e1 : R 1 = r 1 := hR 1 (by omega)
      have e6 : R 6 = r 6 := hR 6 (by omega)
      have e14 : R 14 = r 14 := hR 14 (by omega)
      have hb := hW.b
      have hcb := ncl hb.1
      obtain ⟨x1, x2, x3, x4, x5, x6, x7, x8, x9⟩ := hx
      refine ⟨⟨hWL, ?_, ?_⟩, e5⟩
      · rw [e5]
        refine ⟨fun haR => ?_, by rw [hR 12 (by omega)]; exact x2, by rw [hR 13 (by omega)]; exact x3, by rw [e14]; exact x4, by rw [hR 37 (by omega)]; exact x5, by rw [hR 38 (by omega)]; exact x6, fun e => ?_, fun k hk => ?_, x9.c hkL hW⟩
        · have hz : zo R = zo r := by unfold zo; rw [e6]
          have hzl := zo_le (hW.h6 ha.1)
          have hL : zLn R = zLn r := by
            unfold zLn
            rw [hz, hR (27 + zo r) (by omega)]
          rw [hL, hkL.path (zLn_lt hW ha.1) (hW.len _ (zLn_lt hW ha.1)).2, hR9, e91]
          have : ¬ (r 9).toInt + 1 = (rPath r (zLn r)).length := fun e => haR.2 (hR7 (by rw [neq, nI_toInt (by omega), e91]; exact e))
          omega
        · rw [e6] at e
          exact absurd e ha.1
        · rw [hR 11 (by omega)] at hk
          rw [hR (59 + k) (by omega)]
          exact x8 k hk
      · rw [e5, e1]
        have eC : zTe r (rCnt r) := ⟨hc1 19 (by decide), fun j _ => hc1 _ (by omega), hc1 5 (by decide), hc1 1 (by decide), fun e => by rw [← hc1 14 (by decide)]; exact e⟩
        cases hl : rLost (rCnt r) (rCnt r 16)
        · have eS : rSnd (rCnt r) (rPosn r) = rSends (rCnt r) 0 (rPosn r) := by
            unfold rSnd
            rw [hl]
            rfl
          have c19 : rCnt r 19 = r 19 := hc1 19 (by decide)
          have hn1 : nU R = nU (rCnt r) + 1 := by
            unfold nU
            rw [hRt 19 (by omega), eS]
            exact rSends_n (by rw [c19]; exact hW.u.1) (by rw [c19]; omega) 0 (rPosn r)
          obtain ⟨t1, t2, t3⟩ := rSends_at (r := rCnt r) 0 (rPosn r)
          have hat : ∀ k, aE R k = aE (rSends (rCnt r) 0 (rPosn r)) k ∧ wE R k = wE (rSends (rCnt r) 0 (rPosn r)) k := fun k => by
            unfold aE wE
            rw [hRt _ (by omega), hRt _ (by omega), eS]
            exact ⟨rfl, rfl⟩
          have hTc := eC.T (by omega) hT
          constructor
          · unfold zTr at hTc ⊢
            rw [hn1, e5, e1, e14]
            rw [hc1 5 (by decide), hc1 1 (by decide), hc1 14 (by decide)] at hTc
            refine zTv_push hTc (fun k hk => (hat k).1.trans (t1 k hk).1) (fun k hk => (hat k).2.trans (t1 k hk).2) ?_ (by omega) (by omega) (Int.le_refl _) id (Or.inl ⟨?_, by omega, by omega, Int.le_refl _⟩)
            · rw [(hat _).1, t2, hc1 5 (by decide), hc1 1 (by decide)]; exact e51
            · rw [(hat _).2, t3]
          · have hb1 := zBr_sends (r := rCnt r) (by rw [c19]; exact hW.u.1) (by rw [c19]; omega) 0 (rPosn r)
            rw [if_neg (by decide), eC.B (by omega)] at hb1
            have : zBr R = zBr (rSends (rCnt r) 0 (rPosn r)) := by
              unfold zBr
              rw [hn1, rSends_n (by rw [c19]; exact hW.u.1) (by rw [c19]; omega) 0 (rPosn r)]
              exact zcnt_cong _ (fun k hk => by rw [(hat k).2])
            omega
        · have eS : rSnd (rCnt r) (rPosn r) = zu (rCnt r) 17 (rCnt r 17 + 1) := by
            unfold rSnd
            rw [hl]
            rfl
          have eR : zTe r R := ⟨by rw [hRt 19 (by omega), eS, zu_ne (by decide)]; exact hc1 19 (by decide), fun j _ => by rw [hRt _ (by omega), eS, zu_ne (by omega)]; exact hc1 _ (by omega), e5, e1, fun e => by rw [← e14]; exact e⟩
          constructor
          · have := eR.T (by omega) hT
            exact zTv_mono this (Int.le_refl _) (Int.le_refl _) (Int.le_refl _) (by omega) (Int.le_refl _)
          · rw [eR.B (by omega)]; exact hB
theorem E_signal {r r' : Nat → Int32} {N : Nat} (h : zEv r N) (hN : N ≤ 512) (h6 : r 6 = 0 ∨ r 6 = 1) (hW' : zW r') (s : zSg r r') : zEv r' N ∧ r' 5 = r 5 := by
  have hn := h.n hN
  obtain ⟨hW, hx, hT, hB⟩ := h
  have e5 : r' 5 = r 5 := s.1 5 (by omega)
  have e1 : r' 1 = r 1 := s.1 1 (by omega)
  have h0 : 0 ≤ (r 5).toInt := by have := hx.2.1; omega
  rcases zSg_e s with hz | hz
  · exact ⟨⟨hW', by rw [e5]; exact zSg_x s h6 hW hW' h0 hx, zT_0 hz.1, by rw [zBr_0 hz.1]; omega⟩, e5⟩
  · exact ⟨⟨hW', by rw [e5]; exact zSg_x s h6 hW hW' h0 hx, by rw [e5, e1]; exact hz.T (by omega) hT, by rw [hz.B (by omega)]; exact hB⟩, e5⟩
theorem E_T1 {r : Nat → Int32} {N : Nat} (h : zEv r N) (hN : N ≤ 512) : zEv (rT1 r) N ∧ rT1 r 5 = r 5 := by
  unfold rT1
  split
  · exact ⟨h, rfl⟩
  · rename_i h6
    split
    · split
      · exact ⟨h, rfl⟩
      · have h6' := h.1.h6 h6
        exact E_signal h hN h6' (zW_lineFailed h.1 h6') (sg_lineFailed h6' h.1.e)
    · exact ⟨h, rfl⟩
theorem E_clears {r : Nat → Int32} {N : Nat} (h : zEv r N) (hN : N ≤ 512) : zEv (rClears r) N := by
  have hn := h.n hN
  obtain ⟨hW, hx, hT, hB⟩ := h
  have hk : zkp r (rClears r) := zkp_clears (fun _ _ => rfl)
  have e5 : rClears r 5 = r 5 := rClears_out r (by omega)
  have e1 : rClears r 1 = r 1 := rClears_out r (by omega)
  have h0 : 0 ≤ (r 5).toInt := by have := hx.2.1; omega
  have hz : ∀ k, 11 ≤ k ∧ k ≤ 14 → rClears r k = 0 := fun k hk => by
    rcases (show k = 11 ∨ k = 12 ∨ k = 13 ∨ k = 14 by omega) with rfl | rfl | rfl | rfl <;> simp only [rClears, zu_ap, Nat.reduceEqDiff, if_true, if_false]
  have z0 : (0 : Int32).toInt = 0 := rfl
  have ze : zTe r (rClears r) := ⟨rClears_out r (by omega), fun j _ => rClears_out r (by omega), e5, e1, fun e => by rw [hz 14 (by omega)] at e; exact absurd e (by decide)⟩
  refine ⟨zW_clears hW, ?_, by rw [e5, e1]; exact ze.T (by omega) hT, by rw [ze.B (by omega)]; exact hB⟩
  obtain ⟨x1, x2, x3, x4, x5, x6, x7, x8, x9⟩ := hx
  rw [e5]
  refine ⟨fun ha => ?_, by rw [hz 12 (by omega), z0]; omega, Or.inl (hz 13 (by omega)), Or.inl (hz 14 (by omega)), by rw [rClears_out r (by omega)]; exact x5, by rw [rClears_out r (by omega)]; exact x6, fun e => ?_, fun k hk2 => ?_, x9.c hk hW⟩
  · have e6 : rClears r 6 = r 6 := rClears_out r (by omega)
    have e7 : rClears r 7 = r 7 := rClears_out r (by omega)
    have ha' : zact r := ⟨by rw [← e6]; exact ha.1, by rw [← e7]; exact ha.2⟩
    have hzo : zo (rClears r) = zo r := by unfold zo; rw [e6]
    have hL : zLn (rClears r) = zLn r := by
      unfold zLn
      rw [hzo, rClears_out r (by omega)]
    rw [hL, hk.path (zLn_lt hW ha'.1) (hW.len _ (zLn_lt hW ha'.1)).2, rClears_out r (by omega)]
    exact x1 ha'
  · rw [rClears_out r (by omega)] at e
    rw [rClears_out r (by omega), rClears_out r (by omega), rClears_out r (by omega), hz 11 (by omega), rClears_out r (by omega)]
    have := x7 e
    exact ⟨this.1, this.2.1, this.2.2.1, rfl, this.2.2.2.2⟩
  · rw [hz 11 (by omega)] at hk2
    exact absurd hk2 (Nat.not_lt_zero k)
theorem E_T2 {r : Nat → Int32} {N : Nat} (h : zEv r N) (hN : N ≤ 512) : zEv (rT2 r) N ∧ rT2 r 5 = r 5 := by
  unfold rT2
  split
  · exact ⟨h, rfl⟩
  · split
    · exact ⟨h, rfl⟩
    · exact ⟨E_clears h hN, rClears_out r (by omega)⟩
/-- all that a tick asks and gives -/
theorem E_tick {r : Nat → Int32} {N : Nat} (h : zEv r N) (hN : N ≤ 512) (hT : (r 5).toInt ≤ 109999) (far : Int32) :
    (∀ j, j ≤ 601 → zW (rArr j (rTick0 r, far)).1 ∧ zUS (rArr j (rTick0 r, far)).1) ∧ ¬ rDue (rArrd (r, far)).1 ∧ zKk (rArrd (r, far)).1 N ∧ ((rArrd (r, far)).1 19).toInt ≤ 599 ∧ (zact (rArrd (r, far)).1 → 0 ≤ ((rArrd (r, far)).1 9).toInt ∧ ((rArrd (r, far)).1 9).toInt < (rPath (rArrd (r, far)).1 (zLn (rArrd (r, far)).1)).length) ∧
    zEv (rTick (r, far)).1 N ∧ zkp r (rTick (r, far)).1 ∧ (rTick (r, far)).1 5 = r 5 + 1 := by
  have h0 := J_tick0 h hN hT
  have hall := fun j => J_arr hN j (rTick0 r) far 0 (Or.inl rfl) h0
  obtain ⟨c, hc, k1, k2, k3, k4⟩ := hall 601
  have hn0 := h0.n (Or.inl rfl) hN
  have hnd : ¬ rDue (rArr 601 (rTick0 r, far)).1 := k4 (fun k hk hk2 => by omega)
  have hK := K_arr k1 hc hnd
  have hnK := hK.n hN
  have h19 := nU_19 hK.1 hnK
  obtain ⟨e1, e2⟩ := E_looks hK hN
  obtain ⟨e3, e4⟩ := E_T1 e1 hN
  obtain ⟨e5, e6⟩ := E_T2 e3 hN
  have hk2 : zkp r (rT2 (rT1 (rLooks (rArrd (r, far)).1))) := zkp_T2 (zkp_T1 (zkp_looks (zkp_tick0.tr k3)) e1.1)
  refine ⟨fun j hj => ?_, hnd, hK, ?_, hK.2.1.1, e5, hk2, ?_⟩
  · obtain ⟨c', hc', j1, -⟩ := hall j
    refine ⟨j1.1, ?_⟩
    by_cases h6 : (rArr j (rTick0 r, far)).1 6 = -1
    · exact Or.inr (Or.inr (j1.2.1.2.2.2.2.2.2.1 h6).2.2.2.2)
    · exact (j1.1.h6 h6).elim Or.inl (fun x => Or.inr (Or.inl x))
  · show ((rArr 601 (rTick0 r, far)).1 19).toInt ≤ 599
    omega
  · show rT2 (rT1 (rLooks (rArrd (r, far)).1)) 5 = r 5 + 1
    exact e6.trans (e4.trans (e2.trans (k2.trans (rTick0_5 r))))
/-! from 75.ctick -/
/-! THE CLASS'S TICK -/
theorem C_pop {ln : Nat → Nat} {σ : zS} {b : Nat} {f : Nat → Nat → Int32} {s0 s1 : Int64} {r : Nat → Int32} (S : zMs (gr σ) ln b) (h : RR f s0 s1 r) (hW : zW r) (h0 : ¬ r 19 ≤ 0) {Q : zS → Prop} (hq : ∀ f', RR f' s0 s1 (rPop r) → Q (zcs σ b f' s0 s1)) : wX8_removeFirst ln (zcs σ b f s0 s1) (b + 10) Q := by
  obtain ⟨nb, ne, nz, nm0, nm1, nt⟩ := hW.bn
  obtain ⟨h1, ⟨h2, h2'⟩, ⟨h3, h3'⟩, h4, h5, h6, h7, h8, h9⟩ := h
  obtain ⟨e1, e2, s, hs, e3, hr⟩ := h5
  have hcu := ncl hW.u.1
  have z0 : (0 : Int32).toInt = 0 := rfl
  have h19 : 0 < (r 19).toInt := by
    rw [nle] at h0
    omega
  obtain ⟨n, hn⟩ : ∃ n, nU r = n + 1 := ⟨nU r - 1, by unfold nU; omega⟩
  obtain ⟨hp1, hp2⟩ := rPop_n hW hn
  have em : r 19 = nI (n + 1) := by
    unfold nU at hn
    rw [← hn, neq, nI_toInt (by omega)]; omega
  have e2' : f 10 3 = nI (n + 1) := e2.trans em
  refine c_recdrop (c := 10) (cap := 640) (by decide) (by decide) e1 e3 e2' hs (by omega) (by unfold nU at hn; omega) (hq _ ?_)
  have er : ∀ k, k ≠ 19 → k < 2963 → rPop r k = r k := fun k => rPop_out r
  have ef : ∀ k, k ≠ 10 → cDrop f 10 640 s (n + 1) k = f k := fun k hk => by unfold cDrop; rw [zf_ne hk, zf_ne hk]
  refine ⟨RS_c h1 (ef 0 (by omega)) (fun k hk => er k (by omega) (by omega)), ⟨RO_c h2 (ef 1 (by omega)) (fun k hk => er k (by omega) (by omega)), RO_c h2' (ef 4 (by omega)) (fun k hk => er k (by omega) (by omega))⟩, ⟨RV_c h3 (ef 2 (by omega)) (ef 3 (by omega)) (er _ (by omega) (by omega)) (fun k hk => er _ (by omega) (by omega)), RV_c h3' (ef 5 (by omega)) (ef 6 (by omega)) (er _ (by omega) (by omega)) (fun k hk => er _ (by omega) (by omega))⟩, RB_c h4 (ef 7 (by omega)) (ef 8 (by omega)) (ef 9 (by omega)) (fun k hk => er k (by omega) (by omega)) (fun k hk => er _ (by omega) (by omega)), ?_, RE_c h6 (ef 12 (by omega)) (ef 13 (by omega)) (er _ (by omega) (by omega)) (fun k hk => er _ (by omega) (by omega)), RZ_c h7 (ef 14 (by omega)) (ef 15 (by omega)) (er _ (by omega) (by omega)) (fun k hk => er _ (by omega) (by omega)), by rw [er 37 (by omega) (by omega)]; exact h8, by rw [er 38 (by omega) (by omega)]; exact h9⟩
  have e19 : rPop r 19 = nI n := by
    have hx := hp1
    unfold nU at hx
    have hu := (zW_pop hW h0).2.1
    rw [neq, nI_toInt (by unfold nU at hn; omega), hu]
    unfold nU at hn
    omega
  have hn' : (r 19).toNatClampNeg = n + 1 := hn
  rw [hn'] at hr
  have hd := ring_drop hr hs (by omega) (by omega)
  refine ⟨?_, ?_, if s + 1 < 640 then s + 1 else 0, by split <;> omega, ?_, ?_⟩
  · unfold cDrop
    simp only [zf_ap, if_true, Nat.reduceEqDiff, if_false]
    exact e1
  · unfold cDrop
    simp only [zf_ap, if_true]
    rw [e19]
    rfl
  · unfold cDrop
    simp only [zf_ap, if_true, Nat.reduceEqDiff, if_false]
  · rw [e19, nI_clamp (by omega)]
    refine ring_cong hd (ef 11 (by decide)) (fun j hj => ?_)
    show rPop r (2963 + j) = r (2963 + (j + 3))
    unfold rPop zcut
    rw [hp2, if_pos (by omega), zu_ne (by omega)]
    rfl
theorem RR_u {f : Nat → Nat → Int32} {s0 s1 : Int64} {r : Nat → Int32} (h : RR f s0 s1 r) : f 10 3 = r 19 ∧ f 10 0 = nI 640 ∧ ∃ s, s < 640 ∧ f 10 2 = nI s ∧ ring True 640 s (r 19).toNatClampNeg (f 11) (fun j => r (2963 + j)) := ⟨h.2.2.2.2.1.2.1, h.2.2.2.2.1.1, h.2.2.2.2.1.2.2⟩
theorem C_tick60 {ln : Nat → Nat} {σ : zS} {b p : Nat} (S : zMs (gr σ) ln b) (gp : gr σ b 0 = some p) (hp : p + 127 ≤ b ∨ b + 16 ≤ p) {N : Nat} (hN : N ≤ 512) {Q : zS → Prop} : ∀ (m K : Nat) (r : Nat → Int32) (far : Int32) (c : Int) (f : Nat → Nat → Int32) (s0 s1 : Int64), m ≤ K → m ≤ 601 → zdue m r → (c = 0 ∨ c = 1) → zJ r N c → RR f s0 s1 r → zPl σ ln p r → (∀ f' s0' s1', RR f' s0' s1' (rArr K (r, far)).1 → wX3_tick_121 ln Q b (zcs σ b f' s0' s1')) → wX3_tick_60 ln Q (m + 1) b (nI m) (zcs σ b f s0 s1)
  | 0, K, r, far, c, f, s0, s1, hK, hm, hd, hc, hJ, h, PL, hq => by
    have hnd : ¬ (¬ r 19 ≤ 0 ∧ r 2963 = r 5) := fun hu => by
      obtain ⟨_, _, _, _, _, k4⟩ := J_arr hN 0 r far c hc hJ
      exact k4 hd hu
    have e : rArr K (r, far) = (r, far) := by
      cases K with
      | zero => rfl
      | succ K => rw [rArr, if_neg hnd]
    rw [e] at hq
    rw [wX3_tick_60]
    exact ⟨fun _ => hq f s0 s1 h, fun hc => absurd (show nI 0 ≤ 0 by decide) hc⟩
  | m + 1, K, r, far, c, f, s0, s1, hK, hm, hd, hc, hJ, h, PL, hq => by
    have S' := S
    obtain ⟨⟨m1, m2, m3, m4, m5, m6⟩, ⟨a1, a2, a3, a4, a5, a6, a7, a8, a9⟩, ⟨l1, l2, l3, l4, l5, l6⟩⟩ := S
    have hnU := hJ.n hc hN
    have hW := hJ.1
    obtain ⟨u1, u2, s, hs, u3, hr⟩ := RR_u h
    have hcu := ncl hW.u.1
    have z0 : (0 : Int32).toInt = 0 := rfl
    have f01 : f 0 1 = r 5 := h.1.1
    have stop : ¬ (¬ r 19 ≤ 0 ∧ r 2963 = r 5) → wX3_tick_121 ln Q b (zcs σ b f s0 s1) := fun hnd => by
      have e : rArr K (r, far) = (r, far) := by
        cases K with
        | zero => rfl
        | succ K => rw [rArr, if_neg hnd]
      rw [e] at hq
      exact hq f s0 s1 h
    rw [wX3_tick_60]
    refine ⟨fun hv => absurd hv (nI_nle (by omega) (by omega)), fun _ => ?_⟩
    simp only [wX3_isArrivalDue, gr_zcs, m4, Option.some.injEq, exists_eq_left', wX8_size, gi_zcs_k σ b f s0 s1 (show 10 < 16 by decide), u1]
    refine ⟨fun h0 => ⟨fun _ => stop (fun hu => hu.1 h0), fun h => absurd trivial h⟩, fun h0 => ?_⟩
    have h19 : 0 < (r 19).toInt := by
      have := h0
      rw [nle] at this
      omega
    have hu0 := hW.u
    have em : r 19 = nI (r 19).toNatClampNeg := by rw [neq, nI_toInt (by omega)]; omega
    have u1' : f 10 3 = nI (r 19).toNatClampNeg := u1.trans em
    have hn640 : (r 19).toNatClampNeg ≤ 640 := by have := hW.u; omega
    have hg0 : f 11 (3 * rix 640 s 0 + 0) = r 2963 := hr 0 (by omega) 0 (by decide) (fun _ h => absurd h (by decide))
    have hg1 : f 11 (3 * rix 640 s 0 + 1) = r 2964 := hr 0 (by omega) 1 (by decide) (fun _ h => absurd h (by decide))
    have hg2 : r 2964 = 0 → f 11 (3 * rix 640 s 0 + 2) = r 2965 := fun e => hr 0 (by omega) 2 (by decide) (fun _ _ => e)
    refine c_recget (c := 10) (cap := 640) (by decide) a7 l4 (by decide) u2 u3 u1' hs hn640 (k := 0) (by omega) (i := 0) (by decide) rfl rfl ?_
    rw [hg0]
    simp only [gi_zcs_b, f01]
    refine ⟨fun hlt => ⟨fun _ => stop (fun hu => ?_), fun h => absurd trivial h⟩, fun hle => ⟨fun h => absurd h (by decide), fun _ => ?_⟩⟩
    · rw [hu.2, nlt] at hlt
      omega
    have hdue : ¬ r 19 ≤ 0 ∧ r 2963 = r 5 := ⟨h0, by
      have h1 := (hJ.2.2.1.1 0 (by unfold nU; omega)).1
      have h2 : aE r 0 = (r 2963).toInt := rfl
      rw [nlt] at hle
      rw [neq]; omega⟩
    simp only [gr_zcs, m4, Option.some.injEq, exists_eq_left']
    refine c_recget (c := 10) (cap := 640) (by decide) a7 l4 (by decide) u2 u3 u1' hs hn640 (k := 0) (by omega) (i := 1) (by decide) rfl rfl ?_
    rw [hg1]
    simp only [gr_zcs, m4, Option.some.injEq, exists_eq_left']
    refine c_recget (c := 10) (cap := 640) (by decide) a7 l4 (by decide) u2 u3 u1' hs hn640 (k := 0) (by omega) (i := 2) (by decide) rfl rfl ?_
    simp only [gr_zcs, m4, Option.some.injEq, exists_eq_left']
    refine C_pop S' h hW h0 (fun f1 h1 => ?_)
    obtain ⟨K', rfl⟩ : ∃ K', K = K' + 1 := ⟨K - 1, by omega⟩
    have step : rArr (K' + 1) (r, far) = rArr K' (rStep (r, far)) := by rw [rArr, if_pos hdue]
    rw [step] at hq
    obtain ⟨c1, hc1, j1, j2, j3, j4⟩ := J_step hJ hc hN hdue
    obtain ⟨hWp, e19, e6⟩ := zW_pop hW hdue.1
    have hkp := zkp_pop (r := r) (r' := r) (fun _ _ => rfl)
    have PLp := PL.c hkp hW
    have h6n : ¬ r 6 = -1 := fun e => by
      have := (hJ.2.1.2.2.2.2.2.2.1 e).2.2.2.2
      rw [this] at h19
      exact absurd h19 (by decide)
    have h6 := hW.h6 h6n
    have hu600 := hW.u
    have go : ∀ f2 t0 t1, RR f2 t0 t1 (rEntry (rPop r) (r 2964) (r 2965)) → wX3_tick_60 ln Q (m + 1) b (nI m) (zcs σ b f2 t0 t1) := fun f2 t0 t1 h2 =>
      C_tick60 S' gp hp hN m K' (rStep (r, far)).1 (rStep (r, far)).2 c1 f2 t0 t1 (by omega) (by omega) (j4 m hd) hc1 j1 h2 (PL.c j3 hW) hq
    have hkind := hJ.2.2.1.2.2.1 0 (by unfold nU; omega)
    have hw0 : wE r 0 = r 2964 := rfl
    rw [hw0] at hkind
    refine ⟨fun hk0 => ?_, fun hk0 => ?_⟩
    · rw [hg2 hk0]
      have ho : ∀ k, k ≠ 19 → k < 2963 → rPop r k = r k := fun k h1 h2 => rPop_out r h1 h2
      obtain ⟨x1, x2, x3, x4, x5, x6, x7, x8, x9⟩ := hJ.2.1
      have hTb := hW.T
      have hob0 := rOff_b hWp.N (hWp.ph (q := 0) (by decide))
      have hob1 := rOff_b hWp.N (hWp.ph (q := 1) (by decide))
      rcases h6 with h6 | h6
      · have eE : rEntry (rPop r) (r 2964) (r 2965) = rPrints (rPop r) 1 (r 2965) := by
          unfold rEntry zq
          rw [if_pos hk0, e6, h6]
          rfl
        rw [eE] at go
        refine C_pulse1 S' gp hp PLp h1 hWp (e6.trans h6) (by omega) (by rw [ho 12 (by decide) (by decide)]; exact x2.1) (by rw [ho 13 (by decide) (by decide)]; exact x3) (by rw [ho 14 (by decide) (by decide)]; exact x4) (by rw [ho 38 (by decide) (by decide)]; omega) (fun f2 t0 t1 h2 x14 e14 => ?_)
        subst e14
        rw [pk_m1]
        exact go f2 t0 t1 h2
      · have eE : rEntry (rPop r) (r 2964) (r 2965) = rPrints (rPop r) 0 (r 2965) := by
          unfold rEntry zq
          rw [if_pos hk0, e6, h6]
          rfl
        rw [eE] at go
        refine C_pulse0 S' gp hp PLp h1 hWp (e6.trans h6) (by omega) (by rw [ho 12 (by decide) (by decide)]; exact x2.1) (by rw [ho 13 (by decide) (by decide)]; exact x3) (by rw [ho 14 (by decide) (by decide)]; exact x4) (by rw [ho 37 (by decide) (by decide)]; omega) (fun f2 t0 t1 h2 x14 e14 => ?_)
        subst e14
        rw [pk_m1]
        exact go f2 t0 t1 h2
    · have hw : r 2964 = 1 ∨ r 2964 = 2 ∨ r 2964 = 3 := hkind.elim (fun e => absurd e hk0) id
      have eE : rEntry (rPop r) (r 2964) (r 2965) = rSignal (rPop r) (r 2964) := by
        unfold rEntry rSignal
        rw [if_neg hk0]
      rw [eE] at go
      refine C_signal S' gp hp PLp h1 hWp (by rw [e6]; exact h6) hw (fun f2 h2 x12 e12 => ?_)
      subst e12
      rw [pk_m1]
      exact go f2 s0 s1 h2
theorem C_tick {ln : Nat → Nat} {σ : zS} {b p : Nat} {f : Nat → Nat → Int32} {s0 s1 : Int64} {r : Nat → Int32} (S : zMs (gr σ) ln b) (gp : gr σ b 0 = some p) (hp : p + 127 ≤ b ∨ b + 16 ≤ p) (PL : zPl σ ln p r) (h : RR f s0 s1 r) (hW : zW r) {N : Nat} (hN : N ≤ 512) (E : zEv r N) (hT : (r 5).toInt ≤ 109999) (far : Int32) {Q : zS → Prop} (hq : ∀ f' s0' s1', RR f' s0' s1' (rTick (r, far)).1 → Q (zcs σ b f' s0' s1')) : wX3_tick ln (zcs σ b f s0 s1) b Q := by
  have S' := S
  obtain ⟨⟨m1, m2, m3, m4, m5, m6⟩, ⟨a1, a2, a3, a4, a5, a6, a7, a8, a9⟩, ⟨l1, l2, l3, l4, l5, l6⟩⟩ := S
  have PL' := PL
  obtain ⟨⟨pn, pdl, pg, prr⟩, -⟩ := PL'
  have hN0 := hW.N
  have hp0 := hW.p0
  have hp1 := hW.p1
  have hr0 := hW.r0
  have hr1 := hW.r1
  have f01 : f 0 1 = r 5 := h.1.1
  have t1 : (1000 : Int32).toInt = 1000 := rfl
  have eN : (1000 * r 0).toInt = 1000 * (r 0).toInt := by rw [nmul (by rw [t1]; omega) (by rw [t1]; omega), t1]
  have h1 := RRs_5 h (r 5 + 1)
  have h2 := RRs_21 h1 (mI ((zu r 5 (r 5 + 1) 21).toInt + (zu r 5 (r 5 + 1) 23).toInt) (1000 * (zu r 5 (r 5 + 1) 0).toInt))
  have e2 : zu (zu r 5 (r 5 + 1)) 21 (mI ((zu r 5 (r 5 + 1) 21).toInt + (zu r 5 (r 5 + 1) 23).toInt) (1000 * (zu r 5 (r 5 + 1) 0).toInt)) = rTurn1 (zu r 5 (r 5 + 1)) 0 := rfl
  rw [e2] at h2
  have h3 := RRs_22 h2 (mI ((rTurn1 (zu r 5 (r 5 + 1)) 0 22).toInt + (rTurn1 (zu r 5 (r 5 + 1)) 0 24).toInt) (1000 * (rTurn1 (zu r 5 (r 5 + 1)) 0 0).toInt))
  have e3 : zu (rTurn1 (zu r 5 (r 5 + 1)) 0) 22 (mI ((rTurn1 (zu r 5 (r 5 + 1)) 0 22).toInt + (rTurn1 (zu r 5 (r 5 + 1)) 0 24).toInt) (1000 * (rTurn1 (zu r 5 (r 5 + 1)) 0 0).toInt)) = rTick0 r := rfl
  rw [e3] at h3
  have k21 : zu r 5 (r 5 + 1) 21 = r 21 := zu_ne (by decide)
  have k23 : zu r 5 (r 5 + 1) 23 = r 23 := zu_ne (by decide)
  have k0 : zu r 5 (r 5 + 1) 0 = r 0 := zu_ne (by decide)
  have t22 : rTurn1 (zu r 5 (r 5 + 1)) 0 22 = r 22 := by unfold rTurn1; rw [zu_ne (by decide), zu_ne (by decide)]
  have t24 : rTurn1 (zu r 5 (r 5 + 1)) 0 24 = r 24 := by unfold rTurn1; rw [zu_ne (by decide), zu_ne (by decide)]
  have t0 : rTurn1 (zu r 5 (r 5 + 1)) 0 0 = r 0 := by unfold rTurn1; rw [zu_ne (by decide), zu_ne (by decide)]
  rw [k21, k23, k0] at h2 h3
  rw [t22, t24, t0] at h3
  have gN : ∀ f' t0 t1, gi (zcs σ b f' t0 t1) p 0 = r 0 := fun f' t0 t1 => by rw [gi_zcs_o _ _ _ _ _ (by omega)]; exact pn
  have f10 : zf f 0 1 (r 5 + 1) 1 0 = r 21 := h1.2.1.1.1.trans k21
  have f11 : zf f 0 1 (r 5 + 1) 1 1 = r 23 := h1.2.1.1.2.1.trans k23
  have f40 := h2.2.1.2.1
  have f41 := h2.2.1.2.2.1
  have f40 : zf (zf f 0 1 (r 5 + 1)) 1 0 (mI ((r 21).toInt + (r 23).toInt) (1000 * (r 0).toInt)) 4 0 = r 22 := f40.trans t22
  have f41 : zf (zf f 0 1 (r 5 + 1)) 1 0 (mI ((r 21).toInt + (r 23).toInt) (1000 * (r 0).toInt)) 4 1 = r 24 := f41.trans t24
  have e0 : (r 21 + r 23).toInt = (r 21).toInt + (r 23).toInt := nadd (by omega) (by omega)
  have e1 : (r 22 + r 24).toInt = (r 22).toInt + (r 24).toInt := nadd (by omega) (by omega)
  simp only [wX3_tick, gi_zcs_b, f01, forall_eq, si_zcs_b, gr_zcs, m1, m2, gp, Option.some.injEq, exists_eq_left', wX6_circle, gN, wX4_turn, gi_zcs_k σ b _ _ _ (show 1 < 16 by decide), gi_zcs_k σ b _ _ _ (show 4 < 16 by decide), f10, f11]
  refine wmodulo (by omega) ?_
  rw [e0, eN]
  simp only [forall_eq, si_zcs_k σ b _ _ _ (show 1 < 16 by decide), gr_zcs, m2, gp, Option.some.injEq, exists_eq_left', wX6_circle, gN, wX4_turn, gi_zcs_k σ b _ _ _ (show 4 < 16 by decide), f40, f41]
  refine wmodulo (by omega) ?_
  rw [e1, eN]
  simp only [forall_eq, si_zcs_k σ b _ _ _ (show 4 < 16 by decide), gr_zcs, m4, Option.some.injEq, exists_eq_left', wX8_size, gi_zcs_k σ b _ _ _ (show 10 < 16 by decide)]
  have hJ := J_tick0 E hN hT
  have hn0 := hJ.n (Or.inl rfl) hN
  have hcu := ncl hJ.1.u.1
  have u1 : _ = rTick0 r 19 := (RR_u h3).1
  have em : rTick0 r 19 = nI (nU (rTick0 r)) := by unfold nU at hn0 ⊢; rw [neq, nI_toInt (by omega)]; omega
  rw [u1, em]
  obtain ⟨k1, k2, k3, k4, k5, k6, k7, k8⟩ := E_tick E hN hT far
  have hka : zkp r (rArrd (r, far)).1 := by
    obtain ⟨_, _, _, _, x3, _⟩ := J_arr hN 601 (rTick0 r) far 0 (Or.inl rfl) hJ
    exact zkp_tick0.tr x3
  refine ⟨nU (rTick0 r) + 1, C_tick60 S' gp hp hN (nU (rTick0 r)) 601 (rTick0 r) far 0 _ s0 s1 (by omega) (by omega) (fun k hk hk2 => by omega) (Or.inl rfl) hJ h3 (PL.c zkp_tick0 hW) (fun f' s0' s1' h' => ?_)⟩
  have hQ : zQp (rArrd (r, far)).1 := k3.2.1.2.2.2.2.2.2.2.2
  refine C_tick121 S' gp hp (PL.c hka hW) h' k3.1 hQ k4 k5 (fun e7 e6 => ?_) (fun f2 h2 => hq f2 s0' s1' h2)
  have := (k3.2.1.2.2.2.2.2.2.1 e6).1
  have e7 : (rArrd (r, far)).1 7 = 1 := e7
  rw [this] at e7
  exact absurd e7 (by decide)

/-! from 76.copy -/
/-! MACHINES by their cells; a machine is copied -/
theorem zcs_self (σ : zS) (b : Nat) : zcs σ b (fun k => gi σ (b + k)) (gl σ (b + 1) 6) (gl σ (b + 4) 6) = σ := by
  refine zS_ext2 (fun a i => ?_) rfl (fun a i => ?_) rfl
  · rw [gi_zcs]
    split
    · rename_i h
      show gi σ (b + (a - b)) i = gi σ a i
      rw [show b + (a - b) = a by omega]
    · rfl
  · rw [gl_zcs]
    split
    · rename_i h
      subst h
      split
      · rename_i h; subst h; rfl
      · rfl
    · split
      · rename_i h
        subst h
        split
        · rename_i h; subst h; rfl
        · rfl
      · rfl
theorem gl_zcs_o (σ : zS) (b : Nat) (f : Nat → Nat → Int32) (s0 s1 : Int64) {a : Nat} (h1 : a ≠ b + 1) (h2 : a ≠ b + 4) : gl (zcs σ b f s0 s1) a = gl σ a := by
  funext j
  rw [gl_zcs, if_neg h1, if_neg h2]
theorem gd_zcs (σ : zS) (b : Nat) (f : Nat → Nat → Int32) (s0 s1 : Int64) : gd (zcs σ b f s0 s1) = gd σ := rfl
theorem sI_zcs_k (σ : zS) (b : Nat) (f : Nat → Nat → Int32) (s0 s1 : Int64) {k : Nat} (hk : k < 16) (g : Nat → Int32) : sI (zcs σ b f s0 s1) (b + k) g = zcs σ b (fun a => if a = k then g else f a) s0 s1 := by
  refine zS_ext2 (fun a i => ?_) rfl (fun a i => rfl) rfl
  rw [gi_sI, gi_zcs, gi_zcs]
  by_cases h : a = b + k
  · subst h
    have h1 : b ≤ b + k ∧ b + k < b + 16 := by omega
    rw [if_pos rfl, if_pos h1, Nat.add_sub_cancel_left, if_pos rfl]
  · rw [if_neg h]
    by_cases h2 : b ≤ a ∧ a < b + 16
    · rw [if_pos h2, if_pos h2, if_neg (by omega)]
    · rw [if_neg h2, if_neg h2]
theorem RR_k {f f' : Nat → Nat → Int32} {s0 s1 : Int64} {r : Nat → Int32} (h : RR f s0 s1 r) (e : ∀ k, k < 16 → f' k = f k) : RR f' s0 s1 r := by
  obtain ⟨h1, ⟨h2, h2'⟩, ⟨h3, h3'⟩, h4, h5, h6, h7, h8, h9⟩ := h
  exact ⟨RS_c h1 (e 0 (by omega)) (fun _ _ => rfl), ⟨RO_c h2 (e 1 (by omega)) (fun _ _ => rfl), RO_c h2' (e 4 (by omega)) (fun _ _ => rfl)⟩, ⟨RV_c h3 (e 2 (by omega)) (e 3 (by omega)) rfl (fun _ _ => rfl), RV_c h3' (e 5 (by omega)) (e 6 (by omega)) rfl (fun _ _ => rfl)⟩, RB_c h4 (e 7 (by omega)) (e 8 (by omega)) (e 9 (by omega)) (fun _ _ => rfl) (fun _ _ => rfl), RT_c h5 (e 10 (by omega)) (e 11 (by omega)) rfl (fun _ _ => rfl), RE_c h6 (e 12 (by omega)) (e 13 (by omega)) rfl (fun _ _ => rfl), RZ_c h7 (e 14 (by omega)) (e 15 (by omega)) rfl (fun _ _ => rfl), h8, h9⟩
/-- the machine at b is what the row says -/
def KM (σ : zS) (b : Nat) (r : Nat → Int32) : Prop := RR (fun k => gi σ (b + k)) (gl σ (b + 1) 6) (gl σ (b + 4) 6) r
theorem KM_zcs {σ : zS} {b : Nat} {f : Nat → Nat → Int32} {s0 s1 : Int64} {r : Nat → Int32} (h : RR f s0 s1 r) : KM (zcs σ b f s0 s1) b r := by
  unfold KM
  rw [gl_zcs_0, gl_zcs_1]
  exact RR_k h (fun k hk => gi_zcs_k σ b f s0 s1 hk)
theorem KM_o {σ σ' : zS} {b : Nat} {r : Nat → Int32} (h : KM σ b r) (e : ∀ a, b ≤ a → a < b + 16 → gi σ' a = gi σ a ∧ gl σ' a = gl σ a) : KM σ' b r := by
  unfold KM at h ⊢
  rw [(e (b + 1) (by omega) (by omega)).2, (e (b + 4) (by omega) (by omega)).2]
  exact RR_k h (fun k hk => (e (b + k) (by omega) (by omega)).1)
/-- what is outside B is unchanged -/
def zFr (B : Nat → Prop) (σ σ' : zS) : Prop := gr σ' = gr σ ∧ gd σ' = gd σ ∧ ∀ a, ¬ B a → gi σ' a = gi σ a ∧ gl σ' a = gl σ a
theorem zFr.rf {B : Nat → Prop} {σ : zS} : zFr B σ σ := ⟨rfl, rfl, fun _ _ => ⟨rfl, rfl⟩⟩
theorem zFr.tr {B : Nat → Prop} {σ σ' σ'' : zS} (h : zFr B σ σ') (g : zFr B σ' σ'') : zFr B σ σ'' := ⟨g.1.trans h.1, g.2.1.trans h.2.1, fun a ha => ⟨(g.2.2 a ha).1.trans (h.2.2 a ha).1, (g.2.2 a ha).2.trans (h.2.2 a ha).2⟩⟩
theorem zFr.mono {B C : Nat → Prop} {σ σ' : zS} (h : zFr B σ σ') (e : ∀ a, B a → C a) : zFr C σ σ' := ⟨h.1, h.2.1, fun a ha => h.2.2 a (fun hb => ha (e a hb))⟩
theorem zFr_zcs (σ : zS) (b : Nat) (f : Nat → Nat → Int32) (s0 s1 : Int64) : zFr (fun a => b ≤ a ∧ a < b + 16) σ (zcs σ b f s0 s1) := ⟨rfl, rfl, fun a ha => ⟨gi_zcs_o σ b f s0 s1 ha, gl_zcs_o σ b f s0 s1 (by omega) (by omega)⟩⟩
section ZCPY
variable {ln : Nat → Nat} {σ : zS} {b : Nat} {f : Nat → Nat → Int32} {s0 s1 : Int64} {c : Nat} {cap : Nat}
theorem c_rcopy (hc : c < 15) (g : gr σ (b + c) 0 = some (b + (c + 1))) (l : ln (b + (c + 1)) = cap) (hcap : cap ≤ 100000) {a1 a1' n : Nat} (g1 : gr σ a1 0 = some a1') (l1 : ln a1' = cap) (o1 : ¬ (b ≤ a1 ∧ a1 < b + 16)) (o2 : ¬ (b ≤ a1' ∧ a1' < b + 16)) (hn : gi σ a1 1 = nI n) (hn2 : n ≤ cap) {Q : zS → Prop}
    (hq : ∀ f' : Nat → Nat → Int32, (∀ k, k ≠ c → k ≠ c + 1 → f' k = f k) → (∀ j, j ≠ 1 → f' c j = f c j) → f' c 1 = nI n → (∀ j, j < n → f' (c + 1) j = gi σ a1' j) → Q (zcs σ b f' s0 s1)) : wX9_copyFrom ln (zcs σ b f s0 s1) (b + c) a1 Q := by
  have hc1 : c + 1 < 16 := by omega
  have hc0 : c < 16 := by omega
  have e1 : (if nI cap < nI n then nI cap else nI n) = nI n := if_neg (nI_nlt hn2 (by omega))
  have e2 : ¬ nI n < 0 := nI_pos (by omega)
  have e3 : (nI n).toNatClampNeg = n := nI_clamp (by omega)
  have e4 : ¬ (0 : Int32) < 0 := by decide
  have e5 : (0 : Int32).toNatClampNeg = 0 := rfl
  have x1 : ∀ f', gi (zcs σ b f' s0 s1) a1 = gi σ a1 := fun f' => gi_zcs_o σ b f' s0 s1 o1
  have x2 : ∀ f', gi (zcs σ b f' s0 s1) a1' = gi σ a1' := fun f' => gi_zcs_o σ b f' s0 s1 o2
  simp only [wX9_copyFrom, gr_zcs, gr_si, g, g1, Option.some.injEq, exists_eq_left', forall_eq, l, l1, ite_self, x1, hn, e1, si_zcs_k σ b _ s0 s1 hc0, gi_zcs_k σ b _ s0 s1 hc0, zf_ap, if_true, e2, e3, e4, e5, Nat.zero_add, not_false_eq_true, true_and, hn2, and_self, x2]
  rw [sI_zcs_k _ _ _ _ _ hc1]
  refine hq _ (fun k h1 h2 => ?_) (fun j hj => ?_) ?_ (fun j hj => ?_)
  · rw [if_neg h2, zf_ne h1]
  · rw [if_neg (show ¬ c = c + 1 by omega), zf_ap, if_pos rfl, if_neg hj]
  · rw [if_neg (show ¬ c = c + 1 by omega), zf_ap, if_pos rfl, if_pos rfl]
  · rw [if_pos rfl, pk_cpy_in (Nat.zero_le _) (by omega)]
    show gi σ a1' (0 + (j - 0)) = _
    rw [Nat.zero_add, Nat.sub_zero]
theorem w_cellOf {a s k : Nat} (hcap : cap ≤ 100000) (h0 : gi σ a 0 = nI cap) (h2 : gi σ a 2 = nI s) (hs : s < cap) (hk : k ≤ cap) {v : Int32} (hv : v = nI k) {Q : Int32 → zS → Prop} (hq : Q (nI (3 * rix cap s k)) σ) : wX8_cellOf ln σ a v Q := by
  subst hv
  have e1 : nI s + nI k = nI (s + k) := nI_add s k
  unfold rix at hq
  simp only [wX8_cellOf, h0, h2, e1, forall_eq]
  refine ⟨fun h => ?_, fun h => ?_⟩
  · have h3 := (nI_leI (by omega) (by omega)).mp h
    rw [if_neg (by omega)] at hq
    have e2 : nI (s + k) - nI cap = nI (s + k - cap) := pk_sub (a := s + k) (b := cap) h3
    have e3 : (3 : Int32) * nI (s + k - cap) = nI (3 * (s + k - cap)) := (Int32.ofNat_mul 3 _).symm
    rw [e2, e3]; exact hq
  · have h3 : ¬ cap ≤ s + k := fun h4 => h ((nI_leI (by omega) (by omega)).mpr h4)
    rw [if_pos (by omega)] at hq
    have e3 : (3 : Int32) * nI (s + k) = nI (3 * (s + k)) := (Int32.ofNat_mul 3 _).symm
    rw [e3]; exact hq
theorem w_recget {a a' s n k i : Nat} (g : gr σ a 1 = some a') (l : ln a' = 3 * cap) (hcap : cap ≤ 100000) (h0 : gi σ a 0 = nI cap) (h2 : gi σ a 2 = nI s) (h3 : gi σ a 3 = nI n) (hs : s < cap) (hn : n ≤ cap) (hk : k < n) (hi : i < 3) {v w : Int32} (hv : v = nI k) (hw : w = nI i) {Q : Int32 → zS → Prop} (hq : Q (gi σ a' (3 * rix cap s k + i)) σ) : wX8_get ln σ a v w Q := by
  subst hv hw
  have hr : rix cap s k < cap := rix_lt hs (by omega)
  have e1 : ¬ nI k < 0 := nI_pos (by omega)
  have e2 : ¬ nI n ≤ nI k := nI_ge hk (by omega)
  have e3 : ¬ nI i < 0 := nI_pos (by omega)
  have e4 : nI i < 3 := nI_lt (a := i) (b := 3) hi (by decide)
  simp only [wX8_get, h3, e1, e2, e3, e4, false_imp_iff, not_false_eq_true, true_implies, true_and, not_true, and_true]
  refine w_cellOf hcap h0 h2 hs (by omega) rfl ?_
  have e5 : nI (3 * rix cap s k) + nI i = nI (3 * rix cap s k + i) := nI_add _ _
  have e6 : ¬ nI (3 * cap) ≤ nI (3 * rix cap s k + i) := nI_ge (by omega) (by omega)
  have e7 : vp_in (nI (3 * rix cap s k + i)) (3 * cap) := vp_in_nI (by omega) (by omega)
  have e8 : (nI (3 * rix cap s k + i)).toNatClampNeg = 3 * rix cap s k + i := nI_clamp (by omega)
  simp only [g, Option.some.injEq, exists_eq_left', l, e5, forall_eq, e6, e7, e8, false_imp_iff, not_false_eq_true, true_implies, true_and]
  exact hq
theorem rix_0 {k : Nat} (h : k < cap) : rix cap 0 k = k := by
  unfold rix
  rw [if_pos (by omega), Nat.zero_add]
theorem c_reccopy6 (hc : c < 15) (g : gr σ (b + c) 1 = some (b + (c + 1))) (l : ln (b + (c + 1)) = 3 * cap) (hcap : cap ≤ 100000) {a a' s n : Nat} (ga : gr σ a 1 = some a') (la : ln a' = 3 * cap) (oa : ¬ (b ≤ a ∧ a < b + 16)) (oa' : ¬ (b ≤ a' ∧ a' < b + 16)) (h0 : gi σ a 0 = nI cap) (h2 : gi σ a 2 = nI s) (h3 : gi σ a 3 = nI n) (hs : s < cap) (hn : n ≤ cap) {Q : zS → Prop} :
    ∀ (d k : Nat) (f : Nat → Nat → Int32), k + d = n → f c 0 = nI cap → f c 2 = nI 0 → f c 3 = nI k → (∀ j, j < k → ∀ i, i < 3 → f (c + 1) (3 * j + i) = gi σ a' (3 * rix cap s j + i)) →
      (∀ f' : Nat → Nat → Int32, (∀ j, j ≠ c → j ≠ c + 1 → f' j = f j) → f' c 0 = nI cap → f' c 2 = nI 0 → f' c 3 = nI n → (∀ j, j < n → ∀ i, i < 3 → f' (c + 1) (3 * j + i) = gi σ a' (3 * rix cap s j + i)) → Q (zcs σ b f' s0 s1)) → wX8_copyFrom_6 ln Q (d + 1) (b + c) a (nI k) (zcs σ b f s0 s1)
  | 0, k, f, hk, q0, q2, q3, qe, hq => by
    obtain rfl : k = n := by omega
    have x1 : gi (zcs σ b f s0 s1) a = gi σ a := gi_zcs_o σ b f s0 s1 oa
    have hcn : nI k ≤ nI k := nI_le (Nat.le_refl _) (by omega)
    rw [wX8_copyFrom_6, x1, h3]
    exact ⟨fun _ => hq f (fun _ _ _ => rfl) q0 q2 q3 qe, fun h => absurd hcn h⟩
  | d + 1, k, f, hk, q0, q2, q3, qe, hq => by
    have x1 : gi (zcs σ b f s0 s1) a = gi σ a := gi_zcs_o σ b f s0 s1 oa
    have x2 : gi (zcs σ b f s0 s1) a' = gi σ a' := gi_zcs_o σ b f s0 s1 oa'
    have hcn : ¬ nI n ≤ nI k := nI_ge (by omega) (by omega)
    have y0 : gi (zcs σ b f s0 s1) a 0 = nI cap := by rw [x1]; exact h0
    have y2 : gi (zcs σ b f s0 s1) a 2 = nI s := by rw [x1]; exact h2
    have y3 : gi (zcs σ b f s0 s1) a 3 = nI n := by rw [x1]; exact h3
    have gz : gr (zcs σ b f s0 s1) a 1 = some a' := ga
    rw [wX8_copyFrom_6, y3]
    refine ⟨fun h => absurd h hcn, fun _ => ?_⟩
    refine w_recget (cap := cap) (k := k) (i := 0) gz la hcap y0 y2 y3 hs hn (by omega) (by decide) rfl rfl ?_
    refine w_recget (cap := cap) (k := k) (i := 1) gz la hcap y0 y2 y3 hs hn (by omega) (by decide) rfl rfl ?_
    refine w_recget (cap := cap) (k := k) (i := 2) gz la hcap y0 y2 y3 hs hn (by omega) (by decide) rfl rfl ?_
    rw [x2]
    refine c_recadd (n := k) (s := 0) hc g l hcap q0 q2 q3 (by omega) (by omega) ?_
    rw [if_neg (show ¬ k = cap by omega), rix_0 (by omega)]
    intro x8 e8
    subst e8
    rw [nI_1]
    refine c_reccopy6 hc g l hcap ga la oa oa' h0 h2 h3 hs hn d (k + 1) _ (by omega) ?_ ?_ ?_ (fun j hj i hi => ?_) (fun f' e1 e2 e3 e4 e5 => hq f' (fun j j1 j2 => ?_) e2 e3 e4 e5)
    · unfold cPut
      simp only [zf_ap, if_true, Nat.reduceEqDiff, if_false, if_neg (show ¬ c = c + 1 by omega)]
      exact q0
    · unfold cPut
      simp only [zf_ap, if_true, Nat.reduceEqDiff, if_false, if_neg (show ¬ c = c + 1 by omega)]
      exact q2
    · simp only [zf_ap, if_true]
    · unfold cPut
      rw [zf_ne (show c + 1 ≠ c by omega)]
      simp only [zf_ap, if_true]
      by_cases e : j = k
      · subst e
        rcases (show i = 0 ∨ i = 1 ∨ i = 2 by omega) with rfl | rfl | rfl
        · rw [if_neg (by omega), if_neg (by omega), if_pos (by omega)]
        · rw [if_neg (by omega), if_pos (by omega)]
        · rw [if_pos (by omega)]
      · rw [if_neg (by omega), if_neg (by omega), if_neg (by omega)]
        exact qe j (by omega) i hi
    · rw [e1 j j1 j2]
      unfold cPut
      rw [zf_ne j1, zf_ne j2, zf_ne j2, zf_ne j2]
theorem c_reccopy (hc : c < 15) (g : gr σ (b + c) 1 = some (b + (c + 1))) (l : ln (b + (c + 1)) = 3 * cap) (hcap : cap ≤ 100000) {a a' s n : Nat} (ga : gr σ a 1 = some a') (la : ln a' = 3 * cap) (oa : ¬ (b ≤ a ∧ a < b + 16)) (oa' : ¬ (b ≤ a' ∧ a' < b + 16)) (h0 : gi σ a 0 = nI cap) (h2 : gi σ a 2 = nI s) (h3 : gi σ a 3 = nI n) (hs : s < cap) (hn : n ≤ cap) (q0 : f c 0 = nI cap) {Q : zS → Prop}
    (hq : ∀ f' : Nat → Nat → Int32, (∀ j, j ≠ c → j ≠ c + 1 → f' j = f j) → f' c 0 = nI cap → f' c 2 = nI 0 → f' c 3 = nI n → (∀ j, j < n → ∀ i, i < 3 → f' (c + 1) (3 * j + i) = gi σ a' (3 * rix cap s j + i)) → Q (zcs σ b f' s0 s1)) : wX8_copyFrom ln (zcs σ b f s0 s1) (b + c) a Q := by
  have hc0 : c < 16 := by omega
  simp only [wX8_copyFrom, wX8_clear, si_zcs_k σ b _ s0 s1 hc0, forall_eq]
  refine ⟨n + 1, c_reccopy6 hc g l hcap ga la oa oa' h0 h2 h3 hs hn n 0 _ (by omega) ?_ ?_ ?_ (fun j hj => absurd hj (Nat.not_lt_zero j)) (fun f' e1 => hq f' (fun j j1 j2 => ?_))⟩
  · simp only [zf_ap, if_true, Nat.reduceEqDiff, if_false]; exact q0
  · simp only [zf_ap, if_true, Nat.reduceEqDiff, if_false]; rfl
  · simp only [zf_ap, if_true]; rfl
  · rw [e1 j j1 j2, zf_ne j1, zf_ne j1]
end ZCPY
theorem zMs_sr {σ : zS} {ln : Nat → Nat} {b : Nat} (h : zMs (gr σ) ln b) {b1 : Nat} (hb : b1 = b ∨ b1 + 16 ≤ b ∨ b + 16 ≤ b1) (v : Option Nat) : zMs (gr (sr σ b1 0 v)) ln b := by
  have e : ∀ a j, ¬ (a = b1 ∧ j = 0) → gr (sr σ b1 0 v) a j = gr σ a j := fun a j h => by
    rw [gr_sr]
    split
    · rw [if_neg (fun e => h ⟨by assumption, e⟩)]
    · rfl
  obtain ⟨⟨m1, m2, m3, m4, m5, m6⟩, ⟨a1, a2, a3, a4, a5, a6, a7, a8, a9⟩, l⟩ := h
  exact ⟨⟨by rw [e _ _ (by omega)]; exact m1, by rw [e _ _ (by omega)]; exact m2, by rw [e _ _ (by omega)]; exact m3, by rw [e _ _ (by omega)]; exact m4, by rw [e _ _ (by omega)]; exact m5, by rw [e _ _ (by omega)]; exact m6⟩, ⟨by rw [e _ _ (by omega)]; exact a1, by rw [e _ _ (by omega)]; exact a2, by rw [e _ _ (by omega)]; exact a3, by rw [e _ _ (by omega)]; exact a4, by rw [e _ _ (by omega)]; exact a5, by rw [e _ _ (by omega)]; exact a6, by rw [e _ _ (by omega)]; exact a7, by rw [e _ _ (by omega)]; exact a8, by rw [e _ _ (by omega)]; exact a9⟩, l⟩
/-- an office is copied -/
theorem C_ocopy0 {ln : Nat → Nat} {τ : zS} {b b1 : Nat} {f : Nat → Nat → Int32} {t0 t1 : Int64} (S : zMs (gr τ) ln b) (S1 : zMs (gr τ) ln b1) (hb : b + 16 ≤ b1 ∨ b1 + 16 ≤ b) {n : Nat} (hn : gi τ (b1 + 2) 1 = nI n) (hn2 : n ≤ 1000) {Q : zS → Prop}
    (hq : ∀ f' : Nat → Nat → Int32, (∀ k, k ≠ 1 → k ≠ 2 → k ≠ 3 → f' k = f k) → (∀ j, j < 6 → f' 1 j = gi τ (b1 + 1) j) → f' 2 1 = nI n → (∀ j, j < n → f' 3 j = gi τ (b1 + 3) j) → Q (zcs τ b f' (gl τ (b1 + 1) 6) t1)) : wX4_copyFrom ln (zcs τ b f t0 t1) (b + 1) (b1 + 1) Q := by
  obtain ⟨-, ⟨a1, a2, a3, a4, a5, a6, a7, a8, a9⟩, ⟨l1, l2, l3, l4, l5, l6⟩⟩ := S
  obtain ⟨-, ⟨d1, d2, d3, d4, d5, d6, d7, d8, d9⟩, ⟨k1, k2, k3, k4, k5, k6⟩⟩ := S1
  have x1 : ∀ f' u0 u1, gi (zcs τ b f' u0 u1) (b1 + 1) = gi τ (b1 + 1) := fun f' u0 u1 => gi_zcs_o τ b f' u0 u1 (by omega)
  have x2 : ∀ f' u0 u1, gl (zcs τ b f' u0 u1) (b1 + 1) = gl τ (b1 + 1) := fun f' u0 u1 => gl_zcs_o τ b f' u0 u1 (by omega) (by omega)
  simp only [wX4_copyFrom, x1, x2, forall_eq, si_zcs_k τ b _ _ _ (show 1 < 16 by decide), sl_zcs_0, gr_zcs, a1, d1, Option.some.injEq, exists_eq_left']
  refine c_rcopy (c := 2) (cap := 1000) (by decide) a3 l1 (by decide) d3 k1 (by omega) (by omega) hn hn2 (fun f' e1 e2 e3 e4 => hq f' (fun k h1 h2 h3 => ?_) (fun j hj => ?_) e3 e4)
  · rw [e1 k (by omega) (by omega), zf_ne h1, zf_ne h1, zf_ne h1, zf_ne h1, zf_ne h1, zf_ne h1]
  · rw [e1 1 (by decide) (by decide)]
    rcases (show j = 0 ∨ j = 1 ∨ j = 2 ∨ j = 3 ∨ j = 4 ∨ j = 5 by omega) with rfl | rfl | rfl | rfl | rfl | rfl <;> simp only [zf_ap, if_true, Nat.reduceEqDiff, if_false]
theorem C_ocopy1 {ln : Nat → Nat} {τ : zS} {b b1 : Nat} {f : Nat → Nat → Int32} {t0 t1 : Int64} (S : zMs (gr τ) ln b) (S1 : zMs (gr τ) ln b1) (hb : b + 16 ≤ b1 ∨ b1 + 16 ≤ b) {n : Nat} (hn : gi τ (b1 + 5) 1 = nI n) (hn2 : n ≤ 1000) {Q : zS → Prop}
    (hq : ∀ f' : Nat → Nat → Int32, (∀ k, k ≠ 4 → k ≠ 5 → k ≠ 6 → f' k = f k) → (∀ j, j < 6 → f' 4 j = gi τ (b1 + 4) j) → f' 5 1 = nI n → (∀ j, j < n → f' 6 j = gi τ (b1 + 6) j) → Q (zcs τ b f' t0 (gl τ (b1 + 4) 6))) : wX4_copyFrom ln (zcs τ b f t0 t1) (b + 4) (b1 + 4) Q := by
  obtain ⟨-, ⟨a1, a2, a3, a4, a5, a6, a7, a8, a9⟩, ⟨l1, l2, l3, l4, l5, l6⟩⟩ := S
  obtain ⟨-, ⟨d1, d2, d3, d4, d5, d6, d7, d8, d9⟩, ⟨k1, k2, k3, k4, k5, k6⟩⟩ := S1
  have x1 : ∀ f' u0 u1, gi (zcs τ b f' u0 u1) (b1 + 4) = gi τ (b1 + 4) := fun f' u0 u1 => gi_zcs_o τ b f' u0 u1 (by omega)
  have x2 : ∀ f' u0 u1, gl (zcs τ b f' u0 u1) (b1 + 4) = gl τ (b1 + 4) := fun f' u0 u1 => gl_zcs_o τ b f' u0 u1 (by omega) (by omega)
  simp only [wX4_copyFrom, x1, x2, forall_eq, si_zcs_k τ b _ _ _ (show 4 < 16 by decide), sl_zcs_1, gr_zcs, a2, d2, Option.some.injEq, exists_eq_left']
  refine c_rcopy (c := 5) (cap := 1000) (by decide) a4 l2 (by decide) d4 k2 (by omega) (by omega) hn hn2 (fun f' e1 e2 e3 e4 => hq f' (fun k h1 h2 h3 => ?_) (fun j hj => ?_) e3 e4)
  · rw [e1 k (by omega) (by omega), zf_ne h1, zf_ne h1, zf_ne h1, zf_ne h1, zf_ne h1, zf_ne h1]
  · rw [e1 4 (by decide) (by decide)]
    rcases (show j = 0 ∨ j = 1 ∨ j = 2 ∨ j = 3 ∨ j = 4 ∨ j = 5 by omega) with rfl | rfl | rfl | rfl | rfl | rfl <;> simp only [zf_ap, if_true, Nat.reduceEqDiff, if_false]
theorem C_vcopy {ln : Nat → Nat} {τ : zS} {b b1 : Nat} {f : Nat → Nat → Int32} {t0 t1 : Int64} (S : zMs (gr τ) ln b) (S1 : zMs (gr τ) ln b1) (hb : b + 16 ≤ b1 ∨ b1 + 16 ≤ b) {n : Nat} (hn : gi τ (b1 + 8) 1 = nI n) (hn2 : n ≤ 40) (h14 : gi τ (b1 + 7) 3 = 0 ∨ gi τ (b1 + 7) 3 = 1) {Q : zS → Prop}
    (hq : ∀ f' : Nat → Nat → Int32, (∀ k, k ≠ 7 → k ≠ 8 → k ≠ 9 → f' k = f k) → (∀ j, 1 ≤ j → j < 4 → f' 7 j = gi τ (b1 + 7) j) → f' 8 1 = nI n → (∀ j, j < n → f' 9 j = gi τ (b1 + 9) j) → Q (zcs τ b f' t0 t1)) : wX7_copyFrom ln (zcs τ b f t0 t1) (b + 7) (b1 + 7) Q := by
  obtain ⟨-, ⟨a1, a2, a3, a4, a5, a6, a7, a8, a9⟩, ⟨l1, l2, l3, l4, l5, l6⟩⟩ := S
  obtain ⟨-, ⟨d1, d2, d3, d4, d5, d6, d7, d8, d9⟩, ⟨k1, k2, k3, k4, k5, k6⟩⟩ := S1
  have x1 : ∀ f' u0 u1, gi (zcs τ b f' u0 u1) (b1 + 7) = gi τ (b1 + 7) := fun f' u0 u1 => gi_zcs_o τ b f' u0 u1 (by omega)
  simp only [wX7_copyFrom, gr_zcs, a5, d5, Option.some.injEq, exists_eq_left']
  refine c_rcopy (c := 8) (cap := 40) (by decide) a6 l3 (by decide) d6 k3 (by omega) (by omega) hn hn2 (fun f' e1 e2 e3 e4 => ?_)
  simp only [x1, forall_eq, si_zcs_k τ b _ _ _ (show 7 < 16 by decide)]
  refine ⟨h14, hq _ (fun k h1 h2 h3 => ?_) (fun j h1 h2 => ?_) ?_ (fun j hj => ?_)⟩
  · rw [zf_ne h1, zf_ne h1, zf_ne h1]; exact e1 k h2 h3
  · rcases (show j = 1 ∨ j = 2 ∨ j = 3 by omega) with rfl | rfl | rfl <;> simp only [zf_ap, if_true, Nat.reduceEqDiff, if_false]
  · rw [zf_ne (by decide), zf_ne (by decide), zf_ne (by decide)]; exact e3
  · rw [zf_ne (by decide), zf_ne (by decide), zf_ne (by decide)]; exact e4 j hj
/-- what a copy leaves alone -/
def zFc (σ σ' : zS) (b p : Nat) : Prop := gr σ' = gr (sr σ b 0 (some p)) ∧ gd σ' = gd σ ∧ ∀ a, ¬ (b ≤ a ∧ a < b + 16) → gi σ' a = gi σ a ∧ gl σ' a = gl σ a
theorem C_copy {ln : Nat → Nat} {σ : zS} {b b1 p : Nat} {r : Nat → Int32} (S : zMs (gr σ) ln b) (S1 : zMs (gr σ) ln b1) (hb : b + 16 ≤ b1 ∨ b1 + 16 ≤ b) (gp1 : gr σ b1 0 = some p) (K : KM σ b1 r) (hW : zW r) (h14 : r 14 = 0 ∨ r 14 = 1) (hc10 : gi σ (b + 10) 0 = nI 640) (hc12 : gi σ (b + 12) 0 = nI 40) {Q : zS → Prop} (hq : ∀ σ', KM σ' b r → zFc σ σ' b p → Q σ') : wX3_copyFrom ln σ b b1 Q := by
  have S' := zMs_sr S (b1 := b) (Or.inl rfl) (some p)
  have S1' := zMs_sr S1 (b1 := b) (Or.inr (by omega)) (some p)
  obtain ⟨nb, ne, nz, nm0, nm1, nt⟩ := hW.bn
  obtain ⟨h1, ⟨h2, h2'⟩, ⟨h3, h3'⟩, h4, h5, h6, h7, h8, h9⟩ := K
  have hid : sr σ b 0 (some p) = zcs (sr σ b 0 (some p)) b (fun k => gi σ (b + k)) (gl σ (b + 1) 6) (gl σ (b + 4) 6) := (zcs_self (sr σ b 0 (some p)) b).symm
  have eg : ∀ a, gi (sr σ b 0 (some p)) a = gi σ a := fun _ => rfl
  have el : ∀ a, gl (sr σ b 0 (some p)) a = gl σ a := fun _ => rfl
  have ed : gd (sr σ b 0 (some p)) = gd σ := rfl
  have egr : gr (sr σ b 0 (some p)) = gr (sr σ b 0 (some p)) := rfl
  refine ⟨p, gp1, fun σ2 e2 => ?_⟩
  rw [hid] at e2
  subst e2
  have hfin : ∀ f' t0 t1, RR f' t0 t1 r → Q (zcs (sr σ b 0 (some p)) b f' t0 t1) := fun f' t0 t1 h => hq _ (KM_zcs h) ⟨rfl, rfl, fun a ha => ⟨gi_zcs_o _ b f' t0 t1 ha, gl_zcs_o _ b f' t0 t1 (by omega) (by omega)⟩⟩
  have F10 : (fun k => gi σ (b + k)) 10 0 = nI 640 := hc10
  have F12 : (fun k => gi σ (b + k)) 12 0 = nI 40 := hc12
  generalize (fun k => gi σ (b + k)) = F at F10 F12 ⊢
  generalize sr σ b 0 (some p) = τ at S' S1' eg el hfin ⊢
  have S2 := S'
  have S12 := S1'
  obtain ⟨⟨m1, m2, m3, m4, m5, m6⟩, ⟨a1, a2, a3, a4, a5, a6, a7, a8, a9⟩, ⟨l1, l2, l3, l4, l5, l6⟩⟩ := S'
  obtain ⟨⟨n1, n2, n3, n4, n5, n6⟩, ⟨d1, d2, d3, d4, d5, d6, d7, d8, d9⟩, ⟨k1, k2, k3, k4, k5, k6⟩⟩ := S1'
  have x1 : ∀ f' u0 u1, gi (zcs τ b f' u0 u1) b1 = gi σ b1 := fun f' u0 u1 => (gi_zcs_o τ b f' u0 u1 (by omega)).trans (eg b1)
  have w7 : zB1 (gi σ b1 4) := by
    have e : gi σ b1 4 = r 7 := h1.2.2.2.1
    unfold zB1
    rw [e]; exact hW.w
  simp only [x1, forall_eq, si_zcs_b]
  refine ⟨w7, ?_⟩
  simp only [x1, forall_eq, si_zcs_b, gr_zcs, m1, n1, Option.some.injEq, exists_eq_left']
  have em : ∀ (x : Int32) (M : Nat), 0 ≤ x.toInt → x.toNatClampNeg ≤ M → M < 2 ^ 31 → x = nI x.toNatClampNeg := fun x M h0 h1 h2 => by
    have := ncl h0
    rw [neq, nI_toInt (by omega)]; omega
  have v0 : gi τ (b1 + 2) 1 = nI (r 29).toNatClampNeg := by rw [eg]; exact h3.1.trans (em _ 1000 hW.m0.1 nm0 (by decide))
  have v1 : gi τ (b1 + 5) 1 = nI (r 30).toNatClampNeg := by rw [eg]; exact h3'.1.trans (em _ 1000 hW.m1.1 nm1 (by decide))
  have vb : gi τ (b1 + 8) 1 = nI (r 11).toNatClampNeg := by rw [eg]; exact h4.2.2.2.1.trans (em _ 40 hW.b.1 nb (by decide))
  have vz : gi τ (b1 + 14) 1 = nI (r 20).toNatClampNeg := by rw [eg]; exact h7.1.trans (em _ 20 hW.l.1 nz (by decide))
  obtain ⟨t1, t2, st, t3, t4, t5⟩ := h5
  obtain ⟨q1, q2, se, q3, q4, q5⟩ := h6
  have vt : gi τ (b1 + 10) 3 = nI (r 19).toNatClampNeg := by rw [eg]; exact t2.trans (em _ 600 hW.u.1 nt (by decide))
  have ve : gi τ (b1 + 12) 3 = nI (r 18).toNatClampNeg := by rw [eg]; exact q2.trans (em _ 40 hW.e.1 ne (by decide))
  refine C_ocopy0 S2 S12 hb v0 nm0 (fun f1 e1 e2 e3 e4 => ?_)
  simp only [gr_zcs, m2, n2, Option.some.injEq, exists_eq_left']
  refine C_ocopy1 S2 S12 hb v1 nm1 (fun f2 e5 e6 e7 e8 => ?_)
  simp only [gr_zcs, m3, n3, Option.some.injEq, exists_eq_left']
  refine C_vcopy S2 S12 hb vb nb (by rw [eg]; have e : gi σ (b1 + 7) 3 = r 14 := h4.2.2.1; rw [e]; exact h14) (fun f3 e9 e10 e11 e12 => ?_)
  simp only [gr_zcs, m4, n4, Option.some.injEq, exists_eq_left']
  have y10 : f3 10 0 = nI 640 := by
    rw [e9 10 (by decide) (by decide) (by decide), e5 10 (by decide) (by decide) (by decide), e1 10 (by decide) (by decide) (by decide)]
    simp only [zf_ap, Nat.reduceEqDiff, if_false]
    exact F10
  have y12 : f3 12 0 = nI 40 := by
    rw [e9 12 (by decide) (by decide) (by decide), e5 12 (by decide) (by decide) (by decide), e1 12 (by decide) (by decide) (by decide)]
    simp only [zf_ap, Nat.reduceEqDiff, if_false]
    exact F12
  refine c_reccopy (c := 10) (cap := 640) (by decide) a7 l4 (by decide) d7 k4 (by omega) (by omega) (by rw [eg]; exact t1) (by rw [eg]; exact t4) vt t3 (by omega) y10 (fun f4 g1 g2 g3 g4 g5 => ?_)
  simp only [gr_zcs, m5, n5, Option.some.injEq, exists_eq_left']
  refine c_reccopy (c := 12) (cap := 40) (by decide) a8 l5 (by decide) d8 k5 (by omega) (by omega) (by rw [eg]; exact q1) (by rw [eg]; exact q4) ve q3 ne (by rw [g1 12 (by decide) (by decide)]; exact y12) (fun f5 g6 g7 g8 g9 g10 => ?_)
  simp only [gr_zcs, m6, n6, Option.some.injEq, exists_eq_left']
  refine c_rcopy (c := 14) (cap := 20) (by decide) a9 l6 (by decide) d9 k6 (by omega) (by omega) vz nz (fun f6 i1 i2 i3 i4 => hfin _ _ _ ?_)
  have c5 : ∀ k, k ≠ 14 → k ≠ 15 → k ≠ 12 → k ≠ 13 → k ≠ 10 → k ≠ 11 → f6 k = f3 k := fun k x1 x2 x3 x4 x5 x6 => by rw [i1 k x1 x2, g6 k x3 x4, g1 k x5 x6]
  have c0 : ∀ j, 1 ≤ j → j ≤ 10 → f6 0 j = gi σ b1 j := fun j j1 j2 => by
    rw [c5 0 (by decide) (by decide) (by decide) (by decide) (by decide) (by decide), e9 0 (by decide) (by decide) (by decide), e5 0 (by decide) (by decide) (by decide), e1 0 (by decide) (by decide) (by decide)]
    rcases (show j = 1 ∨ j = 2 ∨ j = 3 ∨ j = 4 ∨ j = 5 ∨ j = 6 ∨ j = 7 ∨ j = 8 ∨ j = 9 ∨ j = 10 by omega) with rfl | rfl | rfl | rfl | rfl | rfl | rfl | rfl | rfl | rfl <;> simp only [zf_ap, if_true, Nat.reduceEqDiff, if_false]
  have c1 : ∀ k, k = 1 ∨ k = 2 ∨ k = 3 → f6 k = f1 k := fun k hk => by rw [c5 k (by omega) (by omega) (by omega) (by omega) (by omega) (by omega), e9 k (by omega) (by omega) (by omega), e5 k (by omega) (by omega) (by omega)]
  have c4 : ∀ k, k = 4 ∨ k = 5 ∨ k = 6 → f6 k = f2 k := fun k hk => by rw [c5 k (by omega) (by omega) (by omega) (by omega) (by omega) (by omega), e9 k (by omega) (by omega) (by omega)]
  have c7 : ∀ k, k = 7 ∨ k = 8 ∨ k = 9 → f6 k = f3 k := fun k hk => c5 k (by omega) (by omega) (by omega) (by omega) (by omega) (by omega)
  have c10 : ∀ k, k = 10 ∨ k = 11 → f6 k = f4 k := fun k hk => by rw [i1 k (by omega) (by omega), g6 k (by omega) (by omega)]
  have c12 : ∀ k, k = 12 ∨ k = 13 → f6 k = f5 k := fun k hk => i1 k (by omega) (by omega)
  have H0 : ∀ j, gi σ b1 j = gi σ (b1 + 0) j := fun _ => rfl
  refine ⟨?_, ⟨?_, ?_⟩, ⟨?_, ?_⟩, ?_, ?_, ?_, ?_, ?_, ?_⟩
  · obtain ⟨p1, p2, p3, p4, p5, p6, p7, p8, p9, p10⟩ := h1
    exact ⟨(c0 1 (by decide) (by decide)).trans p1, (c0 2 (by decide) (by decide)).trans p2, (c0 3 (by decide) (by decide)).trans p3, (c0 4 (by decide) (by decide)).trans p4, fun hx => (c0 5 (by decide) (by decide)).trans (p5 hx), (c0 6 (by decide) (by decide)).trans p6, (c0 7 (by decide) (by decide)).trans p7, (c0 8 (by decide) (by decide)).trans p8, (c0 9 (by decide) (by decide)).trans p9, (c0 10 (by decide) (by decide)).trans p10⟩
  · obtain ⟨p1, p2, p3, p4, p5, p6⟩ := h2
    have e : ∀ j, j < 6 → f6 (1 + 3 * 0) j = gi σ (b1 + 1) j := fun j hj => by
      show f6 1 j = _
      rw [c1 1 (by omega), e2 j hj, eg]
    exact ⟨(e 0 (by decide)).trans p1, (e 1 (by decide)).trans p2, (e 2 (by decide)).trans p3, (e 3 (by decide)).trans p4, (e 4 (by decide)).trans p5, (e 5 (by decide)).trans p6⟩
  · obtain ⟨p1, p2, p3, p4, p5, p6⟩ := h2'
    have e : ∀ j, j < 6 → f6 (1 + 3 * 1) j = gi σ (b1 + 4) j := fun j hj => by
      show f6 4 j = _
      rw [c4 4 (by omega), e6 j hj, eg]
    exact ⟨(e 0 (by decide)).trans p1, (e 1 (by decide)).trans p2, (e 2 (by decide)).trans p3, (e 3 (by decide)).trans p4, (e 4 (by decide)).trans p5, (e 5 (by decide)).trans p6⟩
  · refine ⟨?_, fun k hk => ?_⟩
    · show f6 2 1 = _
      rw [c1 2 (by omega), e3]
      exact (em _ 1000 hW.m0.1 nm0 (by decide)).symm
    · show f6 3 k = _
      rw [c1 3 (by omega), e4 k hk, eg]
      exact h3.2 k hk
  · refine ⟨?_, fun k hk => ?_⟩
    · show f6 5 1 = _
      rw [c4 5 (by omega), e7]
      exact (em _ 1000 hW.m1.1 nm1 (by decide)).symm
    · show f6 6 k = _
      rw [c4 6 (by omega), e8 k hk, eg]
      exact h3'.2 k hk
  · obtain ⟨p1, p2, p3, p4, p5⟩ := h4
    have e : ∀ j, 1 ≤ j → j < 4 → f6 7 j = gi σ (b1 + 7) j := fun j x1 x2 => by rw [c7 7 (by omega), e10 j x1 x2, eg]
    refine ⟨(e 1 (by decide) (by decide)).trans p1, (e 2 (by decide) (by decide)).trans p2, (e 3 (by decide) (by decide)).trans p3, ?_, fun k hk => ?_⟩
    · rw [c7 8 (by omega), e11]
      exact (em _ 40 hW.b.1 nb (by decide)).symm
    · rw [c7 9 (by omega), e12 k hk, eg]
      exact p5 k hk
  · refine ⟨?_, ?_, 0, by decide, ?_, fun k hk i hi hw => ?_⟩
    · rw [c10 10 (by omega)]; exact g2
    · rw [c10 10 (by omega), g4]; exact (em _ 600 hW.u.1 nt (by decide)).symm
    · rw [c10 10 (by omega)]; exact g3
    · rw [rix_0 (by omega), c10 11 (by omega), g5 k hk i hi, eg]
      exact t5 k hk i hi hw
  · refine ⟨?_, ?_, 0, by decide, ?_, fun k hk i hi hw => ?_⟩
    · rw [c12 12 (by omega)]; exact g7
    · rw [c12 12 (by omega), g9]; exact (em _ 40 hW.e.1 ne (by decide)).symm
    · rw [c12 12 (by omega)]; exact g8
    · rw [rix_0 (by omega), c12 13 (by omega), g10 k hk i hi, eg]
      exact q5 k hk i hi hw
  · refine ⟨?_, fun k hk => ?_⟩
    · rw [i3]; exact (em _ 20 hW.l.1 nz (by decide)).symm
    · rw [i4 k hk, eg]
      exact h7.2 k hk
  · rw [el]; exact h8
  · rw [el]; exact h9

/-! from 77.many -/
/-! MANY TICKS: the row, the class, the model -/
theorem rArr_1 : ∀ (k : Nat) (r : Nat → Int32) (f1 f2 : Int32), (rArr k (r, f1)).1 = (rArr k (r, f2)).1
  | 0, _, _, _ => rfl
  | k + 1, r, f1, f2 => by
    rw [rArr, rArr]
    by_cases h : ¬ r 19 ≤ 0 ∧ r 2963 = r 5
    · rw [if_pos h, if_pos h]
      exact rArr_1 k _ _ _
    · rw [if_neg h, if_neg h]
def rT (r : Nat → Int32) : Nat → Int32 := (rTick (r, 0)).1
theorem rTick_1 (r : Nat → Int32) (far : Int32) : (rTick (r, far)).1 = rT r := by
  show rT2 (rT1 (rLooks (rArr 601 (rTick0 r, far)).1)) = rT2 (rT1 (rLooks (rArr 601 (rTick0 r, 0)).1))
  rw [rArr_1 601 _ far 0]
def rN : Nat → (Nat → Int32) → (Nat → Int32)
  | 0, r => r
  | n + 1, r => rN n (rT r)
def fN : Nat → (Nat → Int32) → Int32 → Int32
  | 0, _, far => far
  | n + 1, r, far => fN n (rT r) (rTick (r, far)).2
def rG : Nat → (Nat → Int32) → Nat × (Nat → Int32)
  | 0, r => (0, r)
  | d + 1, r => if r 6 = -1 then (0, r) else ((rG d (rT r)).1 + 1, (rG d (rT r)).2)
theorem E_T {r : Nat → Int32} {N : Nat} (h : zEv r N) (hN : N ≤ 512) (hT : (r 5).toInt ≤ 109999) : zEv (rT r) N ∧ zkp r (rT r) ∧ (rT r 5).toInt = (r 5).toInt + 1 := by
  obtain ⟨_, _, _, _, _, k1, k2, k3⟩ := E_tick h hN hT 0
  have := h.1.T
  exact ⟨k1, k2, by show ((rTick (r, 0)).1 5).toInt = _; rw [k3]; exact ixs (k := 1) rfl (by decide) (by omega) (by omega)⟩
theorem E_N {N : Nat} (hN : N ≤ 512) : ∀ (n : Nat) (r : Nat → Int32), zEv r N → (r 5).toInt + n ≤ 110000 → zEv (rN n r) N ∧ zkp r (rN n r) ∧ (rN n r 5).toInt = (r 5).toInt + n
  | 0, r, h, _ => ⟨h, fun _ _ => rfl, by show (r 5).toInt = _; omega⟩
  | n + 1, r, h, hT => by
    obtain ⟨k1, k2, k3⟩ := E_T h hN (by omega)
    obtain ⟨j1, j2, j3⟩ := E_N hN n (rT r) k1 (by omega)
    exact ⟨j1, k2.tr j2, by show (rN n (rT r) 5).toInt = _; omega⟩
theorem E_G {N : Nat} (hN : N ≤ 512) : ∀ (n : Nat) (r : Nat → Int32), zEv r N → (r 5).toInt + n ≤ 110000 → zEv (rG n r).2 N ∧ zkp r (rG n r).2 ∧ ((rG n r).2 5).toInt = (r 5).toInt + (rG n r).1 ∧ (rG n r).1 ≤ n
  | 0, r, h, _ => ⟨h, fun _ _ => rfl, by show (r 5).toInt = (r 5).toInt + (0 : Nat); omega, Nat.le_refl _⟩
  | n + 1, r, h, hT => by
    rw [rG]
    by_cases h6 : r 6 = -1
    · rw [if_pos h6]
      exact ⟨h, fun _ _ => rfl, by show (r 5).toInt = (r 5).toInt + (0 : Nat); omega, Nat.zero_le _⟩
    · rw [if_neg h6]
      obtain ⟨k1, k2, k3⟩ := E_T h hN (by omega)
      obtain ⟨j1, j2, j3, j4⟩ := E_G hN n (rT r) k1 (by omega)
      exact ⟨j1, k2.tr j2, by show ((rG n (rT r)).2 5).toInt = (r 5).toInt + (((rG n (rT r)).1 + 1 : Nat) : Int); omega, by show (rG n (rT r)).1 + 1 ≤ n + 1; omega⟩
theorem zPl_fr {σ σ' : zS} {ln : Nat → Nat} {p : Nat} {r : Nat → Int32} {B : Nat → Prop} (h : zPl σ ln p r) (e : zFr B σ σ') (hB : ∀ a, p ≤ a → a < p + 127 → ¬ B a) : zPl σ' ln p r := by
  obtain ⟨⟨a1, a2, a3, a4⟩, b1, ⟨c1, c2⟩, d1, e1⟩ := h
  have g : ∀ a, p ≤ a → a < p + 127 → gi σ' a = gi σ a := fun a h1 h2 => (e.2.2 a (hB a h1 h2)).1
  unfold zPl
  rw [e.1, g p (by omega) (by omega), g (p + 3) (by omega) (by omega), g (p + 65) (by omega) (by omega)]
  refine ⟨⟨a1, a2, a3, a4⟩, b1, ⟨c1, c2⟩, d1, fun q hq k hk => ⟨(e1 q hq k hk).1, fun hk2 => ?_⟩⟩
  rw [g _ (by omega) (by omega), g _ (by omega) (by omega)]
  exact (e1 q hq k hk).2 hk2
/-- the cells of a machine -/
def zB16 (b : Nat) : Nat → Prop := fun a => b ≤ a ∧ a < b + 16
theorem C_tickS {ln : Nat → Nat} {σ : zS} {b p : Nat} {r : Nat → Int32} {N : Nat} (S : zMs (gr σ) ln b) (gp : gr σ b 0 = some p) (hp : p + 127 ≤ b ∨ b + 16 ≤ p) (PL : zPl σ ln p r) (K : KM σ b r) (hN : N ≤ 512) (E : zEv r N) (hT : (r 5).toInt ≤ 109999) {Q : zS → Prop} (hq : ∀ σ', KM σ' b (rT r) → zFr (zB16 b) σ σ' → zPl σ' ln p (rT r) → Q σ') : wX3_tick ln σ b Q := by
  have := C_tick S gp hp PL K E.1 hN E hT 0 (Q := Q) (fun f' t0 t1 h => by
    rw [rTick_1] at h
    refine hq _ (KM_zcs h) (zFr_zcs σ b f' t0 t1) ?_
    exact (zPl_fr PL (zFr_zcs σ b f' t0 t1) (fun a h1 h2 => by omega)).c (E_T E hN hT).2.1 E.1)
  rw [zcs_self] at this
  exact this
theorem zMs_e {σ σ' : zS} {ln : Nat → Nat} {b : Nat} (h : zMs (gr σ) ln b) (e : gr σ' = gr σ) : zMs (gr σ') ln b := by rw [e]; exact h
section ZLOOP
variable {ln : Nat → Nat} {b p N : Nat}
end ZLOOP
/-! the model, by its cells -/
theorem zms_self (σ : zS) : zms σ (gi σ 456) (gi σ 460) (gi σ 455 7) (gi σ 455 9) = σ := by
  refine zS_ext (fun a j => ?_) rfl
  rw [gi_zms]
  split
  · rename_i h; subst h; rfl
  · split
    · rename_i h; subst h; rfl
    · split
      · rename_i h
        subst h
        split
        · rename_i h; subst h; rfl
        · split
          · rename_i h; subst h; rfl
          · rfl
      · rfl
/-- the model's own: its row, its path, the two numbers -/
def zMf (σ σ' : zS) : Prop := σ'.2 = σ.2 ∧ (∀ a, a ≠ 456 → a ≠ 460 → a ≠ 455 → gi σ' a = gi σ a) ∧ ∀ j, j ≠ 7 → j ≠ 9 → gi σ' 455 j = gi σ 455 j
theorem zMf.rf {σ : zS} : zMf σ σ := ⟨rfl, fun _ _ _ _ => rfl, fun _ _ _ => rfl⟩
theorem zMf.tr {σ σ' σ'' : zS} (h : zMf σ σ') (g : zMf σ' σ'') : zMf σ σ'' := ⟨g.1.trans h.1, fun a h1 h2 h3 => (g.2.1 a h1 h2 h3).trans (h.2.1 a h1 h2 h3), fun j h1 h2 => (g.2.2 j h1 h2).trans (h.2.2 j h1 h2)⟩
theorem zMf.r {σ σ' : zS} (h : zMf σ σ') : gr σ' = gr σ := by
  show σ'.2.1 = σ.2.1
  rw [h.1]
theorem zMf.l {σ σ' : zS} (h : zMf σ σ') : gl σ' = gl σ := by
  show σ'.2.2.1 = σ.2.2.1
  rw [h.1]
theorem zMf.d {σ σ' : zS} (h : zMf σ σ') : gd σ' = gd σ := by
  show σ'.2.2.2 = σ.2.2.2
  rw [h.1]
theorem zMf_zms (σ : zS) (r pf : Nat → Int32) (n far : Int32) : zMf σ (zms σ r pf n far) := ⟨rfl, fun a h1 h2 h3 => by
  funext k
  exact gi_zms_a σ r pf n far h1 h2 h3 k, fun j h1 h2 => by
  rw [gi_zms, if_neg (by decide), if_neg (by decide), if_pos rfl, if_neg h1, if_neg h2]⟩
section MLOOP
variable {ln : Nat → Nat} {N : Nat}
end MLOOP

/-! from 78.kept -/
/-! ROWS KEPT: the model's past, the class's history -/
def zcg (r r' : Nat → Int32) : Prop := ∀ k, k < 4763 → r' k = r k
theorem zkey_lt {k : Nat} (h : zkey k) : k < 4763 := by unfold zkey at h; omega
theorem zW_cg {r r' : Nat → Int32} (h : zW r) (e : zcg r r') : zW r' := zW_cong (fun k hk => e k (zkey_lt hk)) h
theorem zkp_cg {r r' : Nat → Int32} (e : zcg r r') : zkp r r' := fun k hk => e k (by omega)
theorem RR_cg {f : Nat → Nat → Int32} {s0 s1 : Int64} {r r' : Nat → Int32} (h : RR f s0 s1 r) (hW : zW r) (e : zcg r r') : RR f s0 s1 r' := by
  obtain ⟨nb, ne, nz, nm0, nm1, nt⟩ := hW.bn
  obtain ⟨h1, ⟨h2, h2'⟩, ⟨h3, h3'⟩, h4, h5, h6, h7, h8, h9⟩ := h
  exact ⟨RS_c h1 rfl (fun k hk => e k (by omega)), ⟨RO_c h2 rfl (fun k hk => e k (by omega)), RO_c h2' rfl (fun k hk => e k (by omega))⟩, ⟨RV_c h3 rfl rfl (e _ (by omega)) (fun k hk => e _ (by omega)), RV_c h3' rfl rfl (e _ (by omega)) (fun k hk => e _ (by omega))⟩, RB_c h4 rfl rfl rfl (fun k hk => e k (by omega)) (fun k hk => e _ (by omega)), RT_c h5 rfl rfl (e _ (by omega)) (fun k hk => e _ (by omega)), RE_c h6 rfl rfl (e _ (by omega)) (fun k hk => e _ (by omega)), RZ_c h7 rfl rfl (e _ (by omega)) (fun k hk => e _ (by omega)), by rw [e 37 (by omega)]; exact h8, by rw [e 38 (by omega)]; exact h9⟩
theorem zEv_cg {r r' : Nat → Int32} {N : Nat} (h : zEv r N) (e : zcg r r') : zEv r' N := by
  obtain ⟨hW, hx, hT, hB⟩ := h
  obtain ⟨nb, ne, nz, nm0, nm1, nt⟩ := hW.bn
  have ze : zTe r r' := ⟨e 19 (by omega), fun j hj => e _ (by omega), e 5 (by omega), e 1 (by omega), fun x => by rw [← e 14 (by omega)]; exact x⟩
  refine ⟨zW_cg hW e, ?_, ?_, by rw [ze.B nt]; exact hB⟩
  · rw [e 5 (by omega)]
    exact zx_c (fun k hk => e k (by omega)) (zkp_cg e) hW hx
  · rw [e 5 (by omega), e 1 (by omega)]
    exact ze.T nt hT
theorem zEv_mono {r : Nat → Int32} {N M : Nat} (h : zEv r N) (e : N ≤ M) : zEv r M := ⟨h.1, h.2.1, h.2.2.1, Nat.le_trans h.2.2.2 e⟩
theorem KM_cg {σ : zS} {b : Nat} {r r' : Nat → Int32} (h : KM σ b r) (hW : zW r) (e : zcg r r') : KM σ b r' := RR_cg h hW e
theorem si_sI (σ : zS) (a : Nat) (f : Nat → Int32) (k : Nat) (v : Int32) : si (sI σ a f) a k v = sI σ a (zu f k v) := by
  refine zS_ext (fun b j => ?_) rfl
  rw [gi_si, gi_sI, gi_sI]
  split
  · rfl
  · rfl
theorem sI_self (σ : zS) (a : Nat) : sI σ a (gi σ a) = σ := by
  refine zS_ext (fun b j => ?_) rfl
  rw [gi_sI]
  split
  · rename_i h; rw [h]
  · rfl
/-! the model's loops -/
/-- the rows that the model keeps -/
def zRec (σ : zS) (m : Nat) (h : Nat → Nat → Int32) : Prop := gi σ 455 5 = nI m ∧ ∀ i, i < m → ∀ k, k < 4763 → gi σ 459 (4763 * i + k) = h i k
def hpush (m : Nat) (h : Nat → Nat → Int32) (r : Nat → Int32) : Nat → Nat → Int32 := fun i => if m = 10 then (if i < 9 then h (i + 1) else r) else if i < m then h i else r
/-- what the keeping changes -/
def zMr (σ σ' : zS) : Prop := σ'.2 = σ.2 ∧ (∀ a, a ≠ 459 → a ≠ 455 → gi σ' a = gi σ a) ∧ ∀ j, j ≠ 5 → gi σ' 455 j = gi σ 455 j
theorem zMr.r {σ σ' : zS} (h : zMr σ σ') : gr σ' = gr σ := by
  show σ'.2.1 = σ.2.1
  rw [h.1]
theorem zMr.l {σ σ' : zS} (h : zMr σ σ') : gl σ' = gl σ := by
  show σ'.2.2.1 = σ.2.2.1
  rw [h.1]
theorem zMr.d {σ σ' : zS} (h : zMr σ σ') : gd σ' = gd σ := by
  show σ'.2.2.2 = σ.2.2.2
  rw [h.1]
theorem sI_out (σ : zS) {a b : Nat} (f : Nat → Int32) (h : b ≠ a) : gi (sI σ a f) b = gi σ b := by
  funext j
  rw [gi_sI, if_neg h]
theorem sI_at (σ : zS) (a : Nat) (f : Nat → Int32) : gi (sI σ a f) a = f := by
  funext j
  rw [gi_sI, if_pos rfl]
theorem si_out (σ : zS) {a k b : Nat} (v : Int32) (h : b ≠ a) : gi (si σ a k v) b = gi σ b := by
  funext j
  rw [gi_si, if_neg h]
theorem si_at (σ : zS) (a k : Nat) (v : Int32) : gi (si σ a k v) a = zu (gi σ a) k v := by
  funext j
  rw [gi_si, if_pos rfl]
  rfl
/-! the class's history -/
def zIsM (b : Nat) : Prop := b = 261 ∨ b = 277 ∨ ∃ i, i < 10 ∧ b = 295 + 16 * i
def hslot (s i : Nat) : Nat := 295 + 16 * ((s + i) % 10)
theorem hslot_M (s i : Nat) : zIsM (hslot s i) := Or.inr (Or.inr ⟨(s + i) % 10, Nat.mod_lt _ (by decide), rfl⟩)
theorem hslot_b (s i : Nat) : 295 ≤ hslot s i ∧ hslot s i + 16 ≤ 455 := by
  have := Nat.mod_lt (s + i) (show 0 < 10 by decide)
  unfold hslot
  omega
theorem hslot_ne {s i j : Nat} (hi : i < 10) (hj : j < 10) (h : i ≠ j) : hslot s i + 16 ≤ hslot s j ∨ hslot s j + 16 ≤ hslot s i := by
  unfold hslot
  omega
def zHs (σ : zS) (p s m : Nat) (h : Nat → Nat → Int32) : Prop := gi σ 293 1 = nI s ∧ gi σ 293 2 = nI m ∧ ∀ i, i < m → gr σ (hslot s i) 0 = some p ∧ KM σ (hslot s i) (h i)
/-- what the class's actions on machines leave alone -/
def zFm (B : Nat → Prop) (σ σ' : zS) : Prop := (∀ a j, ¬ (zIsM a ∧ j = 0) → gr σ' a j = gr σ a j) ∧ gd σ' = gd σ ∧ ∀ a, ¬ B a → gi σ' a = gi σ a ∧ gl σ' a = gl σ a
def zCap (σ : zS) : Prop := ∀ b, zIsM b → gi σ (b + 10) 0 = nI 640 ∧ gi σ (b + 12) 0 = nI 40
theorem KM_cap {σ : zS} {b : Nat} {r : Nat → Int32} (h : KM σ b r) : gi σ (b + 10) 0 = nI 640 ∧ gi σ (b + 12) 0 = nI 40 := ⟨h.2.2.2.2.1.1, h.2.2.2.2.2.1.1⟩
/-- the references of the history -/
def zHg (g : Nat → Nat → Option Nat) (ln : Nat → Nat) : Prop := g 293 0 = some 294 ∧ (∀ i, i < 10 → g 294 i = some (295 + 16 * i)) ∧ ln 294 = 10
theorem C_slot {ln : Nat → Nat} {σ : zS} (G : zHg (gr σ) ln) {s i : Nat} (hs : s < 10) (hi : i < 10) (h1 : gi σ 293 1 = nI s) {v : Int32} (hv : v = nI i) {Q : Option Nat → zS → Prop} (hq : Q (some (hslot s i)) σ) : wX1_slot ln σ 293 v Q := by
  subst hv
  intro x1 e1 x2 e2
  rw [h1, nI_add] at e1
  subst e1
  have e3 : nI (s + i) - nI (s + i) / 10 * 10 = nI ((s + i) % 10) := pk_rem (a := s + i) (d := 10) (by omega) (by decide) (by decide)
  rw [e3] at e2
  subst e2
  have hm := Nat.mod_lt (s + i) (show 0 < 10 by decide)
  refine ⟨fun h => absurd h (nI_pos (by omega)), fun _ => ⟨294, G.1, ?_⟩⟩
  rw [G.2.2]
  refine ⟨fun h => absurd h (nI_ge (a := (s + i) % 10) (b := 10) hm (by decide)), fun _ => ⟨294, G.1, ?_⟩⟩
  rw [G.2.2, nI_clamp (by omega)]
  exact ⟨vp_in_nI hm (by decide), hslot s i, G.2.1 _ hm, hq⟩
theorem zFm.rf {B : Nat → Prop} {σ : zS} : zFm B σ σ := ⟨fun _ _ _ => rfl, rfl, fun _ _ => ⟨rfl, rfl⟩⟩
theorem zFm.tr {B : Nat → Prop} {σ σ' σ'' : zS} (h : zFm B σ σ') (g : zFm B σ' σ'') : zFm B σ σ'' := ⟨fun a j hn => (g.1 a j hn).trans (h.1 a j hn), g.2.1.trans h.2.1, fun a ha => ⟨(g.2.2 a ha).1.trans (h.2.2 a ha).1, (g.2.2 a ha).2.trans (h.2.2 a ha).2⟩⟩
theorem zFr.m {B : Nat → Prop} {σ σ' : zS} (h : zFr B σ σ') : zFm B σ σ' := ⟨fun a j _ => by rw [h.1], h.2.1, h.2.2⟩
theorem zFm.mono {B C : Nat → Prop} {σ σ' : zS} (h : zFm B σ σ') (e : ∀ a, B a → C a) : zFm C σ σ' := ⟨h.1, h.2.1, fun a ha => h.2.2 a (fun hb => ha (e a hb))⟩
theorem zFc.m {σ σ' : zS} {b p : Nat} (h : zFc σ σ' b p) (hb : zIsM b) : zFm (zB16 b) σ σ' := ⟨fun a j hn => by
  rw [h.1, gr_sr]
  split
  · rename_i e
    subst e
    rw [if_neg (fun e => hn ⟨hb, e⟩)]
  · rfl, h.2.1, h.2.2⟩
/-- the cells of the history -/
def zBh : Nat → Prop := fun a => 293 ≤ a ∧ a < 455
theorem C_keep {ln : Nat → Nat} {σ : zS} {p m s : Nat} {h : Nat → Nat → Int32} {r : Nat → Int32} (G : zHg (gr σ) ln) (SM : ∀ b, zIsM b → zMs (gr σ) ln b) (CP : zCap σ) (gp : gr σ 261 0 = some p) (K : KM σ 261 r) (hW : zW r) (h14 : r 14 = 0 ∨ r 14 = 1) (hm : m ≤ 10) (hs : s < 10) (H : zHs σ p s m h) {Q : zS → Prop} (hq : ∀ σ' s', s' < 10 → zHs σ' p s' (if m = 10 then 10 else m + 1) (hpush m h r) → zCap σ' → zFm zBh σ σ' → gr σ' 261 0 = some p → Q σ') : wX1_keep ln σ 293 261 Q := by
  obtain ⟨H1, H2, H3⟩ := H
  have hM1 : zIsM 261 := Or.inl rfl
  have go : ∀ (σ0 : zS) (s' m' : Nat) (h' : Nat → Nat → Int32), s' < 10 → m' < 10 → gr σ0 = gr σ → gd σ0 = gd σ → gl σ0 = gl σ → (∀ a, a ≠ 293 → gi σ0 a = gi σ a) → gi σ0 293 1 = nI s' → gi σ0 293 2 = nI m' → (∀ i, i < m' → gr σ (hslot s' i) 0 = some p ∧ KM σ (hslot s' i) (h' i)) → (∀ i, i < m' → hpush m h r i = h' i) → hpush m h r m' = r → (if m = 10 then 10 else m + 1) = m' + 1 → wX1_keep_32 ln Q 293 261 σ0 := by
    intro σ0 s' m' h' hs' hm' eg ed el ei i1 i2 i3 i4 i5 i6 x1 e1
    rw [i2] at e1
    subst e1
    refine C_slot (by rw [eg]; exact G) hs' hm' i1 rfl ⟨fun h => absurd h (by simp), fun j4 e4 => ?_⟩
    obtain rfl := Option.some.inj e4
    have hbb := hslot_b s' m'
    have hMs := hslot_M s' m'
    have cp := CP _ hMs
    refine C_copy (r := r) (p := p) (by rw [eg]; exact SM _ hMs) (by rw [eg]; exact SM _ hM1) (by omega) (by rw [eg]; exact gp) (KM_o K (fun a a1 a2 => ⟨ei a (by omega), by rw [el]⟩)) hW h14 (by rw [ei _ (by omega)]; exact cp.1) (by rw [ei _ (by omega)]; exact cp.2) (fun σ5 K5 F5 => ?_)
    intro x6 e6 σ7 e7
    have e62 : gi σ5 293 2 = nI m' := by rw [(F5.2.2 293 (by omega)).1]; exact i2
    rw [e62, nI_1] at e6
    subst e6 e7
    have gn : ∀ a j, ¬ (a = hslot s' m' ∧ j = 0) → gr σ5 a j = gr σ a j := fun a j hn => by
      rw [F5.1, gr_sr]
      split
      · rename_i e
        rw [if_neg (fun e2 => hn ⟨e, e2⟩), eg]
      · rw [eg]
    have ga : gr σ5 (hslot s' m') 0 = some p := by rw [F5.1, gr_sr, if_pos rfl, if_pos rfl]
    have gi5 : ∀ a, a ≠ 293 → ¬ (hslot s' m' ≤ a ∧ a < hslot s' m' + 16) → gi (si σ5 293 2 (nI (m' + 1))) a = gi σ a := fun a a1 a2 => by rw [si_out _ _ a1, (F5.2.2 a a2).1, ei a a1]
    have gl5 : ∀ a, ¬ (hslot s' m' ≤ a ∧ a < hslot s' m' + 16) → gl (si σ5 293 2 (nI (m' + 1))) a = gl σ a := fun a a2 => by
      show gl σ5 a = gl σ a
      rw [(F5.2.2 a a2).2, el]
    refine hq _ s' hs' ⟨?_, ?_, fun i hi => ?_⟩ (fun b hb => ?_) ⟨fun a j hn => ?_, ?_, fun a ha => ?_⟩ ?_
    · rw [si_at, zu_ne (by decide), (F5.2.2 293 (by omega)).1]; exact i1
    · rw [si_at, zu_self, i6]
    · rw [i6] at hi
      by_cases hi2 : i = m'
      · subst hi2
        rw [i5]
        exact ⟨ga, KM_o K5 (fun a a1 a2 => ⟨si_out _ _ (by omega), rfl⟩)⟩
      · rw [i4 i (by omega)]
        obtain ⟨j1, j2⟩ := i3 i (by omega)
        have hne := hslot_ne (s := s') (show i < 10 by omega) hm' hi2
        have hb2 := hslot_b s' i
        refine ⟨?_, KM_o j2 (fun a a1 a2 => ⟨gi5 a (by omega) (by omega), gl5 a (by omega)⟩)⟩
        show gr σ5 (hslot s' i) 0 = some p
        rw [gn _ _ (fun e => by omega)]
        exact j1
    · by_cases e : b = hslot s' m'
      · subst e
        have := KM_cap K5
        rw [si_out _ _ (by omega), si_out _ _ (by omega)]
        exact this
      · have hd : b + 16 ≤ hslot s' m' ∨ hslot s' m' + 16 ≤ b := by
          unfold hslot at e ⊢
          rcases hb with rfl | rfl | ⟨i, hi, rfl⟩
          · omega
          · omega
          · omega
        have hb293 : ¬ (b ≤ 293 ∧ 293 < b + 16) := by
          rcases hb with rfl | rfl | ⟨i, hi, rfl⟩ <;> omega
        have := CP b hb
        rw [gi5 _ (by omega) (by omega), gi5 _ (by omega) (by omega)]
        exact this
    · show gr σ5 a j = gr σ a j
      exact gn a j (fun e => hn ⟨by rw [e.1]; exact hMs, e.2⟩)
    · show gd σ5 = gd σ
      rw [F5.2.1, ed]
    · have ha' : ¬ (293 ≤ a ∧ a < 455) := ha
      exact ⟨gi5 a (by omega) (by omega), gl5 a (by omega)⟩
    · show gr σ5 261 0 = some p
      rw [gn _ _ (fun e => by omega)]
      exact gp
  unfold wX1_keep
  rw [H2]
  refine ⟨fun h10 x1 e1 x2 e2 σ3 e3 x4 e4 σ5 e5 => ?_, fun h10 => ?_⟩
  · have hm10 : m = 10 := (nI_eq (a := m) (b := 10) (by omega) (by decide)).mp h10
    subst hm10
    rw [H1, nI_1] at e1
    subst e1
    have e3' : nI (s + 1) - nI (s + 1) / 10 * 10 = nI ((s + 1) % 10) := pk_rem (a := s + 1) (d := 10) (by omega) (by decide) (by decide)
    rw [e3'] at e2
    subst e2 e3
    have h92 : gi (si σ 293 1 (nI ((s + 1) % 10))) 293 2 = nI 10 := by rw [si_at, zu_ne (by decide)]; exact H2
    rw [h92] at e4
    have e4' : x4 = nI 9 := e4
    subst e4' e5
    refine go _ ((s + 1) % 10) 9 (fun i => h (i + 1)) (Nat.mod_lt _ (by decide)) (by decide) rfl rfl rfl (fun a ha => by rw [si_out _ _ ha, si_out _ _ ha]) ?_ ?_ (fun i hi => ?_) (fun i hi => ?_) ?_ rfl
    · rw [si_at, zu_ne (by decide), si_at, zu_self]
    · rw [si_at, zu_self]
    · have e : hslot ((s + 1) % 10) i = hslot s (i + 1) := by unfold hslot; omega
      rw [e]
      exact H3 (i + 1) (by omega)
    · show (if 10 = 10 then (if i < 9 then h (i + 1) else r) else _) = _
      rw [if_pos rfl, if_pos hi]
    · rfl
  · have hm10 : ¬ m = 10 := fun e => h10 (by rw [e]; rfl)
    refine go σ s m h hs (by omega) rfl rfl rfl (fun _ _ => rfl) H1 H2 H3 (fun i hi => ?_) ?_ (if_neg hm10)
    · show (if m = 10 then _ else if i < m then h i else r) = _
      rw [if_neg hm10, if_pos hi]
    · show (if m = 10 then _ else if m < m then h m else r) = _
      rw [if_neg hm10, if_neg (Nat.lt_irrefl m)]
