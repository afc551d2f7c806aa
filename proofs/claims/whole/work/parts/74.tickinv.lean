/-! THE INVARIANT through a tick -/
def zJ (r : Nat → Int32) (N : Nat) (c : Int) : Prop := zW r ∧ zx r ((r 5).toInt - 1 + c) ∧ zTr r (r 5).toInt ((r 5).toInt + c) ((r 5).toInt + (r 1).toInt - 1) ((r 5).toInt + (r 1).toInt - 1 + c) ∧ zBr r ≤ N
def zKk (r : Nat → Int32) (N : Nat) : Prop := zW r ∧ zx r (r 5).toInt ∧ zTr r ((r 5).toInt + 1) ((r 5).toInt + 1) ((r 5).toInt + (r 1).toInt - 1) ((r 5).toInt + (r 1).toInt) ∧ zBr r ≤ N
/-- between ticks: N breaks at most are under way -/
def zEv (r : Nat → Int32) (N : Nat) : Prop := zW r ∧ zx r (r 5).toInt ∧ zTr r ((r 5).toInt + 1) ((r 5).toInt + 1) ((r 5).toInt + (r 1).toInt) ((r 5).toInt + (r 1).toInt) ∧ zBr r ≤ N
def zdue (m : Nat) (r : Nat → Int32) : Prop := ∀ k, m ≤ k → k < nU r → (r 5).toInt < aE r k
theorem zEv.n {r : Nat → Int32} {N : Nat} (h : zEv r N) (hN : N ≤ 512) : nU r ≤ 589 := by
  obtain ⟨hW, hx, hT, hB⟩ := h
  have hd := hW.d
  have := zT_n hT (by omega) (by omega)
  omega
theorem zKk.n {r : Nat → Int32} {N : Nat} (h : zKk r N) (hN : N ≤ 512) : nU r ≤ 589 := by
  obtain ⟨hW, hx, hT, hB⟩ := h
  have hd := hW.d
  have := zT_n hT (by omega) (by omega)
  omega
theorem zJ.n {r : Nat → Int32} {N : Nat} {c : Int} (h : zJ r N c) (hc : c = 0 ∨ c = 1) (hN : N ≤ 512) : nU r ≤ 589 := by
  obtain ⟨hW, hx, hT, hB⟩ := h
  have hd := hW.d
  have := zT_n hT (by omega) (by omega)
  omega
theorem nU_19 {r : Nat → Int32} (hW : zW r) {m : Nat} (h : nU r ≤ m) : (r 19).toInt ≤ m := by
  have := ncl hW.u.1
  unfold nU at h
  omega
theorem zx_c {r r' : Nat → Int32} {cm : Int} (e : ∀ k, k = 6 ∨ k = 7 ∨ (9 ≤ k ∧ k ≤ 14) ∨ k = 19 ∨ k = 27 ∨ k = 28 ∨ k = 37 ∨ k = 38 ∨ (59 ≤ k ∧ k < 99) → r' k = r k) (hk : zkp r r') (hW : zW r) (h : zx r cm) : zx r' cm := by
  obtain ⟨x1, x2, x3, x4, x5, x6, x7, x8, x9⟩ := h
  have h11 := hW.b
  have hc11 := ncl h11.1
  refine ⟨fun ha => ?_, by rw [e 12 (by omega)]; exact x2, by rw [e 13 (by omega)]; exact x3, by rw [e 14 (by omega)]; exact x4, by rw [e 37 (by omega)]; exact x5, by rw [e 38 (by omega)]; exact x6, fun h6 => ?_, fun k hk2 => ?_, x9.c hk hW⟩
  · have ha' : zact r := ⟨by rw [← e 6 (by omega)]; exact ha.1, by rw [← e 7 (by omega)]; exact ha.2⟩
    have hz : zo r' = zo r := by unfold zo; rw [e 6 (by omega)]
    have hzl := zo_le (hW.h6 ha'.1)
    have hL : zLn r' = zLn r := by
      unfold zLn
      rw [hz, e (27 + zo r) (by omega)]
    rw [hL, hk.path (zLn_lt hW ha'.1) (hW.len _ (zLn_lt hW ha'.1)).2, e 9 (by omega)]
    exact x1 ha'
  · rw [e 6 (by omega)] at h6
    rw [e 7 (by omega), e 9 (by omega), e 10 (by omega), e 11 (by omega), e 19 (by omega)]
    exact x7 h6
  · rw [e 11 (by omega)] at hk2
    rw [e (59 + k) (by omega)]
    exact x8 k hk2
theorem J_signal {r r' : Nat → Int32} {N : Nat} {c : Int} (h : zJ r N c) (hc : c = 0 ∨ c = 1) (hN : N ≤ 512) (h6 : r 6 = 0 ∨ r 6 = 1) (hW' : zW r') (s : zSg r r') : zJ r' N c ∧ r' 5 = r 5 ∧ zkp r r' ∧ ∀ m, zdue m r → zdue m r' := by
  have hn := h.n hc hN
  obtain ⟨hW, hx, hT, hB⟩ := h
  have e5 : r' 5 = r 5 := s.1 5 (by omega)
  have e1 : r' 1 = r 1 := s.1 1 (by omega)
  have h0 : 0 ≤ (r 5).toInt - 1 + c := by have := hx.2.1; omega
  rcases zSg_e s with hz | hz
  · refine ⟨⟨hW', ?_, zT_0 hz.1, by rw [zBr_0 hz.1]; omega⟩, e5, zSg_kp s, fun m hm k hk hk2 => ?_⟩
    · rw [e5]; exact zSg_x s h6 hW hW' h0 hx
    · unfold nU at hk2
      rw [hz.1] at hk2
      exact absurd hk2 (Nat.not_lt_zero k)
  · refine ⟨⟨hW', ?_, ?_, by rw [hz.B (by omega)]; exact hB⟩, e5, zSg_kp s, fun m hm k hk hk2 => ?_⟩
    · rw [e5]; exact zSg_x s h6 hW hW' h0 hx
    · rw [e5, e1]; exact hz.T (by omega) hT
    · rw [hz.nn] at hk2
      rw [e5, (hz.el (by omega)).1]
      exact hm k hk hk2
theorem J_step {r : Nat → Int32} {N : Nat} {c : Int} (h : zJ r N c) (hc : c = 0 ∨ c = 1) (hN : N ≤ 512) (hd : ¬ r 19 ≤ 0 ∧ r 2963 = r 5) : ∃ c' : Int, (c' = 0 ∨ c' = 1) ∧ zJ (rEntry (rPop r) (r 2964) (r 2965)) N c' ∧ rEntry (rPop r) (r 2964) (r 2965) 5 = r 5 ∧ zkp r (rEntry (rPop r) (r 2964) (r 2965)) ∧ ∀ m, zdue (m + 1) r → zdue m (rEntry (rPop r) (r 2964) (r 2965)) := by
  have hnU := h.n hc hN
  obtain ⟨hW, hx, hT, hB⟩ := h
  have z0 : (0 : Int32).toInt = 0 := rfl
  have h19 : 0 < (r 19).toInt := by
    have := hd.1
    rw [nle] at this
    omega
  have hcu := ncl hW.u.1
  obtain ⟨n, hn⟩ : ∃ n, nU r = n + 1 := ⟨nU r - 1, by unfold nU; omega⟩
  obtain ⟨hWp, e19, e6⟩ := zW_pop hW hd.1
  have h6n : ¬ r 6 = -1 := fun e => by
    have := (hx.2.2.2.2.2.2.1 e).2.2.2.2
    rw [this] at h19
    exact absurd h19 (by decide)
  have h6 := hW.h6 h6n
  have ho : ∀ k, k ≠ 19 → k < 2963 → rPop r k = r k := fun k h1 h2 => rPop_out r h1 h2
  have hkp := zkp_pop (r := r) (r' := r) (fun _ _ => rfl)
  have hPT := zT_pop hW hn hT
  have hPB := zBr_pop hW hn
  have hx0 : 0 ≤ (r 5).toInt - 1 + c := by have := hx.2.1; omega
  have hPx : zx (rPop r) ((r 5).toInt - 1 + c) := by
    obtain ⟨x1, x2, x3, x4, x5, x6, x7, x8, x9⟩ := hx
    have hb := hW.b
    have hcb := ncl hb.1
    refine ⟨fun ha => ?_, by rw [ho 12 (by decide) (by decide)]; exact x2, by rw [ho 13 (by decide) (by decide)]; exact x3, by rw [ho 14 (by decide) (by decide)]; exact x4, by rw [ho 37 (by decide) (by decide)]; exact x5, by rw [ho 38 (by decide) (by decide)]; exact x6, fun e => ?_, fun k hk => ?_, x9.c hkp hW⟩
    · have ha' : zact r := ⟨h6n, by rw [← ho 7 (by decide) (by decide)]; exact ha.2⟩
      have hz : zo (rPop r) = zo r := by unfold zo; rw [e6]
      have hzl := zo_le h6
      have hL : zLn (rPop r) = zLn r := by
        unfold zLn
        rw [hz, ho (27 + zo r) (by omega) (by omega)]
      rw [hL, hkp.path (zLn_lt hW h6n) (hW.len _ (zLn_lt hW h6n)).2, ho 9 (by decide) (by decide)]
      exact x1 ha'
    · rw [e6] at e
      exact absurd e h6n
    · rw [ho 11 (by decide) (by decide)] at hk
      rw [ho (59 + k) (by omega) (by omega)]
      exact x8 k hk
  have hPd : ∀ m, zdue (m + 1) r → zdue m (rPop r) := fun m hm k hk hk2 => by
    rw [(rPop_n hW hn).1] at hk2
    rw [ho 5 (by decide) (by decide), (rPop_at hW hn hk2).1]
    exact hm (k + 1) (by omega) (by omega)
  have hPn : nU (rPop r) = n := (rPop_n hW hn).1
  have h6p : rPop r 6 = 0 ∨ rPop r 6 = 1 := by rw [e6]; exact h6
  have e5p : rPop r 5 = r 5 := ho 5 (by decide) (by decide)
  have e1p : rPop r 1 = r 1 := ho 1 (by decide) (by decide)
  have hu600 := hW.u
  have hT2 := hT
  obtain ⟨a1, a2, a3, a4, a5, a6, a7⟩ := hT2
  have hw0 : wE r 0 = r 2964 := rfl
  have ha0 : aE r 0 = (r 5).toInt := by
    show (r 2963).toInt = _
    rw [hd.2]
  have hkind := a3 0 (by omega)
  rw [hw0] at hkind hPT
  have hzW := zW_entry hWp (by omega) h6p (r 2964) (r 2965)
  have hsig : ¬ r 2964 = 0 → ∃ c' : Int, (c' = 0 ∨ c' = 1) ∧ zJ (rEntry (rPop r) (r 2964) (r 2965)) N c' ∧ rEntry (rPop r) (r 2964) (r 2965) 5 = r 5 ∧ zkp r (rEntry (rPop r) (r 2964) (r 2965)) ∧ ∀ m, zdue (m + 1) r → zdue m (rEntry (rPop r) (r 2964) (r 2965)) := by
    intro hne
    rw [if_neg hne] at hPT
    have hJp : zJ (rPop r) N c := ⟨hWp, by rw [e5p]; exact hPx, by rw [e5p, e1p]; exact hPT, by omega⟩
    have fin : ∀ r', zW r' → zSg (rPop r) r' → ∃ c' : Int, (c' = 0 ∨ c' = 1) ∧ zJ r' N c' ∧ r' 5 = r 5 ∧ zkp r r' ∧ ∀ m, zdue (m + 1) r → zdue m r' := fun r' hw s => by
      obtain ⟨b1, b2, b3, b4⟩ := J_signal hJp hc hN h6p hw s
      exact ⟨c, hc, b1, b2.trans e5p, hkp.tr b3, fun m hm => b4 m (hPd m hm)⟩
    have finI : ∃ c' : Int, (c' = 0 ∨ c' = 1) ∧ zJ (rPop r) N c' ∧ rPop r 5 = r 5 ∧ zkp r (rPop r) ∧ ∀ m, zdue (m + 1) r → zdue m (rPop r) := ⟨c, hc, hJp, e5p, hkp, hPd⟩
    unfold rEntry at hzW ⊢
    rw [if_neg hne] at hzW ⊢
    by_cases h1 : r 2964 = 1
    · rw [if_pos h1] at hzW ⊢
      by_cases h7 : rPop r 7 = 0
      · have : rAnswers (rPop r) true = rPop r := by unfold rAnswers; rw [if_pos h7]
        rw [this]; exact finI
      · have : rAnswers (rPop r) true = rLineDone (rPop r) := by unfold rAnswers; rw [if_neg h7, if_pos rfl]
        rw [this] at hzW ⊢; exact fin _ hzW (sg_lineDone h6p hWp.e)
    · rw [if_neg h1] at hzW ⊢
      by_cases h2 : r 2964 = 2
      · rw [if_pos h2] at hzW ⊢
        by_cases h7 : rPop r 7 = 0
        · have : rAnswers (rPop r) false = rPop r := by unfold rAnswers; rw [if_pos h7]
          rw [this]; exact finI
        · have : rAnswers (rPop r) false = rLineFailed (rPop r) := by unfold rAnswers; rw [if_neg h7, if_neg (by decide)]
          rw [this] at hzW ⊢; exact fin _ hzW (sg_lineFailed h6p hWp.e)
      · rw [if_neg h2] at hzW ⊢
        exact fin _ hzW (sg_breaks hWp.e)
  by_cases h0 : r 2964 = 0
  · rw [if_pos h0] at hPT
    have hc0 : c = 0 := by
      have := (a4 0 (by omega) (hw0.trans h0)).1
      rw [ha0] at this
      omega
    subst hc0
    obtain ⟨q, hq, eq, _⟩ := zW.ho h6p
    have hdd := hW.d
    have hTT := hW.T
    have hres := zx_prints (r := rPop r) (q := q) (by omega) hWp (by omega) hx0 (by omega) hPx (by rw [e6]; exact h6n) (r 2965) (lo := (r 5).toInt) (pc := (r 5).toInt + 0 + 1) (hp := (r 5).toInt + (r 1).toInt - 1) (ha := (r 5).toInt + (r 1).toInt - 1 + 0) hPT (by rw [e5p, e1p]; omega) (by rw [e5p, e1p]; omega)
    have eE : rEntry (rPop r) (r 2964) (r 2965) = rPrints (rPop r) q (r 2965) := by
      unfold rEntry zq
      rw [if_pos h0, ← eq]
    rw [eE] at hzW ⊢
    obtain ⟨y1, y2, y3, y4, y5, y6⟩ := hres
    rw [e5p] at y4
    rw [e1p] at y5
    have hkp2 := zkp_prints (r := r) hkp (q := q) hq hWp (r 2965)
    refine ⟨1, Or.inr rfl, ⟨hzW, ?_, ?_, by rw [y3]; omega⟩, y4, hkp2, fun m hm k hk hk2 => ?_⟩
    · rw [y4]
      exact zx_mono y1 (by omega)
    · rw [y4, y5]
      have e1 : (r 5).toInt + 0 + 1 = (r 5).toInt + 1 := by omega
      have e2 : (r 5).toInt + (r 1).toInt - 1 + 0 + 1 = (r 5).toInt + (r 1).toInt - 1 + 1 := by omega
      rw [e1, e2] at y2
      exact y2
    · rw [y4]
      rcases y6 k hk2 with ⟨b1, b2⟩ | b2
      · rw [b2]
        have := hPd m hm k hk b1
        rw [e5p] at this
        exact this
      · rw [b2, e5p, e1p]
        omega
  · exact hsig h0
theorem J_arr {N : Nat} (hN : N ≤ 512) : ∀ (j : Nat) (r : Nat → Int32) (far : Int32) (c : Int), (c = 0 ∨ c = 1) → zJ r N c → ∃ c' : Int, (c' = 0 ∨ c' = 1) ∧ zJ (rArr j (r, far)).1 N c' ∧ (rArr j (r, far)).1 5 = r 5 ∧ zkp r (rArr j (r, far)).1 ∧ (zdue j r → ¬ rDue (rArr j (r, far)).1)
  | 0, r, far, c, hc, h => ⟨c, hc, h, rfl, fun _ _ => rfl, fun hd hu => by
    have hcu := ncl h.1.u.1
    have z0 : (0 : Int32).toInt = 0 := rfl
    have h19 : 0 < (r 19).toInt := by
      have : ¬ r 19 ≤ 0 := hu.1
      rw [nle] at this
      omega
    have h1 := hd 0 (Nat.le_refl _) (by unfold nU; omega)
    have h2 : aE r 0 = (r 5).toInt := by
      show (r 2963).toInt = _
      rw [show r 2963 = r 5 from hu.2]
    omega⟩
  | j + 1, r, far, c, hc, h => by
    by_cases hd : ¬ r 19 ≤ 0 ∧ r 2963 = r 5
    · have step : rArr (j + 1) (r, far) = rArr j (rStep (r, far)) := by rw [rArr, if_pos hd]
      obtain ⟨c1, hc1, h1, h2, h3, h4⟩ := J_step h hc hN hd
      obtain ⟨c2, hc2, k1, k2, k3, k4⟩ := J_arr hN j (rStep (r, far)).1 (rStep (r, far)).2 c1 hc1 h1
      rw [step]
      exact ⟨c2, hc2, k1, k2.trans h2, h3.tr k3, fun hm => k4 (h4 j hm)⟩
    · have step : rArr (j + 1) (r, far) = (r, far) := by rw [rArr, if_neg hd]
      rw [step]
      exact ⟨c, hc, h, rfl, fun _ _ => rfl, fun _ hu => hd hu⟩
theorem rTick0_out (r : Nat → Int32) {k : Nat} (h : k ≠ 5 ∧ k ≠ 21 ∧ k ≠ 22) : rTick0 r k = r k := by
  unfold rTick0 rTurn1
  rw [zu_ne (by omega), zu_ne (by omega), zu_ne h.1]
theorem rTick0_5 (r : Nat → Int32) : rTick0 r 5 = r 5 + 1 := by
  unfold rTick0 rTurn1
  rw [zu_ne (by decide), zu_ne (by decide), zu_self]
theorem J_tick0 {r : Nat → Int32} {N : Nat} (h : zEv r N) (hN : N ≤ 512) (hT5 : (r 5).toInt ≤ 109999) : zJ (rTick0 r) N 0 := by
  have hn := h.n hN
  obtain ⟨hW, hx, hT, hB⟩ := h
  have hT0 := hW.T
  have e5 : (rTick0 r 5).toInt = (r 5).toInt + 1 := by rw [rTick0_5]; exact ixs (k := 1) rfl (by decide) (by omega) (by omega)
  have e1 : rTick0 r 1 = r 1 := rTick0_out r (by omega)
  have e14 : rTick0 r 14 = r 14 := rTick0_out r (by omega)
  have hnu : nU (rTick0 r) = nU r := by unfold nU; rw [rTick0_out r (by omega)]
  have hat : ∀ k, aE (rTick0 r) k = aE r k ∧ wE (rTick0 r) k = wE r k := fun k => by
    unfold aE wE
    rw [rTick0_out r (by omega), rTick0_out r (by omega)]
    exact ⟨rfl, rfl⟩
  refine ⟨zW_tick0 hW hT5, ?_, ?_, ?_⟩
  · rw [e5]
    exact zx_mono (zx_c (fun k hk => rTick0_out r (by omega)) zkp_tick0 hW hx) (by omega)
  · rw [e5, e1]
    unfold zTr at hT ⊢
    rw [e14, e5, e1]
    have h1 := zTv_cong hT hnu (fun k hk => (hat k).1) (fun k hk => (hat k).2) rfl id
    exact zTv_mono h1 (by omega) (by omega) (by omega) (by omega) (by omega)
  · have : zBr (rTick0 r) = zBr r := by
      unfold zBr
      rw [hnu]
      exact zcnt_cong _ (fun k hk => by rw [(hat k).2])
    omega
theorem K_arr {r : Nat → Int32} {N : Nat} {c : Int} (h : zJ r N c) (hc : c = 0 ∨ c = 1) (hd : ¬ rDue r) : zKk r N := by
  obtain ⟨hW, hx, hT, hB⟩ := h
  refine ⟨hW, zx_mono hx (by omega), ?_, hB⟩
  have hcu := ncl hW.u.1
  have z0 : (0 : Int32).toInt = 0 := rfl
  have hh : 0 < nU r → (r 5).toInt < aE r 0 := fun hn => by
    have h1 := (hT.1 0 hn).1
    have h2 : aE r 0 = (r 2963).toInt := rfl
    have h3 : ¬ (r 2963).toInt = (r 5).toInt := fun e => hd ⟨by rw [nle]; unfold nU at hn; omega, by rw [neq]; exact e⟩
    omega
  unfold zTr at hT ⊢
  have h1 := zTv_lo hT hh
  obtain ⟨a1, a2, a3, a4, a5, a6, a7⟩ := h1
  exact ⟨a1, a2, a3, fun k hk e => ⟨(a1 k hk).1, (a4 k hk e).2⟩, a5, fun k hk e => ⟨by have := (a6 k hk e).1; omega, fun x => by have := (a6 k hk e).2 x; omega⟩, a7⟩
theorem rSnd_out (r : Nat → Int32) (p : Int32) {k : Nat} (h : k ≠ 17 ∧ k ≠ 19 ∧ k < 2963) : rSnd r p k = r k := by
  unfold rSnd
  split
  · exact zu_ne h.1
  · exact rSends_out r h.2.1 h.2.2
theorem E_looks {r : Nat → Int32} {N : Nat} (h : zKk r N) (hN : N ≤ 512) : zEv (rLooks r) N ∧ rLooks r 5 = r 5 := by
  have hn := h.n hN
  obtain ⟨hW, hx, hT, hB⟩ := h
  have h19 := nU_19 hW hn
  have hWL := zW_looks hW (by omega)
  have hkL := zkp_looks (r := r) (r' := r) (fun _ _ => rfl)
  have same : zEv r N := ⟨hW, hx, zTv_mono hT (Int.le_refl _) (Int.le_refl _) (Int.le_refl _) (by omega) (Int.le_refl _), hB⟩
  unfold rLooks at hWL hkL ⊢
  split
  · exact ⟨same, rfl⟩
  · rename_i hact
    rw [if_neg hact] at hWL hkL
    split
    · exact ⟨same, rfl⟩
    · rename_i hfar
      rw [if_neg hfar] at hWL hkL
      have ha : zact r := ⟨fun e => hact (Or.inl e), fun e => hact (Or.inr e)⟩
      have h9 := hx.1 ha
      have hd := hW.d
      have hT5 := hW.T
      have hPL := zLn_len hW ha.1
      have hcu := ncl hW.u.1
      have e51 : (r 5 + r 1).toInt = (r 5).toInt + (r 1).toInt := nadd (by omega) (by omega)
      have hc1 : ∀ k, k ≠ 16 → rCnt r k = r k := fun k hk => zu_ne hk
      have hs : ∀ k, k ≠ 16 ∧ k ≠ 17 ∧ k ≠ 19 ∧ k < 2963 → rSnd (rCnt r) (rPosn r) k = r k := fun k hk => (rSnd_out _ _ ⟨hk.2.1, hk.2.2.1, hk.2.2.2⟩).trans (hc1 k hk.1)
      have e91 : (r 9 + 1).toInt = (r 9).toInt + 1 := ixs (k := 1) rfl (by decide) (by omega) (by omega)
      have hR : ∀ k, ¬ ((7 ≤ k ∧ k ≤ 9) ∨ k = 16 ∨ k = 17 ∨ k = 19 ∨ 2963 ≤ k) → rNext (rSnd (rCnt r) (rPosn r)) (rPath r (zLn r)).length k = r k := fun k hk => by
        unfold rNext rEndL
        split
        · rw [zu_ne (by omega), zu_ne (by omega), zu_ne (by omega)]; exact hs k (by omega)
        · rw [zu_ne (by omega)]; exact hs k (by omega)
      have hR9 : rNext (rSnd (rCnt r) (rPosn r)) (rPath r (zLn r)).length 9 = r 9 + 1 := by
        unfold rNext rEndL
        split
        · rw [zu_ne (by decide), zu_ne (by decide), zu_self, hs 9 (by omega)]
        · rw [zu_self, hs 9 (by omega)]
      have hR7 : r 9 + 1 = nI (rPath r (zLn r)).length → rNext (rSnd (rCnt r) (rPosn r)) (rPath r (zLn r)).length 7 = 1 := fun e => by
        unfold rNext rEndL
        rw [if_pos (by rw [zu_self, hs 9 (by omega)]; exact e), zu_ne (by decide), zu_self]
      have hRt : ∀ k, 19 = k ∨ 2963 ≤ k → rNext (rSnd (rCnt r) (rPosn r)) (rPath r (zLn r)).length k = rSnd (rCnt r) (rPosn r) k := fun k hk => by
        unfold rNext rEndL
        split
        · rw [zu_ne (by omega), zu_ne (by omega), zu_ne (by omega)]
        · rw [zu_ne (by omega)]
      generalize hRe : rNext (rSnd (rCnt r) (rPosn r)) (rPath r (zLn r)).length = R at hWL hkL hR hR9 hR7 hRt ⊢
      have e5 : R 5 = r 5 := hR 5 (by omega)
      have e1 : R 1 = r 1 := hR 1 (by omega)
      have e6 : R 6 = r 6 := hR 6 (by omega)
      have e14 : R 14 = r 14 := hR 14 (by omega)
      have hb := hW.b
      have hcb := ncl hb.1
      obtain ⟨x1, x2, x3, x4, x5, x6, x7, x8, x9⟩ := hx
      refine ⟨⟨hWL, ?_, ?_⟩, e5⟩
      · rw [e5]
        refine ⟨fun haR => ?_, by rw [hR 12 (by omega)]; exact x2, by rw [hR 13 (by omega)]; exact x3, by rw [e14]; exact x4, by rw [hR 37 (by omega)]; exact x5, by rw [hR 38 (by omega)]; exact x6, fun e => ?_, fun k hk => ?_, x9.c hkL hW⟩
        · have hz : zo R = zo r := by unfold zo; rw [e6]
          have hzl := zo_le (hW.h6 ha.1)
          have hL : zLn R = zLn r := by
            unfold zLn
            rw [hz, hR (27 + zo r) (by omega)]
          rw [hL, hkL.path (zLn_lt hW ha.1) (hW.len _ (zLn_lt hW ha.1)).2, hR9, e91]
          have : ¬ (r 9).toInt + 1 = (rPath r (zLn r)).length := fun e => haR.2 (hR7 (by rw [neq, nI_toInt (by omega), e91]; exact e))
          omega
        · rw [e6] at e
          exact absurd e ha.1
        · rw [hR 11 (by omega)] at hk
          rw [hR (59 + k) (by omega)]
          exact x8 k hk
      · rw [e5, e1]
        have eC : zTe r (rCnt r) := ⟨hc1 19 (by decide), fun j _ => hc1 _ (by omega), hc1 5 (by decide), hc1 1 (by decide), fun e => by rw [← hc1 14 (by decide)]; exact e⟩
        cases hl : rLost (rCnt r) (rCnt r 16)
        · have eS : rSnd (rCnt r) (rPosn r) = rSends (rCnt r) 0 (rPosn r) := by
            unfold rSnd
            rw [hl]
            rfl
          have c19 : rCnt r 19 = r 19 := hc1 19 (by decide)
          have hn1 : nU R = nU (rCnt r) + 1 := by
            unfold nU
            rw [hRt 19 (by omega), eS]
            exact rSends_n (by rw [c19]; exact hW.u.1) (by rw [c19]; omega) 0 (rPosn r)
          obtain ⟨t1, t2, t3⟩ := rSends_at (r := rCnt r) 0 (rPosn r)
          have hat : ∀ k, aE R k = aE (rSends (rCnt r) 0 (rPosn r)) k ∧ wE R k = wE (rSends (rCnt r) 0 (rPosn r)) k := fun k => by
            unfold aE wE
            rw [hRt _ (by omega), hRt _ (by omega), eS]
            exact ⟨rfl, rfl⟩
          have hTc := eC.T (by omega) hT
          constructor
          · unfold zTr at hTc ⊢
            rw [hn1, e5, e1, e14]
            rw [hc1 5 (by decide), hc1 1 (by decide), hc1 14 (by decide)] at hTc
            refine zTv_push hTc (fun k hk => (hat k).1.trans (t1 k hk).1) (fun k hk => (hat k).2.trans (t1 k hk).2) ?_ (by omega) (by omega) (Int.le_refl _) id (Or.inl ⟨?_, by omega, by omega, Int.le_refl _⟩)
            · rw [(hat _).1, t2, hc1 5 (by decide), hc1 1 (by decide)]; exact e51
            · rw [(hat _).2, t3]
          · have hb1 := zBr_sends (r := rCnt r) (by rw [c19]; exact hW.u.1) (by rw [c19]; omega) 0 (rPosn r)
            rw [if_neg (by decide), eC.B (by omega)] at hb1
            have : zBr R = zBr (rSends (rCnt r) 0 (rPosn r)) := by
              unfold zBr
              rw [hn1, rSends_n (by rw [c19]; exact hW.u.1) (by rw [c19]; omega) 0 (rPosn r)]
              exact zcnt_cong _ (fun k hk => by rw [(hat k).2])
            omega
        · have eS : rSnd (rCnt r) (rPosn r) = zu (rCnt r) 17 (rCnt r 17 + 1) := by
            unfold rSnd
            rw [hl]
            rfl
          have eR : zTe r R := ⟨by rw [hRt 19 (by omega), eS, zu_ne (by decide)]; exact hc1 19 (by decide), fun j _ => by rw [hRt _ (by omega), eS, zu_ne (by omega)]; exact hc1 _ (by omega), e5, e1, fun e => by rw [← e14]; exact e⟩
          constructor
          · have := eR.T (by omega) hT
            exact zTv_mono this (Int.le_refl _) (Int.le_refl _) (Int.le_refl _) (by omega) (Int.le_refl _)
          · rw [eR.B (by omega)]; exact hB
theorem E_signal {r r' : Nat → Int32} {N : Nat} (h : zEv r N) (hN : N ≤ 512) (h6 : r 6 = 0 ∨ r 6 = 1) (hW' : zW r') (s : zSg r r') : zEv r' N ∧ r' 5 = r 5 := by
  have hn := h.n hN
  obtain ⟨hW, hx, hT, hB⟩ := h
  have e5 : r' 5 = r 5 := s.1 5 (by omega)
  have e1 : r' 1 = r 1 := s.1 1 (by omega)
  have h0 : 0 ≤ (r 5).toInt := by have := hx.2.1; omega
  rcases zSg_e s with hz | hz
  · exact ⟨⟨hW', by rw [e5]; exact zSg_x s h6 hW hW' h0 hx, zT_0 hz.1, by rw [zBr_0 hz.1]; omega⟩, e5⟩
  · exact ⟨⟨hW', by rw [e5]; exact zSg_x s h6 hW hW' h0 hx, by rw [e5, e1]; exact hz.T (by omega) hT, by rw [hz.B (by omega)]; exact hB⟩, e5⟩
theorem E_T1 {r : Nat → Int32} {N : Nat} (h : zEv r N) (hN : N ≤ 512) : zEv (rT1 r) N ∧ rT1 r 5 = r 5 := by
  unfold rT1
  split
  · exact ⟨h, rfl⟩
  · rename_i h6
    split
    · split
      · exact ⟨h, rfl⟩
      · have h6' := h.1.h6 h6
        exact E_signal h hN h6' (zW_lineFailed h.1 h6') (sg_lineFailed h6' h.1.e)
    · exact ⟨h, rfl⟩
theorem E_clears {r : Nat → Int32} {N : Nat} (h : zEv r N) (hN : N ≤ 512) : zEv (rClears r) N := by
  have hn := h.n hN
  obtain ⟨hW, hx, hT, hB⟩ := h
  have hk : zkp r (rClears r) := zkp_clears (fun _ _ => rfl)
  have e5 : rClears r 5 = r 5 := rClears_out r (by omega)
  have e1 : rClears r 1 = r 1 := rClears_out r (by omega)
  have h0 : 0 ≤ (r 5).toInt := by have := hx.2.1; omega
  have hz : ∀ k, 11 ≤ k ∧ k ≤ 14 → rClears r k = 0 := fun k hk => by
    rcases (show k = 11 ∨ k = 12 ∨ k = 13 ∨ k = 14 by omega) with rfl | rfl | rfl | rfl <;> simp only [rClears, zu_ap, Nat.reduceEqDiff, if_true, if_false]
  have z0 : (0 : Int32).toInt = 0 := rfl
  have ze : zTe r (rClears r) := ⟨rClears_out r (by omega), fun j _ => rClears_out r (by omega), e5, e1, fun e => by rw [hz 14 (by omega)] at e; exact absurd e (by decide)⟩
  refine ⟨zW_clears hW, ?_, by rw [e5, e1]; exact ze.T (by omega) hT, by rw [ze.B (by omega)]; exact hB⟩
  obtain ⟨x1, x2, x3, x4, x5, x6, x7, x8, x9⟩ := hx
  rw [e5]
  refine ⟨fun ha => ?_, by rw [hz 12 (by omega), z0]; omega, Or.inl (hz 13 (by omega)), Or.inl (hz 14 (by omega)), by rw [rClears_out r (by omega)]; exact x5, by rw [rClears_out r (by omega)]; exact x6, fun e => ?_, fun k hk2 => ?_, x9.c hk hW⟩
  · have e6 : rClears r 6 = r 6 := rClears_out r (by omega)
    have e7 : rClears r 7 = r 7 := rClears_out r (by omega)
    have ha' : zact r := ⟨by rw [← e6]; exact ha.1, by rw [← e7]; exact ha.2⟩
    have hzo : zo (rClears r) = zo r := by unfold zo; rw [e6]
    have hL : zLn (rClears r) = zLn r := by
      unfold zLn
      rw [hzo, rClears_out r (by omega)]
    rw [hL, hk.path (zLn_lt hW ha'.1) (hW.len _ (zLn_lt hW ha'.1)).2, rClears_out r (by omega)]
    exact x1 ha'
  · rw [rClears_out r (by omega)] at e
    rw [rClears_out r (by omega), rClears_out r (by omega), rClears_out r (by omega), hz 11 (by omega), rClears_out r (by omega)]
    have := x7 e
    exact ⟨this.1, this.2.1, this.2.2.1, rfl, this.2.2.2.2⟩
  · rw [hz 11 (by omega)] at hk2
    exact absurd hk2 (Nat.not_lt_zero k)
theorem E_T2 {r : Nat → Int32} {N : Nat} (h : zEv r N) (hN : N ≤ 512) : zEv (rT2 r) N ∧ rT2 r 5 = r 5 := by
  unfold rT2
  split
  · exact ⟨h, rfl⟩
  · split
    · exact ⟨h, rfl⟩
    · exact ⟨E_clears h hN, rClears_out r (by omega)⟩
/-- all that a tick asks and gives -/
theorem E_tick {r : Nat → Int32} {N : Nat} (h : zEv r N) (hN : N ≤ 512) (hT : (r 5).toInt ≤ 109999) (far : Int32) :
    (∀ j, j ≤ 601 → zW (rArr j (rTick0 r, far)).1 ∧ zUS (rArr j (rTick0 r, far)).1) ∧ ¬ rDue (rArrd (r, far)).1 ∧ zKk (rArrd (r, far)).1 N ∧ ((rArrd (r, far)).1 19).toInt ≤ 599 ∧ (zact (rArrd (r, far)).1 → 0 ≤ ((rArrd (r, far)).1 9).toInt ∧ ((rArrd (r, far)).1 9).toInt < (rPath (rArrd (r, far)).1 (zLn (rArrd (r, far)).1)).length) ∧
    zEv (rTick (r, far)).1 N ∧ zkp r (rTick (r, far)).1 ∧ (rTick (r, far)).1 5 = r 5 + 1 := by
  have h0 := J_tick0 h hN hT
  have hall := fun j => J_arr hN j (rTick0 r) far 0 (Or.inl rfl) h0
  obtain ⟨c, hc, k1, k2, k3, k4⟩ := hall 601
  have hn0 := h0.n (Or.inl rfl) hN
  have hnd : ¬ rDue (rArr 601 (rTick0 r, far)).1 := k4 (fun k hk hk2 => by omega)
  have hK := K_arr k1 hc hnd
  have hnK := hK.n hN
  have h19 := nU_19 hK.1 hnK
  obtain ⟨e1, e2⟩ := E_looks hK hN
  obtain ⟨e3, e4⟩ := E_T1 e1 hN
  obtain ⟨e5, e6⟩ := E_T2 e3 hN
  have hk2 : zkp r (rT2 (rT1 (rLooks (rArrd (r, far)).1))) := zkp_T2 (zkp_T1 (zkp_looks (zkp_tick0.tr k3)) e1.1)
  refine ⟨fun j hj => ?_, hnd, hK, ?_, hK.2.1.1, e5, hk2, ?_⟩
  · obtain ⟨c', hc', j1, -⟩ := hall j
    refine ⟨j1.1, ?_⟩
    by_cases h6 : (rArr j (rTick0 r, far)).1 6 = -1
    · exact Or.inr (Or.inr (j1.2.1.2.2.2.2.2.2.1 h6).2.2.2.2)
    · exact (j1.1.h6 h6).elim Or.inl (fun x => Or.inr (Or.inl x))
  · show ((rArr 601 (rTick0 r, far)).1 19).toInt ≤ 599
    omega
  · show rT2 (rT1 (rLooks (rArrd (r, far)).1)) 5 = r 5 + 1
    exact e6.trans (e4.trans (e2.trans (k2.trans (rTick0_5 r))))
theorem M_tick {ln : Nat → Nat} {σ : zS} {r pf : Nat → Int32} {n far : Int32} {N : Nat} (g1 : gr σ 455 1 = some 456) (l1 : ln 456 = 4763) (g6 : gr σ 455 6 = some 460) (l6 : ln 460 = 64) (h : zEv r N) (hN : N ≤ 512) (hT : (r 5).toInt ≤ 109999) {Q : zS → Prop} (hq : ∀ pf' n', Q (zms σ (rTick (r, far)).1 pf' n' (rTick (r, far)).2)) : wX12_ticks ln (zms σ r pf n far) 455 Q := by
  obtain ⟨k1, k2, k3, k4, k5, k6, k7, k8⟩ := E_tick h hN hT far
  exact m_ticks g1 l1 g6 l6 h.1 hT k1 k2 k4 k5 hq
