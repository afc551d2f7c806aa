/-! TWO ROWS that tick alike: whole ticks -/
section ZALIKE2
variable {t r r' : Nat → Int32}
theorem zRq_entry (h : zRq t r r') (hW : zW r) (h6 : r 6 = 0 ∨ r 6 = 1) (w v far : Int32) : ∃ t', zRq t' (rEntry r w v) (rEntry r' w v) ∧ zTk t t' far (fEntry r far w) 1 := by
  have hz : zq r = 0 ∨ zq r = 1 := by
    unfold zq
    rcases h6 with e | e
    · rw [e]; exact Or.inr rfl
    · rw [e]; exact Or.inl rfl
  have ez : zq r' = zq r := by
    unfold zq
    rw [h.k 6 (by omega)]
  unfold rEntry fEntry
  rw [ez]
  by_cases w0 : w = 0
  · rw [if_pos w0, if_pos w0, if_pos w0]
    exact ⟨_, zRq_prints h hW hz v, zTk_print t hz far _ _ _⟩
  · rw [if_neg w0, if_neg w0, if_neg w0]
    refine ⟨t, ?_, zTk.rf⟩
    by_cases w1 : w = 1
    · rw [if_pos w1, if_pos w1]; exact zRq_answers h hW true
    · rw [if_neg w1, if_neg w1]
      by_cases w2 : w = 2
      · rw [if_pos w2, if_pos w2]; exact zRq_answers h hW false
      · rw [if_neg w2, if_neg w2]; exact zRq_breaks h hW
theorem zRq_kp (h : zRq t r r') : zkp r r' := fun k hk => h.k k (by omega)
theorem zRq_path (h : zRq t r r') (hW : zW r) {a : Nat} (ha : a < 24) : rPath r' a = rPath r a := (zRq_kp h).path ha (hW.len _ ha).2
theorem zRq_lost (h : zRq t r r') (hW : zW r) (num : Int32) : rLost r' num = rLost r num := by
  have hl := hW.l
  have cl := ncl hl.1
  unfold rLost
  rw [h.k 20 (by omega), Bool.eq_iff_iff]
  simp only [List.any_eq_true, List.mem_range]
  exact ⟨fun ⟨k, hk, e⟩ => ⟨k, hk, by rw [h.k (39 + k) (by omega)] at e; exact e⟩, fun ⟨k, hk, e⟩ => ⟨k, hk, by rw [h.k (39 + k) (by omega)]; exact e⟩⟩
theorem zRq_snd (h : zRq t r r') (hW : zW r) (p : Int32) : zRq t (rSnd r p) (rSnd r' p) := by
  unfold rSnd
  rw [h.k 16 (by omega), zRq_lost h hW]
  by_cases e : rLost r (r 16) = true
  · rw [if_pos e, if_pos e, h.k 17 (by omega)]; exact zRq_zu h (by omega) _
  · rw [if_neg e, if_neg e]; exact zRq_sends h _ _
theorem zRq_endL (h : zRq t r r') (L : Nat) : zRq t (rEndL r L) (rEndL r' L) := by
  unfold rEndL
  rw [h.k 9 (by omega), h.k 5 (by omega), h.k 1 (by omega), h.k 3 (by omega)]
  by_cases e : r 9 = nI L
  · rw [if_pos e, if_pos e]; exact zRq_zu (zRq_zu h (by omega) _) (by omega) _
  · rw [if_neg e, if_neg e]; exact h
theorem zRq_looks (h : zRq t r r') (hW : zW r) : zRq t (rLooks r) (rLooks r') := by
  unfold rLooks
  rw [h.k 6 (by omega), h.k 7 (by omega)]
  by_cases hc : r 6 = -1 ∨ r 7 = 1
  · rw [if_pos hc, if_pos hc]; exact h
  · rw [if_neg hc, if_neg hc]
    have h6 : ¬ r 6 = -1 := fun e => hc (Or.inl e)
    have hz := zo_W hW
    have eL : zLn r' = zLn r := by unfold zLn; rw [zRq_o h, h.k (27 + zo r) (by omega)]
    have eP : rPath r' (zLn r) = rPath r (zLn r) := zRq_path h hW (zLn_lt hW h6)
    have ep : rPosn r' = rPosn r := by unfold rPosn; rw [eL, eP, h.k 9 (by omega)]
    have ef : rFar r' = rFar r := by unfold rFar; rw [zRq_o h, h.k (21 + zo r) (by omega), ep, h.k 0 (by omega)]
    rw [zRq_o h, h.k (23 + zo r) (by omega), ef, ep, eL, eP]
    by_cases e : r (23 + zo r) ≤ rFar r
    · rw [if_pos e, if_pos e]; exact h
    · rw [if_neg e, if_neg e]
      have h1 : zRq t (rCnt r) (rCnt r') := by
        unfold rCnt
        rw [h.k 16 (by omega)]
        exact zRq_zu h (by omega) _
      have h2 := zRq_snd h1 (zW_out hW (nk (by omega)) _) (rPosn r)
      unfold rNext
      rw [h2.k 9 (by omega)]
      exact zRq_endL (zRq_zu h2 (by omega) _) _
theorem zRq_T1 (h : zRq t r r') (hW : zW r) : zRq t (rT1 r) (rT1 r') := by
  unfold rT1
  rw [h.k 6 (by omega), h.k 7 (by omega), h.k 5 (by omega), h.k 8 (by omega)]
  by_cases e : r 6 = -1
  · rw [if_pos e, if_pos e]; exact h
  · rw [if_neg e, if_neg e]
    by_cases e2 : r 7 = 1
    · rw [if_pos e2, if_pos e2]
      by_cases e3 : r 5 < r 8
      · rw [if_pos e3, if_pos e3]; exact h
      · rw [if_neg e3, if_neg e3]; exact zRq_lineFailed h hW
    · rw [if_neg e2, if_neg e2]; exact h
theorem zRq_T2 (h : zRq t r r') : zRq t (rT2 r) (rT2 r') := by
  unfold rT2
  rw [h.k 6 (by omega), h.k 5 (by omega), h.k 15 (by omega), h.k 3 (by omega)]
  by_cases e : r 6 = -1
  · rw [if_pos e, if_pos e]; exact h
  · rw [if_neg e, if_neg e]
    by_cases e2 : r 5 - r 15 < r 3
    · rw [if_pos e2, if_pos e2]; exact h
    · rw [if_neg e2, if_neg e2]; exact zRq_clears h
theorem zRq_turn1 (h : zRq t r r') {q : Nat} (hq : q ≤ 1) : zRq t (rTurn1 r q) (rTurn1 r' q) := by
  unfold rTurn1
  rw [h.k (21 + q) (by omega), h.k (23 + q) (by omega), h.k 0 (by omega)]
  exact zRq_zu h (by omega) _
theorem zRq_tick0 (h : zRq t r r') : zRq t (rTick0 r) (rTick0 r') := by
  unfold rTick0
  rw [h.k 5 (by omega)]
  exact zRq_turn1 (zRq_turn1 (zRq_zu h (by omega) _) (by omega)) (by omega)
end ZALIKE2
theorem zRq_arr {N : Nat} (hN : N ≤ 512) : ∀ (j : Nat) (r r' t : Nat → Int32) (far far2 : Int32) (c : Int), (c = 0 ∨ c = 1) → zJ r N c → zRq t r r' → ∃ t', zRq t' (rArr j (r, far)).1 (rArr j (r', far2)).1 ∧ zTk t t' far (rArr j (r, far)).2 j
  | 0, r, r', t, far, far2, c, hc, hJ, h => ⟨t, h, zTk.rf⟩
  | j + 1, r, r', t, far, far2, c, hc, hJ, h => by
    have e1 : rArr (j + 1) (r, far) = if ¬ r 19 ≤ 0 ∧ r 2963 = r 5 then rArr j (rStep (r, far)) else (r, far) := rfl
    have e2 : rArr (j + 1) (r', far2) = if ¬ r 19 ≤ 0 ∧ r 2963 = r 5 then rArr j (rStep (r', far2)) else (r', far2) := by
      rw [← h.k 19 (by omega), ← h.k 2963 (by omega), ← h.k 5 (by omega)]
      rfl
    rw [e1, e2]
    by_cases hd : ¬ r 19 ≤ 0 ∧ r 2963 = r 5
    · rw [if_pos hd, if_pos hd]
      obtain ⟨c', hc', hJ', _, _, _⟩ := J_step hJ hc hN hd
      obtain ⟨hWp, e19, e6⟩ := zW_pop hJ.1 hd.1
      have h6 : r 6 = 0 ∨ r 6 = 1 := hJ.1.h6 (fun e => by
        have := (hJ.2.1.2.2.2.2.2.2.1 e).2.2.2.2
        exact hd.1 (by rw [this]; decide))
      have e3 : rStep (r', far2) = (rEntry (rPop r') (r 2964) (r 2965), fEntry (rPop r') far2 (r 2964)) := by
        rw [← h.k 2964 (by omega), ← h.k 2965 (by omega)]
        rfl
      obtain ⟨t1, q1, k1⟩ := zRq_entry (zRq_pop h hJ.1) hWp (by rw [e6]; exact h6) (r 2964) (r 2965) far
      obtain ⟨t2, q2, k2⟩ := zRq_arr hN j (rEntry (rPop r) (r 2964) (r 2965)) (rEntry (rPop r') (r 2964) (r 2965)) t1 (fEntry (rPop r) far (r 2964)) (fEntry (rPop r') far2 (r 2964)) c' hc' hJ' q1
      rw [e3]
      exact ⟨t2, q2, (k1.tr k2).mono (by omega)⟩
    · rw [if_neg hd, if_neg hd]
      exact ⟨t, h, zTk.rf⟩
theorem zRq_T {N : Nat} (hN : N ≤ 512) {t r r' : Nat → Int32} (E : zEv r N) (hT : (r 5).toInt ≤ 109999) (h : zRq t r r') (far : Int32) : ∃ t', zRq t' (rT r) (rT r') ∧ zTk t t' far (rTick (r, far)).2 601 := by
  obtain ⟨_, _, hK, h19, _, _⟩ := E_tick E hN hT far
  obtain ⟨t1, q1, k1⟩ := zRq_arr hN 601 (rTick0 r) (rTick0 r') t far far 0 (Or.inl rfl) (J_tick0 E hN hT) (zRq_tick0 h)
  refine ⟨t1, ?_, k1⟩
  rw [← rTick_1 r far, ← rTick_1 r' far]
  show zRq t1 (rT2 (rT1 (rLooks (rArr 601 (rTick0 r, far)).1))) (rT2 (rT1 (rLooks (rArr 601 (rTick0 r', far)).1)))
  exact zRq_T2 (zRq_T1 (zRq_looks q1 hK.1) (zW_looks hK.1 h19))
theorem zRq_N {N : Nat} (hN : N ≤ 512) : ∀ (n : Nat) (r r' t : Nat → Int32) (far : Int32), zEv r N → (r 5).toInt + n ≤ 110000 → zRq t r r' → ∃ t', zRq t' (rN n r) (rN n r') ∧ zTk t t' far (fN n r far) (601 * n)
  | 0, r, r', t, far, E, hT, h => ⟨t, h, zTk.rf⟩
  | n + 1, r, r', t, far, E, hT, h => by
    obtain ⟨t1, q1, k1⟩ := zRq_T hN E (by omega) h far
    obtain ⟨n1, n2, n3⟩ := E_T E hN (by omega)
    obtain ⟨t2, q2, k2⟩ := zRq_N hN n (rT r) (rT r') t1 (rTick (r, far)).2 n1 (by omega) q1
    exact ⟨t2, q2, (k1.tr k2).mono (by omega)⟩
/-- rows that agree have the same misprints -/
theorem tM_cg {r x : Nat → Int32} {N : Nat} (hN : N ≤ 512) (E : zEv r N) {n : Nat} (hT : (r 5).toInt + n ≤ 110000) (c : zcg r x) : tM n x = tM n r := by
  have h : zRq x r x := ⟨fun k h _ _ => c k h, fun _ _ _ => rfl⟩
  obtain ⟨t', q, _⟩ := zRq_N hN n r x x 0 E hT h
  unfold tM
  rw [q.k 33 (by omega), q.k 34 (by omega), c 33 (by omega), c 34 (by omega)]
theorem tM_b {r : Nat → Int32} {N : Nat} (hN : N ≤ 512) (E : zEv r N) {n : Nat} (hT : (r 5).toInt + n ≤ 110000) : ∃ e : Nat, e ≤ 601 * n ∧ tM n r = nI e := by
  have h : zRq r r r := ⟨fun k h _ _ => rfl, fun _ _ _ => rfl⟩
  obtain ⟨t', q, _, e, he, hs⟩ := zRq_N hN n r r r 0 E hT h
  refine ⟨e, he, ?_⟩
  unfold tM
  rw [q.2 33 (by omega) (by omega), q.2 34 (by omega) (by omega), hs, Int32.add_comm (r 33 + r 34), Int32.add_sub_cancel]
/-- the farthest offset, as the model and as the class keep it -/
theorem fN_zmx {y : Nat → Int32} {N : Nat} (hN : N ≤ 512) (E : zEv y N) {n : Nat} (hT : (y 5).toInt + n ≤ 110000) : fN n y 0 = zmx (rN n (zu (zu y 35 0) 36 0)) := by
  have h : zRq (zu (zu y 35 0) 36 0) y (zu (zu y 35 0) 36 0) := ⟨fun k h h1 h2 => by rw [zu_ne h2, zu_ne h1], fun _ _ _ => rfl⟩
  obtain ⟨t', q, k, _⟩ := zRq_N hN n y _ _ 0 E hT h
  have e0 : (0 : Int32) = zmx (zu (zu y 35 0) 36 0) := by
    unfold zmx
    rw [zu_self, zu_ne (show 35 ≠ 36 by decide), zu_self]
    rfl
  have e := k e0
  unfold zmx at e ⊢
  rw [q.2 35 (by omega) (by omega), q.2 36 (by omega) (by omega)]
  exact e
