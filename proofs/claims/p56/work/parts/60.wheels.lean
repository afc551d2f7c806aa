/-! THE WHEELS: ticks while nothing is sent -/
theorem mI_nn {a n : Nat} (hn : 0 < n) (hn2 : n < 2147483648) : mI (a : Int) (n : Int) = nI (a % n) := by
  have h := Nat.mod_lt a hn
  rw [neq, mIt (by omega) (by omega), nI_toInt (by omega)]
  exact (Int.natCast_emod a n).symm
theorem rT_idle {r : Nat → Int32} (h6 : r 6 = -1) (h19 : r 19 = 0) : rT r = rTick0 r := by
  have e6 : rTick0 r 6 = -1 := by
    unfold rTick0 rTurn1
    rw [zu_ne (by decide), zu_ne (by decide), zu_ne (by decide)]
    exact h6
  have e19 : rTick0 r 19 = 0 := by
    unfold rTick0 rTurn1
    rw [zu_ne (by decide), zu_ne (by decide), zu_ne (by decide)]
    exact h19
  have ea : rArrd (r, 0) = (rTick0 r, 0) := by
    show rArr 601 (rTick0 r, 0) = _
    rw [rArr, if_neg]
    rintro ⟨h, -⟩
    have h : ¬ rTick0 r 19 ≤ 0 := h
    rw [e19] at h
    exact h (by decide)
  show rT2 (rT1 (rLooks (rArrd (r, 0)).1)) = _
  rw [ea]
  show rT2 (rT1 (rLooks (rTick0 r))) = _
  have e1 : rLooks (rTick0 r) = rTick0 r := by
    unfold rLooks
    rw [if_pos (Or.inl e6)]
  rw [e1]
  have e2 : rT1 (rTick0 r) = rTick0 r := by
    unfold rT1
    rw [if_pos e6]
  rw [e2]
  unfold rT2
  rw [if_pos e6]
/-- a phase after t ticks -/
def ph (F R C t : Nat) : Nat := (F + t * R) % C
theorem ph_add (F R C t j : Nat) : (ph F R C t + j * R) % C = ph F R C (t + j) := by
  unfold ph
  rw [Nat.mod_add_mod, Nat.add_mul, Nat.add_assoc]
theorem ph_lt {F R C t : Nat} (h : 0 < C) : ph F R C t < C := Nat.mod_lt _ h
section QWH
variable {L : Nat} {xs : Nat → Int32}
/-- the row after t ticks -/
def qId (L : Nat) (xs : Nat → Int32) (r0 r : Nat → Int32) (t : Nat) : Prop := r 5 = nI t ∧ r 21 = nI (ph (qF L xs) (qR L xs) (1000 * qP L xs) t) ∧ r 22 = nI (ph (qF1 L xs) (qR1 L xs) (1000 * qP L xs) t) ∧ ∀ x, x ≠ 5 → x ≠ 21 → x ≠ 22 → r x = r0 x
theorem qR0_i {r0 : Nat → Int32} (R : qR0 L xs r0) : r0 6 = -1 ∧ r0 19 = 0 ∧ r0 16 = 0 ∧ r0 5 = 0 ∧ r0 18 = 0 ∧ r0 27 = 0 ∧ r0 32 = 0 := by
  have ro := R.2.2.2.1
  refine ⟨?_, ?_, ?_, ?_, ?_, ?_, ?_⟩ <;> (rw [ro _ (by decide) (by decide)]; rfl)
theorem qId_0 {r0 : Nat → Int32} (R : qR0 L xs r0) : qId L xs r0 r0 0 := by
  have RR := R
  obtain ⟨⟨a0, -, -⟩, ⟨b1, b2, -, -⟩, -⟩ := R
  have hF := qF_b L xs
  have hF1 := (qF1_b L xs).1
  refine ⟨(qR0_i RR).2.2.2.1, ?_, ?_, fun _ _ _ _ => rfl⟩
  · rw [b1, ph, Nat.zero_mul, Nat.add_zero, Nat.mod_eq_of_lt hF]
  · rw [b2, ph, Nat.zero_mul, Nat.add_zero, Nat.mod_eq_of_lt hF1]
theorem qId_1 {r0 r : Nat → Int32} {t : Nat} (R : qR0 L xs r0) (I : qId L xs r0 r t) : qId L xs r0 (rT r) (t + 1) := by
  obtain ⟨i5, i21, i22, io⟩ := I
  obtain ⟨z6, z19, -⟩ := qR0_i R
  obtain ⟨⟨a0, -, -⟩, ⟨-, -, b3, b4⟩, -⟩ := R
  have hP := qP_b L xs
  have hR := qR_b L xs
  have hR1 := qR1_b L xs
  have l1 := ph_lt (F := qF L xs) (R := qR L xs) (t := t) (show 0 < 1000 * qP L xs by omega)
  have l2 := ph_lt (F := qF1 L xs) (R := qR1 L xs) (t := t) (show 0 < 1000 * qP L xs by omega)
  rw [rT_idle (by rw [io 6 (by decide) (by decide) (by decide)]; exact z6) (by rw [io 19 (by decide) (by decide) (by decide)]; exact z19)]
  have e0 : r 0 = nI (qP L xs) := by rw [io 0 (by decide) (by decide) (by decide)]; exact a0
  have e23 : r 23 = nI (qR L xs) := by rw [io 23 (by decide) (by decide) (by decide)]; exact b3
  have e24 : r 24 = nI (qR1 L xs) := by rw [io 24 (by decide) (by decide) (by decide)]; exact b4
  have c0 : 1000 * (nI (qP L xs)).toInt = ((1000 * qP L xs : Nat) : Int) := by rw [nI_toInt (by omega)]; omega
  unfold rTick0 rTurn1
  refine ⟨?_, ?_, ?_, fun x h5 h21 h22 => ?_⟩
  · rw [zu_ne (by decide), zu_ne (by decide), zu_self, i5, nI_1]
  · rw [zu_ne (by decide)]
    show zu _ 21 _ 21 = _
    rw [zu_self]
    show mI ((zu r 5 (r 5 + 1) 21).toInt + (zu r 5 (r 5 + 1) 23).toInt) (1000 * (zu r 5 (r 5 + 1) 0).toInt) = _
    rw [zu_ne (by decide), zu_ne (by decide), zu_ne (by decide), i21, e23, e0, c0, nI_toInt (by omega), nI_toInt (by omega)]
    have e : ((ph (qF L xs) (qR L xs) (1000 * qP L xs) t : Nat) : Int) + ((qR L xs : Nat) : Int) = ((ph (qF L xs) (qR L xs) (1000 * qP L xs) t + 1 * qR L xs : Nat) : Int) := by omega
    rw [e, mI_nn (by omega) (by omega), ph_add]
  · show zu _ 22 _ 22 = _
    rw [zu_self]
    show mI ((zu (zu r 5 (r 5 + 1)) 21 _ 22).toInt + (zu (zu r 5 (r 5 + 1)) 21 _ 24).toInt) (1000 * (zu (zu r 5 (r 5 + 1)) 21 _ 0).toInt) = _
    rw [zu_ne (by decide), zu_ne (by decide), zu_ne (by decide), zu_ne (by decide), zu_ne (by decide), zu_ne (by decide), i22, e24, e0, c0, nI_toInt (by omega), nI_toInt (by omega)]
    have e : ((ph (qF1 L xs) (qR1 L xs) (1000 * qP L xs) t : Nat) : Int) + ((qR1 L xs : Nat) : Int) = ((ph (qF1 L xs) (qR1 L xs) (1000 * qP L xs) t + 1 * qR1 L xs : Nat) : Int) := by omega
    rw [e, mI_nn (by omega) (by omega), ph_add]
  · rw [zu_ne h22, zu_ne h21, zu_ne h5]
    exact io x h5 h21 h22
theorem qId_N {r0 : Nat → Int32} (R : qR0 L xs r0) : ∀ (j : Nat) (r : Nat → Int32) (t : Nat), qId L xs r0 r t → qId L xs r0 (rN j r) (t + j)
  | 0, _, _, I => I
  | j + 1, r, t, I => by
    have := qId_N R j (rT r) (t + 1) (qId_1 R I)
    rw [show t + (j + 1) = t + 1 + j by omega]
    exact this
theorem half_n : ∀ P : Nat, P < 29 → (-(nI (1000 * P)) / (2 : Int32)).toInt = -(500 * (P : Int)) ∧ (nI (1000 * P) / (2 : Int32)).toInt = 500 * (P : Int) := by decide +kernel
theorem lead_0 {X v C : Int} (hC : 0 < C) (hC2 : C < 2147483648) (H : Int) (hv : v = (X + H) % C - H) : mI (v - X) C = 0 := by
  rw [neq, mIt hC hC2]
  have z0 : (0 : Int32).toInt = 0 := rfl
  rw [z0]
  refine Int.emod_eq_zero_of_dvd ⟨-((X + H) / C), ?_⟩
  rw [hv, Int.emod_def, Int.mul_neg]
  omega
variable {S : zSp} {σ : zS} {r r0 : Nat → Int32} {N p p' s m : Nat} {h : Nat → Nat → Int32}
theorem l_265 (W : qW S σ r N p p' s m h) (R : qR0 L xs r0) {t : Nat} (I : qId L xs r0 r t) {Q : Int32 → zS → Prop} (hq : Q 1 σ) : wL_areWheels_265 (zSl S) L xs Q 0 σ := by
  obtain ⟨z6, z19, z16, -⟩ := qR0_i R
  have io := I.2.2.2
  have e6 : r 6 = -1 := by rw [io 6 (by decide) (by decide) (by decide)]; exact z6
  have e19 : r 19 = 0 := by rw [io 19 (by decide) (by decide) (by decide)]; exact z19
  have e16 : r 16 = 0 := by rw [io 16 (by decide) (by decide) (by decide)]; exact z16
  refine q_pulses W ⟨fun _ => q_underWay W ⟨fun _ => q_silence W e6 ⟨fun _ => q_nextPulseIn W e6 ⟨fun _ => hq, fun e => absurd rfl e⟩, fun e => absurd rfl e⟩, fun e => absurd e19 e⟩, fun e => absurd e16 e⟩
theorem facing_e {P a : Nat} (hP : 6 ≤ P ∧ P ≤ 28) (ha : a < 28000) : mI (((nI a).toInt + 500) / 1000) (nI P).toInt = (nI a + 500) / 1000 - (nI a + 500) / 1000 / nI P * nI P := by
  have e1 : nI a + 500 = nI (a + 500) := by rw [show (500 : Int32) = nI 500 from rfl, nI_pl]
  have e2 : nI (a + 500) / 1000 = nI ((a + 500) / 1000) := by rw [show (1000 : Int32) = nI 1000 from rfl, nI_div (by omega) (by decide) (by decide)]
  have e3 : ((a : Int) + 500) / 1000 = (((a + 500) / 1000 : Nat) : Int) := by omega
  rw [e1, e2, nI_md (by omega) (by omega) (by omega), nI_toInt (by omega), nI_toInt (by omega), e3, mI_nn (by omega) (by omega)]
theorem l_42 (hL : L ≤ 260) (R : qR0 L xs r0) {Q : Int32 → zS → Prop} : ∀ (d k t : Nat) (σ : zS) (r : Nat → Int32) (s m : Nat) (h : Nat → Nat → Int32), k + d = 14 → t + 60 * d ≤ 400 → qW S σ r 0 p p' s m h → qId L xs r0 r t → (∀ t' r' σ' s' m' h', t' ≤ 400 → qW S σ' r' 0 p p' s' m' h' → qId L xs r0 r' t' → Q 1 σ') → wL_areWheels_42 (zSl S) L xs Q (d + 1) 0 (nI (qR1 L xs)) (nI (1000 * qP L xs)) (nI (ph (qF L xs) (qR L xs) (1000 * qP L xs) t)) (nI (ph (qF1 L xs) (qR1 L xs) (1000 * qP L xs) t)) (nI t) (nI k) σ
  | 0, k, t, σ, r, s, m, h, hk, ht, W, I, hq => by
    have h14 : (14 : Int32) ≤ nI k := nI_le (a := 14) (b := k) (by omega) (by omega)
    rw [wL_areWheels_42]
    have fin := l_265 W R I (hq t r σ s m h (by omega) W I)
    exact ⟨fun _ => fin, fun _ => ⟨fun _ => fin, fun e => absurd h14 e⟩⟩
  | d + 1, k, t, σ, r, s, m, h, hk, ht, W, I, hq => by
    have hP := qP_b L xs
    have hR := qR_b L xs
    have hR1 := qR1_b L xs
    have hD := qDl_b L xs
    have fin := l_265 W R I (hq t r σ s m h (by omega) W I)
    obtain ⟨z6, z19, z16, -⟩ := qR0_i R
    have I0 := I
    have R' := R
    obtain ⟨i5, i21, i22, io⟩ := I
    obtain ⟨⟨a0, a1, a2⟩, ⟨-, -, b3, b4⟩, -⟩ := R
    have l1 := ph_lt (F := qF L xs) (R := qR L xs) (t := t) (show 0 < 1000 * qP L xs by omega)
    have l2 := ph_lt (F := qF1 L xs) (R := qR1 L xs) (t := t) (show 0 < 1000 * qP L xs by omega)
    have e0 : r 0 = nI (qP L xs) := by rw [io 0 (by decide) (by decide) (by decide)]; exact a0
    have e1 : r 1 = nI (qDl L xs) := by rw [io 1 (by decide) (by decide) (by decide)]; exact a1
    have e23 : r 23 = nI (qR L xs) := by rw [io 23 (by decide) (by decide) (by decide)]; exact b3
    have e24 : r 24 = nI (qR1 L xs) := by rw [io 24 (by decide) (by decide) (by decide)]; exact b4
    have e16 : r 16 = 0 := by rw [io 16 (by decide) (by decide) (by decide)]; exact z16
    obtain ⟨hn1, hn2⟩ := half_n (qP L xs) (by omega)
    have zP : ¬ nI (qP L xs) = 0 := fun e => by have := (nI_eq (a := qP L xs) (b := 0) (by omega) (by omega)).mp e; omega
    have zC : ¬ nI (1000 * qP L xs) = 0 := fun e => by have := (nI_eq (a := 1000 * qP L xs) (b := 0) (by omega) (by omega)).mp e; omega
    have hm : qDl L xs * qR1 L xs ≤ 20 * 999 := Nat.mul_le_mul hD.2 hR1.2
    generalize ea : ph (qF L xs) (qR L xs) (1000 * qP L xs) t = a at *
    generalize eb : ph (qF1 L xs) (qR1 L xs) (1000 * qP L xs) t = b at *
    have ta := nI_toInt (n := a) (by omega)
    have tb := nI_toInt (n := b) (by omega)
    have tP := nI_toInt (n := qP L xs) (by omega)
    have tC := nI_toInt (n := 1000 * qP L xs) (by omega)
    have tm : (nI (qDl L xs) * nI (qR1 L xs)).toInt = ((qDl L xs * qR1 L xs : Nat) : Int) := by rw [nI_ml (by omega) (by omega) (by omega), nI_toInt (by omega)]
    have tm2 : (nI (qDl L xs)).toInt * (nI (qR1 L xs)).toInt = ((qDl L xs * qR1 L xs : Nat) : Int) := by rw [nI_toInt (by omega), nI_toInt (by omega)]; exact (Int.natCast_mul _ _).symm
    rw [wL_areWheels_42]
    refine ⟨fun _ => fin, fun hlt => ⟨fun _ => fin, fun _ => ⟨?_, fun x2 _ => l_part (n := 60) rfl (by decide) (by decide) (fun x5 e5 => ?_)⟩⟩⟩
    · rw [nle, nI_toInt (by omega), nI_toInt (by omega)] at hlt
      exact vp_in_nI (by omega) (by omega)
    have e5' : x5 = nI (1 + pt x2 60) := by rw [e5, show (1 : Int32) = nI 1 from rfl, nI_pl]
    subst e5'
    obtain ⟨j, ej, hj⟩ : ∃ j, 1 + pt x2 60 = j ∧ 1 ≤ j ∧ j ≤ 60 := ⟨_, rfl, by have := pt_lt x2 (show 0 < 60 by decide); omega⟩
    rw [ej]
    clear ej
    refine q_phase W (Or.inl ⟨rfl, rfl⟩) ⟨fun _ => ?_, fun e => absurd i21 e⟩
    refine q_phase W (Or.inr ⟨rfl, rfl⟩) ⟨fun _ => ?_, fun e => absurd i22 e⟩
    refine q_time W ⟨fun _ => ?_, fun e => absurd i5 e⟩
    refine q_rate W (Or.inl ⟨rfl, rfl⟩) (l_rate hL ⟨fun _ => ?_, fun e => absurd e23 e⟩)
    refine q_rate W (Or.inr ⟨rfl, rfl⟩) ⟨fun _ => ?_, fun e => absurd e24 e⟩
    refine q_facing W (Or.inl ⟨rfl, rfl⟩) (l_positions hL (fun x22 e22 => ⟨zP, ⟨fun _ => ?_, fun e => absurd ?_ e⟩⟩))
    rotate_left
    · subst e22
      rw [Nat.add_zero, i21, e0]
      exact facing_e hP (by omega)
    refine q_facing W (Or.inr ⟨rfl, rfl⟩) (l_positions hL (fun x28 e28 => ⟨zP, ⟨fun _ => ?_, fun e => absurd ?_ e⟩⟩))
    rotate_left
    · subst e28
      show mI (((r 22).toInt + 500) / 1000) (r 0).toInt = _
      rw [i22, e0]
      exact facing_e hP (by omega)
    refine q_lead W (fun v hv => ?_)
    unfold rLead at hv
    rw [i21, i22, e0, e1, e24, tm2, ta, tb, tP] at hv
    have v1 := Int.emod_nonneg ((b : Int) + ((qDl L xs * qR1 L xs : Nat) : Int) - (a : Int) + 500 * (qP L xs : Int)) (show (1000 * (qP L xs : Int)) ≠ 0 by omega)
    have v2 := Int.emod_lt_of_pos ((b : Int) + ((qDl L xs * qR1 L xs : Nat) : Int) - (a : Int) + 500 * (qP L xs : Int)) (show 0 < 1000 * (qP L xs : Int) by omega)
    refine ⟨fun e => absurd e (by rw [nlt, hn1]; omega), fun _ => ⟨fun e => absurd e (by rw [nle, hn2]; omega), fun _ => l_delay hL (fun x34 e34 => l_floor (by rw [tC]; omega) ⟨fun _ => ?_, fun e => absurd ?_ e⟩)⟩⟩
    rotate_left
    · have y1 : (nI b + nI (qDl L xs) * nI (qR1 L xs)).toInt = (b : Int) + ((qDl L xs * qR1 L xs : Nat) : Int) := by rw [nadd (by rw [tm, tb]; omega) (by rw [tm, tb]; omega), tm, tb]
      have y2 : (nI b + nI (qDl L xs) * nI (qR1 L xs) - nI a).toInt = (b : Int) + ((qDl L xs * qR1 L xs : Nat) : Int) - (a : Int) := by rw [nsub (by rw [y1, ta]; omega) (by rw [y1, ta]; omega), y1, ta]
      have y3 : x34.toInt = v.toInt - ((b : Int) + ((qDl L xs * qR1 L xs : Nat) : Int) - (a : Int)) := by rw [e34, nsub (by rw [y2]; omega) (by rw [y2]; omega), y2]
      rw [y3, tC, show ((1000 * qP L xs : Nat) : Int) = 1000 * (qP L xs : Int) by omega]
      exact lead_0 (by omega) (by omega) (500 * (qP L xs : Int)) hv
    refine q_run W (by decide) (k := j) (by omega) (by rw [i5, nI_toInt (by omega)]; omega) (fun σ' s' m' h' W' _ => ?_)
    have I' := qId_N R' j r t I0
    have e16' : rN j r 16 = 0 := by rw [I'.2.2.2 16 (by decide) (by decide) (by decide)]; exact z16
    refine ⟨fun _ => l_rate hL (fun x41 e41 => ⟨zC, fun x43 e43 x44 e44 => ⟨zC, fun x46 e46 x47 e47 x48 e48 => ?_⟩⟩), fun e => absurd (by rw [e16, e16']; rfl) e⟩
    have b1 : j * qR L xs ≤ 60 * 400 := Nat.mul_le_mul (by omega) hR.2
    have b2 : j * qR1 L xs ≤ 60 * 999 := Nat.mul_le_mul (by omega) hR1.2
    have e43' : x43 = nI (ph (qF L xs) (qR L xs) (1000 * qP L xs) (t + j)) := by
      rw [e43, e41, nI_ml (by omega) (by omega) (by omega), nI_pl, nI_md (by omega) (by omega) (by omega), ← ea, ph_add]
    have e46' : x46 = nI (ph (qF1 L xs) (qR1 L xs) (1000 * qP L xs) (t + j)) := by
      rw [e46, e44, nI_ml (by omega) (by omega) (by omega), nI_pl, nI_md (by omega) (by omega) (by omega), ← eb, ph_add]
    have e47' : x47 = nI (t + j) := by rw [e47, nI_pl]
    have e48' : x48 = nI (k + 1) := by rw [e48, nI_1]
    subst e43' e46' e47' e48'
    exact l_42 hL R' d (k + 1) (t + j) σ' _ s' m' h' (by omega) (by omega) W' I' hq
theorem l_wheels (hL : L ≤ 260) (R : qR0 L xs r0) (W : qW S σ r0 0 p p' s m h) {Q : Int32 → zS → Prop} (hq : ∀ t' r' σ' s' m' h', t' ≤ 400 → qW S σ' r' 0 p p' s' m' h' → qId L xs r0 r' t' → Q 1 σ') : wL_areWheels (zSl S) σ L xs 0 (nI (qR1 L xs)) Q := by
  have hP := qP_b L xs
  have hF := qF_b L xs
  have hF1 := (qF1_b L xs).1
  refine l_positions hL (fun x3 e3 => l_phase hL (l_phase hL (l_delay hL (l_rate hL (fun x12 e12 => ?_)))))
  rw [nI_1000] at e3
  subst e3 e12
  refine l_floor (by rw [nI_toInt (by omega)]; omega) ⟨7, ?_⟩
  rw [(qF1_e L xs).2]
  have := l_42 hL R (S := S) (p := p) (p' := p') (Q := Q) 6 8 0 σ r0 s m h rfl (by decide) W (qId_0 R) hq
  rw [show ph (qF L xs) (qR L xs) (1000 * qP L xs) 0 = qF L xs by rw [ph, Nat.zero_mul, Nat.add_zero, Nat.mod_eq_of_lt hF], show ph (qF1 L xs) (qR1 L xs) (1000 * qP L xs) 0 = qF1 L xs by rw [ph, Nat.zero_mul, Nat.add_zero, Nat.mod_eq_of_lt hF1]] at this
  exact this
end QWH
