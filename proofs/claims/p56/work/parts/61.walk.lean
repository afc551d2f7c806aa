/-! THE TICKS FOR A LINE, one by one -/
theorem emod_q {a b : Int} : a % b = a + b * (-(a / b)) := by
  have := Int.mul_ediv_add_emod a b
  rw [Int.mul_neg]
  omega
/-- one tick on the way to a position -/
theorem tk_step {x ph R C : Int} (hR : 0 < R) (hRC : R < C) : (pWay (1000 * x - ph) C ≤ R → pTk x ph R C = 1 ∧ ((ph + R) % C - 1000 * x) % C < R) ∧ (¬ pWay (1000 * x - ph) C ≤ R → R ≤ ((ph + R) % C - 1000 * x) % C ∧ pTk x ph R C = pTk x ((ph + R) % C) R C + 1) := by
  have hC : 0 < C := by omega
  obtain ⟨w1, w2⟩ := pWay_b (x := 1000 * x - ph) hC
  have we := pWay_e (x := 1000 * x - ph) hC
  have wq := Int.mul_ediv_add_emod (1000 * x - ph - 1) C
  have pq := Int.mul_ediv_add_emod (ph + R) C
  have we2 := pWay_e (x := 1000 * x - (ph + R) % C) hC
  have t1 : pTk x ph R C = (pWay (1000 * x - ph) C - 1 + 1 * R) / R := by
    unfold pTk
    congr 1
    omega
  rw [Int.add_mul_ediv_right _ _ (by omega)] at t1
  have t2 : pTk x ((ph + R) % C) R C = (pWay (1000 * x - (ph + R) % C) C - 1 + 1 * R) / R := by
    unfold pTk
    congr 1
    omega
  rw [Int.add_mul_ediv_right _ _ (by omega)] at t2
  generalize (1000 * x - ph - 1) / C = q at wq
  generalize (ph + R) / C = q2 at pq
  have e1 : (ph + R) % C - 1000 * x = (R - pWay (1000 * x - ph) C) + C * (-(q + q2)) := by
    rw [Int.mul_neg, Int.mul_add]
    omega
  have e2 : 1000 * x - (ph + R) % C - 1 = (pWay (1000 * x - ph) C - R - 1) + C * (q + q2) := by
    rw [Int.mul_add]
    omega
  rw [e1, Int.add_mul_emod_self_left]
  rw [e2, Int.add_mul_emod_self_left] at we2
  generalize pWay (1000 * x - ph) C = w at *
  refine ⟨fun h => ⟨?_, ?_⟩, fun h => ⟨?_, ?_⟩⟩
  · rw [t1, Int.ediv_eq_zero_of_lt (by omega) (by omega)]
    rfl
  · rw [Int.emod_eq_of_lt (by omega) (by omega)]
    omega
  · have e3 : R - w = (R - w + C) + C * (-1) := by omega
    rw [e3, Int.add_mul_emod_self_left, Int.emod_eq_of_lt (by omega) (by omega)]
    omega
  · rw [Int.emod_eq_of_lt (by omega) (by omega)] at we2
    have e4 : w - 1 = (pWay (1000 * x - (ph + R) % C) C - 1) + 1 * R := by omega
    rw [t1, t2, e4, Int.add_mul_ediv_right _ _ (by omega)]
theorem tkS_step {x : Int32} {l : List Int32} {ph R C : Int} (hR : 10 ≤ R ∧ R ≤ 999) (hC : R < C) : (pWay (1000 * x.toInt - ph) C ≤ R → tkS R C (x :: l) ph = 1 + tkS R C l ((ph + R) % C) ∧ ((ph + R) % C - 1000 * x.toInt) % C < R) ∧ (¬ pWay (1000 * x.toInt - ph) C ≤ R → R ≤ ((ph + R) % C - 1000 * x.toInt) % C ∧ tkS R C (x :: l) ph = 1 + tkS R C (x :: l) ((ph + R) % C)) := by
  obtain ⟨h1, h2⟩ := tk_step (x := x.toInt) (ph := ph) (R := R) (C := C) (by omega) hC
  refine ⟨fun h => ?_, fun h => ?_⟩
  · obtain ⟨a, b⟩ := h1 h
    refine ⟨?_, b⟩
    rw [tkS, a, Int.one_mul]
  · obtain ⟨a, b⟩ := h2 h
    refine ⟨a, ?_⟩
    rw [tkS, tkS, b]
    have e : (ph + (pTk x.toInt ((ph + R) % C) R C + 1) * R) % C = ((ph + R) % C + pTk x.toInt ((ph + R) % C) R C * R) % C := by
      generalize pTk x.toInt ((ph + R) % C) R C = T
      have e2 : (ph + R) % C + T * R = (ph + (T + 1) * R) + C * (-((ph + R) / C)) := by
        have := Int.mul_ediv_add_emod (ph + R) C
        rw [Int.mul_neg, Int.add_mul]
        omega
      rw [e2, Int.add_mul_emod_self_left]
    rw [e]
    omega
section QWALK
variable {L : Nat} {xs : Nat → Int32} {S : zSp} {σ : zS} {r : Nat → Int32} {N p p' s m : Nat} {h : Nat → Nat → Int32}
theorem l_247 (hL : L ≤ 260) (W : qW S σ r N p p' s m h) {a k : Nat} {pth : List Int32} (hk : k < 12) (hk2 : (k : Int) < (r 25).toInt) (hla : zSl S a = 70) (hlen : pth.length ≤ 62) (hb : ∀ i, i < pth.length → 0 ≤ (pth.getD i 0).toInt ∧ (pth.getD i 0).toInt < 28) (A : ∀ i, i < pth.length → gi σ a i = pth.getD i 0) {Q : Int32 → zSp → zS → Prop} (hq : Q 1 S σ) : ∀ (n i ph tick : Nat), tkS (qR L xs : Int) ((1000 * qP L xs : Nat) : Int) (pth.drop i) (ph : Int) = (n : Int) → ((tick + n : Nat) : Int) = rTf r 0 k → i ≤ pth.length → ph < 1000 * qP L xs → wL_isPath_247 L xs Q (n + 1) 0 (nI k) (nI (qP L xs)) a (nI pth.length) (nI ph) (nI tick) (nI i) S σ := by
  have hP := qP_b L xs
  have hR := qR_b L xs
  have hTf := rTf_b W.w (q := 0) (k := k) (by decide) hk
  intro n
  induction n with
  | zero =>
    intro i ph tick hn ht hi hp
    by_cases e : i = pth.length
    · rw [wL_isPath_247]
      refine ⟨fun _ => q_ticksFor W hk hk2 ⟨fun _ => hq, fun hx => absurd ?_ hx⟩, fun hx => absurd (nI_le (by omega) (by omega)) hx⟩
      rw [← ht, Nat.add_zero, neq, iIt (by omega) (by omega), nI_toInt (by omega)]
    · rw [drop_getD _ (show i < pth.length by omega), tkS] at hn
      have h1 := pTk_b (pos := (pth.getD i 0).toInt) (ph := (ph : Int)) (rt := (qR L xs : Int)) (P := ((1000 * qP L xs : Nat) : Int)) (by omega) (by omega)
      have h2 := (tkS_b (rt := (qR L xs : Int)) (P := ((1000 * qP L xs : Nat) : Int)) (by omega) (by omega) (pth.drop (i + 1)) (((ph : Int) + pTk (pth.getD i 0).toInt (ph : Int) (qR L xs : Int) ((1000 * qP L xs : Nat) : Int) * (qR L xs : Int)) % ((1000 * qP L xs : Nat) : Int))).1
      omega
  | succ n ih =>
    intro i ph tick hn ht hi hp
    by_cases e : i = pth.length
    · rw [List.drop_eq_nil_of_le (by omega), tkS] at hn
      omega
    · have hi2 : i < pth.length := by omega
      have hx := hb i hi2
      rw [drop_getD _ hi2] at hn
      have ep : (((ph + qR L xs) % (1000 * qP L xs) : Nat) : Int) = ((ph : Int) + (qR L xs : Int)) % ((1000 * qP L xs : Nat) : Int) := by
        rw [Int.natCast_emod, Int.natCast_add]
      have hp2 := Nat.mod_lt (ph + qR L xs) (show 0 < 1000 * qP L xs by omega)
      obtain ⟨s1, s2⟩ := tkS_step (x := pth.getD i 0) (l := pth.drop (i + 1)) (ph := (ph : Int)) (R := (qR L xs : Int)) (C := ((1000 * qP L xs : Nat) : Int)) (by omega) (by omega)
      rw [← ep] at s1 s2
      have zC : ¬ nI (1000 * qP L xs) = 0 := fun e => by have := (nI_eq (a := 1000 * qP L xs) (b := 0) (by omega) (by omega)).mp e; omega
      have tk : (1000 : Int32).toInt = 1000 := rfl
      have tR := nI_toInt (n := qR L xs) (by omega)
      have tC := nI_toInt (n := 1000 * qP L xs) (by omega)
      have tp := nI_toInt (n := (ph + qR L xs) % (1000 * qP L xs)) (by omega)
      have m1 : (1000 * pth.getD i 0).toInt = 1000 * (pth.getD i 0).toInt := by rw [nmul (by rw [tk]; omega) (by rw [tk]; omega), tk]
      rw [wL_isPath_247]
      refine ⟨fun hx => absurd hx (nI_ge (by omega) (by omega)), fun _ x4 e4 => l_rate hL (fun x7 e7 x8 e8 => ?_)⟩
      rw [nI_1] at e4
      rw [nI_1000] at e7
      rw [nI_pl] at e8
      subst e4 e7 e8
      refine ⟨zC, fun x10 e10 => ⟨by rw [hla]; exact vp_in_nI (by omega) (by decide), fun x12 e12 x13 e13 => ?_⟩⟩
      rw [nI_md (by omega) (by omega) (by omega)] at e10
      rw [nI_1000] at e12
      rw [nI_clamp (by omega), A i hi2] at e13
      subst e10 e12 e13
      refine l_floor (by rw [tC]; omega) (l_rate hL ?_)
      have y : (nI ((ph + qR L xs) % (1000 * qP L xs)) - 1000 * pth.getD i 0).toInt = (((ph + qR L xs) % (1000 * qP L xs) : Nat) : Int) - 1000 * (pth.getD i 0).toInt := by
        rw [nsub (by rw [m1, tp]; omega) (by rw [m1, tp]; omega), m1, tp]
      have z : (mI (nI ((ph + qR L xs) % (1000 * qP L xs)) - 1000 * pth.getD i 0).toInt (nI (1000 * qP L xs)).toInt).toInt = ((((ph + qR L xs) % (1000 * qP L xs) : Nat) : Int) - 1000 * (pth.getD i 0).toInt) % ((1000 * qP L xs : Nat) : Int) := by
        rw [mIt (by rw [tC]; omega) (by rw [tC]; omega), y, tC]
      by_cases hw : pWay (1000 * (pth.getD i 0).toInt - (ph : Int)) ((1000 * qP L xs : Nat) : Int) ≤ (qR L xs : Int)
      · obtain ⟨a1, a2⟩ := s1 hw
        refine ⟨fun hx => absurd hx (by rw [nle, tR, z]; omega), fun _ x18 e18 => ?_⟩
        rw [nI_1] at e18
        subst e18
        exact ih (i + 1) _ (tick + 1) (by omega) (by omega) (by omega) hp2
      · obtain ⟨a1, a2⟩ := s2 hw
        refine ⟨fun _ => ?_, fun hx => absurd (by rw [nle, tR, z]; omega) hx⟩
        exact ih i _ (tick + 1) (by rw [drop_getD _ hi2]; omega) (by omega) hi hp2
end QWALK
