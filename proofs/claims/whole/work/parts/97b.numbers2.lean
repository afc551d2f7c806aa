/-! THE TEXT: numbers, as the class puts them -/
theorem nI_neg {w : Nat} (h : w < 2 ^ 31) : (-(nI w)).toInt = -(w : Int) := by
  have e := nI_toInt h
  rw [nneg (by rw [e]; omega), e]
theorem nI_nn {w : Nat} (h : w < 2 ^ 31) : -(-(nI w)) = nI w := by
  have e := nI_neg h
  rw [neq, nneg (by rw [e]; omega), e, nI_toInt h]
  omega
theorem nI_prd {w : Nat} (h : w + 1 < 2 ^ 31) : nI (w + 1) + (-1) = nI w := by
  have t1 : (-1 : Int32).toInt = -1 := rfl
  have e := nI_toInt h
  rw [neq, nadd (by rw [e, t1]; omega) (by rw [e, t1]; omega), e, t1, nI_toInt (by omega)]
  omega
theorem nI_n100 {w : Nat} (h : w < 100000) : -(nI w) / 100 = -(nI (w / 100)) := by
  have t1 : (100 : Int32).toInt = 100 := rfl
  rw [neq, Int32.toInt_div, nI_neg (by omega), t1, nI_neg (by omega), Int.neg_tdiv, Int.tdiv_eq_ediv_of_nonneg (by omega), nbm (by omega) (by omega)]
  omega
theorem nI_m100 {w : Nat} (h : w < 100000) : -(nI (w / 100)) * 100 - -(nI w) = nI (w % 100) := by
  have t1 : (100 : Int32).toInt = 100 := rfl
  have e1 := nI_neg (w := w / 100) (by omega)
  have e2 := nI_neg (w := w) (by omega)
  have e3 : (-(nI (w / 100)) * 100).toInt = -((w / 100 : Nat) : Int) * 100 := by rw [nmul (by rw [e1, t1]; omega) (by rw [e1, t1]; omega), e1, t1]
  rw [neq, nsub (by rw [e3, e2]; omega) (by rw [e3, e2]; omega), e3, e2, nI_toInt (by omega)]
  omega
theorem dg_0 (w : Nat) : dg w 0 = nI (48 + w % 10) := by
  unfold dg
  rw [Nat.pow_zero, Nat.div_one]
theorem dg_1 (w : Nat) : dg w 1 = nI (48 + w / 10 % 10) := by
  unfold dg
  rw [Nat.pow_one]
theorem dg_100 (w j : Nat) : dg (w / 100) j = dg w (j + 2) := by
  unfold dg
  rw [Nat.div_div_eq_div_mul, Nat.pow_add, Nat.mul_comm]
theorem ss_mul : ∀ i, i < 5 → 10 * -(nI (10 ^ i)) = -(nI (10 ^ (i + 1))) := by decide
theorem C_ss16 {ln : Nat → Nat} {σ : zS} {v d : Nat} (hd : zdgt v d) {Q : Int32 → zS → Prop} (hq : Q (nI d) σ) : ∀ (e i : Nat), 1 ≤ i → i + e = d → wJ6_stringSize_0f7a4_16 ln Q (e + 1) (-(nI v)) 0 (-(nI (10 ^ i))) (nI i) σ
  | e, i, h1, hi => by
    have hv := zdgt_lt hd
    have h5 := hd.2.1
    have hp := p10 (j := i) (by omega)
    have e1 := nI_neg (w := 10 ^ i) (by omega)
    have e2 := nI_neg (w := v) (by omega)
    have t10 : (10 : Int32).toInt = 10 := rfl
    rw [wJ6_stringSize_0f7a4_16]
    refine ⟨fun hx => absurd hx (by rw [nle, t10, nI_toInt (by omega)]; omega), fun _ => ⟨fun hle x1 f1 x2 f2 => ?_, fun hgt => ?_⟩⟩
    · rw [nle, e2, e1] at hle
      rw [nI_1] at f2
      match e, hi with
      | 0, hi =>
        have h4 := hd.2.2.2
        have e0 : d = i := by omega
        rw [e0] at h4
        omega
      | e + 1, hi =>
        rw [ss_mul i (by omega)] at f1
        subst f1 f2
        exact C_ss16 hd hq e (i + 1) (by omega) (by omega)
    · rw [nle, e2, e1] at hgt
      have e0 : i = d := by
        by_cases hx : i < d
        · have h3 : 10 ^ (d - 1) ≤ v := hd.2.2.1.resolve_left (by omega)
          have h6 : 10 ^ i ≤ 10 ^ (d - 1) := Nat.pow_le_pow_right (by decide) (by omega)
          omega
        · omega
      rw [e0, Int32.add_zero]
      exact hq
theorem C_ss {ln : Nat → Nat} {σ : zS} {v d : Nat} (hd : zdgt v d) {Q : Int32 → zS → Prop} (hq : Q (nI d) σ) : wJ6_stringSize_0f7a4 ln σ (nI v) Q := by
  have hv := zdgt_lt hd
  have z0 : (0 : Int32).toInt = 0 := rfl
  refine ⟨fun hx => absurd hx (by rw [nlt, nI_toInt (by omega), z0]; omega), fun _ x1 e1 => ⟨d - 1 + 1, ?_⟩⟩
  subst e1
  have h := C_ss16 (ln := ln) hd hq (d - 1) 1 (by decide) (by have := hd.1; omega)
  rw [show -(nI (10 ^ 1)) = (-10 : Int32) by decide, show nI 1 = (1 : Int32) by decide] at h
  exact h
/-- digits put into an array -/
def gcF (σ σ' : zS) (a e d w : Nat) : Prop := σ'.2 = σ.2 ∧ (∀ b, b ≠ a → gi σ' b = gi σ b) ∧ (∀ k, ¬ (e ≤ k ∧ k < e + d) → gi σ' a k = gi σ a k) ∧ ∀ k, k < d → gi σ' a (e + k) = dg w (d - 1 - k)
theorem dg_nar (v j : Nat) : vp_nar .byte (dg v j) = dg v j := (nar8 (dg_b v j)).1
theorem C_gc22 {ln : Nat → Nat} {a : Nat} (hla : ln a ≤ 150) {Q : Int32 → zS → Prop} : ∀ (n d w e : Nat) (σ : zS), d ≤ 2 * n → zdgt w d → e + d ≤ ln a → e + d ≤ 1000 → (∀ σ', gcF σ σ' a e d w → Q (nI e) σ') → wJ6_getChars_ba4f3_22 ln Q n (-(nI w)) a (nI (e + d)) 0 σ
  | 0, d, w, e, σ, hn, hd, hl, hb, hq => by
    have := hd.1
    omega
  | n + 1, d, w, e, σ, hn, hd, hl, hb, hq => by
    have hw := zdgt_lt hd
    have en := nI_neg (w := w) (by omega)
    have t100 : (-100 : Int32).toInt = -100 := rfl
    have t9 : (-9 : Int32).toInt = -9 := rfl
    rw [wJ6_getChars_ba4f3_22]
    refine ⟨fun hlt => ?_, fun hge => ?_⟩
    · rw [nlt, t100, en] at hlt
      have hw100 : w < 100 := by omega
      have hd2 : d = 1 ∧ w < 10 ∨ d = 2 ∧ 10 ≤ w := by
        obtain ⟨h1, h2, h3, h4⟩ := hd
        rcases (show d = 1 ∨ d = 2 ∨ d = 3 ∨ d = 4 ∨ d = 5 by omega) with rfl | rfl | rfl | rfl | rfl
        · exact Or.inl ⟨rfl, h4⟩
        · exact Or.inr ⟨rfl, h3.resolve_left (by decide)⟩
        · have : 100 ≤ w := h3.resolve_left (by decide)
          omega
        · have : 1000 ≤ w := h3.resolve_left (by decide)
          omega
        · have : 10000 ≤ w := h3.resolve_left (by decide)
          omega
      intro x1 e1 x2 e2
      rw [nI_nn (by omega)] at e2
      subst e2
      refine ⟨vp_in_nI (by omega) (by omega), fun x4 e4 => ?_⟩
      rw [nI_clamp (by omega)] at e4
      have e4' : x4 = dg w 0 := by rw [e4, dg_0]; rfl
      subst e4'
      rcases hd2 with ⟨rfl, h10⟩ | ⟨rfl, h10⟩
      · rw [nI_prd (by omega)] at e1
        subst e1
        refine ⟨vp_in_nI (by omega) (by omega), fun σ6 e6 => ?_⟩
        rw [nI_clamp (by omega), dg_nar] at e6
        subst e6
        refine ⟨fun _ => ⟨fun _ => hq _ ⟨rfl, fun b hb => si_out _ _ hb, fun k hk => by rw [si_at, zu_ne (by omega)], fun k hk => ?_⟩, fun hx => absurd rfl hx⟩, fun hx => absurd (by rw [nle, t9, en]; omega) hx⟩
        have e0 : k = 0 := by omega
        subst e0
        rw [si_at]
        exact zu_self _ _ _
      · rw [show e + 2 = e + 1 + 1 by omega, nI_prd (by omega)] at e1
        subst e1
        refine ⟨vp_in_nI (by omega) (by omega), fun σ6 e6 => ?_⟩
        rw [nI_clamp (by omega), dg_nar] at e6
        subst e6
        refine ⟨fun hx => absurd hx (by rw [nle, t9, en]; omega), fun _ x7 e7 x8 e8 => ?_⟩
        rw [nI_prd (by omega)] at e7
        rw [nI_nn (by omega)] at e8
        subst e7 e8
        refine ⟨vp_in_nI (by omega) (by omega), fun x10 e10 => ⟨vp_in_nI (by omega) (by omega), fun σ12 e12 => ?_⟩⟩
        rw [nI_clamp (by omega)] at e10
        have e10' : x10 = dg w 1 := by
          rw [e10, dg_1]
          show nI (48 + w / 10) = nI (48 + w / 10 % 10)
          congr 2
          omega
        subst e10'
        rw [nI_clamp (by omega), dg_nar] at e12
        subst e12
        refine ⟨fun _ => hq _ ⟨rfl, fun b hb => by rw [si_out _ _ hb, si_out _ _ hb], fun k hk => by rw [si_at, zu_ne (by omega), si_at, zu_ne (by omega)], fun k hk => ?_⟩, fun hx => absurd rfl hx⟩
        rcases (show k = 0 ∨ k = 1 by omega) with rfl | rfl
        · rw [si_at]
          exact zu_self _ _ _
        · rw [si_at, zu_ne (by omega), si_at]
          exact zu_self _ _ _
    · rw [nlt, t100, en] at hge
      obtain ⟨h1, h2, h3, h4⟩ := hd
      obtain ⟨d', rfl, hd'⟩ : ∃ d', d = d' + 2 ∧ zdgt (w / 100) d' := by
        rcases (show d = 1 ∨ d = 2 ∨ d = 3 ∨ d = 4 ∨ d = 5 by omega) with rfl | rfl | rfl | rfl | rfl
        · have h4 : w < 10 := h4
          omega
        · have h4 : w < 100 := h4
          omega
        · have h4 : w < 1000 := h4
          exact ⟨1, rfl, by decide, by decide, Or.inl rfl, by show w / 100 < 10; omega⟩
        · have h4 : w < 10000 := h4
          have h3 : 1000 ≤ w := h3.resolve_left (by decide)
          exact ⟨2, rfl, by decide, by decide, Or.inr (by show 10 ≤ w / 100; omega), by show w / 100 < 100; omega⟩
        · have h4 : w < 100000 := h4
          have h3 : 10000 ≤ w := h3.resolve_left (by decide)
          exact ⟨3, rfl, by decide, by decide, Or.inr (by show 100 ≤ w / 100; omega), by show w / 100 < 1000; omega⟩
      intro x14 e14 x15 e15 x16 e16
      rw [nI_n100 hw] at e14
      subst e14
      rw [nI_m100 hw] at e15
      rw [show e + (d' + 2) = e + d' + 1 + 1 by omega, nI_prd (by omega)] at e16
      subst e15 e16
      refine ⟨vp_in_nI (by omega) (by omega), fun x18 e18 => ⟨vp_in_nI (by omega) (by omega), fun σ20 e20 x21 e21 => ⟨vp_in_nI (by omega) (by omega), fun x23 e23 => ?_⟩⟩⟩
      rw [nI_clamp (by omega)] at e18 e23
      have e18' : x18 = dg w 0 := by
        rw [e18, dg_0]
        show nI (48 + w % 100 % 10) = nI (48 + w % 10)
        congr 2
        omega
      have e23' : x23 = dg w 1 := by
        rw [e23, dg_1]
        show nI (48 + w % 100 / 10) = nI (48 + w / 10 % 10)
        congr 2
        omega
      subst e18' e23'
      rw [nI_clamp (by omega), dg_nar] at e20
      rw [nI_prd (by omega)] at e21
      subst e20 e21
      refine ⟨vp_in_nI (by omega) (by omega), fun σ25 e25 => ?_⟩
      rw [nI_clamp (by omega), dg_nar] at e25
      subst e25
      refine C_gc22 hla n d' (w / 100) e _ (by omega) hd' (by omega) (by omega) (fun σ' f' => hq σ' ?_)
      obtain ⟨f1, f2, f3, f4⟩ := f'
      refine ⟨f1, fun b hb => by rw [f2 b hb, si_out _ _ hb, si_out _ _ hb], fun k hk => by rw [f3 k (by omega), si_at, zu_ne (by omega), si_at, zu_ne (by omega)], fun k hk => ?_⟩
      by_cases hk2 : k < d'
      · rw [f4 k hk2, dg_100]
        congr 1
        omega
      · rw [f3 (e + k) (by omega), si_at]
        rcases (show k = d' ∨ k = d' + 1 by omega) with rfl | rfl
        · rw [show k + 2 - 1 - k = 1 by omega]
          exact zu_self _ _ _
        · rw [zu_ne (by omega), si_at, show d' + 2 - 1 - (d' + 1) = 0 by omega]
          exact zu_self _ _ _
theorem sbT_int {S : zSp} {σ : zS} {t : List Int32} (h : sbT S σ t 0) {v d : Nat} (hd : zdgt v d) (hl : t.length + d ≤ 100) {Q : Nat → zSp → zS → Prop} (hq : ∀ S' σ', sbT S' σ' (t ++ dl v d) 0 → sbF S σ S' σ' → Q 5 S' σ') : wJ4_append_bf812 S σ 5 (nI v) Q := by
  have hv := zdgt_lt hd
  have h5 := hd.2.1
  have q7 : gi σ 5 3 = nI t.length := by
    obtain ⟨a, q1, q2, q3, q4, q5, q6, q7, q8⟩ := h
    exact q7
  intro x1 e1
  rw [q7] at e1
  subst e1
  refine C_ss hd (fun x4 e4 => ?_)
  rw [nI_plus] at e4
  refine sbT_cap h (m := d) (by omega) hl e4 (fun S' σ' h' f' => ?_)
  subst e4
  obtain ⟨a, q1, q2, q3, q4, q5, q6, q7', q8, q9, q10⟩ := h'
  have n5 : (5 : Nat) ≠ a := by omega
  have z0 : (0 : Int32).toInt = 0 := rfl
  refine ⟨fun hx => absurd hx (by decide), fun _ => ⟨fun _ => ⟨fun hx => absurd hx (by decide), fun _ => ⟨a, q1, ?_⟩⟩, fun hx => absurd q6 hx⟩⟩
  refine ⟨fun _ => ⟨fun _ x2 e2 => ⟨3, ?_⟩, fun hx => absurd rfl hx⟩, fun hx => absurd (by rw [nle, nI_toInt (by omega), z0]; omega) hx⟩
  subst e2
  refine C_gc22 (ln := zSl S') (a := a) (by omega) 3 d v t.length σ' (by omega) hd q8 (by omega) (fun σ11 f11 σ13 e13 => ?_)
  subst e13
  obtain ⟨f1, f2, f3, f4⟩ := f11
  have r11 : gr σ11 = gr σ' := by
    show σ11.2.1 = σ'.2.1
    rw [f1]
  have ga : gi (si σ11 5 3 (nI (t.length + d))) a = gi σ11 a := si_out _ _ n5.symm
  refine hq S' _ ⟨a, by show gr σ11 5 0 = _; rw [r11]; exact q1, q2, q3, q4, q5, ?_, ?_, ?_, fun k hk => ?_, fun k hk => ?_⟩ (f'.tr ⟨Nat.le_refl _, fun _ _ => rfl, fun b j _ _ => by show gr σ11 b j = _; rw [r11], fun b h1 h2 h3 => by rw [si_out _ _ h2]; exact f2 b (by omega), fun b _ => ⟨by show σ11.2.2.1 b = _; rw [f1]; rfl, by show σ11.2.2.2 b = _; rw [f1]; rfl⟩⟩)
  · rw [si_at, zu_ne (by decide), f2 5 n5]; exact q6
  · rw [si_at, zu_self, List.length_append, dl_len]
  · rw [List.length_append, dl_len]; exact q8
  · rw [List.length_append, dl_len] at hk
    rw [ga, getD_app2]
    by_cases e : k < t.length
    · rw [if_pos e, f3 k (by omega)]; exact q9 k e
    · obtain ⟨j, rfl⟩ : ∃ j, k = t.length + j := ⟨k - t.length, by omega⟩
      rw [if_neg e, f4 j (by omega), show t.length + j - t.length = j by omega, dl_get v d j (by omega)]
  · rw [ga]
    by_cases e : t.length ≤ k ∧ k < t.length + d
    · obtain ⟨j, rfl⟩ : ∃ j, k = t.length + j := ⟨k - t.length, by omega⟩
      rw [f4 j (by omega)]
      have := dg_b v (d - 1 - j)
      omega
    · rw [f3 k e]; exact q10 k hk
