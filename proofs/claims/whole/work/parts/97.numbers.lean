/-! THE TEXT: numbers -/
theorem p10 {j : Nat} (h : j ≤ 5) : 1 ≤ 10 ^ j ∧ 10 ^ j ≤ 100000 := ⟨Nat.one_le_pow _ _ (by decide), Nat.pow_le_pow_right (n := 10) (by decide) h⟩
theorem nI_div {a b : Nat} (ha : a < 2 ^ 31) (hb : 0 < b) (hb2 : b < 2 ^ 31) : nI a / nI b = nI (a / b) := by
  have h1 := nI_toInt ha
  have h2 := nI_toInt hb2
  have h3 : a / b ≤ a := Nat.div_le_self a b
  rw [neq, ndiv (by rw [h1]; omega) (by rw [h2]; omega), h1, h2, nI_toInt (by omega)]
  rfl
theorem nI_r10 {a : Nat} (ha : a < 2 ^ 31) : nI a - nI a / 10 * 10 = nI (a % 10) := by
  have h1 := nI_toInt ha
  have h2 : (10 : Int32).toInt = 10 := rfl
  rw [neq, nrem (by rw [h1]; omega) (by rw [h2]; omega), h1, h2, nI_toInt (by omega)]
  omega
/-- the digits of a number -/
def dg (v j : Nat) : Int32 := nI (48 + v / 10 ^ j % 10)
def dl (v : Nat) : Nat → List Int32
  | 0 => []
  | j + 1 => dg v j :: dl v j
theorem dl_len (v : Nat) : ∀ d, (dl v d).length = d
  | 0 => rfl
  | d + 1 => by
    rw [dl, List.length_cons, dl_len v d]
theorem dl_get (v : Nat) : ∀ d k, k < d → (dl v d).getD k 0 = dg v (d - 1 - k)
  | 0, k, h => absurd h (Nat.not_lt_zero k)
  | d + 1, 0, h => rfl
  | d + 1, k + 1, h => by
    rw [dl, show d + 1 - 1 - (k + 1) = d - 1 - k by omega]
    exact dl_get v d k (by omega)
theorem dg_b (v j : Nat) : 0 ≤ (dg v j).toInt ∧ (dg v j).toInt < 128 := by
  unfold dg
  rw [nI_toInt (by omega)]
  omega
def pw : Nat → Nat
  | 0 => 0
  | j + 1 => 10 ^ j
theorem pw_div : ∀ j, j < 5 → nI (10 ^ j) / 10 = nI (pw j) := by decide
theorem pw_mul : ∀ j, j < 5 → nI (10 ^ j) * 10 = nI (10 ^ (j + 1)) := by decide
theorem M_d20 {ln : Nat → Nat} {v : Nat} (hv : v < 100000) {Q : zS → Prop} : ∀ (j : Nat) (t : List Int32) (σ : zS), j ≤ 5 → zMg (gr σ) ln → mT σ t → t.length + j ≤ 100 → (∀ σ', mT σ' (t ++ dl v j) → mTf σ σ' → Q σ') → wX12_digits_20 ln Q (j + 1) 455 (nI v) (nI (pw j)) σ
  | 0, t, σ, hj, G, h, hl, hq => by
    rw [wX12_digits_20]
    refine ⟨fun _ => hq σ ?_ mTf.rf, fun hx => absurd (by decide) hx⟩
    rw [dl, List.append_nil]
    exact h
  | j + 1, t, σ, hj, G, h, hl, hq => by
    have hp := p10 (j := j) (by omega)
    have ep : pw (j + 1) = 10 ^ j := rfl
    have e1 := nI_toInt (n := 10 ^ j) (by omega)
    have z0 : (0 : Int32).toInt = 0 := rfl
    have hq2 : v / 10 ^ j ≤ v := Nat.div_le_self _ _
    rw [wX12_digits_20, ep]
    refine ⟨fun hx => absurd hx (by rw [nle, e1, z0]; omega), fun _ => ⟨fun hx => ?_, fun x2 e2 x3 e3 => ?_⟩⟩
    · have := congrArg Int32.toInt hx
      rw [e1, z0] at this
      omega
    · rw [nI_div (by omega) (by omega) (by omega)] at e2
      subst e2
      rw [nI_r10 (by omega)] at e3
      have e3' : x3 = dg v j := by rw [e3]; exact nI_plus 48 _
      subst e3'
      refine M_put G h (by omega) (fun σ4 h4 f4 x5 e5 => ?_)
      rw [pw_div j (by omega)] at e5
      subst e5
      refine M_d20 hv j (t ++ [dg v j]) σ4 (by omega) (by rw [f4.r]; exact G) h4 (by rw [List.length_append]; show t.length + 1 + j ≤ 100; omega) (fun σ6 h6 f6 => hq σ6 ?_ (f4.tr f6))
      rw [List.append_assoc] at h6
      exact h6
/-- v has d digits -/
def zdgt (v d : Nat) : Prop := 1 ≤ d ∧ d ≤ 5 ∧ (d = 1 ∨ 10 ^ (d - 1) ≤ v) ∧ v < 10 ^ d
theorem zdgt_ex {v : Nat} (hv : v < 100000) : ∃ d, zdgt v d := by
  by_cases h1 : v < 10
  · exact ⟨1, by decide, by decide, Or.inl rfl, h1⟩
  by_cases h2 : v < 100
  · exact ⟨2, by decide, by decide, Or.inr (by show 10 ≤ v; omega), h2⟩
  by_cases h3 : v < 1000
  · exact ⟨3, by decide, by decide, Or.inr (by show 100 ≤ v; omega), h3⟩
  by_cases h4 : v < 10000
  · exact ⟨4, by decide, by decide, Or.inr (by show 1000 ≤ v; omega), h4⟩
  · exact ⟨5, by decide, by decide, Or.inr (by show 10000 ≤ v; omega), hv⟩
theorem zdgt_lt {v d : Nat} (h : zdgt v d) : v < 100000 := Nat.lt_of_lt_of_le h.2.2.2 (p10 h.2.1).2
theorem zdgt_go {v d i : Nat} (h : zdgt v d) (hi : i + 1 < d) : 10 ≤ v / 10 ^ i := by
  obtain ⟨h1, h2, h3, h4⟩ := h
  have h5 : 10 ^ (d - 1) ≤ v := h3.resolve_left (by omega)
  have hp := p10 (j := i) (by omega)
  have h6 : 10 ^ (i + 1) ≤ 10 ^ (d - 1) := Nat.pow_le_pow_right (by decide) (by omega)
  rw [Nat.le_div_iff_mul_le (by omega), Nat.mul_comm, ← Nat.pow_succ]
  omega
theorem zdgt_end {v d : Nat} (h : zdgt v d) : v / 10 ^ (d - 1) ≤ 9 := by
  obtain ⟨h1, h2, h3, h4⟩ := h
  have e : 10 ^ d = 10 ^ (d - 1) * 10 := by
    rw [← Nat.pow_succ]
    congr 1
    omega
  have : v / 10 ^ (d - 1) < 10 := Nat.div_lt_of_lt_mul (by rw [← e]; exact h4)
  omega
theorem M_dg2 {ln : Nat → Nat} {v d : Nat} (hd : zdgt v d) {σ : zS} (G : zMg (gr σ) ln) {t : List Int32} (h : mT σ t) (hl : t.length + d ≤ 100) {Q : zS → Prop} (hq : ∀ σ', mT σ' (t ++ dl v d) → mTf σ σ' → Q σ') : ∀ (e i : Nat), i + e + 1 = d → wX12_digits_2 ln Q (e + 1) 455 (nI v) (nI (10 ^ i)) σ
  | e, i, hi => by
    have hv := zdgt_lt hd
    have h5 := hd.2.1
    have hp := p10 (j := i) (by omega)
    have e1 := nI_toInt (n := 10 ^ i) (by omega)
    have z0 : (0 : Int32).toInt = 0 := rfl
    have t9 : (9 : Int32).toInt = 9 := rfl
    have hq2 : v / 10 ^ i ≤ v := Nat.div_le_self _ _
    have e2 := nI_toInt (n := v / 10 ^ i) (by omega)
    rw [wX12_digits_2, nI_div (by omega) (by omega) (by omega)]
    refine ⟨fun hx => ?_, fun hle => ?_, fun hgt x3 e3 => ?_⟩
    · have := congrArg Int32.toInt hx
      rw [e1, z0] at this
      omega
    · rw [nle, e2, t9] at hle
      have e0 : d = i + 1 := by
        by_cases hx : i + 1 < d
        · have := zdgt_go hd hx
          omega
        · omega
      have hm := M_d20 hv (Q := Q) (i + 1) t σ (by omega) G h (by omega) (by rw [← e0]; exact hq)
      exact ⟨i + 1 + 1, hm⟩
    · rw [nle, e2, t9] at hgt
      rw [pw_mul i (by omega)] at e3
      subst e3
      match e, hi with
      | 0, hi =>
        have := zdgt_end hd
        have e0 : d - 1 = i := by omega
        rw [e0] at this
        omega
      | e + 1, hi => exact M_dg2 hd G h hl hq e (i + 1) (by omega)
theorem M_digits {ln : Nat → Nat} {v d : Nat} (hd : zdgt v d) {σ : zS} (G : zMg (gr σ) ln) {t : List Int32} (h : mT σ t) (hl : t.length + d ≤ 100) {Q : zS → Prop} (hq : ∀ σ', mT σ' (t ++ dl v d) → mTf σ σ' → Q σ') : wX12_digits ln σ 455 (nI v) Q := ⟨d - 1 + 1, M_dg2 hd G h hl hq (d - 1) 0 (by have := hd.1; omega)⟩
