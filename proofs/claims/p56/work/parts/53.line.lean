/-! A LINE's characters, as the law makes them -/
theorem c16 {w : Nat} (h : w < 128) : ((nI w).toUInt32 % 65536).toInt32 = nI w := by
  have : ∀ w, w < 128 → ((nI w).toUInt32 % 65536).toInt32 = nI w := by decide +kernel
  exact this w h
theorem sb_len {u : Nat} {S : zSp} {σ : zS} {T : List Int32} {m : Nat} (h : sbT u S σ T m) : T.length ≤ 142 := by
  obtain ⟨a, q1, q2, q3, q4, q5, q6, q7, q8, -⟩ := h
  omega
section QLINE
variable {L : Nat} {xs : Nat → Int32} {Q : Nat → zSp → zS → Prop}
theorem l_94 {u : Nat} {S : zSp} {σ : zS} {T : List Int32} (h : sbT u S σ T 0) (hl : T.length + 1 ≤ 142) {kb : Nat → Int32 → Int32 → Int32 → zSp → zS → Prop} {v : Nat} (hv : v < 2147483648) {v4 v5 : Int32} {mo base : Nat} (hm : 0 < mo ∧ mo ≤ 26) (hb : base ≤ 100) (hk : ∀ S' σ', sbT u S' σ' (T ++ [nI (base + v % mo)]) 0 → sbF u S σ S' σ' → kb u (nI v) v4 (v5 + 1) S' σ') : wL_line_94 L xs Q kb u (nI v) v4 v5 (nI mo) u (nI base) S σ := by
  have hv2 := Nat.mod_lt v hm.1
  refine ⟨fun e => ?_, fun x2 e2 x3 e3 => ?_⟩
  · have := congrArg Int32.toInt e
    rw [nI_toInt (by omega)] at this
    have z0 : (0 : Int32).toInt = 0 := rfl
    omega
  · rw [nI_md hv hm.1 (by omega), nI_pl] at e2
    subst e2
    rw [c16 (by omega)] at e3
    subst e3
    refine sbT_char h hl (by rw [nI_toInt (by omega)]; omega) (fun S' σ' h' f' x6 e6 => ?_)
    subst e6
    exact hk S' σ' h' f'
theorem l_56 (hL : L ≤ 260) {u : Nat} {S : zSp} {σ : zS} {T : List Int32} (h : sbT u S σ T 0) (hl : T.length + 1 ≤ 142) {kb : Nat → Int32 → Int32 → Int32 → zSp → zS → Prop} {v : Nat} (hv : v < 2147483648) {v4 v5 w : Int32} (hw : w = if v % 3 = 0 then 1 else 0) (hk : ∀ S' σ', sbT u S' σ' (T ++ [nI (lch (qP L xs) v)]) 0 → sbF u S σ S' σ' → kb u (nI v) v4 (v5 + 1) S' σ') : wL_line_56 L xs Q kb u (nI v) v4 v5 w S σ := by
  have hP := qP_b L xs
  have e2 : nI (qP L xs) - (2 : Int32) = nI (qP L xs - 2) := by
    have t2 : (2 : Int32).toInt = 2 := rfl
    have eP := nI_toInt (n := qP L xs) (by omega)
    rw [neq, nsub (by rw [eP, t2]; omega) (by rw [eP, t2]; omega), eP, t2, nI_toInt (by omega)]
    omega
  have mn : ∀ b : Nat, b ≤ 26 → (if nI (qP L xs - 2) < nI b then nI (qP L xs - 2) else nI b) = nI (min b (qP L xs - 2)) := by
    intro b hb
    by_cases hc : qP L xs - 2 < b
    · rw [if_pos (by rw [nlt, nI_toInt (by omega), nI_toInt (by omega)]; omega), Nat.min_eq_right (by omega)]
    · rw [if_neg (by rw [nlt, nI_toInt (by omega), nI_toInt (by omega)]; omega), Nat.min_eq_left (by omega)]
  unfold lch at hk
  by_cases h3 : v % 3 = 0
  · rw [if_pos h3] at hw hk
    subst hw
    refine ⟨fun e => absurd e (by decide), fun _ => l_positions hL (fun x3 e3 x4 e4 => ⟨fun e => absurd e (by decide), fun _ => ?_⟩)⟩
    rw [e2] at e3
    subst e3
    have e4' : x4 = nI (min 10 (qP L xs - 2)) := by rw [e4]; exact mn 10 (by decide)
    subst e4'
    exact l_94 (base := 48) h hl hv (by omega) (by decide) hk
  · rw [if_neg h3] at hw hk
    subst hw
    refine ⟨fun _ => l_positions hL (fun x3 e3 x4 e4 => ⟨fun _ => ?_, fun e => absurd rfl e⟩), fun e => absurd rfl e⟩
    rw [e2] at e3
    subst e3
    have e4' : x4 = nI (min 26 (qP L xs - 2)) := by rw [e4]; exact mn 26 (by decide)
    subst e4'
    exact l_94 (base := 97) h hl hv (by omega) (by decide) hk
theorem l_28 (hL : L ≤ 260) {u m : Nat} (hm : m ≤ 6) : ∀ (d i v : Nat) (T : List Int32) (S : zSp) (σ : zS), i + d = m → v < 2147483648 → sbT u S σ T 0 → T.length = i → (∀ S' σ', sbT u S' σ' (T ++ lgo (qP L xs) d i v) 0 → sbF u S σ S' σ' → wJ4_toString_0e30d S' σ' u (fun r2 S1 σ1 => Q r2 S1 σ1)) → wL_line_28 L xs Q (d + 1) u (nI v) (nI m) (nI i) S σ
  | 0, i, v, T, S, σ, hi, hv, h, hT, hq => by
    rw [wL_line_28]
    refine ⟨fun _ => ?_, fun hx => absurd (nI_le (by omega) (by omega)) hx⟩
    rw [lgo, List.append_nil] at hq
    exact hq S σ h sbF.rf
  | d + 1, i, v, T, S, σ, hi, hv, h, hT, hq => by
    have hx : ¬ nI m ≤ nI i := nI_ge (by omega) (by omega)
    rw [wL_line_28]
    refine ⟨fun e => absurd e hx, fun _ x3 e3 => ?_⟩
    have e3' : x3 = nI (v / 3 + 7 * i) := by
      rw [e3, show (3 : Int32) = nI 3 from rfl, nI_div (by omega) (by decide) (by decide), show (7 : Int32) = nI 7 from rfl, nI_ml (by omega) (by decide) (by omega), nI_pl]
    subst e3'
    have hv' : v / 3 + 7 * i < 2147483648 := by omega
    have e3 : nI (v / 3 + 7 * i) - nI (v / 3 + 7 * i) / 3 * 3 = nI ((v / 3 + 7 * i) % 3) := nI_md (n := 3) hv' (by decide) (by decide)
    have go : ∀ w, w = (if (v / 3 + 7 * i) % 3 = 0 then (1 : Int32) else 0) → wL_line_56 L xs Q (wL_line_28 L xs Q (d + 1)) u (nI (v / 3 + 7 * i)) (nI m) (nI i) w S σ := fun w hw => by
      refine l_56 hL h (by omega) hv' hw (fun S' σ' h' f' => ?_)
      rw [nI_1]
      refine l_28 hL hm d (i + 1) _ _ S' σ' (by omega) hv' h' (by rw [List.length_append]; show T.length + 1 = _; omega) (fun S2 σ2 h2 f2 => hq S2 σ2 ?_ (f'.tr f2))
      rw [lgo]
      rw [List.append_assoc] at h2
      exact h2
    rw [e3]
    refine ⟨fun e => go 1 ?_, fun e => go 0 ?_⟩
    · have := (nI_eq (a := (v / 3 + 7 * i) % 3) (b := 0) (by omega) (by omega)).mp e
      rw [if_pos this]
    · rw [if_neg (fun h => e (by rw [h]; rfl))]
theorem l_line (hL : L ≤ 260) {S : zSp} {σ : zS} (hS : 455 ≤ zSk S) {k : Nat} (hk : k ≤ 100) (hq : ∀ S' σ' t, qS S' σ' t (lnT L xs k) → qX S σ S' σ' → zSk S ≤ t → (∀ a, gr σ' t 0 = some a → zSk S ≤ a) → Q t S' σ') : wL_line S σ L xs (nI k) Q := by
  intro a1 e1 S1 eS1 σ2 e2
  subst e1 eS1 e2
  refine sb_new hS (fun S3 σ3 H3 X3 N3 x5 e5 => ?_)
  rw [show (5 : Int32) = nI 5 from rfl, nI_pl] at e5
  refine l_cell hL (k := 5 + k) (by omega) e5 (fun x8 e8 x9 e9 => ⟨pm (cl L xs (5 + k)) % 7 + 1, by omega, ?_⟩)
  have hp := (pm_e (cl L xs (5 + k))).2
  rw [(pm_e (cl L xs (5 + k))).1] at e8
  subst e8
  have e9' : x9 = nI (pm (cl L xs (5 + k)) % 7) := by rw [e9]; exact nI_md (n := 7) hp (by decide) (by decide)
  subst e9'
  refine l_28 hL (m := pm (cl L xs (5 + k)) % 7) (by omega) (pm (cl L xs (5 + k)) % 7) 0 _ [] S3 σ3 (by omega) hp H3 rfl (fun S4 σ4 H4 F4 => ?_)
  rw [List.nil_append] at H4
  obtain ⟨X4, N4⟩ := X3.f N3 F4
  refine s_toString H4 (fun S5 σ5 H5 X5 A5 => hq S5 σ5 _ H5 (X4.tr X5) X4.1 (fun a ha => Nat.le_trans X4.1 (A5 a ha)))
end QLINE
