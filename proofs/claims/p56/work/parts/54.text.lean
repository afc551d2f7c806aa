/-! THE TEXT that the law loads -/
def nd (v : Nat) : Nat := if v < 10 then 1 else if v < 100 then 2 else if v < 1000 then 3 else if v < 10000 then 4 else 5
theorem nd_ok {v : Nat} (h : v < 100000) : zdgt v (nd v) := by
  unfold nd
  by_cases h1 : v < 10
  · rw [if_pos h1]; exact ⟨by decide, by decide, Or.inl rfl, h1⟩
  rw [if_neg h1]
  by_cases h2 : v < 100
  · rw [if_pos h2]; exact ⟨by decide, by decide, Or.inr (by show 10 ≤ v; omega), h2⟩
  rw [if_neg h2]
  by_cases h3 : v < 1000
  · rw [if_pos h3]; exact ⟨by decide, by decide, Or.inr (by show 100 ≤ v; omega), h3⟩
  rw [if_neg h3]
  by_cases h4 : v < 10000
  · rw [if_pos h4]; exact ⟨by decide, by decide, Or.inr (by show 1000 ≤ v; omega), h4⟩
  · rw [if_neg h4]; exact ⟨by decide, by decide, Or.inr (by show 10000 ≤ v; omega), h⟩
theorem ndl_b (v : Nat) : 1 ≤ nd v ∧ nd v ≤ 5 := by
  unfold nd
  split
  · decide
  · split
    · decide
    · split
      · decide
      · split <;> decide
/-- a number's digits -/
def dec (v : Nat) : List Int32 := dl v (nd v)
theorem dec_len (v : Nat) : (dec v).length = nd v := dl_len v _
theorem sb_num {u : Nat} {S : zSp} {σ : zS} {t : List Int32} (h : sbT u S σ t 0) {v : Nat} (hv : v < 100000) (hl : t.length + 5 ≤ 142) {Q : Nat → zSp → zS → Prop} (hq : ∀ S' σ', sbT u S' σ' (t ++ dec v) 0 → sbF u S σ S' σ' → Q u S' σ') : wJ4_append_bf812 S σ u (nI v) Q :=
  sbT_int h (nd_ok hv) (by have := ndl_b v; omega) hq
theorem sb_wd {u : Nat} {S : zSp} {σ : zS} {t : List Int32} (h : sbT u S σ t 0) {s0 : Nat} (hs : zWd4 s0) (hl : t.length + (zSbyt.getD s0 []).length ≤ 142) {Q : Nat → zSp → zS → Prop} (hq : ∀ S' σ', sbT u S' σ' (t ++ zSbyt.getD s0 []) 0 → sbF u S σ S' σ' → Q u S' σ') : wJ4_append_15ec4 S σ u s0 Q :=
  sbT_str h hs (by have := hs.1; omega) hq
/-- characters, a blank before each -/
def sp : List Int32 → List Int32
  | [] => []
  | x :: l => 32 :: x :: sp l
theorem sp_len : ∀ l : List Int32, (sp l).length = 2 * l.length
  | [] => rfl
  | x :: l => by rw [sp, List.length_cons, List.length_cons, sp_len l, List.length_cons]; omega
/-- office 1's phase -/
def qF1 (L : Nat) (xs : Nat → Int32) : Nat := (((qF L xs : Nat) : Int) - ((qDl L xs * qR L xs : Nat) : Int)).emod ((1000 * qP L xs : Nat) : Int) |>.toNat
theorem qF1_b (L : Nat) (xs : Nat → Int32) : qF1 L xs < 1000 * qP L xs ∧ ((qF1 L xs : Nat) : Int) = (((qF L xs : Nat) : Int) - ((qDl L xs * qR L xs : Nat) : Int)) % ((1000 * qP L xs : Nat) : Int) := by
  have hP := qP_b L xs
  have h1 := Int.emod_nonneg (((qF L xs : Nat) : Int) - ((qDl L xs * qR L xs : Nat) : Int)) (show ((1000 * qP L xs : Nat) : Int) ≠ 0 by omega)
  have h2 := Int.emod_lt_of_pos (((qF L xs : Nat) : Int) - ((qDl L xs * qR L xs : Nat) : Int)) (show (0 : Int) < ((1000 * qP L xs : Nat) : Int) by omega)
  have e : qF1 L xs = ((((qF L xs : Nat) : Int) - ((qDl L xs * qR L xs : Nat) : Int)) % ((1000 * qP L xs : Nat) : Int)).toNat := rfl
  rw [e]
  omega
/-- line k as the law reads it -/
def lT (L : Nat) (xs : Nat → Int32) (k : Nat) : List Int32 := if qLn L xs = 1 ∧ lnT L xs 0 = [] then [97] else lnT L xs k
theorem lT_len (L : Nat) (xs : Nat → Int32) (k : Nat) : (lT L xs k).length ≤ 6 := by
  unfold lT
  split
  · decide
  · exact lnT_len L xs k
theorem lT_ok (L : Nat) (xs : Nat → Int32) (k : Nat) : ∀ x, x ∈ lT L xs k → lOk (qP L xs) x := by
  intro x hx
  unfold lT at hx
  split at hx
  · have hP := qP_b L xs
    rcases List.mem_cons.mp hx with rfl | h
    · exact ⟨97, rfl, Or.inr (by omega)⟩
    · exact absurd h (List.not_mem_nil)
  · exact lnT_ok L xs k x hx
/-- d lines from line k on -/
def mK (L : Nat) (xs : Nat → Int32) : Nat → Nat → List Int32
  | 0, _ => []
  | d + 1, k => (if k = 0 then [] else zSbyt.getD 18 []) ++ (sp (lT L xs k) ++ mK L xs d (k + 1))
def hT (L : Nat) (xs : Nat → Int32) : List Int32 := ((((((((((((((zSbyt.getD 13 [] ++ dec (qP L xs)) ++ zSbyt.getD 14 []) ++ dec (qF L xs)) ++ [32]) ++ dec (qR L xs)) ++ zSbyt.getD 14 []) ++ dec (qF1 L xs)) ++ [32]) ++ dec (qR1 L xs)) ++ zSbyt.getD 15 []) ++ dec (qDl L xs)) ++ zSbyt.getD 16 []) ++ dec (qC L xs)) ++ zSbyt.getD 17 [])
def qT (L : Nat) (xs : Nat → Int32) : List Int32 := (hT L xs ++ mK L xs (qLn L xs) 0) ++ [59]
theorem wds : zWd4 13 ∧ zWd4 14 ∧ zWd4 15 ∧ zWd4 16 ∧ zWd4 17 ∧ zWd4 18 ∧ zWd4 20 := by
  refine ⟨?_, ?_, ?_, ?_, ?_, ?_, ?_⟩ <;> (unfold zWd4; decide +kernel)
theorem wdl : (zSbyt.getD 13 []).length = 6 ∧ (zSbyt.getD 14 []).length = 8 ∧ (zSbyt.getD 15 []).length = 7 ∧ (zSbyt.getD 16 []).length = 9 ∧ (zSbyt.getD 17 []).length = 10 ∧ (zSbyt.getD 18 []).length = 2 ∧ zSbyt.getD 20 [] = [32, 97] := by decide +kernel
theorem hT_len (L : Nat) (xs : Nat → Int32) : (hT L xs).length ≤ 85 := by
  obtain ⟨w1, w2, w3, w4, w5, -, -⟩ := wdl
  unfold hT
  simp only [List.length_append, dec_len, w1, w2, w3, w4, w5, List.length_cons, List.length_nil]
  have := ndl_b (qP L xs)
  have := ndl_b (qF L xs)
  have := ndl_b (qR L xs)
  have := ndl_b (qF1 L xs)
  have := ndl_b (qR1 L xs)
  have := ndl_b (qDl L xs)
  have := ndl_b (qC L xs)
  omega
section QTEXT
variable {L : Nat} {xs : Nat → Int32} {Q : Nat → zSp → zS → Prop}
/-- one line's characters go in -/
theorem t_159 (hL : L ≤ 260) {u t v : Nat} {kb : Nat → Int32 → zSp → zS → Prop} {l : List Int32} (hA : qA l) (hv : v ≤ 2) (hl0 : v = 0 → l = lnT L xs 0) : ∀ (d i : Nat) (T : List Int32) (S : zSp) (σ : zS), i + d = l.length → T.length + 2 * d + 2 ≤ 142 → sbT u S σ T 0 → qS S σ t l → qD u σ t → (∀ S' σ', sbT u S' σ' (T ++ (sp (l.drop i) ++ (if v = 0 ∧ qLn L xs = 1 ∧ l = [] then [32, 97] else []))) 0 → sbF u S σ S' σ' → kb u (nI (v + 1)) S' σ') → wL_text_159 L xs Q kb (d + 1) u (nI v) t (nI i) S σ
  | 0, i, T, S, σ, hi, hl, h, H, D, hq => by
    have hlen := nI_le (a := l.length) (b := i) (by omega) (by obtain ⟨a, -, -, -, -, -, -, h7⟩ := H; omega)
    rw [List.drop_eq_nil_of_le (by omega), sp, List.nil_append] at hq
    rw [wL_text_159]
    refine s_len H ⟨fun _ => ⟨fun h0 => l_lines hL ⟨fun h1 => s_empty H (fun he => ⟨fun x => absurd x (by decide), fun _ => ?_⟩) (fun he => ⟨fun _ x9 e9 => ?_, fun x => absurd rfl x⟩), fun h1 x6 e6 => ?_⟩, fun h0 x3 e3 => ?_⟩, fun x => absurd hlen x⟩
    · have hv0 : v = 0 := (nI_eq (by omega) (by decide)).mp h0
      have hn1 : qLn L xs = 1 := (nI_eq (a := qLn L xs) (b := 1) (by have := qLn_b L xs; omega) (by decide)).mp h1
      rw [if_pos ⟨hv0, hn1, he⟩] at hq
      refine sb_wd h wds.2.2.2.2.2.2 (by rw [wdl.2.2.2.2.2.2]; show T.length + 2 ≤ 142; omega) (fun S' σ' h' f' x13 e13 => ?_)
      rw [wdl.2.2.2.2.2.2] at h'
      rw [nI_1] at e13
      subst e13
      exact hq S' σ' h' f'
    · rw [if_neg (fun x => he x.2.2), List.append_nil] at hq
      rw [nI_1] at e9
      subst e9
      exact hq S σ h sbF.rf
    · have hn1 : qLn L xs ≠ 1 := fun e => h1 (by rw [e]; rfl)
      rw [if_neg (fun x => hn1 x.2.1), List.append_nil] at hq
      rw [nI_1] at e6
      subst e6
      exact hq S σ h sbF.rf
    · have hv0 : v ≠ 0 := fun e => h0 (by rw [e]; rfl)
      rw [if_neg (fun x => hv0 x.1), List.append_nil] at hq
      rw [nI_1] at e3
      subst e3
      exact hq S σ h sbF.rf
  | d + 1, i, T, S, σ, hi, hl, h, H, D, hq => by
    have hlen : ¬ nI l.length ≤ nI i := nI_ge (by omega) (by obtain ⟨a, -, -, -, -, -, -, h7⟩ := H; omega)
    have t32 : (32 : Int32).toInt = 32 := rfl
    rw [wL_text_159]
    refine s_len H ⟨fun x => absurd x hlen, fun _ => sbT_char h (by omega) (by rw [t32]; omega) (fun S1 σ1 h1 f1 => ?_)⟩
    obtain ⟨H1, D1⟩ := H.f D f1
    refine s_char H1 hA (k := i) (by omega) ?_
    refine sbT_char h1 (by rw [List.length_append]; show T.length + 1 + 1 ≤ _; omega) (hA i (by omega)) (fun S2 σ2 h2 f2 x23 e23 => ?_)
    obtain ⟨H2, D2⟩ := H1.f D1 f2
    rw [nI_1] at e23
    subst e23
    refine t_159 hL hA hv hl0 d (i + 1) _ S2 σ2 (by omega) (by rw [List.length_append, List.length_append]; show T.length + 1 + 1 + _ + _ ≤ _; omega) h2 H2 D2 (fun S3 σ3 h3 f3 => hq S3 σ3 ?_ ((f1.tr f2).tr f3))
    rw [drop_getD l (show i < l.length by omega), sp]
    rw [List.append_assoc, List.append_assoc] at h3
    exact h3
theorem t_126 (hL : L ≤ 260) {u : Nat} : ∀ (d k : Nat) (T : List Int32) (S : zSp) (σ : zS), k + d = qLn L xs → T.length + 14 * d + 2 ≤ 142 → 455 ≤ zSk S → sbT u S σ T 0 → (∀ S' σ', sbT u S' σ' ((T ++ mK L xs d k) ++ [59]) 0 → sbF u S σ S' σ' → wJ4_toString_0e30d S' σ' u (fun r6 S5 σ5 => Q r6 S5 σ5)) → wL_text_126 L xs Q (d + 1) u (nI k) S σ
  | 0, k, T, S, σ, hk, hl, hS, h, hq => by
    have hb := qLn_b L xs
    have t59 : (59 : Int32).toInt = 59 := rfl
    rw [mK, List.append_nil] at hq
    rw [wL_text_126]
    refine l_lines hL ⟨fun _ => sbT_char h (by omega) (by rw [t59]; omega) (fun S1 σ1 h1 f1 => hq S1 σ1 h1 f1), fun x => absurd (nI_le (by omega) (by omega)) x⟩
  | d + 1, k, T, S, σ, hk, hl, hS, h, hq => by
    have hb := qLn_b L xs
    have hx : ¬ nI (qLn L xs) ≤ nI k := nI_ge (by omega) (by omega)
    have z0 : (0 : Int32).toInt = 0 := rfl
    have ek := nI_toInt (n := k) (by omega)
    have main : ∀ (T1 : List Int32) (S1 : zSp) (σ1 : zS), T1 = T ++ (if k = 0 then [] else zSbyt.getD 18 []) → sbT u S1 σ1 T1 0 → sbF u S σ S1 σ1 → wL_text_148 L xs Q (wL_text_126 L xs Q (d + 1)) u (nI k) S1 σ1 := by
      intro T1 S1 σ1 eT h1 f1
      have hl1 : T1.length ≤ T.length + 2 := by
        rw [eT, List.length_append]
        split
        · exact Nat.le_add_right _ _
        · rw [wdl.2.2.2.2.2.1]; exact Nat.le_refl _
      have hu := sbT_u h1
      have hl6 := lnT_len L xs k
      refine l_line hL (by omega) (by omega) (fun S2 σ2 t H2 X2 t2 a2 => ⟨(lnT L xs k).length + 1, by omega, ?_⟩)
      have h2 := h1.x X2
      have D2 : qD u σ2 t := by
        obtain ⟨a, q1, q2, q3, q4, q5, -⟩ := h1
        have eg : gr σ2 u 0 = gr σ1 u 0 := by rw [(X2.2 u hu.2).2.1]
        refine ⟨fun e => by omega, fun e => ?_, fun b hb2 => ⟨fun e => ?_, fun e => ?_⟩⟩
        · rw [eg, q1] at e
          injection e with e
          omega
        · have := a2 b hb2
          omega
        · rw [eg, q1] at e
          injection e with e
          have := a2 b hb2
          omega
      refine t_159 hL (v := k) (qA_of (lnT_ok L xs k)) (by omega) (fun e => by rw [e]) (lnT L xs k).length 0 T1 S2 σ2 (by omega) (by omega) h2 H2 D2 (fun S3 σ3 h3 f3 => ?_)
      rw [List.drop_zero] at h3
      have eL : sp (lnT L xs k) ++ (if k = 0 ∧ qLn L xs = 1 ∧ lnT L xs k = [] then [32, 97] else []) = sp (lT L xs k) := by
        unfold lT
        by_cases h1 : qLn L xs = 1
        · have k0 : k = 0 := by omega
          subst k0
          by_cases hn : lnT L xs 0 = []
          · rw [if_pos ⟨rfl, h1, hn⟩, if_pos ⟨h1, hn⟩, hn]; rfl
          · rw [if_neg (fun x => hn x.2.2), if_neg (fun x => hn x.2), List.append_nil]
        · rw [if_neg (fun x => h1 x.2.1), if_neg (fun x => h1 x.1), List.append_nil]
      rw [eL] at h3
      have hl3 := lT_len L xs k
      refine t_126 hL d (k + 1) _ S3 σ3 (by omega) (by rw [List.length_append, sp_len]; omega) (by have := X2.1; have := f3.1; have := sbT_u h2; omega) h3 (fun S4 σ4 h4 f4 => hq S4 σ4 ?_ ?_)
      · rw [mK, ← List.append_assoc T, ← eT, ← List.append_assoc T1]
        exact h4
      · have fx : sbF u S1 σ1 S2 σ2 := ⟨X2.1, fun a ha => (X2.2 a ha).1, fun a j ha _ => by rw [(X2.2 a ha).2.1], fun a ha _ _ => (X2.2 a ha).2.2.1, fun a ha => (X2.2 a ha).2.2.2, fun q hq2 => Or.inl (by rw [(X2.2 u hu.2).2.1] at hq2; exact hq2)⟩
        exact ((f1.tr fx).tr f3).tr f4
    rw [wL_text_126]
    refine l_lines hL ⟨fun x => absurd x hx, fun _ => ⟨fun h0 => ?_, fun h0 => ?_⟩⟩
    · rw [nle, ek, z0] at h0
      have k0 : k = 0 := by omega
      exact main T S σ (by rw [if_pos k0, List.append_nil]) h sbF.rf
    · rw [nle, ek, z0] at h0
      refine sb_wd h wds.2.2.2.2.2.1 (by rw [wdl.2.2.2.2.2.1]; omega) (fun S1 σ1 h1 f1 => main _ S1 σ1 ?_ h1 f1)
      rw [if_neg (by omega)]
end QTEXT
theorem l_floor {ln : Nat → Nat} {σ : zS} {v b : Int32} {Q : Int32 → zS → Prop} (hb : 0 < b.toInt) (hq : Q (mI v.toInt b.toInt) σ) : wJ9_floorMod_7cf53 ln σ v b Q := by
  have h0 : (0 : Int32).toInt = 0 := rfl
  exact (wmodulo (ln := ln) (σ := σ) hb hq).2 (fun h => absurd h (by rw [nle]; omega))
theorem qF1_e (L : Nat) (xs : Nat → Int32) : (nI (qF L xs) - nI (qDl L xs) * nI (qR L xs)).toInt = ((qF L xs : Nat) : Int) - ((qDl L xs * qR L xs : Nat) : Int) ∧ mI (nI (qF L xs) - nI (qDl L xs) * nI (qR L xs)).toInt (nI (1000 * qP L xs)).toInt = nI (qF1 L xs) := by
  have hP := qP_b L xs
  have hF := qF_b L xs
  have hD := qDl_b L xs
  have hR := qR_b L xs
  have hm : qDl L xs * qR L xs ≤ 20 * 400 := Nat.mul_le_mul hD.2 hR.2
  have e1 := nI_toInt (n := qF L xs) (by omega)
  have e2 := nI_toInt (n := qDl L xs * qR L xs) (by omega)
  have e3 := nI_toInt (n := 1000 * qP L xs) (by omega)
  have h1 : (nI (qF L xs) - nI (qDl L xs) * nI (qR L xs)).toInt = ((qF L xs : Nat) : Int) - ((qDl L xs * qR L xs : Nat) : Int) := by
    rw [nI_ml (by omega) (by omega) (by omega), nsub (by rw [e1, e2]; omega) (by rw [e1, e2]; omega), e1, e2]
  refine ⟨h1, ?_⟩
  have hb := qF1_b L xs
  rw [h1, e3, neq, mIt (by omega) (by omega), nI_toInt (by omega)]
  exact hb.2.symm
theorem l_text {L : Nat} {xs : Nat → Int32} {Q : Nat → zSp → zS → Prop} (hL : L ≤ 260) {S : zSp} {σ : zS} (hS : 455 ≤ zSk S) {v1 : Int32} (hv : v1 = nI (qR1 L xs)) (hq : ∀ S' σ' t, qS S' σ' t (qT L xs) → qX S σ S' σ' → Q t S' σ') : wL_text S σ L xs v1 Q := by
  have hP := qP_b L xs
  have hF := qF_b L xs
  have hF1 := (qF1_b L xs).1
  have hD := qDl_b L xs
  have hR := qR_b L xs
  have hR1 := qR1_b L xs
  have hC := qC_b L xs
  have hLn := qLn_b L xs
  have t32 : 0 ≤ (32 : Int32).toInt ∧ (32 : Int32).toInt < 128 := by decide
  obtain ⟨d1, d2, d3, d4, d5, -, -⟩ := wds
  obtain ⟨w1, w2, w3, w4, w5, -, -⟩ := wdl
  subst hv
  refine l_positions hL (fun x3 e3 => l_phase hL (l_delay hL (l_rate hL (fun x10 e10 => ?_))))
  rw [nI_1000] at e3
  subst e3 e10
  refine l_floor (by rw [nI_toInt (by omega)]; omega) ?_
  rw [(qF1_e L xs).2]
  intro a13 e13 S13 eS13 σ14 e14
  subst e13 eS13 e14
  refine sb_new hS (fun S0 σ0 h0 X0 N0 => ?_)
  generalize zSk S = u at h0 N0 ⊢
  have l0 : ([] : List Int32).length ≤ 0 := Nat.le_refl 0

  refine sb_wd h0 d1 (by omega) (fun S1 σ1 h1 f1 => ?_)
  have l1 : ([] ++ zSbyt.getD 13 []).length ≤ 6 := by rw [List.length_append, w1]; omega
  refine l_positions hL (sb_num h1 (by omega) (by omega) (fun S2 σ2 h2 f2 => ?_))
  have l2 : (([] ++ zSbyt.getD 13 []) ++ dec (qP L xs)).length ≤ 11 := by rw [List.length_append, dec_len]; have := ndl_b (qP L xs); omega
  refine sb_wd h2 d2 (by omega) (fun S3 σ3 h3 f3 => ?_)
  have l3 : ((([] ++ zSbyt.getD 13 []) ++ dec (qP L xs)) ++ zSbyt.getD 14 []).length ≤ 19 := by rw [List.length_append, w2]; omega
  refine l_phase hL (sb_num h3 (by omega) (by omega) (fun S4 σ4 h4 f4 => ?_))
  have l4 : (((([] ++ zSbyt.getD 13 []) ++ dec (qP L xs)) ++ zSbyt.getD 14 []) ++ dec (qF L xs)).length ≤ 24 := by rw [List.length_append, dec_len]; have := ndl_b (qF L xs); omega
  refine sbT_char h4 (by omega) t32 (fun S5 σ5 h5 f5 => ?_)
  have l5 : ((((([] ++ zSbyt.getD 13 []) ++ dec (qP L xs)) ++ zSbyt.getD 14 []) ++ dec (qF L xs)) ++ [32]).length ≤ 25 := by rw [List.length_append]; show _ + 1 ≤ _; omega
  refine l_rate hL (sb_num h5 (by omega) (by omega) (fun S6 σ6 h6 f6 => ?_))
  have l6 : (((((([] ++ zSbyt.getD 13 []) ++ dec (qP L xs)) ++ zSbyt.getD 14 []) ++ dec (qF L xs)) ++ [32]) ++ dec (qR L xs)).length ≤ 30 := by rw [List.length_append, dec_len]; have := ndl_b (qR L xs); omega
  refine sb_wd h6 d2 (by omega) (fun S7 σ7 h7 f7 => ?_)
  have l7 : ((((((([] ++ zSbyt.getD 13 []) ++ dec (qP L xs)) ++ zSbyt.getD 14 []) ++ dec (qF L xs)) ++ [32]) ++ dec (qR L xs)) ++ zSbyt.getD 14 []).length ≤ 38 := by rw [List.length_append, w2]; omega
  refine sb_num h7 (by omega) (by omega) (fun S8 σ8 h8 f8 => ?_)
  have l8 : (((((((([] ++ zSbyt.getD 13 []) ++ dec (qP L xs)) ++ zSbyt.getD 14 []) ++ dec (qF L xs)) ++ [32]) ++ dec (qR L xs)) ++ zSbyt.getD 14 []) ++ dec (qF1 L xs)).length ≤ 43 := by rw [List.length_append, dec_len]; have := ndl_b (qF1 L xs); omega
  refine sbT_char h8 (by omega) t32 (fun S9 σ9 h9 f9 => ?_)
  have l9 : ((((((((([] ++ zSbyt.getD 13 []) ++ dec (qP L xs)) ++ zSbyt.getD 14 []) ++ dec (qF L xs)) ++ [32]) ++ dec (qR L xs)) ++ zSbyt.getD 14 []) ++ dec (qF1 L xs)) ++ [32]).length ≤ 44 := by rw [List.length_append]; show _ + 1 ≤ _; omega
  refine sb_num h9 (by omega) (by omega) (fun S10 σ10 h10 f10 => ?_)
  have l10 : (((((((((([] ++ zSbyt.getD 13 []) ++ dec (qP L xs)) ++ zSbyt.getD 14 []) ++ dec (qF L xs)) ++ [32]) ++ dec (qR L xs)) ++ zSbyt.getD 14 []) ++ dec (qF1 L xs)) ++ [32]) ++ dec (qR1 L xs)).length ≤ 49 := by rw [List.length_append, dec_len]; have := ndl_b (qR1 L xs); omega
  refine sb_wd h10 d3 (by omega) (fun S11 σ11 h11 f11 => ?_)
  have l11 : ((((((((((([] ++ zSbyt.getD 13 []) ++ dec (qP L xs)) ++ zSbyt.getD 14 []) ++ dec (qF L xs)) ++ [32]) ++ dec (qR L xs)) ++ zSbyt.getD 14 []) ++ dec (qF1 L xs)) ++ [32]) ++ dec (qR1 L xs)) ++ zSbyt.getD 15 []).length ≤ 56 := by rw [List.length_append, w3]; omega
  refine l_delay hL (sb_num h11 (by omega) (by omega) (fun S12 σ12 h12 f12 => ?_))
  have l12 : (((((((((((([] ++ zSbyt.getD 13 []) ++ dec (qP L xs)) ++ zSbyt.getD 14 []) ++ dec (qF L xs)) ++ [32]) ++ dec (qR L xs)) ++ zSbyt.getD 14 []) ++ dec (qF1 L xs)) ++ [32]) ++ dec (qR1 L xs)) ++ zSbyt.getD 15 []) ++ dec (qDl L xs)).length ≤ 61 := by rw [List.length_append, dec_len]; have := ndl_b (qDl L xs); omega
  refine sb_wd h12 d4 (by omega) (fun S13 σ13 h13 f13 => ?_)
  have l13 : ((((((((((((([] ++ zSbyt.getD 13 []) ++ dec (qP L xs)) ++ zSbyt.getD 14 []) ++ dec (qF L xs)) ++ [32]) ++ dec (qR L xs)) ++ zSbyt.getD 14 []) ++ dec (qF1 L xs)) ++ [32]) ++ dec (qR1 L xs)) ++ zSbyt.getD 15 []) ++ dec (qDl L xs)) ++ zSbyt.getD 16 []).length ≤ 70 := by rw [List.length_append, w4]; omega
  refine l_correct hL (sb_num h13 (by omega) (by omega) (fun S14 σ14 h14 f14 => ?_))
  have l14 : (((((((((((((([] ++ zSbyt.getD 13 []) ++ dec (qP L xs)) ++ zSbyt.getD 14 []) ++ dec (qF L xs)) ++ [32]) ++ dec (qR L xs)) ++ zSbyt.getD 14 []) ++ dec (qF1 L xs)) ++ [32]) ++ dec (qR1 L xs)) ++ zSbyt.getD 15 []) ++ dec (qDl L xs)) ++ zSbyt.getD 16 []) ++ dec (qC L xs)).length ≤ 75 := by rw [List.length_append, dec_len]; have := ndl_b (qC L xs); omega
  refine sb_wd h14 d5 (by omega) (fun S15 σ15 h15 f15 => ?_)
  have l15 : ((((((((((((((([] ++ zSbyt.getD 13 []) ++ dec (qP L xs)) ++ zSbyt.getD 14 []) ++ dec (qF L xs)) ++ [32]) ++ dec (qR L xs)) ++ zSbyt.getD 14 []) ++ dec (qF1 L xs)) ++ [32]) ++ dec (qR1 L xs)) ++ zSbyt.getD 15 []) ++ dec (qDl L xs)) ++ zSbyt.getD 16 []) ++ dec (qC L xs)) ++ zSbyt.getD 17 []).length ≤ 85 := by rw [List.length_append, w5]; omega
  have F : sbF u S0 σ0 S15 σ15 := (((((((((((((f1.tr f2).tr f3).tr f4).tr f5).tr f6).tr f7).tr f8).tr f9).tr f10).tr f11).tr f12).tr f13).tr f14).tr f15
  have eT : ((((((((((((((([] ++ zSbyt.getD 13 []) ++ dec (qP L xs)) ++ zSbyt.getD 14 []) ++ dec (qF L xs)) ++ [32]) ++ dec (qR L xs)) ++ zSbyt.getD 14 []) ++ dec (qF1 L xs)) ++ [32]) ++ dec (qR1 L xs)) ++ zSbyt.getD 15 []) ++ dec (qDl L xs)) ++ zSbyt.getD 16 []) ++ dec (qC L xs)) ++ zSbyt.getD 17 []) = hT L xs := by unfold hT; rw [List.nil_append]
  rw [eT] at h15
  have hh := hT_len L xs
  have hu := sbT_u h15
  refine ⟨qLn L xs + 1, by omega, ?_⟩
  refine t_126 hL (qLn L xs) 0 (hT L xs) S15 σ15 (by omega) (by omega) (by omega) h15 (fun S16 σ16 h16 f16 => ?_)
  obtain ⟨X16, N16⟩ := X0.f N0 (F.tr f16)
  exact s_toString h16 (fun S17 σ17 H17 X17 A17 => hq S17 σ17 _ H17 (X16.tr X17))
