/-! THE TEXT: words; the model's text -/
theorem c_coder {ln : Nat → Nat} {σ : zS} {s0 : Nat} {Q : Int32 → zS → Prop} (hq : Q 0 σ) : wJ0_coder_7d493 ln σ s0 Q := ⟨fun h => absurd h (by decide), fun _ => ⟨rfl, hq⟩⟩
theorem getD_app2 (t B : List Int32) (k : Nat) : (t ++ B).getD k 0 = if k < t.length then t.getD k 0 else B.getD (k - t.length) 0 := by
  by_cases h : k < t.length
  · rw [if_pos h, List.getD_eq_getElem?_getD, List.getD_eq_getElem?_getD, List.getElem?_append_left h]
  · rw [if_neg h, List.getD_eq_getElem?_getD, List.getD_eq_getElem?_getD, List.getElem?_append_right (Nat.le_of_not_lt h)]
/-- the words -/
def zWd4 (s0 : Nat) : Prop := (zSbyt.getD s0 []).length = zSlen.getD s0 0 ∧ zSlen.getD s0 0 ≤ 18 ∧ ∀ k, k < zSlen.getD s0 0 → 0 ≤ ((zSbyt.getD s0 []).getD k 0).toInt ∧ ((zSbyt.getD s0 []).getD k 0).toInt < 128
theorem zWd4_31 : zWd4 31 ∧ zWd4 32 ∧ zWd4 33 ∧ zWd4 34 := by
  have h : ∀ s0, s0 = 31 ∨ s0 = 32 ∨ s0 = 33 ∨ s0 = 34 → zWd4 s0 := by
    intro s0 hs
    rcases hs with rfl | rfl | rfl | rfl <;> (unfold zWd4; decide +kernel)
  exact ⟨h 31 (by omega), h 32 (by omega), h 33 (by omega), h 34 (by omega)⟩
theorem sbT_str {S : zSp} {σ : zS} {t : List Int32} (h : sbT S σ t 0) {s0 : Nat} (hs : zWd4 s0) (hl : t.length + zSlen.getD s0 0 ≤ 100) {Q : Nat → zSp → zS → Prop} (hq : ∀ S' σ', sbT S' σ' (t ++ zSbyt.getD s0 []) 0 → sbF S σ S' σ' → Q 5 S' σ') : wJ4_append_15ec4 S σ 5 s0 Q := by
  obtain ⟨b1, b2, b3⟩ := hs
  generalize hL : zSlen.getD s0 0 = L at b1 b2 b3 hl
  generalize hB : zSbyt.getD s0 [] = B at b1 b3 hq
  have q7 : gi σ 5 3 = nI t.length := by
    obtain ⟨a, q1, q2, q3, q4, q5, q6, q7, q8⟩ := h
    exact q7
  unfold wJ4_append_15ec4 wJ5_append_cf1ce wJ0_length_8abf5
  refine c_coder ?_
  rw [shr0, hL]
  intro x3 e3
  rw [q7, nI_plus] at e3
  refine sbT_cap h b2 hl e3 (fun S' σ' h' f' x6 e6 => ?_)
  obtain ⟨a, q1, q2, q3, q4, q5, q6, q7', q8, q9, q10⟩ := h'
  rw [q7'] at e6
  have n5 : (5 : Nat) ≠ a := by omega
  refine ⟨fun hx => absurd hx (by decide), fun _ => c_coder ⟨fun _ => ⟨a, q1, fun x e => ?_⟩, fun hx => absurd q6 hx⟩⟩
  rw [q6] at e
  subst e e6
  refine c_coder ⟨fun _ y3 f3 y4 f4 => ?_, fun hx => absurd rfl hx⟩
  rw [shl0] at f4
  rw [hL] at f3
  subst f3 f4
  have en := nI_toInt (n := t.length) (by omega)
  have eL := nI_toInt (n := L) (by omega)
  have z0 : (0 : Int32).toInt = 0 := rfl
  rw [nI_clamp (show t.length < 2 ^ 31 by omega), nI_clamp (show L < 2 ^ 31 by omega), hL]
  refine ⟨⟨by decide, by rw [nlt, en, z0]; omega, by rw [nlt, eL, z0]; omega, by show 0 + L ≤ L; omega, q8⟩, fun σ10 e10 x8 e8 σ9 e9 => ?_⟩
  have k3 : gi σ10 5 3 = nI t.length := by rw [e10, sI_out _ _ n5]; exact q7'
  rw [k3, nI_plus] at e8
  subst e8
  have o : ∀ b, b ≠ a → b ≠ 5 → gi σ9 b = gi σ' b := fun b h1 h2 => by rw [e9, si_out _ _ h2, e10, sI_out _ _ h1]
  have ca : ∀ k, gi σ9 a k = if t.length ≤ k ∧ k < t.length + L then B.getD (k - t.length) 0 else gi σ' a k := fun k => by
    rw [e9, si_out _ _ n5.symm, e10, sI_at]
    show (if t.length ≤ k ∧ k < t.length + L then (zSbyt.getD s0 []).getD (0 + (k - t.length)) 0 else gi σ' a k) = _
    rw [hB, Nat.zero_add]
  refine hq S' σ9 ⟨a, by rw [e9, e10]; exact q1, q2, q3, q4, q5, ?_, ?_, ?_, fun k hk => ?_, fun k hk => ?_⟩ (f'.tr ⟨Nat.le_refl _, fun _ _ => rfl, fun b j _ _ => by rw [e9, e10]; rfl, fun b h1 h2 h3 => o b (by omega) h2, fun b _ => by rw [e9, e10]; exact ⟨rfl, rfl⟩⟩)
  · rw [e9, si_at, zu_ne (by decide), e10, sI_out _ _ n5]; exact q6
  · rw [e9, si_at, zu_self, List.length_append, b1]
  · rw [List.length_append, b1]; omega
  · rw [List.length_append, b1] at hk
    rw [ca, getD_app2]
    by_cases e : k < t.length
    · rw [if_neg (by omega), if_pos e]; exact q9 k e
    · rw [if_pos (by omega), if_neg e]
  · rw [ca]
    by_cases e : t.length ≤ k ∧ k < t.length + L
    · rw [if_pos e]
      have := b3 (k - t.length) (by omega)
      omega
    · rw [if_neg e]; exact q10 k hk
/-- the model's text -/
def mT (σ : zS) (t : List Int32) : Prop := gi σ 455 11 = nI t.length ∧ ∀ k, k < t.length → gi σ 461 k = t.getD k 0
def mTf (σ σ' : zS) : Prop := σ'.2 = σ.2 ∧ (∀ a, a ≠ 455 → a ≠ 461 → gi σ' a = gi σ a) ∧ ∀ j, j ≠ 11 → gi σ' 455 j = gi σ 455 j
theorem mTf.rf {σ : zS} : mTf σ σ := ⟨rfl, fun _ _ _ => rfl, fun _ _ => rfl⟩
theorem mTf.tr {σ σ' σ'' : zS} (h : mTf σ σ') (g : mTf σ' σ'') : mTf σ σ'' := ⟨g.1.trans h.1, fun a h1 h2 => (g.2.1 a h1 h2).trans (h.2.1 a h1 h2), fun j h1 => (g.2.2 j h1).trans (h.2.2 j h1)⟩
theorem mTf.r {σ σ' : zS} (h : mTf σ σ') : gr σ' = gr σ := by
  show σ'.2.1 = σ.2.1
  rw [h.1]
theorem M_put {ln : Nat → Nat} {σ : zS} (G : zMg (gr σ) ln) {t : List Int32} (h : mT σ t) (hl : t.length < 100) {v : Int32} {Q : zS → Prop} (hq : ∀ σ', mT σ' (t ++ [v]) → mTf σ σ' → Q σ') : wX12_puts ln σ 455 v Q := by
  refine ⟨461, G.1.2.2.2.2.2.2.1, fun x2 e2 => ?_⟩
  rw [h.1] at e2
  subst e2
  refine ⟨by rw [G.2.2.2.2.2.2.1]; exact vp_in_nI (by omega) (by omega), fun σ4 e4 x5 e5 σ6 e6 => ?_⟩
  rw [nI_clamp (by omega)] at e4
  subst e4
  rw [si_out _ _ (show 455 ≠ 461 by decide), h.1, nI_1] at e5
  subst e5 e6
  refine hq _ ⟨?_, fun k hk => ?_⟩ ⟨rfl, fun a h1 h2 => by rw [si_out _ _ h1, si_out _ _ h2], fun j h1 => by rw [si_at, zu_ne h1, si_out _ _ (by decide)]⟩
  · rw [si_at, zu_self, List.length_append]; rfl
  · rw [si_out _ _ (by decide), si_at]
    rw [List.length_append] at hk
    have hk : k < t.length + 1 := hk
    by_cases e : k = t.length
    · rw [getD_app.2 e, e, zu_self]
    · rw [zu_ne e, getD_app.1 (by omega)]
      exact h.2 k (by omega)
theorem drop_getD (B : List Int32) {k : Nat} (h : k < B.length) : B.drop k = B.getD k 0 :: B.drop (k + 1) := by
  rw [List.drop_eq_getElem_cons h, List.getD_eq_getElem?_getD, List.getElem?_eq_getElem h]
  rfl
theorem M_says2 {ln : Nat → Nat} {s0 : Nat} (hs : zWd4 s0) {Q : zS → Prop} : ∀ (d k : Nat) (t : List Int32) (σ : zS), k + d = zSlen.getD s0 0 → zMg (gr σ) ln → mT σ t → t.length + d ≤ 100 → (∀ σ', mT σ' (t ++ (zSbyt.getD s0 []).drop k) → mTf σ σ' → Q σ') → wX12_says_2 ln Q (d + 1) 455 s0 (nI k) σ
  | 0, k, t, σ, hk, G, h, hl, hq => by
    have e : nI (zSlen.getD s0 0) ≤ nI k := nI_le (by omega) (by have := hs.2.1; omega)
    rw [wX12_says_2]
    refine c_coder ?_
    rw [shr0]
    refine ⟨fun _ => hq σ ?_ mTf.rf, fun h => absurd e h⟩
    rw [List.drop_eq_nil_iff.mpr (by rw [hs.1]; omega), List.append_nil]
    exact h
  | d + 1, k, t, σ, hk, G, h, hl, hq => by
    have h18 := hs.2.1
    have e : ¬ nI (zSlen.getD s0 0) ≤ nI k := nI_ge (by omega) (by omega)
    have hb := hs.2.2 k (by omega)
    have z0 : (0 : Int32).toInt = 0 := rfl
    rw [wX12_says_2]
    refine c_coder ?_
    rw [shr0]
    refine ⟨fun h => absurd h e, fun _ => ?_⟩
    refine ⟨fun hx => absurd hx (by decide), fun _ => ⟨fun _ => ⟨fun hx => absurd hx (by decide), fun _ x1 e1 => ?_⟩, fun hx => absurd rfl hx⟩⟩
    subst e1
    refine ⟨fun hx => absurd hx (by rw [nlt, nI_toInt (by omega), z0]; omega), fun _ => ⟨fun _ => ⟨vp_in_nI (by omega) (by omega), fun x4 e4 => ?_⟩, fun hx => absurd (by rw [nlt, nI_toInt (by omega), nI_toInt (by omega)]; omega) hx⟩⟩
    rw [nI_clamp (by omega), n_low hb] at e4
    subst e4
    rw [chr_id hb.1 (by omega)]
    refine ⟨nar_id hb.1 (by omega), M_put G h (by omega) (fun σ5 h5 f5 x6 e6 => ?_)⟩
    rw [nI_1] at e6
    subst e6
    refine M_says2 hs d (k + 1) (t ++ [(zSbyt.getD s0 []).getD k 0]) σ5 (by omega) (by rw [f5.r]; exact G) h5 (by rw [List.length_append]; show t.length + 1 + d ≤ 100; omega) (fun σ6 h6 f6 => hq σ6 ?_ (f5.tr f6))
    have ed : (zSbyt.getD s0 []).drop k = (zSbyt.getD s0 []).getD k 0 :: (zSbyt.getD s0 []).drop (k + 1) := drop_getD _ (by rw [hs.1]; omega)
    rw [ed]
    rw [List.append_assoc] at h6
    exact h6
theorem M_says {ln : Nat → Nat} {s0 : Nat} (hs : zWd4 s0) {σ : zS} (G : zMg (gr σ) ln) {t : List Int32} (h : mT σ t) (hl : t.length + zSlen.getD s0 0 ≤ 100) {Q : zS → Prop} (hq : ∀ σ', mT σ' (t ++ zSbyt.getD s0 []) → mTf σ σ' → Q σ') : wX12_says ln σ 455 s0 Q := ⟨zSlen.getD s0 0 + 1, M_says2 hs (zSlen.getD s0 0) 0 t σ (by omega) G h hl hq⟩
