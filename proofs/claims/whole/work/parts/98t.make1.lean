/-! MAKING: the states that are kept -/
theorem zMs_c {g g' : Nat → Nat → Option Nat} {ln ln' : Nat → Nat} {b : Nat} (M : zMs g ln b) (e : ∀ a, b ≤ a → a < b + 16 → g' a = g a ∧ ln' a = ln a) : zMs g' ln' b := by
  obtain ⟨⟨m1, m2, m3, m4, m5, m6⟩, ⟨a1, a2, a3, a4, a5, a6, a7, a8, a9⟩, ⟨l1, l2, l3, l4, l5, l6⟩⟩ := M
  unfold zMs
  rw [(e b (by omega) (by omega)).1, (e (b + 1) (by omega) (by omega)).1, (e (b + 2) (by omega) (by omega)).1, (e (b + 4) (by omega) (by omega)).1, (e (b + 5) (by omega) (by omega)).1, (e (b + 7) (by omega) (by omega)).1, (e (b + 8) (by omega) (by omega)).1, (e (b + 10) (by omega) (by omega)).1, (e (b + 12) (by omega) (by omega)).1, (e (b + 14) (by omega) (by omega)).1, (e (b + 3) (by omega) (by omega)).2, (e (b + 6) (by omega) (by omega)).2, (e (b + 9) (by omega) (by omega)).2, (e (b + 11) (by omega) (by omega)).2, (e (b + 13) (by omega) (by omega)).2, (e (b + 15) (by omega) (by omega)).2]
  exact ⟨⟨m1, m2, m3, m4, m5, m6⟩, ⟨a1, a2, a3, a4, a5, a6, a7, a8, a9⟩, ⟨l1, l2, l3, l4, l5, l6⟩⟩
/-- kept state q of the array k -/
def zkm (S : zSp) (σ : zS) (k q : Nat) : Prop := gr σ k q = some (k + 1 + 16 * q) ∧ zMs (gr σ) (zSl S) (k + 1 + 16 * q) ∧ KM σ (k + 1 + 16 * q) r00
theorem mkH15 {t k p : Nat} (ht : t < k) (hp : p + 127 ≤ k) {Q : zSp → zS → Prop} : ∀ (d i : Nat) (S : zSp) (σ : zS), i + d = 10 → gr σ t 0 = some k → zSl S k = 10 → zSk S = k + 1 + 16 * i → (∀ q, q < i → zkm S σ k q) → zPs (gr σ) (zSl S) p → zBg σ p r00 → (∀ S' σ', zNb k S σ S' σ' → zSk S' = k + 161 → zSl S' k = 10 → (∀ q, q < 10 → zkm S' σ' k q) → Q S' σ') → wX1_init_15 Q (d + 1) t p (nI i) S σ
  | 0, i, S, σ, hi, g, l, hk, hf, PS, BG, hq => by
    have e : nI (zSl S k) ≤ nI i := by rw [l]; exact nI_le (by omega) (by omega)
    rw [wX1_init_15]
    exact ⟨k, g, fun _ => hq S σ zNb.rf (by omega) l (fun q h => hf q (by omega)), fun hx => absurd e hx⟩
  | d + 1, i, S, σ, hi, g, l, hk, hf, PS, BG, hq => by
    have e : ¬ nI (zSl S k) ≤ nI i := by rw [l]; exact nI_ge (by omega) (by omega)
    rw [wX1_init_15]
    refine ⟨k, g, fun hx => absurd hx e, fun _ => ⟨k, g, fun a3 e3 S3 eS3 σ4 e4 => ?_⟩⟩
    rw [hk] at e3
    subst e3 eS3 e4
    refine mkM hk (by omega) PS BG (by decide) zPV_r00.2.2.2.2.1 (fun S5 σ5 B5 k5 M5 g5 K5 => ?_)
    have l5 : zSl S5 k = 10 := by rw [B5.l (by omega)]; exact l
    refine ⟨by rw [l5]; exact vp_in_nI (by omega) (by omega), fun σ8 e8 x9 e9 => ?_⟩
    rw [nI_clamp (by omega)] at e8
    rw [nI_1] at e9
    subst e8 e9
    have NB : zNb k S σ S5 (sr σ5 k i (some (k + 1 + 16 * i))) := (B5.mono (by omega)).tr (zNb_sr S5 σ5 k i _ (Nat.le_refl k))
    have ro : ∀ a, a ≠ k → gr (sr σ5 k i (some (k + 1 + 16 * i))) a = gr σ5 a := fun a ha => funext fun j => by rw [gr_sr, if_neg ha]
    refine mkH15 ht hp d (i + 1) S5 _ (by omega) ?_ l5 (by omega) (fun q hq2 => ?_) (zPs_b NB hp PS) (zBg_b NB hp BG) (fun S' σ' N' => hq S' σ' (NB.tr N'))
    · rw [NB.r ht]; exact g
    · by_cases eq : q = i
      · subst eq
        exact ⟨by rw [gr_sr, if_pos rfl, if_pos rfl], zMs_c M5 (fun a h1 h2 => ⟨ro a (by omega), rfl⟩), KM_o K5 (fun a h1 h2 => ⟨rfl, rfl⟩)⟩
      · obtain ⟨f1, f2, f3⟩ := hf q (by omega)
        refine ⟨?_, zMs_c f2 (fun a h1 h2 => ⟨(ro a (by omega)).trans (B5.r (by omega)), B5.l (by omega)⟩), KM_o f3 (fun a h1 h2 => ⟨B5.i (by omega), B5.g (by omega)⟩)⟩
        rw [gr_sr, if_pos rfl, if_neg eq, B5.r (by omega)]
        exact f1
theorem mkH {S : zSp} {σ : zS} {t p : Nat} (ht : zSk S = t) (hp : p + 127 ≤ t) (PS : zPs (gr σ) (zSl S) p) (BG : zBg σ p r00) {Q : zSp → zS → Prop} (hq : ∀ S' σ', zNb t S σ S' σ' → zSk S' = t + 162 → gr σ' t 0 = some (t + 1) → zSl S' (t + 1) = 10 → (∀ q, q < 10 → zkm S' σ' (t + 1) q) → (∀ j, gi σ' t j = 0) → Q S' σ') : wX1_init (zSpush S 1 0) (zfresh σ t) t p Q := by
  have k1 : zSk (zSpush S 1 0) = t + 1 := by rw [zSk_push, ht]
  have B1 := zNb_new S σ 1 0 ht (Nat.le_refl t)
  have z1 : gi (zfresh σ t) t = fun _ => 0 := zfresh_0 σ t
  generalize zSpush S 1 0 = S1 at k1 B1 ⊢
  generalize zfresh σ t = σ1 at B1 z1 ⊢
  intro a1 e1 S2 eS2 σ2 e2 σ3 e3
  rw [k1] at e1
  subst e1 eS2 e2 e3
  have B2 : zNb t S1 σ1 (zSpush S1 23 10) (sr (zfresh σ1 (t + 1)) t 0 (some (t + 1))) := (zNb_new S1 σ1 23 10 k1 (by omega)).tr (zNb_sr _ _ t 0 _ (Nat.le_refl t))
  have NB := B1.tr B2
  refine ⟨11, by decide, ?_⟩
  refine mkH15 (t := t) (k := t + 1) (p := p) (by omega) (by omega) 10 0 _ _ (by omega) (by rw [gr_sr, if_pos rfl, if_pos rfl]) ?_ (by rw [zSk_push, k1]) (fun q hq2 => absurd hq2 (Nat.not_lt_zero q)) (zPs_b NB hp PS) (zBg_b NB hp BG) (fun S' σ' N' s' l' h' => hq S' σ' (NB.tr (N'.mono (by omega))) s' ?_ l' h' (fun j => ?_))
  · rw [← k1]; exact zSl_new _ _ _
  · rw [N'.r (by omega), gr_sr, if_pos rfl, if_pos rfl]
  · rw [N'.i (by omega), gi_sr, gi_zf, if_neg (by omega), z1]
