/-! MAKING: desks -/
def lnF (S : zSp) (σ : zS) (k q : Nat) : Prop := gr σ k q = some (k + 1 + 5 * q) ∧ gr σ (k + 1 + 5 * q) 0 = some (k + 2 + 5 * q) ∧ gr σ (k + 2 + 5 * q) 0 = some (k + 3 + 5 * q) ∧ gr σ (k + 1 + 5 * q) 1 = some (k + 4 + 5 * q) ∧ gr σ (k + 4 + 5 * q) 0 = some (k + 5 + 5 * q) ∧ zSl S (k + 3 + 5 * q) = 30 ∧ zSl S (k + 5 + 5 * q) = 62 ∧ ∀ a, k + 1 + 5 * q ≤ a → a < k + 6 + 5 * q → gi σ a = fun _ => 0
theorem zNf.mono' {T T' : Nat → Nat → Prop} {S S' : zSp} {σ σ' : zS} (h : zNf T S σ S' σ') (e : ∀ a j, a < zSk S → T a j → T' a j) : zNf T' S σ S' σ' := ⟨h.1, h.2.1, fun a j ha hT => h.2.2.1 a j ha (fun x => hT (e a j ha x)), h.2.2.2⟩
theorem mk0_15 {t0 k : Nat} (ht : t0 < k) {Q : zSp → zS → Prop} : ∀ (d i : Nat) (S : zSp) (σ : zS), i + d = 12 → gr σ t0 3 = some k → zSl S k = 12 → zSk S = k + 1 + 5 * i → (∀ q, q < i → lnF S σ k q) → (∀ S' σ', zNf (fun a _ => a = k) S σ S' σ' → zSk S' = k + 61 → (∀ q, q < 12 → lnF S' σ' k q) → Q S' σ') → wX0_init_15 Q (d + 1) t0 (nI i) S σ
  | 0, i, S, σ, hi, g, l, hk, hf, hq => by
    have e : nI (zSl S k) ≤ nI i := by rw [l]; exact nI_le (by omega) (by omega)
    rw [wX0_init_15]
    refine ⟨k, g, fun _ => hq S σ ⟨Nat.le_refl _, fun _ _ => rfl, fun _ _ _ _ => rfl, fun _ _ => ⟨rfl, rfl, rfl⟩⟩ (by omega) (fun q h => hf q (by omega)), fun hx => absurd e hx⟩
  | d + 1, i, S, σ, hi, g, l, hk, hf, hq => by
    have e : ¬ nI (zSl S k) ≤ nI i := by rw [l]; exact nI_ge (by omega) (by omega)
    rw [wX0_init_15]
    refine ⟨k, g, fun hx => absurd hx e, fun _ => ⟨k, g, fun a3 e3 S3 eS3 σ4 e4 => ?_⟩⟩
    subst e3 eS3 e4
    have k3 : zSk (zSpush S 2 0) = zSk S + 1 := rfl
    refine mk2 (by rw [k3]; omega) (fun S5 σ5 f5 s5 l5 l5' r1 r2 r3 r4 z5 => ?_)
    rw [k3] at s5 l5 l5' r1 r2 r3 r4 z5
    have F5 := (zNf_new (fun _ _ => False) S σ 2 0).tr2 f5 (fun a j ha hT => by have := hT.1; omega)
    have l5k : zSl S5 k = 12 := by rw [F5.2.1 k (by omega)]; exact l
    refine ⟨by rw [l5k]; exact vp_in_nI (by omega) (by omega), fun σ8 e8 x9 e9 => ?_⟩
    rw [nI_clamp (by omega)] at e8
    rw [nI_1] at e9
    subst e8 e9
    have F8 := (F5.mono' (T' := fun a _ => a = k) (fun a j _ h => h.elim)).tr2 (zNf_sr S5 σ5 k i (some (zSk S))) (fun a j ha hT => hT.1)
    have zc : gi σ5 (zSk S) = fun _ => 0 := by
      rw [(f5.2.2.2 (zSk S) (by rw [k3]; omega)).1]
      exact zfresh_0 σ _
    have hr : ∀ a j, a ≠ k → gr (sr σ5 k i (some (zSk S))) a j = gr σ5 a j := fun a j ha => by rw [gr_sr, if_neg ha]
    refine mk0_15 ht d (i + 1) S5 (sr σ5 k i (some (zSk S))) (by omega) ?_ l5k (by omega) (fun q hq2 => ?_) (fun S' σ' f' s' h' => hq S' σ' (F8.tr f') s' h')
    · rw [hr t0 3 (by omega), F5.2.2.1 t0 3 (by omega) (fun x => x)]; exact g
    · by_cases hqi : q = i
      · subst hqi
        rw [hk] at s5 l5 l5' r1 r2 r3 r4 z5 zc ⊢
        refine ⟨by rw [gr_sr, if_pos rfl, if_pos rfl], ?_, ?_, ?_, ?_, ?_, ?_, fun a h1 h2 => ?_⟩
        · rw [← hk, hr _ _ (by omega), hk, r1]; congr 1; omega
        · rw [← hk, hr _ _ (by omega), show k + 2 + 5 * q = k + 1 + 5 * q + 1 by omega, r2]; congr 1; omega
        · rw [← hk, hr _ _ (by omega), hk, r3]; congr 1; omega
        · rw [← hk, hr _ _ (by omega), show k + 4 + 5 * q = k + 1 + 5 * q + 1 + 2 by omega, r4]; congr 1; omega
        · rw [show k + 3 + 5 * q = k + 1 + 5 * q + 1 + 1 by omega]; exact l5
        · rw [show k + 5 + 5 * q = k + 1 + 5 * q + 1 + 3 by omega]; exact l5'
        · rw [gi_sr]
          by_cases ea : a = k + 1 + 5 * q
          · rw [ea]; exact zc
          · exact z5 a (by omega) (by omega)
      · obtain ⟨h1, h2, h3, h4, h5, h6, h7, h8⟩ := hf q (by omega)
        have F : ∀ a j, a < zSk S → ¬ (a = k ∧ j = i) → gr (sr σ5 k i (some (zSk S))) a j = gr σ a j := fun a j ha hT => by
          rw [gr_sr]
          by_cases ea : a = k
          · rw [if_pos ea, if_neg (fun x => hT ⟨ea, x⟩), F5.2.2.1 a j ha (fun x => x)]
          · rw [if_neg ea, F5.2.2.1 a j ha (fun x => x)]
        refine ⟨by rw [F _ _ (by omega) (by omega)]; exact h1, by rw [F _ _ (by omega) (by omega)]; exact h2, by rw [F _ _ (by omega) (by omega)]; exact h3, by rw [F _ _ (by omega) (by omega)]; exact h4, by rw [F _ _ (by omega) (by omega)]; exact h5, by rw [F5.2.1 _ (by omega)]; exact h6, by rw [F5.2.1 _ (by omega)]; exact h7, fun a x1 x2 => ?_⟩
        rw [gi_sr, (F5.2.2.2 a (by omega)).1]
        exact h8 a x1 x2
