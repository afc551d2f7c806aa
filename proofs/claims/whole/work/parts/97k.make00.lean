/-! MAKING: a desk -/
theorem mk0 {S : zSp} {σ : zS} {t0 : Nat} (ht : t0 < zSk S) {Q : zSp → zS → Prop} (hq : ∀ S' σ', zNf (fun a j => a = t0 ∧ j = 3) S σ S' σ' → zSk S' = zSk S + 61 → gr σ' t0 3 = some (zSk S) → zSl S' (zSk S) = 12 → (∀ q, q < 12 → lnF S' σ' (zSk S) q) → Q S' σ') : wX0_init S σ t0 Q := by
  intro a1 e1 S1 eS σ2 e2 σ3 e3
  subst e1 eS e2 e3
  have k1 : zSk (zSpush S 22 12) = zSk S + 1 := rfl
  have F := ((zNf_new (fun _ _ => False) S σ 22 12).mono' (T' := fun a j => a = t0 ∧ j = 3) (fun a j _ h => h.elim)).tr2 (zNf_sr (zSpush S 22 12) (zfresh σ (zSk S)) t0 3 (some (zSk S))) (fun a j _ h => h)
  have g : gr (sr (zfresh σ (zSk S)) t0 3 (some (zSk S))) t0 3 = some (zSk S) := by rw [gr_sr, if_pos rfl, if_pos rfl]
  refine ⟨13, by decide, ?_⟩
  exact mk0_15 (t0 := t0) (k := zSk S) ht (Q := Q) 12 0 (zSpush S 22 12) (sr (zfresh σ (zSk S)) t0 3 (some (zSk S))) (by omega) g (zSl_new S 22 12) (by rw [k1]) (fun q h => absurd h (Nat.not_lt_zero q)) (fun S' σ' f s h => hq S' σ' (F.tr2 f (fun a j ha hT => by omega)) s (by rw [f.2.2.1 t0 3 (by omega) (by omega)]; exact g) (by rw [f.2.1 (zSk S) (by omega)]; exact zSl_new S 22 12) h)
