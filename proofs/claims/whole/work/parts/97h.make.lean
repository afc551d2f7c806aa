/-! MAKING: rows -/
/-- what a making leaves alone: all that was there, but for places of references that T names -/
def zNf (T : Nat → Nat → Prop) (S : zSp) (σ : zS) (S' : zSp) (σ' : zS) : Prop := zSk S ≤ zSk S' ∧ (∀ a, a < zSk S → zSl S' a = zSl S a) ∧ (∀ a j, a < zSk S → ¬ T a j → gr σ' a j = gr σ a j) ∧ ∀ a, a < zSk S → gi σ' a = gi σ a ∧ gl σ' a = gl σ a ∧ gd σ' a = gd σ a
theorem zNf.tr {T : Nat → Nat → Prop} {S S' S'' : zSp} {σ σ' σ'' : zS} (h : zNf T S σ S' σ') (g : zNf T S' σ' S'' σ'') : zNf T S σ S'' σ'' := ⟨Nat.le_trans h.1 g.1, fun a ha => (g.2.1 a (Nat.lt_of_lt_of_le ha h.1)).trans (h.2.1 a ha), fun a j ha hT => (g.2.2.1 a j (Nat.lt_of_lt_of_le ha h.1) hT).trans (h.2.2.1 a j ha hT), fun a ha => by
  obtain ⟨g1, g2, g3⟩ := g.2.2.2 a (Nat.lt_of_lt_of_le ha h.1)
  obtain ⟨h1, h2, h3⟩ := h.2.2.2 a ha
  exact ⟨g1.trans h1, g2.trans h2, g3.trans h3⟩⟩
theorem mk9 {S : zSp} {σ : zS} {t0 n : Nat} {v : Int32} (hv : v = nI n) (hn : n ≤ 1000) (ht : t0 < zSk S) {Q : zSp → zS → Prop} (hq : ∀ σ', zNf (fun a j => a = t0 ∧ j = 0) S σ (zSpush S 20 n) σ' → gr σ' t0 0 = some (zSk S) → (gi σ' (zSk S) = fun _ => 0) → Q (zSpush S 20 n) σ') : wX9_init S σ t0 v Q := by
  intro x1 e1
  subst hv
  have en := nI_toInt (n := n) (by omega)
  have z0 : (0 : Int32).toInt = 0 := rfl
  have hx : x1 = nI n := by rw [e1, if_neg (by rw [nlt, en, z0]; omega)]
  subst hx
  refine ⟨by rw [nlt, en, z0]; omega, by rw [nI_clamp (by omega)]; exact hn, fun a2 e2 S2 e3 σ5 e5 σ6 e6 => ?_⟩
  rw [nI_clamp (by omega)] at e3
  subst e2 e3 e5 e6
  have nt : t0 ≠ zSk S := Nat.ne_of_lt ht
  refine hq _ ⟨Nat.le_succ _, fun a ha => zSl_push _ ha, fun a j ha hT => ?_, fun a ha => ?_⟩ ?_ ?_
  · rw [gr_sr, zfresh_r σ (Nat.ne_of_lt ha)]
    by_cases e : a = t0
    · rw [if_pos e, if_neg (fun x => hT ⟨e, x⟩)]
    · rw [if_neg e]
  · rw [gi_sr, gl_sr, gd_sr]
    exact ⟨zfresh_i σ (Nat.ne_of_lt ha), zfresh_l σ (Nat.ne_of_lt ha), zfresh_d σ (Nat.ne_of_lt ha)⟩
  · rw [gr_sr, if_pos rfl, if_pos rfl]
  · rw [gi_sr]
    exact zfresh_0 σ _
