/-! MAKING: lines -/
theorem zSk_push (S : zSp) (kd n : Nat) : zSk (zSpush S kd n) = zSk S + 1 := rfl
theorem zNf_new (T : Nat → Nat → Prop) (S : zSp) (σ : zS) (kd n : Nat) : zNf T S σ (zSpush S kd n) (zfresh σ (zSk S)) := ⟨Nat.le_succ _, fun a ha => zSl_push _ ha, fun a j ha _ => by rw [zfresh_r σ (Nat.ne_of_lt ha)], fun a ha => ⟨zfresh_i σ (Nat.ne_of_lt ha), zfresh_l σ (Nat.ne_of_lt ha), zfresh_d σ (Nat.ne_of_lt ha)⟩⟩
theorem zNf_sr (S : zSp) (σ : zS) (t k : Nat) (v : Option Nat) : zNf (fun a j => a = t ∧ j = k) S σ S (sr σ t k v) := ⟨Nat.le_refl _, fun _ _ => rfl, fun a j ha h => by
  rw [gr_sr]
  by_cases e : a = t
  · rw [if_pos e, if_neg (fun x => h ⟨e, x⟩)]
  · rw [if_neg e], fun _ _ => ⟨rfl, rfl, rfl⟩⟩
/-- one making after another; what the second names may be new -/
theorem zNf.tr2 {T T' : Nat → Nat → Prop} {S S' S'' : zSp} {σ σ' σ'' : zS} (h : zNf T S σ S' σ') (g : zNf T' S' σ' S'' σ'') (e : ∀ a j, a < zSk S → T' a j → T a j) : zNf T S σ S'' σ'' := ⟨Nat.le_trans h.1 g.1, fun a ha => (g.2.1 a (Nat.lt_of_lt_of_le ha h.1)).trans (h.2.1 a ha), fun a j ha hT => (g.2.2.1 a j (Nat.lt_of_lt_of_le ha h.1) (fun x => hT (e a j ha x))).trans (h.2.2.1 a j ha hT), fun a ha => by
  obtain ⟨g1, g2, g3⟩ := g.2.2.2 a (Nat.lt_of_lt_of_le ha h.1)
  obtain ⟨h1, h2, h3⟩ := h.2.2.2 a ha
  exact ⟨g1.trans h1, g2.trans h2, g3.trans h3⟩⟩
theorem mk2 {S : zSp} {σ : zS} {t0 : Nat} (ht : t0 < zSk S) {Q : zSp → zS → Prop} (hq : ∀ S' σ', zNf (fun a j => a = t0 ∧ (j = 0 ∨ j = 1)) S σ S' σ' → zSk S' = zSk S + 4 → zSl S' (zSk S + 1) = 30 → zSl S' (zSk S + 3) = 62 → gr σ' t0 0 = some (zSk S) → gr σ' (zSk S) 0 = some (zSk S + 1) → gr σ' t0 1 = some (zSk S + 2) → gr σ' (zSk S + 2) 0 = some (zSk S + 3) → (∀ a, zSk S ≤ a → a < zSk S + 4 → gi σ' a = fun _ => 0) → Q S' σ') : wX2_init S σ t0 Q := by
  intro a1 e1 S1 eS1 σ2 e2
  subst e1 eS1 e2
  refine mk9 (n := 30) rfl (by decide) (Nat.lt_succ_self _) (fun σ3 f3 g3 z3 => ?_)
  intro σ5 e5 a6 e6 S6 eS6 σ7 e7
  subst e5 e6 eS6 e7
  refine mk9 (n := 62) rfl (by decide) (Nat.lt_succ_self _) (fun σ8 f8 g8 z8 => ?_)
  intro σ10 e10
  subst e10
  have k1 : zSk (zSpush S 9 0) = zSk S + 1 := rfl
  have k2 : zSk (zSpush (zSpush S 9 0) 20 30) = zSk S + 2 := rfl
  have k3 : zSk (zSpush (zSpush (zSpush S 9 0) 20 30) 9 0) = zSk S + 3 := rfl
  rw [k1] at g3 z3
  rw [k2] at f8 g8
  rw [k3] at g8 z8
  rw [k2]
  have l1 : zSl (zSpush (zSpush (zSpush (zSpush S 9 0) 20 30) 9 0) 20 62) (zSk S + 1) = 30 := by
    rw [zSl_push _ (by rw [k3]; omega), zSl_push _ (by rw [k2]; omega)]
    exact zSl_new (zSpush S 9 0) 20 30
  have l3 : zSl (zSpush (zSpush (zSpush (zSpush S 9 0) 20 30) 9 0) 20 62) (zSk S + 3) = 62 := zSl_new (zSpush (zSpush (zSpush S 9 0) 20 30) 9 0) 20 62
  have A := (((zNf_new (fun a j => a = t0 ∧ (j = 0 ∨ j = 1)) S σ 9 0).tr2 f3 (fun a j ha hT => absurd hT.1 (by omega))).tr2 (zNf_sr (zSpush (zSpush S 9 0) 20 30) σ3 t0 0 (some (zSk S))) (fun a j ha hT => ⟨hT.1, Or.inl hT.2⟩)).tr2 (zNf_new (fun _ _ => False) (zSpush (zSpush S 9 0) 20 30) (sr σ3 t0 0 (some (zSk S))) 9 0) (fun a j ha hT => hT.elim)
  have A2 := (A.tr2 f8 (fun a j ha hT => absurd hT.1 (by omega))).tr2 (zNf_sr (zSpush (zSpush (zSpush (zSpush S 9 0) 20 30) 9 0) 20 62) σ8 t0 1 (some (zSk S + 2))) (fun a j ha hT => ⟨hT.1, Or.inr hT.2⟩)
  have r8 : ∀ a j, a < zSk S + 2 → gr σ8 a j = gr (sr σ3 t0 0 (some (zSk S))) a j := fun a j ha => by
    rw [f8.2.2.1 a j (by rw [k3]; omega) (fun x => by have := x.1; omega)]
    exact congrFun (zfresh_r (sr σ3 t0 0 (some (zSk S))) (k := zSk S + 2) (b := a) (by omega)) j
  have i8 : ∀ a, a < zSk S + 2 → gi σ8 a = gi σ3 a := fun a ha => by
    rw [(f8.2.2.2 a (by rw [k3]; omega)).1]
    exact zfresh_i (sr σ3 t0 0 (some (zSk S))) (k := zSk S + 2) (b := a) (by omega)
  refine hq _ _ A2 rfl l1 l3 ?_ ?_ ?_ ?_ (fun a h1 h2 => ?_)
  · rw [gr_sr, if_pos rfl, if_neg (by decide), r8 t0 0 (by omega), gr_sr, if_pos rfl, if_pos rfl]
  · rw [gr_sr, if_neg (by omega), r8 _ 0 (by omega), gr_sr, if_neg (by omega)]; exact g3
  · rw [gr_sr, if_pos rfl, if_pos rfl]
  · rw [gr_sr, if_neg (by omega)]; exact g8
  · rw [gi_sr]
    rcases (show a = zSk S ∨ a = zSk S + 1 ∨ a = zSk S + 2 ∨ a = zSk S + 3 by omega) with rfl | rfl | rfl | rfl
    · rw [i8 _ (by omega), (f3.2.2.2 _ (by rw [k1]; omega)).1]
      exact zfresh_0 σ _
    · rw [i8 _ (by omega)]; exact z3
    · rw [(f8.2.2.2 _ (by rw [k3]; omega)).1]
      exact zfresh_0 _ _
    · exact z8
