/-! from 97h.make -/
/-! MAKING: rows -/
/-- what a making leaves alone: all that was there, but for places of references that T names -/
def zNf (T : Nat → Nat → Prop) (S : zSp) (σ : zS) (S' : zSp) (σ' : zS) : Prop := zSk S ≤ zSk S' ∧ (∀ a, a < zSk S → zSl S' a = zSl S a) ∧ (∀ a j, a < zSk S → ¬ T a j → gr σ' a j = gr σ a j) ∧ ∀ a, a < zSk S → gi σ' a = gi σ a ∧ gl σ' a = gl σ a ∧ gd σ' a = gd σ a
theorem zNf.tr {T : Nat → Nat → Prop} {S S' S'' : zSp} {σ σ' σ'' : zS} (h : zNf T S σ S' σ') (g : zNf T S' σ' S'' σ'') : zNf T S σ S'' σ'' := ⟨Nat.le_trans h.1 g.1, fun a ha => (g.2.1 a (Nat.lt_of_lt_of_le ha h.1)).trans (h.2.1 a ha), fun a j ha hT => (g.2.2.1 a j (Nat.lt_of_lt_of_le ha h.1) hT).trans (h.2.2.1 a j ha hT), fun a ha => by
  obtain ⟨g1, g2, g3⟩ := g.2.2.2 a (Nat.lt_of_lt_of_le ha h.1)
  obtain ⟨h1, h2, h3⟩ := h.2.2.2 a ha
  exact ⟨g1.trans h1, g2.trans h2, g3.trans h3⟩⟩
theorem mk9 {S : zSp} {σ : zS} {t0 n : Nat} {v : Int32} (hv : v = nI n) (hn : n ≤ 1000) (ht : t0 < zSk S) {Q : zSp → zS → Prop} (hq : ∀ σ', zNf (fun a j => a = t0 ∧ j = 0) S σ (zSpush S 20 n) σ' → gr σ' t0 0 = some (zSk S) → (gi σ' (zSk S) = fun _ => 0) → Q (zSpush S 20 n) σ') : wX9_init S σ t0 v Q := by
  intro x1 e1
  subst hv
  have en := nI_toInt (n := n) (by omega)
  have z0 : (0 : Int32).toInt = 0 := rfl
  have hx : x1 = nI n := by rw [e1, if_neg (by rw [nlt, en, z0]; omega)]
  subst hx
  refine ⟨by rw [nlt, en, z0]; omega, by rw [nI_clamp (by omega)]; exact hn, fun a2 e2 S2 e3 σ5 e5 σ6 e6 => ?_⟩
  rw [nI_clamp (by omega)] at e3
  subst e2 e3 e5 e6
  have nt : t0 ≠ zSk S := Nat.ne_of_lt ht
  refine hq _ ⟨Nat.le_succ _, fun a ha => zSl_push _ ha, fun a j ha hT => ?_, fun a ha => ?_⟩ ?_ ?_
  · rw [gr_sr, zfresh_r σ (Nat.ne_of_lt ha)]
    by_cases e : a = t0
    · rw [if_pos e, if_neg (fun x => hT ⟨e, x⟩)]
    · rw [if_neg e]
  · rw [gi_sr, gl_sr, gd_sr]
    exact ⟨zfresh_i σ (Nat.ne_of_lt ha), zfresh_l σ (Nat.ne_of_lt ha), zfresh_d σ (Nat.ne_of_lt ha)⟩
  · rw [gr_sr, if_pos rfl, if_pos rfl]
  · rw [gi_sr]
    exact zfresh_0 σ _

/-! from 97i.make2 -/
/-! MAKING: lines -/
theorem zSk_push (S : zSp) (kd n : Nat) : zSk (zSpush S kd n) = zSk S + 1 := rfl
theorem zNf_new (T : Nat → Nat → Prop) (S : zSp) (σ : zS) (kd n : Nat) : zNf T S σ (zSpush S kd n) (zfresh σ (zSk S)) := ⟨Nat.le_succ _, fun a ha => zSl_push _ ha, fun a j ha _ => by rw [zfresh_r σ (Nat.ne_of_lt ha)], fun a ha => ⟨zfresh_i σ (Nat.ne_of_lt ha), zfresh_l σ (Nat.ne_of_lt ha), zfresh_d σ (Nat.ne_of_lt ha)⟩⟩
theorem zNf_sr (S : zSp) (σ : zS) (t k : Nat) (v : Option Nat) : zNf (fun a j => a = t ∧ j = k) S σ S (sr σ t k v) := ⟨Nat.le_refl _, fun _ _ => rfl, fun a j ha h => by
  rw [gr_sr]
  by_cases e : a = t
  · rw [if_pos e, if_neg (fun x => h ⟨e, x⟩)]
  · rw [if_neg e], fun _ _ => ⟨rfl, rfl, rfl⟩⟩
/-- one making after another; what the second names may be new -/
theorem zNf.tr2 {T T' : Nat → Nat → Prop} {S S' S'' : zSp} {σ σ' σ'' : zS} (h : zNf T S σ S' σ') (g : zNf T' S' σ' S'' σ'') (e : ∀ a j, a < zSk S → T' a j → T a j) : zNf T S σ S'' σ'' := ⟨Nat.le_trans h.1 g.1, fun a ha => (g.2.1 a (Nat.lt_of_lt_of_le ha h.1)).trans (h.2.1 a ha), fun a j ha hT => (g.2.2.1 a j (Nat.lt_of_lt_of_le ha h.1) (fun x => hT (e a j ha x))).trans (h.2.2.1 a j ha hT), fun a ha => by
  obtain ⟨g1, g2, g3⟩ := g.2.2.2 a (Nat.lt_of_lt_of_le ha h.1)
  obtain ⟨h1, h2, h3⟩ := h.2.2.2 a ha
  exact ⟨g1.trans h1, g2.trans h2, g3.trans h3⟩⟩
theorem mk2 {S : zSp} {σ : zS} {t0 : Nat} (ht : t0 < zSk S) {Q : zSp → zS → Prop} (hq : ∀ S' σ', zNf (fun a j => a = t0 ∧ (j = 0 ∨ j = 1)) S σ S' σ' → zSk S' = zSk S + 4 → zSl S' (zSk S + 1) = 30 → zSl S' (zSk S + 3) = 62 → gr σ' t0 0 = some (zSk S) → gr σ' (zSk S) 0 = some (zSk S + 1) → gr σ' t0 1 = some (zSk S + 2) → gr σ' (zSk S + 2) 0 = some (zSk S + 3) → (∀ a, zSk S ≤ a → a < zSk S + 4 → gi σ' a = fun _ => 0) → Q S' σ') : wX2_init S σ t0 Q := by
  intro a1 e1 S1 eS1 σ2 e2
  subst e1 eS1 e2
  refine mk9 (n := 30) rfl (by decide) (Nat.lt_succ_self _) (fun σ3 f3 g3 z3 => ?_)
  intro σ5 e5 a6 e6 S6 eS6 σ7 e7
  subst e5 e6 eS6 e7
  refine mk9 (n := 62) rfl (by decide) (Nat.lt_succ_self _) (fun σ8 f8 g8 z8 => ?_)
  intro σ10 e10
  subst e10
  have k1 : zSk (zSpush S 9 0) = zSk S + 1 := rfl
  have k2 : zSk (zSpush (zSpush S 9 0) 20 30) = zSk S + 2 := rfl
  have k3 : zSk (zSpush (zSpush (zSpush S 9 0) 20 30) 9 0) = zSk S + 3 := rfl
  rw [k1] at g3 z3
  rw [k2] at f8 g8
  rw [k3] at g8 z8
  rw [k2]
  have l1 : zSl (zSpush (zSpush (zSpush (zSpush S 9 0) 20 30) 9 0) 20 62) (zSk S + 1) = 30 := by
    rw [zSl_push _ (by rw [k3]; omega), zSl_push _ (by rw [k2]; omega)]
    exact zSl_new (zSpush S 9 0) 20 30
  have l3 : zSl (zSpush (zSpush (zSpush (zSpush S 9 0) 20 30) 9 0) 20 62) (zSk S + 3) = 62 := zSl_new (zSpush (zSpush (zSpush S 9 0) 20 30) 9 0) 20 62
  have A := (((zNf_new (fun a j => a = t0 ∧ (j = 0 ∨ j = 1)) S σ 9 0).tr2 f3 (fun a j ha hT => absurd hT.1 (by omega))).tr2 (zNf_sr (zSpush (zSpush S 9 0) 20 30) σ3 t0 0 (some (zSk S))) (fun a j ha hT => ⟨hT.1, Or.inl hT.2⟩)).tr2 (zNf_new (fun _ _ => False) (zSpush (zSpush S 9 0) 20 30) (sr σ3 t0 0 (some (zSk S))) 9 0) (fun a j ha hT => hT.elim)
  have A2 := (A.tr2 f8 (fun a j ha hT => absurd hT.1 (by omega))).tr2 (zNf_sr (zSpush (zSpush (zSpush (zSpush S 9 0) 20 30) 9 0) 20 62) σ8 t0 1 (some (zSk S + 2))) (fun a j ha hT => ⟨hT.1, Or.inr hT.2⟩)
  have r8 : ∀ a j, a < zSk S + 2 → gr σ8 a j = gr (sr σ3 t0 0 (some (zSk S))) a j := fun a j ha => by
    rw [f8.2.2.1 a j (by rw [k3]; omega) (fun x => by have := x.1; omega)]
    exact congrFun (zfresh_r (sr σ3 t0 0 (some (zSk S))) (k := zSk S + 2) (b := a) (by omega)) j
  have i8 : ∀ a, a < zSk S + 2 → gi σ8 a = gi σ3 a := fun a ha => by
    rw [(f8.2.2.2 a (by rw [k3]; omega)).1]
    exact zfresh_i (sr σ3 t0 0 (some (zSk S))) (k := zSk S + 2) (b := a) (by omega)
  refine hq _ _ A2 rfl l1 l3 ?_ ?_ ?_ ?_ (fun a h1 h2 => ?_)
  · rw [gr_sr, if_pos rfl, if_neg (by decide), r8 t0 0 (by omega), gr_sr, if_pos rfl, if_pos rfl]
  · rw [gr_sr, if_neg (by omega), r8 _ 0 (by omega), gr_sr, if_neg (by omega)]; exact g3
  · rw [gr_sr, if_pos rfl, if_pos rfl]
  · rw [gr_sr, if_neg (by omega)]; exact g8
  · rw [gi_sr]
    rcases (show a = zSk S ∨ a = zSk S + 1 ∨ a = zSk S + 2 ∨ a = zSk S + 3 by omega) with rfl | rfl | rfl | rfl
    · rw [i8 _ (by omega), (f3.2.2.2 _ (by rw [k1]; omega)).1]
      exact zfresh_0 σ _
    · rw [i8 _ (by omega)]; exact z3
    · rw [(f8.2.2.2 _ (by rw [k3]; omega)).1]
      exact zfresh_0 _ _
    · exact z8

/-! from 97j.make0 -/
/-! MAKING: desks -/
def lnF (S : zSp) (σ : zS) (k q : Nat) : Prop := gr σ k q = some (k + 1 + 5 * q) ∧ gr σ (k + 1 + 5 * q) 0 = some (k + 2 + 5 * q) ∧ gr σ (k + 2 + 5 * q) 0 = some (k + 3 + 5 * q) ∧ gr σ (k + 1 + 5 * q) 1 = some (k + 4 + 5 * q) ∧ gr σ (k + 4 + 5 * q) 0 = some (k + 5 + 5 * q) ∧ zSl S (k + 3 + 5 * q) = 30 ∧ zSl S (k + 5 + 5 * q) = 62 ∧ ∀ a, k + 1 + 5 * q ≤ a → a < k + 6 + 5 * q → gi σ a = fun _ => 0
theorem zNf.mono' {T T' : Nat → Nat → Prop} {S S' : zSp} {σ σ' : zS} (h : zNf T S σ S' σ') (e : ∀ a j, a < zSk S → T a j → T' a j) : zNf T' S σ S' σ' := ⟨h.1, h.2.1, fun a j ha hT => h.2.2.1 a j ha (fun x => hT (e a j ha x)), h.2.2.2⟩
theorem mk0_15 {t0 k : Nat} (ht : t0 < k) {Q : zSp → zS → Prop} : ∀ (d i : Nat) (S : zSp) (σ : zS), i + d = 12 → gr σ t0 3 = some k → zSl S k = 12 → zSk S = k + 1 + 5 * i → (∀ q, q < i → lnF S σ k q) → (∀ S' σ', zNf (fun a _ => a = k) S σ S' σ' → zSk S' = k + 61 → (∀ q, q < 12 → lnF S' σ' k q) → Q S' σ') → wX0_init_15 Q (d + 1) t0 (nI i) S σ
  | 0, i, S, σ, hi, g, l, hk, hf, hq => by
    have e : nI (zSl S k) ≤ nI i := by rw [l]; exact nI_le (by omega) (by omega)
    rw [wX0_init_15]
    refine ⟨k, g, fun _ => hq S σ ⟨Nat.le_refl _, fun _ _ => rfl, fun _ _ _ _ => rfl, fun _ _ => ⟨rfl, rfl, rfl⟩⟩ (by omega) (fun q h => hf q (by omega)), fun hx => absurd e hx⟩
  | d + 1, i, S, σ, hi, g, l, hk, hf, hq => by
    have e : ¬ nI (zSl S k) ≤ nI i := by rw [l]; exact nI_ge (by omega) (by omega)
    rw [wX0_init_15]
    refine ⟨k, g, fun hx => absurd hx e, fun _ => ⟨k, g, fun a3 e3 S3 eS3 σ4 e4 => ?_⟩⟩
    subst e3 eS3 e4
    have k3 : zSk (zSpush S 2 0) = zSk S + 1 := rfl
    refine mk2 (by rw [k3]; omega) (fun S5 σ5 f5 s5 l5 l5' r1 r2 r3 r4 z5 => ?_)
    rw [k3] at s5 l5 l5' r1 r2 r3 r4 z5
    have F5 := (zNf_new (fun _ _ => False) S σ 2 0).tr2 f5 (fun a j ha hT => by have := hT.1; omega)
    have l5k : zSl S5 k = 12 := by rw [F5.2.1 k (by omega)]; exact l
    refine ⟨by rw [l5k]; exact vp_in_nI (by omega) (by omega), fun σ8 e8 x9 e9 => ?_⟩
    rw [nI_clamp (by omega)] at e8
    rw [nI_1] at e9
    subst e8 e9
    have F8 := (F5.mono' (T' := fun a _ => a = k) (fun a j _ h => h.elim)).tr2 (zNf_sr S5 σ5 k i (some (zSk S))) (fun a j ha hT => hT.1)
    have zc : gi σ5 (zSk S) = fun _ => 0 := by
      rw [(f5.2.2.2 (zSk S) (by rw [k3]; omega)).1]
      exact zfresh_0 σ _
    have hr : ∀ a j, a ≠ k → gr (sr σ5 k i (some (zSk S))) a j = gr σ5 a j := fun a j ha => by rw [gr_sr, if_neg ha]
    refine mk0_15 ht d (i + 1) S5 (sr σ5 k i (some (zSk S))) (by omega) ?_ l5k (by omega) (fun q hq2 => ?_) (fun S' σ' f' s' h' => hq S' σ' (F8.tr f') s' h')
    · rw [hr t0 3 (by omega), F5.2.2.1 t0 3 (by omega) (fun x => x)]; exact g
    · by_cases hqi : q = i
      · subst hqi
        rw [hk] at s5 l5 l5' r1 r2 r3 r4 z5 zc ⊢
        refine ⟨by rw [gr_sr, if_pos rfl, if_pos rfl], ?_, ?_, ?_, ?_, ?_, ?_, fun a h1 h2 => ?_⟩
        · rw [← hk, hr _ _ (by omega), hk, r1]; congr 1; omega
        · rw [← hk, hr _ _ (by omega), show k + 2 + 5 * q = k + 1 + 5 * q + 1 by omega, r2]; congr 1; omega
        · rw [← hk, hr _ _ (by omega), hk, r3]; congr 1; omega
        · rw [← hk, hr _ _ (by omega), show k + 4 + 5 * q = k + 1 + 5 * q + 1 + 2 by omega, r4]; congr 1; omega
        · rw [show k + 3 + 5 * q = k + 1 + 5 * q + 1 + 1 by omega]; exact l5
        · rw [show k + 5 + 5 * q = k + 1 + 5 * q + 1 + 3 by omega]; exact l5'
        · rw [gi_sr]
          by_cases ea : a = k + 1 + 5 * q
          · rw [ea]; exact zc
          · exact z5 a (by omega) (by omega)
      · obtain ⟨h1, h2, h3, h4, h5, h6, h7, h8⟩ := hf q (by omega)
        have F : ∀ a j, a < zSk S → ¬ (a = k ∧ j = i) → gr (sr σ5 k i (some (zSk S))) a j = gr σ a j := fun a j ha hT => by
          rw [gr_sr]
          by_cases ea : a = k
          · rw [if_pos ea, if_neg (fun x => hT ⟨ea, x⟩), F5.2.2.1 a j ha (fun x => x)]
          · rw [if_neg ea, F5.2.2.1 a j ha (fun x => x)]
        refine ⟨by rw [F _ _ (by omega) (by omega)]; exact h1, by rw [F _ _ (by omega) (by omega)]; exact h2, by rw [F _ _ (by omega) (by omega)]; exact h3, by rw [F _ _ (by omega) (by omega)]; exact h4, by rw [F _ _ (by omega) (by omega)]; exact h5, by rw [F5.2.1 _ (by omega)]; exact h6, by rw [F5.2.1 _ (by omega)]; exact h7, fun a x1 x2 => ?_⟩
        rw [gi_sr, (F5.2.2.2 a (by omega)).1]
        exact h8 a x1 x2

/-! from 97k.make00 -/
/-! MAKING: a desk -/
theorem mk0 {S : zSp} {σ : zS} {t0 : Nat} (ht : t0 < zSk S) {Q : zSp → zS → Prop} (hq : ∀ S' σ', zNf (fun a j => a = t0 ∧ j = 3) S σ S' σ' → zSk S' = zSk S + 61 → gr σ' t0 3 = some (zSk S) → zSl S' (zSk S) = 12 → (∀ q, q < 12 → lnF S' σ' (zSk S) q) → Q S' σ') : wX0_init S σ t0 Q := by
  intro a1 e1 S1 eS σ2 e2 σ3 e3
  subst e1 eS e2 e3
  have k1 : zSk (zSpush S 22 12) = zSk S + 1 := rfl
  have F := ((zNf_new (fun _ _ => False) S σ 22 12).mono' (T' := fun a j => a = t0 ∧ j = 3) (fun a j _ h => h.elim)).tr2 (zNf_sr (zSpush S 22 12) (zfresh σ (zSk S)) t0 3 (some (zSk S))) (fun a j _ h => h)
  have g : gr (sr (zfresh σ (zSk S)) t0 3 (some (zSk S))) t0 3 = some (zSk S) := by rw [gr_sr, if_pos rfl, if_pos rfl]
  refine ⟨13, by decide, ?_⟩
  exact mk0_15 (t0 := t0) (k := zSk S) ht (Q := Q) 12 0 (zSpush S 22 12) (sr (zfresh σ (zSk S)) t0 3 (some (zSk S))) (by omega) g (zSl_new S 22 12) (by rw [k1]) (fun q h => absurd h (Nat.not_lt_zero q)) (fun S' σ' f s h => hq S' σ' (F.tr2 f (fun a j ha hT => by omega)) s (by rw [f.2.2.1 t0 3 (by omega) (by omega)]; exact g) (by rw [f.2.1 (zSk S) (by omega)]; exact zSl_new S 22 12) h)

/-! from 97l.make6 -/
/-! MAKING: what stays below; rows, desks, plans as new objects -/
/-- nothing below n has changed -/
def zNb (n : Nat) (S : zSp) (σ : zS) (S' : zSp) (σ' : zS) : Prop := zSk S ≤ zSk S' ∧ ∀ a, a < n → zSl S' a = zSl S a ∧ gr σ' a = gr σ a ∧ gi σ' a = gi σ a ∧ gl σ' a = gl σ a ∧ gd σ' a = gd σ a
theorem zNb.rf {n : Nat} {S : zSp} {σ : zS} : zNb n S σ S σ := ⟨Nat.le_refl _, fun _ _ => ⟨rfl, rfl, rfl, rfl, rfl⟩⟩
theorem zNb.tr {n : Nat} {S S' S'' : zSp} {σ σ' σ'' : zS} (h : zNb n S σ S' σ') (g : zNb n S' σ' S'' σ'') : zNb n S σ S'' σ'' := ⟨Nat.le_trans h.1 g.1, fun a ha => by
  obtain ⟨h1, h2, h3, h4, h5⟩ := h.2 a ha
  obtain ⟨g1, g2, g3, g4, g5⟩ := g.2 a ha
  exact ⟨g1.trans h1, g2.trans h2, g3.trans h3, g4.trans h4, g5.trans h5⟩⟩
theorem zNb.mono {n m : Nat} {S S' : zSp} {σ σ' : zS} (h : zNb n S σ S' σ') (e : m ≤ n) : zNb m S σ S' σ' := ⟨h.1, fun a ha => h.2 a (by omega)⟩
theorem zNb.l {n : Nat} {S S' : zSp} {σ σ' : zS} (h : zNb n S σ S' σ') {a : Nat} (ha : a < n) : zSl S' a = zSl S a := (h.2 a ha).1
theorem zNb.r {n : Nat} {S S' : zSp} {σ σ' : zS} (h : zNb n S σ S' σ') {a : Nat} (ha : a < n) : gr σ' a = gr σ a := (h.2 a ha).2.1
theorem zNb.i {n : Nat} {S S' : zSp} {σ σ' : zS} (h : zNb n S σ S' σ') {a : Nat} (ha : a < n) : gi σ' a = gi σ a := (h.2 a ha).2.2.1
theorem zNb.g {n : Nat} {S S' : zSp} {σ σ' : zS} (h : zNb n S σ S' σ') {a : Nat} (ha : a < n) : gl σ' a = gl σ a := (h.2 a ha).2.2.2.1
theorem zNf.b {T : Nat → Nat → Prop} {S S' : zSp} {σ σ' : zS} (h : zNf T S σ S' σ') {n : Nat} (hn : n ≤ zSk S) (e : ∀ a j, a < n → T a j → False) : zNb n S σ S' σ' := ⟨h.1, fun a ha => ⟨h.2.1 a (by omega), funext fun j => h.2.2.1 a j (by omega) (e a j ha), h.2.2.2 a (by omega)⟩⟩
theorem zNb_new {n : Nat} (S : zSp) (σ : zS) (kd m : Nat) {t : Nat} (ht : zSk S = t) (hn : n ≤ t) : zNb n S σ (zSpush S kd m) (zfresh σ t) := by
  subst ht
  exact (zNf_new (fun _ _ => False) S σ kd m).b hn (fun _ _ _ h => h)
theorem zNb_sr {n : Nat} (S : zSp) (σ : zS) (t k : Nat) (v : Option Nat) (hn : n ≤ t) : zNb n S σ S (sr σ t k v) := ⟨Nat.le_refl _, fun a ha => ⟨rfl, funext fun j => by rw [gr_sr, if_neg (by omega)], rfl, rfl, rfl⟩⟩
theorem zNb_si {n : Nat} (S : zSp) (σ : zS) (t k : Nat) (v : Int32) (hn : n ≤ t) : zNb n S σ S (si σ t k v) := ⟨Nat.le_refl _, fun a ha => ⟨rfl, rfl, funext fun j => by rw [gi_si, if_neg (by omega)], rfl, rfl⟩⟩
/-- a row is new -/
theorem mkR {S : zSp} {σ : zS} {t n : Nat} {v : Int32} (hv : v = nI n) (hn : n ≤ 1000) (ht : zSk S = t) {Q : zSp → zS → Prop} (hq : ∀ S' σ', zNb t S σ S' σ' → zSk S' = t + 2 → zSl S' (t + 1) = n → gr σ' t 0 = some (t + 1) → (gi σ' t = fun _ => 0) → (gi σ' (t + 1) = fun _ => 0) → Q S' σ') : wX9_init (zSpush S 9 0) (zfresh σ t) t v Q := by
  have k1 : zSk (zSpush S 9 0) = t + 1 := by rw [zSk_push, ht]
  refine mk9 hv hn (by omega) (fun σ' f g z => ?_)
  rw [k1] at g z
  refine hq _ _ ((zNb_new S σ 9 0 ht (Nat.le_refl _)).tr (f.b (by omega) (fun a j ha hT => by omega))) (by rw [zSk_push, k1]) ?_ g ?_ z
  · rw [← k1]; exact zSl_new _ _ _
  · rw [(f.2.2.2 t (by omega)).1]; exact zfresh_0 σ t
/-- a desk is new -/
theorem mkD {S : zSp} {σ : zS} {t : Nat} (ht : zSk S = t) {Q : zSp → zS → Prop} (hq : ∀ S' σ', zNb t S σ S' σ' → zSk S' = t + 62 → gr σ' t 3 = some (t + 1) → zSl S' (t + 1) = 12 → (∀ q, q < 12 → lnF S' σ' (t + 1) q) → Q S' σ') : wX0_init (zSpush S 0 0) (zfresh σ t) t Q := by
  have k1 : zSk (zSpush S 0 0) = t + 1 := by rw [zSk_push, ht]
  refine mk0 (by omega) (fun S' σ' f s g l h => ?_)
  rw [k1] at s g l h
  exact hq _ _ ((zNb_new S σ 0 0 ht (Nat.le_refl _)).tr (f.b (by omega) (fun a j ha hT => by omega))) s g l h
/-- the figures of the empty text in a plan -/
def zP0 (σ : zS) (p : Nat) : Prop := (gi σ p 0 = 28 ∧ gi σ p 1 = 1 ∧ gi σ p 2 = 200 ∧ gi σ p 3 = 600 ∧ gi σ p 4 = 2) ∧ gi σ (p + 1) 1 = 0 ∧ (gi σ (p + 3) 0 = 0 ∧ gi σ (p + 3) 1 = 100 ∧ gi σ (p + 3) 2 = 0) ∧ gi σ (p + 65) 0 = 0 ∧ gi σ (p + 65) 1 = 100 ∧ gi σ (p + 65) 2 = 0
/-- what a plan is as it is set back -/
theorem c_reset {ln : Nat → Nat} {σ : zS} {p : Nat} (g5 : gr σ p 5 = some (p + 1)) (g6 : gr σ p 6 = some (p + 3)) (g7 : gr σ p 7 = some (p + 65)) {Q : zS → Prop} (hq : ∀ σ', gr σ' = gr σ → gl σ' = gl σ → gd σ' = gd σ → (∀ a, ¬ (a = p ∨ a = p + 1 ∨ a = p + 3 ∨ a = p + 65) → gi σ' a = gi σ a) → zP0 σ' p → Q σ') : wX6_reset ln σ p Q := by
  simp only [wX6_reset, wX9_clear, wX0_reset, forall_eq, gr_si, g5, g6, g7, Option.some.injEq, exists_eq_left']
  refine hq _ rfl rfl rfl (fun a ha => funext fun j => ?_) ?_
  · simp only [gi_si, if_neg (show ¬ a = p from fun e => ha (Or.inl e)), if_neg (show ¬ a = p + 1 by omega), if_neg (show ¬ a = p + 3 by omega), if_neg (show ¬ a = p + 65 by omega)]
  · unfold zP0
    have d1 : ¬ p = p + 1 := by omega
    have d2 : ¬ p = p + 3 := by omega
    have d3 : ¬ p = p + 65 := by omega
    have d4 : ¬ p + 1 = p := by omega
    have d5 : ¬ p + 3 = p := by omega
    have d6 : ¬ p + 65 = p := by omega
    simp only [gi_si, Nat.add_left_cancel_iff, d1, d2, d3, d4, d5, d6, if_true, if_false, Nat.reduceEqDiff, and_self]
/-- a plan is new -/
theorem mkP {S : zSp} {σ : zS} {p : Nat} (hp : zSk S = p) {Q : zSp → zS → Prop} (hq : ∀ S' σ', zNb p S σ S' σ' → zSk S' = p + 127 → zPs (gr σ') (zSl S') p → zP0 σ' p → Q S' σ') : wX6_init (zSpush S 6 0) (zfresh σ p) p Q := by
  have k1 : zSk (zSpush S 6 0) = p + 1 := by rw [zSk_push, hp]
  have B1 := zNb_new S σ 6 0 hp (Nat.le_refl p)
  generalize zSpush S 6 0 = S1 at k1 B1 ⊢
  generalize zfresh σ p = σ1 at B1 ⊢
  intro a1 e1 S2 eS2 σ2 e2
  rw [k1] at e1
  subst e1 eS2 e2
  refine mkR (n := 20) rfl (by decide) k1 (fun S3 σ3 B3 k3 l3 g3 z3 z3' => ?_)
  intro σ5 e5 a6 e6 S6 eS6 σ7 e7
  rw [k3] at e6
  subst e5 e6 eS6 e7
  refine mkD k3 (fun S8 σ8 B8 k8 g8 l8 h8 => ?_)
  intro σ10 e10 a11 e11 S11 eS11 σ12 e12
  rw [k8] at e11
  subst e10 e11 eS11 e12
  refine mkD k8 (fun S13 σ13 B13 k13 g13 l13 h13 => ?_)
  intro σ15 e15
  subst e15
  have r8 : ∀ a j, a < p + 3 → gr σ8 a j = gr (sr σ3 p 5 (some (p + 1))) a j := fun a j ha => by rw [B8.r (by omega)]
  have r13 : ∀ a j, a < p + 65 → gr σ13 a j = gr (sr σ8 p 6 (some (p + 3))) a j := fun a j ha => by rw [B13.r (by omega)]
  have x5 : gr (sr σ13 p 7 (some (p + 65))) p 5 = some (p + 1) := by
    rw [gr_sr, if_pos rfl, if_neg (by decide), r13 _ _ (by omega), gr_sr, if_pos rfl, if_neg (by decide), r8 _ _ (by omega), gr_sr, if_pos rfl, if_pos rfl]
  have x6 : gr (sr σ13 p 7 (some (p + 65))) p 6 = some (p + 3) := by
    rw [gr_sr, if_pos rfl, if_neg (by decide), r13 _ _ (by omega), gr_sr, if_pos rfl, if_pos rfl]
  have x7 : gr (sr σ13 p 7 (some (p + 65))) p 7 = some (p + 65) := by rw [gr_sr, if_pos rfl, if_pos rfl]
  have xo : ∀ a j, a ≠ p → gr (sr σ13 p 7 (some (p + 65))) a j = gr σ13 a j := fun a j ha => by rw [gr_sr, if_neg ha]
  have xo2 : ∀ a j, a ≠ p → a < p + 65 → gr (sr σ13 p 7 (some (p + 65))) a j = gr σ8 a j := fun a j ha hb => by rw [xo a j ha, r13 a j hb, gr_sr, if_neg ha]
  refine c_reset x5 x6 x7 (fun σ' c1 c2 c3 c4 c5 => hq S13 σ' ?_ (by omega) ?_ c5)
  · refine ((((B1.tr (B3.mono (by omega))).tr (zNb_sr S3 σ3 p 5 _ (Nat.le_refl p))).tr (B8.mono (by omega))).tr (zNb_sr S8 σ8 p 6 _ (Nat.le_refl p))).tr ((B13.mono (by omega)).tr ⟨Nat.le_refl _, fun a ha => ⟨rfl, ?_, ?_, ?_, ?_⟩⟩)
    · rw [c1]; exact (zNb_sr S13 σ13 p 7 _ (Nat.le_refl p)).r ha
    · rw [c4 a (by omega)]; rfl
    · rw [c2]; rfl
    · rw [c3]; rfl
  · rw [c1]
    refine ⟨⟨x5, ?_, ?_⟩, ⟨x6, x7⟩, ⟨?_, ?_, ?_, ?_⟩, fun q hq2 k hk => ?_⟩
    · rw [xo2 _ _ (by omega) (by omega), r8 _ _ (by omega), gr_sr, if_neg (by omega)]; exact g3
    · rw [B13.l (by omega), B8.l (by omega)]; exact l3
    · rw [xo2 _ _ (by omega) (by omega)]; exact g8
    · rw [xo _ _ (by omega)]; exact g13
    · rw [B13.l (by omega)]; exact l8
    · exact l13
    · rcases (show q = 0 ∨ q = 1 by omega) with rfl | rfl
      · obtain ⟨h1, h2, h3, h4, h5, h6, h7, h8⟩ := h8 k hk
        simp only [Nat.mul_zero, Nat.add_zero]
        rw [xo2 _ _ (by omega) (by omega), xo2 _ _ (by omega) (by omega), xo2 _ _ (by omega) (by omega), xo2 _ _ (by omega) (by omega), xo2 _ _ (by omega) (by omega), B13.l (by omega), B13.l (by omega)]
        exact ⟨h1, h2, h3, h4, h5, h6, h7⟩
      · obtain ⟨h1, h2, h3, h4, h5, h6, h7, h8⟩ := h13 k hk
        simp only [Nat.mul_one]
        rw [xo _ _ (by omega), xo _ _ (by omega), xo _ _ (by omega), xo _ _ (by omega), xo _ _ (by omega)]
        have e : ∀ c, p + 65 + c = p + 3 + 62 + c := fun c => by omega
        refine ⟨?_, ?_, ?_, ?_, ?_, ?_, ?_⟩
        · rw [show p + 4 + 62 = p + 65 + 1 by omega, h1] <;> (congr 1 <;> omega)
        · rw [show p + 5 + 62 + 5 * k = p + 65 + 1 + 1 + 5 * k by omega, h2] <;> (congr 1 <;> omega)
        · rw [show p + 6 + 62 + 5 * k = p + 65 + 1 + 2 + 5 * k by omega, h3] <;> (congr 1 <;> omega)
        · rw [show p + 5 + 62 + 5 * k = p + 65 + 1 + 1 + 5 * k by omega, h4] <;> (congr 1 <;> omega)
        · rw [show p + 8 + 62 + 5 * k = p + 65 + 1 + 4 + 5 * k by omega, h5] <;> (congr 1 <;> omega)
        · rw [show p + 7 + 62 + 5 * k = p + 65 + 1 + 3 + 5 * k by omega]; exact h6
        · rw [show p + 9 + 62 + 5 * k = p + 65 + 1 + 5 + 5 * k by omega]; exact h7

/-! from 97m.make3 -/
/-! MAKING: offices, receivers, records, machines; a machine begins -/
theorem mkO {S : zSp} {σ : zS} {t : Nat} (ht : zSk S = t) {Q : zSp → zS → Prop} (hq : ∀ S' σ', zNb t S σ S' σ' → zSk S' = t + 3 → zSl S' (t + 2) = 1000 → gr σ' t 7 = some (t + 1) → gr σ' (t + 1) 0 = some (t + 2) → Q S' σ') : wX4_init (zSpush S 4 0) (zfresh σ t) t Q := by
  have k1 : zSk (zSpush S 4 0) = t + 1 := by rw [zSk_push, ht]
  have B1 := zNb_new S σ 4 0 ht (Nat.le_refl t)
  generalize zSpush S 4 0 = S1 at k1 B1 ⊢
  generalize zfresh σ t = σ1 at B1 ⊢
  intro a1 e1 S2 eS2 σ2 e2
  rw [k1] at e1
  subst e1 eS2 e2
  refine mkR (n := 1000) rfl (by decide) k1 (fun S3 σ3 B3 k3 l3 g3 z3 z3' => ?_)
  intro σ5 e5
  subst e5
  refine hq _ _ ((B1.tr (B3.mono (by omega))).tr (zNb_sr S3 σ3 t 7 _ (Nat.le_refl t))) k3 l3 (by rw [gr_sr, if_pos rfl, if_pos rfl]) ?_
  rw [gr_sr, if_neg (by omega)]; exact g3
theorem mkV {S : zSp} {σ : zS} {t : Nat} (ht : zSk S = t) {Q : zSp → zS → Prop} (hq : ∀ S' σ', zNb t S σ S' σ' → zSk S' = t + 3 → zSl S' (t + 2) = 40 → gr σ' t 0 = some (t + 1) → gr σ' (t + 1) 0 = some (t + 2) → Q S' σ') : wX7_init (zSpush S 7 0) (zfresh σ t) t Q := by
  have k1 : zSk (zSpush S 7 0) = t + 1 := by rw [zSk_push, ht]
  have B1 := zNb_new S σ 7 0 ht (Nat.le_refl t)
  generalize zSpush S 7 0 = S1 at k1 B1 ⊢
  generalize zfresh σ t = σ1 at B1 ⊢
  intro a1 e1 S2 eS2 σ2 e2
  rw [k1] at e1
  subst e1 eS2 e2
  refine mkR (n := 40) rfl (by decide) k1 (fun S3 σ3 B3 k3 l3 g3 z3 z3' => ?_)
  intro σ5 e5
  subst e5
  refine hq _ _ ((B1.tr (B3.mono (by omega))).tr (zNb_sr S3 σ3 t 0 _ (Nat.le_refl t))) k3 l3 (by rw [gr_sr, if_pos rfl, if_pos rfl]) ?_
  rw [gr_sr, if_neg (by omega)]; exact g3
theorem mkT {S : zSp} {σ : zS} {t cap : Nat} {v : Int32} (hv : v = nI cap) (h1 : 1 ≤ cap) (h2 : cap ≤ 640) (ht : zSk S = t) {Q : zSp → zS → Prop} (hq : ∀ S' σ', zNb t S σ S' σ' → zSk S' = t + 2 → zSl S' (t + 1) = 3 * cap → gr σ' t 1 = some (t + 1) → gi σ' t 0 = nI cap → Q S' σ') : wX8_init (zSpush S 8 0) (zfresh σ t) t v Q := by
  have k1 : zSk (zSpush S 8 0) = t + 1 := by rw [zSk_push, ht]
  have B1 := zNb_new S σ 8 0 ht (Nat.le_refl t)
  generalize zSpush S 8 0 = S1 at k1 B1 ⊢
  generalize zfresh σ t = σ1 at B1 ⊢
  intro x1 e1 σ2 e2 x3 e3
  subst hv
  have en := nI_toInt (n := cap) (by omega)
  have z1 : (1 : Int32).toInt = 1 := rfl
  have hx : x1 = nI cap := by rw [e1, if_neg (by rw [nlt, en, z1]; omega)]
  subst hx e2
  have hx3 : x3 = nI (3 * cap) := by
    rw [e3, gi_si, if_pos rfl, if_pos rfl]
    exact (Int32.ofNat_mul 3 cap).symm
  subst hx3
  refine ⟨nI_pos (by omega), by rw [nI_clamp (by omega)]; omega, fun a4 e4 S4 eS4 σ7 e7 σ8 e8 => ?_⟩
  rw [nI_clamp (by omega)] at eS4
  rw [k1] at e4
  subst e4 eS4 e7 e8
  refine hq _ _ (((B1.tr (zNb_si S1 σ1 t 0 _ (Nat.le_refl t))).tr (zNb_new S1 _ 20 (3 * cap) k1 (by omega))).tr (zNb_sr _ _ t 1 _ (Nat.le_refl t))) (by rw [zSk_push, k1]) ?_ (by rw [gr_sr, if_pos rfl, if_pos rfl]) ?_
  · rw [← k1]; exact zSl_new _ _ _
  · rw [gi_sr, gi_zf, if_neg (by omega), gi_si, if_pos rfl, if_pos rfl]
/-- what a plan tells a machine that begins -/
def zBg (σ : zS) (p : Nat) (r : Nat → Int32) : Prop := gi σ p 2 = r 2 ∧ (gi σ (p + 3) 0 = r 21 ∧ gi σ (p + 3) 1 = r 23) ∧ (gi σ (p + 65) 0 = r 22 ∧ gi σ (p + 65) 1 = r 24) ∧ gi σ (p + 1) 1 = r 20 ∧ ∀ k, k < (r 20).toNatClampNeg → gi σ (p + 2) k = r (39 + k)
/-- a row with which all begins -/
def zr0 (r : Nat → Int32) : Prop := r 6 = -1 ∧ ∀ k, (k = 5 ∨ k = 7 ∨ (9 ≤ k ∧ k ≤ 19) ∨ (27 ≤ k ∧ k ≤ 38)) → r k = 0
set_option maxHeartbeats 2000000 in
theorem C_begin {ln : Nat → Nat} {σ : zS} {b p : Nat} {r : Nat → Int32} (S : zMs (gr σ) ln b) (hb : p + 127 ≤ b) (PS : zPs (gr σ) ln p) (hc10 : gi σ (b + 10) 0 = nI 640) (hc12 : gi σ (b + 12) 0 = nI 40) (P : zBg σ p r) (h20 : 0 ≤ (r 20).toInt ∧ (r 20).toInt ≤ 20) (Z : zr0 r) {Q : zS → Prop} (hq : ∀ σ', KM σ' b r → zFc σ σ' b p → Q σ') : wX3_begin ln σ b p Q := by
  have S' := zMs_sr S (b1 := b) (Or.inl rfl) (some p)
  have gb : gr (sr σ b 0 (some p)) b 0 = some p := by rw [gr_sr, if_pos rfl, if_pos rfl]
  have go : ∀ a j, a ≠ b → gr (sr σ b 0 (some p)) a j = gr σ a j := fun a j h => by rw [gr_sr, if_neg h]
  obtain ⟨⟨p5, p10, pl⟩, ⟨p6, p7⟩, -, -⟩ := PS
  have q5 := (go p 5 (by omega)).trans p5
  have q6 := (go p 6 (by omega)).trans p6
  have q7 := (go p 7 (by omega)).trans p7
  have q10 := (go (p + 1) 0 (by omega)).trans p10
  obtain ⟨P2, ⟨P21, P23⟩, ⟨P22, P24⟩, P20, PL⟩ := P
  have hid : sr σ b 0 (some p) = zcs (sr σ b 0 (some p)) b (fun k => gi σ (b + k)) (gl σ (b + 1) 6) (gl σ (b + 4) 6) := (zcs_self (sr σ b 0 (some p)) b).symm
  have eg : ∀ a, gi (sr σ b 0 (some p)) a = gi σ a := fun _ => rfl
  intro σ1 e1
  rw [hid] at e1
  subst e1
  have hfin : ∀ f' t0 t1, RR f' t0 t1 r → Q (zcs (sr σ b 0 (some p)) b f' t0 t1) := fun f' t0 t1 h => hq _ (KM_zcs h) ⟨rfl, rfl, fun a ha => ⟨gi_zcs_o _ b f' t0 t1 ha, gl_zcs_o _ b f' t0 t1 (by omega) (by omega)⟩⟩
  have F10 : (fun k => gi σ (b + k)) 10 0 = nI 640 := hc10
  have F12 : (fun k => gi σ (b + k)) 12 0 = nI 40 := hc12
  generalize (fun k => gi σ (b + k)) = F at F10 F12 ⊢
  generalize sr σ b 0 (some p) = τ at S' eg hfin gb q5 q6 q7 q10 ⊢
  clear go hid
  obtain ⟨⟨m1, m2, m3, m4, m5, m6⟩, ⟨a1, a2, a3, a4, a5, a6, a7, a8, a9⟩, ⟨l1, l2, l3, l4, l5, l6⟩⟩ := S'
  have x0 : ∀ f' u0 u1, gi (zcs τ b f' u0 u1) p = gi σ p := fun f' u0 u1 => (gi_zcs_o τ b f' u0 u1 (by omega)).trans (eg p)
  have x3 : ∀ f' u0 u1, gi (zcs τ b f' u0 u1) (p + 3) = gi σ (p + 3) := fun f' u0 u1 => (gi_zcs_o τ b f' u0 u1 (by omega)).trans (eg _)
  have x65 : ∀ f' u0 u1, gi (zcs τ b f' u0 u1) (p + 65) = gi σ (p + 65) := fun f' u0 u1 => (gi_zcs_o τ b f' u0 u1 (by omega)).trans (eg _)
  have c20 := ncl h20.1
  have e20 : r 20 = nI (r 20).toNatClampNeg := by rw [neq, nI_toInt (by omega)]; omega
  have hn : gi τ (p + 1) 1 = nI (r 20).toNatClampNeg := by rw [eg, P20]; exact e20
  simp only [wX4_begin, wX8_clear, wX9_clear, forall_eq, si_zcs_b, gr_zcs, gb, m1, m2, m5, m6, q5, q6, q7, a1, a2, Option.some.injEq, exists_eq_left', x0, x3, x65, si_zcs_k τ b _ _ _ (show 1 < 16 by decide), si_zcs_k τ b _ _ _ (show 4 < 16 by decide), si_zcs_k τ b _ _ _ (show 2 < 16 by decide), si_zcs_k τ b _ _ _ (show 5 < 16 by decide), si_zcs_k τ b _ _ _ (show 12 < 16 by decide), sl_zcs_0, sl_zcs_1]
  refine c_rcopy (c := 14) (cap := 20) (by decide) a9 l6 (by decide) q10 pl (by omega) (by omega) hn (by omega) (fun f1 i1 i2 i3 i4 => ?_)
  simp only [wX3_endTransmission, wX7_clear, wX8_clear, wX9_clear, forall_eq, si_zcs_b, gr_zcs, m3, m4, a5, Option.some.injEq, exists_eq_left', si_zcs_k τ b _ _ _ (show 7 < 16 by decide), si_zcs_k τ b _ _ _ (show 8 < 16 by decide), si_zcs_k τ b _ _ _ (show 10 < 16 by decide)]
  obtain ⟨Z6, Z⟩ := Z
  have z5 := Z 5 (by omega)
  have z7 := Z 7 (by omega)
  have z9 := Z 9 (by omega)
  have z10 := Z 10 (by omega)
  have z11 := Z 11 (by omega)
  have z12 := Z 12 (by omega)
  have z13 := Z 13 (by omega)
  have z14 := Z 14 (by omega)
  have z15 := Z 15 (by omega)
  have z16 := Z 16 (by omega)
  have z17 := Z 17 (by omega)
  have z18 := Z 18 (by omega)
  have z19 := Z 19 (by omega)
  have z27 := Z 27 (by omega)
  have z28 := Z 28 (by omega)
  have z29 := Z 29 (by omega)
  have z30 := Z 30 (by omega)
  have z31 := Z 31 (by omega)
  have z32 := Z 32 (by omega)
  have z33 := Z 33 (by omega)
  have z34 := Z 34 (by omega)
  have z35 := Z 35 (by omega)
  have z36 := Z 36 (by omega)
  have z37 := Z 37 (by omega)
  have z38 := Z 38 (by omega)
  have t0 : (0 : Int32).toNatClampNeg = 0 := rfl
  have t6 : (0 : Int32).toInt64 = 0 := rfl
  have t1 : ¬ (0 : Int32) = 1 := by decide
  have y := i1
  have j0 := i1 0 (by decide) (by decide)
  have j1 := i1 1 (by decide) (by decide)
  have j2 := i1 2 (by decide) (by decide)
  have j4 := i1 4 (by decide) (by decide)
  have j5 := i1 5 (by decide) (by decide)
  have j7 := i1 7 (by decide) (by decide)
  have j8 := i1 8 (by decide) (by decide)
  have j10 := i1 10 (by decide) (by decide)
  have j12 := i1 12 (by decide) (by decide)
  refine hfin _ _ _ ⟨?_, ⟨?_, ?_⟩, ⟨?_, ?_⟩, ?_, ?_, ?_, ?_, ?_, ?_⟩
  · unfold RS
    simp only [zf_ap, if_true, if_false, Nat.reduceEqDiff, j0, z5, Z6, z7, z9, z10, z15, z16, z17, P2, t1, false_implies, and_self]
  · unfold RO
    simp only [Nat.mul_zero, Nat.add_zero, zf_ap, if_true, if_false, Nat.reduceEqDiff, j1, z27, z31, z33, z35, P21, P23, and_self]
  · unfold RO
    simp only [Nat.mul_one, Nat.reduceAdd, zf_ap, if_true, if_false, Nat.reduceEqDiff, j4, z28, z32, z34, z36, P22, P24, and_self]
  · unfold RV
    simp only [Nat.mul_zero, Nat.add_zero, zf_ap, if_true, if_false, Nat.reduceEqDiff, j2, z29, t0, Nat.not_lt_zero, false_implies, implies_true, and_self]
  · unfold RV
    simp only [Nat.mul_one, Nat.reduceAdd, zf_ap, if_true, if_false, Nat.reduceEqDiff, j5, z30, t0, Nat.not_lt_zero, false_implies, implies_true, and_self]
  · unfold RB
    simp only [zf_ap, if_true, if_false, Nat.reduceEqDiff, z11, z12, z13, z14, t0, Nat.not_lt_zero, false_implies, implies_true, and_self]
  · unfold RT
    rw [z19]
    refine ⟨?_, ?_, 0, by decide, ?_, fun k hk => absurd hk (Nat.not_lt_zero k)⟩
    · simp only [zf_ap, if_true, if_false, Nat.reduceEqDiff, j10, F10]
    · simp only [zf_ap, if_true, if_false, Nat.reduceEqDiff]
    · simp only [zf_ap, if_true, if_false, Nat.reduceEqDiff]
      rfl
  · unfold RE
    rw [z18]
    refine ⟨?_, ?_, 0, by decide, ?_, fun k hk => absurd hk (Nat.not_lt_zero k)⟩
    · simp only [zf_ap, if_true, if_false, Nat.reduceEqDiff, j12, F12]
    · simp only [zf_ap, if_true, if_false, Nat.reduceEqDiff, j12]
    · simp only [zf_ap, if_true, if_false, Nat.reduceEqDiff, j12]
      rfl
  · unfold RZ
    refine ⟨?_, fun k hk => ?_⟩
    · simp only [zf_ap, if_true, if_false, Nat.reduceEqDiff]
      rw [i3]; exact e20.symm
    · simp only [zf_ap, if_true, if_false, Nat.reduceEqDiff]
      rw [i4 k hk, eg]; exact PL k hk
  · rw [z37]; rfl
  · rw [z38]; rfl

/-! from 97n.make33 -/
/-! MAKING: a machine -/
theorem zPs_b {n p : Nat} {S S' : zSp} {σ σ' : zS} (h : zNb n S σ S' σ') (hp : p + 127 ≤ n) (P : zPs (gr σ) (zSl S) p) : zPs (gr σ') (zSl S') p := by
  obtain ⟨⟨p1, p2, p3⟩, ⟨p4, p5⟩, ⟨p6, p7, p8, p9⟩, pk⟩ := P
  refine ⟨⟨?_, ?_, ?_⟩, ⟨?_, ?_⟩, ⟨?_, ?_, ?_, ?_⟩, fun q hq k hk => ?_⟩
  · rw [h.r (by omega)]; exact p1
  · rw [h.r (by omega)]; exact p2
  · rw [h.l (by omega)]; exact p3
  · rw [h.r (by omega)]; exact p4
  · rw [h.r (by omega)]; exact p5
  · rw [h.r (by omega)]; exact p6
  · rw [h.r (by omega)]; exact p7
  · rw [h.l (by omega)]; exact p8
  · rw [h.l (by omega)]; exact p9
  · rw [h.r (by omega), h.r (by omega), h.r (by omega), h.r (by omega), h.l (by omega), h.l (by omega)]
    exact pk q hq k hk
theorem zBg_b {n p : Nat} {S S' : zSp} {σ σ' : zS} {r : Nat → Int32} (h : zNb n S σ S' σ') (hp : p + 127 ≤ n) (P : zBg σ p r) : zBg σ' p r := by
  unfold zBg
  rw [h.i (show p < n by omega), h.i (show p + 3 < n by omega), h.i (show p + 65 < n by omega), h.i (show p + 1 < n by omega), h.i (show p + 2 < n by omega)]
  exact P
theorem zMs_b {n b : Nat} {S S' : zSp} {σ σ' : zS} (h : zNb n S σ S' σ') (hb : b + 16 ≤ n) (M : zMs (gr σ) (zSl S) b) : zMs (gr σ') (zSl S') b := by
  obtain ⟨⟨m1, m2, m3, m4, m5, m6⟩, ⟨a1, a2, a3, a4, a5, a6, a7, a8, a9⟩, ⟨l1, l2, l3, l4, l5, l6⟩⟩ := M
  unfold zMs
  rw [h.r (show b < n by omega), h.r (show b + 1 < n by omega), h.r (show b + 2 < n by omega), h.r (show b + 4 < n by omega), h.r (show b + 5 < n by omega), h.r (show b + 7 < n by omega), h.r (show b + 8 < n by omega), h.r (show b + 10 < n by omega), h.r (show b + 12 < n by omega), h.r (show b + 14 < n by omega), h.l (show b + 3 < n by omega), h.l (show b + 6 < n by omega), h.l (show b + 9 < n by omega), h.l (show b + 11 < n by omega), h.l (show b + 13 < n by omega), h.l (show b + 15 < n by omega)]
  exact ⟨⟨m1, m2, m3, m4, m5, m6⟩, ⟨a1, a2, a3, a4, a5, a6, a7, a8, a9⟩, ⟨l1, l2, l3, l4, l5, l6⟩⟩
theorem KM_b {n b : Nat} {S S' : zSp} {σ σ' : zS} {r : Nat → Int32} (h : zNb n S σ S' σ') (hb : b + 16 ≤ n) (K : KM σ b r) : KM σ' b r := KM_o K (fun a h1 h2 => ⟨h.i (by omega), h.g (by omega)⟩)
set_option maxHeartbeats 2000000 in
theorem mkM {S : zSp} {σ : zS} {b p : Nat} {r : Nat → Int32} (hb : zSk S = b) (hpb : p + 127 ≤ b) (PS : zPs (gr σ) (zSl S) p) (P : zBg σ p r) (h20 : 0 ≤ (r 20).toInt ∧ (r 20).toInt ≤ 20) (Z : zr0 r) {Q : zSp → zS → Prop} (hq : ∀ S' σ', zNb b S σ S' σ' → zSk S' = b + 16 → zMs (gr σ') (zSl S') b → gr σ' b 0 = some p → KM σ' b r → Q S' σ') : wX3_init (zSpush S 3 0) (zfresh σ b) b p Q := by
  have k1 : zSk (zSpush S 3 0) = b + 1 := by rw [zSk_push, hb]
  have B1 := (zNb_new S σ 3 0 hb (Nat.le_refl b)).tr (zNb_si (zSpush S 3 0) (zfresh σ b) b 3 (-1) (Nat.le_refl b))
  intro σ1 e1 a2 e2 S2 eS2 σ3 e3
  rw [← e1] at B1
  clear e1
  generalize zSpush S 3 0 = S1 at k1 B1 e2 eS2
  rw [k1] at e2
  subst e2 eS2 e3
  refine mkO k1 (fun S4 σ4 B4 k4 l4 g4 h4 => ?_)
  have k4 : zSk S4 = b + 4 := k4
  intro σ6 e6 a7 e7 S7 eS7 σ8 e8
  rw [k4] at e7
  subst e6 e7 eS7 e8
  refine mkO k4 (fun S9 σ9 B9 k9 l9 g9 h9 => ?_)
  have k9 : zSk S9 = b + 7 := k9
  intro σ11 e11 a12 e12 S12 eS12 σ13 e13
  rw [k9] at e12
  subst e11 e12 eS12 e13
  refine mkV k9 (fun S14 σ14 B14 k14 l14 g14 h14 => ?_)
  have k14 : zSk S14 = b + 10 := k14
  intro σ16 e16 a17 e17 S17 eS17 σ18 e18
  rw [k14] at e17
  subst e16 e17 eS17 e18
  refine mkT (cap := 640) rfl (by decide) (by decide) k14 (fun S19 σ19 B19 k19 l19 g19 c19 => ?_)
  have k19 : zSk S19 = b + 12 := k19
  intro σ21 e21 a22 e22 S22 eS22 σ23 e23
  rw [k19] at e22
  subst e21 e22 eS22 e23
  refine mkT (cap := 40) rfl (by decide) (by decide) k19 (fun S24 σ24 B24 k24 l24 g24 c24 => ?_)
  have k24 : zSk S24 = b + 14 := k24
  intro σ26 e26 a27 e27 S27 eS27 σ28 e28
  rw [k24] at e27
  subst e26 e27 eS27 e28
  refine mkR (n := 20) rfl (by decide) k24 (fun S29 σ29 B29 k29 l29 g29 z29 z29' => ?_)
  have k29 : zSk S29 = b + 16 := k29
  intro σ31 e31
  have NB : zNb b S σ S29 σ31 := by
    subst e31
    exact (((((B1.tr (B4.mono (by omega))).tr (zNb_sr S4 σ4 b 11 _ (Nat.le_refl b))).tr ((B9.mono (by omega)).tr (zNb_sr S9 σ9 b 12 _ (Nat.le_refl b)))).tr ((B14.mono (by omega)).tr (zNb_sr S14 σ14 b 13 _ (Nat.le_refl b)))).tr ((B19.mono (by omega)).tr (zNb_sr S19 σ19 b 14 _ (Nat.le_refl b)))).tr (((B24.mono (by omega)).tr (zNb_sr S24 σ24 b 15 _ (Nat.le_refl b))).tr ((B29.mono (by omega)).tr (zNb_sr S29 σ29 b 16 _ (Nat.le_refl b))))
  have o : ∀ (σ : zS) k v a j, a ≠ b → gr (sr σ b k v) a j = gr σ a j := fun σ k v a j h => by rw [gr_sr, if_neg h]
  have s31 : ∀ a j, a ≠ b → gr σ31 a j = gr σ29 a j := fun a j h => by rw [e31]; exact o _ _ _ _ _ h
  have s29 : ∀ a j, a ≠ b → a < b + 14 → gr σ31 a j = gr σ24 a j := fun a j h h2 => by rw [s31 a j h, B29.r h2]; exact o _ _ _ _ _ h
  have s24 : ∀ a j, a ≠ b → a < b + 12 → gr σ31 a j = gr σ19 a j := fun a j h h2 => by rw [s29 a j h (by omega), B24.r h2]; exact o _ _ _ _ _ h
  have s19 : ∀ a j, a ≠ b → a < b + 10 → gr σ31 a j = gr σ14 a j := fun a j h h2 => by rw [s24 a j h (by omega), B19.r h2]; exact o _ _ _ _ _ h
  have s14 : ∀ a j, a ≠ b → a < b + 7 → gr σ31 a j = gr σ9 a j := fun a j h h2 => by rw [s19 a j h (by omega), B14.r h2]; exact o _ _ _ _ _ h
  have s9 : ∀ a j, a ≠ b → a < b + 4 → gr σ31 a j = gr σ4 a j := fun a j h h2 => by rw [s14 a j h (by omega), B9.r h2]; exact o _ _ _ _ _ h
  have R29 : ∀ j, gr σ29 b j = gr (sr σ24 b 15 (some (b + 12))) b j := fun j => by rw [B29.r (by omega)]
  have R24 : ∀ j, gr σ24 b j = gr (sr σ19 b 14 (some (b + 10))) b j := fun j => by rw [B24.r (by omega)]
  have R19 : ∀ j, gr σ19 b j = gr (sr σ14 b 13 (some (b + 7))) b j := fun j => by rw [B19.r (by omega)]
  have R14 : ∀ j, gr σ14 b j = gr (sr σ9 b 12 (some (b + 4))) b j := fun j => by rw [B14.r (by omega)]
  have R9 : ∀ j, gr σ9 b j = gr (sr σ4 b 11 (some (b + 1))) b j := fun j => by rw [B9.r (by omega)]
  have MS : zMs (gr σ31) (zSl S29) b := by
    refine ⟨⟨?_, ?_, ?_, ?_, ?_, ?_⟩, ⟨?_, ?_, ?_, ?_, ?_, ?_, ?_, ?_, ?_⟩, ⟨?_, ?_, ?_, ?_, ?_, ?_⟩⟩
    · rw [e31]; simp only [gr_sr, if_true, if_false, Nat.reduceEqDiff, R29, R24, R19, R14, R9]
    · rw [e31]; simp only [gr_sr, if_true, if_false, Nat.reduceEqDiff, R29, R24, R19, R14, R9]
    · rw [e31]; simp only [gr_sr, if_true, if_false, Nat.reduceEqDiff, R29, R24, R19, R14, R9]
    · rw [e31]; simp only [gr_sr, if_true, if_false, Nat.reduceEqDiff, R29, R24, R19, R14, R9]
    · rw [e31]; simp only [gr_sr, if_true, if_false, Nat.reduceEqDiff, R29, R24, R19, R14, R9]
    · rw [e31]; simp only [gr_sr, if_true, if_false, Nat.reduceEqDiff, R29, R24, R19, R14, R9]
    · rw [s9 _ _ (by omega) (by omega)]; exact g4
    · rw [s14 _ _ (by omega) (by omega)]; exact g9
    · rw [s9 _ _ (by omega) (by omega)]; exact h4
    · rw [s14 _ _ (by omega) (by omega)]; exact h9
    · rw [s19 _ _ (by omega) (by omega)]; exact g14
    · rw [s19 _ _ (by omega) (by omega)]; exact h14
    · rw [s24 _ _ (by omega) (by omega)]; exact g19
    · rw [s29 _ _ (by omega) (by omega)]; exact g24
    · rw [s31 _ _ (by omega)]; exact g29
    · rw [B29.l (by omega), B24.l (by omega), B19.l (by omega), B14.l (by omega), B9.l (by omega)]; exact l4
    · rw [B29.l (by omega), B24.l (by omega), B19.l (by omega), B14.l (by omega)]; exact l9
    · rw [B29.l (by omega), B24.l (by omega), B19.l (by omega)]; exact l14
    · rw [B29.l (by omega), B24.l (by omega)]; exact l19
    · rw [B29.l (by omega)]; exact l24
    · exact l29
  have c10 : gi σ31 (b + 10) 0 = nI 640 := by
    rw [e31, gi_sr, B29.i (by omega), gi_sr, B24.i (by omega), gi_sr]; exact c19
  have c12 : gi σ31 (b + 12) 0 = nI 40 := by
    rw [e31, gi_sr, B29.i (by omega), gi_sr]; exact c24
  refine C_begin MS hpb (zPs_b NB hpb PS) c10 c12 (zBg_b NB hpb P) h20 Z (fun σ' K F => hq S29 σ' ?_ k29 ?_ ?_ K)
  · refine NB.tr ⟨Nat.le_refl _, fun a ha => ⟨rfl, ?_, (F.2.2 a (by omega)).1, (F.2.2 a (by omega)).2, by rw [F.2.1]⟩⟩
    rw [F.1]
    funext j
    exact o _ _ _ _ _ (by omega)
  · rw [F.1]
    exact zMs_sr MS (Or.inl rfl) _
  · rw [F.1, gr_sr, if_pos rfl, if_pos rfl]

