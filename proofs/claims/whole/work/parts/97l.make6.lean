/-! MAKING: what stays below; rows, desks, plans as new objects -/
/-- nothing below n has changed -/
def zNb (n : Nat) (S : zSp) (σ : zS) (S' : zSp) (σ' : zS) : Prop := zSk S ≤ zSk S' ∧ ∀ a, a < n → zSl S' a = zSl S a ∧ gr σ' a = gr σ a ∧ gi σ' a = gi σ a ∧ gl σ' a = gl σ a ∧ gd σ' a = gd σ a
theorem zNb.rf {n : Nat} {S : zSp} {σ : zS} : zNb n S σ S σ := ⟨Nat.le_refl _, fun _ _ => ⟨rfl, rfl, rfl, rfl, rfl⟩⟩
theorem zNb.tr {n : Nat} {S S' S'' : zSp} {σ σ' σ'' : zS} (h : zNb n S σ S' σ') (g : zNb n S' σ' S'' σ'') : zNb n S σ S'' σ'' := ⟨Nat.le_trans h.1 g.1, fun a ha => by
  obtain ⟨h1, h2, h3, h4, h5⟩ := h.2 a ha
  obtain ⟨g1, g2, g3, g4, g5⟩ := g.2 a ha
  exact ⟨g1.trans h1, g2.trans h2, g3.trans h3, g4.trans h4, g5.trans h5⟩⟩
theorem zNb.mono {n m : Nat} {S S' : zSp} {σ σ' : zS} (h : zNb n S σ S' σ') (e : m ≤ n) : zNb m S σ S' σ' := ⟨h.1, fun a ha => h.2 a (by omega)⟩
theorem zNb.l {n : Nat} {S S' : zSp} {σ σ' : zS} (h : zNb n S σ S' σ') {a : Nat} (ha : a < n) : zSl S' a = zSl S a := (h.2 a ha).1
theorem zNb.r {n : Nat} {S S' : zSp} {σ σ' : zS} (h : zNb n S σ S' σ') {a : Nat} (ha : a < n) : gr σ' a = gr σ a := (h.2 a ha).2.1
theorem zNb.i {n : Nat} {S S' : zSp} {σ σ' : zS} (h : zNb n S σ S' σ') {a : Nat} (ha : a < n) : gi σ' a = gi σ a := (h.2 a ha).2.2.1
theorem zNb.g {n : Nat} {S S' : zSp} {σ σ' : zS} (h : zNb n S σ S' σ') {a : Nat} (ha : a < n) : gl σ' a = gl σ a := (h.2 a ha).2.2.2.1
theorem zNf.b {T : Nat → Nat → Prop} {S S' : zSp} {σ σ' : zS} (h : zNf T S σ S' σ') {n : Nat} (hn : n ≤ zSk S) (e : ∀ a j, a < n → T a j → False) : zNb n S σ S' σ' := ⟨h.1, fun a ha => ⟨h.2.1 a (by omega), funext fun j => h.2.2.1 a j (by omega) (e a j ha), h.2.2.2 a (by omega)⟩⟩
theorem zNb_new {n : Nat} (S : zSp) (σ : zS) (kd m : Nat) {t : Nat} (ht : zSk S = t) (hn : n ≤ t) : zNb n S σ (zSpush S kd m) (zfresh σ t) := by
  subst ht
  exact (zNf_new (fun _ _ => False) S σ kd m).b hn (fun _ _ _ h => h)
theorem zNb_sr {n : Nat} (S : zSp) (σ : zS) (t k : Nat) (v : Option Nat) (hn : n ≤ t) : zNb n S σ S (sr σ t k v) := ⟨Nat.le_refl _, fun a ha => ⟨rfl, funext fun j => by rw [gr_sr, if_neg (by omega)], rfl, rfl, rfl⟩⟩
theorem zNb_si {n : Nat} (S : zSp) (σ : zS) (t k : Nat) (v : Int32) (hn : n ≤ t) : zNb n S σ S (si σ t k v) := ⟨Nat.le_refl _, fun a ha => ⟨rfl, rfl, funext fun j => by rw [gi_si, if_neg (by omega)], rfl, rfl⟩⟩
/-- a row is new -/
theorem mkR {S : zSp} {σ : zS} {t n : Nat} {v : Int32} (hv : v = nI n) (hn : n ≤ 1000) (ht : zSk S = t) {Q : zSp → zS → Prop} (hq : ∀ S' σ', zNb t S σ S' σ' → zSk S' = t + 2 → zSl S' (t + 1) = n → gr σ' t 0 = some (t + 1) → (gi σ' t = fun _ => 0) → (gi σ' (t + 1) = fun _ => 0) → Q S' σ') : wX9_init (zSpush S 9 0) (zfresh σ t) t v Q := by
  have k1 : zSk (zSpush S 9 0) = t + 1 := by rw [zSk_push, ht]
  refine mk9 hv hn (by omega) (fun σ' f g z => ?_)
  rw [k1] at g z
  refine hq _ _ ((zNb_new S σ 9 0 ht (Nat.le_refl _)).tr (f.b (by omega) (fun a j ha hT => by omega))) (by rw [zSk_push, k1]) ?_ g ?_ z
  · rw [← k1]; exact zSl_new _ _ _
  · rw [(f.2.2.2 t (by omega)).1]; exact zfresh_0 σ t
/-- a desk is new -/
theorem mkD {S : zSp} {σ : zS} {t : Nat} (ht : zSk S = t) {Q : zSp → zS → Prop} (hq : ∀ S' σ', zNb t S σ S' σ' → zSk S' = t + 62 → gr σ' t 3 = some (t + 1) → zSl S' (t + 1) = 12 → (∀ q, q < 12 → lnF S' σ' (t + 1) q) → Q S' σ') : wX0_init (zSpush S 0 0) (zfresh σ t) t Q := by
  have k1 : zSk (zSpush S 0 0) = t + 1 := by rw [zSk_push, ht]
  refine mk0 (by omega) (fun S' σ' f s g l h => ?_)
  rw [k1] at s g l h
  exact hq _ _ ((zNb_new S σ 0 0 ht (Nat.le_refl _)).tr (f.b (by omega) (fun a j ha hT => by omega))) s g l h
/-- the figures of the empty text in a plan -/
def zP0 (σ : zS) (p : Nat) : Prop := (gi σ p 0 = 28 ∧ gi σ p 1 = 1 ∧ gi σ p 2 = 200 ∧ gi σ p 3 = 600 ∧ gi σ p 4 = 2) ∧ gi σ (p + 1) 1 = 0 ∧ (gi σ (p + 3) 0 = 0 ∧ gi σ (p + 3) 1 = 100 ∧ gi σ (p + 3) 2 = 0) ∧ gi σ (p + 65) 0 = 0 ∧ gi σ (p + 65) 1 = 100 ∧ gi σ (p + 65) 2 = 0
/-- what a plan is as it is set back -/
theorem c_reset {ln : Nat → Nat} {σ : zS} {p : Nat} (g5 : gr σ p 5 = some (p + 1)) (g6 : gr σ p 6 = some (p + 3)) (g7 : gr σ p 7 = some (p + 65)) {Q : zS → Prop} (hq : ∀ σ', gr σ' = gr σ → gl σ' = gl σ → gd σ' = gd σ → (∀ a, ¬ (a = p ∨ a = p + 1 ∨ a = p + 3 ∨ a = p + 65) → gi σ' a = gi σ a) → zP0 σ' p → Q σ') : wX6_reset ln σ p Q := by
  simp only [wX6_reset, wX9_clear, wX0_reset, forall_eq, gr_si, g5, g6, g7, Option.some.injEq, exists_eq_left']
  refine hq _ rfl rfl rfl (fun a ha => funext fun j => ?_) ?_
  · simp only [gi_si, if_neg (show ¬ a = p from fun e => ha (Or.inl e)), if_neg (show ¬ a = p + 1 by omega), if_neg (show ¬ a = p + 3 by omega), if_neg (show ¬ a = p + 65 by omega)]
  · unfold zP0
    have d1 : ¬ p = p + 1 := by omega
    have d2 : ¬ p = p + 3 := by omega
    have d3 : ¬ p = p + 65 := by omega
    have d4 : ¬ p + 1 = p := by omega
    have d5 : ¬ p + 3 = p := by omega
    have d6 : ¬ p + 65 = p := by omega
    simp only [gi_si, Nat.add_left_cancel_iff, d1, d2, d3, d4, d5, d6, if_true, if_false, Nat.reduceEqDiff, and_self]
/-- a plan is new -/
theorem mkP {S : zSp} {σ : zS} {p : Nat} (hp : zSk S = p) {Q : zSp → zS → Prop} (hq : ∀ S' σ', zNb p S σ S' σ' → zSk S' = p + 127 → zPs (gr σ') (zSl S') p → zP0 σ' p → Q S' σ') : wX6_init (zSpush S 6 0) (zfresh σ p) p Q := by
  have k1 : zSk (zSpush S 6 0) = p + 1 := by rw [zSk_push, hp]
  have B1 := zNb_new S σ 6 0 hp (Nat.le_refl p)
  generalize zSpush S 6 0 = S1 at k1 B1 ⊢
  generalize zfresh σ p = σ1 at B1 ⊢
  intro a1 e1 S2 eS2 σ2 e2
  rw [k1] at e1
  subst e1 eS2 e2
  refine mkR (n := 20) rfl (by decide) k1 (fun S3 σ3 B3 k3 l3 g3 z3 z3' => ?_)
  intro σ5 e5 a6 e6 S6 eS6 σ7 e7
  rw [k3] at e6
  subst e5 e6 eS6 e7
  refine mkD k3 (fun S8 σ8 B8 k8 g8 l8 h8 => ?_)
  intro σ10 e10 a11 e11 S11 eS11 σ12 e12
  rw [k8] at e11
  subst e10 e11 eS11 e12
  refine mkD k8 (fun S13 σ13 B13 k13 g13 l13 h13 => ?_)
  intro σ15 e15
  subst e15
  have r8 : ∀ a j, a < p + 3 → gr σ8 a j = gr (sr σ3 p 5 (some (p + 1))) a j := fun a j ha => by rw [B8.r (by omega)]
  have r13 : ∀ a j, a < p + 65 → gr σ13 a j = gr (sr σ8 p 6 (some (p + 3))) a j := fun a j ha => by rw [B13.r (by omega)]
  have x5 : gr (sr σ13 p 7 (some (p + 65))) p 5 = some (p + 1) := by
    rw [gr_sr, if_pos rfl, if_neg (by decide), r13 _ _ (by omega), gr_sr, if_pos rfl, if_neg (by decide), r8 _ _ (by omega), gr_sr, if_pos rfl, if_pos rfl]
  have x6 : gr (sr σ13 p 7 (some (p + 65))) p 6 = some (p + 3) := by
    rw [gr_sr, if_pos rfl, if_neg (by decide), r13 _ _ (by omega), gr_sr, if_pos rfl, if_pos rfl]
  have x7 : gr (sr σ13 p 7 (some (p + 65))) p 7 = some (p + 65) := by rw [gr_sr, if_pos rfl, if_pos rfl]
  have xo : ∀ a j, a ≠ p → gr (sr σ13 p 7 (some (p + 65))) a j = gr σ13 a j := fun a j ha => by rw [gr_sr, if_neg ha]
  have xo2 : ∀ a j, a ≠ p → a < p + 65 → gr (sr σ13 p 7 (some (p + 65))) a j = gr σ8 a j := fun a j ha hb => by rw [xo a j ha, r13 a j hb, gr_sr, if_neg ha]
  refine c_reset x5 x6 x7 (fun σ' c1 c2 c3 c4 c5 => hq S13 σ' ?_ (by omega) ?_ c5)
  · refine ((((B1.tr (B3.mono (by omega))).tr (zNb_sr S3 σ3 p 5 _ (Nat.le_refl p))).tr (B8.mono (by omega))).tr (zNb_sr S8 σ8 p 6 _ (Nat.le_refl p))).tr ((B13.mono (by omega)).tr ⟨Nat.le_refl _, fun a ha => ⟨rfl, ?_, ?_, ?_, ?_⟩⟩)
    · rw [c1]; exact (zNb_sr S13 σ13 p 7 _ (Nat.le_refl p)).r ha
    · rw [c4 a (by omega)]; rfl
    · rw [c2]; rfl
    · rw [c3]; rfl
  · rw [c1]
    refine ⟨⟨x5, ?_, ?_⟩, ⟨x6, x7⟩, ⟨?_, ?_, ?_, ?_⟩, fun q hq2 k hk => ?_⟩
    · rw [xo2 _ _ (by omega) (by omega), r8 _ _ (by omega), gr_sr, if_neg (by omega)]; exact g3
    · rw [B13.l (by omega), B8.l (by omega)]; exact l3
    · rw [xo2 _ _ (by omega) (by omega)]; exact g8
    · rw [xo _ _ (by omega)]; exact g13
    · rw [B13.l (by omega)]; exact l8
    · exact l13
    · rcases (show q = 0 ∨ q = 1 by omega) with rfl | rfl
      · obtain ⟨h1, h2, h3, h4, h5, h6, h7, h8⟩ := h8 k hk
        simp only [Nat.mul_zero, Nat.add_zero]
        rw [xo2 _ _ (by omega) (by omega), xo2 _ _ (by omega) (by omega), xo2 _ _ (by omega) (by omega), xo2 _ _ (by omega) (by omega), xo2 _ _ (by omega) (by omega), B13.l (by omega), B13.l (by omega)]
        exact ⟨h1, h2, h3, h4, h5, h6, h7⟩
      · obtain ⟨h1, h2, h3, h4, h5, h6, h7, h8⟩ := h13 k hk
        simp only [Nat.mul_one]
        rw [xo _ _ (by omega), xo _ _ (by omega), xo _ _ (by omega), xo _ _ (by omega), xo _ _ (by omega)]
        have e : ∀ c, p + 65 + c = p + 3 + 62 + c := fun c => by omega
        refine ⟨?_, ?_, ?_, ?_, ?_, ?_, ?_⟩
        · rw [show p + 4 + 62 = p + 65 + 1 by omega, h1] <;> (congr 1 <;> omega)
        · rw [show p + 5 + 62 + 5 * k = p + 65 + 1 + 1 + 5 * k by omega, h2] <;> (congr 1 <;> omega)
        · rw [show p + 6 + 62 + 5 * k = p + 65 + 1 + 2 + 5 * k by omega, h3] <;> (congr 1 <;> omega)
        · rw [show p + 5 + 62 + 5 * k = p + 65 + 1 + 1 + 5 * k by omega, h4] <;> (congr 1 <;> omega)
        · rw [show p + 8 + 62 + 5 * k = p + 65 + 1 + 4 + 5 * k by omega, h5] <;> (congr 1 <;> omega)
        · rw [show p + 7 + 62 + 5 * k = p + 65 + 1 + 3 + 5 * k by omega]; exact h6
        · rw [show p + 9 + 62 + 5 * k = p + 65 + 1 + 5 + 5 * k by omega]; exact h7
