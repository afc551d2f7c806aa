/-! THE TRANSIT by arrivals; how many are under way -/
def zTv (n : Nat) (a : Nat → Int) (w : Nat → Int32) (top lo pc hp ha : Int) (ex : Prop) : Prop :=
  (∀ k, k < n → lo ≤ a k ∧ a k ≤ top) ∧ (∀ i j, i < j → j < n → a i ≤ a j) ∧ (∀ k, k < n → w k = 0 ∨ w k = 1 ∨ w k = 2 ∨ w k = 3) ∧
  (∀ k, k < n → w k = 0 → pc ≤ a k ∧ a k ≤ hp) ∧ (∀ i j, i < j → j < n → w i = 0 → w j = 0 → a i < a j) ∧
  (∀ k, k < n → (w k = 1 ∨ w k = 2) → a k ≤ ha ∧ (ex → a k ≤ ha - 1)) ∧ (∀ i j, i < j → j < n → (w i = 1 ∨ w i = 2) → (w j = 1 ∨ w j = 2) → a i + 2 ≤ a j)
theorem zTv_0 {a : Nat → Int} {w : Nat → Int32} {top lo pc hp ha : Int} {ex : Prop} : zTv 0 a w top lo pc hp ha ex := ⟨fun _ h => absurd h (Nat.not_lt_zero _), fun _ _ _ h => absurd h (Nat.not_lt_zero _), fun _ h => absurd h (Nat.not_lt_zero _), fun _ h => absurd h (Nat.not_lt_zero _), fun _ _ _ h => absurd h (Nat.not_lt_zero _), fun _ h => absurd h (Nat.not_lt_zero _), fun _ _ _ h => absurd h (Nat.not_lt_zero _)⟩
theorem zTv_cong {n n' : Nat} {a a' : Nat → Int} {w w' : Nat → Int32} {top top' lo pc hp ha : Int} {ex ex' : Prop} (h : zTv n a w top lo pc hp ha ex) (hn : n' = n) (hA : ∀ k, k < n → a' k = a k) (hw : ∀ k, k < n → w' k = w k) (ht : top' = top) (he : ex' → ex) : zTv n' a' w' top' lo pc hp ha ex' := by
  subst hn ht
  obtain ⟨h1, h2, h3, h4, h5, h6, h7⟩ := h
  refine ⟨fun k hk => ?_, fun i j hij hj => ?_, fun k hk => ?_, fun k hk h0 => ?_, fun i j hij hj hi0 hj0 => ?_, fun k hk h0 => ?_, fun i j hij hj hi0 hj0 => ?_⟩
  · rw [hA k hk]; exact h1 k hk
  · rw [hA i (by omega), hA j hj]; exact h2 i j hij hj
  · rw [hw k hk]; exact h3 k hk
  · rw [hw k hk] at h0; rw [hA k hk]; exact h4 k hk h0
  · rw [hw i (by omega)] at hi0; rw [hw j hj] at hj0; rw [hA i (by omega), hA j hj]; exact h5 i j hij hj hi0 hj0
  · rw [hw k hk] at h0; rw [hA k hk]; exact ⟨(h6 k hk h0).1, fun e => (h6 k hk h0).2 (he e)⟩
  · rw [hw i (by omega)] at hi0; rw [hw j hj] at hj0; rw [hA i (by omega), hA j hj]; exact h7 i j hij hj hi0 hj0
theorem zTv_mono {n : Nat} {a : Nat → Int} {w : Nat → Int32} {top top' lo lo' pc pc' hp hp' ha ha' : Int} {ex : Prop} (h : zTv n a w top lo pc hp ha ex) (h0 : top ≤ top') (h1 : lo' ≤ lo) (h2 : pc' ≤ pc) (h3 : hp ≤ hp') (h4 : ha ≤ ha') : zTv n a w top' lo' pc' hp' ha' ex := by
  obtain ⟨a1, a2, a3, a4, a5, a6, a7⟩ := h
  refine ⟨fun k hk => ?_, a2, a3, fun k hk e => ?_, a5, fun k hk e => ⟨?_, fun x => ?_⟩, a7⟩
  · have := a1 k hk; omega
  · have := a4 k hk e; omega
  · have := (a6 k hk e).1; omega
  · have := (a6 k hk e).2 x; omega
theorem zTv_lo {n : Nat} {a : Nat → Int} {w : Nat → Int32} {top lo pc hp ha : Int} {ex : Prop} (h : zTv n a w top lo pc hp ha ex) (h0 : 0 < n → lo < a 0) : zTv n a w top (lo + 1) pc hp ha ex := by
  obtain ⟨a1, a2, a3, a4, a5, a6, a7⟩ := h
  refine ⟨fun k hk => ?_, a2, a3, a4, a5, a6, a7⟩
  have h1 := a1 k hk
  have h2 := h0 (by omega)
  by_cases hk0 : k = 0
  · subst hk0; omega
  · have := a2 0 k (by omega) hk
    omega
theorem zTv_pop {n : Nat} {a : Nat → Int} {w : Nat → Int32} {top lo pc hp ha : Int} {ex : Prop} (h : zTv (n + 1) a w top lo pc hp ha ex) : zTv n (fun k => a (k + 1)) (fun k => w (k + 1)) top lo pc hp ha ex := by
  obtain ⟨a1, a2, a3, a4, a5, a6, a7⟩ := h
  exact ⟨fun k hk => a1 (k + 1) (by omega), fun i j hij hj => a2 (i + 1) (j + 1) (by omega) (by omega), fun k hk => a3 (k + 1) (by omega), fun k hk => a4 (k + 1) (by omega), fun i j hij hj => a5 (i + 1) (j + 1) (by omega) (by omega), fun k hk => a6 (k + 1) (by omega), fun i j hij hj => a7 (i + 1) (j + 1) (by omega) (by omega)⟩
theorem zTv_popP {n : Nat} {a : Nat → Int} {w : Nat → Int32} {top lo pc hp ha : Int} {ex : Prop} (h : zTv (n + 1) a w top lo pc hp ha ex) (hw : w 0 = 0) : zTv n (fun k => a (k + 1)) (fun k => w (k + 1)) top lo (pc + 1) hp ha ex := by
  obtain ⟨b1, b2, b3, b4, b5, b6, b7⟩ := zTv_pop h
  obtain ⟨a1, a2, a3, a4, a5, a6, a7⟩ := h
  refine ⟨b1, b2, b3, fun k hk e => ?_, b5, b6, b7⟩
  have h1 := b4 k hk e
  have h2 := a5 0 (k + 1) (by omega) (by omega) hw e
  have h3 := (a4 0 (by omega) hw).1
  show pc + 1 ≤ a (k + 1) ∧ a (k + 1) ≤ hp
  have h1' : pc ≤ a (k + 1) ∧ a (k + 1) ≤ hp := h1
  omega
theorem zTv_push {n : Nat} {a a' : Nat → Int} {w w' : Nat → Int32} {top lo pc hp ha hp' ha' : Int} {ex ex' : Prop} (h : zTv n a w top lo pc hp ha ex) (hA : ∀ k, k < n → a' k = a k) (hw : ∀ k, k < n → w' k = w k) (hn : a' n = top) (hlo : lo ≤ top) (hpl : hp ≤ hp') (hal : ha ≤ ha') (hxx : ex' → ex)
    (hc : (w' n = 0 ∧ hp < top ∧ pc ≤ top ∧ top ≤ hp') ∨ ((w' n = 1 ∨ w' n = 2) ∧ ex ∧ ¬ ex' ∧ ha + 1 = top ∧ top ≤ ha') ∨ w' n = 3) : zTv (n + 1) a' w' top lo pc hp' ha' ex' := by
  obtain ⟨a1, a2, a3, a4, a5, a6, a7⟩ := h
  have n0 : ¬ (0 : Int32) = 1 := by decide
  have n1 : ¬ (0 : Int32) = 2 := by decide
  have n2 : ¬ (1 : Int32) = 0 := by decide
  have n3 : ¬ (2 : Int32) = 0 := by decide
  have n4 : ¬ (3 : Int32) = 0 := by decide
  have n5 : ¬ (3 : Int32) = 1 := by decide
  have n6 : ¬ (3 : Int32) = 2 := by decide
  refine ⟨fun k hk => ?_, fun i j hij hj => ?_, fun k hk => ?_, fun k hk h0 => ?_, fun i j hij hj hi0 hj0 => ?_, fun k hk h0 => ?_, fun i j hij hj hi0 hj0 => ?_⟩
  · by_cases e : k = n
    · subst e; omega
    · rw [hA k (by omega)]; exact a1 k (by omega)
  · rw [hA i (by omega)]
    by_cases e : j = n
    · subst e; rw [hn]; exact (a1 i hij).2
    · rw [hA j (by omega)]; exact a2 i j hij (by omega)
  · by_cases e : k = n
    · subst e
      rcases hc with hc | hc | hc
      · exact Or.inl hc.1
      · exact hc.1.elim (fun x => Or.inr (Or.inl x)) (fun x => Or.inr (Or.inr (Or.inl x)))
      · exact Or.inr (Or.inr (Or.inr hc))
    · rw [hw k (by omega)]; exact a3 k (by omega)
  · by_cases e : k = n
    · subst e
      rcases hc with hc | hc | hc
      · omega
      · exact absurd h0 (fun h => hc.1.elim (fun x => n2 (x.symm.trans h)) (fun x => n3 (x.symm.trans h)))
      · exact absurd (hc.symm.trans h0) n4
    · rw [hw k (by omega)] at h0
      rw [hA k (by omega)]
      have := a4 k (by omega) h0
      omega
  · rw [hw i (by omega)] at hi0
    rw [hA i (by omega)]
    by_cases e : j = n
    · subst e
      rw [hn]
      rcases hc with hc | hc | hc
      · have := (a4 i hij hi0).2
        omega
      · exact absurd hj0 (fun h => hc.1.elim (fun x => n2 (x.symm.trans h)) (fun x => n3 (x.symm.trans h)))
      · exact absurd (hc.symm.trans hj0) n4
    · rw [hw j (by omega)] at hj0
      rw [hA j (by omega)]; exact a5 i j hij (by omega) hi0 hj0
  · by_cases e : k = n
    · subst e
      rw [hn]
      rcases hc with hc | hc | hc
      · exact absurd h0 (fun h => h.elim (fun x => n0 (hc.1.symm.trans x)) (fun x => n1 (hc.1.symm.trans x)))
      · exact ⟨hc.2.2.2.2, fun x => absurd x hc.2.2.1⟩
      · exact absurd h0 (fun h => h.elim (fun x => n5 (hc.symm.trans x)) (fun x => n6 (hc.symm.trans x)))
    · rw [hw k (by omega)] at h0
      rw [hA k (by omega)]
      have := a6 k (by omega) h0
      exact ⟨by omega, fun x => by have := this.2 (hxx x); omega⟩
  · rw [hw i (by omega)] at hi0
    rw [hA i (by omega)]
    by_cases e : j = n
    · subst e
      rw [hn]
      rcases hc with hc | hc | hc
      · exact absurd hj0 (fun h => h.elim (fun x => n0 (hc.1.symm.trans x)) (fun x => n1 (hc.1.symm.trans x)))
      · have := (a6 i hij hi0).2 hc.2.1
        omega
      · exact absurd hj0 (fun h => h.elim (fun x => n5 (hc.symm.trans x)) (fun x => n6 (hc.symm.trans x)))
    · rw [hw j (by omega)] at hj0
      rw [hA j (by omega)]; exact a7 i j hij (by omega) hi0 hj0
/-- how many of the first n -/
def zcnt (p : Nat → Bool) : Nat → Nat
  | 0 => 0
  | n + 1 => zcnt p n + (if p n then 1 else 0)
theorem zcnt_gap {p : Nat → Bool} {a : Nat → Int} {g : Nat} {lo : Int} : ∀ n, (∀ k, k < n → p k = true → lo ≤ a k) → (∀ i j, i < j → j < n → p i = true → p j = true → a i + g ≤ a j) → zcnt p n = 0 ∨ ∃ k, k < n ∧ p k = true ∧ lo + (g : Int) * (zcnt p n : Nat) ≤ a k + g
  | 0, _, _ => Or.inl rfl
  | n + 1, h1, h2 => by
    have ih := zcnt_gap n (fun k hk => h1 k (by omega)) (fun i j hij hj => h2 i j hij (by omega))
    rw [zcnt]
    by_cases hp : p n = true
    · rw [if_pos hp]
      right
      refine ⟨n, by omega, hp, ?_⟩
      rcases ih with ih | ⟨k, k1, k2, k3⟩
      · rw [ih]
        have := h1 n (by omega) hp
        simp
        exact this
      · have := h2 k n k1 (by omega) k2 hp
        rw [Int.natCast_add, Int.mul_add]
        have e : (g : Int) * ((1 : Nat) : Int) = g := by simp
        rw [e]
        omega
    · rw [if_neg hp]
      rcases ih with ih | ⟨k, k1, k2, k3⟩
      · exact Or.inl ih
      · exact Or.inr ⟨k, by omega, k2, k3⟩
theorem zcnt_sum {p q s : Nat → Bool} : ∀ n, (∀ k, k < n → p k = true ∨ q k = true ∨ s k = true) → n ≤ zcnt p n + zcnt q n + zcnt s n
  | 0, _ => Nat.zero_le _
  | n + 1, h => by
    have ih := zcnt_sum n (fun k hk => h k (by omega))
    have h1 := h n (by omega)
    rw [zcnt, zcnt, zcnt]
    rcases h1 with h1 | h1 | h1
    · rw [if_pos h1]; omega
    · rw [if_pos h1]; omega
    · rw [if_pos h1]; omega
theorem zcnt_cong {p q : Nat → Bool} : ∀ n, (∀ k, k < n → p k = q k) → zcnt p n = zcnt q n
  | 0, _ => rfl
  | n + 1, h => by
    rw [zcnt, zcnt, zcnt_cong n (fun k hk => h k (by omega)), h n (by omega)]
theorem zcnt_shift (p : Nat → Bool) : ∀ n, zcnt p (n + 1) = (if p 0 then 1 else 0) + zcnt (fun k => p (k + 1)) n
  | 0 => by simp [zcnt]
  | n + 1 => by
    rw [zcnt, zcnt_shift p n]
    show _ = _ + (zcnt (fun k => p (k + 1)) n + (if p (n + 1) then 1 else 0))
    omega
/-- the transit of a row -/
def nU (r : Nat → Int32) : Nat := (r 19).toNatClampNeg
def aE (r : Nat → Int32) (k : Nat) : Int := (r (2963 + 3 * k)).toInt
def wE (r : Nat → Int32) (k : Nat) : Int32 := r (2964 + 3 * k)
def zTr (r : Nat → Int32) (lo pc hp ha : Int) : Prop := zTv (nU r) (aE r) (wE r) ((r 5).toInt + (r 1).toInt) lo pc hp ha (r 14 = 1)
def zBr (r : Nat → Int32) : Nat := zcnt (fun k => decide (wE r k = 3)) (nU r)
theorem zT_n {r : Nat → Int32} {lo pc hp ha : Int} (h : zTr r lo pc hp ha) (h1 : (r 5).toInt + (r 1).toInt ≤ lo + 50) (h2 : hp ≤ pc + 50) : nU r ≤ 77 + zBr r := by
  obtain ⟨a1, a2, a3, a4, a5, a6, a7⟩ := h
  have hs := zcnt_sum (p := fun k => decide (wE r k = 0)) (q := fun k => decide (wE r k = 1 ∨ wE r k = 2)) (s := fun k => decide (wE r k = 3)) (nU r) (fun k hk => by
    rcases a3 k hk with e | e | e | e
    · exact Or.inl (by simp [e])
    · exact Or.inr (Or.inl (by simp [e]))
    · exact Or.inr (Or.inl (by simp [e]))
    · exact Or.inr (Or.inr (by simp [e])))
  have c0 := zcnt_gap (p := fun k => decide (wE r k = 0)) (a := aE r) (g := 1) (lo := pc) (nU r) (fun k hk e => (a4 k hk (of_decide_eq_true e)).1) (fun i j hij hj e1 e2 => by
    have := a5 i j hij hj (of_decide_eq_true e1) (of_decide_eq_true e2)
    omega)
  have c1 := zcnt_gap (p := fun k => decide (wE r k = 1 ∨ wE r k = 2)) (a := aE r) (g := 2) (lo := lo) (nU r) (fun k hk e => (a1 k hk).1) (fun i j hij hj e1 e2 => by
    have := a7 i j hij hj (of_decide_eq_true e1) (of_decide_eq_true e2)
    omega)
  have b0 : zcnt (fun k => decide (wE r k = 0)) (nU r) ≤ 51 := by
    rcases c0 with c0 | ⟨k, k1, k2, k3⟩
    · omega
    · have := (a4 k k1 (of_decide_eq_true k2)).2
      omega
  have b1 : zcnt (fun k => decide (wE r k = 1 ∨ wE r k = 2)) (nU r) ≤ 26 := by
    rcases c1 with c1 | ⟨k, k1, k2, k3⟩
    · omega
    · have := (a1 k k1).2
      omega
  unfold zBr
  omega
/-- the same transit -/
def zTe (r r' : Nat → Int32) : Prop := r' 19 = r 19 ∧ (∀ j, j < 1800 → r' (2963 + j) = r (2963 + j)) ∧ r' 5 = r 5 ∧ r' 1 = r 1 ∧ (r' 14 = 1 → r 14 = 1)
theorem zTe.nn {r r' : Nat → Int32} (e : zTe r r') : nU r' = nU r := by
  show (r' 19).toNatClampNeg = (r 19).toNatClampNeg
  rw [e.1]
theorem zTe.el {r r' : Nat → Int32} (e : zTe r r') {k : Nat} (hk : k < 600) : aE r' k = aE r k ∧ wE r' k = wE r k := by
  refine ⟨?_, ?_⟩
  · show (r' (2963 + 3 * k)).toInt = (r (2963 + 3 * k)).toInt
    rw [e.2.1 (3 * k) (by omega)]
  · show r' (2964 + 3 * k) = r (2964 + 3 * k)
    have := e.2.1 (3 * k + 1) (by omega)
    have e1 : 2963 + (3 * k + 1) = 2964 + 3 * k := by omega
    rw [e1] at this
    exact this
theorem zTe.T {r r' : Nat → Int32} (e : zTe r r') (hn : nU r ≤ 600) {lo pc hp ha : Int} (h : zTr r lo pc hp ha) : zTr r' lo pc hp ha := zTv_cong h e.nn (fun k hk => (e.el (by omega)).1) (fun k hk => (e.el (by omega)).2) (by rw [e.2.2.1, e.2.2.2.1]) e.2.2.2.2
theorem zTe.B {r r' : Nat → Int32} (e : zTe r r') (hn : nU r ≤ 600) : zBr r' = zBr r := by
  unfold zBr
  rw [e.nn]
  exact zcnt_cong _ (fun k hk => by rw [(e.el (by omega)).2])
theorem zT_0 {r : Nat → Int32} (h : r 19 = 0) {lo pc hp ha : Int} : zTr r lo pc hp ha := by
  unfold zTr nU
  rw [h]
  exact zTv_0
theorem zBr_0 {r : Nat → Int32} (h : r 19 = 0) : zBr r = 0 := by
  unfold zBr nU
  rw [h]
  rfl
theorem rPop_n {r : Nat → Int32} (h : zW r) {n : Nat} (hn : nU r = n + 1) : nU (rPop r) = n ∧ (r 19 - 1).toNatClampNeg = n := by
  have hu := h.u
  unfold nU at hn ⊢
  have e2 : (r 19 - 1).toInt = (r 19).toInt - 1 := nsub (b := 1) (by show _ ≤ (r 19).toInt - 1; omega) (by show (r 19).toInt - 1 < _; omega)
  have e3 : (r 19 - 1).toNatClampNeg = n := by rw [ncln] at hn ⊢; omega
  refine ⟨?_, e3⟩
  unfold rPop
  rw [zcut_out _ (by omega), zu_self]
  exact e3
theorem rPop_at {r : Nat → Int32} (h : zW r) {n : Nat} (hn : nU r = n + 1) {k : Nat} (hk : k < n) : aE (rPop r) k = aE r (k + 1) ∧ wE (rPop r) k = wE r (k + 1) := by
  obtain ⟨h1, h2⟩ := rPop_n h hn
  unfold aE wE rPop zcut
  rw [h2, if_pos (by omega), if_pos (by omega), zu_ne (by omega), zu_ne (by omega)]
  have e1 : 2963 + 3 * k + 3 = 2963 + 3 * (k + 1) := by omega
  have e2 : 2964 + 3 * k + 3 = 2964 + 3 * (k + 1) := by omega
  rw [e1, e2]
  exact ⟨rfl, rfl⟩
theorem rPop_out (r : Nat → Int32) {k : Nat} (h1 : k ≠ 19) (h2 : k < 2963) : rPop r k = r k := by
  unfold rPop
  rw [zcut_out _ (by omega), zu_ne h1]
theorem zT_pop {r : Nat → Int32} (hW : zW r) {n : Nat} (hn : nU r = n + 1) {lo pc hp ha : Int} (h : zTr r lo pc hp ha) : zTr (rPop r) lo (if wE r 0 = 0 then pc + 1 else pc) hp ha := by
  have ht : (rPop r 5).toInt + (rPop r 1).toInt = (r 5).toInt + (r 1).toInt := by rw [rPop_out r (by decide) (by decide), rPop_out r (by decide) (by decide)]
  have he : rPop r 14 = 1 → r 14 = 1 := by rw [rPop_out r (by decide) (by decide)]; exact id
  unfold zTr at h
  rw [hn] at h
  split
  · exact zTv_cong (zTv_popP h (by assumption)) (rPop_n hW hn).1 (fun k hk => (rPop_at hW hn hk).1) (fun k hk => (rPop_at hW hn hk).2) ht he
  · exact zTv_cong (zTv_pop h) (rPop_n hW hn).1 (fun k hk => (rPop_at hW hn hk).1) (fun k hk => (rPop_at hW hn hk).2) ht he
theorem zBr_pop {r : Nat → Int32} (hW : zW r) {n : Nat} (hn : nU r = n + 1) : zBr (rPop r) ≤ zBr r := by
  unfold zBr
  rw [(rPop_n hW hn).1, hn, zcnt_shift]
  rw [zcnt_cong (p := fun k => decide (wE (rPop r) k = 3)) (q := fun k => decide (wE r (k + 1) = 3)) n (fun k hk => by rw [(rPop_at hW hn hk).2])]
  omega
theorem rSends_n {r : Nat → Int32} (h0 : 0 ≤ (r 19).toInt) (h1 : (r 19).toInt ≤ 599) (w v : Int32) : nU (rSends r w v) = nU r + 1 := by
  have e2 : (r 19 + 1).toInt = (r 19).toInt + 1 := ixs (k := 1) rfl (by decide) (by omega) (by omega)
  show (rSends r w v 19).toNatClampNeg = (r 19).toNatClampNeg + 1
  unfold rSends rPut
  rw [zu_self, ncln, ncln, e2]
  omega
theorem rSends_at {r : Nat → Int32} (w v : Int32) : (∀ k, k < nU r → aE (rSends r w v) k = aE r k ∧ wE (rSends r w v) k = wE r k) ∧ aE (rSends r w v) (nU r) = (r 5 + r 1).toInt ∧ wE (rSends r w v) (nU r) = w := by
  refine ⟨fun k hk => ?_, ?_, ?_⟩
  · unfold nU at hk
    unfold aE wE rSends
    rw [rPut_out r (by omega) (by omega), rPut_out r (by omega) (by omega)]
    exact ⟨rfl, rfl⟩
  · unfold aE rSends rPut nU
    rw [zu_ne (by omega), zu_ne (by omega), zu_ne (by omega), zu_self]
  · unfold wE rSends rPut nU
    have e1 : 2964 + 3 * (r 19).toNatClampNeg = 2963 + 3 * (r 19).toNatClampNeg + 1 := by omega
    rw [e1, zu_ne (by omega), zu_ne (by omega), zu_self]
theorem rSends_out (r : Nat → Int32) {w v : Int32} {k : Nat} (h1 : k ≠ 19) (h2 : k < 2963) : rSends r w v k = r k := by
  unfold rSends
  exact rPut_out r h1 (by omega)
theorem zBr_sends {r : Nat → Int32} (h0 : 0 ≤ (r 19).toInt) (h1 : (r 19).toInt ≤ 599) (w v : Int32) : zBr (rSends r w v) = zBr r + (if w = 3 then 1 else 0) := by
  unfold zBr
  obtain ⟨a1, a2, a3⟩ := rSends_at (r := r) w v
  rw [rSends_n h0 h1, zcnt, zcnt_cong (p := fun k => decide (wE (rSends r w v) k = 3)) (q := fun k => decide (wE r k = 3)) (nU r) (fun k hk => by rw [(a1 k hk).2])]
  show _ + (if decide (wE (rSends r w v) (nU r) = 3) = true then 1 else 0) = _
  rw [a3]
  by_cases h : w = 3
  · simp [h]
  · simp [h]
