/-! THE CLASS'S TOKENS: numbers, words -/
def tok (f4 : Nat → Int32) (c : Nat → Int32) (n q : Nat) : Prop := f4 0 = tK c n q ∧ f4 1 = nI (tS c n q) ∧ f4 3 = nI (tE c n q)
/-- a token is a number in a range -/
def pN (c : Nat → Int32) (n q : Nat) (lo hi : Int32) : Prop := tK c n q = 2 ∧ lo.toInt ≤ (tV c n q).toInt ∧ (tV c n q).toInt ≤ hi.toInt
section ZWORDS
variable {ln : Nat → Nat} {σ : zS} {p : Nat} {f3 f4 : Nat → Int32} {F : Nat → Nat → Int32} {c : Nat → Int32} {n : Nat}
theorem c_number17 (hp : 5 ≤ p) (G : zTg (gr σ) ln) (T : zTc σ c n) {s e : Nat} (hse : s ≤ e) (hen : e ≤ n) (h3 : f4 3 = nI e) {Q : Int32 → zS → Prop} (hq : Q (nV c s (e - s)) (zpc σ p f3 f4 F)) : ∀ (d i : Nat), s + i + d = e → wX10_number_17 ln Q (d + 1) 4 (nV c s i) (nI (s + i)) (zpc σ p f3 f4 F)
  | 0, i, hd => by
    have hn := T.1
    rw [wX10_number_17, gi_zpc_4, h3]
    refine ⟨fun _ => ?_, fun hx => absurd (nI_le (by omega) (by omega)) hx⟩
    rw [show e - s = i by omega] at hq
    exact hq
  | d + 1, i, hd => by
    have hn := T.1
    rw [wX10_number_17, gi_zpc_4, h3]
    have hx : ¬ nI e ≤ nI (s + i) := nI_ge (by omega) (by omega)
    refine ⟨fun h => absurd h hx, fun _ => ⟨1, G.2.2.1, ?_⟩⟩
    refine c_getZ hp G T (k := s + i) (by omega) rfl ?_
    rw [if_pos (by omega)]
    intro x4 e4 x5 e5
    rw [nI_1] at e5
    subst e4 e5
    exact c_number17 hp G T hse hen h3 hq d (i + 1) (by omega)
theorem c_number (hp : 5 ≤ p) (G : zTg (gr σ) ln) (T : zTc σ c n) {q : Nat} (t : tok f4 c n q) {Q : Int32 → zS → Prop} (hq : Q (if tK c n q = 2 then tV c n q else -1) (zpc σ p f3 f4 F)) : wX10_number ln (zpc σ p f3 f4 F) 4 Q := by
  obtain ⟨t0, t1, t3⟩ := t
  unfold wX10_number
  rw [gi_zpc_4, t0]
  refine ⟨fun h x1 e1 => ?_, fun h => by rw [if_neg h] at hq; exact hq⟩
  rw [if_pos h] at hq
  rw [t1] at e1
  subst e1
  have hl := tE_gt c n q
  have hE := tE_le (c := c) (n := n) (q := q) (by rw [h]; decide)
  refine ⟨(tE c n q - tS c n q) + 1, ?_⟩
  exact c_number17 hp G T (by omega) hE.1 t3 hq (tE c n q - tS c n q) 0 (by omega)
theorem c_takeNumber (hp : 5 ≤ p) (G : zTg (gr σ) ln) (T : zTc σ c n) {q : Nat} (hq7 : q ≤ 700) (h3 : f4 3 = nI q) {lo hi : Int32} (hlo : 0 ≤ lo.toInt) {Q : Int32 → zS → Prop} (h0 : ¬ pN c n q lo hi → ∀ f3' f4' : Nat → Int32, (∀ j, j ≠ 2 → f3' j = f3 j) → f4' 1 = nI (tS c n q) → Q 0 (zpc σ p f3' f4' F)) (h1 : pN c n q lo hi → ∀ f3' f4' : Nat → Int32, (∀ j, j ≠ 2 → f3' j = f3 j) → f3' 2 = tV c n q → tok f4' c n q → Q 1 (zpc σ p f3' f4' F)) : wX5_takeNumber ln (zpc σ p f3 f4 F) 3 lo hi Q := by
  refine ⟨4, G.2.1, c_take hp G T hq7 h3 (fun f' a0 a1 a3 => ⟨4, G.2.1, c_number hp G T (f4 := f') (q := q) ⟨a0, a1, a3⟩ ?_⟩)⟩
  intro σ6 e6
  rw [si_zpc_3] at e6
  subst e6
  rw [gi_zpc_3, zu_self]
  have m1 : (-1 : Int32).toInt = -1 := rfl
  by_cases hk : tK c n q = 2
  · rw [if_pos hk]
    refine ⟨fun hx => ?_, fun hx => ⟨fun hy => ?_, fun hy => ?_⟩⟩
    · rw [nlt] at hx
      exact h0 (fun h => by have := h.2.1; omega) _ f' (fun j hj => zu_ne hj) a1
    · rw [nlt] at hy
      exact h0 (fun h => by have := h.2.2; omega) _ f' (fun j hj => zu_ne hj) a1
    · rw [nlt] at hx hy
      exact h1 ⟨hk, by omega, by omega⟩ _ f' (fun j hj => zu_ne hj) (zu_self _ _ _) ⟨a0, a1, a3⟩
  · rw [if_neg hk]
    refine ⟨fun hx => h0 (fun h => hk h.1) _ f' (fun j hj => zu_ne hj) a1, fun hx => ?_⟩
    rw [nlt, m1] at hx
    omega
theorem c_semi (hp : 5 ≤ p) (G : zTg (gr σ) ln) (T : zTc σ c n) {q : Nat} (hq7 : q ≤ 700) (h3 : f4 3 = nI q) {Q : Int32 → zS → Prop} (h0 : ¬ tK c n q = 3 → ∀ f4' : Nat → Int32, f4' 1 = nI (tS c n q) → Q 0 (zpc σ p f3 f4' F)) (h1 : tK c n q = 3 → ∀ f4' : Nat → Int32, tok f4' c n q → Q 1 (zpc σ p f3 f4' F)) : wX5_takeSemicolon ln (zpc σ p f3 f4 F) 3 Q := by
  refine ⟨4, G.2.1, c_take hp G T hq7 h3 (fun f' a0 a1 a3 => ⟨4, G.2.1, ?_⟩)⟩
  rw [gi_zpc_4, a0]
  exact ⟨fun h => h1 h f' ⟨a0, a1, a3⟩, fun h => h0 h f' a1⟩
/-- the words of the text -/
theorem zSw : ∀ i, 2 ≤ i → i < 10 → (zSbyt.getD i []).length = zSlen.getD i 0 ∧ 1 ≤ zSlen.getD i 0 ∧ zSlen.getD i 0 ≤ 7 := by
  intro i h1 h2
  rcases (show i = 2 ∨ i = 3 ∨ i = 4 ∨ i = 5 ∨ i = 6 ∨ i = 7 ∨ i = 8 ∨ i = 9 by omega) with rfl | rfl | rfl | rfl | rfl | rfl | rfl | rfl <;> decide +kernel
theorem c_word23 (hp : 5 ≤ p) (G : zTg (gr σ) ln) (T : zTc σ c n) {i s : Nat} (hi : i < 36) (hL : zSlen.getD i 0 ≤ 7) (hs : s + zSlen.getD i 0 ≤ n) (h1 : f4 1 = nI s) {Q : Int32 → zS → Prop} (q1 : (∀ j, j < zSlen.getD i 0 → c (s + j) = (zSbyt.getD i []).getD j 0) → Q 1 (zpc σ p f3 f4 F)) (q0 : ¬ (∀ j, j < zSlen.getD i 0 → c (s + j) = (zSbyt.getD i []).getD j 0) → Q 0 (zpc σ p f3 f4 F)) : ∀ (d k : Nat), k + d = zSlen.getD i 0 → (∀ j, j < k → c (s + j) = (zSbyt.getD i []).getD j 0) → wX10_isWord_23 ln Q (d + 1) 4 i (nI k) (zpc σ p f3 f4 F)
  | 0, k, hd, hm => by
    rw [wX10_isWord_23]
    unfold wJ0_length_8abf5
    refine c_coder ?_
    rw [shr0]
    exact ⟨fun _ => q1 (fun j hj => hm j (by omega)), fun hx => absurd (nI_le (by omega) (by omega)) hx⟩
  | d + 1, k, hd, hm => by
    have hn := T.1
    rw [wX10_isWord_23]
    unfold wJ0_length_8abf5
    refine c_coder ?_
    rw [shr0]
    have hx : ¬ nI (zSlen.getD i 0) ≤ nI k := nI_ge (by omega) (by omega)
    refine ⟨fun h => absurd h hx, fun _ => ⟨1, G.2.2.1, fun x2 e2 => ?_⟩⟩
    rw [gi_zpc_4, h1, nI_plus] at e2
    refine c_getZ hp G T (k := s + k) (by omega) e2 ?_
    rw [if_pos (by omega)]
    refine w_charAt hi (by omega) (by omega) rfl ⟨fun he x7 e7 => ?_, fun he => q0 (fun h => he (h k (by omega)))⟩
    rw [nI_1] at e7
    subst e7
    refine c_word23 hp G T hi hL hs h1 q1 q0 d (k + 1) (by omega) (fun j hj => ?_)
    by_cases e : j = k
    · subst e; exact he
    · exact hm j (by omega)
theorem c_isWord (hp : 5 ≤ p) (G : zTg (gr σ) ln) (T : zTc σ c n) {q i : Nat} (hi2 : 2 ≤ i) (hi : i < 10) (t : tok f4 c n q) {Q : Int32 → zS → Prop} (q1 : tW c n q i → Q 1 (zpc σ p f3 f4 F)) (q0 : ¬ tW c n q i → Q 0 (zpc σ p f3 f4 F)) : wX10_isWord ln (zpc σ p f3 f4 F) 4 i Q := by
  obtain ⟨t0, t1, t3⟩ := t
  obtain ⟨b1, b2, b3⟩ := zSw i hi2 hi
  have hl := tE_gt c n q
  have hn := T.1
  unfold wX10_isWord
  rw [gi_zpc_4, t0]
  refine ⟨fun h => ?_, fun h => q0 (fun w => h w.1)⟩
  have hE := tE_le (c := c) (n := n) (q := q) (by rw [h]; decide)
  unfold wX10_length wJ0_length_8abf5
  refine c_coder ?_
  rw [gi_zpc_4, t1, t3, shr0, show nI (tE c n q) - nI (tS c n q) = nI (tE c n q - tS c n q) from pk_sub (Nat.le_of_lt hl)]
  have iff := nI_eq (a := tE c n q - tS c n q) (b := zSlen.getD i 0) (by omega) (by omega)
  refine ⟨fun hx => ⟨zSlen.getD i 0 + 1, ?_⟩, fun hx => q0 (fun w => hx (iff.mpr w.2.1))⟩
  have hx := iff.mp hx
  exact c_word23 hp G T (s := tS c n q) (by omega) b3 (by omega) t1 (fun hm => q1 ⟨h, hx, hm⟩) (fun hm => q0 (fun w => hm w.2.2)) (zSlen.getD i 0) 0 (by omega) (fun j hj => absurd hj (Nat.not_lt_zero j))
end ZWORDS
