/-! THE TEXT'S TOKENS, as they are said of its characters -/
def xK (x : Int32) : Int32 := if 97 ≤ x.toInt ∧ x.toInt ≤ 122 then 1 else if 48 ≤ x.toInt ∧ x.toInt ≤ 57 then 2 else if x = 59 then 3 else if x = 47 then 4 else 5
def tSf (c : Nat → Int32) : Nat → Nat → Nat
  | 0, p => p
  | d + 1, p => if c p = 32 ∨ c p = 10 then tSf c d (p + 1) else p
def tS (c : Nat → Int32) (n q : Nat) : Nat := tSf c (n - q) q
def tRf (c : Nat → Int32) (k : Int32) : Nat → Nat → Nat
  | 0, p => p
  | d + 1, p => if xK (c p) = k then tRf c k d (p + 1) else p
def tR (c : Nat → Int32) (n s : Nat) : Nat := tRf c (xK (c s)) (n - s) s
def tE (c : Nat → Int32) (n q : Nat) : Nat := if n ≤ tS c n q then tS c n q + 1 else if xK (c (tS c n q)) = 1 ∨ xK (c (tS c n q)) = 2 then tR c n (tS c n q) else tS c n q + 1
def tK (c : Nat → Int32) (n q : Nat) : Int32 := if n ≤ tS c n q then 0 else if xK (c (tS c n q)) = 1 then (if tR c n (tS c n q) - tS c n q ≤ 12 then 1 else 5) else if xK (c (tS c n q)) = 2 then (if tR c n (tS c n q) - tS c n q ≤ 5 then 2 else 5) else xK (c (tS c n q))
theorem xK_ne0 (x : Int32) : xK x ≠ 0 := by
  unfold xK
  split
  · decide
  · split
    · decide
    · split
      · decide
      · split <;> decide
theorem tSf_b (c : Nat → Int32) : ∀ d p, p ≤ tSf c d p ∧ tSf c d p ≤ p + d ∧ (∀ j, p ≤ j → j < tSf c d p → (c j = 32 ∨ c j = 10)) ∧ (tSf c d p < p + d → ¬ (c (tSf c d p) = 32 ∨ c (tSf c d p) = 10))
  | 0, p => ⟨Nat.le_refl _, Nat.le_refl _, fun j h1 h2 => absurd h2 (by rw [tSf]; omega), fun h => absurd h (by rw [tSf]; omega)⟩
  | d + 1, p => by
    rw [tSf]
    by_cases h : c p = 32 ∨ c p = 10
    · rw [if_pos h]
      obtain ⟨h1, h2, h3, h4⟩ := tSf_b c d (p + 1)
      refine ⟨by omega, by omega, fun j j1 j2 => ?_, fun hh => h4 (by omega)⟩
      by_cases e : j = p
      · rw [e]; exact h
      · exact h3 j (by omega) j2
    · rw [if_neg h]
      exact ⟨Nat.le_refl _, by omega, fun j j1 j2 => absurd j2 (by omega), fun _ => h⟩
theorem tRf_b (c : Nat → Int32) (k : Int32) : ∀ d p, p ≤ tRf c k d p ∧ tRf c k d p ≤ p + d ∧ (∀ j, p ≤ j → j < tRf c k d p → xK (c j) = k) ∧ (tRf c k d p < p + d → ¬ xK (c (tRf c k d p)) = k)
  | 0, p => ⟨Nat.le_refl _, Nat.le_refl _, fun j h1 h2 => absurd h2 (by rw [tRf]; omega), fun h => absurd h (by rw [tRf]; omega)⟩
  | d + 1, p => by
    rw [tRf]
    by_cases h : xK (c p) = k
    · rw [if_pos h]
      obtain ⟨h1, h2, h3, h4⟩ := tRf_b c k d (p + 1)
      refine ⟨by omega, by omega, fun j j1 j2 => ?_, fun hh => h4 (by omega)⟩
      by_cases e : j = p
      · rw [e]; exact h
      · exact h3 j (by omega) j2
    · rw [if_neg h]
      exact ⟨Nat.le_refl _, by omega, fun j j1 j2 => absurd j2 (by omega), fun _ => h⟩
theorem tS_ge (c : Nat → Int32) (n q : Nat) : q ≤ tS c n q := (tSf_b c (n - q) q).1
theorem tS_le {c : Nat → Int32} {n q : Nat} (h : q ≤ n) : tS c n q ≤ n := by
  have := (tSf_b c (n - q) q).2.1
  unfold tS
  omega
theorem tS_le2 (c : Nat → Int32) (n q : Nat) : tS c n q ≤ n ∨ tS c n q = q := by
  have := (tSf_b c (n - q) q).2.1
  have := (tSf_b c (n - q) q).1
  unfold tS
  omega
theorem tR_1 {c : Nat → Int32} {n s : Nat} (h : s < n) : tR c n s = tRf c (xK (c s)) (n - (s + 1)) (s + 1) := by
  unfold tR
  rw [show n - s = (n - (s + 1)) + 1 by omega, tRf, if_pos rfl]
theorem tR_b {c : Nat → Int32} {n s : Nat} (h : s < n) : s < tR c n s ∧ tR c n s ≤ n ∧ (∀ j, s ≤ j → j < tR c n s → xK (c j) = xK (c s)) ∧ (tR c n s < n → ¬ xK (c (tR c n s)) = xK (c s)) := by
  have h1 := tRf_b c (xK (c s)) (n - s) s
  have h2 := tRf_b c (xK (c s)) (n - (s + 1)) (s + 1)
  rw [← tR_1 h] at h2
  have e : tRf c (xK (c s)) (n - s) s = tR c n s := rfl
  rw [e] at h1
  exact ⟨by omega, by omega, h1.2.2.1, fun hh => h1.2.2.2 (by omega)⟩
/-- the end of a token lies behind its beginning, and in the text, if the token does -/
theorem tE_gt (c : Nat → Int32) (n q : Nat) : tS c n q < tE c n q := by
  unfold tE
  split
  · omega
  · split
    · exact (tR_b (by omega)).1
    · omega
theorem tE_le {c : Nat → Int32} {n q : Nat} (h : tK c n q ≠ 0) : tE c n q ≤ n ∧ tS c n q < n := by
  have hs : ¬ n ≤ tS c n q := fun e => h (by unfold tK; rw [if_pos e])
  unfold tE
  rw [if_neg hs]
  split
  · exact ⟨(tR_b (by omega)).2.1, by omega⟩
  · omega
theorem tK_0 {c : Nat → Int32} {n q : Nat} : tK c n q = 0 ↔ n ≤ tS c n q := by
  unfold tK
  by_cases h : n ≤ tS c n q
  · rw [if_pos h]; exact ⟨fun _ => h, fun _ => rfl⟩
  · rw [if_neg h]
    refine ⟨fun e => ?_, fun e => absurd e h⟩
    split at e
    · split at e <;> exact absurd e (by decide)
    · split at e
      · split at e <;> exact absurd e (by decide)
      · exact absurd e (xK_ne0 _)
theorem tE_le1 (c : Nat → Int32) {n q : Nat} (h : q ≤ n) : tE c n q ≤ n + 1 := by
  by_cases e : tK c n q = 0
  · have := tK_0.mp e
    have := tS_le (c := c) h
    unfold tE
    rw [if_pos (by omega)]
    omega
  · have := (tE_le e).1
    omega
/-- a word or a number is a run of its kind -/
theorem tK_run {c : Nat → Int32} {n q : Nat} {k : Int32} (hk : k = 1 ∨ k = 2) (h : tK c n q = k) : xK (c (tS c n q)) = k ∧ tE c n q = tR c n (tS c n q) ∧ tS c n q < n ∧ tE c n q - tS c n q ≤ (if k = 1 then 12 else 5) ∧ ∀ j, tS c n q ≤ j → j < tE c n q → xK (c j) = k := by
  have h0 : tK c n q ≠ 0 := by rw [h]; rcases hk with rfl | rfl <;> decide
  have hs := (tE_le h0).2
  have hn : ¬ n ≤ tS c n q := by omega
  have hx : xK (c (tS c n q)) = k ∧ tR c n (tS c n q) - tS c n q ≤ (if k = 1 then 12 else 5) := by
    unfold tK at h
    rw [if_neg hn] at h
    by_cases h1 : xK (c (tS c n q)) = 1
    · rw [if_pos h1] at h
      by_cases h2 : tR c n (tS c n q) - tS c n q ≤ 12
      · rw [if_pos h2] at h
        rw [← h]
        exact ⟨h1, h2⟩
      · rw [if_neg h2] at h
        rcases hk with rfl | rfl <;> exact absurd h (by decide)
    · rw [if_neg h1] at h
      by_cases h3 : xK (c (tS c n q)) = 2
      · rw [if_pos h3] at h
        by_cases h2 : tR c n (tS c n q) - tS c n q ≤ 5
        · rw [if_pos h2] at h
          rw [← h]
          exact ⟨h3, h2⟩
        · rw [if_neg h2] at h
          rcases hk with rfl | rfl <;> exact absurd h (by decide)
      · rw [if_neg h3] at h
        rw [h] at h1 h3
        rcases hk with rfl | rfl
        · exact absurd rfl h1
        · exact absurd rfl h3
  have hE : tE c n q = tR c n (tS c n q) := by
    unfold tE
    rw [if_neg hn, if_pos (by rw [hx.1]; exact hk)]
  refine ⟨hx.1, hE, hs, by rw [hE]; exact hx.2, fun j j1 j2 => ?_⟩
  rw [(tR_b hs).2.2.1 j j1 (by rw [← hE]; exact j2)]
  exact hx.1
/-- the value of digits, the number of a word's letters -/
def nV (c : Nat → Int32) (s : Nat) : Nat → Int32
  | 0 => 0
  | i + 1 => 10 * nV c s i + c (s + i) - 48
def tV (c : Nat → Int32) (n q : Nat) : Int32 := nV c (tS c n q) (tE c n q - tS c n q)
/-- a token is the word of a text constant -/
def tW (c : Nat → Int32) (n q i : Nat) : Prop := tK c n q = 1 ∧ tE c n q - tS c n q = zSlen.getD i 0 ∧ ∀ j, j < zSlen.getD i 0 → c (tS c n q + j) = (zSbyt.getD i []).getD j 0
