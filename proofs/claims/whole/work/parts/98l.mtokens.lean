/-! THE MODEL'S STORE as it reads; the number of a word -/
def zmr (σ : zS) (f : Nat → Int32) (w : Int64) (R : zRow) : zS := (fun a => if a = 455 then f else if a = 457 then R else σ.1 a, σ.2.1, fun a => if a = 455 then (fun j => if j = 22 then w else σ.2.2.1 455 j) else σ.2.2.1 a, σ.2.2.2)
section ZMR
variable {σ : zS} {f : Nat → Int32} {w : Int64} {R : zRow}
theorem gr_zmr : gr (zmr σ f w R) = gr σ := rfl
theorem gd_zmr : gd (zmr σ f w R) = gd σ := rfl
theorem gi_zmr_f : gi (zmr σ f w R) 455 = f := rfl
theorem gi_zmr_r : gi (zmr σ f w R) 457 = R := rfl
theorem gi_zmr (a : Nat) : gi (zmr σ f w R) a = if a = 455 then f else if a = 457 then R else gi σ a := by
  show (if a = 455 then f else if a = 457 then R else σ.1 a) = _
  split
  · rfl
  · split <;> rfl
theorem gi_zmr_o {a : Nat} (h1 : a ≠ 455) (h2 : a ≠ 457) : gi (zmr σ f w R) a = gi σ a := by rw [gi_zmr, if_neg h1, if_neg h2]
theorem gl_zmr_w : gl (zmr σ f w R) 455 22 = w := rfl
theorem gl_zmr (a j : Nat) : gl (zmr σ f w R) a j = if a = 455 then (if j = 22 then w else gl σ 455 j) else gl σ a j := by
  show (if a = 455 then (fun j => if j = 22 then w else σ.2.2.1 455 j) else σ.2.2.1 a) j = _
  split <;> rfl
theorem gl_zmr_o {a : Nat} (h : a ≠ 455) : gl (zmr σ f w R) a = gl σ a := by
  funext j
  rw [gl_zmr, if_neg h]
theorem si_zmr_f (j : Nat) (v : Int32) : si (zmr σ f w R) 455 j v = zmr σ (zu f j v) w R := by
  refine zS_ext2 (fun a i => ?_) rfl (fun a i => rfl) rfl
  rw [gi_si, gi_zmr, gi_zmr]
  by_cases h : a = 455
  · subst h; rw [if_pos rfl, if_pos rfl, if_pos rfl]; rfl
  · rw [if_neg h, if_neg h, if_neg h]
theorem si_zmr_r (j : Nat) (v : Int32) : si (zmr σ f w R) 457 j v = zmr σ f w (zu R j v) := by
  refine zS_ext2 (fun a i => ?_) rfl (fun a i => rfl) rfl
  rw [gi_si, gi_zmr, gi_zmr]
  by_cases h : a = 457
  · subst h; rfl
  · rw [if_neg h]
    by_cases h4 : a = 455
    · rw [if_pos h4, if_pos h4]
    · rw [if_neg h4, if_neg h4, if_neg h, if_neg h]
theorem sl_zmr (v : Int64) : sl (zmr σ f w R) 455 22 v = zmr σ f v R := by
  refine zS_ext2 (fun a i => rfl) rfl (fun a i => ?_) rfl
  rw [gl_sl, gl_zmr, gl_zmr]
  by_cases h : a = 455
  · subst h; rw [if_pos rfl, if_pos rfl, if_pos rfl]
    by_cases e : i = 22
    · rw [if_pos e, if_pos e]
    · rw [if_neg e, if_neg e, if_neg e]
  · rw [if_neg h, if_neg h, if_neg h]
theorem zmr_self : zmr σ (gi σ 455) (gl σ 455 22) (gi σ 457) = σ := by
  refine zS_ext2 (fun a i => ?_) rfl (fun a i => ?_) rfl
  · rw [gi_zmr]
    by_cases h : a = 455
    · subst h; rw [if_pos rfl]
    · rw [if_neg h]
      by_cases h2 : a = 457
      · subst h2; rw [if_pos rfl]
      · rw [if_neg h2]
  · rw [gl_zmr]
    by_cases h : a = 455
    · subst h; rw [if_pos rfl]
      by_cases e : i = 22
      · subst e; rw [if_pos rfl]
      · rw [if_neg e]
    · rw [if_neg h]
end ZMR
/-- letters by their numbers: what a word comes to -/
def hZ (c : Nat → Int32) (s : Nat) : Nat → Int
  | 0 => 0
  | i + 1 => 27 * hZ c s i + ((c (s + i)).toInt - 96)
theorem hZ_pos {c : Nat → Int32} {s : Nat} : ∀ m, (∀ j, j < m → 97 ≤ (c (s + j)).toInt ∧ (c (s + j)).toInt ≤ 122) → 0 ≤ hZ c s m ∧ (1 ≤ m → 1 ≤ hZ c s m)
  | 0, h => ⟨Int.le_refl 0, fun h => absurd h (by omega)⟩
  | m + 1, h => by
    have h1 := (hZ_pos m (fun j hj => h j (by omega))).1
    have h2 := h m (by omega)
    rw [hZ]
    exact ⟨by omega, fun _ => by omega⟩
theorem hZ_eq {c c' : Nat → Int32} {s s' : Nat} : ∀ m l, (∀ j, j < m → 97 ≤ (c (s + j)).toInt ∧ (c (s + j)).toInt ≤ 122) → (∀ j, j < l → 97 ≤ (c' (s' + j)).toInt ∧ (c' (s' + j)).toInt ≤ 122) → (hZ c s m = hZ c' s' l ↔ m = l ∧ ∀ j, j < l → c (s + j) = c' (s' + j))
  | 0, 0, h, h' => ⟨fun _ => ⟨rfl, fun j hj => absurd hj (Nat.not_lt_zero j)⟩, fun _ => rfl⟩
  | 0, l + 1, h, h' => by
    have := (hZ_pos (l + 1) h').2 (by omega)
    have e : hZ c s 0 = 0 := rfl
    exact ⟨fun x => by omega, fun x => absurd x.1 (by omega)⟩
  | m + 1, 0, h, h' => by
    have := (hZ_pos (m + 1) h).2 (by omega)
    have e : hZ c' s' 0 = 0 := rfl
    exact ⟨fun x => by omega, fun x => absurd x.1 (by omega)⟩
  | m + 1, l + 1, h, h' => by
    have ih := hZ_eq (c := c) (c' := c') (s := s) (s' := s') m l (fun j hj => h j (by omega)) (fun j hj => h' j (by omega))
    have h1 := h m (by omega)
    have h2 := h' l (by omega)
    rw [hZ, hZ]
    refine ⟨fun x => ?_, fun x => ?_⟩
    · have hx : hZ c s m = hZ c' s' l := by omega
      obtain ⟨e1, e2⟩ := ih.mp hx
      subst e1
      refine ⟨rfl, fun j hj => ?_⟩
      by_cases e : j = m
      · subst e
        rw [neq]
        omega
      · exact e2 j (by omega)
    · obtain ⟨e1, e2⟩ := x
      obtain rfl : m = l := by omega
      have := ih.mpr ⟨rfl, fun j hj => e2 j (by omega)⟩
      rw [this, e2 m (by omega)]
theorem hZ_lt {c : Nat → Int32} {s : Nat} : ∀ m, (∀ j, j < m → 97 ≤ (c (s + j)).toInt ∧ (c (s + j)).toInt ≤ 122) → hZ c s m < 27 ^ m
  | 0, h => by show (0 : Int) < 27 ^ 0; decide
  | m + 1, h => by
    have h1 := hZ_lt m (fun j hj => h j (by omega))
    have h2 := h m (by omega)
    rw [hZ, Int.pow_succ]
    omega
theorem hZ_12 {c : Nat → Int32} {s m : Nat} (hm : m ≤ 11) (h : ∀ j, j < m → 97 ≤ (c (s + j)).toInt ∧ (c (s + j)).toInt ≤ 122) : hZ c s m < 10000000000000000 := by
  have h1 := hZ_lt m h
  have h2 : (27 : Int) ^ m ≤ 27 ^ 11 := by
    rcases (show m = 0 ∨ m = 1 ∨ m = 2 ∨ m = 3 ∨ m = 4 ∨ m = 5 ∨ m = 6 ∨ m = 7 ∨ m = 8 ∨ m = 9 ∨ m = 10 ∨ m = 11 by omega) with rfl | rfl | rfl | rfl | rfl | rfl | rfl | rfl | rfl | rfl | rfl | rfl <;> decide
  have h3 : (27 : Int) ^ 11 < 10000000000000000 := by decide
  omega
/-- the word of a text constant and its number -/
def bB (i : Nat) : Nat → Int32 := fun j => (zSbyt.getD i []).getD j 0
def hW (i : Nat) : Int := hZ (bB i) 0 (zSlen.getD i 0)
theorem hW_v : hW 2 = 5118683171 ∧ hW 3 = 12384399 ∧ hW 4 = 218546996 ∧ hW 5 = 247649 ∧ hW 6 = 2232979 ∧ hW 7 = 1387419050 ∧ hW 8 = 4134649 ∧ hW 9 = 7056303166 := by decide +kernel
theorem bB_b : ∀ i, 2 ≤ i → i < 10 → ∀ j, j < zSlen.getD i 0 → 97 ≤ (bB i (0 + j)).toInt ∧ (bB i (0 + j)).toInt ≤ 122 := by
  intro i h1 h2
  rcases (show i = 2 ∨ i = 3 ∨ i = 4 ∨ i = 5 ∨ i = 6 ∨ i = 7 ∨ i = 8 ∨ i = 9 by omega) with rfl | rfl | rfl | rfl | rfl | rfl | rfl | rfl <;> decide +kernel
theorem xK_1 {x : Int32} : xK x = 1 ↔ 97 ≤ x.toInt ∧ x.toInt ≤ 122 := by
  unfold xK
  refine ⟨fun h => ?_, fun h => by rw [if_pos h]⟩
  by_cases h1 : 97 ≤ x.toInt ∧ x.toInt ≤ 122
  · exact h1
  · rw [if_neg h1] at h
    by_cases h2 : 48 ≤ x.toInt ∧ x.toInt ≤ 57
    · rw [if_pos h2] at h; exact absurd h (by decide)
    · rw [if_neg h2] at h
      by_cases h3 : x = 59
      · rw [if_pos h3] at h; exact absurd h (by decide)
      · rw [if_neg h3] at h
        by_cases h4 : x = 47
        · rw [if_pos h4] at h; exact absurd h (by decide)
        · rw [if_neg h4] at h; exact absurd h (by decide)
theorem xK_2 {x : Int32} : xK x = 2 ↔ 48 ≤ x.toInt ∧ x.toInt ≤ 57 := by
  unfold xK
  refine ⟨fun h => ?_, fun h => by rw [if_neg (by omega), if_pos h]⟩
  by_cases h1 : 97 ≤ x.toInt ∧ x.toInt ≤ 122
  · rw [if_pos h1] at h; exact absurd h (by decide)
  · rw [if_neg h1] at h
    by_cases h2 : 48 ≤ x.toInt ∧ x.toInt ≤ 57
    · exact h2
    · rw [if_neg h2] at h
      by_cases h3 : x = 59
      · rw [if_pos h3] at h; exact absurd h (by decide)
      · rw [if_neg h3] at h
        by_cases h4 : x = 47
        · rw [if_pos h4] at h; exact absurd h (by decide)
        · rw [if_neg h4] at h; exact absurd h (by decide)
/-- a word token is a text constant's, if its number is -/
theorem tW_h {c : Nat → Int32} {n q i : Nat} (h2 : 2 ≤ i) (h9 : i < 10) (hk : tK c n q = 1) : hZ c (tS c n q) (tE c n q - tS c n q) = hW i ↔ tW c n q i := by
  obtain ⟨k1, k2, k3, k4, k5⟩ := tK_run (Or.inl rfl) hk
  have e := hZ_eq (c := c) (c' := bB i) (s := tS c n q) (s' := 0) (tE c n q - tS c n q) (zSlen.getD i 0) (fun j hj => xK_1.mp (k5 _ (by omega) (by omega))) (bB_b i h2 h9)
  unfold hW
  rw [e]
  unfold tW
  refine ⟨fun x => ⟨hk, x.1, fun j hj => ?_⟩, fun x => ⟨x.2.1, fun j hj => ?_⟩⟩
  · rw [x.2 j hj, Nat.zero_add]; rfl
  · rw [x.2.2 j hj, Nat.zero_add]; rfl
/-- a token is one word alone -/
theorem tW_ne {c : Nat → Int32} {n q i j : Nat} (hi : 2 ≤ i ∧ i < 10) (hj : 2 ≤ j ∧ j < 10) (hij : i ≠ j) (h : tW c n q i) : ¬ tW c n q j := fun h' => by
  have e1 := (tW_h hi.1 hi.2 h.1).mpr h
  have e2 := (tW_h hj.1 hj.2 h.1).mpr h'
  rw [e1] at e2
  obtain ⟨w2, w3, w4, w5, w6, w7, w8, w9⟩ := hW_v
  rcases (show i = 2 ∨ i = 3 ∨ i = 4 ∨ i = 5 ∨ i = 6 ∨ i = 7 ∨ i = 8 ∨ i = 9 by omega) with rfl | rfl | rfl | rfl | rfl | rfl | rfl | rfl <;> rcases (show j = 2 ∨ j = 3 ∨ j = 4 ∨ j = 5 ∨ j = 6 ∨ j = 7 ∨ j = 8 ∨ j = 9 by omega) with rfl | rfl | rfl | rfl | rfl | rfl | rfl | rfl <;> omega
theorem n64bm {x : Int} (h1 : -9000000000000000000 ≤ x) (h2 : x < 9000000000000000000) : x.bmod (2 ^ 64) = x := by
  rw [Int.bmod_def]
  split <;> omega
/-- one letter more -/
theorem hZ_step {w : Int64} {x : Int32} (h0 : 0 ≤ w.toInt) (h1 : w.toInt < 10000000000000000) (hx : 97 ≤ x.toInt ∧ x.toInt ≤ 122) : (27 * w + x.toInt64 - 96).toInt = 27 * w.toInt + (x.toInt - 96) := by
  have l27 : (27 : Int64).toInt = 27 := rfl
  have l96 : (96 : Int64).toInt = 96 := rfl
  have e1 : (27 * w).toInt = 27 * w.toInt := by rw [Int64.toInt_mul, l27]; exact n64bm (by omega) (by omega)
  have e2 : (27 * w + x.toInt64).toInt = 27 * w.toInt + x.toInt := by rw [Int64.toInt_add, e1, n64]; exact n64bm (by omega) (by omega)
  rw [Int64.toInt_sub, e2, l96, n64bm (by omega) (by omega)]
  omega
