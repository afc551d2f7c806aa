/-! from 98a.tokens -/
/-! THE TEXT'S TOKENS, as they are said of its characters -/
def xK (x : Int32) : Int32 := if 97 ≤ x.toInt ∧ x.toInt ≤ 122 then 1 else if 48 ≤ x.toInt ∧ x.toInt ≤ 57 then 2 else if x = 59 then 3 else if x = 47 then 4 else 5
def tSf (c : Nat → Int32) : Nat → Nat → Nat
  | 0, p => p
  | d + 1, p => if c p = 32 ∨ c p = 10 then tSf c d (p + 1) else p
def tS (c : Nat → Int32) (n q : Nat) : Nat := tSf c (n - q) q
def tRf (c : Nat → Int32) (k : Int32) : Nat → Nat → Nat
  | 0, p => p
  | d + 1, p => if xK (c p) = k then tRf c k d (p + 1) else p
def tR (c : Nat → Int32) (n s : Nat) : Nat := tRf c (xK (c s)) (n - s) s
def tE (c : Nat → Int32) (n q : Nat) : Nat := if n ≤ tS c n q then tS c n q + 1 else if xK (c (tS c n q)) = 1 ∨ xK (c (tS c n q)) = 2 then tR c n (tS c n q) else tS c n q + 1
def tK (c : Nat → Int32) (n q : Nat) : Int32 := if n ≤ tS c n q then 0 else if xK (c (tS c n q)) = 1 then (if tR c n (tS c n q) - tS c n q ≤ 12 then 1 else 5) else if xK (c (tS c n q)) = 2 then (if tR c n (tS c n q) - tS c n q ≤ 5 then 2 else 5) else xK (c (tS c n q))
theorem xK_ne0 (x : Int32) : xK x ≠ 0 := by
  unfold xK
  split
  · decide
  · split
    · decide
    · split
      · decide
      · split <;> decide
theorem tSf_b (c : Nat → Int32) : ∀ d p, p ≤ tSf c d p ∧ tSf c d p ≤ p + d ∧ (∀ j, p ≤ j → j < tSf c d p → (c j = 32 ∨ c j = 10)) ∧ (tSf c d p < p + d → ¬ (c (tSf c d p) = 32 ∨ c (tSf c d p) = 10))
  | 0, p => ⟨Nat.le_refl _, Nat.le_refl _, fun j h1 h2 => absurd h2 (by rw [tSf]; omega), fun h => absurd h (by rw [tSf]; omega)⟩
  | d + 1, p => by
    rw [tSf]
    by_cases h : c p = 32 ∨ c p = 10
    · rw [if_pos h]
      obtain ⟨h1, h2, h3, h4⟩ := tSf_b c d (p + 1)
      refine ⟨by omega, by omega, fun j j1 j2 => ?_, fun hh => h4 (by omega)⟩
      by_cases e : j = p
      · rw [e]; exact h
      · exact h3 j (by omega) j2
    · rw [if_neg h]
      exact ⟨Nat.le_refl _, by omega, fun j j1 j2 => absurd j2 (by omega), fun _ => h⟩
theorem tRf_b (c : Nat → Int32) (k : Int32) : ∀ d p, p ≤ tRf c k d p ∧ tRf c k d p ≤ p + d ∧ (∀ j, p ≤ j → j < tRf c k d p → xK (c j) = k) ∧ (tRf c k d p < p + d → ¬ xK (c (tRf c k d p)) = k)
  | 0, p => ⟨Nat.le_refl _, Nat.le_refl _, fun j h1 h2 => absurd h2 (by rw [tRf]; omega), fun h => absurd h (by rw [tRf]; omega)⟩
  | d + 1, p => by
    rw [tRf]
    by_cases h : xK (c p) = k
    · rw [if_pos h]
      obtain ⟨h1, h2, h3, h4⟩ := tRf_b c k d (p + 1)
      refine ⟨by omega, by omega, fun j j1 j2 => ?_, fun hh => h4 (by omega)⟩
      by_cases e : j = p
      · rw [e]; exact h
      · exact h3 j (by omega) j2
    · rw [if_neg h]
      exact ⟨Nat.le_refl _, by omega, fun j j1 j2 => absurd j2 (by omega), fun _ => h⟩
theorem tS_ge (c : Nat → Int32) (n q : Nat) : q ≤ tS c n q := (tSf_b c (n - q) q).1
theorem tS_le {c : Nat → Int32} {n q : Nat} (h : q ≤ n) : tS c n q ≤ n := by
  have := (tSf_b c (n - q) q).2.1
  unfold tS
  omega
theorem tS_le2 (c : Nat → Int32) (n q : Nat) : tS c n q ≤ n ∨ tS c n q = q := by
  have := (tSf_b c (n - q) q).2.1
  have := (tSf_b c (n - q) q).1
  unfold tS
  omega
theorem tR_1 {c : Nat → Int32} {n s : Nat} (h : s < n) : tR c n s = tRf c (xK (c s)) (n - (s + 1)) (s + 1) := by
  unfold tR
  rw [show n - s = (n - (s + 1)) + 1 by omega, tRf, if_pos rfl]
theorem tR_b {c : Nat → Int32} {n s : Nat} (h : s < n) : s < tR c n s ∧ tR c n s ≤ n ∧ (∀ j, s ≤ j → j < tR c n s → xK (c j) = xK (c s)) ∧ (tR c n s < n → ¬ xK (c (tR c n s)) = xK (c s)) := by
  have h1 := tRf_b c (xK (c s)) (n - s) s
  have h2 := tRf_b c (xK (c s)) (n - (s + 1)) (s + 1)
  rw [← tR_1 h] at h2
  have e : tRf c (xK (c s)) (n - s) s = tR c n s := rfl
  rw [e] at h1
  exact ⟨by omega, by omega, h1.2.2.1, fun hh => h1.2.2.2 (by omega)⟩
/-- the end of a token lies behind its beginning, and in the text, if the token does -/
theorem tE_gt (c : Nat → Int32) (n q : Nat) : tS c n q < tE c n q := by
  unfold tE
  split
  · omega
  · split
    · exact (tR_b (by omega)).1
    · omega
theorem tE_le {c : Nat → Int32} {n q : Nat} (h : tK c n q ≠ 0) : tE c n q ≤ n ∧ tS c n q < n := by
  have hs : ¬ n ≤ tS c n q := fun e => h (by unfold tK; rw [if_pos e])
  unfold tE
  rw [if_neg hs]
  split
  · exact ⟨(tR_b (by omega)).2.1, by omega⟩
  · omega
theorem tK_0 {c : Nat → Int32} {n q : Nat} : tK c n q = 0 ↔ n ≤ tS c n q := by
  unfold tK
  by_cases h : n ≤ tS c n q
  · rw [if_pos h]; exact ⟨fun _ => h, fun _ => rfl⟩
  · rw [if_neg h]
    refine ⟨fun e => ?_, fun e => absurd e h⟩
    split at e
    · split at e <;> exact absurd e (by decide)
    · split at e
      · split at e <;> exact absurd e (by decide)
      · exact absurd e (xK_ne0 _)
theorem tE_le1 (c : Nat → Int32) {n q : Nat} (h : q ≤ n) : tE c n q ≤ n + 1 := by
  by_cases e : tK c n q = 0
  · have := tK_0.mp e
    have := tS_le (c := c) h
    unfold tE
    rw [if_pos (by omega)]
    omega
  · have := (tE_le e).1
    omega
/-- a word or a number is a run of its kind -/
theorem tK_run {c : Nat → Int32} {n q : Nat} {k : Int32} (hk : k = 1 ∨ k = 2) (h : tK c n q = k) : xK (c (tS c n q)) = k ∧ tE c n q = tR c n (tS c n q) ∧ tS c n q < n ∧ tE c n q - tS c n q ≤ (if k = 1 then 12 else 5) ∧ ∀ j, tS c n q ≤ j → j < tE c n q → xK (c j) = k := by
  have h0 : tK c n q ≠ 0 := by rw [h]; rcases hk with rfl | rfl <;> decide
  have hs := (tE_le h0).2
  have hn : ¬ n ≤ tS c n q := by omega
  have hx : xK (c (tS c n q)) = k ∧ tR c n (tS c n q) - tS c n q ≤ (if k = 1 then 12 else 5) := by
    unfold tK at h
    rw [if_neg hn] at h
    by_cases h1 : xK (c (tS c n q)) = 1
    · rw [if_pos h1] at h
      by_cases h2 : tR c n (tS c n q) - tS c n q ≤ 12
      · rw [if_pos h2] at h
        rw [← h]
        exact ⟨h1, h2⟩
      · rw [if_neg h2] at h
        rcases hk with rfl | rfl <;> exact absurd h (by decide)
    · rw [if_neg h1] at h
      by_cases h3 : xK (c (tS c n q)) = 2
      · rw [if_pos h3] at h
        by_cases h2 : tR c n (tS c n q) - tS c n q ≤ 5
        · rw [if_pos h2] at h
          rw [← h]
          exact ⟨h3, h2⟩
        · rw [if_neg h2] at h
          rcases hk with rfl | rfl <;> exact absurd h (by decide)
      · rw [if_neg h3] at h
        rw [h] at h1 h3
        rcases hk with rfl | rfl
        · exact absurd rfl h1
        · exact absurd rfl h3
  have hE : tE c n q = tR c n (tS c n q) := by
    unfold tE
    rw [if_neg hn, if_pos (by rw [hx.1]; exact hk)]
  refine ⟨hx.1, hE, hs, by rw [hE]; exact hx.2, fun j j1 j2 => ?_⟩
  rw [(tR_b hs).2.2.1 j j1 (by rw [← hE]; exact j2)]
  exact hx.1
/-- the value of digits, the number of a word's letters -/
def nV (c : Nat → Int32) (s : Nat) : Nat → Int32
  | 0 => 0
  | i + 1 => 10 * nV c s i + c (s + i) - 48
def tV (c : Nat → Int32) (n q : Nat) : Int32 := nV c (tS c n q) (tE c n q - tS c n q)
/-- a token is the word of a text constant -/
def tW (c : Nat → Int32) (n q i : Nat) : Prop := tK c n q = 1 ∧ tE c n q - tS c n q = zSlen.getD i 0 ∧ ∀ j, j < zSlen.getD i 0 → c (tS c n q + j) = (zSbyt.getD i []).getD j 0

/-! from 98b.ctokens -/
/-! THE CLASS'S STORE as it reads: the parser, the tokens, a plan; tokens are taken -/
def zpc (σ : zS) (p : Nat) (f3 f4 : Nat → Int32) (F : Nat → Nat → Int32) : zS := (fun a => if a = 3 then f3 else if a = 4 then f4 else if p ≤ a ∧ a < p + 127 then F (a - p) else σ.1 a, σ.2)
section ZPC
variable {σ : zS} {p : Nat} {f3 f4 : Nat → Int32} {F : Nat → Nat → Int32}
theorem gr_zpc : gr (zpc σ p f3 f4 F) = gr σ := rfl
theorem gl_zpc : gl (zpc σ p f3 f4 F) = gl σ := rfl
theorem gd_zpc : gd (zpc σ p f3 f4 F) = gd σ := rfl
theorem gi_zpc_3 : gi (zpc σ p f3 f4 F) 3 = f3 := rfl
theorem gi_zpc_4 : gi (zpc σ p f3 f4 F) 4 = f4 := rfl
theorem gi_zpc (a : Nat) : gi (zpc σ p f3 f4 F) a = if a = 3 then f3 else if a = 4 then f4 else if p ≤ a ∧ a < p + 127 then F (a - p) else gi σ a := by
  show (if a = 3 then f3 else if a = 4 then f4 else if p ≤ a ∧ a < p + 127 then F (a - p) else σ.1 a) = _
  split
  · rfl
  · split
    · rfl
    · split <;> rfl
theorem gi_zpc_k (hp : 5 ≤ p) {a k : Nat} (ha : a = p + k) (hk : k < 127) : gi (zpc σ p f3 f4 F) a = F k := by
  subst ha
  rw [gi_zpc, if_neg (by omega), if_neg (by omega), if_pos (by omega), Nat.add_sub_cancel_left]
theorem gi_zpc_o {a : Nat} (h3 : a ≠ 3) (h4 : a ≠ 4) (h : ¬ (p ≤ a ∧ a < p + 127)) : gi (zpc σ p f3 f4 F) a = gi σ a := by
  rw [gi_zpc, if_neg h3, if_neg h4, if_neg h]
theorem si_zpc_3 (j : Nat) (v : Int32) : si (zpc σ p f3 f4 F) 3 j v = zpc σ p (zu f3 j v) f4 F := by
  refine zS_ext2 (fun a i => ?_) rfl (fun a i => rfl) rfl
  rw [gi_si, gi_zpc, gi_zpc]
  by_cases h : a = 3
  · subst h; rw [if_pos rfl, if_pos rfl, if_pos rfl]; rfl
  · rw [if_neg h, if_neg h, if_neg h]
theorem si_zpc_4 (j : Nat) (v : Int32) : si (zpc σ p f3 f4 F) 4 j v = zpc σ p f3 (zu f4 j v) F := by
  refine zS_ext2 (fun a i => ?_) rfl (fun a i => rfl) rfl
  rw [gi_si, gi_zpc, gi_zpc]
  by_cases h : a = 4
  · subst h; rfl
  · rw [if_neg h]
    by_cases h3 : a = 3
    · rw [if_pos h3, if_pos h3]
    · rw [if_neg h3, if_neg h3, if_neg h, if_neg h]
theorem si_zpc_k (hp : 5 ≤ p) {a k : Nat} (ha : a = p + k) (hk : k < 127) (j : Nat) (v : Int32) : si (zpc σ p f3 f4 F) a j v = zpc σ p f3 f4 (zf F k j v) := by
  subst ha
  refine zS_ext2 (fun b i => ?_) rfl (fun b i => rfl) rfl
  rw [gi_si, gi_zpc, gi_zpc]
  by_cases h : b = p + k
  · subst h
    have e1 : ¬ p + k = 3 := by omega
    have e2 : ¬ p + k = 4 := by omega
    have e3 : p + k < p + 127 := by omega
    simp only [if_true, e1, e2, if_false, Nat.le_add_right, e3, and_self, Nat.add_sub_cancel_left, zf_ap]
  · rw [if_neg h]
    by_cases h3 : b = 3
    · rw [if_pos h3, if_pos h3]
    · rw [if_neg h3, if_neg h3]
      by_cases h4 : b = 4
      · rw [if_pos h4, if_pos h4]
      · rw [if_neg h4, if_neg h4]
        by_cases h5 : p ≤ b ∧ b < p + 127
        · rw [if_pos h5, if_pos h5, zf_ne (by omega)]
        · rw [if_neg h5, if_neg h5]
theorem zpc_self : zpc σ p (gi σ 3) (gi σ 4) (fun k => gi σ (p + k)) = σ := by
  refine zS_ext2 (fun a i => ?_) rfl (fun a i => rfl) rfl
  rw [gi_zpc]
  by_cases h3 : a = 3
  · subst h3; rw [if_pos rfl]
  · rw [if_neg h3]
    by_cases h4 : a = 4
    · subst h4; rw [if_pos rfl]
    · rw [if_neg h4]
      by_cases h5 : p ≤ a ∧ a < p + 127
      · rw [if_pos h5]
        show gi σ (p + (a - p)) i = _
        rw [show p + (a - p) = a by omega]
      · rw [if_neg h5]
end ZPC
/-- the class's text and where it lies -/
def zTg (g : Nat → Nat → Option Nat) (ln : Nat → Nat) : Prop := g 1 0 = some 2 ∧ g 3 0 = some 4 ∧ g 4 2 = some 1 ∧ ln 2 = 600
def zTc (σ : zS) (c : Nat → Int32) (n : Nat) : Prop := n ≤ 600 ∧ gi σ 1 1 = nI n ∧ gi σ 2 = c ∧ ∀ k, k < n → 0 ≤ (c k).toInt ∧ (c k).toInt < 256
theorem c_getT {ln : Nat → Nat} {σ : zS} {c : Nat → Int32} {n k : Nat} (g : gr σ 1 0 = some 2) (l : ln 2 = 600) (hn : n ≤ 600) (h1 : gi σ 1 1 = nI n) (h2 : gi σ 2 = c) (hk : k < 100000) {v : Int32} (hv : v = nI k) {Q : Int32 → zS → Prop} (hq : Q (if k < n then c k else -1) σ) : wX9_get ln σ 1 v Q := by
  subst hv
  have e0 : ¬ nI k < 0 := nI_pos (by omega)
  refine ⟨fun h => absurd h e0, fun _ => ?_⟩
  rw [h1]
  by_cases h : k < n
  · rw [if_pos h] at hq
    have e1 : ¬ nI n ≤ nI k := nI_ge h (by omega)
    have e2 : ¬ nI 600 ≤ nI k := nI_ge (by omega) (by omega)
    refine ⟨fun x => absurd x e1, fun _ => ⟨2, g, ?_⟩⟩
    rw [l]
    refine ⟨fun x => absurd x e2, fun _ => ⟨2, g, ?_⟩⟩
    rw [l]
    refine ⟨vp_in_nI (by omega) (by omega), ?_⟩
    rw [nI_clamp (by omega), h2]
    exact hq
  · rw [if_neg h] at hq
    have e1 : nI n ≤ nI k := nI_le (by omega) (by omega)
    exact ⟨fun _ => hq, fun x => absurd e1 x⟩
theorem c_kindOf {ln : Nat → Nat} {σ : zS} {v : Int32} {Q : Int32 → zS → Prop} (hq : Q (if v = -1 then 0 else xK v) σ) : wX10_kindOf ln σ v Q := by
  have l97 : (97 : Int32).toInt = 97 := rfl
  have l122 : (122 : Int32).toInt = 122 := rfl
  have l48 : (48 : Int32).toInt = 48 := rfl
  have l57 : (57 : Int32).toInt = 57 := rfl
  refine ⟨fun e => by rw [if_pos e] at hq; exact hq, fun e => ?_⟩
  rw [if_neg e] at hq
  have h35 : ¬ (97 ≤ v.toInt ∧ v.toInt ≤ 122) → ¬ (48 ≤ v.toInt ∧ v.toInt ≤ 57) → wX10_kindOf_35 ln Q v σ := fun a b => by
    unfold xK at hq
    rw [if_neg a, if_neg b] at hq
    exact ⟨fun e => by rw [if_pos e] at hq; exact hq, fun e => ⟨fun e2 => by rw [if_neg e, if_pos e2] at hq; exact hq, fun e2 => by rw [if_neg e, if_neg e2] at hq; exact hq⟩⟩
  have h21 : ¬ (97 ≤ v.toInt ∧ v.toInt ≤ 122) → wX10_kindOf_21 ln Q v σ := fun a => by
    refine ⟨fun h => h35 a ?_, fun h => ⟨fun h2 => h35 a ?_, fun h2 => ?_⟩⟩
    · rw [nlt, l48] at h; omega
    · rw [nlt, l57] at h2; omega
    · rw [nlt, l48] at h
      rw [nlt, l57] at h2
      unfold xK at hq
      rw [if_neg a, if_pos (by omega)] at hq
      exact hq
  refine ⟨fun h => h21 ?_, fun h => ⟨fun h2 => h21 ?_, fun h2 => ?_⟩⟩
  · rw [nlt, l97] at h; omega
  · rw [nlt, l122] at h2; omega
  · rw [nlt, l97] at h
    rw [nlt, l122] at h2
    unfold xK at hq
    rw [if_pos (by omega)] at hq
    exact hq
theorem c_isBlank {ln : Nat → Nat} {σ : zS} {v : Int32} {Q : Int32 → zS → Prop} (h1 : v = 32 ∨ v = 10 → Q 1 σ) (h0 : ¬ (v = 32 ∨ v = 10) → Q 0 σ) : wX10_isBlank ln σ v Q := ⟨fun e => h1 (Or.inl e), fun e => ⟨fun e2 => h1 (Or.inr e2), fun e2 => h0 (fun h => h.elim e e2)⟩⟩
section ZTAKE
variable {ln : Nat → Nat} {σ : zS} {p : Nat} {f3 : Nat → Int32} {F : Nat → Nat → Int32} {c : Nat → Int32} {n : Nat}
theorem zTc_1 (hp : 5 ≤ p) (T : zTc σ c n) (f4 : Nat → Int32) : gi (zpc σ p f3 f4 F) 1 1 = nI n := by
  rw [gi_zpc_o (by decide) (by decide) (by omega)]; exact T.2.1
theorem zTc_2 (hp : 5 ≤ p) (T : zTc σ c n) (f4 : Nat → Int32) : gi (zpc σ p f3 f4 F) 2 = c := by
  rw [gi_zpc_o (by decide) (by decide) (by omega)]; exact T.2.2.1
theorem zTc_m (T : zTc σ c n) {k : Nat} (hk : k < n) : ¬ c k = -1 := fun e => by
  have := (T.2.2.2 k hk).1
  rw [e] at this
  exact absurd this (by decide)
theorem c_getZ (hp : 5 ≤ p) (G : zTg (gr σ) ln) (T : zTc σ c n) {f4 : Nat → Int32} {k : Nat} (hk : k < 100000) {v : Int32} (hv : v = nI k) {Q : Int32 → zS → Prop} (hq : Q (if k < n then c k else -1) (zpc σ p f3 f4 F)) : wX9_get ln (zpc σ p f3 f4 F) 1 v Q := c_getT (σ := zpc σ p f3 f4 F) G.1 G.2.2.2 T.1 (zTc_1 hp T f4) (zTc_2 hp T f4) hk hv hq
theorem c_take8 (hp : 5 ≤ p) (G : zTg (gr σ) ln) (T : zTc σ c n) {Q : zS → Prop} : ∀ (d q : Nat) (f4 : Nat → Int32), n ≤ q + d → (d = 0 ∨ q + d = n) → q ≤ 700 → f4 1 = nI q → (∀ f' : Nat → Int32, f' 1 = nI (tSf c d q) → wX10_take_52 ln Q 4 (zpc σ p f3 f' F)) → wX10_take_8 ln Q (d + 1) 4 (zpc σ p f3 f4 F)
  | d, q, f4, hd, hd2, hq7, h1, hq => by
    have hn := T.1
    rw [wX10_take_8]
    refine ⟨1, G.2.2.1, ?_⟩
    unfold wX9_size
    rw [zTc_1 hp T, gi_zpc_4, h1]
    refine ⟨fun hx => ?_, fun hx => ⟨1, G.2.2.1, fun x5 e5 => ?_⟩⟩
    · have : n ≤ q := (nI_leI (by omega) (by omega)).mp hx
      obtain rfl : d = 0 := by omega
      exact hq f4 h1
    · have hlt : q < n := by
        rcases Nat.lt_or_ge q n with h | h
        · exact h
        · exact absurd (nI_le h (by omega)) hx
      obtain ⟨d, rfl⟩ : ∃ d', d = d' + 1 := ⟨d - 1, by omega⟩
      rw [gi_zpc_4, h1] at e5
      refine c_getZ hp G T (k := q) (by omega) e5 ?_
      rw [if_pos hlt]
      rw [tSf] at hq
      refine c_isBlank (fun hb => ⟨fun hx => absurd hx (by decide), fun _ x10 e10 σ11 e11 => ?_⟩) (fun hb => ⟨fun _ => ?_, fun hx => absurd rfl hx⟩)
      · rw [if_pos hb] at hq
        rw [gi_zpc_4, h1, nI_1] at e10
        subst e10
        rw [si_zpc_4] at e11
        subst e11
        exact c_take8 hp G T d (q + 1) _ (by omega) (by omega) (by omega) (by rw [zu_self]) hq
      · rw [if_neg hb] at hq
        exact hq f4 h1
theorem c_take144 {f4 : Nat → Int32} {s e : Nat} (hse : s ≤ e) (he : e ≤ 700) (h1 : f4 1 = nI s) (h3 : f4 3 = nI e) {Q : zS → Prop} (hA : f4 0 = 1 → e - s ≤ 12 → Q (zpc σ p f3 f4 F)) (hB : f4 0 = 1 → ¬ e - s ≤ 12 → Q (zpc σ p f3 (zu f4 0 5) F)) (hC : ¬ f4 0 = 1 → e - s ≤ 5 → Q (zpc σ p f3 f4 F)) (hD : ¬ f4 0 = 1 → ¬ e - s ≤ 5 → Q (zpc σ p f3 (zu f4 0 5) F)) : wX10_take_144 ln Q 4 (zpc σ p f3 f4 F) := by
  have e0 : nI e - nI s = nI (e - s) := pk_sub hse
  unfold wX10_take_144 wX10_length
  rw [gi_zpc_4, h1, h3, e0]
  refine ⟨fun hk => ⟨fun hx => hA hk ((nI_leI (a := e - s) (b := 12) (by omega) (by omega)).mp hx), fun hx σ1 e1 => ?_⟩, fun hk => ⟨fun hx => hC hk ((nI_leI (a := e - s) (b := 5) (by omega) (by omega)).mp hx), fun hx σ1 e1 => ?_⟩⟩
  · rw [si_zpc_4] at e1
    subst e1
    exact hB hk (fun h => hx ((nI_leI (a := e - s) (b := 12) (by omega) (by omega)).mpr h))
  · rw [si_zpc_4] at e1
    subst e1
    exact hD hk (fun h => hx ((nI_leI (a := e - s) (b := 5) (by omega) (by omega)).mpr h))
theorem c_take96 (hp : 5 ≤ p) (G : zTg (gr σ) ln) (T : zTc σ c n) {k : Int32} {s : Nat} {Q : zS → Prop} : ∀ (d e : Nat) (f4 : Nat → Int32), e + d = n → f4 0 = k → f4 1 = nI s → f4 3 = nI e → (∀ f' : Nat → Int32, f' 0 = k → f' 1 = nI s → f' 3 = nI (tRf c k d e) → wX10_take_144 ln Q 4 (zpc σ p f3 f' F)) → wX10_take_96 ln Q (d + 1) 4 (zpc σ p f3 f4 F)
  | d, e, f4, hd, h0, h1, h3, hq => by
    have hn := T.1
    rw [wX10_take_96]
    refine ⟨1, G.2.2.1, ?_⟩
    unfold wX9_size
    rw [zTc_1 hp T, gi_zpc_4, h3]
    refine ⟨fun hx => ?_, fun hx => ⟨1, G.2.2.1, fun x5 e5 => ?_⟩⟩
    · have : n ≤ e := (nI_leI (by omega) (by omega)).mp hx
      obtain rfl : d = 0 := by omega
      exact hq f4 h0 h1 h3
    · have hlt : e < n := by
        rcases Nat.lt_or_ge e n with h | h
        · exact h
        · exact absurd (nI_le h (by omega)) hx
      obtain ⟨d, rfl⟩ : ∃ d', d = d' + 1 := ⟨d - 1, by omega⟩
      rw [gi_zpc_4, h3] at e5
      refine c_getZ hp G T (k := e) (by omega) e5 ?_
      rw [if_pos hlt]
      refine c_kindOf ?_
      rw [if_neg (zTc_m T hlt), gi_zpc_4, h0]
      rw [tRf] at hq
      refine ⟨fun hk x10 e10 σ11 e11 => ?_, fun hk => ?_⟩
      · rw [if_pos hk] at hq
        rw [h3, nI_1] at e10
        subst e10
        rw [si_zpc_4] at e11
        subst e11
        exact c_take96 hp G T d (e + 1) _ (by omega) (by rw [zu_ne (by decide)]; exact h0) (by rw [zu_ne (by decide)]; exact h1) (by rw [zu_self]) hq
      · rw [if_neg hk] at hq
        exact hq f4 h0 h1 h3
theorem c_take (hp : 5 ≤ p) (G : zTg (gr σ) ln) (T : zTc σ c n) {q : Nat} (hq7 : q ≤ 700) {f4 : Nat → Int32} (h3 : f4 3 = nI q) {Q : zS → Prop} (hq : ∀ f' : Nat → Int32, f' 0 = tK c n q → f' 1 = nI (tS c n q) → f' 3 = nI (tE c n q) → Q (zpc σ p f3 f' F)) : wX10_take ln (zpc σ p f3 f4 F) 4 Q := by
  have hn := T.1
  intro x1 e1 σ2 e2
  rw [gi_zpc_4, h3] at e1
  subst e1
  rw [si_zpc_4] at e2
  subst e2
  refine ⟨n - q + 1, c_take8 hp G T (n - q) q _ (by omega) (by omega) hq7 (by rw [zu_self]) (fun f5 h5 => ?_)⟩
  have eS : tSf c (n - q) q = tS c n q := rfl
  rw [eS] at h5
  have hS7 : tS c n q ≤ 700 := by
    have := tS_le2 c n q
    omega
  refine ⟨1, G.2.2.1, fun x2 e2 => ?_⟩
  rw [gi_zpc_4, h5] at e2
  refine c_getZ hp G T (k := tS c n q) (by omega) e2 (c_kindOf ?_)
  intro σ7 e7 x8 e8 σ9 e9
  rw [si_zpc_4] at e7
  subst e7
  rw [gi_zpc_4, zu_ne (by decide), h5, nI_1] at e8
  subst e8
  rw [si_zpc_4] at e9
  subst e9
  rw [gi_zpc_4, zu_ne (by decide), zu_self]
  by_cases hs : tS c n q < n
  · have hns : ¬ n ≤ tS c n q := by omega
    rw [if_pos hs, if_neg (zTc_m T hs)]
    obtain ⟨r1, r2, r3, r4⟩ := tR_b (c := c) hs
    have eR := tR_1 (c := c) hs
    refine ⟨fun hk => ⟨n - (tS c n q + 1) + 1, c_take96 (k := 1) (s := tS c n q) hp G T (n - (tS c n q + 1)) (tS c n q + 1) _ (by omega) ?_ ?_ ?_ (fun f' g0 g1 g3 => ?_)⟩, fun hk1 => ⟨fun hk => ⟨n - (tS c n q + 1) + 1, c_take96 (k := 2) (s := tS c n q) hp G T (n - (tS c n q + 1)) (tS c n q + 1) _ (by omega) ?_ ?_ ?_ (fun f' g0 g1 g3 => ?_)⟩, fun hk2 => ?_⟩⟩
    · rw [zu_ne (by decide), zu_self]; exact hk
    · rw [zu_ne (by decide), zu_ne (by decide)]; exact h5
    · rw [zu_self]
    · rw [hk] at eR
      rw [← eR] at g3
      have eE : tE c n q = tR c n (tS c n q) := by unfold tE; rw [if_neg hns, if_pos (Or.inl hk)]
      refine c_take144 (s := tS c n q) (e := tR c n (tS c n q)) (by omega) (by omega) g1 g3 (fun _ hl => hq f' ?_ g1 (by rw [eE]; exact g3)) (fun _ hl => hq _ ?_ (by rw [zu_ne (by decide)]; exact g1) (by rw [zu_ne (by decide), eE]; exact g3)) (fun hx => absurd g0 hx) (fun hx => absurd g0 hx)
      · unfold tK; rw [if_neg hns, if_pos hk, if_pos hl]; exact g0
      · unfold tK; rw [if_neg hns, if_pos hk, if_neg hl, zu_self]
    · rw [zu_ne (by decide), zu_self]; exact hk
    · rw [zu_ne (by decide), zu_ne (by decide)]; exact h5
    · rw [zu_self]
    · rw [hk] at eR
      rw [← eR] at g3
      have g1' : ¬ f' 0 = 1 := by rw [g0]; decide
      have eE : tE c n q = tR c n (tS c n q) := by unfold tE; rw [if_neg hns, if_pos (Or.inr hk)]
      refine c_take144 (s := tS c n q) (e := tR c n (tS c n q)) (by omega) (by omega) g1 g3 (fun hx => absurd hx g1') (fun hx => absurd hx g1') (fun _ hl => hq f' ?_ g1 (by rw [eE]; exact g3)) (fun _ hl => hq _ ?_ (by rw [zu_ne (by decide)]; exact g1) (by rw [zu_ne (by decide), eE]; exact g3))
      · unfold tK; rw [if_neg hns, if_neg hk1, if_pos hk, if_pos hl]; exact g0
      · unfold tK; rw [if_neg hns, if_neg hk1, if_pos hk, if_neg hl, zu_self]
    · have eE : tE c n q = tS c n q + 1 := by unfold tE; rw [if_neg hns, if_neg (by intro h; exact h.elim hk1 hk2)]
      refine hq _ ?_ ?_ ?_
      · unfold tK; rw [if_neg hns, if_neg hk1, if_neg hk2, zu_ne (by decide), zu_self]
      · rw [zu_ne (by decide), zu_ne (by decide)]; exact h5
      · rw [zu_self, eE]
  · have hns : n ≤ tS c n q := by omega
    rw [if_neg hs, if_pos rfl]
    refine ⟨fun hx => absurd hx (by decide), fun _ => ⟨fun hx => absurd hx (by decide), fun _ => hq _ ?_ ?_ ?_⟩⟩
    · rw [zu_ne (by decide), zu_self]; unfold tK; rw [if_pos hns]
    · rw [zu_ne (by decide), zu_ne (by decide)]; exact h5
    · rw [zu_self]; unfold tE; rw [if_pos hns]
end ZTAKE

/-! from 98c.cwords -/
/-! THE CLASS'S TOKENS: numbers, words -/
def tok (f4 : Nat → Int32) (c : Nat → Int32) (n q : Nat) : Prop := f4 0 = tK c n q ∧ f4 1 = nI (tS c n q) ∧ f4 3 = nI (tE c n q)
/-- a token is a number in a range -/
def pN (c : Nat → Int32) (n q : Nat) (lo hi : Int32) : Prop := tK c n q = 2 ∧ lo.toInt ≤ (tV c n q).toInt ∧ (tV c n q).toInt ≤ hi.toInt
section ZWORDS
variable {ln : Nat → Nat} {σ : zS} {p : Nat} {f3 f4 : Nat → Int32} {F : Nat → Nat → Int32} {c : Nat → Int32} {n : Nat}
theorem c_number17 (hp : 5 ≤ p) (G : zTg (gr σ) ln) (T : zTc σ c n) {s e : Nat} (hse : s ≤ e) (hen : e ≤ n) (h3 : f4 3 = nI e) {Q : Int32 → zS → Prop} (hq : Q (nV c s (e - s)) (zpc σ p f3 f4 F)) : ∀ (d i : Nat), s + i + d = e → wX10_number_17 ln Q (d + 1) 4 (nV c s i) (nI (s + i)) (zpc σ p f3 f4 F)
  | 0, i, hd => by
    have hn := T.1
    rw [wX10_number_17, gi_zpc_4, h3]
    refine ⟨fun _ => ?_, fun hx => absurd (nI_le (by omega) (by omega)) hx⟩
    rw [show e - s = i by omega] at hq
    exact hq
  | d + 1, i, hd => by
    have hn := T.1
    rw [wX10_number_17, gi_zpc_4, h3]
    have hx : ¬ nI e ≤ nI (s + i) := nI_ge (by omega) (by omega)
    refine ⟨fun h => absurd h hx, fun _ => ⟨1, G.2.2.1, ?_⟩⟩
    refine c_getZ hp G T (k := s + i) (by omega) rfl ?_
    rw [if_pos (by omega)]
    intro x4 e4 x5 e5
    rw [nI_1] at e5
    subst e4 e5
    exact c_number17 hp G T hse hen h3 hq d (i + 1) (by omega)
theorem c_number (hp : 5 ≤ p) (G : zTg (gr σ) ln) (T : zTc σ c n) {q : Nat} (t : tok f4 c n q) {Q : Int32 → zS → Prop} (hq : Q (if tK c n q = 2 then tV c n q else -1) (zpc σ p f3 f4 F)) : wX10_number ln (zpc σ p f3 f4 F) 4 Q := by
  obtain ⟨t0, t1, t3⟩ := t
  unfold wX10_number
  rw [gi_zpc_4, t0]
  refine ⟨fun h x1 e1 => ?_, fun h => by rw [if_neg h] at hq; exact hq⟩
  rw [if_pos h] at hq
  rw [t1] at e1
  subst e1
  have hl := tE_gt c n q
  have hE := tE_le (c := c) (n := n) (q := q) (by rw [h]; decide)
  refine ⟨(tE c n q - tS c n q) + 1, ?_⟩
  exact c_number17 hp G T (by omega) hE.1 t3 hq (tE c n q - tS c n q) 0 (by omega)
theorem c_takeNumber (hp : 5 ≤ p) (G : zTg (gr σ) ln) (T : zTc σ c n) {q : Nat} (hq7 : q ≤ 700) (h3 : f4 3 = nI q) {lo hi : Int32} (hlo : 0 ≤ lo.toInt) {Q : Int32 → zS → Prop} (h0 : ¬ pN c n q lo hi → ∀ f3' f4' : Nat → Int32, (∀ j, j ≠ 2 → f3' j = f3 j) → f4' 1 = nI (tS c n q) → Q 0 (zpc σ p f3' f4' F)) (h1 : pN c n q lo hi → ∀ f3' f4' : Nat → Int32, (∀ j, j ≠ 2 → f3' j = f3 j) → f3' 2 = tV c n q → tok f4' c n q → Q 1 (zpc σ p f3' f4' F)) : wX5_takeNumber ln (zpc σ p f3 f4 F) 3 lo hi Q := by
  refine ⟨4, G.2.1, c_take hp G T hq7 h3 (fun f' a0 a1 a3 => ⟨4, G.2.1, c_number hp G T (f4 := f') (q := q) ⟨a0, a1, a3⟩ ?_⟩)⟩
  intro σ6 e6
  rw [si_zpc_3] at e6
  subst e6
  rw [gi_zpc_3, zu_self]
  have m1 : (-1 : Int32).toInt = -1 := rfl
  by_cases hk : tK c n q = 2
  · rw [if_pos hk]
    refine ⟨fun hx => ?_, fun hx => ⟨fun hy => ?_, fun hy => ?_⟩⟩
    · rw [nlt] at hx
      exact h0 (fun h => by have := h.2.1; omega) _ f' (fun j hj => zu_ne hj) a1
    · rw [nlt] at hy
      exact h0 (fun h => by have := h.2.2; omega) _ f' (fun j hj => zu_ne hj) a1
    · rw [nlt] at hx hy
      exact h1 ⟨hk, by omega, by omega⟩ _ f' (fun j hj => zu_ne hj) (zu_self _ _ _) ⟨a0, a1, a3⟩
  · rw [if_neg hk]
    refine ⟨fun hx => h0 (fun h => hk h.1) _ f' (fun j hj => zu_ne hj) a1, fun hx => ?_⟩
    rw [nlt, m1] at hx
    omega
theorem c_semi (hp : 5 ≤ p) (G : zTg (gr σ) ln) (T : zTc σ c n) {q : Nat} (hq7 : q ≤ 700) (h3 : f4 3 = nI q) {Q : Int32 → zS → Prop} (h0 : ¬ tK c n q = 3 → ∀ f4' : Nat → Int32, f4' 1 = nI (tS c n q) → Q 0 (zpc σ p f3 f4' F)) (h1 : tK c n q = 3 → ∀ f4' : Nat → Int32, tok f4' c n q → Q 1 (zpc σ p f3 f4' F)) : wX5_takeSemicolon ln (zpc σ p f3 f4 F) 3 Q := by
  refine ⟨4, G.2.1, c_take hp G T hq7 h3 (fun f' a0 a1 a3 => ⟨4, G.2.1, ?_⟩)⟩
  rw [gi_zpc_4, a0]
  exact ⟨fun h => h1 h f' ⟨a0, a1, a3⟩, fun h => h0 h f' a1⟩
/-- the words of the text -/
theorem zSw : ∀ i, 4 ≤ i → i < 12 → (zSbyt.getD i []).length = zSlen.getD i 0 ∧ 1 ≤ zSlen.getD i 0 ∧ zSlen.getD i 0 ≤ 7 := by
  intro i h1 h2
  rcases (show i = 4 ∨ i = 5 ∨ i = 6 ∨ i = 7 ∨ i = 8 ∨ i = 9 ∨ i = 10 ∨ i = 11 by omega) with rfl | rfl | rfl | rfl | rfl | rfl | rfl | rfl <;> decide +kernel
theorem c_word23 (hp : 5 ≤ p) (G : zTg (gr σ) ln) (T : zTc σ c n) {i s : Nat} (hi : i < 30) (hL : zSlen.getD i 0 ≤ 7) (hs : s + zSlen.getD i 0 ≤ n) (h1 : f4 1 = nI s) {Q : Int32 → zS → Prop} (q1 : (∀ j, j < zSlen.getD i 0 → c (s + j) = (zSbyt.getD i []).getD j 0) → Q 1 (zpc σ p f3 f4 F)) (q0 : ¬ (∀ j, j < zSlen.getD i 0 → c (s + j) = (zSbyt.getD i []).getD j 0) → Q 0 (zpc σ p f3 f4 F)) : ∀ (d k : Nat), k + d = zSlen.getD i 0 → (∀ j, j < k → c (s + j) = (zSbyt.getD i []).getD j 0) → wX10_isWord_23 ln Q (d + 1) 4 i (nI k) (zpc σ p f3 f4 F)
  | 0, k, hd, hm => by
    rw [wX10_isWord_23]
    unfold wJ0_length_8abf5
    refine c_coder ?_
    rw [shr0]
    exact ⟨fun _ => q1 (fun j hj => hm j (by omega)), fun hx => absurd (nI_le (by omega) (by omega)) hx⟩
  | d + 1, k, hd, hm => by
    have hn := T.1
    rw [wX10_isWord_23]
    unfold wJ0_length_8abf5
    refine c_coder ?_
    rw [shr0]
    have hx : ¬ nI (zSlen.getD i 0) ≤ nI k := nI_ge (by omega) (by omega)
    refine ⟨fun h => absurd h hx, fun _ => ⟨1, G.2.2.1, fun x2 e2 => ?_⟩⟩
    rw [gi_zpc_4, h1, nI_plus] at e2
    refine c_getZ hp G T (k := s + k) (by omega) e2 ?_
    rw [if_pos (by omega)]
    refine w_charAt hi (by omega) (by omega) rfl ⟨fun he x7 e7 => ?_, fun he => q0 (fun h => he (h k (by omega)))⟩
    rw [nI_1] at e7
    subst e7
    refine c_word23 hp G T hi hL hs h1 q1 q0 d (k + 1) (by omega) (fun j hj => ?_)
    by_cases e : j = k
    · subst e; exact he
    · exact hm j (by omega)
theorem c_isWord (hp : 5 ≤ p) (G : zTg (gr σ) ln) (T : zTc σ c n) {q i : Nat} (hi2 : 4 ≤ i) (hi : i < 12) (t : tok f4 c n q) {Q : Int32 → zS → Prop} (q1 : tW c n q i → Q 1 (zpc σ p f3 f4 F)) (q0 : ¬ tW c n q i → Q 0 (zpc σ p f3 f4 F)) : wX10_isWord ln (zpc σ p f3 f4 F) 4 i Q := by
  obtain ⟨t0, t1, t3⟩ := t
  obtain ⟨b1, b2, b3⟩ := zSw i hi2 hi
  have hl := tE_gt c n q
  have hn := T.1
  unfold wX10_isWord
  rw [gi_zpc_4, t0]
  refine ⟨fun h => ?_, fun h => q0 (fun w => h w.1)⟩
  have hE := tE_le (c := c) (n := n) (q := q) (by rw [h]; decide)
  unfold wX10_length wJ0_length_8abf5
  refine c_coder ?_
  rw [gi_zpc_4, t1, t3, shr0, show nI (tE c n q) - nI (tS c n q) = nI (tE c n q - tS c n q) from pk_sub (Nat.le_of_lt hl)]
  have iff := nI_eq (a := tE c n q - tS c n q) (b := zSlen.getD i 0) (by omega) (by omega)
  refine ⟨fun hx => ⟨zSlen.getD i 0 + 1, ?_⟩, fun hx => q0 (fun w => hx (iff.mpr w.2.1))⟩
  have hx := iff.mp hx
  exact c_word23 hp G T (s := tS c n q) (by omega) b3 (by omega) t1 (fun hm => q1 ⟨h, hx, hm⟩) (fun hm => q0 (fun w => hm w.2.2)) (zSlen.getD i 0) 0 (by omega) (fun j hj => absurd hj (Nat.not_lt_zero j))
end ZWORDS

/-! from 98d.grammar -/
/-! THE GRAMMAR, as it is said of rows: what a text makes of a row, or where it fails -/
abbrev zRow : Type := Nat → Int32
def pSemi (c : Nat → Int32) (n : Nat) (r : zRow) (o q : Nat) : Nat ⊕ (zRow × Nat × Nat) := if tK c n (tE c n q) = 3 then .inr (r, o, tE c n q) else .inl (tS c n (tE c n q))
def pNb (c : Nat → Int32) (n q : Nat) (lo hi : Int32) : Bool := decide (tK c n q = 2) && decide (lo.toInt ≤ (tV c n q).toInt) && decide ((tV c n q).toInt ≤ hi.toInt)
theorem pNb_t {c : Nat → Int32} {n q : Nat} {lo hi : Int32} : pNb c n q lo hi = true ↔ pN c n q lo hi := by
  unfold pNb pN
  rw [Bool.and_eq_true, Bool.and_eq_true, decide_eq_true_eq, decide_eq_true_eq, decide_eq_true_eq]
  exact ⟨fun h => ⟨h.1.1, h.1.2, h.2⟩, fun h => ⟨⟨h.1, h.2.1⟩, h.2.2⟩⟩
def pSet (c : Nat → Int32) (n : Nat) (k : Nat) (lo hi : Int32) (r : zRow) (o q : Nat) : Nat ⊕ (zRow × Nat × Nat) := if pNb c n (tE c n q) lo hi = true then pSemi c n (zu r k (tV c n (tE c n q))) o (tE c n q) else .inl (tS c n (tE c n q))
def pOff (c : Nat → Int32) (n : Nat) (r : zRow) (o q : Nat) : Nat ⊕ (zRow × Nat × Nat) := if 2 ≤ o then .inl (tS c n q) else if pNb c n (tE c n q) 0 (1000 * r 0 - 1) = true then (if pNb c n (tE c n (tE c n q)) 10 999 = true then pSemi c n (zu (zu r (21 + o) (tV c n (tE c n q))) (23 + o) (tV c n (tE c n (tE c n q)))) (o + 1) (tE c n (tE c n q)) else .inl (tS c n (tE c n (tE c n q)))) else .inl (tS c n (tE c n q))
def rLose (r : zRow) (v : Int32) : zRow := zu (zu r (39 + (r 20).toNatClampNeg) v) 20 (r 20 + 1)
def pLos (c : Nat → Int32) (n : Nat) (r : zRow) (o q : Nat) : Nat ⊕ (zRow × Nat × Nat) := if 20 ≤ (r 20).toInt then .inl (tS c n q) else if pNb c n (tE c n q) 1 9999 = true then pSemi c n (rLose r (tV c n (tE c n q))) o (tE c n q) else .inl (tS c n (tE c n q))
/-- a line is new; characters come to the last line -/
def pNew (r : zRow) (v : Nat) : zRow := zu (zu r (219 + 12 * v + (r (25 + v)).toNatClampNeg) 0) (25 + v) (r (25 + v) + 1)
def pApp (c : Nat → Int32) (s a : Nat) (r : zRow) : Nat → zRow
  | 0 => r
  | i + 1 => zu (zu (pApp c s a r i) (243 + 30 * a + (pApp c s a r i (219 + a)).toNatClampNeg) (c (s + i))) (219 + a) (pApp c s a r i (219 + a) + 1)
def pLn (r : zRow) (v : Nat) : Nat := 12 * v + ((r (25 + v)).toNatClampNeg - 1)
def pFitb (c : Nat → Int32) (s : Nat) (N : Int32) (m : Nat) : Bool := (List.range m).all fun j => decide ((zidx (c (s + j))).toInt < N.toInt - 2)
def pItb (c : Nat → Int32) (n : Nat) (r : zRow) (v q : Nat) : Bool := pFitb c (tS c n q) (r 0) (tE c n q - tS c n q) && decide ((r (219 + pLn r v)).toInt + ((tE c n q - tS c n q : Nat) : Int) ≤ 30)
def pIts (c : Nat → Int32) (n v : Nat) : Nat → Bool → zRow → Nat → Nat ⊕ (zRow × Nat)
  | 0, _, _, q => .inl (tS c n q)
  | d + 1, f, r, q => if tK c n q = 3 then (if f = true then .inl (tS c n q) else .inr (r, q)) else if tK c n q = 4 then (if 12 ≤ (r (25 + v)).toInt then .inl (tS c n q) else pIts c n v d false (pNew r v) (tE c n q)) else if tK c n q = 1 ∨ tK c n q = 2 then (if pItb c n r v q = true then pIts c n v d false (pApp c (tS c n q) (pLn r v) r (tE c n q - tS c n q)) (tE c n q) else .inl (tS c n q)) else .inl (tS c n q)
def pMsg2 (o : Nat) : Nat ⊕ (zRow × Nat) → Nat ⊕ (zRow × Nat × Nat)
  | .inl e => .inl e
  | .inr (r, q) => .inr (r, o, q)
def pMsg (c : Nat → Int32) (n : Nat) (r : zRow) (o q : Nat) : Nat ⊕ (zRow × Nat × Nat) := if pNb c n (tE c n q) 0 1 = true then (if 12 ≤ (r (25 + (tV c n (tE c n q)).toNatClampNeg)).toInt then .inl (tS c n (tE c n q)) else pMsg2 o (pIts c n (tV c n (tE c n q)).toNatClampNeg (n + 1) true (pNew r (tV c n (tE c n q)).toNatClampNeg) (tE c n (tE c n q)))) else .inl (tS c n (tE c n q))
noncomputable def pStmt (c : Nat → Int32) (n : Nat) (f : Bool) (r : zRow) (o q : Nat) : Nat ⊕ (zRow × Nat × Nat) := @ite _ (tW c n q 4) (Classical.propDecidable _) (pMsg c n r o q) (@ite _ (tW c n q 5) (Classical.propDecidable _) (if f = true then pSet c n 0 6 28 r o q else .inl (tS c n q)) (@ite _ (tW c n q 6) (Classical.propDecidable _) (pOff c n r o q) (@ite _ (tW c n q 7) (Classical.propDecidable _) (pLos c n r o q) (@ite _ (tW c n q 8) (Classical.propDecidable _) (pSet c n 1 1 50 r o q) (@ite _ (tW c n q 9) (Classical.propDecidable _) (pSet c n 2 0 500 r o q) (@ite _ (tW c n q 10) (Classical.propDecidable _) (pSet c n 3 1 5000 r o q) (@ite _ (tW c n q 11) (Classical.propDecidable _) (pSet c n 4 0 9 r o q) (.inl (tS c n q)))))))))
noncomputable def pTx (c : Nat → Int32) (n : Nat) : Nat → Bool → zRow → Nat → Nat → Nat ⊕ zRow
  | 0, _, r, _, _ => .inr r
  | d + 1, f, r, o, q => if tK c n q = 0 then .inr r else match pStmt c n f r o q with
    | .inl e => .inl e
    | .inr (r', o', q') => pTx c n d false r' o' (tE c n q')

/-! from 98e.keeps -/
/-! WHAT HOLDS of a row as it is read -/
def zckk (N x : Int32) : Prop := (zidx x).toInt < N.toInt - 2 ∧ (xK x = 1 ∨ xK x = 2)
def zPV (r : zRow) (o : Nat) : Prop :=
  ((6 ≤ (r 0).toInt ∧ (r 0).toInt ≤ 28) ∧ (1 ≤ (r 1).toInt ∧ (r 1).toInt ≤ 50) ∧ (0 ≤ (r 2).toInt ∧ (r 2).toInt ≤ 500) ∧ (1 ≤ (r 3).toInt ∧ (r 3).toInt ≤ 5000) ∧ (0 ≤ (r 4).toInt ∧ (r 4).toInt ≤ 9)) ∧ (0 ≤ (r 20).toInt ∧ (r 20).toInt ≤ 20) ∧ (∀ v, v < 2 → (0 ≤ (r (21 + v)).toInt ∧ (r (21 + v)).toInt < 1000 * (r 0).toInt) ∧ (10 ≤ (r (23 + v)).toInt ∧ (r (23 + v)).toInt ≤ 999) ∧ (0 ≤ (r (25 + v)).toInt ∧ (r (25 + v)).toInt ≤ 12)) ∧ (∀ a, a < 24 → (0 ≤ (r (219 + a)).toInt ∧ (r (219 + a)).toInt ≤ 30) ∧ ∀ j : Nat, (j : Int) < (r (219 + a)).toInt → zckk (r 0) (r (243 + 30 * a + j))) ∧ zr0 r ∧ o ≤ 2
theorem zr0_c {r r' : zRow} (h : zr0 r) (e : ∀ k, (k = 5 ∨ k = 6 ∨ k = 7 ∨ (9 ≤ k ∧ k ≤ 19) ∨ (27 ≤ k ∧ k ≤ 38)) → r' k = r k) : zr0 r' := ⟨by rw [e 6 (by omega)]; exact h.1, fun k hk => by rw [e k (by omega)]; exact h.2 k hk⟩
theorem pv_u {r : zRow} {o k : Nat} {v : Int32} (h : zPV r o) (hk : 1 ≤ k ∧ k ≤ 4) (hv : (k = 1 → 1 ≤ v.toInt ∧ v.toInt ≤ 50) ∧ (k = 2 → 0 ≤ v.toInt ∧ v.toInt ≤ 500) ∧ (k = 3 → 1 ≤ v.toInt ∧ v.toInt ≤ 5000) ∧ (k = 4 → 0 ≤ v.toInt ∧ v.toInt ≤ 9)) : zPV (zu r k v) o := by
  obtain ⟨⟨a0, a1, a2, a3, a4⟩, a20, av, al, az, ao⟩ := h
  have e : ∀ j, j ≠ k → zu r k v j = r j := fun j hj => zu_ne hj
  have b : ∀ (j : Nat) (lo hi : Int), (lo ≤ (r j).toInt ∧ (r j).toInt ≤ hi) → (k = j → lo ≤ v.toInt ∧ v.toInt ≤ hi) → lo ≤ (zu r k v j).toInt ∧ (zu r k v j).toInt ≤ hi := fun j lo hi h1 h2 => by
    by_cases x : j = k
    · subst x; rw [zu_self]; exact h2 rfl
    · rw [e j x]; exact h1
  refine ⟨⟨by rw [e 0 (by omega)]; exact a0, b 1 _ _ a1 hv.1, b 2 _ _ a2 hv.2.1, b 3 _ _ a3 hv.2.2.1, b 4 _ _ a4 hv.2.2.2⟩, by rw [e 20 (by omega)]; exact a20, fun w hw => ?_, fun a ha => ?_, zr0_c az (fun j hj => e j (by omega)), ao⟩
  · rw [e (21 + w) (by omega), e (23 + w) (by omega), e (25 + w) (by omega), e 0 (by omega)]; exact av w hw
  · rw [e (219 + a) (by omega), e 0 (by omega)]
    exact ⟨(al a ha).1, fun j hj => by rw [e _ (by omega)]; exact (al a ha).2 j hj⟩
/-- nothing of lines and phases has been read -/
def zFst (r : zRow) : Prop := (∀ a, a < 24 → r (219 + a) = 0) ∧ r 21 = 0 ∧ r 22 = 0
theorem pv_wheel {r : zRow} {o : Nat} {v : Int32} (h : zPV r o) (f : zFst r) (hv : 6 ≤ v.toInt ∧ v.toInt ≤ 28) : zPV (zu r 0 v) o := by
  obtain ⟨⟨a0, a1, a2, a3, a4⟩, a20, av, al, az, ao⟩ := h
  have e : ∀ j, j ≠ 0 → zu r 0 v j = r j := fun j hj => zu_ne hj
  have z0 : (0 : Int32).toInt = 0 := rfl
  refine ⟨⟨by rw [zu_self]; exact hv, by rw [e 1 (by omega)]; exact a1, by rw [e 2 (by omega)]; exact a2, by rw [e 3 (by omega)]; exact a3, by rw [e 4 (by omega)]; exact a4⟩, by rw [e 20 (by omega)]; exact a20, fun w hw => ?_, fun a ha => ?_, zr0_c az (fun j hj => e j (by omega)), ao⟩
  · rw [e (21 + w) (by omega), e (23 + w) (by omega), e (25 + w) (by omega), zu_self]
    refine ⟨?_, (av w hw).2⟩
    have h0 : r (21 + w) = 0 := by
      rcases (show w = 0 ∨ w = 1 by omega) with rfl | rfl
      · exact f.2.1
      · exact f.2.2
    rw [h0, z0]; omega
  · rw [e (219 + a) (by omega), f.1 a ha, z0]
    exact ⟨⟨by omega, by omega⟩, fun j hj => absurd hj (by omega)⟩
theorem pv_off {r : zRow} {o : Nat} {v w : Int32} (h : zPV r o) (ho : o < 2) (hv : 0 ≤ v.toInt ∧ v.toInt < 1000 * (r 0).toInt) (hw : 10 ≤ w.toInt ∧ w.toInt ≤ 999) : zPV (zu (zu r (21 + o) v) (23 + o) w) (o + 1) := by
  obtain ⟨⟨a0, a1, a2, a3, a4⟩, a20, av, al, az, ao⟩ := h
  have e : ∀ j, j ≠ 21 + o → j ≠ 23 + o → zu (zu r (21 + o) v) (23 + o) w j = r j := fun j h1 h2 => by rw [zu_ne h2, zu_ne h1]
  refine ⟨⟨by rw [e 0 (by omega) (by omega)]; exact a0, by rw [e 1 (by omega) (by omega)]; exact a1, by rw [e 2 (by omega) (by omega)]; exact a2, by rw [e 3 (by omega) (by omega)]; exact a3, by rw [e 4 (by omega) (by omega)]; exact a4⟩, by rw [e 20 (by omega) (by omega)]; exact a20, fun x hx => ?_, fun a ha => ?_, zr0_c az (fun j hj => e j (by omega) (by omega)), by omega⟩
  · rw [e (25 + x) (by omega) (by omega), e 0 (by omega) (by omega)]
    obtain ⟨b1, b2, b3⟩ := av x hx
    refine ⟨?_, ?_, b3⟩
    · by_cases ex : x = o
      · subst ex; rw [zu_ne (by omega), zu_self]; exact hv
      · rw [e _ (by omega) (by omega)]; exact b1
    · by_cases ex : x = o
      · subst ex; rw [zu_self]; exact hw
      · rw [e _ (by omega) (by omega)]; exact b2
  · rw [e (219 + a) (by omega) (by omega), e 0 (by omega) (by omega)]
    exact ⟨(al a ha).1, fun j hj => by rw [e _ (by omega) (by omega)]; exact (al a ha).2 j hj⟩
theorem pv_lose {r : zRow} {o : Nat} {v : Int32} (h : zPV r o) (h20 : ¬ 20 ≤ (r 20).toInt) : zPV (rLose r v) o := by
  obtain ⟨⟨a0, a1, a2, a3, a4⟩, a20, av, al, az, ao⟩ := h
  have c0 := ncl a20.1
  have e : ∀ j, j ≠ 39 + (r 20).toNatClampNeg → j ≠ 20 → rLose r v j = r j := fun j h1 h2 => by unfold rLose; rw [zu_ne h2, zu_ne h1]
  have l1 : (1 : Int32).toInt = 1 := rfl
  refine ⟨⟨by rw [e 0 (by omega) (by omega)]; exact a0, by rw [e 1 (by omega) (by omega)]; exact a1, by rw [e 2 (by omega) (by omega)]; exact a2, by rw [e 3 (by omega) (by omega)]; exact a3, by rw [e 4 (by omega) (by omega)]; exact a4⟩, ?_, fun x hx => ?_, fun a ha => ?_, zr0_c az (fun j hj => e j (by omega) (by omega)), ao⟩
  · unfold rLose
    rw [zu_self, nadd (by rw [l1]; omega) (by rw [l1]; omega), l1]; omega
  · rw [e (21 + x) (by omega) (by omega), e (23 + x) (by omega) (by omega), e (25 + x) (by omega) (by omega), e 0 (by omega) (by omega)]; exact av x hx
  · rw [e (219 + a) (by omega) (by omega), e 0 (by omega) (by omega)]
    exact ⟨(al a ha).1, fun j hj => by rw [e _ (by omega) (by omega)]; exact (al a ha).2 j hj⟩
theorem pv_new {r : zRow} {o v : Nat} (h : zPV r o) (hv : v < 2) (h12 : ¬ 12 ≤ (r (25 + v)).toInt) : zPV (pNew r v) o := by
  obtain ⟨⟨a0, a1, a2, a3, a4⟩, a20, av, al, az, ao⟩ := h
  have hb := (av v hv).2.2
  have c0 := ncl hb.1
  have e : ∀ j, j ≠ 219 + 12 * v + (r (25 + v)).toNatClampNeg → j ≠ 25 + v → pNew r v j = r j := fun j h1 h2 => by unfold pNew; rw [zu_ne h2, zu_ne h1]
  have l1 : (1 : Int32).toInt = 1 := rfl
  have z0 : (0 : Int32).toInt = 0 := rfl
  refine ⟨⟨by rw [e 0 (by omega) (by omega)]; exact a0, by rw [e 1 (by omega) (by omega)]; exact a1, by rw [e 2 (by omega) (by omega)]; exact a2, by rw [e 3 (by omega) (by omega)]; exact a3, by rw [e 4 (by omega) (by omega)]; exact a4⟩, by rw [e 20 (by omega) (by omega)]; exact a20, fun x hx => ?_, fun a ha => ?_, zr0_c az (fun j hj => e j (by omega) (by omega)), ao⟩
  · rw [e (21 + x) (by omega) (by omega), e (23 + x) (by omega) (by omega), e 0 (by omega) (by omega)]
    obtain ⟨b1, b2, b3⟩ := av x hx
    refine ⟨b1, b2, ?_⟩
    by_cases ex : x = v
    · subst ex
      unfold pNew
      rw [zu_self, nadd (by rw [l1]; omega) (by rw [l1]; omega), l1]; omega
    · rw [e _ (by omega) (by omega)]; exact b3
  · rw [e 0 (by omega) (by omega)]
    by_cases ea : 219 + a = 219 + 12 * v + (r (25 + v)).toNatClampNeg
    · have e0 : pNew r v (219 + a) = 0 := by
        unfold pNew
        rw [zu_ne (by omega), ea, zu_self]
      rw [e0, z0]
      exact ⟨by omega, fun j hj => absurd hj (by omega)⟩
    · rw [e _ ea (by omega)]
      exact ⟨(al a ha).1, fun j hj => by rw [e _ (by omega) (by omega)]; exact (al a ha).2 j hj⟩
theorem pApp_at {c : Nat → Int32} {s a L : Nat} {r : zRow} (ha : a < 24) (hL : r (219 + a) = nI L) : ∀ i, L + i ≤ 30 → ∀ j, pApp c s a r i j = if j = 219 + a then nI (L + i) else if 243 + 30 * a + L ≤ j ∧ j < 243 + 30 * a + L + i then c (s + (j - (243 + 30 * a + L))) else r j
  | 0, hi, j => by
    rw [pApp]
    by_cases e : j = 219 + a
    · rw [if_pos e, e]; exact hL
    · rw [if_neg e, if_neg (by omega)]
  | i + 1, hi, j => by
    have ih := pApp_at (c := c) (s := s) ha hL i (by omega)
    have e1 : pApp c s a r i (219 + a) = nI (L + i) := by rw [ih, if_pos rfl]
    rw [pApp, e1, nI_1, nI_clamp (by omega)]
    by_cases e : j = 219 + a
    · rw [if_pos e, e, zu_self]; rfl
    · rw [if_neg e, zu_ne e]
      by_cases e2 : j = 243 + 30 * a + (L + i)
      · rw [e2, zu_self, if_pos (by omega)]
        congr 1
        omega
      · rw [zu_ne e2, ih, if_neg e]
        by_cases e3 : 243 + 30 * a + L ≤ j ∧ j < 243 + 30 * a + L + i
        · rw [if_pos e3, if_pos (by omega)]
        · rw [if_neg e3, if_neg (by omega)]
theorem pv_app {r : zRow} {o a m s : Nat} {c : Nat → Int32} (h : zPV r o) (ha : a < 24) (hl : (r (219 + a)).toInt + (m : Int) ≤ 30) (hc : ∀ j, j < m → zckk (r 0) (c (s + j))) : zPV (pApp c s a r m) o := by
  obtain ⟨⟨a0, a1, a2, a3, a4⟩, a20, av, al, az, ao⟩ := h
  have c0 := ncl (al a ha).1.1
  obtain ⟨L, hL⟩ : ∃ L, L = (r (219 + a)).toNatClampNeg := ⟨_, rfl⟩
  have eL : r (219 + a) = nI L := by rw [neq, nI_toInt (by omega)]; omega
  have P := pApp_at (c := c) (s := s) ha eL m (by omega)
  have e : ∀ j, j ≠ 219 + a → ¬ (243 + 30 * a + L ≤ j ∧ j < 243 + 30 * a + L + m) → pApp c s a r m j = r j := fun j h1 h2 => by rw [P, if_neg h1, if_neg h2]
  refine ⟨⟨by rw [e 0 (by omega) (by omega)]; exact a0, by rw [e 1 (by omega) (by omega)]; exact a1, by rw [e 2 (by omega) (by omega)]; exact a2, by rw [e 3 (by omega) (by omega)]; exact a3, by rw [e 4 (by omega) (by omega)]; exact a4⟩, by rw [e 20 (by omega) (by omega)]; exact a20, fun x hx => ?_, fun b hb => ?_, zr0_c az (fun j hj => e j (by omega) (by omega)), ao⟩
  · rw [e (21 + x) (by omega) (by omega), e (23 + x) (by omega) (by omega), e (25 + x) (by omega) (by omega), e 0 (by omega) (by omega)]; exact av x hx
  · rw [e 0 (by omega) (by omega)]
    obtain ⟨b1, b2⟩ := al b hb
    by_cases eb : b = a
    · subst eb
      have e9 : pApp c s b r m (219 + b) = nI (L + m) := by rw [P, if_pos rfl]
      rw [e9, nI_toInt (by omega)]
      refine ⟨by omega, fun j hj => ?_⟩
      rw [P, if_neg (by omega)]
      by_cases ej : 243 + 30 * b + L ≤ 243 + 30 * b + j ∧ 243 + 30 * b + j < 243 + 30 * b + L + m
      · rw [if_pos ej]; exact hc _ (by omega)
      · rw [if_neg ej]; exact b2 j (by omega)
    · rw [e (219 + b) (by omega) (by omega)]
      exact ⟨b1, fun j hj => by rw [e _ (by omega) (by omega)]; exact b2 j hj⟩

/-! from 98f.stmts -/
/-! WHAT HOLDS behind a statement -/
section ZSTMT
variable {c : Nat → Int32} {n : Nat}
theorem tE_q (q : Nat) : q < tE c n q := by
  have h1 := tS_ge c n q
  have h2 := tE_gt c n q
  omega
theorem pSemi_ok {r r' : zRow} {o q o' q' : Nat} (h : pSemi c n r o q = .inr (r', o', q')) : r' = r ∧ o' = o ∧ q < q' ∧ tK c n q' = 3 := by
  unfold pSemi at h
  by_cases e : tK c n (tE c n q) = 3
  · rw [if_pos e] at h
    cases h
    exact ⟨rfl, rfl, tE_q q, e⟩
  · rw [if_neg e] at h
    cases h
theorem pSet_ok {k : Nat} {lo hi : Int32} {r r' : zRow} {o q o' q' : Nat} (h : pSet c n k lo hi r o q = .inr (r', o', q')) : ∃ v : Int32, lo.toInt ≤ v.toInt ∧ v.toInt ≤ hi.toInt ∧ r' = zu r k v ∧ o' = o ∧ q < q' ∧ tK c n q' = 3 := by
  unfold pSet at h
  by_cases e : pNb c n (tE c n q) lo hi = true
  · rw [if_pos e] at h
    obtain ⟨h1, h2, h3, h4⟩ := pSemi_ok h
    obtain ⟨e1, e2, e3⟩ := pNb_t.mp e
    have := tE_q (c := c) (n := n) q
    exact ⟨_, e2, e3, h1, h2, by omega, h4⟩
  · rw [if_neg e] at h
    cases h
theorem pItb_t {r : zRow} {v q : Nat} : pItb c n r v q = true ↔ (∀ j, j < tE c n q - tS c n q → (zidx (c (tS c n q + j))).toInt < (r 0).toInt - 2) ∧ (r (219 + pLn r v)).toInt + ((tE c n q - tS c n q : Nat) : Int) ≤ 30 := by
  unfold pItb pFitb
  rw [Bool.and_eq_true, List.all_eq_true, decide_eq_true_eq]
  exact ⟨fun h => ⟨fun j hj => of_decide_eq_true (h.1 j (List.mem_range.mpr hj)), h.2⟩, fun h => ⟨fun j hj => decide_eq_true (h.1 j (List.mem_range.mp hj)), h.2⟩⟩
theorem pLn_lt {r : zRow} {o v : Nat} (h : zPV r o) (hv : v < 2) : pLn r v < 24 := by
  have hb := (h.2.2.1 v hv).2.2
  have c0 := ncl hb.1
  unfold pLn
  omega
theorem pIts_ok {o v : Nat} (hv : v < 2) : ∀ (d : Nat) (f : Bool) (r : zRow) (q : Nat) {r' : zRow} {q' : Nat}, zPV r o → pIts c n v d f r q = .inr (r', q') → zPV r' o ∧ q ≤ q' ∧ tK c n q' = 3
  | 0, f, r, q, r', q', h, e => by
    rw [pIts] at e
    cases e
  | d + 1, f, r, q, r', q', h, e => by
    have hq := tE_q (c := c) (n := n) q
    rw [pIts] at e
    by_cases e3 : tK c n q = 3
    · rw [if_pos e3] at e
      by_cases ef : f = true
      · rw [if_pos ef] at e
        cases e
      · rw [if_neg ef] at e
        cases e
        exact ⟨h, Nat.le_refl _, e3⟩
    · rw [if_neg e3] at e
      by_cases e4 : tK c n q = 4
      · rw [if_pos e4] at e
        by_cases e12 : 12 ≤ (r (25 + v)).toInt
        · rw [if_pos e12] at e
          cases e
        · rw [if_neg e12] at e
          obtain ⟨a1, a2, a3⟩ := pIts_ok hv d false _ _ (pv_new h hv e12) e
          exact ⟨a1, by omega, a3⟩
      · rw [if_neg e4] at e
        by_cases e1 : tK c n q = 1 ∨ tK c n q = 2
        · rw [if_pos e1] at e
          by_cases eb : pItb c n r v q = true
          · rw [if_pos eb] at e
            obtain ⟨b1, b2⟩ := pItb_t.mp eb
            obtain ⟨k1, k2, k3, k4, k5⟩ := tK_run (k := tK c n q) e1 rfl
            obtain ⟨a1, a2, a3⟩ := pIts_ok hv d false _ _ (pv_app (s := tS c n q) (c := c) h (pLn_lt h hv) b2 (fun j hj => ⟨b1 j hj, by rw [k5 _ (by omega) (by omega)]; exact e1⟩)) e
            exact ⟨a1, by omega, a3⟩
          · rw [if_neg eb] at e
            cases e
        · rw [if_neg e1] at e
          cases e
theorem pMsg_ok {r r' : zRow} {o q o' q' : Nat} (h : zPV r o) (e : pMsg c n r o q = .inr (r', o', q')) : zPV r' o' ∧ q < q' ∧ tK c n q' = 3 := by
  unfold pMsg at e
  by_cases e1 : pNb c n (tE c n q) 0 1 = true
  · rw [if_pos e1] at e
    obtain ⟨x1, x2, x3⟩ := pNb_t.mp e1
    have z0 : (0 : Int32).toInt = 0 := rfl
    have z1 : (1 : Int32).toInt = 1 := rfl
    have c0 := ncl (a := tV c n (tE c n q)) (by omega)
    have hv : (tV c n (tE c n q)).toNatClampNeg < 2 := by omega
    by_cases e12 : 12 ≤ (r (25 + (tV c n (tE c n q)).toNatClampNeg)).toInt
    · rw [if_pos e12] at e
      cases e
    · rw [if_neg e12] at e
      cases hI : pIts c n (tV c n (tE c n q)).toNatClampNeg (n + 1) true (pNew r (tV c n (tE c n q)).toNatClampNeg) (tE c n (tE c n q)) with
      | inl x => rw [hI] at e; cases e
      | inr x =>
        obtain ⟨r2, q2⟩ := x
        rw [hI] at e
        cases e
        obtain ⟨a1, a2, a3⟩ := pIts_ok hv _ _ _ _ (pv_new h hv e12) hI
        have g1 := tE_q (c := c) (n := n) q
        have g2 := tE_q (c := c) (n := n) (tE c n q)
        exact ⟨a1, by omega, a3⟩
  · rw [if_neg e1] at e
    cases e
theorem pOff_ok {r r' : zRow} {o q o' q' : Nat} (h : zPV r o) (e : pOff c n r o q = .inr (r', o', q')) : zPV r' o' ∧ q < q' ∧ tK c n q' = 3 := by
  unfold pOff at e
  by_cases e2 : 2 ≤ o
  · rw [if_pos e2] at e
    cases e
  · rw [if_neg e2] at e
    by_cases e1 : pNb c n (tE c n q) 0 (1000 * r 0 - 1) = true
    · rw [if_pos e1] at e
      by_cases e3 : pNb c n (tE c n (tE c n q)) 10 999 = true
      · rw [if_pos e3] at e
        obtain ⟨h1, h2, h3, h4⟩ := pSemi_ok e
        obtain ⟨x1, x2, x3⟩ := pNb_t.mp e1
        obtain ⟨y1, y2, y3⟩ := pNb_t.mp e3
        have z0 : (0 : Int32).toInt = 0 := rfl
        have z1 : (1 : Int32).toInt = 1 := rfl
        have z10 : (10 : Int32).toInt = 10 := rfl
        have z999 : (999 : Int32).toInt = 999 := rfl
        have zk : (1000 : Int32).toInt = 1000 := rfl
        have hN := h.1.1
        have m1 : (1000 * r 0 : Int32).toInt = 1000 * (r 0).toInt := by rw [nmul (by rw [zk]; omega) (by rw [zk]; omega), zk]
        have m2 : (1000 * r 0 - 1 : Int32).toInt = 1000 * (r 0).toInt - 1 := by rw [nsub (by rw [m1, z1]; omega) (by rw [m1, z1]; omega), m1, z1]
        rw [h1, h2]
        have g1 := tE_q (c := c) (n := n) q
        have g2 := tE_q (c := c) (n := n) (tE c n q)
        exact ⟨pv_off h (by omega) (by omega) (by omega), by omega, h4⟩
      · rw [if_neg e3] at e
        cases e
    · rw [if_neg e1] at e
      cases e
theorem pLos_ok {r r' : zRow} {o q o' q' : Nat} (h : zPV r o) (e : pLos c n r o q = .inr (r', o', q')) : zPV r' o' ∧ q < q' ∧ tK c n q' = 3 := by
  unfold pLos at e
  by_cases e2 : 20 ≤ (r 20).toInt
  · rw [if_pos e2] at e
    cases e
  · rw [if_neg e2] at e
    by_cases e1 : pNb c n (tE c n q) 1 9999 = true
    · rw [if_pos e1] at e
      obtain ⟨h1, h2, h3, h4⟩ := pSemi_ok e
      rw [h1, h2]
      have g1 := tE_q (c := c) (n := n) q
      exact ⟨pv_lose h e2, by omega, h4⟩
    · rw [if_neg e1] at e
      cases e
theorem pStmt_ok {f : Bool} {r r' : zRow} {o q o' q' : Nat} (h : zPV r o) (hf : f = true → zFst r) (e : pStmt c n f r o q = .inr (r', o', q')) : zPV r' o' ∧ q < q' ∧ tK c n q' = 3 := by
  have l0 : (0 : Int32).toInt = 0 := rfl
  have l1 : (1 : Int32).toInt = 1 := rfl
  have l6 : (6 : Int32).toInt = 6 := rfl
  have l9 : (9 : Int32).toInt = 9 := rfl
  have l28 : (28 : Int32).toInt = 28 := rfl
  have l50 : (50 : Int32).toInt = 50 := rfl
  have l500 : (500 : Int32).toInt = 500 := rfl
  have l5000 : (5000 : Int32).toInt = 5000 := rfl
  unfold pStmt at e
  by_cases e2 : tW c n q 4
  · rw [if_pos e2] at e
    exact pMsg_ok h e
  rw [if_neg e2] at e
  by_cases e3 : tW c n q 5
  · rw [if_pos e3] at e
    by_cases ef : f = true
    · rw [if_pos ef] at e
      obtain ⟨v, v1, v2, v3, v4, v5, v6⟩ := pSet_ok e
      rw [v3, v4]
      exact ⟨pv_wheel h (hf ef) (by omega), v5, v6⟩
    · rw [if_neg ef] at e
      cases e
  rw [if_neg e3] at e
  by_cases e4 : tW c n q 6
  · rw [if_pos e4] at e
    exact pOff_ok h e
  rw [if_neg e4] at e
  by_cases e5 : tW c n q 7
  · rw [if_pos e5] at e
    exact pLos_ok h e
  rw [if_neg e5] at e
  by_cases e6 : tW c n q 8
  · rw [if_pos e6] at e
    obtain ⟨v, v1, v2, v3, v4, v5, v6⟩ := pSet_ok e
    rw [v3, v4]
    exact ⟨pv_u h (by omega) (by omega), v5, v6⟩
  rw [if_neg e6] at e
  by_cases e7 : tW c n q 9
  · rw [if_pos e7] at e
    obtain ⟨v, v1, v2, v3, v4, v5, v6⟩ := pSet_ok e
    rw [v3, v4]
    exact ⟨pv_u h (by omega) (by omega), v5, v6⟩
  rw [if_neg e7] at e
  by_cases e8 : tW c n q 10
  · rw [if_pos e8] at e
    obtain ⟨v, v1, v2, v3, v4, v5, v6⟩ := pSet_ok e
    rw [v3, v4]
    exact ⟨pv_u h (by omega) (by omega), v5, v6⟩
  rw [if_neg e8] at e
  by_cases e9 : tW c n q 11
  · rw [if_pos e9] at e
    obtain ⟨v, v1, v2, v3, v4, v5, v6⟩ := pSet_ok e
    rw [v3, v4]
    exact ⟨pv_u h (by omega) (by omega), v5, v6⟩
  rw [if_neg e9] at e
  cases e
end ZSTMT

/-! from 98g.plans -/
/-! THE CLASS'S PLAN and the row that is read -/
def zPn (F : Nat → Nat → Int32) (r : zRow) : Prop := (F 0 0 = r 0 ∧ F 0 1 = r 1 ∧ F 0 2 = r 2 ∧ F 0 3 = r 3 ∧ F 0 4 = r 4) ∧ (F 1 1 = r 20 ∧ ∀ k, k < (r 20).toNatClampNeg → F 2 k = r (39 + k)) ∧ (∀ v, v < 2 → F (3 + 62 * v) 0 = r (21 + v) ∧ F (3 + 62 * v) 1 = r (23 + v) ∧ F (3 + 62 * v) 2 = r (25 + v)) ∧ (∀ v : Nat, v < 2 → ∀ k : Nat, k < 12 → (k : Int) < (r (25 + v)).toInt → F (6 + 62 * v + 5 * k) 1 = r (219 + (12 * v + k)) ∧ ∀ j, j < (r (219 + (12 * v + k))).toNatClampNeg → F (7 + 62 * v + 5 * k) j = r (243 + 30 * (12 * v + k) + j))
section ZPLANS
variable {F : Nat → Nat → Int32} {r : zRow}
theorem zPn_u {k : Nat} {x : Int32} (h : zPn F r) (hk : k ≤ 4) : zPn (zf F 0 k x) (zu r k x) := by
  obtain ⟨⟨a0, a1, a2, a3, a4⟩, ⟨b1, b2⟩, d, e⟩ := h
  have z : ∀ j, F 0 j = r j → zf F 0 k x 0 j = zu r k x j := fun j hj => by rw [zf_ap, if_pos rfl, zu_ap, hj]
  have y : ∀ j, j ≠ k → zu r k x j = r j := fun j hj => zu_ne hj
  have w : ∀ a, a ≠ 0 → zf F 0 k x a = F a := fun a ha => zf_ne ha
  refine ⟨⟨z 0 a0, z 1 a1, z 2 a2, z 3 a3, z 4 a4⟩, ⟨by rw [w 1 (by omega), y 20 (by omega)]; exact b1, fun j hj => ?_⟩, fun v hv => ?_, fun v hv m hm hlt => ?_⟩
  · rw [y 20 (by omega)] at hj
    rw [w 2 (by omega), y _ (by omega)]
    exact b2 j hj
  · rw [w _ (by omega), y _ (by omega), y _ (by omega), y _ (by omega)]
    exact d v hv
  · rw [y (25 + v) (by omega)] at hlt
    rw [w _ (by omega), w _ (by omega), y (219 + (12 * v + m)) (by omega)]
    exact ⟨(e v hv m hm hlt).1, fun j hj => by rw [y _ (by omega)]; exact (e v hv m hm hlt).2 j hj⟩
theorem zPn_o {o i : Nat} {x : Int32} (h : zPn F r) (ho : o < 2) (hi : i < 2) : zPn (zf F (3 + 62 * o) i x) (zu r (21 + 2 * i + o) x) := by
  obtain ⟨⟨a0, a1, a2, a3, a4⟩, ⟨b1, b2⟩, d, e⟩ := h
  have y : ∀ j, j ≠ 21 + 2 * i + o → zu r (21 + 2 * i + o) x j = r j := fun j hj => zu_ne hj
  have w : ∀ a, a ≠ 3 + 62 * o → zf F (3 + 62 * o) i x a = F a := fun a ha => zf_ne ha
  refine ⟨⟨by rw [w 0 (by omega), y 0 (by omega)]; exact a0, by rw [w 0 (by omega), y 1 (by omega)]; exact a1, by rw [w 0 (by omega), y 2 (by omega)]; exact a2, by rw [w 0 (by omega), y 3 (by omega)]; exact a3, by rw [w 0 (by omega), y 4 (by omega)]; exact a4⟩, ⟨by rw [w 1 (by omega), y 20 (by omega)]; exact b1, fun j hj => ?_⟩, fun v hv => ?_, fun v hv m hm hlt => ?_⟩
  · rw [y 20 (by omega)] at hj
    rw [w 2 (by omega), y _ (by omega)]
    exact b2 j hj
  · obtain ⟨d1, d2, d3⟩ := d v hv
    by_cases ev : v = o
    · subst ev
      rw [y (25 + v) (by omega), zf_ap, zf_ap, zf_ap, if_pos rfl, if_pos rfl, if_pos rfl, if_neg (show ¬ 2 = i by omega)]
      rcases (show i = 0 ∨ i = 1 by omega) with rfl | rfl
      · refine ⟨by rw [if_pos rfl, show 21 + 2 * 0 + v = 21 + v by omega, zu_self], by rw [if_neg (by decide), y _ (by omega)]; exact d2, d3⟩
      · refine ⟨by rw [if_neg (by decide), y _ (by omega)]; exact d1, by rw [if_pos rfl, show 21 + 2 * 1 + v = 23 + v by omega, zu_self], d3⟩
    · rw [w _ (by omega), y _ (by omega), y _ (by omega), y _ (by omega)]
      exact ⟨d1, d2, d3⟩
  · rw [y (25 + v) (by omega)] at hlt
    rw [w _ (by omega), w _ (by omega), y (219 + (12 * v + m)) (by omega)]
    exact ⟨(e v hv m hm hlt).1, fun j hj => by rw [y _ (by omega)]; exact (e v hv m hm hlt).2 j hj⟩
theorem zPn_l {x : Int32} {m : Nat} (h : zPn F r) (hm : r 20 = nI m) (hm2 : m < 20) : zPn (zf (zf F 2 m x) 1 1 (nI (m + 1))) (rLose r x) := by
  obtain ⟨⟨a0, a1, a2, a3, a4⟩, ⟨b1, b2⟩, d, e⟩ := h
  have cm : (r 20).toNatClampNeg = m := by rw [hm, nI_clamp (by omega)]
  have y : ∀ j, j ≠ 39 + m → j ≠ 20 → rLose r x j = r j := fun j h1 h2 => by unfold rLose; rw [zu_ne h2, cm, zu_ne h1]
  have w : ∀ a, a ≠ 2 → a ≠ 1 → zf (zf F 2 m x) 1 1 (nI (m + 1)) a = F a := fun a h1 h2 => by rw [zf_ne h2, zf_ne h1]
  have y20 : rLose r x 20 = nI (m + 1) := by unfold rLose; rw [zu_self, hm, nI_1]
  refine ⟨⟨by rw [w 0 (by omega) (by omega), y 0 (by omega) (by omega)]; exact a0, by rw [w 0 (by omega) (by omega), y 1 (by omega) (by omega)]; exact a1, by rw [w 0 (by omega) (by omega), y 2 (by omega) (by omega)]; exact a2, by rw [w 0 (by omega) (by omega), y 3 (by omega) (by omega)]; exact a3, by rw [w 0 (by omega) (by omega), y 4 (by omega) (by omega)]; exact a4⟩, ⟨by rw [y20, zf_ap, if_pos rfl, if_pos rfl], fun j hj => ?_⟩, fun v hv => ?_, fun v hv k hk hlt => ?_⟩
  · rw [y20, nI_clamp (by omega)] at hj
    rw [zf_ne (by decide), zf_ap, if_pos rfl]
    by_cases ej : j = m
    · subst ej
      unfold rLose
      rw [if_pos rfl, zu_ne (by omega), cm, zu_self]
    · rw [if_neg ej, y _ (by omega) (by omega)]
      exact b2 j (by omega)
  · rw [w _ (by omega) (by omega), y _ (by omega) (by omega), y _ (by omega) (by omega), y _ (by omega) (by omega)]
    exact d v hv
  · rw [y (25 + v) (by omega) (by omega)] at hlt
    rw [w _ (by omega) (by omega), w _ (by omega) (by omega), y (219 + (12 * v + k)) (by omega) (by omega)]
    exact ⟨(e v hv k hk hlt).1, fun j hj => by rw [y _ (by omega) (by omega)]; exact (e v hv k hk hlt).2 j hj⟩
theorem zPn_n {v L : Nat} (h : zPn F r) (h20 : (r 20).toInt ≤ 20) (hv : v < 2) (hL : r (25 + v) = nI L) (hL2 : L < 12) : zPn (zf (zf F (3 + 62 * v) 2 (nI (L + 1))) (6 + 62 * v + 5 * L) 1 0) (pNew r v) := by
  obtain ⟨⟨a0, a1, a2, a3, a4⟩, ⟨b1, b2⟩, d, e⟩ := h
  have cL : (r (25 + v)).toNatClampNeg = L := by rw [hL, nI_clamp (by omega)]
  have y : ∀ j, j ≠ 219 + 12 * v + L → j ≠ 25 + v → pNew r v j = r j := fun j h1 h2 => by unfold pNew; rw [zu_ne h2, cL, zu_ne h1]
  have yv : pNew r v (25 + v) = nI (L + 1) := by unfold pNew; rw [zu_self, hL, nI_1]
  have w : ∀ a, a ≠ 3 + 62 * v → a ≠ 6 + 62 * v + 5 * L → zf (zf F (3 + 62 * v) 2 (nI (L + 1))) (6 + 62 * v + 5 * L) 1 0 a = F a := fun a h1 h2 => by rw [zf_ne h2, zf_ne h1]
  refine ⟨⟨by rw [w 0 (by omega) (by omega), y 0 (by omega) (by omega)]; exact a0, by rw [w 0 (by omega) (by omega), y 1 (by omega) (by omega)]; exact a1, by rw [w 0 (by omega) (by omega), y 2 (by omega) (by omega)]; exact a2, by rw [w 0 (by omega) (by omega), y 3 (by omega) (by omega)]; exact a3, by rw [w 0 (by omega) (by omega), y 4 (by omega) (by omega)]; exact a4⟩, ⟨by rw [w 1 (by omega) (by omega), y 20 (by omega) (by omega)]; exact b1, fun j hj => ?_⟩, fun u hu => ?_, fun u hu k hk hlt => ?_⟩
  · rw [y 20 (by omega) (by omega)] at hj
    have hj9 : j < 20 := by
      rw [ncln] at hj
      omega
    rw [w 2 (by omega) (by omega), y _ (by omega) (by omega)]
    exact b2 j hj
  · obtain ⟨d1, d2, d3⟩ := d u hu
    by_cases eu : u = v
    · subst eu
      rw [zf_ne (by omega), y (21 + u) (by omega) (by omega), y (23 + u) (by omega) (by omega), yv, zf_ap, zf_ap, zf_ap, if_pos rfl, if_pos rfl, if_pos rfl, if_neg (by decide), if_neg (by decide), if_pos rfl]
      exact ⟨d1, d2, rfl⟩
    · rw [w _ (by omega) (by omega), y _ (by omega) (by omega), y _ (by omega) (by omega), y _ (by omega) (by omega)]
      exact ⟨d1, d2, d3⟩
  · by_cases ek : u = v ∧ k = L
    · obtain ⟨rfl, rfl⟩ := ek
      have e0 : pNew r u (219 + (12 * u + k)) = 0 := by
        unfold pNew
        rw [zu_ne (by omega), cL, show 219 + (12 * u + k) = 219 + 12 * u + k by omega, zu_self]
      rw [e0, zf_ap, if_pos rfl, if_pos rfl]
      exact ⟨rfl, fun j hj => absurd hj (Nat.not_lt_zero j)⟩
    · have hlt2 : (k : Int) < (r (25 + u)).toInt := by
        by_cases eu : u = v
        · subst eu
          rw [yv, nI_toInt (by omega)] at hlt
          rw [hL, nI_toInt (by omega)]
          omega
        · rw [y _ (by omega) (by omega)] at hlt
          exact hlt
      rw [w _ (by omega) (by omega), w _ (by omega) (by omega), y (219 + (12 * u + k)) (by omega) (by omega)]
      exact ⟨(e u hu k hk hlt2).1, fun j hj => by rw [y _ (by omega) (by omega)]; exact (e u hu k hk hlt2).2 j hj⟩
theorem zPn_a {v k len : Nat} {x : Int32} (h : zPn F r) (h20 : (r 20).toInt ≤ 20) (hv : v < 2) (hk : k < 12) (hlen : r (219 + (12 * v + k)) = nI len) (hl : len < 30) (al : ∀ a, a < 24 → (r (219 + a)).toInt ≤ 30) : zPn (zf (zf F (7 + 62 * v + 5 * k) len x) (6 + 62 * v + 5 * k) 1 (nI (len + 1))) (zu (zu r (243 + 30 * (12 * v + k) + len) x) (219 + (12 * v + k)) (nI (len + 1))) := by
  obtain ⟨⟨a0, a1, a2, a3, a4⟩, ⟨b1, b2⟩, d, e⟩ := h
  have y : ∀ j, j ≠ 243 + 30 * (12 * v + k) + len → j ≠ 219 + (12 * v + k) → zu (zu r (243 + 30 * (12 * v + k) + len) x) (219 + (12 * v + k)) (nI (len + 1)) j = r j := fun j h1 h2 => by rw [zu_ne h2, zu_ne h1]
  have w : ∀ a, a ≠ 7 + 62 * v + 5 * k → a ≠ 6 + 62 * v + 5 * k → zf (zf F (7 + 62 * v + 5 * k) len x) (6 + 62 * v + 5 * k) 1 (nI (len + 1)) a = F a := fun a h1 h2 => by rw [zf_ne h2, zf_ne h1]
  refine ⟨⟨by rw [w 0 (by omega) (by omega), y 0 (by omega) (by omega)]; exact a0, by rw [w 0 (by omega) (by omega), y 1 (by omega) (by omega)]; exact a1, by rw [w 0 (by omega) (by omega), y 2 (by omega) (by omega)]; exact a2, by rw [w 0 (by omega) (by omega), y 3 (by omega) (by omega)]; exact a3, by rw [w 0 (by omega) (by omega), y 4 (by omega) (by omega)]; exact a4⟩, ⟨by rw [w 1 (by omega) (by omega), y 20 (by omega) (by omega)]; exact b1, fun j hj => ?_⟩, fun u hu => ?_, fun u hu m hm hlt => ?_⟩
  · rw [y 20 (by omega) (by omega)] at hj
    have hj9 : j < 20 := by
      rw [ncln] at hj
      omega
    rw [w 2 (by omega) (by omega), y _ (by omega) (by omega)]
    exact b2 j hj
  · rw [w _ (by omega) (by omega), y _ (by omega) (by omega), y _ (by omega) (by omega), y _ (by omega) (by omega)]
    exact d u hu
  · rw [y (25 + u) (by omega) (by omega)] at hlt
    obtain ⟨e1, e2⟩ := e u hu m hm hlt
    have hb := al (12 * u + m) (by omega)
    by_cases em : u = v ∧ m = k
    · obtain ⟨rfl, rfl⟩ := em
      rw [zu_self, nI_clamp (by omega), zf_ap, if_pos rfl, if_pos rfl]
      refine ⟨rfl, fun j hj => ?_⟩
      rw [zf_ne (by omega), zf_ap, if_pos rfl, zu_ne (by omega)]
      by_cases ej : j = len
      · subst ej; rw [if_pos rfl, zu_self]
      · rw [if_neg ej, zu_ne (by omega)]
        exact e2 j (by rw [hlen, nI_clamp (by omega)]; omega)
    · rw [w _ (by omega) (by omega), w _ (by omega) (by omega), y (219 + (12 * u + m)) (by omega) (by omega)]
      refine ⟨e1, fun j hj => ?_⟩
      have hj2 := hj
      rw [ncln] at hj2
      rw [y _ (by omega) (by omega)]
      exact e2 j hj
end ZPLANS

/-! from 98h.cstmts -/
/-! THE CLASS READS: settings, offices, lost pulses -/
/-- what a statement must leave -/
def cR (σ : zS) (p : Nat) (c : Nat → Int32) (n : Nat) (Q : Int32 → zS → Prop) (res : Nat ⊕ (zRow × Nat × Nat)) : Prop := (∀ e, res = .inl e → ∀ (f3 f4 : Nat → Int32) (F : Nat → Nat → Int32), f4 1 = nI e → Q 0 (zpc σ p f3 f4 F)) ∧ (∀ r o q, res = .inr (r, o, q) → ∀ (f3 f4 : Nat → Int32) (F : Nat → Nat → Int32), f3 1 = nI o → tok f4 c n q → zPn F r → Q 1 (zpc σ p f3 f4 F))
section ZCST
variable {ln : Nat → Nat} {σ : zS} {p : Nat} {f3 f4 : Nat → Int32} {F : Nat → Nat → Int32} {c : Nat → Int32} {n : Nat} {r : zRow} {o q : Nat}
theorem si_zpc_0 (hp : 5 ≤ p) (j : Nat) (v : Int32) : si (zpc σ p f3 f4 F) p j v = zpc σ p f3 f4 (zf F 0 j v) := si_zpc_k hp (k := 0) rfl (by decide) j v
theorem gi_zpc_0 (hp : 5 ≤ p) : gi (zpc σ p f3 f4 F) p = F 0 := gi_zpc_k hp (k := 0) rfl (by decide)
theorem c_addP (hp : 5 ≤ p) {a a' K K' j cap : Nat} (ha : a = p + K) (ha' : a' = p + K') (hK : K < 127) (hK' : K' < 127) (hKK : K ≠ K') (g : gr σ a 0 = some a') (l : ln a' = cap) (h1 : F K 1 = nI j) (hj : j < cap) (hcap : cap ≤ 1000) {v : Int32} {Q : zS → Prop} (hq : Q (zpc σ p f3 f4 (zf (zf F K' j v) K 1 (nI (j + 1))))) : wX9_add ln (zpc σ p f3 f4 F) a v Q := by
  have e1 : gi (zpc σ p f3 f4 F) a 1 = nI j := by rw [gi_zpc_k hp ha hK]; exact h1
  refine ⟨a', g, ?_⟩
  rw [l, e1]
  refine ⟨fun hx => absurd hx (nI_ge hj (by omega)), fun _ => ⟨a', g, fun x3 e3 => ?_⟩⟩
  subst e3
  refine ⟨by rw [l]; exact vp_in_nI hj (by omega), fun σ5 e5 x6 e6 σ7 e7 => ?_⟩
  rw [nI_clamp (by omega), si_zpc_k hp ha' hK'] at e5
  subst e5
  rw [gi_zpc_k hp ha hK, zf_ne hKK, h1, nI_1] at e6
  subst e6
  rw [si_zpc_k hp ha hK] at e7
  subst e7
  exact hq
theorem c_99z {τ : zS} {Q : Int32 → zS → Prop} (h : Q 0 τ) : wX5_statement_99 ln Q 3 0 τ := ⟨fun _ => h, fun x => absurd rfl x⟩
theorem c_99 (hp : 5 ≤ p) (G : zTg (gr σ) ln) (T : zTc σ c n) (hqn : q ≤ n) (ho : f3 1 = nI o) (t : tok f4 c n q) (P : zPn F r) {Q : Int32 → zS → Prop} (hR : cR σ p c n Q (pSemi c n r o q)) : wX5_statement_99 ln Q 3 1 (zpc σ p f3 f4 F) := by
  have hE := tE_le1 c hqn
  have hn := T.1
  refine ⟨fun x => absurd x (by decide), fun _ => c_semi hp G T (q := tE c n q) (by omega) t.2.2 (fun h f4' g1 => ⟨fun _ => hR.1 (tS c n (tE c n q)) ?_ _ _ _ g1, fun x => absurd rfl x⟩) (fun h f4' g => ⟨fun x => absurd x (by decide), fun _ => hR.2 r o (tE c n q) ?_ _ _ _ ho g P⟩)⟩
  · unfold pSemi; rw [if_neg h]
  · unfold pSemi; rw [if_pos h]
theorem c_setk (hp : 5 ≤ p) (G : zTg (gr σ) ln) (T : zTc σ c n) {k : Nat} {lo hi : Int32} (hk : k ≤ 4) (hlo : 0 ≤ lo.toInt) (hqn : q ≤ n) (ho : f3 1 = nI o) (t : tok f4 c n q) (P : zPn F r) {Q : Int32 → zS → Prop} (hR : cR σ p c n Q (pSet c n k lo hi r o q)) : wX5_takeNumber ln (zpc σ p f3 f4 F) 3 lo hi (fun r36 σ35 => ∀ x37 : Int32, x37 = gi σ35 3 2 → ∀ σ38 : zS, σ38 = si σ35 p k x37 → zB1 r36 ∧ wX5_statement_99 ln Q 3 r36 σ38) := by
  have hE := tE_le1 c hqn
  have hn := T.1
  refine c_takeNumber hp G T (q := tE c n q) (by omega) t.2.2 hlo (fun hx f3' f4' g3 g4 x37 e37 σ38 e38 => ?_) (fun hy f3' f4' g3 g2 t' x37 e37 σ38 e38 => ?_)
  · rw [gi_zpc_3] at e37
    subst e37
    rw [si_zpc_0 hp] at e38
    subst e38
    refine ⟨Or.inl rfl, c_99z (hR.1 (tS c n (tE c n q)) ?_ _ _ _ g4)⟩
    unfold pSet
    rw [if_neg (fun h => hx (pNb_t.mp h))]
  · rw [gi_zpc_3, g2] at e37
    subst e37
    rw [si_zpc_0 hp] at e38
    subst e38
    have e : pSet c n k lo hi r o q = pSemi c n (zu r k (tV c n (tE c n q))) o (tE c n q) := by
      unfold pSet
      rw [if_pos (pNb_t.mpr hy)]
    rw [e] at hR
    have h2 := tE_le (c := c) (n := n) (q := tE c n q) (by rw [hy.1]; decide)
    have h3 := tS_ge c n (tE c n q)
    exact ⟨Or.inr rfl, c_99 hp G T (q := tE c n q) (by omega) (by rw [g3 1 (by decide)]; exact ho) t' (zPn_u P hk) hR⟩
theorem c_wheel (hp : 5 ≤ p) (G : zTg (gr σ) ln) (T : zTc σ c n) (hqn : q ≤ n) (ho : f3 1 = nI o) (t : tok f4 c n q) (P : zPn F r) {Q : Int32 → zS → Prop} (hR : cR σ p c n Q (pSet c n 0 6 28 r o q)) : wX5_wheel ln (zpc σ p f3 f4 F) 3 p (fun r26 σ25 => ((r26 = 0 → wX5_statement_99 ln Q 3 0 σ25) ∧ (¬ r26 = 0 → wX5_statement_99 ln Q 3 1 σ25))) := by
  have hE := tE_le1 c hqn
  have hn := T.1
  refine c_takeNumber hp G T (q := tE c n q) (by omega) t.2.2 (by decide) (fun hx f3' f4' g3 g4 => ⟨fun _ => ⟨fun _ => c_99z (hR.1 (tS c n (tE c n q)) ?_ _ _ _ g4), fun x => absurd rfl x⟩, fun x => absurd rfl x⟩) (fun hy f3' f4' g3 g2 t' => ⟨fun x => absurd x (by decide), fun _ x3 e3 σ4 e4 => ⟨fun x => absurd x (by decide), fun _ => ?_⟩⟩)
  · unfold pSet
    rw [if_neg (fun h => hx (pNb_t.mp h))]
  · rw [gi_zpc_3, g2] at e3
    subst e3
    rw [si_zpc_0 hp] at e4
    subst e4
    have e : pSet c n 0 6 28 r o q = pSemi c n (zu r 0 (tV c n (tE c n q))) o (tE c n q) := by
      unfold pSet
      rw [if_pos (pNb_t.mpr hy)]
    rw [e] at hR
    have h2 := tE_le (c := c) (n := n) (q := tE c n q) (by rw [hy.1]; decide)
    have h3 := tS_ge c n (tE c n q)
    exact c_99 hp G T (q := tE c n q) (by omega) (by rw [g3 1 (by decide)]; exact ho) t' (zPn_u P (by decide)) hR
theorem c_deskP (PS : zPs (gr σ) ln p) {v : Nat} (hv : v < 2) {x : Int32} (hx : x = nI v) {Q : Nat → zS → Prop} (hq : Q (p + (3 + 62 * v)) (zpc σ p f3 f4 F)) : wX6_desk ln (zpc σ p f3 f4 F) p x Q := by
  subst hx
  rcases (show v = 0 ∨ v = 1 by omega) with rfl | rfl
  · exact ⟨fun x => absurd x (by decide), fun _ => ⟨p + 3, PS.2.1.1, hq⟩⟩
  · exact ⟨fun _ => ⟨p + 65, PS.2.1.2, hq⟩, fun x => absurd rfl x⟩
theorem c_offst (hp : 5 ≤ p) (G : zTg (gr σ) ln) (T : zTc σ c n) (PS : zPs (gr σ) ln p) (V : zPV r o) (hqn : q ≤ n) (ho : f3 1 = nI o) (t : tok f4 c n q) (P : zPn F r) {Q : Int32 → zS → Prop} (hR : cR σ p c n Q (pOff c n r o q)) : wX5_office ln (zpc σ p f3 f4 F) 3 p (fun r23 σ22 => wX5_statement_99 ln Q 3 r23 σ22) := by
  have hE := tE_le1 c hqn
  have hn := T.1
  have ho2 := V.2.2.2.2.2
  unfold wX5_office
  rw [gi_zpc_3, ho]
  refine ⟨fun hx => c_99z (hR.1 (tS c n q) ?_ _ _ _ t.2.1), fun hx => ?_⟩
  · have := (nI_leI (a := 2) (b := o) (by decide) (by omega)).mp hx
    unfold pOff
    rw [if_pos this]
  have ho3 : o < 2 := by
    rcases Nat.lt_or_ge o 2 with h | h
    · exact h
    · exact absurd (nI_le h (by omega)) hx
  have e0 : gi (zpc σ p f3 f4 F) p 0 = r 0 := by rw [gi_zpc_0 hp]; exact P.1.1
  intro x3 e3
  rw [e0] at e3
  subst e3
  refine c_takeNumber hp G T (q := tE c n q) (by omega) t.2.2 (by decide) (fun hx f3' f4' g3 g4 => ⟨fun _ => c_99z (hR.1 (tS c n (tE c n q)) ?_ _ _ _ g4), fun x => absurd rfl x⟩) (fun hy f3' f4' g3 g2 t' => ⟨fun x => absurd x (by decide), fun _ x6 e6 => ?_⟩)
  · unfold pOff
    rw [if_neg (by omega), if_neg (fun h => hx (pNb_t.mp h))]
  rw [gi_zpc_3, g3 1 (by decide), ho] at e6
  refine c_deskP PS ho3 e6 (fun x9 e9 σ10 e10 => ?_)
  rw [gi_zpc_3, g2] at e9
  subst e9
  rw [si_zpc_k hp (k := 3 + 62 * o) rfl (by omega)] at e10
  subst e10
  have h2 := tE_le (c := c) (n := n) (q := tE c n q) (by rw [hy.1]; decide)
  have h3 := tS_ge c n (tE c n q)
  refine c_takeNumber hp G T (q := tE c n (tE c n q)) (by omega) t'.2.2 (by decide) (fun hx f3'' f4'' k3 k4 => ⟨fun _ => c_99z (hR.1 (tS c n (tE c n (tE c n q))) ?_ _ _ _ k4), fun x => absurd rfl x⟩) (fun hz f3'' f4'' k3 k2 t'' => ⟨fun x => absurd x (by decide), fun _ x13 e13 σ14 e14 x15 e15 σ16 e16 => ?_⟩)
  · unfold pOff
    rw [if_neg (by omega), if_pos (pNb_t.mpr hy), if_neg (fun h => hx (pNb_t.mp h))]
  rw [gi_zpc_3, k2] at e13
  subst e13
  rw [si_zpc_k hp (k := 3 + 62 * o) rfl (by omega)] at e14
  subst e14
  rw [gi_zpc_3, k3 1 (by decide), g3 1 (by decide), ho, nI_1] at e15
  subst e15
  rw [si_zpc_3] at e16
  subst e16
  have e : pOff c n r o q = pSemi c n (zu (zu r (21 + o) (tV c n (tE c n q))) (23 + o) (tV c n (tE c n (tE c n q)))) (o + 1) (tE c n (tE c n q)) := by
    unfold pOff
    rw [if_neg (by omega), if_pos (pNb_t.mpr hy), if_pos (pNb_t.mpr hz)]
  rw [e] at hR
  have h4 := tE_le (c := c) (n := n) (q := tE c n (tE c n q)) (by rw [hz.1]; decide)
  have h5 := tS_ge c n (tE c n (tE c n q))
  have P1 := zPn_o (o := o) (i := 0) (x := tV c n (tE c n q)) P ho3 (by decide)
  have P2 := zPn_o (o := o) (i := 1) (x := tV c n (tE c n (tE c n q))) P1 ho3 (by decide)
  have P3 : zPn (zf (zf F (3 + 62 * o) 0 (tV c n (tE c n q))) (3 + 62 * o) 1 (tV c n (tE c n (tE c n q)))) (zu (zu r (21 + o) (tV c n (tE c n q))) (23 + o) (tV c n (tE c n (tE c n q)))) := P2
  exact c_99 hp G T (q := tE c n (tE c n q)) (by omega) (by rw [zu_self]) t'' P3 hR
theorem c_loss (hp : 5 ≤ p) (G : zTg (gr σ) ln) (T : zTc σ c n) (PS : zPs (gr σ) ln p) (V : zPV r o) (hqn : q ≤ n) (ho : f3 1 = nI o) (t : tok f4 c n q) (P : zPn F r) {Q : Int32 → zS → Prop} (hR : cR σ p c n Q (pLos c n r o q)) : wX5_loss ln (zpc σ p f3 f4 F) 3 p (fun r20 σ19 => wX5_statement_99 ln Q 3 r20 σ19) := by
  have hE := tE_le1 c hqn
  have hn := T.1
  have h20 := V.2.1
  have c20 := ncl h20.1
  obtain ⟨m, hm⟩ : ∃ m, m = (r 20).toNatClampNeg := ⟨_, rfl⟩
  have em : r 20 = nI m := by rw [neq, nI_toInt (by omega)]; omega
  have l20 : (20 : Int32).toInt = 20 := rfl
  have e1 : gi (zpc σ p f3 f4 F) (p + 1) 1 = r 20 := by rw [gi_zpc_k hp (k := 1) rfl (by omega)]; exact P.2.1.1
  refine ⟨p + 1, PS.1.1, ?_⟩
  unfold wX9_size
  rw [e1]
  refine ⟨fun hx => c_99z (hR.1 (tS c n q) ?_ _ _ _ t.2.1), fun hx => ?_⟩
  · rw [nle, l20] at hx
    unfold pLos
    rw [if_pos hx]
  rw [nle, l20] at hx
  refine c_takeNumber hp G T (q := tE c n q) (by omega) t.2.2 (by decide) (fun hx2 f3' f4' g3 g4 => ⟨fun _ => c_99z (hR.1 (tS c n (tE c n q)) ?_ _ _ _ g4), fun x => absurd rfl x⟩) (fun hy f3' f4' g3 g2 t' => ⟨fun x => absurd x (by decide), fun _ => ⟨p + 1, PS.1.1, fun x7 e7 => ?_⟩⟩)
  · unfold pLos
    rw [if_neg hx, if_neg (fun h => hx2 (pNb_t.mp h))]
  rw [gi_zpc_3, g2] at e7
  subst e7
  refine c_addP hp (K := 1) (K' := 2) (j := m) (cap := 20) rfl rfl (by decide) (by decide) (by decide) PS.1.2.1 PS.1.2.2 (by rw [P.2.1.1]; exact em) (by omega) (by decide) ?_
  have e : pLos c n r o q = pSemi c n (rLose r (tV c n (tE c n q))) o (tE c n q) := by
    unfold pLos
    rw [if_neg hx, if_pos (pNb_t.mpr hy)]
  rw [e] at hR
  have h2 := tE_le (c := c) (n := n) (q := tE c n q) (by rw [hy.1]; decide)
  have h3 := tS_ge c n (tE c n q)
  exact c_99 hp G T (q := tE c n q) (by omega) (by rw [g3 1 (by decide)]; exact ho) t' (zPn_l P em (by omega)) hR
end ZCST

/-! from 98i.cmsg -/
/-! THE CLASS READS: messages -/
section ZCMSG
variable {ln : Nat → Nat} {σ : zS} {p : Nat} {f3 f4 : Nat → Int32} {F : Nat → Nat → Int32} {c : Nat → Int32} {n : Nat} {r : zRow} {o q : Nat}
theorem zPs_d (PS : zPs (gr σ) ln p) {v : Nat} (hv : v < 2) : gr σ (p + (3 + 62 * v)) 3 = some (p + 4 + 62 * v) ∧ ln (p + 4 + 62 * v) = 12 := by
  obtain ⟨-, -, ⟨h1, h2, h3, h4⟩, -⟩ := PS
  rcases (show v = 0 ∨ v = 1 by omega) with rfl | rfl
  · exact ⟨h1, h3⟩
  · exact ⟨h2, h4⟩
theorem c_lineP (hp : 5 ≤ p) (PS : zPs (gr σ) ln p) {v k M : Nat} (hv : v < 2) (hM : F (3 + 62 * v) 2 = nI M) (hk : k < M) (hM2 : M ≤ 12) {x : Int32} (hx : x = nI k) {Q : Option Nat → zS → Prop} (hq : Q (some (p + 5 + 62 * v + 5 * k)) (zpc σ p f3 f4 F)) : wX0_line ln (zpc σ p f3 f4 F) (p + (3 + 62 * v)) x Q := by
  subst hx
  obtain ⟨d1, d2⟩ := zPs_d PS hv
  obtain ⟨-, -, -, pk⟩ := PS
  have e2 : gi (zpc σ p f3 f4 F) (p + (3 + 62 * v)) 2 = nI M := by rw [gi_zpc_k hp (k := 3 + 62 * v) rfl (by omega)]; exact hM
  refine ⟨fun h => absurd h (nI_pos (by omega)), fun _ => ?_⟩
  rw [e2]
  refine ⟨fun h => absurd h (nI_ge hk (by omega)), fun _ => ⟨p + 4 + 62 * v, d1, ?_⟩⟩
  rw [d2]
  refine ⟨fun h => absurd h (nI_ge (by omega) (by omega)), fun _ => ⟨p + 4 + 62 * v, d1, ?_⟩⟩
  rw [d2]
  refine ⟨vp_in_nI (by omega) (by omega), p + 5 + 62 * v + 5 * k, ?_, hq⟩
  rw [nI_clamp (by omega)]
  exact (pk v hv k (by omega)).1
theorem c_addLine (hp : 5 ≤ p) (PS : zPs (gr σ) ln p) {v L : Nat} (hv : v < 2) (hL : F (3 + 62 * v) 2 = nI L) (hL2 : L ≤ 12) {Q : Int32 → zS → Prop} (h0 : 12 ≤ L → Q 0 (zpc σ p f3 f4 F)) (h1 : L < 12 → Q 1 (zpc σ p f3 f4 (zf (zf F (3 + 62 * v) 2 (nI (L + 1))) (6 + 62 * v + 5 * L) 1 0))) : wX0_addLine ln (zpc σ p f3 f4 F) (p + (3 + 62 * v)) Q := by
  obtain ⟨d1, d2⟩ := zPs_d PS hv
  have e2 : gi (zpc σ p f3 f4 F) (p + (3 + 62 * v)) 2 = nI L := by rw [gi_zpc_k hp (k := 3 + 62 * v) rfl (by omega)]; exact hL
  refine ⟨p + 4 + 62 * v, d1, ?_⟩
  rw [d2, e2]
  refine ⟨fun hx x2 hx2 σ3 e3 x4 e4 => ?_, fun hx => h0 ?_⟩
  · have hlt : L < 12 := (nI_ltI (by omega) (by omega)).mp hx
    rw [nI_1] at hx2
    subst hx2
    rw [si_zpc_k hp (k := 3 + 62 * v) rfl (by omega)] at e3
    subst e3
    rw [gi_zpc_k hp (k := 3 + 62 * v) rfl (by omega), zf_ap, if_pos rfl, if_pos rfl, nI_pred] at e4
    refine c_lineP hp PS hv (M := L + 1) (k := L) (by rw [zf_ap, if_pos rfl, if_pos rfl]) (by omega) (by omega) e4 ⟨(fun h => nomatch h), fun j7 h7 => ?_⟩
    cases h7
    refine ⟨p + 6 + 62 * v + 5 * L, (PS.2.2.2 v hv L hlt).2.1, fun σ9 e9 => ?_⟩
    rw [si_zpc_k hp (k := 6 + 62 * v + 5 * L) (by omega) (by omega)] at e9
    subst e9
    exact h1 hlt
  · rcases Nat.lt_or_ge L 12 with h | h
    · exact absurd (nI_lt h (by omega)) hx
    · exact h
theorem c_wheelIndex {τ : zS} {x : Int32} (hx : xK x = 1 ∨ xK x = 2) {Q : Int32 → zS → Prop} (hq : Q (zidx x) τ) : wX2_wheelIndex ln τ x Q := by
  have l57 : (57 : Int32).toInt = 57 := rfl
  have hc : (97 ≤ x.toInt ∧ x.toInt ≤ 122) ∨ (48 ≤ x.toInt ∧ x.toInt ≤ 57) := by
    unfold xK at hx
    by_cases h1 : 97 ≤ x.toInt ∧ x.toInt ≤ 122
    · exact Or.inl h1
    · rw [if_neg h1] at hx
      by_cases h2 : 48 ≤ x.toInt ∧ x.toInt ≤ 57
      · exact Or.inr h2
      · rw [if_neg h2] at hx
        by_cases h3 : x = 59
        · rw [if_pos h3] at hx
          rcases hx with h | h <;> exact absurd h (by decide)
        · rw [if_neg h3] at hx
          by_cases h4 : x = 47
          · rw [if_pos h4] at hx
            rcases hx with h | h <;> exact absurd h (by decide)
          · rw [if_neg h4] at hx
            rcases hx with h | h <;> exact absurd h (by decide)
  unfold zidx zdig at hq
  refine ⟨fun h => ?_, fun h => ?_⟩
  · rw [nlt, l57] at h
    rw [decide_eq_false (by omega), if_neg (by decide)] at hq
    exact hq
  · rw [nlt, l57] at h
    rw [decide_eq_true (by omega), if_pos rfl] at hq
    exact hq
theorem c_item80 (hp : 5 ≤ p) (G : zTg (gr σ) ln) (T : zTc σ c n) (PS : zPs (gr σ) ln p) (V : zPV r o) {v k s m L : Nat} (hv : v < 2) (hk : k < 12) (hM : (k : Int) < (r (25 + v)).toInt) (hL : r (219 + (12 * v + k)) = nI L) (hLm : L + m ≤ 30) (hsm : s + m ≤ n) (h1 : f4 1 = nI s) (h3 : f4 3 = nI (s + m)) (hc : ∀ j, j < m → xK (c (s + j)) = 1 ∨ xK (c (s + j)) = 2) {Q : Int32 → zS → Prop} (q1 : (∀ j, j < m → (zidx (c (s + j))).toInt < (r 0).toInt - 2) → ∀ F', zPn F' (pApp c s (12 * v + k) r m) → Q 1 (zpc σ p f3 f4 F')) (q0 : ¬ (∀ j, j < m → (zidx (c (s + j))).toInt < (r 0).toInt - 2) → ∀ F', Q 0 (zpc σ p f3 f4 F')) : ∀ (d i : Nat) (F : Nat → Nat → Int32), i + d = m → zPn F (pApp c s (12 * v + k) r i) → (∀ j, j < i → (zidx (c (s + j))).toInt < (r 0).toInt - 2) → wX5_item_80 ln Q (d + 1) 3 (r 0) (p + 5 + 62 * v + 5 * k) (nI i) (zpc σ p f3 f4 F)
  | 0, i, F, hd, P, hf => by
    have hn := T.1
    rw [wX5_item_80]
    refine ⟨4, G.2.1, ?_⟩
    unfold wX10_length
    rw [gi_zpc_4, h1, h3, show nI (s + m) - nI s = nI (s + m - s) from pk_sub (Nat.le_add_right _ _), show s + m - s = m by omega]
    obtain rfl : i = m := by omega
    exact ⟨fun _ => q1 hf F P, fun hx => absurd (nI_le (Nat.le_refl _) (by omega)) hx⟩
  | d + 1, i, F, hd, P, hf => by
    have hn := T.1
    have l2 : (2 : Int32).toInt = 2 := rfl
    have hN0 := V.1.1
    have a24 : 12 * v + k < 24 := by omega
    have PA := pApp_at (c := c) (s := s) a24 hL i (by omega)
    have eL : pApp c s (12 * v + k) r i (219 + (12 * v + k)) = nI (L + i) := by rw [PA, if_pos rfl]
    rw [wX5_item_80]
    refine ⟨4, G.2.1, ?_⟩
    unfold wX10_length
    rw [gi_zpc_4, h1, h3, show nI (s + m) - nI s = nI (s + m - s) from pk_sub (Nat.le_add_right _ _), show s + m - s = m by omega]
    refine ⟨fun hx => absurd hx (nI_ge (by omega) (by omega)), fun _ => ⟨4, G.2.1, 1, G.2.2.1, fun x2 e2 => ?_⟩⟩
    rw [gi_zpc_4, h1, nI_plus] at e2
    refine c_getZ hp G T (k := s + i) (by omega) e2 ?_
    rw [if_pos (by omega)]
    refine c_wheelIndex (hc i (by omega)) ?_
    rw [nlt, nsub (by rw [l2]; omega) (by rw [l2]; omega), l2]
    refine ⟨fun hx => ⟨p + 6 + 62 * v + 5 * k, (PS.2.2.2 v hv k hk).2.1, ?_⟩, fun hx => q0 (fun h => hx (h i (by omega))) F⟩
    have hk9 : (k : Int) < (pApp c s (12 * v + k) r i (25 + v)).toInt := by
      rw [PA, if_neg (by omega), if_neg (by omega)]
      exact hM
    have VI : zPV (pApp c s (12 * v + k) r i) o := pv_app V a24 (by rw [hL, nI_toInt (by omega)]; omega) (fun j hj => ⟨hf j hj, hc j (by omega)⟩)
    have f1 : F (6 + 62 * v + 5 * k) 1 = nI (L + i) := (P.2.2.2 v hv k hk hk9).1.trans eL
    refine c_addP hp (K := 6 + 62 * v + 5 * k) (K' := 7 + 62 * v + 5 * k) (j := L + i) (cap := 30) (by omega) (by omega) (by omega) (by omega) (by omega) (PS.2.2.2 v hv k hk).2.2.1 (PS.2.2.2 v hv k hk).2.2.2.2.2.1 f1 (by omega) (by decide) ?_
    intro x11 e11
    rw [nI_1] at e11
    subst e11
    refine c_item80 hp G T PS V hv hk hM hL hLm hsm h1 h3 hc q1 q0 d (i + 1) _ (by omega) ?_ (fun j hj => ?_)
    · rw [pApp, eL, nI_1, nI_clamp (by omega)]
      exact zPn_a P VI.2.1.2 hv hk eL (by omega) (fun a ha => (VI.2.2.2.1 a ha).1.2)
    · by_cases e : j = i
      · subst e; exact hx
      · exact hf j (by omega)
/-- an item -/
theorem c_itemst (hp : 5 ≤ p) (G : zTg (gr σ) ln) (T : zTc σ c n) (PS : zPs (gr σ) ln p) (V : zPV r o) {v : Nat} (hv : v < 2) (hM1 : 1 ≤ (r (25 + v)).toInt) (t : tok f4 c n q) (P : zPn F r) {Q : Int32 → zS → Prop} (h4 : tK c n q = 4 → 12 ≤ (r (25 + v)).toInt → Q 0 (zpc σ p f3 f4 F)) (h4' : tK c n q = 4 → ¬ 12 ≤ (r (25 + v)).toInt → ∀ F', zPn F' (pNew r v) → Q 1 (zpc σ p f3 f4 F')) (h1 : tK c n q = 1 ∨ tK c n q = 2 → pItb c n r v q = true → ∀ F', zPn F' (pApp c (tS c n q) (pLn r v) r (tE c n q - tS c n q)) → Q 1 (zpc σ p f3 f4 F')) (h1' : tK c n q = 1 ∨ tK c n q = 2 → ¬ pItb c n r v q = true → ∀ F', Q 0 (zpc σ p f3 f4 F')) (h0 : ¬ tK c n q = 4 → ¬ (tK c n q = 1 ∨ tK c n q = 2) → Q 0 (zpc σ p f3 f4 F)) : wX5_item ln (zpc σ p f3 f4 F) 3 (p + (3 + 62 * v)) (r 0) Q := by
  have hn := T.1
  have hM := (V.2.2.1 v hv).2.2
  have cM := ncl hM.1
  obtain ⟨M, eM⟩ : ∃ M, M = (r (25 + v)).toNatClampNeg := ⟨_, rfl⟩
  have rM : r (25 + v) = nI M := by rw [neq, nI_toInt (by omega)]; omega
  have fM : F (3 + 62 * v) 2 = nI M := (P.2.2.1 v hv).2.2.trans rM
  have M12 : M ≤ 12 := by omega
  have M1 : 1 ≤ M := by omega
  refine ⟨4, G.2.1, ?_⟩
  rw [gi_zpc_4, t.1]
  refine ⟨fun hk => c_addLine hp PS hv fM M12 (fun h => ⟨Or.inl rfl, h4 hk (by omega)⟩) (fun h => ⟨Or.inr rfl, h4' hk (by omega) _ (zPn_n P V.2.1.2 hv rM h)⟩), fun hk4 x2 e2 => ?_⟩
  rw [gi_zpc_k hp (k := 3 + 62 * v) rfl (by omega), fM, show nI M - 1 = nI (M - 1) from pk_sub (a := M) (b := 1) M1] at e2
  refine c_lineP hp PS hv fM (k := M - 1) (by omega) M12 e2 ⟨(fun h => nomatch h), fun j5 h5 => ?_⟩
  cases h5
  have hln : pLn r v = 12 * v + (M - 1) := by unfold pLn; rw [← eM]
  have a24 : 12 * v + (M - 1) < 24 := by omega
  have hLb := (V.2.2.2.1 _ a24).1
  have cL := ncl hLb.1
  obtain ⟨L, eL⟩ : ∃ L, L = (r (219 + (12 * v + (M - 1)))).toNatClampNeg := ⟨_, rfl⟩
  have rL : r (219 + (12 * v + (M - 1))) = nI L := by rw [neq, nI_toInt (by omega)]; omega
  have fL : F (6 + 62 * v + 5 * (M - 1)) 1 = nI L := (P.2.2.2 v hv (M - 1) (by omega) (by omega)).1.trans rL
  have hSE := tE_gt c n q
  have key : tK c n q = 1 ∨ tK c n q = 2 → wX5_item_55 ln Q 3 (r 0) (p + 5 + 62 * v + 5 * (M - 1)) (zpc σ p f3 f4 F) := fun hk => by
    obtain ⟨k1, k2, k3, k4, k5⟩ := tK_run (k := tK c n q) hk rfl
    have hE := tE_le (c := c) (n := n) (q := q) (by rcases hk with h | h <;> rw [h] <;> decide)
    refine ⟨p + 6 + 62 * v + 5 * (M - 1), (PS.2.2.2 v hv (M - 1) (by omega)).2.1, ?_⟩
    unfold wX9_size wX10_length
    refine ⟨4, G.2.1, ?_⟩
    rw [gi_zpc_k hp (k := 6 + 62 * v + 5 * (M - 1)) (by omega) (by omega), fL, gi_zpc_4, t.2.1, t.2.2, show nI (tE c n q) - nI (tS c n q) = nI (tE c n q - tS c n q) from pk_sub (Nat.le_of_lt hSE)]
    dsimp only
    rw [nI_plus]
    have iff := pItb_t (c := c) (n := n) (r := r) (v := v) (q := q)
    rw [hln, rL, nI_toInt (by omega)] at iff
    rw [hln] at h1
    refine ⟨fun hx => ⟨tE c n q - tS c n q + 1, ?_⟩, fun hx => h1' hk (fun hb => ?_) F⟩
    · have hlm : L + (tE c n q - tS c n q) ≤ 30 := (nI_leI (a := L + (tE c n q - tS c n q)) (b := 30) (by omega) (by omega)).mp hx
      refine c_item80 (o := o) (s := tS c n q) (m := tE c n q - tS c n q) (L := L) hp G T PS V hv (by omega) (by omega) rL hlm (by omega) t.2.1 (by rw [t.2.2]; congr 1; omega) (fun j hj => by rw [k5 _ (by omega) (by omega)]; exact hk) (fun hf F' P' => h1 hk (iff.mpr ⟨hf, by omega⟩) F' P') (fun hf F' => h1' hk (fun hb => hf (iff.mp hb).1) F') (tE c n q - tS c n q) 0 F (by omega) P (fun j hj => absurd hj (Nat.not_lt_zero j))
    · have := (iff.mp hb).2
      exact hx (nI_le (a := L + (tE c n q - tS c n q)) (b := 30) (by omega) (by omega))
  refine ⟨4, G.2.1, ?_⟩
  rw [gi_zpc_4, t.1]
  refine ⟨fun h => key (Or.inl h), fun hn1 => ⟨4, G.2.1, ?_⟩⟩
  rw [gi_zpc_4, t.1]
  exact ⟨fun h => key (Or.inr h), fun hn2 => h0 hk4 (fun h => h.elim hn1 hn2)⟩
theorem c_items (hp : 5 ≤ p) (G : zTg (gr σ) ln) (T : zTc σ c n) (PS : zPs (gr σ) ln p) {v : Nat} (hv : v < 2) {Q : Int32 → zS → Prop} : ∀ (d i q : Nat) (f : Bool) (r : zRow) (f3 f4 : Nat → Int32) (F : Nat → Nat → Int32), n + 1 ≤ q + d → i + 2 ≤ q → q ≤ n → (f = true ↔ i = 0) → zPV r o → 1 ≤ (r (25 + v)).toInt → f3 1 = nI o → tok f4 c n q → zPn F r → cR σ p c n Q (pMsg2 o (pIts c n v d f r q)) → wX5_message_38 ln (fun r31 σ30 => zB1 r31 ∧ Q r31 σ30) (d + 1) 3 p (p + (3 + 62 * v)) (nI i) (zpc σ p f3 f4 F)
  | 0, i, q, f, r, f3, f4, F, hd, hi, hqn, hf, V, hM1, ho, t, P, hR => absurd hd (by omega)
  | d + 1, i, q, f, r, f3, f4, F, hd, hi, hqn, hf, V, hM1, ho, t, P, hR => by
    have hn := T.1
    have hEq := tE_q (c := c) (n := n) q
    rw [wX5_message_38]
    rw [pIts] at hR
    refine ⟨fun hx => absurd hx (nI_ge (a := i) (b := 600) (by omega) (by omega)), fun _ => ⟨4, G.2.1, ?_⟩⟩
    rw [gi_zpc_4, t.1]
    refine ⟨fun hk => ?_, fun hk x2 e2 => ?_⟩
    · rw [if_pos hk] at hR
      by_cases hi0 : i = 0
      · rw [if_pos (hf.mpr hi0)] at hR
        subst hi0
        exact ⟨fun _ => ⟨Or.inl rfl, hR.1 _ rfl _ _ _ t.2.1⟩, fun hx => absurd (by decide) hx⟩
      · rw [if_neg (fun h => hi0 (hf.mp h))] at hR
        exact ⟨fun hx => absurd ((nI_leI (a := i) (b := 0) (by omega) (by omega)).mp hx) (by omega), fun _ => ⟨Or.inr rfl, hR.2 _ _ _ rfl _ _ _ ho t P⟩⟩
    · rw [if_neg hk] at hR
      have e0 : gi (zpc σ p f3 f4 F) p 0 = r 0 := by rw [gi_zpc_0 hp]; exact P.1.1
      rw [e0] at e2
      subst e2
      refine c_itemst hp G T PS V hv hM1 t P (fun k4 h12 => ⟨fun _ => ⟨Or.inl rfl, ?_⟩, fun x => absurd rfl x⟩) (fun k4 h12 F' P' => ⟨fun x => absurd x (by decide), fun _ x5 e5 => ⟨4, G.2.1, ?_⟩⟩) (fun k1 hb F' P' => ⟨fun x => absurd x (by decide), fun _ x5 e5 => ⟨4, G.2.1, ?_⟩⟩) (fun k1 hb F' => ⟨fun _ => ⟨Or.inl rfl, ?_⟩, fun x => absurd rfl x⟩) (fun k4 k1 => ⟨fun _ => ⟨Or.inl rfl, ?_⟩, fun x => absurd rfl x⟩)
      · rw [if_pos k4, if_pos h12] at hR
        exact hR.1 _ rfl _ _ _ t.2.1
      · rw [if_pos k4, if_neg h12] at hR
        have hE := tE_le (c := c) (n := n) (q := q) (by rw [k4]; decide)
        rw [nI_1] at e5
        subst e5
        have hM := (V.2.2.1 v hv).2.2
        have l1 : (1 : Int32).toInt = 1 := rfl
        refine c_take hp G T (q := tE c n q) (by omega) t.2.2 (fun f' a0 a1 a3 => ?_)
        refine c_items hp G T PS hv d (i + 1) (tE c n q) false (pNew r v) f3 f' F' (by omega) (by omega) hE.1 ⟨(fun h => nomatch h), fun h => absurd h (by omega)⟩ (pv_new V hv h12) ?_ ho ⟨a0, a1, a3⟩ P' hR
        unfold pNew
        rw [zu_self, nadd (by rw [l1]; omega) (by rw [l1]; omega), l1]; omega
      · have k4 : ¬ tK c n q = 4 := fun h => by
          rw [h] at k1
          rcases k1 with h | h <;> exact absurd h (by decide)
        rw [if_neg k4, if_pos k1, if_pos hb] at hR
        have hE := tE_le (c := c) (n := n) (q := q) (by rcases k1 with h | h <;> rw [h] <;> decide)
        rw [nI_1] at e5
        subst e5
        obtain ⟨b1, b2⟩ := pItb_t.mp hb
        obtain ⟨k1', k2, k3, k4', k5⟩ := tK_run (k := tK c n q) k1 rfl
        have a24 := pLn_lt V hv
        have hlb := (V.2.2.2.1 _ a24).1
        have cl := ncl hlb.1
        have eL : r (219 + pLn r v) = nI (r (219 + pLn r v)).toNatClampNeg := by rw [neq, nI_toInt (by omega)]; omega
        refine c_take hp G T (q := tE c n q) (by omega) t.2.2 (fun f' a0 a1 a3 => ?_)
        refine c_items hp G T PS hv d (i + 1) (tE c n q) false _ f3 f' F' (by omega) (by omega) hE.1 ⟨(fun h => nomatch h), fun h => absurd h (by omega)⟩ (pv_app (c := c) (s := tS c n q) V a24 b2 (fun j hj => ⟨b1 j hj, by rw [k5 _ (by omega) (by omega)]; exact k1⟩)) ?_ ho ⟨a0, a1, a3⟩ P' hR
        rw [pApp_at a24 eL _ (by omega), if_neg (by omega), if_neg (by omega)]
        exact hM1
      · have k4 : ¬ tK c n q = 4 := fun h => by
          rw [h] at k1
          rcases k1 with h | h <;> exact absurd h (by decide)
        rw [if_neg k4, if_pos k1, if_neg hb] at hR
        exact hR.1 _ rfl _ _ _ t.2.1
      · rw [if_neg k4, if_neg k1] at hR
        exact hR.1 _ rfl _ _ _ t.2.1
theorem c_msgst (hp : 5 ≤ p) (G : zTg (gr σ) ln) (T : zTc σ c n) (PS : zPs (gr σ) ln p) (V : zPV r o) (hqn : q ≤ n) (ho : f3 1 = nI o) (t : tok f4 c n q) (P : zPn F r) {Q : Int32 → zS → Prop} (hR : cR σ p c n Q (pMsg c n r o q)) : wX5_message ln (zpc σ p f3 f4 F) 3 p (fun r31 σ30 => zB1 r31 ∧ Q r31 σ30) := by
  have hE := tE_le1 c hqn
  have hn := T.1
  have g0 := tE_q (c := c) (n := n) q
  refine c_takeNumber hp G T (q := tE c n q) (by omega) t.2.2 (by decide) (fun hx f3' f4' g3 g4 => ⟨fun _ => ⟨Or.inl rfl, hR.1 (tS c n (tE c n q)) ?_ _ _ _ g4⟩, fun x => absurd rfl x⟩) (fun hy f3' f4' g3 g2 t' => ⟨fun x => absurd x (by decide), fun _ x3 e3 => ?_⟩)
  · unfold pMsg
    rw [if_neg (fun h => hx (pNb_t.mp h))]
  have y2 := hy.2.1
  have y3 := hy.2.2
  have z0 : (0 : Int32).toInt = 0 := rfl
  have z1 : (1 : Int32).toInt = 1 := rfl
  have c0 := ncl (a := tV c n (tE c n q)) (by omega)
  obtain ⟨v, ev⟩ : ∃ v, v = (tV c n (tE c n q)).toNatClampNeg := ⟨_, rfl⟩
  have rv : tV c n (tE c n q) = nI v := by rw [neq, nI_toInt (by omega)]; omega
  have hv : v < 2 := by omega
  rw [gi_zpc_3, g2, rv] at e3
  have hE2 := tE_le (c := c) (n := n) (q := tE c n q) (by rw [hy.1]; decide)
  have g1 := tE_q (c := c) (n := n) (tE c n q)
  have hM := (V.2.2.1 v hv).2.2
  have cM := ncl hM.1
  obtain ⟨M, eM⟩ : ∃ M, M = (r (25 + v)).toNatClampNeg := ⟨_, rfl⟩
  have rM : r (25 + v) = nI M := by rw [neq, nI_toInt (by omega)]; omega
  have fM : F (3 + 62 * v) 2 = nI M := (P.2.2.1 v hv).2.2.trans rM
  have e : pMsg c n r o q = if 12 ≤ (r (25 + v)).toInt then .inl (tS c n (tE c n q)) else pMsg2 o (pIts c n v (n + 1) true (pNew r v) (tE c n (tE c n q))) := by
    unfold pMsg
    rw [if_pos (pNb_t.mpr hy), ← ev]
  rw [e] at hR
  refine c_deskP PS hv e3 (c_addLine hp PS hv fM (by omega) (fun h => ⟨fun _ => ⟨Or.inl rfl, ?_⟩, fun x => absurd rfl x⟩) (fun h => ⟨fun x => absurd x (by decide), fun _ => ⟨4, G.2.1, ?_⟩⟩))
  · rw [if_pos (by omega)] at hR
    exact hR.1 _ rfl _ _ _ t'.2.1
  · rw [if_neg (by omega)] at hR
    refine c_take hp G T (q := tE c n (tE c n q)) (by omega) t'.2.2 (fun f' a0 a1 a3 => ⟨n + 1 + 1, ?_⟩)
    have l1 : (1 : Int32).toInt = 1 := rfl
    refine c_items hp G T PS hv (n + 1) 0 (tE c n (tE c n q)) true (pNew r v) f3' f' _ (by omega) (by omega) hE2.1 ⟨fun _ => rfl, fun _ => rfl⟩ (pv_new V hv (by omega)) ?_ (by rw [g3 1 (by decide)]; exact ho) ⟨a0, a1, a3⟩ (zPn_n P V.2.1.2 hv rM h) hR
    unfold pNew
    rw [zu_self, nadd (by rw [l1]; omega) (by rw [l1]; omega), l1]; omega
end ZCMSG

/-! from 98j.cenc -/
/-! THE CLASS ENCODES its lines -/
theorem chk_e {N : Int32} (hN : 6 ≤ N.toInt ∧ N.toInt ≤ 28) {l : Nat} (hl : l < 1000) : mI (nI l).toInt (N - 2).toInt = nI l - nI l / (N - 2) * (N - 2) := by
  have e2 : (N - 2).toInt = N.toInt - 2 := nsub (b := 2) (by show _ ≤ N.toInt - 2; omega) (by show N.toInt - 2 < _; omega)
  have h0 := nI_toInt (n := l) (by omega)
  rw [neq, mIt (by omega) (by omega), nrem (by omega) (by omega)]
/-- a cell of pulses -/
def zPcel (b : Nat) : Prop := ∃ v k : Nat, v < 2 ∧ k < 12 ∧ (b = 8 + 62 * v + 5 * k ∨ b = 9 + 62 * v + 5 * k)
theorem zPcel_not {b : Nat} (h : b ≤ 3 ∨ b = 65 ∨ ∃ v k, v < 2 ∧ k < 12 ∧ (b = 6 + 62 * v + 5 * k ∨ b = 7 + 62 * v + 5 * k)) : ¬ zPcel b := by
  rintro ⟨v, k, hv, hk, e⟩
  rcases h with h | h | ⟨v', k', hv', hk', h⟩
  · omega
  · omega
  · omega
theorem zPn_p {F F' : Nat → Nat → Int32} {r : zRow} (h : zPn F r) (e : ∀ b, ¬ zPcel b → F' b = F b) : zPn F' r := by
  obtain ⟨⟨a0, a1, a2, a3, a4⟩, ⟨b1, b2⟩, d, l⟩ := h
  have e0 := e 0 (zPcel_not (Or.inl (by omega)))
  refine ⟨⟨by rw [e0]; exact a0, by rw [e0]; exact a1, by rw [e0]; exact a2, by rw [e0]; exact a3, by rw [e0]; exact a4⟩, ⟨by rw [e 1 (zPcel_not (Or.inl (by omega)))]; exact b1, fun j hj => by rw [e 2 (zPcel_not (Or.inl (by omega)))]; exact b2 j hj⟩, fun v hv => ?_, fun v hv k hk hlt => ?_⟩
  · rw [e (3 + 62 * v) (zPcel_not (by omega))]
    exact d v hv
  · rw [e _ (zPcel_not (Or.inr (Or.inr ⟨v, k, hv, hk, Or.inl rfl⟩))), e _ (zPcel_not (Or.inr (Or.inr ⟨v, k, hv, hk, Or.inr rfl⟩)))]
    exact l v hv k hk hlt
/-- the pulses of a line are the path of the row's line -/
def zPu (F : Nat → Nat → Int32) (r : zRow) (v k : Nat) : Prop := F (8 + 62 * v + 5 * k) 1 = nI (rPath r (12 * v + k)).length ∧ ∀ j, j < (rPath r (12 * v + k)).length → F (9 + 62 * v + 5 * k) j = (rPath r (12 * v + k)).getD j 0
section ZENC
variable {ln : Nat → Nat} {σ : zS} {p : Nat} {f3 f4 : Nat → Int32} {r : zRow} {o : Nat}
theorem getD_add {l : List Int32} {x : Int32} {g : Nat → Int32} (h : ∀ j, j < l.length → g j = l.getD j 0) : ∀ j, j < (l ++ [x]).length → zu g l.length x j = (l ++ [x]).getD j 0 := by
  intro k hk
  rw [List.length_append] at hk
  have hk : k < l.length + 1 := hk
  rw [zu_ap]
  by_cases e : k = l.length
  · rw [if_pos e, e, List.getD_eq_getElem?_getD, List.getElem?_append_right (Nat.le_refl _), Nat.sub_self]
    rfl
  · rw [if_neg e, h k (by omega), List.getD_eq_getElem?_getD, List.getD_eq_getElem?_getD, List.getElem?_append_left (by omega)]
/-- the line's pulses so far -/
def zPs0 (F0 F : Nat → Nat → Int32) (v k : Nat) (l : List Int32) : Prop := (∀ b, b ≠ 8 + 62 * v + 5 * k → b ≠ 9 + 62 * v + 5 * k → F b = F0 b) ∧ F (8 + 62 * v + 5 * k) 1 = nI l.length ∧ ∀ j, j < l.length → F (9 + 62 * v + 5 * k) j = l.getD j 0
theorem zPs0_add {F0 F : Nat → Nat → Int32} {v k : Nat} {l : List Int32} (h : zPs0 F0 F v k l) (x : Int32) : zPs0 F0 (zf (zf F (9 + 62 * v + 5 * k) l.length x) (8 + 62 * v + 5 * k) 1 (nI (l.length + 1))) v k (l ++ [x]) := by
  obtain ⟨h1, h2, h3⟩ := h
  refine ⟨fun b b1 b2 => by rw [zf_ne b1, zf_ne b2]; exact h1 b b1 b2, ?_, ?_⟩
  · rw [zf_ap, if_pos rfl, if_pos rfl, List.length_append]
    rfl
  · intro j hj
    rw [zf_ne (by omega), zf_eq]
    exact getD_add h3 j hj
theorem c_addPu (hp : 5 ≤ p) (PS : zPs (gr σ) ln p) {F0 F : Nat → Nat → Int32} {v k : Nat} (hv : v < 2) (hk : k < 12) {l : List Int32} (hl : l.length < 62) (h : zPs0 F0 F v k l) {x : Int32} {Q : zS → Prop} (hq : ∀ F', zPs0 F0 F' v k (l ++ [x]) → Q (zpc σ p f3 f4 F')) : wX9_add ln (zpc σ p f3 f4 F) (p + 8 + 62 * v + 5 * k) x Q :=
  c_addP hp (K := 8 + 62 * v + 5 * k) (K' := 9 + 62 * v + 5 * k) (a' := p + 9 + 62 * v + 5 * k) (j := l.length) (cap := 62) (by omega) (by omega) (by omega) (by omega) (by omega) (PS.2.2.2 v hv k hk).2.2.2.2.1 (PS.2.2.2 v hv k hk).2.2.2.2.2.2 h.2.1 hl (by decide) (hq _ (zPs0_add h x))
theorem c_encode11 (hp : 5 ≤ p) (PS : zPs (gr σ) ln p) (V : zPV r o) {F0 : Nat → Nat → Int32} (P : zPn F0 r) {v k len : Nat} (hv : v < 2) (hk : k < 12) (hM : (k : Int) < (r (25 + v)).toInt) (hlen : r (219 + (12 * v + k)) = nI len) (hl30 : len ≤ 30) {Q : zS → Prop} (hq : ∀ F', zPs0 F0 F' v k (rPath r (12 * v + k)) → Q (zpc σ p f3 f4 F')) : ∀ (d i : Nat) (F : Nat → Nat → Int32), i + d = len → zPs0 F0 F v k (zenc (rChr r (12 * v + k)) i).1 → wX2_encode_11 ln Q (d + 1) (p + 5 + 62 * v + 5 * k) (r 0) (zenc (rChr r (12 * v + k)) i).2 (nI i) (zpc σ p f3 f4 F)
  | 0, i, F, hd, h => by
    obtain rfl : i = len := by omega
    obtain ⟨pk0, pk1, pk2, pk3, pk4, pk5, pk6⟩ := PS.2.2.2 v hv k hk
    have hN := V.1.1
    have zl := zenc_len (rChr r (12 * v + k)) i
    have eS : F (6 + 62 * v + 5 * k) 1 = nI i := by rw [h.1 _ (by omega) (by omega), (P.2.2.2 v hv k hk hM).1]; exact hlen
    rw [wX2_encode_11]
    refine ⟨p + 6 + 62 * v + 5 * k, pk1, ?_⟩
    unfold wX9_size
    rw [gi_zpc_k hp (k := 6 + 62 * v + 5 * k) (by omega) (by omega), eS]
    refine ⟨fun _ => ⟨p + 8 + 62 * v + 5 * k, pk3, ?_⟩, fun hx => absurd (nI_le (Nat.le_refl _) (by omega)) hx⟩
    rw [gi_zpc_k hp (k := 8 + 62 * v + 5 * k) (by omega) (by omega), h.2.1]
    refine ⟨p + 8 + 62 * v + 5 * k, pk3, c_addPu hp PS hv hk (by omega) h (fun F1 h1 => ⟨p + 8 + 62 * v + 5 * k, pk3, ?_⟩)⟩
    intro x1 e1
    subst e1
    have e2 : (r 0 - 2).toInt = (r 0).toInt - 2 := nsub (b := 2) (by show _ ≤ (r 0).toInt - 2; omega) (by show (r 0).toInt - 2 < _; omega)
    refine wmodulo (by omega) ?_
    rw [chk_e hN (by omega)]
    refine c_addPu hp PS hv hk (by rw [List.length_append]; show (zenc (rChr r (12 * v + k)) i).1.length + 1 < 62; omega) h1 (fun F2 h2 => hq F2 ?_)
    have e : rPath r (12 * v + k) = zpath (rChr r (12 * v + k)) i (r 0) := by
      unfold rPath
      rw [hlen, nI_clamp (by omega)]
    rw [e]
    exact h2
  | d + 1, i, F, hd, h => by
    obtain ⟨pk0, pk1, pk2, pk3, pk4, pk5, pk6⟩ := PS.2.2.2 v hv k hk
    have zl := zenc_len (rChr r (12 * v + k)) i
    have eS : F (6 + 62 * v + 5 * k) 1 = nI len := by rw [h.1 _ (by omega) (by omega), (P.2.2.2 v hv k hk hM).1]; exact hlen
    have eC : F (7 + 62 * v + 5 * k) i = rChr r (12 * v + k) i := by
      rw [h.1 _ (by omega) (by omega), (P.2.2.2 v hv k hk hM).2 i (by rw [hlen, nI_clamp (by omega)]; omega)]
      rfl
    have hck : zckk (r 0) (rChr r (12 * v + k) i) := (V.2.2.2.1 (12 * v + k) (by omega)).2 i (by rw [hlen, nI_toInt (by omega)]; omega)
    have l57 : (57 : Int32).toInt = 57 := rfl
    have ih := fun F' => c_encode11 hp PS V P hv hk hM hlen hl30 hq d (i + 1) F' (by omega)
    rw [zenc] at ih
    generalize rChr r (12 * v + k) i = x at eC hck ih
    generalize hE : zenc (rChr r (12 * v + k)) i = E at h ih zl ⊢
    have hxd : (zdig x = true ∧ ¬ (57 : Int32) < x) ∨ (zdig x = false ∧ (57 : Int32) < x) := by
      obtain ⟨-, hx⟩ := hck
      unfold zdig
      unfold xK at hx
      rw [nlt, l57]
      by_cases h1 : 97 ≤ x.toInt ∧ x.toInt ≤ 122
      · exact Or.inr ⟨decide_eq_false (by omega), by omega⟩
      · rw [if_neg h1] at hx
        by_cases h2 : 48 ≤ x.toInt ∧ x.toInt ≤ 57
        · exact Or.inl ⟨decide_eq_true h2, by omega⟩
        · rw [if_neg h2] at hx
          exfalso
          by_cases h3 : x = 59
          · rw [if_pos h3] at hx
            rcases hx with h | h <;> exact absurd h (by decide)
          · rw [if_neg h3] at hx
            by_cases h4 : x = 47
            · rw [if_pos h4] at hx
              rcases hx with h | h <;> exact absurd h (by decide)
            · rw [if_neg h4] at hx
              rcases hx with h | h <;> exact absurd h (by decide)
    have key : ∀ w : Int32, w = (if zdig x then 1 else 0) → wX2_encode_44 ln Q (wX2_encode_11 ln Q (d + 1)) (p + 5 + 62 * v + 5 * k) (r 0) E.2 (nI i) x w (zpc σ p f3 f4 F) := fun w hw => by
      rw [← hw] at ih
      have k64 : ∀ (w2 : Int32) (l : List Int32) (F1 : Nat → Nat → Int32), l.length < 62 → zPs0 F0 F1 v k l → (∀ F', zPs0 F0 F' v k (l ++ [2 + zidx x]) → wX2_encode_11 ln Q (d + 1) (p + 5 + 62 * v + 5 * k) (r 0) w2 (nI (i + 1)) (zpc σ p f3 f4 F')) → wX2_encode_64 ln Q (wX2_encode_11 ln Q (d + 1)) (p + 5 + 62 * v + 5 * k) (r 0) w2 (nI i) x (zpc σ p f3 f4 F1) := fun w2 l F1 hl h1 hk1 => by
        refine ⟨p + 8 + 62 * v + 5 * k, pk3, c_wheelIndex hck.2 (fun x4 e4 => ?_)⟩
        subst e4
        refine c_addPu hp PS hv hk hl h1 (fun F' h' x6 e6 => ?_)
        rw [nI_1] at e6
        subst e6
        exact hk1 F' h'
      refine ⟨fun he => ?_, fun he => ⟨p + 8 + 62 * v + 5 * k, pk3, ?_⟩⟩
      · rw [if_pos he.symm] at ih
        exact k64 _ _ _ (by omega) h ih
      · rw [if_neg (fun e => he e.symm)] at ih
        refine c_addPu hp PS hv hk (by omega) h (fun F1 h1 => ?_)
        exact k64 _ _ _ (by rw [List.length_append]; show E.1.length + 1 < 62; omega) h1 ih
    rw [wX2_encode_11]
    refine ⟨p + 6 + 62 * v + 5 * k, pk1, ?_⟩
    unfold wX9_size
    rw [gi_zpc_k hp (k := 6 + 62 * v + 5 * k) (by omega) (by omega), eS]
    refine ⟨fun hx => absurd hx (nI_ge (by omega) (by omega)), fun _ => ⟨p + 6 + 62 * v + 5 * k, pk1, ?_⟩⟩
    have e1 : gi (zpc σ p f3 f4 F) (p + 6 + 62 * v + 5 * k) 1 = nI len := by rw [gi_zpc_k hp (k := 6 + 62 * v + 5 * k) (by omega) (by omega)]; exact eS
    refine ⟨fun hx => absurd hx (nI_pos (by omega)), fun _ => ?_⟩
    rw [e1]
    refine ⟨fun hx => absurd hx (nI_ge (by omega) (by omega)), fun _ => ⟨p + 7 + 62 * v + 5 * k, pk2, ?_⟩⟩
    rw [pk5]
    refine ⟨fun hx => absurd hx (nI_ge (a := i) (b := 30) (by omega) (by omega)), fun _ => ⟨p + 7 + 62 * v + 5 * k, pk2, ?_⟩⟩
    rw [pk5, nI_clamp (by omega), gi_zpc_k hp (k := 7 + 62 * v + 5 * k) (by omega) (by omega), eC]
    refine ⟨vp_in_nI (by omega) (by omega), fun hx => key 0 ?_, fun hx => key 1 ?_⟩
    · rcases hxd with ⟨a, b⟩ | ⟨a, b⟩
      · exact absurd hx b
      · rw [a]; rfl
    · rcases hxd with ⟨a, b⟩ | ⟨a, b⟩
      · rw [a]; rfl
      · exact absurd b hx
theorem c_encodeL (hp : 5 ≤ p) (PS : zPs (gr σ) ln p) (V : zPV r o) {F0 : Nat → Nat → Int32} (P : zPn F0 r) {v k : Nat} (hv : v < 2) (hk : k < 12) (hM : (k : Int) < (r (25 + v)).toInt) {Q : zS → Prop} (hq : ∀ F', (∀ b, b ≠ 8 + 62 * v + 5 * k → b ≠ 9 + 62 * v + 5 * k → F' b = F0 b) → zPu F' r v k → Q (zpc σ p f3 f4 F')) : wX2_encode ln (zpc σ p f3 f4 F0) (p + 5 + 62 * v + 5 * k) (r 0) Q := by
  obtain ⟨pk0, pk1, pk2, pk3, pk4, pk5, pk6⟩ := PS.2.2.2 v hv k hk
  have hlb := (V.2.2.2.1 (12 * v + k) (by omega)).1
  have cl := ncl hlb.1
  obtain ⟨len, el⟩ : ∃ len, len = (r (219 + (12 * v + k))).toNatClampNeg := ⟨_, rfl⟩
  have rl : r (219 + (12 * v + k)) = nI len := by rw [neq, nI_toInt (by omega)]; omega
  refine ⟨p + 8 + 62 * v + 5 * k, pk3, fun σ1 e1 => ?_⟩
  rw [si_zpc_k hp (k := 8 + 62 * v + 5 * k) (by omega) (by omega)] at e1
  subst e1
  refine ⟨len + 1, c_encode11 hp PS V P hv hk hM rl (by omega) (fun F' h => hq F' h.1 h.2) len 0 _ (by omega) ⟨fun b b1 b2 => zf_ne b1, ?_, fun j hj => absurd hj (Nat.not_lt_zero j)⟩⟩
  rw [zf_ap, if_pos rfl, if_pos rfl]
  rfl
theorem c_encLines2 (hp : 5 ≤ p) (PS : zPs (gr σ) ln p) (V : zPV r o) {F0 : Nat → Nat → Int32} (P : zPn F0 r) {v M : Nat} (hv : v < 2) (hM : r (25 + v) = nI M) (hM12 : M ≤ 12) {Q : zS → Prop} (hq : ∀ F', (∀ b, (¬ zPcel b ∨ ∀ k, k < 12 → b ≠ 8 + 62 * v + 5 * k ∧ b ≠ 9 + 62 * v + 5 * k) → F' b = F0 b) → (∀ k, k < M → zPu F' r v k) → Q (zpc σ p f3 f4 F')) : ∀ (d k : Nat) (F : Nat → Nat → Int32), k + d = M → (∀ b, (¬ zPcel b ∨ ∀ k, k < 12 → b ≠ 8 + 62 * v + 5 * k ∧ b ≠ 9 + 62 * v + 5 * k) → F b = F0 b) → (∀ j, j < k → zPu F r v j) → wX0_encodeLines_2 ln Q (d + 1) (p + (3 + 62 * v)) (r 0) (nI k) (zpc σ p f3 f4 F)
  | 0, k, F, hd, hF, hu => by
    obtain rfl : k = M := by omega
    have e2 : gi (zpc σ p f3 f4 F) (p + (3 + 62 * v)) 2 = nI k := by rw [gi_zpc_k hp (k := 3 + 62 * v) rfl (by omega), hF (3 + 62 * v) (Or.inl (zPcel_not (by omega))), (P.2.2.1 v hv).2.2]; exact hM
    rw [wX0_encodeLines_2, e2]
    exact ⟨fun _ => hq F hF hu, fun hx => absurd (nI_le (Nat.le_refl _) (by omega)) hx⟩
  | d + 1, k, F, hd, hF, hu => by
    have fM : F (3 + 62 * v) 2 = nI M := by rw [hF (3 + 62 * v) (Or.inl (zPcel_not (by omega))), (P.2.2.1 v hv).2.2]; exact hM
    have e2 : gi (zpc σ p f3 f4 F) (p + (3 + 62 * v)) 2 = nI M := by rw [gi_zpc_k hp (k := 3 + 62 * v) rfl (by omega)]; exact fM
    have P' : zPn F r := zPn_p P (fun b hb => hF b (Or.inl hb))
    rw [wX0_encodeLines_2, e2]
    refine ⟨fun hx => absurd hx (nI_ge (by omega) (by omega)), fun _ => c_lineP hp PS hv fM (k := k) (by omega) hM12 rfl ⟨(fun h => nomatch h), fun j3 h3 => ?_⟩⟩
    cases h3
    refine c_encodeL hp PS V P' hv (by omega) (by rw [hM, nI_toInt (by omega)]; omega) (fun F' a1 a2 x6 e6 => ?_)
    rw [nI_1] at e6
    subst e6
    refine c_encLines2 hp PS V P hv hM hM12 hq d (k + 1) F' (by omega) (fun b hb => ?_) (fun j hj => ?_)
    · rw [a1 b, hF b hb]
      · intro e
        rcases hb with hb | hb
        · exact hb ⟨v, k, hv, by omega, Or.inl e⟩
        · exact (hb k (by omega)).1 e
      · intro e
        rcases hb with hb | hb
        · exact hb ⟨v, k, hv, by omega, Or.inr e⟩
        · exact (hb k (by omega)).2 e
    · by_cases ej : j = k
      · subst ej; exact a2
      · obtain ⟨u1, u2⟩ := hu j (by omega)
        unfold zPu
        rw [a1 _ (by omega) (by omega), a1 _ (by omega) (by omega)]
        exact ⟨u1, u2⟩
theorem c_encLines (hp : 5 ≤ p) (PS : zPs (gr σ) ln p) (V : zPV r o) {F0 : Nat → Nat → Int32} (P : zPn F0 r) {v M : Nat} (hv : v < 2) (hM : r (25 + v) = nI M) (hM12 : M ≤ 12) {Q : zS → Prop} (hq : ∀ F', (∀ b, (¬ zPcel b ∨ ∀ k, k < 12 → b ≠ 8 + 62 * v + 5 * k ∧ b ≠ 9 + 62 * v + 5 * k) → F' b = F0 b) → (∀ k, k < M → zPu F' r v k) → Q (zpc σ p f3 f4 F')) : wX0_encodeLines ln (zpc σ p f3 f4 F0) (p + (3 + 62 * v)) (r 0) Q := ⟨M + 1, c_encLines2 hp PS V P hv hM hM12 hq M 0 F0 (by omega) (fun _ _ => rfl) (fun j hj => absurd hj (Nat.not_lt_zero j))⟩
/-- the end of reading -/
theorem c_read75 (hp : 5 ≤ p) (PS : zPs (gr σ) ln p) (V : zPV r o) {F : Nat → Nat → Int32} (P : zPn F r) {Q : Int32 → zS → Prop} (hq : ∀ F', zPn F' r → (∀ v : Nat, v < 2 → ∀ k : Nat, k < 12 → (k : Int) < (r (25 + v)).toInt → zPu F' r v k) → Q (-1) (zpc σ p f3 f4 F')) : wX5_read_75 ln Q p (zpc σ p f3 f4 F) := by
  have h0 := (V.2.2.1 0 (by decide)).2.2
  have h1 := (V.2.2.1 1 (by decide)).2.2
  have c0 := ncl h0.1
  have c1 := ncl h1.1
  obtain ⟨M0, e0⟩ : ∃ M, M = (r (25 + 0)).toNatClampNeg := ⟨_, rfl⟩
  obtain ⟨M1, e1⟩ : ∃ M, M = (r (25 + 1)).toNatClampNeg := ⟨_, rfl⟩
  have r0 : r (25 + 0) = nI M0 := by rw [neq, nI_toInt (by omega)]; omega
  have r1 : r (25 + 1) = nI M1 := by rw [neq, nI_toInt (by omega)]; omega
  refine ⟨p + 3, PS.2.1.1, fun x2 e2 => ?_⟩
  rw [gi_zpc_0 hp, P.1.1] at e2
  subst e2
  refine c_encLines hp PS V P (v := 0) (by decide) r0 (by omega) (fun F1 a1 a2 => ⟨p + 65, PS.2.1.2, fun x5 e5 => ?_⟩)
  have P1 : zPn F1 r := zPn_p P (fun b hb => a1 b (Or.inl hb))
  rw [gi_zpc_0 hp, P1.1.1] at e5
  subst e5
  refine c_encLines hp PS V P1 (v := 1) (by decide) r1 (by omega) (fun F2 b1 b2 => hq F2 (zPn_p P1 (fun b hb => b1 b (Or.inl hb))) (fun v hv k hk hlt => ?_))
  rcases (show v = 0 ∨ v = 1 by omega) with rfl | rfl
  · rw [r0, nI_toInt (by omega)] at hlt
    obtain ⟨u1, u2⟩ := a2 k (by omega)
    unfold zPu
    rw [b1 _ (Or.inr (fun k' hk' => by omega)), b1 _ (Or.inr (fun k' hk' => by omega))]
    exact ⟨u1, u2⟩
  · rw [r1, nI_toInt (by omega)] at hlt
    exact b2 k (by omega)
end ZENC

/-! from 98k.cread -/
/-! THE CLASS READS a text -/
section ZREAD
variable {ln : Nat → Nat} {σ : zS} {p : Nat} {c : Nat → Int32} {n : Nat}
theorem c_stmt {f3 f4 : Nat → Int32} {F : Nat → Nat → Int32} {r : zRow} {o q : Nat} (hp : 5 ≤ p) (G : zTg (gr σ) ln) (T : zTc σ c n) (PS : zPs (gr σ) ln p) (V : zPV r o) (hqn : q ≤ n) (ho : f3 1 = nI o) (t : tok f4 c n q) (P : zPn F r) {f : Bool} {x : Int32} (hx : x = if f = true then 1 else 0) {Q : Int32 → zS → Prop} (hR : cR σ p c n Q (pStmt c n f r o q)) : wX5_statement ln (zpc σ p f3 f4 F) 3 p x Q := by
  subst hx
  unfold pStmt at hR
  refine ⟨4, G.2.1, c_isWord hp G T (by decide) (by decide) t (fun w2 => ⟨fun x => absurd x (by decide), fun _ => ?_⟩) (fun w2 => ⟨fun _ => ?_, fun x => absurd rfl x⟩)⟩
  · rw [if_pos w2] at hR
    exact c_msgst hp G T PS V hqn ho t P hR
  rw [if_neg w2] at hR
  refine ⟨4, G.2.1, c_isWord hp G T (by decide) (by decide) t (fun w3 => ⟨fun x => absurd x (by decide), fun _ => ?_⟩) (fun w3 => ⟨fun _ => ?_, fun x => absurd rfl x⟩)⟩
  · rw [if_pos w3] at hR
    by_cases hf : f = true
    · rw [if_pos hf] at hR ⊢
      exact ⟨fun x => absurd x (by decide), fun _ => c_wheel hp G T hqn ho t P hR⟩
    · rw [if_neg hf] at hR ⊢
      exact ⟨fun _ => c_99z (hR.1 _ rfl _ _ _ t.2.1), fun x => absurd rfl x⟩
  rw [if_neg w3] at hR
  refine ⟨4, G.2.1, c_isWord hp G T (by decide) (by decide) t (fun w4 => ⟨fun x => absurd x (by decide), fun _ => ?_⟩) (fun w4 => ⟨fun _ => ?_, fun x => absurd rfl x⟩)⟩
  · rw [if_pos w4] at hR
    exact c_offst hp G T PS V hqn ho t P hR
  rw [if_neg w4] at hR
  refine ⟨4, G.2.1, c_isWord hp G T (by decide) (by decide) t (fun w5 => ⟨fun x => absurd x (by decide), fun _ => ?_⟩) (fun w5 => ⟨fun _ => ?_, fun x => absurd rfl x⟩)⟩
  · rw [if_pos w5] at hR
    exact c_loss hp G T PS V hqn ho t P hR
  rw [if_neg w5] at hR
  refine ⟨4, G.2.1, c_isWord hp G T (by decide) (by decide) t (fun w6 => ⟨fun x => absurd x (by decide), fun _ => ?_⟩) (fun w6 => ⟨fun _ => ?_, fun x => absurd rfl x⟩)⟩
  · rw [if_pos w6] at hR
    exact c_setk hp G T (by decide) (by decide) hqn ho t P hR
  rw [if_neg w6] at hR
  refine ⟨4, G.2.1, c_isWord hp G T (by decide) (by decide) t (fun w7 => ⟨fun x => absurd x (by decide), fun _ => ?_⟩) (fun w7 => ⟨fun _ => ?_, fun x => absurd rfl x⟩)⟩
  · rw [if_pos w7] at hR
    exact c_setk hp G T (by decide) (by decide) hqn ho t P hR
  rw [if_neg w7] at hR
  refine ⟨4, G.2.1, c_isWord hp G T (by decide) (by decide) t (fun w8 => ⟨fun x => absurd x (by decide), fun _ => ?_⟩) (fun w8 => ⟨fun _ => ?_, fun x => absurd rfl x⟩)⟩
  · rw [if_pos w8] at hR
    exact c_setk hp G T (by decide) (by decide) hqn ho t P hR
  rw [if_neg w8] at hR
  refine ⟨4, G.2.1, c_isWord hp G T (by decide) (by decide) t (fun w9 => ⟨fun x => absurd x (by decide), fun _ => ?_⟩) (fun w9 => ⟨fun _ => ?_, fun x => absurd rfl x⟩)⟩
  · rw [if_pos w9] at hR
    exact c_setk hp G T (by decide) (by decide) hqn ho t P hR
  rw [if_neg w9] at hR
  exact c_99z (hR.1 _ rfl _ _ _ t.2.1)
theorem pTx_ok : ∀ (d : Nat) (f : Bool) (r : zRow) (o q : Nat) {r' : zRow}, zPV r o → (f = true → zFst r) → pTx c n d f r o q = .inr r' → ∃ o', zPV r' o'
  | 0, f, r, o, q, r', V, hf, e => by
    rw [pTx] at e
    cases e
    exact ⟨o, V⟩
  | d + 1, f, r, o, q, r', V, hf, e => by
    rw [pTx] at e
    by_cases h0 : tK c n q = 0
    · rw [if_pos h0] at e
      cases e
      exact ⟨o, V⟩
    · rw [if_neg h0] at e
      cases hS : pStmt c n f r o q with
      | inl x => rw [hS] at e; cases e
      | inr x =>
        obtain ⟨r1, o1, q1⟩ := x
        rw [hS] at e
        obtain ⟨a1, a2, a3⟩ := pStmt_ok V hf hS
        exact pTx_ok d false r1 o1 (tE c n q1) a1 (fun h => nomatch h) e
theorem c_read18 (hp : 5 ≤ p) (G : zTg (gr σ) ln) (T : zTc σ c n) (PS : zPs (gr σ) ln p) {Q : Int32 → zS → Prop} : ∀ (d i q o : Nat) (f : Bool) (r : zRow) (f3 f4 : Nat → Int32) (F : Nat → Nat → Int32), n + 1 ≤ q + d → i ≤ q → q ≤ n → (f = true ↔ i = 0) → zPV r o → (f = true → zFst r) → f3 1 = nI o → tok f4 c n q → zPn F r → (∀ e, pTx c n d f r o q = .inl e → ∀ (f3 f4 : Nat → Int32) (F : Nat → Nat → Int32), Q (nI e) (zpc σ p f3 f4 F)) → (∀ r', pTx c n d f r o q = .inr r' → ∀ (f3 f4 : Nat → Int32) (F : Nat → Nat → Int32), zPn F r' → wX5_read_75 ln Q p (zpc σ p f3 f4 F)) → wX5_read_18 ln Q (d + 1) 3 p (nI i) (zpc σ p f3 f4 F)
  | 0, i, q, o, f, r, f3, f4, F, hd, hi, hqn, hf, V, hfs, ho, t, P, hE, hO => absurd hd (by omega)
  | d + 1, i, q, o, f, r, f3, f4, F, hd, hi, hqn, hf, V, hfs, ho, t, P, hE, hO => by
    have hn := T.1
    rw [pTx] at hE hO
    rw [wX5_read_18]
    have end0 : tK c n q = 0 → wX5_read_75 ln Q p (zpc σ p f3 f4 F) := fun h0 => hO r (by rw [if_pos h0]) f3 f4 F P
    refine ⟨fun hx => end0 (tK_0.mpr ?_), fun hx => ⟨4, G.2.1, ?_⟩⟩
    · have h6 := (nI_leI (a := 600) (b := i) (by decide) (by omega)).mp hx
      have := tS_ge c n q
      omega
    rw [gi_zpc_4, t.1]
    refine ⟨end0, fun h0 => ?_⟩
    rw [if_neg h0] at hE hO
    have key : ∀ x : Int32, (x = if f = true then 1 else 0) → wX5_read_44 ln Q (wX5_read_18 ln Q (d + 1)) 3 p (nI i) x (zpc σ p f3 f4 F) := fun x hx => by
      refine c_stmt hp G T PS V hqn ho t P hx ⟨fun e he f3' f4' F' g1 => ⟨fun _ => ⟨4, G.2.1, ?_⟩, fun x => absurd rfl x⟩, fun r' o' q' he f3' f4' F' ho' t' P' => ⟨fun x => absurd x (by decide), fun _ => ⟨4, G.2.1, ?_⟩⟩⟩
      · rw [gi_zpc_4, g1]
        rw [he] at hE
        exact hE e rfl _ _ _
      · rw [he] at hE hO
        obtain ⟨a1, a2, a3⟩ := pStmt_ok V hfs he
        have hE2 := tE_le (c := c) (n := n) (q := q') (by rw [a3]; decide)
        have g2 := tE_q (c := c) (n := n) q'
        refine c_take hp G T (q := tE c n q') (by omega) t'.2.2 (fun f' b0 b1 b3 x5 e5 => ?_)
        rw [nI_1] at e5
        subst e5
        exact c_read18 hp G T PS d (i + 1) (tE c n q') o' false r' f3' f' F' (by omega) (by omega) hE2.1 ⟨(fun h => nomatch h), fun h => absurd h (by omega)⟩ a1 (fun h => nomatch h) ho' ⟨b0, b1, b3⟩ P' hE hO
    have i0 : nI i = 0 ↔ i = 0 := nI_eq (a := i) (b := 0) (by omega) (by omega)
    refine ⟨fun hx => key 1 ?_, fun hx => key 0 ?_⟩
    · rw [if_pos (hf.mpr (i0.mp hx))]
    · rw [if_neg (fun h => hx (i0.mpr (hf.mp h)))]
/-- the row of the empty text -/
def r00 : zRow := fun k => if k = 0 then 28 else if k = 1 then 1 else if k = 2 then 200 else if k = 3 then 600 else if k = 4 then 2 else if k = 6 then -1 else if k = 23 then 100 else if k = 24 then 100 else 0
theorem r00_z {k : Nat} (h : k ≠ 0 ∧ k ≠ 1 ∧ k ≠ 2 ∧ k ≠ 3 ∧ k ≠ 4 ∧ k ≠ 6 ∧ k ≠ 23 ∧ k ≠ 24) : r00 k = 0 := by
  unfold r00
  rw [if_neg h.1, if_neg h.2.1, if_neg h.2.2.1, if_neg h.2.2.2.1, if_neg h.2.2.2.2.1, if_neg h.2.2.2.2.2.1, if_neg h.2.2.2.2.2.2.1, if_neg h.2.2.2.2.2.2.2]
theorem zFst_r00 : zFst r00 := ⟨fun a ha => r00_z (by omega), rfl, rfl⟩
theorem zPV_r00 : zPV r00 0 := by
  have z0 : (0 : Int32).toInt = 0 := rfl
  refine ⟨⟨by decide, by decide, by decide, by decide, by decide⟩, by decide, fun v hv => ?_, fun a ha => ?_, ⟨rfl, fun k hk => r00_z (by omega)⟩, by decide⟩
  · rcases (show v = 0 ∨ v = 1 by omega) with rfl | rfl <;> decide
  · rw [r00_z (k := 219 + a) (by omega), z0]
    exact ⟨by omega, fun j hj => absurd hj (by omega)⟩
theorem zPn_r00 {σ : zS} {p : Nat} (h : zP0 σ p) : zPn (fun k => gi σ (p + k)) r00 := by
  obtain ⟨⟨a0, a1, a2, a3, a4⟩, b, ⟨d0, d1, d2⟩, e0, e1, e2⟩ := h
  refine ⟨⟨a0, a1, a2, a3, a4⟩, ⟨b, fun k hk => absurd hk (Nat.not_lt_zero k)⟩, fun v hv => ?_, fun v hv k hk hlt => ?_⟩
  · rcases (show v = 0 ∨ v = 1 by omega) with rfl | rfl
    · exact ⟨d0, d1, d2⟩
    · exact ⟨e0, e1, e2⟩
  · rw [r00_z (k := 25 + v) (by omega)] at hlt
    exact absurd hlt (by rw [show (0 : Int32).toInt = 0 from rfl]; omega)
/-- reading, from any store -/
theorem c_read (hp : 5 ≤ p) (G : zTg (gr σ) ln) (T : zTc σ c n) (PS : zPs (gr σ) ln p) {Q : Int32 → zS → Prop} (hE : ∀ e, pTx c n (n + 1) true r00 0 0 = .inl e → ∀ (f3 f4 : Nat → Int32) (F : Nat → Nat → Int32), Q (nI e) (zpc σ p f3 f4 F)) (hO : ∀ r, pTx c n (n + 1) true r00 0 0 = .inr r → ∀ (f3 f4 : Nat → Int32) (F : Nat → Nat → Int32), zPn F r → (∀ v : Nat, v < 2 → ∀ k : Nat, k < 12 → (k : Int) < (r (25 + v)).toInt → zPu F r v k) → Q (-1) (zpc σ p f3 f4 F)) : wX5_read ln σ 3 p Q := by
  refine c_reset PS.1.1 PS.2.1.1 PS.2.1.2 (fun σ' c1 c2 c3 c4 c5 => ?_)
  have e1 : σ' = zpc σ p (gi σ 3) (gi σ 4) (fun k => gi σ' (p + k)) := by
    refine zS_ext2 (fun a i => ?_) c1 (fun a i => by rw [c2]; rfl) c3
    rw [gi_zpc]
    by_cases h3 : a = 3
    · subst h3; rw [if_pos rfl, c4 _ (by omega)]
    · rw [if_neg h3]
      by_cases h4 : a = 4
      · subst h4; rw [if_pos rfl, c4 _ (by omega)]
      · rw [if_neg h4]
        by_cases h5 : p ≤ a ∧ a < p + 127
        · rw [if_pos h5]
          show gi σ' a i = gi σ' (p + (a - p)) i
          rw [show p + (a - p) = a by omega]
        · rw [if_neg h5, c4 _ (by omega)]
  have P := zPn_r00 c5
  generalize (fun k => gi σ' (p + k)) = F at e1 P
  subst e1
  intro σ2 e2
  rw [si_zpc_3] at e2
  subst e2
  refine ⟨4, G.2.1, fun σ1 e1 => ?_⟩
  rw [si_zpc_4] at e1
  subst e1
  refine c_take hp G T (q := 0) (by decide) (by rw [zu_self]; rfl) (fun f' b0 b1 b3 => ⟨n + 1 + 1, ?_⟩)
  refine c_read18 hp G T PS (n + 1) 0 0 0 true r00 _ f' F (by omega) (by decide) (by omega) ⟨fun _ => rfl, fun _ => rfl⟩ zPV_r00 (fun _ => zFst_r00) (by rw [zu_self]; rfl) ⟨b0, b1, b3⟩ P hE (fun r' h f3 f4 F' P' => ?_)
  obtain ⟨o', V'⟩ := pTx_ok _ _ _ _ _ zPV_r00 (fun _ => zFst_r00) h
  exact c_read75 hp PS V' P' (fun F2 P2 u2 => hO r' h _ _ _ P2 u2)
end ZREAD

/-! from 98q.newrow -/
theorem xK_1 {x : Int32} : xK x = 1 ↔ 97 ≤ x.toInt ∧ x.toInt ≤ 122 := by
  unfold xK
  refine ⟨fun h => ?_, fun h => by rw [if_pos h]⟩
  by_cases h1 : 97 ≤ x.toInt ∧ x.toInt ≤ 122
  · exact h1
  · rw [if_neg h1] at h
    by_cases h2 : 48 ≤ x.toInt ∧ x.toInt ≤ 57
    · rw [if_pos h2] at h; exact absurd h (by decide)
    · rw [if_neg h2] at h
      by_cases h3 : x = 59
      · rw [if_pos h3] at h; exact absurd h (by decide)
      · rw [if_neg h3] at h
        by_cases h4 : x = 47
        · rw [if_pos h4] at h; exact absurd h (by decide)
        · rw [if_neg h4] at h; exact absurd h (by decide)
theorem xK_2 {x : Int32} : xK x = 2 ↔ 48 ≤ x.toInt ∧ x.toInt ≤ 57 := by
  unfold xK
  refine ⟨fun h => ?_, fun h => by rw [if_neg (by omega), if_pos h]⟩
  by_cases h1 : 97 ≤ x.toInt ∧ x.toInt ≤ 122
  · rw [if_pos h1] at h; exact absurd h (by decide)
  · rw [if_neg h1] at h
    by_cases h2 : 48 ≤ x.toInt ∧ x.toInt ≤ 57
    · exact h2
    · rw [if_neg h2] at h
      by_cases h3 : x = 59
      · rw [if_pos h3] at h; exact absurd h (by decide)
      · rw [if_neg h3] at h
        by_cases h4 : x = 47
        · rw [if_pos h4] at h; exact absurd h (by decide)
        · rw [if_neg h4] at h; exact absurd h (by decide)
/-! A ROW THAT WAS READ: the invariant; where faults lie -/
section ZNEWROW
variable {c : Nat → Int32} {n : Nat}
theorem tS_e {k q : Nat} (h : q ≤ n + k) : tS c n q ≤ n + k := by
  have := tS_le2 c n q
  omega
theorem tE_e {k q : Nat} (h : q ≤ n + k) : tE c n q ≤ n + (k + 1) := by
  by_cases e : tK c n q = 0
  · have := tK_0.mp e
    have := tS_e (c := c) h
    unfold tE
    rw [if_pos (by omega)]
    omega
  · have := (tE_le e).1
    omega
theorem pSemi_e {r : zRow} {o q k e : Nat} (hq : q ≤ n + k) (h : pSemi c n r o q = .inl e) : e ≤ n + (k + 1) := by
  unfold pSemi at h
  by_cases x : tK c n (tE c n q) = 3
  · rw [if_pos x] at h
    cases h
  · rw [if_neg x] at h
    cases h
    exact tS_e (tE_e hq)
theorem pSet_e {k' : Nat} {lo hi : Int32} {r : zRow} {o q e : Nat} (hq : q ≤ n) (h : pSet c n k' lo hi r o q = .inl e) : e ≤ n + 9 := by
  have h1 := tE_e (c := c) (n := n) (k := 0) (q := q) (by omega)
  unfold pSet at h
  by_cases x : pNb c n (tE c n q) lo hi = true
  · rw [if_pos x] at h
    have := pSemi_e (k := 1) h1 h
    omega
  · rw [if_neg x] at h
    cases h
    have := tS_e (c := c) h1
    omega
theorem pOff_e {r : zRow} {o q e : Nat} (hq : q ≤ n) (h : pOff c n r o q = .inl e) : e ≤ n + 9 := by
  have h0 := tS_e (c := c) (n := n) (k := 0) (q := q) (by omega)
  have h1 := tE_e (c := c) (n := n) (k := 0) (q := q) (by omega)
  have h2 := tE_e (c := c) h1
  have h3 := tS_e (c := c) h1
  have h4 := tS_e (c := c) h2
  unfold pOff at h
  split at h
  · cases h
    omega
  · split at h
    · split at h
      · have := pSemi_e (k := 2) h2 h
        omega
      · cases h
        omega
    · cases h
      omega
theorem pLos_e {r : zRow} {o q e : Nat} (hq : q ≤ n) (h : pLos c n r o q = .inl e) : e ≤ n + 9 := by
  have h0 := tS_e (c := c) (n := n) (k := 0) (q := q) (by omega)
  have h1 := tE_e (c := c) (n := n) (k := 0) (q := q) (by omega)
  have h3 := tS_e (c := c) h1
  unfold pLos at h
  split at h
  · cases h
    omega
  · split at h
    · have := pSemi_e (k := 1) h1 h
      omega
    · cases h
      omega
theorem pIts_e {v : Nat} : ∀ (d : Nat) (f : Bool) (r : zRow) (q : Nat) {e : Nat}, q ≤ n + 2 → pIts c n v d f r q = .inl e → e ≤ n + 2
  | 0, f, r, q, e, hq, h => by
    rw [pIts] at h
    cases h
    exact tS_e hq
  | d + 1, f, r, q, e, hq, h => by
    have h0 := tS_e (c := c) hq
    rw [pIts] at h
    by_cases k3 : tK c n q = 3
    · rw [if_pos k3] at h
      split at h
      · cases h
        exact h0
      · cases h
    · rw [if_neg k3] at h
      by_cases k4 : tK c n q = 4
      · have hE := tE_le (c := c) (n := n) (q := q) (by rw [k4]; decide)
        rw [if_pos k4] at h
        split at h
        · cases h
          exact h0
        · exact pIts_e d _ _ _ (by omega) h
      · rw [if_neg k4] at h
        by_cases k1 : tK c n q = 1 ∨ tK c n q = 2
        · have hE := tE_le (c := c) (n := n) (q := q) (by rcases k1 with h | h <;> rw [h] <;> decide)
          rw [if_pos k1] at h
          split at h
          · exact pIts_e d _ _ _ (by omega) h
          · cases h
            exact h0
        · rw [if_neg k1] at h
          cases h
          exact h0
theorem pMsg_e {r : zRow} {o q e : Nat} (hq : q ≤ n) (h : pMsg c n r o q = .inl e) : e ≤ n + 9 := by
  have h1 := tE_e (c := c) (n := n) (k := 0) (q := q) (by omega)
  have h2 := tE_e (c := c) h1
  have h3 := tS_e (c := c) h1
  unfold pMsg at h
  split at h
  · split at h
    · cases h
      omega
    · cases hI : pIts c n (tV c n (tE c n q)).toNatClampNeg (n + 1) true (pNew r (tV c n (tE c n q)).toNatClampNeg) (tE c n (tE c n q)) with
      | inl x =>
        rw [hI] at h
        cases h
        have := pIts_e _ _ _ _ h2 hI
        omega
      | inr x =>
        rw [hI] at h
        cases h
  · cases h
    omega
theorem pStmt_e {f : Bool} {r : zRow} {o q e : Nat} (hq : q ≤ n) (h : pStmt c n f r o q = .inl e) : e ≤ n + 9 := by
  have h0 := tS_e (c := c) (n := n) (k := 0) (q := q) (by omega)
  unfold pStmt at h
  by_cases e2 : tW c n q 4
  · rw [if_pos e2] at h
    exact pMsg_e hq h
  rw [if_neg e2] at h
  by_cases e3 : tW c n q 5
  · rw [if_pos e3] at h
    split at h
    · exact pSet_e hq h
    · cases h
      omega
  rw [if_neg e3] at h
  by_cases e4 : tW c n q 6
  · rw [if_pos e4] at h
    exact pOff_e hq h
  rw [if_neg e4] at h
  by_cases e5 : tW c n q 7
  · rw [if_pos e5] at h
    exact pLos_e hq h
  rw [if_neg e5] at h
  by_cases e6 : tW c n q 8
  · rw [if_pos e6] at h
    exact pSet_e hq h
  rw [if_neg e6] at h
  by_cases e7 : tW c n q 9
  · rw [if_pos e7] at h
    exact pSet_e hq h
  rw [if_neg e7] at h
  by_cases e8 : tW c n q 10
  · rw [if_pos e8] at h
    exact pSet_e hq h
  rw [if_neg e8] at h
  by_cases e9 : tW c n q 11
  · rw [if_pos e9] at h
    exact pSet_e hq h
  rw [if_neg e9] at h
  cases h
  omega
theorem pTx_e : ∀ (d : Nat) (f : Bool) (r : zRow) (o q : Nat) {e : Nat}, zPV r o → (f = true → zFst r) → q ≤ n → pTx c n d f r o q = .inl e → e ≤ n + 9
  | 0, f, r, o, q, e, V, hf, hq, h => by
    rw [pTx] at h
    cases h
  | d + 1, f, r, o, q, e, V, hf, hq, h => by
    rw [pTx] at h
    by_cases h0 : tK c n q = 0
    · rw [if_pos h0] at h
      cases h
    · rw [if_neg h0] at h
      cases hS : pStmt c n f r o q with
      | inl x =>
        rw [hS] at h
        cases h
        exact pStmt_e hq hS
      | inr x =>
        obtain ⟨r1, o1, q1⟩ := x
        rw [hS] at h
        obtain ⟨a1, a2, a3⟩ := pStmt_ok V hf hS
        have hE := tE_le (c := c) (n := n) (q := q1) (by rw [a3]; decide)
        exact pTx_e d false r1 o1 (tE c n q1) a1 (fun h => nomatch h) hE.1 h
end ZNEWROW
theorem zPV_W {r : zRow} {o : Nat} (h : zPV r o) : zW r := by
  obtain ⟨⟨a0, a1, a2, a3, a4⟩, a20, av, al, ⟨z6, z⟩, ao⟩ := h
  have v0 := av 0 (by decide)
  have v1 := av 1 (by decide)
  have z0 : (0 : Int32).toInt = 0 := rfl
  unfold zW
  rw [z 5 (by omega), z 7 (by omega), z 11 (by omega), z 18 (by omega), z 19 (by omega), z 27 (by omega), z 28 (by omega), z 29 (by omega), z 30 (by omega), z6, z0]
  exact ⟨a0, a1, a2, a3, a4, by omega, Or.inl rfl, Or.inl rfl, by omega, by omega, by omega, a20, v0.1, v0.2.1, v0.2.2, ⟨by omega, v0.2.2.1⟩, by omega, v1.1, v1.2.1, v1.2.2, ⟨by omega, v1.2.2.1⟩, by omega, fun h => absurd h (by decide), fun h => absurd h (by decide), fun a ha => (al a ha).1⟩
theorem zidx_b {N x : Int32} (h : zckk N x) (hN : N.toInt ≤ 28) : 0 ≤ (zidx x).toInt ∧ (zidx x).toInt < 26 := by
  obtain ⟨h1, h2⟩ := h
  have l48 : (48 : Int32).toInt = 48 := rfl
  have l97 : (97 : Int32).toInt = 97 := rfl
  refine ⟨?_, by omega⟩
  unfold zidx zdig
  rcases h2 with h2 | h2
  · have h3 := xK_1.mp h2
    rw [decide_eq_false (by omega), if_neg (by decide), nsub (by rw [l97]; omega) (by rw [l97]; omega), l97]
    omega
  · have h3 := xK_2.mp h2
    rw [decide_eq_true h3, if_pos rfl, nsub (by rw [l48]; omega) (by rw [l48]; omega), l48]
    omega
def zpb (x : Int32) : Prop := 0 ≤ x.toInt ∧ x.toInt < 28
theorem zpb_01 {b : Bool} : zpb (if b = true then 1 else 0) := by
  cases b
  · exact (by decide : 0 ≤ (0 : Int32).toInt ∧ (0 : Int32).toInt < 28)
  · exact (by decide : 0 ≤ (1 : Int32).toInt ∧ (1 : Int32).toInt < 28)
theorem zenc_b {N : Int32} {g : Nat → Int32} (hN : N.toInt ≤ 28) : ∀ k, (∀ j, j < k → zckk N (g j)) → (∀ x, x ∈ (zenc g k).1 → zpb x) ∧ zpb (zenc g k).2
  | 0, h => ⟨fun x hx => (nomatch hx), (by decide : 0 ≤ (0 : Int32).toInt ∧ (0 : Int32).toInt < 28)⟩
  | k + 1, h => by
    obtain ⟨i1, i2⟩ := zenc_b hN k (fun j hj => h j (by omega))
    have hx := zidx_b (h k (by omega)) hN
    have l2 : (2 : Int32).toInt = 2 := rfl
    have b2 : zpb (2 + zidx (g k)) := by
      unfold zpb
      rw [nadd (by rw [l2]; omega) (by rw [l2]; omega), l2]
      omega
    rw [zenc]
    by_cases hc : (if zdig (g k) then 1 else 0) = (zenc g k).2
    · rw [if_pos hc]
      refine ⟨fun x hx => ?_, i2⟩
      rcases List.mem_append.mp hx with h | h
      · exact i1 x h
      · rw [List.mem_singleton.mp h]; exact b2
    · rw [if_neg hc]
      refine ⟨fun x hx => ?_, zpb_01⟩
      rcases List.mem_append.mp hx with h | h
      · rcases List.mem_append.mp h with h | h
        · exact i1 x h
        · rw [List.mem_singleton.mp h]; exact zpb_01
      · rw [List.mem_singleton.mp h]; exact b2
theorem zpath_b {N : Int32} {g : Nat → Int32} {k : Nat} (hk : k ≤ 30) (hN : 6 ≤ N.toInt ∧ N.toInt ≤ 28) (h : ∀ j, j < k → zckk N (g j)) : ∀ x, x ∈ zpath g k N → zpb x := by
  obtain ⟨i1, i2⟩ := zenc_b hN.2 k h
  have zl := zenc_len g k
  intro x hx
  unfold zpath at hx
  rcases List.mem_append.mp hx with h | h
  · rcases List.mem_append.mp h with h | h
    · exact i1 x h
    · rw [List.mem_singleton.mp h]; exact i2
  · rw [List.mem_singleton.mp h]
    have l2 : (2 : Int32).toInt = 2 := rfl
    have e2 : (N - 2).toInt = N.toInt - 2 := nsub (b := 2) (by show _ ≤ N.toInt - 2; omega) (by show N.toInt - 2 < _; omega)
    have hl := nI_toInt (n := (zenc g k).1.length) (by omega)
    have e3 := nrem (a := nI (zenc g k).1.length) (b := N - 2) (by omega) (by omega)
    have m1 := Int.emod_nonneg (nI (zenc g k).1.length).toInt (show (N - 2).toInt ≠ 0 by omega)
    have m2 := Int.emod_lt_of_pos (nI (zenc g k).1.length).toInt (show 0 < (N - 2).toInt by omega)
    unfold zpb
    rw [nadd (by rw [l2, e3]; omega) (by rw [l2, e3]; omega), l2, e3]
    omega
theorem zPV_Q {r : zRow} {o : Nat} (h : zPV r o) : zQp r := by
  intro q hq k hk hlt j hj
  have ha : 12 * q + k < 24 := by omega
  have hl := (h.2.2.2.1 _ ha).1
  have cl := ncl hl.1
  have hm : (rPath r (12 * q + k)).getD j 0 ∈ rPath r (12 * q + k) := by
    rw [List.getD_eq_getElem?_getD, List.getElem?_eq_getElem hj]
    exact List.getElem_mem hj
  refine zpath_b (N := r 0) (g := rChr r (12 * q + k)) (k := (r (219 + (12 * q + k))).toNatClampNeg) (by omega) h.1.1 (fun i hi => ?_) _ hm
  exact (h.2.2.2.1 _ ha).2 i (by omega)
theorem zPV_E {r : zRow} {o N : Nat} (h : zPV r o) : zEv r N := by
  have hW := zPV_W h
  have hQ := zPV_Q h
  obtain ⟨-, -, -, -, ⟨z6, z⟩, -⟩ := h
  have z0 : (0 : Int32).toInt = 0 := rfl
  have c0 : (0 : Int32).toNatClampNeg = 0 := rfl
  have n0 : nU r = 0 := by unfold nU; rw [z 19 (by omega)]; rfl
  refine ⟨hW, ?_, ?_, ?_⟩
  · unfold zx
    rw [z 12 (by omega), z 13 (by omega), z 14 (by omega), z 37 (by omega), z 38 (by omega), z 5 (by omega), z0]
    refine ⟨fun ha => absurd z6 ha.1, by omega, Or.inl rfl, Or.inl rfl, by omega, by omega, fun _ => ⟨z 7 (by omega), z 9 (by omega), z 10 (by omega), z 11 (by omega), z 19 (by omega)⟩, fun k hk => ?_, hQ⟩
    rw [z 11 (by omega), c0] at hk
    exact absurd hk (Nat.not_lt_zero k)
  · unfold zTr
    rw [n0]
    exact ⟨fun k hk => absurd hk (Nat.not_lt_zero k), fun i j _ hj => absurd hj (Nat.not_lt_zero j), fun k hk => absurd hk (Nat.not_lt_zero k), fun k hk => absurd hk (Nat.not_lt_zero k), fun i j _ hj => absurd hj (Nat.not_lt_zero j), fun k hk => absurd hk (Nat.not_lt_zero k), fun i j _ hj => absurd hj (Nat.not_lt_zero j)⟩
  · unfold zBr
    rw [n0]
    exact Nat.zero_le N

/-! from 98r.load -/
/-! CALLS: load: the worlds that it leaves -/
section ZLOADW
variable {S : zSp} {σ σ' : zS} {N p p' s m : Nat} {h : Nat → Nat → Int32}
/-- a plan that was read -/
theorem zPl_read {F : Nat → Nat → Int32} {ln : Nat → Nat} {r : zRow} (PS : zPs (gr σ') ln p') (P : zPn F r) (U : ∀ v : Nat, v < 2 → ∀ k : Nat, k < 12 → (k : Int) < (r (25 + v)).toInt → zPu F r v k) (eF : ∀ k, k < 127 → gi σ' (p' + k) = F k) : zPl σ' ln p' r ∧ zCh σ' p' r := by
  have e0 : gi σ' p' = F 0 := eF 0 (by decide)
  obtain ⟨-, ⟨s1, s2⟩, ⟨s3, s4, s5, s6⟩, sk⟩ := PS
  obtain ⟨⟨a0, a1, a2, a3, a4⟩, b, d, e⟩ := P
  have d0 := (d 0 (by decide)).2.2
  have d1 := (d 1 (by decide)).2.2
  refine ⟨⟨⟨by rw [e0]; exact a0, by rw [e0]; exact a1, by rw [e0]; exact a3, by rw [e0]; exact a4⟩, ⟨s1, s2⟩, ⟨by rw [eF 3 (by decide)]; exact d0, by rw [eF 65 (by decide)]; exact d1⟩, ⟨s3, s4, s5, s6⟩, fun q hq k hk => ⟨⟨(sk q hq k hk).1, (sk q hq k hk).2.2.2.1, (sk q hq k hk).2.2.2.2.1, (sk q hq k hk).2.2.2.2.2.2⟩, fun hlt => ?_⟩⟩, fun q hq k hk hlt => ?_⟩
  · obtain ⟨u1, u2⟩ := U q hq k hk hlt
    rw [show p' + 8 + 62 * q + 5 * k = p' + (8 + 62 * q + 5 * k) by omega, show p' + 9 + 62 * q + 5 * k = p' + (9 + 62 * q + 5 * k) by omega, eF _ (by omega), eF _ (by omega)]
    exact ⟨u1, u2⟩
  · rw [show p' + 6 + 62 * q + 5 * k = p' + (6 + 62 * q + 5 * k) by omega, eF _ (by omega), (e q hq k hk hlt).1, Nat.add_assoc]
end ZLOADW

/-! from 98s.load2 -/
/-! CALLS: load -/
/-! from 98t.make1 -/
/-! MAKING: the states that are kept -/
theorem zMs_c {g g' : Nat → Nat → Option Nat} {ln ln' : Nat → Nat} {b : Nat} (M : zMs g ln b) (e : ∀ a, b ≤ a → a < b + 16 → g' a = g a ∧ ln' a = ln a) : zMs g' ln' b := by
  obtain ⟨⟨m1, m2, m3, m4, m5, m6⟩, ⟨a1, a2, a3, a4, a5, a6, a7, a8, a9⟩, ⟨l1, l2, l3, l4, l5, l6⟩⟩ := M
  unfold zMs
  rw [(e b (by omega) (by omega)).1, (e (b + 1) (by omega) (by omega)).1, (e (b + 2) (by omega) (by omega)).1, (e (b + 4) (by omega) (by omega)).1, (e (b + 5) (by omega) (by omega)).1, (e (b + 7) (by omega) (by omega)).1, (e (b + 8) (by omega) (by omega)).1, (e (b + 10) (by omega) (by omega)).1, (e (b + 12) (by omega) (by omega)).1, (e (b + 14) (by omega) (by omega)).1, (e (b + 3) (by omega) (by omega)).2, (e (b + 6) (by omega) (by omega)).2, (e (b + 9) (by omega) (by omega)).2, (e (b + 11) (by omega) (by omega)).2, (e (b + 13) (by omega) (by omega)).2, (e (b + 15) (by omega) (by omega)).2]
  exact ⟨⟨m1, m2, m3, m4, m5, m6⟩, ⟨a1, a2, a3, a4, a5, a6, a7, a8, a9⟩, ⟨l1, l2, l3, l4, l5, l6⟩⟩
/-- kept state q of the array k -/
def zkm (S : zSp) (σ : zS) (k q : Nat) : Prop := gr σ k q = some (k + 1 + 16 * q) ∧ zMs (gr σ) (zSl S) (k + 1 + 16 * q) ∧ KM σ (k + 1 + 16 * q) r00
theorem mkH15 {t k p : Nat} (ht : t < k) (hp : p + 127 ≤ k) {Q : zSp → zS → Prop} : ∀ (d i : Nat) (S : zSp) (σ : zS), i + d = 10 → gr σ t 0 = some k → zSl S k = 10 → zSk S = k + 1 + 16 * i → (∀ q, q < i → zkm S σ k q) → zPs (gr σ) (zSl S) p → zBg σ p r00 → (∀ S' σ', zNb k S σ S' σ' → zSk S' = k + 161 → zSl S' k = 10 → (∀ q, q < 10 → zkm S' σ' k q) → Q S' σ') → wX1_init_15 Q (d + 1) t p (nI i) S σ
  | 0, i, S, σ, hi, g, l, hk, hf, PS, BG, hq => by
    have e : nI (zSl S k) ≤ nI i := by rw [l]; exact nI_le (by omega) (by omega)
    rw [wX1_init_15]
    exact ⟨k, g, fun _ => hq S σ zNb.rf (by omega) l (fun q h => hf q (by omega)), fun hx => absurd e hx⟩
  | d + 1, i, S, σ, hi, g, l, hk, hf, PS, BG, hq => by
    have e : ¬ nI (zSl S k) ≤ nI i := by rw [l]; exact nI_ge (by omega) (by omega)
    rw [wX1_init_15]
    refine ⟨k, g, fun hx => absurd hx e, fun _ => ⟨k, g, fun a3 e3 S3 eS3 σ4 e4 => ?_⟩⟩
    rw [hk] at e3
    subst e3 eS3 e4
    refine mkM hk (by omega) PS BG (by decide) zPV_r00.2.2.2.2.1 (fun S5 σ5 B5 k5 M5 g5 K5 => ?_)
    have l5 : zSl S5 k = 10 := by rw [B5.l (by omega)]; exact l
    refine ⟨by rw [l5]; exact vp_in_nI (by omega) (by omega), fun σ8 e8 x9 e9 => ?_⟩
    rw [nI_clamp (by omega)] at e8
    rw [nI_1] at e9
    subst e8 e9
    have NB : zNb k S σ S5 (sr σ5 k i (some (k + 1 + 16 * i))) := (B5.mono (by omega)).tr (zNb_sr S5 σ5 k i _ (Nat.le_refl k))
    have ro : ∀ a, a ≠ k → gr (sr σ5 k i (some (k + 1 + 16 * i))) a = gr σ5 a := fun a ha => funext fun j => by rw [gr_sr, if_neg ha]
    refine mkH15 ht hp d (i + 1) S5 _ (by omega) ?_ l5 (by omega) (fun q hq2 => ?_) (zPs_b NB hp PS) (zBg_b NB hp BG) (fun S' σ' N' => hq S' σ' (NB.tr N'))
    · rw [NB.r ht]; exact g
    · by_cases eq : q = i
      · subst eq
        exact ⟨by rw [gr_sr, if_pos rfl, if_pos rfl], zMs_c M5 (fun a h1 h2 => ⟨ro a (by omega), rfl⟩), KM_o K5 (fun a h1 h2 => ⟨rfl, rfl⟩)⟩
      · obtain ⟨f1, f2, f3⟩ := hf q (by omega)
        refine ⟨?_, zMs_c f2 (fun a h1 h2 => ⟨(ro a (by omega)).trans (B5.r (by omega)), B5.l (by omega)⟩), KM_o f3 (fun a h1 h2 => ⟨B5.i (by omega), B5.g (by omega)⟩)⟩
        rw [gr_sr, if_pos rfl, if_neg eq, B5.r (by omega)]
        exact f1
theorem mkH {S : zSp} {σ : zS} {t p : Nat} (ht : zSk S = t) (hp : p + 127 ≤ t) (PS : zPs (gr σ) (zSl S) p) (BG : zBg σ p r00) {Q : zSp → zS → Prop} (hq : ∀ S' σ', zNb t S σ S' σ' → zSk S' = t + 162 → gr σ' t 0 = some (t + 1) → zSl S' (t + 1) = 10 → (∀ q, q < 10 → zkm S' σ' (t + 1) q) → (∀ j, gi σ' t j = 0) → Q S' σ') : wX1_init (zSpush S 1 0) (zfresh σ t) t p Q := by
  have k1 : zSk (zSpush S 1 0) = t + 1 := by rw [zSk_push, ht]
  have B1 := zNb_new S σ 1 0 ht (Nat.le_refl t)
  have z1 : gi (zfresh σ t) t = fun _ => 0 := zfresh_0 σ t
  generalize zSpush S 1 0 = S1 at k1 B1 ⊢
  generalize zfresh σ t = σ1 at B1 z1 ⊢
  intro a1 e1 S2 eS2 σ2 e2 σ3 e3
  rw [k1] at e1
  subst e1 eS2 e2 e3
  have B2 : zNb t S1 σ1 (zSpush S1 23 10) (sr (zfresh σ1 (t + 1)) t 0 (some (t + 1))) := (zNb_new S1 σ1 23 10 k1 (by omega)).tr (zNb_sr _ _ t 0 _ (Nat.le_refl t))
  have NB := B1.tr B2
  refine ⟨11, by decide, ?_⟩
  refine mkH15 (t := t) (k := t + 1) (p := p) (by omega) (by omega) 10 0 _ _ (by omega) (by rw [gr_sr, if_pos rfl, if_pos rfl]) ?_ (by rw [zSk_push, k1]) (fun q hq2 => absurd hq2 (Nat.not_lt_zero q)) (zPs_b NB hp PS) (zBg_b NB hp BG) (fun S' σ' N' s' l' h' => hq S' σ' (NB.tr (N'.mono (by omega))) s' ?_ l' h' (fun j => ?_))
  · rw [← k1]; exact zSl_new _ _ _
  · rw [N'.r (by omega), gr_sr, if_pos rfl, if_pos rfl]
  · rw [N'.i (by omega), gi_sr, gi_zf, if_neg (by omega), z1]

/-! from 98u.make11 -/
/-! MAKING: the class's object -/
/-- nothing of the cells below n has changed, but for the object's own -/
def zNx (n : Nat) (S : zSp) (σ : zS) (S' : zSp) (σ' : zS) : Prop := ∀ a, 0 < a → a < n → zSl S' a = zSl S a ∧ gr σ' a = gr σ a ∧ gi σ' a = gi σ a ∧ gl σ' a = gl σ a
theorem zNb.x {n : Nat} {S S' : zSp} {σ σ' : zS} (h : zNb n S σ S' σ') : zNx n S σ S' σ' := fun a _ ha => ⟨h.l ha, h.r ha, h.i ha, h.g ha⟩
theorem zNx.tr {n : Nat} {S S' S'' : zSp} {σ σ' σ'' : zS} (h : zNx n S σ S' σ') (g : zNx n S' σ' S'' σ'') : zNx n S σ S'' σ'' := fun a h0 ha => by
  obtain ⟨h1, h2, h3, h4⟩ := h a h0 ha
  obtain ⟨g1, g2, g3, g4⟩ := g a h0 ha
  exact ⟨g1.trans h1, g2.trans h2, g3.trans h3, g4.trans h4⟩
theorem zNx.mono {n m : Nat} {S S' : zSp} {σ σ' : zS} (h : zNx n S σ S' σ') (e : m ≤ n) : zNx m S σ S' σ' := fun a h0 ha => h a h0 (by omega)
theorem zNx_sr {n : Nat} (S : zSp) (σ : zS) (k : Nat) (v : Option Nat) : zNx n S σ S (sr σ 0 k v) := fun a h0 _ => ⟨rfl, funext fun j => by rw [gr_sr, if_neg (by omega)], rfl, rfl⟩
theorem zNx_si {n : Nat} (S : zSp) (σ : zS) (k : Nat) (v : Int32) : zNx n S σ S (si σ 0 k v) := fun a h0 _ => ⟨rfl, rfl, funext fun j => by rw [gi_si, if_neg (by omega)], rfl⟩
theorem zPs_x {n p : Nat} {S S' : zSp} {σ σ' : zS} (h : zNx n S σ S' σ') (h0 : 0 < p) (hp : p + 127 ≤ n) (P : zPs (gr σ) (zSl S) p) : zPs (gr σ') (zSl S') p := by
  obtain ⟨⟨p1, p2, p3⟩, ⟨p4, p5⟩, ⟨p6, p7, p8, p9⟩, pk⟩ := P
  have r : ∀ a, p ≤ a → a < p + 127 → gr σ' a = gr σ a := fun a h1 h2 => (h a (by omega) (by omega)).2.1
  have l : ∀ a, p ≤ a → a < p + 127 → zSl S' a = zSl S a := fun a h1 h2 => (h a (by omega) (by omega)).1
  refine ⟨⟨?_, ?_, ?_⟩, ⟨?_, ?_⟩, ⟨?_, ?_, ?_, ?_⟩, fun q hq k hk => ?_⟩
  · rw [r _ (by omega) (by omega)]; exact p1
  · rw [r _ (by omega) (by omega)]; exact p2
  · rw [l _ (by omega) (by omega)]; exact p3
  · rw [r _ (by omega) (by omega)]; exact p4
  · rw [r _ (by omega) (by omega)]; exact p5
  · rw [r _ (by omega) (by omega)]; exact p6
  · rw [r _ (by omega) (by omega)]; exact p7
  · rw [l _ (by omega) (by omega)]; exact p8
  · rw [l _ (by omega) (by omega)]; exact p9
  · rw [r _ (by omega) (by omega), r _ (by omega) (by omega), r _ (by omega) (by omega), r _ (by omega) (by omega), l _ (by omega) (by omega), l _ (by omega) (by omega)]
    exact pk q hq k hk
theorem zP0_x {n p : Nat} {S S' : zSp} {σ σ' : zS} (h : zNx n S σ S' σ') (h0 : 0 < p) (hp : p + 127 ≤ n) (P : zP0 σ p) : zP0 σ' p := by
  have i : ∀ a, p ≤ a → a < p + 127 → gi σ' a = gi σ a := fun a h1 h2 => (h a (by omega) (by omega)).2.2.1
  unfold zP0
  rw [i p (by omega) (by omega), i (p + 1) (by omega) (by omega), i (p + 3) (by omega) (by omega), i (p + 65) (by omega) (by omega)]
  exact P
theorem zP0_B {σ : zS} {p : Nat} (P : zP0 σ p) : zBg σ p r00 := by
  obtain ⟨⟨a0, a1, a2, a3, a4⟩, b, ⟨d0, d1, d2⟩, e0, e1, e2⟩ := P
  exact ⟨a2, ⟨d0, d1⟩, ⟨e0, e1⟩, b, fun k hk => absurd hk (Nat.not_lt_zero k)⟩
/-- the class's object as it was made -/
def zMade (S : zSp) (σ : zS) : Prop := zSk S = 455 ∧ (gr σ 0 0 = some 1 ∧ gr σ 0 1 = some 3 ∧ gr σ 0 2 = some 5 ∧ gr σ 0 3 = some 261 ∧ gr σ 0 4 = some 277 ∧ gr σ 0 5 = some 293 ∧ gr σ 0 6 = some 7 ∧ gr σ 0 7 = some 134) ∧ gi σ 0 8 = -1 ∧ (gr σ 1 0 = some 2 ∧ zSl S 2 = 600 ∧ gi σ 1 1 = 0) ∧ (gr σ 3 0 = some 4 ∧ gr σ 4 2 = some 1) ∧ (gr σ 5 0 = some 6 ∧ zSl S 6 = 16 ∧ (∀ j, gi σ 5 j = 0) ∧ ∀ j, gi σ 6 j = 0) ∧ (zPs (gr σ) (zSl S) 7 ∧ zP0 σ 7) ∧ zPs (gr σ) (zSl S) 134 ∧ (gr σ 261 0 = some 7 ∧ zMs (gr σ) (zSl S) 261 ∧ KM σ 261 r00) ∧ (zMs (gr σ) (zSl S) 277 ∧ KM σ 277 r00) ∧ (gr σ 293 0 = some 294 ∧ zSl S 294 = 10 ∧ (∀ j, gi σ 293 j = 0) ∧ ∀ q, q < 10 → zkm S σ 294 q)
set_option maxHeartbeats 4000000 in
theorem mkX {S : zSp} {σ : zS} (hS : zSk S = 1) (hz : ∀ j, gi σ 0 j = 0) {Q : zSp → zS → Prop} (hq : ∀ S' σ', zMade S' σ' → Q S' σ') : wX11_init S σ 0 Q := by
  intro a1 e1 S1 eS1 σ2 e2
  rw [hS] at e1
  subst e1 eS1 e2
  refine mkR (n := 600) rfl (by decide) hS (fun S3 σ3 B3 k3 l3 g3 z3 z3' => ?_)
  have k3 : zSk S3 = 3 := k3
  intro σ5 e5 a6 e6 S6 eS6 σ7 e7
  rw [k3] at e6
  subst e5 e6 eS6 e7
  have p6 : zSk (zSpush S3 5 0) = 4 := by rw [zSk_push, k3]
  refine ⟨1, by rw [gr_zf, if_neg (by decide), gr_sr, if_pos rfl, if_pos rfl], ?_⟩
  -- the parser and the tokens
  have X6 : zNx 3 S3 σ3 (zSpush S3 5 0) (zfresh (sr σ3 0 0 (some 1)) 3) := (zNx_sr S3 σ3 0 _).tr (zNb_new S3 _ 5 0 k3 (by decide)).x
  have G6 : ∀ j, gr (zfresh (sr σ3 0 0 (some 1)) 3) 0 j = gr (sr σ3 0 0 (some 1)) 0 j := fun j => by rw [gr_zf, if_neg (by decide)]
  have I6 : ∀ j, gi (zfresh (sr σ3 0 0 (some 1)) 3) 0 j = gi σ3 0 j := fun j => by rw [gi_zf, if_neg (by decide), gi_sr]
  generalize zSpush S3 5 0 = S6 at p6 X6 ⊢
  generalize zfresh (sr σ3 0 0 (some 1)) 3 = σ7 at X6 G6 I6 ⊢
  intro a1 e1 S1 eS1 σ2 e2 σ1 e1' σ5 e5 σ11 e11 a12 e12 S12 eS12 σ13 e13
  rw [p6] at e1
  subst e1 eS1 e2 e1' e5 e11
  have p9 : zSk (zSpush S6 10 0) = 5 := by rw [zSk_push, p6]
  rw [p9] at e12
  subst e12 eS12 e13
  have X9 : zNx 3 S6 σ7 (zSpush S6 10 0) (sr (sr (sr (zfresh σ7 4) 4 2 (some 1)) 3 0 (some 4)) 0 1 (some 3)) := ((zNb_new S6 σ7 10 0 p6 (by decide)).x.tr (((zNb_sr _ _ 4 2 _ (by decide)).tr (zNb_sr _ _ 3 0 _ (by decide))).x)).tr (zNx_sr _ _ 1 _)
  have G9 : ∀ j, gr (sr (sr (sr (zfresh σ7 4) 4 2 (some 1)) 3 0 (some 4)) 0 1 (some 3)) 0 j = gr (sr σ7 0 1 (some 3)) 0 j := fun j => by simp only [gr_sr, gr_zf, if_true, if_false, Nat.reduceEqDiff]
  have I9 : ∀ j, gi (sr (sr (sr (zfresh σ7 4) 4 2 (some 1)) 3 0 (some 4)) 0 1 (some 3)) 0 j = gi σ7 0 j := fun j => by rw [gi_sr, gi_sr, gi_sr, gi_zf, if_neg (by decide)]
  have T3 : gr (sr (sr (sr (zfresh σ7 4) 4 2 (some 1)) 3 0 (some 4)) 0 1 (some 3)) 3 0 = some 4 := by rw [gr_sr, if_neg (by decide), gr_sr, if_pos rfl, if_pos rfl]
  have T4 : gr (sr (sr (sr (zfresh σ7 4) 4 2 (some 1)) 3 0 (some 4)) 0 1 (some 3)) 4 2 = some 1 := by rw [gr_sr, if_neg (by decide), gr_sr, if_neg (by decide), gr_sr, if_pos rfl, if_pos rfl]
  generalize sr (sr (sr (zfresh σ7 4) 4 2 (some 1)) 3 0 (some 4)) 0 1 (some 3) = σ11 at X9 G9 I9 T3 T4 ⊢
  generalize zSpush S6 10 0 = S9 at p9 X9 ⊢
  -- the text
  unfold wJ4_init_da8c8 wJ5_init_d00df
  refine ⟨fun x => absurd x (by decide), fun _ => ⟨by decide, by decide, fun a1 e1 S1 eS1 σ4 e4 σ5 e5 σ6 e6 => ?_⟩⟩
  have p12 : zSk (zSpush S9 13 0) = 6 := by rw [zSk_push, p9]
  rw [p12] at e1
  have c16 : (16 : Int32).toNatClampNeg = 16 := rfl
  rw [c16] at eS1
  subst e1 eS1 e4 e5 e6
  have p14 : zSk (zSpush (zSpush S9 13 0) 21 16) = 7 := by rw [zSk_push, p12]
  intro σ16 e16 a17 e17 S17 eS17 σ18 e18
  rw [p14] at e17
  subst e16 e17 eS17 e18
  have X14 : zNx 5 S9 σ11 (zSpush (zSpush S9 13 0) 21 16) (sr (si (sr (zfresh (zfresh σ11 5) 6) 5 0 (some 6)) 5 1 0) 0 2 (some 5)) := (((zNb_new S9 σ11 13 0 p9 (by decide)).tr (zNb_new _ _ 21 16 p12 (by decide))).x.tr ((zNb_sr _ _ 5 0 _ (by decide)).tr (zNb_si _ _ 5 1 _ (by decide))).x).tr (zNx_sr _ _ 2 _)
  have G14 : ∀ j, gr (sr (si (sr (zfresh (zfresh σ11 5) 6) 5 0 (some 6)) 5 1 0) 0 2 (some 5)) 0 j = gr (sr σ11 0 2 (some 5)) 0 j := fun j => by simp only [gr_sr, gr_si, gr_zf, if_true, if_false, Nat.reduceEqDiff]
  have I14 : ∀ j, gi (sr (si (sr (zfresh (zfresh σ11 5) 6) 5 0 (some 6)) 5 1 0) 0 2 (some 5)) 0 j = gi σ11 0 j := fun j => by rw [gi_sr, gi_si, if_neg (by decide), gi_sr, gi_zf, if_neg (by decide), gi_zf, if_neg (by decide)]
  have T5 : gr (sr (si (sr (zfresh (zfresh σ11 5) 6) 5 0 (some 6)) 5 1 0) 0 2 (some 5)) 5 0 = some 6 := by rw [gr_sr, if_neg (by decide), gr_si, gr_sr, if_pos rfl, if_pos rfl]
  have T5i : ∀ j, gi (sr (si (sr (zfresh (zfresh σ11 5) 6) 5 0 (some 6)) 5 1 0) 0 2 (some 5)) 5 j = 0 := fun j => by
    simp only [gi_sr, gi_si, gi_zf, if_true, if_false, Nat.reduceEqDiff, ite_self]
  have T6i : ∀ j, gi (sr (si (sr (zfresh (zfresh σ11 5) 6) 5 0 (some 6)) 5 1 0) 0 2 (some 5)) 6 j = 0 := fun j => by rw [gi_sr, gi_si, if_neg (by decide), gi_sr, gi_zf, if_pos rfl]
  have T6l : zSl (zSpush (zSpush S9 13 0) 21 16) 6 = 16 := by
    have := zSl_new (zSpush S9 13 0) 21 16
    rw [p12] at this
    exact this
  generalize sr (si (sr (zfresh (zfresh σ11 5) 6) 5 0 (some 6)) 5 1 0) 0 2 (some 5) = σ16 at X14 G14 I14 T5 T5i T6i ⊢
  generalize zSpush (zSpush S9 13 0) 21 16 = S14 at p14 X14 T6l ⊢
  -- the plans
  refine mkP p14 (fun S19 σ19 B19 k19 P7 Z7 => ?_)
  have k19 : zSk S19 = 134 := k19
  intro σ21 e21 a22 e22 S22 eS22 σ23 e23
  rw [k19] at e22
  subst e21 e22 eS22 e23
  refine mkP k19 (fun S24 σ24 B24 k24 P134 Z134 => ?_)
  have k24 : zSk S24 = 261 := k24
  intro σ26 e26 σ27 e27 a28 e28 S28 eS28 σ29 e29
  rw [k24] at e28
  subst e26 e27 e28 eS28 e29
  have X19 : zNx 134 S19 σ19 S24 σ24 := (zNx_sr S19 σ19 6 _).tr B24.x
  have X24 : zNx 261 S24 σ24 S24 (si (sr σ24 0 7 (some 134)) 0 8 (-1)) := (zNx_sr S24 σ24 7 _).tr (zNx_si _ _ 8 _)
  have G19 : ∀ j, gr σ19 0 j = gr σ16 0 j := fun j => by rw [B19.r (by decide)]
  have G24 : ∀ j, gr σ24 0 j = gr (sr σ19 0 6 (some 7)) 0 j := fun j => by rw [B24.r (by decide)]
  have g6 : gr (zfresh (si (sr σ24 0 7 (some 134)) 0 8 (-1)) 261) 0 6 = some 7 := by
    rw [gr_zf, if_neg (by decide), gr_si, gr_sr, if_pos rfl, if_neg (by decide), G24, gr_sr, if_pos rfl, if_pos rfl]
  refine ⟨7, g6, ?_⟩
  have Pa := zPs_x (X19.tr (X24.mono (by decide))) (by decide) (by decide) P7
  have Za := zP0_x (X19.tr (X24.mono (by decide))) (by decide) (by decide) Z7
  have Pb := zPs_x X24 (by decide) (by decide) P134
  have G27 : ∀ j, gr (si (sr σ24 0 7 (some 134)) 0 8 (-1)) 0 j = gr (sr σ24 0 7 (some 134)) 0 j := fun j => by rw [gr_si]
  have I27 : gi (si (sr σ24 0 7 (some 134)) 0 8 (-1)) 0 8 = -1 := by rw [gi_si, if_pos rfl, if_pos rfl]
  generalize si (sr σ24 0 7 (some 134)) 0 8 (-1) = σ27 at X24 Pa Za Pb G27 I27 g6 ⊢
  -- the machines
  refine mkM k24 (by decide) Pa (zP0_B Za) (by decide) zPV_r00.2.2.2.2.1 (fun S31 σ31 B31 k31 M31 g31 K31 => ?_)
  have k31 : zSk S31 = 277 := k31
  intro σ33 e33 a34 e34 S34 eS34 σ35 e35
  rw [k31] at e34
  subst e33 e34 eS34 e35
  have G31 : ∀ j, gr σ31 0 j = gr σ27 0 j := fun j => by rw [B31.r (by decide)]
  have h6 : gr (sr σ31 0 3 (some 261)) 0 6 = some 7 := by
    rw [gr_zf, if_neg (by decide)] at g6
    rw [gr_sr, if_pos rfl, if_neg (by decide), G31]
    exact g6
  refine ⟨7, by rw [gr_zf, if_neg (by decide)]; exact h6, ?_⟩
  have X31 : zNx 277 S31 σ31 S31 (sr σ31 0 3 (some 261)) := zNx_sr S31 σ31 3 _
  have Y31 : zNx 261 S24 σ27 S31 (sr σ31 0 3 (some 261)) := B31.x.tr (X31.mono (by decide))
  refine mkM k31 (by decide) (zPs_x Y31 (by decide) (by decide) Pa) (zP0_B (zP0_x Y31 (by decide) (by decide) Za)) (by decide) zPV_r00.2.2.2.2.1 (fun S37 σ37 B37 k37 M37 g37 K37 => ?_)
  have k37 : zSk S37 = 293 := k37
  intro σ39 e39 a40 e40 S40 eS40 σ41 e41
  rw [k37] at e40
  subst e39 e40 eS40 e41
  have G37 : ∀ j, gr σ37 0 j = gr (sr σ31 0 3 (some 261)) 0 j := fun j => by rw [B37.r (by decide)]
  refine ⟨7, by rw [gr_zf, if_neg (by decide), gr_sr, if_pos rfl, if_neg (by decide), G37]; exact h6, ?_⟩
  have X37 : zNx 293 S37 σ37 S37 (sr σ37 0 4 (some 277)) := zNx_sr S37 σ37 4 _
  have Y37 : zNx 261 S24 σ27 S37 (sr σ37 0 4 (some 277)) := Y31.tr ((B37.x.mono (by decide)).tr (X37.mono (by decide)))
  refine mkH k37 (by decide) (zPs_x Y37 (by decide) (by decide) Pa) (zP0_B (zP0_x Y37 (by decide) (by decide) Za)) (fun S43 σ43 B43 k43 g43 l43 h43 z43 => ?_)
  have k43 : zSk S43 = 455 := k43
  intro σ45 e45
  subst e45
  have G43 : ∀ j, gr σ43 0 j = gr (sr σ37 0 4 (some 277)) 0 j := fun j => by rw [B43.r (by decide)]
  have E8 : zNx 455 S43 σ43 S43 (sr σ43 0 5 (some 293)) := zNx_sr S43 σ43 5 _
  have E7 : zNx 293 S37 σ37 S43 (sr σ43 0 5 (some 293)) := X37.tr (B43.x.tr (E8.mono (by decide)))
  have E6 : zNx 277 S31 σ31 S43 (sr σ43 0 5 (some 293)) := X31.tr (B37.x.tr (E7.mono (by decide)))
  have E5 : zNx 261 S24 σ27 S43 (sr σ43 0 5 (some 293)) := B31.x.tr (E6.mono (by decide))
  have E4 : zNx 134 S19 σ19 S43 (sr σ43 0 5 (some 293)) := X19.tr ((X24.mono (by decide)).tr (E5.mono (by decide)))
  have E3 : zNx 7 S14 σ16 S43 (sr σ43 0 5 (some 293)) := B19.x.tr (E4.mono (by decide))
  have E2 : zNx 5 S9 σ11 S43 (sr σ43 0 5 (some 293)) := X14.tr (E3.mono (by decide))
  have E1 : zNx 3 S3 σ3 S43 (sr σ43 0 5 (some 293)) := X6.tr (X9.tr (E2.mono (by decide)))
  refine hq S43 _ ⟨k43, ⟨?_, ?_, ?_, ?_, ?_, ?_, ?_, ?_⟩, ?_, ⟨?_, ?_, ?_⟩, ⟨?_, ?_⟩, ⟨?_, ?_, fun j => ?_, fun j => ?_⟩, ⟨?_, ?_⟩, ?_, ⟨?_, ?_, ?_⟩, ⟨?_, ?_⟩, ⟨?_, ?_, fun j => ?_, fun q hq2 => ?_⟩⟩
  · simp only [gr_sr, if_true, if_false, Nat.reduceEqDiff, G43, G37, G31, G27, G24, G19, G14, G9, G6]
  · simp only [gr_sr, if_true, if_false, Nat.reduceEqDiff, G43, G37, G31, G27, G24, G19, G14, G9, G6]
  · simp only [gr_sr, if_true, if_false, Nat.reduceEqDiff, G43, G37, G31, G27, G24, G19, G14, G9, G6]
  · simp only [gr_sr, if_true, if_false, Nat.reduceEqDiff, G43, G37, G31, G27, G24, G19, G14, G9, G6]
  · simp only [gr_sr, if_true, if_false, Nat.reduceEqDiff, G43, G37, G31, G27, G24, G19, G14, G9, G6]
  · simp only [gr_sr, if_true, if_false, Nat.reduceEqDiff, G43, G37, G31, G27, G24, G19, G14, G9, G6]
  · simp only [gr_sr, if_true, if_false, Nat.reduceEqDiff, G43, G37, G31, G27, G24, G19, G14, G9, G6]
  · simp only [gr_sr, if_true, if_false, Nat.reduceEqDiff, G43, G37, G31, G27, G24, G19, G14, G9, G6]
  · rw [gi_sr, B43.i (by decide), gi_sr, B37.i (by decide), gi_sr, B31.i (by decide)]; exact I27
  · rw [(E1 1 (by decide) (by decide)).2.1]; exact g3
  · rw [(E1 2 (by decide) (by decide)).1]; exact l3
  · rw [(E1 1 (by decide) (by decide)).2.2.1, z3]
  · rw [(E2 3 (by decide) (by decide)).2.1]; exact T3
  · rw [(E2 4 (by decide) (by decide)).2.1]; exact T4
  · rw [(E3 5 (by decide) (by decide)).2.1]; exact T5
  · rw [(E3 6 (by decide) (by decide)).1]; exact T6l
  · rw [(E3 5 (by decide) (by decide)).2.2.1]; exact T5i j
  · rw [(E3 6 (by decide) (by decide)).2.2.1]; exact T6i j
  · exact zPs_x E4 (by decide) (by decide) P7
  · exact zP0_x E4 (by decide) (by decide) Z7
  · exact zPs_x E5 (by decide) (by decide) Pb
  · rw [(E6 261 (by decide) (by decide)).2.1]; exact g31
  · exact zMs_c M31 (fun a h1 h2 => ⟨(E6 a (by omega) (by omega)).2.1, (E6 a (by omega) (by omega)).1⟩)
  · exact KM_o K31 (fun a h1 h2 => ⟨(E6 a (by omega) (by omega)).2.2.1, (E6 a (by omega) (by omega)).2.2.2⟩)
  · exact zMs_c M37 (fun a h1 h2 => ⟨(E7 a (by omega) (by omega)).2.1, (E7 a (by omega) (by omega)).1⟩)
  · exact KM_o K37 (fun a h1 h2 => ⟨(E7 a (by omega) (by omega)).2.2.1, (E7 a (by omega) (by omega)).2.2.2⟩)
  · rw [(E8 293 (by decide) (by decide)).2.1]; exact g43
  · exact l43
  · rw [(E8 293 (by decide) (by decide)).2.2.1]; exact z43 j
  · obtain ⟨f1, f2, f3⟩ := h43 q hq2
    exact ⟨by rw [(E8 294 (by decide) (by decide)).2.1]; exact f1, zMs_c f2 (fun a h1 h2 => ⟨(E8 a (by omega) (by omega)).2.1, rfl⟩), KM_o f3 (fun a h1 h2 => ⟨rfl, rfl⟩)⟩

/-! from 98v.make12 -/
/-! MAKING: the model's object; the first world -/
theorem zSl_p (S : zSp) (kd n a : Nat) : zSl (zSpush S kd n) a = if a = zSk S then n else zSl S a := rfl
