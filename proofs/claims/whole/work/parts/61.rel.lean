/-! THE RELATION of the class's machine to the model's row -/
def ring (wk : Prop) (cap s n : Nat) (c e : Nat → Int32) : Prop := ∀ k, k < n → ∀ i, i < 3 → (wk → i = 2 → e (3 * k + 1) = 0) → c (3 * rix cap s k + i) = e (3 * k + i)
theorem ring_cong {wk : Prop} {cap s n : Nat} {c c' e e' : Nat → Int32} (h : ring wk cap s n c e) (hc : c' = c) (he : ∀ j, j < 3 * n → e' j = e j) : ring wk cap s n c' e' := by
  intro k hk i hi hw
  rw [hc, he _ (by omega)]
  exact h k hk i hi (fun a b => by rw [← he _ (by omega)]; exact hw a b)
theorem ring_put {wk : Prop} {cap s n : Nat} {c e : Nat → Int32} (h : ring wk cap s n c e) (hs : s < cap) (hn : n < cap) {a1 a2 a3 b3 : Int32} (h3 : (wk → a2 = 0) → a3 = b3) : ring wk cap s (n + 1) (zu (zu (zu c (3 * rix cap s n) a1) (3 * rix cap s n + 1) a2) (3 * rix cap s n + 2) a3) (zu (zu (zu e (3 * n) a1) (3 * n + 1) a2) (3 * n + 2) b3) := by
  intro k hk i hi hw
  by_cases hkn : k = n
  · subst hkn
    have h1 : zu (zu (zu e (3 * k) a1) (3 * k + 1) a2) (3 * k + 2) b3 (3 * k + 1) = a2 := by rw [zu_ne (by omega), zu_self]
    rw [h1] at hw
    rcases (show i = 0 ∨ i = 1 ∨ i = 2 by omega) with rfl | rfl | rfl
    · generalize 3 * rix cap s k = X
      generalize 3 * k = Z
      simp [zu_ap]
    · generalize 3 * rix cap s k = X
      generalize 3 * k = Z
      simp [zu_ap]
    · rw [zu_self, zu_self]
      exact h3 (fun a => hw a rfl)
  · have hd : rix cap s k ≠ rix cap s n := fun e => hkn (rix_inj hs (by omega) hn e)
    have he : ∀ i, i < 3 → zu (zu (zu e (3 * n) a1) (3 * n + 1) a2) (3 * n + 2) b3 (3 * k + i) = e (3 * k + i) := fun i hi => by rw [zu_ne (by omega), zu_ne (by omega), zu_ne (by omega)]
    rw [zu_ne (by omega), zu_ne (by omega), zu_ne (by omega), he i hi]
    exact h k (by omega) i hi (fun a b => by rw [← he 1 (by omega)]; exact hw a b)
theorem rix_next {cap s k : Nat} (hs : s < cap) (hk : k + 1 < cap) : rix cap (if s + 1 < cap then s + 1 else 0) k = rix cap s (k + 1) := by
  unfold rix
  by_cases h : s + 1 < cap
  · rw [if_pos h]
    by_cases h2 : s + (k + 1) < cap
    · rw [if_pos h2, if_pos (by omega)]; omega
    · rw [if_neg h2, if_neg (by omega)]; omega
  · rw [if_neg h]
    rw [if_neg (show ¬ s + (k + 1) < cap by omega), if_pos (by omega)]; omega
theorem ring_drop {wk : Prop} {cap s n : Nat} {c e : Nat → Int32} (h : ring wk cap s n c e) (hs : s < cap) (hn : 0 < n) (hn2 : n ≤ cap) : ring wk cap (if s + 1 < cap then s + 1 else 0) (n - 1) c (fun j => e (j + 3)) := by
  intro k hk i hi hw
  rw [rix_next hs (by omega)]
  have e1 : 3 * k + i + 3 = 3 * (k + 1) + i := by omega
  show _ = e (3 * k + i + 3)
  rw [e1]
  refine h (k + 1) (by omega) i hi (fun a b => ?_)
  have h9 : e (3 * k + 1 + 3) = 0 := hw a b
  have e2 : 3 * k + 1 + 3 = 3 * (k + 1) + 1 := by omega
  rw [e2] at h9
  exact h9
def RS (f : Nat → Nat → Int32) (r : Nat → Int32) : Prop := f 0 1 = r 5 ∧ f 0 2 = r 2 ∧ f 0 3 = r 6 ∧ f 0 4 = r 7 ∧ (r 7 = 1 → f 0 5 = r 8) ∧ f 0 6 = r 9 ∧ f 0 7 = r 10 ∧ f 0 8 = r 15 ∧ f 0 9 = r 16 ∧ f 0 10 = r 17
def RO (f : Nat → Nat → Int32) (r : Nat → Int32) (q : Nat) : Prop := f (1 + 3 * q) 0 = r (21 + q) ∧ f (1 + 3 * q) 1 = r (23 + q) ∧ f (1 + 3 * q) 2 = r (27 + q) ∧ f (1 + 3 * q) 3 = r (31 + q) ∧ f (1 + 3 * q) 4 = r (33 + q) ∧ f (1 + 3 * q) 5 = r (35 + q)
def RV (f : Nat → Nat → Int32) (r : Nat → Int32) (q : Nat) : Prop := f (2 + 3 * q) 1 = r (29 + q) ∧ ∀ k, k < (r (29 + q)).toNatClampNeg → f (3 + 3 * q) k = r (963 + 1000 * q + k)
def RB (f : Nat → Nat → Int32) (r : Nat → Int32) : Prop := f 7 1 = r 12 ∧ f 7 2 = r 13 ∧ f 7 3 = r 14 ∧ f 8 1 = r 11 ∧ ∀ k, k < (r 11).toNatClampNeg → f 9 k = r (59 + k)
def RT (f : Nat → Nat → Int32) (r : Nat → Int32) : Prop := f 10 0 = nI 640 ∧ f 10 3 = r 19 ∧ ∃ s, s < 640 ∧ f 10 2 = nI s ∧ ring True 640 s (r 19).toNatClampNeg (f 11) (fun j => r (2963 + j))
def RE (f : Nat → Nat → Int32) (r : Nat → Int32) : Prop := f 12 0 = nI 40 ∧ f 12 3 = r 18 ∧ ∃ s, s < 40 ∧ f 12 2 = nI s ∧ ring False 40 s (r 18).toNatClampNeg (f 13) (fun j => r (99 + j))
def RZ (f : Nat → Nat → Int32) (r : Nat → Int32) : Prop := f 14 1 = r 20 ∧ ∀ k, k < (r 20).toNatClampNeg → f 15 k = r (39 + k)
def RR (f : Nat → Nat → Int32) (s0 s1 : Int64) (r : Nat → Int32) : Prop := RS f r ∧ (RO f r 0 ∧ RO f r 1) ∧ (RV f r 0 ∧ RV f r 1) ∧ RB f r ∧ RT f r ∧ RE f r ∧ RZ f r ∧ s0 = (r 37).toInt64 ∧ s1 = (r 38).toInt64
theorem RS_c {f f' : Nat → Nat → Int32} {r r' : Nat → Int32} (h : RS f r) (e : f' 0 = f 0) (er : ∀ k, k = 2 ∨ (5 ≤ k ∧ k ≤ 10) ∨ (15 ≤ k ∧ k ≤ 17) → r' k = r k) : RS f' r' := by
  unfold RS
  rw [e, er 5 (by omega), er 2 (by omega), er 6 (by omega), er 7 (by omega), er 8 (by omega), er 9 (by omega), er 10 (by omega), er 15 (by omega), er 16 (by omega), er 17 (by omega)]
  exact h
theorem RO_c {f f' : Nat → Nat → Int32} {r r' : Nat → Int32} {q : Nat} (h : RO f r q) (e : f' (1 + 3 * q) = f (1 + 3 * q)) (er : ∀ k, k = 21 + q ∨ k = 23 + q ∨ k = 27 + q ∨ k = 31 + q ∨ k = 33 + q ∨ k = 35 + q → r' k = r k) : RO f' r' q := by
  unfold RO
  rw [e, er (21 + q) (by omega), er (23 + q) (by omega), er (27 + q) (by omega), er (31 + q) (by omega), er (33 + q) (by omega), er (35 + q) (by omega)]
  exact h
theorem RV_c {f f' : Nat → Nat → Int32} {r r' : Nat → Int32} {q : Nat} (h : RV f r q) (e : f' (2 + 3 * q) = f (2 + 3 * q)) (e2 : f' (3 + 3 * q) = f (3 + 3 * q)) (er : r' (29 + q) = r (29 + q)) (er2 : ∀ k, k < (r (29 + q)).toNatClampNeg → r' (963 + 1000 * q + k) = r (963 + 1000 * q + k)) : RV f' r' q := by
  unfold RV
  rw [e, e2, er]
  exact ⟨h.1, fun k hk => by rw [er2 k hk]; exact h.2 k hk⟩
theorem RB_c {f f' : Nat → Nat → Int32} {r r' : Nat → Int32} (h : RB f r) (e : f' 7 = f 7) (e2 : f' 8 = f 8) (e3 : f' 9 = f 9) (er : ∀ k, 11 ≤ k ∧ k ≤ 14 → r' k = r k) (er2 : ∀ k, k < (r 11).toNatClampNeg → r' (59 + k) = r (59 + k)) : RB f' r' := by
  unfold RB
  rw [e, e2, e3, er 11 (by omega), er 12 (by omega), er 13 (by omega), er 14 (by omega)]
  exact ⟨h.1, h.2.1, h.2.2.1, h.2.2.2.1, fun k hk => by rw [er2 k hk]; exact h.2.2.2.2 k hk⟩
theorem RT_c {f f' : Nat → Nat → Int32} {r r' : Nat → Int32} (h : RT f r) (e : f' 10 = f 10) (e2 : f' 11 = f 11) (er : r' 19 = r 19) (er2 : ∀ j, j < 3 * (r 19).toNatClampNeg → r' (2963 + j) = r (2963 + j)) : RT f' r' := by
  obtain ⟨h1, h2, s, h3, h4, h5⟩ := h
  unfold RT
  rw [e, er]
  exact ⟨h1, h2, s, h3, h4, ring_cong h5 e2 er2⟩
theorem RE_c {f f' : Nat → Nat → Int32} {r r' : Nat → Int32} (h : RE f r) (e : f' 12 = f 12) (e2 : f' 13 = f 13) (er : r' 18 = r 18) (er2 : ∀ j, j < 3 * (r 18).toNatClampNeg → r' (99 + j) = r (99 + j)) : RE f' r' := by
  obtain ⟨h1, h2, s, h3, h4, h5⟩ := h
  unfold RE
  rw [e, er]
  exact ⟨h1, h2, s, h3, h4, ring_cong h5 e2 er2⟩
theorem RZ_c {f f' : Nat → Nat → Int32} {r r' : Nat → Int32} (h : RZ f r) (e : f' 14 = f 14) (e2 : f' 15 = f 15) (er : r' 20 = r 20) (er2 : ∀ k, k < (r 20).toNatClampNeg → r' (39 + k) = r (39 + k)) : RZ f' r' := by
  unfold RZ
  rw [e, e2, er]
  exact ⟨h.1, fun k hk => by rw [er2 k hk]; exact h.2 k hk⟩
/-- the machine's references and lengths -/
def zMs (g : Nat → Nat → Option Nat) (ln : Nat → Nat) (b : Nat) : Prop := (g b 11 = some (b + 1) ∧ g b 12 = some (b + 4) ∧ g b 13 = some (b + 7) ∧ g b 14 = some (b + 10) ∧ g b 15 = some (b + 12) ∧ g b 16 = some (b + 14)) ∧ (g (b + 1) 7 = some (b + 2) ∧ g (b + 4) 7 = some (b + 5) ∧ g (b + 2) 0 = some (b + 3) ∧ g (b + 5) 0 = some (b + 6) ∧ g (b + 7) 0 = some (b + 8) ∧ g (b + 8) 0 = some (b + 9) ∧ g (b + 10) 1 = some (b + 11) ∧ g (b + 12) 1 = some (b + 13) ∧ g (b + 14) 0 = some (b + 15)) ∧ (ln (b + 3) = 1000 ∧ ln (b + 6) = 1000 ∧ ln (b + 9) = 40 ∧ ln (b + 11) = 3 * 640 ∧ ln (b + 13) = 3 * 40 ∧ ln (b + 15) = 20)
theorem C_clears {ln : Nat → Nat} {σ : zS} {b : Nat} {f : Nat → Nat → Int32} {s0 s1 : Int64} {r : Nat → Int32} (S : zMs (gr σ) ln b) (h : RR f s0 s1 r) (hb : 0 ≤ (r 11).toInt) {Q : zS → Prop} (hq : ∀ f', RR f' s0 s1 (rClears r) → Q (zcs σ b f' s0 s1)) : wX7_clear ln (zcs σ b f s0 s1) (b + 7) Q := by
  obtain ⟨⟨m1, m2, m3, m4, m5, m6⟩, ⟨a1, a2, a3, a4, a5, a6, a7, a8, a9⟩, -⟩ := S
  simp only [wX7_clear, gr_zcs, a5, Option.some.injEq, exists_eq_left']
  refine c_rclear (by decide) ?_
  simp only [forall_eq, si_zcs_k σ b _ s0 s1 (show 7 < 16 by decide)]
  refine hq _ ?_
  obtain ⟨h1, ⟨h2, h2'⟩, ⟨h3, h3'⟩, h4, h5, h6, h7, h8, h9⟩ := h
  have er : ∀ k, ¬ (11 ≤ k ∧ k ≤ 14) → rClears r k = r k := fun k hk => by
    unfold rClears
    rw [zu_ne (by omega), zu_ne (by omega), zu_ne (by omega), zu_ne (by omega)]
  have ef : ∀ k, k ≠ 7 → k ≠ 8 → zf (zf (zf (zf f 8 1 0) 7 1 0) 7 2 0) 7 3 0 k = f k := fun k h1 h2 => by rw [zf_ne h1, zf_ne h1, zf_ne h1, zf_ne h2]
  refine ⟨RS_c h1 (ef 0 (by decide) (by decide)) (fun k hk => er k (by omega)), ⟨RO_c h2 (ef 1 (by decide) (by decide)) (fun k hk => er k (by omega)), RO_c h2' (ef 4 (by decide) (by decide)) (fun k hk => er k (by omega))⟩, ⟨RV_c h3 (ef 2 (by decide) (by decide)) (ef 3 (by decide) (by decide)) (er _ (by omega)) (fun k _ => er _ (by omega)), RV_c h3' (ef 5 (by decide) (by decide)) (ef 6 (by decide) (by decide)) (er _ (by omega)) (fun k _ => er _ (by omega))⟩, ?_, RT_c h5 (ef 10 (by decide) (by decide)) (ef 11 (by decide) (by decide)) (er _ (by omega)) (fun k _ => er _ (by omega)), RE_c h6 (ef 12 (by decide) (by decide)) (ef 13 (by decide) (by decide)) (er _ (by omega)) (fun k _ => er _ (by omega)), RZ_c h7 (ef 14 (by decide) (by decide)) (ef 15 (by decide) (by decide)) (er _ (by omega)) (fun k _ => er _ (by omega)), ?_, ?_⟩
  · unfold RB rClears
    simp only [zf_ap, zu_ap, if_true, Nat.reduceEqDiff, if_false]
    exact ⟨trivial, trivial, trivial, trivial, fun k hk => absurd hk (Nat.not_lt_zero k)⟩
  · rw [er 37 (by omega)]; exact h8
  · rw [er 38 (by omega)]; exact h9
