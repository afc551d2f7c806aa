/-! THE CLASS'S STORE as it reads: the parser, the tokens, a plan; tokens are taken -/
def zpc (σ : zS) (p : Nat) (f3 f4 : Nat → Int32) (F : Nat → Nat → Int32) : zS := (fun a => if a = 3 then f3 else if a = 4 then f4 else if p ≤ a ∧ a < p + 127 then F (a - p) else σ.1 a, σ.2)
section ZPC
variable {σ : zS} {p : Nat} {f3 f4 : Nat → Int32} {F : Nat → Nat → Int32}
theorem gr_zpc : gr (zpc σ p f3 f4 F) = gr σ := rfl
theorem gl_zpc : gl (zpc σ p f3 f4 F) = gl σ := rfl
theorem gd_zpc : gd (zpc σ p f3 f4 F) = gd σ := rfl
theorem gi_zpc_3 : gi (zpc σ p f3 f4 F) 3 = f3 := rfl
theorem gi_zpc_4 : gi (zpc σ p f3 f4 F) 4 = f4 := rfl
theorem gi_zpc (a : Nat) : gi (zpc σ p f3 f4 F) a = if a = 3 then f3 else if a = 4 then f4 else if p ≤ a ∧ a < p + 127 then F (a - p) else gi σ a := by
  show (if a = 3 then f3 else if a = 4 then f4 else if p ≤ a ∧ a < p + 127 then F (a - p) else σ.1 a) = _
  split
  · rfl
  · split
    · rfl
    · split <;> rfl
theorem gi_zpc_k (hp : 5 ≤ p) {a k : Nat} (ha : a = p + k) (hk : k < 127) : gi (zpc σ p f3 f4 F) a = F k := by
  subst ha
  rw [gi_zpc, if_neg (by omega), if_neg (by omega), if_pos (by omega), Nat.add_sub_cancel_left]
theorem gi_zpc_o {a : Nat} (h3 : a ≠ 3) (h4 : a ≠ 4) (h : ¬ (p ≤ a ∧ a < p + 127)) : gi (zpc σ p f3 f4 F) a = gi σ a := by
  rw [gi_zpc, if_neg h3, if_neg h4, if_neg h]
theorem si_zpc_3 (j : Nat) (v : Int32) : si (zpc σ p f3 f4 F) 3 j v = zpc σ p (zu f3 j v) f4 F := by
  refine zS_ext2 (fun a i => ?_) rfl (fun a i => rfl) rfl
  rw [gi_si, gi_zpc, gi_zpc]
  by_cases h : a = 3
  · subst h; rw [if_pos rfl, if_pos rfl, if_pos rfl]; rfl
  · rw [if_neg h, if_neg h, if_neg h]
theorem si_zpc_4 (j : Nat) (v : Int32) : si (zpc σ p f3 f4 F) 4 j v = zpc σ p f3 (zu f4 j v) F := by
  refine zS_ext2 (fun a i => ?_) rfl (fun a i => rfl) rfl
  rw [gi_si, gi_zpc, gi_zpc]
  by_cases h : a = 4
  · subst h; rfl
  · rw [if_neg h]
    by_cases h3 : a = 3
    · rw [if_pos h3, if_pos h3]
    · rw [if_neg h3, if_neg h3, if_neg h, if_neg h]
theorem si_zpc_k (hp : 5 ≤ p) {a k : Nat} (ha : a = p + k) (hk : k < 127) (j : Nat) (v : Int32) : si (zpc σ p f3 f4 F) a j v = zpc σ p f3 f4 (zf F k j v) := by
  subst ha
  refine zS_ext2 (fun b i => ?_) rfl (fun b i => rfl) rfl
  rw [gi_si, gi_zpc, gi_zpc]
  by_cases h : b = p + k
  · subst h
    have e1 : ¬ p + k = 3 := by omega
    have e2 : ¬ p + k = 4 := by omega
    have e3 : p + k < p + 127 := by omega
    simp only [if_true, e1, e2, if_false, Nat.le_add_right, e3, and_self, Nat.add_sub_cancel_left, zf_ap]
  · rw [if_neg h]
    by_cases h3 : b = 3
    · rw [if_pos h3, if_pos h3]
    · rw [if_neg h3, if_neg h3]
      by_cases h4 : b = 4
      · rw [if_pos h4, if_pos h4]
      · rw [if_neg h4, if_neg h4]
        by_cases h5 : p ≤ b ∧ b < p + 127
        · rw [if_pos h5, if_pos h5, zf_ne (by omega)]
        · rw [if_neg h5, if_neg h5]
theorem zpc_self : zpc σ p (gi σ 3) (gi σ 4) (fun k => gi σ (p + k)) = σ := by
  refine zS_ext2 (fun a i => ?_) rfl (fun a i => rfl) rfl
  rw [gi_zpc]
  by_cases h3 : a = 3
  · subst h3; rw [if_pos rfl]
  · rw [if_neg h3]
    by_cases h4 : a = 4
    · subst h4; rw [if_pos rfl]
    · rw [if_neg h4]
      by_cases h5 : p ≤ a ∧ a < p + 127
      · rw [if_pos h5]
        show gi σ (p + (a - p)) i = _
        rw [show p + (a - p) = a by omega]
      · rw [if_neg h5]
end ZPC
/-- the class's text and where it lies -/
def zTg (g : Nat → Nat → Option Nat) (ln : Nat → Nat) : Prop := g 1 0 = some 2 ∧ g 3 0 = some 4 ∧ g 4 2 = some 1 ∧ ln 2 = 600
def zTc (σ : zS) (c : Nat → Int32) (n : Nat) : Prop := n ≤ 600 ∧ gi σ 1 1 = nI n ∧ gi σ 2 = c ∧ ∀ k, k < n → 0 ≤ (c k).toInt ∧ (c k).toInt < 256
theorem c_getT {ln : Nat → Nat} {σ : zS} {c : Nat → Int32} {n k : Nat} (g : gr σ 1 0 = some 2) (l : ln 2 = 600) (hn : n ≤ 600) (h1 : gi σ 1 1 = nI n) (h2 : gi σ 2 = c) (hk : k < 100000) {v : Int32} (hv : v = nI k) {Q : Int32 → zS → Prop} (hq : Q (if k < n then c k else -1) σ) : wX9_get ln σ 1 v Q := by
  subst hv
  have e0 : ¬ nI k < 0 := nI_pos (by omega)
  refine ⟨fun h => absurd h e0, fun _ => ?_⟩
  rw [h1]
  by_cases h : k < n
  · rw [if_pos h] at hq
    have e1 : ¬ nI n ≤ nI k := nI_ge h (by omega)
    have e2 : ¬ nI 600 ≤ nI k := nI_ge (by omega) (by omega)
    refine ⟨fun x => absurd x e1, fun _ => ⟨2, g, ?_⟩⟩
    rw [l]
    refine ⟨fun x => absurd x e2, fun _ => ⟨2, g, ?_⟩⟩
    rw [l]
    refine ⟨vp_in_nI (by omega) (by omega), ?_⟩
    rw [nI_clamp (by omega), h2]
    exact hq
  · rw [if_neg h] at hq
    have e1 : nI n ≤ nI k := nI_le (by omega) (by omega)
    exact ⟨fun _ => hq, fun x => absurd e1 x⟩
theorem c_kindOf {ln : Nat → Nat} {σ : zS} {v : Int32} {Q : Int32 → zS → Prop} (hq : Q (if v = -1 then 0 else xK v) σ) : wX10_kindOf ln σ v Q := by
  have l97 : (97 : Int32).toInt = 97 := rfl
  have l122 : (122 : Int32).toInt = 122 := rfl
  have l48 : (48 : Int32).toInt = 48 := rfl
  have l57 : (57 : Int32).toInt = 57 := rfl
  refine ⟨fun e => by rw [if_pos e] at hq; exact hq, fun e => ?_⟩
  rw [if_neg e] at hq
  have h35 : ¬ (97 ≤ v.toInt ∧ v.toInt ≤ 122) → ¬ (48 ≤ v.toInt ∧ v.toInt ≤ 57) → wX10_kindOf_35 ln Q v σ := fun a b => by
    unfold xK at hq
    rw [if_neg a, if_neg b] at hq
    exact ⟨fun e => by rw [if_pos e] at hq; exact hq, fun e => ⟨fun e2 => by rw [if_neg e, if_pos e2] at hq; exact hq, fun e2 => by rw [if_neg e, if_neg e2] at hq; exact hq⟩⟩
  have h21 : ¬ (97 ≤ v.toInt ∧ v.toInt ≤ 122) → wX10_kindOf_21 ln Q v σ := fun a => by
    refine ⟨fun h => h35 a ?_, fun h => ⟨fun h2 => h35 a ?_, fun h2 => ?_⟩⟩
    · rw [nlt, l48] at h; omega
    · rw [nlt, l57] at h2; omega
    · rw [nlt, l48] at h
      rw [nlt, l57] at h2
      unfold xK at hq
      rw [if_neg a, if_pos (by omega)] at hq
      exact hq
  refine ⟨fun h => h21 ?_, fun h => ⟨fun h2 => h21 ?_, fun h2 => ?_⟩⟩
  · rw [nlt, l97] at h; omega
  · rw [nlt, l122] at h2; omega
  · rw [nlt, l97] at h
    rw [nlt, l122] at h2
    unfold xK at hq
    rw [if_pos (by omega)] at hq
    exact hq
theorem c_isBlank {ln : Nat → Nat} {σ : zS} {v : Int32} {Q : Int32 → zS → Prop} (h1 : v = 32 ∨ v = 10 → Q 1 σ) (h0 : ¬ (v = 32 ∨ v = 10) → Q 0 σ) : wX10_isBlank ln σ v Q := ⟨fun e => h1 (Or.inl e), fun e => ⟨fun e2 => h1 (Or.inr e2), fun e2 => h0 (fun h => h.elim e e2)⟩⟩
section ZTAKE
variable {ln : Nat → Nat} {σ : zS} {p : Nat} {f3 : Nat → Int32} {F : Nat → Nat → Int32} {c : Nat → Int32} {n : Nat}
theorem zTc_1 (hp : 5 ≤ p) (T : zTc σ c n) (f4 : Nat → Int32) : gi (zpc σ p f3 f4 F) 1 1 = nI n := by
  rw [gi_zpc_o (by decide) (by decide) (by omega)]; exact T.2.1
theorem zTc_2 (hp : 5 ≤ p) (T : zTc σ c n) (f4 : Nat → Int32) : gi (zpc σ p f3 f4 F) 2 = c := by
  rw [gi_zpc_o (by decide) (by decide) (by omega)]; exact T.2.2.1
theorem zTc_m (T : zTc σ c n) {k : Nat} (hk : k < n) : ¬ c k = -1 := fun e => by
  have := (T.2.2.2 k hk).1
  rw [e] at this
  exact absurd this (by decide)
theorem c_getZ (hp : 5 ≤ p) (G : zTg (gr σ) ln) (T : zTc σ c n) {f4 : Nat → Int32} {k : Nat} (hk : k < 100000) {v : Int32} (hv : v = nI k) {Q : Int32 → zS → Prop} (hq : Q (if k < n then c k else -1) (zpc σ p f3 f4 F)) : wX9_get ln (zpc σ p f3 f4 F) 1 v Q := c_getT (σ := zpc σ p f3 f4 F) G.1 G.2.2.2 T.1 (zTc_1 hp T f4) (zTc_2 hp T f4) hk hv hq
theorem c_take8 (hp : 5 ≤ p) (G : zTg (gr σ) ln) (T : zTc σ c n) {Q : zS → Prop} : ∀ (d q : Nat) (f4 : Nat → Int32), n ≤ q + d → (d = 0 ∨ q + d = n) → q ≤ 700 → f4 1 = nI q → (∀ f' : Nat → Int32, f' 1 = nI (tSf c d q) → wX10_take_52 ln Q 4 (zpc σ p f3 f' F)) → wX10_take_8 ln Q (d + 1) 4 (zpc σ p f3 f4 F)
  | d, q, f4, hd, hd2, hq7, h1, hq => by
    have hn := T.1
    rw [wX10_take_8]
    refine ⟨1, G.2.2.1, ?_⟩
    unfold wX9_size
    rw [zTc_1 hp T, gi_zpc_4, h1]
    refine ⟨fun hx => ?_, fun hx => ⟨1, G.2.2.1, fun x5 e5 => ?_⟩⟩
    · have : n ≤ q := (nI_leI (by omega) (by omega)).mp hx
      obtain rfl : d = 0 := by omega
      exact hq f4 h1
    · have hlt : q < n := by
        rcases Nat.lt_or_ge q n with h | h
        · exact h
        · exact absurd (nI_le h (by omega)) hx
      obtain ⟨d, rfl⟩ : ∃ d', d = d' + 1 := ⟨d - 1, by omega⟩
      rw [gi_zpc_4, h1] at e5
      refine c_getZ hp G T (k := q) (by omega) e5 ?_
      rw [if_pos hlt]
      rw [tSf] at hq
      refine c_isBlank (fun hb => ⟨fun hx => absurd hx (by decide), fun _ x10 e10 σ11 e11 => ?_⟩) (fun hb => ⟨fun _ => ?_, fun hx => absurd rfl hx⟩)
      · rw [if_pos hb] at hq
        rw [gi_zpc_4, h1, nI_1] at e10
        subst e10
        rw [si_zpc_4] at e11
        subst e11
        exact c_take8 hp G T d (q + 1) _ (by omega) (by omega) (by omega) (by rw [zu_self]) hq
      · rw [if_neg hb] at hq
        exact hq f4 h1
theorem c_take144 {f4 : Nat → Int32} {s e : Nat} (hse : s ≤ e) (he : e ≤ 700) (h1 : f4 1 = nI s) (h3 : f4 3 = nI e) {Q : zS → Prop} (hA : f4 0 = 1 → e - s ≤ 12 → Q (zpc σ p f3 f4 F)) (hB : f4 0 = 1 → ¬ e - s ≤ 12 → Q (zpc σ p f3 (zu f4 0 5) F)) (hC : ¬ f4 0 = 1 → e - s ≤ 5 → Q (zpc σ p f3 f4 F)) (hD : ¬ f4 0 = 1 → ¬ e - s ≤ 5 → Q (zpc σ p f3 (zu f4 0 5) F)) : wX10_take_144 ln Q 4 (zpc σ p f3 f4 F) := by
  have e0 : nI e - nI s = nI (e - s) := pk_sub hse
  unfold wX10_take_144 wX10_length
  rw [gi_zpc_4, h1, h3, e0]
  refine ⟨fun hk => ⟨fun hx => hA hk ((nI_leI (a := e - s) (b := 12) (by omega) (by omega)).mp hx), fun hx σ1 e1 => ?_⟩, fun hk => ⟨fun hx => hC hk ((nI_leI (a := e - s) (b := 5) (by omega) (by omega)).mp hx), fun hx σ1 e1 => ?_⟩⟩
  · rw [si_zpc_4] at e1
    subst e1
    exact hB hk (fun h => hx ((nI_leI (a := e - s) (b := 12) (by omega) (by omega)).mpr h))
  · rw [si_zpc_4] at e1
    subst e1
    exact hD hk (fun h => hx ((nI_leI (a := e - s) (b := 5) (by omega) (by omega)).mpr h))
theorem c_take96 (hp : 5 ≤ p) (G : zTg (gr σ) ln) (T : zTc σ c n) {k : Int32} {s : Nat} {Q : zS → Prop} : ∀ (d e : Nat) (f4 : Nat → Int32), e + d = n → f4 0 = k → f4 1 = nI s → f4 3 = nI e → (∀ f' : Nat → Int32, f' 0 = k → f' 1 = nI s → f' 3 = nI (tRf c k d e) → wX10_take_144 ln Q 4 (zpc σ p f3 f' F)) → wX10_take_96 ln Q (d + 1) 4 (zpc σ p f3 f4 F)
  | d, e, f4, hd, h0, h1, h3, hq => by
    have hn := T.1
    rw [wX10_take_96]
    refine ⟨1, G.2.2.1, ?_⟩
    unfold wX9_size
    rw [zTc_1 hp T, gi_zpc_4, h3]
    refine ⟨fun hx => ?_, fun hx => ⟨1, G.2.2.1, fun x5 e5 => ?_⟩⟩
    · have : n ≤ e := (nI_leI (by omega) (by omega)).mp hx
      obtain rfl : d = 0 := by omega
      exact hq f4 h0 h1 h3
    · have hlt : e < n := by
        rcases Nat.lt_or_ge e n with h | h
        · exact h
        · exact absurd (nI_le h (by omega)) hx
      obtain ⟨d, rfl⟩ : ∃ d', d = d' + 1 := ⟨d - 1, by omega⟩
      rw [gi_zpc_4, h3] at e5
      refine c_getZ hp G T (k := e) (by omega) e5 ?_
      rw [if_pos hlt]
      refine c_kindOf ?_
      rw [if_neg (zTc_m T hlt), gi_zpc_4, h0]
      rw [tRf] at hq
      refine ⟨fun hk x10 e10 σ11 e11 => ?_, fun hk => ?_⟩
      · rw [if_pos hk] at hq
        rw [h3, nI_1] at e10
        subst e10
        rw [si_zpc_4] at e11
        subst e11
        exact c_take96 hp G T d (e + 1) _ (by omega) (by rw [zu_ne (by decide)]; exact h0) (by rw [zu_ne (by decide)]; exact h1) (by rw [zu_self]) hq
      · rw [if_neg hk] at hq
        exact hq f4 h0 h1 h3
theorem c_take (hp : 5 ≤ p) (G : zTg (gr σ) ln) (T : zTc σ c n) {q : Nat} (hq7 : q ≤ 700) {f4 : Nat → Int32} (h3 : f4 3 = nI q) {Q : zS → Prop} (hq : ∀ f' : Nat → Int32, f' 0 = tK c n q → f' 1 = nI (tS c n q) → f' 3 = nI (tE c n q) → Q (zpc σ p f3 f' F)) : wX10_take ln (zpc σ p f3 f4 F) 4 Q := by
  have hn := T.1
  intro x1 e1 σ2 e2
  rw [gi_zpc_4, h3] at e1
  subst e1
  rw [si_zpc_4] at e2
  subst e2
  refine ⟨n - q + 1, c_take8 hp G T (n - q) q _ (by omega) (by omega) hq7 (by rw [zu_self]) (fun f5 h5 => ?_)⟩
  have eS : tSf c (n - q) q = tS c n q := rfl
  rw [eS] at h5
  have hS7 : tS c n q ≤ 700 := by
    have := tS_le2 c n q
    omega
  refine ⟨1, G.2.2.1, fun x2 e2 => ?_⟩
  rw [gi_zpc_4, h5] at e2
  refine c_getZ hp G T (k := tS c n q) (by omega) e2 (c_kindOf ?_)
  intro σ7 e7 x8 e8 σ9 e9
  rw [si_zpc_4] at e7
  subst e7
  rw [gi_zpc_4, zu_ne (by decide), h5, nI_1] at e8
  subst e8
  rw [si_zpc_4] at e9
  subst e9
  rw [gi_zpc_4, zu_ne (by decide), zu_self]
  by_cases hs : tS c n q < n
  · have hns : ¬ n ≤ tS c n q := by omega
    rw [if_pos hs, if_neg (zTc_m T hs)]
    obtain ⟨r1, r2, r3, r4⟩ := tR_b (c := c) hs
    have eR := tR_1 (c := c) hs
    refine ⟨fun hk => ⟨n - (tS c n q + 1) + 1, c_take96 (k := 1) (s := tS c n q) hp G T (n - (tS c n q + 1)) (tS c n q + 1) _ (by omega) ?_ ?_ ?_ (fun f' g0 g1 g3 => ?_)⟩, fun hk1 => ⟨fun hk => ⟨n - (tS c n q + 1) + 1, c_take96 (k := 2) (s := tS c n q) hp G T (n - (tS c n q + 1)) (tS c n q + 1) _ (by omega) ?_ ?_ ?_ (fun f' g0 g1 g3 => ?_)⟩, fun hk2 => ?_⟩⟩
    · rw [zu_ne (by decide), zu_self]; exact hk
    · rw [zu_ne (by decide), zu_ne (by decide)]; exact h5
    · rw [zu_self]
    · rw [hk] at eR
      rw [← eR] at g3
      have eE : tE c n q = tR c n (tS c n q) := by unfold tE; rw [if_neg hns, if_pos (Or.inl hk)]
      refine c_take144 (s := tS c n q) (e := tR c n (tS c n q)) (by omega) (by omega) g1 g3 (fun _ hl => hq f' ?_ g1 (by rw [eE]; exact g3)) (fun _ hl => hq _ ?_ (by rw [zu_ne (by decide)]; exact g1) (by rw [zu_ne (by decide), eE]; exact g3)) (fun hx => absurd g0 hx) (fun hx => absurd g0 hx)
      · unfold tK; rw [if_neg hns, if_pos hk, if_pos hl]; exact g0
      · unfold tK; rw [if_neg hns, if_pos hk, if_neg hl, zu_self]
    · rw [zu_ne (by decide), zu_self]; exact hk
    · rw [zu_ne (by decide), zu_ne (by decide)]; exact h5
    · rw [zu_self]
    · rw [hk] at eR
      rw [← eR] at g3
      have g1' : ¬ f' 0 = 1 := by rw [g0]; decide
      have eE : tE c n q = tR c n (tS c n q) := by unfold tE; rw [if_neg hns, if_pos (Or.inr hk)]
      refine c_take144 (s := tS c n q) (e := tR c n (tS c n q)) (by omega) (by omega) g1 g3 (fun hx => absurd hx g1') (fun hx => absurd hx g1') (fun _ hl => hq f' ?_ g1 (by rw [eE]; exact g3)) (fun _ hl => hq _ ?_ (by rw [zu_ne (by decide)]; exact g1) (by rw [zu_ne (by decide), eE]; exact g3))
      · unfold tK; rw [if_neg hns, if_neg hk1, if_pos hk, if_pos hl]; exact g0
      · unfold tK; rw [if_neg hns, if_neg hk1, if_pos hk, if_neg hl, zu_self]
    · have eE : tE c n q = tS c n q + 1 := by unfold tE; rw [if_neg hns, if_neg (by intro h; exact h.elim hk1 hk2)]
      refine hq _ ?_ ?_ ?_
      · unfold tK; rw [if_neg hns, if_neg hk1, if_neg hk2, zu_ne (by decide), zu_self]
      · rw [zu_ne (by decide), zu_ne (by decide)]; exact h5
      · rw [zu_self, eE]
  · have hns : n ≤ tS c n q := by omega
    rw [if_neg hs, if_pos rfl]
    refine ⟨fun hx => absurd hx (by decide), fun _ => ⟨fun hx => absurd hx (by decide), fun _ => hq _ ?_ ?_ ?_⟩⟩
    · rw [zu_ne (by decide), zu_self]; unfold tK; rw [if_pos hns]
    · rw [zu_ne (by decide), zu_ne (by decide)]; exact h5
    · rw [zu_self]; unfold tE; rw [if_pos hns]
end ZTAKE
