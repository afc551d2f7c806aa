/-! THE MODEL takes a token -/
/-- the model's text -/
def zTb (σ : zS) (ln : Nat → Nat) (c : Nat → Int32) (n : Nat) : Prop := n ≤ 600 ∧ gr σ 455 12 = some 462 ∧ ln 462 = 600 ∧ ∀ k, k < n → zby (c k) (gi σ 462 k)
def mfr (f f' : Nat → Int32) : Prop := ∀ j, ¬ (15 ≤ j ∧ j ≤ 18) → f' j = f j
theorem mfr.rf {f : Nat → Int32} : mfr f f := fun _ _ => rfl
theorem mfr.tr {f f' f'' : Nat → Int32} (h : mfr f f') (g : mfr f' f'') : mfr f f'' := fun j hj => (g j hj).trans (h j hj)
theorem mfr_zu {f : Nat → Int32} {k : Nat} {v : Int32} (h : 15 ≤ k ∧ k ≤ 18) : mfr f (zu f k v) := fun j hj => zu_ne (fun e => hj (e ▸ h))
/-- the token at a place -/
def mtk (f : Nat → Int32) (w : Int64) (c : Nat → Int32) (n q : Nat) : Prop := f 17 = tK c n q ∧ f 15 = nI (tS c n q) ∧ f 16 = nI (tE c n q) ∧ (tK c n q = 2 → f 18 = tV c n q) ∧ (tK c n q = 1 → w.toInt = hZ c (tS c n q) (tE c n q - tS c n q))
section ZMNEXT
variable {ln : Nat → Nat} {σ : zS} {f : Nat → Int32} {w : Int64} {R : zRow} {c : Nat → Int32} {n : Nat}
theorem zTb_e (T : zTb σ ln c n) {k : Nat} (hk : k < n) (h : (c k).toInt < 128) : gi σ 462 k = c k := by
  obtain ⟨h1, h2⟩ := T.2.2.2 k hk
  rw [if_pos h] at h2
  rw [neq]; exact h2
theorem m_isOf (T : zTb σ ln c n) (h13 : f 13 = nI n) {k : Nat} (hk : k < 100000) {v lo hi : Int32} (hv : v = nI k) (hlo : 0 ≤ lo.toInt) (hhi : hi.toInt < 128) {Q : Int32 → zS → Prop} (h1 : k < n → lo.toInt ≤ (c k).toInt → (c k).toInt ≤ hi.toInt → Q 1 (zmr σ f w R)) (h0 : ¬ (k < n ∧ lo.toInt ≤ (c k).toInt ∧ (c k).toInt ≤ hi.toInt) → Q 0 (zmr σ f w R)) : wX12_isOf ln (zmr σ f w R) 455 v lo hi Q := by
  subst hv
  have hn := T.1
  unfold wX12_isOf
  rw [gi_zmr_f, h13]
  refine ⟨fun hx => h0 (fun h => ?_), fun hx => ⟨462, T.2.1, ?_⟩⟩
  · exact absurd hx (nI_ge h.1 (by omega))
  · have hlt : k < n := by
      rcases Nat.lt_or_ge k n with h | h
      · exact h
      · exact absurd (nI_le h (by omega)) hx
    obtain ⟨b1, b2⟩ := T.2.2.2 k hlt
    rw [T.2.2.1]
    refine ⟨vp_in_nI (by omega) (by omega), fun x3 e3 x4 e4 x5 e5 => ?_⟩
    rw [nI_clamp (by omega), gi_zmr_o (by decide) (by decide)] at e5
    subst e3 e4 e5
    refine w_isIn ?_
    rw [n64, n64, n64]
    by_cases hc : (c k).toInt < 128
    · rw [if_pos hc] at b2
      rw [b2]
      by_cases hr : lo.toInt ≤ (c k).toInt ∧ (c k).toInt ≤ hi.toInt
      · rw [if_pos hr]
        exact ⟨fun h => absurd h (by decide), fun _ => h1 hlt hr.1 hr.2⟩
      · rw [if_neg hr]
        exact ⟨fun _ => h0 (fun h => hr h.2), fun h => absurd rfl h⟩
    · rw [if_neg hc] at b2
      rw [if_neg (by omega)]
      exact ⟨fun _ => h0 (by omega), fun h => absurd rfl h⟩
theorem m_next145 (T : zTb σ ln c n) {s : Nat} {Q : zS → Prop} : ∀ (d e : Nat) (f : Nat → Int32) (w : Int64), e + d = n → s ≤ e → f 13 = nI n → f 15 = nI s → f 16 = nI e → (e - s ≤ 12 → w.toInt = hZ c s (e - s)) → (∀ j, s ≤ j → j < e → xK (c j) = 1) → (∀ f' w', mfr f f' → f' 15 = nI s → f' 16 = nI (tRf c 1 d e) → f' 17 = (if tRf c 1 d e - s ≤ 12 then 1 else 5) → (tRf c 1 d e - s ≤ 12 → w'.toInt = hZ c s (tRf c 1 d e - s)) → Q (zmr σ f' w' R)) → wX12_next_145 ln Q (d + 1) 455 (zmr σ f w R)
  | d, e, f, w, hd, hse, h13, h15, h16, hw, hc, hq => by
    have hn := T.1
    have l97 : (97 : Int32).toInt = 97 := rfl
    have l122 : (122 : Int32).toInt = 122 := rfl
    have es : nI e - nI s = nI (e - s) := pk_sub hse
    rw [wX12_next_145]
    intro x1 e1
    rw [gi_zmr_f, h16] at e1
    refine m_isOf T h13 (k := e) (by omega) e1 (by decide) (by decide) (fun hlt a1 a2 => ?_) (fun hno => ?_)
    · obtain ⟨d, rfl⟩ : ∃ d', d = d' + 1 := ⟨d - 1, by omega⟩
      have hk : xK (c e) = 1 := xK_1.mpr (by omega)
      rw [tRf, if_pos hk] at hq
      refine ⟨fun hx => absurd hx (by decide), fun _ => ?_⟩
      rw [gi_zmr_f, h16, h15, es]
      have fin : ∀ v : Int64, (e + 1 - s ≤ 12 → v.toInt = hZ c s (e + 1 - s)) → wX12_next_202 ln Q (wX12_next_145 ln Q (d + 1)) 455 455 v (zmr σ f w R) := fun v hv => by
        intro σ1 s1 x2 e2 σ3 s3
        rw [sl_zmr] at s1
        subst s1
        rw [gi_zmr_f, h16, nI_1] at e2
        subst e2
        rw [si_zmr_f] at s3
        subst s3
        refine m_next145 T d (e + 1) _ v (by omega) (by omega) (by rw [zu_ne (by decide)]; exact h13) (by rw [zu_ne (by decide)]; exact h15) (zu_self _ _ _) hv (fun j j1 j2 => ?_) (fun f' w' m => hq f' w' ((mfr_zu (by decide)).tr m))
        by_cases ej : j = e
        · subst ej; exact hk
        · exact hc j j1 (by omega)
      refine ⟨fun hx => fin 0 (fun h => ?_), fun hx => ⟨462, T.2.1, fun x8 e8 => ?_⟩⟩
      · have := (nI_leI (a := 12) (b := e - s) (by omega) (by omega)).mp hx
        omega
      · have h12 : ¬ 12 ≤ e - s := fun h => hx (nI_le h (by omega))
        subst e8
        rw [T.2.2.1]
        refine ⟨vp_in_nI (by omega) (by omega), fin _ (fun h => ?_)⟩
        rw [nI_clamp (by omega), gi_zmr_o (by decide) (by decide), gl_zmr_w, zTb_e T hlt (by omega)]
        have hr : ∀ j, j < e - s → 97 ≤ (c (s + j)).toInt ∧ (c (s + j)).toInt ≤ 122 := fun j hj => xK_1.mp (hc _ (by omega) (by omega))
        have p0 := (hZ_pos (e - s) hr).1
        have p1 := hZ_12 (by omega) hr
        have ew := hw (by omega)
        rw [hZ_step (by omega) (by omega) (by omega), ew, show e + 1 - s = (e - s) + 1 by omega, hZ, show s + (e - s) = e by omega]
    · have hk : ¬ (e < n ∧ xK (c e) = 1) := fun h => by
        have := xK_1.mp h.2
        exact hno ⟨h.1, by omega, by omega⟩
      have eR : tRf c 1 d e = e := by
        cases d with
        | zero => rfl
        | succ d => rw [tRf, if_neg (fun h => hk ⟨by omega, h⟩)]
      rw [eR] at hq
      refine ⟨fun _ => ?_, fun hx => absurd rfl hx⟩
      rw [gi_zmr_f, h16, h15, es]
      refine ⟨fun hx σ4 s4 => ?_, fun hx σ5 s5 => ?_⟩
      · have := (nI_leI (a := e - s) (b := 12) (by omega) (by omega)).mp hx
        rw [si_zmr_f] at s4
        subst s4
        exact hq _ w (mfr_zu (by decide)) (by rw [zu_ne (by decide)]; exact h15) (by rw [zu_ne (by decide)]; exact h16) (by rw [zu_self, if_pos this]) (fun _ => hw this)
      · have h12 : ¬ e - s ≤ 12 := fun h => hx (nI_le (b := 12) h (by decide))
        rw [si_zmr_f] at s5
        subst s5
        exact hq _ w (mfr_zu (by decide)) (by rw [zu_ne (by decide)]; exact h15) (by rw [zu_ne (by decide)]; exact h16) (by rw [zu_self, if_neg h12]) (fun h => absurd h h12)
theorem m_next272 (T : zTb σ ln c n) {s : Nat} {Q : zS → Prop} : ∀ (d e : Nat) (f : Nat → Int32), e + d = n → s ≤ e → f 13 = nI n → f 15 = nI s → f 16 = nI e → (e - s ≤ 5 → f 18 = nV c s (e - s)) → (∀ f', mfr f f' → f' 15 = nI s → f' 16 = nI (tRf c 2 d e) → f' 17 = (if tRf c 2 d e - s ≤ 5 then 2 else 5) → (tRf c 2 d e - s ≤ 5 → f' 18 = nV c s (tRf c 2 d e - s)) → Q (zmr σ f' w R)) → wX12_next_272 ln Q (d + 1) 455 (zmr σ f w R)
  | d, e, f, hd, hse, h13, h15, h16, hw, hq => by
    have hn := T.1
    have l48 : (48 : Int32).toInt = 48 := rfl
    have l57 : (57 : Int32).toInt = 57 := rfl
    have es : nI e - nI s = nI (e - s) := pk_sub hse
    rw [wX12_next_272]
    intro x1 e1
    rw [gi_zmr_f, h16] at e1
    refine m_isOf T h13 (k := e) (by omega) e1 (by decide) (by decide) (fun hlt a1 a2 => ?_) (fun hno => ?_)
    · obtain ⟨d, rfl⟩ : ∃ d', d = d' + 1 := ⟨d - 1, by omega⟩
      have hk : xK (c e) = 2 := xK_2.mpr (by omega)
      rw [tRf, if_pos hk] at hq
      refine ⟨fun hx => absurd hx (by decide), fun _ => ?_⟩
      rw [gi_zmr_f, h16, h15, es]
      have fin : ∀ v : Int32, (e + 1 - s ≤ 5 → v = nV c s (e + 1 - s)) → wX12_next_328 ln Q (wX12_next_272 ln Q (d + 1)) 455 455 v (zmr σ f w R) := fun v hv => by
        intro σ1 s1 x2 e2 σ3 s3
        rw [si_zmr_f] at s1
        subst s1
        rw [gi_zmr_f, zu_ne (by decide), h16, nI_1] at e2
        subst e2
        rw [si_zmr_f] at s3
        subst s3
        exact m_next272 T d (e + 1) _ (by omega) (by omega) (by rw [zu_ne (by decide), zu_ne (by decide)]; exact h13) (by rw [zu_ne (by decide), zu_ne (by decide)]; exact h15) (zu_self _ _ _) (fun h => by rw [zu_ne (by decide), zu_self]; exact hv h) (fun f' m => hq f' (((mfr_zu (by decide)).tr (mfr_zu (by decide))).tr m))
      refine ⟨fun hx => fin _ (fun h => ?_), fun hx => ⟨462, T.2.1, fun x8 e8 => ?_⟩⟩
      · have := (nI_leI (a := 5) (b := e - s) (by omega) (by omega)).mp hx
        omega
      · have h5 : ¬ 5 ≤ e - s := fun h => hx (nI_le h (by omega))
        subst e8
        rw [T.2.2.1]
        refine ⟨vp_in_nI (by omega) (by omega), fin _ (fun h => ?_)⟩
        rw [nI_clamp (by omega), gi_zmr_o (by decide) (by decide), zTb_e T hlt (by omega), hw (by omega), show e + 1 - s = (e - s) + 1 by omega, nV, show s + (e - s) = e by omega]
    · have hk : ¬ (e < n ∧ xK (c e) = 2) := fun h => by
        have := xK_2.mp h.2
        exact hno ⟨h.1, by omega, by omega⟩
      have eR : tRf c 2 d e = e := by
        cases d with
        | zero => rfl
        | succ d => rw [tRf, if_neg (fun h => hk ⟨by omega, h⟩)]
      rw [eR] at hq
      refine ⟨fun _ => ?_, fun hx => absurd rfl hx⟩
      rw [gi_zmr_f, h16, h15, es]
      refine ⟨fun hx σ4 s4 => ?_, fun hx σ5 s5 => ?_⟩
      · have := (nI_leI (a := e - s) (b := 5) (by omega) (by omega)).mp hx
        rw [si_zmr_f] at s4
        subst s4
        exact hq _ (mfr_zu (by decide)) (by rw [zu_ne (by decide)]; exact h15) (by rw [zu_ne (by decide)]; exact h16) (by rw [zu_self, if_pos this]) (fun _ => by rw [zu_ne (by decide)]; exact hw this)
      · have h12 : ¬ e - s ≤ 5 := fun h => hx (nI_le (b := 5) h (by decide))
        rw [si_zmr_f] at s5
        subst s5
        exact hq _ (mfr_zu (by decide)) (by rw [zu_ne (by decide)]; exact h15) (by rw [zu_ne (by decide)]; exact h16) (by rw [zu_self, if_neg h12]) (fun h => absurd h h12)
/-- behind the blanks -/
theorem m_next114 (T : zTb σ ln c n) {q : Nat} (hq7 : q ≤ 700) (h13 : f 13 = nI n) (h15 : f 15 = nI (tS c n q)) (h16 : f 16 = nI (tS c n q + 1)) {Q : zS → Prop} (hq : ∀ f' w', mfr f f' → mtk f' w' c n q → Q (zmr σ f' w' R)) {v : Int32} (hv : v = if n ≤ tS c n q then 0 else if c (tS c n q) = 59 then 3 else if c (tS c n q) = 47 then 4 else 5) : wX12_next_114 ln Q 455 455 v (zmr σ f w R) := by
  have hn := T.1
  have l48 : (48 : Int32).toInt = 48 := rfl
  have l57 : (57 : Int32).toInt = 57 := rfl
  have l97 : (97 : Int32).toInt = 97 := rfl
  have l122 : (122 : Int32).toInt = 122 := rfl
  have hS7 : tS c n q ≤ 700 := by
    have := tS_le2 c n q
    omega
  intro σ1 s1 x2 e2
  rw [si_zmr_f] at s1
  subst s1
  rw [gi_zmr_f, zu_ne (by decide), h15] at e2
  refine m_isOf T (by rw [zu_ne (by decide)]; exact h13) (k := tS c n q) (by omega) e2 (by decide) (by decide) (fun hlt a1 a2 => ⟨fun hx => absurd hx (by decide), fun _ σ13 s13 x14 e14 σ15 s15 => ?_⟩) (fun hn1 => ⟨fun _ x5 e5 => ?_, fun hx => absurd rfl hx⟩)
  · have hk : xK (c (tS c n q)) = 1 := xK_1.mpr (by omega)
    have hns : ¬ n ≤ tS c n q := by omega
    rw [sl_zmr] at s13
    subst s13
    rw [gi_zmr_f, zu_ne (by decide), h15] at e14
    subst e14
    rw [si_zmr_f] at s15
    subst s15
    have eT : tRf c 1 (n - tS c n q) (tS c n q) = tR c n (tS c n q) := by unfold tR; rw [hk]
    have eE : tE c n q = tR c n (tS c n q) := by unfold tE; rw [if_neg hns, if_pos (Or.inl hk)]
    refine ⟨n - tS c n q + 1, m_next145 T (s := tS c n q) (n - tS c n q) (tS c n q) _ 0 (by omega) (Nat.le_refl _) (by rw [zu_ne (by decide), zu_ne (by decide)]; exact h13) (by rw [zu_ne (by decide), zu_ne (by decide)]; exact h15) (zu_self _ _ _) (fun _ => by rw [Nat.sub_self]; rfl) (fun j j1 j2 => absurd j2 (by omega)) (fun f' w' m g15 g16 g17 g22 => hq f' w' (((mfr_zu (by decide)).tr (mfr_zu (by decide))).tr m) ?_)⟩
    rw [eT] at g16 g17 g22
    refine ⟨?_, g15, by rw [eE]; exact g16, fun h2 => ?_, fun h1 => ?_⟩
    · rw [g17]; unfold tK; rw [if_neg hns, if_pos hk]
    · have := (tK_run (Or.inr rfl) h2).1
      rw [hk] at this
      exact absurd this (by decide)
    · rw [eE]
      have := (tK_run (Or.inl rfl) h1).2.2.2.1
      rw [if_pos rfl, eE] at this
      exact g22 this
  · have hk1 : ¬ (tS c n q < n ∧ xK (c (tS c n q)) = 1) := fun h => by
      have := xK_1.mp h.2
      exact hn1 ⟨h.1, by omega, by omega⟩
    rw [gi_zmr_f, zu_ne (by decide), h15] at e5
    refine m_isOf T (by rw [zu_ne (by decide)]; exact h13) (k := tS c n q) (by omega) e5 (by decide) (by decide) (fun hlt a1 a2 => ⟨fun hx => absurd hx (by decide), fun _ σ8 s8 x9 e9 σ10 s10 => ?_⟩) (fun hn2 => ⟨fun _ => ?_, fun hx => absurd rfl hx⟩)
    · have hk : xK (c (tS c n q)) = 2 := xK_2.mpr (by omega)
      have hk1' : ¬ xK (c (tS c n q)) = 1 := fun h => hk1 ⟨hlt, h⟩
      have hns : ¬ n ≤ tS c n q := by omega
      rw [si_zmr_f] at s8
      subst s8
      rw [gi_zmr_f, zu_ne (by decide), zu_ne (by decide), h15] at e9
      subst e9
      rw [si_zmr_f] at s10
      subst s10
      have eT : tRf c 2 (n - tS c n q) (tS c n q) = tR c n (tS c n q) := by unfold tR; rw [hk]
      have eE : tE c n q = tR c n (tS c n q) := by unfold tE; rw [if_neg hns, if_pos (Or.inr hk)]
      refine ⟨n - tS c n q + 1, m_next272 T (s := tS c n q) (n - tS c n q) (tS c n q) _ (by omega) (Nat.le_refl _) (by rw [zu_ne (by decide), zu_ne (by decide), zu_ne (by decide)]; exact h13) (by rw [zu_ne (by decide), zu_ne (by decide), zu_ne (by decide)]; exact h15) (zu_self _ _ _) (fun _ => by rw [zu_ne (by decide), zu_self, Nat.sub_self]; rfl) (fun f' m g15 g16 g17 g18 => hq f' _ ((((mfr_zu (by decide)).tr (mfr_zu (by decide))).tr (mfr_zu (by decide))).tr m) ?_)⟩
      rw [eT] at g16 g17 g18
      refine ⟨?_, g15, by rw [eE]; exact g16, fun h2 => ?_, fun h1 => ?_⟩
      · rw [g17]; unfold tK; rw [if_neg hns, if_neg hk1', if_pos hk]
      · have := (tK_run (Or.inr rfl) h2).2.2.2.1
        rw [if_neg (by decide), eE] at this
        unfold tV
        rw [eE]
        exact g18 this
      · have := (tK_run (Or.inl rfl) h1).1
        exact absurd this hk1'
    · have hk2 : ¬ (tS c n q < n ∧ xK (c (tS c n q)) = 2) := fun h => by
        have := xK_2.mp h.2
        exact hn2 ⟨h.1, by omega, by omega⟩
      have eE : tE c n q = tS c n q + 1 := by
        unfold tE
        by_cases hns : n ≤ tS c n q
        · rw [if_pos hns]
        · rw [if_neg hns, if_neg (fun h => h.elim (fun h => hk1 ⟨by omega, h⟩) (fun h => hk2 ⟨by omega, h⟩))]
      have eK : v = tK c n q := by
        rw [hv]
        unfold tK
        by_cases hns : n ≤ tS c n q
        · rw [if_pos hns, if_pos hns]
        · have h1 : ¬ xK (c (tS c n q)) = 1 := fun h => hk1 ⟨by omega, h⟩
          have h2 : ¬ xK (c (tS c n q)) = 2 := fun h => hk2 ⟨by omega, h⟩
          rw [if_neg hns, if_neg hns, if_neg h1, if_neg h2]
          unfold xK
          rw [if_neg (fun h => h1 (xK_1.mpr h)), if_neg (fun h => h2 (xK_2.mpr h))]
      have hr : ∀ k, k = 1 ∨ k = 2 → tK c n q = k → False := fun k hk h => by
        have := tK_run hk h
        rcases hk with rfl | rfl
        · exact hk1 ⟨this.2.2.1, this.1⟩
        · exact hk2 ⟨this.2.2.1, this.1⟩
      exact hq _ w (mfr_zu (by decide)) ⟨by rw [zu_self]; exact eK, by rw [zu_ne (by decide)]; exact h15, by rw [zu_ne (by decide), eE]; exact h16, fun h => (hr 2 (Or.inr rfl) h).elim, fun h => (hr 1 (Or.inl rfl) h).elim⟩
theorem m_next8 (T : zTb σ ln c n) {q0 : Nat} (hq07 : q0 ≤ 700) {Q : zS → Prop} : ∀ (d q : Nat) (f : Nat → Int32), n ≤ q + d → (d = 0 ∨ q + d = n) → q ≤ 700 → tSf c d q = tS c n q0 → f 13 = nI n → f 15 = nI q → (∀ f' w', mfr f f' → mtk f' w' c n q0 → Q (zmr σ f' w' R)) → wX12_next_8 ln Q (d + 1) 455 (zmr σ f w R)
  | d, q, f, hd, hd2, hq7, hS, h13, h15, hq => by
    have hn := T.1
    have l32 : (32 : Int32).toInt = 32 := rfl
    have l10 : (10 : Int32).toInt = 10 := rfl
    have l59 : (59 : Int32).toInt = 59 := rfl
    have l47 : (47 : Int32).toInt = 47 := rfl
    rw [wX12_next_8]
    intro x1 e1
    rw [gi_zmr_f, h15] at e1
    have more : q < n → (c q = 32 ∨ c q = 10) → wX12_next_38 ln Q (wX12_next_8 ln Q d) 455 (zmr σ f w R) := fun hlt hb => by
      obtain ⟨d, rfl⟩ : ∃ d', d = d' + 1 := ⟨d - 1, by omega⟩
      rw [tSf, if_pos hb] at hS
      intro x1 e1 σ2 s2
      rw [gi_zmr_f, h15, nI_1] at e1
      subst e1
      rw [si_zmr_f] at s2
      subst s2
      exact m_next8 T hq07 d (q + 1) _ (by omega) (by omega) (by omega) hS (by rw [zu_ne (by decide)]; exact h13) (zu_self _ _ _) (fun f' w' m => hq f' w' ((mfr_zu (by decide)).tr m))
    refine m_isOf T h13 (k := q) (by omega) e1 (by decide) (by decide) (fun hlt a1 a2 => ⟨fun hx => absurd hx (by decide), fun _ => more hlt (Or.inl (by rw [neq]; omega))⟩) (fun hn1 => ⟨fun _ x4 e4 => ?_, fun hx => absurd rfl hx⟩)
    rw [gi_zmr_f, h15] at e4
    refine m_isOf T h13 (k := q) (by omega) e4 (by decide) (by decide) (fun hlt a1 a2 => ⟨fun hx => absurd hx (by decide), fun _ => more hlt (Or.inr (by rw [neq]; omega))⟩) (fun hn2 => ⟨fun _ x7 e7 σ8 s8 => ?_, fun hx => absurd rfl hx⟩)
    have eS : tS c n q0 = q := by
      rw [← hS]
      cases d with
      | zero => rfl
      | succ d =>
        rw [tSf, if_neg (fun h => ?_)]
        rcases h with h | h
        · exact hn1 ⟨by omega, by rw [h]; decide, by rw [h]; decide⟩
        · exact hn2 ⟨by omega, by rw [h]; decide, by rw [h]; decide⟩
    rw [gi_zmr_f, h15, nI_1] at e7
    subst e7
    rw [si_zmr_f] at s8
    subst s8
    have fin : ∀ v : Int32, (v = if n ≤ tS c n q0 then 0 else if c (tS c n q0) = 59 then 3 else if c (tS c n q0) = 47 then 4 else 5) → wX12_next_114 ln Q 455 455 v (zmr σ (zu f 16 (nI (q + 1))) w R) := fun v hv => m_next114 T hq07 (by rw [zu_ne (by decide)]; exact h13) (by rw [zu_ne (by decide), eS]; exact h15) (by rw [zu_self, eS]) (fun f' w' m => hq f' w' ((mfr_zu (by decide)).tr m)) hv
    rw [eS] at fin
    rw [gi_zmr_f, zu_ne (by decide), zu_ne (by decide), h15, h13]
    refine ⟨fun hx => ⟨462, T.2.1, fun x10 e10 => ?_⟩, fun hx => fin 0 ?_⟩
    · have hlt : q < n := (nI_ltI (by omega) (by omega)).mp hx
      subst e10
      obtain ⟨b1, b2⟩ := T.2.2.2 q hlt
      have ek : ∀ x : Int32, 0 ≤ x.toInt → x.toInt < 128 → (gi σ 462 q = x ↔ c q = x) := fun x x0 x1 => by
        rw [neq, neq]
        by_cases h : (c q).toInt < 128
        · rw [if_pos h] at b2; omega
        · rw [if_neg h] at b2; omega
      rw [T.2.2.1, nI_clamp (by omega), gi_zmr_o (by decide) (by decide)]
      refine ⟨vp_in_nI (by omega) (by omega), fun hy => fin 3 ?_, fun hy => ⟨462, T.2.1, fun x13 e13 => ?_⟩⟩
      · rw [if_neg (by omega), if_pos ((ek 59 (by decide) (by decide)).mp hy)]
      · subst e13
        rw [T.2.2.1, nI_clamp (by omega)]
        refine ⟨vp_in_nI (by omega) (by omega), fun hz => fin 4 ?_, fun hz => fin 5 ?_⟩
        · rw [if_neg (by omega), if_neg (fun h => hy ((ek 59 (by decide) (by decide)).mpr h)), if_pos ((ek 47 (by decide) (by decide)).mp hz)]
        · rw [if_neg (by omega), if_neg (fun h => hy ((ek 59 (by decide) (by decide)).mpr h)), if_neg (fun h => hz ((ek 47 (by decide) (by decide)).mpr h))]
    · have : n ≤ q := by
        rcases Nat.lt_or_ge q n with h | h
        · exact absurd (nI_lt h (by omega)) hx
        · exact h
      rw [if_pos this]
theorem m_next (T : zTb σ ln c n) {q : Nat} (hq7 : q ≤ 700) (h13 : f 13 = nI n) (h16 : f 16 = nI q) {Q : zS → Prop} (hq : ∀ f' w', mfr f f' → mtk f' w' c n q → Q (zmr σ f' w' R)) : wX12_next ln (zmr σ f w R) 455 Q := by
  intro x1 e1 σ2 s2
  rw [gi_zmr_f, h16] at e1
  subst e1
  rw [si_zmr_f] at s2
  subst s2
  exact ⟨n - q + 1, m_next8 T hq7 (n - q) q _ (by omega) (by omega) hq7 rfl (by rw [zu_ne (by decide)]; exact h13) (zu_self _ _ _) (fun f' w' m => hq f' w' ((mfr_zu (by decide)).tr m))⟩
end ZMNEXT
