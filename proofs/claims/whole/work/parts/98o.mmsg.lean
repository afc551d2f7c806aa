/-! THE MODEL READS: messages -/
section ZMMSG
variable {ln : Nat → Nat} {σ : zS} {f f0 : Nat → Int32} {w : Int64} {R : zRow} {c : Nat → Int32} {n : Nat} {r : zRow} {o q : Nat}
theorem nI_12 (v : Nat) : (12 : Int32) * nI v = nI (12 * v) := (Int32.ofNat_mul 12 v).symm
theorem nI_30 (v : Nat) : (30 : Int32) * nI v = nI (30 * v) := (Int32.ofNat_mul 30 v).symm
theorem nI_25p (v : Nat) : (25 : Int32) + nI v = nI (25 + v) := nI_add 25 v
theorem nI_219p (v : Nat) : (219 : Int32) + nI v = nI (219 + v) := nI_add 219 v
theorem nI_243p (v : Nat) : (243 : Int32) + nI v = nI (243 + v) := nI_add 243 v
theorem m_newLineW (g2 : gr σ 455 2 = some 457) (l2 : ln 457 = 4763) (h21 : f 21 = 1) {v : Nat} (hv : v < 2) {x : Int32} (hx : x = nI v) {Q : zS → Prop} (hq : Q (zmr σ f w R)) : wX12_newLine ln (zmr σ f w R) 455 x Q := by
  subst hx
  have key : ∀ y : Int32, wX12_newLine_20 ln Q 455 (nI v) 455 y (zmr σ f w R) := fun y => by
    refine m_mustW h21 ⟨fun h => ?_, fun _ => hq⟩
    rw [gi_zmr_f, h21] at h
    exact absurd h (by decide)
  refine ⟨457, g2, fun x2 e2 => ?_⟩
  rw [nI_25p] at e2
  subst e2
  rw [l2]
  exact ⟨vp_in_nI (by omega) (by omega), fun _ => key 0, fun _ => key 1⟩
theorem m_newLine (g2 : gr σ 455 2 = some 457) (l2 : ln 457 = 4763) (h21 : f 21 = 0) {v L : Nat} (hv : v < 2) (hL : R (25 + v) = nI L) (hL2 : L ≤ 12) {x : Int32} (hx : x = nI v) {Q : zS → Prop} (h0 : 12 ≤ L → Q (zmr σ (mbad f) w R)) (h1 : L < 12 → Q (zmr σ f w (zu (zu R (219 + 12 * v + L) 0) (25 + v) (nI (L + 1))))) : wX12_newLine ln (zmr σ f w R) 455 x Q := by
  subst hx
  refine ⟨457, g2, fun x2 e2 => ?_⟩
  rw [nI_25p] at e2
  subst e2
  rw [l2]
  refine ⟨vp_in_nI (by omega) (by omega), ?_⟩
  rw [nI_clamp (by omega), gi_zmr_r, hL]
  refine ⟨fun hx => m_mustE h21 ⟨fun h => ?_, fun _ => h0 ((nI_leI (a := 12) (b := L) (by decide) (by omega)).mp hx)⟩, fun hx => m_must1 (by decide) ⟨fun _ => ⟨457, g2, 457, g2, fun x4 e4 => ?_⟩, fun h => absurd h21 h⟩⟩
  · rw [gi_zmr_f, mbad_21] at h
    exact absurd h (by decide)
  · have hlt : L < 12 := by
      rcases Nat.lt_or_ge L 12 with h | h
      · exact h
      · exact absurd (nI_le h (by omega)) hx
    rw [nI_25p] at e4
    subst e4
    rw [l2]
    refine ⟨vp_in_nI (by omega) (by omega), fun x6 e6 => ?_⟩
    rw [nI_12, nI_219p, nI_clamp (by omega), gi_zmr_r, hL, nI_add] at e6
    subst e6
    refine ⟨vp_in_nI (by omega) (by omega), fun σ8 s8 => ⟨457, ?_, fun x10 e10 => ?_⟩⟩
    · rw [s8]; exact g2
    · rw [nI_clamp (by omega), si_zmr_r] at s8
      subst s8
      rw [nI_25p] at e10
      subst e10
      rw [l2]
      refine ⟨vp_in_nI (by omega) (by omega), fun x12 e12 => ⟨vp_in_nI (by omega) (by omega), fun σ14 s14 => ?_⟩⟩
      rw [nI_clamp (by omega), gi_zmr_r, zu_ne (by omega), hL, nI_1] at e12
      subst e12
      rw [nI_clamp (by omega), si_zmr_r] at s14
      subst s14
      exact h1 hlt
theorem m_item104W (h21 : f 21 = 1) {a k : Int32} {Q : zS → Prop} (hq : Q (zmr σ f w R)) : wX12_item_104 ln Q 1 455 a k (zmr σ f w R) := by
  rw [wX12_item_104]
  refine ⟨fun _ => hq, fun _ => ⟨fun h => ?_, fun _ => hq⟩⟩
  rw [gi_zmr_f, h21] at h
  exact absurd h (by decide)
theorem m_item104 (T : zTb σ ln c n) (g2 : gr σ 455 2 = some 457) (l2 : ln 457 = 4763) (h21 : f 21 = 0) {a s m L : Nat} (ha : a < 24) (hL : r (219 + a) = nI L) (hLm : L + m ≤ 30) (hsm : s + m ≤ n) (h16 : f 16 = nI (s + m)) (hc : ∀ j, j < m → xK (c (s + j)) = 1 ∨ xK (c (s + j)) = 2) {Q : zS → Prop} (hq : ∀ R', zcg (pApp c s a r m) R' → Q (zmr σ f w R')) : ∀ (d i : Nat) (R' : zRow), i + d = m → zcg (pApp c s a r i) R' → wX12_item_104 ln Q (d + 1) 455 (nI a) (nI (s + i)) (zmr σ f w R')
  | 0, i, R', hd, hr => by
    have hn := T.1
    rw [wX12_item_104, gi_zmr_f, h16]
    obtain rfl : i = m := by omega
    exact ⟨fun _ => hq R' hr, fun hx => absurd (nI_le (Nat.le_refl _) (by omega)) hx⟩
  | d + 1, i, R', hd, hr => by
    have hn := T.1
    have PA := pApp_at (c := c) (s := s) ha hL i (by omega)
    have eL : R' (219 + a) = nI (L + i) := by rw [hr _ (by omega), PA, if_pos rfl]
    have hb : (c (s + i)).toInt < 128 := by
      rcases hc i (by omega) with h | h
      · have := xK_1.mp h; omega
      · have := xK_2.mp h; omega
    rw [wX12_item_104, gi_zmr_f, h16, h21]
    refine ⟨fun hx => absurd hx (nI_ge (by omega) (by omega)), fun _ => ⟨fun _ => ⟨457, g2, 457, g2, fun x3 e3 => ?_⟩, fun h => absurd rfl h⟩⟩
    rw [nI_219p] at e3
    subst e3
    rw [l2]
    refine ⟨vp_in_nI (by omega) (by omega), 462, T.2.1, ?_⟩
    rw [T.2.2.1]
    refine ⟨vp_in_nI (by omega) (by omega), fun x7 e7 x8 e8 => ?_⟩
    rw [nI_clamp (by omega), gi_zmr_o (by decide) (by decide), zTb_e T (by omega) hb] at e7
    rw [nI_30, nI_243p, nI_clamp (by omega), gi_zmr_r, eL, nI_add] at e8
    subst e7 e8
    refine ⟨vp_in_nI (by omega) (by omega), fun σ10 s10 => ⟨457, ?_, fun x12 e12 => ?_⟩⟩
    · rw [s10]; exact g2
    · rw [nI_clamp (by omega), si_zmr_r] at s10
      subst s10
      rw [nI_219p] at e12
      subst e12
      rw [l2]
      refine ⟨vp_in_nI (by omega) (by omega), fun x14 e14 => ⟨vp_in_nI (by omega) (by omega), fun σ16 s16 x17 e17 => ?_⟩⟩
      rw [nI_clamp (by omega), gi_zmr_r, zu_ne (by omega), eL, nI_1] at e14
      subst e14
      rw [nI_clamp (by omega), si_zmr_r] at s16
      subst s16
      rw [nI_1] at e17
      subst e17
      refine m_item104 T g2 l2 h21 ha hL hLm hsm h16 hc hq d (i + 1) _ (by omega) ?_
      have eP : pApp c s a r i (219 + a) = nI (L + i) := by rw [PA, if_pos rfl]
      rw [pApp, eP, nI_1, nI_clamp (by omega)]
      exact zcg_u (zcg_u hr)
theorem m_item22 (T : zTb σ ln c n) (g2 : gr σ 455 2 = some 457) (l2 : ln 457 = 4763) (V : zPV r o) (hr : zcg r R) (h21 : f 21 = 0) {a s m L : Nat} (ha : a < 24) (hL : r (219 + a) = nI L) (hL30 : L ≤ 30) (hm : m ≤ 12) (hsm : s + m ≤ n) (h15 : f 15 = nI s) (h16 : f 16 = nI (s + m)) (hc : ∀ j, j < m → xK (c (s + j)) = 1 ∨ xK (c (s + j)) = 2) {Q : zS → Prop} (q1 : (∀ j, j < m → (zidx (c (s + j))).toInt < (r 0).toInt - 2) → L + m ≤ 30 → ∀ R', zcg (pApp c s a r m) R' → Q (zmr σ f w R')) (q0 : ¬ ((∀ j, j < m → (zidx (c (s + j))).toInt < (r 0).toInt - 2) ∧ L + m ≤ 30) → Q (zmr σ (mbad f) w R)) : ∀ (d i : Nat) (g : Nat → Int32), i + d = m → ((g = f ∧ ∀ j, j < i → (zidx (c (s + j))).toInt < (r 0).toInt - 2) ∨ (g = mbad f ∧ ¬ ∀ j, j < m → (zidx (c (s + j))).toInt < (r 0).toInt - 2)) → wX12_item_22 ln Q (d + 1) 455 (nI a) (nI (s + i)) (zmr σ g w R)
  | 0, i, g, hd, hg => by
    have hn := T.1
    obtain rfl : i = m := by omega
    have g15 : g 15 = nI s := by
      rcases hg with ⟨h, -⟩ | ⟨h, -⟩
      · rw [h]; exact h15
      · rw [h]; unfold mbad; rw [zu_ne (by decide), zu_ne (by decide)]; exact h15
    have g16 : g 16 = nI (s + i) := by
      rcases hg with ⟨h, -⟩ | ⟨h, -⟩
      · rw [h]; exact h16
      · rw [h]; unfold mbad; rw [zu_ne (by decide), zu_ne (by decide)]; exact h16
    rw [wX12_item_22, gi_zmr_f, g16, g15]
    refine ⟨fun _ => ⟨457, g2, fun x2 e2 => ?_⟩, fun hx => absurd (nI_le (Nat.le_refl _) (by omega)) hx⟩
    rw [nI_219p] at e2
    subst e2
    rw [l2]
    refine ⟨vp_in_nI (by omega) (by omega), ?_⟩
    rw [nI_clamp (by omega), gi_zmr_r, hr _ (by omega), hL, nI_add, show nI (L + (s + i)) - nI s = nI (L + (s + i) - s) from pk_sub (by omega), show L + (s + i) - s = L + i by omega]
    rcases hg with ⟨h, hf⟩ | ⟨h, hf⟩
    · subst h
      refine ⟨fun hx => m_mustE h21 (fun x2 e2 => ⟨1, m_item104W mbad_21 (q0 (fun hh => ?_))⟩), fun hx => m_must1 (by decide) (fun x2 e2 => ?_)⟩
      · have := (nI_ltI (a := 30) (b := L + i) (by decide) (by omega)).mp hx
        omega
      · have hLi : L + i ≤ 30 := by
          rcases Nat.lt_or_ge 30 (L + i) with h | h
          · exact absurd (nI_lt h (by omega)) hx
          · exact h
        rw [gi_zmr_f, g15] at e2
        subst e2
        exact ⟨i + 1, m_item104 T g2 l2 h21 (s := s) (m := i) ha hL hLi hsm h16 hc (fun R' hr' => q1 hf hLi R' hr') i 0 R (by omega) hr⟩
    · subst h
      have q := q0 (fun hh => hf hh.1)
      exact ⟨fun _ => m_mustW mbad_21 (fun x2 e2 => ⟨1, m_item104W mbad_21 q⟩), fun _ => m_mustW mbad_21 (fun x2 e2 => ⟨1, m_item104W mbad_21 q⟩)⟩
  | d + 1, i, g, hd, hg => by
    have hn := T.1
    have hN := V.1.1
    have l2i : (2 : Int32).toInt = 2 := rfl
    have g16 : g 16 = nI (s + m) := by
      rcases hg with ⟨h, -⟩ | ⟨h, -⟩
      · rw [h]; exact h16
      · rw [h]; unfold mbad; rw [zu_ne (by decide), zu_ne (by decide)]; exact h16
    have hb : (c (s + i)).toInt < 128 := by
      rcases hc i (by omega) with h | h
      · have := xK_1.mp h; omega
      · have := xK_2.mp h; omega
    rw [wX12_item_22, gi_zmr_f, g16]
    refine ⟨fun hx => absurd hx (nI_ge (by omega) (by omega)), fun _ => ⟨462, T.2.1, ?_⟩⟩
    rw [T.2.2.1]
    refine ⟨vp_in_nI (by omega) (by omega), fun x7 e7 => ?_⟩
    rw [nI_clamp (by omega), gi_zmr_o (by decide) (by decide), zTb_e T (by omega) hb] at e7
    subst e7
    refine w_indexOf ⟨457, g2, ?_⟩
    rw [l2]
    refine ⟨vq0, ?_⟩
    rw [cq0, gi_zmr_r, hr 0 (by decide), nle, nsub (by rw [l2i]; omega) (by rw [l2i]; omega), l2i]
    have nx : ∀ g', ((g' = f ∧ ∀ j, j < i + 1 → (zidx (c (s + j))).toInt < (r 0).toInt - 2) ∨ (g' = mbad f ∧ ¬ ∀ j, j < m → (zidx (c (s + j))).toInt < (r 0).toInt - 2)) → ∀ x2 : Int32, x2 = nI (s + i) + 1 → wX12_item_22 ln Q (d + 1) 455 (nI a) x2 (zmr σ g' w R) := fun g' hg' x2 e2 => by
      rw [nI_1] at e2
      subst e2
      exact m_item22 T g2 l2 V hr h21 ha hL hL30 hm hsm h15 h16 hc q1 q0 d (i + 1) g' (by omega) hg'
    rcases hg with ⟨h, hf⟩ | ⟨h, hf⟩
    · subst h
      refine ⟨fun hx => m_mustE h21 (nx _ (Or.inr ⟨rfl, fun hh => ?_⟩)), fun hx => m_must1 (by decide) (nx _ (Or.inl ⟨rfl, fun j hj => ?_⟩))⟩
      · have := hh i (by omega)
        omega
      · by_cases e : j = i
        · subst e; omega
        · exact hf j (by omega)
    · subst h
      exact ⟨fun _ => m_mustW mbad_21 (nx _ (Or.inr ⟨rfl, hf⟩)), fun _ => m_mustW mbad_21 (nx _ (Or.inr ⟨rfl, hf⟩))⟩
theorem m_item (T : zTb σ ln c n) (g2 : gr σ 455 2 = some 457) (l2 : ln 457 = 4763) (V : zPV r o) (hr : zcg r R) (h21 : f 21 = 0) {v : Nat} (hv : v < 2) (hM1 : 1 ≤ (r (25 + v)).toInt) (t : mtk f w c n q) (hk : tK c n q = 1 ∨ tK c n q = 2) {x : Int32} (hx : x = nI v) {Q : zS → Prop} (h1 : pItb c n r v q = true → ∀ R', zcg (pApp c (tS c n q) (pLn r v) r (tE c n q - tS c n q)) R' → Q (zmr σ f w R')) (h0 : ¬ pItb c n r v q = true → Q (zmr σ (mbad f) w R)) : wX12_item ln (zmr σ f w R) 455 x Q := by
  subst hx
  have hn := T.1
  have hM := (V.2.2.1 v hv).2.2
  have cM := ncl hM.1
  obtain ⟨M, eM⟩ : ∃ M, M = (r (25 + v)).toNatClampNeg := ⟨_, rfl⟩
  have rM : r (25 + v) = nI M := by rw [neq, nI_toInt (by omega)]; omega
  have hln : pLn r v = 12 * v + (M - 1) := by unfold pLn; rw [← eM]
  have a24 : 12 * v + (M - 1) < 24 := by omega
  have hLb := (V.2.2.2.1 _ a24).1
  have cL := ncl hLb.1
  obtain ⟨L, eL⟩ : ∃ L, L = (r (219 + (12 * v + (M - 1)))).toNatClampNeg := ⟨_, rfl⟩
  have rL : r (219 + (12 * v + (M - 1))) = nI L := by rw [neq, nI_toInt (by omega)]; omega
  have hSE := tE_gt c n q
  obtain ⟨k1, k2, k3, k4, k5⟩ := tK_run (k := tK c n q) hk rfl
  have hE := tE_le (c := c) (n := n) (q := q) (by rcases hk with h | h <;> rw [h] <;> decide)
  have hm : tE c n q - tS c n q ≤ 12 := by
    split at k4 <;> omega
  have iff := pItb_t (c := c) (n := n) (r := r) (v := v) (q := q)
  rw [hln, rL, nI_toInt (by omega)] at iff
  rw [hln] at h1
  refine ⟨457, g2, fun x2 e2 => ?_⟩
  rw [nI_25p] at e2
  subst e2
  rw [l2]
  refine ⟨vp_in_nI (by omega) (by omega), fun x4 e4 x5 e5 => ?_⟩
  rw [nI_clamp (by omega), gi_zmr_r, hr _ (by omega), rM, nI_12, nI_add, show nI (12 * v + M) - 1 = nI (12 * v + M - 1) from pk_sub (a := 12 * v + M) (b := 1) (by omega), show 12 * v + M - 1 = 12 * v + (M - 1) by omega] at e4
  rw [gi_zmr_f, t.2.1] at e5
  subst e4 e5
  exact ⟨tE c n q - tS c n q + 1, m_item22 (o := o) (s := tS c n q) (m := tE c n q - tS c n q) (L := L) T g2 l2 V hr h21 a24 rL (by omega) hm (by omega) t.2.1 (by rw [t.2.2.1]; congr 1; omega) (fun j hj => by rw [k5 _ (by omega) (by omega)]; exact hk) (fun hf hl R' hr' => h1 (iff.mpr ⟨hf, by omega⟩) R' hr') (fun hno => h0 (fun hb => hno ⟨(iff.mp hb).1, by have := (iff.mp hb).2; omega⟩)) (tE c n q - tS c n q) 0 f (by omega) (Or.inl ⟨rfl, fun j hj => absurd hj (Nat.not_lt_zero j)⟩)⟩
theorem m_isItem {Q : Int32 → zS → Prop} (h21 : f 21 = 0) (t : mtk f w c n q) (h1 : (tK c n q = 1 ∨ tK c n q = 2 ∨ tK c n q = 4) → Q 1 (zmr σ f w R)) (h0 : ¬ (tK c n q = 1 ∨ tK c n q = 2 ∨ tK c n q = 4) → Q 0 (zmr σ f w R)) : wX12_isItem ln (zmr σ f w R) 455 Q := by
  unfold wX12_isItem
  rw [gi_zmr_f, t.1]
  exact ⟨fun _ => ⟨fun h => h1 (Or.inl h), fun n1 => ⟨fun h => h1 (Or.inr (Or.inl h)), fun n2 => ⟨fun h => h1 (Or.inr (Or.inr h)), fun n4 => h0 (fun h => h.elim n1 (fun h => h.elim n2 n4))⟩⟩⟩, fun h => absurd h21 h⟩
theorem m_isItemW {Q : Int32 → zS → Prop} (h21 : f 21 = 1) (hq : Q 0 (zmr σ f w R)) : wX12_isItem ln (zmr σ f w R) 455 Q := by
  unfold wX12_isItem
  rw [gi_zmr_f, h21]
  exact ⟨fun h => absurd h (by decide), fun _ => hq⟩
/-- from a fault on nothing more is read -/
theorem m_itemsW (h21 : f 21 = 1) {x : Int32} {Q : zS → Prop} (hq : Q (zmr σ f w R)) (d : Nat) : wX12_messageLine_67 ln Q (d + 1) 455 x (zmr σ f w R) := by
  rw [wX12_messageLine_67]
  exact m_isItemW h21 ⟨fun _ => hq, fun h => absurd rfl h⟩
theorem m_95W (h21 : f 21 = 1) {x : Int32} {Q : zS → Prop} (hq : Q (zmr σ f w R)) (d : Nat) : wX12_messageLine_95 ln Q (wX12_messageLine_67 ln Q (d + 1)) 455 x (zmr σ f w R) := m_goesW h21 (m_itemsW h21 hq d)
theorem m_items (T : zTb σ ln c n) (g2 : gr σ 455 2 = some 457) (l2 : ln 457 = 4763) {v : Nat} (hv : v < 2) {Q : zS → Prop} : ∀ (d q : Nat) (b : Bool) (r : zRow) (f : Nat → Int32) (w : Int64) (R : zRow), n + 1 ≤ q + d → q ≤ n → (b = true → tK c n q = 1 ∨ tK c n q = 2 ∨ tK c n q = 4) → zPV r o → 1 ≤ (r (25 + v)).toInt → mfo f0 f → f 14 = f0 14 → f 13 = nI n → f 19 = nI o → f 21 = 0 → mtk f w c n q → zcg r R → mR σ c n f0 Q (pMsg2 o (pIts c n v d b r q)) → wX12_messageLine_67 ln (fun σ18 => wX12_statement_159 ln Q 455 σ18) (d + 2) 455 (nI v) (zmr σ f w R)
  | 0, q, b, r, f, w, R, hd, hqn, hb, V, hM1, hf, h14, h13, h19, h21, t, hr, hR => absurd hd (by omega)
  | d + 1, q, b, r, f, w, R, hd, hqn, hb, V, hM1, hf, h14, h13, h19, h21, t, hr, hR => by
    have hn := T.1
    have hEq := tE_q (c := c) (n := n) q
    have hM := (V.2.2.1 v hv).2.2
    have cM := ncl hM.1
    obtain ⟨M, eM⟩ : ∃ M, M = (r (25 + v)).toNatClampNeg := ⟨_, rfl⟩
    have rM : r (25 + v) = nI M := by rw [neq, nI_toInt (by omega)]; omega
    rw [wX12_messageLine_67]
    rw [pIts] at hR
    refine m_isItem h21 t (fun hk => ⟨fun x => absurd x (by decide), fun _ => ?_⟩) (fun hk => ⟨fun _ => ?_, fun x => absurd rfl x⟩)
    · have hk3 : ¬ tK c n q = 3 := fun h => by rw [h] at hk; rcases hk with h | h | h <;> exact absurd h (by decide)
      have hE := tE_le (c := c) (n := n) (q := q) (by rcases hk with h | h | h <;> rw [h] <;> decide)
      rw [if_neg hk3] at hR
      rw [gi_zmr_f, t.1]
      refine ⟨fun k4 => ?_, fun k4 => ?_⟩
      · rw [if_pos k4] at hR
        refine m_newLine g2 l2 h21 hv (L := M) (by rw [hr _ (by omega)]; exact rM) (by omega) rfl (fun h => ?_) (fun h => ?_)
        · rw [if_pos (by omega)] at hR
          exact m_95W mbad_21 (m_159w (hf.tr mbad_o) mbad_21 (by rw [mbad_14]; exact t.2.1) rfl hR) (d + 1)
        · rw [if_neg (by omega)] at hR
          have l1 : (1 : Int32).toInt = 1 := rfl
          refine m_goes T (q := tE c n q) (by omega) h21 h13 t.2.2.1 (fun f1 w1 m1 t1 => ?_)
          refine m_items T g2 l2 hv d (tE c n q) false (pNew r v) f1 w1 _ (by omega) hE.1 (fun h => nomatch h) (pv_new V hv (by omega)) ?_ (hf.tr m1.o) (by rw [m1 14 (by decide)]; exact h14) (by rw [m1 13 (by decide)]; exact h13) (by rw [m1 19 (by decide)]; exact h19) (by rw [m1 21 (by decide)]; exact h21) t1 ?_ hR
          · unfold pNew
            rw [zu_self, nadd (by rw [l1]; omega) (by rw [l1]; omega), l1]; omega
          · unfold pNew
            rw [← eM, rM, nI_1]
            exact zcg_u (zcg_u hr)
      · have k12 : tK c n q = 1 ∨ tK c n q = 2 := by
          rcases hk with h | h | h
          · exact Or.inl h
          · exact Or.inr h
          · exact absurd h k4
        rw [if_neg k4, if_pos k12] at hR
        refine m_item T g2 l2 V hr h21 hv hM1 t k12 rfl (fun hbt R' hr' => ?_) (fun hbf => ?_)
        · rw [if_pos hbt] at hR
          obtain ⟨b1, b2⟩ := pItb_t.mp hbt
          obtain ⟨k1', k2, k3, k4', k5⟩ := tK_run (k := tK c n q) k12 rfl
          have a24 := pLn_lt V hv
          have hlb := (V.2.2.2.1 _ a24).1
          have cl := ncl hlb.1
          have eL : r (219 + pLn r v) = nI (r (219 + pLn r v)).toNatClampNeg := by rw [neq, nI_toInt (by omega)]; omega
          refine m_goes T (q := tE c n q) (by omega) h21 h13 t.2.2.1 (fun f1 w1 m1 t1 => ?_)
          refine m_items T g2 l2 hv d (tE c n q) false _ f1 w1 R' (by omega) hE.1 (fun h => nomatch h) (pv_app (c := c) (s := tS c n q) V a24 b2 (fun j hj => ⟨b1 j hj, by rw [k5 _ (by omega) (by omega)]; exact k12⟩)) ?_ (hf.tr m1.o) (by rw [m1 14 (by decide)]; exact h14) (by rw [m1 13 (by decide)]; exact h13) (by rw [m1 19 (by decide)]; exact h19) (by rw [m1 21 (by decide)]; exact h21) t1 hr' hR
          rw [pApp_at a24 eL _ (by omega), if_neg (by omega), if_neg (by omega)]
          exact hM1
        · rw [if_neg hbf] at hR
          exact m_95W mbad_21 (m_159w (hf.tr mbad_o) mbad_21 (by rw [mbad_14]; exact t.2.1) rfl hR) (d + 1)
    · have hbf : ¬ b = true := fun h => hk (hb h)
      have k4 : ¬ tK c n q = 4 := fun h => hk (Or.inr (Or.inr h))
      have k12 : ¬ (tK c n q = 1 ∨ tK c n q = 2) := fun h => hk (h.elim Or.inl (fun h => Or.inr (Or.inl h)))
      by_cases k3 : tK c n q = 3
      · rw [if_pos k3, if_neg hbf] at hR
        have hE := tE_le (c := c) (n := n) (q := q) (by rw [k3]; decide)
        obtain ⟨t17, t15, t16, t18, t22⟩ := t
        unfold wX12_statement_159
        rw [gi_zmr_f, t17]
        refine ⟨fun _ => m_must1 (by decide) ?_, fun x => absurd k3 x⟩
        refine m_goes T (q := tE c n q) (by omega) h21 h13 t16 (fun f' w' m t' σ3 s3 => ?_)
        rw [si_zmr_f] at s3
        subst s3
        refine hR.2 r o q rfl _ _ _ (hf.tr (m.o.tr (mfo_zu (by decide)))) ?_ ?_ (zu_self _ _ _) ?_ (mtk_c t' (fun j j1 j2 => zu_ne (by omega))) hr
        · rw [zu_ne (by decide), m 14 (by decide)]; exact h14
        · rw [zu_ne (by decide), m 19 (by decide)]; exact h19
        · rw [zu_ne (by decide), m 21 (by decide)]; exact h21
      · rw [if_neg k3, if_neg k4, if_neg k12] at hR
        unfold wX12_statement_159
        rw [gi_zmr_f, t.1]
        refine ⟨fun x => absurd x k3, fun _ => m_mustE h21 (m_goesW mbad_21 (fun σ3 s3 => ?_))⟩
        rw [si_zmr_f] at s3
        subst s3
        exact hR.1 _ rfl _ _ _ (hf.tr (mbad_o.tr (mfo_zu (by decide)))) (by rw [zu_ne (by decide)]; exact mbad_21) (by rw [zu_ne (by decide), mbad_14]; exact t.2.1)
theorem m_49W (g2 : gr σ 455 2 = some 457) (l2 : ln 457 = 4763) (h21 : f 21 = 1) {Q : zS → Prop} (hq : Q (zmr σ f w R)) : wX12_messageLine_49 ln Q 455 0 (zmr σ f w R) := m_newLineW g2 l2 h21 (v := 0) (by decide) rfl (m_goesW h21 (m_isItemW h21 (m_mustW h21 ⟨1, m_itemsW h21 hq 0⟩)))
theorem m_msgst (T : zTb σ ln c n) (g2 : gr σ 455 2 = some 457) (l2 : ln 457 = 4763) (V : zPV r o) (hk1 : tK c n q = 1) (hf : mfo f0 f) (h14 : f 14 = f0 14) (h13 : f 13 = nI n) (h19 : f 19 = nI o) (h21 : f 21 = 0) (t : mtk f w c n q) (hr : zcg r R) {Q : zS → Prop} (hR : mR σ c n f0 Q (pMsg c n r o q)) : wX12_messageLine ln (zmr σ f w R) 455 (fun σ18 => wX12_statement_159 ln Q 455 σ18) := by
  have hn := T.1
  have l0 : (0 : Int64).toInt = 0 := rfl
  have l1 : (1 : Int64).toInt = 1 := rfl
  have i0 : (0 : Int32).toInt = 0 := rfl
  have i1 : (1 : Int32).toInt = 1 := rfl
  have hE1 := (tE_le (c := c) (n := n) (q := q) (by rw [hk1]; decide)).1
  refine m_goes T (q := tE c n q) (by omega) h21 h13 t.2.2.1 (fun f1 w1 m1 t1 => ?_)
  have h121 : f1 21 = 0 := by rw [m1 21 (by decide)]; exact h21
  have h113 : f1 13 = nI n := by rw [m1 13 (by decide)]; exact h13
  have bad : ¬ pN c n (tE c n q) 0 1 → wX12_messageLine_30 ln (fun σ18 => wX12_statement_159 ln Q 455 σ18) 455 455 (zmr σ f1 w1 R) := fun h => by
    have e : pMsg c n r o q = .inl (tS c n (tE c n q)) := by unfold pMsg; rw [if_neg (fun x => h (pNb_t.mp x))]
    unfold wX12_messageLine_30 wX12_messageLine_31
    refine m_mustE h121 ⟨fun x => ?_, fun _ => m_49W g2 l2 mbad_21 (m_159w (hf.tr (m1.o.tr mbad_o)) mbad_21 (by rw [mbad_14]; exact t1.2.1) e hR)⟩
    rw [gi_zmr_f, mbad_21] at x
    exact absurd x (by decide)
  rw [gi_zmr_f, t1.1]
  refine ⟨fun hk x2 e2 => ?_, fun hk => bad (fun h => hk h.1)⟩
  rw [t1.2.2.2.1 hk] at e2
  subst e2
  refine w_isIn ?_
  rw [n64, l0, l1]
  by_cases hrg : 0 ≤ (tV c n (tE c n q)).toInt ∧ (tV c n (tE c n q)).toInt ≤ 1
  · rw [if_pos hrg]
    refine ⟨fun x => absurd x (by decide), fun _ => m_must1 (by decide) ⟨fun _ => ?_, fun x => absurd h121 x⟩⟩
    rw [gi_zmr_f, t1.2.2.2.1 hk]
    have hy : pN c n (tE c n q) 0 1 := ⟨hk, by omega, by omega⟩
    have c0 := ncl hrg.1
    obtain ⟨v, ev⟩ : ∃ v, v = (tV c n (tE c n q)).toNatClampNeg := ⟨_, rfl⟩
    have rv : tV c n (tE c n q) = nI v := by rw [neq, nI_toInt (by omega)]; omega
    have hv : v < 2 := by omega
    rw [rv]
    have hE2 := tE_le (c := c) (n := n) (q := tE c n q) (by rw [hk]; decide)
    have hM := (V.2.2.1 v hv).2.2
    have cM := ncl hM.1
    obtain ⟨M, eM⟩ : ∃ M, M = (r (25 + v)).toNatClampNeg := ⟨_, rfl⟩
    have rM : r (25 + v) = nI M := by rw [neq, nI_toInt (by omega)]; omega
    have e : pMsg c n r o q = if 12 ≤ (r (25 + v)).toInt then .inl (tS c n (tE c n q)) else pMsg2 o (pIts c n v (n + 1) true (pNew r v) (tE c n (tE c n q))) := by
      unfold pMsg
      rw [if_pos (pNb_t.mpr hy), ← ev]
    rw [e] at hR
    refine m_newLine g2 l2 h121 hv (L := M) (by rw [hr _ (by omega)]; exact rM) (by omega) rfl (fun h => ?_) (fun h => ?_)
    · rw [if_pos (by omega)] at hR
      exact m_goesW mbad_21 (m_isItemW mbad_21 (m_mustW mbad_21 ⟨1, m_itemsW mbad_21 (m_159w (hf.tr (m1.o.tr mbad_o)) mbad_21 (by rw [mbad_14]; exact t1.2.1) rfl hR) 0⟩))
    · rw [if_neg (by omega)] at hR
      have l1' : (1 : Int32).toInt = 1 := rfl
      refine m_goes T (q := tE c n (tE c n q)) (by omega) h121 h113 t1.2.2.1 (fun f2 w2 m2 t2 => ?_)
      have h221 : f2 21 = 0 := by rw [m2 21 (by decide)]; exact h121
      refine m_isItem h221 t2 (fun hit => m_must1 (by decide) ⟨n + 1 + 2, ?_⟩) (fun hit => m_mustE h221 ⟨1, ?_⟩)
      · refine m_items T g2 l2 hv (n + 1) (tE c n (tE c n q)) true (pNew r v) f2 w2 _ (by omega) hE2.1 (fun _ => hit) (pv_new V hv (by omega)) ?_ (hf.tr (m1.o.tr m2.o)) (by rw [m2 14 (by decide), m1 14 (by decide)]; exact h14) (by rw [m2 13 (by decide)]; exact h113) (by rw [m2 19 (by decide), m1 19 (by decide)]; exact h19) h221 t2 ?_ hR
        · unfold pNew
          rw [zu_self, nadd (by rw [l1']; omega) (by rw [l1']; omega), l1']; omega
        · unfold pNew
          rw [← eM, rM, nI_1]
          exact zcg_u (zcg_u hr)
      · have e3 : pIts c n v (n + 1) true (pNew r v) (tE c n (tE c n q)) = .inl (tS c n (tE c n (tE c n q))) := by
          rw [pIts]
          by_cases k3 : tK c n (tE c n (tE c n q)) = 3
          · rw [if_pos k3, if_pos rfl]
          · rw [if_neg k3, if_neg (fun h => hit (Or.inr (Or.inr h))), if_neg (fun h => hit (h.elim Or.inl (fun h => Or.inr (Or.inl h))))]
        rw [e3] at hR
        exact m_itemsW mbad_21 (m_159w (hf.tr (m1.o.tr (m2.o.tr mbad_o))) mbad_21 (by rw [mbad_14]; exact t2.2.1) rfl hR) 0
  · rw [if_neg hrg]
    exact ⟨fun _ => bad (fun h => hrg ⟨h.2.1, h.2.2⟩), fun x => absurd rfl x⟩
end ZMMSG
