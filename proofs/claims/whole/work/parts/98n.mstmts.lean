/-! THE MODEL READS: settings, offices, lost pulses -/
def mfo (f f' : Nat → Int32) : Prop := ∀ j, ¬ (14 ≤ j ∧ j ≤ 21) → f' j = f j
theorem mfo.tr {f f' f'' : Nat → Int32} (h : mfo f f') (g : mfo f' f'') : mfo f f'' := fun j hj => (g j hj).trans (h j hj)
theorem mfr.o {f f' : Nat → Int32} (h : mfr f f') : mfo f f' := fun j hj => h j (by omega)
theorem mfo_zu {f : Nat → Int32} {k : Nat} {v : Int32} (h : 14 ≤ k ∧ k ≤ 21) : mfo f (zu f k v) := fun j hj => zu_ne (fun e => hj (e ▸ h))
/-- the model has found a fault -/
def mbad (f : Nat → Int32) : Nat → Int32 := zu (zu f 21 1) 14 (f 15)
theorem mbad_o {f : Nat → Int32} : mfo f (mbad f) := (mfo_zu (by decide)).tr (mfo_zu (by decide))
theorem mbad_21 {f : Nat → Int32} : mbad f 21 = 1 := by unfold mbad; rw [zu_ne (by decide), zu_self]
theorem mbad_14 {f : Nat → Int32} : mbad f 14 = f 15 := zu_self _ _ _
/-- what a statement must leave -/
def mR (σ : zS) (c : Nat → Int32) (n : Nat) (f0 : Nat → Int32) (Q : zS → Prop) (res : Nat ⊕ (zRow × Nat × Nat)) : Prop := (∀ e, res = .inl e → ∀ f w R, mfo f0 f → f 21 = 1 → f 14 = nI e → Q (zmr σ f w R)) ∧ (∀ r o q, res = .inr (r, o, q) → ∀ f w R, mfo f0 f → f 14 = f0 14 → f 19 = nI o → f 20 = 0 → f 21 = 0 → mtk f w c n (tE c n q) → zcg r R → Q (zmr σ f w R))
theorem mtk_c {f f' : Nat → Int32} {w : Int64} {c : Nat → Int32} {n q : Nat} (h : mtk f w c n q) (e : ∀ j, 15 ≤ j → j ≤ 18 → f' j = f j) : mtk f' w c n q := by
  obtain ⟨h1, h2, h3, h4, h5⟩ := h
  exact ⟨by rw [e 17 (by decide) (by decide)]; exact h1, by rw [e 15 (by decide) (by decide)]; exact h2, by rw [e 16 (by decide) (by decide)]; exact h3, fun x => by rw [e 18 (by decide) (by decide)]; exact h4 x, h5⟩
section ZMST
variable {ln : Nat → Nat} {σ : zS} {f f0 : Nat → Int32} {w : Int64} {R : zRow} {c : Nat → Int32} {n : Nat} {r : zRow} {o q : Nat}
theorem m_must1 {v : Int32} (hv : ¬ v = 0) {Q : zS → Prop} (hq : Q (zmr σ f w R)) : wX12_must ln (zmr σ f w R) 455 v Q := ⟨fun h => absurd h hv, fun _ => hq⟩
theorem m_mustE (h21 : f 21 = 0) {Q : zS → Prop} (hq : Q (zmr σ (mbad f) w R)) : wX12_must ln (zmr σ f w R) 455 0 Q := by
  refine ⟨fun _ => ⟨fun _ σ1 s1 x2 e2 σ3 s3 => ?_, fun h => absurd h21 h⟩, fun h => absurd rfl h⟩
  rw [si_zmr_f] at s1
  subst s1
  rw [gi_zmr_f, zu_ne (by decide)] at e2
  subst e2
  rw [si_zmr_f] at s3
  subst s3
  exact hq
theorem m_mustW {v : Int32} (h21 : f 21 = 1) {Q : zS → Prop} (hq : Q (zmr σ f w R)) : wX12_must ln (zmr σ f w R) 455 v Q := by
  refine ⟨fun _ => ?_, fun _ => hq⟩
  rw [gi_zmr_f, h21]
  exact ⟨fun h => absurd h (by decide), fun _ => hq⟩
theorem m_goes (T : zTb σ ln c n) (hq7 : q ≤ 700) (h21 : f 21 = 0) (h13 : f 13 = nI n) (h16 : f 16 = nI q) {Q : zS → Prop} (hq : ∀ f' w', mfr f f' → mtk f' w' c n q → Q (zmr σ f' w' R)) : wX12_goesOver ln (zmr σ f w R) 455 Q := ⟨fun _ => m_next T hq7 h13 h16 hq, fun h => absurd h21 h⟩
theorem m_goesW (h21 : f 21 = 1) {Q : zS → Prop} (hq : Q (zmr σ f w R)) : wX12_goesOver ln (zmr σ f w R) 455 Q := by
  refine ⟨fun h => ?_, fun _ => hq⟩
  rw [gi_zmr_f, h21] at h
  exact absurd h (by decide)
theorem m_takes (T : zTb σ ln c n) (hqn : q ≤ n) (h21 : f 21 = 0) (h13 : f 13 = nI n) (t : mtk f w c n q) {lo hi : Int32} {Q : Int32 → zS → Prop} (hno : ¬ pN c n q lo hi → Q lo (zmr σ (mbad f) w R)) (hok : pN c n q lo hi → ∀ f' w', mfr f f' → mtk f' w' c n (tE c n q) → Q (tV c n q) (zmr σ f' w' R)) : wX12_takes ln (zmr σ f w R) 455 lo hi Q := by
  have hn := T.1
  have hE := tE_le1 c hqn
  obtain ⟨t17, t15, t16, t18, t22⟩ := t
  have bad : ¬ pN c n q lo hi → wX12_takes_28 ln Q 455 lo 455 (zmr σ f w R) := fun h => by
    unfold wX12_takes_28 wX12_takes_29
    refine m_mustE h21 ⟨fun x => ?_, fun _ => m_goesW mbad_21 (hno h)⟩
    rw [gi_zmr_f, mbad_21] at x
    exact absurd x (by decide)
  unfold wX12_takes
  rw [gi_zmr_f, t17]
  refine ⟨fun hk x1 e1 x2 e2 x3 e3 => ?_, fun hk => bad (fun h => hk h.1)⟩
  rw [t18 hk] at e3
  subst e1 e2 e3
  refine w_isIn ?_
  rw [n64, n64, n64]
  by_cases hr : lo.toInt ≤ (tV c n q).toInt ∧ (tV c n q).toInt ≤ hi.toInt
  · rw [if_pos hr]
    refine ⟨fun x => absurd x (by decide), fun _ => m_must1 (by decide) ⟨fun _ => ?_, fun x => absurd h21 x⟩⟩
    rw [gi_zmr_f, t18 hk]
    exact m_goes T (q := tE c n q) (by omega) h21 h13 t16 (hok ⟨hk, hr.1, hr.2⟩)
  · rw [if_neg hr]
    exact ⟨fun _ => bad (fun h => hr h.2), fun x => absurd rfl x⟩
theorem m_takesW (h21 : f 21 = 1) {lo hi : Int32} {Q : Int32 → zS → Prop} (hq : Q lo (zmr σ f w R)) : wX12_takes ln (zmr σ f w R) 455 lo hi Q := by
  have key : ∀ v : Int32, wX12_takes_29 ln Q 455 lo 455 v (zmr σ f w R) := fun v => by
    refine m_mustW h21 ⟨fun x => ?_, fun _ => m_goesW h21 hq⟩
    rw [gi_zmr_f, h21] at x
    exact absurd x (by decide)
  refine ⟨fun _ x1 e1 x2 e2 x3 e3 => w_isIn ?_, fun _ => key 0⟩
  exact ⟨fun _ => key 0, fun _ => key 1⟩
theorem m_159w (hf : mfo f0 f) (h21 : f 21 = 1) {e : Nat} (h14 : f 14 = nI e) {Q : zS → Prop} {res : Nat ⊕ (zRow × Nat × Nat)} (he : res = .inl e) (hR : mR σ c n f0 Q res) : wX12_statement_159 ln Q 455 (zmr σ f w R) := by
  have key : ∀ v : Int32, wX12_statement_173 ln Q 455 455 v (zmr σ f w R) := fun v => by
    refine m_mustW h21 (m_goesW h21 (fun σ3 s3 => ?_))
    rw [si_zmr_f] at s3
    subst s3
    exact hR.1 e he _ _ _ (hf.tr (mfo_zu (by decide))) (by rw [zu_ne (by decide)]; exact h21) (by rw [zu_ne (by decide)]; exact h14)
  exact ⟨fun _ => key 1, fun _ => key 0⟩
theorem m_159 (T : zTb σ ln c n) (hqn : tE c n q ≤ n + 1) (hf : mfo f0 f) (h14 : f 14 = f0 14) (h13 : f 13 = nI n) (h19 : f 19 = nI o) (h21 : f 21 = 0) (t : mtk f w c n (tE c n q)) (hr : zcg r R) {Q : zS → Prop} (hR : mR σ c n f0 Q (pSemi c n r o q)) : wX12_statement_159 ln Q 455 (zmr σ f w R) := by
  have hn := T.1
  obtain ⟨t17, t15, t16, t18, t22⟩ := t
  unfold wX12_statement_159
  rw [gi_zmr_f, t17]
  refine ⟨fun hk => m_must1 (by decide) ?_, fun hk => ?_⟩
  · have hE := tE_le (c := c) (n := n) (q := tE c n q) (by rw [hk]; decide)
    refine m_goes T (q := tE c n (tE c n q)) (by omega) h21 h13 t16 (fun f' w' m t' σ3 s3 => ?_)
    rw [si_zmr_f] at s3
    subst s3
    refine hR.2 r o (tE c n q) ?_ _ _ _ (hf.tr (m.o.tr (mfo_zu (by decide)))) ?_ ?_ (zu_self _ _ _) ?_ (mtk_c t' (fun j j1 j2 => zu_ne (by omega))) hr
    · unfold pSemi; rw [if_pos hk]
    · rw [zu_ne (by decide), m 14 (by decide)]; exact h14
    · rw [zu_ne (by decide), m 19 (by decide)]; exact h19
    · rw [zu_ne (by decide), m 21 (by decide)]; exact h21
  · have e : pSemi c n r o q = .inl (tS c n (tE c n q)) := by unfold pSemi; rw [if_neg hk]
    have h := m_159w (ln := ln) (σ := σ) (f := mbad f) (f0 := f0) (w := w) (R := R) (c := c) (n := n) (hf.tr mbad_o) mbad_21 (e := tS c n (tE c n q)) (by rw [mbad_14]; exact t15) e hR
    refine m_mustE h21 (m_goesW mbad_21 (fun σ3 s3 => ?_))
    rw [si_zmr_f] at s3
    subst s3
    exact hR.1 _ e _ _ _ (hf.tr (mbad_o.tr (mfo_zu (by decide)))) (by rw [zu_ne (by decide)]; exact mbad_21) (by rw [zu_ne (by decide), mbad_14]; exact t15)
theorem zcg_u {k : Nat} {v : Int32} (h : zcg r R) : zcg (zu r k v) (zu R k v) := fun j hj => by
  rw [zu_ap, zu_ap, h j hj]
theorem m_setk (T : zTb σ ln c n) (g2 : gr σ 455 2 = some 457) (l2 : ln 457 = 4763) (hk1 : tK c n q = 1) (hf : mfo f0 f) (h14 : f 14 = f0 14) (h13 : f 13 = nI n) (h19 : f 19 = nI o) (h21 : f 21 = 0) (t : mtk f w c n q) (hr : zcg r R) {k : Nat} {v lo hi : Int32} (hv : v = nI k) (hk : k ≤ 4) {Q : zS → Prop} (hR : mR σ c n f0 Q (pSet c n k lo hi r o q)) : wX12_setting ln (zmr σ f w R) 455 v lo hi (fun σ18 => wX12_statement_159 ln Q 455 σ18) := by
  have hn := T.1
  subst hv
  have hE1 := (tE_le (c := c) (n := n) (q := q) (by rw [hk1]; decide)).1
  refine m_goes T (q := tE c n q) (by omega) h21 h13 t.2.2.1 (fun f1 w1 m1 t1 => ⟨457, g2, ?_⟩)
  have h1 : f1 21 = 0 := by rw [m1 21 (by decide)]; exact h21
  have h113 : f1 13 = nI n := by rw [m1 13 (by decide)]; exact h13
  refine m_takes T hE1 h1 h113 t1 (fun hno => ?_) (fun hok f' w' m' t' => ?_)
  · have e : pSet c n k lo hi r o q = .inl (tS c n (tE c n q)) := by unfold pSet; rw [if_neg (fun h => hno (pNb_t.mp h))]
    rw [l2]
    refine ⟨vp_in_nI (by omega) (by omega), fun σ6 s6 => ?_⟩
    rw [nI_clamp (by omega), si_zmr_r] at s6
    subst s6
    exact m_159w (hf.tr (m1.o.tr mbad_o)) mbad_21 (by rw [mbad_14]; exact t1.2.1) e hR
  · have e : pSet c n k lo hi r o q = pSemi c n (zu r k (tV c n (tE c n q))) o (tE c n q) := by unfold pSet; rw [if_pos (pNb_t.mpr hok)]
    rw [e] at hR
    have hE2 := (tE_le (c := c) (n := n) (q := tE c n q) (by rw [hok.1]; decide)).1
    rw [l2]
    refine ⟨vp_in_nI (by omega) (by omega), fun σ6 s6 => ?_⟩
    rw [nI_clamp (by omega), si_zmr_r] at s6
    subst s6
    exact m_159 T (by omega) (hf.tr (m1.o.tr m'.o)) (by rw [m' 14 (by decide), m1 14 (by decide)]; exact h14) (by rw [m' 13 (by decide)]; exact h113) (by rw [m' 19 (by decide), m1 19 (by decide)]; exact h19) (by rw [m' 21 (by decide)]; exact h1) t' (zcg_u hr) hR
theorem m_wheel (T : zTb σ ln c n) (g2 : gr σ 455 2 = some 457) (l2 : ln 457 = 4763) (hk1 : tK c n q = 1) (hf : mfo f0 f) (h14 : f 14 = f0 14) (h13 : f 13 = nI n) (h19 : f 19 = nI o) {b : Bool} (h20 : f 20 = if b = true then 1 else 0) (h21 : f 21 = 0) (t : mtk f w c n q) (hr : zcg r R) {Q : zS → Prop} (hR : mR σ c n f0 Q (if b = true then pSet c n 0 6 28 r o q else .inl (tS c n q))) : wX12_wheelLine ln (zmr σ f w R) 455 (fun σ18 => wX12_statement_159 ln Q 455 σ18) := by
  intro x1 e1
  rw [gi_zmr_f, h20] at e1
  subst e1
  by_cases hb : b = true
  · rw [if_pos hb] at hR ⊢
    exact m_must1 (by decide) (m_setk T g2 l2 hk1 hf h14 h13 h19 h21 t hr (k := 0) (v := 0) rfl (by decide) hR)
  · rw [if_neg hb] at hR ⊢
    refine m_mustE h21 (m_goesW mbad_21 ⟨457, g2, m_takesW mbad_21 ?_⟩)
    rw [l2]
    refine ⟨vq0, fun σ6 s6 => ?_⟩
    rw [cq0, si_zmr_r] at s6
    subst s6
    exact m_159w (hf.tr mbad_o) mbad_21 (by rw [mbad_14]; exact t.2.1) rfl hR
theorem m_offst (T : zTb σ ln c n) (g2 : gr σ 455 2 = some 457) (l2 : ln 457 = 4763) (V : zPV r o) (hk1 : tK c n q = 1) (hf : mfo f0 f) (h14 : f 14 = f0 14) (h13 : f 13 = nI n) (h19 : f 19 = nI o) (h21 : f 21 = 0) (t : mtk f w c n q) (hr : zcg r R) {Q : zS → Prop} (hR : mR σ c n f0 Q (pOff c n r o q)) : wX12_officeLine ln (zmr σ f w R) 455 (fun σ18 => wX12_statement_159 ln Q 455 σ18) := by
  have hn := T.1
  have ho2 := V.2.2.2.2.2
  have hE1 := (tE_le (c := c) (n := n) (q := q) (by rw [hk1]; decide)).1
  unfold wX12_officeLine
  rw [gi_zmr_f, h19]
  refine ⟨fun hx => ?_, fun hx => ?_⟩
  · have h2 := (nI_leI (a := 2) (b := o) (by decide) (by omega)).mp hx
    have e : pOff c n r o q = .inl (tS c n q) := by unfold pOff; rw [if_pos h2]
    refine m_mustE h21 (m_goesW mbad_21 ⟨457, g2, ?_⟩)
    rw [l2]
    refine ⟨vq0, fun x5 e5 => m_takesW mbad_21 (m_takesW mbad_21 ⟨fun x => ?_, fun _ => ?_⟩)⟩
    · rw [gi_zmr_f, mbad_21] at x
      exact absurd x (by decide)
    · exact m_159w (hf.tr mbad_o) mbad_21 (by rw [mbad_14]; exact t.2.1) e hR
  · have ho3 : o < 2 := by
      rcases Nat.lt_or_ge o 2 with h | h
      · exact h
      · exact absurd (nI_le h (by omega)) hx
    refine m_must1 (by decide) (m_goes T (q := tE c n q) (by omega) h21 h13 t.2.2.1 (fun f1 w1 m1 t1 => ⟨457, g2, ?_⟩))
    have h1 : f1 21 = 0 := by rw [m1 21 (by decide)]; exact h21
    have h113 : f1 13 = nI n := by rw [m1 13 (by decide)]; exact h13
    rw [l2]
    refine ⟨vq0, fun x5 e5 => ?_⟩
    rw [cq0, gi_zmr_r, hr 0 (by decide)] at e5
    subst e5
    refine m_takes T hE1 h1 h113 t1 (fun hno => m_takesW mbad_21 ⟨fun x => ?_, fun _ => ?_⟩) (fun hok f2 w2 m2 t2 => ?_)
    · rw [gi_zmr_f, mbad_21] at x
      exact absurd x (by decide)
    · have e : pOff c n r o q = .inl (tS c n (tE c n q)) := by
        unfold pOff
        rw [if_neg (by omega), if_neg (fun h => hno (pNb_t.mp h))]
      exact m_159w (hf.tr (m1.o.tr mbad_o)) mbad_21 (by rw [mbad_14]; exact t1.2.1) e hR
    · have hE2 := (tE_le (c := c) (n := n) (q := tE c n q) (by rw [hok.1]; decide)).1
      have h2 : f2 21 = 0 := by rw [m2 21 (by decide)]; exact h1
      have h213 : f2 13 = nI n := by rw [m2 13 (by decide)]; exact h113
      have h219 : f2 19 = nI o := by rw [m2 19 (by decide), m1 19 (by decide)]; exact h19
      refine m_takes T hE2 h2 h213 t2 (fun hno => ⟨fun x => ?_, fun _ => ?_⟩) (fun hok2 f3 w3 m3 t3 => ⟨fun _ => ⟨457, g2, fun x11 e11 => ?_⟩, fun x => ?_⟩)
      · rw [gi_zmr_f, mbad_21] at x
        exact absurd x (by decide)
      · have e : pOff c n r o q = .inl (tS c n (tE c n (tE c n q))) := by
          unfold pOff
          rw [if_neg (by omega), if_pos (pNb_t.mpr hok), if_neg (fun h => hno (pNb_t.mp h))]
        exact m_159w (hf.tr (m1.o.tr (m2.o.tr mbad_o))) mbad_21 (by rw [mbad_14]; exact t2.2.1) e hR
      · have e : pOff c n r o q = pSemi c n (zu (zu r (21 + o) (tV c n (tE c n q))) (23 + o) (tV c n (tE c n (tE c n q)))) (o + 1) (tE c n (tE c n q)) := by
          unfold pOff
          rw [if_neg (by omega), if_pos (pNb_t.mpr hok), if_pos (pNb_t.mpr hok2)]
        rw [e] at hR
        have hE3 := (tE_le (c := c) (n := n) (q := tE c n (tE c n q)) (by rw [hok2.1]; decide)).1
        have h319 : f3 19 = nI o := by rw [m3 19 (by decide)]; exact h219
        have a21 : (21 : Int32) + nI o = nI (21 + o) := nI_add 21 o
        have a23 : (23 : Int32) + nI o = nI (23 + o) := nI_add 23 o
        rw [gi_zmr_f, h319, a21] at e11
        subst e11
        rw [l2]
        refine ⟨vp_in_nI (by omega) (by omega), fun σ13 s13 => ⟨457, ?_, fun x15 e15 => ?_⟩⟩
        · rw [s13]; exact g2
        · rw [nI_clamp (by omega), si_zmr_r] at s13
          subst s13
          rw [gi_zmr_f, h319, a23] at e15
          subst e15
          rw [l2]
          refine ⟨vp_in_nI (by omega) (by omega), fun σ17 s17 x18 e18 σ19 s19 => ?_⟩
          rw [nI_clamp (by omega), si_zmr_r] at s17
          subst s17
          rw [gi_zmr_f, h319, nI_1] at e18
          subst e18
          rw [si_zmr_f] at s19
          subst s19
          exact m_159 T (by omega) (hf.tr (m1.o.tr (m2.o.tr (m3.o.tr (mfo_zu (by decide)))))) (by rw [zu_ne (by decide), m3 14 (by decide), m2 14 (by decide), m1 14 (by decide)]; exact h14) (by rw [zu_ne (by decide), m3 13 (by decide)]; exact h213) (zu_self _ _ _) (by rw [zu_ne (by decide), m3 21 (by decide)]; exact h2) (mtk_c t3 (fun j j1 j2 => zu_ne (by omega))) (zcg_u (zcg_u hr)) hR
      · rw [gi_zmr_f, m3 21 (by decide), h2] at x
        exact absurd rfl x
theorem m_loss (T : zTb σ ln c n) (g2 : gr σ 455 2 = some 457) (l2 : ln 457 = 4763) (V : zPV r o) (hk1 : tK c n q = 1) (hf : mfo f0 f) (h14 : f 14 = f0 14) (h13 : f 13 = nI n) (h19 : f 19 = nI o) (h21 : f 21 = 0) (t : mtk f w c n q) (hr : zcg r R) {Q : zS → Prop} (hR : mR σ c n f0 Q (pLos c n r o q)) : wX12_loseLine ln (zmr σ f w R) 455 (fun σ18 => wX12_statement_159 ln Q 455 σ18) := by
  have hn := T.1
  have h20 := V.2.1
  have c20 := ncl h20.1
  obtain ⟨m, hm⟩ : ∃ m, m = (r 20).toNatClampNeg := ⟨_, rfl⟩
  have em : r 20 = nI m := by rw [neq, nI_toInt (by omega)]; omega
  have l20 : (20 : Int32).toInt = 20 := rfl
  have hE1 := (tE_le (c := c) (n := n) (q := q) (by rw [hk1]; decide)).1
  refine ⟨457, g2, ?_⟩
  rw [l2]
  refine ⟨vq20, ?_⟩
  rw [cq20, gi_zmr_r, hr 20 (by decide)]
  refine ⟨fun hx => ?_, fun hx => ?_⟩
  · rw [nle, l20] at hx
    have e : pLos c n r o q = .inl (tS c n q) := by unfold pLos; rw [if_pos hx]
    refine m_mustE h21 (m_goesW mbad_21 (m_takesW mbad_21 ⟨fun x => ?_, fun _ => ?_⟩))
    · rw [gi_zmr_f, mbad_21] at x
      exact absurd x (by decide)
    · exact m_159w (hf.tr mbad_o) mbad_21 (by rw [mbad_14]; exact t.2.1) e hR
  · rw [nle, l20] at hx
    refine m_must1 (by decide) (m_goes T (q := tE c n q) (by omega) h21 h13 t.2.2.1 (fun f1 w1 m1 t1 => ?_))
    have h1 : f1 21 = 0 := by rw [m1 21 (by decide)]; exact h21
    have h113 : f1 13 = nI n := by rw [m1 13 (by decide)]; exact h13
    refine m_takes T hE1 h1 h113 t1 (fun hno => ⟨fun x => ?_, fun _ => ?_⟩) (fun hok f2 w2 m2 t2 => ⟨fun _ => ⟨457, g2, 457, g2, ?_⟩, fun x => ?_⟩)
    · rw [gi_zmr_f, mbad_21] at x
      exact absurd x (by decide)
    · have e : pLos c n r o q = .inl (tS c n (tE c n q)) := by
        unfold pLos
        rw [if_neg hx, if_neg (fun h => hno (pNb_t.mp h))]
      exact m_159w (hf.tr (m1.o.tr mbad_o)) mbad_21 (by rw [mbad_14]; exact t1.2.1) e hR
    · have e : pLos c n r o q = pSemi c n (rLose r (tV c n (tE c n q))) o (tE c n q) := by
        unfold pLos
        rw [if_neg hx, if_pos (pNb_t.mpr hok)]
      rw [e] at hR
      have hE2 := (tE_le (c := c) (n := n) (q := tE c n q) (by rw [hok.1]; decide)).1
      have a39 : (39 : Int32) + nI m = nI (39 + m) := nI_add 39 m
      rw [l2]
      refine ⟨vq20, fun x8 e8 => ?_⟩
      rw [cq20, gi_zmr_r, hr 20 (by decide), em, a39] at e8
      subst e8
      refine ⟨vp_in_nI (by omega) (by omega), fun σ10 s10 => ⟨457, ?_, ?_⟩⟩
      · rw [s10]; exact g2
      · rw [nI_clamp (by omega), si_zmr_r] at s10
        subst s10
        rw [l2]
        refine ⟨vq20, fun x13 e13 => ⟨vq20, fun σ15 s15 => ?_⟩⟩
        rw [cq20, gi_zmr_r, zu_ne (by omega), hr 20 (by decide)] at e13
        subst e13
        rw [cq20, si_zmr_r] at s15
        subst s15
        have hr' : zcg (rLose r (tV c n (tE c n q))) (zu (zu R (39 + m) (tV c n (tE c n q))) 20 (r 20 + 1)) := by
          unfold rLose
          rw [← hm]
          exact zcg_u (zcg_u hr)
        exact m_159 T (by omega) (hf.tr (m1.o.tr m2.o)) (by rw [m2 14 (by decide), m1 14 (by decide)]; exact h14) (by rw [m2 13 (by decide)]; exact h113) (by rw [m2 19 (by decide), m1 19 (by decide)]; exact h19) (by rw [m2 21 (by decide)]; exact h1) t2 hr' hR
    · rw [gi_zmr_f, m2 21 (by decide), h1] at x
      exact absurd rfl x
end ZMST
