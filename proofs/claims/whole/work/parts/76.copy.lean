/-! MACHINES by their cells; a machine is copied -/
theorem zcs_self (σ : zS) (b : Nat) : zcs σ b (fun k => gi σ (b + k)) (gl σ (b + 1) 6) (gl σ (b + 4) 6) = σ := by
  refine zS_ext2 (fun a i => ?_) rfl (fun a i => ?_) rfl
  · rw [gi_zcs]
    split
    · rename_i h
      show gi σ (b + (a - b)) i = gi σ a i
      rw [show b + (a - b) = a by omega]
    · rfl
  · rw [gl_zcs]
    split
    · rename_i h
      subst h
      split
      · rename_i h; subst h; rfl
      · rfl
    · split
      · rename_i h
        subst h
        split
        · rename_i h; subst h; rfl
        · rfl
      · rfl
theorem gl_zcs_o (σ : zS) (b : Nat) (f : Nat → Nat → Int32) (s0 s1 : Int64) {a : Nat} (h1 : a ≠ b + 1) (h2 : a ≠ b + 4) : gl (zcs σ b f s0 s1) a = gl σ a := by
  funext j
  rw [gl_zcs, if_neg h1, if_neg h2]
theorem gd_zcs (σ : zS) (b : Nat) (f : Nat → Nat → Int32) (s0 s1 : Int64) : gd (zcs σ b f s0 s1) = gd σ := rfl
theorem sI_zcs_k (σ : zS) (b : Nat) (f : Nat → Nat → Int32) (s0 s1 : Int64) {k : Nat} (hk : k < 16) (g : Nat → Int32) : sI (zcs σ b f s0 s1) (b + k) g = zcs σ b (fun a => if a = k then g else f a) s0 s1 := by
  refine zS_ext2 (fun a i => ?_) rfl (fun a i => rfl) rfl
  rw [gi_sI, gi_zcs, gi_zcs]
  by_cases h : a = b + k
  · subst h
    have h1 : b ≤ b + k ∧ b + k < b + 16 := by omega
    rw [if_pos rfl, if_pos h1, Nat.add_sub_cancel_left, if_pos rfl]
  · rw [if_neg h]
    by_cases h2 : b ≤ a ∧ a < b + 16
    · rw [if_pos h2, if_pos h2, if_neg (by omega)]
    · rw [if_neg h2, if_neg h2]
theorem RR_k {f f' : Nat → Nat → Int32} {s0 s1 : Int64} {r : Nat → Int32} (h : RR f s0 s1 r) (e : ∀ k, k < 16 → f' k = f k) : RR f' s0 s1 r := by
  obtain ⟨h1, ⟨h2, h2'⟩, ⟨h3, h3'⟩, h4, h5, h6, h7, h8, h9⟩ := h
  exact ⟨RS_c h1 (e 0 (by omega)) (fun _ _ => rfl), ⟨RO_c h2 (e 1 (by omega)) (fun _ _ => rfl), RO_c h2' (e 4 (by omega)) (fun _ _ => rfl)⟩, ⟨RV_c h3 (e 2 (by omega)) (e 3 (by omega)) rfl (fun _ _ => rfl), RV_c h3' (e 5 (by omega)) (e 6 (by omega)) rfl (fun _ _ => rfl)⟩, RB_c h4 (e 7 (by omega)) (e 8 (by omega)) (e 9 (by omega)) (fun _ _ => rfl) (fun _ _ => rfl), RT_c h5 (e 10 (by omega)) (e 11 (by omega)) rfl (fun _ _ => rfl), RE_c h6 (e 12 (by omega)) (e 13 (by omega)) rfl (fun _ _ => rfl), RZ_c h7 (e 14 (by omega)) (e 15 (by omega)) rfl (fun _ _ => rfl), h8, h9⟩
/-- the machine at b is what the row says -/
def KM (σ : zS) (b : Nat) (r : Nat → Int32) : Prop := RR (fun k => gi σ (b + k)) (gl σ (b + 1) 6) (gl σ (b + 4) 6) r
theorem KM_zcs {σ : zS} {b : Nat} {f : Nat → Nat → Int32} {s0 s1 : Int64} {r : Nat → Int32} (h : RR f s0 s1 r) : KM (zcs σ b f s0 s1) b r := by
  unfold KM
  rw [gl_zcs_0, gl_zcs_1]
  exact RR_k h (fun k hk => gi_zcs_k σ b f s0 s1 hk)
theorem KM_o {σ σ' : zS} {b : Nat} {r : Nat → Int32} (h : KM σ b r) (e : ∀ a, b ≤ a → a < b + 16 → gi σ' a = gi σ a ∧ gl σ' a = gl σ a) : KM σ' b r := by
  unfold KM at h ⊢
  rw [(e (b + 1) (by omega) (by omega)).2, (e (b + 4) (by omega) (by omega)).2]
  exact RR_k h (fun k hk => (e (b + k) (by omega) (by omega)).1)
/-- what is outside B is unchanged -/
def zFr (B : Nat → Prop) (σ σ' : zS) : Prop := gr σ' = gr σ ∧ gd σ' = gd σ ∧ ∀ a, ¬ B a → gi σ' a = gi σ a ∧ gl σ' a = gl σ a
theorem zFr.rf {B : Nat → Prop} {σ : zS} : zFr B σ σ := ⟨rfl, rfl, fun _ _ => ⟨rfl, rfl⟩⟩
theorem zFr.tr {B : Nat → Prop} {σ σ' σ'' : zS} (h : zFr B σ σ') (g : zFr B σ' σ'') : zFr B σ σ'' := ⟨g.1.trans h.1, g.2.1.trans h.2.1, fun a ha => ⟨(g.2.2 a ha).1.trans (h.2.2 a ha).1, (g.2.2 a ha).2.trans (h.2.2 a ha).2⟩⟩
theorem zFr.mono {B C : Nat → Prop} {σ σ' : zS} (h : zFr B σ σ') (e : ∀ a, B a → C a) : zFr C σ σ' := ⟨h.1, h.2.1, fun a ha => h.2.2 a (fun hb => ha (e a hb))⟩
theorem zFr_zcs (σ : zS) (b : Nat) (f : Nat → Nat → Int32) (s0 s1 : Int64) : zFr (fun a => b ≤ a ∧ a < b + 16) σ (zcs σ b f s0 s1) := ⟨rfl, rfl, fun a ha => ⟨gi_zcs_o σ b f s0 s1 ha, gl_zcs_o σ b f s0 s1 (by omega) (by omega)⟩⟩
section ZCPY
variable {ln : Nat → Nat} {σ : zS} {b : Nat} {f : Nat → Nat → Int32} {s0 s1 : Int64} {c : Nat} {cap : Nat}
theorem c_rcopy (hc : c < 15) (g : gr σ (b + c) 0 = some (b + (c + 1))) (l : ln (b + (c + 1)) = cap) (hcap : cap ≤ 100000) {a1 a1' n : Nat} (g1 : gr σ a1 0 = some a1') (l1 : ln a1' = cap) (o1 : ¬ (b ≤ a1 ∧ a1 < b + 16)) (o2 : ¬ (b ≤ a1' ∧ a1' < b + 16)) (hn : gi σ a1 1 = nI n) (hn2 : n ≤ cap) {Q : zS → Prop}
    (hq : ∀ f' : Nat → Nat → Int32, (∀ k, k ≠ c → k ≠ c + 1 → f' k = f k) → (∀ j, j ≠ 1 → f' c j = f c j) → f' c 1 = nI n → (∀ j, j < n → f' (c + 1) j = gi σ a1' j) → Q (zcs σ b f' s0 s1)) : wX9_copyFrom ln (zcs σ b f s0 s1) (b + c) a1 Q := by
  have hc1 : c + 1 < 16 := by omega
  have hc0 : c < 16 := by omega
  have e1 : (if nI cap < nI n then nI cap else nI n) = nI n := if_neg (nI_nlt hn2 (by omega))
  have e2 : ¬ nI n < 0 := nI_pos (by omega)
  have e3 : (nI n).toNatClampNeg = n := nI_clamp (by omega)
  have e4 : ¬ (0 : Int32) < 0 := by decide
  have e5 : (0 : Int32).toNatClampNeg = 0 := rfl
  have x1 : ∀ f', gi (zcs σ b f' s0 s1) a1 = gi σ a1 := fun f' => gi_zcs_o σ b f' s0 s1 o1
  have x2 : ∀ f', gi (zcs σ b f' s0 s1) a1' = gi σ a1' := fun f' => gi_zcs_o σ b f' s0 s1 o2
  simp only [wX9_copyFrom, gr_zcs, gr_si, g, g1, Option.some.injEq, exists_eq_left', forall_eq, l, l1, ite_self, x1, hn, e1, si_zcs_k σ b _ s0 s1 hc0, gi_zcs_k σ b _ s0 s1 hc0, zf_ap, if_true, e2, e3, e4, e5, Nat.zero_add, not_false_eq_true, true_and, hn2, and_self, x2]
  rw [sI_zcs_k _ _ _ _ _ hc1]
  refine hq _ (fun k h1 h2 => ?_) (fun j hj => ?_) ?_ (fun j hj => ?_)
  · rw [if_neg h2, zf_ne h1]
  · rw [if_neg (show ¬ c = c + 1 by omega), zf_ap, if_pos rfl, if_neg hj]
  · rw [if_neg (show ¬ c = c + 1 by omega), zf_ap, if_pos rfl, if_pos rfl]
  · rw [if_pos rfl, pk_cpy_in (Nat.zero_le _) (by omega)]
    show gi σ a1' (0 + (j - 0)) = _
    rw [Nat.zero_add, Nat.sub_zero]
theorem w_cellOf {a s k : Nat} (hcap : cap ≤ 100000) (h0 : gi σ a 0 = nI cap) (h2 : gi σ a 2 = nI s) (hs : s < cap) (hk : k ≤ cap) {v : Int32} (hv : v = nI k) {Q : Int32 → zS → Prop} (hq : Q (nI (3 * rix cap s k)) σ) : wX8_cellOf ln σ a v Q := by
  subst hv
  have e1 : nI s + nI k = nI (s + k) := nI_add s k
  unfold rix at hq
  simp only [wX8_cellOf, h0, h2, e1, forall_eq]
  refine ⟨fun h => ?_, fun h => ?_⟩
  · have h3 := (nI_leI (by omega) (by omega)).mp h
    rw [if_neg (by omega)] at hq
    have e2 : nI (s + k) - nI cap = nI (s + k - cap) := pk_sub (a := s + k) (b := cap) h3
    have e3 : (3 : Int32) * nI (s + k - cap) = nI (3 * (s + k - cap)) := (Int32.ofNat_mul 3 _).symm
    rw [e2, e3]; exact hq
  · have h3 : ¬ cap ≤ s + k := fun h4 => h ((nI_leI (by omega) (by omega)).mpr h4)
    rw [if_pos (by omega)] at hq
    have e3 : (3 : Int32) * nI (s + k) = nI (3 * (s + k)) := (Int32.ofNat_mul 3 _).symm
    rw [e3]; exact hq
theorem w_recget {a a' s n k i : Nat} (g : gr σ a 1 = some a') (l : ln a' = 3 * cap) (hcap : cap ≤ 100000) (h0 : gi σ a 0 = nI cap) (h2 : gi σ a 2 = nI s) (h3 : gi σ a 3 = nI n) (hs : s < cap) (hn : n ≤ cap) (hk : k < n) (hi : i < 3) {v w : Int32} (hv : v = nI k) (hw : w = nI i) {Q : Int32 → zS → Prop} (hq : Q (gi σ a' (3 * rix cap s k + i)) σ) : wX8_get ln σ a v w Q := by
  subst hv hw
  have hr : rix cap s k < cap := rix_lt hs (by omega)
  have e1 : ¬ nI k < 0 := nI_pos (by omega)
  have e2 : ¬ nI n ≤ nI k := nI_ge hk (by omega)
  have e3 : ¬ nI i < 0 := nI_pos (by omega)
  have e4 : nI i < 3 := nI_lt (a := i) (b := 3) hi (by decide)
  simp only [wX8_get, h3, e1, e2, e3, e4, false_imp_iff, not_false_eq_true, true_implies, true_and, not_true, and_true]
  refine w_cellOf hcap h0 h2 hs (by omega) rfl ?_
  have e5 : nI (3 * rix cap s k) + nI i = nI (3 * rix cap s k + i) := nI_add _ _
  have e6 : ¬ nI (3 * cap) ≤ nI (3 * rix cap s k + i) := nI_ge (by omega) (by omega)
  have e7 : vp_in (nI (3 * rix cap s k + i)) (3 * cap) := vp_in_nI (by omega) (by omega)
  have e8 : (nI (3 * rix cap s k + i)).toNatClampNeg = 3 * rix cap s k + i := nI_clamp (by omega)
  simp only [g, Option.some.injEq, exists_eq_left', l, e5, forall_eq, e6, e7, e8, false_imp_iff, not_false_eq_true, true_implies, true_and]
  exact hq
theorem rix_0 {k : Nat} (h : k < cap) : rix cap 0 k = k := by
  unfold rix
  rw [if_pos (by omega), Nat.zero_add]
theorem c_reccopy6 (hc : c < 15) (g : gr σ (b + c) 1 = some (b + (c + 1))) (l : ln (b + (c + 1)) = 3 * cap) (hcap : cap ≤ 100000) {a a' s n : Nat} (ga : gr σ a 1 = some a') (la : ln a' = 3 * cap) (oa : ¬ (b ≤ a ∧ a < b + 16)) (oa' : ¬ (b ≤ a' ∧ a' < b + 16)) (h0 : gi σ a 0 = nI cap) (h2 : gi σ a 2 = nI s) (h3 : gi σ a 3 = nI n) (hs : s < cap) (hn : n ≤ cap) {Q : zS → Prop} :
    ∀ (d k : Nat) (f : Nat → Nat → Int32), k + d = n → f c 0 = nI cap → f c 2 = nI 0 → f c 3 = nI k → (∀ j, j < k → ∀ i, i < 3 → f (c + 1) (3 * j + i) = gi σ a' (3 * rix cap s j + i)) →
      (∀ f' : Nat → Nat → Int32, (∀ j, j ≠ c → j ≠ c + 1 → f' j = f j) → f' c 0 = nI cap → f' c 2 = nI 0 → f' c 3 = nI n → (∀ j, j < n → ∀ i, i < 3 → f' (c + 1) (3 * j + i) = gi σ a' (3 * rix cap s j + i)) → Q (zcs σ b f' s0 s1)) → wX8_copyFrom_6 ln Q (d + 1) (b + c) a (nI k) (zcs σ b f s0 s1)
  | 0, k, f, hk, q0, q2, q3, qe, hq => by
    obtain rfl : k = n := by omega
    have x1 : gi (zcs σ b f s0 s1) a = gi σ a := gi_zcs_o σ b f s0 s1 oa
    have hcn : nI k ≤ nI k := nI_le (Nat.le_refl _) (by omega)
    rw [wX8_copyFrom_6, x1, h3]
    exact ⟨fun _ => hq f (fun _ _ _ => rfl) q0 q2 q3 qe, fun h => absurd hcn h⟩
  | d + 1, k, f, hk, q0, q2, q3, qe, hq => by
    have x1 : gi (zcs σ b f s0 s1) a = gi σ a := gi_zcs_o σ b f s0 s1 oa
    have x2 : gi (zcs σ b f s0 s1) a' = gi σ a' := gi_zcs_o σ b f s0 s1 oa'
    have hcn : ¬ nI n ≤ nI k := nI_ge (by omega) (by omega)
    have y0 : gi (zcs σ b f s0 s1) a 0 = nI cap := by rw [x1]; exact h0
    have y2 : gi (zcs σ b f s0 s1) a 2 = nI s := by rw [x1]; exact h2
    have y3 : gi (zcs σ b f s0 s1) a 3 = nI n := by rw [x1]; exact h3
    have gz : gr (zcs σ b f s0 s1) a 1 = some a' := ga
    rw [wX8_copyFrom_6, y3]
    refine ⟨fun h => absurd h hcn, fun _ => ?_⟩
    refine w_recget (cap := cap) (k := k) (i := 0) gz la hcap y0 y2 y3 hs hn (by omega) (by decide) rfl rfl ?_
    refine w_recget (cap := cap) (k := k) (i := 1) gz la hcap y0 y2 y3 hs hn (by omega) (by decide) rfl rfl ?_
    refine w_recget (cap := cap) (k := k) (i := 2) gz la hcap y0 y2 y3 hs hn (by omega) (by decide) rfl rfl ?_
    rw [x2]
    refine c_recadd (n := k) (s := 0) hc g l hcap q0 q2 q3 (by omega) (by omega) ?_
    rw [if_neg (show ¬ k = cap by omega), rix_0 (by omega)]
    intro x8 e8
    subst e8
    rw [nI_1]
    refine c_reccopy6 hc g l hcap ga la oa oa' h0 h2 h3 hs hn d (k + 1) _ (by omega) ?_ ?_ ?_ (fun j hj i hi => ?_) (fun f' e1 e2 e3 e4 e5 => hq f' (fun j j1 j2 => ?_) e2 e3 e4 e5)
    · unfold cPut
      simp only [zf_ap, if_true, Nat.reduceEqDiff, if_false, if_neg (show ¬ c = c + 1 by omega)]
      exact q0
    · unfold cPut
      simp only [zf_ap, if_true, Nat.reduceEqDiff, if_false, if_neg (show ¬ c = c + 1 by omega)]
      exact q2
    · simp only [zf_ap, if_true]
    · unfold cPut
      rw [zf_ne (show c + 1 ≠ c by omega)]
      simp only [zf_ap, if_true]
      by_cases e : j = k
      · subst e
        rcases (show i = 0 ∨ i = 1 ∨ i = 2 by omega) with rfl | rfl | rfl
        · rw [if_neg (by omega), if_neg (by omega), if_pos (by omega)]
        · rw [if_neg (by omega), if_pos (by omega)]
        · rw [if_pos (by omega)]
      · rw [if_neg (by omega), if_neg (by omega), if_neg (by omega)]
        exact qe j (by omega) i hi
    · rw [e1 j j1 j2]
      unfold cPut
      rw [zf_ne j1, zf_ne j2, zf_ne j2, zf_ne j2]
theorem c_reccopy (hc : c < 15) (g : gr σ (b + c) 1 = some (b + (c + 1))) (l : ln (b + (c + 1)) = 3 * cap) (hcap : cap ≤ 100000) {a a' s n : Nat} (ga : gr σ a 1 = some a') (la : ln a' = 3 * cap) (oa : ¬ (b ≤ a ∧ a < b + 16)) (oa' : ¬ (b ≤ a' ∧ a' < b + 16)) (h0 : gi σ a 0 = nI cap) (h2 : gi σ a 2 = nI s) (h3 : gi σ a 3 = nI n) (hs : s < cap) (hn : n ≤ cap) (q0 : f c 0 = nI cap) {Q : zS → Prop}
    (hq : ∀ f' : Nat → Nat → Int32, (∀ j, j ≠ c → j ≠ c + 1 → f' j = f j) → f' c 0 = nI cap → f' c 2 = nI 0 → f' c 3 = nI n → (∀ j, j < n → ∀ i, i < 3 → f' (c + 1) (3 * j + i) = gi σ a' (3 * rix cap s j + i)) → Q (zcs σ b f' s0 s1)) : wX8_copyFrom ln (zcs σ b f s0 s1) (b + c) a Q := by
  have hc0 : c < 16 := by omega
  simp only [wX8_copyFrom, wX8_clear, si_zcs_k σ b _ s0 s1 hc0, forall_eq]
  refine ⟨n + 1, c_reccopy6 hc g l hcap ga la oa oa' h0 h2 h3 hs hn n 0 _ (by omega) ?_ ?_ ?_ (fun j hj => absurd hj (Nat.not_lt_zero j)) (fun f' e1 => hq f' (fun j j1 j2 => ?_))⟩
  · simp only [zf_ap, if_true, Nat.reduceEqDiff, if_false]; exact q0
  · simp only [zf_ap, if_true, Nat.reduceEqDiff, if_false]; rfl
  · simp only [zf_ap, if_true]; rfl
  · rw [e1 j j1 j2, zf_ne j1, zf_ne j1]
end ZCPY
theorem zMs_sr {σ : zS} {ln : Nat → Nat} {b : Nat} (h : zMs (gr σ) ln b) {b1 : Nat} (hb : b1 = b ∨ b1 + 16 ≤ b ∨ b + 16 ≤ b1) (v : Option Nat) : zMs (gr (sr σ b1 0 v)) ln b := by
  have e : ∀ a j, ¬ (a = b1 ∧ j = 0) → gr (sr σ b1 0 v) a j = gr σ a j := fun a j h => by
    rw [gr_sr]
    split
    · rw [if_neg (fun e => h ⟨by assumption, e⟩)]
    · rfl
  obtain ⟨⟨m1, m2, m3, m4, m5, m6⟩, ⟨a1, a2, a3, a4, a5, a6, a7, a8, a9⟩, l⟩ := h
  exact ⟨⟨by rw [e _ _ (by omega)]; exact m1, by rw [e _ _ (by omega)]; exact m2, by rw [e _ _ (by omega)]; exact m3, by rw [e _ _ (by omega)]; exact m4, by rw [e _ _ (by omega)]; exact m5, by rw [e _ _ (by omega)]; exact m6⟩, ⟨by rw [e _ _ (by omega)]; exact a1, by rw [e _ _ (by omega)]; exact a2, by rw [e _ _ (by omega)]; exact a3, by rw [e _ _ (by omega)]; exact a4, by rw [e _ _ (by omega)]; exact a5, by rw [e _ _ (by omega)]; exact a6, by rw [e _ _ (by omega)]; exact a7, by rw [e _ _ (by omega)]; exact a8, by rw [e _ _ (by omega)]; exact a9⟩, l⟩
/-- an office is copied -/
theorem C_ocopy0 {ln : Nat → Nat} {τ : zS} {b b1 : Nat} {f : Nat → Nat → Int32} {t0 t1 : Int64} (S : zMs (gr τ) ln b) (S1 : zMs (gr τ) ln b1) (hb : b + 16 ≤ b1 ∨ b1 + 16 ≤ b) {n : Nat} (hn : gi τ (b1 + 2) 1 = nI n) (hn2 : n ≤ 1000) {Q : zS → Prop}
    (hq : ∀ f' : Nat → Nat → Int32, (∀ k, k ≠ 1 → k ≠ 2 → k ≠ 3 → f' k = f k) → (∀ j, j < 6 → f' 1 j = gi τ (b1 + 1) j) → f' 2 1 = nI n → (∀ j, j < n → f' 3 j = gi τ (b1 + 3) j) → Q (zcs τ b f' (gl τ (b1 + 1) 6) t1)) : wX4_copyFrom ln (zcs τ b f t0 t1) (b + 1) (b1 + 1) Q := by
  obtain ⟨-, ⟨a1, a2, a3, a4, a5, a6, a7, a8, a9⟩, ⟨l1, l2, l3, l4, l5, l6⟩⟩ := S
  obtain ⟨-, ⟨d1, d2, d3, d4, d5, d6, d7, d8, d9⟩, ⟨k1, k2, k3, k4, k5, k6⟩⟩ := S1
  have x1 : ∀ f' u0 u1, gi (zcs τ b f' u0 u1) (b1 + 1) = gi τ (b1 + 1) := fun f' u0 u1 => gi_zcs_o τ b f' u0 u1 (by omega)
  have x2 : ∀ f' u0 u1, gl (zcs τ b f' u0 u1) (b1 + 1) = gl τ (b1 + 1) := fun f' u0 u1 => gl_zcs_o τ b f' u0 u1 (by omega) (by omega)
  simp only [wX4_copyFrom, x1, x2, forall_eq, si_zcs_k τ b _ _ _ (show 1 < 16 by decide), sl_zcs_0, gr_zcs, a1, d1, Option.some.injEq, exists_eq_left']
  refine c_rcopy (c := 2) (cap := 1000) (by decide) a3 l1 (by decide) d3 k1 (by omega) (by omega) hn hn2 (fun f' e1 e2 e3 e4 => hq f' (fun k h1 h2 h3 => ?_) (fun j hj => ?_) e3 e4)
  · rw [e1 k (by omega) (by omega), zf_ne h1, zf_ne h1, zf_ne h1, zf_ne h1, zf_ne h1, zf_ne h1]
  · rw [e1 1 (by decide) (by decide)]
    rcases (show j = 0 ∨ j = 1 ∨ j = 2 ∨ j = 3 ∨ j = 4 ∨ j = 5 by omega) with rfl | rfl | rfl | rfl | rfl | rfl <;> simp only [zf_ap, if_true, Nat.reduceEqDiff, if_false]
theorem C_ocopy1 {ln : Nat → Nat} {τ : zS} {b b1 : Nat} {f : Nat → Nat → Int32} {t0 t1 : Int64} (S : zMs (gr τ) ln b) (S1 : zMs (gr τ) ln b1) (hb : b + 16 ≤ b1 ∨ b1 + 16 ≤ b) {n : Nat} (hn : gi τ (b1 + 5) 1 = nI n) (hn2 : n ≤ 1000) {Q : zS → Prop}
    (hq : ∀ f' : Nat → Nat → Int32, (∀ k, k ≠ 4 → k ≠ 5 → k ≠ 6 → f' k = f k) → (∀ j, j < 6 → f' 4 j = gi τ (b1 + 4) j) → f' 5 1 = nI n → (∀ j, j < n → f' 6 j = gi τ (b1 + 6) j) → Q (zcs τ b f' t0 (gl τ (b1 + 4) 6))) : wX4_copyFrom ln (zcs τ b f t0 t1) (b + 4) (b1 + 4) Q := by
  obtain ⟨-, ⟨a1, a2, a3, a4, a5, a6, a7, a8, a9⟩, ⟨l1, l2, l3, l4, l5, l6⟩⟩ := S
  obtain ⟨-, ⟨d1, d2, d3, d4, d5, d6, d7, d8, d9⟩, ⟨k1, k2, k3, k4, k5, k6⟩⟩ := S1
  have x1 : ∀ f' u0 u1, gi (zcs τ b f' u0 u1) (b1 + 4) = gi τ (b1 + 4) := fun f' u0 u1 => gi_zcs_o τ b f' u0 u1 (by omega)
  have x2 : ∀ f' u0 u1, gl (zcs τ b f' u0 u1) (b1 + 4) = gl τ (b1 + 4) := fun f' u0 u1 => gl_zcs_o τ b f' u0 u1 (by omega) (by omega)
  simp only [wX4_copyFrom, x1, x2, forall_eq, si_zcs_k τ b _ _ _ (show 4 < 16 by decide), sl_zcs_1, gr_zcs, a2, d2, Option.some.injEq, exists_eq_left']
  refine c_rcopy (c := 5) (cap := 1000) (by decide) a4 l2 (by decide) d4 k2 (by omega) (by omega) hn hn2 (fun f' e1 e2 e3 e4 => hq f' (fun k h1 h2 h3 => ?_) (fun j hj => ?_) e3 e4)
  · rw [e1 k (by omega) (by omega), zf_ne h1, zf_ne h1, zf_ne h1, zf_ne h1, zf_ne h1, zf_ne h1]
  · rw [e1 4 (by decide) (by decide)]
    rcases (show j = 0 ∨ j = 1 ∨ j = 2 ∨ j = 3 ∨ j = 4 ∨ j = 5 by omega) with rfl | rfl | rfl | rfl | rfl | rfl <;> simp only [zf_ap, if_true, Nat.reduceEqDiff, if_false]
theorem C_vcopy {ln : Nat → Nat} {τ : zS} {b b1 : Nat} {f : Nat → Nat → Int32} {t0 t1 : Int64} (S : zMs (gr τ) ln b) (S1 : zMs (gr τ) ln b1) (hb : b + 16 ≤ b1 ∨ b1 + 16 ≤ b) {n : Nat} (hn : gi τ (b1 + 8) 1 = nI n) (hn2 : n ≤ 40) (h14 : gi τ (b1 + 7) 3 = 0 ∨ gi τ (b1 + 7) 3 = 1) {Q : zS → Prop}
    (hq : ∀ f' : Nat → Nat → Int32, (∀ k, k ≠ 7 → k ≠ 8 → k ≠ 9 → f' k = f k) → (∀ j, 1 ≤ j → j < 4 → f' 7 j = gi τ (b1 + 7) j) → f' 8 1 = nI n → (∀ j, j < n → f' 9 j = gi τ (b1 + 9) j) → Q (zcs τ b f' t0 t1)) : wX7_copyFrom ln (zcs τ b f t0 t1) (b + 7) (b1 + 7) Q := by
  obtain ⟨-, ⟨a1, a2, a3, a4, a5, a6, a7, a8, a9⟩, ⟨l1, l2, l3, l4, l5, l6⟩⟩ := S
  obtain ⟨-, ⟨d1, d2, d3, d4, d5, d6, d7, d8, d9⟩, ⟨k1, k2, k3, k4, k5, k6⟩⟩ := S1
  have x1 : ∀ f' u0 u1, gi (zcs τ b f' u0 u1) (b1 + 7) = gi τ (b1 + 7) := fun f' u0 u1 => gi_zcs_o τ b f' u0 u1 (by omega)
  simp only [wX7_copyFrom, gr_zcs, a5, d5, Option.some.injEq, exists_eq_left']
  refine c_rcopy (c := 8) (cap := 40) (by decide) a6 l3 (by decide) d6 k3 (by omega) (by omega) hn hn2 (fun f' e1 e2 e3 e4 => ?_)
  simp only [x1, forall_eq, si_zcs_k τ b _ _ _ (show 7 < 16 by decide)]
  refine ⟨h14, hq _ (fun k h1 h2 h3 => ?_) (fun j h1 h2 => ?_) ?_ (fun j hj => ?_)⟩
  · rw [zf_ne h1, zf_ne h1, zf_ne h1]; exact e1 k h2 h3
  · rcases (show j = 1 ∨ j = 2 ∨ j = 3 by omega) with rfl | rfl | rfl <;> simp only [zf_ap, if_true, Nat.reduceEqDiff, if_false]
  · rw [zf_ne (by decide), zf_ne (by decide), zf_ne (by decide)]; exact e3
  · rw [zf_ne (by decide), zf_ne (by decide), zf_ne (by decide)]; exact e4 j hj
/-- what a copy leaves alone -/
def zFc (σ σ' : zS) (b p : Nat) : Prop := gr σ' = gr (sr σ b 0 (some p)) ∧ gd σ' = gd σ ∧ ∀ a, ¬ (b ≤ a ∧ a < b + 16) → gi σ' a = gi σ a ∧ gl σ' a = gl σ a
theorem C_copy {ln : Nat → Nat} {σ : zS} {b b1 p : Nat} {r : Nat → Int32} (S : zMs (gr σ) ln b) (S1 : zMs (gr σ) ln b1) (hb : b + 16 ≤ b1 ∨ b1 + 16 ≤ b) (gp1 : gr σ b1 0 = some p) (K : KM σ b1 r) (hW : zW r) (h14 : r 14 = 0 ∨ r 14 = 1) (hc10 : gi σ (b + 10) 0 = nI 640) (hc12 : gi σ (b + 12) 0 = nI 40) {Q : zS → Prop} (hq : ∀ σ', KM σ' b r → zFc σ σ' b p → Q σ') : wX3_copyFrom ln σ b b1 Q := by
  have S' := zMs_sr S (b1 := b) (Or.inl rfl) (some p)
  have S1' := zMs_sr S1 (b1 := b) (Or.inr (by omega)) (some p)
  obtain ⟨nb, ne, nz, nm0, nm1, nt⟩ := hW.bn
  obtain ⟨h1, ⟨h2, h2'⟩, ⟨h3, h3'⟩, h4, h5, h6, h7, h8, h9⟩ := K
  have hid : sr σ b 0 (some p) = zcs (sr σ b 0 (some p)) b (fun k => gi σ (b + k)) (gl σ (b + 1) 6) (gl σ (b + 4) 6) := (zcs_self (sr σ b 0 (some p)) b).symm
  have eg : ∀ a, gi (sr σ b 0 (some p)) a = gi σ a := fun _ => rfl
  have el : ∀ a, gl (sr σ b 0 (some p)) a = gl σ a := fun _ => rfl
  have ed : gd (sr σ b 0 (some p)) = gd σ := rfl
  have egr : gr (sr σ b 0 (some p)) = gr (sr σ b 0 (some p)) := rfl
  refine ⟨p, gp1, fun σ2 e2 => ?_⟩
  rw [hid] at e2
  subst e2
  have hfin : ∀ f' t0 t1, RR f' t0 t1 r → Q (zcs (sr σ b 0 (some p)) b f' t0 t1) := fun f' t0 t1 h => hq _ (KM_zcs h) ⟨rfl, rfl, fun a ha => ⟨gi_zcs_o _ b f' t0 t1 ha, gl_zcs_o _ b f' t0 t1 (by omega) (by omega)⟩⟩
  have F10 : (fun k => gi σ (b + k)) 10 0 = nI 640 := hc10
  have F12 : (fun k => gi σ (b + k)) 12 0 = nI 40 := hc12
  generalize (fun k => gi σ (b + k)) = F at F10 F12 ⊢
  generalize sr σ b 0 (some p) = τ at S' S1' eg el hfin ⊢
  have S2 := S'
  have S12 := S1'
  obtain ⟨⟨m1, m2, m3, m4, m5, m6⟩, ⟨a1, a2, a3, a4, a5, a6, a7, a8, a9⟩, ⟨l1, l2, l3, l4, l5, l6⟩⟩ := S'
  obtain ⟨⟨n1, n2, n3, n4, n5, n6⟩, ⟨d1, d2, d3, d4, d5, d6, d7, d8, d9⟩, ⟨k1, k2, k3, k4, k5, k6⟩⟩ := S1'
  have x1 : ∀ f' u0 u1, gi (zcs τ b f' u0 u1) b1 = gi σ b1 := fun f' u0 u1 => (gi_zcs_o τ b f' u0 u1 (by omega)).trans (eg b1)
  have w7 : zB1 (gi σ b1 4) := by
    have e : gi σ b1 4 = r 7 := h1.2.2.2.1
    unfold zB1
    rw [e]; exact hW.w
  simp only [x1, forall_eq, si_zcs_b]
  refine ⟨w7, ?_⟩
  simp only [x1, forall_eq, si_zcs_b, gr_zcs, m1, n1, Option.some.injEq, exists_eq_left']
  have em : ∀ (x : Int32) (M : Nat), 0 ≤ x.toInt → x.toNatClampNeg ≤ M → M < 2 ^ 31 → x = nI x.toNatClampNeg := fun x M h0 h1 h2 => by
    have := ncl h0
    rw [neq, nI_toInt (by omega)]; omega
  have v0 : gi τ (b1 + 2) 1 = nI (r 29).toNatClampNeg := by rw [eg]; exact h3.1.trans (em _ 1000 hW.m0.1 nm0 (by decide))
  have v1 : gi τ (b1 + 5) 1 = nI (r 30).toNatClampNeg := by rw [eg]; exact h3'.1.trans (em _ 1000 hW.m1.1 nm1 (by decide))
  have vb : gi τ (b1 + 8) 1 = nI (r 11).toNatClampNeg := by rw [eg]; exact h4.2.2.2.1.trans (em _ 40 hW.b.1 nb (by decide))
  have vz : gi τ (b1 + 14) 1 = nI (r 20).toNatClampNeg := by rw [eg]; exact h7.1.trans (em _ 20 hW.l.1 nz (by decide))
  obtain ⟨t1, t2, st, t3, t4, t5⟩ := h5
  obtain ⟨q1, q2, se, q3, q4, q5⟩ := h6
  have vt : gi τ (b1 + 10) 3 = nI (r 19).toNatClampNeg := by rw [eg]; exact t2.trans (em _ 600 hW.u.1 nt (by decide))
  have ve : gi τ (b1 + 12) 3 = nI (r 18).toNatClampNeg := by rw [eg]; exact q2.trans (em _ 40 hW.e.1 ne (by decide))
  refine C_ocopy0 S2 S12 hb v0 nm0 (fun f1 e1 e2 e3 e4 => ?_)
  simp only [gr_zcs, m2, n2, Option.some.injEq, exists_eq_left']
  refine C_ocopy1 S2 S12 hb v1 nm1 (fun f2 e5 e6 e7 e8 => ?_)
  simp only [gr_zcs, m3, n3, Option.some.injEq, exists_eq_left']
  refine C_vcopy S2 S12 hb vb nb (by rw [eg]; have e : gi σ (b1 + 7) 3 = r 14 := h4.2.2.1; rw [e]; exact h14) (fun f3 e9 e10 e11 e12 => ?_)
  simp only [gr_zcs, m4, n4, Option.some.injEq, exists_eq_left']
  have y10 : f3 10 0 = nI 640 := by
    rw [e9 10 (by decide) (by decide) (by decide), e5 10 (by decide) (by decide) (by decide), e1 10 (by decide) (by decide) (by decide)]
    simp only [zf_ap, Nat.reduceEqDiff, if_false]
    exact F10
  have y12 : f3 12 0 = nI 40 := by
    rw [e9 12 (by decide) (by decide) (by decide), e5 12 (by decide) (by decide) (by decide), e1 12 (by decide) (by decide) (by decide)]
    simp only [zf_ap, Nat.reduceEqDiff, if_false]
    exact F12
  refine c_reccopy (c := 10) (cap := 640) (by decide) a7 l4 (by decide) d7 k4 (by omega) (by omega) (by rw [eg]; exact t1) (by rw [eg]; exact t4) vt t3 (by omega) y10 (fun f4 g1 g2 g3 g4 g5 => ?_)
  simp only [gr_zcs, m5, n5, Option.some.injEq, exists_eq_left']
  refine c_reccopy (c := 12) (cap := 40) (by decide) a8 l5 (by decide) d8 k5 (by omega) (by omega) (by rw [eg]; exact q1) (by rw [eg]; exact q4) ve q3 ne (by rw [g1 12 (by decide) (by decide)]; exact y12) (fun f5 g6 g7 g8 g9 g10 => ?_)
  simp only [gr_zcs, m6, n6, Option.some.injEq, exists_eq_left']
  refine c_rcopy (c := 14) (cap := 20) (by decide) a9 l6 (by decide) d9 k6 (by omega) (by omega) vz nz (fun f6 i1 i2 i3 i4 => hfin _ _ _ ?_)
  have c5 : ∀ k, k ≠ 14 → k ≠ 15 → k ≠ 12 → k ≠ 13 → k ≠ 10 → k ≠ 11 → f6 k = f3 k := fun k x1 x2 x3 x4 x5 x6 => by rw [i1 k x1 x2, g6 k x3 x4, g1 k x5 x6]
  have c0 : ∀ j, 1 ≤ j → j ≤ 10 → f6 0 j = gi σ b1 j := fun j j1 j2 => by
    rw [c5 0 (by decide) (by decide) (by decide) (by decide) (by decide) (by decide), e9 0 (by decide) (by decide) (by decide), e5 0 (by decide) (by decide) (by decide), e1 0 (by decide) (by decide) (by decide)]
    rcases (show j = 1 ∨ j = 2 ∨ j = 3 ∨ j = 4 ∨ j = 5 ∨ j = 6 ∨ j = 7 ∨ j = 8 ∨ j = 9 ∨ j = 10 by omega) with rfl | rfl | rfl | rfl | rfl | rfl | rfl | rfl | rfl | rfl <;> simp only [zf_ap, if_true, Nat.reduceEqDiff, if_false]
  have c1 : ∀ k, k = 1 ∨ k = 2 ∨ k = 3 → f6 k = f1 k := fun k hk => by rw [c5 k (by omega) (by omega) (by omega) (by omega) (by omega) (by omega), e9 k (by omega) (by omega) (by omega), e5 k (by omega) (by omega) (by omega)]
  have c4 : ∀ k, k = 4 ∨ k = 5 ∨ k = 6 → f6 k = f2 k := fun k hk => by rw [c5 k (by omega) (by omega) (by omega) (by omega) (by omega) (by omega), e9 k (by omega) (by omega) (by omega)]
  have c7 : ∀ k, k = 7 ∨ k = 8 ∨ k = 9 → f6 k = f3 k := fun k hk => c5 k (by omega) (by omega) (by omega) (by omega) (by omega) (by omega)
  have c10 : ∀ k, k = 10 ∨ k = 11 → f6 k = f4 k := fun k hk => by rw [i1 k (by omega) (by omega), g6 k (by omega) (by omega)]
  have c12 : ∀ k, k = 12 ∨ k = 13 → f6 k = f5 k := fun k hk => i1 k (by omega) (by omega)
  have H0 : ∀ j, gi σ b1 j = gi σ (b1 + 0) j := fun _ => rfl
  refine ⟨?_, ⟨?_, ?_⟩, ⟨?_, ?_⟩, ?_, ?_, ?_, ?_, ?_, ?_⟩
  · obtain ⟨p1, p2, p3, p4, p5, p6, p7, p8, p9, p10⟩ := h1
    exact ⟨(c0 1 (by decide) (by decide)).trans p1, (c0 2 (by decide) (by decide)).trans p2, (c0 3 (by decide) (by decide)).trans p3, (c0 4 (by decide) (by decide)).trans p4, fun hx => (c0 5 (by decide) (by decide)).trans (p5 hx), (c0 6 (by decide) (by decide)).trans p6, (c0 7 (by decide) (by decide)).trans p7, (c0 8 (by decide) (by decide)).trans p8, (c0 9 (by decide) (by decide)).trans p9, (c0 10 (by decide) (by decide)).trans p10⟩
  · obtain ⟨p1, p2, p3, p4, p5, p6⟩ := h2
    have e : ∀ j, j < 6 → f6 (1 + 3 * 0) j = gi σ (b1 + 1) j := fun j hj => by
      show f6 1 j = _
      rw [c1 1 (by omega), e2 j hj, eg]
    exact ⟨(e 0 (by decide)).trans p1, (e 1 (by decide)).trans p2, (e 2 (by decide)).trans p3, (e 3 (by decide)).trans p4, (e 4 (by decide)).trans p5, (e 5 (by decide)).trans p6⟩
  · obtain ⟨p1, p2, p3, p4, p5, p6⟩ := h2'
    have e : ∀ j, j < 6 → f6 (1 + 3 * 1) j = gi σ (b1 + 4) j := fun j hj => by
      show f6 4 j = _
      rw [c4 4 (by omega), e6 j hj, eg]
    exact ⟨(e 0 (by decide)).trans p1, (e 1 (by decide)).trans p2, (e 2 (by decide)).trans p3, (e 3 (by decide)).trans p4, (e 4 (by decide)).trans p5, (e 5 (by decide)).trans p6⟩
  · refine ⟨?_, fun k hk => ?_⟩
    · show f6 2 1 = _
      rw [c1 2 (by omega), e3]
      exact (em _ 1000 hW.m0.1 nm0 (by decide)).symm
    · show f6 3 k = _
      rw [c1 3 (by omega), e4 k hk, eg]
      exact h3.2 k hk
  · refine ⟨?_, fun k hk => ?_⟩
    · show f6 5 1 = _
      rw [c4 5 (by omega), e7]
      exact (em _ 1000 hW.m1.1 nm1 (by decide)).symm
    · show f6 6 k = _
      rw [c4 6 (by omega), e8 k hk, eg]
      exact h3'.2 k hk
  · obtain ⟨p1, p2, p3, p4, p5⟩ := h4
    have e : ∀ j, 1 ≤ j → j < 4 → f6 7 j = gi σ (b1 + 7) j := fun j x1 x2 => by rw [c7 7 (by omega), e10 j x1 x2, eg]
    refine ⟨(e 1 (by decide) (by decide)).trans p1, (e 2 (by decide) (by decide)).trans p2, (e 3 (by decide) (by decide)).trans p3, ?_, fun k hk => ?_⟩
    · rw [c7 8 (by omega), e11]
      exact (em _ 40 hW.b.1 nb (by decide)).symm
    · rw [c7 9 (by omega), e12 k hk, eg]
      exact p5 k hk
  · refine ⟨?_, ?_, 0, by decide, ?_, fun k hk i hi hw => ?_⟩
    · rw [c10 10 (by omega)]; exact g2
    · rw [c10 10 (by omega), g4]; exact (em _ 600 hW.u.1 nt (by decide)).symm
    · rw [c10 10 (by omega)]; exact g3
    · rw [rix_0 (by omega), c10 11 (by omega), g5 k hk i hi, eg]
      exact t5 k hk i hi hw
  · refine ⟨?_, ?_, 0, by decide, ?_, fun k hk i hi hw => ?_⟩
    · rw [c12 12 (by omega)]; exact g7
    · rw [c12 12 (by omega), g9]; exact (em _ 40 hW.e.1 ne (by decide)).symm
    · rw [c12 12 (by omega)]; exact g8
    · rw [rix_0 (by omega), c12 13 (by omega), g10 k hk i hi, eg]
      exact q5 k hk i hi hw
  · refine ⟨?_, fun k hk => ?_⟩
    · rw [i3]; exact (em _ 20 hW.l.1 nz (by decide)).symm
    · rw [i4 k hk, eg]
      exact h7.2 k hk
  · rw [el]; exact h8
  · rw [el]; exact h9
