/-! from 60.class -/
/-! THE CLASS'S MACHINE: its store over a base store; rows and records -/
def zf (f : Nat → Nat → Int32) (k j : Nat) (v : Int32) : Nat → Nat → Int32 := fun a => if a = k then zu (f k) j v else f a
theorem zf_ap (f : Nat → Nat → Int32) (k j : Nat) (v : Int32) (a i : Nat) : zf f k j v a i = if a = k then (if i = j then v else f k i) else f a i := by
  unfold zf
  split <;> rfl
theorem zf_ne {f : Nat → Nat → Int32} {k j : Nat} {v : Int32} {a : Nat} (h : a ≠ k) : zf f k j v a = f a := if_neg h
theorem zf_eq (f : Nat → Nat → Int32) (k j : Nat) (v : Int32) : zf f k j v k = zu (f k) j v := if_pos rfl
/-- sixteen cells from b on hold f; the two offices' sums -/
def zcs (σ : zS) (b : Nat) (f : Nat → Nat → Int32) (s0 s1 : Int64) : zS := (fun a => if b ≤ a ∧ a < b + 16 then f (a - b) else σ.1 a, σ.2.1, fun a => if a = b + 1 then (fun j => if j = 6 then s0 else σ.2.2.1 a j) else if a = b + 4 then (fun j => if j = 6 then s1 else σ.2.2.1 a j) else σ.2.2.1 a, σ.2.2.2)
theorem gr_zcs (σ : zS) (b : Nat) (f : Nat → Nat → Int32) (s0 s1 : Int64) : gr (zcs σ b f s0 s1) = gr σ := rfl
theorem gi_zcs (σ : zS) (b : Nat) (f : Nat → Nat → Int32) (s0 s1 : Int64) (a : Nat) : gi (zcs σ b f s0 s1) a = if b ≤ a ∧ a < b + 16 then f (a - b) else gi σ a := by
  show (if b ≤ a ∧ a < b + 16 then f (a - b) else σ.1 a) = _
  split <;> rfl
theorem gi_zcs_b (σ : zS) (b : Nat) (f : Nat → Nat → Int32) (s0 s1 : Int64) : gi (zcs σ b f s0 s1) b = f 0 := by
  rw [gi_zcs, if_pos (by omega), Nat.sub_self]
theorem gi_zcs_k (σ : zS) (b : Nat) (f : Nat → Nat → Int32) (s0 s1 : Int64) {k : Nat} (hk : k < 16) : gi (zcs σ b f s0 s1) (b + k) = f k := by
  rw [gi_zcs, if_pos (by omega), Nat.add_sub_cancel_left]
theorem gi_zcs_o (σ : zS) (b : Nat) (f : Nat → Nat → Int32) (s0 s1 : Int64) {a : Nat} (h : ¬ (b ≤ a ∧ a < b + 16)) : gi (zcs σ b f s0 s1) a = gi σ a := by
  rw [gi_zcs, if_neg h]
theorem zS_ext2 {σ τ : zS} (h1 : ∀ a j, gi σ a j = gi τ a j) (h2 : σ.2.1 = τ.2.1) (h3 : ∀ a j, gl σ a j = gl τ a j) (h4 : σ.2.2.2 = τ.2.2.2) : σ = τ := by
  obtain ⟨s1, s2, s3, s4⟩ := σ
  obtain ⟨t1, t2, t3, t4⟩ := τ
  have e : s1 = t1 := funext fun a => funext fun j => h1 a j
  have e3 : s3 = t3 := funext fun a => funext fun j => h3 a j
  have e2 : s2 = t2 := h2
  have e4 : s4 = t4 := h4
  rw [e, e2, e3, e4]
theorem si_zcs_k (σ : zS) (b : Nat) (f : Nat → Nat → Int32) (s0 s1 : Int64) {k : Nat} (hk : k < 16) (j : Nat) (v : Int32) : si (zcs σ b f s0 s1) (b + k) j v = zcs σ b (zf f k j v) s0 s1 := by
  refine zS_ext2 (fun a i => ?_) rfl (fun a i => rfl) rfl
  rw [gi_si, gi_zcs, gi_zcs]
  by_cases h : a = b + k
  · subst h
    have h1 : b ≤ b + k ∧ b + k < b + 16 := by omega
    simp only [if_pos h1, Nat.add_sub_cancel_left, zf_ap, if_true]
  · rw [if_neg h]
    by_cases h2 : b ≤ a ∧ a < b + 16
    · rw [if_pos h2, if_pos h2, zf_ne (by omega)]
    · rw [if_neg h2, if_neg h2]
theorem si_zcs_b (σ : zS) (b : Nat) (f : Nat → Nat → Int32) (s0 s1 : Int64) (j : Nat) (v : Int32) : si (zcs σ b f s0 s1) b j v = zcs σ b (zf f 0 j v) s0 s1 := si_zcs_k σ b f s0 s1 (k := 0) (by decide) j v
theorem gl_zcs_0 (σ : zS) (b : Nat) (f : Nat → Nat → Int32) (s0 s1 : Int64) : gl (zcs σ b f s0 s1) (b + 1) 6 = s0 := by
  show (if b + 1 = b + 1 then (fun j => if j = 6 then s0 else σ.2.2.1 (b + 1) j) else _) 6 = _
  rw [if_pos rfl]
  rfl
theorem gl_zcs_1 (σ : zS) (b : Nat) (f : Nat → Nat → Int32) (s0 s1 : Int64) : gl (zcs σ b f s0 s1) (b + 4) 6 = s1 := by
  show (if b + 4 = b + 1 then _ else if b + 4 = b + 4 then (fun j => if j = 6 then s1 else σ.2.2.1 (b + 4) j) else _) 6 = _
  rw [if_neg (by omega), if_pos rfl]
  rfl
theorem gl_zcs (σ : zS) (b : Nat) (f : Nat → Nat → Int32) (s0 s1 : Int64) (a j : Nat) : gl (zcs σ b f s0 s1) a j = if a = b + 1 then (if j = 6 then s0 else gl σ a j) else if a = b + 4 then (if j = 6 then s1 else gl σ a j) else gl σ a j := by
  show (if a = b + 1 then (fun j => if j = 6 then s0 else σ.2.2.1 a j) else if a = b + 4 then (fun j => if j = 6 then s1 else σ.2.2.1 a j) else σ.2.2.1 a) j = _
  split
  · rfl
  · split <;> rfl
theorem sl_zcs_0 (σ : zS) (b : Nat) (f : Nat → Nat → Int32) (s0 s1 v : Int64) : sl (zcs σ b f s0 s1) (b + 1) 6 v = zcs σ b f v s1 := by
  refine zS_ext2 (fun a i => rfl) rfl (fun a i => ?_) rfl
  rw [gl_sl, gl_zcs, gl_zcs]
  by_cases h : a = b + 1
  · rw [if_pos h, if_pos h, if_pos h]
    split <;> rfl
  · rw [if_neg h, if_neg h, if_neg h]
theorem sl_zcs_1 (σ : zS) (b : Nat) (f : Nat → Nat → Int32) (s0 s1 v : Int64) : sl (zcs σ b f s0 s1) (b + 4) 6 v = zcs σ b f s0 v := by
  refine zS_ext2 (fun a i => rfl) rfl (fun a i => ?_) rfl
  rw [gl_sl, gl_zcs, gl_zcs]
  by_cases h : a = b + 1
  · subst h
    rw [if_neg (by omega), if_pos rfl, if_pos rfl]
  · rw [if_neg h]
    by_cases h4 : a = b + 4
    · rw [if_pos h4, if_pos h4, if_neg h, if_pos h4]
      split <;> rfl
    · rw [if_neg h4, if_neg h4, if_neg h, if_neg h4]
section ZROW
variable {ln : Nat → Nat} {σ : zS} {b : Nat} {f : Nat → Nat → Int32} {s0 s1 : Int64} {c : Nat} {cap : Nat}
theorem c_rclear (hc : c < 16) {Q : zS → Prop} (hq : Q (zcs σ b (zf f c 1 0) s0 s1)) : wX9_clear ln (zcs σ b f s0 s1) (b + c) Q := by
  simp only [wX9_clear, si_zcs_k σ b f s0 s1 hc, forall_eq]
  exact hq
def cAdd (f : Nat → Nat → Int32) (c cap : Nat) (v : Int32) : Nat → Nat → Int32 := if nI cap ≤ f c 1 then f else zf (zf f (c + 1) (f c 1).toNatClampNeg v) c 1 (f c 1 + 1)
theorem c_radd (hc : c < 15) (g : gr σ (b + c) 0 = some (b + (c + 1))) (l : ln (b + (c + 1)) = cap) (hcap : cap < 2 ^ 31) (h0 : 0 ≤ (f c 1).toInt) {v : Int32} {Q : zS → Prop} (hq : Q (zcs σ b (cAdd f c cap v) s0 s1)) : wX9_add ln (zcs σ b f s0 s1) (b + c) v Q := by
  unfold cAdd at hq
  have hc1 : c + 1 < 16 := by omega
  have hc0 : c < 16 := by omega
  simp only [wX9_add, gr_zcs, gr_si, g, Option.some.injEq, exists_eq_left', l, gi_zcs_k σ b f s0 s1 hc0, forall_eq, si_zcs_k _ b _ s0 s1 hc1, gi_zcs_k _ b _ s0 s1 hc0, si_zcs_k _ b _ s0 s1 hc0]
  refine ⟨fun h => ?_, fun h => ?_⟩
  · rw [if_pos h] at hq; exact hq
  · rw [if_neg h] at hq
    have h2 : ¬ (nI cap).toInt ≤ (f c 1).toInt := fun hc => h ((nle _ _).mpr hc)
    rw [nI_toInt hcap] at h2
    refine ⟨nin h0 (by omega), ?_⟩
    rw [zf_ne (show c ≠ c + 1 by omega)]
    exact hq
theorem c_rget (hc : c < 15) (g : gr σ (b + c) 0 = some (b + (c + 1))) (l : ln (b + (c + 1)) = cap) (hcap : cap < 2 ^ 31) {m k : Nat} (hm : f c 1 = nI m) (hm2 : m ≤ cap) {v : Int32} (hk : v = nI k) (hk2 : k < m) {Q : Int32 → zS → Prop} (hq : Q (f (c + 1) k) (zcs σ b f s0 s1)) : wX9_get ln (zcs σ b f s0 s1) (b + c) v Q := by
  subst hk
  have hc1 : c + 1 < 16 := by omega
  have hc0 : c < 16 := by omega
  have e1 : ¬ nI k < 0 := nI_pos (by omega)
  have e2 : ¬ nI m ≤ nI k := nI_ge hk2 (by omega)
  have e3 : ¬ nI cap ≤ nI k := nI_ge (by omega) (by omega)
  have e4 : vp_in (nI k) cap := vp_in_nI (by omega) (by omega)
  have e5 : (nI k).toNatClampNeg = k := nI_clamp (by omega)
  simp only [wX9_get, gr_zcs, g, Option.some.injEq, exists_eq_left', l, gi_zcs_k σ b f s0 s1 hc0, gi_zcs_k σ b f s0 s1 hc1, hm, e1, e2, e3, e4, e5, false_imp_iff, not_false_eq_true, true_implies, true_and]
  exact hq
theorem c_rget_no (hc : c < 15) {m k : Nat} (hm : f c 1 = nI m) (hm2 : m < 2 ^ 31) {v : Int32} (hk : v = nI k) (hk2 : m ≤ k) (hk3 : k < 2 ^ 31) {Q : Int32 → zS → Prop} (hq : Q (-1) (zcs σ b f s0 s1)) : wX9_get ln (zcs σ b f s0 s1) (b + c) v Q := by
  subst hk
  have hc0 : c < 16 := by omega
  have e1 : ¬ nI k < 0 := nI_pos (by omega)
  have e2 : nI m ≤ nI k := nI_le hk2 (by omega)
  simp only [wX9_get, gi_zcs_k σ b f s0 s1 hc0, hm, e1, e2, false_imp_iff, not_false_eq_true, true_implies, true_and, not_true, and_true]
  exact hq
/-- the place of a record in its ring -/
def rix (cap s k : Nat) : Nat := if s + k < cap then s + k else s + k - cap
theorem rix_lt {cap s k : Nat} (hs : s < cap) (hk : k < cap) : rix cap s k < cap := by unfold rix; split <;> omega
theorem rix_inj {cap s k j : Nat} (hs : s < cap) (hk : k < cap) (hj : j < cap) (h : rix cap s k = rix cap s j) : k = j := by unfold rix at h; split at h <;> split at h <;> omega
theorem c_cellOf (hc : c < 15) {s k : Nat} (hcap : cap ≤ 100000) (h0 : f c 0 = nI cap) (h2 : f c 2 = nI s) (hs : s < cap) (hk : k ≤ cap) {v : Int32} (hv : v = nI k) {Q : Int32 → zS → Prop} (hq : Q (nI (3 * rix cap s k)) (zcs σ b f s0 s1)) : wX8_cellOf ln (zcs σ b f s0 s1) (b + c) v Q := by
  subst hv
  have hc0 : c < 16 := by omega
  have e1 : nI s + nI k = nI (s + k) := nI_add s k
  unfold rix at hq
  simp only [wX8_cellOf, gi_zcs_k σ b f s0 s1 hc0, h0, h2, e1, forall_eq]
  refine ⟨fun h => ?_, fun h => ?_⟩
  · have h3 := (nI_leI (by omega) (by omega)).mp h
    rw [if_neg (by omega)] at hq
    have e2 : nI (s + k) - nI cap = nI (s + k - cap) := pk_sub (a := s + k) (b := cap) h3
    have e3 : (3 : Int32) * nI (s + k - cap) = nI (3 * (s + k - cap)) := (Int32.ofNat_mul 3 _).symm
    rw [e2, e3]; exact hq
  · have h3 : ¬ cap ≤ s + k := fun h4 => h ((nI_leI (by omega) (by omega)).mpr h4)
    rw [if_pos (by omega)] at hq
    have e3 : (3 : Int32) * nI (s + k) = nI (3 * (s + k)) := (Int32.ofNat_mul 3 _).symm
    rw [e3]; exact hq
theorem c_recget (hc : c < 15) (g : gr σ (b + c) 1 = some (b + (c + 1))) (l : ln (b + (c + 1)) = 3 * cap) {s n k i : Nat} (hcap : cap ≤ 100000) (h0 : f c 0 = nI cap) (h2 : f c 2 = nI s) (h3 : f c 3 = nI n) (hs : s < cap) (hn : n ≤ cap) (hk : k < n) (hi : i < 3) {v w : Int32} (hv : v = nI k) (hw : w = nI i) {Q : Int32 → zS → Prop} (hq : Q (f (c + 1) (3 * rix cap s k + i)) (zcs σ b f s0 s1)) : wX8_get ln (zcs σ b f s0 s1) (b + c) v w Q := by
  subst hv hw
  have hc1 : c + 1 < 16 := by omega
  have hc0 : c < 16 := by omega
  have hr : rix cap s k < cap := rix_lt hs (by omega)
  have e1 : ¬ nI k < 0 := nI_pos (by omega)
  have e2 : ¬ nI n ≤ nI k := nI_ge hk (by omega)
  have e3 : ¬ nI i < 0 := nI_pos (by omega)
  have e4 : nI i < 3 := nI_lt (a := i) (b := 3) hi (by decide)
  simp only [wX8_get, gi_zcs_k σ b f s0 s1 hc0, h3, e1, e2, e3, e4, false_imp_iff, not_false_eq_true, true_implies, true_and, not_true, and_true]
  refine c_cellOf hc hcap h0 h2 hs (by omega) rfl ?_
  have e5 : nI (3 * rix cap s k) + nI i = nI (3 * rix cap s k + i) := nI_add _ _
  have e6 : ¬ nI (3 * cap) ≤ nI (3 * rix cap s k + i) := nI_ge (by omega) (by omega)
  have e7 : vp_in (nI (3 * rix cap s k + i)) (3 * cap) := vp_in_nI (by omega) (by omega)
  have e8 : (nI (3 * rix cap s k + i)).toNatClampNeg = 3 * rix cap s k + i := nI_clamp (by omega)
  simp only [gr_zcs, g, Option.some.injEq, exists_eq_left', l, e5, forall_eq, gi_zcs_k σ b f s0 s1 hc1, e6, e7, e8, false_imp_iff, not_false_eq_true, true_implies, true_and]
  exact hq
def cPut (f : Nat → Nat → Int32) (c x : Nat) (a1 a2 a3 : Int32) : Nat → Nat → Int32 := zf (zf (zf f (c + 1) x a1) (c + 1) (x + 1) a2) (c + 1) (x + 2) a3
theorem c_recadd15 (hc : c < 15) (g : gr σ (b + c) 1 = some (b + (c + 1))) (l : ln (b + (c + 1)) = 3 * cap) {s n : Nat} (hcap : cap ≤ 100000) (h0 : f c 0 = nI cap) (h2 : f c 2 = nI s) (h3 : f c 3 = nI n) (hs : s < cap) (hn : n < cap) {a1 a2 a3 : Int32} {Q : zS → Prop} (hq : Q (zcs σ b (zf (cPut f c (3 * rix cap s n) a1 a2 a3) c 3 (nI (n + 1))) s0 s1)) : wX8_add_15 ln Q (b + c) a1 a2 a3 (zcs σ b f s0 s1) := by
  have hc1 : c + 1 < 16 := by omega
  have hc0 : c < 16 := by omega
  have hr : rix cap s n < cap := rix_lt hs (by omega)
  unfold cPut at hq
  simp only [wX8_add_15, gi_zcs_k σ b f s0 s1 hc0, h3, forall_eq]
  refine c_cellOf hc hcap h0 h2 hs (by omega) rfl ?_
  have e1 : nI (3 * rix cap s n) + 1 = nI (3 * rix cap s n + 1) := nI_1 _
  have e2 : nI (3 * rix cap s n) + 2 = nI (3 * rix cap s n + 2) := nI_add _ 2
  have e6 : ¬ nI (3 * cap) ≤ nI (3 * rix cap s n + 2) := nI_ge (by omega) (by omega)
  have v0 : vp_in (nI (3 * rix cap s n)) (3 * cap) := vp_in_nI (by omega) (by omega)
  have v1 : vp_in (nI (3 * rix cap s n + 1)) (3 * cap) := vp_in_nI (by omega) (by omega)
  have v2 : vp_in (nI (3 * rix cap s n + 2)) (3 * cap) := vp_in_nI (by omega) (by omega)
  have i0 : (nI (3 * rix cap s n)).toNatClampNeg = 3 * rix cap s n := nI_clamp (by omega)
  have i1 : (nI (3 * rix cap s n + 1)).toNatClampNeg = 3 * rix cap s n + 1 := nI_clamp (by omega)
  have i2 : (nI (3 * rix cap s n + 2)).toNatClampNeg = 3 * rix cap s n + 2 := nI_clamp (by omega)
  have hne : c ≠ c + 1 := by omega
  simp only [gr_zcs, gr_si, g, Option.some.injEq, exists_eq_left', l, e1, e2, e6, v0, v1, v2, i0, i1, i2, forall_eq, false_imp_iff, not_false_eq_true, true_implies, true_and, si_zcs_k _ b _ s0 s1 hc1, gi_zcs_k _ b _ s0 s1 hc0, si_zcs_k _ b _ s0 s1 hc0, zf_ne hne, h3, nI_1]
  exact hq
def cDrop (f : Nat → Nat → Int32) (c cap s n : Nat) : Nat → Nat → Int32 := zf (zf f c 2 (nI (if s + 1 < cap then s + 1 else 0))) c 3 (nI (n - 1))
theorem c_recdrop (hc : c < 15) {s n : Nat} (hcap : cap ≤ 100000) (h0 : f c 0 = nI cap) (h2 : f c 2 = nI s) (h3 : f c 3 = nI n) (hs : s < cap) (hn : 0 < n) (hn2 : n ≤ cap) {Q : zS → Prop} (hq : Q (zcs σ b (cDrop f c cap s n) s0 s1)) : wX8_removeFirst ln (zcs σ b f s0 s1) (b + c) Q := by
  have hc0 : c < 16 := by omega
  have e1 : ¬ nI n ≤ 0 := nI_nle hn (by omega)
  have e2 : nI s + 1 = nI (s + 1) := nI_1 s
  have e3 : nI n - 1 = nI (n - 1) := pk_sub (a := n) (b := 1) hn
  unfold cDrop at hq
  simp only [wX8_removeFirst, wX8_removeFirst_31, gi_zcs_k σ b f s0 s1 hc0, h0, h2, h3, e1, e2, false_imp_iff, not_false_eq_true, true_implies, true_and, forall_eq, si_zcs_k _ b _ s0 s1 hc0, gi_zcs_k _ b _ s0 s1 hc0, zf_ap, if_true, Nat.reduceEqDiff, if_false, e3]
  refine ⟨fun h => ?_, fun h => ?_⟩
  · have h4 := (nI_leI (by omega) (by omega)).mp h
    rw [if_neg (by omega)] at hq
    exact hq
  · have h4 : ¬ cap ≤ s + 1 := fun h5 => h ((nI_leI (by omega) (by omega)).mpr h5)
    rw [if_pos (by omega)] at hq
    exact hq
theorem c_recadd (hc : c < 15) (g : gr σ (b + c) 1 = some (b + (c + 1))) (l : ln (b + (c + 1)) = 3 * cap) {s n : Nat} (hcap : cap ≤ 100000) (h0 : f c 0 = nI cap) (h2 : f c 2 = nI s) (h3 : f c 3 = nI n) (hs : s < cap) (hn : n ≤ cap) {a1 a2 a3 : Int32} {Q : zS → Prop}
    (hq : Q (zcs σ b (if n = cap then zf (cPut (cDrop f c cap s n) c (3 * rix cap (if s + 1 < cap then s + 1 else 0) (n - 1)) a1 a2 a3) c 3 (nI (n - 1 + 1)) else zf (cPut f c (3 * rix cap s n) a1 a2 a3) c 3 (nI (n + 1))) s0 s1)) : wX8_add ln (zcs σ b f s0 s1) (b + c) a1 a2 a3 Q := by
  have hc0 : c < 16 := by omega
  simp only [wX8_add, gi_zcs_k σ b f s0 s1 hc0, h0, h3]
  refine ⟨fun h => ?_, fun h => ?_⟩
  · have h4 := (nI_eq (by omega) (by omega)).mp h
    rw [if_pos h4] at hq
    refine c_recdrop hc hcap h0 h2 h3 hs (by omega) hn ?_
    have q0 : cDrop f c cap s n c 0 = nI cap := by
      unfold cDrop
      simp only [zf_ap, if_true, Nat.reduceEqDiff, if_false]
      exact h0
    have q2 : cDrop f c cap s n c 2 = nI (if s + 1 < cap then s + 1 else 0) := by
      unfold cDrop
      simp only [zf_ap, if_true, Nat.reduceEqDiff, if_false]
    have q3 : cDrop f c cap s n c 3 = nI (n - 1) := by
      unfold cDrop
      simp only [zf_ap, if_true]
    exact c_recadd15 hc g l hcap q0 q2 q3 (by split <;> omega) (by omega) hq
  · have h4 : ¬ n = cap := fun h5 => h (by rw [h5])
    rw [if_neg h4] at hq
    exact c_recadd15 hc g l hcap h0 h2 h3 hs (by omega) hq
end ZROW

/-! from 61.rel -/
/-! THE RELATION of the class's machine to the model's row -/
def ring (wk : Prop) (cap s n : Nat) (c e : Nat → Int32) : Prop := ∀ k, k < n → ∀ i, i < 3 → (wk → i = 2 → e (3 * k + 1) = 0) → c (3 * rix cap s k + i) = e (3 * k + i)
theorem ring_cong {wk : Prop} {cap s n : Nat} {c c' e e' : Nat → Int32} (h : ring wk cap s n c e) (hc : c' = c) (he : ∀ j, j < 3 * n → e' j = e j) : ring wk cap s n c' e' := by
  intro k hk i hi hw
  rw [hc, he _ (by omega)]
  exact h k hk i hi (fun a b => by rw [← he _ (by omega)]; exact hw a b)
theorem ring_put {wk : Prop} {cap s n : Nat} {c e : Nat → Int32} (h : ring wk cap s n c e) (hs : s < cap) (hn : n < cap) {a1 a2 a3 b3 : Int32} (h3 : (wk → a2 = 0) → a3 = b3) : ring wk cap s (n + 1) (zu (zu (zu c (3 * rix cap s n) a1) (3 * rix cap s n + 1) a2) (3 * rix cap s n + 2) a3) (zu (zu (zu e (3 * n) a1) (3 * n + 1) a2) (3 * n + 2) b3) := by
  intro k hk i hi hw
  by_cases hkn : k = n
  · subst hkn
    have h1 : zu (zu (zu e (3 * k) a1) (3 * k + 1) a2) (3 * k + 2) b3 (3 * k + 1) = a2 := by rw [zu_ne (by omega), zu_self]
    rw [h1] at hw
    rcases (show i = 0 ∨ i = 1 ∨ i = 2 by omega) with rfl | rfl | rfl
    · generalize 3 * rix cap s k = X
      generalize 3 * k = Z
      simp [zu_ap]
    · generalize 3 * rix cap s k = X
      generalize 3 * k = Z
      simp [zu_ap]
    · rw [zu_self, zu_self]
      exact h3 (fun a => hw a rfl)
  · have hd : rix cap s k ≠ rix cap s n := fun e => hkn (rix_inj hs (by omega) hn e)
    have he : ∀ i, i < 3 → zu (zu (zu e (3 * n) a1) (3 * n + 1) a2) (3 * n + 2) b3 (3 * k + i) = e (3 * k + i) := fun i hi => by rw [zu_ne (by omega), zu_ne (by omega), zu_ne (by omega)]
    rw [zu_ne (by omega), zu_ne (by omega), zu_ne (by omega), he i hi]
    exact h k (by omega) i hi (fun a b => by rw [← he 1 (by omega)]; exact hw a b)
theorem rix_next {cap s k : Nat} (hs : s < cap) (hk : k + 1 < cap) : rix cap (if s + 1 < cap then s + 1 else 0) k = rix cap s (k + 1) := by
  unfold rix
  by_cases h : s + 1 < cap
  · rw [if_pos h]
    by_cases h2 : s + (k + 1) < cap
    · rw [if_pos h2, if_pos (by omega)]; omega
    · rw [if_neg h2, if_neg (by omega)]; omega
  · rw [if_neg h]
    rw [if_neg (show ¬ s + (k + 1) < cap by omega), if_pos (by omega)]; omega
theorem ring_drop {wk : Prop} {cap s n : Nat} {c e : Nat → Int32} (h : ring wk cap s n c e) (hs : s < cap) (hn : 0 < n) (hn2 : n ≤ cap) : ring wk cap (if s + 1 < cap then s + 1 else 0) (n - 1) c (fun j => e (j + 3)) := by
  intro k hk i hi hw
  rw [rix_next hs (by omega)]
  have e1 : 3 * k + i + 3 = 3 * (k + 1) + i := by omega
  show _ = e (3 * k + i + 3)
  rw [e1]
  refine h (k + 1) (by omega) i hi (fun a b => ?_)
  have h9 : e (3 * k + 1 + 3) = 0 := hw a b
  have e2 : 3 * k + 1 + 3 = 3 * (k + 1) + 1 := by omega
  rw [e2] at h9
  exact h9
def RS (f : Nat → Nat → Int32) (r : Nat → Int32) : Prop := f 0 1 = r 5 ∧ f 0 2 = r 2 ∧ f 0 3 = r 6 ∧ f 0 4 = r 7 ∧ (r 7 = 1 → f 0 5 = r 8) ∧ f 0 6 = r 9 ∧ f 0 7 = r 10 ∧ f 0 8 = r 15 ∧ f 0 9 = r 16 ∧ f 0 10 = r 17
def RO (f : Nat → Nat → Int32) (r : Nat → Int32) (q : Nat) : Prop := f (1 + 3 * q) 0 = r (21 + q) ∧ f (1 + 3 * q) 1 = r (23 + q) ∧ f (1 + 3 * q) 2 = r (27 + q) ∧ f (1 + 3 * q) 3 = r (31 + q) ∧ f (1 + 3 * q) 4 = r (33 + q) ∧ f (1 + 3 * q) 5 = r (35 + q)
def RV (f : Nat → Nat → Int32) (r : Nat → Int32) (q : Nat) : Prop := f (2 + 3 * q) 1 = r (29 + q) ∧ ∀ k, k < (r (29 + q)).toNatClampNeg → f (3 + 3 * q) k = r (963 + 1000 * q + k)
def RB (f : Nat → Nat → Int32) (r : Nat → Int32) : Prop := f 7 1 = r 12 ∧ f 7 2 = r 13 ∧ f 7 3 = r 14 ∧ f 8 1 = r 11 ∧ ∀ k, k < (r 11).toNatClampNeg → f 9 k = r (59 + k)
def RT (f : Nat → Nat → Int32) (r : Nat → Int32) : Prop := f 10 0 = nI 640 ∧ f 10 3 = r 19 ∧ ∃ s, s < 640 ∧ f 10 2 = nI s ∧ ring True 640 s (r 19).toNatClampNeg (f 11) (fun j => r (2963 + j))
def RE (f : Nat → Nat → Int32) (r : Nat → Int32) : Prop := f 12 0 = nI 40 ∧ f 12 3 = r 18 ∧ ∃ s, s < 40 ∧ f 12 2 = nI s ∧ ring False 40 s (r 18).toNatClampNeg (f 13) (fun j => r (99 + j))
def RZ (f : Nat → Nat → Int32) (r : Nat → Int32) : Prop := f 14 1 = r 20 ∧ ∀ k, k < (r 20).toNatClampNeg → f 15 k = r (39 + k)
def RR (f : Nat → Nat → Int32) (s0 s1 : Int64) (r : Nat → Int32) : Prop := RS f r ∧ (RO f r 0 ∧ RO f r 1) ∧ (RV f r 0 ∧ RV f r 1) ∧ RB f r ∧ RT f r ∧ RE f r ∧ RZ f r ∧ s0 = (r 37).toInt64 ∧ s1 = (r 38).toInt64
theorem RS_c {f f' : Nat → Nat → Int32} {r r' : Nat → Int32} (h : RS f r) (e : f' 0 = f 0) (er : ∀ k, k = 2 ∨ (5 ≤ k ∧ k ≤ 10) ∨ (15 ≤ k ∧ k ≤ 17) → r' k = r k) : RS f' r' := by
  unfold RS
  rw [e, er 5 (by omega), er 2 (by omega), er 6 (by omega), er 7 (by omega), er 8 (by omega), er 9 (by omega), er 10 (by omega), er 15 (by omega), er 16 (by omega), er 17 (by omega)]
  exact h
theorem RO_c {f f' : Nat → Nat → Int32} {r r' : Nat → Int32} {q : Nat} (h : RO f r q) (e : f' (1 + 3 * q) = f (1 + 3 * q)) (er : ∀ k, k = 21 + q ∨ k = 23 + q ∨ k = 27 + q ∨ k = 31 + q ∨ k = 33 + q ∨ k = 35 + q → r' k = r k) : RO f' r' q := by
  unfold RO
  rw [e, er (21 + q) (by omega), er (23 + q) (by omega), er (27 + q) (by omega), er (31 + q) (by omega), er (33 + q) (by omega), er (35 + q) (by omega)]
  exact h
theorem RV_c {f f' : Nat → Nat → Int32} {r r' : Nat → Int32} {q : Nat} (h : RV f r q) (e : f' (2 + 3 * q) = f (2 + 3 * q)) (e2 : f' (3 + 3 * q) = f (3 + 3 * q)) (er : r' (29 + q) = r (29 + q)) (er2 : ∀ k, k < (r (29 + q)).toNatClampNeg → r' (963 + 1000 * q + k) = r (963 + 1000 * q + k)) : RV f' r' q := by
  unfold RV
  rw [e, e2, er]
  exact ⟨h.1, fun k hk => by rw [er2 k hk]; exact h.2 k hk⟩
theorem RB_c {f f' : Nat → Nat → Int32} {r r' : Nat → Int32} (h : RB f r) (e : f' 7 = f 7) (e2 : f' 8 = f 8) (e3 : f' 9 = f 9) (er : ∀ k, 11 ≤ k ∧ k ≤ 14 → r' k = r k) (er2 : ∀ k, k < (r 11).toNatClampNeg → r' (59 + k) = r (59 + k)) : RB f' r' := by
  unfold RB
  rw [e, e2, e3, er 11 (by omega), er 12 (by omega), er 13 (by omega), er 14 (by omega)]
  exact ⟨h.1, h.2.1, h.2.2.1, h.2.2.2.1, fun k hk => by rw [er2 k hk]; exact h.2.2.2.2 k hk⟩
theorem RT_c {f f' : Nat → Nat → Int32} {r r' : Nat → Int32} (h : RT f r) (e : f' 10 = f 10) (e2 : f' 11 = f 11) (er : r' 19 = r 19) (er2 : ∀ j, j < 3 * (r 19).toNatClampNeg → r' (2963 + j) = r (2963 + j)) : RT f' r' := by
  obtain ⟨h1, h2, s, h3, h4, h5⟩ := h
  unfold RT
  rw [e, er]
  exact ⟨h1, h2, s, h3, h4, ring_cong h5 e2 er2⟩
theorem RE_c {f f' : Nat → Nat → Int32} {r r' : Nat → Int32} (h : RE f r) (e : f' 12 = f 12) (e2 : f' 13 = f 13) (er : r' 18 = r 18) (er2 : ∀ j, j < 3 * (r 18).toNatClampNeg → r' (99 + j) = r (99 + j)) : RE f' r' := by
  obtain ⟨h1, h2, s, h3, h4, h5⟩ := h
  unfold RE
  rw [e, er]
  exact ⟨h1, h2, s, h3, h4, ring_cong h5 e2 er2⟩
theorem RZ_c {f f' : Nat → Nat → Int32} {r r' : Nat → Int32} (h : RZ f r) (e : f' 14 = f 14) (e2 : f' 15 = f 15) (er : r' 20 = r 20) (er2 : ∀ k, k < (r 20).toNatClampNeg → r' (39 + k) = r (39 + k)) : RZ f' r' := by
  unfold RZ
  rw [e, e2, er]
  exact ⟨h.1, fun k hk => by rw [er2 k hk]; exact h.2 k hk⟩
/-- the machine's references and lengths -/
def zMs (g : Nat → Nat → Option Nat) (ln : Nat → Nat) (b : Nat) : Prop := (g b 11 = some (b + 1) ∧ g b 12 = some (b + 4) ∧ g b 13 = some (b + 7) ∧ g b 14 = some (b + 10) ∧ g b 15 = some (b + 12) ∧ g b 16 = some (b + 14)) ∧ (g (b + 1) 7 = some (b + 2) ∧ g (b + 4) 7 = some (b + 5) ∧ g (b + 2) 0 = some (b + 3) ∧ g (b + 5) 0 = some (b + 6) ∧ g (b + 7) 0 = some (b + 8) ∧ g (b + 8) 0 = some (b + 9) ∧ g (b + 10) 1 = some (b + 11) ∧ g (b + 12) 1 = some (b + 13) ∧ g (b + 14) 0 = some (b + 15)) ∧ (ln (b + 3) = 1000 ∧ ln (b + 6) = 1000 ∧ ln (b + 9) = 40 ∧ ln (b + 11) = 3 * 640 ∧ ln (b + 13) = 3 * 40 ∧ ln (b + 15) = 20)
theorem C_clears {ln : Nat → Nat} {σ : zS} {b : Nat} {f : Nat → Nat → Int32} {s0 s1 : Int64} {r : Nat → Int32} (S : zMs (gr σ) ln b) (h : RR f s0 s1 r) (hb : 0 ≤ (r 11).toInt) {Q : zS → Prop} (hq : ∀ f', RR f' s0 s1 (rClears r) → Q (zcs σ b f' s0 s1)) : wX7_clear ln (zcs σ b f s0 s1) (b + 7) Q := by
  obtain ⟨⟨m1, m2, m3, m4, m5, m6⟩, ⟨a1, a2, a3, a4, a5, a6, a7, a8, a9⟩, -⟩ := S
  simp only [wX7_clear, gr_zcs, a5, Option.some.injEq, exists_eq_left']
  refine c_rclear (by decide) ?_
  simp only [forall_eq, si_zcs_k σ b _ s0 s1 (show 7 < 16 by decide)]
  refine hq _ ?_
  obtain ⟨h1, ⟨h2, h2'⟩, ⟨h3, h3'⟩, h4, h5, h6, h7, h8, h9⟩ := h
  have er : ∀ k, ¬ (11 ≤ k ∧ k ≤ 14) → rClears r k = r k := fun k hk => by
    unfold rClears
    rw [zu_ne (by omega), zu_ne (by omega), zu_ne (by omega), zu_ne (by omega)]
  have ef : ∀ k, k ≠ 7 → k ≠ 8 → zf (zf (zf (zf f 8 1 0) 7 1 0) 7 2 0) 7 3 0 k = f k := fun k h1 h2 => by rw [zf_ne h1, zf_ne h1, zf_ne h1, zf_ne h2]
  refine ⟨RS_c h1 (ef 0 (by decide) (by decide)) (fun k hk => er k (by omega)), ⟨RO_c h2 (ef 1 (by decide) (by decide)) (fun k hk => er k (by omega)), RO_c h2' (ef 4 (by decide) (by decide)) (fun k hk => er k (by omega))⟩, ⟨RV_c h3 (ef 2 (by decide) (by decide)) (ef 3 (by decide) (by decide)) (er _ (by omega)) (fun k _ => er _ (by omega)), RV_c h3' (ef 5 (by decide) (by decide)) (ef 6 (by decide) (by decide)) (er _ (by omega)) (fun k _ => er _ (by omega))⟩, ?_, RT_c h5 (ef 10 (by decide) (by decide)) (ef 11 (by decide) (by decide)) (er _ (by omega)) (fun k _ => er _ (by omega)), RE_c h6 (ef 12 (by decide) (by decide)) (ef 13 (by decide) (by decide)) (er _ (by omega)) (fun k _ => er _ (by omega)), RZ_c h7 (ef 14 (by decide) (by decide)) (ef 15 (by decide) (by decide)) (er _ (by omega)) (fun k _ => er _ (by omega)), ?_, ?_⟩
  · unfold RB rClears
    simp only [zf_ap, zu_ap, if_true, Nat.reduceEqDiff, if_false]
    exact ⟨trivial, trivial, trivial, trivial, fun k hk => absurd hk (Nat.not_lt_zero k)⟩
  · rw [er 37 (by omega)]; exact h8
  · rw [er 38 (by omega)]; exact h9

/-! from 62.csteps -/
/-! THE CLASS'S STEPS, over the relation -/
theorem zW.bn {r : Nat → Int32} (h : zW r) : (r 11).toNatClampNeg ≤ 40 ∧ (r 18).toNatClampNeg ≤ 40 ∧ (r 20).toNatClampNeg ≤ 20 ∧ (r (29 + 0)).toNatClampNeg ≤ 1000 ∧ (r (29 + 1)).toNatClampNeg ≤ 1000 ∧ (r 19).toNatClampNeg ≤ 600 := by
  have a := h.b
  have b := h.e
  have c := h.l
  have d := h.mq (q := 0) (Or.inl rfl)
  have e := h.mq (q := 1) (Or.inr rfl)
  have f := h.u
  simp only [ncln]
  omega
theorem rPut_e (r : Nat → Int32) {b cnt : Nat} (hc : cnt < b) (x y z : Int32) : (fun j => rPut r b cnt x y z (b + j)) = zu (zu (zu (fun j => r (b + j)) (3 * (r cnt).toNatClampNeg) x) (3 * (r cnt).toNatClampNeg + 1) y) (3 * (r cnt).toNatClampNeg + 2) z := by
  funext j
  unfold rPut
  rw [zu_ne (by omega)]
  by_cases e2 : j = 3 * (r cnt).toNatClampNeg + 2
  · subst e2; rw [zu_self, ← Nat.add_assoc, zu_self]
  · rw [zu_ne e2, zu_ne (by omega)]
    by_cases e1 : j = 3 * (r cnt).toNatClampNeg + 1
    · subst e1; rw [zu_self, ← Nat.add_assoc, zu_self]
    · rw [zu_ne e1, zu_ne (by omega)]
      by_cases e0 : j = 3 * (r cnt).toNatClampNeg
      · subst e0; rw [zu_self, zu_self]
      · rw [zu_ne e0, zu_ne (by omega)]
theorem C_tclear {ln : Nat → Nat} {σ : zS} {b : Nat} {f : Nat → Nat → Int32} {s0 s1 : Int64} {r : Nat → Int32} (h : RR f s0 s1 r) {Q : zS → Prop} (hq : ∀ f', RR f' s0 s1 (zu r 19 0) → Q (zcs σ b f' s0 s1)) : wX8_clear ln (zcs σ b f s0 s1) (b + 10) Q := by
  simp only [wX8_clear, forall_eq, si_zcs_k σ b _ s0 s1 (show 10 < 16 by decide)]
  refine hq _ ?_
  obtain ⟨h1, ⟨h2, h2'⟩, ⟨h3, h3'⟩, h4, h5, h6, h7, h8, h9⟩ := h
  have er : ∀ k, k ≠ 19 → zu r 19 0 k = r k := fun k hk => zu_ne hk
  have ef : ∀ k, k ≠ 10 → zf (zf f 10 2 0) 10 3 0 k = f k := fun k h1 => by rw [zf_ne h1, zf_ne h1]
  refine ⟨RS_c h1 (ef 0 (by omega)) (fun k hk => er k (by omega)), ⟨RO_c h2 (ef 1 (by omega)) (fun k hk => er k (by omega)), RO_c h2' (ef 4 (by omega)) (fun k hk => er k (by omega))⟩, ⟨RV_c h3 (ef 2 (by omega)) (ef 3 (by omega)) (er _ (by omega)) (fun k hk => er _ (by omega)), RV_c h3' (ef 5 (by omega)) (ef 6 (by omega)) (er _ (by omega)) (fun k hk => er _ (by omega))⟩, RB_c h4 (ef 7 (by omega)) (ef 8 (by omega)) (ef 9 (by omega)) (fun k hk => er k (by omega)) (fun k hk => er _ (by omega)), ?_, RE_c h6 (ef 12 (by omega)) (ef 13 (by omega)) (er _ (by omega)) (fun k hk => er _ (by omega)), RZ_c h7 (ef 14 (by omega)) (ef 15 (by omega)) (er _ (by omega)) (fun k hk => er _ (by omega)), by rw [er 37 (by omega)]; exact h8, by rw [er 38 (by omega)]; exact h9⟩
  unfold RT
  simp only [zf_ap, zu_ap, if_true, Nat.reduceEqDiff, if_false]
  exact ⟨h5.1, trivial, 0, by decide, rfl, fun k hk => absurd hk (Nat.not_lt_zero k)⟩
def rEnds0 (r : Nat → Int32) : Nat → Int32 := zu (zu (zu (zu r 6 (-1)) 7 0) 9 0) 10 0
theorem rEnds_e (r : Nat → Int32) : rEnds r = zu (rClears (rEnds0 r)) 19 0 := by
  funext j
  unfold rEnds rEnds0 rClears
  by_cases h : j = 19
  · subst h; simp only [zu_ap, if_true, Nat.reduceEqDiff, if_false]
  · simp only [zu_ap, h, if_false]
theorem C_ends {ln : Nat → Nat} {σ : zS} {b : Nat} {f : Nat → Nat → Int32} {s0 s1 : Int64} {r : Nat → Int32} (S : zMs (gr σ) ln b) (h : RR f s0 s1 r) (hb : 0 ≤ (r 11).toInt) {Q : zS → Prop} (hq : ∀ f', RR f' s0 s1 (rEnds r) → Q (zcs σ b f' s0 s1)) : wX3_endTransmission ln (zcs σ b f s0 s1) b Q := by
  have S' := S
  obtain ⟨⟨m1, m2, m3, m4, m5, m6⟩, ⟨a1, a2, a3, a4, a5, a6, a7, a8, a9⟩, ⟨l1, l2, l3, l4, l5, l6⟩⟩ := S
  simp only [wX3_endTransmission, forall_eq, si_zcs_b, gr_zcs, m3, Option.some.injEq, exists_eq_left']
  have hR : RR (zf (zf (zf (zf f 0 3 (-1)) 0 4 0) 0 6 0) 0 7 0) s0 s1 (rEnds0 r) := by
    obtain ⟨h1, ⟨h2, h2'⟩, ⟨h3, h3'⟩, h4, h5, h6, h7, h8, h9⟩ := h
    have er : ∀ k, k ≠ 6 → k ≠ 7 → k ≠ 9 → k ≠ 10 → rEnds0 r k = r k := fun k e1 e2 e3 e4 => by unfold rEnds0; rw [zu_ne e4, zu_ne e3, zu_ne e2, zu_ne e1]
    have ef : ∀ k, k ≠ 0 → zf (zf (zf (zf f 0 3 (-1)) 0 4 0) 0 6 0) 0 7 0 k = f k := fun k h1 => by rw [zf_ne h1, zf_ne h1, zf_ne h1, zf_ne h1]
    refine ⟨?_, ⟨RO_c h2 (ef 1 (by omega)) (fun k hk => er k (by omega) (by omega) (by omega) (by omega)), RO_c h2' (ef 4 (by omega)) (fun k hk => er k (by omega) (by omega) (by omega) (by omega))⟩, ⟨RV_c h3 (ef 2 (by omega)) (ef 3 (by omega)) (er _ (by omega) (by omega) (by omega) (by omega)) (fun k hk => er _ (by omega) (by omega) (by omega) (by omega)), RV_c h3' (ef 5 (by omega)) (ef 6 (by omega)) (er _ (by omega) (by omega) (by omega) (by omega)) (fun k hk => er _ (by omega) (by omega) (by omega) (by omega))⟩, RB_c h4 (ef 7 (by omega)) (ef 8 (by omega)) (ef 9 (by omega)) (fun k hk => er k (by omega) (by omega) (by omega) (by omega)) (fun k hk => er _ (by omega) (by omega) (by omega) (by omega)), RT_c h5 (ef 10 (by omega)) (ef 11 (by omega)) (er _ (by omega) (by omega) (by omega) (by omega)) (fun k hk => er _ (by omega) (by omega) (by omega) (by omega)), RE_c h6 (ef 12 (by omega)) (ef 13 (by omega)) (er _ (by omega) (by omega) (by omega) (by omega)) (fun k hk => er _ (by omega) (by omega) (by omega) (by omega)), RZ_c h7 (ef 14 (by omega)) (ef 15 (by omega)) (er _ (by omega) (by omega) (by omega) (by omega)) (fun k hk => er _ (by omega) (by omega) (by omega) (by omega)), by rw [er 37 (by omega) (by omega) (by omega) (by omega)]; exact h8, by rw [er 38 (by omega) (by omega) (by omega) (by omega)]; exact h9⟩
    unfold RS rEnds0
    simp only [zf_ap, zu_ap, if_true, Nat.reduceEqDiff, if_false]
    exact ⟨h1.1, h1.2.1, trivial, trivial, fun h => absurd h (by decide), trivial, trivial, h1.2.2.2.2.2.2.2.1, h1.2.2.2.2.2.2.2.2.1, h1.2.2.2.2.2.2.2.2.2⟩
  refine C_clears S' hR (by unfold rEnds0; simp only [zu_ap, Nat.reduceEqDiff, if_false]; exact hb) (fun f1 h1 => ?_)
  simp only [gr_zcs, m4, Option.some.injEq, exists_eq_left']
  refine C_tclear h1 (fun f2 h2 => ?_)
  rw [← rEnds_e] at h2
  exact hq f2 h2
theorem C_event {ln : Nat → Nat} {σ : zS} {b : Nat} {f : Nat → Nat → Int32} {s0 s1 : Int64} {r : Nat → Int32} (S : zMs (gr σ) ln b) (h : RR f s0 s1 r) (hW : zW r) {t c v : Int32} (ht : t = r 5) {Q : zS → Prop} (hq : ∀ f', RR f' s0 s1 (rNotes r c v) → Q (zcs σ b f' s0 s1)) : wX8_add ln (zcs σ b f s0 s1) (b + 12) t c v Q := by
  subst ht
  have hb := hW.e
  obtain ⟨nb, ne, nz, nm0, nm1, nt⟩ := hW.bn
  obtain ⟨⟨m1, m2, m3, m4, m5, m6⟩, ⟨a1, a2, a3, a4, a5, a6, a7, a8, a9⟩, ⟨l1, l2, l3, l4, l5, l6⟩⟩ := S
  obtain ⟨h1, ⟨h2, h2'⟩, ⟨h3, h3'⟩, h4, h5, h6, h7, h8, h9⟩ := h
  have c0 := ncl hb.1
  obtain ⟨e1, e2, s, hs, e3, hr⟩ := h6
  have em : r 18 = nI (r 18).toNatClampNeg := by rw [neq, nI_toInt (by omega)]; omega
  have e2' : f 12 3 = nI (r 18).toNatClampNeg := e2.trans em
  refine c_recadd (c := 12) (cap := 40) (by decide) a8 l5 (by decide) e1 e3 e2' hs (by omega) (hq _ ?_)
  have er : ∀ k, k ≠ 18 → ¬ (99 ≤ k ∧ k < 219) → rNotes r c v k = r k := fun k => rNotes_out r hb.1 hb.2
  by_cases hn : (r 18).toNatClampNeg = 40
  · rw [if_pos hn]
    have h40 : r 18 = 40 := by rw [em, hn]; rfl
    have ef : ∀ k, k ≠ 12 → k ≠ 13 → zf (cPut (cDrop f 12 40 s (r 18).toNatClampNeg) 12 (3 * rix 40 (if s + 1 < 40 then s + 1 else 0) ((r 18).toNatClampNeg - 1)) (r 5) c v) 12 3 (nI ((r 18).toNatClampNeg - 1 + 1)) k = f k := fun k k1 k2 => by
      unfold cPut cDrop
      rw [zf_ne k1, zf_ne k2, zf_ne k2, zf_ne k2, zf_ne k1, zf_ne k1]
    refine ⟨RS_c h1 (ef 0 (by omega) (by omega)) (fun k hk => er k (by omega) (by omega)), ⟨RO_c h2 (ef 1 (by omega) (by omega)) (fun k hk => er k (by omega) (by omega)), RO_c h2' (ef 4 (by omega) (by omega)) (fun k hk => er k (by omega) (by omega))⟩, ⟨RV_c h3 (ef 2 (by omega) (by omega)) (ef 3 (by omega) (by omega)) (er _ (by omega) (by omega)) (fun k hk => er _ (by omega) (by omega)), RV_c h3' (ef 5 (by omega) (by omega)) (ef 6 (by omega) (by omega)) (er _ (by omega) (by omega)) (fun k hk => er _ (by omega) (by omega))⟩, RB_c h4 (ef 7 (by omega) (by omega)) (ef 8 (by omega) (by omega)) (ef 9 (by omega) (by omega)) (fun k hk => er k (by omega) (by omega)) (fun k hk => er _ (by omega) (by omega)), RT_c h5 (ef 10 (by omega) (by omega)) (ef 11 (by omega) (by omega)) (er _ (by omega) (by omega)) (fun k hk => er _ (by omega) (by omega)), ?_, RZ_c h7 (ef 14 (by omega) (by omega)) (ef 15 (by omega) (by omega)) (er _ (by omega) (by omega)) (fun k hk => er _ (by omega) (by omega)), by rw [er 37 (by omega) (by omega)]; exact h8, by rw [er 38 (by omega) (by omega)]; exact h9⟩
    have eN : rNotes r c v = rPut (rCut r) 99 18 (r 5) c v := by unfold rNotes; rw [if_pos h40]
    have e18 : rCut r 18 = 39 := by unfold rCut; rw [zu_self, h40]; decide
    have c39 : (rCut r 18).toNatClampNeg = 39 := by rw [e18]; decide
    have e18' : rNotes r c v 18 = 40 := by rw [eN]; unfold rPut; rw [zu_self, e18]; decide
    have hd := ring_drop hr hs (by omega) (by omega)
    rw [hn] at hd ⊢
    have hd2 : ring False 40 (if s + 1 < 40 then s + 1 else 0) 39 (f 13) (fun j => rCut r (99 + j)) := ring_cong hd rfl (fun j hj => by
      unfold rCut zcut
      rw [zu_ne (by omega), if_pos (by omega)]
      rfl)
    have hp := ring_put hd2 (show (if s + 1 < 40 then s + 1 else 0) < 40 by split <;> omega) (by decide) (a1 := r 5) (a2 := c) (a3 := v) (b3 := v) (fun _ => rfl)
    refine ⟨?_, ?_, if s + 1 < 40 then s + 1 else 0, by split <;> omega, ?_, ?_⟩
    · unfold cPut cDrop
      simp only [zf_ap, if_true, Nat.reduceEqDiff, if_false]
      exact e1
    · rw [e18']
      simp only [zf_ap, if_true]
      rfl
    · unfold cPut cDrop
      simp only [zf_ap, if_true, Nat.reduceEqDiff, if_false]
    · rw [e18', eN, rPut_e _ (by decide), c39]
      unfold cPut cDrop
      rw [zf_ne (by decide), zf_eq, zf_eq, zf_eq, zf_ne (by decide), zf_ne (by decide)]
      exact hp
  · rw [if_neg hn]
    have h40 : ¬ r 18 = 40 := fun e => hn (by rw [e]; rfl)
    have ef : ∀ k, k ≠ 12 → k ≠ 13 → zf (cPut f 12 (3 * rix 40 s (r 18).toNatClampNeg) (r 5) c v) 12 3 (nI ((r 18).toNatClampNeg + 1)) k = f k := fun k k1 k2 => by
      unfold cPut
      rw [zf_ne k1, zf_ne k2, zf_ne k2, zf_ne k2]
    refine ⟨RS_c h1 (ef 0 (by omega) (by omega)) (fun k hk => er k (by omega) (by omega)), ⟨RO_c h2 (ef 1 (by omega) (by omega)) (fun k hk => er k (by omega) (by omega)), RO_c h2' (ef 4 (by omega) (by omega)) (fun k hk => er k (by omega) (by omega))⟩, ⟨RV_c h3 (ef 2 (by omega) (by omega)) (ef 3 (by omega) (by omega)) (er _ (by omega) (by omega)) (fun k hk => er _ (by omega) (by omega)), RV_c h3' (ef 5 (by omega) (by omega)) (ef 6 (by omega) (by omega)) (er _ (by omega) (by omega)) (fun k hk => er _ (by omega) (by omega))⟩, RB_c h4 (ef 7 (by omega) (by omega)) (ef 8 (by omega) (by omega)) (ef 9 (by omega) (by omega)) (fun k hk => er k (by omega) (by omega)) (fun k hk => er _ (by omega) (by omega)), RT_c h5 (ef 10 (by omega) (by omega)) (ef 11 (by omega) (by omega)) (er _ (by omega) (by omega)) (fun k hk => er _ (by omega) (by omega)), ?_, RZ_c h7 (ef 14 (by omega) (by omega)) (ef 15 (by omega) (by omega)) (er _ (by omega) (by omega)) (fun k hk => er _ (by omega) (by omega)), by rw [er 37 (by omega) (by omega)]; exact h8, by rw [er 38 (by omega) (by omega)]; exact h9⟩
    have eN : rNotes r c v = rPut r 99 18 (r 5) c v := by unfold rNotes; rw [if_neg h40]
    have e18' : rNotes r c v 18 = nI ((r 18).toNatClampNeg + 1) := by
      rw [eN]
      unfold rPut
      rw [zu_self, ← nI_1, ← em]
    have hp := ring_put hr hs (show (r 18).toNatClampNeg < 40 by omega) (a1 := r 5) (a2 := c) (a3 := v) (b3 := v) (fun _ => rfl)
    refine ⟨?_, ?_, s, hs, ?_, ?_⟩
    · unfold cPut
      simp only [zf_ap, if_true, Nat.reduceEqDiff, if_false]
      exact e1
    · rw [e18']
      simp only [zf_ap, if_true]
    · unfold cPut
      simp only [zf_ap, if_true, Nat.reduceEqDiff, if_false]
      exact e3
    · rw [e18', nI_clamp (by omega), eN, rPut_e _ (by decide)]
      unfold cPut
      rw [zf_ne (by decide), zf_eq, zf_eq, zf_eq]
      exact hp
theorem C_send {ln : Nat → Nat} {σ : zS} {b : Nat} {f : Nat → Nat → Int32} {s0 s1 : Int64} {r : Nat → Int32} (S : zMs (gr σ) ln b) (h : RR f s0 s1 r) (hW : zW r) (hb' : (r 19).toInt ≤ 599) {t w v v' : Int32} (ht : t = r 5 + r 1) (hv : w = 0 → v' = v) {Q : zS → Prop} (hq : ∀ f', RR f' s0 s1 (rSends r w v) → Q (zcs σ b f' s0 s1)) : wX8_add ln (zcs σ b f s0 s1) (b + 10) t w v' Q := by
  subst ht
  have hb : 0 ≤ (r 19).toInt ∧ (r 19).toInt ≤ 599 := ⟨hW.u.1, hb'⟩
  obtain ⟨nb, ne, nz, nm0, nm1, nt⟩ := hW.bn
  obtain ⟨⟨m1, m2, m3, m4, m5, m6⟩, ⟨a1, a2, a3, a4, a5, a6, a7, a8, a9⟩, ⟨l1, l2, l3, l4, l5, l6⟩⟩ := S
  obtain ⟨h1, ⟨h2, h2'⟩, ⟨h3, h3'⟩, h4, h5, h6, h7, h8, h9⟩ := h
  have c0 := ncl hb.1
  obtain ⟨e1, e2, s, hs, e3, hr⟩ := h5
  have em : r 19 = nI (r 19).toNatClampNeg := by rw [neq, nI_toInt (by omega)]; omega
  have e2' : f 10 3 = nI (r 19).toNatClampNeg := e2.trans em
  refine c_recadd (c := 10) (cap := 640) (by decide) a7 l4 (by decide) e1 e3 e2' hs (by omega) (hq _ ?_)
  have er : ∀ k, k ≠ 19 → k < 2963 → rSends r w v k = r k := fun k k1 k2 => by unfold rSends; exact rPut_out r k1 (by omega)
  rw [if_neg (show ¬ (r 19).toNatClampNeg = 640 by omega)]
  have ef : ∀ k, k ≠ 10 → k ≠ 11 → zf (cPut f 10 (3 * rix 640 s (r 19).toNatClampNeg) (r 5 + r 1) w v') 10 3 (nI ((r 19).toNatClampNeg + 1)) k = f k := fun k k1 k2 => by
    unfold cPut
    rw [zf_ne k1, zf_ne k2, zf_ne k2, zf_ne k2]
  refine ⟨RS_c h1 (ef 0 (by omega) (by omega)) (fun k hk => er k (by omega) (by omega)), ⟨RO_c h2 (ef 1 (by omega) (by omega)) (fun k hk => er k (by omega) (by omega)), RO_c h2' (ef 4 (by omega) (by omega)) (fun k hk => er k (by omega) (by omega))⟩, ⟨RV_c h3 (ef 2 (by omega) (by omega)) (ef 3 (by omega) (by omega)) (er _ (by omega) (by omega)) (fun k hk => er _ (by omega) (by omega)), RV_c h3' (ef 5 (by omega) (by omega)) (ef 6 (by omega) (by omega)) (er _ (by omega) (by omega)) (fun k hk => er _ (by omega) (by omega))⟩, RB_c h4 (ef 7 (by omega) (by omega)) (ef 8 (by omega) (by omega)) (ef 9 (by omega) (by omega)) (fun k hk => er k (by omega) (by omega)) (fun k hk => er _ (by omega) (by omega)), ?_, RE_c h6 (ef 12 (by omega) (by omega)) (ef 13 (by omega) (by omega)) (er _ (by omega) (by omega)) (fun k hk => er _ (by omega) (by omega)), RZ_c h7 (ef 14 (by omega) (by omega)) (ef 15 (by omega) (by omega)) (er _ (by omega) (by omega)) (fun k hk => er _ (by omega) (by omega)), by rw [er 37 (by omega) (by omega)]; exact h8, by rw [er 38 (by omega) (by omega)]; exact h9⟩
  have e18' : rSends r w v 19 = nI ((r 19).toNatClampNeg + 1) := by
    unfold rSends rPut
    rw [zu_self, ← nI_1, ← em]
  have hp := ring_put hr hs (show (r 19).toNatClampNeg < 640 by omega) (a1 := r 5 + r 1) (a2 := w) (a3 := v') (b3 := v) (fun a => hv (a trivial))
  refine ⟨?_, ?_, s, hs, ?_, ?_⟩
  · unfold cPut
    simp only [zf_ap, if_true, Nat.reduceEqDiff, if_false]
    exact e1
  · rw [e18']
    simp only [zf_ap, if_true]
  · unfold cPut
    simp only [zf_ap, if_true, Nat.reduceEqDiff, if_false]
    exact e3
  · rw [e18', nI_clamp (by omega)]
    unfold rSends
    rw [rPut_e _ (by decide)]
    unfold cPut
    rw [zf_ne (by decide), zf_eq, zf_eq, zf_eq]
    exact hp

/-! from 63.fields -/
/-! THE CLASS'S STEPS: single fields; lines that end -/
theorem RRs_5 {f : Nat → Nat → Int32} {s0 s1 : Int64} {r : Nat → Int32} (h : RR f s0 s1 r) (v : Int32) : RR (zf f 0 1 v) s0 s1 (zu r 5 v) := by
  obtain ⟨h1, ⟨h2, h2'⟩, ⟨h3, h3'⟩, h4, h5, h6, h7, h8, h9⟩ := h
  have er : ∀ k, k ≠ 5 → zu r 5 v k = r k := fun k hk => zu_ne hk
  have ef : ∀ k, k ≠ 0 → zf f 0 1 v k = f k := fun k hk => zf_ne hk
  refine ⟨?_, ⟨RO_c h2 (ef 1 (by omega)) (fun k hk => er k (by omega)), RO_c h2' (ef 4 (by omega)) (fun k hk => er k (by omega))⟩, ⟨RV_c h3 (ef 2 (by omega)) (ef 3 (by omega)) (er _ (by omega)) (fun k hk => er _ (by omega)), RV_c h3' (ef 5 (by omega)) (ef 6 (by omega)) (er _ (by omega)) (fun k hk => er _ (by omega))⟩, RB_c h4 (ef 7 (by omega)) (ef 8 (by omega)) (ef 9 (by omega)) (fun k hk => er k (by omega)) (fun k hk => er _ (by omega)), RT_c h5 (ef 10 (by omega)) (ef 11 (by omega)) (er _ (by omega)) (fun k hk => er _ (by omega)), RE_c h6 (ef 12 (by omega)) (ef 13 (by omega)) (er _ (by omega)) (fun k hk => er _ (by omega)), RZ_c h7 (ef 14 (by omega)) (ef 15 (by omega)) (er _ (by omega)) (fun k hk => er _ (by omega)), by rw [er 37 (by omega)]; exact h8, by rw [er 38 (by omega)]; exact h9⟩
  unfold RS
  simp only [zf_ap, zu_ap, if_true, Nat.reduceEqDiff, if_false]
  exact ⟨trivial, h1.2.1, h1.2.2.1, h1.2.2.2.1, h1.2.2.2.2.1, h1.2.2.2.2.2.1, h1.2.2.2.2.2.2.1, h1.2.2.2.2.2.2.2.1, h1.2.2.2.2.2.2.2.2.1, h1.2.2.2.2.2.2.2.2.2⟩
theorem RRs_2 {f : Nat → Nat → Int32} {s0 s1 : Int64} {r : Nat → Int32} (h : RR f s0 s1 r) (v : Int32) : RR (zf f 0 2 v) s0 s1 (zu r 2 v) := by
  obtain ⟨h1, ⟨h2, h2'⟩, ⟨h3, h3'⟩, h4, h5, h6, h7, h8, h9⟩ := h
  have er : ∀ k, k ≠ 2 → zu r 2 v k = r k := fun k hk => zu_ne hk
  have ef : ∀ k, k ≠ 0 → zf f 0 2 v k = f k := fun k hk => zf_ne hk
  refine ⟨?_, ⟨RO_c h2 (ef 1 (by omega)) (fun k hk => er k (by omega)), RO_c h2' (ef 4 (by omega)) (fun k hk => er k (by omega))⟩, ⟨RV_c h3 (ef 2 (by omega)) (ef 3 (by omega)) (er _ (by omega)) (fun k hk => er _ (by omega)), RV_c h3' (ef 5 (by omega)) (ef 6 (by omega)) (er _ (by omega)) (fun k hk => er _ (by omega))⟩, RB_c h4 (ef 7 (by omega)) (ef 8 (by omega)) (ef 9 (by omega)) (fun k hk => er k (by omega)) (fun k hk => er _ (by omega)), RT_c h5 (ef 10 (by omega)) (ef 11 (by omega)) (er _ (by omega)) (fun k hk => er _ (by omega)), RE_c h6 (ef 12 (by omega)) (ef 13 (by omega)) (er _ (by omega)) (fun k hk => er _ (by omega)), RZ_c h7 (ef 14 (by omega)) (ef 15 (by omega)) (er _ (by omega)) (fun k hk => er _ (by omega)), by rw [er 37 (by omega)]; exact h8, by rw [er 38 (by omega)]; exact h9⟩
  unfold RS
  simp only [zf_ap, zu_ap, if_true, Nat.reduceEqDiff, if_false]
  exact ⟨h1.1, trivial, h1.2.2.1, h1.2.2.2.1, h1.2.2.2.2.1, h1.2.2.2.2.2.1, h1.2.2.2.2.2.2.1, h1.2.2.2.2.2.2.2.1, h1.2.2.2.2.2.2.2.2.1, h1.2.2.2.2.2.2.2.2.2⟩
theorem RRs_6 {f : Nat → Nat → Int32} {s0 s1 : Int64} {r : Nat → Int32} (h : RR f s0 s1 r) (v : Int32) : RR (zf f 0 3 v) s0 s1 (zu r 6 v) := by
  obtain ⟨h1, ⟨h2, h2'⟩, ⟨h3, h3'⟩, h4, h5, h6, h7, h8, h9⟩ := h
  have er : ∀ k, k ≠ 6 → zu r 6 v k = r k := fun k hk => zu_ne hk
  have ef : ∀ k, k ≠ 0 → zf f 0 3 v k = f k := fun k hk => zf_ne hk
  refine ⟨?_, ⟨RO_c h2 (ef 1 (by omega)) (fun k hk => er k (by omega)), RO_c h2' (ef 4 (by omega)) (fun k hk => er k (by omega))⟩, ⟨RV_c h3 (ef 2 (by omega)) (ef 3 (by omega)) (er _ (by omega)) (fun k hk => er _ (by omega)), RV_c h3' (ef 5 (by omega)) (ef 6 (by omega)) (er _ (by omega)) (fun k hk => er _ (by omega))⟩, RB_c h4 (ef 7 (by omega)) (ef 8 (by omega)) (ef 9 (by omega)) (fun k hk => er k (by omega)) (fun k hk => er _ (by omega)), RT_c h5 (ef 10 (by omega)) (ef 11 (by omega)) (er _ (by omega)) (fun k hk => er _ (by omega)), RE_c h6 (ef 12 (by omega)) (ef 13 (by omega)) (er _ (by omega)) (fun k hk => er _ (by omega)), RZ_c h7 (ef 14 (by omega)) (ef 15 (by omega)) (er _ (by omega)) (fun k hk => er _ (by omega)), by rw [er 37 (by omega)]; exact h8, by rw [er 38 (by omega)]; exact h9⟩
  unfold RS
  simp only [zf_ap, zu_ap, if_true, Nat.reduceEqDiff, if_false]
  exact ⟨h1.1, h1.2.1, trivial, h1.2.2.2.1, h1.2.2.2.2.1, h1.2.2.2.2.2.1, h1.2.2.2.2.2.2.1, h1.2.2.2.2.2.2.2.1, h1.2.2.2.2.2.2.2.2.1, h1.2.2.2.2.2.2.2.2.2⟩
theorem RRs_7 {f : Nat → Nat → Int32} {s0 s1 : Int64} {r : Nat → Int32} (h : RR f s0 s1 r) (v : Int32) (hv : ¬ v = 1) : RR (zf f 0 4 v) s0 s1 (zu r 7 v) := by
  obtain ⟨h1, ⟨h2, h2'⟩, ⟨h3, h3'⟩, h4, h5, h6, h7, h8, h9⟩ := h
  have er : ∀ k, k ≠ 7 → zu r 7 v k = r k := fun k hk => zu_ne hk
  have ef : ∀ k, k ≠ 0 → zf f 0 4 v k = f k := fun k hk => zf_ne hk
  refine ⟨?_, ⟨RO_c h2 (ef 1 (by omega)) (fun k hk => er k (by omega)), RO_c h2' (ef 4 (by omega)) (fun k hk => er k (by omega))⟩, ⟨RV_c h3 (ef 2 (by omega)) (ef 3 (by omega)) (er _ (by omega)) (fun k hk => er _ (by omega)), RV_c h3' (ef 5 (by omega)) (ef 6 (by omega)) (er _ (by omega)) (fun k hk => er _ (by omega))⟩, RB_c h4 (ef 7 (by omega)) (ef 8 (by omega)) (ef 9 (by omega)) (fun k hk => er k (by omega)) (fun k hk => er _ (by omega)), RT_c h5 (ef 10 (by omega)) (ef 11 (by omega)) (er _ (by omega)) (fun k hk => er _ (by omega)), RE_c h6 (ef 12 (by omega)) (ef 13 (by omega)) (er _ (by omega)) (fun k hk => er _ (by omega)), RZ_c h7 (ef 14 (by omega)) (ef 15 (by omega)) (er _ (by omega)) (fun k hk => er _ (by omega)), by rw [er 37 (by omega)]; exact h8, by rw [er 38 (by omega)]; exact h9⟩
  unfold RS
  simp only [zf_ap, zu_ap, if_true, Nat.reduceEqDiff, if_false]
  exact ⟨h1.1, h1.2.1, h1.2.2.1, trivial, fun h => absurd h hv, h1.2.2.2.2.2.1, h1.2.2.2.2.2.2.1, h1.2.2.2.2.2.2.2.1, h1.2.2.2.2.2.2.2.2.1, h1.2.2.2.2.2.2.2.2.2⟩
theorem RRs_9 {f : Nat → Nat → Int32} {s0 s1 : Int64} {r : Nat → Int32} (h : RR f s0 s1 r) (v : Int32) : RR (zf f 0 6 v) s0 s1 (zu r 9 v) := by
  obtain ⟨h1, ⟨h2, h2'⟩, ⟨h3, h3'⟩, h4, h5, h6, h7, h8, h9⟩ := h
  have er : ∀ k, k ≠ 9 → zu r 9 v k = r k := fun k hk => zu_ne hk
  have ef : ∀ k, k ≠ 0 → zf f 0 6 v k = f k := fun k hk => zf_ne hk
  refine ⟨?_, ⟨RO_c h2 (ef 1 (by omega)) (fun k hk => er k (by omega)), RO_c h2' (ef 4 (by omega)) (fun k hk => er k (by omega))⟩, ⟨RV_c h3 (ef 2 (by omega)) (ef 3 (by omega)) (er _ (by omega)) (fun k hk => er _ (by omega)), RV_c h3' (ef 5 (by omega)) (ef 6 (by omega)) (er _ (by omega)) (fun k hk => er _ (by omega))⟩, RB_c h4 (ef 7 (by omega)) (ef 8 (by omega)) (ef 9 (by omega)) (fun k hk => er k (by omega)) (fun k hk => er _ (by omega)), RT_c h5 (ef 10 (by omega)) (ef 11 (by omega)) (er _ (by omega)) (fun k hk => er _ (by omega)), RE_c h6 (ef 12 (by omega)) (ef 13 (by omega)) (er _ (by omega)) (fun k hk => er _ (by omega)), RZ_c h7 (ef 14 (by omega)) (ef 15 (by omega)) (er _ (by omega)) (fun k hk => er _ (by omega)), by rw [er 37 (by omega)]; exact h8, by rw [er 38 (by omega)]; exact h9⟩
  unfold RS
  simp only [zf_ap, zu_ap, if_true, Nat.reduceEqDiff, if_false]
  exact ⟨h1.1, h1.2.1, h1.2.2.1, h1.2.2.2.1, h1.2.2.2.2.1, trivial, h1.2.2.2.2.2.2.1, h1.2.2.2.2.2.2.2.1, h1.2.2.2.2.2.2.2.2.1, h1.2.2.2.2.2.2.2.2.2⟩
theorem RRs_10 {f : Nat → Nat → Int32} {s0 s1 : Int64} {r : Nat → Int32} (h : RR f s0 s1 r) (v : Int32) : RR (zf f 0 7 v) s0 s1 (zu r 10 v) := by
  obtain ⟨h1, ⟨h2, h2'⟩, ⟨h3, h3'⟩, h4, h5, h6, h7, h8, h9⟩ := h
  have er : ∀ k, k ≠ 10 → zu r 10 v k = r k := fun k hk => zu_ne hk
  have ef : ∀ k, k ≠ 0 → zf f 0 7 v k = f k := fun k hk => zf_ne hk
  refine ⟨?_, ⟨RO_c h2 (ef 1 (by omega)) (fun k hk => er k (by omega)), RO_c h2' (ef 4 (by omega)) (fun k hk => er k (by omega))⟩, ⟨RV_c h3 (ef 2 (by omega)) (ef 3 (by omega)) (er _ (by omega)) (fun k hk => er _ (by omega)), RV_c h3' (ef 5 (by omega)) (ef 6 (by omega)) (er _ (by omega)) (fun k hk => er _ (by omega))⟩, RB_c h4 (ef 7 (by omega)) (ef 8 (by omega)) (ef 9 (by omega)) (fun k hk => er k (by omega)) (fun k hk => er _ (by omega)), RT_c h5 (ef 10 (by omega)) (ef 11 (by omega)) (er _ (by omega)) (fun k hk => er _ (by omega)), RE_c h6 (ef 12 (by omega)) (ef 13 (by omega)) (er _ (by omega)) (fun k hk => er _ (by omega)), RZ_c h7 (ef 14 (by omega)) (ef 15 (by omega)) (er _ (by omega)) (fun k hk => er _ (by omega)), by rw [er 37 (by omega)]; exact h8, by rw [er 38 (by omega)]; exact h9⟩
  unfold RS
  simp only [zf_ap, zu_ap, if_true, Nat.reduceEqDiff, if_false]
  exact ⟨h1.1, h1.2.1, h1.2.2.1, h1.2.2.2.1, h1.2.2.2.2.1, h1.2.2.2.2.2.1, trivial, h1.2.2.2.2.2.2.2.1, h1.2.2.2.2.2.2.2.2.1, h1.2.2.2.2.2.2.2.2.2⟩
theorem RRs_15 {f : Nat → Nat → Int32} {s0 s1 : Int64} {r : Nat → Int32} (h : RR f s0 s1 r) (v : Int32) : RR (zf f 0 8 v) s0 s1 (zu r 15 v) := by
  obtain ⟨h1, ⟨h2, h2'⟩, ⟨h3, h3'⟩, h4, h5, h6, h7, h8, h9⟩ := h
  have er : ∀ k, k ≠ 15 → zu r 15 v k = r k := fun k hk => zu_ne hk
  have ef : ∀ k, k ≠ 0 → zf f 0 8 v k = f k := fun k hk => zf_ne hk
  refine ⟨?_, ⟨RO_c h2 (ef 1 (by omega)) (fun k hk => er k (by omega)), RO_c h2' (ef 4 (by omega)) (fun k hk => er k (by omega))⟩, ⟨RV_c h3 (ef 2 (by omega)) (ef 3 (by omega)) (er _ (by omega)) (fun k hk => er _ (by omega)), RV_c h3' (ef 5 (by omega)) (ef 6 (by omega)) (er _ (by omega)) (fun k hk => er _ (by omega))⟩, RB_c h4 (ef 7 (by omega)) (ef 8 (by omega)) (ef 9 (by omega)) (fun k hk => er k (by omega)) (fun k hk => er _ (by omega)), RT_c h5 (ef 10 (by omega)) (ef 11 (by omega)) (er _ (by omega)) (fun k hk => er _ (by omega)), RE_c h6 (ef 12 (by omega)) (ef 13 (by omega)) (er _ (by omega)) (fun k hk => er _ (by omega)), RZ_c h7 (ef 14 (by omega)) (ef 15 (by omega)) (er _ (by omega)) (fun k hk => er _ (by omega)), by rw [er 37 (by omega)]; exact h8, by rw [er 38 (by omega)]; exact h9⟩
  unfold RS
  simp only [zf_ap, zu_ap, if_true, Nat.reduceEqDiff, if_false]
  exact ⟨h1.1, h1.2.1, h1.2.2.1, h1.2.2.2.1, h1.2.2.2.2.1, h1.2.2.2.2.2.1, h1.2.2.2.2.2.2.1, trivial, h1.2.2.2.2.2.2.2.2.1, h1.2.2.2.2.2.2.2.2.2⟩
theorem RRs_16 {f : Nat → Nat → Int32} {s0 s1 : Int64} {r : Nat → Int32} (h : RR f s0 s1 r) (v : Int32) : RR (zf f 0 9 v) s0 s1 (zu r 16 v) := by
  obtain ⟨h1, ⟨h2, h2'⟩, ⟨h3, h3'⟩, h4, h5, h6, h7, h8, h9⟩ := h
  have er : ∀ k, k ≠ 16 → zu r 16 v k = r k := fun k hk => zu_ne hk
  have ef : ∀ k, k ≠ 0 → zf f 0 9 v k = f k := fun k hk => zf_ne hk
  refine ⟨?_, ⟨RO_c h2 (ef 1 (by omega)) (fun k hk => er k (by omega)), RO_c h2' (ef 4 (by omega)) (fun k hk => er k (by omega))⟩, ⟨RV_c h3 (ef 2 (by omega)) (ef 3 (by omega)) (er _ (by omega)) (fun k hk => er _ (by omega)), RV_c h3' (ef 5 (by omega)) (ef 6 (by omega)) (er _ (by omega)) (fun k hk => er _ (by omega))⟩, RB_c h4 (ef 7 (by omega)) (ef 8 (by omega)) (ef 9 (by omega)) (fun k hk => er k (by omega)) (fun k hk => er _ (by omega)), RT_c h5 (ef 10 (by omega)) (ef 11 (by omega)) (er _ (by omega)) (fun k hk => er _ (by omega)), RE_c h6 (ef 12 (by omega)) (ef 13 (by omega)) (er _ (by omega)) (fun k hk => er _ (by omega)), RZ_c h7 (ef 14 (by omega)) (ef 15 (by omega)) (er _ (by omega)) (fun k hk => er _ (by omega)), by rw [er 37 (by omega)]; exact h8, by rw [er 38 (by omega)]; exact h9⟩
  unfold RS
  simp only [zf_ap, zu_ap, if_true, Nat.reduceEqDiff, if_false]
  exact ⟨h1.1, h1.2.1, h1.2.2.1, h1.2.2.2.1, h1.2.2.2.2.1, h1.2.2.2.2.2.1, h1.2.2.2.2.2.2.1, h1.2.2.2.2.2.2.2.1, trivial, h1.2.2.2.2.2.2.2.2.2⟩
theorem RRs_17 {f : Nat → Nat → Int32} {s0 s1 : Int64} {r : Nat → Int32} (h : RR f s0 s1 r) (v : Int32) : RR (zf f 0 10 v) s0 s1 (zu r 17 v) := by
  obtain ⟨h1, ⟨h2, h2'⟩, ⟨h3, h3'⟩, h4, h5, h6, h7, h8, h9⟩ := h
  have er : ∀ k, k ≠ 17 → zu r 17 v k = r k := fun k hk => zu_ne hk
  have ef : ∀ k, k ≠ 0 → zf f 0 10 v k = f k := fun k hk => zf_ne hk
  refine ⟨?_, ⟨RO_c h2 (ef 1 (by omega)) (fun k hk => er k (by omega)), RO_c h2' (ef 4 (by omega)) (fun k hk => er k (by omega))⟩, ⟨RV_c h3 (ef 2 (by omega)) (ef 3 (by omega)) (er _ (by omega)) (fun k hk => er _ (by omega)), RV_c h3' (ef 5 (by omega)) (ef 6 (by omega)) (er _ (by omega)) (fun k hk => er _ (by omega))⟩, RB_c h4 (ef 7 (by omega)) (ef 8 (by omega)) (ef 9 (by omega)) (fun k hk => er k (by omega)) (fun k hk => er _ (by omega)), RT_c h5 (ef 10 (by omega)) (ef 11 (by omega)) (er _ (by omega)) (fun k hk => er _ (by omega)), RE_c h6 (ef 12 (by omega)) (ef 13 (by omega)) (er _ (by omega)) (fun k hk => er _ (by omega)), RZ_c h7 (ef 14 (by omega)) (ef 15 (by omega)) (er _ (by omega)) (fun k hk => er _ (by omega)), by rw [er 37 (by omega)]; exact h8, by rw [er 38 (by omega)]; exact h9⟩
  unfold RS
  simp only [zf_ap, zu_ap, if_true, Nat.reduceEqDiff, if_false]
  exact ⟨h1.1, h1.2.1, h1.2.2.1, h1.2.2.2.1, h1.2.2.2.2.1, h1.2.2.2.2.2.1, h1.2.2.2.2.2.2.1, h1.2.2.2.2.2.2.2.1, h1.2.2.2.2.2.2.2.2.1, trivial⟩
theorem RRs_w {f : Nat → Nat → Int32} {s0 s1 : Int64} {r : Nat → Int32} (h : RR f s0 s1 r) (v : Int32) : RR (zf (zf f 0 4 1) 0 5 v) s0 s1 (zu (zu r 7 1) 8 v) := by
  obtain ⟨h1, ⟨h2, h2'⟩, ⟨h3, h3'⟩, h4, h5, h6, h7, h8, h9⟩ := h
  have er : ∀ k, k ≠ 7 ∧ k ≠ 8 → zu (zu r 7 1) 8 v k = r k := fun k hk => by rw [zu_ne hk.2, zu_ne hk.1]
  have ef : ∀ k, k ≠ 0 → zf (zf f 0 4 1) 0 5 v k = f k := fun k hk => by rw [zf_ne hk, zf_ne hk]
  refine ⟨?_, ⟨RO_c h2 (ef 1 (by omega)) (fun k hk => er k (by omega)), RO_c h2' (ef 4 (by omega)) (fun k hk => er k (by omega))⟩, ⟨RV_c h3 (ef 2 (by omega)) (ef 3 (by omega)) (er _ (by omega)) (fun k hk => er _ (by omega)), RV_c h3' (ef 5 (by omega)) (ef 6 (by omega)) (er _ (by omega)) (fun k hk => er _ (by omega))⟩, RB_c h4 (ef 7 (by omega)) (ef 8 (by omega)) (ef 9 (by omega)) (fun k hk => er k (by omega)) (fun k hk => er _ (by omega)), RT_c h5 (ef 10 (by omega)) (ef 11 (by omega)) (er _ (by omega)) (fun k hk => er _ (by omega)), RE_c h6 (ef 12 (by omega)) (ef 13 (by omega)) (er _ (by omega)) (fun k hk => er _ (by omega)), RZ_c h7 (ef 14 (by omega)) (ef 15 (by omega)) (er _ (by omega)) (fun k hk => er _ (by omega)), by rw [er 37 (by omega)]; exact h8, by rw [er 38 (by omega)]; exact h9⟩
  unfold RS
  simp only [zf_ap, zu_ap, if_true, Nat.reduceEqDiff, if_false]
  exact ⟨h1.1, h1.2.1, h1.2.2.1, trivial, fun _ => trivial, h1.2.2.2.2.2.1, h1.2.2.2.2.2.2.1, h1.2.2.2.2.2.2.2.1, h1.2.2.2.2.2.2.2.2.1, h1.2.2.2.2.2.2.2.2.2⟩
theorem RRs_21 {f : Nat → Nat → Int32} {s0 s1 : Int64} {r : Nat → Int32} (h : RR f s0 s1 r) (v : Int32) : RR (zf f 1 0 v) s0 s1 (zu r 21 v) := by
  obtain ⟨h1, ⟨h2, h2'⟩, ⟨h3, h3'⟩, h4, h5, h6, h7, h8, h9⟩ := h
  have er : ∀ k, k ≠ 21 → zu r 21 v k = r k := fun k hk => zu_ne hk
  have ef : ∀ k, k ≠ 1 → zf f 1 0 v k = f k := fun k hk => zf_ne hk
  refine ⟨RS_c h1 (ef 0 (by omega)) (fun k hk => er k (by omega)), ⟨?_, RO_c h2' (ef 4 (by omega)) (fun k hk => er k (by omega))⟩, ⟨RV_c h3 (ef 2 (by omega)) (ef 3 (by omega)) (er _ (by omega)) (fun k hk => er _ (by omega)), RV_c h3' (ef 5 (by omega)) (ef 6 (by omega)) (er _ (by omega)) (fun k hk => er _ (by omega))⟩, RB_c h4 (ef 7 (by omega)) (ef 8 (by omega)) (ef 9 (by omega)) (fun k hk => er k (by omega)) (fun k hk => er _ (by omega)), RT_c h5 (ef 10 (by omega)) (ef 11 (by omega)) (er _ (by omega)) (fun k hk => er _ (by omega)), RE_c h6 (ef 12 (by omega)) (ef 13 (by omega)) (er _ (by omega)) (fun k hk => er _ (by omega)), RZ_c h7 (ef 14 (by omega)) (ef 15 (by omega)) (er _ (by omega)) (fun k hk => er _ (by omega)), by rw [er 37 (by omega)]; exact h8, by rw [er 38 (by omega)]; exact h9⟩
  unfold RO
  simp only [Nat.mul_zero, Nat.add_zero, Nat.mul_one, Nat.reduceAdd, zf_ap, zu_ap, if_true, Nat.reduceEqDiff, if_false]
  exact ⟨trivial, h2.2.1, h2.2.2.1, h2.2.2.2.1, h2.2.2.2.2.1, h2.2.2.2.2.2⟩
theorem RRs_23 {f : Nat → Nat → Int32} {s0 s1 : Int64} {r : Nat → Int32} (h : RR f s0 s1 r) (v : Int32) : RR (zf f 1 1 v) s0 s1 (zu r 23 v) := by
  obtain ⟨h1, ⟨h2, h2'⟩, ⟨h3, h3'⟩, h4, h5, h6, h7, h8, h9⟩ := h
  have er : ∀ k, k ≠ 23 → zu r 23 v k = r k := fun k hk => zu_ne hk
  have ef : ∀ k, k ≠ 1 → zf f 1 1 v k = f k := fun k hk => zf_ne hk
  refine ⟨RS_c h1 (ef 0 (by omega)) (fun k hk => er k (by omega)), ⟨?_, RO_c h2' (ef 4 (by omega)) (fun k hk => er k (by omega))⟩, ⟨RV_c h3 (ef 2 (by omega)) (ef 3 (by omega)) (er _ (by omega)) (fun k hk => er _ (by omega)), RV_c h3' (ef 5 (by omega)) (ef 6 (by omega)) (er _ (by omega)) (fun k hk => er _ (by omega))⟩, RB_c h4 (ef 7 (by omega)) (ef 8 (by omega)) (ef 9 (by omega)) (fun k hk => er k (by omega)) (fun k hk => er _ (by omega)), RT_c h5 (ef 10 (by omega)) (ef 11 (by omega)) (er _ (by omega)) (fun k hk => er _ (by omega)), RE_c h6 (ef 12 (by omega)) (ef 13 (by omega)) (er _ (by omega)) (fun k hk => er _ (by omega)), RZ_c h7 (ef 14 (by omega)) (ef 15 (by omega)) (er _ (by omega)) (fun k hk => er _ (by omega)), by rw [er 37 (by omega)]; exact h8, by rw [er 38 (by omega)]; exact h9⟩
  unfold RO
  simp only [Nat.mul_zero, Nat.add_zero, Nat.mul_one, Nat.reduceAdd, zf_ap, zu_ap, if_true, Nat.reduceEqDiff, if_false]
  exact ⟨h2.1, trivial, h2.2.2.1, h2.2.2.2.1, h2.2.2.2.2.1, h2.2.2.2.2.2⟩
theorem RRs_27 {f : Nat → Nat → Int32} {s0 s1 : Int64} {r : Nat → Int32} (h : RR f s0 s1 r) (v : Int32) : RR (zf f 1 2 v) s0 s1 (zu r 27 v) := by
  obtain ⟨h1, ⟨h2, h2'⟩, ⟨h3, h3'⟩, h4, h5, h6, h7, h8, h9⟩ := h
  have er : ∀ k, k ≠ 27 → zu r 27 v k = r k := fun k hk => zu_ne hk
  have ef : ∀ k, k ≠ 1 → zf f 1 2 v k = f k := fun k hk => zf_ne hk
  refine ⟨RS_c h1 (ef 0 (by omega)) (fun k hk => er k (by omega)), ⟨?_, RO_c h2' (ef 4 (by omega)) (fun k hk => er k (by omega))⟩, ⟨RV_c h3 (ef 2 (by omega)) (ef 3 (by omega)) (er _ (by omega)) (fun k hk => er _ (by omega)), RV_c h3' (ef 5 (by omega)) (ef 6 (by omega)) (er _ (by omega)) (fun k hk => er _ (by omega))⟩, RB_c h4 (ef 7 (by omega)) (ef 8 (by omega)) (ef 9 (by omega)) (fun k hk => er k (by omega)) (fun k hk => er _ (by omega)), RT_c h5 (ef 10 (by omega)) (ef 11 (by omega)) (er _ (by omega)) (fun k hk => er _ (by omega)), RE_c h6 (ef 12 (by omega)) (ef 13 (by omega)) (er _ (by omega)) (fun k hk => er _ (by omega)), RZ_c h7 (ef 14 (by omega)) (ef 15 (by omega)) (er _ (by omega)) (fun k hk => er _ (by omega)), by rw [er 37 (by omega)]; exact h8, by rw [er 38 (by omega)]; exact h9⟩
  unfold RO
  simp only [Nat.mul_zero, Nat.add_zero, Nat.mul_one, Nat.reduceAdd, zf_ap, zu_ap, if_true, Nat.reduceEqDiff, if_false]
  exact ⟨h2.1, h2.2.1, trivial, h2.2.2.2.1, h2.2.2.2.2.1, h2.2.2.2.2.2⟩
theorem RRs_31 {f : Nat → Nat → Int32} {s0 s1 : Int64} {r : Nat → Int32} (h : RR f s0 s1 r) (v : Int32) : RR (zf f 1 3 v) s0 s1 (zu r 31 v) := by
  obtain ⟨h1, ⟨h2, h2'⟩, ⟨h3, h3'⟩, h4, h5, h6, h7, h8, h9⟩ := h
  have er : ∀ k, k ≠ 31 → zu r 31 v k = r k := fun k hk => zu_ne hk
  have ef : ∀ k, k ≠ 1 → zf f 1 3 v k = f k := fun k hk => zf_ne hk
  refine ⟨RS_c h1 (ef 0 (by omega)) (fun k hk => er k (by omega)), ⟨?_, RO_c h2' (ef 4 (by omega)) (fun k hk => er k (by omega))⟩, ⟨RV_c h3 (ef 2 (by omega)) (ef 3 (by omega)) (er _ (by omega)) (fun k hk => er _ (by omega)), RV_c h3' (ef 5 (by omega)) (ef 6 (by omega)) (er _ (by omega)) (fun k hk => er _ (by omega))⟩, RB_c h4 (ef 7 (by omega)) (ef 8 (by omega)) (ef 9 (by omega)) (fun k hk => er k (by omega)) (fun k hk => er _ (by omega)), RT_c h5 (ef 10 (by omega)) (ef 11 (by omega)) (er _ (by omega)) (fun k hk => er _ (by omega)), RE_c h6 (ef 12 (by omega)) (ef 13 (by omega)) (er _ (by omega)) (fun k hk => er _ (by omega)), RZ_c h7 (ef 14 (by omega)) (ef 15 (by omega)) (er _ (by omega)) (fun k hk => er _ (by omega)), by rw [er 37 (by omega)]; exact h8, by rw [er 38 (by omega)]; exact h9⟩
  unfold RO
  simp only [Nat.mul_zero, Nat.add_zero, Nat.mul_one, Nat.reduceAdd, zf_ap, zu_ap, if_true, Nat.reduceEqDiff, if_false]
  exact ⟨h2.1, h2.2.1, h2.2.2.1, trivial, h2.2.2.2.2.1, h2.2.2.2.2.2⟩
theorem RRs_33 {f : Nat → Nat → Int32} {s0 s1 : Int64} {r : Nat → Int32} (h : RR f s0 s1 r) (v : Int32) : RR (zf f 1 4 v) s0 s1 (zu r 33 v) := by
  obtain ⟨h1, ⟨h2, h2'⟩, ⟨h3, h3'⟩, h4, h5, h6, h7, h8, h9⟩ := h
  have er : ∀ k, k ≠ 33 → zu r 33 v k = r k := fun k hk => zu_ne hk
  have ef : ∀ k, k ≠ 1 → zf f 1 4 v k = f k := fun k hk => zf_ne hk
  refine ⟨RS_c h1 (ef 0 (by omega)) (fun k hk => er k (by omega)), ⟨?_, RO_c h2' (ef 4 (by omega)) (fun k hk => er k (by omega))⟩, ⟨RV_c h3 (ef 2 (by omega)) (ef 3 (by omega)) (er _ (by omega)) (fun k hk => er _ (by omega)), RV_c h3' (ef 5 (by omega)) (ef 6 (by omega)) (er _ (by omega)) (fun k hk => er _ (by omega))⟩, RB_c h4 (ef 7 (by omega)) (ef 8 (by omega)) (ef 9 (by omega)) (fun k hk => er k (by omega)) (fun k hk => er _ (by omega)), RT_c h5 (ef 10 (by omega)) (ef 11 (by omega)) (er _ (by omega)) (fun k hk => er _ (by omega)), RE_c h6 (ef 12 (by omega)) (ef 13 (by omega)) (er _ (by omega)) (fun k hk => er _ (by omega)), RZ_c h7 (ef 14 (by omega)) (ef 15 (by omega)) (er _ (by omega)) (fun k hk => er _ (by omega)), by rw [er 37 (by omega)]; exact h8, by rw [er 38 (by omega)]; exact h9⟩
  unfold RO
  simp only [Nat.mul_zero, Nat.add_zero, Nat.mul_one, Nat.reduceAdd, zf_ap, zu_ap, if_true, Nat.reduceEqDiff, if_false]
  exact ⟨h2.1, h2.2.1, h2.2.2.1, h2.2.2.2.1, trivial, h2.2.2.2.2.2⟩
theorem RRs_35 {f : Nat → Nat → Int32} {s0 s1 : Int64} {r : Nat → Int32} (h : RR f s0 s1 r) (v : Int32) : RR (zf f 1 5 v) s0 s1 (zu r 35 v) := by
  obtain ⟨h1, ⟨h2, h2'⟩, ⟨h3, h3'⟩, h4, h5, h6, h7, h8, h9⟩ := h
  have er : ∀ k, k ≠ 35 → zu r 35 v k = r k := fun k hk => zu_ne hk
  have ef : ∀ k, k ≠ 1 → zf f 1 5 v k = f k := fun k hk => zf_ne hk
  refine ⟨RS_c h1 (ef 0 (by omega)) (fun k hk => er k (by omega)), ⟨?_, RO_c h2' (ef 4 (by omega)) (fun k hk => er k (by omega))⟩, ⟨RV_c h3 (ef 2 (by omega)) (ef 3 (by omega)) (er _ (by omega)) (fun k hk => er _ (by omega)), RV_c h3' (ef 5 (by omega)) (ef 6 (by omega)) (er _ (by omega)) (fun k hk => er _ (by omega))⟩, RB_c h4 (ef 7 (by omega)) (ef 8 (by omega)) (ef 9 (by omega)) (fun k hk => er k (by omega)) (fun k hk => er _ (by omega)), RT_c h5 (ef 10 (by omega)) (ef 11 (by omega)) (er _ (by omega)) (fun k hk => er _ (by omega)), RE_c h6 (ef 12 (by omega)) (ef 13 (by omega)) (er _ (by omega)) (fun k hk => er _ (by omega)), RZ_c h7 (ef 14 (by omega)) (ef 15 (by omega)) (er _ (by omega)) (fun k hk => er _ (by omega)), by rw [er 37 (by omega)]; exact h8, by rw [er 38 (by omega)]; exact h9⟩
  unfold RO
  simp only [Nat.mul_zero, Nat.add_zero, Nat.mul_one, Nat.reduceAdd, zf_ap, zu_ap, if_true, Nat.reduceEqDiff, if_false]
  exact ⟨h2.1, h2.2.1, h2.2.2.1, h2.2.2.2.1, h2.2.2.2.2.1, trivial⟩
theorem RRs_22 {f : Nat → Nat → Int32} {s0 s1 : Int64} {r : Nat → Int32} (h : RR f s0 s1 r) (v : Int32) : RR (zf f 4 0 v) s0 s1 (zu r 22 v) := by
  obtain ⟨h1, ⟨h2, h2'⟩, ⟨h3, h3'⟩, h4, h5, h6, h7, h8, h9⟩ := h
  have er : ∀ k, k ≠ 22 → zu r 22 v k = r k := fun k hk => zu_ne hk
  have ef : ∀ k, k ≠ 4 → zf f 4 0 v k = f k := fun k hk => zf_ne hk
  refine ⟨RS_c h1 (ef 0 (by omega)) (fun k hk => er k (by omega)), ⟨RO_c h2 (ef 1 (by omega)) (fun k hk => er k (by omega)), ?_⟩, ⟨RV_c h3 (ef 2 (by omega)) (ef 3 (by omega)) (er _ (by omega)) (fun k hk => er _ (by omega)), RV_c h3' (ef 5 (by omega)) (ef 6 (by omega)) (er _ (by omega)) (fun k hk => er _ (by omega))⟩, RB_c h4 (ef 7 (by omega)) (ef 8 (by omega)) (ef 9 (by omega)) (fun k hk => er k (by omega)) (fun k hk => er _ (by omega)), RT_c h5 (ef 10 (by omega)) (ef 11 (by omega)) (er _ (by omega)) (fun k hk => er _ (by omega)), RE_c h6 (ef 12 (by omega)) (ef 13 (by omega)) (er _ (by omega)) (fun k hk => er _ (by omega)), RZ_c h7 (ef 14 (by omega)) (ef 15 (by omega)) (er _ (by omega)) (fun k hk => er _ (by omega)), by rw [er 37 (by omega)]; exact h8, by rw [er 38 (by omega)]; exact h9⟩
  unfold RO
  simp only [Nat.mul_zero, Nat.add_zero, Nat.mul_one, Nat.reduceAdd, zf_ap, zu_ap, if_true, Nat.reduceEqDiff, if_false]
  exact ⟨trivial, h2'.2.1, h2'.2.2.1, h2'.2.2.2.1, h2'.2.2.2.2.1, h2'.2.2.2.2.2⟩
theorem RRs_24 {f : Nat → Nat → Int32} {s0 s1 : Int64} {r : Nat → Int32} (h : RR f s0 s1 r) (v : Int32) : RR (zf f 4 1 v) s0 s1 (zu r 24 v) := by
  obtain ⟨h1, ⟨h2, h2'⟩, ⟨h3, h3'⟩, h4, h5, h6, h7, h8, h9⟩ := h
  have er : ∀ k, k ≠ 24 → zu r 24 v k = r k := fun k hk => zu_ne hk
  have ef : ∀ k, k ≠ 4 → zf f 4 1 v k = f k := fun k hk => zf_ne hk
  refine ⟨RS_c h1 (ef 0 (by omega)) (fun k hk => er k (by omega)), ⟨RO_c h2 (ef 1 (by omega)) (fun k hk => er k (by omega)), ?_⟩, ⟨RV_c h3 (ef 2 (by omega)) (ef 3 (by omega)) (er _ (by omega)) (fun k hk => er _ (by omega)), RV_c h3' (ef 5 (by omega)) (ef 6 (by omega)) (er _ (by omega)) (fun k hk => er _ (by omega))⟩, RB_c h4 (ef 7 (by omega)) (ef 8 (by omega)) (ef 9 (by omega)) (fun k hk => er k (by omega)) (fun k hk => er _ (by omega)), RT_c h5 (ef 10 (by omega)) (ef 11 (by omega)) (er _ (by omega)) (fun k hk => er _ (by omega)), RE_c h6 (ef 12 (by omega)) (ef 13 (by omega)) (er _ (by omega)) (fun k hk => er _ (by omega)), RZ_c h7 (ef 14 (by omega)) (ef 15 (by omega)) (er _ (by omega)) (fun k hk => er _ (by omega)), by rw [er 37 (by omega)]; exact h8, by rw [er 38 (by omega)]; exact h9⟩
  unfold RO
  simp only [Nat.mul_zero, Nat.add_zero, Nat.mul_one, Nat.reduceAdd, zf_ap, zu_ap, if_true, Nat.reduceEqDiff, if_false]
  exact ⟨h2'.1, trivial, h2'.2.2.1, h2'.2.2.2.1, h2'.2.2.2.2.1, h2'.2.2.2.2.2⟩
theorem RRs_28 {f : Nat → Nat → Int32} {s0 s1 : Int64} {r : Nat → Int32} (h : RR f s0 s1 r) (v : Int32) : RR (zf f 4 2 v) s0 s1 (zu r 28 v) := by
  obtain ⟨h1, ⟨h2, h2'⟩, ⟨h3, h3'⟩, h4, h5, h6, h7, h8, h9⟩ := h
  have er : ∀ k, k ≠ 28 → zu r 28 v k = r k := fun k hk => zu_ne hk
  have ef : ∀ k, k ≠ 4 → zf f 4 2 v k = f k := fun k hk => zf_ne hk
  refine ⟨RS_c h1 (ef 0 (by omega)) (fun k hk => er k (by omega)), ⟨RO_c h2 (ef 1 (by omega)) (fun k hk => er k (by omega)), ?_⟩, ⟨RV_c h3 (ef 2 (by omega)) (ef 3 (by omega)) (er _ (by omega)) (fun k hk => er _ (by omega)), RV_c h3' (ef 5 (by omega)) (ef 6 (by omega)) (er _ (by omega)) (fun k hk => er _ (by omega))⟩, RB_c h4 (ef 7 (by omega)) (ef 8 (by omega)) (ef 9 (by omega)) (fun k hk => er k (by omega)) (fun k hk => er _ (by omega)), RT_c h5 (ef 10 (by omega)) (ef 11 (by omega)) (er _ (by omega)) (fun k hk => er _ (by omega)), RE_c h6 (ef 12 (by omega)) (ef 13 (by omega)) (er _ (by omega)) (fun k hk => er _ (by omega)), RZ_c h7 (ef 14 (by omega)) (ef 15 (by omega)) (er _ (by omega)) (fun k hk => er _ (by omega)), by rw [er 37 (by omega)]; exact h8, by rw [er 38 (by omega)]; exact h9⟩
  unfold RO
  simp only [Nat.mul_zero, Nat.add_zero, Nat.mul_one, Nat.reduceAdd, zf_ap, zu_ap, if_true, Nat.reduceEqDiff, if_false]
  exact ⟨h2'.1, h2'.2.1, trivial, h2'.2.2.2.1, h2'.2.2.2.2.1, h2'.2.2.2.2.2⟩
theorem RRs_32 {f : Nat → Nat → Int32} {s0 s1 : Int64} {r : Nat → Int32} (h : RR f s0 s1 r) (v : Int32) : RR (zf f 4 3 v) s0 s1 (zu r 32 v) := by
  obtain ⟨h1, ⟨h2, h2'⟩, ⟨h3, h3'⟩, h4, h5, h6, h7, h8, h9⟩ := h
  have er : ∀ k, k ≠ 32 → zu r 32 v k = r k := fun k hk => zu_ne hk
  have ef : ∀ k, k ≠ 4 → zf f 4 3 v k = f k := fun k hk => zf_ne hk
  refine ⟨RS_c h1 (ef 0 (by omega)) (fun k hk => er k (by omega)), ⟨RO_c h2 (ef 1 (by omega)) (fun k hk => er k (by omega)), ?_⟩, ⟨RV_c h3 (ef 2 (by omega)) (ef 3 (by omega)) (er _ (by omega)) (fun k hk => er _ (by omega)), RV_c h3' (ef 5 (by omega)) (ef 6 (by omega)) (er _ (by omega)) (fun k hk => er _ (by omega))⟩, RB_c h4 (ef 7 (by omega)) (ef 8 (by omega)) (ef 9 (by omega)) (fun k hk => er k (by omega)) (fun k hk => er _ (by omega)), RT_c h5 (ef 10 (by omega)) (ef 11 (by omega)) (er _ (by omega)) (fun k hk => er _ (by omega)), RE_c h6 (ef 12 (by omega)) (ef 13 (by omega)) (er _ (by omega)) (fun k hk => er _ (by omega)), RZ_c h7 (ef 14 (by omega)) (ef 15 (by omega)) (er _ (by omega)) (fun k hk => er _ (by omega)), by rw [er 37 (by omega)]; exact h8, by rw [er 38 (by omega)]; exact h9⟩
  unfold RO
  simp only [Nat.mul_zero, Nat.add_zero, Nat.mul_one, Nat.reduceAdd, zf_ap, zu_ap, if_true, Nat.reduceEqDiff, if_false]
  exact ⟨h2'.1, h2'.2.1, h2'.2.2.1, trivial, h2'.2.2.2.2.1, h2'.2.2.2.2.2⟩
theorem RRs_34 {f : Nat → Nat → Int32} {s0 s1 : Int64} {r : Nat → Int32} (h : RR f s0 s1 r) (v : Int32) : RR (zf f 4 4 v) s0 s1 (zu r 34 v) := by
  obtain ⟨h1, ⟨h2, h2'⟩, ⟨h3, h3'⟩, h4, h5, h6, h7, h8, h9⟩ := h
  have er : ∀ k, k ≠ 34 → zu r 34 v k = r k := fun k hk => zu_ne hk
  have ef : ∀ k, k ≠ 4 → zf f 4 4 v k = f k := fun k hk => zf_ne hk
  refine ⟨RS_c h1 (ef 0 (by omega)) (fun k hk => er k (by omega)), ⟨RO_c h2 (ef 1 (by omega)) (fun k hk => er k (by omega)), ?_⟩, ⟨RV_c h3 (ef 2 (by omega)) (ef 3 (by omega)) (er _ (by omega)) (fun k hk => er _ (by omega)), RV_c h3' (ef 5 (by omega)) (ef 6 (by omega)) (er _ (by omega)) (fun k hk => er _ (by omega))⟩, RB_c h4 (ef 7 (by omega)) (ef 8 (by omega)) (ef 9 (by omega)) (fun k hk => er k (by omega)) (fun k hk => er _ (by omega)), RT_c h5 (ef 10 (by omega)) (ef 11 (by omega)) (er _ (by omega)) (fun k hk => er _ (by omega)), RE_c h6 (ef 12 (by omega)) (ef 13 (by omega)) (er _ (by omega)) (fun k hk => er _ (by omega)), RZ_c h7 (ef 14 (by omega)) (ef 15 (by omega)) (er _ (by omega)) (fun k hk => er _ (by omega)), by rw [er 37 (by omega)]; exact h8, by rw [er 38 (by omega)]; exact h9⟩
  unfold RO
  simp only [Nat.mul_zero, Nat.add_zero, Nat.mul_one, Nat.reduceAdd, zf_ap, zu_ap, if_true, Nat.reduceEqDiff, if_false]
  exact ⟨h2'.1, h2'.2.1, h2'.2.2.1, h2'.2.2.2.1, trivial, h2'.2.2.2.2.2⟩
theorem RRs_36 {f : Nat → Nat → Int32} {s0 s1 : Int64} {r : Nat → Int32} (h : RR f s0 s1 r) (v : Int32) : RR (zf f 4 5 v) s0 s1 (zu r 36 v) := by
  obtain ⟨h1, ⟨h2, h2'⟩, ⟨h3, h3'⟩, h4, h5, h6, h7, h8, h9⟩ := h
  have er : ∀ k, k ≠ 36 → zu r 36 v k = r k := fun k hk => zu_ne hk
  have ef : ∀ k, k ≠ 4 → zf f 4 5 v k = f k := fun k hk => zf_ne hk
  refine ⟨RS_c h1 (ef 0 (by omega)) (fun k hk => er k (by omega)), ⟨RO_c h2 (ef 1 (by omega)) (fun k hk => er k (by omega)), ?_⟩, ⟨RV_c h3 (ef 2 (by omega)) (ef 3 (by omega)) (er _ (by omega)) (fun k hk => er _ (by omega)), RV_c h3' (ef 5 (by omega)) (ef 6 (by omega)) (er _ (by omega)) (fun k hk => er _ (by omega))⟩, RB_c h4 (ef 7 (by omega)) (ef 8 (by omega)) (ef 9 (by omega)) (fun k hk => er k (by omega)) (fun k hk => er _ (by omega)), RT_c h5 (ef 10 (by omega)) (ef 11 (by omega)) (er _ (by omega)) (fun k hk => er _ (by omega)), RE_c h6 (ef 12 (by omega)) (ef 13 (by omega)) (er _ (by omega)) (fun k hk => er _ (by omega)), RZ_c h7 (ef 14 (by omega)) (ef 15 (by omega)) (er _ (by omega)) (fun k hk => er _ (by omega)), by rw [er 37 (by omega)]; exact h8, by rw [er 38 (by omega)]; exact h9⟩
  unfold RO
  simp only [Nat.mul_zero, Nat.add_zero, Nat.mul_one, Nat.reduceAdd, zf_ap, zu_ap, if_true, Nat.reduceEqDiff, if_false]
  exact ⟨h2'.1, h2'.2.1, h2'.2.2.1, h2'.2.2.2.1, h2'.2.2.2.2.1, trivial⟩
theorem rPut_zu (r : Nat → Int32) {b cnt k : Nat} {v x y z : Int32} (h1 : k ≠ cnt) (h2 : ¬ (b + 3 * (r cnt).toNatClampNeg ≤ k ∧ k < b + 3 * (r cnt).toNatClampNeg + 3)) : rPut (zu r k v) b cnt x y z = zu (rPut r b cnt x y z) k v := by
  have hc : zu r k v cnt = r cnt := zu_ne (Ne.symm h1)
  funext j
  unfold rPut
  rw [hc]
  by_cases hj : j = k
  · subst hj
    rw [zu_self, zu_ne h1, zu_ne (by omega), zu_ne (by omega), zu_ne (by omega), zu_self]
  · rw [zu_ne hj]
    simp only [zu_ap]
    rw [if_neg hj]
theorem rNotes_zu (r : Nat → Int32) {k : Nat} {v x y : Int32} (h0 : 0 ≤ (r 18).toInt ∧ (r 18).toInt ≤ 40) (h5 : k ≠ 5) (h1 : k ≠ 18) (h2 : ¬ (99 ≤ k ∧ k < 219)) : rNotes (zu r k v) x y = zu (rNotes r x y) k v := by
  have c0 := ncl h0.1
  have e18 : zu r k v 18 = r 18 := zu_ne (Ne.symm h1)
  have e5 : zu r k v 5 = r 5 := zu_ne (Ne.symm h5)
  unfold rNotes
  rw [e18, e5]
  by_cases h : r 18 = 40
  · rw [if_pos h, if_pos h]
    have hc : rCut (zu r k v) = zu (rCut r) k v := by
      unfold rCut zcut
      rw [e18]
      funext j
      by_cases hj : j = 18
      · subst hj; rw [zu_self, zu_ne (Ne.symm h1), zu_self]
      · rw [zu_ne hj]
        by_cases hk : j = k
        · subst hk; rw [zu_self, if_neg (by omega), zu_self]
        · rw [zu_ne hk, zu_ne hk, zu_ne hj]
          by_cases h9 : 99 ≤ j ∧ j < 99 + 117
          · rw [if_pos h9, if_pos h9, zu_ne (by omega)]
          · rw [if_neg h9, if_neg h9]
    rw [hc]
    have e : (rCut r 18).toNatClampNeg = 39 := by
      unfold rCut
      rw [zu_self, h]
      decide
    exact rPut_zu _ h1 (by rw [e]; omega)
  · rw [if_neg h, if_neg h]
    have h9 : (r 18).toInt ≠ 40 := fun e => h (by rw [neq, e]; rfl)
    exact rPut_zu _ h1 (by omega)
theorem rNotes_ends (r : Nat → Int32) {x y : Int32} (h0 : 0 ≤ (r 18).toInt ∧ (r 18).toInt ≤ 40) : rNotes (rEnds r) x y = rEnds (rNotes r x y) := by
  have e : ∀ (r' : Nat → Int32) (k : Nat) (v : Int32), k ≠ 18 → r' 18 = r 18 → zu r' k v 18 = r 18 := fun r' k v hk he => by rw [zu_ne (Ne.symm hk)]; exact he
  unfold rEnds rClears
  rw [rNotes_zu _ (by simp only [zu_ap, Nat.reduceEqDiff, if_false]; exact h0) (by decide) (by decide) (by decide),
    rNotes_zu _ (by simp only [zu_ap, Nat.reduceEqDiff, if_false]; exact h0) (by decide) (by decide) (by decide),
    rNotes_zu _ (by simp only [zu_ap, Nat.reduceEqDiff, if_false]; exact h0) (by decide) (by decide) (by decide),
    rNotes_zu _ (by simp only [zu_ap, Nat.reduceEqDiff, if_false]; exact h0) (by decide) (by decide) (by decide),
    rNotes_zu _ (by simp only [zu_ap, Nat.reduceEqDiff, if_false]; exact h0) (by decide) (by decide) (by decide),
    rNotes_zu _ (by simp only [zu_ap, Nat.reduceEqDiff, if_false]; exact h0) (by decide) (by decide) (by decide),
    rNotes_zu _ (by simp only [zu_ap, Nat.reduceEqDiff, if_false]; exact h0) (by decide) (by decide) (by decide),
    rNotes_zu _ (by simp only [zu_ap, Nat.reduceEqDiff, if_false]; exact h0) (by decide) (by decide) (by decide),
    rNotes_zu _ h0 (by decide) (by decide) (by decide)]
/-- the plan of a machine, over the base store -/
def zPl (σ : zS) (ln : Nat → Nat) (p : Nat) (r : Nat → Int32) : Prop := (gi σ p 0 = r 0 ∧ gi σ p 1 = r 1 ∧ gi σ p 3 = r 3 ∧ gi σ p 4 = r 4) ∧ (gr σ p 6 = some (p + 3) ∧ gr σ p 7 = some (p + 65)) ∧ (gi σ (p + 3) 2 = r 25 ∧ gi σ (p + 65) 2 = r 26) ∧ (gr σ (p + 3) 3 = some (p + 4) ∧ gr σ (p + 65) 3 = some (p + 66) ∧ ln (p + 4) = 12 ∧ ln (p + 66) = 12) ∧ ∀ q, q < 2 → ∀ k, k < 12 → (gr σ (p + 4 + 62 * q) k = some (p + 5 + 62 * q + 5 * k) ∧ gr σ (p + 5 + 62 * q + 5 * k) 1 = some (p + 8 + 62 * q + 5 * k) ∧ gr σ (p + 8 + 62 * q + 5 * k) 0 = some (p + 9 + 62 * q + 5 * k) ∧ ln (p + 9 + 62 * q + 5 * k) = 62) ∧ ((k : Int) < (r (25 + q)).toInt → gi σ (p + 8 + 62 * q + 5 * k) 1 = nI (rPath r (12 * q + k)).length ∧ ∀ j, j < (rPath r (12 * q + k)).length → gi σ (p + 9 + 62 * q + 5 * k) j = (rPath r (12 * q + k)).getD j 0)
def zkp (r r' : Nat → Int32) : Prop := ∀ k, (k ≤ 4 ∧ k ≠ 2 ∨ k = 25 ∨ k = 26 ∨ (219 ≤ k ∧ k < 963)) → r' k = r k
theorem zkp.rf {r : Nat → Int32} : zkp r r := fun _ _ => rfl
theorem zkp.tr {r r' r'' : Nat → Int32} (h : zkp r r') (h2 : zkp r' r'') : zkp r r'' := fun k hk => (h2 k hk).trans (h k hk)
theorem zkp.path {r r' : Nat → Int32} (h : zkp r r') {a : Nat} (ha : a < 24) (hl : (r (219 + a)).toInt ≤ 30) : rPath r' a = rPath r a := by
  have hlen : r' (219 + a) = r (219 + a) := h _ (by omega)
  have h0 : r' 0 = r 0 := h 0 (by omega)
  have hn : (r (219 + a)).toNatClampNeg ≤ 30 := by rw [ncln]; omega
  have hc : ∀ k, k < 30 → rChr r' a k = rChr r a k := fun k hk => h _ (by omega)
  have he : ∀ m, m ≤ 30 → zenc (rChr r' a) m = zenc (rChr r a) m := by
    intro m
    induction m with
    | zero => intro _; rfl
    | succ m ih =>
      intro hm
      rw [zenc, zenc, ih (by omega), hc m (by omega)]
  unfold rPath zpath
  rw [hlen, h0, he _ hn]
theorem zPl.c {σ : zS} {ln : Nat → Nat} {p : Nat} {r r' : Nat → Int32} (h : zPl σ ln p r) (e : zkp r r') (hW : zW r) : zPl σ ln p r' := by
  obtain ⟨⟨a1, a2, a3, a4⟩, b1, ⟨c1, c2⟩, d1, e1⟩ := h
  unfold zPl
  rw [e 0 (by omega), e 1 (by omega), e 3 (by omega), e 4 (by omega), e 25 (by omega), e 26 (by omega)]
  refine ⟨⟨a1, a2, a3, a4⟩, b1, ⟨c1, c2⟩, d1, fun q hq k hk => ⟨(e1 q hq k hk).1, fun hk2 => ?_⟩⟩
  rw [e (25 + q) (by omega)] at hk2
  rw [e.path (by omega) (hW.len _ (by omega)).2]
  exact (e1 q hq k hk).2 hk2

/-! from 64.keeps -/
/-! what the steps keep: the plan's part of the row -/
def zsk (k : Nat) : Prop := k ≤ 4 ∧ k ≠ 2 ∨ k = 25 ∨ k = 26 ∨ (219 ≤ k ∧ k < 963)
theorem zkp_zu {r r' : Nat → Int32} (h : zkp r r') {k : Nat} (hk : ¬ zsk k) (v : Int32) : zkp r (zu r' k v) := fun j hj => by
  have hne : j ≠ k := fun e => by
    subst e
    exact hk hj
  rw [zu_ne hne]
  exact h j hj
theorem nsk {k : Nat} (h : k = 2 ∨ (5 ≤ k ∧ k ≤ 24) ∨ (27 ≤ k ∧ k < 219) ∨ 963 ≤ k) : ¬ zsk k := by unfold zsk; omega
theorem zkp_clears {r r' : Nat → Int32} (h : zkp r r') : zkp r (rClears r') := zkp_zu (zkp_zu (zkp_zu (zkp_zu h (nsk (by omega)) _) (nsk (by omega)) _) (nsk (by omega)) _) (nsk (by omega)) _
theorem zkp_ends {r r' : Nat → Int32} (h : zkp r r') : zkp r (rEnds r') := zkp_clears (zkp_zu (zkp_zu (zkp_zu (zkp_zu (zkp_zu h (nsk (by omega)) _) (nsk (by omega)) _) (nsk (by omega)) _) (nsk (by omega)) _) (nsk (by omega)) _)
theorem zkp_begins {r r' : Nat → Int32} (h : zkp r r') : zkp r (rBegins r') := zkp_zu (zkp_zu h (nsk (by omega)) _) (nsk (by omega)) _
theorem zkp_notes {r r' : Nat → Int32} (h : zkp r r') (hb : 0 ≤ (r' 18).toInt ∧ (r' 18).toInt ≤ 40) {x y : Int32} : zkp r (rNotes r' x y) := fun j hj => (rNotes_out r' hb.1 hb.2 (by omega) (by omega)).trans (h j hj)
theorem zkp_sends {r r' : Nat → Int32} (h : zkp r r') {x y : Int32} : zkp r (rSends r' x y) := fun j hj => (rPut_out r' (by omega) (by omega)).trans (h j hj)
theorem zkp_done {r r' : Nat → Int32} (h : zkp r r') {q : Nat} (hq : q ≤ 1) : zkp r (rDone r' q) := zkp_zu (zkp_zu h (nsk (by omega)) _) (nsk (by omega)) _
theorem zkp_lineDone {r r' : Nat → Int32} (h : zkp r r') (h6 : r' 6 = 0 ∨ r' 6 = 1) (hb : 0 ≤ (r' 18).toInt ∧ (r' 18).toInt ≤ 40) : zkp r (rLineDone r') := by
  have hq : zo r' ≤ 1 := by
    unfold zo
    rcases h6 with e | e <;> rw [e] <;> decide
  unfold rLineDone
  split
  · refine zkp_notes (zkp_ends (zkp_done h hq)) ?_
    unfold rEnds rClears rDone
    rw [zu_ne (by decide), zu_ne (by decide), zu_ne (by decide), zu_ne (by decide), zu_ne (by decide), zu_ne (by decide), zu_ne (by decide), zu_ne (by decide), zu_ne (by decide), zu_ne (by decide), zu_ne (by omega)]
    exact hb
  · exact zkp_begins (zkp_done h hq)
theorem zkp_lineFailed {r r' : Nat → Int32} (h : zkp r r') (h6 : r' 6 = 0 ∨ r' 6 = 1) (hb : 0 ≤ (r' 18).toInt ∧ (r' 18).toInt ≤ 40) : zkp r (rLineFailed r') := by
  unfold rLineFailed
  split
  · exact zkp_lineDone (zkp_notes h hb) (by rw [rNotes_out r' hb.1 hb.2 (by decide) (by decide)]; exact h6) (rNotes_18 r' _ _ hb.1 hb.2)
  · refine zkp_notes (zkp_begins (zkp_zu h (nsk (by omega)) _)) ?_
    unfold rBegins
    rw [zu_ne (by decide), zu_ne (by decide), zu_ne (by decide)]
    exact hb
theorem zkp_answers {r r' : Nat → Int32} (h : zkp r r') (h6 : r' 6 = 0 ∨ r' 6 = 1) (hb : 0 ≤ (r' 18).toInt ∧ (r' 18).toInt ≤ 40) (b : Bool) : zkp r (rAnswers r' b) := by
  unfold rAnswers
  split
  · exact h
  · split
    · exact zkp_lineDone h h6 hb
    · exact zkp_lineFailed h h6 hb
theorem zkp_breaks {r r' : Nat → Int32} (h : zkp r r') (hb : 0 ≤ (r' 18).toInt ∧ (r' 18).toInt ≤ 40) : zkp r (rBreaks r') := by
  refine zkp_notes (zkp_ends h) ?_
  unfold rEnds rClears
  rw [zu_ne (by decide), zu_ne (by decide), zu_ne (by decide), zu_ne (by decide), zu_ne (by decide), zu_ne (by decide), zu_ne (by decide), zu_ne (by decide), zu_ne (by decide)]
  exact hb
theorem zkp_receives {r r' : Nat → Int32} (h : zkp r r') {q : Nat} (hq : q ≤ 1) (c : Int32) : zkp r (rReceives r' q c) := by
  unfold rReceives
  split
  · exact h
  · exact zkp_zu (zkp_zu h (nsk (by omega)) _) (nsk (by omega)) _
theorem zkp_recvs {r r' : Nat → Int32} (h : zkp r r') {q : Nat} (hq : q ≤ 1) : ∀ k, zkp r (rRecvs r' q k)
  | 0 => h
  | k + 1 => zkp_receives (zkp_recvs h hq k) hq _
theorem zkp_checks {r r' : Nat → Int32} (h : zkp r r') {q : Nat} (hq : q ≤ 1) (hb : 0 ≤ (r' 18).toInt ∧ (r' 18).toInt ≤ 40) (p : Int32) : zkp r (rChecks r' q p) := by
  unfold rChecks
  split
  · exact zkp_clears (zkp_sends (zkp_receives (zkp_recvs (zkp_notes h hb) hq _) hq _))
  · exact zkp_clears (zkp_sends (zkp_notes h hb))
theorem zkp_means {r r' : Nat → Int32} (h : zkp r r') {q : Nat} (hq : q ≤ 1) (hW : zW r') (p : Int32) : zkp r (rMeans r' q p) := by
  obtain ⟨nb, -⟩ := hW.bn
  unfold rMeans
  split
  · exact zkp_checks h hq hW.e p
  · split
    · exact zkp_zu h (nsk (by omega)) _
    · unfold rTake rCount rLetter
      split
      · split
        · exact zkp_zu h (nsk (by omega)) _
        · exact zkp_zu (zkp_zu (zkp_zu h (nsk (by omega)) _) (nsk (by omega)) _) (nsk (by omega)) _
      · exact zkp_zu (zkp_zu h (nsk (by omega)) _) (nsk (by omega)) _
theorem zkp_printed {r r' : Nat → Int32} (h : zkp r r') {q : Nat} (hq : q ≤ 1) (pos : Int32) : zkp r (rPrinted r' q pos) := by
  have h1 : zkp r (rPc (rTurned r' q (pClamp (rOff r' q) (r' 2))) q (rOff r' q)) := zkp_zu (zkp_zu (zkp_zu h (nsk (by omega)) _) (nsk (by omega)) _) (nsk (by omega)) _
  unfold rPrinted
  generalize rPc (rTurned r' q (pClamp (rOff r' q) (r' 2))) q (rOff r' q) = r1 at h1 ⊢
  have h2 : zkp r (rP2 r1 q (pAbs (rOff r' q))) := by
    unfold rP2
    split
    · exact h1
    · exact zkp_zu h1 (nsk (by omega)) _
  generalize rP2 r1 q (pAbs (rOff r' q)) = r2 at h2 ⊢
  unfold rP3
  split
  · exact h2
  · exact zkp_zu h2 (nsk (by omega)) _
theorem zkp_prints {r r' : Nat → Int32} (h : zkp r r') {q : Nat} (hq : q = 0 ∨ q = 1) (hW : zW r') (pos : Int32) : zkp r (rPrints r' q pos) :=
  zkp_means (zkp_zu (zkp_printed h (by omega) pos) (nsk (by omega)) _) (by omega) (zW_out (zW_printed hW hq pos).1 (nk (by omega)) _) _
theorem zkp_pop {r r' : Nat → Int32} (h : zkp r r') : zkp r (rPop r') := fun j hj => by
  unfold rPop
  rw [zcut_out _ (by omega), zu_ne (by omega)]
  exact h j hj
theorem zkp_entry {r r' : Nat → Int32} (h : zkp r r') (hW : zW r') (h6 : r' 6 = 0 ∨ r' 6 = 1) (w v : Int32) : zkp r (rEntry r' w v) := by
  obtain ⟨q, hq, e, ho⟩ := zW.ho h6
  unfold rEntry zq
  rw [← e]
  split
  · exact zkp_prints h hq hW v
  · split
    · exact zkp_answers h h6 hW.e true
    · split
      · exact zkp_answers h h6 hW.e false
      · exact zkp_breaks h hW.e
theorem zkp_tick0 {r : Nat → Int32} : zkp r (rTick0 r) := zkp_zu (zkp_zu (zkp_zu (fun _ _ => rfl) (nsk (by omega)) _) (nsk (by omega)) _) (nsk (by omega)) _
theorem zkp_looks {r r' : Nat → Int32} (h : zkp r r') : zkp r (rLooks r') := by
  unfold rLooks
  split
  · exact h
  · split
    · exact h
    · have h1 : zkp r (rCnt r') := zkp_zu h (nsk (by omega)) _
      have h2 : zkp r (rSnd (rCnt r') (rPosn r')) := by
        unfold rSnd
        split
        · exact zkp_zu h1 (nsk (by omega)) _
        · exact zkp_sends h1
      unfold rNext rEndL
      have h3 : zkp r (zu (rSnd (rCnt r') (rPosn r')) 9 (rSnd (rCnt r') (rPosn r') 9 + 1)) := zkp_zu h2 (nsk (by omega)) _
      generalize zu (rSnd (rCnt r') (rPosn r')) 9 (rSnd (rCnt r') (rPosn r') 9 + 1) = r3 at h3 ⊢
      split
      · exact zkp_zu (zkp_zu h3 (nsk (by omega)) _) (nsk (by omega)) _
      · exact h3
theorem zkp_T1 {r r' : Nat → Int32} (h : zkp r r') (hW : zW r') : zkp r (rT1 r') := by
  unfold rT1
  split
  · exact h
  · split
    · split
      · exact h
      · exact zkp_lineFailed h (hW.h6 (by assumption)) hW.e
    · exact h
theorem zkp_T2 {r r' : Nat → Int32} (h : zkp r r') : zkp r (rT2 r') := by
  unfold rT2
  split
  · exact h
  · split
    · exact h
    · exact zkp_clears h

/-! from 65.endline -/
/-! THE CLASS'S STEPS: lines that end, signals -/
theorem C_eventB {ln : Nat → Nat} {σ : zS} {b : Nat} {f : Nat → Nat → Int32} {s0 s1 : Int64} {r : Nat → Int32} (S : zMs (gr σ) ln b) (h : RR f s0 s1 r) (hn : (r 11).toNatClampNeg ≤ 40 ∧ (r 20).toNatClampNeg ≤ 20 ∧ (r (29 + 0)).toNatClampNeg ≤ 1000 ∧ (r (29 + 1)).toNatClampNeg ≤ 1000) (hb : 0 ≤ (r 18).toInt ∧ (r 18).toInt ≤ 40) {t c v : Int32} (ht : t = r 5) {Q : zS → Prop} (hq : ∀ f', RR f' s0 s1 (rNotes r c v) → Q (zcs σ b f' s0 s1)) : wX8_add ln (zcs σ b f s0 s1) (b + 12) t c v Q := by
  subst ht
  obtain ⟨nb, nz, nm0, nm1⟩ := hn
  obtain ⟨⟨m1, m2, m3, m4, m5, m6⟩, ⟨a1, a2, a3, a4, a5, a6, a7, a8, a9⟩, ⟨l1, l2, l3, l4, l5, l6⟩⟩ := S
  obtain ⟨h1, ⟨h2, h2'⟩, ⟨h3, h3'⟩, h4, h5, h6, h7, h8, h9⟩ := h
  have c0 := ncl hb.1
  obtain ⟨e1, e2, s, hs, e3, hr⟩ := h6
  have em : r 18 = nI (r 18).toNatClampNeg := by rw [neq, nI_toInt (by omega)]; omega
  have e2' : f 12 3 = nI (r 18).toNatClampNeg := e2.trans em
  refine c_recadd (c := 12) (cap := 40) (by decide) a8 l5 (by decide) e1 e3 e2' hs (by omega) (hq _ ?_)
  have er : ∀ k, k ≠ 18 → ¬ (99 ≤ k ∧ k < 219) → rNotes r c v k = r k := fun k => rNotes_out r hb.1 hb.2
  by_cases hn : (r 18).toNatClampNeg = 40
  · rw [if_pos hn]
    have h40 : r 18 = 40 := by rw [em, hn]; rfl
    have ef : ∀ k, k ≠ 12 → k ≠ 13 → zf (cPut (cDrop f 12 40 s (r 18).toNatClampNeg) 12 (3 * rix 40 (if s + 1 < 40 then s + 1 else 0) ((r 18).toNatClampNeg - 1)) (r 5) c v) 12 3 (nI ((r 18).toNatClampNeg - 1 + 1)) k = f k := fun k k1 k2 => by
      unfold cPut cDrop
      rw [zf_ne k1, zf_ne k2, zf_ne k2, zf_ne k2, zf_ne k1, zf_ne k1]
    refine ⟨RS_c h1 (ef 0 (by omega) (by omega)) (fun k hk => er k (by omega) (by omega)), ⟨RO_c h2 (ef 1 (by omega) (by omega)) (fun k hk => er k (by omega) (by omega)), RO_c h2' (ef 4 (by omega) (by omega)) (fun k hk => er k (by omega) (by omega))⟩, ⟨RV_c h3 (ef 2 (by omega) (by omega)) (ef 3 (by omega) (by omega)) (er _ (by omega) (by omega)) (fun k hk => er _ (by omega) (by omega)), RV_c h3' (ef 5 (by omega) (by omega)) (ef 6 (by omega) (by omega)) (er _ (by omega) (by omega)) (fun k hk => er _ (by omega) (by omega))⟩, RB_c h4 (ef 7 (by omega) (by omega)) (ef 8 (by omega) (by omega)) (ef 9 (by omega) (by omega)) (fun k hk => er k (by omega) (by omega)) (fun k hk => er _ (by omega) (by omega)), RT_c h5 (ef 10 (by omega) (by omega)) (ef 11 (by omega) (by omega)) (er _ (by omega) (by omega)) (fun k hk => er _ (by omega) (by omega)), ?_, RZ_c h7 (ef 14 (by omega) (by omega)) (ef 15 (by omega) (by omega)) (er _ (by omega) (by omega)) (fun k hk => er _ (by omega) (by omega)), by rw [er 37 (by omega) (by omega)]; exact h8, by rw [er 38 (by omega) (by omega)]; exact h9⟩
    have eN : rNotes r c v = rPut (rCut r) 99 18 (r 5) c v := by unfold rNotes; rw [if_pos h40]
    have e18 : rCut r 18 = 39 := by unfold rCut; rw [zu_self, h40]; decide
    have c39 : (rCut r 18).toNatClampNeg = 39 := by rw [e18]; decide
    have e18' : rNotes r c v 18 = 40 := by rw [eN]; unfold rPut; rw [zu_self, e18]; decide
    have hd := ring_drop hr hs (by omega) (by omega)
    rw [hn] at hd ⊢
    have hd2 : ring False 40 (if s + 1 < 40 then s + 1 else 0) 39 (f 13) (fun j => rCut r (99 + j)) := ring_cong hd rfl (fun j hj => by
      unfold rCut zcut
      rw [zu_ne (by omega), if_pos (by omega)]
      rfl)
    have hp := ring_put hd2 (show (if s + 1 < 40 then s + 1 else 0) < 40 by split <;> omega) (by decide) (a1 := r 5) (a2 := c) (a3 := v) (b3 := v) (fun _ => rfl)
    refine ⟨?_, ?_, if s + 1 < 40 then s + 1 else 0, by split <;> omega, ?_, ?_⟩
    · unfold cPut cDrop
      simp only [zf_ap, if_true, Nat.reduceEqDiff, if_false]
      exact e1
    · rw [e18']
      simp only [zf_ap, if_true]
      rfl
    · unfold cPut cDrop
      simp only [zf_ap, if_true, Nat.reduceEqDiff, if_false]
    · rw [e18', eN, rPut_e _ (by decide), c39]
      unfold cPut cDrop
      rw [zf_ne (by decide), zf_eq, zf_eq, zf_eq, zf_ne (by decide), zf_ne (by decide)]
      exact hp
  · rw [if_neg hn]
    have h40 : ¬ r 18 = 40 := fun e => hn (by rw [e]; rfl)
    have ef : ∀ k, k ≠ 12 → k ≠ 13 → zf (cPut f 12 (3 * rix 40 s (r 18).toNatClampNeg) (r 5) c v) 12 3 (nI ((r 18).toNatClampNeg + 1)) k = f k := fun k k1 k2 => by
      unfold cPut
      rw [zf_ne k1, zf_ne k2, zf_ne k2, zf_ne k2]
    refine ⟨RS_c h1 (ef 0 (by omega) (by omega)) (fun k hk => er k (by omega) (by omega)), ⟨RO_c h2 (ef 1 (by omega) (by omega)) (fun k hk => er k (by omega) (by omega)), RO_c h2' (ef 4 (by omega) (by omega)) (fun k hk => er k (by omega) (by omega))⟩, ⟨RV_c h3 (ef 2 (by omega) (by omega)) (ef 3 (by omega) (by omega)) (er _ (by omega) (by omega)) (fun k hk => er _ (by omega) (by omega)), RV_c h3' (ef 5 (by omega) (by omega)) (ef 6 (by omega) (by omega)) (er _ (by omega) (by omega)) (fun k hk => er _ (by omega) (by omega))⟩, RB_c h4 (ef 7 (by omega) (by omega)) (ef 8 (by omega) (by omega)) (ef 9 (by omega) (by omega)) (fun k hk => er k (by omega) (by omega)) (fun k hk => er _ (by omega) (by omega)), RT_c h5 (ef 10 (by omega) (by omega)) (ef 11 (by omega) (by omega)) (er _ (by omega) (by omega)) (fun k hk => er _ (by omega) (by omega)), ?_, RZ_c h7 (ef 14 (by omega) (by omega)) (ef 15 (by omega) (by omega)) (er _ (by omega) (by omega)) (fun k hk => er _ (by omega) (by omega)), by rw [er 37 (by omega) (by omega)]; exact h8, by rw [er 38 (by omega) (by omega)]; exact h9⟩
    have eN : rNotes r c v = rPut r 99 18 (r 5) c v := by unfold rNotes; rw [if_neg h40]
    have e18' : rNotes r c v 18 = nI ((r 18).toNatClampNeg + 1) := by
      rw [eN]
      unfold rPut
      rw [zu_self, ← nI_1, ← em]
    have hp := ring_put hr hs (show (r 18).toNatClampNeg < 40 by omega) (a1 := r 5) (a2 := c) (a3 := v) (b3 := v) (fun _ => rfl)
    refine ⟨?_, ?_, s, hs, ?_, ?_⟩
    · unfold cPut
      simp only [zf_ap, if_true, Nat.reduceEqDiff, if_false]
      exact e1
    · rw [e18']
      simp only [zf_ap, if_true]
    · unfold cPut
      simp only [zf_ap, if_true, Nat.reduceEqDiff, if_false]
      exact e3
    · rw [e18', nI_clamp (by omega), eN, rPut_e _ (by decide)]
      unfold cPut
      rw [zf_ne (by decide), zf_eq, zf_eq, zf_eq]
      exact hp
theorem zW.nbx {r : Nat → Int32} (h : zW r) : (r 11).toNatClampNeg ≤ 40 ∧ (r 20).toNatClampNeg ≤ 20 ∧ (r (29 + 0)).toNatClampNeg ≤ 1000 ∧ (r (29 + 1)).toNatClampNeg ≤ 1000 := by
  obtain ⟨a, b, c, d, e, f⟩ := h.bn
  exact ⟨a, c, d, e⟩
theorem zW.nbD0 {r : Nat → Int32} (h : zW r) : (rDone r 0 11).toNatClampNeg ≤ 40 ∧ (rDone r 0 20).toNatClampNeg ≤ 20 ∧ (rDone r 0 (29 + 0)).toNatClampNeg ≤ 1000 ∧ (rDone r 0 (29 + 1)).toNatClampNeg ≤ 1000 := by
  unfold rDone
  rw [zu_ne (by decide), zu_ne (by decide), zu_ne (by decide), zu_ne (by decide), zu_ne (by decide), zu_ne (by decide), zu_ne (by decide), zu_ne (by decide)]
  exact h.nbx
theorem zW.nbD1 {r : Nat → Int32} (h : zW r) : (rDone r 1 11).toNatClampNeg ≤ 40 ∧ (rDone r 1 20).toNatClampNeg ≤ 20 ∧ (rDone r 1 (29 + 0)).toNatClampNeg ≤ 1000 ∧ (rDone r 1 (29 + 1)).toNatClampNeg ≤ 1000 := by
  unfold rDone
  rw [zu_ne (by decide), zu_ne (by decide), zu_ne (by decide), zu_ne (by decide), zu_ne (by decide), zu_ne (by decide), zu_ne (by decide), zu_ne (by decide)]
  exact h.nbx
theorem rBegins_id {x : Nat → Int32} (h7 : x 7 = 0) (h9 : x 9 = 0) : rBegins x = x := by
  funext j
  unfold rBegins
  by_cases e9 : j = 9
  · subst e9; rw [zu_self, h9]
  · rw [zu_ne e9]
    by_cases e7 : j = 7
    · subst e7; rw [zu_self, h7]
    · rw [zu_ne e7]
theorem rEnds_pre (x : Nat → Int32) : rEnds (zu (zu x 7 0) 9 0) = rEnds x := by
  funext j
  simp only [rEnds, rClears, zu_ap]
  by_cases e9 : j = 9
  · subst e9; rfl
  · by_cases e7 : j = 7
    · subst e7; rfl
    · simp only [e7, e9, if_false]
theorem rBegins_pre (x : Nat → Int32) : rBegins (zu (zu x 7 0) 9 0) = rBegins x := by
  funext j
  simp only [rBegins, zu_ap]
  by_cases e9 : j = 9
  · subst e9; rfl
  · by_cases e7 : j = 7
    · subst e7; rfl
    · simp only [e7, e9, if_false]
theorem rDone_pre (x : Nat → Int32) {q : Nat} (hq : q ≤ 1) : rDone (zu (zu x 7 0) 9 0) q = zu (zu (rDone x q) 7 0) 9 0 := by
  funext j
  unfold rDone
  rw [zu_ne (show 27 + q ≠ 9 by omega), zu_ne (show 27 + q ≠ 7 by omega)]
  simp only [zu_ap]
  by_cases e9 : j = 9
  · subst e9; simp only [if_true, Nat.reduceEqDiff, if_false, if_neg (show ¬ 9 = 27 + q by omega)]
  · by_cases e7 : j = 7
    · subst e7; simp only [if_true, Nat.reduceEqDiff, if_false, if_neg (show ¬ 7 = 27 + q by omega)]
    · simp only [e7, e9, if_false]
theorem rLineDone_pre (x : Nat → Int32) (h6 : x 6 = 0 ∨ x 6 = 1) : rLineDone (zu (zu x 7 0) 9 0) = rLineDone x := by
  have hz : zo (zu (zu x 7 0) 9 0) = zo x := by unfold zo; rw [zu_ne (by decide), zu_ne (by decide)]
  have hq : zo x ≤ 1 := by
    unfold zo
    rcases h6 with e | e <;> rw [e] <;> decide
  unfold rLineDone
  rw [hz, rDone_pre x hq, rEnds_pre, rBegins_pre, zu_ne (show 25 + zo x ≠ 9 by omega), zu_ne (show 25 + zo x ≠ 7 by omega), zu_ne (show 27 + zo x ≠ 9 by omega), zu_ne (show 27 + zo x ≠ 7 by omega), zu_ne (show 6 ≠ 9 by decide), zu_ne (show 6 ≠ 7 by decide)]
theorem rLineFailed_again (r : Nat → Int32) : zu (zu (zu r 7 0) 9 0) 10 (r 10 + 1) = rAgain r := by
  funext j
  simp only [rAgain, rBegins, zu_ap]
  by_cases e9 : j = 9
  · subst e9; rfl
  · by_cases e7 : j = 7
    · subst e7; rfl
    · simp only [e7, e9, if_false]
theorem C_done0 {ln : Nat → Nat} {σ : zS} {b p : Nat} {f : Nat → Nat → Int32} {s0 s1 : Int64} {r : Nat → Int32} (S : zMs (gr σ) ln b) (gp : gr σ b 0 = some p) (hp : p + 127 ≤ b ∨ b + 16 ≤ p) (PL : zPl σ ln p r) (h : RR f s0 s1 r) (hW : zW r) (h6 : r 6 = 0) (h7 : r 7 = 0) (h9 : r 9 = 0) {Q : zS → Prop} (hq : ∀ f', RR f' s0 s1 (rLineDone r) → Q (zcs σ b f' s0 s1)) : wX3_endLine_84 ln Q b (b + 1) (zcs σ b f s0 s1) := by
  have S' := S
  obtain ⟨⟨m1, m2, m3, m4, m5, m6⟩, ⟨a1, a2, a3, a4, a5, a6, a7, a8, a9⟩, ⟨l1, l2, l3, l4, l5, l6⟩⟩ := S
  have PL' := PL
  obtain ⟨-, ⟨pd0, pd1⟩, ⟨pc0, pc1⟩, -, -⟩ := PL'
  have hRs := h.1
  have hRo := h.2.1.1
  have ez : zo r = 0 := by unfold zo; rw [h6]; rfl
  have eD : f 1 2 = r 27 := hRo.2.2.1
  have h1 := RRs_27 h (r 27 + 1)
  have h2 := RRs_10 h1 0
  have eDn : zu (zu r 27 (r 27 + 1)) 10 0 = rDone r 0 := rfl
  rw [eDn] at h2
  have hb := hW.e
  unfold rLineDone at hq
  rw [ez] at hq
  have g3 : gi (zcs σ b (zf (zf f 1 2 (r 27 + 1)) 0 7 0) s0 s1) (p + 3) 2 = r 25 := by rw [gi_zcs_o _ _ _ _ _ (by omega)]; exact pc0
  have e03 : zf (zf f 1 2 (r 27 + 1)) 0 7 0 0 3 = 0 := by
    have : zf (zf f 1 2 (r 27 + 1)) 0 7 0 0 3 = f 0 3 := by simp only [zf_ap, if_true, Nat.reduceEqDiff, if_false]
    rw [this, hRs.2.2.1, h6]
  have e01 : zf (zf f 1 2 (r 27 + 1)) 0 7 0 0 1 = r 5 := by
    have : zf (zf f 1 2 (r 27 + 1)) 0 7 0 0 1 = f 0 1 := by simp only [zf_ap, if_true, Nat.reduceEqDiff, if_false]
    rw [this, hRs.1]
  have eo2 : zf (zf f 1 2 (r 27 + 1)) 0 7 0 1 2 = r 27 + 1 := by simp only [zf_ap, if_true, Nat.reduceEqDiff, if_false]
  simp only [wX3_endLine_84, gi_zcs_k σ b _ s0 s1 (show 1 < 16 by decide), eD, forall_eq, si_zcs_k σ b _ s0 s1 (show 1 < 16 by decide), si_zcs_b, gr_zcs, gp, Option.some.injEq, exists_eq_left', gi_zcs_b, e03]
  refine ⟨fun h => absurd h (by decide), fun _ => ?_⟩
  simp only [gr_zcs, pd0, Option.some.injEq, exists_eq_left']
  simp only [g3, eo2]
  have hbD : (rDone r 0 18) = r 18 := by unfold rDone; rw [zu_ne (by decide), zu_ne (by decide)]
  have hbD' : 0 ≤ (rDone r 0 18).toInt ∧ (rDone r 0 18).toInt ≤ 40 := by rw [hbD]; exact hb
  have e5 : rDone r 0 5 = r 5 := by unfold rDone; rw [zu_ne (by decide), zu_ne (by decide)]
  refine ⟨fun hc => ?_, fun hc => ?_⟩
  · have hc2 : ¬ r (25 + 0) ≤ r (27 + 0) + 1 := by
      show ¬ r 25 ≤ r 27 + 1
      rw [nlt] at hc
      rw [nle]; omega
    rw [if_neg hc2] at hq
    rw [rBegins_id (by unfold rDone; rw [zu_ne (by decide), zu_ne (by decide)]; exact h7) (by unfold rDone; rw [zu_ne (by decide), zu_ne (by decide)]; exact h9)] at hq
    exact hq _ h2
  · have hc2 : r (25 + 0) ≤ r (27 + 0) + 1 := by
      show r 25 ≤ r 27 + 1
      rw [nlt] at hc
      rw [nle]; omega
    rw [if_pos hc2, rNotes_ends _ hbD'] at hq
    simp only [gr_zcs, m5, Option.some.injEq, exists_eq_left', gi_zcs_b, e03, e01]
    refine C_eventB S' h2 hW.nbD0 hbD' e5.symm (fun f3 h3 => ?_)
    refine C_ends S' h3 (by rw [rNotes_out _ hbD'.1 hbD'.2 (by decide) (by decide)]; unfold rDone; rw [zu_ne (by decide), zu_ne (by decide)]; exact hW.b.1) (fun f4 h4 => ?_)
    rw [h6] at hq
    exact hq f4 h4
theorem C_done1 {ln : Nat → Nat} {σ : zS} {b p : Nat} {f : Nat → Nat → Int32} {s0 s1 : Int64} {r : Nat → Int32} (S : zMs (gr σ) ln b) (gp : gr σ b 0 = some p) (hp : p + 127 ≤ b ∨ b + 16 ≤ p) (PL : zPl σ ln p r) (h : RR f s0 s1 r) (hW : zW r) (h6 : r 6 = 1) (h7 : r 7 = 0) (h9 : r 9 = 0) {Q : zS → Prop} (hq : ∀ f', RR f' s0 s1 (rLineDone r) → Q (zcs σ b f' s0 s1)) : wX3_endLine_84 ln Q b (b + 4) (zcs σ b f s0 s1) := by
  have S' := S
  obtain ⟨⟨m1, m2, m3, m4, m5, m6⟩, ⟨a1, a2, a3, a4, a5, a6, a7, a8, a9⟩, ⟨l1, l2, l3, l4, l5, l6⟩⟩ := S
  have PL' := PL
  obtain ⟨-, ⟨pd0, pd1⟩, ⟨pc0, pc1⟩, -, -⟩ := PL'
  have hRs := h.1
  have hRo := h.2.1.2
  have ez : zo r = 1 := by unfold zo; rw [h6]; rfl
  have eD : f 4 2 = r 28 := hRo.2.2.1
  have h1 := RRs_28 h (r 28 + 1)
  have h2 := RRs_10 h1 0
  have eDn : zu (zu r 28 (r 28 + 1)) 10 0 = rDone r 1 := rfl
  rw [eDn] at h2
  have hb := hW.e
  unfold rLineDone at hq
  rw [ez] at hq
  have g3 : gi (zcs σ b (zf (zf f 4 2 (r 28 + 1)) 0 7 0) s0 s1) (p + 65) 2 = r 26 := by rw [gi_zcs_o _ _ _ _ _ (by omega)]; exact pc1
  have e03 : zf (zf f 4 2 (r 28 + 1)) 0 7 0 0 3 = 1 := by
    have : zf (zf f 4 2 (r 28 + 1)) 0 7 0 0 3 = f 0 3 := by simp only [zf_ap, if_true, Nat.reduceEqDiff, if_false]
    rw [this, hRs.2.2.1, h6]
  have e01 : zf (zf f 4 2 (r 28 + 1)) 0 7 0 0 1 = r 5 := by
    have : zf (zf f 4 2 (r 28 + 1)) 0 7 0 0 1 = f 0 1 := by simp only [zf_ap, if_true, Nat.reduceEqDiff, if_false]
    rw [this, hRs.1]
  have eo2 : zf (zf f 4 2 (r 28 + 1)) 0 7 0 4 2 = r 28 + 1 := by simp only [zf_ap, if_true, Nat.reduceEqDiff, if_false]
  simp only [wX3_endLine_84, gi_zcs_k σ b _ s0 s1 (show 4 < 16 by decide), eD, forall_eq, si_zcs_k σ b _ s0 s1 (show 4 < 16 by decide), si_zcs_b, gr_zcs, gp, Option.some.injEq, exists_eq_left', gi_zcs_b, e03]
  refine ⟨fun _ => ?_, fun h => absurd rfl h⟩
  simp only [gr_zcs, pd1, Option.some.injEq, exists_eq_left']
  simp only [g3, eo2]
  have hbD : (rDone r 1 18) = r 18 := by unfold rDone; rw [zu_ne (by decide), zu_ne (by decide)]
  have hbD' : 0 ≤ (rDone r 1 18).toInt ∧ (rDone r 1 18).toInt ≤ 40 := by rw [hbD]; exact hb
  have e5 : rDone r 1 5 = r 5 := by unfold rDone; rw [zu_ne (by decide), zu_ne (by decide)]
  refine ⟨fun hc => ?_, fun hc => ?_⟩
  · have hc2 : ¬ r (25 + 1) ≤ r (27 + 1) + 1 := by
      show ¬ r 26 ≤ r 28 + 1
      rw [nlt] at hc
      rw [nle]; omega
    rw [if_neg hc2] at hq
    rw [rBegins_id (by unfold rDone; rw [zu_ne (by decide), zu_ne (by decide)]; exact h7) (by unfold rDone; rw [zu_ne (by decide), zu_ne (by decide)]; exact h9)] at hq
    exact hq _ h2
  · have hc2 : r (25 + 1) ≤ r (27 + 1) + 1 := by
      show r 26 ≤ r 28 + 1
      rw [nlt] at hc
      rw [nle]; omega
    rw [if_pos hc2, rNotes_ends _ hbD'] at hq
    simp only [gr_zcs, m5, Option.some.injEq, exists_eq_left', gi_zcs_b, e03, e01]
    refine C_eventB S' h2 hW.nbD1 hbD' e5.symm (fun f3 h3 => ?_)
    refine C_ends S' h3 (by rw [rNotes_out _ hbD'.1 hbD'.2 (by decide) (by decide)]; unfold rDone; rw [zu_ne (by decide), zu_ne (by decide)]; exact hW.b.1) (fun f4 h4 => ?_)
    rw [h6] at hq
    exact hq f4 h4

/-! from 66.signal -/
/-! THE CLASS'S STEPS: ends of lines, signals -/
theorem zW_79 {r : Nat → Int32} (h : zW r) : zW (zu (zu r 7 0) 9 0) := zW_out (zW_u7 h (Or.inl rfl)) (nk (by omega)) _
theorem zkp_79 {r : Nat → Int32} : zkp r (zu (zu r 7 0) 9 0) := zkp_zu (zkp_zu (fun _ _ => rfl) (nsk (by omega)) _) (nsk (by omega)) _
def zg (g : Bool) : Int32 := if g then 1 else 0
theorem C_endLine0 {ln : Nat → Nat} {σ : zS} {b p : Nat} {f : Nat → Nat → Int32} {s0 s1 : Int64} {r : Nat → Int32} (S : zMs (gr σ) ln b) (gp : gr σ b 0 = some p) (hp : p + 127 ≤ b ∨ b + 16 ≤ p) (PL : zPl σ ln p r) (h : RR f s0 s1 r) (hW : zW r) (h6 : r 6 = 0) (g : Bool) {Q : zS → Prop} (hq : ∀ f', RR f' s0 s1 (if g then rLineDone r else rLineFailed r) → Q (zcs σ b f' s0 s1)) : wX3_endLine ln (zcs σ b f s0 s1) b (zg g) Q := by
  have S' := S
  obtain ⟨⟨m1, m2, m3, m4, m5, m6⟩, ⟨a1, a2, a3, a4, a5, a6, a7, a8, a9⟩, ⟨l1, l2, l3, l4, l5, l6⟩⟩ := S
  have PL' := PL
  obtain ⟨⟨pn, pdl, pg, pr⟩, ⟨pd0, pd1⟩, ⟨pc0, pc1⟩, -, -⟩ := PL'
  have ez : zo r = 0 := by unfold zo; rw [h6]; rfl
  have e03 : f 0 3 = 0 := h.1.2.2.1.trans h6
  have h1 := RRs_9 (RRs_7 h 0 (by decide)) 0
  have hW1 := zW_79 hW
  have PL1 := PL.c zkp_79 hW
  have h61 : zu (zu r 7 0) 9 0 6 = 0 := by rw [zu_ne (by decide), zu_ne (by decide)]; exact h6
  have hR10 : zf (zf f 0 4 0) 0 6 0 0 7 = r 10 := by
    have : zf (zf f 0 4 0) 0 6 0 0 7 = f 0 7 := by simp only [zf_ap, if_true, Nat.reduceEqDiff, if_false]
    rw [this]; exact h.1.2.2.2.2.2.2.1
  have hR1 : zf (zf f 0 4 0) 0 6 0 0 1 = r 5 := by
    have : zf (zf f 0 4 0) 0 6 0 0 1 = f 0 1 := by simp only [zf_ap, if_true, Nat.reduceEqDiff, if_false]
    rw [this]; exact h.1.1
  have hD : zf (zf f 0 4 0) 0 6 0 1 2 = r 27 := by
    have : zf (zf f 0 4 0) 0 6 0 1 2 = f 1 2 := by simp only [zf_ap, Nat.reduceEqDiff, if_false]
    rw [this]; exact h.2.1.1.2.2.1
  have gr4 : gi (zcs σ b (zf (zf f 0 4 0) 0 6 0) s0 s1) p 4 = r 4 := by rw [gi_zcs_o _ _ _ _ _ (by omega)]; exact pr
  have fin : ∀ {Q : zS → Prop}, (∀ f', RR f' s0 s1 (rLineDone r) → Q (zcs σ b f' s0 s1)) → wX3_endLine_84 ln Q b (b + 1) (zcs σ b (zf (zf f 0 4 0) 0 6 0) s0 s1) := by
    intro Q hq
    refine C_done0 S' gp hp PL1 h1 hW1 h61 (by rw [zu_ne (by decide), zu_self]) (by rw [zu_self]) (fun f' hf => ?_)
    rw [rLineDone_pre r (by rw [h6]; decide)] at hf
    exact hq f' hf
  simp only [wX3_endLine, gi_zcs_b, e03, forall_eq]
  refine ⟨fun h => absurd h (by decide), fun _ => ?_⟩
  simp only [gr_zcs, m1, Option.some.injEq, exists_eq_left', si_zcs_b, forall_eq]
  refine ⟨fun hg => ?_, fun hg => ?_⟩
  · have hgf : g = false := by
      cases g
      · rfl
      · exact absurd hg (by decide)
    subst hgf
    have hq : ∀ f', RR f' s0 s1 (rLineFailed r) → Q (zcs σ b f' s0 s1) := hq
    simp only [gr_zcs, gp, Option.some.injEq, exists_eq_left', gr4, gi_zcs_b, hR10, forall_eq]
    unfold rLineFailed at hq
    rw [ez] at hq
    refine ⟨fun hc => ?_, fun hc => ?_⟩
    · rw [if_pos hc] at hq
      refine ⟨fun _ => ?_, fun h => absurd rfl h⟩
      simp only [gr_zcs, m5, Option.some.injEq, exists_eq_left', gi_zcs_b, hR1, gi_zcs_k σ b _ s0 s1 (show 1 < 16 by decide), hD, forall_eq]
      have e5 : r 5 = zu (zu r 7 0) 9 0 5 := by rw [zu_ne (by decide), zu_ne (by decide)]
      refine C_event S' h1 hW1 (c := 4) (v := r 27) e5 (fun f3 h3 => ?_)
      have eN : rNotes (zu (zu r 7 0) 9 0) 4 (r 27) = zu (zu (rNotes r 4 (r 27)) 7 0) 9 0 := by
        rw [rNotes_zu _ (by rw [zu_ne (by decide)]; exact hW.e) (by decide) (by decide) (by decide), rNotes_zu _ hW.e (by decide) (by decide) (by decide)]
      have h6N : rNotes r 4 (r 27) 6 = 0 := (rNotes_out r hW.e.1 hW.e.2 (by decide) (by decide)).trans h6
      have hW3 := zW_notes (x := 4) (y := r 27) hW1
      have hk3 : zkp r (rNotes (zu (zu r 7 0) 9 0) 4 (r 27)) := zkp_notes zkp_79 hW1.e
      rw [eN] at h3 hW3 hk3
      refine C_done0 S' gp hp (PL.c hk3 hW) h3 hW3 (by rw [zu_ne (by decide), zu_ne (by decide)]; exact h6N) (by rw [zu_ne (by decide), zu_self]) (by rw [zu_self]) (fun f' hf => ?_)
      rw [rLineDone_pre _ (by rw [h6N]; decide)] at hf
      exact hq f' hf
    · rw [if_neg hc] at hq
      have h2 := RRs_10 h1 (r 10 + 1)
      rw [rLineFailed_again] at h2
      have hR1' : zf (zf (zf f 0 4 0) 0 6 0) 0 7 (r 10 + 1) 0 1 = r 5 := by
        have : zf (zf (zf f 0 4 0) 0 6 0) 0 7 (r 10 + 1) 0 1 = zf (zf f 0 4 0) 0 6 0 0 1 := by simp only [zf_ap, if_true, Nat.reduceEqDiff, if_false]
        rw [this]; exact hR1
      have hD' : zf (zf (zf f 0 4 0) 0 6 0) 0 7 (r 10 + 1) 1 2 = r 27 := by
        have : zf (zf (zf f 0 4 0) 0 6 0) 0 7 (r 10 + 1) 1 2 = zf (zf f 0 4 0) 0 6 0 1 2 := by simp only [zf_ap, Nat.reduceEqDiff, if_false]
        rw [this]; exact hD
      have hWa : zW (rAgain r) := zW_begins (zW_out hW (nk (by omega)) _)
      simp only [si_zcs_b, gr_zcs, m5, Option.some.injEq, exists_eq_left', gi_zcs_b, hR1', gi_zcs_k σ b _ s0 s1 (show 1 < 16 by decide), hD', forall_eq]
      have e5 : r 5 = rAgain r 5 := by unfold rAgain rBegins; rw [zu_ne (by decide), zu_ne (by decide), zu_ne (by decide)]
      exact C_event S' h2 hWa (c := 3) (v := r 27) e5 hq
  · have hgf : g = true := by
      cases g
      · exact absurd rfl hg
      · rfl
    subst hgf
    have hq : ∀ f', RR f' s0 s1 (rLineDone r) → Q (zcs σ b f' s0 s1) := hq
    exact ⟨fun h => absurd h (by decide), fun _ => fin hq⟩
theorem C_endLine1 {ln : Nat → Nat} {σ : zS} {b p : Nat} {f : Nat → Nat → Int32} {s0 s1 : Int64} {r : Nat → Int32} (S : zMs (gr σ) ln b) (gp : gr σ b 0 = some p) (hp : p + 127 ≤ b ∨ b + 16 ≤ p) (PL : zPl σ ln p r) (h : RR f s0 s1 r) (hW : zW r) (h6 : r 6 = 1) (g : Bool) {Q : zS → Prop} (hq : ∀ f', RR f' s0 s1 (if g then rLineDone r else rLineFailed r) → Q (zcs σ b f' s0 s1)) : wX3_endLine ln (zcs σ b f s0 s1) b (zg g) Q := by
  have S' := S
  obtain ⟨⟨m1, m2, m3, m4, m5, m6⟩, ⟨a1, a2, a3, a4, a5, a6, a7, a8, a9⟩, ⟨l1, l2, l3, l4, l5, l6⟩⟩ := S
  have PL' := PL
  obtain ⟨⟨pn, pdl, pg, pr⟩, ⟨pd0, pd1⟩, ⟨pc0, pc1⟩, -, -⟩ := PL'
  have ez : zo r = 1 := by unfold zo; rw [h6]; rfl
  have e03 : f 0 3 = 1 := h.1.2.2.1.trans h6
  have h1 := RRs_9 (RRs_7 h 0 (by decide)) 0
  have hW1 := zW_79 hW
  have PL1 := PL.c zkp_79 hW
  have h61 : zu (zu r 7 0) 9 0 6 = 1 := by rw [zu_ne (by decide), zu_ne (by decide)]; exact h6
  have hR10 : zf (zf f 0 4 0) 0 6 0 0 7 = r 10 := by
    have : zf (zf f 0 4 0) 0 6 0 0 7 = f 0 7 := by simp only [zf_ap, if_true, Nat.reduceEqDiff, if_false]
    rw [this]; exact h.1.2.2.2.2.2.2.1
  have hR1 : zf (zf f 0 4 0) 0 6 0 0 1 = r 5 := by
    have : zf (zf f 0 4 0) 0 6 0 0 1 = f 0 1 := by simp only [zf_ap, if_true, Nat.reduceEqDiff, if_false]
    rw [this]; exact h.1.1
  have hD : zf (zf f 0 4 0) 0 6 0 4 2 = r 28 := by
    have : zf (zf f 0 4 0) 0 6 0 4 2 = f 4 2 := by simp only [zf_ap, Nat.reduceEqDiff, if_false]
    rw [this]; exact h.2.1.2.2.2.1
  have gr4 : gi (zcs σ b (zf (zf f 0 4 0) 0 6 0) s0 s1) p 4 = r 4 := by rw [gi_zcs_o _ _ _ _ _ (by omega)]; exact pr
  have fin : ∀ {Q : zS → Prop}, (∀ f', RR f' s0 s1 (rLineDone r) → Q (zcs σ b f' s0 s1)) → wX3_endLine_84 ln Q b (b + 4) (zcs σ b (zf (zf f 0 4 0) 0 6 0) s0 s1) := by
    intro Q hq
    refine C_done1 S' gp hp PL1 h1 hW1 h61 (by rw [zu_ne (by decide), zu_self]) (by rw [zu_self]) (fun f' hf => ?_)
    rw [rLineDone_pre r (by rw [h6]; decide)] at hf
    exact hq f' hf
  simp only [wX3_endLine, gi_zcs_b, e03, forall_eq]
  refine ⟨fun _ => ?_, fun h => absurd rfl h⟩
  simp only [gr_zcs, m2, Option.some.injEq, exists_eq_left', si_zcs_b, forall_eq]
  refine ⟨fun hg => ?_, fun hg => ?_⟩
  · have hgf : g = false := by
      cases g
      · rfl
      · exact absurd hg (by decide)
    subst hgf
    have hq : ∀ f', RR f' s0 s1 (rLineFailed r) → Q (zcs σ b f' s0 s1) := hq
    simp only [gr_zcs, gp, Option.some.injEq, exists_eq_left', gr4, gi_zcs_b, hR10, forall_eq]
    unfold rLineFailed at hq
    rw [ez] at hq
    refine ⟨fun hc => ?_, fun hc => ?_⟩
    · rw [if_pos hc] at hq
      refine ⟨fun _ => ?_, fun h => absurd rfl h⟩
      simp only [gr_zcs, m5, Option.some.injEq, exists_eq_left', gi_zcs_b, hR1, gi_zcs_k σ b _ s0 s1 (show 4 < 16 by decide), hD, forall_eq]
      have e5 : r 5 = zu (zu r 7 0) 9 0 5 := by rw [zu_ne (by decide), zu_ne (by decide)]
      refine C_event S' h1 hW1 (c := 4) (v := r 28) e5 (fun f3 h3 => ?_)
      have eN : rNotes (zu (zu r 7 0) 9 0) 4 (r 28) = zu (zu (rNotes r 4 (r 28)) 7 0) 9 0 := by
        rw [rNotes_zu _ (by rw [zu_ne (by decide)]; exact hW.e) (by decide) (by decide) (by decide), rNotes_zu _ hW.e (by decide) (by decide) (by decide)]
      have h6N : rNotes r 4 (r 28) 6 = 1 := (rNotes_out r hW.e.1 hW.e.2 (by decide) (by decide)).trans h6
      have hW3 := zW_notes (x := 4) (y := r 28) hW1
      have hk3 : zkp r (rNotes (zu (zu r 7 0) 9 0) 4 (r 28)) := zkp_notes zkp_79 hW1.e
      rw [eN] at h3 hW3 hk3
      refine C_done1 S' gp hp (PL.c hk3 hW) h3 hW3 (by rw [zu_ne (by decide), zu_ne (by decide)]; exact h6N) (by rw [zu_ne (by decide), zu_self]) (by rw [zu_self]) (fun f' hf => ?_)
      rw [rLineDone_pre _ (by rw [h6N]; decide)] at hf
      exact hq f' hf
    · rw [if_neg hc] at hq
      have h2 := RRs_10 h1 (r 10 + 1)
      rw [rLineFailed_again] at h2
      have hR1' : zf (zf (zf f 0 4 0) 0 6 0) 0 7 (r 10 + 1) 0 1 = r 5 := by
        have : zf (zf (zf f 0 4 0) 0 6 0) 0 7 (r 10 + 1) 0 1 = zf (zf f 0 4 0) 0 6 0 0 1 := by simp only [zf_ap, if_true, Nat.reduceEqDiff, if_false]
        rw [this]; exact hR1
      have hD' : zf (zf (zf f 0 4 0) 0 6 0) 0 7 (r 10 + 1) 4 2 = r 28 := by
        have : zf (zf (zf f 0 4 0) 0 6 0) 0 7 (r 10 + 1) 4 2 = zf (zf f 0 4 0) 0 6 0 4 2 := by simp only [zf_ap, Nat.reduceEqDiff, if_false]
        rw [this]; exact hD
      have hWa : zW (rAgain r) := zW_begins (zW_out hW (nk (by omega)) _)
      simp only [si_zcs_b, gr_zcs, m5, Option.some.injEq, exists_eq_left', gi_zcs_b, hR1', gi_zcs_k σ b _ s0 s1 (show 4 < 16 by decide), hD', forall_eq]
      have e5 : r 5 = rAgain r 5 := by unfold rAgain rBegins; rw [zu_ne (by decide), zu_ne (by decide), zu_ne (by decide)]
      exact C_event S' h2 hWa (c := 3) (v := r 28) e5 hq
  · have hgf : g = true := by
      cases g
      · exact absurd rfl hg
      · rfl
    subst hgf
    have hq : ∀ f', RR f' s0 s1 (rLineDone r) → Q (zcs σ b f' s0 s1) := hq
    exact ⟨fun h => absurd h (by decide), fun _ => fin hq⟩
theorem C_endLine {ln : Nat → Nat} {σ : zS} {b p : Nat} {f : Nat → Nat → Int32} {s0 s1 : Int64} {r : Nat → Int32} (S : zMs (gr σ) ln b) (gp : gr σ b 0 = some p) (hp : p + 127 ≤ b ∨ b + 16 ≤ p) (PL : zPl σ ln p r) (h : RR f s0 s1 r) (hW : zW r) (h6 : r 6 = 0 ∨ r 6 = 1) (g : Bool) {Q : zS → Prop} (hq : ∀ f', RR f' s0 s1 (if g then rLineDone r else rLineFailed r) → Q (zcs σ b f' s0 s1)) : wX3_endLine ln (zcs σ b f s0 s1) b (zg g) Q := by
  rcases h6 with h6 | h6
  · exact C_endLine0 S gp hp PL h hW h6 g hq
  · exact C_endLine1 S gp hp PL h hW h6 g hq
/-- a signal of kind 1, 2 or 3 -/
def rSignal (r : Nat → Int32) (w : Int32) : Nat → Int32 := if w = 1 then rAnswers r true else if w = 2 then rAnswers r false else rBreaks r
theorem C_signal {ln : Nat → Nat} {σ : zS} {b p : Nat} {f : Nat → Nat → Int32} {s0 s1 : Int64} {r : Nat → Int32} (S : zMs (gr σ) ln b) (gp : gr σ b 0 = some p) (hp : p + 127 ≤ b ∨ b + 16 ≤ p) (PL : zPl σ ln p r) (h : RR f s0 s1 r) (hW : zW r) (h6 : r 6 = 0 ∨ r 6 = 1) {w : Int32} (hw : w = 1 ∨ w = 2 ∨ w = 3) {Q : zS → Prop} (hq : ∀ f', RR f' s0 s1 (rSignal r w) → Q (zcs σ b f' s0 s1)) : wX3_takeSignal ln (zcs σ b f s0 s1) b w Q := by
  have S' := S
  obtain ⟨⟨m1, m2, m3, m4, m5, m6⟩, ⟨a1, a2, a3, a4, a5, a6, a7, a8, a9⟩, ⟨l1, l2, l3, l4, l5, l6⟩⟩ := S
  have hRs := h.1
  have e04 : f 0 4 = r 7 := hRs.2.2.2.1
  have e01 : f 0 1 = r 5 := hRs.1
  have e03 : f 0 3 = r 6 := hRs.2.2.1
  have hA : ∀ g : Bool, (∀ f', RR f' s0 s1 (rAnswers r g) → Q (zcs σ b f' s0 s1)) → ((r 7 = 0 → Q (zcs σ b f s0 s1)) ∧ (¬ r 7 = 0 → wX3_endLine ln (zcs σ b f s0 s1) b (zg g) (fun σ1 => Q σ1))) := by
    intro g hq
    unfold rAnswers at hq
    refine ⟨fun hc => ?_, fun hc => ?_⟩
    · rw [if_pos hc] at hq
      exact hq f h
    · rw [if_neg hc] at hq
      exact C_endLine S' gp hp PL h hW h6 g hq
  unfold rSignal at hq
  simp only [wX3_takeSignal, wX3_takeSignal_53, gi_zcs_b, e04]
  rcases hw with rfl | rfl | rfl
  · rw [if_pos rfl] at hq
    have := hA true hq
    exact ⟨fun h => absurd h (by decide), fun _ => ⟨this.1, fun h7 => ⟨fun _ => this.2 h7, fun h => absurd rfl h⟩⟩⟩
  · rw [if_neg (by decide), if_pos rfl] at hq
    have := hA false hq
    exact ⟨fun h => absurd h (by decide), fun _ => ⟨this.1, fun h7 => ⟨fun h => absurd h (by decide), fun _ => this.2 h7⟩⟩⟩
  · rw [if_neg (by decide), if_neg (by decide)] at hq
    refine ⟨fun _ => ?_, fun h => absurd rfl h⟩
    have go : ∀ line : Int32, line = r (27 + zo r) → wX8_add ln (zcs σ b f s0 s1) (b + 12) (r 5) 5 line (fun σ9 => wX3_endTransmission ln σ9 b (fun σ10 => Q σ10)) := by
      intro line el
      subst el
      unfold rBreaks at hq
      rw [rNotes_ends _ hW.e] at hq
      refine C_event S' h hW rfl (fun f1 h1 => ?_)
      exact C_ends S' h1 (by rw [rNotes_out _ hW.e.1 hW.e.2 (by decide) (by decide)]; exact hW.b.1) hq
    simp only [gr_zcs, m5, Option.some.injEq, exists_eq_left', e03, forall_eq]
    rcases h6 with h6 | h6
    · have ez : zo r = 0 := by unfold zo; rw [h6]; rfl
      rw [h6]
      refine ⟨fun h => absurd h (by decide), fun _ => ?_⟩
      simp only [gr_zcs, m1, Option.some.injEq, exists_eq_left', gi_zcs_b, e01, gi_zcs_k σ b f s0 s1 (show 1 < 16 by decide), forall_eq]
      exact go _ (by rw [ez]; exact h.2.1.1.2.2.1)
    · have ez : zo r = 1 := by unfold zo; rw [h6]; rfl
      rw [h6]
      refine ⟨fun _ => ?_, fun h => absurd rfl h⟩
      simp only [gr_zcs, m2, Option.some.injEq, exists_eq_left', gi_zcs_b, e01, gi_zcs_k σ b f s0 s1 (show 4 < 16 by decide), forall_eq]
      exact go _ (by rw [ez]; exact h.2.1.2.2.2.1)

/-! from 67.take -/
/-! THE CLASS'S STEPS: prints, what is taken -/
theorem zfig_n : ∀ k, k < 26 → narrow .char (.int ((zSbyt.getD 23 []).getD k 0)) = .int ((zSbyt.getD 23 []).getD k 0) := by decide +kernel
theorem RRs_12 {f : Nat → Nat → Int32} {s0 s1 : Int64} {r : Nat → Int32} (h : RR f s0 s1 r) (nb : (r 11).toNatClampNeg ≤ 40) (v : Int32) : RR (zf f 7 1 v) s0 s1 (zu r 12 v) := by
  obtain ⟨h1, ⟨h2, h2'⟩, ⟨h3, h3'⟩, h4, h5, h6, h7, h8, h9⟩ := h
  have er : ∀ k, k ≠ 12 → zu r 12 v k = r k := fun k hk => zu_ne hk
  have ef : ∀ k, k ≠ 7 → zf f 7 1 v k = f k := fun k hk => zf_ne hk
  refine ⟨RS_c h1 (ef 0 (by omega)) (fun k hk => er k (by omega)), ⟨RO_c h2 (ef 1 (by omega)) (fun k hk => er k (by omega)), RO_c h2' (ef 4 (by omega)) (fun k hk => er k (by omega))⟩, ⟨RV_c h3 (ef 2 (by omega)) (ef 3 (by omega)) (er _ (by omega)) (fun k hk => er _ (by omega)), RV_c h3' (ef 5 (by omega)) (ef 6 (by omega)) (er _ (by omega)) (fun k hk => er _ (by omega))⟩, ?_, RT_c h5 (ef 10 (by omega)) (ef 11 (by omega)) (er _ (by omega)) (fun k hk => er _ (by omega)), RE_c h6 (ef 12 (by omega)) (ef 13 (by omega)) (er _ (by omega)) (fun k hk => er _ (by omega)), RZ_c h7 (ef 14 (by omega)) (ef 15 (by omega)) (er _ (by omega)) (fun k hk => er _ (by omega)), by rw [er 37 (by omega)]; exact h8, by rw [er 38 (by omega)]; exact h9⟩
  unfold RB
  simp only [zf_ap, zu_ap, if_true, Nat.reduceEqDiff, if_false]
  exact ⟨trivial, h4.2.1, h4.2.2.1, h4.2.2.2.1, fun j hj => by rw [if_neg (by omega)]; exact h4.2.2.2.2 j hj⟩
theorem RRs_13 {f : Nat → Nat → Int32} {s0 s1 : Int64} {r : Nat → Int32} (h : RR f s0 s1 r) (nb : (r 11).toNatClampNeg ≤ 40) (v : Int32) : RR (zf f 7 2 v) s0 s1 (zu r 13 v) := by
  obtain ⟨h1, ⟨h2, h2'⟩, ⟨h3, h3'⟩, h4, h5, h6, h7, h8, h9⟩ := h
  have er : ∀ k, k ≠ 13 → zu r 13 v k = r k := fun k hk => zu_ne hk
  have ef : ∀ k, k ≠ 7 → zf f 7 2 v k = f k := fun k hk => zf_ne hk
  refine ⟨RS_c h1 (ef 0 (by omega)) (fun k hk => er k (by omega)), ⟨RO_c h2 (ef 1 (by omega)) (fun k hk => er k (by omega)), RO_c h2' (ef 4 (by omega)) (fun k hk => er k (by omega))⟩, ⟨RV_c h3 (ef 2 (by omega)) (ef 3 (by omega)) (er _ (by omega)) (fun k hk => er _ (by omega)), RV_c h3' (ef 5 (by omega)) (ef 6 (by omega)) (er _ (by omega)) (fun k hk => er _ (by omega))⟩, ?_, RT_c h5 (ef 10 (by omega)) (ef 11 (by omega)) (er _ (by omega)) (fun k hk => er _ (by omega)), RE_c h6 (ef 12 (by omega)) (ef 13 (by omega)) (er _ (by omega)) (fun k hk => er _ (by omega)), RZ_c h7 (ef 14 (by omega)) (ef 15 (by omega)) (er _ (by omega)) (fun k hk => er _ (by omega)), by rw [er 37 (by omega)]; exact h8, by rw [er 38 (by omega)]; exact h9⟩
  unfold RB
  simp only [zf_ap, zu_ap, if_true, Nat.reduceEqDiff, if_false]
  exact ⟨h4.1, trivial, h4.2.2.1, h4.2.2.2.1, fun j hj => by rw [if_neg (by omega)]; exact h4.2.2.2.2 j hj⟩
theorem RRs_14 {f : Nat → Nat → Int32} {s0 s1 : Int64} {r : Nat → Int32} (h : RR f s0 s1 r) (nb : (r 11).toNatClampNeg ≤ 40) (v : Int32) : RR (zf f 7 3 v) s0 s1 (zu r 14 v) := by
  obtain ⟨h1, ⟨h2, h2'⟩, ⟨h3, h3'⟩, h4, h5, h6, h7, h8, h9⟩ := h
  have er : ∀ k, k ≠ 14 → zu r 14 v k = r k := fun k hk => zu_ne hk
  have ef : ∀ k, k ≠ 7 → zf f 7 3 v k = f k := fun k hk => zf_ne hk
  refine ⟨RS_c h1 (ef 0 (by omega)) (fun k hk => er k (by omega)), ⟨RO_c h2 (ef 1 (by omega)) (fun k hk => er k (by omega)), RO_c h2' (ef 4 (by omega)) (fun k hk => er k (by omega))⟩, ⟨RV_c h3 (ef 2 (by omega)) (ef 3 (by omega)) (er _ (by omega)) (fun k hk => er _ (by omega)), RV_c h3' (ef 5 (by omega)) (ef 6 (by omega)) (er _ (by omega)) (fun k hk => er _ (by omega))⟩, ?_, RT_c h5 (ef 10 (by omega)) (ef 11 (by omega)) (er _ (by omega)) (fun k hk => er _ (by omega)), RE_c h6 (ef 12 (by omega)) (ef 13 (by omega)) (er _ (by omega)) (fun k hk => er _ (by omega)), RZ_c h7 (ef 14 (by omega)) (ef 15 (by omega)) (er _ (by omega)) (fun k hk => er _ (by omega)), by rw [er 37 (by omega)]; exact h8, by rw [er 38 (by omega)]; exact h9⟩
  unfold RB
  simp only [zf_ap, zu_ap, if_true, Nat.reduceEqDiff, if_false]
  exact ⟨h4.1, h4.2.1, trivial, h4.2.2.2.1, fun j hj => by rw [if_neg (by omega)]; exact h4.2.2.2.2 j hj⟩
theorem RRs_buf {f : Nat → Nat → Int32} {s0 s1 : Int64} {r : Nat → Int32} (nz : (r 20).toNatClampNeg ≤ 20) (h : RR f s0 s1 r) (nb : (r 11).toInt ≤ 39) (n0 : 0 ≤ (r 11).toInt) (v : Int32) : RR (zf (zf f 9 (r 11).toNatClampNeg v) 8 1 (r 11 + 1)) s0 s1 (zu (zu r (59 + (r 11).toNatClampNeg) v) 11 (r 11 + 1)) := by
  obtain ⟨h1, ⟨h2, h2'⟩, ⟨h3, h3'⟩, h4, h5, h6, h7, h8, h9⟩ := h
  have c0 := ncl n0
  have e1 : (r 11 + 1).toInt = (r 11).toInt + 1 := ixs (k := 1) rfl (by decide) (by omega) (by omega)
  have c1 : (r 11 + 1).toNatClampNeg = (r 11).toNatClampNeg + 1 := by rw [ncln, e1]; omega
  have er : ∀ k, k ≠ 11 ∧ ¬ (59 ≤ k ∧ k < 99) → zu (zu r (59 + (r 11).toNatClampNeg) v) 11 (r 11 + 1) k = r k := fun k hk => by rw [zu_ne hk.1, zu_ne (by omega)]
  have ef : ∀ k, k ≠ 8 ∧ k ≠ 9 → zf (zf f 9 (r 11).toNatClampNeg v) 8 1 (r 11 + 1) k = f k := fun k hk => by rw [zf_ne hk.1, zf_ne hk.2]
  have nz9 := nz
  refine ⟨RS_c h1 (ef 0 (by omega)) (fun k hk => er k (by omega)), ⟨RO_c h2 (ef 1 (by omega)) (fun k hk => er k (by omega)), RO_c h2' (ef 4 (by omega)) (fun k hk => er k (by omega))⟩, ⟨RV_c h3 (ef 2 (by omega)) (ef 3 (by omega)) (er _ (by omega)) (fun k hk => er _ (by omega)), RV_c h3' (ef 5 (by omega)) (ef 6 (by omega)) (er _ (by omega)) (fun k hk => er _ (by omega))⟩, ?_, RT_c h5 (ef 10 (by omega)) (ef 11 (by omega)) (er _ (by omega)) (fun k hk => er _ (by omega)), RE_c h6 (ef 12 (by omega)) (ef 13 (by omega)) (er _ (by omega)) (fun k hk => er _ (by omega)), RZ_c h7 (ef 14 (by omega)) (ef 15 (by omega)) (er _ (by omega)) (fun k hk => er _ (by omega)), by rw [er 37 (by omega)]; exact h8, by rw [er 38 (by omega)]; exact h9⟩
  refine ⟨?_, ?_, ?_, ?_, fun j hj => ?_⟩
  · simp only [zf_ap, zu_ap, Nat.reduceEqDiff, if_false]; rw [if_neg (by omega)]; exact h4.1
  · simp only [zf_ap, zu_ap, Nat.reduceEqDiff, if_false]; rw [if_neg (by omega)]; exact h4.2.1
  · simp only [zf_ap, zu_ap, Nat.reduceEqDiff, if_false]; rw [if_neg (by omega)]; exact h4.2.2.1
  · simp only [zf_ap, zu_ap, if_true]
  · rw [zu_self, c1] at hj
    rw [zf_ne (by decide), zf_eq, zu_ne (show 59 + j ≠ 11 by omega)]
    by_cases e : j = (r 11).toNatClampNeg
    · subst e; rw [zu_self, zu_self]
    · rw [zu_ne e, zu_ne (by omega)]
      exact h4.2.2.2.2 j (by omega)
theorem RRs_37 {f : Nat → Nat → Int32} {s0 s1 : Int64} {r : Nat → Int32} (h : RR f s0 s1 r) (v : Int32) : RR f (v.toInt64) s1 (zu r 37 v) := by
  obtain ⟨h1, ⟨h2, h2'⟩, ⟨h3, h3'⟩, h4, h5, h6, h7, h8, h9⟩ := h
  have er : ∀ k, k ≠ 37 → zu r 37 v k = r k := fun k hk => zu_ne hk
  have ef : ∀ k : Nat, k < 20 → f k = f k := fun k hk => rfl
  refine ⟨RS_c h1 (ef 0 (by omega)) (fun k hk => er k (by omega)), ⟨RO_c h2 (ef 1 (by omega)) (fun k hk => er k (by omega)), RO_c h2' (ef 4 (by omega)) (fun k hk => er k (by omega))⟩, ⟨RV_c h3 (ef 2 (by omega)) (ef 3 (by omega)) (er _ (by omega)) (fun k hk => er _ (by omega)), RV_c h3' (ef 5 (by omega)) (ef 6 (by omega)) (er _ (by omega)) (fun k hk => er _ (by omega))⟩, RB_c h4 (ef 7 (by omega)) (ef 8 (by omega)) (ef 9 (by omega)) (fun k hk => er k (by omega)) (fun k hk => er _ (by omega)), RT_c h5 (ef 10 (by omega)) (ef 11 (by omega)) (er _ (by omega)) (fun k hk => er _ (by omega)), RE_c h6 (ef 12 (by omega)) (ef 13 (by omega)) (er _ (by omega)) (fun k hk => er _ (by omega)), RZ_c h7 (ef 14 (by omega)) (ef 15 (by omega)) (er _ (by omega)) (fun k hk => er _ (by omega)), ?_, by rw [er 38 (by omega)]; exact h9⟩
  rw [zu_self]
theorem RRs_38 {f : Nat → Nat → Int32} {s0 s1 : Int64} {r : Nat → Int32} (h : RR f s0 s1 r) (v : Int32) : RR f s0 (v.toInt64) (zu r 38 v) := by
  obtain ⟨h1, ⟨h2, h2'⟩, ⟨h3, h3'⟩, h4, h5, h6, h7, h8, h9⟩ := h
  have er : ∀ k, k ≠ 38 → zu r 38 v k = r k := fun k hk => zu_ne hk
  have ef : ∀ k : Nat, k < 20 → f k = f k := fun k hk => rfl
  refine ⟨RS_c h1 (ef 0 (by omega)) (fun k hk => er k (by omega)), ⟨RO_c h2 (ef 1 (by omega)) (fun k hk => er k (by omega)), RO_c h2' (ef 4 (by omega)) (fun k hk => er k (by omega))⟩, ⟨RV_c h3 (ef 2 (by omega)) (ef 3 (by omega)) (er _ (by omega)) (fun k hk => er _ (by omega)), RV_c h3' (ef 5 (by omega)) (ef 6 (by omega)) (er _ (by omega)) (fun k hk => er _ (by omega))⟩, RB_c h4 (ef 7 (by omega)) (ef 8 (by omega)) (ef 9 (by omega)) (fun k hk => er k (by omega)) (fun k hk => er _ (by omega)), RT_c h5 (ef 10 (by omega)) (ef 11 (by omega)) (er _ (by omega)) (fun k hk => er _ (by omega)), RE_c h6 (ef 12 (by omega)) (ef 13 (by omega)) (er _ (by omega)) (fun k hk => er _ (by omega)), RZ_c h7 (ef 14 (by omega)) (ef 15 (by omega)) (er _ (by omega)) (fun k hk => er _ (by omega)), by rw [er 37 (by omega)]; exact h8, ?_⟩
  rw [zu_self]
theorem w_chr {ln : Nat → Nat} {σ : zS} {p fg : Int32} {Q : Int32 → zS → Prop} (h0 : 2 ≤ p.toInt) (h1 : p.toInt < 28) (hq : Q (zchr p (!decide (fg = 0))) σ) : wX11_characterOf ln σ p fg Q := by
  have e2 : (p - 2).toInt = p.toInt - 2 := nsub (b := 2) (by show _ ≤ p.toInt - 2; omega) (by show p.toInt - 2 < _; omega)
  have hk : p - 2 = nI (p - 2).toNatClampNeg := by rw [neq, nI_toInt (by rw [ncln]; omega), ncln]; omega
  have hkn : (p - 2).toNatClampNeg < 26 := by rw [ncln]; omega
  intro x1 ex1
  subst ex1
  refine ⟨fun h x ex => ?_, fun h => ⟨fun hn => ?_, fun _ => ?_⟩⟩
  · subst ex
    rw [h] at hq
    have e : zchr p (!decide ((0 : Int32) = 0)) = ((97 + (p - 2)).toUInt32 % 65536).toInt32 := by
      have e3 : (97 : Int32) + (p - 2) = nI (97 + (p - 2).toNatClampNeg) := by rw [hk]; exact (nI_add 97 _).trans (by rw [nI_clamp (by omega)])
      have e4 := (pk_charN (q := 97 + (p - 2).toNatClampNeg) (by omega)).1
      have e5 : (97 : Int32) + p - 2 = 97 + (p - 2) := by
        rw [Int32.sub_eq_add_neg, Int32.sub_eq_add_neg, Int32.add_assoc]
      have e6 := pk_nc (nI (97 + (p - 2).toNatClampNeg))
      have e7 : ((nI (97 + (p - 2).toNatClampNeg)).toUInt32 % 65536).toInt32 = nI (97 + (p - 2).toNatClampNeg) := (sb_byte _ (show 97 + (p - 2).toNatClampNeg < 256 by omega)).2.1
      rw [e3, e7]
      show 97 + p - 2 = _
      rw [e5, e3]
    rw [e] at hq
    exact hq
  · rw [nlt, e2] at hn
    have : (0 : Int32).toInt = 0 := rfl
    omega
  · have hl : zSlen.getD 23 0 = 26 := rfl
    refine ⟨fun h => absurd h (by decide), fun _ => ⟨rfl, ?_⟩⟩
    rw [hl]
    dsimp only
    have e26 : nI 26 >>> ((0 : Int32) &&& 31) = nI 26 := by decide
    rw [e26]
    refine ⟨fun hc => ?_, fun _ => ?_⟩
    · rw [nle, e2] at hc
      have : (nI 26).toInt = 26 := rfl
      omega
    · have e3 : (!decide (fg = 0)) = true := by simp [h]
      rw [e3] at hq
      refine w_charAt (k := (p - 2).toNatClampNeg) (by decide) (by rw [hl]; exact hkn) (by omega) hk ⟨?_, hq⟩
      have := zfig_n (p - 2).toNatClampNeg hkn
      exact this

/-! from 68.print -/
/-! THE CLASS'S STEPS: prints, what is taken, checks -/
theorem pAbs_e (x : Int32) : (if 0 ≤ x then x else 0 - x) = pAbs x := by
  unfold pAbs
  rw [Int32.zero_sub]
theorem pClamp_e {x m : Int32} (hm : 0 ≤ m.toInt ∧ m.toInt ≤ 500) : (if -m < (if m < x then m else x) then (if m < x then m else x) else -m) = pClamp x m := by
  have hn : (-m).toInt = -m.toInt := nneg (by omega)
  unfold pClamp
  by_cases h1 : m < x
  · have h1' := (nlt _ _).mp h1
    rw [if_pos h1]
    have a : -m ≤ x := by rw [nle, hn]; omega
    have b : ¬ x ≤ m := by rw [nle]; omega
    rw [if_pos a, if_neg b]
    by_cases h2 : -m < m
    · rw [if_pos h2]
    · rw [if_neg h2]
      rw [nlt, hn] at h2
      rw [neq, hn]; omega
  · have h1' : ¬ m.toInt < x.toInt := fun h => h1 ((nlt _ _).mpr h)
    rw [if_neg h1]
    have b : x ≤ m := by rw [nle]; omega
    by_cases h2 : -m < x
    · have h2' := (nlt _ _).mp h2
      rw [if_pos h2, if_pos (by rw [nle]; omega), if_pos b]
    · have h2' : ¬ (-m).toInt < x.toInt := fun h => h2 ((nlt _ _).mpr h)
      rw [if_neg h2]
      by_cases h3 : -m ≤ x
      · rw [if_pos h3, if_pos b]
        rw [nle] at h3
        rw [neq]; omega
      · rw [if_neg h3]
theorem pClamp_r {x m : Int32} (hm : 0 ≤ m.toInt ∧ m.toInt ≤ 500) : -500 ≤ (pClamp x m).toInt ∧ (pClamp x m).toInt ≤ 500 := by
  have hn : (-m).toInt = -m.toInt := nneg (by omega)
  unfold pClamp
  split
  · rename_i h
    rw [nle, hn] at h
    split
    · rename_i h2
      rw [nle] at h2
      omega
    · omega
  · rw [hn]; omega
theorem rPr_e0 (r : Nat → Int32) (ph : Int32) (off a : Int32) : zu (zu (zu (zu r 31 (r 31 + 1)) 37 (r 37 + off)) 35 (if r 35 < a then a else r 35)) 21 ph = rP2 (rPc (zu r 21 ph) 0 off) 0 a := by
  have hA : ¬ r 35 < a ↔ a ≤ r 35 := by rw [nlt, nle]; omega
  unfold rP2 rPc
  show _ = if a ≤ zu (zu (zu r 21 ph) 31 (zu r 21 ph 31 + 1)) 37 (zu r 21 ph 37 + off) 35 then zu (zu (zu r 21 ph) 31 (zu r 21 ph 31 + 1)) 37 (zu r 21 ph 37 + off) else zu (zu (zu (zu r 21 ph) 31 (zu r 21 ph 31 + 1)) 37 (zu r 21 ph 37 + off)) 35 a
  have e35 : zu (zu (zu r 21 ph) 31 (zu r 21 ph 31 + 1)) 37 (zu r 21 ph 37 + off) 35 = r 35 := by rw [zu_ne (by decide), zu_ne (by decide), zu_ne (by decide)]
  rw [e35, zu_ne (show 31 ≠ 21 by decide), zu_ne (show 37 ≠ 21 by decide)]
  by_cases h : r 35 < a
  · have h2 : ¬ a ≤ r 35 := fun h3 => (hA.mpr h3) h
    rw [if_pos h, if_neg h2]
    funext j
    simp only [zu_ap]
    by_cases e1 : j = 21
    · subst e1; rfl
    · simp only [e1, if_false]
  · rw [if_neg h, if_pos (hA.mp h)]
    funext j
    simp only [zu_ap]
    by_cases e1 : j = 21
    · subst e1; rfl
    · simp only [e1, if_false]
      by_cases e2 : j = 35
      · subst e2; rfl
      · simp only [e2, if_false]
theorem C_print0 {ln : Nat → Nat} {σ : zS} {b p : Nat} {f : Nat → Nat → Int32} {s0 s1 : Int64} {r : Nat → Int32} (S : zMs (gr σ) ln b) (gp : gr σ b 0 = some p) (hp : p + 127 ≤ b ∨ b + 16 ≤ p) (PL : zPl σ ln p r) (h : RR f s0 s1 r) (hW : zW r) (hsum : -2147483648 ≤ (r 37).toInt + (rOff r 0).toInt ∧ (r 37).toInt + (rOff r 0).toInt < 2147483648) {Q : Int32 → zS → Prop} (hq : ∀ f' s0' s1', RR f' s0' s1' (rP2 (rPc (rTurned r 0 (pClamp (rOff r 0) (r 2))) 0 (rOff r 0)) 0 (pAbs (rOff r 0))) → Q (rPos r 0) (zcs σ b f' s0' s1')) : wX4_print ln (zcs σ b f s0 s1) (b + 1) (r 2) (r 0) Q := by
  have hN := hW.N
  have hP := hW.p0
  have hc := hW.c
  have hO := h.2.1.1
  have hs : s0 = (r 37).toInt64 := h.2.2.2.2.2.2.2.1
  obtain ⟨e1, e2, e3⟩ := rPos_lt (q := 0) hN ⟨hP.1, show (r 21).toInt < 28000 by omega⟩
  have e1 : (rNear r 0).toInt = ((r 21).toInt + 500) / 1000 := e1
  have t1 : (1000 : Int32).toInt = 1000 := rfl
  have eN : (1000 * r 0).toInt = 1000 * (r 0).toInt := by rw [nmul (by rw [t1]; omega) (by rw [t1]; omega), t1]
  have f0 : f 1 0 = r 21 := hO.1
  have f3 : f 1 3 = r 31 := hO.2.2.2.1
  have f5 : f 1 5 = r 35 := hO.2.2.2.2.2
  have hcl := pClamp_r (x := rOff r 0) hc
  have ncl' : (-(pClamp (rOff r 0) (r 2))).toInt = -(pClamp (rOff r 0) (r 2)).toInt := nneg (by omega)
  have e64 : (r 37).toInt64 + (rOff r 0).toInt64 = (r 37 + rOff r 0).toInt64 := by
    have hr := nrange (r 37)
    have hr2 := nrange (rOff r 0)
    rw [neq64, Int64.toInt_add, n64, n64, n64, nadd hsum.1 hsum.2]
    exact nbm64 (by omega) (by omega)
  have h1 := RRs_31 h (r 31 + 1)
  have h2 := RRs_37 h1 (r 37 + rOff r 0)
  have h3 := RRs_35 h2 (if r 35 < pAbs (rOff r 0) then pAbs (rOff r 0) else r 35)
  have h4 := RRs_21 h3 (mI ((r 21).toInt - (pClamp (rOff r 0) (r 2)).toInt) (1000 * (r 0).toInt))
  rw [rPr_e0] at h4
  simp only [wX4_print, wX4_nearestPosition, gi_zcs_k σ b _ _ _ (show 1 < 16 by decide), f0, f3, forall_eq, si_zcs_k σ b _ _ _ (show 1 < 16 by decide), gl_zcs_0, sl_zcs_0, hs]
  have eo : r 21 - 1000 * ((r 21 + 500) / 1000) = rOff r 0 := rfl
  have f5' : zf f 1 3 (r 31 + 1) 1 5 = r 35 := by
    have : zf f 1 3 (r 31 + 1) 1 5 = f 1 5 := by simp only [zf_ap, if_true, Nat.reduceEqDiff, if_false]
    rw [this]; exact f5
  have f0' : zf (zf f 1 3 (r 31 + 1)) 1 5 (if r 35 < pAbs (rOff r 0) then pAbs (rOff r 0) else r 35) 1 0 = r 21 := by
    have : zf (zf f 1 3 (r 31 + 1)) 1 5 (if r 35 < pAbs (rOff r 0) then pAbs (rOff r 0) else r 35) 1 0 = f 1 0 := by simp only [zf_ap, if_true, Nat.reduceEqDiff, if_false]
    rw [this]; exact f0
  simp only [eo, pAbs_e, f5', e64, pClamp_e hc]
  simp only [wX4_turn, gi_zcs_k σ b _ _ _ (show 1 < 16 by decide), f0', forall_eq]
  refine wmodulo (by rw [eN]; omega) ?_
  have ea : (r 21 + -pClamp (rOff r 0) (r 2)).toInt = (r 21).toInt - (pClamp (rOff r 0) (r 2)).toInt := by rw [nadd (by omega) (by omega), ncl']; omega
  rw [ea, eN]
  simp only [si_zcs_k σ b _ _ _ (show 1 < 16 by decide)]
  refine wmodulo (by omega) ?_
  have ep : mI ((r 21 + 500) / 1000).toInt (r 0).toInt = rPos r 0 := by
    rw [neq, mIt (by omega) (by omega), e3]
    show (rNear r 0).toInt % _ = _
    rw [e1]
  rw [ep]
  exact hq _ _ _ h4
theorem rPr_e1 (r : Nat → Int32) (ph : Int32) (off a : Int32) : zu (zu (zu (zu r 32 (r 32 + 1)) 38 (r 38 + off)) 36 (if r 36 < a then a else r 36)) 22 ph = rP2 (rPc (zu r 22 ph) 1 off) 1 a := by
  have hA : ¬ r 36 < a ↔ a ≤ r 36 := by rw [nlt, nle]; omega
  unfold rP2 rPc
  show _ = if a ≤ zu (zu (zu r 22 ph) 32 (zu r 22 ph 32 + 1)) 38 (zu r 22 ph 38 + off) 36 then zu (zu (zu r 22 ph) 32 (zu r 22 ph 32 + 1)) 38 (zu r 22 ph 38 + off) else zu (zu (zu (zu r 22 ph) 32 (zu r 22 ph 32 + 1)) 38 (zu r 22 ph 38 + off)) 36 a
  have e35 : zu (zu (zu r 22 ph) 32 (zu r 22 ph 32 + 1)) 38 (zu r 22 ph 38 + off) 36 = r 36 := by rw [zu_ne (by decide), zu_ne (by decide), zu_ne (by decide)]
  rw [e35, zu_ne (show 32 ≠ 22 by decide), zu_ne (show 38 ≠ 22 by decide)]
  by_cases h : r 36 < a
  · have h2 : ¬ a ≤ r 36 := fun h3 => (hA.mpr h3) h
    rw [if_pos h, if_neg h2]
    funext j
    simp only [zu_ap]
    by_cases e1 : j = 22
    · subst e1; rfl
    · simp only [e1, if_false]
  · rw [if_neg h, if_pos (hA.mp h)]
    funext j
    simp only [zu_ap]
    by_cases e1 : j = 22
    · subst e1; rfl
    · simp only [e1, if_false]
      by_cases e2 : j = 36
      · subst e2; rfl
      · simp only [e2, if_false]
theorem C_print1 {ln : Nat → Nat} {σ : zS} {b p : Nat} {f : Nat → Nat → Int32} {s0 s1 : Int64} {r : Nat → Int32} (S : zMs (gr σ) ln b) (gp : gr σ b 0 = some p) (hp : p + 127 ≤ b ∨ b + 16 ≤ p) (PL : zPl σ ln p r) (h : RR f s0 s1 r) (hW : zW r) (hsum : -2147483648 ≤ (r 38).toInt + (rOff r 1).toInt ∧ (r 38).toInt + (rOff r 1).toInt < 2147483648) {Q : Int32 → zS → Prop} (hq : ∀ f' s0' s1', RR f' s0' s1' (rP2 (rPc (rTurned r 1 (pClamp (rOff r 1) (r 2))) 1 (rOff r 1)) 1 (pAbs (rOff r 1))) → Q (rPos r 1) (zcs σ b f' s0' s1')) : wX4_print ln (zcs σ b f s0 s1) (b + 4) (r 2) (r 0) Q := by
  have hN := hW.N
  have hP := hW.p1
  have hc := hW.c
  have hO := h.2.1.2
  have hs : s1 = (r 38).toInt64 := h.2.2.2.2.2.2.2.2
  obtain ⟨e1, e2, e3⟩ := rPos_lt (q := 1) hN ⟨hP.1, show (r 22).toInt < 28000 by omega⟩
  have e1 : (rNear r 1).toInt = ((r 22).toInt + 500) / 1000 := e1
  have t1 : (1000 : Int32).toInt = 1000 := rfl
  have eN : (1000 * r 0).toInt = 1000 * (r 0).toInt := by rw [nmul (by rw [t1]; omega) (by rw [t1]; omega), t1]
  have f0 : f 4 0 = r 22 := hO.1
  have f3 : f 4 3 = r 32 := hO.2.2.2.1
  have f5 : f 4 5 = r 36 := hO.2.2.2.2.2
  have hcl := pClamp_r (x := rOff r 1) hc
  have ncl' : (-(pClamp (rOff r 1) (r 2))).toInt = -(pClamp (rOff r 1) (r 2)).toInt := nneg (by omega)
  have e64 : (r 38).toInt64 + (rOff r 1).toInt64 = (r 38 + rOff r 1).toInt64 := by
    have hr := nrange (r 38)
    have hr2 := nrange (rOff r 1)
    rw [neq64, Int64.toInt_add, n64, n64, n64, nadd hsum.1 hsum.2]
    exact nbm64 (by omega) (by omega)
  have h1 := RRs_32 h (r 32 + 1)
  have h2 := RRs_38 h1 (r 38 + rOff r 1)
  have h3 := RRs_36 h2 (if r 36 < pAbs (rOff r 1) then pAbs (rOff r 1) else r 36)
  have h4 := RRs_22 h3 (mI ((r 22).toInt - (pClamp (rOff r 1) (r 2)).toInt) (1000 * (r 0).toInt))
  rw [rPr_e1] at h4
  simp only [wX4_print, wX4_nearestPosition, gi_zcs_k σ b _ _ _ (show 4 < 16 by decide), f0, f3, forall_eq, si_zcs_k σ b _ _ _ (show 4 < 16 by decide), gl_zcs_1, sl_zcs_1, hs]
  have eo : r 22 - 1000 * ((r 22 + 500) / 1000) = rOff r 1 := rfl
  have f5' : zf f 4 3 (r 32 + 1) 4 5 = r 36 := by
    have : zf f 4 3 (r 32 + 1) 4 5 = f 4 5 := by simp only [zf_ap, if_true, Nat.reduceEqDiff, if_false]
    rw [this]; exact f5
  have f0' : zf (zf f 4 3 (r 32 + 1)) 4 5 (if r 36 < pAbs (rOff r 1) then pAbs (rOff r 1) else r 36) 4 0 = r 22 := by
    have : zf (zf f 4 3 (r 32 + 1)) 4 5 (if r 36 < pAbs (rOff r 1) then pAbs (rOff r 1) else r 36) 4 0 = f 4 0 := by simp only [zf_ap, if_true, Nat.reduceEqDiff, if_false]
    rw [this]; exact f0
  simp only [eo, pAbs_e, f5', e64, pClamp_e hc]
  simp only [wX4_turn, gi_zcs_k σ b _ _ _ (show 4 < 16 by decide), f0', forall_eq]
  refine wmodulo (by rw [eN]; omega) ?_
  have ea : (r 22 + -pClamp (rOff r 1) (r 2)).toInt = (r 22).toInt - (pClamp (rOff r 1) (r 2)).toInt := by rw [nadd (by omega) (by omega), ncl']; omega
  rw [ea, eN]
  simp only [si_zcs_k σ b _ _ _ (show 4 < 16 by decide)]
  refine wmodulo (by omega) ?_
  have ep : mI ((r 22 + 500) / 1000).toInt (r 0).toInt = rPos r 1 := by
    rw [neq, mIt (by omega) (by omega), e3]
    show (rNear r 1).toInt % _ = _
    rw [e1]
  rw [ep]
  exact hq _ _ _ h4
theorem C_take {ln : Nat → Nat} {σ : zS} {b p : Nat} {f : Nat → Nat → Int32} {s0 s1 : Int64} {r : Nat → Int32} (S : zMs (gr σ) ln b) (gp : gr σ b 0 = some p) (hp : p + 127 ≤ b ∨ b + 16 ≤ p) (PL : zPl σ ln p r) (h : RR f s0 s1 r) (hW : zW r) (h13 : r 13 = 0 ∨ r 13 = 1) {v : Int32} (hv : 0 ≤ v.toInt ∧ v.toInt < 28) {Q : zS → Prop} (hq : ∀ f', RR f' s0 s1 (if ¬ 2 ≤ v ∧ v = r 13 then zu r 14 1 else rTake r v) → Q (zcs σ b f' s0 s1)) : wX7_take ln (zcs σ b f s0 s1) (b + 7) v Q := by
  have S' := S
  obtain ⟨⟨m1, m2, m3, m4, m5, m6⟩, ⟨a1, a2, a3, a4, a5, a6, a7, a8, a9⟩, ⟨l1, l2, l3, l4, l5, l6⟩⟩ := S
  obtain ⟨nb, ne, nz, nm0, nm1, nt⟩ := hW.bn
  have hb := hW.b
  have c0 := ncl hb.1
  have hB := h.2.2.2.1
  have f1 : f 7 1 = r 12 := hB.1
  have f2 : f 7 2 = r 13 := hB.2.1
  have fs : f 8 1 = r 11 := hB.2.2.2.1
  have h7 : (7 : Nat) < 16 := by decide
  have t2 : (2 : Int32).toInt = 2 := rfl
  simp only [wX7_take, gi_zcs_k σ b _ s0 s1 h7, f2, si_zcs_k σ b _ s0 s1 h7, forall_eq]
  refine ⟨fun he => ?_, fun he => ⟨fun h2 => ?_, fun h2 => ?_⟩⟩
  · have hn : ¬ 2 ≤ v := by
      rw [he]
      rcases h13 with e | e <;> rw [e] <;> decide
    rw [if_pos ⟨hn, he⟩] at hq
    exact hq _ (RRs_14 h nb 1)
  · rw [if_neg (fun hc => hc.1 h2)] at hq
    have hv2 : 2 ≤ v.toInt := by rw [nle] at h2; exact h2
    unfold rTake at hq
    rw [if_pos h2] at hq
    have go : ∀ fg : Int32, (!decide (fg = 0)) = decide (r 13 = 1) → wX7_take_45 ln Q (b + 7) (b + 8) v fg (zcs σ b f s0 s1) := by
      intro fg hfg
      refine w_chr hv2 hv.2 ?_
      refine c_radd (c := 8) (cap := 40) (by decide) a6 l3 (by decide) (by rw [fs]; exact hb.1) ?_
      unfold cAdd
      rw [fs, hfg]
      by_cases h40 : nI 40 ≤ r 11
      · rw [if_pos h40]
        rw [if_pos (show 40 ≤ r 11 from h40)] at hq
        have := RRs_12 h nb (r 12 + 1)
        simp only [gi_zcs_k σ b _ s0 s1 h7, f1, si_zcs_k σ b _ s0 s1 h7, forall_eq]
        exact hq _ this
      · rw [if_neg h40]
        rw [if_neg (show ¬ 40 ≤ r 11 from h40)] at hq
        have h39 : (r 11).toInt ≤ 39 := by
          rw [nle] at h40
          have : (nI 40).toInt = 40 := rfl
          omega
        have h1 := RRs_buf nz h h39 hb.1 (zchr v (decide (r 13 = 1)))
        have hn1 : (rLetter r v 11).toNatClampNeg ≤ 40 := by
          have e1 : (r 11 + 1).toInt = (r 11).toInt + 1 := ixs (k := 1) rfl (by decide) (by omega) (by omega)
          unfold rLetter
          rw [zu_self, ncln, e1]
          omega
        have h2' := RRs_12 h1 hn1 (rLetter r v 12 + 1)
        have f1' : zf (zf f 9 (r 11).toNatClampNeg (zchr v (decide (r 13 = 1)))) 8 1 (r 11 + 1) 7 1 = rLetter r v 12 := h1.2.2.2.1.1
        simp only [gi_zcs_k σ b _ s0 s1 h7, f1', si_zcs_k σ b _ s0 s1 h7, forall_eq]
        exact hq _ h2'
    simp only [gr_zcs, a5, Option.some.injEq, exists_eq_left']
    exact ⟨fun h3 => go 1 (by rw [h3]; decide), fun h3 => go 0 (by simp [h3])⟩
  · rw [if_neg (fun hc => he hc.2)] at hq
    unfold rTake at hq
    rw [if_neg h2] at hq
    have h1 := RRs_13 h nb v
    have h2' := RRs_12 h1 (by rw [zu_ne (by decide)]; exact nb) (zu r 13 v 12 + 1)
    have f1' : zf f 7 2 v 7 1 = zu r 13 v 12 := h1.2.2.2.1.1
    rw [f1']
    exact hq _ h2'
theorem rTake_nc {r : Nat → Int32} {v : Int32} : True := trivial

/-! from 69.check -/
/-! THE CLASS'S STEPS: checks, pulses that arrive -/
theorem zu_comm (r : Nat → Int32) {k k' : Nat} (h : k ≠ k') (v v' : Int32) : zu (zu r k v) k' v' = zu (zu r k' v') k v := by
  funext j
  simp only [zu_ap]
  by_cases e : j = k
  · subst e; rw [if_neg h, if_pos rfl, if_pos rfl]
  · rw [if_neg e, if_neg e]
theorem RRs_recv0 {f : Nat → Nat → Int32} {s0 s1 : Int64} {r : Nat → Int32} (h : RR f s0 s1 r) (hW : zW r) (v : Int32) : RR (cAdd f 2 1000 v) s0 s1 (rReceives r 0 v) := by
  have hm := hW.m0
  obtain ⟨h1, ⟨h2, h2'⟩, ⟨h3, h3'⟩, h4, h5, h6, h7, h8, h9⟩ := h
  have c0 := ncl hm.1
  have eV : f 2 1 = r 29 := h3.1
  unfold cAdd rReceives
  rw [eV]
  by_cases hc : nI 1000 ≤ r 29
  · have h1000 : r (29 + 0) = 1000 := by
      show r 29 = 1000
      rw [nle] at hc
      have t : (nI 1000).toInt = 1000 := rfl
      have t2 : (1000 : Int32).toInt = 1000 := rfl
      rw [neq]; omega
    rw [if_pos hc, if_pos h1000]
    exact ⟨h1, ⟨h2, h2'⟩, ⟨h3, h3'⟩, h4, h5, h6, h7, h8, h9⟩
  · have h1000 : ¬ r (29 + 0) = 1000 := fun e => hc (by
      have e : r 29 = 1000 := e
      rw [e]; decide)
    have h999 : (r 29).toInt ≤ 999 := by
      rw [nle] at hc
      have t : (nI 1000).toInt = 1000 := rfl
      omega
    rw [if_neg hc, if_neg h1000]
    have e1 : (r 29 + 1).toInt = (r 29).toInt + 1 := ixs (k := 1) rfl (by decide) (by omega) (by omega)
    have c1 : (r 29 + 1).toNatClampNeg = (r 29).toNatClampNeg + 1 := by rw [ncln, e1]; omega
    obtain ⟨nb, ne, nz, nm0, nm1, nt⟩ := hW.bn
    have er : ∀ k, k ≠ 29 ∧ ¬ (963 ≤ k ∧ k < 1963) → zu (zu r (963 + 1000 * 0 + (r 29).toNatClampNeg) v) 29 (r 29 + 1) k = r k := fun k hk => by rw [zu_ne hk.1, zu_ne (by omega)]
    have ef : ∀ k, k ≠ 2 ∧ k ≠ 3 → zf (zf f 3 (r 29).toNatClampNeg v) 2 1 (r 29 + 1) k = f k := fun k hk => by rw [zf_ne hk.1, zf_ne hk.2]
    refine ⟨RS_c h1 (ef 0 (by omega)) (fun k hk => er k (by omega)), ⟨RO_c h2 (ef 1 (by omega)) (fun k hk => er k (by omega)), RO_c h2' (ef 4 (by omega)) (fun k hk => er k (by omega))⟩, ⟨?_, RV_c h3' (ef 5 (by omega)) (ef 6 (by omega)) (er _ (by omega)) (fun k hk => er _ (by omega))⟩, RB_c h4 (ef 7 (by omega)) (ef 8 (by omega)) (ef 9 (by omega)) (fun k hk => er k (by omega)) (fun k hk => er _ (by omega)), RT_c h5 (ef 10 (by omega)) (ef 11 (by omega)) (er _ (by omega)) (fun k hk => er _ (by omega)), RE_c h6 (ef 12 (by omega)) (ef 13 (by omega)) (er _ (by omega)) (fun k hk => er _ (by omega)), RZ_c h7 (ef 14 (by omega)) (ef 15 (by omega)) (er _ (by omega)) (fun k hk => er _ (by omega)), by rw [er 37 (by omega)]; exact h8, by rw [er 38 (by omega)]; exact h9⟩
    refine ⟨?_, fun j hj => ?_⟩
    · show zf (zf f 3 (r 29).toNatClampNeg v) 2 1 (r 29 + 1) 2 1 = zu _ 29 _ 29
      rw [zu_self]
      simp only [zf_ap, if_true]
    · have hj : j < (zu (zu r (963 + 1000 * 0 + (r 29).toNatClampNeg) v) 29 (r 29 + 1) 29).toNatClampNeg := hj
      rw [zu_self, c1] at hj
      show zf (zf f 3 (r 29).toNatClampNeg v) 2 1 (r 29 + 1) 3 j = zu (zu r (963 + 1000 * 0 + (r 29).toNatClampNeg) v) 29 (r 29 + 1) (963 + 1000 * 0 + j)
      rw [zf_ne (by decide), zf_eq, zu_ne (show 963 + 1000 * 0 + j ≠ 29 by omega)]
      by_cases e : j = (r 29).toNatClampNeg
      · subst e; rw [zu_self, zu_self]
      · rw [zu_ne e, zu_ne (by omega)]
        exact h3.2 j (show j < (r 29).toNatClampNeg by omega)
theorem RRs_recv1 {f : Nat → Nat → Int32} {s0 s1 : Int64} {r : Nat → Int32} (h : RR f s0 s1 r) (hW : zW r) (v : Int32) : RR (cAdd f 5 1000 v) s0 s1 (rReceives r 1 v) := by
  have hm := hW.m1
  obtain ⟨h1, ⟨h2, h2'⟩, ⟨h3, h3'⟩, h4, h5, h6, h7, h8, h9⟩ := h
  have c0 := ncl hm.1
  have eV : f 5 1 = r 30 := h3'.1
  unfold cAdd rReceives
  rw [eV]
  by_cases hc : nI 1000 ≤ r 30
  · have h1000 : r (29 + 1) = 1000 := by
      show r 30 = 1000
      rw [nle] at hc
      have t : (nI 1000).toInt = 1000 := rfl
      have t2 : (1000 : Int32).toInt = 1000 := rfl
      rw [neq]; omega
    rw [if_pos hc, if_pos h1000]
    exact ⟨h1, ⟨h2, h2'⟩, ⟨h3, h3'⟩, h4, h5, h6, h7, h8, h9⟩
  · have h1000 : ¬ r (29 + 1) = 1000 := fun e => hc (by
      have e : r 30 = 1000 := e
      rw [e]; decide)
    have h999 : (r 30).toInt ≤ 999 := by
      rw [nle] at hc
      have t : (nI 1000).toInt = 1000 := rfl
      omega
    rw [if_neg hc, if_neg h1000]
    have e1 : (r 30 + 1).toInt = (r 30).toInt + 1 := ixs (k := 1) rfl (by decide) (by omega) (by omega)
    have c1 : (r 30 + 1).toNatClampNeg = (r 30).toNatClampNeg + 1 := by rw [ncln, e1]; omega
    obtain ⟨nb, ne, nz, nm0, nm1, nt⟩ := hW.bn
    have er : ∀ k, k ≠ 30 ∧ ¬ (1963 ≤ k ∧ k < 2963) → zu (zu r (963 + 1000 * 1 + (r 30).toNatClampNeg) v) 30 (r 30 + 1) k = r k := fun k hk => by rw [zu_ne hk.1, zu_ne (by omega)]
    have ef : ∀ k, k ≠ 5 ∧ k ≠ 6 → zf (zf f 6 (r 30).toNatClampNeg v) 5 1 (r 30 + 1) k = f k := fun k hk => by rw [zf_ne hk.1, zf_ne hk.2]
    refine ⟨RS_c h1 (ef 0 (by omega)) (fun k hk => er k (by omega)), ⟨RO_c h2 (ef 1 (by omega)) (fun k hk => er k (by omega)), RO_c h2' (ef 4 (by omega)) (fun k hk => er k (by omega))⟩, ⟨RV_c h3 (ef 2 (by omega)) (ef 3 (by omega)) (er _ (by omega)) (fun k hk => er _ (by omega)), ?_⟩, RB_c h4 (ef 7 (by omega)) (ef 8 (by omega)) (ef 9 (by omega)) (fun k hk => er k (by omega)) (fun k hk => er _ (by omega)), RT_c h5 (ef 10 (by omega)) (ef 11 (by omega)) (er _ (by omega)) (fun k hk => er _ (by omega)), RE_c h6 (ef 12 (by omega)) (ef 13 (by omega)) (er _ (by omega)) (fun k hk => er _ (by omega)), RZ_c h7 (ef 14 (by omega)) (ef 15 (by omega)) (er _ (by omega)) (fun k hk => er _ (by omega)), by rw [er 37 (by omega)]; exact h8, by rw [er 38 (by omega)]; exact h9⟩
    refine ⟨?_, fun j hj => ?_⟩
    · show zf (zf f 6 (r 30).toNatClampNeg v) 5 1 (r 30 + 1) 5 1 = zu _ 30 _ 30
      rw [zu_self]
      simp only [zf_ap, if_true]
    · have hj : j < (zu (zu r (963 + 1000 * 1 + (r 30).toNatClampNeg) v) 30 (r 30 + 1) 30).toNatClampNeg := hj
      rw [zu_self, c1] at hj
      show zf (zf f 6 (r 30).toNatClampNeg v) 5 1 (r 30 + 1) 6 j = zu (zu r (963 + 1000 * 1 + (r 30).toNatClampNeg) v) 30 (r 30 + 1) (963 + 1000 * 1 + j)
      rw [zf_ne (by decide), zf_eq, zu_ne (show 963 + 1000 * 1 + j ≠ 30 by omega)]
      by_cases e : j = (r 30).toNatClampNeg
      · subst e; rw [zu_self, zu_self]
      · rw [zu_ne e, zu_ne (by omega)]
        exact h3'.2 j (show j < (r 30).toNatClampNeg by omega)
theorem rNotes_receives (r : Nat → Int32) {q : Nat} (hq : q ≤ 1) (c : Int32) {x y : Int32} (h0 : 0 ≤ (r 18).toInt ∧ (r 18).toInt ≤ 40) : rNotes (rReceives r q c) x y = rReceives (rNotes r x y) q c := by
  have e : rNotes r x y (29 + q) = r (29 + q) := rNotes_out r h0.1 h0.2 (by omega) (by omega)
  unfold rReceives
  rw [e]
  split
  · rfl
  · rw [rNotes_zu _ (by rw [zu_ne (by omega)]; exact h0) (by omega) (by omega) (by omega), rNotes_zu _ h0 (by omega) (by omega) (by omega)]
theorem rReceives_18 (r : Nat → Int32) {q : Nat} (hq : q ≤ 1) (c : Int32) : rReceives r q c 18 = r 18 := by
  unfold rReceives
  split
  · rfl
  · rw [zu_ne (by omega), zu_ne (by omega)]
theorem rRecvs_18 (r : Nat → Int32) {q : Nat} (hq : q ≤ 1) : ∀ k, rRecvs r q k 18 = r 18
  | 0 => rfl
  | k + 1 => (rReceives_18 _ hq _).trans (rRecvs_18 r hq k)
theorem rNotes_recvs (r : Nat → Int32) {q : Nat} (hq : q ≤ 1) {x y : Int32} (h0 : 0 ≤ (r 18).toInt ∧ (r 18).toInt ≤ 40) : ∀ k, k ≤ 40 → rNotes (rRecvs r q k) x y = rRecvs (rNotes r x y) q k
  | 0, _ => rfl
  | k + 1, hk => by
    have e : rNotes r x y (59 + k) = r (59 + k) := rNotes_out r h0.1 h0.2 (by omega) (by omega)
    show rNotes (rReceives (rRecvs r q k) q (r (59 + k))) x y = rReceives (rRecvs (rNotes r x y) q k) q (rNotes r x y (59 + k))
    rw [rNotes_receives _ hq _ (by rw [rRecvs_18 r hq]; exact h0), rNotes_recvs r hq h0 k (by omega), e]
theorem cAdd_ne {f : Nat → Nat → Int32} {c cap : Nat} {v : Int32} {k : Nat} (h : k ≠ c) (h2 : k ≠ c + 1) : cAdd f c cap v k = f k := by
  unfold cAdd
  split
  · rfl
  · rw [zf_ne h, zf_ne h2]
theorem C_end0 {ln : Nat → Nat} {σ : zS} {b p : Nat} {f : Nat → Nat → Int32} {s0 s1 : Int64} {r : Nat → Int32} (S : zMs (gr σ) ln b) (gp : gr σ b 0 = some p) (hp : p + 127 ≤ b ∨ b + 16 ≤ p) (PL : zPl σ ln p r) (h : RR f s0 s1 r) (hW : zW r) (h19 : (r 19).toInt ≤ 599) (g : Bool) {Q : zS → Prop} (hq : ∀ f', RR f' s0 s1 (rClears (rSends r (if g then 1 else 2) 0)) → Q (zcs σ b f' s0 s1)) : wX3_checkLine_121 ln Q b (zg g) (zcs σ b f s0 s1) := by
  have S' := S
  obtain ⟨⟨m1, m2, m3, m4, m5, m6⟩, ⟨a1, a2, a3, a4, a5, a6, a7, a8, a9⟩, ⟨l1, l2, l3, l4, l5, l6⟩⟩ := S
  have PL' := PL
  obtain ⟨⟨pn, pdl, pg, pr⟩, -⟩ := PL'
  have gd : gi (zcs σ b f s0 s1) p 1 = r 1 := by rw [gi_zcs_o _ _ _ _ _ (by omega)]; exact pdl
  have e01 : f 0 1 = r 5 := h.1.1
  simp only [wX3_checkLine_121, wX3_checkLine_146, gr_zcs, m4, gp, Option.some.injEq, exists_eq_left', gi_zcs_b, e01, gd]
  have go : ∀ w : Int32, w = (if g then 1 else 2) → wX8_add ln (zcs σ b f s0 s1) (b + 10) (r 5 + r 1) w (-1) (fun σ1 => ∃ j2, gr σ1 b 13 = some j2 ∧ wX7_clear ln σ1 j2 (fun σ3 => Q σ3)) := by
    intro w ew
    subst ew
    refine C_send S' h hW h19 rfl (v := 0) (fun e => absurd e (by cases g <;> decide)) (fun f1 h1 => ?_)
    simp only [gr_zcs, m3, Option.some.injEq, exists_eq_left']
    have e11 : rSends r (if g then 1 else 2) 0 11 = r 11 := by unfold rSends; exact rPut_out r (by decide) (by omega)
    exact C_clears S' h1 (by rw [e11]; exact hW.b.1) hq
  cases g
  · exact ⟨fun _ => go 2 rfl, fun h => absurd rfl h⟩
  · exact ⟨fun h => absurd h (by decide), fun _ => go 1 rfl⟩
theorem C_check43_0 {ln : Nat → Nat} {σ : zS} {b p : Nat} (S : zMs (gr σ) ln b) (gp : gr σ b 0 = some p) (hp : p + 127 ≤ b ∨ b + 16 ≤ p) {r : Nat → Int32} {s0 s1 : Int64} (PL : zPl σ ln p r) (hW : zW r) (h19 : (r 19).toInt ≤ 599) {m : Nat} (hm : m ≤ 40) (e11 : r 11 = nI m) {Q : zS → Prop} (hq : ∀ f', RR f' s0 s1 (rClears (rSends (rReceives (rRecvs (rNotes r 1 (r 11)) 0 m) 0 47) 1 0)) → Q (zcs σ b f' s0 s1)) : ∀ d k : Nat, k + d = m → ∀ f, RR f s0 s1 (rRecvs r 0 k) → wX3_checkLine_43 ln Q (d + 1) b (b + 1) 1 (b + 8) (nI k) (zcs σ b f s0 s1) := by
  have S' := S
  obtain ⟨⟨m1, m2, m3, m4, m5, m6⟩, ⟨a1, a2, a3, a4, a5, a6, a7, a8, a9⟩, ⟨l1, l2, l3, l4, l5, l6⟩⟩ := S
  have hq2 : 0 ≤ 1 := by decide
  have hm0 := hW.mq (q := 0) (by decide)
  intro d
  induction d with
  | zero =>
    intro k hk f h
    obtain rfl : k = m := by omega
    have hWk := zW_recvs hW (q := 0) (by decide) k
    have hk11 : rRecvs r 0 k 11 = nI k := (rRecvs_out r 0 hm0.1 hm0.2 (by decide) (by decide) k).trans e11
    have f81 : f 8 1 = nI k := h.2.2.2.1.2.2.2.1.trans hk11
    have hc : nI k ≤ nI k := nI_le (Nat.le_refl k) (by omega)
    rw [wX3_checkLine_43]
    simp only [wX9_size, gi_zcs_k σ b _ _ _ (show 8 < 16 by decide), f81, hc, not_true, false_imp_iff, and_true, true_implies, gr_zcs, a1, Option.some.injEq, exists_eq_left']
    have h29 : f 2 1 = rRecvs r 0 k 29 := h.2.2.1.1.1
    refine c_radd (c := 2) (cap := 1000) (by decide) a3 l1 (by decide) (by rw [h29]; exact (hWk.mq (q := 0) (by decide)).1) ?_
    have h1 := RRs_recv0 h hWk 47
    have e1 : cAdd f 2 1000 47 8 1 = nI k := by rw [cAdd_ne (by decide) (by decide)]; exact f81
    have e2 : cAdd f 2 1000 47 0 1 = r 5 := by
      rw [cAdd_ne (by decide) (by decide)]
      exact h.1.1.trans (rRecvs_out r 0 hm0.1 hm0.2 (by decide) (by decide) k)
    have hb18 : rReceives (rRecvs r 0 k) 0 47 18 = r 18 := (rReceives_18 _ hq2 _).trans (rRecvs_18 r hq2 k)
    have hWr := zW_receives hWk (q := 0) (by decide) 47
    have e5 : r 5 = rReceives (rRecvs r 0 k) 0 47 5 := by
      have hmk := hWk.mq (q := 0) (by decide)
      rw [rReceives_out _ 0 _ hmk.1 hmk.2 (by decide) (by decide)]
      exact (rRecvs_out r 0 hm0.1 hm0.2 (by decide) (by decide) k).symm
    simp only [gr_zcs, m5, Option.some.injEq, exists_eq_left', gi_zcs_k σ b _ _ _ (show 8 < 16 by decide), gi_zcs_b, e1, e2, forall_eq]
    refine C_event S' h1 hWr (c := 1) (v := nI k) e5 (fun f2 h2 => ?_)
    rw [rNotes_receives _ hq2 _ (by rw [rRecvs_18 r hq2]; exact hW.e), rNotes_recvs r hq2 hW.e k (by omega)] at h2
    have hWn := zW_receives (zW_recvs (zW_notes (x := 1) (y := nI k) hW) (q := 0) (by decide) k) (q := 0) (by decide) 47
    have hkn : zkp r (rReceives (rRecvs (rNotes r 1 (nI k)) 0 k) 0 47) := zkp_receives (zkp_recvs (zkp_notes (fun _ _ => rfl) hW.e) hq2 k) hq2 _
    have e19 : rReceives (rRecvs (rNotes r 1 (nI k)) 0 k) 0 47 19 = r 19 := by
      have hmn := (zW_notes (x := 1) (y := nI k) hW).mq (q := 0) (by decide)
      have hmk := (zW_recvs (zW_notes (x := 1) (y := nI k) hW) (q := 0) (by decide) k).mq (q := 0) (by decide)
      rw [rReceives_out _ 0 _ hmk.1 hmk.2 (by decide) (by decide), rRecvs_out _ 0 hmn.1 hmn.2 (by decide) (by decide), rNotes_out r hW.e.1 hW.e.2 (by decide) (by decide)]
    rw [e11] at hq
    exact C_end0 S' gp hp (PL.c hkn hW) h2 hWn (by rw [e19]; exact h19) true hq
  | succ d ih =>
    intro k hk f h
    have hWk := zW_recvs hW (q := 0) (by decide) k
    have hk11 : rRecvs r 0 k 11 = nI m := (rRecvs_out r 0 hm0.1 hm0.2 (by decide) (by decide) k).trans e11
    have f81 : f 8 1 = nI m := h.2.2.2.1.2.2.2.1.trans hk11
    have hc : ¬ nI m ≤ nI k := nI_ge (by omega) (by omega)
    rw [wX3_checkLine_43]
    simp only [wX9_size, gi_zcs_k σ b _ _ _ (show 8 < 16 by decide), f81, hc, false_imp_iff, not_false_eq_true, true_implies, true_and, gr_zcs, a1, Option.some.injEq, exists_eq_left']
    refine c_rget (c := 8) (cap := 40) (by decide) a6 l3 (by decide) f81 hm rfl (by omega) ?_
    have e9 : f 9 k = r (59 + k) := by
      have hb := h.2.2.2.1.2.2.2.2 k (by rw [hk11, nI_clamp (by omega)]; omega)
      rw [hb]
      exact rRecvs_out r 0 hm0.1 hm0.2 (by omega) (by omega) k
    rw [e9]
    have h29 : f 2 1 = rRecvs r 0 k 29 := h.2.2.1.1.1
    refine c_radd (c := 2) (cap := 1000) (by decide) a3 l1 (by decide) (by rw [h29]; exact (hWk.mq (q := 0) (by decide)).1) ?_
    have h1 := RRs_recv0 h hWk (r (59 + k))
    simp only [forall_eq, nI_1]
    exact ih (k + 1) (by omega) _ h1
theorem C_check43_1 {ln : Nat → Nat} {σ : zS} {b p : Nat} (S : zMs (gr σ) ln b) (gp : gr σ b 0 = some p) (hp : p + 127 ≤ b ∨ b + 16 ≤ p) {r : Nat → Int32} {s0 s1 : Int64} (PL : zPl σ ln p r) (hW : zW r) (h19 : (r 19).toInt ≤ 599) {m : Nat} (hm : m ≤ 40) (e11 : r 11 = nI m) {Q : zS → Prop} (hq : ∀ f', RR f' s0 s1 (rClears (rSends (rReceives (rRecvs (rNotes r 1 (r 11)) 1 m) 1 47) 1 0)) → Q (zcs σ b f' s0 s1)) : ∀ d k : Nat, k + d = m → ∀ f, RR f s0 s1 (rRecvs r 1 k) → wX3_checkLine_43 ln Q (d + 1) b (b + 4) 1 (b + 8) (nI k) (zcs σ b f s0 s1) := by
  have S' := S
  obtain ⟨⟨m1, m2, m3, m4, m5, m6⟩, ⟨a1, a2, a3, a4, a5, a6, a7, a8, a9⟩, ⟨l1, l2, l3, l4, l5, l6⟩⟩ := S
  have hq2 : 1 ≤ 1 := by decide
  have hm0 := hW.mq (q := 1) (by decide)
  intro d
  induction d with
  | zero =>
    intro k hk f h
    obtain rfl : k = m := by omega
    have hWk := zW_recvs hW (q := 1) (by decide) k
    have hk11 : rRecvs r 1 k 11 = nI k := (rRecvs_out r 1 hm0.1 hm0.2 (by decide) (by decide) k).trans e11
    have f81 : f 8 1 = nI k := h.2.2.2.1.2.2.2.1.trans hk11
    have hc : nI k ≤ nI k := nI_le (Nat.le_refl k) (by omega)
    rw [wX3_checkLine_43]
    simp only [wX9_size, gi_zcs_k σ b _ _ _ (show 8 < 16 by decide), f81, hc, not_true, false_imp_iff, and_true, true_implies, gr_zcs, a2, Option.some.injEq, exists_eq_left']
    have h29 : f 5 1 = rRecvs r 1 k 30 := h.2.2.1.2.1
    refine c_radd (c := 5) (cap := 1000) (by decide) a4 l2 (by decide) (by rw [h29]; exact (hWk.mq (q := 1) (by decide)).1) ?_
    have h1 := RRs_recv1 h hWk 47
    have e1 : cAdd f 5 1000 47 8 1 = nI k := by rw [cAdd_ne (by decide) (by decide)]; exact f81
    have e2 : cAdd f 5 1000 47 0 1 = r 5 := by
      rw [cAdd_ne (by decide) (by decide)]
      exact h.1.1.trans (rRecvs_out r 1 hm0.1 hm0.2 (by decide) (by decide) k)
    have hb18 : rReceives (rRecvs r 1 k) 1 47 18 = r 18 := (rReceives_18 _ hq2 _).trans (rRecvs_18 r hq2 k)
    have hWr := zW_receives hWk (q := 1) (by decide) 47
    have e5 : r 5 = rReceives (rRecvs r 1 k) 1 47 5 := by
      have hmk := hWk.mq (q := 1) (by decide)
      rw [rReceives_out _ 1 _ hmk.1 hmk.2 (by decide) (by decide)]
      exact (rRecvs_out r 1 hm0.1 hm0.2 (by decide) (by decide) k).symm
    simp only [gr_zcs, m5, Option.some.injEq, exists_eq_left', gi_zcs_k σ b _ _ _ (show 8 < 16 by decide), gi_zcs_b, e1, e2, forall_eq]
    refine C_event S' h1 hWr (c := 1) (v := nI k) e5 (fun f2 h2 => ?_)
    rw [rNotes_receives _ hq2 _ (by rw [rRecvs_18 r hq2]; exact hW.e), rNotes_recvs r hq2 hW.e k (by omega)] at h2
    have hWn := zW_receives (zW_recvs (zW_notes (x := 1) (y := nI k) hW) (q := 1) (by decide) k) (q := 1) (by decide) 47
    have hkn : zkp r (rReceives (rRecvs (rNotes r 1 (nI k)) 1 k) 1 47) := zkp_receives (zkp_recvs (zkp_notes (fun _ _ => rfl) hW.e) hq2 k) hq2 _
    have e19 : rReceives (rRecvs (rNotes r 1 (nI k)) 1 k) 1 47 19 = r 19 := by
      have hmn := (zW_notes (x := 1) (y := nI k) hW).mq (q := 1) (by decide)
      have hmk := (zW_recvs (zW_notes (x := 1) (y := nI k) hW) (q := 1) (by decide) k).mq (q := 1) (by decide)
      rw [rReceives_out _ 1 _ hmk.1 hmk.2 (by decide) (by decide), rRecvs_out _ 1 hmn.1 hmn.2 (by decide) (by decide), rNotes_out r hW.e.1 hW.e.2 (by decide) (by decide)]
    rw [e11] at hq
    exact C_end0 S' gp hp (PL.c hkn hW) h2 hWn (by rw [e19]; exact h19) true hq
  | succ d ih =>
    intro k hk f h
    have hWk := zW_recvs hW (q := 1) (by decide) k
    have hk11 : rRecvs r 1 k 11 = nI m := (rRecvs_out r 1 hm0.1 hm0.2 (by decide) (by decide) k).trans e11
    have f81 : f 8 1 = nI m := h.2.2.2.1.2.2.2.1.trans hk11
    have hc : ¬ nI m ≤ nI k := nI_ge (by omega) (by omega)
    rw [wX3_checkLine_43]
    simp only [wX9_size, gi_zcs_k σ b _ _ _ (show 8 < 16 by decide), f81, hc, false_imp_iff, not_false_eq_true, true_implies, true_and, gr_zcs, a2, Option.some.injEq, exists_eq_left']
    refine c_rget (c := 8) (cap := 40) (by decide) a6 l3 (by decide) f81 hm rfl (by omega) ?_
    have e9 : f 9 k = r (59 + k) := by
      have hb := h.2.2.2.1.2.2.2.2 k (by rw [hk11, nI_clamp (by omega)]; omega)
      rw [hb]
      exact rRecvs_out r 1 hm0.1 hm0.2 (by omega) (by omega) k
    rw [e9]
    have h29 : f 5 1 = rRecvs r 1 k 30 := h.2.2.1.2.1
    refine c_radd (c := 5) (cap := 1000) (by decide) a4 l2 (by decide) (by rw [h29]; exact (hWk.mq (q := 1) (by decide)).1) ?_
    have h1 := RRs_recv1 h hWk (r (59 + k))
    simp only [forall_eq, nI_1]
    exact ih (k + 1) (by omega) _ h1

