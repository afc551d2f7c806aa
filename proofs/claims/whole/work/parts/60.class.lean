/-! THE CLASS'S MACHINE: its store over a base store; rows and records -/
def zf (f : Nat → Nat → Int32) (k j : Nat) (v : Int32) : Nat → Nat → Int32 := fun a => if a = k then zu (f k) j v else f a
theorem zf_ap (f : Nat → Nat → Int32) (k j : Nat) (v : Int32) (a i : Nat) : zf f k j v a i = if a = k then (if i = j then v else f k i) else f a i := by
  unfold zf
  split <;> rfl
theorem zf_ne {f : Nat → Nat → Int32} {k j : Nat} {v : Int32} {a : Nat} (h : a ≠ k) : zf f k j v a = f a := if_neg h
theorem zf_eq (f : Nat → Nat → Int32) (k j : Nat) (v : Int32) : zf f k j v k = zu (f k) j v := if_pos rfl
/-- sixteen cells from b on hold f; the two offices' sums -/
def zcs (σ : zS) (b : Nat) (f : Nat → Nat → Int32) (s0 s1 : Int64) : zS := (fun a => if b ≤ a ∧ a < b + 16 then f (a - b) else σ.1 a, σ.2.1, fun a => if a = b + 1 then (fun j => if j = 6 then s0 else σ.2.2.1 a j) else if a = b + 4 then (fun j => if j = 6 then s1 else σ.2.2.1 a j) else σ.2.2.1 a, σ.2.2.2)
theorem gr_zcs (σ : zS) (b : Nat) (f : Nat → Nat → Int32) (s0 s1 : Int64) : gr (zcs σ b f s0 s1) = gr σ := rfl
theorem gi_zcs (σ : zS) (b : Nat) (f : Nat → Nat → Int32) (s0 s1 : Int64) (a : Nat) : gi (zcs σ b f s0 s1) a = if b ≤ a ∧ a < b + 16 then f (a - b) else gi σ a := by
  show (if b ≤ a ∧ a < b + 16 then f (a - b) else σ.1 a) = _
  split <;> rfl
theorem gi_zcs_b (σ : zS) (b : Nat) (f : Nat → Nat → Int32) (s0 s1 : Int64) : gi (zcs σ b f s0 s1) b = f 0 := by
  rw [gi_zcs, if_pos (by omega), Nat.sub_self]
theorem gi_zcs_k (σ : zS) (b : Nat) (f : Nat → Nat → Int32) (s0 s1 : Int64) {k : Nat} (hk : k < 16) : gi (zcs σ b f s0 s1) (b + k) = f k := by
  rw [gi_zcs, if_pos (by omega), Nat.add_sub_cancel_left]
theorem gi_zcs_o (σ : zS) (b : Nat) (f : Nat → Nat → Int32) (s0 s1 : Int64) {a : Nat} (h : ¬ (b ≤ a ∧ a < b + 16)) : gi (zcs σ b f s0 s1) a = gi σ a := by
  rw [gi_zcs, if_neg h]
theorem zS_ext2 {σ τ : zS} (h1 : ∀ a j, gi σ a j = gi τ a j) (h2 : σ.2.1 = τ.2.1) (h3 : ∀ a j, gl σ a j = gl τ a j) (h4 : σ.2.2.2 = τ.2.2.2) : σ = τ := by
  obtain ⟨s1, s2, s3, s4⟩ := σ
  obtain ⟨t1, t2, t3, t4⟩ := τ
  have e : s1 = t1 := funext fun a => funext fun j => h1 a j
  have e3 : s3 = t3 := funext fun a => funext fun j => h3 a j
  have e2 : s2 = t2 := h2
  have e4 : s4 = t4 := h4
  rw [e, e2, e3, e4]
theorem si_zcs_k (σ : zS) (b : Nat) (f : Nat → Nat → Int32) (s0 s1 : Int64) {k : Nat} (hk : k < 16) (j : Nat) (v : Int32) : si (zcs σ b f s0 s1) (b + k) j v = zcs σ b (zf f k j v) s0 s1 := by
  refine zS_ext2 (fun a i => ?_) rfl (fun a i => rfl) rfl
  rw [gi_si, gi_zcs, gi_zcs]
  by_cases h : a = b + k
  · subst h
    have h1 : b ≤ b + k ∧ b + k < b + 16 := by omega
    simp only [if_pos h1, Nat.add_sub_cancel_left, zf_ap, if_true]
  · rw [if_neg h]
    by_cases h2 : b ≤ a ∧ a < b + 16
    · rw [if_pos h2, if_pos h2, zf_ne (by omega)]
    · rw [if_neg h2, if_neg h2]
theorem si_zcs_b (σ : zS) (b : Nat) (f : Nat → Nat → Int32) (s0 s1 : Int64) (j : Nat) (v : Int32) : si (zcs σ b f s0 s1) b j v = zcs σ b (zf f 0 j v) s0 s1 := si_zcs_k σ b f s0 s1 (k := 0) (by decide) j v
theorem gl_zcs_0 (σ : zS) (b : Nat) (f : Nat → Nat → Int32) (s0 s1 : Int64) : gl (zcs σ b f s0 s1) (b + 1) 6 = s0 := by
  show (if b + 1 = b + 1 then (fun j => if j = 6 then s0 else σ.2.2.1 (b + 1) j) else _) 6 = _
  rw [if_pos rfl]
  rfl
theorem gl_zcs_1 (σ : zS) (b : Nat) (f : Nat → Nat → Int32) (s0 s1 : Int64) : gl (zcs σ b f s0 s1) (b + 4) 6 = s1 := by
  show (if b + 4 = b + 1 then _ else if b + 4 = b + 4 then (fun j => if j = 6 then s1 else σ.2.2.1 (b + 4) j) else _) 6 = _
  rw [if_neg (by omega), if_pos rfl]
  rfl
theorem gl_zcs (σ : zS) (b : Nat) (f : Nat → Nat → Int32) (s0 s1 : Int64) (a j : Nat) : gl (zcs σ b f s0 s1) a j = if a = b + 1 then (if j = 6 then s0 else gl σ a j) else if a = b + 4 then (if j = 6 then s1 else gl σ a j) else gl σ a j := by
  show (if a = b + 1 then (fun j => if j = 6 then s0 else σ.2.2.1 a j) else if a = b + 4 then (fun j => if j = 6 then s1 else σ.2.2.1 a j) else σ.2.2.1 a) j = _
  split
  · rfl
  · split <;> rfl
theorem sl_zcs_0 (σ : zS) (b : Nat) (f : Nat → Nat → Int32) (s0 s1 v : Int64) : sl (zcs σ b f s0 s1) (b + 1) 6 v = zcs σ b f v s1 := by
  refine zS_ext2 (fun a i => rfl) rfl (fun a i => ?_) rfl
  rw [gl_sl, gl_zcs, gl_zcs]
  by_cases h : a = b + 1
  · rw [if_pos h, if_pos h, if_pos h]
    split <;> rfl
  · rw [if_neg h, if_neg h, if_neg h]
theorem sl_zcs_1 (σ : zS) (b : Nat) (f : Nat → Nat → Int32) (s0 s1 v : Int64) : sl (zcs σ b f s0 s1) (b + 4) 6 v = zcs σ b f s0 v := by
  refine zS_ext2 (fun a i => rfl) rfl (fun a i => ?_) rfl
  rw [gl_sl, gl_zcs, gl_zcs]
  by_cases h : a = b + 1
  · subst h
    rw [if_neg (by omega), if_pos rfl, if_pos rfl]
  · rw [if_neg h]
    by_cases h4 : a = b + 4
    · rw [if_pos h4, if_pos h4, if_neg h, if_pos h4]
      split <;> rfl
    · rw [if_neg h4, if_neg h4, if_neg h, if_neg h4]
section ZROW
variable {ln : Nat → Nat} {σ : zS} {b : Nat} {f : Nat → Nat → Int32} {s0 s1 : Int64} {c : Nat} {cap : Nat}
theorem c_rclear (hc : c < 16) {Q : zS → Prop} (hq : Q (zcs σ b (zf f c 1 0) s0 s1)) : wX9_clear ln (zcs σ b f s0 s1) (b + c) Q := by
  simp only [wX9_clear, si_zcs_k σ b f s0 s1 hc, forall_eq]
  exact hq
def cAdd (f : Nat → Nat → Int32) (c cap : Nat) (v : Int32) : Nat → Nat → Int32 := if nI cap ≤ f c 1 then f else zf (zf f (c + 1) (f c 1).toNatClampNeg v) c 1 (f c 1 + 1)
theorem c_radd (hc : c < 15) (g : gr σ (b + c) 0 = some (b + (c + 1))) (l : ln (b + (c + 1)) = cap) (hcap : cap < 2 ^ 31) (h0 : 0 ≤ (f c 1).toInt) {v : Int32} {Q : zS → Prop} (hq : Q (zcs σ b (cAdd f c cap v) s0 s1)) : wX9_add ln (zcs σ b f s0 s1) (b + c) v Q := by
  unfold cAdd at hq
  have hc1 : c + 1 < 16 := by omega
  have hc0 : c < 16 := by omega
  simp only [wX9_add, gr_zcs, gr_si, g, Option.some.injEq, exists_eq_left', l, gi_zcs_k σ b f s0 s1 hc0, forall_eq, si_zcs_k _ b _ s0 s1 hc1, gi_zcs_k _ b _ s0 s1 hc0, si_zcs_k _ b _ s0 s1 hc0]
  refine ⟨fun h => ?_, fun h => ?_⟩
  · rw [if_pos h] at hq; exact hq
  · rw [if_neg h] at hq
    have h2 : ¬ (nI cap).toInt ≤ (f c 1).toInt := fun hc => h ((nle _ _).mpr hc)
    rw [nI_toInt hcap] at h2
    refine ⟨nin h0 (by omega), ?_⟩
    rw [zf_ne (show c ≠ c + 1 by omega)]
    exact hq
theorem c_rget (hc : c < 15) (g : gr σ (b + c) 0 = some (b + (c + 1))) (l : ln (b + (c + 1)) = cap) (hcap : cap < 2 ^ 31) {m k : Nat} (hm : f c 1 = nI m) (hm2 : m ≤ cap) {v : Int32} (hk : v = nI k) (hk2 : k < m) {Q : Int32 → zS → Prop} (hq : Q (f (c + 1) k) (zcs σ b f s0 s1)) : wX9_get ln (zcs σ b f s0 s1) (b + c) v Q := by
  subst hk
  have hc1 : c + 1 < 16 := by omega
  have hc0 : c < 16 := by omega
  have e1 : ¬ nI k < 0 := nI_pos (by omega)
  have e2 : ¬ nI m ≤ nI k := nI_ge hk2 (by omega)
  have e3 : ¬ nI cap ≤ nI k := nI_ge (by omega) (by omega)
  have e4 : vp_in (nI k) cap := vp_in_nI (by omega) (by omega)
  have e5 : (nI k).toNatClampNeg = k := nI_clamp (by omega)
  simp only [wX9_get, gr_zcs, g, Option.some.injEq, exists_eq_left', l, gi_zcs_k σ b f s0 s1 hc0, gi_zcs_k σ b f s0 s1 hc1, hm, e1, e2, e3, e4, e5, false_imp_iff, not_false_eq_true, true_implies, true_and]
  exact hq
theorem c_rget_no (hc : c < 15) {m k : Nat} (hm : f c 1 = nI m) (hm2 : m < 2 ^ 31) {v : Int32} (hk : v = nI k) (hk2 : m ≤ k) (hk3 : k < 2 ^ 31) {Q : Int32 → zS → Prop} (hq : Q (-1) (zcs σ b f s0 s1)) : wX9_get ln (zcs σ b f s0 s1) (b + c) v Q := by
  subst hk
  have hc0 : c < 16 := by omega
  have e1 : ¬ nI k < 0 := nI_pos (by omega)
  have e2 : nI m ≤ nI k := nI_le hk2 (by omega)
  simp only [wX9_get, gi_zcs_k σ b f s0 s1 hc0, hm, e1, e2, false_imp_iff, not_false_eq_true, true_implies, true_and, not_true, and_true]
  exact hq
/-- the place of a record in its ring -/
def rix (cap s k : Nat) : Nat := if s + k < cap then s + k else s + k - cap
theorem rix_lt {cap s k : Nat} (hs : s < cap) (hk : k < cap) : rix cap s k < cap := by unfold rix; split <;> omega
theorem rix_inj {cap s k j : Nat} (hs : s < cap) (hk : k < cap) (hj : j < cap) (h : rix cap s k = rix cap s j) : k = j := by unfold rix at h; split at h <;> split at h <;> omega
theorem c_cellOf (hc : c < 15) {s k : Nat} (hcap : cap ≤ 100000) (h0 : f c 0 = nI cap) (h2 : f c 2 = nI s) (hs : s < cap) (hk : k ≤ cap) {v : Int32} (hv : v = nI k) {Q : Int32 → zS → Prop} (hq : Q (nI (3 * rix cap s k)) (zcs σ b f s0 s1)) : wX8_cellOf ln (zcs σ b f s0 s1) (b + c) v Q := by
  subst hv
  have hc0 : c < 16 := by omega
  have e1 : nI s + nI k = nI (s + k) := nI_add s k
  unfold rix at hq
  simp only [wX8_cellOf, gi_zcs_k σ b f s0 s1 hc0, h0, h2, e1, forall_eq]
  refine ⟨fun h => ?_, fun h => ?_⟩
  · have h3 := (nI_leI (by omega) (by omega)).mp h
    rw [if_neg (by omega)] at hq
    have e2 : nI (s + k) - nI cap = nI (s + k - cap) := pk_sub (a := s + k) (b := cap) h3
    have e3 : (3 : Int32) * nI (s + k - cap) = nI (3 * (s + k - cap)) := (Int32.ofNat_mul 3 _).symm
    rw [e2, e3]; exact hq
  · have h3 : ¬ cap ≤ s + k := fun h4 => h ((nI_leI (by omega) (by omega)).mpr h4)
    rw [if_pos (by omega)] at hq
    have e3 : (3 : Int32) * nI (s + k) = nI (3 * (s + k)) := (Int32.ofNat_mul 3 _).symm
    rw [e3]; exact hq
theorem c_recget (hc : c < 15) (g : gr σ (b + c) 1 = some (b + (c + 1))) (l : ln (b + (c + 1)) = 3 * cap) {s n k i : Nat} (hcap : cap ≤ 100000) (h0 : f c 0 = nI cap) (h2 : f c 2 = nI s) (h3 : f c 3 = nI n) (hs : s < cap) (hn : n ≤ cap) (hk : k < n) (hi : i < 3) {v w : Int32} (hv : v = nI k) (hw : w = nI i) {Q : Int32 → zS → Prop} (hq : Q (f (c + 1) (3 * rix cap s k + i)) (zcs σ b f s0 s1)) : wX8_get ln (zcs σ b f s0 s1) (b + c) v w Q := by
  subst hv hw
  have hc1 : c + 1 < 16 := by omega
  have hc0 : c < 16 := by omega
  have hr : rix cap s k < cap := rix_lt hs (by omega)
  have e1 : ¬ nI k < 0 := nI_pos (by omega)
  have e2 : ¬ nI n ≤ nI k := nI_ge hk (by omega)
  have e3 : ¬ nI i < 0 := nI_pos (by omega)
  have e4 : nI i < 3 := nI_lt (a := i) (b := 3) hi (by decide)
  simp only [wX8_get, gi_zcs_k σ b f s0 s1 hc0, h3, e1, e2, e3, e4, false_imp_iff, not_false_eq_true, true_implies, true_and, not_true, and_true]
  refine c_cellOf hc hcap h0 h2 hs (by omega) rfl ?_
  have e5 : nI (3 * rix cap s k) + nI i = nI (3 * rix cap s k + i) := nI_add _ _
  have e6 : ¬ nI (3 * cap) ≤ nI (3 * rix cap s k + i) := nI_ge (by omega) (by omega)
  have e7 : vp_in (nI (3 * rix cap s k + i)) (3 * cap) := vp_in_nI (by omega) (by omega)
  have e8 : (nI (3 * rix cap s k + i)).toNatClampNeg = 3 * rix cap s k + i := nI_clamp (by omega)
  simp only [gr_zcs, g, Option.some.injEq, exists_eq_left', l, e5, forall_eq, gi_zcs_k σ b f s0 s1 hc1, e6, e7, e8, false_imp_iff, not_false_eq_true, true_implies, true_and]
  exact hq
def cPut (f : Nat → Nat → Int32) (c x : Nat) (a1 a2 a3 : Int32) : Nat → Nat → Int32 := zf (zf (zf f (c + 1) x a1) (c + 1) (x + 1) a2) (c + 1) (x + 2) a3
theorem c_recadd15 (hc : c < 15) (g : gr σ (b + c) 1 = some (b + (c + 1))) (l : ln (b + (c + 1)) = 3 * cap) {s n : Nat} (hcap : cap ≤ 100000) (h0 : f c 0 = nI cap) (h2 : f c 2 = nI s) (h3 : f c 3 = nI n) (hs : s < cap) (hn : n < cap) {a1 a2 a3 : Int32} {Q : zS → Prop} (hq : Q (zcs σ b (zf (cPut f c (3 * rix cap s n) a1 a2 a3) c 3 (nI (n + 1))) s0 s1)) : wX8_add_15 ln Q (b + c) a1 a2 a3 (zcs σ b f s0 s1) := by
  have hc1 : c + 1 < 16 := by omega
  have hc0 : c < 16 := by omega
  have hr : rix cap s n < cap := rix_lt hs (by omega)
  unfold cPut at hq
  simp only [wX8_add_15, gi_zcs_k σ b f s0 s1 hc0, h3, forall_eq]
  refine c_cellOf hc hcap h0 h2 hs (by omega) rfl ?_
  have e1 : nI (3 * rix cap s n) + 1 = nI (3 * rix cap s n + 1) := nI_1 _
  have e2 : nI (3 * rix cap s n) + 2 = nI (3 * rix cap s n + 2) := nI_add _ 2
  have e6 : ¬ nI (3 * cap) ≤ nI (3 * rix cap s n + 2) := nI_ge (by omega) (by omega)
  have v0 : vp_in (nI (3 * rix cap s n)) (3 * cap) := vp_in_nI (by omega) (by omega)
  have v1 : vp_in (nI (3 * rix cap s n + 1)) (3 * cap) := vp_in_nI (by omega) (by omega)
  have v2 : vp_in (nI (3 * rix cap s n + 2)) (3 * cap) := vp_in_nI (by omega) (by omega)
  have i0 : (nI (3 * rix cap s n)).toNatClampNeg = 3 * rix cap s n := nI_clamp (by omega)
  have i1 : (nI (3 * rix cap s n + 1)).toNatClampNeg = 3 * rix cap s n + 1 := nI_clamp (by omega)
  have i2 : (nI (3 * rix cap s n + 2)).toNatClampNeg = 3 * rix cap s n + 2 := nI_clamp (by omega)
  have hne : c ≠ c + 1 := by omega
  simp only [gr_zcs, gr_si, g, Option.some.injEq, exists_eq_left', l, e1, e2, e6, v0, v1, v2, i0, i1, i2, forall_eq, false_imp_iff, not_false_eq_true, true_implies, true_and, si_zcs_k _ b _ s0 s1 hc1, gi_zcs_k _ b _ s0 s1 hc0, si_zcs_k _ b _ s0 s1 hc0, zf_ne hne, h3, nI_1]
  exact hq
def cDrop (f : Nat → Nat → Int32) (c cap s n : Nat) : Nat → Nat → Int32 := zf (zf f c 2 (nI (if s + 1 < cap then s + 1 else 0))) c 3 (nI (n - 1))
theorem c_recdrop (hc : c < 15) {s n : Nat} (hcap : cap ≤ 100000) (h0 : f c 0 = nI cap) (h2 : f c 2 = nI s) (h3 : f c 3 = nI n) (hs : s < cap) (hn : 0 < n) (hn2 : n ≤ cap) {Q : zS → Prop} (hq : Q (zcs σ b (cDrop f c cap s n) s0 s1)) : wX8_removeFirst ln (zcs σ b f s0 s1) (b + c) Q := by
  have hc0 : c < 16 := by omega
  have e1 : ¬ nI n ≤ 0 := nI_nle hn (by omega)
  have e2 : nI s + 1 = nI (s + 1) := nI_1 s
  have e3 : nI n - 1 = nI (n - 1) := pk_sub (a := n) (b := 1) hn
  unfold cDrop at hq
  simp only [wX8_removeFirst, wX8_removeFirst_31, gi_zcs_k σ b f s0 s1 hc0, h0, h2, h3, e1, e2, false_imp_iff, not_false_eq_true, true_implies, true_and, forall_eq, si_zcs_k _ b _ s0 s1 hc0, gi_zcs_k _ b _ s0 s1 hc0, zf_ap, if_true, Nat.reduceEqDiff, if_false, e3]
  refine ⟨fun h => ?_, fun h => ?_⟩
  · have h4 := (nI_leI (by omega) (by omega)).mp h
    rw [if_neg (by omega)] at hq
    exact hq
  · have h4 : ¬ cap ≤ s + 1 := fun h5 => h ((nI_leI (by omega) (by omega)).mpr h5)
    rw [if_pos (by omega)] at hq
    exact hq
theorem c_recadd (hc : c < 15) (g : gr σ (b + c) 1 = some (b + (c + 1))) (l : ln (b + (c + 1)) = 3 * cap) {s n : Nat} (hcap : cap ≤ 100000) (h0 : f c 0 = nI cap) (h2 : f c 2 = nI s) (h3 : f c 3 = nI n) (hs : s < cap) (hn : n ≤ cap) {a1 a2 a3 : Int32} {Q : zS → Prop}
    (hq : Q (zcs σ b (if n = cap then zf (cPut (cDrop f c cap s n) c (3 * rix cap (if s + 1 < cap then s + 1 else 0) (n - 1)) a1 a2 a3) c 3 (nI (n - 1 + 1)) else zf (cPut f c (3 * rix cap s n) a1 a2 a3) c 3 (nI (n + 1))) s0 s1)) : wX8_add ln (zcs σ b f s0 s1) (b + c) a1 a2 a3 Q := by
  have hc0 : c < 16 := by omega
  simp only [wX8_add, gi_zcs_k σ b f s0 s1 hc0, h0, h3]
  refine ⟨fun h => ?_, fun h => ?_⟩
  · have h4 := (nI_eq (by omega) (by omega)).mp h
    rw [if_pos h4] at hq
    refine c_recdrop hc hcap h0 h2 h3 hs (by omega) hn ?_
    have q0 : cDrop f c cap s n c 0 = nI cap := by
      unfold cDrop
      simp only [zf_ap, if_true, Nat.reduceEqDiff, if_false]
      exact h0
    have q2 : cDrop f c cap s n c 2 = nI (if s + 1 < cap then s + 1 else 0) := by
      unfold cDrop
      simp only [zf_ap, if_true, Nat.reduceEqDiff, if_false]
    have q3 : cDrop f c cap s n c 3 = nI (n - 1) := by
      unfold cDrop
      simp only [zf_ap, if_true]
    exact c_recadd15 hc g l hcap q0 q2 q3 (by split <;> omega) (by omega) hq
  · have h4 : ¬ n = cap := fun h5 => h (by rw [h5])
    rw [if_neg h4] at hq
    exact c_recadd15 hc g l hcap h0 h2 h3 hs (by omega) hq
end ZROW
