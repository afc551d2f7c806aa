/-! THE MODEL'S STEPS: the path of a line, lost pulses -/
theorem nlt64 (a b : Int64) : a < b ↔ a.toInt < b.toInt := Int64.lt_iff_toInt_lt
theorem neq64 (a b : Int64) : a = b ↔ a.toInt = b.toInt := Int64.toInt_inj.symm
theorem cmp_lt (x y : Int64) : lg_cmp x y < 0 ↔ x.toInt < y.toInt := by
  unfold lg_cmp
  by_cases h : x > y
  · rw [if_pos h]
    have h2 : y.toInt < x.toInt := (nlt64 y x).mp h
    exact ⟨fun h3 => absurd h3 (by decide), fun h3 => absurd h3 (by omega)⟩
  · rw [if_neg h]
    have h2 : ¬ y.toInt < x.toInt := fun h3 => h ((nlt64 y x).mpr h3)
    by_cases h4 : x = y
    · rw [if_pos h4]
      rw [neq64] at h4
      exact ⟨fun h3 => absurd h3 (by decide), fun h3 => absurd h3 (by omega)⟩
    · rw [if_neg h4]
      have h5 : x.toInt ≠ y.toInt := fun h => h4 ((neq64 x y).mpr h)
      exact ⟨fun _ => by omega, fun _ => by decide⟩
theorem cmp_gt (x y : Int64) : 0 < lg_cmp x y ↔ y.toInt < x.toInt := by
  unfold lg_cmp
  by_cases h : x > y
  · rw [if_pos h]
    have h2 : y.toInt < x.toInt := (nlt64 y x).mp h
    exact ⟨fun _ => h2, fun _ => by decide⟩
  · rw [if_neg h]
    have h2 : ¬ y.toInt < x.toInt := fun h3 => h ((nlt64 y x).mpr h3)
    by_cases h4 : x = y
    · rw [if_pos h4]
      exact ⟨fun h3 => absurd h3 (by decide), fun h3 => absurd h3 (by omega)⟩
    · rw [if_neg h4]
      exact ⟨fun h3 => absurd h3 (by decide), fun h3 => absurd h3 (by omega)⟩
theorem cmp_eq (x y : Int64) : lg_cmp x y = 0 ↔ x = y := by
  unfold lg_cmp
  by_cases h : x > y
  · rw [if_pos h]
    refine ⟨fun h3 => absurd h3 (by decide), fun h3 => ?_⟩
    subst h3
    exact absurd h (fun h => Int64.lt_irrefl h)
  · rw [if_neg h]
    by_cases h4 : x = y
    · rw [if_pos h4]
      exact ⟨fun _ => h4, fun _ => rfl⟩
    · rw [if_neg h4]
      exact ⟨fun h3 => absurd h3 (by decide), fun h3 => absurd h3 h4⟩
theorem w_isIn {ln : Nat → Nat} {σ : zS} {v lo hi : Int64} {Q : Int32 → zS → Prop} (hq : Q (if lo.toInt ≤ v.toInt ∧ v.toInt ≤ hi.toInt then 1 else 0) σ) : wX12_isIn ln σ v lo hi Q := by
  simp only [wX12_isIn, cmp_lt, cmp_gt]
  refine ⟨fun h => ?_, fun h => ⟨fun h2 => ?_, fun h2 => ?_⟩⟩
  · rw [if_neg (by omega)] at hq; exact hq
  · rw [if_neg (by omega)] at hq; exact hq
  · rw [if_pos (by omega)] at hq; exact hq
/-- digits, and a character's place on the wheel -/
def zdig (c : Int32) : Bool := decide (48 ≤ c.toInt ∧ c.toInt ≤ 57)
def zidx (c : Int32) : Int32 := if zdig c then c - 48 else c - 97
theorem w_isDigit {ln : Nat → Nat} {σ : zS} {c : Int32} {Q : Int32 → zS → Prop} (hq : Q (if zdig c then 1 else 0) σ) : wX12_isDigit ln σ c Q := by
  intro x e
  refine w_isIn ?_
  have e2 : x.toInt = c.toInt := by rw [e, n64]
  have l1 : (48 : Int64).toInt = 48 := rfl
  have l2 : (57 : Int64).toInt = 57 := rfl
  rw [e2, l1, l2]
  unfold zdig at hq
  by_cases h : 48 ≤ c.toInt ∧ c.toInt ≤ 57
  · rw [if_pos h]
    rw [decide_eq_true h, if_pos rfl] at hq
    exact ⟨Or.inr rfl, hq⟩
  · rw [if_neg h]
    rw [decide_eq_false h, if_neg (by decide)] at hq
    exact ⟨Or.inl rfl, hq⟩
theorem w_indexOf {ln : Nat → Nat} {σ : zS} {c : Int32} {Q : Int32 → zS → Prop} (hq : Q (zidx c) σ) : wX12_indexOf ln σ c Q := by
  unfold zidx at hq
  refine w_isDigit ?_
  cases h : zdig c
  · rw [h] at hq
    exact ⟨fun _ => hq, fun h => absurd rfl h⟩
  · rw [h] at hq
    exact ⟨fun h => absurd h (by decide), fun _ => hq⟩
def rLost (r : Nat → Int32) (num : Int32) : Bool := (List.range (r 20).toNatClampNeg).any fun k => decide (r (39 + k) = num)
theorem m_isLost {ln : Nat → Nat} {σ : zS} {r pf : Nat → Int32} {n far : Int32} (g1 : gr σ 455 1 = some 456) (l1 : ln 456 = 4763) (h0 : 0 ≤ (r 20).toInt) (h1 : (r 20).toInt ≤ 20) {num : Int32} {Q : Int32 → zS → Prop} (hq : Q (if rLost r num then 1 else 0) (zms σ r pf n far)) : wX12_isLost ln (zms σ r pf n far) 455 num Q := by
  have c0 := ncl h0
  have hm : (r 20).toNatClampNeg ≤ 20 := by omega
  have e20 : r 20 = nI (r 20).toNatClampNeg := by rw [neq, nI_toInt (by omega)]; omega
  have key : ∀ d k : Nat, k + d = (r 20).toNatClampNeg → (∀ j, j < k → r (39 + j) ≠ num) → wX12_isLost_2 ln Q (d + 1) 455 num (nI k) (zms σ r pf n far) := by
    intro d
    induction d with
    | zero =>
      intro k hk hj
      have hc : r 20 ≤ nI k := by rw [e20]; exact nI_le (by omega) (by omega)
      have hf : rLost r num = false := by
        unfold rLost
        rw [List.any_eq_false]
        intro j hj2
        have := hj j (by have := List.mem_range.mp hj2; omega)
        simp [this]
      rw [hf] at hq
      rw [wX12_isLost_2]
      simp only [gr_zms, g1, Option.some.injEq, exists_eq_left', l1, si_zms_q, gi_zms_q, forall_eq, true_and, vq20, cq20, hc, not_true, false_imp_iff, and_true, true_implies]
      exact hq
    | succ d ih =>
      intro k hk hj
      have hc : ¬ r 20 ≤ nI k := by rw [e20]; exact nI_ge (by omega) (by omega)
      have x0 : (39 : Int32) + nI k = nI (39 + k) := nI_add 39 k
      have v0 : vp_in (nI (39 + k)) 4763 := vp_in_nI (by omega) (by omega)
      have i0 : (nI (39 + k)).toNatClampNeg = 39 + k := nI_clamp (by omega)
      rw [wX12_isLost_2]
      simp only [gr_zms, g1, Option.some.injEq, exists_eq_left', l1, si_zms_q, gi_zms_q, forall_eq, true_and, vq20, cq20, hc, x0, v0, i0, false_imp_iff, not_false_eq_true, true_implies, nI_1]
      refine ⟨fun h => ?_, fun h => ?_⟩
      · have ht : rLost r num = true := by
          unfold rLost
          rw [List.any_eq_true]
          exact ⟨k, List.mem_range.mpr (by omega), by simp [h]⟩
        rw [ht] at hq
        exact hq
      · exact ih (k + 1) (by omega) (fun j hj2 => by
          by_cases e : j = k
          · rw [e]; exact h
          · exact hj j (by omega))
  exact ⟨(r 20).toNatClampNeg + 1, key (r 20).toNatClampNeg 0 (by omega) (fun j hj => absurd hj (Nat.not_lt_zero j))⟩
/-- the path of a line: its positions so far, and the shift that holds -/
def zenc (c : Nat → Int32) : Nat → List Int32 × Int32
  | 0 => ([], 0)
  | k + 1 => if (if zdig (c k) then 1 else 0) = (zenc c k).2 then ((zenc c k).1 ++ [2 + zidx (c k)], (zenc c k).2) else (((zenc c k).1 ++ [if zdig (c k) then 1 else 0]) ++ [2 + zidx (c k)], if zdig (c k) then 1 else 0)
def zpath (c : Nat → Int32) (len : Nat) (N : Int32) : List Int32 := ((zenc c len).1 ++ [(zenc c len).2]) ++ [2 + (nI (zenc c len).1.length - nI (zenc c len).1.length / (N - 2) * (N - 2))]
theorem zenc_len (c : Nat → Int32) : ∀ k, (zenc c k).1.length ≤ 2 * k
  | 0 => Nat.le_refl 0
  | k + 1 => by
    have := zenc_len c k
    rw [zenc]
    by_cases h : (if zdig (c k) then 1 else 0) = (zenc c k).2
    · rw [if_pos h, List.length_append]; show (zenc c k).1.length + 1 ≤ _; omega
    · rw [if_neg h, List.length_append, List.length_append]; show (zenc c k).1.length + 1 + 1 ≤ _; omega
theorem zpath_len (c : Nat → Int32) (k : Nat) (N : Int32) : (zpath c k N).length = (zenc c k).1.length + 2 := by
  unfold zpath
  rw [List.length_append, List.length_append]
  rfl
/-- a row that begins with a list -/
def zpre (pf : Nat → Int32) (l : List Int32) : Prop := ∀ k, k < l.length → pf k = l.getD k 0
theorem zpre_add {pf : Nat → Int32} {l : List Int32} (h : zpre pf l) (v : Int32) : zpre (zu pf l.length v) (l ++ [v]) := by
  intro k hk
  rw [List.length_append] at hk
  have hk : k < l.length + 1 := hk
  rw [zu_ap]
  by_cases e : k = l.length
  · rw [if_pos e, e, List.getD_eq_getElem?_getD, List.getElem?_append_right (Nat.le_refl _), Nat.sub_self]
    rfl
  · rw [if_neg e, h k (by omega), List.getD_eq_getElem?_getD, List.getD_eq_getElem?_getD, List.getElem?_append_left (by omega)]
theorem m_goesBy {ln : Nat → Nat} {σ : zS} {r pf : Nat → Int32} {far : Int32} (g6 : gr σ 455 6 = some 460) (l6 : ln 460 = 64) {l : List Int32} (hl : l.length ≤ 63) (hp : zpre pf l) {v : Int32} {Q : zS → Prop} (hq : ∀ pf', zpre pf' (l ++ [v]) → Q (zms σ r pf' (nI (l ++ [v]).length) far)) : wX12_goesBy ln (zms σ r pf (nI l.length) far) 455 v Q := by
  have v0 : vp_in (nI l.length) 64 := vp_in_nI (by omega) (by omega)
  have i0 : (nI l.length).toNatClampNeg = l.length := nI_clamp (by omega)
  have e : nI (l ++ [v]).length = nI (l.length + 1) := by rw [List.length_append]; rfl
  have h := hq (zu pf l.length v) (zpre_add hp v)
  rw [e] at h
  simp only [wX12_goesBy, gr_zms, g6, Option.some.injEq, exists_eq_left', l6, gi_zms_n, forall_eq, v0, true_and, i0, si_zms_p, si_zms_n, nI_1]
  exact h
theorem m_finds18 {ln : Nat → Nat} {σ : zS} {r : Nat → Int32} {far : Int32} (g1 : gr σ 455 1 = some 456) (l1 : ln 456 = 4763) (g6 : gr σ 455 6 = some 460) (l6 : ln 460 = 64) (hN : 6 ≤ (r 0).toInt ∧ (r 0).toInt ≤ 28) {a len : Nat} (ha : a ≤ 23) (hlen : r (219 + a) = nI len) (hl30 : len ≤ 30) {Q : zS → Prop} (hq : ∀ pf', zpre pf' (zpath (fun k => r (243 + 30 * a + k)) len (r 0)) → Q (zms σ r pf' (nI (zpath (fun k => r (243 + 30 * a + k)) len (r 0)).length) far)) :
    ∀ d k : Nat, k + d = len → ∀ pf, zpre pf (zenc (fun k => r (243 + 30 * a + k)) k).1 → wX12_finds_18 ln Q (d + 1) 455 (zenc (fun k => r (243 + 30 * a + k)) k).2 (nI a) (nI k) (zms σ r pf (nI (zenc (fun k => r (243 + 30 * a + k)) k).1.length) far) := by
  have x0 : (219 : Int32) + nI a = nI (219 + a) := nI_add 219 a
  have v0 : vp_in (nI (219 + a)) 4763 := vp_in_nI (by omega) (by omega)
  have i0 : (nI (219 + a)).toNatClampNeg = 219 + a := nI_clamp (by omega)
  have hz : ¬ r 0 - 2 = 0 := fun e => by
    have e2 : (r 0 - 2).toInt = (r 0).toInt - 2 := nsub (b := 2) (by show _ ≤ (r 0).toInt - 2; omega) (by show (r 0).toInt - 2 < _; omega)
    rw [neq, e2] at e
    have : (0 : Int32).toInt = 0 := rfl
    omega
  intro d
  induction d with
  | zero =>
    intro k hk pf hp
    obtain rfl : k = len := by omega
    have hc : nI k ≤ nI k := nI_le (Nat.le_refl k) (by omega)
    have hL := zenc_len (fun k => r (243 + 30 * a + k)) k
    rw [wX12_finds_18]
    simp only [gr_zms, g1, Option.some.injEq, exists_eq_left', l1, si_zms_q, gi_zms_q, forall_eq, true_and, x0, v0, i0, hlen, hc, not_true, false_imp_iff, and_true, true_implies, gi_zms_n]
    refine m_goesBy g6 l6 (by omega) hp (fun pf1 hp1 => ?_)
    simp only [gr_zms, g1, Option.some.injEq, exists_eq_left', l1, si_zms_q, gi_zms_q, forall_eq, true_and, vq0, cq0, hz, not_false_eq_true]
    refine m_goesBy g6 l6 (by rw [List.length_append]; show _ + 1 ≤ 63; omega) hp1 (fun pf2 hp2 => ?_)
    exact hq pf2 hp2
  | succ d ih =>
    intro k hk pf hp
    have hc : ¬ nI len ≤ nI k := nI_ge (by omega) (by omega)
    have hL := zenc_len (fun k => r (243 + 30 * a + k)) k
    have x1 : (243 : Int32) + 30 * nI a + nI k = nI (243 + 30 * a + k) := by
      have e1 : (30 : Int32) * nI a = nI (30 * a) := (Int32.ofNat_mul 30 a).symm
      rw [e1]
      show nI 243 + nI (30 * a) + nI k = _
      rw [nI_add, nI_add]
    have v1 : vp_in (nI (243 + 30 * a + k)) 4763 := vp_in_nI (by omega) (by omega)
    have i1 : (nI (243 + 30 * a + k)).toNatClampNeg = 243 + 30 * a + k := nI_clamp (by omega)
    rw [wX12_finds_18]
    simp only [gr_zms, g1, Option.some.injEq, exists_eq_left', l1, si_zms_q, gi_zms_q, forall_eq, true_and, x0, v0, i0, hlen, hc, x1, v1, i1, false_imp_iff, not_false_eq_true, true_implies]
    have next : wX12_finds_66 ln Q (wX12_finds_18 ln Q (d + 1)) 455 (zenc (fun k => r (243 + 30 * a + k)) k).2 (nI a) (nI k) (r (243 + 30 * a + k)) (if zdig (r (243 + 30 * a + k)) then 1 else 0) (zms σ r pf (nI (zenc (fun k => r (243 + 30 * a + k)) k).1.length) far) := by
      have ih2 := ih (k + 1) (by omega)
      rw [zenc] at ih2
      refine ⟨fun h => ?_, fun h => ?_⟩
      · rw [if_pos h] at ih2
        refine w_indexOf (fun x e => ?_)
        subst e
        refine m_goesBy g6 l6 (by omega) hp (fun pf1 hp1 x e => ?_)
        subst e
        rw [nI_1]
        exact ih2 pf1 hp1
      · rw [if_neg h] at ih2
        refine m_goesBy g6 l6 (by omega) hp (fun pf1 hp1 => ?_)
        refine w_indexOf (fun x e => ?_)
        subst e
        refine m_goesBy g6 l6 (by rw [List.length_append]; show _ + 1 ≤ 63; omega) hp1 (fun pf2 hp2 x e => ?_)
        subst e
        rw [nI_1]
        exact ih2 pf2 hp2
    refine w_isDigit ?_
    cases h : zdig (r (243 + 30 * a + k))
    · rw [h] at next
      exact ⟨fun _ => next, fun h => absurd rfl h⟩
    · rw [h] at next
      exact ⟨fun h => absurd h (by decide), fun _ => next⟩
/-- the characters of a line, and the path of it -/
def rChr (r : Nat → Int32) (a : Nat) : Nat → Int32 := fun k => r (243 + 30 * a + k)
def rPath (r : Nat → Int32) (a : Nat) : List Int32 := zpath (rChr r a) (r (219 + a)).toNatClampNeg (r 0)
theorem m_finds {ln : Nat → Nat} {σ : zS} {r pf : Nat → Int32} {n far : Int32} (g1 : gr σ 455 1 = some 456) (l1 : ln 456 = 4763) (g6 : gr σ 455 6 = some 460) (l6 : ln 460 = 64) (hN : 6 ≤ (r 0).toInt ∧ (r 0).toInt ≤ 28) {ov lv : Int32} {a : Nat} (ha : a ≤ 23) (hov : 12 * ov + lv = nI a) (hl : 0 ≤ (r (219 + a)).toInt ∧ (r (219 + a)).toInt ≤ 30) {Q : zS → Prop} (hq : ∀ pf', zpre pf' (rPath r a) → Q (zms σ r pf' (nI (rPath r a).length) far)) : wX12_finds ln (zms σ r pf n far) 455 ov lv Q := by
  have c0 := ncl hl.1
  have e : r (219 + a) = nI (r (219 + a)).toNatClampNeg := by rw [neq, nI_toInt (by omega)]; omega
  intro σ1 e1
  subst e1
  rw [si_zms_n]
  show ∃ n4 : Nat, wX12_finds_18 ln Q n4 455 0 (12 * ov + lv) 0 _
  rw [hov]
  exact ⟨(r (219 + a)).toNatClampNeg + 1, m_finds18 g1 l1 g6 l6 hN ha e (by omega) hq (r (219 + a)).toNatClampNeg 0 (by omega) pf (fun k hk => absurd hk (Nat.not_lt_zero k))⟩
