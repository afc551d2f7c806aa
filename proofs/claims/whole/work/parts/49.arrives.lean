/-! THE MODEL'S TICK -/
def rPop (r : Nat → Int32) : Nat → Int32 := zcut (zu r 19 (r 19 - 1)) 2963 (3 * (r 19 - 1).toNatClampNeg)
def zq (r : Nat → Int32) : Nat := ((1 : Int32) - r 6).toNatClampNeg
def rEntry (r : Nat → Int32) (w v : Int32) : Nat → Int32 := if w = 0 then rPrints r (zq r) v else if w = 1 then rAnswers r true else if w = 2 then rAnswers r false else rBreaks r
def fEntry (r : Nat → Int32) (far w : Int32) : Int32 := if w = 0 then fFar far (pAbs (rOff r (zq r))) else far
def rDue (r : Nat → Int32) : Prop := ¬ r 19 ≤ 0 ∧ r 2963 = r 5
def rStep (x : (Nat → Int32) × Int32) : (Nat → Int32) × Int32 := (rEntry (rPop x.1) (x.1 2964) (x.1 2965), fEntry (rPop x.1) x.2 (x.1 2964))
def rArr : Nat → (Nat → Int32) × Int32 → (Nat → Int32) × Int32
  | 0, x => x
  | k + 1, x => if ¬ x.1 19 ≤ 0 ∧ x.1 2963 = x.1 5 then rArr k (rStep x) else x
theorem zW_pop {r : Nat → Int32} (h : zW r) (h0 : ¬ r 19 ≤ 0) : zW (rPop r) ∧ (rPop r 19).toInt = (r 19).toInt - 1 ∧ rPop r 6 = r 6 := by
  have hu := h.u
  rw [nle] at h0
  have z0 : (0 : Int32).toInt = 0 := rfl
  have e2 : (r 19 - 1).toInt = (r 19).toInt - 1 := nsub (b := 1) (by show _ ≤ (r 19).toInt - 1; omega) (by show (r 19).toInt - 1 < _; omega)
  unfold rPop
  refine ⟨zW_cong (fun k hk => zcut_out _ (by unfold zkey at hk; omega)) (zW_u19 h (by omega)), ?_, ?_⟩
  · rw [zcut_out _ (by omega), zu_self, e2]
  · rw [zcut_out _ (by omega), zu_ne (by decide)]
theorem zW_entry {r : Nat → Int32} (h : zW r) (h19 : (r 19).toInt ≤ 599) (h6 : r 6 = 0 ∨ r 6 = 1) (w v : Int32) : zW (rEntry r w v) := by
  obtain ⟨q, hq, e, ho⟩ := zW.ho h6
  unfold rEntry zq
  rw [← e]
  split
  · exact zW_prints h hq h19 v
  · split
    · exact zW_answers h h6 true
    · split
      · exact zW_answers h h6 false
      · exact zW_breaks h
theorem m_entry {ln : Nat → Nat} {σ : zS} {r pf : Nat → Int32} {n far : Int32} (g1 : gr σ 455 1 = some 456) (l1 : ln 456 = 4763) (h : zW r) (h19 : (r 19).toInt ≤ 599) (h6 : r 6 = 0 ∨ r 6 = 1) {w v : Int32} {K : Nat → zS → Prop} (hq : K 455 (zms σ (rEntry r w v) pf n (fEntry r far w))) :
    (w = 0 → wX12_printsAt ln (zms σ r pf n far) 455 v (fun σ3 => K 455 σ3)) ∧ (¬ w = 0 → ((w = 1 → wX12_answers ln (zms σ r pf n far) 455 1 (fun σ5 => K 455 σ5)) ∧ (¬ w = 1 → ((w = 2 → wX12_answers ln (zms σ r pf n far) 455 0 (fun σ7 => K 455 σ7)) ∧ (¬ w = 2 → wX12_breaks ln (zms σ r pf n far) 455 (fun σ9 => K 455 σ9)))))) := by
  obtain ⟨q, hq2, e, ho⟩ := zW.ho h6
  have hN := h.N
  have he := h.e
  unfold rEntry fEntry zq at hq
  rw [← e] at hq
  refine ⟨fun hw => ?_, fun hw => ⟨fun hw1 => ?_, fun hw1 => ⟨fun hw2 => ?_, fun hw2 => ?_⟩⟩⟩
  · rw [if_pos hw, if_pos hw] at hq
    obtain ⟨k1, k2, k3⟩ := zW_printed h hq2 v
    have hP : 0 ≤ (r (21 + q)).toInt ∧ (r (21 + q)).toInt < 28000 := by
      have h0 := h.p0
      have h1 := h.p1
      rcases hq2 with rfl | rfl
      · exact ⟨h0.1, show (r 21).toInt < 28000 by omega⟩
      · exact ⟨h1.1, show (r 22).toInt < 28000 by omega⟩
    refine m_printsAt g1 l1 ho hN hP ?_ hq
    exact (zW_out k1 (nk (by omega)) _).ok (by rw [zu_ne (by decide), k3]; exact ho) (by rw [zu_ne (by decide), k2]; exact h19)
  · rw [if_neg hw, if_pos hw1, if_neg hw] at hq
    exact m_answers g1 l1 h6 he.1 he.2 (b := true) hq
  · rw [if_neg hw, if_neg hw1, if_pos hw2, if_neg hw] at hq
    exact m_answers g1 l1 h6 he.1 he.2 (b := false) hq
  · rw [if_neg hw, if_neg hw1, if_neg hw2, if_neg hw] at hq
    exact m_breaks g1 l1 h6 he.1 he.2 hq
theorem m_arr58 {ln : Nat → Nat} {σ : zS} {r pf : Nat → Int32} {n far : Int32} (g1 : gr σ 455 1 = some 456) (l1 : ln 456 = 4763) (h : zW r) (h0 : ¬ r 19 ≤ 0) (h6 : r 6 = 0 ∨ r 6 = 1) {w v : Int32} {K : Nat → zS → Prop} (hq : K 455 (zms σ (rEntry (rPop r) w v) pf n (fEntry (rPop r) far w))) : ∀ d i : Nat, i + d = 3 * (r 19 - 1).toNatClampNeg → wX12_arrives_58 ln (fun _ => True) K (d + 1) 455 w v (nI i) (zms σ (zcut (zu r 19 (r 19 - 1)) 2963 i) pf n far) := by
  obtain ⟨k1, k2, k3⟩ := zW_pop h h0
  have hu := h.u
  have z0 : (0 : Int32).toInt = 0 := rfl
  have h0' := h0
  rw [nle] at h0'
  have e2 : (r 19 - 1).toInt = (r 19).toInt - 1 := nsub (b := 1) (by show _ ≤ (r 19).toInt - 1; omega) (by show (r 19).toInt - 1 < _; omega)
  have hm : (r 19 - 1).toNatClampNeg ≤ 599 := by rw [ncln]; omega
  have em : r 19 - 1 = nI (r 19 - 1).toNatClampNeg := by rw [neq, nI_toInt (by omega), ncln]; omega
  have e3 : (3 : Int32) * (r 19 - 1) = nI (3 * (r 19 - 1).toNatClampNeg) := by
    have : (3 : Int32) * nI (r 19 - 1).toNatClampNeg = nI (3 * (r 19 - 1).toNatClampNeg) := (Int32.ofNat_mul 3 _).symm
    rw [← em] at this
    exact this
  intro d
  induction d with
  | zero =>
    intro i hi
    obtain rfl : i = 3 * (r 19 - 1).toNatClampNeg := by omega
    have e19 : zcut (zu r 19 (r 19 - 1)) 2963 (3 * (r 19 - 1).toNatClampNeg) 19 = r 19 - 1 := by rw [zcut_out _ (by omega), zu_self]
    have hc : nI (3 * (r 19 - 1).toNatClampNeg) ≤ nI (3 * (r 19 - 1).toNatClampNeg) := nI_le (Nat.le_refl _) (by omega)
    have hmE := m_entry (pf := pf) (n := n) (far := far) g1 l1 k1 (by omega) (by rw [k3]; exact h6) hq
    rw [wX12_arrives_58]
    simp only [gr_zms, g1, Option.some.injEq, exists_eq_left', l1, si_zms_q, gi_zms_q, forall_eq, true_and, vq19, cq19, e19, e3, hc, not_true, false_imp_iff, and_true, true_implies]
    exact hmE
  | succ d ih =>
    intro i hi
    have e19 : zcut (zu r 19 (r 19 - 1)) 2963 i 19 = r 19 - 1 := by rw [zcut_out _ (by omega), zu_self]
    have hc : ¬ nI (3 * (r 19 - 1).toNatClampNeg) ≤ nI i := nI_ge (by omega) (by omega)
    have x0 : (2963 : Int32) + nI i = nI (2963 + i) := nI_add 2963 i
    have x1 : nI (2963 + i) + 3 = nI (2963 + i + 3) := nI_add (2963 + i) 3
    have v0 : vp_in (nI (2963 + i)) 4763 := vp_in_nI (by omega) (by omega)
    have v1 : vp_in (nI (2963 + i + 3)) 4763 := vp_in_nI (by omega) (by omega)
    have i0 : (nI (2963 + i)).toNatClampNeg = 2963 + i := nI_clamp (by omega)
    have i1 : (nI (2963 + i + 3)).toNatClampNeg = 2963 + i + 3 := nI_clamp (by omega)
    have hz : zcut (zu r 19 (r 19 - 1)) 2963 i (2963 + i + 3) = zu r 19 (r 19 - 1) (2963 + i + 3) := zcut_out _ (by omega)
    rw [wX12_arrives_58]
    simp only [gr_zms, g1, Option.some.injEq, exists_eq_left', l1, si_zms_q, gi_zms_q, forall_eq, true_and, vq19, cq19, e19, e3, hc, x0, x1, v0, v1, i0, i1, hz, false_imp_iff, not_false_eq_true, true_implies, zcut_s, nI_1]
    exact ih (i + 1) (by omega)
theorem w58_q {ln : Nat → Nat} {Q Q' : zS → Prop} {K : Nat → zS → Prop} : ∀ (m : Nat) (t0 : Nat) (a b c : Int32) (σ : zS), wX12_arrives_58 ln Q K m t0 a b c σ → wX12_arrives_58 ln Q' K m t0 a b c σ
  | 0, _, _, _, _, _, h => h.elim
  | m + 1, t0, a, b, c, σ, h => by
    rw [wX12_arrives_58] at h ⊢
    obtain ⟨j, h1, h2, h3, h4⟩ := h
    refine ⟨j, h1, h2, h3, fun hc => ?_⟩
    obtain ⟨j2, a1, j3, a2, a3⟩ := h4 hc
    refine ⟨j2, a1, j3, a2, fun x e => ?_⟩
    obtain ⟨b1, b2⟩ := a3 x e
    refine ⟨b1, fun y e2 z e3 => ?_⟩
    obtain ⟨c1, c2⟩ := b2 y e2 z e3
    exact ⟨c1, fun σ1 e4 w e5 => w58_q m t0 a b w σ1 (c2 σ1 e4 w e5)⟩
/-- while the transit is in use there is a sender -/
def zUS (r : Nat → Int32) : Prop := r 6 = 0 ∨ r 6 = 1 ∨ r 19 = 0
theorem m_arrives0 {ln : Nat → Nat} {σ : zS} {pf : Nat → Int32} {n : Int32} (g1 : gr σ 455 1 = some 456) (l1 : ln 456 = 4763) {Q : zS → Prop} : ∀ (k : Nat) (r : Nat → Int32) (far : Int32), (∀ j, j ≤ k → zW (rArr j (r, far)).1 ∧ zUS (rArr j (r, far)).1) → ¬ rDue (rArr k (r, far)).1 → Q (zms σ (rArr k (r, far)).1 pf n (rArr k (r, far)).2) → wX12_arrives_0 ln Q (k + 1) 455 (zms σ r pf n far)
  | 0, r, far, hJ, hd, hq => by
    obtain ⟨h, hs⟩ : zW r ∧ zUS r := hJ 0 (Nat.le_refl 0)
    rw [wX12_arrives_0]
    simp only [gr_zms, g1, Option.some.injEq, exists_eq_left', l1, si_zms_q, gi_zms_q, forall_eq, true_and, vq5, cq5, vq19, cq19, vq2963, cq2963]
    exact ⟨fun _ => hq, fun hc => ⟨fun h2 => absurd ⟨hc, h2⟩ hd, fun _ => hq⟩⟩
  | k + 1, r, far, hJ, hd, hq => by
    obtain ⟨h, hs⟩ : zW r ∧ zUS r := hJ 0 (Nat.zero_le _)
    by_cases hc : ¬ r 19 ≤ 0 ∧ r 2963 = r 5
    · have h6 : r 6 = 0 ∨ r 6 = 1 := by
        rcases hs with h1 | h1 | h1
        · exact Or.inl h1
        · exact Or.inr h1
        · exact absurd (show r 19 ≤ 0 by rw [show r 19 = 0 from h1]; decide) hc.1
      have step : ∀ j, rArr (j + 1) (r, far) = rArr j (rStep (r, far)) := fun j => by rw [rArr, if_pos hc]
      have ih := m_arrives0 (pf := pf) (n := n) g1 l1 (Q := Q) k (rStep (r, far)).1 (rStep (r, far)).2 (fun j hj => by have := hJ (j + 1) (by omega); rw [step] at this; exact this) (by rw [step] at hd; exact hd) (by rw [step] at hq; exact hq)
      have h58 := m_arr58 (pf := pf) (n := n) (far := far) g1 l1 h hc.1 h6 (w := r 2964) (v := r 2965) (K := wX12_arrives_0 ln Q (k + 1)) ih (3 * (r 19 - 1).toNatClampNeg) 0 (by omega)
      rw [zcut_0] at h58
      rw [wX12_arrives_0]
      simp only [gr_zms, g1, Option.some.injEq, exists_eq_left', l1, si_zms_q, gi_zms_q, forall_eq, true_and, vq5, cq5, vq19, cq19, vq2963, cq2963, vq2964, cq2964, vq2965, cq2965]
      exact ⟨fun h1 => absurd h1 hc.1, fun _ => ⟨fun _ => ⟨_, w58_q _ _ _ _ _ _ h58⟩, fun h2 => absurd hc.2 h2⟩⟩
    · have step : ∀ j, rArr j (r, far) = (r, far) := fun j => by
        cases j with
        | zero => rfl
        | succ j => rw [rArr, if_neg hc]
      rw [step] at hq
      rw [wX12_arrives_0]
      simp only [gr_zms, g1, Option.some.injEq, exists_eq_left', l1, si_zms_q, gi_zms_q, forall_eq, true_and, vq5, cq5, vq19, cq19, vq2963, cq2963]
      exact ⟨fun _ => hq, fun h1 => ⟨fun h2 => absurd ⟨h1, h2⟩ hc, fun _ => hq⟩⟩
