/-! THE CLASS READS: messages -/
section ZCMSG
variable {ln : Nat → Nat} {σ : zS} {p : Nat} {f3 f4 : Nat → Int32} {F : Nat → Nat → Int32} {c : Nat → Int32} {n : Nat} {r : zRow} {o q : Nat}
theorem zPs_d (PS : zPs (gr σ) ln p) {v : Nat} (hv : v < 2) : gr σ (p + (3 + 62 * v)) 3 = some (p + 4 + 62 * v) ∧ ln (p + 4 + 62 * v) = 12 := by
  obtain ⟨-, -, ⟨h1, h2, h3, h4⟩, -⟩ := PS
  rcases (show v = 0 ∨ v = 1 by omega) with rfl | rfl
  · exact ⟨h1, h3⟩
  · exact ⟨h2, h4⟩
theorem c_lineP (hp : 5 ≤ p) (PS : zPs (gr σ) ln p) {v k M : Nat} (hv : v < 2) (hM : F (3 + 62 * v) 2 = nI M) (hk : k < M) (hM2 : M ≤ 12) {x : Int32} (hx : x = nI k) {Q : Option Nat → zS → Prop} (hq : Q (some (p + 5 + 62 * v + 5 * k)) (zpc σ p f3 f4 F)) : wX0_line ln (zpc σ p f3 f4 F) (p + (3 + 62 * v)) x Q := by
  subst hx
  obtain ⟨d1, d2⟩ := zPs_d PS hv
  obtain ⟨-, -, -, pk⟩ := PS
  have e2 : gi (zpc σ p f3 f4 F) (p + (3 + 62 * v)) 2 = nI M := by rw [gi_zpc_k hp (k := 3 + 62 * v) rfl (by omega)]; exact hM
  refine ⟨fun h => absurd h (nI_pos (by omega)), fun _ => ?_⟩
  rw [e2]
  refine ⟨fun h => absurd h (nI_ge hk (by omega)), fun _ => ⟨p + 4 + 62 * v, d1, ?_⟩⟩
  rw [d2]
  refine ⟨fun h => absurd h (nI_ge (by omega) (by omega)), fun _ => ⟨p + 4 + 62 * v, d1, ?_⟩⟩
  rw [d2]
  refine ⟨vp_in_nI (by omega) (by omega), p + 5 + 62 * v + 5 * k, ?_, hq⟩
  rw [nI_clamp (by omega)]
  exact (pk v hv k (by omega)).1
theorem c_addLine (hp : 5 ≤ p) (PS : zPs (gr σ) ln p) {v L : Nat} (hv : v < 2) (hL : F (3 + 62 * v) 2 = nI L) (hL2 : L ≤ 12) {Q : Int32 → zS → Prop} (h0 : 12 ≤ L → Q 0 (zpc σ p f3 f4 F)) (h1 : L < 12 → Q 1 (zpc σ p f3 f4 (zf (zf F (3 + 62 * v) 2 (nI (L + 1))) (6 + 62 * v + 5 * L) 1 0))) : wX0_addLine ln (zpc σ p f3 f4 F) (p + (3 + 62 * v)) Q := by
  obtain ⟨d1, d2⟩ := zPs_d PS hv
  have e2 : gi (zpc σ p f3 f4 F) (p + (3 + 62 * v)) 2 = nI L := by rw [gi_zpc_k hp (k := 3 + 62 * v) rfl (by omega)]; exact hL
  refine ⟨p + 4 + 62 * v, d1, ?_⟩
  rw [d2, e2]
  refine ⟨fun hx x2 hx2 σ3 e3 x4 e4 => ?_, fun hx => h0 ?_⟩
  · have hlt : L < 12 := (nI_ltI (by omega) (by omega)).mp hx
    rw [nI_1] at hx2
    subst hx2
    rw [si_zpc_k hp (k := 3 + 62 * v) rfl (by omega)] at e3
    subst e3
    rw [gi_zpc_k hp (k := 3 + 62 * v) rfl (by omega), zf_ap, if_pos rfl, if_pos rfl, nI_pred] at e4
    refine c_lineP hp PS hv (M := L + 1) (k := L) (by rw [zf_ap, if_pos rfl, if_pos rfl]) (by omega) (by omega) e4 ⟨(fun h => nomatch h), fun j7 h7 => ?_⟩
    cases h7
    refine ⟨p + 6 + 62 * v + 5 * L, (PS.2.2.2 v hv L hlt).2.1, fun σ9 e9 => ?_⟩
    rw [si_zpc_k hp (k := 6 + 62 * v + 5 * L) (by omega) (by omega)] at e9
    subst e9
    exact h1 hlt
  · rcases Nat.lt_or_ge L 12 with h | h
    · exact absurd (nI_lt h (by omega)) hx
    · exact h
theorem c_wheelIndex {τ : zS} {x : Int32} (hx : xK x = 1 ∨ xK x = 2) {Q : Int32 → zS → Prop} (hq : Q (zidx x) τ) : wX2_wheelIndex ln τ x Q := by
  have l57 : (57 : Int32).toInt = 57 := rfl
  have hc : (97 ≤ x.toInt ∧ x.toInt ≤ 122) ∨ (48 ≤ x.toInt ∧ x.toInt ≤ 57) := by
    unfold xK at hx
    by_cases h1 : 97 ≤ x.toInt ∧ x.toInt ≤ 122
    · exact Or.inl h1
    · rw [if_neg h1] at hx
      by_cases h2 : 48 ≤ x.toInt ∧ x.toInt ≤ 57
      · exact Or.inr h2
      · rw [if_neg h2] at hx
        by_cases h3 : x = 59
        · rw [if_pos h3] at hx
          rcases hx with h | h <;> exact absurd h (by decide)
        · rw [if_neg h3] at hx
          by_cases h4 : x = 47
          · rw [if_pos h4] at hx
            rcases hx with h | h <;> exact absurd h (by decide)
          · rw [if_neg h4] at hx
            rcases hx with h | h <;> exact absurd h (by decide)
  unfold zidx zdig at hq
  refine ⟨fun h => ?_, fun h => ?_⟩
  · rw [nlt, l57] at h
    rw [decide_eq_false (by omega), if_neg (by decide)] at hq
    exact hq
  · rw [nlt, l57] at h
    rw [decide_eq_true (by omega), if_pos rfl] at hq
    exact hq
theorem c_item80 (hp : 5 ≤ p) (G : zTg (gr σ) ln) (T : zTc σ c n) (PS : zPs (gr σ) ln p) (V : zPV r o) {v k s m L : Nat} (hv : v < 2) (hk : k < 12) (hM : (k : Int) < (r (25 + v)).toInt) (hL : r (219 + (12 * v + k)) = nI L) (hLm : L + m ≤ 30) (hsm : s + m ≤ n) (h1 : f4 1 = nI s) (h3 : f4 3 = nI (s + m)) (hc : ∀ j, j < m → xK (c (s + j)) = 1 ∨ xK (c (s + j)) = 2) {Q : Int32 → zS → Prop} (q1 : (∀ j, j < m → (zidx (c (s + j))).toInt < (r 0).toInt - 2) → ∀ F', zPn F' (pApp c s (12 * v + k) r m) → Q 1 (zpc σ p f3 f4 F')) (q0 : ¬ (∀ j, j < m → (zidx (c (s + j))).toInt < (r 0).toInt - 2) → ∀ F', Q 0 (zpc σ p f3 f4 F')) : ∀ (d i : Nat) (F : Nat → Nat → Int32), i + d = m → zPn F (pApp c s (12 * v + k) r i) → (∀ j, j < i → (zidx (c (s + j))).toInt < (r 0).toInt - 2) → wX5_item_80 ln Q (d + 1) 3 (r 0) (p + 5 + 62 * v + 5 * k) (nI i) (zpc σ p f3 f4 F)
  | 0, i, F, hd, P, hf => by
    have hn := T.1
    rw [wX5_item_80]
    refine ⟨4, G.2.1, ?_⟩
    unfold wX10_length
    rw [gi_zpc_4, h1, h3, show nI (s + m) - nI s = nI (s + m - s) from pk_sub (Nat.le_add_right _ _), show s + m - s = m by omega]
    obtain rfl : i = m := by omega
    exact ⟨fun _ => q1 hf F P, fun hx => absurd (nI_le (Nat.le_refl _) (by omega)) hx⟩
  | d + 1, i, F, hd, P, hf => by
    have hn := T.1
    have l2 : (2 : Int32).toInt = 2 := rfl
    have hN0 := V.1.1
    have a24 : 12 * v + k < 24 := by omega
    have PA := pApp_at (c := c) (s := s) a24 hL i (by omega)
    have eL : pApp c s (12 * v + k) r i (219 + (12 * v + k)) = nI (L + i) := by rw [PA, if_pos rfl]
    rw [wX5_item_80]
    refine ⟨4, G.2.1, ?_⟩
    unfold wX10_length
    rw [gi_zpc_4, h1, h3, show nI (s + m) - nI s = nI (s + m - s) from pk_sub (Nat.le_add_right _ _), show s + m - s = m by omega]
    refine ⟨fun hx => absurd hx (nI_ge (by omega) (by omega)), fun _ => ⟨4, G.2.1, 1, G.2.2.1, fun x2 e2 => ?_⟩⟩
    rw [gi_zpc_4, h1, nI_plus] at e2
    refine c_getZ hp G T (k := s + i) (by omega) e2 ?_
    rw [if_pos (by omega)]
    refine c_wheelIndex (hc i (by omega)) ?_
    rw [nlt, nsub (by rw [l2]; omega) (by rw [l2]; omega), l2]
    refine ⟨fun hx => ⟨p + 6 + 62 * v + 5 * k, (PS.2.2.2 v hv k hk).2.1, ?_⟩, fun hx => q0 (fun h => hx (h i (by omega))) F⟩
    have hk9 : (k : Int) < (pApp c s (12 * v + k) r i (25 + v)).toInt := by
      rw [PA, if_neg (by omega), if_neg (by omega)]
      exact hM
    have VI : zPV (pApp c s (12 * v + k) r i) o := pv_app V a24 (by rw [hL, nI_toInt (by omega)]; omega) (fun j hj => ⟨hf j hj, hc j (by omega)⟩)
    have f1 : F (6 + 62 * v + 5 * k) 1 = nI (L + i) := (P.2.2.2 v hv k hk hk9).1.trans eL
    refine c_addP hp (K := 6 + 62 * v + 5 * k) (K' := 7 + 62 * v + 5 * k) (j := L + i) (cap := 30) (by omega) (by omega) (by omega) (by omega) (by omega) (PS.2.2.2 v hv k hk).2.2.1 (PS.2.2.2 v hv k hk).2.2.2.2.2.1 f1 (by omega) (by decide) ?_
    intro x11 e11
    rw [nI_1] at e11
    subst e11
    refine c_item80 hp G T PS V hv hk hM hL hLm hsm h1 h3 hc q1 q0 d (i + 1) _ (by omega) ?_ (fun j hj => ?_)
    · rw [pApp, eL, nI_1, nI_clamp (by omega)]
      exact zPn_a P VI.2.1.2 hv hk eL (by omega) (fun a ha => (VI.2.2.2.1 a ha).1.2)
    · by_cases e : j = i
      · subst e; exact hx
      · exact hf j (by omega)
/-- an item -/
theorem c_itemst (hp : 5 ≤ p) (G : zTg (gr σ) ln) (T : zTc σ c n) (PS : zPs (gr σ) ln p) (V : zPV r o) {v : Nat} (hv : v < 2) (hM1 : 1 ≤ (r (25 + v)).toInt) (t : tok f4 c n q) (P : zPn F r) {Q : Int32 → zS → Prop} (h4 : tK c n q = 4 → 12 ≤ (r (25 + v)).toInt → Q 0 (zpc σ p f3 f4 F)) (h4' : tK c n q = 4 → ¬ 12 ≤ (r (25 + v)).toInt → ∀ F', zPn F' (pNew r v) → Q 1 (zpc σ p f3 f4 F')) (h1 : tK c n q = 1 ∨ tK c n q = 2 → pItb c n r v q = true → ∀ F', zPn F' (pApp c (tS c n q) (pLn r v) r (tE c n q - tS c n q)) → Q 1 (zpc σ p f3 f4 F')) (h1' : tK c n q = 1 ∨ tK c n q = 2 → ¬ pItb c n r v q = true → ∀ F', Q 0 (zpc σ p f3 f4 F')) (h0 : ¬ tK c n q = 4 → ¬ (tK c n q = 1 ∨ tK c n q = 2) → Q 0 (zpc σ p f3 f4 F)) : wX5_item ln (zpc σ p f3 f4 F) 3 (p + (3 + 62 * v)) (r 0) Q := by
  have hn := T.1
  have hM := (V.2.2.1 v hv).2.2
  have cM := ncl hM.1
  obtain ⟨M, eM⟩ : ∃ M, M = (r (25 + v)).toNatClampNeg := ⟨_, rfl⟩
  have rM : r (25 + v) = nI M := by rw [neq, nI_toInt (by omega)]; omega
  have fM : F (3 + 62 * v) 2 = nI M := (P.2.2.1 v hv).2.2.trans rM
  have M12 : M ≤ 12 := by omega
  have M1 : 1 ≤ M := by omega
  refine ⟨4, G.2.1, ?_⟩
  rw [gi_zpc_4, t.1]
  refine ⟨fun hk => c_addLine hp PS hv fM M12 (fun h => ⟨Or.inl rfl, h4 hk (by omega)⟩) (fun h => ⟨Or.inr rfl, h4' hk (by omega) _ (zPn_n P V.2.1.2 hv rM h)⟩), fun hk4 x2 e2 => ?_⟩
  rw [gi_zpc_k hp (k := 3 + 62 * v) rfl (by omega), fM, show nI M - 1 = nI (M - 1) from pk_sub (a := M) (b := 1) M1] at e2
  refine c_lineP hp PS hv fM (k := M - 1) (by omega) M12 e2 ⟨(fun h => nomatch h), fun j5 h5 => ?_⟩
  cases h5
  have hln : pLn r v = 12 * v + (M - 1) := by unfold pLn; rw [← eM]
  have a24 : 12 * v + (M - 1) < 24 := by omega
  have hLb := (V.2.2.2.1 _ a24).1
  have cL := ncl hLb.1
  obtain ⟨L, eL⟩ : ∃ L, L = (r (219 + (12 * v + (M - 1)))).toNatClampNeg := ⟨_, rfl⟩
  have rL : r (219 + (12 * v + (M - 1))) = nI L := by rw [neq, nI_toInt (by omega)]; omega
  have fL : F (6 + 62 * v + 5 * (M - 1)) 1 = nI L := (P.2.2.2 v hv (M - 1) (by omega) (by omega)).1.trans rL
  have hSE := tE_gt c n q
  have key : tK c n q = 1 ∨ tK c n q = 2 → wX5_item_55 ln Q 3 (r 0) (p + 5 + 62 * v + 5 * (M - 1)) (zpc σ p f3 f4 F) := fun hk => by
    obtain ⟨k1, k2, k3, k4, k5⟩ := tK_run (k := tK c n q) hk rfl
    have hE := tE_le (c := c) (n := n) (q := q) (by rcases hk with h | h <;> rw [h] <;> decide)
    refine ⟨p + 6 + 62 * v + 5 * (M - 1), (PS.2.2.2 v hv (M - 1) (by omega)).2.1, ?_⟩
    unfold wX9_size wX10_length
    refine ⟨4, G.2.1, ?_⟩
    rw [gi_zpc_k hp (k := 6 + 62 * v + 5 * (M - 1)) (by omega) (by omega), fL, gi_zpc_4, t.2.1, t.2.2, show nI (tE c n q) - nI (tS c n q) = nI (tE c n q - tS c n q) from pk_sub (Nat.le_of_lt hSE)]
    dsimp only
    rw [nI_plus]
    have iff := pItb_t (c := c) (n := n) (r := r) (v := v) (q := q)
    rw [hln, rL, nI_toInt (by omega)] at iff
    rw [hln] at h1
    refine ⟨fun hx => ⟨tE c n q - tS c n q + 1, ?_⟩, fun hx => h1' hk (fun hb => ?_) F⟩
    · have hlm : L + (tE c n q - tS c n q) ≤ 30 := (nI_leI (a := L + (tE c n q - tS c n q)) (b := 30) (by omega) (by omega)).mp hx
      refine c_item80 (o := o) (s := tS c n q) (m := tE c n q - tS c n q) (L := L) hp G T PS V hv (by omega) (by omega) rL hlm (by omega) t.2.1 (by rw [t.2.2]; congr 1; omega) (fun j hj => by rw [k5 _ (by omega) (by omega)]; exact hk) (fun hf F' P' => h1 hk (iff.mpr ⟨hf, by omega⟩) F' P') (fun hf F' => h1' hk (fun hb => hf (iff.mp hb).1) F') (tE c n q - tS c n q) 0 F (by omega) P (fun j hj => absurd hj (Nat.not_lt_zero j))
    · have := (iff.mp hb).2
      exact hx (nI_le (a := L + (tE c n q - tS c n q)) (b := 30) (by omega) (by omega))
  refine ⟨4, G.2.1, ?_⟩
  rw [gi_zpc_4, t.1]
  refine ⟨fun h => key (Or.inl h), fun hn1 => ⟨4, G.2.1, ?_⟩⟩
  rw [gi_zpc_4, t.1]
  exact ⟨fun h => key (Or.inr h), fun hn2 => h0 hk4 (fun h => h.elim hn1 hn2)⟩
theorem c_items (hp : 5 ≤ p) (G : zTg (gr σ) ln) (T : zTc σ c n) (PS : zPs (gr σ) ln p) {v : Nat} (hv : v < 2) {Q : Int32 → zS → Prop} : ∀ (d i q : Nat) (f : Bool) (r : zRow) (f3 f4 : Nat → Int32) (F : Nat → Nat → Int32), n + 1 ≤ q + d → i + 2 ≤ q → q ≤ n → (f = true ↔ i = 0) → zPV r o → 1 ≤ (r (25 + v)).toInt → f3 1 = nI o → tok f4 c n q → zPn F r → cR σ p c n Q (pMsg2 o (pIts c n v d f r q)) → wX5_message_38 ln (fun r31 σ30 => zB1 r31 ∧ Q r31 σ30) (d + 1) 3 p (p + (3 + 62 * v)) (nI i) (zpc σ p f3 f4 F)
  | 0, i, q, f, r, f3, f4, F, hd, hi, hqn, hf, V, hM1, ho, t, P, hR => absurd hd (by omega)
  | d + 1, i, q, f, r, f3, f4, F, hd, hi, hqn, hf, V, hM1, ho, t, P, hR => by
    have hn := T.1
    have hEq := tE_q (c := c) (n := n) q
    rw [wX5_message_38]
    rw [pIts] at hR
    refine ⟨fun hx => absurd hx (nI_ge (a := i) (b := 600) (by omega) (by omega)), fun _ => ⟨4, G.2.1, ?_⟩⟩
    rw [gi_zpc_4, t.1]
    refine ⟨fun hk => ?_, fun hk x2 e2 => ?_⟩
    · rw [if_pos hk] at hR
      by_cases hi0 : i = 0
      · rw [if_pos (hf.mpr hi0)] at hR
        subst hi0
        exact ⟨fun _ => ⟨Or.inl rfl, hR.1 _ rfl _ _ _ t.2.1⟩, fun hx => absurd (by decide) hx⟩
      · rw [if_neg (fun h => hi0 (hf.mp h))] at hR
        exact ⟨fun hx => absurd ((nI_leI (a := i) (b := 0) (by omega) (by omega)).mp hx) (by omega), fun _ => ⟨Or.inr rfl, hR.2 _ _ _ rfl _ _ _ ho t P⟩⟩
    · rw [if_neg hk] at hR
      have e0 : gi (zpc σ p f3 f4 F) p 0 = r 0 := by rw [gi_zpc_0 hp]; exact P.1.1
      rw [e0] at e2
      subst e2
      refine c_itemst hp G T PS V hv hM1 t P (fun k4 h12 => ⟨fun _ => ⟨Or.inl rfl, ?_⟩, fun x => absurd rfl x⟩) (fun k4 h12 F' P' => ⟨fun x => absurd x (by decide), fun _ x5 e5 => ⟨4, G.2.1, ?_⟩⟩) (fun k1 hb F' P' => ⟨fun x => absurd x (by decide), fun _ x5 e5 => ⟨4, G.2.1, ?_⟩⟩) (fun k1 hb F' => ⟨fun _ => ⟨Or.inl rfl, ?_⟩, fun x => absurd rfl x⟩) (fun k4 k1 => ⟨fun _ => ⟨Or.inl rfl, ?_⟩, fun x => absurd rfl x⟩)
      · rw [if_pos k4, if_pos h12] at hR
        exact hR.1 _ rfl _ _ _ t.2.1
      · rw [if_pos k4, if_neg h12] at hR
        have hE := tE_le (c := c) (n := n) (q := q) (by rw [k4]; decide)
        rw [nI_1] at e5
        subst e5
        have hM := (V.2.2.1 v hv).2.2
        have l1 : (1 : Int32).toInt = 1 := rfl
        refine c_take hp G T (q := tE c n q) (by omega) t.2.2 (fun f' a0 a1 a3 => ?_)
        refine c_items hp G T PS hv d (i + 1) (tE c n q) false (pNew r v) f3 f' F' (by omega) (by omega) hE.1 ⟨(fun h => nomatch h), fun h => absurd h (by omega)⟩ (pv_new V hv h12) ?_ ho ⟨a0, a1, a3⟩ P' hR
        unfold pNew
        rw [zu_self, nadd (by rw [l1]; omega) (by rw [l1]; omega), l1]; omega
      · have k4 : ¬ tK c n q = 4 := fun h => by
          rw [h] at k1
          rcases k1 with h | h <;> exact absurd h (by decide)
        rw [if_neg k4, if_pos k1, if_pos hb] at hR
        have hE := tE_le (c := c) (n := n) (q := q) (by rcases k1 with h | h <;> rw [h] <;> decide)
        rw [nI_1] at e5
        subst e5
        obtain ⟨b1, b2⟩ := pItb_t.mp hb
        obtain ⟨k1', k2, k3, k4', k5⟩ := tK_run (k := tK c n q) k1 rfl
        have a24 := pLn_lt V hv
        have hlb := (V.2.2.2.1 _ a24).1
        have cl := ncl hlb.1
        have eL : r (219 + pLn r v) = nI (r (219 + pLn r v)).toNatClampNeg := by rw [neq, nI_toInt (by omega)]; omega
        refine c_take hp G T (q := tE c n q) (by omega) t.2.2 (fun f' a0 a1 a3 => ?_)
        refine c_items hp G T PS hv d (i + 1) (tE c n q) false _ f3 f' F' (by omega) (by omega) hE.1 ⟨(fun h => nomatch h), fun h => absurd h (by omega)⟩ (pv_app (c := c) (s := tS c n q) V a24 b2 (fun j hj => ⟨b1 j hj, by rw [k5 _ (by omega) (by omega)]; exact k1⟩)) ?_ ho ⟨a0, a1, a3⟩ P' hR
        rw [pApp_at a24 eL _ (by omega), if_neg (by omega), if_neg (by omega)]
        exact hM1
      · have k4 : ¬ tK c n q = 4 := fun h => by
          rw [h] at k1
          rcases k1 with h | h <;> exact absurd h (by decide)
        rw [if_neg k4, if_pos k1, if_neg hb] at hR
        exact hR.1 _ rfl _ _ _ t.2.1
      · rw [if_neg k4, if_neg k1] at hR
        exact hR.1 _ rfl _ _ _ t.2.1
theorem c_msgst (hp : 5 ≤ p) (G : zTg (gr σ) ln) (T : zTc σ c n) (PS : zPs (gr σ) ln p) (V : zPV r o) (hqn : q ≤ n) (ho : f3 1 = nI o) (t : tok f4 c n q) (P : zPn F r) {Q : Int32 → zS → Prop} (hR : cR σ p c n Q (pMsg c n r o q)) : wX5_message ln (zpc σ p f3 f4 F) 3 p (fun r31 σ30 => zB1 r31 ∧ Q r31 σ30) := by
  have hE := tE_le1 c hqn
  have hn := T.1
  have g0 := tE_q (c := c) (n := n) q
  refine c_takeNumber hp G T (q := tE c n q) (by omega) t.2.2 (by decide) (fun hx f3' f4' g3 g4 => ⟨fun _ => ⟨Or.inl rfl, hR.1 (tS c n (tE c n q)) ?_ _ _ _ g4⟩, fun x => absurd rfl x⟩) (fun hy f3' f4' g3 g2 t' => ⟨fun x => absurd x (by decide), fun _ x3 e3 => ?_⟩)
  · unfold pMsg
    rw [if_neg (fun h => hx (pNb_t.mp h))]
  have y2 := hy.2.1
  have y3 := hy.2.2
  have z0 : (0 : Int32).toInt = 0 := rfl
  have z1 : (1 : Int32).toInt = 1 := rfl
  have c0 := ncl (a := tV c n (tE c n q)) (by omega)
  obtain ⟨v, ev⟩ : ∃ v, v = (tV c n (tE c n q)).toNatClampNeg := ⟨_, rfl⟩
  have rv : tV c n (tE c n q) = nI v := by rw [neq, nI_toInt (by omega)]; omega
  have hv : v < 2 := by omega
  rw [gi_zpc_3, g2, rv] at e3
  have hE2 := tE_le (c := c) (n := n) (q := tE c n q) (by rw [hy.1]; decide)
  have g1 := tE_q (c := c) (n := n) (tE c n q)
  have hM := (V.2.2.1 v hv).2.2
  have cM := ncl hM.1
  obtain ⟨M, eM⟩ : ∃ M, M = (r (25 + v)).toNatClampNeg := ⟨_, rfl⟩
  have rM : r (25 + v) = nI M := by rw [neq, nI_toInt (by omega)]; omega
  have fM : F (3 + 62 * v) 2 = nI M := (P.2.2.1 v hv).2.2.trans rM
  have e : pMsg c n r o q = if 12 ≤ (r (25 + v)).toInt then .inl (tS c n (tE c n q)) else pMsg2 o (pIts c n v (n + 1) true (pNew r v) (tE c n (tE c n q))) := by
    unfold pMsg
    rw [if_pos (pNb_t.mpr hy), ← ev]
  rw [e] at hR
  refine c_deskP PS hv e3 (c_addLine hp PS hv fM (by omega) (fun h => ⟨fun _ => ⟨Or.inl rfl, ?_⟩, fun x => absurd rfl x⟩) (fun h => ⟨fun x => absurd x (by decide), fun _ => ⟨4, G.2.1, ?_⟩⟩))
  · rw [if_pos (by omega)] at hR
    exact hR.1 _ rfl _ _ _ t'.2.1
  · rw [if_neg (by omega)] at hR
    refine c_take hp G T (q := tE c n (tE c n q)) (by omega) t'.2.2 (fun f' a0 a1 a3 => ⟨n + 1 + 1, ?_⟩)
    have l1 : (1 : Int32).toInt = 1 := rfl
    refine c_items hp G T PS hv (n + 1) 0 (tE c n (tE c n q)) true (pNew r v) f3' f' _ (by omega) (by omega) hE2.1 ⟨fun _ => rfl, fun _ => rfl⟩ (pv_new V hv (by omega)) ?_ (by rw [g3 1 (by decide)]; exact ho) ⟨a0, a1, a3⟩ (zPn_n P V.2.1.2 hv rM h) hR
    unfold pNew
    rw [zu_self, nadd (by rw [l1]; omega) (by rw [l1]; omega), l1]; omega
end ZCMSG
