/-! A ROW THAT WAS READ: the invariant; where faults lie -/
section ZNEWROW
variable {c : Nat → Int32} {n : Nat}
theorem tS_e {k q : Nat} (h : q ≤ n + k) : tS c n q ≤ n + k := by
  have := tS_le2 c n q
  omega
theorem tE_e {k q : Nat} (h : q ≤ n + k) : tE c n q ≤ n + (k + 1) := by
  by_cases e : tK c n q = 0
  · have := tK_0.mp e
    have := tS_e (c := c) h
    unfold tE
    rw [if_pos (by omega)]
    omega
  · have := (tE_le e).1
    omega
theorem pSemi_e {r : zRow} {o q k e : Nat} (hq : q ≤ n + k) (h : pSemi c n r o q = .inl e) : e ≤ n + (k + 1) := by
  unfold pSemi at h
  by_cases x : tK c n (tE c n q) = 3
  · rw [if_pos x] at h
    cases h
  · rw [if_neg x] at h
    cases h
    exact tS_e (tE_e hq)
theorem pSet_e {k' : Nat} {lo hi : Int32} {r : zRow} {o q e : Nat} (hq : q ≤ n) (h : pSet c n k' lo hi r o q = .inl e) : e ≤ n + 9 := by
  have h1 := tE_e (c := c) (n := n) (k := 0) (q := q) (by omega)
  unfold pSet at h
  by_cases x : pNb c n (tE c n q) lo hi = true
  · rw [if_pos x] at h
    have := pSemi_e (k := 1) h1 h
    omega
  · rw [if_neg x] at h
    cases h
    have := tS_e (c := c) h1
    omega
theorem pOff_e {r : zRow} {o q e : Nat} (hq : q ≤ n) (h : pOff c n r o q = .inl e) : e ≤ n + 9 := by
  have h0 := tS_e (c := c) (n := n) (k := 0) (q := q) (by omega)
  have h1 := tE_e (c := c) (n := n) (k := 0) (q := q) (by omega)
  have h2 := tE_e (c := c) h1
  have h3 := tS_e (c := c) h1
  have h4 := tS_e (c := c) h2
  unfold pOff at h
  split at h
  · cases h
    omega
  · split at h
    · split at h
      · have := pSemi_e (k := 2) h2 h
        omega
      · cases h
        omega
    · cases h
      omega
theorem pLos_e {r : zRow} {o q e : Nat} (hq : q ≤ n) (h : pLos c n r o q = .inl e) : e ≤ n + 9 := by
  have h0 := tS_e (c := c) (n := n) (k := 0) (q := q) (by omega)
  have h1 := tE_e (c := c) (n := n) (k := 0) (q := q) (by omega)
  have h3 := tS_e (c := c) h1
  unfold pLos at h
  split at h
  · cases h
    omega
  · split at h
    · have := pSemi_e (k := 1) h1 h
      omega
    · cases h
      omega
theorem pIts_e {v : Nat} : ∀ (d : Nat) (f : Bool) (r : zRow) (q : Nat) {e : Nat}, q ≤ n + 2 → pIts c n v d f r q = .inl e → e ≤ n + 2
  | 0, f, r, q, e, hq, h => by
    rw [pIts] at h
    cases h
    exact tS_e hq
  | d + 1, f, r, q, e, hq, h => by
    have h0 := tS_e (c := c) hq
    rw [pIts] at h
    by_cases k3 : tK c n q = 3
    · rw [if_pos k3] at h
      split at h
      · cases h
        exact h0
      · cases h
    · rw [if_neg k3] at h
      by_cases k4 : tK c n q = 4
      · have hE := tE_le (c := c) (n := n) (q := q) (by rw [k4]; decide)
        rw [if_pos k4] at h
        split at h
        · cases h
          exact h0
        · exact pIts_e d _ _ _ (by omega) h
      · rw [if_neg k4] at h
        by_cases k1 : tK c n q = 1 ∨ tK c n q = 2
        · have hE := tE_le (c := c) (n := n) (q := q) (by rcases k1 with h | h <;> rw [h] <;> decide)
          rw [if_pos k1] at h
          split at h
          · exact pIts_e d _ _ _ (by omega) h
          · cases h
            exact h0
        · rw [if_neg k1] at h
          cases h
          exact h0
theorem pMsg_e {r : zRow} {o q e : Nat} (hq : q ≤ n) (h : pMsg c n r o q = .inl e) : e ≤ n + 9 := by
  have h1 := tE_e (c := c) (n := n) (k := 0) (q := q) (by omega)
  have h2 := tE_e (c := c) h1
  have h3 := tS_e (c := c) h1
  unfold pMsg at h
  split at h
  · split at h
    · cases h
      omega
    · cases hI : pIts c n (tV c n (tE c n q)).toNatClampNeg (n + 1) true (pNew r (tV c n (tE c n q)).toNatClampNeg) (tE c n (tE c n q)) with
      | inl x =>
        rw [hI] at h
        cases h
        have := pIts_e _ _ _ _ h2 hI
        omega
      | inr x =>
        rw [hI] at h
        cases h
  · cases h
    omega
theorem pStmt_e {f : Bool} {r : zRow} {o q e : Nat} (hq : q ≤ n) (h : pStmt c n f r o q = .inl e) : e ≤ n + 9 := by
  have h0 := tS_e (c := c) (n := n) (k := 0) (q := q) (by omega)
  unfold pStmt at h
  by_cases e2 : tW c n q 2
  · rw [if_pos e2] at h
    exact pMsg_e hq h
  rw [if_neg e2] at h
  by_cases e3 : tW c n q 3
  · rw [if_pos e3] at h
    split at h
    · exact pSet_e hq h
    · cases h
      omega
  rw [if_neg e3] at h
  by_cases e4 : tW c n q 4
  · rw [if_pos e4] at h
    exact pOff_e hq h
  rw [if_neg e4] at h
  by_cases e5 : tW c n q 5
  · rw [if_pos e5] at h
    exact pLos_e hq h
  rw [if_neg e5] at h
  by_cases e6 : tW c n q 6
  · rw [if_pos e6] at h
    exact pSet_e hq h
  rw [if_neg e6] at h
  by_cases e7 : tW c n q 7
  · rw [if_pos e7] at h
    exact pSet_e hq h
  rw [if_neg e7] at h
  by_cases e8 : tW c n q 8
  · rw [if_pos e8] at h
    exact pSet_e hq h
  rw [if_neg e8] at h
  by_cases e9 : tW c n q 9
  · rw [if_pos e9] at h
    exact pSet_e hq h
  rw [if_neg e9] at h
  cases h
  omega
theorem pTx_e : ∀ (d : Nat) (f : Bool) (r : zRow) (o q : Nat) {e : Nat}, zPV r o → (f = true → zFst r) → q ≤ n → pTx c n d f r o q = .inl e → e ≤ n + 9
  | 0, f, r, o, q, e, V, hf, hq, h => by
    rw [pTx] at h
    cases h
  | d + 1, f, r, o, q, e, V, hf, hq, h => by
    rw [pTx] at h
    by_cases h0 : tK c n q = 0
    · rw [if_pos h0] at h
      cases h
    · rw [if_neg h0] at h
      cases hS : pStmt c n f r o q with
      | inl x =>
        rw [hS] at h
        cases h
        exact pStmt_e hq hS
      | inr x =>
        obtain ⟨r1, o1, q1⟩ := x
        rw [hS] at h
        obtain ⟨a1, a2, a3⟩ := pStmt_ok V hf hS
        have hE := tE_le (c := c) (n := n) (q := q1) (by rw [a3]; decide)
        exact pTx_e d false r1 o1 (tE c n q1) a1 (fun h => nomatch h) hE.1 h
end ZNEWROW
theorem zPV_W {r : zRow} {o : Nat} (h : zPV r o) : zW r := by
  obtain ⟨⟨a0, a1, a2, a3, a4⟩, a20, av, al, ⟨z6, z⟩, ao⟩ := h
  have v0 := av 0 (by decide)
  have v1 := av 1 (by decide)
  have z0 : (0 : Int32).toInt = 0 := rfl
  unfold zW
  rw [z 5 (by omega), z 7 (by omega), z 11 (by omega), z 18 (by omega), z 19 (by omega), z 27 (by omega), z 28 (by omega), z 29 (by omega), z 30 (by omega), z6, z0]
  exact ⟨a0, a1, a2, a3, a4, by omega, Or.inl rfl, Or.inl rfl, by omega, by omega, by omega, a20, v0.1, v0.2.1, v0.2.2, ⟨by omega, v0.2.2.1⟩, by omega, v1.1, v1.2.1, v1.2.2, ⟨by omega, v1.2.2.1⟩, by omega, fun h => absurd h (by decide), fun h => absurd h (by decide), fun a ha => (al a ha).1⟩
theorem zidx_b {N x : Int32} (h : zckk N x) (hN : N.toInt ≤ 28) : 0 ≤ (zidx x).toInt ∧ (zidx x).toInt < 26 := by
  obtain ⟨h1, h2⟩ := h
  have l48 : (48 : Int32).toInt = 48 := rfl
  have l97 : (97 : Int32).toInt = 97 := rfl
  refine ⟨?_, by omega⟩
  unfold zidx zdig
  rcases h2 with h2 | h2
  · have h3 := xK_1.mp h2
    rw [decide_eq_false (by omega), if_neg (by decide), nsub (by rw [l97]; omega) (by rw [l97]; omega), l97]
    omega
  · have h3 := xK_2.mp h2
    rw [decide_eq_true h3, if_pos rfl, nsub (by rw [l48]; omega) (by rw [l48]; omega), l48]
    omega
def zpb (x : Int32) : Prop := 0 ≤ x.toInt ∧ x.toInt < 28
theorem zpb_01 {b : Bool} : zpb (if b = true then 1 else 0) := by
  cases b
  · exact (by decide : 0 ≤ (0 : Int32).toInt ∧ (0 : Int32).toInt < 28)
  · exact (by decide : 0 ≤ (1 : Int32).toInt ∧ (1 : Int32).toInt < 28)
theorem zenc_b {N : Int32} {g : Nat → Int32} (hN : N.toInt ≤ 28) : ∀ k, (∀ j, j < k → zckk N (g j)) → (∀ x, x ∈ (zenc g k).1 → zpb x) ∧ zpb (zenc g k).2
  | 0, h => ⟨fun x hx => (nomatch hx), (by decide : 0 ≤ (0 : Int32).toInt ∧ (0 : Int32).toInt < 28)⟩
  | k + 1, h => by
    obtain ⟨i1, i2⟩ := zenc_b hN k (fun j hj => h j (by omega))
    have hx := zidx_b (h k (by omega)) hN
    have l2 : (2 : Int32).toInt = 2 := rfl
    have b2 : zpb (2 + zidx (g k)) := by
      unfold zpb
      rw [nadd (by rw [l2]; omega) (by rw [l2]; omega), l2]
      omega
    rw [zenc]
    by_cases hc : (if zdig (g k) then 1 else 0) = (zenc g k).2
    · rw [if_pos hc]
      refine ⟨fun x hx => ?_, i2⟩
      rcases List.mem_append.mp hx with h | h
      · exact i1 x h
      · rw [List.mem_singleton.mp h]; exact b2
    · rw [if_neg hc]
      refine ⟨fun x hx => ?_, zpb_01⟩
      rcases List.mem_append.mp hx with h | h
      · rcases List.mem_append.mp h with h | h
        · exact i1 x h
        · rw [List.mem_singleton.mp h]; exact zpb_01
      · rw [List.mem_singleton.mp h]; exact b2
theorem zpath_b {N : Int32} {g : Nat → Int32} {k : Nat} (hk : k ≤ 30) (hN : 6 ≤ N.toInt ∧ N.toInt ≤ 28) (h : ∀ j, j < k → zckk N (g j)) : ∀ x, x ∈ zpath g k N → zpb x := by
  obtain ⟨i1, i2⟩ := zenc_b hN.2 k h
  have zl := zenc_len g k
  intro x hx
  unfold zpath at hx
  rcases List.mem_append.mp hx with h | h
  · rcases List.mem_append.mp h with h | h
    · exact i1 x h
    · rw [List.mem_singleton.mp h]; exact i2
  · rw [List.mem_singleton.mp h]
    have l2 : (2 : Int32).toInt = 2 := rfl
    have e2 : (N - 2).toInt = N.toInt - 2 := nsub (b := 2) (by show _ ≤ N.toInt - 2; omega) (by show N.toInt - 2 < _; omega)
    have hl := nI_toInt (n := (zenc g k).1.length) (by omega)
    have e3 := nrem (a := nI (zenc g k).1.length) (b := N - 2) (by omega) (by omega)
    have m1 := Int.emod_nonneg (nI (zenc g k).1.length).toInt (show (N - 2).toInt ≠ 0 by omega)
    have m2 := Int.emod_lt_of_pos (nI (zenc g k).1.length).toInt (show 0 < (N - 2).toInt by omega)
    unfold zpb
    rw [nadd (by rw [l2, e3]; omega) (by rw [l2, e3]; omega), l2, e3]
    omega
theorem zPV_Q {r : zRow} {o : Nat} (h : zPV r o) : zQp r := by
  intro q hq k hk hlt j hj
  have ha : 12 * q + k < 24 := by omega
  have hl := (h.2.2.2.1 _ ha).1
  have cl := ncl hl.1
  have hm : (rPath r (12 * q + k)).getD j 0 ∈ rPath r (12 * q + k) := by
    rw [List.getD_eq_getElem?_getD, List.getElem?_eq_getElem hj]
    exact List.getElem_mem hj
  refine zpath_b (N := r 0) (g := rChr r (12 * q + k)) (k := (r (219 + (12 * q + k))).toNatClampNeg) (by omega) h.1.1 (fun i hi => ?_) _ hm
  exact (h.2.2.2.1 _ ha).2 i (by omega)
theorem zPV_E {r : zRow} {o N : Nat} (h : zPV r o) : zEv r N := by
  have hW := zPV_W h
  have hQ := zPV_Q h
  obtain ⟨-, -, -, -, ⟨z6, z⟩, -⟩ := h
  have z0 : (0 : Int32).toInt = 0 := rfl
  have c0 : (0 : Int32).toNatClampNeg = 0 := rfl
  have n0 : nU r = 0 := by unfold nU; rw [z 19 (by omega)]; rfl
  refine ⟨hW, ?_, ?_, ?_⟩
  · unfold zx
    rw [z 12 (by omega), z 13 (by omega), z 14 (by omega), z 37 (by omega), z 38 (by omega), z 5 (by omega), z0]
    refine ⟨fun ha => absurd z6 ha.1, by omega, Or.inl rfl, Or.inl rfl, by omega, by omega, fun _ => ⟨z 7 (by omega), z 9 (by omega), z 10 (by omega), z 11 (by omega), z 19 (by omega)⟩, fun k hk => ?_, hQ⟩
    rw [z 11 (by omega), c0] at hk
    exact absurd hk (Nat.not_lt_zero k)
  · unfold zTr
    rw [n0]
    exact ⟨fun k hk => absurd hk (Nat.not_lt_zero k), fun i j _ hj => absurd hj (Nat.not_lt_zero j), fun k hk => absurd hk (Nat.not_lt_zero k), fun k hk => absurd hk (Nat.not_lt_zero k), fun i j _ hj => absurd hj (Nat.not_lt_zero j), fun k hk => absurd hk (Nat.not_lt_zero k), fun i j _ hj => absurd hj (Nat.not_lt_zero j)⟩
  · unfold zBr
    rw [n0]
    exact Nat.zero_le N
