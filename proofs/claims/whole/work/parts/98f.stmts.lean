/-! WHAT HOLDS behind a statement -/
section ZSTMT
variable {c : Nat → Int32} {n : Nat}
theorem tE_q (q : Nat) : q < tE c n q := by
  have h1 := tS_ge c n q
  have h2 := tE_gt c n q
  omega
theorem pSemi_ok {r r' : zRow} {o q o' q' : Nat} (h : pSemi c n r o q = .inr (r', o', q')) : r' = r ∧ o' = o ∧ q < q' ∧ tK c n q' = 3 := by
  unfold pSemi at h
  by_cases e : tK c n (tE c n q) = 3
  · rw [if_pos e] at h
    cases h
    exact ⟨rfl, rfl, tE_q q, e⟩
  · rw [if_neg e] at h
    cases h
theorem pSet_ok {k : Nat} {lo hi : Int32} {r r' : zRow} {o q o' q' : Nat} (h : pSet c n k lo hi r o q = .inr (r', o', q')) : ∃ v : Int32, lo.toInt ≤ v.toInt ∧ v.toInt ≤ hi.toInt ∧ r' = zu r k v ∧ o' = o ∧ q < q' ∧ tK c n q' = 3 := by
  unfold pSet at h
  by_cases e : pNb c n (tE c n q) lo hi = true
  · rw [if_pos e] at h
    obtain ⟨h1, h2, h3, h4⟩ := pSemi_ok h
    obtain ⟨e1, e2, e3⟩ := pNb_t.mp e
    have := tE_q (c := c) (n := n) q
    exact ⟨_, e2, e3, h1, h2, by omega, h4⟩
  · rw [if_neg e] at h
    cases h
theorem pItb_t {r : zRow} {v q : Nat} : pItb c n r v q = true ↔ (∀ j, j < tE c n q - tS c n q → (zidx (c (tS c n q + j))).toInt < (r 0).toInt - 2) ∧ (r (219 + pLn r v)).toInt + ((tE c n q - tS c n q : Nat) : Int) ≤ 30 := by
  unfold pItb pFitb
  rw [Bool.and_eq_true, List.all_eq_true, decide_eq_true_eq]
  exact ⟨fun h => ⟨fun j hj => of_decide_eq_true (h.1 j (List.mem_range.mpr hj)), h.2⟩, fun h => ⟨fun j hj => decide_eq_true (h.1 j (List.mem_range.mp hj)), h.2⟩⟩
theorem pLn_lt {r : zRow} {o v : Nat} (h : zPV r o) (hv : v < 2) : pLn r v < 24 := by
  have hb := (h.2.2.1 v hv).2.2
  have c0 := ncl hb.1
  unfold pLn
  omega
theorem pIts_ok {o v : Nat} (hv : v < 2) : ∀ (d : Nat) (f : Bool) (r : zRow) (q : Nat) {r' : zRow} {q' : Nat}, zPV r o → pIts c n v d f r q = .inr (r', q') → zPV r' o ∧ q ≤ q' ∧ tK c n q' = 3
  | 0, f, r, q, r', q', h, e => by
    rw [pIts] at e
    cases e
  | d + 1, f, r, q, r', q', h, e => by
    have hq := tE_q (c := c) (n := n) q
    rw [pIts] at e
    by_cases e3 : tK c n q = 3
    · rw [if_pos e3] at e
      by_cases ef : f = true
      · rw [if_pos ef] at e
        cases e
      · rw [if_neg ef] at e
        cases e
        exact ⟨h, Nat.le_refl _, e3⟩
    · rw [if_neg e3] at e
      by_cases e4 : tK c n q = 4
      · rw [if_pos e4] at e
        by_cases e12 : 12 ≤ (r (25 + v)).toInt
        · rw [if_pos e12] at e
          cases e
        · rw [if_neg e12] at e
          obtain ⟨a1, a2, a3⟩ := pIts_ok hv d false _ _ (pv_new h hv e12) e
          exact ⟨a1, by omega, a3⟩
      · rw [if_neg e4] at e
        by_cases e1 : tK c n q = 1 ∨ tK c n q = 2
        · rw [if_pos e1] at e
          by_cases eb : pItb c n r v q = true
          · rw [if_pos eb] at e
            obtain ⟨b1, b2⟩ := pItb_t.mp eb
            obtain ⟨k1, k2, k3, k4, k5⟩ := tK_run (k := tK c n q) e1 rfl
            obtain ⟨a1, a2, a3⟩ := pIts_ok hv d false _ _ (pv_app (s := tS c n q) (c := c) h (pLn_lt h hv) b2 (fun j hj => ⟨b1 j hj, by rw [k5 _ (by omega) (by omega)]; exact e1⟩)) e
            exact ⟨a1, by omega, a3⟩
          · rw [if_neg eb] at e
            cases e
        · rw [if_neg e1] at e
          cases e
theorem pMsg_ok {r r' : zRow} {o q o' q' : Nat} (h : zPV r o) (e : pMsg c n r o q = .inr (r', o', q')) : zPV r' o' ∧ q < q' ∧ tK c n q' = 3 := by
  unfold pMsg at e
  by_cases e1 : pNb c n (tE c n q) 0 1 = true
  · rw [if_pos e1] at e
    obtain ⟨x1, x2, x3⟩ := pNb_t.mp e1
    have z0 : (0 : Int32).toInt = 0 := rfl
    have z1 : (1 : Int32).toInt = 1 := rfl
    have c0 := ncl (a := tV c n (tE c n q)) (by omega)
    have hv : (tV c n (tE c n q)).toNatClampNeg < 2 := by omega
    by_cases e12 : 12 ≤ (r (25 + (tV c n (tE c n q)).toNatClampNeg)).toInt
    · rw [if_pos e12] at e
      cases e
    · rw [if_neg e12] at e
      cases hI : pIts c n (tV c n (tE c n q)).toNatClampNeg (n + 1) true (pNew r (tV c n (tE c n q)).toNatClampNeg) (tE c n (tE c n q)) with
      | inl x => rw [hI] at e; cases e
      | inr x =>
        obtain ⟨r2, q2⟩ := x
        rw [hI] at e
        cases e
        obtain ⟨a1, a2, a3⟩ := pIts_ok hv _ _ _ _ (pv_new h hv e12) hI
        have g1 := tE_q (c := c) (n := n) q
        have g2 := tE_q (c := c) (n := n) (tE c n q)
        exact ⟨a1, by omega, a3⟩
  · rw [if_neg e1] at e
    cases e
theorem pOff_ok {r r' : zRow} {o q o' q' : Nat} (h : zPV r o) (e : pOff c n r o q = .inr (r', o', q')) : zPV r' o' ∧ q < q' ∧ tK c n q' = 3 := by
  unfold pOff at e
  by_cases e2 : 2 ≤ o
  · rw [if_pos e2] at e
    cases e
  · rw [if_neg e2] at e
    by_cases e1 : pNb c n (tE c n q) 0 (1000 * r 0 - 1) = true
    · rw [if_pos e1] at e
      by_cases e3 : pNb c n (tE c n (tE c n q)) 10 999 = true
      · rw [if_pos e3] at e
        obtain ⟨h1, h2, h3, h4⟩ := pSemi_ok e
        obtain ⟨x1, x2, x3⟩ := pNb_t.mp e1
        obtain ⟨y1, y2, y3⟩ := pNb_t.mp e3
        have z0 : (0 : Int32).toInt = 0 := rfl
        have z1 : (1 : Int32).toInt = 1 := rfl
        have z10 : (10 : Int32).toInt = 10 := rfl
        have z999 : (999 : Int32).toInt = 999 := rfl
        have zk : (1000 : Int32).toInt = 1000 := rfl
        have hN := h.1.1
        have m1 : (1000 * r 0 : Int32).toInt = 1000 * (r 0).toInt := by rw [nmul (by rw [zk]; omega) (by rw [zk]; omega), zk]
        have m2 : (1000 * r 0 - 1 : Int32).toInt = 1000 * (r 0).toInt - 1 := by rw [nsub (by rw [m1, z1]; omega) (by rw [m1, z1]; omega), m1, z1]
        rw [h1, h2]
        have g1 := tE_q (c := c) (n := n) q
        have g2 := tE_q (c := c) (n := n) (tE c n q)
        exact ⟨pv_off h (by omega) (by omega) (by omega), by omega, h4⟩
      · rw [if_neg e3] at e
        cases e
    · rw [if_neg e1] at e
      cases e
theorem pLos_ok {r r' : zRow} {o q o' q' : Nat} (h : zPV r o) (e : pLos c n r o q = .inr (r', o', q')) : zPV r' o' ∧ q < q' ∧ tK c n q' = 3 := by
  unfold pLos at e
  by_cases e2 : 20 ≤ (r 20).toInt
  · rw [if_pos e2] at e
    cases e
  · rw [if_neg e2] at e
    by_cases e1 : pNb c n (tE c n q) 1 9999 = true
    · rw [if_pos e1] at e
      obtain ⟨h1, h2, h3, h4⟩ := pSemi_ok e
      rw [h1, h2]
      have g1 := tE_q (c := c) (n := n) q
      exact ⟨pv_lose h e2, by omega, h4⟩
    · rw [if_neg e1] at e
      cases e
theorem pStmt_ok {f : Bool} {r r' : zRow} {o q o' q' : Nat} (h : zPV r o) (hf : f = true → zFst r) (e : pStmt c n f r o q = .inr (r', o', q')) : zPV r' o' ∧ q < q' ∧ tK c n q' = 3 := by
  have l0 : (0 : Int32).toInt = 0 := rfl
  have l1 : (1 : Int32).toInt = 1 := rfl
  have l6 : (6 : Int32).toInt = 6 := rfl
  have l9 : (9 : Int32).toInt = 9 := rfl
  have l28 : (28 : Int32).toInt = 28 := rfl
  have l50 : (50 : Int32).toInt = 50 := rfl
  have l500 : (500 : Int32).toInt = 500 := rfl
  have l5000 : (5000 : Int32).toInt = 5000 := rfl
  unfold pStmt at e
  by_cases e2 : tW c n q 2
  · rw [if_pos e2] at e
    exact pMsg_ok h e
  rw [if_neg e2] at e
  by_cases e3 : tW c n q 3
  · rw [if_pos e3] at e
    by_cases ef : f = true
    · rw [if_pos ef] at e
      obtain ⟨v, v1, v2, v3, v4, v5, v6⟩ := pSet_ok e
      rw [v3, v4]
      exact ⟨pv_wheel h (hf ef) (by omega), v5, v6⟩
    · rw [if_neg ef] at e
      cases e
  rw [if_neg e3] at e
  by_cases e4 : tW c n q 4
  · rw [if_pos e4] at e
    exact pOff_ok h e
  rw [if_neg e4] at e
  by_cases e5 : tW c n q 5
  · rw [if_pos e5] at e
    exact pLos_ok h e
  rw [if_neg e5] at e
  by_cases e6 : tW c n q 6
  · rw [if_pos e6] at e
    obtain ⟨v, v1, v2, v3, v4, v5, v6⟩ := pSet_ok e
    rw [v3, v4]
    exact ⟨pv_u h (by omega) (by omega), v5, v6⟩
  rw [if_neg e6] at e
  by_cases e7 : tW c n q 7
  · rw [if_pos e7] at e
    obtain ⟨v, v1, v2, v3, v4, v5, v6⟩ := pSet_ok e
    rw [v3, v4]
    exact ⟨pv_u h (by omega) (by omega), v5, v6⟩
  rw [if_neg e7] at e
  by_cases e8 : tW c n q 8
  · rw [if_pos e8] at e
    obtain ⟨v, v1, v2, v3, v4, v5, v6⟩ := pSet_ok e
    rw [v3, v4]
    exact ⟨pv_u h (by omega) (by omega), v5, v6⟩
  rw [if_neg e8] at e
  by_cases e9 : tW c n q 9
  · rw [if_pos e9] at e
    obtain ⟨v, v1, v2, v3, v4, v5, v6⟩ := pSet_ok e
    rw [v3, v4]
    exact ⟨pv_u h (by omega) (by omega), v5, v6⟩
  rw [if_neg e9] at e
  cases e
end ZSTMT
