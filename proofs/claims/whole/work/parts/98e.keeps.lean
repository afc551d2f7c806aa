/-! WHAT HOLDS of a row as it is read -/
def zckk (N x : Int32) : Prop := (zidx x).toInt < N.toInt - 2 ∧ (xK x = 1 ∨ xK x = 2)
def zPV (r : zRow) (o : Nat) : Prop :=
  ((6 ≤ (r 0).toInt ∧ (r 0).toInt ≤ 28) ∧ (1 ≤ (r 1).toInt ∧ (r 1).toInt ≤ 50) ∧ (0 ≤ (r 2).toInt ∧ (r 2).toInt ≤ 500) ∧ (1 ≤ (r 3).toInt ∧ (r 3).toInt ≤ 5000) ∧ (0 ≤ (r 4).toInt ∧ (r 4).toInt ≤ 9)) ∧ (0 ≤ (r 20).toInt ∧ (r 20).toInt ≤ 20) ∧ (∀ v, v < 2 → (0 ≤ (r (21 + v)).toInt ∧ (r (21 + v)).toInt < 1000 * (r 0).toInt) ∧ (10 ≤ (r (23 + v)).toInt ∧ (r (23 + v)).toInt ≤ 999) ∧ (0 ≤ (r (25 + v)).toInt ∧ (r (25 + v)).toInt ≤ 12)) ∧ (∀ a, a < 24 → (0 ≤ (r (219 + a)).toInt ∧ (r (219 + a)).toInt ≤ 30) ∧ ∀ j : Nat, (j : Int) < (r (219 + a)).toInt → zckk (r 0) (r (243 + 30 * a + j))) ∧ zr0 r ∧ o ≤ 2
theorem zr0_c {r r' : zRow} (h : zr0 r) (e : ∀ k, (k = 5 ∨ k = 6 ∨ k = 7 ∨ (9 ≤ k ∧ k ≤ 19) ∨ (27 ≤ k ∧ k ≤ 38)) → r' k = r k) : zr0 r' := ⟨by rw [e 6 (by omega)]; exact h.1, fun k hk => by rw [e k (by omega)]; exact h.2 k hk⟩
theorem pv_u {r : zRow} {o k : Nat} {v : Int32} (h : zPV r o) (hk : 1 ≤ k ∧ k ≤ 4) (hv : (k = 1 → 1 ≤ v.toInt ∧ v.toInt ≤ 50) ∧ (k = 2 → 0 ≤ v.toInt ∧ v.toInt ≤ 500) ∧ (k = 3 → 1 ≤ v.toInt ∧ v.toInt ≤ 5000) ∧ (k = 4 → 0 ≤ v.toInt ∧ v.toInt ≤ 9)) : zPV (zu r k v) o := by
  obtain ⟨⟨a0, a1, a2, a3, a4⟩, a20, av, al, az, ao⟩ := h
  have e : ∀ j, j ≠ k → zu r k v j = r j := fun j hj => zu_ne hj
  have b : ∀ (j : Nat) (lo hi : Int), (lo ≤ (r j).toInt ∧ (r j).toInt ≤ hi) → (k = j → lo ≤ v.toInt ∧ v.toInt ≤ hi) → lo ≤ (zu r k v j).toInt ∧ (zu r k v j).toInt ≤ hi := fun j lo hi h1 h2 => by
    by_cases x : j = k
    · subst x; rw [zu_self]; exact h2 rfl
    · rw [e j x]; exact h1
  refine ⟨⟨by rw [e 0 (by omega)]; exact a0, b 1 _ _ a1 hv.1, b 2 _ _ a2 hv.2.1, b 3 _ _ a3 hv.2.2.1, b 4 _ _ a4 hv.2.2.2⟩, by rw [e 20 (by omega)]; exact a20, fun w hw => ?_, fun a ha => ?_, zr0_c az (fun j hj => e j (by omega)), ao⟩
  · rw [e (21 + w) (by omega), e (23 + w) (by omega), e (25 + w) (by omega), e 0 (by omega)]; exact av w hw
  · rw [e (219 + a) (by omega), e 0 (by omega)]
    exact ⟨(al a ha).1, fun j hj => by rw [e _ (by omega)]; exact (al a ha).2 j hj⟩
/-- nothing of lines and phases has been read -/
def zFst (r : zRow) : Prop := (∀ a, a < 24 → r (219 + a) = 0) ∧ r 21 = 0 ∧ r 22 = 0
theorem pv_wheel {r : zRow} {o : Nat} {v : Int32} (h : zPV r o) (f : zFst r) (hv : 6 ≤ v.toInt ∧ v.toInt ≤ 28) : zPV (zu r 0 v) o := by
  obtain ⟨⟨a0, a1, a2, a3, a4⟩, a20, av, al, az, ao⟩ := h
  have e : ∀ j, j ≠ 0 → zu r 0 v j = r j := fun j hj => zu_ne hj
  have z0 : (0 : Int32).toInt = 0 := rfl
  refine ⟨⟨by rw [zu_self]; exact hv, by rw [e 1 (by omega)]; exact a1, by rw [e 2 (by omega)]; exact a2, by rw [e 3 (by omega)]; exact a3, by rw [e 4 (by omega)]; exact a4⟩, by rw [e 20 (by omega)]; exact a20, fun w hw => ?_, fun a ha => ?_, zr0_c az (fun j hj => e j (by omega)), ao⟩
  · rw [e (21 + w) (by omega), e (23 + w) (by omega), e (25 + w) (by omega), zu_self]
    refine ⟨?_, (av w hw).2⟩
    have h0 : r (21 + w) = 0 := by
      rcases (show w = 0 ∨ w = 1 by omega) with rfl | rfl
      · exact f.2.1
      · exact f.2.2
    rw [h0, z0]; omega
  · rw [e (219 + a) (by omega), f.1 a ha, z0]
    exact ⟨⟨by omega, by omega⟩, fun j hj => absurd hj (by omega)⟩
theorem pv_off {r : zRow} {o : Nat} {v w : Int32} (h : zPV r o) (ho : o < 2) (hv : 0 ≤ v.toInt ∧ v.toInt < 1000 * (r 0).toInt) (hw : 10 ≤ w.toInt ∧ w.toInt ≤ 999) : zPV (zu (zu r (21 + o) v) (23 + o) w) (o + 1) := by
  obtain ⟨⟨a0, a1, a2, a3, a4⟩, a20, av, al, az, ao⟩ := h
  have e : ∀ j, j ≠ 21 + o → j ≠ 23 + o → zu (zu r (21 + o) v) (23 + o) w j = r j := fun j h1 h2 => by rw [zu_ne h2, zu_ne h1]
  refine ⟨⟨by rw [e 0 (by omega) (by omega)]; exact a0, by rw [e 1 (by omega) (by omega)]; exact a1, by rw [e 2 (by omega) (by omega)]; exact a2, by rw [e 3 (by omega) (by omega)]; exact a3, by rw [e 4 (by omega) (by omega)]; exact a4⟩, by rw [e 20 (by omega) (by omega)]; exact a20, fun x hx => ?_, fun a ha => ?_, zr0_c az (fun j hj => e j (by omega) (by omega)), by omega⟩
  · rw [e (25 + x) (by omega) (by omega), e 0 (by omega) (by omega)]
    obtain ⟨b1, b2, b3⟩ := av x hx
    refine ⟨?_, ?_, b3⟩
    · by_cases ex : x = o
      · subst ex; rw [zu_ne (by omega), zu_self]; exact hv
      · rw [e _ (by omega) (by omega)]; exact b1
    · by_cases ex : x = o
      · subst ex; rw [zu_self]; exact hw
      · rw [e _ (by omega) (by omega)]; exact b2
  · rw [e (219 + a) (by omega) (by omega), e 0 (by omega) (by omega)]
    exact ⟨(al a ha).1, fun j hj => by rw [e _ (by omega) (by omega)]; exact (al a ha).2 j hj⟩
theorem pv_lose {r : zRow} {o : Nat} {v : Int32} (h : zPV r o) (h20 : ¬ 20 ≤ (r 20).toInt) : zPV (rLose r v) o := by
  obtain ⟨⟨a0, a1, a2, a3, a4⟩, a20, av, al, az, ao⟩ := h
  have c0 := ncl a20.1
  have e : ∀ j, j ≠ 39 + (r 20).toNatClampNeg → j ≠ 20 → rLose r v j = r j := fun j h1 h2 => by unfold rLose; rw [zu_ne h2, zu_ne h1]
  have l1 : (1 : Int32).toInt = 1 := rfl
  refine ⟨⟨by rw [e 0 (by omega) (by omega)]; exact a0, by rw [e 1 (by omega) (by omega)]; exact a1, by rw [e 2 (by omega) (by omega)]; exact a2, by rw [e 3 (by omega) (by omega)]; exact a3, by rw [e 4 (by omega) (by omega)]; exact a4⟩, ?_, fun x hx => ?_, fun a ha => ?_, zr0_c az (fun j hj => e j (by omega) (by omega)), ao⟩
  · unfold rLose
    rw [zu_self, nadd (by rw [l1]; omega) (by rw [l1]; omega), l1]; omega
  · rw [e (21 + x) (by omega) (by omega), e (23 + x) (by omega) (by omega), e (25 + x) (by omega) (by omega), e 0 (by omega) (by omega)]; exact av x hx
  · rw [e (219 + a) (by omega) (by omega), e 0 (by omega) (by omega)]
    exact ⟨(al a ha).1, fun j hj => by rw [e _ (by omega) (by omega)]; exact (al a ha).2 j hj⟩
theorem pv_new {r : zRow} {o v : Nat} (h : zPV r o) (hv : v < 2) (h12 : ¬ 12 ≤ (r (25 + v)).toInt) : zPV (pNew r v) o := by
  obtain ⟨⟨a0, a1, a2, a3, a4⟩, a20, av, al, az, ao⟩ := h
  have hb := (av v hv).2.2
  have c0 := ncl hb.1
  have e : ∀ j, j ≠ 219 + 12 * v + (r (25 + v)).toNatClampNeg → j ≠ 25 + v → pNew r v j = r j := fun j h1 h2 => by unfold pNew; rw [zu_ne h2, zu_ne h1]
  have l1 : (1 : Int32).toInt = 1 := rfl
  have z0 : (0 : Int32).toInt = 0 := rfl
  refine ⟨⟨by rw [e 0 (by omega) (by omega)]; exact a0, by rw [e 1 (by omega) (by omega)]; exact a1, by rw [e 2 (by omega) (by omega)]; exact a2, by rw [e 3 (by omega) (by omega)]; exact a3, by rw [e 4 (by omega) (by omega)]; exact a4⟩, by rw [e 20 (by omega) (by omega)]; exact a20, fun x hx => ?_, fun a ha => ?_, zr0_c az (fun j hj => e j (by omega) (by omega)), ao⟩
  · rw [e (21 + x) (by omega) (by omega), e (23 + x) (by omega) (by omega), e 0 (by omega) (by omega)]
    obtain ⟨b1, b2, b3⟩ := av x hx
    refine ⟨b1, b2, ?_⟩
    by_cases ex : x = v
    · subst ex
      unfold pNew
      rw [zu_self, nadd (by rw [l1]; omega) (by rw [l1]; omega), l1]; omega
    · rw [e _ (by omega) (by omega)]; exact b3
  · rw [e 0 (by omega) (by omega)]
    by_cases ea : 219 + a = 219 + 12 * v + (r (25 + v)).toNatClampNeg
    · have e0 : pNew r v (219 + a) = 0 := by
        unfold pNew
        rw [zu_ne (by omega), ea, zu_self]
      rw [e0, z0]
      exact ⟨by omega, fun j hj => absurd hj (by omega)⟩
    · rw [e _ ea (by omega)]
      exact ⟨(al a ha).1, fun j hj => by rw [e _ (by omega) (by omega)]; exact (al a ha).2 j hj⟩
theorem pApp_at {c : Nat → Int32} {s a L : Nat} {r : zRow} (ha : a < 24) (hL : r (219 + a) = nI L) : ∀ i, L + i ≤ 30 → ∀ j, pApp c s a r i j = if j = 219 + a then nI (L + i) else if 243 + 30 * a + L ≤ j ∧ j < 243 + 30 * a + L + i then c (s + (j - (243 + 30 * a + L))) else r j
  | 0, hi, j => by
    rw [pApp]
    by_cases e : j = 219 + a
    · rw [if_pos e, e]; exact hL
    · rw [if_neg e, if_neg (by omega)]
  | i + 1, hi, j => by
    have ih := pApp_at (c := c) (s := s) ha hL i (by omega)
    have e1 : pApp c s a r i (219 + a) = nI (L + i) := by rw [ih, if_pos rfl]
    rw [pApp, e1, nI_1, nI_clamp (by omega)]
    by_cases e : j = 219 + a
    · rw [if_pos e, e, zu_self]; rfl
    · rw [if_neg e, zu_ne e]
      by_cases e2 : j = 243 + 30 * a + (L + i)
      · rw [e2, zu_self, if_pos (by omega)]
        congr 1
        omega
      · rw [zu_ne e2, ih, if_neg e]
        by_cases e3 : 243 + 30 * a + L ≤ j ∧ j < 243 + 30 * a + L + i
        · rw [if_pos e3, if_pos (by omega)]
        · rw [if_neg e3, if_neg (by omega)]
theorem pv_app {r : zRow} {o a m s : Nat} {c : Nat → Int32} (h : zPV r o) (ha : a < 24) (hl : (r (219 + a)).toInt + (m : Int) ≤ 30) (hc : ∀ j, j < m → zckk (r 0) (c (s + j))) : zPV (pApp c s a r m) o := by
  obtain ⟨⟨a0, a1, a2, a3, a4⟩, a20, av, al, az, ao⟩ := h
  have c0 := ncl (al a ha).1.1
  obtain ⟨L, hL⟩ : ∃ L, L = (r (219 + a)).toNatClampNeg := ⟨_, rfl⟩
  have eL : r (219 + a) = nI L := by rw [neq, nI_toInt (by omega)]; omega
  have P := pApp_at (c := c) (s := s) ha eL m (by omega)
  have e : ∀ j, j ≠ 219 + a → ¬ (243 + 30 * a + L ≤ j ∧ j < 243 + 30 * a + L + m) → pApp c s a r m j = r j := fun j h1 h2 => by rw [P, if_neg h1, if_neg h2]
  refine ⟨⟨by rw [e 0 (by omega) (by omega)]; exact a0, by rw [e 1 (by omega) (by omega)]; exact a1, by rw [e 2 (by omega) (by omega)]; exact a2, by rw [e 3 (by omega) (by omega)]; exact a3, by rw [e 4 (by omega) (by omega)]; exact a4⟩, by rw [e 20 (by omega) (by omega)]; exact a20, fun x hx => ?_, fun b hb => ?_, zr0_c az (fun j hj => e j (by omega) (by omega)), ao⟩
  · rw [e (21 + x) (by omega) (by omega), e (23 + x) (by omega) (by omega), e (25 + x) (by omega) (by omega), e 0 (by omega) (by omega)]; exact av x hx
  · rw [e 0 (by omega) (by omega)]
    obtain ⟨b1, b2⟩ := al b hb
    by_cases eb : b = a
    · subst eb
      have e9 : pApp c s b r m (219 + b) = nI (L + m) := by rw [P, if_pos rfl]
      rw [e9, nI_toInt (by omega)]
      refine ⟨by omega, fun j hj => ?_⟩
      rw [P, if_neg (by omega)]
      by_cases ej : 243 + 30 * b + L ≤ 243 + 30 * b + j ∧ 243 + 30 * b + j < 243 + 30 * b + L + m
      · rw [if_pos ej]; exact hc _ (by omega)
      · rw [if_neg ej]; exact b2 j (by omega)
    · rw [e (219 + b) (by omega) (by omega)]
      exact ⟨b1, fun j hj => by rw [e _ (by omega) (by omega)]; exact b2 j hj⟩
