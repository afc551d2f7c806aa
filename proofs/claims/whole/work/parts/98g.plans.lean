/-! THE CLASS'S PLAN and the row that is read -/
def zPn (F : Nat → Nat → Int32) (r : zRow) : Prop := (F 0 0 = r 0 ∧ F 0 1 = r 1 ∧ F 0 2 = r 2 ∧ F 0 3 = r 3 ∧ F 0 4 = r 4) ∧ (F 1 1 = r 20 ∧ ∀ k, k < (r 20).toNatClampNeg → F 2 k = r (39 + k)) ∧ (∀ v, v < 2 → F (3 + 62 * v) 0 = r (21 + v) ∧ F (3 + 62 * v) 1 = r (23 + v) ∧ F (3 + 62 * v) 2 = r (25 + v)) ∧ (∀ v : Nat, v < 2 → ∀ k : Nat, k < 12 → (k : Int) < (r (25 + v)).toInt → F (6 + 62 * v + 5 * k) 1 = r (219 + (12 * v + k)) ∧ ∀ j, j < (r (219 + (12 * v + k))).toNatClampNeg → F (7 + 62 * v + 5 * k) j = r (243 + 30 * (12 * v + k) + j))
section ZPLANS
variable {F : Nat → Nat → Int32} {r : zRow}
theorem zPn_u {k : Nat} {x : Int32} (h : zPn F r) (hk : k ≤ 4) : zPn (zf F 0 k x) (zu r k x) := by
  obtain ⟨⟨a0, a1, a2, a3, a4⟩, ⟨b1, b2⟩, d, e⟩ := h
  have z : ∀ j, F 0 j = r j → zf F 0 k x 0 j = zu r k x j := fun j hj => by rw [zf_ap, if_pos rfl, zu_ap, hj]
  have y : ∀ j, j ≠ k → zu r k x j = r j := fun j hj => zu_ne hj
  have w : ∀ a, a ≠ 0 → zf F 0 k x a = F a := fun a ha => zf_ne ha
  refine ⟨⟨z 0 a0, z 1 a1, z 2 a2, z 3 a3, z 4 a4⟩, ⟨by rw [w 1 (by omega), y 20 (by omega)]; exact b1, fun j hj => ?_⟩, fun v hv => ?_, fun v hv m hm hlt => ?_⟩
  · rw [y 20 (by omega)] at hj
    rw [w 2 (by omega), y _ (by omega)]
    exact b2 j hj
  · rw [w _ (by omega), y _ (by omega), y _ (by omega), y _ (by omega)]
    exact d v hv
  · rw [y (25 + v) (by omega)] at hlt
    rw [w _ (by omega), w _ (by omega), y (219 + (12 * v + m)) (by omega)]
    exact ⟨(e v hv m hm hlt).1, fun j hj => by rw [y _ (by omega)]; exact (e v hv m hm hlt).2 j hj⟩
theorem zPn_o {o i : Nat} {x : Int32} (h : zPn F r) (ho : o < 2) (hi : i < 2) : zPn (zf F (3 + 62 * o) i x) (zu r (21 + 2 * i + o) x) := by
  obtain ⟨⟨a0, a1, a2, a3, a4⟩, ⟨b1, b2⟩, d, e⟩ := h
  have y : ∀ j, j ≠ 21 + 2 * i + o → zu r (21 + 2 * i + o) x j = r j := fun j hj => zu_ne hj
  have w : ∀ a, a ≠ 3 + 62 * o → zf F (3 + 62 * o) i x a = F a := fun a ha => zf_ne ha
  refine ⟨⟨by rw [w 0 (by omega), y 0 (by omega)]; exact a0, by rw [w 0 (by omega), y 1 (by omega)]; exact a1, by rw [w 0 (by omega), y 2 (by omega)]; exact a2, by rw [w 0 (by omega), y 3 (by omega)]; exact a3, by rw [w 0 (by omega), y 4 (by omega)]; exact a4⟩, ⟨by rw [w 1 (by omega), y 20 (by omega)]; exact b1, fun j hj => ?_⟩, fun v hv => ?_, fun v hv m hm hlt => ?_⟩
  · rw [y 20 (by omega)] at hj
    rw [w 2 (by omega), y _ (by omega)]
    exact b2 j hj
  · obtain ⟨d1, d2, d3⟩ := d v hv
    by_cases ev : v = o
    · subst ev
      rw [y (25 + v) (by omega), zf_ap, zf_ap, zf_ap, if_pos rfl, if_pos rfl, if_pos rfl, if_neg (show ¬ 2 = i by omega)]
      rcases (show i = 0 ∨ i = 1 by omega) with rfl | rfl
      · refine ⟨by rw [if_pos rfl, show 21 + 2 * 0 + v = 21 + v by omega, zu_self], by rw [if_neg (by decide), y _ (by omega)]; exact d2, d3⟩
      · refine ⟨by rw [if_neg (by decide), y _ (by omega)]; exact d1, by rw [if_pos rfl, show 21 + 2 * 1 + v = 23 + v by omega, zu_self], d3⟩
    · rw [w _ (by omega), y _ (by omega), y _ (by omega), y _ (by omega)]
      exact ⟨d1, d2, d3⟩
  · rw [y (25 + v) (by omega)] at hlt
    rw [w _ (by omega), w _ (by omega), y (219 + (12 * v + m)) (by omega)]
    exact ⟨(e v hv m hm hlt).1, fun j hj => by rw [y _ (by omega)]; exact (e v hv m hm hlt).2 j hj⟩
theorem zPn_l {x : Int32} {m : Nat} (h : zPn F r) (hm : r 20 = nI m) (hm2 : m < 20) : zPn (zf (zf F 2 m x) 1 1 (nI (m + 1))) (rLose r x) := by
  obtain ⟨⟨a0, a1, a2, a3, a4⟩, ⟨b1, b2⟩, d, e⟩ := h
  have cm : (r 20).toNatClampNeg = m := by rw [hm, nI_clamp (by omega)]
  have y : ∀ j, j ≠ 39 + m → j ≠ 20 → rLose r x j = r j := fun j h1 h2 => by unfold rLose; rw [zu_ne h2, cm, zu_ne h1]
  have w : ∀ a, a ≠ 2 → a ≠ 1 → zf (zf F 2 m x) 1 1 (nI (m + 1)) a = F a := fun a h1 h2 => by rw [zf_ne h2, zf_ne h1]
  have y20 : rLose r x 20 = nI (m + 1) := by unfold rLose; rw [zu_self, hm, nI_1]
  refine ⟨⟨by rw [w 0 (by omega) (by omega), y 0 (by omega) (by omega)]; exact a0, by rw [w 0 (by omega) (by omega), y 1 (by omega) (by omega)]; exact a1, by rw [w 0 (by omega) (by omega), y 2 (by omega) (by omega)]; exact a2, by rw [w 0 (by omega) (by omega), y 3 (by omega) (by omega)]; exact a3, by rw [w 0 (by omega) (by omega), y 4 (by omega) (by omega)]; exact a4⟩, ⟨by rw [y20, zf_ap, if_pos rfl, if_pos rfl], fun j hj => ?_⟩, fun v hv => ?_, fun v hv k hk hlt => ?_⟩
  · rw [y20, nI_clamp (by omega)] at hj
    rw [zf_ne (by decide), zf_ap, if_pos rfl]
    by_cases ej : j = m
    · subst ej
      unfold rLose
      rw [if_pos rfl, zu_ne (by omega), cm, zu_self]
    · rw [if_neg ej, y _ (by omega) (by omega)]
      exact b2 j (by omega)
  · rw [w _ (by omega) (by omega), y _ (by omega) (by omega), y _ (by omega) (by omega), y _ (by omega) (by omega)]
    exact d v hv
  · rw [y (25 + v) (by omega) (by omega)] at hlt
    rw [w _ (by omega) (by omega), w _ (by omega) (by omega), y (219 + (12 * v + k)) (by omega) (by omega)]
    exact ⟨(e v hv k hk hlt).1, fun j hj => by rw [y _ (by omega) (by omega)]; exact (e v hv k hk hlt).2 j hj⟩
theorem zPn_n {v L : Nat} (h : zPn F r) (h20 : (r 20).toInt ≤ 20) (hv : v < 2) (hL : r (25 + v) = nI L) (hL2 : L < 12) : zPn (zf (zf F (3 + 62 * v) 2 (nI (L + 1))) (6 + 62 * v + 5 * L) 1 0) (pNew r v) := by
  obtain ⟨⟨a0, a1, a2, a3, a4⟩, ⟨b1, b2⟩, d, e⟩ := h
  have cL : (r (25 + v)).toNatClampNeg = L := by rw [hL, nI_clamp (by omega)]
  have y : ∀ j, j ≠ 219 + 12 * v + L → j ≠ 25 + v → pNew r v j = r j := fun j h1 h2 => by unfold pNew; rw [zu_ne h2, cL, zu_ne h1]
  have yv : pNew r v (25 + v) = nI (L + 1) := by unfold pNew; rw [zu_self, hL, nI_1]
  have w : ∀ a, a ≠ 3 + 62 * v → a ≠ 6 + 62 * v + 5 * L → zf (zf F (3 + 62 * v) 2 (nI (L + 1))) (6 + 62 * v + 5 * L) 1 0 a = F a := fun a h1 h2 => by rw [zf_ne h2, zf_ne h1]
  refine ⟨⟨by rw [w 0 (by omega) (by omega), y 0 (by omega) (by omega)]; exact a0, by rw [w 0 (by omega) (by omega), y 1 (by omega) (by omega)]; exact a1, by rw [w 0 (by omega) (by omega), y 2 (by omega) (by omega)]; exact a2, by rw [w 0 (by omega) (by omega), y 3 (by omega) (by omega)]; exact a3, by rw [w 0 (by omega) (by omega), y 4 (by omega) (by omega)]; exact a4⟩, ⟨by rw [w 1 (by omega) (by omega), y 20 (by omega) (by omega)]; exact b1, fun j hj => ?_⟩, fun u hu => ?_, fun u hu k hk hlt => ?_⟩
  · rw [y 20 (by omega) (by omega)] at hj
    have hj9 : j < 20 := by
      rw [ncln] at hj
      omega
    rw [w 2 (by omega) (by omega), y _ (by omega) (by omega)]
    exact b2 j hj
  · obtain ⟨d1, d2, d3⟩ := d u hu
    by_cases eu : u = v
    · subst eu
      rw [zf_ne (by omega), y (21 + u) (by omega) (by omega), y (23 + u) (by omega) (by omega), yv, zf_ap, zf_ap, zf_ap, if_pos rfl, if_pos rfl, if_pos rfl, if_neg (by decide), if_neg (by decide), if_pos rfl]
      exact ⟨d1, d2, rfl⟩
    · rw [w _ (by omega) (by omega), y _ (by omega) (by omega), y _ (by omega) (by omega), y _ (by omega) (by omega)]
      exact ⟨d1, d2, d3⟩
  · by_cases ek : u = v ∧ k = L
    · obtain ⟨rfl, rfl⟩ := ek
      have e0 : pNew r u (219 + (12 * u + k)) = 0 := by
        unfold pNew
        rw [zu_ne (by omega), cL, show 219 + (12 * u + k) = 219 + 12 * u + k by omega, zu_self]
      rw [e0, zf_ap, if_pos rfl, if_pos rfl]
      exact ⟨rfl, fun j hj => absurd hj (Nat.not_lt_zero j)⟩
    · have hlt2 : (k : Int) < (r (25 + u)).toInt := by
        by_cases eu : u = v
        · subst eu
          rw [yv, nI_toInt (by omega)] at hlt
          rw [hL, nI_toInt (by omega)]
          omega
        · rw [y _ (by omega) (by omega)] at hlt
          exact hlt
      rw [w _ (by omega) (by omega), w _ (by omega) (by omega), y (219 + (12 * u + k)) (by omega) (by omega)]
      exact ⟨(e u hu k hk hlt2).1, fun j hj => by rw [y _ (by omega) (by omega)]; exact (e u hu k hk hlt2).2 j hj⟩
theorem zPn_a {v k len : Nat} {x : Int32} (h : zPn F r) (h20 : (r 20).toInt ≤ 20) (hv : v < 2) (hk : k < 12) (hlen : r (219 + (12 * v + k)) = nI len) (hl : len < 30) (al : ∀ a, a < 24 → (r (219 + a)).toInt ≤ 30) : zPn (zf (zf F (7 + 62 * v + 5 * k) len x) (6 + 62 * v + 5 * k) 1 (nI (len + 1))) (zu (zu r (243 + 30 * (12 * v + k) + len) x) (219 + (12 * v + k)) (nI (len + 1))) := by
  obtain ⟨⟨a0, a1, a2, a3, a4⟩, ⟨b1, b2⟩, d, e⟩ := h
  have y : ∀ j, j ≠ 243 + 30 * (12 * v + k) + len → j ≠ 219 + (12 * v + k) → zu (zu r (243 + 30 * (12 * v + k) + len) x) (219 + (12 * v + k)) (nI (len + 1)) j = r j := fun j h1 h2 => by rw [zu_ne h2, zu_ne h1]
  have w : ∀ a, a ≠ 7 + 62 * v + 5 * k → a ≠ 6 + 62 * v + 5 * k → zf (zf F (7 + 62 * v + 5 * k) len x) (6 + 62 * v + 5 * k) 1 (nI (len + 1)) a = F a := fun a h1 h2 => by rw [zf_ne h2, zf_ne h1]
  refine ⟨⟨by rw [w 0 (by omega) (by omega), y 0 (by omega) (by omega)]; exact a0, by rw [w 0 (by omega) (by omega), y 1 (by omega) (by omega)]; exact a1, by rw [w 0 (by omega) (by omega), y 2 (by omega) (by omega)]; exact a2, by rw [w 0 (by omega) (by omega), y 3 (by omega) (by omega)]; exact a3, by rw [w 0 (by omega) (by omega), y 4 (by omega) (by omega)]; exact a4⟩, ⟨by rw [w 1 (by omega) (by omega), y 20 (by omega) (by omega)]; exact b1, fun j hj => ?_⟩, fun u hu => ?_, fun u hu m hm hlt => ?_⟩
  · rw [y 20 (by omega) (by omega)] at hj
    have hj9 : j < 20 := by
      rw [ncln] at hj
      omega
    rw [w 2 (by omega) (by omega), y _ (by omega) (by omega)]
    exact b2 j hj
  · rw [w _ (by omega) (by omega), y _ (by omega) (by omega), y _ (by omega) (by omega), y _ (by omega) (by omega)]
    exact d u hu
  · rw [y (25 + u) (by omega) (by omega)] at hlt
    obtain ⟨e1, e2⟩ := e u hu m hm hlt
    have hb := al (12 * u + m) (by omega)
    by_cases em : u = v ∧ m = k
    · obtain ⟨rfl, rfl⟩ := em
      rw [zu_self, nI_clamp (by omega), zf_ap, if_pos rfl, if_pos rfl]
      refine ⟨rfl, fun j hj => ?_⟩
      rw [zf_ne (by omega), zf_ap, if_pos rfl, zu_ne (by omega)]
      by_cases ej : j = len
      · subst ej; rw [if_pos rfl, zu_self]
      · rw [if_neg ej, zu_ne (by omega)]
        exact e2 j (by rw [hlen, nI_clamp (by omega)]; omega)
    · rw [w _ (by omega) (by omega), w _ (by omega) (by omega), y (219 + (12 * u + m)) (by omega) (by omega)]
      refine ⟨e1, fun j hj => ?_⟩
      have hj2 := hj
      rw [ncln] at hj2
      rw [y _ (by omega) (by omega)]
      exact e2 j hj
end ZPLANS
