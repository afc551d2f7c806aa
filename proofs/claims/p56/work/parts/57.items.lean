/-! THE TEXT as the class reads it: the message's lines -/
theorem zAt_cons {c : Nat → Int32} {q : Nat} {x : Int32} {l : List Int32} (h : c q = x) (h2 : zAt c (q + 1) l) : zAt c q (x :: l) := fun j hj => by
  match j with
  | 0 => exact h
  | j + 1 =>
    have hj' : j + 1 < l.length + 1 := hj
    have := h2 j (by omega)
    rw [show q + (j + 1) = q + 1 + j by omega, this]
    rfl
def LR (L : Nat) (xs : Nat → Int32) (r0 r : zRow) (k j : Nat) : Prop := r 25 = nI (k + 1) ∧ (∀ k', k' < k → r (219 + k') = nI (lT L xs k').length ∧ ∀ i, i < (lT L xs k').length → r (243 + 30 * k' + i) = (lT L xs k').getD i 0) ∧ r (219 + k) = nI j ∧ (∀ i, i < j → r (243 + 30 * k + i) = (lT L xs k).getD i 0) ∧ ∀ x, x < 219 → x ≠ 25 → r x = r0 x
section QITEMS
variable {L : Nat} {xs : Nat → Int32} {c : Nat → Int32} {n : Nat} {r0 r : zRow}
theorem LR_ln {k j : Nat} (hk : k < 3) (H : LR L xs r0 r k j) : pLn r 0 = k ∧ (r 25).toInt = k + 1 := by
  have e := nI_toInt (n := k + 1) (by omega)
  have hc := ncl (a := r 25) (by rw [H.1, e]; omega)
  unfold pLn
  rw [H.1] at hc ⊢
  rw [e] at hc ⊢
  omega
theorem lOk_k {P : Nat} {x : Int32} (h : lOk P x) : (xK x = 1 ∨ xK x = 2) ∧ (zidx x).toInt < (P : Int) - 2 := by
  obtain ⟨w, rfl, h⟩ := h
  have e := nI_toInt (n := w) (by rcases h with h | h <;> omega)
  have t48 : (48 : Int32).toInt = 48 := rfl
  have t97 : (97 : Int32).toInt = 97 := rfl
  rcases h with h | h
  · refine ⟨Or.inr (xK_2.mpr (by rw [e]; omega)), ?_⟩
    have hd : zdig (nI w) = true := by unfold zdig; rw [decide_eq_true_eq, e]; omega
    unfold zidx
    rw [hd, if_pos rfl, nsub (by rw [e, t48]; omega) (by rw [e, t48]; omega), e, t48]
    omega
  · refine ⟨Or.inl (xK_1.mpr (by rw [e]; omega)), ?_⟩
    have hd : ¬ zdig (nI w) = true := by unfold zdig; rw [decide_eq_true_eq, e]; omega
    unfold zidx
    rw [if_neg hd, nsub (by rw [e, t97]; omega) (by rw [e, t97]; omega), e, t97]
    omega
theorem it_char (hP : r0 0 = nI (qP L xs)) {d k j q : Nat} {f : Bool} (hk : k < 3) (H : LR L xs r0 r k j) (hj : j < (lT L xs k).length) (h : zAt c q [32, (lT L xs k).getD j 0]) (hn : q + 2 < n) (he : c (q + 2) = 32 ∨ c (q + 2) = 59) : ∃ r', LR L xs r0 r' k (j + 1) ∧ pIts c n 0 (d + 1) f r q = pIts c n 0 d false r' (q + 2) := by
  have hPb := qP_b L xs
  have h6 := lT_len L xs k
  obtain ⟨h1, h2⟩ := zAt_c h
  have hx := (zAt_c h2).1
  have hok : lOk (qP L xs) ((lT L xs k).getD j 0) := by
    rw [List.getD_eq_getElem?_getD, List.getElem?_eq_getElem hj]
    exact lT_ok L xs k _ (List.getElem_mem hj)
  obtain ⟨kk, iz⟩ := lOk_k hok
  obtain ⟨l1, l2⟩ := LR_ln hk H
  obtain ⟨a1, a2, a3, a4, a5⟩ := H
  have r0e : (r 0).toInt = qP L xs := by rw [a5 0 (by decide) (by decide), hP, nI_toInt (by omega)]
  have hne : ¬ xK (c (q + 2)) = xK ((lT L xs k).getD j 0) := by
    rcases he with e | e
    · rw [e, xK_32.1]; rcases kk with x | x <;> rw [x] <;> decide
    · rw [e, xK_32.2.1]; rcases kk with x | x <;> rw [x] <;> decide
  obtain ⟨t1, t2, t3⟩ := tok_run (c := c) (n := n) (q := q) (s := q + 1) (e := q + 2) kk (by omega) (by omega) (by omega) (by split <;> omega) (fun i i1 i2 => by
    have : i = q := by omega
    rw [this]; exact Or.inl h1) (fun i i1 i2 => by
    have : i = q + 1 := by omega
    rw [this, hx]) (fun _ => hne)
  have ej := nI_toInt (n := j) (by omega)
  have cj : (r (219 + k)).toNatClampNeg = j := by rw [a3, nI_clamp (by omega)]
  refine ⟨pApp c (q + 1) k r 1, ?_, ?_⟩
  · have ep : pApp c (q + 1) k r 1 = zu (zu r (243 + 30 * k + j) ((lT L xs k).getD j 0)) (219 + k) (nI (j + 1)) := by
      show zu (zu r (243 + 30 * k + (r (219 + k)).toNatClampNeg) (c (q + 1 + 0))) (219 + k) (r (219 + k) + 1) = _
      rw [cj, Nat.add_zero, hx, a3, nI_1]
    rw [ep]
    have o : ∀ y, y ≠ 219 + k → y ≠ 243 + 30 * k + j → zu (zu r (243 + 30 * k + j) ((lT L xs k).getD j 0)) (219 + k) (nI (j + 1)) y = r y := fun y y1 y2 => by rw [zu_ne y1, zu_ne y2]
    refine ⟨by rw [o 25 (by omega) (by omega)]; exact a1, fun k' hk' => ⟨by rw [o _ (by omega) (by omega)]; exact (a2 k' hk').1, fun i hi => by have := lT_len L xs k'; rw [o _ (by omega) (by omega)]; exact (a2 k' hk').2 i hi⟩, zu_self _ _ _, fun i hi => ?_, fun x x1 x2 => by rw [o x (by omega) (by omega)]; exact a5 x x1 x2⟩
    by_cases e : i = j
    · subst e
      rw [zu_ne (by omega), zu_self]
    · rw [o _ (by omega) (by omega)]
      exact a4 i (by omega)
  · have hb : pItb c n r 0 q = true := pItb_t.mpr ⟨fun i hi => by
      rw [t1, t2] at hi
      rw [t1, show i = 0 by omega, Nat.add_zero, hx, r0e]
      exact iz, by
      rw [l1, t1, t2, a3, ej]
      omega⟩
    rw [pIts, if_neg (by rw [t3]; rcases kk with x | x <;> rw [x] <;> decide), if_neg (by rw [t3]; rcases kk with x | x <;> rw [x] <;> decide), if_pos (by rw [t3]; exact kk), if_pos hb, t1, t2, l1, show q + 2 - (q + 1) = 1 by omega]
theorem it_line (hP : r0 0 = nI (qP L xs)) {k : Nat} (hk : k < 3) : ∀ (m j q d : Nat) (f : Bool) (r : zRow), j + m = (lT L xs k).length → LR L xs r0 r k j → zAt c q (sp ((lT L xs k).drop j)) → q + 2 * m < n → (c (q + 2 * m) = 32 ∨ c (q + 2 * m) = 59) → ∃ f2 r', (f = false ∨ 0 < m → f2 = false) ∧ LR L xs r0 r' k (lT L xs k).length ∧ pIts c n 0 (d + m) f r q = pIts c n 0 d f2 r' (q + 2 * m)
  | 0, j, q, d, f, r, hm, H, h, hn, he => ⟨f, r, fun e => e.elim id (fun x => absurd x (by decide)), by rw [← hm]; exact H, rfl⟩
  | m + 1, j, q, d, f, r, hm, H, h, hn, he => by
    rw [drop_getD _ (show j < (lT L xs k).length by omega), sp] at h
    obtain ⟨h1, h2⟩ := zAt_c h
    obtain ⟨h2, h3⟩ := zAt_c h2
    have hnext : c (q + 2) = 32 ∨ c (q + 2) = 59 := by
      match m, hm, he, h3 with
      | 0, hm, he, h3 => exact he
      | m' + 1, hm, he, h3 =>
        rw [drop_getD _ (show j + 1 < (lT L xs k).length by omega), sp] at h3
        exact Or.inl (zAt_c h3).1
    obtain ⟨r1, R1, E1⟩ := it_char (n := n) (f := f) (d := d + m) hP hk H (by omega) (zAt_cons h1 (zAt_cons h2 (fun i hi => absurd hi (Nat.not_lt_zero i)))) (by omega) hnext
    obtain ⟨f2, r2, F2, R2, E2⟩ := it_line hP hk m (j + 1) (q + 2) d false r1 (by omega) R1 h3 (by omega) (by rw [show q + 2 + 2 * m = q + 2 * (m + 1) by omega]; exact he)
    refine ⟨f2, r2, fun _ => F2 (Or.inl rfl), R2, ?_⟩
    rw [show d + (m + 1) = d + m + 1 by omega, E1, E2, show q + 2 + 2 * m = q + 2 * (m + 1) by omega]
theorem it_new {d k q : Nat} {f : Bool} (hk : k + 1 < 3) (H : LR L xs r0 r k (lT L xs k).length) (h : zAt c q [32, 47]) (hn : q + 1 < n) : LR L xs r0 (pNew r 0) (k + 1) 0 ∧ pIts c n 0 (d + 1) f r q = pIts c n 0 d false (pNew r 0) (q + 2) := by
  obtain ⟨h1, h2⟩ := zAt_c h
  have hx := (zAt_c h2).1
  obtain ⟨l1, l2⟩ := LR_ln (by omega) H
  obtain ⟨a1, a2, a3, a4, a5⟩ := H
  obtain ⟨t1, t2, t3⟩ := tok_one (c := c) (n := n) (q := q) (s := q + 1) (k := 4) (Or.inr rfl) (by omega) hn (fun i i1 i2 => by
    have : i = q := by omega
    rw [this]; exact Or.inl h1) (by rw [hx]; exact xK_32.2.2)
  have c25 : (r 25).toNatClampNeg = k + 1 := by rw [a1, nI_clamp (by omega)]
  have ep : pNew r 0 = zu (zu r (219 + (k + 1)) 0) 25 (nI (k + 2)) := by
    show zu (zu r (219 + 12 * 0 + (r 25).toNatClampNeg) 0) 25 (r 25 + 1) = _
    rw [c25, a1, nI_1]
  refine ⟨?_, ?_⟩
  · rw [ep]
    have o : ∀ y, y ≠ 25 → y ≠ 219 + (k + 1) → zu (zu r (219 + (k + 1)) 0) 25 (nI (k + 2)) y = r y := fun y y1 y2 => by rw [zu_ne y1, zu_ne y2]
    refine ⟨zu_self _ _ _, fun k' hk' => ?_, by rw [zu_ne (by omega), zu_self]; rfl, fun i hi => absurd hi (Nat.not_lt_zero i), fun x x1 x2 => by rw [o x x2 (by omega)]; exact a5 x x1 x2⟩
    by_cases e : k' = k
    · subst e
      have := lT_len L xs k'
      exact ⟨by rw [o _ (by omega) (by omega)]; exact a3, fun i hi => by rw [o _ (by omega) (by omega)]; exact a4 i hi⟩
    · have := lT_len L xs k'
      obtain ⟨b1, b2⟩ := a2 k' (by omega)
      exact ⟨by rw [o _ (by omega) (by omega)]; exact b1, fun i hi => by rw [o _ (by omega) (by omega)]; exact b2 i hi⟩
  · rw [pIts, if_neg (by rw [t3]; decide), if_pos t3, if_neg (by show ¬ 12 ≤ (r 25).toInt; omega), t2]
theorem mK_len (L : Nat) (xs : Nat → Int32) : ∀ d k, (mK L xs d k).length ≤ 14 * d
  | 0, k => Nat.le_refl 0
  | d + 1, k => by
    have h1 := mK_len L xs d (k + 1)
    have h2 := lT_len L xs k
    rw [mK, List.length_append, List.length_append, sp_len]
    have : (if k = 0 then ([] : List Int32) else zSbyt.getD 18 []).length ≤ 2 := by
      split
      · decide
      · rw [wdl.2.2.2.2.2.1]; exact Nat.le_refl _
    omega
theorem wd18 : zSbyt.getD 18 [] = [32, 47] := by decide +kernel
theorem mK_hd {d k q : Nat} (h : zAt c q (mK L xs d (k + 1) ++ [59])) : c q = 32 ∨ c q = 59 := by
  cases d with
  | zero =>
    rw [mK, List.nil_append] at h
    exact Or.inr (zAt_c h).1
  | succ d =>
    rw [mK, if_neg (by omega), wd18, List.append_assoc, List.cons_append] at h
    exact Or.inl (zAt_c h).1
/-- the lines behind line k -/
theorem it_rest (hP : r0 0 = nI (qP L xs)) : ∀ (d k q F : Nat) (f : Bool) (r : zRow), k + 1 + d ≤ 3 → LR L xs r0 r k (lT L xs k).length → (d = 0 → f = false) → zAt c q (mK L xs d (k + 1) ++ [59]) → q + (mK L xs d (k + 1)).length + 1 ≤ n → ∃ r', LR L xs r0 r' (k + d) (lT L xs (k + d)).length ∧ pIts c n 0 (F + 1 + 7 * d) f r q = .inr (r', q + (mK L xs d (k + 1)).length)
  | 0, k, q, F, f, r, hk, H, hf, h, hn => by
    rw [mK] at h hn ⊢
    have hc := (zAt_c h).1
    have hn' : q < n := by
      have : q + 0 + 1 ≤ n := hn
      omega
    obtain ⟨t1, t2, t3⟩ := tok_semi hn' hc
    refine ⟨r, H, ?_⟩
    rw [hf rfl, show F + 1 + 7 * 0 = F + 1 by omega, pIts, if_pos t3, if_neg (by decide)]
    rfl
  | d + 1, k, q, F, f, r, hk, H, hf, h, hn => by
    have h6 := lT_len L xs (k + 1)
    rw [mK, if_neg (by omega), wd18, List.append_assoc, List.append_assoc] at h
    rw [mK, if_neg (by omega), wd18, List.length_append, List.length_append, sp_len] at hn
    have hn : q + (2 + (2 * (lT L xs (k + 1)).length + (mK L xs d (k + 1 + 1)).length)) + 1 ≤ n := hn
    obtain ⟨h1, h2⟩ := zAt_app h
    have h2 : zAt c (q + 2) (sp (lT L xs (k + 1)) ++ (mK L xs d (k + 1 + 1) ++ [59])) := h2
    obtain ⟨h3, h4⟩ := zAt_app h2
    rw [sp_len] at h4
    obtain ⟨R1, E1⟩ := it_new (n := n) (f := f) (d := F + 7 * (d + 1)) (by omega) H h1 (by omega)
    have hnext : c (q + 2 + 2 * (lT L xs (k + 1)).length) = 32 ∨ c (q + 2 + 2 * (lT L xs (k + 1)).length) = 59 := by
      exact mK_hd h4
    obtain ⟨f2, r2, F2, R2, E2⟩ := it_line (n := n) hP (by omega) (lT L xs (k + 1)).length 0 (q + 2) (F + (6 - (lT L xs (k + 1)).length) + 1 + 7 * d) false _ (by omega) R1 (by rw [List.drop_zero]; exact h3) (by omega) hnext
    obtain ⟨r3, R3, E3⟩ := it_rest hP d (k + 1) (q + 2 + 2 * (lT L xs (k + 1)).length) (F + (6 - (lT L xs (k + 1)).length)) f2 r2 (by omega) R2 (fun _ => F2 (Or.inl rfl)) h4 (by omega)
    refine ⟨r3, by rw [show k + (d + 1) = k + 1 + d by omega]; exact R3, ?_⟩
    rw [show F + 1 + 7 * (d + 1) = F + 7 * (d + 1) + 1 by omega, E1, show F + 7 * (d + 1) = F + (6 - (lT L xs (k + 1)).length) + 1 + 7 * d + (lT L xs (k + 1)).length by omega, E2, E3, mK, if_neg (by omega), wd18, List.length_append, List.length_append, sp_len]
    congr 2
    show _ = q + (2 + _)
    omega
/-- all lines -/
theorem it_all (hP : r0 0 = nI (qP L xs)) (h25 : r0 25 = 0) {q F : Nat} (h : zAt c q (mK L xs (qLn L xs) 0 ++ [59])) (hn : q + (mK L xs (qLn L xs) 0).length + 1 ≤ n) : ∃ r', LR L xs r0 r' (qLn L xs - 1) (lT L xs (qLn L xs - 1)).length ∧ pIts c n 0 (F + 22) true (pNew r0 0) q = .inr (r', q + (mK L xs (qLn L xs) 0).length) := by
  have hb := qLn_b L xs
  have h6 := lT_len L xs 0
  obtain ⟨d, ed⟩ : ∃ d, qLn L xs = d + 1 := ⟨qLn L xs - 1, by omega⟩
  rw [ed, show d + 1 - 1 = d by omega]
  rw [ed, mK, if_pos rfl, List.nil_append, List.append_assoc] at h
  rw [ed, mK, if_pos rfl, List.nil_append, List.length_append, sp_len] at hn
  obtain ⟨h3, h4⟩ := zAt_app h
  rw [sp_len] at h4
  have ep : pNew r0 0 = zu (zu r0 219 0) 25 1 := by
    show zu (zu r0 (219 + 12 * 0 + (r0 25).toNatClampNeg) 0) 25 (r0 25 + 1) = _
    rw [h25]
    rfl
  have R0 : LR L xs r0 (pNew r0 0) 0 0 := by
    rw [ep]
    exact ⟨zu_self _ _ _, fun k' hk' => absurd hk' (Nat.not_lt_zero k'), by rw [zu_ne (by decide), zu_self]; rfl, fun i hi => absurd hi (Nat.not_lt_zero i), fun x x1 x2 => by rw [zu_ne x2, zu_ne (by omega)]⟩
  have hnext : c (q + 2 * (lT L xs 0).length) = 32 ∨ c (q + 2 * (lT L xs 0).length) = 59 := by
    exact mK_hd (k := 0) h4
  obtain ⟨f2, r2, F2, R2, E2⟩ := it_line (n := n) hP (k := 0) (by decide) (lT L xs 0).length 0 q (F + 21 - (lT L xs 0).length - 7 * d + 1 + 7 * d) true _ (by omega) R0 (by rw [List.drop_zero]; exact h3) (by omega) hnext
  have hne : d = 0 → 0 < (lT L xs 0).length := by
    intro d0
    unfold lT
    by_cases hn : lnT L xs 0 = []
    · rw [if_pos ⟨by omega, hn⟩]; decide
    · rw [if_neg (fun x => hn x.2)]
      exact List.length_pos_iff.mpr hn
  obtain ⟨r3, R3, E3⟩ := it_rest (n := n) hP d 0 (q + 2 * (lT L xs 0).length) (F + 21 - (lT L xs 0).length - 7 * d) f2 r2 (by omega) R2 (fun d0 => F2 (Or.inr (hne d0))) h4 (by omega)
  rw [Nat.zero_add] at R3
  refine ⟨r3, R3, ?_⟩
  rw [show F + 22 = F + 21 - (lT L xs 0).length - 7 * d + 1 + 7 * d + (lT L xs 0).length by omega, E2, E3, mK, if_pos rfl, List.nil_append, List.length_append, sp_len]
  congr 2
  omega
end QITEMS
