/-! THE TEXT as the class reads it: its tokens -/
def zAt (c : Nat → Int32) (q : Nat) (l : List Int32) : Prop := ∀ j, j < l.length → c (q + j) = l.getD j 0
theorem zAt_app {c : Nat → Int32} {q : Nat} {A B : List Int32} (h : zAt c q (A ++ B)) : zAt c q A ∧ zAt c (q + A.length) B := by
  refine ⟨fun j hj => ?_, fun j hj => ?_⟩
  · rw [h j (by rw [List.length_append]; omega), getD_app2, if_pos hj]
  · rw [Nat.add_assoc, h (A.length + j) (by rw [List.length_append]; omega), getD_app2, if_neg (by omega), Nat.add_sub_cancel_left]
theorem zAt_c {c : Nat → Int32} {q : Nat} {x : Int32} {l : List Int32} (h : zAt c q (x :: l)) : c q = x ∧ zAt c (q + 1) l := by
  refine ⟨h 0 (by rw [List.length_cons]; omega), fun j hj => ?_⟩
  have := h (j + 1) (by rw [List.length_cons]; omega)
  rw [show q + 1 + j = q + (j + 1) by omega, this]
  rfl
theorem tS_at {c : Nat → Int32} {n q s : Nat} (h1 : q ≤ s) (h2 : s < n) (hb : ∀ j, q ≤ j → j < s → c j = 32 ∨ c j = 10) (hs : ¬ (c s = 32 ∨ c s = 10)) : tS c n q = s := by
  obtain ⟨a1, a2, a3, a4⟩ := tSf_b c (n - q) q
  have e : tS c n q = tSf c (n - q) q := rfl
  rw [← e] at a1 a2 a3 a4
  rcases Nat.lt_trichotomy (tS c n q) s with h | h | h
  · exact absurd (hb _ a1 h) (a4 (by omega))
  · exact h
  · exact absurd (a3 s h1 h) hs
theorem tR_at {c : Nat → Int32} {n s e : Nat} {k : Int32} (h1 : s < e) (h2 : e ≤ n) (hk : ∀ j, s ≤ j → j < e → xK (c j) = k) (he : e < n → ¬ xK (c e) = k) : tR c n s = e := by
  obtain ⟨a1, a2, a3, a4⟩ := tR_b (c := c) (n := n) (s := s) (by omega)
  rw [hk s (Nat.le_refl s) h1] at a3 a4
  rcases Nat.lt_trichotomy (tR c n s) e with h | h | h
  · exact absurd (hk _ (by omega) h) (a4 (by omega))
  · exact h
  · exact absurd (a3 e (by omega) h) (he (by omega))
theorem xK_32 : xK 32 = 5 ∧ xK 59 = 3 ∧ xK 47 = 4 := by decide
theorem xK_nb {x : Int32} (h : xK x = 1 ∨ xK x = 2 ∨ xK x = 3 ∨ xK x = 4) : ¬ (x = 32 ∨ x = 10) := by
  rintro (rfl | rfl) <;> revert h <;> decide
/-- a run of letters or digits -/
theorem tok_run {c : Nat → Int32} {n q s e : Nat} {k : Int32} (hk : k = 1 ∨ k = 2) (h0 : q ≤ s) (h1 : s < e) (h2 : e ≤ n) (hl : e - s ≤ (if k = 1 then 12 else 5)) (hb : ∀ j, q ≤ j → j < s → c j = 32 ∨ c j = 10) (hx : ∀ j, s ≤ j → j < e → xK (c j) = k) (he : e < n → ¬ xK (c e) = k) : tS c n q = s ∧ tE c n q = e ∧ tK c n q = k := by
  have hs := hx s (Nat.le_refl s) h1
  have S := tS_at (n := n) h0 (by omega) hb (xK_nb (hk.elim (fun e => Or.inl (hs.trans e)) (fun e => Or.inr (Or.inl (hs.trans e)))))
  have R := tR_at (n := n) h1 h2 hx he
  refine ⟨S, ?_, ?_⟩
  · unfold tE
    rw [S, if_neg (by omega), if_pos (by rw [hs]; exact hk), R]
  · unfold tK
    rw [S, if_neg (by omega), hs, R]
    rcases hk with rfl | rfl
    · rw [if_pos rfl, if_pos (by rw [if_pos rfl] at hl; exact hl)]
    · rw [if_neg (by decide), if_pos rfl, if_pos (by rw [if_neg (by decide)] at hl; exact hl)]
/-- a sign -/
theorem tok_one {c : Nat → Int32} {n q s : Nat} {k : Int32} (hk : k = 3 ∨ k = 4) (h0 : q ≤ s) (h1 : s < n) (hb : ∀ j, q ≤ j → j < s → c j = 32 ∨ c j = 10) (hx : xK (c s) = k) : tS c n q = s ∧ tE c n q = s + 1 ∧ tK c n q = k := by
  have S := tS_at (n := n) h0 h1 hb (xK_nb (hk.elim (fun e => Or.inr (Or.inr (Or.inl (hx.trans e)))) (fun e => Or.inr (Or.inr (Or.inr (hx.trans e))))))
  have n1 : ¬ k = 1 := by rcases hk with rfl | rfl <;> decide
  have n2 : ¬ k = 2 := by rcases hk with rfl | rfl <;> decide
  refine ⟨S, ?_, ?_⟩
  · unfold tE
    rw [S, if_neg (by omega), hx, if_neg (fun h => h.elim n1 n2)]
  · unfold tK
    rw [S, if_neg (by omega), hx, if_neg n1, if_neg n2]
theorem tok_semi {c : Nat → Int32} {n q : Nat} (h1 : q < n) (hx : c q = 59) : tS c n q = q ∧ tE c n q = q + 1 ∧ tK c n q = 3 :=
  tok_one (Or.inl rfl) (Nat.le_refl q) h1 (fun j h1 h2 => absurd h2 (by omega)) (by rw [hx]; exact xK_32.2.1)
theorem tok_end {c : Nat → Int32} {n q : Nat} (h : n ≤ q) : tK c n q = 0 := tK_0.mpr (Nat.le_trans h (tS_ge c n q))
/-- digits -/
theorem xK_dg (v j : Nat) : xK (dg v j) = 2 := by
  have h : (dg v j).toInt = 48 + ((v / 10 ^ j % 10 : Nat) : Int) := by
    unfold dg
    rw [nI_toInt (by omega)]
    omega
  unfold xK
  rw [if_neg (by omega), if_pos (by omega)]
theorem nV_dec {c : Nat → Int32} {s v d : Nat} (hd : zdgt v d) (h : zAt c s (dl v d)) : ∀ m, m ≤ d → nV c s m = nI (v / 10 ^ (d - m))
  | 0, _ => by
    have h4 := hd.2.2.2
    rw [nV, Nat.sub_zero, Nat.div_eq_of_lt h4]
    rfl
  | m + 1, hm => by
    have hv := zdgt_lt hd
    have ih := nV_dec hd h m (by omega)
    have hc : c (s + m) = dg v (d - 1 - m) := by rw [h m (by rw [dl_len]; omega), dl_get v d m (by omega)]
    rw [nV, ih, hc]
    have e1 : v / 10 ^ (d - m) = v / 10 ^ (d - (m + 1)) / 10 := by
      rw [Nat.div_div_eq_div_mul, ← Nat.pow_succ]
      congr 2
      omega
    rw [show d - 1 - m = d - (m + 1) by omega]
    unfold dg
    rw [e1]
    have hle : v / 10 ^ (d - (m + 1)) ≤ v := Nat.div_le_self _ _
    generalize v / 10 ^ (d - (m + 1)) = w at *
    have t10 : (10 : Int32) = nI 10 := rfl
    have t48 : (48 : Int32).toInt = 48 := rfl
    rw [t10, nI_ml (by omega) (by decide) (by omega), nI_pl, neq, nsub (by rw [nI_toInt (by omega), t48]; omega) (by rw [nI_toInt (by omega), t48]; omega), nI_toInt (by omega), t48, nI_toInt (by omega)]
    omega
/-- a number behind a blank -/
theorem tok_num {c : Nat → Int32} {n q v : Nat} (hv : v < 100000) (h : zAt c q (32 :: dec v)) (hn : q + 1 + nd v ≤ n) (he : q + 1 + nd v < n → ¬ xK (c (q + 1 + nd v)) = 2) : tS c n q = q + 1 ∧ tE c n q = q + 1 + nd v ∧ tK c n q = 2 ∧ tV c n q = nI v := by
  obtain ⟨h1, h2⟩ := zAt_c h
  have hz := nd_ok hv
  have hb := ndl_b v
  obtain ⟨a, b, k⟩ := tok_run (c := c) (n := n) (q := q) (s := q + 1) (e := q + 1 + nd v) (k := 2) (Or.inr rfl) (by omega) (by omega) hn (by rw [if_neg (by decide)]; omega) (fun j j1 j2 => by
    have : j = q := by omega
    rw [this]; exact Or.inl h1) (fun j j1 j2 => by
    have := h2 (j - (q + 1)) (by rw [dec_len]; omega)
    rw [show q + 1 + (j - (q + 1)) = j by omega] at this
    rw [this, dec, dl_get v (nd v) _ (by omega)]
    exact xK_dg _ _) he
  refine ⟨a, b, k, ?_⟩
  unfold tV
  rw [a, b, show q + 1 + nd v - (q + 1) = nd v by omega, nV_dec hz h2 (nd v) (Nat.le_refl _), Nat.sub_self, Nat.pow_zero, Nat.div_one]
/-- a word -/
theorem xK_wd : ∀ i, i < 12 → 4 ≤ i → ∀ j, j < zSlen.getD i 0 → xK ((zSbyt.getD i []).getD j 0) = 1 := by decide +kernel
theorem tok_wd {c : Nat → Int32} {n q i : Nat} (hi : 4 ≤ i) (hi2 : i < 12) (h : zAt c q (zSbyt.getD i [])) (hn : q + zSlen.getD i 0 < n) (he : c (q + zSlen.getD i 0) = 32) : tS c n q = q ∧ tE c n q = q + zSlen.getD i 0 ∧ tW c n q i := by
  obtain ⟨b1, b2, b3⟩ := zSw i hi hi2
  have hc : ∀ j, j < zSlen.getD i 0 → c (q + j) = (zSbyt.getD i []).getD j 0 := fun j hj => h j (by rw [b1]; exact hj)
  obtain ⟨a, b, k⟩ := tok_run (c := c) (n := n) (q := q) (s := q) (e := q + zSlen.getD i 0) (k := 1) (Or.inl rfl) (Nat.le_refl q) (by omega) (by omega) (by rw [if_pos rfl]; omega) (fun j j1 j2 => absurd j2 (by omega)) (fun j j1 j2 => by
    have := hc (j - q) (by omega)
    rw [show q + (j - q) = j by omega] at this
    rw [this]
    exact xK_wd i hi2 hi _ (by omega)) (fun _ => by rw [he, xK_32.1]; decide)
  refine ⟨a, b, k, by rw [a, b]; omega, fun j hj => ?_⟩
  rw [a]
  exact hc j hj
theorem gD {l : List Int32} {k : Nat} (h : k < l.length) : l.getD k 0 = l[k] := by
  rw [List.getD_eq_getElem?_getD, List.getElem?_eq_getElem h]; rfl
theorem wd_inj : ∀ i, i < 12 → 4 ≤ i → ∀ j, j < 12 → 4 ≤ j → zSbyt.getD i [] = zSbyt.getD j [] → i = j := by decide +kernel
theorem tW_uniq {c : Nat → Int32} {n q i j : Nat} (hi : 4 ≤ i) (hi2 : i < 12) (hj : 4 ≤ j) (hj2 : j < 12) (h1 : tW c n q i) (h2 : tW c n q j) : i = j := by
  obtain ⟨b1, -, -⟩ := zSw i hi hi2
  obtain ⟨d1, -, -⟩ := zSw j hj hj2
  obtain ⟨-, l1, c1⟩ := h1
  obtain ⟨-, l2, c2⟩ := h2
  have hl : zSlen.getD i 0 = zSlen.getD j 0 := by omega
  refine wd_inj i hi2 hi j hj2 hj (List.ext_getElem (by rw [b1, d1, hl]) fun k k1 k2 => ?_)
  have e1 := c1 k (by omega)
  have e2 := c2 k (by omega)
  rw [e1] at e2
  rw [gD k1, gD k2] at e2
  exact e2
/-! statements -/
theorem p_semi {c : Nat → Int32} {n q o e : Nat} {r : zRow} (hE : tE c n q = e) (h1 : e < n) (hx : c e = 59) : pSemi c n r o q = .inr (r, o, e) := by
  unfold pSemi
  rw [hE, (tok_semi h1 hx).2.2, if_pos rfl]
theorem p_nb {c : Nat → Int32} {n q v : Nat} {lo hi : Int32} (hk : tK c n q = 2) (hv : tV c n q = nI v) (h1 : lo.toInt ≤ v) (h2 : (v : Int) ≤ hi.toInt) (h3 : v < 2147483648) : pNb c n q lo hi = true := by
  rw [pNb_t]
  unfold pN
  rw [hv, nI_toInt (by omega)]
  exact ⟨hk, h1, h2⟩
/-- a setting: the word ends at e1 -/
theorem p_set {c : Nat → Int32} {n q o e1 v k : Nat} {lo hi : Int32} {r : zRow} (hE : tE c n q = e1) (hv : v < 100000) (h : zAt c e1 (32 :: dec v)) (hn : e1 + 1 + nd v < n) (he : c (e1 + 1 + nd v) = 59) (h1 : lo.toInt ≤ v) (h2 : (v : Int) ≤ hi.toInt) : pSet c n k lo hi r o q = .inr (zu r k (nI v), o, e1 + 1 + nd v) := by
  obtain ⟨a, b, kk, w⟩ := tok_num (n := n) hv h (by omega) (fun _ => by rw [he, xK_32.2.1]; decide)
  unfold pSet
  rw [hE, if_pos (p_nb kk w h1 h2 (by omega)), w]
  exact p_semi b hn he
theorem p_off {c : Nat → Int32} {n q o e1 v w : Nat} {r : zRow} (ho : o < 2) (hE : tE c n q = e1) (hv : v < 100000) (hw : w < 100000) (h : zAt c e1 (32 :: dec v)) (hm : zAt c (e1 + 1 + nd v) (32 :: dec w)) (hn : e1 + 1 + nd v + 1 + nd w < n) (he : c (e1 + 1 + nd v + 1 + nd w) = 59) (h1 : (v : Int) ≤ (1000 * r 0 - 1).toInt) (h2 : 10 ≤ w ∧ w ≤ 999) : pOff c n r o q = .inr (zu (zu r (21 + o) (nI v)) (23 + o) (nI w), o + 1, e1 + 1 + nd v + 1 + nd w) := by
  have z0 : (0 : Int32).toInt = 0 := rfl
  have t10 : (10 : Int32).toInt = 10 := rfl
  have t999 : (999 : Int32).toInt = 999 := rfl
  obtain ⟨a, b, kk, x⟩ := tok_num (n := n) hv h (by omega) (fun _ => by rw [(zAt_c hm).1, xK_32.1]; decide)
  obtain ⟨a2, b2, kk2, x2⟩ := tok_num (n := n) hw hm (by omega) (fun _ => by rw [he, xK_32.2.1]; decide)
  unfold pOff
  rw [if_neg (by omega), hE, if_pos (p_nb kk x (by rw [z0]; omega) h1 (by omega)), b, if_pos (p_nb kk2 x2 (by rw [t10]; omega) (by rw [t999]; omega) (by omega)), x, x2]
  exact p_semi b2 hn he
