/-! from 95.text -/
/-! THE TEXT that the class builds -/
theorem shl0 (x : Int32) : x <<< ((0 : Int32) &&& 31) = x := by
  rw [show ((0 : Int32) &&& 31) = 0 by decide]
  exact Int32.shiftLeft_zero
theorem shr0 (x : Int32) : x >>> ((0 : Int32) &&& 31) = x := by
  rw [show ((0 : Int32) &&& 31) = 0 by decide]
  exact Int32.shiftRight_zero
theorem zfresh_i (σ : zS) {k b : Nat} (h : b ≠ k) : gi (zfresh σ k) b = gi σ b := if_neg h
theorem zfresh_r (σ : zS) {k b : Nat} (h : b ≠ k) : gr (zfresh σ k) b = gr σ b := if_neg h
theorem zfresh_l (σ : zS) {k b : Nat} (h : b ≠ k) : gl (zfresh σ k) b = gl σ b := if_neg h
theorem zfresh_d (σ : zS) {k b : Nat} (h : b ≠ k) : gd (zfresh σ k) b = gd σ b := if_neg h
theorem zfresh_0 (σ : zS) (k : Nat) : gi (zfresh σ k) k = fun _ => 0 := if_pos rfl
theorem zSl_push (S : zSp) {kd n a : Nat} (h : a < zSk S) : zSl (zSpush S kd n) a = zSl S a := if_neg (Nat.ne_of_lt h)
theorem zSl_new (S : zSp) (kd n : Nat) : zSl (zSpush S kd n) (zSk S) = n := if_pos rfl
/-- the text t stands in the StringBuilder u, with room for m more -/
def sbT (u : Nat) (S : zSp) (σ : zS) (t : List Int32) (m : Nat) : Prop := ∃ a : Nat, gr σ u 0 = some a ∧ (zSl S a = 16 ∨ zSl S a = 34 ∨ zSl S a = 70 ∨ zSl S a = 142) ∧ u < a ∧ a < zSk S ∧ 455 ≤ u ∧ gi σ u 1 = 0 ∧ gi σ u 3 = nI t.length ∧ t.length + m ≤ zSl S a ∧ (∀ k, k < t.length → gi σ a k = t.getD k 0) ∧ ∀ k, k < zSl S a → -128 ≤ (gi σ a k).toInt ∧ (gi σ a k).toInt < 128
def sbF (u : Nat) (S : zSp) (σ : zS) (S' : zSp) (σ' : zS) : Prop := zSk S ≤ zSk S' ∧ (∀ a, a < zSk S → zSl S' a = zSl S a) ∧ (∀ a j, a < zSk S → ¬ (a = u ∧ j = 0) → gr σ' a j = gr σ a j) ∧ (∀ a, a < zSk S → a ≠ u → gr σ u 0 ≠ some a → gi σ' a = gi σ a) ∧ (∀ a, a < zSk S → gl σ' a = gl σ a ∧ gd σ' a = gd σ a) ∧ ∀ q, gr σ' u 0 = some q → gr σ u 0 = some q ∨ zSk S ≤ q
theorem sbF.rf {u : Nat} {S : zSp} {σ : zS} : sbF u S σ S σ := ⟨Nat.le_refl _, fun _ _ => rfl, fun _ _ _ _ => rfl, fun _ _ _ _ => rfl, fun _ _ => ⟨rfl, rfl⟩, fun _ h => Or.inl h⟩
theorem sbF.tr {u : Nat} {S S' S'' : zSp} {σ σ' σ'' : zS} (h : sbF u S σ S' σ') (g : sbF u S' σ' S'' σ'') : sbF u S σ S'' σ'' := ⟨Nat.le_trans h.1 g.1, fun a ha => (g.2.1 a (Nat.lt_of_lt_of_le ha h.1)).trans (h.2.1 a ha), fun a j h1 h2 => (g.2.2.1 a j (Nat.lt_of_lt_of_le h1 h.1) h2).trans (h.2.2.1 a j h1 h2), fun a h1 h2 h3 => (g.2.2.2.1 a (Nat.lt_of_lt_of_le h1 h.1) h2 (fun e => (h.2.2.2.2.2 a e).elim h3 (fun e2 => absurd h1 (Nat.not_lt.mpr e2)))).trans (h.2.2.2.1 a h1 h2 h3), fun a h1 => ⟨(g.2.2.2.2.1 a (Nat.lt_of_lt_of_le h1 h.1)).1.trans (h.2.2.2.2.1 a h1).1, (g.2.2.2.2.1 a (Nat.lt_of_lt_of_le h1 h.1)).2.trans (h.2.2.2.2.1 a h1).2⟩, fun q e => (g.2.2.2.2.2 q e).elim (fun e2 => h.2.2.2.2.2 q e2) (fun e2 => Or.inr (Nat.le_trans h.1 e2))⟩
theorem fit_b {v : Int32} (h : -128 ≤ v.toInt ∧ v.toInt < 128) : fits .byte (.int v) = true := by
  show (decide ((-128 : Int32) ≤ v) && decide (v ≤ 127)) = true
  have t1 : (-128 : Int32).toInt = -128 := rfl
  have t2 : (127 : Int32).toInt = 127 := rfl
  rw [Bool.and_eq_true, decide_eq_true_eq, decide_eq_true_eq, nle, nle, t1, t2]
  omega
theorem sbT_cap {u : Nat} {S : zSp} {σ : zS} {t : List Int32} (h : sbT u S σ t 0) {m : Nat} (hm : m ≤ 18) (hl : t.length + m ≤ 142) {x : Int32} (hx : x = nI (t.length + m)) {Q : zSp → zS → Prop} (hq : ∀ S' σ', sbT u S' σ' t m → sbF u S σ S' σ' → Q S' σ') : wJ5_ensureCapacityInternal_d00df S σ u x Q := by
  obtain ⟨a, q1, q2, q3, q4, q5, q6, q7, q8, q9, q10⟩ := h
  subst hx
  have hc : 16 ≤ zSl S a ∧ zSl S a ≤ 142 := by omega
  generalize hcc : zSl S a = c at hc q2 q8 q10
  have ec := nI_toInt (n := c) (by omega)
  have el := nI_toInt (n := t.length + m) (by omega)
  have es : (nI (t.length + m) - nI c).toInt = ((t.length + m : Nat) : Int) - c := by rw [nsub (by rw [ec, el]; omega) (by rw [ec, el]; omega), ec, el]
  have t2 : (2 : Int32).toInt = 2 := rfl
  have z0 : (0 : Int32).toInt = 0 := rfl
  have e2 : (nI c + 2).toInt = (c : Int) + 2 := by rw [nadd (by rw [ec, t2]; omega) (by rw [ec, t2]; omega), ec, t2]
  refine ⟨a, q1, fun x2 e2' => ?_⟩
  rw [q6, shr0, hcc] at e2'
  subst e2'
  refine ⟨fun hle => ?_, fun hgt => ?_⟩
  · rw [nle, es, z0] at hle
    exact hq S σ ⟨a, q1, by rw [hcc]; exact q2, q3, q4, q5, q6, q7, by rw [hcc]; omega, q9, by rw [hcc]; exact q10⟩ sbF.rf
  rw [nle, es, z0] at hgt
  refine ⟨a, q1, a, q1, fun y2 f2 y3 f3 y4 f4 y5 f5 y1 f1 => ?_⟩
  rw [hcc] at f2
  rw [q6, shl0] at f3 f5
  subst f2 f3 f4 f5
  have ey : y1 = nI (2 * c + 2) := by
    rw [f1]
    have en := nI_toInt (n := 2 * c + 2) (by omega)
    by_cases hlt : nI (t.length + m) - nI c < nI c + 2
    · rw [if_pos hlt, neq, nadd (by rw [ec, e2]; omega) (by rw [ec, e2]; omega), ec, e2, en]
      omega
    · rw [if_neg hlt]
      rw [nlt, es, e2] at hlt
      rw [neq, nadd (by rw [ec, es]; omega) (by rw [ec, es]; omega), ec, es, en]
      omega
  subst ey
  have ed := nI_toInt (n := 2 * c + 2) (by omega)
  have tb : (2147483639 : Int32).toInt = 2147483639 := rfl
  refine ⟨fun hx => absurd hx (by rw [nle, ed, z0]; omega), fun _ => ⟨fun hx => absurd hx (by rw [nlt, ed, tb]; omega), fun _ => ⟨fun hx => ?_, fun _ => ?_⟩⟩⟩
  · have := congrArg Int32.toInt hx
    rw [ed] at this
    have tc : (2147483647 : Int32).toInt = 2147483647 := rfl
    omega
  rw [q6, shr0]
  intro x6 e6
  rw [q6, shl0] at e6
  subst e6
  refine ⟨fun hx => ?_, fun _ => ⟨by rw [nlt, ed, z0]; omega, by rw [nI_clamp (by omega)]; omega, fun a1 ea S1 eS σ4 e4 x5 e5 x6 e6 => ?_⟩⟩
  · rw [hcc] at hx
    have := congrArg Int32.toInt hx
    rw [ed, ec] at this
    omega
  rw [nI_clamp (by omega)] at eS
  have na : a ≠ zSk S := Nat.ne_of_lt q4
  have hS1 : zSl S1 a = c := by rw [eS, zSl_push _ q4]; exact hcc
  have hS2 : zSl S1 (zSk S) = 2 * c + 2 := by rw [eS, zSl_new]
  have hk1 : zSk S1 = zSk S + 1 := by rw [eS]; rfl
  rw [hS1] at e5
  subst ea e5
  have e6' : x6 = nI c := by rw [e6, if_neg (by rw [nlt, ed, ec]; omega)]
  subst e6'
  rw [nI_clamp (show c < 2 ^ 31 by omega)]
  have i4 : gi σ4 a = gi σ a := by rw [e4]; exact zfresh_i σ na
  refine ⟨⟨by decide, by decide, by rw [nlt, ec, z0]; omega, ?_, ?_, fun i hi => ?_⟩, fun σ13 e13 σ9 e9 => ?_⟩
  · rw [hS1]
    show 0 + c ≤ c
    omega
  · rw [hS2]
    show 0 + c ≤ 2 * c + 2
    omega
  · rw [i4]
    exact fit_b (q10 _ (by show 0 + i < c; omega))
  have o : ∀ b, b ≠ zSk S → gi σ9 b = gi σ b := fun b hb => by
    rw [e9, gi_sr, e13, sI_out _ _ hb, e4]
    exact zfresh_i σ hb
  have cp : ∀ k, gi σ9 (zSk S) k = if k < c then gi σ a k else 0 := fun k => by
    rw [e9, gi_sr, e13, sI_at, i4]
    show (if 0 ≤ k ∧ k < 0 + c then gi σ a (0 + (k - 0)) else gi σ4 (zSk S) k) = _
    by_cases hk : k < c
    · rw [if_pos ⟨Nat.zero_le _, by omega⟩, if_pos hk, Nat.zero_add, Nat.sub_zero]
    · rw [if_neg (by omega), if_neg hk, e4, zfresh_0]
  refine hq S1 σ9 ⟨zSk S, ?_, by rw [hS2]; omega, by omega, by omega, q5, ?_, ?_, by rw [hS2]; omega, fun k hk => ?_, fun k hk => ?_⟩ ⟨by omega, fun b hb => by rw [eS]; exact zSl_push _ hb, fun b j hb hj => ?_, fun b hb h5 h6 => o b (by omega), fun b hb => ?_, fun q hqq => Or.inr ?_⟩
  · rw [e9, gr_sr, if_pos rfl, if_pos rfl]
  · rw [o u (by omega)]; exact q6
  · rw [o u (by omega)]; exact q7
  · rw [cp, if_pos (by omega)]; exact q9 k hk
  · rw [cp]
    by_cases hk2 : k < c
    · rw [if_pos hk2]; exact q10 k hk2
    · rw [if_neg hk2]; decide
  · rw [e9, gr_sr, e13]
    by_cases e : b = u
    · rw [if_pos e, if_neg (fun x => hj ⟨e, x⟩)]
      show gr σ4 b j = _
      rw [e4, zfresh_r σ (by omega)]
    · rw [if_neg e]
      show gr σ4 b j = _
      rw [e4, zfresh_r σ (by omega)]
  · rw [e9, gl_sr, gd_sr, e13]
    show gl σ4 b = _ ∧ gd σ4 b = _
    rw [e4]
    exact ⟨zfresh_l σ (by omega), zfresh_d σ (by omega)⟩
  · rw [e9, gr_sr, if_pos rfl, if_pos rfl] at hqq
    injection hqq with hqq
    omega
theorem getD_app {t : List Int32} {v : Int32} {k : Nat} : (k < t.length → (t ++ [v]).getD k 0 = t.getD k 0) ∧ (k = t.length → (t ++ [v]).getD k 0 = v) := by
  refine ⟨fun h => ?_, fun h => ?_⟩
  · rw [List.getD_eq_getElem?_getD, List.getD_eq_getElem?_getD, List.getElem?_append_left h]
  · subst h
    rw [List.getD_eq_getElem?_getD, List.getElem?_append_right (Nat.le_refl _), Nat.sub_self]
    rfl
/-- one more character is stored -/
theorem sbT_put {u : Nat} {S : zSp} {σ : zS} {t : List Int32} {m a : Nat} (h : sbT u S σ t (m + 1)) (ga : gr σ u 0 = some a) {v w : Int32} (hv : 0 ≤ v.toInt ∧ v.toInt < 128) (hw : w = v) {n : Int32} (hn : n = nI (t.length + 1)) : sbT u S (si (si σ u 3 n) a t.length w) (t ++ [v]) m ∧ sbF u S σ S (si (si σ u 3 n) a t.length w) := by
  obtain ⟨a', q1, q2, q3, q4, q5, q6, q7, q8, q9, q10⟩ := h
  rw [q1] at ga
  injection ga with ga
  subst ga hw hn
  have n5 : u ≠ a' := by omega
  have ha : gi (si (si σ u 3 (nI (t.length + 1))) a' t.length w) a' = zu (gi σ a') t.length w := by rw [si_at, si_out _ _ n5.symm]
  refine ⟨⟨a', q1, q2, q3, q4, q5, ?_, ?_, ?_, fun k hk => ?_, fun k hk => ?_⟩, ⟨Nat.le_refl _, fun _ _ => rfl, fun _ _ _ _ => rfl, fun b h1 h2 h3 => ?_, fun _ _ => ⟨rfl, rfl⟩, fun _ h => Or.inl h⟩⟩
  · rw [si_out _ _ n5, si_at, zu_ne (by decide)]; exact q6
  · rw [si_out _ _ n5, si_at, zu_self, List.length_append]; rfl
  · rw [List.length_append]
    show t.length + 1 + m ≤ _
    omega
  · rw [ha]
    rw [List.length_append] at hk
    have hk : k < t.length + 1 := hk
    by_cases e : k = t.length
    · rw [getD_app.2 e, e, zu_self]
    · rw [zu_ne e, getD_app.1 (by omega)]
      exact q9 k (by omega)
  · rw [ha]
    by_cases e : k = t.length
    · rw [e, zu_self]; omega
    · rw [zu_ne e]; exact q10 k hk
  · rw [si_out _ _ (fun e => h3 (by rw [q1, e])), si_out _ _ h2]
theorem nar8 {v : Int32} (hv : 0 ≤ v.toInt ∧ v.toInt < 128) : vp_nar .byte v = v ∧ vp_nar .byte v.toInt8.toInt32 = v := by
  have e1 : v.toInt8.toInt32 = v := by
    rw [neq, nb8, if_pos (by rw [Int.emod_eq_of_lt hv.1 (by omega)]; exact hv.2), Int.emod_eq_of_lt hv.1 (by omega)]
  have e2 : vp_nar .byte v = v.toInt8.toInt32 := rfl
  rw [e1]
  exact ⟨e2.trans e1, e2.trans e1⟩
theorem sbT_char {u : Nat} {S : zSp} {σ : zS} {t : List Int32} (h : sbT u S σ t 0) (hl : t.length + 1 ≤ 142) {v : Int32} (hv : 0 ≤ v.toInt ∧ v.toInt < 128) {Q : Nat → zSp → zS → Prop} (hq : ∀ S' σ', sbT u S' σ' (t ++ [v]) 0 → sbF u S σ S' σ' → Q u S' σ') : wJ4_append_cf468 S σ u v Q := by
  intro x1 e1
  have q7 : gi σ u 3 = nI t.length := by
    obtain ⟨a, q1, q2, q3, q4, q5, q6, q7, q8⟩ := h
    exact q7
  rw [q7, nI_1] at e1
  refine sbT_cap h (m := 1) (by omega) hl e1 (fun S' σ' h' f' => ?_)
  have h2 := h'
  obtain ⟨a, q1, q2, q3, q4, q5, q6, q7, q8, q9, q10⟩ := h2
  have t255 : (255 : Int32).toInt = 255 := rfl
  refine ⟨fun hx => absurd hx (by decide), fun _ => ⟨fun _ => ⟨fun hx => absurd hx (by decide), fun _ => ⟨fun hx => absurd hx (by rw [nlt, t255]; omega), fun _ => ⟨fun hx => absurd hx (by decide), fun _ => ⟨a, q1, fun x9 e9 x10 e10 σ11 e11 x12 e12 => ?_⟩⟩⟩⟩, fun hx => absurd q6 hx⟩⟩
  rw [q7] at e9
  subst e9
  refine ⟨vp_in_nI (by omega) (by omega), fun σ14 e14 => ?_⟩
  rw [nI_clamp (by omega), e12] at e14
  rw [nI_1] at e10
  subst e11 e14
  obtain ⟨r1, r2⟩ := sbT_put (m := 0) h' q1 hv (w := vp_nar .byte v.toInt8.toInt32) (nar8 hv).2 e10
  exact hq _ _ r1 (f'.tr r2)

/-! from 96.words -/
/-! THE TEXT: words; the model's text -/
theorem c_coder {ln : Nat → Nat} {σ : zS} {s0 : Nat} {Q : Int32 → zS → Prop} (hq : Q 0 σ) : wJ0_coder_7d493 ln σ s0 Q := ⟨fun h => absurd h (by decide), fun _ => ⟨rfl, hq⟩⟩
theorem getD_app2 (t B : List Int32) (k : Nat) : (t ++ B).getD k 0 = if k < t.length then t.getD k 0 else B.getD (k - t.length) 0 := by
  by_cases h : k < t.length
  · rw [if_pos h, List.getD_eq_getElem?_getD, List.getD_eq_getElem?_getD, List.getElem?_append_left h]
  · rw [if_neg h, List.getD_eq_getElem?_getD, List.getD_eq_getElem?_getD, List.getElem?_append_right (Nat.le_of_not_lt h)]
/-- the words -/
def zWd4 (s0 : Nat) : Prop := (zSbyt.getD s0 []).length = zSlen.getD s0 0 ∧ zSlen.getD s0 0 ≤ 18 ∧ ∀ k, k < zSlen.getD s0 0 → 0 ≤ ((zSbyt.getD s0 []).getD k 0).toInt ∧ ((zSbyt.getD s0 []).getD k 0).toInt < 128
theorem sbT_str {u : Nat} {S : zSp} {σ : zS} {t : List Int32} (h : sbT u S σ t 0) {s0 : Nat} (hs : zWd4 s0) (hl : t.length + zSlen.getD s0 0 ≤ 142) {Q : Nat → zSp → zS → Prop} (hq : ∀ S' σ', sbT u S' σ' (t ++ zSbyt.getD s0 []) 0 → sbF u S σ S' σ' → Q u S' σ') : wJ4_append_15ec4 S σ u s0 Q := by
  obtain ⟨b1, b2, b3⟩ := hs
  generalize hL : zSlen.getD s0 0 = L at b1 b2 b3 hl
  generalize hB : zSbyt.getD s0 [] = B at b1 b3 hq
  have q7 : gi σ u 3 = nI t.length := by
    obtain ⟨a, q1, q2, q3, q4, q5, q6, q7, q8⟩ := h
    exact q7
  unfold wJ4_append_15ec4 wJ5_append_cf1ce wJ0_length_8abf5
  refine c_coder ?_
  rw [shr0, hL]
  intro x3 e3
  rw [q7, nI_plus] at e3
  refine sbT_cap h b2 hl e3 (fun S' σ' h' f' x6 e6 => ?_)
  obtain ⟨a, q1, q2, q3, q4, q5, q6, q7', q8, q9, q10⟩ := h'
  rw [q7'] at e6
  have n5 : u ≠ a := by omega
  refine ⟨fun hx => absurd hx (by decide), fun _ => c_coder ⟨fun _ => ⟨a, q1, fun x e => ?_⟩, fun hx => absurd q6 hx⟩⟩
  rw [q6] at e
  subst e e6
  refine c_coder ⟨fun _ y3 f3 y4 f4 => ?_, fun hx => absurd rfl hx⟩
  rw [shl0] at f4
  rw [hL] at f3
  subst f3 f4
  have en := nI_toInt (n := t.length) (by omega)
  have eL := nI_toInt (n := L) (by omega)
  have z0 : (0 : Int32).toInt = 0 := rfl
  rw [nI_clamp (show t.length < 2 ^ 31 by omega), nI_clamp (show L < 2 ^ 31 by omega), hL]
  refine ⟨⟨by decide, by rw [nlt, en, z0]; omega, by rw [nlt, eL, z0]; omega, by show 0 + L ≤ L; omega, q8⟩, fun σ10 e10 x8 e8 σ9 e9 => ?_⟩
  have k3 : gi σ10 u 3 = nI t.length := by rw [e10, sI_out _ _ n5]; exact q7'
  rw [k3, nI_plus] at e8
  subst e8
  have o : ∀ b, b ≠ a → b ≠ u → gi σ9 b = gi σ' b := fun b h1 h2 => by rw [e9, si_out _ _ h2, e10, sI_out _ _ h1]
  have ca : ∀ k, gi σ9 a k = if t.length ≤ k ∧ k < t.length + L then B.getD (k - t.length) 0 else gi σ' a k := fun k => by
    rw [e9, si_out _ _ n5.symm, e10, sI_at]
    show (if t.length ≤ k ∧ k < t.length + L then (zSbyt.getD s0 []).getD (0 + (k - t.length)) 0 else gi σ' a k) = _
    rw [hB, Nat.zero_add]
  refine hq S' σ9 ⟨a, by rw [e9, e10]; exact q1, q2, q3, q4, q5, ?_, ?_, ?_, fun k hk => ?_, fun k hk => ?_⟩ (f'.tr ⟨Nat.le_refl _, fun _ _ => rfl, fun b j _ _ => by rw [e9, e10]; rfl, fun b h1 h2 h3 => o b (fun e => h3 (by rw [q1, e])) h2, fun b _ => by rw [e9, e10]; exact ⟨rfl, rfl⟩, fun q hqq => Or.inl (by rw [e9, e10] at hqq; exact hqq)⟩)
  · rw [e9, si_at, zu_ne (by decide), e10, sI_out _ _ n5]; exact q6
  · rw [e9, si_at, zu_self, List.length_append, b1]
  · rw [List.length_append, b1]; omega
  · rw [List.length_append, b1] at hk
    rw [ca, getD_app2]
    by_cases e : k < t.length
    · rw [if_neg (by omega), if_pos e]; exact q9 k e
    · rw [if_pos (by omega), if_neg e]
  · rw [ca]
    by_cases e : t.length ≤ k ∧ k < t.length + L
    · rw [if_pos e]
      have := b3 (k - t.length) (by omega)
      omega
    · rw [if_neg e]; exact q10 k hk
theorem drop_getD (B : List Int32) {k : Nat} (h : k < B.length) : B.drop k = B.getD k 0 :: B.drop (k + 1) := by
  rw [List.drop_eq_getElem_cons h, List.getD_eq_getElem?_getD, List.getElem?_eq_getElem h]
  rfl
/-! from 97.numbers -/
/-! THE TEXT: numbers -/
theorem p10 {j : Nat} (h : j ≤ 5) : 1 ≤ 10 ^ j ∧ 10 ^ j ≤ 100000 := ⟨Nat.one_le_pow _ _ (by decide), Nat.pow_le_pow_right (n := 10) (by decide) h⟩
theorem nI_div {a b : Nat} (ha : a < 2 ^ 31) (hb : 0 < b) (hb2 : b < 2 ^ 31) : nI a / nI b = nI (a / b) := by
  have h1 := nI_toInt ha
  have h2 := nI_toInt hb2
  have h3 : a / b ≤ a := Nat.div_le_self a b
  rw [neq, ndiv (by rw [h1]; omega) (by rw [h2]; omega), h1, h2, nI_toInt (by omega)]
  rfl
theorem nI_r10 {a : Nat} (ha : a < 2 ^ 31) : nI a - nI a / 10 * 10 = nI (a % 10) := by
  have h1 := nI_toInt ha
  have h2 : (10 : Int32).toInt = 10 := rfl
  rw [neq, nrem (by rw [h1]; omega) (by rw [h2]; omega), h1, h2, nI_toInt (by omega)]
  omega
/-- the digits of a number -/
def dg (v j : Nat) : Int32 := nI (48 + v / 10 ^ j % 10)
def dl (v : Nat) : Nat → List Int32
  | 0 => []
  | j + 1 => dg v j :: dl v j
theorem dl_len (v : Nat) : ∀ d, (dl v d).length = d
  | 0 => rfl
  | d + 1 => by
    rw [dl, List.length_cons, dl_len v d]
theorem dl_get (v : Nat) : ∀ d k, k < d → (dl v d).getD k 0 = dg v (d - 1 - k)
  | 0, k, h => absurd h (Nat.not_lt_zero k)
  | d + 1, 0, h => rfl
  | d + 1, k + 1, h => by
    rw [dl, show d + 1 - 1 - (k + 1) = d - 1 - k by omega]
    exact dl_get v d k (by omega)
theorem dg_b (v j : Nat) : 0 ≤ (dg v j).toInt ∧ (dg v j).toInt < 128 := by
  unfold dg
  rw [nI_toInt (by omega)]
  omega
def pw : Nat → Nat
  | 0 => 0
  | j + 1 => 10 ^ j
theorem pw_div : ∀ j, j < 5 → nI (10 ^ j) / 10 = nI (pw j) := by decide
theorem pw_mul : ∀ j, j < 5 → nI (10 ^ j) * 10 = nI (10 ^ (j + 1)) := by decide
/-- v has d digits -/
def zdgt (v d : Nat) : Prop := 1 ≤ d ∧ d ≤ 5 ∧ (d = 1 ∨ 10 ^ (d - 1) ≤ v) ∧ v < 10 ^ d
theorem zdgt_ex {v : Nat} (hv : v < 100000) : ∃ d, zdgt v d := by
  by_cases h1 : v < 10
  · exact ⟨1, by decide, by decide, Or.inl rfl, h1⟩
  by_cases h2 : v < 100
  · exact ⟨2, by decide, by decide, Or.inr (by show 10 ≤ v; omega), h2⟩
  by_cases h3 : v < 1000
  · exact ⟨3, by decide, by decide, Or.inr (by show 100 ≤ v; omega), h3⟩
  by_cases h4 : v < 10000
  · exact ⟨4, by decide, by decide, Or.inr (by show 1000 ≤ v; omega), h4⟩
  · exact ⟨5, by decide, by decide, Or.inr (by show 10000 ≤ v; omega), hv⟩
theorem zdgt_lt {v d : Nat} (h : zdgt v d) : v < 100000 := Nat.lt_of_lt_of_le h.2.2.2 (p10 h.2.1).2
theorem zdgt_go {v d i : Nat} (h : zdgt v d) (hi : i + 1 < d) : 10 ≤ v / 10 ^ i := by
  obtain ⟨h1, h2, h3, h4⟩ := h
  have h5 : 10 ^ (d - 1) ≤ v := h3.resolve_left (by omega)
  have hp := p10 (j := i) (by omega)
  have h6 : 10 ^ (i + 1) ≤ 10 ^ (d - 1) := Nat.pow_le_pow_right (by decide) (by omega)
  rw [Nat.le_div_iff_mul_le (by omega), Nat.mul_comm, ← Nat.pow_succ]
  omega
theorem zdgt_end {v d : Nat} (h : zdgt v d) : v / 10 ^ (d - 1) ≤ 9 := by
  obtain ⟨h1, h2, h3, h4⟩ := h
  have e : 10 ^ d = 10 ^ (d - 1) * 10 := by
    rw [← Nat.pow_succ]
    congr 1
    omega
  have : v / 10 ^ (d - 1) < 10 := Nat.div_lt_of_lt_mul (by rw [← e]; exact h4)
  omega
/-! from 97b.numbers2 -/
/-! THE TEXT: numbers, as the class puts them -/
theorem nI_neg {w : Nat} (h : w < 2 ^ 31) : (-(nI w)).toInt = -(w : Int) := by
  have e := nI_toInt h
  rw [nneg (by rw [e]; omega), e]
theorem nI_nn {w : Nat} (h : w < 2 ^ 31) : -(-(nI w)) = nI w := by
  have e := nI_neg h
  rw [neq, nneg (by rw [e]; omega), e, nI_toInt h]
  omega
theorem nI_prd {w : Nat} (h : w + 1 < 2 ^ 31) : nI (w + 1) + (-1) = nI w := by
  have t1 : (-1 : Int32).toInt = -1 := rfl
  have e := nI_toInt h
  rw [neq, nadd (by rw [e, t1]; omega) (by rw [e, t1]; omega), e, t1, nI_toInt (by omega)]
  omega
theorem nI_n100 {w : Nat} (h : w < 100000) : -(nI w) / 100 = -(nI (w / 100)) := by
  have t1 : (100 : Int32).toInt = 100 := rfl
  rw [neq, Int32.toInt_div, nI_neg (by omega), t1, nI_neg (by omega), Int.neg_tdiv, Int.tdiv_eq_ediv_of_nonneg (by omega), nbm (by omega) (by omega)]
  omega
theorem nI_m100 {w : Nat} (h : w < 100000) : -(nI (w / 100)) * 100 - -(nI w) = nI (w % 100) := by
  have t1 : (100 : Int32).toInt = 100 := rfl
  have e1 := nI_neg (w := w / 100) (by omega)
  have e2 := nI_neg (w := w) (by omega)
  have e3 : (-(nI (w / 100)) * 100).toInt = -((w / 100 : Nat) : Int) * 100 := by rw [nmul (by rw [e1, t1]; omega) (by rw [e1, t1]; omega), e1, t1]
  rw [neq, nsub (by rw [e3, e2]; omega) (by rw [e3, e2]; omega), e3, e2, nI_toInt (by omega)]
  omega
theorem dg_0 (w : Nat) : dg w 0 = nI (48 + w % 10) := by
  unfold dg
  rw [Nat.pow_zero, Nat.div_one]
theorem dg_1 (w : Nat) : dg w 1 = nI (48 + w / 10 % 10) := by
  unfold dg
  rw [Nat.pow_one]
theorem dg_100 (w j : Nat) : dg (w / 100) j = dg w (j + 2) := by
  unfold dg
  rw [Nat.div_div_eq_div_mul, Nat.pow_add, Nat.mul_comm]
theorem ss_mul : ∀ i, i < 5 → 10 * -(nI (10 ^ i)) = -(nI (10 ^ (i + 1))) := by decide
theorem C_ss16 {ln : Nat → Nat} {σ : zS} {v d : Nat} (hd : zdgt v d) {Q : Int32 → zS → Prop} (hq : Q (nI d) σ) : ∀ (e i : Nat), 1 ≤ i → i + e = d → wJ6_stringSize_0f7a4_16 ln Q (e + 1) (-(nI v)) 0 (-(nI (10 ^ i))) (nI i) σ
  | e, i, h1, hi => by
    have hv := zdgt_lt hd
    have h5 := hd.2.1
    have hp := p10 (j := i) (by omega)
    have e1 := nI_neg (w := 10 ^ i) (by omega)
    have e2 := nI_neg (w := v) (by omega)
    have t10 : (10 : Int32).toInt = 10 := rfl
    rw [wJ6_stringSize_0f7a4_16]
    refine ⟨fun hx => absurd hx (by rw [nle, t10, nI_toInt (by omega)]; omega), fun _ => ⟨fun hle x1 f1 x2 f2 => ?_, fun hgt => ?_⟩⟩
    · rw [nle, e2, e1] at hle
      rw [nI_1] at f2
      match e, hi with
      | 0, hi =>
        have h4 := hd.2.2.2
        have e0 : d = i := by omega
        rw [e0] at h4
        omega
      | e + 1, hi =>
        rw [ss_mul i (by omega)] at f1
        subst f1 f2
        exact C_ss16 hd hq e (i + 1) (by omega) (by omega)
    · rw [nle, e2, e1] at hgt
      have e0 : i = d := by
        by_cases hx : i < d
        · have h3 : 10 ^ (d - 1) ≤ v := hd.2.2.1.resolve_left (by omega)
          have h6 : 10 ^ i ≤ 10 ^ (d - 1) := Nat.pow_le_pow_right (by decide) (by omega)
          omega
        · omega
      rw [e0, Int32.add_zero]
      exact hq
theorem C_ss {ln : Nat → Nat} {σ : zS} {v d : Nat} (hd : zdgt v d) {Q : Int32 → zS → Prop} (hq : Q (nI d) σ) : wJ6_stringSize_0f7a4 ln σ (nI v) Q := by
  have hv := zdgt_lt hd
  have z0 : (0 : Int32).toInt = 0 := rfl
  refine ⟨fun hx => absurd hx (by rw [nlt, nI_toInt (by omega), z0]; omega), fun _ x1 e1 => ⟨d - 1 + 1, ?_⟩⟩
  subst e1
  have h := C_ss16 (ln := ln) hd hq (d - 1) 1 (by decide) (by have := hd.1; omega)
  rw [show -(nI (10 ^ 1)) = (-10 : Int32) by decide, show nI 1 = (1 : Int32) by decide] at h
  exact h
/-- digits put into an array -/
def gcF (σ σ' : zS) (a e d w : Nat) : Prop := σ'.2 = σ.2 ∧ (∀ b, b ≠ a → gi σ' b = gi σ b) ∧ (∀ k, ¬ (e ≤ k ∧ k < e + d) → gi σ' a k = gi σ a k) ∧ ∀ k, k < d → gi σ' a (e + k) = dg w (d - 1 - k)
theorem dg_nar (v j : Nat) : vp_nar .byte (dg v j) = dg v j := (nar8 (dg_b v j)).1
theorem C_gc22 {ln : Nat → Nat} {a : Nat} (hla : ln a ≤ 150) {Q : Int32 → zS → Prop} : ∀ (n d w e : Nat) (σ : zS), d ≤ 2 * n → zdgt w d → e + d ≤ ln a → e + d ≤ 1000 → (∀ σ', gcF σ σ' a e d w → Q (nI e) σ') → wJ6_getChars_ba4f3_22 ln Q n (-(nI w)) a (nI (e + d)) 0 σ
  | 0, d, w, e, σ, hn, hd, hl, hb, hq => by
    have := hd.1
    omega
  | n + 1, d, w, e, σ, hn, hd, hl, hb, hq => by
    have hw := zdgt_lt hd
    have en := nI_neg (w := w) (by omega)
    have t100 : (-100 : Int32).toInt = -100 := rfl
    have t9 : (-9 : Int32).toInt = -9 := rfl
    rw [wJ6_getChars_ba4f3_22]
    refine ⟨fun hlt => ?_, fun hge => ?_⟩
    · rw [nlt, t100, en] at hlt
      have hw100 : w < 100 := by omega
      have hd2 : d = 1 ∧ w < 10 ∨ d = 2 ∧ 10 ≤ w := by
        obtain ⟨h1, h2, h3, h4⟩ := hd
        rcases (show d = 1 ∨ d = 2 ∨ d = 3 ∨ d = 4 ∨ d = 5 by omega) with rfl | rfl | rfl | rfl | rfl
        · exact Or.inl ⟨rfl, h4⟩
        · exact Or.inr ⟨rfl, h3.resolve_left (by decide)⟩
        · have : 100 ≤ w := h3.resolve_left (by decide)
          omega
        · have : 1000 ≤ w := h3.resolve_left (by decide)
          omega
        · have : 10000 ≤ w := h3.resolve_left (by decide)
          omega
      intro x1 e1 x2 e2
      rw [nI_nn (by omega)] at e2
      subst e2
      refine ⟨vp_in_nI (by omega) (by omega), fun x4 e4 => ?_⟩
      rw [nI_clamp (by omega)] at e4
      have e4' : x4 = dg w 0 := by rw [e4, dg_0]; rfl
      subst e4'
      rcases hd2 with ⟨rfl, h10⟩ | ⟨rfl, h10⟩
      · rw [nI_prd (by omega)] at e1
        subst e1
        refine ⟨vp_in_nI (by omega) (by omega), fun σ6 e6 => ?_⟩
        rw [nI_clamp (by omega), dg_nar] at e6
        subst e6
        refine ⟨fun _ => ⟨fun _ => hq _ ⟨rfl, fun b hb => si_out _ _ hb, fun k hk => by rw [si_at, zu_ne (by omega)], fun k hk => ?_⟩, fun hx => absurd rfl hx⟩, fun hx => absurd (by rw [nle, t9, en]; omega) hx⟩
        have e0 : k = 0 := by omega
        subst e0
        rw [si_at]
        exact zu_self _ _ _
      · rw [show e + 2 = e + 1 + 1 by omega, nI_prd (by omega)] at e1
        subst e1
        refine ⟨vp_in_nI (by omega) (by omega), fun σ6 e6 => ?_⟩
        rw [nI_clamp (by omega), dg_nar] at e6
        subst e6
        refine ⟨fun hx => absurd hx (by rw [nle, t9, en]; omega), fun _ x7 e7 x8 e8 => ?_⟩
        rw [nI_prd (by omega)] at e7
        rw [nI_nn (by omega)] at e8
        subst e7 e8
        refine ⟨vp_in_nI (by omega) (by omega), fun x10 e10 => ⟨vp_in_nI (by omega) (by omega), fun σ12 e12 => ?_⟩⟩
        rw [nI_clamp (by omega)] at e10
        have e10' : x10 = dg w 1 := by
          rw [e10, dg_1]
          show nI (48 + w / 10) = nI (48 + w / 10 % 10)
          congr 2
          omega
        subst e10'
        rw [nI_clamp (by omega), dg_nar] at e12
        subst e12
        refine ⟨fun _ => hq _ ⟨rfl, fun b hb => by rw [si_out _ _ hb, si_out _ _ hb], fun k hk => by rw [si_at, zu_ne (by omega), si_at, zu_ne (by omega)], fun k hk => ?_⟩, fun hx => absurd rfl hx⟩
        rcases (show k = 0 ∨ k = 1 by omega) with rfl | rfl
        · rw [si_at]
          exact zu_self _ _ _
        · rw [si_at, zu_ne (by omega), si_at]
          exact zu_self _ _ _
    · rw [nlt, t100, en] at hge
      obtain ⟨h1, h2, h3, h4⟩ := hd
      obtain ⟨d', rfl, hd'⟩ : ∃ d', d = d' + 2 ∧ zdgt (w / 100) d' := by
        rcases (show d = 1 ∨ d = 2 ∨ d = 3 ∨ d = 4 ∨ d = 5 by omega) with rfl | rfl | rfl | rfl | rfl
        · have h4 : w < 10 := h4
          omega
        · have h4 : w < 100 := h4
          omega
        · have h4 : w < 1000 := h4
          exact ⟨1, rfl, by decide, by decide, Or.inl rfl, by show w / 100 < 10; omega⟩
        · have h4 : w < 10000 := h4
          have h3 : 1000 ≤ w := h3.resolve_left (by decide)
          exact ⟨2, rfl, by decide, by decide, Or.inr (by show 10 ≤ w / 100; omega), by show w / 100 < 100; omega⟩
        · have h4 : w < 100000 := h4
          have h3 : 10000 ≤ w := h3.resolve_left (by decide)
          exact ⟨3, rfl, by decide, by decide, Or.inr (by show 100 ≤ w / 100; omega), by show w / 100 < 1000; omega⟩
      intro x14 e14 x15 e15 x16 e16
      rw [nI_n100 hw] at e14
      subst e14
      rw [nI_m100 hw] at e15
      rw [show e + (d' + 2) = e + d' + 1 + 1 by omega, nI_prd (by omega)] at e16
      subst e15 e16
      refine ⟨vp_in_nI (by omega) (by omega), fun x18 e18 => ⟨vp_in_nI (by omega) (by omega), fun σ20 e20 x21 e21 => ⟨vp_in_nI (by omega) (by omega), fun x23 e23 => ?_⟩⟩⟩
      rw [nI_clamp (by omega)] at e18 e23
      have e18' : x18 = dg w 0 := by
        rw [e18, dg_0]
        show nI (48 + w % 100 % 10) = nI (48 + w % 10)
        congr 2
        omega
      have e23' : x23 = dg w 1 := by
        rw [e23, dg_1]
        show nI (48 + w % 100 / 10) = nI (48 + w / 10 % 10)
        congr 2
        omega
      subst e18' e23'
      rw [nI_clamp (by omega), dg_nar] at e20
      rw [nI_prd (by omega)] at e21
      subst e20 e21
      refine ⟨vp_in_nI (by omega) (by omega), fun σ25 e25 => ?_⟩
      rw [nI_clamp (by omega), dg_nar] at e25
      subst e25
      refine C_gc22 hla n d' (w / 100) e _ (by omega) hd' (by omega) (by omega) (fun σ' f' => hq σ' ?_)
      obtain ⟨f1, f2, f3, f4⟩ := f'
      refine ⟨f1, fun b hb => by rw [f2 b hb, si_out _ _ hb, si_out _ _ hb], fun k hk => by rw [f3 k (by omega), si_at, zu_ne (by omega), si_at, zu_ne (by omega)], fun k hk => ?_⟩
      by_cases hk2 : k < d'
      · rw [f4 k hk2, dg_100]
        congr 1
        omega
      · rw [f3 (e + k) (by omega), si_at]
        rcases (show k = d' ∨ k = d' + 1 by omega) with rfl | rfl
        · rw [show k + 2 - 1 - k = 1 by omega]
          exact zu_self _ _ _
        · rw [zu_ne (by omega), si_at, show d' + 2 - 1 - (d' + 1) = 0 by omega]
          exact zu_self _ _ _
theorem sbT_int {u : Nat} {S : zSp} {σ : zS} {t : List Int32} (h : sbT u S σ t 0) {v d : Nat} (hd : zdgt v d) (hl : t.length + d ≤ 142) {Q : Nat → zSp → zS → Prop} (hq : ∀ S' σ', sbT u S' σ' (t ++ dl v d) 0 → sbF u S σ S' σ' → Q u S' σ') : wJ4_append_bf812 S σ u (nI v) Q := by
  have hv := zdgt_lt hd
  have h5 := hd.2.1
  have q7 : gi σ u 3 = nI t.length := by
    obtain ⟨a, q1, q2, q3, q4, q5, q6, q7, q8⟩ := h
    exact q7
  intro x1 e1
  rw [q7] at e1
  subst e1
  refine C_ss hd (fun x4 e4 => ?_)
  rw [nI_plus] at e4
  refine sbT_cap h (m := d) (by omega) hl e4 (fun S' σ' h' f' => ?_)
  subst e4
  obtain ⟨a, q1, q2, q3, q4, q5, q6, q7', q8, q9, q10⟩ := h'
  have n5 : u ≠ a := by omega
  have z0 : (0 : Int32).toInt = 0 := rfl
  refine ⟨fun hx => absurd hx (by decide), fun _ => ⟨fun _ => ⟨fun hx => absurd hx (by decide), fun _ => ⟨a, q1, ?_⟩⟩, fun hx => absurd q6 hx⟩⟩
  refine ⟨fun _ => ⟨fun _ x2 e2 => ⟨3, ?_⟩, fun hx => absurd rfl hx⟩, fun hx => absurd (by rw [nle, nI_toInt (by omega), z0]; omega) hx⟩
  subst e2
  refine C_gc22 (ln := zSl S') (a := a) (by omega) 3 d v t.length σ' (by omega) hd q8 (by omega) (fun σ11 f11 σ13 e13 => ?_)
  subst e13
  obtain ⟨f1, f2, f3, f4⟩ := f11
  have r11 : gr σ11 = gr σ' := by
    show σ11.2.1 = σ'.2.1
    rw [f1]
  have ga : gi (si σ11 u 3 (nI (t.length + d))) a = gi σ11 a := si_out _ _ n5.symm
  refine hq S' _ ⟨a, by show gr σ11 u 0 = _; rw [r11]; exact q1, q2, q3, q4, q5, ?_, ?_, ?_, fun k hk => ?_, fun k hk => ?_⟩ (f'.tr ⟨Nat.le_refl _, fun _ _ => rfl, fun b j _ _ => by show gr σ11 b j = _; rw [r11], fun b h1 h2 h3 => by rw [si_out _ _ h2]; exact f2 b (fun e => h3 (by rw [q1, e])), fun b _ => ⟨by show σ11.2.2.1 b = _; rw [f1]; rfl, by show σ11.2.2.2 b = _; rw [f1]; rfl⟩, fun q hqq => Or.inl (by have h9 : gr σ11 u 0 = some q := hqq; rw [r11] at h9; exact h9)⟩)
  · rw [si_at, zu_ne (by decide), f2 u n5]; exact q6
  · rw [si_at, zu_self, List.length_append, dl_len]
  · rw [List.length_append, dl_len]; exact q8
  · rw [List.length_append, dl_len] at hk
    rw [ga, getD_app2]
    by_cases e : k < t.length
    · rw [if_pos e, f3 k (by omega)]; exact q9 k e
    · obtain ⟨j, rfl⟩ : ∃ j, k = t.length + j := ⟨k - t.length, by omega⟩
      rw [if_neg e, f4 j (by omega), show t.length + j - t.length = j by omega, dl_get v d j (by omega)]
  · rw [ga]
    by_cases e : t.length ≤ k ∧ k < t.length + d
    · obtain ⟨j, rfl⟩ : ∃ j, k = t.length + j := ⟨k - t.length, by omega⟩
      rw [f4 j (by omega)]
      have := dg_b v (d - 1 - j)
      omega
    · rw [f3 k e]; exact q10 k hk

