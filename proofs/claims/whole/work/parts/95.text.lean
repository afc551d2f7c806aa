/-! THE TEXT that the class builds -/
theorem shl0 (x : Int32) : x <<< ((0 : Int32) &&& 31) = x := by
  rw [show ((0 : Int32) &&& 31) = 0 by decide]
  exact Int32.shiftLeft_zero
theorem shr0 (x : Int32) : x >>> ((0 : Int32) &&& 31) = x := by
  rw [show ((0 : Int32) &&& 31) = 0 by decide]
  exact Int32.shiftRight_zero
theorem zfresh_i (σ : zS) {k b : Nat} (h : b ≠ k) : gi (zfresh σ k) b = gi σ b := if_neg h
theorem zfresh_r (σ : zS) {k b : Nat} (h : b ≠ k) : gr (zfresh σ k) b = gr σ b := if_neg h
theorem zfresh_l (σ : zS) {k b : Nat} (h : b ≠ k) : gl (zfresh σ k) b = gl σ b := if_neg h
theorem zfresh_d (σ : zS) {k b : Nat} (h : b ≠ k) : gd (zfresh σ k) b = gd σ b := if_neg h
theorem zfresh_0 (σ : zS) (k : Nat) : gi (zfresh σ k) k = fun _ => 0 := if_pos rfl
theorem zSl_push (S : zSp) {kd n a : Nat} (h : a < zSk S) : zSl (zSpush S kd n) a = zSl S a := if_neg (Nat.ne_of_lt h)
theorem zSl_new (S : zSp) (kd n : Nat) : zSl (zSpush S kd n) (zSk S) = n := if_pos rfl
/-- the text t stands in the class's StringBuilder, with room for m more -/
def sbT (S : zSp) (σ : zS) (t : List Int32) (m : Nat) : Prop := ∃ a : Nat, gr σ 5 0 = some a ∧ (zSl S a = 16 ∨ zSl S a = 34 ∨ zSl S a = 70 ∨ zSl S a = 142) ∧ (a = 6 ∨ 465 ≤ a) ∧ a < zSk S ∧ 465 ≤ zSk S ∧ gi σ 5 1 = 0 ∧ gi σ 5 3 = nI t.length ∧ t.length + m ≤ zSl S a ∧ (∀ k, k < t.length → gi σ a k = t.getD k 0) ∧ ∀ k, k < zSl S a → -128 ≤ (gi σ a k).toInt ∧ (gi σ a k).toInt < 128
def sbF (S : zSp) (σ : zS) (S' : zSp) (σ' : zS) : Prop := zSk S ≤ zSk S' ∧ (∀ a, a < zSk S → zSl S' a = zSl S a) ∧ (∀ a j, a < 465 → ¬ (a = 5 ∧ j = 0) → gr σ' a j = gr σ a j) ∧ (∀ a, a < 465 → a ≠ 5 → a ≠ 6 → gi σ' a = gi σ a) ∧ ∀ a, a < 465 → gl σ' a = gl σ a ∧ gd σ' a = gd σ a
theorem sbF.rf {S : zSp} {σ : zS} : sbF S σ S σ := ⟨Nat.le_refl _, fun _ _ => rfl, fun _ _ _ _ => rfl, fun _ _ _ _ => rfl, fun _ _ => ⟨rfl, rfl⟩⟩
theorem sbF.tr {S S' S'' : zSp} {σ σ' σ'' : zS} (h : sbF S σ S' σ') (g : sbF S' σ' S'' σ'') : sbF S σ S'' σ'' := ⟨Nat.le_trans h.1 g.1, fun a ha => (g.2.1 a (Nat.lt_of_lt_of_le ha h.1)).trans (h.2.1 a ha), fun a j h1 h2 => (g.2.2.1 a j h1 h2).trans (h.2.2.1 a j h1 h2), fun a h1 h2 h3 => (g.2.2.2.1 a h1 h2 h3).trans (h.2.2.2.1 a h1 h2 h3), fun a h1 => ⟨(g.2.2.2.2 a h1).1.trans (h.2.2.2.2 a h1).1, (g.2.2.2.2 a h1).2.trans (h.2.2.2.2 a h1).2⟩⟩
theorem fit_b {v : Int32} (h : -128 ≤ v.toInt ∧ v.toInt < 128) : fits .byte (.int v) = true := by
  show (decide ((-128 : Int32) ≤ v) && decide (v ≤ 127)) = true
  have t1 : (-128 : Int32).toInt = -128 := rfl
  have t2 : (127 : Int32).toInt = 127 := rfl
  rw [Bool.and_eq_true, decide_eq_true_eq, decide_eq_true_eq, nle, nle, t1, t2]
  omega
theorem sbT_cap {S : zSp} {σ : zS} {t : List Int32} (h : sbT S σ t 0) {m : Nat} (hm : m ≤ 18) (hl : t.length + m ≤ 100) {x : Int32} (hx : x = nI (t.length + m)) {Q : zSp → zS → Prop} (hq : ∀ S' σ', sbT S' σ' t m → sbF S σ S' σ' → Q S' σ') : wJ5_ensureCapacityInternal_d00df S σ 5 x Q := by
  obtain ⟨a, q1, q2, q3, q4, q5, q6, q7, q8, q9, q10⟩ := h
  subst hx
  have hc : 16 ≤ zSl S a ∧ zSl S a ≤ 142 := by omega
  generalize hcc : zSl S a = c at hc q2 q8 q10
  have ec := nI_toInt (n := c) (by omega)
  have el := nI_toInt (n := t.length + m) (by omega)
  have es : (nI (t.length + m) - nI c).toInt = ((t.length + m : Nat) : Int) - c := by rw [nsub (by rw [ec, el]; omega) (by rw [ec, el]; omega), ec, el]
  have t2 : (2 : Int32).toInt = 2 := rfl
  have z0 : (0 : Int32).toInt = 0 := rfl
  have e2 : (nI c + 2).toInt = (c : Int) + 2 := by rw [nadd (by rw [ec, t2]; omega) (by rw [ec, t2]; omega), ec, t2]
  refine ⟨a, q1, fun x2 e2' => ?_⟩
  rw [q6, shr0, hcc] at e2'
  subst e2'
  refine ⟨fun hle => ?_, fun hgt => ?_⟩
  · rw [nle, es, z0] at hle
    exact hq S σ ⟨a, q1, by rw [hcc]; exact q2, q3, q4, q5, q6, q7, by rw [hcc]; omega, q9, by rw [hcc]; exact q10⟩ sbF.rf
  rw [nle, es, z0] at hgt
  refine ⟨a, q1, a, q1, fun y2 f2 y3 f3 y4 f4 y5 f5 y1 f1 => ?_⟩
  rw [hcc] at f2
  rw [q6, shl0] at f3 f5
  subst f2 f3 f4 f5
  have ey : y1 = nI (2 * c + 2) := by
    rw [f1]
    have en := nI_toInt (n := 2 * c + 2) (by omega)
    by_cases hlt : nI (t.length + m) - nI c < nI c + 2
    · rw [if_pos hlt, neq, nadd (by rw [ec, e2]; omega) (by rw [ec, e2]; omega), ec, e2, en]
      omega
    · rw [if_neg hlt]
      rw [nlt, es, e2] at hlt
      rw [neq, nadd (by rw [ec, es]; omega) (by rw [ec, es]; omega), ec, es, en]
      omega
  subst ey
  have ed := nI_toInt (n := 2 * c + 2) (by omega)
  have tb : (2147483639 : Int32).toInt = 2147483639 := rfl
  refine ⟨fun hx => absurd hx (by rw [nle, ed, z0]; omega), fun _ => ⟨fun hx => absurd hx (by rw [nlt, ed, tb]; omega), fun _ => ⟨fun hx => ?_, fun _ => ?_⟩⟩⟩
  · have := congrArg Int32.toInt hx
    rw [ed] at this
    have tc : (2147483647 : Int32).toInt = 2147483647 := rfl
    omega
  rw [q6, shr0]
  intro x6 e6
  rw [q6, shl0] at e6
  subst e6
  refine ⟨fun hx => ?_, fun _ => ⟨by rw [nlt, ed, z0]; omega, by rw [nI_clamp (by omega)]; omega, fun a1 ea S1 eS σ4 e4 x5 e5 x6 e6 => ?_⟩⟩
  · rw [hcc] at hx
    have := congrArg Int32.toInt hx
    rw [ed, ec] at this
    omega
  rw [nI_clamp (by omega)] at eS
  have na : a ≠ zSk S := Nat.ne_of_lt q4
  have hS1 : zSl S1 a = c := by rw [eS, zSl_push _ q4]; exact hcc
  have hS2 : zSl S1 (zSk S) = 2 * c + 2 := by rw [eS, zSl_new]
  have hk1 : zSk S1 = zSk S + 1 := by rw [eS]; rfl
  rw [hS1] at e5
  subst ea e5
  have e6' : x6 = nI c := by rw [e6, if_neg (by rw [nlt, ed, ec]; omega)]
  subst e6'
  rw [nI_clamp (show c < 2 ^ 31 by omega)]
  have i4 : gi σ4 a = gi σ a := by rw [e4]; exact zfresh_i σ na
  refine ⟨⟨by decide, by decide, by rw [nlt, ec, z0]; omega, ?_, ?_, fun i hi => ?_⟩, fun σ13 e13 σ9 e9 => ?_⟩
  · rw [hS1]
    show 0 + c ≤ c
    omega
  · rw [hS2]
    show 0 + c ≤ 2 * c + 2
    omega
  · rw [i4]
    exact fit_b (q10 _ (by show 0 + i < c; omega))
  have o : ∀ b, b ≠ zSk S → gi σ9 b = gi σ b := fun b hb => by
    rw [e9, gi_sr, e13, sI_out _ _ hb, e4]
    exact zfresh_i σ hb
  have cp : ∀ k, gi σ9 (zSk S) k = if k < c then gi σ a k else 0 := fun k => by
    rw [e9, gi_sr, e13, sI_at, i4]
    show (if 0 ≤ k ∧ k < 0 + c then gi σ a (0 + (k - 0)) else gi σ4 (zSk S) k) = _
    by_cases hk : k < c
    · rw [if_pos ⟨Nat.zero_le _, by omega⟩, if_pos hk, Nat.zero_add, Nat.sub_zero]
    · rw [if_neg (by omega), if_neg hk, e4, zfresh_0]
  refine hq S1 σ9 ⟨zSk S, ?_, by rw [hS2]; omega, Or.inr q5, by omega, by omega, ?_, ?_, by rw [hS2]; omega, fun k hk => ?_, fun k hk => ?_⟩ ⟨by omega, fun b hb => by rw [eS]; exact zSl_push _ hb, fun b j hb hj => ?_, fun b hb h5 h6 => o b (by omega), fun b hb => ?_⟩
  · rw [e9, gr_sr, if_pos rfl, if_pos rfl]
  · rw [o 5 (by omega)]; exact q6
  · rw [o 5 (by omega)]; exact q7
  · rw [cp, if_pos (by omega)]; exact q9 k hk
  · rw [cp]
    by_cases hk2 : k < c
    · rw [if_pos hk2]; exact q10 k hk2
    · rw [if_neg hk2]; decide
  · rw [e9, gr_sr, e13]
    by_cases e : b = 5
    · rw [if_pos e, if_neg (fun x => hj ⟨e, x⟩)]
      show gr σ4 b j = _
      rw [e4, zfresh_r σ (by omega)]
    · rw [if_neg e]
      show gr σ4 b j = _
      rw [e4, zfresh_r σ (by omega)]
  · rw [e9, gl_sr, gd_sr, e13]
    show gl σ4 b = _ ∧ gd σ4 b = _
    rw [e4]
    exact ⟨zfresh_l σ (by omega), zfresh_d σ (by omega)⟩
theorem getD_app {t : List Int32} {v : Int32} {k : Nat} : (k < t.length → (t ++ [v]).getD k 0 = t.getD k 0) ∧ (k = t.length → (t ++ [v]).getD k 0 = v) := by
  refine ⟨fun h => ?_, fun h => ?_⟩
  · rw [List.getD_eq_getElem?_getD, List.getD_eq_getElem?_getD, List.getElem?_append_left h]
  · subst h
    rw [List.getD_eq_getElem?_getD, List.getElem?_append_right (Nat.le_refl _), Nat.sub_self]
    rfl
/-- one more character is stored -/
theorem sbT_put {S : zSp} {σ : zS} {t : List Int32} {m a : Nat} (h : sbT S σ t (m + 1)) (ga : gr σ 5 0 = some a) {v w : Int32} (hv : 0 ≤ v.toInt ∧ v.toInt < 128) (hw : w = v) {n : Int32} (hn : n = nI (t.length + 1)) : sbT S (si (si σ 5 3 n) a t.length w) (t ++ [v]) m ∧ sbF S σ S (si (si σ 5 3 n) a t.length w) := by
  obtain ⟨a', q1, q2, q3, q4, q5, q6, q7, q8, q9, q10⟩ := h
  rw [q1] at ga
  injection ga with ga
  subst ga hw hn
  have n5 : (5 : Nat) ≠ a' := by omega
  have ha : gi (si (si σ 5 3 (nI (t.length + 1))) a' t.length w) a' = zu (gi σ a') t.length w := by rw [si_at, si_out _ _ n5.symm]
  refine ⟨⟨a', q1, q2, q3, q4, q5, ?_, ?_, ?_, fun k hk => ?_, fun k hk => ?_⟩, ⟨Nat.le_refl _, fun _ _ => rfl, fun _ _ _ _ => rfl, fun b h1 h2 h3 => ?_, fun _ _ => ⟨rfl, rfl⟩⟩⟩
  · rw [si_out _ _ n5, si_at, zu_ne (by decide)]; exact q6
  · rw [si_out _ _ n5, si_at, zu_self, List.length_append]; rfl
  · rw [List.length_append]
    show t.length + 1 + m ≤ _
    omega
  · rw [ha]
    rw [List.length_append] at hk
    have hk : k < t.length + 1 := hk
    by_cases e : k = t.length
    · rw [getD_app.2 e, e, zu_self]
    · rw [zu_ne e, getD_app.1 (by omega)]
      exact q9 k (by omega)
  · rw [ha]
    by_cases e : k = t.length
    · rw [e, zu_self]; omega
    · rw [zu_ne e]; exact q10 k hk
  · rw [si_out _ _ (by omega), si_out _ _ h2]
theorem nar8 {v : Int32} (hv : 0 ≤ v.toInt ∧ v.toInt < 128) : vp_nar .byte v = v ∧ vp_nar .byte v.toInt8.toInt32 = v := by
  have e1 : v.toInt8.toInt32 = v := by
    rw [neq, nb8, if_pos (by rw [Int.emod_eq_of_lt hv.1 (by omega)]; exact hv.2), Int.emod_eq_of_lt hv.1 (by omega)]
  have e2 : vp_nar .byte v = v.toInt8.toInt32 := rfl
  rw [e1]
  exact ⟨e2.trans e1, e2.trans e1⟩
theorem sbT_char {S : zSp} {σ : zS} {t : List Int32} (h : sbT S σ t 0) (hl : t.length + 1 ≤ 100) {v : Int32} (hv : 0 ≤ v.toInt ∧ v.toInt < 128) {Q : Nat → zSp → zS → Prop} (hq : ∀ S' σ', sbT S' σ' (t ++ [v]) 0 → sbF S σ S' σ' → Q 5 S' σ') : wJ4_append_cf468 S σ 5 v Q := by
  intro x1 e1
  have q7 : gi σ 5 3 = nI t.length := by
    obtain ⟨a, q1, q2, q3, q4, q5, q6, q7, q8⟩ := h
    exact q7
  rw [q7, nI_1] at e1
  refine sbT_cap h (m := 1) (by omega) hl e1 (fun S' σ' h' f' => ?_)
  have h2 := h'
  obtain ⟨a, q1, q2, q3, q4, q5, q6, q7, q8, q9, q10⟩ := h2
  have t255 : (255 : Int32).toInt = 255 := rfl
  refine ⟨fun hx => absurd hx (by decide), fun _ => ⟨fun _ => ⟨fun hx => absurd hx (by decide), fun _ => ⟨fun hx => absurd hx (by rw [nlt, t255]; omega), fun _ => ⟨fun hx => absurd hx (by decide), fun _ => ⟨a, q1, fun x9 e9 x10 e10 σ11 e11 x12 e12 => ?_⟩⟩⟩⟩, fun hx => absurd q6 hx⟩⟩
  rw [q7] at e9
  subst e9
  refine ⟨vp_in_nI (by omega) (by omega), fun σ14 e14 => ?_⟩
  rw [nI_clamp (by omega), e12] at e14
  rw [nI_1] at e10
  subst e11 e14
  obtain ⟨r1, r2⟩ := sbT_put (m := 0) h' q1 hv (w := vp_nar .byte v.toInt8.toInt32) (nar8 hv).2 e10
  exact hq _ _ r1 (f'.tr r2)
