/-! THE CLASS ENCODES its lines -/
theorem chk_e {N : Int32} (hN : 6 ≤ N.toInt ∧ N.toInt ≤ 28) {l : Nat} (hl : l < 1000) : mI (nI l).toInt (N - 2).toInt = nI l - nI l / (N - 2) * (N - 2) := by
  have e2 : (N - 2).toInt = N.toInt - 2 := nsub (b := 2) (by show _ ≤ N.toInt - 2; omega) (by show N.toInt - 2 < _; omega)
  have h0 := nI_toInt (n := l) (by omega)
  rw [neq, mIt (by omega) (by omega), nrem (by omega) (by omega)]
/-- a cell of pulses -/
def zPcel (b : Nat) : Prop := ∃ v k : Nat, v < 2 ∧ k < 12 ∧ (b = 8 + 62 * v + 5 * k ∨ b = 9 + 62 * v + 5 * k)
theorem zPcel_not {b : Nat} (h : b ≤ 3 ∨ b = 65 ∨ ∃ v k, v < 2 ∧ k < 12 ∧ (b = 6 + 62 * v + 5 * k ∨ b = 7 + 62 * v + 5 * k)) : ¬ zPcel b := by
  rintro ⟨v, k, hv, hk, e⟩
  rcases h with h | h | ⟨v', k', hv', hk', h⟩
  · omega
  · omega
  · omega
theorem zPn_p {F F' : Nat → Nat → Int32} {r : zRow} (h : zPn F r) (e : ∀ b, ¬ zPcel b → F' b = F b) : zPn F' r := by
  obtain ⟨⟨a0, a1, a2, a3, a4⟩, ⟨b1, b2⟩, d, l⟩ := h
  have e0 := e 0 (zPcel_not (Or.inl (by omega)))
  refine ⟨⟨by rw [e0]; exact a0, by rw [e0]; exact a1, by rw [e0]; exact a2, by rw [e0]; exact a3, by rw [e0]; exact a4⟩, ⟨by rw [e 1 (zPcel_not (Or.inl (by omega)))]; exact b1, fun j hj => by rw [e 2 (zPcel_not (Or.inl (by omega)))]; exact b2 j hj⟩, fun v hv => ?_, fun v hv k hk hlt => ?_⟩
  · rw [e (3 + 62 * v) (zPcel_not (by omega))]
    exact d v hv
  · rw [e _ (zPcel_not (Or.inr (Or.inr ⟨v, k, hv, hk, Or.inl rfl⟩))), e _ (zPcel_not (Or.inr (Or.inr ⟨v, k, hv, hk, Or.inr rfl⟩)))]
    exact l v hv k hk hlt
/-- the pulses of a line are the path of the row's line -/
def zPu (F : Nat → Nat → Int32) (r : zRow) (v k : Nat) : Prop := F (8 + 62 * v + 5 * k) 1 = nI (rPath r (12 * v + k)).length ∧ ∀ j, j < (rPath r (12 * v + k)).length → F (9 + 62 * v + 5 * k) j = (rPath r (12 * v + k)).getD j 0
section ZENC
variable {ln : Nat → Nat} {σ : zS} {p : Nat} {f3 f4 : Nat → Int32} {r : zRow} {o : Nat}
theorem getD_add {l : List Int32} {x : Int32} {g : Nat → Int32} (h : ∀ j, j < l.length → g j = l.getD j 0) : ∀ j, j < (l ++ [x]).length → zu g l.length x j = (l ++ [x]).getD j 0 := by
  intro k hk
  rw [List.length_append] at hk
  have hk : k < l.length + 1 := hk
  rw [zu_ap]
  by_cases e : k = l.length
  · rw [if_pos e, e, List.getD_eq_getElem?_getD, List.getElem?_append_right (Nat.le_refl _), Nat.sub_self]
    rfl
  · rw [if_neg e, h k (by omega), List.getD_eq_getElem?_getD, List.getD_eq_getElem?_getD, List.getElem?_append_left (by omega)]
/-- the line's pulses so far -/
def zPs0 (F0 F : Nat → Nat → Int32) (v k : Nat) (l : List Int32) : Prop := (∀ b, b ≠ 8 + 62 * v + 5 * k → b ≠ 9 + 62 * v + 5 * k → F b = F0 b) ∧ F (8 + 62 * v + 5 * k) 1 = nI l.length ∧ ∀ j, j < l.length → F (9 + 62 * v + 5 * k) j = l.getD j 0
theorem zPs0_add {F0 F : Nat → Nat → Int32} {v k : Nat} {l : List Int32} (h : zPs0 F0 F v k l) (x : Int32) : zPs0 F0 (zf (zf F (9 + 62 * v + 5 * k) l.length x) (8 + 62 * v + 5 * k) 1 (nI (l.length + 1))) v k (l ++ [x]) := by
  obtain ⟨h1, h2, h3⟩ := h
  refine ⟨fun b b1 b2 => by rw [zf_ne b1, zf_ne b2]; exact h1 b b1 b2, ?_, ?_⟩
  · rw [zf_ap, if_pos rfl, if_pos rfl, List.length_append]
    rfl
  · intro j hj
    rw [zf_ne (by omega), zf_eq]
    exact getD_add h3 j hj
theorem c_addPu (hp : 5 ≤ p) (PS : zPs (gr σ) ln p) {F0 F : Nat → Nat → Int32} {v k : Nat} (hv : v < 2) (hk : k < 12) {l : List Int32} (hl : l.length < 62) (h : zPs0 F0 F v k l) {x : Int32} {Q : zS → Prop} (hq : ∀ F', zPs0 F0 F' v k (l ++ [x]) → Q (zpc σ p f3 f4 F')) : wX9_add ln (zpc σ p f3 f4 F) (p + 8 + 62 * v + 5 * k) x Q :=
  c_addP hp (K := 8 + 62 * v + 5 * k) (K' := 9 + 62 * v + 5 * k) (a' := p + 9 + 62 * v + 5 * k) (j := l.length) (cap := 62) (by omega) (by omega) (by omega) (by omega) (by omega) (PS.2.2.2 v hv k hk).2.2.2.2.1 (PS.2.2.2 v hv k hk).2.2.2.2.2.2 h.2.1 hl (by decide) (hq _ (zPs0_add h x))
theorem c_encode11 (hp : 5 ≤ p) (PS : zPs (gr σ) ln p) (V : zPV r o) {F0 : Nat → Nat → Int32} (P : zPn F0 r) {v k len : Nat} (hv : v < 2) (hk : k < 12) (hM : (k : Int) < (r (25 + v)).toInt) (hlen : r (219 + (12 * v + k)) = nI len) (hl30 : len ≤ 30) {Q : zS → Prop} (hq : ∀ F', zPs0 F0 F' v k (rPath r (12 * v + k)) → Q (zpc σ p f3 f4 F')) : ∀ (d i : Nat) (F : Nat → Nat → Int32), i + d = len → zPs0 F0 F v k (zenc (rChr r (12 * v + k)) i).1 → wX2_encode_11 ln Q (d + 1) (p + 5 + 62 * v + 5 * k) (r 0) (zenc (rChr r (12 * v + k)) i).2 (nI i) (zpc σ p f3 f4 F)
  | 0, i, F, hd, h => by
    obtain rfl : i = len := by omega
    obtain ⟨pk0, pk1, pk2, pk3, pk4, pk5, pk6⟩ := PS.2.2.2 v hv k hk
    have hN := V.1.1
    have zl := zenc_len (rChr r (12 * v + k)) i
    have eS : F (6 + 62 * v + 5 * k) 1 = nI i := by rw [h.1 _ (by omega) (by omega), (P.2.2.2 v hv k hk hM).1]; exact hlen
    rw [wX2_encode_11]
    refine ⟨p + 6 + 62 * v + 5 * k, pk1, ?_⟩
    unfold wX9_size
    rw [gi_zpc_k hp (k := 6 + 62 * v + 5 * k) (by omega) (by omega), eS]
    refine ⟨fun _ => ⟨p + 8 + 62 * v + 5 * k, pk3, ?_⟩, fun hx => absurd (nI_le (Nat.le_refl _) (by omega)) hx⟩
    rw [gi_zpc_k hp (k := 8 + 62 * v + 5 * k) (by omega) (by omega), h.2.1]
    refine ⟨p + 8 + 62 * v + 5 * k, pk3, c_addPu hp PS hv hk (by omega) h (fun F1 h1 => ⟨p + 8 + 62 * v + 5 * k, pk3, ?_⟩)⟩
    intro x1 e1
    subst e1
    have e2 : (r 0 - 2).toInt = (r 0).toInt - 2 := nsub (b := 2) (by show _ ≤ (r 0).toInt - 2; omega) (by show (r 0).toInt - 2 < _; omega)
    refine wmodulo (by omega) ?_
    rw [chk_e hN (by omega)]
    refine c_addPu hp PS hv hk (by rw [List.length_append]; show (zenc (rChr r (12 * v + k)) i).1.length + 1 < 62; omega) h1 (fun F2 h2 => hq F2 ?_)
    have e : rPath r (12 * v + k) = zpath (rChr r (12 * v + k)) i (r 0) := by
      unfold rPath
      rw [hlen, nI_clamp (by omega)]
    rw [e]
    exact h2
  | d + 1, i, F, hd, h => by
    obtain ⟨pk0, pk1, pk2, pk3, pk4, pk5, pk6⟩ := PS.2.2.2 v hv k hk
    have zl := zenc_len (rChr r (12 * v + k)) i
    have eS : F (6 + 62 * v + 5 * k) 1 = nI len := by rw [h.1 _ (by omega) (by omega), (P.2.2.2 v hv k hk hM).1]; exact hlen
    have eC : F (7 + 62 * v + 5 * k) i = rChr r (12 * v + k) i := by
      rw [h.1 _ (by omega) (by omega), (P.2.2.2 v hv k hk hM).2 i (by rw [hlen, nI_clamp (by omega)]; omega)]
      rfl
    have hck : zckk (r 0) (rChr r (12 * v + k) i) := (V.2.2.2.1 (12 * v + k) (by omega)).2 i (by rw [hlen, nI_toInt (by omega)]; omega)
    have l57 : (57 : Int32).toInt = 57 := rfl
    have ih := fun F' => c_encode11 hp PS V P hv hk hM hlen hl30 hq d (i + 1) F' (by omega)
    rw [zenc] at ih
    generalize rChr r (12 * v + k) i = x at eC hck ih
    generalize hE : zenc (rChr r (12 * v + k)) i = E at h ih zl ⊢
    have hxd : (zdig x = true ∧ ¬ (57 : Int32) < x) ∨ (zdig x = false ∧ (57 : Int32) < x) := by
      obtain ⟨-, hx⟩ := hck
      unfold zdig
      unfold xK at hx
      rw [nlt, l57]
      by_cases h1 : 97 ≤ x.toInt ∧ x.toInt ≤ 122
      · exact Or.inr ⟨decide_eq_false (by omega), by omega⟩
      · rw [if_neg h1] at hx
        by_cases h2 : 48 ≤ x.toInt ∧ x.toInt ≤ 57
        · exact Or.inl ⟨decide_eq_true h2, by omega⟩
        · rw [if_neg h2] at hx
          exfalso
          by_cases h3 : x = 59
          · rw [if_pos h3] at hx
            rcases hx with h | h <;> exact absurd h (by decide)
          · rw [if_neg h3] at hx
            by_cases h4 : x = 47
            · rw [if_pos h4] at hx
              rcases hx with h | h <;> exact absurd h (by decide)
            · rw [if_neg h4] at hx
              rcases hx with h | h <;> exact absurd h (by decide)
    have key : ∀ w : Int32, w = (if zdig x then 1 else 0) → wX2_encode_44 ln Q (wX2_encode_11 ln Q (d + 1)) (p + 5 + 62 * v + 5 * k) (r 0) E.2 (nI i) x w (zpc σ p f3 f4 F) := fun w hw => by
      rw [← hw] at ih
      have k64 : ∀ (w2 : Int32) (l : List Int32) (F1 : Nat → Nat → Int32), l.length < 62 → zPs0 F0 F1 v k l → (∀ F', zPs0 F0 F' v k (l ++ [2 + zidx x]) → wX2_encode_11 ln Q (d + 1) (p + 5 + 62 * v + 5 * k) (r 0) w2 (nI (i + 1)) (zpc σ p f3 f4 F')) → wX2_encode_64 ln Q (wX2_encode_11 ln Q (d + 1)) (p + 5 + 62 * v + 5 * k) (r 0) w2 (nI i) x (zpc σ p f3 f4 F1) := fun w2 l F1 hl h1 hk1 => by
        refine ⟨p + 8 + 62 * v + 5 * k, pk3, c_wheelIndex hck.2 (fun x4 e4 => ?_)⟩
        subst e4
        refine c_addPu hp PS hv hk hl h1 (fun F' h' x6 e6 => ?_)
        rw [nI_1] at e6
        subst e6
        exact hk1 F' h'
      refine ⟨fun he => ?_, fun he => ⟨p + 8 + 62 * v + 5 * k, pk3, ?_⟩⟩
      · rw [if_pos he.symm] at ih
        exact k64 _ _ _ (by omega) h ih
      · rw [if_neg (fun e => he e.symm)] at ih
        refine c_addPu hp PS hv hk (by omega) h (fun F1 h1 => ?_)
        exact k64 _ _ _ (by rw [List.length_append]; show E.1.length + 1 < 62; omega) h1 ih
    rw [wX2_encode_11]
    refine ⟨p + 6 + 62 * v + 5 * k, pk1, ?_⟩
    unfold wX9_size
    rw [gi_zpc_k hp (k := 6 + 62 * v + 5 * k) (by omega) (by omega), eS]
    refine ⟨fun hx => absurd hx (nI_ge (by omega) (by omega)), fun _ => ⟨p + 6 + 62 * v + 5 * k, pk1, ?_⟩⟩
    have e1 : gi (zpc σ p f3 f4 F) (p + 6 + 62 * v + 5 * k) 1 = nI len := by rw [gi_zpc_k hp (k := 6 + 62 * v + 5 * k) (by omega) (by omega)]; exact eS
    refine ⟨fun hx => absurd hx (nI_pos (by omega)), fun _ => ?_⟩
    rw [e1]
    refine ⟨fun hx => absurd hx (nI_ge (by omega) (by omega)), fun _ => ⟨p + 7 + 62 * v + 5 * k, pk2, ?_⟩⟩
    rw [pk5]
    refine ⟨fun hx => absurd hx (nI_ge (a := i) (b := 30) (by omega) (by omega)), fun _ => ⟨p + 7 + 62 * v + 5 * k, pk2, ?_⟩⟩
    rw [pk5, nI_clamp (by omega), gi_zpc_k hp (k := 7 + 62 * v + 5 * k) (by omega) (by omega), eC]
    refine ⟨vp_in_nI (by omega) (by omega), fun hx => key 0 ?_, fun hx => key 1 ?_⟩
    · rcases hxd with ⟨a, b⟩ | ⟨a, b⟩
      · exact absurd hx b
      · rw [a]; rfl
    · rcases hxd with ⟨a, b⟩ | ⟨a, b⟩
      · rw [a]; rfl
      · exact absurd b hx
theorem c_encodeL (hp : 5 ≤ p) (PS : zPs (gr σ) ln p) (V : zPV r o) {F0 : Nat → Nat → Int32} (P : zPn F0 r) {v k : Nat} (hv : v < 2) (hk : k < 12) (hM : (k : Int) < (r (25 + v)).toInt) {Q : zS → Prop} (hq : ∀ F', (∀ b, b ≠ 8 + 62 * v + 5 * k → b ≠ 9 + 62 * v + 5 * k → F' b = F0 b) → zPu F' r v k → Q (zpc σ p f3 f4 F')) : wX2_encode ln (zpc σ p f3 f4 F0) (p + 5 + 62 * v + 5 * k) (r 0) Q := by
  obtain ⟨pk0, pk1, pk2, pk3, pk4, pk5, pk6⟩ := PS.2.2.2 v hv k hk
  have hlb := (V.2.2.2.1 (12 * v + k) (by omega)).1
  have cl := ncl hlb.1
  obtain ⟨len, el⟩ : ∃ len, len = (r (219 + (12 * v + k))).toNatClampNeg := ⟨_, rfl⟩
  have rl : r (219 + (12 * v + k)) = nI len := by rw [neq, nI_toInt (by omega)]; omega
  refine ⟨p + 8 + 62 * v + 5 * k, pk3, fun σ1 e1 => ?_⟩
  rw [si_zpc_k hp (k := 8 + 62 * v + 5 * k) (by omega) (by omega)] at e1
  subst e1
  refine ⟨len + 1, c_encode11 hp PS V P hv hk hM rl (by omega) (fun F' h => hq F' h.1 h.2) len 0 _ (by omega) ⟨fun b b1 b2 => zf_ne b1, ?_, fun j hj => absurd hj (Nat.not_lt_zero j)⟩⟩
  rw [zf_ap, if_pos rfl, if_pos rfl]
  rfl
theorem c_encLines2 (hp : 5 ≤ p) (PS : zPs (gr σ) ln p) (V : zPV r o) {F0 : Nat → Nat → Int32} (P : zPn F0 r) {v M : Nat} (hv : v < 2) (hM : r (25 + v) = nI M) (hM12 : M ≤ 12) {Q : zS → Prop} (hq : ∀ F', (∀ b, (¬ zPcel b ∨ ∀ k, k < 12 → b ≠ 8 + 62 * v + 5 * k ∧ b ≠ 9 + 62 * v + 5 * k) → F' b = F0 b) → (∀ k, k < M → zPu F' r v k) → Q (zpc σ p f3 f4 F')) : ∀ (d k : Nat) (F : Nat → Nat → Int32), k + d = M → (∀ b, (¬ zPcel b ∨ ∀ k, k < 12 → b ≠ 8 + 62 * v + 5 * k ∧ b ≠ 9 + 62 * v + 5 * k) → F b = F0 b) → (∀ j, j < k → zPu F r v j) → wX0_encodeLines_2 ln Q (d + 1) (p + (3 + 62 * v)) (r 0) (nI k) (zpc σ p f3 f4 F)
  | 0, k, F, hd, hF, hu => by
    obtain rfl : k = M := by omega
    have e2 : gi (zpc σ p f3 f4 F) (p + (3 + 62 * v)) 2 = nI k := by rw [gi_zpc_k hp (k := 3 + 62 * v) rfl (by omega), hF (3 + 62 * v) (Or.inl (zPcel_not (by omega))), (P.2.2.1 v hv).2.2]; exact hM
    rw [wX0_encodeLines_2, e2]
    exact ⟨fun _ => hq F hF hu, fun hx => absurd (nI_le (Nat.le_refl _) (by omega)) hx⟩
  | d + 1, k, F, hd, hF, hu => by
    have fM : F (3 + 62 * v) 2 = nI M := by rw [hF (3 + 62 * v) (Or.inl (zPcel_not (by omega))), (P.2.2.1 v hv).2.2]; exact hM
    have e2 : gi (zpc σ p f3 f4 F) (p + (3 + 62 * v)) 2 = nI M := by rw [gi_zpc_k hp (k := 3 + 62 * v) rfl (by omega)]; exact fM
    have P' : zPn F r := zPn_p P (fun b hb => hF b (Or.inl hb))
    rw [wX0_encodeLines_2, e2]
    refine ⟨fun hx => absurd hx (nI_ge (by omega) (by omega)), fun _ => c_lineP hp PS hv fM (k := k) (by omega) hM12 rfl ⟨(fun h => nomatch h), fun j3 h3 => ?_⟩⟩
    cases h3
    refine c_encodeL hp PS V P' hv (by omega) (by rw [hM, nI_toInt (by omega)]; omega) (fun F' a1 a2 x6 e6 => ?_)
    rw [nI_1] at e6
    subst e6
    refine c_encLines2 hp PS V P hv hM hM12 hq d (k + 1) F' (by omega) (fun b hb => ?_) (fun j hj => ?_)
    · rw [a1 b, hF b hb]
      · intro e
        rcases hb with hb | hb
        · exact hb ⟨v, k, hv, by omega, Or.inl e⟩
        · exact (hb k (by omega)).1 e
      · intro e
        rcases hb with hb | hb
        · exact hb ⟨v, k, hv, by omega, Or.inr e⟩
        · exact (hb k (by omega)).2 e
    · by_cases ej : j = k
      · subst ej; exact a2
      · obtain ⟨u1, u2⟩ := hu j (by omega)
        unfold zPu
        rw [a1 _ (by omega) (by omega), a1 _ (by omega) (by omega)]
        exact ⟨u1, u2⟩
theorem c_encLines (hp : 5 ≤ p) (PS : zPs (gr σ) ln p) (V : zPV r o) {F0 : Nat → Nat → Int32} (P : zPn F0 r) {v M : Nat} (hv : v < 2) (hM : r (25 + v) = nI M) (hM12 : M ≤ 12) {Q : zS → Prop} (hq : ∀ F', (∀ b, (¬ zPcel b ∨ ∀ k, k < 12 → b ≠ 8 + 62 * v + 5 * k ∧ b ≠ 9 + 62 * v + 5 * k) → F' b = F0 b) → (∀ k, k < M → zPu F' r v k) → Q (zpc σ p f3 f4 F')) : wX0_encodeLines ln (zpc σ p f3 f4 F0) (p + (3 + 62 * v)) (r 0) Q := ⟨M + 1, c_encLines2 hp PS V P hv hM hM12 hq M 0 F0 (by omega) (fun _ _ => rfl) (fun j hj => absurd hj (Nat.not_lt_zero j))⟩
/-- the end of reading -/
theorem c_read75 (hp : 5 ≤ p) (PS : zPs (gr σ) ln p) (V : zPV r o) {F : Nat → Nat → Int32} (P : zPn F r) {Q : Int32 → zS → Prop} (hq : ∀ F', zPn F' r → (∀ v : Nat, v < 2 → ∀ k : Nat, k < 12 → (k : Int) < (r (25 + v)).toInt → zPu F' r v k) → Q (-1) (zpc σ p f3 f4 F')) : wX5_read_75 ln Q p (zpc σ p f3 f4 F) := by
  have h0 := (V.2.2.1 0 (by decide)).2.2
  have h1 := (V.2.2.1 1 (by decide)).2.2
  have c0 := ncl h0.1
  have c1 := ncl h1.1
  obtain ⟨M0, e0⟩ : ∃ M, M = (r (25 + 0)).toNatClampNeg := ⟨_, rfl⟩
  obtain ⟨M1, e1⟩ : ∃ M, M = (r (25 + 1)).toNatClampNeg := ⟨_, rfl⟩
  have r0 : r (25 + 0) = nI M0 := by rw [neq, nI_toInt (by omega)]; omega
  have r1 : r (25 + 1) = nI M1 := by rw [neq, nI_toInt (by omega)]; omega
  refine ⟨p + 3, PS.2.1.1, fun x2 e2 => ?_⟩
  rw [gi_zpc_0 hp, P.1.1] at e2
  subst e2
  refine c_encLines hp PS V P (v := 0) (by decide) r0 (by omega) (fun F1 a1 a2 => ⟨p + 65, PS.2.1.2, fun x5 e5 => ?_⟩)
  have P1 : zPn F1 r := zPn_p P (fun b hb => a1 b (Or.inl hb))
  rw [gi_zpc_0 hp, P1.1.1] at e5
  subst e5
  refine c_encLines hp PS V P1 (v := 1) (by decide) r1 (by omega) (fun F2 b1 b2 => hq F2 (zPn_p P1 (fun b hb => b1 b (Or.inl hb))) (fun v hv k hk hlt => ?_))
  rcases (show v = 0 ∨ v = 1 by omega) with rfl | rfl
  · rw [r0, nI_toInt (by omega)] at hlt
    obtain ⟨u1, u2⟩ := a2 k (by omega)
    unfold zPu
    rw [b1 _ (Or.inr (fun k' hk' => by omega)), b1 _ (Or.inr (fun k' hk' => by omega))]
    exact ⟨u1, u2⟩
  · rw [r1, nI_toInt (by omega)] at hlt
    exact b2 k (by omega)
end ZENC
