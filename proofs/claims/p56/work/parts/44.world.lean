/-! from 79.world -/
/-! THE WORLD between calls -/
def zPs (g : Nat → Nat → Option Nat) (ln : Nat → Nat) (p : Nat) : Prop := (g p 5 = some (p + 1) ∧ g (p + 1) 0 = some (p + 2) ∧ ln (p + 2) = 20) ∧ (g p 6 = some (p + 3) ∧ g p 7 = some (p + 65)) ∧ (g (p + 3) 3 = some (p + 4) ∧ g (p + 65) 3 = some (p + 66) ∧ ln (p + 4) = 12 ∧ ln (p + 66) = 12) ∧ ∀ q, q < 2 → ∀ k, k < 12 → g (p + 4 + 62 * q) k = some (p + 5 + 62 * q + 5 * k) ∧ g (p + 5 + 62 * q + 5 * k) 0 = some (p + 6 + 62 * q + 5 * k) ∧ g (p + 6 + 62 * q + 5 * k) 0 = some (p + 7 + 62 * q + 5 * k) ∧ g (p + 5 + 62 * q + 5 * k) 1 = some (p + 8 + 62 * q + 5 * k) ∧ g (p + 8 + 62 * q + 5 * k) 0 = some (p + 9 + 62 * q + 5 * k) ∧ ln (p + 7 + 62 * q + 5 * k) = 30 ∧ ln (p + 9 + 62 * q + 5 * k) = 62
def zCh (σ : zS) (p : Nat) (r : Nat → Int32) : Prop := ∀ q : Nat, q < 2 → ∀ k : Nat, k < 12 → (k : Int) < (r (25 + q)).toInt → gi σ (p + 6 + 62 * q + 5 * k) 1 = r (219 + 12 * q + k)
def zby (c b : Int32) : Prop := (0 ≤ c.toInt ∧ c.toInt < 256) ∧ b.toInt = if c.toInt < 128 then c.toInt else c.toInt - 256
def zIn (σ : zS) : Prop := ∃ n : Nat, n ≤ 600 ∧ gi σ 1 1 = nI n ∧ gi σ 455 13 = nI n ∧ ∀ k, k < n → zby (gi σ 2 k) (gi σ 462 k)
/-- the formatted text -/
def zSB (S : zSp) (σ : zS) : Prop := ∃ a n : Nat, gr σ 5 0 = some a ∧ (zSl S a = 16 ∨ zSl S a = 34 ∨ zSl S a = 70 ∨ zSl S a = 142) ∧ (a = 6 ∨ 465 ≤ a) ∧ a < zSk S ∧ 465 ≤ zSk S ∧ gi σ 5 1 = 0 ∧ gi σ 5 3 = nI n ∧ gi σ 455 11 = nI n ∧ n ≤ 100 ∧ n ≤ zSl S a ∧ (∀ k, k < n → gi σ a k = gi σ 461 k ∧ 0 ≤ (gi σ 461 k).toInt ∧ (gi σ 461 k).toInt < 128) ∧ ∀ k, k < zSl S a → -128 ≤ (gi σ a k).toInt ∧ (gi σ a k).toInt < 128
/-- nothing that the world speaks of has changed -/
def zLk (σ σ' : zS) : Prop := gr σ' = gr σ ∧ (∀ a, a < 455 ∨ a = 456 ∨ a = 459 ∨ a = 461 ∨ a = 462 ∨ 465 ≤ a → gi σ' a = gi σ a) ∧ (∀ a, a < 455 → gl σ' a = gl σ a) ∧ ∀ j, j = 5 ∨ j = 11 ∨ j = 13 ∨ j = 14 → gi σ' 455 j = gi σ 455 j
theorem zLk.rf {σ : zS} : zLk σ σ := ⟨rfl, fun _ _ => rfl, fun _ _ => rfl, fun _ _ => rfl⟩
theorem zLk.tr {σ σ' σ'' : zS} (h : zLk σ σ') (g : zLk σ' σ'') : zLk σ σ'' := ⟨g.1.trans h.1, fun a ha => (g.2.1 a ha).trans (h.2.1 a ha), fun a ha => (g.2.2.1 a ha).trans (h.2.2.1 a ha), fun j hj => (g.2.2.2 j hj).trans (h.2.2.2 j hj)⟩
theorem zLk_t {σ : zS} {v : Int32} : zLk σ (si σ 455 0 v) := ⟨rfl, fun a ha => si_out _ _ (by omega), fun _ _ => rfl, fun j hj => by rw [si_at, zu_ne (by omega)]⟩
theorem zLk_o {σ : zS} {v : Int64} : zLk σ (sl σ 463 0 v) := ⟨rfl, fun _ _ => rfl, fun a ha => by
  funext j
  rw [gl_sl, if_neg (by omega)], fun _ _ => rfl⟩
theorem zLk_d {σ : zS} {v : UInt64} : zLk σ (sd σ 464 0 v) := ⟨rfl, fun _ _ => rfl, fun _ _ => rfl, fun _ _ => rfl⟩
theorem zLk_zms {σ : zS} {pf : Nat → Int32} {n far : Int32} : zLk σ (zms σ (gi σ 456) pf n far) := ⟨rfl, fun a ha => by
  by_cases e : a = 456
  · subst e; rfl
  · funext k
    exact gi_zms_a σ _ pf n far e (by omega) (by omega) k, fun _ _ => rfl, fun j hj => by rw [gi_zms, if_neg (by decide), if_neg (by decide), if_pos rfl, if_neg (by omega), if_neg (by omega)]⟩
theorem zPl_ci {σ σ' : zS} {ln : Nat → Nat} {p : Nat} {r : Nat → Int32} (h : zPl σ ln p r) (eg : gr σ' = gr σ) (g : ∀ a, p ≤ a → a < p + 127 → gi σ' a = gi σ a) : zPl σ' ln p r := by
  obtain ⟨⟨a1, a2, a3, a4⟩, b1, ⟨c1, c2⟩, d1, e1⟩ := h
  unfold zPl
  rw [eg, g p (by omega) (by omega), g (p + 3) (by omega) (by omega), g (p + 65) (by omega) (by omega)]
  refine ⟨⟨a1, a2, a3, a4⟩, b1, ⟨c1, c2⟩, d1, fun q hq k hk => ⟨(e1 q hq k hk).1, fun hk2 => ?_⟩⟩
  rw [g _ (by omega) (by omega), g _ (by omega) (by omega)]
  exact (e1 q hq k hk).2 hk2
theorem zIsM_b {b : Nat} (h : zIsM b) : 261 ≤ b ∧ b + 16 ≤ 455 ∧ ¬ (b ≤ 293 ∧ 293 < b + 16) := by
  rcases h with rfl | rfl | ⟨i, hi, rfl⟩ <;> omega
/-! single looks: the model's and the class's -/
section ZLOOK
variable {ln : Nat → Nat} {σ : zS}
end ZLOOK
section ZW
variable {S : zSp} {σ : zS} {N p p' s m : Nat} {h : Nat → Nat → Int32}
end ZW
theorem vp01 : vp_in (0 : Int32) 1 := nin (by decide) (by decide)
theorem gl_o (σ : zS) (v : Int64) (k : Int32) : gl (si (sl σ 463 0 v) 455 0 k) 463 0 = v := by
  show gl (sl σ 463 0 v) 463 0 = v
  rw [gl_sl, if_pos rfl, if_pos rfl]
theorem gi_t (σ : zS) (k : Int32) : gi (si σ 455 0 k) 455 0 = k := by
  rw [gi_si, if_pos rfl, if_pos rfl]
/-! from 80.looks -/
/-! CALLS: looks -/
theorem c_out {ln : Nat → Nat} {σ : zS} (hl : ln 463 = 1) {r : Int32} {Q : Int32 → zS → Prop} (hq : Q 0 (sl σ 463 0 r.toInt64)) : ∀ x6 : Int64, x6 = r.toInt64 → vp_in (0 : Int32) (ln 463) ∧ ∀ σ8 : zS, σ8 = sl σ 463 (0 : Int32).toNatClampNeg x6 → Q 0 σ8 := by
  intro x6 e6
  rw [hl]
  refine ⟨vp01, fun σ8 e8 => ?_⟩
  subst e6 e8
  exact hq
section ZEND
variable {S : zSp} {σ : zS} {N p p' s m : Nat} {h : Nat → Nat → Int32} {K : Int32 → Int32 → zS → Prop}
end ZEND
theorem row_t (σ : zS) (v : Int32) : gi (si σ 455 0 v) 456 = gi σ 456 := si_out _ _ (by decide)
/-! from 81.throwing -/
/-! CALLS: looks that may throw -/
theorem chr_id {x : Int32} (h0 : 0 ≤ x.toInt) (h1 : x.toInt < 256) : (x.toUInt32 % 65536).toInt32 = x := by
  have e : x = nI x.toNatClampNeg := by rw [neq, nI_toInt (by rw [ncln]; omega), ncln]; omega
  rw [e]
  exact (sb_byte x.toNatClampNeg (by rw [ncln]; omega)).2.1
theorem nar_id {x : Int32} (h0 : 0 ≤ x.toInt) (h1 : x.toInt < 256) : narrow .char (.int x) = .int x := by
  have e : x = nI x.toNatClampNeg := by rw [neq, nI_toInt (by rw [ncln]; omega), ncln]; omega
  rw [e]
  exact (pk_charN (q := x.toNatClampNeg) (by rw [ncln]; omega)).1
theorem t64 (x : Int32) : x.toInt64.toInt = x.toInt := n64 x
/-- an item of a row of the class -/
theorem c_itemAt {ln : Nat → Nat} {σ : zS} {a a' cap m : Nat} {v : Int32} (g : gr σ a 0 = some a') (l : ln a' = cap) (hcap : cap < 2 ^ 31) (hm : gi σ a 1 = nI m) (hm2 : m ≤ cap) {Q : Int32 → zS → Prop} {X : String → zS → Prop} (h1 : ∀ k, k < m → v = nI k → Q (gi σ a' k) σ) (h0 : ¬ (0 ≤ v.toInt ∧ v.toInt < m) → X "java/lang/IndexOutOfBoundsException" σ) : wxX11_itemAt ln σ a v Q X := by
  unfold wxX11_itemAt wxX11_itemAt_12 wX9_size
  rw [hm]
  refine ⟨fun h => h0 (fun e => ?_), fun hn => ⟨fun h => ?_, fun h => h0 (fun e => h ?_)⟩⟩
  · rw [nlt] at h
    have : (0 : Int32).toInt = 0 := rfl
    omega
  · rw [nlt, nI_toInt (by omega)] at h
    have h2 : 0 ≤ v.toInt := by
      rw [nlt] at hn
      have : (0 : Int32).toInt = 0 := rfl
      omega
    have hc := ncl h2
    have e : v = nI v.toNatClampNeg := by rw [neq, nI_toInt (by omega)]; omega
    exact w_rget g l hcap hm hm2 e (by omega) (h1 _ (by omega) e)
  · rw [nlt, nI_toInt (by omega)]
    exact e.2
theorem l2d_i (x : Int32) : FP.l2d x.toInt64 = FP.i2d x := by
  show FP.Core.l2d x.toInt64 = FP.Core.i2d x
  unfold FP.Core.l2d FP.Core.i2d
  rw [n64]
/-- no quotient of two ints is a NaN, but by 0 -/
def zNaN : Prop := ∀ x y : Int32, ¬ y = 0 → vf_n64 (FP.ddiv (FP.i2d x) (FP.i2d y))
/-! from 82.lines -/
/-! CALLS: lines -/
/-- there is that line -/
def zLok (r : Nat → Int32) (v w : Int32) : Prop := ∃ q k : Nat, (v = 0 ∧ q = 0 ∨ v = 1 ∧ q = 1) ∧ w = nI k ∧ k < 12 ∧ (k : Int) < (r (25 + q)).toInt
theorem w_line_no {ln : Nat → Nat} {σ : zS} {a : Nat} {v : Int32} (h : v.toInt < 0 ∨ (gi σ a 2).toInt ≤ v.toInt) {Q : Option Nat → zS → Prop} (hq : Q none σ) : wX0_line ln σ a v Q := by
  have t0 : (0 : Int32).toInt = 0 := rfl
  refine ⟨fun _ => hq, fun h1 => ⟨fun _ => hq, fun h2 => ?_⟩⟩
  rw [nlt] at h1
  rw [nle] at h2
  omega
theorem zMf_Lk {σ σ' : zS} (h : zMf σ σ') (e : gi σ' 456 = gi σ 456) : zLk σ σ' := ⟨h.r, fun a ha => by
  by_cases e1 : a = 456
  · rw [e1]; exact e
  · exact h.2.1 a e1 (by omega) (by omega), fun a _ => by rw [h.l], fun j hj => h.2.2 j (by omega) (by omega)⟩
section ZEND2
variable {S : zSp} {σ : zS} {N p p' s m : Nat} {h : Nat → Nat → Int32} {K : Int32 → Int32 → zS → Prop}
end ZEND2
/-! the ticks to a position -/
def pWay (x P : Int) : Int := if x % P = 0 then P else x % P
def pTk (pos ph rt P : Int) : Int := (pWay (1000 * pos - ph) P + rt - 1) / rt
theorem pWay_b {x P : Int} (hP : 0 < P) : 1 ≤ pWay x P ∧ pWay x P ≤ P := by
  have h1 := Int.emod_nonneg x (show P ≠ 0 by omega)
  have h2 := Int.emod_lt_of_pos x hP
  unfold pWay
  split <;> omega
theorem pWay_e {x P : Int} (hP : 0 < P) : (x - 1) % P + 1 = pWay x P := by
  have h1 := Int.emod_nonneg x (show P ≠ 0 by omega)
  have h2 := Int.emod_lt_of_pos x hP
  have h3 := Int.mul_ediv_add_emod x P
  unfold pWay
  by_cases h : x % P = 0
  · rw [if_pos h]
    have e : x - 1 = (P - 1) + P * (x / P - 1) := by rw [Int.mul_sub]; omega
    rw [e, Int.add_mul_emod_self_left, Int.emod_eq_of_lt (by omega) (by omega)]
    omega
  · rw [if_neg h]
    have e : x - 1 = (x % P - 1) + P * (x / P) := by omega
    rw [e, Int.add_mul_emod_self_left, Int.emod_eq_of_lt (by omega) (by omega)]
    omega
theorem pTk_b {pos ph rt P : Int} (hP : 0 < P ∧ P ≤ 28000) (hr : 10 ≤ rt ∧ rt ≤ 999) : 1 ≤ pTk pos ph rt P ∧ pTk pos ph rt P ≤ 2900 ∧ pTk pos ph rt P * rt ≤ 28998 ∧ 0 ≤ pTk pos ph rt P * rt := by
  obtain ⟨h1, h2⟩ := pWay_b (x := 1000 * pos - ph) hP.1
  unfold pTk
  generalize pWay (1000 * pos - ph) P = y at h1 h2
  have a1 : 1 ≤ (y + rt - 1) / rt := (Int.le_ediv_iff_mul_le (by omega)).mpr (by omega)
  have a2 := Int.ediv_mul_le (y + rt - 1) (show rt ≠ 0 by omega)
  have a3 : 10 * ((y + rt - 1) / rt) ≤ (y + rt - 1) / rt * rt := by
    rw [Int.mul_comm ((y + rt - 1) / rt) rt]
    exact Int.mul_le_mul_of_nonneg_right hr.1 (by omega)
  omega
theorem C_pass {ln : Nat → Nat} {σ : zS} {v0 v1 v2 v3 : Int32} (h0 : 0 ≤ v0.toInt ∧ v0.toInt < 28) (h1 : 0 ≤ v1.toInt ∧ v1.toInt < 28000) (h2 : 10 ≤ v2.toInt ∧ v2.toInt ≤ 999) (h3 : 6000 ≤ v3.toInt ∧ v3.toInt ≤ 28000) {Q : Int32 → zS → Prop} (hq : Q (iI (pTk v0.toInt v1.toInt v2.toInt v3.toInt)) σ) : wX11_ticksToPass ln σ v0 v1 v2 v3 Q := by
  have t0 : (0 : Int32).toInt = 0 := rfl
  have t1 : (1 : Int32).toInt = 1 := rfl
  have tk : (1000 : Int32).toInt = 1000 := rfl
  have e1 : (1000 * v0).toInt = 1000 * v0.toInt := by rw [nmul (by rw [tk]; omega) (by rw [tk]; omega), tk]
  have e2 : (1000 * v0 - v1).toInt = 1000 * v0.toInt - v1.toInt := by rw [nsub (by rw [e1]; omega) (by rw [e1]; omega), e1]
  have e3 : (1000 * v0 - v1 - 1).toInt = 1000 * v0.toInt - v1.toInt - 1 := by rw [nsub (by rw [e2, t1]; omega) (by rw [e2, t1]; omega), e2, t1]
  intro x1 ex1
  subst ex1
  refine wmodulo (by omega) (fun x4 ex4 => ?_)
  rw [e3] at ex4
  obtain ⟨w1, w2⟩ := pWay_b (x := 1000 * v0.toInt - v1.toInt) (P := v3.toInt) (by omega)
  have we := pWay_e (x := 1000 * v0.toInt - v1.toInt) (P := v3.toInt) (by omega)
  have m1 := mIt (v := 1000 * v0.toInt - v1.toInt - 1) (n := v3.toInt) (by omega) (by omega)
  have e4 : x4.toInt = pWay (1000 * v0.toInt - v1.toInt) v3.toInt := by rw [ex4, nadd (by rw [m1, t1]; omega) (by rw [m1, t1]; omega), m1, t1]; exact we
  obtain ⟨b1, b2, b3, b4⟩ := pTk_b (pos := v0.toInt) (ph := v1.toInt) (rt := v2.toInt) (P := v3.toInt) (by omega) h2
  have e5 : (x4 + v2).toInt = x4.toInt + v2.toInt := nadd (by omega) (by omega)
  have e6 : (x4 + v2 - 1).toInt = x4.toInt + v2.toInt - 1 := by rw [nsub (by rw [e5, t1]; omega) (by rw [e5, t1]; omega), e5, t1]
  refine ⟨fun h => absurd h (by rw [nle]; omega), fun _ => ⟨fun e => ?_, ?_⟩⟩
  · rw [e] at h2; omega
  have e7 : (x4 + v2 - 1) / v2 = iI (pTk v0.toInt v1.toInt v2.toInt v3.toInt) := by
    rw [neq, ndiv (by omega) (by omega), iIt (by omega) (by omega), e6, e4]
    rfl
  rw [e7]
  exact hq
/-- the ticks of a list of positions -/
def tkS (rt P : Int) : List Int32 → Int → Int
  | [], _ => 0
  | x :: l, ph => pTk x.toInt ph rt P + tkS rt P l ((ph + pTk x.toInt ph rt P * rt) % P)
theorem tkS_b {rt P : Int} (hP : 0 < P ∧ P ≤ 28000) (hr : 10 ≤ rt ∧ rt ≤ 999) : ∀ (l : List Int32) (ph : Int), 0 ≤ tkS rt P l ph ∧ tkS rt P l ph ≤ 2900 * l.length
  | [], _ => ⟨Int.le_refl 0, Int.le_refl 0⟩
  | x :: l, ph => by
    have h1 := pTk_b (pos := x.toInt) (ph := ph) hP hr
    have h2 := tkS_b hP hr l ((ph + pTk x.toInt ph rt P * rt) % P)
    show 0 ≤ pTk x.toInt ph rt P + tkS rt P l _ ∧ pTk x.toInt ph rt P + tkS rt P l _ ≤ 2900 * ((l.length + 1 : Nat) : Int)
    omega
theorem iI_add {a b : Int} (ha : -1000000 ≤ a ∧ a ≤ 1000000) (hb : -1000000 ≤ b ∧ b ≤ 1000000) : iI a + iI b = iI (a + b) := by
  have e1 := iIt (v := a) (by omega) (by omega)
  have e2 := iIt (v := b) (by omega) (by omega)
  rw [neq, nadd (by omega) (by omega), e1, e2, iIt (by omega) (by omega)]

/-! from 83.ticksfor -/
/-! CALLS: ticks for lines, the next pulse -/
theorem zdropc {l : List Int32} {k : Nat} {x : Int32} {t : List Int32} (h : l.drop k = x :: t) : k < l.length ∧ l.getD k 0 = x ∧ l.drop (k + 1) = t := by
  have h1 : (l.drop k)[0]? = some x := by rw [h]; rfl
  rw [List.getElem?_drop, Nat.add_zero] at h1
  refine ⟨(List.getElem?_eq_some_iff.mp h1).1, ?_, ?_⟩
  · rw [List.getD_eq_getElem?_getD, h1]; rfl
  · have : (l.drop k).drop 1 = t := by rw [h]; rfl
    rw [List.drop_drop] at this
    exact this
theorem C_send20 {ln : Nat → Nat} {σ : zS} {a c c' a2 : Nat} {pa : List Int32} {circ rt : Int32} (g1 : gr σ a 1 = some c) (g0 : gr σ c 0 = some c') (l : ln c' = 62) (hm : gi σ c 1 = nI pa.length) (hl : pa.length ≤ 62) (he : ∀ j, j < pa.length → gi σ c' j = pa.getD j 0) (hb : ∀ j, j < pa.length → 0 ≤ (pa.getD j 0).toInt ∧ (pa.getD j 0).toInt < 28) (hr : gi σ a2 1 = rt) (hrt : 10 ≤ rt.toInt ∧ rt.toInt ≤ 999) (hc : 6000 ≤ circ.toInt ∧ circ.toInt ≤ 28000) {Q : Int32 → zS → Prop} :
    ∀ (t : List Int32) (k : Nat) (ph : Int32) (acc : Int), pa.drop k = t → k ≤ pa.length → (0 ≤ ph.toInt ∧ ph.toInt < circ.toInt) → 0 ≤ acc ∧ acc ≤ 2900 * k → Q (iI (acc + tkS rt.toInt circ.toInt t ph.toInt)) σ → wX11_ticksToSend_20 ln Q (t.length + 1) a a2 circ ph (iI acc) (nI k) σ
  | [], k, ph, acc, hd, hkl, hp, ha, hq => by
    have hk : pa.length ≤ k := List.drop_eq_nil_iff.mp hd
    have e : tkS rt.toInt circ.toInt [] ph.toInt = 0 := rfl
    rw [e, Int.add_zero] at hq
    refine ⟨c, g1, ?_⟩
    unfold wX9_size
    rw [hm]
    exact ⟨fun _ => hq, fun h => absurd (nI_le hk (by omega)) h⟩
  | x :: t, k, ph, acc, hd, hkl, hp, ha, hq => by
    obtain ⟨hk, hx, hd2⟩ := zdropc hd
    have hxb := hb k hk
    rw [hx] at hxb
    obtain ⟨b1, b2, b3, b4⟩ := pTk_b (pos := x.toInt) (ph := ph.toInt) (rt := rt.toInt) (P := circ.toInt) (by omega) hrt
    have ei := iIt (v := pTk x.toInt ph.toInt rt.toInt circ.toInt) (by omega) (by omega)
    have em : (iI (pTk x.toInt ph.toInt rt.toInt circ.toInt) * rt).toInt = pTk x.toInt ph.toInt rt.toInt circ.toInt * rt.toInt := by rw [nmul (by rw [ei]; omega) (by rw [ei]; omega), ei]
    have es : (ph + iI (pTk x.toInt ph.toInt rt.toInt circ.toInt) * rt).toInt = ph.toInt + pTk x.toInt ph.toInt rt.toInt circ.toInt * rt.toInt := by rw [nadd (by rw [em]; omega) (by rw [em]; omega), em]
    refine ⟨c, g1, ?_⟩
    unfold wX9_size
    rw [hm]
    refine ⟨fun h => absurd h (nI_ge hk (by omega)), fun _ => ⟨c, g1, ?_⟩⟩
    refine w_rget g0 l (by decide) hm hl rfl hk (fun x7 e7 => ?_)
    rw [he k hk, hx]
    rw [hr] at e7
    rw [e7]
    refine C_pass hxb (by omega) hrt hc (fun x10 e10 => ?_)
    rw [hr] at e10
    subst e10
    refine wmodulo (by omega) (fun x13 e13 x14 e14 => ?_)
    subst e13 e14
    rw [es, nI_1, iI_add (by omega) (by omega)]
    have hmt := mIt (v := ph.toInt + pTk x.toInt ph.toInt rt.toInt circ.toInt * rt.toInt) (n := circ.toInt) (by omega) (by omega)
    refine C_send20 g1 g0 l hm hl he hb hr hrt hc t (k + 1) _ _ hd2 (by omega) ⟨mI_lo (by omega) (by omega), mI_hi (by omega) (by omega)⟩ (by omega) ?_
    rw [hmt]
    have e : tkS rt.toInt circ.toInt (x :: t) ph.toInt = pTk x.toInt ph.toInt rt.toInt circ.toInt + tkS rt.toInt circ.toInt t ((ph.toInt + pTk x.toInt ph.toInt rt.toInt circ.toInt * rt.toInt) % circ.toInt) := rfl
    rw [e, ← Int.add_assoc] at hq
    exact hq
/-- the ticks for a line -/
def rTf (r : Nat → Int32) (q k : Nat) : Int := tkS (r (23 + q)).toInt (1000 * (r 0).toInt) (rPath r (12 * q + k)) (r (21 + q)).toInt
theorem zW.rt {r : Nat → Int32} (h : zW r) {q : Nat} (hq : q ≤ 1) : 10 ≤ (r (23 + q)).toInt ∧ (r (23 + q)).toInt ≤ 999 := by
  rcases (show q = 0 ∨ q = 1 by omega) with rfl | rfl
  · exact h.r0
  · exact h.r1
theorem zW.ph2 {r : Nat → Int32} (h : zW r) {q : Nat} (hq : q ≤ 1) : 0 ≤ (r (21 + q)).toInt ∧ (r (21 + q)).toInt < 1000 * (r 0).toInt := by
  rcases (show q = 0 ∨ q = 1 by omega) with rfl | rfl
  · exact h.p0
  · exact h.p1
theorem rTf_b {r : Nat → Int32} (h : zW r) {q k : Nat} (hq : q ≤ 1) (hk : k < 12) : 0 ≤ rTf r q k ∧ rTf r q k ≤ 179800 := by
  have hN := h.N
  have h1 := tkS_b (rt := (r (23 + q)).toInt) (P := 1000 * (r 0).toInt) (by omega) (h.rt hq) (rPath r (12 * q + k)) (r (21 + q)).toInt
  have h2 := rPath_len h (a := 12 * q + k) (by omega)
  unfold rTf
  omega
/-- the slowest of lines -/
def slo (t : Nat → Int) : Nat → Nat → Int32 × Int → Int32 × Int
  | 0, _, s => s
  | d + 1, k, s => slo t d (k + 1) (if t k ≤ s.2 then s else (nI k, t k))
theorem iI_le {a b : Int} (ha : -1000000 ≤ a ∧ a ≤ 1000000) (hb : -1000000 ≤ b ∧ b ≤ 1000000) : iI a ≤ iI b ↔ a ≤ b := by
  rw [nle, iIt (by omega) (by omega), iIt (by omega) (by omega)]
/-! from 84.acts -/
/-! ACTIONS: what all of them do; rates, wheels, the limit -/
/-- the class has kept its state and gone on to r2 -/
def zMid (S : zSp) (σ : zS) (p m : Nat) (h : Nat → Nat → Int32) (r2 : Nat → Int32) (σ2 : zS) : Prop :=
  (∃ s1, s1 < 10 ∧ zHs σ2 p s1 (if m = 10 then 10 else m + 1) (hpush m h (gi σ 456))) ∧ zCap σ2 ∧ gr σ2 261 0 = some p ∧ KM σ2 261 r2 ∧ (∀ a j, ¬ (zIsM a ∧ j = 0) → gr σ2 a j = gr σ a j) ∧ ∀ a, ¬ (zB16 261 a ∨ zBh a) → gi σ2 a = gi σ a ∧ gl σ2 a = gl σ a
theorem zPl_cr {σ σ' : zS} {ln : Nat → Nat} {p : Nat} {r : Nat → Int32} (hp : p + 127 ≤ 261) (h : zPl σ ln p r) (eg : ∀ a j, a < 261 → gr σ' a j = gr σ a j) (g : ∀ a, a < 261 → gi σ' a = gi σ a) : zPl σ' ln p r := by
  obtain ⟨⟨a1, a2, a3, a4⟩, ⟨b1, b1'⟩, ⟨c1, c2⟩, ⟨d1, d2, d3⟩, e1⟩ := h
  unfold zPl
  rw [g p (by omega), g (p + 3) (by omega), g (p + 65) (by omega), eg p _ (by omega), eg p _ (by omega), eg (p + 3) _ (by omega), eg (p + 65) _ (by omega)]
  refine ⟨⟨a1, a2, a3, a4⟩, ⟨b1, b1'⟩, ⟨c1, c2⟩, ⟨d1, d2, d3⟩, fun q hq k hk => ⟨?_, fun hk2 => ?_⟩⟩
  · rw [eg _ _ (by omega), eg _ _ (by omega), eg _ _ (by omega)]
    exact (e1 q hq k hk).1
  · rw [g _ (by omega), g _ (by omega)]
    exact (e1 q hq k hk).2 hk2
theorem hpush_inv {m : Nat} {h : Nat → Nat → Int32} {r : Nat → Int32} {T : (Nat → Int32) → Prop} (hm : m ≤ 10) (hh : ∀ i, i < m → T (h i)) (hr : T r) : ∀ i, i < (if m = 10 then 10 else m + 1) → T (hpush m h r i) := by
  intro i hi
  show T (if m = 10 then (if i < 9 then h (i + 1) else r) else if i < m then h i else r)
  by_cases h10 : m = 10
  · rw [if_pos h10] at hi ⊢
    split
    · exact hh _ (by omega)
    · exact hr
  · rw [if_neg h10] at hi ⊢
    split
    · exact hh _ (by assumption)
    · exact hr
section ZACT
variable {S : zSp} {σ σ2 : zS} {N p p' s m : Nat} {h : Nat → Nat → Int32} {r2 : Nat → Int32}
/-- the class goes on from there -/
theorem zMid.go {r1 r2 : Nat → Int32} {σ1 σ2 : zS} (M : zMid S σ p m h r1 σ1) (F : zFr (zB16 261) σ1 σ2) (K : KM σ2 261 r2) : zMid S σ p m h r2 σ2 := by
  obtain ⟨⟨s1, hs1, hHs⟩, hcap, hgm, hKM, hgr, hgi⟩ := M
  have i : ∀ a, ¬ (261 ≤ a ∧ a < 277) → gi σ2 a = gi σ1 a ∧ gl σ2 a = gl σ1 a := fun a ha => F.2.2 a (fun x => ha ⟨x.1, by have := x.2; omega⟩)
  refine ⟨⟨s1, hs1, ?_, ?_, fun k hk => ?_⟩, fun b hb => ?_, by rw [F.1]; exact hgm, K, fun a j ha => by rw [F.1]; exact hgr a j ha, fun a ha => ?_⟩
  · rw [(i _ (by omega)).1]; exact hHs.1
  · rw [(i _ (by omega)).1]; exact hHs.2.1
  · have hb := hslot_b s1 k
    rw [F.1]
    exact ⟨(hHs.2.2 k hk).1, KM_o (hHs.2.2 k hk).2 (fun a x1 x2 => i a (by omega))⟩
  · by_cases e : b = 261
    · subst e; exact KM_cap K
    · have : 277 ≤ b := by
        rcases hb with rfl | rfl | ⟨u, hu, rfl⟩
        · exact absurd rfl e
        · omega
        · omega
      rw [(i _ (by omega)).1, (i _ (by omega)).1]
      exact hcap b hb
  · have h1 : ¬ zB16 261 a := fun x => ha (Or.inl x)
    exact ⟨(F.2.2 a h1).1.trans (hgi a ha).1, (F.2.2 a h1).2.trans (hgi a ha).2⟩
theorem zMid.i (M : zMid S σ p m h r2 σ2) {a : Nat} (h1 : a < 261 ∨ (277 ≤ a ∧ a < 293) ∨ 455 ≤ a) : gi σ2 a = gi σ a := (M.2.2.2.2.2 a (fun x => x.elim (fun y => by have := y.1; have := y.2; omega) (fun y => by have := y.1; have := y.2; omega))).1
theorem zMid.g (M : zMid S σ p m h r2 σ2) {a j : Nat} (h1 : a < 261 ∨ 455 ≤ a) : gr σ2 a j = gr σ a j := M.2.2.2.2.1 a j (fun x => by have := zIsM_b x.1; omega)
theorem zMid.km (M : zMid S σ p m h r2 σ2) : KM σ2 261 r2 := M.2.2.2.1
end ZACT
theorem zMf_i (σ : zS) (k : Nat) (v : Int32) : zMf σ (si σ 456 k v) := ⟨rfl, fun a h1 _ _ => si_out _ _ h1, fun j _ _ => by rw [si_out _ _ (by decide)]⟩
theorem KM_si {σ : zS} {b : Nat} {r : Nat → Int32} {k j : Nat} {v : Int32} (hk : k < 16) (h : RR (zf (fun k => gi σ (b + k)) k j v) (gl σ (b + 1) 6) (gl σ (b + 4) 6) r) : KM (si σ (b + k) j v) b r ∧ zFr (zB16 b) σ (si σ (b + k) j v) := by
  have e : si σ (b + k) j v = zcs σ b (zf (fun k => gi σ (b + k)) k j v) (gl σ (b + 1) 6) (gl σ (b + 4) 6) := by
    rw [← si_zcs_k σ b _ _ _ hk, zcs_self]
  rw [e]
  exact ⟨KM_zcs h, zFr_zcs σ b _ _ _⟩
theorem iae_ne : ¬ ("java/lang/IllegalArgumentException" = "java/lang/IndexOutOfBoundsException") := by decide
theorem ise_ne : ¬ ("java/lang/IllegalStateException" = "java/lang/IndexOutOfBoundsException") := by decide
theorem ise_ne2 : ¬ ("java/lang/IllegalStateException" = "java/lang/IllegalArgumentException") := by decide
/-- invariants of a row in which one number was set -/
theorem zEv_set {r : Nat → Int32} {N : Nat} (h : zEv r N) {k : Nat} {v : Int32} (hk : k = 2 ∨ (21 ≤ k ∧ k ≤ 24)) (hW : zW (zu r k v)) : zEv (zu r k v) N ∧ zkp r (zu r k v) ∧ zu r k v 5 = r 5 := by
  have e5 : zu r k v 5 = r 5 := zu_ne (by omega)
  have e1 : zu r k v 1 = r 1 := zu_ne (by omega)
  have kp : zkp r (zu r k v) := zkp_zu (fun _ _ => rfl) (nsk (by omega)) _
  have hn : nU r ≤ 600 := by
    have hu := h.1.u
    have := ncl hu.1
    unfold nU
    omega
  have ze : zTe r (zu r k v) := ⟨zu_ne (by omega), fun j hj => zu_ne (by omega), e5, e1, fun x => by rw [zu_ne (by omega)] at x; exact x⟩
  refine ⟨⟨hW, ?_, ?_, by rw [ze.B hn]; exact h.2.2.2⟩, kp, e5⟩
  · rw [e5]
    exact zx_c (fun j hj => zu_ne (by omega)) kp h.1 h.2.1
  · rw [e5, e1]
    exact ze.T hn h.2.2.1
/-! from 85.starts -/
/-! ACTIONS: runs, starts, breaks, losses, taking back -/
/-- rows in which nothing of the transit changed -/
theorem zEv_keep {r r' : Nat → Int32} {N : Nat} (h : zEv r N) (hW : zW r') (kp : zkp r r') (e : ∀ k, k = 1 ∨ (5 ≤ k ∧ k ≤ 7) ∨ (9 ≤ k ∧ k ≤ 14) ∨ k = 19 ∨ k = 27 ∨ k = 28 ∨ k = 37 ∨ k = 38 ∨ (59 ≤ k ∧ k < 99) ∨ 2963 ≤ k → r' k = r k) : zEv r' N := by
  have hn : nU r ≤ 600 := by
    have hu := h.1.u
    have := ncl hu.1
    unfold nU
    omega
  have e5 := e 5 (by omega)
  have e1 := e 1 (by omega)
  have ze : zTe r r' := ⟨e 19 (by omega), fun j hj => e _ (by omega), e5, e1, fun x => by rw [e 14 (by omega)] at x; exact x⟩
  refine ⟨hW, ?_, ?_, by rw [ze.B hn]; exact h.2.2.2⟩
  · rw [e5]
    exact zx_c (fun j hj => e j (by omega)) kp h.1 h.2.1
  · rw [e5, e1]
    exact ze.T hn h.2.2.1
theorem RRs_lose {f : Nat → Nat → Int32} {s0 s1 : Int64} {r : Nat → Int32} (h : RR f s0 s1 r) (hW : zW r) (hl : (r 20).toInt ≤ 19) (v : Int32) : RR (cAdd f 14 20 v) s0 s1 (zu (zu r (39 + (r 20).toNatClampNeg) v) 20 (r 20 + 1)) := by
  have hm := hW.l
  obtain ⟨h1, ⟨h2, h2'⟩, ⟨h3, h3'⟩, h4, h5, h6, h7, h8, h9⟩ := h
  have c0 := ncl hm.1
  have eV : f 14 1 = r 20 := h7.1
  unfold cAdd
  rw [eV]
  have hc : ¬ nI 20 ≤ r 20 := by
    rw [nle]
    have t : (nI 20).toInt = 20 := rfl
    omega
  rw [if_neg hc]
  have e1 : (r 20 + 1).toInt = (r 20).toInt + 1 := ixs (k := 1) rfl (by decide) (by omega) (by omega)
  have c1 : (r 20 + 1).toNatClampNeg = (r 20).toNatClampNeg + 1 := by rw [ncln, e1]; omega
  obtain ⟨nb, ne, nz, nm0, nm1, nt⟩ := hW.bn
  have er : ∀ k, k ≠ 20 ∧ ¬ (39 ≤ k ∧ k < 59) → zu (zu r (39 + (r 20).toNatClampNeg) v) 20 (r 20 + 1) k = r k := fun k hk => by rw [zu_ne hk.1, zu_ne (by omega)]
  have ef : ∀ k, k ≠ 14 ∧ k ≠ 15 → zf (zf f 15 (r 20).toNatClampNeg v) 14 1 (r 20 + 1) k = f k := fun k hk => by rw [zf_ne hk.1, zf_ne hk.2]
  refine ⟨RS_c h1 (ef 0 (by omega)) (fun k hk => er k (by omega)), ⟨RO_c h2 (ef 1 (by omega)) (fun k hk => er k (by omega)), RO_c h2' (ef 4 (by omega)) (fun k hk => er k (by omega))⟩, ⟨RV_c h3 (ef 2 (by omega)) (ef 3 (by omega)) (er _ (by omega)) (fun k hk => er _ (by omega)), RV_c h3' (ef 5 (by omega)) (ef 6 (by omega)) (er _ (by omega)) (fun k hk => er _ (by omega))⟩, RB_c h4 (ef 7 (by omega)) (ef 8 (by omega)) (ef 9 (by omega)) (fun k hk => er k (by omega)) (fun k hk => er _ (by omega)), RT_c h5 (ef 10 (by omega)) (ef 11 (by omega)) (er _ (by omega)) (fun k hk => er _ (by omega)), RE_c h6 (ef 12 (by omega)) (ef 13 (by omega)) (er _ (by omega)) (fun k hk => er _ (by omega)), ⟨?_, fun j hj => ?_⟩, by rw [er 37 (by omega)]; exact h8, by rw [er 38 (by omega)]; exact h9⟩
  · rw [zu_self]
    simp only [zf_ap, if_true]
  · rw [zu_self, c1] at hj
    rw [zf_ne (by decide), zf_eq, zu_ne (show 39 + j ≠ 20 by omega)]
    by_cases e : j = (r 20).toNatClampNeg
    · subst e; rw [zu_self, zu_self]
    · rw [zu_ne e, zu_ne (by omega)]
      exact h7.2 j (by omega)
theorem rClears_15 (x : Nat → Int32) (w : Int32) : zu (rClears x) 15 w = rClears (zu x 15 w) := by
  unfold rClears
  rw [zu_comm _ (show 14 ≠ 15 by decide), zu_comm _ (show 13 ≠ 15 by decide), zu_comm _ (show 12 ≠ 15 by decide), zu_comm _ (show 11 ≠ 15 by decide)]
theorem zu_idm {x : Nat → Int32} {k : Nat} {v : Int32} (h : x k = v) : zu x k v = x := by
  funext j
  by_cases e : j = k
  · subst e; rw [zu_self, h]
  · rw [zu_ne e]
theorem E_start {r : Nat → Int32} {N : Nat} (h : zEv r N) (h6 : r 6 = -1) {v : Int32} {q : Nat} (hq : v = 0 ∧ q = 0 ∨ v = 1 ∧ q = 1) (hl : (r (27 + q)).toInt < (r (25 + q)).toInt) (w : Int32) : zEv (zu (zu r 6 v) 15 w) N ∧ zkp r (zu (zu r 6 v) 15 w) := by
  have kp : zkp r (zu (zu r 6 v) 15 w) := zkp_zu (zkp_zu zkp.rf (nsk (by omega)) _) (nsk (by omega)) _
  have e : ∀ k, k ≠ 6 → k ≠ 15 → zu (zu r 6 v) 15 w k = r k := fun k h1 h2 => by rw [zu_ne h2, zu_ne h1]
  have hW : zW (zu (zu r 6 v) 15 w) := by
    refine zW_out (zW_u6 h.1 (Or.inr (hq.elim (fun x => Or.inl x.1) (fun x => Or.inr x.1))) (fun e0 => ?_) (fun e1 => ?_)) (nk (by omega)) _
    · rcases hq with ⟨_, rfl⟩ | ⟨e2, _⟩
      · exact hl
      · rw [e0] at e2; exact absurd e2 (by decide)
    · rcases hq with ⟨e2, _⟩ | ⟨_, rfl⟩
      · rw [e1] at e2; exact absurd e2 (by decide)
      · exact hl
  have e66 : zu (zu r 6 v) 15 w 6 = v := by rw [zu_ne (by decide), zu_self]
  have hn : nU r ≤ 600 := by
    have hu := h.1.u
    have := ncl hu.1
    unfold nU
    omega
  have ze : zTe r (zu (zu r 6 v) 15 w) := ⟨e 19 (by omega) (by omega), fun j hj => e _ (by omega) (by omega), e 5 (by omega) (by omega), e 1 (by omega) (by omega), fun x => by rw [e 14 (by omega) (by omega)] at x; exact x⟩
  obtain ⟨x1, x2, x3, x4, x5, x6, x7, x8, x9⟩ := h.2.1
  obtain ⟨y7, y9, y10, y11, y19⟩ := x7 h6
  refine ⟨⟨hW, ?_, ?_, by rw [ze.B hn]; exact h.2.2.2⟩, kp⟩
  · rw [e 5 (by omega) (by omega)]
    refine ⟨fun ha => ?_, by rw [e 12 (by omega) (by omega)]; exact x2, by rw [e 13 (by omega) (by omega)]; exact x3, by rw [e 14 (by omega) (by omega)]; exact x4, by rw [e 37 (by omega) (by omega)]; exact x5, by rw [e 38 (by omega) (by omega)]; exact x6, fun h6' => ?_, fun k hk2 => ?_, x9.c kp h.1⟩
    · have := (zLn_len hW ha.1).1
      have z0 : (0 : Int32).toInt = 0 := rfl
      rw [e 9 (by omega) (by omega), y9, z0]
      omega
    · rw [e66] at h6'
      rcases hq with ⟨e2, _⟩ | ⟨e2, _⟩
      · rw [e2] at h6'; exact absurd h6' (by decide)
      · rw [e2] at h6'; exact absurd h6' (by decide)
    · rw [e 11 (by omega) (by omega)] at hk2
      rw [e (59 + k) (by omega) (by omega)]
      exact x8 k hk2
  · rw [e 5 (by omega) (by omega), e 1 (by omega) (by omega)]
    exact ze.T hn h.2.2.1
/-! from 86.runs -/
/-! ACTIONS: breaks, runs, taking back -/
theorem zx_c2 {r r' : Nat → Int32} {cm : Int} (e : ∀ k, k = 6 ∨ k = 7 ∨ (9 ≤ k ∧ k ≤ 14) ∨ k = 27 ∨ k = 28 ∨ k = 37 ∨ k = 38 ∨ (59 ≤ k ∧ k < 99) → r' k = r k) (hk : zkp r r') (hW : zW r) (h6 : ¬ r 6 = -1) (h : zx r cm) : zx r' cm := by
  obtain ⟨x1, x2, x3, x4, x5, x6, x7, x8, x9⟩ := h
  have h11 := hW.b
  have hc11 := ncl h11.1
  refine ⟨fun ha => ?_, by rw [e 12 (by omega)]; exact x2, by rw [e 13 (by omega)]; exact x3, by rw [e 14 (by omega)]; exact x4, by rw [e 37 (by omega)]; exact x5, by rw [e 38 (by omega)]; exact x6, fun h6' => ?_, fun k hk2 => ?_, x9.c hk hW⟩
  · have ha' : zact r := ⟨by rw [← e 6 (by omega)]; exact ha.1, by rw [← e 7 (by omega)]; exact ha.2⟩
    have hz : zo r' = zo r := by unfold zo; rw [e 6 (by omega)]
    have hzl := zo_le (hW.h6 ha'.1)
    have hL : zLn r' = zLn r := by
      unfold zLn
      rw [hz, e (27 + zo r) (by omega)]
    rw [hL, hk.path (zLn_lt hW ha'.1) (hW.len _ (zLn_lt hW ha'.1)).2, e 9 (by omega)]
    exact x1 ha'
  · rw [e 6 (by omega)] at h6'
    exact absurd h6' h6
  · rw [e 11 (by omega)] at hk2
    rw [e (59 + k) (by omega)]
    exact x8 k hk2
theorem E_break {r : Nat → Int32} {N : Nat} (h : zEv r N) (hN : N ≤ 512) (h6 : ¬ r 6 = -1) : zEv (rSends r 3 0) (N + 1) ∧ zkp r (rSends r 3 0) := by
  have hn := h.n hN
  obtain ⟨hW, hx, hT, hB⟩ := h
  have h19 := nU_19 hW hn
  have h0 := hW.u.1
  have kp : zkp r (rSends r 3 0) := zkp_sends zkp.rf
  have e5 : rSends r 3 0 5 = r 5 := rSends_out r (by omega) (by omega)
  have e1 : rSends r 3 0 1 = r 1 := rSends_out r (by omega) (by omega)
  have e14 : rSends r 3 0 14 = r 14 := rSends_out r (by omega) (by omega)
  obtain ⟨a1, a2, a3⟩ := rSends_at (r := r) 3 0
  have hd := hW.d
  have hT5 := hW.T
  refine ⟨⟨zW_sends hW (by omega), ?_, ?_, ?_⟩, kp⟩
  · rw [e5]
    exact zx_c2 (fun k hk => rSends_out r (by omega) (by omega)) kp hW h6 hx
  · rw [e5, e1]
    unfold zTr
    rw [rSends_n h0 (by omega), e5, e1, e14]
    exact zTv_push hT (fun k hk => (a1 k hk).1) (fun k hk => (a1 k hk).2) (by rw [a2, nadd (by omega) (by omega)]) (by omega) (Int.le_refl _) (Int.le_refl _) (fun x => x) (Or.inr (Or.inr a3))
  · rw [zBr_sends h0 (by omega), if_pos rfl]
    omega
/-! from 87.trials -/
/-! TRIALS on a copy -/
def zTl (σ0 σ : zS) : Prop := (∀ a j, ¬ (a = 277 ∧ j = 0) → gr σ a j = gr σ0 a j) ∧ gd σ = gd σ0 ∧ (∀ a, ¬ (277 ≤ a ∧ a < 293) → gi σ a = gi σ0 a ∧ gl σ a = gl σ0 a) ∧ gi σ 287 0 = nI 640 ∧ gi σ 289 0 = nI 40
theorem zTl.go {σ0 σ σ' : zS} {r : Nat → Int32} (T : zTl σ0 σ) (F : zFr (zB16 277) σ σ') (K : KM σ' 277 r) : zTl σ0 σ' := by
  obtain ⟨t1, t2, t3, t4, t5⟩ := T
  obtain ⟨f1, f2, f3⟩ := F
  obtain ⟨k1, k2⟩ := KM_cap K
  refine ⟨fun a j h => by rw [f1]; exact t1 a j h, f2.trans t2, fun a h => ?_, k1, k2⟩
  have h' : ¬ zB16 277 a := fun x => h ⟨x.1, by have := x.2; omega⟩
  exact ⟨(f3 a h').1.trans (t3 a h).1, (f3 a h').2.trans (t3 a h).2⟩
/-- the misprints of n ticks -/
def tM (n : Nat) (r : Nat → Int32) : Int32 := (rN n r 33 + rN n r 34) - (r 33 + r 34)
/-- the row put back -/
def xR (r y : Nat → Int32) : Nat → Int32 := fun k => if k < 4763 then r k else y k
theorem xR_cg (r y : Nat → Int32) : zcg r (xR r y) := fun k hk => by
  show (if k < 4763 then r k else y k) = r k
  rw [if_pos hk]
section ZTRIAL
variable {S : zSp} {σ σ1 : zS} {N p p' s m : Nat} {h : Nat → Nat → Int32}
end ZTRIAL
/-- the model at a trial -/
def zMt (σ1 σ : zS) (r : Nat → Int32) : Prop := σ.2 = σ1.2 ∧ (∀ a, a ≠ 455 → a ≠ 456 → a ≠ 458 → a ≠ 460 → gi σ a = gi σ1 a) ∧ (∀ j, j ≠ 7 → j ≠ 9 → gi σ 455 j = gi σ1 455 j) ∧ zcg r (gi σ 458)
theorem zMt.r {σ1 σ : zS} {r : Nat → Int32} (M : zMt σ1 σ r) : gr σ = gr σ1 := by
  show σ.2.1 = σ1.2.1
  rw [M.1]
theorem zMt.l {σ1 σ : zS} {r : Nat → Int32} (M : zMt σ1 σ r) : gl σ = gl σ1 := by
  show σ.2.2.1 = σ1.2.2.1
  rw [M.1]
theorem zMt.go {σ1 σ σ' : zS} {r : Nat → Int32} (M : zMt σ1 σ r) (F : zMf σ σ') : zMt σ1 σ' r := ⟨F.1.trans M.1, fun a h1 h2 h3 h4 => (F.2.1 a h2 h4 h1).trans (M.2.1 a h1 h2 h3 h4), fun j h1 h2 => (F.2.2 j h1 h2).trans (M.2.2.1 j h1 h2), by rw [F.2.1 458 (by decide) (by decide) (by decide)]; exact M.2.2.2⟩
/-! from 88.bestlimit -/
/-! TRIALS: the best limit -/
def bcor (n : Nat) (r : Nat → Int32) : Nat → Nat → (Nat → Int32) → Int32 → Int32 → Int32
  | 0, _, _, b, _ => b
  | d + 1, i, x, b, w => if b = -1 ∨ tM n (zu x 2 (nI (25 * i))) < w then bcor n r d (i + 1) (xR r (rN n (zu x 2 (nI (25 * i))))) (nI (25 * i)) (tM n (zu x 2 (nI (25 * i)))) else bcor n r d (i + 1) (xR r (rN n (zu x 2 (nI (25 * i))))) b w
theorem nI_25 {i : Nat} (hi : i ≤ 21) : nI (25 * i) + 25 = nI (25 * (i + 1)) := by
  have t : (25 : Int32).toInt = 25 := rfl
  have e := nI_toInt (n := 25 * i) (by omega)
  rw [neq, nadd (by rw [e, t]; omega) (by rw [e, t]; omega), e, t, nI_toInt (by omega)]
  omega
theorem nI_500 {i : Nat} (hi : i ≤ 21) : (500 : Int32) < nI (25 * i) ↔ i = 21 := by
  have t : (500 : Int32).toInt = 500 := rfl
  rw [nlt, t, nI_toInt (by omega)]
  omega
theorem nge {a b : Int32} : ¬ a ≤ b ↔ b < a := by
  rw [nle, nlt]
  omega
theorem bc_row {r x : Nat → Int32} {N i : Nat} (h : zEv r N) (hi : i ≤ 20) (c : zcg r x) : zEv (zu x 2 (nI (25 * i))) N ∧ zkp r (zu x 2 (nI (25 * i))) ∧ zu x 2 (nI (25 * i)) 5 = r 5 := by
  have e := nI_toInt (n := 25 * i) (by omega)
  obtain ⟨h1, h2, h3⟩ := zEv_set (zEv_cg h c) (k := 2) (v := nI (25 * i)) (Or.inl rfl) (zW_u2 (zW_cg h.1 c) (by rw [e]; omega))
  exact ⟨h1, (zkp_cg c).tr h2, h3.trans (c 5 (by omega))⟩
/-! from 89.alike -/
/-! TWO ROWS that tick alike -/
def zRg (r r' : Nat → Int32) : Prop := ∀ k, k < 4763 → k ≠ 35 → k ≠ 36 → r' k = r k
def zRq (t r r' : Nat → Int32) : Prop := zRg r r' ∧ ∀ k, 33 ≤ k → k ≤ 36 → r' k = t k
section ZALIKE
variable {t r r' : Nat → Int32}
theorem zRq.k (h : zRq t r r') (k : Nat) (hk : k < 4763 ∧ k ≠ 35 ∧ k ≠ 36) : r' k = r k := h.1 k hk.1 hk.2.1 hk.2.2
theorem zRq_zu (h : zRq t r r') {k : Nat} (hk : ¬ (33 ≤ k ∧ k ≤ 36)) (v : Int32) : zRq t (zu r k v) (zu r' k v) := by
  refine ⟨fun j h1 h2 h3 => ?_, fun j h1 h2 => ?_⟩
  · by_cases e : j = k
    · subst e; rw [zu_self, zu_self]
    · rw [zu_ne e, zu_ne e]; exact h.1 j h1 h2 h3
  · rw [zu_ne (by omega)]; exact h.2 j h1 h2
theorem zRq_clears (h : zRq t r r') : zRq t (rClears r) (rClears r') := zRq_zu (zRq_zu (zRq_zu (zRq_zu h (by omega) _) (by omega) _) (by omega) _) (by omega) _
theorem zRq_begins (h : zRq t r r') : zRq t (rBegins r) (rBegins r') := zRq_zu (zRq_zu h (by omega) _) (by omega) _
theorem zRq_ends (h : zRq t r r') : zRq t (rEnds r) (rEnds r') := zRq_clears (zRq_zu (zRq_zu (zRq_zu (zRq_zu (zRq_zu h (by omega) _) (by omega) _) (by omega) _) (by omega) _) (by omega) _)
theorem zRq_put (h : zRq t r r') {b cnt : Nat} (hc : b = 99 ∧ cnt = 18 ∨ b = 2963 ∧ cnt = 19) (x y z : Int32) : zRq t (rPut r b cnt x y z) (rPut r' b cnt x y z) := by
  have e : r' cnt = r cnt := h.k cnt (by omega)
  unfold rPut
  rw [e]
  exact zRq_zu (zRq_zu (zRq_zu (zRq_zu h (by omega) _) (by omega) _) (by omega) _) (by omega) _
theorem zRq_sends (h : zRq t r r') (w v : Int32) : zRq t (rSends r w v) (rSends r' w v) := by
  unfold rSends
  rw [h.k 5 (by omega), h.k 1 (by omega)]
  exact zRq_put h (Or.inr ⟨rfl, rfl⟩) _ _ _
theorem zRq_zcut (h : zRq t r r') {b i : Nat} (hb : 36 < b) (hi : b + i + 3 ≤ 4763) : zRq t (zcut r b i) (zcut r' b i) := by
  refine ⟨fun j h1 h2 h3 => ?_, fun j h1 h2 => ?_⟩
  · unfold zcut
    by_cases e : b ≤ j ∧ j < b + i
    · rw [if_pos e, if_pos e]; exact h.k (j + 3) (by omega)
    · rw [if_neg e, if_neg e]; exact h.k j (by omega)
  · unfold zcut
    rw [if_neg (by omega)]
    exact h.2 j h1 h2
theorem zRq_notes (h : zRq t r r') (x y : Int32) : zRq t (rNotes r x y) (rNotes r' x y) := by
  unfold rNotes
  rw [h.k 18 (by omega), h.k 5 (by omega)]
  by_cases e : r 18 = 40
  · rw [if_pos e, if_pos e]
    refine zRq_put ?_ (Or.inl ⟨rfl, rfl⟩) _ _ _
    unfold rCut
    rw [h.k 18 (by omega)]
    exact zRq_zu (zRq_zcut h (by omega) (by omega)) (by omega) _
  · rw [if_neg e, if_neg e]
    exact zRq_put h (Or.inl ⟨rfl, rfl⟩) _ _ _
theorem zo_W (hW : zW r) : zo r ≤ 1 := by
  unfold zo
  rcases hW.s with e | e | e <;> rw [e] <;> decide
theorem zRq_o (h : zRq t r r') : zo r' = zo r := by
  unfold zo
  rw [h.k 6 (by omega)]
theorem zRq_done (h : zRq t r r') {o : Nat} (ho : o ≤ 1) : zRq t (rDone r o) (rDone r' o) := by
  unfold rDone
  rw [h.k (27 + o) (by omega)]
  exact zRq_zu (zRq_zu h (by omega) _) (by omega) _
theorem zRq_lineDone (h : zRq t r r') (hW : zW r) : zRq t (rLineDone r) (rLineDone r') := by
  have hz := zo_W hW
  unfold rLineDone
  rw [zRq_o h, h.k (25 + zo r) (by omega), h.k (27 + zo r) (by omega), h.k 6 (by omega)]
  by_cases e : r (25 + zo r) ≤ r (27 + zo r) + 1
  · rw [if_pos e, if_pos e]; exact zRq_notes (zRq_ends (zRq_done h hz)) _ _
  · rw [if_neg e, if_neg e]; exact zRq_begins (zRq_done h hz)
theorem zRq_lineFailed (h : zRq t r r') (hW : zW r) : zRq t (rLineFailed r) (rLineFailed r') := by
  have hz := zo_W hW
  unfold rLineFailed
  rw [zRq_o h, h.k 4 (by omega), h.k 10 (by omega), h.k (27 + zo r) (by omega)]
  by_cases e : r 4 ≤ r 10
  · rw [if_pos e, if_pos e]; exact zRq_lineDone (zRq_notes h _ _) (zW_notes hW)
  · rw [if_neg e, if_neg e]
    refine zRq_notes ?_ _ _
    unfold rAgain
    rw [h.k 10 (by omega)]
    exact zRq_begins (zRq_zu h (by omega) _)
theorem zRq_breaks (h : zRq t r r') (hW : zW r) : zRq t (rBreaks r) (rBreaks r') := by
  have hz := zo_W hW
  unfold rBreaks
  rw [zRq_o h, h.k (27 + zo r) (by omega)]
  exact zRq_notes (zRq_ends h) _ _
theorem zRq_answers (h : zRq t r r') (hW : zW r) (b : Bool) : zRq t (rAnswers r b) (rAnswers r' b) := by
  unfold rAnswers
  rw [h.k 7 (by omega)]
  by_cases e : r 7 = 0
  · rw [if_pos e, if_pos e]; exact h
  · rw [if_neg e, if_neg e]
    by_cases hb : b = true
    · rw [if_pos hb, if_pos hb]; exact zRq_lineDone h hW
    · rw [if_neg hb, if_neg hb]; exact zRq_lineFailed h hW
theorem zRq_receives (h : zRq t r r') {o : Nat} (ho : o ≤ 1) (c : Int32) : zRq t (rReceives r o c) (rReceives r' o c) := by
  unfold rReceives
  rw [h.k (29 + o) (by omega)]
  by_cases e : r (29 + o) = 1000
  · rw [if_pos e, if_pos e]; exact h
  · rw [if_neg e, if_neg e]; exact zRq_zu (zRq_zu h (by omega) _) (by omega) _
theorem zRq_recvs (h : zRq t r r') {o : Nat} (ho : o ≤ 1) : ∀ k, k ≤ 40 → zRq t (rRecvs r o k) (rRecvs r' o k)
  | 0, _ => h
  | k + 1, hk => by
    rw [rRecvs, rRecvs, h.k (59 + k) (by omega)]
    exact zRq_receives (zRq_recvs h ho k (by omega)) ho _
theorem zRq_checks (h : zRq t r r') (hW : zW r) {q : Nat} (hq : q ≤ 1) (p : Int32) : zRq t (rChecks r q p) (rChecks r' q p) := by
  have hb := hW.b
  have hcb := ncl hb.1
  unfold rChecks
  rw [h.k 12 (by omega), h.k 0 (by omega), h.k 11 (by omega)]
  generalize hc : (2 + (r 12 - r 12 / (r 0 - 2) * (r 0 - 2))) = c0
  by_cases e : p = c0
  · rw [if_pos e, if_pos e]
    exact zRq_clears (zRq_sends (zRq_receives (zRq_recvs (zRq_notes h _ _) hq _ (by omega)) hq _) _ _)
  · rw [if_neg e, if_neg e]
    exact zRq_clears (zRq_sends (zRq_notes h _ _) _ _)
theorem zRq_count (h : zRq t r r') : zRq t (rCount r) (rCount r') := by
  unfold rCount
  rw [h.k 12 (by omega)]
  exact zRq_zu h (by omega) _
theorem zRq_letter (h : zRq t r r') (p : Int32) : zRq t (rLetter r p) (rLetter r' p) := by
  unfold rLetter
  rw [h.k 11 (by omega), h.k 13 (by omega)]
  exact zRq_zu (zRq_zu h (by omega) _) (by omega) _
theorem zRq_take (h : zRq t r r') (p : Int32) : zRq t (rTake r p) (rTake r' p) := by
  unfold rTake
  rw [h.k 11 (by omega)]
  by_cases e : 2 ≤ p
  · rw [if_pos e, if_pos e]
    by_cases e2 : 40 ≤ r 11
    · rw [if_pos e2, if_pos e2]; exact zRq_count h
    · rw [if_neg e2, if_neg e2]; exact zRq_count (zRq_letter h p)
  · rw [if_neg e, if_neg e]; exact zRq_count (zRq_zu h (by omega) _)
theorem zRq_means (h : zRq t r r') (hW : zW r) {q : Nat} (hq : q ≤ 1) (p : Int32) : zRq t (rMeans r q p) (rMeans r' q p) := by
  unfold rMeans
  rw [h.k 14 (by omega), h.k 13 (by omega)]
  by_cases e : r 14 = 1
  · rw [if_pos e, if_pos e]; exact zRq_checks h hW hq p
  · rw [if_neg e, if_neg e]
    by_cases e2 : ¬ 2 ≤ p ∧ p = r 13
    · rw [if_pos e2, if_pos e2]; exact zRq_zu h (by omega) _
    · rw [if_neg e2, if_neg e2]; exact zRq_take h p
theorem rP2_out (x : Nat → Int32) {q k : Nat} (a : Int32) (hk : k ≠ 35 + q) : rP2 x q a k = x k := by
  unfold rP2
  split
  · rfl
  · rw [zu_ne hk]
theorem zRq_P2 (h : zRq t r r') {q : Nat} (hq : q ≤ 1) (a : Int32) : zRq (rP2 t q a) (rP2 r q a) (rP2 r' q a) := by
  refine ⟨fun j h1 h2 h3 => ?_, fun j h1 h2 => ?_⟩
  · rw [rP2_out _ _ (by omega), rP2_out _ _ (by omega)]; exact h.1 j h1 h2 h3
  · unfold rP2
    rw [h.2 (35 + q) (by omega) (by omega)]
    by_cases e : a ≤ t (35 + q)
    · rw [if_pos e, if_pos e]; exact h.2 j h1 h2
    · rw [if_neg e, if_neg e]
      by_cases ej : j = 35 + q
      · subst ej; rw [zu_self, zu_self]
      · rw [zu_ne ej, zu_ne ej]; exact h.2 j h1 h2
theorem zRq_P3 (h : zRq t r r') {q : Nat} (hq : q ≤ 1) (pr pos : Int32) : zRq (rP3 t q pr pos) (rP3 r q pr pos) (rP3 r' q pr pos) := by
  unfold rP3
  by_cases e : pr = pos
  · rw [if_pos e, if_pos e, if_pos e]; exact h
  · rw [if_neg e, if_neg e, if_neg e]
    have e1 := h.k (33 + q) (by omega)
    have e2 := h.2 (33 + q) (by omega) (by omega)
    refine ⟨fun j h1 h2 h3 => ?_, fun j h1 h2 => ?_⟩
    · by_cases ej : j = 33 + q
      · subst ej; rw [zu_self, zu_self, e1]
      · rw [zu_ne ej, zu_ne ej]; exact h.1 j h1 h2 h3
    · by_cases ej : j = 33 + q
      · subst ej; rw [zu_self, zu_self, e2]
      · rw [zu_ne ej, zu_ne ej]; exact h.2 j h1 h2
theorem zRq_printed (h : zRq t r r') {q : Nat} (hq : q ≤ 1) (pos : Int32) : rOff r' q = rOff r q ∧ rPos r' q = rPos r q ∧ zRq (rP3 (rP2 t q (pAbs (rOff r q))) q (rPos r q) pos) (rPrinted r q pos) (rPrinted r' q pos) := by
  have eo : rOff r' q = rOff r q := by unfold rOff rNear; rw [h.k (21 + q) (by omega)]
  have ep : rPos r' q = rPos r q := by unfold rPos rNear; rw [h.k (21 + q) (by omega), h.k 0 (by omega)]
  refine ⟨eo, ep, ?_⟩
  unfold rPrinted
  rw [eo, ep, h.k 2 (by omega)]
  refine zRq_P3 (zRq_P2 ?_ hq _) hq _ _
  have h1 : zRq t (rTurned r q (pClamp (rOff r q) (r 2))) (rTurned r' q (pClamp (rOff r q) (r 2))) := by
    unfold rTurned
    rw [h.k (21 + q) (by omega), h.k 0 (by omega)]
    exact zRq_zu h (by omega) _
  unfold rPc
  rw [h1.k (31 + q) (by omega), h1.k (37 + q) (by omega)]
  exact zRq_zu (zRq_zu h1 (by omega) _) (by omega) _
theorem zRq_prints (h : zRq t r r') (hW : zW r) {q : Nat} (hq : q = 0 ∨ q = 1) (pos : Int32) : zRq (rP3 (rP2 t q (pAbs (rOff r q))) q (rPos r q) pos) (rPrints r q pos) (rPrints r' q pos) := by
  obtain ⟨_, e2, h3⟩ := zRq_printed h (q := q) (by omega) pos
  unfold rPrints
  rw [e2, h3.k 5 (by omega)]
  exact zRq_means (zRq_zu h3 (by omega) _) (zW_out (zW_printed hW hq pos).1 (nk (by omega)) _) (by omega) _
theorem zRq_pop (h : zRq t r r') (hW : zW r) : zRq t (rPop r) (rPop r') := by
  have hu := hW.u
  have hc : (r 19 - 1).toNatClampNeg ≤ 599 := by
    have e : (r 19 - 1).toInt = (r 19).toInt - 1 := nsub (by show -2147483648 ≤ (r 19).toInt - 1; omega) (by show (r 19).toInt - 1 < 2147483648; omega)
    rw [ncln, e]
    omega
  unfold rPop
  rw [h.k 19 (by omega)]
  exact zRq_zcut (zRq_zu h (by omega) _) (by omega) (by omega)
end ZALIKE
/-- the greater offset -/
def zmx (t : Nat → Int32) : Int32 := if t 35 < t 36 then t 36 else t 35
def zTk (t t' : Nat → Int32) (far far' : Int32) (m : Nat) : Prop := (far = zmx t → far' = zmx t') ∧ ∃ e : Nat, e ≤ m ∧ t' 33 + t' 34 = t 33 + t 34 + nI e
theorem zTk.rf {t : Nat → Int32} {far : Int32} {m : Nat} : zTk t t far far m := ⟨fun e => e, 0, Nat.zero_le _, (Int32.add_zero _).symm⟩
theorem nI_plus (a b : Nat) : nI a + nI b = nI (a + b) := by
  show Int32.ofNat a + Int32.ofNat b = Int32.ofNat (a + b)
  exact (Int32.ofNat_add a b).symm
theorem zTk.tr {t t' t'' : Nat → Int32} {f f' f'' : Int32} {m m' : Nat} (h : zTk t t' f f' m) (g : zTk t' t'' f' f'' m') : zTk t t'' f f'' (m + m') := by
  obtain ⟨h1, e, he, h2⟩ := h
  obtain ⟨g1, e', he', g2⟩ := g
  exact ⟨fun x => g1 (h1 x), e + e', by omega, by rw [g2, h2, Int32.add_assoc, nI_plus]⟩
theorem zTk.mono {t t' : Nat → Int32} {f f' : Int32} {m m' : Nat} (h : zTk t t' f f' m) (hm : m ≤ m') : zTk t t' f f' m' := ⟨h.1, h.2.elim fun e he => ⟨e, Nat.le_trans he.1 hm, he.2⟩⟩
theorem zmx_P3 (t : Nat → Int32) {q : Nat} (hq : q ≤ 1) (pr pos : Int32) : zmx (rP3 t q pr pos) = zmx t := by
  have e : ∀ k, 35 ≤ k → rP3 t q pr pos k = t k := fun k hk => by
    unfold rP3
    split
    · rfl
    · rw [zu_ne (by omega)]
  unfold zmx
  rw [e 35 (by omega), e 36 (by omega)]
theorem zmx_P2 (t : Nat → Int32) {q : Nat} (hq : q = 0 ∨ q = 1) (a : Int32) : zmx (rP2 t q a) = fFar (zmx t) a := by
  unfold zmx rP2 fFar
  rcases hq with rfl | rfl
  · by_cases e : a ≤ t (35 + 0)
    · rw [if_pos e]
      rw [nle] at e
      by_cases e2 : t 35 < t 36
      · rw [if_pos e2, if_pos]
        rw [nlt] at e2
        rw [nle]
        have : (t (35 + 0)).toInt = (t 35).toInt := rfl
        omega
      · rw [if_neg e2, if_pos]
        rw [nle]
        exact e
    · rw [if_neg e]
      rw [nle] at e
      have e' : ¬ a.toInt ≤ (t 35).toInt := e
      rw [zu_self (k := 35), zu_ne (show 36 ≠ 35 + 0 by decide)]
      by_cases e2 : t 35 < t 36
      · rw [if_pos e2]
        by_cases e3 : a ≤ t 36
        · rw [if_pos e3]
          by_cases e4 : a < t 36
          · rw [if_pos e4]
          · rw [if_neg e4, neq]
            rw [nlt] at e4
            rw [nle] at e3
            omega
        · rw [if_neg e3, if_neg]
          rw [nle] at e3
          rw [nlt]
          omega
      · rw [if_neg e2, if_neg (fun x => e ((nle _ _).mp x)), if_neg]
        rw [nlt] at e2 ⊢
        omega
  · by_cases e : a ≤ t (35 + 1)
    · rw [if_pos e]
      rw [nle] at e
      have e' : a.toInt ≤ (t 36).toInt := e
      by_cases e2 : t 35 < t 36
      · rw [if_pos e2, if_pos]
        rw [nle]
        exact e'
      · rw [if_neg e2, if_pos]
        rw [nlt] at e2
        rw [nle]
        omega
    · rw [if_neg e]
      rw [nle] at e
      have e' : ¬ a.toInt ≤ (t 36).toInt := e
      rw [zu_self (k := 36), zu_ne (show 35 ≠ 35 + 1 by decide)]
      by_cases e2 : t 35 < t 36
      · rw [if_pos e2, if_neg (fun x => e ((nle _ _).mp x)), if_pos]
        rw [nlt] at e2 ⊢
        omega
      · rw [if_neg e2]
        by_cases e3 : a ≤ t 35
        · rw [if_pos e3, if_neg]
          rw [nle] at e3
          rw [nlt]
          omega
        · rw [if_neg e3, if_pos]
          rw [nle] at e3
          rw [nlt]
          omega
theorem zTk_print (t : Nat → Int32) {q : Nat} (hq : q = 0 ∨ q = 1) (far a pr pos : Int32) : zTk t (rP3 (rP2 t q a) q pr pos) far (fFar far a) 1 := by
  refine ⟨fun e => by rw [zmx_P3 _ (by omega), zmx_P2 _ hq, e], ?_⟩
  have o : ∀ k, k < 35 → rP2 t q a k = t k := fun k hk => rP2_out t a (by omega)
  unfold rP3
  by_cases e : pr = pos
  · rw [if_pos e, o 33 (by omega), o 34 (by omega)]
    exact ⟨0, by omega, (Int32.add_zero _).symm⟩
  · rw [if_neg e]
    refine ⟨1, Nat.le_refl _, ?_⟩
    rcases hq with rfl | rfl
    · rw [zu_self (k := 33), zu_ne (show 34 ≠ 33 + 0 by decide), o 34 (by omega), show rP2 t 0 a (33 + 0) = t 33 from o 33 (by omega)]
      show t 33 + 1 + t 34 = t 33 + t 34 + 1
      rw [Int32.add_assoc, Int32.add_comm 1 (t 34), ← Int32.add_assoc]
    · rw [zu_self (k := 34), zu_ne (show 33 ≠ 33 + 1 by decide), o 33 (by omega), show rP2 t 1 a (33 + 1) = t 34 from o 34 (by omega)]
      show t 33 + (t 34 + 1) = t 33 + t 34 + 1
      rw [← Int32.add_assoc]

/-! from 90.alike2 -/
/-! TWO ROWS that tick alike: whole ticks -/
section ZALIKE2
variable {t r r' : Nat → Int32}
theorem zRq_entry (h : zRq t r r') (hW : zW r) (h6 : r 6 = 0 ∨ r 6 = 1) (w v far : Int32) : ∃ t', zRq t' (rEntry r w v) (rEntry r' w v) ∧ zTk t t' far (fEntry r far w) 1 := by
  have hz : zq r = 0 ∨ zq r = 1 := by
    unfold zq
    rcases h6 with e | e
    · rw [e]; exact Or.inr rfl
    · rw [e]; exact Or.inl rfl
  have ez : zq r' = zq r := by
    unfold zq
    rw [h.k 6 (by omega)]
  unfold rEntry fEntry
  rw [ez]
  by_cases w0 : w = 0
  · rw [if_pos w0, if_pos w0, if_pos w0]
    exact ⟨_, zRq_prints h hW hz v, zTk_print t hz far _ _ _⟩
  · rw [if_neg w0, if_neg w0, if_neg w0]
    refine ⟨t, ?_, zTk.rf⟩
    by_cases w1 : w = 1
    · rw [if_pos w1, if_pos w1]; exact zRq_answers h hW true
    · rw [if_neg w1, if_neg w1]
      by_cases w2 : w = 2
      · rw [if_pos w2, if_pos w2]; exact zRq_answers h hW false
      · rw [if_neg w2, if_neg w2]; exact zRq_breaks h hW
theorem zRq_kp (h : zRq t r r') : zkp r r' := fun k hk => h.k k (by omega)
theorem zRq_path (h : zRq t r r') (hW : zW r) {a : Nat} (ha : a < 24) : rPath r' a = rPath r a := (zRq_kp h).path ha (hW.len _ ha).2
theorem zRq_lost (h : zRq t r r') (hW : zW r) (num : Int32) : rLost r' num = rLost r num := by
  have hl := hW.l
  have cl := ncl hl.1
  unfold rLost
  rw [h.k 20 (by omega), Bool.eq_iff_iff]
  simp only [List.any_eq_true, List.mem_range]
  exact ⟨fun ⟨k, hk, e⟩ => ⟨k, hk, by rw [h.k (39 + k) (by omega)] at e; exact e⟩, fun ⟨k, hk, e⟩ => ⟨k, hk, by rw [h.k (39 + k) (by omega)]; exact e⟩⟩
theorem zRq_snd (h : zRq t r r') (hW : zW r) (p : Int32) : zRq t (rSnd r p) (rSnd r' p) := by
  unfold rSnd
  rw [h.k 16 (by omega), zRq_lost h hW]
  by_cases e : rLost r (r 16) = true
  · rw [if_pos e, if_pos e, h.k 17 (by omega)]; exact zRq_zu h (by omega) _
  · rw [if_neg e, if_neg e]; exact zRq_sends h _ _
theorem zRq_endL (h : zRq t r r') (L : Nat) : zRq t (rEndL r L) (rEndL r' L) := by
  unfold rEndL
  rw [h.k 9 (by omega), h.k 5 (by omega), h.k 1 (by omega), h.k 3 (by omega)]
  by_cases e : r 9 = nI L
  · rw [if_pos e, if_pos e]; exact zRq_zu (zRq_zu h (by omega) _) (by omega) _
  · rw [if_neg e, if_neg e]; exact h
theorem zRq_looks (h : zRq t r r') (hW : zW r) : zRq t (rLooks r) (rLooks r') := by
  unfold rLooks
  rw [h.k 6 (by omega), h.k 7 (by omega)]
  by_cases hc : r 6 = -1 ∨ r 7 = 1
  · rw [if_pos hc, if_pos hc]; exact h
  · rw [if_neg hc, if_neg hc]
    have h6 : ¬ r 6 = -1 := fun e => hc (Or.inl e)
    have hz := zo_W hW
    have eL : zLn r' = zLn r := by unfold zLn; rw [zRq_o h, h.k (27 + zo r) (by omega)]
    have eP : rPath r' (zLn r) = rPath r (zLn r) := zRq_path h hW (zLn_lt hW h6)
    have ep : rPosn r' = rPosn r := by unfold rPosn; rw [eL, eP, h.k 9 (by omega)]
    have ef : rFar r' = rFar r := by unfold rFar; rw [zRq_o h, h.k (21 + zo r) (by omega), ep, h.k 0 (by omega)]
    rw [zRq_o h, h.k (23 + zo r) (by omega), ef, ep, eL, eP]
    by_cases e : r (23 + zo r) ≤ rFar r
    · rw [if_pos e, if_pos e]; exact h
    · rw [if_neg e, if_neg e]
      have h1 : zRq t (rCnt r) (rCnt r') := by
        unfold rCnt
        rw [h.k 16 (by omega)]
        exact zRq_zu h (by omega) _
      have h2 := zRq_snd h1 (zW_out hW (nk (by omega)) _) (rPosn r)
      unfold rNext
      rw [h2.k 9 (by omega)]
      exact zRq_endL (zRq_zu h2 (by omega) _) _
theorem zRq_T1 (h : zRq t r r') (hW : zW r) : zRq t (rT1 r) (rT1 r') := by
  unfold rT1
  rw [h.k 6 (by omega), h.k 7 (by omega), h.k 5 (by omega), h.k 8 (by omega)]
  by_cases e : r 6 = -1
  · rw [if_pos e, if_pos e]; exact h
  · rw [if_neg e, if_neg e]
    by_cases e2 : r 7 = 1
    · rw [if_pos e2, if_pos e2]
      by_cases e3 : r 5 < r 8
      · rw [if_pos e3, if_pos e3]; exact h
      · rw [if_neg e3, if_neg e3]; exact zRq_lineFailed h hW
    · rw [if_neg e2, if_neg e2]; exact h
theorem zRq_T2 (h : zRq t r r') : zRq t (rT2 r) (rT2 r') := by
  unfold rT2
  rw [h.k 6 (by omega), h.k 5 (by omega), h.k 15 (by omega), h.k 3 (by omega)]
  by_cases e : r 6 = -1
  · rw [if_pos e, if_pos e]; exact h
  · rw [if_neg e, if_neg e]
    by_cases e2 : r 5 - r 15 < r 3
    · rw [if_pos e2, if_pos e2]; exact h
    · rw [if_neg e2, if_neg e2]; exact zRq_clears h
theorem zRq_turn1 (h : zRq t r r') {q : Nat} (hq : q ≤ 1) : zRq t (rTurn1 r q) (rTurn1 r' q) := by
  unfold rTurn1
  rw [h.k (21 + q) (by omega), h.k (23 + q) (by omega), h.k 0 (by omega)]
  exact zRq_zu h (by omega) _
theorem zRq_tick0 (h : zRq t r r') : zRq t (rTick0 r) (rTick0 r') := by
  unfold rTick0
  rw [h.k 5 (by omega)]
  exact zRq_turn1 (zRq_turn1 (zRq_zu h (by omega) _) (by omega)) (by omega)
end ZALIKE2
theorem zRq_arr {N : Nat} (hN : N ≤ 512) : ∀ (j : Nat) (r r' t : Nat → Int32) (far far2 : Int32) (c : Int), (c = 0 ∨ c = 1) → zJ r N c → zRq t r r' → ∃ t', zRq t' (rArr j (r, far)).1 (rArr j (r', far2)).1 ∧ zTk t t' far (rArr j (r, far)).2 j
  | 0, r, r', t, far, far2, c, hc, hJ, h => ⟨t, h, zTk.rf⟩
  | j + 1, r, r', t, far, far2, c, hc, hJ, h => by
    have e1 : rArr (j + 1) (r, far) = if ¬ r 19 ≤ 0 ∧ r 2963 = r 5 then rArr j (rStep (r, far)) else (r, far) := rfl
    have e2 : rArr (j + 1) (r', far2) = if ¬ r 19 ≤ 0 ∧ r 2963 = r 5 then rArr j (rStep (r', far2)) else (r', far2) := by
      rw [← h.k 19 (by omega), ← h.k 2963 (by omega), ← h.k 5 (by omega)]
      rfl
    rw [e1, e2]
    by_cases hd : ¬ r 19 ≤ 0 ∧ r 2963 = r 5
    · rw [if_pos hd, if_pos hd]
      obtain ⟨c', hc', hJ', _, _, _⟩ := J_step hJ hc hN hd
      obtain ⟨hWp, e19, e6⟩ := zW_pop hJ.1 hd.1
      have h6 : r 6 = 0 ∨ r 6 = 1 := hJ.1.h6 (fun e => by
        have := (hJ.2.1.2.2.2.2.2.2.1 e).2.2.2.2
        exact hd.1 (by rw [this]; decide))
      have e3 : rStep (r', far2) = (rEntry (rPop r') (r 2964) (r 2965), fEntry (rPop r') far2 (r 2964)) := by
        rw [← h.k 2964 (by omega), ← h.k 2965 (by omega)]
        rfl
      obtain ⟨t1, q1, k1⟩ := zRq_entry (zRq_pop h hJ.1) hWp (by rw [e6]; exact h6) (r 2964) (r 2965) far
      obtain ⟨t2, q2, k2⟩ := zRq_arr hN j (rEntry (rPop r) (r 2964) (r 2965)) (rEntry (rPop r') (r 2964) (r 2965)) t1 (fEntry (rPop r) far (r 2964)) (fEntry (rPop r') far2 (r 2964)) c' hc' hJ' q1
      rw [e3]
      exact ⟨t2, q2, (k1.tr k2).mono (by omega)⟩
    · rw [if_neg hd, if_neg hd]
      exact ⟨t, h, zTk.rf⟩
theorem zRq_T {N : Nat} (hN : N ≤ 512) {t r r' : Nat → Int32} (E : zEv r N) (hT : (r 5).toInt ≤ 109999) (h : zRq t r r') (far : Int32) : ∃ t', zRq t' (rT r) (rT r') ∧ zTk t t' far (rTick (r, far)).2 601 := by
  obtain ⟨_, _, hK, h19, _, _⟩ := E_tick E hN hT far
  obtain ⟨t1, q1, k1⟩ := zRq_arr hN 601 (rTick0 r) (rTick0 r') t far far 0 (Or.inl rfl) (J_tick0 E hN hT) (zRq_tick0 h)
  refine ⟨t1, ?_, k1⟩
  rw [← rTick_1 r far, ← rTick_1 r' far]
  show zRq t1 (rT2 (rT1 (rLooks (rArr 601 (rTick0 r, far)).1))) (rT2 (rT1 (rLooks (rArr 601 (rTick0 r', far)).1)))
  exact zRq_T2 (zRq_T1 (zRq_looks q1 hK.1) (zW_looks hK.1 h19))
theorem zRq_N {N : Nat} (hN : N ≤ 512) : ∀ (n : Nat) (r r' t : Nat → Int32) (far : Int32), zEv r N → (r 5).toInt + n ≤ 110000 → zRq t r r' → ∃ t', zRq t' (rN n r) (rN n r') ∧ zTk t t' far (fN n r far) (601 * n)
  | 0, r, r', t, far, E, hT, h => ⟨t, h, zTk.rf⟩
  | n + 1, r, r', t, far, E, hT, h => by
    obtain ⟨t1, q1, k1⟩ := zRq_T hN E (by omega) h far
    obtain ⟨n1, n2, n3⟩ := E_T E hN (by omega)
    obtain ⟨t2, q2, k2⟩ := zRq_N hN n (rT r) (rT r') t1 (rTick (r, far)).2 n1 (by omega) q1
    exact ⟨t2, q2, (k1.tr k2).mono (by omega)⟩
/-- rows that agree have the same misprints -/
theorem tM_cg {r x : Nat → Int32} {N : Nat} (hN : N ≤ 512) (E : zEv r N) {n : Nat} (hT : (r 5).toInt + n ≤ 110000) (c : zcg r x) : tM n x = tM n r := by
  have h : zRq x r x := ⟨fun k h _ _ => c k h, fun _ _ _ => rfl⟩
  obtain ⟨t', q, _⟩ := zRq_N hN n r x x 0 E hT h
  unfold tM
  rw [q.k 33 (by omega), q.k 34 (by omega), c 33 (by omega), c 34 (by omega)]
theorem tM_b {r : Nat → Int32} {N : Nat} (hN : N ≤ 512) (E : zEv r N) {n : Nat} (hT : (r 5).toInt + n ≤ 110000) : ∃ e : Nat, e ≤ 601 * n ∧ tM n r = nI e := by
  have h : zRq r r r := ⟨fun k h _ _ => rfl, fun _ _ _ => rfl⟩
  obtain ⟨t', q, _, e, he, hs⟩ := zRq_N hN n r r r 0 E hT h
  refine ⟨e, he, ?_⟩
  unfold tM
  rw [q.2 33 (by omega) (by omega), q.2 34 (by omega) (by omega), hs, Int32.add_comm (r 33 + r 34), Int32.add_sub_cancel]
/-- the farthest offset, as the model and as the class keep it -/
theorem fN_zmx {y : Nat → Int32} {N : Nat} (hN : N ≤ 512) (E : zEv y N) {n : Nat} (hT : (y 5).toInt + n ≤ 110000) : fN n y 0 = zmx (rN n (zu (zu y 35 0) 36 0)) := by
  have h : zRq (zu (zu y 35 0) 36 0) y (zu (zu y 35 0) 36 0) := ⟨fun k h h1 h2 => by rw [zu_ne h2, zu_ne h1], fun _ _ _ => rfl⟩
  obtain ⟨t', q, k, _⟩ := zRq_N hN n y _ _ 0 E hT h
  have e0 : (0 : Int32) = zmx (zu (zu y 35 0) 36 0) := by
    unfold zmx
    rw [zu_self, zu_ne (show 35 ≠ 36 by decide), zu_self]
    rfl
  have e := k e0
  unfold zmx at e ⊢
  rw [q.2 35 (by omega) (by omega), q.2 36 (by omega) (by omega)]
  exact e

/-! from 91.bestrate -/
/-! TRIALS: the best rate -/
def brate (n q : Nat) (r : Nat → Int32) : Nat → Nat → (Nat → Int32) → Int32 → Int32 → Int32
  | 0, _, _, b, _ => b
  | d + 1, i, x, b, w => if b = -1 ∨ fN n (zu x (23 + q) (nI i)) 0 < w then brate n q r d (i + 1) (xR r (rN n (zu x (23 + q) (nI i)))) (nI i) (fN n (zu x (23 + q) (nI i)) 0) else brate n q r d (i + 1) (xR r (rN n (zu x (23 + q) (nI i)))) b w
theorem br_row {r x : Nat → Int32} {N i q : Nat} (h : zEv r N) (hq : q = 0 ∨ q = 1) (hi : 10 ≤ i ∧ i ≤ 999) (c : zcg r x) : zEv (zu x (23 + q) (nI i)) N ∧ zkp r (zu x (23 + q) (nI i)) ∧ zu x (23 + q) (nI i) 5 = r 5 := by
  have e := nI_toInt (n := i) (by omega)
  have hW : zW (zu x (23 + q) (nI i)) := by
    rcases hq with rfl | rfl
    · exact zW_u23 (zW_cg h.1 c) (by rw [e]; omega)
    · exact zW_u24 (zW_cg h.1 c) (by rw [e]; omega)
  obtain ⟨h1, h2, h3⟩ := zEv_set (zEv_cg h c) (k := 23 + q) (v := nI i) (by omega) hW
  exact ⟨h1, (zkp_cg c).tr h2, h3.trans (c 5 (by omega))⟩
theorem br_zero {y : Nat → Int32} {N : Nat} (h : zEv y N) : zEv (zu (zu y 35 0) 36 0) N ∧ zkp y (zu (zu y 35 0) 36 0) ∧ zu (zu y 35 0) 36 0 5 = y 5 := by
  have kp : zkp y (zu (zu y 35 0) 36 0) := zkp_zu (zkp_zu zkp.rf (nsk (by omega)) _) (nsk (by omega)) _
  have e : ∀ k, k ≠ 35 → k ≠ 36 → zu (zu y 35 0) 36 0 k = y k := fun k h1 h2 => by rw [zu_ne h2, zu_ne h1]
  exact ⟨zEv_keep h (zW_out (zW_out h.1 (nk (by omega)) _) (nk (by omega)) _) kp (fun k hk => e k (by omega) (by omega)), kp, e 5 (by omega) (by omega)⟩
section ZBR
variable {S : zSp} {σ σ1 : zS} {N p p' s m : Nat} {h : Nat → Nat → Int32}
end ZBR
theorem zMf_9 (σ : zS) (v : Int32) : zMf σ (si σ 455 9 v) := ⟨rfl, fun a _ _ h1 => si_out _ _ h1, fun j _ h2 => by rw [si_at, zu_ne h2]⟩
/-! from 92.bestnudge -/
/-! TRIALS: the best nudge -/
def nEs (i : Nat) : Int32 := if i % 2 = 0 then -(nI (100 * (i / 2 + 1))) else nI (100 * (i / 2 + 1))
def nY (q : Nat) (x : Nat → Int32) (c : Int32) : Nat → Int32 := zu x (21 + q) (mI ((x (21 + q)).toInt + c.toInt) (1000 * (x 0).toInt))
def bnud (n q : Nat) (r : Nat → Int32) : Nat → Nat → (Nat → Int32) → Int32 → Int32 → Int32
  | 0, _, _, b, _ => b
  | d + 1, i, x, b, w => bnud n q r d (i + 1) (xR r (rN n (nY q x (nEs i)))) (if tM n (nY q x (nEs i)) < w then nEs i else b) (if tM n (nY q x (nEs i)) < w then tM n (nY q x (nEs i)) else w)
theorem nd_b : ∀ i, i < 10 → -500 ≤ (nEs i).toInt ∧ (nEs i).toInt ≤ 500 := by decide
theorem nd_0 : ∀ k, k < 5 → ¬ (500 : Int32) < nI (100 * (k + 1)) ∧ -(nI (100 * (k + 1))) = nEs (2 * k) ∧ nEs (2 * k) + 2 * nI (100 * (k + 1)) = nEs (2 * k + 1) ∧ nI (100 * (k + 1)) < nEs (2 * k + 1) + 2 * nI (100 * (k + 1)) ∧ ¬ nI (100 * (k + 1)) < nEs (2 * k) ∧ ¬ nI (100 * (k + 1)) < nEs (2 * k + 1) ∧ nI (100 * (k + 1)) + 100 = nI (100 * (k + 1 + 1)) ∧ -1 * nI (100 * (k + 1)) = nEs (2 * k) ∧ 1 * nI (100 * (k + 1)) = nEs (2 * k + 1) := by decide
theorem nY_row {r x : Nat → Int32} {N q : Nat} (h : zEv r N) (hq : q = 0 ∨ q = 1) {c : Int32} (hc : -500 ≤ c.toInt ∧ c.toInt ≤ 500) (cg : zcg r x) : nY q x c = zu x (21 + q) (mI ((r (21 + q)).toInt + c.toInt) (1000 * (r 0).toInt)) ∧ zEv (nY q x c) N ∧ zkp r (nY q x c) ∧ nY q x c 5 = r 5 := by
  have e : nY q x c = zu x (21 + q) (mI ((r (21 + q)).toInt + c.toInt) (1000 * (r 0).toInt)) := by
    unfold nY
    rw [cg (21 + q) (by omega), cg 0 (by omega)]
  have hN := h.1.N
  have hp := h.1.ph2 (q := q) (by omega)
  have hb : 0 ≤ (mI ((r (21 + q)).toInt + c.toInt) (1000 * (r 0).toInt)).toInt ∧ (mI ((r (21 + q)).toInt + c.toInt) (1000 * (r 0).toInt)).toInt < 1000 * (r 0).toInt := ⟨mI_lo (by omega) (by omega), mI_hi (by omega) (by omega)⟩
  have hW : zW (zu x (21 + q) (mI ((r (21 + q)).toInt + c.toInt) (1000 * (r 0).toInt))) := by
    rcases hq with rfl | rfl
    · exact zW_u21 (zW_cg h.1 cg) (by rw [cg 0 (by omega)]; exact hb)
    · exact zW_u22 (zW_cg h.1 cg) (by rw [cg 0 (by omega)]; exact hb)
  obtain ⟨h1, h2, h3⟩ := zEv_set (zEv_cg h cg) (k := 21 + q) (v := mI ((r (21 + q)).toInt + c.toInt) (1000 * (r 0).toInt)) (by omega) hW
  rw [e]
  exact ⟨rfl, h1, (zkp_cg cg).tr h2, h3.trans (cg 5 (by omega))⟩
theorem nY_0 {x : Nat → Int32} (h : zW x) {q : Nat} (hq : q ≤ 1) : nY q x 0 = x := by
  have hN := h.N
  have hp := h.ph2 hq
  unfold nY
  refine zu_idm ?_
  have z0 : (0 : Int32).toInt = 0 := rfl
  rw [neq, mIt (by omega) (by omega), z0, Int.add_zero, Int.emod_eq_of_lt hp.1 hp.2]
section ZBN
variable {S : zSp} {σ σ1 : zS} {N p p' s m : Nat} {h : Nat → Nat → Int32}
end ZBN
theorem tM_nn {r : Nat → Int32} {N : Nat} (hN : N ≤ 512) (E : zEv r N) {n : Nat} (hn : n ≤ 2000) (h5 : (r 5).toInt ≤ 100000) : 0 ≤ (tM n r).toInt := by
  obtain ⟨e, he, ee⟩ := tM_b hN E (n := n) (by omega)
  rw [ee, nI_toInt (by omega)]
  omega
theorem c_reqOffice {ln : Nat → Nat} {σ : zS} {v : Int32} {Q : zS → Prop} {X : String → zS → Prop} (h1 : v = 0 ∨ v = 1 → Q σ) (hx : ¬ (v = 0 ∨ v = 1) → X "java/lang/IndexOutOfBoundsException" σ) : wxX11_requireOffice ln σ v Q X := ⟨fun e => h1 (Or.inl e), fun e => ⟨fun e2 => h1 (Or.inr e2), fun e2 => hx (fun o => o.elim e e2)⟩⟩
/-! from 93.input -/
/-! CALLS: the input; characters of the formatted text -/
theorem n255 (w : Int32) : (w &&& 255).toInt = w.toInt % 256 := by
  have h1 : (w &&& 255).toInt = (w.toBitVec &&& 255#32).toInt := rfl
  have h2 : w.toInt = w.toBitVec.toInt := rfl
  have h3 : (w.toBitVec &&& 255#32).toNat = w.toBitVec.toNat % 256 := by
    rw [BitVec.toNat_and]
    exact Nat.and_two_pow_sub_one_eq_mod _ 8
  have h4 := w.toBitVec.isLt
  rw [h1, h2, BitVec.toInt_eq_toNat_cond, BitVec.toInt_eq_toNat_cond, h3]
  split <;> split <;> omega
theorem nb8 (w : Int32) : (w.toInt8.toInt32).toInt = if w.toInt % 256 < 128 then w.toInt % 256 else w.toInt % 256 - 256 := by
  rw [Int8.toInt_toInt32, Int32.toInt_toInt8]
  rw [Int.bmod_def]
  split <;> split <;> omega
theorem zby_w (w : Int32) : zby (w &&& 255) (vp_nar .byte w.toInt8.toInt32) := by
  have h1 := n255 w
  have h2 := nb8 w
  have h3 : (vp_nar .byte w.toInt8.toInt32).toInt = (w.toInt8.toInt32.toInt8.toInt32).toInt := rfl
  have h4 := nb8 w.toInt8.toInt32
  refine ⟨by omega, ?_⟩
  rw [h3, h4, h1, h2]
  split <;> split <;> omega
/-- bytes put at the class's input, at the model's -/
def zAc (σ σ' : zS) (n m : Nat) (f : Nat → Int32) : Prop := σ'.2 = σ.2 ∧ (∀ a, a ≠ 1 → a ≠ 2 → gi σ' a = gi σ a) ∧ gi σ' 1 1 = nI (n + m) ∧ (∀ j, j < n → gi σ' 2 j = gi σ 2 j) ∧ ∀ j, j < m → gi σ' 2 (n + j) = f j
def zAm (σ σ' : zS) (n m : Nat) (f : Nat → Int32) : Prop := σ'.2 = σ.2 ∧ (∀ a, a ≠ 455 → a ≠ 462 → gi σ' a = gi σ a) ∧ (∀ j, j ≠ 13 → gi σ' 455 j = gi σ 455 j) ∧ gi σ' 455 13 = nI (n + m) ∧ (∀ j, j < n → gi σ' 462 j = gi σ 462 j) ∧ ∀ j, j < m → gi σ' 462 (n + j) = f j
theorem zAc.s {σ σ' : zS} {n m : Nat} {f : Nat → Int32} (h : zAc σ σ' n m f) : zAc σ (si (si σ' 2 (n + m) (f m)) 1 1 (nI (n + m + 1))) n (m + 1) f := by
  obtain ⟨h1, h2, h3, h4, h5⟩ := h
  refine ⟨h1, fun a x1 x2 => by rw [si_out _ _ x1, si_out _ _ x2]; exact h2 a x1 x2, ?_, fun j hj => ?_, fun j hj => ?_⟩
  · rw [si_at, zu_self]; rfl
  · rw [si_out _ _ (by decide), si_at, zu_ne (by omega)]; exact h4 j hj
  · rw [si_out _ _ (by decide), si_at]
    by_cases e : j = m
    · subst e; rw [zu_self]
    · rw [zu_ne (by omega)]; exact h5 j (by omega)
theorem zAm.s {σ σ' : zS} {n m : Nat} {f : Nat → Int32} (h : zAm σ σ' n m f) : zAm σ (si (si σ' 462 (n + m) (f m)) 455 13 (nI (n + m + 1))) n (m + 1) f := by
  obtain ⟨h1, h2, h0, h3, h4, h5⟩ := h
  refine ⟨h1, fun a x1 x2 => by rw [si_out _ _ x1, si_out _ _ x2]; exact h2 a x1 x2, fun j hj => by rw [si_at, zu_ne hj, si_out _ _ (by decide)]; exact h0 j hj, ?_, fun j hj => ?_, fun j hj => ?_⟩
  · rw [si_at, zu_self]; rfl
  · rw [si_out _ _ (by decide), si_at, zu_ne (by omega)]; exact h4 j hj
  · rw [si_out _ _ (by decide), si_at]
    by_cases e : j = m
    · subst e; rw [zu_self]
    · rw [zu_ne (by omega)]; exact h5 j (by omega)
theorem C_ad1 {ln : Nat → Nat} {σ σ' : zS} {n m : Nat} {f : Nat → Int32} (g1 : gr σ 1 0 = some 2) (l : ln 2 = 600) (hn : n + m < 600) (h : zAc σ σ' n m f) {x : Int32} (hx : x = f m) {Q : zS → Prop} (hq : ∀ σ2, zAc σ σ2 n (m + 1) f → Q σ2) : wX9_add ln σ' 1 x Q := by
  have g1' : gr σ' 1 0 = some 2 := by
    show σ'.2.1 1 0 = _
    rw [h.1]
    exact g1
  have e : ¬ nI 600 ≤ nI (n + m) := nI_ge (by omega) (by omega)
  refine ⟨2, g1', ?_⟩
  rw [l, h.2.2.1]
  refine ⟨fun x => absurd x e, fun _ => ⟨2, g1', fun x3 e3 => ?_⟩⟩
  subst e3
  refine ⟨by rw [l]; exact vp_in_nI (by omega) (by omega), fun σ5 e5 x6 e6 σ7 e7 => ?_⟩
  rw [nI_clamp (by omega)] at e5
  subst e5
  rw [si_out _ _ (show 1 ≠ 2 by decide), h.2.2.1, nI_1] at e6
  subst e6 e7 hx
  exact hq _ h.s
theorem C_wd {ln : Nat → Nat} {σ σ' : zS} {n m : Nat} {f : Nat → Int32} (g0 : gr σ 0 0 = some 1) (g1 : gr σ 1 0 = some 2) (l : ln 2 = 600) (hn : n + m + 4 ≤ 600) (h : zAc σ σ' n m f) {w : Int32} (h0 : (w >>> ((24 : Int32) &&& 31)) &&& 255 = f m) (h1 : (w >>> ((16 : Int32) &&& 31)) &&& 255 = f (m + 1)) (h2 : (w >>> ((8 : Int32) &&& 31)) &&& 255 = f (m + 2)) (h3 : (w >>> ((0 : Int32) &&& 31)) &&& 255 = f (m + 3)) {Q : zS → Prop} (hq : ∀ σ2, zAc σ σ2 n (m + 4) f → Q σ2) : wX11_appendWord ln σ' 0 w Q := by
  have G : ∀ {τ : zS} {k : Nat}, zAc σ τ n k f → gr τ 0 0 = some 1 := fun {τ k} hτ => by
    show τ.2.1 0 0 = _
    rw [hτ.1]
    exact g0
  refine ⟨5, ?_⟩
  rw [wX11_appendWord_3]
  refine ⟨fun x => absurd x (by decide), fun _ => ⟨1, G h, fun x2 e2 => C_ad1 g1 l (by omega) h (e2.trans h0) (fun τ1 a1 x4 e4 => ?_)⟩⟩
  rw [show (24 : Int32) + (-8) = 16 by decide] at e4
  subst e4
  rw [wX11_appendWord_3]
  refine ⟨fun x => absurd x (by decide), fun _ => ⟨1, G a1, fun x2 e2 => C_ad1 g1 l (by omega) a1 (e2.trans h1) (fun τ2 a2 x4 e4 => ?_)⟩⟩
  rw [show (16 : Int32) + (-8) = 8 by decide] at e4
  subst e4
  rw [wX11_appendWord_3]
  refine ⟨fun x => absurd x (by decide), fun _ => ⟨1, G a2, fun x2 e2 => C_ad1 g1 l (by omega) a2 (e2.trans h2) (fun τ3 a3 x4 e4 => ?_)⟩⟩
  rw [show (8 : Int32) + (-8) = 0 by decide] at e4
  subst e4
  rw [wX11_appendWord_3]
  refine ⟨fun x => absurd x (by decide), fun _ => ⟨1, G a3, fun x2 e2 => C_ad1 g1 l (by omega) a3 (e2.trans h3) (fun τ4 a4 x4 e4 => ?_)⟩⟩
  rw [show (0 : Int32) + (-8) = -8 by decide] at e4
  subst e4
  rw [wX11_appendWord_3]
  exact ⟨fun _ => hq τ4 a4, fun x => absurd (by decide) x⟩
def wdB (v1 v2 v3 v4 v5 : Int32) (j : Nat) : Int32 := (if j / 4 = 0 then v1 else if j / 4 = 1 then v2 else if j / 4 = 2 then v3 else if j / 4 = 3 then v4 else v5) >>> ((if j % 4 = 0 then (24 : Int32) else if j % 4 = 1 then 16 else if j % 4 = 2 then 8 else 0) &&& 31)
/-! from 94.chars -/
/-! CALLS: characters of the formatted text -/
theorem n_low {x : Int32} (h : 0 ≤ x.toInt ∧ x.toInt < 128) : x &&& 255 = x := by
  rw [neq, n255, Int.emod_eq_of_lt h.1 (by omega)]
/-! from 97f.calls -/
/-! THE LAW: one call of each kind -/
section ZLAW
variable {L : Nat} {xs : Nat → Int32} {kb : Nat → Nat → Nat → Nat → Int32 → zSp → zS → Prop} {v5 : Int32} {S : zSp} {σ : zS} {N : Nat}
end ZLAW

/-! from 97g.law -/
/-! THE LAW: every call, one after another -/
section ZLAW2
variable {L : Nat} {xs : Nat → Int32} {kb : Nat → Nat → Nat → Nat → Int32 → zSp → zS → Prop} {v5 : Int32} {S : zSp} {σ : zS} {N : Nat}
/-- what is left to know of the doubles -/
def zCmp : Prop := ∀ a, vf_n64 a → Op.cmpValue (FP.dcmp a a) CmpOp.l = 0
end ZLAW2
theorem nI_6 (k : Nat) : nI k + 6 = nI (k + 6) := nI_plus k 6
