/-! THE LAW'S NUMBERS out of its script -/
def cl (L : Nat) (xs : Nat → Int32) (k : Nat) : Int32 := if k < L then xs k else 0
theorem l_cell {ln : Nat → Nat} {σ : zS} {L : Nat} {xs : Nat → Int32} (hL : L ≤ 260) {k : Nat} (hk : k < 1000) {v : Int32} (hv : v = nI k) {Q : Int32 → zS → Prop} (hq : Q (cl L xs k) σ) : wL_cell ln σ L xs v Q := by
  subst hv
  refine ⟨fun h => ?_, fun h => ⟨vp_in_nI ?_ (by omega), ?_⟩⟩
  · rw [nle, nI_toInt (by omega), nI_toInt (by omega)] at h
    rw [cl, if_neg (by omega)] at hq
    exact hq
  · rw [nle, nI_toInt (by omega), nI_toInt (by omega)] at h
    omega
  · rw [nle, nI_toInt (by omega), nI_toInt (by omega)] at h
    rw [cl, if_pos (by omega)] at hq
    rw [nI_clamp (by omega)]
    exact hq
/-- a number without its sign -/
def pm (v : Int32) : Nat := (v &&& 2147483647).toInt.toNat
theorem pm_e (v : Int32) : v &&& 2147483647 = nI (pm v) ∧ pm v < 2147483648 := by
  have h1 : (v &&& 2147483647).toInt = (v.toBitVec &&& 2147483647#32).toInt := rfl
  have h3 : (v.toBitVec &&& 2147483647#32).toNat = v.toBitVec.toNat % 2147483648 := by
    rw [BitVec.toNat_and]
    exact Nat.and_two_pow_sub_one_eq_mod _ 31
  have h4 : 0 ≤ (v &&& 2147483647).toInt ∧ (v &&& 2147483647).toInt < 2147483648 := by
    rw [h1, BitVec.toInt_eq_toNat_cond, h3]
    split <;> omega
  unfold pm
  refine ⟨?_, by omega⟩
  rw [neq, nI_toInt (by omega)]
  omega
def pt (v : Int32) (n : Nat) : Nat := pm v % n
theorem nI_md {a n : Nat} (ha : a < 2147483648) (hn : 0 < n) (hn2 : n < 2147483648) : nI a - nI a / nI n * nI n = nI (a % n) := by
  have h1 := nI_toInt (n := a) (by omega)
  have h2 := nI_toInt (n := n) (by omega)
  have h3 : a % n ≤ a := Nat.mod_le a n
  rw [neq, nrem (by rw [h1]; omega) (by rw [h2]; omega), h1, h2, nI_toInt (by omega)]
  rfl
theorem l_part {ln : Nat → Nat} {σ : zS} {v w : Int32} {n : Nat} (hw : w = nI n) (hn : 0 < n) (hn2 : n < 2147483648) {Q : Int32 → zS → Prop} (hq : Q (nI (pt v n)) σ) : wL_part ln σ v w Q := by
  subst hw
  intro x1 e1
  rw [(pm_e v).1] at e1
  subst e1
  refine ⟨fun h => ?_, ?_⟩
  · have := congrArg Int32.toInt h
    rw [nI_toInt (by omega)] at this
    have z0 : (0 : Int32).toInt = 0 := rfl
    omega
  · rw [nI_md (pm_e v).2 hn hn2]
    exact hq
theorem pt_lt (v : Int32) {n : Nat} (hn : 0 < n) : pt v n < n := Nat.mod_lt _ hn
theorem nI_pl {a b : Nat} : nI a + nI b = nI (a + b) := nI_plus a b
theorem nI_ml {a b : Nat} (h : a * b < 2147483648) (ha : a < 2147483648) (hb : b < 2147483648) : nI a * nI b = nI (a * b) := by
  have h1 := nI_toInt (n := a) (by omega)
  have h2 := nI_toInt (n := b) (by omega)
  have e : ((a * b : Nat) : Int) = (a : Int) * b := by omega
  rw [neq, nmul (by rw [h1, h2]; omega) (by rw [h1, h2]; omega), h1, h2, nI_toInt (by omega), e]
/-- positions, rate, phase, delay, correction, lines; office 1's rate -/
def qP (L : Nat) (xs : Nat → Int32) : Nat := 6 + pt (cl L xs 0) 23
def qR (L : Nat) (xs : Nat → Int32) : Nat := 60 + pt (cl L xs 1) 341
def qF (L : Nat) (xs : Nat → Int32) : Nat := pt (cl L xs 2) (1000 * qP L xs)
def qDl (L : Nat) (xs : Nat → Int32) : Nat := 1 + pt (cl L xs 3) 20
def qC (L : Nat) (xs : Nat → Int32) : Nat := pt (cl L xs 3 >>> ((5 : Int32) &&& 31)) 501
def qLn (L : Nat) (xs : Nat → Int32) : Nat := 1 + pt (cl L xs 4) 3
def qR1 (L : Nat) (xs : Nat → Int32) : Nat := 10 + pt (cl L xs 7) 990
section QN
variable {ln : Nat → Nat} {σ : zS} {L : Nat} {xs : Nat → Int32}
theorem qP_b (L : Nat) (xs : Nat → Int32) : 6 ≤ qP L xs ∧ qP L xs ≤ 28 := by have := pt_lt (cl L xs 0) (show 0 < 23 by decide); unfold qP; omega
theorem qR_b (L : Nat) (xs : Nat → Int32) : 60 ≤ qR L xs ∧ qR L xs ≤ 400 := by have := pt_lt (cl L xs 1) (show 0 < 341 by decide); unfold qR; omega
theorem qF_b (L : Nat) (xs : Nat → Int32) : qF L xs < 1000 * qP L xs := by have := qP_b L xs; exact pt_lt _ (by omega)
theorem qDl_b (L : Nat) (xs : Nat → Int32) : 1 ≤ qDl L xs ∧ qDl L xs ≤ 20 := by have := pt_lt (cl L xs 3) (show 0 < 20 by decide); unfold qDl; omega
theorem qC_b (L : Nat) (xs : Nat → Int32) : qC L xs ≤ 500 := by have := pt_lt (cl L xs 3 >>> ((5 : Int32) &&& 31)) (show 0 < 501 by decide); unfold qC; omega
theorem qLn_b (L : Nat) (xs : Nat → Int32) : 1 ≤ qLn L xs ∧ qLn L xs ≤ 3 := by have := pt_lt (cl L xs 4) (show 0 < 3 by decide); unfold qLn; omega
theorem qR1_b (L : Nat) (xs : Nat → Int32) : 10 ≤ qR1 L xs ∧ qR1 L xs ≤ 999 := by have := pt_lt (cl L xs 7) (show 0 < 990 by decide); unfold qR1; omega
theorem l_positions (hL : L ≤ 260) {Q : Int32 → zS → Prop} (hq : Q (nI (qP L xs)) σ) : wL_positions ln σ L xs Q := by
  refine l_cell hL (k := 0) (by decide) rfl (l_part (n := 23) rfl (by decide) (by decide) ?_)
  rw [show (6 : Int32) = nI 6 from rfl, nI_pl]
  exact hq
theorem l_rate (hL : L ≤ 260) {Q : Int32 → zS → Prop} (hq : Q (nI (qR L xs)) σ) : wL_rate ln σ L xs Q := by
  refine l_cell hL (k := 1) (by decide) rfl (l_part (n := 341) rfl (by decide) (by decide) ?_)
  rw [show (60 : Int32) = nI 60 from rfl, nI_pl]
  exact hq
theorem l_delay (hL : L ≤ 260) {Q : Int32 → zS → Prop} (hq : Q (nI (qDl L xs)) σ) : wL_delay ln σ L xs Q := by
  refine l_cell hL (k := 3) (by decide) rfl (l_part (n := 20) rfl (by decide) (by decide) ?_)
  rw [show (1 : Int32) = nI 1 from rfl, nI_pl]
  exact hq
theorem l_lines (hL : L ≤ 260) {Q : Int32 → zS → Prop} (hq : Q (nI (qLn L xs)) σ) : wL_lines ln σ L xs Q := by
  refine l_cell hL (k := 4) (by decide) rfl (l_part (n := 3) rfl (by decide) (by decide) ?_)
  rw [show (1 : Int32) = nI 1 from rfl, nI_pl]
  exact hq
theorem l_correct (hL : L ≤ 260) {Q : Int32 → zS → Prop} (hq : Q (nI (qC L xs)) σ) : wL_correct ln σ L xs Q := by
  refine l_cell hL (k := 3) (by decide) rfl (fun x3 e3 => l_part (n := 501) rfl (by decide) (by decide) ?_)
  subst e3
  exact hq
theorem nI_1000 (L : Nat) (xs : Nat → Int32) : (1000 : Int32) * nI (qP L xs) = nI (1000 * qP L xs) := by
  have := qP_b L xs
  rw [show (1000 : Int32) = nI 1000 from rfl]
  exact nI_ml (by omega) (by omega) (by omega)
theorem l_phase (hL : L ≤ 260) {Q : Int32 → zS → Prop} (hq : Q (nI (qF L xs)) σ) : wL_phase ln σ L xs Q := by
  have := qP_b L xs
  refine l_cell hL (k := 2) (by decide) rfl (l_positions hL (fun x5 e5 => ?_))
  rw [nI_1000] at e5
  exact l_part (n := 1000 * qP L xs) e5 (by omega) (by omega) hq
end QN
/-- a line's characters -/
def lch (P v : Nat) : Nat := if v % 3 = 0 then 48 + v % (min 10 (P - 2)) else 97 + v % (min 26 (P - 2))
def lgo (P : Nat) : Nat → Nat → Nat → List Int32
  | 0, _, _ => []
  | d + 1, i, v => nI (lch P (v / 3 + 7 * i)) :: lgo P d (i + 1) (v / 3 + 7 * i)
theorem lgo_len (P : Nat) : ∀ d i v, (lgo P d i v).length = d
  | 0, _, _ => rfl
  | d + 1, i, v => by rw [lgo, List.length_cons, lgo_len P d]
/-- line k of office 0 -/
def lnT (L : Nat) (xs : Nat → Int32) (k : Nat) : List Int32 := lgo (qP L xs) (pm (cl L xs (5 + k)) % 7) 0 (pm (cl L xs (5 + k)))
theorem lnT_len (L : Nat) (xs : Nat → Int32) (k : Nat) : (lnT L xs k).length ≤ 6 := by
  unfold lnT
  rw [lgo_len]
  omega
/-- a character that a line may hold -/
def lOk (P : Nat) (v : Int32) : Prop := ∃ w : Nat, v = nI w ∧ (48 ≤ w ∧ w < 58 ∧ w - 48 < P - 2 ∨ 97 ≤ w ∧ w < 123 ∧ w - 97 < P - 2)
theorem lch_ok {P : Nat} (hP : 6 ≤ P) (v : Nat) : lOk P (nI (lch P v)) := by
  refine ⟨_, rfl, ?_⟩
  unfold lch
  by_cases h : v % 3 = 0
  · rw [if_pos h]
    have := Nat.mod_lt v (show 0 < min 10 (P - 2) by omega)
    omega
  · rw [if_neg h]
    have := Nat.mod_lt v (show 0 < min 26 (P - 2) by omega)
    omega
theorem lgo_ok {P : Nat} (hP : 6 ≤ P) : ∀ d i v x, x ∈ lgo P d i v → lOk P x
  | 0, _, _, x, h => absurd h (List.not_mem_nil)
  | d + 1, i, v, x, h => by
    rw [lgo] at h
    rcases List.mem_cons.mp h with rfl | h
    · exact lch_ok hP _
    · exact lgo_ok hP d _ _ x h
theorem lnT_ok (L : Nat) (xs : Nat → Int32) (k : Nat) : ∀ x, x ∈ lnT L xs k → lOk (qP L xs) x := lgo_ok (qP_b L xs).1 _ _ _
theorem lOk_b {P : Nat} {v : Int32} (h : lOk P v) : 0 ≤ v.toInt ∧ v.toInt < 128 := by
  obtain ⟨w, rfl, h⟩ := h
  rw [nI_toInt (by omega)]
  omega
theorem qA_of {P : Nat} {T : List Int32} (h : ∀ x, x ∈ T → lOk P x) : qA T := fun k hk => by
  rw [List.getD_eq_getElem?_getD, List.getElem?_eq_getElem hk]
  exact lOk_b (h _ (List.getElem_mem hk))
