/-! NUMBERS: ints by their value -/
theorem nlt (a b : Int32) : a < b ↔ a.toInt < b.toInt := Int32.lt_iff_toInt_lt
theorem nle (a b : Int32) : a ≤ b ↔ a.toInt ≤ b.toInt := Int32.le_iff_toInt_le
theorem neq (a b : Int32) : a = b ↔ a.toInt = b.toInt := Int32.toInt_inj.symm
theorem nrange (a : Int32) : -2147483648 ≤ a.toInt ∧ a.toInt < 2147483648 := ⟨Int32.le_toInt a, Int32.toInt_lt a⟩
theorem nbm {x : Int} (h1 : -2147483648 ≤ x) (h2 : x < 2147483648) : x.bmod (2 ^ 32) = x := by
  rw [Int.bmod_def]
  split <;> omega
theorem nadd {a b : Int32} (h1 : -2147483648 ≤ a.toInt + b.toInt) (h2 : a.toInt + b.toInt < 2147483648) : (a + b).toInt = a.toInt + b.toInt := by
  rw [Int32.toInt_add]; exact nbm h1 h2
theorem nsub {a b : Int32} (h1 : -2147483648 ≤ a.toInt - b.toInt) (h2 : a.toInt - b.toInt < 2147483648) : (a - b).toInt = a.toInt - b.toInt := by
  rw [Int32.toInt_sub]; exact nbm h1 h2
theorem nmul {a b : Int32} (h1 : -2147483648 ≤ a.toInt * b.toInt) (h2 : a.toInt * b.toInt < 2147483648) : (a * b).toInt = a.toInt * b.toInt := by
  rw [Int32.toInt_mul]; exact nbm h1 h2
theorem nneg {a : Int32} (h : -2147483648 < a.toInt) : (-a).toInt = -a.toInt := by
  have := nrange a
  rw [Int32.toInt_neg]; exact nbm (by omega) (by omega)
theorem ndiv {a b : Int32} (ha : 0 ≤ a.toInt) (hb : 0 < b.toInt) : (a / b).toInt = a.toInt / b.toInt := by
  have h1 := nrange a
  have h3 := nrange b
  rw [Int32.toInt_div]
  rw [Int.tdiv_eq_ediv_of_nonneg ha]
  have h2 : a.toInt / b.toInt ≤ a.toInt := Int.ediv_le_self _ ha
  have h4 : 0 ≤ a.toInt / b.toInt := Int.ediv_nonneg ha (by omega)
  exact nbm (by omega) (by omega)
/-- Java's remainder of a number that isn't negative -/
theorem nrem {a b : Int32} (ha : 0 ≤ a.toInt) (hb : 0 < b.toInt) : (a - a / b * b).toInt = a.toInt % b.toInt := by
  have h1 := nrange a
  have h2 := ndiv ha hb
  have h3 : 0 ≤ a.toInt % b.toInt := Int.emod_nonneg _ (by omega)
  have h5 : a.toInt % b.toInt < b.toInt := Int.emod_lt_of_pos _ hb
  have h4 := Int.mul_ediv_add_emod a.toInt b.toInt
  have h8 : 0 ≤ b.toInt * (a.toInt / b.toInt) := Int.mul_nonneg (by omega) (Int.ediv_nonneg ha (by omega))
  have h6 : (a / b * b).toInt = a.toInt / b.toInt * b.toInt := by
    rw [nmul (by rw [h2, Int.mul_comm]; omega) (by rw [h2, Int.mul_comm]; omega), h2]
  have h7 : a.toInt / b.toInt * b.toInt = b.toInt * (a.toInt / b.toInt) := Int.mul_comm _ _
  rw [nsub (by rw [h6]; omega) (by rw [h6]; omega), h6]
  omega
theorem ncl {a : Int32} (h : 0 ≤ a.toInt) : (a.toNatClampNeg : Int) = a.toInt := by
  show ((a.toInt.toNat : Nat) : Int) = _
  omega
theorem ncln (a : Int32) : a.toNatClampNeg = a.toInt.toNat := rfl
theorem nin {a : Int32} {n : Nat} (h : 0 ≤ a.toInt) (h2 : a.toInt < n) : vp_in a n := by
  intro q
  rcases q with q | q
  · rw [nlt] at q
    have : (0 : Int32).toInt = 0 := rfl
    omega
  · have := ncl h
    omega
/-- the number that an Int in the range of ints is -/
def iI (v : Int) : Int32 := Int32.ofInt v
theorem iIt {v : Int} (h1 : -2147483648 ≤ v) (h2 : v < 2147483648) : (iI v).toInt = v := by
  unfold iI
  rw [Int32.toInt_ofInt]
  exact nbm h1 h2
theorem iIo (a : Int32) : iI a.toInt = a := by
  have h := nrange a
  exact Int32.toInt_inj.mp (iIt h.1 h.2)
/-- the place on the round -/
def mI (v n : Int) : Int32 := iI (v % n)
theorem mIt {v n : Int} (h0 : 0 < n) (h1 : n < 2147483648) : (mI v n).toInt = v % n := by
  have h2 := Int.emod_nonneg v (show n ≠ 0 by omega)
  have h3 := Int.emod_lt_of_pos v h0
  exact iIt (by omega) (by omega)
theorem mI_lo {v n : Int} (h0 : 0 < n) (h1 : n < 2147483648) : 0 ≤ (mI v n).toInt := by
  rw [mIt h0 h1]; exact Int.emod_nonneg v (by omega)
theorem mI_hi {v n : Int} (h0 : 0 < n) (h1 : n < 2147483648) : (mI v n).toInt < n := by
  rw [mIt h0 h1]; exact Int.emod_lt_of_pos v h0
theorem ntd (a b : Int) (hb : 0 < b) : (a - a.tdiv b * b = a % b ∨ a - a.tdiv b * b = a % b - b) ∧ (0 ≤ a → a - a.tdiv b * b = a % b) ∧ (a % b = 0 → a - a.tdiv b * b = 0) ∧ (a < 0 → a % b ≠ 0 → a - a.tdiv b * b = a % b - b) := by
  have e : a - a.tdiv b * b = a.tmod b := by
    have := Int.mul_tdiv_add_tmod a b
    rw [Int.mul_comm] at this
    omega
  rw [e]
  have h3 := Int.emod_nonneg a (show b ≠ 0 by omega)
  have h4 := Int.emod_lt_of_pos a hb
  by_cases ha : 0 ≤ a
  · rw [Int.tmod_eq_emod_of_nonneg ha]
    omega
  · have h5 := @Int.tmod_eq_emod a b
    by_cases hd : b ∣ a
    · have h6 : a % b = 0 := Int.emod_eq_zero_of_dvd hd
      rw [h5, if_pos (Or.inr hd)]
      omega
    · have h6 : a % b ≠ 0 := fun h => hd (Int.dvd_of_emod_eq_zero h)
      rw [h5, if_neg (by omega)]
      have : (b.natAbs : Int) = b := by omega
      omega
theorem nxor (a b : Int32) : (a ^^^ b).toInt < 0 ↔ ¬ (a.toInt < 0 ↔ b.toInt < 0) := by
  have h1 := BitVec.msb_eq_toInt (x := (a ^^^ b).toBitVec)
  have h2 := BitVec.msb_eq_toInt (x := a.toBitVec)
  have h3 := BitVec.msb_eq_toInt (x := b.toBitVec)
  rw [Int32.toBitVec_xor, BitVec.msb_xor, h2, h3] at h1
  show (a ^^^ b).toBitVec.toInt < 0 ↔ ¬ (a.toBitVec.toInt < 0 ↔ b.toBitVec.toInt < 0)
  rw [Int32.toBitVec_xor]
  generalize (a.toBitVec ^^^ b.toBitVec).toInt = z at h1 ⊢
  generalize a.toBitVec.toInt = x at h1 ⊢
  generalize b.toBitVec.toInt = y at h1 ⊢
  by_cases hx : x < 0 <;> by_cases hy : y < 0 <;> by_cases hz : z < 0 <;> simp [hx, hy, hz] at h1 ⊢
theorem wmodulo {ln : Nat → Nat} {σ : zS} {v b : Int32} {Q : Int32 → zS → Prop} (hb : 0 < b.toInt) (hq : Q (mI v.toInt b.toInt) σ) : wX11_modulo ln σ v b Q := by
  have h0 : (0 : Int32).toInt = 0 := rfl
  refine ⟨fun h => absurd h (by rw [nle]; omega), fun _ => ⟨fun h => ?_, fun x e => ?_⟩⟩
  · rw [neq] at h; omega
  · have hv := nrange v
    have hbr := nrange b
    have t := ntd v.toInt b.toInt hb
    have h3 := Int.emod_nonneg v.toInt (show b.toInt ≠ 0 by omega)
    have h4 := Int.emod_lt_of_pos v.toInt hb
    have hd : (v / b).toInt = v.toInt.tdiv b.toInt := by
      rw [Int32.toInt_div]
      refine nbm ?_ ?_
      · by_cases h : 0 ≤ v.toInt
        · have := Int.tdiv_nonneg h (show 0 ≤ b.toInt by omega); omega
        · have h8 := Int.neg_tdiv (a := v.toInt) (b := b.toInt)
          have h9 : (-v.toInt).tdiv b.toInt ≤ -v.toInt := by
            rw [Int.tdiv_eq_ediv_of_nonneg (by omega)]
            exact Int.ediv_le_self _ (by omega)
          omega
      · by_cases h : 0 ≤ v.toInt
        · rw [Int.tdiv_eq_ediv_of_nonneg h]
          have := Int.ediv_le_self (b := b.toInt) h
          omega
        · have h8 := Int.neg_tdiv (a := v.toInt) (b := b.toInt)
          have h9 : 0 ≤ (-v.toInt).tdiv b.toInt := Int.tdiv_nonneg (by omega) (by omega)
          omega
    have hm : (v / b * b).toInt = v.toInt.tdiv b.toInt * b.toInt := by
      rw [nmul (by rw [hd]; omega) (by rw [hd]; omega), hd]
    have hx : x.toInt = v.toInt - v.toInt.tdiv b.toInt * b.toInt := by
      rw [e, nsub (by rw [hm]; omega) (by rw [hm]; omega), hm]
    have hX : 0 ≤ v ^^^ b ↔ 0 ≤ v.toInt := by
      have h8 := nxor v b
      rw [nle]
      omega
    have e1 : 0 ≤ v.toInt → x = mI v.toInt b.toInt := fun h => by
      rw [neq, hx, mIt hb (by omega)]
      exact t.2.1 h
    have e2 : ¬ 0 ≤ v.toInt → x = 0 → x = mI v.toInt b.toInt := fun h hz => by
      rw [neq, h0, hx] at hz
      rw [neq, mIt hb (by omega), hx]
      by_cases h9 : v.toInt % b.toInt = 0
      · omega
      · have := t.2.2.2 (by omega) h9
        omega
    have e3 : ¬ 0 ≤ v.toInt → ¬ x = 0 → x + b = mI v.toInt b.toInt := fun h hz => by
      rw [neq, h0, hx] at hz
      have h9 : v.toInt % b.toInt ≠ 0 := fun h9 => hz (t.2.2.1 h9)
      have := t.2.2.2 (by omega) h9
      rw [neq, mIt hb (by omega), nadd (by omega) (by omega), hx]
      omega
    exact ⟨fun h => by rw [e1 (hX.mp h)]; exact hq, fun h => ⟨fun hz => by rw [e2 (fun h9 => h (hX.mpr h9)) hz]; exact hq, fun hz => by rw [e3 (fun h9 => h (hX.mpr h9)) hz]; exact hq⟩⟩
