/-! from 40.num -/
/-! NUMBERS: ints by their value -/
theorem nlt (a b : Int32) : a < b ↔ a.toInt < b.toInt := Int32.lt_iff_toInt_lt
theorem nle (a b : Int32) : a ≤ b ↔ a.toInt ≤ b.toInt := Int32.le_iff_toInt_le
theorem neq (a b : Int32) : a = b ↔ a.toInt = b.toInt := Int32.toInt_inj.symm
theorem nrange (a : Int32) : -2147483648 ≤ a.toInt ∧ a.toInt < 2147483648 := ⟨Int32.le_toInt a, Int32.toInt_lt a⟩
theorem nbm {x : Int} (h1 : -2147483648 ≤ x) (h2 : x < 2147483648) : x.bmod (2 ^ 32) = x := by
  rw [Int.bmod_def]
  split <;> omega
theorem nadd {a b : Int32} (h1 : -2147483648 ≤ a.toInt + b.toInt) (h2 : a.toInt + b.toInt < 2147483648) : (a + b).toInt = a.toInt + b.toInt := by
  rw [Int32.toInt_add]; exact nbm h1 h2
theorem nsub {a b : Int32} (h1 : -2147483648 ≤ a.toInt - b.toInt) (h2 : a.toInt - b.toInt < 2147483648) : (a - b).toInt = a.toInt - b.toInt := by
  rw [Int32.toInt_sub]; exact nbm h1 h2
theorem nmul {a b : Int32} (h1 : -2147483648 ≤ a.toInt * b.toInt) (h2 : a.toInt * b.toInt < 2147483648) : (a * b).toInt = a.toInt * b.toInt := by
  rw [Int32.toInt_mul]; exact nbm h1 h2
theorem nneg {a : Int32} (h : -2147483648 < a.toInt) : (-a).toInt = -a.toInt := by
  have := nrange a
  rw [Int32.toInt_neg]; exact nbm (by omega) (by omega)
theorem ndiv {a b : Int32} (ha : 0 ≤ a.toInt) (hb : 0 < b.toInt) : (a / b).toInt = a.toInt / b.toInt := by
  have h1 := nrange a
  have h3 := nrange b
  rw [Int32.toInt_div]
  rw [Int.tdiv_eq_ediv_of_nonneg ha]
  have h2 : a.toInt / b.toInt ≤ a.toInt := Int.ediv_le_self _ ha
  have h4 : 0 ≤ a.toInt / b.toInt := Int.ediv_nonneg ha (by omega)
  exact nbm (by omega) (by omega)
/-- Java's remainder of a number that isn't negative -/
theorem nrem {a b : Int32} (ha : 0 ≤ a.toInt) (hb : 0 < b.toInt) : (a - a / b * b).toInt = a.toInt % b.toInt := by
  have h1 := nrange a
  have h2 := ndiv ha hb
  have h3 : 0 ≤ a.toInt % b.toInt := Int.emod_nonneg _ (by omega)
  have h5 : a.toInt % b.toInt < b.toInt := Int.emod_lt_of_pos _ hb
  have h4 := Int.mul_ediv_add_emod a.toInt b.toInt
  have h8 : 0 ≤ b.toInt * (a.toInt / b.toInt) := Int.mul_nonneg (by omega) (Int.ediv_nonneg ha (by omega))
  have h6 : (a / b * b).toInt = a.toInt / b.toInt * b.toInt := by
    rw [nmul (by rw [h2, Int.mul_comm]; omega) (by rw [h2, Int.mul_comm]; omega), h2]
  have h7 : a.toInt / b.toInt * b.toInt = b.toInt * (a.toInt / b.toInt) := Int.mul_comm _ _
  rw [nsub (by rw [h6]; omega) (by rw [h6]; omega), h6]
  omega
theorem ncl {a : Int32} (h : 0 ≤ a.toInt) : (a.toNatClampNeg : Int) = a.toInt := by
  show ((a.toInt.toNat : Nat) : Int) = _
  omega
theorem ncln (a : Int32) : a.toNatClampNeg = a.toInt.toNat := rfl
theorem nin {a : Int32} {n : Nat} (h : 0 ≤ a.toInt) (h2 : a.toInt < n) : vp_in a n := by
  intro q
  rcases q with q | q
  · rw [nlt] at q
    have : (0 : Int32).toInt = 0 := rfl
    omega
  · have := ncl h
    omega
/-- the number that an Int in the range of ints is -/
def iI (v : Int) : Int32 := Int32.ofInt v
theorem iIt {v : Int} (h1 : -2147483648 ≤ v) (h2 : v < 2147483648) : (iI v).toInt = v := by
  unfold iI
  rw [Int32.toInt_ofInt]
  exact nbm h1 h2
theorem iIo (a : Int32) : iI a.toInt = a := by
  have h := nrange a
  exact Int32.toInt_inj.mp (iIt h.1 h.2)
/-- the place on the round -/
def mI (v n : Int) : Int32 := iI (v % n)
theorem mIt {v n : Int} (h0 : 0 < n) (h1 : n < 2147483648) : (mI v n).toInt = v % n := by
  have h2 := Int.emod_nonneg v (show n ≠ 0 by omega)
  have h3 := Int.emod_lt_of_pos v h0
  exact iIt (by omega) (by omega)
theorem mI_lo {v n : Int} (h0 : 0 < n) (h1 : n < 2147483648) : 0 ≤ (mI v n).toInt := by
  rw [mIt h0 h1]; exact Int.emod_nonneg v (by omega)
theorem mI_hi {v n : Int} (h0 : 0 < n) (h1 : n < 2147483648) : (mI v n).toInt < n := by
  rw [mIt h0 h1]; exact Int.emod_lt_of_pos v h0
theorem ntd (a b : Int) (hb : 0 < b) : (a - a.tdiv b * b = a % b ∨ a - a.tdiv b * b = a % b - b) ∧ (0 ≤ a → a - a.tdiv b * b = a % b) ∧ (a % b = 0 → a - a.tdiv b * b = 0) ∧ (a < 0 → a % b ≠ 0 → a - a.tdiv b * b = a % b - b) := by
  have e : a - a.tdiv b * b = a.tmod b := by
    have := Int.mul_tdiv_add_tmod a b
    rw [Int.mul_comm] at this
    omega
  rw [e]
  have h3 := Int.emod_nonneg a (show b ≠ 0 by omega)
  have h4 := Int.emod_lt_of_pos a hb
  by_cases ha : 0 ≤ a
  · rw [Int.tmod_eq_emod_of_nonneg ha]
    omega
  · have h5 := @Int.tmod_eq_emod a b
    by_cases hd : b ∣ a
    · have h6 : a % b = 0 := Int.emod_eq_zero_of_dvd hd
      rw [h5, if_pos (Or.inr hd)]
      omega
    · have h6 : a % b ≠ 0 := fun h => hd (Int.dvd_of_emod_eq_zero h)
      rw [h5, if_neg (by omega)]
      have : (b.natAbs : Int) = b := by omega
      omega
theorem nxor (a b : Int32) : (a ^^^ b).toInt < 0 ↔ ¬ (a.toInt < 0 ↔ b.toInt < 0) := by
  have h1 := BitVec.msb_eq_toInt (x := (a ^^^ b).toBitVec)
  have h2 := BitVec.msb_eq_toInt (x := a.toBitVec)
  have h3 := BitVec.msb_eq_toInt (x := b.toBitVec)
  rw [Int32.toBitVec_xor, BitVec.msb_xor, h2, h3] at h1
  show (a ^^^ b).toBitVec.toInt < 0 ↔ ¬ (a.toBitVec.toInt < 0 ↔ b.toBitVec.toInt < 0)
  rw [Int32.toBitVec_xor]
  generalize (a.toBitVec ^^^ b.toBitVec).toInt = z at h1 ⊢
  generalize a.toBitVec.toInt = x at h1 ⊢
  generalize b.toBitVec.toInt = y at h1 ⊢
  by_cases hx : x < 0 <;> by_cases hy : y < 0 <;> by_cases hz : z < 0 <;> simp [hx, hy, hz] at h1 ⊢
theorem wmodulo {ln : Nat → Nat} {σ : zS} {v b : Int32} {Q : Int32 → zS → Prop} (hb : 0 < b.toInt) (hq : Q (mI v.toInt b.toInt) σ) : wX11_modulo ln σ v b Q := by
  have h0 : (0 : Int32).toInt = 0 := rfl
  refine ⟨fun h => absurd h (by rw [nle]; omega), fun _ => ⟨fun h => ?_, fun x e => ?_⟩⟩
  · rw [neq] at h; omega
  · have hv := nrange v
    have hbr := nrange b
    have t := ntd v.toInt b.toInt hb
    have h3 := Int.emod_nonneg v.toInt (show b.toInt ≠ 0 by omega)
    have h4 := Int.emod_lt_of_pos v.toInt hb
    have hd : (v / b).toInt = v.toInt.tdiv b.toInt := by
      rw [Int32.toInt_div]
      refine nbm ?_ ?_
      · by_cases h : 0 ≤ v.toInt
        · have := Int.tdiv_nonneg h (show 0 ≤ b.toInt by omega); omega
        · have h8 := Int.neg_tdiv (a := v.toInt) (b := b.toInt)
          have h9 : (-v.toInt).tdiv b.toInt ≤ -v.toInt := by
            rw [Int.tdiv_eq_ediv_of_nonneg (by omega)]
            exact Int.ediv_le_self _ (by omega)
          omega
      · by_cases h : 0 ≤ v.toInt
        · rw [Int.tdiv_eq_ediv_of_nonneg h]
          have := Int.ediv_le_self (b := b.toInt) h
          omega
        · have h8 := Int.neg_tdiv (a := v.toInt) (b := b.toInt)
          have h9 : 0 ≤ (-v.toInt).tdiv b.toInt := Int.tdiv_nonneg (by omega) (by omega)
          omega
    have hm : (v / b * b).toInt = v.toInt.tdiv b.toInt * b.toInt := by
      rw [nmul (by rw [hd]; omega) (by rw [hd]; omega), hd]
    have hx : x.toInt = v.toInt - v.toInt.tdiv b.toInt * b.toInt := by
      rw [e, nsub (by rw [hm]; omega) (by rw [hm]; omega), hm]
    have hX : 0 ≤ v ^^^ b ↔ 0 ≤ v.toInt := by
      have h8 := nxor v b
      rw [nle]
      omega
    have e1 : 0 ≤ v.toInt → x = mI v.toInt b.toInt := fun h => by
      rw [neq, hx, mIt hb (by omega)]
      exact t.2.1 h
    have e2 : ¬ 0 ≤ v.toInt → x = 0 → x = mI v.toInt b.toInt := fun h hz => by
      rw [neq, h0, hx] at hz
      rw [neq, mIt hb (by omega), hx]
      by_cases h9 : v.toInt % b.toInt = 0
      · omega
      · have := t.2.2.2 (by omega) h9
        omega
    have e3 : ¬ 0 ≤ v.toInt → ¬ x = 0 → x + b = mI v.toInt b.toInt := fun h hz => by
      rw [neq, h0, hx] at hz
      have h9 : v.toInt % b.toInt ≠ 0 := fun h9 => hz (t.2.2.1 h9)
      have := t.2.2.2 (by omega) h9
      rw [neq, mIt hb (by omega), nadd (by omega) (by omega), hx]
      omega
    exact ⟨fun h => by rw [e1 (hX.mp h)]; exact hq, fun h => ⟨fun hz => by rw [e2 (fun h9 => h (hX.mpr h9)) hz]; exact hq, fun hz => by rw [e3 (fun h9 => h (hX.mpr h9)) hz]; exact hq⟩⟩

/-! from 41.row -/
/-! THE MODEL'S ROW: what the model's own store is, over a base store; rows of numbers as functions -/
def zu (r : Nat → Int32) (k : Nat) (v : Int32) : Nat → Int32 := fun j => if j = k then v else r j
theorem zu_ap (r : Nat → Int32) (k : Nat) (v : Int32) (j : Nat) : zu r k v j = if j = k then v else r j := rfl
theorem zu_self (r : Nat → Int32) (k : Nat) (v : Int32) : zu r k v k = v := if_pos rfl
theorem zu_ne {r : Nat → Int32} {k : Nat} {v : Int32} {j : Nat} (h : j ≠ k) : zu r k v j = r j := if_neg h
/-- the model's store: its row, its path, how many of it count, the farthest offset -/
def zms (σ : zS) (r pf : Nat → Int32) (n far : Int32) : zS := (fun a => if a = 456 then r else if a = 460 then pf else if a = 455 then (fun j => if j = 7 then n else if j = 9 then far else σ.1 455 j) else σ.1 a, σ.2)
theorem gr_zms (σ : zS) (r pf : Nat → Int32) (n far : Int32) : gr (zms σ r pf n far) = gr σ := rfl
theorem gl_zms (σ : zS) (r pf : Nat → Int32) (n far : Int32) : gl (zms σ r pf n far) = gl σ := rfl
theorem gd_zms (σ : zS) (r pf : Nat → Int32) (n far : Int32) : gd (zms σ r pf n far) = gd σ := rfl
theorem gi_zms_q (σ : zS) (r pf : Nat → Int32) (n far : Int32) (k : Nat) : gi (zms σ r pf n far) 456 k = r k := rfl
theorem gi_zms_p (σ : zS) (r pf : Nat → Int32) (n far : Int32) (k : Nat) : gi (zms σ r pf n far) 460 k = pf k := rfl
theorem gi_zms_n (σ : zS) (r pf : Nat → Int32) (n far : Int32) : gi (zms σ r pf n far) 455 7 = n := rfl
theorem gi_zms_f (σ : zS) (r pf : Nat → Int32) (n far : Int32) : gi (zms σ r pf n far) 455 9 = far := rfl
theorem gi_zms_t (σ : zS) (r pf : Nat → Int32) (n far : Int32) : gi (zms σ r pf n far) 455 0 = gi σ 455 0 := rfl
theorem gi_zms_a (σ : zS) (r pf : Nat → Int32) (n far : Int32) {a : Nat} (h1 : a ≠ 456) (h2 : a ≠ 460) (h3 : a ≠ 455) (k : Nat) : gi (zms σ r pf n far) a k = gi σ a k := by
  show (if a = 456 then r else if a = 460 then pf else if a = 455 then (fun j => if j = 7 then n else if j = 9 then far else σ.1 455 j) else σ.1 a) k = _
  rw [if_neg h1, if_neg h2, if_neg h3]
  rfl
theorem zS_ext {σ τ : zS} (h1 : ∀ a j, gi σ a j = gi τ a j) (h2 : σ.2 = τ.2) : σ = τ := by
  obtain ⟨s1, s2⟩ := σ
  obtain ⟨t1, t2⟩ := τ
  have e : s1 = t1 := funext fun a => funext fun j => h1 a j
  have e2 : s2 = t2 := h2
  rw [e, e2]
theorem gi_zms (σ : zS) (r pf : Nat → Int32) (n far : Int32) (a j : Nat) : gi (zms σ r pf n far) a j = if a = 456 then r j else if a = 460 then pf j else if a = 455 then (if j = 7 then n else if j = 9 then far else gi σ 455 j) else gi σ a j := by
  show (if a = 456 then r else if a = 460 then pf else if a = 455 then (fun j => if j = 7 then n else if j = 9 then far else σ.1 455 j) else σ.1 a) j = _
  split
  · rfl
  · split
    · rfl
    · split <;> rfl
theorem si_zms_q (σ : zS) (r pf : Nat → Int32) (n far : Int32) (k : Nat) (v : Int32) : si (zms σ r pf n far) 456 k v = zms σ (zu r k v) pf n far := by
  refine zS_ext (fun a j => ?_) rfl
  simp only [gi_si, gi_zms, zu_ap]
  repeat' split
  all_goals (first | rfl | (exfalso; omega) | simp_all)
theorem si_zms_p (σ : zS) (r pf : Nat → Int32) (n far : Int32) (k : Nat) (v : Int32) : si (zms σ r pf n far) 460 k v = zms σ r (zu pf k v) n far := by
  refine zS_ext (fun a j => ?_) rfl
  simp only [gi_si, gi_zms, zu_ap]
  repeat' split
  all_goals (first | rfl | (exfalso; omega) | simp_all)
theorem si_zms_n (σ : zS) (r pf : Nat → Int32) (n far : Int32) (v : Int32) : si (zms σ r pf n far) 455 7 v = zms σ r pf v far := by
  refine zS_ext (fun a j => ?_) rfl
  simp only [gi_si, gi_zms]
  repeat' split
  all_goals (first | rfl | (exfalso; omega) | simp_all)
theorem si_zms_f (σ : zS) (r pf : Nat → Int32) (n far : Int32) (v : Int32) : si (zms σ r pf n far) 455 9 v = zms σ r pf n v := by
  refine zS_ext (fun a j => ?_) rfl
  simp only [gi_si, gi_zms]
  repeat' split
  all_goals (first | rfl | (exfalso; omega) | simp_all)
theorem si_zms_t (σ : zS) (r pf : Nat → Int32) (n far : Int32) (v : Int32) : si (zms σ r pf n far) 455 0 v = zms (si σ 455 0 v) r pf n far := by
  refine zS_ext (fun a j => ?_) rfl
  simp only [gi_si, gi_zms]
  repeat' split
  all_goals (first | rfl | (exfalso; omega) | simp_all)
theorem vq0 : vp_in (0 : Int32) 4763 := nin (by decide) (by decide)
theorem cq0 : (0 : Int32).toNatClampNeg = 0 := rfl
theorem vq1 : vp_in (1 : Int32) 4763 := nin (by decide) (by decide)
theorem cq1 : (1 : Int32).toNatClampNeg = 1 := rfl
theorem vq2 : vp_in (2 : Int32) 4763 := nin (by decide) (by decide)
theorem cq2 : (2 : Int32).toNatClampNeg = 2 := rfl
theorem vq3 : vp_in (3 : Int32) 4763 := nin (by decide) (by decide)
theorem cq3 : (3 : Int32).toNatClampNeg = 3 := rfl
theorem vq4 : vp_in (4 : Int32) 4763 := nin (by decide) (by decide)
theorem cq4 : (4 : Int32).toNatClampNeg = 4 := rfl
theorem vq5 : vp_in (5 : Int32) 4763 := nin (by decide) (by decide)
theorem cq5 : (5 : Int32).toNatClampNeg = 5 := rfl
theorem vq6 : vp_in (6 : Int32) 4763 := nin (by decide) (by decide)
theorem cq6 : (6 : Int32).toNatClampNeg = 6 := rfl
theorem vq7 : vp_in (7 : Int32) 4763 := nin (by decide) (by decide)
theorem cq7 : (7 : Int32).toNatClampNeg = 7 := rfl
theorem vq8 : vp_in (8 : Int32) 4763 := nin (by decide) (by decide)
theorem cq8 : (8 : Int32).toNatClampNeg = 8 := rfl
theorem vq9 : vp_in (9 : Int32) 4763 := nin (by decide) (by decide)
theorem cq9 : (9 : Int32).toNatClampNeg = 9 := rfl
theorem vq10 : vp_in (10 : Int32) 4763 := nin (by decide) (by decide)
theorem cq10 : (10 : Int32).toNatClampNeg = 10 := rfl
theorem vq11 : vp_in (11 : Int32) 4763 := nin (by decide) (by decide)
theorem cq11 : (11 : Int32).toNatClampNeg = 11 := rfl
theorem vq12 : vp_in (12 : Int32) 4763 := nin (by decide) (by decide)
theorem cq12 : (12 : Int32).toNatClampNeg = 12 := rfl
theorem vq13 : vp_in (13 : Int32) 4763 := nin (by decide) (by decide)
theorem cq13 : (13 : Int32).toNatClampNeg = 13 := rfl
theorem vq14 : vp_in (14 : Int32) 4763 := nin (by decide) (by decide)
theorem cq14 : (14 : Int32).toNatClampNeg = 14 := rfl
theorem vq15 : vp_in (15 : Int32) 4763 := nin (by decide) (by decide)
theorem cq15 : (15 : Int32).toNatClampNeg = 15 := rfl
theorem vq16 : vp_in (16 : Int32) 4763 := nin (by decide) (by decide)
theorem cq16 : (16 : Int32).toNatClampNeg = 16 := rfl
theorem vq17 : vp_in (17 : Int32) 4763 := nin (by decide) (by decide)
theorem cq17 : (17 : Int32).toNatClampNeg = 17 := rfl
theorem vq18 : vp_in (18 : Int32) 4763 := nin (by decide) (by decide)
theorem cq18 : (18 : Int32).toNatClampNeg = 18 := rfl
theorem vq19 : vp_in (19 : Int32) 4763 := nin (by decide) (by decide)
theorem cq19 : (19 : Int32).toNatClampNeg = 19 := rfl
theorem vq20 : vp_in (20 : Int32) 4763 := nin (by decide) (by decide)
theorem cq20 : (20 : Int32).toNatClampNeg = 20 := rfl
theorem vq21 : vp_in (21 : Int32) 4763 := nin (by decide) (by decide)
theorem cq21 : (21 : Int32).toNatClampNeg = 21 := rfl
theorem vq22 : vp_in (22 : Int32) 4763 := nin (by decide) (by decide)
theorem cq22 : (22 : Int32).toNatClampNeg = 22 := rfl
theorem vq23 : vp_in (23 : Int32) 4763 := nin (by decide) (by decide)
theorem cq23 : (23 : Int32).toNatClampNeg = 23 := rfl
theorem vq24 : vp_in (24 : Int32) 4763 := nin (by decide) (by decide)
theorem cq24 : (24 : Int32).toNatClampNeg = 24 := rfl
theorem vq25 : vp_in (25 : Int32) 4763 := nin (by decide) (by decide)
theorem cq25 : (25 : Int32).toNatClampNeg = 25 := rfl
theorem vq26 : vp_in (26 : Int32) 4763 := nin (by decide) (by decide)
theorem cq26 : (26 : Int32).toNatClampNeg = 26 := rfl
theorem vq33 : vp_in (33 : Int32) 4763 := nin (by decide) (by decide)
theorem cq33 : (33 : Int32).toNatClampNeg = 33 := rfl
theorem vq34 : vp_in (34 : Int32) 4763 := nin (by decide) (by decide)
theorem cq34 : (34 : Int32).toNatClampNeg = 34 := rfl
theorem vq2963 : vp_in (2963 : Int32) 4763 := nin (by decide) (by decide)
theorem cq2963 : (2963 : Int32).toNatClampNeg = 2963 := rfl
theorem vq2964 : vp_in (2964 : Int32) 4763 := nin (by decide) (by decide)
theorem cq2964 : (2964 : Int32).toNatClampNeg = 2964 := rfl
theorem vq2965 : vp_in (2965 : Int32) 4763 := nin (by decide) (by decide)
theorem cq2965 : (2965 : Int32).toNatClampNeg = 2965 := rfl
def rClears (r : Nat → Int32) : Nat → Int32 := zu (zu (zu (zu r 11 0) 12 0) 13 0) 14 0
def rEnds (r : Nat → Int32) : Nat → Int32 := rClears (zu (zu (zu (zu (zu r 6 (-1)) 7 0) 9 0) 10 0) 19 0)
def rBegins (r : Nat → Int32) : Nat → Int32 := zu (zu r 7 0) 9 0
/-! from 42.steps -/
/-! THE MODEL'S STEPS, over its row -/
theorem ix3 {c x : Int32} {b : Nat} (hc : c.toInt = b) (hb : b ≤ 10000) (h0 : 0 ≤ x.toInt) (h1 : x.toInt ≤ 1000) : (c + 3 * x).toInt = b + 3 * x.toInt := by
  have e3 : (3 : Int32).toInt = 3 := rfl
  have e : (3 * x).toInt = 3 * x.toInt := by rw [nmul (by rw [e3]; omega) (by rw [e3]; omega), e3]
  rw [nadd (by rw [e]; omega) (by rw [e]; omega), e, hc]
theorem ixp {c x : Int32} {b : Nat} (hc : c.toInt = b) (hb : b ≤ 1000000) (h0 : -100000 ≤ x.toInt) (h1 : x.toInt ≤ 1000000) : (c + x).toInt = b + x.toInt := by
  rw [nadd (by omega) (by omega), hc]
theorem ixs {x y : Int32} {k : Nat} (hy : y.toInt = k) (hk : k ≤ 10000) (h0 : -100000 ≤ x.toInt) (h1 : x.toInt ≤ 1000000) : (x + y).toInt = x.toInt + k := by
  rw [nadd (by omega) (by omega), hy]
/-- what stood three places further on, from place base on, i places -/
def zcut (r : Nat → Int32) (base i : Nat) : Nat → Int32 := fun j => if base ≤ j ∧ j < base + i then r (j + 3) else r j
theorem zcut_0 (r : Nat → Int32) (base : Nat) : zcut r base 0 = r := funext fun j => if_neg (by omega)
theorem zcut_s (r : Nat → Int32) (base i : Nat) : zu (zcut r base i) (base + i) (r (base + i + 3)) = zcut r base (i + 1) := by
  funext j
  unfold zu zcut
  by_cases h : j = base + i
  · rw [if_pos h, if_pos (by omega), h]
  · rw [if_neg h]
    by_cases h2 : base ≤ j ∧ j < base + i
    · rw [if_pos h2, if_pos (by omega)]
    · rw [if_neg h2, if_neg (by omega)]
theorem zcut_out (r : Nat → Int32) {base i j : Nat} (h : ¬ (base ≤ j ∧ j < base + i)) : zcut r base i j = r j := if_neg h
def rPut (r : Nat → Int32) (base cnt : Nat) (a b c : Int32) : Nat → Int32 := zu (zu (zu (zu r (base + 3 * (r cnt).toNatClampNeg) a) (base + 3 * (r cnt).toNatClampNeg + 1) b) (base + 3 * (r cnt).toNatClampNeg + 2) c) cnt (r cnt + 1)
def rSends (r : Nat → Int32) (w v : Int32) : Nat → Int32 := rPut r 2963 19 (r 5 + r 1) w v
def rCut (r : Nat → Int32) : Nat → Int32 := zu (zcut r 99 117) 18 (r 18 - 1)
def rNotes (r : Nat → Int32) (c v : Int32) : Nat → Int32 := if r 18 = 40 then rPut (rCut r) 99 18 (r 5) c v else rPut r 99 18 (r 5) c v
/-! from 43.lines -/
/-! THE MODEL'S STEPS: lines, breaks, what is received -/
theorem ao21_0 : (21 : Int32) + 0 = 21 := by decide
theorem ao21_1 : (21 : Int32) + 1 = 22 := by decide
theorem ao23_0 : (23 : Int32) + 0 = 23 := by decide
theorem ao23_1 : (23 : Int32) + 1 = 24 := by decide
theorem ao25_0 : (25 : Int32) + 0 = 25 := by decide
theorem ao25_1 : (25 : Int32) + 1 = 26 := by decide
theorem ao27_0 : (27 : Int32) + 0 = 27 := by decide
theorem ao27_1 : (27 : Int32) + 1 = 28 := by decide
theorem ao29_0 : (29 : Int32) + 0 = 29 := by decide
theorem ao29_1 : (29 : Int32) + 1 = 30 := by decide
theorem ao31_0 : (31 : Int32) + 0 = 31 := by decide
theorem ao31_1 : (31 : Int32) + 1 = 32 := by decide
theorem ao33_0 : (33 : Int32) + 0 = 33 := by decide
theorem ao33_1 : (33 : Int32) + 1 = 34 := by decide
theorem ao35_0 : (35 : Int32) + 0 = 35 := by decide
theorem ao35_1 : (35 : Int32) + 1 = 36 := by decide
theorem ao37_0 : (37 : Int32) + 0 = 37 := by decide
theorem ao37_1 : (37 : Int32) + 1 = 38 := by decide
theorem vq27 : vp_in (27 : Int32) 4763 := nin (by decide) (by decide)
theorem cq27 : (27 : Int32).toNatClampNeg = 27 := rfl
theorem vq28 : vp_in (28 : Int32) 4763 := nin (by decide) (by decide)
theorem cq28 : (28 : Int32).toNatClampNeg = 28 := rfl
theorem vq29 : vp_in (29 : Int32) 4763 := nin (by decide) (by decide)
theorem cq29 : (29 : Int32).toNatClampNeg = 29 := rfl
theorem vq30 : vp_in (30 : Int32) 4763 := nin (by decide) (by decide)
theorem cq30 : (30 : Int32).toNatClampNeg = 30 := rfl
theorem vq31 : vp_in (31 : Int32) 4763 := nin (by decide) (by decide)
theorem cq31 : (31 : Int32).toNatClampNeg = 31 := rfl
theorem vq32 : vp_in (32 : Int32) 4763 := nin (by decide) (by decide)
theorem cq32 : (32 : Int32).toNatClampNeg = 32 := rfl
theorem vq35 : vp_in (35 : Int32) 4763 := nin (by decide) (by decide)
theorem cq35 : (35 : Int32).toNatClampNeg = 35 := rfl
theorem vq36 : vp_in (36 : Int32) 4763 := nin (by decide) (by decide)
theorem cq36 : (36 : Int32).toNatClampNeg = 36 := rfl
theorem vq37 : vp_in (37 : Int32) 4763 := nin (by decide) (by decide)
theorem cq37 : (37 : Int32).toNatClampNeg = 37 := rfl
theorem vq38 : vp_in (38 : Int32) 4763 := nin (by decide) (by decide)
theorem cq38 : (38 : Int32).toNatClampNeg = 38 := rfl
def zo (r : Nat → Int32) : Nat := (r 6).toNatClampNeg
def rDone (r : Nat → Int32) (o : Nat) : Nat → Int32 := zu (zu r (27 + o) (r (27 + o) + 1)) 10 0
def rLineDone (r : Nat → Int32) : Nat → Int32 := if r (25 + zo r) ≤ r (27 + zo r) + 1 then rNotes (rEnds (rDone r (zo r))) 6 (r 6) else rBegins (rDone r (zo r))
def rAgain (r : Nat → Int32) : Nat → Int32 := rBegins (zu r 10 (r 10 + 1))
def rLineFailed (r : Nat → Int32) : Nat → Int32 := if r 4 ≤ r 10 then rLineDone (rNotes r 4 (r (27 + zo r))) else rNotes (rAgain r) 3 (r (27 + zo r))
def rBreaks (r : Nat → Int32) : Nat → Int32 := rNotes (rEnds r) 5 (r (27 + zo r))
theorem rPut_out (r : Nat → Int32) {b cnt : Nat} {x y z : Int32} {j : Nat} (h1 : j ≠ cnt) (h2 : ¬ (b + 3 * (r cnt).toNatClampNeg ≤ j ∧ j < b + 3 * (r cnt).toNatClampNeg + 3)) : rPut r b cnt x y z j = r j := by
  unfold rPut
  rw [zu_ne h1, zu_ne (by omega), zu_ne (by omega), zu_ne (by omega)]
theorem rNotes_out (r : Nat → Int32) {x y : Int32} {j : Nat} (h0 : 0 ≤ (r 18).toInt) (hm : (r 18).toInt ≤ 40) (h1 : j ≠ 18) (h2 : ¬ (99 ≤ j ∧ j < 219)) : rNotes r x y j = r j := by
  have c0 := ncl h0
  unfold rNotes
  split
  · have e : (rCut r 18).toNatClampNeg = 39 := by
      unfold rCut
      rw [zu_self]
      have h : r 18 = 40 := by assumption
      rw [h]
      decide
    rw [rPut_out _ h1 (by rw [e]; omega)]
    unfold rCut
    rw [zu_ne h1, zcut_out _ (by omega)]
  · have h9 : (r 18).toInt ≠ 40 := fun e => (by assumption : ¬ r 18 = 40) (by rw [neq, e]; rfl)
    rw [rPut_out _ h1 (by omega)]
theorem rNotes_18 (r : Nat → Int32) (x y : Int32) (h0 : 0 ≤ (r 18).toInt) (hm : (r 18).toInt ≤ 40) : 0 ≤ (rNotes r x y 18).toInt ∧ (rNotes r x y 18).toInt ≤ 40 := by
  unfold rNotes
  split
  · have h : r 18 = 40 := by assumption
    have e : rPut (rCut r) 99 18 (r 5) x y 18 = 40 := by
      unfold rPut
      rw [zu_self]
      unfold rCut
      rw [zu_self, h]
      decide
    rw [e]
    decide
  · have h9 : (r 18).toInt ≠ 40 := fun e => (by assumption : ¬ r 18 = 40) (by rw [neq, e]; rfl)
    have e : rPut r 99 18 (r 5) x y 18 = r 18 + 1 := by unfold rPut; rw [zu_self]
    have e2 : (r 18 + 1).toInt = (r 18).toInt + 1 := ixs (k := 1) rfl (by decide) (by omega) (by omega)
    rw [e, e2]
    omega
def rAnswers (r : Nat → Int32) (b : Bool) : Nat → Int32 := if r 7 = 0 then r else if b then rLineDone r else rLineFailed r
/-! from 44.checks -/
/-! THE MODEL'S STEPS: what is received, checks, meanings, prints -/
theorem zSb_chr : ∀ i, i < 30 → ∀ k, k < 40 → ((((zSbyt.getD i []).getD k 0) &&& 255).toUInt32 % 65536).toInt32 = (zSbyt.getD i []).getD k 0 := by decide +kernel
theorem w_charAt {ln : Nat → Nat} {σ : zS} {i k : Nat} {v : Int32} {Q : Int32 → zS → Prop} (hi : i < 30) (hk : k < zSlen.getD i 0) (hk2 : k < 40) (hv : v = nI k) (hq : Q ((zSbyt.getD i []).getD k 0) σ) : wJ0_charAt_5068e ln σ i v Q := by
  subst hv
  have hl := (zSb_ln i hi).2
  have hc : (nI k).toNatClampNeg = k := nI_clamp (by omega)
  refine ⟨fun h => absurd h (by decide), fun _ => ⟨fun _ => ?_, fun h => absurd rfl h⟩⟩
  refine ⟨fun h => absurd h (by decide), fun _ x e => ?_⟩
  subst e
  refine ⟨fun h => absurd h (nI_pos (by omega)), fun _ => ⟨fun _ => ⟨vp_in_nI hk (by omega), fun x e => ?_⟩, fun h => absurd (nI_lt hk (by omega)) h⟩⟩
  rw [hc] at e
  have e2 := zSb_chr i hi k hk2
  rw [← e] at e2
  refine ⟨pk_nc x, ?_⟩
  rw [e2]
  exact hq
/-- the character of a position -/
def zchr (p : Int32) (f : Bool) : Int32 := if f then (zSbyt.getD 23 []).getD (p - 2).toNatClampNeg 0 else 97 + p - 2
def rReceives (r : Nat → Int32) (o : Nat) (c : Int32) : Nat → Int32 := if r (29 + o) = 1000 then r else zu (zu r (963 + 1000 * o + (r (29 + o)).toNatClampNeg) c) (29 + o) (r (29 + o) + 1)
def rRecvs (r : Nat → Int32) (o : Nat) : Nat → (Nat → Int32)
  | 0 => r
  | k + 1 => rReceives (rRecvs r o k) o (r (59 + k))
theorem rReceives_b (r : Nat → Int32) (o : Nat) (c : Int32) (h0 : 0 ≤ (r (29 + o)).toInt) (h1 : (r (29 + o)).toInt ≤ 1000) : 0 ≤ (rReceives r o c (29 + o)).toInt ∧ (rReceives r o c (29 + o)).toInt ≤ 1000 := by
  unfold rReceives
  split
  · exact ⟨h0, h1⟩
  · have h9 : (r (29 + o)).toInt ≠ 1000 := fun e => (by assumption : ¬ r (29 + o) = 1000) (by rw [neq, e]; rfl)
    have e2 : (r (29 + o) + 1).toInt = (r (29 + o)).toInt + 1 := ixs (k := 1) rfl (by decide) (by omega) (by omega)
    rw [zu_self, e2]
    omega
theorem rReceives_out (r : Nat → Int32) (o : Nat) (c : Int32) (h0 : 0 ≤ (r (29 + o)).toInt) (h1 : (r (29 + o)).toInt ≤ 1000) {j : Nat} (hj : j ≠ 29 + o) (hj2 : ¬ (963 + 1000 * o ≤ j ∧ j < 1963 + 1000 * o)) : rReceives r o c j = r j := by
  have c0 := ncl h0
  unfold rReceives
  split
  · rfl
  · have h9 : (r (29 + o)).toInt ≠ 1000 := fun e => (by assumption : ¬ r (29 + o) = 1000) (by rw [neq, e]; rfl)
    rw [zu_ne hj, zu_ne (by omega)]
theorem rRecvs_b (r : Nat → Int32) (o : Nat) (h0 : 0 ≤ (r (29 + o)).toInt) (h1 : (r (29 + o)).toInt ≤ 1000) : ∀ k, 0 ≤ (rRecvs r o k (29 + o)).toInt ∧ (rRecvs r o k (29 + o)).toInt ≤ 1000
  | 0 => ⟨h0, h1⟩
  | k + 1 => rReceives_b _ o _ (rRecvs_b r o h0 h1 k).1 (rRecvs_b r o h0 h1 k).2
theorem rRecvs_out (r : Nat → Int32) (o : Nat) (h0 : 0 ≤ (r (29 + o)).toInt) (h1 : (r (29 + o)).toInt ≤ 1000) {j : Nat} (hj : j ≠ 29 + o) (hj2 : ¬ (963 + 1000 * o ≤ j ∧ j < 1963 + 1000 * o)) : ∀ k, rRecvs r o k j = r j
  | 0 => rfl
  | k + 1 => (rReceives_out _ o _ (rRecvs_b r o h0 h1 k).1 (rRecvs_b r o h0 h1 k).2 hj hj2).trans (rRecvs_out r o h0 h1 hj hj2 k)
theorem a963_0 : (963 : Int32) + 1000 * 0 = 963 := by decide
theorem a963_1 : (963 : Int32) + 1000 * 1 = 1963 := by decide
def rChecks (r : Nat → Int32) (q : Nat) (p : Int32) : Nat → Int32 :=
  if p = 2 + (r 12 - r 12 / (r 0 - 2) * (r 0 - 2)) then rClears (rSends (rReceives (rRecvs (rNotes r 1 (r 11)) q (r 11).toNatClampNeg) q 47) 1 0)
  else rClears (rSends (rNotes r 2 (r 12)) 2 0)
/-! from 45.means -/
/-! THE MODEL'S STEPS: meanings, the round, prints -/
def rCount (r : Nat → Int32) : Nat → Int32 := zu r 12 (r 12 + 1)
def rLetter (r : Nat → Int32) (p : Int32) : Nat → Int32 := zu (zu r (59 + (r 11).toNatClampNeg) (zchr p (decide (r 13 = 1)))) 11 (r 11 + 1)
def rTake (r : Nat → Int32) (p : Int32) : Nat → Int32 := if 2 ≤ p then (if 40 ≤ r 11 then rCount r else rCount (rLetter r p)) else rCount (zu r 13 p)
def rMeans (r : Nat → Int32) (q : Nat) (p : Int32) : Nat → Int32 := if r 14 = 1 then rChecks r q p else if ¬ 2 ≤ p ∧ p = r 13 then zu r 14 1 else rTake r p
/-- what the steps on a printed position need -/
def zOkM (r : Nat → Int32) (q : Nat) : Prop := ((1 : Int32) - r 6 = 0 ∧ q = 0 ∨ (1 : Int32) - r 6 = 1 ∧ q = 1) ∧ (6 ≤ (r 0).toInt ∧ (r 0).toInt ≤ 28) ∧ (0 ≤ (r 18).toInt ∧ (r 18).toInt ≤ 40) ∧ (0 ≤ (r 19).toInt ∧ (r 19).toInt ≤ 599) ∧ (0 ≤ (r 11).toInt ∧ (r 11).toInt ≤ 40) ∧ (0 ≤ (r (29 + q)).toInt ∧ (r (29 + q)).toInt ≤ 1000)
theorem nbm64 {x : Int} (h1 : -9223372036854775808 ≤ x) (h2 : x < 9223372036854775808) : x.bmod (2 ^ 64) = x := by
  rw [Int.bmod_def]
  split <;> omega
theorem n64 (x : Int32) : x.toInt64.toInt = x.toInt := Int32.toInt_toInt64 x
/-- a long cut to an int that holds it -/
theorem n6432 {x : Int64} (h1 : -2147483648 ≤ x.toInt) (h2 : x.toInt < 2147483648) : x.toInt32.toInt = x.toInt := by
  rw [Int64.toInt_toInt32]
  exact nbm h1 h2
/-! from 46.prints -/
/-! THE MODEL'S STEPS: prints -/
theorem oix {ov : Int32} {q : Nat} (ho : ov = 0 ∧ q = 0 ∨ ov = 1 ∧ q = 1) (b : Nat) (hb : b ≤ 4000) : (nI b + ov).toNatClampNeg = b + q ∧ vp_in (nI b + ov) 4763 := by
  rcases ho with ⟨rfl, rfl⟩ | ⟨rfl, rfl⟩
  · have e : nI b + 0 = nI b := Int32.add_zero _
    rw [e]
    exact ⟨nI_clamp (by omega), vp_in_nI (by omega) (by decide)⟩
  · have e : nI b + 1 = nI (b + 1) := nI_1 b
    rw [e]
    exact ⟨nI_clamp (by omega), vp_in_nI (by omega) (by decide)⟩
def pClamp (x m : Int32) : Int32 := if -m ≤ x then (if x ≤ m then x else m) else -m
def pAbs (x : Int32) : Int32 := if 0 ≤ x then x else -x
def rNear (r : Nat → Int32) (q : Nat) : Int32 := (r (21 + q) + 500) / 1000
def rOff (r : Nat → Int32) (q : Nat) : Int32 := r (21 + q) - 1000 * rNear r q
def rPos (r : Nat → Int32) (q : Nat) : Int32 := rNear r q - rNear r q / r 0 * r 0
def rTurned (r : Nat → Int32) (q : Nat) (by' : Int32) : Nat → Int32 := zu r (21 + q) (mI ((r (21 + q)).toInt - by'.toInt) (1000 * (r 0).toInt))
def rPc (r : Nat → Int32) (q : Nat) (off : Int32) : Nat → Int32 := zu (zu r (31 + q) (r (31 + q) + 1)) (37 + q) (r (37 + q) + off)
def rP2 (r : Nat → Int32) (q : Nat) (a : Int32) : Nat → Int32 := if a ≤ r (35 + q) then r else zu r (35 + q) a
def rP3 (r : Nat → Int32) (q : Nat) (pr pos : Int32) : Nat → Int32 := if pr = pos then r else zu r (33 + q) (r (33 + q) + 1)
def fFar (far a : Int32) : Int32 := if a ≤ far then far else a
def rPrinted (r : Nat → Int32) (q : Nat) (pos : Int32) : Nat → Int32 := rP3 (rP2 (rPc (rTurned r q (pClamp (rOff r q) (r 2))) q (rOff r q)) q (pAbs (rOff r q))) q (rPos r q) pos
def rPrints (r : Nat → Int32) (q : Nat) (pos : Int32) : Nat → Int32 := rMeans (zu (rPrinted r q pos) 15 (rPrinted r q pos 5)) q (rPos r q)
theorem rPos_lt {r : Nat → Int32} {q : Nat} (hN : 6 ≤ (r 0).toInt ∧ (r 0).toInt ≤ 28) (hP : 0 ≤ (r (21 + q)).toInt ∧ (r (21 + q)).toInt < 28000) : (rNear r q).toInt = ((r (21 + q)).toInt + 500) / 1000 ∧ (rOff r q).toInt = (r (21 + q)).toInt - 1000 * (((r (21 + q)).toInt + 500) / 1000) ∧ (rPos r q).toInt = (((r (21 + q)).toInt + 500) / 1000) % (r 0).toInt := by
  have t5 : (500 : Int32).toInt = 500 := rfl
  have t1 : (1000 : Int32).toInt = 1000 := rfl
  have e1 : (r (21 + q) + 500).toInt = (r (21 + q)).toInt + 500 := by rw [nadd (by rw [t5]; omega) (by rw [t5]; omega), t5]
  have e2 : (rNear r q).toInt = ((r (21 + q)).toInt + 500) / 1000 := by
    unfold rNear
    rw [ndiv (by omega) (by rw [t1]; omega), e1, t1]
  have e3 : (1000 * rNear r q).toInt = 1000 * (((r (21 + q)).toInt + 500) / 1000) := by rw [nmul (by rw [t1, e2]; omega) (by rw [t1, e2]; omega), t1, e2]
  refine ⟨e2, ?_, ?_⟩
  · unfold rOff
    rw [nsub (by rw [e3]; omega) (by rw [e3]; omega), e3]
  · unfold rPos
    rw [nrem (by rw [e2]; omega) (by omega), e2]
/-! from 47.path -/
/-! THE MODEL'S STEPS: the path of a line, lost pulses -/
theorem nlt64 (a b : Int64) : a < b ↔ a.toInt < b.toInt := Int64.lt_iff_toInt_lt
theorem neq64 (a b : Int64) : a = b ↔ a.toInt = b.toInt := Int64.toInt_inj.symm
theorem cmp_lt (x y : Int64) : lg_cmp x y < 0 ↔ x.toInt < y.toInt := by
  unfold lg_cmp
  by_cases h : x > y
  · rw [if_pos h]
    have h2 : y.toInt < x.toInt := (nlt64 y x).mp h
    exact ⟨fun h3 => absurd h3 (by decide), fun h3 => absurd h3 (by omega)⟩
  · rw [if_neg h]
    have h2 : ¬ y.toInt < x.toInt := fun h3 => h ((nlt64 y x).mpr h3)
    by_cases h4 : x = y
    · rw [if_pos h4]
      rw [neq64] at h4
      exact ⟨fun h3 => absurd h3 (by decide), fun h3 => absurd h3 (by omega)⟩
    · rw [if_neg h4]
      have h5 : x.toInt ≠ y.toInt := fun h => h4 ((neq64 x y).mpr h)
      exact ⟨fun _ => by omega, fun _ => by decide⟩
theorem cmp_gt (x y : Int64) : 0 < lg_cmp x y ↔ y.toInt < x.toInt := by
  unfold lg_cmp
  by_cases h : x > y
  · rw [if_pos h]
    have h2 : y.toInt < x.toInt := (nlt64 y x).mp h
    exact ⟨fun _ => h2, fun _ => by decide⟩
  · rw [if_neg h]
    have h2 : ¬ y.toInt < x.toInt := fun h3 => h ((nlt64 y x).mpr h3)
    by_cases h4 : x = y
    · rw [if_pos h4]
      exact ⟨fun h3 => absurd h3 (by decide), fun h3 => absurd h3 (by omega)⟩
    · rw [if_neg h4]
      exact ⟨fun h3 => absurd h3 (by decide), fun h3 => absurd h3 (by omega)⟩
theorem cmp_eq (x y : Int64) : lg_cmp x y = 0 ↔ x = y := by
  unfold lg_cmp
  by_cases h : x > y
  · rw [if_pos h]
    refine ⟨fun h3 => absurd h3 (by decide), fun h3 => ?_⟩
    subst h3
    exact absurd h (fun h => Int64.lt_irrefl h)
  · rw [if_neg h]
    by_cases h4 : x = y
    · rw [if_pos h4]
      exact ⟨fun _ => h4, fun _ => rfl⟩
    · rw [if_neg h4]
      exact ⟨fun h3 => absurd h3 (by decide), fun h3 => absurd h3 h4⟩
/-- digits, and a character's place on the wheel -/
def zdig (c : Int32) : Bool := decide (48 ≤ c.toInt ∧ c.toInt ≤ 57)
def zidx (c : Int32) : Int32 := if zdig c then c - 48 else c - 97
def rLost (r : Nat → Int32) (num : Int32) : Bool := (List.range (r 20).toNatClampNeg).any fun k => decide (r (39 + k) = num)
/-- the path of a line: its positions so far, and the shift that holds -/
def zenc (c : Nat → Int32) : Nat → List Int32 × Int32
  | 0 => ([], 0)
  | k + 1 => if (if zdig (c k) then 1 else 0) = (zenc c k).2 then ((zenc c k).1 ++ [2 + zidx (c k)], (zenc c k).2) else (((zenc c k).1 ++ [if zdig (c k) then 1 else 0]) ++ [2 + zidx (c k)], if zdig (c k) then 1 else 0)
def zpath (c : Nat → Int32) (len : Nat) (N : Int32) : List Int32 := ((zenc c len).1 ++ [(zenc c len).2]) ++ [2 + (nI (zenc c len).1.length - nI (zenc c len).1.length / (N - 2) * (N - 2))]
theorem zenc_len (c : Nat → Int32) : ∀ k, (zenc c k).1.length ≤ 2 * k
  | 0 => Nat.le_refl 0
  | k + 1 => by
    have := zenc_len c k
    rw [zenc]
    by_cases h : (if zdig (c k) then 1 else 0) = (zenc c k).2
    · rw [if_pos h, List.length_append]; show (zenc c k).1.length + 1 ≤ _; omega
    · rw [if_neg h, List.length_append, List.length_append]; show (zenc c k).1.length + 1 + 1 ≤ _; omega
theorem zpath_len (c : Nat → Int32) (k : Nat) (N : Int32) : (zpath c k N).length = (zenc c k).1.length + 2 := by
  unfold zpath
  rw [List.length_append, List.length_append]
  rfl
/-- a row that begins with a list -/
def zpre (pf : Nat → Int32) (l : List Int32) : Prop := ∀ k, k < l.length → pf k = l.getD k 0
theorem zpre_add {pf : Nat → Int32} {l : List Int32} (h : zpre pf l) (v : Int32) : zpre (zu pf l.length v) (l ++ [v]) := by
  intro k hk
  rw [List.length_append] at hk
  have hk : k < l.length + 1 := hk
  rw [zu_ap]
  by_cases e : k = l.length
  · rw [if_pos e, e, List.getD_eq_getElem?_getD, List.getElem?_append_right (Nat.le_refl _), Nat.sub_self]
    rfl
  · rw [if_neg e, h k (by omega), List.getD_eq_getElem?_getD, List.getD_eq_getElem?_getD, List.getElem?_append_left (by omega)]
/-- the characters of a line, and the path of it -/
def rChr (r : Nat → Int32) (a : Nat) : Nat → Int32 := fun k => r (243 + 30 * a + k)
def rPath (r : Nat → Int32) (a : Nat) : List Int32 := zpath (rChr r a) (r (219 + a)).toNatClampNeg (r 0)
/-! from 48.bounds -/
/-! BOUNDS OF THE ROW -/
def zW (r : Nat → Int32) : Prop := (6 ≤ (r 0).toInt ∧ (r 0).toInt ≤ 28) ∧ (1 ≤ (r 1).toInt ∧ (r 1).toInt ≤ 50) ∧ (0 ≤ (r 2).toInt ∧ (r 2).toInt ≤ 500) ∧ (1 ≤ (r 3).toInt ∧ (r 3).toInt ≤ 5000) ∧ (0 ≤ (r 4).toInt ∧ (r 4).toInt ≤ 9) ∧ (0 ≤ (r 5).toInt ∧ (r 5).toInt ≤ 110000) ∧ (r 6 = -1 ∨ r 6 = 0 ∨ r 6 = 1) ∧ (r 7 = 0 ∨ r 7 = 1) ∧ (0 ≤ (r 11).toInt ∧ (r 11).toInt ≤ 40) ∧ (0 ≤ (r 18).toInt ∧ (r 18).toInt ≤ 40) ∧ (0 ≤ (r 19).toInt ∧ (r 19).toInt ≤ 600) ∧ (0 ≤ (r 20).toInt ∧ (r 20).toInt ≤ 20) ∧ (0 ≤ (r 21).toInt ∧ (r 21).toInt < 1000 * (r 0).toInt) ∧ (10 ≤ (r 23).toInt ∧ (r 23).toInt ≤ 999) ∧ (0 ≤ (r 25).toInt ∧ (r 25).toInt ≤ 12) ∧ (0 ≤ (r 27).toInt ∧ (r 27).toInt ≤ (r 25).toInt) ∧ (0 ≤ (r 29).toInt ∧ (r 29).toInt ≤ 1000) ∧ (0 ≤ (r 22).toInt ∧ (r 22).toInt < 1000 * (r 0).toInt) ∧ (10 ≤ (r 24).toInt ∧ (r 24).toInt ≤ 999) ∧ (0 ≤ (r 26).toInt ∧ (r 26).toInt ≤ 12) ∧ (0 ≤ (r 28).toInt ∧ (r 28).toInt ≤ (r 26).toInt) ∧ (0 ≤ (r 30).toInt ∧ (r 30).toInt ≤ 1000) ∧ (r 6 = 0 → (r 27).toInt < (r 25).toInt) ∧ (r 6 = 1 → (r 28).toInt < (r 26).toInt) ∧ (∀ a, a < 24 → 0 ≤ (r (219 + a)).toInt ∧ (r (219 + a)).toInt ≤ 30)
theorem zW.N {r : Nat → Int32} (h : zW r) : (6 ≤ (r 0).toInt ∧ (r 0).toInt ≤ 28) := h.1
theorem zW.d {r : Nat → Int32} (h : zW r) : (1 ≤ (r 1).toInt ∧ (r 1).toInt ≤ 50) := h.2.1
theorem zW.c {r : Nat → Int32} (h : zW r) : (0 ≤ (r 2).toInt ∧ (r 2).toInt ≤ 500) := h.2.2.1
theorem zW.g {r : Nat → Int32} (h : zW r) : (1 ≤ (r 3).toInt ∧ (r 3).toInt ≤ 5000) := h.2.2.2.1
theorem zW.t {r : Nat → Int32} (h : zW r) : (0 ≤ (r 4).toInt ∧ (r 4).toInt ≤ 9) := h.2.2.2.2.1
theorem zW.T {r : Nat → Int32} (h : zW r) : (0 ≤ (r 5).toInt ∧ (r 5).toInt ≤ 110000) := h.2.2.2.2.2.1
theorem zW.s {r : Nat → Int32} (h : zW r) : (r 6 = -1 ∨ r 6 = 0 ∨ r 6 = 1) := h.2.2.2.2.2.2.1
theorem zW.w {r : Nat → Int32} (h : zW r) : (r 7 = 0 ∨ r 7 = 1) := h.2.2.2.2.2.2.2.1
theorem zW.b {r : Nat → Int32} (h : zW r) : (0 ≤ (r 11).toInt ∧ (r 11).toInt ≤ 40) := h.2.2.2.2.2.2.2.2.1
theorem zW.e {r : Nat → Int32} (h : zW r) : (0 ≤ (r 18).toInt ∧ (r 18).toInt ≤ 40) := h.2.2.2.2.2.2.2.2.2.1
theorem zW.u {r : Nat → Int32} (h : zW r) : (0 ≤ (r 19).toInt ∧ (r 19).toInt ≤ 600) := h.2.2.2.2.2.2.2.2.2.2.1
theorem zW.l {r : Nat → Int32} (h : zW r) : (0 ≤ (r 20).toInt ∧ (r 20).toInt ≤ 20) := h.2.2.2.2.2.2.2.2.2.2.2.1
theorem zW.p0 {r : Nat → Int32} (h : zW r) : (0 ≤ (r 21).toInt ∧ (r 21).toInt < 1000 * (r 0).toInt) := h.2.2.2.2.2.2.2.2.2.2.2.2.1
theorem zW.r0 {r : Nat → Int32} (h : zW r) : (10 ≤ (r 23).toInt ∧ (r 23).toInt ≤ 999) := h.2.2.2.2.2.2.2.2.2.2.2.2.2.1
theorem zW.L0 {r : Nat → Int32} (h : zW r) : (0 ≤ (r 25).toInt ∧ (r 25).toInt ≤ 12) := h.2.2.2.2.2.2.2.2.2.2.2.2.2.2.1
theorem zW.D0 {r : Nat → Int32} (h : zW r) : (0 ≤ (r 27).toInt ∧ (r 27).toInt ≤ (r 25).toInt) := h.2.2.2.2.2.2.2.2.2.2.2.2.2.2.2.1
theorem zW.m0 {r : Nat → Int32} (h : zW r) : (0 ≤ (r 29).toInt ∧ (r 29).toInt ≤ 1000) := h.2.2.2.2.2.2.2.2.2.2.2.2.2.2.2.2.1
theorem zW.p1 {r : Nat → Int32} (h : zW r) : (0 ≤ (r 22).toInt ∧ (r 22).toInt < 1000 * (r 0).toInt) := h.2.2.2.2.2.2.2.2.2.2.2.2.2.2.2.2.2.1
theorem zW.r1 {r : Nat → Int32} (h : zW r) : (10 ≤ (r 24).toInt ∧ (r 24).toInt ≤ 999) := h.2.2.2.2.2.2.2.2.2.2.2.2.2.2.2.2.2.2.1
theorem zW.L1 {r : Nat → Int32} (h : zW r) : (0 ≤ (r 26).toInt ∧ (r 26).toInt ≤ 12) := h.2.2.2.2.2.2.2.2.2.2.2.2.2.2.2.2.2.2.2.1
theorem zW.D1 {r : Nat → Int32} (h : zW r) : (0 ≤ (r 28).toInt ∧ (r 28).toInt ≤ (r 26).toInt) := h.2.2.2.2.2.2.2.2.2.2.2.2.2.2.2.2.2.2.2.2.1
theorem zW.m1 {r : Nat → Int32} (h : zW r) : (0 ≤ (r 30).toInt ∧ (r 30).toInt ≤ 1000) := h.2.2.2.2.2.2.2.2.2.2.2.2.2.2.2.2.2.2.2.2.2.1
theorem zW.S0 {r : Nat → Int32} (h : zW r) : (r 6 = 0 → (r 27).toInt < (r 25).toInt) := h.2.2.2.2.2.2.2.2.2.2.2.2.2.2.2.2.2.2.2.2.2.2.1
theorem zW.S1 {r : Nat → Int32} (h : zW r) : (r 6 = 1 → (r 28).toInt < (r 26).toInt) := h.2.2.2.2.2.2.2.2.2.2.2.2.2.2.2.2.2.2.2.2.2.2.2.1
theorem zW.len {r : Nat → Int32} (h : zW r) : (∀ a, a < 24 → 0 ≤ (r (219 + a)).toInt ∧ (r (219 + a)).toInt ≤ 30) := h.2.2.2.2.2.2.2.2.2.2.2.2.2.2.2.2.2.2.2.2.2.2.2.2
def zkey (k : Nat) : Prop := k ≤ 7 ∨ k = 11 ∨ (18 ≤ k ∧ k ≤ 30) ∨ (219 ≤ k ∧ k < 243)
theorem zW_cong {r r' : Nat → Int32} (e : ∀ k, zkey k → r' k = r k) (h : zW r) : zW r' := by
  have el : ∀ a, a < 24 → r' (219 + a) = r (219 + a) := fun a ha => e _ (by unfold zkey; omega)
  have e0 := e 0 (by unfold zkey; omega)
  have e1 := e 1 (by unfold zkey; omega)
  have e2 := e 2 (by unfold zkey; omega)
  have e3 := e 3 (by unfold zkey; omega)
  have e4 := e 4 (by unfold zkey; omega)
  have e5 := e 5 (by unfold zkey; omega)
  have e6 := e 6 (by unfold zkey; omega)
  have e7 := e 7 (by unfold zkey; omega)
  have e11 := e 11 (by unfold zkey; omega)
  have e18 := e 18 (by unfold zkey; omega)
  have e19 := e 19 (by unfold zkey; omega)
  have e20 := e 20 (by unfold zkey; omega)
  have e21 := e 21 (by unfold zkey; omega)
  have e22 := e 22 (by unfold zkey; omega)
  have e23 := e 23 (by unfold zkey; omega)
  have e24 := e 24 (by unfold zkey; omega)
  have e25 := e 25 (by unfold zkey; omega)
  have e26 := e 26 (by unfold zkey; omega)
  have e27 := e 27 (by unfold zkey; omega)
  have e28 := e 28 (by unfold zkey; omega)
  have e29 := e 29 (by unfold zkey; omega)
  have e30 := e 30 (by unfold zkey; omega)
  obtain ⟨wN, wd, wc, wg, wt, wT, ws, ww, wb, we, wu, wl, wp0, wr0, wL0, wD0, wm0, wp1, wr1, wL1, wD1, wm1, wS0, wS1, wlen⟩ := h
  unfold zW
  rw [e0, e1, e2, e3, e4, e5, e6, e7, e11, e18, e19, e20, e21, e22, e23, e24, e25, e26, e27, e28, e29, e30]
  exact ⟨wN, wd, wc, wg, wt, wT, ws, ww, wb, we, wu, wl, wp0, wr0, wL0, wD0, wm0, wp1, wr1, wL1, wD1, wm1, wS0, wS1, fun a ha => by rw [el a ha]; exact wlen a ha⟩
theorem zW_out {r : Nat → Int32} (h : zW r) {k : Nat} (hk : ¬ zkey k) (v : Int32) : zW (zu r k v) := zW_cong (fun j hj => zu_ne (fun e => hk (e ▸ hj))) h
theorem zW_u5 {r : Nat → Int32} (h : zW r) {v : Int32} (hv : 0 ≤ v.toInt ∧ v.toInt ≤ 110000) : zW (zu r 5 v) := by
  obtain ⟨wN, wd, wc, wg, wt, wT, ws, ww, wb, we, wu, wl, wp0, wr0, wL0, wD0, wm0, wp1, wr1, wL1, wD1, wm1, wS0, wS1, wlen⟩ := h
  unfold zW
  simp only [zu_ap, Nat.reduceEqDiff, if_true, if_false]
  refine ⟨wN, wd, wc, wg, wt, hv, ws, ww, wb, we, wu, wl, wp0, wr0, wL0, wD0, wm0, wp1, wr1, wL1, wD1, wm1, wS0, wS1, fun a ha => ?_⟩
  have hne : ¬ 219 + a = 5 := by omega
  rw [if_neg hne]
  exact wlen a ha
theorem zW_u7 {r : Nat → Int32} (h : zW r) {v : Int32} (hv : v = 0 ∨ v = 1) : zW (zu r 7 v) := by
  obtain ⟨wN, wd, wc, wg, wt, wT, ws, ww, wb, we, wu, wl, wp0, wr0, wL0, wD0, wm0, wp1, wr1, wL1, wD1, wm1, wS0, wS1, wlen⟩ := h
  unfold zW
  simp only [zu_ap, Nat.reduceEqDiff, if_true, if_false]
  refine ⟨wN, wd, wc, wg, wt, wT, ws, hv, wb, we, wu, wl, wp0, wr0, wL0, wD0, wm0, wp1, wr1, wL1, wD1, wm1, wS0, wS1, fun a ha => ?_⟩
  have hne : ¬ 219 + a = 7 := by omega
  rw [if_neg hne]
  exact wlen a ha
theorem zW_u11 {r : Nat → Int32} (h : zW r) {v : Int32} (hv : 0 ≤ v.toInt ∧ v.toInt ≤ 40) : zW (zu r 11 v) := by
  obtain ⟨wN, wd, wc, wg, wt, wT, ws, ww, wb, we, wu, wl, wp0, wr0, wL0, wD0, wm0, wp1, wr1, wL1, wD1, wm1, wS0, wS1, wlen⟩ := h
  unfold zW
  simp only [zu_ap, Nat.reduceEqDiff, if_true, if_false]
  refine ⟨wN, wd, wc, wg, wt, wT, ws, ww, hv, we, wu, wl, wp0, wr0, wL0, wD0, wm0, wp1, wr1, wL1, wD1, wm1, wS0, wS1, fun a ha => ?_⟩
  have hne : ¬ 219 + a = 11 := by omega
  rw [if_neg hne]
  exact wlen a ha
theorem zW_u18 {r : Nat → Int32} (h : zW r) {v : Int32} (hv : 0 ≤ v.toInt ∧ v.toInt ≤ 40) : zW (zu r 18 v) := by
  obtain ⟨wN, wd, wc, wg, wt, wT, ws, ww, wb, we, wu, wl, wp0, wr0, wL0, wD0, wm0, wp1, wr1, wL1, wD1, wm1, wS0, wS1, wlen⟩ := h
  unfold zW
  simp only [zu_ap, Nat.reduceEqDiff, if_true, if_false]
  refine ⟨wN, wd, wc, wg, wt, wT, ws, ww, wb, hv, wu, wl, wp0, wr0, wL0, wD0, wm0, wp1, wr1, wL1, wD1, wm1, wS0, wS1, fun a ha => ?_⟩
  have hne : ¬ 219 + a = 18 := by omega
  rw [if_neg hne]
  exact wlen a ha
theorem zW_u19 {r : Nat → Int32} (h : zW r) {v : Int32} (hv : 0 ≤ v.toInt ∧ v.toInt ≤ 600) : zW (zu r 19 v) := by
  obtain ⟨wN, wd, wc, wg, wt, wT, ws, ww, wb, we, wu, wl, wp0, wr0, wL0, wD0, wm0, wp1, wr1, wL1, wD1, wm1, wS0, wS1, wlen⟩ := h
  unfold zW
  simp only [zu_ap, Nat.reduceEqDiff, if_true, if_false]
  refine ⟨wN, wd, wc, wg, wt, wT, ws, ww, wb, we, hv, wl, wp0, wr0, wL0, wD0, wm0, wp1, wr1, wL1, wD1, wm1, wS0, wS1, fun a ha => ?_⟩
  have hne : ¬ 219 + a = 19 := by omega
  rw [if_neg hne]
  exact wlen a ha
theorem zW_u20 {r : Nat → Int32} (h : zW r) {v : Int32} (hv : 0 ≤ v.toInt ∧ v.toInt ≤ 20) : zW (zu r 20 v) := by
  obtain ⟨wN, wd, wc, wg, wt, wT, ws, ww, wb, we, wu, wl, wp0, wr0, wL0, wD0, wm0, wp1, wr1, wL1, wD1, wm1, wS0, wS1, wlen⟩ := h
  unfold zW
  simp only [zu_ap, Nat.reduceEqDiff, if_true, if_false]
  refine ⟨wN, wd, wc, wg, wt, wT, ws, ww, wb, we, wu, hv, wp0, wr0, wL0, wD0, wm0, wp1, wr1, wL1, wD1, wm1, wS0, wS1, fun a ha => ?_⟩
  have hne : ¬ 219 + a = 20 := by omega
  rw [if_neg hne]
  exact wlen a ha
theorem zW_u2 {r : Nat → Int32} (h : zW r) {v : Int32} (hv : 0 ≤ v.toInt ∧ v.toInt ≤ 500) : zW (zu r 2 v) := by
  obtain ⟨wN, wd, wc, wg, wt, wT, ws, ww, wb, we, wu, wl, wp0, wr0, wL0, wD0, wm0, wp1, wr1, wL1, wD1, wm1, wS0, wS1, wlen⟩ := h
  unfold zW
  simp only [zu_ap, Nat.reduceEqDiff, if_true, if_false]
  refine ⟨wN, wd, hv, wg, wt, wT, ws, ww, wb, we, wu, wl, wp0, wr0, wL0, wD0, wm0, wp1, wr1, wL1, wD1, wm1, wS0, wS1, fun a ha => ?_⟩
  have hne : ¬ 219 + a = 2 := by omega
  rw [if_neg hne]
  exact wlen a ha
theorem zW_u6 {r : Nat → Int32} (h : zW r) {v : Int32} (hv : v = -1 ∨ v = 0 ∨ v = 1) (h0 : v = 0 → (r 27).toInt < (r 25).toInt) (h1 : v = 1 → (r 28).toInt < (r 26).toInt) : zW (zu r 6 v) := by
  obtain ⟨wN, wd, wc, wg, wt, wT, ws, ww, wb, we, wu, wl, wp0, wr0, wL0, wD0, wm0, wp1, wr1, wL1, wD1, wm1, wS0, wS1, wlen⟩ := h
  unfold zW
  simp only [zu_ap, Nat.reduceEqDiff, if_true, if_false]
  refine ⟨wN, wd, wc, wg, wt, wT, hv, ww, wb, we, wu, wl, wp0, wr0, wL0, wD0, wm0, wp1, wr1, wL1, wD1, wm1, h0, h1, fun a ha => ?_⟩
  have hne : ¬ 219 + a = 6 := by omega
  rw [if_neg hne]
  exact wlen a ha
theorem zW_u21 {r : Nat → Int32} (h : zW r) {v : Int32} (hv : 0 ≤ v.toInt ∧ v.toInt < 1000 * (r 0).toInt) : zW (zu r 21 v) := by
  obtain ⟨wN, wd, wc, wg, wt, wT, ws, ww, wb, we, wu, wl, wp0, wr0, wL0, wD0, wm0, wp1, wr1, wL1, wD1, wm1, wS0, wS1, wlen⟩ := h
  unfold zW
  simp only [zu_ap, Nat.reduceEqDiff, if_true, if_false]
  refine ⟨wN, wd, wc, wg, wt, wT, ws, ww, wb, we, wu, wl, hv, wr0, wL0, wD0, wm0, wp1, wr1, wL1, wD1, wm1, wS0, wS1, fun a ha => ?_⟩
  have hne : ¬ 219 + a = 21 := by omega
  rw [if_neg hne]
  exact wlen a ha
theorem zW_u23 {r : Nat → Int32} (h : zW r) {v : Int32} (hv : 10 ≤ v.toInt ∧ v.toInt ≤ 999) : zW (zu r 23 v) := by
  obtain ⟨wN, wd, wc, wg, wt, wT, ws, ww, wb, we, wu, wl, wp0, wr0, wL0, wD0, wm0, wp1, wr1, wL1, wD1, wm1, wS0, wS1, wlen⟩ := h
  unfold zW
  simp only [zu_ap, Nat.reduceEqDiff, if_true, if_false]
  refine ⟨wN, wd, wc, wg, wt, wT, ws, ww, wb, we, wu, wl, wp0, hv, wL0, wD0, wm0, wp1, wr1, wL1, wD1, wm1, wS0, wS1, fun a ha => ?_⟩
  have hne : ¬ 219 + a = 23 := by omega
  rw [if_neg hne]
  exact wlen a ha
theorem zW_u29 {r : Nat → Int32} (h : zW r) {v : Int32} (hv : 0 ≤ v.toInt ∧ v.toInt ≤ 1000) : zW (zu r 29 v) := by
  obtain ⟨wN, wd, wc, wg, wt, wT, ws, ww, wb, we, wu, wl, wp0, wr0, wL0, wD0, wm0, wp1, wr1, wL1, wD1, wm1, wS0, wS1, wlen⟩ := h
  unfold zW
  simp only [zu_ap, Nat.reduceEqDiff, if_true, if_false]
  refine ⟨wN, wd, wc, wg, wt, wT, ws, ww, wb, we, wu, wl, wp0, wr0, wL0, wD0, hv, wp1, wr1, wL1, wD1, wm1, wS0, wS1, fun a ha => ?_⟩
  have hne : ¬ 219 + a = 29 := by omega
  rw [if_neg hne]
  exact wlen a ha
theorem zW_u27 {r : Nat → Int32} (h : zW r) {v : Int32} (hv : 0 ≤ v.toInt ∧ v.toInt ≤ (r 25).toInt) (h0 : r 6 = 0 → v.toInt < (r 25).toInt) : zW (zu r 27 v) := by
  obtain ⟨wN, wd, wc, wg, wt, wT, ws, ww, wb, we, wu, wl, wp0, wr0, wL0, wD0, wm0, wp1, wr1, wL1, wD1, wm1, wS0, wS1, wlen⟩ := h
  unfold zW
  simp only [zu_ap, Nat.reduceEqDiff, if_true, if_false]
  refine ⟨wN, wd, wc, wg, wt, wT, ws, ww, wb, we, wu, wl, wp0, wr0, wL0, hv, wm0, wp1, wr1, wL1, wD1, wm1, h0, wS1, fun a ha => ?_⟩
  have hne : ¬ 219 + a = 27 := by omega
  rw [if_neg hne]
  exact wlen a ha
theorem zW_u22 {r : Nat → Int32} (h : zW r) {v : Int32} (hv : 0 ≤ v.toInt ∧ v.toInt < 1000 * (r 0).toInt) : zW (zu r 22 v) := by
  obtain ⟨wN, wd, wc, wg, wt, wT, ws, ww, wb, we, wu, wl, wp0, wr0, wL0, wD0, wm0, wp1, wr1, wL1, wD1, wm1, wS0, wS1, wlen⟩ := h
  unfold zW
  simp only [zu_ap, Nat.reduceEqDiff, if_true, if_false]
  refine ⟨wN, wd, wc, wg, wt, wT, ws, ww, wb, we, wu, wl, wp0, wr0, wL0, wD0, wm0, hv, wr1, wL1, wD1, wm1, wS0, wS1, fun a ha => ?_⟩
  have hne : ¬ 219 + a = 22 := by omega
  rw [if_neg hne]
  exact wlen a ha
theorem zW_u24 {r : Nat → Int32} (h : zW r) {v : Int32} (hv : 10 ≤ v.toInt ∧ v.toInt ≤ 999) : zW (zu r 24 v) := by
  obtain ⟨wN, wd, wc, wg, wt, wT, ws, ww, wb, we, wu, wl, wp0, wr0, wL0, wD0, wm0, wp1, wr1, wL1, wD1, wm1, wS0, wS1, wlen⟩ := h
  unfold zW
  simp only [zu_ap, Nat.reduceEqDiff, if_true, if_false]
  refine ⟨wN, wd, wc, wg, wt, wT, ws, ww, wb, we, wu, wl, wp0, wr0, wL0, wD0, wm0, wp1, hv, wL1, wD1, wm1, wS0, wS1, fun a ha => ?_⟩
  have hne : ¬ 219 + a = 24 := by omega
  rw [if_neg hne]
  exact wlen a ha
theorem zW_u30 {r : Nat → Int32} (h : zW r) {v : Int32} (hv : 0 ≤ v.toInt ∧ v.toInt ≤ 1000) : zW (zu r 30 v) := by
  obtain ⟨wN, wd, wc, wg, wt, wT, ws, ww, wb, we, wu, wl, wp0, wr0, wL0, wD0, wm0, wp1, wr1, wL1, wD1, wm1, wS0, wS1, wlen⟩ := h
  unfold zW
  simp only [zu_ap, Nat.reduceEqDiff, if_true, if_false]
  refine ⟨wN, wd, wc, wg, wt, wT, ws, ww, wb, we, wu, wl, wp0, wr0, wL0, wD0, wm0, wp1, wr1, wL1, wD1, hv, wS0, wS1, fun a ha => ?_⟩
  have hne : ¬ 219 + a = 30 := by omega
  rw [if_neg hne]
  exact wlen a ha
theorem zW_u28 {r : Nat → Int32} (h : zW r) {v : Int32} (hv : 0 ≤ v.toInt ∧ v.toInt ≤ (r 26).toInt) (h1 : r 6 = 1 → v.toInt < (r 26).toInt) : zW (zu r 28 v) := by
  obtain ⟨wN, wd, wc, wg, wt, wT, ws, ww, wb, we, wu, wl, wp0, wr0, wL0, wD0, wm0, wp1, wr1, wL1, wD1, wm1, wS0, wS1, wlen⟩ := h
  unfold zW
  simp only [zu_ap, Nat.reduceEqDiff, if_true, if_false]
  refine ⟨wN, wd, wc, wg, wt, wT, ws, ww, wb, we, wu, wl, wp0, wr0, wL0, wD0, wm0, wp1, wr1, wL1, hv, wm1, wS0, h1, fun a ha => ?_⟩
  have hne : ¬ 219 + a = 28 := by omega
  rw [if_neg hne]
  exact wlen a ha
theorem nk {k : Nat} (h : (8 ≤ k ∧ k ≤ 10) ∨ (12 ≤ k ∧ k ≤ 17) ∨ (31 ≤ k ∧ k < 219) ∨ 243 ≤ k) : ¬ zkey k := by unfold zkey; omega
theorem zW_clears {r : Nat → Int32} (h : zW r) : zW (rClears r) := zW_out (zW_out (zW_out (zW_u11 h (by decide)) (nk (by omega)) _) (nk (by omega)) _) (nk (by omega)) _
theorem zW_ends {r : Nat → Int32} (h : zW r) : zW (rEnds r) := zW_clears (zW_u19 (zW_out (zW_out (zW_u7 (zW_u6 h (Or.inl rfl) (fun h => absurd h (by decide)) (fun h => absurd h (by decide))) (Or.inl rfl)) (nk (by omega)) _) (nk (by omega)) _) (by decide))
theorem zW_begins {r : Nat → Int32} (h : zW r) : zW (rBegins r) := zW_out (zW_u7 h (Or.inl rfl)) (nk (by omega)) _
theorem zW_put {r : Nat → Int32} (h : zW r) {b cnt : Nat} (hb : b = 99 ∧ cnt = 18 ∨ b = 2963 ∧ cnt = 19) (h0 : 0 ≤ (r cnt).toInt) (h1 : (r cnt).toInt ≤ (if cnt = 18 then 39 else 599)) {x y z : Int32} : zW (rPut r b cnt x y z) := by
  have c0 := ncl h0
  unfold rPut
  rcases hb with ⟨rfl, rfl⟩ | ⟨rfl, rfl⟩
  · rw [if_pos rfl] at h1
    have e2 : (r 18 + 1).toInt = (r 18).toInt + 1 := ixs (k := 1) rfl (by decide) (by omega) (by omega)
    exact zW_u18 (zW_out (zW_out (zW_out h (nk (by omega)) _) (nk (by omega)) _) (nk (by omega)) _) (by omega)
  · rw [if_neg (by decide)] at h1
    have e2 : (r 19 + 1).toInt = (r 19).toInt + 1 := ixs (k := 1) rfl (by decide) (by omega) (by omega)
    exact zW_u19 (zW_out (zW_out (zW_out h (nk (by omega)) _) (nk (by omega)) _) (nk (by omega)) _) (by omega)
theorem zW_sends {r : Nat → Int32} (h : zW r) (h1 : (r 19).toInt ≤ 599) {x y : Int32} : zW (rSends r x y) := zW_put h (Or.inr ⟨rfl, rfl⟩) h.u.1 h1
theorem zW_notes {r : Nat → Int32} (h : zW r) {x y : Int32} : zW (rNotes r x y) := by
  have hu := h.e
  unfold rNotes
  split
  · have hc : zW (rCut r) := by
      unfold rCut
      refine zW_u18 (zW_cong (fun k hk => zcut_out r (by unfold zkey at hk; omega)) h) ?_
      have h40 : r 18 = 40 := by assumption
      rw [h40]
      decide
    have e : rCut r 18 = 39 := by
      unfold rCut
      rw [zu_self]
      have h40 : r 18 = 40 := by assumption
      rw [h40]
      decide
    exact zW_put hc (Or.inl ⟨rfl, rfl⟩) (by rw [e]; decide) (by rw [e]; decide)
  · have h9 : (r 18).toInt ≠ 40 := fun e => (by assumption : ¬ r 18 = 40) (by rw [neq, e]; rfl)
    exact zW_put h (Or.inl ⟨rfl, rfl⟩) hu.1 (by rw [if_pos rfl]; omega)
theorem zW_lineDone {r : Nat → Int32} (h : zW r) (h6 : r 6 = 0 ∨ r 6 = 1) : zW (rLineDone r) := by
  have hL0 := h.L0
  have hL1 := h.L1
  have hD0 := h.D0
  have hD1 := h.D1
  have hS0 := h.S0
  have hS1 := h.S1
  rcases h6 with h6 | h6
  · have hs := hS0 h6
    have e2 : (r 27 + 1).toInt = (r 27).toInt + 1 := ixs (k := 1) rfl (by decide) (by omega) (by omega)
    simp only [rLineDone, zo, rDone, h6, cq0, Nat.add_zero]
    split
    · have hd : zW (zu (zu (zu r 6 (-1)) 27 (r 27 + 1)) 10 0) := zW_out (zW_u27 (zW_u6 h (Or.inl rfl) (fun h => absurd h (by decide)) (fun h => absurd h (by decide))) (by simp only [zu_ap, Nat.reduceEqDiff, if_false]; omega) (fun h => absurd h (by simp only [zu_ap, if_true]; decide))) (nk (by omega)) _
      have he : rEnds (zu (zu r 27 (r 27 + 1)) 10 0) = rEnds (zu (zu (zu r 6 (-1)) 27 (r 27 + 1)) 10 0) := by
        funext j
        simp only [rEnds, rClears, zu_ap]
        by_cases h9 : j = 6
        · subst h9
          rfl
        · simp only [h9, if_false]
      rw [he]
      exact zW_notes (zW_ends hd)
    · rename_i hc
      rw [nle, e2] at hc
      exact zW_begins (zW_out (zW_u27 h (by omega) (fun _ => by omega)) (nk (by omega)) _)
  · have hs := hS1 h6
    have e2 : (r 28 + 1).toInt = (r 28).toInt + 1 := ixs (k := 1) rfl (by decide) (by omega) (by omega)
    simp only [rLineDone, zo, rDone, h6, cq1, Nat.reduceAdd]
    split
    · have hd : zW (zu (zu (zu r 6 (-1)) 28 (r 28 + 1)) 10 0) := zW_out (zW_u28 (zW_u6 h (Or.inl rfl) (fun h => absurd h (by decide)) (fun h => absurd h (by decide))) (by simp only [zu_ap, Nat.reduceEqDiff, if_false]; omega) (fun h => absurd h (by simp only [zu_ap, if_true]; decide))) (nk (by omega)) _
      have he : rEnds (zu (zu r 28 (r 28 + 1)) 10 0) = rEnds (zu (zu (zu r 6 (-1)) 28 (r 28 + 1)) 10 0) := by
        funext j
        simp only [rEnds, rClears, zu_ap]
        by_cases h9 : j = 6
        · subst h9
          rfl
        · simp only [h9, if_false]
      rw [he]
      exact zW_notes (zW_ends hd)
    · rename_i hc
      rw [nle, e2] at hc
      exact zW_begins (zW_out (zW_u28 h (by omega) (fun _ => by omega)) (nk (by omega)) _)
theorem zW_lineFailed {r : Nat → Int32} (h : zW r) (h6 : r 6 = 0 ∨ r 6 = 1) : zW (rLineFailed r) := by
  have hu := h.e
  unfold rLineFailed
  split
  · exact zW_lineDone (zW_notes h) (by rw [rNotes_out r hu.1 hu.2 (by decide) (by decide)]; exact h6)
  · exact zW_notes (zW_begins (zW_out h (nk (by omega)) _))
theorem zW_breaks {r : Nat → Int32} (h : zW r) : zW (rBreaks r) := zW_notes (zW_ends h)
theorem zW_answers {r : Nat → Int32} (h : zW r) (h6 : r 6 = 0 ∨ r 6 = 1) (b : Bool) : zW (rAnswers r b) := by
  unfold rAnswers
  split
  · exact h
  · split
    · exact zW_lineDone h h6
    · exact zW_lineFailed h h6
theorem zW.mq {r : Nat → Int32} (h : zW r) {q : Nat} (hq : q = 0 ∨ q = 1) : 0 ≤ (r (29 + q)).toInt ∧ (r (29 + q)).toInt ≤ 1000 := by
  rcases hq with rfl | rfl
  · exact h.m0
  · exact h.m1
theorem zW_receives {r : Nat → Int32} (h : zW r) {q : Nat} (hq : q = 0 ∨ q = 1) (c : Int32) : zW (rReceives r q c) := by
  have hm := h.mq hq
  have hb := rReceives_b r q c hm.1 hm.2
  unfold rReceives at hb ⊢
  split
  · exact h
  · rename_i hc
    rw [if_neg hc, zu_self] at hb
    rcases hq with rfl | rfl
    · exact zW_u29 (zW_out h (nk (by omega)) _) hb
    · exact zW_u30 (zW_out h (nk (by omega)) _) hb
theorem zW_recvs {r : Nat → Int32} (h : zW r) {q : Nat} (hq : q = 0 ∨ q = 1) : ∀ k, zW (rRecvs r q k)
  | 0 => h
  | k + 1 => zW_receives (zW_recvs h hq k) hq _
theorem zW_checks {r : Nat → Int32} (h : zW r) {q : Nat} (hq : q = 0 ∨ q = 1) (h19 : (r 19).toInt ≤ 599) (p : Int32) : zW (rChecks r q p) := by
  have hu := h.e
  have hn := fun x y : Int32 => rNotes_out r (x := x) (y := y) (j := 19) hu.1 hu.2 (by decide) (by decide)
  unfold rChecks
  split
  · have h2 := zW_recvs (zW_notes (x := 1) (y := r 11) h) hq (r 11).toNatClampNeg
    have hm := (zW_notes (x := 1) (y := r 11) h).mq hq
    have hb := rRecvs_b (rNotes r 1 (r 11)) q hm.1 hm.2 (r 11).toNatClampNeg
    refine zW_clears (zW_sends (zW_receives h2 hq 47) ?_)
    rw [rReceives_out _ q _ hb.1 hb.2 (by omega) (by omega), rRecvs_out _ q hm.1 hm.2 (by omega) (by omega), hn]
    exact h19
  · refine zW_clears (zW_sends (zW_notes h) ?_)
    rw [hn]
    exact h19
theorem zW_means {r : Nat → Int32} (h : zW r) {q : Nat} (hq : q = 0 ∨ q = 1) (h19 : (r 19).toInt ≤ 599) (p : Int32) : zW (rMeans r q p) := by
  have hb := h.b
  have c0 := ncl hb.1
  unfold rMeans
  split
  · exact zW_checks h hq h19 p
  · split
    · exact zW_out h (nk (by omega)) _
    · unfold rTake rCount rLetter
      split
      · split
        · exact zW_out h (nk (by omega)) _
        · rename_i h40
          rw [nle] at h40
          have t40 : (40 : Int32).toInt = 40 := rfl
          have e2 : (r 11 + 1).toInt = (r 11).toInt + 1 := ixs (k := 1) rfl (by decide) (by omega) (by omega)
          exact zW_out (zW_u11 (zW_out h (nk (by omega)) _) (by omega)) (nk (by omega)) _
      · exact zW_out (zW_out h (nk (by omega)) _) (nk (by omega)) _
theorem zW_printed {r : Nat → Int32} (h : zW r) {q : Nat} (hq : q = 0 ∨ q = 1) (pos : Int32) : zW (rPrinted r q pos) ∧ rPrinted r q pos 19 = r 19 ∧ rPrinted r q pos 6 = r 6 := by
  have hN := h.N
  have key : ∀ b : Int32, zW (rTurned r q b) ∧ rTurned r q b 19 = r 19 ∧ rTurned r q b 6 = r 6 := by
    intro b
    have hm : 0 ≤ (mI ((r (21 + q)).toInt - b.toInt) (1000 * (r 0).toInt)).toInt ∧ (mI ((r (21 + q)).toInt - b.toInt) (1000 * (r 0).toInt)).toInt < 1000 * (r 0).toInt := ⟨mI_lo (by omega) (by omega), mI_hi (by omega) (by omega)⟩
    unfold rTurned
    rcases hq with rfl | rfl
    · exact ⟨zW_u21 h hm, zu_ne (by decide), zu_ne (by decide)⟩
    · exact ⟨zW_u22 h hm, zu_ne (by decide), zu_ne (by decide)⟩
  obtain ⟨k1, k2, k3⟩ := key (pClamp (rOff r q) (r 2))
  unfold rPrinted
  generalize rTurned r q (pClamp (rOff r q) (r 2)) = r1 at k1 k2 k3
  have a1 : zW (rPc r1 q (rOff r q)) ∧ rPc r1 q (rOff r q) 19 = r 19 ∧ rPc r1 q (rOff r q) 6 = r 6 := by
    unfold rPc
    exact ⟨zW_out (zW_out k1 (nk (by omega)) _) (nk (by omega)) _, by rw [zu_ne (by omega), zu_ne (by omega)]; exact k2, by rw [zu_ne (by omega), zu_ne (by omega)]; exact k3⟩
  have a2 : zW (rP2 (rPc r1 q (rOff r q)) q (pAbs (rOff r q))) ∧ rP2 (rPc r1 q (rOff r q)) q (pAbs (rOff r q)) 19 = r 19 ∧ rP2 (rPc r1 q (rOff r q)) q (pAbs (rOff r q)) 6 = r 6 := by
    unfold rP2
    split
    · exact a1
    · exact ⟨zW_out a1.1 (nk (by omega)) _, by rw [zu_ne (by omega)]; exact a1.2.1, by rw [zu_ne (by omega)]; exact a1.2.2⟩
  generalize rP2 (rPc r1 q (rOff r q)) q (pAbs (rOff r q)) = r2 at a2 ⊢
  unfold rP3
  split
  · exact a2
  · exact ⟨zW_out a2.1 (nk (by omega)) _, by rw [zu_ne (by omega)]; exact a2.2.1, by rw [zu_ne (by omega)]; exact a2.2.2⟩
theorem zW_prints {r : Nat → Int32} (h : zW r) {q : Nat} (hq : q = 0 ∨ q = 1) (h19 : (r 19).toInt ≤ 599) (pos : Int32) : zW (rPrints r q pos) := by
  obtain ⟨k1, k2, -⟩ := zW_printed h hq pos
  exact zW_means (zW_out k1 (nk (by omega)) _) hq (by rw [zu_ne (by decide), k2]; exact h19) _
theorem zW.ho {r : Nat → Int32} (h6 : r 6 = 0 ∨ r 6 = 1) : ∃ q, (q = 0 ∨ q = 1) ∧ q = ((1 : Int32) - r 6).toNatClampNeg ∧ ((1 : Int32) - r 6 = 0 ∧ q = 0 ∨ (1 : Int32) - r 6 = 1 ∧ q = 1) := by
  rcases h6 with h | h
  · exact ⟨1, Or.inr rfl, by rw [h]; rfl, Or.inr ⟨by rw [h]; rfl, rfl⟩⟩
  · exact ⟨0, Or.inl rfl, by rw [h]; rfl, Or.inl ⟨by rw [h]; rfl, rfl⟩⟩
theorem zW.ok {r : Nat → Int32} (h : zW r) {q : Nat} (ho : (1 : Int32) - r 6 = 0 ∧ q = 0 ∨ (1 : Int32) - r 6 = 1 ∧ q = 1) (h19 : (r 19).toInt ≤ 599) : zOkM r q := ⟨ho, h.N, h.e, ⟨h.u.1, h19⟩, h.b, h.mq (by omega)⟩

/-! from 49.arrives -/
/-! THE MODEL'S TICK -/
def rPop (r : Nat → Int32) : Nat → Int32 := zcut (zu r 19 (r 19 - 1)) 2963 (3 * (r 19 - 1).toNatClampNeg)
def zq (r : Nat → Int32) : Nat := ((1 : Int32) - r 6).toNatClampNeg
def rEntry (r : Nat → Int32) (w v : Int32) : Nat → Int32 := if w = 0 then rPrints r (zq r) v else if w = 1 then rAnswers r true else if w = 2 then rAnswers r false else rBreaks r
def fEntry (r : Nat → Int32) (far w : Int32) : Int32 := if w = 0 then fFar far (pAbs (rOff r (zq r))) else far
def rDue (r : Nat → Int32) : Prop := ¬ r 19 ≤ 0 ∧ r 2963 = r 5
def rStep (x : (Nat → Int32) × Int32) : (Nat → Int32) × Int32 := (rEntry (rPop x.1) (x.1 2964) (x.1 2965), fEntry (rPop x.1) x.2 (x.1 2964))
def rArr : Nat → (Nat → Int32) × Int32 → (Nat → Int32) × Int32
  | 0, x => x
  | k + 1, x => if ¬ x.1 19 ≤ 0 ∧ x.1 2963 = x.1 5 then rArr k (rStep x) else x
theorem zW_pop {r : Nat → Int32} (h : zW r) (h0 : ¬ r 19 ≤ 0) : zW (rPop r) ∧ (rPop r 19).toInt = (r 19).toInt - 1 ∧ rPop r 6 = r 6 := by
  have hu := h.u
  rw [nle] at h0
  have z0 : (0 : Int32).toInt = 0 := rfl
  have e2 : (r 19 - 1).toInt = (r 19).toInt - 1 := nsub (b := 1) (by show _ ≤ (r 19).toInt - 1; omega) (by show (r 19).toInt - 1 < _; omega)
  unfold rPop
  refine ⟨zW_cong (fun k hk => zcut_out _ (by unfold zkey at hk; omega)) (zW_u19 h (by omega)), ?_, ?_⟩
  · rw [zcut_out _ (by omega), zu_self, e2]
  · rw [zcut_out _ (by omega), zu_ne (by decide)]
theorem zW_entry {r : Nat → Int32} (h : zW r) (h19 : (r 19).toInt ≤ 599) (h6 : r 6 = 0 ∨ r 6 = 1) (w v : Int32) : zW (rEntry r w v) := by
  obtain ⟨q, hq, e, ho⟩ := zW.ho h6
  unfold rEntry zq
  rw [← e]
  split
  · exact zW_prints h hq h19 v
  · split
    · exact zW_answers h h6 true
    · split
      · exact zW_answers h h6 false
      · exact zW_breaks h
/-- while the transit is in use there is a sender -/
def zUS (r : Nat → Int32) : Prop := r 6 = 0 ∨ r 6 = 1 ∨ r 19 = 0
/-! from 50.looks -/
/-! THE MODEL'S TICK: what is sent; the tick -/
def zact (r : Nat → Int32) : Prop := ¬ r 6 = -1 ∧ ¬ r 7 = 1
def zLn (r : Nat → Int32) : Nat := 12 * zo r + (r (27 + zo r)).toNatClampNeg
def rPosn (r : Nat → Int32) : Int32 := (rPath r (zLn r)).getD (r 9).toNatClampNeg 0
def rFar (r : Nat → Int32) : Int32 := mI ((r (21 + zo r)).toInt - 1000 * (rPosn r).toInt) (1000 * (r 0).toInt)
def rCnt (r : Nat → Int32) : Nat → Int32 := zu r 16 (r 16 + 1)
def rSnd (r : Nat → Int32) (p : Int32) : Nat → Int32 := if rLost r (r 16) then zu r 17 (r 17 + 1) else rSends r 0 p
def rEndL (r : Nat → Int32) (L : Nat) : Nat → Int32 := if r 9 = nI L then zu (zu r 7 1) 8 (r 5 + 2 * r 1 + r 3) else r
def rNext (r : Nat → Int32) (L : Nat) : Nat → Int32 := rEndL (zu r 9 (r 9 + 1)) L
def rLooks (r : Nat → Int32) : Nat → Int32 := if r 6 = -1 ∨ r 7 = 1 then r else if r (23 + zo r) ≤ rFar r then r else rNext (rSnd (rCnt r) (rPosn r)) (rPath r (zLn r)).length
/-! from 51.tick -/
/-! THE MODEL'S TICK -/
def rTurn1 (r : Nat → Int32) (q : Nat) : Nat → Int32 := zu r (21 + q) (mI ((r (21 + q)).toInt + (r (23 + q)).toInt) (1000 * (r 0).toInt))
def rTick0 (r : Nat → Int32) : Nat → Int32 := rTurn1 (rTurn1 (zu r 5 (r 5 + 1)) 0) 1
def rT1 (r : Nat → Int32) : Nat → Int32 := if r 6 = -1 then r else if r 7 = 1 then (if r 5 < r 8 then r else rLineFailed r) else r
def rT2 (r : Nat → Int32) : Nat → Int32 := if r 6 = -1 then r else if r 5 - r 15 < r 3 then r else rClears r
def rArrd (x : (Nat → Int32) × Int32) : (Nat → Int32) × Int32 := rArr 601 (rTick0 x.1, x.2)
def rTick (x : (Nat → Int32) × Int32) : (Nat → Int32) × Int32 := (rT2 (rT1 (rLooks (rArrd x).1)), (rArrd x).2)
theorem zW_looks {r : Nat → Int32} (h : zW r) (h19 : (r 19).toInt ≤ 599) : zW (rLooks r) := by
  unfold rLooks
  split
  · exact h
  · split
    · exact h
    · have h1 : zW (rCnt r) := zW_out h (nk (by omega)) _
      have h2 : zW (rSnd (rCnt r) (rPosn r)) := by
        unfold rSnd
        split
        · exact zW_out h1 (nk (by omega)) _
        · exact zW_sends h1 (by show (zu r 16 (r 16 + 1) 19).toInt ≤ 599; rw [zu_ne (by decide)]; exact h19)
      unfold rNext rEndL
      have h3 : zW (zu (rSnd (rCnt r) (rPosn r)) 9 (rSnd (rCnt r) (rPosn r) 9 + 1)) := zW_out h2 (nk (by omega)) _
      generalize zu (rSnd (rCnt r) (rPosn r)) 9 (rSnd (rCnt r) (rPosn r) 9 + 1) = r3 at h3 ⊢
      split
      · exact zW_out (zW_u7 h3 (Or.inr rfl)) (nk (by omega)) _
      · exact h3
theorem zW.h6 {r : Nat → Int32} (h : zW r) (hn : ¬ r 6 = -1) : r 6 = 0 ∨ r 6 = 1 := h.s.elim (fun e => absurd e hn) id
theorem zW_T1 {r : Nat → Int32} (h : zW r) : zW (rT1 r) := by
  unfold rT1
  split
  · exact h
  · split
    · split
      · exact h
      · exact zW_lineFailed h (h.h6 (by assumption))
    · exact h
theorem zW_T2 {r : Nat → Int32} (h : zW r) : zW (rT2 r) := by
  unfold rT2
  split
  · exact h
  · split
    · exact h
    · exact zW_clears h
theorem zW_tick0 {r : Nat → Int32} (h : zW r) (hT : (r 5).toInt ≤ 109999) : zW (rTick0 r) := by
  have hN := h.N
  have h5 := h.T
  have e5 : (r 5 + 1).toInt = (r 5).toInt + 1 := ixs (k := 1) rfl (by decide) (by omega) (by omega)
  have h1 : zW (zu r 5 (r 5 + 1)) := zW_u5 h (by omega)
  have key : ∀ r' : Nat → Int32, zW r' → ∀ q, q = 0 ∨ q = 1 → zW (rTurn1 r' q) := by
    intro r' h' q hq
    have hN' := h'.N
    have hm : 0 ≤ (mI ((r' (21 + q)).toInt + (r' (23 + q)).toInt) (1000 * (r' 0).toInt)).toInt ∧ (mI ((r' (21 + q)).toInt + (r' (23 + q)).toInt) (1000 * (r' 0).toInt)).toInt < 1000 * (r' 0).toInt := ⟨mI_lo (by omega) (by omega), mI_hi (by omega) (by omega)⟩
    unfold rTurn1
    rcases hq with rfl | rfl
    · exact zW_u21 h' hm
    · exact zW_u22 h' hm
  exact key _ (key _ h1 0 (Or.inl rfl)) 1 (Or.inr rfl)
