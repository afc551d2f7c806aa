/-! THE CLASS'S STEPS: prints, what is taken -/
theorem zfig_n : ∀ k, k < 26 → narrow .char (.int ((zSbyt.getD 13 []).getD k 0)) = .int ((zSbyt.getD 13 []).getD k 0) := by decide +kernel
theorem RRs_12 {f : Nat → Nat → Int32} {s0 s1 : Int64} {r : Nat → Int32} (h : RR f s0 s1 r) (nb : (r 11).toNatClampNeg ≤ 40) (v : Int32) : RR (zf f 7 1 v) s0 s1 (zu r 12 v) := by
  obtain ⟨h1, ⟨h2, h2'⟩, ⟨h3, h3'⟩, h4, h5, h6, h7, h8, h9⟩ := h
  have er : ∀ k, k ≠ 12 → zu r 12 v k = r k := fun k hk => zu_ne hk
  have ef : ∀ k, k ≠ 7 → zf f 7 1 v k = f k := fun k hk => zf_ne hk
  refine ⟨RS_c h1 (ef 0 (by omega)) (fun k hk => er k (by omega)), ⟨RO_c h2 (ef 1 (by omega)) (fun k hk => er k (by omega)), RO_c h2' (ef 4 (by omega)) (fun k hk => er k (by omega))⟩, ⟨RV_c h3 (ef 2 (by omega)) (ef 3 (by omega)) (er _ (by omega)) (fun k hk => er _ (by omega)), RV_c h3' (ef 5 (by omega)) (ef 6 (by omega)) (er _ (by omega)) (fun k hk => er _ (by omega))⟩, ?_, RT_c h5 (ef 10 (by omega)) (ef 11 (by omega)) (er _ (by omega)) (fun k hk => er _ (by omega)), RE_c h6 (ef 12 (by omega)) (ef 13 (by omega)) (er _ (by omega)) (fun k hk => er _ (by omega)), RZ_c h7 (ef 14 (by omega)) (ef 15 (by omega)) (er _ (by omega)) (fun k hk => er _ (by omega)), by rw [er 37 (by omega)]; exact h8, by rw [er 38 (by omega)]; exact h9⟩
  unfold RB
  simp only [zf_ap, zu_ap, if_true, Nat.reduceEqDiff, if_false]
  exact ⟨trivial, h4.2.1, h4.2.2.1, h4.2.2.2.1, fun j hj => by rw [if_neg (by omega)]; exact h4.2.2.2.2 j hj⟩
theorem RRs_13 {f : Nat → Nat → Int32} {s0 s1 : Int64} {r : Nat → Int32} (h : RR f s0 s1 r) (nb : (r 11).toNatClampNeg ≤ 40) (v : Int32) : RR (zf f 7 2 v) s0 s1 (zu r 13 v) := by
  obtain ⟨h1, ⟨h2, h2'⟩, ⟨h3, h3'⟩, h4, h5, h6, h7, h8, h9⟩ := h
  have er : ∀ k, k ≠ 13 → zu r 13 v k = r k := fun k hk => zu_ne hk
  have ef : ∀ k, k ≠ 7 → zf f 7 2 v k = f k := fun k hk => zf_ne hk
  refine ⟨RS_c h1 (ef 0 (by omega)) (fun k hk => er k (by omega)), ⟨RO_c h2 (ef 1 (by omega)) (fun k hk => er k (by omega)), RO_c h2' (ef 4 (by omega)) (fun k hk => er k (by omega))⟩, ⟨RV_c h3 (ef 2 (by omega)) (ef 3 (by omega)) (er _ (by omega)) (fun k hk => er _ (by omega)), RV_c h3' (ef 5 (by omega)) (ef 6 (by omega)) (er _ (by omega)) (fun k hk => er _ (by omega))⟩, ?_, RT_c h5 (ef 10 (by omega)) (ef 11 (by omega)) (er _ (by omega)) (fun k hk => er _ (by omega)), RE_c h6 (ef 12 (by omega)) (ef 13 (by omega)) (er _ (by omega)) (fun k hk => er _ (by omega)), RZ_c h7 (ef 14 (by omega)) (ef 15 (by omega)) (er _ (by omega)) (fun k hk => er _ (by omega)), by rw [er 37 (by omega)]; exact h8, by rw [er 38 (by omega)]; exact h9⟩
  unfold RB
  simp only [zf_ap, zu_ap, if_true, Nat.reduceEqDiff, if_false]
  exact ⟨h4.1, trivial, h4.2.2.1, h4.2.2.2.1, fun j hj => by rw [if_neg (by omega)]; exact h4.2.2.2.2 j hj⟩
theorem RRs_14 {f : Nat → Nat → Int32} {s0 s1 : Int64} {r : Nat → Int32} (h : RR f s0 s1 r) (nb : (r 11).toNatClampNeg ≤ 40) (v : Int32) : RR (zf f 7 3 v) s0 s1 (zu r 14 v) := by
  obtain ⟨h1, ⟨h2, h2'⟩, ⟨h3, h3'⟩, h4, h5, h6, h7, h8, h9⟩ := h
  have er : ∀ k, k ≠ 14 → zu r 14 v k = r k := fun k hk => zu_ne hk
  have ef : ∀ k, k ≠ 7 → zf f 7 3 v k = f k := fun k hk => zf_ne hk
  refine ⟨RS_c h1 (ef 0 (by omega)) (fun k hk => er k (by omega)), ⟨RO_c h2 (ef 1 (by omega)) (fun k hk => er k (by omega)), RO_c h2' (ef 4 (by omega)) (fun k hk => er k (by omega))⟩, ⟨RV_c h3 (ef 2 (by omega)) (ef 3 (by omega)) (er _ (by omega)) (fun k hk => er _ (by omega)), RV_c h3' (ef 5 (by omega)) (ef 6 (by omega)) (er _ (by omega)) (fun k hk => er _ (by omega))⟩, ?_, RT_c h5 (ef 10 (by omega)) (ef 11 (by omega)) (er _ (by omega)) (fun k hk => er _ (by omega)), RE_c h6 (ef 12 (by omega)) (ef 13 (by omega)) (er _ (by omega)) (fun k hk => er _ (by omega)), RZ_c h7 (ef 14 (by omega)) (ef 15 (by omega)) (er _ (by omega)) (fun k hk => er _ (by omega)), by rw [er 37 (by omega)]; exact h8, by rw [er 38 (by omega)]; exact h9⟩
  unfold RB
  simp only [zf_ap, zu_ap, if_true, Nat.reduceEqDiff, if_false]
  exact ⟨h4.1, h4.2.1, trivial, h4.2.2.2.1, fun j hj => by rw [if_neg (by omega)]; exact h4.2.2.2.2 j hj⟩
theorem RRs_buf {f : Nat → Nat → Int32} {s0 s1 : Int64} {r : Nat → Int32} (nz : (r 20).toNatClampNeg ≤ 20) (h : RR f s0 s1 r) (nb : (r 11).toInt ≤ 39) (n0 : 0 ≤ (r 11).toInt) (v : Int32) : RR (zf (zf f 9 (r 11).toNatClampNeg v) 8 1 (r 11 + 1)) s0 s1 (zu (zu r (59 + (r 11).toNatClampNeg) v) 11 (r 11 + 1)) := by
  obtain ⟨h1, ⟨h2, h2'⟩, ⟨h3, h3'⟩, h4, h5, h6, h7, h8, h9⟩ := h
  have c0 := ncl n0
  have e1 : (r 11 + 1).toInt = (r 11).toInt + 1 := ixs (k := 1) rfl (by decide) (by omega) (by omega)
  have c1 : (r 11 + 1).toNatClampNeg = (r 11).toNatClampNeg + 1 := by rw [ncln, e1]; omega
  have er : ∀ k, k ≠ 11 ∧ ¬ (59 ≤ k ∧ k < 99) → zu (zu r (59 + (r 11).toNatClampNeg) v) 11 (r 11 + 1) k = r k := fun k hk => by rw [zu_ne hk.1, zu_ne (by omega)]
  have ef : ∀ k, k ≠ 8 ∧ k ≠ 9 → zf (zf f 9 (r 11).toNatClampNeg v) 8 1 (r 11 + 1) k = f k := fun k hk => by rw [zf_ne hk.1, zf_ne hk.2]
  have nz9 := nz
  refine ⟨RS_c h1 (ef 0 (by omega)) (fun k hk => er k (by omega)), ⟨RO_c h2 (ef 1 (by omega)) (fun k hk => er k (by omega)), RO_c h2' (ef 4 (by omega)) (fun k hk => er k (by omega))⟩, ⟨RV_c h3 (ef 2 (by omega)) (ef 3 (by omega)) (er _ (by omega)) (fun k hk => er _ (by omega)), RV_c h3' (ef 5 (by omega)) (ef 6 (by omega)) (er _ (by omega)) (fun k hk => er _ (by omega))⟩, ?_, RT_c h5 (ef 10 (by omega)) (ef 11 (by omega)) (er _ (by omega)) (fun k hk => er _ (by omega)), RE_c h6 (ef 12 (by omega)) (ef 13 (by omega)) (er _ (by omega)) (fun k hk => er _ (by omega)), RZ_c h7 (ef 14 (by omega)) (ef 15 (by omega)) (er _ (by omega)) (fun k hk => er _ (by omega)), by rw [er 37 (by omega)]; exact h8, by rw [er 38 (by omega)]; exact h9⟩
  refine ⟨?_, ?_, ?_, ?_, fun j hj => ?_⟩
  · simp only [zf_ap, zu_ap, Nat.reduceEqDiff, if_false]; rw [if_neg (by omega)]; exact h4.1
  · simp only [zf_ap, zu_ap, Nat.reduceEqDiff, if_false]; rw [if_neg (by omega)]; exact h4.2.1
  · simp only [zf_ap, zu_ap, Nat.reduceEqDiff, if_false]; rw [if_neg (by omega)]; exact h4.2.2.1
  · simp only [zf_ap, zu_ap, if_true]
  · rw [zu_self, c1] at hj
    rw [zf_ne (by decide), zf_eq, zu_ne (show 59 + j ≠ 11 by omega)]
    by_cases e : j = (r 11).toNatClampNeg
    · subst e; rw [zu_self, zu_self]
    · rw [zu_ne e, zu_ne (by omega)]
      exact h4.2.2.2.2 j (by omega)
theorem RRs_37 {f : Nat → Nat → Int32} {s0 s1 : Int64} {r : Nat → Int32} (h : RR f s0 s1 r) (v : Int32) : RR f (v.toInt64) s1 (zu r 37 v) := by
  obtain ⟨h1, ⟨h2, h2'⟩, ⟨h3, h3'⟩, h4, h5, h6, h7, h8, h9⟩ := h
  have er : ∀ k, k ≠ 37 → zu r 37 v k = r k := fun k hk => zu_ne hk
  have ef : ∀ k : Nat, k < 20 → f k = f k := fun k hk => rfl
  refine ⟨RS_c h1 (ef 0 (by omega)) (fun k hk => er k (by omega)), ⟨RO_c h2 (ef 1 (by omega)) (fun k hk => er k (by omega)), RO_c h2' (ef 4 (by omega)) (fun k hk => er k (by omega))⟩, ⟨RV_c h3 (ef 2 (by omega)) (ef 3 (by omega)) (er _ (by omega)) (fun k hk => er _ (by omega)), RV_c h3' (ef 5 (by omega)) (ef 6 (by omega)) (er _ (by omega)) (fun k hk => er _ (by omega))⟩, RB_c h4 (ef 7 (by omega)) (ef 8 (by omega)) (ef 9 (by omega)) (fun k hk => er k (by omega)) (fun k hk => er _ (by omega)), RT_c h5 (ef 10 (by omega)) (ef 11 (by omega)) (er _ (by omega)) (fun k hk => er _ (by omega)), RE_c h6 (ef 12 (by omega)) (ef 13 (by omega)) (er _ (by omega)) (fun k hk => er _ (by omega)), RZ_c h7 (ef 14 (by omega)) (ef 15 (by omega)) (er _ (by omega)) (fun k hk => er _ (by omega)), ?_, by rw [er 38 (by omega)]; exact h9⟩
  rw [zu_self]
theorem RRs_38 {f : Nat → Nat → Int32} {s0 s1 : Int64} {r : Nat → Int32} (h : RR f s0 s1 r) (v : Int32) : RR f s0 (v.toInt64) (zu r 38 v) := by
  obtain ⟨h1, ⟨h2, h2'⟩, ⟨h3, h3'⟩, h4, h5, h6, h7, h8, h9⟩ := h
  have er : ∀ k, k ≠ 38 → zu r 38 v k = r k := fun k hk => zu_ne hk
  have ef : ∀ k : Nat, k < 20 → f k = f k := fun k hk => rfl
  refine ⟨RS_c h1 (ef 0 (by omega)) (fun k hk => er k (by omega)), ⟨RO_c h2 (ef 1 (by omega)) (fun k hk => er k (by omega)), RO_c h2' (ef 4 (by omega)) (fun k hk => er k (by omega))⟩, ⟨RV_c h3 (ef 2 (by omega)) (ef 3 (by omega)) (er _ (by omega)) (fun k hk => er _ (by omega)), RV_c h3' (ef 5 (by omega)) (ef 6 (by omega)) (er _ (by omega)) (fun k hk => er _ (by omega))⟩, RB_c h4 (ef 7 (by omega)) (ef 8 (by omega)) (ef 9 (by omega)) (fun k hk => er k (by omega)) (fun k hk => er _ (by omega)), RT_c h5 (ef 10 (by omega)) (ef 11 (by omega)) (er _ (by omega)) (fun k hk => er _ (by omega)), RE_c h6 (ef 12 (by omega)) (ef 13 (by omega)) (er _ (by omega)) (fun k hk => er _ (by omega)), RZ_c h7 (ef 14 (by omega)) (ef 15 (by omega)) (er _ (by omega)) (fun k hk => er _ (by omega)), by rw [er 37 (by omega)]; exact h8, ?_⟩
  rw [zu_self]
theorem w_chr {ln : Nat → Nat} {σ : zS} {p fg : Int32} {Q : Int32 → zS → Prop} (h0 : 2 ≤ p.toInt) (h1 : p.toInt < 28) (hq : Q (zchr p (!decide (fg = 0))) σ) : wX11_characterOf ln σ p fg Q := by
  have e2 : (p - 2).toInt = p.toInt - 2 := nsub (b := 2) (by show _ ≤ p.toInt - 2; omega) (by show p.toInt - 2 < _; omega)
  have hk : p - 2 = nI (p - 2).toNatClampNeg := by rw [neq, nI_toInt (by rw [ncln]; omega), ncln]; omega
  have hkn : (p - 2).toNatClampNeg < 26 := by rw [ncln]; omega
  intro x1 ex1
  subst ex1
  refine ⟨fun h x ex => ?_, fun h => ⟨fun hn => ?_, fun _ => ?_⟩⟩
  · subst ex
    rw [h] at hq
    have e : zchr p (!decide ((0 : Int32) = 0)) = ((97 + (p - 2)).toUInt32 % 65536).toInt32 := by
      have e3 : (97 : Int32) + (p - 2) = nI (97 + (p - 2).toNatClampNeg) := by rw [hk]; exact (nI_add 97 _).trans (by rw [nI_clamp (by omega)])
      have e4 := (pk_charN (q := 97 + (p - 2).toNatClampNeg) (by omega)).1
      have e5 : (97 : Int32) + p - 2 = 97 + (p - 2) := by
        rw [Int32.sub_eq_add_neg, Int32.sub_eq_add_neg, Int32.add_assoc]
      have e6 := pk_nc (nI (97 + (p - 2).toNatClampNeg))
      have e7 : ((nI (97 + (p - 2).toNatClampNeg)).toUInt32 % 65536).toInt32 = nI (97 + (p - 2).toNatClampNeg) := (sb_byte _ (show 97 + (p - 2).toNatClampNeg < 256 by omega)).2.1
      rw [e3, e7]
      show 97 + p - 2 = _
      rw [e5, e3]
    rw [e] at hq
    exact hq
  · rw [nlt, e2] at hn
    have : (0 : Int32).toInt = 0 := rfl
    omega
  · have hl : zSlen.getD 13 0 = 26 := rfl
    refine ⟨fun h => absurd h (by decide), fun _ => ⟨rfl, ?_⟩⟩
    rw [hl]
    dsimp only
    have e26 : nI 26 >>> ((0 : Int32) &&& 31) = nI 26 := by decide
    rw [e26]
    refine ⟨fun hc => ?_, fun _ => ?_⟩
    · rw [nle, e2] at hc
      have : (nI 26).toInt = 26 := rfl
      omega
    · have e3 : (!decide (fg = 0)) = true := by simp [h]
      rw [e3] at hq
      refine w_charAt (k := (p - 2).toNatClampNeg) (by decide) (by rw [hl]; exact hkn) (by omega) hk ⟨?_, hq⟩
      have := zfig_n (p - 2).toNatClampNeg hkn
      exact this
