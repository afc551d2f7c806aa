/-! MAKING: the model's object; the first world -/
theorem zSl_p (S : zSp) (kd n a : Nat) : zSl (zSpush S kd n) a = if a = zSk S then n else zSl S a := rfl
set_option maxHeartbeats 4000000 in
theorem mkN {S : zSp} {σ : zS} (M : zMade S σ) {Q : zSp → zS → Prop} (hq : ∀ S' σ', zSk S' = 463 → zNb 455 S σ S' σ' → zMg (gr σ') (zSl S') → (∀ j, j ≠ 14 → gi σ' 455 j = 0) → gi σ' 455 14 = -1 → zcg r00 (gi σ' 456) → Q S' σ') : wX12_init (zSpush S 12 0) (zfresh σ 455) 455 Q := by
  have hS := M.1
  have k0 : zSk (zSpush S 12 0) = 456 := by rw [zSk_push, hS]
  have B0 := zNb_new S σ 12 0 hS (Nat.le_refl 455)
  have z0 : ∀ j, gi (zfresh σ 455) 455 j = 0 := fun j => by rw [gi_zf, if_pos rfl]
  generalize zSpush S 12 0 = S0 at k0 B0 ⊢
  generalize zfresh σ 455 = σ0 at B0 z0 ⊢
  intro a1 e1 S1 eS1 σ2 e2 σ3 e3 a4 e4 S4 eS4 σ5 e5 σ6 e6 a7 e7 S7 eS7 σ8 e8 σ9 e9 a10 e10 S10 eS10 σ11 e11 σ12 e12 a13 e13 S13 eS13 σ14 e14 σ15 e15 σ17 e17 a18 e18 S18 eS18 σ19 e19 σ20 e20 a21 e21 S21 eS21 σ22 e22 σ23 e23 σ24 e24
  rw [k0] at e1
  subst e1 eS1
  have k1 : zSk (zSpush S0 20 4763) = 457 := by rw [zSk_push, k0]
  rw [k1] at e4
  subst e4 eS4
  have k4 : zSk (zSpush (zSpush S0 20 4763) 20 4763) = 458 := by rw [zSk_push, k1]
  rw [k4] at e7
  subst e7 eS7
  have k7 : zSk (zSpush (zSpush (zSpush S0 20 4763) 20 4763) 20 4763) = 459 := by rw [zSk_push, k4]
  rw [k7] at e10
  subst e10 eS10
  have k10 : zSk (zSpush (zSpush (zSpush (zSpush S0 20 4763) 20 4763) 20 4763) 20 47630) = 460 := by rw [zSk_push, k7]
  rw [k10] at e13
  subst e13 eS13
  have k13 : zSk (zSpush (zSpush (zSpush (zSpush (zSpush S0 20 4763) 20 4763) 20 4763) 20 47630) 20 64) = 461 := by rw [zSk_push, k10]
  rw [k13] at e18
  subst e18 eS18
  have k18 : zSk (zSpush (zSpush (zSpush (zSpush (zSpush (zSpush S0 20 4763) 20 4763) 20 4763) 20 47630) 20 64) 20 100) = 462 := by rw [zSk_push, k13]
  rw [k18] at e21
  subst e21 eS21
  have k21 : zSk (zSpush (zSpush (zSpush (zSpush (zSpush (zSpush (zSpush S0 20 4763) 20 4763) 20 4763) 20 47630) 20 64) 20 100) 21 600) = 463 := by rw [zSk_push, k18]
  have L : ∀ a, zSl (zSpush (zSpush (zSpush (zSpush (zSpush (zSpush (zSpush S0 20 4763) 20 4763) 20 4763) 20 47630) 20 64) 20 100) 21 600) a = if a = 462 then 600 else if a = 461 then 100 else if a = 460 then 64 else if a = 459 then 47630 else if a = 458 then 4763 else if a = 457 then 4763 else if a = 456 then 4763 else zSl S0 a := fun a => by
    rw [zSl_p, k18, zSl_p, k13, zSl_p, k10, zSl_p, k7, zSl_p, k4, zSl_p, k1, zSl_p, k0]
  generalize zSpush (zSpush (zSpush (zSpush (zSpush (zSpush (zSpush S0 20 4763) 20 4763) 20 4763) 20 47630) 20 64) 20 100) 21 600 = SE at k21 L ⊢
  have R : ∀ j, gr σ24 455 j = if j = 12 then some 462 else if j = 10 then some 461 else if j = 8 then some 13 else if j = 6 then some 460 else if j = 4 then some 459 else if j = 3 then some 458 else if j = 2 then some 457 else if j = 1 then some 456 else gr σ0 455 j := fun j => by
    simp only [e24, e23, e22, e20, e19, e17, e15, e14, e12, e11, e9, e8, e6, e5, e3, e2, gr_si, gr_sr, gr_zf, if_true, if_false, Nat.reduceEqDiff]
  have I : ∀ j, gi σ24 455 j = if j = 14 then -1 else 0 := fun j => by
    simp only [e24, e23, e22, e20, e19, e17, e15, e14, e12, e11, e9, e8, e6, e5, e3, e2, gi_si, gi_sr, gi_zf, if_true, if_false, Nat.reduceEqDiff, z0]
  have O : ∀ a, a < 455 → gr σ24 a = gr σ0 a ∧ gi σ24 a = gi σ0 a ∧ gl σ24 a = gl σ0 a ∧ gd σ24 a = gd σ0 a := fun a ha => by
    have x1 : ¬ a = 455 := by omega
    have x2 : ¬ a = 456 := by omega
    have x3 : ¬ a = 457 := by omega
    have x4 : ¬ a = 458 := by omega
    have x5 : ¬ a = 459 := by omega
    have x6 : ¬ a = 460 := by omega
    have x7 : ¬ a = 461 := by omega
    have x8 : ¬ a = 462 := by omega
    refine ⟨funext fun j => ?_, funext fun j => ?_, funext fun j => ?_, funext fun j => ?_⟩
    · simp only [e24, e23, e22, e20, e19, e17, e15, e14, e12, e11, e9, e8, e6, e5, e3, e2, gr_si, gr_sr, gr_zf, x1, x2, x3, x4, x5, x6, x7, x8, if_false]
    · simp only [e24, e23, e22, e20, e19, e17, e15, e14, e12, e11, e9, e8, e6, e5, e3, e2, gi_si, gi_sr, gi_zf, x1, x2, x3, x4, x5, x6, x7, x8, if_false]
    · simp only [e24, e23, e22, e20, e19, e17, e15, e14, e12, e11, e9, e8, e6, e5, e3, e2, gl_si, gl_sr, gl_zf, x1, x2, x3, x4, x5, x6, x7, x8, if_false]
    · simp only [e24, e23, e22, e20, e19, e17, e15, e14, e12, e11, e9, e8, e6, e5, e3, e2, gd_si, gd_sr, gd_zf, x1, x2, x3, x4, x5, x6, x7, x8, if_false]
  clear e24 e23 e22 e20 e19 e17 e15 e14 e12 e11 e9 e8 e6 e5 e3 e2
  refine ⟨456, by rw [R]; rfl, m_defaults (by rw [L]; rfl) (fun g hg => hq SE _ k21 ?_ ?_ (fun j hj => ?_) ?_ ?_)⟩
  · refine B0.tr ⟨by omega, fun a ha => ?_⟩
    obtain ⟨o1, o2, o3, o4⟩ := O a ha
    refine ⟨?_, o1, ?_, o3, o4⟩
    · rw [L, if_neg (by omega), if_neg (by omega), if_neg (by omega), if_neg (by omega), if_neg (by omega), if_neg (by omega), if_neg (by omega)]
    · rw [sI_out _ _ (by omega)]; exact o2
  · refine ⟨⟨?_, ?_, ?_, ?_, ?_, ?_, ?_, ?_⟩, ⟨?_, ?_, ?_, ?_, ?_, ?_, ?_⟩⟩
    · rw [gr_sI, R]; rfl
    · rw [gr_sI, R]; rfl
    · rw [gr_sI, R]; rfl
    · rw [gr_sI, R]; rfl
    · rw [gr_sI, R]; rfl
    · rw [gr_sI, R]; rfl
    · rw [gr_sI, R]; rfl
    · rw [gr_sI, R]; rfl
    · rw [L]; rfl
    · rw [L]; rfl
    · rw [L]; rfl
    · rw [L]; rfl
    · rw [L]; rfl
    · rw [L]; rfl
    · rw [L]; rfl
  · rw [sI_out _ _ (by decide), I, if_neg hj]
  · rw [sI_out _ _ (by decide), I, if_pos rfl]
  · rw [sI_at]; exact hg
/-- the first world -/
theorem zWd_0 {S S' : zSp} {σ σ' : zS} (M : zMade S σ) (B : zNb 455 S σ S' σ') (hk : 465 ≤ zSk S') (G : zMg (gr σ') (zSl S')) (l463 : zSl S' 463 = 1) (l464 : zSl S' 464 = 1) (z : ∀ j, j ≠ 14 → gi σ' 455 j = 0) (z14 : gi σ' 455 14 = -1) (row : zcg r00 (gi σ' 456)) : zWd S' σ' 0 := by
  obtain ⟨-, ⟨a0, a1, a2, a3, a4, a5, a6, a7⟩, b8, ⟨c1, c2, c3⟩, ⟨d1, d2⟩, ⟨s1, s2, s3, s4⟩, ⟨P7, Z7⟩, P134, ⟨m1, M1, K1⟩, ⟨M2, K2⟩, h1, h2, h3, hkm⟩ := M
  have P7' := zPs_b B (by decide) P7
  have P134' := zPs_b B (by decide) P134
  have E := zPV_E (N := 0) zPV_r00
  have hW := zPV_W zPV_r00
  have KM' : ∀ b, zIsM b → KM σ' b r00 := fun b hb => by
    rcases hb with rfl | rfl | ⟨i, hi, rfl⟩
    · exact KM_b B (by decide) K1
    · exact KM_b B (by decide) K2
    · exact KM_b B (by omega) (hkm i hi).2.2
  have ST : zST (gr σ') (zSl S') := by
    refine ⟨⟨by rw [B.r (by decide)]; exact a0, by rw [B.r (by decide)]; exact a1, by rw [B.r (by decide)]; exact a2, by rw [B.r (by decide)]; exact a3, by rw [B.r (by decide)]; exact a4, by rw [B.r (by decide)]; exact a5⟩, ⟨by rw [B.r (by decide)]; exact c1, by rw [B.r (by decide)]; exact d1, by rw [B.r (by decide)]; exact d2⟩, ⟨by rw [B.l (by decide)]; exact c2, l463, l464⟩, ⟨by rw [B.r (by decide)]; exact h1, fun i hi => by rw [B.r (by decide)]; exact (hkm i hi).1, by rw [B.l (by decide)]; exact h2⟩, fun b hb => ?_, ⟨P7', P134'⟩, G⟩
    rcases hb with rfl | rfl | ⟨i, hi, rfl⟩
    · exact zMs_b B (by decide) M1
    · exact zMs_b B (by decide) M2
    · exact zMs_b B (by omega) (hkm i hi).2.1
  obtain ⟨PL, CH⟩ := zPl_read (σ' := σ') (ln := zSl S') P7' (zPn_r00 Z7) (fun v hv k hk hlt => by
    rw [r00_z (k := 25 + v) (by omega)] at hlt
    exact absurd hlt (by rw [show (0 : Int32).toInt = 0 from rfl]; omega)) (fun k hk => B.i (by omega))
  have k0 : (gi σ' 456 5).toInt ≤ 100000 := by
    rw [row 5 (by decide), r00_z (k := 5) (by decide)]
    decide
  refine ⟨7, 134, 0, 0, fun _ _ => 0, ST, ⟨Or.inl ⟨rfl, rfl⟩, by rw [B.r (by decide)]; exact a6, by rw [B.r (by decide)]; exact a7, by rw [B.r (by decide)]; exact m1⟩, ⟨PL.c (zkp_cg row) hW, fun q hq k hk hlt => ?_⟩, ⟨KM_cg (KM' 261 (Or.inl rfl)) hW row, zEv_cg E row, k0⟩, fun b hb => KM_cap (KM' b hb), ⟨by decide, by decide, ⟨by rw [B.i (by decide), h3]; rfl, by rw [B.i (by decide), h3]; rfl, fun i hi => absurd hi (Nat.not_lt_zero i)⟩, ⟨z 5 (by decide), fun i hi => absurd hi (Nat.not_lt_zero i)⟩, fun i hi => absurd hi (Nat.not_lt_zero i)⟩, ⟨0, by decide, by rw [B.i (by decide), c3]; rfl, z 13 (by decide), fun k hk => absurd hk (Nat.not_lt_zero k)⟩, ?_, ⟨6, 0, by rw [B.r (by decide)]; exact s1, Or.inl (by rw [B.l (by decide)]; exact s2), Or.inl rfl, by omega, hk, by rw [B.i (by decide)]; exact s3 1, by rw [B.i (by decide), s3]; rfl, z 11 (by decide), by decide, Nat.zero_le _, fun k hk => absurd hk (Nat.not_lt_zero k), fun k hk => ?_⟩⟩
  · rw [row (25 + q) (by omega)] at hlt
    rw [row (219 + 12 * q + k) (by omega)]
    exact CH q hq k hk hlt
  · rw [B.i (by decide), b8, z14]
  · rw [B.i (by decide), s4]
    decide
/-- the law's formula, but for the doubles -/
theorem law_all (hnan : zNaN) (hcmp : zCmp) (L : Nat) (xs : Nat → Int32) (hL : L ≤ 3072) : wL_law L xs (zsp zY0) zσ0 := by
  intro a1 e1 S1 eS1 σ2 e2
  have e1' : a1 = 0 := e1
  subst e1' eS1 e2
  refine mkX rfl (fun j => rfl) (fun S3 σ3 M a5 e5 S5 eS5 σ6 e6 => ?_)
  rw [M.1] at e5
  subst e5 eS5 e6
  refine mkN M (fun S7 σ7 k7 B7 G7 z7 z14 row a9 e9 S9 eS9 σ10 e10 a11 e11 S11 eS11 σ12 e12 => ?_)
  rw [k7] at e9
  subst e9 eS9
  have k9 : zSk (zSpush S7 24 1) = 464 := by rw [zSk_push, k7]
  rw [k9] at e11
  subst e11 eS11 e10 e12
  have k11 : zSk (zSpush (zSpush S7 24 1) 25 1) = 465 := by rw [zSk_push, k9]
  have NB : zNb 463 S7 σ7 (zSpush (zSpush S7 24 1) 25 1) (zfresh (zfresh σ7 463) 464) := (zNb_new S7 σ7 24 1 k7 (Nat.le_refl _)).tr (zNb_new _ _ 25 1 k9 (by decide))
  have l463 : zSl (zSpush (zSpush S7 24 1) 25 1) 463 = 1 := by rw [zSl_p, k9, if_neg (by decide), zSl_p, k7, if_pos rfl]
  have l464 : zSl (zSpush (zSpush S7 24 1) 25 1) 464 = 1 := by rw [zSl_p, k9, if_pos rfl]
  have G11 : zMg (gr (zfresh (zfresh σ7 463) 464)) (zSl (zSpush (zSpush S7 24 1) 25 1)) := by
    unfold zMg
    rw [NB.r (show 455 < 463 by decide), NB.l (show 456 < 463 by decide), NB.l (show 457 < 463 by decide), NB.l (show 458 < 463 by decide), NB.l (show 459 < 463 by decide), NB.l (show 460 < 463 by decide), NB.l (show 461 < 463 by decide), NB.l (show 462 < 463 by decide)]
    exact G7
  have W := zWd_0 M (B7.tr (NB.mono (by decide))) (by omega) G11 l463 l464 (fun j hj => by rw [NB.i (by decide)]; exact z7 j hj) (by rw [NB.i (by decide)]; exact z14) (by rw [NB.i (by decide)]; exact row)
  exact ⟨514, Nat.le_refl _, law_loop L_load hnan hcmp hL 513 0 _ _ (by decide) W⟩
