/-! MAKING: offices, receivers, records, machines; a machine begins -/
theorem mkO {S : zSp} {σ : zS} {t : Nat} (ht : zSk S = t) {Q : zSp → zS → Prop} (hq : ∀ S' σ', zNb t S σ S' σ' → zSk S' = t + 3 → zSl S' (t + 2) = 1000 → gr σ' t 7 = some (t + 1) → gr σ' (t + 1) 0 = some (t + 2) → Q S' σ') : wX4_init (zSpush S 4 0) (zfresh σ t) t Q := by
  have k1 : zSk (zSpush S 4 0) = t + 1 := by rw [zSk_push, ht]
  have B1 := zNb_new S σ 4 0 ht (Nat.le_refl t)
  generalize zSpush S 4 0 = S1 at k1 B1 ⊢
  generalize zfresh σ t = σ1 at B1 ⊢
  intro a1 e1 S2 eS2 σ2 e2
  rw [k1] at e1
  subst e1 eS2 e2
  refine mkR (n := 1000) rfl (by decide) k1 (fun S3 σ3 B3 k3 l3 g3 z3 z3' => ?_)
  intro σ5 e5
  subst e5
  refine hq _ _ ((B1.tr (B3.mono (by omega))).tr (zNb_sr S3 σ3 t 7 _ (Nat.le_refl t))) k3 l3 (by rw [gr_sr, if_pos rfl, if_pos rfl]) ?_
  rw [gr_sr, if_neg (by omega)]; exact g3
theorem mkV {S : zSp} {σ : zS} {t : Nat} (ht : zSk S = t) {Q : zSp → zS → Prop} (hq : ∀ S' σ', zNb t S σ S' σ' → zSk S' = t + 3 → zSl S' (t + 2) = 40 → gr σ' t 0 = some (t + 1) → gr σ' (t + 1) 0 = some (t + 2) → Q S' σ') : wX7_init (zSpush S 7 0) (zfresh σ t) t Q := by
  have k1 : zSk (zSpush S 7 0) = t + 1 := by rw [zSk_push, ht]
  have B1 := zNb_new S σ 7 0 ht (Nat.le_refl t)
  generalize zSpush S 7 0 = S1 at k1 B1 ⊢
  generalize zfresh σ t = σ1 at B1 ⊢
  intro a1 e1 S2 eS2 σ2 e2
  rw [k1] at e1
  subst e1 eS2 e2
  refine mkR (n := 40) rfl (by decide) k1 (fun S3 σ3 B3 k3 l3 g3 z3 z3' => ?_)
  intro σ5 e5
  subst e5
  refine hq _ _ ((B1.tr (B3.mono (by omega))).tr (zNb_sr S3 σ3 t 0 _ (Nat.le_refl t))) k3 l3 (by rw [gr_sr, if_pos rfl, if_pos rfl]) ?_
  rw [gr_sr, if_neg (by omega)]; exact g3
theorem mkT {S : zSp} {σ : zS} {t cap : Nat} {v : Int32} (hv : v = nI cap) (h1 : 1 ≤ cap) (h2 : cap ≤ 640) (ht : zSk S = t) {Q : zSp → zS → Prop} (hq : ∀ S' σ', zNb t S σ S' σ' → zSk S' = t + 2 → zSl S' (t + 1) = 3 * cap → gr σ' t 1 = some (t + 1) → gi σ' t 0 = nI cap → Q S' σ') : wX8_init (zSpush S 8 0) (zfresh σ t) t v Q := by
  have k1 : zSk (zSpush S 8 0) = t + 1 := by rw [zSk_push, ht]
  have B1 := zNb_new S σ 8 0 ht (Nat.le_refl t)
  generalize zSpush S 8 0 = S1 at k1 B1 ⊢
  generalize zfresh σ t = σ1 at B1 ⊢
  intro x1 e1 σ2 e2 x3 e3
  subst hv
  have en := nI_toInt (n := cap) (by omega)
  have z1 : (1 : Int32).toInt = 1 := rfl
  have hx : x1 = nI cap := by rw [e1, if_neg (by rw [nlt, en, z1]; omega)]
  subst hx e2
  have hx3 : x3 = nI (3 * cap) := by
    rw [e3, gi_si, if_pos rfl, if_pos rfl]
    exact (Int32.ofNat_mul 3 cap).symm
  subst hx3
  refine ⟨nI_pos (by omega), by rw [nI_clamp (by omega)]; omega, fun a4 e4 S4 eS4 σ7 e7 σ8 e8 => ?_⟩
  rw [nI_clamp (by omega)] at eS4
  rw [k1] at e4
  subst e4 eS4 e7 e8
  refine hq _ _ (((B1.tr (zNb_si S1 σ1 t 0 _ (Nat.le_refl t))).tr (zNb_new S1 _ 20 (3 * cap) k1 (by omega))).tr (zNb_sr _ _ t 1 _ (Nat.le_refl t))) (by rw [zSk_push, k1]) ?_ (by rw [gr_sr, if_pos rfl, if_pos rfl]) ?_
  · rw [← k1]; exact zSl_new _ _ _
  · rw [gi_sr, gi_zf, if_neg (by omega), gi_si, if_pos rfl, if_pos rfl]
/-- what a plan tells a machine that begins -/
def zBg (σ : zS) (p : Nat) (r : Nat → Int32) : Prop := gi σ p 2 = r 2 ∧ (gi σ (p + 3) 0 = r 21 ∧ gi σ (p + 3) 1 = r 23) ∧ (gi σ (p + 65) 0 = r 22 ∧ gi σ (p + 65) 1 = r 24) ∧ gi σ (p + 1) 1 = r 20 ∧ ∀ k, k < (r 20).toNatClampNeg → gi σ (p + 2) k = r (39 + k)
/-- a row with which all begins -/
def zr0 (r : Nat → Int32) : Prop := r 6 = -1 ∧ ∀ k, (k = 5 ∨ k = 7 ∨ (9 ≤ k ∧ k ≤ 19) ∨ (27 ≤ k ∧ k ≤ 38)) → r k = 0
set_option maxHeartbeats 2000000 in
theorem C_begin {ln : Nat → Nat} {σ : zS} {b p : Nat} {r : Nat → Int32} (S : zMs (gr σ) ln b) (hb : p + 127 ≤ b) (PS : zPs (gr σ) ln p) (hc10 : gi σ (b + 10) 0 = nI 640) (hc12 : gi σ (b + 12) 0 = nI 40) (P : zBg σ p r) (h20 : 0 ≤ (r 20).toInt ∧ (r 20).toInt ≤ 20) (Z : zr0 r) {Q : zS → Prop} (hq : ∀ σ', KM σ' b r → zFc σ σ' b p → Q σ') : wX3_begin ln σ b p Q := by
  have S' := zMs_sr S (b1 := b) (Or.inl rfl) (some p)
  have gb : gr (sr σ b 0 (some p)) b 0 = some p := by rw [gr_sr, if_pos rfl, if_pos rfl]
  have go : ∀ a j, a ≠ b → gr (sr σ b 0 (some p)) a j = gr σ a j := fun a j h => by rw [gr_sr, if_neg h]
  obtain ⟨⟨p5, p10, pl⟩, ⟨p6, p7⟩, -, -⟩ := PS
  have q5 := (go p 5 (by omega)).trans p5
  have q6 := (go p 6 (by omega)).trans p6
  have q7 := (go p 7 (by omega)).trans p7
  have q10 := (go (p + 1) 0 (by omega)).trans p10
  obtain ⟨P2, ⟨P21, P23⟩, ⟨P22, P24⟩, P20, PL⟩ := P
  have hid : sr σ b 0 (some p) = zcs (sr σ b 0 (some p)) b (fun k => gi σ (b + k)) (gl σ (b + 1) 6) (gl σ (b + 4) 6) := (zcs_self (sr σ b 0 (some p)) b).symm
  have eg : ∀ a, gi (sr σ b 0 (some p)) a = gi σ a := fun _ => rfl
  intro σ1 e1
  rw [hid] at e1
  subst e1
  have hfin : ∀ f' t0 t1, RR f' t0 t1 r → Q (zcs (sr σ b 0 (some p)) b f' t0 t1) := fun f' t0 t1 h => hq _ (KM_zcs h) ⟨rfl, rfl, fun a ha => ⟨gi_zcs_o _ b f' t0 t1 ha, gl_zcs_o _ b f' t0 t1 (by omega) (by omega)⟩⟩
  have F10 : (fun k => gi σ (b + k)) 10 0 = nI 640 := hc10
  have F12 : (fun k => gi σ (b + k)) 12 0 = nI 40 := hc12
  generalize (fun k => gi σ (b + k)) = F at F10 F12 ⊢
  generalize sr σ b 0 (some p) = τ at S' eg hfin gb q5 q6 q7 q10 ⊢
  clear go hid
  obtain ⟨⟨m1, m2, m3, m4, m5, m6⟩, ⟨a1, a2, a3, a4, a5, a6, a7, a8, a9⟩, ⟨l1, l2, l3, l4, l5, l6⟩⟩ := S'
  have x0 : ∀ f' u0 u1, gi (zcs τ b f' u0 u1) p = gi σ p := fun f' u0 u1 => (gi_zcs_o τ b f' u0 u1 (by omega)).trans (eg p)
  have x3 : ∀ f' u0 u1, gi (zcs τ b f' u0 u1) (p + 3) = gi σ (p + 3) := fun f' u0 u1 => (gi_zcs_o τ b f' u0 u1 (by omega)).trans (eg _)
  have x65 : ∀ f' u0 u1, gi (zcs τ b f' u0 u1) (p + 65) = gi σ (p + 65) := fun f' u0 u1 => (gi_zcs_o τ b f' u0 u1 (by omega)).trans (eg _)
  have c20 := ncl h20.1
  have e20 : r 20 = nI (r 20).toNatClampNeg := by rw [neq, nI_toInt (by omega)]; omega
  have hn : gi τ (p + 1) 1 = nI (r 20).toNatClampNeg := by rw [eg, P20]; exact e20
  simp only [wX4_begin, wX8_clear, wX9_clear, forall_eq, si_zcs_b, gr_zcs, gb, m1, m2, m5, m6, q5, q6, q7, a1, a2, Option.some.injEq, exists_eq_left', x0, x3, x65, si_zcs_k τ b _ _ _ (show 1 < 16 by decide), si_zcs_k τ b _ _ _ (show 4 < 16 by decide), si_zcs_k τ b _ _ _ (show 2 < 16 by decide), si_zcs_k τ b _ _ _ (show 5 < 16 by decide), si_zcs_k τ b _ _ _ (show 12 < 16 by decide), sl_zcs_0, sl_zcs_1]
  refine c_rcopy (c := 14) (cap := 20) (by decide) a9 l6 (by decide) q10 pl (by omega) (by omega) hn (by omega) (fun f1 i1 i2 i3 i4 => ?_)
  simp only [wX3_endTransmission, wX7_clear, wX8_clear, wX9_clear, forall_eq, si_zcs_b, gr_zcs, m3, m4, a5, Option.some.injEq, exists_eq_left', si_zcs_k τ b _ _ _ (show 7 < 16 by decide), si_zcs_k τ b _ _ _ (show 8 < 16 by decide), si_zcs_k τ b _ _ _ (show 10 < 16 by decide)]
  obtain ⟨Z6, Z⟩ := Z
  have z5 := Z 5 (by omega)
  have z7 := Z 7 (by omega)
  have z9 := Z 9 (by omega)
  have z10 := Z 10 (by omega)
  have z11 := Z 11 (by omega)
  have z12 := Z 12 (by omega)
  have z13 := Z 13 (by omega)
  have z14 := Z 14 (by omega)
  have z15 := Z 15 (by omega)
  have z16 := Z 16 (by omega)
  have z17 := Z 17 (by omega)
  have z18 := Z 18 (by omega)
  have z19 := Z 19 (by omega)
  have z27 := Z 27 (by omega)
  have z28 := Z 28 (by omega)
  have z29 := Z 29 (by omega)
  have z30 := Z 30 (by omega)
  have z31 := Z 31 (by omega)
  have z32 := Z 32 (by omega)
  have z33 := Z 33 (by omega)
  have z34 := Z 34 (by omega)
  have z35 := Z 35 (by omega)
  have z36 := Z 36 (by omega)
  have z37 := Z 37 (by omega)
  have z38 := Z 38 (by omega)
  have t0 : (0 : Int32).toNatClampNeg = 0 := rfl
  have t6 : (0 : Int32).toInt64 = 0 := rfl
  have t1 : ¬ (0 : Int32) = 1 := by decide
  have y := i1
  have j0 := i1 0 (by decide) (by decide)
  have j1 := i1 1 (by decide) (by decide)
  have j2 := i1 2 (by decide) (by decide)
  have j4 := i1 4 (by decide) (by decide)
  have j5 := i1 5 (by decide) (by decide)
  have j7 := i1 7 (by decide) (by decide)
  have j8 := i1 8 (by decide) (by decide)
  have j10 := i1 10 (by decide) (by decide)
  have j12 := i1 12 (by decide) (by decide)
  refine hfin _ _ _ ⟨?_, ⟨?_, ?_⟩, ⟨?_, ?_⟩, ?_, ?_, ?_, ?_, ?_, ?_⟩
  · unfold RS
    simp only [zf_ap, if_true, if_false, Nat.reduceEqDiff, j0, z5, Z6, z7, z9, z10, z15, z16, z17, P2, t1, false_implies, and_self]
  · unfold RO
    simp only [Nat.mul_zero, Nat.add_zero, zf_ap, if_true, if_false, Nat.reduceEqDiff, j1, z27, z31, z33, z35, P21, P23, and_self]
  · unfold RO
    simp only [Nat.mul_one, Nat.reduceAdd, zf_ap, if_true, if_false, Nat.reduceEqDiff, j4, z28, z32, z34, z36, P22, P24, and_self]
  · unfold RV
    simp only [Nat.mul_zero, Nat.add_zero, zf_ap, if_true, if_false, Nat.reduceEqDiff, j2, z29, t0, Nat.not_lt_zero, false_implies, implies_true, and_self]
  · unfold RV
    simp only [Nat.mul_one, Nat.reduceAdd, zf_ap, if_true, if_false, Nat.reduceEqDiff, j5, z30, t0, Nat.not_lt_zero, false_implies, implies_true, and_self]
  · unfold RB
    simp only [zf_ap, if_true, if_false, Nat.reduceEqDiff, z11, z12, z13, z14, t0, Nat.not_lt_zero, false_implies, implies_true, and_self]
  · unfold RT
    rw [z19]
    refine ⟨?_, ?_, 0, by decide, ?_, fun k hk => absurd hk (Nat.not_lt_zero k)⟩
    · simp only [zf_ap, if_true, if_false, Nat.reduceEqDiff, j10, F10]
    · simp only [zf_ap, if_true, if_false, Nat.reduceEqDiff]
    · simp only [zf_ap, if_true, if_false, Nat.reduceEqDiff]
      rfl
  · unfold RE
    rw [z18]
    refine ⟨?_, ?_, 0, by decide, ?_, fun k hk => absurd hk (Nat.not_lt_zero k)⟩
    · simp only [zf_ap, if_true, if_false, Nat.reduceEqDiff, j12, F12]
    · simp only [zf_ap, if_true, if_false, Nat.reduceEqDiff, j12]
    · simp only [zf_ap, if_true, if_false, Nat.reduceEqDiff, j12]
      rfl
  · unfold RZ
    refine ⟨?_, fun k hk => ?_⟩
    · simp only [zf_ap, if_true, if_false, Nat.reduceEqDiff]
      rw [i3]; exact e20.symm
    · simp only [zf_ap, if_true, if_false, Nat.reduceEqDiff]
      rw [i4 k hk, eg]; exact PL k hk
  · rw [z37]; rfl
  · rw [z38]; rfl
