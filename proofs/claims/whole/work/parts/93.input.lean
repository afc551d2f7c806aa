/-! CALLS: the input; characters of the formatted text -/
theorem n255 (w : Int32) : (w &&& 255).toInt = w.toInt % 256 := by
  have h1 : (w &&& 255).toInt = (w.toBitVec &&& 255#32).toInt := rfl
  have h2 : w.toInt = w.toBitVec.toInt := rfl
  have h3 : (w.toBitVec &&& 255#32).toNat = w.toBitVec.toNat % 256 := by
    rw [BitVec.toNat_and]
    exact Nat.and_two_pow_sub_one_eq_mod _ 8
  have h4 := w.toBitVec.isLt
  rw [h1, h2, BitVec.toInt_eq_toNat_cond, BitVec.toInt_eq_toNat_cond, h3]
  split <;> split <;> omega
theorem nb8 (w : Int32) : (w.toInt8.toInt32).toInt = if w.toInt % 256 < 128 then w.toInt % 256 else w.toInt % 256 - 256 := by
  rw [Int8.toInt_toInt32, Int32.toInt_toInt8]
  rw [Int.bmod_def]
  split <;> split <;> omega
theorem zby_w (w : Int32) : zby (w &&& 255) (vp_nar .byte w.toInt8.toInt32) := by
  have h1 := n255 w
  have h2 := nb8 w
  have h3 : (vp_nar .byte w.toInt8.toInt32).toInt = (w.toInt8.toInt32.toInt8.toInt32).toInt := rfl
  have h4 := nb8 w.toInt8.toInt32
  refine ⟨by omega, ?_⟩
  rw [h3, h4, h1, h2]
  split <;> split <;> omega
/-- bytes put at the class's input, at the model's -/
def zAc (σ σ' : zS) (n m : Nat) (f : Nat → Int32) : Prop := σ'.2 = σ.2 ∧ (∀ a, a ≠ 1 → a ≠ 2 → gi σ' a = gi σ a) ∧ gi σ' 1 1 = nI (n + m) ∧ (∀ j, j < n → gi σ' 2 j = gi σ 2 j) ∧ ∀ j, j < m → gi σ' 2 (n + j) = f j
def zAm (σ σ' : zS) (n m : Nat) (f : Nat → Int32) : Prop := σ'.2 = σ.2 ∧ (∀ a, a ≠ 455 → a ≠ 462 → gi σ' a = gi σ a) ∧ (∀ j, j ≠ 13 → gi σ' 455 j = gi σ 455 j) ∧ gi σ' 455 13 = nI (n + m) ∧ (∀ j, j < n → gi σ' 462 j = gi σ 462 j) ∧ ∀ j, j < m → gi σ' 462 (n + j) = f j
theorem zAc.s {σ σ' : zS} {n m : Nat} {f : Nat → Int32} (h : zAc σ σ' n m f) : zAc σ (si (si σ' 2 (n + m) (f m)) 1 1 (nI (n + m + 1))) n (m + 1) f := by
  obtain ⟨h1, h2, h3, h4, h5⟩ := h
  refine ⟨h1, fun a x1 x2 => by rw [si_out _ _ x1, si_out _ _ x2]; exact h2 a x1 x2, ?_, fun j hj => ?_, fun j hj => ?_⟩
  · rw [si_at, zu_self]; rfl
  · rw [si_out _ _ (by decide), si_at, zu_ne (by omega)]; exact h4 j hj
  · rw [si_out _ _ (by decide), si_at]
    by_cases e : j = m
    · subst e; rw [zu_self]
    · rw [zu_ne (by omega)]; exact h5 j (by omega)
theorem zAm.s {σ σ' : zS} {n m : Nat} {f : Nat → Int32} (h : zAm σ σ' n m f) : zAm σ (si (si σ' 462 (n + m) (f m)) 455 13 (nI (n + m + 1))) n (m + 1) f := by
  obtain ⟨h1, h2, h0, h3, h4, h5⟩ := h
  refine ⟨h1, fun a x1 x2 => by rw [si_out _ _ x1, si_out _ _ x2]; exact h2 a x1 x2, fun j hj => by rw [si_at, zu_ne hj, si_out _ _ (by decide)]; exact h0 j hj, ?_, fun j hj => ?_, fun j hj => ?_⟩
  · rw [si_at, zu_self]; rfl
  · rw [si_out _ _ (by decide), si_at, zu_ne (by omega)]; exact h4 j hj
  · rw [si_out _ _ (by decide), si_at]
    by_cases e : j = m
    · subst e; rw [zu_self]
    · rw [zu_ne (by omega)]; exact h5 j (by omega)
theorem C_ad1 {ln : Nat → Nat} {σ σ' : zS} {n m : Nat} {f : Nat → Int32} (g1 : gr σ 1 0 = some 2) (l : ln 2 = 600) (hn : n + m < 600) (h : zAc σ σ' n m f) {x : Int32} (hx : x = f m) {Q : zS → Prop} (hq : ∀ σ2, zAc σ σ2 n (m + 1) f → Q σ2) : wX9_add ln σ' 1 x Q := by
  have g1' : gr σ' 1 0 = some 2 := by
    show σ'.2.1 1 0 = _
    rw [h.1]
    exact g1
  have e : ¬ nI 600 ≤ nI (n + m) := nI_ge (by omega) (by omega)
  refine ⟨2, g1', ?_⟩
  rw [l, h.2.2.1]
  refine ⟨fun x => absurd x e, fun _ => ⟨2, g1', fun x3 e3 => ?_⟩⟩
  subst e3
  refine ⟨by rw [l]; exact vp_in_nI (by omega) (by omega), fun σ5 e5 x6 e6 σ7 e7 => ?_⟩
  rw [nI_clamp (by omega)] at e5
  subst e5
  rw [si_out _ _ (show 1 ≠ 2 by decide), h.2.2.1, nI_1] at e6
  subst e6 e7 hx
  exact hq _ h.s
theorem C_wd {ln : Nat → Nat} {σ σ' : zS} {n m : Nat} {f : Nat → Int32} (g0 : gr σ 0 0 = some 1) (g1 : gr σ 1 0 = some 2) (l : ln 2 = 600) (hn : n + m + 4 ≤ 600) (h : zAc σ σ' n m f) {w : Int32} (h0 : (w >>> ((24 : Int32) &&& 31)) &&& 255 = f m) (h1 : (w >>> ((16 : Int32) &&& 31)) &&& 255 = f (m + 1)) (h2 : (w >>> ((8 : Int32) &&& 31)) &&& 255 = f (m + 2)) (h3 : (w >>> ((0 : Int32) &&& 31)) &&& 255 = f (m + 3)) {Q : zS → Prop} (hq : ∀ σ2, zAc σ σ2 n (m + 4) f → Q σ2) : wX11_appendWord ln σ' 0 w Q := by
  have G : ∀ {τ : zS} {k : Nat}, zAc σ τ n k f → gr τ 0 0 = some 1 := fun {τ k} hτ => by
    show τ.2.1 0 0 = _
    rw [hτ.1]
    exact g0
  refine ⟨5, ?_⟩
  rw [wX11_appendWord_3]
  refine ⟨fun x => absurd x (by decide), fun _ => ⟨1, G h, fun x2 e2 => C_ad1 g1 l (by omega) h (e2.trans h0) (fun τ1 a1 x4 e4 => ?_)⟩⟩
  rw [show (24 : Int32) + (-8) = 16 by decide] at e4
  subst e4
  rw [wX11_appendWord_3]
  refine ⟨fun x => absurd x (by decide), fun _ => ⟨1, G a1, fun x2 e2 => C_ad1 g1 l (by omega) a1 (e2.trans h1) (fun τ2 a2 x4 e4 => ?_)⟩⟩
  rw [show (16 : Int32) + (-8) = 8 by decide] at e4
  subst e4
  rw [wX11_appendWord_3]
  refine ⟨fun x => absurd x (by decide), fun _ => ⟨1, G a2, fun x2 e2 => C_ad1 g1 l (by omega) a2 (e2.trans h2) (fun τ3 a3 x4 e4 => ?_)⟩⟩
  rw [show (8 : Int32) + (-8) = 0 by decide] at e4
  subst e4
  rw [wX11_appendWord_3]
  refine ⟨fun x => absurd x (by decide), fun _ => ⟨1, G a3, fun x2 e2 => C_ad1 g1 l (by omega) a3 (e2.trans h3) (fun τ4 a4 x4 e4 => ?_)⟩⟩
  rw [show (0 : Int32) + (-8) = -8 by decide] at e4
  subst e4
  rw [wX11_appendWord_3]
  exact ⟨fun _ => hq τ4 a4, fun x => absurd (by decide) x⟩
theorem M_ad1 {ln : Nat → Nat} {σ σ' : zS} {n m : Nat} {f : Nat → Int32} (G : zMg (gr σ) ln) (hn : n + m < 600) (h : zAm σ σ' n m f) {w : Int32} (hw : vp_nar .byte w.toInt8.toInt32 = f m) {Q : zS → Prop} (hq : ∀ σ2, zAm σ σ2 n (m + 1) f → Q σ2) : ∃ j1 : Nat, gr σ' 455 12 = some j1 ∧ ∀ x2 : Int32, x2 = w.toInt8.toInt32 → ∀ x3 : Int32, x3 = gi σ' 455 13 → vp_in x3 (ln j1) ∧ ∀ σ5 : zS, σ5 = si σ' j1 x3.toNatClampNeg (vp_nar .byte x2) → ∀ x6 : Int32, x6 = (gi σ5 455 13) + 1 → ∀ σ7 : zS, σ7 = si σ5 455 13 x6 → Q σ7 := by
  have g' : gr σ' 455 12 = some 462 := by
    show σ'.2.1 455 12 = _
    rw [h.1]
    exact G.1.2.2.2.2.2.2.2
  refine ⟨462, g', fun x2 e2 x3 e3 => ?_⟩
  rw [h.2.2.2.1] at e3
  subst e2 e3
  refine ⟨by rw [G.2.2.2.2.2.2.2]; exact vp_in_nI (by omega) (by omega), fun σ5 e5 x6 e6 σ7 e7 => ?_⟩
  rw [nI_clamp (by omega), hw] at e5
  subst e5
  rw [si_out _ _ (show 455 ≠ 462 by decide), h.2.2.2.1, nI_1] at e6
  subst e6 e7
  exact hq _ h.s
theorem M_wd {ln : Nat → Nat} {σ σ' : zS} {n m : Nat} {f : Nat → Int32} (G : zMg (gr σ) ln) (hn : n + m + 4 ≤ 600) (h : zAm σ σ' n m f) {w : Int32} (h0 : vp_nar .byte (w >>> ((24 : Int32) &&& 31)).toInt8.toInt32 = f m) (h1 : vp_nar .byte (w >>> ((16 : Int32) &&& 31)).toInt8.toInt32 = f (m + 1)) (h2 : vp_nar .byte (w >>> ((8 : Int32) &&& 31)).toInt8.toInt32 = f (m + 2)) (h3 : vp_nar .byte (w >>> ((0 : Int32) &&& 31)).toInt8.toInt32 = f (m + 3)) {Q : zS → Prop} (hq : ∀ σ2, zAm σ σ2 n (m + 4) f → Q σ2) : wX12_adds ln σ' 455 w Q := by
  refine ⟨5, ?_⟩
  rw [wX12_adds_3]
  refine ⟨fun x => absurd x (by decide), fun _ => M_ad1 G (by omega) h h0 (fun τ1 a1 x4 e4 => ?_)⟩
  rw [show (24 : Int32) + (-8) = 16 by decide] at e4
  subst e4
  rw [wX12_adds_3]
  refine ⟨fun x => absurd x (by decide), fun _ => M_ad1 G (by omega) a1 h1 (fun τ2 a2 x4 e4 => ?_)⟩
  rw [show (16 : Int32) + (-8) = 8 by decide] at e4
  subst e4
  rw [wX12_adds_3]
  refine ⟨fun x => absurd x (by decide), fun _ => M_ad1 G (by omega) a2 h2 (fun τ3 a3 x4 e4 => ?_)⟩
  rw [show (8 : Int32) + (-8) = 0 by decide] at e4
  subst e4
  rw [wX12_adds_3]
  refine ⟨fun x => absurd x (by decide), fun _ => M_ad1 G (by omega) a3 h3 (fun τ4 a4 x4 e4 => ?_)⟩
  rw [show (0 : Int32) + (-8) = -8 by decide] at e4
  subst e4
  rw [wX12_adds_3]
  exact ⟨fun _ => hq τ4 a4, fun x => absurd (by decide) x⟩
/-- the world with another input -/
theorem zWp_in {S : zSp} {σ σ' : zS} {N p p' s m : Nat} {h : Nat → Nat → Int32} (W : zWp S σ N p p' s m h) (eg : gr σ' = gr σ) (ei : ∀ a, (a < 455 ∧ a ≠ 1 ∧ a ≠ 2) ∨ a = 456 ∨ a = 459 ∨ a = 461 ∨ 465 ≤ a → gi σ' a = gi σ a) (el : ∀ a, a < 455 → gl σ' a = gl σ a) (e5 : ∀ j, j = 5 ∨ j = 11 ∨ j = 14 → gi σ' 455 j = gi σ 455 j) (I : zIn σ') : zWp S σ' N p p' s m h := by
  obtain ⟨w1, w2, ⟨w3, w3'⟩, ⟨w4, w4', w4''⟩, w5, ⟨w6, w6', ⟨h1, h2, h3⟩, ⟨r1, r2⟩, w6''⟩, _, w8, ⟨a, c, s1, s2, s3, s4, s5, s6, s7, s8, s9, s10, s11, s12⟩⟩ := W
  have e456 := ei 456 (by omega)
  have hp : p + 127 ≤ 455 := by omega
  have hp7 : 7 ≤ p := by omega
  unfold zWp
  rw [eg, e456]
  refine ⟨w1, w2, ⟨zPl_ci w3 eg (fun a _ _ => ei a (by omega)), fun q hq k hk hk2 => ?_⟩, ⟨KM_o w4 (fun a _ _ => ⟨ei a (by omega), el a (by omega)⟩), w4', w4''⟩, fun b hb => ?_, ⟨w6, w6', ⟨?_, ?_, fun i hi => ?_⟩, ⟨?_, fun i hi k hk => ?_⟩, w6''⟩, I, ?_, ⟨a, c, ?_, s2, s3, s4, s5, ?_, ?_, ?_, s9, s10, fun k hk => ?_, fun k hk => ?_⟩⟩
  · rw [ei _ (by omega)]
    exact w3' q hq k hk hk2
  · have hb2 := zIsM_b hb
    rw [ei _ (by omega), ei _ (by omega)]
    exact w5 b hb
  · rw [ei _ (by omega)]; exact h1
  · rw [ei _ (by omega)]; exact h2
  · have hb := hslot_b s i
    rw [eg]
    exact ⟨(h3 i hi).1, KM_o (h3 i hi).2 (fun a _ _ => ⟨ei a (by omega), el a (by omega)⟩)⟩
  · rw [e5 5 (by omega)]; exact r1
  · rw [ei _ (by omega)]; exact r2 i hi k hk
  · rw [ei _ (by omega), e5 14 (by omega)]; exact w8
  · rw [eg]; exact s1
  · rw [ei _ (by omega)]; exact s6
  · rw [ei _ (by omega)]; exact s7
  · rw [e5 11 (by omega)]; exact s8
  · rw [ei _ (by omega), ei _ (by omega)]; exact s11 k hk
  · rw [ei _ (by omega)]; exact s12 k hk
def wdB (v1 v2 v3 v4 v5 : Int32) (j : Nat) : Int32 := (if j / 4 = 0 then v1 else if j / 4 = 1 then v2 else if j / 4 = 2 then v3 else if j / 4 = 3 then v4 else v5) >>> ((if j % 4 = 0 then (24 : Int32) else if j % 4 = 1 then 16 else if j % 4 = 2 then 8 else 0) &&& 31)
theorem L_append {S : zSp} {σ : zS} {N : Nat} (W : zWd S σ N) {v1 v2 v3 v4 v5 : Int32} {K : Int32 → Int32 → zS → Prop} (hK : zEnd S N K) : wL_append (zSl S) σ 0 v1 v2 v3 v4 v5 463 (fun r5 σ4 => wX12_append (zSl S) σ4 455 v1 v2 v3 v4 v5 (fun r10 σ9 => K r5 r10 σ9)) := by
  obtain ⟨p, p', s, m, h, W⟩ := W
  have OUT : ∀ (σ0 : zS) (r : Int32), wX12_append (zSl S) (sl σ0 463 0 r.toInt64) 455 v1 v2 v3 v4 v5 (fun r10 σ9 => K 0 r10 σ9) → ∀ x6 : Int64, x6 = r.toInt64 → vp_in (0 : Int32) (zSl S 463) ∧ ∀ σ8 : zS, σ8 = sl σ0 463 (0 : Int32).toNatClampNeg x6 → wX12_append (zSl S) σ8 455 v1 v2 v3 v4 v5 (fun r10 σ9 => K 0 r10 σ9) := fun σ0 r hq => c_out (σ := σ0) W.l463 (Q := fun r5 σ4 => wX12_append (zSl S) σ4 455 v1 v2 v3 v4 v5 (fun r10 σ9 => K r5 r10 σ9)) hq
  obtain ⟨n, i1, i2, i3, i4⟩ := W.2.2.2.2.2.2.1
  have g0 : gr σ 0 0 = some 1 := W.1.1.1
  have g1 : gr σ 1 0 = some 2 := W.1.2.1.1
  have l2 : zSl S 2 = 600 := W.1.2.2.1.1
  have en := nI_toInt (n := n) (by omega)
  have t20 : (20 : Int32).toInt = 20 := rfl
  have t580 : (580 : Int32).toInt = 580 := rfl
  have t600 : (600 : Int32).toInt = 600 := rfl
  have e20 : (nI n + 20).toInt = n + 20 := by rw [nadd (by rw [en, t20]; omega) (by rw [en, t20]; omega), en, t20]
  have cnd : nI n ≤ 580 ↔ nI n + 20 ≤ 600 := by
    rw [nle, nle, en, e20, t580, t600]
    omega
  unfold wL_append wxX11_append
  refine ⟨1, g0, ?_⟩
  unfold wX9_size
  rw [i2]
  refine ⟨fun hle => ?_, fun hgt => ⟨rfl, ?_⟩⟩
  · have hn : n + 20 ≤ 600 := by
      have := cnd.mp hle
      rw [nle, e20, t600] at this
      omega
    have A0 : zAc σ σ n 0 (fun j => wdB v1 v2 v3 v4 v5 j &&& 255) := ⟨rfl, fun _ _ _ => rfl, i2, fun _ _ => rfl, fun j hj => absurd hj (Nat.not_lt_zero j)⟩
    refine C_wd g0 g1 l2 (by omega) A0 rfl rfl rfl rfl (fun σ4 A1 => C_wd g0 g1 l2 (by omega) A1 rfl rfl rfl rfl (fun σ5 A2 => C_wd g0 g1 l2 (by omega) A2 rfl rfl rfl rfl (fun σ6 A3 => C_wd g0 g1 l2 (by omega) A3 rfl rfl rfl rfl (fun σ7 A4 => C_wd g0 g1 l2 (by omega) A4 rfl rfl rfl rfl (fun σ8 A5 => ?_)))))
    have r8 : gr σ8 = gr σ := by
      show σ8.2.1 = σ.2.1
      rw [A5.1]
    have gl8 : gl σ8 = gl σ := by
      show σ8.2.2.1 = σ.2.2.1
      rw [A5.1]
    refine ⟨1, by rw [r8]; exact g0, ?_⟩
    rw [A5.2.2.1]
    refine OUT _ _ ?_
    intro σ1 e1
    subst e1
    have G : zMg (gr (si (sl σ8 463 0 (nI (n + 20)).toInt64) 455 0 0)) (zSl S) := by
      show zMg (gr σ8) (zSl S)
      rw [r8]
      exact W.mg
    have e13 : gi (si (sl σ8 463 0 (nI (n + 20)).toInt64) 455 0 0) 455 13 = nI n := by
      rw [si_at, zu_ne (by decide)]
      show gi σ8 455 13 = _
      rw [A5.2.1 455 (by decide) (by decide)]
      exact i3
    rw [e13]
    refine ⟨fun _ => ?_, fun h => absurd (cnd.mp hle) h⟩
    have B0 : zAm (si (sl σ8 463 0 (nI (n + 20)).toInt64) 455 0 0) (si (sl σ8 463 0 (nI (n + 20)).toInt64) 455 0 0) n 0 (fun j => vp_nar .byte (wdB v1 v2 v3 v4 v5 j).toInt8.toInt32) := ⟨rfl, fun _ _ _ => rfl, fun _ _ => rfl, e13, fun _ _ => rfl, fun j hj => absurd hj (Nat.not_lt_zero j)⟩
    refine M_wd G (by omega) B0 rfl rfl rfl rfl (fun σa B1 => M_wd G (by omega) B1 rfl rfl rfl rfl (fun σb B2 => M_wd G (by omega) B2 rfl rfl rfl rfl (fun σc B3 => M_wd G (by omega) B3 rfl rfl rfl rfl (fun σd B4 => M_wd G (by omega) B4 rfl rfl rfl rfl (fun σe B5 => ?_)))))
    rw [B5.2.2.2.1]
    have re : gr σe = gr σ := by
      show σe.2.1 = σ.2.1
      rw [B5.1]
      show σ8.2.1 = σ.2.1
      rw [A5.1]
    have gle : ∀ a, a ≠ 463 → gl σe a = gl σ a := fun a ha => by
      show σe.2.2.1 a = _
      rw [B5.1]
      show gl (sl σ8 463 0 (nI (n + 20)).toInt64) a = _
      funext j
      rw [gl_sl, if_neg ha, gl8]
    have gie : ∀ a, a ≠ 455 → a ≠ 462 → gi σe a = gi σ8 a := fun a x1 x2 => by
      rw [B5.2.1 a x1 x2, si_out _ _ x1]
      rfl
    refine hK _ _ _ ⟨p, p', s, m, h, zWp_in W re (fun a ha => by rw [gie a (by omega) (by omega)]; exact A5.2.1 a (by omega) (by omega)) (fun a ha => gle a (by omega)) (fun j hj => ?_) ⟨n + 20, by omega, ?_, B5.2.2.2.1, fun k hk => ?_⟩⟩ ?_ (fun _ => ?_)
    · rw [B5.2.2.1 j (by omega), si_at, zu_ne (by omega)]
      show gi σ8 455 j = _
      rw [A5.2.1 455 (by decide) (by decide)]
    · rw [gie 1 (by decide) (by decide)]; exact A5.2.2.1
    · rw [gie 2 (by decide) (by decide)]
      by_cases hk2 : k < n
      · rw [A5.2.2.2.1 k hk2, B5.2.2.2.2.1 k hk2, si_out _ _ (by decide)]
        show zby _ (gi σ8 462 k)
        rw [A5.2.1 462 (by decide) (by decide)]
        exact i4 k hk2
      · obtain ⟨j, rfl⟩ : ∃ j, k = n + j := ⟨k - n, by omega⟩
        rw [A5.2.2.2.2 j (by omega), B5.2.2.2.2.2 j (by omega)]
        exact zby_w _
    · rw [B5.2.2.1 0 (by decide), si_at, zu_self]
    · show σe.2.2.1 463 0 = _
      rw [B5.1]
      show gl (sl σ8 463 0 (nI (n + 20)).toInt64) 463 0 = _
      rw [gl_sl, if_pos rfl, if_pos rfl]
  · intro σ1 e1
    subst e1
    have e13 : gi (si σ 455 0 0) 455 13 = nI n := by
      rw [si_at, zu_ne (by decide)]
      exact i3
    rw [e13]
    exact ⟨fun h => absurd (cnd.mpr h) hgt, fun _ => n_raise (W.thr hK (by decide))⟩
theorem L_truncate {S : zSp} {σ : zS} {N : Nat} (W : zWd S σ N) {v : Int32} {K : Int32 → zS → Prop} (hK : ∀ k σ', zWd S σ' N → gi σ' 455 0 = k → K k σ') : wL_truncate (zSl S) σ 0 v (fun r5 σ4 => wX12_truncate (zSl S) σ4 455 v (fun σ9 => K r5 σ9)) := by
  obtain ⟨p, p', s, m, h, W⟩ := W
  obtain ⟨n, i1, i2, i3, i4⟩ := W.2.2.2.2.2.2.1
  have g0 : gr σ 0 0 = some 1 := W.1.1.1
  have en := nI_toInt (n := n) (by omega)
  have u0 : (0 : Int64).toInt = 0 := rfl
  have z0 : (0 : Int32).toInt = 0 := rfl
  have thr : ¬ (0 ≤ v.toInt ∧ v.toInt ≤ n) → wX12_truncate (zSl S) σ 455 v (fun σ9 => K 1 σ9) := by
    intro hv σ1 e1 x2 e2 x3 e3
    subst e1
    rw [si_at, zu_ne (show 13 ≠ 0 by decide), i3] at e2
    subst e2 e3
    refine n_isIn (fun hh => absurd ?_ hv) (fun _ => ⟨fun _ σ7 e7 => ?_, fun h => absurd rfl h⟩)
    · rw [t64, u0, t64, en] at hh
      exact hh
    · subst e7
      exact hK _ _ ⟨p, p', s, m, h, zLk_W (zLk_t.tr zLk_t) W⟩ (gi_t _ _)
  have mod : (0 ≤ v.toInt ∧ v.toInt ≤ n) → ∀ σ2, (∀ j, j ≠ 1 → gi σ2 1 j = gi σ 1 j) → gi σ2 1 1 = v → σ2.2 = σ.2 → (∀ a, a ≠ 1 → gi σ2 a = gi σ a) → wX12_truncate (zSl S) σ2 455 v (fun σ9 => K 0 σ9) := by
    intro hv σ2 a1 a2 a3 a4 σ1 e1 x2 e2 x3 e3
    subst e1
    rw [si_at, zu_ne (show 13 ≠ 0 by decide), a4 455 (by decide), i3] at e2
    subst e2 e3
    refine n_isIn (fun _ => ⟨fun h => absurd h (by decide), fun _ σ6 e6 => ?_⟩) (fun hh => absurd (by rw [t64, u0, t64, en]; exact hv) hh)
    subst e6
    have cv := ncl (a := v) hv.1
    have ev : v = nI v.toNatClampNeg := by rw [neq, nI_toInt (by omega)]; omega
    have r2 : gr σ2 = gr σ := by
      show σ2.2.1 = σ.2.1
      rw [a3]
    refine hK _ _ ⟨p, p', s, m, h, zWp_in W r2 (fun a ha => ?_) (fun a _ => ?_) (fun j hj => ?_) ⟨v.toNatClampNeg, by omega, ?_, ?_, fun k hk => ?_⟩⟩ ?_
    · rw [si_out _ _ (by omega), si_out _ _ (by omega)]; exact a4 a (by omega)
    · show σ2.2.2.1 a = _
      rw [a3]
      rfl
    · rw [si_at, zu_ne (by omega), si_at, zu_ne (by omega), a4 455 (by decide)]
    · rw [si_out _ _ (by decide), si_out _ _ (by decide), a2]; exact ev
    · rw [si_at, zu_self]; exact ev
    · rw [si_out _ _ (by decide), si_out _ _ (by decide), si_out _ _ (by decide), si_out _ _ (by decide), a4 2 (by decide), a4 462 (by decide)]
      exact i4 k (by omega)
    · rw [si_at, zu_ne (by decide), si_at, zu_self]
  unfold wL_truncate wxX11_truncate wxX11_truncate_15
  refine ⟨fun hv => ⟨rfl, thr (fun e => by rw [nlt, z0] at hv; omega)⟩, fun hv => ⟨1, g0, ?_⟩⟩
  rw [nlt, z0] at hv
  unfold wX9_size
  rw [i2]
  refine ⟨fun hl => ⟨1, g0, ?_⟩, fun hl => ⟨rfl, thr (fun e => hl (by rw [nle, en]; omega))⟩⟩
  rw [nle, en] at hl
  refine ⟨fun h => absurd h (by rw [nlt, z0]; omega), fun _ => ⟨fun h => ?_, fun _ σ1 e1 => ?_⟩⟩
  · rw [i2, nle, en] at h
    exact mod ⟨by omega, hl⟩ σ (fun _ _ => rfl) (by rw [i2, neq, en]; omega) rfl (fun _ _ => rfl)
  · subst e1
    exact mod ⟨by omega, hl⟩ _ (fun j hj => by rw [si_at, zu_ne hj]) (by rw [si_at, zu_self]) rfl (fun a ha => si_out _ _ ha)
