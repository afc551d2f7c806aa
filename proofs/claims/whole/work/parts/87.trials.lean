/-! TRIALS on a copy -/
def zTl (σ0 σ : zS) : Prop := (∀ a j, ¬ (a = 277 ∧ j = 0) → gr σ a j = gr σ0 a j) ∧ gd σ = gd σ0 ∧ (∀ a, ¬ (277 ≤ a ∧ a < 293) → gi σ a = gi σ0 a ∧ gl σ a = gl σ0 a) ∧ gi σ 287 0 = nI 640 ∧ gi σ 289 0 = nI 40
theorem zTl.go {σ0 σ σ' : zS} {r : Nat → Int32} (T : zTl σ0 σ) (F : zFr (zB16 277) σ σ') (K : KM σ' 277 r) : zTl σ0 σ' := by
  obtain ⟨t1, t2, t3, t4, t5⟩ := T
  obtain ⟨f1, f2, f3⟩ := F
  obtain ⟨k1, k2⟩ := KM_cap K
  refine ⟨fun a j h => by rw [f1]; exact t1 a j h, f2.trans t2, fun a h => ?_, k1, k2⟩
  have h' : ¬ zB16 277 a := fun x => h ⟨x.1, by have := x.2; omega⟩
  exact ⟨(f3 a h').1.trans (t3 a h).1, (f3 a h').2.trans (t3 a h).2⟩
/-- the misprints of n ticks -/
def tM (n : Nat) (r : Nat → Int32) : Int32 := (rN n r 33 + rN n r 34) - (r 33 + r 34)
/-- the row put back -/
def xR (r y : Nat → Int32) : Nat → Int32 := fun k => if k < 4763 then r k else y k
theorem xR_cg (r y : Nat → Int32) : zcg r (xR r y) := fun k hk => by
  show (if k < 4763 then r k else y k) = r k
  rw [if_pos hk]
section ZTRIAL
variable {S : zSp} {σ σ1 : zS} {N p p' s m : Nat} {h : Nat → Nat → Int32}
theorem zWp.tl (W : zWp S σ N p p' s m h) : zTl σ σ := ⟨fun _ _ _ => rfl, rfl, fun _ _ => ⟨rfl, rfl⟩, (W.2.2.2.2.1 277 (Or.inr (Or.inl rfl))).1, (W.2.2.2.2.1 277 (Or.inr (Or.inl rfl))).2⟩
theorem zTl.st (T : zTl σ σ1) (W : zWp S σ N p p' s m h) : zST (gr σ1) (zSl S) := zST_e W.1 (fun a j h => T.1 a j (fun x => h ⟨by rw [x.1]; exact Or.inr (Or.inl rfl), x.2⟩))
theorem zTl.pl (T : zTl σ σ1) (W : zWp S σ N p p' s m h) : zPl σ1 (zSl S) p (gi σ 456) := zPl_cr W.pb W.pl (fun a j ha => T.1 a j (fun x => by omega)) (fun a ha => (T.2.2.1 a (by omega)).1)
theorem T_copy (W : zWp S σ N p p' s m h) (T : zTl σ σ1) {Q : zS → Prop} (hq : ∀ σ', KM σ' 277 (gi σ 456) → zTl σ σ' → gr σ' 277 0 = some p → Q σ') : wX3_copyFrom (zSl S) σ1 277 261 Q := by
  have st := T.st W
  refine C_copy (b := 277) (b1 := 261) (p := p) (st.2.2.2.2.1 277 (Or.inr (Or.inl rfl))) (st.2.2.2.2.1 261 (Or.inl rfl)) (Or.inr (by omega)) (by rw [T.1 261 0 (by omega)]; exact W.gm) (KM_o W.km (fun a x1 x2 => T.2.2.1 a (by omega))) W.w W.x14 T.2.2.2.1 T.2.2.2.2 (fun σ' k f => ?_)
  obtain ⟨f1, f2, f3⟩ := f
  obtain ⟨k1, k2⟩ := KM_cap k
  refine hq σ' k ⟨fun a j h => ?_, f2.trans T.2.1, fun a h => ⟨(f3 a h).1.trans (T.2.2.1 a h).1, (f3 a h).2.trans (T.2.2.1 a h).2⟩, k1, k2⟩ ?_
  · rw [f1, gr_sr, ← T.1 a j h]
    by_cases e : a = 277
    · rw [if_pos e, if_neg (fun x => h ⟨e, x⟩)]
    · rw [if_neg e]
  · rw [f1, gr_sr, if_pos rfl, if_pos rfl]
theorem T_mis (W : zWp S σ N p p' s m h) (hN : N ≤ 512) (T : zTl σ σ1) (gp : gr σ1 277 0 = some p) {r : Nat → Int32} (K : KM σ1 277 r) (E : zEv r N) (kp : zkp (gi σ 456) r) {n : Nat} (hn : n ≤ 2000) (h5 : (r 5).toInt ≤ 100000) {Q : Int32 → zS → Prop} (hq : ∀ σ', zTl σ σ' → Q (tM n r) σ') : wX11_misprintsOfTrial (zSl S) σ1 0 (nI n) Q := by
  have g4 : gr σ1 0 4 = some 277 := by rw [T.1 0 4 (by omega)]; exact W.1.1.2.2.2.2.1
  have S1 := (T.st W).2.2.2.2.1 277 (Or.inr (Or.inl rfl))
  have e1 : gi σ1 278 4 = r 33 := K.2.1.1.2.2.2.2.1
  have e2 : gi σ1 281 4 = r 34 := K.2.1.2.2.2.2.2.1
  have hp := W.pb
  refine ⟨277, g4, 278, S1.1.1, 277, g4, 281, S1.1.2.1, fun x5 e5 => ⟨n + 1, ?_⟩⟩
  rw [e1, e2] at e5
  subst e5
  exact C_mis24 (p := p) (N := N) (Or.inl (by omega)) hN (by omega) n 0 σ1 r (by omega) g4 S1 gp ((T.pl W).c kp W.w) K E (by omega) (fun σ' k' f' => hq σ' (T.go f' k'))
end ZTRIAL
/-- the model at a trial -/
def zMt (σ1 σ : zS) (r : Nat → Int32) : Prop := σ.2 = σ1.2 ∧ (∀ a, a ≠ 455 → a ≠ 456 → a ≠ 458 → a ≠ 460 → gi σ a = gi σ1 a) ∧ (∀ j, j ≠ 7 → j ≠ 9 → gi σ 455 j = gi σ1 455 j) ∧ zcg r (gi σ 458)
theorem zMt.r {σ1 σ : zS} {r : Nat → Int32} (M : zMt σ1 σ r) : gr σ = gr σ1 := by
  show σ.2.1 = σ1.2.1
  rw [M.1]
theorem zMt.l {σ1 σ : zS} {r : Nat → Int32} (M : zMt σ1 σ r) : gl σ = gl σ1 := by
  show σ.2.2.1 = σ1.2.2.1
  rw [M.1]
theorem zMt.go {σ1 σ σ' : zS} {r : Nat → Int32} (M : zMt σ1 σ r) (F : zMf σ σ') : zMt σ1 σ' r := ⟨F.1.trans M.1, fun a h1 h2 h3 h4 => (F.2.1 a h2 h4 h1).trans (M.2.1 a h1 h2 h3 h4), fun j h1 h2 => (F.2.2 j h1 h2).trans (M.2.2.1 j h1 h2), by rw [F.2.1 458 (by decide) (by decide) (by decide)]; exact M.2.2.2⟩
theorem M_save {ln : Nat → Nat} {σ : zS} (G : zMg (gr σ) ln) {Q : zS → Prop} (hq : ∀ σ', zMt σ σ' (gi σ 456) → gi σ' 456 = gi σ 456 → Q σ') : wX12_copies ln σ 456 458 Q := by
  refine M_copies (by decide) G.2.1 G.2.2.2.1 (hq _ ⟨rfl, fun a h1 h2 h3 h4 => sI_out _ _ h3, fun j h1 h2 => by rw [sI_out _ _ (by decide)], ?_⟩ (sI_out _ _ (by decide)))
  rw [sI_at]
  exact fun k hk => by
    show (if k < 4763 then gi σ 456 k else gi σ 458 k) = _
    rw [if_pos hk]
theorem M_back {ln : Nat → Nat} {σ1 σ : zS} {r : Nat → Int32} (G : zMg (gr σ) ln) (M : zMt σ1 σ r) {Q : zS → Prop} (hq : ∀ σ', zMt σ1 σ' r → gi σ' 456 = xR r (gi σ 456) → gi σ' 455 = gi σ 455 → gr σ' = gr σ → Q σ') : wX12_copies ln σ 458 456 Q := by
  refine M_copies (by decide) G.2.2.2.1 G.2.1 (hq _ ⟨M.1, fun a h1 h2 h3 h4 => (sI_out _ _ h2).trans (M.2.1 a h1 h2 h3 h4), fun j h1 h2 => by rw [sI_out _ _ (by decide)]; exact M.2.2.1 j h1 h2, by rw [sI_out _ _ (by decide)]; exact M.2.2.2⟩ ?_ (sI_out _ _ (by decide)) rfl)
  rw [sI_at]
  funext k
  show (if k < 4763 then gi σ 458 k else gi σ 456 k) = if k < 4763 then r k else gi σ 456 k
  by_cases hk : k < 4763
  · rw [if_pos hk, if_pos hk]; exact M.2.2.2 k hk
  · rw [if_neg hk, if_neg hk]
theorem M_wrong {ln : Nat → Nat} {σ : zS} {N : Nat} (G : zMg (gr σ) ln) (hN : N ≤ 512) (E : zEv (gi σ 456) N) {n : Nat} (hn : n ≤ 2000) (h5 : (gi σ 456 5).toInt ≤ 100000) {Q : Int32 → zS → Prop} (hq : ∀ σ', gi σ' 456 = rN n (gi σ 456) → gi σ' 455 9 = fN n (gi σ 456) (gi σ 455 9) → zMf σ σ' → Q (tM n (gi σ 456)) σ') : wX12_wrongIn ln σ 455 (nI n) Q := by
  refine ⟨456, G.1.1, by rw [G.2.1]; exact vq33, 456, G.1.1, by rw [G.2.1]; exact vq34, n + 1, ?_⟩
  rw [cq33, cq34]
  exact M_wr7 hN (m := n) (by omega) n 0 σ (by omega) G E (by omega) hq
/-- the end of a trial -/
theorem tri_fin {S : zSp} {σ : zS} {N p p' s m : Nat} {h : Nat → Nat → Int32} (W : zWp S σ N p p' s m h) {K : Int32 → Int32 → zS → Prop} (hK : zEnd S N K) {σ2 σ5 : zS} {v : Int64} {b : Int32} (T : zTl σ σ2) (M : zMt (si (sl σ2 463 0 v) 455 0 0) σ5 (gi σ 456)) (C : zcg (gi σ 456) (gi σ5 456)) (hb : v = b.toInt64) : K 0 b σ5 := by
  have W0 := W
  obtain ⟨w1, w2, w3, ⟨w4, w4', w4''⟩, w5, ⟨w6, w6', w6h, w6r, w6''⟩, w7⟩ := W
  have g5 : gr σ5 = gr σ2 := M.r
  have i5 : ∀ a, a ≠ 455 → a ≠ 456 → a ≠ 458 → a ≠ 460 → gi σ5 a = gi σ2 a := fun a x1 x2 x3 x4 => by
    rw [M.2.1 a x1 x2 x3 x4, si_out _ _ x1]
    rfl
  have l5 : ∀ a, a ≠ 463 → gl σ5 a = gl σ2 a := fun a ha => by
    rw [M.l]
    show gl (sl σ2 463 0 v) a = _
    funext j
    rw [gl_sl, if_neg ha]
  have j5 : ∀ j, j ≠ 0 → j ≠ 7 → j ≠ 9 → gi σ5 455 j = gi σ 455 j := fun j x1 x2 x3 => by
    rw [M.2.2.1 j x2 x3, si_at, zu_ne x1]
    show gi σ2 455 j = _
    rw [(T.2.2.1 455 (by omega)).1]
  have o : ∀ a, ¬ (277 ≤ a ∧ a < 293) → a ≠ 455 → a ≠ 456 → a ≠ 458 → a ≠ 460 → gi σ5 a = gi σ a := fun a x0 x1 x2 x3 x4 => (i5 a x1 x2 x3 x4).trans (T.2.2.1 a x0).1
  have ol : ∀ a, ¬ (277 ≤ a ∧ a < 293) → a ≠ 463 → gl σ5 a = gl σ a := fun a x0 x1 => (l5 a x1).trans (T.2.2.1 a x0).2
  have egr : ∀ a j, ¬ (a = 277 ∧ j = 0) → gr σ5 a j = gr σ a j := fun a j hx => by rw [g5]; exact T.1 a j hx
  refine hK _ _ _ ⟨p, p', s, m, h, zWp_mk W0 (r2 := gi σ5 456) rfl (fun a j hx => egr a j (fun x => hx ⟨by rw [x.1]; exact Or.inr (Or.inl rfl), x.2⟩)) (by rw [egr 261 0 (by omega)]; exact W0.gm) (fun a ha => o a (by omega) (by omega) (by omega) (by omega) (by omega)) (fun j hj => j5 j (by omega) (by omega) (by omega)) (KM_cg (KM_o w4 (fun a x1 x2 => ⟨o a (by omega) (by omega) (by omega) (by omega) (by omega), ol a (by omega) (by omega)⟩)) W0.w C) (zEv_cg w4' C) (by rw [C 5 (by omega)]; exact w4'') (zkp_cg C) (fun b hb => ?_) w6 w6' ⟨?_, ?_, fun k hk => ?_⟩ ⟨?_, fun k hk j hj => ?_⟩ w6''⟩ ?_ (fun _ => ?_)
  · have hb2 := zIsM_b hb
    by_cases e : b = 277
    · subst e
      rw [i5 _ (by omega) (by omega) (by omega) (by omega), i5 _ (by omega) (by omega) (by omega) (by omega)]
      exact ⟨T.2.2.2.1, T.2.2.2.2⟩
    · have : b < 262 ∨ 293 ≤ b := by
        rcases hb with rfl | rfl | ⟨u, hu, rfl⟩
        · omega
        · exact absurd rfl e
        · omega
      rw [o _ (by omega) (by omega) (by omega) (by omega) (by omega), o _ (by omega) (by omega) (by omega) (by omega) (by omega)]
      exact w5 b hb
  · rw [o _ (by omega) (by omega) (by omega) (by omega) (by omega)]; exact w6h.1
  · rw [o _ (by omega) (by omega) (by omega) (by omega) (by omega)]; exact w6h.2.1
  · have hb := hslot_b s k
    exact ⟨by rw [egr _ 0 (by omega)]; exact (w6h.2.2 k hk).1, KM_o (w6h.2.2 k hk).2 (fun a x1 x2 => ⟨o a (by omega) (by omega) (by omega) (by omega) (by omega), ol a (by omega) (by omega)⟩)⟩
  · rw [j5 5 (by decide) (by decide) (by decide)]; exact w6r.1
  · rw [o _ (by omega) (by omega) (by omega) (by omega) (by omega)]; exact w6r.2 k hk j hj
  · rw [M.2.2.1 0 (by decide) (by decide), si_at, zu_self]
  · rw [M.l]
    show gl (sl σ2 463 0 v) 463 0 = _
    rw [gl_sl, if_pos rfl, if_pos rfl, hb]
theorem L_misprintsIn {S : zSp} {σ : zS} {N : Nat} (W : zWd S σ N) (hN : N ≤ 512) {v : Int32} {K : Int32 → Int32 → zS → Prop} (hK : zEnd S N K) : wL_misprintsIn (zSl S) σ 0 v 463 (fun r5 σ4 => wX12_misprintsIn (zSl S) σ4 455 v (fun r10 σ9 => K r5 r10 σ9)) := by
  obtain ⟨p, p', s, m, h, W⟩ := W
  have OUT : ∀ (σ0 : zS) (r : Int32), wX12_misprintsIn (zSl S) (sl σ0 463 0 r.toInt64) 455 v (fun r10 σ9 => K 0 r10 σ9) → ∀ x6 : Int64, x6 = r.toInt64 → vp_in (0 : Int32) (zSl S 463) ∧ ∀ σ8 : zS, σ8 = sl σ0 463 (0 : Int32).toNatClampNeg x6 → wX12_misprintsIn (zSl S) σ8 455 v (fun r10 σ9 => K 0 r10 σ9) := fun σ0 r hq => c_out (σ := σ0) W.l463 (Q := fun r5 σ4 => wX12_misprintsIn (zSl S) σ4 455 v (fun r10 σ9 => K r5 r10 σ9)) hq
  have u0 : (1 : Int64).toInt = 1 := rfl
  have u5 : (2000 : Int64).toInt = 2000 := rfl
  have T0 := W.w.T
  have T5 := W.2.2.2.1.2.2
  have g4 : gr σ 0 4 = some 277 := W.1.1.2.2.2.2.1
  have x14 := W.x14
  unfold wL_misprintsIn wxX11_misprintsIn
  refine c_range (fun hr => ⟨277, g4, 261, W.g3, ?_⟩) (fun hr => ⟨rfl, ?_⟩)
  · have hr : 1 ≤ v.toInt ∧ v.toInt ≤ 2000 := hr
    have ev : v = nI v.toNatClampNeg := by
      have := ncl (a := v) (by omega)
      rw [neq, nI_toInt (by omega)]
      omega
    have cv := ncl (a := v) (by omega)
    refine T_copy W W.tl (fun σ' k t gp => ?_)
    have hc := T_mis W hN t gp k W.ev zkp.rf (n := v.toNatClampNeg) (by omega) T5 (Q := fun r7 σ6 => ∀ x6 : Int64, x6 = r7.toInt64 → vp_in (0 : Int32) (zSl S 463) ∧ ∀ σ8 : zS, σ8 = sl σ6 463 (0 : Int32).toNatClampNeg x6 → wX12_misprintsIn (zSl S) σ8 455 v (fun r10 σ9 => K 0 r10 σ9)) (fun σ2 t2 => OUT _ _ ?_)
    · rw [← ev] at hc
      exact hc
    · intro σ3 e3 x2 e4
      subst e3 e4
      have G2 : zMg (gr (si (sl σ2 463 0 (tM v.toNatClampNeg (gi σ 456)).toInt64) 455 0 0)) (zSl S) := (t2.st W).2.2.2.2.2.2
      have e456 : gi (si (sl σ2 463 0 (tM v.toNatClampNeg (gi σ 456)).toInt64) 455 0 0) 456 = gi σ 456 := by rw [row_t]; exact (t2.2.2.1 456 (by omega)).1
      refine n_isIn (fun _ => ⟨fun h => absurd h (by decide), fun _ => ⟨456, G2.1.1, 458, G2.1.2.2.1, ?_⟩⟩) (fun hh => absurd (by rw [t64, u0, u5]; exact hr) hh)
      refine M_save G2 (fun σa ma ra => ?_)
      rw [e456] at ma ra
      have Ga : zMg (gr σa) (zSl S) := by rw [ma.r]; exact G2
      have hm := M_wrong (N := N) Ga hN (by rw [ra]; exact W.ev) (n := v.toNatClampNeg) (by omega) (by rw [ra]; exact T5) (Q := fun r9 σ8 => ∃ j10 : Nat, gr σ8 455 3 = some j10 ∧ ∃ j11 : Nat, gr σ8 455 1 = some j11 ∧ wX12_copies (zSl S) σ8 j10 j11 (fun σ12 => K 0 r9 σ12)) (fun σb rb _ fb => ?_)
      · rw [← ev] at hm
        exact hm
      · have Gb : zMg (gr σb) (zSl S) := by rw [fb.r]; exact Ga
        refine ⟨458, Gb.1.2.2.1, 456, Gb.1.1, M_back Gb (ma.go fb) (fun σc mc rc _ _ => ?_)⟩
        rw [ra]
        exact tri_fin W hK t2 mc (by rw [rc]; exact xR_cg _ _) rfl
  · intro σ1 e1 x2 e2
    subst e1 e2
    refine n_isIn (fun hh => absurd ?_ hr) (fun _ => ⟨fun _ => n_raise (W.thr hK (by decide)), fun h => absurd rfl h⟩)
    rw [t64, u0, u5] at hh
    exact hh
theorem L_ticksUntilDone {S : zSp} {σ : zS} {N : Nat} (W : zWd S σ N) (hN : N ≤ 512) {v : Int32} {K : Int32 → Int32 → zS → Prop} (hK : zEnd S N K) : wL_ticksUntilDone (zSl S) σ 0 v 463 (fun r5 σ4 => wX12_ticksUntilDone (zSl S) σ4 455 v (fun r10 σ9 => K r5 r10 σ9)) := by
  obtain ⟨p, p', s, m, h, W⟩ := W
  have OUT : ∀ (σ0 : zS) (r : Int32), wX12_ticksUntilDone (zSl S) (sl σ0 463 0 r.toInt64) 455 v (fun r10 σ9 => K 0 r10 σ9) → ∀ x6 : Int64, x6 = r.toInt64 → vp_in (0 : Int32) (zSl S 463) ∧ ∀ σ8 : zS, σ8 = sl σ0 463 (0 : Int32).toNatClampNeg x6 → wX12_ticksUntilDone (zSl S) σ8 455 v (fun r10 σ9 => K 0 r10 σ9) := fun σ0 r hq => c_out (σ := σ0) W.l463 (Q := fun r5 σ4 => wX12_ticksUntilDone (zSl S) σ4 455 v (fun r10 σ9 => K r5 r10 σ9)) hq
  have u0 : (1 : Int64).toInt = 1 := rfl
  have u5 : (5000 : Int64).toInt = 5000 := rfl
  have T0 := W.w.T
  have T5 := W.2.2.2.1.2.2
  have g4 : gr σ 0 4 = some 277 := W.1.1.2.2.2.2.1
  have x14 := W.x14
  unfold wL_ticksUntilDone wxX11_ticksUntilDone
  refine c_range (fun hr => ⟨277, g4, 261, W.g3, ?_⟩) (fun hr => ⟨rfl, ?_⟩)
  · have hr : 1 ≤ v.toInt ∧ v.toInt ≤ 5000 := hr
    have ev : v = nI v.toNatClampNeg := by
      have := ncl (a := v) (by omega)
      rw [neq, nI_toInt (by omega)]
      omega
    have cv := ncl (a := v) (by omega)
    refine T_copy W W.tl (fun σ' k t gp => ⟨277, by rw [t.1 0 4 (by omega)]; exact g4, v.toNatClampNeg + 1, ?_⟩)
    have mod : ∀ (w : Int32), ((rG v.toNatClampNeg (gi σ 456)).2 6 = -1 → w = nI (0 + (rG v.toNatClampNeg (gi σ 456)).1)) → (¬ (rG v.toNatClampNeg (gi σ 456)).2 6 = -1 → w = -1) → ∀ σ2, zTl σ σ2 → wX12_ticksUntilDone (zSl S) (sl σ2 463 0 w.toInt64) 455 v (fun r10 σ9 => K 0 r10 σ9) := by
      intro w hw1 hw2 σ2 t2 σ3 e3 x2 e4
      subst e3 e4
      have G2 : zMg (gr (si (sl σ2 463 0 w.toInt64) 455 0 0)) (zSl S) := (t2.st W).2.2.2.2.2.2
      have e456 : gi (si (sl σ2 463 0 w.toInt64) 455 0 0) 456 = gi σ 456 := by rw [row_t]; exact (t2.2.2.1 456 (by omega)).1
      refine n_isIn (fun _ => ⟨fun h => absurd h (by decide), fun _ => ⟨456, G2.1.1, 458, G2.1.2.2.1, ?_⟩⟩) (fun hh => absurd (by rw [t64, u0, u5]; exact hr) hh)
      refine M_save G2 (fun σa ma ra => ⟨v.toNatClampNeg + 1, ?_⟩)
      rw [e456] at ma ra
      have Ga : zMg (gr σa) (zSl S) := by rw [ma.r]; exact G2
      have hm := M_goes2 (N := N) (ln := zSl S) hN (Q := fun r9 σ8 => wX12_isSender (zSl S) σ8 455 (fun r11 σ10 => ∃ j12 : Nat, gr σ10 455 3 = some j12 ∧ ∃ j13 : Nat, gr σ10 455 1 = some j13 ∧ wX12_copies (zSl S) σ10 j12 j13 (fun σ14 => ((r11 = 0 → K 0 r9 σ14) ∧ (¬ r11 = 0 → K 0 (-1) σ14))))) (m := v.toNatClampNeg) (by omega) v.toNatClampNeg 0 σa (by omega) Ga (by rw [ra]; exact W.ev) (by rw [ra]; omega) (fun σb rb fb => by
        rw [ra] at rb ⊢
        have Gb : zMg (gr σb) (zSl S) := by rw [fb.r]; exact Ga
        refine M_isSender Gb ?_
        refine ⟨458, Gb.1.2.2.1, 456, Gb.1.1, M_back Gb (ma.go fb) (fun σc mc rc _ _ => ?_)⟩
        rw [rb]
        by_cases h6 : (rG v.toNatClampNeg (gi σ 456)).2 6 = -1
        · rw [if_pos h6]
          refine ⟨fun _ => ?_, fun h => absurd rfl h⟩
          rw [← hw1 h6]
          exact tri_fin W hK t2 mc (by rw [rc]; exact xR_cg _ _) rfl
        · rw [if_neg h6]
          refine ⟨fun h => absurd h (by decide), fun _ => ?_⟩
          rw [← hw2 h6]
          exact tri_fin W hK t2 mc (by rw [rc]; exact xR_cg _ _) rfl)
      rw [← ev] at hm
      exact hm
    have hp := W.pb
    have st := t.st W
    have hc := C_until2 (b := 277) (p := p) (N := N) (ln := zSl S) (Or.inl (by omega)) hN (Q := fun r8 σ7 => ∃ j9 : Nat, gr σ7 0 4 = some j9 ∧ (((gi σ7 j9 3) = (-1) → ∀ x6 : Int64, x6 = r8.toInt64 → vp_in (0 : Int32) (zSl S 463) ∧ ∀ σ8 : zS, σ8 = sl σ7 463 (0 : Int32).toNatClampNeg x6 → wX12_ticksUntilDone (zSl S) σ8 455 v (fun r10 σ9 => K 0 r10 σ9)) ∧ (¬ (gi σ7 j9 3) = (-1) → ∀ x6 : Int64, x6 = (-1 : Int32).toInt64 → vp_in (0 : Int32) (zSl S 463) ∧ ∀ σ8 : zS, σ8 = sl σ7 463 (0 : Int32).toNatClampNeg x6 → wX12_ticksUntilDone (zSl S) σ8 455 v (fun r10 σ9 => K 0 r10 σ9)))) (m := v.toNatClampNeg) (by omega) v.toNatClampNeg 0 σ' (gi σ 456) (by omega) (st.2.2.2.2.1 277 (Or.inr (Or.inl rfl))) gp (t.pl W) k W.ev (by omega) (fun σ2 k2 f2 _ => by
      have t2 := t.go f2 k2
      have e3 : gi σ2 277 3 = (rG v.toNatClampNeg (gi σ 456)).2 6 := k2.1.2.2.1
      refine ⟨277, by rw [t2.1 0 4 (by omega)]; exact g4, ?_⟩
      rw [e3]
      exact ⟨fun h6 => OUT _ _ (mod _ (fun _ => rfl) (fun h => absurd h6 h) σ2 t2), fun h6 => OUT _ _ (mod _ (fun h => absurd h h6) (fun _ => rfl) σ2 t2)⟩)
    rw [← ev] at hc
    exact hc
  · intro σ1 e1 x2 e2
    subst e1 e2
    refine n_isIn (fun hh => absurd ?_ hr) (fun _ => ⟨fun _ => n_raise (W.thr hK (by decide)), fun h => absurd rfl h⟩)
    rw [t64, u0, u5] at hh
    exact hh
