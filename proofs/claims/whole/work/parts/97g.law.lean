/-! THE LAW: every call, one after another -/
section ZLAW2
variable {L : Nat} {xs : Nat → Int32} {kb : Nat → Nat → Nat → Nat → Int32 → zSp → zS → Prop} {v5 : Int32} {S : zSp} {σ : zS} {N : Nat}
theorem law_376 (W : zWd S σ N) (hv1 : vp_in (v5 + 1) L) (next : ∀ σ', zWd S σ' N → kb 0 455 463 464 (v5 + 6) S σ') : wL_law_376 L xs kb 0 455 463 464 v5 S σ := by
  unfold wL_law_376
  simp only [forall_eq, hv1, true_and]
  exact L_truncate W (fun k σ' w t => ⟨fun _ => law_2768 next w, fun hx => absurd t hx⟩)
theorem law_663 (W : zWd S σ N) (hv1 : vp_in (v5 + 1) L) (hv2 : vp_in (v5 + 2) L) (next : ∀ σ', zWd S σ' N → kb 0 455 463 464 (v5 + 6) S σ') : wL_law_663 L xs kb 0 455 463 464 v5 S σ := by
  unfold wL_law_663
  simp only [forall_eq, hv1, hv2, true_and]
  refine ⟨fun h0 => ?_, fun h0 => ?_⟩
  · unfold wL_law_684
    simp only [forall_eq, hv1, hv2, true_and, h0, true_implies, not_true_eq_false, false_implies, and_true]
    unfold wL_law_711
    exact L_character W (Or.inl rfl) (law_end next)
  · unfold wL_law_684
    simp only [forall_eq, hv1, hv2, true_and, h0, true_implies, not_false_eq_true, false_implies]
    unfold wL_law_711
    exact L_character W (Or.inr rfl) (law_end next)
/-- what is left to know of the doubles -/
def zCmp : Prop := ∀ a, vf_n64 a → Op.cmpValue (FP.dcmp a a) CmpOp.l = 0
theorem law_1690 (hnan : zNaN) (hcmp : zCmp) (W : zWd S σ N) (hv1 : vp_in (v5 + 1) L) (next : ∀ σ', zWd S σ' N → kb 0 455 463 464 (v5 + 6) S σ') : wL_law_1690 L xs kb 0 455 463 464 v5 S σ := by
  unfold wL_law_1690
  simp only [forall_eq, hv1, true_and]
  refine L_meanOffset hnan W (fun k b σ' w t g => ?_)
  have n : wL_law_2768 L xs kb 0 455 463 464 v5 S σ' := law_2768 next w
  have l464 : zSl S 464 = 1 := by
    obtain ⟨p, p', s, m, h, W⟩ := w
    exact W.l464
  refine ⟨fun _ => ⟨fun h0 => ⟨by rw [l464]; exact nin (by decide) (by decide), ⟨fun _ => n, fun hx => absurd ?_ hx⟩⟩, fun _ => n⟩, fun hx => absurd t hx⟩
  obtain ⟨g1, g2⟩ := g h0
  show Op.cmpValue (FP.dcmp (gd σ' 464 0) b) CmpOp.l = 0
  rw [g1]
  exact hcmp b g2
theorem law_2656 (W : zWd S σ N) (hv1 : vp_in (v5 + 1) L) (next : ∀ S' σ', zWd S' σ' N → kb 0 455 463 464 (v5 + 6) S' σ') : wL_law_2656 L xs kb 0 455 463 464 v5 S σ := by
  unfold wL_law_2656
  simp only [forall_eq, hv1, true_and]
  exact L_format W (fun S' k b σ' w t g => law_end (S := S') (next S') k b σ' w t g)
/-- load, as it is wanted -/
def zLoad : Prop := ∀ (S : zSp) (σ : zS) (N : Nat), zWd S σ N → ∀ K : Int32 → Int32 → zS → Prop, zEnd S N K → wL_load (zSl S) σ 0 463 (fun r5 σ4 => wX12_load (zSl S) σ4 455 (fun r10 σ9 => K r5 r10 σ9))
theorem law_412 (hload : zLoad) (W : zWd S σ N) (next : ∀ σ', zWd S σ' N → kb 0 455 463 464 (v5 + 6) S σ') : wL_law_412 L xs kb 0 455 463 464 v5 S σ := by
  unfold wL_law_412
  exact hload S σ N W _ (law_end next)
end ZLAW2
theorem nI_6 (k : Nat) : nI k + 6 = nI (k + 6) := nI_plus k 6
theorem law_loop (hload : zLoad) (hnan : zNaN) (hcmp : zCmp) {L : Nat} {xs : Nat → Int32} (hL : L ≤ 3072) : ∀ (d j : Nat) (S : zSp) (σ : zS), j + d = 513 → zWd S σ j → wL_law_28 L xs (d + 1) 0 455 463 464 (nI (6 * j)) S σ
  | d, j, S, σ, hj, W => by
    have eL := nI_toInt (n := L) (by omega)
    have ej := nI_toInt (n := 6 * j) (by omega)
    have t6 : (6 : Int32).toInt = 6 := rfl
    have es : (nI L - 6).toInt = (L : Int) - 6 := by rw [nsub (by rw [eL, t6]; omega) (by rw [eL, t6]; omega), eL, t6]
    rw [wL_law_28]
    refine ⟨fun _ => trivial, fun hge => ?_⟩
    rw [nlt, es, ej] at hge
    obtain ⟨d', rfl⟩ : ∃ d', d = d' + 1 := ⟨d - 1, by omega⟩
    have hN : j ≤ 512 := by omega
    have hv1 : vp_in (nI (6 * j) + 1) L := by rw [nI_1]; exact vp_in_nI (by omega) (by omega)
    have hv2 : vp_in (nI (6 * j) + 2) L := by rw [show nI (6 * j) + 2 = nI (6 * j + 2) from nI_plus _ 2]; exact vp_in_nI (by omega) (by omega)
    have hv3 : vp_in (nI (6 * j) + 3) L := by rw [show nI (6 * j) + 3 = nI (6 * j + 3) from nI_plus _ 3]; exact vp_in_nI (by omega) (by omega)
    have hv4 : vp_in (nI (6 * j) + 4) L := by rw [show nI (6 * j) + 4 = nI (6 * j + 4) from nI_plus _ 4]; exact vp_in_nI (by omega) (by omega)
    have hv5 : vp_in (nI (6 * j) + 5) L := by rw [show nI (6 * j) + 5 = nI (6 * j + 5) from nI_plus _ 5]; exact vp_in_nI (by omega) (by omega)
    have nx2 : ∀ S' σ', zWd S' σ' (j + 1) → wL_law_28 L xs (d' + 1) 0 455 463 464 (nI (6 * j) + 6) S' σ' := fun S' σ' w => by
      rw [nI_6, show 6 * j + 6 = 6 * (j + 1) by omega]
      exact law_loop hload hnan hcmp hL d' (j + 1) S' σ' (by omega) w
    have nxt : ∀ S' σ', zWd S' σ' j → wL_law_28 L xs (d' + 1) 0 455 463 464 (nI (6 * j) + 6) S' σ' := fun S' σ' w => nx2 S' σ' (zWd_mono w (Nat.le_succ j))
    refine ⟨vp_in_nI (by omega) (by omega), fun x2 _ => ?_⟩
    refine ⟨fun _ => law_272 W hv1 hv2 hv3 hv4 hv5 (nxt S), fun _ => ?_⟩
    refine ⟨fun _ => law_376 W hv1 (nxt S), fun _ => ?_⟩
    refine ⟨fun _ => law_412 hload W (nxt S), fun _ => ?_⟩
    refine ⟨fun _ => law_456 W (nxt S), fun _ => ?_⟩
    refine ⟨fun _ => law_469 W (nxt S), fun _ => ?_⟩
    refine ⟨fun _ => law_482 W (nxt S), fun _ => ?_⟩
    refine ⟨fun _ => law_495 W hv1 (nxt S), fun _ => ?_⟩
    refine ⟨fun _ => law_551 W hv1 (nxt S), fun _ => ?_⟩
    refine ⟨fun _ => law_607 W hv1 (nxt S), fun _ => ?_⟩
    refine ⟨fun _ => law_663 W hv1 hv2 (nxt S), fun _ => ?_⟩
    refine ⟨fun _ => law_747 W (nxt S), fun _ => ?_⟩
    refine ⟨fun _ => law_760 W hv1 (nxt S), fun _ => ?_⟩
    refine ⟨fun _ => law_816 W hv1 (nxt S), fun _ => ?_⟩
    refine ⟨fun _ => law_872 W hv1 hv2 (nxt S), fun _ => ?_⟩
    refine ⟨fun _ => law_940 W hv1 hv2 (nxt S), fun _ => ?_⟩
    refine ⟨fun _ => law_1008 W hv1 hv2 hv3 (nxt S), fun _ => ?_⟩
    refine ⟨fun _ => law_1088 W hv1 hv2 (nxt S), fun _ => ?_⟩
    refine ⟨fun _ => law_1156 W hv1 (nxt S), fun _ => ?_⟩
    refine ⟨fun _ => law_1212 W (nxt S), fun _ => ?_⟩
    refine ⟨fun _ => law_1225 W (nxt S), fun _ => ?_⟩
    refine ⟨fun _ => law_1238 W (nxt S), fun _ => ?_⟩
    refine ⟨fun _ => law_1251 W (nxt S), fun _ => ?_⟩
    refine ⟨fun _ => law_1264 W (nxt S), fun _ => ?_⟩
    refine ⟨fun _ => law_1277 W (nxt S), fun _ => ?_⟩
    refine ⟨fun _ => law_1290 W (nxt S), fun _ => ?_⟩
    refine ⟨fun _ => law_1303 W (nxt S), fun _ => ?_⟩
    refine ⟨fun _ => law_1316 W hv1 (nxt S), fun _ => ?_⟩
    refine ⟨fun _ => law_1372 W hv1 (nxt S), fun _ => ?_⟩
    refine ⟨fun _ => law_1428 W hv1 hv2 (nxt S), fun _ => ?_⟩
    refine ⟨fun _ => law_1496 W (nxt S), fun _ => ?_⟩
    refine ⟨fun _ => law_1509 W (nxt S), fun _ => ?_⟩
    refine ⟨fun _ => law_1522 W hv1 (nxt S), fun _ => ?_⟩
    refine ⟨fun _ => law_1578 W hv1 (nxt S), fun _ => ?_⟩
    refine ⟨fun _ => law_1634 W hv1 (nxt S), fun _ => ?_⟩
    refine ⟨fun _ => law_1690 hnan hcmp W hv1 (nxt S), fun _ => ?_⟩
    refine ⟨fun _ => law_1767 W (nxt S), fun _ => ?_⟩
    refine ⟨fun _ => law_1780 W hv1 hv2 (nxt S), fun _ => ?_⟩
    refine ⟨fun _ => law_1848 W hN hv1 (nxt S), fun _ => ?_⟩
    refine ⟨fun _ => law_1904 W hN hv1 (nxt S), fun _ => ?_⟩
    refine ⟨fun _ => law_1960 W hN hv1 (nxt S), fun _ => ?_⟩
    refine ⟨fun _ => law_2016 W hN (nx2 S), fun _ => ?_⟩
    refine ⟨fun _ => law_2060 W hv1 hv2 (nxt S), fun _ => ?_⟩
    refine ⟨fun _ => law_2128 W hv1 hv2 (nxt S), fun _ => ?_⟩
    refine ⟨fun _ => law_2196 W hv1 (nxt S), fun _ => ?_⟩
    refine ⟨fun _ => law_2252 W hv1 (nxt S), fun _ => ?_⟩
    refine ⟨fun _ => law_2308 W  (nxt S), fun _ => ?_⟩
    refine ⟨fun _ => law_2352 W hN hv1 (nxt S), fun _ => ?_⟩
    refine ⟨fun _ => law_2408 W hN hv1 (nxt S), fun _ => ?_⟩
    refine ⟨fun _ => law_2464 W hN hv1 (nxt S), fun _ => ?_⟩
    refine ⟨fun _ => law_2520 W hN hv1 hv2 (nxt S), fun _ => ?_⟩
    refine ⟨fun _ => law_2588 W hN hv1 hv2 (nxt S), fun _ => ?_⟩
    refine ⟨fun _ => law_2656 W hv1 nxt, fun _ => ?_⟩
    refine ⟨fun _ => law_2712 W hv1 (nxt S), fun _ => ?_⟩
    exact law_2768 (nxt S) W
