/-! THE LAW: one call of each kind -/
section ZLAW
variable {L : Nat} {xs : Nat → Int32} {kb : Nat → Nat → Nat → Nat → Int32 → zSp → zS → Prop} {v5 : Int32} {S : zSp} {σ : zS} {N : Nat}
theorem law_2768 (next : ∀ σ', zWd S σ' N → kb 0 455 463 464 (v5 + 6) S σ') (w : zWd S σ N) : wL_law_2768 L xs kb 0 455 463 464 v5 S σ := fun x1 e1 => by
  subst e1
  exact next σ w
theorem law_end (next : ∀ σ', zWd S σ' N → kb 0 455 463 464 (v5 + 6) S σ') : zEnd S N (fun r5 r10 σ9 => wX12_thrown (zSl S) σ9 455 (fun r12 σ11 => ((r12 = r5 → ((r5 = 0 → vp_in (0 : Int32) ((zSl S) 463) ∧ (((lg_cmp (gl σ11 463 (0 : Int32).toNatClampNeg) r10.toInt64) = 0 → wL_law_2768 L xs kb 0 455 463 464 v5 S σ11) ∧ (¬ (lg_cmp (gl σ11 463 (0 : Int32).toNatClampNeg) r10.toInt64) = 0 → False))) ∧ (¬ r5 = 0 → wL_law_2768 L xs kb 0 455 463 464 v5 S σ11))) ∧ (¬ r12 = r5 → False)))) := by
  intro k b σ' w t g
  have n : wL_law_2768 L xs kb 0 455 463 464 v5 S σ' := law_2768 next w
  have l463 : zSl S 463 = 1 := by
    obtain ⟨p, p', s, m, h, W⟩ := w
    exact W.l463
  exact ⟨fun _ => ⟨fun h0 => ⟨by rw [l463]; exact nin (by decide) (by decide), ⟨fun _ => n, fun hx => absurd ((cmp_eq _ _).mpr (g h0)) hx⟩⟩, fun _ => n⟩, fun hx => absurd t hx⟩
theorem law_same (next : ∀ σ', zWd S σ' N → kb 0 455 463 464 (v5 + 6) S σ') : ∀ (r : Int32) σ', zWd S σ' N → ((r = r → wL_law_2768 L xs kb 0 455 463 464 v5 S σ') ∧ (¬ r = r → False)) := fun r σ' w => ⟨fun _ => law_2768 next w, fun hx => absurd rfl hx⟩
theorem law_456 (W : zWd S σ N) (next : ∀ σ', zWd S σ' N → kb 0 455 463 464 (v5 + 6) S σ') : wL_law_456 L xs kb 0 455 463 464 v5 S σ := by
  unfold wL_law_456
  exact L_errorOffset W (law_same next)
theorem law_469 (W : zWd S σ N) (next : ∀ σ', zWd S σ' N → kb 0 455 463 464 (v5 + 6) S σ') : wL_law_469 L xs kb 0 455 463 464 v5 S σ := by
  unfold wL_law_469
  exact L_positions W (law_same next)
theorem law_482 (W : zWd S σ N) (next : ∀ σ', zWd S σ' N → kb 0 455 463 464 (v5 + 6) S σ') : wL_law_482 L xs kb 0 455 463 464 v5 S σ := by
  unfold wL_law_482
  exact L_time W (law_same next)
theorem law_747 (W : zWd S σ N) (next : ∀ σ', zWd S σ' N → kb 0 455 463 464 (v5 + 6) S σ') : wL_law_747 L xs kb 0 455 463 464 v5 S σ := by
  unfold wL_law_747
  exact L_lead W (law_same next)
theorem law_1212 (W : zWd S σ N) (next : ∀ σ', zWd S σ' N → kb 0 455 463 464 (v5 + 6) S σ') : wL_law_1212 L xs kb 0 455 463 464 v5 S σ := by
  unfold wL_law_1212
  exact L_sender W (law_same next)
theorem law_1225 (W : zWd S σ N) (next : ∀ σ', zWd S σ' N → kb 0 455 463 464 (v5 + 6) S σ') : wL_law_1225 L xs kb 0 455 463 464 v5 S σ := by
  unfold wL_law_1225
  exact L_isWaiting W (law_same next)
theorem law_1238 (W : zWd S σ N) (next : ∀ σ', zWd S σ' N → kb 0 455 463 464 (v5 + 6) S σ') : wL_law_1238 L xs kb 0 455 463 464 v5 S σ := by
  unfold wL_law_1238
  exact L_sentOfLine W (law_same next)
theorem law_1251 (W : zWd S σ N) (next : ∀ σ', zWd S σ' N → kb 0 455 463 464 (v5 + 6) S σ') : wL_law_1251 L xs kb 0 455 463 464 v5 S σ := by
  unfold wL_law_1251
  exact L_repetition W (law_same next)
theorem law_1264 (W : zWd S σ N) (next : ∀ σ', zWd S σ' N → kb 0 455 463 464 (v5 + 6) S σ') : wL_law_1264 L xs kb 0 455 463 464 v5 S σ := by
  unfold wL_law_1264
  exact L_underWay W (law_same next)
theorem law_1277 (W : zWd S σ N) (next : ∀ σ', zWd S σ' N → kb 0 455 463 464 (v5 + 6) S σ') : wL_law_1277 L xs kb 0 455 463 464 v5 S σ := by
  unfold wL_law_1277
  exact L_nextPulseIn W (law_same next)
theorem law_1290 (W : zWd S σ N) (next : ∀ σ', zWd S σ' N → kb 0 455 463 464 (v5 + 6) S σ') : wL_law_1290 L xs kb 0 455 463 464 v5 S σ := by
  unfold wL_law_1290
  exact L_silence W (law_same next)
theorem law_1303 (W : zWd S σ N) (next : ∀ σ', zWd S σ' N → kb 0 455 463 464 (v5 + 6) S σ') : wL_law_1303 L xs kb 0 455 463 464 v5 S σ := by
  unfold wL_law_1303
  exact L_bufferLength W (law_same next)
theorem law_1496 (W : zWd S σ N) (next : ∀ σ', zWd S σ' N → kb 0 455 463 464 (v5 + 6) S σ') : wL_law_1496 L xs kb 0 455 463 464 v5 S σ := by
  unfold wL_law_1496
  exact L_pulses W (law_same next)
theorem law_1509 (W : zWd S σ N) (next : ∀ σ', zWd S σ' N → kb 0 455 463 464 (v5 + 6) S σ') : wL_law_1509 L xs kb 0 455 463 464 v5 S σ := by
  unfold wL_law_1509
  exact L_lostPulses W (law_same next)
theorem law_1767 (W : zWd S σ N) (next : ∀ σ', zWd S σ' N → kb 0 455 463 464 (v5 + 6) S σ') : wL_law_1767 L xs kb 0 455 463 464 v5 S σ := by
  unfold wL_law_1767
  exact L_eventCount W (law_same next)
theorem law_272 (W : zWd S σ N) (hv1 : vp_in (v5 + 1) L) (hv2 : vp_in (v5 + 2) L) (hv3 : vp_in (v5 + 3) L) (hv4 : vp_in (v5 + 4) L) (hv5 : vp_in (v5 + 5) L) (next : ∀ σ', zWd S σ' N → kb 0 455 463 464 (v5 + 6) S σ') : wL_law_272 L xs kb 0 455 463 464 v5 S σ := by
  unfold wL_law_272
  simp only [forall_eq, hv1, hv2, hv3, hv4, hv5, true_and]
  exact L_append W (law_end next)
theorem law_495 (W : zWd S σ N) (hv1 : vp_in (v5 + 1) L) (next : ∀ σ', zWd S σ' N → kb 0 455 463 464 (v5 + 6) S σ') : wL_law_495 L xs kb 0 455 463 464 v5 S σ := by
  unfold wL_law_495
  simp only [forall_eq, hv1, true_and]
  exact L_phase W (law_end next)
theorem law_551 (W : zWd S σ N) (hv1 : vp_in (v5 + 1) L) (next : ∀ σ', zWd S σ' N → kb 0 455 463 464 (v5 + 6) S σ') : wL_law_551 L xs kb 0 455 463 464 v5 S σ := by
  unfold wL_law_551
  simp only [forall_eq, hv1, true_and]
  exact L_rate W (law_end next)
theorem law_607 (W : zWd S σ N) (hv1 : vp_in (v5 + 1) L) (next : ∀ σ', zWd S σ' N → kb 0 455 463 464 (v5 + 6) S σ') : wL_law_607 L xs kb 0 455 463 464 v5 S σ := by
  unfold wL_law_607
  simp only [forall_eq, hv1, true_and]
  exact L_facing W (law_end next)
theorem law_760 (W : zWd S σ N) (hv1 : vp_in (v5 + 1) L) (next : ∀ σ', zWd S σ' N → kb 0 455 463 464 (v5 + 6) S σ') : wL_law_760 L xs kb 0 455 463 464 v5 S σ := by
  unfold wL_law_760
  simp only [forall_eq, hv1, true_and]
  exact L_lineCount W (law_end next)
theorem law_816 (W : zWd S σ N) (hv1 : vp_in (v5 + 1) L) (next : ∀ σ', zWd S σ' N → kb 0 455 463 464 (v5 + 6) S σ') : wL_law_816 L xs kb 0 455 463 464 v5 S σ := by
  unfold wL_law_816
  simp only [forall_eq, hv1, true_and]
  exact L_linesDone W (law_end next)
theorem law_872 (W : zWd S σ N) (hv1 : vp_in (v5 + 1) L) (hv2 : vp_in (v5 + 2) L) (next : ∀ σ', zWd S σ' N → kb 0 455 463 464 (v5 + 6) S σ') : wL_law_872 L xs kb 0 455 463 464 v5 S σ := by
  unfold wL_law_872
  simp only [forall_eq, hv1, hv2, true_and]
  exact L_lineLength W (law_end next)
theorem law_940 (W : zWd S σ N) (hv1 : vp_in (v5 + 1) L) (hv2 : vp_in (v5 + 2) L) (next : ∀ σ', zWd S σ' N → kb 0 455 463 464 (v5 + 6) S σ') : wL_law_940 L xs kb 0 455 463 464 v5 S σ := by
  unfold wL_law_940
  simp only [forall_eq, hv1, hv2, true_and]
  exact L_pulsesOf W (law_end next)
theorem law_1008 (W : zWd S σ N) (hv1 : vp_in (v5 + 1) L) (hv2 : vp_in (v5 + 2) L) (hv3 : vp_in (v5 + 3) L) (next : ∀ σ', zWd S σ' N → kb 0 455 463 464 (v5 + 6) S σ') : wL_law_1008 L xs kb 0 455 463 464 v5 S σ := by
  unfold wL_law_1008
  simp only [forall_eq, hv1, hv2, hv3, true_and]
  exact L_pulseOf W (law_end next)
theorem law_1088 (W : zWd S σ N) (hv1 : vp_in (v5 + 1) L) (hv2 : vp_in (v5 + 2) L) (next : ∀ σ', zWd S σ' N → kb 0 455 463 464 (v5 + 6) S σ') : wL_law_1088 L xs kb 0 455 463 464 v5 S σ := by
  unfold wL_law_1088
  simp only [forall_eq, hv1, hv2, true_and]
  exact L_ticksFor W (law_end next)
theorem law_1156 (W : zWd S σ N) (hv1 : vp_in (v5 + 1) L) (next : ∀ σ', zWd S σ' N → kb 0 455 463 464 (v5 + 6) S σ') : wL_law_1156 L xs kb 0 455 463 464 v5 S σ := by
  unfold wL_law_1156
  simp only [forall_eq, hv1, true_and]
  exact L_slowestLine W (law_end next)
theorem law_1316 (W : zWd S σ N) (hv1 : vp_in (v5 + 1) L) (next : ∀ σ', zWd S σ' N → kb 0 455 463 464 (v5 + 6) S σ') : wL_law_1316 L xs kb 0 455 463 464 v5 S σ := by
  unfold wL_law_1316
  simp only [forall_eq, hv1, true_and]
  exact L_bufferCharacter W (law_end next)
theorem law_1372 (W : zWd S σ N) (hv1 : vp_in (v5 + 1) L) (next : ∀ σ', zWd S σ' N → kb 0 455 463 464 (v5 + 6) S σ') : wL_law_1372 L xs kb 0 455 463 464 v5 S σ := by
  unfold wL_law_1372
  simp only [forall_eq, hv1, true_and]
  exact L_receivedLength W (law_end next)
theorem law_1428 (W : zWd S σ N) (hv1 : vp_in (v5 + 1) L) (hv2 : vp_in (v5 + 2) L) (next : ∀ σ', zWd S σ' N → kb 0 455 463 464 (v5 + 6) S σ') : wL_law_1428 L xs kb 0 455 463 464 v5 S σ := by
  unfold wL_law_1428
  simp only [forall_eq, hv1, hv2, true_and]
  exact L_receivedCharacter W (law_end next)
theorem law_1522 (W : zWd S σ N) (hv1 : vp_in (v5 + 1) L) (next : ∀ σ', zWd S σ' N → kb 0 455 463 464 (v5 + 6) S σ') : wL_law_1522 L xs kb 0 455 463 464 v5 S σ := by
  unfold wL_law_1522
  simp only [forall_eq, hv1, true_and]
  exact L_prints W (law_end next)
theorem law_1578 (W : zWd S σ N) (hv1 : vp_in (v5 + 1) L) (next : ∀ σ', zWd S σ' N → kb 0 455 463 464 (v5 + 6) S σ') : wL_law_1578 L xs kb 0 455 463 464 v5 S σ := by
  unfold wL_law_1578
  simp only [forall_eq, hv1, true_and]
  exact L_misprints W (law_end next)
theorem law_1634 (W : zWd S σ N) (hv1 : vp_in (v5 + 1) L) (next : ∀ σ', zWd S σ' N → kb 0 455 463 464 (v5 + 6) S σ') : wL_law_1634 L xs kb 0 455 463 464 v5 S σ := by
  unfold wL_law_1634
  simp only [forall_eq, hv1, true_and]
  exact L_worstOffset W (law_end next)
theorem law_1780 (W : zWd S σ N) (hv1 : vp_in (v5 + 1) L) (hv2 : vp_in (v5 + 2) L) (next : ∀ σ', zWd S σ' N → kb 0 455 463 464 (v5 + 6) S σ') : wL_law_1780 L xs kb 0 455 463 464 v5 S σ := by
  unfold wL_law_1780
  simp only [forall_eq, hv1, hv2, true_and]
  exact L_event W (law_end next)
theorem law_1848 (W : zWd S σ N) (hN : N ≤ 512) (hv1 : vp_in (v5 + 1) L) (next : ∀ σ', zWd S σ' N → kb 0 455 463 464 (v5 + 6) S σ') : wL_law_1848 L xs kb 0 455 463 464 v5 S σ := by
  unfold wL_law_1848
  simp only [forall_eq, hv1, true_and]
  exact L_run W hN (law_end next)
theorem law_1904 (W : zWd S σ N) (hN : N ≤ 512) (hv1 : vp_in (v5 + 1) L) (next : ∀ σ', zWd S σ' N → kb 0 455 463 464 (v5 + 6) S σ') : wL_law_1904 L xs kb 0 455 463 464 v5 S σ := by
  unfold wL_law_1904
  simp only [forall_eq, hv1, true_and]
  exact L_runUntilDone W hN (law_end next)
theorem law_1960 (W : zWd S σ N) (hN : N ≤ 512) (hv1 : vp_in (v5 + 1) L) (next : ∀ σ', zWd S σ' N → kb 0 455 463 464 (v5 + 6) S σ') : wL_law_1960 L xs kb 0 455 463 464 v5 S σ := by
  unfold wL_law_1960
  simp only [forall_eq, hv1, true_and]
  exact L_start W hN (law_end next)
theorem law_2060 (W : zWd S σ N) (hv1 : vp_in (v5 + 1) L) (hv2 : vp_in (v5 + 2) L) (next : ∀ σ', zWd S σ' N → kb 0 455 463 464 (v5 + 6) S σ') : wL_law_2060 L xs kb 0 455 463 464 v5 S σ := by
  unfold wL_law_2060
  simp only [forall_eq, hv1, hv2, true_and]
  exact L_setRate W (law_end next)
theorem law_2128 (W : zWd S σ N) (hv1 : vp_in (v5 + 1) L) (hv2 : vp_in (v5 + 2) L) (next : ∀ σ', zWd S σ' N → kb 0 455 463 464 (v5 + 6) S σ') : wL_law_2128 L xs kb 0 455 463 464 v5 S σ := by
  unfold wL_law_2128
  simp only [forall_eq, hv1, hv2, true_and]
  exact L_nudge W (law_end next)
theorem law_2196 (W : zWd S σ N) (hv1 : vp_in (v5 + 1) L) (next : ∀ σ', zWd S σ' N → kb 0 455 463 464 (v5 + 6) S σ') : wL_law_2196 L xs kb 0 455 463 464 v5 S σ := by
  unfold wL_law_2196
  simp only [forall_eq, hv1, true_and]
  exact L_setCorrection W (law_end next)
theorem law_2252 (W : zWd S σ N) (hv1 : vp_in (v5 + 1) L) (next : ∀ σ', zWd S σ' N → kb 0 455 463 464 (v5 + 6) S σ') : wL_law_2252 L xs kb 0 455 463 464 v5 S σ := by
  unfold wL_law_2252
  simp only [forall_eq, hv1, true_and]
  exact L_lose W (law_end next)
theorem law_2308 (W : zWd S σ N)  (next : ∀ σ', zWd S σ' N → kb 0 455 463 464 (v5 + 6) S σ') : wL_law_2308 L xs kb 0 455 463 464 v5 S σ := by
  unfold wL_law_2308
  exact L_undo W (law_end next)
theorem law_2352 (W : zWd S σ N) (hN : N ≤ 512) (hv1 : vp_in (v5 + 1) L) (next : ∀ σ', zWd S σ' N → kb 0 455 463 464 (v5 + 6) S σ') : wL_law_2352 L xs kb 0 455 463 464 v5 S σ := by
  unfold wL_law_2352
  simp only [forall_eq, hv1, true_and]
  exact L_misprintsIn W hN (law_end next)
theorem law_2408 (W : zWd S σ N) (hN : N ≤ 512) (hv1 : vp_in (v5 + 1) L) (next : ∀ σ', zWd S σ' N → kb 0 455 463 464 (v5 + 6) S σ') : wL_law_2408 L xs kb 0 455 463 464 v5 S σ := by
  unfold wL_law_2408
  simp only [forall_eq, hv1, true_and]
  exact L_ticksUntilDone W hN (law_end next)
theorem law_2464 (W : zWd S σ N) (hN : N ≤ 512) (hv1 : vp_in (v5 + 1) L) (next : ∀ σ', zWd S σ' N → kb 0 455 463 464 (v5 + 6) S σ') : wL_law_2464 L xs kb 0 455 463 464 v5 S σ := by
  unfold wL_law_2464
  simp only [forall_eq, hv1, true_and]
  exact L_bestCorrection W hN (law_end next)
theorem law_2520 (W : zWd S σ N) (hN : N ≤ 512) (hv1 : vp_in (v5 + 1) L) (hv2 : vp_in (v5 + 2) L) (next : ∀ σ', zWd S σ' N → kb 0 455 463 464 (v5 + 6) S σ') : wL_law_2520 L xs kb 0 455 463 464 v5 S σ := by
  unfold wL_law_2520
  simp only [forall_eq, hv1, hv2, true_and]
  exact L_bestRate W hN (law_end next)
theorem law_2588 (W : zWd S σ N) (hN : N ≤ 512) (hv1 : vp_in (v5 + 1) L) (hv2 : vp_in (v5 + 2) L) (next : ∀ σ', zWd S σ' N → kb 0 455 463 464 (v5 + 6) S σ') : wL_law_2588 L xs kb 0 455 463 464 v5 S σ := by
  unfold wL_law_2588
  simp only [forall_eq, hv1, hv2, true_and]
  exact L_bestNudge W hN (law_end next)
theorem law_2712 (W : zWd S σ N) (hv1 : vp_in (v5 + 1) L) (next : ∀ σ', zWd S σ' N → kb 0 455 463 464 (v5 + 6) S σ') : wL_law_2712 L xs kb 0 455 463 464 v5 S σ := by
  unfold wL_law_2712
  simp only [forall_eq, hv1, true_and]
  exact L_formattedCharacter W (law_end next)
theorem law_2016 (W : zWd S σ N) (hN : N ≤ 512) (next : ∀ σ', zWd S σ' (N + 1) → kb 0 455 463 464 (v5 + 6) S σ') : wL_law_2016 L xs kb 0 455 463 464 v5 S σ := by
  unfold wL_law_2016
  exact L_breakIn W hN (law_end next)
end ZLAW
