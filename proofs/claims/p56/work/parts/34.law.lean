-- TypeWheelTelegraphLaw.cell([II)I
def wL_cell (ln : Nat → Nat) (σ : zS) (L : Nat) (xs : Nat → Int32) (v1 : Int32) (Q : Int32 → zS → Prop) : Prop := (((nI L) ≤ v1 → Q 0 σ) ∧ (¬ (nI L) ≤ v1 → vp_in v1 L ∧ Q (xs v1.toNatClampNeg) σ))
abbrev rL_cell : Room := { frames := 0, cells := 0, slots := 0, locals := 0 }
set_option maxRecDepth 100000 in
set_option maxHeartbeats 4000000 in
theorem ML_cell (l : Launch) {E : zE} {Y : zY} {σ : zS} {v1 : Int32} {Q : Int32 → zS → Prop} (hw : wL_cell (zln Y) σ (zScL E) (zScX E) v1 Q) : ∀ sz, Met l yL_cell (zw yL_cell cL_cell 2 (some .int)) rL_cell (zPc E Y σ sz [.ref (E.2.2.2 1002), .int v1]) (va_Qi Q (zB E Y sz) (zA Y sz)) 0 0 (zA Y sz) := by
  refine z_met (own := RL) (Qc := fun sz => va_Qi Q (zB E Y sz) (zA Y sz)) (by decide +kernel) rfl (Nat.le_of_ble_eq_true rfl) ?_
  intro p e s m args below meth c hG hinit
  unfold wL_cell at hw
  refine zlv (lv' := [(0, .ref (E.2.2.2 1002)), (1, .int v1)]) rfl ?_
  refine z_iload_n hG dL_cell_0 rfl 1 rfl ?_
  refine z_aload_n hG dL_cell_1 rfl 0 rfl ?_
  refine z_scrlen hG dL_cell_2 ?_
  refine z_icmp_ge (tgt := 12) hG dL_cell_3 (by decide) (fun c2 => ?_) (fun c2 => ?_)
  · have hw := hw.1 c2
    refine z_iconst (v := 0) hG dL_cell_12 (by decide) ?_
    exact z_iret hG rfl rfl dL_cell_13 hw
  · have hw := hw.2 c2
    refine z_aload_n hG dL_cell_6 rfl 0 rfl ?_
    refine z_iload_n hG dL_cell_7 rfl 1 rfl ?_
    obtain ⟨q1, hw⟩ := hw
    refine z_scrld hG q1 dL_cell_8 ?_
    refine z_goto (tgt := 13) hG dL_cell_9 (by decide) ?_
    exact z_iret hG rfl rfl dL_cell_13 hw
-- TypeWheelTelegraphLaw.part(II)I
def wL_part (ln : Nat → Nat) (σ : zS) (v0 : Int32) (v1 : Int32) (Q : Int32 → zS → Prop) : Prop := ∀ x1 : Int32, x1 = v0 &&& 2147483647 → ¬ v1 = 0 ∧ Q (x1 - x1 / v1 * v1) σ
abbrev rL_part : Room := { frames := 0, cells := 0, slots := 0, locals := 0 }
set_option maxRecDepth 100000 in
set_option maxHeartbeats 4000000 in
theorem ML_part (l : Launch) {E : zE} {Y : zY} {σ : zS} {v0 : Int32} {v1 : Int32} {Q : Int32 → zS → Prop} (hw : wL_part (zln Y) σ v0 v1 Q) : ∀ sz, Met l yL_part (zw yL_part cL_part 2 (some .int)) rL_part (zPc E Y σ sz [.int v0, .int v1]) (va_Qi Q (zB E Y sz) (zA Y sz)) 0 0 (zA Y sz) := by
  refine z_met (own := RL) (Qc := fun sz => va_Qi Q (zB E Y sz) (zA Y sz)) (by decide +kernel) rfl (Nat.le_of_ble_eq_true rfl) ?_
  intro p e s m args below meth c hG hinit
  unfold wL_part at hw
  refine zlv (lv' := [(0, .int v0), (1, .int v1)]) rfl ?_
  refine z_iload_n hG dL_part_0 rfl 0 rfl ?_
  refine z_ldc (hc := c_L_7) hG (hd := dL_part_1) ?_
  refine z_iand hG dL_part_3 ?_
  refine z_iload_n hG dL_part_4 rfl 1 rfl ?_
  obtain ⟨x1, ex1⟩ : ∃ y : Int32, y = v0 &&& 2147483647 := ⟨_, rfl⟩
  refine zst (st' := [.int v1, .int x1]) (by rw [ex1]) ?_
  have hw := hw x1 ex1
  obtain ⟨q2, hw⟩ := hw
  refine z_irem hG dL_part_5 q2 ?_
  exact z_iret hG rfl rfl dL_part_6 hw
-- TypeWheelTelegraphLaw.positions([I)I
def wL_positions (ln : Nat → Nat) (σ : zS) (L : Nat) (xs : Nat → Int32) (Q : Int32 → zS → Prop) : Prop := wL_cell ln σ L xs 0 (fun r2 σ1 => wL_part ln σ1 r2 23 (fun r4 σ3 => Q (6 + r4) σ3))
abbrev rL_positions : Room := { frames := 1, cells := 0, slots := 0, locals := 21 }
set_option maxRecDepth 100000 in
set_option maxHeartbeats 4000000 in
theorem ML_positions (l : Launch) {E : zE} {Y : zY} {σ : zS} {Q : Int32 → zS → Prop} (hw : wL_positions (zln Y) σ (zScL E) (zScX E) Q) : ∀ sz, Met l yL_positions (zw yL_positions cL_positions 1 (some .int)) rL_positions (zPc E Y σ sz [.ref (E.2.2.2 1002)]) (va_Qi Q (zB E Y sz) (zA Y sz)) 0 0 (zA Y sz) := by
  refine z_met (own := RL) (Qc := fun sz => va_Qi Q (zB E Y sz) (zA Y sz)) (by decide +kernel) rfl (Nat.le_of_ble_eq_true rfl) ?_
  intro p e s m args below meth c hG hinit
  unfold wL_positions at hw
  refine zlv (lv' := [(0, .ref (E.2.2.2 1002))]) rfl ?_
  refine z_bipush (v := 6) hG dL_positions_0 (by decide) ?_
  refine z_aload_n hG dL_positions_2 rfl 0 rfl ?_
  refine z_iconst (v := 0) hG dL_positions_3 (by decide) ?_
  refine z_calli hG (z_runS (As := [.ref (E.2.2.2 1002), .int 0]) (st := [.int 6]) hG k_L_38 (ML_cell l hw) ⟨(Nat.le_of_ble_eq_true rfl), (Nat.le_of_ble_eq_true rfl)⟩ rfl (Nat.le_of_ble_eq_true rfl) dL_positions_4 ⟨Nat.zero_le _, Nat.zero_le _⟩ rfl) (fun r2 σ1 hw => ?_)
  refine z_bipush (v := 23) hG dL_positions_7 (by decide) ?_
  refine z_calli hG (z_runS (As := [.int r2, .int 23]) (st := [.int 6]) hG k_L_42 (ML_part l hw) ⟨(Nat.le_of_ble_eq_true rfl), (Nat.le_of_ble_eq_true rfl)⟩ rfl (Nat.le_of_ble_eq_true rfl) dL_positions_9 ⟨Nat.zero_le _, Nat.zero_le _⟩ rfl) (fun r4 σ3 hw => ?_)
  refine z_iadd hG dL_positions_12 ?_
  exact z_iret hG rfl rfl dL_positions_13 hw
-- TypeWheelTelegraphLaw.rate([I)I
def wL_rate (ln : Nat → Nat) (σ : zS) (L : Nat) (xs : Nat → Int32) (Q : Int32 → zS → Prop) : Prop := wL_cell ln σ L xs 1 (fun r2 σ1 => wL_part ln σ1 r2 341 (fun r4 σ3 => Q (60 + r4) σ3))
abbrev rL_rate : Room := { frames := 1, cells := 0, slots := 0, locals := 21 }
set_option maxRecDepth 100000 in
set_option maxHeartbeats 4000000 in
theorem ML_rate (l : Launch) {E : zE} {Y : zY} {σ : zS} {Q : Int32 → zS → Prop} (hw : wL_rate (zln Y) σ (zScL E) (zScX E) Q) : ∀ sz, Met l yL_rate (zw yL_rate cL_rate 1 (some .int)) rL_rate (zPc E Y σ sz [.ref (E.2.2.2 1002)]) (va_Qi Q (zB E Y sz) (zA Y sz)) 0 0 (zA Y sz) := by
  refine z_met (own := RL) (Qc := fun sz => va_Qi Q (zB E Y sz) (zA Y sz)) (by decide +kernel) rfl (Nat.le_of_ble_eq_true rfl) ?_
  intro p e s m args below meth c hG hinit
  unfold wL_rate at hw
  refine zlv (lv' := [(0, .ref (E.2.2.2 1002))]) rfl ?_
  refine z_bipush (v := 60) hG dL_rate_0 (by decide) ?_
  refine z_aload_n hG dL_rate_2 rfl 0 rfl ?_
  refine z_iconst (v := 1) hG dL_rate_3 (by decide) ?_
  refine z_calli hG (z_runS (As := [.ref (E.2.2.2 1002), .int 1]) (st := [.int 60]) hG k_L_38 (ML_cell l hw) ⟨(Nat.le_of_ble_eq_true rfl), (Nat.le_of_ble_eq_true rfl)⟩ rfl (Nat.le_of_ble_eq_true rfl) dL_rate_4 ⟨Nat.zero_le _, Nat.zero_le _⟩ rfl) (fun r2 σ1 hw => ?_)
  refine z_sipush (v := 341) hG dL_rate_7 (by decide) ?_
  refine z_calli hG (z_runS (As := [.int r2, .int 341]) (st := [.int 60]) hG k_L_42 (ML_part l hw) ⟨(Nat.le_of_ble_eq_true rfl), (Nat.le_of_ble_eq_true rfl)⟩ rfl (Nat.le_of_ble_eq_true rfl) dL_rate_10 ⟨Nat.zero_le _, Nat.zero_le _⟩ rfl) (fun r4 σ3 hw => ?_)
  refine z_iadd hG dL_rate_13 ?_
  exact z_iret hG rfl rfl dL_rate_14 hw
-- TypeWheelTelegraphLaw.phase([I)I
def wL_phase (ln : Nat → Nat) (σ : zS) (L : Nat) (xs : Nat → Int32) (Q : Int32 → zS → Prop) : Prop := wL_cell ln σ L xs 2 (fun r2 σ1 => wL_positions ln σ1 L xs (fun r4 σ3 => ∀ x5 : Int32, x5 = 1000 * r4 → wL_part ln σ3 r2 x5 (fun r7 σ6 => Q r7 σ6)))
abbrev rL_phase : Room := { frames := 2, cells := 0, slots := 0, locals := 41 }
set_option maxRecDepth 100000 in
set_option maxHeartbeats 4000000 in
theorem ML_phase (l : Launch) {E : zE} {Y : zY} {σ : zS} {Q : Int32 → zS → Prop} (hw : wL_phase (zln Y) σ (zScL E) (zScX E) Q) : ∀ sz, Met l yL_phase (zw yL_phase cL_phase 1 (some .int)) rL_phase (zPc E Y σ sz [.ref (E.2.2.2 1002)]) (va_Qi Q (zB E Y sz) (zA Y sz)) 0 0 (zA Y sz) := by
  refine z_met (own := RL) (Qc := fun sz => va_Qi Q (zB E Y sz) (zA Y sz)) (by decide +kernel) rfl (Nat.le_of_ble_eq_true rfl) ?_
  intro p e s m args below meth c hG hinit
  unfold wL_phase at hw
  refine zlv (lv' := [(0, .ref (E.2.2.2 1002))]) rfl ?_
  refine z_aload_n hG dL_phase_0 rfl 0 rfl ?_
  refine z_iconst (v := 2) hG dL_phase_1 (by decide) ?_
  refine z_calli hG (z_runS (As := [.ref (E.2.2.2 1002), .int 2]) (st := []) hG k_L_38 (ML_cell l hw) ⟨(Nat.le_of_ble_eq_true rfl), (Nat.le_of_ble_eq_true rfl)⟩ rfl (Nat.le_of_ble_eq_true rfl) dL_phase_2 ⟨Nat.zero_le _, Nat.zero_le _⟩ rfl) (fun r2 σ1 hw => ?_)
  refine z_sipush (v := 1000) hG dL_phase_5 (by decide) ?_
  refine z_aload_n hG dL_phase_8 rfl 0 rfl ?_
  refine z_calli hG (z_runS (As := [.ref (E.2.2.2 1002)]) (st := [.int 1000, .int r2]) hG k_L_46 (ML_positions l hw) ⟨(Nat.le_of_ble_eq_true rfl), (Nat.le_of_ble_eq_true rfl)⟩ rfl (Nat.le_of_ble_eq_true rfl) dL_phase_9 ⟨Nat.zero_le _, Nat.zero_le _⟩ rfl) (fun r4 σ3 hw => ?_)
  refine z_imul hG dL_phase_12 ?_
  refine z_topi (fun x5 ex5 => ?_)
  have hw := hw x5 ex5
  refine z_calli hG (z_runS (As := [.int r2, .int x5]) (st := []) hG k_L_42 (ML_part l hw) ⟨(Nat.le_of_ble_eq_true rfl), (Nat.le_of_ble_eq_true rfl)⟩ rfl (Nat.le_of_ble_eq_true rfl) dL_phase_13 ⟨Nat.zero_le _, Nat.zero_le _⟩ rfl) (fun r7 σ6 hw => ?_)
  exact z_iret hG rfl rfl dL_phase_16 hw
-- TypeWheelTelegraphLaw.delay([I)I
def wL_delay (ln : Nat → Nat) (σ : zS) (L : Nat) (xs : Nat → Int32) (Q : Int32 → zS → Prop) : Prop := wL_cell ln σ L xs 3 (fun r2 σ1 => wL_part ln σ1 r2 20 (fun r4 σ3 => Q (1 + r4) σ3))
abbrev rL_delay : Room := { frames := 1, cells := 0, slots := 0, locals := 21 }
set_option maxRecDepth 100000 in
set_option maxHeartbeats 4000000 in
theorem ML_delay (l : Launch) {E : zE} {Y : zY} {σ : zS} {Q : Int32 → zS → Prop} (hw : wL_delay (zln Y) σ (zScL E) (zScX E) Q) : ∀ sz, Met l yL_delay (zw yL_delay cL_delay 1 (some .int)) rL_delay (zPc E Y σ sz [.ref (E.2.2.2 1002)]) (va_Qi Q (zB E Y sz) (zA Y sz)) 0 0 (zA Y sz) := by
  refine z_met (own := RL) (Qc := fun sz => va_Qi Q (zB E Y sz) (zA Y sz)) (by decide +kernel) rfl (Nat.le_of_ble_eq_true rfl) ?_
  intro p e s m args below meth c hG hinit
  unfold wL_delay at hw
  refine zlv (lv' := [(0, .ref (E.2.2.2 1002))]) rfl ?_
  refine z_iconst (v := 1) hG dL_delay_0 (by decide) ?_
  refine z_aload_n hG dL_delay_1 rfl 0 rfl ?_
  refine z_iconst (v := 3) hG dL_delay_2 (by decide) ?_
  refine z_calli hG (z_runS (As := [.ref (E.2.2.2 1002), .int 3]) (st := [.int 1]) hG k_L_38 (ML_cell l hw) ⟨(Nat.le_of_ble_eq_true rfl), (Nat.le_of_ble_eq_true rfl)⟩ rfl (Nat.le_of_ble_eq_true rfl) dL_delay_3 ⟨Nat.zero_le _, Nat.zero_le _⟩ rfl) (fun r2 σ1 hw => ?_)
  refine z_bipush (v := 20) hG dL_delay_6 (by decide) ?_
  refine z_calli hG (z_runS (As := [.int r2, .int 20]) (st := [.int 1]) hG k_L_42 (ML_part l hw) ⟨(Nat.le_of_ble_eq_true rfl), (Nat.le_of_ble_eq_true rfl)⟩ rfl (Nat.le_of_ble_eq_true rfl) dL_delay_8 ⟨Nat.zero_le _, Nat.zero_le _⟩ rfl) (fun r4 σ3 hw => ?_)
  refine z_iadd hG dL_delay_11 ?_
  exact z_iret hG rfl rfl dL_delay_12 hw
-- TypeWheelTelegraphLaw.correct([I)I
def wL_correct (ln : Nat → Nat) (σ : zS) (L : Nat) (xs : Nat → Int32) (Q : Int32 → zS → Prop) : Prop := wL_cell ln σ L xs 3 (fun r2 σ1 => ∀ x3 : Int32, x3 = r2 >>> (5 &&& 31) → wL_part ln σ1 x3 501 (fun r5 σ4 => Q r5 σ4))
abbrev rL_correct : Room := { frames := 1, cells := 0, slots := 0, locals := 21 }
set_option maxRecDepth 100000 in
set_option maxHeartbeats 4000000 in
theorem ML_correct (l : Launch) {E : zE} {Y : zY} {σ : zS} {Q : Int32 → zS → Prop} (hw : wL_correct (zln Y) σ (zScL E) (zScX E) Q) : ∀ sz, Met l yL_correct (zw yL_correct cL_correct 1 (some .int)) rL_correct (zPc E Y σ sz [.ref (E.2.2.2 1002)]) (va_Qi Q (zB E Y sz) (zA Y sz)) 0 0 (zA Y sz) := by
  refine z_met (own := RL) (Qc := fun sz => va_Qi Q (zB E Y sz) (zA Y sz)) (by decide +kernel) rfl (Nat.le_of_ble_eq_true rfl) ?_
  intro p e s m args below meth c hG hinit
  unfold wL_correct at hw
  refine zlv (lv' := [(0, .ref (E.2.2.2 1002))]) rfl ?_
  refine z_aload_n hG dL_correct_0 rfl 0 rfl ?_
  refine z_iconst (v := 3) hG dL_correct_1 (by decide) ?_
  refine z_calli hG (z_runS (As := [.ref (E.2.2.2 1002), .int 3]) (st := []) hG k_L_38 (ML_cell l hw) ⟨(Nat.le_of_ble_eq_true rfl), (Nat.le_of_ble_eq_true rfl)⟩ rfl (Nat.le_of_ble_eq_true rfl) dL_correct_2 ⟨Nat.zero_le _, Nat.zero_le _⟩ rfl) (fun r2 σ1 hw => ?_)
  refine z_iconst (v := 5) hG dL_correct_5 (by decide) ?_
  refine z_ishr hG dL_correct_6 ?_
  refine z_sipush (v := 501) hG dL_correct_7 (by decide) ?_
  obtain ⟨x3, ex3⟩ : ∃ y : Int32, y = r2 >>> (5 &&& 31) := ⟨_, rfl⟩
  refine zst (st' := [.int 501, .int x3]) (by rw [ex3]) ?_
  have hw := hw x3 ex3
  refine z_calli hG (z_runS (As := [.int x3, .int 501]) (st := []) hG k_L_42 (ML_part l hw) ⟨(Nat.le_of_ble_eq_true rfl), (Nat.le_of_ble_eq_true rfl)⟩ rfl (Nat.le_of_ble_eq_true rfl) dL_correct_10 ⟨Nat.zero_le _, Nat.zero_le _⟩ rfl) (fun r5 σ4 hw => ?_)
  exact z_iret hG rfl rfl dL_correct_13 hw
-- TypeWheelTelegraphLaw.lines([I)I
def wL_lines (ln : Nat → Nat) (σ : zS) (L : Nat) (xs : Nat → Int32) (Q : Int32 → zS → Prop) : Prop := wL_cell ln σ L xs 4 (fun r2 σ1 => wL_part ln σ1 r2 3 (fun r4 σ3 => Q (1 + r4) σ3))
abbrev rL_lines : Room := { frames := 1, cells := 0, slots := 0, locals := 21 }
set_option maxRecDepth 100000 in
set_option maxHeartbeats 4000000 in
theorem ML_lines (l : Launch) {E : zE} {Y : zY} {σ : zS} {Q : Int32 → zS → Prop} (hw : wL_lines (zln Y) σ (zScL E) (zScX E) Q) : ∀ sz, Met l yL_lines (zw yL_lines cL_lines 1 (some .int)) rL_lines (zPc E Y σ sz [.ref (E.2.2.2 1002)]) (va_Qi Q (zB E Y sz) (zA Y sz)) 0 0 (zA Y sz) := by
  refine z_met (own := RL) (Qc := fun sz => va_Qi Q (zB E Y sz) (zA Y sz)) (by decide +kernel) rfl (Nat.le_of_ble_eq_true rfl) ?_
  intro p e s m args below meth c hG hinit
  unfold wL_lines at hw
  refine zlv (lv' := [(0, .ref (E.2.2.2 1002))]) rfl ?_
  refine z_iconst (v := 1) hG dL_lines_0 (by decide) ?_
  refine z_aload_n hG dL_lines_1 rfl 0 rfl ?_
  refine z_iconst (v := 4) hG dL_lines_2 (by decide) ?_
  refine z_calli hG (z_runS (As := [.ref (E.2.2.2 1002), .int 4]) (st := [.int 1]) hG k_L_38 (ML_cell l hw) ⟨(Nat.le_of_ble_eq_true rfl), (Nat.le_of_ble_eq_true rfl)⟩ rfl (Nat.le_of_ble_eq_true rfl) dL_lines_3 ⟨Nat.zero_le _, Nat.zero_le _⟩ rfl) (fun r2 σ1 hw => ?_)
  refine z_iconst (v := 3) hG dL_lines_6 (by decide) ?_
  refine z_calli hG (z_runS (As := [.int r2, .int 3]) (st := [.int 1]) hG k_L_42 (ML_part l hw) ⟨(Nat.le_of_ble_eq_true rfl), (Nat.le_of_ble_eq_true rfl)⟩ rfl (Nat.le_of_ble_eq_true rfl) dL_lines_7 ⟨Nat.zero_le _, Nat.zero_le _⟩ rfl) (fun r4 σ3 hw => ?_)
  refine z_iadd hG dL_lines_10 ?_
  exact z_iret hG rfl rfl dL_lines_11 hw
-- TypeWheelTelegraphLaw.append(LTypeWheelTelegraph;Ljava/lang/String;)I
def wL_append_20 (Q : Int32 → zSp → zS → Prop) (kb4 : Nat → Nat → Int32 → Int32 → zSp → zS → Prop) : Nat → Nat → Nat → Int32 → Nat → Int32 → zSp → zS → Prop
  | 0, _, _, _, _, _, _, _ => False
  | n + 1, t0, t1, v3, t4, v5, S, σ => ((20 ≤ v5 → vp_in (0 : Int32) ((zSl S) t4) ∧ vp_in (1 : Int32) ((zSl S) t4) ∧ vp_in (2 : Int32) ((zSl S) t4) ∧ vp_in (3 : Int32) ((zSl S) t4) ∧ vp_in (4 : Int32) ((zSl S) t4) ∧ ∀ x6 : Int32, x6 = gi σ t4 (4 : Int32).toNatClampNeg → ∀ x7 : Int32, x7 = gi σ t4 (3 : Int32).toNatClampNeg → ∀ x8 : Int32, x8 = gi σ t4 (2 : Int32).toNatClampNeg → ∀ x9 : Int32, x9 = gi σ t4 (1 : Int32).toNatClampNeg → ∀ x10 : Int32, x10 = gi σ t4 (0 : Int32).toNatClampNeg → wX11_append (zSl S) σ t0 x10 x9 x8 x7 x6 (fun r12 σ11 => ∀ x13 : Int32, x13 = v3 + 20 → kb4 t0 t1 r12 x13 S σ11)) ∧ (¬ 20 ≤ v5 → ∀ x14 : Int32, x14 = v5 / 4 → vp_in x14 ((zSl S) t4) ∧ wJ0_length_8abf5_r (zSl S) σ t1 (fun r17 σ16 => ((r17 ≤ (v3 + v5) → ∀ x18 : Int32, x18 = ((gi σ t4 x14.toNatClampNeg) <<< (8 &&& 31)) ||| 32 → ∀ x19 : Int32, x19 = v5 / 4 → vp_in x19 ((zSl S) t4) ∧ ∀ σ21 : zS, σ21 = si σ16 t4 x19.toNatClampNeg x18 → ∀ x22 : Int32, x22 = v5 + 1 → (wL_append_20 Q kb4 n) t0 t1 v3 t4 x22 S σ21) ∧ (¬ r17 ≤ (v3 + v5) → ∀ x23 : Int32, x23 = v3 + v5 → wJ0_charAt_5068e_r (zSl S) σ16 t1 x23 (fun r25 σ24 => ∀ x26 : Int32, x26 = ((gi σ t4 x14.toNatClampNeg) <<< (8 &&& 31)) ||| (r25 &&& 255) → ∀ x27 : Int32, x27 = v5 / 4 → vp_in x27 ((zSl S) t4) ∧ ∀ σ29 : zS, σ29 = si σ24 t4 x27.toNatClampNeg x26 → ∀ x30 : Int32, x30 = v5 + 1 → (wL_append_20 Q kb4 n) t0 t1 v3 t4 x30 S σ29))))))
def wL_append_4 (Q : Int32 → zSp → zS → Prop) : Nat → Nat → Nat → Int32 → Int32 → zSp → zS → Prop
  | 0, _, _, _, _, _, _ => False
  | n + 1, t0, t1, v2, v3, S, σ => wJ0_length_8abf5_r (zSl S) σ t1 (fun r2 σ1 => ((r2 ≤ v3 → Q v2 S σ1) ∧ (¬ r2 ≤ v3 → ∀ a3 : Nat, a3 = zSk S → ∀ S3 : zSp, S3 = zSpush S 20 5 → ∀ σ4 : zS, σ4 = zfresh σ1 a3 → ∃ n5 : Nat, wL_append_20 Q (wL_append_4 Q n) n5 t0 t1 v3 a3 0 S3 σ4)))
def wL_append (S : zSp) (σ : zS) (t0 : Nat) (t1 : Nat) (Q : Int32 → zSp → zS → Prop) : Prop := ∃ n1 : Nat, n1 ≤ 8 ∧ wL_append_4 Q n1 t0 t1 0 0 S σ
abbrev rL_append : Room := { frames := 4, cells := 8, slots := 40, locals := 85 }
set_option maxRecDepth 100000 in
set_option maxHeartbeats 4000000 in
theorem BL_append_20 {l : Launch} {E : zE} {Y0 : zY} {p : Program} {e : Env} {s : State} {m : MethodId} {args : Array Value} {below : List Frame} {meth : Method} {c : Code} (hG : zG E p l s m args meth c cL_append 6 RL (some .int) (zA Y0 s.heap.size)) {Q : Int32 → zSp → zS → Prop} {nf : Nat} {kb4 : Nat → Nat → Int32 → Int32 → zSp → zS → Prop} (hkb4 : ∀ (t0 : Nat) (t1 : Nat) (v2 : Int32) (v3 : Int32) (Y : zY) (σ : zS) (cl sl : Nat), kb4 t0 t1 v2 v3 (zsp Y) σ → zext Y0 Y → zT Y 11 t0 → zT Y 12 t1 → cl + (nf * 1 + 0) ≤ 8 → sl + (nf * 5 + 0) ≤ 40 → WW E Y σ p l e rL_append s m args below meth c (zA Y0 s.heap.size) 6 cl sl (MQ below (va_Qi (fun r (u : zY × zS) => Q r (zsp u.1) u.2) (zBA E Y0 s.heap.size) (zA Y0 s.heap.size)) args s 8 40 (zA Y0 s.heap.size)) [(0, .ref (za Y t0)), (1, .ref (za Y t1)), (2, .int v2), (3, .int v3)] 4 []) : ∀ (n : Nat) (t0 : Nat) (t1 : Nat) (v3 : Int32) (t4 : Nat) (v5 : Int32) (Y : zY) (σ : zS) (cl sl : Nat), wL_append_20 Q kb4 n t0 t1 v3 t4 v5 (zsp Y) σ → zext Y0 Y → zT Y 11 t0 → zT Y 12 t1 → zT Y 20 t4 → cl + (0 + (nf * 1 + 0)) ≤ 8 → sl + (0 + (nf * 5 + 0)) ≤ 40 → WW E Y σ p l e rL_append s m args below meth c (zA Y0 s.heap.size) 6 cl sl (MQ below (va_Qi (fun r (u : zY × zS) => Q r (zsp u.1) u.2) (zBA E Y0 s.heap.size) (zA Y0 s.heap.size)) args s 8 40 (zA Y0 s.heap.size)) [(0, .ref (za Y t0)), (1, .ref (za Y t1)), (3, .int v3), (4, .ref (za Y t4)), (5, .int v5)] 20 [] := by
  intro n
  induction n with
  | zero => intro t0 t1 v3 t4 v5 Y σ cl sl hw
            exact hw.elim
  | succ n ih =>
    intro t0 t1 v3 t4 v5 Y σ cl sl hw hx h0 h1 h4 hcl hsl
    rw [wL_append_20] at hw
    refine z_iload hG dL_append_20 4 rfl ?_
    refine z_bipush (v := 20) hG dL_append_22 (by decide) ?_
    refine z_icmp_ge (tgt := 79) hG dL_append_24 (by decide) (fun c32 => ?_) (fun c32 => ?_)
    · have hw := hw.1 c32
      refine z_aload_n hG dL_append_79 rfl 0 rfl ?_
      refine z_aload hG dL_append_80 3 rfl ?_
      refine z_iconst (v := 0) hG dL_append_82 (by decide) ?_
      obtain ⟨q1, hw⟩ := hw
      refine z_iald hG h4 q1 dL_append_83 ?_
      refine z_aload hG dL_append_84 3 rfl ?_
      refine z_iconst (v := 1) hG dL_append_86 (by decide) ?_
      obtain ⟨q2, hw⟩ := hw
      refine z_iald hG h4 q2 dL_append_87 ?_
      refine z_aload hG dL_append_88 3 rfl ?_
      refine z_iconst (v := 2) hG dL_append_90 (by decide) ?_
      obtain ⟨q3, hw⟩ := hw
      refine z_iald hG h4 q3 dL_append_91 ?_
      refine z_aload hG dL_append_92 3 rfl ?_
      refine z_iconst (v := 3) hG dL_append_94 (by decide) ?_
      obtain ⟨q4, hw⟩ := hw
      refine z_iald hG h4 q4 dL_append_95 ?_
      refine z_aload hG dL_append_96 3 rfl ?_
      refine z_iconst (v := 4) hG dL_append_98 (by decide) ?_
      obtain ⟨q5, hw⟩ := hw
      refine z_iald hG h4 q5 dL_append_99 ?_
      refine z_topi (fun x6 ex6 => ?_)
      have hw := hw x6 ex6
      obtain ⟨x7, ex7⟩ : ∃ y : Int32, y = gi σ t4 (3 : Int32).toNatClampNeg := ⟨_, rfl⟩
      refine zst (st' := [.int x6, .int x7, .int (gi σ t4 (2 : Int32).toNatClampNeg), .int (gi σ t4 (1 : Int32).toNatClampNeg), .int (gi σ t4 (0 : Int32).toNatClampNeg), .ref (za Y t0)]) (by rw [ex7] <;> rfl) ?_
      have hw := hw x7 ex7
      obtain ⟨x8, ex8⟩ : ∃ y : Int32, y = gi σ t4 (2 : Int32).toNatClampNeg := ⟨_, rfl⟩
      refine zst (st' := [.int x6, .int x7, .int x8, .int (gi σ t4 (1 : Int32).toNatClampNeg), .int (gi σ t4 (0 : Int32).toNatClampNeg), .ref (za Y t0)]) (by rw [ex8] <;> rfl) ?_
      have hw := hw x8 ex8
      obtain ⟨x9, ex9⟩ : ∃ y : Int32, y = gi σ t4 (1 : Int32).toNatClampNeg := ⟨_, rfl⟩
      refine zst (st' := [.int x6, .int x7, .int x8, .int x9, .int (gi σ t4 (0 : Int32).toNatClampNeg), .ref (za Y t0)]) (by rw [ex9] <;> rfl) ?_
      have hw := hw x9 ex9
      obtain ⟨x10, ex10⟩ : ∃ y : Int32, y = gi σ t4 (0 : Int32).toNatClampNeg := ⟨_, rfl⟩
      refine zst (st' := [.int x6, .int x7, .int x8, .int x9, .int x10, .ref (za Y t0)]) (by rw [ex10] <;> rfl) ?_
      have hw := hw x10 ex10
      refine z_calli hG (z_runV (As := [.int x10, .int x9, .int x8, .int x7, .int x6]) (st := []) hG k_L_18 (MX11_append l h0 hw) ⟨(Nat.le_of_ble_eq_true rfl), (Nat.le_of_ble_eq_true rfl)⟩ h0 (T := TX11) (N := 9) rfl (by decide) rfl (Nat.le_of_ble_eq_true rfl) dL_append_100 ⟨show cl + 0 + 0 ≤ 8 from by omega, show sl + 0 + 0 ≤ 40 from by omega⟩ rfl) (fun r12 σ11 hw => ?_)
      refine z_istore_n (lv' := [(2, .int r12), (0, .ref (za Y t0)), (1, .ref (za Y t1)), (3, .int v3), (4, .ref (za Y t4)), (5, .int v5)]) hG dL_append_103 rfl (by decide) rfl ?_
      obtain ⟨x13, ex13⟩ : ∃ y : Int32, y = v3 + 20 := ⟨_, rfl⟩
      have hw := hw x13 ex13
      refine z_iinc (v := x13) (lv' := [(3, .int x13), (2, .int r12), (0, .ref (za Y t0)), (1, .ref (za Y t1)), (4, .ref (za Y t4)), (5, .int v5)]) hG dL_append_104 3 rfl (by rw [ex13]; rfl) (by decide) rfl ?_
      refine z_goto (tgt := 4) hG dL_append_107 (by decide) ?_
      refine zpick [2, 3, 1, 0] (lv' := [(0, .ref (za Y t0)), (1, .ref (za Y t1)), (2, .int r12), (3, .int x13)]) rfl ?_
      exact hkb4 t0 t1 r12 x13 Y σ11 _ _ hw hx h0 h1 (by omega) (by omega)
    · have hw := hw.2 c32
      refine z_aload hG dL_append_27 3 rfl ?_
      refine z_iload hG dL_append_29 4 rfl ?_
      refine z_iconst (v := 4) hG dL_append_31 (by decide) ?_
      refine z_idiv hG dL_append_32 (by decide) ?_
      refine z_aload hG dL_append_33 3 rfl ?_
      refine z_iload hG dL_append_35 4 rfl ?_
      refine z_iconst (v := 4) hG dL_append_37 (by decide) ?_
      refine z_idiv hG dL_append_38 (by decide) ?_
      refine z_topi (fun x14 ex14 => ?_)
      have hw := hw x14 ex14
      obtain ⟨q15, hw⟩ := hw
      refine z_iald hG h4 q15 dL_append_39 ?_
      refine z_bipush (v := 8) hG dL_append_40 (by decide) ?_
      refine z_ishl hG dL_append_42 ?_
      refine z_iload_n hG dL_append_43 rfl 2 rfl ?_
      refine z_iload hG dL_append_44 4 rfl ?_
      refine z_iadd hG dL_append_46 ?_
      refine z_aload_n hG dL_append_47 rfl 1 rfl ?_
      refine z_calli hG (z_runV (As := []) (st := [.int (v3 + v5), .int ((gi σ t4 x14.toNatClampNeg) <<< (8 &&& 31)), .int (v5 / 4), .ref (za Y t4)]) hG k_L_8 (MJ0_length_8abf5_r l h1 hw) ⟨(Nat.le_of_ble_eq_true rfl), (Nat.le_of_ble_eq_true rfl)⟩ h1 (T := TJ0) (N := 4) rfl (by decide) rfl (Nat.le_of_ble_eq_true rfl) dL_append_48 ⟨show cl + 0 + 0 ≤ 8 from by omega, show sl + 0 + 0 ≤ 40 from by omega⟩ rfl) (fun r17 σ16 hw => ?_)
      refine z_icmp_ge (tgt := 69) hG dL_append_51 (by decide) (fun c31 => ?_) (fun c31 => ?_)
      · have hw := hw.1 c31
        refine z_bipush (v := 32) hG dL_append_69 (by decide) ?_
        refine z_ior hG dL_append_71 ?_
        refine z_topi (fun x18 ex18 => ?_)
        have hw := hw x18 ex18
        obtain ⟨x19, ex19⟩ : ∃ y : Int32, y = v5 / 4 := ⟨_, rfl⟩
        refine zst (st' := [.int x18, .int x19, .ref (za Y t4)]) (by rw [ex19] <;> rfl) ?_
        have hw := hw x19 ex19
        obtain ⟨q20, hw⟩ := hw
        refine z_iast hG h4 q20 dL_append_72 ?_
        refine z_topσ (fun σ21 eσ21 => ?_)
        have hw := hw σ21 eσ21
        obtain ⟨x22, ex22⟩ : ∃ y : Int32, y = v5 + 1 := ⟨_, rfl⟩
        have hw := hw x22 ex22
        refine z_iinc (v := x22) (lv' := [(5, .int x22), (0, .ref (za Y t0)), (1, .ref (za Y t1)), (3, .int v3), (4, .ref (za Y t4))]) hG dL_append_73 4 rfl (by rw [ex22]; rfl) (by decide) rfl ?_
        refine z_goto (tgt := 20) hG dL_append_76 (by decide) ?_
        refine zpick [1, 2, 3, 4, 0] (lv' := [(0, .ref (za Y t0)), (1, .ref (za Y t1)), (3, .int v3), (4, .ref (za Y t4)), (5, .int x22)]) rfl ?_
        exact ih t0 t1 v3 t4 x22 Y σ21 _ _ hw hx h0 h1 h4 (by omega) (by omega)
      · have hw := hw.2 c31
        refine z_aload_n hG dL_append_54 rfl 1 rfl ?_
        refine z_iload_n hG dL_append_55 rfl 2 rfl ?_
        refine z_iload hG dL_append_56 4 rfl ?_
        refine z_iadd hG dL_append_58 ?_
        refine z_topi (fun x23 ex23 => ?_)
        have hw := hw x23 ex23
        refine z_calli hG (z_runV (As := [.int x23]) (st := [.int ((gi σ t4 x14.toNatClampNeg) <<< (8 &&& 31)), .int (v5 / 4), .ref (za Y t4)]) hG k_L_14 (MJ0_charAt_5068e_r l h1 hw) ⟨(Nat.le_of_ble_eq_true rfl), (Nat.le_of_ble_eq_true rfl)⟩ h1 (T := TJ0) (N := 4) rfl (by decide) rfl (Nat.le_of_ble_eq_true rfl) dL_append_59 ⟨show cl + 0 + 0 ≤ 8 from by omega, show sl + 0 + 0 ≤ 40 from by omega⟩ rfl) (fun r25 σ24 hw => ?_)
        refine z_sipush (v := 255) hG dL_append_62 (by decide) ?_
        refine z_iand hG dL_append_65 ?_
        refine z_goto (tgt := 71) hG dL_append_66 (by decide) ?_
        refine z_ior hG dL_append_71 ?_
        refine z_topi (fun x26 ex26 => ?_)
        have hw := hw x26 ex26
        obtain ⟨x27, ex27⟩ : ∃ y : Int32, y = v5 / 4 := ⟨_, rfl⟩
        refine zst (st' := [.int x26, .int x27, .ref (za Y t4)]) (by rw [ex27] <;> rfl) ?_
        have hw := hw x27 ex27
        obtain ⟨q28, hw⟩ := hw
        refine z_iast hG h4 q28 dL_append_72 ?_
        refine z_topσ (fun σ29 eσ29 => ?_)
        have hw := hw σ29 eσ29
        obtain ⟨x30, ex30⟩ : ∃ y : Int32, y = v5 + 1 := ⟨_, rfl⟩
        have hw := hw x30 ex30
        refine z_iinc (v := x30) (lv' := [(5, .int x30), (0, .ref (za Y t0)), (1, .ref (za Y t1)), (3, .int v3), (4, .ref (za Y t4))]) hG dL_append_73 4 rfl (by rw [ex30]; rfl) (by decide) rfl ?_
        refine z_goto (tgt := 20) hG dL_append_76 (by decide) ?_
        refine zpick [1, 2, 3, 4, 0] (lv' := [(0, .ref (za Y t0)), (1, .ref (za Y t1)), (3, .int v3), (4, .ref (za Y t4)), (5, .int x30)]) rfl ?_
        exact ih t0 t1 v3 t4 x30 Y σ29 _ _ hw hx h0 h1 h4 (by omega) (by omega)
set_option maxRecDepth 100000 in
set_option maxHeartbeats 4000000 in
theorem BL_append_4 {l : Launch} {E : zE} {Y0 : zY} {p : Program} {e : Env} {s : State} {m : MethodId} {args : Array Value} {below : List Frame} {meth : Method} {c : Code} (hG : zG E p l s m args meth c cL_append 6 RL (some .int) (zA Y0 s.heap.size)) {Q : Int32 → zSp → zS → Prop} : ∀ (n : Nat) (t0 : Nat) (t1 : Nat) (v2 : Int32) (v3 : Int32) (Y : zY) (σ : zS) (cl sl : Nat), wL_append_4 Q n t0 t1 v2 v3 (zsp Y) σ → zext Y0 Y → zT Y 11 t0 → zT Y 12 t1 → cl + (n * 1 + 0) ≤ 8 → sl + (n * 5 + 0) ≤ 40 → WW E Y σ p l e rL_append s m args below meth c (zA Y0 s.heap.size) 6 cl sl (MQ below (va_Qi (fun r (u : zY × zS) => Q r (zsp u.1) u.2) (zBA E Y0 s.heap.size) (zA Y0 s.heap.size)) args s 8 40 (zA Y0 s.heap.size)) [(0, .ref (za Y t0)), (1, .ref (za Y t1)), (2, .int v2), (3, .int v3)] 4 [] := by
  intro n
  induction n with
  | zero => intro t0 t1 v2 v3 Y σ cl sl hw
            exact hw.elim
  | succ n ih =>
    intro t0 t1 v2 v3 Y σ cl sl hw hx h0 h1 hcl hsl
    rw [wL_append_4] at hw
    refine z_iload_n hG dL_append_4 rfl 3 rfl ?_
    refine z_aload_n hG dL_append_5 rfl 1 rfl ?_
    refine z_calli hG (z_runV (As := []) (st := [.int v3]) hG k_L_8 (MJ0_length_8abf5_r l h1 hw) ⟨(Nat.le_of_ble_eq_true rfl), (Nat.le_of_ble_eq_true rfl)⟩ h1 (T := TJ0) (N := 4) rfl (by decide) rfl (Nat.le_of_ble_eq_true rfl) dL_append_6 ⟨show cl + 0 + 0 ≤ 8 from by omega, show sl + 0 + 0 ≤ 40 from by omega⟩ rfl) (fun r2 σ1 hw => ?_)
    refine z_icmp_ge (tgt := 110) hG dL_append_9 (by decide) (fun c6 => ?_) (fun c6 => ?_)
    · have hw := hw.1 c6
      refine z_iload_n hG dL_append_110 rfl 2 rfl ?_
      refine zwiden (k := 8) (n := 40) (by omega) (by omega) ?_
      exact z_iretA hG hx rfl rfl dL_append_111 hw
    · have hw := hw.2 c6
      refine z_iconst (v := 5) hG dL_append_12 (by decide) ?_
      have eNa3 : ((5 : Int32)).toNatClampNeg = 5 := by decide +kernel
      refine z_newa (kd := 20) (t0 := 0) (ty := .int) (atype := .int) (n := 5) hG kA_20 rfl rfl (Or.inl ⟨rfl, rfl⟩) (by decide) (show ((5 : Int32)).toNatClampNeg * 4 ≤ 536870912 from by omega) (show cl + 0 + 1 ≤ 8 from by omega) (show sl + 0 + ((5 : Int32)).toNatClampNeg ≤ 40 from by omega) dL_append_13 (fun Y3 a3 ea3 hx3 eSa3 ha3 => ?_)
      rw [eNa3] at eSa3
      have hw := hw a3 ea3 (zsp Y3) eSa3
      refine zwiden (k := cl + 1) (n := sl + 5) (show cl + 0 + 1 ≤ cl + 1 from by omega) (show sl + 0 + 5 ≤ sl + 5 from by omega) ?_
      refine z_topσ (fun σ4 eσ4 => ?_)
      have hw := hw σ4 eσ4
      refine zlv (lv' := [(0, .ref (za Y3 t0)), (1, .ref (za Y3 t1)), (2, .int v2), (3, .int v3)]) (by simp only [hx3.a h0, hx3.a h1]) ?_
      have h0 := hx3.T h0
      have h1 := hx3.T h1
      have hx := hx.tr hx3
      refine z_astore (lv' := [(4, .ref (za Y3 a3)), (0, .ref (za Y3 t0)), (1, .ref (za Y3 t1)), (2, .int v2), (3, .int v3)]) hG dL_append_15 (by decide) rfl ?_
      refine z_iconst (v := 0) hG dL_append_17 (by decide) ?_
      refine z_istore (lv' := [(5, .int 0), (4, .ref (za Y3 a3)), (0, .ref (za Y3 t0)), (1, .ref (za Y3 t1)), (2, .int v2), (3, .int v3)]) hG dL_append_18 (by decide) rfl ?_
      obtain ⟨n5, hw⟩ := hw
      refine zpick [2, 3, 5, 1, 0] (lv' := [(0, .ref (za Y3 t0)), (1, .ref (za Y3 t1)), (3, .int v3), (4, .ref (za Y3 a3)), (5, .int 0)]) rfl ?_
      refine zwiden (k := cl + 1) (n := sl + 5) (by omega) (by omega) ?_
      exact BL_append_20 hG ih n5 t0 t1 v3 a3 0 Y3 σ4 _ _ hw hx h0 h1 ha3 (by omega) (by omega)
set_option maxRecDepth 100000 in
set_option maxHeartbeats 4000000 in
theorem ML_append (l : Launch) {E : zE} {Y : zY} {σ : zS} {t0 : Nat} {t1 : Nat} (h0 : zT Y 11 t0) (h1 : zT Y 12 t1) {Q : Int32 → zSp → zS → Prop} (hw : wL_append (zsp Y) σ t0 t1 Q) : ∀ sz, Met l yL_append (zw yL_append cL_append 6 (some .int)) rL_append (zPc E Y σ sz [.ref (za Y t0), .ref (za Y t1)]) (va_Qi (fun r (u : zY × zS) => Q r (zsp u.1) u.2) (zBA E Y sz) (zA Y sz)) 8 40 (zA Y sz) := by
  refine z_met (own := RL) (Qc := fun sz => va_Qi (fun r (u : zY × zS) => Q r (zsp u.1) u.2) (zBA E Y sz) (zA Y sz)) (by decide +kernel) rfl (Nat.le_of_ble_eq_true rfl) ?_
  intro p e s m args below meth c hG hinit
  unfold wL_append at hw
  refine zlv (lv' := [(0, .ref (za Y t0)), (1, .ref (za Y t1))]) rfl ?_
  have hx : zext Y Y := zext.rf
  refine z_iconst (v := 0) hG dL_append_0 (by decide) ?_
  refine z_istore_n (lv' := [(2, .int 0), (0, .ref (za Y t0)), (1, .ref (za Y t1))]) hG dL_append_1 rfl (by decide) rfl ?_
  refine z_iconst (v := 0) hG dL_append_2 (by decide) ?_
  refine z_istore_n (lv' := [(3, .int 0), (2, .int 0), (0, .ref (za Y t0)), (1, .ref (za Y t1))]) hG dL_append_3 rfl (by decide) rfl ?_
  obtain ⟨n1, hn1, hw⟩ := hw
  refine zpick [2, 3, 1, 0] (lv' := [(0, .ref (za Y t0)), (1, .ref (za Y t1)), (2, .int 0), (3, .int 0)]) rfl ?_
  refine zwiden (k := 0) (n := 0) (by omega) (by omega) ?_
  exact BL_append_4 hG n1 t0 t1 0 0 Y σ _ _ hw hx h0 h1 (by omega) (by omega)
-- TypeWheelTelegraphLaw.load(LTypeWheelTelegraph;Ljava/lang/String;)I
def wL_load (S : zSp) (σ : zS) (t0 : Nat) (t1 : Nat) (Q : Int32 → zSp → zS → Prop) : Prop := wL_append S σ t0 t1 (fun r2 S1 σ1 => wJ0_length_8abf5_r (zSl S1) σ1 t1 (fun r4 σ3 => wX11_truncate (zSl S1) σ3 t0 r4 (fun σ5 => wxX11_load (zSl S1) σ5 t0 (fun r7 σ6 => Q r7 S1 σ6) (fun E10 σ8 => E10 = "java/lang/IllegalArgumentException" ∧ Q (-1) S1 σ8))))
abbrev rL_load : Room := { frames := 9, cells := 9, slots := 46, locals := 196 }
set_option maxRecDepth 100000 in
set_option maxHeartbeats 4000000 in
theorem ML_load (l : Launch) (hlt : l.stackTraces = false) {E : zE} {Y : zY} {σ : zS} {t0 : Nat} {t1 : Nat} (h0 : zT Y 11 t0) (h1 : zT Y 12 t1) {Q : Int32 → zSp → zS → Prop} (hw : wL_load (zsp Y) σ t0 t1 Q) : ∀ sz, Met l yL_load (zwH yL_load cL_load 3 (some .int) [(14, 18, 19, 36)]) rL_load (zPc E Y σ sz [.ref (za Y t0), .ref (za Y t1)]) (va_Qi (fun r (u : zY × zS) => Q r (zsp u.1) u.2) (zBA E Y sz) (zA Y sz)) 9 46 (zA Y sz) := by
  refine z_metH (hh := [(14, 18, 19, 36)]) (own := RL) (Qc := fun sz => va_Qi (fun r (u : zY × zS) => Q r (zsp u.1) u.2) (zBA E Y sz) (zA Y sz)) (by decide +kernel) rfl (Nat.le_of_ble_eq_true rfl) ?_
  intro p e s m args below meth c hG htab
  unfold wL_load at hw
  refine zlv (lv' := [(0, .ref (za Y t0)), (1, .ref (za Y t1))]) rfl ?_
  have hx : zext Y Y := zext.rf
  refine z_aload_n hG dL_load_0 rfl 0 rfl ?_
  refine z_aload_n hG dL_load_1 rfl 1 rfl ?_
  refine z_callAi hG (z_runS (As := [.ref (za Y t0), .ref (za Y t1)]) (st := []) hG k_L_24 (ML_append l h0 h1 hw) ⟨(Nat.le_of_ble_eq_true rfl), (Nat.le_of_ble_eq_true rfl)⟩ rfl (Nat.le_of_ble_eq_true rfl) dL_load_2 ⟨show 0 + 8 ≤ 9 from by omega, show 0 + 40 ≤ 46 from by omega⟩ rfl) (fun Y1 r2 σ1 hx1 hw => ?_)
  refine zwiden (k := 8) (n := 40) (show 0 + 8 ≤ 8 from by omega) (show 0 + 40 ≤ 40 from by omega) ?_
  refine zlv (lv' := [(0, .ref (za Y1 t0)), (1, .ref (za Y1 t1))]) (by simp only [hx1.a h0, hx1.a h1]) ?_
  have h0 := hx1.T h0
  have h1 := hx1.T h1
  have hx := hx.tr hx1
  refine z_pop hG dL_load_5 rfl ?_
  refine z_aload_n hG dL_load_6 rfl 0 rfl ?_
  refine z_aload_n hG dL_load_7 rfl 1 rfl ?_
  refine z_calli hG (z_runV (As := []) (st := [.ref (za Y1 t0)]) hG k_L_8 (MJ0_length_8abf5_r l h1 hw) ⟨(Nat.le_of_ble_eq_true rfl), (Nat.le_of_ble_eq_true rfl)⟩ h1 (T := TJ0) (N := 4) rfl (by decide) rfl (Nat.le_of_ble_eq_true rfl) dL_load_8 ⟨show 8 + 0 ≤ 9 from by omega, show 40 + 0 ≤ 46 from by omega⟩ rfl) (fun r4 σ3 hw => ?_)
  refine z_callv hG (z_runV (As := [.int r4]) (st := []) hG k_L_29 (MX11_truncate l h0 hw) ⟨(Nat.le_of_ble_eq_true rfl), (Nat.le_of_ble_eq_true rfl)⟩ h0 (T := TX11) (N := 9) rfl (by decide) rfl (Nat.le_of_ble_eq_true rfl) dL_load_11 ⟨show 8 + 0 ≤ 9 from by omega, show 40 + 0 ≤ 46 from by omega⟩ rfl) (fun σ5 hw => ?_)
  refine z_aload_n hG dL_load_14 rfl 0 rfl ?_
  refine z_callHi hG htab (z_runXV (As := []) (st := []) hG k_L_33 (MxX11_load l hlt h0 hw) rfl rfl ⟨(Nat.le_of_ble_eq_true rfl), (Nat.le_of_ble_eq_true rfl)⟩ h0 (T := TX11) (N := 9) rfl (by decide) rfl (Nat.le_of_ble_eq_true rfl) dL_load_15 ⟨show 8 + 1 ≤ 9 from by omega, show 40 + 6 ≤ 46 from by omega⟩ rfl) (fun E10 σ8 q9 hw => ?_) (fun r7 σ6 hw => ?_)
  · obtain ⟨hE, hw⟩ := hw
    subst hE
    refine ⟨19, zc_L_load_19, zwiden (k := 9) (n := 46) (show 8 + 1 ≤ 9 from by omega) (show 40 + 6 ≤ 46 from by omega) ?_⟩
    refine zwiden (k := 9) (n := 46) (Nat.le_refl _) (Nat.le_refl _) ?_
    refine z_astore_n (lv' := [(2, .ref q9), (0, .ref (za Y1 t0)), (1, .ref (za Y1 t1))]) hG dL_load_19 rfl (by decide) rfl ?_
    refine z_iconst (v := (-1)) hG dL_load_20 (by decide) ?_
    refine zwiden (k := 9) (n := 46) (by omega) (by omega) ?_
    exact z_iretA hG hx rfl rfl dL_load_21 hw
  · skip
    refine zwiden (k := 9) (n := 46) (show 8 + 1 ≤ 9 from by omega) (show 40 + 6 ≤ 46 from by omega) ?_
    refine zwiden (k := 9) (n := 46) (by omega) (by omega) ?_
    exact z_iretA hG hx rfl rfl dL_load_18 hw
-- TypeWheelTelegraphLaw.line([II)Ljava/lang/String;
def wL_line_94 (L : Nat) (xs : Nat → Int32) (Q : Nat → zSp → zS → Prop) (kb28 : Nat → Int32 → Int32 → Int32 → zSp → zS → Prop) (t2 : Nat) (v3 : Int32) (v4 : Int32) (v5 : Int32) (v7 : Int32) (tw0 : Nat) (vw1 : Int32) (S : zSp) (σ : zS) : Prop := ¬ v7 = 0 ∧ ∀ x2 : Int32, x2 = vw1 + (v3 - v3 / v7 * v7) → ∀ x3 : Int32, x3 = (x2.toUInt32 % 65536).toInt32 → wJ4_append_cf468 S σ tw0 x3 (fun r5 S4 σ4 => ∀ x6 : Int32, x6 = v5 + 1 → kb28 t2 v3 v4 x6 S4 σ4)
def wL_line_70 (L : Nat) (xs : Nat → Int32) (Q : Nat → zSp → zS → Prop) (kb28 : Nat → Int32 → Int32 → Int32 → zSp → zS → Prop) (t2 : Nat) (v3 : Int32) (v4 : Int32) (v5 : Int32) (v6 : Int32) (vw0 : Int32) (S : zSp) (σ : zS) : Prop := wL_positions (zSl S) σ L xs (fun r2 σ1 => ∀ x3 : Int32, x3 = r2 - 2 → ∀ x4 : Int32, x4 = (if x3 < vw0 then x3 else vw0) → ((v6 = 0 → wL_line_94 L xs Q kb28 t2 v3 v4 v5 x4 t2 97 S σ1) ∧ (¬ v6 = 0 → wL_line_94 L xs Q kb28 t2 v3 v4 v5 x4 t2 48 S σ1)))
def wL_line_56 (L : Nat) (xs : Nat → Int32) (Q : Nat → zSp → zS → Prop) (kb28 : Nat → Int32 → Int32 → Int32 → zSp → zS → Prop) (t2 : Nat) (v3 : Int32) (v4 : Int32) (v5 : Int32) (vw0 : Int32) (S : zSp) (σ : zS) : Prop := ((vw0 = 0 → wL_line_70 L xs Q kb28 t2 v3 v4 v5 vw0 26 S σ) ∧ (¬ vw0 = 0 → wL_line_70 L xs Q kb28 t2 v3 v4 v5 vw0 10 S σ))
def wL_line_28 (L : Nat) (xs : Nat → Int32) (Q : Nat → zSp → zS → Prop) : Nat → Nat → Int32 → Int32 → Int32 → zSp → zS → Prop
  | 0, _, _, _, _, _, _ => False
  | n + 1, t2, v3, v4, v5, S, σ => ((v4 ≤ v5 → wJ4_toString_0e30d S σ t2 (fun r2 S1 σ1 => Q r2 S1 σ1)) ∧ (¬ v4 ≤ v5 → ∀ x3 : Int32, x3 = (v3 / 3) + (7 * v5) → (((x3 - x3 / 3 * 3) = 0 → wL_line_56 L xs Q (wL_line_28 L xs Q n) t2 x3 v4 v5 1 S σ) ∧ (¬ (x3 - x3 / 3 * 3) = 0 → wL_line_56 L xs Q (wL_line_28 L xs Q n) t2 x3 v4 v5 0 S σ))))
def wL_line (S : zSp) (σ : zS) (L : Nat) (xs : Nat → Int32) (v1 : Int32) (Q : Nat → zSp → zS → Prop) : Prop := ∀ a1 : Nat, a1 = zSk S → ∀ S1 : zSp, S1 = zSpush S 13 0 → ∀ σ2 : zS, σ2 = zfresh σ a1 → wJ4_init_da8c8 S1 σ2 a1 (fun S3 σ3 => ∀ x5 : Int32, x5 = 5 + v1 → wL_cell (zSl S3) σ3 L xs x5 (fun r7 σ6 => ∀ x8 : Int32, x8 = r7 &&& 2147483647 → ∀ x9 : Int32, x9 = x8 - x8 / 7 * 7 → ∃ n10 : Nat, n10 ≤ 8 ∧ wL_line_28 L xs Q n10 a1 x8 x9 0 S3 σ6))
abbrev rL_line : Room := { frames := 6, cells := 12, slots := 1374, locals := 159 }
set_option maxRecDepth 100000 in
set_option maxHeartbeats 4000000 in
theorem BL_line_94 {l : Launch} {E : zE} {Y0 : zY} {p : Program} {e : Env} {s : State} {m : MethodId} {args : Array Value} {below : List Frame} {meth : Method} {c : Code} (hG : zG E p l s m args meth c cL_line 8 RL (some (.object "java/lang/String")) (zA Y0 s.heap.size)) {Q : Nat → zSp → zS → Prop} {nf : Nat} {kb28 : Nat → Int32 → Int32 → Int32 → zSp → zS → Prop} (hkb28 : ∀ (t2 : Nat) (v3 : Int32) (v4 : Int32) (v5 : Int32) (Y : zY) (σ : zS) (cl sl : Nat), kb28 t2 v3 v4 v5 (zsp Y) σ → zext Y0 Y → zT Y 13 t2 → cl + (nf * 1 + 2) ≤ 12 → sl + (nf * 150 + 154) ≤ 1374 → WW E Y σ p l e rL_line s m args below meth c (zA Y0 s.heap.size) 8 cl sl (MQ below (va_Qr (fun (u : Nat × zY × zS) => Q u.1 (zsp u.2.1) u.2.2) (zBAr E Y0 s.heap.size 12) (zA Y0 s.heap.size)) args s 12 1374 (zA Y0 s.heap.size)) [(0, .ref (E.2.2.2 1002)), (2, .ref (za Y t2)), (3, .int v3), (4, .int v4), (5, .int v5)] 28 []) : ∀ (t2 : Nat) (v3 : Int32) (v4 : Int32) (v5 : Int32) (v7 : Int32) (tw0 : Nat) (vw1 : Int32) (Y : zY) (σ : zS) (cl sl : Nat), wL_line_94 (zScL E) (zScX E) Q kb28 t2 v3 v4 v5 v7 tw0 vw1 (zsp Y) σ → zext Y0 Y → zT Y 13 t2 → zT Y 13 tw0 → cl + (1 + (nf * 1 + 2)) ≤ 12 → sl + (150 + (nf * 150 + 154)) ≤ 1374 → WW E Y σ p l e rL_line s m args below meth c (zA Y0 s.heap.size) 8 cl sl (MQ below (va_Qr (fun (u : Nat × zY × zS) => Q u.1 (zsp u.2.1) u.2.2) (zBAr E Y0 s.heap.size 12) (zA Y0 s.heap.size)) args s 12 1374 (zA Y0 s.heap.size)) [(0, .ref (E.2.2.2 1002)), (2, .ref (za Y t2)), (3, .int v3), (4, .int v4), (5, .int v5), (7, .int v7)] 94 [.int vw1, .ref (za Y tw0)] := by
  intro t2 v3 v4 v5 v7 tw0 vw1 Y σ cl sl hw hx h2 hw0 hcl hsl
  unfold wL_line_94 at hw
  refine z_iload_n hG dL_line_94 rfl 2 rfl ?_
  refine z_iload hG dL_line_95 5 rfl ?_
  obtain ⟨q1, hw⟩ := hw
  refine z_irem hG dL_line_97 q1 ?_
  refine z_iadd hG dL_line_98 ?_
  refine z_topi (fun x2 ex2 => ?_)
  have hw := hw x2 ex2
  refine z_i2c hG dL_line_99 ?_
  refine z_topi (fun x3 ex3 => ?_)
  have hw := hw x3 ex3
  refine z_callAr hG (z_runV (As := [.int x3]) (st := []) hG k_L_58 (MJ4_append_cf468 l hw0 hw) ⟨(Nat.le_of_ble_eq_true rfl), (Nat.le_of_ble_eq_true rfl)⟩ hw0 (T := TJ4) (N := 4) rfl (by decide) rfl (Nat.le_of_ble_eq_true rfl) dL_line_100 ⟨show cl + 0 + 1 ≤ 12 from by omega, show sl + 0 + 150 ≤ 1374 from by omega⟩ rfl) (fun Y4 r5 σ4 hx4 hr5 hw => ?_)
  refine zwiden (k := cl + 1) (n := sl + 150) (show cl + 0 + 1 ≤ cl + 1 from by omega) (show sl + 0 + 150 ≤ sl + 150 from by omega) ?_
  refine zlv (lv' := [(0, .ref (E.2.2.2 1002)), (2, .ref (za Y4 t2)), (3, .int v3), (4, .int v4), (5, .int v5), (7, .int v7)]) (by simp only [hx4.a h2]) ?_
  have h2 := hx4.T h2
  have hx := hx.tr hx4
  refine z_pop hG dL_line_103 rfl ?_
  obtain ⟨x6, ex6⟩ : ∃ y : Int32, y = v5 + 1 := ⟨_, rfl⟩
  have hw := hw x6 ex6
  refine z_iinc (v := x6) (lv' := [(5, .int x6), (0, .ref (E.2.2.2 1002)), (2, .ref (za Y4 t2)), (3, .int v3), (4, .int v4), (7, .int v7)]) hG dL_line_104 4 rfl (by rw [ex6]; rfl) (by decide) rfl ?_
  refine z_goto (tgt := 28) hG dL_line_107 (by decide) ?_
  refine zpick [1, 2, 3, 4, 0] (lv' := [(0, .ref (E.2.2.2 1002)), (2, .ref (za Y4 t2)), (3, .int v3), (4, .int v4), (5, .int x6)]) rfl ?_
  refine zwiden (k := cl + 1) (n := sl + 150) (by omega) (by omega) ?_
  exact hkb28 t2 v3 v4 x6 Y4 σ4 _ _ hw hx h2 (by omega) (by omega)
set_option maxRecDepth 100000 in
set_option maxHeartbeats 4000000 in
theorem BL_line_70 {l : Launch} {E : zE} {Y0 : zY} {p : Program} {e : Env} {s : State} {m : MethodId} {args : Array Value} {below : List Frame} {meth : Method} {c : Code} (hG : zG E p l s m args meth c cL_line 8 RL (some (.object "java/lang/String")) (zA Y0 s.heap.size)) {Q : Nat → zSp → zS → Prop} {nf : Nat} {kb28 : Nat → Int32 → Int32 → Int32 → zSp → zS → Prop} (hkb28 : ∀ (t2 : Nat) (v3 : Int32) (v4 : Int32) (v5 : Int32) (Y : zY) (σ : zS) (cl sl : Nat), kb28 t2 v3 v4 v5 (zsp Y) σ → zext Y0 Y → zT Y 13 t2 → cl + (nf * 1 + 2) ≤ 12 → sl + (nf * 150 + 154) ≤ 1374 → WW E Y σ p l e rL_line s m args below meth c (zA Y0 s.heap.size) 8 cl sl (MQ below (va_Qr (fun (u : Nat × zY × zS) => Q u.1 (zsp u.2.1) u.2.2) (zBAr E Y0 s.heap.size 12) (zA Y0 s.heap.size)) args s 12 1374 (zA Y0 s.heap.size)) [(0, .ref (E.2.2.2 1002)), (2, .ref (za Y t2)), (3, .int v3), (4, .int v4), (5, .int v5)] 28 []) : ∀ (t2 : Nat) (v3 : Int32) (v4 : Int32) (v5 : Int32) (v6 : Int32) (vw0 : Int32) (Y : zY) (σ : zS) (cl sl : Nat), wL_line_70 (zScL E) (zScX E) Q kb28 t2 v3 v4 v5 v6 vw0 (zsp Y) σ → zext Y0 Y → zT Y 13 t2 → cl + (1 + (nf * 1 + 2)) ≤ 12 → sl + (150 + (nf * 150 + 154)) ≤ 1374 → WW E Y σ p l e rL_line s m args below meth c (zA Y0 s.heap.size) 8 cl sl (MQ below (va_Qr (fun (u : Nat × zY × zS) => Q u.1 (zsp u.2.1) u.2.2) (zBAr E Y0 s.heap.size 12) (zA Y0 s.heap.size)) args s 12 1374 (zA Y0 s.heap.size)) [(0, .ref (E.2.2.2 1002)), (2, .ref (za Y t2)), (3, .int v3), (4, .int v4), (5, .int v5), (6, .int v6)] 70 [.int vw0] := by
  intro t2 v3 v4 v5 v6 vw0 Y σ cl sl hw hx h2 hcl hsl
  unfold wL_line_70 at hw
  refine z_aload_n hG dL_line_70 rfl 0 rfl ?_
  refine z_calli hG (z_runS (As := [.ref (E.2.2.2 1002)]) (st := [.int vw0]) hG k_L_46 (ML_positions l hw) ⟨(Nat.le_of_ble_eq_true rfl), (Nat.le_of_ble_eq_true rfl)⟩ rfl (Nat.le_of_ble_eq_true rfl) dL_line_71 ⟨show cl + 0 + 0 ≤ 12 from by omega, show sl + 0 + 0 ≤ 1374 from by omega⟩ rfl) (fun r2 σ1 hw => ?_)
  refine z_iconst (v := 2) hG dL_line_74 (by decide) ?_
  refine z_isub hG dL_line_75 ?_
  refine z_topi (fun x3 ex3 => ?_)
  have hw := hw x3 ex3
  refine z_mmin hG k_L_53 km_min_s km_i km_min_c (Nat.le_of_ble_eq_true rfl) (Nat.le_of_ble_eq_true rfl) (show cl + 0 ≤ 12 from by omega) (show sl + 0 ≤ 1374 from by omega) dL_line_76 ?_
  refine z_topi (fun x4 ex4 => ?_)
  have hw := hw x4 ex4
  refine z_istore (lv' := [(7, .int x4), (0, .ref (E.2.2.2 1002)), (2, .ref (za Y t2)), (3, .int v3), (4, .int v4), (5, .int v5), (6, .int v6)]) hG dL_line_79 (by decide) rfl ?_
  refine z_aload_n hG dL_line_81 rfl 2 rfl ?_
  refine z_iload hG dL_line_82 6 rfl ?_
  refine z_if_eq (tgt := 92) hG dL_line_84 (by decide) (fun c5 => ?_) (fun c5 => ?_)
  · have hw := hw.1 c5
    refine z_bipush (v := 97) hG dL_line_92 (by decide) ?_
    refine zpick [1, 2, 3, 4, 5, 0] (lv' := [(0, .ref (E.2.2.2 1002)), (2, .ref (za Y t2)), (3, .int v3), (4, .int v4), (5, .int v5), (7, .int x4)]) rfl ?_
    exact BL_line_94 hG hkb28 t2 v3 v4 v5 x4 t2 97 Y σ1 _ _ hw hx h2 h2 (by omega) (by omega)
  · have hw := hw.2 c5
    refine z_bipush (v := 48) hG dL_line_87 (by decide) ?_
    refine z_goto (tgt := 94) hG dL_line_89 (by decide) ?_
    refine zpick [1, 2, 3, 4, 5, 0] (lv' := [(0, .ref (E.2.2.2 1002)), (2, .ref (za Y t2)), (3, .int v3), (4, .int v4), (5, .int v5), (7, .int x4)]) rfl ?_
    exact BL_line_94 hG hkb28 t2 v3 v4 v5 x4 t2 48 Y σ1 _ _ hw hx h2 h2 (by omega) (by omega)
set_option maxRecDepth 100000 in
set_option maxHeartbeats 4000000 in
theorem BL_line_56 {l : Launch} {E : zE} {Y0 : zY} {p : Program} {e : Env} {s : State} {m : MethodId} {args : Array Value} {below : List Frame} {meth : Method} {c : Code} (hG : zG E p l s m args meth c cL_line 8 RL (some (.object "java/lang/String")) (zA Y0 s.heap.size)) {Q : Nat → zSp → zS → Prop} {nf : Nat} {kb28 : Nat → Int32 → Int32 → Int32 → zSp → zS → Prop} (hkb28 : ∀ (t2 : Nat) (v3 : Int32) (v4 : Int32) (v5 : Int32) (Y : zY) (σ : zS) (cl sl : Nat), kb28 t2 v3 v4 v5 (zsp Y) σ → zext Y0 Y → zT Y 13 t2 → cl + (nf * 1 + 2) ≤ 12 → sl + (nf * 150 + 154) ≤ 1374 → WW E Y σ p l e rL_line s m args below meth c (zA Y0 s.heap.size) 8 cl sl (MQ below (va_Qr (fun (u : Nat × zY × zS) => Q u.1 (zsp u.2.1) u.2.2) (zBAr E Y0 s.heap.size 12) (zA Y0 s.heap.size)) args s 12 1374 (zA Y0 s.heap.size)) [(0, .ref (E.2.2.2 1002)), (2, .ref (za Y t2)), (3, .int v3), (4, .int v4), (5, .int v5)] 28 []) : ∀ (t2 : Nat) (v3 : Int32) (v4 : Int32) (v5 : Int32) (vw0 : Int32) (Y : zY) (σ : zS) (cl sl : Nat), wL_line_56 (zScL E) (zScX E) Q kb28 t2 v3 v4 v5 vw0 (zsp Y) σ → zext Y0 Y → zT Y 13 t2 → cl + (1 + (nf * 1 + 2)) ≤ 12 → sl + (150 + (nf * 150 + 154)) ≤ 1374 → WW E Y σ p l e rL_line s m args below meth c (zA Y0 s.heap.size) 8 cl sl (MQ below (va_Qr (fun (u : Nat × zY × zS) => Q u.1 (zsp u.2.1) u.2.2) (zBAr E Y0 s.heap.size 12) (zA Y0 s.heap.size)) args s 12 1374 (zA Y0 s.heap.size)) [(0, .ref (E.2.2.2 1002)), (2, .ref (za Y t2)), (3, .int v3), (4, .int v4), (5, .int v5)] 56 [.int vw0] := by
  intro t2 v3 v4 v5 vw0 Y σ cl sl hw hx h2 hcl hsl
  unfold wL_line_56 at hw
  refine z_istore (lv' := [(6, .int vw0), (0, .ref (E.2.2.2 1002)), (2, .ref (za Y t2)), (3, .int v3), (4, .int v4), (5, .int v5)]) hG dL_line_56 (by decide) rfl ?_
  refine z_iload hG dL_line_58 0 rfl ?_
  refine z_if_eq (tgt := 68) hG dL_line_60 (by decide) (fun c1 => ?_) (fun c1 => ?_)
  · have hw := hw.1 c1
    refine z_bipush (v := 26) hG dL_line_68 (by decide) ?_
    refine zpick [1, 2, 3, 4, 5, 0] (lv' := [(0, .ref (E.2.2.2 1002)), (2, .ref (za Y t2)), (3, .int v3), (4, .int v4), (5, .int v5), (6, .int vw0)]) rfl ?_
    exact BL_line_70 hG hkb28 t2 v3 v4 v5 vw0 26 Y σ _ _ hw hx h2 (by omega) (by omega)
  · have hw := hw.2 c1
    refine z_bipush (v := 10) hG dL_line_63 (by decide) ?_
    refine z_goto (tgt := 70) hG dL_line_65 (by decide) ?_
    refine zpick [1, 2, 3, 4, 5, 0] (lv' := [(0, .ref (E.2.2.2 1002)), (2, .ref (za Y t2)), (3, .int v3), (4, .int v4), (5, .int v5), (6, .int vw0)]) rfl ?_
    exact BL_line_70 hG hkb28 t2 v3 v4 v5 vw0 10 Y σ _ _ hw hx h2 (by omega) (by omega)
set_option maxRecDepth 100000 in
set_option maxHeartbeats 4000000 in
theorem BL_line_28 {l : Launch} {E : zE} {Y0 : zY} {p : Program} {e : Env} {s : State} {m : MethodId} {args : Array Value} {below : List Frame} {meth : Method} {c : Code} (hG : zG E p l s m args meth c cL_line 8 RL (some (.object "java/lang/String")) (zA Y0 s.heap.size)) {Q : Nat → zSp → zS → Prop} : ∀ (n : Nat) (t2 : Nat) (v3 : Int32) (v4 : Int32) (v5 : Int32) (Y : zY) (σ : zS) (cl sl : Nat), wL_line_28 (zScL E) (zScX E) Q n t2 v3 v4 v5 (zsp Y) σ → zext Y0 Y → zT Y 13 t2 → cl + (n * 1 + 2) ≤ 12 → sl + (n * 150 + 154) ≤ 1374 → WW E Y σ p l e rL_line s m args below meth c (zA Y0 s.heap.size) 8 cl sl (MQ below (va_Qr (fun (u : Nat × zY × zS) => Q u.1 (zsp u.2.1) u.2.2) (zBAr E Y0 s.heap.size 12) (zA Y0 s.heap.size)) args s 12 1374 (zA Y0 s.heap.size)) [(0, .ref (E.2.2.2 1002)), (2, .ref (za Y t2)), (3, .int v3), (4, .int v4), (5, .int v5)] 28 [] := by
  intro n
  induction n with
  | zero => intro t2 v3 v4 v5 Y σ cl sl hw
            exact hw.elim
  | succ n ih =>
    intro t2 v3 v4 v5 Y σ cl sl hw hx h2 hcl hsl
    rw [wL_line_28] at hw
    refine z_iload hG dL_line_28 4 rfl ?_
    refine z_iload hG dL_line_30 3 rfl ?_
    refine z_icmp_ge (tgt := 110) hG dL_line_32 (by decide) (fun c5 => ?_) (fun c5 => ?_)
    · have hw := hw.1 c5
      refine z_aload_n hG dL_line_110 rfl 1 rfl ?_
      refine z_callAr hG (z_runV (As := []) (st := []) hG k_L_61 (MJ4_toString_0e30d l h2 hw) ⟨(Nat.le_of_ble_eq_true rfl), (Nat.le_of_ble_eq_true rfl)⟩ h2 (T := TJ4) (N := 4) rfl (by decide) rfl (Nat.le_of_ble_eq_true rfl) dL_line_111 ⟨show cl + 0 + 2 ≤ 12 from by omega, show sl + 0 + 154 ≤ 1374 from by omega⟩ rfl) (fun Y1 r2 σ1 hx1 hr2 hw => ?_)
      refine zwiden (k := cl + 2) (n := sl + 154) (show cl + 0 + 2 ≤ cl + 2 from by omega) (show sl + 0 + 154 ≤ sl + 154 from by omega) ?_
      refine zlv (lv' := [(0, .ref (E.2.2.2 1002)), (2, .ref (za Y1 t2)), (3, .int v3), (4, .int v4), (5, .int v5)]) (by simp only [hx1.a h2]) ?_
      have h2 := hx1.T h2
      have hx := hx.tr hx1
      refine zwiden (k := 12) (n := 1374) (by omega) (by omega) ?_
      exact z_aretA hG hx rfl (Or.inl ⟨_, rfl⟩) hr2 dL_line_114 hw
    · have hw := hw.2 c5
      refine z_iload_n hG dL_line_35 rfl 2 rfl ?_
      refine z_iconst (v := 3) hG dL_line_36 (by decide) ?_
      refine z_idiv hG dL_line_37 (by decide) ?_
      refine z_bipush (v := 7) hG dL_line_38 (by decide) ?_
      refine z_iload hG dL_line_40 4 rfl ?_
      refine z_imul hG dL_line_42 ?_
      refine z_iadd hG dL_line_43 ?_
      refine z_topi (fun x3 ex3 => ?_)
      have hw := hw x3 ex3
      refine z_istore_n (lv' := [(3, .int x3), (0, .ref (E.2.2.2 1002)), (2, .ref (za Y t2)), (4, .int v4), (5, .int v5)]) hG dL_line_44 rfl (by decide) rfl ?_
      refine z_iload_n hG dL_line_45 rfl 0 rfl ?_
      refine z_iconst (v := 3) hG dL_line_46 (by decide) ?_
      refine z_irem hG dL_line_47 (by decide) ?_
      refine z_if_ne (tgt := 55) hG dL_line_48 (by decide) (fun c4 => ?_) (fun c4 => ?_)
      · have hw := hw.2 c4
        refine z_iconst (v := 0) hG dL_line_55 (by decide) ?_
        refine zpick [1, 2, 0, 3, 4] (lv' := [(0, .ref (E.2.2.2 1002)), (2, .ref (za Y t2)), (3, .int x3), (4, .int v4), (5, .int v5)]) rfl ?_
        exact BL_line_56 hG ih t2 x3 v4 v5 0 Y σ _ _ hw hx h2 (by omega) (by omega)
      · have hw := hw.1 c4
        refine z_iconst (v := 1) hG dL_line_51 (by decide) ?_
        refine z_goto (tgt := 56) hG dL_line_52 (by decide) ?_
        refine zpick [1, 2, 0, 3, 4] (lv' := [(0, .ref (E.2.2.2 1002)), (2, .ref (za Y t2)), (3, .int x3), (4, .int v4), (5, .int v5)]) rfl ?_
        exact BL_line_56 hG ih t2 x3 v4 v5 1 Y σ _ _ hw hx h2 (by omega) (by omega)
set_option maxRecDepth 100000 in
set_option maxHeartbeats 4000000 in
theorem ML_line (l : Launch) {E : zE} {Y : zY} {σ : zS} {v1 : Int32} {Q : Nat → zSp → zS → Prop} (hw : wL_line (zsp Y) σ (zScL E) (zScX E) v1 Q) : ∀ sz, Met l yL_line (zw yL_line cL_line 8 (some (.object "java/lang/String"))) rL_line (zPc E Y σ sz [.ref (E.2.2.2 1002), .int v1]) (va_Qr (fun (u : Nat × zY × zS) => Q u.1 (zsp u.2.1) u.2.2) (zBAr E Y sz 12) (zA Y sz)) 12 1374 (zA Y sz) := by
  refine z_met (own := RL) (Qc := fun sz => va_Qr (fun (u : Nat × zY × zS) => Q u.1 (zsp u.2.1) u.2.2) (zBAr E Y sz 12) (zA Y sz)) (by decide +kernel) rfl (Nat.le_of_ble_eq_true rfl) ?_
  intro p e s m args below meth c hG hinit
  unfold wL_line at hw
  refine zlv (lv' := [(0, .ref (E.2.2.2 1002)), (1, .int v1)]) rfl ?_
  have hx : zext Y Y := zext.rf
  refine z_new hG ck_13 kc_L_50 kn_13 ki_13 nw_13 (show 0 + 1 ≤ 12 from by omega) (show 0 + 4 ≤ 1374 from by omega) dL_line_0 (fun Y1 a1 ea1 hx1 eSa1 ha1 => ?_)
  have hw := hw a1 ea1 (zsp Y1) eSa1
  refine zwiden (k := 1) (n := 4) (show 0 + 1 ≤ 1 from by omega) (show 0 + 4 ≤ 4 from by omega) ?_
  refine z_topσ (fun σ2 eσ2 => ?_)
  have hw := hw σ2 eσ2
  have hx := hx.tr hx1
  refine z_dup hG dL_line_3 rfl ?_
  refine z_callAv hG (z_runI (As := []) (st := [.ref (za Y1 a1)]) hG k_L_52 (MJ4_init_da8c8 l ha1 hw) ⟨(Nat.le_of_ble_eq_true rfl), (Nat.le_of_ble_eq_true rfl)⟩ rfl (Nat.le_of_ble_eq_true rfl) dL_line_4 ⟨show 1 + 1 ≤ 12 from by omega, show 4 + 16 ≤ 1374 from by omega⟩ rfl) (fun Y3 σ3 hx3 hw => ?_)
  refine zwiden (k := 2) (n := 20) (show 1 + 1 ≤ 2 from by omega) (show 4 + 16 ≤ 20 from by omega) ?_
  refine zst (st' := [.ref (za Y3 a1)]) (by simp only [hx3.a ha1]) ?_
  have ha1 := hx3.T ha1
  have hx := hx.tr hx3
  refine z_astore_n (lv' := [(2, .ref (za Y3 a1)), (0, .ref (E.2.2.2 1002)), (1, .int v1)]) hG dL_line_7 rfl (by decide) rfl ?_
  refine z_aload_n hG dL_line_8 rfl 1 rfl ?_
  refine z_iconst (v := 5) hG dL_line_9 (by decide) ?_
  refine z_iload_n hG dL_line_10 rfl 2 rfl ?_
  refine z_iadd hG dL_line_11 ?_
  refine z_topi (fun x5 ex5 => ?_)
  have hw := hw x5 ex5
  refine z_calli hG (z_runS (As := [.ref (E.2.2.2 1002), .int x5]) (st := []) hG k_L_38 (ML_cell l hw) ⟨(Nat.le_of_ble_eq_true rfl), (Nat.le_of_ble_eq_true rfl)⟩ rfl (Nat.le_of_ble_eq_true rfl) dL_line_12 ⟨show 2 + 0 ≤ 12 from by omega, show 20 + 0 ≤ 1374 from by omega⟩ rfl) (fun r7 σ6 hw => ?_)
  refine z_ldc (hc := c_L_7) hG (hd := dL_line_15) ?_
  refine z_iand hG dL_line_17 ?_
  refine z_topi (fun x8 ex8 => ?_)
  have hw := hw x8 ex8
  refine z_istore_n (lv' := [(3, .int x8), (2, .ref (za Y3 a1)), (0, .ref (E.2.2.2 1002)), (1, .int v1)]) hG dL_line_18 rfl (by decide) rfl ?_
  refine z_iload_n hG dL_line_19 rfl 0 rfl ?_
  refine z_bipush (v := 7) hG dL_line_20 (by decide) ?_
  refine z_irem hG dL_line_22 (by decide) ?_
  refine z_topi (fun x9 ex9 => ?_)
  have hw := hw x9 ex9
  refine z_istore (lv' := [(4, .int x9), (3, .int x8), (2, .ref (za Y3 a1)), (0, .ref (E.2.2.2 1002)), (1, .int v1)]) hG dL_line_23 (by decide) rfl ?_
  refine z_iconst (v := 0) hG dL_line_25 (by decide) ?_
  refine z_istore (lv' := [(5, .int 0), (4, .int x9), (3, .int x8), (2, .ref (za Y3 a1)), (0, .ref (E.2.2.2 1002)), (1, .int v1)]) hG dL_line_26 (by decide) rfl ?_
  obtain ⟨n10, hn10, hw⟩ := hw
  refine zpick [4, 3, 2, 1, 0] (lv' := [(0, .ref (E.2.2.2 1002)), (2, .ref (za Y3 a1)), (3, .int x8), (4, .int x9), (5, .int 0)]) rfl ?_
  refine zwiden (k := 2) (n := 20) (by omega) (by omega) ?_
  exact BL_line_28 hG n10 a1 x8 x9 0 Y3 σ6 _ _ hw hx ha1 (by omega) (by omega)
-- TypeWheelTelegraphLaw.text([II)Ljava/lang/String;
def wL_text_159 (L : Nat) (xs : Nat → Int32) (Q : Nat → zSp → zS → Prop) (kb126 : Nat → Int32 → zSp → zS → Prop) : Nat → Nat → Int32 → Nat → Int32 → zSp → zS → Prop
  | 0, _, _, _, _, _, _ => False
  | n + 1, t4, v5, t6, v7, S, σ => wJ0_length_8abf5_r (zSl S) σ t6 (fun r2 σ1 => ((r2 ≤ v7 → ((v5 = 0 → wL_lines (zSl S) σ1 L xs (fun r5 σ4 => ((r5 = 1 → wJ0_isEmpty_aae02_r (zSl S) σ4 t6 (fun r8 σ7 => ((r8 = 0 → ∀ x9 : Int32, x9 = v5 + 1 → kb126 t4 x9 S σ7) ∧ (¬ r8 = 0 → wJ4_append_15ec4 S σ7 t4 20 (fun r12 S11 σ11 => ∀ x13 : Int32, x13 = v5 + 1 → kb126 t4 x13 S11 σ11))))) ∧ (¬ r5 = 1 → ∀ x6 : Int32, x6 = v5 + 1 → kb126 t4 x6 S σ4)))) ∧ (¬ v5 = 0 → ∀ x3 : Int32, x3 = v5 + 1 → kb126 t4 x3 S σ1))) ∧ (¬ r2 ≤ v7 → wJ4_append_cf468 S σ1 t4 32 (fun r18 S17 σ17 => wJ0_charAt_5068e_r (zSl S17) σ17 t6 v7 (fun r20 σ19 => wJ4_append_cf468 S17 σ19 r18 r20 (fun r22 S21 σ21 => ∀ x23 : Int32, x23 = v7 + 1 → (wL_text_159 L xs Q kb126 n) t4 v5 t6 x23 S21 σ21))))))
def wL_text_148 (L : Nat) (xs : Nat → Int32) (Q : Nat → zSp → zS → Prop) (kb126 : Nat → Int32 → zSp → zS → Prop) (t4 : Nat) (v5 : Int32) (S : zSp) (σ : zS) : Prop := wL_line S σ L xs v5 (fun r2 S1 σ1 => ∃ n3 : Nat, n3 ≤ 8 ∧ wL_text_159 L xs Q kb126 n3 t4 v5 r2 0 S1 σ1)
def wL_text_126 (L : Nat) (xs : Nat → Int32) (Q : Nat → zSp → zS → Prop) : Nat → Nat → Int32 → zSp → zS → Prop
  | 0, _, _, _, _ => False
  | n + 1, t4, v5, S, σ => wL_lines (zSl S) σ L xs (fun r2 σ1 => ((r2 ≤ v5 → wJ4_append_cf468 S σ1 t4 59 (fun r4 S3 σ3 => wJ4_toString_0e30d S3 σ3 r4 (fun r6 S5 σ5 => Q r6 S5 σ5))) ∧ (¬ r2 ≤ v5 → ((v5 ≤ 0 → wL_text_148 L xs Q (wL_text_126 L xs Q n) t4 v5 S σ1) ∧ (¬ v5 ≤ 0 → wJ4_append_15ec4 S σ1 t4 18 (fun r9 S8 σ8 => wL_text_148 L xs Q (wL_text_126 L xs Q n) t4 v5 S8 σ8))))))
def wL_text (S : zSp) (σ : zS) (L : Nat) (xs : Nat → Int32) (v1 : Int32) (Q : Nat → zSp → zS → Prop) : Prop := wL_positions (zSl S) σ L xs (fun r2 σ1 => ∀ x3 : Int32, x3 = 1000 * r2 → wL_phase (zSl S) σ1 L xs (fun r5 σ4 => wL_delay (zSl S) σ4 L xs (fun r7 σ6 => wL_rate (zSl S) σ6 L xs (fun r9 σ8 => ∀ x10 : Int32, x10 = r5 - (r7 * r9) → wJ9_floorMod_7cf53 (zSl S) σ8 x10 x3 (fun r12 σ11 => ∀ a13 : Nat, a13 = zSk S → ∀ S13 : zSp, S13 = zSpush S 13 0 → ∀ σ14 : zS, σ14 = zfresh σ11 a13 → wJ4_init_da8c8 S13 σ14 a13 (fun S15 σ15 => wJ4_append_15ec4 S15 σ15 a13 13 (fun r19 S18 σ18 => wL_positions (zSl S18) σ18 L xs (fun r21 σ20 => wJ4_append_bf812 S18 σ20 r19 r21 (fun r23 S22 σ22 => wJ4_append_15ec4 S22 σ22 r23 14 (fun r26 S25 σ25 => wL_phase (zSl S25) σ25 L xs (fun r28 σ27 => wJ4_append_bf812 S25 σ27 r26 r28 (fun r30 S29 σ29 => wJ4_append_cf468 S29 σ29 r30 32 (fun r32 S31 σ31 => wL_rate (zSl S31) σ31 L xs (fun r34 σ33 => wJ4_append_bf812 S31 σ33 r32 r34 (fun r36 S35 σ35 => wJ4_append_15ec4 S35 σ35 r36 14 (fun r39 S38 σ38 => wJ4_append_bf812 S38 σ38 r39 r12 (fun r41 S40 σ40 => wJ4_append_cf468 S40 σ40 r41 32 (fun r43 S42 σ42 => wJ4_append_bf812 S42 σ42 r43 v1 (fun r45 S44 σ44 => wJ4_append_15ec4 S44 σ44 r45 15 (fun r48 S47 σ47 => wL_delay (zSl S47) σ47 L xs (fun r50 σ49 => wJ4_append_bf812 S47 σ49 r48 r50 (fun r52 S51 σ51 => wJ4_append_15ec4 S51 σ51 r52 16 (fun r55 S54 σ54 => wL_correct (zSl S54) σ54 L xs (fun r57 σ56 => wJ4_append_bf812 S54 σ56 r55 r57 (fun r59 S58 σ58 => wJ4_append_15ec4 S58 σ58 r59 17 (fun r62 S61 σ61 => ∃ n63 : Nat, n63 ≤ 8 ∧ wL_text_126 L xs Q n63 a13 0 S61 σ61))))))))))))))))))))))))))
abbrev rL_text : Room := { frames := 7, cells := 260, slots := 35166, locals := 186 }
set_option maxRecDepth 100000 in
set_option maxHeartbeats 4000000 in
theorem BL_text_159 {l : Launch} {E : zE} {Y0 : zY} {p : Program} {e : Env} {s : State} {m : MethodId} {args : Array Value} {below : List Frame} {meth : Method} {c : Code} (hG : zG E p l s m args meth c cL_text 8 RL (some (.object "java/lang/String")) (zA Y0 s.heap.size)) {Q : Nat → zSp → zS → Prop} {nf : Nat} {kb126 : Nat → Int32 → zSp → zS → Prop} (hkb126 : ∀ (t4 : Nat) (v5 : Int32) (Y : zY) (σ : zS) (cl sl : Nat), kb126 t4 v5 (zsp Y) σ → zext Y0 Y → zT Y 13 t4 → cl + (nf * 30 + 3) ≤ 260 → sl + (nf * 4074 + 304) ≤ 35166 → WW E Y σ p l e rL_text s m args below meth c (zA Y0 s.heap.size) 8 cl sl (MQ below (va_Qr (fun (u : Nat × zY × zS) => Q u.1 (zsp u.2.1) u.2.2) (zBAr E Y0 s.heap.size 12) (zA Y0 s.heap.size)) args s 260 35166 (zA Y0 s.heap.size)) [(0, .ref (E.2.2.2 1002)), (4, .ref (za Y t4)), (5, .int v5)] 126 []) : ∀ (n : Nat) (t4 : Nat) (v5 : Int32) (t6 : Nat) (v7 : Int32) (Y : zY) (σ : zS) (cl sl : Nat), wL_text_159 (zScL E) (zScX E) Q kb126 n t4 v5 t6 v7 (zsp Y) σ → zext Y0 Y → zT Y 13 t4 → zT Y 12 t6 → cl + (n * 2 + 1 + (nf * 30 + 3)) ≤ 260 → sl + (n * 300 + 150 + (nf * 4074 + 304)) ≤ 35166 → WW E Y σ p l e rL_text s m args below meth c (zA Y0 s.heap.size) 8 cl sl (MQ below (va_Qr (fun (u : Nat × zY × zS) => Q u.1 (zsp u.2.1) u.2.2) (zBAr E Y0 s.heap.size 12) (zA Y0 s.heap.size)) args s 260 35166 (zA Y0 s.heap.size)) [(0, .ref (E.2.2.2 1002)), (4, .ref (za Y t4)), (5, .int v5), (6, .ref (za Y t6)), (7, .int v7)] 159 [] := by
  intro n
  induction n with
  | zero => intro t4 v5 t6 v7 Y σ cl sl hw
            exact hw.elim
  | succ n ih =>
    intro t4 v5 t6 v7 Y σ cl sl hw hx h4 h6 hcl hsl
    rw [wL_text_159] at hw
    refine z_iload hG dL_text_159 4 rfl ?_
    refine z_aload hG dL_text_161 3 rfl ?_
    refine z_calli hG (z_runV (As := []) (st := [.int v7]) hG k_L_8 (MJ0_length_8abf5_r l h6 hw) ⟨(Nat.le_of_ble_eq_true rfl), (Nat.le_of_ble_eq_true rfl)⟩ h6 (T := TJ0) (N := 4) rfl (by decide) rfl (Nat.le_of_ble_eq_true rfl) dL_text_163 ⟨show cl + 0 + 0 ≤ 260 from by omega, show sl + 0 + 0 ≤ 35166 from by omega⟩ rfl) (fun r2 σ1 hw => ?_)
    refine z_icmp_ge (tgt := 193) hG dL_text_166 (by decide) (fun c24 => ?_) (fun c24 => ?_)
    · have hw := hw.1 c24
      refine z_iload hG dL_text_193 2 rfl ?_
      refine z_if_ne (tgt := 222) hG dL_text_195 (by decide) (fun c16 => ?_) (fun c16 => ?_)
      · have hw := hw.2 c16
        obtain ⟨x3, ex3⟩ : ∃ y : Int32, y = v5 + 1 := ⟨_, rfl⟩
        have hw := hw x3 ex3
        refine z_iinc (v := x3) (lv' := [(5, .int x3), (0, .ref (E.2.2.2 1002)), (4, .ref (za Y t4)), (6, .ref (za Y t6)), (7, .int v7)]) hG dL_text_222 2 rfl (by rw [ex3]; rfl) (by decide) rfl ?_
        refine z_goto (tgt := 126) hG dL_text_225 (by decide) ?_
        refine zpick [1, 2, 0] (lv' := [(0, .ref (E.2.2.2 1002)), (4, .ref (za Y t4)), (5, .int x3)]) rfl ?_
        exact hkb126 t4 x3 Y σ1 _ _ hw hx h4 (by omega) (by omega)
      · have hw := hw.1 c16
        refine z_aload_n hG dL_text_198 rfl 0 rfl ?_
        refine z_calli hG (z_runS (As := [.ref (E.2.2.2 1002)]) (st := []) hG k_L_96 (ML_lines l hw) ⟨(Nat.le_of_ble_eq_true rfl), (Nat.le_of_ble_eq_true rfl)⟩ rfl (Nat.le_of_ble_eq_true rfl) dL_text_199 ⟨show cl + 0 + 0 ≤ 260 from by omega, show sl + 0 + 0 ≤ 35166 from by omega⟩ rfl) (fun r5 σ4 hw => ?_)
        refine z_iconst (v := 1) hG dL_text_202 (by decide) ?_
        refine z_icmp_ne (tgt := 222) hG dL_text_203 (by decide) (fun c15 => ?_) (fun c15 => ?_)
        · have hw := hw.2 c15
          obtain ⟨x6, ex6⟩ : ∃ y : Int32, y = v5 + 1 := ⟨_, rfl⟩
          have hw := hw x6 ex6
          refine z_iinc (v := x6) (lv' := [(5, .int x6), (0, .ref (E.2.2.2 1002)), (4, .ref (za Y t4)), (6, .ref (za Y t6)), (7, .int v7)]) hG dL_text_222 2 rfl (by rw [ex6]; rfl) (by decide) rfl ?_
          refine z_goto (tgt := 126) hG dL_text_225 (by decide) ?_
          refine zpick [1, 2, 0] (lv' := [(0, .ref (E.2.2.2 1002)), (4, .ref (za Y t4)), (5, .int x6)]) rfl ?_
          exact hkb126 t4 x6 Y σ4 _ _ hw hx h4 (by omega) (by omega)
        · have hw := hw.1 c15
          refine z_aload hG dL_text_206 3 rfl ?_
          refine z_calli hG (z_runV (As := []) (st := []) hG k_L_105 (MJ0_isEmpty_aae02_r l h6 hw) ⟨(Nat.le_of_ble_eq_true rfl), (Nat.le_of_ble_eq_true rfl)⟩ h6 (T := TJ0) (N := 4) rfl (by decide) rfl (Nat.le_of_ble_eq_true rfl) dL_text_208 ⟨show cl + 0 + 0 ≤ 260 from by omega, show sl + 0 + 0 ≤ 35166 from by omega⟩ rfl) (fun r8 σ7 hw => ?_)
          refine z_if_eq (tgt := 222) hG dL_text_211 (by decide) (fun c14 => ?_) (fun c14 => ?_)
          · have hw := hw.1 c14
            obtain ⟨x9, ex9⟩ : ∃ y : Int32, y = v5 + 1 := ⟨_, rfl⟩
            have hw := hw x9 ex9
            refine z_iinc (v := x9) (lv' := [(5, .int x9), (0, .ref (E.2.2.2 1002)), (4, .ref (za Y t4)), (6, .ref (za Y t6)), (7, .int v7)]) hG dL_text_222 2 rfl (by rw [ex9]; rfl) (by decide) rfl ?_
            refine z_goto (tgt := 126) hG dL_text_225 (by decide) ?_
            refine zpick [1, 2, 0] (lv' := [(0, .ref (E.2.2.2 1002)), (4, .ref (za Y t4)), (5, .int x9)]) rfl ?_
            exact hkb126 t4 x9 Y σ7 _ _ hw hx h4 (by omega) (by omega)
          · have hw := hw.2 c14
            refine z_aload hG dL_text_214 1 rfl ?_
            refine z_ldcs (i := 20) (tx := " a") hG (by decide +kernel) dL_text_216 ?_
            have hq10 : 20 < zS_n := by decide
            refine z_callAr hG (z_runV (As := [.ref (E.2.2.1 20)]) (st := []) hG k_L_79 (MJ4_append_15ec4 l h4 hq10 hw) ⟨(Nat.le_of_ble_eq_true rfl), (Nat.le_of_ble_eq_true rfl)⟩ h4 (T := TJ4) (N := 4) rfl (by decide) rfl (Nat.le_of_ble_eq_true rfl) dL_text_218 ⟨show cl + 0 + 1 ≤ 260 from by omega, show sl + 0 + 150 ≤ 35166 from by omega⟩ rfl) (fun Y11 r12 σ11 hx11 hr12 hw => ?_)
            refine zwiden (k := cl + 1) (n := sl + 150) (show cl + 0 + 1 ≤ cl + 1 from by omega) (show sl + 0 + 150 ≤ sl + 150 from by omega) ?_
            refine zlv (lv' := [(0, .ref (E.2.2.2 1002)), (4, .ref (za Y11 t4)), (5, .int v5), (6, .ref (za Y11 t6)), (7, .int v7)]) (by simp only [hx11.a h4, hx11.a h6]) ?_
            have h4 := hx11.T h4
            have h6 := hx11.T h6
            have hx := hx.tr hx11
            refine z_pop hG dL_text_221 rfl ?_
            obtain ⟨x13, ex13⟩ : ∃ y : Int32, y = v5 + 1 := ⟨_, rfl⟩
            have hw := hw x13 ex13
            refine z_iinc (v := x13) (lv' := [(5, .int x13), (0, .ref (E.2.2.2 1002)), (4, .ref (za Y11 t4)), (6, .ref (za Y11 t6)), (7, .int v7)]) hG dL_text_222 2 rfl (by rw [ex13]; rfl) (by decide) rfl ?_
            refine z_goto (tgt := 126) hG dL_text_225 (by decide) ?_
            refine zpick [1, 2, 0] (lv' := [(0, .ref (E.2.2.2 1002)), (4, .ref (za Y11 t4)), (5, .int x13)]) rfl ?_
            refine zwiden (k := cl + 1) (n := sl + 150) (by omega) (by omega) ?_
            exact hkb126 t4 x13 Y11 σ11 _ _ hw hx h4 (by omega) (by omega)
    · have hw := hw.2 c24
      refine z_aload hG dL_text_169 1 rfl ?_
      refine z_bipush (v := 32) hG dL_text_171 (by decide) ?_
      refine z_callAr hG (z_runV (As := [.int 32]) (st := []) hG k_L_58 (MJ4_append_cf468 l h4 hw) ⟨(Nat.le_of_ble_eq_true rfl), (Nat.le_of_ble_eq_true rfl)⟩ h4 (T := TJ4) (N := 4) rfl (by decide) rfl (Nat.le_of_ble_eq_true rfl) dL_text_173 ⟨show cl + 0 + 1 ≤ 260 from by omega, show sl + 0 + 150 ≤ 35166 from by omega⟩ rfl) (fun Y17 r18 σ17 hx17 hr18 hw => ?_)
      refine zwiden (k := cl + 1) (n := sl + 150) (show cl + 0 + 1 ≤ cl + 1 from by omega) (show sl + 0 + 150 ≤ sl + 150 from by omega) ?_
      refine zlv (lv' := [(0, .ref (E.2.2.2 1002)), (4, .ref (za Y17 t4)), (5, .int v5), (6, .ref (za Y17 t6)), (7, .int v7)]) (by simp only [hx17.a h4, hx17.a h6]) ?_
      have h4 := hx17.T h4
      have h6 := hx17.T h6
      have hx := hx.tr hx17
      refine z_aload hG dL_text_176 3 rfl ?_
      refine z_iload hG dL_text_178 4 rfl ?_
      refine z_calli hG (z_runV (As := [.int v7]) (st := [.ref (za Y17 r18)]) hG k_L_14 (MJ0_charAt_5068e_r l h6 hw) ⟨(Nat.le_of_ble_eq_true rfl), (Nat.le_of_ble_eq_true rfl)⟩ h6 (T := TJ0) (N := 4) rfl (by decide) rfl (Nat.le_of_ble_eq_true rfl) dL_text_180 ⟨show cl + 1 + 0 ≤ 260 from by omega, show sl + 150 + 0 ≤ 35166 from by omega⟩ rfl) (fun r20 σ19 hw => ?_)
      refine z_callAr hG (z_runV (As := [.int r20]) (st := []) hG k_L_58 (MJ4_append_cf468 l hr18 hw) ⟨(Nat.le_of_ble_eq_true rfl), (Nat.le_of_ble_eq_true rfl)⟩ hr18 (T := TJ4) (N := 4) rfl (by decide) rfl (Nat.le_of_ble_eq_true rfl) dL_text_183 ⟨show cl + 1 + 1 ≤ 260 from by omega, show sl + 150 + 150 ≤ 35166 from by omega⟩ rfl) (fun Y21 r22 σ21 hx21 hr22 hw => ?_)
      refine zwiden (k := cl + 2) (n := sl + 300) (show cl + 1 + 1 ≤ cl + 2 from by omega) (show sl + 150 + 150 ≤ sl + 300 from by omega) ?_
      refine zlv (lv' := [(0, .ref (E.2.2.2 1002)), (4, .ref (za Y21 t4)), (5, .int v5), (6, .ref (za Y21 t6)), (7, .int v7)]) (by simp only [hx21.a h4, hx21.a h6]) ?_
      have h4 := hx21.T h4
      have h6 := hx21.T h6
      have hx := hx.tr hx21
      refine z_pop hG dL_text_186 rfl ?_
      obtain ⟨x23, ex23⟩ : ∃ y : Int32, y = v7 + 1 := ⟨_, rfl⟩
      have hw := hw x23 ex23
      refine z_iinc (v := x23) (lv' := [(7, .int x23), (0, .ref (E.2.2.2 1002)), (4, .ref (za Y21 t4)), (5, .int v5), (6, .ref (za Y21 t6))]) hG dL_text_187 4 rfl (by rw [ex23]; rfl) (by decide) rfl ?_
      refine z_goto (tgt := 159) hG dL_text_190 (by decide) ?_
      refine zpick [1, 2, 3, 4, 0] (lv' := [(0, .ref (E.2.2.2 1002)), (4, .ref (za Y21 t4)), (5, .int v5), (6, .ref (za Y21 t6)), (7, .int x23)]) rfl ?_
      refine zwiden (k := cl + 2) (n := sl + 300) (by omega) (by omega) ?_
      exact ih t4 v5 t6 x23 Y21 σ21 _ _ hw hx h4 h6 (by omega) (by omega)
set_option maxRecDepth 100000 in
set_option maxHeartbeats 4000000 in
theorem BL_text_148 {l : Launch} {E : zE} {Y0 : zY} {p : Program} {e : Env} {s : State} {m : MethodId} {args : Array Value} {below : List Frame} {meth : Method} {c : Code} (hG : zG E p l s m args meth c cL_text 8 RL (some (.object "java/lang/String")) (zA Y0 s.heap.size)) {Q : Nat → zSp → zS → Prop} {nf : Nat} {kb126 : Nat → Int32 → zSp → zS → Prop} (hkb126 : ∀ (t4 : Nat) (v5 : Int32) (Y : zY) (σ : zS) (cl sl : Nat), kb126 t4 v5 (zsp Y) σ → zext Y0 Y → zT Y 13 t4 → cl + (nf * 30 + 3) ≤ 260 → sl + (nf * 4074 + 304) ≤ 35166 → WW E Y σ p l e rL_text s m args below meth c (zA Y0 s.heap.size) 8 cl sl (MQ below (va_Qr (fun (u : Nat × zY × zS) => Q u.1 (zsp u.2.1) u.2.2) (zBAr E Y0 s.heap.size 12) (zA Y0 s.heap.size)) args s 260 35166 (zA Y0 s.heap.size)) [(0, .ref (E.2.2.2 1002)), (4, .ref (za Y t4)), (5, .int v5)] 126 []) : ∀ (t4 : Nat) (v5 : Int32) (Y : zY) (σ : zS) (cl sl : Nat), wL_text_148 (zScL E) (zScX E) Q kb126 t4 v5 (zsp Y) σ → zext Y0 Y → zT Y 13 t4 → cl + (29 + (nf * 30 + 3)) ≤ 260 → sl + (3924 + (nf * 4074 + 304)) ≤ 35166 → WW E Y σ p l e rL_text s m args below meth c (zA Y0 s.heap.size) 8 cl sl (MQ below (va_Qr (fun (u : Nat × zY × zS) => Q u.1 (zsp u.2.1) u.2.2) (zBAr E Y0 s.heap.size 12) (zA Y0 s.heap.size)) args s 260 35166 (zA Y0 s.heap.size)) [(0, .ref (E.2.2.2 1002)), (4, .ref (za Y t4)), (5, .int v5)] 148 [] := by
  intro t4 v5 Y σ cl sl hw hx h4 hcl hsl
  unfold wL_text_148 at hw
  refine z_aload_n hG dL_text_148 rfl 0 rfl ?_
  refine z_iload hG dL_text_149 2 rfl ?_
  refine z_callAr hG (z_runS (As := [.ref (E.2.2.2 1002), .int v5]) (st := []) hG k_L_101 (ML_line l hw) ⟨(Nat.le_of_ble_eq_true rfl), (Nat.le_of_ble_eq_true rfl)⟩ rfl (Nat.le_of_ble_eq_true rfl) dL_text_151 ⟨show cl + 0 + 12 ≤ 260 from by omega, show sl + 0 + 1374 ≤ 35166 from by omega⟩ rfl) (fun Y1 r2 σ1 hx1 hr2 hw => ?_)
  refine zwiden (k := cl + 12) (n := sl + 1374) (show cl + 0 + 12 ≤ cl + 12 from by omega) (show sl + 0 + 1374 ≤ sl + 1374 from by omega) ?_
  refine zlv (lv' := [(0, .ref (E.2.2.2 1002)), (4, .ref (za Y1 t4)), (5, .int v5)]) (by simp only [hx1.a h4]) ?_
  have h4 := hx1.T h4
  have hx := hx.tr hx1
  refine z_astore (lv' := [(6, .ref (za Y1 r2)), (0, .ref (E.2.2.2 1002)), (4, .ref (za Y1 t4)), (5, .int v5)]) hG dL_text_154 (by decide) rfl ?_
  refine z_iconst (v := 0) hG dL_text_156 (by decide) ?_
  refine z_istore (lv' := [(7, .int 0), (6, .ref (za Y1 r2)), (0, .ref (E.2.2.2 1002)), (4, .ref (za Y1 t4)), (5, .int v5)]) hG dL_text_157 (by decide) rfl ?_
  obtain ⟨n3, hn3, hw⟩ := hw
  refine zpick [2, 3, 4, 1, 0] (lv' := [(0, .ref (E.2.2.2 1002)), (4, .ref (za Y1 t4)), (5, .int v5), (6, .ref (za Y1 r2)), (7, .int 0)]) rfl ?_
  refine zwiden (k := cl + 12) (n := sl + 1374) (by omega) (by omega) ?_
  exact BL_text_159 hG hkb126 n3 t4 v5 r2 0 Y1 σ1 _ _ hw hx h4 hr2 (by omega) (by omega)
set_option maxRecDepth 100000 in
set_option maxHeartbeats 4000000 in
theorem BL_text_126 {l : Launch} {E : zE} {Y0 : zY} {p : Program} {e : Env} {s : State} {m : MethodId} {args : Array Value} {below : List Frame} {meth : Method} {c : Code} (hG : zG E p l s m args meth c cL_text 8 RL (some (.object "java/lang/String")) (zA Y0 s.heap.size)) {Q : Nat → zSp → zS → Prop} : ∀ (n : Nat) (t4 : Nat) (v5 : Int32) (Y : zY) (σ : zS) (cl sl : Nat), wL_text_126 (zScL E) (zScX E) Q n t4 v5 (zsp Y) σ → zext Y0 Y → zT Y 13 t4 → cl + (n * 30 + 3) ≤ 260 → sl + (n * 4074 + 304) ≤ 35166 → WW E Y σ p l e rL_text s m args below meth c (zA Y0 s.heap.size) 8 cl sl (MQ below (va_Qr (fun (u : Nat × zY × zS) => Q u.1 (zsp u.2.1) u.2.2) (zBAr E Y0 s.heap.size 12) (zA Y0 s.heap.size)) args s 260 35166 (zA Y0 s.heap.size)) [(0, .ref (E.2.2.2 1002)), (4, .ref (za Y t4)), (5, .int v5)] 126 [] := by
  intro n
  induction n with
  | zero => intro t4 v5 Y σ cl sl hw
            exact hw.elim
  | succ n ih =>
    intro t4 v5 Y σ cl sl hw hx h4 hcl hsl
    rw [wL_text_126] at hw
    refine z_iload hG dL_text_126 2 rfl ?_
    refine z_aload_n hG dL_text_128 rfl 0 rfl ?_
    refine z_calli hG (z_runS (As := [.ref (E.2.2.2 1002)]) (st := [.int v5]) hG k_L_96 (ML_lines l hw) ⟨(Nat.le_of_ble_eq_true rfl), (Nat.le_of_ble_eq_true rfl)⟩ rfl (Nat.le_of_ble_eq_true rfl) dL_text_129 ⟨show cl + 0 + 0 ≤ 260 from by omega, show sl + 0 + 0 ≤ 35166 from by omega⟩ rfl) (fun r2 σ1 hw => ?_)
    refine z_icmp_ge (tgt := 228) hG dL_text_132 (by decide) (fun c11 => ?_) (fun c11 => ?_)
    · have hw := hw.1 c11
      refine z_aload hG dL_text_228 1 rfl ?_
      refine z_bipush (v := 59) hG dL_text_230 (by decide) ?_
      refine z_callAr hG (z_runV (As := [.int 59]) (st := []) hG k_L_58 (MJ4_append_cf468 l h4 hw) ⟨(Nat.le_of_ble_eq_true rfl), (Nat.le_of_ble_eq_true rfl)⟩ h4 (T := TJ4) (N := 4) rfl (by decide) rfl (Nat.le_of_ble_eq_true rfl) dL_text_232 ⟨show cl + 0 + 1 ≤ 260 from by omega, show sl + 0 + 150 ≤ 35166 from by omega⟩ rfl) (fun Y3 r4 σ3 hx3 hr4 hw => ?_)
      refine zwiden (k := cl + 1) (n := sl + 150) (show cl + 0 + 1 ≤ cl + 1 from by omega) (show sl + 0 + 150 ≤ sl + 150 from by omega) ?_
      refine zlv (lv' := [(0, .ref (E.2.2.2 1002)), (4, .ref (za Y3 t4)), (5, .int v5)]) (by simp only [hx3.a h4]) ?_
      have h4 := hx3.T h4
      have hx := hx.tr hx3
      refine z_callAr hG (z_runV (As := []) (st := []) hG k_L_61 (MJ4_toString_0e30d l hr4 hw) ⟨(Nat.le_of_ble_eq_true rfl), (Nat.le_of_ble_eq_true rfl)⟩ hr4 (T := TJ4) (N := 4) rfl (by decide) rfl (Nat.le_of_ble_eq_true rfl) dL_text_235 ⟨show cl + 1 + 2 ≤ 260 from by omega, show sl + 150 + 154 ≤ 35166 from by omega⟩ rfl) (fun Y5 r6 σ5 hx5 hr6 hw => ?_)
      refine zwiden (k := cl + 3) (n := sl + 304) (show cl + 1 + 2 ≤ cl + 3 from by omega) (show sl + 150 + 154 ≤ sl + 304 from by omega) ?_
      refine zlv (lv' := [(0, .ref (E.2.2.2 1002)), (4, .ref (za Y5 t4)), (5, .int v5)]) (by simp only [hx5.a h4]) ?_
      have h4 := hx5.T h4
      have hx := hx.tr hx5
      refine zwiden (k := 260) (n := 35166) (by omega) (by omega) ?_
      exact z_aretA hG hx rfl (Or.inl ⟨_, rfl⟩) hr6 dL_text_238 hw
    · have hw := hw.2 c11
      refine z_iload hG dL_text_135 2 rfl ?_
      refine z_if_le (tgt := 148) hG dL_text_137 (by decide) (fun c10 => ?_) (fun c10 => ?_)
      · have hw := hw.1 c10
        refine zpick [0, 1, 2] (lv' := [(0, .ref (E.2.2.2 1002)), (4, .ref (za Y t4)), (5, .int v5)]) rfl ?_
        exact BL_text_148 hG ih t4 v5 Y σ1 _ _ hw hx h4 (by omega) (by omega)
      · have hw := hw.2 c10
        refine z_aload hG dL_text_140 1 rfl ?_
        refine z_ldcs (i := 18) (tx := " /") hG (by decide +kernel) dL_text_142 ?_
        have hq7 : 18 < zS_n := by decide
        refine z_callAr hG (z_runV (As := [.ref (E.2.2.1 18)]) (st := []) hG k_L_79 (MJ4_append_15ec4 l h4 hq7 hw) ⟨(Nat.le_of_ble_eq_true rfl), (Nat.le_of_ble_eq_true rfl)⟩ h4 (T := TJ4) (N := 4) rfl (by decide) rfl (Nat.le_of_ble_eq_true rfl) dL_text_144 ⟨show cl + 0 + 1 ≤ 260 from by omega, show sl + 0 + 150 ≤ 35166 from by omega⟩ rfl) (fun Y8 r9 σ8 hx8 hr9 hw => ?_)
        refine zwiden (k := cl + 1) (n := sl + 150) (show cl + 0 + 1 ≤ cl + 1 from by omega) (show sl + 0 + 150 ≤ sl + 150 from by omega) ?_
        refine zlv (lv' := [(0, .ref (E.2.2.2 1002)), (4, .ref (za Y8 t4)), (5, .int v5)]) (by simp only [hx8.a h4]) ?_
        have h4 := hx8.T h4
        have hx := hx.tr hx8
        refine z_pop hG dL_text_147 rfl ?_
        refine zpick [0, 1, 2] (lv' := [(0, .ref (E.2.2.2 1002)), (4, .ref (za Y8 t4)), (5, .int v5)]) rfl ?_
        refine zwiden (k := cl + 1) (n := sl + 150) (by omega) (by omega) ?_
        exact BL_text_148 hG ih t4 v5 Y8 σ8 _ _ hw hx h4 (by omega) (by omega)
set_option maxRecDepth 100000 in
set_option maxHeartbeats 4000000 in
theorem ML_text (l : Launch) {E : zE} {Y : zY} {σ : zS} {v1 : Int32} {Q : Nat → zSp → zS → Prop} (hw : wL_text (zsp Y) σ (zScL E) (zScX E) v1 Q) : ∀ sz, Met l yL_text (zw yL_text cL_text 8 (some (.object "java/lang/String"))) rL_text (zPc E Y σ sz [.ref (E.2.2.2 1002), .int v1]) (va_Qr (fun (u : Nat × zY × zS) => Q u.1 (zsp u.2.1) u.2.2) (zBAr E Y sz 12) (zA Y sz)) 260 35166 (zA Y sz) := by
  refine z_met (own := RL) (Qc := fun sz => va_Qr (fun (u : Nat × zY × zS) => Q u.1 (zsp u.2.1) u.2.2) (zBAr E Y sz 12) (zA Y sz)) (by decide +kernel) rfl (Nat.le_of_ble_eq_true rfl) ?_
  intro p e s m args below meth c hG hinit
  unfold wL_text at hw
  refine zlv (lv' := [(0, .ref (E.2.2.2 1002)), (1, .int v1)]) rfl ?_
  have hx : zext Y Y := zext.rf
  refine z_sipush (v := 1000) hG dL_text_0 (by decide) ?_
  refine z_aload_n hG dL_text_3 rfl 0 rfl ?_
  refine z_calli hG (z_runS (As := [.ref (E.2.2.2 1002)]) (st := [.int 1000]) hG k_L_46 (ML_positions l hw) ⟨(Nat.le_of_ble_eq_true rfl), (Nat.le_of_ble_eq_true rfl)⟩ rfl (Nat.le_of_ble_eq_true rfl) dL_text_4 ⟨show 0 + 0 ≤ 260 from by omega, show 0 + 0 ≤ 35166 from by omega⟩ rfl) (fun r2 σ1 hw => ?_)
  refine z_imul hG dL_text_7 ?_
  refine z_topi (fun x3 ex3 => ?_)
  have hw := hw x3 ex3
  refine z_istore_n (lv' := [(2, .int x3), (0, .ref (E.2.2.2 1002)), (1, .int v1)]) hG dL_text_8 rfl (by decide) rfl ?_
  refine z_aload_n hG dL_text_9 rfl 1 rfl ?_
  refine z_calli hG (z_runS (As := [.ref (E.2.2.2 1002)]) (st := []) hG k_L_65 (ML_phase l hw) ⟨(Nat.le_of_ble_eq_true rfl), (Nat.le_of_ble_eq_true rfl)⟩ rfl (Nat.le_of_ble_eq_true rfl) dL_text_10 ⟨show 0 + 0 ≤ 260 from by omega, show 0 + 0 ≤ 35166 from by omega⟩ rfl) (fun r5 σ4 hw => ?_)
  refine z_aload_n hG dL_text_13 rfl 1 rfl ?_
  refine z_calli hG (z_runS (As := [.ref (E.2.2.2 1002)]) (st := [.int r5]) hG k_L_68 (ML_delay l hw) ⟨(Nat.le_of_ble_eq_true rfl), (Nat.le_of_ble_eq_true rfl)⟩ rfl (Nat.le_of_ble_eq_true rfl) dL_text_14 ⟨show 0 + 0 ≤ 260 from by omega, show 0 + 0 ≤ 35166 from by omega⟩ rfl) (fun r7 σ6 hw => ?_)
  refine z_aload_n hG dL_text_17 rfl 1 rfl ?_
  refine z_calli hG (z_runS (As := [.ref (E.2.2.2 1002)]) (st := [.int r7, .int r5]) hG k_L_71 (ML_rate l hw) ⟨(Nat.le_of_ble_eq_true rfl), (Nat.le_of_ble_eq_true rfl)⟩ rfl (Nat.le_of_ble_eq_true rfl) dL_text_18 ⟨show 0 + 0 ≤ 260 from by omega, show 0 + 0 ≤ 35166 from by omega⟩ rfl) (fun r9 σ8 hw => ?_)
  refine z_imul hG dL_text_21 ?_
  refine z_isub hG dL_text_22 ?_
  refine z_iload_n hG dL_text_23 rfl 0 rfl ?_
  obtain ⟨x10, ex10⟩ : ∃ y : Int32, y = r5 - (r7 * r9) := ⟨_, rfl⟩
  refine zst (st' := [.int x3, .int x10]) (by rw [ex10] <;> rfl) ?_
  have hw := hw x10 ex10
  refine z_calli hG (z_runS (As := [.int x10, .int x3]) (st := []) hG k_L_74 (MJ9_floorMod_7cf53 l hw) ⟨(Nat.le_of_ble_eq_true rfl), (Nat.le_of_ble_eq_true rfl)⟩ rfl (Nat.le_of_ble_eq_true rfl) dL_text_24 ⟨show 0 + 0 ≤ 260 from by omega, show 0 + 0 ≤ 35166 from by omega⟩ rfl) (fun r12 σ11 hw => ?_)
  refine z_istore_n (lv' := [(3, .int r12), (2, .int x3), (0, .ref (E.2.2.2 1002)), (1, .int v1)]) hG dL_text_27 rfl (by decide) rfl ?_
  refine z_new hG ck_13 kc_L_50 kn_13 ki_13 nw_13 (show 0 + 1 ≤ 260 from by omega) (show 0 + 4 ≤ 35166 from by omega) dL_text_28 (fun Y13 a13 ea13 hx13 eSa13 ha13 => ?_)
  have hw := hw a13 ea13 (zsp Y13) eSa13
  refine zwiden (k := 1) (n := 4) (show 0 + 1 ≤ 1 from by omega) (show 0 + 4 ≤ 4 from by omega) ?_
  refine z_topσ (fun σ14 eσ14 => ?_)
  have hw := hw σ14 eσ14
  have hx := hx.tr hx13
  refine z_dup hG dL_text_31 rfl ?_
  refine z_callAv hG (z_runI (As := []) (st := [.ref (za Y13 a13)]) hG k_L_52 (MJ4_init_da8c8 l ha13 hw) ⟨(Nat.le_of_ble_eq_true rfl), (Nat.le_of_ble_eq_true rfl)⟩ rfl (Nat.le_of_ble_eq_true rfl) dL_text_32 ⟨show 1 + 1 ≤ 260 from by omega, show 4 + 16 ≤ 35166 from by omega⟩ rfl) (fun Y15 σ15 hx15 hw => ?_)
  refine zwiden (k := 2) (n := 20) (show 1 + 1 ≤ 2 from by omega) (show 4 + 16 ≤ 20 from by omega) ?_
  refine zst (st' := [.ref (za Y15 a13)]) (by simp only [hx15.a ha13]) ?_
  have ha13 := hx15.T ha13
  have hx := hx.tr hx15
  refine z_astore (lv' := [(4, .ref (za Y15 a13)), (3, .int r12), (2, .int x3), (0, .ref (E.2.2.2 1002)), (1, .int v1)]) hG dL_text_35 (by decide) rfl ?_
  refine z_aload hG dL_text_37 0 rfl ?_
  refine z_ldcs (i := 13) (tx := "wheel ") hG (by decide +kernel) dL_text_39 ?_
  have hq17 : 13 < zS_n := by decide
  refine z_callAr hG (z_runV (As := [.ref (E.2.2.1 13)]) (st := []) hG k_L_79 (MJ4_append_15ec4 l ha13 hq17 hw) ⟨(Nat.le_of_ble_eq_true rfl), (Nat.le_of_ble_eq_true rfl)⟩ ha13 (T := TJ4) (N := 4) rfl (by decide) rfl (Nat.le_of_ble_eq_true rfl) dL_text_41 ⟨show 2 + 1 ≤ 260 from by omega, show 20 + 150 ≤ 35166 from by omega⟩ rfl) (fun Y18 r19 σ18 hx18 hr19 hw => ?_)
  refine zwiden (k := 3) (n := 170) (show 2 + 1 ≤ 3 from by omega) (show 20 + 150 ≤ 170 from by omega) ?_
  refine zlv (lv' := [(4, .ref (za Y18 a13)), (3, .int r12), (2, .int x3), (0, .ref (E.2.2.2 1002)), (1, .int v1)]) (by simp only [hx18.a ha13]) ?_
  have ha13 := hx18.T ha13
  have hx := hx.tr hx18
  refine z_aload_n hG dL_text_44 rfl 3 rfl ?_
  refine z_calli hG (z_runS (As := [.ref (E.2.2.2 1002)]) (st := [.ref (za Y18 r19)]) hG k_L_46 (ML_positions l hw) ⟨(Nat.le_of_ble_eq_true rfl), (Nat.le_of_ble_eq_true rfl)⟩ rfl (Nat.le_of_ble_eq_true rfl) dL_text_45 ⟨show 3 + 0 ≤ 260 from by omega, show 170 + 0 ≤ 35166 from by omega⟩ rfl) (fun r21 σ20 hw => ?_)
  refine z_callAr hG (z_runV (As := [.int r21]) (st := []) hG k_L_82 (MJ4_append_bf812 l hr19 hw) ⟨(Nat.le_of_ble_eq_true rfl), (Nat.le_of_ble_eq_true rfl)⟩ hr19 (T := TJ4) (N := 4) rfl (by decide) rfl (Nat.le_of_ble_eq_true rfl) dL_text_48 ⟨show 3 + 1 ≤ 260 from by omega, show 170 + 150 ≤ 35166 from by omega⟩ rfl) (fun Y22 r23 σ22 hx22 hr23 hw => ?_)
  refine zwiden (k := 4) (n := 320) (show 3 + 1 ≤ 4 from by omega) (show 170 + 150 ≤ 320 from by omega) ?_
  refine zlv (lv' := [(4, .ref (za Y22 a13)), (3, .int r12), (2, .int x3), (0, .ref (E.2.2.2 1002)), (1, .int v1)]) (by simp only [hx22.a ha13]) ?_
  have ha13 := hx22.T ha13
  have hx := hx.tr hx22
  refine z_ldcs (i := 14) (tx := ";office ") hG (by decide +kernel) dL_text_51 ?_
  have hq24 : 14 < zS_n := by decide
  refine z_callAr hG (z_runV (As := [.ref (E.2.2.1 14)]) (st := []) hG k_L_79 (MJ4_append_15ec4 l hr23 hq24 hw) ⟨(Nat.le_of_ble_eq_true rfl), (Nat.le_of_ble_eq_true rfl)⟩ hr23 (T := TJ4) (N := 4) rfl (by decide) rfl (Nat.le_of_ble_eq_true rfl) dL_text_53 ⟨show 4 + 1 ≤ 260 from by omega, show 320 + 150 ≤ 35166 from by omega⟩ rfl) (fun Y25 r26 σ25 hx25 hr26 hw => ?_)
  refine zwiden (k := 5) (n := 470) (show 4 + 1 ≤ 5 from by omega) (show 320 + 150 ≤ 470 from by omega) ?_
  refine zlv (lv' := [(4, .ref (za Y25 a13)), (3, .int r12), (2, .int x3), (0, .ref (E.2.2.2 1002)), (1, .int v1)]) (by simp only [hx25.a ha13]) ?_
  have ha13 := hx25.T ha13
  have hx := hx.tr hx25
  refine z_aload_n hG dL_text_56 rfl 3 rfl ?_
  refine z_calli hG (z_runS (As := [.ref (E.2.2.2 1002)]) (st := [.ref (za Y25 r26)]) hG k_L_65 (ML_phase l hw) ⟨(Nat.le_of_ble_eq_true rfl), (Nat.le_of_ble_eq_true rfl)⟩ rfl (Nat.le_of_ble_eq_true rfl) dL_text_57 ⟨show 5 + 0 ≤ 260 from by omega, show 470 + 0 ≤ 35166 from by omega⟩ rfl) (fun r28 σ27 hw => ?_)
  refine z_callAr hG (z_runV (As := [.int r28]) (st := []) hG k_L_82 (MJ4_append_bf812 l hr26 hw) ⟨(Nat.le_of_ble_eq_true rfl), (Nat.le_of_ble_eq_true rfl)⟩ hr26 (T := TJ4) (N := 4) rfl (by decide) rfl (Nat.le_of_ble_eq_true rfl) dL_text_60 ⟨show 5 + 1 ≤ 260 from by omega, show 470 + 150 ≤ 35166 from by omega⟩ rfl) (fun Y29 r30 σ29 hx29 hr30 hw => ?_)
  refine zwiden (k := 6) (n := 620) (show 5 + 1 ≤ 6 from by omega) (show 470 + 150 ≤ 620 from by omega) ?_
  refine zlv (lv' := [(4, .ref (za Y29 a13)), (3, .int r12), (2, .int x3), (0, .ref (E.2.2.2 1002)), (1, .int v1)]) (by simp only [hx29.a ha13]) ?_
  have ha13 := hx29.T ha13
  have hx := hx.tr hx29
  refine z_bipush (v := 32) hG dL_text_63 (by decide) ?_
  refine z_callAr hG (z_runV (As := [.int 32]) (st := []) hG k_L_58 (MJ4_append_cf468 l hr30 hw) ⟨(Nat.le_of_ble_eq_true rfl), (Nat.le_of_ble_eq_true rfl)⟩ hr30 (T := TJ4) (N := 4) rfl (by decide) rfl (Nat.le_of_ble_eq_true rfl) dL_text_65 ⟨show 6 + 1 ≤ 260 from by omega, show 620 + 150 ≤ 35166 from by omega⟩ rfl) (fun Y31 r32 σ31 hx31 hr32 hw => ?_)
  refine zwiden (k := 7) (n := 770) (show 6 + 1 ≤ 7 from by omega) (show 620 + 150 ≤ 770 from by omega) ?_
  refine zlv (lv' := [(4, .ref (za Y31 a13)), (3, .int r12), (2, .int x3), (0, .ref (E.2.2.2 1002)), (1, .int v1)]) (by simp only [hx31.a ha13]) ?_
  have ha13 := hx31.T ha13
  have hx := hx.tr hx31
  refine z_aload_n hG dL_text_68 rfl 3 rfl ?_
  refine z_calli hG (z_runS (As := [.ref (E.2.2.2 1002)]) (st := [.ref (za Y31 r32)]) hG k_L_71 (ML_rate l hw) ⟨(Nat.le_of_ble_eq_true rfl), (Nat.le_of_ble_eq_true rfl)⟩ rfl (Nat.le_of_ble_eq_true rfl) dL_text_69 ⟨show 7 + 0 ≤ 260 from by omega, show 770 + 0 ≤ 35166 from by omega⟩ rfl) (fun r34 σ33 hw => ?_)
  refine z_callAr hG (z_runV (As := [.int r34]) (st := []) hG k_L_82 (MJ4_append_bf812 l hr32 hw) ⟨(Nat.le_of_ble_eq_true rfl), (Nat.le_of_ble_eq_true rfl)⟩ hr32 (T := TJ4) (N := 4) rfl (by decide) rfl (Nat.le_of_ble_eq_true rfl) dL_text_72 ⟨show 7 + 1 ≤ 260 from by omega, show 770 + 150 ≤ 35166 from by omega⟩ rfl) (fun Y35 r36 σ35 hx35 hr36 hw => ?_)
  refine zwiden (k := 8) (n := 920) (show 7 + 1 ≤ 8 from by omega) (show 770 + 150 ≤ 920 from by omega) ?_
  refine zlv (lv' := [(4, .ref (za Y35 a13)), (3, .int r12), (2, .int x3), (0, .ref (E.2.2.2 1002)), (1, .int v1)]) (by simp only [hx35.a ha13]) ?_
  have ha13 := hx35.T ha13
  have hx := hx.tr hx35
  refine z_ldcs (i := 14) (tx := ";office ") hG (by decide +kernel) dL_text_75 ?_
  have hq37 : 14 < zS_n := by decide
  refine z_callAr hG (z_runV (As := [.ref (E.2.2.1 14)]) (st := []) hG k_L_79 (MJ4_append_15ec4 l hr36 hq37 hw) ⟨(Nat.le_of_ble_eq_true rfl), (Nat.le_of_ble_eq_true rfl)⟩ hr36 (T := TJ4) (N := 4) rfl (by decide) rfl (Nat.le_of_ble_eq_true rfl) dL_text_77 ⟨show 8 + 1 ≤ 260 from by omega, show 920 + 150 ≤ 35166 from by omega⟩ rfl) (fun Y38 r39 σ38 hx38 hr39 hw => ?_)
  refine zwiden (k := 9) (n := 1070) (show 8 + 1 ≤ 9 from by omega) (show 920 + 150 ≤ 1070 from by omega) ?_
  refine zlv (lv' := [(4, .ref (za Y38 a13)), (3, .int r12), (2, .int x3), (0, .ref (E.2.2.2 1002)), (1, .int v1)]) (by simp only [hx38.a ha13]) ?_
  have ha13 := hx38.T ha13
  have hx := hx.tr hx38
  refine z_iload_n hG dL_text_80 rfl 1 rfl ?_
  refine z_callAr hG (z_runV (As := [.int r12]) (st := []) hG k_L_82 (MJ4_append_bf812 l hr39 hw) ⟨(Nat.le_of_ble_eq_true rfl), (Nat.le_of_ble_eq_true rfl)⟩ hr39 (T := TJ4) (N := 4) rfl (by decide) rfl (Nat.le_of_ble_eq_true rfl) dL_text_81 ⟨show 9 + 1 ≤ 260 from by omega, show 1070 + 150 ≤ 35166 from by omega⟩ rfl) (fun Y40 r41 σ40 hx40 hr41 hw => ?_)
  refine zwiden (k := 10) (n := 1220) (show 9 + 1 ≤ 10 from by omega) (show 1070 + 150 ≤ 1220 from by omega) ?_
  refine zlv (lv' := [(4, .ref (za Y40 a13)), (3, .int r12), (2, .int x3), (0, .ref (E.2.2.2 1002)), (1, .int v1)]) (by simp only [hx40.a ha13]) ?_
  have ha13 := hx40.T ha13
  have hx := hx.tr hx40
  refine z_bipush (v := 32) hG dL_text_84 (by decide) ?_
  refine z_callAr hG (z_runV (As := [.int 32]) (st := []) hG k_L_58 (MJ4_append_cf468 l hr41 hw) ⟨(Nat.le_of_ble_eq_true rfl), (Nat.le_of_ble_eq_true rfl)⟩ hr41 (T := TJ4) (N := 4) rfl (by decide) rfl (Nat.le_of_ble_eq_true rfl) dL_text_86 ⟨show 10 + 1 ≤ 260 from by omega, show 1220 + 150 ≤ 35166 from by omega⟩ rfl) (fun Y42 r43 σ42 hx42 hr43 hw => ?_)
  refine zwiden (k := 11) (n := 1370) (show 10 + 1 ≤ 11 from by omega) (show 1220 + 150 ≤ 1370 from by omega) ?_
  refine zlv (lv' := [(4, .ref (za Y42 a13)), (3, .int r12), (2, .int x3), (0, .ref (E.2.2.2 1002)), (1, .int v1)]) (by simp only [hx42.a ha13]) ?_
  have ha13 := hx42.T ha13
  have hx := hx.tr hx42
  refine z_iload_n hG dL_text_89 rfl 4 rfl ?_
  refine z_callAr hG (z_runV (As := [.int v1]) (st := []) hG k_L_82 (MJ4_append_bf812 l hr43 hw) ⟨(Nat.le_of_ble_eq_true rfl), (Nat.le_of_ble_eq_true rfl)⟩ hr43 (T := TJ4) (N := 4) rfl (by decide) rfl (Nat.le_of_ble_eq_true rfl) dL_text_90 ⟨show 11 + 1 ≤ 260 from by omega, show 1370 + 150 ≤ 35166 from by omega⟩ rfl) (fun Y44 r45 σ44 hx44 hr45 hw => ?_)
  refine zwiden (k := 12) (n := 1520) (show 11 + 1 ≤ 12 from by omega) (show 1370 + 150 ≤ 1520 from by omega) ?_
  refine zlv (lv' := [(4, .ref (za Y44 a13)), (3, .int r12), (2, .int x3), (0, .ref (E.2.2.2 1002)), (1, .int v1)]) (by simp only [hx44.a ha13]) ?_
  have ha13 := hx44.T ha13
  have hx := hx.tr hx44
  refine z_ldcs (i := 15) (tx := ";delay ") hG (by decide +kernel) dL_text_93 ?_
  have hq46 : 15 < zS_n := by decide
  refine z_callAr hG (z_runV (As := [.ref (E.2.2.1 15)]) (st := []) hG k_L_79 (MJ4_append_15ec4 l hr45 hq46 hw) ⟨(Nat.le_of_ble_eq_true rfl), (Nat.le_of_ble_eq_true rfl)⟩ hr45 (T := TJ4) (N := 4) rfl (by decide) rfl (Nat.le_of_ble_eq_true rfl) dL_text_95 ⟨show 12 + 1 ≤ 260 from by omega, show 1520 + 150 ≤ 35166 from by omega⟩ rfl) (fun Y47 r48 σ47 hx47 hr48 hw => ?_)
  refine zwiden (k := 13) (n := 1670) (show 12 + 1 ≤ 13 from by omega) (show 1520 + 150 ≤ 1670 from by omega) ?_
  refine zlv (lv' := [(4, .ref (za Y47 a13)), (3, .int r12), (2, .int x3), (0, .ref (E.2.2.2 1002)), (1, .int v1)]) (by simp only [hx47.a ha13]) ?_
  have ha13 := hx47.T ha13
  have hx := hx.tr hx47
  refine z_aload_n hG dL_text_98 rfl 3 rfl ?_
  refine z_calli hG (z_runS (As := [.ref (E.2.2.2 1002)]) (st := [.ref (za Y47 r48)]) hG k_L_68 (ML_delay l hw) ⟨(Nat.le_of_ble_eq_true rfl), (Nat.le_of_ble_eq_true rfl)⟩ rfl (Nat.le_of_ble_eq_true rfl) dL_text_99 ⟨show 13 + 0 ≤ 260 from by omega, show 1670 + 0 ≤ 35166 from by omega⟩ rfl) (fun r50 σ49 hw => ?_)
  refine z_callAr hG (z_runV (As := [.int r50]) (st := []) hG k_L_82 (MJ4_append_bf812 l hr48 hw) ⟨(Nat.le_of_ble_eq_true rfl), (Nat.le_of_ble_eq_true rfl)⟩ hr48 (T := TJ4) (N := 4) rfl (by decide) rfl (Nat.le_of_ble_eq_true rfl) dL_text_102 ⟨show 13 + 1 ≤ 260 from by omega, show 1670 + 150 ≤ 35166 from by omega⟩ rfl) (fun Y51 r52 σ51 hx51 hr52 hw => ?_)
  refine zwiden (k := 14) (n := 1820) (show 13 + 1 ≤ 14 from by omega) (show 1670 + 150 ≤ 1820 from by omega) ?_
  refine zlv (lv' := [(4, .ref (za Y51 a13)), (3, .int r12), (2, .int x3), (0, .ref (E.2.2.2 1002)), (1, .int v1)]) (by simp only [hx51.a ha13]) ?_
  have ha13 := hx51.T ha13
  have hx := hx.tr hx51
  refine z_ldcs (i := 16) (tx := ";correct ") hG (by decide +kernel) dL_text_105 ?_
  have hq53 : 16 < zS_n := by decide
  refine z_callAr hG (z_runV (As := [.ref (E.2.2.1 16)]) (st := []) hG k_L_79 (MJ4_append_15ec4 l hr52 hq53 hw) ⟨(Nat.le_of_ble_eq_true rfl), (Nat.le_of_ble_eq_true rfl)⟩ hr52 (T := TJ4) (N := 4) rfl (by decide) rfl (Nat.le_of_ble_eq_true rfl) dL_text_107 ⟨show 14 + 1 ≤ 260 from by omega, show 1820 + 150 ≤ 35166 from by omega⟩ rfl) (fun Y54 r55 σ54 hx54 hr55 hw => ?_)
  refine zwiden (k := 15) (n := 1970) (show 14 + 1 ≤ 15 from by omega) (show 1820 + 150 ≤ 1970 from by omega) ?_
  refine zlv (lv' := [(4, .ref (za Y54 a13)), (3, .int r12), (2, .int x3), (0, .ref (E.2.2.2 1002)), (1, .int v1)]) (by simp only [hx54.a ha13]) ?_
  have ha13 := hx54.T ha13
  have hx := hx.tr hx54
  refine z_aload_n hG dL_text_110 rfl 3 rfl ?_
  refine z_calli hG (z_runS (As := [.ref (E.2.2.2 1002)]) (st := [.ref (za Y54 r55)]) hG k_L_91 (ML_correct l hw) ⟨(Nat.le_of_ble_eq_true rfl), (Nat.le_of_ble_eq_true rfl)⟩ rfl (Nat.le_of_ble_eq_true rfl) dL_text_111 ⟨show 15 + 0 ≤ 260 from by omega, show 1970 + 0 ≤ 35166 from by omega⟩ rfl) (fun r57 σ56 hw => ?_)
  refine z_callAr hG (z_runV (As := [.int r57]) (st := []) hG k_L_82 (MJ4_append_bf812 l hr55 hw) ⟨(Nat.le_of_ble_eq_true rfl), (Nat.le_of_ble_eq_true rfl)⟩ hr55 (T := TJ4) (N := 4) rfl (by decide) rfl (Nat.le_of_ble_eq_true rfl) dL_text_114 ⟨show 15 + 1 ≤ 260 from by omega, show 1970 + 150 ≤ 35166 from by omega⟩ rfl) (fun Y58 r59 σ58 hx58 hr59 hw => ?_)
  refine zwiden (k := 16) (n := 2120) (show 15 + 1 ≤ 16 from by omega) (show 1970 + 150 ≤ 2120 from by omega) ?_
  refine zlv (lv' := [(4, .ref (za Y58 a13)), (3, .int r12), (2, .int x3), (0, .ref (E.2.2.2 1002)), (1, .int v1)]) (by simp only [hx58.a ha13]) ?_
  have ha13 := hx58.T ha13
  have hx := hx.tr hx58
  refine z_ldcs (i := 17) (tx := ";message 0") hG (by decide +kernel) dL_text_117 ?_
  have hq60 : 17 < zS_n := by decide
  refine z_callAr hG (z_runV (As := [.ref (E.2.2.1 17)]) (st := []) hG k_L_79 (MJ4_append_15ec4 l hr59 hq60 hw) ⟨(Nat.le_of_ble_eq_true rfl), (Nat.le_of_ble_eq_true rfl)⟩ hr59 (T := TJ4) (N := 4) rfl (by decide) rfl (Nat.le_of_ble_eq_true rfl) dL_text_119 ⟨show 16 + 1 ≤ 260 from by omega, show 2120 + 150 ≤ 35166 from by omega⟩ rfl) (fun Y61 r62 σ61 hx61 hr62 hw => ?_)
  refine zwiden (k := 17) (n := 2270) (show 16 + 1 ≤ 17 from by omega) (show 2120 + 150 ≤ 2270 from by omega) ?_
  refine zlv (lv' := [(4, .ref (za Y61 a13)), (3, .int r12), (2, .int x3), (0, .ref (E.2.2.2 1002)), (1, .int v1)]) (by simp only [hx61.a ha13]) ?_
  have ha13 := hx61.T ha13
  have hx := hx.tr hx61
  refine z_pop hG dL_text_122 rfl ?_
  refine z_iconst (v := 0) hG dL_text_123 (by decide) ?_
  refine z_istore (lv' := [(5, .int 0), (4, .ref (za Y61 a13)), (3, .int r12), (2, .int x3), (0, .ref (E.2.2.2 1002)), (1, .int v1)]) hG dL_text_124 (by decide) rfl ?_
  obtain ⟨n63, hn63, hw⟩ := hw
  refine zpick [4, 1, 0] (lv' := [(0, .ref (E.2.2.2 1002)), (4, .ref (za Y61 a13)), (5, .int 0)]) rfl ?_
  refine zwiden (k := 17) (n := 2270) (by omega) (by omega) ?_
  exact BL_text_126 hG n63 a13 0 Y61 σ61 _ _ hw hx ha13 (by omega) (by omega)
-- TypeWheelTelegraphLaw.lineOf([II)Ljava/lang/String;
def wL_lineOf_24 (L : Nat) (xs : Nat → Int32) (Q : Nat → zSp → zS → Prop) (v1 : Int32) (S : zSp) (σ : zS) : Prop := wL_line S σ L xs v1 (fun r2 S1 σ1 => Q (2 * r2 + 1) S1 σ1)
def wL_lineOf (S : zSp) (σ : zS) (L : Nat) (xs : Nat → Int32) (v1 : Int32) (Q : Nat → zSp → zS → Prop) : Prop := wL_lines (zSl S) σ L xs (fun r2 σ1 => ((r2 = 1 → wL_line S σ1 L xs 0 (fun r4 S3 σ3 => wJ0_isEmpty_aae02_r (zSl S3) σ3 r4 (fun r6 σ5 => ((r6 = 0 → wL_lineOf_24 L xs Q v1 S3 σ5) ∧ (¬ r6 = 0 → Q (2 * 24) S3 σ5))))) ∧ (¬ r2 = 1 → wL_lineOf_24 L xs Q v1 S σ1)))
abbrev rL_lineOf : Room := { frames := 7, cells := 24, slots := 2748, locals := 186 }
set_option maxRecDepth 100000 in
set_option maxHeartbeats 4000000 in
theorem BL_lineOf_24 {l : Launch} {E : zE} {Y0 : zY} {p : Program} {e : Env} {s : State} {m : MethodId} {args : Array Value} {below : List Frame} {meth : Method} {c : Code} (hG : zG E p l s m args meth c cL_lineOf 2 RL (some (.object "java/lang/String")) (zA Y0 s.heap.size)) {Q : Nat → zSp → zS → Prop} : ∀ (v1 : Int32) (Y : zY) (σ : zS) (cl sl : Nat), wL_lineOf_24 (zScL E) (zScX E) Q v1 (zsp Y) σ → zext Y0 Y → cl + (12) ≤ 24 → sl + (1374) ≤ 2748 → WW E Y σ p l e rL_lineOf s m args below meth c (zA Y0 s.heap.size) 2 cl sl (MQ below (va_Qr (fun (u : Nat × zY × zS) => Q u.1 (zsp u.2.1) u.2.2) (zBAq E Y0 s.heap.size) (zA Y0 s.heap.size)) args s 24 2748 (zA Y0 s.heap.size)) [(0, .ref (E.2.2.2 1002)), (1, .int v1)] 24 [] := by
  intro v1 Y σ cl sl hw hx  hcl hsl
  unfold wL_lineOf_24 at hw
  refine z_aload_n hG dL_lineOf_24 rfl 0 rfl ?_
  refine z_iload_n hG dL_lineOf_25 rfl 1 rfl ?_
  refine z_callAr hG (z_runS (As := [.ref (E.2.2.2 1002), .int v1]) (st := []) hG k_L_101 (ML_line l hw) ⟨(Nat.le_of_ble_eq_true rfl), (Nat.le_of_ble_eq_true rfl)⟩ rfl (Nat.le_of_ble_eq_true rfl) dL_lineOf_26 ⟨show cl + 0 + 12 ≤ 24 from by omega, show sl + 0 + 1374 ≤ 2748 from by omega⟩ rfl) (fun Y1 r2 σ1 hx1 hr2 hw => ?_)
  refine zwiden (k := cl + 12) (n := sl + 1374) (show cl + 0 + 12 ≤ cl + 12 from by omega) (show sl + 0 + 1374 ≤ sl + 1374 from by omega) ?_
  have hx := hx.tr hx1
  refine zst (st' := [.ref (zSa E Y1 (2 * r2 + 1))]) (by rw [zSa_r]) ?_
  refine zwiden (k := 24) (n := 2748) (by omega) (by omega) ?_
  exact z_aretQ hG hx rfl (Or.inl ⟨_, rfl⟩) (zSq_r hr2) dL_lineOf_29 hw
set_option maxRecDepth 100000 in
set_option maxHeartbeats 4000000 in
theorem ML_lineOf (l : Launch) {E : zE} {Y : zY} {σ : zS} {v1 : Int32} {Q : Nat → zSp → zS → Prop} (hw : wL_lineOf (zsp Y) σ (zScL E) (zScX E) v1 Q) : ∀ sz, Met l yL_lineOf (zw yL_lineOf cL_lineOf 2 (some (.object "java/lang/String"))) rL_lineOf (zPc E Y σ sz [.ref (E.2.2.2 1002), .int v1]) (va_Qr (fun (u : Nat × zY × zS) => Q u.1 (zsp u.2.1) u.2.2) (zBAq E Y sz) (zA Y sz)) 24 2748 (zA Y sz) := by
  refine z_met (own := RL) (Qc := fun sz => va_Qr (fun (u : Nat × zY × zS) => Q u.1 (zsp u.2.1) u.2.2) (zBAq E Y sz) (zA Y sz)) (by decide +kernel) rfl (Nat.le_of_ble_eq_true rfl) ?_
  intro p e s m args below meth c hG hinit
  unfold wL_lineOf at hw
  refine zlv (lv' := [(0, .ref (E.2.2.2 1002)), (1, .int v1)]) rfl ?_
  have hx : zext Y Y := zext.rf
  refine z_aload_n hG dL_lineOf_0 rfl 0 rfl ?_
  refine z_calli hG (z_runS (As := [.ref (E.2.2.2 1002)]) (st := []) hG k_L_96 (ML_lines l hw) ⟨(Nat.le_of_ble_eq_true rfl), (Nat.le_of_ble_eq_true rfl)⟩ rfl (Nat.le_of_ble_eq_true rfl) dL_lineOf_1 ⟨show 0 + 0 ≤ 24 from by omega, show 0 + 0 ≤ 2748 from by omega⟩ rfl) (fun r2 σ1 hw => ?_)
  refine z_iconst (v := 1) hG dL_lineOf_4 (by decide) ?_
  refine z_icmp_ne (tgt := 24) hG dL_lineOf_5 (by decide) (fun c9 => ?_) (fun c9 => ?_)
  · have hw := hw.2 c9
    refine zpick [0, 1] (lv' := [(0, .ref (E.2.2.2 1002)), (1, .int v1)]) rfl ?_
    refine zwiden (k := 0) (n := 0) (by omega) (by omega) ?_
    exact BL_lineOf_24 hG v1 Y σ1 _ _ hw hx  (by omega) (by omega)
  · have hw := hw.1 c9
    refine z_aload_n hG dL_lineOf_8 rfl 0 rfl ?_
    refine z_iconst (v := 0) hG dL_lineOf_9 (by decide) ?_
    refine z_callAr hG (z_runS (As := [.ref (E.2.2.2 1002), .int 0]) (st := []) hG k_L_101 (ML_line l hw) ⟨(Nat.le_of_ble_eq_true rfl), (Nat.le_of_ble_eq_true rfl)⟩ rfl (Nat.le_of_ble_eq_true rfl) dL_lineOf_10 ⟨show 0 + 12 ≤ 24 from by omega, show 0 + 1374 ≤ 2748 from by omega⟩ rfl) (fun Y3 r4 σ3 hx3 hr4 hw => ?_)
    refine zwiden (k := 12) (n := 1374) (show 0 + 12 ≤ 12 from by omega) (show 0 + 1374 ≤ 1374 from by omega) ?_
    have hx := hx.tr hx3
    refine z_calli hG (z_runV (As := []) (st := []) hG k_L_105 (MJ0_isEmpty_aae02_r l hr4 hw) ⟨(Nat.le_of_ble_eq_true rfl), (Nat.le_of_ble_eq_true rfl)⟩ hr4 (T := TJ0) (N := 4) rfl (by decide) rfl (Nat.le_of_ble_eq_true rfl) dL_lineOf_13 ⟨show 12 + 0 ≤ 24 from by omega, show 1374 + 0 ≤ 2748 from by omega⟩ rfl) (fun r6 σ5 hw => ?_)
    refine z_if_eq (tgt := 24) hG dL_lineOf_16 (by decide) (fun c8 => ?_) (fun c8 => ?_)
    · have hw := hw.1 c8
      refine zpick [0, 1] (lv' := [(0, .ref (E.2.2.2 1002)), (1, .int v1)]) rfl ?_
      refine zwiden (k := 12) (n := 1374) (by omega) (by omega) ?_
      exact BL_lineOf_24 hG v1 Y3 σ5 _ _ hw hx  (by omega) (by omega)
    · have hw := hw.2 c8
      refine z_ldcs (i := 24) (tx := "a") hG (by decide +kernel) dL_lineOf_19 ?_
      have hq7 : 24 < zS_n := by decide
      refine z_goto (tgt := 29) hG dL_lineOf_21 (by decide) ?_
      refine zst (st' := [.ref (zSa E Y3 (2 * 24))]) (by rw [zSa_s]) ?_
      refine zwiden (k := 24) (n := 2748) (by omega) (by omega) ?_
      exact z_aretQ hG hx rfl (Or.inl ⟨_, rfl⟩) (zSq_s hq7) dL_lineOf_29 hw
-- TypeWheelTelegraphLaw.areWheels(LTypeWheelTelegraph;[II)Z
def wL_areWheels_265 (ln : Nat → Nat) (L : Nat) (xs : Nat → Int32) (Q : Int32 → zS → Prop) (t0 : Nat) (σ : zS) : Prop := wX11_pulses ln σ t0 (fun r2 σ1 => ((r2 = 0 → wX11_underWay ln σ1 t0 (fun r4 σ3 => ((r4 = 0 → wX11_silence ln σ3 t0 (fun r6 σ5 => ((r6 = 0 → wX11_nextPulseIn ln σ5 t0 (fun r8 σ7 => ((r8 = (-1) → Q 1 σ7) ∧ (¬ r8 = (-1) → Q 0 σ7)))) ∧ (¬ r6 = 0 → Q 0 σ5)))) ∧ (¬ r4 = 0 → Q 0 σ3)))) ∧ (¬ r2 = 0 → Q 0 σ1)))
def wL_areWheels_42 (ln : Nat → Nat) (L : Nat) (xs : Nat → Int32) (Q : Int32 → zS → Prop) : Nat → Nat → Int32 → Int32 → Int32 → Int32 → Int32 → Int32 → zS → Prop
  | 0, _, _, _, _, _, _, _, _ => False
  | n + 1, t0, v2, v3, v4, v5, v6, v7, σ => (((nI L) ≤ v7 → wL_areWheels_265 ln L xs Q t0 σ) ∧ (¬ (nI L) ≤ v7 → ((14 ≤ v7 → wL_areWheels_265 ln L xs Q t0 σ) ∧ (¬ 14 ≤ v7 → vp_in v7 L ∧ ∀ x2 : Int32, x2 = xs v7.toNatClampNeg → wL_part ln σ x2 60 (fun r4 σ3 => ∀ x5 : Int32, x5 = 1 + r4 → wX11_phase ln σ3 t0 0 (fun r7 σ6 => ((r7 = v4 → wX11_phase ln σ6 t0 1 (fun r9 σ8 => ((r9 = v5 → wX11_time ln σ8 t0 (fun r11 σ10 => ((r11 = v6 → wX11_rate ln σ10 t0 0 (fun r13 σ12 => wL_rate ln σ12 L xs (fun r15 σ14 => ((r13 = r15 → wX11_rate ln σ14 t0 1 (fun r17 σ16 => ((r17 = v2 → wX11_facing ln σ16 t0 0 (fun r19 σ18 => wL_positions ln σ18 L xs (fun r21 σ20 => ∀ x22 : Int32, x22 = (v4 + 500) / 1000 → ¬ r21 = 0 ∧ ((r19 = (x22 - x22 / r21 * r21) → wX11_facing ln σ20 t0 1 (fun r25 σ24 => wL_positions ln σ24 L xs (fun r27 σ26 => ∀ x28 : Int32, x28 = (v5 + 500) / 1000 → ¬ r27 = 0 ∧ ((r25 = (x28 - x28 / r27 * r27) → wX11_lead ln σ26 t0 (fun r31 σ30 => ((r31 < ((-v3) / 2) → Q 0 σ30) ∧ (¬ r31 < ((-v3) / 2) → (((v3 / 2) ≤ r31 → Q 0 σ30) ∧ (¬ (v3 / 2) ≤ r31 → wL_delay ln σ30 L xs (fun r33 σ32 => ∀ x34 : Int32, x34 = r31 - ((v5 + (r33 * v2)) - v4) → wJ9_floorMod_7cf53 ln σ32 x34 v3 (fun r36 σ35 => ((r36 = 0 → wX11_run ln σ35 t0 x5 (fun r38 σ37 => ((r38 = 0 → wL_rate ln σ37 L xs (fun r40 σ39 => ∀ x41 : Int32, x41 = v4 + (x5 * r40) → ¬ v3 = 0 ∧ ∀ x43 : Int32, x43 = x41 - x41 / v3 * v3 → ∀ x44 : Int32, x44 = v5 + (x5 * v2) → ¬ v3 = 0 ∧ ∀ x46 : Int32, x46 = x44 - x44 / v3 * v3 → ∀ x47 : Int32, x47 = v6 + x5 → ∀ x48 : Int32, x48 = v7 + 1 → (wL_areWheels_42 ln L xs Q n) t0 v2 v3 x43 x46 x47 x48 σ39)) ∧ (¬ r38 = 0 → Q 0 σ37)))) ∧ (¬ r36 = 0 → Q 0 σ35)))))))))) ∧ (¬ r25 = (x28 - x28 / r27 * r27) → Q 0 σ26))))) ∧ (¬ r19 = (x22 - x22 / r21 * r21) → Q 0 σ20))))) ∧ (¬ r17 = v2 → Q 0 σ16)))) ∧ (¬ r13 = r15 → Q 0 σ14))))) ∧ (¬ r11 = v6 → Q 0 σ10)))) ∧ (¬ r9 = v5 → Q 0 σ8)))) ∧ (¬ r7 = v4 → Q 0 σ6))))))))
def wL_areWheels (ln : Nat → Nat) (σ : zS) (L : Nat) (xs : Nat → Int32) (t0 : Nat) (v2 : Int32) (Q : Int32 → zS → Prop) : Prop := wL_positions ln σ L xs (fun r2 σ1 => ∀ x3 : Int32, x3 = 1000 * r2 → wL_phase ln σ1 L xs (fun r5 σ4 => wL_phase ln σ4 L xs (fun r7 σ6 => wL_delay ln σ6 L xs (fun r9 σ8 => wL_rate ln σ8 L xs (fun r11 σ10 => ∀ x12 : Int32, x12 = r7 - (r9 * r11) → wJ9_floorMod_7cf53 ln σ10 x12 x3 (fun r14 σ13 => ∃ n15 : Nat, wL_areWheels_42 ln L xs Q n15 t0 v2 x3 r5 r14 0 8 σ13))))))
abbrev rL_areWheels : Room := { frames := 9, cells := 0, slots := 0, locals := 197 }
set_option maxRecDepth 100000 in
set_option maxHeartbeats 4000000 in
theorem BL_areWheels_265 {l : Launch} {E : zE} {Y : zY} {p : Program} {e : Env} {s : State} {m : MethodId} {args : Array Value} {below : List Frame} {meth : Method} {c : Code} (hG : zG E p l s m args meth c cL_areWheels 10 RL (some .boolean) (zA Y s.heap.size)) {Q : Int32 → zS → Prop} : ∀ (t0 : Nat) (σ : zS), wL_areWheels_265 (zln Y) (zScL E) (zScX E) Q t0 σ → zT Y 11 t0 → WW E Y σ p l e rL_areWheels s m args below meth c (zA Y s.heap.size) 10 0 0 (MQ below (va_Qi Q (zB E Y s.heap.size) (zA Y s.heap.size)) args s 0 0 (zA Y s.heap.size)) [(0, .ref (za Y t0))] 265 [] := by
  intro t0 σ hw h0
  unfold wL_areWheels_265 at hw
  refine z_aload_n hG dL_areWheels_265 rfl 0 rfl ?_
  refine z_calli hG (z_runV (As := []) (st := []) hG k_L_130 (MX11_pulses l h0 hw) ⟨(Nat.le_of_ble_eq_true rfl), (Nat.le_of_ble_eq_true rfl)⟩ h0 (T := TX11) (N := 9) rfl (by decide) rfl (Nat.le_of_ble_eq_true rfl) dL_areWheels_266 ⟨Nat.zero_le _, Nat.zero_le _⟩ rfl) (fun r2 σ1 hw => ?_)
  refine z_if_ne (tgt := 298) hG dL_areWheels_269 (by decide) (fun c12 => ?_) (fun c12 => ?_)
  · have hw := hw.2 c12
    refine z_iconst (v := 0) hG dL_areWheels_298 (by decide) ?_
    exact z_iret hG rfl (by decide +kernel) dL_areWheels_299 hw
  · have hw := hw.1 c12
    refine z_aload_n hG dL_areWheels_272 rfl 0 rfl ?_
    refine z_calli hG (z_runV (As := []) (st := []) hG k_L_133 (MX11_underWay l h0 hw) ⟨(Nat.le_of_ble_eq_true rfl), (Nat.le_of_ble_eq_true rfl)⟩ h0 (T := TX11) (N := 9) rfl (by decide) rfl (Nat.le_of_ble_eq_true rfl) dL_areWheels_273 ⟨Nat.zero_le _, Nat.zero_le _⟩ rfl) (fun r4 σ3 hw => ?_)
    refine z_if_ne (tgt := 298) hG dL_areWheels_276 (by decide) (fun c11 => ?_) (fun c11 => ?_)
    · have hw := hw.2 c11
      refine z_iconst (v := 0) hG dL_areWheels_298 (by decide) ?_
      exact z_iret hG rfl (by decide +kernel) dL_areWheels_299 hw
    · have hw := hw.1 c11
      refine z_aload_n hG dL_areWheels_279 rfl 0 rfl ?_
      refine z_calli hG (z_runV (As := []) (st := []) hG k_L_136 (MX11_silence l h0 hw) ⟨(Nat.le_of_ble_eq_true rfl), (Nat.le_of_ble_eq_true rfl)⟩ h0 (T := TX11) (N := 9) rfl (by decide) rfl (Nat.le_of_ble_eq_true rfl) dL_areWheels_280 ⟨Nat.zero_le _, Nat.zero_le _⟩ rfl) (fun r6 σ5 hw => ?_)
      refine z_if_ne (tgt := 298) hG dL_areWheels_283 (by decide) (fun c10 => ?_) (fun c10 => ?_)
      · have hw := hw.2 c10
        refine z_iconst (v := 0) hG dL_areWheels_298 (by decide) ?_
        exact z_iret hG rfl (by decide +kernel) dL_areWheels_299 hw
      · have hw := hw.1 c10
        refine z_aload_n hG dL_areWheels_286 rfl 0 rfl ?_
        refine z_calli hG (z_runV (As := []) (st := []) hG k_L_139 (MX11_nextPulseIn l h0 hw) ⟨(Nat.le_of_ble_eq_true rfl), (Nat.le_of_ble_eq_true rfl)⟩ h0 (T := TX11) (N := 9) rfl (by decide) rfl (Nat.le_of_ble_eq_true rfl) dL_areWheels_287 ⟨Nat.zero_le _, Nat.zero_le _⟩ rfl) (fun r8 σ7 hw => ?_)
        refine z_iconst (v := (-1)) hG dL_areWheels_290 (by decide) ?_
        refine z_icmp_ne (tgt := 298) hG dL_areWheels_291 (by decide) (fun c9 => ?_) (fun c9 => ?_)
        · have hw := hw.2 c9
          refine z_iconst (v := 0) hG dL_areWheels_298 (by decide) ?_
          exact z_iret hG rfl (by decide +kernel) dL_areWheels_299 hw
        · have hw := hw.1 c9
          refine z_iconst (v := 1) hG dL_areWheels_294 (by decide) ?_
          refine z_goto (tgt := 299) hG dL_areWheels_295 (by decide) ?_
          exact z_iret hG rfl (by decide +kernel) dL_areWheels_299 hw
set_option maxRecDepth 100000 in
set_option maxHeartbeats 4000000 in
theorem BL_areWheels_42 {l : Launch} {E : zE} {Y : zY} {p : Program} {e : Env} {s : State} {m : MethodId} {args : Array Value} {below : List Frame} {meth : Method} {c : Code} (hG : zG E p l s m args meth c cL_areWheels 10 RL (some .boolean) (zA Y s.heap.size)) {Q : Int32 → zS → Prop} : ∀ (n : Nat) (t0 : Nat) (v2 : Int32) (v3 : Int32) (v4 : Int32) (v5 : Int32) (v6 : Int32) (v7 : Int32) (σ : zS), wL_areWheels_42 (zln Y) (zScL E) (zScX E) Q n t0 v2 v3 v4 v5 v6 v7 σ → zT Y 11 t0 → WW E Y σ p l e rL_areWheels s m args below meth c (zA Y s.heap.size) 10 0 0 (MQ below (va_Qi Q (zB E Y s.heap.size) (zA Y s.heap.size)) args s 0 0 (zA Y s.heap.size)) [(0, .ref (za Y t0)), (1, .ref (E.2.2.2 1002)), (2, .int v2), (3, .int v3), (4, .int v4), (5, .int v5), (6, .int v6), (7, .int v7)] 42 [] := by
  intro n
  induction n with
  | zero => intro t0 v2 v3 v4 v5 v6 v7 σ hw
            exact hw.elim
  | succ n ih =>
    intro t0 v2 v3 v4 v5 v6 v7 σ hw h0
    rw [wL_areWheels_42] at hw
    refine z_iload hG dL_areWheels_42 7 rfl ?_
    refine z_aload_n hG dL_areWheels_44 rfl 1 rfl ?_
    refine z_scrlen hG dL_areWheels_45 ?_
    refine z_icmp_ge (tgt := 265) hG dL_areWheels_46 (by decide) (fun c61 => ?_) (fun c61 => ?_)
    · have hw := hw.1 c61
      refine zpick [0] (lv' := [(0, .ref (za Y t0))]) rfl ?_
      exact BL_areWheels_265 hG t0 σ hw h0
    · have hw := hw.2 c61
      refine z_iload hG dL_areWheels_49 7 rfl ?_
      refine z_bipush (v := 14) hG dL_areWheels_51 (by decide) ?_
      refine z_icmp_ge (tgt := 265) hG dL_areWheels_53 (by decide) (fun c60 => ?_) (fun c60 => ?_)
      · have hw := hw.1 c60
        refine zpick [0] (lv' := [(0, .ref (za Y t0))]) rfl ?_
        exact BL_areWheels_265 hG t0 σ hw h0
      · have hw := hw.2 c60
        refine z_iconst (v := 1) hG dL_areWheels_56 (by decide) ?_
        refine z_aload_n hG dL_areWheels_57 rfl 1 rfl ?_
        refine z_iload hG dL_areWheels_58 7 rfl ?_
        obtain ⟨q1, hw⟩ := hw
        refine z_scrld hG q1 dL_areWheels_60 ?_
        refine z_bipush (v := 60) hG dL_areWheels_61 (by decide) ?_
        obtain ⟨x2, ex2⟩ : ∃ y : Int32, y = (zScX E) v7.toNatClampNeg := ⟨_, rfl⟩
        refine zst (st' := [.int 60, .int x2, .int 1]) (by rw [ex2]) ?_
        have hw := hw x2 ex2
        refine z_calli hG (z_runS (As := [.int x2, .int 60]) (st := [.int 1]) hG k_L_42 (ML_part l hw) ⟨(Nat.le_of_ble_eq_true rfl), (Nat.le_of_ble_eq_true rfl)⟩ rfl (Nat.le_of_ble_eq_true rfl) dL_areWheels_63 ⟨Nat.zero_le _, Nat.zero_le _⟩ rfl) (fun r4 σ3 hw => ?_)
        refine z_iadd hG dL_areWheels_66 ?_
        refine z_topi (fun x5 ex5 => ?_)
        have hw := hw x5 ex5
        refine z_istore (lv' := [(8, .int x5), (0, .ref (za Y t0)), (1, .ref (E.2.2.2 1002)), (2, .int v2), (3, .int v3), (4, .int v4), (5, .int v5), (6, .int v6), (7, .int v7)]) hG dL_areWheels_67 (by decide) rfl ?_
        refine z_aload_n hG dL_areWheels_69 rfl 1 rfl ?_
        refine z_iconst (v := 0) hG dL_areWheels_70 (by decide) ?_
        refine z_calli hG (z_runV (As := [.int 0]) (st := []) hG k_L_113 (MX11_phase l h0 hw) ⟨(Nat.le_of_ble_eq_true rfl), (Nat.le_of_ble_eq_true rfl)⟩ h0 (T := TX11) (N := 9) rfl (by decide) rfl (Nat.le_of_ble_eq_true rfl) dL_areWheels_71 ⟨Nat.zero_le _, Nat.zero_le _⟩ rfl) (fun r7 σ6 hw => ?_)
        refine z_iload hG dL_areWheels_74 5 rfl ?_
        refine z_icmp_ne (tgt := 119) hG dL_areWheels_76 (by decide) (fun c59 => ?_) (fun c59 => ?_)
        · have hw := hw.2 c59
          refine z_iconst (v := 0) hG dL_areWheels_119 (by decide) ?_
          exact z_iret hG rfl (by decide +kernel) dL_areWheels_120 hw
        · have hw := hw.1 c59
          refine z_aload_n hG dL_areWheels_79 rfl 1 rfl ?_
          refine z_iconst (v := 1) hG dL_areWheels_80 (by decide) ?_
          refine z_calli hG (z_runV (As := [.int 1]) (st := []) hG k_L_113 (MX11_phase l h0 hw) ⟨(Nat.le_of_ble_eq_true rfl), (Nat.le_of_ble_eq_true rfl)⟩ h0 (T := TX11) (N := 9) rfl (by decide) rfl (Nat.le_of_ble_eq_true rfl) dL_areWheels_81 ⟨Nat.zero_le _, Nat.zero_le _⟩ rfl) (fun r9 σ8 hw => ?_)
          refine z_iload hG dL_areWheels_84 6 rfl ?_
          refine z_icmp_ne (tgt := 119) hG dL_areWheels_86 (by decide) (fun c58 => ?_) (fun c58 => ?_)
          · have hw := hw.2 c58
            refine z_iconst (v := 0) hG dL_areWheels_119 (by decide) ?_
            exact z_iret hG rfl (by decide +kernel) dL_areWheels_120 hw
          · have hw := hw.1 c58
            refine z_aload_n hG dL_areWheels_89 rfl 1 rfl ?_
            refine z_calli hG (z_runV (As := []) (st := []) hG k_L_116 (MX11_time l h0 hw) ⟨(Nat.le_of_ble_eq_true rfl), (Nat.le_of_ble_eq_true rfl)⟩ h0 (T := TX11) (N := 9) rfl (by decide) rfl (Nat.le_of_ble_eq_true rfl) dL_areWheels_90 ⟨Nat.zero_le _, Nat.zero_le _⟩ rfl) (fun r11 σ10 hw => ?_)
            refine z_iload hG dL_areWheels_93 7 rfl ?_
            refine z_icmp_ne (tgt := 119) hG dL_areWheels_95 (by decide) (fun c57 => ?_) (fun c57 => ?_)
            · have hw := hw.2 c57
              refine z_iconst (v := 0) hG dL_areWheels_119 (by decide) ?_
              exact z_iret hG rfl (by decide +kernel) dL_areWheels_120 hw
            · have hw := hw.1 c57
              refine z_aload_n hG dL_areWheels_98 rfl 1 rfl ?_
              refine z_iconst (v := 0) hG dL_areWheels_99 (by decide) ?_
              refine z_calli hG (z_runV (As := [.int 0]) (st := []) hG k_L_119 (MX11_rate l h0 hw) ⟨(Nat.le_of_ble_eq_true rfl), (Nat.le_of_ble_eq_true rfl)⟩ h0 (T := TX11) (N := 9) rfl (by decide) rfl (Nat.le_of_ble_eq_true rfl) dL_areWheels_100 ⟨Nat.zero_le _, Nat.zero_le _⟩ rfl) (fun r13 σ12 hw => ?_)
              refine z_aload_n hG dL_areWheels_103 rfl 2 rfl ?_
              refine z_calli hG (z_runS (As := [.ref (E.2.2.2 1002)]) (st := [.int r13]) hG k_L_71 (ML_rate l hw) ⟨(Nat.le_of_ble_eq_true rfl), (Nat.le_of_ble_eq_true rfl)⟩ rfl (Nat.le_of_ble_eq_true rfl) dL_areWheels_104 ⟨Nat.zero_le _, Nat.zero_le _⟩ rfl) (fun r15 σ14 hw => ?_)
              refine z_icmp_ne (tgt := 119) hG dL_areWheels_107 (by decide) (fun c56 => ?_) (fun c56 => ?_)
              · have hw := hw.2 c56
                refine z_iconst (v := 0) hG dL_areWheels_119 (by decide) ?_
                exact z_iret hG rfl (by decide +kernel) dL_areWheels_120 hw
              · have hw := hw.1 c56
                refine z_aload_n hG dL_areWheels_110 rfl 1 rfl ?_
                refine z_iconst (v := 1) hG dL_areWheels_111 (by decide) ?_
                refine z_calli hG (z_runV (As := [.int 1]) (st := []) hG k_L_119 (MX11_rate l h0 hw) ⟨(Nat.le_of_ble_eq_true rfl), (Nat.le_of_ble_eq_true rfl)⟩ h0 (T := TX11) (N := 9) rfl (by decide) rfl (Nat.le_of_ble_eq_true rfl) dL_areWheels_112 ⟨Nat.zero_le _, Nat.zero_le _⟩ rfl) (fun r17 σ16 hw => ?_)
                refine z_iload_n hG dL_areWheels_115 rfl 3 rfl ?_
                refine z_icmp_eq (tgt := 121) hG dL_areWheels_116 (by decide) (fun c55 => ?_) (fun c55 => ?_)
                · have hw := hw.1 c55
                  refine z_aload_n hG dL_areWheels_121 rfl 1 rfl ?_
                  refine z_iconst (v := 0) hG dL_areWheels_122 (by decide) ?_
                  refine z_calli hG (z_runV (As := [.int 0]) (st := []) hG k_L_121 (MX11_facing l h0 hw) ⟨(Nat.le_of_ble_eq_true rfl), (Nat.le_of_ble_eq_true rfl)⟩ h0 (T := TX11) (N := 9) rfl (by decide) rfl (Nat.le_of_ble_eq_true rfl) dL_areWheels_123 ⟨Nat.zero_le _, Nat.zero_le _⟩ rfl) (fun r19 σ18 hw => ?_)
                  refine z_iload hG dL_areWheels_126 5 rfl ?_
                  refine z_sipush (v := 500) hG dL_areWheels_128 (by decide) ?_
                  refine z_iadd hG dL_areWheels_131 ?_
                  refine z_sipush (v := 1000) hG dL_areWheels_132 (by decide) ?_
                  refine z_idiv hG dL_areWheels_135 (by decide) ?_
                  refine z_aload_n hG dL_areWheels_136 rfl 2 rfl ?_
                  refine z_calli hG (z_runS (As := [.ref (E.2.2.2 1002)]) (st := [.int ((v4 + 500) / 1000), .int r19]) hG k_L_46 (ML_positions l hw) ⟨(Nat.le_of_ble_eq_true rfl), (Nat.le_of_ble_eq_true rfl)⟩ rfl (Nat.le_of_ble_eq_true rfl) dL_areWheels_137 ⟨Nat.zero_le _, Nat.zero_le _⟩ rfl) (fun r21 σ20 hw => ?_)
                  obtain ⟨x22, ex22⟩ : ∃ y : Int32, y = (v4 + 500) / 1000 := ⟨_, rfl⟩
                  refine zst (st' := [.int r21, .int x22, .int r19]) (by rw [ex22]) ?_
                  have hw := hw x22 ex22
                  obtain ⟨q23, hw⟩ := hw
                  refine z_irem hG dL_areWheels_140 q23 ?_
                  refine z_icmp_ne (tgt := 167) hG dL_areWheels_141 (by decide) (fun c54 => ?_) (fun c54 => ?_)
                  · have hw := hw.2 c54
                    refine z_iconst (v := 0) hG dL_areWheels_167 (by decide) ?_
                    exact z_iret hG rfl (by decide +kernel) dL_areWheels_168 hw
                  · have hw := hw.1 c54
                    refine z_aload_n hG dL_areWheels_144 rfl 1 rfl ?_
                    refine z_iconst (v := 1) hG dL_areWheels_145 (by decide) ?_
                    refine z_calli hG (z_runV (As := [.int 1]) (st := []) hG k_L_121 (MX11_facing l h0 hw) ⟨(Nat.le_of_ble_eq_true rfl), (Nat.le_of_ble_eq_true rfl)⟩ h0 (T := TX11) (N := 9) rfl (by decide) rfl (Nat.le_of_ble_eq_true rfl) dL_areWheels_146 ⟨Nat.zero_le _, Nat.zero_le _⟩ rfl) (fun r25 σ24 hw => ?_)
                    refine z_iload hG dL_areWheels_149 6 rfl ?_
                    refine z_sipush (v := 500) hG dL_areWheels_151 (by decide) ?_
                    refine z_iadd hG dL_areWheels_154 ?_
                    refine z_sipush (v := 1000) hG dL_areWheels_155 (by decide) ?_
                    refine z_idiv hG dL_areWheels_158 (by decide) ?_
                    refine z_aload_n hG dL_areWheels_159 rfl 2 rfl ?_
                    refine z_calli hG (z_runS (As := [.ref (E.2.2.2 1002)]) (st := [.int ((v5 + 500) / 1000), .int r25]) hG k_L_46 (ML_positions l hw) ⟨(Nat.le_of_ble_eq_true rfl), (Nat.le_of_ble_eq_true rfl)⟩ rfl (Nat.le_of_ble_eq_true rfl) dL_areWheels_160 ⟨Nat.zero_le _, Nat.zero_le _⟩ rfl) (fun r27 σ26 hw => ?_)
                    obtain ⟨x28, ex28⟩ : ∃ y : Int32, y = (v5 + 500) / 1000 := ⟨_, rfl⟩
                    refine zst (st' := [.int r27, .int x28, .int r25]) (by rw [ex28]) ?_
                    have hw := hw x28 ex28
                    obtain ⟨q29, hw⟩ := hw
                    refine z_irem hG dL_areWheels_163 q29 ?_
                    refine z_icmp_eq (tgt := 169) hG dL_areWheels_164 (by decide) (fun c53 => ?_) (fun c53 => ?_)
                    · have hw := hw.1 c53
                      refine z_aload_n hG dL_areWheels_169 rfl 1 rfl ?_
                      refine z_calli hG (z_runV (As := []) (st := []) hG k_L_124 (MX11_lead l h0 hw) ⟨(Nat.le_of_ble_eq_true rfl), (Nat.le_of_ble_eq_true rfl)⟩ h0 (T := TX11) (N := 9) rfl (by decide) rfl (Nat.le_of_ble_eq_true rfl) dL_areWheels_170 ⟨Nat.zero_le _, Nat.zero_le _⟩ rfl) (fun r31 σ30 hw => ?_)
                      refine z_istore (lv' := [(9, .int r31), (8, .int x5), (0, .ref (za Y t0)), (1, .ref (E.2.2.2 1002)), (2, .int v2), (3, .int v3), (4, .int v4), (5, .int v5), (6, .int v6), (7, .int v7)]) hG dL_areWheels_173 (by decide) rfl ?_
                      refine z_iload hG dL_areWheels_175 0 rfl ?_
                      refine z_iload_n hG dL_areWheels_177 rfl 5 rfl ?_
                      refine z_ineg hG dL_areWheels_178 ?_
                      refine z_iconst (v := 2) hG dL_areWheels_179 (by decide) ?_
                      refine z_idiv hG dL_areWheels_180 (by decide) ?_
                      refine z_icmp_lt (tgt := 214) hG dL_areWheels_181 (by decide) (fun c52 => ?_) (fun c52 => ?_)
                      · have hw := hw.1 c52
                        refine z_iconst (v := 0) hG dL_areWheels_214 (by decide) ?_
                        exact z_iret hG rfl (by decide +kernel) dL_areWheels_215 hw
                      · have hw := hw.2 c52
                        refine z_iload hG dL_areWheels_184 0 rfl ?_
                        refine z_iload_n hG dL_areWheels_186 rfl 5 rfl ?_
                        refine z_iconst (v := 2) hG dL_areWheels_187 (by decide) ?_
                        refine z_idiv hG dL_areWheels_188 (by decide) ?_
                        refine z_icmp_ge (tgt := 214) hG dL_areWheels_189 (by decide) (fun c51 => ?_) (fun c51 => ?_)
                        · have hw := hw.1 c51
                          refine z_iconst (v := 0) hG dL_areWheels_214 (by decide) ?_
                          exact z_iret hG rfl (by decide +kernel) dL_areWheels_215 hw
                        · have hw := hw.2 c51
                          refine z_iload hG dL_areWheels_192 0 rfl ?_
                          refine z_iload hG dL_areWheels_194 7 rfl ?_
                          refine z_aload_n hG dL_areWheels_196 rfl 3 rfl ?_
                          refine z_calli hG (z_runS (As := [.ref (E.2.2.2 1002)]) (st := [.int v5, .int r31]) hG k_L_68 (ML_delay l hw) ⟨(Nat.le_of_ble_eq_true rfl), (Nat.le_of_ble_eq_true rfl)⟩ rfl (Nat.le_of_ble_eq_true rfl) dL_areWheels_197 ⟨Nat.zero_le _, Nat.zero_le _⟩ rfl) (fun r33 σ32 hw => ?_)
                          refine z_iload_n hG dL_areWheels_200 rfl 4 rfl ?_
                          refine z_imul hG dL_areWheels_201 ?_
                          refine z_iadd hG dL_areWheels_202 ?_
                          refine z_iload hG dL_areWheels_203 6 rfl ?_
                          refine z_isub hG dL_areWheels_205 ?_
                          refine z_isub hG dL_areWheels_206 ?_
                          refine z_iload_n hG dL_areWheels_207 rfl 5 rfl ?_
                          obtain ⟨x34, ex34⟩ : ∃ y : Int32, y = r31 - ((v5 + (r33 * v2)) - v4) := ⟨_, rfl⟩
                          refine zst (st' := [.int v3, .int x34]) (by rw [ex34]) ?_
                          have hw := hw x34 ex34
                          refine z_calli hG (z_runS (As := [.int x34, .int v3]) (st := []) hG k_L_74 (MJ9_floorMod_7cf53 l hw) ⟨(Nat.le_of_ble_eq_true rfl), (Nat.le_of_ble_eq_true rfl)⟩ rfl (Nat.le_of_ble_eq_true rfl) dL_areWheels_208 ⟨Nat.zero_le _, Nat.zero_le _⟩ rfl) (fun r36 σ35 hw => ?_)
                          refine z_if_eq (tgt := 216) hG dL_areWheels_211 (by decide) (fun c50 => ?_) (fun c50 => ?_)
                          · have hw := hw.1 c50
                            refine z_aload_n hG dL_areWheels_216 rfl 2 rfl ?_
                            refine z_iload hG dL_areWheels_217 1 rfl ?_
                            refine z_calli hG (z_runV (As := [.int x5]) (st := []) hG k_L_127 (MX11_run l h0 hw) ⟨(Nat.le_of_ble_eq_true rfl), (Nat.le_of_ble_eq_true rfl)⟩ h0 (T := TX11) (N := 9) rfl (by decide) rfl (Nat.le_of_ble_eq_true rfl) dL_areWheels_219 ⟨Nat.zero_le _, Nat.zero_le _⟩ rfl) (fun r38 σ37 hw => ?_)
                            refine z_if_eq (tgt := 227) hG dL_areWheels_222 (by decide) (fun c49 => ?_) (fun c49 => ?_)
                            · have hw := hw.1 c49
                              refine z_iload hG dL_areWheels_227 6 rfl ?_
                              refine z_iload hG dL_areWheels_229 1 rfl ?_
                              refine z_aload_n hG dL_areWheels_231 rfl 3 rfl ?_
                              refine z_calli hG (z_runS (As := [.ref (E.2.2.2 1002)]) (st := [.int x5, .int v4]) hG k_L_71 (ML_rate l hw) ⟨(Nat.le_of_ble_eq_true rfl), (Nat.le_of_ble_eq_true rfl)⟩ rfl (Nat.le_of_ble_eq_true rfl) dL_areWheels_232 ⟨Nat.zero_le _, Nat.zero_le _⟩ rfl) (fun r40 σ39 hw => ?_)
                              refine z_imul hG dL_areWheels_235 ?_
                              refine z_iadd hG dL_areWheels_236 ?_
                              refine z_iload_n hG dL_areWheels_237 rfl 5 rfl ?_
                              obtain ⟨x41, ex41⟩ : ∃ y : Int32, y = v4 + (x5 * r40) := ⟨_, rfl⟩
                              refine zst (st' := [.int v3, .int x41]) (by rw [ex41]) ?_
                              have hw := hw x41 ex41
                              obtain ⟨q42, hw⟩ := hw
                              refine z_irem hG dL_areWheels_238 q42 ?_
                              refine z_topi (fun x43 ex43 => ?_)
                              have hw := hw x43 ex43
                              refine z_istore (lv' := [(4, .int x43), (9, .int r31), (8, .int x5), (0, .ref (za Y t0)), (1, .ref (E.2.2.2 1002)), (2, .int v2), (3, .int v3), (5, .int v5), (6, .int v6), (7, .int v7)]) hG dL_areWheels_239 (by decide) rfl ?_
                              refine z_iload hG dL_areWheels_241 7 rfl ?_
                              refine z_iload hG dL_areWheels_243 2 rfl ?_
                              refine z_iload_n hG dL_areWheels_245 rfl 5 rfl ?_
                              refine z_imul hG dL_areWheels_246 ?_
                              refine z_iadd hG dL_areWheels_247 ?_
                              refine z_iload_n hG dL_areWheels_248 rfl 6 rfl ?_
                              obtain ⟨x44, ex44⟩ : ∃ y : Int32, y = v5 + (x5 * v2) := ⟨_, rfl⟩
                              refine zst (st' := [.int v3, .int x44]) (by rw [ex44]) ?_
                              have hw := hw x44 ex44
                              obtain ⟨q45, hw⟩ := hw
                              refine z_irem hG dL_areWheels_249 q45 ?_
                              refine z_topi (fun x46 ex46 => ?_)
                              have hw := hw x46 ex46
                              refine z_istore (lv' := [(5, .int x46), (4, .int x43), (9, .int r31), (8, .int x5), (0, .ref (za Y t0)), (1, .ref (E.2.2.2 1002)), (2, .int v2), (3, .int v3), (6, .int v6), (7, .int v7)]) hG dL_areWheels_250 (by decide) rfl ?_
                              refine z_iload hG dL_areWheels_252 8 rfl ?_
                              refine z_iload hG dL_areWheels_254 3 rfl ?_
                              refine z_iadd hG dL_areWheels_256 ?_
                              refine z_topi (fun x47 ex47 => ?_)
                              have hw := hw x47 ex47
                              refine z_istore (lv' := [(6, .int x47), (5, .int x46), (4, .int x43), (9, .int r31), (8, .int x5), (0, .ref (za Y t0)), (1, .ref (E.2.2.2 1002)), (2, .int v2), (3, .int v3), (7, .int v7)]) hG dL_areWheels_257 (by decide) rfl ?_
                              obtain ⟨x48, ex48⟩ : ∃ y : Int32, y = v7 + 1 := ⟨_, rfl⟩
                              have hw := hw x48 ex48
                              refine z_iinc (v := x48) (lv' := [(7, .int x48), (6, .int x47), (5, .int x46), (4, .int x43), (9, .int r31), (8, .int x5), (0, .ref (za Y t0)), (1, .ref (E.2.2.2 1002)), (2, .int v2), (3, .int v3)]) hG dL_areWheels_259 9 rfl (by rw [ex48]; rfl) (by decide) rfl ?_
                              refine z_goto (tgt := 42) hG dL_areWheels_262 (by decide) ?_
                              refine zpick [6, 7, 8, 9, 3, 2, 1, 0] (lv' := [(0, .ref (za Y t0)), (1, .ref (E.2.2.2 1002)), (2, .int v2), (3, .int v3), (4, .int x43), (5, .int x46), (6, .int x47), (7, .int x48)]) rfl ?_
                              exact ih t0 v2 v3 x43 x46 x47 x48 σ39 hw h0
                            · have hw := hw.2 c49
                              refine z_iconst (v := 0) hG dL_areWheels_225 (by decide) ?_
                              exact z_iret hG rfl (by decide +kernel) dL_areWheels_226 hw
                          · have hw := hw.2 c50
                            refine z_iconst (v := 0) hG dL_areWheels_214 (by decide) ?_
                            exact z_iret hG rfl (by decide +kernel) dL_areWheels_215 hw
                    · have hw := hw.2 c53
                      refine z_iconst (v := 0) hG dL_areWheels_167 (by decide) ?_
                      exact z_iret hG rfl (by decide +kernel) dL_areWheels_168 hw
                · have hw := hw.2 c55
                  refine z_iconst (v := 0) hG dL_areWheels_119 (by decide) ?_
                  exact z_iret hG rfl (by decide +kernel) dL_areWheels_120 hw
set_option maxRecDepth 100000 in
set_option maxHeartbeats 4000000 in
theorem ML_areWheels (l : Launch) {E : zE} {Y : zY} {σ : zS} {t0 : Nat} {v2 : Int32} (h0 : zT Y 11 t0) {Q : Int32 → zS → Prop} (hw : wL_areWheels (zln Y) σ (zScL E) (zScX E) t0 v2 Q) : ∀ sz, Met l yL_areWheels (zw yL_areWheels cL_areWheels 10 (some .boolean)) rL_areWheels (zPc E Y σ sz [.ref (za Y t0), .ref (E.2.2.2 1002), .int v2]) (va_Qi Q (zB E Y sz) (zA Y sz)) 0 0 (zA Y sz) := by
  refine z_met (own := RL) (Qc := fun sz => va_Qi Q (zB E Y sz) (zA Y sz)) (by decide +kernel) rfl (Nat.le_of_ble_eq_true rfl) ?_
  intro p e s m args below meth c hG hinit
  unfold wL_areWheels at hw
  refine zlv (lv' := [(0, .ref (za Y t0)), (1, .ref (E.2.2.2 1002)), (2, .int v2)]) rfl ?_
  refine z_sipush (v := 1000) hG dL_areWheels_0 (by decide) ?_
  refine z_aload_n hG dL_areWheels_3 rfl 1 rfl ?_
  refine z_calli hG (z_runS (As := [.ref (E.2.2.2 1002)]) (st := [.int 1000]) hG k_L_46 (ML_positions l hw) ⟨(Nat.le_of_ble_eq_true rfl), (Nat.le_of_ble_eq_true rfl)⟩ rfl (Nat.le_of_ble_eq_true rfl) dL_areWheels_4 ⟨Nat.zero_le _, Nat.zero_le _⟩ rfl) (fun r2 σ1 hw => ?_)
  refine z_imul hG dL_areWheels_7 ?_
  refine z_topi (fun x3 ex3 => ?_)
  have hw := hw x3 ex3
  refine z_istore_n (lv' := [(3, .int x3), (0, .ref (za Y t0)), (1, .ref (E.2.2.2 1002)), (2, .int v2)]) hG dL_areWheels_8 rfl (by decide) rfl ?_
  refine z_aload_n hG dL_areWheels_9 rfl 2 rfl ?_
  refine z_calli hG (z_runS (As := [.ref (E.2.2.2 1002)]) (st := []) hG k_L_65 (ML_phase l hw) ⟨(Nat.le_of_ble_eq_true rfl), (Nat.le_of_ble_eq_true rfl)⟩ rfl (Nat.le_of_ble_eq_true rfl) dL_areWheels_10 ⟨Nat.zero_le _, Nat.zero_le _⟩ rfl) (fun r5 σ4 hw => ?_)
  refine z_istore (lv' := [(4, .int r5), (3, .int x3), (0, .ref (za Y t0)), (1, .ref (E.2.2.2 1002)), (2, .int v2)]) hG dL_areWheels_13 (by decide) rfl ?_
  refine z_aload_n hG dL_areWheels_15 rfl 3 rfl ?_
  refine z_calli hG (z_runS (As := [.ref (E.2.2.2 1002)]) (st := []) hG k_L_65 (ML_phase l hw) ⟨(Nat.le_of_ble_eq_true rfl), (Nat.le_of_ble_eq_true rfl)⟩ rfl (Nat.le_of_ble_eq_true rfl) dL_areWheels_16 ⟨Nat.zero_le _, Nat.zero_le _⟩ rfl) (fun r7 σ6 hw => ?_)
  refine z_aload_n hG dL_areWheels_19 rfl 3 rfl ?_
  refine z_calli hG (z_runS (As := [.ref (E.2.2.2 1002)]) (st := [.int r7]) hG k_L_68 (ML_delay l hw) ⟨(Nat.le_of_ble_eq_true rfl), (Nat.le_of_ble_eq_true rfl)⟩ rfl (Nat.le_of_ble_eq_true rfl) dL_areWheels_20 ⟨Nat.zero_le _, Nat.zero_le _⟩ rfl) (fun r9 σ8 hw => ?_)
  refine z_aload_n hG dL_areWheels_23 rfl 3 rfl ?_
  refine z_calli hG (z_runS (As := [.ref (E.2.2.2 1002)]) (st := [.int r9, .int r7]) hG k_L_71 (ML_rate l hw) ⟨(Nat.le_of_ble_eq_true rfl), (Nat.le_of_ble_eq_true rfl)⟩ rfl (Nat.le_of_ble_eq_true rfl) dL_areWheels_24 ⟨Nat.zero_le _, Nat.zero_le _⟩ rfl) (fun r11 σ10 hw => ?_)
  refine z_imul hG dL_areWheels_27 ?_
  refine z_isub hG dL_areWheels_28 ?_
  refine z_iload_n hG dL_areWheels_29 rfl 1 rfl ?_
  obtain ⟨x12, ex12⟩ : ∃ y : Int32, y = r7 - (r9 * r11) := ⟨_, rfl⟩
  refine zst (st' := [.int x3, .int x12]) (by rw [ex12]) ?_
  have hw := hw x12 ex12
  refine z_calli hG (z_runS (As := [.int x12, .int x3]) (st := []) hG k_L_74 (MJ9_floorMod_7cf53 l hw) ⟨(Nat.le_of_ble_eq_true rfl), (Nat.le_of_ble_eq_true rfl)⟩ rfl (Nat.le_of_ble_eq_true rfl) dL_areWheels_30 ⟨Nat.zero_le _, Nat.zero_le _⟩ rfl) (fun r14 σ13 hw => ?_)
  refine z_istore (lv' := [(5, .int r14), (4, .int r5), (3, .int x3), (0, .ref (za Y t0)), (1, .ref (E.2.2.2 1002)), (2, .int v2)]) hG dL_areWheels_33 (by decide) rfl ?_
  refine z_iconst (v := 0) hG dL_areWheels_35 (by decide) ?_
  refine z_istore (lv' := [(6, .int 0), (5, .int r14), (4, .int r5), (3, .int x3), (0, .ref (za Y t0)), (1, .ref (E.2.2.2 1002)), (2, .int v2)]) hG dL_areWheels_36 (by decide) rfl ?_
  refine z_bipush (v := 8) hG dL_areWheels_38 (by decide) ?_
  refine z_istore (lv' := [(7, .int 8), (6, .int 0), (5, .int r14), (4, .int r5), (3, .int x3), (0, .ref (za Y t0)), (1, .ref (E.2.2.2 1002)), (2, .int v2)]) hG dL_areWheels_40 (by decide) rfl ?_
  obtain ⟨n15, hw⟩ := hw
  refine zpick [5, 6, 7, 4, 3, 2, 1, 0] (lv' := [(0, .ref (za Y t0)), (1, .ref (E.2.2.2 1002)), (2, .int v2), (3, .int x3), (4, .int r5), (5, .int r14), (6, .int 0), (7, .int 8)]) rfl ?_
  exact BL_areWheels_42 hG n15 t0 v2 x3 r5 r14 0 8 σ13 hw h0
-- TypeWheelTelegraphLaw.isPath(LTypeWheelTelegraph;[II)Z
def wL_isPath_127 (L : Nat) (xs : Nat → Int32) (Q : Int32 → zSp → zS → Prop) (kb27 : Nat → Int32 → Nat → Int32 → Nat → Int32 → Int32 → Int32 → zSp → zS → Prop) (t0 : Nat) (v2 : Int32) (t3 : Nat) (v4 : Int32) (t5 : Nat) (v6 : Int32) (v7 : Int32) (v8 : Int32) (v9 : Int32) (tw0 : Nat) (vw1 : Int32) (vw2 : Int32) (S : zSp) (σ : zS) : Prop := wX11_character (zSl S) σ tw0 vw1 vw2 (fun r2 σ1 => ((r2 = v9 → ∀ x3 : Int32, x3 = v8 + 1 → kb27 t0 v2 t3 v4 t5 v6 v7 x3 S σ1) ∧ (¬ r2 = v9 → Q 0 S σ1)))
def wL_isPath_106 (L : Nat) (xs : Nat → Int32) (Q : Int32 → zSp → zS → Prop) (kb27 : Nat → Int32 → Nat → Int32 → Nat → Int32 → Int32 → Int32 → zSp → zS → Prop) (t0 : Nat) (v2 : Int32) (t3 : Nat) (v4 : Int32) (t5 : Nat) (v6 : Int32) (v7 : Int32) (v8 : Int32) (v9 : Int32) (v10 : Int32) (tw0 : Nat) (vw1 : Int32) (vw2 : Int32) (vw3 : Int32) (S : zSp) (σ : zS) : Prop := ∀ x1 : Int32, x1 = vw2 + vw3 → vp_in vw1 ((zSl S) tw0) ∧ ∀ σ3 : zS, σ3 = si σ tw0 vw1.toNatClampNeg x1 → ∀ x4 : Int32, x4 = v6 - 1 → vp_in x4 ((zSl S) t5) ∧ ((v10 = 1 → wL_isPath_127 L xs Q kb27 t0 v2 t3 v4 t5 v6 v7 v8 v9 t0 (gi σ3 t5 x4.toNatClampNeg) 1 S σ3) ∧ (¬ v10 = 1 → wL_isPath_127 L xs Q kb27 t0 v2 t3 v4 t5 v6 v7 v8 v9 t0 (gi σ3 t5 x4.toNatClampNeg) 0 S σ3))
def wL_isPath_75 (L : Nat) (xs : Nat → Int32) (Q : Int32 → zSp → zS → Prop) (kb27 : Nat → Int32 → Nat → Int32 → Nat → Int32 → Int32 → Int32 → zSp → zS → Prop) (t0 : Nat) (v2 : Int32) (t3 : Nat) (v4 : Int32) (t5 : Nat) (v6 : Int32) (v8 : Int32) (v9 : Int32) (v10 : Int32) (S : zSp) (σ : zS) : Prop := ∀ x1 : Int32, x1 = v6 + 1 → ((v10 = 1 → wL_isPath_106 L xs Q kb27 t0 v2 t3 v4 t5 x1 v10 v8 v9 v10 t5 v6 2 (v9 - 48) S σ) ∧ (¬ v10 = 1 → wL_isPath_106 L xs Q kb27 t0 v2 t3 v4 t5 x1 v10 v8 v9 v10 t5 v6 2 (v9 - 97) S σ))
def wL_isPath_56 (L : Nat) (xs : Nat → Int32) (Q : Int32 → zSp → zS → Prop) (kb27 : Nat → Int32 → Nat → Int32 → Nat → Int32 → Int32 → Int32 → zSp → zS → Prop) (t0 : Nat) (v2 : Int32) (t3 : Nat) (v4 : Int32) (t5 : Nat) (v6 : Int32) (v7 : Int32) (v8 : Int32) (v9 : Int32) (vw0 : Int32) (S : zSp) (σ : zS) : Prop := ((vw0 = v7 → wL_isPath_75 L xs Q kb27 t0 v2 t3 v4 t5 v6 v8 v9 vw0 S σ) ∧ (¬ vw0 = v7 → ∀ x1 : Int32, x1 = v6 + 1 → vp_in v6 ((zSl S) t5) ∧ ∀ σ3 : zS, σ3 = si σ t5 v6.toNatClampNeg vw0 → wL_isPath_75 L xs Q kb27 t0 v2 t3 v4 t5 x1 v8 v9 vw0 S σ3))
def wL_isPath_247 (L : Nat) (xs : Nat → Int32) (Q : Int32 → zSp → zS → Prop) : Nat → Nat → Int32 → Int32 → Nat → Int32 → Int32 → Int32 → Int32 → zSp → zS → Prop
  | 0, _, _, _, _, _, _, _, _, _, _ => False
  | n + 1, t0, v2, v4, t5, v6, v9, v10, v11, S, σ => ((v6 ≤ v11 → wX11_ticksFor (zSl S) σ t0 0 v2 (fun r2 σ1 => ((r2 = v10 → Q 1 S σ1) ∧ (¬ r2 = v10 → Q 0 S σ1)))) ∧ (¬ v6 ≤ v11 → ∀ x4 : Int32, x4 = v10 + 1 → wL_rate (zSl S) σ L xs (fun r6 σ5 => ∀ x7 : Int32, x7 = 1000 * v4 → ∀ x8 : Int32, x8 = v9 + r6 → ¬ x7 = 0 ∧ ∀ x10 : Int32, x10 = x8 - x8 / x7 * x7 → vp_in v11 ((zSl S) t5) ∧ ∀ x12 : Int32, x12 = 1000 * v4 → ∀ x13 : Int32, x13 = x10 - (1000 * (gi σ5 t5 v11.toNatClampNeg)) → wJ9_floorMod_7cf53 (zSl S) σ5 x13 x12 (fun r15 σ14 => wL_rate (zSl S) σ14 L xs (fun r17 σ16 => ((r17 ≤ r15 → (wL_isPath_247 L xs Q n) t0 v2 v4 t5 v6 x10 x4 v11 S σ16) ∧ (¬ r17 ≤ r15 → ∀ x18 : Int32, x18 = v11 + 1 → (wL_isPath_247 L xs Q n) t0 v2 v4 t5 v6 x10 x4 x18 S σ16)))))))
def wL_isPath_203 (L : Nat) (xs : Nat → Int32) (Q : Int32 → zSp → zS → Prop) : Nat → Nat → Int32 → Int32 → Nat → Int32 → Int32 → zSp → zS → Prop
  | 0, _, _, _, _, _, _, _, _ => False
  | n + 1, t0, v2, v4, t5, v6, v9, S, σ => ((v6 ≤ v9 → wX11_phase (zSl S) σ t0 0 (fun r2 σ1 => ∃ n3 : Nat, wL_isPath_247 L xs Q n3 t0 v2 v4 t5 v6 r2 0 0 S σ1)) ∧ (¬ v6 ≤ v9 → wX11_pulseOf (zSl S) σ t0 0 v2 v9 (fun r5 σ4 => vp_in v9 ((zSl S) t5) ∧ ((r5 = (gi σ4 t5 v9.toNatClampNeg) → ∀ x7 : Int32, x7 = v9 + 1 → (wL_isPath_203 L xs Q n) t0 v2 v4 t5 v6 x7 S σ4) ∧ (¬ r5 = (gi σ4 t5 v9.toNatClampNeg) → Q 0 S σ4)))))
def wL_isPath_27 (L : Nat) (xs : Nat → Int32) (Q : Int32 → zSp → zS → Prop) : Nat → Nat → Int32 → Nat → Int32 → Nat → Int32 → Int32 → Int32 → zSp → zS → Prop
  | 0, _, _, _, _, _, _, _, _, _, _ => False
  | n + 1, t0, v2, t3, v4, t5, v6, v7, v8, S, σ => wJ0_length_8abf5_q (zSl S) σ t3 (fun r2 σ1 => ((r2 ≤ v8 → ∀ x3 : Int32, x3 = v6 + 1 → vp_in v6 ((zSl S) t5) ∧ ∀ σ5 : zS, σ5 = si σ1 t5 v6.toNatClampNeg v7 → ∀ x6 : Int32, x6 = x3 + 1 → ∀ x7 : Int32, x7 = v4 - 2 → ¬ x7 = 0 ∧ ∀ x9 : Int32, x9 = 2 + (v6 - v6 / x7 * x7) → vp_in x3 ((zSl S) t5) ∧ ∀ σ11 : zS, σ11 = si σ5 t5 x3.toNatClampNeg x9 → wX11_lineLength (zSl S) σ11 t0 0 v2 (fun r13 σ12 => wJ0_length_8abf5_q (zSl S) σ12 t3 (fun r15 σ14 => ((r13 = r15 → wX11_pulsesOf (zSl S) σ14 t0 0 v2 (fun r17 σ16 => ((r17 = x6 → ∃ n18 : Nat, wL_isPath_203 L xs Q n18 t0 v2 v4 t5 x6 0 S σ16) ∧ (¬ r17 = x6 → Q 0 S σ16)))) ∧ (¬ r13 = r15 → Q 0 S σ14))))) ∧ (¬ r2 ≤ v8 → wJ0_charAt_5068e_q (zSl S) σ1 t3 v8 (fun r22 σ21 => ((57 < r22 → wL_isPath_56 L xs Q (wL_isPath_27 L xs Q n) t0 v2 t3 v4 t5 v6 v7 v8 r22 0 S σ21) ∧ (¬ 57 < r22 → wL_isPath_56 L xs Q (wL_isPath_27 L xs Q n) t0 v2 t3 v4 t5 v6 v7 v8 r22 1 S σ21))))))
def wL_isPath (S : zSp) (σ : zS) (L : Nat) (xs : Nat → Int32) (t0 : Nat) (v2 : Int32) (Q : Int32 → zSp → zS → Prop) : Prop := wL_lineOf S σ L xs v2 (fun r2 S1 σ1 => wL_positions (zSl S1) σ1 L xs (fun r4 σ3 => ∀ a5 : Nat, a5 = zSk S1 → ∀ S5 : zSp, S5 = zSpush S1 20 70 → ∀ σ6 : zS, σ6 = zfresh σ3 a5 → ∃ n7 : Nat, wL_isPath_27 L xs Q n7 t0 v2 r2 r4 a5 0 0 0 S5 σ6))
abbrev rL_isPath : Room := { frames := 8, cells := 25, slots := 2818, locals := 207 }
set_option maxRecDepth 100000 in
set_option maxHeartbeats 4000000 in
theorem BL_isPath_127 {l : Launch} {E : zE} {Y0 : zY} {p : Program} {e : Env} {s : State} {m : MethodId} {args : Array Value} {below : List Frame} {meth : Method} {c : Code} (hG : zG E p l s m args meth c cL_isPath 12 RL (some .boolean) (zA Y0 s.heap.size)) {Q : Int32 → zSp → zS → Prop} {kb27 : Nat → Int32 → Nat → Int32 → Nat → Int32 → Int32 → Int32 → zSp → zS → Prop} (hkb27 : ∀ (t0 : Nat) (v2 : Int32) (t3 : Nat) (v4 : Int32) (t5 : Nat) (v6 : Int32) (v7 : Int32) (v8 : Int32) (Y : zY) (σ : zS) (cl sl : Nat), kb27 t0 v2 t3 v4 t5 v6 v7 v8 (zsp Y) σ → zext Y0 Y → zT Y 11 t0 → zSq Y t3 → zT Y 20 t5 → cl + (0) ≤ 25 → sl + (0) ≤ 2818 → WW E Y σ p l e rL_isPath s m args below meth c (zA Y0 s.heap.size) 12 cl sl (MQ below (va_Qi (fun r (u : zY × zS) => Q r (zsp u.1) u.2) (zBA E Y0 s.heap.size) (zA Y0 s.heap.size)) args s 25 2818 (zA Y0 s.heap.size)) [(0, .ref (za Y t0)), (1, .ref (E.2.2.2 1002)), (2, .int v2), (3, .ref (zSa E Y t3)), (4, .int v4), (5, .ref (za Y t5)), (6, .int v6), (7, .int v7), (8, .int v8)] 27 []) : ∀ (t0 : Nat) (v2 : Int32) (t3 : Nat) (v4 : Int32) (t5 : Nat) (v6 : Int32) (v7 : Int32) (v8 : Int32) (v9 : Int32) (tw0 : Nat) (vw1 : Int32) (vw2 : Int32) (Y : zY) (σ : zS) (cl sl : Nat), wL_isPath_127 (zScL E) (zScX E) Q kb27 t0 v2 t3 v4 t5 v6 v7 v8 v9 tw0 vw1 vw2 (zsp Y) σ → zext Y0 Y → zT Y 11 t0 → zSq Y t3 → zT Y 20 t5 → zT Y 11 tw0 → cl + (0) ≤ 25 → sl + (0) ≤ 2818 → WW E Y σ p l e rL_isPath s m args below meth c (zA Y0 s.heap.size) 12 cl sl (MQ below (va_Qi (fun r (u : zY × zS) => Q r (zsp u.1) u.2) (zBA E Y0 s.heap.size) (zA Y0 s.heap.size)) args s 25 2818 (zA Y0 s.heap.size)) [(0, .ref (za Y t0)), (1, .ref (E.2.2.2 1002)), (2, .int v2), (3, .ref (zSa E Y t3)), (4, .int v4), (5, .ref (za Y t5)), (6, .int v6), (7, .int v7), (8, .int v8), (9, .int v9)] 127 [.int vw2, .int vw1, .ref (za Y tw0)] := by
  intro t0 v2 t3 v4 t5 v6 v7 v8 v9 tw0 vw1 vw2 Y σ cl sl hw hx h0 h3 h5 hw0 hcl hsl
  unfold wL_isPath_127 at hw
  refine z_calli hG (z_runV (As := [.int vw1, .int vw2]) (st := []) hG k_L_145 (MX11_character l hw0 hw) ⟨(Nat.le_of_ble_eq_true rfl), (Nat.le_of_ble_eq_true rfl)⟩ hw0 (T := TX11) (N := 9) rfl (by decide) rfl (Nat.le_of_ble_eq_true rfl) dL_isPath_127 ⟨show cl + 0 + 0 ≤ 25 from by omega, show sl + 0 + 0 ≤ 2818 from by omega⟩ rfl) (fun r2 σ1 hw => ?_)
  refine z_iload hG dL_isPath_130 9 rfl ?_
  refine z_icmp_eq (tgt := 137) hG dL_isPath_132 (by decide) (fun c4 => ?_) (fun c4 => ?_)
  · have hw := hw.1 c4
    obtain ⟨x3, ex3⟩ : ∃ y : Int32, y = v8 + 1 := ⟨_, rfl⟩
    have hw := hw x3 ex3
    refine z_iinc (v := x3) (lv' := [(8, .int x3), (0, .ref (za Y t0)), (1, .ref (E.2.2.2 1002)), (2, .int v2), (3, .ref (zSa E Y t3)), (4, .int v4), (5, .ref (za Y t5)), (6, .int v6), (7, .int v7), (9, .int v9)]) hG dL_isPath_137 8 rfl (by rw [ex3]; rfl) (by decide) rfl ?_
    refine z_goto (tgt := 27) hG dL_isPath_140 (by decide) ?_
    refine zpick [1, 2, 3, 4, 5, 6, 7, 8, 0] (lv' := [(0, .ref (za Y t0)), (1, .ref (E.2.2.2 1002)), (2, .int v2), (3, .ref (zSa E Y t3)), (4, .int v4), (5, .ref (za Y t5)), (6, .int v6), (7, .int v7), (8, .int x3)]) rfl ?_
    exact hkb27 t0 v2 t3 v4 t5 v6 v7 x3 Y σ1 _ _ hw hx h0 h3 h5 (by omega) (by omega)
  · have hw := hw.2 c4
    refine z_iconst (v := 0) hG dL_isPath_135 (by decide) ?_
    refine zwiden (k := 25) (n := 2818) (by omega) (by omega) ?_
    exact z_iretA hG hx rfl (by decide +kernel) dL_isPath_136 hw
set_option maxRecDepth 100000 in
set_option maxHeartbeats 4000000 in
theorem BL_isPath_106 {l : Launch} {E : zE} {Y0 : zY} {p : Program} {e : Env} {s : State} {m : MethodId} {args : Array Value} {below : List Frame} {meth : Method} {c : Code} (hG : zG E p l s m args meth c cL_isPath 12 RL (some .boolean) (zA Y0 s.heap.size)) {Q : Int32 → zSp → zS → Prop} {kb27 : Nat → Int32 → Nat → Int32 → Nat → Int32 → Int32 → Int32 → zSp → zS → Prop} (hkb27 : ∀ (t0 : Nat) (v2 : Int32) (t3 : Nat) (v4 : Int32) (t5 : Nat) (v6 : Int32) (v7 : Int32) (v8 : Int32) (Y : zY) (σ : zS) (cl sl : Nat), kb27 t0 v2 t3 v4 t5 v6 v7 v8 (zsp Y) σ → zext Y0 Y → zT Y 11 t0 → zSq Y t3 → zT Y 20 t5 → cl + (0) ≤ 25 → sl + (0) ≤ 2818 → WW E Y σ p l e rL_isPath s m args below meth c (zA Y0 s.heap.size) 12 cl sl (MQ below (va_Qi (fun r (u : zY × zS) => Q r (zsp u.1) u.2) (zBA E Y0 s.heap.size) (zA Y0 s.heap.size)) args s 25 2818 (zA Y0 s.heap.size)) [(0, .ref (za Y t0)), (1, .ref (E.2.2.2 1002)), (2, .int v2), (3, .ref (zSa E Y t3)), (4, .int v4), (5, .ref (za Y t5)), (6, .int v6), (7, .int v7), (8, .int v8)] 27 []) : ∀ (t0 : Nat) (v2 : Int32) (t3 : Nat) (v4 : Int32) (t5 : Nat) (v6 : Int32) (v7 : Int32) (v8 : Int32) (v9 : Int32) (v10 : Int32) (tw0 : Nat) (vw1 : Int32) (vw2 : Int32) (vw3 : Int32) (Y : zY) (σ : zS) (cl sl : Nat), wL_isPath_106 (zScL E) (zScX E) Q kb27 t0 v2 t3 v4 t5 v6 v7 v8 v9 v10 tw0 vw1 vw2 vw3 (zsp Y) σ → zext Y0 Y → zT Y 11 t0 → zSq Y t3 → zT Y 20 t5 → zT Y 20 tw0 → cl + (0) ≤ 25 → sl + (0) ≤ 2818 → WW E Y σ p l e rL_isPath s m args below meth c (zA Y0 s.heap.size) 12 cl sl (MQ below (va_Qi (fun r (u : zY × zS) => Q r (zsp u.1) u.2) (zBA E Y0 s.heap.size) (zA Y0 s.heap.size)) args s 25 2818 (zA Y0 s.heap.size)) [(0, .ref (za Y t0)), (1, .ref (E.2.2.2 1002)), (2, .int v2), (3, .ref (zSa E Y t3)), (4, .int v4), (5, .ref (za Y t5)), (6, .int v6), (7, .int v7), (8, .int v8), (9, .int v9), (10, .int v10)] 106 [.int vw3, .int vw2, .int vw1, .ref (za Y tw0)] := by
  intro t0 v2 t3 v4 t5 v6 v7 v8 v9 v10 tw0 vw1 vw2 vw3 Y σ cl sl hw hx h0 h3 h5 hw0 hcl hsl
  unfold wL_isPath_106 at hw
  refine z_iadd hG dL_isPath_106 ?_
  refine z_topi (fun x1 ex1 => ?_)
  have hw := hw x1 ex1
  obtain ⟨q2, hw⟩ := hw
  refine z_iast hG hw0 q2 dL_isPath_107 ?_
  refine z_topσ (fun σ3 eσ3 => ?_)
  have hw := hw σ3 eσ3
  refine z_aload_n hG dL_isPath_108 rfl 0 rfl ?_
  refine z_aload hG dL_isPath_109 5 rfl ?_
  refine z_iload hG dL_isPath_111 6 rfl ?_
  refine z_iconst (v := 1) hG dL_isPath_113 (by decide) ?_
  refine z_isub hG dL_isPath_114 ?_
  refine z_topi (fun x4 ex4 => ?_)
  have hw := hw x4 ex4
  obtain ⟨q5, hw⟩ := hw
  refine z_iald hG h5 q5 dL_isPath_115 ?_
  refine z_iload hG dL_isPath_116 10 rfl ?_
  refine z_iconst (v := 1) hG dL_isPath_118 (by decide) ?_
  refine z_icmp_ne (tgt := 126) hG dL_isPath_119 (by decide) (fun c6 => ?_) (fun c6 => ?_)
  · have hw := hw.2 c6
    refine z_iconst (v := 0) hG dL_isPath_126 (by decide) ?_
    refine zpick [0, 1, 2, 3, 4, 5, 6, 7, 8, 9] (lv' := [(0, .ref (za Y t0)), (1, .ref (E.2.2.2 1002)), (2, .int v2), (3, .ref (zSa E Y t3)), (4, .int v4), (5, .ref (za Y t5)), (6, .int v6), (7, .int v7), (8, .int v8), (9, .int v9)]) rfl ?_
    exact BL_isPath_127 hG hkb27 t0 v2 t3 v4 t5 v6 v7 v8 v9 t0 (gi σ3 t5 x4.toNatClampNeg) 0 Y σ3 _ _ hw hx h0 h3 h5 h0 (by omega) (by omega)
  · have hw := hw.1 c6
    refine z_iconst (v := 1) hG dL_isPath_122 (by decide) ?_
    refine z_goto (tgt := 127) hG dL_isPath_123 (by decide) ?_
    refine zpick [0, 1, 2, 3, 4, 5, 6, 7, 8, 9] (lv' := [(0, .ref (za Y t0)), (1, .ref (E.2.2.2 1002)), (2, .int v2), (3, .ref (zSa E Y t3)), (4, .int v4), (5, .ref (za Y t5)), (6, .int v6), (7, .int v7), (8, .int v8), (9, .int v9)]) rfl ?_
    exact BL_isPath_127 hG hkb27 t0 v2 t3 v4 t5 v6 v7 v8 v9 t0 (gi σ3 t5 x4.toNatClampNeg) 1 Y σ3 _ _ hw hx h0 h3 h5 h0 (by omega) (by omega)
set_option maxRecDepth 100000 in
set_option maxHeartbeats 4000000 in
theorem BL_isPath_75 {l : Launch} {E : zE} {Y0 : zY} {p : Program} {e : Env} {s : State} {m : MethodId} {args : Array Value} {below : List Frame} {meth : Method} {c : Code} (hG : zG E p l s m args meth c cL_isPath 12 RL (some .boolean) (zA Y0 s.heap.size)) {Q : Int32 → zSp → zS → Prop} {kb27 : Nat → Int32 → Nat → Int32 → Nat → Int32 → Int32 → Int32 → zSp → zS → Prop} (hkb27 : ∀ (t0 : Nat) (v2 : Int32) (t3 : Nat) (v4 : Int32) (t5 : Nat) (v6 : Int32) (v7 : Int32) (v8 : Int32) (Y : zY) (σ : zS) (cl sl : Nat), kb27 t0 v2 t3 v4 t5 v6 v7 v8 (zsp Y) σ → zext Y0 Y → zT Y 11 t0 → zSq Y t3 → zT Y 20 t5 → cl + (0) ≤ 25 → sl + (0) ≤ 2818 → WW E Y σ p l e rL_isPath s m args below meth c (zA Y0 s.heap.size) 12 cl sl (MQ below (va_Qi (fun r (u : zY × zS) => Q r (zsp u.1) u.2) (zBA E Y0 s.heap.size) (zA Y0 s.heap.size)) args s 25 2818 (zA Y0 s.heap.size)) [(0, .ref (za Y t0)), (1, .ref (E.2.2.2 1002)), (2, .int v2), (3, .ref (zSa E Y t3)), (4, .int v4), (5, .ref (za Y t5)), (6, .int v6), (7, .int v7), (8, .int v8)] 27 []) : ∀ (t0 : Nat) (v2 : Int32) (t3 : Nat) (v4 : Int32) (t5 : Nat) (v6 : Int32) (v8 : Int32) (v9 : Int32) (v10 : Int32) (Y : zY) (σ : zS) (cl sl : Nat), wL_isPath_75 (zScL E) (zScX E) Q kb27 t0 v2 t3 v4 t5 v6 v8 v9 v10 (zsp Y) σ → zext Y0 Y → zT Y 11 t0 → zSq Y t3 → zT Y 20 t5 → cl + (0) ≤ 25 → sl + (0) ≤ 2818 → WW E Y σ p l e rL_isPath s m args below meth c (zA Y0 s.heap.size) 12 cl sl (MQ below (va_Qi (fun r (u : zY × zS) => Q r (zsp u.1) u.2) (zBA E Y0 s.heap.size) (zA Y0 s.heap.size)) args s 25 2818 (zA Y0 s.heap.size)) [(0, .ref (za Y t0)), (1, .ref (E.2.2.2 1002)), (2, .int v2), (3, .ref (zSa E Y t3)), (4, .int v4), (5, .ref (za Y t5)), (6, .int v6), (8, .int v8), (9, .int v9), (10, .int v10)] 75 [] := by
  intro t0 v2 t3 v4 t5 v6 v8 v9 v10 Y σ cl sl hw hx h0 h3 h5 hcl hsl
  unfold wL_isPath_75 at hw
  refine z_iload hG dL_isPath_75 9 rfl ?_
  refine z_istore (lv' := [(7, .int v10), (0, .ref (za Y t0)), (1, .ref (E.2.2.2 1002)), (2, .int v2), (3, .ref (zSa E Y t3)), (4, .int v4), (5, .ref (za Y t5)), (6, .int v6), (8, .int v8), (9, .int v9), (10, .int v10)]) hG dL_isPath_77 (by decide) rfl ?_
  refine z_aload hG dL_isPath_79 6 rfl ?_
  refine z_iload hG dL_isPath_81 7 rfl ?_
  obtain ⟨x1, ex1⟩ : ∃ y : Int32, y = v6 + 1 := ⟨_, rfl⟩
  have hw := hw x1 ex1
  refine z_iinc (v := x1) (lv' := [(6, .int x1), (7, .int v10), (0, .ref (za Y t0)), (1, .ref (E.2.2.2 1002)), (2, .int v2), (3, .ref (zSa E Y t3)), (4, .int v4), (5, .ref (za Y t5)), (8, .int v8), (9, .int v9), (10, .int v10)]) hG dL_isPath_83 7 rfl (by rw [ex1]; rfl) (by decide) rfl ?_
  refine z_iconst (v := 2) hG dL_isPath_86 (by decide) ?_
  refine z_iload hG dL_isPath_87 10 rfl ?_
  refine z_iconst (v := 1) hG dL_isPath_89 (by decide) ?_
  refine z_icmp_ne (tgt := 101) hG dL_isPath_90 (by decide) (fun c2 => ?_) (fun c2 => ?_)
  · have hw := hw.2 c2
    refine z_iload hG dL_isPath_101 9 rfl ?_
    refine z_bipush (v := 97) hG dL_isPath_103 (by decide) ?_
    refine z_isub hG dL_isPath_105 ?_
    refine zpick [2, 3, 4, 5, 6, 7, 0, 1, 8, 9, 10] (lv' := [(0, .ref (za Y t0)), (1, .ref (E.2.2.2 1002)), (2, .int v2), (3, .ref (zSa E Y t3)), (4, .int v4), (5, .ref (za Y t5)), (6, .int x1), (7, .int v10), (8, .int v8), (9, .int v9), (10, .int v10)]) rfl ?_
    exact BL_isPath_106 hG hkb27 t0 v2 t3 v4 t5 x1 v10 v8 v9 v10 t5 v6 2 (v9 - 97) Y σ _ _ hw hx h0 h3 h5 h5 (by omega) (by omega)
  · have hw := hw.1 c2
    refine z_iload hG dL_isPath_93 9 rfl ?_
    refine z_bipush (v := 48) hG dL_isPath_95 (by decide) ?_
    refine z_isub hG dL_isPath_97 ?_
    refine z_goto (tgt := 106) hG dL_isPath_98 (by decide) ?_
    refine zpick [2, 3, 4, 5, 6, 7, 0, 1, 8, 9, 10] (lv' := [(0, .ref (za Y t0)), (1, .ref (E.2.2.2 1002)), (2, .int v2), (3, .ref (zSa E Y t3)), (4, .int v4), (5, .ref (za Y t5)), (6, .int x1), (7, .int v10), (8, .int v8), (9, .int v9), (10, .int v10)]) rfl ?_
    exact BL_isPath_106 hG hkb27 t0 v2 t3 v4 t5 x1 v10 v8 v9 v10 t5 v6 2 (v9 - 48) Y σ _ _ hw hx h0 h3 h5 h5 (by omega) (by omega)
set_option maxRecDepth 100000 in
set_option maxHeartbeats 4000000 in
theorem BL_isPath_56 {l : Launch} {E : zE} {Y0 : zY} {p : Program} {e : Env} {s : State} {m : MethodId} {args : Array Value} {below : List Frame} {meth : Method} {c : Code} (hG : zG E p l s m args meth c cL_isPath 12 RL (some .boolean) (zA Y0 s.heap.size)) {Q : Int32 → zSp → zS → Prop} {kb27 : Nat → Int32 → Nat → Int32 → Nat → Int32 → Int32 → Int32 → zSp → zS → Prop} (hkb27 : ∀ (t0 : Nat) (v2 : Int32) (t3 : Nat) (v4 : Int32) (t5 : Nat) (v6 : Int32) (v7 : Int32) (v8 : Int32) (Y : zY) (σ : zS) (cl sl : Nat), kb27 t0 v2 t3 v4 t5 v6 v7 v8 (zsp Y) σ → zext Y0 Y → zT Y 11 t0 → zSq Y t3 → zT Y 20 t5 → cl + (0) ≤ 25 → sl + (0) ≤ 2818 → WW E Y σ p l e rL_isPath s m args below meth c (zA Y0 s.heap.size) 12 cl sl (MQ below (va_Qi (fun r (u : zY × zS) => Q r (zsp u.1) u.2) (zBA E Y0 s.heap.size) (zA Y0 s.heap.size)) args s 25 2818 (zA Y0 s.heap.size)) [(0, .ref (za Y t0)), (1, .ref (E.2.2.2 1002)), (2, .int v2), (3, .ref (zSa E Y t3)), (4, .int v4), (5, .ref (za Y t5)), (6, .int v6), (7, .int v7), (8, .int v8)] 27 []) : ∀ (t0 : Nat) (v2 : Int32) (t3 : Nat) (v4 : Int32) (t5 : Nat) (v6 : Int32) (v7 : Int32) (v8 : Int32) (v9 : Int32) (vw0 : Int32) (Y : zY) (σ : zS) (cl sl : Nat), wL_isPath_56 (zScL E) (zScX E) Q kb27 t0 v2 t3 v4 t5 v6 v7 v8 v9 vw0 (zsp Y) σ → zext Y0 Y → zT Y 11 t0 → zSq Y t3 → zT Y 20 t5 → cl + (0) ≤ 25 → sl + (0) ≤ 2818 → WW E Y σ p l e rL_isPath s m args below meth c (zA Y0 s.heap.size) 12 cl sl (MQ below (va_Qi (fun r (u : zY × zS) => Q r (zsp u.1) u.2) (zBA E Y0 s.heap.size) (zA Y0 s.heap.size)) args s 25 2818 (zA Y0 s.heap.size)) [(0, .ref (za Y t0)), (1, .ref (E.2.2.2 1002)), (2, .int v2), (3, .ref (zSa E Y t3)), (4, .int v4), (5, .ref (za Y t5)), (6, .int v6), (7, .int v7), (8, .int v8), (9, .int v9)] 56 [.int vw0] := by
  intro t0 v2 t3 v4 t5 v6 v7 v8 v9 vw0 Y σ cl sl hw hx h0 h3 h5 hcl hsl
  unfold wL_isPath_56 at hw
  refine z_istore (lv' := [(10, .int vw0), (0, .ref (za Y t0)), (1, .ref (E.2.2.2 1002)), (2, .int v2), (3, .ref (zSa E Y t3)), (4, .int v4), (5, .ref (za Y t5)), (6, .int v6), (7, .int v7), (8, .int v8), (9, .int v9)]) hG dL_isPath_56 (by decide) rfl ?_
  refine z_iload hG dL_isPath_58 0 rfl ?_
  refine z_iload hG dL_isPath_60 8 rfl ?_
  refine z_icmp_eq (tgt := 75) hG dL_isPath_62 (by decide) (fun c4 => ?_) (fun c4 => ?_)
  · have hw := hw.1 c4
    refine zpick [1, 2, 3, 4, 5, 6, 7, 9, 10, 0] (lv' := [(0, .ref (za Y t0)), (1, .ref (E.2.2.2 1002)), (2, .int v2), (3, .ref (zSa E Y t3)), (4, .int v4), (5, .ref (za Y t5)), (6, .int v6), (8, .int v8), (9, .int v9), (10, .int vw0)]) rfl ?_
    exact BL_isPath_75 hG hkb27 t0 v2 t3 v4 t5 v6 v8 v9 vw0 Y σ _ _ hw hx h0 h3 h5 (by omega) (by omega)
  · have hw := hw.2 c4
    refine z_aload hG dL_isPath_65 6 rfl ?_
    refine z_iload hG dL_isPath_67 7 rfl ?_
    obtain ⟨x1, ex1⟩ : ∃ y : Int32, y = v6 + 1 := ⟨_, rfl⟩
    have hw := hw x1 ex1
    refine z_iinc (v := x1) (lv' := [(6, .int x1), (10, .int vw0), (0, .ref (za Y t0)), (1, .ref (E.2.2.2 1002)), (2, .int v2), (3, .ref (zSa E Y t3)), (4, .int v4), (5, .ref (za Y t5)), (7, .int v7), (8, .int v8), (9, .int v9)]) hG dL_isPath_69 7 rfl (by rw [ex1]; rfl) (by decide) rfl ?_
    refine z_iload hG dL_isPath_72 1 rfl ?_
    obtain ⟨q2, hw⟩ := hw
    refine z_iast hG h5 q2 dL_isPath_74 ?_
    refine z_topσ (fun σ3 eσ3 => ?_)
    have hw := hw σ3 eσ3
    refine zpick [2, 3, 4, 5, 6, 7, 0, 9, 10, 1] (lv' := [(0, .ref (za Y t0)), (1, .ref (E.2.2.2 1002)), (2, .int v2), (3, .ref (zSa E Y t3)), (4, .int v4), (5, .ref (za Y t5)), (6, .int x1), (8, .int v8), (9, .int v9), (10, .int vw0)]) rfl ?_
    exact BL_isPath_75 hG hkb27 t0 v2 t3 v4 t5 x1 v8 v9 vw0 Y σ3 _ _ hw hx h0 h3 h5 (by omega) (by omega)
set_option maxRecDepth 100000 in
set_option maxHeartbeats 4000000 in
theorem BL_isPath_247 {l : Launch} {E : zE} {Y0 : zY} {p : Program} {e : Env} {s : State} {m : MethodId} {args : Array Value} {below : List Frame} {meth : Method} {c : Code} (hG : zG E p l s m args meth c cL_isPath 12 RL (some .boolean) (zA Y0 s.heap.size)) {Q : Int32 → zSp → zS → Prop} : ∀ (n : Nat) (t0 : Nat) (v2 : Int32) (v4 : Int32) (t5 : Nat) (v6 : Int32) (v9 : Int32) (v10 : Int32) (v11 : Int32) (Y : zY) (σ : zS) (cl sl : Nat), wL_isPath_247 (zScL E) (zScX E) Q n t0 v2 v4 t5 v6 v9 v10 v11 (zsp Y) σ → zext Y0 Y → zT Y 11 t0 → zT Y 20 t5 → cl + (0) ≤ 25 → sl + (0) ≤ 2818 → WW E Y σ p l e rL_isPath s m args below meth c (zA Y0 s.heap.size) 12 cl sl (MQ below (va_Qi (fun r (u : zY × zS) => Q r (zsp u.1) u.2) (zBA E Y0 s.heap.size) (zA Y0 s.heap.size)) args s 25 2818 (zA Y0 s.heap.size)) [(0, .ref (za Y t0)), (1, .ref (E.2.2.2 1002)), (2, .int v2), (4, .int v4), (5, .ref (za Y t5)), (6, .int v6), (9, .int v9), (10, .int v10), (11, .int v11)] 247 [] := by
  intro n
  induction n with
  | zero => intro t0 v2 v4 t5 v6 v9 v10 v11 Y σ cl sl hw
            exact hw.elim
  | succ n ih =>
    intro t0 v2 v4 t5 v6 v9 v10 v11 Y σ cl sl hw hx h0 h5 hcl hsl
    rw [wL_isPath_247] at hw
    refine z_iload hG dL_isPath_247 8 rfl ?_
    refine z_iload hG dL_isPath_249 5 rfl ?_
    refine z_icmp_ge (tgt := 307) hG dL_isPath_251 (by decide) (fun c20 => ?_) (fun c20 => ?_)
    · have hw := hw.1 c20
      refine z_aload_n hG dL_isPath_307 rfl 0 rfl ?_
      refine z_iconst (v := 0) hG dL_isPath_308 (by decide) ?_
      refine z_iload_n hG dL_isPath_309 rfl 2 rfl ?_
      refine z_calli hG (z_runV (As := [.int 0, .int v2]) (st := []) hG k_L_159 (MX11_ticksFor l h0 hw) ⟨(Nat.le_of_ble_eq_true rfl), (Nat.le_of_ble_eq_true rfl)⟩ h0 (T := TX11) (N := 9) rfl (by decide) rfl (Nat.le_of_ble_eq_true rfl) dL_isPath_310 ⟨show cl + 0 + 0 ≤ 25 from by omega, show sl + 0 + 0 ≤ 2818 from by omega⟩ rfl) (fun r2 σ1 hw => ?_)
      refine z_iload hG dL_isPath_313 7 rfl ?_
      refine z_icmp_ne (tgt := 322) hG dL_isPath_315 (by decide) (fun c3 => ?_) (fun c3 => ?_)
      · have hw := hw.2 c3
        refine z_iconst (v := 0) hG dL_isPath_322 (by decide) ?_
        refine zwiden (k := 25) (n := 2818) (by omega) (by omega) ?_
        exact z_iretA hG hx rfl (by decide +kernel) dL_isPath_323 hw
      · have hw := hw.1 c3
        refine z_iconst (v := 1) hG dL_isPath_318 (by decide) ?_
        refine z_goto (tgt := 323) hG dL_isPath_319 (by decide) ?_
        refine zwiden (k := 25) (n := 2818) (by omega) (by omega) ?_
        exact z_iretA hG hx rfl (by decide +kernel) dL_isPath_323 hw
    · have hw := hw.2 c20
      obtain ⟨x4, ex4⟩ : ∃ y : Int32, y = v10 + 1 := ⟨_, rfl⟩
      have hw := hw x4 ex4
      refine z_iinc (v := x4) (lv' := [(10, .int x4), (0, .ref (za Y t0)), (1, .ref (E.2.2.2 1002)), (2, .int v2), (4, .int v4), (5, .ref (za Y t5)), (6, .int v6), (9, .int v9), (11, .int v11)]) hG dL_isPath_254 7 rfl (by rw [ex4]; rfl) (by decide) rfl ?_
      refine z_iload hG dL_isPath_257 7 rfl ?_
      refine z_aload_n hG dL_isPath_259 rfl 2 rfl ?_
      refine z_calli hG (z_runS (As := [.ref (E.2.2.2 1002)]) (st := [.int v9]) hG k_L_71 (ML_rate l hw) ⟨(Nat.le_of_ble_eq_true rfl), (Nat.le_of_ble_eq_true rfl)⟩ rfl (Nat.le_of_ble_eq_true rfl) dL_isPath_260 ⟨show cl + 0 + 0 ≤ 25 from by omega, show sl + 0 + 0 ≤ 2818 from by omega⟩ rfl) (fun r6 σ5 hw => ?_)
      refine z_iadd hG dL_isPath_263 ?_
      refine z_sipush (v := 1000) hG dL_isPath_264 (by decide) ?_
      refine z_iload hG dL_isPath_267 4 rfl ?_
      refine z_imul hG dL_isPath_269 ?_
      refine z_topi (fun x7 ex7 => ?_)
      have hw := hw x7 ex7
      obtain ⟨x8, ex8⟩ : ∃ y : Int32, y = v9 + r6 := ⟨_, rfl⟩
      refine zst (st' := [.int x7, .int x8]) (by rw [ex8] <;> rfl) ?_
      have hw := hw x8 ex8
      obtain ⟨q9, hw⟩ := hw
      refine z_irem hG dL_isPath_270 q9 ?_
      refine z_topi (fun x10 ex10 => ?_)
      have hw := hw x10 ex10
      refine z_istore (lv' := [(9, .int x10), (10, .int x4), (0, .ref (za Y t0)), (1, .ref (E.2.2.2 1002)), (2, .int v2), (4, .int v4), (5, .ref (za Y t5)), (6, .int v6), (11, .int v11)]) hG dL_isPath_271 (by decide) rfl ?_
      refine z_iload hG dL_isPath_273 0 rfl ?_
      refine z_sipush (v := 1000) hG dL_isPath_275 (by decide) ?_
      refine z_aload hG dL_isPath_278 6 rfl ?_
      refine z_iload hG dL_isPath_280 8 rfl ?_
      obtain ⟨q11, hw⟩ := hw
      refine z_iald hG h5 q11 dL_isPath_282 ?_
      refine z_imul hG dL_isPath_283 ?_
      refine z_isub hG dL_isPath_284 ?_
      refine z_sipush (v := 1000) hG dL_isPath_285 (by decide) ?_
      refine z_iload hG dL_isPath_288 5 rfl ?_
      refine z_imul hG dL_isPath_290 ?_
      refine z_topi (fun x12 ex12 => ?_)
      have hw := hw x12 ex12
      obtain ⟨x13, ex13⟩ : ∃ y : Int32, y = x10 - (1000 * (gi σ5 t5 v11.toNatClampNeg)) := ⟨_, rfl⟩
      refine zst (st' := [.int x12, .int x13]) (by rw [ex13] <;> rfl) ?_
      have hw := hw x13 ex13
      refine z_calli hG (z_runS (As := [.int x13, .int x12]) (st := []) hG k_L_74 (MJ9_floorMod_7cf53 l hw) ⟨(Nat.le_of_ble_eq_true rfl), (Nat.le_of_ble_eq_true rfl)⟩ rfl (Nat.le_of_ble_eq_true rfl) dL_isPath_291 ⟨show cl + 0 + 0 ≤ 25 from by omega, show sl + 0 + 0 ≤ 2818 from by omega⟩ rfl) (fun r15 σ14 hw => ?_)
      refine z_aload_n hG dL_isPath_294 rfl 3 rfl ?_
      refine z_calli hG (z_runS (As := [.ref (E.2.2.2 1002)]) (st := [.int r15]) hG k_L_71 (ML_rate l hw) ⟨(Nat.le_of_ble_eq_true rfl), (Nat.le_of_ble_eq_true rfl)⟩ rfl (Nat.le_of_ble_eq_true rfl) dL_isPath_295 ⟨show cl + 0 + 0 ≤ 25 from by omega, show sl + 0 + 0 ≤ 2818 from by omega⟩ rfl) (fun r17 σ16 hw => ?_)
      refine z_icmp_ge (tgt := 247) hG dL_isPath_298 (by decide) (fun c19 => ?_) (fun c19 => ?_)
      · have hw := hw.1 c19
        refine zpick [2, 3, 4, 5, 6, 7, 0, 1, 8] (lv' := [(0, .ref (za Y t0)), (1, .ref (E.2.2.2 1002)), (2, .int v2), (4, .int v4), (5, .ref (za Y t5)), (6, .int v6), (9, .int x10), (10, .int x4), (11, .int v11)]) rfl ?_
        exact ih t0 v2 v4 t5 v6 x10 x4 v11 Y σ16 _ _ hw hx h0 h5 (by omega) (by omega)
      · have hw := hw.2 c19
        obtain ⟨x18, ex18⟩ : ∃ y : Int32, y = v11 + 1 := ⟨_, rfl⟩
        have hw := hw x18 ex18
        refine z_iinc (v := x18) (lv' := [(11, .int x18), (9, .int x10), (10, .int x4), (0, .ref (za Y t0)), (1, .ref (E.2.2.2 1002)), (2, .int v2), (4, .int v4), (5, .ref (za Y t5)), (6, .int v6)]) hG dL_isPath_301 8 rfl (by rw [ex18]; rfl) (by decide) rfl ?_
        refine z_goto (tgt := 247) hG dL_isPath_304 (by decide) ?_
        refine zpick [3, 4, 5, 6, 7, 8, 1, 2, 0] (lv' := [(0, .ref (za Y t0)), (1, .ref (E.2.2.2 1002)), (2, .int v2), (4, .int v4), (5, .ref (za Y t5)), (6, .int v6), (9, .int x10), (10, .int x4), (11, .int x18)]) rfl ?_
        exact ih t0 v2 v4 t5 v6 x10 x4 x18 Y σ16 _ _ hw hx h0 h5 (by omega) (by omega)
set_option maxRecDepth 100000 in
set_option maxHeartbeats 4000000 in
theorem BL_isPath_203 {l : Launch} {E : zE} {Y0 : zY} {p : Program} {e : Env} {s : State} {m : MethodId} {args : Array Value} {below : List Frame} {meth : Method} {c : Code} (hG : zG E p l s m args meth c cL_isPath 12 RL (some .boolean) (zA Y0 s.heap.size)) {Q : Int32 → zSp → zS → Prop} : ∀ (n : Nat) (t0 : Nat) (v2 : Int32) (v4 : Int32) (t5 : Nat) (v6 : Int32) (v9 : Int32) (Y : zY) (σ : zS) (cl sl : Nat), wL_isPath_203 (zScL E) (zScX E) Q n t0 v2 v4 t5 v6 v9 (zsp Y) σ → zext Y0 Y → zT Y 11 t0 → zT Y 20 t5 → cl + (0) ≤ 25 → sl + (0) ≤ 2818 → WW E Y σ p l e rL_isPath s m args below meth c (zA Y0 s.heap.size) 12 cl sl (MQ below (va_Qi (fun r (u : zY × zS) => Q r (zsp u.1) u.2) (zBA E Y0 s.heap.size) (zA Y0 s.heap.size)) args s 25 2818 (zA Y0 s.heap.size)) [(0, .ref (za Y t0)), (1, .ref (E.2.2.2 1002)), (2, .int v2), (4, .int v4), (5, .ref (za Y t5)), (6, .int v6), (9, .int v9)] 203 [] := by
  intro n
  induction n with
  | zero => intro t0 v2 v4 t5 v6 v9 Y σ cl sl hw
            exact hw.elim
  | succ n ih =>
    intro t0 v2 v4 t5 v6 v9 Y σ cl sl hw hx h0 h5 hcl hsl
    rw [wL_isPath_203] at hw
    refine z_iload hG dL_isPath_203 6 rfl ?_
    refine z_iload hG dL_isPath_205 5 rfl ?_
    refine z_icmp_ge (tgt := 234) hG dL_isPath_207 (by decide) (fun c9 => ?_) (fun c9 => ?_)
    · have hw := hw.1 c9
      refine z_aload_n hG dL_isPath_234 rfl 0 rfl ?_
      refine z_iconst (v := 0) hG dL_isPath_235 (by decide) ?_
      refine z_calli hG (z_runV (As := [.int 0]) (st := []) hG k_L_113 (MX11_phase l h0 hw) ⟨(Nat.le_of_ble_eq_true rfl), (Nat.le_of_ble_eq_true rfl)⟩ h0 (T := TX11) (N := 9) rfl (by decide) rfl (Nat.le_of_ble_eq_true rfl) dL_isPath_236 ⟨show cl + 0 + 0 ≤ 25 from by omega, show sl + 0 + 0 ≤ 2818 from by omega⟩ rfl) (fun r2 σ1 hw => ?_)
      refine z_istore (lv' := [(9, .int r2), (0, .ref (za Y t0)), (1, .ref (E.2.2.2 1002)), (2, .int v2), (4, .int v4), (5, .ref (za Y t5)), (6, .int v6)]) hG dL_isPath_239 (by decide) rfl ?_
      refine z_iconst (v := 0) hG dL_isPath_241 (by decide) ?_
      refine z_istore (lv' := [(10, .int 0), (9, .int r2), (0, .ref (za Y t0)), (1, .ref (E.2.2.2 1002)), (2, .int v2), (4, .int v4), (5, .ref (za Y t5)), (6, .int v6)]) hG dL_isPath_242 (by decide) rfl ?_
      refine z_iconst (v := 0) hG dL_isPath_244 (by decide) ?_
      refine z_istore (lv' := [(11, .int 0), (10, .int 0), (9, .int r2), (0, .ref (za Y t0)), (1, .ref (E.2.2.2 1002)), (2, .int v2), (4, .int v4), (5, .ref (za Y t5)), (6, .int v6)]) hG dL_isPath_245 (by decide) rfl ?_
      obtain ⟨n3, hw⟩ := hw
      refine zpick [3, 4, 5, 6, 7, 8, 2, 1, 0] (lv' := [(0, .ref (za Y t0)), (1, .ref (E.2.2.2 1002)), (2, .int v2), (4, .int v4), (5, .ref (za Y t5)), (6, .int v6), (9, .int r2), (10, .int 0), (11, .int 0)]) rfl ?_
      exact BL_isPath_247 hG n3 t0 v2 v4 t5 v6 r2 0 0 Y σ1 _ _ hw hx h0 h5 (by omega) (by omega)
    · have hw := hw.2 c9
      refine z_aload_n hG dL_isPath_210 rfl 0 rfl ?_
      refine z_iconst (v := 0) hG dL_isPath_211 (by decide) ?_
      refine z_iload_n hG dL_isPath_212 rfl 2 rfl ?_
      refine z_iload hG dL_isPath_213 6 rfl ?_
      refine z_calli hG (z_runV (As := [.int 0, .int v2, .int v9]) (st := []) hG k_L_155 (MX11_pulseOf l h0 hw) ⟨(Nat.le_of_ble_eq_true rfl), (Nat.le_of_ble_eq_true rfl)⟩ h0 (T := TX11) (N := 9) rfl (by decide) rfl (Nat.le_of_ble_eq_true rfl) dL_isPath_215 ⟨show cl + 0 + 0 ≤ 25 from by omega, show sl + 0 + 0 ≤ 2818 from by omega⟩ rfl) (fun r5 σ4 hw => ?_)
      refine z_aload hG dL_isPath_218 4 rfl ?_
      refine z_iload hG dL_isPath_220 6 rfl ?_
      obtain ⟨q6, hw⟩ := hw
      refine z_iald hG h5 q6 dL_isPath_222 ?_
      refine z_icmp_eq (tgt := 228) hG dL_isPath_223 (by decide) (fun c8 => ?_) (fun c8 => ?_)
      · have hw := hw.1 c8
        obtain ⟨x7, ex7⟩ : ∃ y : Int32, y = v9 + 1 := ⟨_, rfl⟩
        have hw := hw x7 ex7
        refine z_iinc (v := x7) (lv' := [(9, .int x7), (0, .ref (za Y t0)), (1, .ref (E.2.2.2 1002)), (2, .int v2), (4, .int v4), (5, .ref (za Y t5)), (6, .int v6)]) hG dL_isPath_228 6 rfl (by rw [ex7]; rfl) (by decide) rfl ?_
        refine z_goto (tgt := 203) hG dL_isPath_231 (by decide) ?_
        refine zpick [1, 2, 3, 4, 5, 6, 0] (lv' := [(0, .ref (za Y t0)), (1, .ref (E.2.2.2 1002)), (2, .int v2), (4, .int v4), (5, .ref (za Y t5)), (6, .int v6), (9, .int x7)]) rfl ?_
        exact ih t0 v2 v4 t5 v6 x7 Y σ4 _ _ hw hx h0 h5 (by omega) (by omega)
      · have hw := hw.2 c8
        refine z_iconst (v := 0) hG dL_isPath_226 (by decide) ?_
        refine zwiden (k := 25) (n := 2818) (by omega) (by omega) ?_
        exact z_iretA hG hx rfl (by decide +kernel) dL_isPath_227 hw
set_option maxRecDepth 100000 in
set_option maxHeartbeats 4000000 in
theorem BL_isPath_27 {l : Launch} {E : zE} {Y0 : zY} {p : Program} {e : Env} {s : State} {m : MethodId} {args : Array Value} {below : List Frame} {meth : Method} {c : Code} (hG : zG E p l s m args meth c cL_isPath 12 RL (some .boolean) (zA Y0 s.heap.size)) {Q : Int32 → zSp → zS → Prop} : ∀ (n : Nat) (t0 : Nat) (v2 : Int32) (t3 : Nat) (v4 : Int32) (t5 : Nat) (v6 : Int32) (v7 : Int32) (v8 : Int32) (Y : zY) (σ : zS) (cl sl : Nat), wL_isPath_27 (zScL E) (zScX E) Q n t0 v2 t3 v4 t5 v6 v7 v8 (zsp Y) σ → zext Y0 Y → zT Y 11 t0 → zSq Y t3 → zT Y 20 t5 → cl + (0) ≤ 25 → sl + (0) ≤ 2818 → WW E Y σ p l e rL_isPath s m args below meth c (zA Y0 s.heap.size) 12 cl sl (MQ below (va_Qi (fun r (u : zY × zS) => Q r (zsp u.1) u.2) (zBA E Y0 s.heap.size) (zA Y0 s.heap.size)) args s 25 2818 (zA Y0 s.heap.size)) [(0, .ref (za Y t0)), (1, .ref (E.2.2.2 1002)), (2, .int v2), (3, .ref (zSa E Y t3)), (4, .int v4), (5, .ref (za Y t5)), (6, .int v6), (7, .int v7), (8, .int v8)] 27 [] := by
  intro n
  induction n with
  | zero => intro t0 v2 t3 v4 t5 v6 v7 v8 Y σ cl sl hw
            exact hw.elim
  | succ n ih =>
    intro t0 v2 t3 v4 t5 v6 v7 v8 Y σ cl sl hw hx h0 h3 h5 hcl hsl
    rw [wL_isPath_27] at hw
    refine z_iload hG dL_isPath_27 8 rfl ?_
    refine z_aload_n hG dL_isPath_29 rfl 3 rfl ?_
    refine z_calli hG (z_runVq (As := []) (st := [.int v8]) hG k_L_8 (MJ0_length_8abf5_q l h3 hw) ⟨(Nat.le_of_ble_eq_true rfl), (Nat.le_of_ble_eq_true rfl)⟩ h3 rfl (Nat.le_of_ble_eq_true rfl) dL_isPath_30 ⟨show cl + 0 + 0 ≤ 25 from by omega, show sl + 0 + 0 ≤ 2818 from by omega⟩ rfl) (fun r2 σ1 hw => ?_)
    refine z_icmp_ge (tgt := 143) hG dL_isPath_33 (by decide) (fun c24 => ?_) (fun c24 => ?_)
    · have hw := hw.1 c24
      refine z_iload hG dL_isPath_143 6 rfl ?_
      refine z_istore (lv' := [(8, .int v6), (0, .ref (za Y t0)), (1, .ref (E.2.2.2 1002)), (2, .int v2), (3, .ref (zSa E Y t3)), (4, .int v4), (5, .ref (za Y t5)), (6, .int v6), (7, .int v7)]) hG dL_isPath_145 (by decide) rfl ?_
      refine z_aload hG dL_isPath_147 6 rfl ?_
      refine z_iload hG dL_isPath_149 7 rfl ?_
      obtain ⟨x3, ex3⟩ : ∃ y : Int32, y = v6 + 1 := ⟨_, rfl⟩
      have hw := hw x3 ex3
      refine z_iinc (v := x3) (lv' := [(6, .int x3), (8, .int v6), (0, .ref (za Y t0)), (1, .ref (E.2.2.2 1002)), (2, .int v2), (3, .ref (zSa E Y t3)), (4, .int v4), (5, .ref (za Y t5)), (7, .int v7)]) hG dL_isPath_151 7 rfl (by rw [ex3]; rfl) (by decide) rfl ?_
      refine z_iload hG dL_isPath_154 8 rfl ?_
      obtain ⟨q4, hw⟩ := hw
      refine z_iast hG h5 q4 dL_isPath_156 ?_
      refine z_topσ (fun σ5 eσ5 => ?_)
      have hw := hw σ5 eσ5
      refine z_aload hG dL_isPath_157 7 rfl ?_
      refine z_iload hG dL_isPath_159 0 rfl ?_
      obtain ⟨x6, ex6⟩ : ∃ y : Int32, y = x3 + 1 := ⟨_, rfl⟩
      have hw := hw x6 ex6
      refine z_iinc (v := x6) (lv' := [(6, .int x6), (8, .int v6), (0, .ref (za Y t0)), (1, .ref (E.2.2.2 1002)), (2, .int v2), (3, .ref (zSa E Y t3)), (4, .int v4), (5, .ref (za Y t5)), (7, .int v7)]) hG dL_isPath_161 0 rfl (by rw [ex6]; rfl) (by decide) rfl ?_
      refine z_iconst (v := 2) hG dL_isPath_164 (by decide) ?_
      refine z_iload hG dL_isPath_165 1 rfl ?_
      refine z_iload hG dL_isPath_167 6 rfl ?_
      refine z_iconst (v := 2) hG dL_isPath_169 (by decide) ?_
      refine z_isub hG dL_isPath_170 ?_
      refine z_topi (fun x7 ex7 => ?_)
      have hw := hw x7 ex7
      obtain ⟨q8, hw⟩ := hw
      refine z_irem hG dL_isPath_171 q8 ?_
      refine z_iadd hG dL_isPath_172 ?_
      refine z_topi (fun x9 ex9 => ?_)
      have hw := hw x9 ex9
      obtain ⟨q10, hw⟩ := hw
      refine z_iast hG h5 q10 dL_isPath_173 ?_
      refine z_topσ (fun σ11 eσ11 => ?_)
      have hw := hw σ11 eσ11
      refine z_aload_n hG dL_isPath_174 rfl 2 rfl ?_
      refine z_iconst (v := 0) hG dL_isPath_175 (by decide) ?_
      refine z_iload_n hG dL_isPath_176 rfl 4 rfl ?_
      refine z_calli hG (z_runV (As := [.int 0, .int v2]) (st := []) hG k_L_149 (MX11_lineLength l h0 hw) ⟨(Nat.le_of_ble_eq_true rfl), (Nat.le_of_ble_eq_true rfl)⟩ h0 (T := TX11) (N := 9) rfl (by decide) rfl (Nat.le_of_ble_eq_true rfl) dL_isPath_177 ⟨show cl + 0 + 0 ≤ 25 from by omega, show sl + 0 + 0 ≤ 2818 from by omega⟩ rfl) (fun r13 σ12 hw => ?_)
      refine z_aload_n hG dL_isPath_180 rfl 5 rfl ?_
      refine z_calli hG (z_runVq (As := []) (st := [.int r13]) hG k_L_8 (MJ0_length_8abf5_q l h3 hw) ⟨(Nat.le_of_ble_eq_true rfl), (Nat.le_of_ble_eq_true rfl)⟩ h3 rfl (Nat.le_of_ble_eq_true rfl) dL_isPath_181 ⟨show cl + 0 + 0 ≤ 25 from by omega, show sl + 0 + 0 ≤ 2818 from by omega⟩ rfl) (fun r15 σ14 hw => ?_)
      refine z_icmp_ne (tgt := 198) hG dL_isPath_184 (by decide) (fun c20 => ?_) (fun c20 => ?_)
      · have hw := hw.2 c20
        refine z_iconst (v := 0) hG dL_isPath_198 (by decide) ?_
        refine zwiden (k := 25) (n := 2818) (by omega) (by omega) ?_
        exact z_iretA hG hx rfl (by decide +kernel) dL_isPath_199 hw
      · have hw := hw.1 c20
        refine z_aload_n hG dL_isPath_187 rfl 2 rfl ?_
        refine z_iconst (v := 0) hG dL_isPath_188 (by decide) ?_
        refine z_iload_n hG dL_isPath_189 rfl 4 rfl ?_
        refine z_calli hG (z_runV (As := [.int 0, .int v2]) (st := []) hG k_L_152 (MX11_pulsesOf l h0 hw) ⟨(Nat.le_of_ble_eq_true rfl), (Nat.le_of_ble_eq_true rfl)⟩ h0 (T := TX11) (N := 9) rfl (by decide) rfl (Nat.le_of_ble_eq_true rfl) dL_isPath_190 ⟨show cl + 0 + 0 ≤ 25 from by omega, show sl + 0 + 0 ≤ 2818 from by omega⟩ rfl) (fun r17 σ16 hw => ?_)
        refine z_iload hG dL_isPath_193 0 rfl ?_
        refine z_icmp_eq (tgt := 200) hG dL_isPath_195 (by decide) (fun c19 => ?_) (fun c19 => ?_)
        · have hw := hw.1 c19
          refine z_iconst (v := 0) hG dL_isPath_200 (by decide) ?_
          refine z_istore (lv' := [(9, .int 0), (6, .int x6), (8, .int v6), (0, .ref (za Y t0)), (1, .ref (E.2.2.2 1002)), (2, .int v2), (3, .ref (zSa E Y t3)), (4, .int v4), (5, .ref (za Y t5)), (7, .int v7)]) hG dL_isPath_201 (by decide) rfl ?_
          obtain ⟨n18, hw⟩ := hw
          refine zpick [3, 4, 5, 7, 8, 1, 0] (lv' := [(0, .ref (za Y t0)), (1, .ref (E.2.2.2 1002)), (2, .int v2), (4, .int v4), (5, .ref (za Y t5)), (6, .int x6), (9, .int 0)]) rfl ?_
          exact BL_isPath_203 hG n18 t0 v2 v4 t5 x6 0 Y σ16 _ _ hw hx h0 h5 (by omega) (by omega)
        · have hw := hw.2 c19
          refine z_iconst (v := 0) hG dL_isPath_198 (by decide) ?_
          refine zwiden (k := 25) (n := 2818) (by omega) (by omega) ?_
          exact z_iretA hG hx rfl (by decide +kernel) dL_isPath_199 hw
    · have hw := hw.2 c24
      refine z_aload_n hG dL_isPath_36 rfl 3 rfl ?_
      refine z_iload hG dL_isPath_37 8 rfl ?_
      refine z_calli hG (z_runVq (As := [.int v8]) (st := []) hG k_L_14 (MJ0_charAt_5068e_q l h3 hw) ⟨(Nat.le_of_ble_eq_true rfl), (Nat.le_of_ble_eq_true rfl)⟩ h3 rfl (Nat.le_of_ble_eq_true rfl) dL_isPath_39 ⟨show cl + 0 + 0 ≤ 25 from by omega, show sl + 0 + 0 ≤ 2818 from by omega⟩ rfl) (fun r22 σ21 hw => ?_)
      refine z_istore (lv' := [(9, .int r22), (0, .ref (za Y t0)), (1, .ref (E.2.2.2 1002)), (2, .int v2), (3, .ref (zSa E Y t3)), (4, .int v4), (5, .ref (za Y t5)), (6, .int v6), (7, .int v7), (8, .int v8)]) hG dL_isPath_42 (by decide) rfl ?_
      refine z_iload hG dL_isPath_44 0 rfl ?_
      refine z_bipush (v := 57) hG dL_isPath_46 (by decide) ?_
      refine z_icmp_gt (tgt := 55) hG dL_isPath_48 (by decide) (fun c23 => ?_) (fun c23 => ?_)
      · have hw := hw.1 c23
        refine z_iconst (v := 0) hG dL_isPath_55 (by decide) ?_
        refine zpick [1, 2, 3, 4, 5, 6, 7, 8, 9, 0] (lv' := [(0, .ref (za Y t0)), (1, .ref (E.2.2.2 1002)), (2, .int v2), (3, .ref (zSa E Y t3)), (4, .int v4), (5, .ref (za Y t5)), (6, .int v6), (7, .int v7), (8, .int v8), (9, .int r22)]) rfl ?_
        exact BL_isPath_56 hG ih t0 v2 t3 v4 t5 v6 v7 v8 r22 0 Y σ21 _ _ hw hx h0 h3 h5 (by omega) (by omega)
      · have hw := hw.2 c23
        refine z_iconst (v := 1) hG dL_isPath_51 (by decide) ?_
        refine z_goto (tgt := 56) hG dL_isPath_52 (by decide) ?_
        refine zpick [1, 2, 3, 4, 5, 6, 7, 8, 9, 0] (lv' := [(0, .ref (za Y t0)), (1, .ref (E.2.2.2 1002)), (2, .int v2), (3, .ref (zSa E Y t3)), (4, .int v4), (5, .ref (za Y t5)), (6, .int v6), (7, .int v7), (8, .int v8), (9, .int r22)]) rfl ?_
        exact BL_isPath_56 hG ih t0 v2 t3 v4 t5 v6 v7 v8 r22 1 Y σ21 _ _ hw hx h0 h3 h5 (by omega) (by omega)
set_option maxRecDepth 100000 in
set_option maxHeartbeats 4000000 in
theorem ML_isPath (l : Launch) {E : zE} {Y : zY} {σ : zS} {t0 : Nat} {v2 : Int32} (h0 : zT Y 11 t0) {Q : Int32 → zSp → zS → Prop} (hw : wL_isPath (zsp Y) σ (zScL E) (zScX E) t0 v2 Q) : ∀ sz, Met l yL_isPath (zw yL_isPath cL_isPath 12 (some .boolean)) rL_isPath (zPc E Y σ sz [.ref (za Y t0), .ref (E.2.2.2 1002), .int v2]) (va_Qi (fun r (u : zY × zS) => Q r (zsp u.1) u.2) (zBA E Y sz) (zA Y sz)) 25 2818 (zA Y sz) := by
  refine z_met (own := RL) (Qc := fun sz => va_Qi (fun r (u : zY × zS) => Q r (zsp u.1) u.2) (zBA E Y sz) (zA Y sz)) (by decide +kernel) rfl (Nat.le_of_ble_eq_true rfl) ?_
  intro p e s m args below meth c hG hinit
  unfold wL_isPath at hw
  refine zlv (lv' := [(0, .ref (za Y t0)), (1, .ref (E.2.2.2 1002)), (2, .int v2)]) rfl ?_
  have hx : zext Y Y := zext.rf
  refine z_aload_n hG dL_isPath_0 rfl 1 rfl ?_
  refine z_iload_n hG dL_isPath_1 rfl 2 rfl ?_
  refine z_callAq hG (z_runS (As := [.ref (E.2.2.2 1002), .int v2]) (st := []) hG k_L_142 (ML_lineOf l hw) ⟨(Nat.le_of_ble_eq_true rfl), (Nat.le_of_ble_eq_true rfl)⟩ rfl (Nat.le_of_ble_eq_true rfl) dL_isPath_2 ⟨show 0 + 24 ≤ 25 from by omega, show 0 + 2748 ≤ 2818 from by omega⟩ rfl) (fun Y1 r2 σ1 hx1 hr2 hw => ?_)
  refine zwiden (k := 24) (n := 2748) (show 0 + 24 ≤ 24 from by omega) (show 0 + 2748 ≤ 2748 from by omega) ?_
  refine zlv (lv' := [(0, .ref (za Y1 t0)), (1, .ref (E.2.2.2 1002)), (2, .int v2)]) (by simp only [hx1.a h0]) ?_
  have h0 := hx1.T h0
  have hx := hx.tr hx1
  refine z_astore_n (lv' := [(3, .ref (zSa E Y1 r2)), (0, .ref (za Y1 t0)), (1, .ref (E.2.2.2 1002)), (2, .int v2)]) hG dL_isPath_5 rfl (by decide) rfl ?_
  refine z_aload_n hG dL_isPath_6 rfl 2 rfl ?_
  refine z_calli hG (z_runS (As := [.ref (E.2.2.2 1002)]) (st := []) hG k_L_46 (ML_positions l hw) ⟨(Nat.le_of_ble_eq_true rfl), (Nat.le_of_ble_eq_true rfl)⟩ rfl (Nat.le_of_ble_eq_true rfl) dL_isPath_7 ⟨show 24 + 0 ≤ 25 from by omega, show 2748 + 0 ≤ 2818 from by omega⟩ rfl) (fun r4 σ3 hw => ?_)
  refine z_istore (lv' := [(4, .int r4), (3, .ref (zSa E Y1 r2)), (0, .ref (za Y1 t0)), (1, .ref (E.2.2.2 1002)), (2, .int v2)]) hG dL_isPath_10 (by decide) rfl ?_
  refine z_bipush (v := 70) hG dL_isPath_12 (by decide) ?_
  have eNa5 : ((70 : Int32)).toNatClampNeg = 70 := by decide +kernel
  refine z_newa (kd := 20) (t0 := 0) (ty := .int) (atype := .int) (n := 70) hG kA_20 rfl rfl (Or.inl ⟨rfl, rfl⟩) (by decide) (show ((70 : Int32)).toNatClampNeg * 4 ≤ 536870912 from by omega) (show 24 + 1 ≤ 25 from by omega) (show 2748 + ((70 : Int32)).toNatClampNeg ≤ 2818 from by omega) dL_isPath_14 (fun Y5 a5 ea5 hx5 eSa5 ha5 => ?_)
  rw [eNa5] at eSa5
  have hw := hw a5 ea5 (zsp Y5) eSa5
  refine zwiden (k := 25) (n := 2818) (show 24 + 1 ≤ 25 from by omega) (show 2748 + 70 ≤ 2818 from by omega) ?_
  refine z_topσ (fun σ6 eσ6 => ?_)
  have hw := hw σ6 eσ6
  refine zlv (lv' := [(4, .int r4), (3, .ref (zSa E Y5 r2)), (0, .ref (za Y5 t0)), (1, .ref (E.2.2.2 1002)), (2, .int v2)]) (by simp only [hx5.a h0, hx5.qa (E := E) hr2]) ?_
  have h0 := hx5.T h0
  have hr2 := hx5.Q hr2
  have hx := hx.tr hx5
  refine z_astore (lv' := [(5, .ref (za Y5 a5)), (4, .int r4), (3, .ref (zSa E Y5 r2)), (0, .ref (za Y5 t0)), (1, .ref (E.2.2.2 1002)), (2, .int v2)]) hG dL_isPath_16 (by decide) rfl ?_
  refine z_iconst (v := 0) hG dL_isPath_18 (by decide) ?_
  refine z_istore (lv' := [(6, .int 0), (5, .ref (za Y5 a5)), (4, .int r4), (3, .ref (zSa E Y5 r2)), (0, .ref (za Y5 t0)), (1, .ref (E.2.2.2 1002)), (2, .int v2)]) hG dL_isPath_19 (by decide) rfl ?_
  refine z_iconst (v := 0) hG dL_isPath_21 (by decide) ?_
  refine z_istore (lv' := [(7, .int 0), (6, .int 0), (5, .ref (za Y5 a5)), (4, .int r4), (3, .ref (zSa E Y5 r2)), (0, .ref (za Y5 t0)), (1, .ref (E.2.2.2 1002)), (2, .int v2)]) hG dL_isPath_22 (by decide) rfl ?_
  refine z_iconst (v := 0) hG dL_isPath_24 (by decide) ?_
  refine z_istore (lv' := [(8, .int 0), (7, .int 0), (6, .int 0), (5, .ref (za Y5 a5)), (4, .int r4), (3, .ref (zSa E Y5 r2)), (0, .ref (za Y5 t0)), (1, .ref (E.2.2.2 1002)), (2, .int v2)]) hG dL_isPath_25 (by decide) rfl ?_
  obtain ⟨n7, hw⟩ := hw
  refine zpick [6, 7, 8, 5, 4, 3, 2, 1, 0] (lv' := [(0, .ref (za Y5 t0)), (1, .ref (E.2.2.2 1002)), (2, .int v2), (3, .ref (zSa E Y5 r2)), (4, .int r4), (5, .ref (za Y5 a5)), (6, .int 0), (7, .int 0), (8, .int 0)]) rfl ?_
  refine zwiden (k := 25) (n := 2818) (by omega) (by omega) ?_
  exact BL_isPath_27 hG n7 t0 v2 r2 r4 a5 0 0 0 Y5 σ6 _ _ hw hx h0 hr2 ha5 (by omega) (by omega)
-- TypeWheelTelegraphLaw.noPhase(LTypeWheelTelegraph;I)I
def wL_noPhase (ln : Nat → Nat) (σ : zS) (t0 : Nat) (v1 : Int32) (Q : Int32 → zS → Prop) : Prop := wxX11_phase ln σ t0 v1 (fun r2 σ1 => Q 0 σ1) (fun E5 σ3 => E5 = "java/lang/IndexOutOfBoundsException" ∧ Q 1 σ3)
abbrev rL_noPhase : Room := { frames := 9, cells := 1, slots := 6, locals := 162 }
set_option maxRecDepth 100000 in
set_option maxHeartbeats 4000000 in
theorem ML_noPhase (l : Launch) (hlt : l.stackTraces = false) {E : zE} {Y : zY} {σ : zS} {t0 : Nat} {v1 : Int32} (h0 : zT Y 11 t0) {Q : Int32 → zS → Prop} (hw : wL_noPhase (zln Y) σ t0 v1 Q) : ∀ sz, Met l yL_noPhase (zwH yL_noPhase cL_noPhase 3 (some .int) [(0, 7, 8, 162)]) rL_noPhase (zPc E Y σ sz [.ref (za Y t0), .int v1]) (va_Qi Q (zB E Y sz) (zA Y sz)) 1 6 (zA Y sz) := by
  refine z_metH (hh := [(0, 7, 8, 162)]) (own := RL) (Qc := fun sz => va_Qi Q (zB E Y sz) (zA Y sz)) (by decide +kernel) rfl (Nat.le_of_ble_eq_true rfl) ?_
  intro p e s m args below meth c hG htab
  unfold wL_noPhase at hw
  refine zlv (lv' := [(0, .ref (za Y t0)), (1, .int v1)]) rfl ?_
  refine z_aload_n hG dL_noPhase_0 rfl 0 rfl ?_
  refine z_iload_n hG dL_noPhase_1 rfl 1 rfl ?_
  refine z_callHi hG htab (z_runXV (As := [.int v1]) (st := []) hG k_L_113 (MxX11_phase l hlt h0 hw) rfl rfl ⟨(Nat.le_of_ble_eq_true rfl), (Nat.le_of_ble_eq_true rfl)⟩ h0 (T := TX11) (N := 9) rfl (by decide) rfl (Nat.le_of_ble_eq_true rfl) dL_noPhase_2 ⟨show 0 + 1 ≤ 1 from by omega, show 0 + 6 ≤ 6 from by omega⟩ rfl) (fun E5 σ3 q4 hw => ?_) (fun r2 σ1 hw => ?_)
  · obtain ⟨hE, hw⟩ := hw
    subst hE
    refine ⟨8, zc_L_noPhase_8, zwiden (k := 1) (n := 6) (show 0 + 1 ≤ 1 from by omega) (show 0 + 6 ≤ 6 from by omega) ?_⟩
    refine zwiden (k := 1) (n := 6) (Nat.le_refl _) (Nat.le_refl _) ?_
    refine z_astore_n (lv' := [(2, .ref q4), (0, .ref (za Y t0)), (1, .int v1)]) hG dL_noPhase_8 rfl (by decide) rfl ?_
    refine z_iconst (v := 1) hG dL_noPhase_9 (by decide) ?_
    refine zwiden (k := 1) (n := 6) (by omega) (by omega) ?_
    exact z_iret hG rfl rfl dL_noPhase_10 hw
  · skip
    refine zwiden (k := 1) (n := 6) (show 0 + 1 ≤ 1 from by omega) (show 0 + 6 ≤ 6 from by omega) ?_
    refine z_pop hG dL_noPhase_5 rfl ?_
    refine z_iconst (v := 0) hG dL_noPhase_6 (by decide) ?_
    refine zwiden (k := 1) (n := 6) (by omega) (by omega) ?_
    exact z_iret hG rfl rfl dL_noPhase_7 hw
-- TypeWheelTelegraphLaw.noRate(LTypeWheelTelegraph;I)I
def wL_noRate (ln : Nat → Nat) (σ : zS) (t0 : Nat) (v1 : Int32) (Q : Int32 → zS → Prop) : Prop := wxX11_rate ln σ t0 v1 (fun r2 σ1 => Q 0 σ1) (fun E5 σ3 => E5 = "java/lang/IndexOutOfBoundsException" ∧ Q 1 σ3)
abbrev rL_noRate : Room := { frames := 9, cells := 1, slots := 6, locals := 162 }
set_option maxRecDepth 100000 in
set_option maxHeartbeats 4000000 in
theorem ML_noRate (l : Launch) (hlt : l.stackTraces = false) {E : zE} {Y : zY} {σ : zS} {t0 : Nat} {v1 : Int32} (h0 : zT Y 11 t0) {Q : Int32 → zS → Prop} (hw : wL_noRate (zln Y) σ t0 v1 Q) : ∀ sz, Met l yL_noRate (zwH yL_noRate cL_noRate 3 (some .int) [(0, 7, 8, 162)]) rL_noRate (zPc E Y σ sz [.ref (za Y t0), .int v1]) (va_Qi Q (zB E Y sz) (zA Y sz)) 1 6 (zA Y sz) := by
  refine z_metH (hh := [(0, 7, 8, 162)]) (own := RL) (Qc := fun sz => va_Qi Q (zB E Y sz) (zA Y sz)) (by decide +kernel) rfl (Nat.le_of_ble_eq_true rfl) ?_
  intro p e s m args below meth c hG htab
  unfold wL_noRate at hw
  refine zlv (lv' := [(0, .ref (za Y t0)), (1, .int v1)]) rfl ?_
  refine z_aload_n hG dL_noRate_0 rfl 0 rfl ?_
  refine z_iload_n hG dL_noRate_1 rfl 1 rfl ?_
  refine z_callHi hG htab (z_runXV (As := [.int v1]) (st := []) hG k_L_119 (MxX11_rate l hlt h0 hw) rfl rfl ⟨(Nat.le_of_ble_eq_true rfl), (Nat.le_of_ble_eq_true rfl)⟩ h0 (T := TX11) (N := 9) rfl (by decide) rfl (Nat.le_of_ble_eq_true rfl) dL_noRate_2 ⟨show 0 + 1 ≤ 1 from by omega, show 0 + 6 ≤ 6 from by omega⟩ rfl) (fun E5 σ3 q4 hw => ?_) (fun r2 σ1 hw => ?_)
  · obtain ⟨hE, hw⟩ := hw
    subst hE
    refine ⟨8, zc_L_noRate_8, zwiden (k := 1) (n := 6) (show 0 + 1 ≤ 1 from by omega) (show 0 + 6 ≤ 6 from by omega) ?_⟩
    refine zwiden (k := 1) (n := 6) (Nat.le_refl _) (Nat.le_refl _) ?_
    refine z_astore_n (lv' := [(2, .ref q4), (0, .ref (za Y t0)), (1, .int v1)]) hG dL_noRate_8 rfl (by decide) rfl ?_
    refine z_iconst (v := 1) hG dL_noRate_9 (by decide) ?_
    refine zwiden (k := 1) (n := 6) (by omega) (by omega) ?_
    exact z_iret hG rfl rfl dL_noRate_10 hw
  · skip
    refine zwiden (k := 1) (n := 6) (show 0 + 1 ≤ 1 from by omega) (show 0 + 6 ≤ 6 from by omega) ?_
    refine z_pop hG dL_noRate_5 rfl ?_
    refine z_iconst (v := 0) hG dL_noRate_6 (by decide) ?_
    refine zwiden (k := 1) (n := 6) (by omega) (by omega) ?_
    exact z_iret hG rfl rfl dL_noRate_7 hw
-- TypeWheelTelegraphLaw.noCharacter(LTypeWheelTelegraph;I)I
def wL_noCharacter (ln : Nat → Nat) (σ : zS) (t0 : Nat) (v1 : Int32) (Q : Int32 → zS → Prop) : Prop := wxX11_character ln σ t0 v1 0 (fun r2 σ1 => Q 0 σ1) (fun E5 σ3 => E5 = "java/lang/IndexOutOfBoundsException" ∧ Q 1 σ3)
abbrev rL_noCharacter : Room := { frames := 7, cells := 1, slots := 6, locals := 129 }
set_option maxRecDepth 100000 in
set_option maxHeartbeats 4000000 in
theorem ML_noCharacter (l : Launch) (hlt : l.stackTraces = false) {E : zE} {Y : zY} {σ : zS} {t0 : Nat} {v1 : Int32} (h0 : zT Y 11 t0) {Q : Int32 → zS → Prop} (hw : wL_noCharacter (zln Y) σ t0 v1 Q) : ∀ sz, Met l yL_noCharacter (zwH yL_noCharacter cL_noCharacter 3 (some .int) [(0, 8, 9, 162)]) rL_noCharacter (zPc E Y σ sz [.ref (za Y t0), .int v1]) (va_Qi Q (zB E Y sz) (zA Y sz)) 1 6 (zA Y sz) := by
  refine z_metH (hh := [(0, 8, 9, 162)]) (own := RL) (Qc := fun sz => va_Qi Q (zB E Y sz) (zA Y sz)) (by decide +kernel) rfl (Nat.le_of_ble_eq_true rfl) ?_
  intro p e s m args below meth c hG htab
  unfold wL_noCharacter at hw
  refine zlv (lv' := [(0, .ref (za Y t0)), (1, .int v1)]) rfl ?_
  refine z_aload_n hG dL_noCharacter_0 rfl 0 rfl ?_
  refine z_iload_n hG dL_noCharacter_1 rfl 1 rfl ?_
  refine z_iconst (v := 0) hG dL_noCharacter_2 (by decide) ?_
  refine z_callHi hG htab (z_runXV (As := [.int v1, .int 0]) (st := []) hG k_L_145 (MxX11_character l hlt h0 hw) rfl rfl ⟨(Nat.le_of_ble_eq_true rfl), (Nat.le_of_ble_eq_true rfl)⟩ h0 (T := TX11) (N := 9) rfl (by decide) rfl (Nat.le_of_ble_eq_true rfl) dL_noCharacter_3 ⟨show 0 + 1 ≤ 1 from by omega, show 0 + 6 ≤ 6 from by omega⟩ rfl) (fun E5 σ3 q4 hw => ?_) (fun r2 σ1 hw => ?_)
  · obtain ⟨hE, hw⟩ := hw
    subst hE
    refine ⟨9, zc_L_noCharacter_9, zwiden (k := 1) (n := 6) (show 0 + 1 ≤ 1 from by omega) (show 0 + 6 ≤ 6 from by omega) ?_⟩
    refine zwiden (k := 1) (n := 6) (Nat.le_refl _) (Nat.le_refl _) ?_
    refine z_astore_n (lv' := [(2, .ref q4), (0, .ref (za Y t0)), (1, .int v1)]) hG dL_noCharacter_9 rfl (by decide) rfl ?_
    refine z_iconst (v := 1) hG dL_noCharacter_10 (by decide) ?_
    refine zwiden (k := 1) (n := 6) (by omega) (by omega) ?_
    exact z_iret hG rfl rfl dL_noCharacter_11 hw
  · skip
    refine zwiden (k := 1) (n := 6) (show 0 + 1 ≤ 1 from by omega) (show 0 + 6 ≤ 6 from by omega) ?_
    refine z_pop hG dL_noCharacter_6 rfl ?_
    refine z_iconst (v := 0) hG dL_noCharacter_7 (by decide) ?_
    refine zwiden (k := 1) (n := 6) (by omega) (by omega) ?_
    exact z_iret hG rfl rfl dL_noCharacter_8 hw
-- TypeWheelTelegraphLaw.noLine(LTypeWheelTelegraph;I)I
def wL_noLine (ln : Nat → Nat) (σ : zS) (t0 : Nat) (v1 : Int32) (Q : Int32 → zS → Prop) : Prop := wxX11_lineLength ln σ t0 0 v1 (fun r2 σ1 => Q 0 σ1) (fun E5 σ3 => E5 = "java/lang/IndexOutOfBoundsException" ∧ Q 1 σ3)
abbrev rL_noLine : Room := { frames := 10, cells := 2, slots := 12, locals := 186 }
set_option maxRecDepth 100000 in
set_option maxHeartbeats 4000000 in
theorem ML_noLine (l : Launch) (hlt : l.stackTraces = false) {E : zE} {Y : zY} {σ : zS} {t0 : Nat} {v1 : Int32} (h0 : zT Y 11 t0) {Q : Int32 → zS → Prop} (hw : wL_noLine (zln Y) σ t0 v1 Q) : ∀ sz, Met l yL_noLine (zwH yL_noLine cL_noLine 3 (some .int) [(0, 8, 9, 162)]) rL_noLine (zPc E Y σ sz [.ref (za Y t0), .int v1]) (va_Qi Q (zB E Y sz) (zA Y sz)) 2 12 (zA Y sz) := by
  refine z_metH (hh := [(0, 8, 9, 162)]) (own := RL) (Qc := fun sz => va_Qi Q (zB E Y sz) (zA Y sz)) (by decide +kernel) rfl (Nat.le_of_ble_eq_true rfl) ?_
  intro p e s m args below meth c hG htab
  unfold wL_noLine at hw
  refine zlv (lv' := [(0, .ref (za Y t0)), (1, .int v1)]) rfl ?_
  refine z_aload_n hG dL_noLine_0 rfl 0 rfl ?_
  refine z_iconst (v := 0) hG dL_noLine_1 (by decide) ?_
  refine z_iload_n hG dL_noLine_2 rfl 1 rfl ?_
  refine z_callHi hG htab (z_runXV (As := [.int 0, .int v1]) (st := []) hG k_L_149 (MxX11_lineLength l hlt h0 hw) rfl rfl ⟨(Nat.le_of_ble_eq_true rfl), (Nat.le_of_ble_eq_true rfl)⟩ h0 (T := TX11) (N := 9) rfl (by decide) rfl (Nat.le_of_ble_eq_true rfl) dL_noLine_3 ⟨show 0 + 2 ≤ 2 from by omega, show 0 + 12 ≤ 12 from by omega⟩ rfl) (fun E5 σ3 q4 hw => ?_) (fun r2 σ1 hw => ?_)
  · obtain ⟨hE, hw⟩ := hw
    subst hE
    refine ⟨9, zc_L_noLine_9, zwiden (k := 2) (n := 12) (show 0 + 2 ≤ 2 from by omega) (show 0 + 12 ≤ 12 from by omega) ?_⟩
    refine zwiden (k := 2) (n := 12) (Nat.le_refl _) (Nat.le_refl _) ?_
    refine z_astore_n (lv' := [(2, .ref q4), (0, .ref (za Y t0)), (1, .int v1)]) hG dL_noLine_9 rfl (by decide) rfl ?_
    refine z_iconst (v := 1) hG dL_noLine_10 (by decide) ?_
    refine zwiden (k := 2) (n := 12) (by omega) (by omega) ?_
    exact z_iret hG rfl rfl dL_noLine_11 hw
  · skip
    refine zwiden (k := 2) (n := 12) (show 0 + 2 ≤ 2 from by omega) (show 0 + 12 ≤ 12 from by omega) ?_
    refine z_pop hG dL_noLine_6 rfl ?_
    refine z_iconst (v := 0) hG dL_noLine_7 (by decide) ?_
    refine zwiden (k := 2) (n := 12) (by omega) (by omega) ?_
    exact z_iret hG rfl rfl dL_noLine_8 hw
-- TypeWheelTelegraphLaw.noPulse(LTypeWheelTelegraph;I)I
def wL_noPulse (ln : Nat → Nat) (σ : zS) (t0 : Nat) (v1 : Int32) (Q : Int32 → zS → Prop) : Prop := wxX11_pulseOf ln σ t0 0 0 v1 (fun r2 σ1 => Q 0 σ1) (fun E5 σ3 => E5 = "java/lang/IndexOutOfBoundsException" ∧ Q 1 σ3)
abbrev rL_noPulse : Room := { frames := 10, cells := 3, slots := 18, locals := 187 }
set_option maxRecDepth 100000 in
set_option maxHeartbeats 4000000 in
theorem ML_noPulse (l : Launch) (hlt : l.stackTraces = false) {E : zE} {Y : zY} {σ : zS} {t0 : Nat} {v1 : Int32} (h0 : zT Y 11 t0) {Q : Int32 → zS → Prop} (hw : wL_noPulse (zln Y) σ t0 v1 Q) : ∀ sz, Met l yL_noPulse (zwH yL_noPulse cL_noPulse 3 (some .int) [(0, 9, 10, 162)]) rL_noPulse (zPc E Y σ sz [.ref (za Y t0), .int v1]) (va_Qi Q (zB E Y sz) (zA Y sz)) 3 18 (zA Y sz) := by
  refine z_metH (hh := [(0, 9, 10, 162)]) (own := RL) (Qc := fun sz => va_Qi Q (zB E Y sz) (zA Y sz)) (by decide +kernel) rfl (Nat.le_of_ble_eq_true rfl) ?_
  intro p e s m args below meth c hG htab
  unfold wL_noPulse at hw
  refine zlv (lv' := [(0, .ref (za Y t0)), (1, .int v1)]) rfl ?_
  refine z_aload_n hG dL_noPulse_0 rfl 0 rfl ?_
  refine z_iconst (v := 0) hG dL_noPulse_1 (by decide) ?_
  refine z_iconst (v := 0) hG dL_noPulse_2 (by decide) ?_
  refine z_iload_n hG dL_noPulse_3 rfl 1 rfl ?_
  refine z_callHi hG htab (z_runXV (As := [.int 0, .int 0, .int v1]) (st := []) hG k_L_155 (MxX11_pulseOf l hlt h0 hw) rfl rfl ⟨(Nat.le_of_ble_eq_true rfl), (Nat.le_of_ble_eq_true rfl)⟩ h0 (T := TX11) (N := 9) rfl (by decide) rfl (Nat.le_of_ble_eq_true rfl) dL_noPulse_4 ⟨show 0 + 3 ≤ 3 from by omega, show 0 + 18 ≤ 18 from by omega⟩ rfl) (fun E5 σ3 q4 hw => ?_) (fun r2 σ1 hw => ?_)
  · obtain ⟨hE, hw⟩ := hw
    subst hE
    refine ⟨10, zc_L_noPulse_10, zwiden (k := 3) (n := 18) (show 0 + 3 ≤ 3 from by omega) (show 0 + 18 ≤ 18 from by omega) ?_⟩
    refine zwiden (k := 3) (n := 18) (Nat.le_refl _) (Nat.le_refl _) ?_
    refine z_astore_n (lv' := [(2, .ref q4), (0, .ref (za Y t0)), (1, .int v1)]) hG dL_noPulse_10 rfl (by decide) rfl ?_
    refine z_iconst (v := 1) hG dL_noPulse_11 (by decide) ?_
    refine zwiden (k := 3) (n := 18) (by omega) (by omega) ?_
    exact z_iret hG rfl rfl dL_noPulse_12 hw
  · skip
    refine zwiden (k := 3) (n := 18) (show 0 + 3 ≤ 3 from by omega) (show 0 + 18 ≤ 18 from by omega) ?_
    refine z_pop hG dL_noPulse_7 rfl ?_
    refine z_iconst (v := 0) hG dL_noPulse_8 (by decide) ?_
    refine zwiden (k := 3) (n := 18) (by omega) (by omega) ?_
    exact z_iret hG rfl rfl dL_noPulse_9 hw
-- TypeWheelTelegraphLaw.noReceived(LTypeWheelTelegraph;I)I
def wL_noReceived (ln : Nat → Nat) (σ : zS) (t0 : Nat) (v1 : Int32) (Q : Int32 → zS → Prop) : Prop := wxX11_receivedCharacter ln σ t0 1 v1 (fun r2 σ1 => Q 0 σ1) (fun E5 σ3 => E5 = "java/lang/IndexOutOfBoundsException" ∧ Q 1 σ3)
abbrev rL_noReceived : Room := { frames := 9, cells := 2, slots := 12, locals := 163 }
set_option maxRecDepth 100000 in
set_option maxHeartbeats 4000000 in
theorem ML_noReceived (l : Launch) (hlt : l.stackTraces = false) {E : zE} {Y : zY} {σ : zS} {t0 : Nat} {v1 : Int32} (h0 : zT Y 11 t0) {Q : Int32 → zS → Prop} (hw : wL_noReceived (zln Y) σ t0 v1 Q) : ∀ sz, Met l yL_noReceived (zwH yL_noReceived cL_noReceived 3 (some .int) [(0, 8, 9, 162)]) rL_noReceived (zPc E Y σ sz [.ref (za Y t0), .int v1]) (va_Qi Q (zB E Y sz) (zA Y sz)) 2 12 (zA Y sz) := by
  refine z_metH (hh := [(0, 8, 9, 162)]) (own := RL) (Qc := fun sz => va_Qi Q (zB E Y sz) (zA Y sz)) (by decide +kernel) rfl (Nat.le_of_ble_eq_true rfl) ?_
  intro p e s m args below meth c hG htab
  unfold wL_noReceived at hw
  refine zlv (lv' := [(0, .ref (za Y t0)), (1, .int v1)]) rfl ?_
  refine z_aload_n hG dL_noReceived_0 rfl 0 rfl ?_
  refine z_iconst (v := 1) hG dL_noReceived_1 (by decide) ?_
  refine z_iload_n hG dL_noReceived_2 rfl 1 rfl ?_
  refine z_callHi hG htab (z_runXV (As := [.int 1, .int v1]) (st := []) hG k_L_164 (MxX11_receivedCharacter l hlt h0 hw) rfl rfl ⟨(Nat.le_of_ble_eq_true rfl), (Nat.le_of_ble_eq_true rfl)⟩ h0 (T := TX11) (N := 9) rfl (by decide) rfl (Nat.le_of_ble_eq_true rfl) dL_noReceived_3 ⟨show 0 + 2 ≤ 2 from by omega, show 0 + 12 ≤ 12 from by omega⟩ rfl) (fun E5 σ3 q4 hw => ?_) (fun r2 σ1 hw => ?_)
  · obtain ⟨hE, hw⟩ := hw
    subst hE
    refine ⟨9, zc_L_noReceived_9, zwiden (k := 2) (n := 12) (show 0 + 2 ≤ 2 from by omega) (show 0 + 12 ≤ 12 from by omega) ?_⟩
    refine zwiden (k := 2) (n := 12) (Nat.le_refl _) (Nat.le_refl _) ?_
    refine z_astore_n (lv' := [(2, .ref q4), (0, .ref (za Y t0)), (1, .int v1)]) hG dL_noReceived_9 rfl (by decide) rfl ?_
    refine z_iconst (v := 1) hG dL_noReceived_10 (by decide) ?_
    refine zwiden (k := 2) (n := 12) (by omega) (by omega) ?_
    exact z_iret hG rfl rfl dL_noReceived_11 hw
  · skip
    refine zwiden (k := 2) (n := 12) (show 0 + 2 ≤ 2 from by omega) (show 0 + 12 ≤ 12 from by omega) ?_
    refine z_pop hG dL_noReceived_6 rfl ?_
    refine z_iconst (v := 0) hG dL_noReceived_7 (by decide) ?_
    refine zwiden (k := 2) (n := 12) (by omega) (by omega) ?_
    exact z_iret hG rfl rfl dL_noReceived_8 hw
-- TypeWheelTelegraphLaw.noEvent(LTypeWheelTelegraph;I)I
def wL_noEvent (ln : Nat → Nat) (σ : zS) (t0 : Nat) (v1 : Int32) (Q : Int32 → zS → Prop) : Prop := wxX11_event ln σ t0 v1 3 (fun r2 σ1 => Q 0 σ1) (fun E5 σ3 => E5 = "java/lang/IndexOutOfBoundsException" ∧ Q 1 σ3)
abbrev rL_noEvent : Room := { frames := 7, cells := 1, slots := 6, locals := 122 }
set_option maxRecDepth 100000 in
set_option maxHeartbeats 4000000 in
theorem ML_noEvent (l : Launch) (hlt : l.stackTraces = false) {E : zE} {Y : zY} {σ : zS} {t0 : Nat} {v1 : Int32} (h0 : zT Y 11 t0) {Q : Int32 → zS → Prop} (hw : wL_noEvent (zln Y) σ t0 v1 Q) : ∀ sz, Met l yL_noEvent (zwH yL_noEvent cL_noEvent 3 (some .int) [(0, 8, 9, 162)]) rL_noEvent (zPc E Y σ sz [.ref (za Y t0), .int v1]) (va_Qi Q (zB E Y sz) (zA Y sz)) 1 6 (zA Y sz) := by
  refine z_metH (hh := [(0, 8, 9, 162)]) (own := RL) (Qc := fun sz => va_Qi Q (zB E Y sz) (zA Y sz)) (by decide +kernel) rfl (Nat.le_of_ble_eq_true rfl) ?_
  intro p e s m args below meth c hG htab
  unfold wL_noEvent at hw
  refine zlv (lv' := [(0, .ref (za Y t0)), (1, .int v1)]) rfl ?_
  refine z_aload_n hG dL_noEvent_0 rfl 0 rfl ?_
  refine z_iload_n hG dL_noEvent_1 rfl 1 rfl ?_
  refine z_iconst (v := 3) hG dL_noEvent_2 (by decide) ?_
  refine z_callHi hG htab (z_runXV (As := [.int v1, .int 3]) (st := []) hG k_L_168 (MxX11_event l hlt h0 hw) rfl rfl ⟨(Nat.le_of_ble_eq_true rfl), (Nat.le_of_ble_eq_true rfl)⟩ h0 (T := TX11) (N := 9) rfl (by decide) rfl (Nat.le_of_ble_eq_true rfl) dL_noEvent_3 ⟨show 0 + 1 ≤ 1 from by omega, show 0 + 6 ≤ 6 from by omega⟩ rfl) (fun E5 σ3 q4 hw => ?_) (fun r2 σ1 hw => ?_)
  · obtain ⟨hE, hw⟩ := hw
    subst hE
    refine ⟨9, zc_L_noEvent_9, zwiden (k := 1) (n := 6) (show 0 + 1 ≤ 1 from by omega) (show 0 + 6 ≤ 6 from by omega) ?_⟩
    refine zwiden (k := 1) (n := 6) (Nat.le_refl _) (Nat.le_refl _) ?_
    refine z_astore_n (lv' := [(2, .ref q4), (0, .ref (za Y t0)), (1, .int v1)]) hG dL_noEvent_9 rfl (by decide) rfl ?_
    refine z_iconst (v := 1) hG dL_noEvent_10 (by decide) ?_
    refine zwiden (k := 1) (n := 6) (by omega) (by omega) ?_
    exact z_iret hG rfl rfl dL_noEvent_11 hw
  · skip
    refine zwiden (k := 1) (n := 6) (show 0 + 1 ≤ 1 from by omega) (show 0 + 6 ≤ 6 from by omega) ?_
    refine z_pop hG dL_noEvent_6 rfl ?_
    refine z_iconst (v := 0) hG dL_noEvent_7 (by decide) ?_
    refine zwiden (k := 1) (n := 6) (by omega) (by omega) ?_
    exact z_iret hG rfl rfl dL_noEvent_8 hw
-- TypeWheelTelegraphLaw.noBuffer(LTypeWheelTelegraph;I)I
def wL_noBuffer (ln : Nat → Nat) (σ : zS) (t0 : Nat) (v1 : Int32) (Q : Int32 → zS → Prop) : Prop := wxX11_bufferCharacter ln σ t0 v1 (fun r2 σ1 => Q 0 σ1) (fun E5 σ3 => E5 = "java/lang/IndexOutOfBoundsException" ∧ Q 1 σ3)
abbrev rL_noBuffer : Room := { frames := 8, cells := 1, slots := 6, locals := 142 }
set_option maxRecDepth 100000 in
set_option maxHeartbeats 4000000 in
theorem ML_noBuffer (l : Launch) (hlt : l.stackTraces = false) {E : zE} {Y : zY} {σ : zS} {t0 : Nat} {v1 : Int32} (h0 : zT Y 11 t0) {Q : Int32 → zS → Prop} (hw : wL_noBuffer (zln Y) σ t0 v1 Q) : ∀ sz, Met l yL_noBuffer (zwH yL_noBuffer cL_noBuffer 3 (some .int) [(0, 7, 8, 162)]) rL_noBuffer (zPc E Y σ sz [.ref (za Y t0), .int v1]) (va_Qi Q (zB E Y sz) (zA Y sz)) 1 6 (zA Y sz) := by
  refine z_metH (hh := [(0, 7, 8, 162)]) (own := RL) (Qc := fun sz => va_Qi Q (zB E Y sz) (zA Y sz)) (by decide +kernel) rfl (Nat.le_of_ble_eq_true rfl) ?_
  intro p e s m args below meth c hG htab
  unfold wL_noBuffer at hw
  refine zlv (lv' := [(0, .ref (za Y t0)), (1, .int v1)]) rfl ?_
  refine z_aload_n hG dL_noBuffer_0 rfl 0 rfl ?_
  refine z_iload_n hG dL_noBuffer_1 rfl 1 rfl ?_
  refine z_callHi hG htab (z_runXV (As := [.int v1]) (st := []) hG k_L_171 (MxX11_bufferCharacter l hlt h0 hw) rfl rfl ⟨(Nat.le_of_ble_eq_true rfl), (Nat.le_of_ble_eq_true rfl)⟩ h0 (T := TX11) (N := 9) rfl (by decide) rfl (Nat.le_of_ble_eq_true rfl) dL_noBuffer_2 ⟨show 0 + 1 ≤ 1 from by omega, show 0 + 6 ≤ 6 from by omega⟩ rfl) (fun E5 σ3 q4 hw => ?_) (fun r2 σ1 hw => ?_)
  · obtain ⟨hE, hw⟩ := hw
    subst hE
    refine ⟨8, zc_L_noBuffer_8, zwiden (k := 1) (n := 6) (show 0 + 1 ≤ 1 from by omega) (show 0 + 6 ≤ 6 from by omega) ?_⟩
    refine zwiden (k := 1) (n := 6) (Nat.le_refl _) (Nat.le_refl _) ?_
    refine z_astore_n (lv' := [(2, .ref q4), (0, .ref (za Y t0)), (1, .int v1)]) hG dL_noBuffer_8 rfl (by decide) rfl ?_
    refine z_iconst (v := 1) hG dL_noBuffer_9 (by decide) ?_
    refine zwiden (k := 1) (n := 6) (by omega) (by omega) ?_
    exact z_iret hG rfl rfl dL_noBuffer_10 hw
  · skip
    refine zwiden (k := 1) (n := 6) (show 0 + 1 ≤ 1 from by omega) (show 0 + 6 ≤ 6 from by omega) ?_
    refine z_pop hG dL_noBuffer_5 rfl ?_
    refine z_iconst (v := 0) hG dL_noBuffer_6 (by decide) ?_
    refine zwiden (k := 1) (n := 6) (by omega) (by omega) ?_
    exact z_iret hG rfl rfl dL_noBuffer_7 hw
-- TypeWheelTelegraphLaw.noFormatted(LTypeWheelTelegraph;I)I
def wL_noFormatted (ln : Nat → Nat) (σ : zS) (t0 : Nat) (v1 : Int32) (Q : Int32 → zS → Prop) : Prop := wxX11_formattedCharacter ln σ t0 v1 (fun r2 σ1 => Q 0 σ1) (fun E5 σ3 => E5 = "java/lang/IndexOutOfBoundsException" ∧ Q 1 σ3)
abbrev rL_noFormatted : Room := { frames := 7, cells := 1, slots := 6, locals := 121 }
set_option maxRecDepth 100000 in
set_option maxHeartbeats 4000000 in
theorem ML_noFormatted (l : Launch) (hlt : l.stackTraces = false) {E : zE} {Y : zY} {σ : zS} {t0 : Nat} {v1 : Int32} (h0 : zT Y 11 t0) {Q : Int32 → zS → Prop} (hw : wL_noFormatted (zln Y) σ t0 v1 Q) : ∀ sz, Met l yL_noFormatted (zwH yL_noFormatted cL_noFormatted 3 (some .int) [(0, 7, 8, 162)]) rL_noFormatted (zPc E Y σ sz [.ref (za Y t0), .int v1]) (va_Qi Q (zB E Y sz) (zA Y sz)) 1 6 (zA Y sz) := by
  refine z_metH (hh := [(0, 7, 8, 162)]) (own := RL) (Qc := fun sz => va_Qi Q (zB E Y sz) (zA Y sz)) (by decide +kernel) rfl (Nat.le_of_ble_eq_true rfl) ?_
  intro p e s m args below meth c hG htab
  unfold wL_noFormatted at hw
  refine zlv (lv' := [(0, .ref (za Y t0)), (1, .int v1)]) rfl ?_
  refine z_aload_n hG dL_noFormatted_0 rfl 0 rfl ?_
  refine z_iload_n hG dL_noFormatted_1 rfl 1 rfl ?_
  refine z_callHi hG htab (z_runXV (As := [.int v1]) (st := []) hG k_L_174 (MxX11_formattedCharacter l hlt h0 hw) rfl rfl ⟨(Nat.le_of_ble_eq_true rfl), (Nat.le_of_ble_eq_true rfl)⟩ h0 (T := TX11) (N := 9) rfl (by decide) rfl (Nat.le_of_ble_eq_true rfl) dL_noFormatted_2 ⟨show 0 + 1 ≤ 1 from by omega, show 0 + 6 ≤ 6 from by omega⟩ rfl) (fun E5 σ3 q4 hw => ?_) (fun r2 σ1 hw => ?_)
  · obtain ⟨hE, hw⟩ := hw
    subst hE
    refine ⟨8, zc_L_noFormatted_8, zwiden (k := 1) (n := 6) (show 0 + 1 ≤ 1 from by omega) (show 0 + 6 ≤ 6 from by omega) ?_⟩
    refine zwiden (k := 1) (n := 6) (Nat.le_refl _) (Nat.le_refl _) ?_
    refine z_astore_n (lv' := [(2, .ref q4), (0, .ref (za Y t0)), (1, .int v1)]) hG dL_noFormatted_8 rfl (by decide) rfl ?_
    refine z_iconst (v := 1) hG dL_noFormatted_9 (by decide) ?_
    refine zwiden (k := 1) (n := 6) (by omega) (by omega) ?_
    exact z_iret hG rfl rfl dL_noFormatted_10 hw
  · skip
    refine zwiden (k := 1) (n := 6) (show 0 + 1 ≤ 1 from by omega) (show 0 + 6 ≤ 6 from by omega) ?_
    refine z_pop hG dL_noFormatted_5 rfl ?_
    refine z_iconst (v := 0) hG dL_noFormatted_6 (by decide) ?_
    refine zwiden (k := 1) (n := 6) (by omega) (by omega) ?_
    exact z_iret hG rfl rfl dL_noFormatted_7 hw
-- TypeWheelTelegraphLaw.areRefused(LTypeWheelTelegraph;[I)Z
def wL_areRefused (S : zSp) (σ : zS) (L : Nat) (xs : Nat → Int32) (t0 : Nat) (Q : Int32 → zSp → zS → Prop) : Prop := wL_noPhase (zSl S) σ t0 2 (fun r2 σ1 => wL_noPhase (zSl S) σ1 t0 (-1) (fun r4 σ3 => wL_noRate (zSl S) σ3 t0 2 (fun r6 σ5 => ∀ x7 : Int32, x7 = (r2 + r4) + r6 → wL_noCharacter (zSl S) σ5 t0 1 (fun r9 σ8 => wL_positions (zSl S) σ8 L xs (fun r11 σ10 => wL_noCharacter (zSl S) σ10 t0 r11 (fun r13 σ12 => ∀ x14 : Int32, x14 = r9 + r13 → wL_lines (zSl S) σ12 L xs (fun r16 σ15 => wL_noLine (zSl S) σ15 t0 r16 (fun r18 σ17 => wX11_pulsesOf (zSl S) σ17 t0 0 0 (fun r20 σ19 => wL_noPulse (zSl S) σ19 t0 r20 (fun r22 σ21 => ∀ x23 : Int32, x23 = r18 + r22 → ((x7 = 3 → ((x14 = 2 → ((x23 = 2 → wL_noReceived (zSl S) σ21 t0 0 (fun r25 σ24 => ((r25 = 1 → wL_noEvent (zSl S) σ24 t0 0 (fun r27 σ26 => ((r27 = 1 → wL_noBuffer (zSl S) σ26 t0 0 (fun r29 σ28 => ((r29 = 1 → wL_noFormatted (zSl S) σ28 t0 0 (fun r31 σ30 => ((r31 = 1 → Q 1 S σ30) ∧ (¬ r31 = 1 → Q 0 S σ30)))) ∧ (¬ r29 = 1 → Q 0 S σ28)))) ∧ (¬ r27 = 1 → Q 0 S σ26)))) ∧ (¬ r25 = 1 → Q 0 S σ24)))) ∧ (¬ x23 = 2 → Q 0 S σ21))) ∧ (¬ x14 = 2 → Q 0 S σ21))) ∧ (¬ x7 = 3 → Q 0 S σ21))))))))))))
abbrev rL_areRefused : Room := { frames := 11, cells := 15, slots := 90, locals := 209 }
set_option maxRecDepth 100000 in
set_option maxHeartbeats 4000000 in
theorem ML_areRefused (l : Launch) (hlt : l.stackTraces = false) {E : zE} {Y : zY} {σ : zS} {t0 : Nat} (h0 : zT Y 11 t0) {Q : Int32 → zSp → zS → Prop} (hw : wL_areRefused (zsp Y) σ (zScL E) (zScX E) t0 Q) : ∀ sz, Met l yL_areRefused (zw yL_areRefused cL_areRefused 5 (some .boolean)) rL_areRefused (zPc E Y σ sz [.ref (za Y t0), .ref (E.2.2.2 1002)]) (va_Qi (fun r (u : zY × zS) => Q r (zsp u.1) u.2) (zBA E Y sz) (zA Y sz)) 15 90 (zA Y sz) := by
  refine z_met (own := RL) (Qc := fun sz => va_Qi (fun r (u : zY × zS) => Q r (zsp u.1) u.2) (zBA E Y sz) (zA Y sz)) (by decide +kernel) rfl (Nat.le_of_ble_eq_true rfl) ?_
  intro p e s m args below meth c hG hinit
  unfold wL_areRefused at hw
  refine zlv (lv' := [(0, .ref (za Y t0)), (1, .ref (E.2.2.2 1002))]) rfl ?_
  have hx : zext Y Y := zext.rf
  refine z_aload_n hG dL_areRefused_0 rfl 0 rfl ?_
  refine z_iconst (v := 2) hG dL_areRefused_1 (by decide) ?_
  refine z_callCi hG (z_runSH (As := [.ref (za Y t0), .int 2]) (st := []) hG k_L_177 (ML_noPhase l hlt h0 hw) ⟨(Nat.le_of_ble_eq_true rfl), (Nat.le_of_ble_eq_true rfl)⟩ rfl (Nat.le_of_ble_eq_true rfl) dL_areRefused_2 ⟨show 0 + 1 ≤ 15 from by omega, show 0 + 6 ≤ 90 from by omega⟩ rfl) (fun r2 σ1 hw => ?_)
  refine zwiden (k := 1) (n := 6) (show 0 + 1 ≤ 1 from by omega) (show 0 + 6 ≤ 6 from by omega) ?_
  refine z_aload_n hG dL_areRefused_5 rfl 0 rfl ?_
  refine z_iconst (v := (-1)) hG dL_areRefused_6 (by decide) ?_
  refine z_callCi hG (z_runSH (As := [.ref (za Y t0), .int (-1)]) (st := [.int r2]) hG k_L_177 (ML_noPhase l hlt h0 hw) ⟨(Nat.le_of_ble_eq_true rfl), (Nat.le_of_ble_eq_true rfl)⟩ rfl (Nat.le_of_ble_eq_true rfl) dL_areRefused_7 ⟨show 1 + 1 ≤ 15 from by omega, show 6 + 6 ≤ 90 from by omega⟩ rfl) (fun r4 σ3 hw => ?_)
  refine zwiden (k := 2) (n := 12) (show 1 + 1 ≤ 2 from by omega) (show 6 + 6 ≤ 12 from by omega) ?_
  refine z_iadd hG dL_areRefused_10 ?_
  refine z_aload_n hG dL_areRefused_11 rfl 0 rfl ?_
  refine z_iconst (v := 2) hG dL_areRefused_12 (by decide) ?_
  refine z_callCi hG (z_runSH (As := [.ref (za Y t0), .int 2]) (st := [.int (r2 + r4)]) hG k_L_181 (ML_noRate l hlt h0 hw) ⟨(Nat.le_of_ble_eq_true rfl), (Nat.le_of_ble_eq_true rfl)⟩ rfl (Nat.le_of_ble_eq_true rfl) dL_areRefused_13 ⟨show 2 + 1 ≤ 15 from by omega, show 12 + 6 ≤ 90 from by omega⟩ rfl) (fun r6 σ5 hw => ?_)
  refine zwiden (k := 3) (n := 18) (show 2 + 1 ≤ 3 from by omega) (show 12 + 6 ≤ 18 from by omega) ?_
  refine z_iadd hG dL_areRefused_16 ?_
  refine z_topi (fun x7 ex7 => ?_)
  have hw := hw x7 ex7
  refine z_istore_n (lv' := [(2, .int x7), (0, .ref (za Y t0)), (1, .ref (E.2.2.2 1002))]) hG dL_areRefused_17 rfl (by decide) rfl ?_
  refine z_aload_n hG dL_areRefused_18 rfl 1 rfl ?_
  refine z_iconst (v := 1) hG dL_areRefused_19 (by decide) ?_
  refine z_callCi hG (z_runSH (As := [.ref (za Y t0), .int 1]) (st := []) hG k_L_184 (ML_noCharacter l hlt h0 hw) ⟨(Nat.le_of_ble_eq_true rfl), (Nat.le_of_ble_eq_true rfl)⟩ rfl (Nat.le_of_ble_eq_true rfl) dL_areRefused_20 ⟨show 3 + 1 ≤ 15 from by omega, show 18 + 6 ≤ 90 from by omega⟩ rfl) (fun r9 σ8 hw => ?_)
  refine zwiden (k := 4) (n := 24) (show 3 + 1 ≤ 4 from by omega) (show 18 + 6 ≤ 24 from by omega) ?_
  refine z_aload_n hG dL_areRefused_23 rfl 1 rfl ?_
  refine z_aload_n hG dL_areRefused_24 rfl 2 rfl ?_
  refine z_calli hG (z_runS (As := [.ref (E.2.2.2 1002)]) (st := [.ref (za Y t0), .int r9]) hG k_L_46 (ML_positions l hw) ⟨(Nat.le_of_ble_eq_true rfl), (Nat.le_of_ble_eq_true rfl)⟩ rfl (Nat.le_of_ble_eq_true rfl) dL_areRefused_25 ⟨show 4 + 0 ≤ 15 from by omega, show 24 + 0 ≤ 90 from by omega⟩ rfl) (fun r11 σ10 hw => ?_)
  refine z_callCi hG (z_runSH (As := [.ref (za Y t0), .int r11]) (st := [.int r9]) hG k_L_184 (ML_noCharacter l hlt h0 hw) ⟨(Nat.le_of_ble_eq_true rfl), (Nat.le_of_ble_eq_true rfl)⟩ rfl (Nat.le_of_ble_eq_true rfl) dL_areRefused_28 ⟨show 4 + 1 ≤ 15 from by omega, show 24 + 6 ≤ 90 from by omega⟩ rfl) (fun r13 σ12 hw => ?_)
  refine zwiden (k := 5) (n := 30) (show 4 + 1 ≤ 5 from by omega) (show 24 + 6 ≤ 30 from by omega) ?_
  refine z_iadd hG dL_areRefused_31 ?_
  refine z_topi (fun x14 ex14 => ?_)
  have hw := hw x14 ex14
  refine z_istore_n (lv' := [(3, .int x14), (2, .int x7), (0, .ref (za Y t0)), (1, .ref (E.2.2.2 1002))]) hG dL_areRefused_32 rfl (by decide) rfl ?_
  refine z_aload_n hG dL_areRefused_33 rfl 2 rfl ?_
  refine z_aload_n hG dL_areRefused_34 rfl 3 rfl ?_
  refine z_calli hG (z_runS (As := [.ref (E.2.2.2 1002)]) (st := [.ref (za Y t0)]) hG k_L_96 (ML_lines l hw) ⟨(Nat.le_of_ble_eq_true rfl), (Nat.le_of_ble_eq_true rfl)⟩ rfl (Nat.le_of_ble_eq_true rfl) dL_areRefused_35 ⟨show 5 + 0 ≤ 15 from by omega, show 30 + 0 ≤ 90 from by omega⟩ rfl) (fun r16 σ15 hw => ?_)
  refine z_callCi hG (z_runSH (As := [.ref (za Y t0), .int r16]) (st := []) hG k_L_187 (ML_noLine l hlt h0 hw) ⟨(Nat.le_of_ble_eq_true rfl), (Nat.le_of_ble_eq_true rfl)⟩ rfl (Nat.le_of_ble_eq_true rfl) dL_areRefused_38 ⟨show 5 + 2 ≤ 15 from by omega, show 30 + 12 ≤ 90 from by omega⟩ rfl) (fun r18 σ17 hw => ?_)
  refine zwiden (k := 7) (n := 42) (show 5 + 2 ≤ 7 from by omega) (show 30 + 12 ≤ 42 from by omega) ?_
  refine z_aload_n hG dL_areRefused_41 rfl 2 rfl ?_
  refine z_aload_n hG dL_areRefused_42 rfl 2 rfl ?_
  refine z_iconst (v := 0) hG dL_areRefused_43 (by decide) ?_
  refine z_iconst (v := 0) hG dL_areRefused_44 (by decide) ?_
  refine z_calli hG (z_runV (As := [.int 0, .int 0]) (st := [.ref (za Y t0), .int r18]) hG k_L_152 (MX11_pulsesOf l h0 hw) ⟨(Nat.le_of_ble_eq_true rfl), (Nat.le_of_ble_eq_true rfl)⟩ h0 (T := TX11) (N := 9) rfl (by decide) rfl (Nat.le_of_ble_eq_true rfl) dL_areRefused_45 ⟨show 7 + 0 ≤ 15 from by omega, show 42 + 0 ≤ 90 from by omega⟩ rfl) (fun r20 σ19 hw => ?_)
  refine z_callCi hG (z_runSH (As := [.ref (za Y t0), .int r20]) (st := [.int r18]) hG k_L_190 (ML_noPulse l hlt h0 hw) ⟨(Nat.le_of_ble_eq_true rfl), (Nat.le_of_ble_eq_true rfl)⟩ rfl (Nat.le_of_ble_eq_true rfl) dL_areRefused_48 ⟨show 7 + 3 ≤ 15 from by omega, show 42 + 18 ≤ 90 from by omega⟩ rfl) (fun r22 σ21 hw => ?_)
  refine zwiden (k := 10) (n := 60) (show 7 + 3 ≤ 10 from by omega) (show 42 + 18 ≤ 60 from by omega) ?_
  refine z_iadd hG dL_areRefused_51 ?_
  refine z_topi (fun x23 ex23 => ?_)
  have hw := hw x23 ex23
  refine z_istore (lv' := [(4, .int x23), (3, .int x14), (2, .int x7), (0, .ref (za Y t0)), (1, .ref (E.2.2.2 1002))]) hG dL_areRefused_52 (by decide) rfl ?_
  refine z_iload_n hG dL_areRefused_54 rfl 2 rfl ?_
  refine z_iconst (v := 3) hG dL_areRefused_55 (by decide) ?_
  refine z_icmp_ne (tgt := 110) hG dL_areRefused_56 (by decide) (fun c38 => ?_) (fun c38 => ?_)
  · have hw := hw.2 c38
    refine z_iconst (v := 0) hG dL_areRefused_110 (by decide) ?_
    refine zwiden (k := 15) (n := 90) (by omega) (by omega) ?_
    exact z_iretA hG hx rfl (by decide +kernel) dL_areRefused_111 hw
  · have hw := hw.1 c38
    refine z_iload_n hG dL_areRefused_59 rfl 1 rfl ?_
    refine z_iconst (v := 2) hG dL_areRefused_60 (by decide) ?_
    refine z_icmp_ne (tgt := 110) hG dL_areRefused_61 (by decide) (fun c37 => ?_) (fun c37 => ?_)
    · have hw := hw.2 c37
      refine z_iconst (v := 0) hG dL_areRefused_110 (by decide) ?_
      refine zwiden (k := 15) (n := 90) (by omega) (by omega) ?_
      exact z_iretA hG hx rfl (by decide +kernel) dL_areRefused_111 hw
    · have hw := hw.1 c37
      refine z_iload hG dL_areRefused_64 0 rfl ?_
      refine z_iconst (v := 2) hG dL_areRefused_66 (by decide) ?_
      refine z_icmp_ne (tgt := 110) hG dL_areRefused_67 (by decide) (fun c36 => ?_) (fun c36 => ?_)
      · have hw := hw.2 c36
        refine z_iconst (v := 0) hG dL_areRefused_110 (by decide) ?_
        refine zwiden (k := 15) (n := 90) (by omega) (by omega) ?_
        exact z_iretA hG hx rfl (by decide +kernel) dL_areRefused_111 hw
      · have hw := hw.1 c36
        refine z_aload_n hG dL_areRefused_70 rfl 3 rfl ?_
        refine z_iconst (v := 0) hG dL_areRefused_71 (by decide) ?_
        refine z_callCi hG (z_runSH (As := [.ref (za Y t0), .int 0]) (st := []) hG k_L_193 (ML_noReceived l hlt h0 hw) ⟨(Nat.le_of_ble_eq_true rfl), (Nat.le_of_ble_eq_true rfl)⟩ rfl (Nat.le_of_ble_eq_true rfl) dL_areRefused_72 ⟨show 10 + 2 ≤ 15 from by omega, show 60 + 12 ≤ 90 from by omega⟩ rfl) (fun r25 σ24 hw => ?_)
        refine zwiden (k := 12) (n := 72) (show 10 + 2 ≤ 12 from by omega) (show 60 + 12 ≤ 72 from by omega) ?_
        refine z_iconst (v := 1) hG dL_areRefused_75 (by decide) ?_
        refine z_icmp_ne (tgt := 110) hG dL_areRefused_76 (by decide) (fun c35 => ?_) (fun c35 => ?_)
        · have hw := hw.2 c35
          refine z_iconst (v := 0) hG dL_areRefused_110 (by decide) ?_
          refine zwiden (k := 15) (n := 90) (by omega) (by omega) ?_
          exact z_iretA hG hx rfl (by decide +kernel) dL_areRefused_111 hw
        · have hw := hw.1 c35
          refine z_aload_n hG dL_areRefused_79 rfl 3 rfl ?_
          refine z_iconst (v := 0) hG dL_areRefused_80 (by decide) ?_
          refine z_callCi hG (z_runSH (As := [.ref (za Y t0), .int 0]) (st := []) hG k_L_196 (ML_noEvent l hlt h0 hw) ⟨(Nat.le_of_ble_eq_true rfl), (Nat.le_of_ble_eq_true rfl)⟩ rfl (Nat.le_of_ble_eq_true rfl) dL_areRefused_81 ⟨show 12 + 1 ≤ 15 from by omega, show 72 + 6 ≤ 90 from by omega⟩ rfl) (fun r27 σ26 hw => ?_)
          refine zwiden (k := 13) (n := 78) (show 12 + 1 ≤ 13 from by omega) (show 72 + 6 ≤ 78 from by omega) ?_
          refine z_iconst (v := 1) hG dL_areRefused_84 (by decide) ?_
          refine z_icmp_ne (tgt := 110) hG dL_areRefused_85 (by decide) (fun c34 => ?_) (fun c34 => ?_)
          · have hw := hw.2 c34
            refine z_iconst (v := 0) hG dL_areRefused_110 (by decide) ?_
            refine zwiden (k := 15) (n := 90) (by omega) (by omega) ?_
            exact z_iretA hG hx rfl (by decide +kernel) dL_areRefused_111 hw
          · have hw := hw.1 c34
            refine z_aload_n hG dL_areRefused_88 rfl 3 rfl ?_
            refine z_iconst (v := 0) hG dL_areRefused_89 (by decide) ?_
            refine z_callCi hG (z_runSH (As := [.ref (za Y t0), .int 0]) (st := []) hG k_L_199 (ML_noBuffer l hlt h0 hw) ⟨(Nat.le_of_ble_eq_true rfl), (Nat.le_of_ble_eq_true rfl)⟩ rfl (Nat.le_of_ble_eq_true rfl) dL_areRefused_90 ⟨show 13 + 1 ≤ 15 from by omega, show 78 + 6 ≤ 90 from by omega⟩ rfl) (fun r29 σ28 hw => ?_)
            refine zwiden (k := 14) (n := 84) (show 13 + 1 ≤ 14 from by omega) (show 78 + 6 ≤ 84 from by omega) ?_
            refine z_iconst (v := 1) hG dL_areRefused_93 (by decide) ?_
            refine z_icmp_ne (tgt := 110) hG dL_areRefused_94 (by decide) (fun c33 => ?_) (fun c33 => ?_)
            · have hw := hw.2 c33
              refine z_iconst (v := 0) hG dL_areRefused_110 (by decide) ?_
              refine zwiden (k := 15) (n := 90) (by omega) (by omega) ?_
              exact z_iretA hG hx rfl (by decide +kernel) dL_areRefused_111 hw
            · have hw := hw.1 c33
              refine z_aload_n hG dL_areRefused_97 rfl 3 rfl ?_
              refine z_iconst (v := 0) hG dL_areRefused_98 (by decide) ?_
              refine z_callCi hG (z_runSH (As := [.ref (za Y t0), .int 0]) (st := []) hG k_L_202 (ML_noFormatted l hlt h0 hw) ⟨(Nat.le_of_ble_eq_true rfl), (Nat.le_of_ble_eq_true rfl)⟩ rfl (Nat.le_of_ble_eq_true rfl) dL_areRefused_99 ⟨show 14 + 1 ≤ 15 from by omega, show 84 + 6 ≤ 90 from by omega⟩ rfl) (fun r31 σ30 hw => ?_)
              refine zwiden (k := 15) (n := 90) (show 14 + 1 ≤ 15 from by omega) (show 84 + 6 ≤ 90 from by omega) ?_
              refine z_iconst (v := 1) hG dL_areRefused_102 (by decide) ?_
              refine z_icmp_ne (tgt := 110) hG dL_areRefused_103 (by decide) (fun c32 => ?_) (fun c32 => ?_)
              · have hw := hw.2 c32
                refine z_iconst (v := 0) hG dL_areRefused_110 (by decide) ?_
                refine zwiden (k := 15) (n := 90) (by omega) (by omega) ?_
                exact z_iretA hG hx rfl (by decide +kernel) dL_areRefused_111 hw
              · have hw := hw.1 c32
                refine z_iconst (v := 1) hG dL_areRefused_106 (by decide) ?_
                refine z_goto (tgt := 111) hG dL_areRefused_107 (by decide) ?_
                refine zwiden (k := 15) (n := 90) (by omega) (by omega) ?_
                exact z_iretA hG hx rfl (by decide +kernel) dL_areRefused_111 hw
-- TypeWheelTelegraphLaw.law([I)Z
def wL_law_142 (L : Nat) (xs : Nat → Int32) : Nat → Nat → Int32 → Int32 → zSp → zS → Prop
  | 0, _, _, _, _, _ => False
  | n + 1, t1, v3, v4, S, σ => wL_lines (zSl S) σ L xs (fun r2 σ1 => ((r2 ≤ v4 → wX11_slowestLine (zSl S) σ1 t1 0 (fun r4 σ3 => ((r4 = v3 → wX11_linesDone (zSl S) σ3 t1 0 (fun r6 σ5 => ((r6 = 0 → wX11_prints (zSl S) σ5 t1 1 (fun r8 σ7 => ((r8 = 0 → wX11_eventCount (zSl S) σ7 t1 (fun r10 σ9 => ((r10 = 0 → True) ∧ (¬ r10 = 0 → False)))) ∧ (¬ r8 = 0 → False)))) ∧ (¬ r6 = 0 → False)))) ∧ (¬ r4 = v3 → False)))) ∧ (¬ r2 ≤ v4 → wL_isPath S σ1 L xs t1 v4 (fun r16 S15 σ15 => ((r16 = 0 → False) ∧ (¬ r16 = 0 → wX11_ticksFor (zSl S15) σ15 t1 0 v4 (fun r18 σ17 => wX11_ticksFor (zSl S15) σ17 t1 0 v3 (fun r20 σ19 => ((r18 ≤ r20 → ∀ x21 : Int32, x21 = v4 + 1 → (wL_law_142 L xs n) t1 v3 x21 S15 σ19) ∧ (¬ r18 ≤ r20 → ∀ x22 : Int32, x22 = v4 + 1 → (wL_law_142 L xs n) t1 v4 x22 S15 σ19))))))))))
def wL_law (L : Nat) (xs : Nat → Int32) (S : zSp) (σ : zS) : Prop := ∀ a1 : Nat, a1 = zSk S → ∀ S1 : zSp, S1 = zSpush S 11 0 → ∀ σ2 : zS, σ2 = zfresh σ a1 → wX11_init S1 σ2 a1 (fun S3 σ3 => wX11_positions (zSl S3) σ3 a1 (fun r6 σ5 => ((r6 = 28 → wX11_time (zSl S3) σ5 a1 (fun r8 σ7 => ((r8 = 0 → wX11_sender (zSl S3) σ7 a1 (fun r10 σ9 => ((r10 = (-1) → wX11_slowestLine (zSl S3) σ9 a1 0 (fun r12 σ11 => ((r12 = (-1) → wX11_meanOffset (zSl S3) σ11 a1 1 (fun r14 σ13 => (((Op.cmpValue (FP.dcmp r14 FP.dconst0) CmpOp.l) = 0 → wL_cell (zSl S3) σ13 L xs 7 (fun r16 σ15 => wL_part (zSl S3) σ15 r16 990 (fun r18 σ17 => ∀ x19 : Int32, x19 = 10 + r18 → wL_text S3 σ17 L xs x19 (fun r21 S20 σ20 => wL_load S20 σ20 a1 r21 (fun r23 S22 σ22 => wL_lines (zSl S22) σ22 L xs (fun r25 σ24 => ((r23 = r25 → wX11_positions (zSl S22) σ24 a1 (fun r27 σ26 => wL_positions (zSl S22) σ26 L xs (fun r29 σ28 => ((r27 = r29 → wX11_lineCount (zSl S22) σ28 a1 0 (fun r31 σ30 => wL_lines (zSl S22) σ30 L xs (fun r33 σ32 => ((r31 = r33 → wX11_lineCount (zSl S22) σ32 a1 1 (fun r35 σ34 => ((r35 = 0 → wL_areRefused S22 σ34 L xs a1 (fun r37 S36 σ36 => ((r37 = 0 → False) ∧ (¬ r37 = 0 → wL_areWheels (zSl S36) σ36 L xs a1 x19 (fun r39 σ38 => ((r39 = 0 → False) ∧ (¬ r39 = 0 → ∃ n40 : Nat, n40 ≤ 5 ∧ wL_law_142 L xs n40 a1 0 0 S36 σ38))))))) ∧ (¬ r35 = 0 → False)))) ∧ (¬ r31 = r33 → False))))) ∧ (¬ r27 = r29 → False))))) ∧ (¬ r23 = r25 → False)))))))) ∧ (¬ (Op.cmpValue (FP.dcmp r14 FP.dconst0) CmpOp.l) = 0 → False)))) ∧ (¬ r12 = (-1) → False)))) ∧ (¬ r10 = (-1) → False)))) ∧ (¬ r8 = 0 → False)))) ∧ (¬ r6 = 28 → False))))
set_option maxRecDepth 100000 in
set_option maxHeartbeats 4000000 in
theorem BL_law_142 {l : Launch} (hlt : l.stackTraces = false) {E : zE} {Y0 : zY} {p : Program} {e : Env} {s : State} {m : MethodId} {below : List Frame} {meth : Method} {c : Code} (hG : zG E p l s m #[Value.ref (E.2.2.2 1002)] meth c cL_law 5 RL (some .boolean) (zA Y0 s.heap.size)) (hsc : zLaw s Y0) : ∀ (n : Nat) (t1 : Nat) (v3 : Int32) (v4 : Int32) (Y : zY) (σ : zS) (cl sl : Nat), wL_law_142 (zScL E) (zScX E) n t1 v3 v4 (zsp Y) σ → zext Y0 Y → zT Y 11 t1 → cl + (n * 25 + 0) ≤ 600086 → sl + (n * 2818 + 0) ≤ 7301442 → WW E Y σ p l e room_1 s m #[Value.ref (E.2.2.2 1002)] below meth c (zA Y0 s.heap.size) 5 cl sl (lw_Z below #[Value.ref (E.2.2.2 1002)] s) [(0, .ref (E.2.2.2 1002)), (1, .ref (za Y t1)), (3, .int v3), (4, .int v4)] 142 [] := by
  intro n
  induction n with
  | zero => intro t1 v3 v4 Y σ cl sl hw
            exact hw.elim
  | succ n ih =>
    intro t1 v3 v4 Y σ cl sl hw hx h1 hcl hsl
    rw [wL_law_142] at hw
    refine z_iload hG dL_law_142 3 rfl ?_
    refine z_aload_n hG dL_law_144 rfl 0 rfl ?_
    refine z_calli hG (z_runS (As := [.ref (E.2.2.2 1002)]) (st := [.int v4]) hG k_L_96 (ML_lines l hw) ⟨(Nat.le_of_ble_eq_true rfl), (Nat.le_of_ble_eq_true rfl)⟩ rfl (Nat.le_of_ble_eq_true rfl) dL_law_145 ⟨show cl + 0 + 0 ≤ 600086 from by omega, show sl + 0 + 0 ≤ 7301442 from by omega⟩ rfl) (fun r2 σ1 hw => ?_)
    refine z_icmp_ge (tgt := 188) hG dL_law_148 (by decide) (fun c25 => ?_) (fun c25 => ?_)
    · have hw := hw.1 c25
      refine z_aload_n hG dL_law_188 rfl 1 rfl ?_
      refine z_iconst (v := 0) hG dL_law_189 (by decide) ?_
      refine z_calli hG (z_runV (As := [.int 0]) (st := []) hG k_L_211 (MX11_slowestLine l h1 hw) ⟨(Nat.le_of_ble_eq_true rfl), (Nat.le_of_ble_eq_true rfl)⟩ h1 (T := TX11) (N := 9) rfl (by decide) rfl (Nat.le_of_ble_eq_true rfl) dL_law_190 ⟨show cl + 0 + 0 ≤ 600086 from by omega, show sl + 0 + 0 ≤ 7301442 from by omega⟩ rfl) (fun r4 σ3 hw => ?_)
      refine z_iload_n hG dL_law_193 rfl 2 rfl ?_
      refine z_icmp_ne (tgt := 224) hG dL_law_194 (by decide) (fun c14 => ?_) (fun c14 => ?_)
      · have hw := hw.2 c14
        refine z_iconst (v := 0) hG dL_law_224 (by decide) ?_
        exact hw.elim
      · have hw := hw.1 c14
        refine z_aload_n hG dL_law_197 rfl 1 rfl ?_
        refine z_iconst (v := 0) hG dL_law_198 (by decide) ?_
        refine z_calli hG (z_runV (As := [.int 0]) (st := []) hG k_L_237 (MX11_linesDone l h1 hw) ⟨(Nat.le_of_ble_eq_true rfl), (Nat.le_of_ble_eq_true rfl)⟩ h1 (T := TX11) (N := 9) rfl (by decide) rfl (Nat.le_of_ble_eq_true rfl) dL_law_199 ⟨show cl + 0 + 0 ≤ 600086 from by omega, show sl + 0 + 0 ≤ 7301442 from by omega⟩ rfl) (fun r6 σ5 hw => ?_)
        refine z_if_ne (tgt := 224) hG dL_law_202 (by decide) (fun c13 => ?_) (fun c13 => ?_)
        · have hw := hw.2 c13
          refine z_iconst (v := 0) hG dL_law_224 (by decide) ?_
          exact hw.elim
        · have hw := hw.1 c13
          refine z_aload_n hG dL_law_205 rfl 1 rfl ?_
          refine z_iconst (v := 1) hG dL_law_206 (by decide) ?_
          refine z_calli hG (z_runV (As := [.int 1]) (st := []) hG k_L_240 (MX11_prints l h1 hw) ⟨(Nat.le_of_ble_eq_true rfl), (Nat.le_of_ble_eq_true rfl)⟩ h1 (T := TX11) (N := 9) rfl (by decide) rfl (Nat.le_of_ble_eq_true rfl) dL_law_207 ⟨show cl + 0 + 0 ≤ 600086 from by omega, show sl + 0 + 0 ≤ 7301442 from by omega⟩ rfl) (fun r8 σ7 hw => ?_)
          refine z_if_ne (tgt := 224) hG dL_law_210 (by decide) (fun c12 => ?_) (fun c12 => ?_)
          · have hw := hw.2 c12
            refine z_iconst (v := 0) hG dL_law_224 (by decide) ?_
            exact hw.elim
          · have hw := hw.1 c12
            refine z_aload_n hG dL_law_213 rfl 1 rfl ?_
            refine z_calli hG (z_runV (As := []) (st := []) hG k_L_243 (MX11_eventCount l h1 hw) ⟨(Nat.le_of_ble_eq_true rfl), (Nat.le_of_ble_eq_true rfl)⟩ h1 (T := TX11) (N := 9) rfl (by decide) rfl (Nat.le_of_ble_eq_true rfl) dL_law_214 ⟨show cl + 0 + 0 ≤ 600086 from by omega, show sl + 0 + 0 ≤ 7301442 from by omega⟩ rfl) (fun r10 σ9 hw => ?_)
            refine z_if_ne (tgt := 224) hG dL_law_217 (by decide) (fun c11 => ?_) (fun c11 => ?_)
            · have hw := hw.2 c11
              refine z_iconst (v := 0) hG dL_law_224 (by decide) ?_
              exact hw.elim
            · have hw := hw.1 c11
              refine z_iconst (v := 1) hG dL_law_220 (by decide) ?_
              refine z_goto (tgt := 225) hG dL_law_221 (by decide) ?_
              exact z_lawret hG hsc dL_law_225 (by omega) (by omega)
    · have hw := hw.2 c25
      refine z_aload_n hG dL_law_151 rfl 1 rfl ?_
      refine z_aload_n hG dL_law_152 rfl 0 rfl ?_
      refine z_iload hG dL_law_153 3 rfl ?_
      refine z_callAi hG (z_runS (As := [.ref (za Y t1), .ref (E.2.2.2 1002), .int v4]) (st := []) hG k_L_234 (ML_isPath l h1 hw) ⟨(Nat.le_of_ble_eq_true rfl), (Nat.le_of_ble_eq_true rfl)⟩ rfl (Nat.le_of_ble_eq_true rfl) dL_law_155 ⟨show cl + 0 + 25 ≤ 600086 from by omega, show sl + 0 + 2818 ≤ 7301442 from by omega⟩ rfl) (fun Y15 r16 σ15 hx15 hw => ?_)
      refine zwiden (k := cl + 25) (n := sl + 2818) (show cl + 0 + 25 ≤ cl + 25 from by omega) (show sl + 0 + 2818 ≤ sl + 2818 from by omega) ?_
      refine zlv (lv' := [(0, .ref (E.2.2.2 1002)), (1, .ref (za Y15 t1)), (3, .int v3), (4, .int v4)]) (by simp only [hx15.a h1]) ?_
      have h1 := hx15.T h1
      have hx := hx.tr hx15
      refine z_if_ne (tgt := 163) hG dL_law_158 (by decide) (fun c24 => ?_) (fun c24 => ?_)
      · have hw := hw.2 c24
        refine z_aload_n hG dL_law_163 rfl 1 rfl ?_
        refine z_iconst (v := 0) hG dL_law_164 (by decide) ?_
        refine z_iload hG dL_law_165 3 rfl ?_
        refine z_calli hG (z_runV (As := [.int 0, .int v4]) (st := []) hG k_L_159 (MX11_ticksFor l h1 hw) ⟨(Nat.le_of_ble_eq_true rfl), (Nat.le_of_ble_eq_true rfl)⟩ h1 (T := TX11) (N := 9) rfl (by decide) rfl (Nat.le_of_ble_eq_true rfl) dL_law_167 ⟨show cl + 25 + 0 ≤ 600086 from by omega, show sl + 2818 + 0 ≤ 7301442 from by omega⟩ rfl) (fun r18 σ17 hw => ?_)
        refine z_aload_n hG dL_law_170 rfl 1 rfl ?_
        refine z_iconst (v := 0) hG dL_law_171 (by decide) ?_
        refine z_iload_n hG dL_law_172 rfl 2 rfl ?_
        refine z_calli hG (z_runV (As := [.int 0, .int v3]) (st := [.int r18]) hG k_L_159 (MX11_ticksFor l h1 hw) ⟨(Nat.le_of_ble_eq_true rfl), (Nat.le_of_ble_eq_true rfl)⟩ h1 (T := TX11) (N := 9) rfl (by decide) rfl (Nat.le_of_ble_eq_true rfl) dL_law_173 ⟨show cl + 25 + 0 ≤ 600086 from by omega, show sl + 2818 + 0 ≤ 7301442 from by omega⟩ rfl) (fun r20 σ19 hw => ?_)
        refine z_icmp_le (tgt := 182) hG dL_law_176 (by decide) (fun c23 => ?_) (fun c23 => ?_)
        · have hw := hw.1 c23
          obtain ⟨x21, ex21⟩ : ∃ y : Int32, y = v4 + 1 := ⟨_, rfl⟩
          have hw := hw x21 ex21
          refine z_iinc (v := x21) (lv' := [(4, .int x21), (0, .ref (E.2.2.2 1002)), (1, .ref (za Y15 t1)), (3, .int v3)]) hG dL_law_182 3 rfl (by rw [ex21]; rfl) (by decide) rfl ?_
          refine z_goto (tgt := 142) hG dL_law_185 (by decide) ?_
          refine zpick [1, 2, 3, 0] (lv' := [(0, .ref (E.2.2.2 1002)), (1, .ref (za Y15 t1)), (3, .int v3), (4, .int x21)]) rfl ?_
          refine zwiden (k := cl + 25) (n := sl + 2818) (by omega) (by omega) ?_
          exact ih t1 v3 x21 Y15 σ19 _ _ hw hx h1 (by omega) (by omega)
        · have hw := hw.2 c23
          refine z_iload hG dL_law_179 3 rfl ?_
          refine z_istore_n (lv' := [(3, .int v4), (0, .ref (E.2.2.2 1002)), (1, .ref (za Y15 t1)), (4, .int v4)]) hG dL_law_181 rfl (by decide) rfl ?_
          obtain ⟨x22, ex22⟩ : ∃ y : Int32, y = v4 + 1 := ⟨_, rfl⟩
          have hw := hw x22 ex22
          refine z_iinc (v := x22) (lv' := [(4, .int x22), (3, .int v4), (0, .ref (E.2.2.2 1002)), (1, .ref (za Y15 t1))]) hG dL_law_182 3 rfl (by rw [ex22]; rfl) (by decide) rfl ?_
          refine z_goto (tgt := 142) hG dL_law_185 (by decide) ?_
          refine zpick [2, 3, 1, 0] (lv' := [(0, .ref (E.2.2.2 1002)), (1, .ref (za Y15 t1)), (3, .int v4), (4, .int x22)]) rfl ?_
          refine zwiden (k := cl + 25) (n := sl + 2818) (by omega) (by omega) ?_
          exact ih t1 v4 x22 Y15 σ19 _ _ hw hx h1 (by omega) (by omega)
      · have hw := hw.1 c24
        refine z_iconst (v := 0) hG dL_law_161 (by decide) ?_
        exact hw.elim
set_option maxRecDepth 100000 in
set_option maxHeartbeats 4000000 in
theorem ML_law {l : Launch} (hlt : l.stackTraces = false) {E : zE} {Y0 : zY} {p : Program} {e : Env} {s : State} {m : MethodId} {below : List Frame} {meth : Method} {c : Code} (hG : zG E p l s m #[Value.ref (E.2.2.2 1002)] meth c cL_law 5 RL (some .boolean) (zA Y0 s.heap.size)) (hsc : zLaw s Y0) {σ : zS} (hw : wL_law (zScL E) (zScX E) (zsp Y0) σ) : WW E Y0 σ p l e room_1 s m #[Value.ref (E.2.2.2 1002)] below meth c (zA Y0 s.heap.size) 5 0 0 (lw_Z below #[Value.ref (E.2.2.2 1002)] s) [(0, .ref (E.2.2.2 1002))] 0 [] := by
  unfold wL_law at hw
  have hx : zext Y0 Y0 := zext.rf
  refine z_new hG ck_11 kc_L_19 kn_11 ki_11 nw_11 (show 0 + 1 ≤ 600086 from by omega) (show 0 + 9 ≤ 7301442 from by omega) dL_law_0 (fun Y1 a1 ea1 hx1 eSa1 ha1 => ?_)
  have hw := hw a1 ea1 (zsp Y1) eSa1
  refine zwiden (k := 1) (n := 9) (show 0 + 1 ≤ 1 from by omega) (show 0 + 9 ≤ 9 from by omega) ?_
  refine z_topσ (fun σ2 eσ2 => ?_)
  have hw := hw σ2 eσ2
  have hx := hx.tr hx1
  refine z_dup hG dL_law_3 rfl ?_
  refine z_callAv hG (z_runI (As := []) (st := [.ref (za Y1 a1)]) hG k_L_205 (MX11_init l ha1 hw) ⟨(Nat.le_of_ble_eq_true rfl), (Nat.le_of_ble_eq_true rfl)⟩ rfl (Nat.le_of_ble_eq_true rfl) dL_law_4 ⟨show 1 + 490 ≤ 600086 from by omega, show 9 + 212127 ≤ 7301442 from by omega⟩ rfl) (fun Y3 σ3 hx3 hw => ?_)
  refine zwiden (k := 491) (n := 212136) (show 1 + 490 ≤ 491 from by omega) (show 9 + 212127 ≤ 212136 from by omega) ?_
  refine zst (st' := [.ref (za Y3 a1)]) (by simp only [hx3.a ha1]) ?_
  have ha1 := hx3.T ha1
  have hx := hx.tr hx3
  refine z_astore_n (lv' := [(1, .ref (za Y3 a1)), (0, .ref (E.2.2.2 1002))]) hG dL_law_7 rfl (by decide) rfl ?_
  refine z_aload_n hG dL_law_8 rfl 0 rfl ?_
  refine z_calli hG (z_runV (As := []) (st := []) hG k_L_206 (MX11_positions l ha1 hw) ⟨(Nat.le_of_ble_eq_true rfl), (Nat.le_of_ble_eq_true rfl)⟩ ha1 (T := TX11) (N := 9) rfl (by decide) rfl (Nat.le_of_ble_eq_true rfl) dL_law_9 ⟨show 491 + 0 ≤ 600086 from by omega, show 212136 + 0 ≤ 7301442 from by omega⟩ rfl) (fun r6 σ5 hw => ?_)
  refine z_bipush (v := 28) hG dL_law_12 (by decide) ?_
  refine z_icmp_ne (tgt := 51) hG dL_law_14 (by decide) (fun c51 => ?_) (fun c51 => ?_)
  · have hw := hw.2 c51
    refine z_iconst (v := 0) hG dL_law_51 (by decide) ?_
    exact hw.elim
  · have hw := hw.1 c51
    refine z_aload_n hG dL_law_17 rfl 0 rfl ?_
    refine z_calli hG (z_runV (As := []) (st := []) hG k_L_116 (MX11_time l ha1 hw) ⟨(Nat.le_of_ble_eq_true rfl), (Nat.le_of_ble_eq_true rfl)⟩ ha1 (T := TX11) (N := 9) rfl (by decide) rfl (Nat.le_of_ble_eq_true rfl) dL_law_18 ⟨show 491 + 0 ≤ 600086 from by omega, show 212136 + 0 ≤ 7301442 from by omega⟩ rfl) (fun r8 σ7 hw => ?_)
    refine z_if_ne (tgt := 51) hG dL_law_21 (by decide) (fun c50 => ?_) (fun c50 => ?_)
    · have hw := hw.2 c50
      refine z_iconst (v := 0) hG dL_law_51 (by decide) ?_
      exact hw.elim
    · have hw := hw.1 c50
      refine z_aload_n hG dL_law_24 rfl 0 rfl ?_
      refine z_calli hG (z_runV (As := []) (st := []) hG k_L_208 (MX11_sender l ha1 hw) ⟨(Nat.le_of_ble_eq_true rfl), (Nat.le_of_ble_eq_true rfl)⟩ ha1 (T := TX11) (N := 9) rfl (by decide) rfl (Nat.le_of_ble_eq_true rfl) dL_law_25 ⟨show 491 + 0 ≤ 600086 from by omega, show 212136 + 0 ≤ 7301442 from by omega⟩ rfl) (fun r10 σ9 hw => ?_)
      refine z_iconst (v := (-1)) hG dL_law_28 (by decide) ?_
      refine z_icmp_ne (tgt := 51) hG dL_law_29 (by decide) (fun c49 => ?_) (fun c49 => ?_)
      · have hw := hw.2 c49
        refine z_iconst (v := 0) hG dL_law_51 (by decide) ?_
        exact hw.elim
      · have hw := hw.1 c49
        refine z_aload_n hG dL_law_32 rfl 0 rfl ?_
        refine z_iconst (v := 0) hG dL_law_33 (by decide) ?_
        refine z_calli hG (z_runV (As := [.int 0]) (st := []) hG k_L_211 (MX11_slowestLine l ha1 hw) ⟨(Nat.le_of_ble_eq_true rfl), (Nat.le_of_ble_eq_true rfl)⟩ ha1 (T := TX11) (N := 9) rfl (by decide) rfl (Nat.le_of_ble_eq_true rfl) dL_law_34 ⟨show 491 + 0 ≤ 600086 from by omega, show 212136 + 0 ≤ 7301442 from by omega⟩ rfl) (fun r12 σ11 hw => ?_)
        refine z_iconst (v := (-1)) hG dL_law_37 (by decide) ?_
        refine z_icmp_ne (tgt := 51) hG dL_law_38 (by decide) (fun c48 => ?_) (fun c48 => ?_)
        · have hw := hw.2 c48
          refine z_iconst (v := 0) hG dL_law_51 (by decide) ?_
          exact hw.elim
        · have hw := hw.1 c48
          refine z_aload_n hG dL_law_41 rfl 0 rfl ?_
          refine z_iconst (v := 1) hG dL_law_42 (by decide) ?_
          refine z_calld hG (z_runV (As := [.int 1]) (st := []) hG k_L_214 (MX11_meanOffset l ha1 hw) ⟨(Nat.le_of_ble_eq_true rfl), (Nat.le_of_ble_eq_true rfl)⟩ ha1 (T := TX11) (N := 9) rfl (by decide) rfl (Nat.le_of_ble_eq_true rfl) dL_law_43 ⟨show 491 + 0 ≤ 600086 from by omega, show 212136 + 0 ≤ 7301442 from by omega⟩ rfl) (fun r14 σ13 hw => ?_)
          refine z_dconst0 hG dL_law_46 ?_
          refine z_dcmp hG dL_law_47 ?_
          refine z_if_eq (tgt := 53) hG dL_law_48 (by decide) (fun c47 => ?_) (fun c47 => ?_)
          · have hw := hw.1 c47
            refine z_bipush (v := 10) hG dL_law_53 (by decide) ?_
            refine z_aload_n hG dL_law_55 rfl 1 rfl ?_
            refine z_bipush (v := 7) hG dL_law_56 (by decide) ?_
            refine z_calli hG (z_runS (As := [.ref (E.2.2.2 1002), .int 7]) (st := [.int 10]) hG k_L_38 (ML_cell l hw) ⟨(Nat.le_of_ble_eq_true rfl), (Nat.le_of_ble_eq_true rfl)⟩ rfl (Nat.le_of_ble_eq_true rfl) dL_law_58 ⟨show 491 + 0 ≤ 600086 from by omega, show 212136 + 0 ≤ 7301442 from by omega⟩ rfl) (fun r16 σ15 hw => ?_)
            refine z_sipush (v := 990) hG dL_law_61 (by decide) ?_
            refine z_calli hG (z_runS (As := [.int r16, .int 990]) (st := [.int 10]) hG k_L_42 (ML_part l hw) ⟨(Nat.le_of_ble_eq_true rfl), (Nat.le_of_ble_eq_true rfl)⟩ rfl (Nat.le_of_ble_eq_true rfl) dL_law_64 ⟨show 491 + 0 ≤ 600086 from by omega, show 212136 + 0 ≤ 7301442 from by omega⟩ rfl) (fun r18 σ17 hw => ?_)
            refine z_iadd hG dL_law_67 ?_
            refine z_topi (fun x19 ex19 => ?_)
            have hw := hw x19 ex19
            refine z_istore_n (lv' := [(2, .int x19), (1, .ref (za Y3 a1)), (0, .ref (E.2.2.2 1002))]) hG dL_law_68 rfl (by decide) rfl ?_
            refine z_aload_n hG dL_law_69 rfl 1 rfl ?_
            refine z_aload_n hG dL_law_70 rfl 2 rfl ?_
            refine z_iload_n hG dL_law_71 rfl 0 rfl ?_
            refine z_callAr hG (z_runS (As := [.ref (E.2.2.2 1002), .int x19]) (st := [.ref (za Y3 a1)]) hG k_L_218 (ML_text l hw) ⟨(Nat.le_of_ble_eq_true rfl), (Nat.le_of_ble_eq_true rfl)⟩ rfl (Nat.le_of_ble_eq_true rfl) dL_law_72 ⟨show 491 + 260 ≤ 600086 from by omega, show 212136 + 35166 ≤ 7301442 from by omega⟩ rfl) (fun Y20 r21 σ20 hx20 hr21 hw => ?_)
            refine zwiden (k := 751) (n := 247302) (show 491 + 260 ≤ 751 from by omega) (show 212136 + 35166 ≤ 247302 from by omega) ?_
            refine zst (st' := [.ref (za Y20 r21), .ref (za Y20 a1)]) (by simp only [hx20.a ha1]) ?_
            refine zlv (lv' := [(2, .int x19), (1, .ref (za Y20 a1)), (0, .ref (E.2.2.2 1002))]) (by simp only [hx20.a ha1]) ?_
            have ha1 := hx20.T ha1
            have hx := hx.tr hx20
            refine z_callAi hG (z_runSH (As := [.ref (za Y20 a1), .ref (za Y20 r21)]) (st := []) hG k_L_221 (ML_load l hlt ha1 hr21 hw) ⟨(Nat.le_of_ble_eq_true rfl), (Nat.le_of_ble_eq_true rfl)⟩ rfl (Nat.le_of_ble_eq_true rfl) dL_law_75 ⟨show 751 + 9 ≤ 600086 from by omega, show 247302 + 46 ≤ 7301442 from by omega⟩ rfl) (fun Y22 r23 σ22 hx22 hw => ?_)
            refine zwiden (k := 760) (n := 247348) (show 751 + 9 ≤ 760 from by omega) (show 247302 + 46 ≤ 247348 from by omega) ?_
            refine zlv (lv' := [(2, .int x19), (1, .ref (za Y22 a1)), (0, .ref (E.2.2.2 1002))]) (by simp only [hx22.a ha1]) ?_
            have ha1 := hx22.T ha1
            have hx := hx.tr hx22
            refine z_aload_n hG dL_law_78 rfl 2 rfl ?_
            refine z_calli hG (z_runS (As := [.ref (E.2.2.2 1002)]) (st := [.int r23]) hG k_L_96 (ML_lines l hw) ⟨(Nat.le_of_ble_eq_true rfl), (Nat.le_of_ble_eq_true rfl)⟩ rfl (Nat.le_of_ble_eq_true rfl) dL_law_79 ⟨show 760 + 0 ≤ 600086 from by omega, show 247348 + 0 ≤ 7301442 from by omega⟩ rfl) (fun r25 σ24 hw => ?_)
            refine z_icmp_ne (tgt := 116) hG dL_law_82 (by decide) (fun c46 => ?_) (fun c46 => ?_)
            · have hw := hw.2 c46
              refine z_iconst (v := 0) hG dL_law_116 (by decide) ?_
              exact hw.elim
            · have hw := hw.1 c46
              refine z_aload_n hG dL_law_85 rfl 1 rfl ?_
              refine z_calli hG (z_runV (As := []) (st := []) hG k_L_206 (MX11_positions l ha1 hw) ⟨(Nat.le_of_ble_eq_true rfl), (Nat.le_of_ble_eq_true rfl)⟩ ha1 (T := TX11) (N := 9) rfl (by decide) rfl (Nat.le_of_ble_eq_true rfl) dL_law_86 ⟨show 760 + 0 ≤ 600086 from by omega, show 247348 + 0 ≤ 7301442 from by omega⟩ rfl) (fun r27 σ26 hw => ?_)
              refine z_aload_n hG dL_law_89 rfl 2 rfl ?_
              refine z_calli hG (z_runS (As := [.ref (E.2.2.2 1002)]) (st := [.int r27]) hG k_L_46 (ML_positions l hw) ⟨(Nat.le_of_ble_eq_true rfl), (Nat.le_of_ble_eq_true rfl)⟩ rfl (Nat.le_of_ble_eq_true rfl) dL_law_90 ⟨show 760 + 0 ≤ 600086 from by omega, show 247348 + 0 ≤ 7301442 from by omega⟩ rfl) (fun r29 σ28 hw => ?_)
              refine z_icmp_ne (tgt := 116) hG dL_law_93 (by decide) (fun c45 => ?_) (fun c45 => ?_)
              · have hw := hw.2 c45
                refine z_iconst (v := 0) hG dL_law_116 (by decide) ?_
                exact hw.elim
              · have hw := hw.1 c45
                refine z_aload_n hG dL_law_96 rfl 1 rfl ?_
                refine z_iconst (v := 0) hG dL_law_97 (by decide) ?_
                refine z_calli hG (z_runV (As := [.int 0]) (st := []) hG k_L_223 (MX11_lineCount l ha1 hw) ⟨(Nat.le_of_ble_eq_true rfl), (Nat.le_of_ble_eq_true rfl)⟩ ha1 (T := TX11) (N := 9) rfl (by decide) rfl (Nat.le_of_ble_eq_true rfl) dL_law_98 ⟨show 760 + 0 ≤ 600086 from by omega, show 247348 + 0 ≤ 7301442 from by omega⟩ rfl) (fun r31 σ30 hw => ?_)
                refine z_aload_n hG dL_law_101 rfl 2 rfl ?_
                refine z_calli hG (z_runS (As := [.ref (E.2.2.2 1002)]) (st := [.int r31]) hG k_L_96 (ML_lines l hw) ⟨(Nat.le_of_ble_eq_true rfl), (Nat.le_of_ble_eq_true rfl)⟩ rfl (Nat.le_of_ble_eq_true rfl) dL_law_102 ⟨show 760 + 0 ≤ 600086 from by omega, show 247348 + 0 ≤ 7301442 from by omega⟩ rfl) (fun r33 σ32 hw => ?_)
                refine z_icmp_ne (tgt := 116) hG dL_law_105 (by decide) (fun c44 => ?_) (fun c44 => ?_)
                · have hw := hw.2 c44
                  refine z_iconst (v := 0) hG dL_law_116 (by decide) ?_
                  exact hw.elim
                · have hw := hw.1 c44
                  refine z_aload_n hG dL_law_108 rfl 1 rfl ?_
                  refine z_iconst (v := 1) hG dL_law_109 (by decide) ?_
                  refine z_calli hG (z_runV (As := [.int 1]) (st := []) hG k_L_223 (MX11_lineCount l ha1 hw) ⟨(Nat.le_of_ble_eq_true rfl), (Nat.le_of_ble_eq_true rfl)⟩ ha1 (T := TX11) (N := 9) rfl (by decide) rfl (Nat.le_of_ble_eq_true rfl) dL_law_110 ⟨show 760 + 0 ≤ 600086 from by omega, show 247348 + 0 ≤ 7301442 from by omega⟩ rfl) (fun r35 σ34 hw => ?_)
                  refine z_if_eq (tgt := 118) hG dL_law_113 (by decide) (fun c43 => ?_) (fun c43 => ?_)
                  · have hw := hw.1 c43
                    refine z_aload_n hG dL_law_118 rfl 1 rfl ?_
                    refine z_aload_n hG dL_law_119 rfl 2 rfl ?_
                    refine z_callAi hG (z_runS (As := [.ref (za Y22 a1), .ref (E.2.2.2 1002)]) (st := []) hG k_L_226 (ML_areRefused l hlt ha1 hw) ⟨(Nat.le_of_ble_eq_true rfl), (Nat.le_of_ble_eq_true rfl)⟩ rfl (Nat.le_of_ble_eq_true rfl) dL_law_120 ⟨show 760 + 15 ≤ 600086 from by omega, show 247348 + 90 ≤ 7301442 from by omega⟩ rfl) (fun Y36 r37 σ36 hx36 hw => ?_)
                    refine zwiden (k := 775) (n := 247438) (show 760 + 15 ≤ 775 from by omega) (show 247348 + 90 ≤ 247438 from by omega) ?_
                    refine zlv (lv' := [(2, .int x19), (1, .ref (za Y36 a1)), (0, .ref (E.2.2.2 1002))]) (by simp only [hx36.a ha1]) ?_
                    have ha1 := hx36.T ha1
                    have hx := hx.tr hx36
                    refine z_if_eq (tgt := 135) hG dL_law_123 (by decide) (fun c42 => ?_) (fun c42 => ?_)
                    · have hw := hw.1 c42
                      refine z_iconst (v := 0) hG dL_law_135 (by decide) ?_
                      exact hw.elim
                    · have hw := hw.2 c42
                      refine z_aload_n hG dL_law_126 rfl 1 rfl ?_
                      refine z_aload_n hG dL_law_127 rfl 2 rfl ?_
                      refine z_iload_n hG dL_law_128 rfl 0 rfl ?_
                      refine z_calli hG (z_runS (As := [.ref (za Y36 a1), .ref (E.2.2.2 1002), .int x19]) (st := []) hG k_L_230 (ML_areWheels l ha1 hw) ⟨(Nat.le_of_ble_eq_true rfl), (Nat.le_of_ble_eq_true rfl)⟩ rfl (Nat.le_of_ble_eq_true rfl) dL_law_129 ⟨show 775 + 0 ≤ 600086 from by omega, show 247438 + 0 ≤ 7301442 from by omega⟩ rfl) (fun r39 σ38 hw => ?_)
                      refine z_if_ne (tgt := 137) hG dL_law_132 (by decide) (fun c41 => ?_) (fun c41 => ?_)
                      · have hw := hw.2 c41
                        refine z_iconst (v := 0) hG dL_law_137 (by decide) ?_
                        refine z_istore_n (lv' := [(3, .int 0), (2, .int x19), (1, .ref (za Y36 a1)), (0, .ref (E.2.2.2 1002))]) hG dL_law_138 rfl (by decide) rfl ?_
                        refine z_iconst (v := 0) hG dL_law_139 (by decide) ?_
                        refine z_istore (lv' := [(4, .int 0), (3, .int 0), (2, .int x19), (1, .ref (za Y36 a1)), (0, .ref (E.2.2.2 1002))]) hG dL_law_140 (by decide) rfl ?_
                        obtain ⟨n40, hn40, hw⟩ := hw
                        refine zpick [4, 3, 1, 0] (lv' := [(0, .ref (E.2.2.2 1002)), (1, .ref (za Y36 a1)), (3, .int 0), (4, .int 0)]) rfl ?_
                        refine zwiden (k := 775) (n := 247438) (by omega) (by omega) ?_
                        exact BL_law_142 hlt hG hsc n40 a1 0 0 Y36 σ38 _ _ hw hx ha1 (by omega) (by omega)
                      · have hw := hw.1 c41
                        refine z_iconst (v := 0) hG dL_law_135 (by decide) ?_
                        exact hw.elim
                  · have hw := hw.2 c43
                    refine z_iconst (v := 0) hG dL_law_116 (by decide) ?_
                    exact hw.elim
          · have hw := hw.2 c47
            refine z_iconst (v := 0) hG dL_law_51 (by decide) ?_
            exact hw.elim
