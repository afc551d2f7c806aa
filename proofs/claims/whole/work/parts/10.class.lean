-- java/lang/Math.floorMod(II)I
def wJ9_floorMod_7cf53 (ln : Nat → Nat) (σ : zS) (v0 : Int32) (v1 : Int32) (Q : Int32 → zS → Prop) : Prop := ¬ v1 = 0 ∧ ∀ x2 : Int32, x2 = v0 - v0 / v1 * v1 → ((0 ≤ (v0 ^^^ v1) → Q x2 σ) ∧ (¬ 0 ≤ (v0 ^^^ v1) → ((x2 = 0 → Q x2 σ) ∧ (¬ x2 = 0 → Q (x2 + v1) σ))))
abbrev rJ9_floorMod_7cf53 : Room := { frames := 0, cells := 0, slots := 0, locals := 0 }
set_option maxRecDepth 100000 in
set_option maxHeartbeats 4000000 in
theorem MJ9_floorMod_7cf53 (l : Launch) {E : zE} {Y : zY} {σ : zS} {v0 : Int32} {v1 : Int32} {Q : Int32 → zS → Prop} (hw : wJ9_floorMod_7cf53 (zln Y) σ v0 v1 Q) : ∀ sz, Met l yJ9_floorMod_7cf53 (zw yJ9_floorMod_7cf53 cJ9_floorMod_7cf53 3 (some .int)) rJ9_floorMod_7cf53 (zPc E Y σ sz [.int v0, .int v1]) (va_Qi Q (zB E Y sz) (zA Y sz)) 0 0 (zA Y sz) := by
  refine z_metF (own := RJ9) (Qc := fun sz => va_Qi Q (zB E Y sz) (zA Y sz)) (by decide +kernel) rfl (Nat.le_of_ble_eq_true rfl) ?_
  intro p e s m args below meth c hG hinit
  unfold wJ9_floorMod_7cf53 at hw
  refine zlv (lv' := [(0, .int v0), (1, .int v1)]) rfl ?_
  refine z_iload_n hG dJ9_floorMod_7cf53_0 rfl 0 rfl ?_
  refine z_iload_n hG dJ9_floorMod_7cf53_1 rfl 1 rfl ?_
  obtain ⟨q1, hw⟩ := hw
  refine z_irem hG dJ9_floorMod_7cf53_2 q1 ?_
  refine z_topi (fun x2 ex2 => ?_)
  have hw := hw x2 ex2
  refine z_istore_n (lv' := [(2, .int x2), (0, .int v0), (1, .int v1)]) hG dJ9_floorMod_7cf53_3 rfl (by decide) rfl ?_
  refine z_iload_n hG dJ9_floorMod_7cf53_4 rfl 1 rfl ?_
  refine z_iload_n hG dJ9_floorMod_7cf53_5 rfl 2 rfl ?_
  refine z_ixor hG dJ9_floorMod_7cf53_6 ?_
  refine z_if_ge (tgt := 18) hG dJ9_floorMod_7cf53_7 (by decide) (fun c4 => ?_) (fun c4 => ?_)
  · have hw := hw.1 c4
    refine z_iload_n hG dJ9_floorMod_7cf53_18 rfl 0 rfl ?_
    exact z_iret hG rfl rfl dJ9_floorMod_7cf53_19 hw
  · have hw := hw.2 c4
    refine z_iload_n hG dJ9_floorMod_7cf53_10 rfl 0 rfl ?_
    refine z_if_eq (tgt := 18) hG dJ9_floorMod_7cf53_11 (by decide) (fun c3 => ?_) (fun c3 => ?_)
    · have hw := hw.1 c3
      refine z_iload_n hG dJ9_floorMod_7cf53_18 rfl 0 rfl ?_
      exact z_iret hG rfl rfl dJ9_floorMod_7cf53_19 hw
    · have hw := hw.2 c3
      refine z_iload_n hG dJ9_floorMod_7cf53_14 rfl 0 rfl ?_
      refine z_iload_n hG dJ9_floorMod_7cf53_15 rfl 2 rfl ?_
      refine z_iadd hG dJ9_floorMod_7cf53_16 ?_
      exact z_iret hG rfl rfl dJ9_floorMod_7cf53_17 hw
-- TypeWheelTelegraph$Row.clear()V
def wX9_clear (ln : Nat → Nat) (σ : zS) (t0 : Nat) (Q : zS → Prop) : Prop := ∀ σ1 : zS, σ1 = si σ t0 1 0 → Q σ1
abbrev rX9_clear : Room := { frames := 0, cells := 0, slots := 0, locals := 0 }
set_option maxRecDepth 100000 in
set_option maxHeartbeats 4000000 in
theorem MX9_clear (l : Launch) {E : zE} {Y : zY} {σ : zS} {t0 : Nat} (h0 : zT Y 9 t0) {Q : zS → Prop} (hw : wX9_clear (zln Y) σ t0 Q) : ∀ sz, Met l yX9_clear (zw yX9_clear cX9_clear 1 none) rX9_clear (zPc E Y σ sz [.ref (za Y t0)]) (va_Qv Q (zB E Y sz) (zA Y sz)) 0 0 (zA Y sz) := by
  refine z_met (own := RX9) (Qc := fun sz => va_Qv Q (zB E Y sz) (zA Y sz)) (by decide +kernel) rfl (Nat.le_of_ble_eq_true rfl) ?_
  intro p e s m args below meth c hG hinit
  unfold wX9_clear at hw
  refine zlv (lv' := [(0, .ref (za Y t0))]) rfl ?_
  refine z_aload_n hG dX9_clear_0 rfl 0 rfl ?_
  refine z_iconst (v := 0) hG dX9_clear_1 (by decide) ?_
  refine z_puti hG f_X9_21 h0 rfl rfl (zN_int _) dX9_clear_2 ?_
  refine z_topσ (fun σ1 eσ1 => ?_)
  have hw := hw σ1 eσ1
  exact z_vret hG rfl dX9_clear_5 hw
-- TypeWheelTelegraph$Desk.reset()V
def wX0_reset (ln : Nat → Nat) (σ : zS) (t0 : Nat) (Q : zS → Prop) : Prop := ∀ σ1 : zS, σ1 = si σ t0 0 0 → ∀ σ2 : zS, σ2 = si σ1 t0 1 100 → ∀ σ3 : zS, σ3 = si σ2 t0 2 0 → Q σ3
abbrev rX0_reset : Room := { frames := 0, cells := 0, slots := 0, locals := 0 }
set_option maxRecDepth 100000 in
set_option maxHeartbeats 4000000 in
theorem MX0_reset (l : Launch) {E : zE} {Y : zY} {σ : zS} {t0 : Nat} (h0 : zT Y 0 t0) {Q : zS → Prop} (hw : wX0_reset (zln Y) σ t0 Q) : ∀ sz, Met l yX0_reset (zw yX0_reset cX0_reset 1 none) rX0_reset (zPc E Y σ sz [.ref (za Y t0)]) (va_Qv Q (zB E Y sz) (zA Y sz)) 0 0 (zA Y sz) := by
  refine z_met (own := RX0) (Qc := fun sz => va_Qv Q (zB E Y sz) (zA Y sz)) (by decide +kernel) rfl (Nat.le_of_ble_eq_true rfl) ?_
  intro p e s m args below meth c hG hinit
  unfold wX0_reset at hw
  refine zlv (lv' := [(0, .ref (za Y t0))]) rfl ?_
  refine z_aload_n hG dX0_reset_0 rfl 0 rfl ?_
  refine z_iconst (v := 0) hG dX0_reset_1 (by decide) ?_
  refine z_puti hG f_X0_18 h0 rfl rfl (zN_int _) dX0_reset_2 ?_
  refine z_topσ (fun σ1 eσ1 => ?_)
  have hw := hw σ1 eσ1
  refine z_aload_n hG dX0_reset_5 rfl 0 rfl ?_
  refine z_bipush (v := 100) hG dX0_reset_6 (by decide) ?_
  refine z_puti hG f_X0_22 h0 rfl rfl (zN_int _) dX0_reset_8 ?_
  refine z_topσ (fun σ2 eσ2 => ?_)
  have hw := hw σ2 eσ2
  refine z_aload_n hG dX0_reset_11 rfl 0 rfl ?_
  refine z_iconst (v := 0) hG dX0_reset_12 (by decide) ?_
  refine z_puti hG f_X0_25 h0 rfl rfl (zN_int _) dX0_reset_13 ?_
  refine z_topσ (fun σ3 eσ3 => ?_)
  have hw := hw σ3 eσ3
  exact z_vret hG rfl dX0_reset_16 hw
-- TypeWheelTelegraph$Plan.reset()V
def wX6_reset (ln : Nat → Nat) (σ : zS) (t0 : Nat) (Q : zS → Prop) : Prop := ∀ σ1 : zS, σ1 = si σ t0 0 28 → ∀ σ2 : zS, σ2 = si σ1 t0 1 1 → ∀ σ3 : zS, σ3 = si σ2 t0 2 200 → ∀ σ4 : zS, σ4 = si σ3 t0 3 600 → ∀ σ5 : zS, σ5 = si σ4 t0 4 2 → ∃ j6 : Nat, gr σ5 t0 5 = some j6 ∧ wX9_clear ln σ5 j6 (fun σ7 => ∃ j8 : Nat, gr σ7 t0 6 = some j8 ∧ wX0_reset ln σ7 j8 (fun σ9 => ∃ j10 : Nat, gr σ9 t0 7 = some j10 ∧ wX0_reset ln σ9 j10 (fun σ11 => Q σ11)))
abbrev rX6_reset : Room := { frames := 1, cells := 0, slots := 0, locals := 20 }
set_option maxRecDepth 100000 in
set_option maxHeartbeats 4000000 in
theorem MX6_reset (l : Launch) {E : zE} {Y : zY} {σ : zS} {t0 : Nat} (h0 : zT Y 6 t0) {Q : zS → Prop} (hw : wX6_reset (zln Y) σ t0 Q) : ∀ sz, Met l yX6_reset (zw yX6_reset cX6_reset 1 none) rX6_reset (zPc E Y σ sz [.ref (za Y t0)]) (va_Qv Q (zB E Y sz) (zA Y sz)) 0 0 (zA Y sz) := by
  refine z_met (own := RX6) (Qc := fun sz => va_Qv Q (zB E Y sz) (zA Y sz)) (by decide +kernel) rfl (Nat.le_of_ble_eq_true rfl) ?_
  intro p e s m args below meth c hG hinit
  unfold wX6_reset at hw
  refine zlv (lv' := [(0, .ref (za Y t0))]) rfl ?_
  refine z_aload_n hG dX6_reset_0 rfl 0 rfl ?_
  refine z_bipush (v := 28) hG dX6_reset_1 (by decide) ?_
  refine z_puti hG f_X6_33 h0 rfl rfl (zN_int _) dX6_reset_3 ?_
  refine z_topσ (fun σ1 eσ1 => ?_)
  have hw := hw σ1 eσ1
  refine z_aload_n hG dX6_reset_6 rfl 0 rfl ?_
  refine z_iconst (v := 1) hG dX6_reset_7 (by decide) ?_
  refine z_puti hG f_X6_37 h0 rfl rfl (zN_int _) dX6_reset_8 ?_
  refine z_topσ (fun σ2 eσ2 => ?_)
  have hw := hw σ2 eσ2
  refine z_aload_n hG dX6_reset_11 rfl 0 rfl ?_
  refine z_sipush (v := 200) hG dX6_reset_12 (by decide) ?_
  refine z_puti hG f_X6_40 h0 rfl rfl (zN_int _) dX6_reset_15 ?_
  refine z_topσ (fun σ3 eσ3 => ?_)
  have hw := hw σ3 eσ3
  refine z_aload_n hG dX6_reset_18 rfl 0 rfl ?_
  refine z_sipush (v := 600) hG dX6_reset_19 (by decide) ?_
  refine z_puti hG f_X6_43 h0 rfl rfl (zN_int _) dX6_reset_22 ?_
  refine z_topσ (fun σ4 eσ4 => ?_)
  have hw := hw σ4 eσ4
  refine z_aload_n hG dX6_reset_25 rfl 0 rfl ?_
  refine z_iconst (v := 2) hG dX6_reset_26 (by decide) ?_
  refine z_puti hG f_X6_46 h0 rfl rfl (zN_int _) dX6_reset_27 ?_
  refine z_topσ (fun σ5 eσ5 => ?_)
  have hw := hw σ5 eσ5
  refine z_aload_n hG dX6_reset_30 rfl 0 rfl ?_
  obtain ⟨j6, ej6, hw⟩ := hw
  refine z_getr (kq := 9) hG f_X6_14 h0 rfl ej6 rfl (by decide) dX6_reset_31 (fun hj6 => ?_)
  refine z_callv hG (z_runV (As := []) (st := []) hG k_X6_49 (MX9_clear l hj6 hw) ⟨(Nat.le_of_ble_eq_true rfl), (Nat.le_of_ble_eq_true rfl)⟩ hj6 (T := TX9) (N := 2) rfl (by decide) rfl (Nat.le_of_ble_eq_true rfl) dX6_reset_34 ⟨Nat.zero_le _, Nat.zero_le _⟩ rfl) (fun σ7 hw => ?_)
  refine z_aload_n hG dX6_reset_37 rfl 0 rfl ?_
  obtain ⟨j8, ej8, hw⟩ := hw
  refine z_getr (kq := 0) hG f_X6_23 h0 rfl ej8 rfl (by decide) dX6_reset_38 (fun hj8 => ?_)
  refine z_callv hG (z_runV (As := []) (st := []) hG k_X6_52 (MX0_reset l hj8 hw) ⟨(Nat.le_of_ble_eq_true rfl), (Nat.le_of_ble_eq_true rfl)⟩ hj8 (T := TX0) (N := 4) rfl (by decide) rfl (Nat.le_of_ble_eq_true rfl) dX6_reset_41 ⟨Nat.zero_le _, Nat.zero_le _⟩ rfl) (fun σ9 hw => ?_)
  refine z_aload_n hG dX6_reset_44 rfl 0 rfl ?_
  obtain ⟨j10, ej10, hw⟩ := hw
  refine z_getr (kq := 0) hG f_X6_27 h0 rfl ej10 rfl (by decide) dX6_reset_45 (fun hj10 => ?_)
  refine z_callv hG (z_runV (As := []) (st := []) hG k_X6_52 (MX0_reset l hj10 hw) ⟨(Nat.le_of_ble_eq_true rfl), (Nat.le_of_ble_eq_true rfl)⟩ hj10 (T := TX0) (N := 4) rfl (by decide) rfl (Nat.le_of_ble_eq_true rfl) dX6_reset_48 ⟨Nat.zero_le _, Nat.zero_le _⟩ rfl) (fun σ11 hw => ?_)
  exact z_vret hG rfl dX6_reset_51 hw
-- TypeWheelTelegraph$Office.begin(LTypeWheelTelegraph$Desk;)V
def wX4_begin (ln : Nat → Nat) (σ : zS) (t0 : Nat) (t1 : Nat) (Q : zS → Prop) : Prop := ∀ x1 : Int32, x1 = gi σ t1 0 → ∀ σ2 : zS, σ2 = si σ t0 0 x1 → ∀ x3 : Int32, x3 = gi σ2 t1 1 → ∀ σ4 : zS, σ4 = si σ2 t0 1 x3 → ∀ σ5 : zS, σ5 = si σ4 t0 2 0 → ∀ σ6 : zS, σ6 = si σ5 t0 3 0 → ∀ σ7 : zS, σ7 = si σ6 t0 4 0 → ∀ σ8 : zS, σ8 = si σ7 t0 5 0 → ∀ σ9 : zS, σ9 = sl σ8 t0 6 0 → ∃ j10 : Nat, gr σ9 t0 7 = some j10 ∧ wX9_clear ln σ9 j10 (fun σ11 => Q σ11)
abbrev rX4_begin : Room := { frames := 1, cells := 0, slots := 0, locals := 20 }
set_option maxRecDepth 100000 in
set_option maxHeartbeats 4000000 in
theorem MX4_begin (l : Launch) {E : zE} {Y : zY} {σ : zS} {t0 : Nat} {t1 : Nat} (h0 : zT Y 4 t0) (h1 : zT Y 0 t1) {Q : zS → Prop} (hw : wX4_begin (zln Y) σ t0 t1 Q) : ∀ sz, Met l yX4_begin (zw yX4_begin cX4_begin 2 none) rX4_begin (zPc E Y σ sz [.ref (za Y t0), .ref (za Y t1)]) (va_Qv Q (zB E Y sz) (zA Y sz)) 0 0 (zA Y sz) := by
  refine z_met (own := RX4) (Qc := fun sz => va_Qv Q (zB E Y sz) (zA Y sz)) (by decide +kernel) rfl (Nat.le_of_ble_eq_true rfl) ?_
  intro p e s m args below meth c hG hinit
  unfold wX4_begin at hw
  refine zlv (lv' := [(0, .ref (za Y t0)), (1, .ref (za Y t1))]) rfl ?_
  refine z_aload_n hG dX4_begin_0 rfl 0 rfl ?_
  refine z_aload_n hG dX4_begin_1 rfl 1 rfl ?_
  refine z_geti hG f_X4_20 h1 rfl dX4_begin_2 ?_
  refine z_topi (fun x1 ex1 => ?_)
  have hw := hw x1 ex1
  refine z_puti hG f_X4_26 h0 rfl rfl (zN_int _) dX4_begin_5 ?_
  refine z_topσ (fun σ2 eσ2 => ?_)
  have hw := hw σ2 eσ2
  refine z_aload_n hG dX4_begin_8 rfl 0 rfl ?_
  refine z_aload_n hG dX4_begin_9 rfl 1 rfl ?_
  refine z_geti hG f_X4_27 h1 rfl dX4_begin_10 ?_
  refine z_topi (fun x3 ex3 => ?_)
  have hw := hw x3 ex3
  refine z_puti hG f_X4_30 h0 rfl rfl (zN_int _) dX4_begin_13 ?_
  refine z_topσ (fun σ4 eσ4 => ?_)
  have hw := hw σ4 eσ4
  refine z_aload_n hG dX4_begin_16 rfl 0 rfl ?_
  refine z_iconst (v := 0) hG dX4_begin_17 (by decide) ?_
  refine z_puti hG f_X4_31 h0 rfl rfl (zN_int _) dX4_begin_18 ?_
  refine z_topσ (fun σ5 eσ5 => ?_)
  have hw := hw σ5 eσ5
  refine z_aload_n hG dX4_begin_21 rfl 0 rfl ?_
  refine z_iconst (v := 0) hG dX4_begin_22 (by decide) ?_
  refine z_puti hG f_X4_34 h0 rfl rfl (zN_int _) dX4_begin_23 ?_
  refine z_topσ (fun σ6 eσ6 => ?_)
  have hw := hw σ6 eσ6
  refine z_aload_n hG dX4_begin_26 rfl 0 rfl ?_
  refine z_iconst (v := 0) hG dX4_begin_27 (by decide) ?_
  refine z_puti hG f_X4_37 h0 rfl rfl (zN_int _) dX4_begin_28 ?_
  refine z_topσ (fun σ7 eσ7 => ?_)
  have hw := hw σ7 eσ7
  refine z_aload_n hG dX4_begin_31 rfl 0 rfl ?_
  refine z_iconst (v := 0) hG dX4_begin_32 (by decide) ?_
  refine z_puti hG f_X4_40 h0 rfl rfl (zN_int _) dX4_begin_33 ?_
  refine z_topσ (fun σ8 eσ8 => ?_)
  have hw := hw σ8 eσ8
  refine z_aload_n hG dX4_begin_36 rfl 0 rfl ?_
  refine z_lconst (v := 0) hG dX4_begin_37 (by decide) ?_
  refine z_putl hG f_X4_43 h0 rfl rfl rfl dX4_begin_38 ?_
  refine z_topσ (fun σ9 eσ9 => ?_)
  have hw := hw σ9 eσ9
  refine z_aload_n hG dX4_begin_41 rfl 0 rfl ?_
  obtain ⟨j10, ej10, hw⟩ := hw
  refine z_getr (kq := 9) hG f_X4_16 h0 rfl ej10 rfl (by decide) dX4_begin_42 (fun hj10 => ?_)
  refine z_callv hG (z_runV (As := []) (st := []) hG k_X4_47 (MX9_clear l hj10 hw) ⟨(Nat.le_of_ble_eq_true rfl), (Nat.le_of_ble_eq_true rfl)⟩ hj10 (T := TX9) (N := 2) rfl (by decide) rfl (Nat.le_of_ble_eq_true rfl) dX4_begin_45 ⟨Nat.zero_le _, Nat.zero_le _⟩ rfl) (fun σ11 hw => ?_)
  exact z_vret hG rfl dX4_begin_48 hw
-- TypeWheelTelegraph$Records.clear()V
def wX8_clear (ln : Nat → Nat) (σ : zS) (t0 : Nat) (Q : zS → Prop) : Prop := ∀ σ1 : zS, σ1 = si σ t0 2 0 → ∀ σ2 : zS, σ2 = si σ1 t0 3 0 → Q σ2
abbrev rX8_clear : Room := { frames := 0, cells := 0, slots := 0, locals := 0 }
set_option maxRecDepth 100000 in
set_option maxHeartbeats 4000000 in
theorem MX8_clear (l : Launch) {E : zE} {Y : zY} {σ : zS} {t0 : Nat} (h0 : zT Y 8 t0) {Q : zS → Prop} (hw : wX8_clear (zln Y) σ t0 Q) : ∀ sz, Met l yX8_clear (zw yX8_clear cX8_clear 1 none) rX8_clear (zPc E Y σ sz [.ref (za Y t0)]) (va_Qv Q (zB E Y sz) (zA Y sz)) 0 0 (zA Y sz) := by
  refine z_met (own := RX8) (Qc := fun sz => va_Qv Q (zB E Y sz) (zA Y sz)) (by decide +kernel) rfl (Nat.le_of_ble_eq_true rfl) ?_
  intro p e s m args below meth c hG hinit
  unfold wX8_clear at hw
  refine zlv (lv' := [(0, .ref (za Y t0))]) rfl ?_
  refine z_aload_n hG dX8_clear_0 rfl 0 rfl ?_
  refine z_iconst (v := 0) hG dX8_clear_1 (by decide) ?_
  refine z_puti hG f_X8_35 h0 rfl rfl (zN_int _) dX8_clear_2 ?_
  refine z_topσ (fun σ1 eσ1 => ?_)
  have hw := hw σ1 eσ1
  refine z_aload_n hG dX8_clear_5 rfl 0 rfl ?_
  refine z_iconst (v := 0) hG dX8_clear_6 (by decide) ?_
  refine z_puti hG f_X8_25 h0 rfl rfl (zN_int _) dX8_clear_7 ?_
  refine z_topσ (fun σ2 eσ2 => ?_)
  have hw := hw σ2 eσ2
  exact z_vret hG rfl dX8_clear_10 hw
-- TypeWheelTelegraph$Row.copyFrom(LTypeWheelTelegraph$Row;)V
def wX9_copyFrom (ln : Nat → Nat) (σ : zS) (t0 : Nat) (t1 : Nat) (Q : zS → Prop) : Prop := ∃ j1 : Nat, gr σ t1 0 = some j1 ∧ ∃ j2 : Nat, gr σ t0 0 = some j2 ∧ ∀ x3 : Int32, x3 = nI (ln j2) → ∀ x4 : Int32, x4 = nI (ln j1) → ∀ x5 : Int32, x5 = (if x3 < x4 then x3 else x4) → ∀ x6 : Int32, x6 = gi σ t1 1 → ∀ x7 : Int32, x7 = (if x5 < x6 then x5 else x6) → ∀ σ8 : zS, σ8 = si σ t0 1 x7 → ∃ j9 : Nat, gr σ8 t1 0 = some j9 ∧ ∃ j10 : Nat, gr σ8 t0 0 = some j10 ∧ ∀ x11 : Int32, x11 = gi σ8 t0 1 → (¬ (0 : Int32) < 0 ∧ ¬ (0 : Int32) < 0 ∧ ¬ x11 < 0 ∧ (0 : Int32).toNatClampNeg + x11.toNatClampNeg ≤ ln j9 ∧ (0 : Int32).toNatClampNeg + x11.toNatClampNeg ≤ ln j10) ∧ ∀ σ17 : zS, σ17 = sI σ8 j10 (va_cpy (gi σ8 j9) (gi σ8 j10) (0 : Int32).toNatClampNeg (0 : Int32).toNatClampNeg x11.toNatClampNeg) → Q σ17
abbrev rX9_copyFrom : Room := { frames := 1, cells := 0, slots := 0, locals := 48 }
set_option maxRecDepth 100000 in
set_option maxHeartbeats 4000000 in
theorem MX9_copyFrom (l : Launch) {E : zE} {Y : zY} {σ : zS} {t0 : Nat} {t1 : Nat} (h0 : zT Y 9 t0) (h1 : zT Y 9 t1) {Q : zS → Prop} (hw : wX9_copyFrom (zln Y) σ t0 t1 Q) : ∀ sz, Met l yX9_copyFrom (zw yX9_copyFrom cX9_copyFrom 2 none) rX9_copyFrom (zPc E Y σ sz [.ref (za Y t0), .ref (za Y t1)]) (va_Qv Q (zB E Y sz) (zA Y sz)) 0 0 (zA Y sz) := by
  refine z_met (own := RX9) (Qc := fun sz => va_Qv Q (zB E Y sz) (zA Y sz)) (by decide +kernel) rfl (Nat.le_of_ble_eq_true rfl) ?_
  intro p e s m args below meth c hG hinit
  unfold wX9_copyFrom at hw
  refine zlv (lv' := [(0, .ref (za Y t0)), (1, .ref (za Y t1))]) rfl ?_
  refine z_aload_n hG dX9_copyFrom_0 rfl 0 rfl ?_
  refine z_aload_n hG dX9_copyFrom_1 rfl 1 rfl ?_
  refine z_geti hG f_X9_21 h1 rfl dX9_copyFrom_2 ?_
  refine z_aload_n hG dX9_copyFrom_5 rfl 1 rfl ?_
  obtain ⟨j1, ej1, hw⟩ := hw
  refine z_getr (kq := 20) hG f_X9_15 h1 rfl ej1 rfl (by decide) dX9_copyFrom_6 (fun hj1 => ?_)
  refine z_alen hG hj1 (by decide) (t0 := 0) rfl dX9_copyFrom_9 ?_
  refine z_aload_n hG dX9_copyFrom_10 rfl 0 rfl ?_
  obtain ⟨j2, ej2, hw⟩ := hw
  refine z_getr (kq := 20) hG f_X9_15 h0 rfl ej2 rfl (by decide) dX9_copyFrom_11 (fun hj2 => ?_)
  refine z_alen hG hj2 (by decide) (t0 := 0) rfl dX9_copyFrom_14 ?_
  refine z_topi (fun x3 ex3 => ?_)
  have hw := hw x3 ex3
  obtain ⟨x4, ex4⟩ : ∃ y : Int32, y = nI ((zln Y) j1) := ⟨_, rfl⟩
  refine zst (st' := [.int x3, .int x4, .int (gi σ t1 1), .ref (za Y t0)]) (by rw [ex4]) ?_
  have hw := hw x4 ex4
  refine z_mmin hG k_X9_29 km_min_s km_i km_min_c (Nat.le_of_ble_eq_true rfl) (Nat.le_of_ble_eq_true rfl) (Nat.zero_le _) (Nat.zero_le _) dX9_copyFrom_15 ?_
  refine z_topi (fun x5 ex5 => ?_)
  have hw := hw x5 ex5
  obtain ⟨x6, ex6⟩ : ∃ y : Int32, y = gi σ t1 1 := ⟨_, rfl⟩
  refine zst (st' := [.int x5, .int x6, .ref (za Y t0)]) (by rw [ex6]) ?_
  have hw := hw x6 ex6
  refine z_mmin hG k_X9_29 km_min_s km_i km_min_c (Nat.le_of_ble_eq_true rfl) (Nat.le_of_ble_eq_true rfl) (Nat.zero_le _) (Nat.zero_le _) dX9_copyFrom_18 ?_
  refine z_topi (fun x7 ex7 => ?_)
  have hw := hw x7 ex7
  refine z_puti hG f_X9_21 h0 rfl rfl (zN_int _) dX9_copyFrom_21 ?_
  refine z_topσ (fun σ8 eσ8 => ?_)
  have hw := hw σ8 eσ8
  refine z_aload_n hG dX9_copyFrom_24 rfl 1 rfl ?_
  obtain ⟨j9, ej9, hw⟩ := hw
  refine z_getr (kq := 20) hG f_X9_15 h1 rfl ej9 rfl (by decide) dX9_copyFrom_25 (fun hj9 => ?_)
  refine z_iconst (v := 0) hG dX9_copyFrom_28 (by decide) ?_
  refine z_aload_n hG dX9_copyFrom_29 rfl 0 rfl ?_
  obtain ⟨j10, ej10, hw⟩ := hw
  refine z_getr (kq := 20) hG f_X9_15 h0 rfl ej10 rfl (by decide) dX9_copyFrom_30 (fun hj10 => ?_)
  refine z_iconst (v := 0) hG dX9_copyFrom_33 (by decide) ?_
  refine z_aload_n hG dX9_copyFrom_34 rfl 0 rfl ?_
  refine z_geti hG f_X9_21 h0 rfl dX9_copyFrom_35 ?_
  refine z_topi (fun x11 ex11 => ?_)
  have hw := hw x11 ex11
  obtain ⟨⟨q12, q13, q14, q15, q16⟩, hw⟩ := hw
  refine z_copyi hG k_X9_32 ks_n ks_s ks_i hj9 hj10 q12 q13 q14 q15 q16 (by decide +kernel) (by decide +kernel) dX9_copyFrom_38 ?_
  refine z_topσ (fun σ17 eσ17 => ?_)
  have hw := hw σ17 eσ17
  exact z_vret hG rfl dX9_copyFrom_41 hw
-- TypeWheelTelegraph$Receiver.clear()V
def wX7_clear (ln : Nat → Nat) (σ : zS) (t0 : Nat) (Q : zS → Prop) : Prop := ∃ j1 : Nat, gr σ t0 0 = some j1 ∧ wX9_clear ln σ j1 (fun σ2 => ∀ σ3 : zS, σ3 = si σ2 t0 1 0 → ∀ σ4 : zS, σ4 = si σ3 t0 2 0 → ∀ σ5 : zS, σ5 = si σ4 t0 3 0 → Q σ5)
abbrev rX7_clear : Room := { frames := 1, cells := 0, slots := 0, locals := 20 }
set_option maxRecDepth 100000 in
set_option maxHeartbeats 4000000 in
theorem MX7_clear (l : Launch) {E : zE} {Y : zY} {σ : zS} {t0 : Nat} (h0 : zT Y 7 t0) {Q : zS → Prop} (hw : wX7_clear (zln Y) σ t0 Q) : ∀ sz, Met l yX7_clear (zw yX7_clear cX7_clear 1 none) rX7_clear (zPc E Y σ sz [.ref (za Y t0)]) (va_Qv Q (zB E Y sz) (zA Y sz)) 0 0 (zA Y sz) := by
  refine z_met (own := RX7) (Qc := fun sz => va_Qv Q (zB E Y sz) (zA Y sz)) (by decide +kernel) rfl (Nat.le_of_ble_eq_true rfl) ?_
  intro p e s m args below meth c hG hinit
  unfold wX7_clear at hw
  refine zlv (lv' := [(0, .ref (za Y t0))]) rfl ?_
  refine z_aload_n hG dX7_clear_0 rfl 0 rfl ?_
  obtain ⟨j1, ej1, hw⟩ := hw
  refine z_getr (kq := 9) hG f_X7_16 h0 rfl ej1 rfl (by decide) dX7_clear_1 (fun hj1 => ?_)
  refine z_callv hG (z_runV (As := []) (st := []) hG k_X7_20 (MX9_clear l hj1 hw) ⟨(Nat.le_of_ble_eq_true rfl), (Nat.le_of_ble_eq_true rfl)⟩ hj1 (T := TX9) (N := 2) rfl (by decide) rfl (Nat.le_of_ble_eq_true rfl) dX7_clear_4 ⟨Nat.zero_le _, Nat.zero_le _⟩ rfl) (fun σ2 hw => ?_)
  refine z_aload_n hG dX7_clear_7 rfl 0 rfl ?_
  refine z_iconst (v := 0) hG dX7_clear_8 (by decide) ?_
  refine z_puti hG f_X7_23 h0 rfl rfl (zN_int _) dX7_clear_9 ?_
  refine z_topσ (fun σ3 eσ3 => ?_)
  have hw := hw σ3 eσ3
  refine z_aload_n hG dX7_clear_12 rfl 0 rfl ?_
  refine z_iconst (v := 0) hG dX7_clear_13 (by decide) ?_
  refine z_puti hG f_X7_27 h0 rfl rfl (zN_int _) dX7_clear_14 ?_
  refine z_topσ (fun σ4 eσ4 => ?_)
  have hw := hw σ4 eσ4
  refine z_aload_n hG dX7_clear_17 rfl 0 rfl ?_
  refine z_iconst (v := 0) hG dX7_clear_18 (by decide) ?_
  refine z_puti hG f_X7_30 h0 rfl rfl (zN_b (by decide)) dX7_clear_19 ?_
  refine z_topσ (fun σ5 eσ5 => ?_)
  have hw := hw σ5 eσ5
  exact z_vret hG rfl dX7_clear_22 hw
-- TypeWheelTelegraph$Machine.endTransmission()V
def wX3_endTransmission (ln : Nat → Nat) (σ : zS) (t0 : Nat) (Q : zS → Prop) : Prop := ∀ σ1 : zS, σ1 = si σ t0 3 (-1) → ∀ σ2 : zS, σ2 = si σ1 t0 4 0 → ∀ σ3 : zS, σ3 = si σ2 t0 6 0 → ∀ σ4 : zS, σ4 = si σ3 t0 7 0 → ∃ j5 : Nat, gr σ4 t0 13 = some j5 ∧ wX7_clear ln σ4 j5 (fun σ6 => ∃ j7 : Nat, gr σ6 t0 14 = some j7 ∧ wX8_clear ln σ6 j7 (fun σ8 => Q σ8))
abbrev rX3_endTransmission : Room := { frames := 2, cells := 0, slots := 0, locals := 40 }
set_option maxRecDepth 100000 in
set_option maxHeartbeats 4000000 in
theorem MX3_endTransmission (l : Launch) {E : zE} {Y : zY} {σ : zS} {t0 : Nat} (h0 : zT Y 3 t0) {Q : zS → Prop} (hw : wX3_endTransmission (zln Y) σ t0 Q) : ∀ sz, Met l yX3_endTransmission (zw yX3_endTransmission cX3_endTransmission 1 none) rX3_endTransmission (zPc E Y σ sz [.ref (za Y t0)]) (va_Qv Q (zB E Y sz) (zA Y sz)) 0 0 (zA Y sz) := by
  refine z_met (own := RX3) (Qc := fun sz => va_Qv Q (zB E Y sz) (zA Y sz)) (by decide +kernel) rfl (Nat.le_of_ble_eq_true rfl) ?_
  intro p e s m args below meth c hG hinit
  unfold wX3_endTransmission at hw
  refine zlv (lv' := [(0, .ref (za Y t0))]) rfl ?_
  refine z_aload_n hG dX3_endTransmission_0 rfl 0 rfl ?_
  refine z_iconst (v := (-1)) hG dX3_endTransmission_1 (by decide) ?_
  refine z_puti hG f_X3_9 h0 rfl rfl (zN_int _) dX3_endTransmission_2 ?_
  refine z_topσ (fun σ1 eσ1 => ?_)
  have hw := hw σ1 eσ1
  refine z_aload_n hG dX3_endTransmission_5 rfl 0 rfl ?_
  refine z_iconst (v := 0) hG dX3_endTransmission_6 (by decide) ?_
  refine z_puti hG f_X3_96 h0 rfl rfl (zN_b (by decide)) dX3_endTransmission_7 ?_
  refine z_topσ (fun σ2 eσ2 => ?_)
  have hw := hw σ2 eσ2
  refine z_aload_n hG dX3_endTransmission_10 rfl 0 rfl ?_
  refine z_iconst (v := 0) hG dX3_endTransmission_11 (by decide) ?_
  refine z_puti hG f_X3_103 h0 rfl rfl (zN_int _) dX3_endTransmission_12 ?_
  refine z_topσ (fun σ3 eσ3 => ?_)
  have hw := hw σ3 eσ3
  refine z_aload_n hG dX3_endTransmission_15 rfl 0 rfl ?_
  refine z_iconst (v := 0) hG dX3_endTransmission_16 (by decide) ?_
  refine z_puti hG f_X3_106 h0 rfl rfl (zN_int _) dX3_endTransmission_17 ?_
  refine z_topσ (fun σ4 eσ4 => ?_)
  have hw := hw σ4 eσ4
  refine z_aload_n hG dX3_endTransmission_20 rfl 0 rfl ?_
  obtain ⟨j5, ej5, hw⟩ := hw
  refine z_getr (kq := 7) hG f_X3_28 h0 rfl ej5 rfl (by decide) dX3_endTransmission_21 (fun hj5 => ?_)
  refine z_callv hG (z_runV (As := []) (st := []) hG k_X3_118 (MX7_clear l hj5 hw) ⟨(Nat.le_of_ble_eq_true rfl), (Nat.le_of_ble_eq_true rfl)⟩ hj5 (T := TX7) (N := 4) rfl (by decide) rfl (Nat.le_of_ble_eq_true rfl) dX3_endTransmission_24 ⟨Nat.zero_le _, Nat.zero_le _⟩ rfl) (fun σ6 hw => ?_)
  refine z_aload_n hG dX3_endTransmission_27 rfl 0 rfl ?_
  obtain ⟨j7, ej7, hw⟩ := hw
  refine z_getr (kq := 8) hG f_X3_37 h0 rfl ej7 rfl (by decide) dX3_endTransmission_28 (fun hj7 => ?_)
  refine z_callv hG (z_runV (As := []) (st := []) hG k_X3_82 (MX8_clear l hj7 hw) ⟨(Nat.le_of_ble_eq_true rfl), (Nat.le_of_ble_eq_true rfl)⟩ hj7 (T := TX8) (N := 4) rfl (by decide) rfl (Nat.le_of_ble_eq_true rfl) dX3_endTransmission_31 ⟨Nat.zero_le _, Nat.zero_le _⟩ rfl) (fun σ8 hw => ?_)
  exact z_vret hG rfl dX3_endTransmission_34 hw
-- TypeWheelTelegraph$Machine.begin(LTypeWheelTelegraph$Plan;)V
def wX3_begin (ln : Nat → Nat) (σ : zS) (t0 : Nat) (t1 : Nat) (Q : zS → Prop) : Prop := ∀ σ1 : zS, σ1 = sr σ t0 0 (some t1) → ∀ σ2 : zS, σ2 = si σ1 t0 1 0 → ∃ j3 : Nat, gr σ2 t0 0 = some j3 ∧ ∀ x4 : Int32, x4 = gi σ2 j3 2 → ∀ σ5 : zS, σ5 = si σ2 t0 2 x4 → ∀ σ6 : zS, σ6 = si σ5 t0 9 0 → ∀ σ7 : zS, σ7 = si σ6 t0 10 0 → ∃ j8 : Nat, gr σ7 t0 11 = some j8 ∧ ∃ j9 : Nat, gr σ7 t0 0 = some j9 ∧ ∃ j10 : Nat, gr σ7 j9 6 = some j10 ∧ wX4_begin ln σ7 j8 j10 (fun σ11 => ∃ j12 : Nat, gr σ11 t0 12 = some j12 ∧ ∃ j13 : Nat, gr σ11 t0 0 = some j13 ∧ ∃ j14 : Nat, gr σ11 j13 7 = some j14 ∧ wX4_begin ln σ11 j12 j14 (fun σ15 => ∃ j16 : Nat, gr σ15 t0 15 = some j16 ∧ wX8_clear ln σ15 j16 (fun σ17 => ∃ j18 : Nat, gr σ17 t0 16 = some j18 ∧ ∃ j19 : Nat, gr σ17 t0 0 = some j19 ∧ ∃ j20 : Nat, gr σ17 j19 5 = some j20 ∧ wX9_copyFrom ln σ17 j18 j20 (fun σ21 => ∀ σ22 : zS, σ22 = si σ21 t0 8 0 → wX3_endTransmission ln σ22 t0 (fun σ23 => Q σ23)))))
abbrev rX3_begin : Room := { frames := 3, cells := 0, slots := 0, locals := 69 }
set_option maxRecDepth 100000 in
set_option maxHeartbeats 4000000 in
theorem MX3_begin (l : Launch) {E : zE} {Y : zY} {σ : zS} {t0 : Nat} {t1 : Nat} (h0 : zT Y 3 t0) (h1 : zT Y 6 t1) {Q : zS → Prop} (hw : wX3_begin (zln Y) σ t0 t1 Q) : ∀ sz, Met l yX3_begin (zw yX3_begin cX3_begin 2 none) rX3_begin (zPc E Y σ sz [.ref (za Y t0), .ref (za Y t1)]) (va_Qv Q (zB E Y sz) (zA Y sz)) 0 0 (zA Y sz) := by
  refine z_met (own := RX3) (Qc := fun sz => va_Qv Q (zB E Y sz) (zA Y sz)) (by decide +kernel) rfl (Nat.le_of_ble_eq_true rfl) ?_
  intro p e s m args below meth c hG hinit
  unfold wX3_begin at hw
  refine zlv (lv' := [(0, .ref (za Y t0)), (1, .ref (za Y t1))]) rfl ?_
  refine z_aload_n hG dX3_begin_0 rfl 0 rfl ?_
  refine z_aload_n hG dX3_begin_1 rfl 1 rfl ?_
  refine z_putr hG f_X3_55 h0 rfl rfl rfl rfl (by decide) h1 dX3_begin_2 ?_
  refine z_topσ (fun σ1 eσ1 => ?_)
  have hw := hw σ1 eσ1
  refine z_aload_n hG dX3_begin_5 rfl 0 rfl ?_
  refine z_iconst (v := 0) hG dX3_begin_6 (by decide) ?_
  refine z_puti hG f_X3_59 h0 rfl rfl (zN_int _) dX3_begin_7 ?_
  refine z_topσ (fun σ2 eσ2 => ?_)
  have hw := hw σ2 eσ2
  refine z_aload_n hG dX3_begin_10 rfl 0 rfl ?_
  refine z_aload_n hG dX3_begin_11 rfl 0 rfl ?_
  obtain ⟨j3, ej3, hw⟩ := hw
  refine z_getr (kq := 6) hG f_X3_55 h0 rfl ej3 rfl (by decide) dX3_begin_12 (fun hj3 => ?_)
  refine z_geti hG f_X3_62 hj3 rfl dX3_begin_15 ?_
  refine z_topi (fun x4 ex4 => ?_)
  have hw := hw x4 ex4
  refine z_puti hG f_X3_67 h0 rfl rfl (zN_int _) dX3_begin_18 ?_
  refine z_topσ (fun σ5 eσ5 => ?_)
  have hw := hw σ5 eσ5
  refine z_aload_n hG dX3_begin_21 rfl 0 rfl ?_
  refine z_iconst (v := 0) hG dX3_begin_22 (by decide) ?_
  refine z_puti hG f_X3_68 h0 rfl rfl (zN_int _) dX3_begin_23 ?_
  refine z_topσ (fun σ6 eσ6 => ?_)
  have hw := hw σ6 eσ6
  refine z_aload_n hG dX3_begin_26 rfl 0 rfl ?_
  refine z_iconst (v := 0) hG dX3_begin_27 (by decide) ?_
  refine z_puti hG f_X3_71 h0 rfl rfl (zN_int _) dX3_begin_28 ?_
  refine z_topσ (fun σ7 eσ7 => ?_)
  have hw := hw σ7 eσ7
  refine z_aload_n hG dX3_begin_31 rfl 0 rfl ?_
  obtain ⟨j8, ej8, hw⟩ := hw
  refine z_getr (kq := 4) hG f_X3_18 h0 rfl ej8 rfl (by decide) dX3_begin_32 (fun hj8 => ?_)
  refine z_aload_n hG dX3_begin_35 rfl 0 rfl ?_
  obtain ⟨j9, ej9, hw⟩ := hw
  refine z_getr (kq := 6) hG f_X3_55 h0 rfl ej9 rfl (by decide) dX3_begin_36 (fun hj9 => ?_)
  obtain ⟨j10, ej10, hw⟩ := hw
  refine z_getr (kq := 0) hG f_X3_74 hj9 rfl ej10 rfl (by decide) dX3_begin_39 (fun hj10 => ?_)
  refine z_callv hG (z_runV (As := [.ref (za Y j10)]) (st := []) hG k_X3_77 (MX4_begin l hj8 hj10 hw) ⟨(Nat.le_of_ble_eq_true rfl), (Nat.le_of_ble_eq_true rfl)⟩ hj8 (T := TX4) (N := 8) rfl (by decide) rfl (Nat.le_of_ble_eq_true rfl) dX3_begin_42 ⟨Nat.zero_le _, Nat.zero_le _⟩ rfl) (fun σ11 hw => ?_)
  refine z_aload_n hG dX3_begin_45 rfl 0 rfl ?_
  obtain ⟨j12, ej12, hw⟩ := hw
  refine z_getr (kq := 4) hG f_X3_22 h0 rfl ej12 rfl (by decide) dX3_begin_46 (fun hj12 => ?_)
  refine z_aload_n hG dX3_begin_49 rfl 0 rfl ?_
  obtain ⟨j13, ej13, hw⟩ := hw
  refine z_getr (kq := 6) hG f_X3_55 h0 rfl ej13 rfl (by decide) dX3_begin_50 (fun hj13 => ?_)
  obtain ⟨j14, ej14, hw⟩ := hw
  refine z_getr (kq := 0) hG f_X3_80 hj13 rfl ej14 rfl (by decide) dX3_begin_53 (fun hj14 => ?_)
  refine z_callv hG (z_runV (As := [.ref (za Y j14)]) (st := []) hG k_X3_77 (MX4_begin l hj12 hj14 hw) ⟨(Nat.le_of_ble_eq_true rfl), (Nat.le_of_ble_eq_true rfl)⟩ hj12 (T := TX4) (N := 8) rfl (by decide) rfl (Nat.le_of_ble_eq_true rfl) dX3_begin_56 ⟨Nat.zero_le _, Nat.zero_le _⟩ rfl) (fun σ15 hw => ?_)
  refine z_aload_n hG dX3_begin_59 rfl 0 rfl ?_
  obtain ⟨j16, ej16, hw⟩ := hw
  refine z_getr (kq := 8) hG f_X3_41 h0 rfl ej16 rfl (by decide) dX3_begin_60 (fun hj16 => ?_)
  refine z_callv hG (z_runV (As := []) (st := []) hG k_X3_82 (MX8_clear l hj16 hw) ⟨(Nat.le_of_ble_eq_true rfl), (Nat.le_of_ble_eq_true rfl)⟩ hj16 (T := TX8) (N := 4) rfl (by decide) rfl (Nat.le_of_ble_eq_true rfl) dX3_begin_63 ⟨Nat.zero_le _, Nat.zero_le _⟩ rfl) (fun σ17 hw => ?_)
  refine z_aload_n hG dX3_begin_66 rfl 0 rfl ?_
  obtain ⟨j18, ej18, hw⟩ := hw
  refine z_getr (kq := 9) hG f_X3_47 h0 rfl ej18 rfl (by decide) dX3_begin_67 (fun hj18 => ?_)
  refine z_aload_n hG dX3_begin_70 rfl 0 rfl ?_
  obtain ⟨j19, ej19, hw⟩ := hw
  refine z_getr (kq := 6) hG f_X3_55 h0 rfl ej19 rfl (by decide) dX3_begin_71 (fun hj19 => ?_)
  obtain ⟨j20, ej20, hw⟩ := hw
  refine z_getr (kq := 9) hG f_X3_85 hj19 rfl ej20 rfl (by decide) dX3_begin_74 (fun hj20 => ?_)
  refine z_callv hG (z_runV (As := [.ref (za Y j20)]) (st := []) hG k_X3_86 (MX9_copyFrom l hj18 hj20 hw) ⟨(Nat.le_of_ble_eq_true rfl), (Nat.le_of_ble_eq_true rfl)⟩ hj18 (T := TX9) (N := 2) rfl (by decide) rfl (Nat.le_of_ble_eq_true rfl) dX3_begin_77 ⟨Nat.zero_le _, Nat.zero_le _⟩ rfl) (fun σ21 hw => ?_)
  refine z_aload_n hG dX3_begin_80 rfl 0 rfl ?_
  refine z_iconst (v := 0) hG dX3_begin_81 (by decide) ?_
  refine z_puti hG f_X3_90 h0 rfl rfl (zN_int _) dX3_begin_82 ?_
  refine z_topσ (fun σ22 eσ22 => ?_)
  have hw := hw σ22 eσ22
  refine z_aload_n hG dX3_begin_85 rfl 0 rfl ?_
  refine z_callv hG (z_runV (As := []) (st := []) hG k_X3_93 (MX3_endTransmission l h0 hw) ⟨(Nat.le_of_ble_eq_true rfl), (Nat.le_of_ble_eq_true rfl)⟩ h0 (T := TX3) (N := 17) rfl (by decide) rfl (Nat.le_of_ble_eq_true rfl) dX3_begin_86 ⟨Nat.zero_le _, Nat.zero_le _⟩ rfl) (fun σ23 hw => ?_)
  exact z_vret hG rfl dX3_begin_89 hw
-- TypeWheelTelegraph$Row.size()I
def wX9_size (ln : Nat → Nat) (σ : zS) (t0 : Nat) (Q : Int32 → zS → Prop) : Prop := Q (gi σ t0 1) σ
abbrev rX9_size : Room := { frames := 0, cells := 0, slots := 0, locals := 0 }
set_option maxRecDepth 100000 in
set_option maxHeartbeats 4000000 in
theorem MX9_size (l : Launch) {E : zE} {Y : zY} {σ : zS} {t0 : Nat} (h0 : zT Y 9 t0) {Q : Int32 → zS → Prop} (hw : wX9_size (zln Y) σ t0 Q) : ∀ sz, Met l yX9_size (zw yX9_size cX9_size 1 (some .int)) rX9_size (zPc E Y σ sz [.ref (za Y t0)]) (va_Qi Q (zB E Y sz) (zA Y sz)) 0 0 (zA Y sz) := by
  refine z_met (own := RX9) (Qc := fun sz => va_Qi Q (zB E Y sz) (zA Y sz)) (by decide +kernel) rfl (Nat.le_of_ble_eq_true rfl) ?_
  intro p e s m args below meth c hG hinit
  unfold wX9_size at hw
  refine zlv (lv' := [(0, .ref (za Y t0))]) rfl ?_
  refine z_aload_n hG dX9_size_0 rfl 0 rfl ?_
  refine z_geti hG f_X9_21 h0 rfl dX9_size_1 ?_
  exact z_iret hG rfl rfl dX9_size_4 hw
-- TypeWheelTelegraph$Row.add(I)V
def wX9_add (ln : Nat → Nat) (σ : zS) (t0 : Nat) (v1 : Int32) (Q : zS → Prop) : Prop := ∃ j1 : Nat, gr σ t0 0 = some j1 ∧ (((nI (ln j1)) ≤ (gi σ t0 1) → Q σ) ∧ (¬ (nI (ln j1)) ≤ (gi σ t0 1) → ∃ j2 : Nat, gr σ t0 0 = some j2 ∧ ∀ x3 : Int32, x3 = gi σ t0 1 → vp_in x3 (ln j2) ∧ ∀ σ5 : zS, σ5 = si σ j2 x3.toNatClampNeg v1 → ∀ x6 : Int32, x6 = (gi σ5 t0 1) + 1 → ∀ σ7 : zS, σ7 = si σ5 t0 1 x6 → Q σ7))
abbrev rX9_add : Room := { frames := 0, cells := 0, slots := 0, locals := 0 }
set_option maxRecDepth 100000 in
set_option maxHeartbeats 4000000 in
theorem MX9_add (l : Launch) {E : zE} {Y : zY} {σ : zS} {t0 : Nat} {v1 : Int32} (h0 : zT Y 9 t0) {Q : zS → Prop} (hw : wX9_add (zln Y) σ t0 v1 Q) : ∀ sz, Met l yX9_add (zw yX9_add cX9_add 2 none) rX9_add (zPc E Y σ sz [.ref (za Y t0), .int v1]) (va_Qv Q (zB E Y sz) (zA Y sz)) 0 0 (zA Y sz) := by
  refine z_met (own := RX9) (Qc := fun sz => va_Qv Q (zB E Y sz) (zA Y sz)) (by decide +kernel) rfl (Nat.le_of_ble_eq_true rfl) ?_
  intro p e s m args below meth c hG hinit
  unfold wX9_add at hw
  refine zlv (lv' := [(0, .ref (za Y t0)), (1, .int v1)]) rfl ?_
  refine z_aload_n hG dX9_add_0 rfl 0 rfl ?_
  refine z_geti hG f_X9_21 h0 rfl dX9_add_1 ?_
  refine z_aload_n hG dX9_add_4 rfl 0 rfl ?_
  obtain ⟨j1, ej1, hw⟩ := hw
  refine z_getr (kq := 20) hG f_X9_15 h0 rfl ej1 rfl (by decide) dX9_add_5 (fun hj1 => ?_)
  refine z_alen hG hj1 (by decide) (t0 := 0) rfl dX9_add_8 ?_
  refine z_icmp_ge (tgt := 32) hG dX9_add_9 (by decide) (fun c8 => ?_) (fun c8 => ?_)
  · have hw := hw.1 c8
    exact z_vret hG rfl dX9_add_32 hw
  · have hw := hw.2 c8
    refine z_aload_n hG dX9_add_12 rfl 0 rfl ?_
    obtain ⟨j2, ej2, hw⟩ := hw
    refine z_getr (kq := 20) hG f_X9_15 h0 rfl ej2 rfl (by decide) dX9_add_13 (fun hj2 => ?_)
    refine z_aload_n hG dX9_add_16 rfl 0 rfl ?_
    refine z_geti hG f_X9_21 h0 rfl dX9_add_17 ?_
    refine z_iload_n hG dX9_add_20 rfl 1 rfl ?_
    obtain ⟨x3, ex3⟩ : ∃ y : Int32, y = gi σ t0 1 := ⟨_, rfl⟩
    refine zst (st' := [.int v1, .int x3, .ref (za Y j2)]) (by rw [ex3]) ?_
    have hw := hw x3 ex3
    obtain ⟨q4, hw⟩ := hw
    refine z_iast hG hj2 q4 dX9_add_21 ?_
    refine z_topσ (fun σ5 eσ5 => ?_)
    have hw := hw σ5 eσ5
    refine z_aload_n hG dX9_add_22 rfl 0 rfl ?_
    refine z_dup hG dX9_add_23 rfl ?_
    refine z_geti hG f_X9_21 h0 rfl dX9_add_24 ?_
    refine z_iconst (v := 1) hG dX9_add_27 (by decide) ?_
    refine z_iadd hG dX9_add_28 ?_
    refine z_topi (fun x6 ex6 => ?_)
    have hw := hw x6 ex6
    refine z_puti hG f_X9_21 h0 rfl rfl (zN_int _) dX9_add_29 ?_
    refine z_topσ (fun σ7 eσ7 => ?_)
    have hw := hw σ7 eσ7
    exact z_vret hG rfl dX9_add_32 hw
-- TypeWheelTelegraph.appendWord(I)V
def wX11_appendWord_3 (ln : Nat → Nat) (Q : zS → Prop) : Nat → Nat → Int32 → Int32 → zS → Prop
  | 0, _, _, _, _ => False
  | n + 1, t0, v1, v2, σ => ((v2 < 0 → Q σ) ∧ (¬ v2 < 0 → ∃ j1 : Nat, gr σ t0 0 = some j1 ∧ ∀ x2 : Int32, x2 = (v1 >>> (v2 &&& 31)) &&& 255 → wX9_add ln σ j1 x2 (fun σ3 => ∀ x4 : Int32, x4 = v2 + (-8) → (wX11_appendWord_3 ln Q n) t0 v1 x4 σ3)))
def wX11_appendWord (ln : Nat → Nat) (σ : zS) (t0 : Nat) (v1 : Int32) (Q : zS → Prop) : Prop := ∃ n1 : Nat, wX11_appendWord_3 ln Q n1 t0 v1 24 σ
abbrev rX11_appendWord : Room := { frames := 1, cells := 0, slots := 0, locals := 21 }
set_option maxRecDepth 100000 in
set_option maxHeartbeats 4000000 in
theorem BX11_appendWord_3 {l : Launch} {E : zE} {Y : zY} {p : Program} {e : Env} {s : State} {m : MethodId} {args : Array Value} {below : List Frame} {meth : Method} {c : Code} (hG : zG E p l s m args meth c cX11_appendWord 3 RX11 none (zA Y s.heap.size)) {Q : zS → Prop} : ∀ (n : Nat) (t0 : Nat) (v1 : Int32) (v2 : Int32) (σ : zS), wX11_appendWord_3 (zln Y) Q n t0 v1 v2 σ → zT Y 11 t0 → WW E Y σ p l e rX11_appendWord s m args below meth c (zA Y s.heap.size) 3 0 0 (MQ below (va_Qv Q (zB E Y s.heap.size) (zA Y s.heap.size)) args s 0 0 (zA Y s.heap.size)) [(0, .ref (za Y t0)), (1, .int v1), (2, .int v2)] 3 [] := by
  intro n
  induction n with
  | zero => intro t0 v1 v2 σ hw
            exact hw.elim
  | succ n ih =>
    intro t0 v1 v2 σ hw h0
    rw [wX11_appendWord_3] at hw
    refine z_iload_n hG dX11_appendWord_3 rfl 2 rfl ?_
    refine z_if_lt (tgt := 27) hG dX11_appendWord_4 (by decide) (fun c5 => ?_) (fun c5 => ?_)
    · have hw := hw.1 c5
      exact z_vret hG rfl dX11_appendWord_27 hw
    · have hw := hw.2 c5
      refine z_aload_n hG dX11_appendWord_7 rfl 0 rfl ?_
      obtain ⟨j1, ej1, hw⟩ := hw
      refine z_getr (kq := 9) hG f_X11_14 h0 rfl ej1 rfl (by decide) dX11_appendWord_8 (fun hj1 => ?_)
      refine z_iload_n hG dX11_appendWord_11 rfl 1 rfl ?_
      refine z_iload_n hG dX11_appendWord_12 rfl 2 rfl ?_
      refine z_ishr hG dX11_appendWord_13 ?_
      refine z_sipush (v := 255) hG dX11_appendWord_14 (by decide) ?_
      refine z_iand hG dX11_appendWord_17 ?_
      refine z_topi (fun x2 ex2 => ?_)
      have hw := hw x2 ex2
      refine z_callv hG (z_runV (As := [.int x2]) (st := []) hG k_X11_81 (MX9_add l hj1 hw) ⟨(Nat.le_of_ble_eq_true rfl), (Nat.le_of_ble_eq_true rfl)⟩ hj1 (T := TX9) (N := 2) rfl (by decide) rfl (Nat.le_of_ble_eq_true rfl) dX11_appendWord_18 ⟨Nat.zero_le _, Nat.zero_le _⟩ rfl) (fun σ3 hw => ?_)
      obtain ⟨x4, ex4⟩ : ∃ y : Int32, y = v2 + (-8) := ⟨_, rfl⟩
      have hw := hw x4 ex4
      refine z_iinc (v := x4) (lv' := [(2, .int x4), (0, .ref (za Y t0)), (1, .int v1)]) hG dX11_appendWord_21 2 rfl (by rw [ex4]; rfl) (by decide) rfl ?_
      refine z_goto (tgt := 3) hG dX11_appendWord_24 (by decide) ?_
      refine zpick [1, 2, 0] (lv' := [(0, .ref (za Y t0)), (1, .int v1), (2, .int x4)]) rfl ?_
      exact ih t0 v1 x4 σ3 hw h0
set_option maxRecDepth 100000 in
set_option maxHeartbeats 4000000 in
theorem MX11_appendWord (l : Launch) {E : zE} {Y : zY} {σ : zS} {t0 : Nat} {v1 : Int32} (h0 : zT Y 11 t0) {Q : zS → Prop} (hw : wX11_appendWord (zln Y) σ t0 v1 Q) : ∀ sz, Met l yX11_appendWord (zw yX11_appendWord cX11_appendWord 3 none) rX11_appendWord (zPc E Y σ sz [.ref (za Y t0), .int v1]) (va_Qv Q (zB E Y sz) (zA Y sz)) 0 0 (zA Y sz) := by
  refine z_met (own := RX11) (Qc := fun sz => va_Qv Q (zB E Y sz) (zA Y sz)) (by decide +kernel) rfl (Nat.le_of_ble_eq_true rfl) ?_
  intro p e s m args below meth c hG hinit
  unfold wX11_appendWord at hw
  refine zlv (lv' := [(0, .ref (za Y t0)), (1, .int v1)]) rfl ?_
  refine z_bipush (v := 24) hG dX11_appendWord_0 (by decide) ?_
  refine z_istore_n (lv' := [(2, .int 24), (0, .ref (za Y t0)), (1, .int v1)]) hG dX11_appendWord_2 rfl (by decide) rfl ?_
  obtain ⟨n1, hw⟩ := hw
  refine zpick [1, 2, 0] (lv' := [(0, .ref (za Y t0)), (1, .int v1), (2, .int 24)]) rfl ?_
  exact BX11_appendWord_3 hG n1 t0 v1 24 σ hw h0
-- TypeWheelTelegraph$Row.shorten(I)V
def wX9_shorten (ln : Nat → Nat) (σ : zS) (t0 : Nat) (v1 : Int32) (Q : zS → Prop) : Prop := ((v1 < 0 → Q σ) ∧ (¬ v1 < 0 → (((gi σ t0 1) ≤ v1 → Q σ) ∧ (¬ (gi σ t0 1) ≤ v1 → ∀ σ1 : zS, σ1 = si σ t0 1 v1 → Q σ1))))
abbrev rX9_shorten : Room := { frames := 0, cells := 0, slots := 0, locals := 0 }
set_option maxRecDepth 100000 in
set_option maxHeartbeats 4000000 in
theorem MX9_shorten (l : Launch) {E : zE} {Y : zY} {σ : zS} {t0 : Nat} {v1 : Int32} (h0 : zT Y 9 t0) {Q : zS → Prop} (hw : wX9_shorten (zln Y) σ t0 v1 Q) : ∀ sz, Met l yX9_shorten (zw yX9_shorten cX9_shorten 2 none) rX9_shorten (zPc E Y σ sz [.ref (za Y t0), .int v1]) (va_Qv Q (zB E Y sz) (zA Y sz)) 0 0 (zA Y sz) := by
  refine z_met (own := RX9) (Qc := fun sz => va_Qv Q (zB E Y sz) (zA Y sz)) (by decide +kernel) rfl (Nat.le_of_ble_eq_true rfl) ?_
  intro p e s m args below meth c hG hinit
  unfold wX9_shorten at hw
  refine zlv (lv' := [(0, .ref (za Y t0)), (1, .int v1)]) rfl ?_
  refine z_iload_n hG dX9_shorten_0 rfl 1 rfl ?_
  refine z_if_lt (tgt := 17) hG dX9_shorten_1 (by decide) (fun c3 => ?_) (fun c3 => ?_)
  · have hw := hw.1 c3
    exact z_vret hG rfl dX9_shorten_17 hw
  · have hw := hw.2 c3
    refine z_iload_n hG dX9_shorten_4 rfl 1 rfl ?_
    refine z_aload_n hG dX9_shorten_5 rfl 0 rfl ?_
    refine z_geti hG f_X9_21 h0 rfl dX9_shorten_6 ?_
    refine z_icmp_ge (tgt := 17) hG dX9_shorten_9 (by decide) (fun c2 => ?_) (fun c2 => ?_)
    · have hw := hw.1 c2
      exact z_vret hG rfl dX9_shorten_17 hw
    · have hw := hw.2 c2
      refine z_aload_n hG dX9_shorten_12 rfl 0 rfl ?_
      refine z_iload_n hG dX9_shorten_13 rfl 1 rfl ?_
      refine z_puti hG f_X9_21 h0 rfl rfl (zN_int _) dX9_shorten_14 ?_
      refine z_topσ (fun σ1 eσ1 => ?_)
      have hw := hw σ1 eσ1
      exact z_vret hG rfl dX9_shorten_17 hw
-- TypeWheelTelegraph$Row.get(I)I
def wX9_get (ln : Nat → Nat) (σ : zS) (t0 : Nat) (v1 : Int32) (Q : Int32 → zS → Prop) : Prop := ((v1 < 0 → Q (-1) σ) ∧ (¬ v1 < 0 → (((gi σ t0 1) ≤ v1 → Q (-1) σ) ∧ (¬ (gi σ t0 1) ≤ v1 → ∃ j1 : Nat, gr σ t0 0 = some j1 ∧ (((nI (ln j1)) ≤ v1 → Q (-1) σ) ∧ (¬ (nI (ln j1)) ≤ v1 → ∃ j2 : Nat, gr σ t0 0 = some j2 ∧ vp_in v1 (ln j2) ∧ Q (gi σ j2 v1.toNatClampNeg) σ))))))
abbrev rX9_get : Room := { frames := 0, cells := 0, slots := 0, locals := 0 }
set_option maxRecDepth 100000 in
set_option maxHeartbeats 4000000 in
theorem MX9_get (l : Launch) {E : zE} {Y : zY} {σ : zS} {t0 : Nat} {v1 : Int32} (h0 : zT Y 9 t0) {Q : Int32 → zS → Prop} (hw : wX9_get (zln Y) σ t0 v1 Q) : ∀ sz, Met l yX9_get (zw yX9_get cX9_get 2 (some .int)) rX9_get (zPc E Y σ sz [.ref (za Y t0), .int v1]) (va_Qi Q (zB E Y sz) (zA Y sz)) 0 0 (zA Y sz) := by
  refine z_met (own := RX9) (Qc := fun sz => va_Qi Q (zB E Y sz) (zA Y sz)) (by decide +kernel) rfl (Nat.le_of_ble_eq_true rfl) ?_
  intro p e s m args below meth c hG hinit
  unfold wX9_get at hw
  refine zlv (lv' := [(0, .ref (za Y t0)), (1, .int v1)]) rfl ?_
  refine z_iload_n hG dX9_get_0 rfl 1 rfl ?_
  refine z_if_lt (tgt := 30) hG dX9_get_1 (by decide) (fun c6 => ?_) (fun c6 => ?_)
  · have hw := hw.1 c6
    refine z_iconst (v := (-1)) hG dX9_get_30 (by decide) ?_
    exact z_iret hG rfl rfl dX9_get_31 hw
  · have hw := hw.2 c6
    refine z_iload_n hG dX9_get_4 rfl 1 rfl ?_
    refine z_aload_n hG dX9_get_5 rfl 0 rfl ?_
    refine z_geti hG f_X9_21 h0 rfl dX9_get_6 ?_
    refine z_icmp_ge (tgt := 30) hG dX9_get_9 (by decide) (fun c5 => ?_) (fun c5 => ?_)
    · have hw := hw.1 c5
      refine z_iconst (v := (-1)) hG dX9_get_30 (by decide) ?_
      exact z_iret hG rfl rfl dX9_get_31 hw
    · have hw := hw.2 c5
      refine z_iload_n hG dX9_get_12 rfl 1 rfl ?_
      refine z_aload_n hG dX9_get_13 rfl 0 rfl ?_
      obtain ⟨j1, ej1, hw⟩ := hw
      refine z_getr (kq := 20) hG f_X9_15 h0 rfl ej1 rfl (by decide) dX9_get_14 (fun hj1 => ?_)
      refine z_alen hG hj1 (by decide) (t0 := 0) rfl dX9_get_17 ?_
      refine z_icmp_ge (tgt := 30) hG dX9_get_18 (by decide) (fun c4 => ?_) (fun c4 => ?_)
      · have hw := hw.1 c4
        refine z_iconst (v := (-1)) hG dX9_get_30 (by decide) ?_
        exact z_iret hG rfl rfl dX9_get_31 hw
      · have hw := hw.2 c4
        refine z_aload_n hG dX9_get_21 rfl 0 rfl ?_
        obtain ⟨j2, ej2, hw⟩ := hw
        refine z_getr (kq := 20) hG f_X9_15 h0 rfl ej2 rfl (by decide) dX9_get_22 (fun hj2 => ?_)
        refine z_iload_n hG dX9_get_25 rfl 1 rfl ?_
        obtain ⟨q3, hw⟩ := hw
        refine z_iald hG hj2 q3 dX9_get_26 ?_
        refine z_goto (tgt := 31) hG dX9_get_27 (by decide) ?_
        exact z_iret hG rfl rfl dX9_get_31 hw
-- TypeWheelTelegraph$Tokens.isBlank(I)Z
def wX10_isBlank (ln : Nat → Nat) (σ : zS) (v0 : Int32) (Q : Int32 → zS → Prop) : Prop := ((v0 = 32 → Q 1 σ) ∧ (¬ v0 = 32 → ((v0 = 10 → Q 1 σ) ∧ (¬ v0 = 10 → Q 0 σ))))
abbrev rX10_isBlank : Room := { frames := 0, cells := 0, slots := 0, locals := 0 }
set_option maxRecDepth 100000 in
set_option maxHeartbeats 4000000 in
theorem MX10_isBlank (l : Launch) {E : zE} {Y : zY} {σ : zS} {v0 : Int32} {Q : Int32 → zS → Prop} (hw : wX10_isBlank (zln Y) σ v0 Q) : ∀ sz, Met l yX10_isBlank (zw yX10_isBlank cX10_isBlank 1 (some .boolean)) rX10_isBlank (zPc E Y σ sz [.int v0]) (va_Qi Q (zB E Y sz) (zA Y sz)) 0 0 (zA Y sz) := by
  refine z_met (own := RX10) (Qc := fun sz => va_Qi Q (zB E Y sz) (zA Y sz)) (by decide +kernel) rfl (Nat.le_of_ble_eq_true rfl) ?_
  intro p e s m args below meth c hG hinit
  unfold wX10_isBlank at hw
  refine zlv (lv' := [(0, .int v0)]) rfl ?_
  refine z_iload_n hG dX10_isBlank_0 rfl 0 rfl ?_
  refine z_bipush (v := 32) hG dX10_isBlank_1 (by decide) ?_
  refine z_icmp_eq (tgt := 12) hG dX10_isBlank_3 (by decide) (fun c2 => ?_) (fun c2 => ?_)
  · have hw := hw.1 c2
    refine z_iconst (v := 1) hG dX10_isBlank_12 (by decide) ?_
    refine z_goto (tgt := 17) hG dX10_isBlank_13 (by decide) ?_
    exact z_iret hG rfl (by decide +kernel) dX10_isBlank_17 hw
  · have hw := hw.2 c2
    refine z_iload_n hG dX10_isBlank_6 rfl 0 rfl ?_
    refine z_bipush (v := 10) hG dX10_isBlank_7 (by decide) ?_
    refine z_icmp_ne (tgt := 16) hG dX10_isBlank_9 (by decide) (fun c1 => ?_) (fun c1 => ?_)
    · have hw := hw.2 c1
      refine z_iconst (v := 0) hG dX10_isBlank_16 (by decide) ?_
      exact z_iret hG rfl (by decide +kernel) dX10_isBlank_17 hw
    · have hw := hw.1 c1
      refine z_iconst (v := 1) hG dX10_isBlank_12 (by decide) ?_
      refine z_goto (tgt := 17) hG dX10_isBlank_13 (by decide) ?_
      exact z_iret hG rfl (by decide +kernel) dX10_isBlank_17 hw
-- TypeWheelTelegraph$Tokens.kindOf(I)I
def wX10_kindOf_35 (ln : Nat → Nat) (Q : Int32 → zS → Prop) (v0 : Int32) (σ : zS) : Prop := ((v0 = 59 → Q 3 σ) ∧ (¬ v0 = 59 → ((v0 = 47 → Q 4 σ) ∧ (¬ v0 = 47 → Q 5 σ))))
def wX10_kindOf_21 (ln : Nat → Nat) (Q : Int32 → zS → Prop) (v0 : Int32) (σ : zS) : Prop := ((v0 < 48 → wX10_kindOf_35 ln Q v0 σ) ∧ (¬ v0 < 48 → ((57 < v0 → wX10_kindOf_35 ln Q v0 σ) ∧ (¬ 57 < v0 → Q 2 σ))))
def wX10_kindOf (ln : Nat → Nat) (σ : zS) (v0 : Int32) (Q : Int32 → zS → Prop) : Prop := ((v0 = (-1) → Q 0 σ) ∧ (¬ v0 = (-1) → ((v0 < 97 → wX10_kindOf_21 ln Q v0 σ) ∧ (¬ v0 < 97 → ((122 < v0 → wX10_kindOf_21 ln Q v0 σ) ∧ (¬ 122 < v0 → Q 1 σ))))))
abbrev rX10_kindOf : Room := { frames := 0, cells := 0, slots := 0, locals := 0 }
set_option maxRecDepth 100000 in
set_option maxHeartbeats 4000000 in
theorem BX10_kindOf_35 {l : Launch} {E : zE} {Y : zY} {p : Program} {e : Env} {s : State} {m : MethodId} {args : Array Value} {below : List Frame} {meth : Method} {c : Code} (hG : zG E p l s m args meth c cX10_kindOf 1 RX10 (some .int) (zA Y s.heap.size)) {Q : Int32 → zS → Prop} : ∀ (v0 : Int32) (σ : zS), wX10_kindOf_35 (zln Y) Q v0 σ → WW E Y σ p l e rX10_kindOf s m args below meth c (zA Y s.heap.size) 1 0 0 (MQ below (va_Qi Q (zB E Y s.heap.size) (zA Y s.heap.size)) args s 0 0 (zA Y s.heap.size)) [(0, .int v0)] 35 [] := by
  intro v0 σ hw 
  unfold wX10_kindOf_35 at hw
  refine z_iload_n hG dX10_kindOf_35 rfl 0 rfl ?_
  refine z_bipush (v := 59) hG dX10_kindOf_36 (by decide) ?_
  refine z_icmp_ne (tgt := 43) hG dX10_kindOf_38 (by decide) (fun c2 => ?_) (fun c2 => ?_)
  · have hw := hw.2 c2
    refine z_iload_n hG dX10_kindOf_43 rfl 0 rfl ?_
    refine z_bipush (v := 47) hG dX10_kindOf_44 (by decide) ?_
    refine z_icmp_ne (tgt := 53) hG dX10_kindOf_46 (by decide) (fun c1 => ?_) (fun c1 => ?_)
    · have hw := hw.2 c1
      refine z_iconst (v := 5) hG dX10_kindOf_53 (by decide) ?_
      exact z_iret hG rfl rfl dX10_kindOf_54 hw
    · have hw := hw.1 c1
      refine z_iconst (v := 4) hG dX10_kindOf_49 (by decide) ?_
      refine z_goto (tgt := 54) hG dX10_kindOf_50 (by decide) ?_
      exact z_iret hG rfl rfl dX10_kindOf_54 hw
  · have hw := hw.1 c2
    refine z_iconst (v := 3) hG dX10_kindOf_41 (by decide) ?_
    exact z_iret hG rfl rfl dX10_kindOf_42 hw
set_option maxRecDepth 100000 in
set_option maxHeartbeats 4000000 in
theorem BX10_kindOf_21 {l : Launch} {E : zE} {Y : zY} {p : Program} {e : Env} {s : State} {m : MethodId} {args : Array Value} {below : List Frame} {meth : Method} {c : Code} (hG : zG E p l s m args meth c cX10_kindOf 1 RX10 (some .int) (zA Y s.heap.size)) {Q : Int32 → zS → Prop} : ∀ (v0 : Int32) (σ : zS), wX10_kindOf_21 (zln Y) Q v0 σ → WW E Y σ p l e rX10_kindOf s m args below meth c (zA Y s.heap.size) 1 0 0 (MQ below (va_Qi Q (zB E Y s.heap.size) (zA Y s.heap.size)) args s 0 0 (zA Y s.heap.size)) [(0, .int v0)] 21 [] := by
  intro v0 σ hw 
  unfold wX10_kindOf_21 at hw
  refine z_iload_n hG dX10_kindOf_21 rfl 0 rfl ?_
  refine z_bipush (v := 48) hG dX10_kindOf_22 (by decide) ?_
  refine z_icmp_lt (tgt := 35) hG dX10_kindOf_24 (by decide) (fun c2 => ?_) (fun c2 => ?_)
  · have hw := hw.1 c2
    refine zpick [0] (lv' := [(0, .int v0)]) rfl ?_
    exact BX10_kindOf_35 hG v0 σ hw 
  · have hw := hw.2 c2
    refine z_iload_n hG dX10_kindOf_27 rfl 0 rfl ?_
    refine z_bipush (v := 57) hG dX10_kindOf_28 (by decide) ?_
    refine z_icmp_gt (tgt := 35) hG dX10_kindOf_30 (by decide) (fun c1 => ?_) (fun c1 => ?_)
    · have hw := hw.1 c1
      refine zpick [0] (lv' := [(0, .int v0)]) rfl ?_
      exact BX10_kindOf_35 hG v0 σ hw 
    · have hw := hw.2 c1
      refine z_iconst (v := 2) hG dX10_kindOf_33 (by decide) ?_
      exact z_iret hG rfl rfl dX10_kindOf_34 hw
set_option maxRecDepth 100000 in
set_option maxHeartbeats 4000000 in
theorem MX10_kindOf (l : Launch) {E : zE} {Y : zY} {σ : zS} {v0 : Int32} {Q : Int32 → zS → Prop} (hw : wX10_kindOf (zln Y) σ v0 Q) : ∀ sz, Met l yX10_kindOf (zw yX10_kindOf cX10_kindOf 1 (some .int)) rX10_kindOf (zPc E Y σ sz [.int v0]) (va_Qi Q (zB E Y sz) (zA Y sz)) 0 0 (zA Y sz) := by
  refine z_met (own := RX10) (Qc := fun sz => va_Qi Q (zB E Y sz) (zA Y sz)) (by decide +kernel) rfl (Nat.le_of_ble_eq_true rfl) ?_
  intro p e s m args below meth c hG hinit
  unfold wX10_kindOf at hw
  refine zlv (lv' := [(0, .int v0)]) rfl ?_
  refine z_iload_n hG dX10_kindOf_0 rfl 0 rfl ?_
  refine z_iconst (v := (-1)) hG dX10_kindOf_1 (by decide) ?_
  refine z_icmp_ne (tgt := 7) hG dX10_kindOf_2 (by decide) (fun c3 => ?_) (fun c3 => ?_)
  · have hw := hw.2 c3
    refine z_iload_n hG dX10_kindOf_7 rfl 0 rfl ?_
    refine z_bipush (v := 97) hG dX10_kindOf_8 (by decide) ?_
    refine z_icmp_lt (tgt := 21) hG dX10_kindOf_10 (by decide) (fun c2 => ?_) (fun c2 => ?_)
    · have hw := hw.1 c2
      refine zpick [0] (lv' := [(0, .int v0)]) rfl ?_
      exact BX10_kindOf_21 hG v0 σ hw 
    · have hw := hw.2 c2
      refine z_iload_n hG dX10_kindOf_13 rfl 0 rfl ?_
      refine z_bipush (v := 122) hG dX10_kindOf_14 (by decide) ?_
      refine z_icmp_gt (tgt := 21) hG dX10_kindOf_16 (by decide) (fun c1 => ?_) (fun c1 => ?_)
      · have hw := hw.1 c1
        refine zpick [0] (lv' := [(0, .int v0)]) rfl ?_
        exact BX10_kindOf_21 hG v0 σ hw 
      · have hw := hw.2 c1
        refine z_iconst (v := 1) hG dX10_kindOf_19 (by decide) ?_
        exact z_iret hG rfl rfl dX10_kindOf_20 hw
  · have hw := hw.1 c3
    refine z_iconst (v := 0) hG dX10_kindOf_5 (by decide) ?_
    exact z_iret hG rfl rfl dX10_kindOf_6 hw
-- TypeWheelTelegraph$Tokens.length()I
def wX10_length (ln : Nat → Nat) (σ : zS) (t0 : Nat) (Q : Int32 → zS → Prop) : Prop := Q ((gi σ t0 3) - (gi σ t0 1)) σ
abbrev rX10_length : Room := { frames := 0, cells := 0, slots := 0, locals := 0 }
set_option maxRecDepth 100000 in
set_option maxHeartbeats 4000000 in
theorem MX10_length (l : Launch) {E : zE} {Y : zY} {σ : zS} {t0 : Nat} (h0 : zT Y 10 t0) {Q : Int32 → zS → Prop} (hw : wX10_length (zln Y) σ t0 Q) : ∀ sz, Met l yX10_length (zw yX10_length cX10_length 1 (some .int)) rX10_length (zPc E Y σ sz [.ref (za Y t0)]) (va_Qi Q (zB E Y sz) (zA Y sz)) 0 0 (zA Y sz) := by
  refine z_met (own := RX10) (Qc := fun sz => va_Qi Q (zB E Y sz) (zA Y sz)) (by decide +kernel) rfl (Nat.le_of_ble_eq_true rfl) ?_
  intro p e s m args below meth c hG hinit
  unfold wX10_length at hw
  refine zlv (lv' := [(0, .ref (za Y t0))]) rfl ?_
  refine z_aload_n hG dX10_length_0 rfl 0 rfl ?_
  refine z_geti hG f_X10_15 h0 rfl dX10_length_1 ?_
  refine z_aload_n hG dX10_length_4 rfl 0 rfl ?_
  refine z_geti hG f_X10_22 h0 rfl dX10_length_5 ?_
  refine z_isub hG dX10_length_8 ?_
  exact z_iret hG rfl rfl dX10_length_9 hw
-- TypeWheelTelegraph$Tokens.take()V
def wX10_take_162 (ln : Nat → Nat) (Q : zS → Prop) (t0 : Nat) (vw0 : Int32) (vw1 : Int32) (σ : zS) : Prop := ((vw0 ≤ vw1 → Q σ) ∧ (¬ vw0 ≤ vw1 → ∀ σ1 : zS, σ1 = si σ t0 0 5 → Q σ1))
def wX10_take_144 (ln : Nat → Nat) (Q : zS → Prop) (t0 : Nat) (σ : zS) : Prop := wX10_length ln σ t0 (fun r2 σ1 => (((gi σ1 t0 0) = 1 → wX10_take_162 ln Q t0 r2 12 σ1) ∧ (¬ (gi σ1 t0 0) = 1 → wX10_take_162 ln Q t0 r2 5 σ1)))
def wX10_take_96 (ln : Nat → Nat) (Q : zS → Prop) : Nat → Nat → zS → Prop
  | 0, _, _ => False
  | n + 1, t0, σ => ∃ j1 : Nat, gr σ t0 2 = some j1 ∧ wX9_size ln σ j1 (fun r3 σ2 => ((r3 ≤ (gi σ t0 3) → wX10_take_144 ln Q t0 σ2) ∧ (¬ r3 ≤ (gi σ t0 3) → ∃ j4 : Nat, gr σ2 t0 2 = some j4 ∧ ∀ x5 : Int32, x5 = gi σ2 t0 3 → wX9_get ln σ2 j4 x5 (fun r7 σ6 => wX10_kindOf ln σ6 r7 (fun r9 σ8 => ((r9 = (gi σ8 t0 0) → ∀ x10 : Int32, x10 = (gi σ8 t0 3) + 1 → ∀ σ11 : zS, σ11 = si σ8 t0 3 x10 → (wX10_take_96 ln Q n) t0 σ11) ∧ (¬ r9 = (gi σ8 t0 0) → wX10_take_144 ln Q t0 σ8)))))))
def wX10_take_52 (ln : Nat → Nat) (Q : zS → Prop) (t0 : Nat) (σ : zS) : Prop := ∃ j1 : Nat, gr σ t0 2 = some j1 ∧ ∀ x2 : Int32, x2 = gi σ t0 1 → wX9_get ln σ j1 x2 (fun r4 σ3 => wX10_kindOf ln σ3 r4 (fun r6 σ5 => ∀ σ7 : zS, σ7 = si σ5 t0 0 r6 → ∀ x8 : Int32, x8 = (gi σ7 t0 1) + 1 → ∀ σ9 : zS, σ9 = si σ7 t0 3 x8 → (((gi σ9 t0 0) = 1 → ∃ n10 : Nat, wX10_take_96 ln Q n10 t0 σ9) ∧ (¬ (gi σ9 t0 0) = 1 → (((gi σ9 t0 0) = 2 → ∃ n11 : Nat, wX10_take_96 ln Q n11 t0 σ9) ∧ (¬ (gi σ9 t0 0) = 2 → Q σ9))))))
def wX10_take_8 (ln : Nat → Nat) (Q : zS → Prop) : Nat → Nat → zS → Prop
  | 0, _, _ => False
  | n + 1, t0, σ => ∃ j1 : Nat, gr σ t0 2 = some j1 ∧ wX9_size ln σ j1 (fun r3 σ2 => ((r3 ≤ (gi σ t0 1) → wX10_take_52 ln Q t0 σ2) ∧ (¬ r3 ≤ (gi σ t0 1) → ∃ j4 : Nat, gr σ2 t0 2 = some j4 ∧ ∀ x5 : Int32, x5 = gi σ2 t0 1 → wX9_get ln σ2 j4 x5 (fun r7 σ6 => wX10_isBlank ln σ6 r7 (fun r9 σ8 => ((r9 = 0 → wX10_take_52 ln Q t0 σ8) ∧ (¬ r9 = 0 → ∀ x10 : Int32, x10 = (gi σ8 t0 1) + 1 → ∀ σ11 : zS, σ11 = si σ8 t0 1 x10 → (wX10_take_8 ln Q n) t0 σ11)))))))
def wX10_take (ln : Nat → Nat) (σ : zS) (t0 : Nat) (Q : zS → Prop) : Prop := ∀ x1 : Int32, x1 = gi σ t0 3 → ∀ σ2 : zS, σ2 = si σ t0 1 x1 → ∃ n3 : Nat, wX10_take_8 ln Q n3 t0 σ2
abbrev rX10_take : Room := { frames := 1, cells := 0, slots := 0, locals := 21 }
set_option maxRecDepth 100000 in
set_option maxHeartbeats 4000000 in
theorem BX10_take_162 {l : Launch} {E : zE} {Y : zY} {p : Program} {e : Env} {s : State} {m : MethodId} {args : Array Value} {below : List Frame} {meth : Method} {c : Code} (hG : zG E p l s m args meth c cX10_take 1 RX10 none (zA Y s.heap.size)) {Q : zS → Prop} : ∀ (t0 : Nat) (vw0 : Int32) (vw1 : Int32) (σ : zS), wX10_take_162 (zln Y) Q t0 vw0 vw1 σ → zT Y 10 t0 → WW E Y σ p l e rX10_take s m args below meth c (zA Y s.heap.size) 1 0 0 (MQ below (va_Qv Q (zB E Y s.heap.size) (zA Y s.heap.size)) args s 0 0 (zA Y s.heap.size)) [(0, .ref (za Y t0))] 162 [.int vw1, .int vw0] := by
  intro t0 vw0 vw1 σ hw h0
  unfold wX10_take_162 at hw
  refine z_icmp_le (tgt := 170) hG dX10_take_162 (by decide) (fun c2 => ?_) (fun c2 => ?_)
  · have hw := hw.1 c2
    exact z_vret hG rfl dX10_take_170 hw
  · have hw := hw.2 c2
    refine z_aload_n hG dX10_take_165 rfl 0 rfl ?_
    refine z_iconst (v := 5) hG dX10_take_166 (by decide) ?_
    refine z_puti hG f_X10_42 h0 rfl rfl (zN_int _) dX10_take_167 ?_
    refine z_topσ (fun σ1 eσ1 => ?_)
    have hw := hw σ1 eσ1
    exact z_vret hG rfl dX10_take_170 hw
set_option maxRecDepth 100000 in
set_option maxHeartbeats 4000000 in
theorem BX10_take_144 {l : Launch} {E : zE} {Y : zY} {p : Program} {e : Env} {s : State} {m : MethodId} {args : Array Value} {below : List Frame} {meth : Method} {c : Code} (hG : zG E p l s m args meth c cX10_take 1 RX10 none (zA Y s.heap.size)) {Q : zS → Prop} : ∀ (t0 : Nat) (σ : zS), wX10_take_144 (zln Y) Q t0 σ → zT Y 10 t0 → WW E Y σ p l e rX10_take s m args below meth c (zA Y s.heap.size) 1 0 0 (MQ below (va_Qv Q (zB E Y s.heap.size) (zA Y s.heap.size)) args s 0 0 (zA Y s.heap.size)) [(0, .ref (za Y t0))] 144 [] := by
  intro t0 σ hw h0
  unfold wX10_take_144 at hw
  refine z_aload_n hG dX10_take_144 rfl 0 rfl ?_
  refine z_calli hG (z_runV (As := []) (st := []) hG k_X10_45 (MX10_length l h0 hw) ⟨(Nat.le_of_ble_eq_true rfl), (Nat.le_of_ble_eq_true rfl)⟩ h0 (T := TX10) (N := 4) rfl (by decide) rfl (Nat.le_of_ble_eq_true rfl) dX10_take_145 ⟨Nat.zero_le _, Nat.zero_le _⟩ rfl) (fun r2 σ1 hw => ?_)
  refine z_aload_n hG dX10_take_148 rfl 0 rfl ?_
  refine z_geti hG f_X10_42 h0 rfl dX10_take_149 ?_
  refine z_iconst (v := 1) hG dX10_take_152 (by decide) ?_
  refine z_icmp_ne (tgt := 161) hG dX10_take_153 (by decide) (fun c3 => ?_) (fun c3 => ?_)
  · have hw := hw.2 c3
    refine z_iconst (v := 5) hG dX10_take_161 (by decide) ?_
    refine zpick [0] (lv' := [(0, .ref (za Y t0))]) rfl ?_
    exact BX10_take_162 hG t0 r2 5 σ1 hw h0
  · have hw := hw.1 c3
    refine z_bipush (v := 12) hG dX10_take_156 (by decide) ?_
    refine z_goto (tgt := 162) hG dX10_take_158 (by decide) ?_
    refine zpick [0] (lv' := [(0, .ref (za Y t0))]) rfl ?_
    exact BX10_take_162 hG t0 r2 12 σ1 hw h0
set_option maxRecDepth 100000 in
set_option maxHeartbeats 4000000 in
theorem BX10_take_96 {l : Launch} {E : zE} {Y : zY} {p : Program} {e : Env} {s : State} {m : MethodId} {args : Array Value} {below : List Frame} {meth : Method} {c : Code} (hG : zG E p l s m args meth c cX10_take 1 RX10 none (zA Y s.heap.size)) {Q : zS → Prop} : ∀ (n : Nat) (t0 : Nat) (σ : zS), wX10_take_96 (zln Y) Q n t0 σ → zT Y 10 t0 → WW E Y σ p l e rX10_take s m args below meth c (zA Y s.heap.size) 1 0 0 (MQ below (va_Qv Q (zB E Y s.heap.size) (zA Y s.heap.size)) args s 0 0 (zA Y s.heap.size)) [(0, .ref (za Y t0))] 96 [] := by
  intro n
  induction n with
  | zero => intro t0 σ hw
            exact hw.elim
  | succ n ih =>
    intro t0 σ hw h0
    rw [wX10_take_96] at hw
    refine z_aload_n hG dX10_take_96 rfl 0 rfl ?_
    refine z_geti hG f_X10_15 h0 rfl dX10_take_97 ?_
    refine z_aload_n hG dX10_take_100 rfl 0 rfl ?_
    obtain ⟨j1, ej1, hw⟩ := hw
    refine z_getr (kq := 9) hG f_X10_9 h0 rfl ej1 rfl (by decide) dX10_take_101 (fun hj1 => ?_)
    refine z_calli hG (z_runV (As := []) (st := [.int (gi σ t0 3)]) hG k_X10_25 (MX9_size l hj1 hw) ⟨(Nat.le_of_ble_eq_true rfl), (Nat.le_of_ble_eq_true rfl)⟩ hj1 (T := TX9) (N := 2) rfl (by decide) rfl (Nat.le_of_ble_eq_true rfl) dX10_take_104 ⟨Nat.zero_le _, Nat.zero_le _⟩ rfl) (fun r3 σ2 hw => ?_)
    refine z_icmp_ge (tgt := 144) hG dX10_take_107 (by decide) (fun c13 => ?_) (fun c13 => ?_)
    · have hw := hw.1 c13
      refine zpick [0] (lv' := [(0, .ref (za Y t0))]) rfl ?_
      exact BX10_take_144 hG t0 σ2 hw h0
    · have hw := hw.2 c13
      refine z_aload_n hG dX10_take_110 rfl 0 rfl ?_
      obtain ⟨j4, ej4, hw⟩ := hw
      refine z_getr (kq := 9) hG f_X10_9 h0 rfl ej4 rfl (by decide) dX10_take_111 (fun hj4 => ?_)
      refine z_aload_n hG dX10_take_114 rfl 0 rfl ?_
      refine z_geti hG f_X10_15 h0 rfl dX10_take_115 ?_
      refine z_topi (fun x5 ex5 => ?_)
      have hw := hw x5 ex5
      refine z_calli hG (z_runV (As := [.int x5]) (st := []) hG k_X10_31 (MX9_get l hj4 hw) ⟨(Nat.le_of_ble_eq_true rfl), (Nat.le_of_ble_eq_true rfl)⟩ hj4 (T := TX9) (N := 2) rfl (by decide) rfl (Nat.le_of_ble_eq_true rfl) dX10_take_118 ⟨Nat.zero_le _, Nat.zero_le _⟩ rfl) (fun r7 σ6 hw => ?_)
      refine z_calli hG (z_runS (As := [.int r7]) (st := []) hG k_X10_39 (MX10_kindOf l hw) ⟨(Nat.le_of_ble_eq_true rfl), (Nat.le_of_ble_eq_true rfl)⟩ rfl (Nat.le_of_ble_eq_true rfl) dX10_take_121 ⟨Nat.zero_le _, Nat.zero_le _⟩ rfl) (fun r9 σ8 hw => ?_)
      refine z_aload_n hG dX10_take_124 rfl 0 rfl ?_
      refine z_geti hG f_X10_42 h0 rfl dX10_take_125 ?_
      refine z_icmp_ne (tgt := 144) hG dX10_take_128 (by decide) (fun c12 => ?_) (fun c12 => ?_)
      · have hw := hw.2 c12
        refine zpick [0] (lv' := [(0, .ref (za Y t0))]) rfl ?_
        exact BX10_take_144 hG t0 σ8 hw h0
      · have hw := hw.1 c12
        refine z_aload_n hG dX10_take_131 rfl 0 rfl ?_
        refine z_dup hG dX10_take_132 rfl ?_
        refine z_geti hG f_X10_15 h0 rfl dX10_take_133 ?_
        refine z_iconst (v := 1) hG dX10_take_136 (by decide) ?_
        refine z_iadd hG dX10_take_137 ?_
        refine z_topi (fun x10 ex10 => ?_)
        have hw := hw x10 ex10
        refine z_puti hG f_X10_15 h0 rfl rfl (zN_int _) dX10_take_138 ?_
        refine z_topσ (fun σ11 eσ11 => ?_)
        have hw := hw σ11 eσ11
        refine z_goto (tgt := 96) hG dX10_take_141 (by decide) ?_
        refine zpick [0] (lv' := [(0, .ref (za Y t0))]) rfl ?_
        exact ih t0 σ11 hw h0
set_option maxRecDepth 100000 in
set_option maxHeartbeats 4000000 in
theorem BX10_take_52 {l : Launch} {E : zE} {Y : zY} {p : Program} {e : Env} {s : State} {m : MethodId} {args : Array Value} {below : List Frame} {meth : Method} {c : Code} (hG : zG E p l s m args meth c cX10_take 1 RX10 none (zA Y s.heap.size)) {Q : zS → Prop} : ∀ (t0 : Nat) (σ : zS), wX10_take_52 (zln Y) Q t0 σ → zT Y 10 t0 → WW E Y σ p l e rX10_take s m args below meth c (zA Y s.heap.size) 1 0 0 (MQ below (va_Qv Q (zB E Y s.heap.size) (zA Y s.heap.size)) args s 0 0 (zA Y s.heap.size)) [(0, .ref (za Y t0))] 52 [] := by
  intro t0 σ hw h0
  unfold wX10_take_52 at hw
  refine z_aload_n hG dX10_take_52 rfl 0 rfl ?_
  refine z_aload_n hG dX10_take_53 rfl 0 rfl ?_
  obtain ⟨j1, ej1, hw⟩ := hw
  refine z_getr (kq := 9) hG f_X10_9 h0 rfl ej1 rfl (by decide) dX10_take_54 (fun hj1 => ?_)
  refine z_aload_n hG dX10_take_57 rfl 0 rfl ?_
  refine z_geti hG f_X10_22 h0 rfl dX10_take_58 ?_
  refine z_topi (fun x2 ex2 => ?_)
  have hw := hw x2 ex2
  refine z_calli hG (z_runV (As := [.int x2]) (st := [.ref (za Y t0)]) hG k_X10_31 (MX9_get l hj1 hw) ⟨(Nat.le_of_ble_eq_true rfl), (Nat.le_of_ble_eq_true rfl)⟩ hj1 (T := TX9) (N := 2) rfl (by decide) rfl (Nat.le_of_ble_eq_true rfl) dX10_take_61 ⟨Nat.zero_le _, Nat.zero_le _⟩ rfl) (fun r4 σ3 hw => ?_)
  refine z_calli hG (z_runS (As := [.int r4]) (st := [.ref (za Y t0)]) hG k_X10_39 (MX10_kindOf l hw) ⟨(Nat.le_of_ble_eq_true rfl), (Nat.le_of_ble_eq_true rfl)⟩ rfl (Nat.le_of_ble_eq_true rfl) dX10_take_64 ⟨Nat.zero_le _, Nat.zero_le _⟩ rfl) (fun r6 σ5 hw => ?_)
  refine z_puti hG f_X10_42 h0 rfl rfl (zN_int _) dX10_take_67 ?_
  refine z_topσ (fun σ7 eσ7 => ?_)
  have hw := hw σ7 eσ7
  refine z_aload_n hG dX10_take_70 rfl 0 rfl ?_
  refine z_aload_n hG dX10_take_71 rfl 0 rfl ?_
  refine z_geti hG f_X10_22 h0 rfl dX10_take_72 ?_
  refine z_iconst (v := 1) hG dX10_take_75 (by decide) ?_
  refine z_iadd hG dX10_take_76 ?_
  refine z_topi (fun x8 ex8 => ?_)
  have hw := hw x8 ex8
  refine z_puti hG f_X10_15 h0 rfl rfl (zN_int _) dX10_take_77 ?_
  refine z_topσ (fun σ9 eσ9 => ?_)
  have hw := hw σ9 eσ9
  refine z_aload_n hG dX10_take_80 rfl 0 rfl ?_
  refine z_geti hG f_X10_42 h0 rfl dX10_take_81 ?_
  refine z_iconst (v := 1) hG dX10_take_84 (by decide) ?_
  refine z_icmp_eq (tgt := 96) hG dX10_take_85 (by decide) (fun c13 => ?_) (fun c13 => ?_)
  · have hw := hw.1 c13
    obtain ⟨n10, hw⟩ := hw
    refine zpick [0] (lv' := [(0, .ref (za Y t0))]) rfl ?_
    exact BX10_take_96 hG n10 t0 σ9 hw h0
  · have hw := hw.2 c13
    refine z_aload_n hG dX10_take_88 rfl 0 rfl ?_
    refine z_geti hG f_X10_42 h0 rfl dX10_take_89 ?_
    refine z_iconst (v := 2) hG dX10_take_92 (by decide) ?_
    refine z_icmp_ne (tgt := 170) hG dX10_take_93 (by decide) (fun c12 => ?_) (fun c12 => ?_)
    · have hw := hw.2 c12
      exact z_vret hG rfl dX10_take_170 hw
    · have hw := hw.1 c12
      obtain ⟨n11, hw⟩ := hw
      refine zpick [0] (lv' := [(0, .ref (za Y t0))]) rfl ?_
      exact BX10_take_96 hG n11 t0 σ9 hw h0
set_option maxRecDepth 100000 in
set_option maxHeartbeats 4000000 in
theorem BX10_take_8 {l : Launch} {E : zE} {Y : zY} {p : Program} {e : Env} {s : State} {m : MethodId} {args : Array Value} {below : List Frame} {meth : Method} {c : Code} (hG : zG E p l s m args meth c cX10_take 1 RX10 none (zA Y s.heap.size)) {Q : zS → Prop} : ∀ (n : Nat) (t0 : Nat) (σ : zS), wX10_take_8 (zln Y) Q n t0 σ → zT Y 10 t0 → WW E Y σ p l e rX10_take s m args below meth c (zA Y s.heap.size) 1 0 0 (MQ below (va_Qv Q (zB E Y s.heap.size) (zA Y s.heap.size)) args s 0 0 (zA Y s.heap.size)) [(0, .ref (za Y t0))] 8 [] := by
  intro n
  induction n with
  | zero => intro t0 σ hw
            exact hw.elim
  | succ n ih =>
    intro t0 σ hw h0
    rw [wX10_take_8] at hw
    refine z_aload_n hG dX10_take_8 rfl 0 rfl ?_
    refine z_geti hG f_X10_22 h0 rfl dX10_take_9 ?_
    refine z_aload_n hG dX10_take_12 rfl 0 rfl ?_
    obtain ⟨j1, ej1, hw⟩ := hw
    refine z_getr (kq := 9) hG f_X10_9 h0 rfl ej1 rfl (by decide) dX10_take_13 (fun hj1 => ?_)
    refine z_calli hG (z_runV (As := []) (st := [.int (gi σ t0 1)]) hG k_X10_25 (MX9_size l hj1 hw) ⟨(Nat.le_of_ble_eq_true rfl), (Nat.le_of_ble_eq_true rfl)⟩ hj1 (T := TX9) (N := 2) rfl (by decide) rfl (Nat.le_of_ble_eq_true rfl) dX10_take_16 ⟨Nat.zero_le _, Nat.zero_le _⟩ rfl) (fun r3 σ2 hw => ?_)
    refine z_icmp_ge (tgt := 52) hG dX10_take_19 (by decide) (fun c13 => ?_) (fun c13 => ?_)
    · have hw := hw.1 c13
      refine zpick [0] (lv' := [(0, .ref (za Y t0))]) rfl ?_
      exact BX10_take_52 hG t0 σ2 hw h0
    · have hw := hw.2 c13
      refine z_aload_n hG dX10_take_22 rfl 0 rfl ?_
      obtain ⟨j4, ej4, hw⟩ := hw
      refine z_getr (kq := 9) hG f_X10_9 h0 rfl ej4 rfl (by decide) dX10_take_23 (fun hj4 => ?_)
      refine z_aload_n hG dX10_take_26 rfl 0 rfl ?_
      refine z_geti hG f_X10_22 h0 rfl dX10_take_27 ?_
      refine z_topi (fun x5 ex5 => ?_)
      have hw := hw x5 ex5
      refine z_calli hG (z_runV (As := [.int x5]) (st := []) hG k_X10_31 (MX9_get l hj4 hw) ⟨(Nat.le_of_ble_eq_true rfl), (Nat.le_of_ble_eq_true rfl)⟩ hj4 (T := TX9) (N := 2) rfl (by decide) rfl (Nat.le_of_ble_eq_true rfl) dX10_take_30 ⟨Nat.zero_le _, Nat.zero_le _⟩ rfl) (fun r7 σ6 hw => ?_)
      refine z_calli hG (z_runS (As := [.int r7]) (st := []) hG k_X10_35 (MX10_isBlank l hw) ⟨(Nat.le_of_ble_eq_true rfl), (Nat.le_of_ble_eq_true rfl)⟩ rfl (Nat.le_of_ble_eq_true rfl) dX10_take_33 ⟨Nat.zero_le _, Nat.zero_le _⟩ rfl) (fun r9 σ8 hw => ?_)
      refine z_if_eq (tgt := 52) hG dX10_take_36 (by decide) (fun c12 => ?_) (fun c12 => ?_)
      · have hw := hw.1 c12
        refine zpick [0] (lv' := [(0, .ref (za Y t0))]) rfl ?_
        exact BX10_take_52 hG t0 σ8 hw h0
      · have hw := hw.2 c12
        refine z_aload_n hG dX10_take_39 rfl 0 rfl ?_
        refine z_dup hG dX10_take_40 rfl ?_
        refine z_geti hG f_X10_22 h0 rfl dX10_take_41 ?_
        refine z_iconst (v := 1) hG dX10_take_44 (by decide) ?_
        refine z_iadd hG dX10_take_45 ?_
        refine z_topi (fun x10 ex10 => ?_)
        have hw := hw x10 ex10
        refine z_puti hG f_X10_22 h0 rfl rfl (zN_int _) dX10_take_46 ?_
        refine z_topσ (fun σ11 eσ11 => ?_)
        have hw := hw σ11 eσ11
        refine z_goto (tgt := 8) hG dX10_take_49 (by decide) ?_
        refine zpick [0] (lv' := [(0, .ref (za Y t0))]) rfl ?_
        exact ih t0 σ11 hw h0
set_option maxRecDepth 100000 in
set_option maxHeartbeats 4000000 in
theorem MX10_take (l : Launch) {E : zE} {Y : zY} {σ : zS} {t0 : Nat} (h0 : zT Y 10 t0) {Q : zS → Prop} (hw : wX10_take (zln Y) σ t0 Q) : ∀ sz, Met l yX10_take (zw yX10_take cX10_take 1 none) rX10_take (zPc E Y σ sz [.ref (za Y t0)]) (va_Qv Q (zB E Y sz) (zA Y sz)) 0 0 (zA Y sz) := by
  refine z_met (own := RX10) (Qc := fun sz => va_Qv Q (zB E Y sz) (zA Y sz)) (by decide +kernel) rfl (Nat.le_of_ble_eq_true rfl) ?_
  intro p e s m args below meth c hG hinit
  unfold wX10_take at hw
  refine zlv (lv' := [(0, .ref (za Y t0))]) rfl ?_
  refine z_aload_n hG dX10_take_0 rfl 0 rfl ?_
  refine z_aload_n hG dX10_take_1 rfl 0 rfl ?_
  refine z_geti hG f_X10_15 h0 rfl dX10_take_2 ?_
  refine z_topi (fun x1 ex1 => ?_)
  have hw := hw x1 ex1
  refine z_puti hG f_X10_22 h0 rfl rfl (zN_int _) dX10_take_5 ?_
  refine z_topσ (fun σ2 eσ2 => ?_)
  have hw := hw σ2 eσ2
  obtain ⟨n3, hw⟩ := hw
  refine zpick [0] (lv' := [(0, .ref (za Y t0))]) rfl ?_
  exact BX10_take_8 hG n3 t0 σ2 hw h0
-- TypeWheelTelegraph$Tokens.begin()V
def wX10_begin (ln : Nat → Nat) (σ : zS) (t0 : Nat) (Q : zS → Prop) : Prop := ∀ σ1 : zS, σ1 = si σ t0 3 0 → wX10_take ln σ1 t0 (fun σ2 => Q σ2)
abbrev rX10_begin : Room := { frames := 2, cells := 0, slots := 0, locals := 41 }
set_option maxRecDepth 100000 in
set_option maxHeartbeats 4000000 in
theorem MX10_begin (l : Launch) {E : zE} {Y : zY} {σ : zS} {t0 : Nat} (h0 : zT Y 10 t0) {Q : zS → Prop} (hw : wX10_begin (zln Y) σ t0 Q) : ∀ sz, Met l yX10_begin (zw yX10_begin cX10_begin 1 none) rX10_begin (zPc E Y σ sz [.ref (za Y t0)]) (va_Qv Q (zB E Y sz) (zA Y sz)) 0 0 (zA Y sz) := by
  refine z_met (own := RX10) (Qc := fun sz => va_Qv Q (zB E Y sz) (zA Y sz)) (by decide +kernel) rfl (Nat.le_of_ble_eq_true rfl) ?_
  intro p e s m args below meth c hG hinit
  unfold wX10_begin at hw
  refine zlv (lv' := [(0, .ref (za Y t0))]) rfl ?_
  refine z_aload_n hG dX10_begin_0 rfl 0 rfl ?_
  refine z_iconst (v := 0) hG dX10_begin_1 (by decide) ?_
  refine z_puti hG f_X10_15 h0 rfl rfl (zN_int _) dX10_begin_2 ?_
  refine z_topσ (fun σ1 eσ1 => ?_)
  have hw := hw σ1 eσ1
  refine z_aload_n hG dX10_begin_5 rfl 0 rfl ?_
  refine z_callv hG (z_runV (As := []) (st := []) hG k_X10_19 (MX10_take l h0 hw) ⟨(Nat.le_of_ble_eq_true rfl), (Nat.le_of_ble_eq_true rfl)⟩ h0 (T := TX10) (N := 4) rfl (by decide) rfl (Nat.le_of_ble_eq_true rfl) dX10_begin_6 ⟨Nat.zero_le _, Nat.zero_le _⟩ rfl) (fun σ2 hw => ?_)
  exact z_vret hG rfl dX10_begin_9 hw
-- TypeWheelTelegraph$Tokens.signAt(I)I
def wX10_signAt (ln : Nat → Nat) (σ : zS) (t0 : Nat) (v1 : Int32) (Q : Int32 → zS → Prop) : Prop := ∃ j1 : Nat, gr σ t0 2 = some j1 ∧ ∀ x2 : Int32, x2 = (gi σ t0 1) + v1 → wX9_get ln σ j1 x2 (fun r4 σ3 => Q r4 σ3)
abbrev rX10_signAt : Room := { frames := 1, cells := 0, slots := 0, locals := 21 }
set_option maxRecDepth 100000 in
set_option maxHeartbeats 4000000 in
theorem MX10_signAt (l : Launch) {E : zE} {Y : zY} {σ : zS} {t0 : Nat} {v1 : Int32} (h0 : zT Y 10 t0) {Q : Int32 → zS → Prop} (hw : wX10_signAt (zln Y) σ t0 v1 Q) : ∀ sz, Met l yX10_signAt (zw yX10_signAt cX10_signAt 2 (some .int)) rX10_signAt (zPc E Y σ sz [.ref (za Y t0), .int v1]) (va_Qi Q (zB E Y sz) (zA Y sz)) 0 0 (zA Y sz) := by
  refine z_met (own := RX10) (Qc := fun sz => va_Qi Q (zB E Y sz) (zA Y sz)) (by decide +kernel) rfl (Nat.le_of_ble_eq_true rfl) ?_
  intro p e s m args below meth c hG hinit
  unfold wX10_signAt at hw
  refine zlv (lv' := [(0, .ref (za Y t0)), (1, .int v1)]) rfl ?_
  refine z_aload_n hG dX10_signAt_0 rfl 0 rfl ?_
  obtain ⟨j1, ej1, hw⟩ := hw
  refine z_getr (kq := 9) hG f_X10_9 h0 rfl ej1 rfl (by decide) dX10_signAt_1 (fun hj1 => ?_)
  refine z_aload_n hG dX10_signAt_4 rfl 0 rfl ?_
  refine z_geti hG f_X10_22 h0 rfl dX10_signAt_5 ?_
  refine z_iload_n hG dX10_signAt_8 rfl 1 rfl ?_
  refine z_iadd hG dX10_signAt_9 ?_
  refine z_topi (fun x2 ex2 => ?_)
  have hw := hw x2 ex2
  refine z_calli hG (z_runV (As := [.int x2]) (st := []) hG k_X10_31 (MX9_get l hj1 hw) ⟨(Nat.le_of_ble_eq_true rfl), (Nat.le_of_ble_eq_true rfl)⟩ hj1 (T := TX9) (N := 2) rfl (by decide) rfl (Nat.le_of_ble_eq_true rfl) dX10_signAt_10 ⟨Nat.zero_le _, Nat.zero_le _⟩ rfl) (fun r4 σ3 hw => ?_)
  exact z_iret hG rfl rfl dX10_signAt_13 hw
-- TypeWheelTelegraph$Tokens.number()I
def wX10_number_17 (ln : Nat → Nat) (Q : Int32 → zS → Prop) : Nat → Nat → Int32 → Int32 → zS → Prop
  | 0, _, _, _, _ => False
  | n + 1, t0, v1, v2, σ => (((gi σ t0 3) ≤ v2 → Q v1 σ) ∧ (¬ (gi σ t0 3) ≤ v2 → ∃ j1 : Nat, gr σ t0 2 = some j1 ∧ wX9_get ln σ j1 v2 (fun r3 σ2 => ∀ x4 : Int32, x4 = ((10 * v1) + r3) - 48 → ∀ x5 : Int32, x5 = v2 + 1 → (wX10_number_17 ln Q n) t0 x4 x5 σ2)))
def wX10_number (ln : Nat → Nat) (σ : zS) (t0 : Nat) (Q : Int32 → zS → Prop) : Prop := (((gi σ t0 0) = 2 → ∀ x1 : Int32, x1 = gi σ t0 1 → ∃ n2 : Nat, wX10_number_17 ln Q n2 t0 0 x1 σ) ∧ (¬ (gi σ t0 0) = 2 → Q (-1) σ))
abbrev rX10_number : Room := { frames := 1, cells := 0, slots := 0, locals := 21 }
set_option maxRecDepth 100000 in
set_option maxHeartbeats 4000000 in
theorem BX10_number_17 {l : Launch} {E : zE} {Y : zY} {p : Program} {e : Env} {s : State} {m : MethodId} {args : Array Value} {below : List Frame} {meth : Method} {c : Code} (hG : zG E p l s m args meth c cX10_number 3 RX10 (some .int) (zA Y s.heap.size)) {Q : Int32 → zS → Prop} : ∀ (n : Nat) (t0 : Nat) (v1 : Int32) (v2 : Int32) (σ : zS), wX10_number_17 (zln Y) Q n t0 v1 v2 σ → zT Y 10 t0 → WW E Y σ p l e rX10_number s m args below meth c (zA Y s.heap.size) 3 0 0 (MQ below (va_Qi Q (zB E Y s.heap.size) (zA Y s.heap.size)) args s 0 0 (zA Y s.heap.size)) [(0, .ref (za Y t0)), (1, .int v1), (2, .int v2)] 17 [] := by
  intro n
  induction n with
  | zero => intro t0 v1 v2 σ hw
            exact hw.elim
  | succ n ih =>
    intro t0 v1 v2 σ hw h0
    rw [wX10_number_17] at hw
    refine z_iload_n hG dX10_number_17 rfl 2 rfl ?_
    refine z_aload_n hG dX10_number_18 rfl 0 rfl ?_
    refine z_geti hG f_X10_15 h0 rfl dX10_number_19 ?_
    refine z_icmp_ge (tgt := 48) hG dX10_number_22 (by decide) (fun c6 => ?_) (fun c6 => ?_)
    · have hw := hw.1 c6
      refine z_iload_n hG dX10_number_48 rfl 1 rfl ?_
      exact z_iret hG rfl rfl dX10_number_49 hw
    · have hw := hw.2 c6
      refine z_bipush (v := 10) hG dX10_number_25 (by decide) ?_
      refine z_iload_n hG dX10_number_27 rfl 1 rfl ?_
      refine z_imul hG dX10_number_28 ?_
      refine z_aload_n hG dX10_number_29 rfl 0 rfl ?_
      obtain ⟨j1, ej1, hw⟩ := hw
      refine z_getr (kq := 9) hG f_X10_9 h0 rfl ej1 rfl (by decide) dX10_number_30 (fun hj1 => ?_)
      refine z_iload_n hG dX10_number_33 rfl 2 rfl ?_
      refine z_calli hG (z_runV (As := [.int v2]) (st := [.int (10 * v1)]) hG k_X10_31 (MX9_get l hj1 hw) ⟨(Nat.le_of_ble_eq_true rfl), (Nat.le_of_ble_eq_true rfl)⟩ hj1 (T := TX9) (N := 2) rfl (by decide) rfl (Nat.le_of_ble_eq_true rfl) dX10_number_34 ⟨Nat.zero_le _, Nat.zero_le _⟩ rfl) (fun r3 σ2 hw => ?_)
      refine z_iadd hG dX10_number_37 ?_
      refine z_bipush (v := 48) hG dX10_number_38 (by decide) ?_
      refine z_isub hG dX10_number_40 ?_
      refine z_topi (fun x4 ex4 => ?_)
      have hw := hw x4 ex4
      refine z_istore_n (lv' := [(1, .int x4), (0, .ref (za Y t0)), (2, .int v2)]) hG dX10_number_41 rfl (by decide) rfl ?_
      obtain ⟨x5, ex5⟩ : ∃ y : Int32, y = v2 + 1 := ⟨_, rfl⟩
      have hw := hw x5 ex5
      refine z_iinc (v := x5) (lv' := [(2, .int x5), (1, .int x4), (0, .ref (za Y t0))]) hG dX10_number_42 2 rfl (by rw [ex5]; rfl) (by decide) rfl ?_
      refine z_goto (tgt := 17) hG dX10_number_45 (by decide) ?_
      refine zpick [2, 1, 0] (lv' := [(0, .ref (za Y t0)), (1, .int x4), (2, .int x5)]) rfl ?_
      exact ih t0 x4 x5 σ2 hw h0
set_option maxRecDepth 100000 in
set_option maxHeartbeats 4000000 in
theorem MX10_number (l : Launch) {E : zE} {Y : zY} {σ : zS} {t0 : Nat} (h0 : zT Y 10 t0) {Q : Int32 → zS → Prop} (hw : wX10_number (zln Y) σ t0 Q) : ∀ sz, Met l yX10_number (zw yX10_number cX10_number 3 (some .int)) rX10_number (zPc E Y σ sz [.ref (za Y t0)]) (va_Qi Q (zB E Y sz) (zA Y sz)) 0 0 (zA Y sz) := by
  refine z_met (own := RX10) (Qc := fun sz => va_Qi Q (zB E Y sz) (zA Y sz)) (by decide +kernel) rfl (Nat.le_of_ble_eq_true rfl) ?_
  intro p e s m args below meth c hG hinit
  unfold wX10_number at hw
  refine zlv (lv' := [(0, .ref (za Y t0))]) rfl ?_
  refine z_aload_n hG dX10_number_0 rfl 0 rfl ?_
  refine z_geti hG f_X10_42 h0 rfl dX10_number_1 ?_
  refine z_iconst (v := 2) hG dX10_number_4 (by decide) ?_
  refine z_icmp_eq (tgt := 10) hG dX10_number_5 (by decide) (fun c3 => ?_) (fun c3 => ?_)
  · have hw := hw.1 c3
    refine z_iconst (v := 0) hG dX10_number_10 (by decide) ?_
    refine z_istore_n (lv' := [(1, .int 0), (0, .ref (za Y t0))]) hG dX10_number_11 rfl (by decide) rfl ?_
    refine z_aload_n hG dX10_number_12 rfl 1 rfl ?_
    refine z_geti hG f_X10_22 h0 rfl dX10_number_13 ?_
    refine z_topi (fun x1 ex1 => ?_)
    have hw := hw x1 ex1
    refine z_istore_n (lv' := [(2, .int x1), (1, .int 0), (0, .ref (za Y t0))]) hG dX10_number_16 rfl (by decide) rfl ?_
    obtain ⟨n2, hw⟩ := hw
    refine zpick [2, 1, 0] (lv' := [(0, .ref (za Y t0)), (1, .int 0), (2, .int x1)]) rfl ?_
    exact BX10_number_17 hG n2 t0 0 x1 σ hw h0
  · have hw := hw.2 c3
    refine z_iconst (v := (-1)) hG dX10_number_8 (by decide) ?_
    exact z_iret hG rfl rfl dX10_number_9 hw
-- TypeWheelTelegraph$Parser.takeNumber(II)Z
def wX5_takeNumber (ln : Nat → Nat) (σ : zS) (t0 : Nat) (v1 : Int32) (v2 : Int32) (Q : Int32 → zS → Prop) : Prop := ∃ j1 : Nat, gr σ t0 0 = some j1 ∧ wX10_take ln σ j1 (fun σ2 => ∃ j3 : Nat, gr σ2 t0 0 = some j3 ∧ wX10_number ln σ2 j3 (fun r5 σ4 => ∀ σ6 : zS, σ6 = si σ4 t0 2 r5 → (((gi σ6 t0 2) < v1 → Q 0 σ6) ∧ (¬ (gi σ6 t0 2) < v1 → ((v2 < (gi σ6 t0 2) → Q 0 σ6) ∧ (¬ v2 < (gi σ6 t0 2) → Q 1 σ6))))))
abbrev rX5_takeNumber : Room := { frames := 2, cells := 0, slots := 0, locals := 43 }
set_option maxRecDepth 100000 in
set_option maxHeartbeats 4000000 in
theorem MX5_takeNumber (l : Launch) {E : zE} {Y : zY} {σ : zS} {t0 : Nat} {v1 : Int32} {v2 : Int32} (h0 : zT Y 5 t0) {Q : Int32 → zS → Prop} (hw : wX5_takeNumber (zln Y) σ t0 v1 v2 Q) : ∀ sz, Met l yX5_takeNumber (zw yX5_takeNumber cX5_takeNumber 3 (some .boolean)) rX5_takeNumber (zPc E Y σ sz [.ref (za Y t0), .int v1, .int v2]) (va_Qi Q (zB E Y sz) (zA Y sz)) 0 0 (zA Y sz) := by
  refine z_met (own := RX5) (Qc := fun sz => va_Qi Q (zB E Y sz) (zA Y sz)) (by decide +kernel) rfl (Nat.le_of_ble_eq_true rfl) ?_
  intro p e s m args below meth c hG hinit
  unfold wX5_takeNumber at hw
  refine zlv (lv' := [(0, .ref (za Y t0)), (1, .int v1), (2, .int v2)]) rfl ?_
  refine z_aload_n hG dX5_takeNumber_0 rfl 0 rfl ?_
  obtain ⟨j1, ej1, hw⟩ := hw
  refine z_getr (kq := 10) hG f_X5_14 h0 rfl ej1 rfl (by decide) dX5_takeNumber_1 (fun hj1 => ?_)
  refine z_callv hG (z_runV (As := []) (st := []) hG k_X5_42 (MX10_take l hj1 hw) ⟨(Nat.le_of_ble_eq_true rfl), (Nat.le_of_ble_eq_true rfl)⟩ hj1 (T := TX10) (N := 4) rfl (by decide) rfl (Nat.le_of_ble_eq_true rfl) dX5_takeNumber_4 ⟨Nat.zero_le _, Nat.zero_le _⟩ rfl) (fun σ2 hw => ?_)
  refine z_aload_n hG dX5_takeNumber_7 rfl 0 rfl ?_
  refine z_aload_n hG dX5_takeNumber_8 rfl 0 rfl ?_
  obtain ⟨j3, ej3, hw⟩ := hw
  refine z_getr (kq := 10) hG f_X5_14 h0 rfl ej3 rfl (by decide) dX5_takeNumber_9 (fun hj3 => ?_)
  refine z_calli hG (z_runV (As := []) (st := [.ref (za Y t0)]) hG k_X5_169 (MX10_number l hj3 hw) ⟨(Nat.le_of_ble_eq_true rfl), (Nat.le_of_ble_eq_true rfl)⟩ hj3 (T := TX10) (N := 4) rfl (by decide) rfl (Nat.le_of_ble_eq_true rfl) dX5_takeNumber_12 ⟨Nat.zero_le _, Nat.zero_le _⟩ rfl) (fun r5 σ4 hw => ?_)
  refine z_puti hG f_X5_94 h0 rfl rfl (zN_int _) dX5_takeNumber_15 ?_
  refine z_topσ (fun σ6 eσ6 => ?_)
  have hw := hw σ6 eσ6
  refine z_aload_n hG dX5_takeNumber_18 rfl 0 rfl ?_
  refine z_geti hG f_X5_94 h0 rfl dX5_takeNumber_19 ?_
  refine z_iload_n hG dX5_takeNumber_22 rfl 1 rfl ?_
  refine z_icmp_lt (tgt := 38) hG dX5_takeNumber_23 (by decide) (fun c8 => ?_) (fun c8 => ?_)
  · have hw := hw.1 c8
    refine z_iconst (v := 0) hG dX5_takeNumber_38 (by decide) ?_
    exact z_iret hG rfl (by decide +kernel) dX5_takeNumber_39 hw
  · have hw := hw.2 c8
    refine z_aload_n hG dX5_takeNumber_26 rfl 0 rfl ?_
    refine z_geti hG f_X5_94 h0 rfl dX5_takeNumber_27 ?_
    refine z_iload_n hG dX5_takeNumber_30 rfl 2 rfl ?_
    refine z_icmp_gt (tgt := 38) hG dX5_takeNumber_31 (by decide) (fun c7 => ?_) (fun c7 => ?_)
    · have hw := hw.1 c7
      refine z_iconst (v := 0) hG dX5_takeNumber_38 (by decide) ?_
      exact z_iret hG rfl (by decide +kernel) dX5_takeNumber_39 hw
    · have hw := hw.2 c7
      refine z_iconst (v := 1) hG dX5_takeNumber_34 (by decide) ?_
      refine z_goto (tgt := 39) hG dX5_takeNumber_35 (by decide) ?_
      exact z_iret hG rfl (by decide +kernel) dX5_takeNumber_39 hw
-- TypeWheelTelegraph$Plan.desk(I)LTypeWheelTelegraph$Desk;
def wX6_desk (ln : Nat → Nat) (σ : zS) (t0 : Nat) (v1 : Int32) (Q : Nat → zS → Prop) : Prop := ((v1 = 1 → ∃ j2 : Nat, gr σ t0 7 = some j2 ∧ Q j2 σ) ∧ (¬ v1 = 1 → ∃ j1 : Nat, gr σ t0 6 = some j1 ∧ Q j1 σ))
abbrev rX6_desk : Room := { frames := 0, cells := 0, slots := 0, locals := 0 }
set_option maxRecDepth 100000 in
set_option maxHeartbeats 4000000 in
theorem MX6_desk (l : Launch) {E : zE} {Y : zY} {σ : zS} {t0 : Nat} {v1 : Int32} (h0 : zT Y 6 t0) {Q : Nat → zS → Prop} (hw : wX6_desk (zln Y) σ t0 v1 Q) : ∀ sz, Met l yX6_desk (zw yX6_desk cX6_desk 2 (some (.object "TypeWheelTelegraph$Desk"))) rX6_desk (zPc E Y σ sz [.ref (za Y t0), .int v1]) (va_Qe (za Y) (zQe (zSm Q)) (zBe E Y sz 0) (zA Y sz)) 0 0 (zA Y sz) := by
  refine z_met (own := RX6) (Qc := fun sz => va_Qe (za Y) (zQe (zSm Q)) (zBe E Y sz 0) (zA Y sz)) (by decide +kernel) rfl (Nat.le_of_ble_eq_true rfl) ?_
  intro p e s m args below meth c hG hinit
  unfold wX6_desk at hw
  refine zlv (lv' := [(0, .ref (za Y t0)), (1, .int v1)]) rfl ?_
  refine z_iload_n hG dX6_desk_0 rfl 1 rfl ?_
  refine z_iconst (v := 1) hG dX6_desk_1 (by decide) ?_
  refine z_icmp_ne (tgt := 12) hG dX6_desk_2 (by decide) (fun c3 => ?_) (fun c3 => ?_)
  · have hw := hw.2 c3
    refine z_aload_n hG dX6_desk_12 rfl 0 rfl ?_
    obtain ⟨j1, ej1, hw⟩ := hw
    refine z_getr (kq := 0) hG f_X6_23 h0 rfl ej1 rfl (by decide) dX6_desk_13 (fun hj1 => ?_)
    exact z_aret hG rfl (Or.inl ⟨_, rfl⟩) hj1 dX6_desk_16 ⟨_, rfl, hw⟩
  · have hw := hw.1 c3
    refine z_aload_n hG dX6_desk_5 rfl 0 rfl ?_
    obtain ⟨j2, ej2, hw⟩ := hw
    refine z_getr (kq := 0) hG f_X6_27 h0 rfl ej2 rfl (by decide) dX6_desk_6 (fun hj2 => ?_)
    refine z_goto (tgt := 16) hG dX6_desk_9 (by decide) ?_
    exact z_aret hG rfl (Or.inl ⟨_, rfl⟩) hj2 dX6_desk_16 ⟨_, rfl, hw⟩
-- TypeWheelTelegraph$Desk.line(I)LTypeWheelTelegraph$Line;
def wX0_line (ln : Nat → Nat) (σ : zS) (t0 : Nat) (v1 : Int32) (Q : Option Nat → zS → Prop) : Prop := ((v1 < 0 → Q none σ) ∧ (¬ v1 < 0 → (((gi σ t0 2) ≤ v1 → Q none σ) ∧ (¬ (gi σ t0 2) ≤ v1 → ∃ j1 : Nat, gr σ t0 3 = some j1 ∧ (((nI (ln j1)) ≤ v1 → Q none σ) ∧ (¬ (nI (ln j1)) ≤ v1 → ∃ j2 : Nat, gr σ t0 3 = some j2 ∧ vp_in v1 (ln j2) ∧ ∃ j4 : Nat, gr σ j2 v1.toNatClampNeg = some j4 ∧ Q (some j4) σ))))))
abbrev rX0_line : Room := { frames := 0, cells := 0, slots := 0, locals := 0 }
set_option maxRecDepth 100000 in
set_option maxHeartbeats 4000000 in
theorem MX0_line (l : Launch) {E : zE} {Y : zY} {σ : zS} {t0 : Nat} {v1 : Int32} (h0 : zT Y 0 t0) {Q : Option Nat → zS → Prop} (hw : wX0_line (zln Y) σ t0 v1 Q) : ∀ sz, Met l yX0_line (zw yX0_line cX0_line 2 (some (.object "TypeWheelTelegraph$Line"))) rX0_line (zPc E Y σ sz [.ref (za Y t0), .int v1]) (va_Qe (za Y) (zQe Q) (zBe E Y sz 2) (zA Y sz)) 0 0 (zA Y sz) := by
  refine z_met (own := RX0) (Qc := fun sz => va_Qe (za Y) (zQe Q) (zBe E Y sz 2) (zA Y sz)) (by decide +kernel) rfl (Nat.le_of_ble_eq_true rfl) ?_
  intro p e s m args below meth c hG hinit
  unfold wX0_line at hw
  refine zlv (lv' := [(0, .ref (za Y t0)), (1, .int v1)]) rfl ?_
  refine z_iload_n hG dX0_line_0 rfl 1 rfl ?_
  refine z_if_lt (tgt := 30) hG dX0_line_1 (by decide) (fun c7 => ?_) (fun c7 => ?_)
  · have hw := hw.1 c7
    refine z_null hG dX0_line_30 ?_
    exact z_aretN hG rfl (Or.inl ⟨_, rfl⟩) dX0_line_31 hw
  · have hw := hw.2 c7
    refine z_iload_n hG dX0_line_4 rfl 1 rfl ?_
    refine z_aload_n hG dX0_line_5 rfl 0 rfl ?_
    refine z_geti hG f_X0_25 h0 rfl dX0_line_6 ?_
    refine z_icmp_ge (tgt := 30) hG dX0_line_9 (by decide) (fun c6 => ?_) (fun c6 => ?_)
    · have hw := hw.1 c6
      refine z_null hG dX0_line_30 ?_
      exact z_aretN hG rfl (Or.inl ⟨_, rfl⟩) dX0_line_31 hw
    · have hw := hw.2 c6
      refine z_iload_n hG dX0_line_12 rfl 1 rfl ?_
      refine z_aload_n hG dX0_line_13 rfl 0 rfl ?_
      obtain ⟨j1, ej1, hw⟩ := hw
      refine z_getr (kq := 22) hG f_X0_11 h0 rfl ej1 rfl (by decide) dX0_line_14 (fun hj1 => ?_)
      refine z_alen hG hj1 (by decide) (t0 := 2) rfl dX0_line_17 ?_
      refine z_icmp_ge (tgt := 30) hG dX0_line_18 (by decide) (fun c5 => ?_) (fun c5 => ?_)
      · have hw := hw.1 c5
        refine z_null hG dX0_line_30 ?_
        exact z_aretN hG rfl (Or.inl ⟨_, rfl⟩) dX0_line_31 hw
      · have hw := hw.2 c5
        refine z_aload_n hG dX0_line_21 rfl 0 rfl ?_
        obtain ⟨j2, ej2, hw⟩ := hw
        refine z_getr (kq := 22) hG f_X0_11 h0 rfl ej2 rfl (by decide) dX0_line_22 (fun hj2 => ?_)
        refine z_iload_n hG dX0_line_25 rfl 1 rfl ?_
        obtain ⟨q3, hw⟩ := hw
        obtain ⟨j4, ej4, hw⟩ := hw
        refine z_aald (kq := 2) (t0 := 2) hG hj2 (by decide) rfl q3 ej4 (fun _ => rfl) (by decide) dX0_line_26 (fun hj4 => ?_)
        refine z_goto (tgt := 31) hG dX0_line_27 (by decide) ?_
        exact z_aret hG rfl (Or.inl ⟨_, rfl⟩) hj4 dX0_line_31 hw
-- TypeWheelTelegraph$Desk.addLine()Z
def wX0_addLine (ln : Nat → Nat) (σ : zS) (t0 : Nat) (Q : Int32 → zS → Prop) : Prop := ∃ j1 : Nat, gr σ t0 3 = some j1 ∧ (((gi σ t0 2) < (nI (ln j1)) → ∀ x2 : Int32, x2 = (gi σ t0 2) + 1 → ∀ σ3 : zS, σ3 = si σ t0 2 x2 → ∀ x4 : Int32, x4 = (gi σ3 t0 2) - 1 → wX0_line ln σ3 t0 x4 (fun r6 σ5 => (r6 = none → Q 1 σ5) ∧ (∀ j7 : Nat, r6 = some j7 → ∃ j8 : Nat, gr σ5 j7 0 = some j8 ∧ wX9_clear ln σ5 j8 (fun σ9 => Q 1 σ9)))) ∧ (¬ (gi σ t0 2) < (nI (ln j1)) → Q 0 σ))
abbrev rX0_addLine : Room := { frames := 1, cells := 0, slots := 0, locals := 21 }
set_option maxRecDepth 100000 in
set_option maxHeartbeats 4000000 in
theorem MX0_addLine (l : Launch) {E : zE} {Y : zY} {σ : zS} {t0 : Nat} (h0 : zT Y 0 t0) {Q : Int32 → zS → Prop} (hw : wX0_addLine (zln Y) σ t0 Q) : ∀ sz, Met l yX0_addLine (zw yX0_addLine cX0_addLine 2 (some .boolean)) rX0_addLine (zPc E Y σ sz [.ref (za Y t0)]) (va_Qi Q (zB E Y sz) (zA Y sz)) 0 0 (zA Y sz) := by
  refine z_met (own := RX0) (Qc := fun sz => va_Qi Q (zB E Y sz) (zA Y sz)) (by decide +kernel) rfl (Nat.le_of_ble_eq_true rfl) ?_
  intro p e s m args below meth c hG hinit
  unfold wX0_addLine at hw
  refine zlv (lv' := [(0, .ref (za Y t0))]) rfl ?_
  refine z_aload_n hG dX0_addLine_0 rfl 0 rfl ?_
  refine z_geti hG f_X0_25 h0 rfl dX0_addLine_1 ?_
  refine z_aload_n hG dX0_addLine_4 rfl 0 rfl ?_
  obtain ⟨j1, ej1, hw⟩ := hw
  refine z_getr (kq := 22) hG f_X0_11 h0 rfl ej1 rfl (by decide) dX0_addLine_5 (fun hj1 => ?_)
  refine z_alen hG hj1 (by decide) (t0 := 2) rfl dX0_addLine_8 ?_
  refine z_icmp_lt (tgt := 14) hG dX0_addLine_9 (by decide) (fun c10 => ?_) (fun c10 => ?_)
  · have hw := hw.1 c10
    refine z_aload_n hG dX0_addLine_14 rfl 0 rfl ?_
    refine z_dup hG dX0_addLine_15 rfl ?_
    refine z_geti hG f_X0_25 h0 rfl dX0_addLine_16 ?_
    refine z_iconst (v := 1) hG dX0_addLine_19 (by decide) ?_
    refine z_iadd hG dX0_addLine_20 ?_
    refine z_topi (fun x2 ex2 => ?_)
    have hw := hw x2 ex2
    refine z_puti hG f_X0_25 h0 rfl rfl (zN_int _) dX0_addLine_21 ?_
    refine z_topσ (fun σ3 eσ3 => ?_)
    have hw := hw σ3 eσ3
    refine z_aload_n hG dX0_addLine_24 rfl 0 rfl ?_
    refine z_aload_n hG dX0_addLine_25 rfl 0 rfl ?_
    refine z_geti hG f_X0_25 h0 rfl dX0_addLine_26 ?_
    refine z_iconst (v := 1) hG dX0_addLine_29 (by decide) ?_
    refine z_isub hG dX0_addLine_30 ?_
    refine z_topi (fun x4 ex4 => ?_)
    have hw := hw x4 ex4
    refine z_calle hG (z_runV (As := [.int x4]) (st := []) hG k_X0_28 (MX0_line l h0 hw) ⟨(Nat.le_of_ble_eq_true rfl), (Nat.le_of_ble_eq_true rfl)⟩ h0 (T := TX0) (N := 4) rfl (by decide) rfl (Nat.le_of_ble_eq_true rfl) dX0_addLine_31 ⟨Nat.zero_le _, Nat.zero_le _⟩ rfl) (fun σ5 hw => ?_) (fun j7 σ5 hj7 hw => ?_)
    · have hw := hw.1 rfl
      refine z_astoreN_n (lv' := [(1, .null), (0, .ref (za Y t0))]) hG dX0_addLine_34 rfl (by decide) rfl ?_
      refine z_aloadN_n hG dX0_addLine_35 rfl 0 rfl ?_
      refine z_ifnull_yes (tgt := 46) hG dX0_addLine_36 (by decide) ?_
      refine z_iconst (v := 1) hG dX0_addLine_46 (by decide) ?_
      exact z_iret hG rfl (by decide +kernel) dX0_addLine_47 hw
    · have hw := hw.2 j7 rfl
      refine z_astore_n (lv' := [(1, .ref (za Y j7)), (0, .ref (za Y t0))]) hG dX0_addLine_34 rfl (by decide) rfl ?_
      refine z_aload_n hG dX0_addLine_35 rfl 0 rfl ?_
      refine z_ifnull_no hG dX0_addLine_36 ?_
      refine z_aload_n hG dX0_addLine_39 rfl 0 rfl ?_
      obtain ⟨j8, ej8, hw⟩ := hw
      refine z_getr (kq := 9) hG f_X0_32 hj7 rfl ej8 rfl (by decide) dX0_addLine_40 (fun hj8 => ?_)
      refine z_callv hG (z_runV (As := []) (st := []) hG k_X0_36 (MX9_clear l hj8 hw) ⟨(Nat.le_of_ble_eq_true rfl), (Nat.le_of_ble_eq_true rfl)⟩ hj8 (T := TX9) (N := 2) rfl (by decide) rfl (Nat.le_of_ble_eq_true rfl) dX0_addLine_43 ⟨Nat.zero_le _, Nat.zero_le _⟩ rfl) (fun σ9 hw => ?_)
      refine z_iconst (v := 1) hG dX0_addLine_46 (by decide) ?_
      exact z_iret hG rfl (by decide +kernel) dX0_addLine_47 hw
  · have hw := hw.2 c10
    refine z_iconst (v := 0) hG dX0_addLine_12 (by decide) ?_
    exact z_iret hG rfl (by decide +kernel) dX0_addLine_13 hw
-- TypeWheelTelegraph$Line.wheelIndex(I)I
def wX2_wheelIndex (ln : Nat → Nat) (σ : zS) (v0 : Int32) (Q : Int32 → zS → Prop) : Prop := ((57 < v0 → Q (v0 - 97) σ) ∧ (¬ 57 < v0 → Q (v0 - 48) σ))
abbrev rX2_wheelIndex : Room := { frames := 0, cells := 0, slots := 0, locals := 0 }
set_option maxRecDepth 100000 in
set_option maxHeartbeats 4000000 in
theorem MX2_wheelIndex (l : Launch) {E : zE} {Y : zY} {σ : zS} {v0 : Int32} {Q : Int32 → zS → Prop} (hw : wX2_wheelIndex (zln Y) σ v0 Q) : ∀ sz, Met l yX2_wheelIndex (zw yX2_wheelIndex cX2_wheelIndex 1 (some .int)) rX2_wheelIndex (zPc E Y σ sz [.int v0]) (va_Qi Q (zB E Y sz) (zA Y sz)) 0 0 (zA Y sz) := by
  refine z_met (own := RX2) (Qc := fun sz => va_Qi Q (zB E Y sz) (zA Y sz)) (by decide +kernel) rfl (Nat.le_of_ble_eq_true rfl) ?_
  intro p e s m args below meth c hG hinit
  unfold wX2_wheelIndex at hw
  refine zlv (lv' := [(0, .int v0)]) rfl ?_
  refine z_iload_n hG dX2_wheelIndex_0 rfl 0 rfl ?_
  refine z_bipush (v := 57) hG dX2_wheelIndex_1 (by decide) ?_
  refine z_icmp_gt (tgt := 13) hG dX2_wheelIndex_3 (by decide) (fun c1 => ?_) (fun c1 => ?_)
  · have hw := hw.1 c1
    refine z_iload_n hG dX2_wheelIndex_13 rfl 0 rfl ?_
    refine z_bipush (v := 97) hG dX2_wheelIndex_14 (by decide) ?_
    refine z_isub hG dX2_wheelIndex_16 ?_
    exact z_iret hG rfl rfl dX2_wheelIndex_17 hw
  · have hw := hw.2 c1
    refine z_iload_n hG dX2_wheelIndex_6 rfl 0 rfl ?_
    refine z_bipush (v := 48) hG dX2_wheelIndex_7 (by decide) ?_
    refine z_isub hG dX2_wheelIndex_9 ?_
    refine z_goto (tgt := 17) hG dX2_wheelIndex_10 (by decide) ?_
    exact z_iret hG rfl rfl dX2_wheelIndex_17 hw
-- TypeWheelTelegraph$Parser.item(LTypeWheelTelegraph$Desk;I)Z
def wX5_item_80 (ln : Nat → Nat) (Q : Int32 → zS → Prop) : Nat → Nat → Int32 → Nat → Int32 → zS → Prop
  | 0, _, _, _, _, _ => False
  | n + 1, t0, v2, t3, v4, σ => ∃ j1 : Nat, gr σ t0 0 = some j1 ∧ wX10_length ln σ j1 (fun r3 σ2 => ((r3 ≤ v4 → Q 1 σ2) ∧ (¬ r3 ≤ v4 → ∃ j4 : Nat, gr σ2 t0 0 = some j4 ∧ wX10_signAt ln σ2 j4 v4 (fun r6 σ5 => wX2_wheelIndex ln σ5 r6 (fun r8 σ7 => ((r8 < (v2 - 2) → ∃ j9 : Nat, gr σ7 t3 0 = some j9 ∧ wX9_add ln σ7 j9 r6 (fun σ10 => ∀ x11 : Int32, x11 = v4 + 1 → (wX5_item_80 ln Q n) t0 v2 t3 x11 σ10)) ∧ (¬ r8 < (v2 - 2) → Q 0 σ7)))))))
def wX5_item_55 (ln : Nat → Nat) (Q : Int32 → zS → Prop) (t0 : Nat) (v2 : Int32) (t3 : Nat) (σ : zS) : Prop := ∃ j1 : Nat, gr σ t3 0 = some j1 ∧ wX9_size ln σ j1 (fun r3 σ2 => ∃ j4 : Nat, gr σ2 t0 0 = some j4 ∧ wX10_length ln σ2 j4 (fun r6 σ5 => (((r3 + r6) ≤ 30 → ∃ n7 : Nat, wX5_item_80 ln Q n7 t0 v2 t3 0 σ5) ∧ (¬ (r3 + r6) ≤ 30 → Q 0 σ5))))
def wX5_item (ln : Nat → Nat) (σ : zS) (t0 : Nat) (t1 : Nat) (v2 : Int32) (Q : Int32 → zS → Prop) : Prop := ∃ j1 : Nat, gr σ t0 0 = some j1 ∧ (((gi σ j1 0) = 4 → wX0_addLine ln σ t1 (fun r11 σ10 => zB1 r11 ∧ Q r11 σ10)) ∧ (¬ (gi σ j1 0) = 4 → ∀ x2 : Int32, x2 = (gi σ t1 2) - 1 → wX0_line ln σ t1 x2 (fun r4 σ3 => (r4 = none → Q 0 σ3) ∧ (∀ j5 : Nat, r4 = some j5 → ∃ j6 : Nat, gr σ3 t0 0 = some j6 ∧ (((gi σ3 j6 0) = 1 → wX5_item_55 ln Q t0 v2 j5 σ3) ∧ (¬ (gi σ3 j6 0) = 1 → ∃ j7 : Nat, gr σ3 t0 0 = some j7 ∧ (((gi σ3 j7 0) = 2 → wX5_item_55 ln Q t0 v2 j5 σ3) ∧ (¬ (gi σ3 j7 0) = 2 → Q 0 σ3))))))))
abbrev rX5_item : Room := { frames := 2, cells := 0, slots := 0, locals := 42 }
set_option maxRecDepth 100000 in
set_option maxHeartbeats 4000000 in
theorem BX5_item_80 {l : Launch} {E : zE} {Y : zY} {p : Program} {e : Env} {s : State} {m : MethodId} {args : Array Value} {below : List Frame} {meth : Method} {c : Code} (hG : zG E p l s m args meth c cX5_item 6 RX5 (some .boolean) (zA Y s.heap.size)) {Q : Int32 → zS → Prop} : ∀ (n : Nat) (t0 : Nat) (v2 : Int32) (t3 : Nat) (v4 : Int32) (σ : zS), wX5_item_80 (zln Y) Q n t0 v2 t3 v4 σ → zT Y 5 t0 → zT Y 2 t3 → WW E Y σ p l e rX5_item s m args below meth c (zA Y s.heap.size) 6 0 0 (MQ below (va_Qi Q (zB E Y s.heap.size) (zA Y s.heap.size)) args s 0 0 (zA Y s.heap.size)) [(0, .ref (za Y t0)), (2, .int v2), (3, .ref (za Y t3)), (4, .int v4)] 80 [] := by
  intro n
  induction n with
  | zero => intro t0 v2 t3 v4 σ hw
            exact hw.elim
  | succ n ih =>
    intro t0 v2 t3 v4 σ hw h0 h3
    rw [wX5_item_80] at hw
    refine z_iload hG dX5_item_80 3 rfl ?_
    refine z_aload_n hG dX5_item_82 rfl 0 rfl ?_
    obtain ⟨j1, ej1, hw⟩ := hw
    refine z_getr (kq := 10) hG f_X5_14 h0 rfl ej1 rfl (by decide) dX5_item_83 (fun hj1 => ?_)
    refine z_calli hG (z_runV (As := []) (st := [.int v4]) hG k_X5_159 (MX10_length l hj1 hw) ⟨(Nat.le_of_ble_eq_true rfl), (Nat.le_of_ble_eq_true rfl)⟩ hj1 (T := TX10) (N := 4) rfl (by decide) rfl (Nat.le_of_ble_eq_true rfl) dX5_item_86 ⟨Nat.zero_le _, Nat.zero_le _⟩ rfl) (fun r3 σ2 hw => ?_)
    refine z_icmp_ge (tgt := 131) hG dX5_item_89 (by decide) (fun c13 => ?_) (fun c13 => ?_)
    · have hw := hw.1 c13
      refine z_iconst (v := 1) hG dX5_item_131 (by decide) ?_
      exact z_iret hG rfl (by decide +kernel) dX5_item_132 hw
    · have hw := hw.2 c13
      refine z_aload_n hG dX5_item_92 rfl 0 rfl ?_
      obtain ⟨j4, ej4, hw⟩ := hw
      refine z_getr (kq := 10) hG f_X5_14 h0 rfl ej4 rfl (by decide) dX5_item_93 (fun hj4 => ?_)
      refine z_iload hG dX5_item_96 3 rfl ?_
      refine z_calli hG (z_runV (As := [.int v4]) (st := []) hG k_X5_162 (MX10_signAt l hj4 hw) ⟨(Nat.le_of_ble_eq_true rfl), (Nat.le_of_ble_eq_true rfl)⟩ hj4 (T := TX10) (N := 4) rfl (by decide) rfl (Nat.le_of_ble_eq_true rfl) dX5_item_98 ⟨Nat.zero_le _, Nat.zero_le _⟩ rfl) (fun r6 σ5 hw => ?_)
      refine z_istore (lv' := [(5, .int r6), (0, .ref (za Y t0)), (2, .int v2), (3, .ref (za Y t3)), (4, .int v4)]) hG dX5_item_101 (by decide) rfl ?_
      refine z_iload hG dX5_item_103 0 rfl ?_
      refine z_calli hG (z_runS (As := [.int r6]) (st := []) hG k_X5_166 (MX2_wheelIndex l hw) ⟨(Nat.le_of_ble_eq_true rfl), (Nat.le_of_ble_eq_true rfl)⟩ rfl (Nat.le_of_ble_eq_true rfl) dX5_item_105 ⟨Nat.zero_le _, Nat.zero_le _⟩ rfl) (fun r8 σ7 hw => ?_)
      refine z_iload_n hG dX5_item_108 rfl 2 rfl ?_
      refine z_iconst (v := 2) hG dX5_item_109 (by decide) ?_
      refine z_isub hG dX5_item_110 ?_
      refine z_icmp_lt (tgt := 116) hG dX5_item_111 (by decide) (fun c12 => ?_) (fun c12 => ?_)
      · have hw := hw.1 c12
        refine z_aload_n hG dX5_item_116 rfl 3 rfl ?_
        obtain ⟨j9, ej9, hw⟩ := hw
        refine z_getr (kq := 9) hG f_X5_154 h3 rfl ej9 rfl (by decide) dX5_item_117 (fun hj9 => ?_)
        refine z_iload hG dX5_item_120 0 rfl ?_
        refine z_callv hG (z_runV (As := [.int r6]) (st := []) hG k_X5_137 (MX9_add l hj9 hw) ⟨(Nat.le_of_ble_eq_true rfl), (Nat.le_of_ble_eq_true rfl)⟩ hj9 (T := TX9) (N := 2) rfl (by decide) rfl (Nat.le_of_ble_eq_true rfl) dX5_item_122 ⟨Nat.zero_le _, Nat.zero_le _⟩ rfl) (fun σ10 hw => ?_)
        obtain ⟨x11, ex11⟩ : ∃ y : Int32, y = v4 + 1 := ⟨_, rfl⟩
        have hw := hw x11 ex11
        refine z_iinc (v := x11) (lv' := [(4, .int x11), (5, .int r6), (0, .ref (za Y t0)), (2, .int v2), (3, .ref (za Y t3))]) hG dX5_item_125 4 rfl (by rw [ex11]; rfl) (by decide) rfl ?_
        refine z_goto (tgt := 80) hG dX5_item_128 (by decide) ?_
        refine zpick [2, 3, 4, 0] (lv' := [(0, .ref (za Y t0)), (2, .int v2), (3, .ref (za Y t3)), (4, .int x11)]) rfl ?_
        exact ih t0 v2 t3 x11 σ10 hw h0 h3
      · have hw := hw.2 c12
        refine z_iconst (v := 0) hG dX5_item_114 (by decide) ?_
        exact z_iret hG rfl (by decide +kernel) dX5_item_115 hw
set_option maxRecDepth 100000 in
set_option maxHeartbeats 4000000 in
theorem BX5_item_55 {l : Launch} {E : zE} {Y : zY} {p : Program} {e : Env} {s : State} {m : MethodId} {args : Array Value} {below : List Frame} {meth : Method} {c : Code} (hG : zG E p l s m args meth c cX5_item 6 RX5 (some .boolean) (zA Y s.heap.size)) {Q : Int32 → zS → Prop} : ∀ (t0 : Nat) (v2 : Int32) (t3 : Nat) (σ : zS), wX5_item_55 (zln Y) Q t0 v2 t3 σ → zT Y 5 t0 → zT Y 2 t3 → WW E Y σ p l e rX5_item s m args below meth c (zA Y s.heap.size) 6 0 0 (MQ below (va_Qi Q (zB E Y s.heap.size) (zA Y s.heap.size)) args s 0 0 (zA Y s.heap.size)) [(0, .ref (za Y t0)), (2, .int v2), (3, .ref (za Y t3))] 55 [] := by
  intro t0 v2 t3 σ hw h0 h3
  unfold wX5_item_55 at hw
  refine z_aload_n hG dX5_item_55 rfl 2 rfl ?_
  obtain ⟨j1, ej1, hw⟩ := hw
  refine z_getr (kq := 9) hG f_X5_154 h3 rfl ej1 rfl (by decide) dX5_item_56 (fun hj1 => ?_)
  refine z_calli hG (z_runV (As := []) (st := []) hG k_X5_132 (MX9_size l hj1 hw) ⟨(Nat.le_of_ble_eq_true rfl), (Nat.le_of_ble_eq_true rfl)⟩ hj1 (T := TX9) (N := 2) rfl (by decide) rfl (Nat.le_of_ble_eq_true rfl) dX5_item_59 ⟨Nat.zero_le _, Nat.zero_le _⟩ rfl) (fun r3 σ2 hw => ?_)
  refine z_aload_n hG dX5_item_62 rfl 0 rfl ?_
  obtain ⟨j4, ej4, hw⟩ := hw
  refine z_getr (kq := 10) hG f_X5_14 h0 rfl ej4 rfl (by decide) dX5_item_63 (fun hj4 => ?_)
  refine z_calli hG (z_runV (As := []) (st := [.int r3]) hG k_X5_159 (MX10_length l hj4 hw) ⟨(Nat.le_of_ble_eq_true rfl), (Nat.le_of_ble_eq_true rfl)⟩ hj4 (T := TX10) (N := 4) rfl (by decide) rfl (Nat.le_of_ble_eq_true rfl) dX5_item_66 ⟨Nat.zero_le _, Nat.zero_le _⟩ rfl) (fun r6 σ5 hw => ?_)
  refine z_iadd hG dX5_item_69 ?_
  refine z_bipush (v := 30) hG dX5_item_70 (by decide) ?_
  refine z_icmp_le (tgt := 77) hG dX5_item_72 (by decide) (fun c8 => ?_) (fun c8 => ?_)
  · have hw := hw.1 c8
    refine z_iconst (v := 0) hG dX5_item_77 (by decide) ?_
    refine z_istore (lv' := [(4, .int 0), (0, .ref (za Y t0)), (2, .int v2), (3, .ref (za Y t3))]) hG dX5_item_78 (by decide) rfl ?_
    obtain ⟨n7, hw⟩ := hw
    refine zpick [1, 2, 3, 0] (lv' := [(0, .ref (za Y t0)), (2, .int v2), (3, .ref (za Y t3)), (4, .int 0)]) rfl ?_
    exact BX5_item_80 hG n7 t0 v2 t3 0 σ5 hw h0 h3
  · have hw := hw.2 c8
    refine z_iconst (v := 0) hG dX5_item_75 (by decide) ?_
    exact z_iret hG rfl (by decide +kernel) dX5_item_76 hw
set_option maxRecDepth 100000 in
set_option maxHeartbeats 4000000 in
theorem MX5_item (l : Launch) {E : zE} {Y : zY} {σ : zS} {t0 : Nat} {t1 : Nat} {v2 : Int32} (h0 : zT Y 5 t0) (h1 : zT Y 0 t1) {Q : Int32 → zS → Prop} (hw : wX5_item (zln Y) σ t0 t1 v2 Q) : ∀ sz, Met l yX5_item (zw yX5_item cX5_item 6 (some .boolean)) rX5_item (zPc E Y σ sz [.ref (za Y t0), .ref (za Y t1), .int v2]) (va_Qi Q (zB E Y sz) (zA Y sz)) 0 0 (zA Y sz) := by
  refine z_met (own := RX5) (Qc := fun sz => va_Qi Q (zB E Y sz) (zA Y sz)) (by decide +kernel) rfl (Nat.le_of_ble_eq_true rfl) ?_
  intro p e s m args below meth c hG hinit
  unfold wX5_item at hw
  refine zlv (lv' := [(0, .ref (za Y t0)), (1, .ref (za Y t1)), (2, .int v2)]) rfl ?_
  refine z_aload_n hG dX5_item_0 rfl 0 rfl ?_
  obtain ⟨j1, ej1, hw⟩ := hw
  refine z_getr (kq := 10) hG f_X5_14 h0 rfl ej1 rfl (by decide) dX5_item_1 (fun hj1 => ?_)
  refine z_geti hG f_X5_32 hj1 rfl dX5_item_4 ?_
  refine z_iconst (v := 4) hG dX5_item_7 (by decide) ?_
  refine z_icmp_ne (tgt := 16) hG dX5_item_8 (by decide) (fun c13 => ?_) (fun c13 => ?_)
  · have hw := hw.2 c13
    refine z_aload_n hG dX5_item_16 rfl 1 rfl ?_
    refine z_aload_n hG dX5_item_17 rfl 1 rfl ?_
    refine z_geti hG f_X5_147 h1 rfl dX5_item_18 ?_
    refine z_iconst (v := 1) hG dX5_item_21 (by decide) ?_
    refine z_isub hG dX5_item_22 ?_
    refine z_topi (fun x2 ex2 => ?_)
    have hw := hw x2 ex2
    refine z_calle hG (z_runV (As := [.int x2]) (st := []) hG k_X5_150 (MX0_line l h1 hw) ⟨(Nat.le_of_ble_eq_true rfl), (Nat.le_of_ble_eq_true rfl)⟩ h1 (T := TX0) (N := 4) rfl (by decide) rfl (Nat.le_of_ble_eq_true rfl) dX5_item_23 ⟨Nat.zero_le _, Nat.zero_le _⟩ rfl) (fun σ3 hw => ?_) (fun j5 σ3 hj5 hw => ?_)
    · have hw := hw.1 rfl
      refine z_astoreN_n (lv' := [(3, .null), (0, .ref (za Y t0)), (1, .ref (za Y t1)), (2, .int v2)]) hG dX5_item_26 rfl (by decide) rfl ?_
      refine z_aloadN_n hG dX5_item_27 rfl 0 rfl ?_
      refine z_ifnull_yes (tgt := 53) hG dX5_item_28 (by decide) ?_
      refine z_iconst (v := 0) hG dX5_item_53 (by decide) ?_
      exact z_iret hG rfl (by decide +kernel) dX5_item_54 hw
    · have hw := hw.2 j5 rfl
      refine z_astore_n (lv' := [(3, .ref (za Y j5)), (0, .ref (za Y t0)), (1, .ref (za Y t1)), (2, .int v2)]) hG dX5_item_26 rfl (by decide) rfl ?_
      refine z_aload_n hG dX5_item_27 rfl 0 rfl ?_
      refine z_ifnull_no hG dX5_item_28 ?_
      refine z_aload_n hG dX5_item_31 rfl 1 rfl ?_
      obtain ⟨j6, ej6, hw⟩ := hw
      refine z_getr (kq := 10) hG f_X5_14 h0 rfl ej6 rfl (by decide) dX5_item_32 (fun hj6 => ?_)
      refine z_geti hG f_X5_32 hj6 rfl dX5_item_35 ?_
      refine z_iconst (v := 1) hG dX5_item_38 (by decide) ?_
      refine z_icmp_eq (tgt := 55) hG dX5_item_39 (by decide) (fun c9 => ?_) (fun c9 => ?_)
      · have hw := hw.1 c9
        refine zpick [1, 3, 0] (lv' := [(0, .ref (za Y t0)), (2, .int v2), (3, .ref (za Y j5))]) rfl ?_
        exact BX5_item_55 hG t0 v2 j5 σ3 hw h0 hj5
      · have hw := hw.2 c9
        refine z_aload_n hG dX5_item_42 rfl 1 rfl ?_
        obtain ⟨j7, ej7, hw⟩ := hw
        refine z_getr (kq := 10) hG f_X5_14 h0 rfl ej7 rfl (by decide) dX5_item_43 (fun hj7 => ?_)
        refine z_geti hG f_X5_32 hj7 rfl dX5_item_46 ?_
        refine z_iconst (v := 2) hG dX5_item_49 (by decide) ?_
        refine z_icmp_eq (tgt := 55) hG dX5_item_50 (by decide) (fun c8 => ?_) (fun c8 => ?_)
        · have hw := hw.1 c8
          refine zpick [1, 3, 0] (lv' := [(0, .ref (za Y t0)), (2, .int v2), (3, .ref (za Y j5))]) rfl ?_
          exact BX5_item_55 hG t0 v2 j5 σ3 hw h0 hj5
        · have hw := hw.2 c8
          refine z_iconst (v := 0) hG dX5_item_53 (by decide) ?_
          exact z_iret hG rfl (by decide +kernel) dX5_item_54 hw
  · have hw := hw.1 c13
    refine z_aload_n hG dX5_item_11 rfl 1 rfl ?_
    refine z_calli hG (z_runV (As := []) (st := []) hG k_X5_140 (MX0_addLine l h1 hw) ⟨(Nat.le_of_ble_eq_true rfl), (Nat.le_of_ble_eq_true rfl)⟩ h1 (T := TX0) (N := 4) rfl (by decide) rfl (Nat.le_of_ble_eq_true rfl) dX5_item_12 ⟨Nat.zero_le _, Nat.zero_le _⟩ rfl) (fun r11 σ10 hw => ?_)
    obtain ⟨q12, hw⟩ := hw
    exact z_iret hG rfl (zN_b q12).1 dX5_item_15 hw
-- TypeWheelTelegraph$Parser.message(LTypeWheelTelegraph$Plan;)Z
def wX5_message_83 (ln : Nat → Nat) (Q : Int32 → zS → Prop) (v3 : Int32) (σ : zS) : Prop := ((v3 ≤ 0 → Q 0 σ) ∧ (¬ v3 ≤ 0 → Q 1 σ))
def wX5_message_38 (ln : Nat → Nat) (Q : Int32 → zS → Prop) : Nat → Nat → Nat → Nat → Int32 → zS → Prop
  | 0, _, _, _, _, _ => False
  | n + 1, t0, t1, t2, v3, σ => ((600 ≤ v3 → wX5_message_83 ln Q v3 σ) ∧ (¬ 600 ≤ v3 → ∃ j1 : Nat, gr σ t0 0 = some j1 ∧ (((gi σ j1 0) = 3 → wX5_message_83 ln Q v3 σ) ∧ (¬ (gi σ j1 0) = 3 → ∀ x2 : Int32, x2 = gi σ t1 0 → wX5_item ln σ t0 t2 x2 (fun r4 σ3 => ((r4 = 0 → Q 0 σ3) ∧ (¬ r4 = 0 → ∀ x5 : Int32, x5 = v3 + 1 → ∃ j6 : Nat, gr σ3 t0 0 = some j6 ∧ wX10_take ln σ3 j6 (fun σ7 => (wX5_message_38 ln Q n) t0 t1 t2 x5 σ7))))))))
def wX5_message (ln : Nat → Nat) (σ : zS) (t0 : Nat) (t1 : Nat) (Q : Int32 → zS → Prop) : Prop := wX5_takeNumber ln σ t0 0 1 (fun r2 σ1 => ((r2 = 0 → Q 0 σ1) ∧ (¬ r2 = 0 → ∀ x3 : Int32, x3 = gi σ1 t0 2 → wX6_desk ln σ1 t1 x3 (fun r5 σ4 => wX0_addLine ln σ4 r5 (fun r7 σ6 => ((r7 = 0 → Q 0 σ6) ∧ (¬ r7 = 0 → ∃ j8 : Nat, gr σ6 t0 0 = some j8 ∧ wX10_take ln σ6 j8 (fun σ9 => ∃ n10 : Nat, wX5_message_38 ln Q n10 t0 t1 r5 0 σ9))))))))
abbrev rX5_message : Room := { frames := 3, cells := 0, slots := 0, locals := 67 }
set_option maxRecDepth 100000 in
set_option maxHeartbeats 4000000 in
theorem BX5_message_83 {l : Launch} {E : zE} {Y : zY} {p : Program} {e : Env} {s : State} {m : MethodId} {args : Array Value} {below : List Frame} {meth : Method} {c : Code} (hG : zG E p l s m args meth c cX5_message 4 RX5 (some .boolean) (zA Y s.heap.size)) {Q : Int32 → zS → Prop} : ∀ (v3 : Int32) (σ : zS), wX5_message_83 (zln Y) Q v3 σ → WW E Y σ p l e rX5_message s m args below meth c (zA Y s.heap.size) 4 0 0 (MQ below (va_Qi Q (zB E Y s.heap.size) (zA Y s.heap.size)) args s 0 0 (zA Y s.heap.size)) [(3, .int v3)] 83 [] := by
  intro v3 σ hw 
  unfold wX5_message_83 at hw
  refine z_iload_n hG dX5_message_83 rfl 0 rfl ?_
  refine z_if_le (tgt := 91) hG dX5_message_84 (by decide) (fun c1 => ?_) (fun c1 => ?_)
  · have hw := hw.1 c1
    refine z_iconst (v := 0) hG dX5_message_91 (by decide) ?_
    exact z_iret hG rfl (by decide +kernel) dX5_message_92 hw
  · have hw := hw.2 c1
    refine z_iconst (v := 1) hG dX5_message_87 (by decide) ?_
    refine z_goto (tgt := 92) hG dX5_message_88 (by decide) ?_
    exact z_iret hG rfl (by decide +kernel) dX5_message_92 hw
set_option maxRecDepth 100000 in
set_option maxHeartbeats 4000000 in
theorem BX5_message_38 {l : Launch} {E : zE} {Y : zY} {p : Program} {e : Env} {s : State} {m : MethodId} {args : Array Value} {below : List Frame} {meth : Method} {c : Code} (hG : zG E p l s m args meth c cX5_message 4 RX5 (some .boolean) (zA Y s.heap.size)) {Q : Int32 → zS → Prop} : ∀ (n : Nat) (t0 : Nat) (t1 : Nat) (t2 : Nat) (v3 : Int32) (σ : zS), wX5_message_38 (zln Y) Q n t0 t1 t2 v3 σ → zT Y 5 t0 → zT Y 6 t1 → zT Y 0 t2 → WW E Y σ p l e rX5_message s m args below meth c (zA Y s.heap.size) 4 0 0 (MQ below (va_Qi Q (zB E Y s.heap.size) (zA Y s.heap.size)) args s 0 0 (zA Y s.heap.size)) [(0, .ref (za Y t0)), (1, .ref (za Y t1)), (2, .ref (za Y t2)), (3, .int v3)] 38 [] := by
  intro n
  induction n with
  | zero => intro t0 t1 t2 v3 σ hw
            exact hw.elim
  | succ n ih =>
    intro t0 t1 t2 v3 σ hw h0 h1 h2
    rw [wX5_message_38] at hw
    refine z_iload_n hG dX5_message_38 rfl 3 rfl ?_
    refine z_sipush (v := 600) hG dX5_message_39 (by decide) ?_
    refine z_icmp_ge (tgt := 83) hG dX5_message_42 (by decide) (fun c10 => ?_) (fun c10 => ?_)
    · have hw := hw.1 c10
      refine zpick [3] (lv' := [(3, .int v3)]) rfl ?_
      exact BX5_message_83 hG v3 σ hw 
    · have hw := hw.2 c10
      refine z_aload_n hG dX5_message_45 rfl 0 rfl ?_
      obtain ⟨j1, ej1, hw⟩ := hw
      refine z_getr (kq := 10) hG f_X5_14 h0 rfl ej1 rfl (by decide) dX5_message_46 (fun hj1 => ?_)
      refine z_geti hG f_X5_32 hj1 rfl dX5_message_49 ?_
      refine z_iconst (v := 3) hG dX5_message_52 (by decide) ?_
      refine z_icmp_eq (tgt := 83) hG dX5_message_53 (by decide) (fun c9 => ?_) (fun c9 => ?_)
      · have hw := hw.1 c9
        refine zpick [3] (lv' := [(3, .int v3)]) rfl ?_
        exact BX5_message_83 hG v3 σ hw 
      · have hw := hw.2 c9
        refine z_aload_n hG dX5_message_56 rfl 0 rfl ?_
        refine z_aload_n hG dX5_message_57 rfl 2 rfl ?_
        refine z_aload_n hG dX5_message_58 rfl 1 rfl ?_
        refine z_geti hG f_X5_49 h1 rfl dX5_message_59 ?_
        refine z_topi (fun x2 ex2 => ?_)
        have hw := hw x2 ex2
        refine z_calli hG (z_runV (As := [.ref (za Y t2), .int x2]) (st := []) hG k_X5_143 (MX5_item l h0 h2 hw) ⟨(Nat.le_of_ble_eq_true rfl), (Nat.le_of_ble_eq_true rfl)⟩ h0 (T := TX5) (N := 3) rfl (by decide) rfl (Nat.le_of_ble_eq_true rfl) dX5_message_62 ⟨Nat.zero_le _, Nat.zero_le _⟩ rfl) (fun r4 σ3 hw => ?_)
        refine z_if_ne (tgt := 70) hG dX5_message_65 (by decide) (fun c8 => ?_) (fun c8 => ?_)
        · have hw := hw.2 c8
          obtain ⟨x5, ex5⟩ : ∃ y : Int32, y = v3 + 1 := ⟨_, rfl⟩
          have hw := hw x5 ex5
          refine z_iinc (v := x5) (lv' := [(3, .int x5), (0, .ref (za Y t0)), (1, .ref (za Y t1)), (2, .ref (za Y t2))]) hG dX5_message_70 3 rfl (by rw [ex5]; rfl) (by decide) rfl ?_
          refine z_aload_n hG dX5_message_73 rfl 1 rfl ?_
          obtain ⟨j6, ej6, hw⟩ := hw
          refine z_getr (kq := 10) hG f_X5_14 h0 rfl ej6 rfl (by decide) dX5_message_74 (fun hj6 => ?_)
          refine z_callv hG (z_runV (As := []) (st := []) hG k_X5_42 (MX10_take l hj6 hw) ⟨(Nat.le_of_ble_eq_true rfl), (Nat.le_of_ble_eq_true rfl)⟩ hj6 (T := TX10) (N := 4) rfl (by decide) rfl (Nat.le_of_ble_eq_true rfl) dX5_message_77 ⟨Nat.zero_le _, Nat.zero_le _⟩ rfl) (fun σ7 hw => ?_)
          refine z_goto (tgt := 38) hG dX5_message_80 (by decide) ?_
          refine zpick [1, 2, 3, 0] (lv' := [(0, .ref (za Y t0)), (1, .ref (za Y t1)), (2, .ref (za Y t2)), (3, .int x5)]) rfl ?_
          exact ih t0 t1 t2 x5 σ7 hw h0 h1 h2
        · have hw := hw.1 c8
          refine z_iconst (v := 0) hG dX5_message_68 (by decide) ?_
          exact z_iret hG rfl (by decide +kernel) dX5_message_69 hw
set_option maxRecDepth 100000 in
set_option maxHeartbeats 4000000 in
theorem MX5_message (l : Launch) {E : zE} {Y : zY} {σ : zS} {t0 : Nat} {t1 : Nat} (h0 : zT Y 5 t0) (h1 : zT Y 6 t1) {Q : Int32 → zS → Prop} (hw : wX5_message (zln Y) σ t0 t1 Q) : ∀ sz, Met l yX5_message (zw yX5_message cX5_message 4 (some .boolean)) rX5_message (zPc E Y σ sz [.ref (za Y t0), .ref (za Y t1)]) (va_Qi Q (zB E Y sz) (zA Y sz)) 0 0 (zA Y sz) := by
  refine z_met (own := RX5) (Qc := fun sz => va_Qi Q (zB E Y sz) (zA Y sz)) (by decide +kernel) rfl (Nat.le_of_ble_eq_true rfl) ?_
  intro p e s m args below meth c hG hinit
  unfold wX5_message at hw
  refine zlv (lv' := [(0, .ref (za Y t0)), (1, .ref (za Y t1))]) rfl ?_
  refine z_aload_n hG dX5_message_0 rfl 0 rfl ?_
  refine z_iconst (v := 0) hG dX5_message_1 (by decide) ?_
  refine z_iconst (v := 1) hG dX5_message_2 (by decide) ?_
  refine z_calli hG (z_runV (As := [.int 0, .int 1]) (st := []) hG k_X5_90 (MX5_takeNumber l h0 hw) ⟨(Nat.le_of_ble_eq_true rfl), (Nat.le_of_ble_eq_true rfl)⟩ h0 (T := TX5) (N := 3) rfl (by decide) rfl (Nat.le_of_ble_eq_true rfl) dX5_message_3 ⟨Nat.zero_le _, Nat.zero_le _⟩ rfl) (fun r2 σ1 hw => ?_)
  refine z_if_ne (tgt := 11) hG dX5_message_6 (by decide) (fun c12 => ?_) (fun c12 => ?_)
  · have hw := hw.2 c12
    refine z_aload_n hG dX5_message_11 rfl 1 rfl ?_
    refine z_aload_n hG dX5_message_12 rfl 0 rfl ?_
    refine z_geti hG f_X5_94 h0 rfl dX5_message_13 ?_
    refine z_topi (fun x3 ex3 => ?_)
    have hw := hw x3 ex3
    refine z_callr hG (z_runV (As := [.int x3]) (st := []) hG k_X5_118 (MX6_desk l h1 hw) ⟨(Nat.le_of_ble_eq_true rfl), (Nat.le_of_ble_eq_true rfl)⟩ h1 (T := TX6) (N := 8) rfl (by decide) rfl (Nat.le_of_ble_eq_true rfl) dX5_message_16 ⟨Nat.zero_le _, Nat.zero_le _⟩ rfl) (fun r5 σ4 hr5 hw => ?_)
    refine z_astore_n (lv' := [(2, .ref (za Y r5)), (0, .ref (za Y t0)), (1, .ref (za Y t1))]) hG dX5_message_19 rfl (by decide) rfl ?_
    refine z_aload_n hG dX5_message_20 rfl 0 rfl ?_
    refine z_calli hG (z_runV (As := []) (st := []) hG k_X5_140 (MX0_addLine l hr5 hw) ⟨(Nat.le_of_ble_eq_true rfl), (Nat.le_of_ble_eq_true rfl)⟩ hr5 (T := TX0) (N := 4) rfl (by decide) rfl (Nat.le_of_ble_eq_true rfl) dX5_message_21 ⟨Nat.zero_le _, Nat.zero_le _⟩ rfl) (fun r7 σ6 hw => ?_)
    refine z_if_ne (tgt := 29) hG dX5_message_24 (by decide) (fun c11 => ?_) (fun c11 => ?_)
    · have hw := hw.2 c11
      refine z_iconst (v := 0) hG dX5_message_29 (by decide) ?_
      refine z_istore_n (lv' := [(3, .int 0), (2, .ref (za Y r5)), (0, .ref (za Y t0)), (1, .ref (za Y t1))]) hG dX5_message_30 rfl (by decide) rfl ?_
      refine z_aload_n hG dX5_message_31 rfl 2 rfl ?_
      obtain ⟨j8, ej8, hw⟩ := hw
      refine z_getr (kq := 10) hG f_X5_14 h0 rfl ej8 rfl (by decide) dX5_message_32 (fun hj8 => ?_)
      refine z_callv hG (z_runV (As := []) (st := []) hG k_X5_42 (MX10_take l hj8 hw) ⟨(Nat.le_of_ble_eq_true rfl), (Nat.le_of_ble_eq_true rfl)⟩ hj8 (T := TX10) (N := 4) rfl (by decide) rfl (Nat.le_of_ble_eq_true rfl) dX5_message_35 ⟨Nat.zero_le _, Nat.zero_le _⟩ rfl) (fun σ9 hw => ?_)
      obtain ⟨n10, hw⟩ := hw
      refine zpick [2, 3, 1, 0] (lv' := [(0, .ref (za Y t0)), (1, .ref (za Y t1)), (2, .ref (za Y r5)), (3, .int 0)]) rfl ?_
      exact BX5_message_38 hG n10 t0 t1 r5 0 σ9 hw h0 h1 hr5
    · have hw := hw.1 c11
      refine z_iconst (v := 0) hG dX5_message_27 (by decide) ?_
      exact z_iret hG rfl (by decide +kernel) dX5_message_28 hw
  · have hw := hw.1 c12
    refine z_iconst (v := 0) hG dX5_message_9 (by decide) ?_
    exact z_iret hG rfl (by decide +kernel) dX5_message_10 hw
-- TypeWheelTelegraph$Parser.wheel(LTypeWheelTelegraph$Plan;)Z
def wX5_wheel (ln : Nat → Nat) (σ : zS) (t0 : Nat) (t1 : Nat) (Q : Int32 → zS → Prop) : Prop := wX5_takeNumber ln σ t0 6 28 (fun r2 σ1 => ((r2 = 0 → Q 0 σ1) ∧ (¬ r2 = 0 → ∀ x3 : Int32, x3 = gi σ1 t0 2 → ∀ σ4 : zS, σ4 = si σ1 t1 0 x3 → Q 1 σ4)))
abbrev rX5_wheel : Room := { frames := 3, cells := 0, slots := 0, locals := 65 }
set_option maxRecDepth 100000 in
set_option maxHeartbeats 4000000 in
theorem MX5_wheel (l : Launch) {E : zE} {Y : zY} {σ : zS} {t0 : Nat} {t1 : Nat} (h0 : zT Y 5 t0) (h1 : zT Y 6 t1) {Q : Int32 → zS → Prop} (hw : wX5_wheel (zln Y) σ t0 t1 Q) : ∀ sz, Met l yX5_wheel (zw yX5_wheel cX5_wheel 2 (some .boolean)) rX5_wheel (zPc E Y σ sz [.ref (za Y t0), .ref (za Y t1)]) (va_Qi Q (zB E Y sz) (zA Y sz)) 0 0 (zA Y sz) := by
  refine z_met (own := RX5) (Qc := fun sz => va_Qi Q (zB E Y sz) (zA Y sz)) (by decide +kernel) rfl (Nat.le_of_ble_eq_true rfl) ?_
  intro p e s m args below meth c hG hinit
  unfold wX5_wheel at hw
  refine zlv (lv' := [(0, .ref (za Y t0)), (1, .ref (za Y t1))]) rfl ?_
  refine z_aload_n hG dX5_wheel_0 rfl 0 rfl ?_
  refine z_bipush (v := 6) hG dX5_wheel_1 (by decide) ?_
  refine z_bipush (v := 28) hG dX5_wheel_3 (by decide) ?_
  refine z_calli hG (z_runV (As := [.int 6, .int 28]) (st := []) hG k_X5_90 (MX5_takeNumber l h0 hw) ⟨(Nat.le_of_ble_eq_true rfl), (Nat.le_of_ble_eq_true rfl)⟩ h0 (T := TX5) (N := 3) rfl (by decide) rfl (Nat.le_of_ble_eq_true rfl) dX5_wheel_5 ⟨Nat.zero_le _, Nat.zero_le _⟩ rfl) (fun r2 σ1 hw => ?_)
  refine z_if_ne (tgt := 13) hG dX5_wheel_8 (by decide) (fun c5 => ?_) (fun c5 => ?_)
  · have hw := hw.2 c5
    refine z_aload_n hG dX5_wheel_13 rfl 1 rfl ?_
    refine z_aload_n hG dX5_wheel_14 rfl 0 rfl ?_
    refine z_geti hG f_X5_94 h0 rfl dX5_wheel_15 ?_
    refine z_topi (fun x3 ex3 => ?_)
    have hw := hw x3 ex3
    refine z_puti hG f_X5_49 h1 rfl rfl (zN_int _) dX5_wheel_18 ?_
    refine z_topσ (fun σ4 eσ4 => ?_)
    have hw := hw σ4 eσ4
    refine z_iconst (v := 1) hG dX5_wheel_21 (by decide) ?_
    exact z_iret hG rfl (by decide +kernel) dX5_wheel_22 hw
  · have hw := hw.1 c5
    refine z_iconst (v := 0) hG dX5_wheel_11 (by decide) ?_
    exact z_iret hG rfl (by decide +kernel) dX5_wheel_12 hw
-- TypeWheelTelegraph$Plan.circle()I
def wX6_circle (ln : Nat → Nat) (σ : zS) (t0 : Nat) (Q : Int32 → zS → Prop) : Prop := Q (1000 * (gi σ t0 0)) σ
abbrev rX6_circle : Room := { frames := 0, cells := 0, slots := 0, locals := 0 }
set_option maxRecDepth 100000 in
set_option maxHeartbeats 4000000 in
theorem MX6_circle (l : Launch) {E : zE} {Y : zY} {σ : zS} {t0 : Nat} (h0 : zT Y 6 t0) {Q : Int32 → zS → Prop} (hw : wX6_circle (zln Y) σ t0 Q) : ∀ sz, Met l yX6_circle (zw yX6_circle cX6_circle 1 (some .int)) rX6_circle (zPc E Y σ sz [.ref (za Y t0)]) (va_Qi Q (zB E Y sz) (zA Y sz)) 0 0 (zA Y sz) := by
  refine z_met (own := RX6) (Qc := fun sz => va_Qi Q (zB E Y sz) (zA Y sz)) (by decide +kernel) rfl (Nat.le_of_ble_eq_true rfl) ?_
  intro p e s m args below meth c hG hinit
  unfold wX6_circle at hw
  refine zlv (lv' := [(0, .ref (za Y t0))]) rfl ?_
  refine z_sipush (v := 1000) hG dX6_circle_0 (by decide) ?_
  refine z_aload_n hG dX6_circle_3 rfl 0 rfl ?_
  refine z_geti hG f_X6_33 h0 rfl dX6_circle_4 ?_
  refine z_imul hG dX6_circle_7 ?_
  exact z_iret hG rfl rfl dX6_circle_8 hw
-- TypeWheelTelegraph$Parser.office(LTypeWheelTelegraph$Plan;)Z
def wX5_office (ln : Nat → Nat) (σ : zS) (t0 : Nat) (t1 : Nat) (Q : Int32 → zS → Prop) : Prop := ((2 ≤ (gi σ t0 1) → Q 0 σ) ∧ (¬ 2 ≤ (gi σ t0 1) → wX6_circle ln σ t1 (fun r2 σ1 => ∀ x3 : Int32, x3 = r2 - 1 → wX5_takeNumber ln σ1 t0 0 x3 (fun r5 σ4 => ((r5 = 0 → Q 0 σ4) ∧ (¬ r5 = 0 → ∀ x6 : Int32, x6 = gi σ4 t0 1 → wX6_desk ln σ4 t1 x6 (fun r8 σ7 => ∀ x9 : Int32, x9 = gi σ7 t0 2 → ∀ σ10 : zS, σ10 = si σ7 r8 0 x9 → wX5_takeNumber ln σ10 t0 10 999 (fun r12 σ11 => ((r12 = 0 → Q 0 σ11) ∧ (¬ r12 = 0 → ∀ x13 : Int32, x13 = gi σ11 t0 2 → ∀ σ14 : zS, σ14 = si σ11 r8 1 x13 → ∀ x15 : Int32, x15 = (gi σ14 t0 1) + 1 → ∀ σ16 : zS, σ16 = si σ14 t0 1 x15 → Q 1 σ16))))))))))
abbrev rX5_office : Room := { frames := 3, cells := 0, slots := 0, locals := 65 }
set_option maxRecDepth 100000 in
set_option maxHeartbeats 4000000 in
theorem MX5_office (l : Launch) {E : zE} {Y : zY} {σ : zS} {t0 : Nat} {t1 : Nat} (h0 : zT Y 5 t0) (h1 : zT Y 6 t1) {Q : Int32 → zS → Prop} (hw : wX5_office (zln Y) σ t0 t1 Q) : ∀ sz, Met l yX5_office (zw yX5_office cX5_office 3 (some .boolean)) rX5_office (zPc E Y σ sz [.ref (za Y t0), .ref (za Y t1)]) (va_Qi Q (zB E Y sz) (zA Y sz)) 0 0 (zA Y sz) := by
  refine z_met (own := RX5) (Qc := fun sz => va_Qi Q (zB E Y sz) (zA Y sz)) (by decide +kernel) rfl (Nat.le_of_ble_eq_true rfl) ?_
  intro p e s m args below meth c hG hinit
  unfold wX5_office at hw
  refine zlv (lv' := [(0, .ref (za Y t0)), (1, .ref (za Y t1))]) rfl ?_
  refine z_aload_n hG dX5_office_0 rfl 0 rfl ?_
  refine z_geti hG f_X5_25 h0 rfl dX5_office_1 ?_
  refine z_iconst (v := 2) hG dX5_office_4 (by decide) ?_
  refine z_icmp_ge (tgt := 22) hG dX5_office_5 (by decide) (fun c19 => ?_) (fun c19 => ?_)
  · have hw := hw.1 c19
    refine z_iconst (v := 0) hG dX5_office_22 (by decide) ?_
    exact z_iret hG rfl (by decide +kernel) dX5_office_23 hw
  · have hw := hw.2 c19
    refine z_aload_n hG dX5_office_8 rfl 0 rfl ?_
    refine z_iconst (v := 0) hG dX5_office_9 (by decide) ?_
    refine z_aload_n hG dX5_office_10 rfl 1 rfl ?_
    refine z_calli hG (z_runV (As := []) (st := [.int 0, .ref (za Y t0)]) hG k_X5_114 (MX6_circle l h1 hw) ⟨(Nat.le_of_ble_eq_true rfl), (Nat.le_of_ble_eq_true rfl)⟩ h1 (T := TX6) (N := 8) rfl (by decide) rfl (Nat.le_of_ble_eq_true rfl) dX5_office_11 ⟨Nat.zero_le _, Nat.zero_le _⟩ rfl) (fun r2 σ1 hw => ?_)
    refine z_iconst (v := 1) hG dX5_office_14 (by decide) ?_
    refine z_isub hG dX5_office_15 ?_
    refine z_topi (fun x3 ex3 => ?_)
    have hw := hw x3 ex3
    refine z_calli hG (z_runV (As := [.int 0, .int x3]) (st := []) hG k_X5_90 (MX5_takeNumber l h0 hw) ⟨(Nat.le_of_ble_eq_true rfl), (Nat.le_of_ble_eq_true rfl)⟩ h0 (T := TX5) (N := 3) rfl (by decide) rfl (Nat.le_of_ble_eq_true rfl) dX5_office_16 ⟨Nat.zero_le _, Nat.zero_le _⟩ rfl) (fun r5 σ4 hw => ?_)
    refine z_if_ne (tgt := 24) hG dX5_office_19 (by decide) (fun c18 => ?_) (fun c18 => ?_)
    · have hw := hw.2 c18
      refine z_aload_n hG dX5_office_24 rfl 1 rfl ?_
      refine z_aload_n hG dX5_office_25 rfl 0 rfl ?_
      refine z_geti hG f_X5_25 h0 rfl dX5_office_26 ?_
      refine z_topi (fun x6 ex6 => ?_)
      have hw := hw x6 ex6
      refine z_callr hG (z_runV (As := [.int x6]) (st := []) hG k_X5_118 (MX6_desk l h1 hw) ⟨(Nat.le_of_ble_eq_true rfl), (Nat.le_of_ble_eq_true rfl)⟩ h1 (T := TX6) (N := 8) rfl (by decide) rfl (Nat.le_of_ble_eq_true rfl) dX5_office_29 ⟨Nat.zero_le _, Nat.zero_le _⟩ rfl) (fun r8 σ7 hr8 hw => ?_)
      refine z_astore_n (lv' := [(2, .ref (za Y r8)), (0, .ref (za Y t0)), (1, .ref (za Y t1))]) hG dX5_office_32 rfl (by decide) rfl ?_
      refine z_aload_n hG dX5_office_33 rfl 0 rfl ?_
      refine z_aload_n hG dX5_office_34 rfl 1 rfl ?_
      refine z_geti hG f_X5_94 h0 rfl dX5_office_35 ?_
      refine z_topi (fun x9 ex9 => ?_)
      have hw := hw x9 ex9
      refine z_puti hG f_X5_122 hr8 rfl rfl (zN_int _) dX5_office_38 ?_
      refine z_topσ (fun σ10 eσ10 => ?_)
      have hw := hw σ10 eσ10
      refine z_aload_n hG dX5_office_41 rfl 1 rfl ?_
      refine z_bipush (v := 10) hG dX5_office_42 (by decide) ?_
      refine z_sipush (v := 999) hG dX5_office_44 (by decide) ?_
      refine z_calli hG (z_runV (As := [.int 10, .int 999]) (st := []) hG k_X5_90 (MX5_takeNumber l h0 hw) ⟨(Nat.le_of_ble_eq_true rfl), (Nat.le_of_ble_eq_true rfl)⟩ h0 (T := TX5) (N := 3) rfl (by decide) rfl (Nat.le_of_ble_eq_true rfl) dX5_office_47 ⟨Nat.zero_le _, Nat.zero_le _⟩ rfl) (fun r12 σ11 hw => ?_)
      refine z_if_ne (tgt := 55) hG dX5_office_50 (by decide) (fun c17 => ?_) (fun c17 => ?_)
      · have hw := hw.2 c17
        refine z_aload_n hG dX5_office_55 rfl 0 rfl ?_
        refine z_aload_n hG dX5_office_56 rfl 1 rfl ?_
        refine z_geti hG f_X5_94 h0 rfl dX5_office_57 ?_
        refine z_topi (fun x13 ex13 => ?_)
        have hw := hw x13 ex13
        refine z_puti hG f_X5_125 hr8 rfl rfl (zN_int _) dX5_office_60 ?_
        refine z_topσ (fun σ14 eσ14 => ?_)
        have hw := hw σ14 eσ14
        refine z_aload_n hG dX5_office_63 rfl 1 rfl ?_
        refine z_dup hG dX5_office_64 rfl ?_
        refine z_geti hG f_X5_25 h0 rfl dX5_office_65 ?_
        refine z_iconst (v := 1) hG dX5_office_68 (by decide) ?_
        refine z_iadd hG dX5_office_69 ?_
        refine z_topi (fun x15 ex15 => ?_)
        have hw := hw x15 ex15
        refine z_puti hG f_X5_25 h0 rfl rfl (zN_int _) dX5_office_70 ?_
        refine z_topσ (fun σ16 eσ16 => ?_)
        have hw := hw σ16 eσ16
        refine z_iconst (v := 1) hG dX5_office_73 (by decide) ?_
        exact z_iret hG rfl (by decide +kernel) dX5_office_74 hw
      · have hw := hw.1 c17
        refine z_iconst (v := 0) hG dX5_office_53 (by decide) ?_
        exact z_iret hG rfl (by decide +kernel) dX5_office_54 hw
    · have hw := hw.1 c18
      refine z_iconst (v := 0) hG dX5_office_22 (by decide) ?_
      exact z_iret hG rfl (by decide +kernel) dX5_office_23 hw
-- TypeWheelTelegraph$Parser.loss(LTypeWheelTelegraph$Plan;)Z
def wX5_loss (ln : Nat → Nat) (σ : zS) (t0 : Nat) (t1 : Nat) (Q : Int32 → zS → Prop) : Prop := ∃ j1 : Nat, gr σ t1 5 = some j1 ∧ wX9_size ln σ j1 (fun r3 σ2 => ((20 ≤ r3 → Q 0 σ2) ∧ (¬ 20 ≤ r3 → wX5_takeNumber ln σ2 t0 1 9999 (fun r5 σ4 => ((r5 = 0 → Q 0 σ4) ∧ (¬ r5 = 0 → ∃ j6 : Nat, gr σ4 t1 5 = some j6 ∧ ∀ x7 : Int32, x7 = gi σ4 t0 2 → wX9_add ln σ4 j6 x7 (fun σ8 => Q 1 σ8)))))))
abbrev rX5_loss : Room := { frames := 3, cells := 0, slots := 0, locals := 65 }
set_option maxRecDepth 100000 in
set_option maxHeartbeats 4000000 in
theorem MX5_loss (l : Launch) {E : zE} {Y : zY} {σ : zS} {t0 : Nat} {t1 : Nat} (h0 : zT Y 5 t0) (h1 : zT Y 6 t1) {Q : Int32 → zS → Prop} (hw : wX5_loss (zln Y) σ t0 t1 Q) : ∀ sz, Met l yX5_loss (zw yX5_loss cX5_loss 2 (some .boolean)) rX5_loss (zPc E Y σ sz [.ref (za Y t0), .ref (za Y t1)]) (va_Qi Q (zB E Y sz) (zA Y sz)) 0 0 (zA Y sz) := by
  refine z_met (own := RX5) (Qc := fun sz => va_Qi Q (zB E Y sz) (zA Y sz)) (by decide +kernel) rfl (Nat.le_of_ble_eq_true rfl) ?_
  intro p e s m args below meth c hG hinit
  unfold wX5_loss at hw
  refine zlv (lv' := [(0, .ref (za Y t0)), (1, .ref (za Y t1))]) rfl ?_
  refine z_aload_n hG dX5_loss_0 rfl 1 rfl ?_
  obtain ⟨j1, ej1, hw⟩ := hw
  refine z_getr (kq := 9) hG f_X5_128 h1 rfl ej1 rfl (by decide) dX5_loss_1 (fun hj1 => ?_)
  refine z_calli hG (z_runV (As := []) (st := []) hG k_X5_132 (MX9_size l hj1 hw) ⟨(Nat.le_of_ble_eq_true rfl), (Nat.le_of_ble_eq_true rfl)⟩ hj1 (T := TX9) (N := 2) rfl (by decide) rfl (Nat.le_of_ble_eq_true rfl) dX5_loss_4 ⟨Nat.zero_le _, Nat.zero_le _⟩ rfl) (fun r3 σ2 hw => ?_)
  refine z_bipush (v := 20) hG dX5_loss_7 (by decide) ?_
  refine z_icmp_ge (tgt := 23) hG dX5_loss_9 (by decide) (fun c10 => ?_) (fun c10 => ?_)
  · have hw := hw.1 c10
    refine z_iconst (v := 0) hG dX5_loss_23 (by decide) ?_
    exact z_iret hG rfl (by decide +kernel) dX5_loss_24 hw
  · have hw := hw.2 c10
    refine z_aload_n hG dX5_loss_12 rfl 0 rfl ?_
    refine z_iconst (v := 1) hG dX5_loss_13 (by decide) ?_
    refine z_sipush (v := 9999) hG dX5_loss_14 (by decide) ?_
    refine z_calli hG (z_runV (As := [.int 1, .int 9999]) (st := []) hG k_X5_90 (MX5_takeNumber l h0 hw) ⟨(Nat.le_of_ble_eq_true rfl), (Nat.le_of_ble_eq_true rfl)⟩ h0 (T := TX5) (N := 3) rfl (by decide) rfl (Nat.le_of_ble_eq_true rfl) dX5_loss_17 ⟨Nat.zero_le _, Nat.zero_le _⟩ rfl) (fun r5 σ4 hw => ?_)
    refine z_if_ne (tgt := 25) hG dX5_loss_20 (by decide) (fun c9 => ?_) (fun c9 => ?_)
    · have hw := hw.2 c9
      refine z_aload_n hG dX5_loss_25 rfl 1 rfl ?_
      obtain ⟨j6, ej6, hw⟩ := hw
      refine z_getr (kq := 9) hG f_X5_128 h1 rfl ej6 rfl (by decide) dX5_loss_26 (fun hj6 => ?_)
      refine z_aload_n hG dX5_loss_29 rfl 0 rfl ?_
      refine z_geti hG f_X5_94 h0 rfl dX5_loss_30 ?_
      refine z_topi (fun x7 ex7 => ?_)
      have hw := hw x7 ex7
      refine z_callv hG (z_runV (As := [.int x7]) (st := []) hG k_X5_137 (MX9_add l hj6 hw) ⟨(Nat.le_of_ble_eq_true rfl), (Nat.le_of_ble_eq_true rfl)⟩ hj6 (T := TX9) (N := 2) rfl (by decide) rfl (Nat.le_of_ble_eq_true rfl) dX5_loss_33 ⟨Nat.zero_le _, Nat.zero_le _⟩ rfl) (fun σ8 hw => ?_)
      refine z_iconst (v := 1) hG dX5_loss_36 (by decide) ?_
      exact z_iret hG rfl (by decide +kernel) dX5_loss_37 hw
    · have hw := hw.1 c9
      refine z_iconst (v := 0) hG dX5_loss_23 (by decide) ?_
      exact z_iret hG rfl (by decide +kernel) dX5_loss_24 hw
-- TypeWheelTelegraph$Parser.takeSemicolon()Z
def wX5_takeSemicolon (ln : Nat → Nat) (σ : zS) (t0 : Nat) (Q : Int32 → zS → Prop) : Prop := ∃ j1 : Nat, gr σ t0 0 = some j1 ∧ wX10_take ln σ j1 (fun σ2 => ∃ j3 : Nat, gr σ2 t0 0 = some j3 ∧ (((gi σ2 j3 0) = 3 → Q 1 σ2) ∧ (¬ (gi σ2 j3 0) = 3 → Q 0 σ2)))
abbrev rX5_takeSemicolon : Room := { frames := 2, cells := 0, slots := 0, locals := 41 }
set_option maxRecDepth 100000 in
set_option maxHeartbeats 4000000 in
theorem MX5_takeSemicolon (l : Launch) {E : zE} {Y : zY} {σ : zS} {t0 : Nat} (h0 : zT Y 5 t0) {Q : Int32 → zS → Prop} (hw : wX5_takeSemicolon (zln Y) σ t0 Q) : ∀ sz, Met l yX5_takeSemicolon (zw yX5_takeSemicolon cX5_takeSemicolon 1 (some .boolean)) rX5_takeSemicolon (zPc E Y σ sz [.ref (za Y t0)]) (va_Qi Q (zB E Y sz) (zA Y sz)) 0 0 (zA Y sz) := by
  refine z_met (own := RX5) (Qc := fun sz => va_Qi Q (zB E Y sz) (zA Y sz)) (by decide +kernel) rfl (Nat.le_of_ble_eq_true rfl) ?_
  intro p e s m args below meth c hG hinit
  unfold wX5_takeSemicolon at hw
  refine zlv (lv' := [(0, .ref (za Y t0))]) rfl ?_
  refine z_aload_n hG dX5_takeSemicolon_0 rfl 0 rfl ?_
  obtain ⟨j1, ej1, hw⟩ := hw
  refine z_getr (kq := 10) hG f_X5_14 h0 rfl ej1 rfl (by decide) dX5_takeSemicolon_1 (fun hj1 => ?_)
  refine z_callv hG (z_runV (As := []) (st := []) hG k_X5_42 (MX10_take l hj1 hw) ⟨(Nat.le_of_ble_eq_true rfl), (Nat.le_of_ble_eq_true rfl)⟩ hj1 (T := TX10) (N := 4) rfl (by decide) rfl (Nat.le_of_ble_eq_true rfl) dX5_takeSemicolon_4 ⟨Nat.zero_le _, Nat.zero_le _⟩ rfl) (fun σ2 hw => ?_)
  refine z_aload_n hG dX5_takeSemicolon_7 rfl 0 rfl ?_
  obtain ⟨j3, ej3, hw⟩ := hw
  refine z_getr (kq := 10) hG f_X5_14 h0 rfl ej3 rfl (by decide) dX5_takeSemicolon_8 (fun hj3 => ?_)
  refine z_geti hG f_X5_32 hj3 rfl dX5_takeSemicolon_11 ?_
  refine z_iconst (v := 3) hG dX5_takeSemicolon_14 (by decide) ?_
  refine z_icmp_ne (tgt := 22) hG dX5_takeSemicolon_15 (by decide) (fun c4 => ?_) (fun c4 => ?_)
  · have hw := hw.2 c4
    refine z_iconst (v := 0) hG dX5_takeSemicolon_22 (by decide) ?_
    exact z_iret hG rfl (by decide +kernel) dX5_takeSemicolon_23 hw
  · have hw := hw.1 c4
    refine z_iconst (v := 1) hG dX5_takeSemicolon_18 (by decide) ?_
    refine z_goto (tgt := 23) hG dX5_takeSemicolon_19 (by decide) ?_
    exact z_iret hG rfl (by decide +kernel) dX5_takeSemicolon_23 hw
-- TypeWheelTelegraph.modulo(II)I
def wX11_modulo (ln : Nat → Nat) (σ : zS) (v0 : Int32) (v1 : Int32) (Q : Int32 → zS → Prop) : Prop := ((v1 ≤ 0 → Q 0 σ) ∧ (¬ v1 ≤ 0 → wJ9_floorMod_7cf53 ln σ v0 v1 (fun r2 σ1 => Q r2 σ1)))
abbrev rX11_modulo : Room := { frames := 1, cells := 0, slots := 0, locals := 22 }
set_option maxRecDepth 100000 in
set_option maxHeartbeats 4000000 in
theorem MX11_modulo (l : Launch) {E : zE} {Y : zY} {σ : zS} {v0 : Int32} {v1 : Int32} {Q : Int32 → zS → Prop} (hw : wX11_modulo (zln Y) σ v0 v1 Q) : ∀ sz, Met l yX11_modulo (zw yX11_modulo cX11_modulo 2 (some .int)) rX11_modulo (zPc E Y σ sz [.int v0, .int v1]) (va_Qi Q (zB E Y sz) (zA Y sz)) 0 0 (zA Y sz) := by
  refine z_met (own := RX11) (Qc := fun sz => va_Qi Q (zB E Y sz) (zA Y sz)) (by decide +kernel) rfl (Nat.le_of_ble_eq_true rfl) ?_
  intro p e s m args below meth c hG hinit
  unfold wX11_modulo at hw
  refine zlv (lv' := [(0, .int v0), (1, .int v1)]) rfl ?_
  refine z_iload_n hG dX11_modulo_0 rfl 1 rfl ?_
  refine z_if_le (tgt := 12) hG dX11_modulo_1 (by decide) (fun c3 => ?_) (fun c3 => ?_)
  · have hw := hw.1 c3
    refine z_iconst (v := 0) hG dX11_modulo_12 (by decide) ?_
    exact z_iret hG rfl rfl dX11_modulo_13 hw
  · have hw := hw.2 c3
    refine z_iload_n hG dX11_modulo_4 rfl 0 rfl ?_
    refine z_iload_n hG dX11_modulo_5 rfl 1 rfl ?_
    refine z_calli hG (z_runS (As := [.int v0, .int v1]) (st := []) hG k_X11_388 (MJ9_floorMod_7cf53 l hw) ⟨(Nat.le_of_ble_eq_true rfl), (Nat.le_of_ble_eq_true rfl)⟩ rfl (Nat.le_of_ble_eq_true rfl) dX11_modulo_6 ⟨Nat.zero_le _, Nat.zero_le _⟩ rfl) (fun r2 σ1 hw => ?_)
    refine z_goto (tgt := 13) hG dX11_modulo_9 (by decide) ?_
    exact z_iret hG rfl rfl dX11_modulo_13 hw
-- TypeWheelTelegraph.checkPosition(II)I
def wX11_checkPosition (ln : Nat → Nat) (σ : zS) (v0 : Int32) (v1 : Int32) (Q : Int32 → zS → Prop) : Prop := ∀ x1 : Int32, x1 = v1 - 2 → wX11_modulo ln σ v0 x1 (fun r3 σ2 => Q (2 + r3) σ2)
abbrev rX11_checkPosition : Room := { frames := 2, cells := 0, slots := 0, locals := 43 }
set_option maxRecDepth 100000 in
set_option maxHeartbeats 4000000 in
theorem MX11_checkPosition (l : Launch) {E : zE} {Y : zY} {σ : zS} {v0 : Int32} {v1 : Int32} {Q : Int32 → zS → Prop} (hw : wX11_checkPosition (zln Y) σ v0 v1 Q) : ∀ sz, Met l yX11_checkPosition (zw yX11_checkPosition cX11_checkPosition 2 (some .int)) rX11_checkPosition (zPc E Y σ sz [.int v0, .int v1]) (va_Qi Q (zB E Y sz) (zA Y sz)) 0 0 (zA Y sz) := by
  refine z_met (own := RX11) (Qc := fun sz => va_Qi Q (zB E Y sz) (zA Y sz)) (by decide +kernel) rfl (Nat.le_of_ble_eq_true rfl) ?_
  intro p e s m args below meth c hG hinit
  unfold wX11_checkPosition at hw
  refine zlv (lv' := [(0, .int v0), (1, .int v1)]) rfl ?_
  refine z_iconst (v := 2) hG dX11_checkPosition_0 (by decide) ?_
  refine z_iload_n hG dX11_checkPosition_1 rfl 0 rfl ?_
  refine z_iload_n hG dX11_checkPosition_2 rfl 1 rfl ?_
  refine z_iconst (v := 2) hG dX11_checkPosition_3 (by decide) ?_
  refine z_isub hG dX11_checkPosition_4 ?_
  refine z_topi (fun x1 ex1 => ?_)
  have hw := hw x1 ex1
  refine z_calli hG (z_runS (As := [.int v0, .int x1]) (st := [.int 2]) hG k_X11_138 (MX11_modulo l hw) ⟨(Nat.le_of_ble_eq_true rfl), (Nat.le_of_ble_eq_true rfl)⟩ rfl (Nat.le_of_ble_eq_true rfl) dX11_checkPosition_5 ⟨Nat.zero_le _, Nat.zero_le _⟩ rfl) (fun r3 σ2 hw => ?_)
  refine z_iadd hG dX11_checkPosition_8 ?_
  exact z_iret hG rfl rfl dX11_checkPosition_9 hw
-- TypeWheelTelegraph$Line.encode(I)V
def wX2_encode_64 (ln : Nat → Nat) (Q : zS → Prop) (kb11 : Nat → Int32 → Int32 → Int32 → zS → Prop) (t0 : Nat) (v1 : Int32) (v2 : Int32) (v3 : Int32) (v4 : Int32) (σ : zS) : Prop := ∃ j1 : Nat, gr σ t0 1 = some j1 ∧ wX2_wheelIndex ln σ v4 (fun r3 σ2 => ∀ x4 : Int32, x4 = 2 + r3 → wX9_add ln σ2 j1 x4 (fun σ5 => ∀ x6 : Int32, x6 = v3 + 1 → kb11 t0 v1 v2 x6 σ5))
def wX2_encode_44 (ln : Nat → Nat) (Q : zS → Prop) (kb11 : Nat → Int32 → Int32 → Int32 → zS → Prop) (t0 : Nat) (v1 : Int32) (v2 : Int32) (v3 : Int32) (v4 : Int32) (vw0 : Int32) (σ : zS) : Prop := ((v2 = vw0 → wX2_encode_64 ln Q kb11 t0 v1 v2 v3 v4 σ) ∧ (¬ v2 = vw0 → ∃ j1 : Nat, gr σ t0 1 = some j1 ∧ wX9_add ln σ j1 vw0 (fun σ2 => wX2_encode_64 ln Q kb11 t0 v1 vw0 v3 v4 σ2)))
def wX2_encode_11 (ln : Nat → Nat) (Q : zS → Prop) : Nat → Nat → Int32 → Int32 → Int32 → zS → Prop
  | 0, _, _, _, _, _ => False
  | n + 1, t0, v1, v2, v3, σ => ∃ j1 : Nat, gr σ t0 0 = some j1 ∧ wX9_size ln σ j1 (fun r3 σ2 => ((r3 ≤ v3 → ∃ j4 : Nat, gr σ2 t0 1 = some j4 ∧ wX9_size ln σ2 j4 (fun r6 σ5 => ∃ j7 : Nat, gr σ5 t0 1 = some j7 ∧ wX9_add ln σ5 j7 v2 (fun σ8 => ∃ j9 : Nat, gr σ8 t0 1 = some j9 ∧ wX11_checkPosition ln σ8 r6 v1 (fun r11 σ10 => wX9_add ln σ10 j9 r11 (fun σ12 => Q σ12))))) ∧ (¬ r3 ≤ v3 → ∃ j13 : Nat, gr σ2 t0 0 = some j13 ∧ wX9_get ln σ2 j13 v3 (fun r15 σ14 => ((57 < r15 → wX2_encode_44 ln Q (wX2_encode_11 ln Q n) t0 v1 v2 v3 r15 0 σ14) ∧ (¬ 57 < r15 → wX2_encode_44 ln Q (wX2_encode_11 ln Q n) t0 v1 v2 v3 r15 1 σ14))))))
def wX2_encode (ln : Nat → Nat) (σ : zS) (t0 : Nat) (v1 : Int32) (Q : zS → Prop) : Prop := ∃ j1 : Nat, gr σ t0 1 = some j1 ∧ wX9_clear ln σ j1 (fun σ2 => ∃ n3 : Nat, wX2_encode_11 ln Q n3 t0 v1 0 0 σ2)
abbrev rX2_encode : Room := { frames := 3, cells := 0, slots := 0, locals := 64 }
set_option maxRecDepth 100000 in
set_option maxHeartbeats 4000000 in
theorem BX2_encode_64 {l : Launch} {E : zE} {Y : zY} {p : Program} {e : Env} {s : State} {m : MethodId} {args : Array Value} {below : List Frame} {meth : Method} {c : Code} (hG : zG E p l s m args meth c cX2_encode 6 RX2 none (zA Y s.heap.size)) {Q : zS → Prop} {kb11 : Nat → Int32 → Int32 → Int32 → zS → Prop} (hkb11 : ∀ (t0 : Nat) (v1 : Int32) (v2 : Int32) (v3 : Int32) (σ : zS), kb11 t0 v1 v2 v3 σ → zT Y 2 t0 → WW E Y σ p l e rX2_encode s m args below meth c (zA Y s.heap.size) 6 0 0 (MQ below (va_Qv Q (zB E Y s.heap.size) (zA Y s.heap.size)) args s 0 0 (zA Y s.heap.size)) [(0, .ref (za Y t0)), (1, .int v1), (2, .int v2), (3, .int v3)] 11 []) : ∀ (t0 : Nat) (v1 : Int32) (v2 : Int32) (v3 : Int32) (v4 : Int32) (σ : zS), wX2_encode_64 (zln Y) Q kb11 t0 v1 v2 v3 v4 σ → zT Y 2 t0 → WW E Y σ p l e rX2_encode s m args below meth c (zA Y s.heap.size) 6 0 0 (MQ below (va_Qv Q (zB E Y s.heap.size) (zA Y s.heap.size)) args s 0 0 (zA Y s.heap.size)) [(0, .ref (za Y t0)), (1, .int v1), (2, .int v2), (3, .int v3), (4, .int v4)] 64 [] := by
  intro t0 v1 v2 v3 v4 σ hw h0
  unfold wX2_encode_64 at hw
  refine z_aload_n hG dX2_encode_64 rfl 0 rfl ?_
  obtain ⟨j1, ej1, hw⟩ := hw
  refine z_getr (kq := 9) hG f_X2_20 h0 rfl ej1 rfl (by decide) dX2_encode_65 (fun hj1 => ?_)
  refine z_iconst (v := 2) hG dX2_encode_68 (by decide) ?_
  refine z_iload hG dX2_encode_69 4 rfl ?_
  refine z_calli hG (z_runS (As := [.int v4]) (st := [.int 2, .ref (za Y j1)]) hG k_X2_37 (MX2_wheelIndex l hw) ⟨(Nat.le_of_ble_eq_true rfl), (Nat.le_of_ble_eq_true rfl)⟩ rfl (Nat.le_of_ble_eq_true rfl) dX2_encode_71 ⟨Nat.zero_le _, Nat.zero_le _⟩ rfl) (fun r3 σ2 hw => ?_)
  refine z_iadd hG dX2_encode_74 ?_
  refine z_topi (fun x4 ex4 => ?_)
  have hw := hw x4 ex4
  refine z_callv hG (z_runV (As := [.int x4]) (st := []) hG k_X2_34 (MX9_add l hj1 hw) ⟨(Nat.le_of_ble_eq_true rfl), (Nat.le_of_ble_eq_true rfl)⟩ hj1 (T := TX9) (N := 2) rfl (by decide) rfl (Nat.le_of_ble_eq_true rfl) dX2_encode_75 ⟨Nat.zero_le _, Nat.zero_le _⟩ rfl) (fun σ5 hw => ?_)
  obtain ⟨x6, ex6⟩ : ∃ y : Int32, y = v3 + 1 := ⟨_, rfl⟩
  have hw := hw x6 ex6
  refine z_iinc (v := x6) (lv' := [(3, .int x6), (0, .ref (za Y t0)), (1, .int v1), (2, .int v2), (4, .int v4)]) hG dX2_encode_78 3 rfl (by rw [ex6]; rfl) (by decide) rfl ?_
  refine z_goto (tgt := 11) hG dX2_encode_81 (by decide) ?_
  refine zpick [1, 2, 3, 0] (lv' := [(0, .ref (za Y t0)), (1, .int v1), (2, .int v2), (3, .int x6)]) rfl ?_
  exact hkb11 t0 v1 v2 x6 σ5 hw h0
set_option maxRecDepth 100000 in
set_option maxHeartbeats 4000000 in
theorem BX2_encode_44 {l : Launch} {E : zE} {Y : zY} {p : Program} {e : Env} {s : State} {m : MethodId} {args : Array Value} {below : List Frame} {meth : Method} {c : Code} (hG : zG E p l s m args meth c cX2_encode 6 RX2 none (zA Y s.heap.size)) {Q : zS → Prop} {kb11 : Nat → Int32 → Int32 → Int32 → zS → Prop} (hkb11 : ∀ (t0 : Nat) (v1 : Int32) (v2 : Int32) (v3 : Int32) (σ : zS), kb11 t0 v1 v2 v3 σ → zT Y 2 t0 → WW E Y σ p l e rX2_encode s m args below meth c (zA Y s.heap.size) 6 0 0 (MQ below (va_Qv Q (zB E Y s.heap.size) (zA Y s.heap.size)) args s 0 0 (zA Y s.heap.size)) [(0, .ref (za Y t0)), (1, .int v1), (2, .int v2), (3, .int v3)] 11 []) : ∀ (t0 : Nat) (v1 : Int32) (v2 : Int32) (v3 : Int32) (v4 : Int32) (vw0 : Int32) (σ : zS), wX2_encode_44 (zln Y) Q kb11 t0 v1 v2 v3 v4 vw0 σ → zT Y 2 t0 → WW E Y σ p l e rX2_encode s m args below meth c (zA Y s.heap.size) 6 0 0 (MQ below (va_Qv Q (zB E Y s.heap.size) (zA Y s.heap.size)) args s 0 0 (zA Y s.heap.size)) [(0, .ref (za Y t0)), (1, .int v1), (2, .int v2), (3, .int v3), (4, .int v4)] 44 [.int vw0] := by
  intro t0 v1 v2 v3 v4 vw0 σ hw h0
  unfold wX2_encode_44 at hw
  refine z_istore (lv' := [(5, .int vw0), (0, .ref (za Y t0)), (1, .int v1), (2, .int v2), (3, .int v3), (4, .int v4)]) hG dX2_encode_44 (by decide) rfl ?_
  refine z_iload_n hG dX2_encode_46 rfl 3 rfl ?_
  refine z_iload hG dX2_encode_47 0 rfl ?_
  refine z_icmp_eq (tgt := 64) hG dX2_encode_49 (by decide) (fun c3 => ?_) (fun c3 => ?_)
  · have hw := hw.1 c3
    refine zpick [1, 2, 3, 4, 5] (lv' := [(0, .ref (za Y t0)), (1, .int v1), (2, .int v2), (3, .int v3), (4, .int v4)]) rfl ?_
    exact BX2_encode_64 hG hkb11 t0 v1 v2 v3 v4 σ hw h0
  · have hw := hw.2 c3
    refine z_aload_n hG dX2_encode_52 rfl 1 rfl ?_
    obtain ⟨j1, ej1, hw⟩ := hw
    refine z_getr (kq := 9) hG f_X2_20 h0 rfl ej1 rfl (by decide) dX2_encode_53 (fun hj1 => ?_)
    refine z_iload hG dX2_encode_56 0 rfl ?_
    refine z_callv hG (z_runV (As := [.int vw0]) (st := []) hG k_X2_34 (MX9_add l hj1 hw) ⟨(Nat.le_of_ble_eq_true rfl), (Nat.le_of_ble_eq_true rfl)⟩ hj1 (T := TX9) (N := 2) rfl (by decide) rfl (Nat.le_of_ble_eq_true rfl) dX2_encode_58 ⟨Nat.zero_le _, Nat.zero_le _⟩ rfl) (fun σ2 hw => ?_)
    refine z_iload hG dX2_encode_61 0 rfl ?_
    refine z_istore_n (lv' := [(2, .int vw0), (5, .int vw0), (0, .ref (za Y t0)), (1, .int v1), (3, .int v3), (4, .int v4)]) hG dX2_encode_63 rfl (by decide) rfl ?_
    refine zpick [2, 3, 0, 4, 5] (lv' := [(0, .ref (za Y t0)), (1, .int v1), (2, .int vw0), (3, .int v3), (4, .int v4)]) rfl ?_
    exact BX2_encode_64 hG hkb11 t0 v1 vw0 v3 v4 σ2 hw h0
set_option maxRecDepth 100000 in
set_option maxHeartbeats 4000000 in
theorem BX2_encode_11 {l : Launch} {E : zE} {Y : zY} {p : Program} {e : Env} {s : State} {m : MethodId} {args : Array Value} {below : List Frame} {meth : Method} {c : Code} (hG : zG E p l s m args meth c cX2_encode 6 RX2 none (zA Y s.heap.size)) {Q : zS → Prop} : ∀ (n : Nat) (t0 : Nat) (v1 : Int32) (v2 : Int32) (v3 : Int32) (σ : zS), wX2_encode_11 (zln Y) Q n t0 v1 v2 v3 σ → zT Y 2 t0 → WW E Y σ p l e rX2_encode s m args below meth c (zA Y s.heap.size) 6 0 0 (MQ below (va_Qv Q (zB E Y s.heap.size) (zA Y s.heap.size)) args s 0 0 (zA Y s.heap.size)) [(0, .ref (za Y t0)), (1, .int v1), (2, .int v2), (3, .int v3)] 11 [] := by
  intro n
  induction n with
  | zero => intro t0 v1 v2 v3 σ hw
            exact hw.elim
  | succ n ih =>
    intro t0 v1 v2 v3 σ hw h0
    rw [wX2_encode_11] at hw
    refine z_iload_n hG dX2_encode_11 rfl 3 rfl ?_
    refine z_aload_n hG dX2_encode_12 rfl 0 rfl ?_
    obtain ⟨j1, ej1, hw⟩ := hw
    refine z_getr (kq := 9) hG f_X2_14 h0 rfl ej1 rfl (by decide) dX2_encode_13 (fun hj1 => ?_)
    refine z_calli hG (z_runV (As := []) (st := [.int v3]) hG k_X2_26 (MX9_size l hj1 hw) ⟨(Nat.le_of_ble_eq_true rfl), (Nat.le_of_ble_eq_true rfl)⟩ hj1 (T := TX9) (N := 2) rfl (by decide) rfl (Nat.le_of_ble_eq_true rfl) dX2_encode_16 ⟨Nat.zero_le _, Nat.zero_le _⟩ rfl) (fun r3 σ2 hw => ?_)
    refine z_icmp_ge (tgt := 84) hG dX2_encode_19 (by decide) (fun c17 => ?_) (fun c17 => ?_)
    · have hw := hw.1 c17
      refine z_aload_n hG dX2_encode_84 rfl 0 rfl ?_
      obtain ⟨j4, ej4, hw⟩ := hw
      refine z_getr (kq := 9) hG f_X2_20 h0 rfl ej4 rfl (by decide) dX2_encode_85 (fun hj4 => ?_)
      refine z_calli hG (z_runV (As := []) (st := []) hG k_X2_26 (MX9_size l hj4 hw) ⟨(Nat.le_of_ble_eq_true rfl), (Nat.le_of_ble_eq_true rfl)⟩ hj4 (T := TX9) (N := 2) rfl (by decide) rfl (Nat.le_of_ble_eq_true rfl) dX2_encode_88 ⟨Nat.zero_le _, Nat.zero_le _⟩ rfl) (fun r6 σ5 hw => ?_)
      refine z_istore_n (lv' := [(3, .int r6), (0, .ref (za Y t0)), (1, .int v1), (2, .int v2)]) hG dX2_encode_91 rfl (by decide) rfl ?_
      refine z_aload_n hG dX2_encode_92 rfl 1 rfl ?_
      obtain ⟨j7, ej7, hw⟩ := hw
      refine z_getr (kq := 9) hG f_X2_20 h0 rfl ej7 rfl (by decide) dX2_encode_93 (fun hj7 => ?_)
      refine z_iload_n hG dX2_encode_96 rfl 3 rfl ?_
      refine z_callv hG (z_runV (As := [.int v2]) (st := []) hG k_X2_34 (MX9_add l hj7 hw) ⟨(Nat.le_of_ble_eq_true rfl), (Nat.le_of_ble_eq_true rfl)⟩ hj7 (T := TX9) (N := 2) rfl (by decide) rfl (Nat.le_of_ble_eq_true rfl) dX2_encode_97 ⟨Nat.zero_le _, Nat.zero_le _⟩ rfl) (fun σ8 hw => ?_)
      refine z_aload_n hG dX2_encode_100 rfl 1 rfl ?_
      obtain ⟨j9, ej9, hw⟩ := hw
      refine z_getr (kq := 9) hG f_X2_20 h0 rfl ej9 rfl (by decide) dX2_encode_101 (fun hj9 => ?_)
      refine z_iload_n hG dX2_encode_104 rfl 0 rfl ?_
      refine z_iload_n hG dX2_encode_105 rfl 2 rfl ?_
      refine z_calli hG (z_runSN (As := [.int r6, .int v1]) (st := [.ref (za Y j9)]) hG k_X2_40 k_X2_40s (MX11_checkPosition l hw) ⟨(Nat.le_of_ble_eq_true rfl), (Nat.le_of_ble_eq_true rfl)⟩ rfl (Nat.le_of_ble_eq_true rfl) dX2_encode_106 ⟨Nat.zero_le _, Nat.zero_le _⟩ rfl) (fun r11 σ10 hw => ?_)
      refine z_callv hG (z_runV (As := [.int r11]) (st := []) hG k_X2_34 (MX9_add l hj9 hw) ⟨(Nat.le_of_ble_eq_true rfl), (Nat.le_of_ble_eq_true rfl)⟩ hj9 (T := TX9) (N := 2) rfl (by decide) rfl (Nat.le_of_ble_eq_true rfl) dX2_encode_109 ⟨Nat.zero_le _, Nat.zero_le _⟩ rfl) (fun σ12 hw => ?_)
      exact z_vret hG rfl dX2_encode_112 hw
    · have hw := hw.2 c17
      refine z_aload_n hG dX2_encode_22 rfl 0 rfl ?_
      obtain ⟨j13, ej13, hw⟩ := hw
      refine z_getr (kq := 9) hG f_X2_14 h0 rfl ej13 rfl (by decide) dX2_encode_23 (fun hj13 => ?_)
      refine z_iload_n hG dX2_encode_26 rfl 3 rfl ?_
      refine z_calli hG (z_runV (As := [.int v3]) (st := []) hG k_X2_30 (MX9_get l hj13 hw) ⟨(Nat.le_of_ble_eq_true rfl), (Nat.le_of_ble_eq_true rfl)⟩ hj13 (T := TX9) (N := 2) rfl (by decide) rfl (Nat.le_of_ble_eq_true rfl) dX2_encode_27 ⟨Nat.zero_le _, Nat.zero_le _⟩ rfl) (fun r15 σ14 hw => ?_)
      refine z_istore (lv' := [(4, .int r15), (0, .ref (za Y t0)), (1, .int v1), (2, .int v2), (3, .int v3)]) hG dX2_encode_30 (by decide) rfl ?_
      refine z_iload hG dX2_encode_32 0 rfl ?_
      refine z_bipush (v := 57) hG dX2_encode_34 (by decide) ?_
      refine z_icmp_gt (tgt := 43) hG dX2_encode_36 (by decide) (fun c16 => ?_) (fun c16 => ?_)
      · have hw := hw.1 c16
        refine z_iconst (v := 0) hG dX2_encode_43 (by decide) ?_
        refine zpick [1, 2, 3, 4, 0] (lv' := [(0, .ref (za Y t0)), (1, .int v1), (2, .int v2), (3, .int v3), (4, .int r15)]) rfl ?_
        exact BX2_encode_44 hG ih t0 v1 v2 v3 r15 0 σ14 hw h0
      · have hw := hw.2 c16
        refine z_iconst (v := 1) hG dX2_encode_39 (by decide) ?_
        refine z_goto (tgt := 44) hG dX2_encode_40 (by decide) ?_
        refine zpick [1, 2, 3, 4, 0] (lv' := [(0, .ref (za Y t0)), (1, .int v1), (2, .int v2), (3, .int v3), (4, .int r15)]) rfl ?_
        exact BX2_encode_44 hG ih t0 v1 v2 v3 r15 1 σ14 hw h0
set_option maxRecDepth 100000 in
set_option maxHeartbeats 4000000 in
theorem MX2_encode (l : Launch) {E : zE} {Y : zY} {σ : zS} {t0 : Nat} {v1 : Int32} (h0 : zT Y 2 t0) {Q : zS → Prop} (hw : wX2_encode (zln Y) σ t0 v1 Q) : ∀ sz, Met l yX2_encode (zw yX2_encode cX2_encode 6 none) rX2_encode (zPc E Y σ sz [.ref (za Y t0), .int v1]) (va_Qv Q (zB E Y sz) (zA Y sz)) 0 0 (zA Y sz) := by
  refine z_met (own := RX2) (Qc := fun sz => va_Qv Q (zB E Y sz) (zA Y sz)) (by decide +kernel) rfl (Nat.le_of_ble_eq_true rfl) ?_
  intro p e s m args below meth c hG hinit
  unfold wX2_encode at hw
  refine zlv (lv' := [(0, .ref (za Y t0)), (1, .int v1)]) rfl ?_
  refine z_aload_n hG dX2_encode_0 rfl 0 rfl ?_
  obtain ⟨j1, ej1, hw⟩ := hw
  refine z_getr (kq := 9) hG f_X2_20 h0 rfl ej1 rfl (by decide) dX2_encode_1 (fun hj1 => ?_)
  refine z_callv hG (z_runV (As := []) (st := []) hG k_X2_23 (MX9_clear l hj1 hw) ⟨(Nat.le_of_ble_eq_true rfl), (Nat.le_of_ble_eq_true rfl)⟩ hj1 (T := TX9) (N := 2) rfl (by decide) rfl (Nat.le_of_ble_eq_true rfl) dX2_encode_4 ⟨Nat.zero_le _, Nat.zero_le _⟩ rfl) (fun σ2 hw => ?_)
  refine z_iconst (v := 0) hG dX2_encode_7 (by decide) ?_
  refine z_istore_n (lv' := [(2, .int 0), (0, .ref (za Y t0)), (1, .int v1)]) hG dX2_encode_8 rfl (by decide) rfl ?_
  refine z_iconst (v := 0) hG dX2_encode_9 (by decide) ?_
  refine z_istore_n (lv' := [(3, .int 0), (2, .int 0), (0, .ref (za Y t0)), (1, .int v1)]) hG dX2_encode_10 rfl (by decide) rfl ?_
  obtain ⟨n3, hw⟩ := hw
  refine zpick [2, 3, 1, 0] (lv' := [(0, .ref (za Y t0)), (1, .int v1), (2, .int 0), (3, .int 0)]) rfl ?_
  exact BX2_encode_11 hG n3 t0 v1 0 0 σ2 hw h0
-- TypeWheelTelegraph$Desk.encodeLines(I)V
def wX0_encodeLines_2 (ln : Nat → Nat) (Q : zS → Prop) : Nat → Nat → Int32 → Int32 → zS → Prop
  | 0, _, _, _, _ => False
  | n + 1, t0, v1, v2, σ => (((gi σ t0 2) ≤ v2 → Q σ) ∧ (¬ (gi σ t0 2) ≤ v2 → wX0_line ln σ t0 v2 (fun r2 σ1 => (r2 = none → ∀ x4 : Int32, x4 = v2 + 1 → (wX0_encodeLines_2 ln Q n) t0 v1 x4 σ1) ∧ (∀ j3 : Nat, r2 = some j3 → wX2_encode ln σ1 j3 v1 (fun σ5 => ∀ x6 : Int32, x6 = v2 + 1 → (wX0_encodeLines_2 ln Q n) t0 v1 x6 σ5)))))
def wX0_encodeLines (ln : Nat → Nat) (σ : zS) (t0 : Nat) (v1 : Int32) (Q : zS → Prop) : Prop := ∃ n1 : Nat, wX0_encodeLines_2 ln Q n1 t0 v1 0 σ
abbrev rX0_encodeLines : Room := { frames := 4, cells := 0, slots := 0, locals := 89 }
set_option maxRecDepth 100000 in
set_option maxHeartbeats 4000000 in
theorem BX0_encodeLines_2 {l : Launch} {E : zE} {Y : zY} {p : Program} {e : Env} {s : State} {m : MethodId} {args : Array Value} {below : List Frame} {meth : Method} {c : Code} (hG : zG E p l s m args meth c cX0_encodeLines 4 RX0 none (zA Y s.heap.size)) {Q : zS → Prop} : ∀ (n : Nat) (t0 : Nat) (v1 : Int32) (v2 : Int32) (σ : zS), wX0_encodeLines_2 (zln Y) Q n t0 v1 v2 σ → zT Y 0 t0 → WW E Y σ p l e rX0_encodeLines s m args below meth c (zA Y s.heap.size) 4 0 0 (MQ below (va_Qv Q (zB E Y s.heap.size) (zA Y s.heap.size)) args s 0 0 (zA Y s.heap.size)) [(0, .ref (za Y t0)), (1, .int v1), (2, .int v2)] 2 [] := by
  intro n
  induction n with
  | zero => intro t0 v1 v2 σ hw
            exact hw.elim
  | succ n ih =>
    intro t0 v1 v2 σ hw h0
    rw [wX0_encodeLines_2] at hw
    refine z_iload_n hG dX0_encodeLines_2 rfl 2 rfl ?_
    refine z_aload_n hG dX0_encodeLines_3 rfl 0 rfl ?_
    refine z_geti hG f_X0_25 h0 rfl dX0_encodeLines_4 ?_
    refine z_icmp_ge (tgt := 31) hG dX0_encodeLines_7 (by decide) (fun c7 => ?_) (fun c7 => ?_)
    · have hw := hw.1 c7
      exact z_vret hG rfl dX0_encodeLines_31 hw
    · have hw := hw.2 c7
      refine z_aload_n hG dX0_encodeLines_10 rfl 0 rfl ?_
      refine z_iload_n hG dX0_encodeLines_11 rfl 2 rfl ?_
      refine z_calle hG (z_runV (As := [.int v2]) (st := []) hG k_X0_28 (MX0_line l h0 hw) ⟨(Nat.le_of_ble_eq_true rfl), (Nat.le_of_ble_eq_true rfl)⟩ h0 (T := TX0) (N := 4) rfl (by decide) rfl (Nat.le_of_ble_eq_true rfl) dX0_encodeLines_12 ⟨Nat.zero_le _, Nat.zero_le _⟩ rfl) (fun σ1 hw => ?_) (fun j3 σ1 hj3 hw => ?_)
      · have hw := hw.1 rfl
        refine z_astoreN_n (lv' := [(3, .null), (0, .ref (za Y t0)), (1, .int v1), (2, .int v2)]) hG dX0_encodeLines_15 rfl (by decide) rfl ?_
        refine z_aloadN_n hG dX0_encodeLines_16 rfl 0 rfl ?_
        refine z_ifnull_yes (tgt := 25) hG dX0_encodeLines_17 (by decide) ?_
        obtain ⟨x4, ex4⟩ : ∃ y : Int32, y = v2 + 1 := ⟨_, rfl⟩
        have hw := hw x4 ex4
        refine z_iinc (v := x4) (lv' := [(2, .int x4), (3, .null), (0, .ref (za Y t0)), (1, .int v1)]) hG dX0_encodeLines_25 3 rfl (by rw [ex4]; rfl) (by decide) rfl ?_
        refine z_goto (tgt := 2) hG dX0_encodeLines_28 (by decide) ?_
        refine zpick [2, 3, 0] (lv' := [(0, .ref (za Y t0)), (1, .int v1), (2, .int x4)]) rfl ?_
        exact ih t0 v1 x4 σ1 hw h0
      · have hw := hw.2 j3 rfl
        refine z_astore_n (lv' := [(3, .ref (za Y j3)), (0, .ref (za Y t0)), (1, .int v1), (2, .int v2)]) hG dX0_encodeLines_15 rfl (by decide) rfl ?_
        refine z_aload_n hG dX0_encodeLines_16 rfl 0 rfl ?_
        refine z_ifnull_no hG dX0_encodeLines_17 ?_
        refine z_aload_n hG dX0_encodeLines_20 rfl 0 rfl ?_
        refine z_iload_n hG dX0_encodeLines_21 rfl 2 rfl ?_
        refine z_callv hG (z_runV (As := [.int v1]) (st := []) hG k_X0_41 (MX2_encode l hj3 hw) ⟨(Nat.le_of_ble_eq_true rfl), (Nat.le_of_ble_eq_true rfl)⟩ hj3 (T := TX2) (N := 2) rfl (by decide) rfl (Nat.le_of_ble_eq_true rfl) dX0_encodeLines_22 ⟨Nat.zero_le _, Nat.zero_le _⟩ rfl) (fun σ5 hw => ?_)
        obtain ⟨x6, ex6⟩ : ∃ y : Int32, y = v2 + 1 := ⟨_, rfl⟩
        have hw := hw x6 ex6
        refine z_iinc (v := x6) (lv' := [(2, .int x6), (3, .ref (za Y j3)), (0, .ref (za Y t0)), (1, .int v1)]) hG dX0_encodeLines_25 3 rfl (by rw [ex6]; rfl) (by decide) rfl ?_
        refine z_goto (tgt := 2) hG dX0_encodeLines_28 (by decide) ?_
        refine zpick [2, 3, 0] (lv' := [(0, .ref (za Y t0)), (1, .int v1), (2, .int x6)]) rfl ?_
        exact ih t0 v1 x6 σ5 hw h0
set_option maxRecDepth 100000 in
set_option maxHeartbeats 4000000 in
theorem MX0_encodeLines (l : Launch) {E : zE} {Y : zY} {σ : zS} {t0 : Nat} {v1 : Int32} (h0 : zT Y 0 t0) {Q : zS → Prop} (hw : wX0_encodeLines (zln Y) σ t0 v1 Q) : ∀ sz, Met l yX0_encodeLines (zw yX0_encodeLines cX0_encodeLines 4 none) rX0_encodeLines (zPc E Y σ sz [.ref (za Y t0), .int v1]) (va_Qv Q (zB E Y sz) (zA Y sz)) 0 0 (zA Y sz) := by
  refine z_met (own := RX0) (Qc := fun sz => va_Qv Q (zB E Y sz) (zA Y sz)) (by decide +kernel) rfl (Nat.le_of_ble_eq_true rfl) ?_
  intro p e s m args below meth c hG hinit
  unfold wX0_encodeLines at hw
  refine zlv (lv' := [(0, .ref (za Y t0)), (1, .int v1)]) rfl ?_
  refine z_iconst (v := 0) hG dX0_encodeLines_0 (by decide) ?_
  refine z_istore_n (lv' := [(2, .int 0), (0, .ref (za Y t0)), (1, .int v1)]) hG dX0_encodeLines_1 rfl (by decide) rfl ?_
  obtain ⟨n1, hw⟩ := hw
  refine zpick [1, 2, 0] (lv' := [(0, .ref (za Y t0)), (1, .int v1), (2, .int 0)]) rfl ?_
  exact BX0_encodeLines_2 hG n1 t0 v1 0 σ hw h0
-- TypeWheelTelegraph$History.clear()V
def wX1_clear (ln : Nat → Nat) (σ : zS) (t0 : Nat) (Q : zS → Prop) : Prop := ∀ σ1 : zS, σ1 = si σ t0 2 0 → Q σ1
abbrev rX1_clear : Room := { frames := 0, cells := 0, slots := 0, locals := 0 }
set_option maxRecDepth 100000 in
set_option maxHeartbeats 4000000 in
theorem MX1_clear (l : Launch) {E : zE} {Y : zY} {σ : zS} {t0 : Nat} (h0 : zT Y 1 t0) {Q : zS → Prop} (hw : wX1_clear (zln Y) σ t0 Q) : ∀ sz, Met l yX1_clear (zw yX1_clear cX1_clear 1 none) rX1_clear (zPc E Y σ sz [.ref (za Y t0)]) (va_Qv Q (zB E Y sz) (zA Y sz)) 0 0 (zA Y sz) := by
  refine z_met (own := RX1) (Qc := fun sz => va_Qv Q (zB E Y sz) (zA Y sz)) (by decide +kernel) rfl (Nat.le_of_ble_eq_true rfl) ?_
  intro p e s m args below meth c hG hinit
  unfold wX1_clear at hw
  refine zlv (lv' := [(0, .ref (za Y t0))]) rfl ?_
  refine z_aload_n hG dX1_clear_0 rfl 0 rfl ?_
  refine z_iconst (v := 0) hG dX1_clear_1 (by decide) ?_
  refine z_puti hG f_X1_18 h0 rfl rfl (zN_int _) dX1_clear_2 ?_
  refine z_topσ (fun σ1 eσ1 => ?_)
  have hw := hw σ1 eσ1
  exact z_vret hG rfl dX1_clear_5 hw
-- TypeWheelTelegraph.errorOffset()I
def wX11_errorOffset (ln : Nat → Nat) (σ : zS) (t0 : Nat) (Q : Int32 → zS → Prop) : Prop := Q (gi σ t0 8) σ
abbrev rX11_errorOffset : Room := { frames := 0, cells := 0, slots := 0, locals := 0 }
set_option maxRecDepth 100000 in
set_option maxHeartbeats 4000000 in
theorem MX11_errorOffset (l : Launch) {E : zE} {Y : zY} {σ : zS} {t0 : Nat} (h0 : zT Y 11 t0) {Q : Int32 → zS → Prop} (hw : wX11_errorOffset (zln Y) σ t0 Q) : ∀ sz, Met l yX11_errorOffset (zw yX11_errorOffset cX11_errorOffset 1 (some .int)) rX11_errorOffset (zPc E Y σ sz [.ref (za Y t0)]) (va_Qi Q (zB E Y sz) (zA Y sz)) 0 0 (zA Y sz) := by
  refine z_met (own := RX11) (Qc := fun sz => va_Qi Q (zB E Y sz) (zA Y sz)) (by decide +kernel) rfl (Nat.le_of_ble_eq_true rfl) ?_
  intro p e s m args below meth c hG hinit
  unfold wX11_errorOffset at hw
  refine zlv (lv' := [(0, .ref (za Y t0))]) rfl ?_
  refine z_aload_n hG dX11_errorOffset_0 rfl 0 rfl ?_
  refine z_geti hG f_X11_44 h0 rfl dX11_errorOffset_1 ?_
  exact z_iret hG rfl rfl dX11_errorOffset_4 hw
-- TypeWheelTelegraph.positions()I
def wX11_positions (ln : Nat → Nat) (σ : zS) (t0 : Nat) (Q : Int32 → zS → Prop) : Prop := ∃ j1 : Nat, gr σ t0 6 = some j1 ∧ Q (gi σ j1 0) σ
abbrev rX11_positions : Room := { frames := 0, cells := 0, slots := 0, locals := 0 }
set_option maxRecDepth 100000 in
set_option maxHeartbeats 4000000 in
theorem MX11_positions (l : Launch) {E : zE} {Y : zY} {σ : zS} {t0 : Nat} (h0 : zT Y 11 t0) {Q : Int32 → zS → Prop} (hw : wX11_positions (zln Y) σ t0 Q) : ∀ sz, Met l yX11_positions (zw yX11_positions cX11_positions 1 (some .int)) rX11_positions (zPc E Y σ sz [.ref (za Y t0)]) (va_Qi Q (zB E Y sz) (zA Y sz)) 0 0 (zA Y sz) := by
  refine z_met (own := RX11) (Qc := fun sz => va_Qi Q (zB E Y sz) (zA Y sz)) (by decide +kernel) rfl (Nat.le_of_ble_eq_true rfl) ?_
  intro p e s m args below meth c hG hinit
  unfold wX11_positions at hw
  refine zlv (lv' := [(0, .ref (za Y t0))]) rfl ?_
  refine z_aload_n hG dX11_positions_0 rfl 0 rfl ?_
  obtain ⟨j1, ej1, hw⟩ := hw
  refine z_getr (kq := 6) hG f_X11_37 h0 rfl ej1 rfl (by decide) dX11_positions_1 (fun hj1 => ?_)
  refine z_geti hG f_X11_117 hj1 rfl dX11_positions_4 ?_
  exact z_iret hG rfl rfl dX11_positions_7 hw
-- TypeWheelTelegraph.time()I
def wX11_time (ln : Nat → Nat) (σ : zS) (t0 : Nat) (Q : Int32 → zS → Prop) : Prop := ∃ j1 : Nat, gr σ t0 3 = some j1 ∧ Q (gi σ j1 1) σ
abbrev rX11_time : Room := { frames := 0, cells := 0, slots := 0, locals := 0 }
set_option maxRecDepth 100000 in
set_option maxHeartbeats 4000000 in
theorem MX11_time (l : Launch) {E : zE} {Y : zY} {σ : zS} {t0 : Nat} (h0 : zT Y 11 t0) {Q : Int32 → zS → Prop} (hw : wX11_time (zln Y) σ t0 Q) : ∀ sz, Met l yX11_time (zw yX11_time cX11_time 1 (some .int)) rX11_time (zPc E Y σ sz [.ref (za Y t0)]) (va_Qi Q (zB E Y sz) (zA Y sz)) 0 0 (zA Y sz) := by
  refine z_met (own := RX11) (Qc := fun sz => va_Qi Q (zB E Y sz) (zA Y sz)) (by decide +kernel) rfl (Nat.le_of_ble_eq_true rfl) ?_
  intro p e s m args below meth c hG hinit
  unfold wX11_time at hw
  refine zlv (lv' := [(0, .ref (za Y t0))]) rfl ?_
  refine z_aload_n hG dX11_time_0 rfl 0 rfl ?_
  obtain ⟨j1, ej1, hw⟩ := hw
  refine z_getr (kq := 3) hG f_X11_53 h0 rfl ej1 rfl (by decide) dX11_time_1 (fun hj1 => ?_)
  refine z_geti hG f_X11_120 hj1 rfl dX11_time_4 ?_
  exact z_iret hG rfl rfl dX11_time_7 hw
-- TypeWheelTelegraph$Machine.office(I)LTypeWheelTelegraph$Office;
def wX3_office (ln : Nat → Nat) (σ : zS) (t0 : Nat) (v1 : Int32) (Q : Nat → zS → Prop) : Prop := ((v1 = 1 → ∃ j2 : Nat, gr σ t0 12 = some j2 ∧ Q j2 σ) ∧ (¬ v1 = 1 → ∃ j1 : Nat, gr σ t0 11 = some j1 ∧ Q j1 σ))
abbrev rX3_office : Room := { frames := 0, cells := 0, slots := 0, locals := 0 }
set_option maxRecDepth 100000 in
set_option maxHeartbeats 4000000 in
theorem MX3_office (l : Launch) {E : zE} {Y : zY} {σ : zS} {t0 : Nat} {v1 : Int32} (h0 : zT Y 3 t0) {Q : Nat → zS → Prop} (hw : wX3_office (zln Y) σ t0 v1 Q) : ∀ sz, Met l yX3_office (zw yX3_office cX3_office 2 (some (.object "TypeWheelTelegraph$Office"))) rX3_office (zPc E Y σ sz [.ref (za Y t0), .int v1]) (va_Qe (za Y) (zQe (zSm Q)) (zBe E Y sz 4) (zA Y sz)) 0 0 (zA Y sz) := by
  refine z_met (own := RX3) (Qc := fun sz => va_Qe (za Y) (zQe (zSm Q)) (zBe E Y sz 4) (zA Y sz)) (by decide +kernel) rfl (Nat.le_of_ble_eq_true rfl) ?_
  intro p e s m args below meth c hG hinit
  unfold wX3_office at hw
  refine zlv (lv' := [(0, .ref (za Y t0)), (1, .int v1)]) rfl ?_
  refine z_iload_n hG dX3_office_0 rfl 1 rfl ?_
  refine z_iconst (v := 1) hG dX3_office_1 (by decide) ?_
  refine z_icmp_ne (tgt := 12) hG dX3_office_2 (by decide) (fun c3 => ?_) (fun c3 => ?_)
  · have hw := hw.2 c3
    refine z_aload_n hG dX3_office_12 rfl 0 rfl ?_
    obtain ⟨j1, ej1, hw⟩ := hw
    refine z_getr (kq := 4) hG f_X3_18 h0 rfl ej1 rfl (by decide) dX3_office_13 (fun hj1 => ?_)
    exact z_aret hG rfl (Or.inl ⟨_, rfl⟩) hj1 dX3_office_16 ⟨_, rfl, hw⟩
  · have hw := hw.1 c3
    refine z_aload_n hG dX3_office_5 rfl 0 rfl ?_
    obtain ⟨j2, ej2, hw⟩ := hw
    refine z_getr (kq := 4) hG f_X3_22 h0 rfl ej2 rfl (by decide) dX3_office_6 (fun hj2 => ?_)
    refine z_goto (tgt := 16) hG dX3_office_9 (by decide) ?_
    exact z_aret hG rfl (Or.inl ⟨_, rfl⟩) hj2 dX3_office_16 ⟨_, rfl, hw⟩
-- TypeWheelTelegraph$Office.nearestPosition()I
def wX4_nearestPosition (ln : Nat → Nat) (σ : zS) (t0 : Nat) (Q : Int32 → zS → Prop) : Prop := Q (((gi σ t0 0) + 500) / 1000) σ
abbrev rX4_nearestPosition : Room := { frames := 0, cells := 0, slots := 0, locals := 0 }
set_option maxRecDepth 100000 in
set_option maxHeartbeats 4000000 in
theorem MX4_nearestPosition (l : Launch) {E : zE} {Y : zY} {σ : zS} {t0 : Nat} (h0 : zT Y 4 t0) {Q : Int32 → zS → Prop} (hw : wX4_nearestPosition (zln Y) σ t0 Q) : ∀ sz, Met l yX4_nearestPosition (zw yX4_nearestPosition cX4_nearestPosition 1 (some .int)) rX4_nearestPosition (zPc E Y σ sz [.ref (za Y t0)]) (va_Qi Q (zB E Y sz) (zA Y sz)) 0 0 (zA Y sz) := by
  refine z_met (own := RX4) (Qc := fun sz => va_Qi Q (zB E Y sz) (zA Y sz)) (by decide +kernel) rfl (Nat.le_of_ble_eq_true rfl) ?_
  intro p e s m args below meth c hG hinit
  unfold wX4_nearestPosition at hw
  refine zlv (lv' := [(0, .ref (za Y t0))]) rfl ?_
  refine z_aload_n hG dX4_nearestPosition_0 rfl 0 rfl ?_
  refine z_geti hG f_X4_26 h0 rfl dX4_nearestPosition_1 ?_
  refine z_sipush (v := 500) hG dX4_nearestPosition_4 (by decide) ?_
  refine z_iadd hG dX4_nearestPosition_7 ?_
  refine z_sipush (v := 1000) hG dX4_nearestPosition_8 (by decide) ?_
  refine z_idiv hG dX4_nearestPosition_11 (by decide) ?_
  exact z_iret hG rfl rfl dX4_nearestPosition_12 hw
-- TypeWheelTelegraph.lead()I
def wX11_lead (ln : Nat → Nat) (σ : zS) (t0 : Nat) (Q : Int32 → zS → Prop) : Prop := ∃ j1 : Nat, gr σ t0 3 = some j1 ∧ ∃ j2 : Nat, gr σ j1 12 = some j2 ∧ ∃ j3 : Nat, gr σ t0 6 = some j3 ∧ ∃ j4 : Nat, gr σ t0 3 = some j4 ∧ ∃ j5 : Nat, gr σ j4 12 = some j5 ∧ ∃ j6 : Nat, gr σ t0 3 = some j6 ∧ ∃ j7 : Nat, gr σ j6 11 = some j7 ∧ ∀ x8 : Int32, x8 = ((gi σ j2 0) + ((gi σ j3 1) * (gi σ j5 1))) - (gi σ j7 0) → ∃ j9 : Nat, gr σ t0 6 = some j9 ∧ wX6_circle ln σ j9 (fun r11 σ10 => ∀ x12 : Int32, x12 = r11 / 2 → ∃ j13 : Nat, gr σ10 t0 6 = some j13 ∧ wX6_circle ln σ10 j13 (fun r15 σ14 => ∀ x16 : Int32, x16 = x8 + x12 → wX11_modulo ln σ14 x16 r15 (fun r18 σ17 => Q (r18 - x12) σ17)))
abbrev rX11_lead : Room := { frames := 2, cells := 0, slots := 0, locals := 43 }
set_option maxRecDepth 100000 in
set_option maxHeartbeats 4000000 in
theorem MX11_lead (l : Launch) {E : zE} {Y : zY} {σ : zS} {t0 : Nat} (h0 : zT Y 11 t0) {Q : Int32 → zS → Prop} (hw : wX11_lead (zln Y) σ t0 Q) : ∀ sz, Met l yX11_lead (zw yX11_lead cX11_lead 3 (some .int)) rX11_lead (zPc E Y σ sz [.ref (za Y t0)]) (va_Qi Q (zB E Y sz) (zA Y sz)) 0 0 (zA Y sz) := by
  refine z_met (own := RX11) (Qc := fun sz => va_Qi Q (zB E Y sz) (zA Y sz)) (by decide +kernel) rfl (Nat.le_of_ble_eq_true rfl) ?_
  intro p e s m args below meth c hG hinit
  unfold wX11_lead at hw
  refine zlv (lv' := [(0, .ref (za Y t0))]) rfl ?_
  refine z_aload_n hG dX11_lead_0 rfl 0 rfl ?_
  obtain ⟨j1, ej1, hw⟩ := hw
  refine z_getr (kq := 3) hG f_X11_53 h0 rfl ej1 rfl (by decide) dX11_lead_1 (fun hj1 => ?_)
  obtain ⟨j2, ej2, hw⟩ := hw
  refine z_getr (kq := 4) hG f_X11_151 hj1 rfl ej2 rfl (by decide) dX11_lead_4 (fun hj2 => ?_)
  refine z_geti hG f_X11_127 hj2 rfl dX11_lead_7 ?_
  refine z_aload_n hG dX11_lead_10 rfl 0 rfl ?_
  obtain ⟨j3, ej3, hw⟩ := hw
  refine z_getr (kq := 6) hG f_X11_37 h0 rfl ej3 rfl (by decide) dX11_lead_11 (fun hj3 => ?_)
  refine z_geti hG f_X11_154 hj3 rfl dX11_lead_14 ?_
  refine z_aload_n hG dX11_lead_17 rfl 0 rfl ?_
  obtain ⟨j4, ej4, hw⟩ := hw
  refine z_getr (kq := 3) hG f_X11_53 h0 rfl ej4 rfl (by decide) dX11_lead_18 (fun hj4 => ?_)
  obtain ⟨j5, ej5, hw⟩ := hw
  refine z_getr (kq := 4) hG f_X11_151 hj4 rfl ej5 rfl (by decide) dX11_lead_21 (fun hj5 => ?_)
  refine z_geti hG f_X11_132 hj5 rfl dX11_lead_24 ?_
  refine z_imul hG dX11_lead_27 ?_
  refine z_iadd hG dX11_lead_28 ?_
  refine z_aload_n hG dX11_lead_29 rfl 0 rfl ?_
  obtain ⟨j6, ej6, hw⟩ := hw
  refine z_getr (kq := 3) hG f_X11_53 h0 rfl ej6 rfl (by decide) dX11_lead_30 (fun hj6 => ?_)
  obtain ⟨j7, ej7, hw⟩ := hw
  refine z_getr (kq := 4) hG f_X11_157 hj6 rfl ej7 rfl (by decide) dX11_lead_33 (fun hj7 => ?_)
  refine z_geti hG f_X11_127 hj7 rfl dX11_lead_36 ?_
  refine z_isub hG dX11_lead_39 ?_
  refine z_topi (fun x8 ex8 => ?_)
  have hw := hw x8 ex8
  refine z_istore_n (lv' := [(1, .int x8), (0, .ref (za Y t0))]) hG dX11_lead_40 rfl (by decide) rfl ?_
  refine z_aload_n hG dX11_lead_41 rfl 1 rfl ?_
  obtain ⟨j9, ej9, hw⟩ := hw
  refine z_getr (kq := 6) hG f_X11_37 h0 rfl ej9 rfl (by decide) dX11_lead_42 (fun hj9 => ?_)
  refine z_calli hG (z_runV (As := []) (st := []) hG k_X11_159 (MX6_circle l hj9 hw) ⟨(Nat.le_of_ble_eq_true rfl), (Nat.le_of_ble_eq_true rfl)⟩ hj9 (T := TX6) (N := 8) rfl (by decide) rfl (Nat.le_of_ble_eq_true rfl) dX11_lead_45 ⟨Nat.zero_le _, Nat.zero_le _⟩ rfl) (fun r11 σ10 hw => ?_)
  refine z_iconst (v := 2) hG dX11_lead_48 (by decide) ?_
  refine z_idiv hG dX11_lead_49 (by decide) ?_
  refine z_topi (fun x12 ex12 => ?_)
  have hw := hw x12 ex12
  refine z_istore_n (lv' := [(2, .int x12), (1, .int x8), (0, .ref (za Y t0))]) hG dX11_lead_50 rfl (by decide) rfl ?_
  refine z_iload_n hG dX11_lead_51 rfl 1 rfl ?_
  refine z_iload_n hG dX11_lead_52 rfl 0 rfl ?_
  refine z_iadd hG dX11_lead_53 ?_
  refine z_aload_n hG dX11_lead_54 rfl 2 rfl ?_
  obtain ⟨j13, ej13, hw⟩ := hw
  refine z_getr (kq := 6) hG f_X11_37 h0 rfl ej13 rfl (by decide) dX11_lead_55 (fun hj13 => ?_)
  refine z_calli hG (z_runV (As := []) (st := [.int (x8 + x12)]) hG k_X11_159 (MX6_circle l hj13 hw) ⟨(Nat.le_of_ble_eq_true rfl), (Nat.le_of_ble_eq_true rfl)⟩ hj13 (T := TX6) (N := 8) rfl (by decide) rfl (Nat.le_of_ble_eq_true rfl) dX11_lead_58 ⟨Nat.zero_le _, Nat.zero_le _⟩ rfl) (fun r15 σ14 hw => ?_)
  obtain ⟨x16, ex16⟩ : ∃ y : Int32, y = x8 + x12 := ⟨_, rfl⟩
  refine zst (st' := [.int r15, .int x16]) (by rw [ex16]) ?_
  have hw := hw x16 ex16
  refine z_calli hG (z_runS (As := [.int x16, .int r15]) (st := []) hG k_X11_138 (MX11_modulo l hw) ⟨(Nat.le_of_ble_eq_true rfl), (Nat.le_of_ble_eq_true rfl)⟩ rfl (Nat.le_of_ble_eq_true rfl) dX11_lead_61 ⟨Nat.zero_le _, Nat.zero_le _⟩ rfl) (fun r18 σ17 hw => ?_)
  refine z_iload_n hG dX11_lead_64 rfl 0 rfl ?_
  refine z_isub hG dX11_lead_65 ?_
  exact z_iret hG rfl rfl dX11_lead_66 hw
-- TypeWheelTelegraph.ticksToPass(IIII)I
def wX11_ticksToPass (ln : Nat → Nat) (σ : zS) (v0 : Int32) (v1 : Int32) (v2 : Int32) (v3 : Int32) (Q : Int32 → zS → Prop) : Prop := ∀ x1 : Int32, x1 = ((1000 * v0) - v1) - 1 → wX11_modulo ln σ x1 v3 (fun r3 σ2 => ∀ x4 : Int32, x4 = r3 + 1 → ((v2 ≤ 0 → Q 0 σ2) ∧ (¬ v2 ≤ 0 → ¬ v2 = 0 ∧ Q (((x4 + v2) - 1) / v2) σ2)))
abbrev rX11_ticksToPass : Room := { frames := 2, cells := 0, slots := 0, locals := 43 }
set_option maxRecDepth 100000 in
set_option maxHeartbeats 4000000 in
theorem MX11_ticksToPass (l : Launch) {E : zE} {Y : zY} {σ : zS} {v0 : Int32} {v1 : Int32} {v2 : Int32} {v3 : Int32} {Q : Int32 → zS → Prop} (hw : wX11_ticksToPass (zln Y) σ v0 v1 v2 v3 Q) : ∀ sz, Met l yX11_ticksToPass (zw yX11_ticksToPass cX11_ticksToPass 5 (some .int)) rX11_ticksToPass (zPc E Y σ sz [.int v0, .int v1, .int v2, .int v3]) (va_Qi Q (zB E Y sz) (zA Y sz)) 0 0 (zA Y sz) := by
  refine z_met (own := RX11) (Qc := fun sz => va_Qi Q (zB E Y sz) (zA Y sz)) (by decide +kernel) rfl (Nat.le_of_ble_eq_true rfl) ?_
  intro p e s m args below meth c hG hinit
  unfold wX11_ticksToPass at hw
  refine zlv (lv' := [(0, .int v0), (1, .int v1), (2, .int v2), (3, .int v3)]) rfl ?_
  refine z_sipush (v := 1000) hG dX11_ticksToPass_0 (by decide) ?_
  refine z_iload_n hG dX11_ticksToPass_3 rfl 0 rfl ?_
  refine z_imul hG dX11_ticksToPass_4 ?_
  refine z_iload_n hG dX11_ticksToPass_5 rfl 1 rfl ?_
  refine z_isub hG dX11_ticksToPass_6 ?_
  refine z_iconst (v := 1) hG dX11_ticksToPass_7 (by decide) ?_
  refine z_isub hG dX11_ticksToPass_8 ?_
  refine z_iload_n hG dX11_ticksToPass_9 rfl 3 rfl ?_
  obtain ⟨x1, ex1⟩ : ∃ y : Int32, y = ((1000 * v0) - v1) - 1 := ⟨_, rfl⟩
  refine zst (st' := [.int v3, .int x1]) (by rw [ex1]) ?_
  have hw := hw x1 ex1
  refine z_calli hG (z_runS (As := [.int x1, .int v3]) (st := []) hG k_X11_138 (MX11_modulo l hw) ⟨(Nat.le_of_ble_eq_true rfl), (Nat.le_of_ble_eq_true rfl)⟩ rfl (Nat.le_of_ble_eq_true rfl) dX11_ticksToPass_10 ⟨Nat.zero_le _, Nat.zero_le _⟩ rfl) (fun r3 σ2 hw => ?_)
  refine z_iconst (v := 1) hG dX11_ticksToPass_13 (by decide) ?_
  refine z_iadd hG dX11_ticksToPass_14 ?_
  refine z_topi (fun x4 ex4 => ?_)
  have hw := hw x4 ex4
  refine z_istore (lv' := [(4, .int x4), (0, .int v0), (1, .int v1), (2, .int v2), (3, .int v3)]) hG dX11_ticksToPass_15 (by decide) rfl ?_
  refine z_iload_n hG dX11_ticksToPass_17 rfl 3 rfl ?_
  refine z_if_le (tgt := 32) hG dX11_ticksToPass_18 (by decide) (fun c6 => ?_) (fun c6 => ?_)
  · have hw := hw.1 c6
    refine z_iconst (v := 0) hG dX11_ticksToPass_32 (by decide) ?_
    exact z_iret hG rfl rfl dX11_ticksToPass_33 hw
  · have hw := hw.2 c6
    refine z_iload hG dX11_ticksToPass_21 0 rfl ?_
    refine z_iload_n hG dX11_ticksToPass_23 rfl 3 rfl ?_
    refine z_iadd hG dX11_ticksToPass_24 ?_
    refine z_iconst (v := 1) hG dX11_ticksToPass_25 (by decide) ?_
    refine z_isub hG dX11_ticksToPass_26 ?_
    refine z_iload_n hG dX11_ticksToPass_27 rfl 3 rfl ?_
    obtain ⟨q5, hw⟩ := hw
    refine z_idiv hG dX11_ticksToPass_28 q5 ?_
    refine z_goto (tgt := 33) hG dX11_ticksToPass_29 (by decide) ?_
    exact z_iret hG rfl rfl dX11_ticksToPass_33 hw
-- TypeWheelTelegraph.ticksToSend(LTypeWheelTelegraph$Line;LTypeWheelTelegraph$Office;)I
def wX11_ticksToSend_20 (ln : Nat → Nat) (Q : Int32 → zS → Prop) : Nat → Nat → Nat → Int32 → Int32 → Int32 → Int32 → zS → Prop
  | 0, _, _, _, _, _, _, _ => False
  | n + 1, t1, t2, v3, v4, v5, v6, σ => ∃ j1 : Nat, gr σ t1 1 = some j1 ∧ wX9_size ln σ j1 (fun r3 σ2 => ((r3 ≤ v6 → Q v5 σ2) ∧ (¬ r3 ≤ v6 → ∃ j4 : Nat, gr σ2 t1 1 = some j4 ∧ wX9_get ln σ2 j4 v6 (fun r6 σ5 => ∀ x7 : Int32, x7 = gi σ5 t2 1 → wX11_ticksToPass ln σ5 r6 v4 x7 v3 (fun r9 σ8 => ∀ x10 : Int32, x10 = v4 + (r9 * (gi σ8 t2 1)) → wX11_modulo ln σ8 x10 v3 (fun r12 σ11 => ∀ x13 : Int32, x13 = v5 + r9 → ∀ x14 : Int32, x14 = v6 + 1 → (wX11_ticksToSend_20 ln Q n) t1 t2 v3 r12 x13 x14 σ11))))))
def wX11_ticksToSend (ln : Nat → Nat) (σ : zS) (t0 : Nat) (t1 : Nat) (t2 : Nat) (Q : Int32 → zS → Prop) : Prop := ∃ j1 : Nat, gr σ t0 6 = some j1 ∧ wX6_circle ln σ j1 (fun r3 σ2 => ∀ x4 : Int32, x4 = gi σ2 t2 0 → ∃ n5 : Nat, wX11_ticksToSend_20 ln Q n5 t1 t2 r3 x4 0 0 σ2)
abbrev rX11_ticksToSend : Room := { frames := 3, cells := 0, slots := 0, locals := 67 }
set_option maxRecDepth 100000 in
set_option maxHeartbeats 4000000 in
theorem BX11_ticksToSend_20 {l : Launch} {E : zE} {Y : zY} {p : Program} {e : Env} {s : State} {m : MethodId} {args : Array Value} {below : List Frame} {meth : Method} {c : Code} (hG : zG E p l s m args meth c cX11_ticksToSend 8 RX11 (some .int) (zA Y s.heap.size)) {Q : Int32 → zS → Prop} : ∀ (n : Nat) (t1 : Nat) (t2 : Nat) (v3 : Int32) (v4 : Int32) (v5 : Int32) (v6 : Int32) (σ : zS), wX11_ticksToSend_20 (zln Y) Q n t1 t2 v3 v4 v5 v6 σ → zT Y 2 t1 → zT Y 4 t2 → WW E Y σ p l e rX11_ticksToSend s m args below meth c (zA Y s.heap.size) 8 0 0 (MQ below (va_Qi Q (zB E Y s.heap.size) (zA Y s.heap.size)) args s 0 0 (zA Y s.heap.size)) [(1, .ref (za Y t1)), (2, .ref (za Y t2)), (3, .int v3), (4, .int v4), (5, .int v5), (6, .int v6)] 20 [] := by
  intro n
  induction n with
  | zero => intro t1 t2 v3 v4 v5 v6 σ hw
            exact hw.elim
  | succ n ih =>
    intro t1 t2 v3 v4 v5 v6 σ hw h1 h2
    rw [wX11_ticksToSend_20] at hw
    refine z_iload hG dX11_ticksToSend_20 5 rfl ?_
    refine z_aload_n hG dX11_ticksToSend_22 rfl 0 rfl ?_
    obtain ⟨j1, ej1, hw⟩ := hw
    refine z_getr (kq := 9) hG f_X11_178 h1 rfl ej1 rfl (by decide) dX11_ticksToSend_23 (fun hj1 => ?_)
    refine z_calli hG (z_runV (As := []) (st := [.int v6]) hG k_X11_67 (MX9_size l hj1 hw) ⟨(Nat.le_of_ble_eq_true rfl), (Nat.le_of_ble_eq_true rfl)⟩ hj1 (T := TX9) (N := 2) rfl (by decide) rfl (Nat.le_of_ble_eq_true rfl) dX11_ticksToSend_26 ⟨Nat.zero_le _, Nat.zero_le _⟩ rfl) (fun r3 σ2 hw => ?_)
    refine z_icmp_ge (tgt := 82) hG dX11_ticksToSend_29 (by decide) (fun c15 => ?_) (fun c15 => ?_)
    · have hw := hw.1 c15
      refine z_iload hG dX11_ticksToSend_82 4 rfl ?_
      exact z_iret hG rfl rfl dX11_ticksToSend_84 hw
    · have hw := hw.2 c15
      refine z_aload_n hG dX11_ticksToSend_32 rfl 0 rfl ?_
      obtain ⟨j4, ej4, hw⟩ := hw
      refine z_getr (kq := 9) hG f_X11_178 h1 rfl ej4 rfl (by decide) dX11_ticksToSend_33 (fun hj4 => ?_)
      refine z_iload hG dX11_ticksToSend_36 5 rfl ?_
      refine z_calli hG (z_runV (As := [.int v6]) (st := []) hG k_X11_189 (MX9_get l hj4 hw) ⟨(Nat.le_of_ble_eq_true rfl), (Nat.le_of_ble_eq_true rfl)⟩ hj4 (T := TX9) (N := 2) rfl (by decide) rfl (Nat.le_of_ble_eq_true rfl) dX11_ticksToSend_38 ⟨Nat.zero_le _, Nat.zero_le _⟩ rfl) (fun r6 σ5 hw => ?_)
      refine z_iload hG dX11_ticksToSend_41 3 rfl ?_
      refine z_aload_n hG dX11_ticksToSend_43 rfl 1 rfl ?_
      refine z_geti hG f_X11_132 h2 rfl dX11_ticksToSend_44 ?_
      refine z_iload_n hG dX11_ticksToSend_47 rfl 2 rfl ?_
      obtain ⟨x7, ex7⟩ : ∃ y : Int32, y = gi σ5 t2 1 := ⟨_, rfl⟩
      refine zst (st' := [.int v3, .int x7, .int v4, .int r6]) (by rw [ex7]) ?_
      have hw := hw x7 ex7
      refine z_calli hG (z_runS (As := [.int r6, .int v4, .int x7, .int v3]) (st := []) hG k_X11_193 (MX11_ticksToPass l hw) ⟨(Nat.le_of_ble_eq_true rfl), (Nat.le_of_ble_eq_true rfl)⟩ rfl (Nat.le_of_ble_eq_true rfl) dX11_ticksToSend_48 ⟨Nat.zero_le _, Nat.zero_le _⟩ rfl) (fun r9 σ8 hw => ?_)
      refine z_istore (lv' := [(7, .int r9), (1, .ref (za Y t1)), (2, .ref (za Y t2)), (3, .int v3), (4, .int v4), (5, .int v5), (6, .int v6)]) hG dX11_ticksToSend_51 (by decide) rfl ?_
      refine z_iload hG dX11_ticksToSend_53 4 rfl ?_
      refine z_iload hG dX11_ticksToSend_55 0 rfl ?_
      refine z_aload_n hG dX11_ticksToSend_57 rfl 2 rfl ?_
      refine z_geti hG f_X11_132 h2 rfl dX11_ticksToSend_58 ?_
      refine z_imul hG dX11_ticksToSend_61 ?_
      refine z_iadd hG dX11_ticksToSend_62 ?_
      refine z_iload_n hG dX11_ticksToSend_63 rfl 3 rfl ?_
      obtain ⟨x10, ex10⟩ : ∃ y : Int32, y = v4 + (r9 * (gi σ8 t2 1)) := ⟨_, rfl⟩
      refine zst (st' := [.int v3, .int x10]) (by rw [ex10]) ?_
      have hw := hw x10 ex10
      refine z_calli hG (z_runS (As := [.int x10, .int v3]) (st := []) hG k_X11_138 (MX11_modulo l hw) ⟨(Nat.le_of_ble_eq_true rfl), (Nat.le_of_ble_eq_true rfl)⟩ rfl (Nat.le_of_ble_eq_true rfl) dX11_ticksToSend_64 ⟨Nat.zero_le _, Nat.zero_le _⟩ rfl) (fun r12 σ11 hw => ?_)
      refine z_istore (lv' := [(4, .int r12), (7, .int r9), (1, .ref (za Y t1)), (2, .ref (za Y t2)), (3, .int v3), (5, .int v5), (6, .int v6)]) hG dX11_ticksToSend_67 (by decide) rfl ?_
      refine z_iload hG dX11_ticksToSend_69 5 rfl ?_
      refine z_iload hG dX11_ticksToSend_71 1 rfl ?_
      refine z_iadd hG dX11_ticksToSend_73 ?_
      refine z_topi (fun x13 ex13 => ?_)
      have hw := hw x13 ex13
      refine z_istore (lv' := [(5, .int x13), (4, .int r12), (7, .int r9), (1, .ref (za Y t1)), (2, .ref (za Y t2)), (3, .int v3), (6, .int v6)]) hG dX11_ticksToSend_74 (by decide) rfl ?_
      obtain ⟨x14, ex14⟩ : ∃ y : Int32, y = v6 + 1 := ⟨_, rfl⟩
      have hw := hw x14 ex14
      refine z_iinc (v := x14) (lv' := [(6, .int x14), (5, .int x13), (4, .int r12), (7, .int r9), (1, .ref (za Y t1)), (2, .ref (za Y t2)), (3, .int v3)]) hG dX11_ticksToSend_76 6 rfl (by rw [ex14]; rfl) (by decide) rfl ?_
      refine z_goto (tgt := 20) hG dX11_ticksToSend_79 (by decide) ?_
      refine zpick [4, 5, 6, 2, 1, 0] (lv' := [(1, .ref (za Y t1)), (2, .ref (za Y t2)), (3, .int v3), (4, .int r12), (5, .int x13), (6, .int x14)]) rfl ?_
      exact ih t1 t2 v3 r12 x13 x14 σ11 hw h1 h2
set_option maxRecDepth 100000 in
set_option maxHeartbeats 4000000 in
theorem MX11_ticksToSend (l : Launch) {E : zE} {Y : zY} {σ : zS} {t0 : Nat} {t1 : Nat} {t2 : Nat} (h0 : zT Y 11 t0) (h1 : zT Y 2 t1) (h2 : zT Y 4 t2) {Q : Int32 → zS → Prop} (hw : wX11_ticksToSend (zln Y) σ t0 t1 t2 Q) : ∀ sz, Met l yX11_ticksToSend (zw yX11_ticksToSend cX11_ticksToSend 8 (some .int)) rX11_ticksToSend (zPc E Y σ sz [.ref (za Y t0), .ref (za Y t1), .ref (za Y t2)]) (va_Qi Q (zB E Y sz) (zA Y sz)) 0 0 (zA Y sz) := by
  refine z_met (own := RX11) (Qc := fun sz => va_Qi Q (zB E Y sz) (zA Y sz)) (by decide +kernel) rfl (Nat.le_of_ble_eq_true rfl) ?_
  intro p e s m args below meth c hG hinit
  unfold wX11_ticksToSend at hw
  refine zlv (lv' := [(0, .ref (za Y t0)), (1, .ref (za Y t1)), (2, .ref (za Y t2))]) rfl ?_
  refine z_aload_n hG dX11_ticksToSend_0 rfl 0 rfl ?_
  obtain ⟨j1, ej1, hw⟩ := hw
  refine z_getr (kq := 6) hG f_X11_37 h0 rfl ej1 rfl (by decide) dX11_ticksToSend_1 (fun hj1 => ?_)
  refine z_calli hG (z_runV (As := []) (st := []) hG k_X11_159 (MX6_circle l hj1 hw) ⟨(Nat.le_of_ble_eq_true rfl), (Nat.le_of_ble_eq_true rfl)⟩ hj1 (T := TX6) (N := 8) rfl (by decide) rfl (Nat.le_of_ble_eq_true rfl) dX11_ticksToSend_4 ⟨Nat.zero_le _, Nat.zero_le _⟩ rfl) (fun r3 σ2 hw => ?_)
  refine z_istore_n (lv' := [(3, .int r3), (0, .ref (za Y t0)), (1, .ref (za Y t1)), (2, .ref (za Y t2))]) hG dX11_ticksToSend_7 rfl (by decide) rfl ?_
  refine z_aload_n hG dX11_ticksToSend_8 rfl 3 rfl ?_
  refine z_geti hG f_X11_127 h2 rfl dX11_ticksToSend_9 ?_
  refine z_topi (fun x4 ex4 => ?_)
  have hw := hw x4 ex4
  refine z_istore (lv' := [(4, .int x4), (3, .int r3), (0, .ref (za Y t0)), (1, .ref (za Y t1)), (2, .ref (za Y t2))]) hG dX11_ticksToSend_12 (by decide) rfl ?_
  refine z_iconst (v := 0) hG dX11_ticksToSend_14 (by decide) ?_
  refine z_istore (lv' := [(5, .int 0), (4, .int x4), (3, .int r3), (0, .ref (za Y t0)), (1, .ref (za Y t1)), (2, .ref (za Y t2))]) hG dX11_ticksToSend_15 (by decide) rfl ?_
  refine z_iconst (v := 0) hG dX11_ticksToSend_17 (by decide) ?_
  refine z_istore (lv' := [(6, .int 0), (5, .int 0), (4, .int x4), (3, .int r3), (0, .ref (za Y t0)), (1, .ref (za Y t1)), (2, .ref (za Y t2))]) hG dX11_ticksToSend_18 (by decide) rfl ?_
  obtain ⟨n5, hw⟩ := hw
  refine zpick [5, 6, 3, 2, 1, 0] (lv' := [(1, .ref (za Y t1)), (2, .ref (za Y t2)), (3, .int r3), (4, .int x4), (5, .int 0), (6, .int 0)]) rfl ?_
  exact BX11_ticksToSend_20 hG n5 t1 t2 r3 x4 0 0 σ2 hw h1 h2
-- TypeWheelTelegraph.sender()I
def wX11_sender (ln : Nat → Nat) (σ : zS) (t0 : Nat) (Q : Int32 → zS → Prop) : Prop := ∃ j1 : Nat, gr σ t0 3 = some j1 ∧ Q (gi σ j1 3) σ
abbrev rX11_sender : Room := { frames := 0, cells := 0, slots := 0, locals := 0 }
set_option maxRecDepth 100000 in
set_option maxHeartbeats 4000000 in
theorem MX11_sender (l : Launch) {E : zE} {Y : zY} {σ : zS} {t0 : Nat} (h0 : zT Y 11 t0) {Q : Int32 → zS → Prop} (hw : wX11_sender (zln Y) σ t0 Q) : ∀ sz, Met l yX11_sender (zw yX11_sender cX11_sender 1 (some .int)) rX11_sender (zPc E Y σ sz [.ref (za Y t0)]) (va_Qi Q (zB E Y sz) (zA Y sz)) 0 0 (zA Y sz) := by
  refine z_met (own := RX11) (Qc := fun sz => va_Qi Q (zB E Y sz) (zA Y sz)) (by decide +kernel) rfl (Nat.le_of_ble_eq_true rfl) ?_
  intro p e s m args below meth c hG hinit
  unfold wX11_sender at hw
  refine zlv (lv' := [(0, .ref (za Y t0))]) rfl ?_
  refine z_aload_n hG dX11_sender_0 rfl 0 rfl ?_
  obtain ⟨j1, ej1, hw⟩ := hw
  refine z_getr (kq := 3) hG f_X11_53 h0 rfl ej1 rfl (by decide) dX11_sender_1 (fun hj1 => ?_)
  refine z_geti hG f_X11_197 hj1 rfl dX11_sender_4 ?_
  exact z_iret hG rfl rfl dX11_sender_7 hw
-- TypeWheelTelegraph.isWaiting()Z
def wX11_isWaiting (ln : Nat → Nat) (σ : zS) (t0 : Nat) (Q : Int32 → zS → Prop) : Prop := ∃ j1 : Nat, gr σ t0 3 = some j1 ∧ ∀ x2 : Int32, x2 = gi σ j1 4 → zB1 x2 ∧ Q x2 σ
abbrev rX11_isWaiting : Room := { frames := 0, cells := 0, slots := 0, locals := 0 }
set_option maxRecDepth 100000 in
set_option maxHeartbeats 4000000 in
theorem MX11_isWaiting (l : Launch) {E : zE} {Y : zY} {σ : zS} {t0 : Nat} (h0 : zT Y 11 t0) {Q : Int32 → zS → Prop} (hw : wX11_isWaiting (zln Y) σ t0 Q) : ∀ sz, Met l yX11_isWaiting (zw yX11_isWaiting cX11_isWaiting 1 (some .boolean)) rX11_isWaiting (zPc E Y σ sz [.ref (za Y t0)]) (va_Qi Q (zB E Y sz) (zA Y sz)) 0 0 (zA Y sz) := by
  refine z_met (own := RX11) (Qc := fun sz => va_Qi Q (zB E Y sz) (zA Y sz)) (by decide +kernel) rfl (Nat.le_of_ble_eq_true rfl) ?_
  intro p e s m args below meth c hG hinit
  unfold wX11_isWaiting at hw
  refine zlv (lv' := [(0, .ref (za Y t0))]) rfl ?_
  refine z_aload_n hG dX11_isWaiting_0 rfl 0 rfl ?_
  obtain ⟨j1, ej1, hw⟩ := hw
  refine z_getr (kq := 3) hG f_X11_53 h0 rfl ej1 rfl (by decide) dX11_isWaiting_1 (fun hj1 => ?_)
  refine z_geti hG f_X11_200 hj1 rfl dX11_isWaiting_4 ?_
  refine z_topi (fun x2 ex2 => ?_)
  have hw := hw x2 ex2
  obtain ⟨q3, hw⟩ := hw
  exact z_iret hG rfl (zN_b q3).1 dX11_isWaiting_7 hw
-- TypeWheelTelegraph.sentOfLine()I
def wX11_sentOfLine (ln : Nat → Nat) (σ : zS) (t0 : Nat) (Q : Int32 → zS → Prop) : Prop := ∃ j1 : Nat, gr σ t0 3 = some j1 ∧ Q (gi σ j1 6) σ
abbrev rX11_sentOfLine : Room := { frames := 0, cells := 0, slots := 0, locals := 0 }
set_option maxRecDepth 100000 in
set_option maxHeartbeats 4000000 in
theorem MX11_sentOfLine (l : Launch) {E : zE} {Y : zY} {σ : zS} {t0 : Nat} (h0 : zT Y 11 t0) {Q : Int32 → zS → Prop} (hw : wX11_sentOfLine (zln Y) σ t0 Q) : ∀ sz, Met l yX11_sentOfLine (zw yX11_sentOfLine cX11_sentOfLine 1 (some .int)) rX11_sentOfLine (zPc E Y σ sz [.ref (za Y t0)]) (va_Qi Q (zB E Y sz) (zA Y sz)) 0 0 (zA Y sz) := by
  refine z_met (own := RX11) (Qc := fun sz => va_Qi Q (zB E Y sz) (zA Y sz)) (by decide +kernel) rfl (Nat.le_of_ble_eq_true rfl) ?_
  intro p e s m args below meth c hG hinit
  unfold wX11_sentOfLine at hw
  refine zlv (lv' := [(0, .ref (za Y t0))]) rfl ?_
  refine z_aload_n hG dX11_sentOfLine_0 rfl 0 rfl ?_
  obtain ⟨j1, ej1, hw⟩ := hw
  refine z_getr (kq := 3) hG f_X11_53 h0 rfl ej1 rfl (by decide) dX11_sentOfLine_1 (fun hj1 => ?_)
  refine z_geti hG f_X11_204 hj1 rfl dX11_sentOfLine_4 ?_
  exact z_iret hG rfl rfl dX11_sentOfLine_7 hw
-- TypeWheelTelegraph.repetition()I
def wX11_repetition (ln : Nat → Nat) (σ : zS) (t0 : Nat) (Q : Int32 → zS → Prop) : Prop := ∃ j1 : Nat, gr σ t0 3 = some j1 ∧ Q (gi σ j1 7) σ
abbrev rX11_repetition : Room := { frames := 0, cells := 0, slots := 0, locals := 0 }
set_option maxRecDepth 100000 in
set_option maxHeartbeats 4000000 in
theorem MX11_repetition (l : Launch) {E : zE} {Y : zY} {σ : zS} {t0 : Nat} (h0 : zT Y 11 t0) {Q : Int32 → zS → Prop} (hw : wX11_repetition (zln Y) σ t0 Q) : ∀ sz, Met l yX11_repetition (zw yX11_repetition cX11_repetition 1 (some .int)) rX11_repetition (zPc E Y σ sz [.ref (za Y t0)]) (va_Qi Q (zB E Y sz) (zA Y sz)) 0 0 (zA Y sz) := by
  refine z_met (own := RX11) (Qc := fun sz => va_Qi Q (zB E Y sz) (zA Y sz)) (by decide +kernel) rfl (Nat.le_of_ble_eq_true rfl) ?_
  intro p e s m args below meth c hG hinit
  unfold wX11_repetition at hw
  refine zlv (lv' := [(0, .ref (za Y t0))]) rfl ?_
  refine z_aload_n hG dX11_repetition_0 rfl 0 rfl ?_
  obtain ⟨j1, ej1, hw⟩ := hw
  refine z_getr (kq := 3) hG f_X11_53 h0 rfl ej1 rfl (by decide) dX11_repetition_1 (fun hj1 => ?_)
  refine z_geti hG f_X11_207 hj1 rfl dX11_repetition_4 ?_
  exact z_iret hG rfl rfl dX11_repetition_7 hw
-- TypeWheelTelegraph$Records.size()I
def wX8_size (ln : Nat → Nat) (σ : zS) (t0 : Nat) (Q : Int32 → zS → Prop) : Prop := Q (gi σ t0 3) σ
abbrev rX8_size : Room := { frames := 0, cells := 0, slots := 0, locals := 0 }
set_option maxRecDepth 100000 in
set_option maxHeartbeats 4000000 in
theorem MX8_size (l : Launch) {E : zE} {Y : zY} {σ : zS} {t0 : Nat} (h0 : zT Y 8 t0) {Q : Int32 → zS → Prop} (hw : wX8_size (zln Y) σ t0 Q) : ∀ sz, Met l yX8_size (zw yX8_size cX8_size 1 (some .int)) rX8_size (zPc E Y σ sz [.ref (za Y t0)]) (va_Qi Q (zB E Y sz) (zA Y sz)) 0 0 (zA Y sz) := by
  refine z_met (own := RX8) (Qc := fun sz => va_Qi Q (zB E Y sz) (zA Y sz)) (by decide +kernel) rfl (Nat.le_of_ble_eq_true rfl) ?_
  intro p e s m args below meth c hG hinit
  unfold wX8_size at hw
  refine zlv (lv' := [(0, .ref (za Y t0))]) rfl ?_
  refine z_aload_n hG dX8_size_0 rfl 0 rfl ?_
  refine z_geti hG f_X8_25 h0 rfl dX8_size_1 ?_
  exact z_iret hG rfl rfl dX8_size_4 hw
-- TypeWheelTelegraph.underWay()I
def wX11_underWay (ln : Nat → Nat) (σ : zS) (t0 : Nat) (Q : Int32 → zS → Prop) : Prop := ∃ j1 : Nat, gr σ t0 3 = some j1 ∧ ∃ j2 : Nat, gr σ j1 14 = some j2 ∧ wX8_size ln σ j2 (fun r4 σ3 => Q r4 σ3)
abbrev rX11_underWay : Room := { frames := 1, cells := 0, slots := 0, locals := 20 }
set_option maxRecDepth 100000 in
set_option maxHeartbeats 4000000 in
theorem MX11_underWay (l : Launch) {E : zE} {Y : zY} {σ : zS} {t0 : Nat} (h0 : zT Y 11 t0) {Q : Int32 → zS → Prop} (hw : wX11_underWay (zln Y) σ t0 Q) : ∀ sz, Met l yX11_underWay (zw yX11_underWay cX11_underWay 1 (some .int)) rX11_underWay (zPc E Y σ sz [.ref (za Y t0)]) (va_Qi Q (zB E Y sz) (zA Y sz)) 0 0 (zA Y sz) := by
  refine z_met (own := RX11) (Qc := fun sz => va_Qi Q (zB E Y sz) (zA Y sz)) (by decide +kernel) rfl (Nat.le_of_ble_eq_true rfl) ?_
  intro p e s m args below meth c hG hinit
  unfold wX11_underWay at hw
  refine zlv (lv' := [(0, .ref (za Y t0))]) rfl ?_
  refine z_aload_n hG dX11_underWay_0 rfl 0 rfl ?_
  obtain ⟨j1, ej1, hw⟩ := hw
  refine z_getr (kq := 3) hG f_X11_53 h0 rfl ej1 rfl (by decide) dX11_underWay_1 (fun hj1 => ?_)
  obtain ⟨j2, ej2, hw⟩ := hw
  refine z_getr (kq := 8) hG f_X11_210 hj1 rfl ej2 rfl (by decide) dX11_underWay_4 (fun hj2 => ?_)
  refine z_calli hG (z_runV (As := []) (st := []) hG k_X11_214 (MX8_size l hj2 hw) ⟨(Nat.le_of_ble_eq_true rfl), (Nat.le_of_ble_eq_true rfl)⟩ hj2 (T := TX8) (N := 4) rfl (by decide) rfl (Nat.le_of_ble_eq_true rfl) dX11_underWay_7 ⟨Nat.zero_le _, Nat.zero_le _⟩ rfl) (fun r4 σ3 hw => ?_)
  exact z_iret hG rfl rfl dX11_underWay_10 hw
-- TypeWheelTelegraph$Machine.nextPosition()I
def wX3_nextPosition (ln : Nat → Nat) (σ : zS) (t0 : Nat) (Q : Int32 → zS → Prop) : Prop := (((gi σ t0 3) = (-1) → Q (-1) σ) ∧ (¬ (gi σ t0 3) = (-1) → (((gi σ t0 4) = 0 → ∃ j1 : Nat, gr σ t0 0 = some j1 ∧ ∀ x2 : Int32, x2 = gi σ t0 3 → wX6_desk ln σ j1 x2 (fun r4 σ3 => ∀ x5 : Int32, x5 = gi σ3 t0 3 → wX3_office ln σ3 t0 x5 (fun r7 σ6 => ∀ x8 : Int32, x8 = gi σ6 r7 2 → wX0_line ln σ6 r4 x8 (fun r10 σ9 => (r10 = none → Q (-1) σ9) ∧ (∀ j11 : Nat, r10 = some j11 → ∃ j12 : Nat, gr σ9 j11 1 = some j12 ∧ ∀ x13 : Int32, x13 = gi σ9 t0 6 → wX9_get ln σ9 j12 x13 (fun r15 σ14 => Q r15 σ14)))))) ∧ (¬ (gi σ t0 4) = 0 → Q (-1) σ))))
abbrev rX3_nextPosition : Room := { frames := 1, cells := 0, slots := 0, locals := 21 }
set_option maxRecDepth 100000 in
set_option maxHeartbeats 4000000 in
theorem MX3_nextPosition (l : Launch) {E : zE} {Y : zY} {σ : zS} {t0 : Nat} (h0 : zT Y 3 t0) {Q : Int32 → zS → Prop} (hw : wX3_nextPosition (zln Y) σ t0 Q) : ∀ sz, Met l yX3_nextPosition (zw yX3_nextPosition cX3_nextPosition 2 (some .int)) rX3_nextPosition (zPc E Y σ sz [.ref (za Y t0)]) (va_Qi Q (zB E Y sz) (zA Y sz)) 0 0 (zA Y sz) := by
  refine z_met (own := RX3) (Qc := fun sz => va_Qi Q (zB E Y sz) (zA Y sz)) (by decide +kernel) rfl (Nat.le_of_ble_eq_true rfl) ?_
  intro p e s m args below meth c hG hinit
  unfold wX3_nextPosition at hw
  refine zlv (lv' := [(0, .ref (za Y t0))]) rfl ?_
  refine z_aload_n hG dX3_nextPosition_0 rfl 0 rfl ?_
  refine z_geti hG f_X3_9 h0 rfl dX3_nextPosition_1 ?_
  refine z_iconst (v := (-1)) hG dX3_nextPosition_4 (by decide) ?_
  refine z_icmp_eq (tgt := 15) hG dX3_nextPosition_5 (by decide) (fun c17 => ?_) (fun c17 => ?_)
  · have hw := hw.1 c17
    refine z_iconst (v := (-1)) hG dX3_nextPosition_15 (by decide) ?_
    exact z_iret hG rfl rfl dX3_nextPosition_16 hw
  · have hw := hw.2 c17
    refine z_aload_n hG dX3_nextPosition_8 rfl 0 rfl ?_
    refine z_geti hG f_X3_96 h0 rfl dX3_nextPosition_9 ?_
    refine z_if_eq (tgt := 17) hG dX3_nextPosition_12 (by decide) (fun c16 => ?_) (fun c16 => ?_)
    · have hw := hw.1 c16
      refine z_aload_n hG dX3_nextPosition_17 rfl 0 rfl ?_
      obtain ⟨j1, ej1, hw⟩ := hw
      refine z_getr (kq := 6) hG f_X3_55 h0 rfl ej1 rfl (by decide) dX3_nextPosition_18 (fun hj1 => ?_)
      refine z_aload_n hG dX3_nextPosition_21 rfl 0 rfl ?_
      refine z_geti hG f_X3_9 h0 rfl dX3_nextPosition_22 ?_
      refine z_topi (fun x2 ex2 => ?_)
      have hw := hw x2 ex2
      refine z_callr hG (z_runV (As := [.int x2]) (st := []) hG k_X3_230 (MX6_desk l hj1 hw) ⟨(Nat.le_of_ble_eq_true rfl), (Nat.le_of_ble_eq_true rfl)⟩ hj1 (T := TX6) (N := 8) rfl (by decide) rfl (Nat.le_of_ble_eq_true rfl) dX3_nextPosition_25 ⟨Nat.zero_le _, Nat.zero_le _⟩ rfl) (fun r4 σ3 hr4 hw => ?_)
      refine z_aload_n hG dX3_nextPosition_28 rfl 0 rfl ?_
      refine z_aload_n hG dX3_nextPosition_29 rfl 0 rfl ?_
      refine z_geti hG f_X3_9 h0 rfl dX3_nextPosition_30 ?_
      refine z_topi (fun x5 ex5 => ?_)
      have hw := hw x5 ex5
      refine z_callr hG (z_runV (As := [.int x5]) (st := [.ref (za Y r4)]) hG k_X3_170 (MX3_office l h0 hw) ⟨(Nat.le_of_ble_eq_true rfl), (Nat.le_of_ble_eq_true rfl)⟩ h0 (T := TX3) (N := 17) rfl (by decide) rfl (Nat.le_of_ble_eq_true rfl) dX3_nextPosition_33 ⟨Nat.zero_le _, Nat.zero_le _⟩ rfl) (fun r7 σ6 hr7 hw => ?_)
      refine z_geti hG f_X3_174 hr7 rfl dX3_nextPosition_36 ?_
      refine z_topi (fun x8 ex8 => ?_)
      have hw := hw x8 ex8
      refine z_calle hG (z_runV (As := [.int x8]) (st := []) hG k_X3_234 (MX0_line l hr4 hw) ⟨(Nat.le_of_ble_eq_true rfl), (Nat.le_of_ble_eq_true rfl)⟩ hr4 (T := TX0) (N := 4) rfl (by decide) rfl (Nat.le_of_ble_eq_true rfl) dX3_nextPosition_39 ⟨Nat.zero_le _, Nat.zero_le _⟩ rfl) (fun σ9 hw => ?_) (fun j11 σ9 hj11 hw => ?_)
      · have hw := hw.1 rfl
        refine z_astoreN_n (lv' := [(1, .null), (0, .ref (za Y t0))]) hG dX3_nextPosition_42 rfl (by decide) rfl ?_
        refine z_aloadN_n hG dX3_nextPosition_43 rfl 0 rfl ?_
        refine z_ifnonnull_no hG dX3_nextPosition_44 ?_
        refine z_iconst (v := (-1)) hG dX3_nextPosition_47 (by decide) ?_
        refine z_goto (tgt := 62) hG dX3_nextPosition_48 (by decide) ?_
        exact z_iret hG rfl rfl dX3_nextPosition_62 hw
      · have hw := hw.2 j11 rfl
        refine z_astore_n (lv' := [(1, .ref (za Y j11)), (0, .ref (za Y t0))]) hG dX3_nextPosition_42 rfl (by decide) rfl ?_
        refine z_aload_n hG dX3_nextPosition_43 rfl 0 rfl ?_
        refine z_ifnonnull_yes (tgt := 51) hG dX3_nextPosition_44 (by decide) ?_
        refine z_aload_n hG dX3_nextPosition_51 rfl 0 rfl ?_
        obtain ⟨j12, ej12, hw⟩ := hw
        refine z_getr (kq := 9) hG f_X3_240 hj11 rfl ej12 rfl (by decide) dX3_nextPosition_52 (fun hj12 => ?_)
        refine z_aload_n hG dX3_nextPosition_55 rfl 1 rfl ?_
        refine z_geti hG f_X3_103 h0 rfl dX3_nextPosition_56 ?_
        refine z_topi (fun x13 ex13 => ?_)
        have hw := hw x13 ex13
        refine z_calli hG (z_runV (As := [.int x13]) (st := []) hG k_X3_209 (MX9_get l hj12 hw) ⟨(Nat.le_of_ble_eq_true rfl), (Nat.le_of_ble_eq_true rfl)⟩ hj12 (T := TX9) (N := 2) rfl (by decide) rfl (Nat.le_of_ble_eq_true rfl) dX3_nextPosition_59 ⟨Nat.zero_le _, Nat.zero_le _⟩ rfl) (fun r15 σ14 hw => ?_)
        exact z_iret hG rfl rfl dX3_nextPosition_62 hw
    · have hw := hw.2 c16
      refine z_iconst (v := (-1)) hG dX3_nextPosition_15 (by decide) ?_
      exact z_iret hG rfl rfl dX3_nextPosition_16 hw
-- TypeWheelTelegraph.nextPulseIn()I
def wX11_nextPulseIn (ln : Nat → Nat) (σ : zS) (t0 : Nat) (Q : Int32 → zS → Prop) : Prop := ∃ j1 : Nat, gr σ t0 3 = some j1 ∧ wX3_nextPosition ln σ j1 (fun r3 σ2 => ((r3 = (-1) → Q (-1) σ2) ∧ (¬ r3 = (-1) → ∃ j4 : Nat, gr σ2 t0 3 = some j4 ∧ ∃ j5 : Nat, gr σ2 t0 3 = some j5 ∧ ∀ x6 : Int32, x6 = gi σ2 j5 3 → wX3_office ln σ2 j4 x6 (fun r8 σ7 => ∃ j9 : Nat, gr σ7 t0 6 = some j9 ∧ wX6_circle ln σ7 j9 (fun r11 σ10 => ∀ x12 : Int32, x12 = gi σ7 r8 1 → ∀ x13 : Int32, x13 = gi σ7 r8 0 → wX11_ticksToPass ln σ10 r3 x13 x12 r11 (fun r15 σ14 => Q r15 σ14))))))
abbrev rX11_nextPulseIn : Room := { frames := 3, cells := 0, slots := 0, locals := 67 }
set_option maxRecDepth 100000 in
set_option maxHeartbeats 4000000 in
theorem MX11_nextPulseIn (l : Launch) {E : zE} {Y : zY} {σ : zS} {t0 : Nat} (h0 : zT Y 11 t0) {Q : Int32 → zS → Prop} (hw : wX11_nextPulseIn (zln Y) σ t0 Q) : ∀ sz, Met l yX11_nextPulseIn (zw yX11_nextPulseIn cX11_nextPulseIn 3 (some .int)) rX11_nextPulseIn (zPc E Y σ sz [.ref (za Y t0)]) (va_Qi Q (zB E Y sz) (zA Y sz)) 0 0 (zA Y sz) := by
  refine z_met (own := RX11) (Qc := fun sz => va_Qi Q (zB E Y sz) (zA Y sz)) (by decide +kernel) rfl (Nat.le_of_ble_eq_true rfl) ?_
  intro p e s m args below meth c hG hinit
  unfold wX11_nextPulseIn at hw
  refine zlv (lv' := [(0, .ref (za Y t0))]) rfl ?_
  refine z_aload_n hG dX11_nextPulseIn_0 rfl 0 rfl ?_
  obtain ⟨j1, ej1, hw⟩ := hw
  refine z_getr (kq := 3) hG f_X11_53 h0 rfl ej1 rfl (by decide) dX11_nextPulseIn_1 (fun hj1 => ?_)
  refine z_calli hG (z_runV (As := []) (st := []) hG k_X11_217 (MX3_nextPosition l hj1 hw) ⟨(Nat.le_of_ble_eq_true rfl), (Nat.le_of_ble_eq_true rfl)⟩ hj1 (T := TX3) (N := 17) rfl (by decide) rfl (Nat.le_of_ble_eq_true rfl) dX11_nextPulseIn_4 ⟨Nat.zero_le _, Nat.zero_le _⟩ rfl) (fun r3 σ2 hw => ?_)
  refine z_istore_n (lv' := [(1, .int r3), (0, .ref (za Y t0))]) hG dX11_nextPulseIn_7 rfl (by decide) rfl ?_
  refine z_iload_n hG dX11_nextPulseIn_8 rfl 0 rfl ?_
  refine z_iconst (v := (-1)) hG dX11_nextPulseIn_9 (by decide) ?_
  refine z_icmp_ne (tgt := 15) hG dX11_nextPulseIn_10 (by decide) (fun c16 => ?_) (fun c16 => ?_)
  · have hw := hw.2 c16
    refine z_aload_n hG dX11_nextPulseIn_15 rfl 1 rfl ?_
    obtain ⟨j4, ej4, hw⟩ := hw
    refine z_getr (kq := 3) hG f_X11_53 h0 rfl ej4 rfl (by decide) dX11_nextPulseIn_16 (fun hj4 => ?_)
    refine z_aload_n hG dX11_nextPulseIn_19 rfl 1 rfl ?_
    obtain ⟨j5, ej5, hw⟩ := hw
    refine z_getr (kq := 3) hG f_X11_53 h0 rfl ej5 rfl (by decide) dX11_nextPulseIn_20 (fun hj5 => ?_)
    refine z_geti hG f_X11_197 hj5 rfl dX11_nextPulseIn_23 ?_
    refine z_topi (fun x6 ex6 => ?_)
    have hw := hw x6 ex6
    refine z_callr hG (z_runV (As := [.int x6]) (st := []) hG k_X11_220 (MX3_office l hj4 hw) ⟨(Nat.le_of_ble_eq_true rfl), (Nat.le_of_ble_eq_true rfl)⟩ hj4 (T := TX3) (N := 17) rfl (by decide) rfl (Nat.le_of_ble_eq_true rfl) dX11_nextPulseIn_26 ⟨Nat.zero_le _, Nat.zero_le _⟩ rfl) (fun r8 σ7 hr8 hw => ?_)
    refine z_astore_n (lv' := [(2, .ref (za Y r8)), (1, .int r3), (0, .ref (za Y t0))]) hG dX11_nextPulseIn_29 rfl (by decide) rfl ?_
    refine z_iload_n hG dX11_nextPulseIn_30 rfl 1 rfl ?_
    refine z_aload_n hG dX11_nextPulseIn_31 rfl 0 rfl ?_
    refine z_geti hG f_X11_127 hr8 rfl dX11_nextPulseIn_32 ?_
    refine z_aload_n hG dX11_nextPulseIn_35 rfl 0 rfl ?_
    refine z_geti hG f_X11_132 hr8 rfl dX11_nextPulseIn_36 ?_
    refine z_aload_n hG dX11_nextPulseIn_39 rfl 2 rfl ?_
    obtain ⟨j9, ej9, hw⟩ := hw
    refine z_getr (kq := 6) hG f_X11_37 h0 rfl ej9 rfl (by decide) dX11_nextPulseIn_40 (fun hj9 => ?_)
    refine z_calli hG (z_runV (As := []) (st := [.int (gi σ7 r8 1), .int (gi σ7 r8 0), .int r3]) hG k_X11_159 (MX6_circle l hj9 hw) ⟨(Nat.le_of_ble_eq_true rfl), (Nat.le_of_ble_eq_true rfl)⟩ hj9 (T := TX6) (N := 8) rfl (by decide) rfl (Nat.le_of_ble_eq_true rfl) dX11_nextPulseIn_43 ⟨Nat.zero_le _, Nat.zero_le _⟩ rfl) (fun r11 σ10 hw => ?_)
    obtain ⟨x12, ex12⟩ : ∃ y : Int32, y = gi σ7 r8 1 := ⟨_, rfl⟩
    refine zst (st' := [.int r11, .int x12, .int (gi σ7 r8 0), .int r3]) (by rw [ex12]) ?_
    have hw := hw x12 ex12
    obtain ⟨x13, ex13⟩ : ∃ y : Int32, y = gi σ7 r8 0 := ⟨_, rfl⟩
    refine zst (st' := [.int r11, .int x12, .int x13, .int r3]) (by rw [ex13]) ?_
    have hw := hw x13 ex13
    refine z_calli hG (z_runS (As := [.int r3, .int x13, .int x12, .int r11]) (st := []) hG k_X11_193 (MX11_ticksToPass l hw) ⟨(Nat.le_of_ble_eq_true rfl), (Nat.le_of_ble_eq_true rfl)⟩ rfl (Nat.le_of_ble_eq_true rfl) dX11_nextPulseIn_46 ⟨Nat.zero_le _, Nat.zero_le _⟩ rfl) (fun r15 σ14 hw => ?_)
    exact z_iret hG rfl rfl dX11_nextPulseIn_49 hw
  · have hw := hw.1 c16
    refine z_iconst (v := (-1)) hG dX11_nextPulseIn_13 (by decide) ?_
    exact z_iret hG rfl rfl dX11_nextPulseIn_14 hw
-- TypeWheelTelegraph$Machine.silentTicks()I
def wX3_silentTicks (ln : Nat → Nat) (σ : zS) (t0 : Nat) (Q : Int32 → zS → Prop) : Prop := Q ((gi σ t0 1) - (gi σ t0 8)) σ
abbrev rX3_silentTicks : Room := { frames := 0, cells := 0, slots := 0, locals := 0 }
set_option maxRecDepth 100000 in
set_option maxHeartbeats 4000000 in
theorem MX3_silentTicks (l : Launch) {E : zE} {Y : zY} {σ : zS} {t0 : Nat} (h0 : zT Y 3 t0) {Q : Int32 → zS → Prop} (hw : wX3_silentTicks (zln Y) σ t0 Q) : ∀ sz, Met l yX3_silentTicks (zw yX3_silentTicks cX3_silentTicks 1 (some .int)) rX3_silentTicks (zPc E Y σ sz [.ref (za Y t0)]) (va_Qi Q (zB E Y sz) (zA Y sz)) 0 0 (zA Y sz) := by
  refine z_met (own := RX3) (Qc := fun sz => va_Qi Q (zB E Y sz) (zA Y sz)) (by decide +kernel) rfl (Nat.le_of_ble_eq_true rfl) ?_
  intro p e s m args below meth c hG hinit
  unfold wX3_silentTicks at hw
  refine zlv (lv' := [(0, .ref (za Y t0))]) rfl ?_
  refine z_aload_n hG dX3_silentTicks_0 rfl 0 rfl ?_
  refine z_geti hG f_X3_59 h0 rfl dX3_silentTicks_1 ?_
  refine z_aload_n hG dX3_silentTicks_4 rfl 0 rfl ?_
  refine z_geti hG f_X3_90 h0 rfl dX3_silentTicks_5 ?_
  refine z_isub hG dX3_silentTicks_8 ?_
  exact z_iret hG rfl rfl dX3_silentTicks_9 hw
-- TypeWheelTelegraph.silence()I
def wX11_silence (ln : Nat → Nat) (σ : zS) (t0 : Nat) (Q : Int32 → zS → Prop) : Prop := ∃ j1 : Nat, gr σ t0 3 = some j1 ∧ (((gi σ j1 3) = (-1) → Q 0 σ) ∧ (¬ (gi σ j1 3) = (-1) → ∃ j2 : Nat, gr σ t0 3 = some j2 ∧ wX3_silentTicks ln σ j2 (fun r4 σ3 => Q r4 σ3)))
abbrev rX11_silence : Room := { frames := 1, cells := 0, slots := 0, locals := 20 }
set_option maxRecDepth 100000 in
set_option maxHeartbeats 4000000 in
theorem MX11_silence (l : Launch) {E : zE} {Y : zY} {σ : zS} {t0 : Nat} (h0 : zT Y 11 t0) {Q : Int32 → zS → Prop} (hw : wX11_silence (zln Y) σ t0 Q) : ∀ sz, Met l yX11_silence (zw yX11_silence cX11_silence 1 (some .int)) rX11_silence (zPc E Y σ sz [.ref (za Y t0)]) (va_Qi Q (zB E Y sz) (zA Y sz)) 0 0 (zA Y sz) := by
  refine z_met (own := RX11) (Qc := fun sz => va_Qi Q (zB E Y sz) (zA Y sz)) (by decide +kernel) rfl (Nat.le_of_ble_eq_true rfl) ?_
  intro p e s m args below meth c hG hinit
  unfold wX11_silence at hw
  refine zlv (lv' := [(0, .ref (za Y t0))]) rfl ?_
  refine z_aload_n hG dX11_silence_0 rfl 0 rfl ?_
  obtain ⟨j1, ej1, hw⟩ := hw
  refine z_getr (kq := 3) hG f_X11_53 h0 rfl ej1 rfl (by decide) dX11_silence_1 (fun hj1 => ?_)
  refine z_geti hG f_X11_197 hj1 rfl dX11_silence_4 ?_
  refine z_iconst (v := (-1)) hG dX11_silence_7 (by decide) ?_
  refine z_icmp_ne (tgt := 15) hG dX11_silence_8 (by decide) (fun c5 => ?_) (fun c5 => ?_)
  · have hw := hw.2 c5
    refine z_aload_n hG dX11_silence_15 rfl 0 rfl ?_
    obtain ⟨j2, ej2, hw⟩ := hw
    refine z_getr (kq := 3) hG f_X11_53 h0 rfl ej2 rfl (by decide) dX11_silence_16 (fun hj2 => ?_)
    refine z_calli hG (z_runV (As := []) (st := []) hG k_X11_223 (MX3_silentTicks l hj2 hw) ⟨(Nat.le_of_ble_eq_true rfl), (Nat.le_of_ble_eq_true rfl)⟩ hj2 (T := TX3) (N := 17) rfl (by decide) rfl (Nat.le_of_ble_eq_true rfl) dX11_silence_19 ⟨Nat.zero_le _, Nat.zero_le _⟩ rfl) (fun r4 σ3 hw => ?_)
    exact z_iret hG rfl rfl dX11_silence_22 hw
  · have hw := hw.1 c5
    refine z_iconst (v := 0) hG dX11_silence_11 (by decide) ?_
    refine z_goto (tgt := 22) hG dX11_silence_12 (by decide) ?_
    exact z_iret hG rfl rfl dX11_silence_22 hw
-- TypeWheelTelegraph.bufferLength()I
def wX11_bufferLength (ln : Nat → Nat) (σ : zS) (t0 : Nat) (Q : Int32 → zS → Prop) : Prop := ∃ j1 : Nat, gr σ t0 3 = some j1 ∧ ∃ j2 : Nat, gr σ j1 13 = some j2 ∧ ∃ j3 : Nat, gr σ j2 0 = some j3 ∧ wX9_size ln σ j3 (fun r5 σ4 => Q r5 σ4)
abbrev rX11_bufferLength : Room := { frames := 1, cells := 0, slots := 0, locals := 20 }
set_option maxRecDepth 100000 in
set_option maxHeartbeats 4000000 in
theorem MX11_bufferLength (l : Launch) {E : zE} {Y : zY} {σ : zS} {t0 : Nat} (h0 : zT Y 11 t0) {Q : Int32 → zS → Prop} (hw : wX11_bufferLength (zln Y) σ t0 Q) : ∀ sz, Met l yX11_bufferLength (zw yX11_bufferLength cX11_bufferLength 1 (some .int)) rX11_bufferLength (zPc E Y σ sz [.ref (za Y t0)]) (va_Qi Q (zB E Y sz) (zA Y sz)) 0 0 (zA Y sz) := by
  refine z_met (own := RX11) (Qc := fun sz => va_Qi Q (zB E Y sz) (zA Y sz)) (by decide +kernel) rfl (Nat.le_of_ble_eq_true rfl) ?_
  intro p e s m args below meth c hG hinit
  unfold wX11_bufferLength at hw
  refine zlv (lv' := [(0, .ref (za Y t0))]) rfl ?_
  refine z_aload_n hG dX11_bufferLength_0 rfl 0 rfl ?_
  obtain ⟨j1, ej1, hw⟩ := hw
  refine z_getr (kq := 3) hG f_X11_53 h0 rfl ej1 rfl (by decide) dX11_bufferLength_1 (fun hj1 => ?_)
  obtain ⟨j2, ej2, hw⟩ := hw
  refine z_getr (kq := 7) hG f_X11_226 hj1 rfl ej2 rfl (by decide) dX11_bufferLength_4 (fun hj2 => ?_)
  obtain ⟨j3, ej3, hw⟩ := hw
  refine z_getr (kq := 9) hG f_X11_230 hj2 rfl ej3 rfl (by decide) dX11_bufferLength_7 (fun hj3 => ?_)
  refine z_calli hG (z_runV (As := []) (st := []) hG k_X11_67 (MX9_size l hj3 hw) ⟨(Nat.le_of_ble_eq_true rfl), (Nat.le_of_ble_eq_true rfl)⟩ hj3 (T := TX9) (N := 2) rfl (by decide) rfl (Nat.le_of_ble_eq_true rfl) dX11_bufferLength_10 ⟨Nat.zero_le _, Nat.zero_le _⟩ rfl) (fun r5 σ4 hw => ?_)
  exact z_iret hG rfl rfl dX11_bufferLength_13 hw
-- TypeWheelTelegraph.pulses()I
def wX11_pulses (ln : Nat → Nat) (σ : zS) (t0 : Nat) (Q : Int32 → zS → Prop) : Prop := ∃ j1 : Nat, gr σ t0 3 = some j1 ∧ Q (gi σ j1 9) σ
abbrev rX11_pulses : Room := { frames := 0, cells := 0, slots := 0, locals := 0 }
set_option maxRecDepth 100000 in
set_option maxHeartbeats 4000000 in
theorem MX11_pulses (l : Launch) {E : zE} {Y : zY} {σ : zS} {t0 : Nat} (h0 : zT Y 11 t0) {Q : Int32 → zS → Prop} (hw : wX11_pulses (zln Y) σ t0 Q) : ∀ sz, Met l yX11_pulses (zw yX11_pulses cX11_pulses 1 (some .int)) rX11_pulses (zPc E Y σ sz [.ref (za Y t0)]) (va_Qi Q (zB E Y sz) (zA Y sz)) 0 0 (zA Y sz) := by
  refine z_met (own := RX11) (Qc := fun sz => va_Qi Q (zB E Y sz) (zA Y sz)) (by decide +kernel) rfl (Nat.le_of_ble_eq_true rfl) ?_
  intro p e s m args below meth c hG hinit
  unfold wX11_pulses at hw
  refine zlv (lv' := [(0, .ref (za Y t0))]) rfl ?_
  refine z_aload_n hG dX11_pulses_0 rfl 0 rfl ?_
  obtain ⟨j1, ej1, hw⟩ := hw
  refine z_getr (kq := 3) hG f_X11_53 h0 rfl ej1 rfl (by decide) dX11_pulses_1 (fun hj1 => ?_)
  refine z_geti hG f_X11_238 hj1 rfl dX11_pulses_4 ?_
  exact z_iret hG rfl rfl dX11_pulses_7 hw
-- TypeWheelTelegraph.lostPulses()I
def wX11_lostPulses (ln : Nat → Nat) (σ : zS) (t0 : Nat) (Q : Int32 → zS → Prop) : Prop := ∃ j1 : Nat, gr σ t0 3 = some j1 ∧ Q (gi σ j1 10) σ
abbrev rX11_lostPulses : Room := { frames := 0, cells := 0, slots := 0, locals := 0 }
set_option maxRecDepth 100000 in
set_option maxHeartbeats 4000000 in
theorem MX11_lostPulses (l : Launch) {E : zE} {Y : zY} {σ : zS} {t0 : Nat} (h0 : zT Y 11 t0) {Q : Int32 → zS → Prop} (hw : wX11_lostPulses (zln Y) σ t0 Q) : ∀ sz, Met l yX11_lostPulses (zw yX11_lostPulses cX11_lostPulses 1 (some .int)) rX11_lostPulses (zPc E Y σ sz [.ref (za Y t0)]) (va_Qi Q (zB E Y sz) (zA Y sz)) 0 0 (zA Y sz) := by
  refine z_met (own := RX11) (Qc := fun sz => va_Qi Q (zB E Y sz) (zA Y sz)) (by decide +kernel) rfl (Nat.le_of_ble_eq_true rfl) ?_
  intro p e s m args below meth c hG hinit
  unfold wX11_lostPulses at hw
  refine zlv (lv' := [(0, .ref (za Y t0))]) rfl ?_
  refine z_aload_n hG dX11_lostPulses_0 rfl 0 rfl ?_
  obtain ⟨j1, ej1, hw⟩ := hw
  refine z_getr (kq := 3) hG f_X11_53 h0 rfl ej1 rfl (by decide) dX11_lostPulses_1 (fun hj1 => ?_)
  refine z_geti hG f_X11_240 hj1 rfl dX11_lostPulses_4 ?_
  exact z_iret hG rfl rfl dX11_lostPulses_7 hw
-- TypeWheelTelegraph.eventCount()I
def wX11_eventCount (ln : Nat → Nat) (σ : zS) (t0 : Nat) (Q : Int32 → zS → Prop) : Prop := ∃ j1 : Nat, gr σ t0 3 = some j1 ∧ ∃ j2 : Nat, gr σ j1 15 = some j2 ∧ wX8_size ln σ j2 (fun r4 σ3 => Q r4 σ3)
abbrev rX11_eventCount : Room := { frames := 1, cells := 0, slots := 0, locals := 20 }
set_option maxRecDepth 100000 in
set_option maxHeartbeats 4000000 in
theorem MX11_eventCount (l : Launch) {E : zE} {Y : zY} {σ : zS} {t0 : Nat} (h0 : zT Y 11 t0) {Q : Int32 → zS → Prop} (hw : wX11_eventCount (zln Y) σ t0 Q) : ∀ sz, Met l yX11_eventCount (zw yX11_eventCount cX11_eventCount 1 (some .int)) rX11_eventCount (zPc E Y σ sz [.ref (za Y t0)]) (va_Qi Q (zB E Y sz) (zA Y sz)) 0 0 (zA Y sz) := by
  refine z_met (own := RX11) (Qc := fun sz => va_Qi Q (zB E Y sz) (zA Y sz)) (by decide +kernel) rfl (Nat.le_of_ble_eq_true rfl) ?_
  intro p e s m args below meth c hG hinit
  unfold wX11_eventCount at hw
  refine zlv (lv' := [(0, .ref (za Y t0))]) rfl ?_
  refine z_aload_n hG dX11_eventCount_0 rfl 0 rfl ?_
  obtain ⟨j1, ej1, hw⟩ := hw
  refine z_getr (kq := 3) hG f_X11_53 h0 rfl ej1 rfl (by decide) dX11_eventCount_1 (fun hj1 => ?_)
  obtain ⟨j2, ej2, hw⟩ := hw
  refine z_getr (kq := 8) hG f_X11_256 hj1 rfl ej2 rfl (by decide) dX11_eventCount_4 (fun hj2 => ?_)
  refine z_calli hG (z_runV (As := []) (st := []) hG k_X11_214 (MX8_size l hj2 hw) ⟨(Nat.le_of_ble_eq_true rfl), (Nat.le_of_ble_eq_true rfl)⟩ hj2 (T := TX8) (N := 4) rfl (by decide) rfl (Nat.le_of_ble_eq_true rfl) dX11_eventCount_7 ⟨Nat.zero_le _, Nat.zero_le _⟩ rfl) (fun r4 σ3 hw => ?_)
  exact z_iret hG rfl rfl dX11_eventCount_10 hw
-- TypeWheelTelegraph$Records.cellOf(I)I
def wX8_cellOf (ln : Nat → Nat) (σ : zS) (t0 : Nat) (v1 : Int32) (Q : Int32 → zS → Prop) : Prop := ∀ x1 : Int32, x1 = (gi σ t0 2) + v1 → (((gi σ t0 0) ≤ x1 → Q (3 * (x1 - (gi σ t0 0))) σ) ∧ (¬ (gi σ t0 0) ≤ x1 → Q (3 * x1) σ))
abbrev rX8_cellOf : Room := { frames := 0, cells := 0, slots := 0, locals := 0 }
set_option maxRecDepth 100000 in
set_option maxHeartbeats 4000000 in
theorem MX8_cellOf (l : Launch) {E : zE} {Y : zY} {σ : zS} {t0 : Nat} {v1 : Int32} (h0 : zT Y 8 t0) {Q : Int32 → zS → Prop} (hw : wX8_cellOf (zln Y) σ t0 v1 Q) : ∀ sz, Met l yX8_cellOf (zw yX8_cellOf cX8_cellOf 3 (some .int)) rX8_cellOf (zPc E Y σ sz [.ref (za Y t0), .int v1]) (va_Qi Q (zB E Y sz) (zA Y sz)) 0 0 (zA Y sz) := by
  refine z_met (own := RX8) (Qc := fun sz => va_Qi Q (zB E Y sz) (zA Y sz)) (by decide +kernel) rfl (Nat.le_of_ble_eq_true rfl) ?_
  intro p e s m args below meth c hG hinit
  unfold wX8_cellOf at hw
  refine zlv (lv' := [(0, .ref (za Y t0)), (1, .int v1)]) rfl ?_
  refine z_aload_n hG dX8_cellOf_0 rfl 0 rfl ?_
  refine z_geti hG f_X8_35 h0 rfl dX8_cellOf_1 ?_
  refine z_iload_n hG dX8_cellOf_4 rfl 1 rfl ?_
  refine z_iadd hG dX8_cellOf_5 ?_
  refine z_topi (fun x1 ex1 => ?_)
  have hw := hw x1 ex1
  refine z_istore_n (lv' := [(2, .int x1), (0, .ref (za Y t0)), (1, .int v1)]) hG dX8_cellOf_6 rfl (by decide) rfl ?_
  refine z_iconst (v := 3) hG dX8_cellOf_7 (by decide) ?_
  refine z_iload_n hG dX8_cellOf_8 rfl 0 rfl ?_
  refine z_aload_n hG dX8_cellOf_9 rfl 1 rfl ?_
  refine z_geti hG f_X8_15 h0 rfl dX8_cellOf_10 ?_
  refine z_icmp_ge (tgt := 20) hG dX8_cellOf_13 (by decide) (fun c2 => ?_) (fun c2 => ?_)
  · have hw := hw.1 c2
    refine z_iload_n hG dX8_cellOf_20 rfl 0 rfl ?_
    refine z_aload_n hG dX8_cellOf_21 rfl 1 rfl ?_
    refine z_geti hG f_X8_15 h0 rfl dX8_cellOf_22 ?_
    refine z_isub hG dX8_cellOf_25 ?_
    refine z_imul hG dX8_cellOf_26 ?_
    exact z_iret hG rfl rfl dX8_cellOf_27 hw
  · have hw := hw.2 c2
    refine z_iload_n hG dX8_cellOf_16 rfl 0 rfl ?_
    refine z_goto (tgt := 26) hG dX8_cellOf_17 (by decide) ?_
    refine z_imul hG dX8_cellOf_26 ?_
    exact z_iret hG rfl rfl dX8_cellOf_27 hw
-- TypeWheelTelegraph$Records.get(II)I
def wX8_get (ln : Nat → Nat) (σ : zS) (t0 : Nat) (v1 : Int32) (v2 : Int32) (Q : Int32 → zS → Prop) : Prop := ((v1 < 0 → Q (-1) σ) ∧ (¬ v1 < 0 → (((gi σ t0 3) ≤ v1 → Q (-1) σ) ∧ (¬ (gi σ t0 3) ≤ v1 → ((v2 < 0 → Q (-1) σ) ∧ (¬ v2 < 0 → ((v2 < 3 → wX8_cellOf ln σ t0 v1 (fun r2 σ1 => ∀ x3 : Int32, x3 = r2 + v2 → ∃ j4 : Nat, gr σ1 t0 1 = some j4 ∧ (((nI (ln j4)) ≤ x3 → Q (-1) σ1) ∧ (¬ (nI (ln j4)) ≤ x3 → ∃ j5 : Nat, gr σ1 t0 1 = some j5 ∧ vp_in x3 (ln j5) ∧ Q (gi σ1 j5 x3.toNatClampNeg) σ1)))) ∧ (¬ v2 < 3 → Q (-1) σ))))))))
abbrev rX8_get : Room := { frames := 1, cells := 0, slots := 0, locals := 22 }
set_option maxRecDepth 100000 in
set_option maxHeartbeats 4000000 in
theorem MX8_get (l : Launch) {E : zE} {Y : zY} {σ : zS} {t0 : Nat} {v1 : Int32} {v2 : Int32} (h0 : zT Y 8 t0) {Q : Int32 → zS → Prop} (hw : wX8_get (zln Y) σ t0 v1 v2 Q) : ∀ sz, Met l yX8_get (zw yX8_get cX8_get 4 (some .int)) rX8_get (zPc E Y σ sz [.ref (za Y t0), .int v1, .int v2]) (va_Qi Q (zB E Y sz) (zA Y sz)) 0 0 (zA Y sz) := by
  refine z_met (own := RX8) (Qc := fun sz => va_Qi Q (zB E Y sz) (zA Y sz)) (by decide +kernel) rfl (Nat.le_of_ble_eq_true rfl) ?_
  intro p e s m args below meth c hG hinit
  unfold wX8_get at hw
  refine zlv (lv' := [(0, .ref (za Y t0)), (1, .int v1), (2, .int v2)]) rfl ?_
  refine z_iload_n hG dX8_get_0 rfl 1 rfl ?_
  refine z_if_lt (tgt := 21) hG dX8_get_1 (by decide) (fun c11 => ?_) (fun c11 => ?_)
  · have hw := hw.1 c11
    refine z_iconst (v := (-1)) hG dX8_get_21 (by decide) ?_
    exact z_iret hG rfl rfl dX8_get_22 hw
  · have hw := hw.2 c11
    refine z_iload_n hG dX8_get_4 rfl 1 rfl ?_
    refine z_aload_n hG dX8_get_5 rfl 0 rfl ?_
    refine z_geti hG f_X8_25 h0 rfl dX8_get_6 ?_
    refine z_icmp_ge (tgt := 21) hG dX8_get_9 (by decide) (fun c10 => ?_) (fun c10 => ?_)
    · have hw := hw.1 c10
      refine z_iconst (v := (-1)) hG dX8_get_21 (by decide) ?_
      exact z_iret hG rfl rfl dX8_get_22 hw
    · have hw := hw.2 c10
      refine z_iload_n hG dX8_get_12 rfl 2 rfl ?_
      refine z_if_lt (tgt := 21) hG dX8_get_13 (by decide) (fun c9 => ?_) (fun c9 => ?_)
      · have hw := hw.1 c9
        refine z_iconst (v := (-1)) hG dX8_get_21 (by decide) ?_
        exact z_iret hG rfl rfl dX8_get_22 hw
      · have hw := hw.2 c9
        refine z_iload_n hG dX8_get_16 rfl 2 rfl ?_
        refine z_iconst (v := 3) hG dX8_get_17 (by decide) ?_
        refine z_icmp_lt (tgt := 23) hG dX8_get_18 (by decide) (fun c8 => ?_) (fun c8 => ?_)
        · have hw := hw.1 c8
          refine z_aload_n hG dX8_get_23 rfl 0 rfl ?_
          refine z_iload_n hG dX8_get_24 rfl 1 rfl ?_
          refine z_calli hG (z_runV (As := [.int v1]) (st := []) hG k_X8_28 (MX8_cellOf l h0 hw) ⟨(Nat.le_of_ble_eq_true rfl), (Nat.le_of_ble_eq_true rfl)⟩ h0 (T := TX8) (N := 4) rfl (by decide) rfl (Nat.le_of_ble_eq_true rfl) dX8_get_25 ⟨Nat.zero_le _, Nat.zero_le _⟩ rfl) (fun r2 σ1 hw => ?_)
          refine z_iload_n hG dX8_get_28 rfl 2 rfl ?_
          refine z_iadd hG dX8_get_29 ?_
          refine z_topi (fun x3 ex3 => ?_)
          have hw := hw x3 ex3
          refine z_istore_n (lv' := [(3, .int x3), (0, .ref (za Y t0)), (1, .int v1), (2, .int v2)]) hG dX8_get_30 rfl (by decide) rfl ?_
          refine z_iload_n hG dX8_get_31 rfl 0 rfl ?_
          refine z_aload_n hG dX8_get_32 rfl 1 rfl ?_
          obtain ⟨j4, ej4, hw⟩ := hw
          refine z_getr (kq := 20) hG f_X8_21 h0 rfl ej4 rfl (by decide) dX8_get_33 (fun hj4 => ?_)
          refine z_alen hG hj4 (by decide) (t0 := 0) rfl dX8_get_36 ?_
          refine z_icmp_ge (tgt := 49) hG dX8_get_37 (by decide) (fun c7 => ?_) (fun c7 => ?_)
          · have hw := hw.1 c7
            refine z_iconst (v := (-1)) hG dX8_get_49 (by decide) ?_
            exact z_iret hG rfl rfl dX8_get_50 hw
          · have hw := hw.2 c7
            refine z_aload_n hG dX8_get_40 rfl 1 rfl ?_
            obtain ⟨j5, ej5, hw⟩ := hw
            refine z_getr (kq := 20) hG f_X8_21 h0 rfl ej5 rfl (by decide) dX8_get_41 (fun hj5 => ?_)
            refine z_iload_n hG dX8_get_44 rfl 0 rfl ?_
            obtain ⟨q6, hw⟩ := hw
            refine z_iald hG hj5 q6 dX8_get_45 ?_
            refine z_goto (tgt := 50) hG dX8_get_46 (by decide) ?_
            exact z_iret hG rfl rfl dX8_get_50 hw
        · have hw := hw.2 c8
          refine z_iconst (v := (-1)) hG dX8_get_21 (by decide) ?_
          exact z_iret hG rfl rfl dX8_get_22 hw
-- TypeWheelTelegraph$History.slot(I)LTypeWheelTelegraph$Machine;
def wX1_slot (ln : Nat → Nat) (σ : zS) (t0 : Nat) (v1 : Int32) (Q : Option Nat → zS → Prop) : Prop := ∀ x1 : Int32, x1 = (gi σ t0 1) + v1 → ∀ x2 : Int32, x2 = x1 - x1 / 10 * 10 → ((x2 < 0 → Q none σ) ∧ (¬ x2 < 0 → ∃ j3 : Nat, gr σ t0 0 = some j3 ∧ (((nI (ln j3)) ≤ x2 → Q none σ) ∧ (¬ (nI (ln j3)) ≤ x2 → ∃ j4 : Nat, gr σ t0 0 = some j4 ∧ vp_in x2 (ln j4) ∧ ∃ j6 : Nat, gr σ j4 x2.toNatClampNeg = some j6 ∧ Q (some j6) σ))))
abbrev rX1_slot : Room := { frames := 0, cells := 0, slots := 0, locals := 0 }
set_option maxRecDepth 100000 in
set_option maxHeartbeats 4000000 in
theorem MX1_slot (l : Launch) {E : zE} {Y : zY} {σ : zS} {t0 : Nat} {v1 : Int32} (h0 : zT Y 1 t0) {Q : Option Nat → zS → Prop} (hw : wX1_slot (zln Y) σ t0 v1 Q) : ∀ sz, Met l yX1_slot (zw yX1_slot cX1_slot 3 (some (.object "TypeWheelTelegraph$Machine"))) rX1_slot (zPc E Y σ sz [.ref (za Y t0), .int v1]) (va_Qe (za Y) (zQe Q) (zBe E Y sz 3) (zA Y sz)) 0 0 (zA Y sz) := by
  refine z_met (own := RX1) (Qc := fun sz => va_Qe (za Y) (zQe Q) (zBe E Y sz 3) (zA Y sz)) (by decide +kernel) rfl (Nat.le_of_ble_eq_true rfl) ?_
  intro p e s m args below meth c hG hinit
  unfold wX1_slot at hw
  refine zlv (lv' := [(0, .ref (za Y t0)), (1, .int v1)]) rfl ?_
  refine z_aload_n hG dX1_slot_0 rfl 0 rfl ?_
  refine z_geti hG f_X1_22 h0 rfl dX1_slot_1 ?_
  refine z_iload_n hG dX1_slot_4 rfl 1 rfl ?_
  refine z_iadd hG dX1_slot_5 ?_
  refine z_bipush (v := 10) hG dX1_slot_6 (by decide) ?_
  obtain ⟨x1, ex1⟩ : ∃ y : Int32, y = (gi σ t0 1) + v1 := ⟨_, rfl⟩
  refine zst (st' := [.int 10, .int x1]) (by rw [ex1]) ?_
  have hw := hw x1 ex1
  refine z_irem hG dX1_slot_8 (by decide) ?_
  refine z_topi (fun x2 ex2 => ?_)
  have hw := hw x2 ex2
  refine z_istore_n (lv' := [(2, .int x2), (0, .ref (za Y t0)), (1, .int v1)]) hG dX1_slot_9 rfl (by decide) rfl ?_
  refine z_iload_n hG dX1_slot_10 rfl 0 rfl ?_
  refine z_if_lt (tgt := 32) hG dX1_slot_11 (by decide) (fun c8 => ?_) (fun c8 => ?_)
  · have hw := hw.1 c8
    refine z_null hG dX1_slot_32 ?_
    exact z_aretN hG rfl (Or.inl ⟨_, rfl⟩) dX1_slot_33 hw
  · have hw := hw.2 c8
    refine z_iload_n hG dX1_slot_14 rfl 0 rfl ?_
    refine z_aload_n hG dX1_slot_15 rfl 1 rfl ?_
    obtain ⟨j3, ej3, hw⟩ := hw
    refine z_getr (kq := 23) hG f_X1_11 h0 rfl ej3 rfl (by decide) dX1_slot_16 (fun hj3 => ?_)
    refine z_alen hG hj3 (by decide) (t0 := 3) rfl dX1_slot_19 ?_
    refine z_icmp_ge (tgt := 32) hG dX1_slot_20 (by decide) (fun c7 => ?_) (fun c7 => ?_)
    · have hw := hw.1 c7
      refine z_null hG dX1_slot_32 ?_
      exact z_aretN hG rfl (Or.inl ⟨_, rfl⟩) dX1_slot_33 hw
    · have hw := hw.2 c7
      refine z_aload_n hG dX1_slot_23 rfl 1 rfl ?_
      obtain ⟨j4, ej4, hw⟩ := hw
      refine z_getr (kq := 23) hG f_X1_11 h0 rfl ej4 rfl (by decide) dX1_slot_24 (fun hj4 => ?_)
      refine z_iload_n hG dX1_slot_27 rfl 0 rfl ?_
      obtain ⟨q5, hw⟩ := hw
      obtain ⟨j6, ej6, hw⟩ := hw
      refine z_aald (kq := 3) (t0 := 3) hG hj4 (by decide) rfl q5 ej6 (fun _ => rfl) (by decide) dX1_slot_28 (fun hj6 => ?_)
      refine z_goto (tgt := 33) hG dX1_slot_29 (by decide) ?_
      exact z_aret hG rfl (Or.inl ⟨_, rfl⟩) hj6 dX1_slot_33 hw
-- TypeWheelTelegraph$Office.copyFrom(LTypeWheelTelegraph$Office;)V
def wX4_copyFrom (ln : Nat → Nat) (σ : zS) (t0 : Nat) (t1 : Nat) (Q : zS → Prop) : Prop := ∀ x1 : Int32, x1 = gi σ t1 0 → ∀ σ2 : zS, σ2 = si σ t0 0 x1 → ∀ x3 : Int32, x3 = gi σ2 t1 1 → ∀ σ4 : zS, σ4 = si σ2 t0 1 x3 → ∀ x5 : Int32, x5 = gi σ4 t1 2 → ∀ σ6 : zS, σ6 = si σ4 t0 2 x5 → ∀ x7 : Int32, x7 = gi σ6 t1 3 → ∀ σ8 : zS, σ8 = si σ6 t0 3 x7 → ∀ x9 : Int32, x9 = gi σ8 t1 4 → ∀ σ10 : zS, σ10 = si σ8 t0 4 x9 → ∀ x11 : Int32, x11 = gi σ10 t1 5 → ∀ σ12 : zS, σ12 = si σ10 t0 5 x11 → ∀ x13 : Int64, x13 = gl σ12 t1 6 → ∀ σ14 : zS, σ14 = sl σ12 t0 6 x13 → ∃ j15 : Nat, gr σ14 t0 7 = some j15 ∧ ∃ j16 : Nat, gr σ14 t1 7 = some j16 ∧ wX9_copyFrom ln σ14 j15 j16 (fun σ17 => Q σ17)
abbrev rX4_copyFrom : Room := { frames := 2, cells := 0, slots := 0, locals := 69 }
set_option maxRecDepth 100000 in
set_option maxHeartbeats 4000000 in
theorem MX4_copyFrom (l : Launch) {E : zE} {Y : zY} {σ : zS} {t0 : Nat} {t1 : Nat} (h0 : zT Y 4 t0) (h1 : zT Y 4 t1) {Q : zS → Prop} (hw : wX4_copyFrom (zln Y) σ t0 t1 Q) : ∀ sz, Met l yX4_copyFrom (zw yX4_copyFrom cX4_copyFrom 2 none) rX4_copyFrom (zPc E Y σ sz [.ref (za Y t0), .ref (za Y t1)]) (va_Qv Q (zB E Y sz) (zA Y sz)) 0 0 (zA Y sz) := by
  refine z_met (own := RX4) (Qc := fun sz => va_Qv Q (zB E Y sz) (zA Y sz)) (by decide +kernel) rfl (Nat.le_of_ble_eq_true rfl) ?_
  intro p e s m args below meth c hG hinit
  unfold wX4_copyFrom at hw
  refine zlv (lv' := [(0, .ref (za Y t0)), (1, .ref (za Y t1))]) rfl ?_
  refine z_aload_n hG dX4_copyFrom_0 rfl 0 rfl ?_
  refine z_aload_n hG dX4_copyFrom_1 rfl 1 rfl ?_
  refine z_geti hG f_X4_26 h1 rfl dX4_copyFrom_2 ?_
  refine z_topi (fun x1 ex1 => ?_)
  have hw := hw x1 ex1
  refine z_puti hG f_X4_26 h0 rfl rfl (zN_int _) dX4_copyFrom_5 ?_
  refine z_topσ (fun σ2 eσ2 => ?_)
  have hw := hw σ2 eσ2
  refine z_aload_n hG dX4_copyFrom_8 rfl 0 rfl ?_
  refine z_aload_n hG dX4_copyFrom_9 rfl 1 rfl ?_
  refine z_geti hG f_X4_30 h1 rfl dX4_copyFrom_10 ?_
  refine z_topi (fun x3 ex3 => ?_)
  have hw := hw x3 ex3
  refine z_puti hG f_X4_30 h0 rfl rfl (zN_int _) dX4_copyFrom_13 ?_
  refine z_topσ (fun σ4 eσ4 => ?_)
  have hw := hw σ4 eσ4
  refine z_aload_n hG dX4_copyFrom_16 rfl 0 rfl ?_
  refine z_aload_n hG dX4_copyFrom_17 rfl 1 rfl ?_
  refine z_geti hG f_X4_31 h1 rfl dX4_copyFrom_18 ?_
  refine z_topi (fun x5 ex5 => ?_)
  have hw := hw x5 ex5
  refine z_puti hG f_X4_31 h0 rfl rfl (zN_int _) dX4_copyFrom_21 ?_
  refine z_topσ (fun σ6 eσ6 => ?_)
  have hw := hw σ6 eσ6
  refine z_aload_n hG dX4_copyFrom_24 rfl 0 rfl ?_
  refine z_aload_n hG dX4_copyFrom_25 rfl 1 rfl ?_
  refine z_geti hG f_X4_34 h1 rfl dX4_copyFrom_26 ?_
  refine z_topi (fun x7 ex7 => ?_)
  have hw := hw x7 ex7
  refine z_puti hG f_X4_34 h0 rfl rfl (zN_int _) dX4_copyFrom_29 ?_
  refine z_topσ (fun σ8 eσ8 => ?_)
  have hw := hw σ8 eσ8
  refine z_aload_n hG dX4_copyFrom_32 rfl 0 rfl ?_
  refine z_aload_n hG dX4_copyFrom_33 rfl 1 rfl ?_
  refine z_geti hG f_X4_37 h1 rfl dX4_copyFrom_34 ?_
  refine z_topi (fun x9 ex9 => ?_)
  have hw := hw x9 ex9
  refine z_puti hG f_X4_37 h0 rfl rfl (zN_int _) dX4_copyFrom_37 ?_
  refine z_topσ (fun σ10 eσ10 => ?_)
  have hw := hw σ10 eσ10
  refine z_aload_n hG dX4_copyFrom_40 rfl 0 rfl ?_
  refine z_aload_n hG dX4_copyFrom_41 rfl 1 rfl ?_
  refine z_geti hG f_X4_40 h1 rfl dX4_copyFrom_42 ?_
  refine z_topi (fun x11 ex11 => ?_)
  have hw := hw x11 ex11
  refine z_puti hG f_X4_40 h0 rfl rfl (zN_int _) dX4_copyFrom_45 ?_
  refine z_topσ (fun σ12 eσ12 => ?_)
  have hw := hw σ12 eσ12
  refine z_aload_n hG dX4_copyFrom_48 rfl 0 rfl ?_
  refine z_aload_n hG dX4_copyFrom_49 rfl 1 rfl ?_
  refine z_getl hG f_X4_43 h1 rfl dX4_copyFrom_50 ?_
  refine z_topl (fun x13 ex13 => ?_)
  have hw := hw x13 ex13
  refine z_putl hG f_X4_43 h0 rfl rfl rfl dX4_copyFrom_53 ?_
  refine z_topσ (fun σ14 eσ14 => ?_)
  have hw := hw σ14 eσ14
  refine z_aload_n hG dX4_copyFrom_56 rfl 0 rfl ?_
  obtain ⟨j15, ej15, hw⟩ := hw
  refine z_getr (kq := 9) hG f_X4_16 h0 rfl ej15 rfl (by decide) dX4_copyFrom_57 (fun hj15 => ?_)
  refine z_aload_n hG dX4_copyFrom_60 rfl 1 rfl ?_
  obtain ⟨j16, ej16, hw⟩ := hw
  refine z_getr (kq := 9) hG f_X4_16 h1 rfl ej16 rfl (by decide) dX4_copyFrom_61 (fun hj16 => ?_)
  refine z_callv hG (z_runV (As := [.ref (za Y j16)]) (st := []) hG k_X4_50 (MX9_copyFrom l hj15 hj16 hw) ⟨(Nat.le_of_ble_eq_true rfl), (Nat.le_of_ble_eq_true rfl)⟩ hj15 (T := TX9) (N := 2) rfl (by decide) rfl (Nat.le_of_ble_eq_true rfl) dX4_copyFrom_64 ⟨Nat.zero_le _, Nat.zero_le _⟩ rfl) (fun σ17 hw => ?_)
  exact z_vret hG rfl dX4_copyFrom_67 hw
-- TypeWheelTelegraph$Receiver.copyFrom(LTypeWheelTelegraph$Receiver;)V
def wX7_copyFrom (ln : Nat → Nat) (σ : zS) (t0 : Nat) (t1 : Nat) (Q : zS → Prop) : Prop := ∃ j1 : Nat, gr σ t0 0 = some j1 ∧ ∃ j2 : Nat, gr σ t1 0 = some j2 ∧ wX9_copyFrom ln σ j1 j2 (fun σ3 => ∀ x4 : Int32, x4 = gi σ3 t1 1 → ∀ σ5 : zS, σ5 = si σ3 t0 1 x4 → ∀ x6 : Int32, x6 = gi σ5 t1 2 → ∀ σ7 : zS, σ7 = si σ5 t0 2 x6 → ∀ x8 : Int32, x8 = gi σ7 t1 3 → zB1 x8 ∧ ∀ σ10 : zS, σ10 = si σ7 t0 3 x8 → Q σ10)
abbrev rX7_copyFrom : Room := { frames := 2, cells := 0, slots := 0, locals := 69 }
set_option maxRecDepth 100000 in
set_option maxHeartbeats 4000000 in
theorem MX7_copyFrom (l : Launch) {E : zE} {Y : zY} {σ : zS} {t0 : Nat} {t1 : Nat} (h0 : zT Y 7 t0) (h1 : zT Y 7 t1) {Q : zS → Prop} (hw : wX7_copyFrom (zln Y) σ t0 t1 Q) : ∀ sz, Met l yX7_copyFrom (zw yX7_copyFrom cX7_copyFrom 2 none) rX7_copyFrom (zPc E Y σ sz [.ref (za Y t0), .ref (za Y t1)]) (va_Qv Q (zB E Y sz) (zA Y sz)) 0 0 (zA Y sz) := by
  refine z_met (own := RX7) (Qc := fun sz => va_Qv Q (zB E Y sz) (zA Y sz)) (by decide +kernel) rfl (Nat.le_of_ble_eq_true rfl) ?_
  intro p e s m args below meth c hG hinit
  unfold wX7_copyFrom at hw
  refine zlv (lv' := [(0, .ref (za Y t0)), (1, .ref (za Y t1))]) rfl ?_
  refine z_aload_n hG dX7_copyFrom_0 rfl 0 rfl ?_
  obtain ⟨j1, ej1, hw⟩ := hw
  refine z_getr (kq := 9) hG f_X7_16 h0 rfl ej1 rfl (by decide) dX7_copyFrom_1 (fun hj1 => ?_)
  refine z_aload_n hG dX7_copyFrom_4 rfl 1 rfl ?_
  obtain ⟨j2, ej2, hw⟩ := hw
  refine z_getr (kq := 9) hG f_X7_16 h1 rfl ej2 rfl (by decide) dX7_copyFrom_5 (fun hj2 => ?_)
  refine z_callv hG (z_runV (As := [.ref (za Y j2)]) (st := []) hG k_X7_34 (MX9_copyFrom l hj1 hj2 hw) ⟨(Nat.le_of_ble_eq_true rfl), (Nat.le_of_ble_eq_true rfl)⟩ hj1 (T := TX9) (N := 2) rfl (by decide) rfl (Nat.le_of_ble_eq_true rfl) dX7_copyFrom_8 ⟨Nat.zero_le _, Nat.zero_le _⟩ rfl) (fun σ3 hw => ?_)
  refine z_aload_n hG dX7_copyFrom_11 rfl 0 rfl ?_
  refine z_aload_n hG dX7_copyFrom_12 rfl 1 rfl ?_
  refine z_geti hG f_X7_23 h1 rfl dX7_copyFrom_13 ?_
  refine z_topi (fun x4 ex4 => ?_)
  have hw := hw x4 ex4
  refine z_puti hG f_X7_23 h0 rfl rfl (zN_int _) dX7_copyFrom_16 ?_
  refine z_topσ (fun σ5 eσ5 => ?_)
  have hw := hw σ5 eσ5
  refine z_aload_n hG dX7_copyFrom_19 rfl 0 rfl ?_
  refine z_aload_n hG dX7_copyFrom_20 rfl 1 rfl ?_
  refine z_geti hG f_X7_27 h1 rfl dX7_copyFrom_21 ?_
  refine z_topi (fun x6 ex6 => ?_)
  have hw := hw x6 ex6
  refine z_puti hG f_X7_27 h0 rfl rfl (zN_int _) dX7_copyFrom_24 ?_
  refine z_topσ (fun σ7 eσ7 => ?_)
  have hw := hw σ7 eσ7
  refine z_aload_n hG dX7_copyFrom_27 rfl 0 rfl ?_
  refine z_aload_n hG dX7_copyFrom_28 rfl 1 rfl ?_
  refine z_geti hG f_X7_30 h1 rfl dX7_copyFrom_29 ?_
  refine z_topi (fun x8 ex8 => ?_)
  have hw := hw x8 ex8
  obtain ⟨q9, hw⟩ := hw
  refine z_puti hG f_X7_30 h0 rfl rfl (zN_b q9) dX7_copyFrom_32 ?_
  refine z_topσ (fun σ10 eσ10 => ?_)
  have hw := hw σ10 eσ10
  exact z_vret hG rfl dX7_copyFrom_35 hw
-- TypeWheelTelegraph$Records.removeFirst()V
def wX8_removeFirst_31 (ln : Nat → Nat) (Q : zS → Prop) (t0 : Nat) (tw0 : Nat) (vw1 : Int32) (σ : zS) : Prop := ∀ σ1 : zS, σ1 = si σ tw0 2 vw1 → ∀ x2 : Int32, x2 = (gi σ1 t0 3) - 1 → ∀ σ3 : zS, σ3 = si σ1 t0 3 x2 → Q σ3
def wX8_removeFirst (ln : Nat → Nat) (σ : zS) (t0 : Nat) (Q : zS → Prop) : Prop := (((gi σ t0 3) ≤ 0 → Q σ) ∧ (¬ (gi σ t0 3) ≤ 0 → (((gi σ t0 0) ≤ ((gi σ t0 2) + 1) → wX8_removeFirst_31 ln Q t0 t0 0 σ) ∧ (¬ (gi σ t0 0) ≤ ((gi σ t0 2) + 1) → wX8_removeFirst_31 ln Q t0 t0 ((gi σ t0 2) + 1) σ))))
abbrev rX8_removeFirst : Room := { frames := 0, cells := 0, slots := 0, locals := 0 }
set_option maxRecDepth 100000 in
set_option maxHeartbeats 4000000 in
theorem BX8_removeFirst_31 {l : Launch} {E : zE} {Y : zY} {p : Program} {e : Env} {s : State} {m : MethodId} {args : Array Value} {below : List Frame} {meth : Method} {c : Code} (hG : zG E p l s m args meth c cX8_removeFirst 1 RX8 none (zA Y s.heap.size)) {Q : zS → Prop} : ∀ (t0 : Nat) (tw0 : Nat) (vw1 : Int32) (σ : zS), wX8_removeFirst_31 (zln Y) Q t0 tw0 vw1 σ → zT Y 8 t0 → zT Y 8 tw0 → WW E Y σ p l e rX8_removeFirst s m args below meth c (zA Y s.heap.size) 1 0 0 (MQ below (va_Qv Q (zB E Y s.heap.size) (zA Y s.heap.size)) args s 0 0 (zA Y s.heap.size)) [(0, .ref (za Y t0))] 31 [.int vw1, .ref (za Y tw0)] := by
  intro t0 tw0 vw1 σ hw h0 hw0
  unfold wX8_removeFirst_31 at hw
  refine z_puti hG f_X8_35 hw0 rfl rfl (zN_int _) dX8_removeFirst_31 ?_
  refine z_topσ (fun σ1 eσ1 => ?_)
  have hw := hw σ1 eσ1
  refine z_aload_n hG dX8_removeFirst_34 rfl 0 rfl ?_
  refine z_dup hG dX8_removeFirst_35 rfl ?_
  refine z_geti hG f_X8_25 h0 rfl dX8_removeFirst_36 ?_
  refine z_iconst (v := 1) hG dX8_removeFirst_39 (by decide) ?_
  refine z_isub hG dX8_removeFirst_40 ?_
  refine z_topi (fun x2 ex2 => ?_)
  have hw := hw x2 ex2
  refine z_puti hG f_X8_25 h0 rfl rfl (zN_int _) dX8_removeFirst_41 ?_
  refine z_topσ (fun σ3 eσ3 => ?_)
  have hw := hw σ3 eσ3
  exact z_vret hG rfl dX8_removeFirst_44 hw
set_option maxRecDepth 100000 in
set_option maxHeartbeats 4000000 in
theorem MX8_removeFirst (l : Launch) {E : zE} {Y : zY} {σ : zS} {t0 : Nat} (h0 : zT Y 8 t0) {Q : zS → Prop} (hw : wX8_removeFirst (zln Y) σ t0 Q) : ∀ sz, Met l yX8_removeFirst (zw yX8_removeFirst cX8_removeFirst 1 none) rX8_removeFirst (zPc E Y σ sz [.ref (za Y t0)]) (va_Qv Q (zB E Y sz) (zA Y sz)) 0 0 (zA Y sz) := by
  refine z_met (own := RX8) (Qc := fun sz => va_Qv Q (zB E Y sz) (zA Y sz)) (by decide +kernel) rfl (Nat.le_of_ble_eq_true rfl) ?_
  intro p e s m args below meth c hG hinit
  unfold wX8_removeFirst at hw
  refine zlv (lv' := [(0, .ref (za Y t0))]) rfl ?_
  refine z_aload_n hG dX8_removeFirst_0 rfl 0 rfl ?_
  refine z_geti hG f_X8_25 h0 rfl dX8_removeFirst_1 ?_
  refine z_if_le (tgt := 44) hG dX8_removeFirst_4 (by decide) (fun c2 => ?_) (fun c2 => ?_)
  · have hw := hw.1 c2
    exact z_vret hG rfl dX8_removeFirst_44 hw
  · have hw := hw.2 c2
    refine z_aload_n hG dX8_removeFirst_7 rfl 0 rfl ?_
    refine z_aload_n hG dX8_removeFirst_8 rfl 0 rfl ?_
    refine z_geti hG f_X8_35 h0 rfl dX8_removeFirst_9 ?_
    refine z_iconst (v := 1) hG dX8_removeFirst_12 (by decide) ?_
    refine z_iadd hG dX8_removeFirst_13 ?_
    refine z_aload_n hG dX8_removeFirst_14 rfl 0 rfl ?_
    refine z_geti hG f_X8_15 h0 rfl dX8_removeFirst_15 ?_
    refine z_icmp_ge (tgt := 30) hG dX8_removeFirst_18 (by decide) (fun c1 => ?_) (fun c1 => ?_)
    · have hw := hw.1 c1
      refine z_iconst (v := 0) hG dX8_removeFirst_30 (by decide) ?_
      refine zpick [0] (lv' := [(0, .ref (za Y t0))]) rfl ?_
      exact BX8_removeFirst_31 hG t0 t0 0 σ hw h0 h0
    · have hw := hw.2 c1
      refine z_aload_n hG dX8_removeFirst_21 rfl 0 rfl ?_
      refine z_geti hG f_X8_35 h0 rfl dX8_removeFirst_22 ?_
      refine z_iconst (v := 1) hG dX8_removeFirst_25 (by decide) ?_
      refine z_iadd hG dX8_removeFirst_26 ?_
      refine z_goto (tgt := 31) hG dX8_removeFirst_27 (by decide) ?_
      refine zpick [0] (lv' := [(0, .ref (za Y t0))]) rfl ?_
      exact BX8_removeFirst_31 hG t0 t0 ((gi σ t0 2) + 1) σ hw h0 h0
-- TypeWheelTelegraph$Records.add(III)V
def wX8_add_15 (ln : Nat → Nat) (Q : zS → Prop) (t0 : Nat) (v1 : Int32) (v2 : Int32) (v3 : Int32) (σ : zS) : Prop := ∀ x1 : Int32, x1 = gi σ t0 3 → wX8_cellOf ln σ t0 x1 (fun r3 σ2 => ∃ j4 : Nat, gr σ2 t0 1 = some j4 ∧ (((nI (ln j4)) ≤ (r3 + 2) → Q σ2) ∧ (¬ (nI (ln j4)) ≤ (r3 + 2) → ∃ j5 : Nat, gr σ2 t0 1 = some j5 ∧ vp_in r3 (ln j5) ∧ ∀ σ7 : zS, σ7 = si σ2 j5 r3.toNatClampNeg v1 → ∃ j8 : Nat, gr σ7 t0 1 = some j8 ∧ ∀ x9 : Int32, x9 = r3 + 1 → vp_in x9 (ln j8) ∧ ∀ σ11 : zS, σ11 = si σ7 j8 x9.toNatClampNeg v2 → ∃ j12 : Nat, gr σ11 t0 1 = some j12 ∧ ∀ x13 : Int32, x13 = r3 + 2 → vp_in x13 (ln j12) ∧ ∀ σ15 : zS, σ15 = si σ11 j12 x13.toNatClampNeg v3 → ∀ x16 : Int32, x16 = (gi σ15 t0 3) + 1 → ∀ σ17 : zS, σ17 = si σ15 t0 3 x16 → Q σ17)))
def wX8_add (ln : Nat → Nat) (σ : zS) (t0 : Nat) (v1 : Int32) (v2 : Int32) (v3 : Int32) (Q : zS → Prop) : Prop := (((gi σ t0 3) = (gi σ t0 0) → wX8_removeFirst ln σ t0 (fun σ1 => wX8_add_15 ln Q t0 v1 v2 v3 σ1)) ∧ (¬ (gi σ t0 3) = (gi σ t0 0) → wX8_add_15 ln Q t0 v1 v2 v3 σ))
abbrev rX8_add : Room := { frames := 1, cells := 0, slots := 0, locals := 22 }
set_option maxRecDepth 100000 in
set_option maxHeartbeats 4000000 in
theorem BX8_add_15 {l : Launch} {E : zE} {Y : zY} {p : Program} {e : Env} {s : State} {m : MethodId} {args : Array Value} {below : List Frame} {meth : Method} {c : Code} (hG : zG E p l s m args meth c cX8_add 5 RX8 none (zA Y s.heap.size)) {Q : zS → Prop} : ∀ (t0 : Nat) (v1 : Int32) (v2 : Int32) (v3 : Int32) (σ : zS), wX8_add_15 (zln Y) Q t0 v1 v2 v3 σ → zT Y 8 t0 → WW E Y σ p l e rX8_add s m args below meth c (zA Y s.heap.size) 5 0 0 (MQ below (va_Qv Q (zB E Y s.heap.size) (zA Y s.heap.size)) args s 0 0 (zA Y s.heap.size)) [(0, .ref (za Y t0)), (1, .int v1), (2, .int v2), (3, .int v3)] 15 [] := by
  intro t0 v1 v2 v3 σ hw h0
  unfold wX8_add_15 at hw
  refine z_aload_n hG dX8_add_15 rfl 0 rfl ?_
  refine z_aload_n hG dX8_add_16 rfl 0 rfl ?_
  refine z_geti hG f_X8_25 h0 rfl dX8_add_17 ?_
  refine z_topi (fun x1 ex1 => ?_)
  have hw := hw x1 ex1
  refine z_calli hG (z_runV (As := [.int x1]) (st := []) hG k_X8_28 (MX8_cellOf l h0 hw) ⟨(Nat.le_of_ble_eq_true rfl), (Nat.le_of_ble_eq_true rfl)⟩ h0 (T := TX8) (N := 4) rfl (by decide) rfl (Nat.le_of_ble_eq_true rfl) dX8_add_20 ⟨Nat.zero_le _, Nat.zero_le _⟩ rfl) (fun r3 σ2 hw => ?_)
  refine z_istore (lv' := [(4, .int r3), (0, .ref (za Y t0)), (1, .int v1), (2, .int v2), (3, .int v3)]) hG dX8_add_23 (by decide) rfl ?_
  refine z_iload hG dX8_add_25 0 rfl ?_
  refine z_iconst (v := 2) hG dX8_add_27 (by decide) ?_
  refine z_iadd hG dX8_add_28 ?_
  refine z_aload_n hG dX8_add_29 rfl 1 rfl ?_
  obtain ⟨j4, ej4, hw⟩ := hw
  refine z_getr (kq := 20) hG f_X8_21 h0 rfl ej4 rfl (by decide) dX8_add_30 (fun hj4 => ?_)
  refine z_alen hG hj4 (by decide) (t0 := 0) rfl dX8_add_33 ?_
  refine z_icmp_ge (tgt := 75) hG dX8_add_34 (by decide) (fun c18 => ?_) (fun c18 => ?_)
  · have hw := hw.1 c18
    exact z_vret hG rfl dX8_add_75 hw
  · have hw := hw.2 c18
    refine z_aload_n hG dX8_add_37 rfl 1 rfl ?_
    obtain ⟨j5, ej5, hw⟩ := hw
    refine z_getr (kq := 20) hG f_X8_21 h0 rfl ej5 rfl (by decide) dX8_add_38 (fun hj5 => ?_)
    refine z_iload hG dX8_add_41 0 rfl ?_
    refine z_iload_n hG dX8_add_43 rfl 2 rfl ?_
    obtain ⟨q6, hw⟩ := hw
    refine z_iast hG hj5 q6 dX8_add_44 ?_
    refine z_topσ (fun σ7 eσ7 => ?_)
    have hw := hw σ7 eσ7
    refine z_aload_n hG dX8_add_45 rfl 1 rfl ?_
    obtain ⟨j8, ej8, hw⟩ := hw
    refine z_getr (kq := 20) hG f_X8_21 h0 rfl ej8 rfl (by decide) dX8_add_46 (fun hj8 => ?_)
    refine z_iload hG dX8_add_49 0 rfl ?_
    refine z_iconst (v := 1) hG dX8_add_51 (by decide) ?_
    refine z_iadd hG dX8_add_52 ?_
    refine z_iload_n hG dX8_add_53 rfl 3 rfl ?_
    obtain ⟨x9, ex9⟩ : ∃ y : Int32, y = r3 + 1 := ⟨_, rfl⟩
    refine zst (st' := [.int v2, .int x9, .ref (za Y j8)]) (by rw [ex9]) ?_
    have hw := hw x9 ex9
    obtain ⟨q10, hw⟩ := hw
    refine z_iast hG hj8 q10 dX8_add_54 ?_
    refine z_topσ (fun σ11 eσ11 => ?_)
    have hw := hw σ11 eσ11
    refine z_aload_n hG dX8_add_55 rfl 1 rfl ?_
    obtain ⟨j12, ej12, hw⟩ := hw
    refine z_getr (kq := 20) hG f_X8_21 h0 rfl ej12 rfl (by decide) dX8_add_56 (fun hj12 => ?_)
    refine z_iload hG dX8_add_59 0 rfl ?_
    refine z_iconst (v := 2) hG dX8_add_61 (by decide) ?_
    refine z_iadd hG dX8_add_62 ?_
    refine z_iload_n hG dX8_add_63 rfl 4 rfl ?_
    obtain ⟨x13, ex13⟩ : ∃ y : Int32, y = r3 + 2 := ⟨_, rfl⟩
    refine zst (st' := [.int v3, .int x13, .ref (za Y j12)]) (by rw [ex13]) ?_
    have hw := hw x13 ex13
    obtain ⟨q14, hw⟩ := hw
    refine z_iast hG hj12 q14 dX8_add_64 ?_
    refine z_topσ (fun σ15 eσ15 => ?_)
    have hw := hw σ15 eσ15
    refine z_aload_n hG dX8_add_65 rfl 1 rfl ?_
    refine z_dup hG dX8_add_66 rfl ?_
    refine z_geti hG f_X8_25 h0 rfl dX8_add_67 ?_
    refine z_iconst (v := 1) hG dX8_add_70 (by decide) ?_
    refine z_iadd hG dX8_add_71 ?_
    refine z_topi (fun x16 ex16 => ?_)
    have hw := hw x16 ex16
    refine z_puti hG f_X8_25 h0 rfl rfl (zN_int _) dX8_add_72 ?_
    refine z_topσ (fun σ17 eσ17 => ?_)
    have hw := hw σ17 eσ17
    exact z_vret hG rfl dX8_add_75 hw
set_option maxRecDepth 100000 in
set_option maxHeartbeats 4000000 in
theorem MX8_add (l : Launch) {E : zE} {Y : zY} {σ : zS} {t0 : Nat} {v1 : Int32} {v2 : Int32} {v3 : Int32} (h0 : zT Y 8 t0) {Q : zS → Prop} (hw : wX8_add (zln Y) σ t0 v1 v2 v3 Q) : ∀ sz, Met l yX8_add (zw yX8_add cX8_add 5 none) rX8_add (zPc E Y σ sz [.ref (za Y t0), .int v1, .int v2, .int v3]) (va_Qv Q (zB E Y sz) (zA Y sz)) 0 0 (zA Y sz) := by
  refine z_met (own := RX8) (Qc := fun sz => va_Qv Q (zB E Y sz) (zA Y sz)) (by decide +kernel) rfl (Nat.le_of_ble_eq_true rfl) ?_
  intro p e s m args below meth c hG hinit
  unfold wX8_add at hw
  refine zlv (lv' := [(0, .ref (za Y t0)), (1, .int v1), (2, .int v2), (3, .int v3)]) rfl ?_
  refine z_aload_n hG dX8_add_0 rfl 0 rfl ?_
  refine z_geti hG f_X8_25 h0 rfl dX8_add_1 ?_
  refine z_aload_n hG dX8_add_4 rfl 0 rfl ?_
  refine z_geti hG f_X8_15 h0 rfl dX8_add_5 ?_
  refine z_icmp_ne (tgt := 15) hG dX8_add_8 (by decide) (fun c2 => ?_) (fun c2 => ?_)
  · have hw := hw.2 c2
    refine zpick [0, 1, 2, 3] (lv' := [(0, .ref (za Y t0)), (1, .int v1), (2, .int v2), (3, .int v3)]) rfl ?_
    exact BX8_add_15 hG t0 v1 v2 v3 σ hw h0
  · have hw := hw.1 c2
    refine z_aload_n hG dX8_add_11 rfl 0 rfl ?_
    refine z_callv hG (z_runV (As := []) (st := []) hG k_X8_32 (MX8_removeFirst l h0 hw) ⟨(Nat.le_of_ble_eq_true rfl), (Nat.le_of_ble_eq_true rfl)⟩ h0 (T := TX8) (N := 4) rfl (by decide) rfl (Nat.le_of_ble_eq_true rfl) dX8_add_12 ⟨Nat.zero_le _, Nat.zero_le _⟩ rfl) (fun σ1 hw => ?_)
    refine zpick [0, 1, 2, 3] (lv' := [(0, .ref (za Y t0)), (1, .int v1), (2, .int v2), (3, .int v3)]) rfl ?_
    exact BX8_add_15 hG t0 v1 v2 v3 σ1 hw h0
-- TypeWheelTelegraph$Records.copyFrom(LTypeWheelTelegraph$Records;)V
def wX8_copyFrom_6 (ln : Nat → Nat) (Q : zS → Prop) : Nat → Nat → Nat → Int32 → zS → Prop
  | 0, _, _, _, _ => False
  | n + 1, t0, t1, v2, σ => (((gi σ t1 3) ≤ v2 → Q σ) ∧ (¬ (gi σ t1 3) ≤ v2 → wX8_get ln σ t1 v2 0 (fun r2 σ1 => wX8_get ln σ1 t1 v2 1 (fun r4 σ3 => wX8_get ln σ3 t1 v2 2 (fun r6 σ5 => wX8_add ln σ5 t0 r2 r4 r6 (fun σ7 => ∀ x8 : Int32, x8 = v2 + 1 → (wX8_copyFrom_6 ln Q n) t0 t1 x8 σ7))))))
def wX8_copyFrom (ln : Nat → Nat) (σ : zS) (t0 : Nat) (t1 : Nat) (Q : zS → Prop) : Prop := wX8_clear ln σ t0 (fun σ1 => ∃ n2 : Nat, wX8_copyFrom_6 ln Q n2 t0 t1 0 σ1)
abbrev rX8_copyFrom : Room := { frames := 2, cells := 0, slots := 0, locals := 46 }
set_option maxRecDepth 100000 in
set_option maxHeartbeats 4000000 in
theorem BX8_copyFrom_6 {l : Launch} {E : zE} {Y : zY} {p : Program} {e : Env} {s : State} {m : MethodId} {args : Array Value} {below : List Frame} {meth : Method} {c : Code} (hG : zG E p l s m args meth c cX8_copyFrom 3 RX8 none (zA Y s.heap.size)) {Q : zS → Prop} : ∀ (n : Nat) (t0 : Nat) (t1 : Nat) (v2 : Int32) (σ : zS), wX8_copyFrom_6 (zln Y) Q n t0 t1 v2 σ → zT Y 8 t0 → zT Y 8 t1 → WW E Y σ p l e rX8_copyFrom s m args below meth c (zA Y s.heap.size) 3 0 0 (MQ below (va_Qv Q (zB E Y s.heap.size) (zA Y s.heap.size)) args s 0 0 (zA Y s.heap.size)) [(0, .ref (za Y t0)), (1, .ref (za Y t1)), (2, .int v2)] 6 [] := by
  intro n
  induction n with
  | zero => intro t0 t1 v2 σ hw
            exact hw.elim
  | succ n ih =>
    intro t0 t1 v2 σ hw h0 h1
    rw [wX8_copyFrom_6] at hw
    refine z_iload_n hG dX8_copyFrom_6 rfl 2 rfl ?_
    refine z_aload_n hG dX8_copyFrom_7 rfl 1 rfl ?_
    refine z_geti hG f_X8_25 h1 rfl dX8_copyFrom_8 ?_
    refine z_icmp_ge (tgt := 42) hG dX8_copyFrom_11 (by decide) (fun c9 => ?_) (fun c9 => ?_)
    · have hw := hw.1 c9
      exact z_vret hG rfl dX8_copyFrom_42 hw
    · have hw := hw.2 c9
      refine z_aload_n hG dX8_copyFrom_14 rfl 0 rfl ?_
      refine z_aload_n hG dX8_copyFrom_15 rfl 1 rfl ?_
      refine z_iload_n hG dX8_copyFrom_16 rfl 2 rfl ?_
      refine z_iconst (v := 0) hG dX8_copyFrom_17 (by decide) ?_
      refine z_calli hG (z_runV (As := [.int v2, .int 0]) (st := [.ref (za Y t0)]) hG k_X8_41 (MX8_get l h1 hw) ⟨(Nat.le_of_ble_eq_true rfl), (Nat.le_of_ble_eq_true rfl)⟩ h1 (T := TX8) (N := 4) rfl (by decide) rfl (Nat.le_of_ble_eq_true rfl) dX8_copyFrom_18 ⟨Nat.zero_le _, Nat.zero_le _⟩ rfl) (fun r2 σ1 hw => ?_)
      refine z_aload_n hG dX8_copyFrom_21 rfl 1 rfl ?_
      refine z_iload_n hG dX8_copyFrom_22 rfl 2 rfl ?_
      refine z_iconst (v := 1) hG dX8_copyFrom_23 (by decide) ?_
      refine z_calli hG (z_runV (As := [.int v2, .int 1]) (st := [.int r2, .ref (za Y t0)]) hG k_X8_41 (MX8_get l h1 hw) ⟨(Nat.le_of_ble_eq_true rfl), (Nat.le_of_ble_eq_true rfl)⟩ h1 (T := TX8) (N := 4) rfl (by decide) rfl (Nat.le_of_ble_eq_true rfl) dX8_copyFrom_24 ⟨Nat.zero_le _, Nat.zero_le _⟩ rfl) (fun r4 σ3 hw => ?_)
      refine z_aload_n hG dX8_copyFrom_27 rfl 1 rfl ?_
      refine z_iload_n hG dX8_copyFrom_28 rfl 2 rfl ?_
      refine z_iconst (v := 2) hG dX8_copyFrom_29 (by decide) ?_
      refine z_calli hG (z_runV (As := [.int v2, .int 2]) (st := [.int r4, .int r2, .ref (za Y t0)]) hG k_X8_41 (MX8_get l h1 hw) ⟨(Nat.le_of_ble_eq_true rfl), (Nat.le_of_ble_eq_true rfl)⟩ h1 (T := TX8) (N := 4) rfl (by decide) rfl (Nat.le_of_ble_eq_true rfl) dX8_copyFrom_30 ⟨Nat.zero_le _, Nat.zero_le _⟩ rfl) (fun r6 σ5 hw => ?_)
      refine z_callv hG (z_runV (As := [.int r2, .int r4, .int r6]) (st := []) hG k_X8_44 (MX8_add l h0 hw) ⟨(Nat.le_of_ble_eq_true rfl), (Nat.le_of_ble_eq_true rfl)⟩ h0 (T := TX8) (N := 4) rfl (by decide) rfl (Nat.le_of_ble_eq_true rfl) dX8_copyFrom_33 ⟨Nat.zero_le _, Nat.zero_le _⟩ rfl) (fun σ7 hw => ?_)
      obtain ⟨x8, ex8⟩ : ∃ y : Int32, y = v2 + 1 := ⟨_, rfl⟩
      have hw := hw x8 ex8
      refine z_iinc (v := x8) (lv' := [(2, .int x8), (0, .ref (za Y t0)), (1, .ref (za Y t1))]) hG dX8_copyFrom_36 2 rfl (by rw [ex8]; rfl) (by decide) rfl ?_
      refine z_goto (tgt := 6) hG dX8_copyFrom_39 (by decide) ?_
      refine zpick [1, 2, 0] (lv' := [(0, .ref (za Y t0)), (1, .ref (za Y t1)), (2, .int x8)]) rfl ?_
      exact ih t0 t1 x8 σ7 hw h0 h1
set_option maxRecDepth 100000 in
set_option maxHeartbeats 4000000 in
theorem MX8_copyFrom (l : Launch) {E : zE} {Y : zY} {σ : zS} {t0 : Nat} {t1 : Nat} (h0 : zT Y 8 t0) (h1 : zT Y 8 t1) {Q : zS → Prop} (hw : wX8_copyFrom (zln Y) σ t0 t1 Q) : ∀ sz, Met l yX8_copyFrom (zw yX8_copyFrom cX8_copyFrom 3 none) rX8_copyFrom (zPc E Y σ sz [.ref (za Y t0), .ref (za Y t1)]) (va_Qv Q (zB E Y sz) (zA Y sz)) 0 0 (zA Y sz) := by
  refine z_met (own := RX8) (Qc := fun sz => va_Qv Q (zB E Y sz) (zA Y sz)) (by decide +kernel) rfl (Nat.le_of_ble_eq_true rfl) ?_
  intro p e s m args below meth c hG hinit
  unfold wX8_copyFrom at hw
  refine zlv (lv' := [(0, .ref (za Y t0)), (1, .ref (za Y t1))]) rfl ?_
  refine z_aload_n hG dX8_copyFrom_0 rfl 0 rfl ?_
  refine z_callv hG (z_runV (As := []) (st := []) hG k_X8_38 (MX8_clear l h0 hw) ⟨(Nat.le_of_ble_eq_true rfl), (Nat.le_of_ble_eq_true rfl)⟩ h0 (T := TX8) (N := 4) rfl (by decide) rfl (Nat.le_of_ble_eq_true rfl) dX8_copyFrom_1 ⟨Nat.zero_le _, Nat.zero_le _⟩ rfl) (fun σ1 hw => ?_)
  refine z_iconst (v := 0) hG dX8_copyFrom_4 (by decide) ?_
  refine z_istore_n (lv' := [(2, .int 0), (0, .ref (za Y t0)), (1, .ref (za Y t1))]) hG dX8_copyFrom_5 rfl (by decide) rfl ?_
  obtain ⟨n2, hw⟩ := hw
  refine zpick [1, 2, 0] (lv' := [(0, .ref (za Y t0)), (1, .ref (za Y t1)), (2, .int 0)]) rfl ?_
  exact BX8_copyFrom_6 hG n2 t0 t1 0 σ1 hw h0 h1
-- TypeWheelTelegraph$Machine.copyFrom(LTypeWheelTelegraph$Machine;)V
def wX3_copyFrom (ln : Nat → Nat) (σ : zS) (t0 : Nat) (t1 : Nat) (Q : zS → Prop) : Prop := ∃ j1 : Nat, gr σ t1 0 = some j1 ∧ ∀ σ2 : zS, σ2 = sr σ t0 0 (some j1) → ∀ x3 : Int32, x3 = gi σ2 t1 1 → ∀ σ4 : zS, σ4 = si σ2 t0 1 x3 → ∀ x5 : Int32, x5 = gi σ4 t1 2 → ∀ σ6 : zS, σ6 = si σ4 t0 2 x5 → ∀ x7 : Int32, x7 = gi σ6 t1 3 → ∀ σ8 : zS, σ8 = si σ6 t0 3 x7 → ∀ x9 : Int32, x9 = gi σ8 t1 4 → zB1 x9 ∧ ∀ σ11 : zS, σ11 = si σ8 t0 4 x9 → ∀ x12 : Int32, x12 = gi σ11 t1 5 → ∀ σ13 : zS, σ13 = si σ11 t0 5 x12 → ∀ x14 : Int32, x14 = gi σ13 t1 6 → ∀ σ15 : zS, σ15 = si σ13 t0 6 x14 → ∀ x16 : Int32, x16 = gi σ15 t1 7 → ∀ σ17 : zS, σ17 = si σ15 t0 7 x16 → ∀ x18 : Int32, x18 = gi σ17 t1 8 → ∀ σ19 : zS, σ19 = si σ17 t0 8 x18 → ∀ x20 : Int32, x20 = gi σ19 t1 9 → ∀ σ21 : zS, σ21 = si σ19 t0 9 x20 → ∀ x22 : Int32, x22 = gi σ21 t1 10 → ∀ σ23 : zS, σ23 = si σ21 t0 10 x22 → ∃ j24 : Nat, gr σ23 t0 11 = some j24 ∧ ∃ j25 : Nat, gr σ23 t1 11 = some j25 ∧ wX4_copyFrom ln σ23 j24 j25 (fun σ26 => ∃ j27 : Nat, gr σ26 t0 12 = some j27 ∧ ∃ j28 : Nat, gr σ26 t1 12 = some j28 ∧ wX4_copyFrom ln σ26 j27 j28 (fun σ29 => ∃ j30 : Nat, gr σ29 t0 13 = some j30 ∧ ∃ j31 : Nat, gr σ29 t1 13 = some j31 ∧ wX7_copyFrom ln σ29 j30 j31 (fun σ32 => ∃ j33 : Nat, gr σ32 t0 14 = some j33 ∧ ∃ j34 : Nat, gr σ32 t1 14 = some j34 ∧ wX8_copyFrom ln σ32 j33 j34 (fun σ35 => ∃ j36 : Nat, gr σ35 t0 15 = some j36 ∧ ∃ j37 : Nat, gr σ35 t1 15 = some j37 ∧ wX8_copyFrom ln σ35 j36 j37 (fun σ38 => ∃ j39 : Nat, gr σ38 t0 16 = some j39 ∧ ∃ j40 : Nat, gr σ38 t1 16 = some j40 ∧ wX9_copyFrom ln σ38 j39 j40 (fun σ41 => Q σ41))))))
abbrev rX3_copyFrom : Room := { frames := 3, cells := 0, slots := 0, locals := 90 }
set_option maxRecDepth 100000 in
set_option maxHeartbeats 4000000 in
theorem MX3_copyFrom (l : Launch) {E : zE} {Y : zY} {σ : zS} {t0 : Nat} {t1 : Nat} (h0 : zT Y 3 t0) (h1 : zT Y 3 t1) {Q : zS → Prop} (hw : wX3_copyFrom (zln Y) σ t0 t1 Q) : ∀ sz, Met l yX3_copyFrom (zw yX3_copyFrom cX3_copyFrom 2 none) rX3_copyFrom (zPc E Y σ sz [.ref (za Y t0), .ref (za Y t1)]) (va_Qv Q (zB E Y sz) (zA Y sz)) 0 0 (zA Y sz) := by
  refine z_met (own := RX3) (Qc := fun sz => va_Qv Q (zB E Y sz) (zA Y sz)) (by decide +kernel) rfl (Nat.le_of_ble_eq_true rfl) ?_
  intro p e s m args below meth c hG hinit
  unfold wX3_copyFrom at hw
  refine zlv (lv' := [(0, .ref (za Y t0)), (1, .ref (za Y t1))]) rfl ?_
  refine z_aload_n hG dX3_copyFrom_0 rfl 0 rfl ?_
  refine z_aload_n hG dX3_copyFrom_1 rfl 1 rfl ?_
  obtain ⟨j1, ej1, hw⟩ := hw
  refine z_getr (kq := 6) hG f_X3_55 h1 rfl ej1 rfl (by decide) dX3_copyFrom_2 (fun hj1 => ?_)
  refine z_putr hG f_X3_55 h0 rfl rfl rfl rfl (by decide) hj1 dX3_copyFrom_5 ?_
  refine z_topσ (fun σ2 eσ2 => ?_)
  have hw := hw σ2 eσ2
  refine z_aload_n hG dX3_copyFrom_8 rfl 0 rfl ?_
  refine z_aload_n hG dX3_copyFrom_9 rfl 1 rfl ?_
  refine z_geti hG f_X3_59 h1 rfl dX3_copyFrom_10 ?_
  refine z_topi (fun x3 ex3 => ?_)
  have hw := hw x3 ex3
  refine z_puti hG f_X3_59 h0 rfl rfl (zN_int _) dX3_copyFrom_13 ?_
  refine z_topσ (fun σ4 eσ4 => ?_)
  have hw := hw σ4 eσ4
  refine z_aload_n hG dX3_copyFrom_16 rfl 0 rfl ?_
  refine z_aload_n hG dX3_copyFrom_17 rfl 1 rfl ?_
  refine z_geti hG f_X3_67 h1 rfl dX3_copyFrom_18 ?_
  refine z_topi (fun x5 ex5 => ?_)
  have hw := hw x5 ex5
  refine z_puti hG f_X3_67 h0 rfl rfl (zN_int _) dX3_copyFrom_21 ?_
  refine z_topσ (fun σ6 eσ6 => ?_)
  have hw := hw σ6 eσ6
  refine z_aload_n hG dX3_copyFrom_24 rfl 0 rfl ?_
  refine z_aload_n hG dX3_copyFrom_25 rfl 1 rfl ?_
  refine z_geti hG f_X3_9 h1 rfl dX3_copyFrom_26 ?_
  refine z_topi (fun x7 ex7 => ?_)
  have hw := hw x7 ex7
  refine z_puti hG f_X3_9 h0 rfl rfl (zN_int _) dX3_copyFrom_29 ?_
  refine z_topσ (fun σ8 eσ8 => ?_)
  have hw := hw σ8 eσ8
  refine z_aload_n hG dX3_copyFrom_32 rfl 0 rfl ?_
  refine z_aload_n hG dX3_copyFrom_33 rfl 1 rfl ?_
  refine z_geti hG f_X3_96 h1 rfl dX3_copyFrom_34 ?_
  refine z_topi (fun x9 ex9 => ?_)
  have hw := hw x9 ex9
  obtain ⟨q10, hw⟩ := hw
  refine z_puti hG f_X3_96 h0 rfl rfl (zN_b q10) dX3_copyFrom_37 ?_
  refine z_topσ (fun σ11 eσ11 => ?_)
  have hw := hw σ11 eσ11
  refine z_aload_n hG dX3_copyFrom_40 rfl 0 rfl ?_
  refine z_aload_n hG dX3_copyFrom_41 rfl 1 rfl ?_
  refine z_geti hG f_X3_100 h1 rfl dX3_copyFrom_42 ?_
  refine z_topi (fun x12 ex12 => ?_)
  have hw := hw x12 ex12
  refine z_puti hG f_X3_100 h0 rfl rfl (zN_int _) dX3_copyFrom_45 ?_
  refine z_topσ (fun σ13 eσ13 => ?_)
  have hw := hw σ13 eσ13
  refine z_aload_n hG dX3_copyFrom_48 rfl 0 rfl ?_
  refine z_aload_n hG dX3_copyFrom_49 rfl 1 rfl ?_
  refine z_geti hG f_X3_103 h1 rfl dX3_copyFrom_50 ?_
  refine z_topi (fun x14 ex14 => ?_)
  have hw := hw x14 ex14
  refine z_puti hG f_X3_103 h0 rfl rfl (zN_int _) dX3_copyFrom_53 ?_
  refine z_topσ (fun σ15 eσ15 => ?_)
  have hw := hw σ15 eσ15
  refine z_aload_n hG dX3_copyFrom_56 rfl 0 rfl ?_
  refine z_aload_n hG dX3_copyFrom_57 rfl 1 rfl ?_
  refine z_geti hG f_X3_106 h1 rfl dX3_copyFrom_58 ?_
  refine z_topi (fun x16 ex16 => ?_)
  have hw := hw x16 ex16
  refine z_puti hG f_X3_106 h0 rfl rfl (zN_int _) dX3_copyFrom_61 ?_
  refine z_topσ (fun σ17 eσ17 => ?_)
  have hw := hw σ17 eσ17
  refine z_aload_n hG dX3_copyFrom_64 rfl 0 rfl ?_
  refine z_aload_n hG dX3_copyFrom_65 rfl 1 rfl ?_
  refine z_geti hG f_X3_90 h1 rfl dX3_copyFrom_66 ?_
  refine z_topi (fun x18 ex18 => ?_)
  have hw := hw x18 ex18
  refine z_puti hG f_X3_90 h0 rfl rfl (zN_int _) dX3_copyFrom_69 ?_
  refine z_topσ (fun σ19 eσ19 => ?_)
  have hw := hw σ19 eσ19
  refine z_aload_n hG dX3_copyFrom_72 rfl 0 rfl ?_
  refine z_aload_n hG dX3_copyFrom_73 rfl 1 rfl ?_
  refine z_geti hG f_X3_68 h1 rfl dX3_copyFrom_74 ?_
  refine z_topi (fun x20 ex20 => ?_)
  have hw := hw x20 ex20
  refine z_puti hG f_X3_68 h0 rfl rfl (zN_int _) dX3_copyFrom_77 ?_
  refine z_topσ (fun σ21 eσ21 => ?_)
  have hw := hw σ21 eσ21
  refine z_aload_n hG dX3_copyFrom_80 rfl 0 rfl ?_
  refine z_aload_n hG dX3_copyFrom_81 rfl 1 rfl ?_
  refine z_geti hG f_X3_71 h1 rfl dX3_copyFrom_82 ?_
  refine z_topi (fun x22 ex22 => ?_)
  have hw := hw x22 ex22
  refine z_puti hG f_X3_71 h0 rfl rfl (zN_int _) dX3_copyFrom_85 ?_
  refine z_topσ (fun σ23 eσ23 => ?_)
  have hw := hw σ23 eσ23
  refine z_aload_n hG dX3_copyFrom_88 rfl 0 rfl ?_
  obtain ⟨j24, ej24, hw⟩ := hw
  refine z_getr (kq := 4) hG f_X3_18 h0 rfl ej24 rfl (by decide) dX3_copyFrom_89 (fun hj24 => ?_)
  refine z_aload_n hG dX3_copyFrom_92 rfl 1 rfl ?_
  obtain ⟨j25, ej25, hw⟩ := hw
  refine z_getr (kq := 4) hG f_X3_18 h1 rfl ej25 rfl (by decide) dX3_copyFrom_93 (fun hj25 => ?_)
  refine z_callv hG (z_runV (As := [.ref (za Y j25)]) (st := []) hG k_X3_109 (MX4_copyFrom l hj24 hj25 hw) ⟨(Nat.le_of_ble_eq_true rfl), (Nat.le_of_ble_eq_true rfl)⟩ hj24 (T := TX4) (N := 8) rfl (by decide) rfl (Nat.le_of_ble_eq_true rfl) dX3_copyFrom_96 ⟨Nat.zero_le _, Nat.zero_le _⟩ rfl) (fun σ26 hw => ?_)
  refine z_aload_n hG dX3_copyFrom_99 rfl 0 rfl ?_
  obtain ⟨j27, ej27, hw⟩ := hw
  refine z_getr (kq := 4) hG f_X3_22 h0 rfl ej27 rfl (by decide) dX3_copyFrom_100 (fun hj27 => ?_)
  refine z_aload_n hG dX3_copyFrom_103 rfl 1 rfl ?_
  obtain ⟨j28, ej28, hw⟩ := hw
  refine z_getr (kq := 4) hG f_X3_22 h1 rfl ej28 rfl (by decide) dX3_copyFrom_104 (fun hj28 => ?_)
  refine z_callv hG (z_runV (As := [.ref (za Y j28)]) (st := []) hG k_X3_109 (MX4_copyFrom l hj27 hj28 hw) ⟨(Nat.le_of_ble_eq_true rfl), (Nat.le_of_ble_eq_true rfl)⟩ hj27 (T := TX4) (N := 8) rfl (by decide) rfl (Nat.le_of_ble_eq_true rfl) dX3_copyFrom_107 ⟨Nat.zero_le _, Nat.zero_le _⟩ rfl) (fun σ29 hw => ?_)
  refine z_aload_n hG dX3_copyFrom_110 rfl 0 rfl ?_
  obtain ⟨j30, ej30, hw⟩ := hw
  refine z_getr (kq := 7) hG f_X3_28 h0 rfl ej30 rfl (by decide) dX3_copyFrom_111 (fun hj30 => ?_)
  refine z_aload_n hG dX3_copyFrom_114 rfl 1 rfl ?_
  obtain ⟨j31, ej31, hw⟩ := hw
  refine z_getr (kq := 7) hG f_X3_28 h1 rfl ej31 rfl (by decide) dX3_copyFrom_115 (fun hj31 => ?_)
  refine z_callv hG (z_runV (As := [.ref (za Y j31)]) (st := []) hG k_X3_112 (MX7_copyFrom l hj30 hj31 hw) ⟨(Nat.le_of_ble_eq_true rfl), (Nat.le_of_ble_eq_true rfl)⟩ hj30 (T := TX7) (N := 4) rfl (by decide) rfl (Nat.le_of_ble_eq_true rfl) dX3_copyFrom_118 ⟨Nat.zero_le _, Nat.zero_le _⟩ rfl) (fun σ32 hw => ?_)
  refine z_aload_n hG dX3_copyFrom_121 rfl 0 rfl ?_
  obtain ⟨j33, ej33, hw⟩ := hw
  refine z_getr (kq := 8) hG f_X3_37 h0 rfl ej33 rfl (by decide) dX3_copyFrom_122 (fun hj33 => ?_)
  refine z_aload_n hG dX3_copyFrom_125 rfl 1 rfl ?_
  obtain ⟨j34, ej34, hw⟩ := hw
  refine z_getr (kq := 8) hG f_X3_37 h1 rfl ej34 rfl (by decide) dX3_copyFrom_126 (fun hj34 => ?_)
  refine z_callv hG (z_runV (As := [.ref (za Y j34)]) (st := []) hG k_X3_115 (MX8_copyFrom l hj33 hj34 hw) ⟨(Nat.le_of_ble_eq_true rfl), (Nat.le_of_ble_eq_true rfl)⟩ hj33 (T := TX8) (N := 4) rfl (by decide) rfl (Nat.le_of_ble_eq_true rfl) dX3_copyFrom_129 ⟨Nat.zero_le _, Nat.zero_le _⟩ rfl) (fun σ35 hw => ?_)
  refine z_aload_n hG dX3_copyFrom_132 rfl 0 rfl ?_
  obtain ⟨j36, ej36, hw⟩ := hw
  refine z_getr (kq := 8) hG f_X3_41 h0 rfl ej36 rfl (by decide) dX3_copyFrom_133 (fun hj36 => ?_)
  refine z_aload_n hG dX3_copyFrom_136 rfl 1 rfl ?_
  obtain ⟨j37, ej37, hw⟩ := hw
  refine z_getr (kq := 8) hG f_X3_41 h1 rfl ej37 rfl (by decide) dX3_copyFrom_137 (fun hj37 => ?_)
  refine z_callv hG (z_runV (As := [.ref (za Y j37)]) (st := []) hG k_X3_115 (MX8_copyFrom l hj36 hj37 hw) ⟨(Nat.le_of_ble_eq_true rfl), (Nat.le_of_ble_eq_true rfl)⟩ hj36 (T := TX8) (N := 4) rfl (by decide) rfl (Nat.le_of_ble_eq_true rfl) dX3_copyFrom_140 ⟨Nat.zero_le _, Nat.zero_le _⟩ rfl) (fun σ38 hw => ?_)
  refine z_aload_n hG dX3_copyFrom_143 rfl 0 rfl ?_
  obtain ⟨j39, ej39, hw⟩ := hw
  refine z_getr (kq := 9) hG f_X3_47 h0 rfl ej39 rfl (by decide) dX3_copyFrom_144 (fun hj39 => ?_)
  refine z_aload_n hG dX3_copyFrom_147 rfl 1 rfl ?_
  obtain ⟨j40, ej40, hw⟩ := hw
  refine z_getr (kq := 9) hG f_X3_47 h1 rfl ej40 rfl (by decide) dX3_copyFrom_148 (fun hj40 => ?_)
  refine z_callv hG (z_runV (As := [.ref (za Y j40)]) (st := []) hG k_X3_86 (MX9_copyFrom l hj39 hj40 hw) ⟨(Nat.le_of_ble_eq_true rfl), (Nat.le_of_ble_eq_true rfl)⟩ hj39 (T := TX9) (N := 2) rfl (by decide) rfl (Nat.le_of_ble_eq_true rfl) dX3_copyFrom_151 ⟨Nat.zero_le _, Nat.zero_le _⟩ rfl) (fun σ41 hw => ?_)
  exact z_vret hG rfl dX3_copyFrom_154 hw
-- TypeWheelTelegraph$History.keep(LTypeWheelTelegraph$Machine;)V
def wX1_keep_32 (ln : Nat → Nat) (Q : zS → Prop) (t0 : Nat) (t1 : Nat) (σ : zS) : Prop := ∀ x1 : Int32, x1 = gi σ t0 2 → wX1_slot ln σ t0 x1 (fun r3 σ2 => (r3 = none → Q σ2) ∧ (∀ j4 : Nat, r3 = some j4 → wX3_copyFrom ln σ2 j4 t1 (fun σ5 => ∀ x6 : Int32, x6 = (gi σ5 t0 2) + 1 → ∀ σ7 : zS, σ7 = si σ5 t0 2 x6 → Q σ7)))
def wX1_keep (ln : Nat → Nat) (σ : zS) (t0 : Nat) (t1 : Nat) (Q : zS → Prop) : Prop := (((gi σ t0 2) = 10 → ∀ x1 : Int32, x1 = (gi σ t0 1) + 1 → ∀ x2 : Int32, x2 = x1 - x1 / 10 * 10 → ∀ σ3 : zS, σ3 = si σ t0 1 x2 → ∀ x4 : Int32, x4 = (gi σ3 t0 2) - 1 → ∀ σ5 : zS, σ5 = si σ3 t0 2 x4 → wX1_keep_32 ln Q t0 t1 σ5) ∧ (¬ (gi σ t0 2) = 10 → wX1_keep_32 ln Q t0 t1 σ))
abbrev rX1_keep : Room := { frames := 4, cells := 0, slots := 0, locals := 111 }
set_option maxRecDepth 100000 in
set_option maxHeartbeats 4000000 in
theorem BX1_keep_32 {l : Launch} {E : zE} {Y : zY} {p : Program} {e : Env} {s : State} {m : MethodId} {args : Array Value} {below : List Frame} {meth : Method} {c : Code} (hG : zG E p l s m args meth c cX1_keep 3 RX1 none (zA Y s.heap.size)) {Q : zS → Prop} : ∀ (t0 : Nat) (t1 : Nat) (σ : zS), wX1_keep_32 (zln Y) Q t0 t1 σ → zT Y 1 t0 → zT Y 3 t1 → WW E Y σ p l e rX1_keep s m args below meth c (zA Y s.heap.size) 3 0 0 (MQ below (va_Qv Q (zB E Y s.heap.size) (zA Y s.heap.size)) args s 0 0 (zA Y s.heap.size)) [(0, .ref (za Y t0)), (1, .ref (za Y t1))] 32 [] := by
  intro t0 t1 σ hw h0 h1
  unfold wX1_keep_32 at hw
  refine z_aload_n hG dX1_keep_32 rfl 0 rfl ?_
  refine z_aload_n hG dX1_keep_33 rfl 0 rfl ?_
  refine z_geti hG f_X1_18 h0 rfl dX1_keep_34 ?_
  refine z_topi (fun x1 ex1 => ?_)
  have hw := hw x1 ex1
  refine z_calle hG (z_runV (As := [.int x1]) (st := []) hG k_X1_25 (MX1_slot l h0 hw) ⟨(Nat.le_of_ble_eq_true rfl), (Nat.le_of_ble_eq_true rfl)⟩ h0 (T := TX1) (N := 3) rfl (by decide) rfl (Nat.le_of_ble_eq_true rfl) dX1_keep_37 ⟨Nat.zero_le _, Nat.zero_le _⟩ rfl) (fun σ2 hw => ?_) (fun j4 σ2 hj4 hw => ?_)
  · have hw := hw.1 rfl
    refine z_astoreN_n (lv' := [(2, .null), (0, .ref (za Y t0)), (1, .ref (za Y t1))]) hG dX1_keep_40 rfl (by decide) rfl ?_
    refine z_aloadN_n hG dX1_keep_41 rfl 0 rfl ?_
    refine z_ifnull_yes (tgt := 60) hG dX1_keep_42 (by decide) ?_
    exact z_vret hG rfl dX1_keep_60 hw
  · have hw := hw.2 j4 rfl
    refine z_astore_n (lv' := [(2, .ref (za Y j4)), (0, .ref (za Y t0)), (1, .ref (za Y t1))]) hG dX1_keep_40 rfl (by decide) rfl ?_
    refine z_aload_n hG dX1_keep_41 rfl 0 rfl ?_
    refine z_ifnull_no hG dX1_keep_42 ?_
    refine z_aload_n hG dX1_keep_45 rfl 0 rfl ?_
    refine z_aload_n hG dX1_keep_46 rfl 2 rfl ?_
    refine z_callv hG (z_runV (As := [.ref (za Y t1)]) (st := []) hG k_X1_29 (MX3_copyFrom l hj4 h1 hw) ⟨(Nat.le_of_ble_eq_true rfl), (Nat.le_of_ble_eq_true rfl)⟩ hj4 (T := TX3) (N := 17) rfl (by decide) rfl (Nat.le_of_ble_eq_true rfl) dX1_keep_47 ⟨Nat.zero_le _, Nat.zero_le _⟩ rfl) (fun σ5 hw => ?_)
    refine z_aload_n hG dX1_keep_50 rfl 1 rfl ?_
    refine z_dup hG dX1_keep_51 rfl ?_
    refine z_geti hG f_X1_18 h0 rfl dX1_keep_52 ?_
    refine z_iconst (v := 1) hG dX1_keep_55 (by decide) ?_
    refine z_iadd hG dX1_keep_56 ?_
    refine z_topi (fun x6 ex6 => ?_)
    have hw := hw x6 ex6
    refine z_puti hG f_X1_18 h0 rfl rfl (zN_int _) dX1_keep_57 ?_
    refine z_topσ (fun σ7 eσ7 => ?_)
    have hw := hw σ7 eσ7
    exact z_vret hG rfl dX1_keep_60 hw
set_option maxRecDepth 100000 in
set_option maxHeartbeats 4000000 in
theorem MX1_keep (l : Launch) {E : zE} {Y : zY} {σ : zS} {t0 : Nat} {t1 : Nat} (h0 : zT Y 1 t0) (h1 : zT Y 3 t1) {Q : zS → Prop} (hw : wX1_keep (zln Y) σ t0 t1 Q) : ∀ sz, Met l yX1_keep (zw yX1_keep cX1_keep 3 none) rX1_keep (zPc E Y σ sz [.ref (za Y t0), .ref (za Y t1)]) (va_Qv Q (zB E Y sz) (zA Y sz)) 0 0 (zA Y sz) := by
  refine z_met (own := RX1) (Qc := fun sz => va_Qv Q (zB E Y sz) (zA Y sz)) (by decide +kernel) rfl (Nat.le_of_ble_eq_true rfl) ?_
  intro p e s m args below meth c hG hinit
  unfold wX1_keep at hw
  refine zlv (lv' := [(0, .ref (za Y t0)), (1, .ref (za Y t1))]) rfl ?_
  refine z_aload_n hG dX1_keep_0 rfl 0 rfl ?_
  refine z_geti hG f_X1_18 h0 rfl dX1_keep_1 ?_
  refine z_bipush (v := 10) hG dX1_keep_4 (by decide) ?_
  refine z_icmp_ne (tgt := 32) hG dX1_keep_6 (by decide) (fun c6 => ?_) (fun c6 => ?_)
  · have hw := hw.2 c6
    refine zpick [0, 1] (lv' := [(0, .ref (za Y t0)), (1, .ref (za Y t1))]) rfl ?_
    exact BX1_keep_32 hG t0 t1 σ hw h0 h1
  · have hw := hw.1 c6
    refine z_aload_n hG dX1_keep_9 rfl 0 rfl ?_
    refine z_aload_n hG dX1_keep_10 rfl 0 rfl ?_
    refine z_geti hG f_X1_22 h0 rfl dX1_keep_11 ?_
    refine z_iconst (v := 1) hG dX1_keep_14 (by decide) ?_
    refine z_iadd hG dX1_keep_15 ?_
    refine z_bipush (v := 10) hG dX1_keep_16 (by decide) ?_
    obtain ⟨x1, ex1⟩ : ∃ y : Int32, y = (gi σ t0 1) + 1 := ⟨_, rfl⟩
    refine zst (st' := [.int 10, .int x1, .ref (za Y t0)]) (by rw [ex1]) ?_
    have hw := hw x1 ex1
    refine z_irem hG dX1_keep_18 (by decide) ?_
    refine z_topi (fun x2 ex2 => ?_)
    have hw := hw x2 ex2
    refine z_puti hG f_X1_22 h0 rfl rfl (zN_int _) dX1_keep_19 ?_
    refine z_topσ (fun σ3 eσ3 => ?_)
    have hw := hw σ3 eσ3
    refine z_aload_n hG dX1_keep_22 rfl 0 rfl ?_
    refine z_dup hG dX1_keep_23 rfl ?_
    refine z_geti hG f_X1_18 h0 rfl dX1_keep_24 ?_
    refine z_iconst (v := 1) hG dX1_keep_27 (by decide) ?_
    refine z_isub hG dX1_keep_28 ?_
    refine z_topi (fun x4 ex4 => ?_)
    have hw := hw x4 ex4
    refine z_puti hG f_X1_18 h0 rfl rfl (zN_int _) dX1_keep_29 ?_
    refine z_topσ (fun σ5 eσ5 => ?_)
    have hw := hw σ5 eσ5
    refine zpick [0, 1] (lv' := [(0, .ref (za Y t0)), (1, .ref (za Y t1))]) rfl ?_
    exact BX1_keep_32 hG t0 t1 σ5 hw h0 h1
-- TypeWheelTelegraph$Office.turn(II)V
def wX4_turn (ln : Nat → Nat) (σ : zS) (t0 : Nat) (v1 : Int32) (v2 : Int32) (Q : zS → Prop) : Prop := ∀ x1 : Int32, x1 = (gi σ t0 0) + v1 → wX11_modulo ln σ x1 v2 (fun r3 σ2 => ∀ σ4 : zS, σ4 = si σ2 t0 0 r3 → Q σ4)
abbrev rX4_turn : Room := { frames := 2, cells := 0, slots := 0, locals := 43 }
set_option maxRecDepth 100000 in
set_option maxHeartbeats 4000000 in
theorem MX4_turn (l : Launch) {E : zE} {Y : zY} {σ : zS} {t0 : Nat} {v1 : Int32} {v2 : Int32} (h0 : zT Y 4 t0) {Q : zS → Prop} (hw : wX4_turn (zln Y) σ t0 v1 v2 Q) : ∀ sz, Met l yX4_turn (zw yX4_turn cX4_turn 3 none) rX4_turn (zPc E Y σ sz [.ref (za Y t0), .int v1, .int v2]) (va_Qv Q (zB E Y sz) (zA Y sz)) 0 0 (zA Y sz) := by
  refine z_met (own := RX4) (Qc := fun sz => va_Qv Q (zB E Y sz) (zA Y sz)) (by decide +kernel) rfl (Nat.le_of_ble_eq_true rfl) ?_
  intro p e s m args below meth c hG hinit
  unfold wX4_turn at hw
  refine zlv (lv' := [(0, .ref (za Y t0)), (1, .int v1), (2, .int v2)]) rfl ?_
  refine z_aload_n hG dX4_turn_0 rfl 0 rfl ?_
  refine z_aload_n hG dX4_turn_1 rfl 0 rfl ?_
  refine z_geti hG f_X4_26 h0 rfl dX4_turn_2 ?_
  refine z_iload_n hG dX4_turn_5 rfl 1 rfl ?_
  refine z_iadd hG dX4_turn_6 ?_
  refine z_iload_n hG dX4_turn_7 rfl 2 rfl ?_
  obtain ⟨x1, ex1⟩ : ∃ y : Int32, y = (gi σ t0 0) + v1 := ⟨_, rfl⟩
  refine zst (st' := [.int v2, .int x1, .ref (za Y t0)]) (by rw [ex1]) ?_
  have hw := hw x1 ex1
  refine z_calli hG (z_runSN (As := [.int x1, .int v2]) (st := [.ref (za Y t0)]) hG k_X4_54 k_X4_54s (MX11_modulo l hw) ⟨(Nat.le_of_ble_eq_true rfl), (Nat.le_of_ble_eq_true rfl)⟩ rfl (Nat.le_of_ble_eq_true rfl) dX4_turn_8 ⟨Nat.zero_le _, Nat.zero_le _⟩ rfl) (fun r3 σ2 hw => ?_)
  refine z_puti hG f_X4_26 h0 rfl rfl (zN_int _) dX4_turn_11 ?_
  refine z_topσ (fun σ4 eσ4 => ?_)
  have hw := hw σ4 eσ4
  exact z_vret hG rfl dX4_turn_14 hw
-- TypeWheelTelegraph$Machine.isArrivalDue()Z
def wX3_isArrivalDue (ln : Nat → Nat) (σ : zS) (t0 : Nat) (Q : Int32 → zS → Prop) : Prop := ∃ j1 : Nat, gr σ t0 14 = some j1 ∧ wX8_size ln σ j1 (fun r3 σ2 => ((r3 ≤ 0 → Q 0 σ2) ∧ (¬ r3 ≤ 0 → ∃ j4 : Nat, gr σ2 t0 14 = some j4 ∧ wX8_get ln σ2 j4 0 0 (fun r6 σ5 => (((gi σ5 t0 1) < r6 → Q 0 σ5) ∧ (¬ (gi σ5 t0 1) < r6 → Q 1 σ5))))))
abbrev rX3_isArrivalDue : Room := { frames := 2, cells := 0, slots := 0, locals := 45 }
set_option maxRecDepth 100000 in
set_option maxHeartbeats 4000000 in
theorem MX3_isArrivalDue (l : Launch) {E : zE} {Y : zY} {σ : zS} {t0 : Nat} (h0 : zT Y 3 t0) {Q : Int32 → zS → Prop} (hw : wX3_isArrivalDue (zln Y) σ t0 Q) : ∀ sz, Met l yX3_isArrivalDue (zw yX3_isArrivalDue cX3_isArrivalDue 1 (some .boolean)) rX3_isArrivalDue (zPc E Y σ sz [.ref (za Y t0)]) (va_Qi Q (zB E Y sz) (zA Y sz)) 0 0 (zA Y sz) := by
  refine z_met (own := RX3) (Qc := fun sz => va_Qi Q (zB E Y sz) (zA Y sz)) (by decide +kernel) rfl (Nat.le_of_ble_eq_true rfl) ?_
  intro p e s m args below meth c hG hinit
  unfold wX3_isArrivalDue at hw
  refine zlv (lv' := [(0, .ref (za Y t0))]) rfl ?_
  refine z_aload_n hG dX3_isArrivalDue_0 rfl 0 rfl ?_
  obtain ⟨j1, ej1, hw⟩ := hw
  refine z_getr (kq := 8) hG f_X3_37 h0 rfl ej1 rfl (by decide) dX3_isArrivalDue_1 (fun hj1 => ?_)
  refine z_calli hG (z_runV (As := []) (st := []) hG k_X3_137 (MX8_size l hj1 hw) ⟨(Nat.le_of_ble_eq_true rfl), (Nat.le_of_ble_eq_true rfl)⟩ hj1 (T := TX8) (N := 4) rfl (by decide) rfl (Nat.le_of_ble_eq_true rfl) dX3_isArrivalDue_4 ⟨Nat.zero_le _, Nat.zero_le _⟩ rfl) (fun r3 σ2 hw => ?_)
  refine z_if_le (tgt := 30) hG dX3_isArrivalDue_7 (by decide) (fun c8 => ?_) (fun c8 => ?_)
  · have hw := hw.1 c8
    refine z_iconst (v := 0) hG dX3_isArrivalDue_30 (by decide) ?_
    exact z_iret hG rfl (by decide +kernel) dX3_isArrivalDue_31 hw
  · have hw := hw.2 c8
    refine z_aload_n hG dX3_isArrivalDue_10 rfl 0 rfl ?_
    obtain ⟨j4, ej4, hw⟩ := hw
    refine z_getr (kq := 8) hG f_X3_37 h0 rfl ej4 rfl (by decide) dX3_isArrivalDue_11 (fun hj4 => ?_)
    refine z_iconst (v := 0) hG dX3_isArrivalDue_14 (by decide) ?_
    refine z_iconst (v := 0) hG dX3_isArrivalDue_15 (by decide) ?_
    refine z_calli hG (z_runV (As := [.int 0, .int 0]) (st := []) hG k_X3_144 (MX8_get l hj4 hw) ⟨(Nat.le_of_ble_eq_true rfl), (Nat.le_of_ble_eq_true rfl)⟩ hj4 (T := TX8) (N := 4) rfl (by decide) rfl (Nat.le_of_ble_eq_true rfl) dX3_isArrivalDue_16 ⟨Nat.zero_le _, Nat.zero_le _⟩ rfl) (fun r6 σ5 hw => ?_)
    refine z_aload_n hG dX3_isArrivalDue_19 rfl 0 rfl ?_
    refine z_geti hG f_X3_59 h0 rfl dX3_isArrivalDue_20 ?_
    refine z_icmp_gt (tgt := 30) hG dX3_isArrivalDue_23 (by decide) (fun c7 => ?_) (fun c7 => ?_)
    · have hw := hw.1 c7
      refine z_iconst (v := 0) hG dX3_isArrivalDue_30 (by decide) ?_
      exact z_iret hG rfl (by decide +kernel) dX3_isArrivalDue_31 hw
    · have hw := hw.2 c7
      refine z_iconst (v := 1) hG dX3_isArrivalDue_26 (by decide) ?_
      refine z_goto (tgt := 31) hG dX3_isArrivalDue_27 (by decide) ?_
      exact z_iret hG rfl (by decide +kernel) dX3_isArrivalDue_31 hw
-- TypeWheelTelegraph$Office.print(II)I
def wX4_print (ln : Nat → Nat) (σ : zS) (t0 : Nat) (v1 : Int32) (v2 : Int32) (Q : Int32 → zS → Prop) : Prop := wX4_nearestPosition ln σ t0 (fun r2 σ1 => ∀ x3 : Int32, x3 = (gi σ1 t0 0) - (1000 * r2) → ∀ x4 : Int32, x4 = (gi σ1 t0 3) + 1 → ∀ σ5 : zS, σ5 = si σ1 t0 3 x4 → ∀ x6 : Int64, x6 = (gl σ5 t0 6) + x3.toInt64 → ∀ σ7 : zS, σ7 = sl σ5 t0 6 x6 → ∀ x8 : Int32, x8 = (if 0 ≤ x3 then x3 else 0 - x3) → ∀ x9 : Int32, x9 = gi σ7 t0 5 → ∀ x10 : Int32, x10 = (if x9 < x8 then x8 else x9) → ∀ σ11 : zS, σ11 = si σ7 t0 5 x10 → ∀ x12 : Int32, x12 = (if v1 < x3 then v1 else x3) → ∀ x13 : Int32, x13 = -v1 → ∀ x14 : Int32, x14 = (if x13 < x12 then x12 else x13) → ∀ x15 : Int32, x15 = 1000 * v2 → ∀ x16 : Int32, x16 = -x14 → wX4_turn ln σ11 t0 x16 x15 (fun σ17 => wX11_modulo ln σ17 r2 v2 (fun r19 σ18 => Q r19 σ18)))
abbrev rX4_print : Room := { frames := 3, cells := 0, slots := 0, locals := 65 }
set_option maxRecDepth 100000 in
set_option maxHeartbeats 4000000 in
theorem MX4_print (l : Launch) {E : zE} {Y : zY} {σ : zS} {t0 : Nat} {v1 : Int32} {v2 : Int32} (h0 : zT Y 4 t0) {Q : Int32 → zS → Prop} (hw : wX4_print (zln Y) σ t0 v1 v2 Q) : ∀ sz, Met l yX4_print (zw yX4_print cX4_print 6 (some .int)) rX4_print (zPc E Y σ sz [.ref (za Y t0), .int v1, .int v2]) (va_Qi Q (zB E Y sz) (zA Y sz)) 0 0 (zA Y sz) := by
  refine z_met (own := RX4) (Qc := fun sz => va_Qi Q (zB E Y sz) (zA Y sz)) (by decide +kernel) rfl (Nat.le_of_ble_eq_true rfl) ?_
  intro p e s m args below meth c hG hinit
  unfold wX4_print at hw
  refine zlv (lv' := [(0, .ref (za Y t0)), (1, .int v1), (2, .int v2)]) rfl ?_
  refine z_aload_n hG dX4_print_0 rfl 0 rfl ?_
  refine z_calli hG (z_runV (As := []) (st := []) hG k_X4_58 (MX4_nearestPosition l h0 hw) ⟨(Nat.le_of_ble_eq_true rfl), (Nat.le_of_ble_eq_true rfl)⟩ h0 (T := TX4) (N := 8) rfl (by decide) rfl (Nat.le_of_ble_eq_true rfl) dX4_print_1 ⟨Nat.zero_le _, Nat.zero_le _⟩ rfl) (fun r2 σ1 hw => ?_)
  refine z_istore_n (lv' := [(3, .int r2), (0, .ref (za Y t0)), (1, .int v1), (2, .int v2)]) hG dX4_print_4 rfl (by decide) rfl ?_
  refine z_aload_n hG dX4_print_5 rfl 1 rfl ?_
  refine z_geti hG f_X4_26 h0 rfl dX4_print_6 ?_
  refine z_sipush (v := 1000) hG dX4_print_9 (by decide) ?_
  refine z_iload_n hG dX4_print_12 rfl 0 rfl ?_
  refine z_imul hG dX4_print_13 ?_
  refine z_isub hG dX4_print_14 ?_
  refine z_topi (fun x3 ex3 => ?_)
  have hw := hw x3 ex3
  refine z_istore (lv' := [(4, .int x3), (3, .int r2), (0, .ref (za Y t0)), (1, .int v1), (2, .int v2)]) hG dX4_print_15 (by decide) rfl ?_
  refine z_aload_n hG dX4_print_17 rfl 2 rfl ?_
  refine z_dup hG dX4_print_18 rfl ?_
  refine z_geti hG f_X4_34 h0 rfl dX4_print_19 ?_
  refine z_iconst (v := 1) hG dX4_print_22 (by decide) ?_
  refine z_iadd hG dX4_print_23 ?_
  refine z_topi (fun x4 ex4 => ?_)
  have hw := hw x4 ex4
  refine z_puti hG f_X4_34 h0 rfl rfl (zN_int _) dX4_print_24 ?_
  refine z_topσ (fun σ5 eσ5 => ?_)
  have hw := hw σ5 eσ5
  refine z_aload_n hG dX4_print_27 rfl 2 rfl ?_
  refine z_dup hG dX4_print_28 rfl ?_
  refine z_getl hG f_X4_43 h0 rfl dX4_print_29 ?_
  refine z_iload hG dX4_print_32 0 rfl ?_
  refine z_i2l hG dX4_print_34 ?_
  refine z_ladd hG dX4_print_35 ?_
  refine z_topl (fun x6 ex6 => ?_)
  have hw := hw x6 ex6
  refine z_putl hG f_X4_43 h0 rfl rfl rfl dX4_print_36 ?_
  refine z_topσ (fun σ7 eσ7 => ?_)
  have hw := hw σ7 eσ7
  refine z_aload_n hG dX4_print_39 rfl 2 rfl ?_
  refine z_aload_n hG dX4_print_40 rfl 2 rfl ?_
  refine z_geti hG f_X4_40 h0 rfl dX4_print_41 ?_
  refine z_iload hG dX4_print_44 0 rfl ?_
  refine z_mabs hG k_X4_62 km_abs_s km_i km_abs_c (Nat.le_of_ble_eq_true rfl) (Nat.le_of_ble_eq_true rfl) (Nat.zero_le _) (Nat.zero_le _) dX4_print_46 ?_
  refine z_topi (fun x8 ex8 => ?_)
  have hw := hw x8 ex8
  obtain ⟨x9, ex9⟩ : ∃ y : Int32, y = gi σ7 t0 5 := ⟨_, rfl⟩
  refine zst (st' := [.int x8, .int x9, .ref (za Y t0)]) (by rw [ex9]) ?_
  have hw := hw x9 ex9
  refine z_mmax hG k_X4_68 km_max_s km_i km_max_c (Nat.le_of_ble_eq_true rfl) (Nat.le_of_ble_eq_true rfl) (Nat.zero_le _) (Nat.zero_le _) dX4_print_49 ?_
  refine z_topi (fun x10 ex10 => ?_)
  have hw := hw x10 ex10
  refine z_puti hG f_X4_40 h0 rfl rfl (zN_int _) dX4_print_52 ?_
  refine z_topσ (fun σ11 eσ11 => ?_)
  have hw := hw σ11 eσ11
  refine z_iload_n hG dX4_print_55 rfl 3 rfl ?_
  refine z_ineg hG dX4_print_56 ?_
  refine z_iload hG dX4_print_57 0 rfl ?_
  refine z_iload_n hG dX4_print_59 rfl 3 rfl ?_
  refine z_mmin hG k_X4_71 km_min_s km_i km_min_c (Nat.le_of_ble_eq_true rfl) (Nat.le_of_ble_eq_true rfl) (Nat.zero_le _) (Nat.zero_le _) dX4_print_60 ?_
  refine z_topi (fun x12 ex12 => ?_)
  have hw := hw x12 ex12
  obtain ⟨x13, ex13⟩ : ∃ y : Int32, y = -v1 := ⟨_, rfl⟩
  refine zst (st' := [.int x12, .int x13]) (by rw [ex13]) ?_
  have hw := hw x13 ex13
  refine z_mmax hG k_X4_68 km_max_s km_i km_max_c (Nat.le_of_ble_eq_true rfl) (Nat.le_of_ble_eq_true rfl) (Nat.zero_le _) (Nat.zero_le _) dX4_print_63 ?_
  refine z_topi (fun x14 ex14 => ?_)
  have hw := hw x14 ex14
  refine z_istore (lv' := [(5, .int x14), (4, .int x3), (3, .int r2), (0, .ref (za Y t0)), (1, .int v1), (2, .int v2)]) hG dX4_print_66 (by decide) rfl ?_
  refine z_aload_n hG dX4_print_68 rfl 3 rfl ?_
  refine z_iload hG dX4_print_69 0 rfl ?_
  refine z_ineg hG dX4_print_71 ?_
  refine z_sipush (v := 1000) hG dX4_print_72 (by decide) ?_
  refine z_iload_n hG dX4_print_75 rfl 5 rfl ?_
  refine z_imul hG dX4_print_76 ?_
  refine z_topi (fun x15 ex15 => ?_)
  have hw := hw x15 ex15
  obtain ⟨x16, ex16⟩ : ∃ y : Int32, y = -x14 := ⟨_, rfl⟩
  refine zst (st' := [.int x15, .int x16, .ref (za Y t0)]) (by rw [ex16]) ?_
  have hw := hw x16 ex16
  refine z_callv hG (z_runV (As := [.int x16, .int x15]) (st := []) hG k_X4_74 (MX4_turn l h0 hw) ⟨(Nat.le_of_ble_eq_true rfl), (Nat.le_of_ble_eq_true rfl)⟩ h0 (T := TX4) (N := 8) rfl (by decide) rfl (Nat.le_of_ble_eq_true rfl) dX4_print_77 ⟨Nat.zero_le _, Nat.zero_le _⟩ rfl) (fun σ17 hw => ?_)
  refine z_iload_n hG dX4_print_80 rfl 2 rfl ?_
  refine z_iload_n hG dX4_print_81 rfl 5 rfl ?_
  refine z_calli hG (z_runSN (As := [.int r2, .int v2]) (st := []) hG k_X4_54 k_X4_54s (MX11_modulo l hw) ⟨(Nat.le_of_ble_eq_true rfl), (Nat.le_of_ble_eq_true rfl)⟩ rfl (Nat.le_of_ble_eq_true rfl) dX4_print_82 ⟨Nat.zero_le _, Nat.zero_le _⟩ rfl) (fun r19 σ18 hw => ?_)
  exact z_iret hG rfl rfl dX4_print_85 hw
-- TypeWheelTelegraph$Machine.checkLine(LTypeWheelTelegraph$Office;I)V
def wX3_checkLine_146 (ln : Nat → Nat) (Q : zS → Prop) (t0 : Nat) (tw0 : Nat) (vw1 : Int32) (vw2 : Int32) (σ : zS) : Prop := wX8_add ln σ tw0 vw1 vw2 (-1) (fun σ1 => ∃ j2 : Nat, gr σ1 t0 13 = some j2 ∧ wX7_clear ln σ1 j2 (fun σ3 => Q σ3))
def wX3_checkLine_121 (ln : Nat → Nat) (Q : zS → Prop) (t0 : Nat) (v3 : Int32) (σ : zS) : Prop := ∃ j1 : Nat, gr σ t0 14 = some j1 ∧ ∃ j2 : Nat, gr σ t0 0 = some j2 ∧ ((v3 = 0 → wX3_checkLine_146 ln Q t0 j1 ((gi σ t0 1) + (gi σ j2 1)) 2 σ) ∧ (¬ v3 = 0 → wX3_checkLine_146 ln Q t0 j1 ((gi σ t0 1) + (gi σ j2 1)) 1 σ))
def wX3_checkLine_43 (ln : Nat → Nat) (Q : zS → Prop) : Nat → Nat → Nat → Int32 → Nat → Int32 → zS → Prop
  | 0, _, _, _, _, _, _ => False
  | n + 1, t0, t1, v3, t4, v5, σ => wX9_size ln σ t4 (fun r2 σ1 => ((r2 ≤ v5 → ∃ j3 : Nat, gr σ1 t1 7 = some j3 ∧ wX9_add ln σ1 j3 47 (fun σ4 => ∃ j5 : Nat, gr σ4 t0 15 = some j5 ∧ wX9_size ln σ4 t4 (fun r7 σ6 => ∀ x8 : Int32, x8 = gi σ4 t0 1 → wX8_add ln σ6 j5 x8 1 r7 (fun σ9 => wX3_checkLine_121 ln Q t0 v3 σ9)))) ∧ (¬ r2 ≤ v5 → ∃ j10 : Nat, gr σ1 t1 7 = some j10 ∧ wX9_get ln σ1 t4 v5 (fun r12 σ11 => wX9_add ln σ11 j10 r12 (fun σ13 => ∀ x14 : Int32, x14 = v5 + 1 → (wX3_checkLine_43 ln Q n) t0 t1 v3 t4 x14 σ13)))))
def wX3_checkLine_26 (ln : Nat → Nat) (Q : zS → Prop) (t0 : Nat) (t1 : Nat) (vw0 : Int32) (σ : zS) : Prop := ((vw0 = 0 → ∃ j1 : Nat, gr σ t0 15 = some j1 ∧ ∃ j2 : Nat, gr σ t0 13 = some j2 ∧ ∀ x3 : Int32, x3 = gi σ j2 1 → ∀ x4 : Int32, x4 = gi σ t0 1 → wX8_add ln σ j1 x4 2 x3 (fun σ5 => wX3_checkLine_121 ln Q t0 vw0 σ5)) ∧ (¬ vw0 = 0 → ∃ j6 : Nat, gr σ t0 13 = some j6 ∧ ∃ j7 : Nat, gr σ j6 0 = some j7 ∧ ∃ n8 : Nat, wX3_checkLine_43 ln Q n8 t0 t1 vw0 j7 0 σ))
def wX3_checkLine (ln : Nat → Nat) (σ : zS) (t0 : Nat) (t1 : Nat) (v2 : Int32) (Q : zS → Prop) : Prop := ∃ j1 : Nat, gr σ t0 13 = some j1 ∧ ∃ j2 : Nat, gr σ t0 0 = some j2 ∧ ∀ x3 : Int32, x3 = gi σ j2 0 → ∀ x4 : Int32, x4 = gi σ j1 1 → wX11_checkPosition ln σ x4 x3 (fun r6 σ5 => ((v2 = r6 → wX3_checkLine_26 ln Q t0 t1 1 σ5) ∧ (¬ v2 = r6 → wX3_checkLine_26 ln Q t0 t1 0 σ5)))
abbrev rX3_checkLine : Room := { frames := 3, cells := 0, slots := 0, locals := 64 }
set_option maxRecDepth 100000 in
set_option maxHeartbeats 4000000 in
theorem BX3_checkLine_146 {l : Launch} {E : zE} {Y : zY} {p : Program} {e : Env} {s : State} {m : MethodId} {args : Array Value} {below : List Frame} {meth : Method} {c : Code} (hG : zG E p l s m args meth c cX3_checkLine 6 RX3 none (zA Y s.heap.size)) {Q : zS → Prop} : ∀ (t0 : Nat) (tw0 : Nat) (vw1 : Int32) (vw2 : Int32) (σ : zS), wX3_checkLine_146 (zln Y) Q t0 tw0 vw1 vw2 σ → zT Y 3 t0 → zT Y 8 tw0 → WW E Y σ p l e rX3_checkLine s m args below meth c (zA Y s.heap.size) 6 0 0 (MQ below (va_Qv Q (zB E Y s.heap.size) (zA Y s.heap.size)) args s 0 0 (zA Y s.heap.size)) [(0, .ref (za Y t0))] 146 [.int vw2, .int vw1, .ref (za Y tw0)] := by
  intro t0 tw0 vw1 vw2 σ hw h0 hw0
  unfold wX3_checkLine_146 at hw
  refine z_iconst (v := (-1)) hG dX3_checkLine_146 (by decide) ?_
  refine z_callv hG (z_runV (As := [.int vw1, .int vw2, .int (-1)]) (st := []) hG k_X3_122 (MX8_add l hw0 hw) ⟨(Nat.le_of_ble_eq_true rfl), (Nat.le_of_ble_eq_true rfl)⟩ hw0 (T := TX8) (N := 4) rfl (by decide) rfl (Nat.le_of_ble_eq_true rfl) dX3_checkLine_147 ⟨Nat.zero_le _, Nat.zero_le _⟩ rfl) (fun σ1 hw => ?_)
  refine z_aload_n hG dX3_checkLine_150 rfl 0 rfl ?_
  obtain ⟨j2, ej2, hw⟩ := hw
  refine z_getr (kq := 7) hG f_X3_28 h0 rfl ej2 rfl (by decide) dX3_checkLine_151 (fun hj2 => ?_)
  refine z_callv hG (z_runV (As := []) (st := []) hG k_X3_118 (MX7_clear l hj2 hw) ⟨(Nat.le_of_ble_eq_true rfl), (Nat.le_of_ble_eq_true rfl)⟩ hj2 (T := TX7) (N := 4) rfl (by decide) rfl (Nat.le_of_ble_eq_true rfl) dX3_checkLine_154 ⟨Nat.zero_le _, Nat.zero_le _⟩ rfl) (fun σ3 hw => ?_)
  exact z_vret hG rfl dX3_checkLine_157 hw
set_option maxRecDepth 100000 in
set_option maxHeartbeats 4000000 in
theorem BX3_checkLine_121 {l : Launch} {E : zE} {Y : zY} {p : Program} {e : Env} {s : State} {m : MethodId} {args : Array Value} {below : List Frame} {meth : Method} {c : Code} (hG : zG E p l s m args meth c cX3_checkLine 6 RX3 none (zA Y s.heap.size)) {Q : zS → Prop} : ∀ (t0 : Nat) (v3 : Int32) (σ : zS), wX3_checkLine_121 (zln Y) Q t0 v3 σ → zT Y 3 t0 → WW E Y σ p l e rX3_checkLine s m args below meth c (zA Y s.heap.size) 6 0 0 (MQ below (va_Qv Q (zB E Y s.heap.size) (zA Y s.heap.size)) args s 0 0 (zA Y s.heap.size)) [(0, .ref (za Y t0)), (3, .int v3)] 121 [] := by
  intro t0 v3 σ hw h0
  unfold wX3_checkLine_121 at hw
  refine z_aload_n hG dX3_checkLine_121 rfl 0 rfl ?_
  obtain ⟨j1, ej1, hw⟩ := hw
  refine z_getr (kq := 8) hG f_X3_37 h0 rfl ej1 rfl (by decide) dX3_checkLine_122 (fun hj1 => ?_)
  refine z_aload_n hG dX3_checkLine_125 rfl 0 rfl ?_
  refine z_geti hG f_X3_59 h0 rfl dX3_checkLine_126 ?_
  refine z_aload_n hG dX3_checkLine_129 rfl 0 rfl ?_
  obtain ⟨j2, ej2, hw⟩ := hw
  refine z_getr (kq := 6) hG f_X3_55 h0 rfl ej2 rfl (by decide) dX3_checkLine_130 (fun hj2 => ?_)
  refine z_geti hG f_X3_119 hj2 rfl dX3_checkLine_133 ?_
  refine z_iadd hG dX3_checkLine_136 ?_
  refine z_iload_n hG dX3_checkLine_137 rfl 1 rfl ?_
  refine z_if_eq (tgt := 145) hG dX3_checkLine_138 (by decide) (fun c3 => ?_) (fun c3 => ?_)
  · have hw := hw.1 c3
    refine z_iconst (v := 2) hG dX3_checkLine_145 (by decide) ?_
    refine zpick [0] (lv' := [(0, .ref (za Y t0))]) rfl ?_
    exact BX3_checkLine_146 hG t0 j1 ((gi σ t0 1) + (gi σ j2 1)) 2 σ hw h0 hj1
  · have hw := hw.2 c3
    refine z_iconst (v := 1) hG dX3_checkLine_141 (by decide) ?_
    refine z_goto (tgt := 146) hG dX3_checkLine_142 (by decide) ?_
    refine zpick [0] (lv' := [(0, .ref (za Y t0))]) rfl ?_
    exact BX3_checkLine_146 hG t0 j1 ((gi σ t0 1) + (gi σ j2 1)) 1 σ hw h0 hj1
set_option maxRecDepth 100000 in
set_option maxHeartbeats 4000000 in
theorem BX3_checkLine_43 {l : Launch} {E : zE} {Y : zY} {p : Program} {e : Env} {s : State} {m : MethodId} {args : Array Value} {below : List Frame} {meth : Method} {c : Code} (hG : zG E p l s m args meth c cX3_checkLine 6 RX3 none (zA Y s.heap.size)) {Q : zS → Prop} : ∀ (n : Nat) (t0 : Nat) (t1 : Nat) (v3 : Int32) (t4 : Nat) (v5 : Int32) (σ : zS), wX3_checkLine_43 (zln Y) Q n t0 t1 v3 t4 v5 σ → zT Y 3 t0 → zT Y 4 t1 → zT Y 9 t4 → WW E Y σ p l e rX3_checkLine s m args below meth c (zA Y s.heap.size) 6 0 0 (MQ below (va_Qv Q (zB E Y s.heap.size) (zA Y s.heap.size)) args s 0 0 (zA Y s.heap.size)) [(0, .ref (za Y t0)), (1, .ref (za Y t1)), (3, .int v3), (4, .ref (za Y t4)), (5, .int v5)] 43 [] := by
  intro n
  induction n with
  | zero => intro t0 t1 v3 t4 v5 σ hw
            exact hw.elim
  | succ n ih =>
    intro t0 t1 v3 t4 v5 σ hw h0 h1 h4
    rw [wX3_checkLine_43] at hw
    refine z_iload hG dX3_checkLine_43 4 rfl ?_
    refine z_aload hG dX3_checkLine_45 3 rfl ?_
    refine z_calli hG (z_runV (As := []) (st := [.int v5]) hG k_X3_205 (MX9_size l h4 hw) ⟨(Nat.le_of_ble_eq_true rfl), (Nat.le_of_ble_eq_true rfl)⟩ h4 (T := TX9) (N := 2) rfl (by decide) rfl (Nat.le_of_ble_eq_true rfl) dX3_checkLine_47 ⟨Nat.zero_le _, Nat.zero_le _⟩ rfl) (fun r2 σ1 hw => ?_)
    refine z_icmp_ge (tgt := 73) hG dX3_checkLine_50 (by decide) (fun c15 => ?_) (fun c15 => ?_)
    · have hw := hw.1 c15
      refine z_aload_n hG dX3_checkLine_73 rfl 1 rfl ?_
      obtain ⟨j3, ej3, hw⟩ := hw
      refine z_getr (kq := 9) hG f_X3_206 h1 rfl ej3 rfl (by decide) dX3_checkLine_74 (fun hj3 => ?_)
      refine z_bipush (v := 47) hG dX3_checkLine_77 (by decide) ?_
      refine z_callv hG (z_runV (As := [.int 47]) (st := []) hG k_X3_212 (MX9_add l hj3 hw) ⟨(Nat.le_of_ble_eq_true rfl), (Nat.le_of_ble_eq_true rfl)⟩ hj3 (T := TX9) (N := 2) rfl (by decide) rfl (Nat.le_of_ble_eq_true rfl) dX3_checkLine_79 ⟨Nat.zero_le _, Nat.zero_le _⟩ rfl) (fun σ4 hw => ?_)
      refine z_aload_n hG dX3_checkLine_82 rfl 0 rfl ?_
      obtain ⟨j5, ej5, hw⟩ := hw
      refine z_getr (kq := 8) hG f_X3_41 h0 rfl ej5 rfl (by decide) dX3_checkLine_83 (fun hj5 => ?_)
      refine z_aload_n hG dX3_checkLine_86 rfl 0 rfl ?_
      refine z_geti hG f_X3_59 h0 rfl dX3_checkLine_87 ?_
      refine z_iconst (v := 1) hG dX3_checkLine_90 (by decide) ?_
      refine z_aload hG dX3_checkLine_91 3 rfl ?_
      refine z_calli hG (z_runV (As := []) (st := [.int 1, .int (gi σ4 t0 1), .ref (za Y j5)]) hG k_X3_205 (MX9_size l h4 hw) ⟨(Nat.le_of_ble_eq_true rfl), (Nat.le_of_ble_eq_true rfl)⟩ h4 (T := TX9) (N := 2) rfl (by decide) rfl (Nat.le_of_ble_eq_true rfl) dX3_checkLine_93 ⟨Nat.zero_le _, Nat.zero_le _⟩ rfl) (fun r7 σ6 hw => ?_)
      obtain ⟨x8, ex8⟩ : ∃ y : Int32, y = gi σ4 t0 1 := ⟨_, rfl⟩
      refine zst (st' := [.int r7, .int 1, .int x8, .ref (za Y j5)]) (by rw [ex8]) ?_
      have hw := hw x8 ex8
      refine z_callv hG (z_runV (As := [.int x8, .int 1, .int r7]) (st := []) hG k_X3_122 (MX8_add l hj5 hw) ⟨(Nat.le_of_ble_eq_true rfl), (Nat.le_of_ble_eq_true rfl)⟩ hj5 (T := TX8) (N := 4) rfl (by decide) rfl (Nat.le_of_ble_eq_true rfl) dX3_checkLine_96 ⟨Nat.zero_le _, Nat.zero_le _⟩ rfl) (fun σ9 hw => ?_)
      refine z_goto (tgt := 121) hG dX3_checkLine_99 (by decide) ?_
      refine zpick [0, 2] (lv' := [(0, .ref (za Y t0)), (3, .int v3)]) rfl ?_
      exact BX3_checkLine_121 hG t0 v3 σ9 hw h0
    · have hw := hw.2 c15
      refine z_aload_n hG dX3_checkLine_53 rfl 1 rfl ?_
      obtain ⟨j10, ej10, hw⟩ := hw
      refine z_getr (kq := 9) hG f_X3_206 h1 rfl ej10 rfl (by decide) dX3_checkLine_54 (fun hj10 => ?_)
      refine z_aload hG dX3_checkLine_57 3 rfl ?_
      refine z_iload hG dX3_checkLine_59 4 rfl ?_
      refine z_calli hG (z_runV (As := [.int v5]) (st := [.ref (za Y j10)]) hG k_X3_209 (MX9_get l h4 hw) ⟨(Nat.le_of_ble_eq_true rfl), (Nat.le_of_ble_eq_true rfl)⟩ h4 (T := TX9) (N := 2) rfl (by decide) rfl (Nat.le_of_ble_eq_true rfl) dX3_checkLine_61 ⟨Nat.zero_le _, Nat.zero_le _⟩ rfl) (fun r12 σ11 hw => ?_)
      refine z_callv hG (z_runV (As := [.int r12]) (st := []) hG k_X3_212 (MX9_add l hj10 hw) ⟨(Nat.le_of_ble_eq_true rfl), (Nat.le_of_ble_eq_true rfl)⟩ hj10 (T := TX9) (N := 2) rfl (by decide) rfl (Nat.le_of_ble_eq_true rfl) dX3_checkLine_64 ⟨Nat.zero_le _, Nat.zero_le _⟩ rfl) (fun σ13 hw => ?_)
      obtain ⟨x14, ex14⟩ : ∃ y : Int32, y = v5 + 1 := ⟨_, rfl⟩
      have hw := hw x14 ex14
      refine z_iinc (v := x14) (lv' := [(5, .int x14), (0, .ref (za Y t0)), (1, .ref (za Y t1)), (3, .int v3), (4, .ref (za Y t4))]) hG dX3_checkLine_67 4 rfl (by rw [ex14]; rfl) (by decide) rfl ?_
      refine z_goto (tgt := 43) hG dX3_checkLine_70 (by decide) ?_
      refine zpick [1, 2, 3, 4, 0] (lv' := [(0, .ref (za Y t0)), (1, .ref (za Y t1)), (3, .int v3), (4, .ref (za Y t4)), (5, .int x14)]) rfl ?_
      exact ih t0 t1 v3 t4 x14 σ13 hw h0 h1 h4
set_option maxRecDepth 100000 in
set_option maxHeartbeats 4000000 in
theorem BX3_checkLine_26 {l : Launch} {E : zE} {Y : zY} {p : Program} {e : Env} {s : State} {m : MethodId} {args : Array Value} {below : List Frame} {meth : Method} {c : Code} (hG : zG E p l s m args meth c cX3_checkLine 6 RX3 none (zA Y s.heap.size)) {Q : zS → Prop} : ∀ (t0 : Nat) (t1 : Nat) (vw0 : Int32) (σ : zS), wX3_checkLine_26 (zln Y) Q t0 t1 vw0 σ → zT Y 3 t0 → zT Y 4 t1 → WW E Y σ p l e rX3_checkLine s m args below meth c (zA Y s.heap.size) 6 0 0 (MQ below (va_Qv Q (zB E Y s.heap.size) (zA Y s.heap.size)) args s 0 0 (zA Y s.heap.size)) [(0, .ref (za Y t0)), (1, .ref (za Y t1))] 26 [.int vw0] := by
  intro t0 t1 vw0 σ hw h0 h1
  unfold wX3_checkLine_26 at hw
  refine z_istore_n (lv' := [(3, .int vw0), (0, .ref (za Y t0)), (1, .ref (za Y t1))]) hG dX3_checkLine_26 rfl (by decide) rfl ?_
  refine z_iload_n hG dX3_checkLine_27 rfl 0 rfl ?_
  refine z_if_eq (tgt := 102) hG dX3_checkLine_28 (by decide) (fun c9 => ?_) (fun c9 => ?_)
  · have hw := hw.1 c9
    refine z_aload_n hG dX3_checkLine_102 rfl 1 rfl ?_
    obtain ⟨j1, ej1, hw⟩ := hw
    refine z_getr (kq := 8) hG f_X3_41 h0 rfl ej1 rfl (by decide) dX3_checkLine_103 (fun hj1 => ?_)
    refine z_aload_n hG dX3_checkLine_106 rfl 1 rfl ?_
    refine z_geti hG f_X3_59 h0 rfl dX3_checkLine_107 ?_
    refine z_iconst (v := 2) hG dX3_checkLine_110 (by decide) ?_
    refine z_aload_n hG dX3_checkLine_111 rfl 1 rfl ?_
    obtain ⟨j2, ej2, hw⟩ := hw
    refine z_getr (kq := 7) hG f_X3_28 h0 rfl ej2 rfl (by decide) dX3_checkLine_112 (fun hj2 => ?_)
    refine z_geti hG f_X3_196 hj2 rfl dX3_checkLine_115 ?_
    refine z_topi (fun x3 ex3 => ?_)
    have hw := hw x3 ex3
    obtain ⟨x4, ex4⟩ : ∃ y : Int32, y = gi σ t0 1 := ⟨_, rfl⟩
    refine zst (st' := [.int x3, .int 2, .int x4, .ref (za Y j1)]) (by rw [ex4]) ?_
    have hw := hw x4 ex4
    refine z_callv hG (z_runV (As := [.int x4, .int 2, .int x3]) (st := []) hG k_X3_122 (MX8_add l hj1 hw) ⟨(Nat.le_of_ble_eq_true rfl), (Nat.le_of_ble_eq_true rfl)⟩ hj1 (T := TX8) (N := 4) rfl (by decide) rfl (Nat.le_of_ble_eq_true rfl) dX3_checkLine_118 ⟨Nat.zero_le _, Nat.zero_le _⟩ rfl) (fun σ5 hw => ?_)
    refine zpick [1, 0] (lv' := [(0, .ref (za Y t0)), (3, .int vw0)]) rfl ?_
    exact BX3_checkLine_121 hG t0 vw0 σ5 hw h0
  · have hw := hw.2 c9
    refine z_aload_n hG dX3_checkLine_31 rfl 1 rfl ?_
    obtain ⟨j6, ej6, hw⟩ := hw
    refine z_getr (kq := 7) hG f_X3_28 h0 rfl ej6 rfl (by decide) dX3_checkLine_32 (fun hj6 => ?_)
    obtain ⟨j7, ej7, hw⟩ := hw
    refine z_getr (kq := 9) hG f_X3_202 hj6 rfl ej7 rfl (by decide) dX3_checkLine_35 (fun hj7 => ?_)
    refine z_astore (lv' := [(4, .ref (za Y j7)), (3, .int vw0), (0, .ref (za Y t0)), (1, .ref (za Y t1))]) hG dX3_checkLine_38 (by decide) rfl ?_
    refine z_iconst (v := 0) hG dX3_checkLine_40 (by decide) ?_
    refine z_istore (lv' := [(5, .int 0), (4, .ref (za Y j7)), (3, .int vw0), (0, .ref (za Y t0)), (1, .ref (za Y t1))]) hG dX3_checkLine_41 (by decide) rfl ?_
    obtain ⟨n8, hw⟩ := hw
    refine zpick [3, 4, 2, 1, 0] (lv' := [(0, .ref (za Y t0)), (1, .ref (za Y t1)), (3, .int vw0), (4, .ref (za Y j7)), (5, .int 0)]) rfl ?_
    exact BX3_checkLine_43 hG n8 t0 t1 vw0 j7 0 σ hw h0 h1 hj7
set_option maxRecDepth 100000 in
set_option maxHeartbeats 4000000 in
theorem MX3_checkLine (l : Launch) {E : zE} {Y : zY} {σ : zS} {t0 : Nat} {t1 : Nat} {v2 : Int32} (h0 : zT Y 3 t0) (h1 : zT Y 4 t1) {Q : zS → Prop} (hw : wX3_checkLine (zln Y) σ t0 t1 v2 Q) : ∀ sz, Met l yX3_checkLine (zw yX3_checkLine cX3_checkLine 6 none) rX3_checkLine (zPc E Y σ sz [.ref (za Y t0), .ref (za Y t1), .int v2]) (va_Qv Q (zB E Y sz) (zA Y sz)) 0 0 (zA Y sz) := by
  refine z_met (own := RX3) (Qc := fun sz => va_Qv Q (zB E Y sz) (zA Y sz)) (by decide +kernel) rfl (Nat.le_of_ble_eq_true rfl) ?_
  intro p e s m args below meth c hG hinit
  unfold wX3_checkLine at hw
  refine zlv (lv' := [(0, .ref (za Y t0)), (1, .ref (za Y t1)), (2, .int v2)]) rfl ?_
  refine z_iload_n hG dX3_checkLine_0 rfl 2 rfl ?_
  refine z_aload_n hG dX3_checkLine_1 rfl 0 rfl ?_
  obtain ⟨j1, ej1, hw⟩ := hw
  refine z_getr (kq := 7) hG f_X3_28 h0 rfl ej1 rfl (by decide) dX3_checkLine_2 (fun hj1 => ?_)
  refine z_geti hG f_X3_196 hj1 rfl dX3_checkLine_5 ?_
  refine z_aload_n hG dX3_checkLine_8 rfl 0 rfl ?_
  obtain ⟨j2, ej2, hw⟩ := hw
  refine z_getr (kq := 6) hG f_X3_55 h0 rfl ej2 rfl (by decide) dX3_checkLine_9 (fun hj2 => ?_)
  refine z_geti hG f_X3_177 hj2 rfl dX3_checkLine_12 ?_
  refine z_topi (fun x3 ex3 => ?_)
  have hw := hw x3 ex3
  obtain ⟨x4, ex4⟩ : ∃ y : Int32, y = gi σ j1 1 := ⟨_, rfl⟩
  refine zst (st' := [.int x3, .int x4, .int v2]) (by rw [ex4]) ?_
  have hw := hw x4 ex4
  refine z_calli hG (z_runSN (As := [.int x4, .int x3]) (st := [.int v2]) hG k_X3_199 k_X3_199s (MX11_checkPosition l hw) ⟨(Nat.le_of_ble_eq_true rfl), (Nat.le_of_ble_eq_true rfl)⟩ rfl (Nat.le_of_ble_eq_true rfl) dX3_checkLine_15 ⟨Nat.zero_le _, Nat.zero_le _⟩ rfl) (fun r6 σ5 hw => ?_)
  refine z_icmp_ne (tgt := 25) hG dX3_checkLine_18 (by decide) (fun c7 => ?_) (fun c7 => ?_)
  · have hw := hw.2 c7
    refine z_iconst (v := 0) hG dX3_checkLine_25 (by decide) ?_
    refine zpick [0, 1] (lv' := [(0, .ref (za Y t0)), (1, .ref (za Y t1))]) rfl ?_
    exact BX3_checkLine_26 hG t0 t1 0 σ5 hw h0 h1
  · have hw := hw.1 c7
    refine z_iconst (v := 1) hG dX3_checkLine_21 (by decide) ?_
    refine z_goto (tgt := 26) hG dX3_checkLine_22 (by decide) ?_
    refine zpick [0, 1] (lv' := [(0, .ref (za Y t0)), (1, .ref (za Y t1))]) rfl ?_
    exact BX3_checkLine_26 hG t0 t1 1 σ5 hw h0 h1
-- TypeWheelTelegraph$Machine.endLine(Z)V
def wX3_endLine_84 (ln : Nat → Nat) (Q : zS → Prop) (t0 : Nat) (t2 : Nat) (σ : zS) : Prop := ∀ x1 : Int32, x1 = (gi σ t2 2) + 1 → ∀ σ2 : zS, σ2 = si σ t2 2 x1 → ∀ σ3 : zS, σ3 = si σ2 t0 7 0 → ∃ j4 : Nat, gr σ3 t0 0 = some j4 ∧ ∀ x5 : Int32, x5 = gi σ3 t0 3 → wX6_desk ln σ3 j4 x5 (fun r7 σ6 => (((gi σ3 t2 2) < (gi σ6 r7 2) → Q σ6) ∧ (¬ (gi σ3 t2 2) < (gi σ6 r7 2) → ∃ j8 : Nat, gr σ6 t0 15 = some j8 ∧ ∀ x9 : Int32, x9 = gi σ6 t0 3 → ∀ x10 : Int32, x10 = gi σ6 t0 1 → wX8_add ln σ6 j8 x10 6 x9 (fun σ11 => wX3_endTransmission ln σ11 t0 (fun σ12 => Q σ12)))))
def wX3_endLine_64 (ln : Nat → Nat) (Q : zS → Prop) (t0 : Nat) (v1 : Int32) (t2 : Nat) (σ : zS) : Prop := ((v1 = 0 → ∃ j1 : Nat, gr σ t0 15 = some j1 ∧ ∀ x2 : Int32, x2 = gi σ t2 2 → ∀ x3 : Int32, x3 = gi σ t0 1 → wX8_add ln σ j1 x3 4 x2 (fun σ4 => wX3_endLine_84 ln Q t0 t2 σ4)) ∧ (¬ v1 = 0 → wX3_endLine_84 ln Q t0 t2 σ))
def wX3_endLine (ln : Nat → Nat) (σ : zS) (t0 : Nat) (v1 : Int32) (Q : zS → Prop) : Prop := ∀ x1 : Int32, x1 = gi σ t0 3 → wX3_office ln σ t0 x1 (fun r3 σ2 => ∀ σ4 : zS, σ4 = si σ2 t0 4 0 → ∀ σ5 : zS, σ5 = si σ4 t0 6 0 → ((v1 = 0 → ∃ j6 : Nat, gr σ5 t0 0 = some j6 ∧ (((gi σ5 j6 4) ≤ (gi σ5 t0 7) → wX3_endLine_64 ln Q t0 v1 r3 σ5) ∧ (¬ (gi σ5 j6 4) ≤ (gi σ5 t0 7) → ∀ x7 : Int32, x7 = (gi σ5 t0 7) + 1 → ∀ σ8 : zS, σ8 = si σ5 t0 7 x7 → ∃ j9 : Nat, gr σ8 t0 15 = some j9 ∧ ∀ x10 : Int32, x10 = gi σ8 r3 2 → ∀ x11 : Int32, x11 = gi σ8 t0 1 → wX8_add ln σ8 j9 x11 3 x10 (fun σ12 => Q σ12)))) ∧ (¬ v1 = 0 → wX3_endLine_64 ln Q t0 v1 r3 σ5)))
abbrev rX3_endLine : Room := { frames := 3, cells := 0, slots := 0, locals := 60 }
set_option maxRecDepth 100000 in
set_option maxHeartbeats 4000000 in
theorem BX3_endLine_84 {l : Launch} {E : zE} {Y : zY} {p : Program} {e : Env} {s : State} {m : MethodId} {args : Array Value} {below : List Frame} {meth : Method} {c : Code} (hG : zG E p l s m args meth c cX3_endLine 3 RX3 none (zA Y s.heap.size)) {Q : zS → Prop} : ∀ (t0 : Nat) (t2 : Nat) (σ : zS), wX3_endLine_84 (zln Y) Q t0 t2 σ → zT Y 3 t0 → zT Y 4 t2 → WW E Y σ p l e rX3_endLine s m args below meth c (zA Y s.heap.size) 3 0 0 (MQ below (va_Qv Q (zB E Y s.heap.size) (zA Y s.heap.size)) args s 0 0 (zA Y s.heap.size)) [(0, .ref (za Y t0)), (2, .ref (za Y t2))] 84 [] := by
  intro t0 t2 σ hw h0 h2
  unfold wX3_endLine_84 at hw
  refine z_aload_n hG dX3_endLine_84 rfl 1 rfl ?_
  refine z_dup hG dX3_endLine_85 rfl ?_
  refine z_geti hG f_X3_174 h2 rfl dX3_endLine_86 ?_
  refine z_iconst (v := 1) hG dX3_endLine_89 (by decide) ?_
  refine z_iadd hG dX3_endLine_90 ?_
  refine z_topi (fun x1 ex1 => ?_)
  have hw := hw x1 ex1
  refine z_puti hG f_X3_174 h2 rfl rfl (zN_int _) dX3_endLine_91 ?_
  refine z_topσ (fun σ2 eσ2 => ?_)
  have hw := hw σ2 eσ2
  refine z_aload_n hG dX3_endLine_94 rfl 0 rfl ?_
  refine z_iconst (v := 0) hG dX3_endLine_95 (by decide) ?_
  refine z_puti hG f_X3_106 h0 rfl rfl (zN_int _) dX3_endLine_96 ?_
  refine z_topσ (fun σ3 eσ3 => ?_)
  have hw := hw σ3 eσ3
  refine z_aload_n hG dX3_endLine_99 rfl 1 rfl ?_
  refine z_geti hG f_X3_174 h2 rfl dX3_endLine_100 ?_
  refine z_aload_n hG dX3_endLine_103 rfl 0 rfl ?_
  obtain ⟨j4, ej4, hw⟩ := hw
  refine z_getr (kq := 6) hG f_X3_55 h0 rfl ej4 rfl (by decide) dX3_endLine_104 (fun hj4 => ?_)
  refine z_aload_n hG dX3_endLine_107 rfl 0 rfl ?_
  refine z_geti hG f_X3_9 h0 rfl dX3_endLine_108 ?_
  refine z_topi (fun x5 ex5 => ?_)
  have hw := hw x5 ex5
  refine z_callr hG (z_runV (As := [.int x5]) (st := [.int (gi σ3 t2 2)]) hG k_X3_230 (MX6_desk l hj4 hw) ⟨(Nat.le_of_ble_eq_true rfl), (Nat.le_of_ble_eq_true rfl)⟩ hj4 (T := TX6) (N := 8) rfl (by decide) rfl (Nat.le_of_ble_eq_true rfl) dX3_endLine_111 ⟨Nat.zero_le _, Nat.zero_le _⟩ rfl) (fun r7 σ6 hr7 hw => ?_)
  refine z_geti hG f_X3_247 hr7 rfl dX3_endLine_114 ?_
  refine z_icmp_lt (tgt := 141) hG dX3_endLine_117 (by decide) (fun c13 => ?_) (fun c13 => ?_)
  · have hw := hw.1 c13
    exact z_vret hG rfl dX3_endLine_141 hw
  · have hw := hw.2 c13
    refine z_aload_n hG dX3_endLine_120 rfl 0 rfl ?_
    obtain ⟨j8, ej8, hw⟩ := hw
    refine z_getr (kq := 8) hG f_X3_41 h0 rfl ej8 rfl (by decide) dX3_endLine_121 (fun hj8 => ?_)
    refine z_aload_n hG dX3_endLine_124 rfl 0 rfl ?_
    refine z_geti hG f_X3_59 h0 rfl dX3_endLine_125 ?_
    refine z_bipush (v := 6) hG dX3_endLine_128 (by decide) ?_
    refine z_aload_n hG dX3_endLine_130 rfl 0 rfl ?_
    refine z_geti hG f_X3_9 h0 rfl dX3_endLine_131 ?_
    refine z_topi (fun x9 ex9 => ?_)
    have hw := hw x9 ex9
    obtain ⟨x10, ex10⟩ : ∃ y : Int32, y = gi σ6 t0 1 := ⟨_, rfl⟩
    refine zst (st' := [.int x9, .int 6, .int x10, .ref (za Y j8)]) (by rw [ex10]) ?_
    have hw := hw x10 ex10
    refine z_callv hG (z_runV (As := [.int x10, .int 6, .int x9]) (st := []) hG k_X3_122 (MX8_add l hj8 hw) ⟨(Nat.le_of_ble_eq_true rfl), (Nat.le_of_ble_eq_true rfl)⟩ hj8 (T := TX8) (N := 4) rfl (by decide) rfl (Nat.le_of_ble_eq_true rfl) dX3_endLine_134 ⟨Nat.zero_le _, Nat.zero_le _⟩ rfl) (fun σ11 hw => ?_)
    refine z_aload_n hG dX3_endLine_137 rfl 0 rfl ?_
    refine z_callv hG (z_runV (As := []) (st := []) hG k_X3_93 (MX3_endTransmission l h0 hw) ⟨(Nat.le_of_ble_eq_true rfl), (Nat.le_of_ble_eq_true rfl)⟩ h0 (T := TX3) (N := 17) rfl (by decide) rfl (Nat.le_of_ble_eq_true rfl) dX3_endLine_138 ⟨Nat.zero_le _, Nat.zero_le _⟩ rfl) (fun σ12 hw => ?_)
    exact z_vret hG rfl dX3_endLine_141 hw
set_option maxRecDepth 100000 in
set_option maxHeartbeats 4000000 in
theorem BX3_endLine_64 {l : Launch} {E : zE} {Y : zY} {p : Program} {e : Env} {s : State} {m : MethodId} {args : Array Value} {below : List Frame} {meth : Method} {c : Code} (hG : zG E p l s m args meth c cX3_endLine 3 RX3 none (zA Y s.heap.size)) {Q : zS → Prop} : ∀ (t0 : Nat) (v1 : Int32) (t2 : Nat) (σ : zS), wX3_endLine_64 (zln Y) Q t0 v1 t2 σ → zT Y 3 t0 → zT Y 4 t2 → WW E Y σ p l e rX3_endLine s m args below meth c (zA Y s.heap.size) 3 0 0 (MQ below (va_Qv Q (zB E Y s.heap.size) (zA Y s.heap.size)) args s 0 0 (zA Y s.heap.size)) [(0, .ref (za Y t0)), (1, .int v1), (2, .ref (za Y t2))] 64 [] := by
  intro t0 v1 t2 σ hw h0 h2
  unfold wX3_endLine_64 at hw
  refine z_iload_n hG dX3_endLine_64 rfl 1 rfl ?_
  refine z_if_ne (tgt := 84) hG dX3_endLine_65 (by decide) (fun c5 => ?_) (fun c5 => ?_)
  · have hw := hw.2 c5
    refine zpick [0, 2] (lv' := [(0, .ref (za Y t0)), (2, .ref (za Y t2))]) rfl ?_
    exact BX3_endLine_84 hG t0 t2 σ hw h0 h2
  · have hw := hw.1 c5
    refine z_aload_n hG dX3_endLine_68 rfl 0 rfl ?_
    obtain ⟨j1, ej1, hw⟩ := hw
    refine z_getr (kq := 8) hG f_X3_41 h0 rfl ej1 rfl (by decide) dX3_endLine_69 (fun hj1 => ?_)
    refine z_aload_n hG dX3_endLine_72 rfl 0 rfl ?_
    refine z_geti hG f_X3_59 h0 rfl dX3_endLine_73 ?_
    refine z_iconst (v := 4) hG dX3_endLine_76 (by decide) ?_
    refine z_aload_n hG dX3_endLine_77 rfl 2 rfl ?_
    refine z_geti hG f_X3_174 h2 rfl dX3_endLine_78 ?_
    refine z_topi (fun x2 ex2 => ?_)
    have hw := hw x2 ex2
    obtain ⟨x3, ex3⟩ : ∃ y : Int32, y = gi σ t0 1 := ⟨_, rfl⟩
    refine zst (st' := [.int x2, .int 4, .int x3, .ref (za Y j1)]) (by rw [ex3]) ?_
    have hw := hw x3 ex3
    refine z_callv hG (z_runV (As := [.int x3, .int 4, .int x2]) (st := []) hG k_X3_122 (MX8_add l hj1 hw) ⟨(Nat.le_of_ble_eq_true rfl), (Nat.le_of_ble_eq_true rfl)⟩ hj1 (T := TX8) (N := 4) rfl (by decide) rfl (Nat.le_of_ble_eq_true rfl) dX3_endLine_81 ⟨Nat.zero_le _, Nat.zero_le _⟩ rfl) (fun σ4 hw => ?_)
    refine zpick [0, 2] (lv' := [(0, .ref (za Y t0)), (2, .ref (za Y t2))]) rfl ?_
    exact BX3_endLine_84 hG t0 t2 σ4 hw h0 h2
set_option maxRecDepth 100000 in
set_option maxHeartbeats 4000000 in
theorem MX3_endLine (l : Launch) {E : zE} {Y : zY} {σ : zS} {t0 : Nat} {v1 : Int32} (h0 : zT Y 3 t0) {Q : zS → Prop} (hw : wX3_endLine (zln Y) σ t0 v1 Q) : ∀ sz, Met l yX3_endLine (zw yX3_endLine cX3_endLine 3 none) rX3_endLine (zPc E Y σ sz [.ref (za Y t0), .int v1]) (va_Qv Q (zB E Y sz) (zA Y sz)) 0 0 (zA Y sz) := by
  refine z_met (own := RX3) (Qc := fun sz => va_Qv Q (zB E Y sz) (zA Y sz)) (by decide +kernel) rfl (Nat.le_of_ble_eq_true rfl) ?_
  intro p e s m args below meth c hG hinit
  unfold wX3_endLine at hw
  refine zlv (lv' := [(0, .ref (za Y t0)), (1, .int v1)]) rfl ?_
  refine z_aload_n hG dX3_endLine_0 rfl 0 rfl ?_
  refine z_aload_n hG dX3_endLine_1 rfl 0 rfl ?_
  refine z_geti hG f_X3_9 h0 rfl dX3_endLine_2 ?_
  refine z_topi (fun x1 ex1 => ?_)
  have hw := hw x1 ex1
  refine z_callr hG (z_runV (As := [.int x1]) (st := []) hG k_X3_170 (MX3_office l h0 hw) ⟨(Nat.le_of_ble_eq_true rfl), (Nat.le_of_ble_eq_true rfl)⟩ h0 (T := TX3) (N := 17) rfl (by decide) rfl (Nat.le_of_ble_eq_true rfl) dX3_endLine_5 ⟨Nat.zero_le _, Nat.zero_le _⟩ rfl) (fun r3 σ2 hr3 hw => ?_)
  refine z_astore_n (lv' := [(2, .ref (za Y r3)), (0, .ref (za Y t0)), (1, .int v1)]) hG dX3_endLine_8 rfl (by decide) rfl ?_
  refine z_aload_n hG dX3_endLine_9 rfl 1 rfl ?_
  refine z_iconst (v := 0) hG dX3_endLine_10 (by decide) ?_
  refine z_puti hG f_X3_96 h0 rfl rfl (zN_b (by decide)) dX3_endLine_11 ?_
  refine z_topσ (fun σ4 eσ4 => ?_)
  have hw := hw σ4 eσ4
  refine z_aload_n hG dX3_endLine_14 rfl 1 rfl ?_
  refine z_iconst (v := 0) hG dX3_endLine_15 (by decide) ?_
  refine z_puti hG f_X3_103 h0 rfl rfl (zN_int _) dX3_endLine_16 ?_
  refine z_topσ (fun σ5 eσ5 => ?_)
  have hw := hw σ5 eσ5
  refine z_iload_n hG dX3_endLine_19 rfl 2 rfl ?_
  refine z_if_ne (tgt := 64) hG dX3_endLine_20 (by decide) (fun c14 => ?_) (fun c14 => ?_)
  · have hw := hw.2 c14
    refine zpick [1, 2, 0] (lv' := [(0, .ref (za Y t0)), (1, .int v1), (2, .ref (za Y r3))]) rfl ?_
    exact BX3_endLine_64 hG t0 v1 r3 σ5 hw h0 hr3
  · have hw := hw.1 c14
    refine z_aload_n hG dX3_endLine_23 rfl 1 rfl ?_
    refine z_geti hG f_X3_106 h0 rfl dX3_endLine_24 ?_
    refine z_aload_n hG dX3_endLine_27 rfl 1 rfl ?_
    obtain ⟨j6, ej6, hw⟩ := hw
    refine z_getr (kq := 6) hG f_X3_55 h0 rfl ej6 rfl (by decide) dX3_endLine_28 (fun hj6 => ?_)
    refine z_geti hG f_X3_244 hj6 rfl dX3_endLine_31 ?_
    refine z_icmp_ge (tgt := 64) hG dX3_endLine_34 (by decide) (fun c13 => ?_) (fun c13 => ?_)
    · have hw := hw.1 c13
      refine zpick [1, 2, 0] (lv' := [(0, .ref (za Y t0)), (1, .int v1), (2, .ref (za Y r3))]) rfl ?_
      exact BX3_endLine_64 hG t0 v1 r3 σ5 hw h0 hr3
    · have hw := hw.2 c13
      refine z_aload_n hG dX3_endLine_37 rfl 1 rfl ?_
      refine z_dup hG dX3_endLine_38 rfl ?_
      refine z_geti hG f_X3_106 h0 rfl dX3_endLine_39 ?_
      refine z_iconst (v := 1) hG dX3_endLine_42 (by decide) ?_
      refine z_iadd hG dX3_endLine_43 ?_
      refine z_topi (fun x7 ex7 => ?_)
      have hw := hw x7 ex7
      refine z_puti hG f_X3_106 h0 rfl rfl (zN_int _) dX3_endLine_44 ?_
      refine z_topσ (fun σ8 eσ8 => ?_)
      have hw := hw σ8 eσ8
      refine z_aload_n hG dX3_endLine_47 rfl 1 rfl ?_
      obtain ⟨j9, ej9, hw⟩ := hw
      refine z_getr (kq := 8) hG f_X3_41 h0 rfl ej9 rfl (by decide) dX3_endLine_48 (fun hj9 => ?_)
      refine z_aload_n hG dX3_endLine_51 rfl 1 rfl ?_
      refine z_geti hG f_X3_59 h0 rfl dX3_endLine_52 ?_
      refine z_iconst (v := 3) hG dX3_endLine_55 (by decide) ?_
      refine z_aload_n hG dX3_endLine_56 rfl 0 rfl ?_
      refine z_geti hG f_X3_174 hr3 rfl dX3_endLine_57 ?_
      refine z_topi (fun x10 ex10 => ?_)
      have hw := hw x10 ex10
      obtain ⟨x11, ex11⟩ : ∃ y : Int32, y = gi σ8 t0 1 := ⟨_, rfl⟩
      refine zst (st' := [.int x10, .int 3, .int x11, .ref (za Y j9)]) (by rw [ex11]) ?_
      have hw := hw x11 ex11
      refine z_callv hG (z_runV (As := [.int x11, .int 3, .int x10]) (st := []) hG k_X3_122 (MX8_add l hj9 hw) ⟨(Nat.le_of_ble_eq_true rfl), (Nat.le_of_ble_eq_true rfl)⟩ hj9 (T := TX8) (N := 4) rfl (by decide) rfl (Nat.le_of_ble_eq_true rfl) dX3_endLine_60 ⟨Nat.zero_le _, Nat.zero_le _⟩ rfl) (fun σ12 hw => ?_)
      exact z_vret hG rfl dX3_endLine_63 hw
-- TypeWheelTelegraph$Machine.takeSignal(I)V
def wX3_takeSignal_53 (ln : Nat → Nat) (Q : zS → Prop) (tw0 : Nat) (vw1 : Int32) (σ : zS) : Prop := wX3_endLine ln σ tw0 vw1 (fun σ1 => Q σ1)
def wX3_takeSignal (ln : Nat → Nat) (σ : zS) (t0 : Nat) (v1 : Int32) (Q : zS → Prop) : Prop := ((v1 = 3 → ∃ j3 : Nat, gr σ t0 15 = some j3 ∧ ∀ x4 : Int32, x4 = gi σ t0 3 → wX3_office ln σ t0 x4 (fun r6 σ5 => ∀ x7 : Int32, x7 = gi σ5 r6 2 → ∀ x8 : Int32, x8 = gi σ t0 1 → wX8_add ln σ5 j3 x8 5 x7 (fun σ9 => wX3_endTransmission ln σ9 t0 (fun σ10 => Q σ10)))) ∧ (¬ v1 = 3 → (((gi σ t0 4) = 0 → Q σ) ∧ (¬ (gi σ t0 4) = 0 → ((v1 = 1 → wX3_takeSignal_53 ln Q t0 1 σ) ∧ (¬ v1 = 1 → wX3_takeSignal_53 ln Q t0 0 σ))))))
abbrev rX3_takeSignal : Room := { frames := 4, cells := 0, slots := 0, locals := 82 }
set_option maxRecDepth 100000 in
set_option maxHeartbeats 4000000 in
theorem BX3_takeSignal_53 {l : Launch} {E : zE} {Y : zY} {p : Program} {e : Env} {s : State} {m : MethodId} {args : Array Value} {below : List Frame} {meth : Method} {c : Code} (hG : zG E p l s m args meth c cX3_takeSignal 2 RX3 none (zA Y s.heap.size)) {Q : zS → Prop} : ∀ (tw0 : Nat) (vw1 : Int32) (σ : zS), wX3_takeSignal_53 (zln Y) Q tw0 vw1 σ → zT Y 3 tw0 → WW E Y σ p l e rX3_takeSignal s m args below meth c (zA Y s.heap.size) 2 0 0 (MQ below (va_Qv Q (zB E Y s.heap.size) (zA Y s.heap.size)) args s 0 0 (zA Y s.heap.size)) [] 53 [.int vw1, .ref (za Y tw0)] := by
  intro tw0 vw1 σ hw hw0
  unfold wX3_takeSignal_53 at hw
  refine z_callv hG (z_runV (As := [.int vw1]) (st := []) hG k_X3_160 (MX3_endLine l hw0 hw) ⟨(Nat.le_of_ble_eq_true rfl), (Nat.le_of_ble_eq_true rfl)⟩ hw0 (T := TX3) (N := 17) rfl (by decide) rfl (Nat.le_of_ble_eq_true rfl) dX3_takeSignal_53 ⟨Nat.zero_le _, Nat.zero_le _⟩ rfl) (fun σ1 hw => ?_)
  exact z_vret hG rfl dX3_takeSignal_56 hw
set_option maxRecDepth 100000 in
set_option maxHeartbeats 4000000 in
theorem MX3_takeSignal (l : Launch) {E : zE} {Y : zY} {σ : zS} {t0 : Nat} {v1 : Int32} (h0 : zT Y 3 t0) {Q : zS → Prop} (hw : wX3_takeSignal (zln Y) σ t0 v1 Q) : ∀ sz, Met l yX3_takeSignal (zw yX3_takeSignal cX3_takeSignal 2 none) rX3_takeSignal (zPc E Y σ sz [.ref (za Y t0), .int v1]) (va_Qv Q (zB E Y sz) (zA Y sz)) 0 0 (zA Y sz) := by
  refine z_met (own := RX3) (Qc := fun sz => va_Qv Q (zB E Y sz) (zA Y sz)) (by decide +kernel) rfl (Nat.le_of_ble_eq_true rfl) ?_
  intro p e s m args below meth c hG hinit
  unfold wX3_takeSignal at hw
  refine zlv (lv' := [(0, .ref (za Y t0)), (1, .int v1)]) rfl ?_
  refine z_iload_n hG dX3_takeSignal_0 rfl 1 rfl ?_
  refine z_iconst (v := 3) hG dX3_takeSignal_1 (by decide) ?_
  refine z_icmp_ne (tgt := 35) hG dX3_takeSignal_2 (by decide) (fun c11 => ?_) (fun c11 => ?_)
  · have hw := hw.2 c11
    refine z_aload_n hG dX3_takeSignal_35 rfl 0 rfl ?_
    refine z_geti hG f_X3_96 h0 rfl dX3_takeSignal_36 ?_
    refine z_if_eq (tgt := 56) hG dX3_takeSignal_39 (by decide) (fun c2 => ?_) (fun c2 => ?_)
    · have hw := hw.1 c2
      exact z_vret hG rfl dX3_takeSignal_56 hw
    · have hw := hw.2 c2
      refine z_aload_n hG dX3_takeSignal_42 rfl 0 rfl ?_
      refine z_iload_n hG dX3_takeSignal_43 rfl 1 rfl ?_
      refine z_iconst (v := 1) hG dX3_takeSignal_44 (by decide) ?_
      refine z_icmp_ne (tgt := 52) hG dX3_takeSignal_45 (by decide) (fun c1 => ?_) (fun c1 => ?_)
      · have hw := hw.2 c1
        refine z_iconst (v := 0) hG dX3_takeSignal_52 (by decide) ?_
        refine zpick [] (lv' := []) rfl ?_
        exact BX3_takeSignal_53 hG t0 0 σ hw h0
      · have hw := hw.1 c1
        refine z_iconst (v := 1) hG dX3_takeSignal_48 (by decide) ?_
        refine z_goto (tgt := 53) hG dX3_takeSignal_49 (by decide) ?_
        refine zpick [] (lv' := []) rfl ?_
        exact BX3_takeSignal_53 hG t0 1 σ hw h0
  · have hw := hw.1 c11
    refine z_aload_n hG dX3_takeSignal_5 rfl 0 rfl ?_
    obtain ⟨j3, ej3, hw⟩ := hw
    refine z_getr (kq := 8) hG f_X3_41 h0 rfl ej3 rfl (by decide) dX3_takeSignal_6 (fun hj3 => ?_)
    refine z_aload_n hG dX3_takeSignal_9 rfl 0 rfl ?_
    refine z_geti hG f_X3_59 h0 rfl dX3_takeSignal_10 ?_
    refine z_iconst (v := 5) hG dX3_takeSignal_13 (by decide) ?_
    refine z_aload_n hG dX3_takeSignal_14 rfl 0 rfl ?_
    refine z_aload_n hG dX3_takeSignal_15 rfl 0 rfl ?_
    refine z_geti hG f_X3_9 h0 rfl dX3_takeSignal_16 ?_
    refine z_topi (fun x4 ex4 => ?_)
    have hw := hw x4 ex4
    refine z_callr hG (z_runV (As := [.int x4]) (st := [.int 5, .int (gi σ t0 1), .ref (za Y j3)]) hG k_X3_170 (MX3_office l h0 hw) ⟨(Nat.le_of_ble_eq_true rfl), (Nat.le_of_ble_eq_true rfl)⟩ h0 (T := TX3) (N := 17) rfl (by decide) rfl (Nat.le_of_ble_eq_true rfl) dX3_takeSignal_19 ⟨Nat.zero_le _, Nat.zero_le _⟩ rfl) (fun r6 σ5 hr6 hw => ?_)
    refine z_geti hG f_X3_174 hr6 rfl dX3_takeSignal_22 ?_
    refine z_topi (fun x7 ex7 => ?_)
    have hw := hw x7 ex7
    obtain ⟨x8, ex8⟩ : ∃ y : Int32, y = gi σ t0 1 := ⟨_, rfl⟩
    refine zst (st' := [.int x7, .int 5, .int x8, .ref (za Y j3)]) (by rw [ex8]) ?_
    have hw := hw x8 ex8
    refine z_callv hG (z_runV (As := [.int x8, .int 5, .int x7]) (st := []) hG k_X3_122 (MX8_add l hj3 hw) ⟨(Nat.le_of_ble_eq_true rfl), (Nat.le_of_ble_eq_true rfl)⟩ hj3 (T := TX8) (N := 4) rfl (by decide) rfl (Nat.le_of_ble_eq_true rfl) dX3_takeSignal_25 ⟨Nat.zero_le _, Nat.zero_le _⟩ rfl) (fun σ9 hw => ?_)
    refine z_aload_n hG dX3_takeSignal_28 rfl 0 rfl ?_
    refine z_callv hG (z_runV (As := []) (st := []) hG k_X3_93 (MX3_endTransmission l h0 hw) ⟨(Nat.le_of_ble_eq_true rfl), (Nat.le_of_ble_eq_true rfl)⟩ h0 (T := TX3) (N := 17) rfl (by decide) rfl (Nat.le_of_ble_eq_true rfl) dX3_takeSignal_29 ⟨Nat.zero_le _, Nat.zero_le _⟩ rfl) (fun σ10 hw => ?_)
    refine z_goto (tgt := 56) hG dX3_takeSignal_32 (by decide) ?_
    exact z_vret hG rfl dX3_takeSignal_56 hw
-- TypeWheelTelegraph$Row.holds(I)Z
def wX9_holds_2 (ln : Nat → Nat) (Q : Int32 → zS → Prop) : Nat → Nat → Int32 → Int32 → zS → Prop
  | 0, _, _, _, _ => False
  | n + 1, t0, v1, v2, σ => (((gi σ t0 1) ≤ v2 → Q 0 σ) ∧ (¬ (gi σ t0 1) ≤ v2 → wX9_get ln σ t0 v2 (fun r2 σ1 => ((r2 = v1 → Q 1 σ1) ∧ (¬ r2 = v1 → ∀ x3 : Int32, x3 = v2 + 1 → (wX9_holds_2 ln Q n) t0 v1 x3 σ1)))))
def wX9_holds (ln : Nat → Nat) (σ : zS) (t0 : Nat) (v1 : Int32) (Q : Int32 → zS → Prop) : Prop := ∃ n1 : Nat, wX9_holds_2 ln Q n1 t0 v1 0 σ
abbrev rX9_holds : Room := { frames := 1, cells := 0, slots := 0, locals := 21 }
set_option maxRecDepth 100000 in
set_option maxHeartbeats 4000000 in
theorem BX9_holds_2 {l : Launch} {E : zE} {Y : zY} {p : Program} {e : Env} {s : State} {m : MethodId} {args : Array Value} {below : List Frame} {meth : Method} {c : Code} (hG : zG E p l s m args meth c cX9_holds 3 RX9 (some .boolean) (zA Y s.heap.size)) {Q : Int32 → zS → Prop} : ∀ (n : Nat) (t0 : Nat) (v1 : Int32) (v2 : Int32) (σ : zS), wX9_holds_2 (zln Y) Q n t0 v1 v2 σ → zT Y 9 t0 → WW E Y σ p l e rX9_holds s m args below meth c (zA Y s.heap.size) 3 0 0 (MQ below (va_Qi Q (zB E Y s.heap.size) (zA Y s.heap.size)) args s 0 0 (zA Y s.heap.size)) [(0, .ref (za Y t0)), (1, .int v1), (2, .int v2)] 2 [] := by
  intro n
  induction n with
  | zero => intro t0 v1 v2 σ hw
            exact hw.elim
  | succ n ih =>
    intro t0 v1 v2 σ hw h0
    rw [wX9_holds_2] at hw
    refine z_iload_n hG dX9_holds_2 rfl 2 rfl ?_
    refine z_aload_n hG dX9_holds_3 rfl 0 rfl ?_
    refine z_geti hG f_X9_21 h0 rfl dX9_holds_4 ?_
    refine z_icmp_ge (tgt := 27) hG dX9_holds_7 (by decide) (fun c5 => ?_) (fun c5 => ?_)
    · have hw := hw.1 c5
      refine z_iconst (v := 0) hG dX9_holds_27 (by decide) ?_
      exact z_iret hG rfl (by decide +kernel) dX9_holds_28 hw
    · have hw := hw.2 c5
      refine z_aload_n hG dX9_holds_10 rfl 0 rfl ?_
      refine z_iload_n hG dX9_holds_11 rfl 2 rfl ?_
      refine z_calli hG (z_runV (As := [.int v2]) (st := []) hG k_X9_25 (MX9_get l h0 hw) ⟨(Nat.le_of_ble_eq_true rfl), (Nat.le_of_ble_eq_true rfl)⟩ h0 (T := TX9) (N := 2) rfl (by decide) rfl (Nat.le_of_ble_eq_true rfl) dX9_holds_12 ⟨Nat.zero_le _, Nat.zero_le _⟩ rfl) (fun r2 σ1 hw => ?_)
      refine z_iload_n hG dX9_holds_15 rfl 1 rfl ?_
      refine z_icmp_ne (tgt := 21) hG dX9_holds_16 (by decide) (fun c4 => ?_) (fun c4 => ?_)
      · have hw := hw.2 c4
        obtain ⟨x3, ex3⟩ : ∃ y : Int32, y = v2 + 1 := ⟨_, rfl⟩
        have hw := hw x3 ex3
        refine z_iinc (v := x3) (lv' := [(2, .int x3), (0, .ref (za Y t0)), (1, .int v1)]) hG dX9_holds_21 2 rfl (by rw [ex3]; rfl) (by decide) rfl ?_
        refine z_goto (tgt := 2) hG dX9_holds_24 (by decide) ?_
        refine zpick [1, 2, 0] (lv' := [(0, .ref (za Y t0)), (1, .int v1), (2, .int x3)]) rfl ?_
        exact ih t0 v1 x3 σ1 hw h0
      · have hw := hw.1 c4
        refine z_iconst (v := 1) hG dX9_holds_19 (by decide) ?_
        exact z_iret hG rfl (by decide +kernel) dX9_holds_20 hw
set_option maxRecDepth 100000 in
set_option maxHeartbeats 4000000 in
theorem MX9_holds (l : Launch) {E : zE} {Y : zY} {σ : zS} {t0 : Nat} {v1 : Int32} (h0 : zT Y 9 t0) {Q : Int32 → zS → Prop} (hw : wX9_holds (zln Y) σ t0 v1 Q) : ∀ sz, Met l yX9_holds (zw yX9_holds cX9_holds 3 (some .boolean)) rX9_holds (zPc E Y σ sz [.ref (za Y t0), .int v1]) (va_Qi Q (zB E Y sz) (zA Y sz)) 0 0 (zA Y sz) := by
  refine z_met (own := RX9) (Qc := fun sz => va_Qi Q (zB E Y sz) (zA Y sz)) (by decide +kernel) rfl (Nat.le_of_ble_eq_true rfl) ?_
  intro p e s m args below meth c hG hinit
  unfold wX9_holds at hw
  refine zlv (lv' := [(0, .ref (za Y t0)), (1, .int v1)]) rfl ?_
  refine z_iconst (v := 0) hG dX9_holds_0 (by decide) ?_
  refine z_istore_n (lv' := [(2, .int 0), (0, .ref (za Y t0)), (1, .int v1)]) hG dX9_holds_1 rfl (by decide) rfl ?_
  obtain ⟨n1, hw⟩ := hw
  refine zpick [1, 2, 0] (lv' := [(0, .ref (za Y t0)), (1, .int v1), (2, .int 0)]) rfl ?_
  exact BX9_holds_2 hG n1 t0 v1 0 σ hw h0
-- TypeWheelTelegraph$Machine.sendPulse(I)V
def wX3_sendPulse (ln : Nat → Nat) (σ : zS) (t0 : Nat) (v1 : Int32) (Q : zS → Prop) : Prop := ∀ x1 : Int32, x1 = (gi σ t0 9) + 1 → ∀ σ2 : zS, σ2 = si σ t0 9 x1 → ∃ j3 : Nat, gr σ2 t0 16 = some j3 ∧ ∀ x4 : Int32, x4 = gi σ2 t0 9 → wX9_holds ln σ2 j3 x4 (fun r6 σ5 => ((r6 = 0 → ∃ j7 : Nat, gr σ5 t0 14 = some j7 ∧ ∃ j8 : Nat, gr σ5 t0 0 = some j8 ∧ ∀ x9 : Int32, x9 = (gi σ5 t0 1) + (gi σ5 j8 1) → wX8_add ln σ5 j7 x9 0 v1 (fun σ10 => Q σ10)) ∧ (¬ r6 = 0 → ∀ x11 : Int32, x11 = (gi σ5 t0 10) + 1 → ∀ σ12 : zS, σ12 = si σ5 t0 10 x11 → Q σ12)))
abbrev rX3_sendPulse : Room := { frames := 2, cells := 0, slots := 0, locals := 46 }
set_option maxRecDepth 100000 in
set_option maxHeartbeats 4000000 in
theorem MX3_sendPulse (l : Launch) {E : zE} {Y : zY} {σ : zS} {t0 : Nat} {v1 : Int32} (h0 : zT Y 3 t0) {Q : zS → Prop} (hw : wX3_sendPulse (zln Y) σ t0 v1 Q) : ∀ sz, Met l yX3_sendPulse (zw yX3_sendPulse cX3_sendPulse 2 none) rX3_sendPulse (zPc E Y σ sz [.ref (za Y t0), .int v1]) (va_Qv Q (zB E Y sz) (zA Y sz)) 0 0 (zA Y sz) := by
  refine z_met (own := RX3) (Qc := fun sz => va_Qv Q (zB E Y sz) (zA Y sz)) (by decide +kernel) rfl (Nat.le_of_ble_eq_true rfl) ?_
  intro p e s m args below meth c hG hinit
  unfold wX3_sendPulse at hw
  refine zlv (lv' := [(0, .ref (za Y t0)), (1, .int v1)]) rfl ?_
  refine z_aload_n hG dX3_sendPulse_0 rfl 0 rfl ?_
  refine z_dup hG dX3_sendPulse_1 rfl ?_
  refine z_geti hG f_X3_68 h0 rfl dX3_sendPulse_2 ?_
  refine z_iconst (v := 1) hG dX3_sendPulse_5 (by decide) ?_
  refine z_iadd hG dX3_sendPulse_6 ?_
  refine z_topi (fun x1 ex1 => ?_)
  have hw := hw x1 ex1
  refine z_puti hG f_X3_68 h0 rfl rfl (zN_int _) dX3_sendPulse_7 ?_
  refine z_topσ (fun σ2 eσ2 => ?_)
  have hw := hw σ2 eσ2
  refine z_aload_n hG dX3_sendPulse_10 rfl 0 rfl ?_
  obtain ⟨j3, ej3, hw⟩ := hw
  refine z_getr (kq := 9) hG f_X3_47 h0 rfl ej3 rfl (by decide) dX3_sendPulse_11 (fun hj3 => ?_)
  refine z_aload_n hG dX3_sendPulse_14 rfl 0 rfl ?_
  refine z_geti hG f_X3_68 h0 rfl dX3_sendPulse_15 ?_
  refine z_topi (fun x4 ex4 => ?_)
  have hw := hw x4 ex4
  refine z_calli hG (z_runV (As := [.int x4]) (st := []) hG k_X3_226 (MX9_holds l hj3 hw) ⟨(Nat.le_of_ble_eq_true rfl), (Nat.le_of_ble_eq_true rfl)⟩ hj3 (T := TX9) (N := 2) rfl (by decide) rfl (Nat.le_of_ble_eq_true rfl) dX3_sendPulse_18 ⟨Nat.zero_le _, Nat.zero_le _⟩ rfl) (fun r6 σ5 hw => ?_)
  refine z_if_eq (tgt := 37) hG dX3_sendPulse_21 (by decide) (fun c13 => ?_) (fun c13 => ?_)
  · have hw := hw.1 c13
    refine z_aload_n hG dX3_sendPulse_37 rfl 0 rfl ?_
    obtain ⟨j7, ej7, hw⟩ := hw
    refine z_getr (kq := 8) hG f_X3_37 h0 rfl ej7 rfl (by decide) dX3_sendPulse_38 (fun hj7 => ?_)
    refine z_aload_n hG dX3_sendPulse_41 rfl 0 rfl ?_
    refine z_geti hG f_X3_59 h0 rfl dX3_sendPulse_42 ?_
    refine z_aload_n hG dX3_sendPulse_45 rfl 0 rfl ?_
    obtain ⟨j8, ej8, hw⟩ := hw
    refine z_getr (kq := 6) hG f_X3_55 h0 rfl ej8 rfl (by decide) dX3_sendPulse_46 (fun hj8 => ?_)
    refine z_geti hG f_X3_119 hj8 rfl dX3_sendPulse_49 ?_
    refine z_iadd hG dX3_sendPulse_52 ?_
    refine z_iconst (v := 0) hG dX3_sendPulse_53 (by decide) ?_
    refine z_iload_n hG dX3_sendPulse_54 rfl 1 rfl ?_
    obtain ⟨x9, ex9⟩ : ∃ y : Int32, y = (gi σ5 t0 1) + (gi σ5 j8 1) := ⟨_, rfl⟩
    refine zst (st' := [.int v1, .int 0, .int x9, .ref (za Y j7)]) (by rw [ex9]) ?_
    have hw := hw x9 ex9
    refine z_callv hG (z_runV (As := [.int x9, .int 0, .int v1]) (st := []) hG k_X3_122 (MX8_add l hj7 hw) ⟨(Nat.le_of_ble_eq_true rfl), (Nat.le_of_ble_eq_true rfl)⟩ hj7 (T := TX8) (N := 4) rfl (by decide) rfl (Nat.le_of_ble_eq_true rfl) dX3_sendPulse_55 ⟨Nat.zero_le _, Nat.zero_le _⟩ rfl) (fun σ10 hw => ?_)
    exact z_vret hG rfl dX3_sendPulse_58 hw
  · have hw := hw.2 c13
    refine z_aload_n hG dX3_sendPulse_24 rfl 0 rfl ?_
    refine z_dup hG dX3_sendPulse_25 rfl ?_
    refine z_geti hG f_X3_71 h0 rfl dX3_sendPulse_26 ?_
    refine z_iconst (v := 1) hG dX3_sendPulse_29 (by decide) ?_
    refine z_iadd hG dX3_sendPulse_30 ?_
    refine z_topi (fun x11 ex11 => ?_)
    have hw := hw x11 ex11
    refine z_puti hG f_X3_71 h0 rfl rfl (zN_int _) dX3_sendPulse_31 ?_
    refine z_topσ (fun σ12 eσ12 => ?_)
    have hw := hw σ12 eσ12
    refine z_goto (tgt := 58) hG dX3_sendPulse_34 (by decide) ?_
    exact z_vret hG rfl dX3_sendPulse_58 hw
-- TypeWheelTelegraph$Machine.sendIfPassing()V
def wX3_sendIfPassing (ln : Nat → Nat) (σ : zS) (t0 : Nat) (Q : zS → Prop) : Prop := wX3_nextPosition ln σ t0 (fun r2 σ1 => ((r2 = (-1) → Q σ1) ∧ (¬ r2 = (-1) → ∀ x3 : Int32, x3 = gi σ1 t0 3 → wX3_office ln σ1 t0 x3 (fun r5 σ4 => ∃ j6 : Nat, gr σ4 t0 0 = some j6 ∧ wX6_circle ln σ4 j6 (fun r8 σ7 => ∀ x9 : Int32, x9 = (gi σ4 r5 0) - (1000 * r2) → wX11_modulo ln σ7 x9 r8 (fun r11 σ10 => ((r11 < (gi σ10 r5 1) → wX3_sendPulse ln σ10 t0 r2 (fun σ12 => ∀ x13 : Int32, x13 = (gi σ12 t0 6) + 1 → ∀ σ14 : zS, σ14 = si σ12 t0 6 x13 → wX3_nextPosition ln σ14 t0 (fun r16 σ15 => ((r16 = (-1) → ∀ σ17 : zS, σ17 = si σ15 t0 4 1 → ∃ j18 : Nat, gr σ17 t0 0 = some j18 ∧ ∃ j19 : Nat, gr σ17 t0 0 = some j19 ∧ ∀ x20 : Int32, x20 = ((gi σ17 t0 1) + (2 * (gi σ17 j18 1))) + (gi σ17 j19 3) → ∀ σ21 : zS, σ21 = si σ17 t0 5 x20 → Q σ21) ∧ (¬ r16 = (-1) → Q σ15))))) ∧ (¬ r11 < (gi σ10 r5 1) → Q σ10))))))))
abbrev rX3_sendIfPassing : Room := { frames := 3, cells := 0, slots := 0, locals := 67 }
set_option maxRecDepth 100000 in
set_option maxHeartbeats 4000000 in
theorem MX3_sendIfPassing (l : Launch) {E : zE} {Y : zY} {σ : zS} {t0 : Nat} (h0 : zT Y 3 t0) {Q : zS → Prop} (hw : wX3_sendIfPassing (zln Y) σ t0 Q) : ∀ sz, Met l yX3_sendIfPassing (zw yX3_sendIfPassing cX3_sendIfPassing 3 none) rX3_sendIfPassing (zPc E Y σ sz [.ref (za Y t0)]) (va_Qv Q (zB E Y sz) (zA Y sz)) 0 0 (zA Y sz) := by
  refine z_met (own := RX3) (Qc := fun sz => va_Qv Q (zB E Y sz) (zA Y sz)) (by decide +kernel) rfl (Nat.le_of_ble_eq_true rfl) ?_
  intro p e s m args below meth c hG hinit
  unfold wX3_sendIfPassing at hw
  refine zlv (lv' := [(0, .ref (za Y t0))]) rfl ?_
  refine z_aload_n hG dX3_sendIfPassing_0 rfl 0 rfl ?_
  refine z_calli hG (z_runV (As := []) (st := []) hG k_X3_214 (MX3_nextPosition l h0 hw) ⟨(Nat.le_of_ble_eq_true rfl), (Nat.le_of_ble_eq_true rfl)⟩ h0 (T := TX3) (N := 17) rfl (by decide) rfl (Nat.le_of_ble_eq_true rfl) dX3_sendIfPassing_1 ⟨Nat.zero_le _, Nat.zero_le _⟩ rfl) (fun r2 σ1 hw => ?_)
  refine z_istore_n (lv' := [(1, .int r2), (0, .ref (za Y t0))]) hG dX3_sendIfPassing_4 rfl (by decide) rfl ?_
  refine z_iload_n hG dX3_sendIfPassing_5 rfl 0 rfl ?_
  refine z_iconst (v := (-1)) hG dX3_sendIfPassing_6 (by decide) ?_
  refine z_icmp_ne (tgt := 11) hG dX3_sendIfPassing_7 (by decide) (fun c24 => ?_) (fun c24 => ?_)
  · have hw := hw.2 c24
    refine z_aload_n hG dX3_sendIfPassing_11 rfl 1 rfl ?_
    refine z_aload_n hG dX3_sendIfPassing_12 rfl 1 rfl ?_
    refine z_geti hG f_X3_9 h0 rfl dX3_sendIfPassing_13 ?_
    refine z_topi (fun x3 ex3 => ?_)
    have hw := hw x3 ex3
    refine z_callr hG (z_runV (As := [.int x3]) (st := []) hG k_X3_170 (MX3_office l h0 hw) ⟨(Nat.le_of_ble_eq_true rfl), (Nat.le_of_ble_eq_true rfl)⟩ h0 (T := TX3) (N := 17) rfl (by decide) rfl (Nat.le_of_ble_eq_true rfl) dX3_sendIfPassing_16 ⟨Nat.zero_le _, Nat.zero_le _⟩ rfl) (fun r5 σ4 hr5 hw => ?_)
    refine z_astore_n (lv' := [(2, .ref (za Y r5)), (1, .int r2), (0, .ref (za Y t0))]) hG dX3_sendIfPassing_19 rfl (by decide) rfl ?_
    refine z_aload_n hG dX3_sendIfPassing_20 rfl 0 rfl ?_
    refine z_geti hG f_X3_217 hr5 rfl dX3_sendIfPassing_21 ?_
    refine z_sipush (v := 1000) hG dX3_sendIfPassing_24 (by decide) ?_
    refine z_iload_n hG dX3_sendIfPassing_27 rfl 1 rfl ?_
    refine z_imul hG dX3_sendIfPassing_28 ?_
    refine z_isub hG dX3_sendIfPassing_29 ?_
    refine z_aload_n hG dX3_sendIfPassing_30 rfl 2 rfl ?_
    obtain ⟨j6, ej6, hw⟩ := hw
    refine z_getr (kq := 6) hG f_X3_55 h0 rfl ej6 rfl (by decide) dX3_sendIfPassing_31 (fun hj6 => ?_)
    refine z_calli hG (z_runV (As := []) (st := [.int ((gi σ4 r5 0) - (1000 * r2))]) hG k_X3_129 (MX6_circle l hj6 hw) ⟨(Nat.le_of_ble_eq_true rfl), (Nat.le_of_ble_eq_true rfl)⟩ hj6 (T := TX6) (N := 8) rfl (by decide) rfl (Nat.le_of_ble_eq_true rfl) dX3_sendIfPassing_34 ⟨Nat.zero_le _, Nat.zero_le _⟩ rfl) (fun r8 σ7 hw => ?_)
    obtain ⟨x9, ex9⟩ : ∃ y : Int32, y = (gi σ4 r5 0) - (1000 * r2) := ⟨_, rfl⟩
    refine zst (st' := [.int r8, .int x9]) (by rw [ex9]) ?_
    have hw := hw x9 ex9
    refine z_calli hG (z_runSN (As := [.int x9, .int r8]) (st := []) hG k_X3_220 k_X3_220s (MX11_modulo l hw) ⟨(Nat.le_of_ble_eq_true rfl), (Nat.le_of_ble_eq_true rfl)⟩ rfl (Nat.le_of_ble_eq_true rfl) dX3_sendIfPassing_37 ⟨Nat.zero_le _, Nat.zero_le _⟩ rfl) (fun r11 σ10 hw => ?_)
    refine z_aload_n hG dX3_sendIfPassing_40 rfl 0 rfl ?_
    refine z_geti hG f_X3_126 hr5 rfl dX3_sendIfPassing_41 ?_
    refine z_icmp_lt (tgt := 48) hG dX3_sendIfPassing_44 (by decide) (fun c23 => ?_) (fun c23 => ?_)
    · have hw := hw.1 c23
      refine z_aload_n hG dX3_sendIfPassing_48 rfl 2 rfl ?_
      refine z_iload_n hG dX3_sendIfPassing_49 rfl 1 rfl ?_
      refine z_callv hG (z_runV (As := [.int r2]) (st := []) hG k_X3_223 (MX3_sendPulse l h0 hw) ⟨(Nat.le_of_ble_eq_true rfl), (Nat.le_of_ble_eq_true rfl)⟩ h0 (T := TX3) (N := 17) rfl (by decide) rfl (Nat.le_of_ble_eq_true rfl) dX3_sendIfPassing_50 ⟨Nat.zero_le _, Nat.zero_le _⟩ rfl) (fun σ12 hw => ?_)
      refine z_aload_n hG dX3_sendIfPassing_53 rfl 2 rfl ?_
      refine z_dup hG dX3_sendIfPassing_54 rfl ?_
      refine z_geti hG f_X3_103 h0 rfl dX3_sendIfPassing_55 ?_
      refine z_iconst (v := 1) hG dX3_sendIfPassing_58 (by decide) ?_
      refine z_iadd hG dX3_sendIfPassing_59 ?_
      refine z_topi (fun x13 ex13 => ?_)
      have hw := hw x13 ex13
      refine z_puti hG f_X3_103 h0 rfl rfl (zN_int _) dX3_sendIfPassing_60 ?_
      refine z_topσ (fun σ14 eσ14 => ?_)
      have hw := hw σ14 eσ14
      refine z_aload_n hG dX3_sendIfPassing_63 rfl 2 rfl ?_
      refine z_calli hG (z_runV (As := []) (st := []) hG k_X3_214 (MX3_nextPosition l h0 hw) ⟨(Nat.le_of_ble_eq_true rfl), (Nat.le_of_ble_eq_true rfl)⟩ h0 (T := TX3) (N := 17) rfl (by decide) rfl (Nat.le_of_ble_eq_true rfl) dX3_sendIfPassing_64 ⟨Nat.zero_le _, Nat.zero_le _⟩ rfl) (fun r16 σ15 hw => ?_)
      refine z_iconst (v := (-1)) hG dX3_sendIfPassing_67 (by decide) ?_
      refine z_icmp_ne (tgt := 102) hG dX3_sendIfPassing_68 (by decide) (fun c22 => ?_) (fun c22 => ?_)
      · have hw := hw.2 c22
        exact z_vret hG rfl dX3_sendIfPassing_102 hw
      · have hw := hw.1 c22
        refine z_aload_n hG dX3_sendIfPassing_71 rfl 2 rfl ?_
        refine z_iconst (v := 1) hG dX3_sendIfPassing_72 (by decide) ?_
        refine z_puti hG f_X3_96 h0 rfl rfl (zN_b (by decide)) dX3_sendIfPassing_73 ?_
        refine z_topσ (fun σ17 eσ17 => ?_)
        have hw := hw σ17 eσ17
        refine z_aload_n hG dX3_sendIfPassing_76 rfl 2 rfl ?_
        refine z_aload_n hG dX3_sendIfPassing_77 rfl 2 rfl ?_
        refine z_geti hG f_X3_59 h0 rfl dX3_sendIfPassing_78 ?_
        refine z_iconst (v := 2) hG dX3_sendIfPassing_81 (by decide) ?_
        refine z_aload_n hG dX3_sendIfPassing_82 rfl 2 rfl ?_
        obtain ⟨j18, ej18, hw⟩ := hw
        refine z_getr (kq := 6) hG f_X3_55 h0 rfl ej18 rfl (by decide) dX3_sendIfPassing_83 (fun hj18 => ?_)
        refine z_geti hG f_X3_119 hj18 rfl dX3_sendIfPassing_86 ?_
        refine z_imul hG dX3_sendIfPassing_89 ?_
        refine z_iadd hG dX3_sendIfPassing_90 ?_
        refine z_aload_n hG dX3_sendIfPassing_91 rfl 2 rfl ?_
        obtain ⟨j19, ej19, hw⟩ := hw
        refine z_getr (kq := 6) hG f_X3_55 h0 rfl ej19 rfl (by decide) dX3_sendIfPassing_92 (fun hj19 => ?_)
        refine z_geti hG f_X3_167 hj19 rfl dX3_sendIfPassing_95 ?_
        refine z_iadd hG dX3_sendIfPassing_98 ?_
        refine z_topi (fun x20 ex20 => ?_)
        have hw := hw x20 ex20
        refine z_puti hG f_X3_100 h0 rfl rfl (zN_int _) dX3_sendIfPassing_99 ?_
        refine z_topσ (fun σ21 eσ21 => ?_)
        have hw := hw σ21 eσ21
        exact z_vret hG rfl dX3_sendIfPassing_102 hw
    · have hw := hw.2 c23
      exact z_vret hG rfl dX3_sendIfPassing_47 hw
  · have hw := hw.1 c24
    exact z_vret hG rfl dX3_sendIfPassing_10 hw
-- TypeWheelTelegraph$Machine.beginTransmission(I)V
def wX3_beginTransmission (ln : Nat → Nat) (σ : zS) (t0 : Nat) (v1 : Int32) (Q : zS → Prop) : Prop := ∀ σ1 : zS, σ1 = si σ t0 3 v1 → ∀ x2 : Int32, x2 = gi σ1 t0 1 → ∀ σ3 : zS, σ3 = si σ1 t0 8 x2 → ∃ j4 : Nat, gr σ3 t0 13 = some j4 ∧ wX7_clear ln σ3 j4 (fun σ5 => Q σ5)
abbrev rX3_beginTransmission : Room := { frames := 2, cells := 0, slots := 0, locals := 40 }
set_option maxRecDepth 100000 in
set_option maxHeartbeats 4000000 in
theorem MX3_beginTransmission (l : Launch) {E : zE} {Y : zY} {σ : zS} {t0 : Nat} {v1 : Int32} (h0 : zT Y 3 t0) {Q : zS → Prop} (hw : wX3_beginTransmission (zln Y) σ t0 v1 Q) : ∀ sz, Met l yX3_beginTransmission (zw yX3_beginTransmission cX3_beginTransmission 2 none) rX3_beginTransmission (zPc E Y σ sz [.ref (za Y t0), .int v1]) (va_Qv Q (zB E Y sz) (zA Y sz)) 0 0 (zA Y sz) := by
  refine z_met (own := RX3) (Qc := fun sz => va_Qv Q (zB E Y sz) (zA Y sz)) (by decide +kernel) rfl (Nat.le_of_ble_eq_true rfl) ?_
  intro p e s m args below meth c hG hinit
  unfold wX3_beginTransmission at hw
  refine zlv (lv' := [(0, .ref (za Y t0)), (1, .int v1)]) rfl ?_
  refine z_aload_n hG dX3_beginTransmission_0 rfl 0 rfl ?_
  refine z_iload_n hG dX3_beginTransmission_1 rfl 1 rfl ?_
  refine z_puti hG f_X3_9 h0 rfl rfl (zN_int _) dX3_beginTransmission_2 ?_
  refine z_topσ (fun σ1 eσ1 => ?_)
  have hw := hw σ1 eσ1
  refine z_aload_n hG dX3_beginTransmission_5 rfl 0 rfl ?_
  refine z_aload_n hG dX3_beginTransmission_6 rfl 0 rfl ?_
  refine z_geti hG f_X3_59 h0 rfl dX3_beginTransmission_7 ?_
  refine z_topi (fun x2 ex2 => ?_)
  have hw := hw x2 ex2
  refine z_puti hG f_X3_90 h0 rfl rfl (zN_int _) dX3_beginTransmission_10 ?_
  refine z_topσ (fun σ3 eσ3 => ?_)
  have hw := hw σ3 eσ3
  refine z_aload_n hG dX3_beginTransmission_13 rfl 0 rfl ?_
  obtain ⟨j4, ej4, hw⟩ := hw
  refine z_getr (kq := 7) hG f_X3_28 h0 rfl ej4 rfl (by decide) dX3_beginTransmission_14 (fun hj4 => ?_)
  refine z_callv hG (z_runV (As := []) (st := []) hG k_X3_118 (MX7_clear l hj4 hw) ⟨(Nat.le_of_ble_eq_true rfl), (Nat.le_of_ble_eq_true rfl)⟩ hj4 (T := TX7) (N := 4) rfl (by decide) rfl (Nat.le_of_ble_eq_true rfl) dX3_beginTransmission_17 ⟨Nat.zero_le _, Nat.zero_le _⟩ rfl) (fun σ5 hw => ?_)
  exact z_vret hG rfl dX3_beginTransmission_20 hw
-- TypeWheelTelegraph$Machine.sendBreak()I
def wX3_sendBreak (ln : Nat → Nat) (σ : zS) (t0 : Nat) (Q : Int32 → zS → Prop) : Prop := ∃ j1 : Nat, gr σ t0 0 = some j1 ∧ ∀ x2 : Int32, x2 = (gi σ t0 1) + (gi σ j1 1) → ∃ j3 : Nat, gr σ t0 14 = some j3 ∧ wX8_add ln σ j3 x2 3 (-1) (fun σ4 => Q x2 σ4)
abbrev rX3_sendBreak : Room := { frames := 2, cells := 0, slots := 0, locals := 46 }
set_option maxRecDepth 100000 in
set_option maxHeartbeats 4000000 in
theorem MX3_sendBreak (l : Launch) {E : zE} {Y : zY} {σ : zS} {t0 : Nat} (h0 : zT Y 3 t0) {Q : Int32 → zS → Prop} (hw : wX3_sendBreak (zln Y) σ t0 Q) : ∀ sz, Met l yX3_sendBreak (zw yX3_sendBreak cX3_sendBreak 2 (some .int)) rX3_sendBreak (zPc E Y σ sz [.ref (za Y t0)]) (va_Qi Q (zB E Y sz) (zA Y sz)) 0 0 (zA Y sz) := by
  refine z_met (own := RX3) (Qc := fun sz => va_Qi Q (zB E Y sz) (zA Y sz)) (by decide +kernel) rfl (Nat.le_of_ble_eq_true rfl) ?_
  intro p e s m args below meth c hG hinit
  unfold wX3_sendBreak at hw
  refine zlv (lv' := [(0, .ref (za Y t0))]) rfl ?_
  refine z_aload_n hG dX3_sendBreak_0 rfl 0 rfl ?_
  refine z_geti hG f_X3_59 h0 rfl dX3_sendBreak_1 ?_
  refine z_aload_n hG dX3_sendBreak_4 rfl 0 rfl ?_
  obtain ⟨j1, ej1, hw⟩ := hw
  refine z_getr (kq := 6) hG f_X3_55 h0 rfl ej1 rfl (by decide) dX3_sendBreak_5 (fun hj1 => ?_)
  refine z_geti hG f_X3_119 hj1 rfl dX3_sendBreak_8 ?_
  refine z_iadd hG dX3_sendBreak_11 ?_
  refine z_topi (fun x2 ex2 => ?_)
  have hw := hw x2 ex2
  refine z_istore_n (lv' := [(1, .int x2), (0, .ref (za Y t0))]) hG dX3_sendBreak_12 rfl (by decide) rfl ?_
  refine z_aload_n hG dX3_sendBreak_13 rfl 1 rfl ?_
  obtain ⟨j3, ej3, hw⟩ := hw
  refine z_getr (kq := 8) hG f_X3_37 h0 rfl ej3 rfl (by decide) dX3_sendBreak_14 (fun hj3 => ?_)
  refine z_iload_n hG dX3_sendBreak_17 rfl 0 rfl ?_
  refine z_iconst (v := 3) hG dX3_sendBreak_18 (by decide) ?_
  refine z_iconst (v := (-1)) hG dX3_sendBreak_19 (by decide) ?_
  refine z_callv hG (z_runV (As := [.int x2, .int 3, .int (-1)]) (st := []) hG k_X3_122 (MX8_add l hj3 hw) ⟨(Nat.le_of_ble_eq_true rfl), (Nat.le_of_ble_eq_true rfl)⟩ hj3 (T := TX8) (N := 4) rfl (by decide) rfl (Nat.le_of_ble_eq_true rfl) dX3_sendBreak_20 ⟨Nat.zero_le _, Nat.zero_le _⟩ rfl) (fun σ4 hw => ?_)
  refine z_iload_n hG dX3_sendBreak_23 rfl 0 rfl ?_
  exact z_iret hG rfl rfl dX3_sendBreak_24 hw
-- TypeWheelTelegraph$History.size()I
def wX1_size (ln : Nat → Nat) (σ : zS) (t0 : Nat) (Q : Int32 → zS → Prop) : Prop := Q (gi σ t0 2) σ
abbrev rX1_size : Room := { frames := 0, cells := 0, slots := 0, locals := 0 }
set_option maxRecDepth 100000 in
set_option maxHeartbeats 4000000 in
theorem MX1_size (l : Launch) {E : zE} {Y : zY} {σ : zS} {t0 : Nat} (h0 : zT Y 1 t0) {Q : Int32 → zS → Prop} (hw : wX1_size (zln Y) σ t0 Q) : ∀ sz, Met l yX1_size (zw yX1_size cX1_size 1 (some .int)) rX1_size (zPc E Y σ sz [.ref (za Y t0)]) (va_Qi Q (zB E Y sz) (zA Y sz)) 0 0 (zA Y sz) := by
  refine z_met (own := RX1) (Qc := fun sz => va_Qi Q (zB E Y sz) (zA Y sz)) (by decide +kernel) rfl (Nat.le_of_ble_eq_true rfl) ?_
  intro p e s m args below meth c hG hinit
  unfold wX1_size at hw
  refine zlv (lv' := [(0, .ref (za Y t0))]) rfl ?_
  refine z_aload_n hG dX1_size_0 rfl 0 rfl ?_
  refine z_geti hG f_X1_18 h0 rfl dX1_size_1 ?_
  exact z_iret hG rfl rfl dX1_size_4 hw
-- TypeWheelTelegraph$History.restore(LTypeWheelTelegraph$Machine;)V
def wX1_restore (ln : Nat → Nat) (σ : zS) (t0 : Nat) (t1 : Nat) (Q : zS → Prop) : Prop := ∀ x1 : Int32, x1 = (gi σ t0 2) - 1 → wX1_slot ln σ t0 x1 (fun r3 σ2 => (r3 = none → Q σ2) ∧ (∀ j4 : Nat, r3 = some j4 → wX3_copyFrom ln σ2 t1 j4 (fun σ5 => ∀ x6 : Int32, x6 = (gi σ5 t0 2) - 1 → ∀ σ7 : zS, σ7 = si σ5 t0 2 x6 → Q σ7)))
abbrev rX1_restore : Room := { frames := 4, cells := 0, slots := 0, locals := 111 }
set_option maxRecDepth 100000 in
set_option maxHeartbeats 4000000 in
theorem MX1_restore (l : Launch) {E : zE} {Y : zY} {σ : zS} {t0 : Nat} {t1 : Nat} (h0 : zT Y 1 t0) (h1 : zT Y 3 t1) {Q : zS → Prop} (hw : wX1_restore (zln Y) σ t0 t1 Q) : ∀ sz, Met l yX1_restore (zw yX1_restore cX1_restore 3 none) rX1_restore (zPc E Y σ sz [.ref (za Y t0), .ref (za Y t1)]) (va_Qv Q (zB E Y sz) (zA Y sz)) 0 0 (zA Y sz) := by
  refine z_met (own := RX1) (Qc := fun sz => va_Qv Q (zB E Y sz) (zA Y sz)) (by decide +kernel) rfl (Nat.le_of_ble_eq_true rfl) ?_
  intro p e s m args below meth c hG hinit
  unfold wX1_restore at hw
  refine zlv (lv' := [(0, .ref (za Y t0)), (1, .ref (za Y t1))]) rfl ?_
  refine z_aload_n hG dX1_restore_0 rfl 0 rfl ?_
  refine z_aload_n hG dX1_restore_1 rfl 0 rfl ?_
  refine z_geti hG f_X1_18 h0 rfl dX1_restore_2 ?_
  refine z_iconst (v := 1) hG dX1_restore_5 (by decide) ?_
  refine z_isub hG dX1_restore_6 ?_
  refine z_topi (fun x1 ex1 => ?_)
  have hw := hw x1 ex1
  refine z_calle hG (z_runV (As := [.int x1]) (st := []) hG k_X1_25 (MX1_slot l h0 hw) ⟨(Nat.le_of_ble_eq_true rfl), (Nat.le_of_ble_eq_true rfl)⟩ h0 (T := TX1) (N := 3) rfl (by decide) rfl (Nat.le_of_ble_eq_true rfl) dX1_restore_7 ⟨Nat.zero_le _, Nat.zero_le _⟩ rfl) (fun σ2 hw => ?_) (fun j4 σ2 hj4 hw => ?_)
  · have hw := hw.1 rfl
    refine z_astoreN_n (lv' := [(2, .null), (0, .ref (za Y t0)), (1, .ref (za Y t1))]) hG dX1_restore_10 rfl (by decide) rfl ?_
    refine z_aloadN_n hG dX1_restore_11 rfl 0 rfl ?_
    refine z_ifnull_yes (tgt := 30) hG dX1_restore_12 (by decide) ?_
    exact z_vret hG rfl dX1_restore_30 hw
  · have hw := hw.2 j4 rfl
    refine z_astore_n (lv' := [(2, .ref (za Y j4)), (0, .ref (za Y t0)), (1, .ref (za Y t1))]) hG dX1_restore_10 rfl (by decide) rfl ?_
    refine z_aload_n hG dX1_restore_11 rfl 0 rfl ?_
    refine z_ifnull_no hG dX1_restore_12 ?_
    refine z_aload_n hG dX1_restore_15 rfl 2 rfl ?_
    refine z_aload_n hG dX1_restore_16 rfl 0 rfl ?_
    refine z_callv hG (z_runV (As := [.ref (za Y j4)]) (st := []) hG k_X1_29 (MX3_copyFrom l h1 hj4 hw) ⟨(Nat.le_of_ble_eq_true rfl), (Nat.le_of_ble_eq_true rfl)⟩ h1 (T := TX3) (N := 17) rfl (by decide) rfl (Nat.le_of_ble_eq_true rfl) dX1_restore_17 ⟨Nat.zero_le _, Nat.zero_le _⟩ rfl) (fun σ5 hw => ?_)
    refine z_aload_n hG dX1_restore_20 rfl 1 rfl ?_
    refine z_dup hG dX1_restore_21 rfl ?_
    refine z_geti hG f_X1_18 h0 rfl dX1_restore_22 ?_
    refine z_iconst (v := 1) hG dX1_restore_25 (by decide) ?_
    refine z_isub hG dX1_restore_26 ?_
    refine z_topi (fun x6 ex6 => ?_)
    have hw := hw x6 ex6
    refine z_puti hG f_X1_18 h0 rfl rfl (zN_int _) dX1_restore_27 ?_
    refine z_topσ (fun σ7 eσ7 => ?_)
    have hw := hw σ7 eσ7
    exact z_vret hG rfl dX1_restore_30 hw
