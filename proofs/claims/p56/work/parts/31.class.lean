-- TypeWheelTelegraph$Row.clear()V
def wX9_clear (ln : Nat → Nat) (σ : zS) (t0 : Nat) (Q : zS → Prop) : Prop := ∀ σ1 : zS, σ1 = si σ t0 1 0 → Q σ1
abbrev rX9_clear : Room := { frames := 0, cells := 0, slots := 0, locals := 0 }
set_option maxRecDepth 100000 in
set_option maxHeartbeats 4000000 in
theorem MX9_clear (l : Launch) {E : zE} {Y : zY} {σ : zS} {t0 : Nat} (h0 : zT Y 9 t0) {Q : zS → Prop} (hw : wX9_clear (zln Y) σ t0 Q) : ∀ sz, Met l yX9_clear (zw yX9_clear cX9_clear 1 none) rX9_clear (zPc E Y σ sz [.ref (za Y t0)]) (va_Qv Q (zB E Y sz) (zA Y sz)) 0 0 (zA Y sz) := by
  refine z_met (own := RX9) (Qc := fun sz => va_Qv Q (zB E Y sz) (zA Y sz)) (by decide +kernel) rfl (Nat.le_of_ble_eq_true rfl) ?_
  intro p e s m args below meth c hG hinit
  unfold wX9_clear at hw
  refine zlv (lv' := [(0, .ref (za Y t0))]) rfl ?_
  refine z_aload_n hG dX9_clear_0 rfl 0 rfl ?_
  refine z_iconst (v := 0) hG dX9_clear_1 (by decide) ?_
  refine z_puti hG f_X9_21 h0 rfl rfl (zN_int _) dX9_clear_2 ?_
  refine z_topσ (fun σ1 eσ1 => ?_)
  have hw := hw σ1 eσ1
  exact z_vret hG rfl dX9_clear_5 hw
-- TypeWheelTelegraph$Desk.reset()V
def wX0_reset (ln : Nat → Nat) (σ : zS) (t0 : Nat) (Q : zS → Prop) : Prop := ∀ σ1 : zS, σ1 = si σ t0 0 0 → ∀ σ2 : zS, σ2 = si σ1 t0 1 100 → ∀ σ3 : zS, σ3 = si σ2 t0 2 0 → Q σ3
abbrev rX0_reset : Room := { frames := 0, cells := 0, slots := 0, locals := 0 }
set_option maxRecDepth 100000 in
set_option maxHeartbeats 4000000 in
theorem MX0_reset (l : Launch) {E : zE} {Y : zY} {σ : zS} {t0 : Nat} (h0 : zT Y 0 t0) {Q : zS → Prop} (hw : wX0_reset (zln Y) σ t0 Q) : ∀ sz, Met l yX0_reset (zw yX0_reset cX0_reset 1 none) rX0_reset (zPc E Y σ sz [.ref (za Y t0)]) (va_Qv Q (zB E Y sz) (zA Y sz)) 0 0 (zA Y sz) := by
  refine z_met (own := RX0) (Qc := fun sz => va_Qv Q (zB E Y sz) (zA Y sz)) (by decide +kernel) rfl (Nat.le_of_ble_eq_true rfl) ?_
  intro p e s m args below meth c hG hinit
  unfold wX0_reset at hw
  refine zlv (lv' := [(0, .ref (za Y t0))]) rfl ?_
  refine z_aload_n hG dX0_reset_0 rfl 0 rfl ?_
  refine z_iconst (v := 0) hG dX0_reset_1 (by decide) ?_
  refine z_puti hG f_X0_18 h0 rfl rfl (zN_int _) dX0_reset_2 ?_
  refine z_topσ (fun σ1 eσ1 => ?_)
  have hw := hw σ1 eσ1
  refine z_aload_n hG dX0_reset_5 rfl 0 rfl ?_
  refine z_bipush (v := 100) hG dX0_reset_6 (by decide) ?_
  refine z_puti hG f_X0_22 h0 rfl rfl (zN_int _) dX0_reset_8 ?_
  refine z_topσ (fun σ2 eσ2 => ?_)
  have hw := hw σ2 eσ2
  refine z_aload_n hG dX0_reset_11 rfl 0 rfl ?_
  refine z_iconst (v := 0) hG dX0_reset_12 (by decide) ?_
  refine z_puti hG f_X0_25 h0 rfl rfl (zN_int _) dX0_reset_13 ?_
  refine z_topσ (fun σ3 eσ3 => ?_)
  have hw := hw σ3 eσ3
  exact z_vret hG rfl dX0_reset_16 hw
-- TypeWheelTelegraph$Plan.reset()V
def wX6_reset (ln : Nat → Nat) (σ : zS) (t0 : Nat) (Q : zS → Prop) : Prop := ∀ σ1 : zS, σ1 = si σ t0 0 28 → ∀ σ2 : zS, σ2 = si σ1 t0 1 1 → ∀ σ3 : zS, σ3 = si σ2 t0 2 200 → ∀ σ4 : zS, σ4 = si σ3 t0 3 600 → ∀ σ5 : zS, σ5 = si σ4 t0 4 2 → ∃ j6 : Nat, gr σ5 t0 5 = some j6 ∧ wX9_clear ln σ5 j6 (fun σ7 => ∃ j8 : Nat, gr σ7 t0 6 = some j8 ∧ wX0_reset ln σ7 j8 (fun σ9 => ∃ j10 : Nat, gr σ9 t0 7 = some j10 ∧ wX0_reset ln σ9 j10 (fun σ11 => Q σ11)))
abbrev rX6_reset : Room := { frames := 1, cells := 0, slots := 0, locals := 20 }
set_option maxRecDepth 100000 in
set_option maxHeartbeats 4000000 in
theorem MX6_reset (l : Launch) {E : zE} {Y : zY} {σ : zS} {t0 : Nat} (h0 : zT Y 6 t0) {Q : zS → Prop} (hw : wX6_reset (zln Y) σ t0 Q) : ∀ sz, Met l yX6_reset (zw yX6_reset cX6_reset 1 none) rX6_reset (zPc E Y σ sz [.ref (za Y t0)]) (va_Qv Q (zB E Y sz) (zA Y sz)) 0 0 (zA Y sz) := by
  refine z_met (own := RX6) (Qc := fun sz => va_Qv Q (zB E Y sz) (zA Y sz)) (by decide +kernel) rfl (Nat.le_of_ble_eq_true rfl) ?_
  intro p e s m args below meth c hG hinit
  unfold wX6_reset at hw
  refine zlv (lv' := [(0, .ref (za Y t0))]) rfl ?_
  refine z_aload_n hG dX6_reset_0 rfl 0 rfl ?_
  refine z_bipush (v := 28) hG dX6_reset_1 (by decide) ?_
  refine z_puti hG f_X6_33 h0 rfl rfl (zN_int _) dX6_reset_3 ?_
  refine z_topσ (fun σ1 eσ1 => ?_)
  have hw := hw σ1 eσ1
  refine z_aload_n hG dX6_reset_6 rfl 0 rfl ?_
  refine z_iconst (v := 1) hG dX6_reset_7 (by decide) ?_
  refine z_puti hG f_X6_37 h0 rfl rfl (zN_int _) dX6_reset_8 ?_
  refine z_topσ (fun σ2 eσ2 => ?_)
  have hw := hw σ2 eσ2
  refine z_aload_n hG dX6_reset_11 rfl 0 rfl ?_
  refine z_sipush (v := 200) hG dX6_reset_12 (by decide) ?_
  refine z_puti hG f_X6_40 h0 rfl rfl (zN_int _) dX6_reset_15 ?_
  refine z_topσ (fun σ3 eσ3 => ?_)
  have hw := hw σ3 eσ3
  refine z_aload_n hG dX6_reset_18 rfl 0 rfl ?_
  refine z_sipush (v := 600) hG dX6_reset_19 (by decide) ?_
  refine z_puti hG f_X6_43 h0 rfl rfl (zN_int _) dX6_reset_22 ?_
  refine z_topσ (fun σ4 eσ4 => ?_)
  have hw := hw σ4 eσ4
  refine z_aload_n hG dX6_reset_25 rfl 0 rfl ?_
  refine z_iconst (v := 2) hG dX6_reset_26 (by decide) ?_
  refine z_puti hG f_X6_46 h0 rfl rfl (zN_int _) dX6_reset_27 ?_
  refine z_topσ (fun σ5 eσ5 => ?_)
  have hw := hw σ5 eσ5
  refine z_aload_n hG dX6_reset_30 rfl 0 rfl ?_
  obtain ⟨j6, ej6, hw⟩ := hw
  refine z_getr (kq := 9) hG f_X6_14 h0 rfl ej6 rfl (by decide) dX6_reset_31 (fun hj6 => ?_)
  refine z_callv hG (z_runV (As := []) (st := []) hG k_X6_49 (MX9_clear l hj6 hw) ⟨(Nat.le_of_ble_eq_true rfl), (Nat.le_of_ble_eq_true rfl)⟩ hj6 (T := TX9) (N := 2) rfl (by decide) rfl (Nat.le_of_ble_eq_true rfl) dX6_reset_34 ⟨Nat.zero_le _, Nat.zero_le _⟩ rfl) (fun σ7 hw => ?_)
  refine z_aload_n hG dX6_reset_37 rfl 0 rfl ?_
  obtain ⟨j8, ej8, hw⟩ := hw
  refine z_getr (kq := 0) hG f_X6_23 h0 rfl ej8 rfl (by decide) dX6_reset_38 (fun hj8 => ?_)
  refine z_callv hG (z_runV (As := []) (st := []) hG k_X6_52 (MX0_reset l hj8 hw) ⟨(Nat.le_of_ble_eq_true rfl), (Nat.le_of_ble_eq_true rfl)⟩ hj8 (T := TX0) (N := 4) rfl (by decide) rfl (Nat.le_of_ble_eq_true rfl) dX6_reset_41 ⟨Nat.zero_le _, Nat.zero_le _⟩ rfl) (fun σ9 hw => ?_)
  refine z_aload_n hG dX6_reset_44 rfl 0 rfl ?_
  obtain ⟨j10, ej10, hw⟩ := hw
  refine z_getr (kq := 0) hG f_X6_27 h0 rfl ej10 rfl (by decide) dX6_reset_45 (fun hj10 => ?_)
  refine z_callv hG (z_runV (As := []) (st := []) hG k_X6_52 (MX0_reset l hj10 hw) ⟨(Nat.le_of_ble_eq_true rfl), (Nat.le_of_ble_eq_true rfl)⟩ hj10 (T := TX0) (N := 4) rfl (by decide) rfl (Nat.le_of_ble_eq_true rfl) dX6_reset_48 ⟨Nat.zero_le _, Nat.zero_le _⟩ rfl) (fun σ11 hw => ?_)
  exact z_vret hG rfl dX6_reset_51 hw
-- TypeWheelTelegraph$Office.begin(LTypeWheelTelegraph$Desk;)V
def wX4_begin (ln : Nat → Nat) (σ : zS) (t0 : Nat) (t1 : Nat) (Q : zS → Prop) : Prop := ∀ x1 : Int32, x1 = gi σ t1 0 → ∀ σ2 : zS, σ2 = si σ t0 0 x1 → ∀ x3 : Int32, x3 = gi σ2 t1 1 → ∀ σ4 : zS, σ4 = si σ2 t0 1 x3 → ∀ σ5 : zS, σ5 = si σ4 t0 2 0 → ∀ σ6 : zS, σ6 = si σ5 t0 3 0 → ∀ σ7 : zS, σ7 = si σ6 t0 4 0 → ∀ σ8 : zS, σ8 = si σ7 t0 5 0 → ∀ σ9 : zS, σ9 = sl σ8 t0 6 0 → ∃ j10 : Nat, gr σ9 t0 7 = some j10 ∧ wX9_clear ln σ9 j10 (fun σ11 => Q σ11)
abbrev rX4_begin : Room := { frames := 1, cells := 0, slots := 0, locals := 20 }
set_option maxRecDepth 100000 in
set_option maxHeartbeats 4000000 in
theorem MX4_begin (l : Launch) {E : zE} {Y : zY} {σ : zS} {t0 : Nat} {t1 : Nat} (h0 : zT Y 4 t0) (h1 : zT Y 0 t1) {Q : zS → Prop} (hw : wX4_begin (zln Y) σ t0 t1 Q) : ∀ sz, Met l yX4_begin (zw yX4_begin cX4_begin 2 none) rX4_begin (zPc E Y σ sz [.ref (za Y t0), .ref (za Y t1)]) (va_Qv Q (zB E Y sz) (zA Y sz)) 0 0 (zA Y sz) := by
  refine z_met (own := RX4) (Qc := fun sz => va_Qv Q (zB E Y sz) (zA Y sz)) (by decide +kernel) rfl (Nat.le_of_ble_eq_true rfl) ?_
  intro p e s m args below meth c hG hinit
  unfold wX4_begin at hw
  refine zlv (lv' := [(0, .ref (za Y t0)), (1, .ref (za Y t1))]) rfl ?_
  refine z_aload_n hG dX4_begin_0 rfl 0 rfl ?_
  refine z_aload_n hG dX4_begin_1 rfl 1 rfl ?_
  refine z_geti hG f_X4_20 h1 rfl dX4_begin_2 ?_
  refine z_topi (fun x1 ex1 => ?_)
  have hw := hw x1 ex1
  refine z_puti hG f_X4_26 h0 rfl rfl (zN_int _) dX4_begin_5 ?_
  refine z_topσ (fun σ2 eσ2 => ?_)
  have hw := hw σ2 eσ2
  refine z_aload_n hG dX4_begin_8 rfl 0 rfl ?_
  refine z_aload_n hG dX4_begin_9 rfl 1 rfl ?_
  refine z_geti hG f_X4_27 h1 rfl dX4_begin_10 ?_
  refine z_topi (fun x3 ex3 => ?_)
  have hw := hw x3 ex3
  refine z_puti hG f_X4_30 h0 rfl rfl (zN_int _) dX4_begin_13 ?_
  refine z_topσ (fun σ4 eσ4 => ?_)
  have hw := hw σ4 eσ4
  refine z_aload_n hG dX4_begin_16 rfl 0 rfl ?_
  refine z_iconst (v := 0) hG dX4_begin_17 (by decide) ?_
  refine z_puti hG f_X4_31 h0 rfl rfl (zN_int _) dX4_begin_18 ?_
  refine z_topσ (fun σ5 eσ5 => ?_)
  have hw := hw σ5 eσ5
  refine z_aload_n hG dX4_begin_21 rfl 0 rfl ?_
  refine z_iconst (v := 0) hG dX4_begin_22 (by decide) ?_
  refine z_puti hG f_X4_34 h0 rfl rfl (zN_int _) dX4_begin_23 ?_
  refine z_topσ (fun σ6 eσ6 => ?_)
  have hw := hw σ6 eσ6
  refine z_aload_n hG dX4_begin_26 rfl 0 rfl ?_
  refine z_iconst (v := 0) hG dX4_begin_27 (by decide) ?_
  refine z_puti hG f_X4_37 h0 rfl rfl (zN_int _) dX4_begin_28 ?_
  refine z_topσ (fun σ7 eσ7 => ?_)
  have hw := hw σ7 eσ7
  refine z_aload_n hG dX4_begin_31 rfl 0 rfl ?_
  refine z_iconst (v := 0) hG dX4_begin_32 (by decide) ?_
  refine z_puti hG f_X4_40 h0 rfl rfl (zN_int _) dX4_begin_33 ?_
  refine z_topσ (fun σ8 eσ8 => ?_)
  have hw := hw σ8 eσ8
  refine z_aload_n hG dX4_begin_36 rfl 0 rfl ?_
  refine z_lconst (v := 0) hG dX4_begin_37 (by decide) ?_
  refine z_putl hG f_X4_43 h0 rfl rfl rfl dX4_begin_38 ?_
  refine z_topσ (fun σ9 eσ9 => ?_)
  have hw := hw σ9 eσ9
  refine z_aload_n hG dX4_begin_41 rfl 0 rfl ?_
  obtain ⟨j10, ej10, hw⟩ := hw
  refine z_getr (kq := 9) hG f_X4_16 h0 rfl ej10 rfl (by decide) dX4_begin_42 (fun hj10 => ?_)
  refine z_callv hG (z_runV (As := []) (st := []) hG k_X4_47 (MX9_clear l hj10 hw) ⟨(Nat.le_of_ble_eq_true rfl), (Nat.le_of_ble_eq_true rfl)⟩ hj10 (T := TX9) (N := 2) rfl (by decide) rfl (Nat.le_of_ble_eq_true rfl) dX4_begin_45 ⟨Nat.zero_le _, Nat.zero_le _⟩ rfl) (fun σ11 hw => ?_)
  exact z_vret hG rfl dX4_begin_48 hw
-- TypeWheelTelegraph$Records.clear()V
def wX8_clear (ln : Nat → Nat) (σ : zS) (t0 : Nat) (Q : zS → Prop) : Prop := ∀ σ1 : zS, σ1 = si σ t0 2 0 → ∀ σ2 : zS, σ2 = si σ1 t0 3 0 → Q σ2
abbrev rX8_clear : Room := { frames := 0, cells := 0, slots := 0, locals := 0 }
set_option maxRecDepth 100000 in
set_option maxHeartbeats 4000000 in
theorem MX8_clear (l : Launch) {E : zE} {Y : zY} {σ : zS} {t0 : Nat} (h0 : zT Y 8 t0) {Q : zS → Prop} (hw : wX8_clear (zln Y) σ t0 Q) : ∀ sz, Met l yX8_clear (zw yX8_clear cX8_clear 1 none) rX8_clear (zPc E Y σ sz [.ref (za Y t0)]) (va_Qv Q (zB E Y sz) (zA Y sz)) 0 0 (zA Y sz) := by
  refine z_met (own := RX8) (Qc := fun sz => va_Qv Q (zB E Y sz) (zA Y sz)) (by decide +kernel) rfl (Nat.le_of_ble_eq_true rfl) ?_
  intro p e s m args below meth c hG hinit
  unfold wX8_clear at hw
  refine zlv (lv' := [(0, .ref (za Y t0))]) rfl ?_
  refine z_aload_n hG dX8_clear_0 rfl 0 rfl ?_
  refine z_iconst (v := 0) hG dX8_clear_1 (by decide) ?_
  refine z_puti hG f_X8_35 h0 rfl rfl (zN_int _) dX8_clear_2 ?_
  refine z_topσ (fun σ1 eσ1 => ?_)
  have hw := hw σ1 eσ1
  refine z_aload_n hG dX8_clear_5 rfl 0 rfl ?_
  refine z_iconst (v := 0) hG dX8_clear_6 (by decide) ?_
  refine z_puti hG f_X8_25 h0 rfl rfl (zN_int _) dX8_clear_7 ?_
  refine z_topσ (fun σ2 eσ2 => ?_)
  have hw := hw σ2 eσ2
  exact z_vret hG rfl dX8_clear_10 hw
-- TypeWheelTelegraph$Row.copyFrom(LTypeWheelTelegraph$Row;)V
def wX9_copyFrom (ln : Nat → Nat) (σ : zS) (t0 : Nat) (t1 : Nat) (Q : zS → Prop) : Prop := ∃ j1 : Nat, gr σ t1 0 = some j1 ∧ ∃ j2 : Nat, gr σ t0 0 = some j2 ∧ ∀ x3 : Int32, x3 = nI (ln j2) → ∀ x4 : Int32, x4 = nI (ln j1) → ∀ x5 : Int32, x5 = (if x3 < x4 then x3 else x4) → ∀ x6 : Int32, x6 = gi σ t1 1 → ∀ x7 : Int32, x7 = (if x5 < x6 then x5 else x6) → ∀ σ8 : zS, σ8 = si σ t0 1 x7 → ∃ j9 : Nat, gr σ8 t1 0 = some j9 ∧ ∃ j10 : Nat, gr σ8 t0 0 = some j10 ∧ ∀ x11 : Int32, x11 = gi σ8 t0 1 → (¬ (0 : Int32) < 0 ∧ ¬ (0 : Int32) < 0 ∧ ¬ x11 < 0 ∧ (0 : Int32).toNatClampNeg + x11.toNatClampNeg ≤ ln j9 ∧ (0 : Int32).toNatClampNeg + x11.toNatClampNeg ≤ ln j10) ∧ ∀ σ17 : zS, σ17 = sI σ8 j10 (va_cpy (gi σ8 j9) (gi σ8 j10) (0 : Int32).toNatClampNeg (0 : Int32).toNatClampNeg x11.toNatClampNeg) → Q σ17
abbrev rX9_copyFrom : Room := { frames := 1, cells := 0, slots := 0, locals := 48 }
set_option maxRecDepth 100000 in
set_option maxHeartbeats 4000000 in
theorem MX9_copyFrom (l : Launch) {E : zE} {Y : zY} {σ : zS} {t0 : Nat} {t1 : Nat} (h0 : zT Y 9 t0) (h1 : zT Y 9 t1) {Q : zS → Prop} (hw : wX9_copyFrom (zln Y) σ t0 t1 Q) : ∀ sz, Met l yX9_copyFrom (zw yX9_copyFrom cX9_copyFrom 2 none) rX9_copyFrom (zPc E Y σ sz [.ref (za Y t0), .ref (za Y t1)]) (va_Qv Q (zB E Y sz) (zA Y sz)) 0 0 (zA Y sz) := by
  refine z_met (own := RX9) (Qc := fun sz => va_Qv Q (zB E Y sz) (zA Y sz)) (by decide +kernel) rfl (Nat.le_of_ble_eq_true rfl) ?_
  intro p e s m args below meth c hG hinit
  unfold wX9_copyFrom at hw
  refine zlv (lv' := [(0, .ref (za Y t0)), (1, .ref (za Y t1))]) rfl ?_
  refine z_aload_n hG dX9_copyFrom_0 rfl 0 rfl ?_
  refine z_aload_n hG dX9_copyFrom_1 rfl 1 rfl ?_
  refine z_geti hG f_X9_21 h1 rfl dX9_copyFrom_2 ?_
  refine z_aload_n hG dX9_copyFrom_5 rfl 1 rfl ?_
  obtain ⟨j1, ej1, hw⟩ := hw
  refine z_getr (kq := 20) hG f_X9_15 h1 rfl ej1 rfl (by decide) dX9_copyFrom_6 (fun hj1 => ?_)
  refine z_alen hG hj1 (by decide) (t0 := 0) rfl dX9_copyFrom_9 ?_
  refine z_aload_n hG dX9_copyFrom_10 rfl 0 rfl ?_
  obtain ⟨j2, ej2, hw⟩ := hw
  refine z_getr (kq := 20) hG f_X9_15 h0 rfl ej2 rfl (by decide) dX9_copyFrom_11 (fun hj2 => ?_)
  refine z_alen hG hj2 (by decide) (t0 := 0) rfl dX9_copyFrom_14 ?_
  refine z_topi (fun x3 ex3 => ?_)
  have hw := hw x3 ex3
  obtain ⟨x4, ex4⟩ : ∃ y : Int32, y = nI ((zln Y) j1) := ⟨_, rfl⟩
  refine zst (st' := [.int x3, .int x4, .int (gi σ t1 1), .ref (za Y t0)]) (by rw [ex4]) ?_
  have hw := hw x4 ex4
  refine z_mmin hG k_X9_29 km_min_s km_i km_min_c (Nat.le_of_ble_eq_true rfl) (Nat.le_of_ble_eq_true rfl) (Nat.zero_le _) (Nat.zero_le _) dX9_copyFrom_15 ?_
  refine z_topi (fun x5 ex5 => ?_)
  have hw := hw x5 ex5
  obtain ⟨x6, ex6⟩ : ∃ y : Int32, y = gi σ t1 1 := ⟨_, rfl⟩
  refine zst (st' := [.int x5, .int x6, .ref (za Y t0)]) (by rw [ex6]) ?_
  have hw := hw x6 ex6
  refine z_mmin hG k_X9_29 km_min_s km_i km_min_c (Nat.le_of_ble_eq_true rfl) (Nat.le_of_ble_eq_true rfl) (Nat.zero_le _) (Nat.zero_le _) dX9_copyFrom_18 ?_
  refine z_topi (fun x7 ex7 => ?_)
  have hw := hw x7 ex7
  refine z_puti hG f_X9_21 h0 rfl rfl (zN_int _) dX9_copyFrom_21 ?_
  refine z_topσ (fun σ8 eσ8 => ?_)
  have hw := hw σ8 eσ8
  refine z_aload_n hG dX9_copyFrom_24 rfl 1 rfl ?_
  obtain ⟨j9, ej9, hw⟩ := hw
  refine z_getr (kq := 20) hG f_X9_15 h1 rfl ej9 rfl (by decide) dX9_copyFrom_25 (fun hj9 => ?_)
  refine z_iconst (v := 0) hG dX9_copyFrom_28 (by decide) ?_
  refine z_aload_n hG dX9_copyFrom_29 rfl 0 rfl ?_
  obtain ⟨j10, ej10, hw⟩ := hw
  refine z_getr (kq := 20) hG f_X9_15 h0 rfl ej10 rfl (by decide) dX9_copyFrom_30 (fun hj10 => ?_)
  refine z_iconst (v := 0) hG dX9_copyFrom_33 (by decide) ?_
  refine z_aload_n hG dX9_copyFrom_34 rfl 0 rfl ?_
  refine z_geti hG f_X9_21 h0 rfl dX9_copyFrom_35 ?_
  refine z_topi (fun x11 ex11 => ?_)
  have hw := hw x11 ex11
  obtain ⟨⟨q12, q13, q14, q15, q16⟩, hw⟩ := hw
  refine z_copyi hG k_X9_32 ks_n ks_s ks_i hj9 hj10 q12 q13 q14 q15 q16 (by decide +kernel) (by decide +kernel) dX9_copyFrom_38 ?_
  refine z_topσ (fun σ17 eσ17 => ?_)
  have hw := hw σ17 eσ17
  exact z_vret hG rfl dX9_copyFrom_41 hw
-- TypeWheelTelegraph$Receiver.clear()V
def wX7_clear (ln : Nat → Nat) (σ : zS) (t0 : Nat) (Q : zS → Prop) : Prop := ∃ j1 : Nat, gr σ t0 0 = some j1 ∧ wX9_clear ln σ j1 (fun σ2 => ∀ σ3 : zS, σ3 = si σ2 t0 1 0 → ∀ σ4 : zS, σ4 = si σ3 t0 2 0 → ∀ σ5 : zS, σ5 = si σ4 t0 3 0 → Q σ5)
abbrev rX7_clear : Room := { frames := 1, cells := 0, slots := 0, locals := 20 }
set_option maxRecDepth 100000 in
set_option maxHeartbeats 4000000 in
theorem MX7_clear (l : Launch) {E : zE} {Y : zY} {σ : zS} {t0 : Nat} (h0 : zT Y 7 t0) {Q : zS → Prop} (hw : wX7_clear (zln Y) σ t0 Q) : ∀ sz, Met l yX7_clear (zw yX7_clear cX7_clear 1 none) rX7_clear (zPc E Y σ sz [.ref (za Y t0)]) (va_Qv Q (zB E Y sz) (zA Y sz)) 0 0 (zA Y sz) := by
  refine z_met (own := RX7) (Qc := fun sz => va_Qv Q (zB E Y sz) (zA Y sz)) (by decide +kernel) rfl (Nat.le_of_ble_eq_true rfl) ?_
  intro p e s m args below meth c hG hinit
  unfold wX7_clear at hw
  refine zlv (lv' := [(0, .ref (za Y t0))]) rfl ?_
  refine z_aload_n hG dX7_clear_0 rfl 0 rfl ?_
  obtain ⟨j1, ej1, hw⟩ := hw
  refine z_getr (kq := 9) hG f_X7_16 h0 rfl ej1 rfl (by decide) dX7_clear_1 (fun hj1 => ?_)
  refine z_callv hG (z_runV (As := []) (st := []) hG k_X7_20 (MX9_clear l hj1 hw) ⟨(Nat.le_of_ble_eq_true rfl), (Nat.le_of_ble_eq_true rfl)⟩ hj1 (T := TX9) (N := 2) rfl (by decide) rfl (Nat.le_of_ble_eq_true rfl) dX7_clear_4 ⟨Nat.zero_le _, Nat.zero_le _⟩ rfl) (fun σ2 hw => ?_)
  refine z_aload_n hG dX7_clear_7 rfl 0 rfl ?_
  refine z_iconst (v := 0) hG dX7_clear_8 (by decide) ?_
  refine z_puti hG f_X7_23 h0 rfl rfl (zN_int _) dX7_clear_9 ?_
  refine z_topσ (fun σ3 eσ3 => ?_)
  have hw := hw σ3 eσ3
  refine z_aload_n hG dX7_clear_12 rfl 0 rfl ?_
  refine z_iconst (v := 0) hG dX7_clear_13 (by decide) ?_
  refine z_puti hG f_X7_27 h0 rfl rfl (zN_int _) dX7_clear_14 ?_
  refine z_topσ (fun σ4 eσ4 => ?_)
  have hw := hw σ4 eσ4
  refine z_aload_n hG dX7_clear_17 rfl 0 rfl ?_
  refine z_iconst (v := 0) hG dX7_clear_18 (by decide) ?_
  refine z_puti hG f_X7_30 h0 rfl rfl (zN_b (by decide)) dX7_clear_19 ?_
  refine z_topσ (fun σ5 eσ5 => ?_)
  have hw := hw σ5 eσ5
  exact z_vret hG rfl dX7_clear_22 hw
-- TypeWheelTelegraph$Machine.endTransmission()V
def wX3_endTransmission (ln : Nat → Nat) (σ : zS) (t0 : Nat) (Q : zS → Prop) : Prop := ∀ σ1 : zS, σ1 = si σ t0 3 (-1) → ∀ σ2 : zS, σ2 = si σ1 t0 4 0 → ∀ σ3 : zS, σ3 = si σ2 t0 6 0 → ∀ σ4 : zS, σ4 = si σ3 t0 7 0 → ∃ j5 : Nat, gr σ4 t0 13 = some j5 ∧ wX7_clear ln σ4 j5 (fun σ6 => ∃ j7 : Nat, gr σ6 t0 14 = some j7 ∧ wX8_clear ln σ6 j7 (fun σ8 => Q σ8))
abbrev rX3_endTransmission : Room := { frames := 2, cells := 0, slots := 0, locals := 40 }
set_option maxRecDepth 100000 in
set_option maxHeartbeats 4000000 in
theorem MX3_endTransmission (l : Launch) {E : zE} {Y : zY} {σ : zS} {t0 : Nat} (h0 : zT Y 3 t0) {Q : zS → Prop} (hw : wX3_endTransmission (zln Y) σ t0 Q) : ∀ sz, Met l yX3_endTransmission (zw yX3_endTransmission cX3_endTransmission 1 none) rX3_endTransmission (zPc E Y σ sz [.ref (za Y t0)]) (va_Qv Q (zB E Y sz) (zA Y sz)) 0 0 (zA Y sz) := by
  refine z_met (own := RX3) (Qc := fun sz => va_Qv Q (zB E Y sz) (zA Y sz)) (by decide +kernel) rfl (Nat.le_of_ble_eq_true rfl) ?_
  intro p e s m args below meth c hG hinit
  unfold wX3_endTransmission at hw
  refine zlv (lv' := [(0, .ref (za Y t0))]) rfl ?_
  refine z_aload_n hG dX3_endTransmission_0 rfl 0 rfl ?_
  refine z_iconst (v := (-1)) hG dX3_endTransmission_1 (by decide) ?_
  refine z_puti hG f_X3_9 h0 rfl rfl (zN_int _) dX3_endTransmission_2 ?_
  refine z_topσ (fun σ1 eσ1 => ?_)
  have hw := hw σ1 eσ1
  refine z_aload_n hG dX3_endTransmission_5 rfl 0 rfl ?_
  refine z_iconst (v := 0) hG dX3_endTransmission_6 (by decide) ?_
  refine z_puti hG f_X3_96 h0 rfl rfl (zN_b (by decide)) dX3_endTransmission_7 ?_
  refine z_topσ (fun σ2 eσ2 => ?_)
  have hw := hw σ2 eσ2
  refine z_aload_n hG dX3_endTransmission_10 rfl 0 rfl ?_
  refine z_iconst (v := 0) hG dX3_endTransmission_11 (by decide) ?_
  refine z_puti hG f_X3_103 h0 rfl rfl (zN_int _) dX3_endTransmission_12 ?_
  refine z_topσ (fun σ3 eσ3 => ?_)
  have hw := hw σ3 eσ3
  refine z_aload_n hG dX3_endTransmission_15 rfl 0 rfl ?_
  refine z_iconst (v := 0) hG dX3_endTransmission_16 (by decide) ?_
  refine z_puti hG f_X3_106 h0 rfl rfl (zN_int _) dX3_endTransmission_17 ?_
  refine z_topσ (fun σ4 eσ4 => ?_)
  have hw := hw σ4 eσ4
  refine z_aload_n hG dX3_endTransmission_20 rfl 0 rfl ?_
  obtain ⟨j5, ej5, hw⟩ := hw
  refine z_getr (kq := 7) hG f_X3_28 h0 rfl ej5 rfl (by decide) dX3_endTransmission_21 (fun hj5 => ?_)
  refine z_callv hG (z_runV (As := []) (st := []) hG k_X3_118 (MX7_clear l hj5 hw) ⟨(Nat.le_of_ble_eq_true rfl), (Nat.le_of_ble_eq_true rfl)⟩ hj5 (T := TX7) (N := 4) rfl (by decide) rfl (Nat.le_of_ble_eq_true rfl) dX3_endTransmission_24 ⟨Nat.zero_le _, Nat.zero_le _⟩ rfl) (fun σ6 hw => ?_)
  refine z_aload_n hG dX3_endTransmission_27 rfl 0 rfl ?_
  obtain ⟨j7, ej7, hw⟩ := hw
  refine z_getr (kq := 8) hG f_X3_37 h0 rfl ej7 rfl (by decide) dX3_endTransmission_28 (fun hj7 => ?_)
  refine z_callv hG (z_runV (As := []) (st := []) hG k_X3_82 (MX8_clear l hj7 hw) ⟨(Nat.le_of_ble_eq_true rfl), (Nat.le_of_ble_eq_true rfl)⟩ hj7 (T := TX8) (N := 4) rfl (by decide) rfl (Nat.le_of_ble_eq_true rfl) dX3_endTransmission_31 ⟨Nat.zero_le _, Nat.zero_le _⟩ rfl) (fun σ8 hw => ?_)
  exact z_vret hG rfl dX3_endTransmission_34 hw
-- TypeWheelTelegraph$Machine.begin(LTypeWheelTelegraph$Plan;)V
def wX3_begin (ln : Nat → Nat) (σ : zS) (t0 : Nat) (t1 : Nat) (Q : zS → Prop) : Prop := ∀ σ1 : zS, σ1 = sr σ t0 0 (some t1) → ∀ σ2 : zS, σ2 = si σ1 t0 1 0 → ∃ j3 : Nat, gr σ2 t0 0 = some j3 ∧ ∀ x4 : Int32, x4 = gi σ2 j3 2 → ∀ σ5 : zS, σ5 = si σ2 t0 2 x4 → ∀ σ6 : zS, σ6 = si σ5 t0 9 0 → ∀ σ7 : zS, σ7 = si σ6 t0 10 0 → ∃ j8 : Nat, gr σ7 t0 11 = some j8 ∧ ∃ j9 : Nat, gr σ7 t0 0 = some j9 ∧ ∃ j10 : Nat, gr σ7 j9 6 = some j10 ∧ wX4_begin ln σ7 j8 j10 (fun σ11 => ∃ j12 : Nat, gr σ11 t0 12 = some j12 ∧ ∃ j13 : Nat, gr σ11 t0 0 = some j13 ∧ ∃ j14 : Nat, gr σ11 j13 7 = some j14 ∧ wX4_begin ln σ11 j12 j14 (fun σ15 => ∃ j16 : Nat, gr σ15 t0 15 = some j16 ∧ wX8_clear ln σ15 j16 (fun σ17 => ∃ j18 : Nat, gr σ17 t0 16 = some j18 ∧ ∃ j19 : Nat, gr σ17 t0 0 = some j19 ∧ ∃ j20 : Nat, gr σ17 j19 5 = some j20 ∧ wX9_copyFrom ln σ17 j18 j20 (fun σ21 => ∀ σ22 : zS, σ22 = si σ21 t0 8 0 → wX3_endTransmission ln σ22 t0 (fun σ23 => Q σ23)))))
abbrev rX3_begin : Room := { frames := 3, cells := 0, slots := 0, locals := 69 }
set_option maxRecDepth 100000 in
set_option maxHeartbeats 4000000 in
theorem MX3_begin (l : Launch) {E : zE} {Y : zY} {σ : zS} {t0 : Nat} {t1 : Nat} (h0 : zT Y 3 t0) (h1 : zT Y 6 t1) {Q : zS → Prop} (hw : wX3_begin (zln Y) σ t0 t1 Q) : ∀ sz, Met l yX3_begin (zw yX3_begin cX3_begin 2 none) rX3_begin (zPc E Y σ sz [.ref (za Y t0), .ref (za Y t1)]) (va_Qv Q (zB E Y sz) (zA Y sz)) 0 0 (zA Y sz) := by
  refine z_met (own := RX3) (Qc := fun sz => va_Qv Q (zB E Y sz) (zA Y sz)) (by decide +kernel) rfl (Nat.le_of_ble_eq_true rfl) ?_
  intro p e s m args below meth c hG hinit
  unfold wX3_begin at hw
  refine zlv (lv' := [(0, .ref (za Y t0)), (1, .ref (za Y t1))]) rfl ?_
  refine z_aload_n hG dX3_begin_0 rfl 0 rfl ?_
  refine z_aload_n hG dX3_begin_1 rfl 1 rfl ?_
  refine z_putr hG f_X3_55 h0 rfl rfl rfl rfl (by decide) h1 dX3_begin_2 ?_
  refine z_topσ (fun σ1 eσ1 => ?_)
  have hw := hw σ1 eσ1
  refine z_aload_n hG dX3_begin_5 rfl 0 rfl ?_
  refine z_iconst (v := 0) hG dX3_begin_6 (by decide) ?_
  refine z_puti hG f_X3_59 h0 rfl rfl (zN_int _) dX3_begin_7 ?_
  refine z_topσ (fun σ2 eσ2 => ?_)
  have hw := hw σ2 eσ2
  refine z_aload_n hG dX3_begin_10 rfl 0 rfl ?_
  refine z_aload_n hG dX3_begin_11 rfl 0 rfl ?_
  obtain ⟨j3, ej3, hw⟩ := hw
  refine z_getr (kq := 6) hG f_X3_55 h0 rfl ej3 rfl (by decide) dX3_begin_12 (fun hj3 => ?_)
  refine z_geti hG f_X3_62 hj3 rfl dX3_begin_15 ?_
  refine z_topi (fun x4 ex4 => ?_)
  have hw := hw x4 ex4
  refine z_puti hG f_X3_67 h0 rfl rfl (zN_int _) dX3_begin_18 ?_
  refine z_topσ (fun σ5 eσ5 => ?_)
  have hw := hw σ5 eσ5
  refine z_aload_n hG dX3_begin_21 rfl 0 rfl ?_
  refine z_iconst (v := 0) hG dX3_begin_22 (by decide) ?_
  refine z_puti hG f_X3_68 h0 rfl rfl (zN_int _) dX3_begin_23 ?_
  refine z_topσ (fun σ6 eσ6 => ?_)
  have hw := hw σ6 eσ6
  refine z_aload_n hG dX3_begin_26 rfl 0 rfl ?_
  refine z_iconst (v := 0) hG dX3_begin_27 (by decide) ?_
  refine z_puti hG f_X3_71 h0 rfl rfl (zN_int _) dX3_begin_28 ?_
  refine z_topσ (fun σ7 eσ7 => ?_)
  have hw := hw σ7 eσ7
  refine z_aload_n hG dX3_begin_31 rfl 0 rfl ?_
  obtain ⟨j8, ej8, hw⟩ := hw
  refine z_getr (kq := 4) hG f_X3_18 h0 rfl ej8 rfl (by decide) dX3_begin_32 (fun hj8 => ?_)
  refine z_aload_n hG dX3_begin_35 rfl 0 rfl ?_
  obtain ⟨j9, ej9, hw⟩ := hw
  refine z_getr (kq := 6) hG f_X3_55 h0 rfl ej9 rfl (by decide) dX3_begin_36 (fun hj9 => ?_)
  obtain ⟨j10, ej10, hw⟩ := hw
  refine z_getr (kq := 0) hG f_X3_74 hj9 rfl ej10 rfl (by decide) dX3_begin_39 (fun hj10 => ?_)
  refine z_callv hG (z_runV (As := [.ref (za Y j10)]) (st := []) hG k_X3_77 (MX4_begin l hj8 hj10 hw) ⟨(Nat.le_of_ble_eq_true rfl), (Nat.le_of_ble_eq_true rfl)⟩ hj8 (T := TX4) (N := 8) rfl (by decide) rfl (Nat.le_of_ble_eq_true rfl) dX3_begin_42 ⟨Nat.zero_le _, Nat.zero_le _⟩ rfl) (fun σ11 hw => ?_)
  refine z_aload_n hG dX3_begin_45 rfl 0 rfl ?_
  obtain ⟨j12, ej12, hw⟩ := hw
  refine z_getr (kq := 4) hG f_X3_22 h0 rfl ej12 rfl (by decide) dX3_begin_46 (fun hj12 => ?_)
  refine z_aload_n hG dX3_begin_49 rfl 0 rfl ?_
  obtain ⟨j13, ej13, hw⟩ := hw
  refine z_getr (kq := 6) hG f_X3_55 h0 rfl ej13 rfl (by decide) dX3_begin_50 (fun hj13 => ?_)
  obtain ⟨j14, ej14, hw⟩ := hw
  refine z_getr (kq := 0) hG f_X3_80 hj13 rfl ej14 rfl (by decide) dX3_begin_53 (fun hj14 => ?_)
  refine z_callv hG (z_runV (As := [.ref (za Y j14)]) (st := []) hG k_X3_77 (MX4_begin l hj12 hj14 hw) ⟨(Nat.le_of_ble_eq_true rfl), (Nat.le_of_ble_eq_true rfl)⟩ hj12 (T := TX4) (N := 8) rfl (by decide) rfl (Nat.le_of_ble_eq_true rfl) dX3_begin_56 ⟨Nat.zero_le _, Nat.zero_le _⟩ rfl) (fun σ15 hw => ?_)
  refine z_aload_n hG dX3_begin_59 rfl 0 rfl ?_
  obtain ⟨j16, ej16, hw⟩ := hw
  refine z_getr (kq := 8) hG f_X3_41 h0 rfl ej16 rfl (by decide) dX3_begin_60 (fun hj16 => ?_)
  refine z_callv hG (z_runV (As := []) (st := []) hG k_X3_82 (MX8_clear l hj16 hw) ⟨(Nat.le_of_ble_eq_true rfl), (Nat.le_of_ble_eq_true rfl)⟩ hj16 (T := TX8) (N := 4) rfl (by decide) rfl (Nat.le_of_ble_eq_true rfl) dX3_begin_63 ⟨Nat.zero_le _, Nat.zero_le _⟩ rfl) (fun σ17 hw => ?_)
  refine z_aload_n hG dX3_begin_66 rfl 0 rfl ?_
  obtain ⟨j18, ej18, hw⟩ := hw
  refine z_getr (kq := 9) hG f_X3_47 h0 rfl ej18 rfl (by decide) dX3_begin_67 (fun hj18 => ?_)
  refine z_aload_n hG dX3_begin_70 rfl 0 rfl ?_
  obtain ⟨j19, ej19, hw⟩ := hw
  refine z_getr (kq := 6) hG f_X3_55 h0 rfl ej19 rfl (by decide) dX3_begin_71 (fun hj19 => ?_)
  obtain ⟨j20, ej20, hw⟩ := hw
  refine z_getr (kq := 9) hG f_X3_85 hj19 rfl ej20 rfl (by decide) dX3_begin_74 (fun hj20 => ?_)
  refine z_callv hG (z_runV (As := [.ref (za Y j20)]) (st := []) hG k_X3_86 (MX9_copyFrom l hj18 hj20 hw) ⟨(Nat.le_of_ble_eq_true rfl), (Nat.le_of_ble_eq_true rfl)⟩ hj18 (T := TX9) (N := 2) rfl (by decide) rfl (Nat.le_of_ble_eq_true rfl) dX3_begin_77 ⟨Nat.zero_le _, Nat.zero_le _⟩ rfl) (fun σ21 hw => ?_)
  refine z_aload_n hG dX3_begin_80 rfl 0 rfl ?_
  refine z_iconst (v := 0) hG dX3_begin_81 (by decide) ?_
  refine z_puti hG f_X3_90 h0 rfl rfl (zN_int _) dX3_begin_82 ?_
  refine z_topσ (fun σ22 eσ22 => ?_)
  have hw := hw σ22 eσ22
  refine z_aload_n hG dX3_begin_85 rfl 0 rfl ?_
  refine z_callv hG (z_runV (As := []) (st := []) hG k_X3_93 (MX3_endTransmission l h0 hw) ⟨(Nat.le_of_ble_eq_true rfl), (Nat.le_of_ble_eq_true rfl)⟩ h0 (T := TX3) (N := 17) rfl (by decide) rfl (Nat.le_of_ble_eq_true rfl) dX3_begin_86 ⟨Nat.zero_le _, Nat.zero_le _⟩ rfl) (fun σ23 hw => ?_)
  exact z_vret hG rfl dX3_begin_89 hw
-- TypeWheelTelegraph$Row.size()I
def wX9_size (ln : Nat → Nat) (σ : zS) (t0 : Nat) (Q : Int32 → zS → Prop) : Prop := Q (gi σ t0 1) σ
abbrev rX9_size : Room := { frames := 0, cells := 0, slots := 0, locals := 0 }
set_option maxRecDepth 100000 in
set_option maxHeartbeats 4000000 in
theorem MX9_size (l : Launch) {E : zE} {Y : zY} {σ : zS} {t0 : Nat} (h0 : zT Y 9 t0) {Q : Int32 → zS → Prop} (hw : wX9_size (zln Y) σ t0 Q) : ∀ sz, Met l yX9_size (zw yX9_size cX9_size 1 (some .int)) rX9_size (zPc E Y σ sz [.ref (za Y t0)]) (va_Qi Q (zB E Y sz) (zA Y sz)) 0 0 (zA Y sz) := by
  refine z_met (own := RX9) (Qc := fun sz => va_Qi Q (zB E Y sz) (zA Y sz)) (by decide +kernel) rfl (Nat.le_of_ble_eq_true rfl) ?_
  intro p e s m args below meth c hG hinit
  unfold wX9_size at hw
  refine zlv (lv' := [(0, .ref (za Y t0))]) rfl ?_
  refine z_aload_n hG dX9_size_0 rfl 0 rfl ?_
  refine z_geti hG f_X9_21 h0 rfl dX9_size_1 ?_
  exact z_iret hG rfl rfl dX9_size_4 hw
-- TypeWheelTelegraph$Row.add(I)V
def wX9_add (ln : Nat → Nat) (σ : zS) (t0 : Nat) (v1 : Int32) (Q : zS → Prop) : Prop := ∃ j1 : Nat, gr σ t0 0 = some j1 ∧ (((nI (ln j1)) ≤ (gi σ t0 1) → Q σ) ∧ (¬ (nI (ln j1)) ≤ (gi σ t0 1) → ∃ j2 : Nat, gr σ t0 0 = some j2 ∧ ∀ x3 : Int32, x3 = gi σ t0 1 → vp_in x3 (ln j2) ∧ ∀ σ5 : zS, σ5 = si σ j2 x3.toNatClampNeg v1 → ∀ x6 : Int32, x6 = (gi σ5 t0 1) + 1 → ∀ σ7 : zS, σ7 = si σ5 t0 1 x6 → Q σ7))
abbrev rX9_add : Room := { frames := 0, cells := 0, slots := 0, locals := 0 }
set_option maxRecDepth 100000 in
set_option maxHeartbeats 4000000 in
theorem MX9_add (l : Launch) {E : zE} {Y : zY} {σ : zS} {t0 : Nat} {v1 : Int32} (h0 : zT Y 9 t0) {Q : zS → Prop} (hw : wX9_add (zln Y) σ t0 v1 Q) : ∀ sz, Met l yX9_add (zw yX9_add cX9_add 2 none) rX9_add (zPc E Y σ sz [.ref (za Y t0), .int v1]) (va_Qv Q (zB E Y sz) (zA Y sz)) 0 0 (zA Y sz) := by
  refine z_met (own := RX9) (Qc := fun sz => va_Qv Q (zB E Y sz) (zA Y sz)) (by decide +kernel) rfl (Nat.le_of_ble_eq_true rfl) ?_
  intro p e s m args below meth c hG hinit
  unfold wX9_add at hw
  refine zlv (lv' := [(0, .ref (za Y t0)), (1, .int v1)]) rfl ?_
  refine z_aload_n hG dX9_add_0 rfl 0 rfl ?_
  refine z_geti hG f_X9_21 h0 rfl dX9_add_1 ?_
  refine z_aload_n hG dX9_add_4 rfl 0 rfl ?_
  obtain ⟨j1, ej1, hw⟩ := hw
  refine z_getr (kq := 20) hG f_X9_15 h0 rfl ej1 rfl (by decide) dX9_add_5 (fun hj1 => ?_)
  refine z_alen hG hj1 (by decide) (t0 := 0) rfl dX9_add_8 ?_
  refine z_icmp_ge (tgt := 32) hG dX9_add_9 (by decide) (fun c8 => ?_) (fun c8 => ?_)
  · have hw := hw.1 c8
    exact z_vret hG rfl dX9_add_32 hw
  · have hw := hw.2 c8
    refine z_aload_n hG dX9_add_12 rfl 0 rfl ?_
    obtain ⟨j2, ej2, hw⟩ := hw
    refine z_getr (kq := 20) hG f_X9_15 h0 rfl ej2 rfl (by decide) dX9_add_13 (fun hj2 => ?_)
    refine z_aload_n hG dX9_add_16 rfl 0 rfl ?_
    refine z_geti hG f_X9_21 h0 rfl dX9_add_17 ?_
    refine z_iload_n hG dX9_add_20 rfl 1 rfl ?_
    obtain ⟨x3, ex3⟩ : ∃ y : Int32, y = gi σ t0 1 := ⟨_, rfl⟩
    refine zst (st' := [.int v1, .int x3, .ref (za Y j2)]) (by rw [ex3]) ?_
    have hw := hw x3 ex3
    obtain ⟨q4, hw⟩ := hw
    refine z_iast hG hj2 q4 dX9_add_21 ?_
    refine z_topσ (fun σ5 eσ5 => ?_)
    have hw := hw σ5 eσ5
    refine z_aload_n hG dX9_add_22 rfl 0 rfl ?_
    refine z_dup hG dX9_add_23 rfl ?_
    refine z_geti hG f_X9_21 h0 rfl dX9_add_24 ?_
    refine z_iconst (v := 1) hG dX9_add_27 (by decide) ?_
    refine z_iadd hG dX9_add_28 ?_
    refine z_topi (fun x6 ex6 => ?_)
    have hw := hw x6 ex6
    refine z_puti hG f_X9_21 h0 rfl rfl (zN_int _) dX9_add_29 ?_
    refine z_topσ (fun σ7 eσ7 => ?_)
    have hw := hw σ7 eσ7
    exact z_vret hG rfl dX9_add_32 hw
-- TypeWheelTelegraph.appendWord(I)V
def wX11_appendWord_3 (ln : Nat → Nat) (Q : zS → Prop) : Nat → Nat → Int32 → Int32 → zS → Prop
  | 0, _, _, _, _ => False
  | n + 1, t0, v1, v2, σ => ((v2 < 0 → Q σ) ∧ (¬ v2 < 0 → ∃ j1 : Nat, gr σ t0 0 = some j1 ∧ ∀ x2 : Int32, x2 = (v1 >>> (v2 &&& 31)) &&& 255 → wX9_add ln σ j1 x2 (fun σ3 => ∀ x4 : Int32, x4 = v2 + (-8) → (wX11_appendWord_3 ln Q n) t0 v1 x4 σ3)))
def wX11_appendWord (ln : Nat → Nat) (σ : zS) (t0 : Nat) (v1 : Int32) (Q : zS → Prop) : Prop := ∃ n1 : Nat, wX11_appendWord_3 ln Q n1 t0 v1 24 σ
abbrev rX11_appendWord : Room := { frames := 1, cells := 0, slots := 0, locals := 21 }
set_option maxRecDepth 100000 in
set_option maxHeartbeats 4000000 in
theorem BX11_appendWord_3 {l : Launch} {E : zE} {Y : zY} {p : Program} {e : Env} {s : State} {m : MethodId} {args : Array Value} {below : List Frame} {meth : Method} {c : Code} (hG : zG E p l s m args meth c cX11_appendWord 3 RX11 none (zA Y s.heap.size)) {Q : zS → Prop} : ∀ (n : Nat) (t0 : Nat) (v1 : Int32) (v2 : Int32) (σ : zS), wX11_appendWord_3 (zln Y) Q n t0 v1 v2 σ → zT Y 11 t0 → WW E Y σ p l e rX11_appendWord s m args below meth c (zA Y s.heap.size) 3 0 0 (MQ below (va_Qv Q (zB E Y s.heap.size) (zA Y s.heap.size)) args s 0 0 (zA Y s.heap.size)) [(0, .ref (za Y t0)), (1, .int v1), (2, .int v2)] 3 [] := by
  intro n
  induction n with
  | zero => intro t0 v1 v2 σ hw
            exact hw.elim
  | succ n ih =>
    intro t0 v1 v2 σ hw h0
    rw [wX11_appendWord_3] at hw
    refine z_iload_n hG dX11_appendWord_3 rfl 2 rfl ?_
    refine z_if_lt (tgt := 27) hG dX11_appendWord_4 (by decide) (fun c5 => ?_) (fun c5 => ?_)
    · have hw := hw.1 c5
      exact z_vret hG rfl dX11_appendWord_27 hw
    · have hw := hw.2 c5
      refine z_aload_n hG dX11_appendWord_7 rfl 0 rfl ?_
      obtain ⟨j1, ej1, hw⟩ := hw
      refine z_getr (kq := 9) hG f_X11_14 h0 rfl ej1 rfl (by decide) dX11_appendWord_8 (fun hj1 => ?_)
      refine z_iload_n hG dX11_appendWord_11 rfl 1 rfl ?_
      refine z_iload_n hG dX11_appendWord_12 rfl 2 rfl ?_
      refine z_ishr hG dX11_appendWord_13 ?_
      refine z_sipush (v := 255) hG dX11_appendWord_14 (by decide) ?_
      refine z_iand hG dX11_appendWord_17 ?_
      refine z_topi (fun x2 ex2 => ?_)
      have hw := hw x2 ex2
      refine z_callv hG (z_runV (As := [.int x2]) (st := []) hG k_X11_81 (MX9_add l hj1 hw) ⟨(Nat.le_of_ble_eq_true rfl), (Nat.le_of_ble_eq_true rfl)⟩ hj1 (T := TX9) (N := 2) rfl (by decide) rfl (Nat.le_of_ble_eq_true rfl) dX11_appendWord_18 ⟨Nat.zero_le _, Nat.zero_le _⟩ rfl) (fun σ3 hw => ?_)
      obtain ⟨x4, ex4⟩ : ∃ y : Int32, y = v2 + (-8) := ⟨_, rfl⟩
      have hw := hw x4 ex4
      refine z_iinc (v := x4) (lv' := [(2, .int x4), (0, .ref (za Y t0)), (1, .int v1)]) hG dX11_appendWord_21 2 rfl (by rw [ex4]; rfl) (by decide) rfl ?_
      refine z_goto (tgt := 3) hG dX11_appendWord_24 (by decide) ?_
      refine zpick [1, 2, 0] (lv' := [(0, .ref (za Y t0)), (1, .int v1), (2, .int x4)]) rfl ?_
      exact ih t0 v1 x4 σ3 hw h0
set_option maxRecDepth 100000 in
set_option maxHeartbeats 4000000 in
theorem MX11_appendWord (l : Launch) {E : zE} {Y : zY} {σ : zS} {t0 : Nat} {v1 : Int32} (h0 : zT Y 11 t0) {Q : zS → Prop} (hw : wX11_appendWord (zln Y) σ t0 v1 Q) : ∀ sz, Met l yX11_appendWord (zw yX11_appendWord cX11_appendWord 3 none) rX11_appendWord (zPc E Y σ sz [.ref (za Y t0), .int v1]) (va_Qv Q (zB E Y sz) (zA Y sz)) 0 0 (zA Y sz) := by
  refine z_met (own := RX11) (Qc := fun sz => va_Qv Q (zB E Y sz) (zA Y sz)) (by decide +kernel) rfl (Nat.le_of_ble_eq_true rfl) ?_
  intro p e s m args below meth c hG hinit
  unfold wX11_appendWord at hw
  refine zlv (lv' := [(0, .ref (za Y t0)), (1, .int v1)]) rfl ?_
  refine z_bipush (v := 24) hG dX11_appendWord_0 (by decide) ?_
  refine z_istore_n (lv' := [(2, .int 24), (0, .ref (za Y t0)), (1, .int v1)]) hG dX11_appendWord_2 rfl (by decide) rfl ?_
  obtain ⟨n1, hw⟩ := hw
  refine zpick [1, 2, 0] (lv' := [(0, .ref (za Y t0)), (1, .int v1), (2, .int 24)]) rfl ?_
  exact BX11_appendWord_3 hG n1 t0 v1 24 σ hw h0
-- TypeWheelTelegraph.append(IIIII)I
def wX11_append (ln : Nat → Nat) (σ : zS) (t0 : Nat) (v1 : Int32) (v2 : Int32) (v3 : Int32) (v4 : Int32) (v5 : Int32) (Q : Int32 → zS → Prop) : Prop := ∃ j1 : Nat, gr σ t0 0 = some j1 ∧ wX9_size ln σ j1 (fun r3 σ2 => ((r3 ≤ 580 → wX11_appendWord ln σ2 t0 v1 (fun σ4 => wX11_appendWord ln σ4 t0 v2 (fun σ5 => wX11_appendWord ln σ5 t0 v3 (fun σ6 => wX11_appendWord ln σ6 t0 v4 (fun σ7 => wX11_appendWord ln σ7 t0 v5 (fun σ8 => ∃ j9 : Nat, gr σ8 t0 0 = some j9 ∧ wX9_size ln σ8 j9 (fun r11 σ10 => Q r11 σ10))))))) ∧ (¬ r3 ≤ 580 → False)))
abbrev rX11_append : Room := { frames := 2, cells := 0, slots := 0, locals := 43 }
set_option maxRecDepth 100000 in
set_option maxHeartbeats 4000000 in
theorem MX11_append (l : Launch) {E : zE} {Y : zY} {σ : zS} {t0 : Nat} {v1 : Int32} {v2 : Int32} {v3 : Int32} {v4 : Int32} {v5 : Int32} (h0 : zT Y 11 t0) {Q : Int32 → zS → Prop} (hw : wX11_append (zln Y) σ t0 v1 v2 v3 v4 v5 Q) : ∀ sz, Met l yX11_append (zw yX11_append cX11_append 6 (some .int)) rX11_append (zPc E Y σ sz [.ref (za Y t0), .int v1, .int v2, .int v3, .int v4, .int v5]) (va_Qi Q (zB E Y sz) (zA Y sz)) 0 0 (zA Y sz) := by
  refine z_met (own := RX11) (Qc := fun sz => va_Qi Q (zB E Y sz) (zA Y sz)) (by decide +kernel) rfl (Nat.le_of_ble_eq_true rfl) ?_
  intro p e s m args below meth c hG hinit
  unfold wX11_append at hw
  refine zlv (lv' := [(0, .ref (za Y t0)), (1, .int v1), (2, .int v2), (3, .int v3), (4, .int v4), (5, .int v5)]) rfl ?_
  refine z_aload_n hG dX11_append_0 rfl 0 rfl ?_
  obtain ⟨j1, ej1, hw⟩ := hw
  refine z_getr (kq := 9) hG f_X11_14 h0 rfl ej1 rfl (by decide) dX11_append_1 (fun hj1 => ?_)
  refine z_calli hG (z_runV (As := []) (st := []) hG k_X11_67 (MX9_size l hj1 hw) ⟨(Nat.le_of_ble_eq_true rfl), (Nat.le_of_ble_eq_true rfl)⟩ hj1 (T := TX9) (N := 2) rfl (by decide) rfl (Nat.le_of_ble_eq_true rfl) dX11_append_4 ⟨Nat.zero_le _, Nat.zero_le _⟩ rfl) (fun r3 σ2 hw => ?_)
  refine z_sipush (v := 580) hG dX11_append_7 (by decide) ?_
  refine z_icmp_le (tgt := 23) hG dX11_append_10 (by decide) (fun c12 => ?_) (fun c12 => ?_)
  · have hw := hw.1 c12
    refine z_aload_n hG dX11_append_23 rfl 0 rfl ?_
    refine z_iload_n hG dX11_append_24 rfl 1 rfl ?_
    refine z_callv hG (z_runV (As := [.int v1]) (st := []) hG k_X11_78 (MX11_appendWord l h0 hw) ⟨(Nat.le_of_ble_eq_true rfl), (Nat.le_of_ble_eq_true rfl)⟩ h0 (T := TX11) (N := 9) rfl (by decide) rfl (Nat.le_of_ble_eq_true rfl) dX11_append_25 ⟨Nat.zero_le _, Nat.zero_le _⟩ rfl) (fun σ4 hw => ?_)
    refine z_aload_n hG dX11_append_28 rfl 0 rfl ?_
    refine z_iload_n hG dX11_append_29 rfl 2 rfl ?_
    refine z_callv hG (z_runV (As := [.int v2]) (st := []) hG k_X11_78 (MX11_appendWord l h0 hw) ⟨(Nat.le_of_ble_eq_true rfl), (Nat.le_of_ble_eq_true rfl)⟩ h0 (T := TX11) (N := 9) rfl (by decide) rfl (Nat.le_of_ble_eq_true rfl) dX11_append_30 ⟨Nat.zero_le _, Nat.zero_le _⟩ rfl) (fun σ5 hw => ?_)
    refine z_aload_n hG dX11_append_33 rfl 0 rfl ?_
    refine z_iload_n hG dX11_append_34 rfl 3 rfl ?_
    refine z_callv hG (z_runV (As := [.int v3]) (st := []) hG k_X11_78 (MX11_appendWord l h0 hw) ⟨(Nat.le_of_ble_eq_true rfl), (Nat.le_of_ble_eq_true rfl)⟩ h0 (T := TX11) (N := 9) rfl (by decide) rfl (Nat.le_of_ble_eq_true rfl) dX11_append_35 ⟨Nat.zero_le _, Nat.zero_le _⟩ rfl) (fun σ6 hw => ?_)
    refine z_aload_n hG dX11_append_38 rfl 0 rfl ?_
    refine z_iload hG dX11_append_39 4 rfl ?_
    refine z_callv hG (z_runV (As := [.int v4]) (st := []) hG k_X11_78 (MX11_appendWord l h0 hw) ⟨(Nat.le_of_ble_eq_true rfl), (Nat.le_of_ble_eq_true rfl)⟩ h0 (T := TX11) (N := 9) rfl (by decide) rfl (Nat.le_of_ble_eq_true rfl) dX11_append_41 ⟨Nat.zero_le _, Nat.zero_le _⟩ rfl) (fun σ7 hw => ?_)
    refine z_aload_n hG dX11_append_44 rfl 0 rfl ?_
    refine z_iload hG dX11_append_45 5 rfl ?_
    refine z_callv hG (z_runV (As := [.int v5]) (st := []) hG k_X11_78 (MX11_appendWord l h0 hw) ⟨(Nat.le_of_ble_eq_true rfl), (Nat.le_of_ble_eq_true rfl)⟩ h0 (T := TX11) (N := 9) rfl (by decide) rfl (Nat.le_of_ble_eq_true rfl) dX11_append_47 ⟨Nat.zero_le _, Nat.zero_le _⟩ rfl) (fun σ8 hw => ?_)
    refine z_aload_n hG dX11_append_50 rfl 0 rfl ?_
    obtain ⟨j9, ej9, hw⟩ := hw
    refine z_getr (kq := 9) hG f_X11_14 h0 rfl ej9 rfl (by decide) dX11_append_51 (fun hj9 => ?_)
    refine z_calli hG (z_runV (As := []) (st := []) hG k_X11_67 (MX9_size l hj9 hw) ⟨(Nat.le_of_ble_eq_true rfl), (Nat.le_of_ble_eq_true rfl)⟩ hj9 (T := TX9) (N := 2) rfl (by decide) rfl (Nat.le_of_ble_eq_true rfl) dX11_append_54 ⟨Nat.zero_le _, Nat.zero_le _⟩ rfl) (fun r11 σ10 hw => ?_)
    exact z_iret hG rfl rfl dX11_append_57 hw
  · have hw := hw.2 c12
    exact hw.elim
-- TypeWheelTelegraph$Row.shorten(I)V
def wX9_shorten (ln : Nat → Nat) (σ : zS) (t0 : Nat) (v1 : Int32) (Q : zS → Prop) : Prop := ((v1 < 0 → Q σ) ∧ (¬ v1 < 0 → (((gi σ t0 1) ≤ v1 → Q σ) ∧ (¬ (gi σ t0 1) ≤ v1 → ∀ σ1 : zS, σ1 = si σ t0 1 v1 → Q σ1))))
abbrev rX9_shorten : Room := { frames := 0, cells := 0, slots := 0, locals := 0 }
set_option maxRecDepth 100000 in
set_option maxHeartbeats 4000000 in
theorem MX9_shorten (l : Launch) {E : zE} {Y : zY} {σ : zS} {t0 : Nat} {v1 : Int32} (h0 : zT Y 9 t0) {Q : zS → Prop} (hw : wX9_shorten (zln Y) σ t0 v1 Q) : ∀ sz, Met l yX9_shorten (zw yX9_shorten cX9_shorten 2 none) rX9_shorten (zPc E Y σ sz [.ref (za Y t0), .int v1]) (va_Qv Q (zB E Y sz) (zA Y sz)) 0 0 (zA Y sz) := by
  refine z_met (own := RX9) (Qc := fun sz => va_Qv Q (zB E Y sz) (zA Y sz)) (by decide +kernel) rfl (Nat.le_of_ble_eq_true rfl) ?_
  intro p e s m args below meth c hG hinit
  unfold wX9_shorten at hw
  refine zlv (lv' := [(0, .ref (za Y t0)), (1, .int v1)]) rfl ?_
  refine z_iload_n hG dX9_shorten_0 rfl 1 rfl ?_
  refine z_if_lt (tgt := 17) hG dX9_shorten_1 (by decide) (fun c3 => ?_) (fun c3 => ?_)
  · have hw := hw.1 c3
    exact z_vret hG rfl dX9_shorten_17 hw
  · have hw := hw.2 c3
    refine z_iload_n hG dX9_shorten_4 rfl 1 rfl ?_
    refine z_aload_n hG dX9_shorten_5 rfl 0 rfl ?_
    refine z_geti hG f_X9_21 h0 rfl dX9_shorten_6 ?_
    refine z_icmp_ge (tgt := 17) hG dX9_shorten_9 (by decide) (fun c2 => ?_) (fun c2 => ?_)
    · have hw := hw.1 c2
      exact z_vret hG rfl dX9_shorten_17 hw
    · have hw := hw.2 c2
      refine z_aload_n hG dX9_shorten_12 rfl 0 rfl ?_
      refine z_iload_n hG dX9_shorten_13 rfl 1 rfl ?_
      refine z_puti hG f_X9_21 h0 rfl rfl (zN_int _) dX9_shorten_14 ?_
      refine z_topσ (fun σ1 eσ1 => ?_)
      have hw := hw σ1 eσ1
      exact z_vret hG rfl dX9_shorten_17 hw
-- TypeWheelTelegraph.truncate(I)V
def wX11_truncate_15 (ln : Nat → Nat) (Q : zS → Prop) (σ : zS) : Prop := False
def wX11_truncate (ln : Nat → Nat) (σ : zS) (t0 : Nat) (v1 : Int32) (Q : zS → Prop) : Prop := ((v1 < 0 → wX11_truncate_15 ln Q σ) ∧ (¬ v1 < 0 → ∃ j1 : Nat, gr σ t0 0 = some j1 ∧ wX9_size ln σ j1 (fun r3 σ2 => ((v1 ≤ r3 → ∃ j4 : Nat, gr σ2 t0 0 = some j4 ∧ wX9_shorten ln σ2 j4 v1 (fun σ5 => Q σ5)) ∧ (¬ v1 ≤ r3 → wX11_truncate_15 ln Q σ2)))))
abbrev rX11_truncate : Room := { frames := 1, cells := 0, slots := 0, locals := 21 }
set_option maxRecDepth 100000 in
set_option maxHeartbeats 4000000 in
theorem BX11_truncate_15 {l : Launch} {E : zE} {Y : zY} {p : Program} {e : Env} {s : State} {m : MethodId} {args : Array Value} {below : List Frame} {meth : Method} {c : Code} (hG : zG E p l s m args meth c cX11_truncate 2 RX11 none (zA Y s.heap.size)) {Q : zS → Prop} : ∀ (σ : zS), wX11_truncate_15 (zln Y) Q σ → WW E Y σ p l e rX11_truncate s m args below meth c (zA Y s.heap.size) 2 0 0 (MQ below (va_Qv Q (zB E Y s.heap.size) (zA Y s.heap.size)) args s 0 0 (zA Y s.heap.size)) [] 15 [] := by
  intro σ hw 
  unfold wX11_truncate_15 at hw
  exact hw.elim
set_option maxRecDepth 100000 in
set_option maxHeartbeats 4000000 in
theorem MX11_truncate (l : Launch) {E : zE} {Y : zY} {σ : zS} {t0 : Nat} {v1 : Int32} (h0 : zT Y 11 t0) {Q : zS → Prop} (hw : wX11_truncate (zln Y) σ t0 v1 Q) : ∀ sz, Met l yX11_truncate (zw yX11_truncate cX11_truncate 2 none) rX11_truncate (zPc E Y σ sz [.ref (za Y t0), .int v1]) (va_Qv Q (zB E Y sz) (zA Y sz)) 0 0 (zA Y sz) := by
  refine z_met (own := RX11) (Qc := fun sz => va_Qv Q (zB E Y sz) (zA Y sz)) (by decide +kernel) rfl (Nat.le_of_ble_eq_true rfl) ?_
  intro p e s m args below meth c hG hinit
  unfold wX11_truncate at hw
  refine zlv (lv' := [(0, .ref (za Y t0)), (1, .int v1)]) rfl ?_
  refine z_iload_n hG dX11_truncate_0 rfl 1 rfl ?_
  refine z_if_lt (tgt := 15) hG dX11_truncate_1 (by decide) (fun c7 => ?_) (fun c7 => ?_)
  · have hw := hw.1 c7
    refine zpick [] (lv' := []) rfl ?_
    exact BX11_truncate_15 hG σ hw 
  · have hw := hw.2 c7
    refine z_iload_n hG dX11_truncate_4 rfl 1 rfl ?_
    refine z_aload_n hG dX11_truncate_5 rfl 0 rfl ?_
    obtain ⟨j1, ej1, hw⟩ := hw
    refine z_getr (kq := 9) hG f_X11_14 h0 rfl ej1 rfl (by decide) dX11_truncate_6 (fun hj1 => ?_)
    refine z_calli hG (z_runV (As := []) (st := [.int v1]) hG k_X11_67 (MX9_size l hj1 hw) ⟨(Nat.le_of_ble_eq_true rfl), (Nat.le_of_ble_eq_true rfl)⟩ hj1 (T := TX9) (N := 2) rfl (by decide) rfl (Nat.le_of_ble_eq_true rfl) dX11_truncate_9 ⟨Nat.zero_le _, Nat.zero_le _⟩ rfl) (fun r3 σ2 hw => ?_)
    refine z_icmp_le (tgt := 25) hG dX11_truncate_12 (by decide) (fun c6 => ?_) (fun c6 => ?_)
    · have hw := hw.1 c6
      refine z_aload_n hG dX11_truncate_25 rfl 0 rfl ?_
      obtain ⟨j4, ej4, hw⟩ := hw
      refine z_getr (kq := 9) hG f_X11_14 h0 rfl ej4 rfl (by decide) dX11_truncate_26 (fun hj4 => ?_)
      refine z_iload_n hG dX11_truncate_29 rfl 1 rfl ?_
      refine z_callv hG (z_runV (As := [.int v1]) (st := []) hG k_X11_89 (MX9_shorten l hj4 hw) ⟨(Nat.le_of_ble_eq_true rfl), (Nat.le_of_ble_eq_true rfl)⟩ hj4 (T := TX9) (N := 2) rfl (by decide) rfl (Nat.le_of_ble_eq_true rfl) dX11_truncate_30 ⟨Nat.zero_le _, Nat.zero_le _⟩ rfl) (fun σ5 hw => ?_)
      exact z_vret hG rfl dX11_truncate_33 hw
    · have hw := hw.2 c6
      refine zpick [] (lv' := []) rfl ?_
      exact BX11_truncate_15 hG σ2 hw 
-- TypeWheelTelegraph$Row.get(I)I
def wX9_get (ln : Nat → Nat) (σ : zS) (t0 : Nat) (v1 : Int32) (Q : Int32 → zS → Prop) : Prop := ((v1 < 0 → Q (-1) σ) ∧ (¬ v1 < 0 → (((gi σ t0 1) ≤ v1 → Q (-1) σ) ∧ (¬ (gi σ t0 1) ≤ v1 → ∃ j1 : Nat, gr σ t0 0 = some j1 ∧ (((nI (ln j1)) ≤ v1 → Q (-1) σ) ∧ (¬ (nI (ln j1)) ≤ v1 → ∃ j2 : Nat, gr σ t0 0 = some j2 ∧ vp_in v1 (ln j2) ∧ Q (gi σ j2 v1.toNatClampNeg) σ))))))
abbrev rX9_get : Room := { frames := 0, cells := 0, slots := 0, locals := 0 }
set_option maxRecDepth 100000 in
set_option maxHeartbeats 4000000 in
theorem MX9_get (l : Launch) {E : zE} {Y : zY} {σ : zS} {t0 : Nat} {v1 : Int32} (h0 : zT Y 9 t0) {Q : Int32 → zS → Prop} (hw : wX9_get (zln Y) σ t0 v1 Q) : ∀ sz, Met l yX9_get (zw yX9_get cX9_get 2 (some .int)) rX9_get (zPc E Y σ sz [.ref (za Y t0), .int v1]) (va_Qi Q (zB E Y sz) (zA Y sz)) 0 0 (zA Y sz) := by
  refine z_met (own := RX9) (Qc := fun sz => va_Qi Q (zB E Y sz) (zA Y sz)) (by decide +kernel) rfl (Nat.le_of_ble_eq_true rfl) ?_
  intro p e s m args below meth c hG hinit
  unfold wX9_get at hw
  refine zlv (lv' := [(0, .ref (za Y t0)), (1, .int v1)]) rfl ?_
  refine z_iload_n hG dX9_get_0 rfl 1 rfl ?_
  refine z_if_lt (tgt := 30) hG dX9_get_1 (by decide) (fun c6 => ?_) (fun c6 => ?_)
  · have hw := hw.1 c6
    refine z_iconst (v := (-1)) hG dX9_get_30 (by decide) ?_
    exact z_iret hG rfl rfl dX9_get_31 hw
  · have hw := hw.2 c6
    refine z_iload_n hG dX9_get_4 rfl 1 rfl ?_
    refine z_aload_n hG dX9_get_5 rfl 0 rfl ?_
    refine z_geti hG f_X9_21 h0 rfl dX9_get_6 ?_
    refine z_icmp_ge (tgt := 30) hG dX9_get_9 (by decide) (fun c5 => ?_) (fun c5 => ?_)
    · have hw := hw.1 c5
      refine z_iconst (v := (-1)) hG dX9_get_30 (by decide) ?_
      exact z_iret hG rfl rfl dX9_get_31 hw
    · have hw := hw.2 c5
      refine z_iload_n hG dX9_get_12 rfl 1 rfl ?_
      refine z_aload_n hG dX9_get_13 rfl 0 rfl ?_
      obtain ⟨j1, ej1, hw⟩ := hw
      refine z_getr (kq := 20) hG f_X9_15 h0 rfl ej1 rfl (by decide) dX9_get_14 (fun hj1 => ?_)
      refine z_alen hG hj1 (by decide) (t0 := 0) rfl dX9_get_17 ?_
      refine z_icmp_ge (tgt := 30) hG dX9_get_18 (by decide) (fun c4 => ?_) (fun c4 => ?_)
      · have hw := hw.1 c4
        refine z_iconst (v := (-1)) hG dX9_get_30 (by decide) ?_
        exact z_iret hG rfl rfl dX9_get_31 hw
      · have hw := hw.2 c4
        refine z_aload_n hG dX9_get_21 rfl 0 rfl ?_
        obtain ⟨j2, ej2, hw⟩ := hw
        refine z_getr (kq := 20) hG f_X9_15 h0 rfl ej2 rfl (by decide) dX9_get_22 (fun hj2 => ?_)
        refine z_iload_n hG dX9_get_25 rfl 1 rfl ?_
        obtain ⟨q3, hw⟩ := hw
        refine z_iald hG hj2 q3 dX9_get_26 ?_
        refine z_goto (tgt := 31) hG dX9_get_27 (by decide) ?_
        exact z_iret hG rfl rfl dX9_get_31 hw
-- TypeWheelTelegraph$Tokens.isBlank(I)Z
def wX10_isBlank (ln : Nat → Nat) (σ : zS) (v0 : Int32) (Q : Int32 → zS → Prop) : Prop := ((v0 = 32 → Q 1 σ) ∧ (¬ v0 = 32 → ((v0 = 10 → Q 1 σ) ∧ (¬ v0 = 10 → Q 0 σ))))
abbrev rX10_isBlank : Room := { frames := 0, cells := 0, slots := 0, locals := 0 }
set_option maxRecDepth 100000 in
set_option maxHeartbeats 4000000 in
theorem MX10_isBlank (l : Launch) {E : zE} {Y : zY} {σ : zS} {v0 : Int32} {Q : Int32 → zS → Prop} (hw : wX10_isBlank (zln Y) σ v0 Q) : ∀ sz, Met l yX10_isBlank (zw yX10_isBlank cX10_isBlank 1 (some .boolean)) rX10_isBlank (zPc E Y σ sz [.int v0]) (va_Qi Q (zB E Y sz) (zA Y sz)) 0 0 (zA Y sz) := by
  refine z_met (own := RX10) (Qc := fun sz => va_Qi Q (zB E Y sz) (zA Y sz)) (by decide +kernel) rfl (Nat.le_of_ble_eq_true rfl) ?_
  intro p e s m args below meth c hG hinit
  unfold wX10_isBlank at hw
  refine zlv (lv' := [(0, .int v0)]) rfl ?_
  refine z_iload_n hG dX10_isBlank_0 rfl 0 rfl ?_
  refine z_bipush (v := 32) hG dX10_isBlank_1 (by decide) ?_
  refine z_icmp_eq (tgt := 12) hG dX10_isBlank_3 (by decide) (fun c2 => ?_) (fun c2 => ?_)
  · have hw := hw.1 c2
    refine z_iconst (v := 1) hG dX10_isBlank_12 (by decide) ?_
    refine z_goto (tgt := 17) hG dX10_isBlank_13 (by decide) ?_
    exact z_iret hG rfl (by decide +kernel) dX10_isBlank_17 hw
  · have hw := hw.2 c2
    refine z_iload_n hG dX10_isBlank_6 rfl 0 rfl ?_
    refine z_bipush (v := 10) hG dX10_isBlank_7 (by decide) ?_
    refine z_icmp_ne (tgt := 16) hG dX10_isBlank_9 (by decide) (fun c1 => ?_) (fun c1 => ?_)
    · have hw := hw.2 c1
      refine z_iconst (v := 0) hG dX10_isBlank_16 (by decide) ?_
      exact z_iret hG rfl (by decide +kernel) dX10_isBlank_17 hw
    · have hw := hw.1 c1
      refine z_iconst (v := 1) hG dX10_isBlank_12 (by decide) ?_
      refine z_goto (tgt := 17) hG dX10_isBlank_13 (by decide) ?_
      exact z_iret hG rfl (by decide +kernel) dX10_isBlank_17 hw
-- TypeWheelTelegraph$Tokens.kindOf(I)I
def wX10_kindOf_35 (ln : Nat → Nat) (Q : Int32 → zS → Prop) (v0 : Int32) (σ : zS) : Prop := ((v0 = 59 → Q 3 σ) ∧ (¬ v0 = 59 → ((v0 = 47 → Q 4 σ) ∧ (¬ v0 = 47 → Q 5 σ))))
def wX10_kindOf_21 (ln : Nat → Nat) (Q : Int32 → zS → Prop) (v0 : Int32) (σ : zS) : Prop := ((v0 < 48 → wX10_kindOf_35 ln Q v0 σ) ∧ (¬ v0 < 48 → ((57 < v0 → wX10_kindOf_35 ln Q v0 σ) ∧ (¬ 57 < v0 → Q 2 σ))))
def wX10_kindOf (ln : Nat → Nat) (σ : zS) (v0 : Int32) (Q : Int32 → zS → Prop) : Prop := ((v0 = (-1) → Q 0 σ) ∧ (¬ v0 = (-1) → ((v0 < 97 → wX10_kindOf_21 ln Q v0 σ) ∧ (¬ v0 < 97 → ((122 < v0 → wX10_kindOf_21 ln Q v0 σ) ∧ (¬ 122 < v0 → Q 1 σ))))))
abbrev rX10_kindOf : Room := { frames := 0, cells := 0, slots := 0, locals := 0 }
set_option maxRecDepth 100000 in
set_option maxHeartbeats 4000000 in
theorem BX10_kindOf_35 {l : Launch} {E : zE} {Y : zY} {p : Program} {e : Env} {s : State} {m : MethodId} {args : Array Value} {below : List Frame} {meth : Method} {c : Code} (hG : zG E p l s m args meth c cX10_kindOf 1 RX10 (some .int) (zA Y s.heap.size)) {Q : Int32 → zS → Prop} : ∀ (v0 : Int32) (σ : zS), wX10_kindOf_35 (zln Y) Q v0 σ → WW E Y σ p l e rX10_kindOf s m args below meth c (zA Y s.heap.size) 1 0 0 (MQ below (va_Qi Q (zB E Y s.heap.size) (zA Y s.heap.size)) args s 0 0 (zA Y s.heap.size)) [(0, .int v0)] 35 [] := by
  intro v0 σ hw 
  unfold wX10_kindOf_35 at hw
  refine z_iload_n hG dX10_kindOf_35 rfl 0 rfl ?_
  refine z_bipush (v := 59) hG dX10_kindOf_36 (by decide) ?_
  refine z_icmp_ne (tgt := 43) hG dX10_kindOf_38 (by decide) (fun c2 => ?_) (fun c2 => ?_)
  · have hw := hw.2 c2
    refine z_iload_n hG dX10_kindOf_43 rfl 0 rfl ?_
    refine z_bipush (v := 47) hG dX10_kindOf_44 (by decide) ?_
    refine z_icmp_ne (tgt := 53) hG dX10_kindOf_46 (by decide) (fun c1 => ?_) (fun c1 => ?_)
    · have hw := hw.2 c1
      refine z_iconst (v := 5) hG dX10_kindOf_53 (by decide) ?_
      exact z_iret hG rfl rfl dX10_kindOf_54 hw
    · have hw := hw.1 c1
      refine z_iconst (v := 4) hG dX10_kindOf_49 (by decide) ?_
      refine z_goto (tgt := 54) hG dX10_kindOf_50 (by decide) ?_
      exact z_iret hG rfl rfl dX10_kindOf_54 hw
  · have hw := hw.1 c2
    refine z_iconst (v := 3) hG dX10_kindOf_41 (by decide) ?_
    exact z_iret hG rfl rfl dX10_kindOf_42 hw
set_option maxRecDepth 100000 in
set_option maxHeartbeats 4000000 in
theorem BX10_kindOf_21 {l : Launch} {E : zE} {Y : zY} {p : Program} {e : Env} {s : State} {m : MethodId} {args : Array Value} {below : List Frame} {meth : Method} {c : Code} (hG : zG E p l s m args meth c cX10_kindOf 1 RX10 (some .int) (zA Y s.heap.size)) {Q : Int32 → zS → Prop} : ∀ (v0 : Int32) (σ : zS), wX10_kindOf_21 (zln Y) Q v0 σ → WW E Y σ p l e rX10_kindOf s m args below meth c (zA Y s.heap.size) 1 0 0 (MQ below (va_Qi Q (zB E Y s.heap.size) (zA Y s.heap.size)) args s 0 0 (zA Y s.heap.size)) [(0, .int v0)] 21 [] := by
  intro v0 σ hw 
  unfold wX10_kindOf_21 at hw
  refine z_iload_n hG dX10_kindOf_21 rfl 0 rfl ?_
  refine z_bipush (v := 48) hG dX10_kindOf_22 (by decide) ?_
  refine z_icmp_lt (tgt := 35) hG dX10_kindOf_24 (by decide) (fun c2 => ?_) (fun c2 => ?_)
  · have hw := hw.1 c2
    refine zpick [0] (lv' := [(0, .int v0)]) rfl ?_
    exact BX10_kindOf_35 hG v0 σ hw 
  · have hw := hw.2 c2
    refine z_iload_n hG dX10_kindOf_27 rfl 0 rfl ?_
    refine z_bipush (v := 57) hG dX10_kindOf_28 (by decide) ?_
    refine z_icmp_gt (tgt := 35) hG dX10_kindOf_30 (by decide) (fun c1 => ?_) (fun c1 => ?_)
    · have hw := hw.1 c1
      refine zpick [0] (lv' := [(0, .int v0)]) rfl ?_
      exact BX10_kindOf_35 hG v0 σ hw 
    · have hw := hw.2 c1
      refine z_iconst (v := 2) hG dX10_kindOf_33 (by decide) ?_
      exact z_iret hG rfl rfl dX10_kindOf_34 hw
set_option maxRecDepth 100000 in
set_option maxHeartbeats 4000000 in
theorem MX10_kindOf (l : Launch) {E : zE} {Y : zY} {σ : zS} {v0 : Int32} {Q : Int32 → zS → Prop} (hw : wX10_kindOf (zln Y) σ v0 Q) : ∀ sz, Met l yX10_kindOf (zw yX10_kindOf cX10_kindOf 1 (some .int)) rX10_kindOf (zPc E Y σ sz [.int v0]) (va_Qi Q (zB E Y sz) (zA Y sz)) 0 0 (zA Y sz) := by
  refine z_met (own := RX10) (Qc := fun sz => va_Qi Q (zB E Y sz) (zA Y sz)) (by decide +kernel) rfl (Nat.le_of_ble_eq_true rfl) ?_
  intro p e s m args below meth c hG hinit
  unfold wX10_kindOf at hw
  refine zlv (lv' := [(0, .int v0)]) rfl ?_
  refine z_iload_n hG dX10_kindOf_0 rfl 0 rfl ?_
  refine z_iconst (v := (-1)) hG dX10_kindOf_1 (by decide) ?_
  refine z_icmp_ne (tgt := 7) hG dX10_kindOf_2 (by decide) (fun c3 => ?_) (fun c3 => ?_)
  · have hw := hw.2 c3
    refine z_iload_n hG dX10_kindOf_7 rfl 0 rfl ?_
    refine z_bipush (v := 97) hG dX10_kindOf_8 (by decide) ?_
    refine z_icmp_lt (tgt := 21) hG dX10_kindOf_10 (by decide) (fun c2 => ?_) (fun c2 => ?_)
    · have hw := hw.1 c2
      refine zpick [0] (lv' := [(0, .int v0)]) rfl ?_
      exact BX10_kindOf_21 hG v0 σ hw 
    · have hw := hw.2 c2
      refine z_iload_n hG dX10_kindOf_13 rfl 0 rfl ?_
      refine z_bipush (v := 122) hG dX10_kindOf_14 (by decide) ?_
      refine z_icmp_gt (tgt := 21) hG dX10_kindOf_16 (by decide) (fun c1 => ?_) (fun c1 => ?_)
      · have hw := hw.1 c1
        refine zpick [0] (lv' := [(0, .int v0)]) rfl ?_
        exact BX10_kindOf_21 hG v0 σ hw 
      · have hw := hw.2 c1
        refine z_iconst (v := 1) hG dX10_kindOf_19 (by decide) ?_
        exact z_iret hG rfl rfl dX10_kindOf_20 hw
  · have hw := hw.1 c3
    refine z_iconst (v := 0) hG dX10_kindOf_5 (by decide) ?_
    exact z_iret hG rfl rfl dX10_kindOf_6 hw
-- TypeWheelTelegraph$Tokens.length()I
def wX10_length (ln : Nat → Nat) (σ : zS) (t0 : Nat) (Q : Int32 → zS → Prop) : Prop := Q ((gi σ t0 3) - (gi σ t0 1)) σ
abbrev rX10_length : Room := { frames := 0, cells := 0, slots := 0, locals := 0 }
set_option maxRecDepth 100000 in
set_option maxHeartbeats 4000000 in
theorem MX10_length (l : Launch) {E : zE} {Y : zY} {σ : zS} {t0 : Nat} (h0 : zT Y 10 t0) {Q : Int32 → zS → Prop} (hw : wX10_length (zln Y) σ t0 Q) : ∀ sz, Met l yX10_length (zw yX10_length cX10_length 1 (some .int)) rX10_length (zPc E Y σ sz [.ref (za Y t0)]) (va_Qi Q (zB E Y sz) (zA Y sz)) 0 0 (zA Y sz) := by
  refine z_met (own := RX10) (Qc := fun sz => va_Qi Q (zB E Y sz) (zA Y sz)) (by decide +kernel) rfl (Nat.le_of_ble_eq_true rfl) ?_
  intro p e s m args below meth c hG hinit
  unfold wX10_length at hw
  refine zlv (lv' := [(0, .ref (za Y t0))]) rfl ?_
  refine z_aload_n hG dX10_length_0 rfl 0 rfl ?_
  refine z_geti hG f_X10_15 h0 rfl dX10_length_1 ?_
  refine z_aload_n hG dX10_length_4 rfl 0 rfl ?_
  refine z_geti hG f_X10_22 h0 rfl dX10_length_5 ?_
  refine z_isub hG dX10_length_8 ?_
  exact z_iret hG rfl rfl dX10_length_9 hw
-- TypeWheelTelegraph$Tokens.take()V
def wX10_take_162 (ln : Nat → Nat) (Q : zS → Prop) (t0 : Nat) (vw0 : Int32) (vw1 : Int32) (σ : zS) : Prop := ((vw0 ≤ vw1 → Q σ) ∧ (¬ vw0 ≤ vw1 → ∀ σ1 : zS, σ1 = si σ t0 0 5 → Q σ1))
def wX10_take_144 (ln : Nat → Nat) (Q : zS → Prop) (t0 : Nat) (σ : zS) : Prop := wX10_length ln σ t0 (fun r2 σ1 => (((gi σ1 t0 0) = 1 → wX10_take_162 ln Q t0 r2 12 σ1) ∧ (¬ (gi σ1 t0 0) = 1 → wX10_take_162 ln Q t0 r2 5 σ1)))
def wX10_take_96 (ln : Nat → Nat) (Q : zS → Prop) : Nat → Nat → zS → Prop
  | 0, _, _ => False
  | n + 1, t0, σ => ∃ j1 : Nat, gr σ t0 2 = some j1 ∧ wX9_size ln σ j1 (fun r3 σ2 => ((r3 ≤ (gi σ t0 3) → wX10_take_144 ln Q t0 σ2) ∧ (¬ r3 ≤ (gi σ t0 3) → ∃ j4 : Nat, gr σ2 t0 2 = some j4 ∧ ∀ x5 : Int32, x5 = gi σ2 t0 3 → wX9_get ln σ2 j4 x5 (fun r7 σ6 => wX10_kindOf ln σ6 r7 (fun r9 σ8 => ((r9 = (gi σ8 t0 0) → ∀ x10 : Int32, x10 = (gi σ8 t0 3) + 1 → ∀ σ11 : zS, σ11 = si σ8 t0 3 x10 → (wX10_take_96 ln Q n) t0 σ11) ∧ (¬ r9 = (gi σ8 t0 0) → wX10_take_144 ln Q t0 σ8)))))))
def wX10_take_52 (ln : Nat → Nat) (Q : zS → Prop) (t0 : Nat) (σ : zS) : Prop := ∃ j1 : Nat, gr σ t0 2 = some j1 ∧ ∀ x2 : Int32, x2 = gi σ t0 1 → wX9_get ln σ j1 x2 (fun r4 σ3 => wX10_kindOf ln σ3 r4 (fun r6 σ5 => ∀ σ7 : zS, σ7 = si σ5 t0 0 r6 → ∀ x8 : Int32, x8 = (gi σ7 t0 1) + 1 → ∀ σ9 : zS, σ9 = si σ7 t0 3 x8 → (((gi σ9 t0 0) = 1 → ∃ n10 : Nat, wX10_take_96 ln Q n10 t0 σ9) ∧ (¬ (gi σ9 t0 0) = 1 → (((gi σ9 t0 0) = 2 → ∃ n11 : Nat, wX10_take_96 ln Q n11 t0 σ9) ∧ (¬ (gi σ9 t0 0) = 2 → Q σ9))))))
def wX10_take_8 (ln : Nat → Nat) (Q : zS → Prop) : Nat → Nat → zS → Prop
  | 0, _, _ => False
  | n + 1, t0, σ => ∃ j1 : Nat, gr σ t0 2 = some j1 ∧ wX9_size ln σ j1 (fun r3 σ2 => ((r3 ≤ (gi σ t0 1) → wX10_take_52 ln Q t0 σ2) ∧ (¬ r3 ≤ (gi σ t0 1) → ∃ j4 : Nat, gr σ2 t0 2 = some j4 ∧ ∀ x5 : Int32, x5 = gi σ2 t0 1 → wX9_get ln σ2 j4 x5 (fun r7 σ6 => wX10_isBlank ln σ6 r7 (fun r9 σ8 => ((r9 = 0 → wX10_take_52 ln Q t0 σ8) ∧ (¬ r9 = 0 → ∀ x10 : Int32, x10 = (gi σ8 t0 1) + 1 → ∀ σ11 : zS, σ11 = si σ8 t0 1 x10 → (wX10_take_8 ln Q n) t0 σ11)))))))
def wX10_take (ln : Nat → Nat) (σ : zS) (t0 : Nat) (Q : zS → Prop) : Prop := ∀ x1 : Int32, x1 = gi σ t0 3 → ∀ σ2 : zS, σ2 = si σ t0 1 x1 → ∃ n3 : Nat, wX10_take_8 ln Q n3 t0 σ2
abbrev rX10_take : Room := { frames := 1, cells := 0, slots := 0, locals := 21 }
set_option maxRecDepth 100000 in
set_option maxHeartbeats 4000000 in
theorem BX10_take_162 {l : Launch} {E : zE} {Y : zY} {p : Program} {e : Env} {s : State} {m : MethodId} {args : Array Value} {below : List Frame} {meth : Method} {c : Code} (hG : zG E p l s m args meth c cX10_take 1 RX10 none (zA Y s.heap.size)) {Q : zS → Prop} : ∀ (t0 : Nat) (vw0 : Int32) (vw1 : Int32) (σ : zS), wX10_take_162 (zln Y) Q t0 vw0 vw1 σ → zT Y 10 t0 → WW E Y σ p l e rX10_take s m args below meth c (zA Y s.heap.size) 1 0 0 (MQ below (va_Qv Q (zB E Y s.heap.size) (zA Y s.heap.size)) args s 0 0 (zA Y s.heap.size)) [(0, .ref (za Y t0))] 162 [.int vw1, .int vw0] := by
  intro t0 vw0 vw1 σ hw h0
  unfold wX10_take_162 at hw
  refine z_icmp_le (tgt := 170) hG dX10_take_162 (by decide) (fun c2 => ?_) (fun c2 => ?_)
  · have hw := hw.1 c2
    exact z_vret hG rfl dX10_take_170 hw
  · have hw := hw.2 c2
    refine z_aload_n hG dX10_take_165 rfl 0 rfl ?_
    refine z_iconst (v := 5) hG dX10_take_166 (by decide) ?_
    refine z_puti hG f_X10_42 h0 rfl rfl (zN_int _) dX10_take_167 ?_
    refine z_topσ (fun σ1 eσ1 => ?_)
    have hw := hw σ1 eσ1
    exact z_vret hG rfl dX10_take_170 hw
set_option maxRecDepth 100000 in
set_option maxHeartbeats 4000000 in
theorem BX10_take_144 {l : Launch} {E : zE} {Y : zY} {p : Program} {e : Env} {s : State} {m : MethodId} {args : Array Value} {below : List Frame} {meth : Method} {c : Code} (hG : zG E p l s m args meth c cX10_take 1 RX10 none (zA Y s.heap.size)) {Q : zS → Prop} : ∀ (t0 : Nat) (σ : zS), wX10_take_144 (zln Y) Q t0 σ → zT Y 10 t0 → WW E Y σ p l e rX10_take s m args below meth c (zA Y s.heap.size) 1 0 0 (MQ below (va_Qv Q (zB E Y s.heap.size) (zA Y s.heap.size)) args s 0 0 (zA Y s.heap.size)) [(0, .ref (za Y t0))] 144 [] := by
  intro t0 σ hw h0
  unfold wX10_take_144 at hw
  refine z_aload_n hG dX10_take_144 rfl 0 rfl ?_
  refine z_calli hG (z_runV (As := []) (st := []) hG k_X10_45 (MX10_length l h0 hw) ⟨(Nat.le_of_ble_eq_true rfl), (Nat.le_of_ble_eq_true rfl)⟩ h0 (T := TX10) (N := 4) rfl (by decide) rfl (Nat.le_of_ble_eq_true rfl) dX10_take_145 ⟨Nat.zero_le _, Nat.zero_le _⟩ rfl) (fun r2 σ1 hw => ?_)
  refine z_aload_n hG dX10_take_148 rfl 0 rfl ?_
  refine z_geti hG f_X10_42 h0 rfl dX10_take_149 ?_
  refine z_iconst (v := 1) hG dX10_take_152 (by decide) ?_
  refine z_icmp_ne (tgt := 161) hG dX10_take_153 (by decide) (fun c3 => ?_) (fun c3 => ?_)
  · have hw := hw.2 c3
    refine z_iconst (v := 5) hG dX10_take_161 (by decide) ?_
    refine zpick [0] (lv' := [(0, .ref (za Y t0))]) rfl ?_
    exact BX10_take_162 hG t0 r2 5 σ1 hw h0
  · have hw := hw.1 c3
    refine z_bipush (v := 12) hG dX10_take_156 (by decide) ?_
    refine z_goto (tgt := 162) hG dX10_take_158 (by decide) ?_
    refine zpick [0] (lv' := [(0, .ref (za Y t0))]) rfl ?_
    exact BX10_take_162 hG t0 r2 12 σ1 hw h0
set_option maxRecDepth 100000 in
set_option maxHeartbeats 4000000 in
theorem BX10_take_96 {l : Launch} {E : zE} {Y : zY} {p : Program} {e : Env} {s : State} {m : MethodId} {args : Array Value} {below : List Frame} {meth : Method} {c : Code} (hG : zG E p l s m args meth c cX10_take 1 RX10 none (zA Y s.heap.size)) {Q : zS → Prop} : ∀ (n : Nat) (t0 : Nat) (σ : zS), wX10_take_96 (zln Y) Q n t0 σ → zT Y 10 t0 → WW E Y σ p l e rX10_take s m args below meth c (zA Y s.heap.size) 1 0 0 (MQ below (va_Qv Q (zB E Y s.heap.size) (zA Y s.heap.size)) args s 0 0 (zA Y s.heap.size)) [(0, .ref (za Y t0))] 96 [] := by
  intro n
  induction n with
  | zero => intro t0 σ hw
            exact hw.elim
  | succ n ih =>
    intro t0 σ hw h0
    rw [wX10_take_96] at hw
    refine z_aload_n hG dX10_take_96 rfl 0 rfl ?_
    refine z_geti hG f_X10_15 h0 rfl dX10_take_97 ?_
    refine z_aload_n hG dX10_take_100 rfl 0 rfl ?_
    obtain ⟨j1, ej1, hw⟩ := hw
    refine z_getr (kq := 9) hG f_X10_9 h0 rfl ej1 rfl (by decide) dX10_take_101 (fun hj1 => ?_)
    refine z_calli hG (z_runV (As := []) (st := [.int (gi σ t0 3)]) hG k_X10_25 (MX9_size l hj1 hw) ⟨(Nat.le_of_ble_eq_true rfl), (Nat.le_of_ble_eq_true rfl)⟩ hj1 (T := TX9) (N := 2) rfl (by decide) rfl (Nat.le_of_ble_eq_true rfl) dX10_take_104 ⟨Nat.zero_le _, Nat.zero_le _⟩ rfl) (fun r3 σ2 hw => ?_)
    refine z_icmp_ge (tgt := 144) hG dX10_take_107 (by decide) (fun c13 => ?_) (fun c13 => ?_)
    · have hw := hw.1 c13
      refine zpick [0] (lv' := [(0, .ref (za Y t0))]) rfl ?_
      exact BX10_take_144 hG t0 σ2 hw h0
    · have hw := hw.2 c13
      refine z_aload_n hG dX10_take_110 rfl 0 rfl ?_
      obtain ⟨j4, ej4, hw⟩ := hw
      refine z_getr (kq := 9) hG f_X10_9 h0 rfl ej4 rfl (by decide) dX10_take_111 (fun hj4 => ?_)
      refine z_aload_n hG dX10_take_114 rfl 0 rfl ?_
      refine z_geti hG f_X10_15 h0 rfl dX10_take_115 ?_
      refine z_topi (fun x5 ex5 => ?_)
      have hw := hw x5 ex5
      refine z_calli hG (z_runV (As := [.int x5]) (st := []) hG k_X10_31 (MX9_get l hj4 hw) ⟨(Nat.le_of_ble_eq_true rfl), (Nat.le_of_ble_eq_true rfl)⟩ hj4 (T := TX9) (N := 2) rfl (by decide) rfl (Nat.le_of_ble_eq_true rfl) dX10_take_118 ⟨Nat.zero_le _, Nat.zero_le _⟩ rfl) (fun r7 σ6 hw => ?_)
      refine z_calli hG (z_runS (As := [.int r7]) (st := []) hG k_X10_39 (MX10_kindOf l hw) ⟨(Nat.le_of_ble_eq_true rfl), (Nat.le_of_ble_eq_true rfl)⟩ rfl (Nat.le_of_ble_eq_true rfl) dX10_take_121 ⟨Nat.zero_le _, Nat.zero_le _⟩ rfl) (fun r9 σ8 hw => ?_)
      refine z_aload_n hG dX10_take_124 rfl 0 rfl ?_
      refine z_geti hG f_X10_42 h0 rfl dX10_take_125 ?_
      refine z_icmp_ne (tgt := 144) hG dX10_take_128 (by decide) (fun c12 => ?_) (fun c12 => ?_)
      · have hw := hw.2 c12
        refine zpick [0] (lv' := [(0, .ref (za Y t0))]) rfl ?_
        exact BX10_take_144 hG t0 σ8 hw h0
      · have hw := hw.1 c12
        refine z_aload_n hG dX10_take_131 rfl 0 rfl ?_
        refine z_dup hG dX10_take_132 rfl ?_
        refine z_geti hG f_X10_15 h0 rfl dX10_take_133 ?_
        refine z_iconst (v := 1) hG dX10_take_136 (by decide) ?_
        refine z_iadd hG dX10_take_137 ?_
        refine z_topi (fun x10 ex10 => ?_)
        have hw := hw x10 ex10
        refine z_puti hG f_X10_15 h0 rfl rfl (zN_int _) dX10_take_138 ?_
        refine z_topσ (fun σ11 eσ11 => ?_)
        have hw := hw σ11 eσ11
        refine z_goto (tgt := 96) hG dX10_take_141 (by decide) ?_
        refine zpick [0] (lv' := [(0, .ref (za Y t0))]) rfl ?_
        exact ih t0 σ11 hw h0
set_option maxRecDepth 100000 in
set_option maxHeartbeats 4000000 in
theorem BX10_take_52 {l : Launch} {E : zE} {Y : zY} {p : Program} {e : Env} {s : State} {m : MethodId} {args : Array Value} {below : List Frame} {meth : Method} {c : Code} (hG : zG E p l s m args meth c cX10_take 1 RX10 none (zA Y s.heap.size)) {Q : zS → Prop} : ∀ (t0 : Nat) (σ : zS), wX10_take_52 (zln Y) Q t0 σ → zT Y 10 t0 → WW E Y σ p l e rX10_take s m args below meth c (zA Y s.heap.size) 1 0 0 (MQ below (va_Qv Q (zB E Y s.heap.size) (zA Y s.heap.size)) args s 0 0 (zA Y s.heap.size)) [(0, .ref (za Y t0))] 52 [] := by
  intro t0 σ hw h0
  unfold wX10_take_52 at hw
  refine z_aload_n hG dX10_take_52 rfl 0 rfl ?_
  refine z_aload_n hG dX10_take_53 rfl 0 rfl ?_
  obtain ⟨j1, ej1, hw⟩ := hw
  refine z_getr (kq := 9) hG f_X10_9 h0 rfl ej1 rfl (by decide) dX10_take_54 (fun hj1 => ?_)
  refine z_aload_n hG dX10_take_57 rfl 0 rfl ?_
  refine z_geti hG f_X10_22 h0 rfl dX10_take_58 ?_
  refine z_topi (fun x2 ex2 => ?_)
  have hw := hw x2 ex2
  refine z_calli hG (z_runV (As := [.int x2]) (st := [.ref (za Y t0)]) hG k_X10_31 (MX9_get l hj1 hw) ⟨(Nat.le_of_ble_eq_true rfl), (Nat.le_of_ble_eq_true rfl)⟩ hj1 (T := TX9) (N := 2) rfl (by decide) rfl (Nat.le_of_ble_eq_true rfl) dX10_take_61 ⟨Nat.zero_le _, Nat.zero_le _⟩ rfl) (fun r4 σ3 hw => ?_)
  refine z_calli hG (z_runS (As := [.int r4]) (st := [.ref (za Y t0)]) hG k_X10_39 (MX10_kindOf l hw) ⟨(Nat.le_of_ble_eq_true rfl), (Nat.le_of_ble_eq_true rfl)⟩ rfl (Nat.le_of_ble_eq_true rfl) dX10_take_64 ⟨Nat.zero_le _, Nat.zero_le _⟩ rfl) (fun r6 σ5 hw => ?_)
  refine z_puti hG f_X10_42 h0 rfl rfl (zN_int _) dX10_take_67 ?_
  refine z_topσ (fun σ7 eσ7 => ?_)
  have hw := hw σ7 eσ7
  refine z_aload_n hG dX10_take_70 rfl 0 rfl ?_
  refine z_aload_n hG dX10_take_71 rfl 0 rfl ?_
  refine z_geti hG f_X10_22 h0 rfl dX10_take_72 ?_
  refine z_iconst (v := 1) hG dX10_take_75 (by decide) ?_
  refine z_iadd hG dX10_take_76 ?_
  refine z_topi (fun x8 ex8 => ?_)
  have hw := hw x8 ex8
  refine z_puti hG f_X10_15 h0 rfl rfl (zN_int _) dX10_take_77 ?_
  refine z_topσ (fun σ9 eσ9 => ?_)
  have hw := hw σ9 eσ9
  refine z_aload_n hG dX10_take_80 rfl 0 rfl ?_
  refine z_geti hG f_X10_42 h0 rfl dX10_take_81 ?_
  refine z_iconst (v := 1) hG dX10_take_84 (by decide) ?_
  refine z_icmp_eq (tgt := 96) hG dX10_take_85 (by decide) (fun c13 => ?_) (fun c13 => ?_)
  · have hw := hw.1 c13
    obtain ⟨n10, hw⟩ := hw
    refine zpick [0] (lv' := [(0, .ref (za Y t0))]) rfl ?_
    exact BX10_take_96 hG n10 t0 σ9 hw h0
  · have hw := hw.2 c13
    refine z_aload_n hG dX10_take_88 rfl 0 rfl ?_
    refine z_geti hG f_X10_42 h0 rfl dX10_take_89 ?_
    refine z_iconst (v := 2) hG dX10_take_92 (by decide) ?_
    refine z_icmp_ne (tgt := 170) hG dX10_take_93 (by decide) (fun c12 => ?_) (fun c12 => ?_)
    · have hw := hw.2 c12
      exact z_vret hG rfl dX10_take_170 hw
    · have hw := hw.1 c12
      obtain ⟨n11, hw⟩ := hw
      refine zpick [0] (lv' := [(0, .ref (za Y t0))]) rfl ?_
      exact BX10_take_96 hG n11 t0 σ9 hw h0
set_option maxRecDepth 100000 in
set_option maxHeartbeats 4000000 in
theorem BX10_take_8 {l : Launch} {E : zE} {Y : zY} {p : Program} {e : Env} {s : State} {m : MethodId} {args : Array Value} {below : List Frame} {meth : Method} {c : Code} (hG : zG E p l s m args meth c cX10_take 1 RX10 none (zA Y s.heap.size)) {Q : zS → Prop} : ∀ (n : Nat) (t0 : Nat) (σ : zS), wX10_take_8 (zln Y) Q n t0 σ → zT Y 10 t0 → WW E Y σ p l e rX10_take s m args below meth c (zA Y s.heap.size) 1 0 0 (MQ below (va_Qv Q (zB E Y s.heap.size) (zA Y s.heap.size)) args s 0 0 (zA Y s.heap.size)) [(0, .ref (za Y t0))] 8 [] := by
  intro n
  induction n with
  | zero => intro t0 σ hw
            exact hw.elim
  | succ n ih =>
    intro t0 σ hw h0
    rw [wX10_take_8] at hw
    refine z_aload_n hG dX10_take_8 rfl 0 rfl ?_
    refine z_geti hG f_X10_22 h0 rfl dX10_take_9 ?_
    refine z_aload_n hG dX10_take_12 rfl 0 rfl ?_
    obtain ⟨j1, ej1, hw⟩ := hw
    refine z_getr (kq := 9) hG f_X10_9 h0 rfl ej1 rfl (by decide) dX10_take_13 (fun hj1 => ?_)
    refine z_calli hG (z_runV (As := []) (st := [.int (gi σ t0 1)]) hG k_X10_25 (MX9_size l hj1 hw) ⟨(Nat.le_of_ble_eq_true rfl), (Nat.le_of_ble_eq_true rfl)⟩ hj1 (T := TX9) (N := 2) rfl (by decide) rfl (Nat.le_of_ble_eq_true rfl) dX10_take_16 ⟨Nat.zero_le _, Nat.zero_le _⟩ rfl) (fun r3 σ2 hw => ?_)
    refine z_icmp_ge (tgt := 52) hG dX10_take_19 (by decide) (fun c13 => ?_) (fun c13 => ?_)
    · have hw := hw.1 c13
      refine zpick [0] (lv' := [(0, .ref (za Y t0))]) rfl ?_
      exact BX10_take_52 hG t0 σ2 hw h0
    · have hw := hw.2 c13
      refine z_aload_n hG dX10_take_22 rfl 0 rfl ?_
      obtain ⟨j4, ej4, hw⟩ := hw
      refine z_getr (kq := 9) hG f_X10_9 h0 rfl ej4 rfl (by decide) dX10_take_23 (fun hj4 => ?_)
      refine z_aload_n hG dX10_take_26 rfl 0 rfl ?_
      refine z_geti hG f_X10_22 h0 rfl dX10_take_27 ?_
      refine z_topi (fun x5 ex5 => ?_)
      have hw := hw x5 ex5
      refine z_calli hG (z_runV (As := [.int x5]) (st := []) hG k_X10_31 (MX9_get l hj4 hw) ⟨(Nat.le_of_ble_eq_true rfl), (Nat.le_of_ble_eq_true rfl)⟩ hj4 (T := TX9) (N := 2) rfl (by decide) rfl (Nat.le_of_ble_eq_true rfl) dX10_take_30 ⟨Nat.zero_le _, Nat.zero_le _⟩ rfl) (fun r7 σ6 hw => ?_)
      refine z_calli hG (z_runS (As := [.int r7]) (st := []) hG k_X10_35 (MX10_isBlank l hw) ⟨(Nat.le_of_ble_eq_true rfl), (Nat.le_of_ble_eq_true rfl)⟩ rfl (Nat.le_of_ble_eq_true rfl) dX10_take_33 ⟨Nat.zero_le _, Nat.zero_le _⟩ rfl) (fun r9 σ8 hw => ?_)
      refine z_if_eq (tgt := 52) hG dX10_take_36 (by decide) (fun c12 => ?_) (fun c12 => ?_)
      · have hw := hw.1 c12
        refine zpick [0] (lv' := [(0, .ref (za Y t0))]) rfl ?_
        exact BX10_take_52 hG t0 σ8 hw h0
      · have hw := hw.2 c12
        refine z_aload_n hG dX10_take_39 rfl 0 rfl ?_
        refine z_dup hG dX10_take_40 rfl ?_
        refine z_geti hG f_X10_22 h0 rfl dX10_take_41 ?_
        refine z_iconst (v := 1) hG dX10_take_44 (by decide) ?_
        refine z_iadd hG dX10_take_45 ?_
        refine z_topi (fun x10 ex10 => ?_)
        have hw := hw x10 ex10
        refine z_puti hG f_X10_22 h0 rfl rfl (zN_int _) dX10_take_46 ?_
        refine z_topσ (fun σ11 eσ11 => ?_)
        have hw := hw σ11 eσ11
        refine z_goto (tgt := 8) hG dX10_take_49 (by decide) ?_
        refine zpick [0] (lv' := [(0, .ref (za Y t0))]) rfl ?_
        exact ih t0 σ11 hw h0
set_option maxRecDepth 100000 in
set_option maxHeartbeats 4000000 in
theorem MX10_take (l : Launch) {E : zE} {Y : zY} {σ : zS} {t0 : Nat} (h0 : zT Y 10 t0) {Q : zS → Prop} (hw : wX10_take (zln Y) σ t0 Q) : ∀ sz, Met l yX10_take (zw yX10_take cX10_take 1 none) rX10_take (zPc E Y σ sz [.ref (za Y t0)]) (va_Qv Q (zB E Y sz) (zA Y sz)) 0 0 (zA Y sz) := by
  refine z_met (own := RX10) (Qc := fun sz => va_Qv Q (zB E Y sz) (zA Y sz)) (by decide +kernel) rfl (Nat.le_of_ble_eq_true rfl) ?_
  intro p e s m args below meth c hG hinit
  unfold wX10_take at hw
  refine zlv (lv' := [(0, .ref (za Y t0))]) rfl ?_
  refine z_aload_n hG dX10_take_0 rfl 0 rfl ?_
  refine z_aload_n hG dX10_take_1 rfl 0 rfl ?_
  refine z_geti hG f_X10_15 h0 rfl dX10_take_2 ?_
  refine z_topi (fun x1 ex1 => ?_)
  have hw := hw x1 ex1
  refine z_puti hG f_X10_22 h0 rfl rfl (zN_int _) dX10_take_5 ?_
  refine z_topσ (fun σ2 eσ2 => ?_)
  have hw := hw σ2 eσ2
  obtain ⟨n3, hw⟩ := hw
  refine zpick [0] (lv' := [(0, .ref (za Y t0))]) rfl ?_
  exact BX10_take_8 hG n3 t0 σ2 hw h0
-- TypeWheelTelegraph$Tokens.begin()V
def wX10_begin (ln : Nat → Nat) (σ : zS) (t0 : Nat) (Q : zS → Prop) : Prop := ∀ σ1 : zS, σ1 = si σ t0 3 0 → wX10_take ln σ1 t0 (fun σ2 => Q σ2)
abbrev rX10_begin : Room := { frames := 2, cells := 0, slots := 0, locals := 41 }
set_option maxRecDepth 100000 in
set_option maxHeartbeats 4000000 in
theorem MX10_begin (l : Launch) {E : zE} {Y : zY} {σ : zS} {t0 : Nat} (h0 : zT Y 10 t0) {Q : zS → Prop} (hw : wX10_begin (zln Y) σ t0 Q) : ∀ sz, Met l yX10_begin (zw yX10_begin cX10_begin 1 none) rX10_begin (zPc E Y σ sz [.ref (za Y t0)]) (va_Qv Q (zB E Y sz) (zA Y sz)) 0 0 (zA Y sz) := by
  refine z_met (own := RX10) (Qc := fun sz => va_Qv Q (zB E Y sz) (zA Y sz)) (by decide +kernel) rfl (Nat.le_of_ble_eq_true rfl) ?_
  intro p e s m args below meth c hG hinit
  unfold wX10_begin at hw
  refine zlv (lv' := [(0, .ref (za Y t0))]) rfl ?_
  refine z_aload_n hG dX10_begin_0 rfl 0 rfl ?_
  refine z_iconst (v := 0) hG dX10_begin_1 (by decide) ?_
  refine z_puti hG f_X10_15 h0 rfl rfl (zN_int _) dX10_begin_2 ?_
  refine z_topσ (fun σ1 eσ1 => ?_)
  have hw := hw σ1 eσ1
  refine z_aload_n hG dX10_begin_5 rfl 0 rfl ?_
  refine z_callv hG (z_runV (As := []) (st := []) hG k_X10_19 (MX10_take l h0 hw) ⟨(Nat.le_of_ble_eq_true rfl), (Nat.le_of_ble_eq_true rfl)⟩ h0 (T := TX10) (N := 4) rfl (by decide) rfl (Nat.le_of_ble_eq_true rfl) dX10_begin_6 ⟨Nat.zero_le _, Nat.zero_le _⟩ rfl) (fun σ2 hw => ?_)
  exact z_vret hG rfl dX10_begin_9 hw
-- TypeWheelTelegraph$Tokens.signAt(I)I
def wX10_signAt (ln : Nat → Nat) (σ : zS) (t0 : Nat) (v1 : Int32) (Q : Int32 → zS → Prop) : Prop := ∃ j1 : Nat, gr σ t0 2 = some j1 ∧ ∀ x2 : Int32, x2 = (gi σ t0 1) + v1 → wX9_get ln σ j1 x2 (fun r4 σ3 => Q r4 σ3)
abbrev rX10_signAt : Room := { frames := 1, cells := 0, slots := 0, locals := 21 }
set_option maxRecDepth 100000 in
set_option maxHeartbeats 4000000 in
theorem MX10_signAt (l : Launch) {E : zE} {Y : zY} {σ : zS} {t0 : Nat} {v1 : Int32} (h0 : zT Y 10 t0) {Q : Int32 → zS → Prop} (hw : wX10_signAt (zln Y) σ t0 v1 Q) : ∀ sz, Met l yX10_signAt (zw yX10_signAt cX10_signAt 2 (some .int)) rX10_signAt (zPc E Y σ sz [.ref (za Y t0), .int v1]) (va_Qi Q (zB E Y sz) (zA Y sz)) 0 0 (zA Y sz) := by
  refine z_met (own := RX10) (Qc := fun sz => va_Qi Q (zB E Y sz) (zA Y sz)) (by decide +kernel) rfl (Nat.le_of_ble_eq_true rfl) ?_
  intro p e s m args below meth c hG hinit
  unfold wX10_signAt at hw
  refine zlv (lv' := [(0, .ref (za Y t0)), (1, .int v1)]) rfl ?_
  refine z_aload_n hG dX10_signAt_0 rfl 0 rfl ?_
  obtain ⟨j1, ej1, hw⟩ := hw
  refine z_getr (kq := 9) hG f_X10_9 h0 rfl ej1 rfl (by decide) dX10_signAt_1 (fun hj1 => ?_)
  refine z_aload_n hG dX10_signAt_4 rfl 0 rfl ?_
  refine z_geti hG f_X10_22 h0 rfl dX10_signAt_5 ?_
  refine z_iload_n hG dX10_signAt_8 rfl 1 rfl ?_
  refine z_iadd hG dX10_signAt_9 ?_
  refine z_topi (fun x2 ex2 => ?_)
  have hw := hw x2 ex2
  refine z_calli hG (z_runV (As := [.int x2]) (st := []) hG k_X10_31 (MX9_get l hj1 hw) ⟨(Nat.le_of_ble_eq_true rfl), (Nat.le_of_ble_eq_true rfl)⟩ hj1 (T := TX9) (N := 2) rfl (by decide) rfl (Nat.le_of_ble_eq_true rfl) dX10_signAt_10 ⟨Nat.zero_le _, Nat.zero_le _⟩ rfl) (fun r4 σ3 hw => ?_)
  exact z_iret hG rfl rfl dX10_signAt_13 hw
-- TypeWheelTelegraph$Tokens.isWord(Ljava/lang/String;)Z
def wX10_isWord_23 (ln : Nat → Nat) (Q : Int32 → zS → Prop) : Nat → Nat → Nat → Int32 → zS → Prop
  | 0, _, _, _, _ => False
  | n + 1, t0, s1, v2, σ => wJ0_length_8abf5 ln σ s1 (fun r2 σ1 => ((r2 ≤ v2 → Q 1 σ1) ∧ (¬ r2 ≤ v2 → wX10_signAt ln σ1 t0 v2 (fun r4 σ3 => wJ0_charAt_5068e ln σ3 s1 v2 (fun r6 σ5 => ((r4 = r6 → ∀ x7 : Int32, x7 = v2 + 1 → (wX10_isWord_23 ln Q n) t0 s1 x7 σ5) ∧ (¬ r4 = r6 → Q 0 σ5)))))))
def wX10_isWord (ln : Nat → Nat) (σ : zS) (t0 : Nat) (s1 : Nat) (Q : Int32 → zS → Prop) : Prop := (((gi σ t0 0) = 1 → wX10_length ln σ t0 (fun r2 σ1 => wJ0_length_8abf5 ln σ1 s1 (fun r4 σ3 => ((r2 = r4 → ∃ n5 : Nat, wX10_isWord_23 ln Q n5 t0 s1 0 σ3) ∧ (¬ r2 = r4 → Q 0 σ3))))) ∧ (¬ (gi σ t0 0) = 1 → Q 0 σ))
abbrev rX10_isWord : Room := { frames := 4, cells := 0, slots := 0, locals := 85 }
set_option maxRecDepth 100000 in
set_option maxHeartbeats 4000000 in
theorem BX10_isWord_23 {l : Launch} {E : zE} {Y : zY} {p : Program} {e : Env} {s : State} {m : MethodId} {args : Array Value} {below : List Frame} {meth : Method} {c : Code} (hG : zG E p l s m args meth c cX10_isWord 3 RX10 (some .boolean) (zA Y s.heap.size)) {Q : Int32 → zS → Prop} : ∀ (n : Nat) (t0 : Nat) (s1 : Nat) (v2 : Int32) (σ : zS), wX10_isWord_23 (zln Y) Q n t0 s1 v2 σ → zT Y 10 t0 → s1 < zS_n → WW E Y σ p l e rX10_isWord s m args below meth c (zA Y s.heap.size) 3 0 0 (MQ below (va_Qi Q (zB E Y s.heap.size) (zA Y s.heap.size)) args s 0 0 (zA Y s.heap.size)) [(0, .ref (za Y t0)), (1, .ref (E.2.2.1 s1)), (2, .int v2)] 23 [] := by
  intro n
  induction n with
  | zero => intro t0 s1 v2 σ hw
            exact hw.elim
  | succ n ih =>
    intro t0 s1 v2 σ hw h0 h1
    rw [wX10_isWord_23] at hw
    refine z_iload_n hG dX10_isWord_23 rfl 2 rfl ?_
    refine z_aload_n hG dX10_isWord_24 rfl 1 rfl ?_
    refine z_calli hG (z_runVs (As := []) (st := [.int v2]) hG k_X10_48 (MJ0_length_8abf5 l h1 hw) ⟨(Nat.le_of_ble_eq_true rfl), (Nat.le_of_ble_eq_true rfl)⟩ h1 rfl (Nat.le_of_ble_eq_true rfl) dX10_isWord_25 ⟨Nat.zero_le _, Nat.zero_le _⟩ rfl) (fun r2 σ1 hw => ?_)
    refine z_icmp_ge (tgt := 52) hG dX10_isWord_28 (by decide) (fun c9 => ?_) (fun c9 => ?_)
    · have hw := hw.1 c9
      refine z_iconst (v := 1) hG dX10_isWord_52 (by decide) ?_
      exact z_iret hG rfl (by decide +kernel) dX10_isWord_53 hw
    · have hw := hw.2 c9
      refine z_aload_n hG dX10_isWord_31 rfl 0 rfl ?_
      refine z_iload_n hG dX10_isWord_32 rfl 2 rfl ?_
      refine z_calli hG (z_runV (As := [.int v2]) (st := []) hG k_X10_51 (MX10_signAt l h0 hw) ⟨(Nat.le_of_ble_eq_true rfl), (Nat.le_of_ble_eq_true rfl)⟩ h0 (T := TX10) (N := 4) rfl (by decide) rfl (Nat.le_of_ble_eq_true rfl) dX10_isWord_33 ⟨Nat.zero_le _, Nat.zero_le _⟩ rfl) (fun r4 σ3 hw => ?_)
      refine z_aload_n hG dX10_isWord_36 rfl 1 rfl ?_
      refine z_iload_n hG dX10_isWord_37 rfl 2 rfl ?_
      refine z_calli hG (z_runVs (As := [.int v2]) (st := [.int r4]) hG k_X10_54 (MJ0_charAt_5068e l h1 hw) ⟨(Nat.le_of_ble_eq_true rfl), (Nat.le_of_ble_eq_true rfl)⟩ h1 rfl (Nat.le_of_ble_eq_true rfl) dX10_isWord_38 ⟨Nat.zero_le _, Nat.zero_le _⟩ rfl) (fun r6 σ5 hw => ?_)
      refine z_icmp_eq (tgt := 46) hG dX10_isWord_41 (by decide) (fun c8 => ?_) (fun c8 => ?_)
      · have hw := hw.1 c8
        obtain ⟨x7, ex7⟩ : ∃ y : Int32, y = v2 + 1 := ⟨_, rfl⟩
        have hw := hw x7 ex7
        refine z_iinc (v := x7) (lv' := [(2, .int x7), (0, .ref (za Y t0)), (1, .ref (E.2.2.1 s1))]) hG dX10_isWord_46 2 rfl (by rw [ex7]; rfl) (by decide) rfl ?_
        refine z_goto (tgt := 23) hG dX10_isWord_49 (by decide) ?_
        refine zpick [1, 2, 0] (lv' := [(0, .ref (za Y t0)), (1, .ref (E.2.2.1 s1)), (2, .int x7)]) rfl ?_
        exact ih t0 s1 x7 σ5 hw h0 h1
      · have hw := hw.2 c8
        refine z_iconst (v := 0) hG dX10_isWord_44 (by decide) ?_
        exact z_iret hG rfl (by decide +kernel) dX10_isWord_45 hw
set_option maxRecDepth 100000 in
set_option maxHeartbeats 4000000 in
theorem MX10_isWord (l : Launch) {E : zE} {Y : zY} {σ : zS} {t0 : Nat} {s1 : Nat} (h0 : zT Y 10 t0) (h1 : s1 < zS_n) {Q : Int32 → zS → Prop} (hw : wX10_isWord (zln Y) σ t0 s1 Q) : ∀ sz, Met l yX10_isWord (zw yX10_isWord cX10_isWord 3 (some .boolean)) rX10_isWord (zPc E Y σ sz [.ref (za Y t0), .ref (E.2.2.1 s1)]) (va_Qi Q (zB E Y sz) (zA Y sz)) 0 0 (zA Y sz) := by
  refine z_met (own := RX10) (Qc := fun sz => va_Qi Q (zB E Y sz) (zA Y sz)) (by decide +kernel) rfl (Nat.le_of_ble_eq_true rfl) ?_
  intro p e s m args below meth c hG hinit
  unfold wX10_isWord at hw
  refine zlv (lv' := [(0, .ref (za Y t0)), (1, .ref (E.2.2.1 s1))]) rfl ?_
  refine z_aload_n hG dX10_isWord_0 rfl 0 rfl ?_
  refine z_geti hG f_X10_42 h0 rfl dX10_isWord_1 ?_
  refine z_iconst (v := 1) hG dX10_isWord_4 (by decide) ?_
  refine z_icmp_ne (tgt := 19) hG dX10_isWord_5 (by decide) (fun c7 => ?_) (fun c7 => ?_)
  · have hw := hw.2 c7
    refine z_iconst (v := 0) hG dX10_isWord_19 (by decide) ?_
    exact z_iret hG rfl (by decide +kernel) dX10_isWord_20 hw
  · have hw := hw.1 c7
    refine z_aload_n hG dX10_isWord_8 rfl 0 rfl ?_
    refine z_calli hG (z_runV (As := []) (st := []) hG k_X10_45 (MX10_length l h0 hw) ⟨(Nat.le_of_ble_eq_true rfl), (Nat.le_of_ble_eq_true rfl)⟩ h0 (T := TX10) (N := 4) rfl (by decide) rfl (Nat.le_of_ble_eq_true rfl) dX10_isWord_9 ⟨Nat.zero_le _, Nat.zero_le _⟩ rfl) (fun r2 σ1 hw => ?_)
    refine z_aload_n hG dX10_isWord_12 rfl 1 rfl ?_
    refine z_calli hG (z_runVs (As := []) (st := [.int r2]) hG k_X10_48 (MJ0_length_8abf5 l h1 hw) ⟨(Nat.le_of_ble_eq_true rfl), (Nat.le_of_ble_eq_true rfl)⟩ h1 rfl (Nat.le_of_ble_eq_true rfl) dX10_isWord_13 ⟨Nat.zero_le _, Nat.zero_le _⟩ rfl) (fun r4 σ3 hw => ?_)
    refine z_icmp_eq (tgt := 21) hG dX10_isWord_16 (by decide) (fun c6 => ?_) (fun c6 => ?_)
    · have hw := hw.1 c6
      refine z_iconst (v := 0) hG dX10_isWord_21 (by decide) ?_
      refine z_istore_n (lv' := [(2, .int 0), (0, .ref (za Y t0)), (1, .ref (E.2.2.1 s1))]) hG dX10_isWord_22 rfl (by decide) rfl ?_
      obtain ⟨n5, hw⟩ := hw
      refine zpick [1, 2, 0] (lv' := [(0, .ref (za Y t0)), (1, .ref (E.2.2.1 s1)), (2, .int 0)]) rfl ?_
      exact BX10_isWord_23 hG n5 t0 s1 0 σ3 hw h0 h1
    · have hw := hw.2 c6
      refine z_iconst (v := 0) hG dX10_isWord_19 (by decide) ?_
      exact z_iret hG rfl (by decide +kernel) dX10_isWord_20 hw
-- TypeWheelTelegraph$Tokens.number()I
def wX10_number_17 (ln : Nat → Nat) (Q : Int32 → zS → Prop) : Nat → Nat → Int32 → Int32 → zS → Prop
  | 0, _, _, _, _ => False
  | n + 1, t0, v1, v2, σ => (((gi σ t0 3) ≤ v2 → Q v1 σ) ∧ (¬ (gi σ t0 3) ≤ v2 → ∃ j1 : Nat, gr σ t0 2 = some j1 ∧ wX9_get ln σ j1 v2 (fun r3 σ2 => ∀ x4 : Int32, x4 = ((10 * v1) + r3) - 48 → ∀ x5 : Int32, x5 = v2 + 1 → (wX10_number_17 ln Q n) t0 x4 x5 σ2)))
def wX10_number (ln : Nat → Nat) (σ : zS) (t0 : Nat) (Q : Int32 → zS → Prop) : Prop := (((gi σ t0 0) = 2 → ∀ x1 : Int32, x1 = gi σ t0 1 → ∃ n2 : Nat, wX10_number_17 ln Q n2 t0 0 x1 σ) ∧ (¬ (gi σ t0 0) = 2 → Q (-1) σ))
abbrev rX10_number : Room := { frames := 1, cells := 0, slots := 0, locals := 21 }
set_option maxRecDepth 100000 in
set_option maxHeartbeats 4000000 in
theorem BX10_number_17 {l : Launch} {E : zE} {Y : zY} {p : Program} {e : Env} {s : State} {m : MethodId} {args : Array Value} {below : List Frame} {meth : Method} {c : Code} (hG : zG E p l s m args meth c cX10_number 3 RX10 (some .int) (zA Y s.heap.size)) {Q : Int32 → zS → Prop} : ∀ (n : Nat) (t0 : Nat) (v1 : Int32) (v2 : Int32) (σ : zS), wX10_number_17 (zln Y) Q n t0 v1 v2 σ → zT Y 10 t0 → WW E Y σ p l e rX10_number s m args below meth c (zA Y s.heap.size) 3 0 0 (MQ below (va_Qi Q (zB E Y s.heap.size) (zA Y s.heap.size)) args s 0 0 (zA Y s.heap.size)) [(0, .ref (za Y t0)), (1, .int v1), (2, .int v2)] 17 [] := by
  intro n
  induction n with
  | zero => intro t0 v1 v2 σ hw
            exact hw.elim
  | succ n ih =>
    intro t0 v1 v2 σ hw h0
    rw [wX10_number_17] at hw
    refine z_iload_n hG dX10_number_17 rfl 2 rfl ?_
    refine z_aload_n hG dX10_number_18 rfl 0 rfl ?_
    refine z_geti hG f_X10_15 h0 rfl dX10_number_19 ?_
    refine z_icmp_ge (tgt := 48) hG dX10_number_22 (by decide) (fun c6 => ?_) (fun c6 => ?_)
    · have hw := hw.1 c6
      refine z_iload_n hG dX10_number_48 rfl 1 rfl ?_
      exact z_iret hG rfl rfl dX10_number_49 hw
    · have hw := hw.2 c6
      refine z_bipush (v := 10) hG dX10_number_25 (by decide) ?_
      refine z_iload_n hG dX10_number_27 rfl 1 rfl ?_
      refine z_imul hG dX10_number_28 ?_
      refine z_aload_n hG dX10_number_29 rfl 0 rfl ?_
      obtain ⟨j1, ej1, hw⟩ := hw
      refine z_getr (kq := 9) hG f_X10_9 h0 rfl ej1 rfl (by decide) dX10_number_30 (fun hj1 => ?_)
      refine z_iload_n hG dX10_number_33 rfl 2 rfl ?_
      refine z_calli hG (z_runV (As := [.int v2]) (st := [.int (10 * v1)]) hG k_X10_31 (MX9_get l hj1 hw) ⟨(Nat.le_of_ble_eq_true rfl), (Nat.le_of_ble_eq_true rfl)⟩ hj1 (T := TX9) (N := 2) rfl (by decide) rfl (Nat.le_of_ble_eq_true rfl) dX10_number_34 ⟨Nat.zero_le _, Nat.zero_le _⟩ rfl) (fun r3 σ2 hw => ?_)
      refine z_iadd hG dX10_number_37 ?_
      refine z_bipush (v := 48) hG dX10_number_38 (by decide) ?_
      refine z_isub hG dX10_number_40 ?_
      refine z_topi (fun x4 ex4 => ?_)
      have hw := hw x4 ex4
      refine z_istore_n (lv' := [(1, .int x4), (0, .ref (za Y t0)), (2, .int v2)]) hG dX10_number_41 rfl (by decide) rfl ?_
      obtain ⟨x5, ex5⟩ : ∃ y : Int32, y = v2 + 1 := ⟨_, rfl⟩
      have hw := hw x5 ex5
      refine z_iinc (v := x5) (lv' := [(2, .int x5), (1, .int x4), (0, .ref (za Y t0))]) hG dX10_number_42 2 rfl (by rw [ex5]; rfl) (by decide) rfl ?_
      refine z_goto (tgt := 17) hG dX10_number_45 (by decide) ?_
      refine zpick [2, 1, 0] (lv' := [(0, .ref (za Y t0)), (1, .int x4), (2, .int x5)]) rfl ?_
      exact ih t0 x4 x5 σ2 hw h0
set_option maxRecDepth 100000 in
set_option maxHeartbeats 4000000 in
theorem MX10_number (l : Launch) {E : zE} {Y : zY} {σ : zS} {t0 : Nat} (h0 : zT Y 10 t0) {Q : Int32 → zS → Prop} (hw : wX10_number (zln Y) σ t0 Q) : ∀ sz, Met l yX10_number (zw yX10_number cX10_number 3 (some .int)) rX10_number (zPc E Y σ sz [.ref (za Y t0)]) (va_Qi Q (zB E Y sz) (zA Y sz)) 0 0 (zA Y sz) := by
  refine z_met (own := RX10) (Qc := fun sz => va_Qi Q (zB E Y sz) (zA Y sz)) (by decide +kernel) rfl (Nat.le_of_ble_eq_true rfl) ?_
  intro p e s m args below meth c hG hinit
  unfold wX10_number at hw
  refine zlv (lv' := [(0, .ref (za Y t0))]) rfl ?_
  refine z_aload_n hG dX10_number_0 rfl 0 rfl ?_
  refine z_geti hG f_X10_42 h0 rfl dX10_number_1 ?_
  refine z_iconst (v := 2) hG dX10_number_4 (by decide) ?_
  refine z_icmp_eq (tgt := 10) hG dX10_number_5 (by decide) (fun c3 => ?_) (fun c3 => ?_)
  · have hw := hw.1 c3
    refine z_iconst (v := 0) hG dX10_number_10 (by decide) ?_
    refine z_istore_n (lv' := [(1, .int 0), (0, .ref (za Y t0))]) hG dX10_number_11 rfl (by decide) rfl ?_
    refine z_aload_n hG dX10_number_12 rfl 1 rfl ?_
    refine z_geti hG f_X10_22 h0 rfl dX10_number_13 ?_
    refine z_topi (fun x1 ex1 => ?_)
    have hw := hw x1 ex1
    refine z_istore_n (lv' := [(2, .int x1), (1, .int 0), (0, .ref (za Y t0))]) hG dX10_number_16 rfl (by decide) rfl ?_
    obtain ⟨n2, hw⟩ := hw
    refine zpick [2, 1, 0] (lv' := [(0, .ref (za Y t0)), (1, .int 0), (2, .int x1)]) rfl ?_
    exact BX10_number_17 hG n2 t0 0 x1 σ hw h0
  · have hw := hw.2 c3
    refine z_iconst (v := (-1)) hG dX10_number_8 (by decide) ?_
    exact z_iret hG rfl rfl dX10_number_9 hw
-- TypeWheelTelegraph$Parser.takeNumber(II)Z
def wX5_takeNumber (ln : Nat → Nat) (σ : zS) (t0 : Nat) (v1 : Int32) (v2 : Int32) (Q : Int32 → zS → Prop) : Prop := ∃ j1 : Nat, gr σ t0 0 = some j1 ∧ wX10_take ln σ j1 (fun σ2 => ∃ j3 : Nat, gr σ2 t0 0 = some j3 ∧ wX10_number ln σ2 j3 (fun r5 σ4 => ∀ σ6 : zS, σ6 = si σ4 t0 2 r5 → (((gi σ6 t0 2) < v1 → Q 0 σ6) ∧ (¬ (gi σ6 t0 2) < v1 → ((v2 < (gi σ6 t0 2) → Q 0 σ6) ∧ (¬ v2 < (gi σ6 t0 2) → Q 1 σ6))))))
abbrev rX5_takeNumber : Room := { frames := 2, cells := 0, slots := 0, locals := 43 }
set_option maxRecDepth 100000 in
set_option maxHeartbeats 4000000 in
theorem MX5_takeNumber (l : Launch) {E : zE} {Y : zY} {σ : zS} {t0 : Nat} {v1 : Int32} {v2 : Int32} (h0 : zT Y 5 t0) {Q : Int32 → zS → Prop} (hw : wX5_takeNumber (zln Y) σ t0 v1 v2 Q) : ∀ sz, Met l yX5_takeNumber (zw yX5_takeNumber cX5_takeNumber 3 (some .boolean)) rX5_takeNumber (zPc E Y σ sz [.ref (za Y t0), .int v1, .int v2]) (va_Qi Q (zB E Y sz) (zA Y sz)) 0 0 (zA Y sz) := by
  refine z_met (own := RX5) (Qc := fun sz => va_Qi Q (zB E Y sz) (zA Y sz)) (by decide +kernel) rfl (Nat.le_of_ble_eq_true rfl) ?_
  intro p e s m args below meth c hG hinit
  unfold wX5_takeNumber at hw
  refine zlv (lv' := [(0, .ref (za Y t0)), (1, .int v1), (2, .int v2)]) rfl ?_
  refine z_aload_n hG dX5_takeNumber_0 rfl 0 rfl ?_
  obtain ⟨j1, ej1, hw⟩ := hw
  refine z_getr (kq := 10) hG f_X5_14 h0 rfl ej1 rfl (by decide) dX5_takeNumber_1 (fun hj1 => ?_)
  refine z_callv hG (z_runV (As := []) (st := []) hG k_X5_42 (MX10_take l hj1 hw) ⟨(Nat.le_of_ble_eq_true rfl), (Nat.le_of_ble_eq_true rfl)⟩ hj1 (T := TX10) (N := 4) rfl (by decide) rfl (Nat.le_of_ble_eq_true rfl) dX5_takeNumber_4 ⟨Nat.zero_le _, Nat.zero_le _⟩ rfl) (fun σ2 hw => ?_)
  refine z_aload_n hG dX5_takeNumber_7 rfl 0 rfl ?_
  refine z_aload_n hG dX5_takeNumber_8 rfl 0 rfl ?_
  obtain ⟨j3, ej3, hw⟩ := hw
  refine z_getr (kq := 10) hG f_X5_14 h0 rfl ej3 rfl (by decide) dX5_takeNumber_9 (fun hj3 => ?_)
  refine z_calli hG (z_runV (As := []) (st := [.ref (za Y t0)]) hG k_X5_169 (MX10_number l hj3 hw) ⟨(Nat.le_of_ble_eq_true rfl), (Nat.le_of_ble_eq_true rfl)⟩ hj3 (T := TX10) (N := 4) rfl (by decide) rfl (Nat.le_of_ble_eq_true rfl) dX5_takeNumber_12 ⟨Nat.zero_le _, Nat.zero_le _⟩ rfl) (fun r5 σ4 hw => ?_)
  refine z_puti hG f_X5_94 h0 rfl rfl (zN_int _) dX5_takeNumber_15 ?_
  refine z_topσ (fun σ6 eσ6 => ?_)
  have hw := hw σ6 eσ6
  refine z_aload_n hG dX5_takeNumber_18 rfl 0 rfl ?_
  refine z_geti hG f_X5_94 h0 rfl dX5_takeNumber_19 ?_
  refine z_iload_n hG dX5_takeNumber_22 rfl 1 rfl ?_
  refine z_icmp_lt (tgt := 38) hG dX5_takeNumber_23 (by decide) (fun c8 => ?_) (fun c8 => ?_)
  · have hw := hw.1 c8
    refine z_iconst (v := 0) hG dX5_takeNumber_38 (by decide) ?_
    exact z_iret hG rfl (by decide +kernel) dX5_takeNumber_39 hw
  · have hw := hw.2 c8
    refine z_aload_n hG dX5_takeNumber_26 rfl 0 rfl ?_
    refine z_geti hG f_X5_94 h0 rfl dX5_takeNumber_27 ?_
    refine z_iload_n hG dX5_takeNumber_30 rfl 2 rfl ?_
    refine z_icmp_gt (tgt := 38) hG dX5_takeNumber_31 (by decide) (fun c7 => ?_) (fun c7 => ?_)
    · have hw := hw.1 c7
      refine z_iconst (v := 0) hG dX5_takeNumber_38 (by decide) ?_
      exact z_iret hG rfl (by decide +kernel) dX5_takeNumber_39 hw
    · have hw := hw.2 c7
      refine z_iconst (v := 1) hG dX5_takeNumber_34 (by decide) ?_
      refine z_goto (tgt := 39) hG dX5_takeNumber_35 (by decide) ?_
      exact z_iret hG rfl (by decide +kernel) dX5_takeNumber_39 hw
-- TypeWheelTelegraph$Plan.desk(I)LTypeWheelTelegraph$Desk;
def wX6_desk (ln : Nat → Nat) (σ : zS) (t0 : Nat) (v1 : Int32) (Q : Nat → zS → Prop) : Prop := ((v1 = 1 → ∃ j2 : Nat, gr σ t0 7 = some j2 ∧ Q j2 σ) ∧ (¬ v1 = 1 → ∃ j1 : Nat, gr σ t0 6 = some j1 ∧ Q j1 σ))
abbrev rX6_desk : Room := { frames := 0, cells := 0, slots := 0, locals := 0 }
set_option maxRecDepth 100000 in
set_option maxHeartbeats 4000000 in
theorem MX6_desk (l : Launch) {E : zE} {Y : zY} {σ : zS} {t0 : Nat} {v1 : Int32} (h0 : zT Y 6 t0) {Q : Nat → zS → Prop} (hw : wX6_desk (zln Y) σ t0 v1 Q) : ∀ sz, Met l yX6_desk (zw yX6_desk cX6_desk 2 (some (.object "TypeWheelTelegraph$Desk"))) rX6_desk (zPc E Y σ sz [.ref (za Y t0), .int v1]) (va_Qe (za Y) (zQe (zSm Q)) (zBe E Y sz 0) (zA Y sz)) 0 0 (zA Y sz) := by
  refine z_met (own := RX6) (Qc := fun sz => va_Qe (za Y) (zQe (zSm Q)) (zBe E Y sz 0) (zA Y sz)) (by decide +kernel) rfl (Nat.le_of_ble_eq_true rfl) ?_
  intro p e s m args below meth c hG hinit
  unfold wX6_desk at hw
  refine zlv (lv' := [(0, .ref (za Y t0)), (1, .int v1)]) rfl ?_
  refine z_iload_n hG dX6_desk_0 rfl 1 rfl ?_
  refine z_iconst (v := 1) hG dX6_desk_1 (by decide) ?_
  refine z_icmp_ne (tgt := 12) hG dX6_desk_2 (by decide) (fun c3 => ?_) (fun c3 => ?_)
  · have hw := hw.2 c3
    refine z_aload_n hG dX6_desk_12 rfl 0 rfl ?_
    obtain ⟨j1, ej1, hw⟩ := hw
    refine z_getr (kq := 0) hG f_X6_23 h0 rfl ej1 rfl (by decide) dX6_desk_13 (fun hj1 => ?_)
    exact z_aret hG rfl (Or.inl ⟨_, rfl⟩) hj1 dX6_desk_16 ⟨_, rfl, hw⟩
  · have hw := hw.1 c3
    refine z_aload_n hG dX6_desk_5 rfl 0 rfl ?_
    obtain ⟨j2, ej2, hw⟩ := hw
    refine z_getr (kq := 0) hG f_X6_27 h0 rfl ej2 rfl (by decide) dX6_desk_6 (fun hj2 => ?_)
    refine z_goto (tgt := 16) hG dX6_desk_9 (by decide) ?_
    exact z_aret hG rfl (Or.inl ⟨_, rfl⟩) hj2 dX6_desk_16 ⟨_, rfl, hw⟩
-- TypeWheelTelegraph$Desk.line(I)LTypeWheelTelegraph$Line;
def wX0_line (ln : Nat → Nat) (σ : zS) (t0 : Nat) (v1 : Int32) (Q : Option Nat → zS → Prop) : Prop := ((v1 < 0 → Q none σ) ∧ (¬ v1 < 0 → (((gi σ t0 2) ≤ v1 → Q none σ) ∧ (¬ (gi σ t0 2) ≤ v1 → ∃ j1 : Nat, gr σ t0 3 = some j1 ∧ (((nI (ln j1)) ≤ v1 → Q none σ) ∧ (¬ (nI (ln j1)) ≤ v1 → ∃ j2 : Nat, gr σ t0 3 = some j2 ∧ vp_in v1 (ln j2) ∧ ∃ j4 : Nat, gr σ j2 v1.toNatClampNeg = some j4 ∧ Q (some j4) σ))))))
abbrev rX0_line : Room := { frames := 0, cells := 0, slots := 0, locals := 0 }
set_option maxRecDepth 100000 in
set_option maxHeartbeats 4000000 in
theorem MX0_line (l : Launch) {E : zE} {Y : zY} {σ : zS} {t0 : Nat} {v1 : Int32} (h0 : zT Y 0 t0) {Q : Option Nat → zS → Prop} (hw : wX0_line (zln Y) σ t0 v1 Q) : ∀ sz, Met l yX0_line (zw yX0_line cX0_line 2 (some (.object "TypeWheelTelegraph$Line"))) rX0_line (zPc E Y σ sz [.ref (za Y t0), .int v1]) (va_Qe (za Y) (zQe Q) (zBe E Y sz 2) (zA Y sz)) 0 0 (zA Y sz) := by
  refine z_met (own := RX0) (Qc := fun sz => va_Qe (za Y) (zQe Q) (zBe E Y sz 2) (zA Y sz)) (by decide +kernel) rfl (Nat.le_of_ble_eq_true rfl) ?_
  intro p e s m args below meth c hG hinit
  unfold wX0_line at hw
  refine zlv (lv' := [(0, .ref (za Y t0)), (1, .int v1)]) rfl ?_
  refine z_iload_n hG dX0_line_0 rfl 1 rfl ?_
  refine z_if_lt (tgt := 30) hG dX0_line_1 (by decide) (fun c7 => ?_) (fun c7 => ?_)
  · have hw := hw.1 c7
    refine z_null hG dX0_line_30 ?_
    exact z_aretN hG rfl (Or.inl ⟨_, rfl⟩) dX0_line_31 hw
  · have hw := hw.2 c7
    refine z_iload_n hG dX0_line_4 rfl 1 rfl ?_
    refine z_aload_n hG dX0_line_5 rfl 0 rfl ?_
    refine z_geti hG f_X0_25 h0 rfl dX0_line_6 ?_
    refine z_icmp_ge (tgt := 30) hG dX0_line_9 (by decide) (fun c6 => ?_) (fun c6 => ?_)
    · have hw := hw.1 c6
      refine z_null hG dX0_line_30 ?_
      exact z_aretN hG rfl (Or.inl ⟨_, rfl⟩) dX0_line_31 hw
    · have hw := hw.2 c6
      refine z_iload_n hG dX0_line_12 rfl 1 rfl ?_
      refine z_aload_n hG dX0_line_13 rfl 0 rfl ?_
      obtain ⟨j1, ej1, hw⟩ := hw
      refine z_getr (kq := 22) hG f_X0_11 h0 rfl ej1 rfl (by decide) dX0_line_14 (fun hj1 => ?_)
      refine z_alen hG hj1 (by decide) (t0 := 2) rfl dX0_line_17 ?_
      refine z_icmp_ge (tgt := 30) hG dX0_line_18 (by decide) (fun c5 => ?_) (fun c5 => ?_)
      · have hw := hw.1 c5
        refine z_null hG dX0_line_30 ?_
        exact z_aretN hG rfl (Or.inl ⟨_, rfl⟩) dX0_line_31 hw
      · have hw := hw.2 c5
        refine z_aload_n hG dX0_line_21 rfl 0 rfl ?_
        obtain ⟨j2, ej2, hw⟩ := hw
        refine z_getr (kq := 22) hG f_X0_11 h0 rfl ej2 rfl (by decide) dX0_line_22 (fun hj2 => ?_)
        refine z_iload_n hG dX0_line_25 rfl 1 rfl ?_
        obtain ⟨q3, hw⟩ := hw
        obtain ⟨j4, ej4, hw⟩ := hw
        refine z_aald (kq := 2) (t0 := 2) hG hj2 (by decide) rfl q3 ej4 (fun _ => rfl) (by decide) dX0_line_26 (fun hj4 => ?_)
        refine z_goto (tgt := 31) hG dX0_line_27 (by decide) ?_
        exact z_aret hG rfl (Or.inl ⟨_, rfl⟩) hj4 dX0_line_31 hw
-- TypeWheelTelegraph$Desk.addLine()Z
def wX0_addLine (ln : Nat → Nat) (σ : zS) (t0 : Nat) (Q : Int32 → zS → Prop) : Prop := ∃ j1 : Nat, gr σ t0 3 = some j1 ∧ (((gi σ t0 2) < (nI (ln j1)) → ∀ x2 : Int32, x2 = (gi σ t0 2) + 1 → ∀ σ3 : zS, σ3 = si σ t0 2 x2 → ∀ x4 : Int32, x4 = (gi σ3 t0 2) - 1 → wX0_line ln σ3 t0 x4 (fun r6 σ5 => (r6 = none → Q 1 σ5) ∧ (∀ j7 : Nat, r6 = some j7 → ∃ j8 : Nat, gr σ5 j7 0 = some j8 ∧ wX9_clear ln σ5 j8 (fun σ9 => Q 1 σ9)))) ∧ (¬ (gi σ t0 2) < (nI (ln j1)) → Q 0 σ))
abbrev rX0_addLine : Room := { frames := 1, cells := 0, slots := 0, locals := 21 }
set_option maxRecDepth 100000 in
set_option maxHeartbeats 4000000 in
theorem MX0_addLine (l : Launch) {E : zE} {Y : zY} {σ : zS} {t0 : Nat} (h0 : zT Y 0 t0) {Q : Int32 → zS → Prop} (hw : wX0_addLine (zln Y) σ t0 Q) : ∀ sz, Met l yX0_addLine (zw yX0_addLine cX0_addLine 2 (some .boolean)) rX0_addLine (zPc E Y σ sz [.ref (za Y t0)]) (va_Qi Q (zB E Y sz) (zA Y sz)) 0 0 (zA Y sz) := by
  refine z_met (own := RX0) (Qc := fun sz => va_Qi Q (zB E Y sz) (zA Y sz)) (by decide +kernel) rfl (Nat.le_of_ble_eq_true rfl) ?_
  intro p e s m args below meth c hG hinit
  unfold wX0_addLine at hw
  refine zlv (lv' := [(0, .ref (za Y t0))]) rfl ?_
  refine z_aload_n hG dX0_addLine_0 rfl 0 rfl ?_
  refine z_geti hG f_X0_25 h0 rfl dX0_addLine_1 ?_
  refine z_aload_n hG dX0_addLine_4 rfl 0 rfl ?_
  obtain ⟨j1, ej1, hw⟩ := hw
  refine z_getr (kq := 22) hG f_X0_11 h0 rfl ej1 rfl (by decide) dX0_addLine_5 (fun hj1 => ?_)
  refine z_alen hG hj1 (by decide) (t0 := 2) rfl dX0_addLine_8 ?_
  refine z_icmp_lt (tgt := 14) hG dX0_addLine_9 (by decide) (fun c10 => ?_) (fun c10 => ?_)
  · have hw := hw.1 c10
    refine z_aload_n hG dX0_addLine_14 rfl 0 rfl ?_
    refine z_dup hG dX0_addLine_15 rfl ?_
    refine z_geti hG f_X0_25 h0 rfl dX0_addLine_16 ?_
    refine z_iconst (v := 1) hG dX0_addLine_19 (by decide) ?_
    refine z_iadd hG dX0_addLine_20 ?_
    refine z_topi (fun x2 ex2 => ?_)
    have hw := hw x2 ex2
    refine z_puti hG f_X0_25 h0 rfl rfl (zN_int _) dX0_addLine_21 ?_
    refine z_topσ (fun σ3 eσ3 => ?_)
    have hw := hw σ3 eσ3
    refine z_aload_n hG dX0_addLine_24 rfl 0 rfl ?_
    refine z_aload_n hG dX0_addLine_25 rfl 0 rfl ?_
    refine z_geti hG f_X0_25 h0 rfl dX0_addLine_26 ?_
    refine z_iconst (v := 1) hG dX0_addLine_29 (by decide) ?_
    refine z_isub hG dX0_addLine_30 ?_
    refine z_topi (fun x4 ex4 => ?_)
    have hw := hw x4 ex4
    refine z_calle hG (z_runV (As := [.int x4]) (st := []) hG k_X0_28 (MX0_line l h0 hw) ⟨(Nat.le_of_ble_eq_true rfl), (Nat.le_of_ble_eq_true rfl)⟩ h0 (T := TX0) (N := 4) rfl (by decide) rfl (Nat.le_of_ble_eq_true rfl) dX0_addLine_31 ⟨Nat.zero_le _, Nat.zero_le _⟩ rfl) (fun σ5 hw => ?_) (fun j7 σ5 hj7 hw => ?_)
    · have hw := hw.1 rfl
      refine z_astoreN_n (lv' := [(1, .null), (0, .ref (za Y t0))]) hG dX0_addLine_34 rfl (by decide) rfl ?_
      refine z_aloadN_n hG dX0_addLine_35 rfl 0 rfl ?_
      refine z_ifnull_yes (tgt := 46) hG dX0_addLine_36 (by decide) ?_
      refine z_iconst (v := 1) hG dX0_addLine_46 (by decide) ?_
      exact z_iret hG rfl (by decide +kernel) dX0_addLine_47 hw
    · have hw := hw.2 j7 rfl
      refine z_astore_n (lv' := [(1, .ref (za Y j7)), (0, .ref (za Y t0))]) hG dX0_addLine_34 rfl (by decide) rfl ?_
      refine z_aload_n hG dX0_addLine_35 rfl 0 rfl ?_
      refine z_ifnull_no hG dX0_addLine_36 ?_
      refine z_aload_n hG dX0_addLine_39 rfl 0 rfl ?_
      obtain ⟨j8, ej8, hw⟩ := hw
      refine z_getr (kq := 9) hG f_X0_32 hj7 rfl ej8 rfl (by decide) dX0_addLine_40 (fun hj8 => ?_)
      refine z_callv hG (z_runV (As := []) (st := []) hG k_X0_36 (MX9_clear l hj8 hw) ⟨(Nat.le_of_ble_eq_true rfl), (Nat.le_of_ble_eq_true rfl)⟩ hj8 (T := TX9) (N := 2) rfl (by decide) rfl (Nat.le_of_ble_eq_true rfl) dX0_addLine_43 ⟨Nat.zero_le _, Nat.zero_le _⟩ rfl) (fun σ9 hw => ?_)
      refine z_iconst (v := 1) hG dX0_addLine_46 (by decide) ?_
      exact z_iret hG rfl (by decide +kernel) dX0_addLine_47 hw
  · have hw := hw.2 c10
    refine z_iconst (v := 0) hG dX0_addLine_12 (by decide) ?_
    exact z_iret hG rfl (by decide +kernel) dX0_addLine_13 hw
-- TypeWheelTelegraph$Line.wheelIndex(I)I
def wX2_wheelIndex (ln : Nat → Nat) (σ : zS) (v0 : Int32) (Q : Int32 → zS → Prop) : Prop := ((57 < v0 → Q (v0 - 97) σ) ∧ (¬ 57 < v0 → Q (v0 - 48) σ))
abbrev rX2_wheelIndex : Room := { frames := 0, cells := 0, slots := 0, locals := 0 }
set_option maxRecDepth 100000 in
set_option maxHeartbeats 4000000 in
theorem MX2_wheelIndex (l : Launch) {E : zE} {Y : zY} {σ : zS} {v0 : Int32} {Q : Int32 → zS → Prop} (hw : wX2_wheelIndex (zln Y) σ v0 Q) : ∀ sz, Met l yX2_wheelIndex (zw yX2_wheelIndex cX2_wheelIndex 1 (some .int)) rX2_wheelIndex (zPc E Y σ sz [.int v0]) (va_Qi Q (zB E Y sz) (zA Y sz)) 0 0 (zA Y sz) := by
  refine z_met (own := RX2) (Qc := fun sz => va_Qi Q (zB E Y sz) (zA Y sz)) (by decide +kernel) rfl (Nat.le_of_ble_eq_true rfl) ?_
  intro p e s m args below meth c hG hinit
  unfold wX2_wheelIndex at hw
  refine zlv (lv' := [(0, .int v0)]) rfl ?_
  refine z_iload_n hG dX2_wheelIndex_0 rfl 0 rfl ?_
  refine z_bipush (v := 57) hG dX2_wheelIndex_1 (by decide) ?_
  refine z_icmp_gt (tgt := 13) hG dX2_wheelIndex_3 (by decide) (fun c1 => ?_) (fun c1 => ?_)
  · have hw := hw.1 c1
    refine z_iload_n hG dX2_wheelIndex_13 rfl 0 rfl ?_
    refine z_bipush (v := 97) hG dX2_wheelIndex_14 (by decide) ?_
    refine z_isub hG dX2_wheelIndex_16 ?_
    exact z_iret hG rfl rfl dX2_wheelIndex_17 hw
  · have hw := hw.2 c1
    refine z_iload_n hG dX2_wheelIndex_6 rfl 0 rfl ?_
    refine z_bipush (v := 48) hG dX2_wheelIndex_7 (by decide) ?_
    refine z_isub hG dX2_wheelIndex_9 ?_
    refine z_goto (tgt := 17) hG dX2_wheelIndex_10 (by decide) ?_
    exact z_iret hG rfl rfl dX2_wheelIndex_17 hw
-- TypeWheelTelegraph$Parser.item(LTypeWheelTelegraph$Desk;I)Z
def wX5_item_80 (ln : Nat → Nat) (Q : Int32 → zS → Prop) : Nat → Nat → Int32 → Nat → Int32 → zS → Prop
  | 0, _, _, _, _, _ => False
  | n + 1, t0, v2, t3, v4, σ => ∃ j1 : Nat, gr σ t0 0 = some j1 ∧ wX10_length ln σ j1 (fun r3 σ2 => ((r3 ≤ v4 → Q 1 σ2) ∧ (¬ r3 ≤ v4 → ∃ j4 : Nat, gr σ2 t0 0 = some j4 ∧ wX10_signAt ln σ2 j4 v4 (fun r6 σ5 => wX2_wheelIndex ln σ5 r6 (fun r8 σ7 => ((r8 < (v2 - 2) → ∃ j9 : Nat, gr σ7 t3 0 = some j9 ∧ wX9_add ln σ7 j9 r6 (fun σ10 => ∀ x11 : Int32, x11 = v4 + 1 → (wX5_item_80 ln Q n) t0 v2 t3 x11 σ10)) ∧ (¬ r8 < (v2 - 2) → Q 0 σ7)))))))
def wX5_item_55 (ln : Nat → Nat) (Q : Int32 → zS → Prop) (t0 : Nat) (v2 : Int32) (t3 : Nat) (σ : zS) : Prop := ∃ j1 : Nat, gr σ t3 0 = some j1 ∧ wX9_size ln σ j1 (fun r3 σ2 => ∃ j4 : Nat, gr σ2 t0 0 = some j4 ∧ wX10_length ln σ2 j4 (fun r6 σ5 => (((r3 + r6) ≤ 30 → ∃ n7 : Nat, wX5_item_80 ln Q n7 t0 v2 t3 0 σ5) ∧ (¬ (r3 + r6) ≤ 30 → Q 0 σ5))))
def wX5_item (ln : Nat → Nat) (σ : zS) (t0 : Nat) (t1 : Nat) (v2 : Int32) (Q : Int32 → zS → Prop) : Prop := ∃ j1 : Nat, gr σ t0 0 = some j1 ∧ (((gi σ j1 0) = 4 → wX0_addLine ln σ t1 (fun r11 σ10 => zB1 r11 ∧ Q r11 σ10)) ∧ (¬ (gi σ j1 0) = 4 → ∀ x2 : Int32, x2 = (gi σ t1 2) - 1 → wX0_line ln σ t1 x2 (fun r4 σ3 => (r4 = none → Q 0 σ3) ∧ (∀ j5 : Nat, r4 = some j5 → ∃ j6 : Nat, gr σ3 t0 0 = some j6 ∧ (((gi σ3 j6 0) = 1 → wX5_item_55 ln Q t0 v2 j5 σ3) ∧ (¬ (gi σ3 j6 0) = 1 → ∃ j7 : Nat, gr σ3 t0 0 = some j7 ∧ (((gi σ3 j7 0) = 2 → wX5_item_55 ln Q t0 v2 j5 σ3) ∧ (¬ (gi σ3 j7 0) = 2 → Q 0 σ3))))))))
abbrev rX5_item : Room := { frames := 2, cells := 0, slots := 0, locals := 42 }
set_option maxRecDepth 100000 in
set_option maxHeartbeats 4000000 in
theorem BX5_item_80 {l : Launch} {E : zE} {Y : zY} {p : Program} {e : Env} {s : State} {m : MethodId} {args : Array Value} {below : List Frame} {meth : Method} {c : Code} (hG : zG E p l s m args meth c cX5_item 6 RX5 (some .boolean) (zA Y s.heap.size)) {Q : Int32 → zS → Prop} : ∀ (n : Nat) (t0 : Nat) (v2 : Int32) (t3 : Nat) (v4 : Int32) (σ : zS), wX5_item_80 (zln Y) Q n t0 v2 t3 v4 σ → zT Y 5 t0 → zT Y 2 t3 → WW E Y σ p l e rX5_item s m args below meth c (zA Y s.heap.size) 6 0 0 (MQ below (va_Qi Q (zB E Y s.heap.size) (zA Y s.heap.size)) args s 0 0 (zA Y s.heap.size)) [(0, .ref (za Y t0)), (2, .int v2), (3, .ref (za Y t3)), (4, .int v4)] 80 [] := by
  intro n
  induction n with
  | zero => intro t0 v2 t3 v4 σ hw
            exact hw.elim
  | succ n ih =>
    intro t0 v2 t3 v4 σ hw h0 h3
    rw [wX5_item_80] at hw
    refine z_iload hG dX5_item_80 3 rfl ?_
    refine z_aload_n hG dX5_item_82 rfl 0 rfl ?_
    obtain ⟨j1, ej1, hw⟩ := hw
    refine z_getr (kq := 10) hG f_X5_14 h0 rfl ej1 rfl (by decide) dX5_item_83 (fun hj1 => ?_)
    refine z_calli hG (z_runV (As := []) (st := [.int v4]) hG k_X5_159 (MX10_length l hj1 hw) ⟨(Nat.le_of_ble_eq_true rfl), (Nat.le_of_ble_eq_true rfl)⟩ hj1 (T := TX10) (N := 4) rfl (by decide) rfl (Nat.le_of_ble_eq_true rfl) dX5_item_86 ⟨Nat.zero_le _, Nat.zero_le _⟩ rfl) (fun r3 σ2 hw => ?_)
    refine z_icmp_ge (tgt := 131) hG dX5_item_89 (by decide) (fun c13 => ?_) (fun c13 => ?_)
    · have hw := hw.1 c13
      refine z_iconst (v := 1) hG dX5_item_131 (by decide) ?_
      exact z_iret hG rfl (by decide +kernel) dX5_item_132 hw
    · have hw := hw.2 c13
      refine z_aload_n hG dX5_item_92 rfl 0 rfl ?_
      obtain ⟨j4, ej4, hw⟩ := hw
      refine z_getr (kq := 10) hG f_X5_14 h0 rfl ej4 rfl (by decide) dX5_item_93 (fun hj4 => ?_)
      refine z_iload hG dX5_item_96 3 rfl ?_
      refine z_calli hG (z_runV (As := [.int v4]) (st := []) hG k_X5_162 (MX10_signAt l hj4 hw) ⟨(Nat.le_of_ble_eq_true rfl), (Nat.le_of_ble_eq_true rfl)⟩ hj4 (T := TX10) (N := 4) rfl (by decide) rfl (Nat.le_of_ble_eq_true rfl) dX5_item_98 ⟨Nat.zero_le _, Nat.zero_le _⟩ rfl) (fun r6 σ5 hw => ?_)
      refine z_istore (lv' := [(5, .int r6), (0, .ref (za Y t0)), (2, .int v2), (3, .ref (za Y t3)), (4, .int v4)]) hG dX5_item_101 (by decide) rfl ?_
      refine z_iload hG dX5_item_103 0 rfl ?_
      refine z_calli hG (z_runS (As := [.int r6]) (st := []) hG k_X5_166 (MX2_wheelIndex l hw) ⟨(Nat.le_of_ble_eq_true rfl), (Nat.le_of_ble_eq_true rfl)⟩ rfl (Nat.le_of_ble_eq_true rfl) dX5_item_105 ⟨Nat.zero_le _, Nat.zero_le _⟩ rfl) (fun r8 σ7 hw => ?_)
      refine z_iload_n hG dX5_item_108 rfl 2 rfl ?_
      refine z_iconst (v := 2) hG dX5_item_109 (by decide) ?_
      refine z_isub hG dX5_item_110 ?_
      refine z_icmp_lt (tgt := 116) hG dX5_item_111 (by decide) (fun c12 => ?_) (fun c12 => ?_)
      · have hw := hw.1 c12
        refine z_aload_n hG dX5_item_116 rfl 3 rfl ?_
        obtain ⟨j9, ej9, hw⟩ := hw
        refine z_getr (kq := 9) hG f_X5_154 h3 rfl ej9 rfl (by decide) dX5_item_117 (fun hj9 => ?_)
        refine z_iload hG dX5_item_120 0 rfl ?_
        refine z_callv hG (z_runV (As := [.int r6]) (st := []) hG k_X5_137 (MX9_add l hj9 hw) ⟨(Nat.le_of_ble_eq_true rfl), (Nat.le_of_ble_eq_true rfl)⟩ hj9 (T := TX9) (N := 2) rfl (by decide) rfl (Nat.le_of_ble_eq_true rfl) dX5_item_122 ⟨Nat.zero_le _, Nat.zero_le _⟩ rfl) (fun σ10 hw => ?_)
        obtain ⟨x11, ex11⟩ : ∃ y : Int32, y = v4 + 1 := ⟨_, rfl⟩
        have hw := hw x11 ex11
        refine z_iinc (v := x11) (lv' := [(4, .int x11), (5, .int r6), (0, .ref (za Y t0)), (2, .int v2), (3, .ref (za Y t3))]) hG dX5_item_125 4 rfl (by rw [ex11]; rfl) (by decide) rfl ?_
        refine z_goto (tgt := 80) hG dX5_item_128 (by decide) ?_
        refine zpick [2, 3, 4, 0] (lv' := [(0, .ref (za Y t0)), (2, .int v2), (3, .ref (za Y t3)), (4, .int x11)]) rfl ?_
        exact ih t0 v2 t3 x11 σ10 hw h0 h3
      · have hw := hw.2 c12
        refine z_iconst (v := 0) hG dX5_item_114 (by decide) ?_
        exact z_iret hG rfl (by decide +kernel) dX5_item_115 hw
set_option maxRecDepth 100000 in
set_option maxHeartbeats 4000000 in
theorem BX5_item_55 {l : Launch} {E : zE} {Y : zY} {p : Program} {e : Env} {s : State} {m : MethodId} {args : Array Value} {below : List Frame} {meth : Method} {c : Code} (hG : zG E p l s m args meth c cX5_item 6 RX5 (some .boolean) (zA Y s.heap.size)) {Q : Int32 → zS → Prop} : ∀ (t0 : Nat) (v2 : Int32) (t3 : Nat) (σ : zS), wX5_item_55 (zln Y) Q t0 v2 t3 σ → zT Y 5 t0 → zT Y 2 t3 → WW E Y σ p l e rX5_item s m args below meth c (zA Y s.heap.size) 6 0 0 (MQ below (va_Qi Q (zB E Y s.heap.size) (zA Y s.heap.size)) args s 0 0 (zA Y s.heap.size)) [(0, .ref (za Y t0)), (2, .int v2), (3, .ref (za Y t3))] 55 [] := by
  intro t0 v2 t3 σ hw h0 h3
  unfold wX5_item_55 at hw
  refine z_aload_n hG dX5_item_55 rfl 2 rfl ?_
  obtain ⟨j1, ej1, hw⟩ := hw
  refine z_getr (kq := 9) hG f_X5_154 h3 rfl ej1 rfl (by decide) dX5_item_56 (fun hj1 => ?_)
  refine z_calli hG (z_runV (As := []) (st := []) hG k_X5_132 (MX9_size l hj1 hw) ⟨(Nat.le_of_ble_eq_true rfl), (Nat.le_of_ble_eq_true rfl)⟩ hj1 (T := TX9) (N := 2) rfl (by decide) rfl (Nat.le_of_ble_eq_true rfl) dX5_item_59 ⟨Nat.zero_le _, Nat.zero_le _⟩ rfl) (fun r3 σ2 hw => ?_)
  refine z_aload_n hG dX5_item_62 rfl 0 rfl ?_
  obtain ⟨j4, ej4, hw⟩ := hw
  refine z_getr (kq := 10) hG f_X5_14 h0 rfl ej4 rfl (by decide) dX5_item_63 (fun hj4 => ?_)
  refine z_calli hG (z_runV (As := []) (st := [.int r3]) hG k_X5_159 (MX10_length l hj4 hw) ⟨(Nat.le_of_ble_eq_true rfl), (Nat.le_of_ble_eq_true rfl)⟩ hj4 (T := TX10) (N := 4) rfl (by decide) rfl (Nat.le_of_ble_eq_true rfl) dX5_item_66 ⟨Nat.zero_le _, Nat.zero_le _⟩ rfl) (fun r6 σ5 hw => ?_)
  refine z_iadd hG dX5_item_69 ?_
  refine z_bipush (v := 30) hG dX5_item_70 (by decide) ?_
  refine z_icmp_le (tgt := 77) hG dX5_item_72 (by decide) (fun c8 => ?_) (fun c8 => ?_)
  · have hw := hw.1 c8
    refine z_iconst (v := 0) hG dX5_item_77 (by decide) ?_
    refine z_istore (lv' := [(4, .int 0), (0, .ref (za Y t0)), (2, .int v2), (3, .ref (za Y t3))]) hG dX5_item_78 (by decide) rfl ?_
    obtain ⟨n7, hw⟩ := hw
    refine zpick [1, 2, 3, 0] (lv' := [(0, .ref (za Y t0)), (2, .int v2), (3, .ref (za Y t3)), (4, .int 0)]) rfl ?_
    exact BX5_item_80 hG n7 t0 v2 t3 0 σ5 hw h0 h3
  · have hw := hw.2 c8
    refine z_iconst (v := 0) hG dX5_item_75 (by decide) ?_
    exact z_iret hG rfl (by decide +kernel) dX5_item_76 hw
set_option maxRecDepth 100000 in
set_option maxHeartbeats 4000000 in
theorem MX5_item (l : Launch) {E : zE} {Y : zY} {σ : zS} {t0 : Nat} {t1 : Nat} {v2 : Int32} (h0 : zT Y 5 t0) (h1 : zT Y 0 t1) {Q : Int32 → zS → Prop} (hw : wX5_item (zln Y) σ t0 t1 v2 Q) : ∀ sz, Met l yX5_item (zw yX5_item cX5_item 6 (some .boolean)) rX5_item (zPc E Y σ sz [.ref (za Y t0), .ref (za Y t1), .int v2]) (va_Qi Q (zB E Y sz) (zA Y sz)) 0 0 (zA Y sz) := by
  refine z_met (own := RX5) (Qc := fun sz => va_Qi Q (zB E Y sz) (zA Y sz)) (by decide +kernel) rfl (Nat.le_of_ble_eq_true rfl) ?_
  intro p e s m args below meth c hG hinit
  unfold wX5_item at hw
  refine zlv (lv' := [(0, .ref (za Y t0)), (1, .ref (za Y t1)), (2, .int v2)]) rfl ?_
  refine z_aload_n hG dX5_item_0 rfl 0 rfl ?_
  obtain ⟨j1, ej1, hw⟩ := hw
  refine z_getr (kq := 10) hG f_X5_14 h0 rfl ej1 rfl (by decide) dX5_item_1 (fun hj1 => ?_)
  refine z_geti hG f_X5_32 hj1 rfl dX5_item_4 ?_
  refine z_iconst (v := 4) hG dX5_item_7 (by decide) ?_
  refine z_icmp_ne (tgt := 16) hG dX5_item_8 (by decide) (fun c13 => ?_) (fun c13 => ?_)
  · have hw := hw.2 c13
    refine z_aload_n hG dX5_item_16 rfl 1 rfl ?_
    refine z_aload_n hG dX5_item_17 rfl 1 rfl ?_
    refine z_geti hG f_X5_147 h1 rfl dX5_item_18 ?_
    refine z_iconst (v := 1) hG dX5_item_21 (by decide) ?_
    refine z_isub hG dX5_item_22 ?_
    refine z_topi (fun x2 ex2 => ?_)
    have hw := hw x2 ex2
    refine z_calle hG (z_runV (As := [.int x2]) (st := []) hG k_X5_150 (MX0_line l h1 hw) ⟨(Nat.le_of_ble_eq_true rfl), (Nat.le_of_ble_eq_true rfl)⟩ h1 (T := TX0) (N := 4) rfl (by decide) rfl (Nat.le_of_ble_eq_true rfl) dX5_item_23 ⟨Nat.zero_le _, Nat.zero_le _⟩ rfl) (fun σ3 hw => ?_) (fun j5 σ3 hj5 hw => ?_)
    · have hw := hw.1 rfl
      refine z_astoreN_n (lv' := [(3, .null), (0, .ref (za Y t0)), (1, .ref (za Y t1)), (2, .int v2)]) hG dX5_item_26 rfl (by decide) rfl ?_
      refine z_aloadN_n hG dX5_item_27 rfl 0 rfl ?_
      refine z_ifnull_yes (tgt := 53) hG dX5_item_28 (by decide) ?_
      refine z_iconst (v := 0) hG dX5_item_53 (by decide) ?_
      exact z_iret hG rfl (by decide +kernel) dX5_item_54 hw
    · have hw := hw.2 j5 rfl
      refine z_astore_n (lv' := [(3, .ref (za Y j5)), (0, .ref (za Y t0)), (1, .ref (za Y t1)), (2, .int v2)]) hG dX5_item_26 rfl (by decide) rfl ?_
      refine z_aload_n hG dX5_item_27 rfl 0 rfl ?_
      refine z_ifnull_no hG dX5_item_28 ?_
      refine z_aload_n hG dX5_item_31 rfl 1 rfl ?_
      obtain ⟨j6, ej6, hw⟩ := hw
      refine z_getr (kq := 10) hG f_X5_14 h0 rfl ej6 rfl (by decide) dX5_item_32 (fun hj6 => ?_)
      refine z_geti hG f_X5_32 hj6 rfl dX5_item_35 ?_
      refine z_iconst (v := 1) hG dX5_item_38 (by decide) ?_
      refine z_icmp_eq (tgt := 55) hG dX5_item_39 (by decide) (fun c9 => ?_) (fun c9 => ?_)
      · have hw := hw.1 c9
        refine zpick [1, 3, 0] (lv' := [(0, .ref (za Y t0)), (2, .int v2), (3, .ref (za Y j5))]) rfl ?_
        exact BX5_item_55 hG t0 v2 j5 σ3 hw h0 hj5
      · have hw := hw.2 c9
        refine z_aload_n hG dX5_item_42 rfl 1 rfl ?_
        obtain ⟨j7, ej7, hw⟩ := hw
        refine z_getr (kq := 10) hG f_X5_14 h0 rfl ej7 rfl (by decide) dX5_item_43 (fun hj7 => ?_)
        refine z_geti hG f_X5_32 hj7 rfl dX5_item_46 ?_
        refine z_iconst (v := 2) hG dX5_item_49 (by decide) ?_
        refine z_icmp_eq (tgt := 55) hG dX5_item_50 (by decide) (fun c8 => ?_) (fun c8 => ?_)
        · have hw := hw.1 c8
          refine zpick [1, 3, 0] (lv' := [(0, .ref (za Y t0)), (2, .int v2), (3, .ref (za Y j5))]) rfl ?_
          exact BX5_item_55 hG t0 v2 j5 σ3 hw h0 hj5
        · have hw := hw.2 c8
          refine z_iconst (v := 0) hG dX5_item_53 (by decide) ?_
          exact z_iret hG rfl (by decide +kernel) dX5_item_54 hw
  · have hw := hw.1 c13
    refine z_aload_n hG dX5_item_11 rfl 1 rfl ?_
    refine z_calli hG (z_runV (As := []) (st := []) hG k_X5_140 (MX0_addLine l h1 hw) ⟨(Nat.le_of_ble_eq_true rfl), (Nat.le_of_ble_eq_true rfl)⟩ h1 (T := TX0) (N := 4) rfl (by decide) rfl (Nat.le_of_ble_eq_true rfl) dX5_item_12 ⟨Nat.zero_le _, Nat.zero_le _⟩ rfl) (fun r11 σ10 hw => ?_)
    obtain ⟨q12, hw⟩ := hw
    exact z_iret hG rfl (zN_b q12).1 dX5_item_15 hw
-- TypeWheelTelegraph$Parser.message(LTypeWheelTelegraph$Plan;)Z
def wX5_message_83 (ln : Nat → Nat) (Q : Int32 → zS → Prop) (v3 : Int32) (σ : zS) : Prop := ((v3 ≤ 0 → Q 0 σ) ∧ (¬ v3 ≤ 0 → Q 1 σ))
def wX5_message_38 (ln : Nat → Nat) (Q : Int32 → zS → Prop) : Nat → Nat → Nat → Nat → Int32 → zS → Prop
  | 0, _, _, _, _, _ => False
  | n + 1, t0, t1, t2, v3, σ => ((600 ≤ v3 → wX5_message_83 ln Q v3 σ) ∧ (¬ 600 ≤ v3 → ∃ j1 : Nat, gr σ t0 0 = some j1 ∧ (((gi σ j1 0) = 3 → wX5_message_83 ln Q v3 σ) ∧ (¬ (gi σ j1 0) = 3 → ∀ x2 : Int32, x2 = gi σ t1 0 → wX5_item ln σ t0 t2 x2 (fun r4 σ3 => ((r4 = 0 → Q 0 σ3) ∧ (¬ r4 = 0 → ∀ x5 : Int32, x5 = v3 + 1 → ∃ j6 : Nat, gr σ3 t0 0 = some j6 ∧ wX10_take ln σ3 j6 (fun σ7 => (wX5_message_38 ln Q n) t0 t1 t2 x5 σ7))))))))
def wX5_message (ln : Nat → Nat) (σ : zS) (t0 : Nat) (t1 : Nat) (Q : Int32 → zS → Prop) : Prop := wX5_takeNumber ln σ t0 0 1 (fun r2 σ1 => ((r2 = 0 → Q 0 σ1) ∧ (¬ r2 = 0 → ∀ x3 : Int32, x3 = gi σ1 t0 2 → wX6_desk ln σ1 t1 x3 (fun r5 σ4 => wX0_addLine ln σ4 r5 (fun r7 σ6 => ((r7 = 0 → Q 0 σ6) ∧ (¬ r7 = 0 → ∃ j8 : Nat, gr σ6 t0 0 = some j8 ∧ wX10_take ln σ6 j8 (fun σ9 => ∃ n10 : Nat, wX5_message_38 ln Q n10 t0 t1 r5 0 σ9))))))))
abbrev rX5_message : Room := { frames := 3, cells := 0, slots := 0, locals := 67 }
set_option maxRecDepth 100000 in
set_option maxHeartbeats 4000000 in
theorem BX5_message_83 {l : Launch} {E : zE} {Y : zY} {p : Program} {e : Env} {s : State} {m : MethodId} {args : Array Value} {below : List Frame} {meth : Method} {c : Code} (hG : zG E p l s m args meth c cX5_message 4 RX5 (some .boolean) (zA Y s.heap.size)) {Q : Int32 → zS → Prop} : ∀ (v3 : Int32) (σ : zS), wX5_message_83 (zln Y) Q v3 σ → WW E Y σ p l e rX5_message s m args below meth c (zA Y s.heap.size) 4 0 0 (MQ below (va_Qi Q (zB E Y s.heap.size) (zA Y s.heap.size)) args s 0 0 (zA Y s.heap.size)) [(3, .int v3)] 83 [] := by
  intro v3 σ hw 
  unfold wX5_message_83 at hw
  refine z_iload_n hG dX5_message_83 rfl 0 rfl ?_
  refine z_if_le (tgt := 91) hG dX5_message_84 (by decide) (fun c1 => ?_) (fun c1 => ?_)
  · have hw := hw.1 c1
    refine z_iconst (v := 0) hG dX5_message_91 (by decide) ?_
    exact z_iret hG rfl (by decide +kernel) dX5_message_92 hw
  · have hw := hw.2 c1
    refine z_iconst (v := 1) hG dX5_message_87 (by decide) ?_
    refine z_goto (tgt := 92) hG dX5_message_88 (by decide) ?_
    exact z_iret hG rfl (by decide +kernel) dX5_message_92 hw
set_option maxRecDepth 100000 in
set_option maxHeartbeats 4000000 in
theorem BX5_message_38 {l : Launch} {E : zE} {Y : zY} {p : Program} {e : Env} {s : State} {m : MethodId} {args : Array Value} {below : List Frame} {meth : Method} {c : Code} (hG : zG E p l s m args meth c cX5_message 4 RX5 (some .boolean) (zA Y s.heap.size)) {Q : Int32 → zS → Prop} : ∀ (n : Nat) (t0 : Nat) (t1 : Nat) (t2 : Nat) (v3 : Int32) (σ : zS), wX5_message_38 (zln Y) Q n t0 t1 t2 v3 σ → zT Y 5 t0 → zT Y 6 t1 → zT Y 0 t2 → WW E Y σ p l e rX5_message s m args below meth c (zA Y s.heap.size) 4 0 0 (MQ below (va_Qi Q (zB E Y s.heap.size) (zA Y s.heap.size)) args s 0 0 (zA Y s.heap.size)) [(0, .ref (za Y t0)), (1, .ref (za Y t1)), (2, .ref (za Y t2)), (3, .int v3)] 38 [] := by
  intro n
  induction n with
  | zero => intro t0 t1 t2 v3 σ hw
            exact hw.elim
  | succ n ih =>
    intro t0 t1 t2 v3 σ hw h0 h1 h2
    rw [wX5_message_38] at hw
    refine z_iload_n hG dX5_message_38 rfl 3 rfl ?_
    refine z_sipush (v := 600) hG dX5_message_39 (by decide) ?_
    refine z_icmp_ge (tgt := 83) hG dX5_message_42 (by decide) (fun c10 => ?_) (fun c10 => ?_)
    · have hw := hw.1 c10
      refine zpick [3] (lv' := [(3, .int v3)]) rfl ?_
      exact BX5_message_83 hG v3 σ hw 
    · have hw := hw.2 c10
      refine z_aload_n hG dX5_message_45 rfl 0 rfl ?_
      obtain ⟨j1, ej1, hw⟩ := hw
      refine z_getr (kq := 10) hG f_X5_14 h0 rfl ej1 rfl (by decide) dX5_message_46 (fun hj1 => ?_)
      refine z_geti hG f_X5_32 hj1 rfl dX5_message_49 ?_
      refine z_iconst (v := 3) hG dX5_message_52 (by decide) ?_
      refine z_icmp_eq (tgt := 83) hG dX5_message_53 (by decide) (fun c9 => ?_) (fun c9 => ?_)
      · have hw := hw.1 c9
        refine zpick [3] (lv' := [(3, .int v3)]) rfl ?_
        exact BX5_message_83 hG v3 σ hw 
      · have hw := hw.2 c9
        refine z_aload_n hG dX5_message_56 rfl 0 rfl ?_
        refine z_aload_n hG dX5_message_57 rfl 2 rfl ?_
        refine z_aload_n hG dX5_message_58 rfl 1 rfl ?_
        refine z_geti hG f_X5_49 h1 rfl dX5_message_59 ?_
        refine z_topi (fun x2 ex2 => ?_)
        have hw := hw x2 ex2
        refine z_calli hG (z_runV (As := [.ref (za Y t2), .int x2]) (st := []) hG k_X5_143 (MX5_item l h0 h2 hw) ⟨(Nat.le_of_ble_eq_true rfl), (Nat.le_of_ble_eq_true rfl)⟩ h0 (T := TX5) (N := 3) rfl (by decide) rfl (Nat.le_of_ble_eq_true rfl) dX5_message_62 ⟨Nat.zero_le _, Nat.zero_le _⟩ rfl) (fun r4 σ3 hw => ?_)
        refine z_if_ne (tgt := 70) hG dX5_message_65 (by decide) (fun c8 => ?_) (fun c8 => ?_)
        · have hw := hw.2 c8
          obtain ⟨x5, ex5⟩ : ∃ y : Int32, y = v3 + 1 := ⟨_, rfl⟩
          have hw := hw x5 ex5
          refine z_iinc (v := x5) (lv' := [(3, .int x5), (0, .ref (za Y t0)), (1, .ref (za Y t1)), (2, .ref (za Y t2))]) hG dX5_message_70 3 rfl (by rw [ex5]; rfl) (by decide) rfl ?_
          refine z_aload_n hG dX5_message_73 rfl 1 rfl ?_
          obtain ⟨j6, ej6, hw⟩ := hw
          refine z_getr (kq := 10) hG f_X5_14 h0 rfl ej6 rfl (by decide) dX5_message_74 (fun hj6 => ?_)
          refine z_callv hG (z_runV (As := []) (st := []) hG k_X5_42 (MX10_take l hj6 hw) ⟨(Nat.le_of_ble_eq_true rfl), (Nat.le_of_ble_eq_true rfl)⟩ hj6 (T := TX10) (N := 4) rfl (by decide) rfl (Nat.le_of_ble_eq_true rfl) dX5_message_77 ⟨Nat.zero_le _, Nat.zero_le _⟩ rfl) (fun σ7 hw => ?_)
          refine z_goto (tgt := 38) hG dX5_message_80 (by decide) ?_
          refine zpick [1, 2, 3, 0] (lv' := [(0, .ref (za Y t0)), (1, .ref (za Y t1)), (2, .ref (za Y t2)), (3, .int x5)]) rfl ?_
          exact ih t0 t1 t2 x5 σ7 hw h0 h1 h2
        · have hw := hw.1 c8
          refine z_iconst (v := 0) hG dX5_message_68 (by decide) ?_
          exact z_iret hG rfl (by decide +kernel) dX5_message_69 hw
set_option maxRecDepth 100000 in
set_option maxHeartbeats 4000000 in
theorem MX5_message (l : Launch) {E : zE} {Y : zY} {σ : zS} {t0 : Nat} {t1 : Nat} (h0 : zT Y 5 t0) (h1 : zT Y 6 t1) {Q : Int32 → zS → Prop} (hw : wX5_message (zln Y) σ t0 t1 Q) : ∀ sz, Met l yX5_message (zw yX5_message cX5_message 4 (some .boolean)) rX5_message (zPc E Y σ sz [.ref (za Y t0), .ref (za Y t1)]) (va_Qi Q (zB E Y sz) (zA Y sz)) 0 0 (zA Y sz) := by
  refine z_met (own := RX5) (Qc := fun sz => va_Qi Q (zB E Y sz) (zA Y sz)) (by decide +kernel) rfl (Nat.le_of_ble_eq_true rfl) ?_
  intro p e s m args below meth c hG hinit
  unfold wX5_message at hw
  refine zlv (lv' := [(0, .ref (za Y t0)), (1, .ref (za Y t1))]) rfl ?_
  refine z_aload_n hG dX5_message_0 rfl 0 rfl ?_
  refine z_iconst (v := 0) hG dX5_message_1 (by decide) ?_
  refine z_iconst (v := 1) hG dX5_message_2 (by decide) ?_
  refine z_calli hG (z_runV (As := [.int 0, .int 1]) (st := []) hG k_X5_90 (MX5_takeNumber l h0 hw) ⟨(Nat.le_of_ble_eq_true rfl), (Nat.le_of_ble_eq_true rfl)⟩ h0 (T := TX5) (N := 3) rfl (by decide) rfl (Nat.le_of_ble_eq_true rfl) dX5_message_3 ⟨Nat.zero_le _, Nat.zero_le _⟩ rfl) (fun r2 σ1 hw => ?_)
  refine z_if_ne (tgt := 11) hG dX5_message_6 (by decide) (fun c12 => ?_) (fun c12 => ?_)
  · have hw := hw.2 c12
    refine z_aload_n hG dX5_message_11 rfl 1 rfl ?_
    refine z_aload_n hG dX5_message_12 rfl 0 rfl ?_
    refine z_geti hG f_X5_94 h0 rfl dX5_message_13 ?_
    refine z_topi (fun x3 ex3 => ?_)
    have hw := hw x3 ex3
    refine z_callr hG (z_runV (As := [.int x3]) (st := []) hG k_X5_118 (MX6_desk l h1 hw) ⟨(Nat.le_of_ble_eq_true rfl), (Nat.le_of_ble_eq_true rfl)⟩ h1 (T := TX6) (N := 8) rfl (by decide) rfl (Nat.le_of_ble_eq_true rfl) dX5_message_16 ⟨Nat.zero_le _, Nat.zero_le _⟩ rfl) (fun r5 σ4 hr5 hw => ?_)
    refine z_astore_n (lv' := [(2, .ref (za Y r5)), (0, .ref (za Y t0)), (1, .ref (za Y t1))]) hG dX5_message_19 rfl (by decide) rfl ?_
    refine z_aload_n hG dX5_message_20 rfl 0 rfl ?_
    refine z_calli hG (z_runV (As := []) (st := []) hG k_X5_140 (MX0_addLine l hr5 hw) ⟨(Nat.le_of_ble_eq_true rfl), (Nat.le_of_ble_eq_true rfl)⟩ hr5 (T := TX0) (N := 4) rfl (by decide) rfl (Nat.le_of_ble_eq_true rfl) dX5_message_21 ⟨Nat.zero_le _, Nat.zero_le _⟩ rfl) (fun r7 σ6 hw => ?_)
    refine z_if_ne (tgt := 29) hG dX5_message_24 (by decide) (fun c11 => ?_) (fun c11 => ?_)
    · have hw := hw.2 c11
      refine z_iconst (v := 0) hG dX5_message_29 (by decide) ?_
      refine z_istore_n (lv' := [(3, .int 0), (2, .ref (za Y r5)), (0, .ref (za Y t0)), (1, .ref (za Y t1))]) hG dX5_message_30 rfl (by decide) rfl ?_
      refine z_aload_n hG dX5_message_31 rfl 2 rfl ?_
      obtain ⟨j8, ej8, hw⟩ := hw
      refine z_getr (kq := 10) hG f_X5_14 h0 rfl ej8 rfl (by decide) dX5_message_32 (fun hj8 => ?_)
      refine z_callv hG (z_runV (As := []) (st := []) hG k_X5_42 (MX10_take l hj8 hw) ⟨(Nat.le_of_ble_eq_true rfl), (Nat.le_of_ble_eq_true rfl)⟩ hj8 (T := TX10) (N := 4) rfl (by decide) rfl (Nat.le_of_ble_eq_true rfl) dX5_message_35 ⟨Nat.zero_le _, Nat.zero_le _⟩ rfl) (fun σ9 hw => ?_)
      obtain ⟨n10, hw⟩ := hw
      refine zpick [2, 3, 1, 0] (lv' := [(0, .ref (za Y t0)), (1, .ref (za Y t1)), (2, .ref (za Y r5)), (3, .int 0)]) rfl ?_
      exact BX5_message_38 hG n10 t0 t1 r5 0 σ9 hw h0 h1 hr5
    · have hw := hw.1 c11
      refine z_iconst (v := 0) hG dX5_message_27 (by decide) ?_
      exact z_iret hG rfl (by decide +kernel) dX5_message_28 hw
  · have hw := hw.1 c12
    refine z_iconst (v := 0) hG dX5_message_9 (by decide) ?_
    exact z_iret hG rfl (by decide +kernel) dX5_message_10 hw
-- TypeWheelTelegraph$Parser.wheel(LTypeWheelTelegraph$Plan;)Z
def wX5_wheel (ln : Nat → Nat) (σ : zS) (t0 : Nat) (t1 : Nat) (Q : Int32 → zS → Prop) : Prop := wX5_takeNumber ln σ t0 6 28 (fun r2 σ1 => ((r2 = 0 → Q 0 σ1) ∧ (¬ r2 = 0 → ∀ x3 : Int32, x3 = gi σ1 t0 2 → ∀ σ4 : zS, σ4 = si σ1 t1 0 x3 → Q 1 σ4)))
abbrev rX5_wheel : Room := { frames := 3, cells := 0, slots := 0, locals := 65 }
set_option maxRecDepth 100000 in
set_option maxHeartbeats 4000000 in
theorem MX5_wheel (l : Launch) {E : zE} {Y : zY} {σ : zS} {t0 : Nat} {t1 : Nat} (h0 : zT Y 5 t0) (h1 : zT Y 6 t1) {Q : Int32 → zS → Prop} (hw : wX5_wheel (zln Y) σ t0 t1 Q) : ∀ sz, Met l yX5_wheel (zw yX5_wheel cX5_wheel 2 (some .boolean)) rX5_wheel (zPc E Y σ sz [.ref (za Y t0), .ref (za Y t1)]) (va_Qi Q (zB E Y sz) (zA Y sz)) 0 0 (zA Y sz) := by
  refine z_met (own := RX5) (Qc := fun sz => va_Qi Q (zB E Y sz) (zA Y sz)) (by decide +kernel) rfl (Nat.le_of_ble_eq_true rfl) ?_
  intro p e s m args below meth c hG hinit
  unfold wX5_wheel at hw
  refine zlv (lv' := [(0, .ref (za Y t0)), (1, .ref (za Y t1))]) rfl ?_
  refine z_aload_n hG dX5_wheel_0 rfl 0 rfl ?_
  refine z_bipush (v := 6) hG dX5_wheel_1 (by decide) ?_
  refine z_bipush (v := 28) hG dX5_wheel_3 (by decide) ?_
  refine z_calli hG (z_runV (As := [.int 6, .int 28]) (st := []) hG k_X5_90 (MX5_takeNumber l h0 hw) ⟨(Nat.le_of_ble_eq_true rfl), (Nat.le_of_ble_eq_true rfl)⟩ h0 (T := TX5) (N := 3) rfl (by decide) rfl (Nat.le_of_ble_eq_true rfl) dX5_wheel_5 ⟨Nat.zero_le _, Nat.zero_le _⟩ rfl) (fun r2 σ1 hw => ?_)
  refine z_if_ne (tgt := 13) hG dX5_wheel_8 (by decide) (fun c5 => ?_) (fun c5 => ?_)
  · have hw := hw.2 c5
    refine z_aload_n hG dX5_wheel_13 rfl 1 rfl ?_
    refine z_aload_n hG dX5_wheel_14 rfl 0 rfl ?_
    refine z_geti hG f_X5_94 h0 rfl dX5_wheel_15 ?_
    refine z_topi (fun x3 ex3 => ?_)
    have hw := hw x3 ex3
    refine z_puti hG f_X5_49 h1 rfl rfl (zN_int _) dX5_wheel_18 ?_
    refine z_topσ (fun σ4 eσ4 => ?_)
    have hw := hw σ4 eσ4
    refine z_iconst (v := 1) hG dX5_wheel_21 (by decide) ?_
    exact z_iret hG rfl (by decide +kernel) dX5_wheel_22 hw
  · have hw := hw.1 c5
    refine z_iconst (v := 0) hG dX5_wheel_11 (by decide) ?_
    exact z_iret hG rfl (by decide +kernel) dX5_wheel_12 hw
-- TypeWheelTelegraph$Plan.circle()I
def wX6_circle (ln : Nat → Nat) (σ : zS) (t0 : Nat) (Q : Int32 → zS → Prop) : Prop := Q (1000 * (gi σ t0 0)) σ
abbrev rX6_circle : Room := { frames := 0, cells := 0, slots := 0, locals := 0 }
set_option maxRecDepth 100000 in
set_option maxHeartbeats 4000000 in
theorem MX6_circle (l : Launch) {E : zE} {Y : zY} {σ : zS} {t0 : Nat} (h0 : zT Y 6 t0) {Q : Int32 → zS → Prop} (hw : wX6_circle (zln Y) σ t0 Q) : ∀ sz, Met l yX6_circle (zw yX6_circle cX6_circle 1 (some .int)) rX6_circle (zPc E Y σ sz [.ref (za Y t0)]) (va_Qi Q (zB E Y sz) (zA Y sz)) 0 0 (zA Y sz) := by
  refine z_met (own := RX6) (Qc := fun sz => va_Qi Q (zB E Y sz) (zA Y sz)) (by decide +kernel) rfl (Nat.le_of_ble_eq_true rfl) ?_
  intro p e s m args below meth c hG hinit
  unfold wX6_circle at hw
  refine zlv (lv' := [(0, .ref (za Y t0))]) rfl ?_
  refine z_sipush (v := 1000) hG dX6_circle_0 (by decide) ?_
  refine z_aload_n hG dX6_circle_3 rfl 0 rfl ?_
  refine z_geti hG f_X6_33 h0 rfl dX6_circle_4 ?_
  refine z_imul hG dX6_circle_7 ?_
  exact z_iret hG rfl rfl dX6_circle_8 hw
-- TypeWheelTelegraph$Parser.office(LTypeWheelTelegraph$Plan;)Z
def wX5_office (ln : Nat → Nat) (σ : zS) (t0 : Nat) (t1 : Nat) (Q : Int32 → zS → Prop) : Prop := ((2 ≤ (gi σ t0 1) → Q 0 σ) ∧ (¬ 2 ≤ (gi σ t0 1) → wX6_circle ln σ t1 (fun r2 σ1 => ∀ x3 : Int32, x3 = r2 - 1 → wX5_takeNumber ln σ1 t0 0 x3 (fun r5 σ4 => ((r5 = 0 → Q 0 σ4) ∧ (¬ r5 = 0 → ∀ x6 : Int32, x6 = gi σ4 t0 1 → wX6_desk ln σ4 t1 x6 (fun r8 σ7 => ∀ x9 : Int32, x9 = gi σ7 t0 2 → ∀ σ10 : zS, σ10 = si σ7 r8 0 x9 → wX5_takeNumber ln σ10 t0 10 999 (fun r12 σ11 => ((r12 = 0 → Q 0 σ11) ∧ (¬ r12 = 0 → ∀ x13 : Int32, x13 = gi σ11 t0 2 → ∀ σ14 : zS, σ14 = si σ11 r8 1 x13 → ∀ x15 : Int32, x15 = (gi σ14 t0 1) + 1 → ∀ σ16 : zS, σ16 = si σ14 t0 1 x15 → Q 1 σ16))))))))))
abbrev rX5_office : Room := { frames := 3, cells := 0, slots := 0, locals := 65 }
set_option maxRecDepth 100000 in
set_option maxHeartbeats 4000000 in
theorem MX5_office (l : Launch) {E : zE} {Y : zY} {σ : zS} {t0 : Nat} {t1 : Nat} (h0 : zT Y 5 t0) (h1 : zT Y 6 t1) {Q : Int32 → zS → Prop} (hw : wX5_office (zln Y) σ t0 t1 Q) : ∀ sz, Met l yX5_office (zw yX5_office cX5_office 3 (some .boolean)) rX5_office (zPc E Y σ sz [.ref (za Y t0), .ref (za Y t1)]) (va_Qi Q (zB E Y sz) (zA Y sz)) 0 0 (zA Y sz) := by
  refine z_met (own := RX5) (Qc := fun sz => va_Qi Q (zB E Y sz) (zA Y sz)) (by decide +kernel) rfl (Nat.le_of_ble_eq_true rfl) ?_
  intro p e s m args below meth c hG hinit
  unfold wX5_office at hw
  refine zlv (lv' := [(0, .ref (za Y t0)), (1, .ref (za Y t1))]) rfl ?_
  refine z_aload_n hG dX5_office_0 rfl 0 rfl ?_
  refine z_geti hG f_X5_25 h0 rfl dX5_office_1 ?_
  refine z_iconst (v := 2) hG dX5_office_4 (by decide) ?_
  refine z_icmp_ge (tgt := 22) hG dX5_office_5 (by decide) (fun c19 => ?_) (fun c19 => ?_)
  · have hw := hw.1 c19
    refine z_iconst (v := 0) hG dX5_office_22 (by decide) ?_
    exact z_iret hG rfl (by decide +kernel) dX5_office_23 hw
  · have hw := hw.2 c19
    refine z_aload_n hG dX5_office_8 rfl 0 rfl ?_
    refine z_iconst (v := 0) hG dX5_office_9 (by decide) ?_
    refine z_aload_n hG dX5_office_10 rfl 1 rfl ?_
    refine z_calli hG (z_runV (As := []) (st := [.int 0, .ref (za Y t0)]) hG k_X5_114 (MX6_circle l h1 hw) ⟨(Nat.le_of_ble_eq_true rfl), (Nat.le_of_ble_eq_true rfl)⟩ h1 (T := TX6) (N := 8) rfl (by decide) rfl (Nat.le_of_ble_eq_true rfl) dX5_office_11 ⟨Nat.zero_le _, Nat.zero_le _⟩ rfl) (fun r2 σ1 hw => ?_)
    refine z_iconst (v := 1) hG dX5_office_14 (by decide) ?_
    refine z_isub hG dX5_office_15 ?_
    refine z_topi (fun x3 ex3 => ?_)
    have hw := hw x3 ex3
    refine z_calli hG (z_runV (As := [.int 0, .int x3]) (st := []) hG k_X5_90 (MX5_takeNumber l h0 hw) ⟨(Nat.le_of_ble_eq_true rfl), (Nat.le_of_ble_eq_true rfl)⟩ h0 (T := TX5) (N := 3) rfl (by decide) rfl (Nat.le_of_ble_eq_true rfl) dX5_office_16 ⟨Nat.zero_le _, Nat.zero_le _⟩ rfl) (fun r5 σ4 hw => ?_)
    refine z_if_ne (tgt := 24) hG dX5_office_19 (by decide) (fun c18 => ?_) (fun c18 => ?_)
    · have hw := hw.2 c18
      refine z_aload_n hG dX5_office_24 rfl 1 rfl ?_
      refine z_aload_n hG dX5_office_25 rfl 0 rfl ?_
      refine z_geti hG f_X5_25 h0 rfl dX5_office_26 ?_
      refine z_topi (fun x6 ex6 => ?_)
      have hw := hw x6 ex6
      refine z_callr hG (z_runV (As := [.int x6]) (st := []) hG k_X5_118 (MX6_desk l h1 hw) ⟨(Nat.le_of_ble_eq_true rfl), (Nat.le_of_ble_eq_true rfl)⟩ h1 (T := TX6) (N := 8) rfl (by decide) rfl (Nat.le_of_ble_eq_true rfl) dX5_office_29 ⟨Nat.zero_le _, Nat.zero_le _⟩ rfl) (fun r8 σ7 hr8 hw => ?_)
      refine z_astore_n (lv' := [(2, .ref (za Y r8)), (0, .ref (za Y t0)), (1, .ref (za Y t1))]) hG dX5_office_32 rfl (by decide) rfl ?_
      refine z_aload_n hG dX5_office_33 rfl 0 rfl ?_
      refine z_aload_n hG dX5_office_34 rfl 1 rfl ?_
      refine z_geti hG f_X5_94 h0 rfl dX5_office_35 ?_
      refine z_topi (fun x9 ex9 => ?_)
      have hw := hw x9 ex9
      refine z_puti hG f_X5_122 hr8 rfl rfl (zN_int _) dX5_office_38 ?_
      refine z_topσ (fun σ10 eσ10 => ?_)
      have hw := hw σ10 eσ10
      refine z_aload_n hG dX5_office_41 rfl 1 rfl ?_
      refine z_bipush (v := 10) hG dX5_office_42 (by decide) ?_
      refine z_sipush (v := 999) hG dX5_office_44 (by decide) ?_
      refine z_calli hG (z_runV (As := [.int 10, .int 999]) (st := []) hG k_X5_90 (MX5_takeNumber l h0 hw) ⟨(Nat.le_of_ble_eq_true rfl), (Nat.le_of_ble_eq_true rfl)⟩ h0 (T := TX5) (N := 3) rfl (by decide) rfl (Nat.le_of_ble_eq_true rfl) dX5_office_47 ⟨Nat.zero_le _, Nat.zero_le _⟩ rfl) (fun r12 σ11 hw => ?_)
      refine z_if_ne (tgt := 55) hG dX5_office_50 (by decide) (fun c17 => ?_) (fun c17 => ?_)
      · have hw := hw.2 c17
        refine z_aload_n hG dX5_office_55 rfl 0 rfl ?_
        refine z_aload_n hG dX5_office_56 rfl 1 rfl ?_
        refine z_geti hG f_X5_94 h0 rfl dX5_office_57 ?_
        refine z_topi (fun x13 ex13 => ?_)
        have hw := hw x13 ex13
        refine z_puti hG f_X5_125 hr8 rfl rfl (zN_int _) dX5_office_60 ?_
        refine z_topσ (fun σ14 eσ14 => ?_)
        have hw := hw σ14 eσ14
        refine z_aload_n hG dX5_office_63 rfl 1 rfl ?_
        refine z_dup hG dX5_office_64 rfl ?_
        refine z_geti hG f_X5_25 h0 rfl dX5_office_65 ?_
        refine z_iconst (v := 1) hG dX5_office_68 (by decide) ?_
        refine z_iadd hG dX5_office_69 ?_
        refine z_topi (fun x15 ex15 => ?_)
        have hw := hw x15 ex15
        refine z_puti hG f_X5_25 h0 rfl rfl (zN_int _) dX5_office_70 ?_
        refine z_topσ (fun σ16 eσ16 => ?_)
        have hw := hw σ16 eσ16
        refine z_iconst (v := 1) hG dX5_office_73 (by decide) ?_
        exact z_iret hG rfl (by decide +kernel) dX5_office_74 hw
      · have hw := hw.1 c17
        refine z_iconst (v := 0) hG dX5_office_53 (by decide) ?_
        exact z_iret hG rfl (by decide +kernel) dX5_office_54 hw
    · have hw := hw.1 c18
      refine z_iconst (v := 0) hG dX5_office_22 (by decide) ?_
      exact z_iret hG rfl (by decide +kernel) dX5_office_23 hw
-- TypeWheelTelegraph$Parser.loss(LTypeWheelTelegraph$Plan;)Z
def wX5_loss (ln : Nat → Nat) (σ : zS) (t0 : Nat) (t1 : Nat) (Q : Int32 → zS → Prop) : Prop := ∃ j1 : Nat, gr σ t1 5 = some j1 ∧ wX9_size ln σ j1 (fun r3 σ2 => ((20 ≤ r3 → Q 0 σ2) ∧ (¬ 20 ≤ r3 → wX5_takeNumber ln σ2 t0 1 9999 (fun r5 σ4 => ((r5 = 0 → Q 0 σ4) ∧ (¬ r5 = 0 → ∃ j6 : Nat, gr σ4 t1 5 = some j6 ∧ ∀ x7 : Int32, x7 = gi σ4 t0 2 → wX9_add ln σ4 j6 x7 (fun σ8 => Q 1 σ8)))))))
abbrev rX5_loss : Room := { frames := 3, cells := 0, slots := 0, locals := 65 }
set_option maxRecDepth 100000 in
set_option maxHeartbeats 4000000 in
theorem MX5_loss (l : Launch) {E : zE} {Y : zY} {σ : zS} {t0 : Nat} {t1 : Nat} (h0 : zT Y 5 t0) (h1 : zT Y 6 t1) {Q : Int32 → zS → Prop} (hw : wX5_loss (zln Y) σ t0 t1 Q) : ∀ sz, Met l yX5_loss (zw yX5_loss cX5_loss 2 (some .boolean)) rX5_loss (zPc E Y σ sz [.ref (za Y t0), .ref (za Y t1)]) (va_Qi Q (zB E Y sz) (zA Y sz)) 0 0 (zA Y sz) := by
  refine z_met (own := RX5) (Qc := fun sz => va_Qi Q (zB E Y sz) (zA Y sz)) (by decide +kernel) rfl (Nat.le_of_ble_eq_true rfl) ?_
  intro p e s m args below meth c hG hinit
  unfold wX5_loss at hw
  refine zlv (lv' := [(0, .ref (za Y t0)), (1, .ref (za Y t1))]) rfl ?_
  refine z_aload_n hG dX5_loss_0 rfl 1 rfl ?_
  obtain ⟨j1, ej1, hw⟩ := hw
  refine z_getr (kq := 9) hG f_X5_128 h1 rfl ej1 rfl (by decide) dX5_loss_1 (fun hj1 => ?_)
  refine z_calli hG (z_runV (As := []) (st := []) hG k_X5_132 (MX9_size l hj1 hw) ⟨(Nat.le_of_ble_eq_true rfl), (Nat.le_of_ble_eq_true rfl)⟩ hj1 (T := TX9) (N := 2) rfl (by decide) rfl (Nat.le_of_ble_eq_true rfl) dX5_loss_4 ⟨Nat.zero_le _, Nat.zero_le _⟩ rfl) (fun r3 σ2 hw => ?_)
  refine z_bipush (v := 20) hG dX5_loss_7 (by decide) ?_
  refine z_icmp_ge (tgt := 23) hG dX5_loss_9 (by decide) (fun c10 => ?_) (fun c10 => ?_)
  · have hw := hw.1 c10
    refine z_iconst (v := 0) hG dX5_loss_23 (by decide) ?_
    exact z_iret hG rfl (by decide +kernel) dX5_loss_24 hw
  · have hw := hw.2 c10
    refine z_aload_n hG dX5_loss_12 rfl 0 rfl ?_
    refine z_iconst (v := 1) hG dX5_loss_13 (by decide) ?_
    refine z_sipush (v := 9999) hG dX5_loss_14 (by decide) ?_
    refine z_calli hG (z_runV (As := [.int 1, .int 9999]) (st := []) hG k_X5_90 (MX5_takeNumber l h0 hw) ⟨(Nat.le_of_ble_eq_true rfl), (Nat.le_of_ble_eq_true rfl)⟩ h0 (T := TX5) (N := 3) rfl (by decide) rfl (Nat.le_of_ble_eq_true rfl) dX5_loss_17 ⟨Nat.zero_le _, Nat.zero_le _⟩ rfl) (fun r5 σ4 hw => ?_)
    refine z_if_ne (tgt := 25) hG dX5_loss_20 (by decide) (fun c9 => ?_) (fun c9 => ?_)
    · have hw := hw.2 c9
      refine z_aload_n hG dX5_loss_25 rfl 1 rfl ?_
      obtain ⟨j6, ej6, hw⟩ := hw
      refine z_getr (kq := 9) hG f_X5_128 h1 rfl ej6 rfl (by decide) dX5_loss_26 (fun hj6 => ?_)
      refine z_aload_n hG dX5_loss_29 rfl 0 rfl ?_
      refine z_geti hG f_X5_94 h0 rfl dX5_loss_30 ?_
      refine z_topi (fun x7 ex7 => ?_)
      have hw := hw x7 ex7
      refine z_callv hG (z_runV (As := [.int x7]) (st := []) hG k_X5_137 (MX9_add l hj6 hw) ⟨(Nat.le_of_ble_eq_true rfl), (Nat.le_of_ble_eq_true rfl)⟩ hj6 (T := TX9) (N := 2) rfl (by decide) rfl (Nat.le_of_ble_eq_true rfl) dX5_loss_33 ⟨Nat.zero_le _, Nat.zero_le _⟩ rfl) (fun σ8 hw => ?_)
      refine z_iconst (v := 1) hG dX5_loss_36 (by decide) ?_
      exact z_iret hG rfl (by decide +kernel) dX5_loss_37 hw
    · have hw := hw.1 c9
      refine z_iconst (v := 0) hG dX5_loss_23 (by decide) ?_
      exact z_iret hG rfl (by decide +kernel) dX5_loss_24 hw
-- TypeWheelTelegraph$Parser.setting(LTypeWheelTelegraph$Plan;)Z
def wX5_setting (ln : Nat → Nat) (σ : zS) (t0 : Nat) (t1 : Nat) (Q : Int32 → zS → Prop) : Prop := ∃ j1 : Nat, gr σ t0 0 = some j1 ∧ wX10_isWord ln σ j1 8 (fun r4 σ3 => ((r4 = 0 → ∃ j5 : Nat, gr σ3 t0 0 = some j5 ∧ wX10_isWord ln σ3 j5 9 (fun r8 σ7 => ((r8 = 0 → ∃ j9 : Nat, gr σ7 t0 0 = some j9 ∧ wX10_isWord ln σ7 j9 10 (fun r12 σ11 => ((r12 = 0 → ∃ j13 : Nat, gr σ11 t0 0 = some j13 ∧ wX10_isWord ln σ11 j13 11 (fun r16 σ15 => ((r16 = 0 → Q 0 σ15) ∧ (¬ r16 = 0 → wX5_takeNumber ln σ15 t0 0 9 (fun r18 σ17 => ∀ x19 : Int32, x19 = gi σ17 t0 2 → ∀ σ20 : zS, σ20 = si σ17 t1 4 x19 → zB1 r18 ∧ Q r18 σ20))))) ∧ (¬ r12 = 0 → wX5_takeNumber ln σ11 t0 1 5000 (fun r24 σ23 => ∀ x25 : Int32, x25 = gi σ23 t0 2 → ∀ σ26 : zS, σ26 = si σ23 t1 3 x25 → zB1 r24 ∧ Q r24 σ26))))) ∧ (¬ r8 = 0 → wX5_takeNumber ln σ7 t0 0 500 (fun r30 σ29 => ∀ x31 : Int32, x31 = gi σ29 t0 2 → ∀ σ32 : zS, σ32 = si σ29 t1 2 x31 → zB1 r30 ∧ Q r30 σ32))))) ∧ (¬ r4 = 0 → wX5_takeNumber ln σ3 t0 1 50 (fun r36 σ35 => ∀ x37 : Int32, x37 = gi σ35 t0 2 → ∀ σ38 : zS, σ38 = si σ35 t1 1 x37 → zB1 r36 ∧ Q r36 σ38))))
abbrev rX5_setting : Room := { frames := 5, cells := 0, slots := 0, locals := 107 }
set_option maxRecDepth 100000 in
set_option maxHeartbeats 4000000 in
theorem MX5_setting (l : Launch) {E : zE} {Y : zY} {σ : zS} {t0 : Nat} {t1 : Nat} (h0 : zT Y 5 t0) (h1 : zT Y 6 t1) {Q : Int32 → zS → Prop} (hw : wX5_setting (zln Y) σ t0 t1 Q) : ∀ sz, Met l yX5_setting (zw yX5_setting cX5_setting 3 (some .boolean)) rX5_setting (zPc E Y σ sz [.ref (za Y t0), .ref (za Y t1)]) (va_Qi Q (zB E Y sz) (zA Y sz)) 0 0 (zA Y sz) := by
  refine z_met (own := RX5) (Qc := fun sz => va_Qi Q (zB E Y sz) (zA Y sz)) (by decide +kernel) rfl (Nat.le_of_ble_eq_true rfl) ?_
  intro p e s m args below meth c hG hinit
  unfold wX5_setting at hw
  refine zlv (lv' := [(0, .ref (za Y t0)), (1, .ref (za Y t1))]) rfl ?_
  refine z_iconst (v := 0) hG dX5_setting_0 (by decide) ?_
  refine z_istore_n (lv' := [(2, .int 0), (0, .ref (za Y t0)), (1, .ref (za Y t1))]) hG dX5_setting_1 rfl (by decide) rfl ?_
  refine z_aload_n hG dX5_setting_2 rfl 1 rfl ?_
  obtain ⟨j1, ej1, hw⟩ := hw
  refine z_getr (kq := 10) hG f_X5_14 h0 rfl ej1 rfl (by decide) dX5_setting_3 (fun hj1 => ?_)
  refine z_ldcs (i := 8) (tx := "delay") hG (by decide +kernel) dX5_setting_6 ?_
  have hq2 : 8 < zS_n := by decide
  refine z_calli hG (z_runV (As := [.ref (E.2.2.1 8)]) (st := []) hG k_X5_63 (MX10_isWord l hj1 hq2 hw) ⟨(Nat.le_of_ble_eq_true rfl), (Nat.le_of_ble_eq_true rfl)⟩ hj1 (T := TX10) (N := 4) rfl (by decide) rfl (Nat.le_of_ble_eq_true rfl) dX5_setting_8 ⟨Nat.zero_le _, Nat.zero_le _⟩ rfl) (fun r4 σ3 hw => ?_)
  refine z_if_eq (tgt := 33) hG dX5_setting_11 (by decide) (fun c40 => ?_) (fun c40 => ?_)
  · have hw := hw.1 c40
    refine z_aload_n hG dX5_setting_33 rfl 1 rfl ?_
    obtain ⟨j5, ej5, hw⟩ := hw
    refine z_getr (kq := 10) hG f_X5_14 h0 rfl ej5 rfl (by decide) dX5_setting_34 (fun hj5 => ?_)
    refine z_ldcs (i := 9) (tx := "correct") hG (by decide +kernel) dX5_setting_37 ?_
    have hq6 : 9 < zS_n := by decide
    refine z_calli hG (z_runV (As := [.ref (E.2.2.1 9)]) (st := []) hG k_X5_63 (MX10_isWord l hj5 hq6 hw) ⟨(Nat.le_of_ble_eq_true rfl), (Nat.le_of_ble_eq_true rfl)⟩ hj5 (T := TX10) (N := 4) rfl (by decide) rfl (Nat.le_of_ble_eq_true rfl) dX5_setting_39 ⟨Nat.zero_le _, Nat.zero_le _⟩ rfl) (fun r8 σ7 hw => ?_)
    refine z_if_eq (tgt := 65) hG dX5_setting_42 (by decide) (fun c34 => ?_) (fun c34 => ?_)
    · have hw := hw.1 c34
      refine z_aload_n hG dX5_setting_65 rfl 1 rfl ?_
      obtain ⟨j9, ej9, hw⟩ := hw
      refine z_getr (kq := 10) hG f_X5_14 h0 rfl ej9 rfl (by decide) dX5_setting_66 (fun hj9 => ?_)
      refine z_ldcs (i := 10) (tx := "guard") hG (by decide +kernel) dX5_setting_69 ?_
      have hq10 : 10 < zS_n := by decide
      refine z_calli hG (z_runV (As := [.ref (E.2.2.1 10)]) (st := []) hG k_X5_63 (MX10_isWord l hj9 hq10 hw) ⟨(Nat.le_of_ble_eq_true rfl), (Nat.le_of_ble_eq_true rfl)⟩ hj9 (T := TX10) (N := 4) rfl (by decide) rfl (Nat.le_of_ble_eq_true rfl) dX5_setting_71 ⟨Nat.zero_le _, Nat.zero_le _⟩ rfl) (fun r12 σ11 hw => ?_)
      refine z_if_eq (tgt := 97) hG dX5_setting_74 (by decide) (fun c28 => ?_) (fun c28 => ?_)
      · have hw := hw.1 c28
        refine z_aload_n hG dX5_setting_97 rfl 1 rfl ?_
        obtain ⟨j13, ej13, hw⟩ := hw
        refine z_getr (kq := 10) hG f_X5_14 h0 rfl ej13 rfl (by decide) dX5_setting_98 (fun hj13 => ?_)
        refine z_ldcs (i := 11) (tx := "retries") hG (by decide +kernel) dX5_setting_101 ?_
        have hq14 : 11 < zS_n := by decide
        refine z_calli hG (z_runV (As := [.ref (E.2.2.1 11)]) (st := []) hG k_X5_63 (MX10_isWord l hj13 hq14 hw) ⟨(Nat.le_of_ble_eq_true rfl), (Nat.le_of_ble_eq_true rfl)⟩ hj13 (T := TX10) (N := 4) rfl (by decide) rfl (Nat.le_of_ble_eq_true rfl) dX5_setting_103 ⟨Nat.zero_le _, Nat.zero_le _⟩ rfl) (fun r16 σ15 hw => ?_)
        refine z_if_eq (tgt := 125) hG dX5_setting_106 (by decide) (fun c22 => ?_) (fun c22 => ?_)
        · have hw := hw.1 c22
          refine z_iload_n hG dX5_setting_125 rfl 0 rfl ?_
          exact z_iret hG rfl (by decide +kernel) dX5_setting_126 hw
        · have hw := hw.2 c22
          refine z_aload_n hG dX5_setting_109 rfl 1 rfl ?_
          refine z_iconst (v := 0) hG dX5_setting_110 (by decide) ?_
          refine z_bipush (v := 9) hG dX5_setting_111 (by decide) ?_
          refine z_calli hG (z_runV (As := [.int 0, .int 9]) (st := []) hG k_X5_90 (MX5_takeNumber l h0 hw) ⟨(Nat.le_of_ble_eq_true rfl), (Nat.le_of_ble_eq_true rfl)⟩ h0 (T := TX5) (N := 3) rfl (by decide) rfl (Nat.le_of_ble_eq_true rfl) dX5_setting_113 ⟨Nat.zero_le _, Nat.zero_le _⟩ rfl) (fun r18 σ17 hw => ?_)
          refine z_istore_n (lv' := [(2, .int r18), (0, .ref (za Y t0)), (1, .ref (za Y t1))]) hG dX5_setting_116 rfl (by decide) rfl ?_
          refine z_aload_n hG dX5_setting_117 rfl 2 rfl ?_
          refine z_aload_n hG dX5_setting_118 rfl 1 rfl ?_
          refine z_geti hG f_X5_94 h0 rfl dX5_setting_119 ?_
          refine z_topi (fun x19 ex19 => ?_)
          have hw := hw x19 ex19
          refine z_puti hG f_X5_112 h1 rfl rfl (zN_int _) dX5_setting_122 ?_
          refine z_topσ (fun σ20 eσ20 => ?_)
          have hw := hw σ20 eσ20
          refine z_iload_n hG dX5_setting_125 rfl 0 rfl ?_
          obtain ⟨q21, hw⟩ := hw
          exact z_iret hG rfl (zN_b q21).1 dX5_setting_126 hw
      · have hw := hw.2 c28
        refine z_aload_n hG dX5_setting_77 rfl 1 rfl ?_
        refine z_iconst (v := 1) hG dX5_setting_78 (by decide) ?_
        refine z_sipush (v := 5000) hG dX5_setting_79 (by decide) ?_
        refine z_calli hG (z_runV (As := [.int 1, .int 5000]) (st := []) hG k_X5_90 (MX5_takeNumber l h0 hw) ⟨(Nat.le_of_ble_eq_true rfl), (Nat.le_of_ble_eq_true rfl)⟩ h0 (T := TX5) (N := 3) rfl (by decide) rfl (Nat.le_of_ble_eq_true rfl) dX5_setting_82 ⟨Nat.zero_le _, Nat.zero_le _⟩ rfl) (fun r24 σ23 hw => ?_)
        refine z_istore_n (lv' := [(2, .int r24), (0, .ref (za Y t0)), (1, .ref (za Y t1))]) hG dX5_setting_85 rfl (by decide) rfl ?_
        refine z_aload_n hG dX5_setting_86 rfl 2 rfl ?_
        refine z_aload_n hG dX5_setting_87 rfl 1 rfl ?_
        refine z_geti hG f_X5_94 h0 rfl dX5_setting_88 ?_
        refine z_topi (fun x25 ex25 => ?_)
        have hw := hw x25 ex25
        refine z_puti hG f_X5_108 h1 rfl rfl (zN_int _) dX5_setting_91 ?_
        refine z_topσ (fun σ26 eσ26 => ?_)
        have hw := hw σ26 eσ26
        refine z_goto (tgt := 125) hG dX5_setting_94 (by decide) ?_
        refine z_iload_n hG dX5_setting_125 rfl 0 rfl ?_
        obtain ⟨q27, hw⟩ := hw
        exact z_iret hG rfl (zN_b q27).1 dX5_setting_126 hw
    · have hw := hw.2 c34
      refine z_aload_n hG dX5_setting_45 rfl 1 rfl ?_
      refine z_iconst (v := 0) hG dX5_setting_46 (by decide) ?_
      refine z_sipush (v := 500) hG dX5_setting_47 (by decide) ?_
      refine z_calli hG (z_runV (As := [.int 0, .int 500]) (st := []) hG k_X5_90 (MX5_takeNumber l h0 hw) ⟨(Nat.le_of_ble_eq_true rfl), (Nat.le_of_ble_eq_true rfl)⟩ h0 (T := TX5) (N := 3) rfl (by decide) rfl (Nat.le_of_ble_eq_true rfl) dX5_setting_50 ⟨Nat.zero_le _, Nat.zero_le _⟩ rfl) (fun r30 σ29 hw => ?_)
      refine z_istore_n (lv' := [(2, .int r30), (0, .ref (za Y t0)), (1, .ref (za Y t1))]) hG dX5_setting_53 rfl (by decide) rfl ?_
      refine z_aload_n hG dX5_setting_54 rfl 2 rfl ?_
      refine z_aload_n hG dX5_setting_55 rfl 1 rfl ?_
      refine z_geti hG f_X5_94 h0 rfl dX5_setting_56 ?_
      refine z_topi (fun x31 ex31 => ?_)
      have hw := hw x31 ex31
      refine z_puti hG f_X5_103 h1 rfl rfl (zN_int _) dX5_setting_59 ?_
      refine z_topσ (fun σ32 eσ32 => ?_)
      have hw := hw σ32 eσ32
      refine z_goto (tgt := 125) hG dX5_setting_62 (by decide) ?_
      refine z_iload_n hG dX5_setting_125 rfl 0 rfl ?_
      obtain ⟨q33, hw⟩ := hw
      exact z_iret hG rfl (zN_b q33).1 dX5_setting_126 hw
  · have hw := hw.2 c40
    refine z_aload_n hG dX5_setting_14 rfl 1 rfl ?_
    refine z_iconst (v := 1) hG dX5_setting_15 (by decide) ?_
    refine z_bipush (v := 50) hG dX5_setting_16 (by decide) ?_
    refine z_calli hG (z_runV (As := [.int 1, .int 50]) (st := []) hG k_X5_90 (MX5_takeNumber l h0 hw) ⟨(Nat.le_of_ble_eq_true rfl), (Nat.le_of_ble_eq_true rfl)⟩ h0 (T := TX5) (N := 3) rfl (by decide) rfl (Nat.le_of_ble_eq_true rfl) dX5_setting_18 ⟨Nat.zero_le _, Nat.zero_le _⟩ rfl) (fun r36 σ35 hw => ?_)
    refine z_istore_n (lv' := [(2, .int r36), (0, .ref (za Y t0)), (1, .ref (za Y t1))]) hG dX5_setting_21 rfl (by decide) rfl ?_
    refine z_aload_n hG dX5_setting_22 rfl 2 rfl ?_
    refine z_aload_n hG dX5_setting_23 rfl 1 rfl ?_
    refine z_geti hG f_X5_94 h0 rfl dX5_setting_24 ?_
    refine z_topi (fun x37 ex37 => ?_)
    have hw := hw x37 ex37
    refine z_puti hG f_X5_99 h1 rfl rfl (zN_int _) dX5_setting_27 ?_
    refine z_topσ (fun σ38 eσ38 => ?_)
    have hw := hw σ38 eσ38
    refine z_goto (tgt := 125) hG dX5_setting_30 (by decide) ?_
    refine z_iload_n hG dX5_setting_125 rfl 0 rfl ?_
    obtain ⟨q39, hw⟩ := hw
    exact z_iret hG rfl (zN_b q39).1 dX5_setting_126 hw
-- TypeWheelTelegraph$Parser.takeSemicolon()Z
def wX5_takeSemicolon (ln : Nat → Nat) (σ : zS) (t0 : Nat) (Q : Int32 → zS → Prop) : Prop := ∃ j1 : Nat, gr σ t0 0 = some j1 ∧ wX10_take ln σ j1 (fun σ2 => ∃ j3 : Nat, gr σ2 t0 0 = some j3 ∧ (((gi σ2 j3 0) = 3 → Q 1 σ2) ∧ (¬ (gi σ2 j3 0) = 3 → Q 0 σ2)))
abbrev rX5_takeSemicolon : Room := { frames := 2, cells := 0, slots := 0, locals := 41 }
set_option maxRecDepth 100000 in
set_option maxHeartbeats 4000000 in
theorem MX5_takeSemicolon (l : Launch) {E : zE} {Y : zY} {σ : zS} {t0 : Nat} (h0 : zT Y 5 t0) {Q : Int32 → zS → Prop} (hw : wX5_takeSemicolon (zln Y) σ t0 Q) : ∀ sz, Met l yX5_takeSemicolon (zw yX5_takeSemicolon cX5_takeSemicolon 1 (some .boolean)) rX5_takeSemicolon (zPc E Y σ sz [.ref (za Y t0)]) (va_Qi Q (zB E Y sz) (zA Y sz)) 0 0 (zA Y sz) := by
  refine z_met (own := RX5) (Qc := fun sz => va_Qi Q (zB E Y sz) (zA Y sz)) (by decide +kernel) rfl (Nat.le_of_ble_eq_true rfl) ?_
  intro p e s m args below meth c hG hinit
  unfold wX5_takeSemicolon at hw
  refine zlv (lv' := [(0, .ref (za Y t0))]) rfl ?_
  refine z_aload_n hG dX5_takeSemicolon_0 rfl 0 rfl ?_
  obtain ⟨j1, ej1, hw⟩ := hw
  refine z_getr (kq := 10) hG f_X5_14 h0 rfl ej1 rfl (by decide) dX5_takeSemicolon_1 (fun hj1 => ?_)
  refine z_callv hG (z_runV (As := []) (st := []) hG k_X5_42 (MX10_take l hj1 hw) ⟨(Nat.le_of_ble_eq_true rfl), (Nat.le_of_ble_eq_true rfl)⟩ hj1 (T := TX10) (N := 4) rfl (by decide) rfl (Nat.le_of_ble_eq_true rfl) dX5_takeSemicolon_4 ⟨Nat.zero_le _, Nat.zero_le _⟩ rfl) (fun σ2 hw => ?_)
  refine z_aload_n hG dX5_takeSemicolon_7 rfl 0 rfl ?_
  obtain ⟨j3, ej3, hw⟩ := hw
  refine z_getr (kq := 10) hG f_X5_14 h0 rfl ej3 rfl (by decide) dX5_takeSemicolon_8 (fun hj3 => ?_)
  refine z_geti hG f_X5_32 hj3 rfl dX5_takeSemicolon_11 ?_
  refine z_iconst (v := 3) hG dX5_takeSemicolon_14 (by decide) ?_
  refine z_icmp_ne (tgt := 22) hG dX5_takeSemicolon_15 (by decide) (fun c4 => ?_) (fun c4 => ?_)
  · have hw := hw.2 c4
    refine z_iconst (v := 0) hG dX5_takeSemicolon_22 (by decide) ?_
    exact z_iret hG rfl (by decide +kernel) dX5_takeSemicolon_23 hw
  · have hw := hw.1 c4
    refine z_iconst (v := 1) hG dX5_takeSemicolon_18 (by decide) ?_
    refine z_goto (tgt := 23) hG dX5_takeSemicolon_19 (by decide) ?_
    exact z_iret hG rfl (by decide +kernel) dX5_takeSemicolon_23 hw
-- TypeWheelTelegraph$Parser.statement(LTypeWheelTelegraph$Plan;Z)Z
def wX5_statement_99 (ln : Nat → Nat) (Q : Int32 → zS → Prop) (t0 : Nat) (v3 : Int32) (σ : zS) : Prop := ((v3 = 0 → Q 0 σ) ∧ (¬ v3 = 0 → wX5_takeSemicolon ln σ t0 (fun r2 σ1 => ((r2 = 0 → Q 0 σ1) ∧ (¬ r2 = 0 → Q 1 σ1)))))
def wX5_statement (ln : Nat → Nat) (σ : zS) (t0 : Nat) (t1 : Nat) (v2 : Int32) (Q : Int32 → zS → Prop) : Prop := ∃ j1 : Nat, gr σ t0 0 = some j1 ∧ wX10_isWord ln σ j1 4 (fun r4 σ3 => ((r4 = 0 → ∃ j5 : Nat, gr σ3 t0 0 = some j5 ∧ wX10_isWord ln σ3 j5 5 (fun r8 σ7 => ((r8 = 0 → ∃ j9 : Nat, gr σ7 t0 0 = some j9 ∧ wX10_isWord ln σ7 j9 6 (fun r12 σ11 => ((r12 = 0 → ∃ j13 : Nat, gr σ11 t0 0 = some j13 ∧ wX10_isWord ln σ11 j13 7 (fun r16 σ15 => ((r16 = 0 → wX5_setting ln σ15 t0 t1 (fun r18 σ17 => wX5_statement_99 ln Q t0 r18 σ17)) ∧ (¬ r16 = 0 → wX5_loss ln σ15 t0 t1 (fun r20 σ19 => wX5_statement_99 ln Q t0 r20 σ19))))) ∧ (¬ r12 = 0 → wX5_office ln σ11 t0 t1 (fun r23 σ22 => wX5_statement_99 ln Q t0 r23 σ22))))) ∧ (¬ r8 = 0 → ((v2 = 0 → wX5_statement_99 ln Q t0 0 σ7) ∧ (¬ v2 = 0 → wX5_wheel ln σ7 t0 t1 (fun r26 σ25 => ((r26 = 0 → wX5_statement_99 ln Q t0 0 σ25) ∧ (¬ r26 = 0 → wX5_statement_99 ln Q t0 1 σ25))))))))) ∧ (¬ r4 = 0 → wX5_message ln σ3 t0 t1 (fun r31 σ30 => zB1 r31 ∧ Q r31 σ30))))
abbrev rX5_statement : Room := { frames := 6, cells := 0, slots := 0, locals := 129 }
set_option maxRecDepth 100000 in
set_option maxHeartbeats 4000000 in
theorem BX5_statement_99 {l : Launch} {E : zE} {Y : zY} {p : Program} {e : Env} {s : State} {m : MethodId} {args : Array Value} {below : List Frame} {meth : Method} {c : Code} (hG : zG E p l s m args meth c cX5_statement 4 RX5 (some .boolean) (zA Y s.heap.size)) {Q : Int32 → zS → Prop} : ∀ (t0 : Nat) (v3 : Int32) (σ : zS), wX5_statement_99 (zln Y) Q t0 v3 σ → zT Y 5 t0 → WW E Y σ p l e rX5_statement s m args below meth c (zA Y s.heap.size) 4 0 0 (MQ below (va_Qi Q (zB E Y s.heap.size) (zA Y s.heap.size)) args s 0 0 (zA Y s.heap.size)) [(0, .ref (za Y t0)), (3, .int v3)] 99 [] := by
  intro t0 v3 σ hw h0
  unfold wX5_statement_99 at hw
  refine z_iload_n hG dX5_statement_99 rfl 1 rfl ?_
  refine z_if_eq (tgt := 114) hG dX5_statement_100 (by decide) (fun c4 => ?_) (fun c4 => ?_)
  · have hw := hw.1 c4
    refine z_iconst (v := 0) hG dX5_statement_114 (by decide) ?_
    exact z_iret hG rfl (by decide +kernel) dX5_statement_115 hw
  · have hw := hw.2 c4
    refine z_aload_n hG dX5_statement_103 rfl 0 rfl ?_
    refine z_calli hG (z_runV (As := []) (st := []) hG k_X5_86 (MX5_takeSemicolon l h0 hw) ⟨(Nat.le_of_ble_eq_true rfl), (Nat.le_of_ble_eq_true rfl)⟩ h0 (T := TX5) (N := 3) rfl (by decide) rfl (Nat.le_of_ble_eq_true rfl) dX5_statement_104 ⟨Nat.zero_le _, Nat.zero_le _⟩ rfl) (fun r2 σ1 hw => ?_)
    refine z_if_eq (tgt := 114) hG dX5_statement_107 (by decide) (fun c3 => ?_) (fun c3 => ?_)
    · have hw := hw.1 c3
      refine z_iconst (v := 0) hG dX5_statement_114 (by decide) ?_
      exact z_iret hG rfl (by decide +kernel) dX5_statement_115 hw
    · have hw := hw.2 c3
      refine z_iconst (v := 1) hG dX5_statement_110 (by decide) ?_
      refine z_goto (tgt := 115) hG dX5_statement_111 (by decide) ?_
      exact z_iret hG rfl (by decide +kernel) dX5_statement_115 hw
set_option maxRecDepth 100000 in
set_option maxHeartbeats 4000000 in
theorem MX5_statement (l : Launch) {E : zE} {Y : zY} {σ : zS} {t0 : Nat} {t1 : Nat} {v2 : Int32} (h0 : zT Y 5 t0) (h1 : zT Y 6 t1) {Q : Int32 → zS → Prop} (hw : wX5_statement (zln Y) σ t0 t1 v2 Q) : ∀ sz, Met l yX5_statement (zw yX5_statement cX5_statement 4 (some .boolean)) rX5_statement (zPc E Y σ sz [.ref (za Y t0), .ref (za Y t1), .int v2]) (va_Qi Q (zB E Y sz) (zA Y sz)) 0 0 (zA Y sz) := by
  refine z_met (own := RX5) (Qc := fun sz => va_Qi Q (zB E Y sz) (zA Y sz)) (by decide +kernel) rfl (Nat.le_of_ble_eq_true rfl) ?_
  intro p e s m args below meth c hG hinit
  unfold wX5_statement at hw
  refine zlv (lv' := [(0, .ref (za Y t0)), (1, .ref (za Y t1)), (2, .int v2)]) rfl ?_
  refine z_aload_n hG dX5_statement_0 rfl 0 rfl ?_
  obtain ⟨j1, ej1, hw⟩ := hw
  refine z_getr (kq := 10) hG f_X5_14 h0 rfl ej1 rfl (by decide) dX5_statement_1 (fun hj1 => ?_)
  refine z_ldcs (i := 4) (tx := "message") hG (by decide +kernel) dX5_statement_4 ?_
  have hq2 : 4 < zS_n := by decide
  refine z_calli hG (z_runV (As := [.ref (E.2.2.1 4)]) (st := []) hG k_X5_63 (MX10_isWord l hj1 hq2 hw) ⟨(Nat.le_of_ble_eq_true rfl), (Nat.le_of_ble_eq_true rfl)⟩ hj1 (T := TX10) (N := 4) rfl (by decide) rfl (Nat.le_of_ble_eq_true rfl) dX5_statement_6 ⟨Nat.zero_le _, Nat.zero_le _⟩ rfl) (fun r4 σ3 hw => ?_)
  refine z_if_eq (tgt := 18) hG dX5_statement_9 (by decide) (fun c33 => ?_) (fun c33 => ?_)
  · have hw := hw.1 c33
    refine z_aload_n hG dX5_statement_18 rfl 0 rfl ?_
    obtain ⟨j5, ej5, hw⟩ := hw
    refine z_getr (kq := 10) hG f_X5_14 h0 rfl ej5 rfl (by decide) dX5_statement_19 (fun hj5 => ?_)
    refine z_ldcs (i := 5) (tx := "wheel") hG (by decide +kernel) dX5_statement_22 ?_
    have hq6 : 5 < zS_n := by decide
    refine z_calli hG (z_runV (As := [.ref (E.2.2.1 5)]) (st := []) hG k_X5_63 (MX10_isWord l hj5 hq6 hw) ⟨(Nat.le_of_ble_eq_true rfl), (Nat.le_of_ble_eq_true rfl)⟩ hj5 (T := TX10) (N := 4) rfl (by decide) rfl (Nat.le_of_ble_eq_true rfl) dX5_statement_24 ⟨Nat.zero_le _, Nat.zero_le _⟩ rfl) (fun r8 σ7 hw => ?_)
    refine z_if_eq (tgt := 51) hG dX5_statement_27 (by decide) (fun c29 => ?_) (fun c29 => ?_)
    · have hw := hw.1 c29
      refine z_aload_n hG dX5_statement_51 rfl 0 rfl ?_
      obtain ⟨j9, ej9, hw⟩ := hw
      refine z_getr (kq := 10) hG f_X5_14 h0 rfl ej9 rfl (by decide) dX5_statement_52 (fun hj9 => ?_)
      refine z_ldcs (i := 6) (tx := "office") hG (by decide +kernel) dX5_statement_55 ?_
      have hq10 : 6 < zS_n := by decide
      refine z_calli hG (z_runV (As := [.ref (E.2.2.1 6)]) (st := []) hG k_X5_63 (MX10_isWord l hj9 hq10 hw) ⟨(Nat.le_of_ble_eq_true rfl), (Nat.le_of_ble_eq_true rfl)⟩ hj9 (T := TX10) (N := 4) rfl (by decide) rfl (Nat.le_of_ble_eq_true rfl) dX5_statement_57 ⟨Nat.zero_le _, Nat.zero_le _⟩ rfl) (fun r12 σ11 hw => ?_)
      refine z_if_eq (tgt := 72) hG dX5_statement_60 (by decide) (fun c24 => ?_) (fun c24 => ?_)
      · have hw := hw.1 c24
        refine z_aload_n hG dX5_statement_72 rfl 0 rfl ?_
        obtain ⟨j13, ej13, hw⟩ := hw
        refine z_getr (kq := 10) hG f_X5_14 h0 rfl ej13 rfl (by decide) dX5_statement_73 (fun hj13 => ?_)
        refine z_ldcs (i := 7) (tx := "lose") hG (by decide +kernel) dX5_statement_76 ?_
        have hq14 : 7 < zS_n := by decide
        refine z_calli hG (z_runV (As := [.ref (E.2.2.1 7)]) (st := []) hG k_X5_63 (MX10_isWord l hj13 hq14 hw) ⟨(Nat.le_of_ble_eq_true rfl), (Nat.le_of_ble_eq_true rfl)⟩ hj13 (T := TX10) (N := 4) rfl (by decide) rfl (Nat.le_of_ble_eq_true rfl) dX5_statement_78 ⟨Nat.zero_le _, Nat.zero_le _⟩ rfl) (fun r16 σ15 hw => ?_)
        refine z_if_eq (tgt := 93) hG dX5_statement_81 (by decide) (fun c21 => ?_) (fun c21 => ?_)
        · have hw := hw.1 c21
          refine z_aload_n hG dX5_statement_93 rfl 0 rfl ?_
          refine z_aload_n hG dX5_statement_94 rfl 1 rfl ?_
          refine z_calli hG (z_runV (As := [.ref (za Y t1)]) (st := []) hG k_X5_83 (MX5_setting l h0 h1 hw) ⟨(Nat.le_of_ble_eq_true rfl), (Nat.le_of_ble_eq_true rfl)⟩ h0 (T := TX5) (N := 3) rfl (by decide) rfl (Nat.le_of_ble_eq_true rfl) dX5_statement_95 ⟨Nat.zero_le _, Nat.zero_le _⟩ rfl) (fun r18 σ17 hw => ?_)
          refine z_istore_n (lv' := [(3, .int r18), (0, .ref (za Y t0)), (1, .ref (za Y t1)), (2, .int v2)]) hG dX5_statement_98 rfl (by decide) rfl ?_
          refine zpick [1, 0] (lv' := [(0, .ref (za Y t0)), (3, .int r18)]) rfl ?_
          exact BX5_statement_99 hG t0 r18 σ17 hw h0
        · have hw := hw.2 c21
          refine z_aload_n hG dX5_statement_84 rfl 0 rfl ?_
          refine z_aload_n hG dX5_statement_85 rfl 1 rfl ?_
          refine z_calli hG (z_runV (As := [.ref (za Y t1)]) (st := []) hG k_X5_80 (MX5_loss l h0 h1 hw) ⟨(Nat.le_of_ble_eq_true rfl), (Nat.le_of_ble_eq_true rfl)⟩ h0 (T := TX5) (N := 3) rfl (by decide) rfl (Nat.le_of_ble_eq_true rfl) dX5_statement_86 ⟨Nat.zero_le _, Nat.zero_le _⟩ rfl) (fun r20 σ19 hw => ?_)
          refine z_istore_n (lv' := [(3, .int r20), (0, .ref (za Y t0)), (1, .ref (za Y t1)), (2, .int v2)]) hG dX5_statement_89 rfl (by decide) rfl ?_
          refine z_goto (tgt := 99) hG dX5_statement_90 (by decide) ?_
          refine zpick [1, 0] (lv' := [(0, .ref (za Y t0)), (3, .int r20)]) rfl ?_
          exact BX5_statement_99 hG t0 r20 σ19 hw h0
      · have hw := hw.2 c24
        refine z_aload_n hG dX5_statement_63 rfl 0 rfl ?_
        refine z_aload_n hG dX5_statement_64 rfl 1 rfl ?_
        refine z_calli hG (z_runV (As := [.ref (za Y t1)]) (st := []) hG k_X5_76 (MX5_office l h0 h1 hw) ⟨(Nat.le_of_ble_eq_true rfl), (Nat.le_of_ble_eq_true rfl)⟩ h0 (T := TX5) (N := 3) rfl (by decide) rfl (Nat.le_of_ble_eq_true rfl) dX5_statement_65 ⟨Nat.zero_le _, Nat.zero_le _⟩ rfl) (fun r23 σ22 hw => ?_)
        refine z_istore_n (lv' := [(3, .int r23), (0, .ref (za Y t0)), (1, .ref (za Y t1)), (2, .int v2)]) hG dX5_statement_68 rfl (by decide) rfl ?_
        refine z_goto (tgt := 99) hG dX5_statement_69 (by decide) ?_
        refine zpick [1, 0] (lv' := [(0, .ref (za Y t0)), (3, .int r23)]) rfl ?_
        exact BX5_statement_99 hG t0 r23 σ22 hw h0
    · have hw := hw.2 c29
      refine z_iload_n hG dX5_statement_30 rfl 2 rfl ?_
      refine z_if_eq (tgt := 46) hG dX5_statement_31 (by decide) (fun c28 => ?_) (fun c28 => ?_)
      · have hw := hw.1 c28
        refine z_iconst (v := 0) hG dX5_statement_46 (by decide) ?_
        refine z_istore_n (lv' := [(3, .int 0), (0, .ref (za Y t0)), (1, .ref (za Y t1)), (2, .int v2)]) hG dX5_statement_47 rfl (by decide) rfl ?_
        refine z_goto (tgt := 99) hG dX5_statement_48 (by decide) ?_
        refine zpick [1, 0] (lv' := [(0, .ref (za Y t0)), (3, .int 0)]) rfl ?_
        exact BX5_statement_99 hG t0 0 σ7 hw h0
      · have hw := hw.2 c28
        refine z_aload_n hG dX5_statement_34 rfl 0 rfl ?_
        refine z_aload_n hG dX5_statement_35 rfl 1 rfl ?_
        refine z_calli hG (z_runV (As := [.ref (za Y t1)]) (st := []) hG k_X5_72 (MX5_wheel l h0 h1 hw) ⟨(Nat.le_of_ble_eq_true rfl), (Nat.le_of_ble_eq_true rfl)⟩ h0 (T := TX5) (N := 3) rfl (by decide) rfl (Nat.le_of_ble_eq_true rfl) dX5_statement_36 ⟨Nat.zero_le _, Nat.zero_le _⟩ rfl) (fun r26 σ25 hw => ?_)
        refine z_if_eq (tgt := 46) hG dX5_statement_39 (by decide) (fun c27 => ?_) (fun c27 => ?_)
        · have hw := hw.1 c27
          refine z_iconst (v := 0) hG dX5_statement_46 (by decide) ?_
          refine z_istore_n (lv' := [(3, .int 0), (0, .ref (za Y t0)), (1, .ref (za Y t1)), (2, .int v2)]) hG dX5_statement_47 rfl (by decide) rfl ?_
          refine z_goto (tgt := 99) hG dX5_statement_48 (by decide) ?_
          refine zpick [1, 0] (lv' := [(0, .ref (za Y t0)), (3, .int 0)]) rfl ?_
          exact BX5_statement_99 hG t0 0 σ25 hw h0
        · have hw := hw.2 c27
          refine z_iconst (v := 1) hG dX5_statement_42 (by decide) ?_
          refine z_goto (tgt := 47) hG dX5_statement_43 (by decide) ?_
          refine z_istore_n (lv' := [(3, .int 1), (0, .ref (za Y t0)), (1, .ref (za Y t1)), (2, .int v2)]) hG dX5_statement_47 rfl (by decide) rfl ?_
          refine z_goto (tgt := 99) hG dX5_statement_48 (by decide) ?_
          refine zpick [1, 0] (lv' := [(0, .ref (za Y t0)), (3, .int 1)]) rfl ?_
          exact BX5_statement_99 hG t0 1 σ25 hw h0
  · have hw := hw.2 c33
    refine z_aload_n hG dX5_statement_12 rfl 0 rfl ?_
    refine z_aload_n hG dX5_statement_13 rfl 1 rfl ?_
    refine z_calli hG (z_runV (As := [.ref (za Y t1)]) (st := []) hG k_X5_67 (MX5_message l h0 h1 hw) ⟨(Nat.le_of_ble_eq_true rfl), (Nat.le_of_ble_eq_true rfl)⟩ h0 (T := TX5) (N := 3) rfl (by decide) rfl (Nat.le_of_ble_eq_true rfl) dX5_statement_14 ⟨Nat.zero_le _, Nat.zero_le _⟩ rfl) (fun r31 σ30 hw => ?_)
    obtain ⟨q32, hw⟩ := hw
    exact z_iret hG rfl (zN_b q32).1 dX5_statement_17 hw
-- TypeWheelTelegraph.modulo(II)I
def wX11_modulo (ln : Nat → Nat) (σ : zS) (v0 : Int32) (v1 : Int32) (Q : Int32 → zS → Prop) : Prop := ((v1 ≤ 0 → Q 0 σ) ∧ (¬ v1 ≤ 0 → wJ9_floorMod_7cf53 ln σ v0 v1 (fun r2 σ1 => Q r2 σ1)))
abbrev rX11_modulo : Room := { frames := 1, cells := 0, slots := 0, locals := 22 }
set_option maxRecDepth 100000 in
set_option maxHeartbeats 4000000 in
theorem MX11_modulo (l : Launch) {E : zE} {Y : zY} {σ : zS} {v0 : Int32} {v1 : Int32} {Q : Int32 → zS → Prop} (hw : wX11_modulo (zln Y) σ v0 v1 Q) : ∀ sz, Met l yX11_modulo (zw yX11_modulo cX11_modulo 2 (some .int)) rX11_modulo (zPc E Y σ sz [.int v0, .int v1]) (va_Qi Q (zB E Y sz) (zA Y sz)) 0 0 (zA Y sz) := by
  refine z_met (own := RX11) (Qc := fun sz => va_Qi Q (zB E Y sz) (zA Y sz)) (by decide +kernel) rfl (Nat.le_of_ble_eq_true rfl) ?_
  intro p e s m args below meth c hG hinit
  unfold wX11_modulo at hw
  refine zlv (lv' := [(0, .int v0), (1, .int v1)]) rfl ?_
  refine z_iload_n hG dX11_modulo_0 rfl 1 rfl ?_
  refine z_if_le (tgt := 12) hG dX11_modulo_1 (by decide) (fun c3 => ?_) (fun c3 => ?_)
  · have hw := hw.1 c3
    refine z_iconst (v := 0) hG dX11_modulo_12 (by decide) ?_
    exact z_iret hG rfl rfl dX11_modulo_13 hw
  · have hw := hw.2 c3
    refine z_iload_n hG dX11_modulo_4 rfl 0 rfl ?_
    refine z_iload_n hG dX11_modulo_5 rfl 1 rfl ?_
    refine z_calli hG (z_runS (As := [.int v0, .int v1]) (st := []) hG k_X11_388 (MJ9_floorMod_7cf53 l hw) ⟨(Nat.le_of_ble_eq_true rfl), (Nat.le_of_ble_eq_true rfl)⟩ rfl (Nat.le_of_ble_eq_true rfl) dX11_modulo_6 ⟨Nat.zero_le _, Nat.zero_le _⟩ rfl) (fun r2 σ1 hw => ?_)
    refine z_goto (tgt := 13) hG dX11_modulo_9 (by decide) ?_
    exact z_iret hG rfl rfl dX11_modulo_13 hw
-- TypeWheelTelegraph.checkPosition(II)I
def wX11_checkPosition (ln : Nat → Nat) (σ : zS) (v0 : Int32) (v1 : Int32) (Q : Int32 → zS → Prop) : Prop := ∀ x1 : Int32, x1 = v1 - 2 → wX11_modulo ln σ v0 x1 (fun r3 σ2 => Q (2 + r3) σ2)
abbrev rX11_checkPosition : Room := { frames := 2, cells := 0, slots := 0, locals := 43 }
set_option maxRecDepth 100000 in
set_option maxHeartbeats 4000000 in
theorem MX11_checkPosition (l : Launch) {E : zE} {Y : zY} {σ : zS} {v0 : Int32} {v1 : Int32} {Q : Int32 → zS → Prop} (hw : wX11_checkPosition (zln Y) σ v0 v1 Q) : ∀ sz, Met l yX11_checkPosition (zw yX11_checkPosition cX11_checkPosition 2 (some .int)) rX11_checkPosition (zPc E Y σ sz [.int v0, .int v1]) (va_Qi Q (zB E Y sz) (zA Y sz)) 0 0 (zA Y sz) := by
  refine z_met (own := RX11) (Qc := fun sz => va_Qi Q (zB E Y sz) (zA Y sz)) (by decide +kernel) rfl (Nat.le_of_ble_eq_true rfl) ?_
  intro p e s m args below meth c hG hinit
  unfold wX11_checkPosition at hw
  refine zlv (lv' := [(0, .int v0), (1, .int v1)]) rfl ?_
  refine z_iconst (v := 2) hG dX11_checkPosition_0 (by decide) ?_
  refine z_iload_n hG dX11_checkPosition_1 rfl 0 rfl ?_
  refine z_iload_n hG dX11_checkPosition_2 rfl 1 rfl ?_
  refine z_iconst (v := 2) hG dX11_checkPosition_3 (by decide) ?_
  refine z_isub hG dX11_checkPosition_4 ?_
  refine z_topi (fun x1 ex1 => ?_)
  have hw := hw x1 ex1
  refine z_calli hG (z_runS (As := [.int v0, .int x1]) (st := [.int 2]) hG k_X11_138 (MX11_modulo l hw) ⟨(Nat.le_of_ble_eq_true rfl), (Nat.le_of_ble_eq_true rfl)⟩ rfl (Nat.le_of_ble_eq_true rfl) dX11_checkPosition_5 ⟨Nat.zero_le _, Nat.zero_le _⟩ rfl) (fun r3 σ2 hw => ?_)
  refine z_iadd hG dX11_checkPosition_8 ?_
  exact z_iret hG rfl rfl dX11_checkPosition_9 hw
-- TypeWheelTelegraph$Line.encode(I)V
def wX2_encode_64 (ln : Nat → Nat) (Q : zS → Prop) (kb11 : Nat → Int32 → Int32 → Int32 → zS → Prop) (t0 : Nat) (v1 : Int32) (v2 : Int32) (v3 : Int32) (v4 : Int32) (σ : zS) : Prop := ∃ j1 : Nat, gr σ t0 1 = some j1 ∧ wX2_wheelIndex ln σ v4 (fun r3 σ2 => ∀ x4 : Int32, x4 = 2 + r3 → wX9_add ln σ2 j1 x4 (fun σ5 => ∀ x6 : Int32, x6 = v3 + 1 → kb11 t0 v1 v2 x6 σ5))
def wX2_encode_44 (ln : Nat → Nat) (Q : zS → Prop) (kb11 : Nat → Int32 → Int32 → Int32 → zS → Prop) (t0 : Nat) (v1 : Int32) (v2 : Int32) (v3 : Int32) (v4 : Int32) (vw0 : Int32) (σ : zS) : Prop := ((v2 = vw0 → wX2_encode_64 ln Q kb11 t0 v1 v2 v3 v4 σ) ∧ (¬ v2 = vw0 → ∃ j1 : Nat, gr σ t0 1 = some j1 ∧ wX9_add ln σ j1 vw0 (fun σ2 => wX2_encode_64 ln Q kb11 t0 v1 vw0 v3 v4 σ2)))
def wX2_encode_11 (ln : Nat → Nat) (Q : zS → Prop) : Nat → Nat → Int32 → Int32 → Int32 → zS → Prop
  | 0, _, _, _, _, _ => False
  | n + 1, t0, v1, v2, v3, σ => ∃ j1 : Nat, gr σ t0 0 = some j1 ∧ wX9_size ln σ j1 (fun r3 σ2 => ((r3 ≤ v3 → ∃ j4 : Nat, gr σ2 t0 1 = some j4 ∧ wX9_size ln σ2 j4 (fun r6 σ5 => ∃ j7 : Nat, gr σ5 t0 1 = some j7 ∧ wX9_add ln σ5 j7 v2 (fun σ8 => ∃ j9 : Nat, gr σ8 t0 1 = some j9 ∧ wX11_checkPosition ln σ8 r6 v1 (fun r11 σ10 => wX9_add ln σ10 j9 r11 (fun σ12 => Q σ12))))) ∧ (¬ r3 ≤ v3 → ∃ j13 : Nat, gr σ2 t0 0 = some j13 ∧ wX9_get ln σ2 j13 v3 (fun r15 σ14 => ((57 < r15 → wX2_encode_44 ln Q (wX2_encode_11 ln Q n) t0 v1 v2 v3 r15 0 σ14) ∧ (¬ 57 < r15 → wX2_encode_44 ln Q (wX2_encode_11 ln Q n) t0 v1 v2 v3 r15 1 σ14))))))
def wX2_encode (ln : Nat → Nat) (σ : zS) (t0 : Nat) (v1 : Int32) (Q : zS → Prop) : Prop := ∃ j1 : Nat, gr σ t0 1 = some j1 ∧ wX9_clear ln σ j1 (fun σ2 => ∃ n3 : Nat, wX2_encode_11 ln Q n3 t0 v1 0 0 σ2)
abbrev rX2_encode : Room := { frames := 3, cells := 0, slots := 0, locals := 64 }
set_option maxRecDepth 100000 in
set_option maxHeartbeats 4000000 in
theorem BX2_encode_64 {l : Launch} {E : zE} {Y : zY} {p : Program} {e : Env} {s : State} {m : MethodId} {args : Array Value} {below : List Frame} {meth : Method} {c : Code} (hG : zG E p l s m args meth c cX2_encode 6 RX2 none (zA Y s.heap.size)) {Q : zS → Prop} {kb11 : Nat → Int32 → Int32 → Int32 → zS → Prop} (hkb11 : ∀ (t0 : Nat) (v1 : Int32) (v2 : Int32) (v3 : Int32) (σ : zS), kb11 t0 v1 v2 v3 σ → zT Y 2 t0 → WW E Y σ p l e rX2_encode s m args below meth c (zA Y s.heap.size) 6 0 0 (MQ below (va_Qv Q (zB E Y s.heap.size) (zA Y s.heap.size)) args s 0 0 (zA Y s.heap.size)) [(0, .ref (za Y t0)), (1, .int v1), (2, .int v2), (3, .int v3)] 11 []) : ∀ (t0 : Nat) (v1 : Int32) (v2 : Int32) (v3 : Int32) (v4 : Int32) (σ : zS), wX2_encode_64 (zln Y) Q kb11 t0 v1 v2 v3 v4 σ → zT Y 2 t0 → WW E Y σ p l e rX2_encode s m args below meth c (zA Y s.heap.size) 6 0 0 (MQ below (va_Qv Q (zB E Y s.heap.size) (zA Y s.heap.size)) args s 0 0 (zA Y s.heap.size)) [(0, .ref (za Y t0)), (1, .int v1), (2, .int v2), (3, .int v3), (4, .int v4)] 64 [] := by
  intro t0 v1 v2 v3 v4 σ hw h0
  unfold wX2_encode_64 at hw
  refine z_aload_n hG dX2_encode_64 rfl 0 rfl ?_
  obtain ⟨j1, ej1, hw⟩ := hw
  refine z_getr (kq := 9) hG f_X2_20 h0 rfl ej1 rfl (by decide) dX2_encode_65 (fun hj1 => ?_)
  refine z_iconst (v := 2) hG dX2_encode_68 (by decide) ?_
  refine z_iload hG dX2_encode_69 4 rfl ?_
  refine z_calli hG (z_runS (As := [.int v4]) (st := [.int 2, .ref (za Y j1)]) hG k_X2_37 (MX2_wheelIndex l hw) ⟨(Nat.le_of_ble_eq_true rfl), (Nat.le_of_ble_eq_true rfl)⟩ rfl (Nat.le_of_ble_eq_true rfl) dX2_encode_71 ⟨Nat.zero_le _, Nat.zero_le _⟩ rfl) (fun r3 σ2 hw => ?_)
  refine z_iadd hG dX2_encode_74 ?_
  refine z_topi (fun x4 ex4 => ?_)
  have hw := hw x4 ex4
  refine z_callv hG (z_runV (As := [.int x4]) (st := []) hG k_X2_34 (MX9_add l hj1 hw) ⟨(Nat.le_of_ble_eq_true rfl), (Nat.le_of_ble_eq_true rfl)⟩ hj1 (T := TX9) (N := 2) rfl (by decide) rfl (Nat.le_of_ble_eq_true rfl) dX2_encode_75 ⟨Nat.zero_le _, Nat.zero_le _⟩ rfl) (fun σ5 hw => ?_)
  obtain ⟨x6, ex6⟩ : ∃ y : Int32, y = v3 + 1 := ⟨_, rfl⟩
  have hw := hw x6 ex6
  refine z_iinc (v := x6) (lv' := [(3, .int x6), (0, .ref (za Y t0)), (1, .int v1), (2, .int v2), (4, .int v4)]) hG dX2_encode_78 3 rfl (by rw [ex6]; rfl) (by decide) rfl ?_
  refine z_goto (tgt := 11) hG dX2_encode_81 (by decide) ?_
  refine zpick [1, 2, 3, 0] (lv' := [(0, .ref (za Y t0)), (1, .int v1), (2, .int v2), (3, .int x6)]) rfl ?_
  exact hkb11 t0 v1 v2 x6 σ5 hw h0
set_option maxRecDepth 100000 in
set_option maxHeartbeats 4000000 in
theorem BX2_encode_44 {l : Launch} {E : zE} {Y : zY} {p : Program} {e : Env} {s : State} {m : MethodId} {args : Array Value} {below : List Frame} {meth : Method} {c : Code} (hG : zG E p l s m args meth c cX2_encode 6 RX2 none (zA Y s.heap.size)) {Q : zS → Prop} {kb11 : Nat → Int32 → Int32 → Int32 → zS → Prop} (hkb11 : ∀ (t0 : Nat) (v1 : Int32) (v2 : Int32) (v3 : Int32) (σ : zS), kb11 t0 v1 v2 v3 σ → zT Y 2 t0 → WW E Y σ p l e rX2_encode s m args below meth c (zA Y s.heap.size) 6 0 0 (MQ below (va_Qv Q (zB E Y s.heap.size) (zA Y s.heap.size)) args s 0 0 (zA Y s.heap.size)) [(0, .ref (za Y t0)), (1, .int v1), (2, .int v2), (3, .int v3)] 11 []) : ∀ (t0 : Nat) (v1 : Int32) (v2 : Int32) (v3 : Int32) (v4 : Int32) (vw0 : Int32) (σ : zS), wX2_encode_44 (zln Y) Q kb11 t0 v1 v2 v3 v4 vw0 σ → zT Y 2 t0 → WW E Y σ p l e rX2_encode s m args below meth c (zA Y s.heap.size) 6 0 0 (MQ below (va_Qv Q (zB E Y s.heap.size) (zA Y s.heap.size)) args s 0 0 (zA Y s.heap.size)) [(0, .ref (za Y t0)), (1, .int v1), (2, .int v2), (3, .int v3), (4, .int v4)] 44 [.int vw0] := by
  intro t0 v1 v2 v3 v4 vw0 σ hw h0
  unfold wX2_encode_44 at hw
  refine z_istore (lv' := [(5, .int vw0), (0, .ref (za Y t0)), (1, .int v1), (2, .int v2), (3, .int v3), (4, .int v4)]) hG dX2_encode_44 (by decide) rfl ?_
  refine z_iload_n hG dX2_encode_46 rfl 3 rfl ?_
  refine z_iload hG dX2_encode_47 0 rfl ?_
  refine z_icmp_eq (tgt := 64) hG dX2_encode_49 (by decide) (fun c3 => ?_) (fun c3 => ?_)
  · have hw := hw.1 c3
    refine zpick [1, 2, 3, 4, 5] (lv' := [(0, .ref (za Y t0)), (1, .int v1), (2, .int v2), (3, .int v3), (4, .int v4)]) rfl ?_
    exact BX2_encode_64 hG hkb11 t0 v1 v2 v3 v4 σ hw h0
  · have hw := hw.2 c3
    refine z_aload_n hG dX2_encode_52 rfl 1 rfl ?_
    obtain ⟨j1, ej1, hw⟩ := hw
    refine z_getr (kq := 9) hG f_X2_20 h0 rfl ej1 rfl (by decide) dX2_encode_53 (fun hj1 => ?_)
    refine z_iload hG dX2_encode_56 0 rfl ?_
    refine z_callv hG (z_runV (As := [.int vw0]) (st := []) hG k_X2_34 (MX9_add l hj1 hw) ⟨(Nat.le_of_ble_eq_true rfl), (Nat.le_of_ble_eq_true rfl)⟩ hj1 (T := TX9) (N := 2) rfl (by decide) rfl (Nat.le_of_ble_eq_true rfl) dX2_encode_58 ⟨Nat.zero_le _, Nat.zero_le _⟩ rfl) (fun σ2 hw => ?_)
    refine z_iload hG dX2_encode_61 0 rfl ?_
    refine z_istore_n (lv' := [(2, .int vw0), (5, .int vw0), (0, .ref (za Y t0)), (1, .int v1), (3, .int v3), (4, .int v4)]) hG dX2_encode_63 rfl (by decide) rfl ?_
    refine zpick [2, 3, 0, 4, 5] (lv' := [(0, .ref (za Y t0)), (1, .int v1), (2, .int vw0), (3, .int v3), (4, .int v4)]) rfl ?_
    exact BX2_encode_64 hG hkb11 t0 v1 vw0 v3 v4 σ2 hw h0
set_option maxRecDepth 100000 in
set_option maxHeartbeats 4000000 in
theorem BX2_encode_11 {l : Launch} {E : zE} {Y : zY} {p : Program} {e : Env} {s : State} {m : MethodId} {args : Array Value} {below : List Frame} {meth : Method} {c : Code} (hG : zG E p l s m args meth c cX2_encode 6 RX2 none (zA Y s.heap.size)) {Q : zS → Prop} : ∀ (n : Nat) (t0 : Nat) (v1 : Int32) (v2 : Int32) (v3 : Int32) (σ : zS), wX2_encode_11 (zln Y) Q n t0 v1 v2 v3 σ → zT Y 2 t0 → WW E Y σ p l e rX2_encode s m args below meth c (zA Y s.heap.size) 6 0 0 (MQ below (va_Qv Q (zB E Y s.heap.size) (zA Y s.heap.size)) args s 0 0 (zA Y s.heap.size)) [(0, .ref (za Y t0)), (1, .int v1), (2, .int v2), (3, .int v3)] 11 [] := by
  intro n
  induction n with
  | zero => intro t0 v1 v2 v3 σ hw
            exact hw.elim
  | succ n ih =>
    intro t0 v1 v2 v3 σ hw h0
    rw [wX2_encode_11] at hw
    refine z_iload_n hG dX2_encode_11 rfl 3 rfl ?_
    refine z_aload_n hG dX2_encode_12 rfl 0 rfl ?_
    obtain ⟨j1, ej1, hw⟩ := hw
    refine z_getr (kq := 9) hG f_X2_14 h0 rfl ej1 rfl (by decide) dX2_encode_13 (fun hj1 => ?_)
    refine z_calli hG (z_runV (As := []) (st := [.int v3]) hG k_X2_26 (MX9_size l hj1 hw) ⟨(Nat.le_of_ble_eq_true rfl), (Nat.le_of_ble_eq_true rfl)⟩ hj1 (T := TX9) (N := 2) rfl (by decide) rfl (Nat.le_of_ble_eq_true rfl) dX2_encode_16 ⟨Nat.zero_le _, Nat.zero_le _⟩ rfl) (fun r3 σ2 hw => ?_)
    refine z_icmp_ge (tgt := 84) hG dX2_encode_19 (by decide) (fun c17 => ?_) (fun c17 => ?_)
    · have hw := hw.1 c17
      refine z_aload_n hG dX2_encode_84 rfl 0 rfl ?_
      obtain ⟨j4, ej4, hw⟩ := hw
      refine z_getr (kq := 9) hG f_X2_20 h0 rfl ej4 rfl (by decide) dX2_encode_85 (fun hj4 => ?_)
      refine z_calli hG (z_runV (As := []) (st := []) hG k_X2_26 (MX9_size l hj4 hw) ⟨(Nat.le_of_ble_eq_true rfl), (Nat.le_of_ble_eq_true rfl)⟩ hj4 (T := TX9) (N := 2) rfl (by decide) rfl (Nat.le_of_ble_eq_true rfl) dX2_encode_88 ⟨Nat.zero_le _, Nat.zero_le _⟩ rfl) (fun r6 σ5 hw => ?_)
      refine z_istore_n (lv' := [(3, .int r6), (0, .ref (za Y t0)), (1, .int v1), (2, .int v2)]) hG dX2_encode_91 rfl (by decide) rfl ?_
      refine z_aload_n hG dX2_encode_92 rfl 1 rfl ?_
      obtain ⟨j7, ej7, hw⟩ := hw
      refine z_getr (kq := 9) hG f_X2_20 h0 rfl ej7 rfl (by decide) dX2_encode_93 (fun hj7 => ?_)
      refine z_iload_n hG dX2_encode_96 rfl 3 rfl ?_
      refine z_callv hG (z_runV (As := [.int v2]) (st := []) hG k_X2_34 (MX9_add l hj7 hw) ⟨(Nat.le_of_ble_eq_true rfl), (Nat.le_of_ble_eq_true rfl)⟩ hj7 (T := TX9) (N := 2) rfl (by decide) rfl (Nat.le_of_ble_eq_true rfl) dX2_encode_97 ⟨Nat.zero_le _, Nat.zero_le _⟩ rfl) (fun σ8 hw => ?_)
      refine z_aload_n hG dX2_encode_100 rfl 1 rfl ?_
      obtain ⟨j9, ej9, hw⟩ := hw
      refine z_getr (kq := 9) hG f_X2_20 h0 rfl ej9 rfl (by decide) dX2_encode_101 (fun hj9 => ?_)
      refine z_iload_n hG dX2_encode_104 rfl 0 rfl ?_
      refine z_iload_n hG dX2_encode_105 rfl 2 rfl ?_
      refine z_calli hG (z_runSN (As := [.int r6, .int v1]) (st := [.ref (za Y j9)]) hG k_X2_40 k_X2_40s (MX11_checkPosition l hw) ⟨(Nat.le_of_ble_eq_true rfl), (Nat.le_of_ble_eq_true rfl)⟩ rfl (Nat.le_of_ble_eq_true rfl) dX2_encode_106 ⟨Nat.zero_le _, Nat.zero_le _⟩ rfl) (fun r11 σ10 hw => ?_)
      refine z_callv hG (z_runV (As := [.int r11]) (st := []) hG k_X2_34 (MX9_add l hj9 hw) ⟨(Nat.le_of_ble_eq_true rfl), (Nat.le_of_ble_eq_true rfl)⟩ hj9 (T := TX9) (N := 2) rfl (by decide) rfl (Nat.le_of_ble_eq_true rfl) dX2_encode_109 ⟨Nat.zero_le _, Nat.zero_le _⟩ rfl) (fun σ12 hw => ?_)
      exact z_vret hG rfl dX2_encode_112 hw
    · have hw := hw.2 c17
      refine z_aload_n hG dX2_encode_22 rfl 0 rfl ?_
      obtain ⟨j13, ej13, hw⟩ := hw
      refine z_getr (kq := 9) hG f_X2_14 h0 rfl ej13 rfl (by decide) dX2_encode_23 (fun hj13 => ?_)
      refine z_iload_n hG dX2_encode_26 rfl 3 rfl ?_
      refine z_calli hG (z_runV (As := [.int v3]) (st := []) hG k_X2_30 (MX9_get l hj13 hw) ⟨(Nat.le_of_ble_eq_true rfl), (Nat.le_of_ble_eq_true rfl)⟩ hj13 (T := TX9) (N := 2) rfl (by decide) rfl (Nat.le_of_ble_eq_true rfl) dX2_encode_27 ⟨Nat.zero_le _, Nat.zero_le _⟩ rfl) (fun r15 σ14 hw => ?_)
      refine z_istore (lv' := [(4, .int r15), (0, .ref (za Y t0)), (1, .int v1), (2, .int v2), (3, .int v3)]) hG dX2_encode_30 (by decide) rfl ?_
      refine z_iload hG dX2_encode_32 0 rfl ?_
      refine z_bipush (v := 57) hG dX2_encode_34 (by decide) ?_
      refine z_icmp_gt (tgt := 43) hG dX2_encode_36 (by decide) (fun c16 => ?_) (fun c16 => ?_)
      · have hw := hw.1 c16
        refine z_iconst (v := 0) hG dX2_encode_43 (by decide) ?_
        refine zpick [1, 2, 3, 4, 0] (lv' := [(0, .ref (za Y t0)), (1, .int v1), (2, .int v2), (3, .int v3), (4, .int r15)]) rfl ?_
        exact BX2_encode_44 hG ih t0 v1 v2 v3 r15 0 σ14 hw h0
      · have hw := hw.2 c16
        refine z_iconst (v := 1) hG dX2_encode_39 (by decide) ?_
        refine z_goto (tgt := 44) hG dX2_encode_40 (by decide) ?_
        refine zpick [1, 2, 3, 4, 0] (lv' := [(0, .ref (za Y t0)), (1, .int v1), (2, .int v2), (3, .int v3), (4, .int r15)]) rfl ?_
        exact BX2_encode_44 hG ih t0 v1 v2 v3 r15 1 σ14 hw h0
set_option maxRecDepth 100000 in
set_option maxHeartbeats 4000000 in
theorem MX2_encode (l : Launch) {E : zE} {Y : zY} {σ : zS} {t0 : Nat} {v1 : Int32} (h0 : zT Y 2 t0) {Q : zS → Prop} (hw : wX2_encode (zln Y) σ t0 v1 Q) : ∀ sz, Met l yX2_encode (zw yX2_encode cX2_encode 6 none) rX2_encode (zPc E Y σ sz [.ref (za Y t0), .int v1]) (va_Qv Q (zB E Y sz) (zA Y sz)) 0 0 (zA Y sz) := by
  refine z_met (own := RX2) (Qc := fun sz => va_Qv Q (zB E Y sz) (zA Y sz)) (by decide +kernel) rfl (Nat.le_of_ble_eq_true rfl) ?_
  intro p e s m args below meth c hG hinit
  unfold wX2_encode at hw
  refine zlv (lv' := [(0, .ref (za Y t0)), (1, .int v1)]) rfl ?_
  refine z_aload_n hG dX2_encode_0 rfl 0 rfl ?_
  obtain ⟨j1, ej1, hw⟩ := hw
  refine z_getr (kq := 9) hG f_X2_20 h0 rfl ej1 rfl (by decide) dX2_encode_1 (fun hj1 => ?_)
  refine z_callv hG (z_runV (As := []) (st := []) hG k_X2_23 (MX9_clear l hj1 hw) ⟨(Nat.le_of_ble_eq_true rfl), (Nat.le_of_ble_eq_true rfl)⟩ hj1 (T := TX9) (N := 2) rfl (by decide) rfl (Nat.le_of_ble_eq_true rfl) dX2_encode_4 ⟨Nat.zero_le _, Nat.zero_le _⟩ rfl) (fun σ2 hw => ?_)
  refine z_iconst (v := 0) hG dX2_encode_7 (by decide) ?_
  refine z_istore_n (lv' := [(2, .int 0), (0, .ref (za Y t0)), (1, .int v1)]) hG dX2_encode_8 rfl (by decide) rfl ?_
  refine z_iconst (v := 0) hG dX2_encode_9 (by decide) ?_
  refine z_istore_n (lv' := [(3, .int 0), (2, .int 0), (0, .ref (za Y t0)), (1, .int v1)]) hG dX2_encode_10 rfl (by decide) rfl ?_
  obtain ⟨n3, hw⟩ := hw
  refine zpick [2, 3, 1, 0] (lv' := [(0, .ref (za Y t0)), (1, .int v1), (2, .int 0), (3, .int 0)]) rfl ?_
  exact BX2_encode_11 hG n3 t0 v1 0 0 σ2 hw h0
-- TypeWheelTelegraph$Desk.encodeLines(I)V
def wX0_encodeLines_2 (ln : Nat → Nat) (Q : zS → Prop) : Nat → Nat → Int32 → Int32 → zS → Prop
  | 0, _, _, _, _ => False
  | n + 1, t0, v1, v2, σ => (((gi σ t0 2) ≤ v2 → Q σ) ∧ (¬ (gi σ t0 2) ≤ v2 → wX0_line ln σ t0 v2 (fun r2 σ1 => (r2 = none → ∀ x4 : Int32, x4 = v2 + 1 → (wX0_encodeLines_2 ln Q n) t0 v1 x4 σ1) ∧ (∀ j3 : Nat, r2 = some j3 → wX2_encode ln σ1 j3 v1 (fun σ5 => ∀ x6 : Int32, x6 = v2 + 1 → (wX0_encodeLines_2 ln Q n) t0 v1 x6 σ5)))))
def wX0_encodeLines (ln : Nat → Nat) (σ : zS) (t0 : Nat) (v1 : Int32) (Q : zS → Prop) : Prop := ∃ n1 : Nat, wX0_encodeLines_2 ln Q n1 t0 v1 0 σ
abbrev rX0_encodeLines : Room := { frames := 4, cells := 0, slots := 0, locals := 89 }
set_option maxRecDepth 100000 in
set_option maxHeartbeats 4000000 in
theorem BX0_encodeLines_2 {l : Launch} {E : zE} {Y : zY} {p : Program} {e : Env} {s : State} {m : MethodId} {args : Array Value} {below : List Frame} {meth : Method} {c : Code} (hG : zG E p l s m args meth c cX0_encodeLines 4 RX0 none (zA Y s.heap.size)) {Q : zS → Prop} : ∀ (n : Nat) (t0 : Nat) (v1 : Int32) (v2 : Int32) (σ : zS), wX0_encodeLines_2 (zln Y) Q n t0 v1 v2 σ → zT Y 0 t0 → WW E Y σ p l e rX0_encodeLines s m args below meth c (zA Y s.heap.size) 4 0 0 (MQ below (va_Qv Q (zB E Y s.heap.size) (zA Y s.heap.size)) args s 0 0 (zA Y s.heap.size)) [(0, .ref (za Y t0)), (1, .int v1), (2, .int v2)] 2 [] := by
  intro n
  induction n with
  | zero => intro t0 v1 v2 σ hw
            exact hw.elim
  | succ n ih =>
    intro t0 v1 v2 σ hw h0
    rw [wX0_encodeLines_2] at hw
    refine z_iload_n hG dX0_encodeLines_2 rfl 2 rfl ?_
    refine z_aload_n hG dX0_encodeLines_3 rfl 0 rfl ?_
    refine z_geti hG f_X0_25 h0 rfl dX0_encodeLines_4 ?_
    refine z_icmp_ge (tgt := 31) hG dX0_encodeLines_7 (by decide) (fun c7 => ?_) (fun c7 => ?_)
    · have hw := hw.1 c7
      exact z_vret hG rfl dX0_encodeLines_31 hw
    · have hw := hw.2 c7
      refine z_aload_n hG dX0_encodeLines_10 rfl 0 rfl ?_
      refine z_iload_n hG dX0_encodeLines_11 rfl 2 rfl ?_
      refine z_calle hG (z_runV (As := [.int v2]) (st := []) hG k_X0_28 (MX0_line l h0 hw) ⟨(Nat.le_of_ble_eq_true rfl), (Nat.le_of_ble_eq_true rfl)⟩ h0 (T := TX0) (N := 4) rfl (by decide) rfl (Nat.le_of_ble_eq_true rfl) dX0_encodeLines_12 ⟨Nat.zero_le _, Nat.zero_le _⟩ rfl) (fun σ1 hw => ?_) (fun j3 σ1 hj3 hw => ?_)
      · have hw := hw.1 rfl
        refine z_astoreN_n (lv' := [(3, .null), (0, .ref (za Y t0)), (1, .int v1), (2, .int v2)]) hG dX0_encodeLines_15 rfl (by decide) rfl ?_
        refine z_aloadN_n hG dX0_encodeLines_16 rfl 0 rfl ?_
        refine z_ifnull_yes (tgt := 25) hG dX0_encodeLines_17 (by decide) ?_
        obtain ⟨x4, ex4⟩ : ∃ y : Int32, y = v2 + 1 := ⟨_, rfl⟩
        have hw := hw x4 ex4
        refine z_iinc (v := x4) (lv' := [(2, .int x4), (3, .null), (0, .ref (za Y t0)), (1, .int v1)]) hG dX0_encodeLines_25 3 rfl (by rw [ex4]; rfl) (by decide) rfl ?_
        refine z_goto (tgt := 2) hG dX0_encodeLines_28 (by decide) ?_
        refine zpick [2, 3, 0] (lv' := [(0, .ref (za Y t0)), (1, .int v1), (2, .int x4)]) rfl ?_
        exact ih t0 v1 x4 σ1 hw h0
      · have hw := hw.2 j3 rfl
        refine z_astore_n (lv' := [(3, .ref (za Y j3)), (0, .ref (za Y t0)), (1, .int v1), (2, .int v2)]) hG dX0_encodeLines_15 rfl (by decide) rfl ?_
        refine z_aload_n hG dX0_encodeLines_16 rfl 0 rfl ?_
        refine z_ifnull_no hG dX0_encodeLines_17 ?_
        refine z_aload_n hG dX0_encodeLines_20 rfl 0 rfl ?_
        refine z_iload_n hG dX0_encodeLines_21 rfl 2 rfl ?_
        refine z_callv hG (z_runV (As := [.int v1]) (st := []) hG k_X0_41 (MX2_encode l hj3 hw) ⟨(Nat.le_of_ble_eq_true rfl), (Nat.le_of_ble_eq_true rfl)⟩ hj3 (T := TX2) (N := 2) rfl (by decide) rfl (Nat.le_of_ble_eq_true rfl) dX0_encodeLines_22 ⟨Nat.zero_le _, Nat.zero_le _⟩ rfl) (fun σ5 hw => ?_)
        obtain ⟨x6, ex6⟩ : ∃ y : Int32, y = v2 + 1 := ⟨_, rfl⟩
        have hw := hw x6 ex6
        refine z_iinc (v := x6) (lv' := [(2, .int x6), (3, .ref (za Y j3)), (0, .ref (za Y t0)), (1, .int v1)]) hG dX0_encodeLines_25 3 rfl (by rw [ex6]; rfl) (by decide) rfl ?_
        refine z_goto (tgt := 2) hG dX0_encodeLines_28 (by decide) ?_
        refine zpick [2, 3, 0] (lv' := [(0, .ref (za Y t0)), (1, .int v1), (2, .int x6)]) rfl ?_
        exact ih t0 v1 x6 σ5 hw h0
set_option maxRecDepth 100000 in
set_option maxHeartbeats 4000000 in
theorem MX0_encodeLines (l : Launch) {E : zE} {Y : zY} {σ : zS} {t0 : Nat} {v1 : Int32} (h0 : zT Y 0 t0) {Q : zS → Prop} (hw : wX0_encodeLines (zln Y) σ t0 v1 Q) : ∀ sz, Met l yX0_encodeLines (zw yX0_encodeLines cX0_encodeLines 4 none) rX0_encodeLines (zPc E Y σ sz [.ref (za Y t0), .int v1]) (va_Qv Q (zB E Y sz) (zA Y sz)) 0 0 (zA Y sz) := by
  refine z_met (own := RX0) (Qc := fun sz => va_Qv Q (zB E Y sz) (zA Y sz)) (by decide +kernel) rfl (Nat.le_of_ble_eq_true rfl) ?_
  intro p e s m args below meth c hG hinit
  unfold wX0_encodeLines at hw
  refine zlv (lv' := [(0, .ref (za Y t0)), (1, .int v1)]) rfl ?_
  refine z_iconst (v := 0) hG dX0_encodeLines_0 (by decide) ?_
  refine z_istore_n (lv' := [(2, .int 0), (0, .ref (za Y t0)), (1, .int v1)]) hG dX0_encodeLines_1 rfl (by decide) rfl ?_
  obtain ⟨n1, hw⟩ := hw
  refine zpick [1, 2, 0] (lv' := [(0, .ref (za Y t0)), (1, .int v1), (2, .int 0)]) rfl ?_
  exact BX0_encodeLines_2 hG n1 t0 v1 0 σ hw h0
-- TypeWheelTelegraph$Parser.read(LTypeWheelTelegraph$Plan;)I
def wX5_read_75 (ln : Nat → Nat) (Q : Int32 → zS → Prop) (t1 : Nat) (σ : zS) : Prop := ∃ j1 : Nat, gr σ t1 6 = some j1 ∧ ∀ x2 : Int32, x2 = gi σ t1 0 → wX0_encodeLines ln σ j1 x2 (fun σ3 => ∃ j4 : Nat, gr σ3 t1 7 = some j4 ∧ ∀ x5 : Int32, x5 = gi σ3 t1 0 → wX0_encodeLines ln σ3 j4 x5 (fun σ6 => Q (-1) σ6))
def wX5_read_44 (ln : Nat → Nat) (Q : Int32 → zS → Prop) (kb18 : Nat → Nat → Int32 → zS → Prop) (t0 : Nat) (t1 : Nat) (v2 : Int32) (vw0 : Int32) (σ : zS) : Prop := wX5_statement ln σ t0 t1 vw0 (fun r2 σ1 => ((r2 = 0 → ∃ j6 : Nat, gr σ1 t0 0 = some j6 ∧ Q (gi σ1 j6 1) σ1) ∧ (¬ r2 = 0 → ∃ j3 : Nat, gr σ1 t0 0 = some j3 ∧ wX10_take ln σ1 j3 (fun σ4 => ∀ x5 : Int32, x5 = v2 + 1 → kb18 t0 t1 x5 σ4))))
def wX5_read_18 (ln : Nat → Nat) (Q : Int32 → zS → Prop) : Nat → Nat → Nat → Int32 → zS → Prop
  | 0, _, _, _, _ => False
  | n + 1, t0, t1, v2, σ => ((600 ≤ v2 → wX5_read_75 ln Q t1 σ) ∧ (¬ 600 ≤ v2 → ∃ j1 : Nat, gr σ t0 0 = some j1 ∧ (((gi σ j1 0) = 0 → wX5_read_75 ln Q t1 σ) ∧ (¬ (gi σ j1 0) = 0 → ((v2 = 0 → wX5_read_44 ln Q (wX5_read_18 ln Q n) t0 t1 v2 1 σ) ∧ (¬ v2 = 0 → wX5_read_44 ln Q (wX5_read_18 ln Q n) t0 t1 v2 0 σ))))))
def wX5_read (ln : Nat → Nat) (σ : zS) (t0 : Nat) (t1 : Nat) (Q : Int32 → zS → Prop) : Prop := wX6_reset ln σ t1 (fun σ1 => ∀ σ2 : zS, σ2 = si σ1 t0 1 0 → ∃ j3 : Nat, gr σ2 t0 0 = some j3 ∧ wX10_begin ln σ2 j3 (fun σ4 => ∃ n5 : Nat, wX5_read_18 ln Q n5 t0 t1 0 σ4))
abbrev rX5_read : Room := { frames := 7, cells := 0, slots := 0, locals := 152 }
set_option maxRecDepth 100000 in
set_option maxHeartbeats 4000000 in
theorem BX5_read_75 {l : Launch} {E : zE} {Y : zY} {p : Program} {e : Env} {s : State} {m : MethodId} {args : Array Value} {below : List Frame} {meth : Method} {c : Code} (hG : zG E p l s m args meth c cX5_read 4 RX5 (some .int) (zA Y s.heap.size)) {Q : Int32 → zS → Prop} : ∀ (t1 : Nat) (σ : zS), wX5_read_75 (zln Y) Q t1 σ → zT Y 6 t1 → WW E Y σ p l e rX5_read s m args below meth c (zA Y s.heap.size) 4 0 0 (MQ below (va_Qi Q (zB E Y s.heap.size) (zA Y s.heap.size)) args s 0 0 (zA Y s.heap.size)) [(1, .ref (za Y t1))] 75 [] := by
  intro t1 σ hw h1
  unfold wX5_read_75 at hw
  refine z_aload_n hG dX5_read_75 rfl 0 rfl ?_
  obtain ⟨j1, ej1, hw⟩ := hw
  refine z_getr (kq := 0) hG f_X5_45 h1 rfl ej1 rfl (by decide) dX5_read_76 (fun hj1 => ?_)
  refine z_aload_n hG dX5_read_79 rfl 0 rfl ?_
  refine z_geti hG f_X5_49 h1 rfl dX5_read_80 ?_
  refine z_topi (fun x2 ex2 => ?_)
  have hw := hw x2 ex2
  refine z_callv hG (z_runV (As := [.int x2]) (st := []) hG k_X5_52 (MX0_encodeLines l hj1 hw) ⟨(Nat.le_of_ble_eq_true rfl), (Nat.le_of_ble_eq_true rfl)⟩ hj1 (T := TX0) (N := 4) rfl (by decide) rfl (Nat.le_of_ble_eq_true rfl) dX5_read_83 ⟨Nat.zero_le _, Nat.zero_le _⟩ rfl) (fun σ3 hw => ?_)
  refine z_aload_n hG dX5_read_86 rfl 0 rfl ?_
  obtain ⟨j4, ej4, hw⟩ := hw
  refine z_getr (kq := 0) hG f_X5_58 h1 rfl ej4 rfl (by decide) dX5_read_87 (fun hj4 => ?_)
  refine z_aload_n hG dX5_read_90 rfl 0 rfl ?_
  refine z_geti hG f_X5_49 h1 rfl dX5_read_91 ?_
  refine z_topi (fun x5 ex5 => ?_)
  have hw := hw x5 ex5
  refine z_callv hG (z_runV (As := [.int x5]) (st := []) hG k_X5_52 (MX0_encodeLines l hj4 hw) ⟨(Nat.le_of_ble_eq_true rfl), (Nat.le_of_ble_eq_true rfl)⟩ hj4 (T := TX0) (N := 4) rfl (by decide) rfl (Nat.le_of_ble_eq_true rfl) dX5_read_94 ⟨Nat.zero_le _, Nat.zero_le _⟩ rfl) (fun σ6 hw => ?_)
  refine z_iconst (v := (-1)) hG dX5_read_97 (by decide) ?_
  exact z_iret hG rfl rfl dX5_read_98 hw
set_option maxRecDepth 100000 in
set_option maxHeartbeats 4000000 in
theorem BX5_read_44 {l : Launch} {E : zE} {Y : zY} {p : Program} {e : Env} {s : State} {m : MethodId} {args : Array Value} {below : List Frame} {meth : Method} {c : Code} (hG : zG E p l s m args meth c cX5_read 4 RX5 (some .int) (zA Y s.heap.size)) {Q : Int32 → zS → Prop} {kb18 : Nat → Nat → Int32 → zS → Prop} (hkb18 : ∀ (t0 : Nat) (t1 : Nat) (v2 : Int32) (σ : zS), kb18 t0 t1 v2 σ → zT Y 5 t0 → zT Y 6 t1 → WW E Y σ p l e rX5_read s m args below meth c (zA Y s.heap.size) 4 0 0 (MQ below (va_Qi Q (zB E Y s.heap.size) (zA Y s.heap.size)) args s 0 0 (zA Y s.heap.size)) [(0, .ref (za Y t0)), (1, .ref (za Y t1)), (2, .int v2)] 18 []) : ∀ (t0 : Nat) (t1 : Nat) (v2 : Int32) (vw0 : Int32) (σ : zS), wX5_read_44 (zln Y) Q kb18 t0 t1 v2 vw0 σ → zT Y 5 t0 → zT Y 6 t1 → WW E Y σ p l e rX5_read s m args below meth c (zA Y s.heap.size) 4 0 0 (MQ below (va_Qi Q (zB E Y s.heap.size) (zA Y s.heap.size)) args s 0 0 (zA Y s.heap.size)) [(0, .ref (za Y t0)), (1, .ref (za Y t1)), (2, .int v2)] 44 [.int vw0] := by
  intro t0 t1 v2 vw0 σ hw h0 h1
  unfold wX5_read_44 at hw
  refine z_istore_n (lv' := [(3, .int vw0), (0, .ref (za Y t0)), (1, .ref (za Y t1)), (2, .int v2)]) hG dX5_read_44 rfl (by decide) rfl ?_
  refine z_aload_n hG dX5_read_45 rfl 1 rfl ?_
  refine z_aload_n hG dX5_read_46 rfl 2 rfl ?_
  refine z_iload_n hG dX5_read_47 rfl 0 rfl ?_
  refine z_calli hG (z_runV (As := [.ref (za Y t1), .int vw0]) (st := []) hG k_X5_35 (MX5_statement l h0 h1 hw) ⟨(Nat.le_of_ble_eq_true rfl), (Nat.le_of_ble_eq_true rfl)⟩ h0 (T := TX5) (N := 3) rfl (by decide) rfl (Nat.le_of_ble_eq_true rfl) dX5_read_48 ⟨Nat.zero_le _, Nat.zero_le _⟩ rfl) (fun r2 σ1 hw => ?_)
  refine z_if_ne (tgt := 62) hG dX5_read_51 (by decide) (fun c7 => ?_) (fun c7 => ?_)
  · have hw := hw.2 c7
    refine z_aload_n hG dX5_read_62 rfl 1 rfl ?_
    obtain ⟨j3, ej3, hw⟩ := hw
    refine z_getr (kq := 10) hG f_X5_14 h0 rfl ej3 rfl (by decide) dX5_read_63 (fun hj3 => ?_)
    refine z_callv hG (z_runV (As := []) (st := []) hG k_X5_42 (MX10_take l hj3 hw) ⟨(Nat.le_of_ble_eq_true rfl), (Nat.le_of_ble_eq_true rfl)⟩ hj3 (T := TX10) (N := 4) rfl (by decide) rfl (Nat.le_of_ble_eq_true rfl) dX5_read_66 ⟨Nat.zero_le _, Nat.zero_le _⟩ rfl) (fun σ4 hw => ?_)
    obtain ⟨x5, ex5⟩ : ∃ y : Int32, y = v2 + 1 := ⟨_, rfl⟩
    have hw := hw x5 ex5
    refine z_iinc (v := x5) (lv' := [(2, .int x5), (3, .int vw0), (0, .ref (za Y t0)), (1, .ref (za Y t1))]) hG dX5_read_69 3 rfl (by rw [ex5]; rfl) (by decide) rfl ?_
    refine z_goto (tgt := 18) hG dX5_read_72 (by decide) ?_
    refine zpick [2, 3, 0] (lv' := [(0, .ref (za Y t0)), (1, .ref (za Y t1)), (2, .int x5)]) rfl ?_
    exact hkb18 t0 t1 x5 σ4 hw h0 h1
  · have hw := hw.1 c7
    refine z_aload_n hG dX5_read_54 rfl 1 rfl ?_
    obtain ⟨j6, ej6, hw⟩ := hw
    refine z_getr (kq := 10) hG f_X5_14 h0 rfl ej6 rfl (by decide) dX5_read_55 (fun hj6 => ?_)
    refine z_geti hG f_X5_39 hj6 rfl dX5_read_58 ?_
    exact z_iret hG rfl rfl dX5_read_61 hw
set_option maxRecDepth 100000 in
set_option maxHeartbeats 4000000 in
theorem BX5_read_18 {l : Launch} {E : zE} {Y : zY} {p : Program} {e : Env} {s : State} {m : MethodId} {args : Array Value} {below : List Frame} {meth : Method} {c : Code} (hG : zG E p l s m args meth c cX5_read 4 RX5 (some .int) (zA Y s.heap.size)) {Q : Int32 → zS → Prop} : ∀ (n : Nat) (t0 : Nat) (t1 : Nat) (v2 : Int32) (σ : zS), wX5_read_18 (zln Y) Q n t0 t1 v2 σ → zT Y 5 t0 → zT Y 6 t1 → WW E Y σ p l e rX5_read s m args below meth c (zA Y s.heap.size) 4 0 0 (MQ below (va_Qi Q (zB E Y s.heap.size) (zA Y s.heap.size)) args s 0 0 (zA Y s.heap.size)) [(0, .ref (za Y t0)), (1, .ref (za Y t1)), (2, .int v2)] 18 [] := by
  intro n
  induction n with
  | zero => intro t0 t1 v2 σ hw
            exact hw.elim
  | succ n ih =>
    intro t0 t1 v2 σ hw h0 h1
    rw [wX5_read_18] at hw
    refine z_iload_n hG dX5_read_18 rfl 2 rfl ?_
    refine z_sipush (v := 600) hG dX5_read_19 (by decide) ?_
    refine z_icmp_ge (tgt := 75) hG dX5_read_22 (by decide) (fun c4 => ?_) (fun c4 => ?_)
    · have hw := hw.1 c4
      refine zpick [1] (lv' := [(1, .ref (za Y t1))]) rfl ?_
      exact BX5_read_75 hG t1 σ hw h1
    · have hw := hw.2 c4
      refine z_aload_n hG dX5_read_25 rfl 0 rfl ?_
      obtain ⟨j1, ej1, hw⟩ := hw
      refine z_getr (kq := 10) hG f_X5_14 h0 rfl ej1 rfl (by decide) dX5_read_26 (fun hj1 => ?_)
      refine z_geti hG f_X5_32 hj1 rfl dX5_read_29 ?_
      refine z_if_eq (tgt := 75) hG dX5_read_32 (by decide) (fun c3 => ?_) (fun c3 => ?_)
      · have hw := hw.1 c3
        refine zpick [1] (lv' := [(1, .ref (za Y t1))]) rfl ?_
        exact BX5_read_75 hG t1 σ hw h1
      · have hw := hw.2 c3
        refine z_iload_n hG dX5_read_35 rfl 2 rfl ?_
        refine z_if_ne (tgt := 43) hG dX5_read_36 (by decide) (fun c2 => ?_) (fun c2 => ?_)
        · have hw := hw.2 c2
          refine z_iconst (v := 0) hG dX5_read_43 (by decide) ?_
          refine zpick [0, 1, 2] (lv' := [(0, .ref (za Y t0)), (1, .ref (za Y t1)), (2, .int v2)]) rfl ?_
          exact BX5_read_44 hG ih t0 t1 v2 0 σ hw h0 h1
        · have hw := hw.1 c2
          refine z_iconst (v := 1) hG dX5_read_39 (by decide) ?_
          refine z_goto (tgt := 44) hG dX5_read_40 (by decide) ?_
          refine zpick [0, 1, 2] (lv' := [(0, .ref (za Y t0)), (1, .ref (za Y t1)), (2, .int v2)]) rfl ?_
          exact BX5_read_44 hG ih t0 t1 v2 1 σ hw h0 h1
set_option maxRecDepth 100000 in
set_option maxHeartbeats 4000000 in
theorem MX5_read (l : Launch) {E : zE} {Y : zY} {σ : zS} {t0 : Nat} {t1 : Nat} (h0 : zT Y 5 t0) (h1 : zT Y 6 t1) {Q : Int32 → zS → Prop} (hw : wX5_read (zln Y) σ t0 t1 Q) : ∀ sz, Met l yX5_read (zw yX5_read cX5_read 4 (some .int)) rX5_read (zPc E Y σ sz [.ref (za Y t0), .ref (za Y t1)]) (va_Qi Q (zB E Y sz) (zA Y sz)) 0 0 (zA Y sz) := by
  refine z_met (own := RX5) (Qc := fun sz => va_Qi Q (zB E Y sz) (zA Y sz)) (by decide +kernel) rfl (Nat.le_of_ble_eq_true rfl) ?_
  intro p e s m args below meth c hG hinit
  unfold wX5_read at hw
  refine zlv (lv' := [(0, .ref (za Y t0)), (1, .ref (za Y t1))]) rfl ?_
  refine z_aload_n hG dX5_read_0 rfl 1 rfl ?_
  refine z_callv hG (z_runV (As := []) (st := []) hG k_X5_20 (MX6_reset l h1 hw) ⟨(Nat.le_of_ble_eq_true rfl), (Nat.le_of_ble_eq_true rfl)⟩ h1 (T := TX6) (N := 8) rfl (by decide) rfl (Nat.le_of_ble_eq_true rfl) dX5_read_1 ⟨Nat.zero_le _, Nat.zero_le _⟩ rfl) (fun σ1 hw => ?_)
  refine z_aload_n hG dX5_read_4 rfl 0 rfl ?_
  refine z_iconst (v := 0) hG dX5_read_5 (by decide) ?_
  refine z_puti hG f_X5_25 h0 rfl rfl (zN_int _) dX5_read_6 ?_
  refine z_topσ (fun σ2 eσ2 => ?_)
  have hw := hw σ2 eσ2
  refine z_aload_n hG dX5_read_9 rfl 0 rfl ?_
  obtain ⟨j3, ej3, hw⟩ := hw
  refine z_getr (kq := 10) hG f_X5_14 h0 rfl ej3 rfl (by decide) dX5_read_10 (fun hj3 => ?_)
  refine z_callv hG (z_runV (As := []) (st := []) hG k_X5_29 (MX10_begin l hj3 hw) ⟨(Nat.le_of_ble_eq_true rfl), (Nat.le_of_ble_eq_true rfl)⟩ hj3 (T := TX10) (N := 4) rfl (by decide) rfl (Nat.le_of_ble_eq_true rfl) dX5_read_13 ⟨Nat.zero_le _, Nat.zero_le _⟩ rfl) (fun σ4 hw => ?_)
  refine z_iconst (v := 0) hG dX5_read_16 (by decide) ?_
  refine z_istore_n (lv' := [(2, .int 0), (0, .ref (za Y t0)), (1, .ref (za Y t1))]) hG dX5_read_17 rfl (by decide) rfl ?_
  obtain ⟨n5, hw⟩ := hw
  refine zpick [1, 2, 0] (lv' := [(0, .ref (za Y t0)), (1, .ref (za Y t1)), (2, .int 0)]) rfl ?_
  exact BX5_read_18 hG n5 t0 t1 0 σ4 hw h0 h1
-- TypeWheelTelegraph$History.clear()V
def wX1_clear (ln : Nat → Nat) (σ : zS) (t0 : Nat) (Q : zS → Prop) : Prop := ∀ σ1 : zS, σ1 = si σ t0 2 0 → Q σ1
abbrev rX1_clear : Room := { frames := 0, cells := 0, slots := 0, locals := 0 }
set_option maxRecDepth 100000 in
set_option maxHeartbeats 4000000 in
theorem MX1_clear (l : Launch) {E : zE} {Y : zY} {σ : zS} {t0 : Nat} (h0 : zT Y 1 t0) {Q : zS → Prop} (hw : wX1_clear (zln Y) σ t0 Q) : ∀ sz, Met l yX1_clear (zw yX1_clear cX1_clear 1 none) rX1_clear (zPc E Y σ sz [.ref (za Y t0)]) (va_Qv Q (zB E Y sz) (zA Y sz)) 0 0 (zA Y sz) := by
  refine z_met (own := RX1) (Qc := fun sz => va_Qv Q (zB E Y sz) (zA Y sz)) (by decide +kernel) rfl (Nat.le_of_ble_eq_true rfl) ?_
  intro p e s m args below meth c hG hinit
  unfold wX1_clear at hw
  refine zlv (lv' := [(0, .ref (za Y t0))]) rfl ?_
  refine z_aload_n hG dX1_clear_0 rfl 0 rfl ?_
  refine z_iconst (v := 0) hG dX1_clear_1 (by decide) ?_
  refine z_puti hG f_X1_18 h0 rfl rfl (zN_int _) dX1_clear_2 ?_
  refine z_topσ (fun σ1 eσ1 => ?_)
  have hw := hw σ1 eσ1
  exact z_vret hG rfl dX1_clear_5 hw
-- TypeWheelTelegraph.load()I
def wxX11_load (ln : Nat → Nat) (σ : zS) (t0 : Nat) (Q : Int32 → zS → Prop) (X : String → zS → Prop) : Prop := ∃ j1 : Nat, gr σ t0 1 = some j1 ∧ ∃ j2 : Nat, gr σ t0 7 = some j2 ∧ wX5_read ln σ j1 j2 (fun r4 σ3 => ∀ σ5 : zS, σ5 = si σ3 t0 8 r4 → ∃ j6 : Nat, gr σ5 t0 0 = some j6 ∧ wX9_clear ln σ5 j6 (fun σ7 => (((gi σ7 t0 8) = (-1) → ∃ j8 : Nat, gr σ7 t0 7 = some j8 ∧ ∃ j9 : Nat, gr σ7 t0 6 = some j9 ∧ ∀ σ10 : zS, σ10 = sr σ7 t0 7 (some j9) → ∀ σ11 : zS, σ11 = sr σ10 t0 6 (some j8) → ∃ j12 : Nat, gr σ11 t0 3 = some j12 ∧ ∃ j13 : Nat, gr σ11 t0 6 = some j13 ∧ wX3_begin ln σ11 j12 j13 (fun σ14 => ∃ j15 : Nat, gr σ14 t0 5 = some j15 ∧ wX1_clear ln σ14 j15 (fun σ16 => ∃ j17 : Nat, gr σ16 t0 6 = some j17 ∧ ∃ j18 : Nat, gr σ16 j17 6 = some j18 ∧ ∃ j19 : Nat, gr σ16 t0 6 = some j19 ∧ ∃ j20 : Nat, gr σ16 j19 7 = some j20 ∧ Q ((gi σ16 j18 2) + (gi σ16 j20 2)) σ16))) ∧ (¬ (gi σ7 t0 8) = (-1) → X "java/lang/IllegalArgumentException" σ7))))
abbrev rxX11_load : Room := { frames := 8, cells := 1, slots := 6, locals := 175 }
set_option maxRecDepth 100000 in
set_option maxHeartbeats 4000000 in
theorem MxX11_load (l : Launch) (hlt : l.stackTraces = false) {E : zE} {Y : zY} {σ : zS} {t0 : Nat} (h0 : zT Y 11 t0) {Q : Int32 → zS → Prop} {X : String → zS → Prop} (hw : wxX11_load (zln Y) σ t0 Q X) : ∀ sz, vx_Met l yX11_load (zw yX11_load cX11_load 2 (some .int)) rxX11_load (zPc E Y σ sz [.ref (za Y t0)]) (va_Qi Q (zB E Y sz) (zA Y sz)) (zX X E Y sz) 1 6 (zA Y sz) := by
  refine z_metX (own := RX11) (Qc := fun sz => va_Qi Q (zB E Y sz) (zA Y sz)) (XC := fun sz => zX X E Y sz) (by decide +kernel) rfl (Nat.le_of_ble_eq_true rfl) ?_
  intro p e s m args below meth c hG hex
  unfold wxX11_load at hw
  refine zlv (lv' := [(0, .ref (za Y t0))]) rfl ?_
  refine z_aload_n hG dX11_load_0 rfl 0 rfl ?_
  refine z_aload_n hG dX11_load_1 rfl 0 rfl ?_
  obtain ⟨j1, ej1, hw⟩ := hw
  refine z_getr (kq := 5) hG f_X11_23 h0 rfl ej1 rfl (by decide) dX11_load_2 (fun hj1 => ?_)
  refine z_aload_n hG dX11_load_5 rfl 0 rfl ?_
  obtain ⟨j2, ej2, hw⟩ := hw
  refine z_getr (kq := 6) hG f_X11_41 h0 rfl ej2 rfl (by decide) dX11_load_6 (fun hj2 => ?_)
  refine z_calli hG (z_runV (As := [.ref (za Y j2)]) (st := [.ref (za Y t0)]) hG k_X11_92 (MX5_read l hj1 hj2 hw) ⟨(Nat.le_of_ble_eq_true rfl), (Nat.le_of_ble_eq_true rfl)⟩ hj1 (T := TX5) (N := 3) rfl (by decide) rfl (Nat.le_of_ble_eq_true rfl) dX11_load_9 ⟨show 0 + 0 ≤ 1 from by omega, show 0 + 0 ≤ 6 from by omega⟩ rfl) (fun r4 σ3 hw => ?_)
  refine z_puti hG f_X11_44 h0 rfl rfl (zN_int _) dX11_load_12 ?_
  refine z_topσ (fun σ5 eσ5 => ?_)
  have hw := hw σ5 eσ5
  refine z_aload_n hG dX11_load_15 rfl 0 rfl ?_
  obtain ⟨j6, ej6, hw⟩ := hw
  refine z_getr (kq := 9) hG f_X11_14 h0 rfl ej6 rfl (by decide) dX11_load_16 (fun hj6 => ?_)
  refine z_callv hG (z_runV (As := []) (st := []) hG k_X11_96 (MX9_clear l hj6 hw) ⟨(Nat.le_of_ble_eq_true rfl), (Nat.le_of_ble_eq_true rfl)⟩ hj6 (T := TX9) (N := 2) rfl (by decide) rfl (Nat.le_of_ble_eq_true rfl) dX11_load_19 ⟨show 0 + 0 ≤ 1 from by omega, show 0 + 0 ≤ 6 from by omega⟩ rfl) (fun σ7 hw => ?_)
  refine z_aload_n hG dX11_load_22 rfl 0 rfl ?_
  refine z_geti hG f_X11_44 h0 rfl dX11_load_23 ?_
  refine z_iconst (v := (-1)) hG dX11_load_26 (by decide) ?_
  refine z_icmp_eq (tgt := 40) hG dX11_load_27 (by decide) (fun c21 => ?_) (fun c21 => ?_)
  · have hw := hw.1 c21
    refine z_aload_n hG dX11_load_40 rfl 0 rfl ?_
    obtain ⟨j8, ej8, hw⟩ := hw
    refine z_getr (kq := 6) hG f_X11_41 h0 rfl ej8 rfl (by decide) dX11_load_41 (fun hj8 => ?_)
    refine z_astore_n (lv' := [(1, .ref (za Y j8)), (0, .ref (za Y t0))]) hG dX11_load_44 rfl (by decide) rfl ?_
    refine z_aload_n hG dX11_load_45 rfl 1 rfl ?_
    refine z_aload_n hG dX11_load_46 rfl 1 rfl ?_
    obtain ⟨j9, ej9, hw⟩ := hw
    refine z_getr (kq := 6) hG f_X11_37 h0 rfl ej9 rfl (by decide) dX11_load_47 (fun hj9 => ?_)
    refine z_putr hG f_X11_41 h0 rfl rfl rfl rfl (by decide) hj9 dX11_load_50 ?_
    refine z_topσ (fun σ10 eσ10 => ?_)
    have hw := hw σ10 eσ10
    refine z_aload_n hG dX11_load_53 rfl 1 rfl ?_
    refine z_aload_n hG dX11_load_54 rfl 0 rfl ?_
    refine z_putr hG f_X11_37 h0 rfl rfl rfl rfl (by decide) hj8 dX11_load_55 ?_
    refine z_topσ (fun σ11 eσ11 => ?_)
    have hw := hw σ11 eσ11
    refine z_aload_n hG dX11_load_58 rfl 1 rfl ?_
    obtain ⟨j12, ej12, hw⟩ := hw
    refine z_getr (kq := 3) hG f_X11_53 h0 rfl ej12 rfl (by decide) dX11_load_59 (fun hj12 => ?_)
    refine z_aload_n hG dX11_load_62 rfl 1 rfl ?_
    obtain ⟨j13, ej13, hw⟩ := hw
    refine z_getr (kq := 6) hG f_X11_37 h0 rfl ej13 rfl (by decide) dX11_load_63 (fun hj13 => ?_)
    refine z_callv hG (z_runV (As := [.ref (za Y j13)]) (st := []) hG k_X11_101 (MX3_begin l hj12 hj13 hw) ⟨(Nat.le_of_ble_eq_true rfl), (Nat.le_of_ble_eq_true rfl)⟩ hj12 (T := TX3) (N := 17) rfl (by decide) rfl (Nat.le_of_ble_eq_true rfl) dX11_load_66 ⟨show 0 + 0 ≤ 1 from by omega, show 0 + 0 ≤ 6 from by omega⟩ rfl) (fun σ14 hw => ?_)
    refine z_aload_n hG dX11_load_69 rfl 1 rfl ?_
    obtain ⟨j15, ej15, hw⟩ := hw
    refine z_getr (kq := 1) hG f_X11_63 h0 rfl ej15 rfl (by decide) dX11_load_70 (fun hj15 => ?_)
    refine z_callv hG (z_runV (As := []) (st := []) hG k_X11_104 (MX1_clear l hj15 hw) ⟨(Nat.le_of_ble_eq_true rfl), (Nat.le_of_ble_eq_true rfl)⟩ hj15 (T := TX1) (N := 3) rfl (by decide) rfl (Nat.le_of_ble_eq_true rfl) dX11_load_73 ⟨show 0 + 0 ≤ 1 from by omega, show 0 + 0 ≤ 6 from by omega⟩ rfl) (fun σ16 hw => ?_)
    refine z_aload_n hG dX11_load_76 rfl 1 rfl ?_
    obtain ⟨j17, ej17, hw⟩ := hw
    refine z_getr (kq := 6) hG f_X11_37 h0 rfl ej17 rfl (by decide) dX11_load_77 (fun hj17 => ?_)
    obtain ⟨j18, ej18, hw⟩ := hw
    refine z_getr (kq := 0) hG f_X11_105 hj17 rfl ej18 rfl (by decide) dX11_load_80 (fun hj18 => ?_)
    refine z_geti hG f_X11_109 hj18 rfl dX11_load_83 ?_
    refine z_aload_n hG dX11_load_86 rfl 1 rfl ?_
    obtain ⟨j19, ej19, hw⟩ := hw
    refine z_getr (kq := 6) hG f_X11_37 h0 rfl ej19 rfl (by decide) dX11_load_87 (fun hj19 => ?_)
    obtain ⟨j20, ej20, hw⟩ := hw
    refine z_getr (kq := 0) hG f_X11_114 hj19 rfl ej20 rfl (by decide) dX11_load_90 (fun hj20 => ?_)
    refine z_geti hG f_X11_109 hj20 rfl dX11_load_93 ?_
    refine z_iadd hG dX11_load_96 ?_
    refine zwiden (k := 1) (n := 6) (by omega) (by omega) (zvx ?_)
    exact z_iret hG rfl rfl dX11_load_97 hw
  · have hw := hw.2 c21
    exact z_throwS (i := 12) (tx := "the text does not match") hG hlt hex thr_IAE (by decide +kernel) dX11_load_30 dX11_load_33 dX11_load_34 dX11_load_36 dX11_load_39 (Nat.le_of_ble_eq_true rfl) (Nat.le_of_ble_eq_true rfl) (show 0 + 1 ≤ 1 from by omega) (show 0 + 6 ≤ 6 from by omega) (show 0 + 1 ≤ 1 from by omega) (show 0 + 6 ≤ 6 from by omega) hw
-- TypeWheelTelegraph.positions()I
def wX11_positions (ln : Nat → Nat) (σ : zS) (t0 : Nat) (Q : Int32 → zS → Prop) : Prop := ∃ j1 : Nat, gr σ t0 6 = some j1 ∧ Q (gi σ j1 0) σ
abbrev rX11_positions : Room := { frames := 0, cells := 0, slots := 0, locals := 0 }
set_option maxRecDepth 100000 in
set_option maxHeartbeats 4000000 in
theorem MX11_positions (l : Launch) {E : zE} {Y : zY} {σ : zS} {t0 : Nat} (h0 : zT Y 11 t0) {Q : Int32 → zS → Prop} (hw : wX11_positions (zln Y) σ t0 Q) : ∀ sz, Met l yX11_positions (zw yX11_positions cX11_positions 1 (some .int)) rX11_positions (zPc E Y σ sz [.ref (za Y t0)]) (va_Qi Q (zB E Y sz) (zA Y sz)) 0 0 (zA Y sz) := by
  refine z_met (own := RX11) (Qc := fun sz => va_Qi Q (zB E Y sz) (zA Y sz)) (by decide +kernel) rfl (Nat.le_of_ble_eq_true rfl) ?_
  intro p e s m args below meth c hG hinit
  unfold wX11_positions at hw
  refine zlv (lv' := [(0, .ref (za Y t0))]) rfl ?_
  refine z_aload_n hG dX11_positions_0 rfl 0 rfl ?_
  obtain ⟨j1, ej1, hw⟩ := hw
  refine z_getr (kq := 6) hG f_X11_37 h0 rfl ej1 rfl (by decide) dX11_positions_1 (fun hj1 => ?_)
  refine z_geti hG f_X11_117 hj1 rfl dX11_positions_4 ?_
  exact z_iret hG rfl rfl dX11_positions_7 hw
-- TypeWheelTelegraph.time()I
def wX11_time (ln : Nat → Nat) (σ : zS) (t0 : Nat) (Q : Int32 → zS → Prop) : Prop := ∃ j1 : Nat, gr σ t0 3 = some j1 ∧ Q (gi σ j1 1) σ
abbrev rX11_time : Room := { frames := 0, cells := 0, slots := 0, locals := 0 }
set_option maxRecDepth 100000 in
set_option maxHeartbeats 4000000 in
theorem MX11_time (l : Launch) {E : zE} {Y : zY} {σ : zS} {t0 : Nat} (h0 : zT Y 11 t0) {Q : Int32 → zS → Prop} (hw : wX11_time (zln Y) σ t0 Q) : ∀ sz, Met l yX11_time (zw yX11_time cX11_time 1 (some .int)) rX11_time (zPc E Y σ sz [.ref (za Y t0)]) (va_Qi Q (zB E Y sz) (zA Y sz)) 0 0 (zA Y sz) := by
  refine z_met (own := RX11) (Qc := fun sz => va_Qi Q (zB E Y sz) (zA Y sz)) (by decide +kernel) rfl (Nat.le_of_ble_eq_true rfl) ?_
  intro p e s m args below meth c hG hinit
  unfold wX11_time at hw
  refine zlv (lv' := [(0, .ref (za Y t0))]) rfl ?_
  refine z_aload_n hG dX11_time_0 rfl 0 rfl ?_
  obtain ⟨j1, ej1, hw⟩ := hw
  refine z_getr (kq := 3) hG f_X11_53 h0 rfl ej1 rfl (by decide) dX11_time_1 (fun hj1 => ?_)
  refine z_geti hG f_X11_120 hj1 rfl dX11_time_4 ?_
  exact z_iret hG rfl rfl dX11_time_7 hw
-- TypeWheelTelegraph.requireOffice(I)V
def wX11_requireOffice (ln : Nat → Nat) (σ : zS) (v0 : Int32) (Q : zS → Prop) : Prop := ((v0 = 0 → Q σ) ∧ (¬ v0 = 0 → ((v0 = 1 → Q σ) ∧ (¬ v0 = 1 → False))))
abbrev rX11_requireOffice : Room := { frames := 0, cells := 0, slots := 0, locals := 0 }
set_option maxRecDepth 100000 in
set_option maxHeartbeats 4000000 in
theorem MX11_requireOffice (l : Launch) {E : zE} {Y : zY} {σ : zS} {v0 : Int32} {Q : zS → Prop} (hw : wX11_requireOffice (zln Y) σ v0 Q) : ∀ sz, Met l yX11_requireOffice (zw yX11_requireOffice cX11_requireOffice 1 none) rX11_requireOffice (zPc E Y σ sz [.int v0]) (va_Qv Q (zB E Y sz) (zA Y sz)) 0 0 (zA Y sz) := by
  refine z_met (own := RX11) (Qc := fun sz => va_Qv Q (zB E Y sz) (zA Y sz)) (by decide +kernel) rfl (Nat.le_of_ble_eq_true rfl) ?_
  intro p e s m args below meth c hG hinit
  unfold wX11_requireOffice at hw
  refine zlv (lv' := [(0, .int v0)]) rfl ?_
  refine z_iload_n hG dX11_requireOffice_0 rfl 0 rfl ?_
  refine z_if_eq (tgt := 20) hG dX11_requireOffice_1 (by decide) (fun c2 => ?_) (fun c2 => ?_)
  · have hw := hw.1 c2
    exact z_vret hG rfl dX11_requireOffice_20 hw
  · have hw := hw.2 c2
    refine z_iload_n hG dX11_requireOffice_4 rfl 0 rfl ?_
    refine z_iconst (v := 1) hG dX11_requireOffice_5 (by decide) ?_
    refine z_icmp_eq (tgt := 20) hG dX11_requireOffice_6 (by decide) (fun c1 => ?_) (fun c1 => ?_)
    · have hw := hw.1 c1
      exact z_vret hG rfl dX11_requireOffice_20 hw
    · have hw := hw.2 c1
      exact hw.elim
-- TypeWheelTelegraph.requireOffice(I)V
def wxX11_requireOffice (ln : Nat → Nat) (σ : zS) (v0 : Int32) (Q : zS → Prop) (X : String → zS → Prop) : Prop := ((v0 = 0 → Q σ) ∧ (¬ v0 = 0 → ((v0 = 1 → Q σ) ∧ (¬ v0 = 1 → X "java/lang/IndexOutOfBoundsException" σ))))
abbrev rxX11_requireOffice : Room := { frames := 6, cells := 1, slots := 6, locals := 100 }
set_option maxRecDepth 100000 in
set_option maxHeartbeats 4000000 in
theorem MxX11_requireOffice (l : Launch) (hlt : l.stackTraces = false) {E : zE} {Y : zY} {σ : zS} {v0 : Int32} {Q : zS → Prop} {X : String → zS → Prop} (hw : wxX11_requireOffice (zln Y) σ v0 Q X) : ∀ sz, vx_Met l yX11_requireOffice (zw yX11_requireOffice cX11_requireOffice 1 none) rxX11_requireOffice (zPc E Y σ sz [.int v0]) (va_Qv Q (zB E Y sz) (zA Y sz)) (zX X E Y sz) 1 6 (zA Y sz) := by
  refine z_metX (own := RX11) (Qc := fun sz => va_Qv Q (zB E Y sz) (zA Y sz)) (XC := fun sz => zX X E Y sz) (by decide +kernel) rfl (Nat.le_of_ble_eq_true rfl) ?_
  intro p e s m args below meth c hG hex
  unfold wxX11_requireOffice at hw
  refine zlv (lv' := [(0, .int v0)]) rfl ?_
  refine z_iload_n hG dX11_requireOffice_0 rfl 0 rfl ?_
  refine z_if_eq (tgt := 20) hG dX11_requireOffice_1 (by decide) (fun c2 => ?_) (fun c2 => ?_)
  · have hw := hw.1 c2
    refine zwiden (k := 1) (n := 6) (by omega) (by omega) (zvx ?_)
    exact z_vret hG rfl dX11_requireOffice_20 hw
  · have hw := hw.2 c2
    refine z_iload_n hG dX11_requireOffice_4 rfl 0 rfl ?_
    refine z_iconst (v := 1) hG dX11_requireOffice_5 (by decide) ?_
    refine z_icmp_eq (tgt := 20) hG dX11_requireOffice_6 (by decide) (fun c1 => ?_) (fun c1 => ?_)
    · have hw := hw.1 c1
      refine zwiden (k := 1) (n := 6) (by omega) (by omega) (zvx ?_)
      exact z_vret hG rfl dX11_requireOffice_20 hw
    · have hw := hw.2 c1
      exact z_throwSW (i := 0) (tx := "an office is 0 or 1") hG hlt hex thr_IOE (by decide +kernel) dX11_requireOffice_9 dX11_requireOffice_12 dX11_requireOffice_13 dX11_requireOffice_16 dX11_requireOffice_19 (Nat.le_of_ble_eq_true rfl) (Nat.le_of_ble_eq_true rfl) (show 0 + 1 ≤ 1 from by omega) (show 0 + 6 ≤ 6 from by omega) (show 0 + 1 ≤ 1 from by omega) (show 0 + 6 ≤ 6 from by omega) hw
-- TypeWheelTelegraph$Machine.office(I)LTypeWheelTelegraph$Office;
def wX3_office (ln : Nat → Nat) (σ : zS) (t0 : Nat) (v1 : Int32) (Q : Nat → zS → Prop) : Prop := ((v1 = 1 → ∃ j2 : Nat, gr σ t0 12 = some j2 ∧ Q j2 σ) ∧ (¬ v1 = 1 → ∃ j1 : Nat, gr σ t0 11 = some j1 ∧ Q j1 σ))
abbrev rX3_office : Room := { frames := 0, cells := 0, slots := 0, locals := 0 }
set_option maxRecDepth 100000 in
set_option maxHeartbeats 4000000 in
theorem MX3_office (l : Launch) {E : zE} {Y : zY} {σ : zS} {t0 : Nat} {v1 : Int32} (h0 : zT Y 3 t0) {Q : Nat → zS → Prop} (hw : wX3_office (zln Y) σ t0 v1 Q) : ∀ sz, Met l yX3_office (zw yX3_office cX3_office 2 (some (.object "TypeWheelTelegraph$Office"))) rX3_office (zPc E Y σ sz [.ref (za Y t0), .int v1]) (va_Qe (za Y) (zQe (zSm Q)) (zBe E Y sz 4) (zA Y sz)) 0 0 (zA Y sz) := by
  refine z_met (own := RX3) (Qc := fun sz => va_Qe (za Y) (zQe (zSm Q)) (zBe E Y sz 4) (zA Y sz)) (by decide +kernel) rfl (Nat.le_of_ble_eq_true rfl) ?_
  intro p e s m args below meth c hG hinit
  unfold wX3_office at hw
  refine zlv (lv' := [(0, .ref (za Y t0)), (1, .int v1)]) rfl ?_
  refine z_iload_n hG dX3_office_0 rfl 1 rfl ?_
  refine z_iconst (v := 1) hG dX3_office_1 (by decide) ?_
  refine z_icmp_ne (tgt := 12) hG dX3_office_2 (by decide) (fun c3 => ?_) (fun c3 => ?_)
  · have hw := hw.2 c3
    refine z_aload_n hG dX3_office_12 rfl 0 rfl ?_
    obtain ⟨j1, ej1, hw⟩ := hw
    refine z_getr (kq := 4) hG f_X3_18 h0 rfl ej1 rfl (by decide) dX3_office_13 (fun hj1 => ?_)
    exact z_aret hG rfl (Or.inl ⟨_, rfl⟩) hj1 dX3_office_16 ⟨_, rfl, hw⟩
  · have hw := hw.1 c3
    refine z_aload_n hG dX3_office_5 rfl 0 rfl ?_
    obtain ⟨j2, ej2, hw⟩ := hw
    refine z_getr (kq := 4) hG f_X3_22 h0 rfl ej2 rfl (by decide) dX3_office_6 (fun hj2 => ?_)
    refine z_goto (tgt := 16) hG dX3_office_9 (by decide) ?_
    exact z_aret hG rfl (Or.inl ⟨_, rfl⟩) hj2 dX3_office_16 ⟨_, rfl, hw⟩
-- TypeWheelTelegraph.officeAt(I)LTypeWheelTelegraph$Office;
def wX11_officeAt (ln : Nat → Nat) (σ : zS) (t0 : Nat) (v1 : Int32) (Q : Nat → zS → Prop) : Prop := wX11_requireOffice ln σ v1 (fun σ1 => ∃ j2 : Nat, gr σ1 t0 3 = some j2 ∧ wX3_office ln σ1 j2 v1 (fun r4 σ3 => Q r4 σ3))
abbrev rX11_officeAt : Room := { frames := 1, cells := 0, slots := 0, locals := 21 }
set_option maxRecDepth 100000 in
set_option maxHeartbeats 4000000 in
theorem MX11_officeAt (l : Launch) {E : zE} {Y : zY} {σ : zS} {t0 : Nat} {v1 : Int32} (h0 : zT Y 11 t0) {Q : Nat → zS → Prop} (hw : wX11_officeAt (zln Y) σ t0 v1 Q) : ∀ sz, Met l yX11_officeAt (zw yX11_officeAt cX11_officeAt 2 (some (.object "TypeWheelTelegraph$Office"))) rX11_officeAt (zPc E Y σ sz [.ref (za Y t0), .int v1]) (va_Qe (za Y) (zQe (zSm Q)) (zBe E Y sz 4) (zA Y sz)) 0 0 (zA Y sz) := by
  refine z_met (own := RX11) (Qc := fun sz => va_Qe (za Y) (zQe (zSm Q)) (zBe E Y sz 4) (zA Y sz)) (by decide +kernel) rfl (Nat.le_of_ble_eq_true rfl) ?_
  intro p e s m args below meth c hG hinit
  unfold wX11_officeAt at hw
  refine zlv (lv' := [(0, .ref (za Y t0)), (1, .int v1)]) rfl ?_
  refine z_iload_n hG dX11_officeAt_0 rfl 1 rfl ?_
  refine z_callv hG (z_runS (As := [.int v1]) (st := []) hG k_X11_330 (MX11_requireOffice l hw) ⟨(Nat.le_of_ble_eq_true rfl), (Nat.le_of_ble_eq_true rfl)⟩ rfl (Nat.le_of_ble_eq_true rfl) dX11_officeAt_1 ⟨Nat.zero_le _, Nat.zero_le _⟩ rfl) (fun σ1 hw => ?_)
  refine z_aload_n hG dX11_officeAt_4 rfl 0 rfl ?_
  obtain ⟨j2, ej2, hw⟩ := hw
  refine z_getr (kq := 3) hG f_X11_53 h0 rfl ej2 rfl (by decide) dX11_officeAt_5 (fun hj2 => ?_)
  refine z_iload_n hG dX11_officeAt_8 rfl 1 rfl ?_
  refine z_callr hG (z_runV (As := [.int v1]) (st := []) hG k_X11_220 (MX3_office l hj2 hw) ⟨(Nat.le_of_ble_eq_true rfl), (Nat.le_of_ble_eq_true rfl)⟩ hj2 (T := TX3) (N := 17) rfl (by decide) rfl (Nat.le_of_ble_eq_true rfl) dX11_officeAt_9 ⟨Nat.zero_le _, Nat.zero_le _⟩ rfl) (fun r4 σ3 hr4 hw => ?_)
  exact z_aret hG rfl (Or.inl ⟨_, rfl⟩) hr4 dX11_officeAt_12 ⟨_, rfl, hw⟩
-- TypeWheelTelegraph.officeAt(I)LTypeWheelTelegraph$Office;
def wxX11_officeAt (ln : Nat → Nat) (σ : zS) (t0 : Nat) (v1 : Int32) (Q : Nat → zS → Prop) (X : String → zS → Prop) : Prop := wxX11_requireOffice ln σ v1 (fun σ1 => ∃ j3 : Nat, gr σ1 t0 3 = some j3 ∧ wX3_office ln σ1 j3 v1 (fun r5 σ4 => Q r5 σ4)) X
abbrev rxX11_officeAt : Room := { frames := 7, cells := 1, slots := 6, locals := 120 }
set_option maxRecDepth 100000 in
set_option maxHeartbeats 4000000 in
theorem MxX11_officeAt (l : Launch) (hlt : l.stackTraces = false) {E : zE} {Y : zY} {σ : zS} {t0 : Nat} {v1 : Int32} (h0 : zT Y 11 t0) {Q : Nat → zS → Prop} {X : String → zS → Prop} (hw : wxX11_officeAt (zln Y) σ t0 v1 Q X) : ∀ sz, vx_Met l yX11_officeAt (zw yX11_officeAt cX11_officeAt 2 (some (.object "TypeWheelTelegraph$Office"))) rxX11_officeAt (zPc E Y σ sz [.ref (za Y t0), .int v1]) (va_Qe (za Y) (zQe (zSm Q)) (zBe E Y sz 4) (zA Y sz)) (zX X E Y sz) 1 6 (zA Y sz) := by
  refine z_metX (own := RX11) (Qc := fun sz => va_Qe (za Y) (zQe (zSm Q)) (zBe E Y sz 4) (zA Y sz)) (XC := fun sz => zX X E Y sz) (by decide +kernel) rfl (Nat.le_of_ble_eq_true rfl) ?_
  intro p e s m args below meth c hG hex
  unfold wxX11_officeAt at hw
  refine zlv (lv' := [(0, .ref (za Y t0)), (1, .int v1)]) rfl ?_
  refine z_iload_n hG dX11_officeAt_0 rfl 1 rfl ?_
  refine z_callXv hG hex (z_runXS (As := [.int v1]) (st := []) hG k_X11_330 (MxX11_requireOffice l hlt hw) rfl rfl ⟨(Nat.le_of_ble_eq_true rfl), (Nat.le_of_ble_eq_true rfl)⟩ rfl (Nat.le_of_ble_eq_true rfl) dX11_officeAt_1 ⟨show 0 + 1 ≤ 1 from by omega, show 0 + 6 ≤ 6 from by omega⟩ rfl) (show 0 + 1 ≤ 1 from by omega) (show 0 + 6 ≤ 6 from by omega) (fun σ1 hw => ?_)
  refine zwiden (k := 1) (n := 6) (show 0 + 1 ≤ 1 from by omega) (show 0 + 6 ≤ 6 from by omega) ?_
  refine z_aload_n hG dX11_officeAt_4 rfl 0 rfl ?_
  obtain ⟨j3, ej3, hw⟩ := hw
  refine z_getr (kq := 3) hG f_X11_53 h0 rfl ej3 rfl (by decide) dX11_officeAt_5 (fun hj3 => ?_)
  refine z_iload_n hG dX11_officeAt_8 rfl 1 rfl ?_
  refine z_callr hG (z_runV (As := [.int v1]) (st := []) hG k_X11_220 (MX3_office l hj3 hw) ⟨(Nat.le_of_ble_eq_true rfl), (Nat.le_of_ble_eq_true rfl)⟩ hj3 (T := TX3) (N := 17) rfl (by decide) rfl (Nat.le_of_ble_eq_true rfl) dX11_officeAt_9 ⟨show 1 + 0 ≤ 1 from by omega, show 6 + 0 ≤ 6 from by omega⟩ rfl) (fun r5 σ4 hr5 hw => ?_)
  refine zwiden (k := 1) (n := 6) (by omega) (by omega) (zvx ?_)
  exact z_aret hG rfl (Or.inl ⟨_, rfl⟩) hr5 dX11_officeAt_12 ⟨_, rfl, hw⟩
-- TypeWheelTelegraph.phase(I)I
def wX11_phase (ln : Nat → Nat) (σ : zS) (t0 : Nat) (v1 : Int32) (Q : Int32 → zS → Prop) : Prop := wX11_officeAt ln σ t0 v1 (fun r2 σ1 => Q (gi σ1 r2 0) σ1)
abbrev rX11_phase : Room := { frames := 2, cells := 0, slots := 0, locals := 42 }
set_option maxRecDepth 100000 in
set_option maxHeartbeats 4000000 in
theorem MX11_phase (l : Launch) {E : zE} {Y : zY} {σ : zS} {t0 : Nat} {v1 : Int32} (h0 : zT Y 11 t0) {Q : Int32 → zS → Prop} (hw : wX11_phase (zln Y) σ t0 v1 Q) : ∀ sz, Met l yX11_phase (zw yX11_phase cX11_phase 2 (some .int)) rX11_phase (zPc E Y σ sz [.ref (za Y t0), .int v1]) (va_Qi Q (zB E Y sz) (zA Y sz)) 0 0 (zA Y sz) := by
  refine z_met (own := RX11) (Qc := fun sz => va_Qi Q (zB E Y sz) (zA Y sz)) (by decide +kernel) rfl (Nat.le_of_ble_eq_true rfl) ?_
  intro p e s m args below meth c hG hinit
  unfold wX11_phase at hw
  refine zlv (lv' := [(0, .ref (za Y t0)), (1, .int v1)]) rfl ?_
  refine z_aload_n hG dX11_phase_0 rfl 0 rfl ?_
  refine z_iload_n hG dX11_phase_1 rfl 1 rfl ?_
  refine z_callr hG (z_runV (As := [.int v1]) (st := []) hG k_X11_123 (MX11_officeAt l h0 hw) ⟨(Nat.le_of_ble_eq_true rfl), (Nat.le_of_ble_eq_true rfl)⟩ h0 (T := TX11) (N := 9) rfl (by decide) rfl (Nat.le_of_ble_eq_true rfl) dX11_phase_2 ⟨Nat.zero_le _, Nat.zero_le _⟩ rfl) (fun r2 σ1 hr2 hw => ?_)
  refine z_geti hG f_X11_127 hr2 rfl dX11_phase_5 ?_
  exact z_iret hG rfl rfl dX11_phase_8 hw
-- TypeWheelTelegraph.phase(I)I
def wxX11_phase (ln : Nat → Nat) (σ : zS) (t0 : Nat) (v1 : Int32) (Q : Int32 → zS → Prop) (X : String → zS → Prop) : Prop := wxX11_officeAt ln σ t0 v1 (fun r2 σ1 => Q (gi σ1 r2 0) σ1) X
abbrev rxX11_phase : Room := { frames := 8, cells := 1, slots := 6, locals := 141 }
set_option maxRecDepth 100000 in
set_option maxHeartbeats 4000000 in
theorem MxX11_phase (l : Launch) (hlt : l.stackTraces = false) {E : zE} {Y : zY} {σ : zS} {t0 : Nat} {v1 : Int32} (h0 : zT Y 11 t0) {Q : Int32 → zS → Prop} {X : String → zS → Prop} (hw : wxX11_phase (zln Y) σ t0 v1 Q X) : ∀ sz, vx_Met l yX11_phase (zw yX11_phase cX11_phase 2 (some .int)) rxX11_phase (zPc E Y σ sz [.ref (za Y t0), .int v1]) (va_Qi Q (zB E Y sz) (zA Y sz)) (zX X E Y sz) 1 6 (zA Y sz) := by
  refine z_metX (own := RX11) (Qc := fun sz => va_Qi Q (zB E Y sz) (zA Y sz)) (XC := fun sz => zX X E Y sz) (by decide +kernel) rfl (Nat.le_of_ble_eq_true rfl) ?_
  intro p e s m args below meth c hG hex
  unfold wxX11_phase at hw
  refine zlv (lv' := [(0, .ref (za Y t0)), (1, .int v1)]) rfl ?_
  refine z_aload_n hG dX11_phase_0 rfl 0 rfl ?_
  refine z_iload_n hG dX11_phase_1 rfl 1 rfl ?_
  refine z_callXr hG hex (z_runXV (As := [.int v1]) (st := []) hG k_X11_123 (MxX11_officeAt l hlt h0 hw) rfl rfl ⟨(Nat.le_of_ble_eq_true rfl), (Nat.le_of_ble_eq_true rfl)⟩ h0 (T := TX11) (N := 9) rfl (by decide) rfl (Nat.le_of_ble_eq_true rfl) dX11_phase_2 ⟨show 0 + 1 ≤ 1 from by omega, show 0 + 6 ≤ 6 from by omega⟩ rfl) (show 0 + 1 ≤ 1 from by omega) (show 0 + 6 ≤ 6 from by omega) (fun r2 σ1 hr2 hw => ?_)
  refine zwiden (k := 1) (n := 6) (show 0 + 1 ≤ 1 from by omega) (show 0 + 6 ≤ 6 from by omega) ?_
  refine z_geti hG f_X11_127 hr2 rfl dX11_phase_5 ?_
  refine zwiden (k := 1) (n := 6) (by omega) (by omega) (zvx ?_)
  exact z_iret hG rfl rfl dX11_phase_8 hw
-- TypeWheelTelegraph.rate(I)I
def wX11_rate (ln : Nat → Nat) (σ : zS) (t0 : Nat) (v1 : Int32) (Q : Int32 → zS → Prop) : Prop := wX11_officeAt ln σ t0 v1 (fun r2 σ1 => Q (gi σ1 r2 1) σ1)
abbrev rX11_rate : Room := { frames := 2, cells := 0, slots := 0, locals := 42 }
set_option maxRecDepth 100000 in
set_option maxHeartbeats 4000000 in
theorem MX11_rate (l : Launch) {E : zE} {Y : zY} {σ : zS} {t0 : Nat} {v1 : Int32} (h0 : zT Y 11 t0) {Q : Int32 → zS → Prop} (hw : wX11_rate (zln Y) σ t0 v1 Q) : ∀ sz, Met l yX11_rate (zw yX11_rate cX11_rate 2 (some .int)) rX11_rate (zPc E Y σ sz [.ref (za Y t0), .int v1]) (va_Qi Q (zB E Y sz) (zA Y sz)) 0 0 (zA Y sz) := by
  refine z_met (own := RX11) (Qc := fun sz => va_Qi Q (zB E Y sz) (zA Y sz)) (by decide +kernel) rfl (Nat.le_of_ble_eq_true rfl) ?_
  intro p e s m args below meth c hG hinit
  unfold wX11_rate at hw
  refine zlv (lv' := [(0, .ref (za Y t0)), (1, .int v1)]) rfl ?_
  refine z_aload_n hG dX11_rate_0 rfl 0 rfl ?_
  refine z_iload_n hG dX11_rate_1 rfl 1 rfl ?_
  refine z_callr hG (z_runV (As := [.int v1]) (st := []) hG k_X11_123 (MX11_officeAt l h0 hw) ⟨(Nat.le_of_ble_eq_true rfl), (Nat.le_of_ble_eq_true rfl)⟩ h0 (T := TX11) (N := 9) rfl (by decide) rfl (Nat.le_of_ble_eq_true rfl) dX11_rate_2 ⟨Nat.zero_le _, Nat.zero_le _⟩ rfl) (fun r2 σ1 hr2 hw => ?_)
  refine z_geti hG f_X11_132 hr2 rfl dX11_rate_5 ?_
  exact z_iret hG rfl rfl dX11_rate_8 hw
-- TypeWheelTelegraph.rate(I)I
def wxX11_rate (ln : Nat → Nat) (σ : zS) (t0 : Nat) (v1 : Int32) (Q : Int32 → zS → Prop) (X : String → zS → Prop) : Prop := wxX11_officeAt ln σ t0 v1 (fun r2 σ1 => Q (gi σ1 r2 1) σ1) X
abbrev rxX11_rate : Room := { frames := 8, cells := 1, slots := 6, locals := 141 }
set_option maxRecDepth 100000 in
set_option maxHeartbeats 4000000 in
theorem MxX11_rate (l : Launch) (hlt : l.stackTraces = false) {E : zE} {Y : zY} {σ : zS} {t0 : Nat} {v1 : Int32} (h0 : zT Y 11 t0) {Q : Int32 → zS → Prop} {X : String → zS → Prop} (hw : wxX11_rate (zln Y) σ t0 v1 Q X) : ∀ sz, vx_Met l yX11_rate (zw yX11_rate cX11_rate 2 (some .int)) rxX11_rate (zPc E Y σ sz [.ref (za Y t0), .int v1]) (va_Qi Q (zB E Y sz) (zA Y sz)) (zX X E Y sz) 1 6 (zA Y sz) := by
  refine z_metX (own := RX11) (Qc := fun sz => va_Qi Q (zB E Y sz) (zA Y sz)) (XC := fun sz => zX X E Y sz) (by decide +kernel) rfl (Nat.le_of_ble_eq_true rfl) ?_
  intro p e s m args below meth c hG hex
  unfold wxX11_rate at hw
  refine zlv (lv' := [(0, .ref (za Y t0)), (1, .int v1)]) rfl ?_
  refine z_aload_n hG dX11_rate_0 rfl 0 rfl ?_
  refine z_iload_n hG dX11_rate_1 rfl 1 rfl ?_
  refine z_callXr hG hex (z_runXV (As := [.int v1]) (st := []) hG k_X11_123 (MxX11_officeAt l hlt h0 hw) rfl rfl ⟨(Nat.le_of_ble_eq_true rfl), (Nat.le_of_ble_eq_true rfl)⟩ h0 (T := TX11) (N := 9) rfl (by decide) rfl (Nat.le_of_ble_eq_true rfl) dX11_rate_2 ⟨show 0 + 1 ≤ 1 from by omega, show 0 + 6 ≤ 6 from by omega⟩ rfl) (show 0 + 1 ≤ 1 from by omega) (show 0 + 6 ≤ 6 from by omega) (fun r2 σ1 hr2 hw => ?_)
  refine zwiden (k := 1) (n := 6) (show 0 + 1 ≤ 1 from by omega) (show 0 + 6 ≤ 6 from by omega) ?_
  refine z_geti hG f_X11_132 hr2 rfl dX11_rate_5 ?_
  refine zwiden (k := 1) (n := 6) (by omega) (by omega) (zvx ?_)
  exact z_iret hG rfl rfl dX11_rate_8 hw
-- TypeWheelTelegraph$Office.nearestPosition()I
def wX4_nearestPosition (ln : Nat → Nat) (σ : zS) (t0 : Nat) (Q : Int32 → zS → Prop) : Prop := Q (((gi σ t0 0) + 500) / 1000) σ
abbrev rX4_nearestPosition : Room := { frames := 0, cells := 0, slots := 0, locals := 0 }
set_option maxRecDepth 100000 in
set_option maxHeartbeats 4000000 in
theorem MX4_nearestPosition (l : Launch) {E : zE} {Y : zY} {σ : zS} {t0 : Nat} (h0 : zT Y 4 t0) {Q : Int32 → zS → Prop} (hw : wX4_nearestPosition (zln Y) σ t0 Q) : ∀ sz, Met l yX4_nearestPosition (zw yX4_nearestPosition cX4_nearestPosition 1 (some .int)) rX4_nearestPosition (zPc E Y σ sz [.ref (za Y t0)]) (va_Qi Q (zB E Y sz) (zA Y sz)) 0 0 (zA Y sz) := by
  refine z_met (own := RX4) (Qc := fun sz => va_Qi Q (zB E Y sz) (zA Y sz)) (by decide +kernel) rfl (Nat.le_of_ble_eq_true rfl) ?_
  intro p e s m args below meth c hG hinit
  unfold wX4_nearestPosition at hw
  refine zlv (lv' := [(0, .ref (za Y t0))]) rfl ?_
  refine z_aload_n hG dX4_nearestPosition_0 rfl 0 rfl ?_
  refine z_geti hG f_X4_26 h0 rfl dX4_nearestPosition_1 ?_
  refine z_sipush (v := 500) hG dX4_nearestPosition_4 (by decide) ?_
  refine z_iadd hG dX4_nearestPosition_7 ?_
  refine z_sipush (v := 1000) hG dX4_nearestPosition_8 (by decide) ?_
  refine z_idiv hG dX4_nearestPosition_11 (by decide) ?_
  exact z_iret hG rfl rfl dX4_nearestPosition_12 hw
-- TypeWheelTelegraph.facing(I)I
def wX11_facing (ln : Nat → Nat) (σ : zS) (t0 : Nat) (v1 : Int32) (Q : Int32 → zS → Prop) : Prop := wX11_officeAt ln σ t0 v1 (fun r2 σ1 => wX4_nearestPosition ln σ1 r2 (fun r4 σ3 => ∃ j5 : Nat, gr σ3 t0 6 = some j5 ∧ ∀ x6 : Int32, x6 = gi σ3 j5 0 → wX11_modulo ln σ3 r4 x6 (fun r8 σ7 => Q r8 σ7)))
abbrev rX11_facing : Room := { frames := 2, cells := 0, slots := 0, locals := 43 }
set_option maxRecDepth 100000 in
set_option maxHeartbeats 4000000 in
theorem MX11_facing (l : Launch) {E : zE} {Y : zY} {σ : zS} {t0 : Nat} {v1 : Int32} (h0 : zT Y 11 t0) {Q : Int32 → zS → Prop} (hw : wX11_facing (zln Y) σ t0 v1 Q) : ∀ sz, Met l yX11_facing (zw yX11_facing cX11_facing 2 (some .int)) rX11_facing (zPc E Y σ sz [.ref (za Y t0), .int v1]) (va_Qi Q (zB E Y sz) (zA Y sz)) 0 0 (zA Y sz) := by
  refine z_met (own := RX11) (Qc := fun sz => va_Qi Q (zB E Y sz) (zA Y sz)) (by decide +kernel) rfl (Nat.le_of_ble_eq_true rfl) ?_
  intro p e s m args below meth c hG hinit
  unfold wX11_facing at hw
  refine zlv (lv' := [(0, .ref (za Y t0)), (1, .int v1)]) rfl ?_
  refine z_aload_n hG dX11_facing_0 rfl 0 rfl ?_
  refine z_iload_n hG dX11_facing_1 rfl 1 rfl ?_
  refine z_callr hG (z_runV (As := [.int v1]) (st := []) hG k_X11_123 (MX11_officeAt l h0 hw) ⟨(Nat.le_of_ble_eq_true rfl), (Nat.le_of_ble_eq_true rfl)⟩ h0 (T := TX11) (N := 9) rfl (by decide) rfl (Nat.le_of_ble_eq_true rfl) dX11_facing_2 ⟨Nat.zero_le _, Nat.zero_le _⟩ rfl) (fun r2 σ1 hr2 hw => ?_)
  refine z_calli hG (z_runV (As := []) (st := []) hG k_X11_135 (MX4_nearestPosition l hr2 hw) ⟨(Nat.le_of_ble_eq_true rfl), (Nat.le_of_ble_eq_true rfl)⟩ hr2 (T := TX4) (N := 8) rfl (by decide) rfl (Nat.le_of_ble_eq_true rfl) dX11_facing_5 ⟨Nat.zero_le _, Nat.zero_le _⟩ rfl) (fun r4 σ3 hw => ?_)
  refine z_aload_n hG dX11_facing_8 rfl 0 rfl ?_
  obtain ⟨j5, ej5, hw⟩ := hw
  refine z_getr (kq := 6) hG f_X11_37 h0 rfl ej5 rfl (by decide) dX11_facing_9 (fun hj5 => ?_)
  refine z_geti hG f_X11_117 hj5 rfl dX11_facing_12 ?_
  refine z_topi (fun x6 ex6 => ?_)
  have hw := hw x6 ex6
  refine z_calli hG (z_runS (As := [.int r4, .int x6]) (st := []) hG k_X11_138 (MX11_modulo l hw) ⟨(Nat.le_of_ble_eq_true rfl), (Nat.le_of_ble_eq_true rfl)⟩ rfl (Nat.le_of_ble_eq_true rfl) dX11_facing_15 ⟨Nat.zero_le _, Nat.zero_le _⟩ rfl) (fun r8 σ7 hw => ?_)
  exact z_iret hG rfl rfl dX11_facing_18 hw
-- TypeWheelTelegraph.characterOf(IZ)C
def wX11_characterOf (ln : Nat → Nat) (σ : zS) (v0 : Int32) (v1 : Int32) (Q : Int32 → zS → Prop) : Prop := ∀ x1 : Int32, x1 = v0 - 2 → ((v1 = 0 → ∀ x11 : Int32, x11 = 97 + x1 → Q ((x11.toUInt32 % 65536).toInt32) σ) ∧ (¬ v1 = 0 → ((x1 < 0 → Q 32 σ) ∧ (¬ x1 < 0 → wJ0_length_8abf5 ln σ 23 (fun r4 σ3 => ((r4 ≤ x1 → Q 32 σ3) ∧ (¬ r4 ≤ x1 → wJ0_charAt_5068e ln σ3 23 x1 (fun r7 σ6 => narrow .char (.int r7) = .int r7 ∧ Q r7 σ6))))))))
abbrev rX11_characterOf : Room := { frames := 4, cells := 0, slots := 0, locals := 85 }
set_option maxRecDepth 100000 in
set_option maxHeartbeats 4000000 in
theorem MX11_characterOf (l : Launch) {E : zE} {Y : zY} {σ : zS} {v0 : Int32} {v1 : Int32} {Q : Int32 → zS → Prop} (hw : wX11_characterOf (zln Y) σ v0 v1 Q) : ∀ sz, Met l yX11_characterOf (zw yX11_characterOf cX11_characterOf 3 (some .char)) rX11_characterOf (zPc E Y σ sz [.int v0, .int v1]) (va_Qi Q (zB E Y sz) (zA Y sz)) 0 0 (zA Y sz) := by
  refine z_met (own := RX11) (Qc := fun sz => va_Qi Q (zB E Y sz) (zA Y sz)) (by decide +kernel) rfl (Nat.le_of_ble_eq_true rfl) ?_
  intro p e s m args below meth c hG hinit
  unfold wX11_characterOf at hw
  refine zlv (lv' := [(0, .int v0), (1, .int v1)]) rfl ?_
  refine z_iload_n hG dX11_characterOf_0 rfl 0 rfl ?_
  refine z_iconst (v := 2) hG dX11_characterOf_1 (by decide) ?_
  refine z_isub hG dX11_characterOf_2 ?_
  refine z_topi (fun x1 ex1 => ?_)
  have hw := hw x1 ex1
  refine z_istore_n (lv' := [(2, .int x1), (0, .int v0), (1, .int v1)]) hG dX11_characterOf_3 rfl (by decide) rfl ?_
  refine z_iload_n hG dX11_characterOf_4 rfl 2 rfl ?_
  refine z_if_ne (tgt := 14) hG dX11_characterOf_5 (by decide) (fun c12 => ?_) (fun c12 => ?_)
  · have hw := hw.2 c12
    refine z_iload_n hG dX11_characterOf_14 rfl 0 rfl ?_
    refine z_if_lt (tgt := 38) hG dX11_characterOf_15 (by decide) (fun c10 => ?_) (fun c10 => ?_)
    · have hw := hw.1 c10
      refine z_bipush (v := 32) hG dX11_characterOf_38 (by decide) ?_
      exact z_iret hG rfl (by decide +kernel) dX11_characterOf_40 hw
    · have hw := hw.2 c10
      refine z_iload_n hG dX11_characterOf_18 rfl 0 rfl ?_
      refine z_ldcsw (i := 23) (tx := "0123456789.,:;?!+-=()*'\"_@") hG (by decide +kernel) dX11_characterOf_19 ?_
      have hq2 : 23 < zS_n := by decide
      refine z_calli hG (z_runVs (As := []) (st := [.int x1]) hG k_X11_393 (MJ0_length_8abf5 l hq2 hw) ⟨(Nat.le_of_ble_eq_true rfl), (Nat.le_of_ble_eq_true rfl)⟩ hq2 rfl (Nat.le_of_ble_eq_true rfl) dX11_characterOf_22 ⟨Nat.zero_le _, Nat.zero_le _⟩ rfl) (fun r4 σ3 hw => ?_)
      refine z_icmp_ge (tgt := 38) hG dX11_characterOf_25 (by decide) (fun c9 => ?_) (fun c9 => ?_)
      · have hw := hw.1 c9
        refine z_bipush (v := 32) hG dX11_characterOf_38 (by decide) ?_
        exact z_iret hG rfl (by decide +kernel) dX11_characterOf_40 hw
      · have hw := hw.2 c9
        refine z_ldcsw (i := 23) (tx := "0123456789.,:;?!+-=()*'\"_@") hG (by decide +kernel) dX11_characterOf_28 ?_
        have hq5 : 23 < zS_n := by decide
        refine z_iload_n hG dX11_characterOf_31 rfl 0 rfl ?_
        refine z_calli hG (z_runVs (As := [.int x1]) (st := []) hG k_X11_396 (MJ0_charAt_5068e l hq5 hw) ⟨(Nat.le_of_ble_eq_true rfl), (Nat.le_of_ble_eq_true rfl)⟩ hq5 rfl (Nat.le_of_ble_eq_true rfl) dX11_characterOf_32 ⟨Nat.zero_le _, Nat.zero_le _⟩ rfl) (fun r7 σ6 hw => ?_)
        refine z_goto (tgt := 40) hG dX11_characterOf_35 (by decide) ?_
        obtain ⟨q8, hw⟩ := hw
        exact z_iret hG rfl q8 dX11_characterOf_40 hw
  · have hw := hw.1 c12
    refine z_bipush (v := 97) hG dX11_characterOf_8 (by decide) ?_
    refine z_iload_n hG dX11_characterOf_10 rfl 0 rfl ?_
    refine z_iadd hG dX11_characterOf_11 ?_
    refine z_topi (fun x11 ex11 => ?_)
    have hw := hw x11 ex11
    refine z_i2c hG dX11_characterOf_12 ?_
    exact z_iret hG rfl (pk_nc _) dX11_characterOf_13 hw
-- TypeWheelTelegraph.character(IZ)C
def wX11_character_16 (ln : Nat → Nat) (Q : Int32 → zS → Prop) (σ : zS) : Prop := False
def wX11_character (ln : Nat → Nat) (σ : zS) (t0 : Nat) (v1 : Int32) (v2 : Int32) (Q : Int32 → zS → Prop) : Prop := ((v1 < 2 → wX11_character_16 ln Q σ) ∧ (¬ v1 < 2 → ∃ j1 : Nat, gr σ t0 6 = some j1 ∧ ((v1 < (gi σ j1 0) → wX11_characterOf ln σ v1 v2 (fun r3 σ2 => narrow .char (.int r3) = .int r3 ∧ Q r3 σ2)) ∧ (¬ v1 < (gi σ j1 0) → wX11_character_16 ln Q σ))))
abbrev rX11_character : Room := { frames := 5, cells := 0, slots := 0, locals := 107 }
set_option maxRecDepth 100000 in
set_option maxHeartbeats 4000000 in
theorem BX11_character_16 {l : Launch} {E : zE} {Y : zY} {p : Program} {e : Env} {s : State} {m : MethodId} {args : Array Value} {below : List Frame} {meth : Method} {c : Code} (hG : zG E p l s m args meth c cX11_character 3 RX11 (some .char) (zA Y s.heap.size)) {Q : Int32 → zS → Prop} : ∀ (σ : zS), wX11_character_16 (zln Y) Q σ → WW E Y σ p l e rX11_character s m args below meth c (zA Y s.heap.size) 3 0 0 (MQ below (va_Qi Q (zB E Y s.heap.size) (zA Y s.heap.size)) args s 0 0 (zA Y s.heap.size)) [] 16 [] := by
  intro σ hw 
  unfold wX11_character_16 at hw
  exact hw.elim
set_option maxRecDepth 100000 in
set_option maxHeartbeats 4000000 in
theorem MX11_character (l : Launch) {E : zE} {Y : zY} {σ : zS} {t0 : Nat} {v1 : Int32} {v2 : Int32} (h0 : zT Y 11 t0) {Q : Int32 → zS → Prop} (hw : wX11_character (zln Y) σ t0 v1 v2 Q) : ∀ sz, Met l yX11_character (zw yX11_character cX11_character 3 (some .char)) rX11_character (zPc E Y σ sz [.ref (za Y t0), .int v1, .int v2]) (va_Qi Q (zB E Y sz) (zA Y sz)) 0 0 (zA Y sz) := by
  refine z_met (own := RX11) (Qc := fun sz => va_Qi Q (zB E Y sz) (zA Y sz)) (by decide +kernel) rfl (Nat.le_of_ble_eq_true rfl) ?_
  intro p e s m args below meth c hG hinit
  unfold wX11_character at hw
  refine zlv (lv' := [(0, .ref (za Y t0)), (1, .int v1), (2, .int v2)]) rfl ?_
  refine z_iload_n hG dX11_character_0 rfl 1 rfl ?_
  refine z_iconst (v := 2) hG dX11_character_1 (by decide) ?_
  refine z_icmp_lt (tgt := 16) hG dX11_character_2 (by decide) (fun c6 => ?_) (fun c6 => ?_)
  · have hw := hw.1 c6
    refine zpick [] (lv' := []) rfl ?_
    exact BX11_character_16 hG σ hw 
  · have hw := hw.2 c6
    refine z_iload_n hG dX11_character_5 rfl 1 rfl ?_
    refine z_aload_n hG dX11_character_6 rfl 0 rfl ?_
    obtain ⟨j1, ej1, hw⟩ := hw
    refine z_getr (kq := 6) hG f_X11_37 h0 rfl ej1 rfl (by decide) dX11_character_7 (fun hj1 => ?_)
    refine z_geti hG f_X11_117 hj1 rfl dX11_character_10 ?_
    refine z_icmp_lt (tgt := 26) hG dX11_character_13 (by decide) (fun c5 => ?_) (fun c5 => ?_)
    · have hw := hw.1 c5
      refine z_iload_n hG dX11_character_26 rfl 1 rfl ?_
      refine z_iload_n hG dX11_character_27 rfl 2 rfl ?_
      refine z_calli hG (z_runS (As := [.int v1, .int v2]) (st := []) hG k_X11_147 (MX11_characterOf l hw) ⟨(Nat.le_of_ble_eq_true rfl), (Nat.le_of_ble_eq_true rfl)⟩ rfl (Nat.le_of_ble_eq_true rfl) dX11_character_28 ⟨Nat.zero_le _, Nat.zero_le _⟩ rfl) (fun r3 σ2 hw => ?_)
      obtain ⟨q4, hw⟩ := hw
      exact z_iret hG rfl q4 dX11_character_31 hw
    · have hw := hw.2 c5
      refine zpick [] (lv' := []) rfl ?_
      exact BX11_character_16 hG σ hw 
-- TypeWheelTelegraph.character(IZ)C
def wxX11_character_16 (ln : Nat → Nat) (Q : Int32 → zS → Prop) (X : String → zS → Prop) (σ : zS) : Prop := X "java/lang/IndexOutOfBoundsException" σ
def wxX11_character (ln : Nat → Nat) (σ : zS) (t0 : Nat) (v1 : Int32) (v2 : Int32) (Q : Int32 → zS → Prop) (X : String → zS → Prop) : Prop := ((v1 < 2 → wxX11_character_16 ln Q X σ) ∧ (¬ v1 < 2 → ∃ j1 : Nat, gr σ t0 6 = some j1 ∧ ((v1 < (gi σ j1 0) → wX11_characterOf ln σ v1 v2 (fun r3 σ2 => narrow .char (.int r3) = .int r3 ∧ Q r3 σ2)) ∧ (¬ v1 < (gi σ j1 0) → wxX11_character_16 ln Q X σ))))
abbrev rxX11_character : Room := { frames := 6, cells := 1, slots := 6, locals := 107 }
set_option maxRecDepth 100000 in
set_option maxHeartbeats 4000000 in
theorem BxX11_character_16 {l : Launch} {E : zE} {Y : zY} {p : Program} {e : Env} {s : State} {m : MethodId} {args : Array Value} {below : List Frame} {meth : Method} {c : Code} (hG : zG E p l s m args meth c cX11_character 3 RX11 (some .char) (zA Y s.heap.size)) (hlt : l.stackTraces = false) (hex : ∀ x ∈ c.exceptionTable.toList, False) {Q : Int32 → zS → Prop} {X : String → zS → Prop} : ∀ (σ : zS) (cl sl : Nat), wxX11_character_16 (zln Y) Q X σ → cl + (1) ≤ 1 → sl + (6) ≤ 6 → WW E Y σ p l e rxX11_character s m args below meth c (zA Y s.heap.size) 3 cl sl (vx_MQ below (va_Qi Q (zB E Y s.heap.size) (zA Y s.heap.size)) (zX X E Y s.heap.size) args s 1 6 (zA Y s.heap.size)) [] 16 [] := by
  intro σ cl sl hw  hcl hsl
  unfold wxX11_character_16 at hw
  exact z_throwS (i := 25) (tx := "the position has no character") hG hlt hex thr_IOE (by decide +kernel) dX11_character_16 dX11_character_19 dX11_character_20 dX11_character_22 dX11_character_25 (Nat.le_of_ble_eq_true rfl) (Nat.le_of_ble_eq_true rfl) (show cl + 0 + 1 ≤ 1 from by omega) (show sl + 0 + 6 ≤ 6 from by omega) (show cl + 0 + 1 ≤ 1 from by omega) (show sl + 0 + 6 ≤ 6 from by omega) hw
set_option maxRecDepth 100000 in
set_option maxHeartbeats 4000000 in
theorem MxX11_character (l : Launch) (hlt : l.stackTraces = false) {E : zE} {Y : zY} {σ : zS} {t0 : Nat} {v1 : Int32} {v2 : Int32} (h0 : zT Y 11 t0) {Q : Int32 → zS → Prop} {X : String → zS → Prop} (hw : wxX11_character (zln Y) σ t0 v1 v2 Q X) : ∀ sz, vx_Met l yX11_character (zw yX11_character cX11_character 3 (some .char)) rxX11_character (zPc E Y σ sz [.ref (za Y t0), .int v1, .int v2]) (va_Qi Q (zB E Y sz) (zA Y sz)) (zX X E Y sz) 1 6 (zA Y sz) := by
  refine z_metX (own := RX11) (Qc := fun sz => va_Qi Q (zB E Y sz) (zA Y sz)) (XC := fun sz => zX X E Y sz) (by decide +kernel) rfl (Nat.le_of_ble_eq_true rfl) ?_
  intro p e s m args below meth c hG hex
  unfold wxX11_character at hw
  refine zlv (lv' := [(0, .ref (za Y t0)), (1, .int v1), (2, .int v2)]) rfl ?_
  refine z_iload_n hG dX11_character_0 rfl 1 rfl ?_
  refine z_iconst (v := 2) hG dX11_character_1 (by decide) ?_
  refine z_icmp_lt (tgt := 16) hG dX11_character_2 (by decide) (fun c6 => ?_) (fun c6 => ?_)
  · have hw := hw.1 c6
    refine zpick [] (lv' := []) rfl ?_
    refine zwiden (k := 0) (n := 0) (by omega) (by omega) ?_
    exact BxX11_character_16 hG hlt hex σ _ _ hw  (by omega) (by omega)
  · have hw := hw.2 c6
    refine z_iload_n hG dX11_character_5 rfl 1 rfl ?_
    refine z_aload_n hG dX11_character_6 rfl 0 rfl ?_
    obtain ⟨j1, ej1, hw⟩ := hw
    refine z_getr (kq := 6) hG f_X11_37 h0 rfl ej1 rfl (by decide) dX11_character_7 (fun hj1 => ?_)
    refine z_geti hG f_X11_117 hj1 rfl dX11_character_10 ?_
    refine z_icmp_lt (tgt := 26) hG dX11_character_13 (by decide) (fun c5 => ?_) (fun c5 => ?_)
    · have hw := hw.1 c5
      refine z_iload_n hG dX11_character_26 rfl 1 rfl ?_
      refine z_iload_n hG dX11_character_27 rfl 2 rfl ?_
      refine z_calli hG (z_runS (As := [.int v1, .int v2]) (st := []) hG k_X11_147 (MX11_characterOf l hw) ⟨(Nat.le_of_ble_eq_true rfl), (Nat.le_of_ble_eq_true rfl)⟩ rfl (Nat.le_of_ble_eq_true rfl) dX11_character_28 ⟨show 0 + 0 ≤ 1 from by omega, show 0 + 0 ≤ 6 from by omega⟩ rfl) (fun r3 σ2 hw => ?_)
      obtain ⟨q4, hw⟩ := hw
      refine zwiden (k := 1) (n := 6) (by omega) (by omega) (zvx ?_)
      exact z_iret hG rfl q4 dX11_character_31 hw
    · have hw := hw.2 c5
      refine zpick [] (lv' := []) rfl ?_
      refine zwiden (k := 0) (n := 0) (by omega) (by omega) ?_
      exact BxX11_character_16 hG hlt hex σ _ _ hw  (by omega) (by omega)
-- TypeWheelTelegraph.lead()I
def wX11_lead (ln : Nat → Nat) (σ : zS) (t0 : Nat) (Q : Int32 → zS → Prop) : Prop := ∃ j1 : Nat, gr σ t0 3 = some j1 ∧ ∃ j2 : Nat, gr σ j1 12 = some j2 ∧ ∃ j3 : Nat, gr σ t0 6 = some j3 ∧ ∃ j4 : Nat, gr σ t0 3 = some j4 ∧ ∃ j5 : Nat, gr σ j4 12 = some j5 ∧ ∃ j6 : Nat, gr σ t0 3 = some j6 ∧ ∃ j7 : Nat, gr σ j6 11 = some j7 ∧ ∀ x8 : Int32, x8 = ((gi σ j2 0) + ((gi σ j3 1) * (gi σ j5 1))) - (gi σ j7 0) → ∃ j9 : Nat, gr σ t0 6 = some j9 ∧ wX6_circle ln σ j9 (fun r11 σ10 => ∀ x12 : Int32, x12 = r11 / 2 → ∃ j13 : Nat, gr σ10 t0 6 = some j13 ∧ wX6_circle ln σ10 j13 (fun r15 σ14 => ∀ x16 : Int32, x16 = x8 + x12 → wX11_modulo ln σ14 x16 r15 (fun r18 σ17 => Q (r18 - x12) σ17)))
abbrev rX11_lead : Room := { frames := 2, cells := 0, slots := 0, locals := 43 }
set_option maxRecDepth 100000 in
set_option maxHeartbeats 4000000 in
theorem MX11_lead (l : Launch) {E : zE} {Y : zY} {σ : zS} {t0 : Nat} (h0 : zT Y 11 t0) {Q : Int32 → zS → Prop} (hw : wX11_lead (zln Y) σ t0 Q) : ∀ sz, Met l yX11_lead (zw yX11_lead cX11_lead 3 (some .int)) rX11_lead (zPc E Y σ sz [.ref (za Y t0)]) (va_Qi Q (zB E Y sz) (zA Y sz)) 0 0 (zA Y sz) := by
  refine z_met (own := RX11) (Qc := fun sz => va_Qi Q (zB E Y sz) (zA Y sz)) (by decide +kernel) rfl (Nat.le_of_ble_eq_true rfl) ?_
  intro p e s m args below meth c hG hinit
  unfold wX11_lead at hw
  refine zlv (lv' := [(0, .ref (za Y t0))]) rfl ?_
  refine z_aload_n hG dX11_lead_0 rfl 0 rfl ?_
  obtain ⟨j1, ej1, hw⟩ := hw
  refine z_getr (kq := 3) hG f_X11_53 h0 rfl ej1 rfl (by decide) dX11_lead_1 (fun hj1 => ?_)
  obtain ⟨j2, ej2, hw⟩ := hw
  refine z_getr (kq := 4) hG f_X11_151 hj1 rfl ej2 rfl (by decide) dX11_lead_4 (fun hj2 => ?_)
  refine z_geti hG f_X11_127 hj2 rfl dX11_lead_7 ?_
  refine z_aload_n hG dX11_lead_10 rfl 0 rfl ?_
  obtain ⟨j3, ej3, hw⟩ := hw
  refine z_getr (kq := 6) hG f_X11_37 h0 rfl ej3 rfl (by decide) dX11_lead_11 (fun hj3 => ?_)
  refine z_geti hG f_X11_154 hj3 rfl dX11_lead_14 ?_
  refine z_aload_n hG dX11_lead_17 rfl 0 rfl ?_
  obtain ⟨j4, ej4, hw⟩ := hw
  refine z_getr (kq := 3) hG f_X11_53 h0 rfl ej4 rfl (by decide) dX11_lead_18 (fun hj4 => ?_)
  obtain ⟨j5, ej5, hw⟩ := hw
  refine z_getr (kq := 4) hG f_X11_151 hj4 rfl ej5 rfl (by decide) dX11_lead_21 (fun hj5 => ?_)
  refine z_geti hG f_X11_132 hj5 rfl dX11_lead_24 ?_
  refine z_imul hG dX11_lead_27 ?_
  refine z_iadd hG dX11_lead_28 ?_
  refine z_aload_n hG dX11_lead_29 rfl 0 rfl ?_
  obtain ⟨j6, ej6, hw⟩ := hw
  refine z_getr (kq := 3) hG f_X11_53 h0 rfl ej6 rfl (by decide) dX11_lead_30 (fun hj6 => ?_)
  obtain ⟨j7, ej7, hw⟩ := hw
  refine z_getr (kq := 4) hG f_X11_157 hj6 rfl ej7 rfl (by decide) dX11_lead_33 (fun hj7 => ?_)
  refine z_geti hG f_X11_127 hj7 rfl dX11_lead_36 ?_
  refine z_isub hG dX11_lead_39 ?_
  refine z_topi (fun x8 ex8 => ?_)
  have hw := hw x8 ex8
  refine z_istore_n (lv' := [(1, .int x8), (0, .ref (za Y t0))]) hG dX11_lead_40 rfl (by decide) rfl ?_
  refine z_aload_n hG dX11_lead_41 rfl 1 rfl ?_
  obtain ⟨j9, ej9, hw⟩ := hw
  refine z_getr (kq := 6) hG f_X11_37 h0 rfl ej9 rfl (by decide) dX11_lead_42 (fun hj9 => ?_)
  refine z_calli hG (z_runV (As := []) (st := []) hG k_X11_159 (MX6_circle l hj9 hw) ⟨(Nat.le_of_ble_eq_true rfl), (Nat.le_of_ble_eq_true rfl)⟩ hj9 (T := TX6) (N := 8) rfl (by decide) rfl (Nat.le_of_ble_eq_true rfl) dX11_lead_45 ⟨Nat.zero_le _, Nat.zero_le _⟩ rfl) (fun r11 σ10 hw => ?_)
  refine z_iconst (v := 2) hG dX11_lead_48 (by decide) ?_
  refine z_idiv hG dX11_lead_49 (by decide) ?_
  refine z_topi (fun x12 ex12 => ?_)
  have hw := hw x12 ex12
  refine z_istore_n (lv' := [(2, .int x12), (1, .int x8), (0, .ref (za Y t0))]) hG dX11_lead_50 rfl (by decide) rfl ?_
  refine z_iload_n hG dX11_lead_51 rfl 1 rfl ?_
  refine z_iload_n hG dX11_lead_52 rfl 0 rfl ?_
  refine z_iadd hG dX11_lead_53 ?_
  refine z_aload_n hG dX11_lead_54 rfl 2 rfl ?_
  obtain ⟨j13, ej13, hw⟩ := hw
  refine z_getr (kq := 6) hG f_X11_37 h0 rfl ej13 rfl (by decide) dX11_lead_55 (fun hj13 => ?_)
  refine z_calli hG (z_runV (As := []) (st := [.int (x8 + x12)]) hG k_X11_159 (MX6_circle l hj13 hw) ⟨(Nat.le_of_ble_eq_true rfl), (Nat.le_of_ble_eq_true rfl)⟩ hj13 (T := TX6) (N := 8) rfl (by decide) rfl (Nat.le_of_ble_eq_true rfl) dX11_lead_58 ⟨Nat.zero_le _, Nat.zero_le _⟩ rfl) (fun r15 σ14 hw => ?_)
  obtain ⟨x16, ex16⟩ : ∃ y : Int32, y = x8 + x12 := ⟨_, rfl⟩
  refine zst (st' := [.int r15, .int x16]) (by rw [ex16]) ?_
  have hw := hw x16 ex16
  refine z_calli hG (z_runS (As := [.int x16, .int r15]) (st := []) hG k_X11_138 (MX11_modulo l hw) ⟨(Nat.le_of_ble_eq_true rfl), (Nat.le_of_ble_eq_true rfl)⟩ rfl (Nat.le_of_ble_eq_true rfl) dX11_lead_61 ⟨Nat.zero_le _, Nat.zero_le _⟩ rfl) (fun r18 σ17 hw => ?_)
  refine z_iload_n hG dX11_lead_64 rfl 0 rfl ?_
  refine z_isub hG dX11_lead_65 ?_
  exact z_iret hG rfl rfl dX11_lead_66 hw
-- TypeWheelTelegraph.deskAt(I)LTypeWheelTelegraph$Desk;
def wX11_deskAt (ln : Nat → Nat) (σ : zS) (t0 : Nat) (v1 : Int32) (Q : Nat → zS → Prop) : Prop := wX11_requireOffice ln σ v1 (fun σ1 => ∃ j2 : Nat, gr σ1 t0 6 = some j2 ∧ wX6_desk ln σ1 j2 v1 (fun r4 σ3 => Q r4 σ3))
abbrev rX11_deskAt : Room := { frames := 1, cells := 0, slots := 0, locals := 21 }
set_option maxRecDepth 100000 in
set_option maxHeartbeats 4000000 in
theorem MX11_deskAt (l : Launch) {E : zE} {Y : zY} {σ : zS} {t0 : Nat} {v1 : Int32} (h0 : zT Y 11 t0) {Q : Nat → zS → Prop} (hw : wX11_deskAt (zln Y) σ t0 v1 Q) : ∀ sz, Met l yX11_deskAt (zw yX11_deskAt cX11_deskAt 2 (some (.object "TypeWheelTelegraph$Desk"))) rX11_deskAt (zPc E Y σ sz [.ref (za Y t0), .int v1]) (va_Qe (za Y) (zQe (zSm Q)) (zBe E Y sz 0) (zA Y sz)) 0 0 (zA Y sz) := by
  refine z_met (own := RX11) (Qc := fun sz => va_Qe (za Y) (zQe (zSm Q)) (zBe E Y sz 0) (zA Y sz)) (by decide +kernel) rfl (Nat.le_of_ble_eq_true rfl) ?_
  intro p e s m args below meth c hG hinit
  unfold wX11_deskAt at hw
  refine zlv (lv' := [(0, .ref (za Y t0)), (1, .int v1)]) rfl ?_
  refine z_iload_n hG dX11_deskAt_0 rfl 1 rfl ?_
  refine z_callv hG (z_runS (As := [.int v1]) (st := []) hG k_X11_330 (MX11_requireOffice l hw) ⟨(Nat.le_of_ble_eq_true rfl), (Nat.le_of_ble_eq_true rfl)⟩ rfl (Nat.le_of_ble_eq_true rfl) dX11_deskAt_1 ⟨Nat.zero_le _, Nat.zero_le _⟩ rfl) (fun σ1 hw => ?_)
  refine z_aload_n hG dX11_deskAt_4 rfl 0 rfl ?_
  obtain ⟨j2, ej2, hw⟩ := hw
  refine z_getr (kq := 6) hG f_X11_37 h0 rfl ej2 rfl (by decide) dX11_deskAt_5 (fun hj2 => ?_)
  refine z_iload_n hG dX11_deskAt_8 rfl 1 rfl ?_
  refine z_callr hG (z_runV (As := [.int v1]) (st := []) hG k_X11_377 (MX6_desk l hj2 hw) ⟨(Nat.le_of_ble_eq_true rfl), (Nat.le_of_ble_eq_true rfl)⟩ hj2 (T := TX6) (N := 8) rfl (by decide) rfl (Nat.le_of_ble_eq_true rfl) dX11_deskAt_9 ⟨Nat.zero_le _, Nat.zero_le _⟩ rfl) (fun r4 σ3 hr4 hw => ?_)
  exact z_aret hG rfl (Or.inl ⟨_, rfl⟩) hr4 dX11_deskAt_12 ⟨_, rfl, hw⟩
-- TypeWheelTelegraph.deskAt(I)LTypeWheelTelegraph$Desk;
def wxX11_deskAt (ln : Nat → Nat) (σ : zS) (t0 : Nat) (v1 : Int32) (Q : Nat → zS → Prop) (X : String → zS → Prop) : Prop := wxX11_requireOffice ln σ v1 (fun σ1 => ∃ j3 : Nat, gr σ1 t0 6 = some j3 ∧ wX6_desk ln σ1 j3 v1 (fun r5 σ4 => Q r5 σ4)) X
abbrev rxX11_deskAt : Room := { frames := 7, cells := 1, slots := 6, locals := 120 }
set_option maxRecDepth 100000 in
set_option maxHeartbeats 4000000 in
theorem MxX11_deskAt (l : Launch) (hlt : l.stackTraces = false) {E : zE} {Y : zY} {σ : zS} {t0 : Nat} {v1 : Int32} (h0 : zT Y 11 t0) {Q : Nat → zS → Prop} {X : String → zS → Prop} (hw : wxX11_deskAt (zln Y) σ t0 v1 Q X) : ∀ sz, vx_Met l yX11_deskAt (zw yX11_deskAt cX11_deskAt 2 (some (.object "TypeWheelTelegraph$Desk"))) rxX11_deskAt (zPc E Y σ sz [.ref (za Y t0), .int v1]) (va_Qe (za Y) (zQe (zSm Q)) (zBe E Y sz 0) (zA Y sz)) (zX X E Y sz) 1 6 (zA Y sz) := by
  refine z_metX (own := RX11) (Qc := fun sz => va_Qe (za Y) (zQe (zSm Q)) (zBe E Y sz 0) (zA Y sz)) (XC := fun sz => zX X E Y sz) (by decide +kernel) rfl (Nat.le_of_ble_eq_true rfl) ?_
  intro p e s m args below meth c hG hex
  unfold wxX11_deskAt at hw
  refine zlv (lv' := [(0, .ref (za Y t0)), (1, .int v1)]) rfl ?_
  refine z_iload_n hG dX11_deskAt_0 rfl 1 rfl ?_
  refine z_callXv hG hex (z_runXS (As := [.int v1]) (st := []) hG k_X11_330 (MxX11_requireOffice l hlt hw) rfl rfl ⟨(Nat.le_of_ble_eq_true rfl), (Nat.le_of_ble_eq_true rfl)⟩ rfl (Nat.le_of_ble_eq_true rfl) dX11_deskAt_1 ⟨show 0 + 1 ≤ 1 from by omega, show 0 + 6 ≤ 6 from by omega⟩ rfl) (show 0 + 1 ≤ 1 from by omega) (show 0 + 6 ≤ 6 from by omega) (fun σ1 hw => ?_)
  refine zwiden (k := 1) (n := 6) (show 0 + 1 ≤ 1 from by omega) (show 0 + 6 ≤ 6 from by omega) ?_
  refine z_aload_n hG dX11_deskAt_4 rfl 0 rfl ?_
  obtain ⟨j3, ej3, hw⟩ := hw
  refine z_getr (kq := 6) hG f_X11_37 h0 rfl ej3 rfl (by decide) dX11_deskAt_5 (fun hj3 => ?_)
  refine z_iload_n hG dX11_deskAt_8 rfl 1 rfl ?_
  refine z_callr hG (z_runV (As := [.int v1]) (st := []) hG k_X11_377 (MX6_desk l hj3 hw) ⟨(Nat.le_of_ble_eq_true rfl), (Nat.le_of_ble_eq_true rfl)⟩ hj3 (T := TX6) (N := 8) rfl (by decide) rfl (Nat.le_of_ble_eq_true rfl) dX11_deskAt_9 ⟨show 1 + 0 ≤ 1 from by omega, show 6 + 0 ≤ 6 from by omega⟩ rfl) (fun r5 σ4 hr5 hw => ?_)
  refine zwiden (k := 1) (n := 6) (by omega) (by omega) (zvx ?_)
  exact z_aret hG rfl (Or.inl ⟨_, rfl⟩) hr5 dX11_deskAt_12 ⟨_, rfl, hw⟩
-- TypeWheelTelegraph.lineCount(I)I
def wX11_lineCount (ln : Nat → Nat) (σ : zS) (t0 : Nat) (v1 : Int32) (Q : Int32 → zS → Prop) : Prop := wX11_deskAt ln σ t0 v1 (fun r2 σ1 => Q (gi σ1 r2 2) σ1)
abbrev rX11_lineCount : Room := { frames := 2, cells := 0, slots := 0, locals := 42 }
set_option maxRecDepth 100000 in
set_option maxHeartbeats 4000000 in
theorem MX11_lineCount (l : Launch) {E : zE} {Y : zY} {σ : zS} {t0 : Nat} {v1 : Int32} (h0 : zT Y 11 t0) {Q : Int32 → zS → Prop} (hw : wX11_lineCount (zln Y) σ t0 v1 Q) : ∀ sz, Met l yX11_lineCount (zw yX11_lineCount cX11_lineCount 2 (some .int)) rX11_lineCount (zPc E Y σ sz [.ref (za Y t0), .int v1]) (va_Qi Q (zB E Y sz) (zA Y sz)) 0 0 (zA Y sz) := by
  refine z_met (own := RX11) (Qc := fun sz => va_Qi Q (zB E Y sz) (zA Y sz)) (by decide +kernel) rfl (Nat.le_of_ble_eq_true rfl) ?_
  intro p e s m args below meth c hG hinit
  unfold wX11_lineCount at hw
  refine zlv (lv' := [(0, .ref (za Y t0)), (1, .int v1)]) rfl ?_
  refine z_aload_n hG dX11_lineCount_0 rfl 0 rfl ?_
  refine z_iload_n hG dX11_lineCount_1 rfl 1 rfl ?_
  refine z_callr hG (z_runV (As := [.int v1]) (st := []) hG k_X11_162 (MX11_deskAt l h0 hw) ⟨(Nat.le_of_ble_eq_true rfl), (Nat.le_of_ble_eq_true rfl)⟩ h0 (T := TX11) (N := 9) rfl (by decide) rfl (Nat.le_of_ble_eq_true rfl) dX11_lineCount_2 ⟨Nat.zero_le _, Nat.zero_le _⟩ rfl) (fun r2 σ1 hr2 hw => ?_)
  refine z_geti hG f_X11_109 hr2 rfl dX11_lineCount_5 ?_
  exact z_iret hG rfl rfl dX11_lineCount_8 hw
-- TypeWheelTelegraph.linesDone(I)I
def wX11_linesDone (ln : Nat → Nat) (σ : zS) (t0 : Nat) (v1 : Int32) (Q : Int32 → zS → Prop) : Prop := wX11_officeAt ln σ t0 v1 (fun r2 σ1 => Q (gi σ1 r2 2) σ1)
abbrev rX11_linesDone : Room := { frames := 2, cells := 0, slots := 0, locals := 42 }
set_option maxRecDepth 100000 in
set_option maxHeartbeats 4000000 in
theorem MX11_linesDone (l : Launch) {E : zE} {Y : zY} {σ : zS} {t0 : Nat} {v1 : Int32} (h0 : zT Y 11 t0) {Q : Int32 → zS → Prop} (hw : wX11_linesDone (zln Y) σ t0 v1 Q) : ∀ sz, Met l yX11_linesDone (zw yX11_linesDone cX11_linesDone 2 (some .int)) rX11_linesDone (zPc E Y σ sz [.ref (za Y t0), .int v1]) (va_Qi Q (zB E Y sz) (zA Y sz)) 0 0 (zA Y sz) := by
  refine z_met (own := RX11) (Qc := fun sz => va_Qi Q (zB E Y sz) (zA Y sz)) (by decide +kernel) rfl (Nat.le_of_ble_eq_true rfl) ?_
  intro p e s m args below meth c hG hinit
  unfold wX11_linesDone at hw
  refine zlv (lv' := [(0, .ref (za Y t0)), (1, .int v1)]) rfl ?_
  refine z_aload_n hG dX11_linesDone_0 rfl 0 rfl ?_
  refine z_iload_n hG dX11_linesDone_1 rfl 1 rfl ?_
  refine z_callr hG (z_runV (As := [.int v1]) (st := []) hG k_X11_123 (MX11_officeAt l h0 hw) ⟨(Nat.le_of_ble_eq_true rfl), (Nat.le_of_ble_eq_true rfl)⟩ h0 (T := TX11) (N := 9) rfl (by decide) rfl (Nat.le_of_ble_eq_true rfl) dX11_linesDone_2 ⟨Nat.zero_le _, Nat.zero_le _⟩ rfl) (fun r2 σ1 hr2 hw => ?_)
  refine z_geti hG f_X11_166 hr2 rfl dX11_linesDone_5 ?_
  exact z_iret hG rfl rfl dX11_linesDone_8 hw
-- TypeWheelTelegraph.lineAt(II)LTypeWheelTelegraph$Line;
def wX11_lineAt (ln : Nat → Nat) (σ : zS) (t0 : Nat) (v1 : Int32) (v2 : Int32) (Q : Nat → zS → Prop) : Prop := wX11_deskAt ln σ t0 v1 (fun r2 σ1 => wX0_line ln σ1 r2 v2 (fun r4 σ3 => (r4 = none → False) ∧ (∀ j5 : Nat, r4 = some j5 → Q j5 σ3)))
abbrev rX11_lineAt : Room := { frames := 2, cells := 0, slots := 0, locals := 42 }
set_option maxRecDepth 100000 in
set_option maxHeartbeats 4000000 in
theorem MX11_lineAt (l : Launch) {E : zE} {Y : zY} {σ : zS} {t0 : Nat} {v1 : Int32} {v2 : Int32} (h0 : zT Y 11 t0) {Q : Nat → zS → Prop} (hw : wX11_lineAt (zln Y) σ t0 v1 v2 Q) : ∀ sz, Met l yX11_lineAt (zw yX11_lineAt cX11_lineAt 4 (some (.object "TypeWheelTelegraph$Line"))) rX11_lineAt (zPc E Y σ sz [.ref (za Y t0), .int v1, .int v2]) (va_Qe (za Y) (zQe (zSm Q)) (zBe E Y sz 2) (zA Y sz)) 0 0 (zA Y sz) := by
  refine z_met (own := RX11) (Qc := fun sz => va_Qe (za Y) (zQe (zSm Q)) (zBe E Y sz 2) (zA Y sz)) (by decide +kernel) rfl (Nat.le_of_ble_eq_true rfl) ?_
  intro p e s m args below meth c hG hinit
  unfold wX11_lineAt at hw
  refine zlv (lv' := [(0, .ref (za Y t0)), (1, .int v1), (2, .int v2)]) rfl ?_
  refine z_aload_n hG dX11_lineAt_0 rfl 0 rfl ?_
  refine z_iload_n hG dX11_lineAt_1 rfl 1 rfl ?_
  refine z_callr hG (z_runV (As := [.int v1]) (st := []) hG k_X11_162 (MX11_deskAt l h0 hw) ⟨(Nat.le_of_ble_eq_true rfl), (Nat.le_of_ble_eq_true rfl)⟩ h0 (T := TX11) (N := 9) rfl (by decide) rfl (Nat.le_of_ble_eq_true rfl) dX11_lineAt_2 ⟨Nat.zero_le _, Nat.zero_le _⟩ rfl) (fun r2 σ1 hr2 hw => ?_)
  refine z_iload_n hG dX11_lineAt_5 rfl 2 rfl ?_
  refine z_calle hG (z_runV (As := [.int v2]) (st := []) hG k_X11_380 (MX0_line l hr2 hw) ⟨(Nat.le_of_ble_eq_true rfl), (Nat.le_of_ble_eq_true rfl)⟩ hr2 (T := TX0) (N := 4) rfl (by decide) rfl (Nat.le_of_ble_eq_true rfl) dX11_lineAt_6 ⟨Nat.zero_le _, Nat.zero_le _⟩ rfl) (fun σ3 hw => ?_) (fun j5 σ3 hj5 hw => ?_)
  · have hw := hw.1 rfl
    refine z_astoreN_n (lv' := [(3, .null), (0, .ref (za Y t0)), (1, .int v1), (2, .int v2)]) hG dX11_lineAt_9 rfl (by decide) rfl ?_
    refine z_aloadN_n hG dX11_lineAt_10 rfl 0 rfl ?_
    refine z_ifnonnull_no hG dX11_lineAt_11 ?_
    exact hw.elim
  · have hw := hw.2 j5 rfl
    refine z_astore_n (lv' := [(3, .ref (za Y j5)), (0, .ref (za Y t0)), (1, .int v1), (2, .int v2)]) hG dX11_lineAt_9 rfl (by decide) rfl ?_
    refine z_aload_n hG dX11_lineAt_10 rfl 0 rfl ?_
    refine z_ifnonnull_yes (tgt := 25) hG dX11_lineAt_11 (by decide) ?_
    refine z_aload_n hG dX11_lineAt_25 rfl 0 rfl ?_
    exact z_aret hG rfl (Or.inl ⟨_, rfl⟩) hj5 dX11_lineAt_26 ⟨_, rfl, hw⟩
-- TypeWheelTelegraph.lineAt(II)LTypeWheelTelegraph$Line;
def wxX11_lineAt (ln : Nat → Nat) (σ : zS) (t0 : Nat) (v1 : Int32) (v2 : Int32) (Q : Nat → zS → Prop) (X : String → zS → Prop) : Prop := wxX11_deskAt ln σ t0 v1 (fun r2 σ1 => wX0_line ln σ1 r2 v2 (fun r4 σ3 => (r4 = none → X "java/lang/IndexOutOfBoundsException" σ3) ∧ (∀ j5 : Nat, r4 = some j5 → Q j5 σ3))) X
abbrev rxX11_lineAt : Room := { frames := 8, cells := 2, slots := 12, locals := 141 }
set_option maxRecDepth 100000 in
set_option maxHeartbeats 4000000 in
theorem MxX11_lineAt (l : Launch) (hlt : l.stackTraces = false) {E : zE} {Y : zY} {σ : zS} {t0 : Nat} {v1 : Int32} {v2 : Int32} (h0 : zT Y 11 t0) {Q : Nat → zS → Prop} {X : String → zS → Prop} (hw : wxX11_lineAt (zln Y) σ t0 v1 v2 Q X) : ∀ sz, vx_Met l yX11_lineAt (zw yX11_lineAt cX11_lineAt 4 (some (.object "TypeWheelTelegraph$Line"))) rxX11_lineAt (zPc E Y σ sz [.ref (za Y t0), .int v1, .int v2]) (va_Qe (za Y) (zQe (zSm Q)) (zBe E Y sz 2) (zA Y sz)) (zX X E Y sz) 2 12 (zA Y sz) := by
  refine z_metX (own := RX11) (Qc := fun sz => va_Qe (za Y) (zQe (zSm Q)) (zBe E Y sz 2) (zA Y sz)) (XC := fun sz => zX X E Y sz) (by decide +kernel) rfl (Nat.le_of_ble_eq_true rfl) ?_
  intro p e s m args below meth c hG hex
  unfold wxX11_lineAt at hw
  refine zlv (lv' := [(0, .ref (za Y t0)), (1, .int v1), (2, .int v2)]) rfl ?_
  refine z_aload_n hG dX11_lineAt_0 rfl 0 rfl ?_
  refine z_iload_n hG dX11_lineAt_1 rfl 1 rfl ?_
  refine z_callXr hG hex (z_runXV (As := [.int v1]) (st := []) hG k_X11_162 (MxX11_deskAt l hlt h0 hw) rfl rfl ⟨(Nat.le_of_ble_eq_true rfl), (Nat.le_of_ble_eq_true rfl)⟩ h0 (T := TX11) (N := 9) rfl (by decide) rfl (Nat.le_of_ble_eq_true rfl) dX11_lineAt_2 ⟨show 0 + 1 ≤ 2 from by omega, show 0 + 6 ≤ 12 from by omega⟩ rfl) (show 0 + 1 ≤ 2 from by omega) (show 0 + 6 ≤ 12 from by omega) (fun r2 σ1 hr2 hw => ?_)
  refine zwiden (k := 1) (n := 6) (show 0 + 1 ≤ 1 from by omega) (show 0 + 6 ≤ 6 from by omega) ?_
  refine z_iload_n hG dX11_lineAt_5 rfl 2 rfl ?_
  refine z_calle hG (z_runV (As := [.int v2]) (st := []) hG k_X11_380 (MX0_line l hr2 hw) ⟨(Nat.le_of_ble_eq_true rfl), (Nat.le_of_ble_eq_true rfl)⟩ hr2 (T := TX0) (N := 4) rfl (by decide) rfl (Nat.le_of_ble_eq_true rfl) dX11_lineAt_6 ⟨show 1 + 0 ≤ 2 from by omega, show 6 + 0 ≤ 12 from by omega⟩ rfl) (fun σ3 hw => ?_) (fun j5 σ3 hj5 hw => ?_)
  · have hw := hw.1 rfl
    refine z_astoreN_n (lv' := [(3, .null), (0, .ref (za Y t0)), (1, .int v1), (2, .int v2)]) hG dX11_lineAt_9 rfl (by decide) rfl ?_
    refine z_aloadN_n hG dX11_lineAt_10 rfl 0 rfl ?_
    refine z_ifnonnull_no hG dX11_lineAt_11 ?_
    exact z_throwSW (i := 1) (tx := "the office has no such line") hG hlt hex thr_IOE (by decide +kernel) dX11_lineAt_14 dX11_lineAt_17 dX11_lineAt_18 dX11_lineAt_21 dX11_lineAt_24 (Nat.le_of_ble_eq_true rfl) (Nat.le_of_ble_eq_true rfl) (show 1 + 1 ≤ 2 from by omega) (show 6 + 6 ≤ 12 from by omega) (show 1 + 1 ≤ 2 from by omega) (show 6 + 6 ≤ 12 from by omega) hw
  · have hw := hw.2 j5 rfl
    refine z_astore_n (lv' := [(3, .ref (za Y j5)), (0, .ref (za Y t0)), (1, .int v1), (2, .int v2)]) hG dX11_lineAt_9 rfl (by decide) rfl ?_
    refine z_aload_n hG dX11_lineAt_10 rfl 0 rfl ?_
    refine z_ifnonnull_yes (tgt := 25) hG dX11_lineAt_11 (by decide) ?_
    refine z_aload_n hG dX11_lineAt_25 rfl 0 rfl ?_
    refine zwiden (k := 2) (n := 12) (by omega) (by omega) (zvx ?_)
    exact z_aret hG rfl (Or.inl ⟨_, rfl⟩) hj5 dX11_lineAt_26 ⟨_, rfl, hw⟩
-- TypeWheelTelegraph.lineLength(II)I
def wX11_lineLength (ln : Nat → Nat) (σ : zS) (t0 : Nat) (v1 : Int32) (v2 : Int32) (Q : Int32 → zS → Prop) : Prop := wX11_lineAt ln σ t0 v1 v2 (fun r2 σ1 => ∃ j3 : Nat, gr σ1 r2 0 = some j3 ∧ wX9_size ln σ1 j3 (fun r5 σ4 => Q r5 σ4))
abbrev rX11_lineLength : Room := { frames := 3, cells := 0, slots := 0, locals := 65 }
set_option maxRecDepth 100000 in
set_option maxHeartbeats 4000000 in
theorem MX11_lineLength (l : Launch) {E : zE} {Y : zY} {σ : zS} {t0 : Nat} {v1 : Int32} {v2 : Int32} (h0 : zT Y 11 t0) {Q : Int32 → zS → Prop} (hw : wX11_lineLength (zln Y) σ t0 v1 v2 Q) : ∀ sz, Met l yX11_lineLength (zw yX11_lineLength cX11_lineLength 3 (some .int)) rX11_lineLength (zPc E Y σ sz [.ref (za Y t0), .int v1, .int v2]) (va_Qi Q (zB E Y sz) (zA Y sz)) 0 0 (zA Y sz) := by
  refine z_met (own := RX11) (Qc := fun sz => va_Qi Q (zB E Y sz) (zA Y sz)) (by decide +kernel) rfl (Nat.le_of_ble_eq_true rfl) ?_
  intro p e s m args below meth c hG hinit
  unfold wX11_lineLength at hw
  refine zlv (lv' := [(0, .ref (za Y t0)), (1, .int v1), (2, .int v2)]) rfl ?_
  refine z_aload_n hG dX11_lineLength_0 rfl 0 rfl ?_
  refine z_iload_n hG dX11_lineLength_1 rfl 1 rfl ?_
  refine z_iload_n hG dX11_lineLength_2 rfl 2 rfl ?_
  refine z_callr hG (z_runV (As := [.int v1, .int v2]) (st := []) hG k_X11_169 (MX11_lineAt l h0 hw) ⟨(Nat.le_of_ble_eq_true rfl), (Nat.le_of_ble_eq_true rfl)⟩ h0 (T := TX11) (N := 9) rfl (by decide) rfl (Nat.le_of_ble_eq_true rfl) dX11_lineLength_3 ⟨Nat.zero_le _, Nat.zero_le _⟩ rfl) (fun r2 σ1 hr2 hw => ?_)
  obtain ⟨j3, ej3, hw⟩ := hw
  refine z_getr (kq := 9) hG f_X11_173 hr2 rfl ej3 rfl (by decide) dX11_lineLength_6 (fun hj3 => ?_)
  refine z_calli hG (z_runV (As := []) (st := []) hG k_X11_67 (MX9_size l hj3 hw) ⟨(Nat.le_of_ble_eq_true rfl), (Nat.le_of_ble_eq_true rfl)⟩ hj3 (T := TX9) (N := 2) rfl (by decide) rfl (Nat.le_of_ble_eq_true rfl) dX11_lineLength_9 ⟨Nat.zero_le _, Nat.zero_le _⟩ rfl) (fun r5 σ4 hw => ?_)
  exact z_iret hG rfl rfl dX11_lineLength_12 hw
-- TypeWheelTelegraph.lineLength(II)I
def wxX11_lineLength (ln : Nat → Nat) (σ : zS) (t0 : Nat) (v1 : Int32) (v2 : Int32) (Q : Int32 → zS → Prop) (X : String → zS → Prop) : Prop := wxX11_lineAt ln σ t0 v1 v2 (fun r2 σ1 => ∃ j3 : Nat, gr σ1 r2 0 = some j3 ∧ wX9_size ln σ1 j3 (fun r5 σ4 => Q r5 σ4)) X
abbrev rxX11_lineLength : Room := { frames := 9, cells := 2, slots := 12, locals := 164 }
set_option maxRecDepth 100000 in
set_option maxHeartbeats 4000000 in
theorem MxX11_lineLength (l : Launch) (hlt : l.stackTraces = false) {E : zE} {Y : zY} {σ : zS} {t0 : Nat} {v1 : Int32} {v2 : Int32} (h0 : zT Y 11 t0) {Q : Int32 → zS → Prop} {X : String → zS → Prop} (hw : wxX11_lineLength (zln Y) σ t0 v1 v2 Q X) : ∀ sz, vx_Met l yX11_lineLength (zw yX11_lineLength cX11_lineLength 3 (some .int)) rxX11_lineLength (zPc E Y σ sz [.ref (za Y t0), .int v1, .int v2]) (va_Qi Q (zB E Y sz) (zA Y sz)) (zX X E Y sz) 2 12 (zA Y sz) := by
  refine z_metX (own := RX11) (Qc := fun sz => va_Qi Q (zB E Y sz) (zA Y sz)) (XC := fun sz => zX X E Y sz) (by decide +kernel) rfl (Nat.le_of_ble_eq_true rfl) ?_
  intro p e s m args below meth c hG hex
  unfold wxX11_lineLength at hw
  refine zlv (lv' := [(0, .ref (za Y t0)), (1, .int v1), (2, .int v2)]) rfl ?_
  refine z_aload_n hG dX11_lineLength_0 rfl 0 rfl ?_
  refine z_iload_n hG dX11_lineLength_1 rfl 1 rfl ?_
  refine z_iload_n hG dX11_lineLength_2 rfl 2 rfl ?_
  refine z_callXr hG hex (z_runXV (As := [.int v1, .int v2]) (st := []) hG k_X11_169 (MxX11_lineAt l hlt h0 hw) rfl rfl ⟨(Nat.le_of_ble_eq_true rfl), (Nat.le_of_ble_eq_true rfl)⟩ h0 (T := TX11) (N := 9) rfl (by decide) rfl (Nat.le_of_ble_eq_true rfl) dX11_lineLength_3 ⟨show 0 + 2 ≤ 2 from by omega, show 0 + 12 ≤ 12 from by omega⟩ rfl) (show 0 + 2 ≤ 2 from by omega) (show 0 + 12 ≤ 12 from by omega) (fun r2 σ1 hr2 hw => ?_)
  refine zwiden (k := 2) (n := 12) (show 0 + 2 ≤ 2 from by omega) (show 0 + 12 ≤ 12 from by omega) ?_
  obtain ⟨j3, ej3, hw⟩ := hw
  refine z_getr (kq := 9) hG f_X11_173 hr2 rfl ej3 rfl (by decide) dX11_lineLength_6 (fun hj3 => ?_)
  refine z_calli hG (z_runV (As := []) (st := []) hG k_X11_67 (MX9_size l hj3 hw) ⟨(Nat.le_of_ble_eq_true rfl), (Nat.le_of_ble_eq_true rfl)⟩ hj3 (T := TX9) (N := 2) rfl (by decide) rfl (Nat.le_of_ble_eq_true rfl) dX11_lineLength_9 ⟨show 2 + 0 ≤ 2 from by omega, show 12 + 0 ≤ 12 from by omega⟩ rfl) (fun r5 σ4 hw => ?_)
  refine zwiden (k := 2) (n := 12) (by omega) (by omega) (zvx ?_)
  exact z_iret hG rfl rfl dX11_lineLength_12 hw
-- TypeWheelTelegraph.pulsesOf(II)I
def wX11_pulsesOf (ln : Nat → Nat) (σ : zS) (t0 : Nat) (v1 : Int32) (v2 : Int32) (Q : Int32 → zS → Prop) : Prop := wX11_lineAt ln σ t0 v1 v2 (fun r2 σ1 => ∃ j3 : Nat, gr σ1 r2 1 = some j3 ∧ wX9_size ln σ1 j3 (fun r5 σ4 => Q r5 σ4))
abbrev rX11_pulsesOf : Room := { frames := 3, cells := 0, slots := 0, locals := 65 }
set_option maxRecDepth 100000 in
set_option maxHeartbeats 4000000 in
theorem MX11_pulsesOf (l : Launch) {E : zE} {Y : zY} {σ : zS} {t0 : Nat} {v1 : Int32} {v2 : Int32} (h0 : zT Y 11 t0) {Q : Int32 → zS → Prop} (hw : wX11_pulsesOf (zln Y) σ t0 v1 v2 Q) : ∀ sz, Met l yX11_pulsesOf (zw yX11_pulsesOf cX11_pulsesOf 3 (some .int)) rX11_pulsesOf (zPc E Y σ sz [.ref (za Y t0), .int v1, .int v2]) (va_Qi Q (zB E Y sz) (zA Y sz)) 0 0 (zA Y sz) := by
  refine z_met (own := RX11) (Qc := fun sz => va_Qi Q (zB E Y sz) (zA Y sz)) (by decide +kernel) rfl (Nat.le_of_ble_eq_true rfl) ?_
  intro p e s m args below meth c hG hinit
  unfold wX11_pulsesOf at hw
  refine zlv (lv' := [(0, .ref (za Y t0)), (1, .int v1), (2, .int v2)]) rfl ?_
  refine z_aload_n hG dX11_pulsesOf_0 rfl 0 rfl ?_
  refine z_iload_n hG dX11_pulsesOf_1 rfl 1 rfl ?_
  refine z_iload_n hG dX11_pulsesOf_2 rfl 2 rfl ?_
  refine z_callr hG (z_runV (As := [.int v1, .int v2]) (st := []) hG k_X11_169 (MX11_lineAt l h0 hw) ⟨(Nat.le_of_ble_eq_true rfl), (Nat.le_of_ble_eq_true rfl)⟩ h0 (T := TX11) (N := 9) rfl (by decide) rfl (Nat.le_of_ble_eq_true rfl) dX11_pulsesOf_3 ⟨Nat.zero_le _, Nat.zero_le _⟩ rfl) (fun r2 σ1 hr2 hw => ?_)
  obtain ⟨j3, ej3, hw⟩ := hw
  refine z_getr (kq := 9) hG f_X11_178 hr2 rfl ej3 rfl (by decide) dX11_pulsesOf_6 (fun hj3 => ?_)
  refine z_calli hG (z_runV (As := []) (st := []) hG k_X11_67 (MX9_size l hj3 hw) ⟨(Nat.le_of_ble_eq_true rfl), (Nat.le_of_ble_eq_true rfl)⟩ hj3 (T := TX9) (N := 2) rfl (by decide) rfl (Nat.le_of_ble_eq_true rfl) dX11_pulsesOf_9 ⟨Nat.zero_le _, Nat.zero_le _⟩ rfl) (fun r5 σ4 hw => ?_)
  exact z_iret hG rfl rfl dX11_pulsesOf_12 hw
-- TypeWheelTelegraph.itemAt(LTypeWheelTelegraph$Row;I)I
def wX11_itemAt_12 (ln : Nat → Nat) (Q : Int32 → zS → Prop) (σ : zS) : Prop := False
def wX11_itemAt (ln : Nat → Nat) (σ : zS) (t0 : Nat) (v1 : Int32) (Q : Int32 → zS → Prop) : Prop := ((v1 < 0 → wX11_itemAt_12 ln Q σ) ∧ (¬ v1 < 0 → wX9_size ln σ t0 (fun r2 σ1 => ((v1 < r2 → wX9_get ln σ1 t0 v1 (fun r4 σ3 => Q r4 σ3)) ∧ (¬ v1 < r2 → wX11_itemAt_12 ln Q σ1)))))
abbrev rX11_itemAt : Room := { frames := 1, cells := 0, slots := 0, locals := 21 }
set_option maxRecDepth 100000 in
set_option maxHeartbeats 4000000 in
theorem BX11_itemAt_12 {l : Launch} {E : zE} {Y : zY} {p : Program} {e : Env} {s : State} {m : MethodId} {args : Array Value} {below : List Frame} {meth : Method} {c : Code} (hG : zG E p l s m args meth c cX11_itemAt 2 RX11 (some .int) (zA Y s.heap.size)) {Q : Int32 → zS → Prop} : ∀ (σ : zS), wX11_itemAt_12 (zln Y) Q σ → WW E Y σ p l e rX11_itemAt s m args below meth c (zA Y s.heap.size) 2 0 0 (MQ below (va_Qi Q (zB E Y s.heap.size) (zA Y s.heap.size)) args s 0 0 (zA Y s.heap.size)) [] 12 [] := by
  intro σ hw 
  unfold wX11_itemAt_12 at hw
  exact hw.elim
set_option maxRecDepth 100000 in
set_option maxHeartbeats 4000000 in
theorem MX11_itemAt (l : Launch) {E : zE} {Y : zY} {σ : zS} {t0 : Nat} {v1 : Int32} (h0 : zT Y 9 t0) {Q : Int32 → zS → Prop} (hw : wX11_itemAt (zln Y) σ t0 v1 Q) : ∀ sz, Met l yX11_itemAt (zw yX11_itemAt cX11_itemAt 2 (some .int)) rX11_itemAt (zPc E Y σ sz [.ref (za Y t0), .int v1]) (va_Qi Q (zB E Y sz) (zA Y sz)) 0 0 (zA Y sz) := by
  refine z_met (own := RX11) (Qc := fun sz => va_Qi Q (zB E Y sz) (zA Y sz)) (by decide +kernel) rfl (Nat.le_of_ble_eq_true rfl) ?_
  intro p e s m args below meth c hG hinit
  unfold wX11_itemAt at hw
  refine zlv (lv' := [(0, .ref (za Y t0)), (1, .int v1)]) rfl ?_
  refine z_iload_n hG dX11_itemAt_0 rfl 1 rfl ?_
  refine z_if_lt (tgt := 12) hG dX11_itemAt_1 (by decide) (fun c6 => ?_) (fun c6 => ?_)
  · have hw := hw.1 c6
    refine zpick [] (lv' := []) rfl ?_
    exact BX11_itemAt_12 hG σ hw 
  · have hw := hw.2 c6
    refine z_iload_n hG dX11_itemAt_4 rfl 1 rfl ?_
    refine z_aload_n hG dX11_itemAt_5 rfl 0 rfl ?_
    refine z_calli hG (z_runV (As := []) (st := [.int v1]) hG k_X11_67 (MX9_size l h0 hw) ⟨(Nat.le_of_ble_eq_true rfl), (Nat.le_of_ble_eq_true rfl)⟩ h0 (T := TX9) (N := 2) rfl (by decide) rfl (Nat.le_of_ble_eq_true rfl) dX11_itemAt_6 ⟨Nat.zero_le _, Nat.zero_le _⟩ rfl) (fun r2 σ1 hw => ?_)
    refine z_icmp_lt (tgt := 23) hG dX11_itemAt_9 (by decide) (fun c5 => ?_) (fun c5 => ?_)
    · have hw := hw.1 c5
      refine z_aload_n hG dX11_itemAt_23 rfl 0 rfl ?_
      refine z_iload_n hG dX11_itemAt_24 rfl 1 rfl ?_
      refine z_calli hG (z_runV (As := [.int v1]) (st := []) hG k_X11_189 (MX9_get l h0 hw) ⟨(Nat.le_of_ble_eq_true rfl), (Nat.le_of_ble_eq_true rfl)⟩ h0 (T := TX9) (N := 2) rfl (by decide) rfl (Nat.le_of_ble_eq_true rfl) dX11_itemAt_25 ⟨Nat.zero_le _, Nat.zero_le _⟩ rfl) (fun r4 σ3 hw => ?_)
      exact z_iret hG rfl rfl dX11_itemAt_28 hw
    · have hw := hw.2 c5
      refine zpick [] (lv' := []) rfl ?_
      exact BX11_itemAt_12 hG σ1 hw 
-- TypeWheelTelegraph.itemAt(LTypeWheelTelegraph$Row;I)I
def wxX11_itemAt_12 (ln : Nat → Nat) (Q : Int32 → zS → Prop) (X : String → zS → Prop) (σ : zS) : Prop := X "java/lang/IndexOutOfBoundsException" σ
def wxX11_itemAt (ln : Nat → Nat) (σ : zS) (t0 : Nat) (v1 : Int32) (Q : Int32 → zS → Prop) (X : String → zS → Prop) : Prop := ((v1 < 0 → wxX11_itemAt_12 ln Q X σ) ∧ (¬ v1 < 0 → wX9_size ln σ t0 (fun r2 σ1 => ((v1 < r2 → wX9_get ln σ1 t0 v1 (fun r4 σ3 => Q r4 σ3)) ∧ (¬ v1 < r2 → wxX11_itemAt_12 ln Q X σ1)))))
abbrev rxX11_itemAt : Room := { frames := 6, cells := 1, slots := 6, locals := 100 }
set_option maxRecDepth 100000 in
set_option maxHeartbeats 4000000 in
theorem BxX11_itemAt_12 {l : Launch} {E : zE} {Y : zY} {p : Program} {e : Env} {s : State} {m : MethodId} {args : Array Value} {below : List Frame} {meth : Method} {c : Code} (hG : zG E p l s m args meth c cX11_itemAt 2 RX11 (some .int) (zA Y s.heap.size)) (hlt : l.stackTraces = false) (hex : ∀ x ∈ c.exceptionTable.toList, False) {Q : Int32 → zS → Prop} {X : String → zS → Prop} : ∀ (σ : zS) (cl sl : Nat), wxX11_itemAt_12 (zln Y) Q X σ → cl + (1) ≤ 1 → sl + (6) ≤ 6 → WW E Y σ p l e rxX11_itemAt s m args below meth c (zA Y s.heap.size) 2 cl sl (vx_MQ below (va_Qi Q (zB E Y s.heap.size) (zA Y s.heap.size)) (zX X E Y s.heap.size) args s 1 6 (zA Y s.heap.size)) [] 12 [] := by
  intro σ cl sl hw  hcl hsl
  unfold wxX11_itemAt_12 at hw
  exact z_throwSW (i := 26) (tx := "no such index") hG hlt hex thr_IOE (by decide +kernel) dX11_itemAt_12 dX11_itemAt_15 dX11_itemAt_16 dX11_itemAt_19 dX11_itemAt_22 (Nat.le_of_ble_eq_true rfl) (Nat.le_of_ble_eq_true rfl) (show cl + 0 + 1 ≤ 1 from by omega) (show sl + 0 + 6 ≤ 6 from by omega) (show cl + 0 + 1 ≤ 1 from by omega) (show sl + 0 + 6 ≤ 6 from by omega) hw
set_option maxRecDepth 100000 in
set_option maxHeartbeats 4000000 in
theorem MxX11_itemAt (l : Launch) (hlt : l.stackTraces = false) {E : zE} {Y : zY} {σ : zS} {t0 : Nat} {v1 : Int32} (h0 : zT Y 9 t0) {Q : Int32 → zS → Prop} {X : String → zS → Prop} (hw : wxX11_itemAt (zln Y) σ t0 v1 Q X) : ∀ sz, vx_Met l yX11_itemAt (zw yX11_itemAt cX11_itemAt 2 (some .int)) rxX11_itemAt (zPc E Y σ sz [.ref (za Y t0), .int v1]) (va_Qi Q (zB E Y sz) (zA Y sz)) (zX X E Y sz) 1 6 (zA Y sz) := by
  refine z_metX (own := RX11) (Qc := fun sz => va_Qi Q (zB E Y sz) (zA Y sz)) (XC := fun sz => zX X E Y sz) (by decide +kernel) rfl (Nat.le_of_ble_eq_true rfl) ?_
  intro p e s m args below meth c hG hex
  unfold wxX11_itemAt at hw
  refine zlv (lv' := [(0, .ref (za Y t0)), (1, .int v1)]) rfl ?_
  refine z_iload_n hG dX11_itemAt_0 rfl 1 rfl ?_
  refine z_if_lt (tgt := 12) hG dX11_itemAt_1 (by decide) (fun c6 => ?_) (fun c6 => ?_)
  · have hw := hw.1 c6
    refine zpick [] (lv' := []) rfl ?_
    refine zwiden (k := 0) (n := 0) (by omega) (by omega) ?_
    exact BxX11_itemAt_12 hG hlt hex σ _ _ hw  (by omega) (by omega)
  · have hw := hw.2 c6
    refine z_iload_n hG dX11_itemAt_4 rfl 1 rfl ?_
    refine z_aload_n hG dX11_itemAt_5 rfl 0 rfl ?_
    refine z_calli hG (z_runV (As := []) (st := [.int v1]) hG k_X11_67 (MX9_size l h0 hw) ⟨(Nat.le_of_ble_eq_true rfl), (Nat.le_of_ble_eq_true rfl)⟩ h0 (T := TX9) (N := 2) rfl (by decide) rfl (Nat.le_of_ble_eq_true rfl) dX11_itemAt_6 ⟨show 0 + 0 ≤ 1 from by omega, show 0 + 0 ≤ 6 from by omega⟩ rfl) (fun r2 σ1 hw => ?_)
    refine z_icmp_lt (tgt := 23) hG dX11_itemAt_9 (by decide) (fun c5 => ?_) (fun c5 => ?_)
    · have hw := hw.1 c5
      refine z_aload_n hG dX11_itemAt_23 rfl 0 rfl ?_
      refine z_iload_n hG dX11_itemAt_24 rfl 1 rfl ?_
      refine z_calli hG (z_runV (As := [.int v1]) (st := []) hG k_X11_189 (MX9_get l h0 hw) ⟨(Nat.le_of_ble_eq_true rfl), (Nat.le_of_ble_eq_true rfl)⟩ h0 (T := TX9) (N := 2) rfl (by decide) rfl (Nat.le_of_ble_eq_true rfl) dX11_itemAt_25 ⟨show 0 + 0 ≤ 1 from by omega, show 0 + 0 ≤ 6 from by omega⟩ rfl) (fun r4 σ3 hw => ?_)
      refine zwiden (k := 1) (n := 6) (by omega) (by omega) (zvx ?_)
      exact z_iret hG rfl rfl dX11_itemAt_28 hw
    · have hw := hw.2 c5
      refine zpick [] (lv' := []) rfl ?_
      refine zwiden (k := 0) (n := 0) (by omega) (by omega) ?_
      exact BxX11_itemAt_12 hG hlt hex σ1 _ _ hw  (by omega) (by omega)
-- TypeWheelTelegraph.pulseOf(III)I
def wX11_pulseOf (ln : Nat → Nat) (σ : zS) (t0 : Nat) (v1 : Int32) (v2 : Int32) (v3 : Int32) (Q : Int32 → zS → Prop) : Prop := wX11_lineAt ln σ t0 v1 v2 (fun r2 σ1 => ∃ j3 : Nat, gr σ1 r2 1 = some j3 ∧ wX11_itemAt ln σ1 j3 v3 (fun r5 σ4 => Q r5 σ4))
abbrev rX11_pulseOf : Room := { frames := 3, cells := 0, slots := 0, locals := 65 }
set_option maxRecDepth 100000 in
set_option maxHeartbeats 4000000 in
theorem MX11_pulseOf (l : Launch) {E : zE} {Y : zY} {σ : zS} {t0 : Nat} {v1 : Int32} {v2 : Int32} {v3 : Int32} (h0 : zT Y 11 t0) {Q : Int32 → zS → Prop} (hw : wX11_pulseOf (zln Y) σ t0 v1 v2 v3 Q) : ∀ sz, Met l yX11_pulseOf (zw yX11_pulseOf cX11_pulseOf 4 (some .int)) rX11_pulseOf (zPc E Y σ sz [.ref (za Y t0), .int v1, .int v2, .int v3]) (va_Qi Q (zB E Y sz) (zA Y sz)) 0 0 (zA Y sz) := by
  refine z_met (own := RX11) (Qc := fun sz => va_Qi Q (zB E Y sz) (zA Y sz)) (by decide +kernel) rfl (Nat.le_of_ble_eq_true rfl) ?_
  intro p e s m args below meth c hG hinit
  unfold wX11_pulseOf at hw
  refine zlv (lv' := [(0, .ref (za Y t0)), (1, .int v1), (2, .int v2), (3, .int v3)]) rfl ?_
  refine z_aload_n hG dX11_pulseOf_0 rfl 0 rfl ?_
  refine z_iload_n hG dX11_pulseOf_1 rfl 1 rfl ?_
  refine z_iload_n hG dX11_pulseOf_2 rfl 2 rfl ?_
  refine z_callr hG (z_runV (As := [.int v1, .int v2]) (st := []) hG k_X11_169 (MX11_lineAt l h0 hw) ⟨(Nat.le_of_ble_eq_true rfl), (Nat.le_of_ble_eq_true rfl)⟩ h0 (T := TX11) (N := 9) rfl (by decide) rfl (Nat.le_of_ble_eq_true rfl) dX11_pulseOf_3 ⟨Nat.zero_le _, Nat.zero_le _⟩ rfl) (fun r2 σ1 hr2 hw => ?_)
  obtain ⟨j3, ej3, hw⟩ := hw
  refine z_getr (kq := 9) hG f_X11_178 hr2 rfl ej3 rfl (by decide) dX11_pulseOf_6 (fun hj3 => ?_)
  refine z_iload_n hG dX11_pulseOf_9 rfl 3 rfl ?_
  refine z_calli hG (z_runS (As := [.ref (za Y j3), .int v3]) (st := []) hG k_X11_181 (MX11_itemAt l hj3 hw) ⟨(Nat.le_of_ble_eq_true rfl), (Nat.le_of_ble_eq_true rfl)⟩ rfl (Nat.le_of_ble_eq_true rfl) dX11_pulseOf_10 ⟨Nat.zero_le _, Nat.zero_le _⟩ rfl) (fun r5 σ4 hw => ?_)
  exact z_iret hG rfl rfl dX11_pulseOf_13 hw
-- TypeWheelTelegraph.pulseOf(III)I
def wxX11_pulseOf (ln : Nat → Nat) (σ : zS) (t0 : Nat) (v1 : Int32) (v2 : Int32) (v3 : Int32) (Q : Int32 → zS → Prop) (X : String → zS → Prop) : Prop := wxX11_lineAt ln σ t0 v1 v2 (fun r2 σ1 => ∃ j3 : Nat, gr σ1 r2 1 = some j3 ∧ wxX11_itemAt ln σ1 j3 v3 (fun r5 σ4 => Q r5 σ4) X) X
abbrev rxX11_pulseOf : Room := { frames := 9, cells := 3, slots := 18, locals := 164 }
set_option maxRecDepth 100000 in
set_option maxHeartbeats 4000000 in
theorem MxX11_pulseOf (l : Launch) (hlt : l.stackTraces = false) {E : zE} {Y : zY} {σ : zS} {t0 : Nat} {v1 : Int32} {v2 : Int32} {v3 : Int32} (h0 : zT Y 11 t0) {Q : Int32 → zS → Prop} {X : String → zS → Prop} (hw : wxX11_pulseOf (zln Y) σ t0 v1 v2 v3 Q X) : ∀ sz, vx_Met l yX11_pulseOf (zw yX11_pulseOf cX11_pulseOf 4 (some .int)) rxX11_pulseOf (zPc E Y σ sz [.ref (za Y t0), .int v1, .int v2, .int v3]) (va_Qi Q (zB E Y sz) (zA Y sz)) (zX X E Y sz) 3 18 (zA Y sz) := by
  refine z_metX (own := RX11) (Qc := fun sz => va_Qi Q (zB E Y sz) (zA Y sz)) (XC := fun sz => zX X E Y sz) (by decide +kernel) rfl (Nat.le_of_ble_eq_true rfl) ?_
  intro p e s m args below meth c hG hex
  unfold wxX11_pulseOf at hw
  refine zlv (lv' := [(0, .ref (za Y t0)), (1, .int v1), (2, .int v2), (3, .int v3)]) rfl ?_
  refine z_aload_n hG dX11_pulseOf_0 rfl 0 rfl ?_
  refine z_iload_n hG dX11_pulseOf_1 rfl 1 rfl ?_
  refine z_iload_n hG dX11_pulseOf_2 rfl 2 rfl ?_
  refine z_callXr hG hex (z_runXV (As := [.int v1, .int v2]) (st := []) hG k_X11_169 (MxX11_lineAt l hlt h0 hw) rfl rfl ⟨(Nat.le_of_ble_eq_true rfl), (Nat.le_of_ble_eq_true rfl)⟩ h0 (T := TX11) (N := 9) rfl (by decide) rfl (Nat.le_of_ble_eq_true rfl) dX11_pulseOf_3 ⟨show 0 + 2 ≤ 3 from by omega, show 0 + 12 ≤ 18 from by omega⟩ rfl) (show 0 + 2 ≤ 3 from by omega) (show 0 + 12 ≤ 18 from by omega) (fun r2 σ1 hr2 hw => ?_)
  refine zwiden (k := 2) (n := 12) (show 0 + 2 ≤ 2 from by omega) (show 0 + 12 ≤ 12 from by omega) ?_
  obtain ⟨j3, ej3, hw⟩ := hw
  refine z_getr (kq := 9) hG f_X11_178 hr2 rfl ej3 rfl (by decide) dX11_pulseOf_6 (fun hj3 => ?_)
  refine z_iload_n hG dX11_pulseOf_9 rfl 3 rfl ?_
  refine z_callXi hG hex (z_runXS (As := [.ref (za Y j3), .int v3]) (st := []) hG k_X11_181 (MxX11_itemAt l hlt hj3 hw) rfl rfl ⟨(Nat.le_of_ble_eq_true rfl), (Nat.le_of_ble_eq_true rfl)⟩ rfl (Nat.le_of_ble_eq_true rfl) dX11_pulseOf_10 ⟨show 2 + 1 ≤ 3 from by omega, show 12 + 6 ≤ 18 from by omega⟩ rfl) (show 2 + 1 ≤ 3 from by omega) (show 12 + 6 ≤ 18 from by omega) (fun r5 σ4 hw => ?_)
  refine zwiden (k := 3) (n := 18) (show 2 + 1 ≤ 3 from by omega) (show 12 + 6 ≤ 18 from by omega) ?_
  refine zwiden (k := 3) (n := 18) (by omega) (by omega) (zvx ?_)
  exact z_iret hG rfl rfl dX11_pulseOf_13 hw
-- TypeWheelTelegraph.ticksToPass(IIII)I
def wX11_ticksToPass (ln : Nat → Nat) (σ : zS) (v0 : Int32) (v1 : Int32) (v2 : Int32) (v3 : Int32) (Q : Int32 → zS → Prop) : Prop := ∀ x1 : Int32, x1 = ((1000 * v0) - v1) - 1 → wX11_modulo ln σ x1 v3 (fun r3 σ2 => ∀ x4 : Int32, x4 = r3 + 1 → ((v2 ≤ 0 → Q 0 σ2) ∧ (¬ v2 ≤ 0 → ¬ v2 = 0 ∧ Q (((x4 + v2) - 1) / v2) σ2)))
abbrev rX11_ticksToPass : Room := { frames := 2, cells := 0, slots := 0, locals := 43 }
set_option maxRecDepth 100000 in
set_option maxHeartbeats 4000000 in
theorem MX11_ticksToPass (l : Launch) {E : zE} {Y : zY} {σ : zS} {v0 : Int32} {v1 : Int32} {v2 : Int32} {v3 : Int32} {Q : Int32 → zS → Prop} (hw : wX11_ticksToPass (zln Y) σ v0 v1 v2 v3 Q) : ∀ sz, Met l yX11_ticksToPass (zw yX11_ticksToPass cX11_ticksToPass 5 (some .int)) rX11_ticksToPass (zPc E Y σ sz [.int v0, .int v1, .int v2, .int v3]) (va_Qi Q (zB E Y sz) (zA Y sz)) 0 0 (zA Y sz) := by
  refine z_met (own := RX11) (Qc := fun sz => va_Qi Q (zB E Y sz) (zA Y sz)) (by decide +kernel) rfl (Nat.le_of_ble_eq_true rfl) ?_
  intro p e s m args below meth c hG hinit
  unfold wX11_ticksToPass at hw
  refine zlv (lv' := [(0, .int v0), (1, .int v1), (2, .int v2), (3, .int v3)]) rfl ?_
  refine z_sipush (v := 1000) hG dX11_ticksToPass_0 (by decide) ?_
  refine z_iload_n hG dX11_ticksToPass_3 rfl 0 rfl ?_
  refine z_imul hG dX11_ticksToPass_4 ?_
  refine z_iload_n hG dX11_ticksToPass_5 rfl 1 rfl ?_
  refine z_isub hG dX11_ticksToPass_6 ?_
  refine z_iconst (v := 1) hG dX11_ticksToPass_7 (by decide) ?_
  refine z_isub hG dX11_ticksToPass_8 ?_
  refine z_iload_n hG dX11_ticksToPass_9 rfl 3 rfl ?_
  obtain ⟨x1, ex1⟩ : ∃ y : Int32, y = ((1000 * v0) - v1) - 1 := ⟨_, rfl⟩
  refine zst (st' := [.int v3, .int x1]) (by rw [ex1]) ?_
  have hw := hw x1 ex1
  refine z_calli hG (z_runS (As := [.int x1, .int v3]) (st := []) hG k_X11_138 (MX11_modulo l hw) ⟨(Nat.le_of_ble_eq_true rfl), (Nat.le_of_ble_eq_true rfl)⟩ rfl (Nat.le_of_ble_eq_true rfl) dX11_ticksToPass_10 ⟨Nat.zero_le _, Nat.zero_le _⟩ rfl) (fun r3 σ2 hw => ?_)
  refine z_iconst (v := 1) hG dX11_ticksToPass_13 (by decide) ?_
  refine z_iadd hG dX11_ticksToPass_14 ?_
  refine z_topi (fun x4 ex4 => ?_)
  have hw := hw x4 ex4
  refine z_istore (lv' := [(4, .int x4), (0, .int v0), (1, .int v1), (2, .int v2), (3, .int v3)]) hG dX11_ticksToPass_15 (by decide) rfl ?_
  refine z_iload_n hG dX11_ticksToPass_17 rfl 3 rfl ?_
  refine z_if_le (tgt := 32) hG dX11_ticksToPass_18 (by decide) (fun c6 => ?_) (fun c6 => ?_)
  · have hw := hw.1 c6
    refine z_iconst (v := 0) hG dX11_ticksToPass_32 (by decide) ?_
    exact z_iret hG rfl rfl dX11_ticksToPass_33 hw
  · have hw := hw.2 c6
    refine z_iload hG dX11_ticksToPass_21 0 rfl ?_
    refine z_iload_n hG dX11_ticksToPass_23 rfl 3 rfl ?_
    refine z_iadd hG dX11_ticksToPass_24 ?_
    refine z_iconst (v := 1) hG dX11_ticksToPass_25 (by decide) ?_
    refine z_isub hG dX11_ticksToPass_26 ?_
    refine z_iload_n hG dX11_ticksToPass_27 rfl 3 rfl ?_
    obtain ⟨q5, hw⟩ := hw
    refine z_idiv hG dX11_ticksToPass_28 q5 ?_
    refine z_goto (tgt := 33) hG dX11_ticksToPass_29 (by decide) ?_
    exact z_iret hG rfl rfl dX11_ticksToPass_33 hw
-- TypeWheelTelegraph.ticksToSend(LTypeWheelTelegraph$Line;LTypeWheelTelegraph$Office;)I
def wX11_ticksToSend_20 (ln : Nat → Nat) (Q : Int32 → zS → Prop) : Nat → Nat → Nat → Int32 → Int32 → Int32 → Int32 → zS → Prop
  | 0, _, _, _, _, _, _, _ => False
  | n + 1, t1, t2, v3, v4, v5, v6, σ => ∃ j1 : Nat, gr σ t1 1 = some j1 ∧ wX9_size ln σ j1 (fun r3 σ2 => ((r3 ≤ v6 → Q v5 σ2) ∧ (¬ r3 ≤ v6 → ∃ j4 : Nat, gr σ2 t1 1 = some j4 ∧ wX9_get ln σ2 j4 v6 (fun r6 σ5 => ∀ x7 : Int32, x7 = gi σ5 t2 1 → wX11_ticksToPass ln σ5 r6 v4 x7 v3 (fun r9 σ8 => ∀ x10 : Int32, x10 = v4 + (r9 * (gi σ8 t2 1)) → wX11_modulo ln σ8 x10 v3 (fun r12 σ11 => ∀ x13 : Int32, x13 = v5 + r9 → ∀ x14 : Int32, x14 = v6 + 1 → (wX11_ticksToSend_20 ln Q n) t1 t2 v3 r12 x13 x14 σ11))))))
def wX11_ticksToSend (ln : Nat → Nat) (σ : zS) (t0 : Nat) (t1 : Nat) (t2 : Nat) (Q : Int32 → zS → Prop) : Prop := ∃ j1 : Nat, gr σ t0 6 = some j1 ∧ wX6_circle ln σ j1 (fun r3 σ2 => ∀ x4 : Int32, x4 = gi σ2 t2 0 → ∃ n5 : Nat, wX11_ticksToSend_20 ln Q n5 t1 t2 r3 x4 0 0 σ2)
abbrev rX11_ticksToSend : Room := { frames := 3, cells := 0, slots := 0, locals := 67 }
set_option maxRecDepth 100000 in
set_option maxHeartbeats 4000000 in
theorem BX11_ticksToSend_20 {l : Launch} {E : zE} {Y : zY} {p : Program} {e : Env} {s : State} {m : MethodId} {args : Array Value} {below : List Frame} {meth : Method} {c : Code} (hG : zG E p l s m args meth c cX11_ticksToSend 8 RX11 (some .int) (zA Y s.heap.size)) {Q : Int32 → zS → Prop} : ∀ (n : Nat) (t1 : Nat) (t2 : Nat) (v3 : Int32) (v4 : Int32) (v5 : Int32) (v6 : Int32) (σ : zS), wX11_ticksToSend_20 (zln Y) Q n t1 t2 v3 v4 v5 v6 σ → zT Y 2 t1 → zT Y 4 t2 → WW E Y σ p l e rX11_ticksToSend s m args below meth c (zA Y s.heap.size) 8 0 0 (MQ below (va_Qi Q (zB E Y s.heap.size) (zA Y s.heap.size)) args s 0 0 (zA Y s.heap.size)) [(1, .ref (za Y t1)), (2, .ref (za Y t2)), (3, .int v3), (4, .int v4), (5, .int v5), (6, .int v6)] 20 [] := by
  intro n
  induction n with
  | zero => intro t1 t2 v3 v4 v5 v6 σ hw
            exact hw.elim
  | succ n ih =>
    intro t1 t2 v3 v4 v5 v6 σ hw h1 h2
    rw [wX11_ticksToSend_20] at hw
    refine z_iload hG dX11_ticksToSend_20 5 rfl ?_
    refine z_aload_n hG dX11_ticksToSend_22 rfl 0 rfl ?_
    obtain ⟨j1, ej1, hw⟩ := hw
    refine z_getr (kq := 9) hG f_X11_178 h1 rfl ej1 rfl (by decide) dX11_ticksToSend_23 (fun hj1 => ?_)
    refine z_calli hG (z_runV (As := []) (st := [.int v6]) hG k_X11_67 (MX9_size l hj1 hw) ⟨(Nat.le_of_ble_eq_true rfl), (Nat.le_of_ble_eq_true rfl)⟩ hj1 (T := TX9) (N := 2) rfl (by decide) rfl (Nat.le_of_ble_eq_true rfl) dX11_ticksToSend_26 ⟨Nat.zero_le _, Nat.zero_le _⟩ rfl) (fun r3 σ2 hw => ?_)
    refine z_icmp_ge (tgt := 82) hG dX11_ticksToSend_29 (by decide) (fun c15 => ?_) (fun c15 => ?_)
    · have hw := hw.1 c15
      refine z_iload hG dX11_ticksToSend_82 4 rfl ?_
      exact z_iret hG rfl rfl dX11_ticksToSend_84 hw
    · have hw := hw.2 c15
      refine z_aload_n hG dX11_ticksToSend_32 rfl 0 rfl ?_
      obtain ⟨j4, ej4, hw⟩ := hw
      refine z_getr (kq := 9) hG f_X11_178 h1 rfl ej4 rfl (by decide) dX11_ticksToSend_33 (fun hj4 => ?_)
      refine z_iload hG dX11_ticksToSend_36 5 rfl ?_
      refine z_calli hG (z_runV (As := [.int v6]) (st := []) hG k_X11_189 (MX9_get l hj4 hw) ⟨(Nat.le_of_ble_eq_true rfl), (Nat.le_of_ble_eq_true rfl)⟩ hj4 (T := TX9) (N := 2) rfl (by decide) rfl (Nat.le_of_ble_eq_true rfl) dX11_ticksToSend_38 ⟨Nat.zero_le _, Nat.zero_le _⟩ rfl) (fun r6 σ5 hw => ?_)
      refine z_iload hG dX11_ticksToSend_41 3 rfl ?_
      refine z_aload_n hG dX11_ticksToSend_43 rfl 1 rfl ?_
      refine z_geti hG f_X11_132 h2 rfl dX11_ticksToSend_44 ?_
      refine z_iload_n hG dX11_ticksToSend_47 rfl 2 rfl ?_
      obtain ⟨x7, ex7⟩ : ∃ y : Int32, y = gi σ5 t2 1 := ⟨_, rfl⟩
      refine zst (st' := [.int v3, .int x7, .int v4, .int r6]) (by rw [ex7]) ?_
      have hw := hw x7 ex7
      refine z_calli hG (z_runS (As := [.int r6, .int v4, .int x7, .int v3]) (st := []) hG k_X11_193 (MX11_ticksToPass l hw) ⟨(Nat.le_of_ble_eq_true rfl), (Nat.le_of_ble_eq_true rfl)⟩ rfl (Nat.le_of_ble_eq_true rfl) dX11_ticksToSend_48 ⟨Nat.zero_le _, Nat.zero_le _⟩ rfl) (fun r9 σ8 hw => ?_)
      refine z_istore (lv' := [(7, .int r9), (1, .ref (za Y t1)), (2, .ref (za Y t2)), (3, .int v3), (4, .int v4), (5, .int v5), (6, .int v6)]) hG dX11_ticksToSend_51 (by decide) rfl ?_
      refine z_iload hG dX11_ticksToSend_53 4 rfl ?_
      refine z_iload hG dX11_ticksToSend_55 0 rfl ?_
      refine z_aload_n hG dX11_ticksToSend_57 rfl 2 rfl ?_
      refine z_geti hG f_X11_132 h2 rfl dX11_ticksToSend_58 ?_
      refine z_imul hG dX11_ticksToSend_61 ?_
      refine z_iadd hG dX11_ticksToSend_62 ?_
      refine z_iload_n hG dX11_ticksToSend_63 rfl 3 rfl ?_
      obtain ⟨x10, ex10⟩ : ∃ y : Int32, y = v4 + (r9 * (gi σ8 t2 1)) := ⟨_, rfl⟩
      refine zst (st' := [.int v3, .int x10]) (by rw [ex10]) ?_
      have hw := hw x10 ex10
      refine z_calli hG (z_runS (As := [.int x10, .int v3]) (st := []) hG k_X11_138 (MX11_modulo l hw) ⟨(Nat.le_of_ble_eq_true rfl), (Nat.le_of_ble_eq_true rfl)⟩ rfl (Nat.le_of_ble_eq_true rfl) dX11_ticksToSend_64 ⟨Nat.zero_le _, Nat.zero_le _⟩ rfl) (fun r12 σ11 hw => ?_)
      refine z_istore (lv' := [(4, .int r12), (7, .int r9), (1, .ref (za Y t1)), (2, .ref (za Y t2)), (3, .int v3), (5, .int v5), (6, .int v6)]) hG dX11_ticksToSend_67 (by decide) rfl ?_
      refine z_iload hG dX11_ticksToSend_69 5 rfl ?_
      refine z_iload hG dX11_ticksToSend_71 1 rfl ?_
      refine z_iadd hG dX11_ticksToSend_73 ?_
      refine z_topi (fun x13 ex13 => ?_)
      have hw := hw x13 ex13
      refine z_istore (lv' := [(5, .int x13), (4, .int r12), (7, .int r9), (1, .ref (za Y t1)), (2, .ref (za Y t2)), (3, .int v3), (6, .int v6)]) hG dX11_ticksToSend_74 (by decide) rfl ?_
      obtain ⟨x14, ex14⟩ : ∃ y : Int32, y = v6 + 1 := ⟨_, rfl⟩
      have hw := hw x14 ex14
      refine z_iinc (v := x14) (lv' := [(6, .int x14), (5, .int x13), (4, .int r12), (7, .int r9), (1, .ref (za Y t1)), (2, .ref (za Y t2)), (3, .int v3)]) hG dX11_ticksToSend_76 6 rfl (by rw [ex14]; rfl) (by decide) rfl ?_
      refine z_goto (tgt := 20) hG dX11_ticksToSend_79 (by decide) ?_
      refine zpick [4, 5, 6, 2, 1, 0] (lv' := [(1, .ref (za Y t1)), (2, .ref (za Y t2)), (3, .int v3), (4, .int r12), (5, .int x13), (6, .int x14)]) rfl ?_
      exact ih t1 t2 v3 r12 x13 x14 σ11 hw h1 h2
set_option maxRecDepth 100000 in
set_option maxHeartbeats 4000000 in
theorem MX11_ticksToSend (l : Launch) {E : zE} {Y : zY} {σ : zS} {t0 : Nat} {t1 : Nat} {t2 : Nat} (h0 : zT Y 11 t0) (h1 : zT Y 2 t1) (h2 : zT Y 4 t2) {Q : Int32 → zS → Prop} (hw : wX11_ticksToSend (zln Y) σ t0 t1 t2 Q) : ∀ sz, Met l yX11_ticksToSend (zw yX11_ticksToSend cX11_ticksToSend 8 (some .int)) rX11_ticksToSend (zPc E Y σ sz [.ref (za Y t0), .ref (za Y t1), .ref (za Y t2)]) (va_Qi Q (zB E Y sz) (zA Y sz)) 0 0 (zA Y sz) := by
  refine z_met (own := RX11) (Qc := fun sz => va_Qi Q (zB E Y sz) (zA Y sz)) (by decide +kernel) rfl (Nat.le_of_ble_eq_true rfl) ?_
  intro p e s m args below meth c hG hinit
  unfold wX11_ticksToSend at hw
  refine zlv (lv' := [(0, .ref (za Y t0)), (1, .ref (za Y t1)), (2, .ref (za Y t2))]) rfl ?_
  refine z_aload_n hG dX11_ticksToSend_0 rfl 0 rfl ?_
  obtain ⟨j1, ej1, hw⟩ := hw
  refine z_getr (kq := 6) hG f_X11_37 h0 rfl ej1 rfl (by decide) dX11_ticksToSend_1 (fun hj1 => ?_)
  refine z_calli hG (z_runV (As := []) (st := []) hG k_X11_159 (MX6_circle l hj1 hw) ⟨(Nat.le_of_ble_eq_true rfl), (Nat.le_of_ble_eq_true rfl)⟩ hj1 (T := TX6) (N := 8) rfl (by decide) rfl (Nat.le_of_ble_eq_true rfl) dX11_ticksToSend_4 ⟨Nat.zero_le _, Nat.zero_le _⟩ rfl) (fun r3 σ2 hw => ?_)
  refine z_istore_n (lv' := [(3, .int r3), (0, .ref (za Y t0)), (1, .ref (za Y t1)), (2, .ref (za Y t2))]) hG dX11_ticksToSend_7 rfl (by decide) rfl ?_
  refine z_aload_n hG dX11_ticksToSend_8 rfl 3 rfl ?_
  refine z_geti hG f_X11_127 h2 rfl dX11_ticksToSend_9 ?_
  refine z_topi (fun x4 ex4 => ?_)
  have hw := hw x4 ex4
  refine z_istore (lv' := [(4, .int x4), (3, .int r3), (0, .ref (za Y t0)), (1, .ref (za Y t1)), (2, .ref (za Y t2))]) hG dX11_ticksToSend_12 (by decide) rfl ?_
  refine z_iconst (v := 0) hG dX11_ticksToSend_14 (by decide) ?_
  refine z_istore (lv' := [(5, .int 0), (4, .int x4), (3, .int r3), (0, .ref (za Y t0)), (1, .ref (za Y t1)), (2, .ref (za Y t2))]) hG dX11_ticksToSend_15 (by decide) rfl ?_
  refine z_iconst (v := 0) hG dX11_ticksToSend_17 (by decide) ?_
  refine z_istore (lv' := [(6, .int 0), (5, .int 0), (4, .int x4), (3, .int r3), (0, .ref (za Y t0)), (1, .ref (za Y t1)), (2, .ref (za Y t2))]) hG dX11_ticksToSend_18 (by decide) rfl ?_
  obtain ⟨n5, hw⟩ := hw
  refine zpick [5, 6, 3, 2, 1, 0] (lv' := [(1, .ref (za Y t1)), (2, .ref (za Y t2)), (3, .int r3), (4, .int x4), (5, .int 0), (6, .int 0)]) rfl ?_
  exact BX11_ticksToSend_20 hG n5 t1 t2 r3 x4 0 0 σ2 hw h1 h2
-- TypeWheelTelegraph.ticksFor(II)I
def wX11_ticksFor (ln : Nat → Nat) (σ : zS) (t0 : Nat) (v1 : Int32) (v2 : Int32) (Q : Int32 → zS → Prop) : Prop := wX11_lineAt ln σ t0 v1 v2 (fun r2 σ1 => wX11_officeAt ln σ1 t0 v1 (fun r4 σ3 => wX11_ticksToSend ln σ3 t0 r2 r4 (fun r6 σ5 => Q r6 σ5)))
abbrev rX11_ticksFor : Room := { frames := 4, cells := 0, slots := 0, locals := 94 }
set_option maxRecDepth 100000 in
set_option maxHeartbeats 4000000 in
theorem MX11_ticksFor (l : Launch) {E : zE} {Y : zY} {σ : zS} {t0 : Nat} {v1 : Int32} {v2 : Int32} (h0 : zT Y 11 t0) {Q : Int32 → zS → Prop} (hw : wX11_ticksFor (zln Y) σ t0 v1 v2 Q) : ∀ sz, Met l yX11_ticksFor (zw yX11_ticksFor cX11_ticksFor 3 (some .int)) rX11_ticksFor (zPc E Y σ sz [.ref (za Y t0), .int v1, .int v2]) (va_Qi Q (zB E Y sz) (zA Y sz)) 0 0 (zA Y sz) := by
  refine z_met (own := RX11) (Qc := fun sz => va_Qi Q (zB E Y sz) (zA Y sz)) (by decide +kernel) rfl (Nat.le_of_ble_eq_true rfl) ?_
  intro p e s m args below meth c hG hinit
  unfold wX11_ticksFor at hw
  refine zlv (lv' := [(0, .ref (za Y t0)), (1, .int v1), (2, .int v2)]) rfl ?_
  refine z_aload_n hG dX11_ticksFor_0 rfl 0 rfl ?_
  refine z_aload_n hG dX11_ticksFor_1 rfl 0 rfl ?_
  refine z_iload_n hG dX11_ticksFor_2 rfl 1 rfl ?_
  refine z_iload_n hG dX11_ticksFor_3 rfl 2 rfl ?_
  refine z_callr hG (z_runV (As := [.int v1, .int v2]) (st := [.ref (za Y t0)]) hG k_X11_169 (MX11_lineAt l h0 hw) ⟨(Nat.le_of_ble_eq_true rfl), (Nat.le_of_ble_eq_true rfl)⟩ h0 (T := TX11) (N := 9) rfl (by decide) rfl (Nat.le_of_ble_eq_true rfl) dX11_ticksFor_4 ⟨Nat.zero_le _, Nat.zero_le _⟩ rfl) (fun r2 σ1 hr2 hw => ?_)
  refine z_aload_n hG dX11_ticksFor_7 rfl 0 rfl ?_
  refine z_iload_n hG dX11_ticksFor_8 rfl 1 rfl ?_
  refine z_callr hG (z_runV (As := [.int v1]) (st := [.ref (za Y r2), .ref (za Y t0)]) hG k_X11_123 (MX11_officeAt l h0 hw) ⟨(Nat.le_of_ble_eq_true rfl), (Nat.le_of_ble_eq_true rfl)⟩ h0 (T := TX11) (N := 9) rfl (by decide) rfl (Nat.le_of_ble_eq_true rfl) dX11_ticksFor_9 ⟨Nat.zero_le _, Nat.zero_le _⟩ rfl) (fun r4 σ3 hr4 hw => ?_)
  refine z_calli hG (z_runV (As := [.ref (za Y r2), .ref (za Y r4)]) (st := []) hG k_X11_185 (MX11_ticksToSend l h0 hr2 hr4 hw) ⟨(Nat.le_of_ble_eq_true rfl), (Nat.le_of_ble_eq_true rfl)⟩ h0 (T := TX11) (N := 9) rfl (by decide) rfl (Nat.le_of_ble_eq_true rfl) dX11_ticksFor_12 ⟨Nat.zero_le _, Nat.zero_le _⟩ rfl) (fun r6 σ5 hw => ?_)
  exact z_iret hG rfl rfl dX11_ticksFor_15 hw
-- TypeWheelTelegraph.slowestLine(I)I
def wX11_slowestLine_17 (ln : Nat → Nat) (Q : Int32 → zS → Prop) : Nat → Nat → Int32 → Int32 → Int32 → Int32 → Int32 → zS → Prop
  | 0, _, _, _, _, _, _, _ => False
  | n + 1, t0, v1, v2, v3, v4, v5, σ => ((v2 ≤ v5 → Q v3 σ) ∧ (¬ v2 ≤ v5 → wX11_lineAt ln σ t0 v1 v5 (fun r2 σ1 => wX11_officeAt ln σ1 t0 v1 (fun r4 σ3 => wX11_ticksToSend ln σ3 t0 r2 r4 (fun r6 σ5 => ((r6 ≤ v4 → ∀ x7 : Int32, x7 = v5 + 1 → (wX11_slowestLine_17 ln Q n) t0 v1 v2 v3 v4 x7 σ5) ∧ (¬ r6 ≤ v4 → ∀ x8 : Int32, x8 = v5 + 1 → (wX11_slowestLine_17 ln Q n) t0 v1 v2 v5 r6 x8 σ5)))))))
def wX11_slowestLine (ln : Nat → Nat) (σ : zS) (t0 : Nat) (v1 : Int32) (Q : Int32 → zS → Prop) : Prop := wX11_deskAt ln σ t0 v1 (fun r2 σ1 => ∀ x3 : Int32, x3 = gi σ1 r2 2 → ∃ n4 : Nat, wX11_slowestLine_17 ln Q n4 t0 v1 x3 (-1) (-1) 0 σ1)
abbrev rX11_slowestLine : Room := { frames := 4, cells := 0, slots := 0, locals := 94 }
set_option maxRecDepth 100000 in
set_option maxHeartbeats 4000000 in
theorem BX11_slowestLine_17 {l : Launch} {E : zE} {Y : zY} {p : Program} {e : Env} {s : State} {m : MethodId} {args : Array Value} {below : List Frame} {meth : Method} {c : Code} (hG : zG E p l s m args meth c cX11_slowestLine 7 RX11 (some .int) (zA Y s.heap.size)) {Q : Int32 → zS → Prop} : ∀ (n : Nat) (t0 : Nat) (v1 : Int32) (v2 : Int32) (v3 : Int32) (v4 : Int32) (v5 : Int32) (σ : zS), wX11_slowestLine_17 (zln Y) Q n t0 v1 v2 v3 v4 v5 σ → zT Y 11 t0 → WW E Y σ p l e rX11_slowestLine s m args below meth c (zA Y s.heap.size) 7 0 0 (MQ below (va_Qi Q (zB E Y s.heap.size) (zA Y s.heap.size)) args s 0 0 (zA Y s.heap.size)) [(0, .ref (za Y t0)), (1, .int v1), (2, .int v2), (3, .int v3), (4, .int v4), (5, .int v5)] 17 [] := by
  intro n
  induction n with
  | zero => intro t0 v1 v2 v3 v4 v5 σ hw
            exact hw.elim
  | succ n ih =>
    intro t0 v1 v2 v3 v4 v5 σ hw h0
    rw [wX11_slowestLine_17] at hw
    refine z_iload hG dX11_slowestLine_17 5 rfl ?_
    refine z_iload_n hG dX11_slowestLine_19 rfl 2 rfl ?_
    refine z_icmp_ge (tgt := 61) hG dX11_slowestLine_20 (by decide) (fun c10 => ?_) (fun c10 => ?_)
    · have hw := hw.1 c10
      refine z_iload_n hG dX11_slowestLine_61 rfl 3 rfl ?_
      exact z_iret hG rfl rfl dX11_slowestLine_62 hw
    · have hw := hw.2 c10
      refine z_aload_n hG dX11_slowestLine_23 rfl 0 rfl ?_
      refine z_aload_n hG dX11_slowestLine_24 rfl 0 rfl ?_
      refine z_iload_n hG dX11_slowestLine_25 rfl 1 rfl ?_
      refine z_iload hG dX11_slowestLine_26 5 rfl ?_
      refine z_callr hG (z_runV (As := [.int v1, .int v5]) (st := [.ref (za Y t0)]) hG k_X11_169 (MX11_lineAt l h0 hw) ⟨(Nat.le_of_ble_eq_true rfl), (Nat.le_of_ble_eq_true rfl)⟩ h0 (T := TX11) (N := 9) rfl (by decide) rfl (Nat.le_of_ble_eq_true rfl) dX11_slowestLine_28 ⟨Nat.zero_le _, Nat.zero_le _⟩ rfl) (fun r2 σ1 hr2 hw => ?_)
      refine z_aload_n hG dX11_slowestLine_31 rfl 0 rfl ?_
      refine z_iload_n hG dX11_slowestLine_32 rfl 1 rfl ?_
      refine z_callr hG (z_runV (As := [.int v1]) (st := [.ref (za Y r2), .ref (za Y t0)]) hG k_X11_123 (MX11_officeAt l h0 hw) ⟨(Nat.le_of_ble_eq_true rfl), (Nat.le_of_ble_eq_true rfl)⟩ h0 (T := TX11) (N := 9) rfl (by decide) rfl (Nat.le_of_ble_eq_true rfl) dX11_slowestLine_33 ⟨Nat.zero_le _, Nat.zero_le _⟩ rfl) (fun r4 σ3 hr4 hw => ?_)
      refine z_calli hG (z_runV (As := [.ref (za Y r2), .ref (za Y r4)]) (st := []) hG k_X11_185 (MX11_ticksToSend l h0 hr2 hr4 hw) ⟨(Nat.le_of_ble_eq_true rfl), (Nat.le_of_ble_eq_true rfl)⟩ h0 (T := TX11) (N := 9) rfl (by decide) rfl (Nat.le_of_ble_eq_true rfl) dX11_slowestLine_36 ⟨Nat.zero_le _, Nat.zero_le _⟩ rfl) (fun r6 σ5 hw => ?_)
      refine z_istore (lv' := [(6, .int r6), (0, .ref (za Y t0)), (1, .int v1), (2, .int v2), (3, .int v3), (4, .int v4), (5, .int v5)]) hG dX11_slowestLine_39 (by decide) rfl ?_
      refine z_iload hG dX11_slowestLine_41 0 rfl ?_
      refine z_iload hG dX11_slowestLine_43 5 rfl ?_
      refine z_icmp_le (tgt := 55) hG dX11_slowestLine_45 (by decide) (fun c9 => ?_) (fun c9 => ?_)
      · have hw := hw.1 c9
        obtain ⟨x7, ex7⟩ : ∃ y : Int32, y = v5 + 1 := ⟨_, rfl⟩
        have hw := hw x7 ex7
        refine z_iinc (v := x7) (lv' := [(5, .int x7), (6, .int r6), (0, .ref (za Y t0)), (1, .int v1), (2, .int v2), (3, .int v3), (4, .int v4)]) hG dX11_slowestLine_55 6 rfl (by rw [ex7]; rfl) (by decide) rfl ?_
        refine z_goto (tgt := 17) hG dX11_slowestLine_58 (by decide) ?_
        refine zpick [2, 3, 4, 5, 6, 0] (lv' := [(0, .ref (za Y t0)), (1, .int v1), (2, .int v2), (3, .int v3), (4, .int v4), (5, .int x7)]) rfl ?_
        exact ih t0 v1 v2 v3 v4 x7 σ5 hw h0
      · have hw := hw.2 c9
        refine z_iload hG dX11_slowestLine_48 0 rfl ?_
        refine z_istore (lv' := [(4, .int r6), (6, .int r6), (0, .ref (za Y t0)), (1, .int v1), (2, .int v2), (3, .int v3), (5, .int v5)]) hG dX11_slowestLine_50 (by decide) rfl ?_
        refine z_iload hG dX11_slowestLine_52 6 rfl ?_
        refine z_istore_n (lv' := [(3, .int v5), (4, .int r6), (6, .int r6), (0, .ref (za Y t0)), (1, .int v1), (2, .int v2), (5, .int v5)]) hG dX11_slowestLine_54 rfl (by decide) rfl ?_
        obtain ⟨x8, ex8⟩ : ∃ y : Int32, y = v5 + 1 := ⟨_, rfl⟩
        have hw := hw x8 ex8
        refine z_iinc (v := x8) (lv' := [(5, .int x8), (3, .int v5), (4, .int r6), (6, .int r6), (0, .ref (za Y t0)), (1, .int v1), (2, .int v2)]) hG dX11_slowestLine_55 6 rfl (by rw [ex8]; rfl) (by decide) rfl ?_
        refine z_goto (tgt := 17) hG dX11_slowestLine_58 (by decide) ?_
        refine zpick [4, 5, 6, 1, 2, 0] (lv' := [(0, .ref (za Y t0)), (1, .int v1), (2, .int v2), (3, .int v5), (4, .int r6), (5, .int x8)]) rfl ?_
        exact ih t0 v1 v2 v5 r6 x8 σ5 hw h0
set_option maxRecDepth 100000 in
set_option maxHeartbeats 4000000 in
theorem MX11_slowestLine (l : Launch) {E : zE} {Y : zY} {σ : zS} {t0 : Nat} {v1 : Int32} (h0 : zT Y 11 t0) {Q : Int32 → zS → Prop} (hw : wX11_slowestLine (zln Y) σ t0 v1 Q) : ∀ sz, Met l yX11_slowestLine (zw yX11_slowestLine cX11_slowestLine 7 (some .int)) rX11_slowestLine (zPc E Y σ sz [.ref (za Y t0), .int v1]) (va_Qi Q (zB E Y sz) (zA Y sz)) 0 0 (zA Y sz) := by
  refine z_met (own := RX11) (Qc := fun sz => va_Qi Q (zB E Y sz) (zA Y sz)) (by decide +kernel) rfl (Nat.le_of_ble_eq_true rfl) ?_
  intro p e s m args below meth c hG hinit
  unfold wX11_slowestLine at hw
  refine zlv (lv' := [(0, .ref (za Y t0)), (1, .int v1)]) rfl ?_
  refine z_aload_n hG dX11_slowestLine_0 rfl 0 rfl ?_
  refine z_iload_n hG dX11_slowestLine_1 rfl 1 rfl ?_
  refine z_callr hG (z_runV (As := [.int v1]) (st := []) hG k_X11_162 (MX11_deskAt l h0 hw) ⟨(Nat.le_of_ble_eq_true rfl), (Nat.le_of_ble_eq_true rfl)⟩ h0 (T := TX11) (N := 9) rfl (by decide) rfl (Nat.le_of_ble_eq_true rfl) dX11_slowestLine_2 ⟨Nat.zero_le _, Nat.zero_le _⟩ rfl) (fun r2 σ1 hr2 hw => ?_)
  refine z_geti hG f_X11_109 hr2 rfl dX11_slowestLine_5 ?_
  refine z_topi (fun x3 ex3 => ?_)
  have hw := hw x3 ex3
  refine z_istore_n (lv' := [(2, .int x3), (0, .ref (za Y t0)), (1, .int v1)]) hG dX11_slowestLine_8 rfl (by decide) rfl ?_
  refine z_iconst (v := (-1)) hG dX11_slowestLine_9 (by decide) ?_
  refine z_istore_n (lv' := [(3, .int (-1)), (2, .int x3), (0, .ref (za Y t0)), (1, .int v1)]) hG dX11_slowestLine_10 rfl (by decide) rfl ?_
  refine z_iconst (v := (-1)) hG dX11_slowestLine_11 (by decide) ?_
  refine z_istore (lv' := [(4, .int (-1)), (3, .int (-1)), (2, .int x3), (0, .ref (za Y t0)), (1, .int v1)]) hG dX11_slowestLine_12 (by decide) rfl ?_
  refine z_iconst (v := 0) hG dX11_slowestLine_14 (by decide) ?_
  refine z_istore (lv' := [(5, .int 0), (4, .int (-1)), (3, .int (-1)), (2, .int x3), (0, .ref (za Y t0)), (1, .int v1)]) hG dX11_slowestLine_15 (by decide) rfl ?_
  obtain ⟨n4, hw⟩ := hw
  refine zpick [4, 5, 3, 2, 1, 0] (lv' := [(0, .ref (za Y t0)), (1, .int v1), (2, .int x3), (3, .int (-1)), (4, .int (-1)), (5, .int 0)]) rfl ?_
  exact BX11_slowestLine_17 hG n4 t0 v1 x3 (-1) (-1) 0 σ1 hw h0
-- TypeWheelTelegraph.sender()I
def wX11_sender (ln : Nat → Nat) (σ : zS) (t0 : Nat) (Q : Int32 → zS → Prop) : Prop := ∃ j1 : Nat, gr σ t0 3 = some j1 ∧ Q (gi σ j1 3) σ
abbrev rX11_sender : Room := { frames := 0, cells := 0, slots := 0, locals := 0 }
set_option maxRecDepth 100000 in
set_option maxHeartbeats 4000000 in
theorem MX11_sender (l : Launch) {E : zE} {Y : zY} {σ : zS} {t0 : Nat} (h0 : zT Y 11 t0) {Q : Int32 → zS → Prop} (hw : wX11_sender (zln Y) σ t0 Q) : ∀ sz, Met l yX11_sender (zw yX11_sender cX11_sender 1 (some .int)) rX11_sender (zPc E Y σ sz [.ref (za Y t0)]) (va_Qi Q (zB E Y sz) (zA Y sz)) 0 0 (zA Y sz) := by
  refine z_met (own := RX11) (Qc := fun sz => va_Qi Q (zB E Y sz) (zA Y sz)) (by decide +kernel) rfl (Nat.le_of_ble_eq_true rfl) ?_
  intro p e s m args below meth c hG hinit
  unfold wX11_sender at hw
  refine zlv (lv' := [(0, .ref (za Y t0))]) rfl ?_
  refine z_aload_n hG dX11_sender_0 rfl 0 rfl ?_
  obtain ⟨j1, ej1, hw⟩ := hw
  refine z_getr (kq := 3) hG f_X11_53 h0 rfl ej1 rfl (by decide) dX11_sender_1 (fun hj1 => ?_)
  refine z_geti hG f_X11_197 hj1 rfl dX11_sender_4 ?_
  exact z_iret hG rfl rfl dX11_sender_7 hw
-- TypeWheelTelegraph$Records.size()I
def wX8_size (ln : Nat → Nat) (σ : zS) (t0 : Nat) (Q : Int32 → zS → Prop) : Prop := Q (gi σ t0 3) σ
abbrev rX8_size : Room := { frames := 0, cells := 0, slots := 0, locals := 0 }
set_option maxRecDepth 100000 in
set_option maxHeartbeats 4000000 in
theorem MX8_size (l : Launch) {E : zE} {Y : zY} {σ : zS} {t0 : Nat} (h0 : zT Y 8 t0) {Q : Int32 → zS → Prop} (hw : wX8_size (zln Y) σ t0 Q) : ∀ sz, Met l yX8_size (zw yX8_size cX8_size 1 (some .int)) rX8_size (zPc E Y σ sz [.ref (za Y t0)]) (va_Qi Q (zB E Y sz) (zA Y sz)) 0 0 (zA Y sz) := by
  refine z_met (own := RX8) (Qc := fun sz => va_Qi Q (zB E Y sz) (zA Y sz)) (by decide +kernel) rfl (Nat.le_of_ble_eq_true rfl) ?_
  intro p e s m args below meth c hG hinit
  unfold wX8_size at hw
  refine zlv (lv' := [(0, .ref (za Y t0))]) rfl ?_
  refine z_aload_n hG dX8_size_0 rfl 0 rfl ?_
  refine z_geti hG f_X8_25 h0 rfl dX8_size_1 ?_
  exact z_iret hG rfl rfl dX8_size_4 hw
-- TypeWheelTelegraph.underWay()I
def wX11_underWay (ln : Nat → Nat) (σ : zS) (t0 : Nat) (Q : Int32 → zS → Prop) : Prop := ∃ j1 : Nat, gr σ t0 3 = some j1 ∧ ∃ j2 : Nat, gr σ j1 14 = some j2 ∧ wX8_size ln σ j2 (fun r4 σ3 => Q r4 σ3)
abbrev rX11_underWay : Room := { frames := 1, cells := 0, slots := 0, locals := 20 }
set_option maxRecDepth 100000 in
set_option maxHeartbeats 4000000 in
theorem MX11_underWay (l : Launch) {E : zE} {Y : zY} {σ : zS} {t0 : Nat} (h0 : zT Y 11 t0) {Q : Int32 → zS → Prop} (hw : wX11_underWay (zln Y) σ t0 Q) : ∀ sz, Met l yX11_underWay (zw yX11_underWay cX11_underWay 1 (some .int)) rX11_underWay (zPc E Y σ sz [.ref (za Y t0)]) (va_Qi Q (zB E Y sz) (zA Y sz)) 0 0 (zA Y sz) := by
  refine z_met (own := RX11) (Qc := fun sz => va_Qi Q (zB E Y sz) (zA Y sz)) (by decide +kernel) rfl (Nat.le_of_ble_eq_true rfl) ?_
  intro p e s m args below meth c hG hinit
  unfold wX11_underWay at hw
  refine zlv (lv' := [(0, .ref (za Y t0))]) rfl ?_
  refine z_aload_n hG dX11_underWay_0 rfl 0 rfl ?_
  obtain ⟨j1, ej1, hw⟩ := hw
  refine z_getr (kq := 3) hG f_X11_53 h0 rfl ej1 rfl (by decide) dX11_underWay_1 (fun hj1 => ?_)
  obtain ⟨j2, ej2, hw⟩ := hw
  refine z_getr (kq := 8) hG f_X11_210 hj1 rfl ej2 rfl (by decide) dX11_underWay_4 (fun hj2 => ?_)
  refine z_calli hG (z_runV (As := []) (st := []) hG k_X11_214 (MX8_size l hj2 hw) ⟨(Nat.le_of_ble_eq_true rfl), (Nat.le_of_ble_eq_true rfl)⟩ hj2 (T := TX8) (N := 4) rfl (by decide) rfl (Nat.le_of_ble_eq_true rfl) dX11_underWay_7 ⟨Nat.zero_le _, Nat.zero_le _⟩ rfl) (fun r4 σ3 hw => ?_)
  exact z_iret hG rfl rfl dX11_underWay_10 hw
-- TypeWheelTelegraph$Machine.nextPosition()I
def wX3_nextPosition (ln : Nat → Nat) (σ : zS) (t0 : Nat) (Q : Int32 → zS → Prop) : Prop := (((gi σ t0 3) = (-1) → Q (-1) σ) ∧ (¬ (gi σ t0 3) = (-1) → (((gi σ t0 4) = 0 → ∃ j1 : Nat, gr σ t0 0 = some j1 ∧ ∀ x2 : Int32, x2 = gi σ t0 3 → wX6_desk ln σ j1 x2 (fun r4 σ3 => ∀ x5 : Int32, x5 = gi σ3 t0 3 → wX3_office ln σ3 t0 x5 (fun r7 σ6 => ∀ x8 : Int32, x8 = gi σ6 r7 2 → wX0_line ln σ6 r4 x8 (fun r10 σ9 => (r10 = none → Q (-1) σ9) ∧ (∀ j11 : Nat, r10 = some j11 → ∃ j12 : Nat, gr σ9 j11 1 = some j12 ∧ ∀ x13 : Int32, x13 = gi σ9 t0 6 → wX9_get ln σ9 j12 x13 (fun r15 σ14 => Q r15 σ14)))))) ∧ (¬ (gi σ t0 4) = 0 → Q (-1) σ))))
abbrev rX3_nextPosition : Room := { frames := 1, cells := 0, slots := 0, locals := 21 }
set_option maxRecDepth 100000 in
set_option maxHeartbeats 4000000 in
theorem MX3_nextPosition (l : Launch) {E : zE} {Y : zY} {σ : zS} {t0 : Nat} (h0 : zT Y 3 t0) {Q : Int32 → zS → Prop} (hw : wX3_nextPosition (zln Y) σ t0 Q) : ∀ sz, Met l yX3_nextPosition (zw yX3_nextPosition cX3_nextPosition 2 (some .int)) rX3_nextPosition (zPc E Y σ sz [.ref (za Y t0)]) (va_Qi Q (zB E Y sz) (zA Y sz)) 0 0 (zA Y sz) := by
  refine z_met (own := RX3) (Qc := fun sz => va_Qi Q (zB E Y sz) (zA Y sz)) (by decide +kernel) rfl (Nat.le_of_ble_eq_true rfl) ?_
  intro p e s m args below meth c hG hinit
  unfold wX3_nextPosition at hw
  refine zlv (lv' := [(0, .ref (za Y t0))]) rfl ?_
  refine z_aload_n hG dX3_nextPosition_0 rfl 0 rfl ?_
  refine z_geti hG f_X3_9 h0 rfl dX3_nextPosition_1 ?_
  refine z_iconst (v := (-1)) hG dX3_nextPosition_4 (by decide) ?_
  refine z_icmp_eq (tgt := 15) hG dX3_nextPosition_5 (by decide) (fun c17 => ?_) (fun c17 => ?_)
  · have hw := hw.1 c17
    refine z_iconst (v := (-1)) hG dX3_nextPosition_15 (by decide) ?_
    exact z_iret hG rfl rfl dX3_nextPosition_16 hw
  · have hw := hw.2 c17
    refine z_aload_n hG dX3_nextPosition_8 rfl 0 rfl ?_
    refine z_geti hG f_X3_96 h0 rfl dX3_nextPosition_9 ?_
    refine z_if_eq (tgt := 17) hG dX3_nextPosition_12 (by decide) (fun c16 => ?_) (fun c16 => ?_)
    · have hw := hw.1 c16
      refine z_aload_n hG dX3_nextPosition_17 rfl 0 rfl ?_
      obtain ⟨j1, ej1, hw⟩ := hw
      refine z_getr (kq := 6) hG f_X3_55 h0 rfl ej1 rfl (by decide) dX3_nextPosition_18 (fun hj1 => ?_)
      refine z_aload_n hG dX3_nextPosition_21 rfl 0 rfl ?_
      refine z_geti hG f_X3_9 h0 rfl dX3_nextPosition_22 ?_
      refine z_topi (fun x2 ex2 => ?_)
      have hw := hw x2 ex2
      refine z_callr hG (z_runV (As := [.int x2]) (st := []) hG k_X3_230 (MX6_desk l hj1 hw) ⟨(Nat.le_of_ble_eq_true rfl), (Nat.le_of_ble_eq_true rfl)⟩ hj1 (T := TX6) (N := 8) rfl (by decide) rfl (Nat.le_of_ble_eq_true rfl) dX3_nextPosition_25 ⟨Nat.zero_le _, Nat.zero_le _⟩ rfl) (fun r4 σ3 hr4 hw => ?_)
      refine z_aload_n hG dX3_nextPosition_28 rfl 0 rfl ?_
      refine z_aload_n hG dX3_nextPosition_29 rfl 0 rfl ?_
      refine z_geti hG f_X3_9 h0 rfl dX3_nextPosition_30 ?_
      refine z_topi (fun x5 ex5 => ?_)
      have hw := hw x5 ex5
      refine z_callr hG (z_runV (As := [.int x5]) (st := [.ref (za Y r4)]) hG k_X3_170 (MX3_office l h0 hw) ⟨(Nat.le_of_ble_eq_true rfl), (Nat.le_of_ble_eq_true rfl)⟩ h0 (T := TX3) (N := 17) rfl (by decide) rfl (Nat.le_of_ble_eq_true rfl) dX3_nextPosition_33 ⟨Nat.zero_le _, Nat.zero_le _⟩ rfl) (fun r7 σ6 hr7 hw => ?_)
      refine z_geti hG f_X3_174 hr7 rfl dX3_nextPosition_36 ?_
      refine z_topi (fun x8 ex8 => ?_)
      have hw := hw x8 ex8
      refine z_calle hG (z_runV (As := [.int x8]) (st := []) hG k_X3_234 (MX0_line l hr4 hw) ⟨(Nat.le_of_ble_eq_true rfl), (Nat.le_of_ble_eq_true rfl)⟩ hr4 (T := TX0) (N := 4) rfl (by decide) rfl (Nat.le_of_ble_eq_true rfl) dX3_nextPosition_39 ⟨Nat.zero_le _, Nat.zero_le _⟩ rfl) (fun σ9 hw => ?_) (fun j11 σ9 hj11 hw => ?_)
      · have hw := hw.1 rfl
        refine z_astoreN_n (lv' := [(1, .null), (0, .ref (za Y t0))]) hG dX3_nextPosition_42 rfl (by decide) rfl ?_
        refine z_aloadN_n hG dX3_nextPosition_43 rfl 0 rfl ?_
        refine z_ifnonnull_no hG dX3_nextPosition_44 ?_
        refine z_iconst (v := (-1)) hG dX3_nextPosition_47 (by decide) ?_
        refine z_goto (tgt := 62) hG dX3_nextPosition_48 (by decide) ?_
        exact z_iret hG rfl rfl dX3_nextPosition_62 hw
      · have hw := hw.2 j11 rfl
        refine z_astore_n (lv' := [(1, .ref (za Y j11)), (0, .ref (za Y t0))]) hG dX3_nextPosition_42 rfl (by decide) rfl ?_
        refine z_aload_n hG dX3_nextPosition_43 rfl 0 rfl ?_
        refine z_ifnonnull_yes (tgt := 51) hG dX3_nextPosition_44 (by decide) ?_
        refine z_aload_n hG dX3_nextPosition_51 rfl 0 rfl ?_
        obtain ⟨j12, ej12, hw⟩ := hw
        refine z_getr (kq := 9) hG f_X3_240 hj11 rfl ej12 rfl (by decide) dX3_nextPosition_52 (fun hj12 => ?_)
        refine z_aload_n hG dX3_nextPosition_55 rfl 1 rfl ?_
        refine z_geti hG f_X3_103 h0 rfl dX3_nextPosition_56 ?_
        refine z_topi (fun x13 ex13 => ?_)
        have hw := hw x13 ex13
        refine z_calli hG (z_runV (As := [.int x13]) (st := []) hG k_X3_209 (MX9_get l hj12 hw) ⟨(Nat.le_of_ble_eq_true rfl), (Nat.le_of_ble_eq_true rfl)⟩ hj12 (T := TX9) (N := 2) rfl (by decide) rfl (Nat.le_of_ble_eq_true rfl) dX3_nextPosition_59 ⟨Nat.zero_le _, Nat.zero_le _⟩ rfl) (fun r15 σ14 hw => ?_)
        exact z_iret hG rfl rfl dX3_nextPosition_62 hw
    · have hw := hw.2 c16
      refine z_iconst (v := (-1)) hG dX3_nextPosition_15 (by decide) ?_
      exact z_iret hG rfl rfl dX3_nextPosition_16 hw
-- TypeWheelTelegraph.nextPulseIn()I
def wX11_nextPulseIn (ln : Nat → Nat) (σ : zS) (t0 : Nat) (Q : Int32 → zS → Prop) : Prop := ∃ j1 : Nat, gr σ t0 3 = some j1 ∧ wX3_nextPosition ln σ j1 (fun r3 σ2 => ((r3 = (-1) → Q (-1) σ2) ∧ (¬ r3 = (-1) → ∃ j4 : Nat, gr σ2 t0 3 = some j4 ∧ ∃ j5 : Nat, gr σ2 t0 3 = some j5 ∧ ∀ x6 : Int32, x6 = gi σ2 j5 3 → wX3_office ln σ2 j4 x6 (fun r8 σ7 => ∃ j9 : Nat, gr σ7 t0 6 = some j9 ∧ wX6_circle ln σ7 j9 (fun r11 σ10 => ∀ x12 : Int32, x12 = gi σ7 r8 1 → ∀ x13 : Int32, x13 = gi σ7 r8 0 → wX11_ticksToPass ln σ10 r3 x13 x12 r11 (fun r15 σ14 => Q r15 σ14))))))
abbrev rX11_nextPulseIn : Room := { frames := 3, cells := 0, slots := 0, locals := 67 }
set_option maxRecDepth 100000 in
set_option maxHeartbeats 4000000 in
theorem MX11_nextPulseIn (l : Launch) {E : zE} {Y : zY} {σ : zS} {t0 : Nat} (h0 : zT Y 11 t0) {Q : Int32 → zS → Prop} (hw : wX11_nextPulseIn (zln Y) σ t0 Q) : ∀ sz, Met l yX11_nextPulseIn (zw yX11_nextPulseIn cX11_nextPulseIn 3 (some .int)) rX11_nextPulseIn (zPc E Y σ sz [.ref (za Y t0)]) (va_Qi Q (zB E Y sz) (zA Y sz)) 0 0 (zA Y sz) := by
  refine z_met (own := RX11) (Qc := fun sz => va_Qi Q (zB E Y sz) (zA Y sz)) (by decide +kernel) rfl (Nat.le_of_ble_eq_true rfl) ?_
  intro p e s m args below meth c hG hinit
  unfold wX11_nextPulseIn at hw
  refine zlv (lv' := [(0, .ref (za Y t0))]) rfl ?_
  refine z_aload_n hG dX11_nextPulseIn_0 rfl 0 rfl ?_
  obtain ⟨j1, ej1, hw⟩ := hw
  refine z_getr (kq := 3) hG f_X11_53 h0 rfl ej1 rfl (by decide) dX11_nextPulseIn_1 (fun hj1 => ?_)
  refine z_calli hG (z_runV (As := []) (st := []) hG k_X11_217 (MX3_nextPosition l hj1 hw) ⟨(Nat.le_of_ble_eq_true rfl), (Nat.le_of_ble_eq_true rfl)⟩ hj1 (T := TX3) (N := 17) rfl (by decide) rfl (Nat.le_of_ble_eq_true rfl) dX11_nextPulseIn_4 ⟨Nat.zero_le _, Nat.zero_le _⟩ rfl) (fun r3 σ2 hw => ?_)
  refine z_istore_n (lv' := [(1, .int r3), (0, .ref (za Y t0))]) hG dX11_nextPulseIn_7 rfl (by decide) rfl ?_
  refine z_iload_n hG dX11_nextPulseIn_8 rfl 0 rfl ?_
  refine z_iconst (v := (-1)) hG dX11_nextPulseIn_9 (by decide) ?_
  refine z_icmp_ne (tgt := 15) hG dX11_nextPulseIn_10 (by decide) (fun c16 => ?_) (fun c16 => ?_)
  · have hw := hw.2 c16
    refine z_aload_n hG dX11_nextPulseIn_15 rfl 1 rfl ?_
    obtain ⟨j4, ej4, hw⟩ := hw
    refine z_getr (kq := 3) hG f_X11_53 h0 rfl ej4 rfl (by decide) dX11_nextPulseIn_16 (fun hj4 => ?_)
    refine z_aload_n hG dX11_nextPulseIn_19 rfl 1 rfl ?_
    obtain ⟨j5, ej5, hw⟩ := hw
    refine z_getr (kq := 3) hG f_X11_53 h0 rfl ej5 rfl (by decide) dX11_nextPulseIn_20 (fun hj5 => ?_)
    refine z_geti hG f_X11_197 hj5 rfl dX11_nextPulseIn_23 ?_
    refine z_topi (fun x6 ex6 => ?_)
    have hw := hw x6 ex6
    refine z_callr hG (z_runV (As := [.int x6]) (st := []) hG k_X11_220 (MX3_office l hj4 hw) ⟨(Nat.le_of_ble_eq_true rfl), (Nat.le_of_ble_eq_true rfl)⟩ hj4 (T := TX3) (N := 17) rfl (by decide) rfl (Nat.le_of_ble_eq_true rfl) dX11_nextPulseIn_26 ⟨Nat.zero_le _, Nat.zero_le _⟩ rfl) (fun r8 σ7 hr8 hw => ?_)
    refine z_astore_n (lv' := [(2, .ref (za Y r8)), (1, .int r3), (0, .ref (za Y t0))]) hG dX11_nextPulseIn_29 rfl (by decide) rfl ?_
    refine z_iload_n hG dX11_nextPulseIn_30 rfl 1 rfl ?_
    refine z_aload_n hG dX11_nextPulseIn_31 rfl 0 rfl ?_
    refine z_geti hG f_X11_127 hr8 rfl dX11_nextPulseIn_32 ?_
    refine z_aload_n hG dX11_nextPulseIn_35 rfl 0 rfl ?_
    refine z_geti hG f_X11_132 hr8 rfl dX11_nextPulseIn_36 ?_
    refine z_aload_n hG dX11_nextPulseIn_39 rfl 2 rfl ?_
    obtain ⟨j9, ej9, hw⟩ := hw
    refine z_getr (kq := 6) hG f_X11_37 h0 rfl ej9 rfl (by decide) dX11_nextPulseIn_40 (fun hj9 => ?_)
    refine z_calli hG (z_runV (As := []) (st := [.int (gi σ7 r8 1), .int (gi σ7 r8 0), .int r3]) hG k_X11_159 (MX6_circle l hj9 hw) ⟨(Nat.le_of_ble_eq_true rfl), (Nat.le_of_ble_eq_true rfl)⟩ hj9 (T := TX6) (N := 8) rfl (by decide) rfl (Nat.le_of_ble_eq_true rfl) dX11_nextPulseIn_43 ⟨Nat.zero_le _, Nat.zero_le _⟩ rfl) (fun r11 σ10 hw => ?_)
    obtain ⟨x12, ex12⟩ : ∃ y : Int32, y = gi σ7 r8 1 := ⟨_, rfl⟩
    refine zst (st' := [.int r11, .int x12, .int (gi σ7 r8 0), .int r3]) (by rw [ex12]) ?_
    have hw := hw x12 ex12
    obtain ⟨x13, ex13⟩ : ∃ y : Int32, y = gi σ7 r8 0 := ⟨_, rfl⟩
    refine zst (st' := [.int r11, .int x12, .int x13, .int r3]) (by rw [ex13]) ?_
    have hw := hw x13 ex13
    refine z_calli hG (z_runS (As := [.int r3, .int x13, .int x12, .int r11]) (st := []) hG k_X11_193 (MX11_ticksToPass l hw) ⟨(Nat.le_of_ble_eq_true rfl), (Nat.le_of_ble_eq_true rfl)⟩ rfl (Nat.le_of_ble_eq_true rfl) dX11_nextPulseIn_46 ⟨Nat.zero_le _, Nat.zero_le _⟩ rfl) (fun r15 σ14 hw => ?_)
    exact z_iret hG rfl rfl dX11_nextPulseIn_49 hw
  · have hw := hw.1 c16
    refine z_iconst (v := (-1)) hG dX11_nextPulseIn_13 (by decide) ?_
    exact z_iret hG rfl rfl dX11_nextPulseIn_14 hw
-- TypeWheelTelegraph$Machine.silentTicks()I
def wX3_silentTicks (ln : Nat → Nat) (σ : zS) (t0 : Nat) (Q : Int32 → zS → Prop) : Prop := Q ((gi σ t0 1) - (gi σ t0 8)) σ
abbrev rX3_silentTicks : Room := { frames := 0, cells := 0, slots := 0, locals := 0 }
set_option maxRecDepth 100000 in
set_option maxHeartbeats 4000000 in
theorem MX3_silentTicks (l : Launch) {E : zE} {Y : zY} {σ : zS} {t0 : Nat} (h0 : zT Y 3 t0) {Q : Int32 → zS → Prop} (hw : wX3_silentTicks (zln Y) σ t0 Q) : ∀ sz, Met l yX3_silentTicks (zw yX3_silentTicks cX3_silentTicks 1 (some .int)) rX3_silentTicks (zPc E Y σ sz [.ref (za Y t0)]) (va_Qi Q (zB E Y sz) (zA Y sz)) 0 0 (zA Y sz) := by
  refine z_met (own := RX3) (Qc := fun sz => va_Qi Q (zB E Y sz) (zA Y sz)) (by decide +kernel) rfl (Nat.le_of_ble_eq_true rfl) ?_
  intro p e s m args below meth c hG hinit
  unfold wX3_silentTicks at hw
  refine zlv (lv' := [(0, .ref (za Y t0))]) rfl ?_
  refine z_aload_n hG dX3_silentTicks_0 rfl 0 rfl ?_
  refine z_geti hG f_X3_59 h0 rfl dX3_silentTicks_1 ?_
  refine z_aload_n hG dX3_silentTicks_4 rfl 0 rfl ?_
  refine z_geti hG f_X3_90 h0 rfl dX3_silentTicks_5 ?_
  refine z_isub hG dX3_silentTicks_8 ?_
  exact z_iret hG rfl rfl dX3_silentTicks_9 hw
-- TypeWheelTelegraph.silence()I
def wX11_silence (ln : Nat → Nat) (σ : zS) (t0 : Nat) (Q : Int32 → zS → Prop) : Prop := ∃ j1 : Nat, gr σ t0 3 = some j1 ∧ (((gi σ j1 3) = (-1) → Q 0 σ) ∧ (¬ (gi σ j1 3) = (-1) → ∃ j2 : Nat, gr σ t0 3 = some j2 ∧ wX3_silentTicks ln σ j2 (fun r4 σ3 => Q r4 σ3)))
abbrev rX11_silence : Room := { frames := 1, cells := 0, slots := 0, locals := 20 }
set_option maxRecDepth 100000 in
set_option maxHeartbeats 4000000 in
theorem MX11_silence (l : Launch) {E : zE} {Y : zY} {σ : zS} {t0 : Nat} (h0 : zT Y 11 t0) {Q : Int32 → zS → Prop} (hw : wX11_silence (zln Y) σ t0 Q) : ∀ sz, Met l yX11_silence (zw yX11_silence cX11_silence 1 (some .int)) rX11_silence (zPc E Y σ sz [.ref (za Y t0)]) (va_Qi Q (zB E Y sz) (zA Y sz)) 0 0 (zA Y sz) := by
  refine z_met (own := RX11) (Qc := fun sz => va_Qi Q (zB E Y sz) (zA Y sz)) (by decide +kernel) rfl (Nat.le_of_ble_eq_true rfl) ?_
  intro p e s m args below meth c hG hinit
  unfold wX11_silence at hw
  refine zlv (lv' := [(0, .ref (za Y t0))]) rfl ?_
  refine z_aload_n hG dX11_silence_0 rfl 0 rfl ?_
  obtain ⟨j1, ej1, hw⟩ := hw
  refine z_getr (kq := 3) hG f_X11_53 h0 rfl ej1 rfl (by decide) dX11_silence_1 (fun hj1 => ?_)
  refine z_geti hG f_X11_197 hj1 rfl dX11_silence_4 ?_
  refine z_iconst (v := (-1)) hG dX11_silence_7 (by decide) ?_
  refine z_icmp_ne (tgt := 15) hG dX11_silence_8 (by decide) (fun c5 => ?_) (fun c5 => ?_)
  · have hw := hw.2 c5
    refine z_aload_n hG dX11_silence_15 rfl 0 rfl ?_
    obtain ⟨j2, ej2, hw⟩ := hw
    refine z_getr (kq := 3) hG f_X11_53 h0 rfl ej2 rfl (by decide) dX11_silence_16 (fun hj2 => ?_)
    refine z_calli hG (z_runV (As := []) (st := []) hG k_X11_223 (MX3_silentTicks l hj2 hw) ⟨(Nat.le_of_ble_eq_true rfl), (Nat.le_of_ble_eq_true rfl)⟩ hj2 (T := TX3) (N := 17) rfl (by decide) rfl (Nat.le_of_ble_eq_true rfl) dX11_silence_19 ⟨Nat.zero_le _, Nat.zero_le _⟩ rfl) (fun r4 σ3 hw => ?_)
    exact z_iret hG rfl rfl dX11_silence_22 hw
  · have hw := hw.1 c5
    refine z_iconst (v := 0) hG dX11_silence_11 (by decide) ?_
    refine z_goto (tgt := 22) hG dX11_silence_12 (by decide) ?_
    exact z_iret hG rfl rfl dX11_silence_22 hw
-- TypeWheelTelegraph.bufferCharacter(I)C
def wxX11_bufferCharacter (ln : Nat → Nat) (σ : zS) (t0 : Nat) (v1 : Int32) (Q : Int32 → zS → Prop) (X : String → zS → Prop) : Prop := ∃ j1 : Nat, gr σ t0 3 = some j1 ∧ ∃ j2 : Nat, gr σ j1 13 = some j2 ∧ ∃ j3 : Nat, gr σ j2 0 = some j3 ∧ wxX11_itemAt ln σ j3 v1 (fun r5 σ4 => Q ((r5.toUInt32 % 65536).toInt32) σ4) X
abbrev rxX11_bufferCharacter : Room := { frames := 7, cells := 1, slots := 6, locals := 121 }
set_option maxRecDepth 100000 in
set_option maxHeartbeats 4000000 in
theorem MxX11_bufferCharacter (l : Launch) (hlt : l.stackTraces = false) {E : zE} {Y : zY} {σ : zS} {t0 : Nat} {v1 : Int32} (h0 : zT Y 11 t0) {Q : Int32 → zS → Prop} {X : String → zS → Prop} (hw : wxX11_bufferCharacter (zln Y) σ t0 v1 Q X) : ∀ sz, vx_Met l yX11_bufferCharacter (zw yX11_bufferCharacter cX11_bufferCharacter 2 (some .char)) rxX11_bufferCharacter (zPc E Y σ sz [.ref (za Y t0), .int v1]) (va_Qi Q (zB E Y sz) (zA Y sz)) (zX X E Y sz) 1 6 (zA Y sz) := by
  refine z_metX (own := RX11) (Qc := fun sz => va_Qi Q (zB E Y sz) (zA Y sz)) (XC := fun sz => zX X E Y sz) (by decide +kernel) rfl (Nat.le_of_ble_eq_true rfl) ?_
  intro p e s m args below meth c hG hex
  unfold wxX11_bufferCharacter at hw
  refine zlv (lv' := [(0, .ref (za Y t0)), (1, .int v1)]) rfl ?_
  refine z_aload_n hG dX11_bufferCharacter_0 rfl 0 rfl ?_
  obtain ⟨j1, ej1, hw⟩ := hw
  refine z_getr (kq := 3) hG f_X11_53 h0 rfl ej1 rfl (by decide) dX11_bufferCharacter_1 (fun hj1 => ?_)
  obtain ⟨j2, ej2, hw⟩ := hw
  refine z_getr (kq := 7) hG f_X11_226 hj1 rfl ej2 rfl (by decide) dX11_bufferCharacter_4 (fun hj2 => ?_)
  obtain ⟨j3, ej3, hw⟩ := hw
  refine z_getr (kq := 9) hG f_X11_230 hj2 rfl ej3 rfl (by decide) dX11_bufferCharacter_7 (fun hj3 => ?_)
  refine z_iload_n hG dX11_bufferCharacter_10 rfl 1 rfl ?_
  refine z_callXi hG hex (z_runXS (As := [.ref (za Y j3), .int v1]) (st := []) hG k_X11_181 (MxX11_itemAt l hlt hj3 hw) rfl rfl ⟨(Nat.le_of_ble_eq_true rfl), (Nat.le_of_ble_eq_true rfl)⟩ rfl (Nat.le_of_ble_eq_true rfl) dX11_bufferCharacter_11 ⟨show 0 + 1 ≤ 1 from by omega, show 0 + 6 ≤ 6 from by omega⟩ rfl) (show 0 + 1 ≤ 1 from by omega) (show 0 + 6 ≤ 6 from by omega) (fun r5 σ4 hw => ?_)
  refine zwiden (k := 1) (n := 6) (show 0 + 1 ≤ 1 from by omega) (show 0 + 6 ≤ 6 from by omega) ?_
  refine z_i2c hG dX11_bufferCharacter_14 ?_
  refine zwiden (k := 1) (n := 6) (by omega) (by omega) (zvx ?_)
  exact z_iret hG rfl (pk_nc _) dX11_bufferCharacter_15 hw
-- TypeWheelTelegraph.receivedCharacter(II)C
def wxX11_receivedCharacter (ln : Nat → Nat) (σ : zS) (t0 : Nat) (v1 : Int32) (v2 : Int32) (Q : Int32 → zS → Prop) (X : String → zS → Prop) : Prop := wxX11_officeAt ln σ t0 v1 (fun r2 σ1 => ∃ j3 : Nat, gr σ1 r2 7 = some j3 ∧ wxX11_itemAt ln σ1 j3 v2 (fun r5 σ4 => Q ((r5.toUInt32 % 65536).toInt32) σ4) X) X
abbrev rxX11_receivedCharacter : Room := { frames := 8, cells := 2, slots := 12, locals := 141 }
set_option maxRecDepth 100000 in
set_option maxHeartbeats 4000000 in
theorem MxX11_receivedCharacter (l : Launch) (hlt : l.stackTraces = false) {E : zE} {Y : zY} {σ : zS} {t0 : Nat} {v1 : Int32} {v2 : Int32} (h0 : zT Y 11 t0) {Q : Int32 → zS → Prop} {X : String → zS → Prop} (hw : wxX11_receivedCharacter (zln Y) σ t0 v1 v2 Q X) : ∀ sz, vx_Met l yX11_receivedCharacter (zw yX11_receivedCharacter cX11_receivedCharacter 3 (some .char)) rxX11_receivedCharacter (zPc E Y σ sz [.ref (za Y t0), .int v1, .int v2]) (va_Qi Q (zB E Y sz) (zA Y sz)) (zX X E Y sz) 2 12 (zA Y sz) := by
  refine z_metX (own := RX11) (Qc := fun sz => va_Qi Q (zB E Y sz) (zA Y sz)) (XC := fun sz => zX X E Y sz) (by decide +kernel) rfl (Nat.le_of_ble_eq_true rfl) ?_
  intro p e s m args below meth c hG hex
  unfold wxX11_receivedCharacter at hw
  refine zlv (lv' := [(0, .ref (za Y t0)), (1, .int v1), (2, .int v2)]) rfl ?_
  refine z_aload_n hG dX11_receivedCharacter_0 rfl 0 rfl ?_
  refine z_iload_n hG dX11_receivedCharacter_1 rfl 1 rfl ?_
  refine z_callXr hG hex (z_runXV (As := [.int v1]) (st := []) hG k_X11_123 (MxX11_officeAt l hlt h0 hw) rfl rfl ⟨(Nat.le_of_ble_eq_true rfl), (Nat.le_of_ble_eq_true rfl)⟩ h0 (T := TX11) (N := 9) rfl (by decide) rfl (Nat.le_of_ble_eq_true rfl) dX11_receivedCharacter_2 ⟨show 0 + 1 ≤ 2 from by omega, show 0 + 6 ≤ 12 from by omega⟩ rfl) (show 0 + 1 ≤ 2 from by omega) (show 0 + 6 ≤ 12 from by omega) (fun r2 σ1 hr2 hw => ?_)
  refine zwiden (k := 1) (n := 6) (show 0 + 1 ≤ 1 from by omega) (show 0 + 6 ≤ 6 from by omega) ?_
  obtain ⟨j3, ej3, hw⟩ := hw
  refine z_getr (kq := 9) hG f_X11_235 hr2 rfl ej3 rfl (by decide) dX11_receivedCharacter_5 (fun hj3 => ?_)
  refine z_iload_n hG dX11_receivedCharacter_8 rfl 2 rfl ?_
  refine z_callXi hG hex (z_runXS (As := [.ref (za Y j3), .int v2]) (st := []) hG k_X11_181 (MxX11_itemAt l hlt hj3 hw) rfl rfl ⟨(Nat.le_of_ble_eq_true rfl), (Nat.le_of_ble_eq_true rfl)⟩ rfl (Nat.le_of_ble_eq_true rfl) dX11_receivedCharacter_9 ⟨show 1 + 1 ≤ 2 from by omega, show 6 + 6 ≤ 12 from by omega⟩ rfl) (show 1 + 1 ≤ 2 from by omega) (show 6 + 6 ≤ 12 from by omega) (fun r5 σ4 hw => ?_)
  refine zwiden (k := 2) (n := 12) (show 1 + 1 ≤ 2 from by omega) (show 6 + 6 ≤ 12 from by omega) ?_
  refine z_i2c hG dX11_receivedCharacter_12 ?_
  refine zwiden (k := 2) (n := 12) (by omega) (by omega) (zvx ?_)
  exact z_iret hG rfl (pk_nc _) dX11_receivedCharacter_13 hw
-- TypeWheelTelegraph.pulses()I
def wX11_pulses (ln : Nat → Nat) (σ : zS) (t0 : Nat) (Q : Int32 → zS → Prop) : Prop := ∃ j1 : Nat, gr σ t0 3 = some j1 ∧ Q (gi σ j1 9) σ
abbrev rX11_pulses : Room := { frames := 0, cells := 0, slots := 0, locals := 0 }
set_option maxRecDepth 100000 in
set_option maxHeartbeats 4000000 in
theorem MX11_pulses (l : Launch) {E : zE} {Y : zY} {σ : zS} {t0 : Nat} (h0 : zT Y 11 t0) {Q : Int32 → zS → Prop} (hw : wX11_pulses (zln Y) σ t0 Q) : ∀ sz, Met l yX11_pulses (zw yX11_pulses cX11_pulses 1 (some .int)) rX11_pulses (zPc E Y σ sz [.ref (za Y t0)]) (va_Qi Q (zB E Y sz) (zA Y sz)) 0 0 (zA Y sz) := by
  refine z_met (own := RX11) (Qc := fun sz => va_Qi Q (zB E Y sz) (zA Y sz)) (by decide +kernel) rfl (Nat.le_of_ble_eq_true rfl) ?_
  intro p e s m args below meth c hG hinit
  unfold wX11_pulses at hw
  refine zlv (lv' := [(0, .ref (za Y t0))]) rfl ?_
  refine z_aload_n hG dX11_pulses_0 rfl 0 rfl ?_
  obtain ⟨j1, ej1, hw⟩ := hw
  refine z_getr (kq := 3) hG f_X11_53 h0 rfl ej1 rfl (by decide) dX11_pulses_1 (fun hj1 => ?_)
  refine z_geti hG f_X11_238 hj1 rfl dX11_pulses_4 ?_
  exact z_iret hG rfl rfl dX11_pulses_7 hw
-- TypeWheelTelegraph.prints(I)I
def wX11_prints (ln : Nat → Nat) (σ : zS) (t0 : Nat) (v1 : Int32) (Q : Int32 → zS → Prop) : Prop := wX11_officeAt ln σ t0 v1 (fun r2 σ1 => Q (gi σ1 r2 3) σ1)
abbrev rX11_prints : Room := { frames := 2, cells := 0, slots := 0, locals := 42 }
set_option maxRecDepth 100000 in
set_option maxHeartbeats 4000000 in
theorem MX11_prints (l : Launch) {E : zE} {Y : zY} {σ : zS} {t0 : Nat} {v1 : Int32} (h0 : zT Y 11 t0) {Q : Int32 → zS → Prop} (hw : wX11_prints (zln Y) σ t0 v1 Q) : ∀ sz, Met l yX11_prints (zw yX11_prints cX11_prints 2 (some .int)) rX11_prints (zPc E Y σ sz [.ref (za Y t0), .int v1]) (va_Qi Q (zB E Y sz) (zA Y sz)) 0 0 (zA Y sz) := by
  refine z_met (own := RX11) (Qc := fun sz => va_Qi Q (zB E Y sz) (zA Y sz)) (by decide +kernel) rfl (Nat.le_of_ble_eq_true rfl) ?_
  intro p e s m args below meth c hG hinit
  unfold wX11_prints at hw
  refine zlv (lv' := [(0, .ref (za Y t0)), (1, .int v1)]) rfl ?_
  refine z_aload_n hG dX11_prints_0 rfl 0 rfl ?_
  refine z_iload_n hG dX11_prints_1 rfl 1 rfl ?_
  refine z_callr hG (z_runV (As := [.int v1]) (st := []) hG k_X11_123 (MX11_officeAt l h0 hw) ⟨(Nat.le_of_ble_eq_true rfl), (Nat.le_of_ble_eq_true rfl)⟩ h0 (T := TX11) (N := 9) rfl (by decide) rfl (Nat.le_of_ble_eq_true rfl) dX11_prints_2 ⟨Nat.zero_le _, Nat.zero_le _⟩ rfl) (fun r2 σ1 hr2 hw => ?_)
  refine z_geti hG f_X11_243 hr2 rfl dX11_prints_5 ?_
  exact z_iret hG rfl rfl dX11_prints_8 hw
-- TypeWheelTelegraph.meanOffset(I)D
def wX11_meanOffset (ln : Nat → Nat) (σ : zS) (t0 : Nat) (v1 : Int32) (Q : UInt64 → zS → Prop) : Prop := wX11_officeAt ln σ t0 v1 (fun r2 σ1 => (((gi σ1 r2 3) = 0 → Q FP.dconst0 σ1) ∧ (¬ (gi σ1 r2 3) = 0 → vf_n64 (FP.ddiv (FP.l2d (gl σ1 r2 6)) (FP.i2d (gi σ1 r2 3))) ∧ Q (FP.ddiv (FP.l2d (gl σ1 r2 6)) (FP.i2d (gi σ1 r2 3))) σ1)))
abbrev rX11_meanOffset : Room := { frames := 2, cells := 0, slots := 0, locals := 42 }
set_option maxRecDepth 100000 in
set_option maxHeartbeats 4000000 in
theorem MX11_meanOffset (l : Launch) {E : zE} {Y : zY} {σ : zS} {t0 : Nat} {v1 : Int32} (h0 : zT Y 11 t0) {Q : UInt64 → zS → Prop} (hw : wX11_meanOffset (zln Y) σ t0 v1 Q) : ∀ sz, Met l yX11_meanOffset (zw yX11_meanOffset cX11_meanOffset 3 (some .double)) rX11_meanOffset (zPc E Y σ sz [.ref (za Y t0), .int v1]) (va_Qd Q (zB E Y sz) (zA Y sz)) 0 0 (zA Y sz) := by
  refine z_met (own := RX11) (Qc := fun sz => va_Qd Q (zB E Y sz) (zA Y sz)) (by decide +kernel) rfl (Nat.le_of_ble_eq_true rfl) ?_
  intro p e s m args below meth c hG hinit
  unfold wX11_meanOffset at hw
  refine zlv (lv' := [(0, .ref (za Y t0)), (1, .int v1)]) rfl ?_
  refine z_aload_n hG dX11_meanOffset_0 rfl 0 rfl ?_
  refine z_iload_n hG dX11_meanOffset_1 rfl 1 rfl ?_
  refine z_callr hG (z_runV (As := [.int v1]) (st := []) hG k_X11_123 (MX11_officeAt l h0 hw) ⟨(Nat.le_of_ble_eq_true rfl), (Nat.le_of_ble_eq_true rfl)⟩ h0 (T := TX11) (N := 9) rfl (by decide) rfl (Nat.le_of_ble_eq_true rfl) dX11_meanOffset_2 ⟨Nat.zero_le _, Nat.zero_le _⟩ rfl) (fun r2 σ1 hr2 hw => ?_)
  refine z_astore_n (lv' := [(2, .ref (za Y r2)), (0, .ref (za Y t0)), (1, .int v1)]) hG dX11_meanOffset_5 rfl (by decide) rfl ?_
  refine z_aload_n hG dX11_meanOffset_6 rfl 0 rfl ?_
  refine z_geti hG f_X11_243 hr2 rfl dX11_meanOffset_7 ?_
  refine z_if_ne (tgt := 17) hG dX11_meanOffset_10 (by decide) (fun c4 => ?_) (fun c4 => ?_)
  · have hw := hw.2 c4
    refine z_aload_n hG dX11_meanOffset_17 rfl 0 rfl ?_
    refine z_getl hG f_X11_252 hr2 rfl dX11_meanOffset_18 ?_
    refine z_l2d hG dX11_meanOffset_21 ?_
    refine z_aload_n hG dX11_meanOffset_22 rfl 0 rfl ?_
    refine z_geti hG f_X11_243 hr2 rfl dX11_meanOffset_23 ?_
    refine z_i2d hG dX11_meanOffset_26 ?_
    obtain ⟨q3, hw⟩ := hw
    refine z_ddiv hG dX11_meanOffset_27 q3 ?_
    exact z_dret hG rfl dX11_meanOffset_28 hw
  · have hw := hw.1 c4
    refine z_dconst0 hG dX11_meanOffset_13 ?_
    refine z_goto (tgt := 28) hG dX11_meanOffset_14 (by decide) ?_
    exact z_dret hG rfl dX11_meanOffset_28 hw
-- TypeWheelTelegraph.eventCount()I
def wX11_eventCount (ln : Nat → Nat) (σ : zS) (t0 : Nat) (Q : Int32 → zS → Prop) : Prop := ∃ j1 : Nat, gr σ t0 3 = some j1 ∧ ∃ j2 : Nat, gr σ j1 15 = some j2 ∧ wX8_size ln σ j2 (fun r4 σ3 => Q r4 σ3)
abbrev rX11_eventCount : Room := { frames := 1, cells := 0, slots := 0, locals := 20 }
set_option maxRecDepth 100000 in
set_option maxHeartbeats 4000000 in
theorem MX11_eventCount (l : Launch) {E : zE} {Y : zY} {σ : zS} {t0 : Nat} (h0 : zT Y 11 t0) {Q : Int32 → zS → Prop} (hw : wX11_eventCount (zln Y) σ t0 Q) : ∀ sz, Met l yX11_eventCount (zw yX11_eventCount cX11_eventCount 1 (some .int)) rX11_eventCount (zPc E Y σ sz [.ref (za Y t0)]) (va_Qi Q (zB E Y sz) (zA Y sz)) 0 0 (zA Y sz) := by
  refine z_met (own := RX11) (Qc := fun sz => va_Qi Q (zB E Y sz) (zA Y sz)) (by decide +kernel) rfl (Nat.le_of_ble_eq_true rfl) ?_
  intro p e s m args below meth c hG hinit
  unfold wX11_eventCount at hw
  refine zlv (lv' := [(0, .ref (za Y t0))]) rfl ?_
  refine z_aload_n hG dX11_eventCount_0 rfl 0 rfl ?_
  obtain ⟨j1, ej1, hw⟩ := hw
  refine z_getr (kq := 3) hG f_X11_53 h0 rfl ej1 rfl (by decide) dX11_eventCount_1 (fun hj1 => ?_)
  obtain ⟨j2, ej2, hw⟩ := hw
  refine z_getr (kq := 8) hG f_X11_256 hj1 rfl ej2 rfl (by decide) dX11_eventCount_4 (fun hj2 => ?_)
  refine z_calli hG (z_runV (As := []) (st := []) hG k_X11_214 (MX8_size l hj2 hw) ⟨(Nat.le_of_ble_eq_true rfl), (Nat.le_of_ble_eq_true rfl)⟩ hj2 (T := TX8) (N := 4) rfl (by decide) rfl (Nat.le_of_ble_eq_true rfl) dX11_eventCount_7 ⟨Nat.zero_le _, Nat.zero_le _⟩ rfl) (fun r4 σ3 hw => ?_)
  exact z_iret hG rfl rfl dX11_eventCount_10 hw
-- TypeWheelTelegraph$Records.cellOf(I)I
def wX8_cellOf (ln : Nat → Nat) (σ : zS) (t0 : Nat) (v1 : Int32) (Q : Int32 → zS → Prop) : Prop := ∀ x1 : Int32, x1 = (gi σ t0 2) + v1 → (((gi σ t0 0) ≤ x1 → Q (3 * (x1 - (gi σ t0 0))) σ) ∧ (¬ (gi σ t0 0) ≤ x1 → Q (3 * x1) σ))
abbrev rX8_cellOf : Room := { frames := 0, cells := 0, slots := 0, locals := 0 }
set_option maxRecDepth 100000 in
set_option maxHeartbeats 4000000 in
theorem MX8_cellOf (l : Launch) {E : zE} {Y : zY} {σ : zS} {t0 : Nat} {v1 : Int32} (h0 : zT Y 8 t0) {Q : Int32 → zS → Prop} (hw : wX8_cellOf (zln Y) σ t0 v1 Q) : ∀ sz, Met l yX8_cellOf (zw yX8_cellOf cX8_cellOf 3 (some .int)) rX8_cellOf (zPc E Y σ sz [.ref (za Y t0), .int v1]) (va_Qi Q (zB E Y sz) (zA Y sz)) 0 0 (zA Y sz) := by
  refine z_met (own := RX8) (Qc := fun sz => va_Qi Q (zB E Y sz) (zA Y sz)) (by decide +kernel) rfl (Nat.le_of_ble_eq_true rfl) ?_
  intro p e s m args below meth c hG hinit
  unfold wX8_cellOf at hw
  refine zlv (lv' := [(0, .ref (za Y t0)), (1, .int v1)]) rfl ?_
  refine z_aload_n hG dX8_cellOf_0 rfl 0 rfl ?_
  refine z_geti hG f_X8_35 h0 rfl dX8_cellOf_1 ?_
  refine z_iload_n hG dX8_cellOf_4 rfl 1 rfl ?_
  refine z_iadd hG dX8_cellOf_5 ?_
  refine z_topi (fun x1 ex1 => ?_)
  have hw := hw x1 ex1
  refine z_istore_n (lv' := [(2, .int x1), (0, .ref (za Y t0)), (1, .int v1)]) hG dX8_cellOf_6 rfl (by decide) rfl ?_
  refine z_iconst (v := 3) hG dX8_cellOf_7 (by decide) ?_
  refine z_iload_n hG dX8_cellOf_8 rfl 0 rfl ?_
  refine z_aload_n hG dX8_cellOf_9 rfl 1 rfl ?_
  refine z_geti hG f_X8_15 h0 rfl dX8_cellOf_10 ?_
  refine z_icmp_ge (tgt := 20) hG dX8_cellOf_13 (by decide) (fun c2 => ?_) (fun c2 => ?_)
  · have hw := hw.1 c2
    refine z_iload_n hG dX8_cellOf_20 rfl 0 rfl ?_
    refine z_aload_n hG dX8_cellOf_21 rfl 1 rfl ?_
    refine z_geti hG f_X8_15 h0 rfl dX8_cellOf_22 ?_
    refine z_isub hG dX8_cellOf_25 ?_
    refine z_imul hG dX8_cellOf_26 ?_
    exact z_iret hG rfl rfl dX8_cellOf_27 hw
  · have hw := hw.2 c2
    refine z_iload_n hG dX8_cellOf_16 rfl 0 rfl ?_
    refine z_goto (tgt := 26) hG dX8_cellOf_17 (by decide) ?_
    refine z_imul hG dX8_cellOf_26 ?_
    exact z_iret hG rfl rfl dX8_cellOf_27 hw
-- TypeWheelTelegraph$Records.get(II)I
def wX8_get (ln : Nat → Nat) (σ : zS) (t0 : Nat) (v1 : Int32) (v2 : Int32) (Q : Int32 → zS → Prop) : Prop := ((v1 < 0 → Q (-1) σ) ∧ (¬ v1 < 0 → (((gi σ t0 3) ≤ v1 → Q (-1) σ) ∧ (¬ (gi σ t0 3) ≤ v1 → ((v2 < 0 → Q (-1) σ) ∧ (¬ v2 < 0 → ((v2 < 3 → wX8_cellOf ln σ t0 v1 (fun r2 σ1 => ∀ x3 : Int32, x3 = r2 + v2 → ∃ j4 : Nat, gr σ1 t0 1 = some j4 ∧ (((nI (ln j4)) ≤ x3 → Q (-1) σ1) ∧ (¬ (nI (ln j4)) ≤ x3 → ∃ j5 : Nat, gr σ1 t0 1 = some j5 ∧ vp_in x3 (ln j5) ∧ Q (gi σ1 j5 x3.toNatClampNeg) σ1)))) ∧ (¬ v2 < 3 → Q (-1) σ))))))))
abbrev rX8_get : Room := { frames := 1, cells := 0, slots := 0, locals := 22 }
set_option maxRecDepth 100000 in
set_option maxHeartbeats 4000000 in
theorem MX8_get (l : Launch) {E : zE} {Y : zY} {σ : zS} {t0 : Nat} {v1 : Int32} {v2 : Int32} (h0 : zT Y 8 t0) {Q : Int32 → zS → Prop} (hw : wX8_get (zln Y) σ t0 v1 v2 Q) : ∀ sz, Met l yX8_get (zw yX8_get cX8_get 4 (some .int)) rX8_get (zPc E Y σ sz [.ref (za Y t0), .int v1, .int v2]) (va_Qi Q (zB E Y sz) (zA Y sz)) 0 0 (zA Y sz) := by
  refine z_met (own := RX8) (Qc := fun sz => va_Qi Q (zB E Y sz) (zA Y sz)) (by decide +kernel) rfl (Nat.le_of_ble_eq_true rfl) ?_
  intro p e s m args below meth c hG hinit
  unfold wX8_get at hw
  refine zlv (lv' := [(0, .ref (za Y t0)), (1, .int v1), (2, .int v2)]) rfl ?_
  refine z_iload_n hG dX8_get_0 rfl 1 rfl ?_
  refine z_if_lt (tgt := 21) hG dX8_get_1 (by decide) (fun c11 => ?_) (fun c11 => ?_)
  · have hw := hw.1 c11
    refine z_iconst (v := (-1)) hG dX8_get_21 (by decide) ?_
    exact z_iret hG rfl rfl dX8_get_22 hw
  · have hw := hw.2 c11
    refine z_iload_n hG dX8_get_4 rfl 1 rfl ?_
    refine z_aload_n hG dX8_get_5 rfl 0 rfl ?_
    refine z_geti hG f_X8_25 h0 rfl dX8_get_6 ?_
    refine z_icmp_ge (tgt := 21) hG dX8_get_9 (by decide) (fun c10 => ?_) (fun c10 => ?_)
    · have hw := hw.1 c10
      refine z_iconst (v := (-1)) hG dX8_get_21 (by decide) ?_
      exact z_iret hG rfl rfl dX8_get_22 hw
    · have hw := hw.2 c10
      refine z_iload_n hG dX8_get_12 rfl 2 rfl ?_
      refine z_if_lt (tgt := 21) hG dX8_get_13 (by decide) (fun c9 => ?_) (fun c9 => ?_)
      · have hw := hw.1 c9
        refine z_iconst (v := (-1)) hG dX8_get_21 (by decide) ?_
        exact z_iret hG rfl rfl dX8_get_22 hw
      · have hw := hw.2 c9
        refine z_iload_n hG dX8_get_16 rfl 2 rfl ?_
        refine z_iconst (v := 3) hG dX8_get_17 (by decide) ?_
        refine z_icmp_lt (tgt := 23) hG dX8_get_18 (by decide) (fun c8 => ?_) (fun c8 => ?_)
        · have hw := hw.1 c8
          refine z_aload_n hG dX8_get_23 rfl 0 rfl ?_
          refine z_iload_n hG dX8_get_24 rfl 1 rfl ?_
          refine z_calli hG (z_runV (As := [.int v1]) (st := []) hG k_X8_28 (MX8_cellOf l h0 hw) ⟨(Nat.le_of_ble_eq_true rfl), (Nat.le_of_ble_eq_true rfl)⟩ h0 (T := TX8) (N := 4) rfl (by decide) rfl (Nat.le_of_ble_eq_true rfl) dX8_get_25 ⟨Nat.zero_le _, Nat.zero_le _⟩ rfl) (fun r2 σ1 hw => ?_)
          refine z_iload_n hG dX8_get_28 rfl 2 rfl ?_
          refine z_iadd hG dX8_get_29 ?_
          refine z_topi (fun x3 ex3 => ?_)
          have hw := hw x3 ex3
          refine z_istore_n (lv' := [(3, .int x3), (0, .ref (za Y t0)), (1, .int v1), (2, .int v2)]) hG dX8_get_30 rfl (by decide) rfl ?_
          refine z_iload_n hG dX8_get_31 rfl 0 rfl ?_
          refine z_aload_n hG dX8_get_32 rfl 1 rfl ?_
          obtain ⟨j4, ej4, hw⟩ := hw
          refine z_getr (kq := 20) hG f_X8_21 h0 rfl ej4 rfl (by decide) dX8_get_33 (fun hj4 => ?_)
          refine z_alen hG hj4 (by decide) (t0 := 0) rfl dX8_get_36 ?_
          refine z_icmp_ge (tgt := 49) hG dX8_get_37 (by decide) (fun c7 => ?_) (fun c7 => ?_)
          · have hw := hw.1 c7
            refine z_iconst (v := (-1)) hG dX8_get_49 (by decide) ?_
            exact z_iret hG rfl rfl dX8_get_50 hw
          · have hw := hw.2 c7
            refine z_aload_n hG dX8_get_40 rfl 1 rfl ?_
            obtain ⟨j5, ej5, hw⟩ := hw
            refine z_getr (kq := 20) hG f_X8_21 h0 rfl ej5 rfl (by decide) dX8_get_41 (fun hj5 => ?_)
            refine z_iload_n hG dX8_get_44 rfl 0 rfl ?_
            obtain ⟨q6, hw⟩ := hw
            refine z_iald hG hj5 q6 dX8_get_45 ?_
            refine z_goto (tgt := 50) hG dX8_get_46 (by decide) ?_
            exact z_iret hG rfl rfl dX8_get_50 hw
        · have hw := hw.2 c8
          refine z_iconst (v := (-1)) hG dX8_get_21 (by decide) ?_
          exact z_iret hG rfl rfl dX8_get_22 hw
-- TypeWheelTelegraph.event(II)I
def wxX11_event_18 (ln : Nat → Nat) (Q : Int32 → zS → Prop) (X : String → zS → Prop) (σ : zS) : Prop := X "java/lang/IndexOutOfBoundsException" σ
def wxX11_event_38 (ln : Nat → Nat) (Q : Int32 → zS → Prop) (X : String → zS → Prop) (σ : zS) : Prop := X "java/lang/IllegalArgumentException" σ
def wxX11_event (ln : Nat → Nat) (σ : zS) (t0 : Nat) (v1 : Int32) (v2 : Int32) (Q : Int32 → zS → Prop) (X : String → zS → Prop) : Prop := ((v1 < 0 → wxX11_event_18 ln Q X σ) ∧ (¬ v1 < 0 → ∃ j1 : Nat, gr σ t0 3 = some j1 ∧ ∃ j2 : Nat, gr σ j1 15 = some j2 ∧ wX8_size ln σ j2 (fun r4 σ3 => ((v1 < r4 → ((v2 < 0 → wxX11_event_38 ln Q X σ3) ∧ (¬ v2 < 0 → ((v2 < 3 → ∃ j5 : Nat, gr σ3 t0 3 = some j5 ∧ ∃ j6 : Nat, gr σ3 j5 15 = some j6 ∧ wX8_get ln σ3 j6 v1 v2 (fun r8 σ7 => Q r8 σ7)) ∧ (¬ v2 < 3 → wxX11_event_38 ln Q X σ3))))) ∧ (¬ v1 < r4 → wxX11_event_18 ln Q X σ3)))))
abbrev rxX11_event : Room := { frames := 6, cells := 1, slots := 6, locals := 100 }
set_option maxRecDepth 100000 in
set_option maxHeartbeats 4000000 in
theorem BxX11_event_18 {l : Launch} {E : zE} {Y : zY} {p : Program} {e : Env} {s : State} {m : MethodId} {args : Array Value} {below : List Frame} {meth : Method} {c : Code} (hG : zG E p l s m args meth c cX11_event 3 RX11 (some .int) (zA Y s.heap.size)) (hlt : l.stackTraces = false) (hex : ∀ x ∈ c.exceptionTable.toList, False) {Q : Int32 → zS → Prop} {X : String → zS → Prop} : ∀ (σ : zS) (cl sl : Nat), wxX11_event_18 (zln Y) Q X σ → cl + (1) ≤ 1 → sl + (6) ≤ 6 → WW E Y σ p l e rxX11_event s m args below meth c (zA Y s.heap.size) 3 cl sl (vx_MQ below (va_Qi Q (zB E Y s.heap.size) (zA Y s.heap.size)) (zX X E Y s.heap.size) args s 1 6 (zA Y s.heap.size)) [] 18 [] := by
  intro σ cl sl hw  hcl hsl
  unfold wxX11_event_18 at hw
  exact z_throwSW (i := 27) (tx := "no such event") hG hlt hex thr_IOE (by decide +kernel) dX11_event_18 dX11_event_21 dX11_event_22 dX11_event_25 dX11_event_28 (Nat.le_of_ble_eq_true rfl) (Nat.le_of_ble_eq_true rfl) (show cl + 0 + 1 ≤ 1 from by omega) (show sl + 0 + 6 ≤ 6 from by omega) (show cl + 0 + 1 ≤ 1 from by omega) (show sl + 0 + 6 ≤ 6 from by omega) hw
set_option maxRecDepth 100000 in
set_option maxHeartbeats 4000000 in
theorem BxX11_event_38 {l : Launch} {E : zE} {Y : zY} {p : Program} {e : Env} {s : State} {m : MethodId} {args : Array Value} {below : List Frame} {meth : Method} {c : Code} (hG : zG E p l s m args meth c cX11_event 3 RX11 (some .int) (zA Y s.heap.size)) (hlt : l.stackTraces = false) (hex : ∀ x ∈ c.exceptionTable.toList, False) {Q : Int32 → zS → Prop} {X : String → zS → Prop} : ∀ (σ : zS) (cl sl : Nat), wxX11_event_38 (zln Y) Q X σ → cl + (1) ≤ 1 → sl + (6) ≤ 6 → WW E Y σ p l e rxX11_event s m args below meth c (zA Y s.heap.size) 3 cl sl (vx_MQ below (va_Qi Q (zB E Y s.heap.size) (zA Y s.heap.size)) (zX X E Y s.heap.size) args s 1 6 (zA Y s.heap.size)) [] 38 [] := by
  intro σ cl sl hw  hcl hsl
  unfold wxX11_event_38 at hw
  exact z_throwSW (i := 28) (tx := "an event has a time, a code and a value") hG hlt hex thr_IAE (by decide +kernel) dX11_event_38 dX11_event_41 dX11_event_42 dX11_event_45 dX11_event_48 (Nat.le_of_ble_eq_true rfl) (Nat.le_of_ble_eq_true rfl) (show cl + 0 + 1 ≤ 1 from by omega) (show sl + 0 + 6 ≤ 6 from by omega) (show cl + 0 + 1 ≤ 1 from by omega) (show sl + 0 + 6 ≤ 6 from by omega) hw
set_option maxRecDepth 100000 in
set_option maxHeartbeats 4000000 in
theorem MxX11_event (l : Launch) (hlt : l.stackTraces = false) {E : zE} {Y : zY} {σ : zS} {t0 : Nat} {v1 : Int32} {v2 : Int32} (h0 : zT Y 11 t0) {Q : Int32 → zS → Prop} {X : String → zS → Prop} (hw : wxX11_event (zln Y) σ t0 v1 v2 Q X) : ∀ sz, vx_Met l yX11_event (zw yX11_event cX11_event 3 (some .int)) rxX11_event (zPc E Y σ sz [.ref (za Y t0), .int v1, .int v2]) (va_Qi Q (zB E Y sz) (zA Y sz)) (zX X E Y sz) 1 6 (zA Y sz) := by
  refine z_metX (own := RX11) (Qc := fun sz => va_Qi Q (zB E Y sz) (zA Y sz)) (XC := fun sz => zX X E Y sz) (by decide +kernel) rfl (Nat.le_of_ble_eq_true rfl) ?_
  intro p e s m args below meth c hG hex
  unfold wxX11_event at hw
  refine zlv (lv' := [(0, .ref (za Y t0)), (1, .int v1), (2, .int v2)]) rfl ?_
  refine z_iload_n hG dX11_event_0 rfl 1 rfl ?_
  refine z_if_lt (tgt := 18) hG dX11_event_1 (by decide) (fun c12 => ?_) (fun c12 => ?_)
  · have hw := hw.1 c12
    refine zpick [] (lv' := []) rfl ?_
    refine zwiden (k := 0) (n := 0) (by omega) (by omega) ?_
    exact BxX11_event_18 hG hlt hex σ _ _ hw  (by omega) (by omega)
  · have hw := hw.2 c12
    refine z_iload_n hG dX11_event_4 rfl 1 rfl ?_
    refine z_aload_n hG dX11_event_5 rfl 0 rfl ?_
    obtain ⟨j1, ej1, hw⟩ := hw
    refine z_getr (kq := 3) hG f_X11_53 h0 rfl ej1 rfl (by decide) dX11_event_6 (fun hj1 => ?_)
    obtain ⟨j2, ej2, hw⟩ := hw
    refine z_getr (kq := 8) hG f_X11_256 hj1 rfl ej2 rfl (by decide) dX11_event_9 (fun hj2 => ?_)
    refine z_calli hG (z_runV (As := []) (st := [.int v1]) hG k_X11_214 (MX8_size l hj2 hw) ⟨(Nat.le_of_ble_eq_true rfl), (Nat.le_of_ble_eq_true rfl)⟩ hj2 (T := TX8) (N := 4) rfl (by decide) rfl (Nat.le_of_ble_eq_true rfl) dX11_event_12 ⟨show 0 + 0 ≤ 1 from by omega, show 0 + 0 ≤ 6 from by omega⟩ rfl) (fun r4 σ3 hw => ?_)
    refine z_icmp_lt (tgt := 29) hG dX11_event_15 (by decide) (fun c11 => ?_) (fun c11 => ?_)
    · have hw := hw.1 c11
      refine z_iload_n hG dX11_event_29 rfl 2 rfl ?_
      refine z_if_lt (tgt := 38) hG dX11_event_30 (by decide) (fun c10 => ?_) (fun c10 => ?_)
      · have hw := hw.1 c10
        refine zpick [] (lv' := []) rfl ?_
        refine zwiden (k := 0) (n := 0) (by omega) (by omega) ?_
        exact BxX11_event_38 hG hlt hex σ3 _ _ hw  (by omega) (by omega)
      · have hw := hw.2 c10
        refine z_iload_n hG dX11_event_33 rfl 2 rfl ?_
        refine z_iconst (v := 3) hG dX11_event_34 (by decide) ?_
        refine z_icmp_lt (tgt := 49) hG dX11_event_35 (by decide) (fun c9 => ?_) (fun c9 => ?_)
        · have hw := hw.1 c9
          refine z_aload_n hG dX11_event_49 rfl 0 rfl ?_
          obtain ⟨j5, ej5, hw⟩ := hw
          refine z_getr (kq := 3) hG f_X11_53 h0 rfl ej5 rfl (by decide) dX11_event_50 (fun hj5 => ?_)
          obtain ⟨j6, ej6, hw⟩ := hw
          refine z_getr (kq := 8) hG f_X11_256 hj5 rfl ej6 rfl (by decide) dX11_event_53 (fun hj6 => ?_)
          refine z_iload_n hG dX11_event_56 rfl 1 rfl ?_
          refine z_iload_n hG dX11_event_57 rfl 2 rfl ?_
          refine z_calli hG (z_runV (As := [.int v1, .int v2]) (st := []) hG k_X11_263 (MX8_get l hj6 hw) ⟨(Nat.le_of_ble_eq_true rfl), (Nat.le_of_ble_eq_true rfl)⟩ hj6 (T := TX8) (N := 4) rfl (by decide) rfl (Nat.le_of_ble_eq_true rfl) dX11_event_58 ⟨show 0 + 0 ≤ 1 from by omega, show 0 + 0 ≤ 6 from by omega⟩ rfl) (fun r8 σ7 hw => ?_)
          refine zwiden (k := 1) (n := 6) (by omega) (by omega) (zvx ?_)
          exact z_iret hG rfl rfl dX11_event_61 hw
        · have hw := hw.2 c9
          refine zpick [] (lv' := []) rfl ?_
          refine zwiden (k := 0) (n := 0) (by omega) (by omega) ?_
          exact BxX11_event_38 hG hlt hex σ3 _ _ hw  (by omega) (by omega)
    · have hw := hw.2 c11
      refine zpick [] (lv' := []) rfl ?_
      refine zwiden (k := 0) (n := 0) (by omega) (by omega) ?_
      exact BxX11_event_18 hG hlt hex σ3 _ _ hw  (by omega) (by omega)
-- TypeWheelTelegraph.requireRange(III)V
def wX11_requireRange_10 (ln : Nat → Nat) (Q : zS → Prop) (σ : zS) : Prop := False
def wX11_requireRange (ln : Nat → Nat) (σ : zS) (v0 : Int32) (v1 : Int32) (v2 : Int32) (Q : zS → Prop) : Prop := ((v0 < v1 → wX11_requireRange_10 ln Q σ) ∧ (¬ v0 < v1 → ((v0 ≤ v2 → Q σ) ∧ (¬ v0 ≤ v2 → wX11_requireRange_10 ln Q σ))))
abbrev rX11_requireRange : Room := { frames := 0, cells := 0, slots := 0, locals := 0 }
set_option maxRecDepth 100000 in
set_option maxHeartbeats 4000000 in
theorem BX11_requireRange_10 {l : Launch} {E : zE} {Y : zY} {p : Program} {e : Env} {s : State} {m : MethodId} {args : Array Value} {below : List Frame} {meth : Method} {c : Code} (hG : zG E p l s m args meth c cX11_requireRange 3 RX11 none (zA Y s.heap.size)) {Q : zS → Prop} : ∀ (σ : zS), wX11_requireRange_10 (zln Y) Q σ → WW E Y σ p l e rX11_requireRange s m args below meth c (zA Y s.heap.size) 3 0 0 (MQ below (va_Qv Q (zB E Y s.heap.size) (zA Y s.heap.size)) args s 0 0 (zA Y s.heap.size)) [] 10 [] := by
  intro σ hw 
  unfold wX11_requireRange_10 at hw
  exact hw.elim
set_option maxRecDepth 100000 in
set_option maxHeartbeats 4000000 in
theorem MX11_requireRange (l : Launch) {E : zE} {Y : zY} {σ : zS} {v0 : Int32} {v1 : Int32} {v2 : Int32} {Q : zS → Prop} (hw : wX11_requireRange (zln Y) σ v0 v1 v2 Q) : ∀ sz, Met l yX11_requireRange (zw yX11_requireRange cX11_requireRange 3 none) rX11_requireRange (zPc E Y σ sz [.int v0, .int v1, .int v2]) (va_Qv Q (zB E Y sz) (zA Y sz)) 0 0 (zA Y sz) := by
  refine z_met (own := RX11) (Qc := fun sz => va_Qv Q (zB E Y sz) (zA Y sz)) (by decide +kernel) rfl (Nat.le_of_ble_eq_true rfl) ?_
  intro p e s m args below meth c hG hinit
  unfold wX11_requireRange at hw
  refine zlv (lv' := [(0, .int v0), (1, .int v1), (2, .int v2)]) rfl ?_
  refine z_iload_n hG dX11_requireRange_0 rfl 0 rfl ?_
  refine z_iload_n hG dX11_requireRange_1 rfl 1 rfl ?_
  refine z_icmp_lt (tgt := 10) hG dX11_requireRange_2 (by decide) (fun c2 => ?_) (fun c2 => ?_)
  · have hw := hw.1 c2
    refine zpick [] (lv' := []) rfl ?_
    exact BX11_requireRange_10 hG σ hw 
  · have hw := hw.2 c2
    refine z_iload_n hG dX11_requireRange_5 rfl 0 rfl ?_
    refine z_iload_n hG dX11_requireRange_6 rfl 2 rfl ?_
    refine z_icmp_le (tgt := 21) hG dX11_requireRange_7 (by decide) (fun c1 => ?_) (fun c1 => ?_)
    · have hw := hw.1 c1
      exact z_vret hG rfl dX11_requireRange_21 hw
    · have hw := hw.2 c1
      refine zpick [] (lv' := []) rfl ?_
      exact BX11_requireRange_10 hG σ hw 
-- TypeWheelTelegraph.requireTimeFor(I)V
def wX11_requireTimeFor (ln : Nat → Nat) (σ : zS) (t0 : Nat) (v1 : Int32) (Q : zS → Prop) : Prop := ∃ j1 : Nat, gr σ t0 3 = some j1 ∧ ((((gi σ j1 1) + v1) ≤ 100000 → Q σ) ∧ (¬ ((gi σ j1 1) + v1) ≤ 100000 → False))
abbrev rX11_requireTimeFor : Room := { frames := 0, cells := 0, slots := 0, locals := 0 }
set_option maxRecDepth 100000 in
set_option maxHeartbeats 4000000 in
theorem MX11_requireTimeFor (l : Launch) {E : zE} {Y : zY} {σ : zS} {t0 : Nat} {v1 : Int32} (h0 : zT Y 11 t0) {Q : zS → Prop} (hw : wX11_requireTimeFor (zln Y) σ t0 v1 Q) : ∀ sz, Met l yX11_requireTimeFor (zw yX11_requireTimeFor cX11_requireTimeFor 2 none) rX11_requireTimeFor (zPc E Y σ sz [.ref (za Y t0), .int v1]) (va_Qv Q (zB E Y sz) (zA Y sz)) 0 0 (zA Y sz) := by
  refine z_met (own := RX11) (Qc := fun sz => va_Qv Q (zB E Y sz) (zA Y sz)) (by decide +kernel) rfl (Nat.le_of_ble_eq_true rfl) ?_
  intro p e s m args below meth c hG hinit
  unfold wX11_requireTimeFor at hw
  refine zlv (lv' := [(0, .ref (za Y t0)), (1, .int v1)]) rfl ?_
  refine z_aload_n hG dX11_requireTimeFor_0 rfl 0 rfl ?_
  obtain ⟨j1, ej1, hw⟩ := hw
  refine z_getr (kq := 3) hG f_X11_53 h0 rfl ej1 rfl (by decide) dX11_requireTimeFor_1 (fun hj1 => ?_)
  refine z_geti hG f_X11_120 hj1 rfl dX11_requireTimeFor_4 ?_
  refine z_iload_n hG dX11_requireTimeFor_7 rfl 1 rfl ?_
  refine z_iadd hG dX11_requireTimeFor_8 ?_
  refine z_ldcw (hc := c_X11_374) hG (hd := dX11_requireTimeFor_9) ?_
  refine z_icmp_le (tgt := 26) hG dX11_requireTimeFor_12 (by decide) (fun c2 => ?_) (fun c2 => ?_)
  · have hw := hw.1 c2
    exact z_vret hG rfl dX11_requireTimeFor_26 hw
  · have hw := hw.2 c2
    exact hw.elim
-- TypeWheelTelegraph$History.slot(I)LTypeWheelTelegraph$Machine;
def wX1_slot (ln : Nat → Nat) (σ : zS) (t0 : Nat) (v1 : Int32) (Q : Option Nat → zS → Prop) : Prop := ∀ x1 : Int32, x1 = (gi σ t0 1) + v1 → ∀ x2 : Int32, x2 = x1 - x1 / 10 * 10 → ((x2 < 0 → Q none σ) ∧ (¬ x2 < 0 → ∃ j3 : Nat, gr σ t0 0 = some j3 ∧ (((nI (ln j3)) ≤ x2 → Q none σ) ∧ (¬ (nI (ln j3)) ≤ x2 → ∃ j4 : Nat, gr σ t0 0 = some j4 ∧ vp_in x2 (ln j4) ∧ ∃ j6 : Nat, gr σ j4 x2.toNatClampNeg = some j6 ∧ Q (some j6) σ))))
abbrev rX1_slot : Room := { frames := 0, cells := 0, slots := 0, locals := 0 }
set_option maxRecDepth 100000 in
set_option maxHeartbeats 4000000 in
theorem MX1_slot (l : Launch) {E : zE} {Y : zY} {σ : zS} {t0 : Nat} {v1 : Int32} (h0 : zT Y 1 t0) {Q : Option Nat → zS → Prop} (hw : wX1_slot (zln Y) σ t0 v1 Q) : ∀ sz, Met l yX1_slot (zw yX1_slot cX1_slot 3 (some (.object "TypeWheelTelegraph$Machine"))) rX1_slot (zPc E Y σ sz [.ref (za Y t0), .int v1]) (va_Qe (za Y) (zQe Q) (zBe E Y sz 3) (zA Y sz)) 0 0 (zA Y sz) := by
  refine z_met (own := RX1) (Qc := fun sz => va_Qe (za Y) (zQe Q) (zBe E Y sz 3) (zA Y sz)) (by decide +kernel) rfl (Nat.le_of_ble_eq_true rfl) ?_
  intro p e s m args below meth c hG hinit
  unfold wX1_slot at hw
  refine zlv (lv' := [(0, .ref (za Y t0)), (1, .int v1)]) rfl ?_
  refine z_aload_n hG dX1_slot_0 rfl 0 rfl ?_
  refine z_geti hG f_X1_22 h0 rfl dX1_slot_1 ?_
  refine z_iload_n hG dX1_slot_4 rfl 1 rfl ?_
  refine z_iadd hG dX1_slot_5 ?_
  refine z_bipush (v := 10) hG dX1_slot_6 (by decide) ?_
  obtain ⟨x1, ex1⟩ : ∃ y : Int32, y = (gi σ t0 1) + v1 := ⟨_, rfl⟩
  refine zst (st' := [.int 10, .int x1]) (by rw [ex1]) ?_
  have hw := hw x1 ex1
  refine z_irem hG dX1_slot_8 (by decide) ?_
  refine z_topi (fun x2 ex2 => ?_)
  have hw := hw x2 ex2
  refine z_istore_n (lv' := [(2, .int x2), (0, .ref (za Y t0)), (1, .int v1)]) hG dX1_slot_9 rfl (by decide) rfl ?_
  refine z_iload_n hG dX1_slot_10 rfl 0 rfl ?_
  refine z_if_lt (tgt := 32) hG dX1_slot_11 (by decide) (fun c8 => ?_) (fun c8 => ?_)
  · have hw := hw.1 c8
    refine z_null hG dX1_slot_32 ?_
    exact z_aretN hG rfl (Or.inl ⟨_, rfl⟩) dX1_slot_33 hw
  · have hw := hw.2 c8
    refine z_iload_n hG dX1_slot_14 rfl 0 rfl ?_
    refine z_aload_n hG dX1_slot_15 rfl 1 rfl ?_
    obtain ⟨j3, ej3, hw⟩ := hw
    refine z_getr (kq := 23) hG f_X1_11 h0 rfl ej3 rfl (by decide) dX1_slot_16 (fun hj3 => ?_)
    refine z_alen hG hj3 (by decide) (t0 := 3) rfl dX1_slot_19 ?_
    refine z_icmp_ge (tgt := 32) hG dX1_slot_20 (by decide) (fun c7 => ?_) (fun c7 => ?_)
    · have hw := hw.1 c7
      refine z_null hG dX1_slot_32 ?_
      exact z_aretN hG rfl (Or.inl ⟨_, rfl⟩) dX1_slot_33 hw
    · have hw := hw.2 c7
      refine z_aload_n hG dX1_slot_23 rfl 1 rfl ?_
      obtain ⟨j4, ej4, hw⟩ := hw
      refine z_getr (kq := 23) hG f_X1_11 h0 rfl ej4 rfl (by decide) dX1_slot_24 (fun hj4 => ?_)
      refine z_iload_n hG dX1_slot_27 rfl 0 rfl ?_
      obtain ⟨q5, hw⟩ := hw
      obtain ⟨j6, ej6, hw⟩ := hw
      refine z_aald (kq := 3) (t0 := 3) hG hj4 (by decide) rfl q5 ej6 (fun _ => rfl) (by decide) dX1_slot_28 (fun hj6 => ?_)
      refine z_goto (tgt := 33) hG dX1_slot_29 (by decide) ?_
      exact z_aret hG rfl (Or.inl ⟨_, rfl⟩) hj6 dX1_slot_33 hw
-- TypeWheelTelegraph$Office.copyFrom(LTypeWheelTelegraph$Office;)V
def wX4_copyFrom (ln : Nat → Nat) (σ : zS) (t0 : Nat) (t1 : Nat) (Q : zS → Prop) : Prop := ∀ x1 : Int32, x1 = gi σ t1 0 → ∀ σ2 : zS, σ2 = si σ t0 0 x1 → ∀ x3 : Int32, x3 = gi σ2 t1 1 → ∀ σ4 : zS, σ4 = si σ2 t0 1 x3 → ∀ x5 : Int32, x5 = gi σ4 t1 2 → ∀ σ6 : zS, σ6 = si σ4 t0 2 x5 → ∀ x7 : Int32, x7 = gi σ6 t1 3 → ∀ σ8 : zS, σ8 = si σ6 t0 3 x7 → ∀ x9 : Int32, x9 = gi σ8 t1 4 → ∀ σ10 : zS, σ10 = si σ8 t0 4 x9 → ∀ x11 : Int32, x11 = gi σ10 t1 5 → ∀ σ12 : zS, σ12 = si σ10 t0 5 x11 → ∀ x13 : Int64, x13 = gl σ12 t1 6 → ∀ σ14 : zS, σ14 = sl σ12 t0 6 x13 → ∃ j15 : Nat, gr σ14 t0 7 = some j15 ∧ ∃ j16 : Nat, gr σ14 t1 7 = some j16 ∧ wX9_copyFrom ln σ14 j15 j16 (fun σ17 => Q σ17)
abbrev rX4_copyFrom : Room := { frames := 2, cells := 0, slots := 0, locals := 69 }
set_option maxRecDepth 100000 in
set_option maxHeartbeats 4000000 in
theorem MX4_copyFrom (l : Launch) {E : zE} {Y : zY} {σ : zS} {t0 : Nat} {t1 : Nat} (h0 : zT Y 4 t0) (h1 : zT Y 4 t1) {Q : zS → Prop} (hw : wX4_copyFrom (zln Y) σ t0 t1 Q) : ∀ sz, Met l yX4_copyFrom (zw yX4_copyFrom cX4_copyFrom 2 none) rX4_copyFrom (zPc E Y σ sz [.ref (za Y t0), .ref (za Y t1)]) (va_Qv Q (zB E Y sz) (zA Y sz)) 0 0 (zA Y sz) := by
  refine z_met (own := RX4) (Qc := fun sz => va_Qv Q (zB E Y sz) (zA Y sz)) (by decide +kernel) rfl (Nat.le_of_ble_eq_true rfl) ?_
  intro p e s m args below meth c hG hinit
  unfold wX4_copyFrom at hw
  refine zlv (lv' := [(0, .ref (za Y t0)), (1, .ref (za Y t1))]) rfl ?_
  refine z_aload_n hG dX4_copyFrom_0 rfl 0 rfl ?_
  refine z_aload_n hG dX4_copyFrom_1 rfl 1 rfl ?_
  refine z_geti hG f_X4_26 h1 rfl dX4_copyFrom_2 ?_
  refine z_topi (fun x1 ex1 => ?_)
  have hw := hw x1 ex1
  refine z_puti hG f_X4_26 h0 rfl rfl (zN_int _) dX4_copyFrom_5 ?_
  refine z_topσ (fun σ2 eσ2 => ?_)
  have hw := hw σ2 eσ2
  refine z_aload_n hG dX4_copyFrom_8 rfl 0 rfl ?_
  refine z_aload_n hG dX4_copyFrom_9 rfl 1 rfl ?_
  refine z_geti hG f_X4_30 h1 rfl dX4_copyFrom_10 ?_
  refine z_topi (fun x3 ex3 => ?_)
  have hw := hw x3 ex3
  refine z_puti hG f_X4_30 h0 rfl rfl (zN_int _) dX4_copyFrom_13 ?_
  refine z_topσ (fun σ4 eσ4 => ?_)
  have hw := hw σ4 eσ4
  refine z_aload_n hG dX4_copyFrom_16 rfl 0 rfl ?_
  refine z_aload_n hG dX4_copyFrom_17 rfl 1 rfl ?_
  refine z_geti hG f_X4_31 h1 rfl dX4_copyFrom_18 ?_
  refine z_topi (fun x5 ex5 => ?_)
  have hw := hw x5 ex5
  refine z_puti hG f_X4_31 h0 rfl rfl (zN_int _) dX4_copyFrom_21 ?_
  refine z_topσ (fun σ6 eσ6 => ?_)
  have hw := hw σ6 eσ6
  refine z_aload_n hG dX4_copyFrom_24 rfl 0 rfl ?_
  refine z_aload_n hG dX4_copyFrom_25 rfl 1 rfl ?_
  refine z_geti hG f_X4_34 h1 rfl dX4_copyFrom_26 ?_
  refine z_topi (fun x7 ex7 => ?_)
  have hw := hw x7 ex7
  refine z_puti hG f_X4_34 h0 rfl rfl (zN_int _) dX4_copyFrom_29 ?_
  refine z_topσ (fun σ8 eσ8 => ?_)
  have hw := hw σ8 eσ8
  refine z_aload_n hG dX4_copyFrom_32 rfl 0 rfl ?_
  refine z_aload_n hG dX4_copyFrom_33 rfl 1 rfl ?_
  refine z_geti hG f_X4_37 h1 rfl dX4_copyFrom_34 ?_
  refine z_topi (fun x9 ex9 => ?_)
  have hw := hw x9 ex9
  refine z_puti hG f_X4_37 h0 rfl rfl (zN_int _) dX4_copyFrom_37 ?_
  refine z_topσ (fun σ10 eσ10 => ?_)
  have hw := hw σ10 eσ10
  refine z_aload_n hG dX4_copyFrom_40 rfl 0 rfl ?_
  refine z_aload_n hG dX4_copyFrom_41 rfl 1 rfl ?_
  refine z_geti hG f_X4_40 h1 rfl dX4_copyFrom_42 ?_
  refine z_topi (fun x11 ex11 => ?_)
  have hw := hw x11 ex11
  refine z_puti hG f_X4_40 h0 rfl rfl (zN_int _) dX4_copyFrom_45 ?_
  refine z_topσ (fun σ12 eσ12 => ?_)
  have hw := hw σ12 eσ12
  refine z_aload_n hG dX4_copyFrom_48 rfl 0 rfl ?_
  refine z_aload_n hG dX4_copyFrom_49 rfl 1 rfl ?_
  refine z_getl hG f_X4_43 h1 rfl dX4_copyFrom_50 ?_
  refine z_topl (fun x13 ex13 => ?_)
  have hw := hw x13 ex13
  refine z_putl hG f_X4_43 h0 rfl rfl rfl dX4_copyFrom_53 ?_
  refine z_topσ (fun σ14 eσ14 => ?_)
  have hw := hw σ14 eσ14
  refine z_aload_n hG dX4_copyFrom_56 rfl 0 rfl ?_
  obtain ⟨j15, ej15, hw⟩ := hw
  refine z_getr (kq := 9) hG f_X4_16 h0 rfl ej15 rfl (by decide) dX4_copyFrom_57 (fun hj15 => ?_)
  refine z_aload_n hG dX4_copyFrom_60 rfl 1 rfl ?_
  obtain ⟨j16, ej16, hw⟩ := hw
  refine z_getr (kq := 9) hG f_X4_16 h1 rfl ej16 rfl (by decide) dX4_copyFrom_61 (fun hj16 => ?_)
  refine z_callv hG (z_runV (As := [.ref (za Y j16)]) (st := []) hG k_X4_50 (MX9_copyFrom l hj15 hj16 hw) ⟨(Nat.le_of_ble_eq_true rfl), (Nat.le_of_ble_eq_true rfl)⟩ hj15 (T := TX9) (N := 2) rfl (by decide) rfl (Nat.le_of_ble_eq_true rfl) dX4_copyFrom_64 ⟨Nat.zero_le _, Nat.zero_le _⟩ rfl) (fun σ17 hw => ?_)
  exact z_vret hG rfl dX4_copyFrom_67 hw
-- TypeWheelTelegraph$Receiver.copyFrom(LTypeWheelTelegraph$Receiver;)V
def wX7_copyFrom (ln : Nat → Nat) (σ : zS) (t0 : Nat) (t1 : Nat) (Q : zS → Prop) : Prop := ∃ j1 : Nat, gr σ t0 0 = some j1 ∧ ∃ j2 : Nat, gr σ t1 0 = some j2 ∧ wX9_copyFrom ln σ j1 j2 (fun σ3 => ∀ x4 : Int32, x4 = gi σ3 t1 1 → ∀ σ5 : zS, σ5 = si σ3 t0 1 x4 → ∀ x6 : Int32, x6 = gi σ5 t1 2 → ∀ σ7 : zS, σ7 = si σ5 t0 2 x6 → ∀ x8 : Int32, x8 = gi σ7 t1 3 → zB1 x8 ∧ ∀ σ10 : zS, σ10 = si σ7 t0 3 x8 → Q σ10)
abbrev rX7_copyFrom : Room := { frames := 2, cells := 0, slots := 0, locals := 69 }
set_option maxRecDepth 100000 in
set_option maxHeartbeats 4000000 in
theorem MX7_copyFrom (l : Launch) {E : zE} {Y : zY} {σ : zS} {t0 : Nat} {t1 : Nat} (h0 : zT Y 7 t0) (h1 : zT Y 7 t1) {Q : zS → Prop} (hw : wX7_copyFrom (zln Y) σ t0 t1 Q) : ∀ sz, Met l yX7_copyFrom (zw yX7_copyFrom cX7_copyFrom 2 none) rX7_copyFrom (zPc E Y σ sz [.ref (za Y t0), .ref (za Y t1)]) (va_Qv Q (zB E Y sz) (zA Y sz)) 0 0 (zA Y sz) := by
  refine z_met (own := RX7) (Qc := fun sz => va_Qv Q (zB E Y sz) (zA Y sz)) (by decide +kernel) rfl (Nat.le_of_ble_eq_true rfl) ?_
  intro p e s m args below meth c hG hinit
  unfold wX7_copyFrom at hw
  refine zlv (lv' := [(0, .ref (za Y t0)), (1, .ref (za Y t1))]) rfl ?_
  refine z_aload_n hG dX7_copyFrom_0 rfl 0 rfl ?_
  obtain ⟨j1, ej1, hw⟩ := hw
  refine z_getr (kq := 9) hG f_X7_16 h0 rfl ej1 rfl (by decide) dX7_copyFrom_1 (fun hj1 => ?_)
  refine z_aload_n hG dX7_copyFrom_4 rfl 1 rfl ?_
  obtain ⟨j2, ej2, hw⟩ := hw
  refine z_getr (kq := 9) hG f_X7_16 h1 rfl ej2 rfl (by decide) dX7_copyFrom_5 (fun hj2 => ?_)
  refine z_callv hG (z_runV (As := [.ref (za Y j2)]) (st := []) hG k_X7_34 (MX9_copyFrom l hj1 hj2 hw) ⟨(Nat.le_of_ble_eq_true rfl), (Nat.le_of_ble_eq_true rfl)⟩ hj1 (T := TX9) (N := 2) rfl (by decide) rfl (Nat.le_of_ble_eq_true rfl) dX7_copyFrom_8 ⟨Nat.zero_le _, Nat.zero_le _⟩ rfl) (fun σ3 hw => ?_)
  refine z_aload_n hG dX7_copyFrom_11 rfl 0 rfl ?_
  refine z_aload_n hG dX7_copyFrom_12 rfl 1 rfl ?_
  refine z_geti hG f_X7_23 h1 rfl dX7_copyFrom_13 ?_
  refine z_topi (fun x4 ex4 => ?_)
  have hw := hw x4 ex4
  refine z_puti hG f_X7_23 h0 rfl rfl (zN_int _) dX7_copyFrom_16 ?_
  refine z_topσ (fun σ5 eσ5 => ?_)
  have hw := hw σ5 eσ5
  refine z_aload_n hG dX7_copyFrom_19 rfl 0 rfl ?_
  refine z_aload_n hG dX7_copyFrom_20 rfl 1 rfl ?_
  refine z_geti hG f_X7_27 h1 rfl dX7_copyFrom_21 ?_
  refine z_topi (fun x6 ex6 => ?_)
  have hw := hw x6 ex6
  refine z_puti hG f_X7_27 h0 rfl rfl (zN_int _) dX7_copyFrom_24 ?_
  refine z_topσ (fun σ7 eσ7 => ?_)
  have hw := hw σ7 eσ7
  refine z_aload_n hG dX7_copyFrom_27 rfl 0 rfl ?_
  refine z_aload_n hG dX7_copyFrom_28 rfl 1 rfl ?_
  refine z_geti hG f_X7_30 h1 rfl dX7_copyFrom_29 ?_
  refine z_topi (fun x8 ex8 => ?_)
  have hw := hw x8 ex8
  obtain ⟨q9, hw⟩ := hw
  refine z_puti hG f_X7_30 h0 rfl rfl (zN_b q9) dX7_copyFrom_32 ?_
  refine z_topσ (fun σ10 eσ10 => ?_)
  have hw := hw σ10 eσ10
  exact z_vret hG rfl dX7_copyFrom_35 hw
-- TypeWheelTelegraph$Records.removeFirst()V
def wX8_removeFirst_31 (ln : Nat → Nat) (Q : zS → Prop) (t0 : Nat) (tw0 : Nat) (vw1 : Int32) (σ : zS) : Prop := ∀ σ1 : zS, σ1 = si σ tw0 2 vw1 → ∀ x2 : Int32, x2 = (gi σ1 t0 3) - 1 → ∀ σ3 : zS, σ3 = si σ1 t0 3 x2 → Q σ3
def wX8_removeFirst (ln : Nat → Nat) (σ : zS) (t0 : Nat) (Q : zS → Prop) : Prop := (((gi σ t0 3) ≤ 0 → Q σ) ∧ (¬ (gi σ t0 3) ≤ 0 → (((gi σ t0 0) ≤ ((gi σ t0 2) + 1) → wX8_removeFirst_31 ln Q t0 t0 0 σ) ∧ (¬ (gi σ t0 0) ≤ ((gi σ t0 2) + 1) → wX8_removeFirst_31 ln Q t0 t0 ((gi σ t0 2) + 1) σ))))
abbrev rX8_removeFirst : Room := { frames := 0, cells := 0, slots := 0, locals := 0 }
set_option maxRecDepth 100000 in
set_option maxHeartbeats 4000000 in
theorem BX8_removeFirst_31 {l : Launch} {E : zE} {Y : zY} {p : Program} {e : Env} {s : State} {m : MethodId} {args : Array Value} {below : List Frame} {meth : Method} {c : Code} (hG : zG E p l s m args meth c cX8_removeFirst 1 RX8 none (zA Y s.heap.size)) {Q : zS → Prop} : ∀ (t0 : Nat) (tw0 : Nat) (vw1 : Int32) (σ : zS), wX8_removeFirst_31 (zln Y) Q t0 tw0 vw1 σ → zT Y 8 t0 → zT Y 8 tw0 → WW E Y σ p l e rX8_removeFirst s m args below meth c (zA Y s.heap.size) 1 0 0 (MQ below (va_Qv Q (zB E Y s.heap.size) (zA Y s.heap.size)) args s 0 0 (zA Y s.heap.size)) [(0, .ref (za Y t0))] 31 [.int vw1, .ref (za Y tw0)] := by
  intro t0 tw0 vw1 σ hw h0 hw0
  unfold wX8_removeFirst_31 at hw
  refine z_puti hG f_X8_35 hw0 rfl rfl (zN_int _) dX8_removeFirst_31 ?_
  refine z_topσ (fun σ1 eσ1 => ?_)
  have hw := hw σ1 eσ1
  refine z_aload_n hG dX8_removeFirst_34 rfl 0 rfl ?_
  refine z_dup hG dX8_removeFirst_35 rfl ?_
  refine z_geti hG f_X8_25 h0 rfl dX8_removeFirst_36 ?_
  refine z_iconst (v := 1) hG dX8_removeFirst_39 (by decide) ?_
  refine z_isub hG dX8_removeFirst_40 ?_
  refine z_topi (fun x2 ex2 => ?_)
  have hw := hw x2 ex2
  refine z_puti hG f_X8_25 h0 rfl rfl (zN_int _) dX8_removeFirst_41 ?_
  refine z_topσ (fun σ3 eσ3 => ?_)
  have hw := hw σ3 eσ3
  exact z_vret hG rfl dX8_removeFirst_44 hw
set_option maxRecDepth 100000 in
set_option maxHeartbeats 4000000 in
theorem MX8_removeFirst (l : Launch) {E : zE} {Y : zY} {σ : zS} {t0 : Nat} (h0 : zT Y 8 t0) {Q : zS → Prop} (hw : wX8_removeFirst (zln Y) σ t0 Q) : ∀ sz, Met l yX8_removeFirst (zw yX8_removeFirst cX8_removeFirst 1 none) rX8_removeFirst (zPc E Y σ sz [.ref (za Y t0)]) (va_Qv Q (zB E Y sz) (zA Y sz)) 0 0 (zA Y sz) := by
  refine z_met (own := RX8) (Qc := fun sz => va_Qv Q (zB E Y sz) (zA Y sz)) (by decide +kernel) rfl (Nat.le_of_ble_eq_true rfl) ?_
  intro p e s m args below meth c hG hinit
  unfold wX8_removeFirst at hw
  refine zlv (lv' := [(0, .ref (za Y t0))]) rfl ?_
  refine z_aload_n hG dX8_removeFirst_0 rfl 0 rfl ?_
  refine z_geti hG f_X8_25 h0 rfl dX8_removeFirst_1 ?_
  refine z_if_le (tgt := 44) hG dX8_removeFirst_4 (by decide) (fun c2 => ?_) (fun c2 => ?_)
  · have hw := hw.1 c2
    exact z_vret hG rfl dX8_removeFirst_44 hw
  · have hw := hw.2 c2
    refine z_aload_n hG dX8_removeFirst_7 rfl 0 rfl ?_
    refine z_aload_n hG dX8_removeFirst_8 rfl 0 rfl ?_
    refine z_geti hG f_X8_35 h0 rfl dX8_removeFirst_9 ?_
    refine z_iconst (v := 1) hG dX8_removeFirst_12 (by decide) ?_
    refine z_iadd hG dX8_removeFirst_13 ?_
    refine z_aload_n hG dX8_removeFirst_14 rfl 0 rfl ?_
    refine z_geti hG f_X8_15 h0 rfl dX8_removeFirst_15 ?_
    refine z_icmp_ge (tgt := 30) hG dX8_removeFirst_18 (by decide) (fun c1 => ?_) (fun c1 => ?_)
    · have hw := hw.1 c1
      refine z_iconst (v := 0) hG dX8_removeFirst_30 (by decide) ?_
      refine zpick [0] (lv' := [(0, .ref (za Y t0))]) rfl ?_
      exact BX8_removeFirst_31 hG t0 t0 0 σ hw h0 h0
    · have hw := hw.2 c1
      refine z_aload_n hG dX8_removeFirst_21 rfl 0 rfl ?_
      refine z_geti hG f_X8_35 h0 rfl dX8_removeFirst_22 ?_
      refine z_iconst (v := 1) hG dX8_removeFirst_25 (by decide) ?_
      refine z_iadd hG dX8_removeFirst_26 ?_
      refine z_goto (tgt := 31) hG dX8_removeFirst_27 (by decide) ?_
      refine zpick [0] (lv' := [(0, .ref (za Y t0))]) rfl ?_
      exact BX8_removeFirst_31 hG t0 t0 ((gi σ t0 2) + 1) σ hw h0 h0
-- TypeWheelTelegraph$Records.add(III)V
def wX8_add_15 (ln : Nat → Nat) (Q : zS → Prop) (t0 : Nat) (v1 : Int32) (v2 : Int32) (v3 : Int32) (σ : zS) : Prop := ∀ x1 : Int32, x1 = gi σ t0 3 → wX8_cellOf ln σ t0 x1 (fun r3 σ2 => ∃ j4 : Nat, gr σ2 t0 1 = some j4 ∧ (((nI (ln j4)) ≤ (r3 + 2) → Q σ2) ∧ (¬ (nI (ln j4)) ≤ (r3 + 2) → ∃ j5 : Nat, gr σ2 t0 1 = some j5 ∧ vp_in r3 (ln j5) ∧ ∀ σ7 : zS, σ7 = si σ2 j5 r3.toNatClampNeg v1 → ∃ j8 : Nat, gr σ7 t0 1 = some j8 ∧ ∀ x9 : Int32, x9 = r3 + 1 → vp_in x9 (ln j8) ∧ ∀ σ11 : zS, σ11 = si σ7 j8 x9.toNatClampNeg v2 → ∃ j12 : Nat, gr σ11 t0 1 = some j12 ∧ ∀ x13 : Int32, x13 = r3 + 2 → vp_in x13 (ln j12) ∧ ∀ σ15 : zS, σ15 = si σ11 j12 x13.toNatClampNeg v3 → ∀ x16 : Int32, x16 = (gi σ15 t0 3) + 1 → ∀ σ17 : zS, σ17 = si σ15 t0 3 x16 → Q σ17)))
def wX8_add (ln : Nat → Nat) (σ : zS) (t0 : Nat) (v1 : Int32) (v2 : Int32) (v3 : Int32) (Q : zS → Prop) : Prop := (((gi σ t0 3) = (gi σ t0 0) → wX8_removeFirst ln σ t0 (fun σ1 => wX8_add_15 ln Q t0 v1 v2 v3 σ1)) ∧ (¬ (gi σ t0 3) = (gi σ t0 0) → wX8_add_15 ln Q t0 v1 v2 v3 σ))
abbrev rX8_add : Room := { frames := 1, cells := 0, slots := 0, locals := 22 }
set_option maxRecDepth 100000 in
set_option maxHeartbeats 4000000 in
theorem BX8_add_15 {l : Launch} {E : zE} {Y : zY} {p : Program} {e : Env} {s : State} {m : MethodId} {args : Array Value} {below : List Frame} {meth : Method} {c : Code} (hG : zG E p l s m args meth c cX8_add 5 RX8 none (zA Y s.heap.size)) {Q : zS → Prop} : ∀ (t0 : Nat) (v1 : Int32) (v2 : Int32) (v3 : Int32) (σ : zS), wX8_add_15 (zln Y) Q t0 v1 v2 v3 σ → zT Y 8 t0 → WW E Y σ p l e rX8_add s m args below meth c (zA Y s.heap.size) 5 0 0 (MQ below (va_Qv Q (zB E Y s.heap.size) (zA Y s.heap.size)) args s 0 0 (zA Y s.heap.size)) [(0, .ref (za Y t0)), (1, .int v1), (2, .int v2), (3, .int v3)] 15 [] := by
  intro t0 v1 v2 v3 σ hw h0
  unfold wX8_add_15 at hw
  refine z_aload_n hG dX8_add_15 rfl 0 rfl ?_
  refine z_aload_n hG dX8_add_16 rfl 0 rfl ?_
  refine z_geti hG f_X8_25 h0 rfl dX8_add_17 ?_
  refine z_topi (fun x1 ex1 => ?_)
  have hw := hw x1 ex1
  refine z_calli hG (z_runV (As := [.int x1]) (st := []) hG k_X8_28 (MX8_cellOf l h0 hw) ⟨(Nat.le_of_ble_eq_true rfl), (Nat.le_of_ble_eq_true rfl)⟩ h0 (T := TX8) (N := 4) rfl (by decide) rfl (Nat.le_of_ble_eq_true rfl) dX8_add_20 ⟨Nat.zero_le _, Nat.zero_le _⟩ rfl) (fun r3 σ2 hw => ?_)
  refine z_istore (lv' := [(4, .int r3), (0, .ref (za Y t0)), (1, .int v1), (2, .int v2), (3, .int v3)]) hG dX8_add_23 (by decide) rfl ?_
  refine z_iload hG dX8_add_25 0 rfl ?_
  refine z_iconst (v := 2) hG dX8_add_27 (by decide) ?_
  refine z_iadd hG dX8_add_28 ?_
  refine z_aload_n hG dX8_add_29 rfl 1 rfl ?_
  obtain ⟨j4, ej4, hw⟩ := hw
  refine z_getr (kq := 20) hG f_X8_21 h0 rfl ej4 rfl (by decide) dX8_add_30 (fun hj4 => ?_)
  refine z_alen hG hj4 (by decide) (t0 := 0) rfl dX8_add_33 ?_
  refine z_icmp_ge (tgt := 75) hG dX8_add_34 (by decide) (fun c18 => ?_) (fun c18 => ?_)
  · have hw := hw.1 c18
    exact z_vret hG rfl dX8_add_75 hw
  · have hw := hw.2 c18
    refine z_aload_n hG dX8_add_37 rfl 1 rfl ?_
    obtain ⟨j5, ej5, hw⟩ := hw
    refine z_getr (kq := 20) hG f_X8_21 h0 rfl ej5 rfl (by decide) dX8_add_38 (fun hj5 => ?_)
    refine z_iload hG dX8_add_41 0 rfl ?_
    refine z_iload_n hG dX8_add_43 rfl 2 rfl ?_
    obtain ⟨q6, hw⟩ := hw
    refine z_iast hG hj5 q6 dX8_add_44 ?_
    refine z_topσ (fun σ7 eσ7 => ?_)
    have hw := hw σ7 eσ7
    refine z_aload_n hG dX8_add_45 rfl 1 rfl ?_
    obtain ⟨j8, ej8, hw⟩ := hw
    refine z_getr (kq := 20) hG f_X8_21 h0 rfl ej8 rfl (by decide) dX8_add_46 (fun hj8 => ?_)
    refine z_iload hG dX8_add_49 0 rfl ?_
    refine z_iconst (v := 1) hG dX8_add_51 (by decide) ?_
    refine z_iadd hG dX8_add_52 ?_
    refine z_iload_n hG dX8_add_53 rfl 3 rfl ?_
    obtain ⟨x9, ex9⟩ : ∃ y : Int32, y = r3 + 1 := ⟨_, rfl⟩
    refine zst (st' := [.int v2, .int x9, .ref (za Y j8)]) (by rw [ex9]) ?_
    have hw := hw x9 ex9
    obtain ⟨q10, hw⟩ := hw
    refine z_iast hG hj8 q10 dX8_add_54 ?_
    refine z_topσ (fun σ11 eσ11 => ?_)
    have hw := hw σ11 eσ11
    refine z_aload_n hG dX8_add_55 rfl 1 rfl ?_
    obtain ⟨j12, ej12, hw⟩ := hw
    refine z_getr (kq := 20) hG f_X8_21 h0 rfl ej12 rfl (by decide) dX8_add_56 (fun hj12 => ?_)
    refine z_iload hG dX8_add_59 0 rfl ?_
    refine z_iconst (v := 2) hG dX8_add_61 (by decide) ?_
    refine z_iadd hG dX8_add_62 ?_
    refine z_iload_n hG dX8_add_63 rfl 4 rfl ?_
    obtain ⟨x13, ex13⟩ : ∃ y : Int32, y = r3 + 2 := ⟨_, rfl⟩
    refine zst (st' := [.int v3, .int x13, .ref (za Y j12)]) (by rw [ex13]) ?_
    have hw := hw x13 ex13
    obtain ⟨q14, hw⟩ := hw
    refine z_iast hG hj12 q14 dX8_add_64 ?_
    refine z_topσ (fun σ15 eσ15 => ?_)
    have hw := hw σ15 eσ15
    refine z_aload_n hG dX8_add_65 rfl 1 rfl ?_
    refine z_dup hG dX8_add_66 rfl ?_
    refine z_geti hG f_X8_25 h0 rfl dX8_add_67 ?_
    refine z_iconst (v := 1) hG dX8_add_70 (by decide) ?_
    refine z_iadd hG dX8_add_71 ?_
    refine z_topi (fun x16 ex16 => ?_)
    have hw := hw x16 ex16
    refine z_puti hG f_X8_25 h0 rfl rfl (zN_int _) dX8_add_72 ?_
    refine z_topσ (fun σ17 eσ17 => ?_)
    have hw := hw σ17 eσ17
    exact z_vret hG rfl dX8_add_75 hw
set_option maxRecDepth 100000 in
set_option maxHeartbeats 4000000 in
theorem MX8_add (l : Launch) {E : zE} {Y : zY} {σ : zS} {t0 : Nat} {v1 : Int32} {v2 : Int32} {v3 : Int32} (h0 : zT Y 8 t0) {Q : zS → Prop} (hw : wX8_add (zln Y) σ t0 v1 v2 v3 Q) : ∀ sz, Met l yX8_add (zw yX8_add cX8_add 5 none) rX8_add (zPc E Y σ sz [.ref (za Y t0), .int v1, .int v2, .int v3]) (va_Qv Q (zB E Y sz) (zA Y sz)) 0 0 (zA Y sz) := by
  refine z_met (own := RX8) (Qc := fun sz => va_Qv Q (zB E Y sz) (zA Y sz)) (by decide +kernel) rfl (Nat.le_of_ble_eq_true rfl) ?_
  intro p e s m args below meth c hG hinit
  unfold wX8_add at hw
  refine zlv (lv' := [(0, .ref (za Y t0)), (1, .int v1), (2, .int v2), (3, .int v3)]) rfl ?_
  refine z_aload_n hG dX8_add_0 rfl 0 rfl ?_
  refine z_geti hG f_X8_25 h0 rfl dX8_add_1 ?_
  refine z_aload_n hG dX8_add_4 rfl 0 rfl ?_
  refine z_geti hG f_X8_15 h0 rfl dX8_add_5 ?_
  refine z_icmp_ne (tgt := 15) hG dX8_add_8 (by decide) (fun c2 => ?_) (fun c2 => ?_)
  · have hw := hw.2 c2
    refine zpick [0, 1, 2, 3] (lv' := [(0, .ref (za Y t0)), (1, .int v1), (2, .int v2), (3, .int v3)]) rfl ?_
    exact BX8_add_15 hG t0 v1 v2 v3 σ hw h0
  · have hw := hw.1 c2
    refine z_aload_n hG dX8_add_11 rfl 0 rfl ?_
    refine z_callv hG (z_runV (As := []) (st := []) hG k_X8_32 (MX8_removeFirst l h0 hw) ⟨(Nat.le_of_ble_eq_true rfl), (Nat.le_of_ble_eq_true rfl)⟩ h0 (T := TX8) (N := 4) rfl (by decide) rfl (Nat.le_of_ble_eq_true rfl) dX8_add_12 ⟨Nat.zero_le _, Nat.zero_le _⟩ rfl) (fun σ1 hw => ?_)
    refine zpick [0, 1, 2, 3] (lv' := [(0, .ref (za Y t0)), (1, .int v1), (2, .int v2), (3, .int v3)]) rfl ?_
    exact BX8_add_15 hG t0 v1 v2 v3 σ1 hw h0
-- TypeWheelTelegraph$Records.copyFrom(LTypeWheelTelegraph$Records;)V
def wX8_copyFrom_6 (ln : Nat → Nat) (Q : zS → Prop) : Nat → Nat → Nat → Int32 → zS → Prop
  | 0, _, _, _, _ => False
  | n + 1, t0, t1, v2, σ => (((gi σ t1 3) ≤ v2 → Q σ) ∧ (¬ (gi σ t1 3) ≤ v2 → wX8_get ln σ t1 v2 0 (fun r2 σ1 => wX8_get ln σ1 t1 v2 1 (fun r4 σ3 => wX8_get ln σ3 t1 v2 2 (fun r6 σ5 => wX8_add ln σ5 t0 r2 r4 r6 (fun σ7 => ∀ x8 : Int32, x8 = v2 + 1 → (wX8_copyFrom_6 ln Q n) t0 t1 x8 σ7))))))
def wX8_copyFrom (ln : Nat → Nat) (σ : zS) (t0 : Nat) (t1 : Nat) (Q : zS → Prop) : Prop := wX8_clear ln σ t0 (fun σ1 => ∃ n2 : Nat, wX8_copyFrom_6 ln Q n2 t0 t1 0 σ1)
abbrev rX8_copyFrom : Room := { frames := 2, cells := 0, slots := 0, locals := 46 }
set_option maxRecDepth 100000 in
set_option maxHeartbeats 4000000 in
theorem BX8_copyFrom_6 {l : Launch} {E : zE} {Y : zY} {p : Program} {e : Env} {s : State} {m : MethodId} {args : Array Value} {below : List Frame} {meth : Method} {c : Code} (hG : zG E p l s m args meth c cX8_copyFrom 3 RX8 none (zA Y s.heap.size)) {Q : zS → Prop} : ∀ (n : Nat) (t0 : Nat) (t1 : Nat) (v2 : Int32) (σ : zS), wX8_copyFrom_6 (zln Y) Q n t0 t1 v2 σ → zT Y 8 t0 → zT Y 8 t1 → WW E Y σ p l e rX8_copyFrom s m args below meth c (zA Y s.heap.size) 3 0 0 (MQ below (va_Qv Q (zB E Y s.heap.size) (zA Y s.heap.size)) args s 0 0 (zA Y s.heap.size)) [(0, .ref (za Y t0)), (1, .ref (za Y t1)), (2, .int v2)] 6 [] := by
  intro n
  induction n with
  | zero => intro t0 t1 v2 σ hw
            exact hw.elim
  | succ n ih =>
    intro t0 t1 v2 σ hw h0 h1
    rw [wX8_copyFrom_6] at hw
    refine z_iload_n hG dX8_copyFrom_6 rfl 2 rfl ?_
    refine z_aload_n hG dX8_copyFrom_7 rfl 1 rfl ?_
    refine z_geti hG f_X8_25 h1 rfl dX8_copyFrom_8 ?_
    refine z_icmp_ge (tgt := 42) hG dX8_copyFrom_11 (by decide) (fun c9 => ?_) (fun c9 => ?_)
    · have hw := hw.1 c9
      exact z_vret hG rfl dX8_copyFrom_42 hw
    · have hw := hw.2 c9
      refine z_aload_n hG dX8_copyFrom_14 rfl 0 rfl ?_
      refine z_aload_n hG dX8_copyFrom_15 rfl 1 rfl ?_
      refine z_iload_n hG dX8_copyFrom_16 rfl 2 rfl ?_
      refine z_iconst (v := 0) hG dX8_copyFrom_17 (by decide) ?_
      refine z_calli hG (z_runV (As := [.int v2, .int 0]) (st := [.ref (za Y t0)]) hG k_X8_41 (MX8_get l h1 hw) ⟨(Nat.le_of_ble_eq_true rfl), (Nat.le_of_ble_eq_true rfl)⟩ h1 (T := TX8) (N := 4) rfl (by decide) rfl (Nat.le_of_ble_eq_true rfl) dX8_copyFrom_18 ⟨Nat.zero_le _, Nat.zero_le _⟩ rfl) (fun r2 σ1 hw => ?_)
      refine z_aload_n hG dX8_copyFrom_21 rfl 1 rfl ?_
      refine z_iload_n hG dX8_copyFrom_22 rfl 2 rfl ?_
      refine z_iconst (v := 1) hG dX8_copyFrom_23 (by decide) ?_
      refine z_calli hG (z_runV (As := [.int v2, .int 1]) (st := [.int r2, .ref (za Y t0)]) hG k_X8_41 (MX8_get l h1 hw) ⟨(Nat.le_of_ble_eq_true rfl), (Nat.le_of_ble_eq_true rfl)⟩ h1 (T := TX8) (N := 4) rfl (by decide) rfl (Nat.le_of_ble_eq_true rfl) dX8_copyFrom_24 ⟨Nat.zero_le _, Nat.zero_le _⟩ rfl) (fun r4 σ3 hw => ?_)
      refine z_aload_n hG dX8_copyFrom_27 rfl 1 rfl ?_
      refine z_iload_n hG dX8_copyFrom_28 rfl 2 rfl ?_
      refine z_iconst (v := 2) hG dX8_copyFrom_29 (by decide) ?_
      refine z_calli hG (z_runV (As := [.int v2, .int 2]) (st := [.int r4, .int r2, .ref (za Y t0)]) hG k_X8_41 (MX8_get l h1 hw) ⟨(Nat.le_of_ble_eq_true rfl), (Nat.le_of_ble_eq_true rfl)⟩ h1 (T := TX8) (N := 4) rfl (by decide) rfl (Nat.le_of_ble_eq_true rfl) dX8_copyFrom_30 ⟨Nat.zero_le _, Nat.zero_le _⟩ rfl) (fun r6 σ5 hw => ?_)
      refine z_callv hG (z_runV (As := [.int r2, .int r4, .int r6]) (st := []) hG k_X8_44 (MX8_add l h0 hw) ⟨(Nat.le_of_ble_eq_true rfl), (Nat.le_of_ble_eq_true rfl)⟩ h0 (T := TX8) (N := 4) rfl (by decide) rfl (Nat.le_of_ble_eq_true rfl) dX8_copyFrom_33 ⟨Nat.zero_le _, Nat.zero_le _⟩ rfl) (fun σ7 hw => ?_)
      obtain ⟨x8, ex8⟩ : ∃ y : Int32, y = v2 + 1 := ⟨_, rfl⟩
      have hw := hw x8 ex8
      refine z_iinc (v := x8) (lv' := [(2, .int x8), (0, .ref (za Y t0)), (1, .ref (za Y t1))]) hG dX8_copyFrom_36 2 rfl (by rw [ex8]; rfl) (by decide) rfl ?_
      refine z_goto (tgt := 6) hG dX8_copyFrom_39 (by decide) ?_
      refine zpick [1, 2, 0] (lv' := [(0, .ref (za Y t0)), (1, .ref (za Y t1)), (2, .int x8)]) rfl ?_
      exact ih t0 t1 x8 σ7 hw h0 h1
set_option maxRecDepth 100000 in
set_option maxHeartbeats 4000000 in
theorem MX8_copyFrom (l : Launch) {E : zE} {Y : zY} {σ : zS} {t0 : Nat} {t1 : Nat} (h0 : zT Y 8 t0) (h1 : zT Y 8 t1) {Q : zS → Prop} (hw : wX8_copyFrom (zln Y) σ t0 t1 Q) : ∀ sz, Met l yX8_copyFrom (zw yX8_copyFrom cX8_copyFrom 3 none) rX8_copyFrom (zPc E Y σ sz [.ref (za Y t0), .ref (za Y t1)]) (va_Qv Q (zB E Y sz) (zA Y sz)) 0 0 (zA Y sz) := by
  refine z_met (own := RX8) (Qc := fun sz => va_Qv Q (zB E Y sz) (zA Y sz)) (by decide +kernel) rfl (Nat.le_of_ble_eq_true rfl) ?_
  intro p e s m args below meth c hG hinit
  unfold wX8_copyFrom at hw
  refine zlv (lv' := [(0, .ref (za Y t0)), (1, .ref (za Y t1))]) rfl ?_
  refine z_aload_n hG dX8_copyFrom_0 rfl 0 rfl ?_
  refine z_callv hG (z_runV (As := []) (st := []) hG k_X8_38 (MX8_clear l h0 hw) ⟨(Nat.le_of_ble_eq_true rfl), (Nat.le_of_ble_eq_true rfl)⟩ h0 (T := TX8) (N := 4) rfl (by decide) rfl (Nat.le_of_ble_eq_true rfl) dX8_copyFrom_1 ⟨Nat.zero_le _, Nat.zero_le _⟩ rfl) (fun σ1 hw => ?_)
  refine z_iconst (v := 0) hG dX8_copyFrom_4 (by decide) ?_
  refine z_istore_n (lv' := [(2, .int 0), (0, .ref (za Y t0)), (1, .ref (za Y t1))]) hG dX8_copyFrom_5 rfl (by decide) rfl ?_
  obtain ⟨n2, hw⟩ := hw
  refine zpick [1, 2, 0] (lv' := [(0, .ref (za Y t0)), (1, .ref (za Y t1)), (2, .int 0)]) rfl ?_
  exact BX8_copyFrom_6 hG n2 t0 t1 0 σ1 hw h0 h1
-- TypeWheelTelegraph$Machine.copyFrom(LTypeWheelTelegraph$Machine;)V
def wX3_copyFrom (ln : Nat → Nat) (σ : zS) (t0 : Nat) (t1 : Nat) (Q : zS → Prop) : Prop := ∃ j1 : Nat, gr σ t1 0 = some j1 ∧ ∀ σ2 : zS, σ2 = sr σ t0 0 (some j1) → ∀ x3 : Int32, x3 = gi σ2 t1 1 → ∀ σ4 : zS, σ4 = si σ2 t0 1 x3 → ∀ x5 : Int32, x5 = gi σ4 t1 2 → ∀ σ6 : zS, σ6 = si σ4 t0 2 x5 → ∀ x7 : Int32, x7 = gi σ6 t1 3 → ∀ σ8 : zS, σ8 = si σ6 t0 3 x7 → ∀ x9 : Int32, x9 = gi σ8 t1 4 → zB1 x9 ∧ ∀ σ11 : zS, σ11 = si σ8 t0 4 x9 → ∀ x12 : Int32, x12 = gi σ11 t1 5 → ∀ σ13 : zS, σ13 = si σ11 t0 5 x12 → ∀ x14 : Int32, x14 = gi σ13 t1 6 → ∀ σ15 : zS, σ15 = si σ13 t0 6 x14 → ∀ x16 : Int32, x16 = gi σ15 t1 7 → ∀ σ17 : zS, σ17 = si σ15 t0 7 x16 → ∀ x18 : Int32, x18 = gi σ17 t1 8 → ∀ σ19 : zS, σ19 = si σ17 t0 8 x18 → ∀ x20 : Int32, x20 = gi σ19 t1 9 → ∀ σ21 : zS, σ21 = si σ19 t0 9 x20 → ∀ x22 : Int32, x22 = gi σ21 t1 10 → ∀ σ23 : zS, σ23 = si σ21 t0 10 x22 → ∃ j24 : Nat, gr σ23 t0 11 = some j24 ∧ ∃ j25 : Nat, gr σ23 t1 11 = some j25 ∧ wX4_copyFrom ln σ23 j24 j25 (fun σ26 => ∃ j27 : Nat, gr σ26 t0 12 = some j27 ∧ ∃ j28 : Nat, gr σ26 t1 12 = some j28 ∧ wX4_copyFrom ln σ26 j27 j28 (fun σ29 => ∃ j30 : Nat, gr σ29 t0 13 = some j30 ∧ ∃ j31 : Nat, gr σ29 t1 13 = some j31 ∧ wX7_copyFrom ln σ29 j30 j31 (fun σ32 => ∃ j33 : Nat, gr σ32 t0 14 = some j33 ∧ ∃ j34 : Nat, gr σ32 t1 14 = some j34 ∧ wX8_copyFrom ln σ32 j33 j34 (fun σ35 => ∃ j36 : Nat, gr σ35 t0 15 = some j36 ∧ ∃ j37 : Nat, gr σ35 t1 15 = some j37 ∧ wX8_copyFrom ln σ35 j36 j37 (fun σ38 => ∃ j39 : Nat, gr σ38 t0 16 = some j39 ∧ ∃ j40 : Nat, gr σ38 t1 16 = some j40 ∧ wX9_copyFrom ln σ38 j39 j40 (fun σ41 => Q σ41))))))
abbrev rX3_copyFrom : Room := { frames := 3, cells := 0, slots := 0, locals := 90 }
set_option maxRecDepth 100000 in
set_option maxHeartbeats 4000000 in
theorem MX3_copyFrom (l : Launch) {E : zE} {Y : zY} {σ : zS} {t0 : Nat} {t1 : Nat} (h0 : zT Y 3 t0) (h1 : zT Y 3 t1) {Q : zS → Prop} (hw : wX3_copyFrom (zln Y) σ t0 t1 Q) : ∀ sz, Met l yX3_copyFrom (zw yX3_copyFrom cX3_copyFrom 2 none) rX3_copyFrom (zPc E Y σ sz [.ref (za Y t0), .ref (za Y t1)]) (va_Qv Q (zB E Y sz) (zA Y sz)) 0 0 (zA Y sz) := by
  refine z_met (own := RX3) (Qc := fun sz => va_Qv Q (zB E Y sz) (zA Y sz)) (by decide +kernel) rfl (Nat.le_of_ble_eq_true rfl) ?_
  intro p e s m args below meth c hG hinit
  unfold wX3_copyFrom at hw
  refine zlv (lv' := [(0, .ref (za Y t0)), (1, .ref (za Y t1))]) rfl ?_
  refine z_aload_n hG dX3_copyFrom_0 rfl 0 rfl ?_
  refine z_aload_n hG dX3_copyFrom_1 rfl 1 rfl ?_
  obtain ⟨j1, ej1, hw⟩ := hw
  refine z_getr (kq := 6) hG f_X3_55 h1 rfl ej1 rfl (by decide) dX3_copyFrom_2 (fun hj1 => ?_)
  refine z_putr hG f_X3_55 h0 rfl rfl rfl rfl (by decide) hj1 dX3_copyFrom_5 ?_
  refine z_topσ (fun σ2 eσ2 => ?_)
  have hw := hw σ2 eσ2
  refine z_aload_n hG dX3_copyFrom_8 rfl 0 rfl ?_
  refine z_aload_n hG dX3_copyFrom_9 rfl 1 rfl ?_
  refine z_geti hG f_X3_59 h1 rfl dX3_copyFrom_10 ?_
  refine z_topi (fun x3 ex3 => ?_)
  have hw := hw x3 ex3
  refine z_puti hG f_X3_59 h0 rfl rfl (zN_int _) dX3_copyFrom_13 ?_
  refine z_topσ (fun σ4 eσ4 => ?_)
  have hw := hw σ4 eσ4
  refine z_aload_n hG dX3_copyFrom_16 rfl 0 rfl ?_
  refine z_aload_n hG dX3_copyFrom_17 rfl 1 rfl ?_
  refine z_geti hG f_X3_67 h1 rfl dX3_copyFrom_18 ?_
  refine z_topi (fun x5 ex5 => ?_)
  have hw := hw x5 ex5
  refine z_puti hG f_X3_67 h0 rfl rfl (zN_int _) dX3_copyFrom_21 ?_
  refine z_topσ (fun σ6 eσ6 => ?_)
  have hw := hw σ6 eσ6
  refine z_aload_n hG dX3_copyFrom_24 rfl 0 rfl ?_
  refine z_aload_n hG dX3_copyFrom_25 rfl 1 rfl ?_
  refine z_geti hG f_X3_9 h1 rfl dX3_copyFrom_26 ?_
  refine z_topi (fun x7 ex7 => ?_)
  have hw := hw x7 ex7
  refine z_puti hG f_X3_9 h0 rfl rfl (zN_int _) dX3_copyFrom_29 ?_
  refine z_topσ (fun σ8 eσ8 => ?_)
  have hw := hw σ8 eσ8
  refine z_aload_n hG dX3_copyFrom_32 rfl 0 rfl ?_
  refine z_aload_n hG dX3_copyFrom_33 rfl 1 rfl ?_
  refine z_geti hG f_X3_96 h1 rfl dX3_copyFrom_34 ?_
  refine z_topi (fun x9 ex9 => ?_)
  have hw := hw x9 ex9
  obtain ⟨q10, hw⟩ := hw
  refine z_puti hG f_X3_96 h0 rfl rfl (zN_b q10) dX3_copyFrom_37 ?_
  refine z_topσ (fun σ11 eσ11 => ?_)
  have hw := hw σ11 eσ11
  refine z_aload_n hG dX3_copyFrom_40 rfl 0 rfl ?_
  refine z_aload_n hG dX3_copyFrom_41 rfl 1 rfl ?_
  refine z_geti hG f_X3_100 h1 rfl dX3_copyFrom_42 ?_
  refine z_topi (fun x12 ex12 => ?_)
  have hw := hw x12 ex12
  refine z_puti hG f_X3_100 h0 rfl rfl (zN_int _) dX3_copyFrom_45 ?_
  refine z_topσ (fun σ13 eσ13 => ?_)
  have hw := hw σ13 eσ13
  refine z_aload_n hG dX3_copyFrom_48 rfl 0 rfl ?_
  refine z_aload_n hG dX3_copyFrom_49 rfl 1 rfl ?_
  refine z_geti hG f_X3_103 h1 rfl dX3_copyFrom_50 ?_
  refine z_topi (fun x14 ex14 => ?_)
  have hw := hw x14 ex14
  refine z_puti hG f_X3_103 h0 rfl rfl (zN_int _) dX3_copyFrom_53 ?_
  refine z_topσ (fun σ15 eσ15 => ?_)
  have hw := hw σ15 eσ15
  refine z_aload_n hG dX3_copyFrom_56 rfl 0 rfl ?_
  refine z_aload_n hG dX3_copyFrom_57 rfl 1 rfl ?_
  refine z_geti hG f_X3_106 h1 rfl dX3_copyFrom_58 ?_
  refine z_topi (fun x16 ex16 => ?_)
  have hw := hw x16 ex16
  refine z_puti hG f_X3_106 h0 rfl rfl (zN_int _) dX3_copyFrom_61 ?_
  refine z_topσ (fun σ17 eσ17 => ?_)
  have hw := hw σ17 eσ17
  refine z_aload_n hG dX3_copyFrom_64 rfl 0 rfl ?_
  refine z_aload_n hG dX3_copyFrom_65 rfl 1 rfl ?_
  refine z_geti hG f_X3_90 h1 rfl dX3_copyFrom_66 ?_
  refine z_topi (fun x18 ex18 => ?_)
  have hw := hw x18 ex18
  refine z_puti hG f_X3_90 h0 rfl rfl (zN_int _) dX3_copyFrom_69 ?_
  refine z_topσ (fun σ19 eσ19 => ?_)
  have hw := hw σ19 eσ19
  refine z_aload_n hG dX3_copyFrom_72 rfl 0 rfl ?_
  refine z_aload_n hG dX3_copyFrom_73 rfl 1 rfl ?_
  refine z_geti hG f_X3_68 h1 rfl dX3_copyFrom_74 ?_
  refine z_topi (fun x20 ex20 => ?_)
  have hw := hw x20 ex20
  refine z_puti hG f_X3_68 h0 rfl rfl (zN_int _) dX3_copyFrom_77 ?_
  refine z_topσ (fun σ21 eσ21 => ?_)
  have hw := hw σ21 eσ21
  refine z_aload_n hG dX3_copyFrom_80 rfl 0 rfl ?_
  refine z_aload_n hG dX3_copyFrom_81 rfl 1 rfl ?_
  refine z_geti hG f_X3_71 h1 rfl dX3_copyFrom_82 ?_
  refine z_topi (fun x22 ex22 => ?_)
  have hw := hw x22 ex22
  refine z_puti hG f_X3_71 h0 rfl rfl (zN_int _) dX3_copyFrom_85 ?_
  refine z_topσ (fun σ23 eσ23 => ?_)
  have hw := hw σ23 eσ23
  refine z_aload_n hG dX3_copyFrom_88 rfl 0 rfl ?_
  obtain ⟨j24, ej24, hw⟩ := hw
  refine z_getr (kq := 4) hG f_X3_18 h0 rfl ej24 rfl (by decide) dX3_copyFrom_89 (fun hj24 => ?_)
  refine z_aload_n hG dX3_copyFrom_92 rfl 1 rfl ?_
  obtain ⟨j25, ej25, hw⟩ := hw
  refine z_getr (kq := 4) hG f_X3_18 h1 rfl ej25 rfl (by decide) dX3_copyFrom_93 (fun hj25 => ?_)
  refine z_callv hG (z_runV (As := [.ref (za Y j25)]) (st := []) hG k_X3_109 (MX4_copyFrom l hj24 hj25 hw) ⟨(Nat.le_of_ble_eq_true rfl), (Nat.le_of_ble_eq_true rfl)⟩ hj24 (T := TX4) (N := 8) rfl (by decide) rfl (Nat.le_of_ble_eq_true rfl) dX3_copyFrom_96 ⟨Nat.zero_le _, Nat.zero_le _⟩ rfl) (fun σ26 hw => ?_)
  refine z_aload_n hG dX3_copyFrom_99 rfl 0 rfl ?_
  obtain ⟨j27, ej27, hw⟩ := hw
  refine z_getr (kq := 4) hG f_X3_22 h0 rfl ej27 rfl (by decide) dX3_copyFrom_100 (fun hj27 => ?_)
  refine z_aload_n hG dX3_copyFrom_103 rfl 1 rfl ?_
  obtain ⟨j28, ej28, hw⟩ := hw
  refine z_getr (kq := 4) hG f_X3_22 h1 rfl ej28 rfl (by decide) dX3_copyFrom_104 (fun hj28 => ?_)
  refine z_callv hG (z_runV (As := [.ref (za Y j28)]) (st := []) hG k_X3_109 (MX4_copyFrom l hj27 hj28 hw) ⟨(Nat.le_of_ble_eq_true rfl), (Nat.le_of_ble_eq_true rfl)⟩ hj27 (T := TX4) (N := 8) rfl (by decide) rfl (Nat.le_of_ble_eq_true rfl) dX3_copyFrom_107 ⟨Nat.zero_le _, Nat.zero_le _⟩ rfl) (fun σ29 hw => ?_)
  refine z_aload_n hG dX3_copyFrom_110 rfl 0 rfl ?_
  obtain ⟨j30, ej30, hw⟩ := hw
  refine z_getr (kq := 7) hG f_X3_28 h0 rfl ej30 rfl (by decide) dX3_copyFrom_111 (fun hj30 => ?_)
  refine z_aload_n hG dX3_copyFrom_114 rfl 1 rfl ?_
  obtain ⟨j31, ej31, hw⟩ := hw
  refine z_getr (kq := 7) hG f_X3_28 h1 rfl ej31 rfl (by decide) dX3_copyFrom_115 (fun hj31 => ?_)
  refine z_callv hG (z_runV (As := [.ref (za Y j31)]) (st := []) hG k_X3_112 (MX7_copyFrom l hj30 hj31 hw) ⟨(Nat.le_of_ble_eq_true rfl), (Nat.le_of_ble_eq_true rfl)⟩ hj30 (T := TX7) (N := 4) rfl (by decide) rfl (Nat.le_of_ble_eq_true rfl) dX3_copyFrom_118 ⟨Nat.zero_le _, Nat.zero_le _⟩ rfl) (fun σ32 hw => ?_)
  refine z_aload_n hG dX3_copyFrom_121 rfl 0 rfl ?_
  obtain ⟨j33, ej33, hw⟩ := hw
  refine z_getr (kq := 8) hG f_X3_37 h0 rfl ej33 rfl (by decide) dX3_copyFrom_122 (fun hj33 => ?_)
  refine z_aload_n hG dX3_copyFrom_125 rfl 1 rfl ?_
  obtain ⟨j34, ej34, hw⟩ := hw
  refine z_getr (kq := 8) hG f_X3_37 h1 rfl ej34 rfl (by decide) dX3_copyFrom_126 (fun hj34 => ?_)
  refine z_callv hG (z_runV (As := [.ref (za Y j34)]) (st := []) hG k_X3_115 (MX8_copyFrom l hj33 hj34 hw) ⟨(Nat.le_of_ble_eq_true rfl), (Nat.le_of_ble_eq_true rfl)⟩ hj33 (T := TX8) (N := 4) rfl (by decide) rfl (Nat.le_of_ble_eq_true rfl) dX3_copyFrom_129 ⟨Nat.zero_le _, Nat.zero_le _⟩ rfl) (fun σ35 hw => ?_)
  refine z_aload_n hG dX3_copyFrom_132 rfl 0 rfl ?_
  obtain ⟨j36, ej36, hw⟩ := hw
  refine z_getr (kq := 8) hG f_X3_41 h0 rfl ej36 rfl (by decide) dX3_copyFrom_133 (fun hj36 => ?_)
  refine z_aload_n hG dX3_copyFrom_136 rfl 1 rfl ?_
  obtain ⟨j37, ej37, hw⟩ := hw
  refine z_getr (kq := 8) hG f_X3_41 h1 rfl ej37 rfl (by decide) dX3_copyFrom_137 (fun hj37 => ?_)
  refine z_callv hG (z_runV (As := [.ref (za Y j37)]) (st := []) hG k_X3_115 (MX8_copyFrom l hj36 hj37 hw) ⟨(Nat.le_of_ble_eq_true rfl), (Nat.le_of_ble_eq_true rfl)⟩ hj36 (T := TX8) (N := 4) rfl (by decide) rfl (Nat.le_of_ble_eq_true rfl) dX3_copyFrom_140 ⟨Nat.zero_le _, Nat.zero_le _⟩ rfl) (fun σ38 hw => ?_)
  refine z_aload_n hG dX3_copyFrom_143 rfl 0 rfl ?_
  obtain ⟨j39, ej39, hw⟩ := hw
  refine z_getr (kq := 9) hG f_X3_47 h0 rfl ej39 rfl (by decide) dX3_copyFrom_144 (fun hj39 => ?_)
  refine z_aload_n hG dX3_copyFrom_147 rfl 1 rfl ?_
  obtain ⟨j40, ej40, hw⟩ := hw
  refine z_getr (kq := 9) hG f_X3_47 h1 rfl ej40 rfl (by decide) dX3_copyFrom_148 (fun hj40 => ?_)
  refine z_callv hG (z_runV (As := [.ref (za Y j40)]) (st := []) hG k_X3_86 (MX9_copyFrom l hj39 hj40 hw) ⟨(Nat.le_of_ble_eq_true rfl), (Nat.le_of_ble_eq_true rfl)⟩ hj39 (T := TX9) (N := 2) rfl (by decide) rfl (Nat.le_of_ble_eq_true rfl) dX3_copyFrom_151 ⟨Nat.zero_le _, Nat.zero_le _⟩ rfl) (fun σ41 hw => ?_)
  exact z_vret hG rfl dX3_copyFrom_154 hw
-- TypeWheelTelegraph$History.keep(LTypeWheelTelegraph$Machine;)V
def wX1_keep_32 (ln : Nat → Nat) (Q : zS → Prop) (t0 : Nat) (t1 : Nat) (σ : zS) : Prop := ∀ x1 : Int32, x1 = gi σ t0 2 → wX1_slot ln σ t0 x1 (fun r3 σ2 => (r3 = none → Q σ2) ∧ (∀ j4 : Nat, r3 = some j4 → wX3_copyFrom ln σ2 j4 t1 (fun σ5 => ∀ x6 : Int32, x6 = (gi σ5 t0 2) + 1 → ∀ σ7 : zS, σ7 = si σ5 t0 2 x6 → Q σ7)))
def wX1_keep (ln : Nat → Nat) (σ : zS) (t0 : Nat) (t1 : Nat) (Q : zS → Prop) : Prop := (((gi σ t0 2) = 10 → ∀ x1 : Int32, x1 = (gi σ t0 1) + 1 → ∀ x2 : Int32, x2 = x1 - x1 / 10 * 10 → ∀ σ3 : zS, σ3 = si σ t0 1 x2 → ∀ x4 : Int32, x4 = (gi σ3 t0 2) - 1 → ∀ σ5 : zS, σ5 = si σ3 t0 2 x4 → wX1_keep_32 ln Q t0 t1 σ5) ∧ (¬ (gi σ t0 2) = 10 → wX1_keep_32 ln Q t0 t1 σ))
abbrev rX1_keep : Room := { frames := 4, cells := 0, slots := 0, locals := 111 }
set_option maxRecDepth 100000 in
set_option maxHeartbeats 4000000 in
theorem BX1_keep_32 {l : Launch} {E : zE} {Y : zY} {p : Program} {e : Env} {s : State} {m : MethodId} {args : Array Value} {below : List Frame} {meth : Method} {c : Code} (hG : zG E p l s m args meth c cX1_keep 3 RX1 none (zA Y s.heap.size)) {Q : zS → Prop} : ∀ (t0 : Nat) (t1 : Nat) (σ : zS), wX1_keep_32 (zln Y) Q t0 t1 σ → zT Y 1 t0 → zT Y 3 t1 → WW E Y σ p l e rX1_keep s m args below meth c (zA Y s.heap.size) 3 0 0 (MQ below (va_Qv Q (zB E Y s.heap.size) (zA Y s.heap.size)) args s 0 0 (zA Y s.heap.size)) [(0, .ref (za Y t0)), (1, .ref (za Y t1))] 32 [] := by
  intro t0 t1 σ hw h0 h1
  unfold wX1_keep_32 at hw
  refine z_aload_n hG dX1_keep_32 rfl 0 rfl ?_
  refine z_aload_n hG dX1_keep_33 rfl 0 rfl ?_
  refine z_geti hG f_X1_18 h0 rfl dX1_keep_34 ?_
  refine z_topi (fun x1 ex1 => ?_)
  have hw := hw x1 ex1
  refine z_calle hG (z_runV (As := [.int x1]) (st := []) hG k_X1_25 (MX1_slot l h0 hw) ⟨(Nat.le_of_ble_eq_true rfl), (Nat.le_of_ble_eq_true rfl)⟩ h0 (T := TX1) (N := 3) rfl (by decide) rfl (Nat.le_of_ble_eq_true rfl) dX1_keep_37 ⟨Nat.zero_le _, Nat.zero_le _⟩ rfl) (fun σ2 hw => ?_) (fun j4 σ2 hj4 hw => ?_)
  · have hw := hw.1 rfl
    refine z_astoreN_n (lv' := [(2, .null), (0, .ref (za Y t0)), (1, .ref (za Y t1))]) hG dX1_keep_40 rfl (by decide) rfl ?_
    refine z_aloadN_n hG dX1_keep_41 rfl 0 rfl ?_
    refine z_ifnull_yes (tgt := 60) hG dX1_keep_42 (by decide) ?_
    exact z_vret hG rfl dX1_keep_60 hw
  · have hw := hw.2 j4 rfl
    refine z_astore_n (lv' := [(2, .ref (za Y j4)), (0, .ref (za Y t0)), (1, .ref (za Y t1))]) hG dX1_keep_40 rfl (by decide) rfl ?_
    refine z_aload_n hG dX1_keep_41 rfl 0 rfl ?_
    refine z_ifnull_no hG dX1_keep_42 ?_
    refine z_aload_n hG dX1_keep_45 rfl 0 rfl ?_
    refine z_aload_n hG dX1_keep_46 rfl 2 rfl ?_
    refine z_callv hG (z_runV (As := [.ref (za Y t1)]) (st := []) hG k_X1_29 (MX3_copyFrom l hj4 h1 hw) ⟨(Nat.le_of_ble_eq_true rfl), (Nat.le_of_ble_eq_true rfl)⟩ hj4 (T := TX3) (N := 17) rfl (by decide) rfl (Nat.le_of_ble_eq_true rfl) dX1_keep_47 ⟨Nat.zero_le _, Nat.zero_le _⟩ rfl) (fun σ5 hw => ?_)
    refine z_aload_n hG dX1_keep_50 rfl 1 rfl ?_
    refine z_dup hG dX1_keep_51 rfl ?_
    refine z_geti hG f_X1_18 h0 rfl dX1_keep_52 ?_
    refine z_iconst (v := 1) hG dX1_keep_55 (by decide) ?_
    refine z_iadd hG dX1_keep_56 ?_
    refine z_topi (fun x6 ex6 => ?_)
    have hw := hw x6 ex6
    refine z_puti hG f_X1_18 h0 rfl rfl (zN_int _) dX1_keep_57 ?_
    refine z_topσ (fun σ7 eσ7 => ?_)
    have hw := hw σ7 eσ7
    exact z_vret hG rfl dX1_keep_60 hw
set_option maxRecDepth 100000 in
set_option maxHeartbeats 4000000 in
theorem MX1_keep (l : Launch) {E : zE} {Y : zY} {σ : zS} {t0 : Nat} {t1 : Nat} (h0 : zT Y 1 t0) (h1 : zT Y 3 t1) {Q : zS → Prop} (hw : wX1_keep (zln Y) σ t0 t1 Q) : ∀ sz, Met l yX1_keep (zw yX1_keep cX1_keep 3 none) rX1_keep (zPc E Y σ sz [.ref (za Y t0), .ref (za Y t1)]) (va_Qv Q (zB E Y sz) (zA Y sz)) 0 0 (zA Y sz) := by
  refine z_met (own := RX1) (Qc := fun sz => va_Qv Q (zB E Y sz) (zA Y sz)) (by decide +kernel) rfl (Nat.le_of_ble_eq_true rfl) ?_
  intro p e s m args below meth c hG hinit
  unfold wX1_keep at hw
  refine zlv (lv' := [(0, .ref (za Y t0)), (1, .ref (za Y t1))]) rfl ?_
  refine z_aload_n hG dX1_keep_0 rfl 0 rfl ?_
  refine z_geti hG f_X1_18 h0 rfl dX1_keep_1 ?_
  refine z_bipush (v := 10) hG dX1_keep_4 (by decide) ?_
  refine z_icmp_ne (tgt := 32) hG dX1_keep_6 (by decide) (fun c6 => ?_) (fun c6 => ?_)
  · have hw := hw.2 c6
    refine zpick [0, 1] (lv' := [(0, .ref (za Y t0)), (1, .ref (za Y t1))]) rfl ?_
    exact BX1_keep_32 hG t0 t1 σ hw h0 h1
  · have hw := hw.1 c6
    refine z_aload_n hG dX1_keep_9 rfl 0 rfl ?_
    refine z_aload_n hG dX1_keep_10 rfl 0 rfl ?_
    refine z_geti hG f_X1_22 h0 rfl dX1_keep_11 ?_
    refine z_iconst (v := 1) hG dX1_keep_14 (by decide) ?_
    refine z_iadd hG dX1_keep_15 ?_
    refine z_bipush (v := 10) hG dX1_keep_16 (by decide) ?_
    obtain ⟨x1, ex1⟩ : ∃ y : Int32, y = (gi σ t0 1) + 1 := ⟨_, rfl⟩
    refine zst (st' := [.int 10, .int x1, .ref (za Y t0)]) (by rw [ex1]) ?_
    have hw := hw x1 ex1
    refine z_irem hG dX1_keep_18 (by decide) ?_
    refine z_topi (fun x2 ex2 => ?_)
    have hw := hw x2 ex2
    refine z_puti hG f_X1_22 h0 rfl rfl (zN_int _) dX1_keep_19 ?_
    refine z_topσ (fun σ3 eσ3 => ?_)
    have hw := hw σ3 eσ3
    refine z_aload_n hG dX1_keep_22 rfl 0 rfl ?_
    refine z_dup hG dX1_keep_23 rfl ?_
    refine z_geti hG f_X1_18 h0 rfl dX1_keep_24 ?_
    refine z_iconst (v := 1) hG dX1_keep_27 (by decide) ?_
    refine z_isub hG dX1_keep_28 ?_
    refine z_topi (fun x4 ex4 => ?_)
    have hw := hw x4 ex4
    refine z_puti hG f_X1_18 h0 rfl rfl (zN_int _) dX1_keep_29 ?_
    refine z_topσ (fun σ5 eσ5 => ?_)
    have hw := hw σ5 eσ5
    refine zpick [0, 1] (lv' := [(0, .ref (za Y t0)), (1, .ref (za Y t1))]) rfl ?_
    exact BX1_keep_32 hG t0 t1 σ5 hw h0 h1
-- TypeWheelTelegraph$Office.turn(II)V
def wX4_turn (ln : Nat → Nat) (σ : zS) (t0 : Nat) (v1 : Int32) (v2 : Int32) (Q : zS → Prop) : Prop := ∀ x1 : Int32, x1 = (gi σ t0 0) + v1 → wX11_modulo ln σ x1 v2 (fun r3 σ2 => ∀ σ4 : zS, σ4 = si σ2 t0 0 r3 → Q σ4)
abbrev rX4_turn : Room := { frames := 2, cells := 0, slots := 0, locals := 43 }
set_option maxRecDepth 100000 in
set_option maxHeartbeats 4000000 in
theorem MX4_turn (l : Launch) {E : zE} {Y : zY} {σ : zS} {t0 : Nat} {v1 : Int32} {v2 : Int32} (h0 : zT Y 4 t0) {Q : zS → Prop} (hw : wX4_turn (zln Y) σ t0 v1 v2 Q) : ∀ sz, Met l yX4_turn (zw yX4_turn cX4_turn 3 none) rX4_turn (zPc E Y σ sz [.ref (za Y t0), .int v1, .int v2]) (va_Qv Q (zB E Y sz) (zA Y sz)) 0 0 (zA Y sz) := by
  refine z_met (own := RX4) (Qc := fun sz => va_Qv Q (zB E Y sz) (zA Y sz)) (by decide +kernel) rfl (Nat.le_of_ble_eq_true rfl) ?_
  intro p e s m args below meth c hG hinit
  unfold wX4_turn at hw
  refine zlv (lv' := [(0, .ref (za Y t0)), (1, .int v1), (2, .int v2)]) rfl ?_
  refine z_aload_n hG dX4_turn_0 rfl 0 rfl ?_
  refine z_aload_n hG dX4_turn_1 rfl 0 rfl ?_
  refine z_geti hG f_X4_26 h0 rfl dX4_turn_2 ?_
  refine z_iload_n hG dX4_turn_5 rfl 1 rfl ?_
  refine z_iadd hG dX4_turn_6 ?_
  refine z_iload_n hG dX4_turn_7 rfl 2 rfl ?_
  obtain ⟨x1, ex1⟩ : ∃ y : Int32, y = (gi σ t0 0) + v1 := ⟨_, rfl⟩
  refine zst (st' := [.int v2, .int x1, .ref (za Y t0)]) (by rw [ex1]) ?_
  have hw := hw x1 ex1
  refine z_calli hG (z_runSN (As := [.int x1, .int v2]) (st := [.ref (za Y t0)]) hG k_X4_54 k_X4_54s (MX11_modulo l hw) ⟨(Nat.le_of_ble_eq_true rfl), (Nat.le_of_ble_eq_true rfl)⟩ rfl (Nat.le_of_ble_eq_true rfl) dX4_turn_8 ⟨Nat.zero_le _, Nat.zero_le _⟩ rfl) (fun r3 σ2 hw => ?_)
  refine z_puti hG f_X4_26 h0 rfl rfl (zN_int _) dX4_turn_11 ?_
  refine z_topσ (fun σ4 eσ4 => ?_)
  have hw := hw σ4 eσ4
  exact z_vret hG rfl dX4_turn_14 hw
-- TypeWheelTelegraph$Machine.isArrivalDue()Z
def wX3_isArrivalDue (ln : Nat → Nat) (σ : zS) (t0 : Nat) (Q : Int32 → zS → Prop) : Prop := ∃ j1 : Nat, gr σ t0 14 = some j1 ∧ wX8_size ln σ j1 (fun r3 σ2 => ((r3 ≤ 0 → Q 0 σ2) ∧ (¬ r3 ≤ 0 → ∃ j4 : Nat, gr σ2 t0 14 = some j4 ∧ wX8_get ln σ2 j4 0 0 (fun r6 σ5 => (((gi σ5 t0 1) < r6 → Q 0 σ5) ∧ (¬ (gi σ5 t0 1) < r6 → Q 1 σ5))))))
abbrev rX3_isArrivalDue : Room := { frames := 2, cells := 0, slots := 0, locals := 45 }
set_option maxRecDepth 100000 in
set_option maxHeartbeats 4000000 in
theorem MX3_isArrivalDue (l : Launch) {E : zE} {Y : zY} {σ : zS} {t0 : Nat} (h0 : zT Y 3 t0) {Q : Int32 → zS → Prop} (hw : wX3_isArrivalDue (zln Y) σ t0 Q) : ∀ sz, Met l yX3_isArrivalDue (zw yX3_isArrivalDue cX3_isArrivalDue 1 (some .boolean)) rX3_isArrivalDue (zPc E Y σ sz [.ref (za Y t0)]) (va_Qi Q (zB E Y sz) (zA Y sz)) 0 0 (zA Y sz) := by
  refine z_met (own := RX3) (Qc := fun sz => va_Qi Q (zB E Y sz) (zA Y sz)) (by decide +kernel) rfl (Nat.le_of_ble_eq_true rfl) ?_
  intro p e s m args below meth c hG hinit
  unfold wX3_isArrivalDue at hw
  refine zlv (lv' := [(0, .ref (za Y t0))]) rfl ?_
  refine z_aload_n hG dX3_isArrivalDue_0 rfl 0 rfl ?_
  obtain ⟨j1, ej1, hw⟩ := hw
  refine z_getr (kq := 8) hG f_X3_37 h0 rfl ej1 rfl (by decide) dX3_isArrivalDue_1 (fun hj1 => ?_)
  refine z_calli hG (z_runV (As := []) (st := []) hG k_X3_137 (MX8_size l hj1 hw) ⟨(Nat.le_of_ble_eq_true rfl), (Nat.le_of_ble_eq_true rfl)⟩ hj1 (T := TX8) (N := 4) rfl (by decide) rfl (Nat.le_of_ble_eq_true rfl) dX3_isArrivalDue_4 ⟨Nat.zero_le _, Nat.zero_le _⟩ rfl) (fun r3 σ2 hw => ?_)
  refine z_if_le (tgt := 30) hG dX3_isArrivalDue_7 (by decide) (fun c8 => ?_) (fun c8 => ?_)
  · have hw := hw.1 c8
    refine z_iconst (v := 0) hG dX3_isArrivalDue_30 (by decide) ?_
    exact z_iret hG rfl (by decide +kernel) dX3_isArrivalDue_31 hw
  · have hw := hw.2 c8
    refine z_aload_n hG dX3_isArrivalDue_10 rfl 0 rfl ?_
    obtain ⟨j4, ej4, hw⟩ := hw
    refine z_getr (kq := 8) hG f_X3_37 h0 rfl ej4 rfl (by decide) dX3_isArrivalDue_11 (fun hj4 => ?_)
    refine z_iconst (v := 0) hG dX3_isArrivalDue_14 (by decide) ?_
    refine z_iconst (v := 0) hG dX3_isArrivalDue_15 (by decide) ?_
    refine z_calli hG (z_runV (As := [.int 0, .int 0]) (st := []) hG k_X3_144 (MX8_get l hj4 hw) ⟨(Nat.le_of_ble_eq_true rfl), (Nat.le_of_ble_eq_true rfl)⟩ hj4 (T := TX8) (N := 4) rfl (by decide) rfl (Nat.le_of_ble_eq_true rfl) dX3_isArrivalDue_16 ⟨Nat.zero_le _, Nat.zero_le _⟩ rfl) (fun r6 σ5 hw => ?_)
    refine z_aload_n hG dX3_isArrivalDue_19 rfl 0 rfl ?_
    refine z_geti hG f_X3_59 h0 rfl dX3_isArrivalDue_20 ?_
    refine z_icmp_gt (tgt := 30) hG dX3_isArrivalDue_23 (by decide) (fun c7 => ?_) (fun c7 => ?_)
    · have hw := hw.1 c7
      refine z_iconst (v := 0) hG dX3_isArrivalDue_30 (by decide) ?_
      exact z_iret hG rfl (by decide +kernel) dX3_isArrivalDue_31 hw
    · have hw := hw.2 c7
      refine z_iconst (v := 1) hG dX3_isArrivalDue_26 (by decide) ?_
      refine z_goto (tgt := 31) hG dX3_isArrivalDue_27 (by decide) ?_
      exact z_iret hG rfl (by decide +kernel) dX3_isArrivalDue_31 hw
-- TypeWheelTelegraph$Office.print(II)I
def wX4_print (ln : Nat → Nat) (σ : zS) (t0 : Nat) (v1 : Int32) (v2 : Int32) (Q : Int32 → zS → Prop) : Prop := wX4_nearestPosition ln σ t0 (fun r2 σ1 => ∀ x3 : Int32, x3 = (gi σ1 t0 0) - (1000 * r2) → ∀ x4 : Int32, x4 = (gi σ1 t0 3) + 1 → ∀ σ5 : zS, σ5 = si σ1 t0 3 x4 → ∀ x6 : Int64, x6 = (gl σ5 t0 6) + x3.toInt64 → ∀ σ7 : zS, σ7 = sl σ5 t0 6 x6 → ∀ x8 : Int32, x8 = (if 0 ≤ x3 then x3 else 0 - x3) → ∀ x9 : Int32, x9 = gi σ7 t0 5 → ∀ x10 : Int32, x10 = (if x9 < x8 then x8 else x9) → ∀ σ11 : zS, σ11 = si σ7 t0 5 x10 → ∀ x12 : Int32, x12 = (if v1 < x3 then v1 else x3) → ∀ x13 : Int32, x13 = -v1 → ∀ x14 : Int32, x14 = (if x13 < x12 then x12 else x13) → ∀ x15 : Int32, x15 = 1000 * v2 → ∀ x16 : Int32, x16 = -x14 → wX4_turn ln σ11 t0 x16 x15 (fun σ17 => wX11_modulo ln σ17 r2 v2 (fun r19 σ18 => Q r19 σ18)))
abbrev rX4_print : Room := { frames := 3, cells := 0, slots := 0, locals := 65 }
set_option maxRecDepth 100000 in
set_option maxHeartbeats 4000000 in
theorem MX4_print (l : Launch) {E : zE} {Y : zY} {σ : zS} {t0 : Nat} {v1 : Int32} {v2 : Int32} (h0 : zT Y 4 t0) {Q : Int32 → zS → Prop} (hw : wX4_print (zln Y) σ t0 v1 v2 Q) : ∀ sz, Met l yX4_print (zw yX4_print cX4_print 6 (some .int)) rX4_print (zPc E Y σ sz [.ref (za Y t0), .int v1, .int v2]) (va_Qi Q (zB E Y sz) (zA Y sz)) 0 0 (zA Y sz) := by
  refine z_met (own := RX4) (Qc := fun sz => va_Qi Q (zB E Y sz) (zA Y sz)) (by decide +kernel) rfl (Nat.le_of_ble_eq_true rfl) ?_
  intro p e s m args below meth c hG hinit
  unfold wX4_print at hw
  refine zlv (lv' := [(0, .ref (za Y t0)), (1, .int v1), (2, .int v2)]) rfl ?_
  refine z_aload_n hG dX4_print_0 rfl 0 rfl ?_
  refine z_calli hG (z_runV (As := []) (st := []) hG k_X4_58 (MX4_nearestPosition l h0 hw) ⟨(Nat.le_of_ble_eq_true rfl), (Nat.le_of_ble_eq_true rfl)⟩ h0 (T := TX4) (N := 8) rfl (by decide) rfl (Nat.le_of_ble_eq_true rfl) dX4_print_1 ⟨Nat.zero_le _, Nat.zero_le _⟩ rfl) (fun r2 σ1 hw => ?_)
  refine z_istore_n (lv' := [(3, .int r2), (0, .ref (za Y t0)), (1, .int v1), (2, .int v2)]) hG dX4_print_4 rfl (by decide) rfl ?_
  refine z_aload_n hG dX4_print_5 rfl 1 rfl ?_
  refine z_geti hG f_X4_26 h0 rfl dX4_print_6 ?_
  refine z_sipush (v := 1000) hG dX4_print_9 (by decide) ?_
  refine z_iload_n hG dX4_print_12 rfl 0 rfl ?_
  refine z_imul hG dX4_print_13 ?_
  refine z_isub hG dX4_print_14 ?_
  refine z_topi (fun x3 ex3 => ?_)
  have hw := hw x3 ex3
  refine z_istore (lv' := [(4, .int x3), (3, .int r2), (0, .ref (za Y t0)), (1, .int v1), (2, .int v2)]) hG dX4_print_15 (by decide) rfl ?_
  refine z_aload_n hG dX4_print_17 rfl 2 rfl ?_
  refine z_dup hG dX4_print_18 rfl ?_
  refine z_geti hG f_X4_34 h0 rfl dX4_print_19 ?_
  refine z_iconst (v := 1) hG dX4_print_22 (by decide) ?_
  refine z_iadd hG dX4_print_23 ?_
  refine z_topi (fun x4 ex4 => ?_)
  have hw := hw x4 ex4
  refine z_puti hG f_X4_34 h0 rfl rfl (zN_int _) dX4_print_24 ?_
  refine z_topσ (fun σ5 eσ5 => ?_)
  have hw := hw σ5 eσ5
  refine z_aload_n hG dX4_print_27 rfl 2 rfl ?_
  refine z_dup hG dX4_print_28 rfl ?_
  refine z_getl hG f_X4_43 h0 rfl dX4_print_29 ?_
  refine z_iload hG dX4_print_32 0 rfl ?_
  refine z_i2l hG dX4_print_34 ?_
  refine z_ladd hG dX4_print_35 ?_
  refine z_topl (fun x6 ex6 => ?_)
  have hw := hw x6 ex6
  refine z_putl hG f_X4_43 h0 rfl rfl rfl dX4_print_36 ?_
  refine z_topσ (fun σ7 eσ7 => ?_)
  have hw := hw σ7 eσ7
  refine z_aload_n hG dX4_print_39 rfl 2 rfl ?_
  refine z_aload_n hG dX4_print_40 rfl 2 rfl ?_
  refine z_geti hG f_X4_40 h0 rfl dX4_print_41 ?_
  refine z_iload hG dX4_print_44 0 rfl ?_
  refine z_mabs hG k_X4_62 km_abs_s km_i km_abs_c (Nat.le_of_ble_eq_true rfl) (Nat.le_of_ble_eq_true rfl) (Nat.zero_le _) (Nat.zero_le _) dX4_print_46 ?_
  refine z_topi (fun x8 ex8 => ?_)
  have hw := hw x8 ex8
  obtain ⟨x9, ex9⟩ : ∃ y : Int32, y = gi σ7 t0 5 := ⟨_, rfl⟩
  refine zst (st' := [.int x8, .int x9, .ref (za Y t0)]) (by rw [ex9]) ?_
  have hw := hw x9 ex9
  refine z_mmax hG k_X4_68 km_max_s km_i km_max_c (Nat.le_of_ble_eq_true rfl) (Nat.le_of_ble_eq_true rfl) (Nat.zero_le _) (Nat.zero_le _) dX4_print_49 ?_
  refine z_topi (fun x10 ex10 => ?_)
  have hw := hw x10 ex10
  refine z_puti hG f_X4_40 h0 rfl rfl (zN_int _) dX4_print_52 ?_
  refine z_topσ (fun σ11 eσ11 => ?_)
  have hw := hw σ11 eσ11
  refine z_iload_n hG dX4_print_55 rfl 3 rfl ?_
  refine z_ineg hG dX4_print_56 ?_
  refine z_iload hG dX4_print_57 0 rfl ?_
  refine z_iload_n hG dX4_print_59 rfl 3 rfl ?_
  refine z_mmin hG k_X4_71 km_min_s km_i km_min_c (Nat.le_of_ble_eq_true rfl) (Nat.le_of_ble_eq_true rfl) (Nat.zero_le _) (Nat.zero_le _) dX4_print_60 ?_
  refine z_topi (fun x12 ex12 => ?_)
  have hw := hw x12 ex12
  obtain ⟨x13, ex13⟩ : ∃ y : Int32, y = -v1 := ⟨_, rfl⟩
  refine zst (st' := [.int x12, .int x13]) (by rw [ex13]) ?_
  have hw := hw x13 ex13
  refine z_mmax hG k_X4_68 km_max_s km_i km_max_c (Nat.le_of_ble_eq_true rfl) (Nat.le_of_ble_eq_true rfl) (Nat.zero_le _) (Nat.zero_le _) dX4_print_63 ?_
  refine z_topi (fun x14 ex14 => ?_)
  have hw := hw x14 ex14
  refine z_istore (lv' := [(5, .int x14), (4, .int x3), (3, .int r2), (0, .ref (za Y t0)), (1, .int v1), (2, .int v2)]) hG dX4_print_66 (by decide) rfl ?_
  refine z_aload_n hG dX4_print_68 rfl 3 rfl ?_
  refine z_iload hG dX4_print_69 0 rfl ?_
  refine z_ineg hG dX4_print_71 ?_
  refine z_sipush (v := 1000) hG dX4_print_72 (by decide) ?_
  refine z_iload_n hG dX4_print_75 rfl 5 rfl ?_
  refine z_imul hG dX4_print_76 ?_
  refine z_topi (fun x15 ex15 => ?_)
  have hw := hw x15 ex15
  obtain ⟨x16, ex16⟩ : ∃ y : Int32, y = -x14 := ⟨_, rfl⟩
  refine zst (st' := [.int x15, .int x16, .ref (za Y t0)]) (by rw [ex16]) ?_
  have hw := hw x16 ex16
  refine z_callv hG (z_runV (As := [.int x16, .int x15]) (st := []) hG k_X4_74 (MX4_turn l h0 hw) ⟨(Nat.le_of_ble_eq_true rfl), (Nat.le_of_ble_eq_true rfl)⟩ h0 (T := TX4) (N := 8) rfl (by decide) rfl (Nat.le_of_ble_eq_true rfl) dX4_print_77 ⟨Nat.zero_le _, Nat.zero_le _⟩ rfl) (fun σ17 hw => ?_)
  refine z_iload_n hG dX4_print_80 rfl 2 rfl ?_
  refine z_iload_n hG dX4_print_81 rfl 5 rfl ?_
  refine z_calli hG (z_runSN (As := [.int r2, .int v2]) (st := []) hG k_X4_54 k_X4_54s (MX11_modulo l hw) ⟨(Nat.le_of_ble_eq_true rfl), (Nat.le_of_ble_eq_true rfl)⟩ rfl (Nat.le_of_ble_eq_true rfl) dX4_print_82 ⟨Nat.zero_le _, Nat.zero_le _⟩ rfl) (fun r19 σ18 hw => ?_)
  exact z_iret hG rfl rfl dX4_print_85 hw
-- TypeWheelTelegraph$Machine.checkLine(LTypeWheelTelegraph$Office;I)V
def wX3_checkLine_146 (ln : Nat → Nat) (Q : zS → Prop) (t0 : Nat) (tw0 : Nat) (vw1 : Int32) (vw2 : Int32) (σ : zS) : Prop := wX8_add ln σ tw0 vw1 vw2 (-1) (fun σ1 => ∃ j2 : Nat, gr σ1 t0 13 = some j2 ∧ wX7_clear ln σ1 j2 (fun σ3 => Q σ3))
def wX3_checkLine_121 (ln : Nat → Nat) (Q : zS → Prop) (t0 : Nat) (v3 : Int32) (σ : zS) : Prop := ∃ j1 : Nat, gr σ t0 14 = some j1 ∧ ∃ j2 : Nat, gr σ t0 0 = some j2 ∧ ((v3 = 0 → wX3_checkLine_146 ln Q t0 j1 ((gi σ t0 1) + (gi σ j2 1)) 2 σ) ∧ (¬ v3 = 0 → wX3_checkLine_146 ln Q t0 j1 ((gi σ t0 1) + (gi σ j2 1)) 1 σ))
def wX3_checkLine_43 (ln : Nat → Nat) (Q : zS → Prop) : Nat → Nat → Nat → Int32 → Nat → Int32 → zS → Prop
  | 0, _, _, _, _, _, _ => False
  | n + 1, t0, t1, v3, t4, v5, σ => wX9_size ln σ t4 (fun r2 σ1 => ((r2 ≤ v5 → ∃ j3 : Nat, gr σ1 t1 7 = some j3 ∧ wX9_add ln σ1 j3 47 (fun σ4 => ∃ j5 : Nat, gr σ4 t0 15 = some j5 ∧ wX9_size ln σ4 t4 (fun r7 σ6 => ∀ x8 : Int32, x8 = gi σ4 t0 1 → wX8_add ln σ6 j5 x8 1 r7 (fun σ9 => wX3_checkLine_121 ln Q t0 v3 σ9)))) ∧ (¬ r2 ≤ v5 → ∃ j10 : Nat, gr σ1 t1 7 = some j10 ∧ wX9_get ln σ1 t4 v5 (fun r12 σ11 => wX9_add ln σ11 j10 r12 (fun σ13 => ∀ x14 : Int32, x14 = v5 + 1 → (wX3_checkLine_43 ln Q n) t0 t1 v3 t4 x14 σ13)))))
def wX3_checkLine_26 (ln : Nat → Nat) (Q : zS → Prop) (t0 : Nat) (t1 : Nat) (vw0 : Int32) (σ : zS) : Prop := ((vw0 = 0 → ∃ j1 : Nat, gr σ t0 15 = some j1 ∧ ∃ j2 : Nat, gr σ t0 13 = some j2 ∧ ∀ x3 : Int32, x3 = gi σ j2 1 → ∀ x4 : Int32, x4 = gi σ t0 1 → wX8_add ln σ j1 x4 2 x3 (fun σ5 => wX3_checkLine_121 ln Q t0 vw0 σ5)) ∧ (¬ vw0 = 0 → ∃ j6 : Nat, gr σ t0 13 = some j6 ∧ ∃ j7 : Nat, gr σ j6 0 = some j7 ∧ ∃ n8 : Nat, wX3_checkLine_43 ln Q n8 t0 t1 vw0 j7 0 σ))
def wX3_checkLine (ln : Nat → Nat) (σ : zS) (t0 : Nat) (t1 : Nat) (v2 : Int32) (Q : zS → Prop) : Prop := ∃ j1 : Nat, gr σ t0 13 = some j1 ∧ ∃ j2 : Nat, gr σ t0 0 = some j2 ∧ ∀ x3 : Int32, x3 = gi σ j2 0 → ∀ x4 : Int32, x4 = gi σ j1 1 → wX11_checkPosition ln σ x4 x3 (fun r6 σ5 => ((v2 = r6 → wX3_checkLine_26 ln Q t0 t1 1 σ5) ∧ (¬ v2 = r6 → wX3_checkLine_26 ln Q t0 t1 0 σ5)))
abbrev rX3_checkLine : Room := { frames := 3, cells := 0, slots := 0, locals := 64 }
set_option maxRecDepth 100000 in
set_option maxHeartbeats 4000000 in
theorem BX3_checkLine_146 {l : Launch} {E : zE} {Y : zY} {p : Program} {e : Env} {s : State} {m : MethodId} {args : Array Value} {below : List Frame} {meth : Method} {c : Code} (hG : zG E p l s m args meth c cX3_checkLine 6 RX3 none (zA Y s.heap.size)) {Q : zS → Prop} : ∀ (t0 : Nat) (tw0 : Nat) (vw1 : Int32) (vw2 : Int32) (σ : zS), wX3_checkLine_146 (zln Y) Q t0 tw0 vw1 vw2 σ → zT Y 3 t0 → zT Y 8 tw0 → WW E Y σ p l e rX3_checkLine s m args below meth c (zA Y s.heap.size) 6 0 0 (MQ below (va_Qv Q (zB E Y s.heap.size) (zA Y s.heap.size)) args s 0 0 (zA Y s.heap.size)) [(0, .ref (za Y t0))] 146 [.int vw2, .int vw1, .ref (za Y tw0)] := by
  intro t0 tw0 vw1 vw2 σ hw h0 hw0
  unfold wX3_checkLine_146 at hw
  refine z_iconst (v := (-1)) hG dX3_checkLine_146 (by decide) ?_
  refine z_callv hG (z_runV (As := [.int vw1, .int vw2, .int (-1)]) (st := []) hG k_X3_122 (MX8_add l hw0 hw) ⟨(Nat.le_of_ble_eq_true rfl), (Nat.le_of_ble_eq_true rfl)⟩ hw0 (T := TX8) (N := 4) rfl (by decide) rfl (Nat.le_of_ble_eq_true rfl) dX3_checkLine_147 ⟨Nat.zero_le _, Nat.zero_le _⟩ rfl) (fun σ1 hw => ?_)
  refine z_aload_n hG dX3_checkLine_150 rfl 0 rfl ?_
  obtain ⟨j2, ej2, hw⟩ := hw
  refine z_getr (kq := 7) hG f_X3_28 h0 rfl ej2 rfl (by decide) dX3_checkLine_151 (fun hj2 => ?_)
  refine z_callv hG (z_runV (As := []) (st := []) hG k_X3_118 (MX7_clear l hj2 hw) ⟨(Nat.le_of_ble_eq_true rfl), (Nat.le_of_ble_eq_true rfl)⟩ hj2 (T := TX7) (N := 4) rfl (by decide) rfl (Nat.le_of_ble_eq_true rfl) dX3_checkLine_154 ⟨Nat.zero_le _, Nat.zero_le _⟩ rfl) (fun σ3 hw => ?_)
  exact z_vret hG rfl dX3_checkLine_157 hw
set_option maxRecDepth 100000 in
set_option maxHeartbeats 4000000 in
theorem BX3_checkLine_121 {l : Launch} {E : zE} {Y : zY} {p : Program} {e : Env} {s : State} {m : MethodId} {args : Array Value} {below : List Frame} {meth : Method} {c : Code} (hG : zG E p l s m args meth c cX3_checkLine 6 RX3 none (zA Y s.heap.size)) {Q : zS → Prop} : ∀ (t0 : Nat) (v3 : Int32) (σ : zS), wX3_checkLine_121 (zln Y) Q t0 v3 σ → zT Y 3 t0 → WW E Y σ p l e rX3_checkLine s m args below meth c (zA Y s.heap.size) 6 0 0 (MQ below (va_Qv Q (zB E Y s.heap.size) (zA Y s.heap.size)) args s 0 0 (zA Y s.heap.size)) [(0, .ref (za Y t0)), (3, .int v3)] 121 [] := by
  intro t0 v3 σ hw h0
  unfold wX3_checkLine_121 at hw
  refine z_aload_n hG dX3_checkLine_121 rfl 0 rfl ?_
  obtain ⟨j1, ej1, hw⟩ := hw
  refine z_getr (kq := 8) hG f_X3_37 h0 rfl ej1 rfl (by decide) dX3_checkLine_122 (fun hj1 => ?_)
  refine z_aload_n hG dX3_checkLine_125 rfl 0 rfl ?_
  refine z_geti hG f_X3_59 h0 rfl dX3_checkLine_126 ?_
  refine z_aload_n hG dX3_checkLine_129 rfl 0 rfl ?_
  obtain ⟨j2, ej2, hw⟩ := hw
  refine z_getr (kq := 6) hG f_X3_55 h0 rfl ej2 rfl (by decide) dX3_checkLine_130 (fun hj2 => ?_)
  refine z_geti hG f_X3_119 hj2 rfl dX3_checkLine_133 ?_
  refine z_iadd hG dX3_checkLine_136 ?_
  refine z_iload_n hG dX3_checkLine_137 rfl 1 rfl ?_
  refine z_if_eq (tgt := 145) hG dX3_checkLine_138 (by decide) (fun c3 => ?_) (fun c3 => ?_)
  · have hw := hw.1 c3
    refine z_iconst (v := 2) hG dX3_checkLine_145 (by decide) ?_
    refine zpick [0] (lv' := [(0, .ref (za Y t0))]) rfl ?_
    exact BX3_checkLine_146 hG t0 j1 ((gi σ t0 1) + (gi σ j2 1)) 2 σ hw h0 hj1
  · have hw := hw.2 c3
    refine z_iconst (v := 1) hG dX3_checkLine_141 (by decide) ?_
    refine z_goto (tgt := 146) hG dX3_checkLine_142 (by decide) ?_
    refine zpick [0] (lv' := [(0, .ref (za Y t0))]) rfl ?_
    exact BX3_checkLine_146 hG t0 j1 ((gi σ t0 1) + (gi σ j2 1)) 1 σ hw h0 hj1
set_option maxRecDepth 100000 in
set_option maxHeartbeats 4000000 in
theorem BX3_checkLine_43 {l : Launch} {E : zE} {Y : zY} {p : Program} {e : Env} {s : State} {m : MethodId} {args : Array Value} {below : List Frame} {meth : Method} {c : Code} (hG : zG E p l s m args meth c cX3_checkLine 6 RX3 none (zA Y s.heap.size)) {Q : zS → Prop} : ∀ (n : Nat) (t0 : Nat) (t1 : Nat) (v3 : Int32) (t4 : Nat) (v5 : Int32) (σ : zS), wX3_checkLine_43 (zln Y) Q n t0 t1 v3 t4 v5 σ → zT Y 3 t0 → zT Y 4 t1 → zT Y 9 t4 → WW E Y σ p l e rX3_checkLine s m args below meth c (zA Y s.heap.size) 6 0 0 (MQ below (va_Qv Q (zB E Y s.heap.size) (zA Y s.heap.size)) args s 0 0 (zA Y s.heap.size)) [(0, .ref (za Y t0)), (1, .ref (za Y t1)), (3, .int v3), (4, .ref (za Y t4)), (5, .int v5)] 43 [] := by
  intro n
  induction n with
  | zero => intro t0 t1 v3 t4 v5 σ hw
            exact hw.elim
  | succ n ih =>
    intro t0 t1 v3 t4 v5 σ hw h0 h1 h4
    rw [wX3_checkLine_43] at hw
    refine z_iload hG dX3_checkLine_43 4 rfl ?_
    refine z_aload hG dX3_checkLine_45 3 rfl ?_
    refine z_calli hG (z_runV (As := []) (st := [.int v5]) hG k_X3_205 (MX9_size l h4 hw) ⟨(Nat.le_of_ble_eq_true rfl), (Nat.le_of_ble_eq_true rfl)⟩ h4 (T := TX9) (N := 2) rfl (by decide) rfl (Nat.le_of_ble_eq_true rfl) dX3_checkLine_47 ⟨Nat.zero_le _, Nat.zero_le _⟩ rfl) (fun r2 σ1 hw => ?_)
    refine z_icmp_ge (tgt := 73) hG dX3_checkLine_50 (by decide) (fun c15 => ?_) (fun c15 => ?_)
    · have hw := hw.1 c15
      refine z_aload_n hG dX3_checkLine_73 rfl 1 rfl ?_
      obtain ⟨j3, ej3, hw⟩ := hw
      refine z_getr (kq := 9) hG f_X3_206 h1 rfl ej3 rfl (by decide) dX3_checkLine_74 (fun hj3 => ?_)
      refine z_bipush (v := 47) hG dX3_checkLine_77 (by decide) ?_
      refine z_callv hG (z_runV (As := [.int 47]) (st := []) hG k_X3_212 (MX9_add l hj3 hw) ⟨(Nat.le_of_ble_eq_true rfl), (Nat.le_of_ble_eq_true rfl)⟩ hj3 (T := TX9) (N := 2) rfl (by decide) rfl (Nat.le_of_ble_eq_true rfl) dX3_checkLine_79 ⟨Nat.zero_le _, Nat.zero_le _⟩ rfl) (fun σ4 hw => ?_)
      refine z_aload_n hG dX3_checkLine_82 rfl 0 rfl ?_
      obtain ⟨j5, ej5, hw⟩ := hw
      refine z_getr (kq := 8) hG f_X3_41 h0 rfl ej5 rfl (by decide) dX3_checkLine_83 (fun hj5 => ?_)
      refine z_aload_n hG dX3_checkLine_86 rfl 0 rfl ?_
      refine z_geti hG f_X3_59 h0 rfl dX3_checkLine_87 ?_
      refine z_iconst (v := 1) hG dX3_checkLine_90 (by decide) ?_
      refine z_aload hG dX3_checkLine_91 3 rfl ?_
      refine z_calli hG (z_runV (As := []) (st := [.int 1, .int (gi σ4 t0 1), .ref (za Y j5)]) hG k_X3_205 (MX9_size l h4 hw) ⟨(Nat.le_of_ble_eq_true rfl), (Nat.le_of_ble_eq_true rfl)⟩ h4 (T := TX9) (N := 2) rfl (by decide) rfl (Nat.le_of_ble_eq_true rfl) dX3_checkLine_93 ⟨Nat.zero_le _, Nat.zero_le _⟩ rfl) (fun r7 σ6 hw => ?_)
      obtain ⟨x8, ex8⟩ : ∃ y : Int32, y = gi σ4 t0 1 := ⟨_, rfl⟩
      refine zst (st' := [.int r7, .int 1, .int x8, .ref (za Y j5)]) (by rw [ex8]) ?_
      have hw := hw x8 ex8
      refine z_callv hG (z_runV (As := [.int x8, .int 1, .int r7]) (st := []) hG k_X3_122 (MX8_add l hj5 hw) ⟨(Nat.le_of_ble_eq_true rfl), (Nat.le_of_ble_eq_true rfl)⟩ hj5 (T := TX8) (N := 4) rfl (by decide) rfl (Nat.le_of_ble_eq_true rfl) dX3_checkLine_96 ⟨Nat.zero_le _, Nat.zero_le _⟩ rfl) (fun σ9 hw => ?_)
      refine z_goto (tgt := 121) hG dX3_checkLine_99 (by decide) ?_
      refine zpick [0, 2] (lv' := [(0, .ref (za Y t0)), (3, .int v3)]) rfl ?_
      exact BX3_checkLine_121 hG t0 v3 σ9 hw h0
    · have hw := hw.2 c15
      refine z_aload_n hG dX3_checkLine_53 rfl 1 rfl ?_
      obtain ⟨j10, ej10, hw⟩ := hw
      refine z_getr (kq := 9) hG f_X3_206 h1 rfl ej10 rfl (by decide) dX3_checkLine_54 (fun hj10 => ?_)
      refine z_aload hG dX3_checkLine_57 3 rfl ?_
      refine z_iload hG dX3_checkLine_59 4 rfl ?_
      refine z_calli hG (z_runV (As := [.int v5]) (st := [.ref (za Y j10)]) hG k_X3_209 (MX9_get l h4 hw) ⟨(Nat.le_of_ble_eq_true rfl), (Nat.le_of_ble_eq_true rfl)⟩ h4 (T := TX9) (N := 2) rfl (by decide) rfl (Nat.le_of_ble_eq_true rfl) dX3_checkLine_61 ⟨Nat.zero_le _, Nat.zero_le _⟩ rfl) (fun r12 σ11 hw => ?_)
      refine z_callv hG (z_runV (As := [.int r12]) (st := []) hG k_X3_212 (MX9_add l hj10 hw) ⟨(Nat.le_of_ble_eq_true rfl), (Nat.le_of_ble_eq_true rfl)⟩ hj10 (T := TX9) (N := 2) rfl (by decide) rfl (Nat.le_of_ble_eq_true rfl) dX3_checkLine_64 ⟨Nat.zero_le _, Nat.zero_le _⟩ rfl) (fun σ13 hw => ?_)
      obtain ⟨x14, ex14⟩ : ∃ y : Int32, y = v5 + 1 := ⟨_, rfl⟩
      have hw := hw x14 ex14
      refine z_iinc (v := x14) (lv' := [(5, .int x14), (0, .ref (za Y t0)), (1, .ref (za Y t1)), (3, .int v3), (4, .ref (za Y t4))]) hG dX3_checkLine_67 4 rfl (by rw [ex14]; rfl) (by decide) rfl ?_
      refine z_goto (tgt := 43) hG dX3_checkLine_70 (by decide) ?_
      refine zpick [1, 2, 3, 4, 0] (lv' := [(0, .ref (za Y t0)), (1, .ref (za Y t1)), (3, .int v3), (4, .ref (za Y t4)), (5, .int x14)]) rfl ?_
      exact ih t0 t1 v3 t4 x14 σ13 hw h0 h1 h4
set_option maxRecDepth 100000 in
set_option maxHeartbeats 4000000 in
theorem BX3_checkLine_26 {l : Launch} {E : zE} {Y : zY} {p : Program} {e : Env} {s : State} {m : MethodId} {args : Array Value} {below : List Frame} {meth : Method} {c : Code} (hG : zG E p l s m args meth c cX3_checkLine 6 RX3 none (zA Y s.heap.size)) {Q : zS → Prop} : ∀ (t0 : Nat) (t1 : Nat) (vw0 : Int32) (σ : zS), wX3_checkLine_26 (zln Y) Q t0 t1 vw0 σ → zT Y 3 t0 → zT Y 4 t1 → WW E Y σ p l e rX3_checkLine s m args below meth c (zA Y s.heap.size) 6 0 0 (MQ below (va_Qv Q (zB E Y s.heap.size) (zA Y s.heap.size)) args s 0 0 (zA Y s.heap.size)) [(0, .ref (za Y t0)), (1, .ref (za Y t1))] 26 [.int vw0] := by
  intro t0 t1 vw0 σ hw h0 h1
  unfold wX3_checkLine_26 at hw
  refine z_istore_n (lv' := [(3, .int vw0), (0, .ref (za Y t0)), (1, .ref (za Y t1))]) hG dX3_checkLine_26 rfl (by decide) rfl ?_
  refine z_iload_n hG dX3_checkLine_27 rfl 0 rfl ?_
  refine z_if_eq (tgt := 102) hG dX3_checkLine_28 (by decide) (fun c9 => ?_) (fun c9 => ?_)
  · have hw := hw.1 c9
    refine z_aload_n hG dX3_checkLine_102 rfl 1 rfl ?_
    obtain ⟨j1, ej1, hw⟩ := hw
    refine z_getr (kq := 8) hG f_X3_41 h0 rfl ej1 rfl (by decide) dX3_checkLine_103 (fun hj1 => ?_)
    refine z_aload_n hG dX3_checkLine_106 rfl 1 rfl ?_
    refine z_geti hG f_X3_59 h0 rfl dX3_checkLine_107 ?_
    refine z_iconst (v := 2) hG dX3_checkLine_110 (by decide) ?_
    refine z_aload_n hG dX3_checkLine_111 rfl 1 rfl ?_
    obtain ⟨j2, ej2, hw⟩ := hw
    refine z_getr (kq := 7) hG f_X3_28 h0 rfl ej2 rfl (by decide) dX3_checkLine_112 (fun hj2 => ?_)
    refine z_geti hG f_X3_196 hj2 rfl dX3_checkLine_115 ?_
    refine z_topi (fun x3 ex3 => ?_)
    have hw := hw x3 ex3
    obtain ⟨x4, ex4⟩ : ∃ y : Int32, y = gi σ t0 1 := ⟨_, rfl⟩
    refine zst (st' := [.int x3, .int 2, .int x4, .ref (za Y j1)]) (by rw [ex4]) ?_
    have hw := hw x4 ex4
    refine z_callv hG (z_runV (As := [.int x4, .int 2, .int x3]) (st := []) hG k_X3_122 (MX8_add l hj1 hw) ⟨(Nat.le_of_ble_eq_true rfl), (Nat.le_of_ble_eq_true rfl)⟩ hj1 (T := TX8) (N := 4) rfl (by decide) rfl (Nat.le_of_ble_eq_true rfl) dX3_checkLine_118 ⟨Nat.zero_le _, Nat.zero_le _⟩ rfl) (fun σ5 hw => ?_)
    refine zpick [1, 0] (lv' := [(0, .ref (za Y t0)), (3, .int vw0)]) rfl ?_
    exact BX3_checkLine_121 hG t0 vw0 σ5 hw h0
  · have hw := hw.2 c9
    refine z_aload_n hG dX3_checkLine_31 rfl 1 rfl ?_
    obtain ⟨j6, ej6, hw⟩ := hw
    refine z_getr (kq := 7) hG f_X3_28 h0 rfl ej6 rfl (by decide) dX3_checkLine_32 (fun hj6 => ?_)
    obtain ⟨j7, ej7, hw⟩ := hw
    refine z_getr (kq := 9) hG f_X3_202 hj6 rfl ej7 rfl (by decide) dX3_checkLine_35 (fun hj7 => ?_)
    refine z_astore (lv' := [(4, .ref (za Y j7)), (3, .int vw0), (0, .ref (za Y t0)), (1, .ref (za Y t1))]) hG dX3_checkLine_38 (by decide) rfl ?_
    refine z_iconst (v := 0) hG dX3_checkLine_40 (by decide) ?_
    refine z_istore (lv' := [(5, .int 0), (4, .ref (za Y j7)), (3, .int vw0), (0, .ref (za Y t0)), (1, .ref (za Y t1))]) hG dX3_checkLine_41 (by decide) rfl ?_
    obtain ⟨n8, hw⟩ := hw
    refine zpick [3, 4, 2, 1, 0] (lv' := [(0, .ref (za Y t0)), (1, .ref (za Y t1)), (3, .int vw0), (4, .ref (za Y j7)), (5, .int 0)]) rfl ?_
    exact BX3_checkLine_43 hG n8 t0 t1 vw0 j7 0 σ hw h0 h1 hj7
set_option maxRecDepth 100000 in
set_option maxHeartbeats 4000000 in
theorem MX3_checkLine (l : Launch) {E : zE} {Y : zY} {σ : zS} {t0 : Nat} {t1 : Nat} {v2 : Int32} (h0 : zT Y 3 t0) (h1 : zT Y 4 t1) {Q : zS → Prop} (hw : wX3_checkLine (zln Y) σ t0 t1 v2 Q) : ∀ sz, Met l yX3_checkLine (zw yX3_checkLine cX3_checkLine 6 none) rX3_checkLine (zPc E Y σ sz [.ref (za Y t0), .ref (za Y t1), .int v2]) (va_Qv Q (zB E Y sz) (zA Y sz)) 0 0 (zA Y sz) := by
  refine z_met (own := RX3) (Qc := fun sz => va_Qv Q (zB E Y sz) (zA Y sz)) (by decide +kernel) rfl (Nat.le_of_ble_eq_true rfl) ?_
  intro p e s m args below meth c hG hinit
  unfold wX3_checkLine at hw
  refine zlv (lv' := [(0, .ref (za Y t0)), (1, .ref (za Y t1)), (2, .int v2)]) rfl ?_
  refine z_iload_n hG dX3_checkLine_0 rfl 2 rfl ?_
  refine z_aload_n hG dX3_checkLine_1 rfl 0 rfl ?_
  obtain ⟨j1, ej1, hw⟩ := hw
  refine z_getr (kq := 7) hG f_X3_28 h0 rfl ej1 rfl (by decide) dX3_checkLine_2 (fun hj1 => ?_)
  refine z_geti hG f_X3_196 hj1 rfl dX3_checkLine_5 ?_
  refine z_aload_n hG dX3_checkLine_8 rfl 0 rfl ?_
  obtain ⟨j2, ej2, hw⟩ := hw
  refine z_getr (kq := 6) hG f_X3_55 h0 rfl ej2 rfl (by decide) dX3_checkLine_9 (fun hj2 => ?_)
  refine z_geti hG f_X3_177 hj2 rfl dX3_checkLine_12 ?_
  refine z_topi (fun x3 ex3 => ?_)
  have hw := hw x3 ex3
  obtain ⟨x4, ex4⟩ : ∃ y : Int32, y = gi σ j1 1 := ⟨_, rfl⟩
  refine zst (st' := [.int x3, .int x4, .int v2]) (by rw [ex4]) ?_
  have hw := hw x4 ex4
  refine z_calli hG (z_runSN (As := [.int x4, .int x3]) (st := [.int v2]) hG k_X3_199 k_X3_199s (MX11_checkPosition l hw) ⟨(Nat.le_of_ble_eq_true rfl), (Nat.le_of_ble_eq_true rfl)⟩ rfl (Nat.le_of_ble_eq_true rfl) dX3_checkLine_15 ⟨Nat.zero_le _, Nat.zero_le _⟩ rfl) (fun r6 σ5 hw => ?_)
  refine z_icmp_ne (tgt := 25) hG dX3_checkLine_18 (by decide) (fun c7 => ?_) (fun c7 => ?_)
  · have hw := hw.2 c7
    refine z_iconst (v := 0) hG dX3_checkLine_25 (by decide) ?_
    refine zpick [0, 1] (lv' := [(0, .ref (za Y t0)), (1, .ref (za Y t1))]) rfl ?_
    exact BX3_checkLine_26 hG t0 t1 0 σ5 hw h0 h1
  · have hw := hw.1 c7
    refine z_iconst (v := 1) hG dX3_checkLine_21 (by decide) ?_
    refine z_goto (tgt := 26) hG dX3_checkLine_22 (by decide) ?_
    refine zpick [0, 1] (lv' := [(0, .ref (za Y t0)), (1, .ref (za Y t1))]) rfl ?_
    exact BX3_checkLine_26 hG t0 t1 1 σ5 hw h0 h1
-- TypeWheelTelegraph$Receiver.take(I)V
def wX7_take_45 (ln : Nat → Nat) (Q : zS → Prop) (t0 : Nat) (tw0 : Nat) (vw1 : Int32) (vw2 : Int32) (σ : zS) : Prop := wX11_characterOf ln σ vw1 vw2 (fun r2 σ1 => wX9_add ln σ1 tw0 r2 (fun σ3 => ∀ x4 : Int32, x4 = (gi σ3 t0 1) + 1 → ∀ σ5 : zS, σ5 = si σ3 t0 1 x4 → Q σ5))
def wX7_take (ln : Nat → Nat) (σ : zS) (t0 : Nat) (v1 : Int32) (Q : zS → Prop) : Prop := ((v1 = (gi σ t0 2) → ∀ σ7 : zS, σ7 = si σ t0 3 1 → Q σ7) ∧ (¬ v1 = (gi σ t0 2) → ((2 ≤ v1 → ∃ j1 : Nat, gr σ t0 0 = some j1 ∧ (((gi σ t0 2) = 1 → wX7_take_45 ln Q t0 j1 v1 1 σ) ∧ (¬ (gi σ t0 2) = 1 → wX7_take_45 ln Q t0 j1 v1 0 σ))) ∧ (¬ 2 ≤ v1 → ∀ σ3 : zS, σ3 = si σ t0 2 v1 → ∀ x4 : Int32, x4 = (gi σ3 t0 1) + 1 → ∀ σ5 : zS, σ5 = si σ3 t0 1 x4 → Q σ5))))
abbrev rX7_take : Room := { frames := 5, cells := 0, slots := 0, locals := 107 }
set_option maxRecDepth 100000 in
set_option maxHeartbeats 4000000 in
theorem BX7_take_45 {l : Launch} {E : zE} {Y : zY} {p : Program} {e : Env} {s : State} {m : MethodId} {args : Array Value} {below : List Frame} {meth : Method} {c : Code} (hG : zG E p l s m args meth c cX7_take 2 RX7 none (zA Y s.heap.size)) {Q : zS → Prop} : ∀ (t0 : Nat) (tw0 : Nat) (vw1 : Int32) (vw2 : Int32) (σ : zS), wX7_take_45 (zln Y) Q t0 tw0 vw1 vw2 σ → zT Y 7 t0 → zT Y 9 tw0 → WW E Y σ p l e rX7_take s m args below meth c (zA Y s.heap.size) 2 0 0 (MQ below (va_Qv Q (zB E Y s.heap.size) (zA Y s.heap.size)) args s 0 0 (zA Y s.heap.size)) [(0, .ref (za Y t0))] 45 [.int vw2, .int vw1, .ref (za Y tw0)] := by
  intro t0 tw0 vw1 vw2 σ hw h0 hw0
  unfold wX7_take_45 at hw
  refine z_calli hG (z_runSN (As := [.int vw1, .int vw2]) (st := [.ref (za Y tw0)]) hG k_X7_38 k_X7_38s (MX11_characterOf l hw) ⟨(Nat.le_of_ble_eq_true rfl), (Nat.le_of_ble_eq_true rfl)⟩ rfl (Nat.le_of_ble_eq_true rfl) dX7_take_45 ⟨Nat.zero_le _, Nat.zero_le _⟩ rfl) (fun r2 σ1 hw => ?_)
  refine z_callv hG (z_runV (As := [.int r2]) (st := []) hG k_X7_42 (MX9_add l hw0 hw) ⟨(Nat.le_of_ble_eq_true rfl), (Nat.le_of_ble_eq_true rfl)⟩ hw0 (T := TX9) (N := 2) rfl (by decide) rfl (Nat.le_of_ble_eq_true rfl) dX7_take_48 ⟨Nat.zero_le _, Nat.zero_le _⟩ rfl) (fun σ3 hw => ?_)
  refine z_aload_n hG dX7_take_51 rfl 0 rfl ?_
  refine z_dup hG dX7_take_52 rfl ?_
  refine z_geti hG f_X7_23 h0 rfl dX7_take_53 ?_
  refine z_iconst (v := 1) hG dX7_take_56 (by decide) ?_
  refine z_iadd hG dX7_take_57 ?_
  refine z_topi (fun x4 ex4 => ?_)
  have hw := hw x4 ex4
  refine z_puti hG f_X7_23 h0 rfl rfl (zN_int _) dX7_take_58 ?_
  refine z_topσ (fun σ5 eσ5 => ?_)
  have hw := hw σ5 eσ5
  exact z_vret hG rfl dX7_take_61 hw
set_option maxRecDepth 100000 in
set_option maxHeartbeats 4000000 in
theorem MX7_take (l : Launch) {E : zE} {Y : zY} {σ : zS} {t0 : Nat} {v1 : Int32} (h0 : zT Y 7 t0) {Q : zS → Prop} (hw : wX7_take (zln Y) σ t0 v1 Q) : ∀ sz, Met l yX7_take (zw yX7_take cX7_take 2 none) rX7_take (zPc E Y σ sz [.ref (za Y t0), .int v1]) (va_Qv Q (zB E Y sz) (zA Y sz)) 0 0 (zA Y sz) := by
  refine z_met (own := RX7) (Qc := fun sz => va_Qv Q (zB E Y sz) (zA Y sz)) (by decide +kernel) rfl (Nat.le_of_ble_eq_true rfl) ?_
  intro p e s m args below meth c hG hinit
  unfold wX7_take at hw
  refine zlv (lv' := [(0, .ref (za Y t0)), (1, .int v1)]) rfl ?_
  refine z_iload_n hG dX7_take_0 rfl 1 rfl ?_
  refine z_aload_n hG dX7_take_1 rfl 0 rfl ?_
  refine z_geti hG f_X7_27 h0 rfl dX7_take_2 ?_
  refine z_icmp_ne (tgt := 14) hG dX7_take_5 (by decide) (fun c8 => ?_) (fun c8 => ?_)
  · have hw := hw.2 c8
    refine z_iload_n hG dX7_take_14 rfl 1 rfl ?_
    refine z_iconst (v := 2) hG dX7_take_15 (by decide) ?_
    refine z_icmp_ge (tgt := 27) hG dX7_take_16 (by decide) (fun c6 => ?_) (fun c6 => ?_)
    · have hw := hw.1 c6
      refine z_aload_n hG dX7_take_27 rfl 0 rfl ?_
      obtain ⟨j1, ej1, hw⟩ := hw
      refine z_getr (kq := 9) hG f_X7_16 h0 rfl ej1 rfl (by decide) dX7_take_28 (fun hj1 => ?_)
      refine z_iload_n hG dX7_take_31 rfl 1 rfl ?_
      refine z_aload_n hG dX7_take_32 rfl 0 rfl ?_
      refine z_geti hG f_X7_27 h0 rfl dX7_take_33 ?_
      refine z_iconst (v := 1) hG dX7_take_36 (by decide) ?_
      refine z_icmp_ne (tgt := 44) hG dX7_take_37 (by decide) (fun c2 => ?_) (fun c2 => ?_)
      · have hw := hw.2 c2
        refine z_iconst (v := 0) hG dX7_take_44 (by decide) ?_
        refine zpick [0] (lv' := [(0, .ref (za Y t0))]) rfl ?_
        exact BX7_take_45 hG t0 j1 v1 0 σ hw h0 hj1
      · have hw := hw.1 c2
        refine z_iconst (v := 1) hG dX7_take_40 (by decide) ?_
        refine z_goto (tgt := 45) hG dX7_take_41 (by decide) ?_
        refine zpick [0] (lv' := [(0, .ref (za Y t0))]) rfl ?_
        exact BX7_take_45 hG t0 j1 v1 1 σ hw h0 hj1
    · have hw := hw.2 c6
      refine z_aload_n hG dX7_take_19 rfl 0 rfl ?_
      refine z_iload_n hG dX7_take_20 rfl 1 rfl ?_
      refine z_puti hG f_X7_27 h0 rfl rfl (zN_int _) dX7_take_21 ?_
      refine z_topσ (fun σ3 eσ3 => ?_)
      have hw := hw σ3 eσ3
      refine z_goto (tgt := 51) hG dX7_take_24 (by decide) ?_
      refine z_aload_n hG dX7_take_51 rfl 0 rfl ?_
      refine z_dup hG dX7_take_52 rfl ?_
      refine z_geti hG f_X7_23 h0 rfl dX7_take_53 ?_
      refine z_iconst (v := 1) hG dX7_take_56 (by decide) ?_
      refine z_iadd hG dX7_take_57 ?_
      refine z_topi (fun x4 ex4 => ?_)
      have hw := hw x4 ex4
      refine z_puti hG f_X7_23 h0 rfl rfl (zN_int _) dX7_take_58 ?_
      refine z_topσ (fun σ5 eσ5 => ?_)
      have hw := hw σ5 eσ5
      exact z_vret hG rfl dX7_take_61 hw
  · have hw := hw.1 c8
    refine z_aload_n hG dX7_take_8 rfl 0 rfl ?_
    refine z_iconst (v := 1) hG dX7_take_9 (by decide) ?_
    refine z_puti hG f_X7_30 h0 rfl rfl (zN_b (by decide)) dX7_take_10 ?_
    refine z_topσ (fun σ7 eσ7 => ?_)
    have hw := hw σ7 eσ7
    exact z_vret hG rfl dX7_take_13 hw
-- TypeWheelTelegraph$Machine.takePulse(I)V
def wX3_takePulse_50 (ln : Nat → Nat) (Q : zS → Prop) (t0 : Nat) (t2 : Nat) (v3 : Int32) (σ : zS) : Prop := ∃ j1 : Nat, gr σ t0 13 = some j1 ∧ (((gi σ j1 3) = 0 → ∃ j2 : Nat, gr σ t0 13 = some j2 ∧ wX7_take ln σ j2 v3 (fun σ3 => Q σ3)) ∧ (¬ (gi σ j1 3) = 0 → wX3_checkLine ln σ t0 t2 v3 (fun σ4 => Q σ4)))
def wX3_takePulse (ln : Nat → Nat) (σ : zS) (t0 : Nat) (v1 : Int32) (Q : zS → Prop) : Prop := ∀ x1 : Int32, x1 = 1 - (gi σ t0 3) → wX3_office ln σ t0 x1 (fun r3 σ2 => ∀ x4 : Int32, x4 = gi σ2 t0 1 → ∀ σ5 : zS, σ5 = si σ2 t0 8 x4 → ∃ j6 : Nat, gr σ5 t0 0 = some j6 ∧ ∀ x7 : Int32, x7 = gi σ5 j6 0 → ∀ x8 : Int32, x8 = gi σ5 t0 2 → wX4_print ln σ5 r3 x8 x7 (fun r10 σ9 => ((r10 = v1 → wX3_takePulse_50 ln Q t0 r3 r10 σ9) ∧ (¬ r10 = v1 → ∀ x11 : Int32, x11 = (gi σ9 r3 4) + 1 → ∀ σ12 : zS, σ12 = si σ9 r3 4 x11 → wX3_takePulse_50 ln Q t0 r3 r10 σ12))))
abbrev rX3_takePulse : Room := { frames := 6, cells := 0, slots := 0, locals := 128 }
set_option maxRecDepth 100000 in
set_option maxHeartbeats 4000000 in
theorem BX3_takePulse_50 {l : Launch} {E : zE} {Y : zY} {p : Program} {e : Env} {s : State} {m : MethodId} {args : Array Value} {below : List Frame} {meth : Method} {c : Code} (hG : zG E p l s m args meth c cX3_takePulse 4 RX3 none (zA Y s.heap.size)) {Q : zS → Prop} : ∀ (t0 : Nat) (t2 : Nat) (v3 : Int32) (σ : zS), wX3_takePulse_50 (zln Y) Q t0 t2 v3 σ → zT Y 3 t0 → zT Y 4 t2 → WW E Y σ p l e rX3_takePulse s m args below meth c (zA Y s.heap.size) 4 0 0 (MQ below (va_Qv Q (zB E Y s.heap.size) (zA Y s.heap.size)) args s 0 0 (zA Y s.heap.size)) [(0, .ref (za Y t0)), (2, .ref (za Y t2)), (3, .int v3)] 50 [] := by
  intro t0 t2 v3 σ hw h0 h2
  unfold wX3_takePulse_50 at hw
  refine z_aload_n hG dX3_takePulse_50 rfl 0 rfl ?_
  obtain ⟨j1, ej1, hw⟩ := hw
  refine z_getr (kq := 7) hG f_X3_28 h0 rfl ej1 rfl (by decide) dX3_takePulse_51 (fun hj1 => ?_)
  refine z_geti hG f_X3_186 hj1 rfl dX3_takePulse_54 ?_
  refine z_if_eq (tgt := 69) hG dX3_takePulse_57 (by decide) (fun c5 => ?_) (fun c5 => ?_)
  · have hw := hw.1 c5
    refine z_aload_n hG dX3_takePulse_69 rfl 0 rfl ?_
    obtain ⟨j2, ej2, hw⟩ := hw
    refine z_getr (kq := 7) hG f_X3_28 h0 rfl ej2 rfl (by decide) dX3_takePulse_70 (fun hj2 => ?_)
    refine z_iload_n hG dX3_takePulse_73 rfl 2 rfl ?_
    refine z_callv hG (z_runV (As := [.int v3]) (st := []) hG k_X3_193 (MX7_take l hj2 hw) ⟨(Nat.le_of_ble_eq_true rfl), (Nat.le_of_ble_eq_true rfl)⟩ hj2 (T := TX7) (N := 4) rfl (by decide) rfl (Nat.le_of_ble_eq_true rfl) dX3_takePulse_74 ⟨Nat.zero_le _, Nat.zero_le _⟩ rfl) (fun σ3 hw => ?_)
    exact z_vret hG rfl dX3_takePulse_77 hw
  · have hw := hw.2 c5
    refine z_aload_n hG dX3_takePulse_60 rfl 0 rfl ?_
    refine z_aload_n hG dX3_takePulse_61 rfl 1 rfl ?_
    refine z_iload_n hG dX3_takePulse_62 rfl 2 rfl ?_
    refine z_callv hG (z_runV (As := [.ref (za Y t2), .int v3]) (st := []) hG k_X3_189 (MX3_checkLine l h0 h2 hw) ⟨(Nat.le_of_ble_eq_true rfl), (Nat.le_of_ble_eq_true rfl)⟩ h0 (T := TX3) (N := 17) rfl (by decide) rfl (Nat.le_of_ble_eq_true rfl) dX3_takePulse_63 ⟨Nat.zero_le _, Nat.zero_le _⟩ rfl) (fun σ4 hw => ?_)
    refine z_goto (tgt := 77) hG dX3_takePulse_66 (by decide) ?_
    exact z_vret hG rfl dX3_takePulse_77 hw
set_option maxRecDepth 100000 in
set_option maxHeartbeats 4000000 in
theorem MX3_takePulse (l : Launch) {E : zE} {Y : zY} {σ : zS} {t0 : Nat} {v1 : Int32} (h0 : zT Y 3 t0) {Q : zS → Prop} (hw : wX3_takePulse (zln Y) σ t0 v1 Q) : ∀ sz, Met l yX3_takePulse (zw yX3_takePulse cX3_takePulse 4 none) rX3_takePulse (zPc E Y σ sz [.ref (za Y t0), .int v1]) (va_Qv Q (zB E Y sz) (zA Y sz)) 0 0 (zA Y sz) := by
  refine z_met (own := RX3) (Qc := fun sz => va_Qv Q (zB E Y sz) (zA Y sz)) (by decide +kernel) rfl (Nat.le_of_ble_eq_true rfl) ?_
  intro p e s m args below meth c hG hinit
  unfold wX3_takePulse at hw
  refine zlv (lv' := [(0, .ref (za Y t0)), (1, .int v1)]) rfl ?_
  refine z_aload_n hG dX3_takePulse_0 rfl 0 rfl ?_
  refine z_iconst (v := 1) hG dX3_takePulse_1 (by decide) ?_
  refine z_aload_n hG dX3_takePulse_2 rfl 0 rfl ?_
  refine z_geti hG f_X3_9 h0 rfl dX3_takePulse_3 ?_
  refine z_isub hG dX3_takePulse_6 ?_
  refine z_topi (fun x1 ex1 => ?_)
  have hw := hw x1 ex1
  refine z_callr hG (z_runV (As := [.int x1]) (st := []) hG k_X3_170 (MX3_office l h0 hw) ⟨(Nat.le_of_ble_eq_true rfl), (Nat.le_of_ble_eq_true rfl)⟩ h0 (T := TX3) (N := 17) rfl (by decide) rfl (Nat.le_of_ble_eq_true rfl) dX3_takePulse_7 ⟨Nat.zero_le _, Nat.zero_le _⟩ rfl) (fun r3 σ2 hr3 hw => ?_)
  refine z_astore_n (lv' := [(2, .ref (za Y r3)), (0, .ref (za Y t0)), (1, .int v1)]) hG dX3_takePulse_10 rfl (by decide) rfl ?_
  refine z_aload_n hG dX3_takePulse_11 rfl 1 rfl ?_
  refine z_aload_n hG dX3_takePulse_12 rfl 1 rfl ?_
  refine z_geti hG f_X3_59 h0 rfl dX3_takePulse_13 ?_
  refine z_topi (fun x4 ex4 => ?_)
  have hw := hw x4 ex4
  refine z_puti hG f_X3_90 h0 rfl rfl (zN_int _) dX3_takePulse_16 ?_
  refine z_topσ (fun σ5 eσ5 => ?_)
  have hw := hw σ5 eσ5
  refine z_aload_n hG dX3_takePulse_19 rfl 0 rfl ?_
  refine z_aload_n hG dX3_takePulse_20 rfl 1 rfl ?_
  refine z_geti hG f_X3_67 h0 rfl dX3_takePulse_21 ?_
  refine z_aload_n hG dX3_takePulse_24 rfl 1 rfl ?_
  obtain ⟨j6, ej6, hw⟩ := hw
  refine z_getr (kq := 6) hG f_X3_55 h0 rfl ej6 rfl (by decide) dX3_takePulse_25 (fun hj6 => ?_)
  refine z_geti hG f_X3_177 hj6 rfl dX3_takePulse_28 ?_
  refine z_topi (fun x7 ex7 => ?_)
  have hw := hw x7 ex7
  obtain ⟨x8, ex8⟩ : ∃ y : Int32, y = gi σ5 t0 2 := ⟨_, rfl⟩
  refine zst (st' := [.int x7, .int x8, .ref (za Y r3)]) (by rw [ex8]) ?_
  have hw := hw x8 ex8
  refine z_calli hG (z_runV (As := [.int x8, .int x7]) (st := []) hG k_X3_180 (MX4_print l hr3 hw) ⟨(Nat.le_of_ble_eq_true rfl), (Nat.le_of_ble_eq_true rfl)⟩ hr3 (T := TX4) (N := 8) rfl (by decide) rfl (Nat.le_of_ble_eq_true rfl) dX3_takePulse_31 ⟨Nat.zero_le _, Nat.zero_le _⟩ rfl) (fun r10 σ9 hw => ?_)
  refine z_istore_n (lv' := [(3, .int r10), (2, .ref (za Y r3)), (0, .ref (za Y t0)), (1, .int v1)]) hG dX3_takePulse_34 rfl (by decide) rfl ?_
  refine z_iload_n hG dX3_takePulse_35 rfl 0 rfl ?_
  refine z_iload_n hG dX3_takePulse_36 rfl 3 rfl ?_
  refine z_icmp_eq (tgt := 50) hG dX3_takePulse_37 (by decide) (fun c13 => ?_) (fun c13 => ?_)
  · have hw := hw.1 c13
    refine zpick [2, 1, 0] (lv' := [(0, .ref (za Y t0)), (2, .ref (za Y r3)), (3, .int r10)]) rfl ?_
    exact BX3_takePulse_50 hG t0 r3 r10 σ9 hw h0 hr3
  · have hw := hw.2 c13
    refine z_aload_n hG dX3_takePulse_40 rfl 1 rfl ?_
    refine z_dup hG dX3_takePulse_41 rfl ?_
    refine z_geti hG f_X3_183 hr3 rfl dX3_takePulse_42 ?_
    refine z_iconst (v := 1) hG dX3_takePulse_45 (by decide) ?_
    refine z_iadd hG dX3_takePulse_46 ?_
    refine z_topi (fun x11 ex11 => ?_)
    have hw := hw x11 ex11
    refine z_puti hG f_X3_183 hr3 rfl rfl (zN_int _) dX3_takePulse_47 ?_
    refine z_topσ (fun σ12 eσ12 => ?_)
    have hw := hw σ12 eσ12
    refine zpick [2, 1, 0] (lv' := [(0, .ref (za Y t0)), (2, .ref (za Y r3)), (3, .int r10)]) rfl ?_
    exact BX3_takePulse_50 hG t0 r3 r10 σ12 hw h0 hr3
-- TypeWheelTelegraph$Machine.endLine(Z)V
def wX3_endLine_84 (ln : Nat → Nat) (Q : zS → Prop) (t0 : Nat) (t2 : Nat) (σ : zS) : Prop := ∀ x1 : Int32, x1 = (gi σ t2 2) + 1 → ∀ σ2 : zS, σ2 = si σ t2 2 x1 → ∀ σ3 : zS, σ3 = si σ2 t0 7 0 → ∃ j4 : Nat, gr σ3 t0 0 = some j4 ∧ ∀ x5 : Int32, x5 = gi σ3 t0 3 → wX6_desk ln σ3 j4 x5 (fun r7 σ6 => (((gi σ3 t2 2) < (gi σ6 r7 2) → Q σ6) ∧ (¬ (gi σ3 t2 2) < (gi σ6 r7 2) → ∃ j8 : Nat, gr σ6 t0 15 = some j8 ∧ ∀ x9 : Int32, x9 = gi σ6 t0 3 → ∀ x10 : Int32, x10 = gi σ6 t0 1 → wX8_add ln σ6 j8 x10 6 x9 (fun σ11 => wX3_endTransmission ln σ11 t0 (fun σ12 => Q σ12)))))
def wX3_endLine_64 (ln : Nat → Nat) (Q : zS → Prop) (t0 : Nat) (v1 : Int32) (t2 : Nat) (σ : zS) : Prop := ((v1 = 0 → ∃ j1 : Nat, gr σ t0 15 = some j1 ∧ ∀ x2 : Int32, x2 = gi σ t2 2 → ∀ x3 : Int32, x3 = gi σ t0 1 → wX8_add ln σ j1 x3 4 x2 (fun σ4 => wX3_endLine_84 ln Q t0 t2 σ4)) ∧ (¬ v1 = 0 → wX3_endLine_84 ln Q t0 t2 σ))
def wX3_endLine (ln : Nat → Nat) (σ : zS) (t0 : Nat) (v1 : Int32) (Q : zS → Prop) : Prop := ∀ x1 : Int32, x1 = gi σ t0 3 → wX3_office ln σ t0 x1 (fun r3 σ2 => ∀ σ4 : zS, σ4 = si σ2 t0 4 0 → ∀ σ5 : zS, σ5 = si σ4 t0 6 0 → ((v1 = 0 → ∃ j6 : Nat, gr σ5 t0 0 = some j6 ∧ (((gi σ5 j6 4) ≤ (gi σ5 t0 7) → wX3_endLine_64 ln Q t0 v1 r3 σ5) ∧ (¬ (gi σ5 j6 4) ≤ (gi σ5 t0 7) → ∀ x7 : Int32, x7 = (gi σ5 t0 7) + 1 → ∀ σ8 : zS, σ8 = si σ5 t0 7 x7 → ∃ j9 : Nat, gr σ8 t0 15 = some j9 ∧ ∀ x10 : Int32, x10 = gi σ8 r3 2 → ∀ x11 : Int32, x11 = gi σ8 t0 1 → wX8_add ln σ8 j9 x11 3 x10 (fun σ12 => Q σ12)))) ∧ (¬ v1 = 0 → wX3_endLine_64 ln Q t0 v1 r3 σ5)))
abbrev rX3_endLine : Room := { frames := 3, cells := 0, slots := 0, locals := 60 }
set_option maxRecDepth 100000 in
set_option maxHeartbeats 4000000 in
theorem BX3_endLine_84 {l : Launch} {E : zE} {Y : zY} {p : Program} {e : Env} {s : State} {m : MethodId} {args : Array Value} {below : List Frame} {meth : Method} {c : Code} (hG : zG E p l s m args meth c cX3_endLine 3 RX3 none (zA Y s.heap.size)) {Q : zS → Prop} : ∀ (t0 : Nat) (t2 : Nat) (σ : zS), wX3_endLine_84 (zln Y) Q t0 t2 σ → zT Y 3 t0 → zT Y 4 t2 → WW E Y σ p l e rX3_endLine s m args below meth c (zA Y s.heap.size) 3 0 0 (MQ below (va_Qv Q (zB E Y s.heap.size) (zA Y s.heap.size)) args s 0 0 (zA Y s.heap.size)) [(0, .ref (za Y t0)), (2, .ref (za Y t2))] 84 [] := by
  intro t0 t2 σ hw h0 h2
  unfold wX3_endLine_84 at hw
  refine z_aload_n hG dX3_endLine_84 rfl 1 rfl ?_
  refine z_dup hG dX3_endLine_85 rfl ?_
  refine z_geti hG f_X3_174 h2 rfl dX3_endLine_86 ?_
  refine z_iconst (v := 1) hG dX3_endLine_89 (by decide) ?_
  refine z_iadd hG dX3_endLine_90 ?_
  refine z_topi (fun x1 ex1 => ?_)
  have hw := hw x1 ex1
  refine z_puti hG f_X3_174 h2 rfl rfl (zN_int _) dX3_endLine_91 ?_
  refine z_topσ (fun σ2 eσ2 => ?_)
  have hw := hw σ2 eσ2
  refine z_aload_n hG dX3_endLine_94 rfl 0 rfl ?_
  refine z_iconst (v := 0) hG dX3_endLine_95 (by decide) ?_
  refine z_puti hG f_X3_106 h0 rfl rfl (zN_int _) dX3_endLine_96 ?_
  refine z_topσ (fun σ3 eσ3 => ?_)
  have hw := hw σ3 eσ3
  refine z_aload_n hG dX3_endLine_99 rfl 1 rfl ?_
  refine z_geti hG f_X3_174 h2 rfl dX3_endLine_100 ?_
  refine z_aload_n hG dX3_endLine_103 rfl 0 rfl ?_
  obtain ⟨j4, ej4, hw⟩ := hw
  refine z_getr (kq := 6) hG f_X3_55 h0 rfl ej4 rfl (by decide) dX3_endLine_104 (fun hj4 => ?_)
  refine z_aload_n hG dX3_endLine_107 rfl 0 rfl ?_
  refine z_geti hG f_X3_9 h0 rfl dX3_endLine_108 ?_
  refine z_topi (fun x5 ex5 => ?_)
  have hw := hw x5 ex5
  refine z_callr hG (z_runV (As := [.int x5]) (st := [.int (gi σ3 t2 2)]) hG k_X3_230 (MX6_desk l hj4 hw) ⟨(Nat.le_of_ble_eq_true rfl), (Nat.le_of_ble_eq_true rfl)⟩ hj4 (T := TX6) (N := 8) rfl (by decide) rfl (Nat.le_of_ble_eq_true rfl) dX3_endLine_111 ⟨Nat.zero_le _, Nat.zero_le _⟩ rfl) (fun r7 σ6 hr7 hw => ?_)
  refine z_geti hG f_X3_247 hr7 rfl dX3_endLine_114 ?_
  refine z_icmp_lt (tgt := 141) hG dX3_endLine_117 (by decide) (fun c13 => ?_) (fun c13 => ?_)
  · have hw := hw.1 c13
    exact z_vret hG rfl dX3_endLine_141 hw
  · have hw := hw.2 c13
    refine z_aload_n hG dX3_endLine_120 rfl 0 rfl ?_
    obtain ⟨j8, ej8, hw⟩ := hw
    refine z_getr (kq := 8) hG f_X3_41 h0 rfl ej8 rfl (by decide) dX3_endLine_121 (fun hj8 => ?_)
    refine z_aload_n hG dX3_endLine_124 rfl 0 rfl ?_
    refine z_geti hG f_X3_59 h0 rfl dX3_endLine_125 ?_
    refine z_bipush (v := 6) hG dX3_endLine_128 (by decide) ?_
    refine z_aload_n hG dX3_endLine_130 rfl 0 rfl ?_
    refine z_geti hG f_X3_9 h0 rfl dX3_endLine_131 ?_
    refine z_topi (fun x9 ex9 => ?_)
    have hw := hw x9 ex9
    obtain ⟨x10, ex10⟩ : ∃ y : Int32, y = gi σ6 t0 1 := ⟨_, rfl⟩
    refine zst (st' := [.int x9, .int 6, .int x10, .ref (za Y j8)]) (by rw [ex10]) ?_
    have hw := hw x10 ex10
    refine z_callv hG (z_runV (As := [.int x10, .int 6, .int x9]) (st := []) hG k_X3_122 (MX8_add l hj8 hw) ⟨(Nat.le_of_ble_eq_true rfl), (Nat.le_of_ble_eq_true rfl)⟩ hj8 (T := TX8) (N := 4) rfl (by decide) rfl (Nat.le_of_ble_eq_true rfl) dX3_endLine_134 ⟨Nat.zero_le _, Nat.zero_le _⟩ rfl) (fun σ11 hw => ?_)
    refine z_aload_n hG dX3_endLine_137 rfl 0 rfl ?_
    refine z_callv hG (z_runV (As := []) (st := []) hG k_X3_93 (MX3_endTransmission l h0 hw) ⟨(Nat.le_of_ble_eq_true rfl), (Nat.le_of_ble_eq_true rfl)⟩ h0 (T := TX3) (N := 17) rfl (by decide) rfl (Nat.le_of_ble_eq_true rfl) dX3_endLine_138 ⟨Nat.zero_le _, Nat.zero_le _⟩ rfl) (fun σ12 hw => ?_)
    exact z_vret hG rfl dX3_endLine_141 hw
set_option maxRecDepth 100000 in
set_option maxHeartbeats 4000000 in
theorem BX3_endLine_64 {l : Launch} {E : zE} {Y : zY} {p : Program} {e : Env} {s : State} {m : MethodId} {args : Array Value} {below : List Frame} {meth : Method} {c : Code} (hG : zG E p l s m args meth c cX3_endLine 3 RX3 none (zA Y s.heap.size)) {Q : zS → Prop} : ∀ (t0 : Nat) (v1 : Int32) (t2 : Nat) (σ : zS), wX3_endLine_64 (zln Y) Q t0 v1 t2 σ → zT Y 3 t0 → zT Y 4 t2 → WW E Y σ p l e rX3_endLine s m args below meth c (zA Y s.heap.size) 3 0 0 (MQ below (va_Qv Q (zB E Y s.heap.size) (zA Y s.heap.size)) args s 0 0 (zA Y s.heap.size)) [(0, .ref (za Y t0)), (1, .int v1), (2, .ref (za Y t2))] 64 [] := by
  intro t0 v1 t2 σ hw h0 h2
  unfold wX3_endLine_64 at hw
  refine z_iload_n hG dX3_endLine_64 rfl 1 rfl ?_
  refine z_if_ne (tgt := 84) hG dX3_endLine_65 (by decide) (fun c5 => ?_) (fun c5 => ?_)
  · have hw := hw.2 c5
    refine zpick [0, 2] (lv' := [(0, .ref (za Y t0)), (2, .ref (za Y t2))]) rfl ?_
    exact BX3_endLine_84 hG t0 t2 σ hw h0 h2
  · have hw := hw.1 c5
    refine z_aload_n hG dX3_endLine_68 rfl 0 rfl ?_
    obtain ⟨j1, ej1, hw⟩ := hw
    refine z_getr (kq := 8) hG f_X3_41 h0 rfl ej1 rfl (by decide) dX3_endLine_69 (fun hj1 => ?_)
    refine z_aload_n hG dX3_endLine_72 rfl 0 rfl ?_
    refine z_geti hG f_X3_59 h0 rfl dX3_endLine_73 ?_
    refine z_iconst (v := 4) hG dX3_endLine_76 (by decide) ?_
    refine z_aload_n hG dX3_endLine_77 rfl 2 rfl ?_
    refine z_geti hG f_X3_174 h2 rfl dX3_endLine_78 ?_
    refine z_topi (fun x2 ex2 => ?_)
    have hw := hw x2 ex2
    obtain ⟨x3, ex3⟩ : ∃ y : Int32, y = gi σ t0 1 := ⟨_, rfl⟩
    refine zst (st' := [.int x2, .int 4, .int x3, .ref (za Y j1)]) (by rw [ex3]) ?_
    have hw := hw x3 ex3
    refine z_callv hG (z_runV (As := [.int x3, .int 4, .int x2]) (st := []) hG k_X3_122 (MX8_add l hj1 hw) ⟨(Nat.le_of_ble_eq_true rfl), (Nat.le_of_ble_eq_true rfl)⟩ hj1 (T := TX8) (N := 4) rfl (by decide) rfl (Nat.le_of_ble_eq_true rfl) dX3_endLine_81 ⟨Nat.zero_le _, Nat.zero_le _⟩ rfl) (fun σ4 hw => ?_)
    refine zpick [0, 2] (lv' := [(0, .ref (za Y t0)), (2, .ref (za Y t2))]) rfl ?_
    exact BX3_endLine_84 hG t0 t2 σ4 hw h0 h2
set_option maxRecDepth 100000 in
set_option maxHeartbeats 4000000 in
theorem MX3_endLine (l : Launch) {E : zE} {Y : zY} {σ : zS} {t0 : Nat} {v1 : Int32} (h0 : zT Y 3 t0) {Q : zS → Prop} (hw : wX3_endLine (zln Y) σ t0 v1 Q) : ∀ sz, Met l yX3_endLine (zw yX3_endLine cX3_endLine 3 none) rX3_endLine (zPc E Y σ sz [.ref (za Y t0), .int v1]) (va_Qv Q (zB E Y sz) (zA Y sz)) 0 0 (zA Y sz) := by
  refine z_met (own := RX3) (Qc := fun sz => va_Qv Q (zB E Y sz) (zA Y sz)) (by decide +kernel) rfl (Nat.le_of_ble_eq_true rfl) ?_
  intro p e s m args below meth c hG hinit
  unfold wX3_endLine at hw
  refine zlv (lv' := [(0, .ref (za Y t0)), (1, .int v1)]) rfl ?_
  refine z_aload_n hG dX3_endLine_0 rfl 0 rfl ?_
  refine z_aload_n hG dX3_endLine_1 rfl 0 rfl ?_
  refine z_geti hG f_X3_9 h0 rfl dX3_endLine_2 ?_
  refine z_topi (fun x1 ex1 => ?_)
  have hw := hw x1 ex1
  refine z_callr hG (z_runV (As := [.int x1]) (st := []) hG k_X3_170 (MX3_office l h0 hw) ⟨(Nat.le_of_ble_eq_true rfl), (Nat.le_of_ble_eq_true rfl)⟩ h0 (T := TX3) (N := 17) rfl (by decide) rfl (Nat.le_of_ble_eq_true rfl) dX3_endLine_5 ⟨Nat.zero_le _, Nat.zero_le _⟩ rfl) (fun r3 σ2 hr3 hw => ?_)
  refine z_astore_n (lv' := [(2, .ref (za Y r3)), (0, .ref (za Y t0)), (1, .int v1)]) hG dX3_endLine_8 rfl (by decide) rfl ?_
  refine z_aload_n hG dX3_endLine_9 rfl 1 rfl ?_
  refine z_iconst (v := 0) hG dX3_endLine_10 (by decide) ?_
  refine z_puti hG f_X3_96 h0 rfl rfl (zN_b (by decide)) dX3_endLine_11 ?_
  refine z_topσ (fun σ4 eσ4 => ?_)
  have hw := hw σ4 eσ4
  refine z_aload_n hG dX3_endLine_14 rfl 1 rfl ?_
  refine z_iconst (v := 0) hG dX3_endLine_15 (by decide) ?_
  refine z_puti hG f_X3_103 h0 rfl rfl (zN_int _) dX3_endLine_16 ?_
  refine z_topσ (fun σ5 eσ5 => ?_)
  have hw := hw σ5 eσ5
  refine z_iload_n hG dX3_endLine_19 rfl 2 rfl ?_
  refine z_if_ne (tgt := 64) hG dX3_endLine_20 (by decide) (fun c14 => ?_) (fun c14 => ?_)
  · have hw := hw.2 c14
    refine zpick [1, 2, 0] (lv' := [(0, .ref (za Y t0)), (1, .int v1), (2, .ref (za Y r3))]) rfl ?_
    exact BX3_endLine_64 hG t0 v1 r3 σ5 hw h0 hr3
  · have hw := hw.1 c14
    refine z_aload_n hG dX3_endLine_23 rfl 1 rfl ?_
    refine z_geti hG f_X3_106 h0 rfl dX3_endLine_24 ?_
    refine z_aload_n hG dX3_endLine_27 rfl 1 rfl ?_
    obtain ⟨j6, ej6, hw⟩ := hw
    refine z_getr (kq := 6) hG f_X3_55 h0 rfl ej6 rfl (by decide) dX3_endLine_28 (fun hj6 => ?_)
    refine z_geti hG f_X3_244 hj6 rfl dX3_endLine_31 ?_
    refine z_icmp_ge (tgt := 64) hG dX3_endLine_34 (by decide) (fun c13 => ?_) (fun c13 => ?_)
    · have hw := hw.1 c13
      refine zpick [1, 2, 0] (lv' := [(0, .ref (za Y t0)), (1, .int v1), (2, .ref (za Y r3))]) rfl ?_
      exact BX3_endLine_64 hG t0 v1 r3 σ5 hw h0 hr3
    · have hw := hw.2 c13
      refine z_aload_n hG dX3_endLine_37 rfl 1 rfl ?_
      refine z_dup hG dX3_endLine_38 rfl ?_
      refine z_geti hG f_X3_106 h0 rfl dX3_endLine_39 ?_
      refine z_iconst (v := 1) hG dX3_endLine_42 (by decide) ?_
      refine z_iadd hG dX3_endLine_43 ?_
      refine z_topi (fun x7 ex7 => ?_)
      have hw := hw x7 ex7
      refine z_puti hG f_X3_106 h0 rfl rfl (zN_int _) dX3_endLine_44 ?_
      refine z_topσ (fun σ8 eσ8 => ?_)
      have hw := hw σ8 eσ8
      refine z_aload_n hG dX3_endLine_47 rfl 1 rfl ?_
      obtain ⟨j9, ej9, hw⟩ := hw
      refine z_getr (kq := 8) hG f_X3_41 h0 rfl ej9 rfl (by decide) dX3_endLine_48 (fun hj9 => ?_)
      refine z_aload_n hG dX3_endLine_51 rfl 1 rfl ?_
      refine z_geti hG f_X3_59 h0 rfl dX3_endLine_52 ?_
      refine z_iconst (v := 3) hG dX3_endLine_55 (by decide) ?_
      refine z_aload_n hG dX3_endLine_56 rfl 0 rfl ?_
      refine z_geti hG f_X3_174 hr3 rfl dX3_endLine_57 ?_
      refine z_topi (fun x10 ex10 => ?_)
      have hw := hw x10 ex10
      obtain ⟨x11, ex11⟩ : ∃ y : Int32, y = gi σ8 t0 1 := ⟨_, rfl⟩
      refine zst (st' := [.int x10, .int 3, .int x11, .ref (za Y j9)]) (by rw [ex11]) ?_
      have hw := hw x11 ex11
      refine z_callv hG (z_runV (As := [.int x11, .int 3, .int x10]) (st := []) hG k_X3_122 (MX8_add l hj9 hw) ⟨(Nat.le_of_ble_eq_true rfl), (Nat.le_of_ble_eq_true rfl)⟩ hj9 (T := TX8) (N := 4) rfl (by decide) rfl (Nat.le_of_ble_eq_true rfl) dX3_endLine_60 ⟨Nat.zero_le _, Nat.zero_le _⟩ rfl) (fun σ12 hw => ?_)
      exact z_vret hG rfl dX3_endLine_63 hw
-- TypeWheelTelegraph$Machine.takeSignal(I)V
def wX3_takeSignal_53 (ln : Nat → Nat) (Q : zS → Prop) (tw0 : Nat) (vw1 : Int32) (σ : zS) : Prop := wX3_endLine ln σ tw0 vw1 (fun σ1 => Q σ1)
def wX3_takeSignal (ln : Nat → Nat) (σ : zS) (t0 : Nat) (v1 : Int32) (Q : zS → Prop) : Prop := ((v1 = 3 → ∃ j3 : Nat, gr σ t0 15 = some j3 ∧ ∀ x4 : Int32, x4 = gi σ t0 3 → wX3_office ln σ t0 x4 (fun r6 σ5 => ∀ x7 : Int32, x7 = gi σ5 r6 2 → ∀ x8 : Int32, x8 = gi σ t0 1 → wX8_add ln σ5 j3 x8 5 x7 (fun σ9 => wX3_endTransmission ln σ9 t0 (fun σ10 => Q σ10)))) ∧ (¬ v1 = 3 → (((gi σ t0 4) = 0 → Q σ) ∧ (¬ (gi σ t0 4) = 0 → ((v1 = 1 → wX3_takeSignal_53 ln Q t0 1 σ) ∧ (¬ v1 = 1 → wX3_takeSignal_53 ln Q t0 0 σ))))))
abbrev rX3_takeSignal : Room := { frames := 4, cells := 0, slots := 0, locals := 82 }
set_option maxRecDepth 100000 in
set_option maxHeartbeats 4000000 in
theorem BX3_takeSignal_53 {l : Launch} {E : zE} {Y : zY} {p : Program} {e : Env} {s : State} {m : MethodId} {args : Array Value} {below : List Frame} {meth : Method} {c : Code} (hG : zG E p l s m args meth c cX3_takeSignal 2 RX3 none (zA Y s.heap.size)) {Q : zS → Prop} : ∀ (tw0 : Nat) (vw1 : Int32) (σ : zS), wX3_takeSignal_53 (zln Y) Q tw0 vw1 σ → zT Y 3 tw0 → WW E Y σ p l e rX3_takeSignal s m args below meth c (zA Y s.heap.size) 2 0 0 (MQ below (va_Qv Q (zB E Y s.heap.size) (zA Y s.heap.size)) args s 0 0 (zA Y s.heap.size)) [] 53 [.int vw1, .ref (za Y tw0)] := by
  intro tw0 vw1 σ hw hw0
  unfold wX3_takeSignal_53 at hw
  refine z_callv hG (z_runV (As := [.int vw1]) (st := []) hG k_X3_160 (MX3_endLine l hw0 hw) ⟨(Nat.le_of_ble_eq_true rfl), (Nat.le_of_ble_eq_true rfl)⟩ hw0 (T := TX3) (N := 17) rfl (by decide) rfl (Nat.le_of_ble_eq_true rfl) dX3_takeSignal_53 ⟨Nat.zero_le _, Nat.zero_le _⟩ rfl) (fun σ1 hw => ?_)
  exact z_vret hG rfl dX3_takeSignal_56 hw
set_option maxRecDepth 100000 in
set_option maxHeartbeats 4000000 in
theorem MX3_takeSignal (l : Launch) {E : zE} {Y : zY} {σ : zS} {t0 : Nat} {v1 : Int32} (h0 : zT Y 3 t0) {Q : zS → Prop} (hw : wX3_takeSignal (zln Y) σ t0 v1 Q) : ∀ sz, Met l yX3_takeSignal (zw yX3_takeSignal cX3_takeSignal 2 none) rX3_takeSignal (zPc E Y σ sz [.ref (za Y t0), .int v1]) (va_Qv Q (zB E Y sz) (zA Y sz)) 0 0 (zA Y sz) := by
  refine z_met (own := RX3) (Qc := fun sz => va_Qv Q (zB E Y sz) (zA Y sz)) (by decide +kernel) rfl (Nat.le_of_ble_eq_true rfl) ?_
  intro p e s m args below meth c hG hinit
  unfold wX3_takeSignal at hw
  refine zlv (lv' := [(0, .ref (za Y t0)), (1, .int v1)]) rfl ?_
  refine z_iload_n hG dX3_takeSignal_0 rfl 1 rfl ?_
  refine z_iconst (v := 3) hG dX3_takeSignal_1 (by decide) ?_
  refine z_icmp_ne (tgt := 35) hG dX3_takeSignal_2 (by decide) (fun c11 => ?_) (fun c11 => ?_)
  · have hw := hw.2 c11
    refine z_aload_n hG dX3_takeSignal_35 rfl 0 rfl ?_
    refine z_geti hG f_X3_96 h0 rfl dX3_takeSignal_36 ?_
    refine z_if_eq (tgt := 56) hG dX3_takeSignal_39 (by decide) (fun c2 => ?_) (fun c2 => ?_)
    · have hw := hw.1 c2
      exact z_vret hG rfl dX3_takeSignal_56 hw
    · have hw := hw.2 c2
      refine z_aload_n hG dX3_takeSignal_42 rfl 0 rfl ?_
      refine z_iload_n hG dX3_takeSignal_43 rfl 1 rfl ?_
      refine z_iconst (v := 1) hG dX3_takeSignal_44 (by decide) ?_
      refine z_icmp_ne (tgt := 52) hG dX3_takeSignal_45 (by decide) (fun c1 => ?_) (fun c1 => ?_)
      · have hw := hw.2 c1
        refine z_iconst (v := 0) hG dX3_takeSignal_52 (by decide) ?_
        refine zpick [] (lv' := []) rfl ?_
        exact BX3_takeSignal_53 hG t0 0 σ hw h0
      · have hw := hw.1 c1
        refine z_iconst (v := 1) hG dX3_takeSignal_48 (by decide) ?_
        refine z_goto (tgt := 53) hG dX3_takeSignal_49 (by decide) ?_
        refine zpick [] (lv' := []) rfl ?_
        exact BX3_takeSignal_53 hG t0 1 σ hw h0
  · have hw := hw.1 c11
    refine z_aload_n hG dX3_takeSignal_5 rfl 0 rfl ?_
    obtain ⟨j3, ej3, hw⟩ := hw
    refine z_getr (kq := 8) hG f_X3_41 h0 rfl ej3 rfl (by decide) dX3_takeSignal_6 (fun hj3 => ?_)
    refine z_aload_n hG dX3_takeSignal_9 rfl 0 rfl ?_
    refine z_geti hG f_X3_59 h0 rfl dX3_takeSignal_10 ?_
    refine z_iconst (v := 5) hG dX3_takeSignal_13 (by decide) ?_
    refine z_aload_n hG dX3_takeSignal_14 rfl 0 rfl ?_
    refine z_aload_n hG dX3_takeSignal_15 rfl 0 rfl ?_
    refine z_geti hG f_X3_9 h0 rfl dX3_takeSignal_16 ?_
    refine z_topi (fun x4 ex4 => ?_)
    have hw := hw x4 ex4
    refine z_callr hG (z_runV (As := [.int x4]) (st := [.int 5, .int (gi σ t0 1), .ref (za Y j3)]) hG k_X3_170 (MX3_office l h0 hw) ⟨(Nat.le_of_ble_eq_true rfl), (Nat.le_of_ble_eq_true rfl)⟩ h0 (T := TX3) (N := 17) rfl (by decide) rfl (Nat.le_of_ble_eq_true rfl) dX3_takeSignal_19 ⟨Nat.zero_le _, Nat.zero_le _⟩ rfl) (fun r6 σ5 hr6 hw => ?_)
    refine z_geti hG f_X3_174 hr6 rfl dX3_takeSignal_22 ?_
    refine z_topi (fun x7 ex7 => ?_)
    have hw := hw x7 ex7
    obtain ⟨x8, ex8⟩ : ∃ y : Int32, y = gi σ t0 1 := ⟨_, rfl⟩
    refine zst (st' := [.int x7, .int 5, .int x8, .ref (za Y j3)]) (by rw [ex8]) ?_
    have hw := hw x8 ex8
    refine z_callv hG (z_runV (As := [.int x8, .int 5, .int x7]) (st := []) hG k_X3_122 (MX8_add l hj3 hw) ⟨(Nat.le_of_ble_eq_true rfl), (Nat.le_of_ble_eq_true rfl)⟩ hj3 (T := TX8) (N := 4) rfl (by decide) rfl (Nat.le_of_ble_eq_true rfl) dX3_takeSignal_25 ⟨Nat.zero_le _, Nat.zero_le _⟩ rfl) (fun σ9 hw => ?_)
    refine z_aload_n hG dX3_takeSignal_28 rfl 0 rfl ?_
    refine z_callv hG (z_runV (As := []) (st := []) hG k_X3_93 (MX3_endTransmission l h0 hw) ⟨(Nat.le_of_ble_eq_true rfl), (Nat.le_of_ble_eq_true rfl)⟩ h0 (T := TX3) (N := 17) rfl (by decide) rfl (Nat.le_of_ble_eq_true rfl) dX3_takeSignal_29 ⟨Nat.zero_le _, Nat.zero_le _⟩ rfl) (fun σ10 hw => ?_)
    refine z_goto (tgt := 56) hG dX3_takeSignal_32 (by decide) ?_
    exact z_vret hG rfl dX3_takeSignal_56 hw
-- TypeWheelTelegraph$Row.holds(I)Z
def wX9_holds_2 (ln : Nat → Nat) (Q : Int32 → zS → Prop) : Nat → Nat → Int32 → Int32 → zS → Prop
  | 0, _, _, _, _ => False
  | n + 1, t0, v1, v2, σ => (((gi σ t0 1) ≤ v2 → Q 0 σ) ∧ (¬ (gi σ t0 1) ≤ v2 → wX9_get ln σ t0 v2 (fun r2 σ1 => ((r2 = v1 → Q 1 σ1) ∧ (¬ r2 = v1 → ∀ x3 : Int32, x3 = v2 + 1 → (wX9_holds_2 ln Q n) t0 v1 x3 σ1)))))
def wX9_holds (ln : Nat → Nat) (σ : zS) (t0 : Nat) (v1 : Int32) (Q : Int32 → zS → Prop) : Prop := ∃ n1 : Nat, wX9_holds_2 ln Q n1 t0 v1 0 σ
abbrev rX9_holds : Room := { frames := 1, cells := 0, slots := 0, locals := 21 }
set_option maxRecDepth 100000 in
set_option maxHeartbeats 4000000 in
theorem BX9_holds_2 {l : Launch} {E : zE} {Y : zY} {p : Program} {e : Env} {s : State} {m : MethodId} {args : Array Value} {below : List Frame} {meth : Method} {c : Code} (hG : zG E p l s m args meth c cX9_holds 3 RX9 (some .boolean) (zA Y s.heap.size)) {Q : Int32 → zS → Prop} : ∀ (n : Nat) (t0 : Nat) (v1 : Int32) (v2 : Int32) (σ : zS), wX9_holds_2 (zln Y) Q n t0 v1 v2 σ → zT Y 9 t0 → WW E Y σ p l e rX9_holds s m args below meth c (zA Y s.heap.size) 3 0 0 (MQ below (va_Qi Q (zB E Y s.heap.size) (zA Y s.heap.size)) args s 0 0 (zA Y s.heap.size)) [(0, .ref (za Y t0)), (1, .int v1), (2, .int v2)] 2 [] := by
  intro n
  induction n with
  | zero => intro t0 v1 v2 σ hw
            exact hw.elim
  | succ n ih =>
    intro t0 v1 v2 σ hw h0
    rw [wX9_holds_2] at hw
    refine z_iload_n hG dX9_holds_2 rfl 2 rfl ?_
    refine z_aload_n hG dX9_holds_3 rfl 0 rfl ?_
    refine z_geti hG f_X9_21 h0 rfl dX9_holds_4 ?_
    refine z_icmp_ge (tgt := 27) hG dX9_holds_7 (by decide) (fun c5 => ?_) (fun c5 => ?_)
    · have hw := hw.1 c5
      refine z_iconst (v := 0) hG dX9_holds_27 (by decide) ?_
      exact z_iret hG rfl (by decide +kernel) dX9_holds_28 hw
    · have hw := hw.2 c5
      refine z_aload_n hG dX9_holds_10 rfl 0 rfl ?_
      refine z_iload_n hG dX9_holds_11 rfl 2 rfl ?_
      refine z_calli hG (z_runV (As := [.int v2]) (st := []) hG k_X9_25 (MX9_get l h0 hw) ⟨(Nat.le_of_ble_eq_true rfl), (Nat.le_of_ble_eq_true rfl)⟩ h0 (T := TX9) (N := 2) rfl (by decide) rfl (Nat.le_of_ble_eq_true rfl) dX9_holds_12 ⟨Nat.zero_le _, Nat.zero_le _⟩ rfl) (fun r2 σ1 hw => ?_)
      refine z_iload_n hG dX9_holds_15 rfl 1 rfl ?_
      refine z_icmp_ne (tgt := 21) hG dX9_holds_16 (by decide) (fun c4 => ?_) (fun c4 => ?_)
      · have hw := hw.2 c4
        obtain ⟨x3, ex3⟩ : ∃ y : Int32, y = v2 + 1 := ⟨_, rfl⟩
        have hw := hw x3 ex3
        refine z_iinc (v := x3) (lv' := [(2, .int x3), (0, .ref (za Y t0)), (1, .int v1)]) hG dX9_holds_21 2 rfl (by rw [ex3]; rfl) (by decide) rfl ?_
        refine z_goto (tgt := 2) hG dX9_holds_24 (by decide) ?_
        refine zpick [1, 2, 0] (lv' := [(0, .ref (za Y t0)), (1, .int v1), (2, .int x3)]) rfl ?_
        exact ih t0 v1 x3 σ1 hw h0
      · have hw := hw.1 c4
        refine z_iconst (v := 1) hG dX9_holds_19 (by decide) ?_
        exact z_iret hG rfl (by decide +kernel) dX9_holds_20 hw
set_option maxRecDepth 100000 in
set_option maxHeartbeats 4000000 in
theorem MX9_holds (l : Launch) {E : zE} {Y : zY} {σ : zS} {t0 : Nat} {v1 : Int32} (h0 : zT Y 9 t0) {Q : Int32 → zS → Prop} (hw : wX9_holds (zln Y) σ t0 v1 Q) : ∀ sz, Met l yX9_holds (zw yX9_holds cX9_holds 3 (some .boolean)) rX9_holds (zPc E Y σ sz [.ref (za Y t0), .int v1]) (va_Qi Q (zB E Y sz) (zA Y sz)) 0 0 (zA Y sz) := by
  refine z_met (own := RX9) (Qc := fun sz => va_Qi Q (zB E Y sz) (zA Y sz)) (by decide +kernel) rfl (Nat.le_of_ble_eq_true rfl) ?_
  intro p e s m args below meth c hG hinit
  unfold wX9_holds at hw
  refine zlv (lv' := [(0, .ref (za Y t0)), (1, .int v1)]) rfl ?_
  refine z_iconst (v := 0) hG dX9_holds_0 (by decide) ?_
  refine z_istore_n (lv' := [(2, .int 0), (0, .ref (za Y t0)), (1, .int v1)]) hG dX9_holds_1 rfl (by decide) rfl ?_
  obtain ⟨n1, hw⟩ := hw
  refine zpick [1, 2, 0] (lv' := [(0, .ref (za Y t0)), (1, .int v1), (2, .int 0)]) rfl ?_
  exact BX9_holds_2 hG n1 t0 v1 0 σ hw h0
-- TypeWheelTelegraph$Machine.sendPulse(I)V
def wX3_sendPulse (ln : Nat → Nat) (σ : zS) (t0 : Nat) (v1 : Int32) (Q : zS → Prop) : Prop := ∀ x1 : Int32, x1 = (gi σ t0 9) + 1 → ∀ σ2 : zS, σ2 = si σ t0 9 x1 → ∃ j3 : Nat, gr σ2 t0 16 = some j3 ∧ ∀ x4 : Int32, x4 = gi σ2 t0 9 → wX9_holds ln σ2 j3 x4 (fun r6 σ5 => ((r6 = 0 → ∃ j7 : Nat, gr σ5 t0 14 = some j7 ∧ ∃ j8 : Nat, gr σ5 t0 0 = some j8 ∧ ∀ x9 : Int32, x9 = (gi σ5 t0 1) + (gi σ5 j8 1) → wX8_add ln σ5 j7 x9 0 v1 (fun σ10 => Q σ10)) ∧ (¬ r6 = 0 → ∀ x11 : Int32, x11 = (gi σ5 t0 10) + 1 → ∀ σ12 : zS, σ12 = si σ5 t0 10 x11 → Q σ12)))
abbrev rX3_sendPulse : Room := { frames := 2, cells := 0, slots := 0, locals := 46 }
set_option maxRecDepth 100000 in
set_option maxHeartbeats 4000000 in
theorem MX3_sendPulse (l : Launch) {E : zE} {Y : zY} {σ : zS} {t0 : Nat} {v1 : Int32} (h0 : zT Y 3 t0) {Q : zS → Prop} (hw : wX3_sendPulse (zln Y) σ t0 v1 Q) : ∀ sz, Met l yX3_sendPulse (zw yX3_sendPulse cX3_sendPulse 2 none) rX3_sendPulse (zPc E Y σ sz [.ref (za Y t0), .int v1]) (va_Qv Q (zB E Y sz) (zA Y sz)) 0 0 (zA Y sz) := by
  refine z_met (own := RX3) (Qc := fun sz => va_Qv Q (zB E Y sz) (zA Y sz)) (by decide +kernel) rfl (Nat.le_of_ble_eq_true rfl) ?_
  intro p e s m args below meth c hG hinit
  unfold wX3_sendPulse at hw
  refine zlv (lv' := [(0, .ref (za Y t0)), (1, .int v1)]) rfl ?_
  refine z_aload_n hG dX3_sendPulse_0 rfl 0 rfl ?_
  refine z_dup hG dX3_sendPulse_1 rfl ?_
  refine z_geti hG f_X3_68 h0 rfl dX3_sendPulse_2 ?_
  refine z_iconst (v := 1) hG dX3_sendPulse_5 (by decide) ?_
  refine z_iadd hG dX3_sendPulse_6 ?_
  refine z_topi (fun x1 ex1 => ?_)
  have hw := hw x1 ex1
  refine z_puti hG f_X3_68 h0 rfl rfl (zN_int _) dX3_sendPulse_7 ?_
  refine z_topσ (fun σ2 eσ2 => ?_)
  have hw := hw σ2 eσ2
  refine z_aload_n hG dX3_sendPulse_10 rfl 0 rfl ?_
  obtain ⟨j3, ej3, hw⟩ := hw
  refine z_getr (kq := 9) hG f_X3_47 h0 rfl ej3 rfl (by decide) dX3_sendPulse_11 (fun hj3 => ?_)
  refine z_aload_n hG dX3_sendPulse_14 rfl 0 rfl ?_
  refine z_geti hG f_X3_68 h0 rfl dX3_sendPulse_15 ?_
  refine z_topi (fun x4 ex4 => ?_)
  have hw := hw x4 ex4
  refine z_calli hG (z_runV (As := [.int x4]) (st := []) hG k_X3_226 (MX9_holds l hj3 hw) ⟨(Nat.le_of_ble_eq_true rfl), (Nat.le_of_ble_eq_true rfl)⟩ hj3 (T := TX9) (N := 2) rfl (by decide) rfl (Nat.le_of_ble_eq_true rfl) dX3_sendPulse_18 ⟨Nat.zero_le _, Nat.zero_le _⟩ rfl) (fun r6 σ5 hw => ?_)
  refine z_if_eq (tgt := 37) hG dX3_sendPulse_21 (by decide) (fun c13 => ?_) (fun c13 => ?_)
  · have hw := hw.1 c13
    refine z_aload_n hG dX3_sendPulse_37 rfl 0 rfl ?_
    obtain ⟨j7, ej7, hw⟩ := hw
    refine z_getr (kq := 8) hG f_X3_37 h0 rfl ej7 rfl (by decide) dX3_sendPulse_38 (fun hj7 => ?_)
    refine z_aload_n hG dX3_sendPulse_41 rfl 0 rfl ?_
    refine z_geti hG f_X3_59 h0 rfl dX3_sendPulse_42 ?_
    refine z_aload_n hG dX3_sendPulse_45 rfl 0 rfl ?_
    obtain ⟨j8, ej8, hw⟩ := hw
    refine z_getr (kq := 6) hG f_X3_55 h0 rfl ej8 rfl (by decide) dX3_sendPulse_46 (fun hj8 => ?_)
    refine z_geti hG f_X3_119 hj8 rfl dX3_sendPulse_49 ?_
    refine z_iadd hG dX3_sendPulse_52 ?_
    refine z_iconst (v := 0) hG dX3_sendPulse_53 (by decide) ?_
    refine z_iload_n hG dX3_sendPulse_54 rfl 1 rfl ?_
    obtain ⟨x9, ex9⟩ : ∃ y : Int32, y = (gi σ5 t0 1) + (gi σ5 j8 1) := ⟨_, rfl⟩
    refine zst (st' := [.int v1, .int 0, .int x9, .ref (za Y j7)]) (by rw [ex9]) ?_
    have hw := hw x9 ex9
    refine z_callv hG (z_runV (As := [.int x9, .int 0, .int v1]) (st := []) hG k_X3_122 (MX8_add l hj7 hw) ⟨(Nat.le_of_ble_eq_true rfl), (Nat.le_of_ble_eq_true rfl)⟩ hj7 (T := TX8) (N := 4) rfl (by decide) rfl (Nat.le_of_ble_eq_true rfl) dX3_sendPulse_55 ⟨Nat.zero_le _, Nat.zero_le _⟩ rfl) (fun σ10 hw => ?_)
    exact z_vret hG rfl dX3_sendPulse_58 hw
  · have hw := hw.2 c13
    refine z_aload_n hG dX3_sendPulse_24 rfl 0 rfl ?_
    refine z_dup hG dX3_sendPulse_25 rfl ?_
    refine z_geti hG f_X3_71 h0 rfl dX3_sendPulse_26 ?_
    refine z_iconst (v := 1) hG dX3_sendPulse_29 (by decide) ?_
    refine z_iadd hG dX3_sendPulse_30 ?_
    refine z_topi (fun x11 ex11 => ?_)
    have hw := hw x11 ex11
    refine z_puti hG f_X3_71 h0 rfl rfl (zN_int _) dX3_sendPulse_31 ?_
    refine z_topσ (fun σ12 eσ12 => ?_)
    have hw := hw σ12 eσ12
    refine z_goto (tgt := 58) hG dX3_sendPulse_34 (by decide) ?_
    exact z_vret hG rfl dX3_sendPulse_58 hw
-- TypeWheelTelegraph$Machine.sendIfPassing()V
def wX3_sendIfPassing (ln : Nat → Nat) (σ : zS) (t0 : Nat) (Q : zS → Prop) : Prop := wX3_nextPosition ln σ t0 (fun r2 σ1 => ((r2 = (-1) → Q σ1) ∧ (¬ r2 = (-1) → ∀ x3 : Int32, x3 = gi σ1 t0 3 → wX3_office ln σ1 t0 x3 (fun r5 σ4 => ∃ j6 : Nat, gr σ4 t0 0 = some j6 ∧ wX6_circle ln σ4 j6 (fun r8 σ7 => ∀ x9 : Int32, x9 = (gi σ4 r5 0) - (1000 * r2) → wX11_modulo ln σ7 x9 r8 (fun r11 σ10 => ((r11 < (gi σ10 r5 1) → wX3_sendPulse ln σ10 t0 r2 (fun σ12 => ∀ x13 : Int32, x13 = (gi σ12 t0 6) + 1 → ∀ σ14 : zS, σ14 = si σ12 t0 6 x13 → wX3_nextPosition ln σ14 t0 (fun r16 σ15 => ((r16 = (-1) → ∀ σ17 : zS, σ17 = si σ15 t0 4 1 → ∃ j18 : Nat, gr σ17 t0 0 = some j18 ∧ ∃ j19 : Nat, gr σ17 t0 0 = some j19 ∧ ∀ x20 : Int32, x20 = ((gi σ17 t0 1) + (2 * (gi σ17 j18 1))) + (gi σ17 j19 3) → ∀ σ21 : zS, σ21 = si σ17 t0 5 x20 → Q σ21) ∧ (¬ r16 = (-1) → Q σ15))))) ∧ (¬ r11 < (gi σ10 r5 1) → Q σ10))))))))
abbrev rX3_sendIfPassing : Room := { frames := 3, cells := 0, slots := 0, locals := 67 }
set_option maxRecDepth 100000 in
set_option maxHeartbeats 4000000 in
theorem MX3_sendIfPassing (l : Launch) {E : zE} {Y : zY} {σ : zS} {t0 : Nat} (h0 : zT Y 3 t0) {Q : zS → Prop} (hw : wX3_sendIfPassing (zln Y) σ t0 Q) : ∀ sz, Met l yX3_sendIfPassing (zw yX3_sendIfPassing cX3_sendIfPassing 3 none) rX3_sendIfPassing (zPc E Y σ sz [.ref (za Y t0)]) (va_Qv Q (zB E Y sz) (zA Y sz)) 0 0 (zA Y sz) := by
  refine z_met (own := RX3) (Qc := fun sz => va_Qv Q (zB E Y sz) (zA Y sz)) (by decide +kernel) rfl (Nat.le_of_ble_eq_true rfl) ?_
  intro p e s m args below meth c hG hinit
  unfold wX3_sendIfPassing at hw
  refine zlv (lv' := [(0, .ref (za Y t0))]) rfl ?_
  refine z_aload_n hG dX3_sendIfPassing_0 rfl 0 rfl ?_
  refine z_calli hG (z_runV (As := []) (st := []) hG k_X3_214 (MX3_nextPosition l h0 hw) ⟨(Nat.le_of_ble_eq_true rfl), (Nat.le_of_ble_eq_true rfl)⟩ h0 (T := TX3) (N := 17) rfl (by decide) rfl (Nat.le_of_ble_eq_true rfl) dX3_sendIfPassing_1 ⟨Nat.zero_le _, Nat.zero_le _⟩ rfl) (fun r2 σ1 hw => ?_)
  refine z_istore_n (lv' := [(1, .int r2), (0, .ref (za Y t0))]) hG dX3_sendIfPassing_4 rfl (by decide) rfl ?_
  refine z_iload_n hG dX3_sendIfPassing_5 rfl 0 rfl ?_
  refine z_iconst (v := (-1)) hG dX3_sendIfPassing_6 (by decide) ?_
  refine z_icmp_ne (tgt := 11) hG dX3_sendIfPassing_7 (by decide) (fun c24 => ?_) (fun c24 => ?_)
  · have hw := hw.2 c24
    refine z_aload_n hG dX3_sendIfPassing_11 rfl 1 rfl ?_
    refine z_aload_n hG dX3_sendIfPassing_12 rfl 1 rfl ?_
    refine z_geti hG f_X3_9 h0 rfl dX3_sendIfPassing_13 ?_
    refine z_topi (fun x3 ex3 => ?_)
    have hw := hw x3 ex3
    refine z_callr hG (z_runV (As := [.int x3]) (st := []) hG k_X3_170 (MX3_office l h0 hw) ⟨(Nat.le_of_ble_eq_true rfl), (Nat.le_of_ble_eq_true rfl)⟩ h0 (T := TX3) (N := 17) rfl (by decide) rfl (Nat.le_of_ble_eq_true rfl) dX3_sendIfPassing_16 ⟨Nat.zero_le _, Nat.zero_le _⟩ rfl) (fun r5 σ4 hr5 hw => ?_)
    refine z_astore_n (lv' := [(2, .ref (za Y r5)), (1, .int r2), (0, .ref (za Y t0))]) hG dX3_sendIfPassing_19 rfl (by decide) rfl ?_
    refine z_aload_n hG dX3_sendIfPassing_20 rfl 0 rfl ?_
    refine z_geti hG f_X3_217 hr5 rfl dX3_sendIfPassing_21 ?_
    refine z_sipush (v := 1000) hG dX3_sendIfPassing_24 (by decide) ?_
    refine z_iload_n hG dX3_sendIfPassing_27 rfl 1 rfl ?_
    refine z_imul hG dX3_sendIfPassing_28 ?_
    refine z_isub hG dX3_sendIfPassing_29 ?_
    refine z_aload_n hG dX3_sendIfPassing_30 rfl 2 rfl ?_
    obtain ⟨j6, ej6, hw⟩ := hw
    refine z_getr (kq := 6) hG f_X3_55 h0 rfl ej6 rfl (by decide) dX3_sendIfPassing_31 (fun hj6 => ?_)
    refine z_calli hG (z_runV (As := []) (st := [.int ((gi σ4 r5 0) - (1000 * r2))]) hG k_X3_129 (MX6_circle l hj6 hw) ⟨(Nat.le_of_ble_eq_true rfl), (Nat.le_of_ble_eq_true rfl)⟩ hj6 (T := TX6) (N := 8) rfl (by decide) rfl (Nat.le_of_ble_eq_true rfl) dX3_sendIfPassing_34 ⟨Nat.zero_le _, Nat.zero_le _⟩ rfl) (fun r8 σ7 hw => ?_)
    obtain ⟨x9, ex9⟩ : ∃ y : Int32, y = (gi σ4 r5 0) - (1000 * r2) := ⟨_, rfl⟩
    refine zst (st' := [.int r8, .int x9]) (by rw [ex9]) ?_
    have hw := hw x9 ex9
    refine z_calli hG (z_runSN (As := [.int x9, .int r8]) (st := []) hG k_X3_220 k_X3_220s (MX11_modulo l hw) ⟨(Nat.le_of_ble_eq_true rfl), (Nat.le_of_ble_eq_true rfl)⟩ rfl (Nat.le_of_ble_eq_true rfl) dX3_sendIfPassing_37 ⟨Nat.zero_le _, Nat.zero_le _⟩ rfl) (fun r11 σ10 hw => ?_)
    refine z_aload_n hG dX3_sendIfPassing_40 rfl 0 rfl ?_
    refine z_geti hG f_X3_126 hr5 rfl dX3_sendIfPassing_41 ?_
    refine z_icmp_lt (tgt := 48) hG dX3_sendIfPassing_44 (by decide) (fun c23 => ?_) (fun c23 => ?_)
    · have hw := hw.1 c23
      refine z_aload_n hG dX3_sendIfPassing_48 rfl 2 rfl ?_
      refine z_iload_n hG dX3_sendIfPassing_49 rfl 1 rfl ?_
      refine z_callv hG (z_runV (As := [.int r2]) (st := []) hG k_X3_223 (MX3_sendPulse l h0 hw) ⟨(Nat.le_of_ble_eq_true rfl), (Nat.le_of_ble_eq_true rfl)⟩ h0 (T := TX3) (N := 17) rfl (by decide) rfl (Nat.le_of_ble_eq_true rfl) dX3_sendIfPassing_50 ⟨Nat.zero_le _, Nat.zero_le _⟩ rfl) (fun σ12 hw => ?_)
      refine z_aload_n hG dX3_sendIfPassing_53 rfl 2 rfl ?_
      refine z_dup hG dX3_sendIfPassing_54 rfl ?_
      refine z_geti hG f_X3_103 h0 rfl dX3_sendIfPassing_55 ?_
      refine z_iconst (v := 1) hG dX3_sendIfPassing_58 (by decide) ?_
      refine z_iadd hG dX3_sendIfPassing_59 ?_
      refine z_topi (fun x13 ex13 => ?_)
      have hw := hw x13 ex13
      refine z_puti hG f_X3_103 h0 rfl rfl (zN_int _) dX3_sendIfPassing_60 ?_
      refine z_topσ (fun σ14 eσ14 => ?_)
      have hw := hw σ14 eσ14
      refine z_aload_n hG dX3_sendIfPassing_63 rfl 2 rfl ?_
      refine z_calli hG (z_runV (As := []) (st := []) hG k_X3_214 (MX3_nextPosition l h0 hw) ⟨(Nat.le_of_ble_eq_true rfl), (Nat.le_of_ble_eq_true rfl)⟩ h0 (T := TX3) (N := 17) rfl (by decide) rfl (Nat.le_of_ble_eq_true rfl) dX3_sendIfPassing_64 ⟨Nat.zero_le _, Nat.zero_le _⟩ rfl) (fun r16 σ15 hw => ?_)
      refine z_iconst (v := (-1)) hG dX3_sendIfPassing_67 (by decide) ?_
      refine z_icmp_ne (tgt := 102) hG dX3_sendIfPassing_68 (by decide) (fun c22 => ?_) (fun c22 => ?_)
      · have hw := hw.2 c22
        exact z_vret hG rfl dX3_sendIfPassing_102 hw
      · have hw := hw.1 c22
        refine z_aload_n hG dX3_sendIfPassing_71 rfl 2 rfl ?_
        refine z_iconst (v := 1) hG dX3_sendIfPassing_72 (by decide) ?_
        refine z_puti hG f_X3_96 h0 rfl rfl (zN_b (by decide)) dX3_sendIfPassing_73 ?_
        refine z_topσ (fun σ17 eσ17 => ?_)
        have hw := hw σ17 eσ17
        refine z_aload_n hG dX3_sendIfPassing_76 rfl 2 rfl ?_
        refine z_aload_n hG dX3_sendIfPassing_77 rfl 2 rfl ?_
        refine z_geti hG f_X3_59 h0 rfl dX3_sendIfPassing_78 ?_
        refine z_iconst (v := 2) hG dX3_sendIfPassing_81 (by decide) ?_
        refine z_aload_n hG dX3_sendIfPassing_82 rfl 2 rfl ?_
        obtain ⟨j18, ej18, hw⟩ := hw
        refine z_getr (kq := 6) hG f_X3_55 h0 rfl ej18 rfl (by decide) dX3_sendIfPassing_83 (fun hj18 => ?_)
        refine z_geti hG f_X3_119 hj18 rfl dX3_sendIfPassing_86 ?_
        refine z_imul hG dX3_sendIfPassing_89 ?_
        refine z_iadd hG dX3_sendIfPassing_90 ?_
        refine z_aload_n hG dX3_sendIfPassing_91 rfl 2 rfl ?_
        obtain ⟨j19, ej19, hw⟩ := hw
        refine z_getr (kq := 6) hG f_X3_55 h0 rfl ej19 rfl (by decide) dX3_sendIfPassing_92 (fun hj19 => ?_)
        refine z_geti hG f_X3_167 hj19 rfl dX3_sendIfPassing_95 ?_
        refine z_iadd hG dX3_sendIfPassing_98 ?_
        refine z_topi (fun x20 ex20 => ?_)
        have hw := hw x20 ex20
        refine z_puti hG f_X3_100 h0 rfl rfl (zN_int _) dX3_sendIfPassing_99 ?_
        refine z_topσ (fun σ21 eσ21 => ?_)
        have hw := hw σ21 eσ21
        exact z_vret hG rfl dX3_sendIfPassing_102 hw
    · have hw := hw.2 c23
      exact z_vret hG rfl dX3_sendIfPassing_47 hw
  · have hw := hw.1 c24
    exact z_vret hG rfl dX3_sendIfPassing_10 hw
-- TypeWheelTelegraph$Machine.tick()V
def wX3_tick_148 (ln : Nat → Nat) (Q : zS → Prop) (t0 : Nat) (σ : zS) : Prop := (((gi σ t0 3) = (-1) → Q σ) ∧ (¬ (gi σ t0 3) = (-1) → wX3_silentTicks ln σ t0 (fun r2 σ1 => ∃ j3 : Nat, gr σ1 t0 0 = some j3 ∧ ((r2 < (gi σ1 j3 3) → Q σ1) ∧ (¬ r2 < (gi σ1 j3 3) → ∃ j4 : Nat, gr σ1 t0 13 = some j4 ∧ wX7_clear ln σ1 j4 (fun σ5 => Q σ5))))))
def wX3_tick_121 (ln : Nat → Nat) (Q : zS → Prop) (t0 : Nat) (σ : zS) : Prop := wX3_sendIfPassing ln σ t0 (fun σ1 => (((gi σ1 t0 4) = 0 → wX3_tick_148 ln Q t0 σ1) ∧ (¬ (gi σ1 t0 4) = 0 → (((gi σ1 t0 1) < (gi σ1 t0 5) → wX3_tick_148 ln Q t0 σ1) ∧ (¬ (gi σ1 t0 1) < (gi σ1 t0 5) → wX3_endLine ln σ1 t0 0 (fun σ2 => wX3_tick_148 ln Q t0 σ2))))))
def wX3_tick_60 (ln : Nat → Nat) (Q : zS → Prop) : Nat → Nat → Int32 → zS → Prop
  | 0, _, _, _ => False
  | n + 1, t0, v1, σ => ((v1 ≤ 0 → wX3_tick_121 ln Q t0 σ) ∧ (¬ v1 ≤ 0 → wX3_isArrivalDue ln σ t0 (fun r2 σ1 => ((r2 = 0 → wX3_tick_121 ln Q t0 σ1) ∧ (¬ r2 = 0 → ∃ j3 : Nat, gr σ1 t0 14 = some j3 ∧ wX8_get ln σ1 j3 0 1 (fun r5 σ4 => ∃ j6 : Nat, gr σ4 t0 14 = some j6 ∧ wX8_get ln σ4 j6 0 2 (fun r8 σ7 => ∃ j9 : Nat, gr σ7 t0 14 = some j9 ∧ wX8_removeFirst ln σ7 j9 (fun σ10 => ((r5 = 0 → wX3_takePulse ln σ10 t0 r8 (fun σ13 => ∀ x14 : Int32, x14 = v1 + (-1) → (wX3_tick_60 ln Q n) t0 x14 σ13)) ∧ (¬ r5 = 0 → wX3_takeSignal ln σ10 t0 r5 (fun σ11 => ∀ x12 : Int32, x12 = v1 + (-1) → (wX3_tick_60 ln Q n) t0 x12 σ11)))))))))))
def wX3_tick (ln : Nat → Nat) (σ : zS) (t0 : Nat) (Q : zS → Prop) : Prop := ∀ x1 : Int32, x1 = (gi σ t0 1) + 1 → ∀ σ2 : zS, σ2 = si σ t0 1 x1 → ∃ j3 : Nat, gr σ2 t0 11 = some j3 ∧ ∃ j4 : Nat, gr σ2 t0 11 = some j4 ∧ ∃ j5 : Nat, gr σ2 t0 0 = some j5 ∧ wX6_circle ln σ2 j5 (fun r7 σ6 => ∀ x8 : Int32, x8 = gi σ2 j4 1 → wX4_turn ln σ6 j3 x8 r7 (fun σ9 => ∃ j10 : Nat, gr σ9 t0 12 = some j10 ∧ ∃ j11 : Nat, gr σ9 t0 12 = some j11 ∧ ∃ j12 : Nat, gr σ9 t0 0 = some j12 ∧ wX6_circle ln σ9 j12 (fun r14 σ13 => ∀ x15 : Int32, x15 = gi σ9 j11 1 → wX4_turn ln σ13 j10 x15 r14 (fun σ16 => ∃ j17 : Nat, gr σ16 t0 14 = some j17 ∧ wX8_size ln σ16 j17 (fun r19 σ18 => ∃ n20 : Nat, wX3_tick_60 ln Q n20 t0 r19 σ18)))))
abbrev rX3_tick : Room := { frames := 7, cells := 0, slots := 0, locals := 151 }
set_option maxRecDepth 100000 in
set_option maxHeartbeats 4000000 in
theorem BX3_tick_148 {l : Launch} {E : zE} {Y : zY} {p : Program} {e : Env} {s : State} {m : MethodId} {args : Array Value} {below : List Frame} {meth : Method} {c : Code} (hG : zG E p l s m args meth c cX3_tick 4 RX3 none (zA Y s.heap.size)) {Q : zS → Prop} : ∀ (t0 : Nat) (σ : zS), wX3_tick_148 (zln Y) Q t0 σ → zT Y 3 t0 → WW E Y σ p l e rX3_tick s m args below meth c (zA Y s.heap.size) 4 0 0 (MQ below (va_Qv Q (zB E Y s.heap.size) (zA Y s.heap.size)) args s 0 0 (zA Y s.heap.size)) [(0, .ref (za Y t0))] 148 [] := by
  intro t0 σ hw h0
  unfold wX3_tick_148 at hw
  refine z_aload_n hG dX3_tick_148 rfl 0 rfl ?_
  refine z_geti hG f_X3_9 h0 rfl dX3_tick_149 ?_
  refine z_iconst (v := (-1)) hG dX3_tick_152 (by decide) ?_
  refine z_icmp_eq (tgt := 177) hG dX3_tick_153 (by decide) (fun c7 => ?_) (fun c7 => ?_)
  · have hw := hw.1 c7
    exact z_vret hG rfl dX3_tick_177 hw
  · have hw := hw.2 c7
    refine z_aload_n hG dX3_tick_156 rfl 0 rfl ?_
    refine z_calli hG (z_runV (As := []) (st := []) hG k_X3_164 (MX3_silentTicks l h0 hw) ⟨(Nat.le_of_ble_eq_true rfl), (Nat.le_of_ble_eq_true rfl)⟩ h0 (T := TX3) (N := 17) rfl (by decide) rfl (Nat.le_of_ble_eq_true rfl) dX3_tick_157 ⟨Nat.zero_le _, Nat.zero_le _⟩ rfl) (fun r2 σ1 hw => ?_)
    refine z_aload_n hG dX3_tick_160 rfl 0 rfl ?_
    obtain ⟨j3, ej3, hw⟩ := hw
    refine z_getr (kq := 6) hG f_X3_55 h0 rfl ej3 rfl (by decide) dX3_tick_161 (fun hj3 => ?_)
    refine z_geti hG f_X3_167 hj3 rfl dX3_tick_164 ?_
    refine z_icmp_lt (tgt := 177) hG dX3_tick_167 (by decide) (fun c6 => ?_) (fun c6 => ?_)
    · have hw := hw.1 c6
      exact z_vret hG rfl dX3_tick_177 hw
    · have hw := hw.2 c6
      refine z_aload_n hG dX3_tick_170 rfl 0 rfl ?_
      obtain ⟨j4, ej4, hw⟩ := hw
      refine z_getr (kq := 7) hG f_X3_28 h0 rfl ej4 rfl (by decide) dX3_tick_171 (fun hj4 => ?_)
      refine z_callv hG (z_runV (As := []) (st := []) hG k_X3_118 (MX7_clear l hj4 hw) ⟨(Nat.le_of_ble_eq_true rfl), (Nat.le_of_ble_eq_true rfl)⟩ hj4 (T := TX7) (N := 4) rfl (by decide) rfl (Nat.le_of_ble_eq_true rfl) dX3_tick_174 ⟨Nat.zero_le _, Nat.zero_le _⟩ rfl) (fun σ5 hw => ?_)
      exact z_vret hG rfl dX3_tick_177 hw
set_option maxRecDepth 100000 in
set_option maxHeartbeats 4000000 in
theorem BX3_tick_121 {l : Launch} {E : zE} {Y : zY} {p : Program} {e : Env} {s : State} {m : MethodId} {args : Array Value} {below : List Frame} {meth : Method} {c : Code} (hG : zG E p l s m args meth c cX3_tick 4 RX3 none (zA Y s.heap.size)) {Q : zS → Prop} : ∀ (t0 : Nat) (σ : zS), wX3_tick_121 (zln Y) Q t0 σ → zT Y 3 t0 → WW E Y σ p l e rX3_tick s m args below meth c (zA Y s.heap.size) 4 0 0 (MQ below (va_Qv Q (zB E Y s.heap.size) (zA Y s.heap.size)) args s 0 0 (zA Y s.heap.size)) [(0, .ref (za Y t0))] 121 [] := by
  intro t0 σ hw h0
  unfold wX3_tick_121 at hw
  refine z_aload_n hG dX3_tick_121 rfl 0 rfl ?_
  refine z_callv hG (z_runV (As := []) (st := []) hG k_X3_157 (MX3_sendIfPassing l h0 hw) ⟨(Nat.le_of_ble_eq_true rfl), (Nat.le_of_ble_eq_true rfl)⟩ h0 (T := TX3) (N := 17) rfl (by decide) rfl (Nat.le_of_ble_eq_true rfl) dX3_tick_122 ⟨Nat.zero_le _, Nat.zero_le _⟩ rfl) (fun σ1 hw => ?_)
  refine z_aload_n hG dX3_tick_125 rfl 0 rfl ?_
  refine z_geti hG f_X3_96 h0 rfl dX3_tick_126 ?_
  refine z_if_eq (tgt := 148) hG dX3_tick_129 (by decide) (fun c4 => ?_) (fun c4 => ?_)
  · have hw := hw.1 c4
    refine zpick [0] (lv' := [(0, .ref (za Y t0))]) rfl ?_
    exact BX3_tick_148 hG t0 σ1 hw h0
  · have hw := hw.2 c4
    refine z_aload_n hG dX3_tick_132 rfl 0 rfl ?_
    refine z_geti hG f_X3_59 h0 rfl dX3_tick_133 ?_
    refine z_aload_n hG dX3_tick_136 rfl 0 rfl ?_
    refine z_geti hG f_X3_100 h0 rfl dX3_tick_137 ?_
    refine z_icmp_lt (tgt := 148) hG dX3_tick_140 (by decide) (fun c3 => ?_) (fun c3 => ?_)
    · have hw := hw.1 c3
      refine zpick [0] (lv' := [(0, .ref (za Y t0))]) rfl ?_
      exact BX3_tick_148 hG t0 σ1 hw h0
    · have hw := hw.2 c3
      refine z_aload_n hG dX3_tick_143 rfl 0 rfl ?_
      refine z_iconst (v := 0) hG dX3_tick_144 (by decide) ?_
      refine z_callv hG (z_runV (As := [.int 0]) (st := []) hG k_X3_160 (MX3_endLine l h0 hw) ⟨(Nat.le_of_ble_eq_true rfl), (Nat.le_of_ble_eq_true rfl)⟩ h0 (T := TX3) (N := 17) rfl (by decide) rfl (Nat.le_of_ble_eq_true rfl) dX3_tick_145 ⟨Nat.zero_le _, Nat.zero_le _⟩ rfl) (fun σ2 hw => ?_)
      refine zpick [0] (lv' := [(0, .ref (za Y t0))]) rfl ?_
      exact BX3_tick_148 hG t0 σ2 hw h0
set_option maxRecDepth 100000 in
set_option maxHeartbeats 4000000 in
theorem BX3_tick_60 {l : Launch} {E : zE} {Y : zY} {p : Program} {e : Env} {s : State} {m : MethodId} {args : Array Value} {below : List Frame} {meth : Method} {c : Code} (hG : zG E p l s m args meth c cX3_tick 4 RX3 none (zA Y s.heap.size)) {Q : zS → Prop} : ∀ (n : Nat) (t0 : Nat) (v1 : Int32) (σ : zS), wX3_tick_60 (zln Y) Q n t0 v1 σ → zT Y 3 t0 → WW E Y σ p l e rX3_tick s m args below meth c (zA Y s.heap.size) 4 0 0 (MQ below (va_Qv Q (zB E Y s.heap.size) (zA Y s.heap.size)) args s 0 0 (zA Y s.heap.size)) [(0, .ref (za Y t0)), (1, .int v1)] 60 [] := by
  intro n
  induction n with
  | zero => intro t0 v1 σ hw
            exact hw.elim
  | succ n ih =>
    intro t0 v1 σ hw h0
    rw [wX3_tick_60] at hw
    refine z_iload_n hG dX3_tick_60 rfl 1 rfl ?_
    refine z_if_le (tgt := 121) hG dX3_tick_61 (by decide) (fun c17 => ?_) (fun c17 => ?_)
    · have hw := hw.1 c17
      refine zpick [0] (lv' := [(0, .ref (za Y t0))]) rfl ?_
      exact BX3_tick_121 hG t0 σ hw h0
    · have hw := hw.2 c17
      refine z_aload_n hG dX3_tick_64 rfl 0 rfl ?_
      refine z_calli hG (z_runV (As := []) (st := []) hG k_X3_140 (MX3_isArrivalDue l h0 hw) ⟨(Nat.le_of_ble_eq_true rfl), (Nat.le_of_ble_eq_true rfl)⟩ h0 (T := TX3) (N := 17) rfl (by decide) rfl (Nat.le_of_ble_eq_true rfl) dX3_tick_65 ⟨Nat.zero_le _, Nat.zero_le _⟩ rfl) (fun r2 σ1 hw => ?_)
      refine z_if_eq (tgt := 121) hG dX3_tick_68 (by decide) (fun c16 => ?_) (fun c16 => ?_)
      · have hw := hw.1 c16
        refine zpick [0] (lv' := [(0, .ref (za Y t0))]) rfl ?_
        exact BX3_tick_121 hG t0 σ1 hw h0
      · have hw := hw.2 c16
        refine z_aload_n hG dX3_tick_71 rfl 0 rfl ?_
        obtain ⟨j3, ej3, hw⟩ := hw
        refine z_getr (kq := 8) hG f_X3_37 h0 rfl ej3 rfl (by decide) dX3_tick_72 (fun hj3 => ?_)
        refine z_iconst (v := 0) hG dX3_tick_75 (by decide) ?_
        refine z_iconst (v := 1) hG dX3_tick_76 (by decide) ?_
        refine z_calli hG (z_runV (As := [.int 0, .int 1]) (st := []) hG k_X3_144 (MX8_get l hj3 hw) ⟨(Nat.le_of_ble_eq_true rfl), (Nat.le_of_ble_eq_true rfl)⟩ hj3 (T := TX8) (N := 4) rfl (by decide) rfl (Nat.le_of_ble_eq_true rfl) dX3_tick_77 ⟨Nat.zero_le _, Nat.zero_le _⟩ rfl) (fun r5 σ4 hw => ?_)
        refine z_istore_n (lv' := [(2, .int r5), (0, .ref (za Y t0)), (1, .int v1)]) hG dX3_tick_80 rfl (by decide) rfl ?_
        refine z_aload_n hG dX3_tick_81 rfl 1 rfl ?_
        obtain ⟨j6, ej6, hw⟩ := hw
        refine z_getr (kq := 8) hG f_X3_37 h0 rfl ej6 rfl (by decide) dX3_tick_82 (fun hj6 => ?_)
        refine z_iconst (v := 0) hG dX3_tick_85 (by decide) ?_
        refine z_iconst (v := 2) hG dX3_tick_86 (by decide) ?_
        refine z_calli hG (z_runV (As := [.int 0, .int 2]) (st := []) hG k_X3_144 (MX8_get l hj6 hw) ⟨(Nat.le_of_ble_eq_true rfl), (Nat.le_of_ble_eq_true rfl)⟩ hj6 (T := TX8) (N := 4) rfl (by decide) rfl (Nat.le_of_ble_eq_true rfl) dX3_tick_87 ⟨Nat.zero_le _, Nat.zero_le _⟩ rfl) (fun r8 σ7 hw => ?_)
        refine z_istore_n (lv' := [(3, .int r8), (2, .int r5), (0, .ref (za Y t0)), (1, .int v1)]) hG dX3_tick_90 rfl (by decide) rfl ?_
        refine z_aload_n hG dX3_tick_91 rfl 2 rfl ?_
        obtain ⟨j9, ej9, hw⟩ := hw
        refine z_getr (kq := 8) hG f_X3_37 h0 rfl ej9 rfl (by decide) dX3_tick_92 (fun hj9 => ?_)
        refine z_callv hG (z_runV (As := []) (st := []) hG k_X3_148 (MX8_removeFirst l hj9 hw) ⟨(Nat.le_of_ble_eq_true rfl), (Nat.le_of_ble_eq_true rfl)⟩ hj9 (T := TX8) (N := 4) rfl (by decide) rfl (Nat.le_of_ble_eq_true rfl) dX3_tick_95 ⟨Nat.zero_le _, Nat.zero_le _⟩ rfl) (fun σ10 hw => ?_)
        refine z_iload_n hG dX3_tick_98 rfl 1 rfl ?_
        refine z_if_ne (tgt := 110) hG dX3_tick_99 (by decide) (fun c15 => ?_) (fun c15 => ?_)
        · have hw := hw.2 c15
          refine z_aload_n hG dX3_tick_110 rfl 2 rfl ?_
          refine z_iload_n hG dX3_tick_111 rfl 1 rfl ?_
          refine z_callv hG (z_runV (As := [.int r5]) (st := []) hG k_X3_154 (MX3_takeSignal l h0 hw) ⟨(Nat.le_of_ble_eq_true rfl), (Nat.le_of_ble_eq_true rfl)⟩ h0 (T := TX3) (N := 17) rfl (by decide) rfl (Nat.le_of_ble_eq_true rfl) dX3_tick_112 ⟨Nat.zero_le _, Nat.zero_le _⟩ rfl) (fun σ11 hw => ?_)
          obtain ⟨x12, ex12⟩ : ∃ y : Int32, y = v1 + (-1) := ⟨_, rfl⟩
          have hw := hw x12 ex12
          refine z_iinc (v := x12) (lv' := [(1, .int x12), (3, .int r8), (2, .int r5), (0, .ref (za Y t0))]) hG dX3_tick_115 3 rfl (by rw [ex12]; rfl) (by decide) rfl ?_
          refine z_goto (tgt := 60) hG dX3_tick_118 (by decide) ?_
          refine zpick [3, 0] (lv' := [(0, .ref (za Y t0)), (1, .int x12)]) rfl ?_
          exact ih t0 x12 σ11 hw h0
        · have hw := hw.1 c15
          refine z_aload_n hG dX3_tick_102 rfl 2 rfl ?_
          refine z_iload_n hG dX3_tick_103 rfl 0 rfl ?_
          refine z_callv hG (z_runV (As := [.int r8]) (st := []) hG k_X3_151 (MX3_takePulse l h0 hw) ⟨(Nat.le_of_ble_eq_true rfl), (Nat.le_of_ble_eq_true rfl)⟩ h0 (T := TX3) (N := 17) rfl (by decide) rfl (Nat.le_of_ble_eq_true rfl) dX3_tick_104 ⟨Nat.zero_le _, Nat.zero_le _⟩ rfl) (fun σ13 hw => ?_)
          refine z_goto (tgt := 115) hG dX3_tick_107 (by decide) ?_
          obtain ⟨x14, ex14⟩ : ∃ y : Int32, y = v1 + (-1) := ⟨_, rfl⟩
          have hw := hw x14 ex14
          refine z_iinc (v := x14) (lv' := [(1, .int x14), (3, .int r8), (2, .int r5), (0, .ref (za Y t0))]) hG dX3_tick_115 3 rfl (by rw [ex14]; rfl) (by decide) rfl ?_
          refine z_goto (tgt := 60) hG dX3_tick_118 (by decide) ?_
          refine zpick [3, 0] (lv' := [(0, .ref (za Y t0)), (1, .int x14)]) rfl ?_
          exact ih t0 x14 σ13 hw h0
set_option maxRecDepth 100000 in
set_option maxHeartbeats 4000000 in
theorem MX3_tick (l : Launch) {E : zE} {Y : zY} {σ : zS} {t0 : Nat} (h0 : zT Y 3 t0) {Q : zS → Prop} (hw : wX3_tick (zln Y) σ t0 Q) : ∀ sz, Met l yX3_tick (zw yX3_tick cX3_tick 4 none) rX3_tick (zPc E Y σ sz [.ref (za Y t0)]) (va_Qv Q (zB E Y sz) (zA Y sz)) 0 0 (zA Y sz) := by
  refine z_met (own := RX3) (Qc := fun sz => va_Qv Q (zB E Y sz) (zA Y sz)) (by decide +kernel) rfl (Nat.le_of_ble_eq_true rfl) ?_
  intro p e s m args below meth c hG hinit
  unfold wX3_tick at hw
  refine zlv (lv' := [(0, .ref (za Y t0))]) rfl ?_
  refine z_aload_n hG dX3_tick_0 rfl 0 rfl ?_
  refine z_dup hG dX3_tick_1 rfl ?_
  refine z_geti hG f_X3_59 h0 rfl dX3_tick_2 ?_
  refine z_iconst (v := 1) hG dX3_tick_5 (by decide) ?_
  refine z_iadd hG dX3_tick_6 ?_
  refine z_topi (fun x1 ex1 => ?_)
  have hw := hw x1 ex1
  refine z_puti hG f_X3_59 h0 rfl rfl (zN_int _) dX3_tick_7 ?_
  refine z_topσ (fun σ2 eσ2 => ?_)
  have hw := hw σ2 eσ2
  refine z_aload_n hG dX3_tick_10 rfl 0 rfl ?_
  obtain ⟨j3, ej3, hw⟩ := hw
  refine z_getr (kq := 4) hG f_X3_18 h0 rfl ej3 rfl (by decide) dX3_tick_11 (fun hj3 => ?_)
  refine z_aload_n hG dX3_tick_14 rfl 0 rfl ?_
  obtain ⟨j4, ej4, hw⟩ := hw
  refine z_getr (kq := 4) hG f_X3_18 h0 rfl ej4 rfl (by decide) dX3_tick_15 (fun hj4 => ?_)
  refine z_geti hG f_X3_126 hj4 rfl dX3_tick_18 ?_
  refine z_aload_n hG dX3_tick_21 rfl 0 rfl ?_
  obtain ⟨j5, ej5, hw⟩ := hw
  refine z_getr (kq := 6) hG f_X3_55 h0 rfl ej5 rfl (by decide) dX3_tick_22 (fun hj5 => ?_)
  refine z_calli hG (z_runV (As := []) (st := [.int (gi σ2 j4 1), .ref (za Y j3)]) hG k_X3_129 (MX6_circle l hj5 hw) ⟨(Nat.le_of_ble_eq_true rfl), (Nat.le_of_ble_eq_true rfl)⟩ hj5 (T := TX6) (N := 8) rfl (by decide) rfl (Nat.le_of_ble_eq_true rfl) dX3_tick_25 ⟨Nat.zero_le _, Nat.zero_le _⟩ rfl) (fun r7 σ6 hw => ?_)
  obtain ⟨x8, ex8⟩ : ∃ y : Int32, y = gi σ2 j4 1 := ⟨_, rfl⟩
  refine zst (st' := [.int r7, .int x8, .ref (za Y j3)]) (by rw [ex8]) ?_
  have hw := hw x8 ex8
  refine z_callv hG (z_runV (As := [.int x8, .int r7]) (st := []) hG k_X3_133 (MX4_turn l hj3 hw) ⟨(Nat.le_of_ble_eq_true rfl), (Nat.le_of_ble_eq_true rfl)⟩ hj3 (T := TX4) (N := 8) rfl (by decide) rfl (Nat.le_of_ble_eq_true rfl) dX3_tick_28 ⟨Nat.zero_le _, Nat.zero_le _⟩ rfl) (fun σ9 hw => ?_)
  refine z_aload_n hG dX3_tick_31 rfl 0 rfl ?_
  obtain ⟨j10, ej10, hw⟩ := hw
  refine z_getr (kq := 4) hG f_X3_22 h0 rfl ej10 rfl (by decide) dX3_tick_32 (fun hj10 => ?_)
  refine z_aload_n hG dX3_tick_35 rfl 0 rfl ?_
  obtain ⟨j11, ej11, hw⟩ := hw
  refine z_getr (kq := 4) hG f_X3_22 h0 rfl ej11 rfl (by decide) dX3_tick_36 (fun hj11 => ?_)
  refine z_geti hG f_X3_126 hj11 rfl dX3_tick_39 ?_
  refine z_aload_n hG dX3_tick_42 rfl 0 rfl ?_
  obtain ⟨j12, ej12, hw⟩ := hw
  refine z_getr (kq := 6) hG f_X3_55 h0 rfl ej12 rfl (by decide) dX3_tick_43 (fun hj12 => ?_)
  refine z_calli hG (z_runV (As := []) (st := [.int (gi σ9 j11 1), .ref (za Y j10)]) hG k_X3_129 (MX6_circle l hj12 hw) ⟨(Nat.le_of_ble_eq_true rfl), (Nat.le_of_ble_eq_true rfl)⟩ hj12 (T := TX6) (N := 8) rfl (by decide) rfl (Nat.le_of_ble_eq_true rfl) dX3_tick_46 ⟨Nat.zero_le _, Nat.zero_le _⟩ rfl) (fun r14 σ13 hw => ?_)
  obtain ⟨x15, ex15⟩ : ∃ y : Int32, y = gi σ9 j11 1 := ⟨_, rfl⟩
  refine zst (st' := [.int r14, .int x15, .ref (za Y j10)]) (by rw [ex15]) ?_
  have hw := hw x15 ex15
  refine z_callv hG (z_runV (As := [.int x15, .int r14]) (st := []) hG k_X3_133 (MX4_turn l hj10 hw) ⟨(Nat.le_of_ble_eq_true rfl), (Nat.le_of_ble_eq_true rfl)⟩ hj10 (T := TX4) (N := 8) rfl (by decide) rfl (Nat.le_of_ble_eq_true rfl) dX3_tick_49 ⟨Nat.zero_le _, Nat.zero_le _⟩ rfl) (fun σ16 hw => ?_)
  refine z_aload_n hG dX3_tick_52 rfl 0 rfl ?_
  obtain ⟨j17, ej17, hw⟩ := hw
  refine z_getr (kq := 8) hG f_X3_37 h0 rfl ej17 rfl (by decide) dX3_tick_53 (fun hj17 => ?_)
  refine z_calli hG (z_runV (As := []) (st := []) hG k_X3_137 (MX8_size l hj17 hw) ⟨(Nat.le_of_ble_eq_true rfl), (Nat.le_of_ble_eq_true rfl)⟩ hj17 (T := TX8) (N := 4) rfl (by decide) rfl (Nat.le_of_ble_eq_true rfl) dX3_tick_56 ⟨Nat.zero_le _, Nat.zero_le _⟩ rfl) (fun r19 σ18 hw => ?_)
  refine z_istore_n (lv' := [(1, .int r19), (0, .ref (za Y t0))]) hG dX3_tick_59 rfl (by decide) rfl ?_
  obtain ⟨n20, hw⟩ := hw
  refine zpick [1, 0] (lv' := [(0, .ref (za Y t0)), (1, .int r19)]) rfl ?_
  exact BX3_tick_60 hG n20 t0 r19 σ18 hw h0
-- TypeWheelTelegraph.run(I)I
def wX11_run_34 (ln : Nat → Nat) (Q : Int32 → zS → Prop) : Nat → Nat → Int32 → Int32 → Int32 → zS → Prop
  | 0, _, _, _, _, _ => False
  | n + 1, t0, v1, v2, v3, σ => ((v1 ≤ v3 → ∃ j1 : Nat, gr σ t0 3 = some j1 ∧ Q ((gi σ j1 9) - v2) σ) ∧ (¬ v1 ≤ v3 → ∃ j2 : Nat, gr σ t0 3 = some j2 ∧ wX3_tick ln σ j2 (fun σ3 => ∀ x4 : Int32, x4 = v3 + 1 → (wX11_run_34 ln Q n) t0 v1 v2 x4 σ3)))
def wX11_run (ln : Nat → Nat) (σ : zS) (t0 : Nat) (v1 : Int32) (Q : Int32 → zS → Prop) : Prop := wX11_requireRange ln σ v1 1 2000 (fun σ1 => wX11_requireTimeFor ln σ1 t0 v1 (fun σ2 => ∃ j3 : Nat, gr σ2 t0 5 = some j3 ∧ ∃ j4 : Nat, gr σ2 t0 3 = some j4 ∧ wX1_keep ln σ2 j3 j4 (fun σ5 => ∃ j6 : Nat, gr σ5 t0 3 = some j6 ∧ ∀ x7 : Int32, x7 = gi σ5 j6 9 → ∃ n8 : Nat, wX11_run_34 ln Q n8 t0 v1 x7 0 σ5)))
abbrev rX11_run : Room := { frames := 8, cells := 0, slots := 0, locals := 174 }
set_option maxRecDepth 100000 in
set_option maxHeartbeats 4000000 in
theorem BX11_run_34 {l : Launch} {E : zE} {Y : zY} {p : Program} {e : Env} {s : State} {m : MethodId} {args : Array Value} {below : List Frame} {meth : Method} {c : Code} (hG : zG E p l s m args meth c cX11_run 4 RX11 (some .int) (zA Y s.heap.size)) {Q : Int32 → zS → Prop} : ∀ (n : Nat) (t0 : Nat) (v1 : Int32) (v2 : Int32) (v3 : Int32) (σ : zS), wX11_run_34 (zln Y) Q n t0 v1 v2 v3 σ → zT Y 11 t0 → WW E Y σ p l e rX11_run s m args below meth c (zA Y s.heap.size) 4 0 0 (MQ below (va_Qi Q (zB E Y s.heap.size) (zA Y s.heap.size)) args s 0 0 (zA Y s.heap.size)) [(0, .ref (za Y t0)), (1, .int v1), (2, .int v2), (3, .int v3)] 34 [] := by
  intro n
  induction n with
  | zero => intro t0 v1 v2 v3 σ hw
            exact hw.elim
  | succ n ih =>
    intro t0 v1 v2 v3 σ hw h0
    rw [wX11_run_34] at hw
    refine z_iload_n hG dX11_run_34 rfl 3 rfl ?_
    refine z_iload_n hG dX11_run_35 rfl 1 rfl ?_
    refine z_icmp_ge (tgt := 52) hG dX11_run_36 (by decide) (fun c5 => ?_) (fun c5 => ?_)
    · have hw := hw.1 c5
      refine z_aload_n hG dX11_run_52 rfl 0 rfl ?_
      obtain ⟨j1, ej1, hw⟩ := hw
      refine z_getr (kq := 3) hG f_X11_53 h0 rfl ej1 rfl (by decide) dX11_run_53 (fun hj1 => ?_)
      refine z_geti hG f_X11_238 hj1 rfl dX11_run_56 ?_
      refine z_iload_n hG dX11_run_59 rfl 2 rfl ?_
      refine z_isub hG dX11_run_60 ?_
      exact z_iret hG rfl rfl dX11_run_61 hw
    · have hw := hw.2 c5
      refine z_aload_n hG dX11_run_39 rfl 0 rfl ?_
      obtain ⟨j2, ej2, hw⟩ := hw
      refine z_getr (kq := 3) hG f_X11_53 h0 rfl ej2 rfl (by decide) dX11_run_40 (fun hj2 => ?_)
      refine z_callv hG (z_runV (As := []) (st := []) hG k_X11_276 (MX3_tick l hj2 hw) ⟨(Nat.le_of_ble_eq_true rfl), (Nat.le_of_ble_eq_true rfl)⟩ hj2 (T := TX3) (N := 17) rfl (by decide) rfl (Nat.le_of_ble_eq_true rfl) dX11_run_43 ⟨Nat.zero_le _, Nat.zero_le _⟩ rfl) (fun σ3 hw => ?_)
      obtain ⟨x4, ex4⟩ : ∃ y : Int32, y = v3 + 1 := ⟨_, rfl⟩
      have hw := hw x4 ex4
      refine z_iinc (v := x4) (lv' := [(3, .int x4), (0, .ref (za Y t0)), (1, .int v1), (2, .int v2)]) hG dX11_run_46 3 rfl (by rw [ex4]; rfl) (by decide) rfl ?_
      refine z_goto (tgt := 34) hG dX11_run_49 (by decide) ?_
      refine zpick [1, 2, 3, 0] (lv' := [(0, .ref (za Y t0)), (1, .int v1), (2, .int v2), (3, .int x4)]) rfl ?_
      exact ih t0 v1 v2 x4 σ3 hw h0
set_option maxRecDepth 100000 in
set_option maxHeartbeats 4000000 in
theorem MX11_run (l : Launch) {E : zE} {Y : zY} {σ : zS} {t0 : Nat} {v1 : Int32} (h0 : zT Y 11 t0) {Q : Int32 → zS → Prop} (hw : wX11_run (zln Y) σ t0 v1 Q) : ∀ sz, Met l yX11_run (zw yX11_run cX11_run 4 (some .int)) rX11_run (zPc E Y σ sz [.ref (za Y t0), .int v1]) (va_Qi Q (zB E Y sz) (zA Y sz)) 0 0 (zA Y sz) := by
  refine z_met (own := RX11) (Qc := fun sz => va_Qi Q (zB E Y sz) (zA Y sz)) (by decide +kernel) rfl (Nat.le_of_ble_eq_true rfl) ?_
  intro p e s m args below meth c hG hinit
  unfold wX11_run at hw
  refine zlv (lv' := [(0, .ref (za Y t0)), (1, .int v1)]) rfl ?_
  refine z_iload_n hG dX11_run_0 rfl 1 rfl ?_
  refine z_iconst (v := 1) hG dX11_run_1 (by decide) ?_
  refine z_sipush (v := 2000) hG dX11_run_2 (by decide) ?_
  refine z_callv hG (z_runS (As := [.int v1, .int 1, .int 2000]) (st := []) hG k_X11_265 (MX11_requireRange l hw) ⟨(Nat.le_of_ble_eq_true rfl), (Nat.le_of_ble_eq_true rfl)⟩ rfl (Nat.le_of_ble_eq_true rfl) dX11_run_5 ⟨Nat.zero_le _, Nat.zero_le _⟩ rfl) (fun σ1 hw => ?_)
  refine z_aload_n hG dX11_run_8 rfl 0 rfl ?_
  refine z_iload_n hG dX11_run_9 rfl 1 rfl ?_
  refine z_callv hG (z_runV (As := [.int v1]) (st := []) hG k_X11_269 (MX11_requireTimeFor l h0 hw) ⟨(Nat.le_of_ble_eq_true rfl), (Nat.le_of_ble_eq_true rfl)⟩ h0 (T := TX11) (N := 9) rfl (by decide) rfl (Nat.le_of_ble_eq_true rfl) dX11_run_10 ⟨Nat.zero_le _, Nat.zero_le _⟩ rfl) (fun σ2 hw => ?_)
  refine z_aload_n hG dX11_run_13 rfl 0 rfl ?_
  obtain ⟨j3, ej3, hw⟩ := hw
  refine z_getr (kq := 1) hG f_X11_63 h0 rfl ej3 rfl (by decide) dX11_run_14 (fun hj3 => ?_)
  refine z_aload_n hG dX11_run_17 rfl 0 rfl ?_
  obtain ⟨j4, ej4, hw⟩ := hw
  refine z_getr (kq := 3) hG f_X11_53 h0 rfl ej4 rfl (by decide) dX11_run_18 (fun hj4 => ?_)
  refine z_callv hG (z_runV (As := [.ref (za Y j4)]) (st := []) hG k_X11_272 (MX1_keep l hj3 hj4 hw) ⟨(Nat.le_of_ble_eq_true rfl), (Nat.le_of_ble_eq_true rfl)⟩ hj3 (T := TX1) (N := 3) rfl (by decide) rfl (Nat.le_of_ble_eq_true rfl) dX11_run_21 ⟨Nat.zero_le _, Nat.zero_le _⟩ rfl) (fun σ5 hw => ?_)
  refine z_aload_n hG dX11_run_24 rfl 0 rfl ?_
  obtain ⟨j6, ej6, hw⟩ := hw
  refine z_getr (kq := 3) hG f_X11_53 h0 rfl ej6 rfl (by decide) dX11_run_25 (fun hj6 => ?_)
  refine z_geti hG f_X11_238 hj6 rfl dX11_run_28 ?_
  refine z_topi (fun x7 ex7 => ?_)
  have hw := hw x7 ex7
  refine z_istore_n (lv' := [(2, .int x7), (0, .ref (za Y t0)), (1, .int v1)]) hG dX11_run_31 rfl (by decide) rfl ?_
  refine z_iconst (v := 0) hG dX11_run_32 (by decide) ?_
  refine z_istore_n (lv' := [(3, .int 0), (2, .int x7), (0, .ref (za Y t0)), (1, .int v1)]) hG dX11_run_33 rfl (by decide) rfl ?_
  obtain ⟨n8, hw⟩ := hw
  refine zpick [2, 3, 1, 0] (lv' := [(0, .ref (za Y t0)), (1, .int v1), (2, .int x7), (3, .int 0)]) rfl ?_
  exact BX11_run_34 hG n8 t0 v1 x7 0 σ5 hw h0
