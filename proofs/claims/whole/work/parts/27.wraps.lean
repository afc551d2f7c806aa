-- TypeWheelTelegraphLaw.append(LTypeWheelTelegraph;IIIII[J)I
def wL_append (ln : Nat → Nat) (σ : zS) (t0 : Nat) (v1 : Int32) (v2 : Int32) (v3 : Int32) (v4 : Int32) (v5 : Int32) (t6 : Nat) (Q : Int32 → zS → Prop) : Prop := wxX11_append ln σ t0 v1 v2 v3 v4 v5 (fun r2 σ1 => ∀ x6 : Int64, x6 = r2.toInt64 → vp_in (0 : Int32) (ln t6) ∧ ∀ σ8 : zS, σ8 = sl σ1 t6 (0 : Int32).toNatClampNeg x6 → Q 0 σ8) (fun E5 σ3 => E5 = "java/lang/IllegalStateException" ∧ Q 1 σ3)
abbrev rL_append : Room := { frames := 7, cells := 1, slots := 6, locals := 125 }
set_option maxRecDepth 100000 in
set_option maxHeartbeats 4000000 in
theorem ML_append (l : Launch) (hlt : l.stackTraces = false) {E : zE} {Y : zY} {σ : zS} {t0 : Nat} {v1 : Int32} {v2 : Int32} {v3 : Int32} {v4 : Int32} {v5 : Int32} {t6 : Nat} (h0 : zT Y 11 t0) (h6 : zT Y 24 t6) {Q : Int32 → zS → Prop} (hw : wL_append (zln Y) σ t0 v1 v2 v3 v4 v5 t6 Q) : ∀ sz, Met l yL_append (zwH yL_append cL_append 8 (some .int) [(0, 16, 19, 13)]) rL_append (zPc E Y σ sz [.ref (za Y t0), .int v1, .int v2, .int v3, .int v4, .int v5, .ref (za Y t6)]) (va_Qi Q (zB E Y sz) (zA Y sz)) 1 6 (zA Y sz) := by
  refine z_metH (hh := [(0, 16, 19, 13)]) (own := RL) (Qc := fun sz => va_Qi Q (zB E Y sz) (zA Y sz)) (by decide +kernel) rfl (Nat.le_of_ble_eq_true rfl) ?_
  intro p e s m args below meth c hG htab
  unfold wL_append at hw
  refine zlv (lv' := [(0, .ref (za Y t0)), (1, .int v1), (2, .int v2), (3, .int v3), (4, .int v4), (5, .int v5), (6, .ref (za Y t6))]) rfl ?_
  refine z_aload hG dL_append_0 6 rfl ?_
  refine z_iconst (v := 0) hG dL_append_2 (by decide) ?_
  refine z_aload_n hG dL_append_3 rfl 0 rfl ?_
  refine z_iload_n hG dL_append_4 rfl 1 rfl ?_
  refine z_iload_n hG dL_append_5 rfl 2 rfl ?_
  refine z_iload_n hG dL_append_6 rfl 3 rfl ?_
  refine z_iload hG dL_append_7 4 rfl ?_
  refine z_iload hG dL_append_9 5 rfl ?_
  refine z_callHi hG htab (z_runXV (As := [.int v1, .int v2, .int v3, .int v4, .int v5]) (st := [.int 0, .ref (za Y t6)]) hG k_L_7 (MxX11_append l hlt h0 hw) rfl rfl ⟨(Nat.le_of_ble_eq_true rfl), (Nat.le_of_ble_eq_true rfl)⟩ h0 (T := TX11) (N := 9) rfl (by decide) rfl (Nat.le_of_ble_eq_true rfl) dL_append_11 ⟨show 0 + 1 ≤ 1 from by omega, show 0 + 6 ≤ 6 from by omega⟩ rfl) (fun E5 σ3 q4 hw => ?_) (fun r2 σ1 hw => ?_)
  · obtain ⟨hE, hw⟩ := hw
    subst hE
    refine ⟨19, zc_L_append_19, zwiden (k := 1) (n := 6) (show 0 + 1 ≤ 1 from by omega) (show 0 + 6 ≤ 6 from by omega) ?_⟩
    refine zwiden (k := 1) (n := 6) (Nat.le_refl _) (Nat.le_refl _) ?_
    refine z_astore (lv' := [(7, .ref q4), (0, .ref (za Y t0)), (1, .int v1), (2, .int v2), (3, .int v3), (4, .int v4), (5, .int v5), (6, .ref (za Y t6))]) hG dL_append_19 (by decide) rfl ?_
    refine z_iconst (v := 1) hG dL_append_21 (by decide) ?_
    refine zwiden (k := 1) (n := 6) (by omega) (by omega) ?_
    exact z_iret hG rfl rfl dL_append_22 hw
  · skip
    refine zwiden (k := 1) (n := 6) (show 0 + 1 ≤ 1 from by omega) (show 0 + 6 ≤ 6 from by omega) ?_
    refine z_i2l hG dL_append_14 ?_
    refine z_topl (fun x6 ex6 => ?_)
    have hw := hw x6 ex6
    obtain ⟨q7, hw⟩ := hw
    refine z_last hG h6 q7 dL_append_15 ?_
    refine z_topσ (fun σ8 eσ8 => ?_)
    have hw := hw σ8 eσ8
    refine z_goto (tgt := 23) hG dL_append_16 (by decide) ?_
    refine z_iconst (v := 0) hG dL_append_23 (by decide) ?_
    refine zwiden (k := 1) (n := 6) (by omega) (by omega) ?_
    exact z_iret hG rfl rfl dL_append_24 hw
-- TypeWheelTelegraphLaw.truncate(LTypeWheelTelegraph;I)I
def wL_truncate (ln : Nat → Nat) (σ : zS) (t0 : Nat) (v1 : Int32) (Q : Int32 → zS → Prop) : Prop := wxX11_truncate ln σ t0 v1 (fun σ1 => Q 0 σ1) (fun E5 σ3 => E5 = "java/lang/IllegalArgumentException" ∧ Q 1 σ3)
abbrev rL_truncate : Room := { frames := 7, cells := 1, slots := 6, locals := 121 }
set_option maxRecDepth 100000 in
set_option maxHeartbeats 4000000 in
theorem ML_truncate (l : Launch) (hlt : l.stackTraces = false) {E : zE} {Y : zY} {σ : zS} {t0 : Nat} {v1 : Int32} (h0 : zT Y 11 t0) {Q : Int32 → zS → Prop} (hw : wL_truncate (zln Y) σ t0 v1 Q) : ∀ sz, Met l yL_truncate (zwH yL_truncate cL_truncate 3 (some .int) [(0, 5, 8, 19)]) rL_truncate (zPc E Y σ sz [.ref (za Y t0), .int v1]) (va_Qi Q (zB E Y sz) (zA Y sz)) 1 6 (zA Y sz) := by
  refine z_metH (hh := [(0, 5, 8, 19)]) (own := RL) (Qc := fun sz => va_Qi Q (zB E Y sz) (zA Y sz)) (by decide +kernel) rfl (Nat.le_of_ble_eq_true rfl) ?_
  intro p e s m args below meth c hG htab
  unfold wL_truncate at hw
  refine zlv (lv' := [(0, .ref (za Y t0)), (1, .int v1)]) rfl ?_
  refine z_aload_n hG dL_truncate_0 rfl 0 rfl ?_
  refine z_iload_n hG dL_truncate_1 rfl 1 rfl ?_
  refine z_callHv hG htab (z_runXV (As := [.int v1]) (st := []) hG k_L_15 (MxX11_truncate l hlt h0 hw) rfl rfl ⟨(Nat.le_of_ble_eq_true rfl), (Nat.le_of_ble_eq_true rfl)⟩ h0 (T := TX11) (N := 9) rfl (by decide) rfl (Nat.le_of_ble_eq_true rfl) dL_truncate_2 ⟨show 0 + 1 ≤ 1 from by omega, show 0 + 6 ≤ 6 from by omega⟩ rfl) (fun E5 σ3 q4 hw => ?_) (fun σ1 hw => ?_)
  · obtain ⟨hE, hw⟩ := hw
    subst hE
    refine ⟨8, zc_L_truncate_8, zwiden (k := 1) (n := 6) (show 0 + 1 ≤ 1 from by omega) (show 0 + 6 ≤ 6 from by omega) ?_⟩
    refine zwiden (k := 1) (n := 6) (Nat.le_refl _) (Nat.le_refl _) ?_
    refine z_astore_n (lv' := [(2, .ref q4), (0, .ref (za Y t0)), (1, .int v1)]) hG dL_truncate_8 rfl (by decide) rfl ?_
    refine z_iconst (v := 1) hG dL_truncate_9 (by decide) ?_
    refine zwiden (k := 1) (n := 6) (by omega) (by omega) ?_
    exact z_iret hG rfl rfl dL_truncate_10 hw
  · skip
    refine zwiden (k := 1) (n := 6) (show 0 + 1 ≤ 1 from by omega) (show 0 + 6 ≤ 6 from by omega) ?_
    refine z_goto (tgt := 11) hG dL_truncate_5 (by decide) ?_
    refine z_iconst (v := 0) hG dL_truncate_11 (by decide) ?_
    refine zwiden (k := 1) (n := 6) (by omega) (by omega) ?_
    exact z_iret hG rfl rfl dL_truncate_12 hw
-- TypeWheelTelegraphLaw.load(LTypeWheelTelegraph;[J)I
def wL_load (ln : Nat → Nat) (σ : zS) (t0 : Nat) (t1 : Nat) (Q : Int32 → zS → Prop) : Prop := wxX11_load ln σ t0 (fun r2 σ1 => ∀ x6 : Int64, x6 = r2.toInt64 → vp_in (0 : Int32) (ln t1) ∧ ∀ σ8 : zS, σ8 = sl σ1 t1 (0 : Int32).toNatClampNeg x6 → Q 0 σ8) (fun E5 σ3 => E5 = "java/lang/IllegalArgumentException" ∧ Q 1 σ3)
abbrev rL_load : Room := { frames := 9, cells := 1, slots := 6, locals := 196 }
set_option maxRecDepth 100000 in
set_option maxHeartbeats 4000000 in
theorem ML_load (l : Launch) (hlt : l.stackTraces = false) {E : zE} {Y : zY} {σ : zS} {t0 : Nat} {t1 : Nat} (h0 : zT Y 11 t0) (h1 : zT Y 24 t1) {Q : Int32 → zS → Prop} (hw : wL_load (zln Y) σ t0 t1 Q) : ∀ sz, Met l yL_load (zwH yL_load cL_load 3 (some .int) [(0, 8, 11, 19)]) rL_load (zPc E Y σ sz [.ref (za Y t0), .ref (za Y t1)]) (va_Qi Q (zB E Y sz) (zA Y sz)) 1 6 (zA Y sz) := by
  refine z_metH (hh := [(0, 8, 11, 19)]) (own := RL) (Qc := fun sz => va_Qi Q (zB E Y sz) (zA Y sz)) (by decide +kernel) rfl (Nat.le_of_ble_eq_true rfl) ?_
  intro p e s m args below meth c hG htab
  unfold wL_load at hw
  refine zlv (lv' := [(0, .ref (za Y t0)), (1, .ref (za Y t1))]) rfl ?_
  refine z_aload_n hG dL_load_0 rfl 1 rfl ?_
  refine z_iconst (v := 0) hG dL_load_1 (by decide) ?_
  refine z_aload_n hG dL_load_2 rfl 0 rfl ?_
  refine z_callHi hG htab (z_runXV (As := []) (st := [.int 0, .ref (za Y t1)]) hG k_L_21 (MxX11_load l hlt h0 hw) rfl rfl ⟨(Nat.le_of_ble_eq_true rfl), (Nat.le_of_ble_eq_true rfl)⟩ h0 (T := TX11) (N := 9) rfl (by decide) rfl (Nat.le_of_ble_eq_true rfl) dL_load_3 ⟨show 0 + 1 ≤ 1 from by omega, show 0 + 6 ≤ 6 from by omega⟩ rfl) (fun E5 σ3 q4 hw => ?_) (fun r2 σ1 hw => ?_)
  · obtain ⟨hE, hw⟩ := hw
    subst hE
    refine ⟨11, zc_L_load_11, zwiden (k := 1) (n := 6) (show 0 + 1 ≤ 1 from by omega) (show 0 + 6 ≤ 6 from by omega) ?_⟩
    refine zwiden (k := 1) (n := 6) (Nat.le_refl _) (Nat.le_refl _) ?_
    refine z_astore_n (lv' := [(2, .ref q4), (0, .ref (za Y t0)), (1, .ref (za Y t1))]) hG dL_load_11 rfl (by decide) rfl ?_
    refine z_iconst (v := 1) hG dL_load_12 (by decide) ?_
    refine zwiden (k := 1) (n := 6) (by omega) (by omega) ?_
    exact z_iret hG rfl rfl dL_load_13 hw
  · skip
    refine zwiden (k := 1) (n := 6) (show 0 + 1 ≤ 1 from by omega) (show 0 + 6 ≤ 6 from by omega) ?_
    refine z_i2l hG dL_load_6 ?_
    refine z_topl (fun x6 ex6 => ?_)
    have hw := hw x6 ex6
    obtain ⟨q7, hw⟩ := hw
    refine z_last hG h1 q7 dL_load_7 ?_
    refine z_topσ (fun σ8 eσ8 => ?_)
    have hw := hw σ8 eσ8
    refine z_goto (tgt := 14) hG dL_load_8 (by decide) ?_
    refine z_iconst (v := 0) hG dL_load_14 (by decide) ?_
    refine zwiden (k := 1) (n := 6) (by omega) (by omega) ?_
    exact z_iret hG rfl rfl dL_load_15 hw
-- TypeWheelTelegraphLaw.phase(LTypeWheelTelegraph;I[J)I
def wL_phase (ln : Nat → Nat) (σ : zS) (t0 : Nat) (v1 : Int32) (t2 : Nat) (Q : Int32 → zS → Prop) : Prop := wxX11_phase ln σ t0 v1 (fun r2 σ1 => ∀ x6 : Int64, x6 = r2.toInt64 → vp_in (0 : Int32) (ln t2) ∧ ∀ σ8 : zS, σ8 = sl σ1 t2 (0 : Int32).toNatClampNeg x6 → Q 0 σ8) (fun E5 σ3 => E5 = "java/lang/IndexOutOfBoundsException" ∧ Q 1 σ3)
abbrev rL_phase : Room := { frames := 9, cells := 1, slots := 6, locals := 162 }
set_option maxRecDepth 100000 in
set_option maxHeartbeats 4000000 in
theorem ML_phase (l : Launch) (hlt : l.stackTraces = false) {E : zE} {Y : zY} {σ : zS} {t0 : Nat} {v1 : Int32} {t2 : Nat} (h0 : zT Y 11 t0) (h2 : zT Y 24 t2) {Q : Int32 → zS → Prop} (hw : wL_phase (zln Y) σ t0 v1 t2 Q) : ∀ sz, Met l yL_phase (zwH yL_phase cL_phase 4 (some .int) [(0, 9, 12, 29)]) rL_phase (zPc E Y σ sz [.ref (za Y t0), .int v1, .ref (za Y t2)]) (va_Qi Q (zB E Y sz) (zA Y sz)) 1 6 (zA Y sz) := by
  refine z_metH (hh := [(0, 9, 12, 29)]) (own := RL) (Qc := fun sz => va_Qi Q (zB E Y sz) (zA Y sz)) (by decide +kernel) rfl (Nat.le_of_ble_eq_true rfl) ?_
  intro p e s m args below meth c hG htab
  unfold wL_phase at hw
  refine zlv (lv' := [(0, .ref (za Y t0)), (1, .int v1), (2, .ref (za Y t2))]) rfl ?_
  refine z_aload_n hG dL_phase_0 rfl 2 rfl ?_
  refine z_iconst (v := 0) hG dL_phase_1 (by decide) ?_
  refine z_aload_n hG dL_phase_2 rfl 0 rfl ?_
  refine z_iload_n hG dL_phase_3 rfl 1 rfl ?_
  refine z_callHi hG htab (z_runXV (As := [.int v1]) (st := [.int 0, .ref (za Y t2)]) hG k_L_25 (MxX11_phase l hlt h0 hw) rfl rfl ⟨(Nat.le_of_ble_eq_true rfl), (Nat.le_of_ble_eq_true rfl)⟩ h0 (T := TX11) (N := 9) rfl (by decide) rfl (Nat.le_of_ble_eq_true rfl) dL_phase_4 ⟨show 0 + 1 ≤ 1 from by omega, show 0 + 6 ≤ 6 from by omega⟩ rfl) (fun E5 σ3 q4 hw => ?_) (fun r2 σ1 hw => ?_)
  · obtain ⟨hE, hw⟩ := hw
    subst hE
    refine ⟨12, zc_L_phase_12, zwiden (k := 1) (n := 6) (show 0 + 1 ≤ 1 from by omega) (show 0 + 6 ≤ 6 from by omega) ?_⟩
    refine zwiden (k := 1) (n := 6) (Nat.le_refl _) (Nat.le_refl _) ?_
    refine z_astore_n (lv' := [(3, .ref q4), (0, .ref (za Y t0)), (1, .int v1), (2, .ref (za Y t2))]) hG dL_phase_12 rfl (by decide) rfl ?_
    refine z_iconst (v := 1) hG dL_phase_13 (by decide) ?_
    refine zwiden (k := 1) (n := 6) (by omega) (by omega) ?_
    exact z_iret hG rfl rfl dL_phase_14 hw
  · skip
    refine zwiden (k := 1) (n := 6) (show 0 + 1 ≤ 1 from by omega) (show 0 + 6 ≤ 6 from by omega) ?_
    refine z_i2l hG dL_phase_7 ?_
    refine z_topl (fun x6 ex6 => ?_)
    have hw := hw x6 ex6
    obtain ⟨q7, hw⟩ := hw
    refine z_last hG h2 q7 dL_phase_8 ?_
    refine z_topσ (fun σ8 eσ8 => ?_)
    have hw := hw σ8 eσ8
    refine z_goto (tgt := 15) hG dL_phase_9 (by decide) ?_
    refine z_iconst (v := 0) hG dL_phase_15 (by decide) ?_
    refine zwiden (k := 1) (n := 6) (by omega) (by omega) ?_
    exact z_iret hG rfl rfl dL_phase_16 hw
-- TypeWheelTelegraphLaw.rate(LTypeWheelTelegraph;I[J)I
def wL_rate (ln : Nat → Nat) (σ : zS) (t0 : Nat) (v1 : Int32) (t2 : Nat) (Q : Int32 → zS → Prop) : Prop := wxX11_rate ln σ t0 v1 (fun r2 σ1 => ∀ x6 : Int64, x6 = r2.toInt64 → vp_in (0 : Int32) (ln t2) ∧ ∀ σ8 : zS, σ8 = sl σ1 t2 (0 : Int32).toNatClampNeg x6 → Q 0 σ8) (fun E5 σ3 => E5 = "java/lang/IndexOutOfBoundsException" ∧ Q 1 σ3)
abbrev rL_rate : Room := { frames := 9, cells := 1, slots := 6, locals := 162 }
set_option maxRecDepth 100000 in
set_option maxHeartbeats 4000000 in
theorem ML_rate (l : Launch) (hlt : l.stackTraces = false) {E : zE} {Y : zY} {σ : zS} {t0 : Nat} {v1 : Int32} {t2 : Nat} (h0 : zT Y 11 t0) (h2 : zT Y 24 t2) {Q : Int32 → zS → Prop} (hw : wL_rate (zln Y) σ t0 v1 t2 Q) : ∀ sz, Met l yL_rate (zwH yL_rate cL_rate 4 (some .int) [(0, 9, 12, 29)]) rL_rate (zPc E Y σ sz [.ref (za Y t0), .int v1, .ref (za Y t2)]) (va_Qi Q (zB E Y sz) (zA Y sz)) 1 6 (zA Y sz) := by
  refine z_metH (hh := [(0, 9, 12, 29)]) (own := RL) (Qc := fun sz => va_Qi Q (zB E Y sz) (zA Y sz)) (by decide +kernel) rfl (Nat.le_of_ble_eq_true rfl) ?_
  intro p e s m args below meth c hG htab
  unfold wL_rate at hw
  refine zlv (lv' := [(0, .ref (za Y t0)), (1, .int v1), (2, .ref (za Y t2))]) rfl ?_
  refine z_aload_n hG dL_rate_0 rfl 2 rfl ?_
  refine z_iconst (v := 0) hG dL_rate_1 (by decide) ?_
  refine z_aload_n hG dL_rate_2 rfl 0 rfl ?_
  refine z_iload_n hG dL_rate_3 rfl 1 rfl ?_
  refine z_callHi hG htab (z_runXV (As := [.int v1]) (st := [.int 0, .ref (za Y t2)]) hG k_L_31 (MxX11_rate l hlt h0 hw) rfl rfl ⟨(Nat.le_of_ble_eq_true rfl), (Nat.le_of_ble_eq_true rfl)⟩ h0 (T := TX11) (N := 9) rfl (by decide) rfl (Nat.le_of_ble_eq_true rfl) dL_rate_4 ⟨show 0 + 1 ≤ 1 from by omega, show 0 + 6 ≤ 6 from by omega⟩ rfl) (fun E5 σ3 q4 hw => ?_) (fun r2 σ1 hw => ?_)
  · obtain ⟨hE, hw⟩ := hw
    subst hE
    refine ⟨12, zc_L_rate_12, zwiden (k := 1) (n := 6) (show 0 + 1 ≤ 1 from by omega) (show 0 + 6 ≤ 6 from by omega) ?_⟩
    refine zwiden (k := 1) (n := 6) (Nat.le_refl _) (Nat.le_refl _) ?_
    refine z_astore_n (lv' := [(3, .ref q4), (0, .ref (za Y t0)), (1, .int v1), (2, .ref (za Y t2))]) hG dL_rate_12 rfl (by decide) rfl ?_
    refine z_iconst (v := 1) hG dL_rate_13 (by decide) ?_
    refine zwiden (k := 1) (n := 6) (by omega) (by omega) ?_
    exact z_iret hG rfl rfl dL_rate_14 hw
  · skip
    refine zwiden (k := 1) (n := 6) (show 0 + 1 ≤ 1 from by omega) (show 0 + 6 ≤ 6 from by omega) ?_
    refine z_i2l hG dL_rate_7 ?_
    refine z_topl (fun x6 ex6 => ?_)
    have hw := hw x6 ex6
    obtain ⟨q7, hw⟩ := hw
    refine z_last hG h2 q7 dL_rate_8 ?_
    refine z_topσ (fun σ8 eσ8 => ?_)
    have hw := hw σ8 eσ8
    refine z_goto (tgt := 15) hG dL_rate_9 (by decide) ?_
    refine z_iconst (v := 0) hG dL_rate_15 (by decide) ?_
    refine zwiden (k := 1) (n := 6) (by omega) (by omega) ?_
    exact z_iret hG rfl rfl dL_rate_16 hw
-- TypeWheelTelegraphLaw.facing(LTypeWheelTelegraph;I[J)I
def wL_facing (ln : Nat → Nat) (σ : zS) (t0 : Nat) (v1 : Int32) (t2 : Nat) (Q : Int32 → zS → Prop) : Prop := wxX11_facing ln σ t0 v1 (fun r2 σ1 => ∀ x6 : Int64, x6 = r2.toInt64 → vp_in (0 : Int32) (ln t2) ∧ ∀ σ8 : zS, σ8 = sl σ1 t2 (0 : Int32).toNatClampNeg x6 → Q 0 σ8) (fun E5 σ3 => E5 = "java/lang/IndexOutOfBoundsException" ∧ Q 1 σ3)
abbrev rL_facing : Room := { frames := 9, cells := 1, slots := 6, locals := 162 }
set_option maxRecDepth 100000 in
set_option maxHeartbeats 4000000 in
theorem ML_facing (l : Launch) (hlt : l.stackTraces = false) {E : zE} {Y : zY} {σ : zS} {t0 : Nat} {v1 : Int32} {t2 : Nat} (h0 : zT Y 11 t0) (h2 : zT Y 24 t2) {Q : Int32 → zS → Prop} (hw : wL_facing (zln Y) σ t0 v1 t2 Q) : ∀ sz, Met l yL_facing (zwH yL_facing cL_facing 4 (some .int) [(0, 9, 12, 29)]) rL_facing (zPc E Y σ sz [.ref (za Y t0), .int v1, .ref (za Y t2)]) (va_Qi Q (zB E Y sz) (zA Y sz)) 1 6 (zA Y sz) := by
  refine z_metH (hh := [(0, 9, 12, 29)]) (own := RL) (Qc := fun sz => va_Qi Q (zB E Y sz) (zA Y sz)) (by decide +kernel) rfl (Nat.le_of_ble_eq_true rfl) ?_
  intro p e s m args below meth c hG htab
  unfold wL_facing at hw
  refine zlv (lv' := [(0, .ref (za Y t0)), (1, .int v1), (2, .ref (za Y t2))]) rfl ?_
  refine z_aload_n hG dL_facing_0 rfl 2 rfl ?_
  refine z_iconst (v := 0) hG dL_facing_1 (by decide) ?_
  refine z_aload_n hG dL_facing_2 rfl 0 rfl ?_
  refine z_iload_n hG dL_facing_3 rfl 1 rfl ?_
  refine z_callHi hG htab (z_runXV (As := [.int v1]) (st := [.int 0, .ref (za Y t2)]) hG k_L_34 (MxX11_facing l hlt h0 hw) rfl rfl ⟨(Nat.le_of_ble_eq_true rfl), (Nat.le_of_ble_eq_true rfl)⟩ h0 (T := TX11) (N := 9) rfl (by decide) rfl (Nat.le_of_ble_eq_true rfl) dL_facing_4 ⟨show 0 + 1 ≤ 1 from by omega, show 0 + 6 ≤ 6 from by omega⟩ rfl) (fun E5 σ3 q4 hw => ?_) (fun r2 σ1 hw => ?_)
  · obtain ⟨hE, hw⟩ := hw
    subst hE
    refine ⟨12, zc_L_facing_12, zwiden (k := 1) (n := 6) (show 0 + 1 ≤ 1 from by omega) (show 0 + 6 ≤ 6 from by omega) ?_⟩
    refine zwiden (k := 1) (n := 6) (Nat.le_refl _) (Nat.le_refl _) ?_
    refine z_astore_n (lv' := [(3, .ref q4), (0, .ref (za Y t0)), (1, .int v1), (2, .ref (za Y t2))]) hG dL_facing_12 rfl (by decide) rfl ?_
    refine z_iconst (v := 1) hG dL_facing_13 (by decide) ?_
    refine zwiden (k := 1) (n := 6) (by omega) (by omega) ?_
    exact z_iret hG rfl rfl dL_facing_14 hw
  · skip
    refine zwiden (k := 1) (n := 6) (show 0 + 1 ≤ 1 from by omega) (show 0 + 6 ≤ 6 from by omega) ?_
    refine z_i2l hG dL_facing_7 ?_
    refine z_topl (fun x6 ex6 => ?_)
    have hw := hw x6 ex6
    obtain ⟨q7, hw⟩ := hw
    refine z_last hG h2 q7 dL_facing_8 ?_
    refine z_topσ (fun σ8 eσ8 => ?_)
    have hw := hw σ8 eσ8
    refine z_goto (tgt := 15) hG dL_facing_9 (by decide) ?_
    refine z_iconst (v := 0) hG dL_facing_15 (by decide) ?_
    refine zwiden (k := 1) (n := 6) (by omega) (by omega) ?_
    exact z_iret hG rfl rfl dL_facing_16 hw
-- TypeWheelTelegraphLaw.character(LTypeWheelTelegraph;IZ[J)I
def wL_character (ln : Nat → Nat) (σ : zS) (t0 : Nat) (v1 : Int32) (v2 : Int32) (t3 : Nat) (Q : Int32 → zS → Prop) : Prop := wxX11_character ln σ t0 v1 v2 (fun r2 σ1 => ∀ x6 : Int64, x6 = r2.toInt64 → vp_in (0 : Int32) (ln t3) ∧ ∀ σ8 : zS, σ8 = sl σ1 t3 (0 : Int32).toNatClampNeg x6 → Q 0 σ8) (fun E5 σ3 => E5 = "java/lang/IndexOutOfBoundsException" ∧ Q 1 σ3)
abbrev rL_character : Room := { frames := 7, cells := 1, slots := 6, locals := 129 }
set_option maxRecDepth 100000 in
set_option maxHeartbeats 4000000 in
theorem ML_character (l : Launch) (hlt : l.stackTraces = false) {E : zE} {Y : zY} {σ : zS} {t0 : Nat} {v1 : Int32} {v2 : Int32} {t3 : Nat} (h0 : zT Y 11 t0) (h3 : zT Y 24 t3) {Q : Int32 → zS → Prop} (hw : wL_character (zln Y) σ t0 v1 v2 t3 Q) : ∀ sz, Met l yL_character (zwH yL_character cL_character 5 (some .int) [(0, 10, 13, 29)]) rL_character (zPc E Y σ sz [.ref (za Y t0), .int v1, .int v2, .ref (za Y t3)]) (va_Qi Q (zB E Y sz) (zA Y sz)) 1 6 (zA Y sz) := by
  refine z_metH (hh := [(0, 10, 13, 29)]) (own := RL) (Qc := fun sz => va_Qi Q (zB E Y sz) (zA Y sz)) (by decide +kernel) rfl (Nat.le_of_ble_eq_true rfl) ?_
  intro p e s m args below meth c hG htab
  unfold wL_character at hw
  refine zlv (lv' := [(0, .ref (za Y t0)), (1, .int v1), (2, .int v2), (3, .ref (za Y t3))]) rfl ?_
  refine z_aload_n hG dL_character_0 rfl 3 rfl ?_
  refine z_iconst (v := 0) hG dL_character_1 (by decide) ?_
  refine z_aload_n hG dL_character_2 rfl 0 rfl ?_
  refine z_iload_n hG dL_character_3 rfl 1 rfl ?_
  refine z_iload_n hG dL_character_4 rfl 2 rfl ?_
  refine z_callHi hG htab (z_runXV (As := [.int v1, .int v2]) (st := [.int 0, .ref (za Y t3)]) hG k_L_37 (MxX11_character l hlt h0 hw) rfl rfl ⟨(Nat.le_of_ble_eq_true rfl), (Nat.le_of_ble_eq_true rfl)⟩ h0 (T := TX11) (N := 9) rfl (by decide) rfl (Nat.le_of_ble_eq_true rfl) dL_character_5 ⟨show 0 + 1 ≤ 1 from by omega, show 0 + 6 ≤ 6 from by omega⟩ rfl) (fun E5 σ3 q4 hw => ?_) (fun r2 σ1 hw => ?_)
  · obtain ⟨hE, hw⟩ := hw
    subst hE
    refine ⟨13, zc_L_character_13, zwiden (k := 1) (n := 6) (show 0 + 1 ≤ 1 from by omega) (show 0 + 6 ≤ 6 from by omega) ?_⟩
    refine zwiden (k := 1) (n := 6) (Nat.le_refl _) (Nat.le_refl _) ?_
    refine z_astore (lv' := [(4, .ref q4), (0, .ref (za Y t0)), (1, .int v1), (2, .int v2), (3, .ref (za Y t3))]) hG dL_character_13 (by decide) rfl ?_
    refine z_iconst (v := 1) hG dL_character_15 (by decide) ?_
    refine zwiden (k := 1) (n := 6) (by omega) (by omega) ?_
    exact z_iret hG rfl rfl dL_character_16 hw
  · skip
    refine zwiden (k := 1) (n := 6) (show 0 + 1 ≤ 1 from by omega) (show 0 + 6 ≤ 6 from by omega) ?_
    refine z_i2l hG dL_character_8 ?_
    refine z_topl (fun x6 ex6 => ?_)
    have hw := hw x6 ex6
    obtain ⟨q7, hw⟩ := hw
    refine z_last hG h3 q7 dL_character_9 ?_
    refine z_topσ (fun σ8 eσ8 => ?_)
    have hw := hw σ8 eσ8
    refine z_goto (tgt := 17) hG dL_character_10 (by decide) ?_
    refine z_iconst (v := 0) hG dL_character_17 (by decide) ?_
    refine zwiden (k := 1) (n := 6) (by omega) (by omega) ?_
    exact z_iret hG rfl rfl dL_character_18 hw
-- TypeWheelTelegraphLaw.lineCount(LTypeWheelTelegraph;I[J)I
def wL_lineCount (ln : Nat → Nat) (σ : zS) (t0 : Nat) (v1 : Int32) (t2 : Nat) (Q : Int32 → zS → Prop) : Prop := wxX11_lineCount ln σ t0 v1 (fun r2 σ1 => ∀ x6 : Int64, x6 = r2.toInt64 → vp_in (0 : Int32) (ln t2) ∧ ∀ σ8 : zS, σ8 = sl σ1 t2 (0 : Int32).toNatClampNeg x6 → Q 0 σ8) (fun E5 σ3 => E5 = "java/lang/IndexOutOfBoundsException" ∧ Q 1 σ3)
abbrev rL_lineCount : Room := { frames := 9, cells := 1, slots := 6, locals := 162 }
set_option maxRecDepth 100000 in
set_option maxHeartbeats 4000000 in
theorem ML_lineCount (l : Launch) (hlt : l.stackTraces = false) {E : zE} {Y : zY} {σ : zS} {t0 : Nat} {v1 : Int32} {t2 : Nat} (h0 : zT Y 11 t0) (h2 : zT Y 24 t2) {Q : Int32 → zS → Prop} (hw : wL_lineCount (zln Y) σ t0 v1 t2 Q) : ∀ sz, Met l yL_lineCount (zwH yL_lineCount cL_lineCount 4 (some .int) [(0, 9, 12, 29)]) rL_lineCount (zPc E Y σ sz [.ref (za Y t0), .int v1, .ref (za Y t2)]) (va_Qi Q (zB E Y sz) (zA Y sz)) 1 6 (zA Y sz) := by
  refine z_metH (hh := [(0, 9, 12, 29)]) (own := RL) (Qc := fun sz => va_Qi Q (zB E Y sz) (zA Y sz)) (by decide +kernel) rfl (Nat.le_of_ble_eq_true rfl) ?_
  intro p e s m args below meth c hG htab
  unfold wL_lineCount at hw
  refine zlv (lv' := [(0, .ref (za Y t0)), (1, .int v1), (2, .ref (za Y t2))]) rfl ?_
  refine z_aload_n hG dL_lineCount_0 rfl 2 rfl ?_
  refine z_iconst (v := 0) hG dL_lineCount_1 (by decide) ?_
  refine z_aload_n hG dL_lineCount_2 rfl 0 rfl ?_
  refine z_iload_n hG dL_lineCount_3 rfl 1 rfl ?_
  refine z_callHi hG htab (z_runXV (As := [.int v1]) (st := [.int 0, .ref (za Y t2)]) hG k_L_41 (MxX11_lineCount l hlt h0 hw) rfl rfl ⟨(Nat.le_of_ble_eq_true rfl), (Nat.le_of_ble_eq_true rfl)⟩ h0 (T := TX11) (N := 9) rfl (by decide) rfl (Nat.le_of_ble_eq_true rfl) dL_lineCount_4 ⟨show 0 + 1 ≤ 1 from by omega, show 0 + 6 ≤ 6 from by omega⟩ rfl) (fun E5 σ3 q4 hw => ?_) (fun r2 σ1 hw => ?_)
  · obtain ⟨hE, hw⟩ := hw
    subst hE
    refine ⟨12, zc_L_lineCount_12, zwiden (k := 1) (n := 6) (show 0 + 1 ≤ 1 from by omega) (show 0 + 6 ≤ 6 from by omega) ?_⟩
    refine zwiden (k := 1) (n := 6) (Nat.le_refl _) (Nat.le_refl _) ?_
    refine z_astore_n (lv' := [(3, .ref q4), (0, .ref (za Y t0)), (1, .int v1), (2, .ref (za Y t2))]) hG dL_lineCount_12 rfl (by decide) rfl ?_
    refine z_iconst (v := 1) hG dL_lineCount_13 (by decide) ?_
    refine zwiden (k := 1) (n := 6) (by omega) (by omega) ?_
    exact z_iret hG rfl rfl dL_lineCount_14 hw
  · skip
    refine zwiden (k := 1) (n := 6) (show 0 + 1 ≤ 1 from by omega) (show 0 + 6 ≤ 6 from by omega) ?_
    refine z_i2l hG dL_lineCount_7 ?_
    refine z_topl (fun x6 ex6 => ?_)
    have hw := hw x6 ex6
    obtain ⟨q7, hw⟩ := hw
    refine z_last hG h2 q7 dL_lineCount_8 ?_
    refine z_topσ (fun σ8 eσ8 => ?_)
    have hw := hw σ8 eσ8
    refine z_goto (tgt := 15) hG dL_lineCount_9 (by decide) ?_
    refine z_iconst (v := 0) hG dL_lineCount_15 (by decide) ?_
    refine zwiden (k := 1) (n := 6) (by omega) (by omega) ?_
    exact z_iret hG rfl rfl dL_lineCount_16 hw
-- TypeWheelTelegraphLaw.linesDone(LTypeWheelTelegraph;I[J)I
def wL_linesDone (ln : Nat → Nat) (σ : zS) (t0 : Nat) (v1 : Int32) (t2 : Nat) (Q : Int32 → zS → Prop) : Prop := wxX11_linesDone ln σ t0 v1 (fun r2 σ1 => ∀ x6 : Int64, x6 = r2.toInt64 → vp_in (0 : Int32) (ln t2) ∧ ∀ σ8 : zS, σ8 = sl σ1 t2 (0 : Int32).toNatClampNeg x6 → Q 0 σ8) (fun E5 σ3 => E5 = "java/lang/IndexOutOfBoundsException" ∧ Q 1 σ3)
abbrev rL_linesDone : Room := { frames := 9, cells := 1, slots := 6, locals := 162 }
set_option maxRecDepth 100000 in
set_option maxHeartbeats 4000000 in
theorem ML_linesDone (l : Launch) (hlt : l.stackTraces = false) {E : zE} {Y : zY} {σ : zS} {t0 : Nat} {v1 : Int32} {t2 : Nat} (h0 : zT Y 11 t0) (h2 : zT Y 24 t2) {Q : Int32 → zS → Prop} (hw : wL_linesDone (zln Y) σ t0 v1 t2 Q) : ∀ sz, Met l yL_linesDone (zwH yL_linesDone cL_linesDone 4 (some .int) [(0, 9, 12, 29)]) rL_linesDone (zPc E Y σ sz [.ref (za Y t0), .int v1, .ref (za Y t2)]) (va_Qi Q (zB E Y sz) (zA Y sz)) 1 6 (zA Y sz) := by
  refine z_metH (hh := [(0, 9, 12, 29)]) (own := RL) (Qc := fun sz => va_Qi Q (zB E Y sz) (zA Y sz)) (by decide +kernel) rfl (Nat.le_of_ble_eq_true rfl) ?_
  intro p e s m args below meth c hG htab
  unfold wL_linesDone at hw
  refine zlv (lv' := [(0, .ref (za Y t0)), (1, .int v1), (2, .ref (za Y t2))]) rfl ?_
  refine z_aload_n hG dL_linesDone_0 rfl 2 rfl ?_
  refine z_iconst (v := 0) hG dL_linesDone_1 (by decide) ?_
  refine z_aload_n hG dL_linesDone_2 rfl 0 rfl ?_
  refine z_iload_n hG dL_linesDone_3 rfl 1 rfl ?_
  refine z_callHi hG htab (z_runXV (As := [.int v1]) (st := [.int 0, .ref (za Y t2)]) hG k_L_44 (MxX11_linesDone l hlt h0 hw) rfl rfl ⟨(Nat.le_of_ble_eq_true rfl), (Nat.le_of_ble_eq_true rfl)⟩ h0 (T := TX11) (N := 9) rfl (by decide) rfl (Nat.le_of_ble_eq_true rfl) dL_linesDone_4 ⟨show 0 + 1 ≤ 1 from by omega, show 0 + 6 ≤ 6 from by omega⟩ rfl) (fun E5 σ3 q4 hw => ?_) (fun r2 σ1 hw => ?_)
  · obtain ⟨hE, hw⟩ := hw
    subst hE
    refine ⟨12, zc_L_linesDone_12, zwiden (k := 1) (n := 6) (show 0 + 1 ≤ 1 from by omega) (show 0 + 6 ≤ 6 from by omega) ?_⟩
    refine zwiden (k := 1) (n := 6) (Nat.le_refl _) (Nat.le_refl _) ?_
    refine z_astore_n (lv' := [(3, .ref q4), (0, .ref (za Y t0)), (1, .int v1), (2, .ref (za Y t2))]) hG dL_linesDone_12 rfl (by decide) rfl ?_
    refine z_iconst (v := 1) hG dL_linesDone_13 (by decide) ?_
    refine zwiden (k := 1) (n := 6) (by omega) (by omega) ?_
    exact z_iret hG rfl rfl dL_linesDone_14 hw
  · skip
    refine zwiden (k := 1) (n := 6) (show 0 + 1 ≤ 1 from by omega) (show 0 + 6 ≤ 6 from by omega) ?_
    refine z_i2l hG dL_linesDone_7 ?_
    refine z_topl (fun x6 ex6 => ?_)
    have hw := hw x6 ex6
    obtain ⟨q7, hw⟩ := hw
    refine z_last hG h2 q7 dL_linesDone_8 ?_
    refine z_topσ (fun σ8 eσ8 => ?_)
    have hw := hw σ8 eσ8
    refine z_goto (tgt := 15) hG dL_linesDone_9 (by decide) ?_
    refine z_iconst (v := 0) hG dL_linesDone_15 (by decide) ?_
    refine zwiden (k := 1) (n := 6) (by omega) (by omega) ?_
    exact z_iret hG rfl rfl dL_linesDone_16 hw
-- TypeWheelTelegraphLaw.lineLength(LTypeWheelTelegraph;II[J)I
def wL_lineLength (ln : Nat → Nat) (σ : zS) (t0 : Nat) (v1 : Int32) (v2 : Int32) (t3 : Nat) (Q : Int32 → zS → Prop) : Prop := wxX11_lineLength ln σ t0 v1 v2 (fun r2 σ1 => ∀ x6 : Int64, x6 = r2.toInt64 → vp_in (0 : Int32) (ln t3) ∧ ∀ σ8 : zS, σ8 = sl σ1 t3 (0 : Int32).toNatClampNeg x6 → Q 0 σ8) (fun E5 σ3 => E5 = "java/lang/IndexOutOfBoundsException" ∧ Q 1 σ3)
abbrev rL_lineLength : Room := { frames := 10, cells := 2, slots := 12, locals := 186 }
set_option maxRecDepth 100000 in
set_option maxHeartbeats 4000000 in
theorem ML_lineLength (l : Launch) (hlt : l.stackTraces = false) {E : zE} {Y : zY} {σ : zS} {t0 : Nat} {v1 : Int32} {v2 : Int32} {t3 : Nat} (h0 : zT Y 11 t0) (h3 : zT Y 24 t3) {Q : Int32 → zS → Prop} (hw : wL_lineLength (zln Y) σ t0 v1 v2 t3 Q) : ∀ sz, Met l yL_lineLength (zwH yL_lineLength cL_lineLength 5 (some .int) [(0, 10, 13, 29)]) rL_lineLength (zPc E Y σ sz [.ref (za Y t0), .int v1, .int v2, .ref (za Y t3)]) (va_Qi Q (zB E Y sz) (zA Y sz)) 2 12 (zA Y sz) := by
  refine z_metH (hh := [(0, 10, 13, 29)]) (own := RL) (Qc := fun sz => va_Qi Q (zB E Y sz) (zA Y sz)) (by decide +kernel) rfl (Nat.le_of_ble_eq_true rfl) ?_
  intro p e s m args below meth c hG htab
  unfold wL_lineLength at hw
  refine zlv (lv' := [(0, .ref (za Y t0)), (1, .int v1), (2, .int v2), (3, .ref (za Y t3))]) rfl ?_
  refine z_aload_n hG dL_lineLength_0 rfl 3 rfl ?_
  refine z_iconst (v := 0) hG dL_lineLength_1 (by decide) ?_
  refine z_aload_n hG dL_lineLength_2 rfl 0 rfl ?_
  refine z_iload_n hG dL_lineLength_3 rfl 1 rfl ?_
  refine z_iload_n hG dL_lineLength_4 rfl 2 rfl ?_
  refine z_callHi hG htab (z_runXV (As := [.int v1, .int v2]) (st := [.int 0, .ref (za Y t3)]) hG k_L_47 (MxX11_lineLength l hlt h0 hw) rfl rfl ⟨(Nat.le_of_ble_eq_true rfl), (Nat.le_of_ble_eq_true rfl)⟩ h0 (T := TX11) (N := 9) rfl (by decide) rfl (Nat.le_of_ble_eq_true rfl) dL_lineLength_5 ⟨show 0 + 2 ≤ 2 from by omega, show 0 + 12 ≤ 12 from by omega⟩ rfl) (fun E5 σ3 q4 hw => ?_) (fun r2 σ1 hw => ?_)
  · obtain ⟨hE, hw⟩ := hw
    subst hE
    refine ⟨13, zc_L_lineLength_13, zwiden (k := 2) (n := 12) (show 0 + 2 ≤ 2 from by omega) (show 0 + 12 ≤ 12 from by omega) ?_⟩
    refine zwiden (k := 2) (n := 12) (Nat.le_refl _) (Nat.le_refl _) ?_
    refine z_astore (lv' := [(4, .ref q4), (0, .ref (za Y t0)), (1, .int v1), (2, .int v2), (3, .ref (za Y t3))]) hG dL_lineLength_13 (by decide) rfl ?_
    refine z_iconst (v := 1) hG dL_lineLength_15 (by decide) ?_
    refine zwiden (k := 2) (n := 12) (by omega) (by omega) ?_
    exact z_iret hG rfl rfl dL_lineLength_16 hw
  · skip
    refine zwiden (k := 2) (n := 12) (show 0 + 2 ≤ 2 from by omega) (show 0 + 12 ≤ 12 from by omega) ?_
    refine z_i2l hG dL_lineLength_8 ?_
    refine z_topl (fun x6 ex6 => ?_)
    have hw := hw x6 ex6
    obtain ⟨q7, hw⟩ := hw
    refine z_last hG h3 q7 dL_lineLength_9 ?_
    refine z_topσ (fun σ8 eσ8 => ?_)
    have hw := hw σ8 eσ8
    refine z_goto (tgt := 17) hG dL_lineLength_10 (by decide) ?_
    refine z_iconst (v := 0) hG dL_lineLength_17 (by decide) ?_
    refine zwiden (k := 2) (n := 12) (by omega) (by omega) ?_
    exact z_iret hG rfl rfl dL_lineLength_18 hw
-- TypeWheelTelegraphLaw.pulsesOf(LTypeWheelTelegraph;II[J)I
def wL_pulsesOf (ln : Nat → Nat) (σ : zS) (t0 : Nat) (v1 : Int32) (v2 : Int32) (t3 : Nat) (Q : Int32 → zS → Prop) : Prop := wxX11_pulsesOf ln σ t0 v1 v2 (fun r2 σ1 => ∀ x6 : Int64, x6 = r2.toInt64 → vp_in (0 : Int32) (ln t3) ∧ ∀ σ8 : zS, σ8 = sl σ1 t3 (0 : Int32).toNatClampNeg x6 → Q 0 σ8) (fun E5 σ3 => E5 = "java/lang/IndexOutOfBoundsException" ∧ Q 1 σ3)
abbrev rL_pulsesOf : Room := { frames := 10, cells := 2, slots := 12, locals := 186 }
set_option maxRecDepth 100000 in
set_option maxHeartbeats 4000000 in
theorem ML_pulsesOf (l : Launch) (hlt : l.stackTraces = false) {E : zE} {Y : zY} {σ : zS} {t0 : Nat} {v1 : Int32} {v2 : Int32} {t3 : Nat} (h0 : zT Y 11 t0) (h3 : zT Y 24 t3) {Q : Int32 → zS → Prop} (hw : wL_pulsesOf (zln Y) σ t0 v1 v2 t3 Q) : ∀ sz, Met l yL_pulsesOf (zwH yL_pulsesOf cL_pulsesOf 5 (some .int) [(0, 10, 13, 29)]) rL_pulsesOf (zPc E Y σ sz [.ref (za Y t0), .int v1, .int v2, .ref (za Y t3)]) (va_Qi Q (zB E Y sz) (zA Y sz)) 2 12 (zA Y sz) := by
  refine z_metH (hh := [(0, 10, 13, 29)]) (own := RL) (Qc := fun sz => va_Qi Q (zB E Y sz) (zA Y sz)) (by decide +kernel) rfl (Nat.le_of_ble_eq_true rfl) ?_
  intro p e s m args below meth c hG htab
  unfold wL_pulsesOf at hw
  refine zlv (lv' := [(0, .ref (za Y t0)), (1, .int v1), (2, .int v2), (3, .ref (za Y t3))]) rfl ?_
  refine z_aload_n hG dL_pulsesOf_0 rfl 3 rfl ?_
  refine z_iconst (v := 0) hG dL_pulsesOf_1 (by decide) ?_
  refine z_aload_n hG dL_pulsesOf_2 rfl 0 rfl ?_
  refine z_iload_n hG dL_pulsesOf_3 rfl 1 rfl ?_
  refine z_iload_n hG dL_pulsesOf_4 rfl 2 rfl ?_
  refine z_callHi hG htab (z_runXV (As := [.int v1, .int v2]) (st := [.int 0, .ref (za Y t3)]) hG k_L_51 (MxX11_pulsesOf l hlt h0 hw) rfl rfl ⟨(Nat.le_of_ble_eq_true rfl), (Nat.le_of_ble_eq_true rfl)⟩ h0 (T := TX11) (N := 9) rfl (by decide) rfl (Nat.le_of_ble_eq_true rfl) dL_pulsesOf_5 ⟨show 0 + 2 ≤ 2 from by omega, show 0 + 12 ≤ 12 from by omega⟩ rfl) (fun E5 σ3 q4 hw => ?_) (fun r2 σ1 hw => ?_)
  · obtain ⟨hE, hw⟩ := hw
    subst hE
    refine ⟨13, zc_L_pulsesOf_13, zwiden (k := 2) (n := 12) (show 0 + 2 ≤ 2 from by omega) (show 0 + 12 ≤ 12 from by omega) ?_⟩
    refine zwiden (k := 2) (n := 12) (Nat.le_refl _) (Nat.le_refl _) ?_
    refine z_astore (lv' := [(4, .ref q4), (0, .ref (za Y t0)), (1, .int v1), (2, .int v2), (3, .ref (za Y t3))]) hG dL_pulsesOf_13 (by decide) rfl ?_
    refine z_iconst (v := 1) hG dL_pulsesOf_15 (by decide) ?_
    refine zwiden (k := 2) (n := 12) (by omega) (by omega) ?_
    exact z_iret hG rfl rfl dL_pulsesOf_16 hw
  · skip
    refine zwiden (k := 2) (n := 12) (show 0 + 2 ≤ 2 from by omega) (show 0 + 12 ≤ 12 from by omega) ?_
    refine z_i2l hG dL_pulsesOf_8 ?_
    refine z_topl (fun x6 ex6 => ?_)
    have hw := hw x6 ex6
    obtain ⟨q7, hw⟩ := hw
    refine z_last hG h3 q7 dL_pulsesOf_9 ?_
    refine z_topσ (fun σ8 eσ8 => ?_)
    have hw := hw σ8 eσ8
    refine z_goto (tgt := 17) hG dL_pulsesOf_10 (by decide) ?_
    refine z_iconst (v := 0) hG dL_pulsesOf_17 (by decide) ?_
    refine zwiden (k := 2) (n := 12) (by omega) (by omega) ?_
    exact z_iret hG rfl rfl dL_pulsesOf_18 hw
-- TypeWheelTelegraphLaw.pulseOf(LTypeWheelTelegraph;III[J)I
def wL_pulseOf (ln : Nat → Nat) (σ : zS) (t0 : Nat) (v1 : Int32) (v2 : Int32) (v3 : Int32) (t4 : Nat) (Q : Int32 → zS → Prop) : Prop := wxX11_pulseOf ln σ t0 v1 v2 v3 (fun r2 σ1 => ∀ x6 : Int64, x6 = r2.toInt64 → vp_in (0 : Int32) (ln t4) ∧ ∀ σ8 : zS, σ8 = sl σ1 t4 (0 : Int32).toNatClampNeg x6 → Q 0 σ8) (fun E5 σ3 => E5 = "java/lang/IndexOutOfBoundsException" ∧ Q 1 σ3)
abbrev rL_pulseOf : Room := { frames := 10, cells := 3, slots := 18, locals := 187 }
set_option maxRecDepth 100000 in
set_option maxHeartbeats 4000000 in
theorem ML_pulseOf (l : Launch) (hlt : l.stackTraces = false) {E : zE} {Y : zY} {σ : zS} {t0 : Nat} {v1 : Int32} {v2 : Int32} {v3 : Int32} {t4 : Nat} (h0 : zT Y 11 t0) (h4 : zT Y 24 t4) {Q : Int32 → zS → Prop} (hw : wL_pulseOf (zln Y) σ t0 v1 v2 v3 t4 Q) : ∀ sz, Met l yL_pulseOf (zwH yL_pulseOf cL_pulseOf 6 (some .int) [(0, 12, 15, 29)]) rL_pulseOf (zPc E Y σ sz [.ref (za Y t0), .int v1, .int v2, .int v3, .ref (za Y t4)]) (va_Qi Q (zB E Y sz) (zA Y sz)) 3 18 (zA Y sz) := by
  refine z_metH (hh := [(0, 12, 15, 29)]) (own := RL) (Qc := fun sz => va_Qi Q (zB E Y sz) (zA Y sz)) (by decide +kernel) rfl (Nat.le_of_ble_eq_true rfl) ?_
  intro p e s m args below meth c hG htab
  unfold wL_pulseOf at hw
  refine zlv (lv' := [(0, .ref (za Y t0)), (1, .int v1), (2, .int v2), (3, .int v3), (4, .ref (za Y t4))]) rfl ?_
  refine z_aload hG dL_pulseOf_0 4 rfl ?_
  refine z_iconst (v := 0) hG dL_pulseOf_2 (by decide) ?_
  refine z_aload_n hG dL_pulseOf_3 rfl 0 rfl ?_
  refine z_iload_n hG dL_pulseOf_4 rfl 1 rfl ?_
  refine z_iload_n hG dL_pulseOf_5 rfl 2 rfl ?_
  refine z_iload_n hG dL_pulseOf_6 rfl 3 rfl ?_
  refine z_callHi hG htab (z_runXV (As := [.int v1, .int v2, .int v3]) (st := [.int 0, .ref (za Y t4)]) hG k_L_54 (MxX11_pulseOf l hlt h0 hw) rfl rfl ⟨(Nat.le_of_ble_eq_true rfl), (Nat.le_of_ble_eq_true rfl)⟩ h0 (T := TX11) (N := 9) rfl (by decide) rfl (Nat.le_of_ble_eq_true rfl) dL_pulseOf_7 ⟨show 0 + 3 ≤ 3 from by omega, show 0 + 18 ≤ 18 from by omega⟩ rfl) (fun E5 σ3 q4 hw => ?_) (fun r2 σ1 hw => ?_)
  · obtain ⟨hE, hw⟩ := hw
    subst hE
    refine ⟨15, zc_L_pulseOf_15, zwiden (k := 3) (n := 18) (show 0 + 3 ≤ 3 from by omega) (show 0 + 18 ≤ 18 from by omega) ?_⟩
    refine zwiden (k := 3) (n := 18) (Nat.le_refl _) (Nat.le_refl _) ?_
    refine z_astore (lv' := [(5, .ref q4), (0, .ref (za Y t0)), (1, .int v1), (2, .int v2), (3, .int v3), (4, .ref (za Y t4))]) hG dL_pulseOf_15 (by decide) rfl ?_
    refine z_iconst (v := 1) hG dL_pulseOf_17 (by decide) ?_
    refine zwiden (k := 3) (n := 18) (by omega) (by omega) ?_
    exact z_iret hG rfl rfl dL_pulseOf_18 hw
  · skip
    refine zwiden (k := 3) (n := 18) (show 0 + 3 ≤ 3 from by omega) (show 0 + 18 ≤ 18 from by omega) ?_
    refine z_i2l hG dL_pulseOf_10 ?_
    refine z_topl (fun x6 ex6 => ?_)
    have hw := hw x6 ex6
    obtain ⟨q7, hw⟩ := hw
    refine z_last hG h4 q7 dL_pulseOf_11 ?_
    refine z_topσ (fun σ8 eσ8 => ?_)
    have hw := hw σ8 eσ8
    refine z_goto (tgt := 19) hG dL_pulseOf_12 (by decide) ?_
    refine z_iconst (v := 0) hG dL_pulseOf_19 (by decide) ?_
    refine zwiden (k := 3) (n := 18) (by omega) (by omega) ?_
    exact z_iret hG rfl rfl dL_pulseOf_20 hw
-- TypeWheelTelegraphLaw.ticksFor(LTypeWheelTelegraph;II[J)I
def wL_ticksFor (ln : Nat → Nat) (σ : zS) (t0 : Nat) (v1 : Int32) (v2 : Int32) (t3 : Nat) (Q : Int32 → zS → Prop) : Prop := wxX11_ticksFor ln σ t0 v1 v2 (fun r2 σ1 => ∀ x6 : Int64, x6 = r2.toInt64 → vp_in (0 : Int32) (ln t3) ∧ ∀ σ8 : zS, σ8 = sl σ1 t3 (0 : Int32).toNatClampNeg x6 → Q 0 σ8) (fun E5 σ3 => E5 = "java/lang/IndexOutOfBoundsException" ∧ Q 1 σ3)
abbrev rL_ticksFor : Room := { frames := 10, cells := 3, slots := 18, locals := 186 }
set_option maxRecDepth 100000 in
set_option maxHeartbeats 4000000 in
theorem ML_ticksFor (l : Launch) (hlt : l.stackTraces = false) {E : zE} {Y : zY} {σ : zS} {t0 : Nat} {v1 : Int32} {v2 : Int32} {t3 : Nat} (h0 : zT Y 11 t0) (h3 : zT Y 24 t3) {Q : Int32 → zS → Prop} (hw : wL_ticksFor (zln Y) σ t0 v1 v2 t3 Q) : ∀ sz, Met l yL_ticksFor (zwH yL_ticksFor cL_ticksFor 5 (some .int) [(0, 10, 13, 29)]) rL_ticksFor (zPc E Y σ sz [.ref (za Y t0), .int v1, .int v2, .ref (za Y t3)]) (va_Qi Q (zB E Y sz) (zA Y sz)) 3 18 (zA Y sz) := by
  refine z_metH (hh := [(0, 10, 13, 29)]) (own := RL) (Qc := fun sz => va_Qi Q (zB E Y sz) (zA Y sz)) (by decide +kernel) rfl (Nat.le_of_ble_eq_true rfl) ?_
  intro p e s m args below meth c hG htab
  unfold wL_ticksFor at hw
  refine zlv (lv' := [(0, .ref (za Y t0)), (1, .int v1), (2, .int v2), (3, .ref (za Y t3))]) rfl ?_
  refine z_aload_n hG dL_ticksFor_0 rfl 3 rfl ?_
  refine z_iconst (v := 0) hG dL_ticksFor_1 (by decide) ?_
  refine z_aload_n hG dL_ticksFor_2 rfl 0 rfl ?_
  refine z_iload_n hG dL_ticksFor_3 rfl 1 rfl ?_
  refine z_iload_n hG dL_ticksFor_4 rfl 2 rfl ?_
  refine z_callHi hG htab (z_runXV (As := [.int v1, .int v2]) (st := [.int 0, .ref (za Y t3)]) hG k_L_58 (MxX11_ticksFor l hlt h0 hw) rfl rfl ⟨(Nat.le_of_ble_eq_true rfl), (Nat.le_of_ble_eq_true rfl)⟩ h0 (T := TX11) (N := 9) rfl (by decide) rfl (Nat.le_of_ble_eq_true rfl) dL_ticksFor_5 ⟨show 0 + 3 ≤ 3 from by omega, show 0 + 18 ≤ 18 from by omega⟩ rfl) (fun E5 σ3 q4 hw => ?_) (fun r2 σ1 hw => ?_)
  · obtain ⟨hE, hw⟩ := hw
    subst hE
    refine ⟨13, zc_L_ticksFor_13, zwiden (k := 3) (n := 18) (show 0 + 3 ≤ 3 from by omega) (show 0 + 18 ≤ 18 from by omega) ?_⟩
    refine zwiden (k := 3) (n := 18) (Nat.le_refl _) (Nat.le_refl _) ?_
    refine z_astore (lv' := [(4, .ref q4), (0, .ref (za Y t0)), (1, .int v1), (2, .int v2), (3, .ref (za Y t3))]) hG dL_ticksFor_13 (by decide) rfl ?_
    refine z_iconst (v := 1) hG dL_ticksFor_15 (by decide) ?_
    refine zwiden (k := 3) (n := 18) (by omega) (by omega) ?_
    exact z_iret hG rfl rfl dL_ticksFor_16 hw
  · skip
    refine zwiden (k := 3) (n := 18) (show 0 + 3 ≤ 3 from by omega) (show 0 + 18 ≤ 18 from by omega) ?_
    refine z_i2l hG dL_ticksFor_8 ?_
    refine z_topl (fun x6 ex6 => ?_)
    have hw := hw x6 ex6
    obtain ⟨q7, hw⟩ := hw
    refine z_last hG h3 q7 dL_ticksFor_9 ?_
    refine z_topσ (fun σ8 eσ8 => ?_)
    have hw := hw σ8 eσ8
    refine z_goto (tgt := 17) hG dL_ticksFor_10 (by decide) ?_
    refine z_iconst (v := 0) hG dL_ticksFor_17 (by decide) ?_
    refine zwiden (k := 3) (n := 18) (by omega) (by omega) ?_
    exact z_iret hG rfl rfl dL_ticksFor_18 hw
-- TypeWheelTelegraphLaw.slowestLine(LTypeWheelTelegraph;I[J)I
def wL_slowestLine (ln : Nat → Nat) (σ : zS) (t0 : Nat) (v1 : Int32) (t2 : Nat) (Q : Int32 → zS → Prop) : Prop := wxX11_slowestLine ln σ t0 v1 (fun r2 σ1 => ∀ x6 : Int64, x6 = r2.toInt64 → vp_in (0 : Int32) (ln t2) ∧ ∀ σ8 : zS, σ8 = sl σ1 t2 (0 : Int32).toNatClampNeg x6 → Q 0 σ8) (fun E5 σ3 => E5 = "java/lang/IndexOutOfBoundsException" ∧ Q 1 σ3)
abbrev rL_slowestLine : Room := { frames := 9, cells := 1, slots := 6, locals := 167 }
set_option maxRecDepth 100000 in
set_option maxHeartbeats 4000000 in
theorem ML_slowestLine (l : Launch) (hlt : l.stackTraces = false) {E : zE} {Y : zY} {σ : zS} {t0 : Nat} {v1 : Int32} {t2 : Nat} (h0 : zT Y 11 t0) (h2 : zT Y 24 t2) {Q : Int32 → zS → Prop} (hw : wL_slowestLine (zln Y) σ t0 v1 t2 Q) : ∀ sz, Met l yL_slowestLine (zwH yL_slowestLine cL_slowestLine 4 (some .int) [(0, 9, 12, 29)]) rL_slowestLine (zPc E Y σ sz [.ref (za Y t0), .int v1, .ref (za Y t2)]) (va_Qi Q (zB E Y sz) (zA Y sz)) 1 6 (zA Y sz) := by
  refine z_metH (hh := [(0, 9, 12, 29)]) (own := RL) (Qc := fun sz => va_Qi Q (zB E Y sz) (zA Y sz)) (by decide +kernel) rfl (Nat.le_of_ble_eq_true rfl) ?_
  intro p e s m args below meth c hG htab
  unfold wL_slowestLine at hw
  refine zlv (lv' := [(0, .ref (za Y t0)), (1, .int v1), (2, .ref (za Y t2))]) rfl ?_
  refine z_aload_n hG dL_slowestLine_0 rfl 2 rfl ?_
  refine z_iconst (v := 0) hG dL_slowestLine_1 (by decide) ?_
  refine z_aload_n hG dL_slowestLine_2 rfl 0 rfl ?_
  refine z_iload_n hG dL_slowestLine_3 rfl 1 rfl ?_
  refine z_callHi hG htab (z_runXV (As := [.int v1]) (st := [.int 0, .ref (za Y t2)]) hG k_L_61 (MxX11_slowestLine l hlt h0 hw) rfl rfl ⟨(Nat.le_of_ble_eq_true rfl), (Nat.le_of_ble_eq_true rfl)⟩ h0 (T := TX11) (N := 9) rfl (by decide) rfl (Nat.le_of_ble_eq_true rfl) dL_slowestLine_4 ⟨show 0 + 1 ≤ 1 from by omega, show 0 + 6 ≤ 6 from by omega⟩ rfl) (fun E5 σ3 q4 hw => ?_) (fun r2 σ1 hw => ?_)
  · obtain ⟨hE, hw⟩ := hw
    subst hE
    refine ⟨12, zc_L_slowestLine_12, zwiden (k := 1) (n := 6) (show 0 + 1 ≤ 1 from by omega) (show 0 + 6 ≤ 6 from by omega) ?_⟩
    refine zwiden (k := 1) (n := 6) (Nat.le_refl _) (Nat.le_refl _) ?_
    refine z_astore_n (lv' := [(3, .ref q4), (0, .ref (za Y t0)), (1, .int v1), (2, .ref (za Y t2))]) hG dL_slowestLine_12 rfl (by decide) rfl ?_
    refine z_iconst (v := 1) hG dL_slowestLine_13 (by decide) ?_
    refine zwiden (k := 1) (n := 6) (by omega) (by omega) ?_
    exact z_iret hG rfl rfl dL_slowestLine_14 hw
  · skip
    refine zwiden (k := 1) (n := 6) (show 0 + 1 ≤ 1 from by omega) (show 0 + 6 ≤ 6 from by omega) ?_
    refine z_i2l hG dL_slowestLine_7 ?_
    refine z_topl (fun x6 ex6 => ?_)
    have hw := hw x6 ex6
    obtain ⟨q7, hw⟩ := hw
    refine z_last hG h2 q7 dL_slowestLine_8 ?_
    refine z_topσ (fun σ8 eσ8 => ?_)
    have hw := hw σ8 eσ8
    refine z_goto (tgt := 15) hG dL_slowestLine_9 (by decide) ?_
    refine z_iconst (v := 0) hG dL_slowestLine_15 (by decide) ?_
    refine zwiden (k := 1) (n := 6) (by omega) (by omega) ?_
    exact z_iret hG rfl rfl dL_slowestLine_16 hw
-- TypeWheelTelegraphLaw.bufferCharacter(LTypeWheelTelegraph;I[J)I
def wL_bufferCharacter (ln : Nat → Nat) (σ : zS) (t0 : Nat) (v1 : Int32) (t2 : Nat) (Q : Int32 → zS → Prop) : Prop := wxX11_bufferCharacter ln σ t0 v1 (fun r2 σ1 => ∀ x6 : Int64, x6 = r2.toInt64 → vp_in (0 : Int32) (ln t2) ∧ ∀ σ8 : zS, σ8 = sl σ1 t2 (0 : Int32).toNatClampNeg x6 → Q 0 σ8) (fun E5 σ3 => E5 = "java/lang/IndexOutOfBoundsException" ∧ Q 1 σ3)
abbrev rL_bufferCharacter : Room := { frames := 8, cells := 1, slots := 6, locals := 142 }
set_option maxRecDepth 100000 in
set_option maxHeartbeats 4000000 in
theorem ML_bufferCharacter (l : Launch) (hlt : l.stackTraces = false) {E : zE} {Y : zY} {σ : zS} {t0 : Nat} {v1 : Int32} {t2 : Nat} (h0 : zT Y 11 t0) (h2 : zT Y 24 t2) {Q : Int32 → zS → Prop} (hw : wL_bufferCharacter (zln Y) σ t0 v1 t2 Q) : ∀ sz, Met l yL_bufferCharacter (zwH yL_bufferCharacter cL_bufferCharacter 4 (some .int) [(0, 9, 12, 29)]) rL_bufferCharacter (zPc E Y σ sz [.ref (za Y t0), .int v1, .ref (za Y t2)]) (va_Qi Q (zB E Y sz) (zA Y sz)) 1 6 (zA Y sz) := by
  refine z_metH (hh := [(0, 9, 12, 29)]) (own := RL) (Qc := fun sz => va_Qi Q (zB E Y sz) (zA Y sz)) (by decide +kernel) rfl (Nat.le_of_ble_eq_true rfl) ?_
  intro p e s m args below meth c hG htab
  unfold wL_bufferCharacter at hw
  refine zlv (lv' := [(0, .ref (za Y t0)), (1, .int v1), (2, .ref (za Y t2))]) rfl ?_
  refine z_aload_n hG dL_bufferCharacter_0 rfl 2 rfl ?_
  refine z_iconst (v := 0) hG dL_bufferCharacter_1 (by decide) ?_
  refine z_aload_n hG dL_bufferCharacter_2 rfl 0 rfl ?_
  refine z_iload_n hG dL_bufferCharacter_3 rfl 1 rfl ?_
  refine z_callHi hG htab (z_runXV (As := [.int v1]) (st := [.int 0, .ref (za Y t2)]) hG k_L_64 (MxX11_bufferCharacter l hlt h0 hw) rfl rfl ⟨(Nat.le_of_ble_eq_true rfl), (Nat.le_of_ble_eq_true rfl)⟩ h0 (T := TX11) (N := 9) rfl (by decide) rfl (Nat.le_of_ble_eq_true rfl) dL_bufferCharacter_4 ⟨show 0 + 1 ≤ 1 from by omega, show 0 + 6 ≤ 6 from by omega⟩ rfl) (fun E5 σ3 q4 hw => ?_) (fun r2 σ1 hw => ?_)
  · obtain ⟨hE, hw⟩ := hw
    subst hE
    refine ⟨12, zc_L_bufferCharacter_12, zwiden (k := 1) (n := 6) (show 0 + 1 ≤ 1 from by omega) (show 0 + 6 ≤ 6 from by omega) ?_⟩
    refine zwiden (k := 1) (n := 6) (Nat.le_refl _) (Nat.le_refl _) ?_
    refine z_astore_n (lv' := [(3, .ref q4), (0, .ref (za Y t0)), (1, .int v1), (2, .ref (za Y t2))]) hG dL_bufferCharacter_12 rfl (by decide) rfl ?_
    refine z_iconst (v := 1) hG dL_bufferCharacter_13 (by decide) ?_
    refine zwiden (k := 1) (n := 6) (by omega) (by omega) ?_
    exact z_iret hG rfl rfl dL_bufferCharacter_14 hw
  · skip
    refine zwiden (k := 1) (n := 6) (show 0 + 1 ≤ 1 from by omega) (show 0 + 6 ≤ 6 from by omega) ?_
    refine z_i2l hG dL_bufferCharacter_7 ?_
    refine z_topl (fun x6 ex6 => ?_)
    have hw := hw x6 ex6
    obtain ⟨q7, hw⟩ := hw
    refine z_last hG h2 q7 dL_bufferCharacter_8 ?_
    refine z_topσ (fun σ8 eσ8 => ?_)
    have hw := hw σ8 eσ8
    refine z_goto (tgt := 15) hG dL_bufferCharacter_9 (by decide) ?_
    refine z_iconst (v := 0) hG dL_bufferCharacter_15 (by decide) ?_
    refine zwiden (k := 1) (n := 6) (by omega) (by omega) ?_
    exact z_iret hG rfl rfl dL_bufferCharacter_16 hw
-- TypeWheelTelegraphLaw.receivedLength(LTypeWheelTelegraph;I[J)I
def wL_receivedLength (ln : Nat → Nat) (σ : zS) (t0 : Nat) (v1 : Int32) (t2 : Nat) (Q : Int32 → zS → Prop) : Prop := wxX11_receivedLength ln σ t0 v1 (fun r2 σ1 => ∀ x6 : Int64, x6 = r2.toInt64 → vp_in (0 : Int32) (ln t2) ∧ ∀ σ8 : zS, σ8 = sl σ1 t2 (0 : Int32).toNatClampNeg x6 → Q 0 σ8) (fun E5 σ3 => E5 = "java/lang/IndexOutOfBoundsException" ∧ Q 1 σ3)
abbrev rL_receivedLength : Room := { frames := 9, cells := 1, slots := 6, locals := 162 }
set_option maxRecDepth 100000 in
set_option maxHeartbeats 4000000 in
theorem ML_receivedLength (l : Launch) (hlt : l.stackTraces = false) {E : zE} {Y : zY} {σ : zS} {t0 : Nat} {v1 : Int32} {t2 : Nat} (h0 : zT Y 11 t0) (h2 : zT Y 24 t2) {Q : Int32 → zS → Prop} (hw : wL_receivedLength (zln Y) σ t0 v1 t2 Q) : ∀ sz, Met l yL_receivedLength (zwH yL_receivedLength cL_receivedLength 4 (some .int) [(0, 9, 12, 29)]) rL_receivedLength (zPc E Y σ sz [.ref (za Y t0), .int v1, .ref (za Y t2)]) (va_Qi Q (zB E Y sz) (zA Y sz)) 1 6 (zA Y sz) := by
  refine z_metH (hh := [(0, 9, 12, 29)]) (own := RL) (Qc := fun sz => va_Qi Q (zB E Y sz) (zA Y sz)) (by decide +kernel) rfl (Nat.le_of_ble_eq_true rfl) ?_
  intro p e s m args below meth c hG htab
  unfold wL_receivedLength at hw
  refine zlv (lv' := [(0, .ref (za Y t0)), (1, .int v1), (2, .ref (za Y t2))]) rfl ?_
  refine z_aload_n hG dL_receivedLength_0 rfl 2 rfl ?_
  refine z_iconst (v := 0) hG dL_receivedLength_1 (by decide) ?_
  refine z_aload_n hG dL_receivedLength_2 rfl 0 rfl ?_
  refine z_iload_n hG dL_receivedLength_3 rfl 1 rfl ?_
  refine z_callHi hG htab (z_runXV (As := [.int v1]) (st := [.int 0, .ref (za Y t2)]) hG k_L_68 (MxX11_receivedLength l hlt h0 hw) rfl rfl ⟨(Nat.le_of_ble_eq_true rfl), (Nat.le_of_ble_eq_true rfl)⟩ h0 (T := TX11) (N := 9) rfl (by decide) rfl (Nat.le_of_ble_eq_true rfl) dL_receivedLength_4 ⟨show 0 + 1 ≤ 1 from by omega, show 0 + 6 ≤ 6 from by omega⟩ rfl) (fun E5 σ3 q4 hw => ?_) (fun r2 σ1 hw => ?_)
  · obtain ⟨hE, hw⟩ := hw
    subst hE
    refine ⟨12, zc_L_receivedLength_12, zwiden (k := 1) (n := 6) (show 0 + 1 ≤ 1 from by omega) (show 0 + 6 ≤ 6 from by omega) ?_⟩
    refine zwiden (k := 1) (n := 6) (Nat.le_refl _) (Nat.le_refl _) ?_
    refine z_astore_n (lv' := [(3, .ref q4), (0, .ref (za Y t0)), (1, .int v1), (2, .ref (za Y t2))]) hG dL_receivedLength_12 rfl (by decide) rfl ?_
    refine z_iconst (v := 1) hG dL_receivedLength_13 (by decide) ?_
    refine zwiden (k := 1) (n := 6) (by omega) (by omega) ?_
    exact z_iret hG rfl rfl dL_receivedLength_14 hw
  · skip
    refine zwiden (k := 1) (n := 6) (show 0 + 1 ≤ 1 from by omega) (show 0 + 6 ≤ 6 from by omega) ?_
    refine z_i2l hG dL_receivedLength_7 ?_
    refine z_topl (fun x6 ex6 => ?_)
    have hw := hw x6 ex6
    obtain ⟨q7, hw⟩ := hw
    refine z_last hG h2 q7 dL_receivedLength_8 ?_
    refine z_topσ (fun σ8 eσ8 => ?_)
    have hw := hw σ8 eσ8
    refine z_goto (tgt := 15) hG dL_receivedLength_9 (by decide) ?_
    refine z_iconst (v := 0) hG dL_receivedLength_15 (by decide) ?_
    refine zwiden (k := 1) (n := 6) (by omega) (by omega) ?_
    exact z_iret hG rfl rfl dL_receivedLength_16 hw
-- TypeWheelTelegraphLaw.receivedCharacter(LTypeWheelTelegraph;II[J)I
def wL_receivedCharacter (ln : Nat → Nat) (σ : zS) (t0 : Nat) (v1 : Int32) (v2 : Int32) (t3 : Nat) (Q : Int32 → zS → Prop) : Prop := wxX11_receivedCharacter ln σ t0 v1 v2 (fun r2 σ1 => ∀ x6 : Int64, x6 = r2.toInt64 → vp_in (0 : Int32) (ln t3) ∧ ∀ σ8 : zS, σ8 = sl σ1 t3 (0 : Int32).toNatClampNeg x6 → Q 0 σ8) (fun E5 σ3 => E5 = "java/lang/IndexOutOfBoundsException" ∧ Q 1 σ3)
abbrev rL_receivedCharacter : Room := { frames := 9, cells := 2, slots := 12, locals := 163 }
set_option maxRecDepth 100000 in
set_option maxHeartbeats 4000000 in
theorem ML_receivedCharacter (l : Launch) (hlt : l.stackTraces = false) {E : zE} {Y : zY} {σ : zS} {t0 : Nat} {v1 : Int32} {v2 : Int32} {t3 : Nat} (h0 : zT Y 11 t0) (h3 : zT Y 24 t3) {Q : Int32 → zS → Prop} (hw : wL_receivedCharacter (zln Y) σ t0 v1 v2 t3 Q) : ∀ sz, Met l yL_receivedCharacter (zwH yL_receivedCharacter cL_receivedCharacter 5 (some .int) [(0, 10, 13, 29)]) rL_receivedCharacter (zPc E Y σ sz [.ref (za Y t0), .int v1, .int v2, .ref (za Y t3)]) (va_Qi Q (zB E Y sz) (zA Y sz)) 2 12 (zA Y sz) := by
  refine z_metH (hh := [(0, 10, 13, 29)]) (own := RL) (Qc := fun sz => va_Qi Q (zB E Y sz) (zA Y sz)) (by decide +kernel) rfl (Nat.le_of_ble_eq_true rfl) ?_
  intro p e s m args below meth c hG htab
  unfold wL_receivedCharacter at hw
  refine zlv (lv' := [(0, .ref (za Y t0)), (1, .int v1), (2, .int v2), (3, .ref (za Y t3))]) rfl ?_
  refine z_aload_n hG dL_receivedCharacter_0 rfl 3 rfl ?_
  refine z_iconst (v := 0) hG dL_receivedCharacter_1 (by decide) ?_
  refine z_aload_n hG dL_receivedCharacter_2 rfl 0 rfl ?_
  refine z_iload_n hG dL_receivedCharacter_3 rfl 1 rfl ?_
  refine z_iload_n hG dL_receivedCharacter_4 rfl 2 rfl ?_
  refine z_callHi hG htab (z_runXV (As := [.int v1, .int v2]) (st := [.int 0, .ref (za Y t3)]) hG k_L_71 (MxX11_receivedCharacter l hlt h0 hw) rfl rfl ⟨(Nat.le_of_ble_eq_true rfl), (Nat.le_of_ble_eq_true rfl)⟩ h0 (T := TX11) (N := 9) rfl (by decide) rfl (Nat.le_of_ble_eq_true rfl) dL_receivedCharacter_5 ⟨show 0 + 2 ≤ 2 from by omega, show 0 + 12 ≤ 12 from by omega⟩ rfl) (fun E5 σ3 q4 hw => ?_) (fun r2 σ1 hw => ?_)
  · obtain ⟨hE, hw⟩ := hw
    subst hE
    refine ⟨13, zc_L_receivedCharacter_13, zwiden (k := 2) (n := 12) (show 0 + 2 ≤ 2 from by omega) (show 0 + 12 ≤ 12 from by omega) ?_⟩
    refine zwiden (k := 2) (n := 12) (Nat.le_refl _) (Nat.le_refl _) ?_
    refine z_astore (lv' := [(4, .ref q4), (0, .ref (za Y t0)), (1, .int v1), (2, .int v2), (3, .ref (za Y t3))]) hG dL_receivedCharacter_13 (by decide) rfl ?_
    refine z_iconst (v := 1) hG dL_receivedCharacter_15 (by decide) ?_
    refine zwiden (k := 2) (n := 12) (by omega) (by omega) ?_
    exact z_iret hG rfl rfl dL_receivedCharacter_16 hw
  · skip
    refine zwiden (k := 2) (n := 12) (show 0 + 2 ≤ 2 from by omega) (show 0 + 12 ≤ 12 from by omega) ?_
    refine z_i2l hG dL_receivedCharacter_8 ?_
    refine z_topl (fun x6 ex6 => ?_)
    have hw := hw x6 ex6
    obtain ⟨q7, hw⟩ := hw
    refine z_last hG h3 q7 dL_receivedCharacter_9 ?_
    refine z_topσ (fun σ8 eσ8 => ?_)
    have hw := hw σ8 eσ8
    refine z_goto (tgt := 17) hG dL_receivedCharacter_10 (by decide) ?_
    refine z_iconst (v := 0) hG dL_receivedCharacter_17 (by decide) ?_
    refine zwiden (k := 2) (n := 12) (by omega) (by omega) ?_
    exact z_iret hG rfl rfl dL_receivedCharacter_18 hw
-- TypeWheelTelegraphLaw.prints(LTypeWheelTelegraph;I[J)I
def wL_prints (ln : Nat → Nat) (σ : zS) (t0 : Nat) (v1 : Int32) (t2 : Nat) (Q : Int32 → zS → Prop) : Prop := wxX11_prints ln σ t0 v1 (fun r2 σ1 => ∀ x6 : Int64, x6 = r2.toInt64 → vp_in (0 : Int32) (ln t2) ∧ ∀ σ8 : zS, σ8 = sl σ1 t2 (0 : Int32).toNatClampNeg x6 → Q 0 σ8) (fun E5 σ3 => E5 = "java/lang/IndexOutOfBoundsException" ∧ Q 1 σ3)
abbrev rL_prints : Room := { frames := 9, cells := 1, slots := 6, locals := 162 }
set_option maxRecDepth 100000 in
set_option maxHeartbeats 4000000 in
theorem ML_prints (l : Launch) (hlt : l.stackTraces = false) {E : zE} {Y : zY} {σ : zS} {t0 : Nat} {v1 : Int32} {t2 : Nat} (h0 : zT Y 11 t0) (h2 : zT Y 24 t2) {Q : Int32 → zS → Prop} (hw : wL_prints (zln Y) σ t0 v1 t2 Q) : ∀ sz, Met l yL_prints (zwH yL_prints cL_prints 4 (some .int) [(0, 9, 12, 29)]) rL_prints (zPc E Y σ sz [.ref (za Y t0), .int v1, .ref (za Y t2)]) (va_Qi Q (zB E Y sz) (zA Y sz)) 1 6 (zA Y sz) := by
  refine z_metH (hh := [(0, 9, 12, 29)]) (own := RL) (Qc := fun sz => va_Qi Q (zB E Y sz) (zA Y sz)) (by decide +kernel) rfl (Nat.le_of_ble_eq_true rfl) ?_
  intro p e s m args below meth c hG htab
  unfold wL_prints at hw
  refine zlv (lv' := [(0, .ref (za Y t0)), (1, .int v1), (2, .ref (za Y t2))]) rfl ?_
  refine z_aload_n hG dL_prints_0 rfl 2 rfl ?_
  refine z_iconst (v := 0) hG dL_prints_1 (by decide) ?_
  refine z_aload_n hG dL_prints_2 rfl 0 rfl ?_
  refine z_iload_n hG dL_prints_3 rfl 1 rfl ?_
  refine z_callHi hG htab (z_runXV (As := [.int v1]) (st := [.int 0, .ref (za Y t2)]) hG k_L_75 (MxX11_prints l hlt h0 hw) rfl rfl ⟨(Nat.le_of_ble_eq_true rfl), (Nat.le_of_ble_eq_true rfl)⟩ h0 (T := TX11) (N := 9) rfl (by decide) rfl (Nat.le_of_ble_eq_true rfl) dL_prints_4 ⟨show 0 + 1 ≤ 1 from by omega, show 0 + 6 ≤ 6 from by omega⟩ rfl) (fun E5 σ3 q4 hw => ?_) (fun r2 σ1 hw => ?_)
  · obtain ⟨hE, hw⟩ := hw
    subst hE
    refine ⟨12, zc_L_prints_12, zwiden (k := 1) (n := 6) (show 0 + 1 ≤ 1 from by omega) (show 0 + 6 ≤ 6 from by omega) ?_⟩
    refine zwiden (k := 1) (n := 6) (Nat.le_refl _) (Nat.le_refl _) ?_
    refine z_astore_n (lv' := [(3, .ref q4), (0, .ref (za Y t0)), (1, .int v1), (2, .ref (za Y t2))]) hG dL_prints_12 rfl (by decide) rfl ?_
    refine z_iconst (v := 1) hG dL_prints_13 (by decide) ?_
    refine zwiden (k := 1) (n := 6) (by omega) (by omega) ?_
    exact z_iret hG rfl rfl dL_prints_14 hw
  · skip
    refine zwiden (k := 1) (n := 6) (show 0 + 1 ≤ 1 from by omega) (show 0 + 6 ≤ 6 from by omega) ?_
    refine z_i2l hG dL_prints_7 ?_
    refine z_topl (fun x6 ex6 => ?_)
    have hw := hw x6 ex6
    obtain ⟨q7, hw⟩ := hw
    refine z_last hG h2 q7 dL_prints_8 ?_
    refine z_topσ (fun σ8 eσ8 => ?_)
    have hw := hw σ8 eσ8
    refine z_goto (tgt := 15) hG dL_prints_9 (by decide) ?_
    refine z_iconst (v := 0) hG dL_prints_15 (by decide) ?_
    refine zwiden (k := 1) (n := 6) (by omega) (by omega) ?_
    exact z_iret hG rfl rfl dL_prints_16 hw
-- TypeWheelTelegraphLaw.misprints(LTypeWheelTelegraph;I[J)I
def wL_misprints (ln : Nat → Nat) (σ : zS) (t0 : Nat) (v1 : Int32) (t2 : Nat) (Q : Int32 → zS → Prop) : Prop := wxX11_misprints ln σ t0 v1 (fun r2 σ1 => ∀ x6 : Int64, x6 = r2.toInt64 → vp_in (0 : Int32) (ln t2) ∧ ∀ σ8 : zS, σ8 = sl σ1 t2 (0 : Int32).toNatClampNeg x6 → Q 0 σ8) (fun E5 σ3 => E5 = "java/lang/IndexOutOfBoundsException" ∧ Q 1 σ3)
abbrev rL_misprints : Room := { frames := 9, cells := 1, slots := 6, locals := 162 }
set_option maxRecDepth 100000 in
set_option maxHeartbeats 4000000 in
theorem ML_misprints (l : Launch) (hlt : l.stackTraces = false) {E : zE} {Y : zY} {σ : zS} {t0 : Nat} {v1 : Int32} {t2 : Nat} (h0 : zT Y 11 t0) (h2 : zT Y 24 t2) {Q : Int32 → zS → Prop} (hw : wL_misprints (zln Y) σ t0 v1 t2 Q) : ∀ sz, Met l yL_misprints (zwH yL_misprints cL_misprints 4 (some .int) [(0, 9, 12, 29)]) rL_misprints (zPc E Y σ sz [.ref (za Y t0), .int v1, .ref (za Y t2)]) (va_Qi Q (zB E Y sz) (zA Y sz)) 1 6 (zA Y sz) := by
  refine z_metH (hh := [(0, 9, 12, 29)]) (own := RL) (Qc := fun sz => va_Qi Q (zB E Y sz) (zA Y sz)) (by decide +kernel) rfl (Nat.le_of_ble_eq_true rfl) ?_
  intro p e s m args below meth c hG htab
  unfold wL_misprints at hw
  refine zlv (lv' := [(0, .ref (za Y t0)), (1, .int v1), (2, .ref (za Y t2))]) rfl ?_
  refine z_aload_n hG dL_misprints_0 rfl 2 rfl ?_
  refine z_iconst (v := 0) hG dL_misprints_1 (by decide) ?_
  refine z_aload_n hG dL_misprints_2 rfl 0 rfl ?_
  refine z_iload_n hG dL_misprints_3 rfl 1 rfl ?_
  refine z_callHi hG htab (z_runXV (As := [.int v1]) (st := [.int 0, .ref (za Y t2)]) hG k_L_78 (MxX11_misprints l hlt h0 hw) rfl rfl ⟨(Nat.le_of_ble_eq_true rfl), (Nat.le_of_ble_eq_true rfl)⟩ h0 (T := TX11) (N := 9) rfl (by decide) rfl (Nat.le_of_ble_eq_true rfl) dL_misprints_4 ⟨show 0 + 1 ≤ 1 from by omega, show 0 + 6 ≤ 6 from by omega⟩ rfl) (fun E5 σ3 q4 hw => ?_) (fun r2 σ1 hw => ?_)
  · obtain ⟨hE, hw⟩ := hw
    subst hE
    refine ⟨12, zc_L_misprints_12, zwiden (k := 1) (n := 6) (show 0 + 1 ≤ 1 from by omega) (show 0 + 6 ≤ 6 from by omega) ?_⟩
    refine zwiden (k := 1) (n := 6) (Nat.le_refl _) (Nat.le_refl _) ?_
    refine z_astore_n (lv' := [(3, .ref q4), (0, .ref (za Y t0)), (1, .int v1), (2, .ref (za Y t2))]) hG dL_misprints_12 rfl (by decide) rfl ?_
    refine z_iconst (v := 1) hG dL_misprints_13 (by decide) ?_
    refine zwiden (k := 1) (n := 6) (by omega) (by omega) ?_
    exact z_iret hG rfl rfl dL_misprints_14 hw
  · skip
    refine zwiden (k := 1) (n := 6) (show 0 + 1 ≤ 1 from by omega) (show 0 + 6 ≤ 6 from by omega) ?_
    refine z_i2l hG dL_misprints_7 ?_
    refine z_topl (fun x6 ex6 => ?_)
    have hw := hw x6 ex6
    obtain ⟨q7, hw⟩ := hw
    refine z_last hG h2 q7 dL_misprints_8 ?_
    refine z_topσ (fun σ8 eσ8 => ?_)
    have hw := hw σ8 eσ8
    refine z_goto (tgt := 15) hG dL_misprints_9 (by decide) ?_
    refine z_iconst (v := 0) hG dL_misprints_15 (by decide) ?_
    refine zwiden (k := 1) (n := 6) (by omega) (by omega) ?_
    exact z_iret hG rfl rfl dL_misprints_16 hw
-- TypeWheelTelegraphLaw.worstOffset(LTypeWheelTelegraph;I[J)I
def wL_worstOffset (ln : Nat → Nat) (σ : zS) (t0 : Nat) (v1 : Int32) (t2 : Nat) (Q : Int32 → zS → Prop) : Prop := wxX11_worstOffset ln σ t0 v1 (fun r2 σ1 => ∀ x6 : Int64, x6 = r2.toInt64 → vp_in (0 : Int32) (ln t2) ∧ ∀ σ8 : zS, σ8 = sl σ1 t2 (0 : Int32).toNatClampNeg x6 → Q 0 σ8) (fun E5 σ3 => E5 = "java/lang/IndexOutOfBoundsException" ∧ Q 1 σ3)
abbrev rL_worstOffset : Room := { frames := 9, cells := 1, slots := 6, locals := 162 }
set_option maxRecDepth 100000 in
set_option maxHeartbeats 4000000 in
theorem ML_worstOffset (l : Launch) (hlt : l.stackTraces = false) {E : zE} {Y : zY} {σ : zS} {t0 : Nat} {v1 : Int32} {t2 : Nat} (h0 : zT Y 11 t0) (h2 : zT Y 24 t2) {Q : Int32 → zS → Prop} (hw : wL_worstOffset (zln Y) σ t0 v1 t2 Q) : ∀ sz, Met l yL_worstOffset (zwH yL_worstOffset cL_worstOffset 4 (some .int) [(0, 9, 12, 29)]) rL_worstOffset (zPc E Y σ sz [.ref (za Y t0), .int v1, .ref (za Y t2)]) (va_Qi Q (zB E Y sz) (zA Y sz)) 1 6 (zA Y sz) := by
  refine z_metH (hh := [(0, 9, 12, 29)]) (own := RL) (Qc := fun sz => va_Qi Q (zB E Y sz) (zA Y sz)) (by decide +kernel) rfl (Nat.le_of_ble_eq_true rfl) ?_
  intro p e s m args below meth c hG htab
  unfold wL_worstOffset at hw
  refine zlv (lv' := [(0, .ref (za Y t0)), (1, .int v1), (2, .ref (za Y t2))]) rfl ?_
  refine z_aload_n hG dL_worstOffset_0 rfl 2 rfl ?_
  refine z_iconst (v := 0) hG dL_worstOffset_1 (by decide) ?_
  refine z_aload_n hG dL_worstOffset_2 rfl 0 rfl ?_
  refine z_iload_n hG dL_worstOffset_3 rfl 1 rfl ?_
  refine z_callHi hG htab (z_runXV (As := [.int v1]) (st := [.int 0, .ref (za Y t2)]) hG k_L_81 (MxX11_worstOffset l hlt h0 hw) rfl rfl ⟨(Nat.le_of_ble_eq_true rfl), (Nat.le_of_ble_eq_true rfl)⟩ h0 (T := TX11) (N := 9) rfl (by decide) rfl (Nat.le_of_ble_eq_true rfl) dL_worstOffset_4 ⟨show 0 + 1 ≤ 1 from by omega, show 0 + 6 ≤ 6 from by omega⟩ rfl) (fun E5 σ3 q4 hw => ?_) (fun r2 σ1 hw => ?_)
  · obtain ⟨hE, hw⟩ := hw
    subst hE
    refine ⟨12, zc_L_worstOffset_12, zwiden (k := 1) (n := 6) (show 0 + 1 ≤ 1 from by omega) (show 0 + 6 ≤ 6 from by omega) ?_⟩
    refine zwiden (k := 1) (n := 6) (Nat.le_refl _) (Nat.le_refl _) ?_
    refine z_astore_n (lv' := [(3, .ref q4), (0, .ref (za Y t0)), (1, .int v1), (2, .ref (za Y t2))]) hG dL_worstOffset_12 rfl (by decide) rfl ?_
    refine z_iconst (v := 1) hG dL_worstOffset_13 (by decide) ?_
    refine zwiden (k := 1) (n := 6) (by omega) (by omega) ?_
    exact z_iret hG rfl rfl dL_worstOffset_14 hw
  · skip
    refine zwiden (k := 1) (n := 6) (show 0 + 1 ≤ 1 from by omega) (show 0 + 6 ≤ 6 from by omega) ?_
    refine z_i2l hG dL_worstOffset_7 ?_
    refine z_topl (fun x6 ex6 => ?_)
    have hw := hw x6 ex6
    obtain ⟨q7, hw⟩ := hw
    refine z_last hG h2 q7 dL_worstOffset_8 ?_
    refine z_topσ (fun σ8 eσ8 => ?_)
    have hw := hw σ8 eσ8
    refine z_goto (tgt := 15) hG dL_worstOffset_9 (by decide) ?_
    refine z_iconst (v := 0) hG dL_worstOffset_15 (by decide) ?_
    refine zwiden (k := 1) (n := 6) (by omega) (by omega) ?_
    exact z_iret hG rfl rfl dL_worstOffset_16 hw
-- TypeWheelTelegraphLaw.meanOffset(LTypeWheelTelegraph;I[D)I
def wL_meanOffset (ln : Nat → Nat) (σ : zS) (t0 : Nat) (v1 : Int32) (t2 : Nat) (Q : Int32 → zS → Prop) : Prop := wxX11_meanOffset ln σ t0 v1 (fun r2 σ1 => vp_in (0 : Int32) (ln t2) ∧ ∀ σ7 : zS, σ7 = sd σ1 t2 (0 : Int32).toNatClampNeg r2 → Q 0 σ7) (fun E5 σ3 => E5 = "java/lang/IndexOutOfBoundsException" ∧ Q 1 σ3)
abbrev rL_meanOffset : Room := { frames := 9, cells := 1, slots := 6, locals := 163 }
set_option maxRecDepth 100000 in
set_option maxHeartbeats 4000000 in
theorem ML_meanOffset (l : Launch) (hlt : l.stackTraces = false) {E : zE} {Y : zY} {σ : zS} {t0 : Nat} {v1 : Int32} {t2 : Nat} (h0 : zT Y 11 t0) (h2 : zT Y 25 t2) {Q : Int32 → zS → Prop} (hw : wL_meanOffset (zln Y) σ t0 v1 t2 Q) : ∀ sz, Met l yL_meanOffset (zwH yL_meanOffset cL_meanOffset 4 (some .int) [(0, 8, 11, 29)]) rL_meanOffset (zPc E Y σ sz [.ref (za Y t0), .int v1, .ref (za Y t2)]) (va_Qi Q (zB E Y sz) (zA Y sz)) 1 6 (zA Y sz) := by
  refine z_metH (hh := [(0, 8, 11, 29)]) (own := RL) (Qc := fun sz => va_Qi Q (zB E Y sz) (zA Y sz)) (by decide +kernel) rfl (Nat.le_of_ble_eq_true rfl) ?_
  intro p e s m args below meth c hG htab
  unfold wL_meanOffset at hw
  refine zlv (lv' := [(0, .ref (za Y t0)), (1, .int v1), (2, .ref (za Y t2))]) rfl ?_
  refine z_aload_n hG dL_meanOffset_0 rfl 2 rfl ?_
  refine z_iconst (v := 0) hG dL_meanOffset_1 (by decide) ?_
  refine z_aload_n hG dL_meanOffset_2 rfl 0 rfl ?_
  refine z_iload_n hG dL_meanOffset_3 rfl 1 rfl ?_
  refine z_callHd hG htab (z_runXV (As := [.int v1]) (st := [.int 0, .ref (za Y t2)]) hG k_L_84 (MxX11_meanOffset l hlt h0 hw) rfl rfl ⟨(Nat.le_of_ble_eq_true rfl), (Nat.le_of_ble_eq_true rfl)⟩ h0 (T := TX11) (N := 9) rfl (by decide) rfl (Nat.le_of_ble_eq_true rfl) dL_meanOffset_4 ⟨show 0 + 1 ≤ 1 from by omega, show 0 + 6 ≤ 6 from by omega⟩ rfl) (fun E5 σ3 q4 hw => ?_) (fun r2 σ1 hw => ?_)
  · obtain ⟨hE, hw⟩ := hw
    subst hE
    refine ⟨11, zc_L_meanOffset_11, zwiden (k := 1) (n := 6) (show 0 + 1 ≤ 1 from by omega) (show 0 + 6 ≤ 6 from by omega) ?_⟩
    refine zwiden (k := 1) (n := 6) (Nat.le_refl _) (Nat.le_refl _) ?_
    refine z_astore_n (lv' := [(3, .ref q4), (0, .ref (za Y t0)), (1, .int v1), (2, .ref (za Y t2))]) hG dL_meanOffset_11 rfl (by decide) rfl ?_
    refine z_iconst (v := 1) hG dL_meanOffset_12 (by decide) ?_
    refine zwiden (k := 1) (n := 6) (by omega) (by omega) ?_
    exact z_iret hG rfl rfl dL_meanOffset_13 hw
  · skip
    refine zwiden (k := 1) (n := 6) (show 0 + 1 ≤ 1 from by omega) (show 0 + 6 ≤ 6 from by omega) ?_
    obtain ⟨q6, hw⟩ := hw
    refine z_dast hG h2 q6 dL_meanOffset_7 ?_
    refine z_topσ (fun σ7 eσ7 => ?_)
    have hw := hw σ7 eσ7
    refine z_goto (tgt := 14) hG dL_meanOffset_8 (by decide) ?_
    refine z_iconst (v := 0) hG dL_meanOffset_14 (by decide) ?_
    refine zwiden (k := 1) (n := 6) (by omega) (by omega) ?_
    exact z_iret hG rfl rfl dL_meanOffset_15 hw
-- TypeWheelTelegraphLaw.event(LTypeWheelTelegraph;II[J)I
def wL_event (ln : Nat → Nat) (σ : zS) (t0 : Nat) (v1 : Int32) (v2 : Int32) (t3 : Nat) (Q : Int32 → zS → Prop) : Prop := wxX11_event ln σ t0 v1 v2 (fun r2 σ1 => ∀ x6 : Int64, x6 = r2.toInt64 → vp_in (0 : Int32) (ln t3) ∧ ∀ σ8 : zS, σ8 = sl σ1 t3 (0 : Int32).toNatClampNeg x6 → Q 0 σ8) (fun E5 σ3 => (E5 = "java/lang/IndexOutOfBoundsException" → Q 1 σ3) ∧ (¬ E5 = "java/lang/IndexOutOfBoundsException" → E5 = "java/lang/IllegalArgumentException" ∧ Q 2 σ3))
abbrev rL_event : Room := { frames := 7, cells := 1, slots := 6, locals := 122 }
set_option maxRecDepth 100000 in
set_option maxHeartbeats 4000000 in
theorem ML_event (l : Launch) (hlt : l.stackTraces = false) {E : zE} {Y : zY} {σ : zS} {t0 : Nat} {v1 : Int32} {v2 : Int32} {t3 : Nat} (h0 : zT Y 11 t0) (h3 : zT Y 24 t3) {Q : Int32 → zS → Prop} (hw : wL_event (zln Y) σ t0 v1 v2 t3 Q) : ∀ sz, Met l yL_event (zwH yL_event cL_event 5 (some .int) [(0, 10, 13, 29), (0, 10, 17, 19)]) rL_event (zPc E Y σ sz [.ref (za Y t0), .int v1, .int v2, .ref (za Y t3)]) (va_Qi Q (zB E Y sz) (zA Y sz)) 1 6 (zA Y sz) := by
  refine z_metH (hh := [(0, 10, 13, 29), (0, 10, 17, 19)]) (own := RL) (Qc := fun sz => va_Qi Q (zB E Y sz) (zA Y sz)) (by decide +kernel) rfl (Nat.le_of_ble_eq_true rfl) ?_
  intro p e s m args below meth c hG htab
  unfold wL_event at hw
  refine zlv (lv' := [(0, .ref (za Y t0)), (1, .int v1), (2, .int v2), (3, .ref (za Y t3))]) rfl ?_
  refine z_aload_n hG dL_event_0 rfl 3 rfl ?_
  refine z_iconst (v := 0) hG dL_event_1 (by decide) ?_
  refine z_aload_n hG dL_event_2 rfl 0 rfl ?_
  refine z_iload_n hG dL_event_3 rfl 1 rfl ?_
  refine z_iload_n hG dL_event_4 rfl 2 rfl ?_
  refine z_callHi hG htab (z_runXV (As := [.int v1, .int v2]) (st := [.int 0, .ref (za Y t3)]) hG k_L_88 (MxX11_event l hlt h0 hw) rfl rfl ⟨(Nat.le_of_ble_eq_true rfl), (Nat.le_of_ble_eq_true rfl)⟩ h0 (T := TX11) (N := 9) rfl (by decide) rfl (Nat.le_of_ble_eq_true rfl) dL_event_5 ⟨show 0 + 1 ≤ 1 from by omega, show 0 + 6 ≤ 6 from by omega⟩ rfl) (fun E5 σ3 q4 hw => ?_) (fun r2 σ1 hw => ?_)
  · by_cases hE : E5 = "java/lang/IndexOutOfBoundsException"
    · have hw2 := hw.1 hE
      clear hw
      subst hE
      have hw := hw2
      refine ⟨13, zc_L_event_13, zwiden (k := 1) (n := 6) (show 0 + 1 ≤ 1 from by omega) (show 0 + 6 ≤ 6 from by omega) ?_⟩
      refine zwiden (k := 1) (n := 6) (Nat.le_refl _) (Nat.le_refl _) ?_
      refine z_astore (lv' := [(4, .ref q4), (0, .ref (za Y t0)), (1, .int v1), (2, .int v2), (3, .ref (za Y t3))]) hG dL_event_13 (by decide) rfl ?_
      refine z_iconst (v := 1) hG dL_event_15 (by decide) ?_
      refine zwiden (k := 1) (n := 6) (by omega) (by omega) ?_
      exact z_iret hG rfl rfl dL_event_16 hw
    · obtain ⟨hE, hw2⟩ := hw.2 hE
      clear hw
      subst hE
      have hw := hw2
      refine ⟨17, zc_L_event_17, zwiden (k := 1) (n := 6) (show 0 + 1 ≤ 1 from by omega) (show 0 + 6 ≤ 6 from by omega) ?_⟩
      refine zwiden (k := 1) (n := 6) (Nat.le_refl _) (Nat.le_refl _) ?_
      refine z_astore (lv' := [(4, .ref q4), (0, .ref (za Y t0)), (1, .int v1), (2, .int v2), (3, .ref (za Y t3))]) hG dL_event_17 (by decide) rfl ?_
      refine z_iconst (v := 2) hG dL_event_19 (by decide) ?_
      refine zwiden (k := 1) (n := 6) (by omega) (by omega) ?_
      exact z_iret hG rfl rfl dL_event_20 hw
  · skip
    refine zwiden (k := 1) (n := 6) (show 0 + 1 ≤ 1 from by omega) (show 0 + 6 ≤ 6 from by omega) ?_
    refine z_i2l hG dL_event_8 ?_
    refine z_topl (fun x6 ex6 => ?_)
    have hw := hw x6 ex6
    obtain ⟨q7, hw⟩ := hw
    refine z_last hG h3 q7 dL_event_9 ?_
    refine z_topσ (fun σ8 eσ8 => ?_)
    have hw := hw σ8 eσ8
    refine z_goto (tgt := 21) hG dL_event_10 (by decide) ?_
    refine z_iconst (v := 0) hG dL_event_21 (by decide) ?_
    refine zwiden (k := 1) (n := 6) (by omega) (by omega) ?_
    exact z_iret hG rfl rfl dL_event_22 hw
-- TypeWheelTelegraphLaw.run(LTypeWheelTelegraph;I[J)I
def wL_run (ln : Nat → Nat) (σ : zS) (t0 : Nat) (v1 : Int32) (t2 : Nat) (Q : Int32 → zS → Prop) : Prop := wxX11_run ln σ t0 v1 (fun r2 σ1 => ∀ x6 : Int64, x6 = r2.toInt64 → vp_in (0 : Int32) (ln t2) ∧ ∀ σ8 : zS, σ8 = sl σ1 t2 (0 : Int32).toNatClampNeg x6 → Q 0 σ8) (fun E5 σ3 => (E5 = "java/lang/IllegalArgumentException" → Q 1 σ3) ∧ (¬ E5 = "java/lang/IllegalArgumentException" → E5 = "java/lang/IllegalStateException" ∧ Q 2 σ3))
abbrev rL_run : Room := { frames := 9, cells := 2, slots := 12, locals := 197 }
set_option maxRecDepth 100000 in
set_option maxHeartbeats 4000000 in
theorem ML_run (l : Launch) (hlt : l.stackTraces = false) {E : zE} {Y : zY} {σ : zS} {t0 : Nat} {v1 : Int32} {t2 : Nat} (h0 : zT Y 11 t0) (h2 : zT Y 24 t2) {Q : Int32 → zS → Prop} (hw : wL_run (zln Y) σ t0 v1 t2 Q) : ∀ sz, Met l yL_run (zwH yL_run cL_run 4 (some .int) [(0, 9, 12, 19), (0, 9, 15, 13)]) rL_run (zPc E Y σ sz [.ref (za Y t0), .int v1, .ref (za Y t2)]) (va_Qi Q (zB E Y sz) (zA Y sz)) 2 12 (zA Y sz) := by
  refine z_metH (hh := [(0, 9, 12, 19), (0, 9, 15, 13)]) (own := RL) (Qc := fun sz => va_Qi Q (zB E Y sz) (zA Y sz)) (by decide +kernel) rfl (Nat.le_of_ble_eq_true rfl) ?_
  intro p e s m args below meth c hG htab
  unfold wL_run at hw
  refine zlv (lv' := [(0, .ref (za Y t0)), (1, .int v1), (2, .ref (za Y t2))]) rfl ?_
  refine z_aload_n hG dL_run_0 rfl 2 rfl ?_
  refine z_iconst (v := 0) hG dL_run_1 (by decide) ?_
  refine z_aload_n hG dL_run_2 rfl 0 rfl ?_
  refine z_iload_n hG dL_run_3 rfl 1 rfl ?_
  refine z_callHi hG htab (z_runXV (As := [.int v1]) (st := [.int 0, .ref (za Y t2)]) hG k_L_91 (MxX11_run l hlt h0 hw) rfl rfl ⟨(Nat.le_of_ble_eq_true rfl), (Nat.le_of_ble_eq_true rfl)⟩ h0 (T := TX11) (N := 9) rfl (by decide) rfl (Nat.le_of_ble_eq_true rfl) dL_run_4 ⟨show 0 + 2 ≤ 2 from by omega, show 0 + 12 ≤ 12 from by omega⟩ rfl) (fun E5 σ3 q4 hw => ?_) (fun r2 σ1 hw => ?_)
  · by_cases hE : E5 = "java/lang/IllegalArgumentException"
    · have hw2 := hw.1 hE
      clear hw
      subst hE
      have hw := hw2
      refine ⟨12, zc_L_run_12, zwiden (k := 2) (n := 12) (show 0 + 2 ≤ 2 from by omega) (show 0 + 12 ≤ 12 from by omega) ?_⟩
      refine zwiden (k := 2) (n := 12) (Nat.le_refl _) (Nat.le_refl _) ?_
      refine z_astore_n (lv' := [(3, .ref q4), (0, .ref (za Y t0)), (1, .int v1), (2, .ref (za Y t2))]) hG dL_run_12 rfl (by decide) rfl ?_
      refine z_iconst (v := 1) hG dL_run_13 (by decide) ?_
      refine zwiden (k := 2) (n := 12) (by omega) (by omega) ?_
      exact z_iret hG rfl rfl dL_run_14 hw
    · obtain ⟨hE, hw2⟩ := hw.2 hE
      clear hw
      subst hE
      have hw := hw2
      refine ⟨15, zc_L_run_15, zwiden (k := 2) (n := 12) (show 0 + 2 ≤ 2 from by omega) (show 0 + 12 ≤ 12 from by omega) ?_⟩
      refine zwiden (k := 2) (n := 12) (Nat.le_refl _) (Nat.le_refl _) ?_
      refine z_astore_n (lv' := [(3, .ref q4), (0, .ref (za Y t0)), (1, .int v1), (2, .ref (za Y t2))]) hG dL_run_15 rfl (by decide) rfl ?_
      refine z_iconst (v := 2) hG dL_run_16 (by decide) ?_
      refine zwiden (k := 2) (n := 12) (by omega) (by omega) ?_
      exact z_iret hG rfl rfl dL_run_17 hw
  · skip
    refine zwiden (k := 2) (n := 12) (show 0 + 2 ≤ 2 from by omega) (show 0 + 12 ≤ 12 from by omega) ?_
    refine z_i2l hG dL_run_7 ?_
    refine z_topl (fun x6 ex6 => ?_)
    have hw := hw x6 ex6
    obtain ⟨q7, hw⟩ := hw
    refine z_last hG h2 q7 dL_run_8 ?_
    refine z_topσ (fun σ8 eσ8 => ?_)
    have hw := hw σ8 eσ8
    refine z_goto (tgt := 18) hG dL_run_9 (by decide) ?_
    refine z_iconst (v := 0) hG dL_run_18 (by decide) ?_
    refine zwiden (k := 2) (n := 12) (by omega) (by omega) ?_
    exact z_iret hG rfl rfl dL_run_19 hw
-- TypeWheelTelegraphLaw.runUntilDone(LTypeWheelTelegraph;I[J)I
def wL_runUntilDone (ln : Nat → Nat) (σ : zS) (t0 : Nat) (v1 : Int32) (t2 : Nat) (Q : Int32 → zS → Prop) : Prop := wxX11_runUntilDone ln σ t0 v1 (fun r2 σ1 => ∀ x6 : Int64, x6 = r2.toInt64 → vp_in (0 : Int32) (ln t2) ∧ ∀ σ8 : zS, σ8 = sl σ1 t2 (0 : Int32).toNatClampNeg x6 → Q 0 σ8) (fun E5 σ3 => (E5 = "java/lang/IllegalArgumentException" → Q 1 σ3) ∧ (¬ E5 = "java/lang/IllegalArgumentException" → E5 = "java/lang/IllegalStateException" ∧ Q 2 σ3))
abbrev rL_runUntilDone : Room := { frames := 10, cells := 2, slots := 12, locals := 217 }
set_option maxRecDepth 100000 in
set_option maxHeartbeats 4000000 in
theorem ML_runUntilDone (l : Launch) (hlt : l.stackTraces = false) {E : zE} {Y : zY} {σ : zS} {t0 : Nat} {v1 : Int32} {t2 : Nat} (h0 : zT Y 11 t0) (h2 : zT Y 24 t2) {Q : Int32 → zS → Prop} (hw : wL_runUntilDone (zln Y) σ t0 v1 t2 Q) : ∀ sz, Met l yL_runUntilDone (zwH yL_runUntilDone cL_runUntilDone 4 (some .int) [(0, 9, 12, 19), (0, 9, 15, 13)]) rL_runUntilDone (zPc E Y σ sz [.ref (za Y t0), .int v1, .ref (za Y t2)]) (va_Qi Q (zB E Y sz) (zA Y sz)) 2 12 (zA Y sz) := by
  refine z_metH (hh := [(0, 9, 12, 19), (0, 9, 15, 13)]) (own := RL) (Qc := fun sz => va_Qi Q (zB E Y sz) (zA Y sz)) (by decide +kernel) rfl (Nat.le_of_ble_eq_true rfl) ?_
  intro p e s m args below meth c hG htab
  unfold wL_runUntilDone at hw
  refine zlv (lv' := [(0, .ref (za Y t0)), (1, .int v1), (2, .ref (za Y t2))]) rfl ?_
  refine z_aload_n hG dL_runUntilDone_0 rfl 2 rfl ?_
  refine z_iconst (v := 0) hG dL_runUntilDone_1 (by decide) ?_
  refine z_aload_n hG dL_runUntilDone_2 rfl 0 rfl ?_
  refine z_iload_n hG dL_runUntilDone_3 rfl 1 rfl ?_
  refine z_callHi hG htab (z_runXV (As := [.int v1]) (st := [.int 0, .ref (za Y t2)]) hG k_L_94 (MxX11_runUntilDone l hlt h0 hw) rfl rfl ⟨(Nat.le_of_ble_eq_true rfl), (Nat.le_of_ble_eq_true rfl)⟩ h0 (T := TX11) (N := 9) rfl (by decide) rfl (Nat.le_of_ble_eq_true rfl) dL_runUntilDone_4 ⟨show 0 + 2 ≤ 2 from by omega, show 0 + 12 ≤ 12 from by omega⟩ rfl) (fun E5 σ3 q4 hw => ?_) (fun r2 σ1 hw => ?_)
  · by_cases hE : E5 = "java/lang/IllegalArgumentException"
    · have hw2 := hw.1 hE
      clear hw
      subst hE
      have hw := hw2
      refine ⟨12, zc_L_runUntilDone_12, zwiden (k := 2) (n := 12) (show 0 + 2 ≤ 2 from by omega) (show 0 + 12 ≤ 12 from by omega) ?_⟩
      refine zwiden (k := 2) (n := 12) (Nat.le_refl _) (Nat.le_refl _) ?_
      refine z_astore_n (lv' := [(3, .ref q4), (0, .ref (za Y t0)), (1, .int v1), (2, .ref (za Y t2))]) hG dL_runUntilDone_12 rfl (by decide) rfl ?_
      refine z_iconst (v := 1) hG dL_runUntilDone_13 (by decide) ?_
      refine zwiden (k := 2) (n := 12) (by omega) (by omega) ?_
      exact z_iret hG rfl rfl dL_runUntilDone_14 hw
    · obtain ⟨hE, hw2⟩ := hw.2 hE
      clear hw
      subst hE
      have hw := hw2
      refine ⟨15, zc_L_runUntilDone_15, zwiden (k := 2) (n := 12) (show 0 + 2 ≤ 2 from by omega) (show 0 + 12 ≤ 12 from by omega) ?_⟩
      refine zwiden (k := 2) (n := 12) (Nat.le_refl _) (Nat.le_refl _) ?_
      refine z_astore_n (lv' := [(3, .ref q4), (0, .ref (za Y t0)), (1, .int v1), (2, .ref (za Y t2))]) hG dL_runUntilDone_15 rfl (by decide) rfl ?_
      refine z_iconst (v := 2) hG dL_runUntilDone_16 (by decide) ?_
      refine zwiden (k := 2) (n := 12) (by omega) (by omega) ?_
      exact z_iret hG rfl rfl dL_runUntilDone_17 hw
  · skip
    refine zwiden (k := 2) (n := 12) (show 0 + 2 ≤ 2 from by omega) (show 0 + 12 ≤ 12 from by omega) ?_
    refine z_i2l hG dL_runUntilDone_7 ?_
    refine z_topl (fun x6 ex6 => ?_)
    have hw := hw x6 ex6
    obtain ⟨q7, hw⟩ := hw
    refine z_last hG h2 q7 dL_runUntilDone_8 ?_
    refine z_topσ (fun σ8 eσ8 => ?_)
    have hw := hw σ8 eσ8
    refine z_goto (tgt := 18) hG dL_runUntilDone_9 (by decide) ?_
    refine z_iconst (v := 0) hG dL_runUntilDone_18 (by decide) ?_
    refine zwiden (k := 2) (n := 12) (by omega) (by omega) ?_
    exact z_iret hG rfl rfl dL_runUntilDone_19 hw
-- TypeWheelTelegraphLaw.start(LTypeWheelTelegraph;I[J)I
def wL_start (ln : Nat → Nat) (σ : zS) (t0 : Nat) (v1 : Int32) (t2 : Nat) (Q : Int32 → zS → Prop) : Prop := wxX11_start ln σ t0 v1 (fun r2 σ1 => ∀ x6 : Int64, x6 = r2.toInt64 → vp_in (0 : Int32) (ln t2) ∧ ∀ σ8 : zS, σ8 = sl σ1 t2 (0 : Int32).toNatClampNeg x6 → Q 0 σ8) (fun E5 σ3 => (E5 = "java/lang/IndexOutOfBoundsException" → Q 1 σ3) ∧ (¬ E5 = "java/lang/IndexOutOfBoundsException" → E5 = "java/lang/IllegalStateException" ∧ Q 2 σ3))
abbrev rL_start : Room := { frames := 9, cells := 3, slots := 18, locals := 163 }
set_option maxRecDepth 100000 in
set_option maxHeartbeats 4000000 in
theorem ML_start (l : Launch) (hlt : l.stackTraces = false) {E : zE} {Y : zY} {σ : zS} {t0 : Nat} {v1 : Int32} {t2 : Nat} (h0 : zT Y 11 t0) (h2 : zT Y 24 t2) {Q : Int32 → zS → Prop} (hw : wL_start (zln Y) σ t0 v1 t2 Q) : ∀ sz, Met l yL_start (zwH yL_start cL_start 4 (some .int) [(0, 9, 12, 29), (0, 9, 15, 13)]) rL_start (zPc E Y σ sz [.ref (za Y t0), .int v1, .ref (za Y t2)]) (va_Qi Q (zB E Y sz) (zA Y sz)) 3 18 (zA Y sz) := by
  refine z_metH (hh := [(0, 9, 12, 29), (0, 9, 15, 13)]) (own := RL) (Qc := fun sz => va_Qi Q (zB E Y sz) (zA Y sz)) (by decide +kernel) rfl (Nat.le_of_ble_eq_true rfl) ?_
  intro p e s m args below meth c hG htab
  unfold wL_start at hw
  refine zlv (lv' := [(0, .ref (za Y t0)), (1, .int v1), (2, .ref (za Y t2))]) rfl ?_
  refine z_aload_n hG dL_start_0 rfl 2 rfl ?_
  refine z_iconst (v := 0) hG dL_start_1 (by decide) ?_
  refine z_aload_n hG dL_start_2 rfl 0 rfl ?_
  refine z_iload_n hG dL_start_3 rfl 1 rfl ?_
  refine z_callHi hG htab (z_runXV (As := [.int v1]) (st := [.int 0, .ref (za Y t2)]) hG k_L_97 (MxX11_start l hlt h0 hw) rfl rfl ⟨(Nat.le_of_ble_eq_true rfl), (Nat.le_of_ble_eq_true rfl)⟩ h0 (T := TX11) (N := 9) rfl (by decide) rfl (Nat.le_of_ble_eq_true rfl) dL_start_4 ⟨show 0 + 3 ≤ 3 from by omega, show 0 + 18 ≤ 18 from by omega⟩ rfl) (fun E5 σ3 q4 hw => ?_) (fun r2 σ1 hw => ?_)
  · by_cases hE : E5 = "java/lang/IndexOutOfBoundsException"
    · have hw2 := hw.1 hE
      clear hw
      subst hE
      have hw := hw2
      refine ⟨12, zc_L_start_12, zwiden (k := 3) (n := 18) (show 0 + 3 ≤ 3 from by omega) (show 0 + 18 ≤ 18 from by omega) ?_⟩
      refine zwiden (k := 3) (n := 18) (Nat.le_refl _) (Nat.le_refl _) ?_
      refine z_astore_n (lv' := [(3, .ref q4), (0, .ref (za Y t0)), (1, .int v1), (2, .ref (za Y t2))]) hG dL_start_12 rfl (by decide) rfl ?_
      refine z_iconst (v := 1) hG dL_start_13 (by decide) ?_
      refine zwiden (k := 3) (n := 18) (by omega) (by omega) ?_
      exact z_iret hG rfl rfl dL_start_14 hw
    · obtain ⟨hE, hw2⟩ := hw.2 hE
      clear hw
      subst hE
      have hw := hw2
      refine ⟨15, zc_L_start_15, zwiden (k := 3) (n := 18) (show 0 + 3 ≤ 3 from by omega) (show 0 + 18 ≤ 18 from by omega) ?_⟩
      refine zwiden (k := 3) (n := 18) (Nat.le_refl _) (Nat.le_refl _) ?_
      refine z_astore_n (lv' := [(3, .ref q4), (0, .ref (za Y t0)), (1, .int v1), (2, .ref (za Y t2))]) hG dL_start_15 rfl (by decide) rfl ?_
      refine z_iconst (v := 2) hG dL_start_16 (by decide) ?_
      refine zwiden (k := 3) (n := 18) (by omega) (by omega) ?_
      exact z_iret hG rfl rfl dL_start_17 hw
  · skip
    refine zwiden (k := 3) (n := 18) (show 0 + 3 ≤ 3 from by omega) (show 0 + 18 ≤ 18 from by omega) ?_
    refine z_i2l hG dL_start_7 ?_
    refine z_topl (fun x6 ex6 => ?_)
    have hw := hw x6 ex6
    obtain ⟨q7, hw⟩ := hw
    refine z_last hG h2 q7 dL_start_8 ?_
    refine z_topσ (fun σ8 eσ8 => ?_)
    have hw := hw σ8 eσ8
    refine z_goto (tgt := 18) hG dL_start_9 (by decide) ?_
    refine z_iconst (v := 0) hG dL_start_18 (by decide) ?_
    refine zwiden (k := 3) (n := 18) (by omega) (by omega) ?_
    exact z_iret hG rfl rfl dL_start_19 hw
-- TypeWheelTelegraphLaw.breakIn(LTypeWheelTelegraph;[J)I
def wL_breakIn (ln : Nat → Nat) (σ : zS) (t0 : Nat) (t1 : Nat) (Q : Int32 → zS → Prop) : Prop := wxX11_breakIn ln σ t0 (fun r2 σ1 => ∀ x6 : Int64, x6 = r2.toInt64 → vp_in (0 : Int32) (ln t1) ∧ ∀ σ8 : zS, σ8 = sl σ1 t1 (0 : Int32).toNatClampNeg x6 → Q 0 σ8) (fun E5 σ3 => E5 = "java/lang/IllegalStateException" ∧ Q 1 σ3)
abbrev rL_breakIn : Room := { frames := 7, cells := 1, slots := 6, locals := 153 }
set_option maxRecDepth 100000 in
set_option maxHeartbeats 4000000 in
theorem ML_breakIn (l : Launch) (hlt : l.stackTraces = false) {E : zE} {Y : zY} {σ : zS} {t0 : Nat} {t1 : Nat} (h0 : zT Y 11 t0) (h1 : zT Y 24 t1) {Q : Int32 → zS → Prop} (hw : wL_breakIn (zln Y) σ t0 t1 Q) : ∀ sz, Met l yL_breakIn (zwH yL_breakIn cL_breakIn 3 (some .int) [(0, 8, 11, 13)]) rL_breakIn (zPc E Y σ sz [.ref (za Y t0), .ref (za Y t1)]) (va_Qi Q (zB E Y sz) (zA Y sz)) 1 6 (zA Y sz) := by
  refine z_metH (hh := [(0, 8, 11, 13)]) (own := RL) (Qc := fun sz => va_Qi Q (zB E Y sz) (zA Y sz)) (by decide +kernel) rfl (Nat.le_of_ble_eq_true rfl) ?_
  intro p e s m args below meth c hG htab
  unfold wL_breakIn at hw
  refine zlv (lv' := [(0, .ref (za Y t0)), (1, .ref (za Y t1))]) rfl ?_
  refine z_aload_n hG dL_breakIn_0 rfl 1 rfl ?_
  refine z_iconst (v := 0) hG dL_breakIn_1 (by decide) ?_
  refine z_aload_n hG dL_breakIn_2 rfl 0 rfl ?_
  refine z_callHi hG htab (z_runXV (As := []) (st := [.int 0, .ref (za Y t1)]) hG k_L_100 (MxX11_breakIn l hlt h0 hw) rfl rfl ⟨(Nat.le_of_ble_eq_true rfl), (Nat.le_of_ble_eq_true rfl)⟩ h0 (T := TX11) (N := 9) rfl (by decide) rfl (Nat.le_of_ble_eq_true rfl) dL_breakIn_3 ⟨show 0 + 1 ≤ 1 from by omega, show 0 + 6 ≤ 6 from by omega⟩ rfl) (fun E5 σ3 q4 hw => ?_) (fun r2 σ1 hw => ?_)
  · obtain ⟨hE, hw⟩ := hw
    subst hE
    refine ⟨11, zc_L_breakIn_11, zwiden (k := 1) (n := 6) (show 0 + 1 ≤ 1 from by omega) (show 0 + 6 ≤ 6 from by omega) ?_⟩
    refine zwiden (k := 1) (n := 6) (Nat.le_refl _) (Nat.le_refl _) ?_
    refine z_astore_n (lv' := [(2, .ref q4), (0, .ref (za Y t0)), (1, .ref (za Y t1))]) hG dL_breakIn_11 rfl (by decide) rfl ?_
    refine z_iconst (v := 1) hG dL_breakIn_12 (by decide) ?_
    refine zwiden (k := 1) (n := 6) (by omega) (by omega) ?_
    exact z_iret hG rfl rfl dL_breakIn_13 hw
  · skip
    refine zwiden (k := 1) (n := 6) (show 0 + 1 ≤ 1 from by omega) (show 0 + 6 ≤ 6 from by omega) ?_
    refine z_i2l hG dL_breakIn_6 ?_
    refine z_topl (fun x6 ex6 => ?_)
    have hw := hw x6 ex6
    obtain ⟨q7, hw⟩ := hw
    refine z_last hG h1 q7 dL_breakIn_7 ?_
    refine z_topσ (fun σ8 eσ8 => ?_)
    have hw := hw σ8 eσ8
    refine z_goto (tgt := 14) hG dL_breakIn_8 (by decide) ?_
    refine z_iconst (v := 0) hG dL_breakIn_14 (by decide) ?_
    refine zwiden (k := 1) (n := 6) (by omega) (by omega) ?_
    exact z_iret hG rfl rfl dL_breakIn_15 hw
-- TypeWheelTelegraphLaw.setRate(LTypeWheelTelegraph;II[J)I
def wL_setRate (ln : Nat → Nat) (σ : zS) (t0 : Nat) (v1 : Int32) (v2 : Int32) (t3 : Nat) (Q : Int32 → zS → Prop) : Prop := wxX11_setRate ln σ t0 v1 v2 (fun r2 σ1 => ∀ x6 : Int64, x6 = r2.toInt64 → vp_in (0 : Int32) (ln t3) ∧ ∀ σ8 : zS, σ8 = sl σ1 t3 (0 : Int32).toNatClampNeg x6 → Q 0 σ8) (fun E5 σ3 => (E5 = "java/lang/IndexOutOfBoundsException" → Q 1 σ3) ∧ (¬ E5 = "java/lang/IndexOutOfBoundsException" → E5 = "java/lang/IllegalArgumentException" ∧ Q 2 σ3))
abbrev rL_setRate : Room := { frames := 9, cells := 2, slots := 12, locals := 165 }
set_option maxRecDepth 100000 in
set_option maxHeartbeats 4000000 in
theorem ML_setRate (l : Launch) (hlt : l.stackTraces = false) {E : zE} {Y : zY} {σ : zS} {t0 : Nat} {v1 : Int32} {v2 : Int32} {t3 : Nat} (h0 : zT Y 11 t0) (h3 : zT Y 24 t3) {Q : Int32 → zS → Prop} (hw : wL_setRate (zln Y) σ t0 v1 v2 t3 Q) : ∀ sz, Met l yL_setRate (zwH yL_setRate cL_setRate 5 (some .int) [(0, 10, 13, 29), (0, 10, 17, 19)]) rL_setRate (zPc E Y σ sz [.ref (za Y t0), .int v1, .int v2, .ref (za Y t3)]) (va_Qi Q (zB E Y sz) (zA Y sz)) 2 12 (zA Y sz) := by
  refine z_metH (hh := [(0, 10, 13, 29), (0, 10, 17, 19)]) (own := RL) (Qc := fun sz => va_Qi Q (zB E Y sz) (zA Y sz)) (by decide +kernel) rfl (Nat.le_of_ble_eq_true rfl) ?_
  intro p e s m args below meth c hG htab
  unfold wL_setRate at hw
  refine zlv (lv' := [(0, .ref (za Y t0)), (1, .int v1), (2, .int v2), (3, .ref (za Y t3))]) rfl ?_
  refine z_aload_n hG dL_setRate_0 rfl 3 rfl ?_
  refine z_iconst (v := 0) hG dL_setRate_1 (by decide) ?_
  refine z_aload_n hG dL_setRate_2 rfl 0 rfl ?_
  refine z_iload_n hG dL_setRate_3 rfl 1 rfl ?_
  refine z_iload_n hG dL_setRate_4 rfl 2 rfl ?_
  refine z_callHi hG htab (z_runXV (As := [.int v1, .int v2]) (st := [.int 0, .ref (za Y t3)]) hG k_L_103 (MxX11_setRate l hlt h0 hw) rfl rfl ⟨(Nat.le_of_ble_eq_true rfl), (Nat.le_of_ble_eq_true rfl)⟩ h0 (T := TX11) (N := 9) rfl (by decide) rfl (Nat.le_of_ble_eq_true rfl) dL_setRate_5 ⟨show 0 + 2 ≤ 2 from by omega, show 0 + 12 ≤ 12 from by omega⟩ rfl) (fun E5 σ3 q4 hw => ?_) (fun r2 σ1 hw => ?_)
  · by_cases hE : E5 = "java/lang/IndexOutOfBoundsException"
    · have hw2 := hw.1 hE
      clear hw
      subst hE
      have hw := hw2
      refine ⟨13, zc_L_setRate_13, zwiden (k := 2) (n := 12) (show 0 + 2 ≤ 2 from by omega) (show 0 + 12 ≤ 12 from by omega) ?_⟩
      refine zwiden (k := 2) (n := 12) (Nat.le_refl _) (Nat.le_refl _) ?_
      refine z_astore (lv' := [(4, .ref q4), (0, .ref (za Y t0)), (1, .int v1), (2, .int v2), (3, .ref (za Y t3))]) hG dL_setRate_13 (by decide) rfl ?_
      refine z_iconst (v := 1) hG dL_setRate_15 (by decide) ?_
      refine zwiden (k := 2) (n := 12) (by omega) (by omega) ?_
      exact z_iret hG rfl rfl dL_setRate_16 hw
    · obtain ⟨hE, hw2⟩ := hw.2 hE
      clear hw
      subst hE
      have hw := hw2
      refine ⟨17, zc_L_setRate_17, zwiden (k := 2) (n := 12) (show 0 + 2 ≤ 2 from by omega) (show 0 + 12 ≤ 12 from by omega) ?_⟩
      refine zwiden (k := 2) (n := 12) (Nat.le_refl _) (Nat.le_refl _) ?_
      refine z_astore (lv' := [(4, .ref q4), (0, .ref (za Y t0)), (1, .int v1), (2, .int v2), (3, .ref (za Y t3))]) hG dL_setRate_17 (by decide) rfl ?_
      refine z_iconst (v := 2) hG dL_setRate_19 (by decide) ?_
      refine zwiden (k := 2) (n := 12) (by omega) (by omega) ?_
      exact z_iret hG rfl rfl dL_setRate_20 hw
  · skip
    refine zwiden (k := 2) (n := 12) (show 0 + 2 ≤ 2 from by omega) (show 0 + 12 ≤ 12 from by omega) ?_
    refine z_i2l hG dL_setRate_8 ?_
    refine z_topl (fun x6 ex6 => ?_)
    have hw := hw x6 ex6
    obtain ⟨q7, hw⟩ := hw
    refine z_last hG h3 q7 dL_setRate_9 ?_
    refine z_topσ (fun σ8 eσ8 => ?_)
    have hw := hw σ8 eσ8
    refine z_goto (tgt := 21) hG dL_setRate_10 (by decide) ?_
    refine z_iconst (v := 0) hG dL_setRate_21 (by decide) ?_
    refine zwiden (k := 2) (n := 12) (by omega) (by omega) ?_
    exact z_iret hG rfl rfl dL_setRate_22 hw
-- TypeWheelTelegraphLaw.nudge(LTypeWheelTelegraph;II[J)I
def wL_nudge (ln : Nat → Nat) (σ : zS) (t0 : Nat) (v1 : Int32) (v2 : Int32) (t3 : Nat) (Q : Int32 → zS → Prop) : Prop := wxX11_nudge ln σ t0 v1 v2 (fun r2 σ1 => ∀ x6 : Int64, x6 = r2.toInt64 → vp_in (0 : Int32) (ln t3) ∧ ∀ σ8 : zS, σ8 = sl σ1 t3 (0 : Int32).toNatClampNeg x6 → Q 0 σ8) (fun E5 σ3 => (E5 = "java/lang/IndexOutOfBoundsException" → Q 1 σ3) ∧ (¬ E5 = "java/lang/IndexOutOfBoundsException" → E5 = "java/lang/IllegalArgumentException" ∧ Q 2 σ3))
abbrev rL_nudge : Room := { frames := 9, cells := 2, slots := 12, locals := 164 }
set_option maxRecDepth 100000 in
set_option maxHeartbeats 4000000 in
theorem ML_nudge (l : Launch) (hlt : l.stackTraces = false) {E : zE} {Y : zY} {σ : zS} {t0 : Nat} {v1 : Int32} {v2 : Int32} {t3 : Nat} (h0 : zT Y 11 t0) (h3 : zT Y 24 t3) {Q : Int32 → zS → Prop} (hw : wL_nudge (zln Y) σ t0 v1 v2 t3 Q) : ∀ sz, Met l yL_nudge (zwH yL_nudge cL_nudge 5 (some .int) [(0, 10, 13, 29), (0, 10, 17, 19)]) rL_nudge (zPc E Y σ sz [.ref (za Y t0), .int v1, .int v2, .ref (za Y t3)]) (va_Qi Q (zB E Y sz) (zA Y sz)) 2 12 (zA Y sz) := by
  refine z_metH (hh := [(0, 10, 13, 29), (0, 10, 17, 19)]) (own := RL) (Qc := fun sz => va_Qi Q (zB E Y sz) (zA Y sz)) (by decide +kernel) rfl (Nat.le_of_ble_eq_true rfl) ?_
  intro p e s m args below meth c hG htab
  unfold wL_nudge at hw
  refine zlv (lv' := [(0, .ref (za Y t0)), (1, .int v1), (2, .int v2), (3, .ref (za Y t3))]) rfl ?_
  refine z_aload_n hG dL_nudge_0 rfl 3 rfl ?_
  refine z_iconst (v := 0) hG dL_nudge_1 (by decide) ?_
  refine z_aload_n hG dL_nudge_2 rfl 0 rfl ?_
  refine z_iload_n hG dL_nudge_3 rfl 1 rfl ?_
  refine z_iload_n hG dL_nudge_4 rfl 2 rfl ?_
  refine z_callHi hG htab (z_runXV (As := [.int v1, .int v2]) (st := [.int 0, .ref (za Y t3)]) hG k_L_106 (MxX11_nudge l hlt h0 hw) rfl rfl ⟨(Nat.le_of_ble_eq_true rfl), (Nat.le_of_ble_eq_true rfl)⟩ h0 (T := TX11) (N := 9) rfl (by decide) rfl (Nat.le_of_ble_eq_true rfl) dL_nudge_5 ⟨show 0 + 2 ≤ 2 from by omega, show 0 + 12 ≤ 12 from by omega⟩ rfl) (fun E5 σ3 q4 hw => ?_) (fun r2 σ1 hw => ?_)
  · by_cases hE : E5 = "java/lang/IndexOutOfBoundsException"
    · have hw2 := hw.1 hE
      clear hw
      subst hE
      have hw := hw2
      refine ⟨13, zc_L_nudge_13, zwiden (k := 2) (n := 12) (show 0 + 2 ≤ 2 from by omega) (show 0 + 12 ≤ 12 from by omega) ?_⟩
      refine zwiden (k := 2) (n := 12) (Nat.le_refl _) (Nat.le_refl _) ?_
      refine z_astore (lv' := [(4, .ref q4), (0, .ref (za Y t0)), (1, .int v1), (2, .int v2), (3, .ref (za Y t3))]) hG dL_nudge_13 (by decide) rfl ?_
      refine z_iconst (v := 1) hG dL_nudge_15 (by decide) ?_
      refine zwiden (k := 2) (n := 12) (by omega) (by omega) ?_
      exact z_iret hG rfl rfl dL_nudge_16 hw
    · obtain ⟨hE, hw2⟩ := hw.2 hE
      clear hw
      subst hE
      have hw := hw2
      refine ⟨17, zc_L_nudge_17, zwiden (k := 2) (n := 12) (show 0 + 2 ≤ 2 from by omega) (show 0 + 12 ≤ 12 from by omega) ?_⟩
      refine zwiden (k := 2) (n := 12) (Nat.le_refl _) (Nat.le_refl _) ?_
      refine z_astore (lv' := [(4, .ref q4), (0, .ref (za Y t0)), (1, .int v1), (2, .int v2), (3, .ref (za Y t3))]) hG dL_nudge_17 (by decide) rfl ?_
      refine z_iconst (v := 2) hG dL_nudge_19 (by decide) ?_
      refine zwiden (k := 2) (n := 12) (by omega) (by omega) ?_
      exact z_iret hG rfl rfl dL_nudge_20 hw
  · skip
    refine zwiden (k := 2) (n := 12) (show 0 + 2 ≤ 2 from by omega) (show 0 + 12 ≤ 12 from by omega) ?_
    refine z_i2l hG dL_nudge_8 ?_
    refine z_topl (fun x6 ex6 => ?_)
    have hw := hw x6 ex6
    obtain ⟨q7, hw⟩ := hw
    refine z_last hG h3 q7 dL_nudge_9 ?_
    refine z_topσ (fun σ8 eσ8 => ?_)
    have hw := hw σ8 eσ8
    refine z_goto (tgt := 21) hG dL_nudge_10 (by decide) ?_
    refine z_iconst (v := 0) hG dL_nudge_21 (by decide) ?_
    refine zwiden (k := 2) (n := 12) (by omega) (by omega) ?_
    exact z_iret hG rfl rfl dL_nudge_22 hw
-- TypeWheelTelegraphLaw.setCorrection(LTypeWheelTelegraph;I[J)I
def wL_setCorrection (ln : Nat → Nat) (σ : zS) (t0 : Nat) (v1 : Int32) (t2 : Nat) (Q : Int32 → zS → Prop) : Prop := wxX11_setCorrection ln σ t0 v1 (fun r2 σ1 => ∀ x6 : Int64, x6 = r2.toInt64 → vp_in (0 : Int32) (ln t2) ∧ ∀ σ8 : zS, σ8 = sl σ1 t2 (0 : Int32).toNatClampNeg x6 → Q 0 σ8) (fun E5 σ3 => E5 = "java/lang/IllegalArgumentException" ∧ Q 1 σ3)
abbrev rL_setCorrection : Room := { frames := 8, cells := 1, slots := 6, locals := 155 }
set_option maxRecDepth 100000 in
set_option maxHeartbeats 4000000 in
theorem ML_setCorrection (l : Launch) (hlt : l.stackTraces = false) {E : zE} {Y : zY} {σ : zS} {t0 : Nat} {v1 : Int32} {t2 : Nat} (h0 : zT Y 11 t0) (h2 : zT Y 24 t2) {Q : Int32 → zS → Prop} (hw : wL_setCorrection (zln Y) σ t0 v1 t2 Q) : ∀ sz, Met l yL_setCorrection (zwH yL_setCorrection cL_setCorrection 4 (some .int) [(0, 9, 12, 19)]) rL_setCorrection (zPc E Y σ sz [.ref (za Y t0), .int v1, .ref (za Y t2)]) (va_Qi Q (zB E Y sz) (zA Y sz)) 1 6 (zA Y sz) := by
  refine z_metH (hh := [(0, 9, 12, 19)]) (own := RL) (Qc := fun sz => va_Qi Q (zB E Y sz) (zA Y sz)) (by decide +kernel) rfl (Nat.le_of_ble_eq_true rfl) ?_
  intro p e s m args below meth c hG htab
  unfold wL_setCorrection at hw
  refine zlv (lv' := [(0, .ref (za Y t0)), (1, .int v1), (2, .ref (za Y t2))]) rfl ?_
  refine z_aload_n hG dL_setCorrection_0 rfl 2 rfl ?_
  refine z_iconst (v := 0) hG dL_setCorrection_1 (by decide) ?_
  refine z_aload_n hG dL_setCorrection_2 rfl 0 rfl ?_
  refine z_iload_n hG dL_setCorrection_3 rfl 1 rfl ?_
  refine z_callHi hG htab (z_runXV (As := [.int v1]) (st := [.int 0, .ref (za Y t2)]) hG k_L_109 (MxX11_setCorrection l hlt h0 hw) rfl rfl ⟨(Nat.le_of_ble_eq_true rfl), (Nat.le_of_ble_eq_true rfl)⟩ h0 (T := TX11) (N := 9) rfl (by decide) rfl (Nat.le_of_ble_eq_true rfl) dL_setCorrection_4 ⟨show 0 + 1 ≤ 1 from by omega, show 0 + 6 ≤ 6 from by omega⟩ rfl) (fun E5 σ3 q4 hw => ?_) (fun r2 σ1 hw => ?_)
  · obtain ⟨hE, hw⟩ := hw
    subst hE
    refine ⟨12, zc_L_setCorrection_12, zwiden (k := 1) (n := 6) (show 0 + 1 ≤ 1 from by omega) (show 0 + 6 ≤ 6 from by omega) ?_⟩
    refine zwiden (k := 1) (n := 6) (Nat.le_refl _) (Nat.le_refl _) ?_
    refine z_astore_n (lv' := [(3, .ref q4), (0, .ref (za Y t0)), (1, .int v1), (2, .ref (za Y t2))]) hG dL_setCorrection_12 rfl (by decide) rfl ?_
    refine z_iconst (v := 1) hG dL_setCorrection_13 (by decide) ?_
    refine zwiden (k := 1) (n := 6) (by omega) (by omega) ?_
    exact z_iret hG rfl rfl dL_setCorrection_14 hw
  · skip
    refine zwiden (k := 1) (n := 6) (show 0 + 1 ≤ 1 from by omega) (show 0 + 6 ≤ 6 from by omega) ?_
    refine z_i2l hG dL_setCorrection_7 ?_
    refine z_topl (fun x6 ex6 => ?_)
    have hw := hw x6 ex6
    obtain ⟨q7, hw⟩ := hw
    refine z_last hG h2 q7 dL_setCorrection_8 ?_
    refine z_topσ (fun σ8 eσ8 => ?_)
    have hw := hw σ8 eσ8
    refine z_goto (tgt := 15) hG dL_setCorrection_9 (by decide) ?_
    refine z_iconst (v := 0) hG dL_setCorrection_15 (by decide) ?_
    refine zwiden (k := 1) (n := 6) (by omega) (by omega) ?_
    exact z_iret hG rfl rfl dL_setCorrection_16 hw
-- TypeWheelTelegraphLaw.lose(LTypeWheelTelegraph;I[J)I
def wL_lose (ln : Nat → Nat) (σ : zS) (t0 : Nat) (v1 : Int32) (t2 : Nat) (Q : Int32 → zS → Prop) : Prop := wxX11_lose ln σ t0 v1 (fun r2 σ1 => ∀ x6 : Int64, x6 = r2.toInt64 → vp_in (0 : Int32) (ln t2) ∧ ∀ σ8 : zS, σ8 = sl σ1 t2 (0 : Int32).toNatClampNeg x6 → Q 0 σ8) (fun E5 σ3 => (E5 = "java/lang/IllegalArgumentException" → Q 1 σ3) ∧ (¬ E5 = "java/lang/IllegalArgumentException" → E5 = "java/lang/IllegalStateException" ∧ Q 2 σ3))
abbrev rL_lose : Room := { frames := 8, cells := 2, slots := 12, locals := 155 }
set_option maxRecDepth 100000 in
set_option maxHeartbeats 4000000 in
theorem ML_lose (l : Launch) (hlt : l.stackTraces = false) {E : zE} {Y : zY} {σ : zS} {t0 : Nat} {v1 : Int32} {t2 : Nat} (h0 : zT Y 11 t0) (h2 : zT Y 24 t2) {Q : Int32 → zS → Prop} (hw : wL_lose (zln Y) σ t0 v1 t2 Q) : ∀ sz, Met l yL_lose (zwH yL_lose cL_lose 4 (some .int) [(0, 9, 12, 19), (0, 9, 15, 13)]) rL_lose (zPc E Y σ sz [.ref (za Y t0), .int v1, .ref (za Y t2)]) (va_Qi Q (zB E Y sz) (zA Y sz)) 2 12 (zA Y sz) := by
  refine z_metH (hh := [(0, 9, 12, 19), (0, 9, 15, 13)]) (own := RL) (Qc := fun sz => va_Qi Q (zB E Y sz) (zA Y sz)) (by decide +kernel) rfl (Nat.le_of_ble_eq_true rfl) ?_
  intro p e s m args below meth c hG htab
  unfold wL_lose at hw
  refine zlv (lv' := [(0, .ref (za Y t0)), (1, .int v1), (2, .ref (za Y t2))]) rfl ?_
  refine z_aload_n hG dL_lose_0 rfl 2 rfl ?_
  refine z_iconst (v := 0) hG dL_lose_1 (by decide) ?_
  refine z_aload_n hG dL_lose_2 rfl 0 rfl ?_
  refine z_iload_n hG dL_lose_3 rfl 1 rfl ?_
  refine z_callHi hG htab (z_runXV (As := [.int v1]) (st := [.int 0, .ref (za Y t2)]) hG k_L_112 (MxX11_lose l hlt h0 hw) rfl rfl ⟨(Nat.le_of_ble_eq_true rfl), (Nat.le_of_ble_eq_true rfl)⟩ h0 (T := TX11) (N := 9) rfl (by decide) rfl (Nat.le_of_ble_eq_true rfl) dL_lose_4 ⟨show 0 + 2 ≤ 2 from by omega, show 0 + 12 ≤ 12 from by omega⟩ rfl) (fun E5 σ3 q4 hw => ?_) (fun r2 σ1 hw => ?_)
  · by_cases hE : E5 = "java/lang/IllegalArgumentException"
    · have hw2 := hw.1 hE
      clear hw
      subst hE
      have hw := hw2
      refine ⟨12, zc_L_lose_12, zwiden (k := 2) (n := 12) (show 0 + 2 ≤ 2 from by omega) (show 0 + 12 ≤ 12 from by omega) ?_⟩
      refine zwiden (k := 2) (n := 12) (Nat.le_refl _) (Nat.le_refl _) ?_
      refine z_astore_n (lv' := [(3, .ref q4), (0, .ref (za Y t0)), (1, .int v1), (2, .ref (za Y t2))]) hG dL_lose_12 rfl (by decide) rfl ?_
      refine z_iconst (v := 1) hG dL_lose_13 (by decide) ?_
      refine zwiden (k := 2) (n := 12) (by omega) (by omega) ?_
      exact z_iret hG rfl rfl dL_lose_14 hw
    · obtain ⟨hE, hw2⟩ := hw.2 hE
      clear hw
      subst hE
      have hw := hw2
      refine ⟨15, zc_L_lose_15, zwiden (k := 2) (n := 12) (show 0 + 2 ≤ 2 from by omega) (show 0 + 12 ≤ 12 from by omega) ?_⟩
      refine zwiden (k := 2) (n := 12) (Nat.le_refl _) (Nat.le_refl _) ?_
      refine z_astore_n (lv' := [(3, .ref q4), (0, .ref (za Y t0)), (1, .int v1), (2, .ref (za Y t2))]) hG dL_lose_15 rfl (by decide) rfl ?_
      refine z_iconst (v := 2) hG dL_lose_16 (by decide) ?_
      refine zwiden (k := 2) (n := 12) (by omega) (by omega) ?_
      exact z_iret hG rfl rfl dL_lose_17 hw
  · skip
    refine zwiden (k := 2) (n := 12) (show 0 + 2 ≤ 2 from by omega) (show 0 + 12 ≤ 12 from by omega) ?_
    refine z_i2l hG dL_lose_7 ?_
    refine z_topl (fun x6 ex6 => ?_)
    have hw := hw x6 ex6
    obtain ⟨q7, hw⟩ := hw
    refine z_last hG h2 q7 dL_lose_8 ?_
    refine z_topσ (fun σ8 eσ8 => ?_)
    have hw := hw σ8 eσ8
    refine z_goto (tgt := 18) hG dL_lose_9 (by decide) ?_
    refine z_iconst (v := 0) hG dL_lose_18 (by decide) ?_
    refine zwiden (k := 2) (n := 12) (by omega) (by omega) ?_
    exact z_iret hG rfl rfl dL_lose_19 hw
-- TypeWheelTelegraphLaw.undo(LTypeWheelTelegraph;[J)I
def wL_undo (ln : Nat → Nat) (σ : zS) (t0 : Nat) (t1 : Nat) (Q : Int32 → zS → Prop) : Prop := wxX11_undo ln σ t0 (fun r2 σ1 => ∀ x6 : Int64, x6 = r2.toInt64 → vp_in (0 : Int32) (ln t1) ∧ ∀ σ8 : zS, σ8 = sl σ1 t1 (0 : Int32).toNatClampNeg x6 → Q 0 σ8) (fun E5 σ3 => E5 = "java/lang/IllegalStateException" ∧ Q 1 σ3)
abbrev rL_undo : Room := { frames := 7, cells := 1, slots := 6, locals := 153 }
set_option maxRecDepth 100000 in
set_option maxHeartbeats 4000000 in
theorem ML_undo (l : Launch) (hlt : l.stackTraces = false) {E : zE} {Y : zY} {σ : zS} {t0 : Nat} {t1 : Nat} (h0 : zT Y 11 t0) (h1 : zT Y 24 t1) {Q : Int32 → zS → Prop} (hw : wL_undo (zln Y) σ t0 t1 Q) : ∀ sz, Met l yL_undo (zwH yL_undo cL_undo 3 (some .int) [(0, 8, 11, 13)]) rL_undo (zPc E Y σ sz [.ref (za Y t0), .ref (za Y t1)]) (va_Qi Q (zB E Y sz) (zA Y sz)) 1 6 (zA Y sz) := by
  refine z_metH (hh := [(0, 8, 11, 13)]) (own := RL) (Qc := fun sz => va_Qi Q (zB E Y sz) (zA Y sz)) (by decide +kernel) rfl (Nat.le_of_ble_eq_true rfl) ?_
  intro p e s m args below meth c hG htab
  unfold wL_undo at hw
  refine zlv (lv' := [(0, .ref (za Y t0)), (1, .ref (za Y t1))]) rfl ?_
  refine z_aload_n hG dL_undo_0 rfl 1 rfl ?_
  refine z_iconst (v := 0) hG dL_undo_1 (by decide) ?_
  refine z_aload_n hG dL_undo_2 rfl 0 rfl ?_
  refine z_callHi hG htab (z_runXV (As := []) (st := [.int 0, .ref (za Y t1)]) hG k_L_115 (MxX11_undo l hlt h0 hw) rfl rfl ⟨(Nat.le_of_ble_eq_true rfl), (Nat.le_of_ble_eq_true rfl)⟩ h0 (T := TX11) (N := 9) rfl (by decide) rfl (Nat.le_of_ble_eq_true rfl) dL_undo_3 ⟨show 0 + 1 ≤ 1 from by omega, show 0 + 6 ≤ 6 from by omega⟩ rfl) (fun E5 σ3 q4 hw => ?_) (fun r2 σ1 hw => ?_)
  · obtain ⟨hE, hw⟩ := hw
    subst hE
    refine ⟨11, zc_L_undo_11, zwiden (k := 1) (n := 6) (show 0 + 1 ≤ 1 from by omega) (show 0 + 6 ≤ 6 from by omega) ?_⟩
    refine zwiden (k := 1) (n := 6) (Nat.le_refl _) (Nat.le_refl _) ?_
    refine z_astore_n (lv' := [(2, .ref q4), (0, .ref (za Y t0)), (1, .ref (za Y t1))]) hG dL_undo_11 rfl (by decide) rfl ?_
    refine z_iconst (v := 1) hG dL_undo_12 (by decide) ?_
    refine zwiden (k := 1) (n := 6) (by omega) (by omega) ?_
    exact z_iret hG rfl rfl dL_undo_13 hw
  · skip
    refine zwiden (k := 1) (n := 6) (show 0 + 1 ≤ 1 from by omega) (show 0 + 6 ≤ 6 from by omega) ?_
    refine z_i2l hG dL_undo_6 ?_
    refine z_topl (fun x6 ex6 => ?_)
    have hw := hw x6 ex6
    obtain ⟨q7, hw⟩ := hw
    refine z_last hG h1 q7 dL_undo_7 ?_
    refine z_topσ (fun σ8 eσ8 => ?_)
    have hw := hw σ8 eσ8
    refine z_goto (tgt := 14) hG dL_undo_8 (by decide) ?_
    refine z_iconst (v := 0) hG dL_undo_14 (by decide) ?_
    refine zwiden (k := 1) (n := 6) (by omega) (by omega) ?_
    exact z_iret hG rfl rfl dL_undo_15 hw
-- TypeWheelTelegraphLaw.misprintsIn(LTypeWheelTelegraph;I[J)I
def wL_misprintsIn (ln : Nat → Nat) (σ : zS) (t0 : Nat) (v1 : Int32) (t2 : Nat) (Q : Int32 → zS → Prop) : Prop := wxX11_misprintsIn ln σ t0 v1 (fun r2 σ1 => ∀ x6 : Int64, x6 = r2.toInt64 → vp_in (0 : Int32) (ln t2) ∧ ∀ σ8 : zS, σ8 = sl σ1 t2 (0 : Int32).toNatClampNeg x6 → Q 0 σ8) (fun E5 σ3 => E5 = "java/lang/IllegalArgumentException" ∧ Q 1 σ3)
abbrev rL_misprintsIn : Room := { frames := 10, cells := 1, slots := 6, locals := 218 }
set_option maxRecDepth 100000 in
set_option maxHeartbeats 4000000 in
theorem ML_misprintsIn (l : Launch) (hlt : l.stackTraces = false) {E : zE} {Y : zY} {σ : zS} {t0 : Nat} {v1 : Int32} {t2 : Nat} (h0 : zT Y 11 t0) (h2 : zT Y 24 t2) {Q : Int32 → zS → Prop} (hw : wL_misprintsIn (zln Y) σ t0 v1 t2 Q) : ∀ sz, Met l yL_misprintsIn (zwH yL_misprintsIn cL_misprintsIn 4 (some .int) [(0, 9, 12, 19)]) rL_misprintsIn (zPc E Y σ sz [.ref (za Y t0), .int v1, .ref (za Y t2)]) (va_Qi Q (zB E Y sz) (zA Y sz)) 1 6 (zA Y sz) := by
  refine z_metH (hh := [(0, 9, 12, 19)]) (own := RL) (Qc := fun sz => va_Qi Q (zB E Y sz) (zA Y sz)) (by decide +kernel) rfl (Nat.le_of_ble_eq_true rfl) ?_
  intro p e s m args below meth c hG htab
  unfold wL_misprintsIn at hw
  refine zlv (lv' := [(0, .ref (za Y t0)), (1, .int v1), (2, .ref (za Y t2))]) rfl ?_
  refine z_aload_n hG dL_misprintsIn_0 rfl 2 rfl ?_
  refine z_iconst (v := 0) hG dL_misprintsIn_1 (by decide) ?_
  refine z_aload_n hG dL_misprintsIn_2 rfl 0 rfl ?_
  refine z_iload_n hG dL_misprintsIn_3 rfl 1 rfl ?_
  refine z_callHi hG htab (z_runXV (As := [.int v1]) (st := [.int 0, .ref (za Y t2)]) hG k_L_118 (MxX11_misprintsIn l hlt h0 hw) rfl rfl ⟨(Nat.le_of_ble_eq_true rfl), (Nat.le_of_ble_eq_true rfl)⟩ h0 (T := TX11) (N := 9) rfl (by decide) rfl (Nat.le_of_ble_eq_true rfl) dL_misprintsIn_4 ⟨show 0 + 1 ≤ 1 from by omega, show 0 + 6 ≤ 6 from by omega⟩ rfl) (fun E5 σ3 q4 hw => ?_) (fun r2 σ1 hw => ?_)
  · obtain ⟨hE, hw⟩ := hw
    subst hE
    refine ⟨12, zc_L_misprintsIn_12, zwiden (k := 1) (n := 6) (show 0 + 1 ≤ 1 from by omega) (show 0 + 6 ≤ 6 from by omega) ?_⟩
    refine zwiden (k := 1) (n := 6) (Nat.le_refl _) (Nat.le_refl _) ?_
    refine z_astore_n (lv' := [(3, .ref q4), (0, .ref (za Y t0)), (1, .int v1), (2, .ref (za Y t2))]) hG dL_misprintsIn_12 rfl (by decide) rfl ?_
    refine z_iconst (v := 1) hG dL_misprintsIn_13 (by decide) ?_
    refine zwiden (k := 1) (n := 6) (by omega) (by omega) ?_
    exact z_iret hG rfl rfl dL_misprintsIn_14 hw
  · skip
    refine zwiden (k := 1) (n := 6) (show 0 + 1 ≤ 1 from by omega) (show 0 + 6 ≤ 6 from by omega) ?_
    refine z_i2l hG dL_misprintsIn_7 ?_
    refine z_topl (fun x6 ex6 => ?_)
    have hw := hw x6 ex6
    obtain ⟨q7, hw⟩ := hw
    refine z_last hG h2 q7 dL_misprintsIn_8 ?_
    refine z_topσ (fun σ8 eσ8 => ?_)
    have hw := hw σ8 eσ8
    refine z_goto (tgt := 15) hG dL_misprintsIn_9 (by decide) ?_
    refine z_iconst (v := 0) hG dL_misprintsIn_15 (by decide) ?_
    refine zwiden (k := 1) (n := 6) (by omega) (by omega) ?_
    exact z_iret hG rfl rfl dL_misprintsIn_16 hw
-- TypeWheelTelegraphLaw.ticksUntilDone(LTypeWheelTelegraph;I[J)I
def wL_ticksUntilDone (ln : Nat → Nat) (σ : zS) (t0 : Nat) (v1 : Int32) (t2 : Nat) (Q : Int32 → zS → Prop) : Prop := wxX11_ticksUntilDone ln σ t0 v1 (fun r2 σ1 => ∀ x6 : Int64, x6 = r2.toInt64 → vp_in (0 : Int32) (ln t2) ∧ ∀ σ8 : zS, σ8 = sl σ1 t2 (0 : Int32).toNatClampNeg x6 → Q 0 σ8) (fun E5 σ3 => E5 = "java/lang/IllegalArgumentException" ∧ Q 1 σ3)
abbrev rL_ticksUntilDone : Room := { frames := 10, cells := 1, slots := 6, locals := 218 }
set_option maxRecDepth 100000 in
set_option maxHeartbeats 4000000 in
theorem ML_ticksUntilDone (l : Launch) (hlt : l.stackTraces = false) {E : zE} {Y : zY} {σ : zS} {t0 : Nat} {v1 : Int32} {t2 : Nat} (h0 : zT Y 11 t0) (h2 : zT Y 24 t2) {Q : Int32 → zS → Prop} (hw : wL_ticksUntilDone (zln Y) σ t0 v1 t2 Q) : ∀ sz, Met l yL_ticksUntilDone (zwH yL_ticksUntilDone cL_ticksUntilDone 4 (some .int) [(0, 9, 12, 19)]) rL_ticksUntilDone (zPc E Y σ sz [.ref (za Y t0), .int v1, .ref (za Y t2)]) (va_Qi Q (zB E Y sz) (zA Y sz)) 1 6 (zA Y sz) := by
  refine z_metH (hh := [(0, 9, 12, 19)]) (own := RL) (Qc := fun sz => va_Qi Q (zB E Y sz) (zA Y sz)) (by decide +kernel) rfl (Nat.le_of_ble_eq_true rfl) ?_
  intro p e s m args below meth c hG htab
  unfold wL_ticksUntilDone at hw
  refine zlv (lv' := [(0, .ref (za Y t0)), (1, .int v1), (2, .ref (za Y t2))]) rfl ?_
  refine z_aload_n hG dL_ticksUntilDone_0 rfl 2 rfl ?_
  refine z_iconst (v := 0) hG dL_ticksUntilDone_1 (by decide) ?_
  refine z_aload_n hG dL_ticksUntilDone_2 rfl 0 rfl ?_
  refine z_iload_n hG dL_ticksUntilDone_3 rfl 1 rfl ?_
  refine z_callHi hG htab (z_runXV (As := [.int v1]) (st := [.int 0, .ref (za Y t2)]) hG k_L_121 (MxX11_ticksUntilDone l hlt h0 hw) rfl rfl ⟨(Nat.le_of_ble_eq_true rfl), (Nat.le_of_ble_eq_true rfl)⟩ h0 (T := TX11) (N := 9) rfl (by decide) rfl (Nat.le_of_ble_eq_true rfl) dL_ticksUntilDone_4 ⟨show 0 + 1 ≤ 1 from by omega, show 0 + 6 ≤ 6 from by omega⟩ rfl) (fun E5 σ3 q4 hw => ?_) (fun r2 σ1 hw => ?_)
  · obtain ⟨hE, hw⟩ := hw
    subst hE
    refine ⟨12, zc_L_ticksUntilDone_12, zwiden (k := 1) (n := 6) (show 0 + 1 ≤ 1 from by omega) (show 0 + 6 ≤ 6 from by omega) ?_⟩
    refine zwiden (k := 1) (n := 6) (Nat.le_refl _) (Nat.le_refl _) ?_
    refine z_astore_n (lv' := [(3, .ref q4), (0, .ref (za Y t0)), (1, .int v1), (2, .ref (za Y t2))]) hG dL_ticksUntilDone_12 rfl (by decide) rfl ?_
    refine z_iconst (v := 1) hG dL_ticksUntilDone_13 (by decide) ?_
    refine zwiden (k := 1) (n := 6) (by omega) (by omega) ?_
    exact z_iret hG rfl rfl dL_ticksUntilDone_14 hw
  · skip
    refine zwiden (k := 1) (n := 6) (show 0 + 1 ≤ 1 from by omega) (show 0 + 6 ≤ 6 from by omega) ?_
    refine z_i2l hG dL_ticksUntilDone_7 ?_
    refine z_topl (fun x6 ex6 => ?_)
    have hw := hw x6 ex6
    obtain ⟨q7, hw⟩ := hw
    refine z_last hG h2 q7 dL_ticksUntilDone_8 ?_
    refine z_topσ (fun σ8 eσ8 => ?_)
    have hw := hw σ8 eσ8
    refine z_goto (tgt := 15) hG dL_ticksUntilDone_9 (by decide) ?_
    refine z_iconst (v := 0) hG dL_ticksUntilDone_15 (by decide) ?_
    refine zwiden (k := 1) (n := 6) (by omega) (by omega) ?_
    exact z_iret hG rfl rfl dL_ticksUntilDone_16 hw
-- TypeWheelTelegraphLaw.bestCorrection(LTypeWheelTelegraph;I[J)I
def wL_bestCorrection (ln : Nat → Nat) (σ : zS) (t0 : Nat) (v1 : Int32) (t2 : Nat) (Q : Int32 → zS → Prop) : Prop := wxX11_bestCorrection ln σ t0 v1 (fun r2 σ1 => ∀ x6 : Int64, x6 = r2.toInt64 → vp_in (0 : Int32) (ln t2) ∧ ∀ σ8 : zS, σ8 = sl σ1 t2 (0 : Int32).toNatClampNeg x6 → Q 0 σ8) (fun E5 σ3 => E5 = "java/lang/IllegalArgumentException" ∧ Q 1 σ3)
abbrev rL_bestCorrection : Room := { frames := 10, cells := 1, slots := 6, locals := 222 }
set_option maxRecDepth 100000 in
set_option maxHeartbeats 4000000 in
theorem ML_bestCorrection (l : Launch) (hlt : l.stackTraces = false) {E : zE} {Y : zY} {σ : zS} {t0 : Nat} {v1 : Int32} {t2 : Nat} (h0 : zT Y 11 t0) (h2 : zT Y 24 t2) {Q : Int32 → zS → Prop} (hw : wL_bestCorrection (zln Y) σ t0 v1 t2 Q) : ∀ sz, Met l yL_bestCorrection (zwH yL_bestCorrection cL_bestCorrection 4 (some .int) [(0, 9, 12, 19)]) rL_bestCorrection (zPc E Y σ sz [.ref (za Y t0), .int v1, .ref (za Y t2)]) (va_Qi Q (zB E Y sz) (zA Y sz)) 1 6 (zA Y sz) := by
  refine z_metH (hh := [(0, 9, 12, 19)]) (own := RL) (Qc := fun sz => va_Qi Q (zB E Y sz) (zA Y sz)) (by decide +kernel) rfl (Nat.le_of_ble_eq_true rfl) ?_
  intro p e s m args below meth c hG htab
  unfold wL_bestCorrection at hw
  refine zlv (lv' := [(0, .ref (za Y t0)), (1, .int v1), (2, .ref (za Y t2))]) rfl ?_
  refine z_aload_n hG dL_bestCorrection_0 rfl 2 rfl ?_
  refine z_iconst (v := 0) hG dL_bestCorrection_1 (by decide) ?_
  refine z_aload_n hG dL_bestCorrection_2 rfl 0 rfl ?_
  refine z_iload_n hG dL_bestCorrection_3 rfl 1 rfl ?_
  refine z_callHi hG htab (z_runXV (As := [.int v1]) (st := [.int 0, .ref (za Y t2)]) hG k_L_124 (MxX11_bestCorrection l hlt h0 hw) rfl rfl ⟨(Nat.le_of_ble_eq_true rfl), (Nat.le_of_ble_eq_true rfl)⟩ h0 (T := TX11) (N := 9) rfl (by decide) rfl (Nat.le_of_ble_eq_true rfl) dL_bestCorrection_4 ⟨show 0 + 1 ≤ 1 from by omega, show 0 + 6 ≤ 6 from by omega⟩ rfl) (fun E5 σ3 q4 hw => ?_) (fun r2 σ1 hw => ?_)
  · obtain ⟨hE, hw⟩ := hw
    subst hE
    refine ⟨12, zc_L_bestCorrection_12, zwiden (k := 1) (n := 6) (show 0 + 1 ≤ 1 from by omega) (show 0 + 6 ≤ 6 from by omega) ?_⟩
    refine zwiden (k := 1) (n := 6) (Nat.le_refl _) (Nat.le_refl _) ?_
    refine z_astore_n (lv' := [(3, .ref q4), (0, .ref (za Y t0)), (1, .int v1), (2, .ref (za Y t2))]) hG dL_bestCorrection_12 rfl (by decide) rfl ?_
    refine z_iconst (v := 1) hG dL_bestCorrection_13 (by decide) ?_
    refine zwiden (k := 1) (n := 6) (by omega) (by omega) ?_
    exact z_iret hG rfl rfl dL_bestCorrection_14 hw
  · skip
    refine zwiden (k := 1) (n := 6) (show 0 + 1 ≤ 1 from by omega) (show 0 + 6 ≤ 6 from by omega) ?_
    refine z_i2l hG dL_bestCorrection_7 ?_
    refine z_topl (fun x6 ex6 => ?_)
    have hw := hw x6 ex6
    obtain ⟨q7, hw⟩ := hw
    refine z_last hG h2 q7 dL_bestCorrection_8 ?_
    refine z_topσ (fun σ8 eσ8 => ?_)
    have hw := hw σ8 eσ8
    refine z_goto (tgt := 15) hG dL_bestCorrection_9 (by decide) ?_
    refine z_iconst (v := 0) hG dL_bestCorrection_15 (by decide) ?_
    refine zwiden (k := 1) (n := 6) (by omega) (by omega) ?_
    exact z_iret hG rfl rfl dL_bestCorrection_16 hw
-- TypeWheelTelegraphLaw.bestRate(LTypeWheelTelegraph;II[J)I
def wL_bestRate (ln : Nat → Nat) (σ : zS) (t0 : Nat) (v1 : Int32) (v2 : Int32) (t3 : Nat) (Q : Int32 → zS → Prop) : Prop := wxX11_bestRate ln σ t0 v1 v2 (fun r2 σ1 => ∀ x6 : Int64, x6 = r2.toInt64 → vp_in (0 : Int32) (ln t3) ∧ ∀ σ8 : zS, σ8 = sl σ1 t3 (0 : Int32).toNatClampNeg x6 → Q 0 σ8) (fun E5 σ3 => (E5 = "java/lang/IndexOutOfBoundsException" → Q 1 σ3) ∧ (¬ E5 = "java/lang/IndexOutOfBoundsException" → E5 = "java/lang/IllegalArgumentException" ∧ Q 2 σ3))
abbrev rL_bestRate : Room := { frames := 10, cells := 2, slots := 12, locals := 224 }
set_option maxRecDepth 100000 in
set_option maxHeartbeats 4000000 in
theorem ML_bestRate (l : Launch) (hlt : l.stackTraces = false) {E : zE} {Y : zY} {σ : zS} {t0 : Nat} {v1 : Int32} {v2 : Int32} {t3 : Nat} (h0 : zT Y 11 t0) (h3 : zT Y 24 t3) {Q : Int32 → zS → Prop} (hw : wL_bestRate (zln Y) σ t0 v1 v2 t3 Q) : ∀ sz, Met l yL_bestRate (zwH yL_bestRate cL_bestRate 5 (some .int) [(0, 10, 13, 29), (0, 10, 17, 19)]) rL_bestRate (zPc E Y σ sz [.ref (za Y t0), .int v1, .int v2, .ref (za Y t3)]) (va_Qi Q (zB E Y sz) (zA Y sz)) 2 12 (zA Y sz) := by
  refine z_metH (hh := [(0, 10, 13, 29), (0, 10, 17, 19)]) (own := RL) (Qc := fun sz => va_Qi Q (zB E Y sz) (zA Y sz)) (by decide +kernel) rfl (Nat.le_of_ble_eq_true rfl) ?_
  intro p e s m args below meth c hG htab
  unfold wL_bestRate at hw
  refine zlv (lv' := [(0, .ref (za Y t0)), (1, .int v1), (2, .int v2), (3, .ref (za Y t3))]) rfl ?_
  refine z_aload_n hG dL_bestRate_0 rfl 3 rfl ?_
  refine z_iconst (v := 0) hG dL_bestRate_1 (by decide) ?_
  refine z_aload_n hG dL_bestRate_2 rfl 0 rfl ?_
  refine z_iload_n hG dL_bestRate_3 rfl 1 rfl ?_
  refine z_iload_n hG dL_bestRate_4 rfl 2 rfl ?_
  refine z_callHi hG htab (z_runXV (As := [.int v1, .int v2]) (st := [.int 0, .ref (za Y t3)]) hG k_L_127 (MxX11_bestRate l hlt h0 hw) rfl rfl ⟨(Nat.le_of_ble_eq_true rfl), (Nat.le_of_ble_eq_true rfl)⟩ h0 (T := TX11) (N := 9) rfl (by decide) rfl (Nat.le_of_ble_eq_true rfl) dL_bestRate_5 ⟨show 0 + 2 ≤ 2 from by omega, show 0 + 12 ≤ 12 from by omega⟩ rfl) (fun E5 σ3 q4 hw => ?_) (fun r2 σ1 hw => ?_)
  · by_cases hE : E5 = "java/lang/IndexOutOfBoundsException"
    · have hw2 := hw.1 hE
      clear hw
      subst hE
      have hw := hw2
      refine ⟨13, zc_L_bestRate_13, zwiden (k := 2) (n := 12) (show 0 + 2 ≤ 2 from by omega) (show 0 + 12 ≤ 12 from by omega) ?_⟩
      refine zwiden (k := 2) (n := 12) (Nat.le_refl _) (Nat.le_refl _) ?_
      refine z_astore (lv' := [(4, .ref q4), (0, .ref (za Y t0)), (1, .int v1), (2, .int v2), (3, .ref (za Y t3))]) hG dL_bestRate_13 (by decide) rfl ?_
      refine z_iconst (v := 1) hG dL_bestRate_15 (by decide) ?_
      refine zwiden (k := 2) (n := 12) (by omega) (by omega) ?_
      exact z_iret hG rfl rfl dL_bestRate_16 hw
    · obtain ⟨hE, hw2⟩ := hw.2 hE
      clear hw
      subst hE
      have hw := hw2
      refine ⟨17, zc_L_bestRate_17, zwiden (k := 2) (n := 12) (show 0 + 2 ≤ 2 from by omega) (show 0 + 12 ≤ 12 from by omega) ?_⟩
      refine zwiden (k := 2) (n := 12) (Nat.le_refl _) (Nat.le_refl _) ?_
      refine z_astore (lv' := [(4, .ref q4), (0, .ref (za Y t0)), (1, .int v1), (2, .int v2), (3, .ref (za Y t3))]) hG dL_bestRate_17 (by decide) rfl ?_
      refine z_iconst (v := 2) hG dL_bestRate_19 (by decide) ?_
      refine zwiden (k := 2) (n := 12) (by omega) (by omega) ?_
      exact z_iret hG rfl rfl dL_bestRate_20 hw
  · skip
    refine zwiden (k := 2) (n := 12) (show 0 + 2 ≤ 2 from by omega) (show 0 + 12 ≤ 12 from by omega) ?_
    refine z_i2l hG dL_bestRate_8 ?_
    refine z_topl (fun x6 ex6 => ?_)
    have hw := hw x6 ex6
    obtain ⟨q7, hw⟩ := hw
    refine z_last hG h3 q7 dL_bestRate_9 ?_
    refine z_topσ (fun σ8 eσ8 => ?_)
    have hw := hw σ8 eσ8
    refine z_goto (tgt := 21) hG dL_bestRate_10 (by decide) ?_
    refine z_iconst (v := 0) hG dL_bestRate_21 (by decide) ?_
    refine zwiden (k := 2) (n := 12) (by omega) (by omega) ?_
    exact z_iret hG rfl rfl dL_bestRate_22 hw
-- TypeWheelTelegraphLaw.bestNudge(LTypeWheelTelegraph;II[J)I
def wL_bestNudge (ln : Nat → Nat) (σ : zS) (t0 : Nat) (v1 : Int32) (v2 : Int32) (t3 : Nat) (Q : Int32 → zS → Prop) : Prop := wxX11_bestNudge ln σ t0 v1 v2 (fun r2 σ1 => ∀ x6 : Int64, x6 = r2.toInt64 → vp_in (0 : Int32) (ln t3) ∧ ∀ σ8 : zS, σ8 = sl σ1 t3 (0 : Int32).toNatClampNeg x6 → Q 0 σ8) (fun E5 σ3 => (E5 = "java/lang/IndexOutOfBoundsException" → Q 1 σ3) ∧ (¬ E5 = "java/lang/IndexOutOfBoundsException" → E5 = "java/lang/IllegalArgumentException" ∧ Q 2 σ3))
abbrev rL_bestNudge : Room := { frames := 10, cells := 2, slots := 12, locals := 224 }
set_option maxRecDepth 100000 in
set_option maxHeartbeats 4000000 in
theorem ML_bestNudge (l : Launch) (hlt : l.stackTraces = false) {E : zE} {Y : zY} {σ : zS} {t0 : Nat} {v1 : Int32} {v2 : Int32} {t3 : Nat} (h0 : zT Y 11 t0) (h3 : zT Y 24 t3) {Q : Int32 → zS → Prop} (hw : wL_bestNudge (zln Y) σ t0 v1 v2 t3 Q) : ∀ sz, Met l yL_bestNudge (zwH yL_bestNudge cL_bestNudge 5 (some .int) [(0, 10, 13, 29), (0, 10, 17, 19)]) rL_bestNudge (zPc E Y σ sz [.ref (za Y t0), .int v1, .int v2, .ref (za Y t3)]) (va_Qi Q (zB E Y sz) (zA Y sz)) 2 12 (zA Y sz) := by
  refine z_metH (hh := [(0, 10, 13, 29), (0, 10, 17, 19)]) (own := RL) (Qc := fun sz => va_Qi Q (zB E Y sz) (zA Y sz)) (by decide +kernel) rfl (Nat.le_of_ble_eq_true rfl) ?_
  intro p e s m args below meth c hG htab
  unfold wL_bestNudge at hw
  refine zlv (lv' := [(0, .ref (za Y t0)), (1, .int v1), (2, .int v2), (3, .ref (za Y t3))]) rfl ?_
  refine z_aload_n hG dL_bestNudge_0 rfl 3 rfl ?_
  refine z_iconst (v := 0) hG dL_bestNudge_1 (by decide) ?_
  refine z_aload_n hG dL_bestNudge_2 rfl 0 rfl ?_
  refine z_iload_n hG dL_bestNudge_3 rfl 1 rfl ?_
  refine z_iload_n hG dL_bestNudge_4 rfl 2 rfl ?_
  refine z_callHi hG htab (z_runXV (As := [.int v1, .int v2]) (st := [.int 0, .ref (za Y t3)]) hG k_L_130 (MxX11_bestNudge l hlt h0 hw) rfl rfl ⟨(Nat.le_of_ble_eq_true rfl), (Nat.le_of_ble_eq_true rfl)⟩ h0 (T := TX11) (N := 9) rfl (by decide) rfl (Nat.le_of_ble_eq_true rfl) dL_bestNudge_5 ⟨show 0 + 2 ≤ 2 from by omega, show 0 + 12 ≤ 12 from by omega⟩ rfl) (fun E5 σ3 q4 hw => ?_) (fun r2 σ1 hw => ?_)
  · by_cases hE : E5 = "java/lang/IndexOutOfBoundsException"
    · have hw2 := hw.1 hE
      clear hw
      subst hE
      have hw := hw2
      refine ⟨13, zc_L_bestNudge_13, zwiden (k := 2) (n := 12) (show 0 + 2 ≤ 2 from by omega) (show 0 + 12 ≤ 12 from by omega) ?_⟩
      refine zwiden (k := 2) (n := 12) (Nat.le_refl _) (Nat.le_refl _) ?_
      refine z_astore (lv' := [(4, .ref q4), (0, .ref (za Y t0)), (1, .int v1), (2, .int v2), (3, .ref (za Y t3))]) hG dL_bestNudge_13 (by decide) rfl ?_
      refine z_iconst (v := 1) hG dL_bestNudge_15 (by decide) ?_
      refine zwiden (k := 2) (n := 12) (by omega) (by omega) ?_
      exact z_iret hG rfl rfl dL_bestNudge_16 hw
    · obtain ⟨hE, hw2⟩ := hw.2 hE
      clear hw
      subst hE
      have hw := hw2
      refine ⟨17, zc_L_bestNudge_17, zwiden (k := 2) (n := 12) (show 0 + 2 ≤ 2 from by omega) (show 0 + 12 ≤ 12 from by omega) ?_⟩
      refine zwiden (k := 2) (n := 12) (Nat.le_refl _) (Nat.le_refl _) ?_
      refine z_astore (lv' := [(4, .ref q4), (0, .ref (za Y t0)), (1, .int v1), (2, .int v2), (3, .ref (za Y t3))]) hG dL_bestNudge_17 (by decide) rfl ?_
      refine z_iconst (v := 2) hG dL_bestNudge_19 (by decide) ?_
      refine zwiden (k := 2) (n := 12) (by omega) (by omega) ?_
      exact z_iret hG rfl rfl dL_bestNudge_20 hw
  · skip
    refine zwiden (k := 2) (n := 12) (show 0 + 2 ≤ 2 from by omega) (show 0 + 12 ≤ 12 from by omega) ?_
    refine z_i2l hG dL_bestNudge_8 ?_
    refine z_topl (fun x6 ex6 => ?_)
    have hw := hw x6 ex6
    obtain ⟨q7, hw⟩ := hw
    refine z_last hG h3 q7 dL_bestNudge_9 ?_
    refine z_topσ (fun σ8 eσ8 => ?_)
    have hw := hw σ8 eσ8
    refine z_goto (tgt := 21) hG dL_bestNudge_10 (by decide) ?_
    refine z_iconst (v := 0) hG dL_bestNudge_21 (by decide) ?_
    refine zwiden (k := 2) (n := 12) (by omega) (by omega) ?_
    exact z_iret hG rfl rfl dL_bestNudge_22 hw
-- TypeWheelTelegraphLaw.format(LTypeWheelTelegraph;I[J)I
def wL_format (S : zSp) (σ : zS) (t0 : Nat) (v1 : Int32) (t2 : Nat) (Q : Int32 → zSp → zS → Prop) : Prop := wxX11_format S σ t0 v1 (fun r2 S1 σ1 => ∀ x6 : Int64, x6 = r2.toInt64 → vp_in (0 : Int32) ((zSl S1) t2) ∧ ∀ σ8 : zS, σ8 = sl σ1 t2 (0 : Int32).toNatClampNeg x6 → Q 0 S1 σ8) (fun E5 σ3 => E5 = "java/lang/IndexOutOfBoundsException" ∧ Q 1 S σ3)
abbrev rL_format : Room := { frames := 9, cells := 50, slots := 7356, locals := 180 }
set_option maxRecDepth 100000 in
set_option maxHeartbeats 4000000 in
theorem ML_format (l : Launch) (hlt : l.stackTraces = false) {E : zE} {Y : zY} {σ : zS} {t0 : Nat} {v1 : Int32} {t2 : Nat} (h0 : zT Y 11 t0) (h2 : zT Y 24 t2) {Q : Int32 → zSp → zS → Prop} (hw : wL_format (zsp Y) σ t0 v1 t2 Q) : ∀ sz, Met l yL_format (zwH yL_format cL_format 4 (some .int) [(0, 9, 12, 29)]) rL_format (zPc E Y σ sz [.ref (za Y t0), .int v1, .ref (za Y t2)]) (va_Qi (fun r (u : zY × zS) => Q r (zsp u.1) u.2) (zBA E Y sz) (zA Y sz)) 50 7356 (zA Y sz) := by
  refine z_metH (hh := [(0, 9, 12, 29)]) (own := RL) (Qc := fun sz => va_Qi (fun r (u : zY × zS) => Q r (zsp u.1) u.2) (zBA E Y sz) (zA Y sz)) (by decide +kernel) rfl (Nat.le_of_ble_eq_true rfl) ?_
  intro p e s m args below meth c hG htab
  unfold wL_format at hw
  refine zlv (lv' := [(0, .ref (za Y t0)), (1, .int v1), (2, .ref (za Y t2))]) rfl ?_
  have hx : zext Y Y := zext.rf
  refine z_aload_n hG dL_format_0 rfl 2 rfl ?_
  refine z_iconst (v := 0) hG dL_format_1 (by decide) ?_
  refine z_aload_n hG dL_format_2 rfl 0 rfl ?_
  refine z_iload_n hG dL_format_3 rfl 1 rfl ?_
  refine z_callHAi hG htab (z_runXV (As := [.int v1]) (st := [.int 0, .ref (za Y t2)]) hG k_L_133 (MxX11_format l hlt h0 hw) rfl rfl ⟨(Nat.le_of_ble_eq_true rfl), (Nat.le_of_ble_eq_true rfl)⟩ h0 (T := TX11) (N := 9) rfl (by decide) rfl (Nat.le_of_ble_eq_true rfl) dL_format_4 ⟨show 0 + 50 ≤ 50 from by omega, show 0 + 7356 ≤ 7356 from by omega⟩ rfl) (fun E5 σ3 q4 hw => ?_) (fun Y1 r2 σ1 hx1 hw => ?_)
  · obtain ⟨hE, hw⟩ := hw
    subst hE
    refine ⟨12, zc_L_format_12, zwiden (k := 50) (n := 7356) (show 0 + 50 ≤ 50 from by omega) (show 0 + 7356 ≤ 7356 from by omega) ?_⟩
    refine zwiden (k := 50) (n := 7356) (Nat.le_refl _) (Nat.le_refl _) ?_
    refine z_astore_n (lv' := [(3, .ref q4), (0, .ref (za Y t0)), (1, .int v1), (2, .ref (za Y t2))]) hG dL_format_12 rfl (by decide) rfl ?_
    refine z_iconst (v := 1) hG dL_format_13 (by decide) ?_
    refine zwiden (k := 50) (n := 7356) (by omega) (by omega) ?_
    exact z_iretA hG hx rfl rfl dL_format_14 hw
  · skip
    refine zwiden (k := 50) (n := 7356) (show 0 + 50 ≤ 50 from by omega) (show 0 + 7356 ≤ 7356 from by omega) ?_
    refine zst (st' := [.int r2, .int 0, .ref (za Y1 t2)]) (by simp only [hx1.a h2, hx1.a h0]) ?_
    refine zlv (lv' := [(0, .ref (za Y1 t0)), (1, .int v1), (2, .ref (za Y1 t2))]) (by simp only [hx1.a h2, hx1.a h0]) ?_
    have h2 := hx1.T h2
    have h0 := hx1.T h0
    have hx := hx.tr hx1
    refine z_i2l hG dL_format_7 ?_
    refine z_topl (fun x6 ex6 => ?_)
    have hw := hw x6 ex6
    obtain ⟨q7, hw⟩ := hw
    refine z_last hG h2 q7 dL_format_8 ?_
    refine z_topσ (fun σ8 eσ8 => ?_)
    have hw := hw σ8 eσ8
    refine z_goto (tgt := 15) hG dL_format_9 (by decide) ?_
    refine z_iconst (v := 0) hG dL_format_15 (by decide) ?_
    refine zwiden (k := 50) (n := 7356) (by omega) (by omega) ?_
    exact z_iretA hG hx rfl rfl dL_format_16 hw
-- TypeWheelTelegraphLaw.formattedCharacter(LTypeWheelTelegraph;I[J)I
def wL_formattedCharacter (ln : Nat → Nat) (σ : zS) (t0 : Nat) (v1 : Int32) (t2 : Nat) (Q : Int32 → zS → Prop) : Prop := wxX11_formattedCharacter ln σ t0 v1 (fun r2 σ1 => ∀ x6 : Int64, x6 = r2.toInt64 → vp_in (0 : Int32) (ln t2) ∧ ∀ σ8 : zS, σ8 = sl σ1 t2 (0 : Int32).toNatClampNeg x6 → Q 0 σ8) (fun E5 σ3 => E5 = "java/lang/IndexOutOfBoundsException" ∧ Q 1 σ3)
abbrev rL_formattedCharacter : Room := { frames := 7, cells := 1, slots := 6, locals := 121 }
set_option maxRecDepth 100000 in
set_option maxHeartbeats 4000000 in
theorem ML_formattedCharacter (l : Launch) (hlt : l.stackTraces = false) {E : zE} {Y : zY} {σ : zS} {t0 : Nat} {v1 : Int32} {t2 : Nat} (h0 : zT Y 11 t0) (h2 : zT Y 24 t2) {Q : Int32 → zS → Prop} (hw : wL_formattedCharacter (zln Y) σ t0 v1 t2 Q) : ∀ sz, Met l yL_formattedCharacter (zwH yL_formattedCharacter cL_formattedCharacter 4 (some .int) [(0, 9, 12, 29)]) rL_formattedCharacter (zPc E Y σ sz [.ref (za Y t0), .int v1, .ref (za Y t2)]) (va_Qi Q (zB E Y sz) (zA Y sz)) 1 6 (zA Y sz) := by
  refine z_metH (hh := [(0, 9, 12, 29)]) (own := RL) (Qc := fun sz => va_Qi Q (zB E Y sz) (zA Y sz)) (by decide +kernel) rfl (Nat.le_of_ble_eq_true rfl) ?_
  intro p e s m args below meth c hG htab
  unfold wL_formattedCharacter at hw
  refine zlv (lv' := [(0, .ref (za Y t0)), (1, .int v1), (2, .ref (za Y t2))]) rfl ?_
  refine z_aload_n hG dL_formattedCharacter_0 rfl 2 rfl ?_
  refine z_iconst (v := 0) hG dL_formattedCharacter_1 (by decide) ?_
  refine z_aload_n hG dL_formattedCharacter_2 rfl 0 rfl ?_
  refine z_iload_n hG dL_formattedCharacter_3 rfl 1 rfl ?_
  refine z_callHi hG htab (z_runXV (As := [.int v1]) (st := [.int 0, .ref (za Y t2)]) hG k_L_136 (MxX11_formattedCharacter l hlt h0 hw) rfl rfl ⟨(Nat.le_of_ble_eq_true rfl), (Nat.le_of_ble_eq_true rfl)⟩ h0 (T := TX11) (N := 9) rfl (by decide) rfl (Nat.le_of_ble_eq_true rfl) dL_formattedCharacter_4 ⟨show 0 + 1 ≤ 1 from by omega, show 0 + 6 ≤ 6 from by omega⟩ rfl) (fun E5 σ3 q4 hw => ?_) (fun r2 σ1 hw => ?_)
  · obtain ⟨hE, hw⟩ := hw
    subst hE
    refine ⟨12, zc_L_formattedCharacter_12, zwiden (k := 1) (n := 6) (show 0 + 1 ≤ 1 from by omega) (show 0 + 6 ≤ 6 from by omega) ?_⟩
    refine zwiden (k := 1) (n := 6) (Nat.le_refl _) (Nat.le_refl _) ?_
    refine z_astore_n (lv' := [(3, .ref q4), (0, .ref (za Y t0)), (1, .int v1), (2, .ref (za Y t2))]) hG dL_formattedCharacter_12 rfl (by decide) rfl ?_
    refine z_iconst (v := 1) hG dL_formattedCharacter_13 (by decide) ?_
    refine zwiden (k := 1) (n := 6) (by omega) (by omega) ?_
    exact z_iret hG rfl rfl dL_formattedCharacter_14 hw
  · skip
    refine zwiden (k := 1) (n := 6) (show 0 + 1 ≤ 1 from by omega) (show 0 + 6 ≤ 6 from by omega) ?_
    refine z_i2l hG dL_formattedCharacter_7 ?_
    refine z_topl (fun x6 ex6 => ?_)
    have hw := hw x6 ex6
    obtain ⟨q7, hw⟩ := hw
    refine z_last hG h2 q7 dL_formattedCharacter_8 ?_
    refine z_topσ (fun σ8 eσ8 => ?_)
    have hw := hw σ8 eσ8
    refine z_goto (tgt := 15) hG dL_formattedCharacter_9 (by decide) ?_
    refine z_iconst (v := 0) hG dL_formattedCharacter_15 (by decide) ?_
    refine zwiden (k := 1) (n := 6) (by omega) (by omega) ?_
    exact z_iret hG rfl rfl dL_formattedCharacter_16 hw
