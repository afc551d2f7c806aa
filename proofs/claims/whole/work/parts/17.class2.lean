-- TypeWheelTelegraph.requireOffice(I)V
def wX11_requireOffice (ln : Nat → Nat) (σ : zS) (v0 : Int32) (Q : zS → Prop) : Prop := ((v0 = 0 → Q σ) ∧ (¬ v0 = 0 → ((v0 = 1 → Q σ) ∧ (¬ v0 = 1 → False))))
abbrev rX11_requireOffice : Room := { frames := 0, cells := 0, slots := 0, locals := 0 }
set_option maxRecDepth 100000 in
set_option maxHeartbeats 4000000 in
theorem MX11_requireOffice (l : Launch) {E : zE} {Y : zY} {σ : zS} {v0 : Int32} {Q : zS → Prop} (hw : wX11_requireOffice (zln Y) σ v0 Q) : ∀ sz, Met l yX11_requireOffice (zw yX11_requireOffice cX11_requireOffice 1 none) rX11_requireOffice (zPc E Y σ sz [.int v0]) (va_Qv Q (zB E Y sz) (zA Y sz)) 0 0 (zA Y sz) := by
  refine z_met (own := RX11) (Qc := fun sz => va_Qv Q (zB E Y sz) (zA Y sz)) (by decide +kernel) rfl (Nat.le_of_ble_eq_true rfl) ?_
  intro p e s m args below meth c hG hinit
  unfold wX11_requireOffice at hw
  refine zlv (lv' := [(0, .int v0)]) rfl ?_
  refine z_iload_n hG dX11_requireOffice_0 rfl 0 rfl ?_
  refine z_if_eq (tgt := 20) hG dX11_requireOffice_1 (by decide) (fun c2 => ?_) (fun c2 => ?_)
  · have hw := hw.1 c2
    exact z_vret hG rfl dX11_requireOffice_20 hw
  · have hw := hw.2 c2
    refine z_iload_n hG dX11_requireOffice_4 rfl 0 rfl ?_
    refine z_iconst (v := 1) hG dX11_requireOffice_5 (by decide) ?_
    refine z_icmp_eq (tgt := 20) hG dX11_requireOffice_6 (by decide) (fun c1 => ?_) (fun c1 => ?_)
    · have hw := hw.1 c1
      exact z_vret hG rfl dX11_requireOffice_20 hw
    · have hw := hw.2 c1
      exact hw.elim
-- TypeWheelTelegraph.officeAt(I)LTypeWheelTelegraph$Office;
def wX11_officeAt (ln : Nat → Nat) (σ : zS) (t0 : Nat) (v1 : Int32) (Q : Nat → zS → Prop) : Prop := wX11_requireOffice ln σ v1 (fun σ1 => ∃ j2 : Nat, gr σ1 t0 3 = some j2 ∧ wX3_office ln σ1 j2 v1 (fun r4 σ3 => Q r4 σ3))
abbrev rX11_officeAt : Room := { frames := 1, cells := 0, slots := 0, locals := 21 }
set_option maxRecDepth 100000 in
set_option maxHeartbeats 4000000 in
theorem MX11_officeAt (l : Launch) {E : zE} {Y : zY} {σ : zS} {t0 : Nat} {v1 : Int32} (h0 : zT Y 11 t0) {Q : Nat → zS → Prop} (hw : wX11_officeAt (zln Y) σ t0 v1 Q) : ∀ sz, Met l yX11_officeAt (zw yX11_officeAt cX11_officeAt 2 (some (.object "TypeWheelTelegraph$Office"))) rX11_officeAt (zPc E Y σ sz [.ref (za Y t0), .int v1]) (va_Qe (za Y) (zQe (zSm Q)) (zBe E Y sz 4) (zA Y sz)) 0 0 (zA Y sz) := by
  refine z_met (own := RX11) (Qc := fun sz => va_Qe (za Y) (zQe (zSm Q)) (zBe E Y sz 4) (zA Y sz)) (by decide +kernel) rfl (Nat.le_of_ble_eq_true rfl) ?_
  intro p e s m args below meth c hG hinit
  unfold wX11_officeAt at hw
  refine zlv (lv' := [(0, .ref (za Y t0)), (1, .int v1)]) rfl ?_
  refine z_iload_n hG dX11_officeAt_0 rfl 1 rfl ?_
  refine z_callv hG (z_runS (As := [.int v1]) (st := []) hG k_X11_330 (MX11_requireOffice l hw) ⟨(Nat.le_of_ble_eq_true rfl), (Nat.le_of_ble_eq_true rfl)⟩ rfl (Nat.le_of_ble_eq_true rfl) dX11_officeAt_1 ⟨Nat.zero_le _, Nat.zero_le _⟩ rfl) (fun σ1 hw => ?_)
  refine z_aload_n hG dX11_officeAt_4 rfl 0 rfl ?_
  obtain ⟨j2, ej2, hw⟩ := hw
  refine z_getr (kq := 3) hG f_X11_53 h0 rfl ej2 rfl (by decide) dX11_officeAt_5 (fun hj2 => ?_)
  refine z_iload_n hG dX11_officeAt_8 rfl 1 rfl ?_
  refine z_callr hG (z_runV (As := [.int v1]) (st := []) hG k_X11_220 (MX3_office l hj2 hw) ⟨(Nat.le_of_ble_eq_true rfl), (Nat.le_of_ble_eq_true rfl)⟩ hj2 (T := TX3) (N := 17) rfl (by decide) rfl (Nat.le_of_ble_eq_true rfl) dX11_officeAt_9 ⟨Nat.zero_le _, Nat.zero_le _⟩ rfl) (fun r4 σ3 hr4 hw => ?_)
  exact z_aret hG rfl (Or.inl ⟨_, rfl⟩) hr4 dX11_officeAt_12 ⟨_, rfl, hw⟩
-- TypeWheelTelegraph.deskAt(I)LTypeWheelTelegraph$Desk;
def wX11_deskAt (ln : Nat → Nat) (σ : zS) (t0 : Nat) (v1 : Int32) (Q : Nat → zS → Prop) : Prop := wX11_requireOffice ln σ v1 (fun σ1 => ∃ j2 : Nat, gr σ1 t0 6 = some j2 ∧ wX6_desk ln σ1 j2 v1 (fun r4 σ3 => Q r4 σ3))
abbrev rX11_deskAt : Room := { frames := 1, cells := 0, slots := 0, locals := 21 }
set_option maxRecDepth 100000 in
set_option maxHeartbeats 4000000 in
theorem MX11_deskAt (l : Launch) {E : zE} {Y : zY} {σ : zS} {t0 : Nat} {v1 : Int32} (h0 : zT Y 11 t0) {Q : Nat → zS → Prop} (hw : wX11_deskAt (zln Y) σ t0 v1 Q) : ∀ sz, Met l yX11_deskAt (zw yX11_deskAt cX11_deskAt 2 (some (.object "TypeWheelTelegraph$Desk"))) rX11_deskAt (zPc E Y σ sz [.ref (za Y t0), .int v1]) (va_Qe (za Y) (zQe (zSm Q)) (zBe E Y sz 0) (zA Y sz)) 0 0 (zA Y sz) := by
  refine z_met (own := RX11) (Qc := fun sz => va_Qe (za Y) (zQe (zSm Q)) (zBe E Y sz 0) (zA Y sz)) (by decide +kernel) rfl (Nat.le_of_ble_eq_true rfl) ?_
  intro p e s m args below meth c hG hinit
  unfold wX11_deskAt at hw
  refine zlv (lv' := [(0, .ref (za Y t0)), (1, .int v1)]) rfl ?_
  refine z_iload_n hG dX11_deskAt_0 rfl 1 rfl ?_
  refine z_callv hG (z_runS (As := [.int v1]) (st := []) hG k_X11_330 (MX11_requireOffice l hw) ⟨(Nat.le_of_ble_eq_true rfl), (Nat.le_of_ble_eq_true rfl)⟩ rfl (Nat.le_of_ble_eq_true rfl) dX11_deskAt_1 ⟨Nat.zero_le _, Nat.zero_le _⟩ rfl) (fun σ1 hw => ?_)
  refine z_aload_n hG dX11_deskAt_4 rfl 0 rfl ?_
  obtain ⟨j2, ej2, hw⟩ := hw
  refine z_getr (kq := 6) hG f_X11_37 h0 rfl ej2 rfl (by decide) dX11_deskAt_5 (fun hj2 => ?_)
  refine z_iload_n hG dX11_deskAt_8 rfl 1 rfl ?_
  refine z_callr hG (z_runV (As := [.int v1]) (st := []) hG k_X11_377 (MX6_desk l hj2 hw) ⟨(Nat.le_of_ble_eq_true rfl), (Nat.le_of_ble_eq_true rfl)⟩ hj2 (T := TX6) (N := 8) rfl (by decide) rfl (Nat.le_of_ble_eq_true rfl) dX11_deskAt_9 ⟨Nat.zero_le _, Nat.zero_le _⟩ rfl) (fun r4 σ3 hr4 hw => ?_)
  exact z_aret hG rfl (Or.inl ⟨_, rfl⟩) hr4 dX11_deskAt_12 ⟨_, rfl, hw⟩
-- TypeWheelTelegraph.lineAt(II)LTypeWheelTelegraph$Line;
def wX11_lineAt (ln : Nat → Nat) (σ : zS) (t0 : Nat) (v1 : Int32) (v2 : Int32) (Q : Nat → zS → Prop) : Prop := wX11_deskAt ln σ t0 v1 (fun r2 σ1 => wX0_line ln σ1 r2 v2 (fun r4 σ3 => (r4 = none → False) ∧ (∀ j5 : Nat, r4 = some j5 → Q j5 σ3)))
abbrev rX11_lineAt : Room := { frames := 2, cells := 0, slots := 0, locals := 42 }
set_option maxRecDepth 100000 in
set_option maxHeartbeats 4000000 in
theorem MX11_lineAt (l : Launch) {E : zE} {Y : zY} {σ : zS} {t0 : Nat} {v1 : Int32} {v2 : Int32} (h0 : zT Y 11 t0) {Q : Nat → zS → Prop} (hw : wX11_lineAt (zln Y) σ t0 v1 v2 Q) : ∀ sz, Met l yX11_lineAt (zw yX11_lineAt cX11_lineAt 4 (some (.object "TypeWheelTelegraph$Line"))) rX11_lineAt (zPc E Y σ sz [.ref (za Y t0), .int v1, .int v2]) (va_Qe (za Y) (zQe (zSm Q)) (zBe E Y sz 2) (zA Y sz)) 0 0 (zA Y sz) := by
  refine z_met (own := RX11) (Qc := fun sz => va_Qe (za Y) (zQe (zSm Q)) (zBe E Y sz 2) (zA Y sz)) (by decide +kernel) rfl (Nat.le_of_ble_eq_true rfl) ?_
  intro p e s m args below meth c hG hinit
  unfold wX11_lineAt at hw
  refine zlv (lv' := [(0, .ref (za Y t0)), (1, .int v1), (2, .int v2)]) rfl ?_
  refine z_aload_n hG dX11_lineAt_0 rfl 0 rfl ?_
  refine z_iload_n hG dX11_lineAt_1 rfl 1 rfl ?_
  refine z_callr hG (z_runV (As := [.int v1]) (st := []) hG k_X11_162 (MX11_deskAt l h0 hw) ⟨(Nat.le_of_ble_eq_true rfl), (Nat.le_of_ble_eq_true rfl)⟩ h0 (T := TX11) (N := 9) rfl (by decide) rfl (Nat.le_of_ble_eq_true rfl) dX11_lineAt_2 ⟨Nat.zero_le _, Nat.zero_le _⟩ rfl) (fun r2 σ1 hr2 hw => ?_)
  refine z_iload_n hG dX11_lineAt_5 rfl 2 rfl ?_
  refine z_calle hG (z_runV (As := [.int v2]) (st := []) hG k_X11_380 (MX0_line l hr2 hw) ⟨(Nat.le_of_ble_eq_true rfl), (Nat.le_of_ble_eq_true rfl)⟩ hr2 (T := TX0) (N := 4) rfl (by decide) rfl (Nat.le_of_ble_eq_true rfl) dX11_lineAt_6 ⟨Nat.zero_le _, Nat.zero_le _⟩ rfl) (fun σ3 hw => ?_) (fun j5 σ3 hj5 hw => ?_)
  · have hw := hw.1 rfl
    refine z_astoreN_n (lv' := [(3, .null), (0, .ref (za Y t0)), (1, .int v1), (2, .int v2)]) hG dX11_lineAt_9 rfl (by decide) rfl ?_
    refine z_aloadN_n hG dX11_lineAt_10 rfl 0 rfl ?_
    refine z_ifnonnull_no hG dX11_lineAt_11 ?_
    exact hw.elim
  · have hw := hw.2 j5 rfl
    refine z_astore_n (lv' := [(3, .ref (za Y j5)), (0, .ref (za Y t0)), (1, .int v1), (2, .int v2)]) hG dX11_lineAt_9 rfl (by decide) rfl ?_
    refine z_aload_n hG dX11_lineAt_10 rfl 0 rfl ?_
    refine z_ifnonnull_yes (tgt := 25) hG dX11_lineAt_11 (by decide) ?_
    refine z_aload_n hG dX11_lineAt_25 rfl 0 rfl ?_
    exact z_aret hG rfl (Or.inl ⟨_, rfl⟩) hj5 dX11_lineAt_26 ⟨_, rfl, hw⟩
-- TypeWheelTelegraph.requireOffice(I)V
def wxX11_requireOffice (ln : Nat → Nat) (σ : zS) (v0 : Int32) (Q : zS → Prop) (X : String → zS → Prop) : Prop := ((v0 = 0 → Q σ) ∧ (¬ v0 = 0 → ((v0 = 1 → Q σ) ∧ (¬ v0 = 1 → X "java/lang/IndexOutOfBoundsException" σ))))
abbrev rxX11_requireOffice : Room := { frames := 6, cells := 1, slots := 6, locals := 100 }
set_option maxRecDepth 100000 in
set_option maxHeartbeats 4000000 in
theorem MxX11_requireOffice (l : Launch) (hlt : l.stackTraces = false) {E : zE} {Y : zY} {σ : zS} {v0 : Int32} {Q : zS → Prop} {X : String → zS → Prop} (hw : wxX11_requireOffice (zln Y) σ v0 Q X) : ∀ sz, vx_Met l yX11_requireOffice (zw yX11_requireOffice cX11_requireOffice 1 none) rxX11_requireOffice (zPc E Y σ sz [.int v0]) (va_Qv Q (zB E Y sz) (zA Y sz)) (zX X E Y sz) 1 6 (zA Y sz) := by
  refine z_metX (own := RX11) (Qc := fun sz => va_Qv Q (zB E Y sz) (zA Y sz)) (XC := fun sz => zX X E Y sz) (by decide +kernel) rfl (Nat.le_of_ble_eq_true rfl) ?_
  intro p e s m args below meth c hG hex
  unfold wxX11_requireOffice at hw
  refine zlv (lv' := [(0, .int v0)]) rfl ?_
  refine z_iload_n hG dX11_requireOffice_0 rfl 0 rfl ?_
  refine z_if_eq (tgt := 20) hG dX11_requireOffice_1 (by decide) (fun c2 => ?_) (fun c2 => ?_)
  · have hw := hw.1 c2
    refine zwiden (k := 1) (n := 6) (by omega) (by omega) (zvx ?_)
    exact z_vret hG rfl dX11_requireOffice_20 hw
  · have hw := hw.2 c2
    refine z_iload_n hG dX11_requireOffice_4 rfl 0 rfl ?_
    refine z_iconst (v := 1) hG dX11_requireOffice_5 (by decide) ?_
    refine z_icmp_eq (tgt := 20) hG dX11_requireOffice_6 (by decide) (fun c1 => ?_) (fun c1 => ?_)
    · have hw := hw.1 c1
      refine zwiden (k := 1) (n := 6) (by omega) (by omega) (zvx ?_)
      exact z_vret hG rfl dX11_requireOffice_20 hw
    · have hw := hw.2 c1
      exact z_throwSW (i := 11) (tx := "an office is 0 or 1") hG hlt hex thr_IOE (by decide +kernel) dX11_requireOffice_9 dX11_requireOffice_12 dX11_requireOffice_13 dX11_requireOffice_16 dX11_requireOffice_19 (Nat.le_of_ble_eq_true rfl) (Nat.le_of_ble_eq_true rfl) (show 0 + 1 ≤ 1 from by omega) (show 0 + 6 ≤ 6 from by omega) (show 0 + 1 ≤ 1 from by omega) (show 0 + 6 ≤ 6 from by omega) hw
-- TypeWheelTelegraph.officeAt(I)LTypeWheelTelegraph$Office;
def wxX11_officeAt (ln : Nat → Nat) (σ : zS) (t0 : Nat) (v1 : Int32) (Q : Nat → zS → Prop) (X : String → zS → Prop) : Prop := wxX11_requireOffice ln σ v1 (fun σ1 => ∃ j3 : Nat, gr σ1 t0 3 = some j3 ∧ wX3_office ln σ1 j3 v1 (fun r5 σ4 => Q r5 σ4)) X
abbrev rxX11_officeAt : Room := { frames := 7, cells := 1, slots := 6, locals := 120 }
set_option maxRecDepth 100000 in
set_option maxHeartbeats 4000000 in
theorem MxX11_officeAt (l : Launch) (hlt : l.stackTraces = false) {E : zE} {Y : zY} {σ : zS} {t0 : Nat} {v1 : Int32} (h0 : zT Y 11 t0) {Q : Nat → zS → Prop} {X : String → zS → Prop} (hw : wxX11_officeAt (zln Y) σ t0 v1 Q X) : ∀ sz, vx_Met l yX11_officeAt (zw yX11_officeAt cX11_officeAt 2 (some (.object "TypeWheelTelegraph$Office"))) rxX11_officeAt (zPc E Y σ sz [.ref (za Y t0), .int v1]) (va_Qe (za Y) (zQe (zSm Q)) (zBe E Y sz 4) (zA Y sz)) (zX X E Y sz) 1 6 (zA Y sz) := by
  refine z_metX (own := RX11) (Qc := fun sz => va_Qe (za Y) (zQe (zSm Q)) (zBe E Y sz 4) (zA Y sz)) (XC := fun sz => zX X E Y sz) (by decide +kernel) rfl (Nat.le_of_ble_eq_true rfl) ?_
  intro p e s m args below meth c hG hex
  unfold wxX11_officeAt at hw
  refine zlv (lv' := [(0, .ref (za Y t0)), (1, .int v1)]) rfl ?_
  refine z_iload_n hG dX11_officeAt_0 rfl 1 rfl ?_
  refine z_callXv hG hex (z_runXS (As := [.int v1]) (st := []) hG k_X11_330 (MxX11_requireOffice l hlt hw) rfl rfl ⟨(Nat.le_of_ble_eq_true rfl), (Nat.le_of_ble_eq_true rfl)⟩ rfl (Nat.le_of_ble_eq_true rfl) dX11_officeAt_1 ⟨show 0 + 1 ≤ 1 from by omega, show 0 + 6 ≤ 6 from by omega⟩ rfl) (show 0 + 1 ≤ 1 from by omega) (show 0 + 6 ≤ 6 from by omega) (fun σ1 hw => ?_)
  refine zwiden (k := 1) (n := 6) (by omega) (by omega) ?_
  refine z_aload_n hG dX11_officeAt_4 rfl 0 rfl ?_
  obtain ⟨j3, ej3, hw⟩ := hw
  refine z_getr (kq := 3) hG f_X11_53 h0 rfl ej3 rfl (by decide) dX11_officeAt_5 (fun hj3 => ?_)
  refine z_iload_n hG dX11_officeAt_8 rfl 1 rfl ?_
  refine z_callr hG (z_runV (As := [.int v1]) (st := []) hG k_X11_220 (MX3_office l hj3 hw) ⟨(Nat.le_of_ble_eq_true rfl), (Nat.le_of_ble_eq_true rfl)⟩ hj3 (T := TX3) (N := 17) rfl (by decide) rfl (Nat.le_of_ble_eq_true rfl) dX11_officeAt_9 ⟨show 1 + 0 ≤ 1 from by omega, show 6 + 0 ≤ 6 from by omega⟩ rfl) (fun r5 σ4 hr5 hw => ?_)
  refine zwiden (k := 1) (n := 6) (by omega) (by omega) (zvx ?_)
  exact z_aret hG rfl (Or.inl ⟨_, rfl⟩) hr5 dX11_officeAt_12 ⟨_, rfl, hw⟩
-- TypeWheelTelegraph.deskAt(I)LTypeWheelTelegraph$Desk;
def wxX11_deskAt (ln : Nat → Nat) (σ : zS) (t0 : Nat) (v1 : Int32) (Q : Nat → zS → Prop) (X : String → zS → Prop) : Prop := wxX11_requireOffice ln σ v1 (fun σ1 => ∃ j3 : Nat, gr σ1 t0 6 = some j3 ∧ wX6_desk ln σ1 j3 v1 (fun r5 σ4 => Q r5 σ4)) X
abbrev rxX11_deskAt : Room := { frames := 7, cells := 1, slots := 6, locals := 120 }
set_option maxRecDepth 100000 in
set_option maxHeartbeats 4000000 in
theorem MxX11_deskAt (l : Launch) (hlt : l.stackTraces = false) {E : zE} {Y : zY} {σ : zS} {t0 : Nat} {v1 : Int32} (h0 : zT Y 11 t0) {Q : Nat → zS → Prop} {X : String → zS → Prop} (hw : wxX11_deskAt (zln Y) σ t0 v1 Q X) : ∀ sz, vx_Met l yX11_deskAt (zw yX11_deskAt cX11_deskAt 2 (some (.object "TypeWheelTelegraph$Desk"))) rxX11_deskAt (zPc E Y σ sz [.ref (za Y t0), .int v1]) (va_Qe (za Y) (zQe (zSm Q)) (zBe E Y sz 0) (zA Y sz)) (zX X E Y sz) 1 6 (zA Y sz) := by
  refine z_metX (own := RX11) (Qc := fun sz => va_Qe (za Y) (zQe (zSm Q)) (zBe E Y sz 0) (zA Y sz)) (XC := fun sz => zX X E Y sz) (by decide +kernel) rfl (Nat.le_of_ble_eq_true rfl) ?_
  intro p e s m args below meth c hG hex
  unfold wxX11_deskAt at hw
  refine zlv (lv' := [(0, .ref (za Y t0)), (1, .int v1)]) rfl ?_
  refine z_iload_n hG dX11_deskAt_0 rfl 1 rfl ?_
  refine z_callXv hG hex (z_runXS (As := [.int v1]) (st := []) hG k_X11_330 (MxX11_requireOffice l hlt hw) rfl rfl ⟨(Nat.le_of_ble_eq_true rfl), (Nat.le_of_ble_eq_true rfl)⟩ rfl (Nat.le_of_ble_eq_true rfl) dX11_deskAt_1 ⟨show 0 + 1 ≤ 1 from by omega, show 0 + 6 ≤ 6 from by omega⟩ rfl) (show 0 + 1 ≤ 1 from by omega) (show 0 + 6 ≤ 6 from by omega) (fun σ1 hw => ?_)
  refine zwiden (k := 1) (n := 6) (by omega) (by omega) ?_
  refine z_aload_n hG dX11_deskAt_4 rfl 0 rfl ?_
  obtain ⟨j3, ej3, hw⟩ := hw
  refine z_getr (kq := 6) hG f_X11_37 h0 rfl ej3 rfl (by decide) dX11_deskAt_5 (fun hj3 => ?_)
  refine z_iload_n hG dX11_deskAt_8 rfl 1 rfl ?_
  refine z_callr hG (z_runV (As := [.int v1]) (st := []) hG k_X11_377 (MX6_desk l hj3 hw) ⟨(Nat.le_of_ble_eq_true rfl), (Nat.le_of_ble_eq_true rfl)⟩ hj3 (T := TX6) (N := 8) rfl (by decide) rfl (Nat.le_of_ble_eq_true rfl) dX11_deskAt_9 ⟨show 1 + 0 ≤ 1 from by omega, show 6 + 0 ≤ 6 from by omega⟩ rfl) (fun r5 σ4 hr5 hw => ?_)
  refine zwiden (k := 1) (n := 6) (by omega) (by omega) (zvx ?_)
  exact z_aret hG rfl (Or.inl ⟨_, rfl⟩) hr5 dX11_deskAt_12 ⟨_, rfl, hw⟩
-- TypeWheelTelegraph.lineAt(II)LTypeWheelTelegraph$Line;
def wxX11_lineAt (ln : Nat → Nat) (σ : zS) (t0 : Nat) (v1 : Int32) (v2 : Int32) (Q : Nat → zS → Prop) (X : String → zS → Prop) : Prop := wxX11_deskAt ln σ t0 v1 (fun r2 σ1 => wX0_line ln σ1 r2 v2 (fun r4 σ3 => (r4 = none → X "java/lang/IndexOutOfBoundsException" σ3) ∧ (∀ j5 : Nat, r4 = some j5 → Q j5 σ3))) X
abbrev rxX11_lineAt : Room := { frames := 8, cells := 2, slots := 12, locals := 141 }
set_option maxRecDepth 100000 in
set_option maxHeartbeats 4000000 in
theorem MxX11_lineAt (l : Launch) (hlt : l.stackTraces = false) {E : zE} {Y : zY} {σ : zS} {t0 : Nat} {v1 : Int32} {v2 : Int32} (h0 : zT Y 11 t0) {Q : Nat → zS → Prop} {X : String → zS → Prop} (hw : wxX11_lineAt (zln Y) σ t0 v1 v2 Q X) : ∀ sz, vx_Met l yX11_lineAt (zw yX11_lineAt cX11_lineAt 4 (some (.object "TypeWheelTelegraph$Line"))) rxX11_lineAt (zPc E Y σ sz [.ref (za Y t0), .int v1, .int v2]) (va_Qe (za Y) (zQe (zSm Q)) (zBe E Y sz 2) (zA Y sz)) (zX X E Y sz) 2 12 (zA Y sz) := by
  refine z_metX (own := RX11) (Qc := fun sz => va_Qe (za Y) (zQe (zSm Q)) (zBe E Y sz 2) (zA Y sz)) (XC := fun sz => zX X E Y sz) (by decide +kernel) rfl (Nat.le_of_ble_eq_true rfl) ?_
  intro p e s m args below meth c hG hex
  unfold wxX11_lineAt at hw
  refine zlv (lv' := [(0, .ref (za Y t0)), (1, .int v1), (2, .int v2)]) rfl ?_
  refine z_aload_n hG dX11_lineAt_0 rfl 0 rfl ?_
  refine z_iload_n hG dX11_lineAt_1 rfl 1 rfl ?_
  refine z_callXr hG hex (z_runXV (As := [.int v1]) (st := []) hG k_X11_162 (MxX11_deskAt l hlt h0 hw) rfl rfl ⟨(Nat.le_of_ble_eq_true rfl), (Nat.le_of_ble_eq_true rfl)⟩ h0 (T := TX11) (N := 9) rfl (by decide) rfl (Nat.le_of_ble_eq_true rfl) dX11_lineAt_2 ⟨show 0 + 1 ≤ 2 from by omega, show 0 + 6 ≤ 12 from by omega⟩ rfl) (show 0 + 1 ≤ 2 from by omega) (show 0 + 6 ≤ 12 from by omega) (fun r2 σ1 hr2 hw => ?_)
  refine zwiden (k := 1) (n := 6) (by omega) (by omega) ?_
  refine z_iload_n hG dX11_lineAt_5 rfl 2 rfl ?_
  refine z_calle hG (z_runV (As := [.int v2]) (st := []) hG k_X11_380 (MX0_line l hr2 hw) ⟨(Nat.le_of_ble_eq_true rfl), (Nat.le_of_ble_eq_true rfl)⟩ hr2 (T := TX0) (N := 4) rfl (by decide) rfl (Nat.le_of_ble_eq_true rfl) dX11_lineAt_6 ⟨show 1 + 0 ≤ 2 from by omega, show 6 + 0 ≤ 12 from by omega⟩ rfl) (fun σ3 hw => ?_) (fun j5 σ3 hj5 hw => ?_)
  · have hw := hw.1 rfl
    refine z_astoreN_n (lv' := [(3, .null), (0, .ref (za Y t0)), (1, .int v1), (2, .int v2)]) hG dX11_lineAt_9 rfl (by decide) rfl ?_
    refine z_aloadN_n hG dX11_lineAt_10 rfl 0 rfl ?_
    refine z_ifnonnull_no hG dX11_lineAt_11 ?_
    exact z_throwSW (i := 14) (tx := "the office has no such line") hG hlt hex thr_IOE (by decide +kernel) dX11_lineAt_14 dX11_lineAt_17 dX11_lineAt_18 dX11_lineAt_21 dX11_lineAt_24 (Nat.le_of_ble_eq_true rfl) (Nat.le_of_ble_eq_true rfl) (show 1 + 1 ≤ 2 from by omega) (show 6 + 6 ≤ 12 from by omega) (show 1 + 1 ≤ 2 from by omega) (show 6 + 6 ≤ 12 from by omega) hw
  · have hw := hw.2 j5 rfl
    refine z_astore_n (lv' := [(3, .ref (za Y j5)), (0, .ref (za Y t0)), (1, .int v1), (2, .int v2)]) hG dX11_lineAt_9 rfl (by decide) rfl ?_
    refine z_aload_n hG dX11_lineAt_10 rfl 0 rfl ?_
    refine z_ifnonnull_yes (tgt := 25) hG dX11_lineAt_11 (by decide) ?_
    refine z_aload_n hG dX11_lineAt_25 rfl 0 rfl ?_
    refine zwiden (k := 2) (n := 12) (by omega) (by omega) (zvx ?_)
    exact z_aret hG rfl (Or.inl ⟨_, rfl⟩) hj5 dX11_lineAt_26 ⟨_, rfl, hw⟩
-- TypeWheelTelegraph.itemAt(LTypeWheelTelegraph$Row;I)I
def wxX11_itemAt_12 (ln : Nat → Nat) (Q : Int32 → zS → Prop) (X : String → zS → Prop) (σ : zS) : Prop := X "java/lang/IndexOutOfBoundsException" σ
def wxX11_itemAt (ln : Nat → Nat) (σ : zS) (t0 : Nat) (v1 : Int32) (Q : Int32 → zS → Prop) (X : String → zS → Prop) : Prop := ((v1 < 0 → wxX11_itemAt_12 ln Q X σ) ∧ (¬ v1 < 0 → wX9_size ln σ t0 (fun r2 σ1 => ((v1 < r2 → wX9_get ln σ1 t0 v1 (fun r4 σ3 => Q r4 σ3)) ∧ (¬ v1 < r2 → wxX11_itemAt_12 ln Q X σ1)))))
abbrev rxX11_itemAt : Room := { frames := 6, cells := 1, slots := 6, locals := 100 }
set_option maxRecDepth 100000 in
set_option maxHeartbeats 4000000 in
theorem BxX11_itemAt_12 {l : Launch} {E : zE} {Y : zY} {p : Program} {e : Env} {s : State} {m : MethodId} {args : Array Value} {below : List Frame} {meth : Method} {c : Code} (hG : zG E p l s m args meth c cX11_itemAt 2 RX11 (some .int) (zA Y s.heap.size)) (hlt : l.stackTraces = false) (hex : ∀ x ∈ c.exceptionTable.toList, False) {Q : Int32 → zS → Prop} {X : String → zS → Prop} : ∀ (σ : zS) (cl sl : Nat), wxX11_itemAt_12 (zln Y) Q X σ → cl + (1) ≤ 1 → sl + (6) ≤ 6 → WW E Y σ p l e rxX11_itemAt s m args below meth c (zA Y s.heap.size) 2 cl sl (vx_MQ below (va_Qi Q (zB E Y s.heap.size) (zA Y s.heap.size)) (zX X E Y s.heap.size) args s 1 6 (zA Y s.heap.size)) [] 12 [] := by
  intro σ cl sl hw  hcl hsl
  unfold wxX11_itemAt_12 at hw
  exact z_throwSW (i := 15) (tx := "no such index") hG hlt hex thr_IOE (by decide +kernel) dX11_itemAt_12 dX11_itemAt_15 dX11_itemAt_16 dX11_itemAt_19 dX11_itemAt_22 (Nat.le_of_ble_eq_true rfl) (Nat.le_of_ble_eq_true rfl) (show cl + 0 + 1 ≤ 1 from by omega) (show sl + 0 + 6 ≤ 6 from by omega) (show cl + 0 + 1 ≤ 1 from by omega) (show sl + 0 + 6 ≤ 6 from by omega) hw
set_option maxRecDepth 100000 in
set_option maxHeartbeats 4000000 in
theorem MxX11_itemAt (l : Launch) (hlt : l.stackTraces = false) {E : zE} {Y : zY} {σ : zS} {t0 : Nat} {v1 : Int32} (h0 : zT Y 9 t0) {Q : Int32 → zS → Prop} {X : String → zS → Prop} (hw : wxX11_itemAt (zln Y) σ t0 v1 Q X) : ∀ sz, vx_Met l yX11_itemAt (zw yX11_itemAt cX11_itemAt 2 (some .int)) rxX11_itemAt (zPc E Y σ sz [.ref (za Y t0), .int v1]) (va_Qi Q (zB E Y sz) (zA Y sz)) (zX X E Y sz) 1 6 (zA Y sz) := by
  refine z_metX (own := RX11) (Qc := fun sz => va_Qi Q (zB E Y sz) (zA Y sz)) (XC := fun sz => zX X E Y sz) (by decide +kernel) rfl (Nat.le_of_ble_eq_true rfl) ?_
  intro p e s m args below meth c hG hex
  unfold wxX11_itemAt at hw
  refine zlv (lv' := [(0, .ref (za Y t0)), (1, .int v1)]) rfl ?_
  refine z_iload_n hG dX11_itemAt_0 rfl 1 rfl ?_
  refine z_if_lt (tgt := 12) hG dX11_itemAt_1 (by decide) (fun c6 => ?_) (fun c6 => ?_)
  · have hw := hw.1 c6
    refine zpick [] (lv' := []) rfl ?_
    refine zwiden (k := 0) (n := 0) (by omega) (by omega) ?_
    exact BxX11_itemAt_12 hG hlt hex σ _ _ hw  (by omega) (by omega)
  · have hw := hw.2 c6
    refine z_iload_n hG dX11_itemAt_4 rfl 1 rfl ?_
    refine z_aload_n hG dX11_itemAt_5 rfl 0 rfl ?_
    refine z_calli hG (z_runV (As := []) (st := [.int v1]) hG k_X11_67 (MX9_size l h0 hw) ⟨(Nat.le_of_ble_eq_true rfl), (Nat.le_of_ble_eq_true rfl)⟩ h0 (T := TX9) (N := 2) rfl (by decide) rfl (Nat.le_of_ble_eq_true rfl) dX11_itemAt_6 ⟨show 0 + 0 ≤ 1 from by omega, show 0 + 0 ≤ 6 from by omega⟩ rfl) (fun r2 σ1 hw => ?_)
    refine z_icmp_lt (tgt := 23) hG dX11_itemAt_9 (by decide) (fun c5 => ?_) (fun c5 => ?_)
    · have hw := hw.1 c5
      refine z_aload_n hG dX11_itemAt_23 rfl 0 rfl ?_
      refine z_iload_n hG dX11_itemAt_24 rfl 1 rfl ?_
      refine z_calli hG (z_runV (As := [.int v1]) (st := []) hG k_X11_189 (MX9_get l h0 hw) ⟨(Nat.le_of_ble_eq_true rfl), (Nat.le_of_ble_eq_true rfl)⟩ h0 (T := TX9) (N := 2) rfl (by decide) rfl (Nat.le_of_ble_eq_true rfl) dX11_itemAt_25 ⟨show 0 + 0 ≤ 1 from by omega, show 0 + 0 ≤ 6 from by omega⟩ rfl) (fun r4 σ3 hw => ?_)
      refine zwiden (k := 1) (n := 6) (by omega) (by omega) (zvx ?_)
      exact z_iret hG rfl rfl dX11_itemAt_28 hw
    · have hw := hw.2 c5
      refine zpick [] (lv' := []) rfl ?_
      refine zwiden (k := 0) (n := 0) (by omega) (by omega) ?_
      exact BxX11_itemAt_12 hG hlt hex σ1 _ _ hw  (by omega) (by omega)
-- TypeWheelTelegraph.requireRange(III)V
def wxX11_requireRange_10 (ln : Nat → Nat) (Q : zS → Prop) (X : String → zS → Prop) (σ : zS) : Prop := X "java/lang/IllegalArgumentException" σ
def wxX11_requireRange (ln : Nat → Nat) (σ : zS) (v0 : Int32) (v1 : Int32) (v2 : Int32) (Q : zS → Prop) (X : String → zS → Prop) : Prop := ((v0 < v1 → wxX11_requireRange_10 ln Q X σ) ∧ (¬ v0 < v1 → ((v0 ≤ v2 → Q σ) ∧ (¬ v0 ≤ v2 → wxX11_requireRange_10 ln Q X σ))))
abbrev rxX11_requireRange : Room := { frames := 6, cells := 1, slots := 6, locals := 100 }
set_option maxRecDepth 100000 in
set_option maxHeartbeats 4000000 in
theorem BxX11_requireRange_10 {l : Launch} {E : zE} {Y : zY} {p : Program} {e : Env} {s : State} {m : MethodId} {args : Array Value} {below : List Frame} {meth : Method} {c : Code} (hG : zG E p l s m args meth c cX11_requireRange 3 RX11 none (zA Y s.heap.size)) (hlt : l.stackTraces = false) (hex : ∀ x ∈ c.exceptionTable.toList, False) {Q : zS → Prop} {X : String → zS → Prop} : ∀ (σ : zS) (cl sl : Nat), wxX11_requireRange_10 (zln Y) Q X σ → cl + (1) ≤ 1 → sl + (6) ≤ 6 → WW E Y σ p l e rxX11_requireRange s m args below meth c (zA Y s.heap.size) 3 cl sl (vx_MQ below (va_Qv Q (zB E Y s.heap.size) (zA Y s.heap.size)) (zX X E Y s.heap.size) args s 1 6 (zA Y s.heap.size)) [] 10 [] := by
  intro σ cl sl hw  hcl hsl
  unfold wxX11_requireRange_10 at hw
  exact z_throwSW (i := 18) (tx := "the argument is out of range") hG hlt hex thr_IAE (by decide +kernel) dX11_requireRange_10 dX11_requireRange_13 dX11_requireRange_14 dX11_requireRange_17 dX11_requireRange_20 (Nat.le_of_ble_eq_true rfl) (Nat.le_of_ble_eq_true rfl) (show cl + 0 + 1 ≤ 1 from by omega) (show sl + 0 + 6 ≤ 6 from by omega) (show cl + 0 + 1 ≤ 1 from by omega) (show sl + 0 + 6 ≤ 6 from by omega) hw
set_option maxRecDepth 100000 in
set_option maxHeartbeats 4000000 in
theorem MxX11_requireRange (l : Launch) (hlt : l.stackTraces = false) {E : zE} {Y : zY} {σ : zS} {v0 : Int32} {v1 : Int32} {v2 : Int32} {Q : zS → Prop} {X : String → zS → Prop} (hw : wxX11_requireRange (zln Y) σ v0 v1 v2 Q X) : ∀ sz, vx_Met l yX11_requireRange (zw yX11_requireRange cX11_requireRange 3 none) rxX11_requireRange (zPc E Y σ sz [.int v0, .int v1, .int v2]) (va_Qv Q (zB E Y sz) (zA Y sz)) (zX X E Y sz) 1 6 (zA Y sz) := by
  refine z_metX (own := RX11) (Qc := fun sz => va_Qv Q (zB E Y sz) (zA Y sz)) (XC := fun sz => zX X E Y sz) (by decide +kernel) rfl (Nat.le_of_ble_eq_true rfl) ?_
  intro p e s m args below meth c hG hex
  unfold wxX11_requireRange at hw
  refine zlv (lv' := [(0, .int v0), (1, .int v1), (2, .int v2)]) rfl ?_
  refine z_iload_n hG dX11_requireRange_0 rfl 0 rfl ?_
  refine z_iload_n hG dX11_requireRange_1 rfl 1 rfl ?_
  refine z_icmp_lt (tgt := 10) hG dX11_requireRange_2 (by decide) (fun c2 => ?_) (fun c2 => ?_)
  · have hw := hw.1 c2
    refine zpick [] (lv' := []) rfl ?_
    refine zwiden (k := 0) (n := 0) (by omega) (by omega) ?_
    exact BxX11_requireRange_10 hG hlt hex σ _ _ hw  (by omega) (by omega)
  · have hw := hw.2 c2
    refine z_iload_n hG dX11_requireRange_5 rfl 0 rfl ?_
    refine z_iload_n hG dX11_requireRange_6 rfl 2 rfl ?_
    refine z_icmp_le (tgt := 21) hG dX11_requireRange_7 (by decide) (fun c1 => ?_) (fun c1 => ?_)
    · have hw := hw.1 c1
      refine zwiden (k := 1) (n := 6) (by omega) (by omega) (zvx ?_)
      exact z_vret hG rfl dX11_requireRange_21 hw
    · have hw := hw.2 c1
      refine zpick [] (lv' := []) rfl ?_
      refine zwiden (k := 0) (n := 0) (by omega) (by omega) ?_
      exact BxX11_requireRange_10 hG hlt hex σ _ _ hw  (by omega) (by omega)
-- TypeWheelTelegraph.requireTimeFor(I)V
def wxX11_requireTimeFor (ln : Nat → Nat) (σ : zS) (t0 : Nat) (v1 : Int32) (Q : zS → Prop) (X : String → zS → Prop) : Prop := ∃ j1 : Nat, gr σ t0 3 = some j1 ∧ ((((gi σ j1 1) + v1) ≤ 100000 → Q σ) ∧ (¬ ((gi σ j1 1) + v1) ≤ 100000 → X "java/lang/IllegalStateException" σ))
abbrev rxX11_requireTimeFor : Room := { frames := 6, cells := 1, slots := 6, locals := 100 }
set_option maxRecDepth 100000 in
set_option maxHeartbeats 4000000 in
theorem MxX11_requireTimeFor (l : Launch) (hlt : l.stackTraces = false) {E : zE} {Y : zY} {σ : zS} {t0 : Nat} {v1 : Int32} (h0 : zT Y 11 t0) {Q : zS → Prop} {X : String → zS → Prop} (hw : wxX11_requireTimeFor (zln Y) σ t0 v1 Q X) : ∀ sz, vx_Met l yX11_requireTimeFor (zw yX11_requireTimeFor cX11_requireTimeFor 2 none) rxX11_requireTimeFor (zPc E Y σ sz [.ref (za Y t0), .int v1]) (va_Qv Q (zB E Y sz) (zA Y sz)) (zX X E Y sz) 1 6 (zA Y sz) := by
  refine z_metX (own := RX11) (Qc := fun sz => va_Qv Q (zB E Y sz) (zA Y sz)) (XC := fun sz => zX X E Y sz) (by decide +kernel) rfl (Nat.le_of_ble_eq_true rfl) ?_
  intro p e s m args below meth c hG hex
  unfold wxX11_requireTimeFor at hw
  refine zlv (lv' := [(0, .ref (za Y t0)), (1, .int v1)]) rfl ?_
  refine z_aload_n hG dX11_requireTimeFor_0 rfl 0 rfl ?_
  obtain ⟨j1, ej1, hw⟩ := hw
  refine z_getr (kq := 3) hG f_X11_53 h0 rfl ej1 rfl (by decide) dX11_requireTimeFor_1 (fun hj1 => ?_)
  refine z_geti hG f_X11_120 hj1 rfl dX11_requireTimeFor_4 ?_
  refine z_iload_n hG dX11_requireTimeFor_7 rfl 1 rfl ?_
  refine z_iadd hG dX11_requireTimeFor_8 ?_
  refine z_ldcw (hc := c_X11_374) hG (hd := dX11_requireTimeFor_9) ?_
  refine z_icmp_le (tgt := 26) hG dX11_requireTimeFor_12 (by decide) (fun c2 => ?_) (fun c2 => ?_)
  · have hw := hw.1 c2
    refine zwiden (k := 1) (n := 6) (by omega) (by omega) (zvx ?_)
    exact z_vret hG rfl dX11_requireTimeFor_26 hw
  · have hw := hw.2 c2
    exact z_throwSW (i := 19) (tx := "the time would be too great") hG hlt hex thr_ISE (by decide +kernel) dX11_requireTimeFor_15 dX11_requireTimeFor_18 dX11_requireTimeFor_19 dX11_requireTimeFor_22 dX11_requireTimeFor_25 (Nat.le_of_ble_eq_true rfl) (Nat.le_of_ble_eq_true rfl) (show 0 + 1 ≤ 1 from by omega) (show 0 + 6 ≤ 6 from by omega) (show 0 + 1 ≤ 1 from by omega) (show 0 + 6 ≤ 6 from by omega) hw
-- TypeWheelTelegraph.append(IIIII)I
def wxX11_append (ln : Nat → Nat) (σ : zS) (t0 : Nat) (v1 : Int32) (v2 : Int32) (v3 : Int32) (v4 : Int32) (v5 : Int32) (Q : Int32 → zS → Prop) (X : String → zS → Prop) : Prop := ∃ j1 : Nat, gr σ t0 0 = some j1 ∧ wX9_size ln σ j1 (fun r3 σ2 => ((r3 ≤ 580 → wX11_appendWord ln σ2 t0 v1 (fun σ4 => wX11_appendWord ln σ4 t0 v2 (fun σ5 => wX11_appendWord ln σ5 t0 v3 (fun σ6 => wX11_appendWord ln σ6 t0 v4 (fun σ7 => wX11_appendWord ln σ7 t0 v5 (fun σ8 => ∃ j9 : Nat, gr σ8 t0 0 = some j9 ∧ wX9_size ln σ8 j9 (fun r11 σ10 => Q r11 σ10))))))) ∧ (¬ r3 ≤ 580 → X "java/lang/IllegalStateException" σ2)))
abbrev rxX11_append : Room := { frames := 6, cells := 1, slots := 6, locals := 100 }
set_option maxRecDepth 100000 in
set_option maxHeartbeats 4000000 in
theorem MxX11_append (l : Launch) (hlt : l.stackTraces = false) {E : zE} {Y : zY} {σ : zS} {t0 : Nat} {v1 : Int32} {v2 : Int32} {v3 : Int32} {v4 : Int32} {v5 : Int32} (h0 : zT Y 11 t0) {Q : Int32 → zS → Prop} {X : String → zS → Prop} (hw : wxX11_append (zln Y) σ t0 v1 v2 v3 v4 v5 Q X) : ∀ sz, vx_Met l yX11_append (zw yX11_append cX11_append 6 (some .int)) rxX11_append (zPc E Y σ sz [.ref (za Y t0), .int v1, .int v2, .int v3, .int v4, .int v5]) (va_Qi Q (zB E Y sz) (zA Y sz)) (zX X E Y sz) 1 6 (zA Y sz) := by
  refine z_metX (own := RX11) (Qc := fun sz => va_Qi Q (zB E Y sz) (zA Y sz)) (XC := fun sz => zX X E Y sz) (by decide +kernel) rfl (Nat.le_of_ble_eq_true rfl) ?_
  intro p e s m args below meth c hG hex
  unfold wxX11_append at hw
  refine zlv (lv' := [(0, .ref (za Y t0)), (1, .int v1), (2, .int v2), (3, .int v3), (4, .int v4), (5, .int v5)]) rfl ?_
  refine z_aload_n hG dX11_append_0 rfl 0 rfl ?_
  obtain ⟨j1, ej1, hw⟩ := hw
  refine z_getr (kq := 9) hG f_X11_14 h0 rfl ej1 rfl (by decide) dX11_append_1 (fun hj1 => ?_)
  refine z_calli hG (z_runV (As := []) (st := []) hG k_X11_67 (MX9_size l hj1 hw) ⟨(Nat.le_of_ble_eq_true rfl), (Nat.le_of_ble_eq_true rfl)⟩ hj1 (T := TX9) (N := 2) rfl (by decide) rfl (Nat.le_of_ble_eq_true rfl) dX11_append_4 ⟨show 0 + 0 ≤ 1 from by omega, show 0 + 0 ≤ 6 from by omega⟩ rfl) (fun r3 σ2 hw => ?_)
  refine z_sipush (v := 580) hG dX11_append_7 (by decide) ?_
  refine z_icmp_le (tgt := 23) hG dX11_append_10 (by decide) (fun c12 => ?_) (fun c12 => ?_)
  · have hw := hw.1 c12
    refine z_aload_n hG dX11_append_23 rfl 0 rfl ?_
    refine z_iload_n hG dX11_append_24 rfl 1 rfl ?_
    refine z_callv hG (z_runV (As := [.int v1]) (st := []) hG k_X11_78 (MX11_appendWord l h0 hw) ⟨(Nat.le_of_ble_eq_true rfl), (Nat.le_of_ble_eq_true rfl)⟩ h0 (T := TX11) (N := 9) rfl (by decide) rfl (Nat.le_of_ble_eq_true rfl) dX11_append_25 ⟨show 0 + 0 ≤ 1 from by omega, show 0 + 0 ≤ 6 from by omega⟩ rfl) (fun σ4 hw => ?_)
    refine z_aload_n hG dX11_append_28 rfl 0 rfl ?_
    refine z_iload_n hG dX11_append_29 rfl 2 rfl ?_
    refine z_callv hG (z_runV (As := [.int v2]) (st := []) hG k_X11_78 (MX11_appendWord l h0 hw) ⟨(Nat.le_of_ble_eq_true rfl), (Nat.le_of_ble_eq_true rfl)⟩ h0 (T := TX11) (N := 9) rfl (by decide) rfl (Nat.le_of_ble_eq_true rfl) dX11_append_30 ⟨show 0 + 0 ≤ 1 from by omega, show 0 + 0 ≤ 6 from by omega⟩ rfl) (fun σ5 hw => ?_)
    refine z_aload_n hG dX11_append_33 rfl 0 rfl ?_
    refine z_iload_n hG dX11_append_34 rfl 3 rfl ?_
    refine z_callv hG (z_runV (As := [.int v3]) (st := []) hG k_X11_78 (MX11_appendWord l h0 hw) ⟨(Nat.le_of_ble_eq_true rfl), (Nat.le_of_ble_eq_true rfl)⟩ h0 (T := TX11) (N := 9) rfl (by decide) rfl (Nat.le_of_ble_eq_true rfl) dX11_append_35 ⟨show 0 + 0 ≤ 1 from by omega, show 0 + 0 ≤ 6 from by omega⟩ rfl) (fun σ6 hw => ?_)
    refine z_aload_n hG dX11_append_38 rfl 0 rfl ?_
    refine z_iload hG dX11_append_39 4 rfl ?_
    refine z_callv hG (z_runV (As := [.int v4]) (st := []) hG k_X11_78 (MX11_appendWord l h0 hw) ⟨(Nat.le_of_ble_eq_true rfl), (Nat.le_of_ble_eq_true rfl)⟩ h0 (T := TX11) (N := 9) rfl (by decide) rfl (Nat.le_of_ble_eq_true rfl) dX11_append_41 ⟨show 0 + 0 ≤ 1 from by omega, show 0 + 0 ≤ 6 from by omega⟩ rfl) (fun σ7 hw => ?_)
    refine z_aload_n hG dX11_append_44 rfl 0 rfl ?_
    refine z_iload hG dX11_append_45 5 rfl ?_
    refine z_callv hG (z_runV (As := [.int v5]) (st := []) hG k_X11_78 (MX11_appendWord l h0 hw) ⟨(Nat.le_of_ble_eq_true rfl), (Nat.le_of_ble_eq_true rfl)⟩ h0 (T := TX11) (N := 9) rfl (by decide) rfl (Nat.le_of_ble_eq_true rfl) dX11_append_47 ⟨show 0 + 0 ≤ 1 from by omega, show 0 + 0 ≤ 6 from by omega⟩ rfl) (fun σ8 hw => ?_)
    refine z_aload_n hG dX11_append_50 rfl 0 rfl ?_
    obtain ⟨j9, ej9, hw⟩ := hw
    refine z_getr (kq := 9) hG f_X11_14 h0 rfl ej9 rfl (by decide) dX11_append_51 (fun hj9 => ?_)
    refine z_calli hG (z_runV (As := []) (st := []) hG k_X11_67 (MX9_size l hj9 hw) ⟨(Nat.le_of_ble_eq_true rfl), (Nat.le_of_ble_eq_true rfl)⟩ hj9 (T := TX9) (N := 2) rfl (by decide) rfl (Nat.le_of_ble_eq_true rfl) dX11_append_54 ⟨show 0 + 0 ≤ 1 from by omega, show 0 + 0 ≤ 6 from by omega⟩ rfl) (fun r11 σ10 hw => ?_)
    refine zwiden (k := 1) (n := 6) (by omega) (by omega) (zvx ?_)
    exact z_iret hG rfl rfl dX11_append_57 hw
  · have hw := hw.2 c12
    exact z_throwS (i := 0) (tx := "the input buffer would be too long") hG hlt hex thr_ISE (by decide +kernel) dX11_append_13 dX11_append_16 dX11_append_17 dX11_append_19 dX11_append_22 (Nat.le_of_ble_eq_true rfl) (Nat.le_of_ble_eq_true rfl) (show 0 + 1 ≤ 1 from by omega) (show 0 + 6 ≤ 6 from by omega) (show 0 + 1 ≤ 1 from by omega) (show 0 + 6 ≤ 6 from by omega) hw
-- TypeWheelTelegraph.truncate(I)V
def wxX11_truncate_15 (ln : Nat → Nat) (Q : zS → Prop) (X : String → zS → Prop) (σ : zS) : Prop := X "java/lang/IllegalArgumentException" σ
def wxX11_truncate (ln : Nat → Nat) (σ : zS) (t0 : Nat) (v1 : Int32) (Q : zS → Prop) (X : String → zS → Prop) : Prop := ((v1 < 0 → wxX11_truncate_15 ln Q X σ) ∧ (¬ v1 < 0 → ∃ j1 : Nat, gr σ t0 0 = some j1 ∧ wX9_size ln σ j1 (fun r3 σ2 => ((v1 ≤ r3 → ∃ j4 : Nat, gr σ2 t0 0 = some j4 ∧ wX9_shorten ln σ2 j4 v1 (fun σ5 => Q σ5)) ∧ (¬ v1 ≤ r3 → wxX11_truncate_15 ln Q X σ2)))))
abbrev rxX11_truncate : Room := { frames := 6, cells := 1, slots := 6, locals := 100 }
set_option maxRecDepth 100000 in
set_option maxHeartbeats 4000000 in
theorem BxX11_truncate_15 {l : Launch} {E : zE} {Y : zY} {p : Program} {e : Env} {s : State} {m : MethodId} {args : Array Value} {below : List Frame} {meth : Method} {c : Code} (hG : zG E p l s m args meth c cX11_truncate 2 RX11 none (zA Y s.heap.size)) (hlt : l.stackTraces = false) (hex : ∀ x ∈ c.exceptionTable.toList, False) {Q : zS → Prop} {X : String → zS → Prop} : ∀ (σ : zS) (cl sl : Nat), wxX11_truncate_15 (zln Y) Q X σ → cl + (1) ≤ 1 → sl + (6) ≤ 6 → WW E Y σ p l e rxX11_truncate s m args below meth c (zA Y s.heap.size) 2 cl sl (vx_MQ below (va_Qv Q (zB E Y s.heap.size) (zA Y s.heap.size)) (zX X E Y s.heap.size) args s 1 6 (zA Y s.heap.size)) [] 15 [] := by
  intro σ cl sl hw  hcl hsl
  unfold wxX11_truncate_15 at hw
  exact z_throwS (i := 1) (tx := "no such length of the input buffer") hG hlt hex thr_IAE (by decide +kernel) dX11_truncate_15 dX11_truncate_18 dX11_truncate_19 dX11_truncate_21 dX11_truncate_24 (Nat.le_of_ble_eq_true rfl) (Nat.le_of_ble_eq_true rfl) (show cl + 0 + 1 ≤ 1 from by omega) (show sl + 0 + 6 ≤ 6 from by omega) (show cl + 0 + 1 ≤ 1 from by omega) (show sl + 0 + 6 ≤ 6 from by omega) hw
set_option maxRecDepth 100000 in
set_option maxHeartbeats 4000000 in
theorem MxX11_truncate (l : Launch) (hlt : l.stackTraces = false) {E : zE} {Y : zY} {σ : zS} {t0 : Nat} {v1 : Int32} (h0 : zT Y 11 t0) {Q : zS → Prop} {X : String → zS → Prop} (hw : wxX11_truncate (zln Y) σ t0 v1 Q X) : ∀ sz, vx_Met l yX11_truncate (zw yX11_truncate cX11_truncate 2 none) rxX11_truncate (zPc E Y σ sz [.ref (za Y t0), .int v1]) (va_Qv Q (zB E Y sz) (zA Y sz)) (zX X E Y sz) 1 6 (zA Y sz) := by
  refine z_metX (own := RX11) (Qc := fun sz => va_Qv Q (zB E Y sz) (zA Y sz)) (XC := fun sz => zX X E Y sz) (by decide +kernel) rfl (Nat.le_of_ble_eq_true rfl) ?_
  intro p e s m args below meth c hG hex
  unfold wxX11_truncate at hw
  refine zlv (lv' := [(0, .ref (za Y t0)), (1, .int v1)]) rfl ?_
  refine z_iload_n hG dX11_truncate_0 rfl 1 rfl ?_
  refine z_if_lt (tgt := 15) hG dX11_truncate_1 (by decide) (fun c7 => ?_) (fun c7 => ?_)
  · have hw := hw.1 c7
    refine zpick [] (lv' := []) rfl ?_
    refine zwiden (k := 0) (n := 0) (by omega) (by omega) ?_
    exact BxX11_truncate_15 hG hlt hex σ _ _ hw  (by omega) (by omega)
  · have hw := hw.2 c7
    refine z_iload_n hG dX11_truncate_4 rfl 1 rfl ?_
    refine z_aload_n hG dX11_truncate_5 rfl 0 rfl ?_
    obtain ⟨j1, ej1, hw⟩ := hw
    refine z_getr (kq := 9) hG f_X11_14 h0 rfl ej1 rfl (by decide) dX11_truncate_6 (fun hj1 => ?_)
    refine z_calli hG (z_runV (As := []) (st := [.int v1]) hG k_X11_67 (MX9_size l hj1 hw) ⟨(Nat.le_of_ble_eq_true rfl), (Nat.le_of_ble_eq_true rfl)⟩ hj1 (T := TX9) (N := 2) rfl (by decide) rfl (Nat.le_of_ble_eq_true rfl) dX11_truncate_9 ⟨show 0 + 0 ≤ 1 from by omega, show 0 + 0 ≤ 6 from by omega⟩ rfl) (fun r3 σ2 hw => ?_)
    refine z_icmp_le (tgt := 25) hG dX11_truncate_12 (by decide) (fun c6 => ?_) (fun c6 => ?_)
    · have hw := hw.1 c6
      refine z_aload_n hG dX11_truncate_25 rfl 0 rfl ?_
      obtain ⟨j4, ej4, hw⟩ := hw
      refine z_getr (kq := 9) hG f_X11_14 h0 rfl ej4 rfl (by decide) dX11_truncate_26 (fun hj4 => ?_)
      refine z_iload_n hG dX11_truncate_29 rfl 1 rfl ?_
      refine z_callv hG (z_runV (As := [.int v1]) (st := []) hG k_X11_89 (MX9_shorten l hj4 hw) ⟨(Nat.le_of_ble_eq_true rfl), (Nat.le_of_ble_eq_true rfl)⟩ hj4 (T := TX9) (N := 2) rfl (by decide) rfl (Nat.le_of_ble_eq_true rfl) dX11_truncate_30 ⟨show 0 + 0 ≤ 1 from by omega, show 0 + 0 ≤ 6 from by omega⟩ rfl) (fun σ5 hw => ?_)
      refine zwiden (k := 1) (n := 6) (by omega) (by omega) (zvx ?_)
      exact z_vret hG rfl dX11_truncate_33 hw
    · have hw := hw.2 c6
      refine zpick [] (lv' := []) rfl ?_
      refine zwiden (k := 0) (n := 0) (by omega) (by omega) ?_
      exact BxX11_truncate_15 hG hlt hex σ2 _ _ hw  (by omega) (by omega)
-- TypeWheelTelegraph$Tokens.isWord(Ljava/lang/String;)Z
def wX10_isWord_23 (ln : Nat → Nat) (Q : Int32 → zS → Prop) : Nat → Nat → Nat → Int32 → zS → Prop
  | 0, _, _, _, _ => False
  | n + 1, t0, s1, v2, σ => wJ0_length_8abf5 ln σ s1 (fun r2 σ1 => ((r2 ≤ v2 → Q 1 σ1) ∧ (¬ r2 ≤ v2 → wX10_signAt ln σ1 t0 v2 (fun r4 σ3 => wJ0_charAt_5068e ln σ3 s1 v2 (fun r6 σ5 => ((r4 = r6 → ∀ x7 : Int32, x7 = v2 + 1 → (wX10_isWord_23 ln Q n) t0 s1 x7 σ5) ∧ (¬ r4 = r6 → Q 0 σ5)))))))
def wX10_isWord (ln : Nat → Nat) (σ : zS) (t0 : Nat) (s1 : Nat) (Q : Int32 → zS → Prop) : Prop := (((gi σ t0 0) = 1 → wX10_length ln σ t0 (fun r2 σ1 => wJ0_length_8abf5 ln σ1 s1 (fun r4 σ3 => ((r2 = r4 → ∃ n5 : Nat, wX10_isWord_23 ln Q n5 t0 s1 0 σ3) ∧ (¬ r2 = r4 → Q 0 σ3))))) ∧ (¬ (gi σ t0 0) = 1 → Q 0 σ))
abbrev rX10_isWord : Room := { frames := 4, cells := 0, slots := 0, locals := 85 }
set_option maxRecDepth 100000 in
set_option maxHeartbeats 4000000 in
theorem BX10_isWord_23 {l : Launch} {E : zE} {Y : zY} {p : Program} {e : Env} {s : State} {m : MethodId} {args : Array Value} {below : List Frame} {meth : Method} {c : Code} (hG : zG E p l s m args meth c cX10_isWord 3 RX10 (some .boolean) (zA Y s.heap.size)) {Q : Int32 → zS → Prop} : ∀ (n : Nat) (t0 : Nat) (s1 : Nat) (v2 : Int32) (σ : zS), wX10_isWord_23 (zln Y) Q n t0 s1 v2 σ → zT Y 10 t0 → s1 < zS_n → WW E Y σ p l e rX10_isWord s m args below meth c (zA Y s.heap.size) 3 0 0 (MQ below (va_Qi Q (zB E Y s.heap.size) (zA Y s.heap.size)) args s 0 0 (zA Y s.heap.size)) [(0, .ref (za Y t0)), (1, .ref (E.2.2.1 s1)), (2, .int v2)] 23 [] := by
  intro n
  induction n with
  | zero => intro t0 s1 v2 σ hw
            exact hw.elim
  | succ n ih =>
    intro t0 s1 v2 σ hw h0 h1
    rw [wX10_isWord_23] at hw
    refine z_iload_n hG dX10_isWord_23 rfl 2 rfl ?_
    refine z_aload_n hG dX10_isWord_24 rfl 1 rfl ?_
    refine z_calli hG (z_runVs (As := []) (st := [.int v2]) hG k_X10_48 (MJ0_length_8abf5 l h1 hw) ⟨(Nat.le_of_ble_eq_true rfl), (Nat.le_of_ble_eq_true rfl)⟩ h1 rfl (Nat.le_of_ble_eq_true rfl) dX10_isWord_25 ⟨Nat.zero_le _, Nat.zero_le _⟩ rfl) (fun r2 σ1 hw => ?_)
    refine z_icmp_ge (tgt := 52) hG dX10_isWord_28 (by decide) (fun c9 => ?_) (fun c9 => ?_)
    · have hw := hw.1 c9
      refine z_iconst (v := 1) hG dX10_isWord_52 (by decide) ?_
      exact z_iret hG rfl (by decide +kernel) dX10_isWord_53 hw
    · have hw := hw.2 c9
      refine z_aload_n hG dX10_isWord_31 rfl 0 rfl ?_
      refine z_iload_n hG dX10_isWord_32 rfl 2 rfl ?_
      refine z_calli hG (z_runV (As := [.int v2]) (st := []) hG k_X10_51 (MX10_signAt l h0 hw) ⟨(Nat.le_of_ble_eq_true rfl), (Nat.le_of_ble_eq_true rfl)⟩ h0 (T := TX10) (N := 4) rfl (by decide) rfl (Nat.le_of_ble_eq_true rfl) dX10_isWord_33 ⟨Nat.zero_le _, Nat.zero_le _⟩ rfl) (fun r4 σ3 hw => ?_)
      refine z_aload_n hG dX10_isWord_36 rfl 1 rfl ?_
      refine z_iload_n hG dX10_isWord_37 rfl 2 rfl ?_
      refine z_calli hG (z_runVs (As := [.int v2]) (st := [.int r4]) hG k_X10_54 (MJ0_charAt_5068e l h1 hw) ⟨(Nat.le_of_ble_eq_true rfl), (Nat.le_of_ble_eq_true rfl)⟩ h1 rfl (Nat.le_of_ble_eq_true rfl) dX10_isWord_38 ⟨Nat.zero_le _, Nat.zero_le _⟩ rfl) (fun r6 σ5 hw => ?_)
      refine z_icmp_eq (tgt := 46) hG dX10_isWord_41 (by decide) (fun c8 => ?_) (fun c8 => ?_)
      · have hw := hw.1 c8
        obtain ⟨x7, ex7⟩ : ∃ y : Int32, y = v2 + 1 := ⟨_, rfl⟩
        have hw := hw x7 ex7
        refine z_iinc (v := x7) (lv' := [(2, .int x7), (0, .ref (za Y t0)), (1, .ref (E.2.2.1 s1))]) hG dX10_isWord_46 2 rfl (by rw [ex7]; rfl) (by decide) rfl ?_
        refine z_goto (tgt := 23) hG dX10_isWord_49 (by decide) ?_
        refine zpick [1, 2, 0] (lv' := [(0, .ref (za Y t0)), (1, .ref (E.2.2.1 s1)), (2, .int x7)]) rfl ?_
        exact ih t0 s1 x7 σ5 hw h0 h1
      · have hw := hw.2 c8
        refine z_iconst (v := 0) hG dX10_isWord_44 (by decide) ?_
        exact z_iret hG rfl (by decide +kernel) dX10_isWord_45 hw
set_option maxRecDepth 100000 in
set_option maxHeartbeats 4000000 in
theorem MX10_isWord (l : Launch) {E : zE} {Y : zY} {σ : zS} {t0 : Nat} {s1 : Nat} (h0 : zT Y 10 t0) (h1 : s1 < zS_n) {Q : Int32 → zS → Prop} (hw : wX10_isWord (zln Y) σ t0 s1 Q) : ∀ sz, Met l yX10_isWord (zw yX10_isWord cX10_isWord 3 (some .boolean)) rX10_isWord (zPc E Y σ sz [.ref (za Y t0), .ref (E.2.2.1 s1)]) (va_Qi Q (zB E Y sz) (zA Y sz)) 0 0 (zA Y sz) := by
  refine z_met (own := RX10) (Qc := fun sz => va_Qi Q (zB E Y sz) (zA Y sz)) (by decide +kernel) rfl (Nat.le_of_ble_eq_true rfl) ?_
  intro p e s m args below meth c hG hinit
  unfold wX10_isWord at hw
  refine zlv (lv' := [(0, .ref (za Y t0)), (1, .ref (E.2.2.1 s1))]) rfl ?_
  refine z_aload_n hG dX10_isWord_0 rfl 0 rfl ?_
  refine z_geti hG f_X10_42 h0 rfl dX10_isWord_1 ?_
  refine z_iconst (v := 1) hG dX10_isWord_4 (by decide) ?_
  refine z_icmp_ne (tgt := 19) hG dX10_isWord_5 (by decide) (fun c7 => ?_) (fun c7 => ?_)
  · have hw := hw.2 c7
    refine z_iconst (v := 0) hG dX10_isWord_19 (by decide) ?_
    exact z_iret hG rfl (by decide +kernel) dX10_isWord_20 hw
  · have hw := hw.1 c7
    refine z_aload_n hG dX10_isWord_8 rfl 0 rfl ?_
    refine z_calli hG (z_runV (As := []) (st := []) hG k_X10_45 (MX10_length l h0 hw) ⟨(Nat.le_of_ble_eq_true rfl), (Nat.le_of_ble_eq_true rfl)⟩ h0 (T := TX10) (N := 4) rfl (by decide) rfl (Nat.le_of_ble_eq_true rfl) dX10_isWord_9 ⟨Nat.zero_le _, Nat.zero_le _⟩ rfl) (fun r2 σ1 hw => ?_)
    refine z_aload_n hG dX10_isWord_12 rfl 1 rfl ?_
    refine z_calli hG (z_runVs (As := []) (st := [.int r2]) hG k_X10_48 (MJ0_length_8abf5 l h1 hw) ⟨(Nat.le_of_ble_eq_true rfl), (Nat.le_of_ble_eq_true rfl)⟩ h1 rfl (Nat.le_of_ble_eq_true rfl) dX10_isWord_13 ⟨Nat.zero_le _, Nat.zero_le _⟩ rfl) (fun r4 σ3 hw => ?_)
    refine z_icmp_eq (tgt := 21) hG dX10_isWord_16 (by decide) (fun c6 => ?_) (fun c6 => ?_)
    · have hw := hw.1 c6
      refine z_iconst (v := 0) hG dX10_isWord_21 (by decide) ?_
      refine z_istore_n (lv' := [(2, .int 0), (0, .ref (za Y t0)), (1, .ref (E.2.2.1 s1))]) hG dX10_isWord_22 rfl (by decide) rfl ?_
      obtain ⟨n5, hw⟩ := hw
      refine zpick [1, 2, 0] (lv' := [(0, .ref (za Y t0)), (1, .ref (E.2.2.1 s1)), (2, .int 0)]) rfl ?_
      exact BX10_isWord_23 hG n5 t0 s1 0 σ3 hw h0 h1
    · have hw := hw.2 c6
      refine z_iconst (v := 0) hG dX10_isWord_19 (by decide) ?_
      exact z_iret hG rfl (by decide +kernel) dX10_isWord_20 hw
-- TypeWheelTelegraph$Parser.setting(LTypeWheelTelegraph$Plan;)Z
def wX5_setting (ln : Nat → Nat) (σ : zS) (t0 : Nat) (t1 : Nat) (Q : Int32 → zS → Prop) : Prop := ∃ j1 : Nat, gr σ t0 0 = some j1 ∧ wX10_isWord ln σ j1 6 (fun r4 σ3 => ((r4 = 0 → ∃ j5 : Nat, gr σ3 t0 0 = some j5 ∧ wX10_isWord ln σ3 j5 7 (fun r8 σ7 => ((r8 = 0 → ∃ j9 : Nat, gr σ7 t0 0 = some j9 ∧ wX10_isWord ln σ7 j9 8 (fun r12 σ11 => ((r12 = 0 → ∃ j13 : Nat, gr σ11 t0 0 = some j13 ∧ wX10_isWord ln σ11 j13 9 (fun r16 σ15 => ((r16 = 0 → Q 0 σ15) ∧ (¬ r16 = 0 → wX5_takeNumber ln σ15 t0 0 9 (fun r18 σ17 => ∀ x19 : Int32, x19 = gi σ17 t0 2 → ∀ σ20 : zS, σ20 = si σ17 t1 4 x19 → zB1 r18 ∧ Q r18 σ20))))) ∧ (¬ r12 = 0 → wX5_takeNumber ln σ11 t0 1 5000 (fun r24 σ23 => ∀ x25 : Int32, x25 = gi σ23 t0 2 → ∀ σ26 : zS, σ26 = si σ23 t1 3 x25 → zB1 r24 ∧ Q r24 σ26))))) ∧ (¬ r8 = 0 → wX5_takeNumber ln σ7 t0 0 500 (fun r30 σ29 => ∀ x31 : Int32, x31 = gi σ29 t0 2 → ∀ σ32 : zS, σ32 = si σ29 t1 2 x31 → zB1 r30 ∧ Q r30 σ32))))) ∧ (¬ r4 = 0 → wX5_takeNumber ln σ3 t0 1 50 (fun r36 σ35 => ∀ x37 : Int32, x37 = gi σ35 t0 2 → ∀ σ38 : zS, σ38 = si σ35 t1 1 x37 → zB1 r36 ∧ Q r36 σ38))))
abbrev rX5_setting : Room := { frames := 5, cells := 0, slots := 0, locals := 107 }
set_option maxRecDepth 100000 in
set_option maxHeartbeats 4000000 in
theorem MX5_setting (l : Launch) {E : zE} {Y : zY} {σ : zS} {t0 : Nat} {t1 : Nat} (h0 : zT Y 5 t0) (h1 : zT Y 6 t1) {Q : Int32 → zS → Prop} (hw : wX5_setting (zln Y) σ t0 t1 Q) : ∀ sz, Met l yX5_setting (zw yX5_setting cX5_setting 3 (some .boolean)) rX5_setting (zPc E Y σ sz [.ref (za Y t0), .ref (za Y t1)]) (va_Qi Q (zB E Y sz) (zA Y sz)) 0 0 (zA Y sz) := by
  refine z_met (own := RX5) (Qc := fun sz => va_Qi Q (zB E Y sz) (zA Y sz)) (by decide +kernel) rfl (Nat.le_of_ble_eq_true rfl) ?_
  intro p e s m args below meth c hG hinit
  unfold wX5_setting at hw
  refine zlv (lv' := [(0, .ref (za Y t0)), (1, .ref (za Y t1))]) rfl ?_
  refine z_iconst (v := 0) hG dX5_setting_0 (by decide) ?_
  refine z_istore_n (lv' := [(2, .int 0), (0, .ref (za Y t0)), (1, .ref (za Y t1))]) hG dX5_setting_1 rfl (by decide) rfl ?_
  refine z_aload_n hG dX5_setting_2 rfl 1 rfl ?_
  obtain ⟨j1, ej1, hw⟩ := hw
  refine z_getr (kq := 10) hG f_X5_14 h0 rfl ej1 rfl (by decide) dX5_setting_3 (fun hj1 => ?_)
  refine z_ldcs (i := 6) (tx := "delay") hG (by decide +kernel) dX5_setting_6 ?_
  have hq2 : 6 < zS_n := by decide
  refine z_calli hG (z_runV (As := [.ref (E.2.2.1 6)]) (st := []) hG k_X5_63 (MX10_isWord l hj1 hq2 hw) ⟨(Nat.le_of_ble_eq_true rfl), (Nat.le_of_ble_eq_true rfl)⟩ hj1 (T := TX10) (N := 4) rfl (by decide) rfl (Nat.le_of_ble_eq_true rfl) dX5_setting_8 ⟨Nat.zero_le _, Nat.zero_le _⟩ rfl) (fun r4 σ3 hw => ?_)
  refine z_if_eq (tgt := 33) hG dX5_setting_11 (by decide) (fun c40 => ?_) (fun c40 => ?_)
  · have hw := hw.1 c40
    refine z_aload_n hG dX5_setting_33 rfl 1 rfl ?_
    obtain ⟨j5, ej5, hw⟩ := hw
    refine z_getr (kq := 10) hG f_X5_14 h0 rfl ej5 rfl (by decide) dX5_setting_34 (fun hj5 => ?_)
    refine z_ldcs (i := 7) (tx := "correct") hG (by decide +kernel) dX5_setting_37 ?_
    have hq6 : 7 < zS_n := by decide
    refine z_calli hG (z_runV (As := [.ref (E.2.2.1 7)]) (st := []) hG k_X5_63 (MX10_isWord l hj5 hq6 hw) ⟨(Nat.le_of_ble_eq_true rfl), (Nat.le_of_ble_eq_true rfl)⟩ hj5 (T := TX10) (N := 4) rfl (by decide) rfl (Nat.le_of_ble_eq_true rfl) dX5_setting_39 ⟨Nat.zero_le _, Nat.zero_le _⟩ rfl) (fun r8 σ7 hw => ?_)
    refine z_if_eq (tgt := 65) hG dX5_setting_42 (by decide) (fun c34 => ?_) (fun c34 => ?_)
    · have hw := hw.1 c34
      refine z_aload_n hG dX5_setting_65 rfl 1 rfl ?_
      obtain ⟨j9, ej9, hw⟩ := hw
      refine z_getr (kq := 10) hG f_X5_14 h0 rfl ej9 rfl (by decide) dX5_setting_66 (fun hj9 => ?_)
      refine z_ldcs (i := 8) (tx := "guard") hG (by decide +kernel) dX5_setting_69 ?_
      have hq10 : 8 < zS_n := by decide
      refine z_calli hG (z_runV (As := [.ref (E.2.2.1 8)]) (st := []) hG k_X5_63 (MX10_isWord l hj9 hq10 hw) ⟨(Nat.le_of_ble_eq_true rfl), (Nat.le_of_ble_eq_true rfl)⟩ hj9 (T := TX10) (N := 4) rfl (by decide) rfl (Nat.le_of_ble_eq_true rfl) dX5_setting_71 ⟨Nat.zero_le _, Nat.zero_le _⟩ rfl) (fun r12 σ11 hw => ?_)
      refine z_if_eq (tgt := 97) hG dX5_setting_74 (by decide) (fun c28 => ?_) (fun c28 => ?_)
      · have hw := hw.1 c28
        refine z_aload_n hG dX5_setting_97 rfl 1 rfl ?_
        obtain ⟨j13, ej13, hw⟩ := hw
        refine z_getr (kq := 10) hG f_X5_14 h0 rfl ej13 rfl (by decide) dX5_setting_98 (fun hj13 => ?_)
        refine z_ldcs (i := 9) (tx := "retries") hG (by decide +kernel) dX5_setting_101 ?_
        have hq14 : 9 < zS_n := by decide
        refine z_calli hG (z_runV (As := [.ref (E.2.2.1 9)]) (st := []) hG k_X5_63 (MX10_isWord l hj13 hq14 hw) ⟨(Nat.le_of_ble_eq_true rfl), (Nat.le_of_ble_eq_true rfl)⟩ hj13 (T := TX10) (N := 4) rfl (by decide) rfl (Nat.le_of_ble_eq_true rfl) dX5_setting_103 ⟨Nat.zero_le _, Nat.zero_le _⟩ rfl) (fun r16 σ15 hw => ?_)
        refine z_if_eq (tgt := 125) hG dX5_setting_106 (by decide) (fun c22 => ?_) (fun c22 => ?_)
        · have hw := hw.1 c22
          refine z_iload_n hG dX5_setting_125 rfl 0 rfl ?_
          exact z_iret hG rfl (by decide +kernel) dX5_setting_126 hw
        · have hw := hw.2 c22
          refine z_aload_n hG dX5_setting_109 rfl 1 rfl ?_
          refine z_iconst (v := 0) hG dX5_setting_110 (by decide) ?_
          refine z_bipush (v := 9) hG dX5_setting_111 (by decide) ?_
          refine z_calli hG (z_runV (As := [.int 0, .int 9]) (st := []) hG k_X5_90 (MX5_takeNumber l h0 hw) ⟨(Nat.le_of_ble_eq_true rfl), (Nat.le_of_ble_eq_true rfl)⟩ h0 (T := TX5) (N := 3) rfl (by decide) rfl (Nat.le_of_ble_eq_true rfl) dX5_setting_113 ⟨Nat.zero_le _, Nat.zero_le _⟩ rfl) (fun r18 σ17 hw => ?_)
          refine z_istore_n (lv' := [(2, .int r18), (0, .ref (za Y t0)), (1, .ref (za Y t1))]) hG dX5_setting_116 rfl (by decide) rfl ?_
          refine z_aload_n hG dX5_setting_117 rfl 2 rfl ?_
          refine z_aload_n hG dX5_setting_118 rfl 1 rfl ?_
          refine z_geti hG f_X5_94 h0 rfl dX5_setting_119 ?_
          refine z_topi (fun x19 ex19 => ?_)
          have hw := hw x19 ex19
          refine z_puti hG f_X5_112 h1 rfl rfl (zN_int _) dX5_setting_122 ?_
          refine z_topσ (fun σ20 eσ20 => ?_)
          have hw := hw σ20 eσ20
          refine z_iload_n hG dX5_setting_125 rfl 0 rfl ?_
          obtain ⟨q21, hw⟩ := hw
          exact z_iret hG rfl (zN_b q21).1 dX5_setting_126 hw
      · have hw := hw.2 c28
        refine z_aload_n hG dX5_setting_77 rfl 1 rfl ?_
        refine z_iconst (v := 1) hG dX5_setting_78 (by decide) ?_
        refine z_sipush (v := 5000) hG dX5_setting_79 (by decide) ?_
        refine z_calli hG (z_runV (As := [.int 1, .int 5000]) (st := []) hG k_X5_90 (MX5_takeNumber l h0 hw) ⟨(Nat.le_of_ble_eq_true rfl), (Nat.le_of_ble_eq_true rfl)⟩ h0 (T := TX5) (N := 3) rfl (by decide) rfl (Nat.le_of_ble_eq_true rfl) dX5_setting_82 ⟨Nat.zero_le _, Nat.zero_le _⟩ rfl) (fun r24 σ23 hw => ?_)
        refine z_istore_n (lv' := [(2, .int r24), (0, .ref (za Y t0)), (1, .ref (za Y t1))]) hG dX5_setting_85 rfl (by decide) rfl ?_
        refine z_aload_n hG dX5_setting_86 rfl 2 rfl ?_
        refine z_aload_n hG dX5_setting_87 rfl 1 rfl ?_
        refine z_geti hG f_X5_94 h0 rfl dX5_setting_88 ?_
        refine z_topi (fun x25 ex25 => ?_)
        have hw := hw x25 ex25
        refine z_puti hG f_X5_108 h1 rfl rfl (zN_int _) dX5_setting_91 ?_
        refine z_topσ (fun σ26 eσ26 => ?_)
        have hw := hw σ26 eσ26
        refine z_goto (tgt := 125) hG dX5_setting_94 (by decide) ?_
        refine z_iload_n hG dX5_setting_125 rfl 0 rfl ?_
        obtain ⟨q27, hw⟩ := hw
        exact z_iret hG rfl (zN_b q27).1 dX5_setting_126 hw
    · have hw := hw.2 c34
      refine z_aload_n hG dX5_setting_45 rfl 1 rfl ?_
      refine z_iconst (v := 0) hG dX5_setting_46 (by decide) ?_
      refine z_sipush (v := 500) hG dX5_setting_47 (by decide) ?_
      refine z_calli hG (z_runV (As := [.int 0, .int 500]) (st := []) hG k_X5_90 (MX5_takeNumber l h0 hw) ⟨(Nat.le_of_ble_eq_true rfl), (Nat.le_of_ble_eq_true rfl)⟩ h0 (T := TX5) (N := 3) rfl (by decide) rfl (Nat.le_of_ble_eq_true rfl) dX5_setting_50 ⟨Nat.zero_le _, Nat.zero_le _⟩ rfl) (fun r30 σ29 hw => ?_)
      refine z_istore_n (lv' := [(2, .int r30), (0, .ref (za Y t0)), (1, .ref (za Y t1))]) hG dX5_setting_53 rfl (by decide) rfl ?_
      refine z_aload_n hG dX5_setting_54 rfl 2 rfl ?_
      refine z_aload_n hG dX5_setting_55 rfl 1 rfl ?_
      refine z_geti hG f_X5_94 h0 rfl dX5_setting_56 ?_
      refine z_topi (fun x31 ex31 => ?_)
      have hw := hw x31 ex31
      refine z_puti hG f_X5_103 h1 rfl rfl (zN_int _) dX5_setting_59 ?_
      refine z_topσ (fun σ32 eσ32 => ?_)
      have hw := hw σ32 eσ32
      refine z_goto (tgt := 125) hG dX5_setting_62 (by decide) ?_
      refine z_iload_n hG dX5_setting_125 rfl 0 rfl ?_
      obtain ⟨q33, hw⟩ := hw
      exact z_iret hG rfl (zN_b q33).1 dX5_setting_126 hw
  · have hw := hw.2 c40
    refine z_aload_n hG dX5_setting_14 rfl 1 rfl ?_
    refine z_iconst (v := 1) hG dX5_setting_15 (by decide) ?_
    refine z_bipush (v := 50) hG dX5_setting_16 (by decide) ?_
    refine z_calli hG (z_runV (As := [.int 1, .int 50]) (st := []) hG k_X5_90 (MX5_takeNumber l h0 hw) ⟨(Nat.le_of_ble_eq_true rfl), (Nat.le_of_ble_eq_true rfl)⟩ h0 (T := TX5) (N := 3) rfl (by decide) rfl (Nat.le_of_ble_eq_true rfl) dX5_setting_18 ⟨Nat.zero_le _, Nat.zero_le _⟩ rfl) (fun r36 σ35 hw => ?_)
    refine z_istore_n (lv' := [(2, .int r36), (0, .ref (za Y t0)), (1, .ref (za Y t1))]) hG dX5_setting_21 rfl (by decide) rfl ?_
    refine z_aload_n hG dX5_setting_22 rfl 2 rfl ?_
    refine z_aload_n hG dX5_setting_23 rfl 1 rfl ?_
    refine z_geti hG f_X5_94 h0 rfl dX5_setting_24 ?_
    refine z_topi (fun x37 ex37 => ?_)
    have hw := hw x37 ex37
    refine z_puti hG f_X5_99 h1 rfl rfl (zN_int _) dX5_setting_27 ?_
    refine z_topσ (fun σ38 eσ38 => ?_)
    have hw := hw σ38 eσ38
    refine z_goto (tgt := 125) hG dX5_setting_30 (by decide) ?_
    refine z_iload_n hG dX5_setting_125 rfl 0 rfl ?_
    obtain ⟨q39, hw⟩ := hw
    exact z_iret hG rfl (zN_b q39).1 dX5_setting_126 hw
-- TypeWheelTelegraph$Parser.statement(LTypeWheelTelegraph$Plan;Z)Z
def wX5_statement_99 (ln : Nat → Nat) (Q : Int32 → zS → Prop) (t0 : Nat) (v3 : Int32) (σ : zS) : Prop := ((v3 = 0 → Q 0 σ) ∧ (¬ v3 = 0 → wX5_takeSemicolon ln σ t0 (fun r2 σ1 => ((r2 = 0 → Q 0 σ1) ∧ (¬ r2 = 0 → Q 1 σ1)))))
def wX5_statement (ln : Nat → Nat) (σ : zS) (t0 : Nat) (t1 : Nat) (v2 : Int32) (Q : Int32 → zS → Prop) : Prop := ∃ j1 : Nat, gr σ t0 0 = some j1 ∧ wX10_isWord ln σ j1 2 (fun r4 σ3 => ((r4 = 0 → ∃ j5 : Nat, gr σ3 t0 0 = some j5 ∧ wX10_isWord ln σ3 j5 3 (fun r8 σ7 => ((r8 = 0 → ∃ j9 : Nat, gr σ7 t0 0 = some j9 ∧ wX10_isWord ln σ7 j9 4 (fun r12 σ11 => ((r12 = 0 → ∃ j13 : Nat, gr σ11 t0 0 = some j13 ∧ wX10_isWord ln σ11 j13 5 (fun r16 σ15 => ((r16 = 0 → wX5_setting ln σ15 t0 t1 (fun r18 σ17 => wX5_statement_99 ln Q t0 r18 σ17)) ∧ (¬ r16 = 0 → wX5_loss ln σ15 t0 t1 (fun r20 σ19 => wX5_statement_99 ln Q t0 r20 σ19))))) ∧ (¬ r12 = 0 → wX5_office ln σ11 t0 t1 (fun r23 σ22 => wX5_statement_99 ln Q t0 r23 σ22))))) ∧ (¬ r8 = 0 → ((v2 = 0 → wX5_statement_99 ln Q t0 0 σ7) ∧ (¬ v2 = 0 → wX5_wheel ln σ7 t0 t1 (fun r26 σ25 => ((r26 = 0 → wX5_statement_99 ln Q t0 0 σ25) ∧ (¬ r26 = 0 → wX5_statement_99 ln Q t0 1 σ25))))))))) ∧ (¬ r4 = 0 → wX5_message ln σ3 t0 t1 (fun r31 σ30 => zB1 r31 ∧ Q r31 σ30))))
abbrev rX5_statement : Room := { frames := 6, cells := 0, slots := 0, locals := 129 }
set_option maxRecDepth 100000 in
set_option maxHeartbeats 4000000 in
theorem BX5_statement_99 {l : Launch} {E : zE} {Y : zY} {p : Program} {e : Env} {s : State} {m : MethodId} {args : Array Value} {below : List Frame} {meth : Method} {c : Code} (hG : zG E p l s m args meth c cX5_statement 4 RX5 (some .boolean) (zA Y s.heap.size)) {Q : Int32 → zS → Prop} : ∀ (t0 : Nat) (v3 : Int32) (σ : zS), wX5_statement_99 (zln Y) Q t0 v3 σ → zT Y 5 t0 → WW E Y σ p l e rX5_statement s m args below meth c (zA Y s.heap.size) 4 0 0 (MQ below (va_Qi Q (zB E Y s.heap.size) (zA Y s.heap.size)) args s 0 0 (zA Y s.heap.size)) [(0, .ref (za Y t0)), (3, .int v3)] 99 [] := by
  intro t0 v3 σ hw h0
  unfold wX5_statement_99 at hw
  refine z_iload_n hG dX5_statement_99 rfl 1 rfl ?_
  refine z_if_eq (tgt := 114) hG dX5_statement_100 (by decide) (fun c4 => ?_) (fun c4 => ?_)
  · have hw := hw.1 c4
    refine z_iconst (v := 0) hG dX5_statement_114 (by decide) ?_
    exact z_iret hG rfl (by decide +kernel) dX5_statement_115 hw
  · have hw := hw.2 c4
    refine z_aload_n hG dX5_statement_103 rfl 0 rfl ?_
    refine z_calli hG (z_runV (As := []) (st := []) hG k_X5_86 (MX5_takeSemicolon l h0 hw) ⟨(Nat.le_of_ble_eq_true rfl), (Nat.le_of_ble_eq_true rfl)⟩ h0 (T := TX5) (N := 3) rfl (by decide) rfl (Nat.le_of_ble_eq_true rfl) dX5_statement_104 ⟨Nat.zero_le _, Nat.zero_le _⟩ rfl) (fun r2 σ1 hw => ?_)
    refine z_if_eq (tgt := 114) hG dX5_statement_107 (by decide) (fun c3 => ?_) (fun c3 => ?_)
    · have hw := hw.1 c3
      refine z_iconst (v := 0) hG dX5_statement_114 (by decide) ?_
      exact z_iret hG rfl (by decide +kernel) dX5_statement_115 hw
    · have hw := hw.2 c3
      refine z_iconst (v := 1) hG dX5_statement_110 (by decide) ?_
      refine z_goto (tgt := 115) hG dX5_statement_111 (by decide) ?_
      exact z_iret hG rfl (by decide +kernel) dX5_statement_115 hw
set_option maxRecDepth 100000 in
set_option maxHeartbeats 4000000 in
theorem MX5_statement (l : Launch) {E : zE} {Y : zY} {σ : zS} {t0 : Nat} {t1 : Nat} {v2 : Int32} (h0 : zT Y 5 t0) (h1 : zT Y 6 t1) {Q : Int32 → zS → Prop} (hw : wX5_statement (zln Y) σ t0 t1 v2 Q) : ∀ sz, Met l yX5_statement (zw yX5_statement cX5_statement 4 (some .boolean)) rX5_statement (zPc E Y σ sz [.ref (za Y t0), .ref (za Y t1), .int v2]) (va_Qi Q (zB E Y sz) (zA Y sz)) 0 0 (zA Y sz) := by
  refine z_met (own := RX5) (Qc := fun sz => va_Qi Q (zB E Y sz) (zA Y sz)) (by decide +kernel) rfl (Nat.le_of_ble_eq_true rfl) ?_
  intro p e s m args below meth c hG hinit
  unfold wX5_statement at hw
  refine zlv (lv' := [(0, .ref (za Y t0)), (1, .ref (za Y t1)), (2, .int v2)]) rfl ?_
  refine z_aload_n hG dX5_statement_0 rfl 0 rfl ?_
  obtain ⟨j1, ej1, hw⟩ := hw
  refine z_getr (kq := 10) hG f_X5_14 h0 rfl ej1 rfl (by decide) dX5_statement_1 (fun hj1 => ?_)
  refine z_ldcs (i := 2) (tx := "message") hG (by decide +kernel) dX5_statement_4 ?_
  have hq2 : 2 < zS_n := by decide
  refine z_calli hG (z_runV (As := [.ref (E.2.2.1 2)]) (st := []) hG k_X5_63 (MX10_isWord l hj1 hq2 hw) ⟨(Nat.le_of_ble_eq_true rfl), (Nat.le_of_ble_eq_true rfl)⟩ hj1 (T := TX10) (N := 4) rfl (by decide) rfl (Nat.le_of_ble_eq_true rfl) dX5_statement_6 ⟨Nat.zero_le _, Nat.zero_le _⟩ rfl) (fun r4 σ3 hw => ?_)
  refine z_if_eq (tgt := 18) hG dX5_statement_9 (by decide) (fun c33 => ?_) (fun c33 => ?_)
  · have hw := hw.1 c33
    refine z_aload_n hG dX5_statement_18 rfl 0 rfl ?_
    obtain ⟨j5, ej5, hw⟩ := hw
    refine z_getr (kq := 10) hG f_X5_14 h0 rfl ej5 rfl (by decide) dX5_statement_19 (fun hj5 => ?_)
    refine z_ldcs (i := 3) (tx := "wheel") hG (by decide +kernel) dX5_statement_22 ?_
    have hq6 : 3 < zS_n := by decide
    refine z_calli hG (z_runV (As := [.ref (E.2.2.1 3)]) (st := []) hG k_X5_63 (MX10_isWord l hj5 hq6 hw) ⟨(Nat.le_of_ble_eq_true rfl), (Nat.le_of_ble_eq_true rfl)⟩ hj5 (T := TX10) (N := 4) rfl (by decide) rfl (Nat.le_of_ble_eq_true rfl) dX5_statement_24 ⟨Nat.zero_le _, Nat.zero_le _⟩ rfl) (fun r8 σ7 hw => ?_)
    refine z_if_eq (tgt := 51) hG dX5_statement_27 (by decide) (fun c29 => ?_) (fun c29 => ?_)
    · have hw := hw.1 c29
      refine z_aload_n hG dX5_statement_51 rfl 0 rfl ?_
      obtain ⟨j9, ej9, hw⟩ := hw
      refine z_getr (kq := 10) hG f_X5_14 h0 rfl ej9 rfl (by decide) dX5_statement_52 (fun hj9 => ?_)
      refine z_ldcs (i := 4) (tx := "office") hG (by decide +kernel) dX5_statement_55 ?_
      have hq10 : 4 < zS_n := by decide
      refine z_calli hG (z_runV (As := [.ref (E.2.2.1 4)]) (st := []) hG k_X5_63 (MX10_isWord l hj9 hq10 hw) ⟨(Nat.le_of_ble_eq_true rfl), (Nat.le_of_ble_eq_true rfl)⟩ hj9 (T := TX10) (N := 4) rfl (by decide) rfl (Nat.le_of_ble_eq_true rfl) dX5_statement_57 ⟨Nat.zero_le _, Nat.zero_le _⟩ rfl) (fun r12 σ11 hw => ?_)
      refine z_if_eq (tgt := 72) hG dX5_statement_60 (by decide) (fun c24 => ?_) (fun c24 => ?_)
      · have hw := hw.1 c24
        refine z_aload_n hG dX5_statement_72 rfl 0 rfl ?_
        obtain ⟨j13, ej13, hw⟩ := hw
        refine z_getr (kq := 10) hG f_X5_14 h0 rfl ej13 rfl (by decide) dX5_statement_73 (fun hj13 => ?_)
        refine z_ldcs (i := 5) (tx := "lose") hG (by decide +kernel) dX5_statement_76 ?_
        have hq14 : 5 < zS_n := by decide
        refine z_calli hG (z_runV (As := [.ref (E.2.2.1 5)]) (st := []) hG k_X5_63 (MX10_isWord l hj13 hq14 hw) ⟨(Nat.le_of_ble_eq_true rfl), (Nat.le_of_ble_eq_true rfl)⟩ hj13 (T := TX10) (N := 4) rfl (by decide) rfl (Nat.le_of_ble_eq_true rfl) dX5_statement_78 ⟨Nat.zero_le _, Nat.zero_le _⟩ rfl) (fun r16 σ15 hw => ?_)
        refine z_if_eq (tgt := 93) hG dX5_statement_81 (by decide) (fun c21 => ?_) (fun c21 => ?_)
        · have hw := hw.1 c21
          refine z_aload_n hG dX5_statement_93 rfl 0 rfl ?_
          refine z_aload_n hG dX5_statement_94 rfl 1 rfl ?_
          refine z_calli hG (z_runV (As := [.ref (za Y t1)]) (st := []) hG k_X5_83 (MX5_setting l h0 h1 hw) ⟨(Nat.le_of_ble_eq_true rfl), (Nat.le_of_ble_eq_true rfl)⟩ h0 (T := TX5) (N := 3) rfl (by decide) rfl (Nat.le_of_ble_eq_true rfl) dX5_statement_95 ⟨Nat.zero_le _, Nat.zero_le _⟩ rfl) (fun r18 σ17 hw => ?_)
          refine z_istore_n (lv' := [(3, .int r18), (0, .ref (za Y t0)), (1, .ref (za Y t1)), (2, .int v2)]) hG dX5_statement_98 rfl (by decide) rfl ?_
          refine zpick [1, 0] (lv' := [(0, .ref (za Y t0)), (3, .int r18)]) rfl ?_
          exact BX5_statement_99 hG t0 r18 σ17 hw h0
        · have hw := hw.2 c21
          refine z_aload_n hG dX5_statement_84 rfl 0 rfl ?_
          refine z_aload_n hG dX5_statement_85 rfl 1 rfl ?_
          refine z_calli hG (z_runV (As := [.ref (za Y t1)]) (st := []) hG k_X5_80 (MX5_loss l h0 h1 hw) ⟨(Nat.le_of_ble_eq_true rfl), (Nat.le_of_ble_eq_true rfl)⟩ h0 (T := TX5) (N := 3) rfl (by decide) rfl (Nat.le_of_ble_eq_true rfl) dX5_statement_86 ⟨Nat.zero_le _, Nat.zero_le _⟩ rfl) (fun r20 σ19 hw => ?_)
          refine z_istore_n (lv' := [(3, .int r20), (0, .ref (za Y t0)), (1, .ref (za Y t1)), (2, .int v2)]) hG dX5_statement_89 rfl (by decide) rfl ?_
          refine z_goto (tgt := 99) hG dX5_statement_90 (by decide) ?_
          refine zpick [1, 0] (lv' := [(0, .ref (za Y t0)), (3, .int r20)]) rfl ?_
          exact BX5_statement_99 hG t0 r20 σ19 hw h0
      · have hw := hw.2 c24
        refine z_aload_n hG dX5_statement_63 rfl 0 rfl ?_
        refine z_aload_n hG dX5_statement_64 rfl 1 rfl ?_
        refine z_calli hG (z_runV (As := [.ref (za Y t1)]) (st := []) hG k_X5_76 (MX5_office l h0 h1 hw) ⟨(Nat.le_of_ble_eq_true rfl), (Nat.le_of_ble_eq_true rfl)⟩ h0 (T := TX5) (N := 3) rfl (by decide) rfl (Nat.le_of_ble_eq_true rfl) dX5_statement_65 ⟨Nat.zero_le _, Nat.zero_le _⟩ rfl) (fun r23 σ22 hw => ?_)
        refine z_istore_n (lv' := [(3, .int r23), (0, .ref (za Y t0)), (1, .ref (za Y t1)), (2, .int v2)]) hG dX5_statement_68 rfl (by decide) rfl ?_
        refine z_goto (tgt := 99) hG dX5_statement_69 (by decide) ?_
        refine zpick [1, 0] (lv' := [(0, .ref (za Y t0)), (3, .int r23)]) rfl ?_
        exact BX5_statement_99 hG t0 r23 σ22 hw h0
    · have hw := hw.2 c29
      refine z_iload_n hG dX5_statement_30 rfl 2 rfl ?_
      refine z_if_eq (tgt := 46) hG dX5_statement_31 (by decide) (fun c28 => ?_) (fun c28 => ?_)
      · have hw := hw.1 c28
        refine z_iconst (v := 0) hG dX5_statement_46 (by decide) ?_
        refine z_istore_n (lv' := [(3, .int 0), (0, .ref (za Y t0)), (1, .ref (za Y t1)), (2, .int v2)]) hG dX5_statement_47 rfl (by decide) rfl ?_
        refine z_goto (tgt := 99) hG dX5_statement_48 (by decide) ?_
        refine zpick [1, 0] (lv' := [(0, .ref (za Y t0)), (3, .int 0)]) rfl ?_
        exact BX5_statement_99 hG t0 0 σ7 hw h0
      · have hw := hw.2 c28
        refine z_aload_n hG dX5_statement_34 rfl 0 rfl ?_
        refine z_aload_n hG dX5_statement_35 rfl 1 rfl ?_
        refine z_calli hG (z_runV (As := [.ref (za Y t1)]) (st := []) hG k_X5_72 (MX5_wheel l h0 h1 hw) ⟨(Nat.le_of_ble_eq_true rfl), (Nat.le_of_ble_eq_true rfl)⟩ h0 (T := TX5) (N := 3) rfl (by decide) rfl (Nat.le_of_ble_eq_true rfl) dX5_statement_36 ⟨Nat.zero_le _, Nat.zero_le _⟩ rfl) (fun r26 σ25 hw => ?_)
        refine z_if_eq (tgt := 46) hG dX5_statement_39 (by decide) (fun c27 => ?_) (fun c27 => ?_)
        · have hw := hw.1 c27
          refine z_iconst (v := 0) hG dX5_statement_46 (by decide) ?_
          refine z_istore_n (lv' := [(3, .int 0), (0, .ref (za Y t0)), (1, .ref (za Y t1)), (2, .int v2)]) hG dX5_statement_47 rfl (by decide) rfl ?_
          refine z_goto (tgt := 99) hG dX5_statement_48 (by decide) ?_
          refine zpick [1, 0] (lv' := [(0, .ref (za Y t0)), (3, .int 0)]) rfl ?_
          exact BX5_statement_99 hG t0 0 σ25 hw h0
        · have hw := hw.2 c27
          refine z_iconst (v := 1) hG dX5_statement_42 (by decide) ?_
          refine z_goto (tgt := 47) hG dX5_statement_43 (by decide) ?_
          refine z_istore_n (lv' := [(3, .int 1), (0, .ref (za Y t0)), (1, .ref (za Y t1)), (2, .int v2)]) hG dX5_statement_47 rfl (by decide) rfl ?_
          refine z_goto (tgt := 99) hG dX5_statement_48 (by decide) ?_
          refine zpick [1, 0] (lv' := [(0, .ref (za Y t0)), (3, .int 1)]) rfl ?_
          exact BX5_statement_99 hG t0 1 σ25 hw h0
  · have hw := hw.2 c33
    refine z_aload_n hG dX5_statement_12 rfl 0 rfl ?_
    refine z_aload_n hG dX5_statement_13 rfl 1 rfl ?_
    refine z_calli hG (z_runV (As := [.ref (za Y t1)]) (st := []) hG k_X5_67 (MX5_message l h0 h1 hw) ⟨(Nat.le_of_ble_eq_true rfl), (Nat.le_of_ble_eq_true rfl)⟩ h0 (T := TX5) (N := 3) rfl (by decide) rfl (Nat.le_of_ble_eq_true rfl) dX5_statement_14 ⟨Nat.zero_le _, Nat.zero_le _⟩ rfl) (fun r31 σ30 hw => ?_)
    obtain ⟨q32, hw⟩ := hw
    exact z_iret hG rfl (zN_b q32).1 dX5_statement_17 hw
-- TypeWheelTelegraph$Parser.read(LTypeWheelTelegraph$Plan;)I
def wX5_read_75 (ln : Nat → Nat) (Q : Int32 → zS → Prop) (t1 : Nat) (σ : zS) : Prop := ∃ j1 : Nat, gr σ t1 6 = some j1 ∧ ∀ x2 : Int32, x2 = gi σ t1 0 → wX0_encodeLines ln σ j1 x2 (fun σ3 => ∃ j4 : Nat, gr σ3 t1 7 = some j4 ∧ ∀ x5 : Int32, x5 = gi σ3 t1 0 → wX0_encodeLines ln σ3 j4 x5 (fun σ6 => Q (-1) σ6))
def wX5_read_44 (ln : Nat → Nat) (Q : Int32 → zS → Prop) (kb18 : Nat → Nat → Int32 → zS → Prop) (t0 : Nat) (t1 : Nat) (v2 : Int32) (vw0 : Int32) (σ : zS) : Prop := wX5_statement ln σ t0 t1 vw0 (fun r2 σ1 => ((r2 = 0 → ∃ j6 : Nat, gr σ1 t0 0 = some j6 ∧ Q (gi σ1 j6 1) σ1) ∧ (¬ r2 = 0 → ∃ j3 : Nat, gr σ1 t0 0 = some j3 ∧ wX10_take ln σ1 j3 (fun σ4 => ∀ x5 : Int32, x5 = v2 + 1 → kb18 t0 t1 x5 σ4))))
def wX5_read_18 (ln : Nat → Nat) (Q : Int32 → zS → Prop) : Nat → Nat → Nat → Int32 → zS → Prop
  | 0, _, _, _, _ => False
  | n + 1, t0, t1, v2, σ => ((600 ≤ v2 → wX5_read_75 ln Q t1 σ) ∧ (¬ 600 ≤ v2 → ∃ j1 : Nat, gr σ t0 0 = some j1 ∧ (((gi σ j1 0) = 0 → wX5_read_75 ln Q t1 σ) ∧ (¬ (gi σ j1 0) = 0 → ((v2 = 0 → wX5_read_44 ln Q (wX5_read_18 ln Q n) t0 t1 v2 1 σ) ∧ (¬ v2 = 0 → wX5_read_44 ln Q (wX5_read_18 ln Q n) t0 t1 v2 0 σ))))))
def wX5_read (ln : Nat → Nat) (σ : zS) (t0 : Nat) (t1 : Nat) (Q : Int32 → zS → Prop) : Prop := wX6_reset ln σ t1 (fun σ1 => ∀ σ2 : zS, σ2 = si σ1 t0 1 0 → ∃ j3 : Nat, gr σ2 t0 0 = some j3 ∧ wX10_begin ln σ2 j3 (fun σ4 => ∃ n5 : Nat, wX5_read_18 ln Q n5 t0 t1 0 σ4))
abbrev rX5_read : Room := { frames := 7, cells := 0, slots := 0, locals := 152 }
set_option maxRecDepth 100000 in
set_option maxHeartbeats 4000000 in
theorem BX5_read_75 {l : Launch} {E : zE} {Y : zY} {p : Program} {e : Env} {s : State} {m : MethodId} {args : Array Value} {below : List Frame} {meth : Method} {c : Code} (hG : zG E p l s m args meth c cX5_read 4 RX5 (some .int) (zA Y s.heap.size)) {Q : Int32 → zS → Prop} : ∀ (t1 : Nat) (σ : zS), wX5_read_75 (zln Y) Q t1 σ → zT Y 6 t1 → WW E Y σ p l e rX5_read s m args below meth c (zA Y s.heap.size) 4 0 0 (MQ below (va_Qi Q (zB E Y s.heap.size) (zA Y s.heap.size)) args s 0 0 (zA Y s.heap.size)) [(1, .ref (za Y t1))] 75 [] := by
  intro t1 σ hw h1
  unfold wX5_read_75 at hw
  refine z_aload_n hG dX5_read_75 rfl 0 rfl ?_
  obtain ⟨j1, ej1, hw⟩ := hw
  refine z_getr (kq := 0) hG f_X5_45 h1 rfl ej1 rfl (by decide) dX5_read_76 (fun hj1 => ?_)
  refine z_aload_n hG dX5_read_79 rfl 0 rfl ?_
  refine z_geti hG f_X5_49 h1 rfl dX5_read_80 ?_
  refine z_topi (fun x2 ex2 => ?_)
  have hw := hw x2 ex2
  refine z_callv hG (z_runV (As := [.int x2]) (st := []) hG k_X5_52 (MX0_encodeLines l hj1 hw) ⟨(Nat.le_of_ble_eq_true rfl), (Nat.le_of_ble_eq_true rfl)⟩ hj1 (T := TX0) (N := 4) rfl (by decide) rfl (Nat.le_of_ble_eq_true rfl) dX5_read_83 ⟨Nat.zero_le _, Nat.zero_le _⟩ rfl) (fun σ3 hw => ?_)
  refine z_aload_n hG dX5_read_86 rfl 0 rfl ?_
  obtain ⟨j4, ej4, hw⟩ := hw
  refine z_getr (kq := 0) hG f_X5_58 h1 rfl ej4 rfl (by decide) dX5_read_87 (fun hj4 => ?_)
  refine z_aload_n hG dX5_read_90 rfl 0 rfl ?_
  refine z_geti hG f_X5_49 h1 rfl dX5_read_91 ?_
  refine z_topi (fun x5 ex5 => ?_)
  have hw := hw x5 ex5
  refine z_callv hG (z_runV (As := [.int x5]) (st := []) hG k_X5_52 (MX0_encodeLines l hj4 hw) ⟨(Nat.le_of_ble_eq_true rfl), (Nat.le_of_ble_eq_true rfl)⟩ hj4 (T := TX0) (N := 4) rfl (by decide) rfl (Nat.le_of_ble_eq_true rfl) dX5_read_94 ⟨Nat.zero_le _, Nat.zero_le _⟩ rfl) (fun σ6 hw => ?_)
  refine z_iconst (v := (-1)) hG dX5_read_97 (by decide) ?_
  exact z_iret hG rfl rfl dX5_read_98 hw
set_option maxRecDepth 100000 in
set_option maxHeartbeats 4000000 in
theorem BX5_read_44 {l : Launch} {E : zE} {Y : zY} {p : Program} {e : Env} {s : State} {m : MethodId} {args : Array Value} {below : List Frame} {meth : Method} {c : Code} (hG : zG E p l s m args meth c cX5_read 4 RX5 (some .int) (zA Y s.heap.size)) {Q : Int32 → zS → Prop} {kb18 : Nat → Nat → Int32 → zS → Prop} (hkb18 : ∀ (t0 : Nat) (t1 : Nat) (v2 : Int32) (σ : zS), kb18 t0 t1 v2 σ → zT Y 5 t0 → zT Y 6 t1 → WW E Y σ p l e rX5_read s m args below meth c (zA Y s.heap.size) 4 0 0 (MQ below (va_Qi Q (zB E Y s.heap.size) (zA Y s.heap.size)) args s 0 0 (zA Y s.heap.size)) [(0, .ref (za Y t0)), (1, .ref (za Y t1)), (2, .int v2)] 18 []) : ∀ (t0 : Nat) (t1 : Nat) (v2 : Int32) (vw0 : Int32) (σ : zS), wX5_read_44 (zln Y) Q kb18 t0 t1 v2 vw0 σ → zT Y 5 t0 → zT Y 6 t1 → WW E Y σ p l e rX5_read s m args below meth c (zA Y s.heap.size) 4 0 0 (MQ below (va_Qi Q (zB E Y s.heap.size) (zA Y s.heap.size)) args s 0 0 (zA Y s.heap.size)) [(0, .ref (za Y t0)), (1, .ref (za Y t1)), (2, .int v2)] 44 [.int vw0] := by
  intro t0 t1 v2 vw0 σ hw h0 h1
  unfold wX5_read_44 at hw
  refine z_istore_n (lv' := [(3, .int vw0), (0, .ref (za Y t0)), (1, .ref (za Y t1)), (2, .int v2)]) hG dX5_read_44 rfl (by decide) rfl ?_
  refine z_aload_n hG dX5_read_45 rfl 1 rfl ?_
  refine z_aload_n hG dX5_read_46 rfl 2 rfl ?_
  refine z_iload_n hG dX5_read_47 rfl 0 rfl ?_
  refine z_calli hG (z_runV (As := [.ref (za Y t1), .int vw0]) (st := []) hG k_X5_35 (MX5_statement l h0 h1 hw) ⟨(Nat.le_of_ble_eq_true rfl), (Nat.le_of_ble_eq_true rfl)⟩ h0 (T := TX5) (N := 3) rfl (by decide) rfl (Nat.le_of_ble_eq_true rfl) dX5_read_48 ⟨Nat.zero_le _, Nat.zero_le _⟩ rfl) (fun r2 σ1 hw => ?_)
  refine z_if_ne (tgt := 62) hG dX5_read_51 (by decide) (fun c7 => ?_) (fun c7 => ?_)
  · have hw := hw.2 c7
    refine z_aload_n hG dX5_read_62 rfl 1 rfl ?_
    obtain ⟨j3, ej3, hw⟩ := hw
    refine z_getr (kq := 10) hG f_X5_14 h0 rfl ej3 rfl (by decide) dX5_read_63 (fun hj3 => ?_)
    refine z_callv hG (z_runV (As := []) (st := []) hG k_X5_42 (MX10_take l hj3 hw) ⟨(Nat.le_of_ble_eq_true rfl), (Nat.le_of_ble_eq_true rfl)⟩ hj3 (T := TX10) (N := 4) rfl (by decide) rfl (Nat.le_of_ble_eq_true rfl) dX5_read_66 ⟨Nat.zero_le _, Nat.zero_le _⟩ rfl) (fun σ4 hw => ?_)
    obtain ⟨x5, ex5⟩ : ∃ y : Int32, y = v2 + 1 := ⟨_, rfl⟩
    have hw := hw x5 ex5
    refine z_iinc (v := x5) (lv' := [(2, .int x5), (3, .int vw0), (0, .ref (za Y t0)), (1, .ref (za Y t1))]) hG dX5_read_69 3 rfl (by rw [ex5]; rfl) (by decide) rfl ?_
    refine z_goto (tgt := 18) hG dX5_read_72 (by decide) ?_
    refine zpick [2, 3, 0] (lv' := [(0, .ref (za Y t0)), (1, .ref (za Y t1)), (2, .int x5)]) rfl ?_
    exact hkb18 t0 t1 x5 σ4 hw h0 h1
  · have hw := hw.1 c7
    refine z_aload_n hG dX5_read_54 rfl 1 rfl ?_
    obtain ⟨j6, ej6, hw⟩ := hw
    refine z_getr (kq := 10) hG f_X5_14 h0 rfl ej6 rfl (by decide) dX5_read_55 (fun hj6 => ?_)
    refine z_geti hG f_X5_39 hj6 rfl dX5_read_58 ?_
    exact z_iret hG rfl rfl dX5_read_61 hw
set_option maxRecDepth 100000 in
set_option maxHeartbeats 4000000 in
theorem BX5_read_18 {l : Launch} {E : zE} {Y : zY} {p : Program} {e : Env} {s : State} {m : MethodId} {args : Array Value} {below : List Frame} {meth : Method} {c : Code} (hG : zG E p l s m args meth c cX5_read 4 RX5 (some .int) (zA Y s.heap.size)) {Q : Int32 → zS → Prop} : ∀ (n : Nat) (t0 : Nat) (t1 : Nat) (v2 : Int32) (σ : zS), wX5_read_18 (zln Y) Q n t0 t1 v2 σ → zT Y 5 t0 → zT Y 6 t1 → WW E Y σ p l e rX5_read s m args below meth c (zA Y s.heap.size) 4 0 0 (MQ below (va_Qi Q (zB E Y s.heap.size) (zA Y s.heap.size)) args s 0 0 (zA Y s.heap.size)) [(0, .ref (za Y t0)), (1, .ref (za Y t1)), (2, .int v2)] 18 [] := by
  intro n
  induction n with
  | zero => intro t0 t1 v2 σ hw
            exact hw.elim
  | succ n ih =>
    intro t0 t1 v2 σ hw h0 h1
    rw [wX5_read_18] at hw
    refine z_iload_n hG dX5_read_18 rfl 2 rfl ?_
    refine z_sipush (v := 600) hG dX5_read_19 (by decide) ?_
    refine z_icmp_ge (tgt := 75) hG dX5_read_22 (by decide) (fun c4 => ?_) (fun c4 => ?_)
    · have hw := hw.1 c4
      refine zpick [1] (lv' := [(1, .ref (za Y t1))]) rfl ?_
      exact BX5_read_75 hG t1 σ hw h1
    · have hw := hw.2 c4
      refine z_aload_n hG dX5_read_25 rfl 0 rfl ?_
      obtain ⟨j1, ej1, hw⟩ := hw
      refine z_getr (kq := 10) hG f_X5_14 h0 rfl ej1 rfl (by decide) dX5_read_26 (fun hj1 => ?_)
      refine z_geti hG f_X5_32 hj1 rfl dX5_read_29 ?_
      refine z_if_eq (tgt := 75) hG dX5_read_32 (by decide) (fun c3 => ?_) (fun c3 => ?_)
      · have hw := hw.1 c3
        refine zpick [1] (lv' := [(1, .ref (za Y t1))]) rfl ?_
        exact BX5_read_75 hG t1 σ hw h1
      · have hw := hw.2 c3
        refine z_iload_n hG dX5_read_35 rfl 2 rfl ?_
        refine z_if_ne (tgt := 43) hG dX5_read_36 (by decide) (fun c2 => ?_) (fun c2 => ?_)
        · have hw := hw.2 c2
          refine z_iconst (v := 0) hG dX5_read_43 (by decide) ?_
          refine zpick [0, 1, 2] (lv' := [(0, .ref (za Y t0)), (1, .ref (za Y t1)), (2, .int v2)]) rfl ?_
          exact BX5_read_44 hG ih t0 t1 v2 0 σ hw h0 h1
        · have hw := hw.1 c2
          refine z_iconst (v := 1) hG dX5_read_39 (by decide) ?_
          refine z_goto (tgt := 44) hG dX5_read_40 (by decide) ?_
          refine zpick [0, 1, 2] (lv' := [(0, .ref (za Y t0)), (1, .ref (za Y t1)), (2, .int v2)]) rfl ?_
          exact BX5_read_44 hG ih t0 t1 v2 1 σ hw h0 h1
set_option maxRecDepth 100000 in
set_option maxHeartbeats 4000000 in
theorem MX5_read (l : Launch) {E : zE} {Y : zY} {σ : zS} {t0 : Nat} {t1 : Nat} (h0 : zT Y 5 t0) (h1 : zT Y 6 t1) {Q : Int32 → zS → Prop} (hw : wX5_read (zln Y) σ t0 t1 Q) : ∀ sz, Met l yX5_read (zw yX5_read cX5_read 4 (some .int)) rX5_read (zPc E Y σ sz [.ref (za Y t0), .ref (za Y t1)]) (va_Qi Q (zB E Y sz) (zA Y sz)) 0 0 (zA Y sz) := by
  refine z_met (own := RX5) (Qc := fun sz => va_Qi Q (zB E Y sz) (zA Y sz)) (by decide +kernel) rfl (Nat.le_of_ble_eq_true rfl) ?_
  intro p e s m args below meth c hG hinit
  unfold wX5_read at hw
  refine zlv (lv' := [(0, .ref (za Y t0)), (1, .ref (za Y t1))]) rfl ?_
  refine z_aload_n hG dX5_read_0 rfl 1 rfl ?_
  refine z_callv hG (z_runV (As := []) (st := []) hG k_X5_20 (MX6_reset l h1 hw) ⟨(Nat.le_of_ble_eq_true rfl), (Nat.le_of_ble_eq_true rfl)⟩ h1 (T := TX6) (N := 8) rfl (by decide) rfl (Nat.le_of_ble_eq_true rfl) dX5_read_1 ⟨Nat.zero_le _, Nat.zero_le _⟩ rfl) (fun σ1 hw => ?_)
  refine z_aload_n hG dX5_read_4 rfl 0 rfl ?_
  refine z_iconst (v := 0) hG dX5_read_5 (by decide) ?_
  refine z_puti hG f_X5_25 h0 rfl rfl (zN_int _) dX5_read_6 ?_
  refine z_topσ (fun σ2 eσ2 => ?_)
  have hw := hw σ2 eσ2
  refine z_aload_n hG dX5_read_9 rfl 0 rfl ?_
  obtain ⟨j3, ej3, hw⟩ := hw
  refine z_getr (kq := 10) hG f_X5_14 h0 rfl ej3 rfl (by decide) dX5_read_10 (fun hj3 => ?_)
  refine z_callv hG (z_runV (As := []) (st := []) hG k_X5_29 (MX10_begin l hj3 hw) ⟨(Nat.le_of_ble_eq_true rfl), (Nat.le_of_ble_eq_true rfl)⟩ hj3 (T := TX10) (N := 4) rfl (by decide) rfl (Nat.le_of_ble_eq_true rfl) dX5_read_13 ⟨Nat.zero_le _, Nat.zero_le _⟩ rfl) (fun σ4 hw => ?_)
  refine z_iconst (v := 0) hG dX5_read_16 (by decide) ?_
  refine z_istore_n (lv' := [(2, .int 0), (0, .ref (za Y t0)), (1, .ref (za Y t1))]) hG dX5_read_17 rfl (by decide) rfl ?_
  obtain ⟨n5, hw⟩ := hw
  refine zpick [1, 2, 0] (lv' := [(0, .ref (za Y t0)), (1, .ref (za Y t1)), (2, .int 0)]) rfl ?_
  exact BX5_read_18 hG n5 t0 t1 0 σ4 hw h0 h1
-- TypeWheelTelegraph.load()I
def wxX11_load (ln : Nat → Nat) (σ : zS) (t0 : Nat) (Q : Int32 → zS → Prop) (X : String → zS → Prop) : Prop := ∃ j1 : Nat, gr σ t0 1 = some j1 ∧ ∃ j2 : Nat, gr σ t0 7 = some j2 ∧ wX5_read ln σ j1 j2 (fun r4 σ3 => ∀ σ5 : zS, σ5 = si σ3 t0 8 r4 → ∃ j6 : Nat, gr σ5 t0 0 = some j6 ∧ wX9_clear ln σ5 j6 (fun σ7 => (((gi σ7 t0 8) = (-1) → ∃ j8 : Nat, gr σ7 t0 7 = some j8 ∧ ∃ j9 : Nat, gr σ7 t0 6 = some j9 ∧ ∀ σ10 : zS, σ10 = sr σ7 t0 7 (some j9) → ∀ σ11 : zS, σ11 = sr σ10 t0 6 (some j8) → ∃ j12 : Nat, gr σ11 t0 3 = some j12 ∧ ∃ j13 : Nat, gr σ11 t0 6 = some j13 ∧ wX3_begin ln σ11 j12 j13 (fun σ14 => ∃ j15 : Nat, gr σ14 t0 5 = some j15 ∧ wX1_clear ln σ14 j15 (fun σ16 => ∃ j17 : Nat, gr σ16 t0 6 = some j17 ∧ ∃ j18 : Nat, gr σ16 j17 6 = some j18 ∧ ∃ j19 : Nat, gr σ16 t0 6 = some j19 ∧ ∃ j20 : Nat, gr σ16 j19 7 = some j20 ∧ Q ((gi σ16 j18 2) + (gi σ16 j20 2)) σ16))) ∧ (¬ (gi σ7 t0 8) = (-1) → X "java/lang/IllegalArgumentException" σ7))))
abbrev rxX11_load : Room := { frames := 8, cells := 1, slots := 6, locals := 175 }
set_option maxRecDepth 100000 in
set_option maxHeartbeats 4000000 in
theorem MxX11_load (l : Launch) (hlt : l.stackTraces = false) {E : zE} {Y : zY} {σ : zS} {t0 : Nat} (h0 : zT Y 11 t0) {Q : Int32 → zS → Prop} {X : String → zS → Prop} (hw : wxX11_load (zln Y) σ t0 Q X) : ∀ sz, vx_Met l yX11_load (zw yX11_load cX11_load 2 (some .int)) rxX11_load (zPc E Y σ sz [.ref (za Y t0)]) (va_Qi Q (zB E Y sz) (zA Y sz)) (zX X E Y sz) 1 6 (zA Y sz) := by
  refine z_metX (own := RX11) (Qc := fun sz => va_Qi Q (zB E Y sz) (zA Y sz)) (XC := fun sz => zX X E Y sz) (by decide +kernel) rfl (Nat.le_of_ble_eq_true rfl) ?_
  intro p e s m args below meth c hG hex
  unfold wxX11_load at hw
  refine zlv (lv' := [(0, .ref (za Y t0))]) rfl ?_
  refine z_aload_n hG dX11_load_0 rfl 0 rfl ?_
  refine z_aload_n hG dX11_load_1 rfl 0 rfl ?_
  obtain ⟨j1, ej1, hw⟩ := hw
  refine z_getr (kq := 5) hG f_X11_23 h0 rfl ej1 rfl (by decide) dX11_load_2 (fun hj1 => ?_)
  refine z_aload_n hG dX11_load_5 rfl 0 rfl ?_
  obtain ⟨j2, ej2, hw⟩ := hw
  refine z_getr (kq := 6) hG f_X11_41 h0 rfl ej2 rfl (by decide) dX11_load_6 (fun hj2 => ?_)
  refine z_calli hG (z_runV (As := [.ref (za Y j2)]) (st := [.ref (za Y t0)]) hG k_X11_92 (MX5_read l hj1 hj2 hw) ⟨(Nat.le_of_ble_eq_true rfl), (Nat.le_of_ble_eq_true rfl)⟩ hj1 (T := TX5) (N := 3) rfl (by decide) rfl (Nat.le_of_ble_eq_true rfl) dX11_load_9 ⟨show 0 + 0 ≤ 1 from by omega, show 0 + 0 ≤ 6 from by omega⟩ rfl) (fun r4 σ3 hw => ?_)
  refine z_puti hG f_X11_44 h0 rfl rfl (zN_int _) dX11_load_12 ?_
  refine z_topσ (fun σ5 eσ5 => ?_)
  have hw := hw σ5 eσ5
  refine z_aload_n hG dX11_load_15 rfl 0 rfl ?_
  obtain ⟨j6, ej6, hw⟩ := hw
  refine z_getr (kq := 9) hG f_X11_14 h0 rfl ej6 rfl (by decide) dX11_load_16 (fun hj6 => ?_)
  refine z_callv hG (z_runV (As := []) (st := []) hG k_X11_96 (MX9_clear l hj6 hw) ⟨(Nat.le_of_ble_eq_true rfl), (Nat.le_of_ble_eq_true rfl)⟩ hj6 (T := TX9) (N := 2) rfl (by decide) rfl (Nat.le_of_ble_eq_true rfl) dX11_load_19 ⟨show 0 + 0 ≤ 1 from by omega, show 0 + 0 ≤ 6 from by omega⟩ rfl) (fun σ7 hw => ?_)
  refine z_aload_n hG dX11_load_22 rfl 0 rfl ?_
  refine z_geti hG f_X11_44 h0 rfl dX11_load_23 ?_
  refine z_iconst (v := (-1)) hG dX11_load_26 (by decide) ?_
  refine z_icmp_eq (tgt := 40) hG dX11_load_27 (by decide) (fun c21 => ?_) (fun c21 => ?_)
  · have hw := hw.1 c21
    refine z_aload_n hG dX11_load_40 rfl 0 rfl ?_
    obtain ⟨j8, ej8, hw⟩ := hw
    refine z_getr (kq := 6) hG f_X11_41 h0 rfl ej8 rfl (by decide) dX11_load_41 (fun hj8 => ?_)
    refine z_astore_n (lv' := [(1, .ref (za Y j8)), (0, .ref (za Y t0))]) hG dX11_load_44 rfl (by decide) rfl ?_
    refine z_aload_n hG dX11_load_45 rfl 1 rfl ?_
    refine z_aload_n hG dX11_load_46 rfl 1 rfl ?_
    obtain ⟨j9, ej9, hw⟩ := hw
    refine z_getr (kq := 6) hG f_X11_37 h0 rfl ej9 rfl (by decide) dX11_load_47 (fun hj9 => ?_)
    refine z_putr hG f_X11_41 h0 rfl rfl rfl rfl (by decide) hj9 dX11_load_50 ?_
    refine z_topσ (fun σ10 eσ10 => ?_)
    have hw := hw σ10 eσ10
    refine z_aload_n hG dX11_load_53 rfl 1 rfl ?_
    refine z_aload_n hG dX11_load_54 rfl 0 rfl ?_
    refine z_putr hG f_X11_37 h0 rfl rfl rfl rfl (by decide) hj8 dX11_load_55 ?_
    refine z_topσ (fun σ11 eσ11 => ?_)
    have hw := hw σ11 eσ11
    refine z_aload_n hG dX11_load_58 rfl 1 rfl ?_
    obtain ⟨j12, ej12, hw⟩ := hw
    refine z_getr (kq := 3) hG f_X11_53 h0 rfl ej12 rfl (by decide) dX11_load_59 (fun hj12 => ?_)
    refine z_aload_n hG dX11_load_62 rfl 1 rfl ?_
    obtain ⟨j13, ej13, hw⟩ := hw
    refine z_getr (kq := 6) hG f_X11_37 h0 rfl ej13 rfl (by decide) dX11_load_63 (fun hj13 => ?_)
    refine z_callv hG (z_runV (As := [.ref (za Y j13)]) (st := []) hG k_X11_101 (MX3_begin l hj12 hj13 hw) ⟨(Nat.le_of_ble_eq_true rfl), (Nat.le_of_ble_eq_true rfl)⟩ hj12 (T := TX3) (N := 17) rfl (by decide) rfl (Nat.le_of_ble_eq_true rfl) dX11_load_66 ⟨show 0 + 0 ≤ 1 from by omega, show 0 + 0 ≤ 6 from by omega⟩ rfl) (fun σ14 hw => ?_)
    refine z_aload_n hG dX11_load_69 rfl 1 rfl ?_
    obtain ⟨j15, ej15, hw⟩ := hw
    refine z_getr (kq := 1) hG f_X11_63 h0 rfl ej15 rfl (by decide) dX11_load_70 (fun hj15 => ?_)
    refine z_callv hG (z_runV (As := []) (st := []) hG k_X11_104 (MX1_clear l hj15 hw) ⟨(Nat.le_of_ble_eq_true rfl), (Nat.le_of_ble_eq_true rfl)⟩ hj15 (T := TX1) (N := 3) rfl (by decide) rfl (Nat.le_of_ble_eq_true rfl) dX11_load_73 ⟨show 0 + 0 ≤ 1 from by omega, show 0 + 0 ≤ 6 from by omega⟩ rfl) (fun σ16 hw => ?_)
    refine z_aload_n hG dX11_load_76 rfl 1 rfl ?_
    obtain ⟨j17, ej17, hw⟩ := hw
    refine z_getr (kq := 6) hG f_X11_37 h0 rfl ej17 rfl (by decide) dX11_load_77 (fun hj17 => ?_)
    obtain ⟨j18, ej18, hw⟩ := hw
    refine z_getr (kq := 0) hG f_X11_105 hj17 rfl ej18 rfl (by decide) dX11_load_80 (fun hj18 => ?_)
    refine z_geti hG f_X11_109 hj18 rfl dX11_load_83 ?_
    refine z_aload_n hG dX11_load_86 rfl 1 rfl ?_
    obtain ⟨j19, ej19, hw⟩ := hw
    refine z_getr (kq := 6) hG f_X11_37 h0 rfl ej19 rfl (by decide) dX11_load_87 (fun hj19 => ?_)
    obtain ⟨j20, ej20, hw⟩ := hw
    refine z_getr (kq := 0) hG f_X11_114 hj19 rfl ej20 rfl (by decide) dX11_load_90 (fun hj20 => ?_)
    refine z_geti hG f_X11_109 hj20 rfl dX11_load_93 ?_
    refine z_iadd hG dX11_load_96 ?_
    refine zwiden (k := 1) (n := 6) (by omega) (by omega) (zvx ?_)
    exact z_iret hG rfl rfl dX11_load_97 hw
  · have hw := hw.2 c21
    exact z_throwS (i := 10) (tx := "the text does not match") hG hlt hex thr_IAE (by decide +kernel) dX11_load_30 dX11_load_33 dX11_load_34 dX11_load_36 dX11_load_39 (Nat.le_of_ble_eq_true rfl) (Nat.le_of_ble_eq_true rfl) (show 0 + 1 ≤ 1 from by omega) (show 0 + 6 ≤ 6 from by omega) (show 0 + 1 ≤ 1 from by omega) (show 0 + 6 ≤ 6 from by omega) hw
-- TypeWheelTelegraph.phase(I)I
def wxX11_phase (ln : Nat → Nat) (σ : zS) (t0 : Nat) (v1 : Int32) (Q : Int32 → zS → Prop) (X : String → zS → Prop) : Prop := wxX11_officeAt ln σ t0 v1 (fun r2 σ1 => Q (gi σ1 r2 0) σ1) X
abbrev rxX11_phase : Room := { frames := 8, cells := 1, slots := 6, locals := 141 }
set_option maxRecDepth 100000 in
set_option maxHeartbeats 4000000 in
theorem MxX11_phase (l : Launch) (hlt : l.stackTraces = false) {E : zE} {Y : zY} {σ : zS} {t0 : Nat} {v1 : Int32} (h0 : zT Y 11 t0) {Q : Int32 → zS → Prop} {X : String → zS → Prop} (hw : wxX11_phase (zln Y) σ t0 v1 Q X) : ∀ sz, vx_Met l yX11_phase (zw yX11_phase cX11_phase 2 (some .int)) rxX11_phase (zPc E Y σ sz [.ref (za Y t0), .int v1]) (va_Qi Q (zB E Y sz) (zA Y sz)) (zX X E Y sz) 1 6 (zA Y sz) := by
  refine z_metX (own := RX11) (Qc := fun sz => va_Qi Q (zB E Y sz) (zA Y sz)) (XC := fun sz => zX X E Y sz) (by decide +kernel) rfl (Nat.le_of_ble_eq_true rfl) ?_
  intro p e s m args below meth c hG hex
  unfold wxX11_phase at hw
  refine zlv (lv' := [(0, .ref (za Y t0)), (1, .int v1)]) rfl ?_
  refine z_aload_n hG dX11_phase_0 rfl 0 rfl ?_
  refine z_iload_n hG dX11_phase_1 rfl 1 rfl ?_
  refine z_callXr hG hex (z_runXV (As := [.int v1]) (st := []) hG k_X11_123 (MxX11_officeAt l hlt h0 hw) rfl rfl ⟨(Nat.le_of_ble_eq_true rfl), (Nat.le_of_ble_eq_true rfl)⟩ h0 (T := TX11) (N := 9) rfl (by decide) rfl (Nat.le_of_ble_eq_true rfl) dX11_phase_2 ⟨show 0 + 1 ≤ 1 from by omega, show 0 + 6 ≤ 6 from by omega⟩ rfl) (show 0 + 1 ≤ 1 from by omega) (show 0 + 6 ≤ 6 from by omega) (fun r2 σ1 hr2 hw => ?_)
  refine zwiden (k := 1) (n := 6) (by omega) (by omega) ?_
  refine z_geti hG f_X11_127 hr2 rfl dX11_phase_5 ?_
  refine zwiden (k := 1) (n := 6) (by omega) (by omega) (zvx ?_)
  exact z_iret hG rfl rfl dX11_phase_8 hw
-- TypeWheelTelegraph.rate(I)I
def wxX11_rate (ln : Nat → Nat) (σ : zS) (t0 : Nat) (v1 : Int32) (Q : Int32 → zS → Prop) (X : String → zS → Prop) : Prop := wxX11_officeAt ln σ t0 v1 (fun r2 σ1 => Q (gi σ1 r2 1) σ1) X
abbrev rxX11_rate : Room := { frames := 8, cells := 1, slots := 6, locals := 141 }
set_option maxRecDepth 100000 in
set_option maxHeartbeats 4000000 in
theorem MxX11_rate (l : Launch) (hlt : l.stackTraces = false) {E : zE} {Y : zY} {σ : zS} {t0 : Nat} {v1 : Int32} (h0 : zT Y 11 t0) {Q : Int32 → zS → Prop} {X : String → zS → Prop} (hw : wxX11_rate (zln Y) σ t0 v1 Q X) : ∀ sz, vx_Met l yX11_rate (zw yX11_rate cX11_rate 2 (some .int)) rxX11_rate (zPc E Y σ sz [.ref (za Y t0), .int v1]) (va_Qi Q (zB E Y sz) (zA Y sz)) (zX X E Y sz) 1 6 (zA Y sz) := by
  refine z_metX (own := RX11) (Qc := fun sz => va_Qi Q (zB E Y sz) (zA Y sz)) (XC := fun sz => zX X E Y sz) (by decide +kernel) rfl (Nat.le_of_ble_eq_true rfl) ?_
  intro p e s m args below meth c hG hex
  unfold wxX11_rate at hw
  refine zlv (lv' := [(0, .ref (za Y t0)), (1, .int v1)]) rfl ?_
  refine z_aload_n hG dX11_rate_0 rfl 0 rfl ?_
  refine z_iload_n hG dX11_rate_1 rfl 1 rfl ?_
  refine z_callXr hG hex (z_runXV (As := [.int v1]) (st := []) hG k_X11_123 (MxX11_officeAt l hlt h0 hw) rfl rfl ⟨(Nat.le_of_ble_eq_true rfl), (Nat.le_of_ble_eq_true rfl)⟩ h0 (T := TX11) (N := 9) rfl (by decide) rfl (Nat.le_of_ble_eq_true rfl) dX11_rate_2 ⟨show 0 + 1 ≤ 1 from by omega, show 0 + 6 ≤ 6 from by omega⟩ rfl) (show 0 + 1 ≤ 1 from by omega) (show 0 + 6 ≤ 6 from by omega) (fun r2 σ1 hr2 hw => ?_)
  refine zwiden (k := 1) (n := 6) (by omega) (by omega) ?_
  refine z_geti hG f_X11_132 hr2 rfl dX11_rate_5 ?_
  refine zwiden (k := 1) (n := 6) (by omega) (by omega) (zvx ?_)
  exact z_iret hG rfl rfl dX11_rate_8 hw
-- TypeWheelTelegraph.facing(I)I
def wxX11_facing (ln : Nat → Nat) (σ : zS) (t0 : Nat) (v1 : Int32) (Q : Int32 → zS → Prop) (X : String → zS → Prop) : Prop := wxX11_officeAt ln σ t0 v1 (fun r2 σ1 => wX4_nearestPosition ln σ1 r2 (fun r4 σ3 => ∃ j5 : Nat, gr σ3 t0 6 = some j5 ∧ ∀ x6 : Int32, x6 = gi σ3 j5 0 → wX11_modulo ln σ3 r4 x6 (fun r8 σ7 => Q r8 σ7))) X
abbrev rxX11_facing : Room := { frames := 8, cells := 1, slots := 6, locals := 141 }
set_option maxRecDepth 100000 in
set_option maxHeartbeats 4000000 in
theorem MxX11_facing (l : Launch) (hlt : l.stackTraces = false) {E : zE} {Y : zY} {σ : zS} {t0 : Nat} {v1 : Int32} (h0 : zT Y 11 t0) {Q : Int32 → zS → Prop} {X : String → zS → Prop} (hw : wxX11_facing (zln Y) σ t0 v1 Q X) : ∀ sz, vx_Met l yX11_facing (zw yX11_facing cX11_facing 2 (some .int)) rxX11_facing (zPc E Y σ sz [.ref (za Y t0), .int v1]) (va_Qi Q (zB E Y sz) (zA Y sz)) (zX X E Y sz) 1 6 (zA Y sz) := by
  refine z_metX (own := RX11) (Qc := fun sz => va_Qi Q (zB E Y sz) (zA Y sz)) (XC := fun sz => zX X E Y sz) (by decide +kernel) rfl (Nat.le_of_ble_eq_true rfl) ?_
  intro p e s m args below meth c hG hex
  unfold wxX11_facing at hw
  refine zlv (lv' := [(0, .ref (za Y t0)), (1, .int v1)]) rfl ?_
  refine z_aload_n hG dX11_facing_0 rfl 0 rfl ?_
  refine z_iload_n hG dX11_facing_1 rfl 1 rfl ?_
  refine z_callXr hG hex (z_runXV (As := [.int v1]) (st := []) hG k_X11_123 (MxX11_officeAt l hlt h0 hw) rfl rfl ⟨(Nat.le_of_ble_eq_true rfl), (Nat.le_of_ble_eq_true rfl)⟩ h0 (T := TX11) (N := 9) rfl (by decide) rfl (Nat.le_of_ble_eq_true rfl) dX11_facing_2 ⟨show 0 + 1 ≤ 1 from by omega, show 0 + 6 ≤ 6 from by omega⟩ rfl) (show 0 + 1 ≤ 1 from by omega) (show 0 + 6 ≤ 6 from by omega) (fun r2 σ1 hr2 hw => ?_)
  refine zwiden (k := 1) (n := 6) (by omega) (by omega) ?_
  refine z_calli hG (z_runV (As := []) (st := []) hG k_X11_135 (MX4_nearestPosition l hr2 hw) ⟨(Nat.le_of_ble_eq_true rfl), (Nat.le_of_ble_eq_true rfl)⟩ hr2 (T := TX4) (N := 8) rfl (by decide) rfl (Nat.le_of_ble_eq_true rfl) dX11_facing_5 ⟨show 1 + 0 ≤ 1 from by omega, show 6 + 0 ≤ 6 from by omega⟩ rfl) (fun r4 σ3 hw => ?_)
  refine z_aload_n hG dX11_facing_8 rfl 0 rfl ?_
  obtain ⟨j5, ej5, hw⟩ := hw
  refine z_getr (kq := 6) hG f_X11_37 h0 rfl ej5 rfl (by decide) dX11_facing_9 (fun hj5 => ?_)
  refine z_geti hG f_X11_117 hj5 rfl dX11_facing_12 ?_
  refine z_topi (fun x6 ex6 => ?_)
  have hw := hw x6 ex6
  refine z_calli hG (z_runS (As := [.int r4, .int x6]) (st := []) hG k_X11_138 (MX11_modulo l hw) ⟨(Nat.le_of_ble_eq_true rfl), (Nat.le_of_ble_eq_true rfl)⟩ rfl (Nat.le_of_ble_eq_true rfl) dX11_facing_15 ⟨show 1 + 0 ≤ 1 from by omega, show 6 + 0 ≤ 6 from by omega⟩ rfl) (fun r8 σ7 hw => ?_)
  refine zwiden (k := 1) (n := 6) (by omega) (by omega) (zvx ?_)
  exact z_iret hG rfl rfl dX11_facing_18 hw
-- TypeWheelTelegraph.characterOf(IZ)C
def wX11_characterOf (ln : Nat → Nat) (σ : zS) (v0 : Int32) (v1 : Int32) (Q : Int32 → zS → Prop) : Prop := ∀ x1 : Int32, x1 = v0 - 2 → ((v1 = 0 → ∀ x11 : Int32, x11 = 97 + x1 → Q ((x11.toUInt32 % 65536).toInt32) σ) ∧ (¬ v1 = 0 → ((x1 < 0 → Q 32 σ) ∧ (¬ x1 < 0 → wJ0_length_8abf5 ln σ 13 (fun r4 σ3 => ((r4 ≤ x1 → Q 32 σ3) ∧ (¬ r4 ≤ x1 → wJ0_charAt_5068e ln σ3 13 x1 (fun r7 σ6 => narrow .char (.int r7) = .int r7 ∧ Q r7 σ6))))))))
abbrev rX11_characterOf : Room := { frames := 4, cells := 0, slots := 0, locals := 85 }
set_option maxRecDepth 100000 in
set_option maxHeartbeats 4000000 in
theorem MX11_characterOf (l : Launch) {E : zE} {Y : zY} {σ : zS} {v0 : Int32} {v1 : Int32} {Q : Int32 → zS → Prop} (hw : wX11_characterOf (zln Y) σ v0 v1 Q) : ∀ sz, Met l yX11_characterOf (zw yX11_characterOf cX11_characterOf 3 (some .char)) rX11_characterOf (zPc E Y σ sz [.int v0, .int v1]) (va_Qi Q (zB E Y sz) (zA Y sz)) 0 0 (zA Y sz) := by
  refine z_met (own := RX11) (Qc := fun sz => va_Qi Q (zB E Y sz) (zA Y sz)) (by decide +kernel) rfl (Nat.le_of_ble_eq_true rfl) ?_
  intro p e s m args below meth c hG hinit
  unfold wX11_characterOf at hw
  refine zlv (lv' := [(0, .int v0), (1, .int v1)]) rfl ?_
  refine z_iload_n hG dX11_characterOf_0 rfl 0 rfl ?_
  refine z_iconst (v := 2) hG dX11_characterOf_1 (by decide) ?_
  refine z_isub hG dX11_characterOf_2 ?_
  refine z_topi (fun x1 ex1 => ?_)
  have hw := hw x1 ex1
  refine z_istore_n (lv' := [(2, .int x1), (0, .int v0), (1, .int v1)]) hG dX11_characterOf_3 rfl (by decide) rfl ?_
  refine z_iload_n hG dX11_characterOf_4 rfl 2 rfl ?_
  refine z_if_ne (tgt := 14) hG dX11_characterOf_5 (by decide) (fun c12 => ?_) (fun c12 => ?_)
  · have hw := hw.2 c12
    refine z_iload_n hG dX11_characterOf_14 rfl 0 rfl ?_
    refine z_if_lt (tgt := 38) hG dX11_characterOf_15 (by decide) (fun c10 => ?_) (fun c10 => ?_)
    · have hw := hw.1 c10
      refine z_bipush (v := 32) hG dX11_characterOf_38 (by decide) ?_
      exact z_iret hG rfl (by decide +kernel) dX11_characterOf_40 hw
    · have hw := hw.2 c10
      refine z_iload_n hG dX11_characterOf_18 rfl 0 rfl ?_
      refine z_ldcsw (i := 13) (tx := "0123456789.,:;?!+-=()*'\"_@") hG (by decide +kernel) dX11_characterOf_19 ?_
      have hq2 : 13 < zS_n := by decide
      refine z_calli hG (z_runVs (As := []) (st := [.int x1]) hG k_X11_393 (MJ0_length_8abf5 l hq2 hw) ⟨(Nat.le_of_ble_eq_true rfl), (Nat.le_of_ble_eq_true rfl)⟩ hq2 rfl (Nat.le_of_ble_eq_true rfl) dX11_characterOf_22 ⟨Nat.zero_le _, Nat.zero_le _⟩ rfl) (fun r4 σ3 hw => ?_)
      refine z_icmp_ge (tgt := 38) hG dX11_characterOf_25 (by decide) (fun c9 => ?_) (fun c9 => ?_)
      · have hw := hw.1 c9
        refine z_bipush (v := 32) hG dX11_characterOf_38 (by decide) ?_
        exact z_iret hG rfl (by decide +kernel) dX11_characterOf_40 hw
      · have hw := hw.2 c9
        refine z_ldcsw (i := 13) (tx := "0123456789.,:;?!+-=()*'\"_@") hG (by decide +kernel) dX11_characterOf_28 ?_
        have hq5 : 13 < zS_n := by decide
        refine z_iload_n hG dX11_characterOf_31 rfl 0 rfl ?_
        refine z_calli hG (z_runVs (As := [.int x1]) (st := []) hG k_X11_396 (MJ0_charAt_5068e l hq5 hw) ⟨(Nat.le_of_ble_eq_true rfl), (Nat.le_of_ble_eq_true rfl)⟩ hq5 rfl (Nat.le_of_ble_eq_true rfl) dX11_characterOf_32 ⟨Nat.zero_le _, Nat.zero_le _⟩ rfl) (fun r7 σ6 hw => ?_)
        refine z_goto (tgt := 40) hG dX11_characterOf_35 (by decide) ?_
        obtain ⟨q8, hw⟩ := hw
        exact z_iret hG rfl q8 dX11_characterOf_40 hw
  · have hw := hw.1 c12
    refine z_bipush (v := 97) hG dX11_characterOf_8 (by decide) ?_
    refine z_iload_n hG dX11_characterOf_10 rfl 0 rfl ?_
    refine z_iadd hG dX11_characterOf_11 ?_
    refine z_topi (fun x11 ex11 => ?_)
    have hw := hw x11 ex11
    refine z_i2c hG dX11_characterOf_12 ?_
    exact z_iret hG rfl (pk_nc _) dX11_characterOf_13 hw
-- TypeWheelTelegraph.character(IZ)C
def wxX11_character_16 (ln : Nat → Nat) (Q : Int32 → zS → Prop) (X : String → zS → Prop) (σ : zS) : Prop := X "java/lang/IndexOutOfBoundsException" σ
def wxX11_character (ln : Nat → Nat) (σ : zS) (t0 : Nat) (v1 : Int32) (v2 : Int32) (Q : Int32 → zS → Prop) (X : String → zS → Prop) : Prop := ((v1 < 2 → wxX11_character_16 ln Q X σ) ∧ (¬ v1 < 2 → ∃ j1 : Nat, gr σ t0 6 = some j1 ∧ ((v1 < (gi σ j1 0) → wX11_characterOf ln σ v1 v2 (fun r3 σ2 => narrow .char (.int r3) = .int r3 ∧ Q r3 σ2)) ∧ (¬ v1 < (gi σ j1 0) → wxX11_character_16 ln Q X σ))))
abbrev rxX11_character : Room := { frames := 6, cells := 1, slots := 6, locals := 107 }
set_option maxRecDepth 100000 in
set_option maxHeartbeats 4000000 in
theorem BxX11_character_16 {l : Launch} {E : zE} {Y : zY} {p : Program} {e : Env} {s : State} {m : MethodId} {args : Array Value} {below : List Frame} {meth : Method} {c : Code} (hG : zG E p l s m args meth c cX11_character 3 RX11 (some .char) (zA Y s.heap.size)) (hlt : l.stackTraces = false) (hex : ∀ x ∈ c.exceptionTable.toList, False) {Q : Int32 → zS → Prop} {X : String → zS → Prop} : ∀ (σ : zS) (cl sl : Nat), wxX11_character_16 (zln Y) Q X σ → cl + (1) ≤ 1 → sl + (6) ≤ 6 → WW E Y σ p l e rxX11_character s m args below meth c (zA Y s.heap.size) 3 cl sl (vx_MQ below (va_Qi Q (zB E Y s.heap.size) (zA Y s.heap.size)) (zX X E Y s.heap.size) args s 1 6 (zA Y s.heap.size)) [] 16 [] := by
  intro σ cl sl hw  hcl hsl
  unfold wxX11_character_16 at hw
  exact z_throwS (i := 12) (tx := "the position has no character") hG hlt hex thr_IOE (by decide +kernel) dX11_character_16 dX11_character_19 dX11_character_20 dX11_character_22 dX11_character_25 (Nat.le_of_ble_eq_true rfl) (Nat.le_of_ble_eq_true rfl) (show cl + 0 + 1 ≤ 1 from by omega) (show sl + 0 + 6 ≤ 6 from by omega) (show cl + 0 + 1 ≤ 1 from by omega) (show sl + 0 + 6 ≤ 6 from by omega) hw
set_option maxRecDepth 100000 in
set_option maxHeartbeats 4000000 in
theorem MxX11_character (l : Launch) (hlt : l.stackTraces = false) {E : zE} {Y : zY} {σ : zS} {t0 : Nat} {v1 : Int32} {v2 : Int32} (h0 : zT Y 11 t0) {Q : Int32 → zS → Prop} {X : String → zS → Prop} (hw : wxX11_character (zln Y) σ t0 v1 v2 Q X) : ∀ sz, vx_Met l yX11_character (zw yX11_character cX11_character 3 (some .char)) rxX11_character (zPc E Y σ sz [.ref (za Y t0), .int v1, .int v2]) (va_Qi Q (zB E Y sz) (zA Y sz)) (zX X E Y sz) 1 6 (zA Y sz) := by
  refine z_metX (own := RX11) (Qc := fun sz => va_Qi Q (zB E Y sz) (zA Y sz)) (XC := fun sz => zX X E Y sz) (by decide +kernel) rfl (Nat.le_of_ble_eq_true rfl) ?_
  intro p e s m args below meth c hG hex
  unfold wxX11_character at hw
  refine zlv (lv' := [(0, .ref (za Y t0)), (1, .int v1), (2, .int v2)]) rfl ?_
  refine z_iload_n hG dX11_character_0 rfl 1 rfl ?_
  refine z_iconst (v := 2) hG dX11_character_1 (by decide) ?_
  refine z_icmp_lt (tgt := 16) hG dX11_character_2 (by decide) (fun c6 => ?_) (fun c6 => ?_)
  · have hw := hw.1 c6
    refine zpick [] (lv' := []) rfl ?_
    refine zwiden (k := 0) (n := 0) (by omega) (by omega) ?_
    exact BxX11_character_16 hG hlt hex σ _ _ hw  (by omega) (by omega)
  · have hw := hw.2 c6
    refine z_iload_n hG dX11_character_5 rfl 1 rfl ?_
    refine z_aload_n hG dX11_character_6 rfl 0 rfl ?_
    obtain ⟨j1, ej1, hw⟩ := hw
    refine z_getr (kq := 6) hG f_X11_37 h0 rfl ej1 rfl (by decide) dX11_character_7 (fun hj1 => ?_)
    refine z_geti hG f_X11_117 hj1 rfl dX11_character_10 ?_
    refine z_icmp_lt (tgt := 26) hG dX11_character_13 (by decide) (fun c5 => ?_) (fun c5 => ?_)
    · have hw := hw.1 c5
      refine z_iload_n hG dX11_character_26 rfl 1 rfl ?_
      refine z_iload_n hG dX11_character_27 rfl 2 rfl ?_
      refine z_calli hG (z_runS (As := [.int v1, .int v2]) (st := []) hG k_X11_147 (MX11_characterOf l hw) ⟨(Nat.le_of_ble_eq_true rfl), (Nat.le_of_ble_eq_true rfl)⟩ rfl (Nat.le_of_ble_eq_true rfl) dX11_character_28 ⟨show 0 + 0 ≤ 1 from by omega, show 0 + 0 ≤ 6 from by omega⟩ rfl) (fun r3 σ2 hw => ?_)
      obtain ⟨q4, hw⟩ := hw
      refine zwiden (k := 1) (n := 6) (by omega) (by omega) (zvx ?_)
      exact z_iret hG rfl q4 dX11_character_31 hw
    · have hw := hw.2 c5
      refine zpick [] (lv' := []) rfl ?_
      refine zwiden (k := 0) (n := 0) (by omega) (by omega) ?_
      exact BxX11_character_16 hG hlt hex σ _ _ hw  (by omega) (by omega)
-- TypeWheelTelegraph.lineCount(I)I
def wxX11_lineCount (ln : Nat → Nat) (σ : zS) (t0 : Nat) (v1 : Int32) (Q : Int32 → zS → Prop) (X : String → zS → Prop) : Prop := wxX11_deskAt ln σ t0 v1 (fun r2 σ1 => Q (gi σ1 r2 2) σ1) X
abbrev rxX11_lineCount : Room := { frames := 8, cells := 1, slots := 6, locals := 141 }
set_option maxRecDepth 100000 in
set_option maxHeartbeats 4000000 in
theorem MxX11_lineCount (l : Launch) (hlt : l.stackTraces = false) {E : zE} {Y : zY} {σ : zS} {t0 : Nat} {v1 : Int32} (h0 : zT Y 11 t0) {Q : Int32 → zS → Prop} {X : String → zS → Prop} (hw : wxX11_lineCount (zln Y) σ t0 v1 Q X) : ∀ sz, vx_Met l yX11_lineCount (zw yX11_lineCount cX11_lineCount 2 (some .int)) rxX11_lineCount (zPc E Y σ sz [.ref (za Y t0), .int v1]) (va_Qi Q (zB E Y sz) (zA Y sz)) (zX X E Y sz) 1 6 (zA Y sz) := by
  refine z_metX (own := RX11) (Qc := fun sz => va_Qi Q (zB E Y sz) (zA Y sz)) (XC := fun sz => zX X E Y sz) (by decide +kernel) rfl (Nat.le_of_ble_eq_true rfl) ?_
  intro p e s m args below meth c hG hex
  unfold wxX11_lineCount at hw
  refine zlv (lv' := [(0, .ref (za Y t0)), (1, .int v1)]) rfl ?_
  refine z_aload_n hG dX11_lineCount_0 rfl 0 rfl ?_
  refine z_iload_n hG dX11_lineCount_1 rfl 1 rfl ?_
  refine z_callXr hG hex (z_runXV (As := [.int v1]) (st := []) hG k_X11_162 (MxX11_deskAt l hlt h0 hw) rfl rfl ⟨(Nat.le_of_ble_eq_true rfl), (Nat.le_of_ble_eq_true rfl)⟩ h0 (T := TX11) (N := 9) rfl (by decide) rfl (Nat.le_of_ble_eq_true rfl) dX11_lineCount_2 ⟨show 0 + 1 ≤ 1 from by omega, show 0 + 6 ≤ 6 from by omega⟩ rfl) (show 0 + 1 ≤ 1 from by omega) (show 0 + 6 ≤ 6 from by omega) (fun r2 σ1 hr2 hw => ?_)
  refine zwiden (k := 1) (n := 6) (by omega) (by omega) ?_
  refine z_geti hG f_X11_109 hr2 rfl dX11_lineCount_5 ?_
  refine zwiden (k := 1) (n := 6) (by omega) (by omega) (zvx ?_)
  exact z_iret hG rfl rfl dX11_lineCount_8 hw
-- TypeWheelTelegraph.linesDone(I)I
def wxX11_linesDone (ln : Nat → Nat) (σ : zS) (t0 : Nat) (v1 : Int32) (Q : Int32 → zS → Prop) (X : String → zS → Prop) : Prop := wxX11_officeAt ln σ t0 v1 (fun r2 σ1 => Q (gi σ1 r2 2) σ1) X
abbrev rxX11_linesDone : Room := { frames := 8, cells := 1, slots := 6, locals := 141 }
set_option maxRecDepth 100000 in
set_option maxHeartbeats 4000000 in
theorem MxX11_linesDone (l : Launch) (hlt : l.stackTraces = false) {E : zE} {Y : zY} {σ : zS} {t0 : Nat} {v1 : Int32} (h0 : zT Y 11 t0) {Q : Int32 → zS → Prop} {X : String → zS → Prop} (hw : wxX11_linesDone (zln Y) σ t0 v1 Q X) : ∀ sz, vx_Met l yX11_linesDone (zw yX11_linesDone cX11_linesDone 2 (some .int)) rxX11_linesDone (zPc E Y σ sz [.ref (za Y t0), .int v1]) (va_Qi Q (zB E Y sz) (zA Y sz)) (zX X E Y sz) 1 6 (zA Y sz) := by
  refine z_metX (own := RX11) (Qc := fun sz => va_Qi Q (zB E Y sz) (zA Y sz)) (XC := fun sz => zX X E Y sz) (by decide +kernel) rfl (Nat.le_of_ble_eq_true rfl) ?_
  intro p e s m args below meth c hG hex
  unfold wxX11_linesDone at hw
  refine zlv (lv' := [(0, .ref (za Y t0)), (1, .int v1)]) rfl ?_
  refine z_aload_n hG dX11_linesDone_0 rfl 0 rfl ?_
  refine z_iload_n hG dX11_linesDone_1 rfl 1 rfl ?_
  refine z_callXr hG hex (z_runXV (As := [.int v1]) (st := []) hG k_X11_123 (MxX11_officeAt l hlt h0 hw) rfl rfl ⟨(Nat.le_of_ble_eq_true rfl), (Nat.le_of_ble_eq_true rfl)⟩ h0 (T := TX11) (N := 9) rfl (by decide) rfl (Nat.le_of_ble_eq_true rfl) dX11_linesDone_2 ⟨show 0 + 1 ≤ 1 from by omega, show 0 + 6 ≤ 6 from by omega⟩ rfl) (show 0 + 1 ≤ 1 from by omega) (show 0 + 6 ≤ 6 from by omega) (fun r2 σ1 hr2 hw => ?_)
  refine zwiden (k := 1) (n := 6) (by omega) (by omega) ?_
  refine z_geti hG f_X11_166 hr2 rfl dX11_linesDone_5 ?_
  refine zwiden (k := 1) (n := 6) (by omega) (by omega) (zvx ?_)
  exact z_iret hG rfl rfl dX11_linesDone_8 hw
-- TypeWheelTelegraph.lineLength(II)I
def wxX11_lineLength (ln : Nat → Nat) (σ : zS) (t0 : Nat) (v1 : Int32) (v2 : Int32) (Q : Int32 → zS → Prop) (X : String → zS → Prop) : Prop := wxX11_lineAt ln σ t0 v1 v2 (fun r2 σ1 => ∃ j3 : Nat, gr σ1 r2 0 = some j3 ∧ wX9_size ln σ1 j3 (fun r5 σ4 => Q r5 σ4)) X
abbrev rxX11_lineLength : Room := { frames := 9, cells := 2, slots := 12, locals := 164 }
set_option maxRecDepth 100000 in
set_option maxHeartbeats 4000000 in
theorem MxX11_lineLength (l : Launch) (hlt : l.stackTraces = false) {E : zE} {Y : zY} {σ : zS} {t0 : Nat} {v1 : Int32} {v2 : Int32} (h0 : zT Y 11 t0) {Q : Int32 → zS → Prop} {X : String → zS → Prop} (hw : wxX11_lineLength (zln Y) σ t0 v1 v2 Q X) : ∀ sz, vx_Met l yX11_lineLength (zw yX11_lineLength cX11_lineLength 3 (some .int)) rxX11_lineLength (zPc E Y σ sz [.ref (za Y t0), .int v1, .int v2]) (va_Qi Q (zB E Y sz) (zA Y sz)) (zX X E Y sz) 2 12 (zA Y sz) := by
  refine z_metX (own := RX11) (Qc := fun sz => va_Qi Q (zB E Y sz) (zA Y sz)) (XC := fun sz => zX X E Y sz) (by decide +kernel) rfl (Nat.le_of_ble_eq_true rfl) ?_
  intro p e s m args below meth c hG hex
  unfold wxX11_lineLength at hw
  refine zlv (lv' := [(0, .ref (za Y t0)), (1, .int v1), (2, .int v2)]) rfl ?_
  refine z_aload_n hG dX11_lineLength_0 rfl 0 rfl ?_
  refine z_iload_n hG dX11_lineLength_1 rfl 1 rfl ?_
  refine z_iload_n hG dX11_lineLength_2 rfl 2 rfl ?_
  refine z_callXr hG hex (z_runXV (As := [.int v1, .int v2]) (st := []) hG k_X11_169 (MxX11_lineAt l hlt h0 hw) rfl rfl ⟨(Nat.le_of_ble_eq_true rfl), (Nat.le_of_ble_eq_true rfl)⟩ h0 (T := TX11) (N := 9) rfl (by decide) rfl (Nat.le_of_ble_eq_true rfl) dX11_lineLength_3 ⟨show 0 + 2 ≤ 2 from by omega, show 0 + 12 ≤ 12 from by omega⟩ rfl) (show 0 + 2 ≤ 2 from by omega) (show 0 + 12 ≤ 12 from by omega) (fun r2 σ1 hr2 hw => ?_)
  refine zwiden (k := 2) (n := 12) (by omega) (by omega) ?_
  obtain ⟨j3, ej3, hw⟩ := hw
  refine z_getr (kq := 9) hG f_X11_173 hr2 rfl ej3 rfl (by decide) dX11_lineLength_6 (fun hj3 => ?_)
  refine z_calli hG (z_runV (As := []) (st := []) hG k_X11_67 (MX9_size l hj3 hw) ⟨(Nat.le_of_ble_eq_true rfl), (Nat.le_of_ble_eq_true rfl)⟩ hj3 (T := TX9) (N := 2) rfl (by decide) rfl (Nat.le_of_ble_eq_true rfl) dX11_lineLength_9 ⟨show 2 + 0 ≤ 2 from by omega, show 12 + 0 ≤ 12 from by omega⟩ rfl) (fun r5 σ4 hw => ?_)
  refine zwiden (k := 2) (n := 12) (by omega) (by omega) (zvx ?_)
  exact z_iret hG rfl rfl dX11_lineLength_12 hw
-- TypeWheelTelegraph.pulsesOf(II)I
def wxX11_pulsesOf (ln : Nat → Nat) (σ : zS) (t0 : Nat) (v1 : Int32) (v2 : Int32) (Q : Int32 → zS → Prop) (X : String → zS → Prop) : Prop := wxX11_lineAt ln σ t0 v1 v2 (fun r2 σ1 => ∃ j3 : Nat, gr σ1 r2 1 = some j3 ∧ wX9_size ln σ1 j3 (fun r5 σ4 => Q r5 σ4)) X
abbrev rxX11_pulsesOf : Room := { frames := 9, cells := 2, slots := 12, locals := 164 }
set_option maxRecDepth 100000 in
set_option maxHeartbeats 4000000 in
theorem MxX11_pulsesOf (l : Launch) (hlt : l.stackTraces = false) {E : zE} {Y : zY} {σ : zS} {t0 : Nat} {v1 : Int32} {v2 : Int32} (h0 : zT Y 11 t0) {Q : Int32 → zS → Prop} {X : String → zS → Prop} (hw : wxX11_pulsesOf (zln Y) σ t0 v1 v2 Q X) : ∀ sz, vx_Met l yX11_pulsesOf (zw yX11_pulsesOf cX11_pulsesOf 3 (some .int)) rxX11_pulsesOf (zPc E Y σ sz [.ref (za Y t0), .int v1, .int v2]) (va_Qi Q (zB E Y sz) (zA Y sz)) (zX X E Y sz) 2 12 (zA Y sz) := by
  refine z_metX (own := RX11) (Qc := fun sz => va_Qi Q (zB E Y sz) (zA Y sz)) (XC := fun sz => zX X E Y sz) (by decide +kernel) rfl (Nat.le_of_ble_eq_true rfl) ?_
  intro p e s m args below meth c hG hex
  unfold wxX11_pulsesOf at hw
  refine zlv (lv' := [(0, .ref (za Y t0)), (1, .int v1), (2, .int v2)]) rfl ?_
  refine z_aload_n hG dX11_pulsesOf_0 rfl 0 rfl ?_
  refine z_iload_n hG dX11_pulsesOf_1 rfl 1 rfl ?_
  refine z_iload_n hG dX11_pulsesOf_2 rfl 2 rfl ?_
  refine z_callXr hG hex (z_runXV (As := [.int v1, .int v2]) (st := []) hG k_X11_169 (MxX11_lineAt l hlt h0 hw) rfl rfl ⟨(Nat.le_of_ble_eq_true rfl), (Nat.le_of_ble_eq_true rfl)⟩ h0 (T := TX11) (N := 9) rfl (by decide) rfl (Nat.le_of_ble_eq_true rfl) dX11_pulsesOf_3 ⟨show 0 + 2 ≤ 2 from by omega, show 0 + 12 ≤ 12 from by omega⟩ rfl) (show 0 + 2 ≤ 2 from by omega) (show 0 + 12 ≤ 12 from by omega) (fun r2 σ1 hr2 hw => ?_)
  refine zwiden (k := 2) (n := 12) (by omega) (by omega) ?_
  obtain ⟨j3, ej3, hw⟩ := hw
  refine z_getr (kq := 9) hG f_X11_178 hr2 rfl ej3 rfl (by decide) dX11_pulsesOf_6 (fun hj3 => ?_)
  refine z_calli hG (z_runV (As := []) (st := []) hG k_X11_67 (MX9_size l hj3 hw) ⟨(Nat.le_of_ble_eq_true rfl), (Nat.le_of_ble_eq_true rfl)⟩ hj3 (T := TX9) (N := 2) rfl (by decide) rfl (Nat.le_of_ble_eq_true rfl) dX11_pulsesOf_9 ⟨show 2 + 0 ≤ 2 from by omega, show 12 + 0 ≤ 12 from by omega⟩ rfl) (fun r5 σ4 hw => ?_)
  refine zwiden (k := 2) (n := 12) (by omega) (by omega) (zvx ?_)
  exact z_iret hG rfl rfl dX11_pulsesOf_12 hw
-- TypeWheelTelegraph.pulseOf(III)I
def wxX11_pulseOf (ln : Nat → Nat) (σ : zS) (t0 : Nat) (v1 : Int32) (v2 : Int32) (v3 : Int32) (Q : Int32 → zS → Prop) (X : String → zS → Prop) : Prop := wxX11_lineAt ln σ t0 v1 v2 (fun r2 σ1 => ∃ j3 : Nat, gr σ1 r2 1 = some j3 ∧ wxX11_itemAt ln σ1 j3 v3 (fun r5 σ4 => Q r5 σ4) X) X
abbrev rxX11_pulseOf : Room := { frames := 9, cells := 3, slots := 18, locals := 164 }
set_option maxRecDepth 100000 in
set_option maxHeartbeats 4000000 in
theorem MxX11_pulseOf (l : Launch) (hlt : l.stackTraces = false) {E : zE} {Y : zY} {σ : zS} {t0 : Nat} {v1 : Int32} {v2 : Int32} {v3 : Int32} (h0 : zT Y 11 t0) {Q : Int32 → zS → Prop} {X : String → zS → Prop} (hw : wxX11_pulseOf (zln Y) σ t0 v1 v2 v3 Q X) : ∀ sz, vx_Met l yX11_pulseOf (zw yX11_pulseOf cX11_pulseOf 4 (some .int)) rxX11_pulseOf (zPc E Y σ sz [.ref (za Y t0), .int v1, .int v2, .int v3]) (va_Qi Q (zB E Y sz) (zA Y sz)) (zX X E Y sz) 3 18 (zA Y sz) := by
  refine z_metX (own := RX11) (Qc := fun sz => va_Qi Q (zB E Y sz) (zA Y sz)) (XC := fun sz => zX X E Y sz) (by decide +kernel) rfl (Nat.le_of_ble_eq_true rfl) ?_
  intro p e s m args below meth c hG hex
  unfold wxX11_pulseOf at hw
  refine zlv (lv' := [(0, .ref (za Y t0)), (1, .int v1), (2, .int v2), (3, .int v3)]) rfl ?_
  refine z_aload_n hG dX11_pulseOf_0 rfl 0 rfl ?_
  refine z_iload_n hG dX11_pulseOf_1 rfl 1 rfl ?_
  refine z_iload_n hG dX11_pulseOf_2 rfl 2 rfl ?_
  refine z_callXr hG hex (z_runXV (As := [.int v1, .int v2]) (st := []) hG k_X11_169 (MxX11_lineAt l hlt h0 hw) rfl rfl ⟨(Nat.le_of_ble_eq_true rfl), (Nat.le_of_ble_eq_true rfl)⟩ h0 (T := TX11) (N := 9) rfl (by decide) rfl (Nat.le_of_ble_eq_true rfl) dX11_pulseOf_3 ⟨show 0 + 2 ≤ 3 from by omega, show 0 + 12 ≤ 18 from by omega⟩ rfl) (show 0 + 2 ≤ 3 from by omega) (show 0 + 12 ≤ 18 from by omega) (fun r2 σ1 hr2 hw => ?_)
  refine zwiden (k := 2) (n := 12) (by omega) (by omega) ?_
  obtain ⟨j3, ej3, hw⟩ := hw
  refine z_getr (kq := 9) hG f_X11_178 hr2 rfl ej3 rfl (by decide) dX11_pulseOf_6 (fun hj3 => ?_)
  refine z_iload_n hG dX11_pulseOf_9 rfl 3 rfl ?_
  refine z_callXi hG hex (z_runXS (As := [.ref (za Y j3), .int v3]) (st := []) hG k_X11_181 (MxX11_itemAt l hlt hj3 hw) rfl rfl ⟨(Nat.le_of_ble_eq_true rfl), (Nat.le_of_ble_eq_true rfl)⟩ rfl (Nat.le_of_ble_eq_true rfl) dX11_pulseOf_10 ⟨show 2 + 1 ≤ 3 from by omega, show 12 + 6 ≤ 18 from by omega⟩ rfl) (show 2 + 1 ≤ 3 from by omega) (show 12 + 6 ≤ 18 from by omega) (fun r5 σ4 hw => ?_)
  refine zwiden (k := 3) (n := 18) (by omega) (by omega) ?_
  refine zwiden (k := 3) (n := 18) (by omega) (by omega) (zvx ?_)
  exact z_iret hG rfl rfl dX11_pulseOf_13 hw
-- TypeWheelTelegraph.ticksFor(II)I
def wxX11_ticksFor (ln : Nat → Nat) (σ : zS) (t0 : Nat) (v1 : Int32) (v2 : Int32) (Q : Int32 → zS → Prop) (X : String → zS → Prop) : Prop := wxX11_lineAt ln σ t0 v1 v2 (fun r2 σ1 => wxX11_officeAt ln σ1 t0 v1 (fun r4 σ3 => wX11_ticksToSend ln σ3 t0 r2 r4 (fun r6 σ5 => Q r6 σ5)) X) X
abbrev rxX11_ticksFor : Room := { frames := 9, cells := 3, slots := 18, locals := 164 }
set_option maxRecDepth 100000 in
set_option maxHeartbeats 4000000 in
theorem MxX11_ticksFor (l : Launch) (hlt : l.stackTraces = false) {E : zE} {Y : zY} {σ : zS} {t0 : Nat} {v1 : Int32} {v2 : Int32} (h0 : zT Y 11 t0) {Q : Int32 → zS → Prop} {X : String → zS → Prop} (hw : wxX11_ticksFor (zln Y) σ t0 v1 v2 Q X) : ∀ sz, vx_Met l yX11_ticksFor (zw yX11_ticksFor cX11_ticksFor 3 (some .int)) rxX11_ticksFor (zPc E Y σ sz [.ref (za Y t0), .int v1, .int v2]) (va_Qi Q (zB E Y sz) (zA Y sz)) (zX X E Y sz) 3 18 (zA Y sz) := by
  refine z_metX (own := RX11) (Qc := fun sz => va_Qi Q (zB E Y sz) (zA Y sz)) (XC := fun sz => zX X E Y sz) (by decide +kernel) rfl (Nat.le_of_ble_eq_true rfl) ?_
  intro p e s m args below meth c hG hex
  unfold wxX11_ticksFor at hw
  refine zlv (lv' := [(0, .ref (za Y t0)), (1, .int v1), (2, .int v2)]) rfl ?_
  refine z_aload_n hG dX11_ticksFor_0 rfl 0 rfl ?_
  refine z_aload_n hG dX11_ticksFor_1 rfl 0 rfl ?_
  refine z_iload_n hG dX11_ticksFor_2 rfl 1 rfl ?_
  refine z_iload_n hG dX11_ticksFor_3 rfl 2 rfl ?_
  refine z_callXr hG hex (z_runXV (As := [.int v1, .int v2]) (st := [.ref (za Y t0)]) hG k_X11_169 (MxX11_lineAt l hlt h0 hw) rfl rfl ⟨(Nat.le_of_ble_eq_true rfl), (Nat.le_of_ble_eq_true rfl)⟩ h0 (T := TX11) (N := 9) rfl (by decide) rfl (Nat.le_of_ble_eq_true rfl) dX11_ticksFor_4 ⟨show 0 + 2 ≤ 3 from by omega, show 0 + 12 ≤ 18 from by omega⟩ rfl) (show 0 + 2 ≤ 3 from by omega) (show 0 + 12 ≤ 18 from by omega) (fun r2 σ1 hr2 hw => ?_)
  refine zwiden (k := 2) (n := 12) (by omega) (by omega) ?_
  refine z_aload_n hG dX11_ticksFor_7 rfl 0 rfl ?_
  refine z_iload_n hG dX11_ticksFor_8 rfl 1 rfl ?_
  refine z_callXr hG hex (z_runXV (As := [.int v1]) (st := [.ref (za Y r2), .ref (za Y t0)]) hG k_X11_123 (MxX11_officeAt l hlt h0 hw) rfl rfl ⟨(Nat.le_of_ble_eq_true rfl), (Nat.le_of_ble_eq_true rfl)⟩ h0 (T := TX11) (N := 9) rfl (by decide) rfl (Nat.le_of_ble_eq_true rfl) dX11_ticksFor_9 ⟨show 2 + 1 ≤ 3 from by omega, show 12 + 6 ≤ 18 from by omega⟩ rfl) (show 2 + 1 ≤ 3 from by omega) (show 12 + 6 ≤ 18 from by omega) (fun r4 σ3 hr4 hw => ?_)
  refine zwiden (k := 3) (n := 18) (by omega) (by omega) ?_
  refine z_calli hG (z_runV (As := [.ref (za Y r2), .ref (za Y r4)]) (st := []) hG k_X11_185 (MX11_ticksToSend l h0 hr2 hr4 hw) ⟨(Nat.le_of_ble_eq_true rfl), (Nat.le_of_ble_eq_true rfl)⟩ h0 (T := TX11) (N := 9) rfl (by decide) rfl (Nat.le_of_ble_eq_true rfl) dX11_ticksFor_12 ⟨show 3 + 0 ≤ 3 from by omega, show 18 + 0 ≤ 18 from by omega⟩ rfl) (fun r6 σ5 hw => ?_)
  refine zwiden (k := 3) (n := 18) (by omega) (by omega) (zvx ?_)
  exact z_iret hG rfl rfl dX11_ticksFor_15 hw
-- TypeWheelTelegraph.slowestLine(I)I
def wxX11_slowestLine_17 (ln : Nat → Nat) (Q : Int32 → zS → Prop) (X : String → zS → Prop) : Nat → Nat → Int32 → Int32 → Int32 → Int32 → Int32 → zS → Prop
  | 0, _, _, _, _, _, _, _ => False
  | n + 1, t0, v1, v2, v3, v4, v5, σ => ((v2 ≤ v5 → Q v3 σ) ∧ (¬ v2 ≤ v5 → wX11_lineAt ln σ t0 v1 v5 (fun r2 σ1 => wX11_officeAt ln σ1 t0 v1 (fun r4 σ3 => wX11_ticksToSend ln σ3 t0 r2 r4 (fun r6 σ5 => ((r6 ≤ v4 → ∀ x7 : Int32, x7 = v5 + 1 → (wxX11_slowestLine_17 ln Q X n) t0 v1 v2 v3 v4 x7 σ5) ∧ (¬ r6 ≤ v4 → ∀ x8 : Int32, x8 = v5 + 1 → (wxX11_slowestLine_17 ln Q X n) t0 v1 v2 v5 r6 x8 σ5)))))))
def wxX11_slowestLine (ln : Nat → Nat) (σ : zS) (t0 : Nat) (v1 : Int32) (Q : Int32 → zS → Prop) (X : String → zS → Prop) : Prop := wxX11_deskAt ln σ t0 v1 (fun r2 σ1 => ∀ x3 : Int32, x3 = gi σ1 r2 2 → ∃ n4 : Nat, wxX11_slowestLine_17 ln Q X n4 t0 v1 x3 (-1) (-1) 0 σ1) X
abbrev rxX11_slowestLine : Room := { frames := 8, cells := 1, slots := 6, locals := 141 }
set_option maxRecDepth 100000 in
set_option maxHeartbeats 4000000 in
theorem BxX11_slowestLine_17 {l : Launch} {E : zE} {Y : zY} {p : Program} {e : Env} {s : State} {m : MethodId} {args : Array Value} {below : List Frame} {meth : Method} {c : Code} (hG : zG E p l s m args meth c cX11_slowestLine 7 RX11 (some .int) (zA Y s.heap.size)) (hlt : l.stackTraces = false) (hex : ∀ x ∈ c.exceptionTable.toList, False) {Q : Int32 → zS → Prop} {X : String → zS → Prop} : ∀ (n : Nat) (t0 : Nat) (v1 : Int32) (v2 : Int32) (v3 : Int32) (v4 : Int32) (v5 : Int32) (σ : zS) (cl sl : Nat), wxX11_slowestLine_17 (zln Y) Q X n t0 v1 v2 v3 v4 v5 σ → zT Y 11 t0 → cl + (0) ≤ 1 → sl + (0) ≤ 6 → WW E Y σ p l e rxX11_slowestLine s m args below meth c (zA Y s.heap.size) 7 cl sl (vx_MQ below (va_Qi Q (zB E Y s.heap.size) (zA Y s.heap.size)) (zX X E Y s.heap.size) args s 1 6 (zA Y s.heap.size)) [(0, .ref (za Y t0)), (1, .int v1), (2, .int v2), (3, .int v3), (4, .int v4), (5, .int v5)] 17 [] := by
  intro n
  induction n with
  | zero => intro t0 v1 v2 v3 v4 v5 σ cl sl hw
            exact hw.elim
  | succ n ih =>
    intro t0 v1 v2 v3 v4 v5 σ cl sl hw h0 hcl hsl
    rw [wxX11_slowestLine_17] at hw
    refine z_iload hG dX11_slowestLine_17 5 rfl ?_
    refine z_iload_n hG dX11_slowestLine_19 rfl 2 rfl ?_
    refine z_icmp_ge (tgt := 61) hG dX11_slowestLine_20 (by decide) (fun c10 => ?_) (fun c10 => ?_)
    · have hw := hw.1 c10
      refine z_iload_n hG dX11_slowestLine_61 rfl 3 rfl ?_
      refine zwiden (k := 1) (n := 6) (by omega) (by omega) (zvx ?_)
      exact z_iret hG rfl rfl dX11_slowestLine_62 hw
    · have hw := hw.2 c10
      refine z_aload_n hG dX11_slowestLine_23 rfl 0 rfl ?_
      refine z_aload_n hG dX11_slowestLine_24 rfl 0 rfl ?_
      refine z_iload_n hG dX11_slowestLine_25 rfl 1 rfl ?_
      refine z_iload hG dX11_slowestLine_26 5 rfl ?_
      refine z_callr hG (z_runV (As := [.int v1, .int v5]) (st := [.ref (za Y t0)]) hG k_X11_169 (MX11_lineAt l h0 hw) ⟨(Nat.le_of_ble_eq_true rfl), (Nat.le_of_ble_eq_true rfl)⟩ h0 (T := TX11) (N := 9) rfl (by decide) rfl (Nat.le_of_ble_eq_true rfl) dX11_slowestLine_28 ⟨show cl + 0 + 0 ≤ 1 from by omega, show sl + 0 + 0 ≤ 6 from by omega⟩ rfl) (fun r2 σ1 hr2 hw => ?_)
      refine z_aload_n hG dX11_slowestLine_31 rfl 0 rfl ?_
      refine z_iload_n hG dX11_slowestLine_32 rfl 1 rfl ?_
      refine z_callr hG (z_runV (As := [.int v1]) (st := [.ref (za Y r2), .ref (za Y t0)]) hG k_X11_123 (MX11_officeAt l h0 hw) ⟨(Nat.le_of_ble_eq_true rfl), (Nat.le_of_ble_eq_true rfl)⟩ h0 (T := TX11) (N := 9) rfl (by decide) rfl (Nat.le_of_ble_eq_true rfl) dX11_slowestLine_33 ⟨show cl + 0 + 0 ≤ 1 from by omega, show sl + 0 + 0 ≤ 6 from by omega⟩ rfl) (fun r4 σ3 hr4 hw => ?_)
      refine z_calli hG (z_runV (As := [.ref (za Y r2), .ref (za Y r4)]) (st := []) hG k_X11_185 (MX11_ticksToSend l h0 hr2 hr4 hw) ⟨(Nat.le_of_ble_eq_true rfl), (Nat.le_of_ble_eq_true rfl)⟩ h0 (T := TX11) (N := 9) rfl (by decide) rfl (Nat.le_of_ble_eq_true rfl) dX11_slowestLine_36 ⟨show cl + 0 + 0 ≤ 1 from by omega, show sl + 0 + 0 ≤ 6 from by omega⟩ rfl) (fun r6 σ5 hw => ?_)
      refine z_istore (lv' := [(6, .int r6), (0, .ref (za Y t0)), (1, .int v1), (2, .int v2), (3, .int v3), (4, .int v4), (5, .int v5)]) hG dX11_slowestLine_39 (by decide) rfl ?_
      refine z_iload hG dX11_slowestLine_41 0 rfl ?_
      refine z_iload hG dX11_slowestLine_43 5 rfl ?_
      refine z_icmp_le (tgt := 55) hG dX11_slowestLine_45 (by decide) (fun c9 => ?_) (fun c9 => ?_)
      · have hw := hw.1 c9
        obtain ⟨x7, ex7⟩ : ∃ y : Int32, y = v5 + 1 := ⟨_, rfl⟩
        have hw := hw x7 ex7
        refine z_iinc (v := x7) (lv' := [(5, .int x7), (6, .int r6), (0, .ref (za Y t0)), (1, .int v1), (2, .int v2), (3, .int v3), (4, .int v4)]) hG dX11_slowestLine_55 6 rfl (by rw [ex7]; rfl) (by decide) rfl ?_
        refine z_goto (tgt := 17) hG dX11_slowestLine_58 (by decide) ?_
        refine zpick [2, 3, 4, 5, 6, 0] (lv' := [(0, .ref (za Y t0)), (1, .int v1), (2, .int v2), (3, .int v3), (4, .int v4), (5, .int x7)]) rfl ?_
        exact ih t0 v1 v2 v3 v4 x7 σ5 _ _ hw h0 (by omega) (by omega)
      · have hw := hw.2 c9
        refine z_iload hG dX11_slowestLine_48 0 rfl ?_
        refine z_istore (lv' := [(4, .int r6), (6, .int r6), (0, .ref (za Y t0)), (1, .int v1), (2, .int v2), (3, .int v3), (5, .int v5)]) hG dX11_slowestLine_50 (by decide) rfl ?_
        refine z_iload hG dX11_slowestLine_52 6 rfl ?_
        refine z_istore_n (lv' := [(3, .int v5), (4, .int r6), (6, .int r6), (0, .ref (za Y t0)), (1, .int v1), (2, .int v2), (5, .int v5)]) hG dX11_slowestLine_54 rfl (by decide) rfl ?_
        obtain ⟨x8, ex8⟩ : ∃ y : Int32, y = v5 + 1 := ⟨_, rfl⟩
        have hw := hw x8 ex8
        refine z_iinc (v := x8) (lv' := [(5, .int x8), (3, .int v5), (4, .int r6), (6, .int r6), (0, .ref (za Y t0)), (1, .int v1), (2, .int v2)]) hG dX11_slowestLine_55 6 rfl (by rw [ex8]; rfl) (by decide) rfl ?_
        refine z_goto (tgt := 17) hG dX11_slowestLine_58 (by decide) ?_
        refine zpick [4, 5, 6, 1, 2, 0] (lv' := [(0, .ref (za Y t0)), (1, .int v1), (2, .int v2), (3, .int v5), (4, .int r6), (5, .int x8)]) rfl ?_
        exact ih t0 v1 v2 v5 r6 x8 σ5 _ _ hw h0 (by omega) (by omega)
set_option maxRecDepth 100000 in
set_option maxHeartbeats 4000000 in
theorem MxX11_slowestLine (l : Launch) (hlt : l.stackTraces = false) {E : zE} {Y : zY} {σ : zS} {t0 : Nat} {v1 : Int32} (h0 : zT Y 11 t0) {Q : Int32 → zS → Prop} {X : String → zS → Prop} (hw : wxX11_slowestLine (zln Y) σ t0 v1 Q X) : ∀ sz, vx_Met l yX11_slowestLine (zw yX11_slowestLine cX11_slowestLine 7 (some .int)) rxX11_slowestLine (zPc E Y σ sz [.ref (za Y t0), .int v1]) (va_Qi Q (zB E Y sz) (zA Y sz)) (zX X E Y sz) 1 6 (zA Y sz) := by
  refine z_metX (own := RX11) (Qc := fun sz => va_Qi Q (zB E Y sz) (zA Y sz)) (XC := fun sz => zX X E Y sz) (by decide +kernel) rfl (Nat.le_of_ble_eq_true rfl) ?_
  intro p e s m args below meth c hG hex
  unfold wxX11_slowestLine at hw
  refine zlv (lv' := [(0, .ref (za Y t0)), (1, .int v1)]) rfl ?_
  refine z_aload_n hG dX11_slowestLine_0 rfl 0 rfl ?_
  refine z_iload_n hG dX11_slowestLine_1 rfl 1 rfl ?_
  refine z_callXr hG hex (z_runXV (As := [.int v1]) (st := []) hG k_X11_162 (MxX11_deskAt l hlt h0 hw) rfl rfl ⟨(Nat.le_of_ble_eq_true rfl), (Nat.le_of_ble_eq_true rfl)⟩ h0 (T := TX11) (N := 9) rfl (by decide) rfl (Nat.le_of_ble_eq_true rfl) dX11_slowestLine_2 ⟨show 0 + 1 ≤ 1 from by omega, show 0 + 6 ≤ 6 from by omega⟩ rfl) (show 0 + 1 ≤ 1 from by omega) (show 0 + 6 ≤ 6 from by omega) (fun r2 σ1 hr2 hw => ?_)
  refine zwiden (k := 1) (n := 6) (by omega) (by omega) ?_
  refine z_geti hG f_X11_109 hr2 rfl dX11_slowestLine_5 ?_
  refine z_topi (fun x3 ex3 => ?_)
  have hw := hw x3 ex3
  refine z_istore_n (lv' := [(2, .int x3), (0, .ref (za Y t0)), (1, .int v1)]) hG dX11_slowestLine_8 rfl (by decide) rfl ?_
  refine z_iconst (v := (-1)) hG dX11_slowestLine_9 (by decide) ?_
  refine z_istore_n (lv' := [(3, .int (-1)), (2, .int x3), (0, .ref (za Y t0)), (1, .int v1)]) hG dX11_slowestLine_10 rfl (by decide) rfl ?_
  refine z_iconst (v := (-1)) hG dX11_slowestLine_11 (by decide) ?_
  refine z_istore (lv' := [(4, .int (-1)), (3, .int (-1)), (2, .int x3), (0, .ref (za Y t0)), (1, .int v1)]) hG dX11_slowestLine_12 (by decide) rfl ?_
  refine z_iconst (v := 0) hG dX11_slowestLine_14 (by decide) ?_
  refine z_istore (lv' := [(5, .int 0), (4, .int (-1)), (3, .int (-1)), (2, .int x3), (0, .ref (za Y t0)), (1, .int v1)]) hG dX11_slowestLine_15 (by decide) rfl ?_
  obtain ⟨n4, hw⟩ := hw
  refine zpick [4, 5, 3, 2, 1, 0] (lv' := [(0, .ref (za Y t0)), (1, .int v1), (2, .int x3), (3, .int (-1)), (4, .int (-1)), (5, .int 0)]) rfl ?_
  refine zwiden (k := 1) (n := 6) (by omega) (by omega) ?_
  exact BxX11_slowestLine_17 hG hlt hex n4 t0 v1 x3 (-1) (-1) 0 σ1 _ _ hw h0 (by omega) (by omega)
-- TypeWheelTelegraph.bufferCharacter(I)C
def wxX11_bufferCharacter (ln : Nat → Nat) (σ : zS) (t0 : Nat) (v1 : Int32) (Q : Int32 → zS → Prop) (X : String → zS → Prop) : Prop := ∃ j1 : Nat, gr σ t0 3 = some j1 ∧ ∃ j2 : Nat, gr σ j1 13 = some j2 ∧ ∃ j3 : Nat, gr σ j2 0 = some j3 ∧ wxX11_itemAt ln σ j3 v1 (fun r5 σ4 => Q ((r5.toUInt32 % 65536).toInt32) σ4) X
abbrev rxX11_bufferCharacter : Room := { frames := 7, cells := 1, slots := 6, locals := 121 }
set_option maxRecDepth 100000 in
set_option maxHeartbeats 4000000 in
theorem MxX11_bufferCharacter (l : Launch) (hlt : l.stackTraces = false) {E : zE} {Y : zY} {σ : zS} {t0 : Nat} {v1 : Int32} (h0 : zT Y 11 t0) {Q : Int32 → zS → Prop} {X : String → zS → Prop} (hw : wxX11_bufferCharacter (zln Y) σ t0 v1 Q X) : ∀ sz, vx_Met l yX11_bufferCharacter (zw yX11_bufferCharacter cX11_bufferCharacter 2 (some .char)) rxX11_bufferCharacter (zPc E Y σ sz [.ref (za Y t0), .int v1]) (va_Qi Q (zB E Y sz) (zA Y sz)) (zX X E Y sz) 1 6 (zA Y sz) := by
  refine z_metX (own := RX11) (Qc := fun sz => va_Qi Q (zB E Y sz) (zA Y sz)) (XC := fun sz => zX X E Y sz) (by decide +kernel) rfl (Nat.le_of_ble_eq_true rfl) ?_
  intro p e s m args below meth c hG hex
  unfold wxX11_bufferCharacter at hw
  refine zlv (lv' := [(0, .ref (za Y t0)), (1, .int v1)]) rfl ?_
  refine z_aload_n hG dX11_bufferCharacter_0 rfl 0 rfl ?_
  obtain ⟨j1, ej1, hw⟩ := hw
  refine z_getr (kq := 3) hG f_X11_53 h0 rfl ej1 rfl (by decide) dX11_bufferCharacter_1 (fun hj1 => ?_)
  obtain ⟨j2, ej2, hw⟩ := hw
  refine z_getr (kq := 7) hG f_X11_226 hj1 rfl ej2 rfl (by decide) dX11_bufferCharacter_4 (fun hj2 => ?_)
  obtain ⟨j3, ej3, hw⟩ := hw
  refine z_getr (kq := 9) hG f_X11_230 hj2 rfl ej3 rfl (by decide) dX11_bufferCharacter_7 (fun hj3 => ?_)
  refine z_iload_n hG dX11_bufferCharacter_10 rfl 1 rfl ?_
  refine z_callXi hG hex (z_runXS (As := [.ref (za Y j3), .int v1]) (st := []) hG k_X11_181 (MxX11_itemAt l hlt hj3 hw) rfl rfl ⟨(Nat.le_of_ble_eq_true rfl), (Nat.le_of_ble_eq_true rfl)⟩ rfl (Nat.le_of_ble_eq_true rfl) dX11_bufferCharacter_11 ⟨show 0 + 1 ≤ 1 from by omega, show 0 + 6 ≤ 6 from by omega⟩ rfl) (show 0 + 1 ≤ 1 from by omega) (show 0 + 6 ≤ 6 from by omega) (fun r5 σ4 hw => ?_)
  refine zwiden (k := 1) (n := 6) (by omega) (by omega) ?_
  refine z_i2c hG dX11_bufferCharacter_14 ?_
  refine zwiden (k := 1) (n := 6) (by omega) (by omega) (zvx ?_)
  exact z_iret hG rfl (pk_nc _) dX11_bufferCharacter_15 hw
-- TypeWheelTelegraph.receivedLength(I)I
def wxX11_receivedLength (ln : Nat → Nat) (σ : zS) (t0 : Nat) (v1 : Int32) (Q : Int32 → zS → Prop) (X : String → zS → Prop) : Prop := wxX11_officeAt ln σ t0 v1 (fun r2 σ1 => ∃ j3 : Nat, gr σ1 r2 7 = some j3 ∧ wX9_size ln σ1 j3 (fun r5 σ4 => Q r5 σ4)) X
abbrev rxX11_receivedLength : Room := { frames := 8, cells := 1, slots := 6, locals := 141 }
set_option maxRecDepth 100000 in
set_option maxHeartbeats 4000000 in
theorem MxX11_receivedLength (l : Launch) (hlt : l.stackTraces = false) {E : zE} {Y : zY} {σ : zS} {t0 : Nat} {v1 : Int32} (h0 : zT Y 11 t0) {Q : Int32 → zS → Prop} {X : String → zS → Prop} (hw : wxX11_receivedLength (zln Y) σ t0 v1 Q X) : ∀ sz, vx_Met l yX11_receivedLength (zw yX11_receivedLength cX11_receivedLength 2 (some .int)) rxX11_receivedLength (zPc E Y σ sz [.ref (za Y t0), .int v1]) (va_Qi Q (zB E Y sz) (zA Y sz)) (zX X E Y sz) 1 6 (zA Y sz) := by
  refine z_metX (own := RX11) (Qc := fun sz => va_Qi Q (zB E Y sz) (zA Y sz)) (XC := fun sz => zX X E Y sz) (by decide +kernel) rfl (Nat.le_of_ble_eq_true rfl) ?_
  intro p e s m args below meth c hG hex
  unfold wxX11_receivedLength at hw
  refine zlv (lv' := [(0, .ref (za Y t0)), (1, .int v1)]) rfl ?_
  refine z_aload_n hG dX11_receivedLength_0 rfl 0 rfl ?_
  refine z_iload_n hG dX11_receivedLength_1 rfl 1 rfl ?_
  refine z_callXr hG hex (z_runXV (As := [.int v1]) (st := []) hG k_X11_123 (MxX11_officeAt l hlt h0 hw) rfl rfl ⟨(Nat.le_of_ble_eq_true rfl), (Nat.le_of_ble_eq_true rfl)⟩ h0 (T := TX11) (N := 9) rfl (by decide) rfl (Nat.le_of_ble_eq_true rfl) dX11_receivedLength_2 ⟨show 0 + 1 ≤ 1 from by omega, show 0 + 6 ≤ 6 from by omega⟩ rfl) (show 0 + 1 ≤ 1 from by omega) (show 0 + 6 ≤ 6 from by omega) (fun r2 σ1 hr2 hw => ?_)
  refine zwiden (k := 1) (n := 6) (by omega) (by omega) ?_
  obtain ⟨j3, ej3, hw⟩ := hw
  refine z_getr (kq := 9) hG f_X11_235 hr2 rfl ej3 rfl (by decide) dX11_receivedLength_5 (fun hj3 => ?_)
  refine z_calli hG (z_runV (As := []) (st := []) hG k_X11_67 (MX9_size l hj3 hw) ⟨(Nat.le_of_ble_eq_true rfl), (Nat.le_of_ble_eq_true rfl)⟩ hj3 (T := TX9) (N := 2) rfl (by decide) rfl (Nat.le_of_ble_eq_true rfl) dX11_receivedLength_8 ⟨show 1 + 0 ≤ 1 from by omega, show 6 + 0 ≤ 6 from by omega⟩ rfl) (fun r5 σ4 hw => ?_)
  refine zwiden (k := 1) (n := 6) (by omega) (by omega) (zvx ?_)
  exact z_iret hG rfl rfl dX11_receivedLength_11 hw
-- TypeWheelTelegraph.receivedCharacter(II)C
def wxX11_receivedCharacter (ln : Nat → Nat) (σ : zS) (t0 : Nat) (v1 : Int32) (v2 : Int32) (Q : Int32 → zS → Prop) (X : String → zS → Prop) : Prop := wxX11_officeAt ln σ t0 v1 (fun r2 σ1 => ∃ j3 : Nat, gr σ1 r2 7 = some j3 ∧ wxX11_itemAt ln σ1 j3 v2 (fun r5 σ4 => Q ((r5.toUInt32 % 65536).toInt32) σ4) X) X
abbrev rxX11_receivedCharacter : Room := { frames := 8, cells := 2, slots := 12, locals := 141 }
set_option maxRecDepth 100000 in
set_option maxHeartbeats 4000000 in
theorem MxX11_receivedCharacter (l : Launch) (hlt : l.stackTraces = false) {E : zE} {Y : zY} {σ : zS} {t0 : Nat} {v1 : Int32} {v2 : Int32} (h0 : zT Y 11 t0) {Q : Int32 → zS → Prop} {X : String → zS → Prop} (hw : wxX11_receivedCharacter (zln Y) σ t0 v1 v2 Q X) : ∀ sz, vx_Met l yX11_receivedCharacter (zw yX11_receivedCharacter cX11_receivedCharacter 3 (some .char)) rxX11_receivedCharacter (zPc E Y σ sz [.ref (za Y t0), .int v1, .int v2]) (va_Qi Q (zB E Y sz) (zA Y sz)) (zX X E Y sz) 2 12 (zA Y sz) := by
  refine z_metX (own := RX11) (Qc := fun sz => va_Qi Q (zB E Y sz) (zA Y sz)) (XC := fun sz => zX X E Y sz) (by decide +kernel) rfl (Nat.le_of_ble_eq_true rfl) ?_
  intro p e s m args below meth c hG hex
  unfold wxX11_receivedCharacter at hw
  refine zlv (lv' := [(0, .ref (za Y t0)), (1, .int v1), (2, .int v2)]) rfl ?_
  refine z_aload_n hG dX11_receivedCharacter_0 rfl 0 rfl ?_
  refine z_iload_n hG dX11_receivedCharacter_1 rfl 1 rfl ?_
  refine z_callXr hG hex (z_runXV (As := [.int v1]) (st := []) hG k_X11_123 (MxX11_officeAt l hlt h0 hw) rfl rfl ⟨(Nat.le_of_ble_eq_true rfl), (Nat.le_of_ble_eq_true rfl)⟩ h0 (T := TX11) (N := 9) rfl (by decide) rfl (Nat.le_of_ble_eq_true rfl) dX11_receivedCharacter_2 ⟨show 0 + 1 ≤ 2 from by omega, show 0 + 6 ≤ 12 from by omega⟩ rfl) (show 0 + 1 ≤ 2 from by omega) (show 0 + 6 ≤ 12 from by omega) (fun r2 σ1 hr2 hw => ?_)
  refine zwiden (k := 1) (n := 6) (by omega) (by omega) ?_
  obtain ⟨j3, ej3, hw⟩ := hw
  refine z_getr (kq := 9) hG f_X11_235 hr2 rfl ej3 rfl (by decide) dX11_receivedCharacter_5 (fun hj3 => ?_)
  refine z_iload_n hG dX11_receivedCharacter_8 rfl 2 rfl ?_
  refine z_callXi hG hex (z_runXS (As := [.ref (za Y j3), .int v2]) (st := []) hG k_X11_181 (MxX11_itemAt l hlt hj3 hw) rfl rfl ⟨(Nat.le_of_ble_eq_true rfl), (Nat.le_of_ble_eq_true rfl)⟩ rfl (Nat.le_of_ble_eq_true rfl) dX11_receivedCharacter_9 ⟨show 1 + 1 ≤ 2 from by omega, show 6 + 6 ≤ 12 from by omega⟩ rfl) (show 1 + 1 ≤ 2 from by omega) (show 6 + 6 ≤ 12 from by omega) (fun r5 σ4 hw => ?_)
  refine zwiden (k := 2) (n := 12) (by omega) (by omega) ?_
  refine z_i2c hG dX11_receivedCharacter_12 ?_
  refine zwiden (k := 2) (n := 12) (by omega) (by omega) (zvx ?_)
  exact z_iret hG rfl (pk_nc _) dX11_receivedCharacter_13 hw
-- TypeWheelTelegraph.prints(I)I
def wxX11_prints (ln : Nat → Nat) (σ : zS) (t0 : Nat) (v1 : Int32) (Q : Int32 → zS → Prop) (X : String → zS → Prop) : Prop := wxX11_officeAt ln σ t0 v1 (fun r2 σ1 => Q (gi σ1 r2 3) σ1) X
abbrev rxX11_prints : Room := { frames := 8, cells := 1, slots := 6, locals := 141 }
set_option maxRecDepth 100000 in
set_option maxHeartbeats 4000000 in
theorem MxX11_prints (l : Launch) (hlt : l.stackTraces = false) {E : zE} {Y : zY} {σ : zS} {t0 : Nat} {v1 : Int32} (h0 : zT Y 11 t0) {Q : Int32 → zS → Prop} {X : String → zS → Prop} (hw : wxX11_prints (zln Y) σ t0 v1 Q X) : ∀ sz, vx_Met l yX11_prints (zw yX11_prints cX11_prints 2 (some .int)) rxX11_prints (zPc E Y σ sz [.ref (za Y t0), .int v1]) (va_Qi Q (zB E Y sz) (zA Y sz)) (zX X E Y sz) 1 6 (zA Y sz) := by
  refine z_metX (own := RX11) (Qc := fun sz => va_Qi Q (zB E Y sz) (zA Y sz)) (XC := fun sz => zX X E Y sz) (by decide +kernel) rfl (Nat.le_of_ble_eq_true rfl) ?_
  intro p e s m args below meth c hG hex
  unfold wxX11_prints at hw
  refine zlv (lv' := [(0, .ref (za Y t0)), (1, .int v1)]) rfl ?_
  refine z_aload_n hG dX11_prints_0 rfl 0 rfl ?_
  refine z_iload_n hG dX11_prints_1 rfl 1 rfl ?_
  refine z_callXr hG hex (z_runXV (As := [.int v1]) (st := []) hG k_X11_123 (MxX11_officeAt l hlt h0 hw) rfl rfl ⟨(Nat.le_of_ble_eq_true rfl), (Nat.le_of_ble_eq_true rfl)⟩ h0 (T := TX11) (N := 9) rfl (by decide) rfl (Nat.le_of_ble_eq_true rfl) dX11_prints_2 ⟨show 0 + 1 ≤ 1 from by omega, show 0 + 6 ≤ 6 from by omega⟩ rfl) (show 0 + 1 ≤ 1 from by omega) (show 0 + 6 ≤ 6 from by omega) (fun r2 σ1 hr2 hw => ?_)
  refine zwiden (k := 1) (n := 6) (by omega) (by omega) ?_
  refine z_geti hG f_X11_243 hr2 rfl dX11_prints_5 ?_
  refine zwiden (k := 1) (n := 6) (by omega) (by omega) (zvx ?_)
  exact z_iret hG rfl rfl dX11_prints_8 hw
-- TypeWheelTelegraph.misprints(I)I
def wxX11_misprints (ln : Nat → Nat) (σ : zS) (t0 : Nat) (v1 : Int32) (Q : Int32 → zS → Prop) (X : String → zS → Prop) : Prop := wxX11_officeAt ln σ t0 v1 (fun r2 σ1 => Q (gi σ1 r2 4) σ1) X
abbrev rxX11_misprints : Room := { frames := 8, cells := 1, slots := 6, locals := 141 }
set_option maxRecDepth 100000 in
set_option maxHeartbeats 4000000 in
theorem MxX11_misprints (l : Launch) (hlt : l.stackTraces = false) {E : zE} {Y : zY} {σ : zS} {t0 : Nat} {v1 : Int32} (h0 : zT Y 11 t0) {Q : Int32 → zS → Prop} {X : String → zS → Prop} (hw : wxX11_misprints (zln Y) σ t0 v1 Q X) : ∀ sz, vx_Met l yX11_misprints (zw yX11_misprints cX11_misprints 2 (some .int)) rxX11_misprints (zPc E Y σ sz [.ref (za Y t0), .int v1]) (va_Qi Q (zB E Y sz) (zA Y sz)) (zX X E Y sz) 1 6 (zA Y sz) := by
  refine z_metX (own := RX11) (Qc := fun sz => va_Qi Q (zB E Y sz) (zA Y sz)) (XC := fun sz => zX X E Y sz) (by decide +kernel) rfl (Nat.le_of_ble_eq_true rfl) ?_
  intro p e s m args below meth c hG hex
  unfold wxX11_misprints at hw
  refine zlv (lv' := [(0, .ref (za Y t0)), (1, .int v1)]) rfl ?_
  refine z_aload_n hG dX11_misprints_0 rfl 0 rfl ?_
  refine z_iload_n hG dX11_misprints_1 rfl 1 rfl ?_
  refine z_callXr hG hex (z_runXV (As := [.int v1]) (st := []) hG k_X11_123 (MxX11_officeAt l hlt h0 hw) rfl rfl ⟨(Nat.le_of_ble_eq_true rfl), (Nat.le_of_ble_eq_true rfl)⟩ h0 (T := TX11) (N := 9) rfl (by decide) rfl (Nat.le_of_ble_eq_true rfl) dX11_misprints_2 ⟨show 0 + 1 ≤ 1 from by omega, show 0 + 6 ≤ 6 from by omega⟩ rfl) (show 0 + 1 ≤ 1 from by omega) (show 0 + 6 ≤ 6 from by omega) (fun r2 σ1 hr2 hw => ?_)
  refine zwiden (k := 1) (n := 6) (by omega) (by omega) ?_
  refine z_geti hG f_X11_246 hr2 rfl dX11_misprints_5 ?_
  refine zwiden (k := 1) (n := 6) (by omega) (by omega) (zvx ?_)
  exact z_iret hG rfl rfl dX11_misprints_8 hw
-- TypeWheelTelegraph.worstOffset(I)I
def wxX11_worstOffset (ln : Nat → Nat) (σ : zS) (t0 : Nat) (v1 : Int32) (Q : Int32 → zS → Prop) (X : String → zS → Prop) : Prop := wxX11_officeAt ln σ t0 v1 (fun r2 σ1 => Q (gi σ1 r2 5) σ1) X
abbrev rxX11_worstOffset : Room := { frames := 8, cells := 1, slots := 6, locals := 141 }
set_option maxRecDepth 100000 in
set_option maxHeartbeats 4000000 in
theorem MxX11_worstOffset (l : Launch) (hlt : l.stackTraces = false) {E : zE} {Y : zY} {σ : zS} {t0 : Nat} {v1 : Int32} (h0 : zT Y 11 t0) {Q : Int32 → zS → Prop} {X : String → zS → Prop} (hw : wxX11_worstOffset (zln Y) σ t0 v1 Q X) : ∀ sz, vx_Met l yX11_worstOffset (zw yX11_worstOffset cX11_worstOffset 2 (some .int)) rxX11_worstOffset (zPc E Y σ sz [.ref (za Y t0), .int v1]) (va_Qi Q (zB E Y sz) (zA Y sz)) (zX X E Y sz) 1 6 (zA Y sz) := by
  refine z_metX (own := RX11) (Qc := fun sz => va_Qi Q (zB E Y sz) (zA Y sz)) (XC := fun sz => zX X E Y sz) (by decide +kernel) rfl (Nat.le_of_ble_eq_true rfl) ?_
  intro p e s m args below meth c hG hex
  unfold wxX11_worstOffset at hw
  refine zlv (lv' := [(0, .ref (za Y t0)), (1, .int v1)]) rfl ?_
  refine z_aload_n hG dX11_worstOffset_0 rfl 0 rfl ?_
  refine z_iload_n hG dX11_worstOffset_1 rfl 1 rfl ?_
  refine z_callXr hG hex (z_runXV (As := [.int v1]) (st := []) hG k_X11_123 (MxX11_officeAt l hlt h0 hw) rfl rfl ⟨(Nat.le_of_ble_eq_true rfl), (Nat.le_of_ble_eq_true rfl)⟩ h0 (T := TX11) (N := 9) rfl (by decide) rfl (Nat.le_of_ble_eq_true rfl) dX11_worstOffset_2 ⟨show 0 + 1 ≤ 1 from by omega, show 0 + 6 ≤ 6 from by omega⟩ rfl) (show 0 + 1 ≤ 1 from by omega) (show 0 + 6 ≤ 6 from by omega) (fun r2 σ1 hr2 hw => ?_)
  refine zwiden (k := 1) (n := 6) (by omega) (by omega) ?_
  refine z_geti hG f_X11_249 hr2 rfl dX11_worstOffset_5 ?_
  refine zwiden (k := 1) (n := 6) (by omega) (by omega) (zvx ?_)
  exact z_iret hG rfl rfl dX11_worstOffset_8 hw
-- TypeWheelTelegraph.meanOffset(I)D
def wxX11_meanOffset (ln : Nat → Nat) (σ : zS) (t0 : Nat) (v1 : Int32) (Q : UInt64 → zS → Prop) (X : String → zS → Prop) : Prop := wxX11_officeAt ln σ t0 v1 (fun r2 σ1 => (((gi σ1 r2 3) = 0 → Q FP.dconst0 σ1) ∧ (¬ (gi σ1 r2 3) = 0 → vf_n64 (FP.ddiv (FP.l2d (gl σ1 r2 6)) (FP.i2d (gi σ1 r2 3))) ∧ Q (FP.ddiv (FP.l2d (gl σ1 r2 6)) (FP.i2d (gi σ1 r2 3))) σ1))) X
abbrev rxX11_meanOffset : Room := { frames := 8, cells := 1, slots := 6, locals := 141 }
set_option maxRecDepth 100000 in
set_option maxHeartbeats 4000000 in
theorem MxX11_meanOffset (l : Launch) (hlt : l.stackTraces = false) {E : zE} {Y : zY} {σ : zS} {t0 : Nat} {v1 : Int32} (h0 : zT Y 11 t0) {Q : UInt64 → zS → Prop} {X : String → zS → Prop} (hw : wxX11_meanOffset (zln Y) σ t0 v1 Q X) : ∀ sz, vx_Met l yX11_meanOffset (zw yX11_meanOffset cX11_meanOffset 3 (some .double)) rxX11_meanOffset (zPc E Y σ sz [.ref (za Y t0), .int v1]) (va_Qd Q (zB E Y sz) (zA Y sz)) (zX X E Y sz) 1 6 (zA Y sz) := by
  refine z_metX (own := RX11) (Qc := fun sz => va_Qd Q (zB E Y sz) (zA Y sz)) (XC := fun sz => zX X E Y sz) (by decide +kernel) rfl (Nat.le_of_ble_eq_true rfl) ?_
  intro p e s m args below meth c hG hex
  unfold wxX11_meanOffset at hw
  refine zlv (lv' := [(0, .ref (za Y t0)), (1, .int v1)]) rfl ?_
  refine z_aload_n hG dX11_meanOffset_0 rfl 0 rfl ?_
  refine z_iload_n hG dX11_meanOffset_1 rfl 1 rfl ?_
  refine z_callXr hG hex (z_runXV (As := [.int v1]) (st := []) hG k_X11_123 (MxX11_officeAt l hlt h0 hw) rfl rfl ⟨(Nat.le_of_ble_eq_true rfl), (Nat.le_of_ble_eq_true rfl)⟩ h0 (T := TX11) (N := 9) rfl (by decide) rfl (Nat.le_of_ble_eq_true rfl) dX11_meanOffset_2 ⟨show 0 + 1 ≤ 1 from by omega, show 0 + 6 ≤ 6 from by omega⟩ rfl) (show 0 + 1 ≤ 1 from by omega) (show 0 + 6 ≤ 6 from by omega) (fun r2 σ1 hr2 hw => ?_)
  refine zwiden (k := 1) (n := 6) (by omega) (by omega) ?_
  refine z_astore_n (lv' := [(2, .ref (za Y r2)), (0, .ref (za Y t0)), (1, .int v1)]) hG dX11_meanOffset_5 rfl (by decide) rfl ?_
  refine z_aload_n hG dX11_meanOffset_6 rfl 0 rfl ?_
  refine z_geti hG f_X11_243 hr2 rfl dX11_meanOffset_7 ?_
  refine z_if_ne (tgt := 17) hG dX11_meanOffset_10 (by decide) (fun c4 => ?_) (fun c4 => ?_)
  · have hw := hw.2 c4
    refine z_aload_n hG dX11_meanOffset_17 rfl 0 rfl ?_
    refine z_getl hG f_X11_252 hr2 rfl dX11_meanOffset_18 ?_
    refine z_l2d hG dX11_meanOffset_21 ?_
    refine z_aload_n hG dX11_meanOffset_22 rfl 0 rfl ?_
    refine z_geti hG f_X11_243 hr2 rfl dX11_meanOffset_23 ?_
    refine z_i2d hG dX11_meanOffset_26 ?_
    obtain ⟨q3, hw⟩ := hw
    refine z_ddiv hG dX11_meanOffset_27 q3 ?_
    refine zwiden (k := 1) (n := 6) (by omega) (by omega) (zvx ?_)
    exact z_dret hG rfl dX11_meanOffset_28 hw
  · have hw := hw.1 c4
    refine z_dconst0 hG dX11_meanOffset_13 ?_
    refine z_goto (tgt := 28) hG dX11_meanOffset_14 (by decide) ?_
    refine zwiden (k := 1) (n := 6) (by omega) (by omega) (zvx ?_)
    exact z_dret hG rfl dX11_meanOffset_28 hw
-- TypeWheelTelegraph.event(II)I
def wxX11_event_18 (ln : Nat → Nat) (Q : Int32 → zS → Prop) (X : String → zS → Prop) (σ : zS) : Prop := X "java/lang/IndexOutOfBoundsException" σ
def wxX11_event_38 (ln : Nat → Nat) (Q : Int32 → zS → Prop) (X : String → zS → Prop) (σ : zS) : Prop := X "java/lang/IllegalArgumentException" σ
def wxX11_event (ln : Nat → Nat) (σ : zS) (t0 : Nat) (v1 : Int32) (v2 : Int32) (Q : Int32 → zS → Prop) (X : String → zS → Prop) : Prop := ((v1 < 0 → wxX11_event_18 ln Q X σ) ∧ (¬ v1 < 0 → ∃ j1 : Nat, gr σ t0 3 = some j1 ∧ ∃ j2 : Nat, gr σ j1 15 = some j2 ∧ wX8_size ln σ j2 (fun r4 σ3 => ((v1 < r4 → ((v2 < 0 → wxX11_event_38 ln Q X σ3) ∧ (¬ v2 < 0 → ((v2 < 3 → ∃ j5 : Nat, gr σ3 t0 3 = some j5 ∧ ∃ j6 : Nat, gr σ3 j5 15 = some j6 ∧ wX8_get ln σ3 j6 v1 v2 (fun r8 σ7 => Q r8 σ7)) ∧ (¬ v2 < 3 → wxX11_event_38 ln Q X σ3))))) ∧ (¬ v1 < r4 → wxX11_event_18 ln Q X σ3)))))
abbrev rxX11_event : Room := { frames := 6, cells := 1, slots := 6, locals := 100 }
set_option maxRecDepth 100000 in
set_option maxHeartbeats 4000000 in
theorem BxX11_event_18 {l : Launch} {E : zE} {Y : zY} {p : Program} {e : Env} {s : State} {m : MethodId} {args : Array Value} {below : List Frame} {meth : Method} {c : Code} (hG : zG E p l s m args meth c cX11_event 3 RX11 (some .int) (zA Y s.heap.size)) (hlt : l.stackTraces = false) (hex : ∀ x ∈ c.exceptionTable.toList, False) {Q : Int32 → zS → Prop} {X : String → zS → Prop} : ∀ (σ : zS) (cl sl : Nat), wxX11_event_18 (zln Y) Q X σ → cl + (1) ≤ 1 → sl + (6) ≤ 6 → WW E Y σ p l e rxX11_event s m args below meth c (zA Y s.heap.size) 3 cl sl (vx_MQ below (va_Qi Q (zB E Y s.heap.size) (zA Y s.heap.size)) (zX X E Y s.heap.size) args s 1 6 (zA Y s.heap.size)) [] 18 [] := by
  intro σ cl sl hw  hcl hsl
  unfold wxX11_event_18 at hw
  exact z_throwSW (i := 16) (tx := "no such event") hG hlt hex thr_IOE (by decide +kernel) dX11_event_18 dX11_event_21 dX11_event_22 dX11_event_25 dX11_event_28 (Nat.le_of_ble_eq_true rfl) (Nat.le_of_ble_eq_true rfl) (show cl + 0 + 1 ≤ 1 from by omega) (show sl + 0 + 6 ≤ 6 from by omega) (show cl + 0 + 1 ≤ 1 from by omega) (show sl + 0 + 6 ≤ 6 from by omega) hw
set_option maxRecDepth 100000 in
set_option maxHeartbeats 4000000 in
theorem BxX11_event_38 {l : Launch} {E : zE} {Y : zY} {p : Program} {e : Env} {s : State} {m : MethodId} {args : Array Value} {below : List Frame} {meth : Method} {c : Code} (hG : zG E p l s m args meth c cX11_event 3 RX11 (some .int) (zA Y s.heap.size)) (hlt : l.stackTraces = false) (hex : ∀ x ∈ c.exceptionTable.toList, False) {Q : Int32 → zS → Prop} {X : String → zS → Prop} : ∀ (σ : zS) (cl sl : Nat), wxX11_event_38 (zln Y) Q X σ → cl + (1) ≤ 1 → sl + (6) ≤ 6 → WW E Y σ p l e rxX11_event s m args below meth c (zA Y s.heap.size) 3 cl sl (vx_MQ below (va_Qi Q (zB E Y s.heap.size) (zA Y s.heap.size)) (zX X E Y s.heap.size) args s 1 6 (zA Y s.heap.size)) [] 38 [] := by
  intro σ cl sl hw  hcl hsl
  unfold wxX11_event_38 at hw
  exact z_throwSW (i := 17) (tx := "an event has a time, a code and a value") hG hlt hex thr_IAE (by decide +kernel) dX11_event_38 dX11_event_41 dX11_event_42 dX11_event_45 dX11_event_48 (Nat.le_of_ble_eq_true rfl) (Nat.le_of_ble_eq_true rfl) (show cl + 0 + 1 ≤ 1 from by omega) (show sl + 0 + 6 ≤ 6 from by omega) (show cl + 0 + 1 ≤ 1 from by omega) (show sl + 0 + 6 ≤ 6 from by omega) hw
set_option maxRecDepth 100000 in
set_option maxHeartbeats 4000000 in
theorem MxX11_event (l : Launch) (hlt : l.stackTraces = false) {E : zE} {Y : zY} {σ : zS} {t0 : Nat} {v1 : Int32} {v2 : Int32} (h0 : zT Y 11 t0) {Q : Int32 → zS → Prop} {X : String → zS → Prop} (hw : wxX11_event (zln Y) σ t0 v1 v2 Q X) : ∀ sz, vx_Met l yX11_event (zw yX11_event cX11_event 3 (some .int)) rxX11_event (zPc E Y σ sz [.ref (za Y t0), .int v1, .int v2]) (va_Qi Q (zB E Y sz) (zA Y sz)) (zX X E Y sz) 1 6 (zA Y sz) := by
  refine z_metX (own := RX11) (Qc := fun sz => va_Qi Q (zB E Y sz) (zA Y sz)) (XC := fun sz => zX X E Y sz) (by decide +kernel) rfl (Nat.le_of_ble_eq_true rfl) ?_
  intro p e s m args below meth c hG hex
  unfold wxX11_event at hw
  refine zlv (lv' := [(0, .ref (za Y t0)), (1, .int v1), (2, .int v2)]) rfl ?_
  refine z_iload_n hG dX11_event_0 rfl 1 rfl ?_
  refine z_if_lt (tgt := 18) hG dX11_event_1 (by decide) (fun c12 => ?_) (fun c12 => ?_)
  · have hw := hw.1 c12
    refine zpick [] (lv' := []) rfl ?_
    refine zwiden (k := 0) (n := 0) (by omega) (by omega) ?_
    exact BxX11_event_18 hG hlt hex σ _ _ hw  (by omega) (by omega)
  · have hw := hw.2 c12
    refine z_iload_n hG dX11_event_4 rfl 1 rfl ?_
    refine z_aload_n hG dX11_event_5 rfl 0 rfl ?_
    obtain ⟨j1, ej1, hw⟩ := hw
    refine z_getr (kq := 3) hG f_X11_53 h0 rfl ej1 rfl (by decide) dX11_event_6 (fun hj1 => ?_)
    obtain ⟨j2, ej2, hw⟩ := hw
    refine z_getr (kq := 8) hG f_X11_256 hj1 rfl ej2 rfl (by decide) dX11_event_9 (fun hj2 => ?_)
    refine z_calli hG (z_runV (As := []) (st := [.int v1]) hG k_X11_214 (MX8_size l hj2 hw) ⟨(Nat.le_of_ble_eq_true rfl), (Nat.le_of_ble_eq_true rfl)⟩ hj2 (T := TX8) (N := 4) rfl (by decide) rfl (Nat.le_of_ble_eq_true rfl) dX11_event_12 ⟨show 0 + 0 ≤ 1 from by omega, show 0 + 0 ≤ 6 from by omega⟩ rfl) (fun r4 σ3 hw => ?_)
    refine z_icmp_lt (tgt := 29) hG dX11_event_15 (by decide) (fun c11 => ?_) (fun c11 => ?_)
    · have hw := hw.1 c11
      refine z_iload_n hG dX11_event_29 rfl 2 rfl ?_
      refine z_if_lt (tgt := 38) hG dX11_event_30 (by decide) (fun c10 => ?_) (fun c10 => ?_)
      · have hw := hw.1 c10
        refine zpick [] (lv' := []) rfl ?_
        refine zwiden (k := 0) (n := 0) (by omega) (by omega) ?_
        exact BxX11_event_38 hG hlt hex σ3 _ _ hw  (by omega) (by omega)
      · have hw := hw.2 c10
        refine z_iload_n hG dX11_event_33 rfl 2 rfl ?_
        refine z_iconst (v := 3) hG dX11_event_34 (by decide) ?_
        refine z_icmp_lt (tgt := 49) hG dX11_event_35 (by decide) (fun c9 => ?_) (fun c9 => ?_)
        · have hw := hw.1 c9
          refine z_aload_n hG dX11_event_49 rfl 0 rfl ?_
          obtain ⟨j5, ej5, hw⟩ := hw
          refine z_getr (kq := 3) hG f_X11_53 h0 rfl ej5 rfl (by decide) dX11_event_50 (fun hj5 => ?_)
          obtain ⟨j6, ej6, hw⟩ := hw
          refine z_getr (kq := 8) hG f_X11_256 hj5 rfl ej6 rfl (by decide) dX11_event_53 (fun hj6 => ?_)
          refine z_iload_n hG dX11_event_56 rfl 1 rfl ?_
          refine z_iload_n hG dX11_event_57 rfl 2 rfl ?_
          refine z_calli hG (z_runV (As := [.int v1, .int v2]) (st := []) hG k_X11_263 (MX8_get l hj6 hw) ⟨(Nat.le_of_ble_eq_true rfl), (Nat.le_of_ble_eq_true rfl)⟩ hj6 (T := TX8) (N := 4) rfl (by decide) rfl (Nat.le_of_ble_eq_true rfl) dX11_event_58 ⟨show 0 + 0 ≤ 1 from by omega, show 0 + 0 ≤ 6 from by omega⟩ rfl) (fun r8 σ7 hw => ?_)
          refine zwiden (k := 1) (n := 6) (by omega) (by omega) (zvx ?_)
          exact z_iret hG rfl rfl dX11_event_61 hw
        · have hw := hw.2 c9
          refine zpick [] (lv' := []) rfl ?_
          refine zwiden (k := 0) (n := 0) (by omega) (by omega) ?_
          exact BxX11_event_38 hG hlt hex σ3 _ _ hw  (by omega) (by omega)
    · have hw := hw.2 c11
      refine zpick [] (lv' := []) rfl ?_
      refine zwiden (k := 0) (n := 0) (by omega) (by omega) ?_
      exact BxX11_event_18 hG hlt hex σ3 _ _ hw  (by omega) (by omega)
-- TypeWheelTelegraph$Receiver.take(I)V
def wX7_take_45 (ln : Nat → Nat) (Q : zS → Prop) (t0 : Nat) (tw0 : Nat) (vw1 : Int32) (vw2 : Int32) (σ : zS) : Prop := wX11_characterOf ln σ vw1 vw2 (fun r2 σ1 => wX9_add ln σ1 tw0 r2 (fun σ3 => ∀ x4 : Int32, x4 = (gi σ3 t0 1) + 1 → ∀ σ5 : zS, σ5 = si σ3 t0 1 x4 → Q σ5))
def wX7_take (ln : Nat → Nat) (σ : zS) (t0 : Nat) (v1 : Int32) (Q : zS → Prop) : Prop := ((v1 = (gi σ t0 2) → ∀ σ7 : zS, σ7 = si σ t0 3 1 → Q σ7) ∧ (¬ v1 = (gi σ t0 2) → ((2 ≤ v1 → ∃ j1 : Nat, gr σ t0 0 = some j1 ∧ (((gi σ t0 2) = 1 → wX7_take_45 ln Q t0 j1 v1 1 σ) ∧ (¬ (gi σ t0 2) = 1 → wX7_take_45 ln Q t0 j1 v1 0 σ))) ∧ (¬ 2 ≤ v1 → ∀ σ3 : zS, σ3 = si σ t0 2 v1 → ∀ x4 : Int32, x4 = (gi σ3 t0 1) + 1 → ∀ σ5 : zS, σ5 = si σ3 t0 1 x4 → Q σ5))))
abbrev rX7_take : Room := { frames := 5, cells := 0, slots := 0, locals := 107 }
set_option maxRecDepth 100000 in
set_option maxHeartbeats 4000000 in
theorem BX7_take_45 {l : Launch} {E : zE} {Y : zY} {p : Program} {e : Env} {s : State} {m : MethodId} {args : Array Value} {below : List Frame} {meth : Method} {c : Code} (hG : zG E p l s m args meth c cX7_take 2 RX7 none (zA Y s.heap.size)) {Q : zS → Prop} : ∀ (t0 : Nat) (tw0 : Nat) (vw1 : Int32) (vw2 : Int32) (σ : zS), wX7_take_45 (zln Y) Q t0 tw0 vw1 vw2 σ → zT Y 7 t0 → zT Y 9 tw0 → WW E Y σ p l e rX7_take s m args below meth c (zA Y s.heap.size) 2 0 0 (MQ below (va_Qv Q (zB E Y s.heap.size) (zA Y s.heap.size)) args s 0 0 (zA Y s.heap.size)) [(0, .ref (za Y t0))] 45 [.int vw2, .int vw1, .ref (za Y tw0)] := by
  intro t0 tw0 vw1 vw2 σ hw h0 hw0
  unfold wX7_take_45 at hw
  refine z_calli hG (z_runSN (As := [.int vw1, .int vw2]) (st := [.ref (za Y tw0)]) hG k_X7_38 k_X7_38s (MX11_characterOf l hw) ⟨(Nat.le_of_ble_eq_true rfl), (Nat.le_of_ble_eq_true rfl)⟩ rfl (Nat.le_of_ble_eq_true rfl) dX7_take_45 ⟨Nat.zero_le _, Nat.zero_le _⟩ rfl) (fun r2 σ1 hw => ?_)
  refine z_callv hG (z_runV (As := [.int r2]) (st := []) hG k_X7_42 (MX9_add l hw0 hw) ⟨(Nat.le_of_ble_eq_true rfl), (Nat.le_of_ble_eq_true rfl)⟩ hw0 (T := TX9) (N := 2) rfl (by decide) rfl (Nat.le_of_ble_eq_true rfl) dX7_take_48 ⟨Nat.zero_le _, Nat.zero_le _⟩ rfl) (fun σ3 hw => ?_)
  refine z_aload_n hG dX7_take_51 rfl 0 rfl ?_
  refine z_dup hG dX7_take_52 rfl ?_
  refine z_geti hG f_X7_23 h0 rfl dX7_take_53 ?_
  refine z_iconst (v := 1) hG dX7_take_56 (by decide) ?_
  refine z_iadd hG dX7_take_57 ?_
  refine z_topi (fun x4 ex4 => ?_)
  have hw := hw x4 ex4
  refine z_puti hG f_X7_23 h0 rfl rfl (zN_int _) dX7_take_58 ?_
  refine z_topσ (fun σ5 eσ5 => ?_)
  have hw := hw σ5 eσ5
  exact z_vret hG rfl dX7_take_61 hw
set_option maxRecDepth 100000 in
set_option maxHeartbeats 4000000 in
theorem MX7_take (l : Launch) {E : zE} {Y : zY} {σ : zS} {t0 : Nat} {v1 : Int32} (h0 : zT Y 7 t0) {Q : zS → Prop} (hw : wX7_take (zln Y) σ t0 v1 Q) : ∀ sz, Met l yX7_take (zw yX7_take cX7_take 2 none) rX7_take (zPc E Y σ sz [.ref (za Y t0), .int v1]) (va_Qv Q (zB E Y sz) (zA Y sz)) 0 0 (zA Y sz) := by
  refine z_met (own := RX7) (Qc := fun sz => va_Qv Q (zB E Y sz) (zA Y sz)) (by decide +kernel) rfl (Nat.le_of_ble_eq_true rfl) ?_
  intro p e s m args below meth c hG hinit
  unfold wX7_take at hw
  refine zlv (lv' := [(0, .ref (za Y t0)), (1, .int v1)]) rfl ?_
  refine z_iload_n hG dX7_take_0 rfl 1 rfl ?_
  refine z_aload_n hG dX7_take_1 rfl 0 rfl ?_
  refine z_geti hG f_X7_27 h0 rfl dX7_take_2 ?_
  refine z_icmp_ne (tgt := 14) hG dX7_take_5 (by decide) (fun c8 => ?_) (fun c8 => ?_)
  · have hw := hw.2 c8
    refine z_iload_n hG dX7_take_14 rfl 1 rfl ?_
    refine z_iconst (v := 2) hG dX7_take_15 (by decide) ?_
    refine z_icmp_ge (tgt := 27) hG dX7_take_16 (by decide) (fun c6 => ?_) (fun c6 => ?_)
    · have hw := hw.1 c6
      refine z_aload_n hG dX7_take_27 rfl 0 rfl ?_
      obtain ⟨j1, ej1, hw⟩ := hw
      refine z_getr (kq := 9) hG f_X7_16 h0 rfl ej1 rfl (by decide) dX7_take_28 (fun hj1 => ?_)
      refine z_iload_n hG dX7_take_31 rfl 1 rfl ?_
      refine z_aload_n hG dX7_take_32 rfl 0 rfl ?_
      refine z_geti hG f_X7_27 h0 rfl dX7_take_33 ?_
      refine z_iconst (v := 1) hG dX7_take_36 (by decide) ?_
      refine z_icmp_ne (tgt := 44) hG dX7_take_37 (by decide) (fun c2 => ?_) (fun c2 => ?_)
      · have hw := hw.2 c2
        refine z_iconst (v := 0) hG dX7_take_44 (by decide) ?_
        refine zpick [0] (lv' := [(0, .ref (za Y t0))]) rfl ?_
        exact BX7_take_45 hG t0 j1 v1 0 σ hw h0 hj1
      · have hw := hw.1 c2
        refine z_iconst (v := 1) hG dX7_take_40 (by decide) ?_
        refine z_goto (tgt := 45) hG dX7_take_41 (by decide) ?_
        refine zpick [0] (lv' := [(0, .ref (za Y t0))]) rfl ?_
        exact BX7_take_45 hG t0 j1 v1 1 σ hw h0 hj1
    · have hw := hw.2 c6
      refine z_aload_n hG dX7_take_19 rfl 0 rfl ?_
      refine z_iload_n hG dX7_take_20 rfl 1 rfl ?_
      refine z_puti hG f_X7_27 h0 rfl rfl (zN_int _) dX7_take_21 ?_
      refine z_topσ (fun σ3 eσ3 => ?_)
      have hw := hw σ3 eσ3
      refine z_goto (tgt := 51) hG dX7_take_24 (by decide) ?_
      refine z_aload_n hG dX7_take_51 rfl 0 rfl ?_
      refine z_dup hG dX7_take_52 rfl ?_
      refine z_geti hG f_X7_23 h0 rfl dX7_take_53 ?_
      refine z_iconst (v := 1) hG dX7_take_56 (by decide) ?_
      refine z_iadd hG dX7_take_57 ?_
      refine z_topi (fun x4 ex4 => ?_)
      have hw := hw x4 ex4
      refine z_puti hG f_X7_23 h0 rfl rfl (zN_int _) dX7_take_58 ?_
      refine z_topσ (fun σ5 eσ5 => ?_)
      have hw := hw σ5 eσ5
      exact z_vret hG rfl dX7_take_61 hw
  · have hw := hw.1 c8
    refine z_aload_n hG dX7_take_8 rfl 0 rfl ?_
    refine z_iconst (v := 1) hG dX7_take_9 (by decide) ?_
    refine z_puti hG f_X7_30 h0 rfl rfl (zN_b (by decide)) dX7_take_10 ?_
    refine z_topσ (fun σ7 eσ7 => ?_)
    have hw := hw σ7 eσ7
    exact z_vret hG rfl dX7_take_13 hw
-- TypeWheelTelegraph$Machine.takePulse(I)V
def wX3_takePulse_50 (ln : Nat → Nat) (Q : zS → Prop) (t0 : Nat) (t2 : Nat) (v3 : Int32) (σ : zS) : Prop := ∃ j1 : Nat, gr σ t0 13 = some j1 ∧ (((gi σ j1 3) = 0 → ∃ j2 : Nat, gr σ t0 13 = some j2 ∧ wX7_take ln σ j2 v3 (fun σ3 => Q σ3)) ∧ (¬ (gi σ j1 3) = 0 → wX3_checkLine ln σ t0 t2 v3 (fun σ4 => Q σ4)))
def wX3_takePulse (ln : Nat → Nat) (σ : zS) (t0 : Nat) (v1 : Int32) (Q : zS → Prop) : Prop := ∀ x1 : Int32, x1 = 1 - (gi σ t0 3) → wX3_office ln σ t0 x1 (fun r3 σ2 => ∀ x4 : Int32, x4 = gi σ2 t0 1 → ∀ σ5 : zS, σ5 = si σ2 t0 8 x4 → ∃ j6 : Nat, gr σ5 t0 0 = some j6 ∧ ∀ x7 : Int32, x7 = gi σ5 j6 0 → ∀ x8 : Int32, x8 = gi σ5 t0 2 → wX4_print ln σ5 r3 x8 x7 (fun r10 σ9 => ((r10 = v1 → wX3_takePulse_50 ln Q t0 r3 r10 σ9) ∧ (¬ r10 = v1 → ∀ x11 : Int32, x11 = (gi σ9 r3 4) + 1 → ∀ σ12 : zS, σ12 = si σ9 r3 4 x11 → wX3_takePulse_50 ln Q t0 r3 r10 σ12))))
abbrev rX3_takePulse : Room := { frames := 6, cells := 0, slots := 0, locals := 128 }
set_option maxRecDepth 100000 in
set_option maxHeartbeats 4000000 in
theorem BX3_takePulse_50 {l : Launch} {E : zE} {Y : zY} {p : Program} {e : Env} {s : State} {m : MethodId} {args : Array Value} {below : List Frame} {meth : Method} {c : Code} (hG : zG E p l s m args meth c cX3_takePulse 4 RX3 none (zA Y s.heap.size)) {Q : zS → Prop} : ∀ (t0 : Nat) (t2 : Nat) (v3 : Int32) (σ : zS), wX3_takePulse_50 (zln Y) Q t0 t2 v3 σ → zT Y 3 t0 → zT Y 4 t2 → WW E Y σ p l e rX3_takePulse s m args below meth c (zA Y s.heap.size) 4 0 0 (MQ below (va_Qv Q (zB E Y s.heap.size) (zA Y s.heap.size)) args s 0 0 (zA Y s.heap.size)) [(0, .ref (za Y t0)), (2, .ref (za Y t2)), (3, .int v3)] 50 [] := by
  intro t0 t2 v3 σ hw h0 h2
  unfold wX3_takePulse_50 at hw
  refine z_aload_n hG dX3_takePulse_50 rfl 0 rfl ?_
  obtain ⟨j1, ej1, hw⟩ := hw
  refine z_getr (kq := 7) hG f_X3_28 h0 rfl ej1 rfl (by decide) dX3_takePulse_51 (fun hj1 => ?_)
  refine z_geti hG f_X3_186 hj1 rfl dX3_takePulse_54 ?_
  refine z_if_eq (tgt := 69) hG dX3_takePulse_57 (by decide) (fun c5 => ?_) (fun c5 => ?_)
  · have hw := hw.1 c5
    refine z_aload_n hG dX3_takePulse_69 rfl 0 rfl ?_
    obtain ⟨j2, ej2, hw⟩ := hw
    refine z_getr (kq := 7) hG f_X3_28 h0 rfl ej2 rfl (by decide) dX3_takePulse_70 (fun hj2 => ?_)
    refine z_iload_n hG dX3_takePulse_73 rfl 2 rfl ?_
    refine z_callv hG (z_runV (As := [.int v3]) (st := []) hG k_X3_193 (MX7_take l hj2 hw) ⟨(Nat.le_of_ble_eq_true rfl), (Nat.le_of_ble_eq_true rfl)⟩ hj2 (T := TX7) (N := 4) rfl (by decide) rfl (Nat.le_of_ble_eq_true rfl) dX3_takePulse_74 ⟨Nat.zero_le _, Nat.zero_le _⟩ rfl) (fun σ3 hw => ?_)
    exact z_vret hG rfl dX3_takePulse_77 hw
  · have hw := hw.2 c5
    refine z_aload_n hG dX3_takePulse_60 rfl 0 rfl ?_
    refine z_aload_n hG dX3_takePulse_61 rfl 1 rfl ?_
    refine z_iload_n hG dX3_takePulse_62 rfl 2 rfl ?_
    refine z_callv hG (z_runV (As := [.ref (za Y t2), .int v3]) (st := []) hG k_X3_189 (MX3_checkLine l h0 h2 hw) ⟨(Nat.le_of_ble_eq_true rfl), (Nat.le_of_ble_eq_true rfl)⟩ h0 (T := TX3) (N := 17) rfl (by decide) rfl (Nat.le_of_ble_eq_true rfl) dX3_takePulse_63 ⟨Nat.zero_le _, Nat.zero_le _⟩ rfl) (fun σ4 hw => ?_)
    refine z_goto (tgt := 77) hG dX3_takePulse_66 (by decide) ?_
    exact z_vret hG rfl dX3_takePulse_77 hw
set_option maxRecDepth 100000 in
set_option maxHeartbeats 4000000 in
theorem MX3_takePulse (l : Launch) {E : zE} {Y : zY} {σ : zS} {t0 : Nat} {v1 : Int32} (h0 : zT Y 3 t0) {Q : zS → Prop} (hw : wX3_takePulse (zln Y) σ t0 v1 Q) : ∀ sz, Met l yX3_takePulse (zw yX3_takePulse cX3_takePulse 4 none) rX3_takePulse (zPc E Y σ sz [.ref (za Y t0), .int v1]) (va_Qv Q (zB E Y sz) (zA Y sz)) 0 0 (zA Y sz) := by
  refine z_met (own := RX3) (Qc := fun sz => va_Qv Q (zB E Y sz) (zA Y sz)) (by decide +kernel) rfl (Nat.le_of_ble_eq_true rfl) ?_
  intro p e s m args below meth c hG hinit
  unfold wX3_takePulse at hw
  refine zlv (lv' := [(0, .ref (za Y t0)), (1, .int v1)]) rfl ?_
  refine z_aload_n hG dX3_takePulse_0 rfl 0 rfl ?_
  refine z_iconst (v := 1) hG dX3_takePulse_1 (by decide) ?_
  refine z_aload_n hG dX3_takePulse_2 rfl 0 rfl ?_
  refine z_geti hG f_X3_9 h0 rfl dX3_takePulse_3 ?_
  refine z_isub hG dX3_takePulse_6 ?_
  refine z_topi (fun x1 ex1 => ?_)
  have hw := hw x1 ex1
  refine z_callr hG (z_runV (As := [.int x1]) (st := []) hG k_X3_170 (MX3_office l h0 hw) ⟨(Nat.le_of_ble_eq_true rfl), (Nat.le_of_ble_eq_true rfl)⟩ h0 (T := TX3) (N := 17) rfl (by decide) rfl (Nat.le_of_ble_eq_true rfl) dX3_takePulse_7 ⟨Nat.zero_le _, Nat.zero_le _⟩ rfl) (fun r3 σ2 hr3 hw => ?_)
  refine z_astore_n (lv' := [(2, .ref (za Y r3)), (0, .ref (za Y t0)), (1, .int v1)]) hG dX3_takePulse_10 rfl (by decide) rfl ?_
  refine z_aload_n hG dX3_takePulse_11 rfl 1 rfl ?_
  refine z_aload_n hG dX3_takePulse_12 rfl 1 rfl ?_
  refine z_geti hG f_X3_59 h0 rfl dX3_takePulse_13 ?_
  refine z_topi (fun x4 ex4 => ?_)
  have hw := hw x4 ex4
  refine z_puti hG f_X3_90 h0 rfl rfl (zN_int _) dX3_takePulse_16 ?_
  refine z_topσ (fun σ5 eσ5 => ?_)
  have hw := hw σ5 eσ5
  refine z_aload_n hG dX3_takePulse_19 rfl 0 rfl ?_
  refine z_aload_n hG dX3_takePulse_20 rfl 1 rfl ?_
  refine z_geti hG f_X3_67 h0 rfl dX3_takePulse_21 ?_
  refine z_aload_n hG dX3_takePulse_24 rfl 1 rfl ?_
  obtain ⟨j6, ej6, hw⟩ := hw
  refine z_getr (kq := 6) hG f_X3_55 h0 rfl ej6 rfl (by decide) dX3_takePulse_25 (fun hj6 => ?_)
  refine z_geti hG f_X3_177 hj6 rfl dX3_takePulse_28 ?_
  refine z_topi (fun x7 ex7 => ?_)
  have hw := hw x7 ex7
  obtain ⟨x8, ex8⟩ : ∃ y : Int32, y = gi σ5 t0 2 := ⟨_, rfl⟩
  refine zst (st' := [.int x7, .int x8, .ref (za Y r3)]) (by rw [ex8]) ?_
  have hw := hw x8 ex8
  refine z_calli hG (z_runV (As := [.int x8, .int x7]) (st := []) hG k_X3_180 (MX4_print l hr3 hw) ⟨(Nat.le_of_ble_eq_true rfl), (Nat.le_of_ble_eq_true rfl)⟩ hr3 (T := TX4) (N := 8) rfl (by decide) rfl (Nat.le_of_ble_eq_true rfl) dX3_takePulse_31 ⟨Nat.zero_le _, Nat.zero_le _⟩ rfl) (fun r10 σ9 hw => ?_)
  refine z_istore_n (lv' := [(3, .int r10), (2, .ref (za Y r3)), (0, .ref (za Y t0)), (1, .int v1)]) hG dX3_takePulse_34 rfl (by decide) rfl ?_
  refine z_iload_n hG dX3_takePulse_35 rfl 0 rfl ?_
  refine z_iload_n hG dX3_takePulse_36 rfl 3 rfl ?_
  refine z_icmp_eq (tgt := 50) hG dX3_takePulse_37 (by decide) (fun c13 => ?_) (fun c13 => ?_)
  · have hw := hw.1 c13
    refine zpick [2, 1, 0] (lv' := [(0, .ref (za Y t0)), (2, .ref (za Y r3)), (3, .int r10)]) rfl ?_
    exact BX3_takePulse_50 hG t0 r3 r10 σ9 hw h0 hr3
  · have hw := hw.2 c13
    refine z_aload_n hG dX3_takePulse_40 rfl 1 rfl ?_
    refine z_dup hG dX3_takePulse_41 rfl ?_
    refine z_geti hG f_X3_183 hr3 rfl dX3_takePulse_42 ?_
    refine z_iconst (v := 1) hG dX3_takePulse_45 (by decide) ?_
    refine z_iadd hG dX3_takePulse_46 ?_
    refine z_topi (fun x11 ex11 => ?_)
    have hw := hw x11 ex11
    refine z_puti hG f_X3_183 hr3 rfl rfl (zN_int _) dX3_takePulse_47 ?_
    refine z_topσ (fun σ12 eσ12 => ?_)
    have hw := hw σ12 eσ12
    refine zpick [2, 1, 0] (lv' := [(0, .ref (za Y t0)), (2, .ref (za Y r3)), (3, .int r10)]) rfl ?_
    exact BX3_takePulse_50 hG t0 r3 r10 σ12 hw h0 hr3
-- TypeWheelTelegraph$Machine.tick()V
def wX3_tick_148 (ln : Nat → Nat) (Q : zS → Prop) (t0 : Nat) (σ : zS) : Prop := (((gi σ t0 3) = (-1) → Q σ) ∧ (¬ (gi σ t0 3) = (-1) → wX3_silentTicks ln σ t0 (fun r2 σ1 => ∃ j3 : Nat, gr σ1 t0 0 = some j3 ∧ ((r2 < (gi σ1 j3 3) → Q σ1) ∧ (¬ r2 < (gi σ1 j3 3) → ∃ j4 : Nat, gr σ1 t0 13 = some j4 ∧ wX7_clear ln σ1 j4 (fun σ5 => Q σ5))))))
def wX3_tick_121 (ln : Nat → Nat) (Q : zS → Prop) (t0 : Nat) (σ : zS) : Prop := wX3_sendIfPassing ln σ t0 (fun σ1 => (((gi σ1 t0 4) = 0 → wX3_tick_148 ln Q t0 σ1) ∧ (¬ (gi σ1 t0 4) = 0 → (((gi σ1 t0 1) < (gi σ1 t0 5) → wX3_tick_148 ln Q t0 σ1) ∧ (¬ (gi σ1 t0 1) < (gi σ1 t0 5) → wX3_endLine ln σ1 t0 0 (fun σ2 => wX3_tick_148 ln Q t0 σ2))))))
def wX3_tick_60 (ln : Nat → Nat) (Q : zS → Prop) : Nat → Nat → Int32 → zS → Prop
  | 0, _, _, _ => False
  | n + 1, t0, v1, σ => ((v1 ≤ 0 → wX3_tick_121 ln Q t0 σ) ∧ (¬ v1 ≤ 0 → wX3_isArrivalDue ln σ t0 (fun r2 σ1 => ((r2 = 0 → wX3_tick_121 ln Q t0 σ1) ∧ (¬ r2 = 0 → ∃ j3 : Nat, gr σ1 t0 14 = some j3 ∧ wX8_get ln σ1 j3 0 1 (fun r5 σ4 => ∃ j6 : Nat, gr σ4 t0 14 = some j6 ∧ wX8_get ln σ4 j6 0 2 (fun r8 σ7 => ∃ j9 : Nat, gr σ7 t0 14 = some j9 ∧ wX8_removeFirst ln σ7 j9 (fun σ10 => ((r5 = 0 → wX3_takePulse ln σ10 t0 r8 (fun σ13 => ∀ x14 : Int32, x14 = v1 + (-1) → (wX3_tick_60 ln Q n) t0 x14 σ13)) ∧ (¬ r5 = 0 → wX3_takeSignal ln σ10 t0 r5 (fun σ11 => ∀ x12 : Int32, x12 = v1 + (-1) → (wX3_tick_60 ln Q n) t0 x12 σ11)))))))))))
def wX3_tick (ln : Nat → Nat) (σ : zS) (t0 : Nat) (Q : zS → Prop) : Prop := ∀ x1 : Int32, x1 = (gi σ t0 1) + 1 → ∀ σ2 : zS, σ2 = si σ t0 1 x1 → ∃ j3 : Nat, gr σ2 t0 11 = some j3 ∧ ∃ j4 : Nat, gr σ2 t0 11 = some j4 ∧ ∃ j5 : Nat, gr σ2 t0 0 = some j5 ∧ wX6_circle ln σ2 j5 (fun r7 σ6 => ∀ x8 : Int32, x8 = gi σ2 j4 1 → wX4_turn ln σ6 j3 x8 r7 (fun σ9 => ∃ j10 : Nat, gr σ9 t0 12 = some j10 ∧ ∃ j11 : Nat, gr σ9 t0 12 = some j11 ∧ ∃ j12 : Nat, gr σ9 t0 0 = some j12 ∧ wX6_circle ln σ9 j12 (fun r14 σ13 => ∀ x15 : Int32, x15 = gi σ9 j11 1 → wX4_turn ln σ13 j10 x15 r14 (fun σ16 => ∃ j17 : Nat, gr σ16 t0 14 = some j17 ∧ wX8_size ln σ16 j17 (fun r19 σ18 => ∃ n20 : Nat, wX3_tick_60 ln Q n20 t0 r19 σ18)))))
abbrev rX3_tick : Room := { frames := 7, cells := 0, slots := 0, locals := 151 }
set_option maxRecDepth 100000 in
set_option maxHeartbeats 4000000 in
theorem BX3_tick_148 {l : Launch} {E : zE} {Y : zY} {p : Program} {e : Env} {s : State} {m : MethodId} {args : Array Value} {below : List Frame} {meth : Method} {c : Code} (hG : zG E p l s m args meth c cX3_tick 4 RX3 none (zA Y s.heap.size)) {Q : zS → Prop} : ∀ (t0 : Nat) (σ : zS), wX3_tick_148 (zln Y) Q t0 σ → zT Y 3 t0 → WW E Y σ p l e rX3_tick s m args below meth c (zA Y s.heap.size) 4 0 0 (MQ below (va_Qv Q (zB E Y s.heap.size) (zA Y s.heap.size)) args s 0 0 (zA Y s.heap.size)) [(0, .ref (za Y t0))] 148 [] := by
  intro t0 σ hw h0
  unfold wX3_tick_148 at hw
  refine z_aload_n hG dX3_tick_148 rfl 0 rfl ?_
  refine z_geti hG f_X3_9 h0 rfl dX3_tick_149 ?_
  refine z_iconst (v := (-1)) hG dX3_tick_152 (by decide) ?_
  refine z_icmp_eq (tgt := 177) hG dX3_tick_153 (by decide) (fun c7 => ?_) (fun c7 => ?_)
  · have hw := hw.1 c7
    exact z_vret hG rfl dX3_tick_177 hw
  · have hw := hw.2 c7
    refine z_aload_n hG dX3_tick_156 rfl 0 rfl ?_
    refine z_calli hG (z_runV (As := []) (st := []) hG k_X3_164 (MX3_silentTicks l h0 hw) ⟨(Nat.le_of_ble_eq_true rfl), (Nat.le_of_ble_eq_true rfl)⟩ h0 (T := TX3) (N := 17) rfl (by decide) rfl (Nat.le_of_ble_eq_true rfl) dX3_tick_157 ⟨Nat.zero_le _, Nat.zero_le _⟩ rfl) (fun r2 σ1 hw => ?_)
    refine z_aload_n hG dX3_tick_160 rfl 0 rfl ?_
    obtain ⟨j3, ej3, hw⟩ := hw
    refine z_getr (kq := 6) hG f_X3_55 h0 rfl ej3 rfl (by decide) dX3_tick_161 (fun hj3 => ?_)
    refine z_geti hG f_X3_167 hj3 rfl dX3_tick_164 ?_
    refine z_icmp_lt (tgt := 177) hG dX3_tick_167 (by decide) (fun c6 => ?_) (fun c6 => ?_)
    · have hw := hw.1 c6
      exact z_vret hG rfl dX3_tick_177 hw
    · have hw := hw.2 c6
      refine z_aload_n hG dX3_tick_170 rfl 0 rfl ?_
      obtain ⟨j4, ej4, hw⟩ := hw
      refine z_getr (kq := 7) hG f_X3_28 h0 rfl ej4 rfl (by decide) dX3_tick_171 (fun hj4 => ?_)
      refine z_callv hG (z_runV (As := []) (st := []) hG k_X3_118 (MX7_clear l hj4 hw) ⟨(Nat.le_of_ble_eq_true rfl), (Nat.le_of_ble_eq_true rfl)⟩ hj4 (T := TX7) (N := 4) rfl (by decide) rfl (Nat.le_of_ble_eq_true rfl) dX3_tick_174 ⟨Nat.zero_le _, Nat.zero_le _⟩ rfl) (fun σ5 hw => ?_)
      exact z_vret hG rfl dX3_tick_177 hw
set_option maxRecDepth 100000 in
set_option maxHeartbeats 4000000 in
theorem BX3_tick_121 {l : Launch} {E : zE} {Y : zY} {p : Program} {e : Env} {s : State} {m : MethodId} {args : Array Value} {below : List Frame} {meth : Method} {c : Code} (hG : zG E p l s m args meth c cX3_tick 4 RX3 none (zA Y s.heap.size)) {Q : zS → Prop} : ∀ (t0 : Nat) (σ : zS), wX3_tick_121 (zln Y) Q t0 σ → zT Y 3 t0 → WW E Y σ p l e rX3_tick s m args below meth c (zA Y s.heap.size) 4 0 0 (MQ below (va_Qv Q (zB E Y s.heap.size) (zA Y s.heap.size)) args s 0 0 (zA Y s.heap.size)) [(0, .ref (za Y t0))] 121 [] := by
  intro t0 σ hw h0
  unfold wX3_tick_121 at hw
  refine z_aload_n hG dX3_tick_121 rfl 0 rfl ?_
  refine z_callv hG (z_runV (As := []) (st := []) hG k_X3_157 (MX3_sendIfPassing l h0 hw) ⟨(Nat.le_of_ble_eq_true rfl), (Nat.le_of_ble_eq_true rfl)⟩ h0 (T := TX3) (N := 17) rfl (by decide) rfl (Nat.le_of_ble_eq_true rfl) dX3_tick_122 ⟨Nat.zero_le _, Nat.zero_le _⟩ rfl) (fun σ1 hw => ?_)
  refine z_aload_n hG dX3_tick_125 rfl 0 rfl ?_
  refine z_geti hG f_X3_96 h0 rfl dX3_tick_126 ?_
  refine z_if_eq (tgt := 148) hG dX3_tick_129 (by decide) (fun c4 => ?_) (fun c4 => ?_)
  · have hw := hw.1 c4
    refine zpick [0] (lv' := [(0, .ref (za Y t0))]) rfl ?_
    exact BX3_tick_148 hG t0 σ1 hw h0
  · have hw := hw.2 c4
    refine z_aload_n hG dX3_tick_132 rfl 0 rfl ?_
    refine z_geti hG f_X3_59 h0 rfl dX3_tick_133 ?_
    refine z_aload_n hG dX3_tick_136 rfl 0 rfl ?_
    refine z_geti hG f_X3_100 h0 rfl dX3_tick_137 ?_
    refine z_icmp_lt (tgt := 148) hG dX3_tick_140 (by decide) (fun c3 => ?_) (fun c3 => ?_)
    · have hw := hw.1 c3
      refine zpick [0] (lv' := [(0, .ref (za Y t0))]) rfl ?_
      exact BX3_tick_148 hG t0 σ1 hw h0
    · have hw := hw.2 c3
      refine z_aload_n hG dX3_tick_143 rfl 0 rfl ?_
      refine z_iconst (v := 0) hG dX3_tick_144 (by decide) ?_
      refine z_callv hG (z_runV (As := [.int 0]) (st := []) hG k_X3_160 (MX3_endLine l h0 hw) ⟨(Nat.le_of_ble_eq_true rfl), (Nat.le_of_ble_eq_true rfl)⟩ h0 (T := TX3) (N := 17) rfl (by decide) rfl (Nat.le_of_ble_eq_true rfl) dX3_tick_145 ⟨Nat.zero_le _, Nat.zero_le _⟩ rfl) (fun σ2 hw => ?_)
      refine zpick [0] (lv' := [(0, .ref (za Y t0))]) rfl ?_
      exact BX3_tick_148 hG t0 σ2 hw h0
set_option maxRecDepth 100000 in
set_option maxHeartbeats 4000000 in
theorem BX3_tick_60 {l : Launch} {E : zE} {Y : zY} {p : Program} {e : Env} {s : State} {m : MethodId} {args : Array Value} {below : List Frame} {meth : Method} {c : Code} (hG : zG E p l s m args meth c cX3_tick 4 RX3 none (zA Y s.heap.size)) {Q : zS → Prop} : ∀ (n : Nat) (t0 : Nat) (v1 : Int32) (σ : zS), wX3_tick_60 (zln Y) Q n t0 v1 σ → zT Y 3 t0 → WW E Y σ p l e rX3_tick s m args below meth c (zA Y s.heap.size) 4 0 0 (MQ below (va_Qv Q (zB E Y s.heap.size) (zA Y s.heap.size)) args s 0 0 (zA Y s.heap.size)) [(0, .ref (za Y t0)), (1, .int v1)] 60 [] := by
  intro n
  induction n with
  | zero => intro t0 v1 σ hw
            exact hw.elim
  | succ n ih =>
    intro t0 v1 σ hw h0
    rw [wX3_tick_60] at hw
    refine z_iload_n hG dX3_tick_60 rfl 1 rfl ?_
    refine z_if_le (tgt := 121) hG dX3_tick_61 (by decide) (fun c17 => ?_) (fun c17 => ?_)
    · have hw := hw.1 c17
      refine zpick [0] (lv' := [(0, .ref (za Y t0))]) rfl ?_
      exact BX3_tick_121 hG t0 σ hw h0
    · have hw := hw.2 c17
      refine z_aload_n hG dX3_tick_64 rfl 0 rfl ?_
      refine z_calli hG (z_runV (As := []) (st := []) hG k_X3_140 (MX3_isArrivalDue l h0 hw) ⟨(Nat.le_of_ble_eq_true rfl), (Nat.le_of_ble_eq_true rfl)⟩ h0 (T := TX3) (N := 17) rfl (by decide) rfl (Nat.le_of_ble_eq_true rfl) dX3_tick_65 ⟨Nat.zero_le _, Nat.zero_le _⟩ rfl) (fun r2 σ1 hw => ?_)
      refine z_if_eq (tgt := 121) hG dX3_tick_68 (by decide) (fun c16 => ?_) (fun c16 => ?_)
      · have hw := hw.1 c16
        refine zpick [0] (lv' := [(0, .ref (za Y t0))]) rfl ?_
        exact BX3_tick_121 hG t0 σ1 hw h0
      · have hw := hw.2 c16
        refine z_aload_n hG dX3_tick_71 rfl 0 rfl ?_
        obtain ⟨j3, ej3, hw⟩ := hw
        refine z_getr (kq := 8) hG f_X3_37 h0 rfl ej3 rfl (by decide) dX3_tick_72 (fun hj3 => ?_)
        refine z_iconst (v := 0) hG dX3_tick_75 (by decide) ?_
        refine z_iconst (v := 1) hG dX3_tick_76 (by decide) ?_
        refine z_calli hG (z_runV (As := [.int 0, .int 1]) (st := []) hG k_X3_144 (MX8_get l hj3 hw) ⟨(Nat.le_of_ble_eq_true rfl), (Nat.le_of_ble_eq_true rfl)⟩ hj3 (T := TX8) (N := 4) rfl (by decide) rfl (Nat.le_of_ble_eq_true rfl) dX3_tick_77 ⟨Nat.zero_le _, Nat.zero_le _⟩ rfl) (fun r5 σ4 hw => ?_)
        refine z_istore_n (lv' := [(2, .int r5), (0, .ref (za Y t0)), (1, .int v1)]) hG dX3_tick_80 rfl (by decide) rfl ?_
        refine z_aload_n hG dX3_tick_81 rfl 1 rfl ?_
        obtain ⟨j6, ej6, hw⟩ := hw
        refine z_getr (kq := 8) hG f_X3_37 h0 rfl ej6 rfl (by decide) dX3_tick_82 (fun hj6 => ?_)
        refine z_iconst (v := 0) hG dX3_tick_85 (by decide) ?_
        refine z_iconst (v := 2) hG dX3_tick_86 (by decide) ?_
        refine z_calli hG (z_runV (As := [.int 0, .int 2]) (st := []) hG k_X3_144 (MX8_get l hj6 hw) ⟨(Nat.le_of_ble_eq_true rfl), (Nat.le_of_ble_eq_true rfl)⟩ hj6 (T := TX8) (N := 4) rfl (by decide) rfl (Nat.le_of_ble_eq_true rfl) dX3_tick_87 ⟨Nat.zero_le _, Nat.zero_le _⟩ rfl) (fun r8 σ7 hw => ?_)
        refine z_istore_n (lv' := [(3, .int r8), (2, .int r5), (0, .ref (za Y t0)), (1, .int v1)]) hG dX3_tick_90 rfl (by decide) rfl ?_
        refine z_aload_n hG dX3_tick_91 rfl 2 rfl ?_
        obtain ⟨j9, ej9, hw⟩ := hw
        refine z_getr (kq := 8) hG f_X3_37 h0 rfl ej9 rfl (by decide) dX3_tick_92 (fun hj9 => ?_)
        refine z_callv hG (z_runV (As := []) (st := []) hG k_X3_148 (MX8_removeFirst l hj9 hw) ⟨(Nat.le_of_ble_eq_true rfl), (Nat.le_of_ble_eq_true rfl)⟩ hj9 (T := TX8) (N := 4) rfl (by decide) rfl (Nat.le_of_ble_eq_true rfl) dX3_tick_95 ⟨Nat.zero_le _, Nat.zero_le _⟩ rfl) (fun σ10 hw => ?_)
        refine z_iload_n hG dX3_tick_98 rfl 1 rfl ?_
        refine z_if_ne (tgt := 110) hG dX3_tick_99 (by decide) (fun c15 => ?_) (fun c15 => ?_)
        · have hw := hw.2 c15
          refine z_aload_n hG dX3_tick_110 rfl 2 rfl ?_
          refine z_iload_n hG dX3_tick_111 rfl 1 rfl ?_
          refine z_callv hG (z_runV (As := [.int r5]) (st := []) hG k_X3_154 (MX3_takeSignal l h0 hw) ⟨(Nat.le_of_ble_eq_true rfl), (Nat.le_of_ble_eq_true rfl)⟩ h0 (T := TX3) (N := 17) rfl (by decide) rfl (Nat.le_of_ble_eq_true rfl) dX3_tick_112 ⟨Nat.zero_le _, Nat.zero_le _⟩ rfl) (fun σ11 hw => ?_)
          obtain ⟨x12, ex12⟩ : ∃ y : Int32, y = v1 + (-1) := ⟨_, rfl⟩
          have hw := hw x12 ex12
          refine z_iinc (v := x12) (lv' := [(1, .int x12), (3, .int r8), (2, .int r5), (0, .ref (za Y t0))]) hG dX3_tick_115 3 rfl (by rw [ex12]; rfl) (by decide) rfl ?_
          refine z_goto (tgt := 60) hG dX3_tick_118 (by decide) ?_
          refine zpick [3, 0] (lv' := [(0, .ref (za Y t0)), (1, .int x12)]) rfl ?_
          exact ih t0 x12 σ11 hw h0
        · have hw := hw.1 c15
          refine z_aload_n hG dX3_tick_102 rfl 2 rfl ?_
          refine z_iload_n hG dX3_tick_103 rfl 0 rfl ?_
          refine z_callv hG (z_runV (As := [.int r8]) (st := []) hG k_X3_151 (MX3_takePulse l h0 hw) ⟨(Nat.le_of_ble_eq_true rfl), (Nat.le_of_ble_eq_true rfl)⟩ h0 (T := TX3) (N := 17) rfl (by decide) rfl (Nat.le_of_ble_eq_true rfl) dX3_tick_104 ⟨Nat.zero_le _, Nat.zero_le _⟩ rfl) (fun σ13 hw => ?_)
          refine z_goto (tgt := 115) hG dX3_tick_107 (by decide) ?_
          obtain ⟨x14, ex14⟩ : ∃ y : Int32, y = v1 + (-1) := ⟨_, rfl⟩
          have hw := hw x14 ex14
          refine z_iinc (v := x14) (lv' := [(1, .int x14), (3, .int r8), (2, .int r5), (0, .ref (za Y t0))]) hG dX3_tick_115 3 rfl (by rw [ex14]; rfl) (by decide) rfl ?_
          refine z_goto (tgt := 60) hG dX3_tick_118 (by decide) ?_
          refine zpick [3, 0] (lv' := [(0, .ref (za Y t0)), (1, .int x14)]) rfl ?_
          exact ih t0 x14 σ13 hw h0
set_option maxRecDepth 100000 in
set_option maxHeartbeats 4000000 in
theorem MX3_tick (l : Launch) {E : zE} {Y : zY} {σ : zS} {t0 : Nat} (h0 : zT Y 3 t0) {Q : zS → Prop} (hw : wX3_tick (zln Y) σ t0 Q) : ∀ sz, Met l yX3_tick (zw yX3_tick cX3_tick 4 none) rX3_tick (zPc E Y σ sz [.ref (za Y t0)]) (va_Qv Q (zB E Y sz) (zA Y sz)) 0 0 (zA Y sz) := by
  refine z_met (own := RX3) (Qc := fun sz => va_Qv Q (zB E Y sz) (zA Y sz)) (by decide +kernel) rfl (Nat.le_of_ble_eq_true rfl) ?_
  intro p e s m args below meth c hG hinit
  unfold wX3_tick at hw
  refine zlv (lv' := [(0, .ref (za Y t0))]) rfl ?_
  refine z_aload_n hG dX3_tick_0 rfl 0 rfl ?_
  refine z_dup hG dX3_tick_1 rfl ?_
  refine z_geti hG f_X3_59 h0 rfl dX3_tick_2 ?_
  refine z_iconst (v := 1) hG dX3_tick_5 (by decide) ?_
  refine z_iadd hG dX3_tick_6 ?_
  refine z_topi (fun x1 ex1 => ?_)
  have hw := hw x1 ex1
  refine z_puti hG f_X3_59 h0 rfl rfl (zN_int _) dX3_tick_7 ?_
  refine z_topσ (fun σ2 eσ2 => ?_)
  have hw := hw σ2 eσ2
  refine z_aload_n hG dX3_tick_10 rfl 0 rfl ?_
  obtain ⟨j3, ej3, hw⟩ := hw
  refine z_getr (kq := 4) hG f_X3_18 h0 rfl ej3 rfl (by decide) dX3_tick_11 (fun hj3 => ?_)
  refine z_aload_n hG dX3_tick_14 rfl 0 rfl ?_
  obtain ⟨j4, ej4, hw⟩ := hw
  refine z_getr (kq := 4) hG f_X3_18 h0 rfl ej4 rfl (by decide) dX3_tick_15 (fun hj4 => ?_)
  refine z_geti hG f_X3_126 hj4 rfl dX3_tick_18 ?_
  refine z_aload_n hG dX3_tick_21 rfl 0 rfl ?_
  obtain ⟨j5, ej5, hw⟩ := hw
  refine z_getr (kq := 6) hG f_X3_55 h0 rfl ej5 rfl (by decide) dX3_tick_22 (fun hj5 => ?_)
  refine z_calli hG (z_runV (As := []) (st := [.int (gi σ2 j4 1), .ref (za Y j3)]) hG k_X3_129 (MX6_circle l hj5 hw) ⟨(Nat.le_of_ble_eq_true rfl), (Nat.le_of_ble_eq_true rfl)⟩ hj5 (T := TX6) (N := 8) rfl (by decide) rfl (Nat.le_of_ble_eq_true rfl) dX3_tick_25 ⟨Nat.zero_le _, Nat.zero_le _⟩ rfl) (fun r7 σ6 hw => ?_)
  obtain ⟨x8, ex8⟩ : ∃ y : Int32, y = gi σ2 j4 1 := ⟨_, rfl⟩
  refine zst (st' := [.int r7, .int x8, .ref (za Y j3)]) (by rw [ex8]) ?_
  have hw := hw x8 ex8
  refine z_callv hG (z_runV (As := [.int x8, .int r7]) (st := []) hG k_X3_133 (MX4_turn l hj3 hw) ⟨(Nat.le_of_ble_eq_true rfl), (Nat.le_of_ble_eq_true rfl)⟩ hj3 (T := TX4) (N := 8) rfl (by decide) rfl (Nat.le_of_ble_eq_true rfl) dX3_tick_28 ⟨Nat.zero_le _, Nat.zero_le _⟩ rfl) (fun σ9 hw => ?_)
  refine z_aload_n hG dX3_tick_31 rfl 0 rfl ?_
  obtain ⟨j10, ej10, hw⟩ := hw
  refine z_getr (kq := 4) hG f_X3_22 h0 rfl ej10 rfl (by decide) dX3_tick_32 (fun hj10 => ?_)
  refine z_aload_n hG dX3_tick_35 rfl 0 rfl ?_
  obtain ⟨j11, ej11, hw⟩ := hw
  refine z_getr (kq := 4) hG f_X3_22 h0 rfl ej11 rfl (by decide) dX3_tick_36 (fun hj11 => ?_)
  refine z_geti hG f_X3_126 hj11 rfl dX3_tick_39 ?_
  refine z_aload_n hG dX3_tick_42 rfl 0 rfl ?_
  obtain ⟨j12, ej12, hw⟩ := hw
  refine z_getr (kq := 6) hG f_X3_55 h0 rfl ej12 rfl (by decide) dX3_tick_43 (fun hj12 => ?_)
  refine z_calli hG (z_runV (As := []) (st := [.int (gi σ9 j11 1), .ref (za Y j10)]) hG k_X3_129 (MX6_circle l hj12 hw) ⟨(Nat.le_of_ble_eq_true rfl), (Nat.le_of_ble_eq_true rfl)⟩ hj12 (T := TX6) (N := 8) rfl (by decide) rfl (Nat.le_of_ble_eq_true rfl) dX3_tick_46 ⟨Nat.zero_le _, Nat.zero_le _⟩ rfl) (fun r14 σ13 hw => ?_)
  obtain ⟨x15, ex15⟩ : ∃ y : Int32, y = gi σ9 j11 1 := ⟨_, rfl⟩
  refine zst (st' := [.int r14, .int x15, .ref (za Y j10)]) (by rw [ex15]) ?_
  have hw := hw x15 ex15
  refine z_callv hG (z_runV (As := [.int x15, .int r14]) (st := []) hG k_X3_133 (MX4_turn l hj10 hw) ⟨(Nat.le_of_ble_eq_true rfl), (Nat.le_of_ble_eq_true rfl)⟩ hj10 (T := TX4) (N := 8) rfl (by decide) rfl (Nat.le_of_ble_eq_true rfl) dX3_tick_49 ⟨Nat.zero_le _, Nat.zero_le _⟩ rfl) (fun σ16 hw => ?_)
  refine z_aload_n hG dX3_tick_52 rfl 0 rfl ?_
  obtain ⟨j17, ej17, hw⟩ := hw
  refine z_getr (kq := 8) hG f_X3_37 h0 rfl ej17 rfl (by decide) dX3_tick_53 (fun hj17 => ?_)
  refine z_calli hG (z_runV (As := []) (st := []) hG k_X3_137 (MX8_size l hj17 hw) ⟨(Nat.le_of_ble_eq_true rfl), (Nat.le_of_ble_eq_true rfl)⟩ hj17 (T := TX8) (N := 4) rfl (by decide) rfl (Nat.le_of_ble_eq_true rfl) dX3_tick_56 ⟨Nat.zero_le _, Nat.zero_le _⟩ rfl) (fun r19 σ18 hw => ?_)
  refine z_istore_n (lv' := [(1, .int r19), (0, .ref (za Y t0))]) hG dX3_tick_59 rfl (by decide) rfl ?_
  obtain ⟨n20, hw⟩ := hw
  refine zpick [1, 0] (lv' := [(0, .ref (za Y t0)), (1, .int r19)]) rfl ?_
  exact BX3_tick_60 hG n20 t0 r19 σ18 hw h0
-- TypeWheelTelegraph.run(I)I
def wxX11_run_34 (ln : Nat → Nat) (Q : Int32 → zS → Prop) (X : String → zS → Prop) : Nat → Nat → Int32 → Int32 → Int32 → zS → Prop
  | 0, _, _, _, _, _ => False
  | n + 1, t0, v1, v2, v3, σ => ((v1 ≤ v3 → ∃ j1 : Nat, gr σ t0 3 = some j1 ∧ Q ((gi σ j1 9) - v2) σ) ∧ (¬ v1 ≤ v3 → ∃ j2 : Nat, gr σ t0 3 = some j2 ∧ wX3_tick ln σ j2 (fun σ3 => ∀ x4 : Int32, x4 = v3 + 1 → (wxX11_run_34 ln Q X n) t0 v1 v2 x4 σ3)))
def wxX11_run (ln : Nat → Nat) (σ : zS) (t0 : Nat) (v1 : Int32) (Q : Int32 → zS → Prop) (X : String → zS → Prop) : Prop := wxX11_requireRange ln σ v1 1 2000 (fun σ1 => wxX11_requireTimeFor ln σ1 t0 v1 (fun σ3 => ∃ j5 : Nat, gr σ3 t0 5 = some j5 ∧ ∃ j6 : Nat, gr σ3 t0 3 = some j6 ∧ wX1_keep ln σ3 j5 j6 (fun σ7 => ∃ j8 : Nat, gr σ7 t0 3 = some j8 ∧ ∀ x9 : Int32, x9 = gi σ7 j8 9 → ∃ n10 : Nat, wxX11_run_34 ln Q X n10 t0 v1 x9 0 σ7)) X) X
abbrev rxX11_run : Room := { frames := 8, cells := 2, slots := 12, locals := 174 }
set_option maxRecDepth 100000 in
set_option maxHeartbeats 4000000 in
theorem BxX11_run_34 {l : Launch} {E : zE} {Y : zY} {p : Program} {e : Env} {s : State} {m : MethodId} {args : Array Value} {below : List Frame} {meth : Method} {c : Code} (hG : zG E p l s m args meth c cX11_run 4 RX11 (some .int) (zA Y s.heap.size)) (hlt : l.stackTraces = false) (hex : ∀ x ∈ c.exceptionTable.toList, False) {Q : Int32 → zS → Prop} {X : String → zS → Prop} : ∀ (n : Nat) (t0 : Nat) (v1 : Int32) (v2 : Int32) (v3 : Int32) (σ : zS) (cl sl : Nat), wxX11_run_34 (zln Y) Q X n t0 v1 v2 v3 σ → zT Y 11 t0 → cl + (0) ≤ 2 → sl + (0) ≤ 12 → WW E Y σ p l e rxX11_run s m args below meth c (zA Y s.heap.size) 4 cl sl (vx_MQ below (va_Qi Q (zB E Y s.heap.size) (zA Y s.heap.size)) (zX X E Y s.heap.size) args s 2 12 (zA Y s.heap.size)) [(0, .ref (za Y t0)), (1, .int v1), (2, .int v2), (3, .int v3)] 34 [] := by
  intro n
  induction n with
  | zero => intro t0 v1 v2 v3 σ cl sl hw
            exact hw.elim
  | succ n ih =>
    intro t0 v1 v2 v3 σ cl sl hw h0 hcl hsl
    rw [wxX11_run_34] at hw
    refine z_iload_n hG dX11_run_34 rfl 3 rfl ?_
    refine z_iload_n hG dX11_run_35 rfl 1 rfl ?_
    refine z_icmp_ge (tgt := 52) hG dX11_run_36 (by decide) (fun c5 => ?_) (fun c5 => ?_)
    · have hw := hw.1 c5
      refine z_aload_n hG dX11_run_52 rfl 0 rfl ?_
      obtain ⟨j1, ej1, hw⟩ := hw
      refine z_getr (kq := 3) hG f_X11_53 h0 rfl ej1 rfl (by decide) dX11_run_53 (fun hj1 => ?_)
      refine z_geti hG f_X11_238 hj1 rfl dX11_run_56 ?_
      refine z_iload_n hG dX11_run_59 rfl 2 rfl ?_
      refine z_isub hG dX11_run_60 ?_
      refine zwiden (k := 2) (n := 12) (by omega) (by omega) (zvx ?_)
      exact z_iret hG rfl rfl dX11_run_61 hw
    · have hw := hw.2 c5
      refine z_aload_n hG dX11_run_39 rfl 0 rfl ?_
      obtain ⟨j2, ej2, hw⟩ := hw
      refine z_getr (kq := 3) hG f_X11_53 h0 rfl ej2 rfl (by decide) dX11_run_40 (fun hj2 => ?_)
      refine z_callv hG (z_runV (As := []) (st := []) hG k_X11_276 (MX3_tick l hj2 hw) ⟨(Nat.le_of_ble_eq_true rfl), (Nat.le_of_ble_eq_true rfl)⟩ hj2 (T := TX3) (N := 17) rfl (by decide) rfl (Nat.le_of_ble_eq_true rfl) dX11_run_43 ⟨show cl + 0 + 0 ≤ 2 from by omega, show sl + 0 + 0 ≤ 12 from by omega⟩ rfl) (fun σ3 hw => ?_)
      obtain ⟨x4, ex4⟩ : ∃ y : Int32, y = v3 + 1 := ⟨_, rfl⟩
      have hw := hw x4 ex4
      refine z_iinc (v := x4) (lv' := [(3, .int x4), (0, .ref (za Y t0)), (1, .int v1), (2, .int v2)]) hG dX11_run_46 3 rfl (by rw [ex4]; rfl) (by decide) rfl ?_
      refine z_goto (tgt := 34) hG dX11_run_49 (by decide) ?_
      refine zpick [1, 2, 3, 0] (lv' := [(0, .ref (za Y t0)), (1, .int v1), (2, .int v2), (3, .int x4)]) rfl ?_
      exact ih t0 v1 v2 x4 σ3 _ _ hw h0 (by omega) (by omega)
set_option maxRecDepth 100000 in
set_option maxHeartbeats 4000000 in
theorem MxX11_run (l : Launch) (hlt : l.stackTraces = false) {E : zE} {Y : zY} {σ : zS} {t0 : Nat} {v1 : Int32} (h0 : zT Y 11 t0) {Q : Int32 → zS → Prop} {X : String → zS → Prop} (hw : wxX11_run (zln Y) σ t0 v1 Q X) : ∀ sz, vx_Met l yX11_run (zw yX11_run cX11_run 4 (some .int)) rxX11_run (zPc E Y σ sz [.ref (za Y t0), .int v1]) (va_Qi Q (zB E Y sz) (zA Y sz)) (zX X E Y sz) 2 12 (zA Y sz) := by
  refine z_metX (own := RX11) (Qc := fun sz => va_Qi Q (zB E Y sz) (zA Y sz)) (XC := fun sz => zX X E Y sz) (by decide +kernel) rfl (Nat.le_of_ble_eq_true rfl) ?_
  intro p e s m args below meth c hG hex
  unfold wxX11_run at hw
  refine zlv (lv' := [(0, .ref (za Y t0)), (1, .int v1)]) rfl ?_
  refine z_iload_n hG dX11_run_0 rfl 1 rfl ?_
  refine z_iconst (v := 1) hG dX11_run_1 (by decide) ?_
  refine z_sipush (v := 2000) hG dX11_run_2 (by decide) ?_
  refine z_callXv hG hex (z_runXS (As := [.int v1, .int 1, .int 2000]) (st := []) hG k_X11_265 (MxX11_requireRange l hlt hw) rfl rfl ⟨(Nat.le_of_ble_eq_true rfl), (Nat.le_of_ble_eq_true rfl)⟩ rfl (Nat.le_of_ble_eq_true rfl) dX11_run_5 ⟨show 0 + 1 ≤ 2 from by omega, show 0 + 6 ≤ 12 from by omega⟩ rfl) (show 0 + 1 ≤ 2 from by omega) (show 0 + 6 ≤ 12 from by omega) (fun σ1 hw => ?_)
  refine zwiden (k := 1) (n := 6) (by omega) (by omega) ?_
  refine z_aload_n hG dX11_run_8 rfl 0 rfl ?_
  refine z_iload_n hG dX11_run_9 rfl 1 rfl ?_
  refine z_callXv hG hex (z_runXV (As := [.int v1]) (st := []) hG k_X11_269 (MxX11_requireTimeFor l hlt h0 hw) rfl rfl ⟨(Nat.le_of_ble_eq_true rfl), (Nat.le_of_ble_eq_true rfl)⟩ h0 (T := TX11) (N := 9) rfl (by decide) rfl (Nat.le_of_ble_eq_true rfl) dX11_run_10 ⟨show 1 + 1 ≤ 2 from by omega, show 6 + 6 ≤ 12 from by omega⟩ rfl) (show 1 + 1 ≤ 2 from by omega) (show 6 + 6 ≤ 12 from by omega) (fun σ3 hw => ?_)
  refine zwiden (k := 2) (n := 12) (by omega) (by omega) ?_
  refine z_aload_n hG dX11_run_13 rfl 0 rfl ?_
  obtain ⟨j5, ej5, hw⟩ := hw
  refine z_getr (kq := 1) hG f_X11_63 h0 rfl ej5 rfl (by decide) dX11_run_14 (fun hj5 => ?_)
  refine z_aload_n hG dX11_run_17 rfl 0 rfl ?_
  obtain ⟨j6, ej6, hw⟩ := hw
  refine z_getr (kq := 3) hG f_X11_53 h0 rfl ej6 rfl (by decide) dX11_run_18 (fun hj6 => ?_)
  refine z_callv hG (z_runV (As := [.ref (za Y j6)]) (st := []) hG k_X11_272 (MX1_keep l hj5 hj6 hw) ⟨(Nat.le_of_ble_eq_true rfl), (Nat.le_of_ble_eq_true rfl)⟩ hj5 (T := TX1) (N := 3) rfl (by decide) rfl (Nat.le_of_ble_eq_true rfl) dX11_run_21 ⟨show 2 + 0 ≤ 2 from by omega, show 12 + 0 ≤ 12 from by omega⟩ rfl) (fun σ7 hw => ?_)
  refine z_aload_n hG dX11_run_24 rfl 0 rfl ?_
  obtain ⟨j8, ej8, hw⟩ := hw
  refine z_getr (kq := 3) hG f_X11_53 h0 rfl ej8 rfl (by decide) dX11_run_25 (fun hj8 => ?_)
  refine z_geti hG f_X11_238 hj8 rfl dX11_run_28 ?_
  refine z_topi (fun x9 ex9 => ?_)
  have hw := hw x9 ex9
  refine z_istore_n (lv' := [(2, .int x9), (0, .ref (za Y t0)), (1, .int v1)]) hG dX11_run_31 rfl (by decide) rfl ?_
  refine z_iconst (v := 0) hG dX11_run_32 (by decide) ?_
  refine z_istore_n (lv' := [(3, .int 0), (2, .int x9), (0, .ref (za Y t0)), (1, .int v1)]) hG dX11_run_33 rfl (by decide) rfl ?_
  obtain ⟨n10, hw⟩ := hw
  refine zpick [2, 3, 1, 0] (lv' := [(0, .ref (za Y t0)), (1, .int v1), (2, .int x9), (3, .int 0)]) rfl ?_
  refine zwiden (k := 2) (n := 12) (by omega) (by omega) ?_
  exact BxX11_run_34 hG hlt hex n10 t0 v1 x9 0 σ7 _ _ hw h0 (by omega) (by omega)
-- TypeWheelTelegraph.ticksMadeUntilDone(LTypeWheelTelegraph$Machine;I)I
def wX11_ticksMadeUntilDone_2 (ln : Nat → Nat) (Q : Int32 → zS → Prop) : Nat → Nat → Int32 → Int32 → zS → Prop
  | 0, _, _, _, _ => False
  | n + 1, t0, v1, v2, σ => ((v1 ≤ v2 → Q v2 σ) ∧ (¬ v1 ≤ v2 → (((gi σ t0 3) = (-1) → Q v2 σ) ∧ (¬ (gi σ t0 3) = (-1) → wX3_tick ln σ t0 (fun σ1 => ∀ x2 : Int32, x2 = v2 + 1 → (wX11_ticksMadeUntilDone_2 ln Q n) t0 v1 x2 σ1)))))
def wX11_ticksMadeUntilDone (ln : Nat → Nat) (σ : zS) (t0 : Nat) (v1 : Int32) (Q : Int32 → zS → Prop) : Prop := ∃ n1 : Nat, wX11_ticksMadeUntilDone_2 ln Q n1 t0 v1 0 σ
abbrev rX11_ticksMadeUntilDone : Room := { frames := 8, cells := 0, slots := 0, locals := 174 }
set_option maxRecDepth 100000 in
set_option maxHeartbeats 4000000 in
theorem BX11_ticksMadeUntilDone_2 {l : Launch} {E : zE} {Y : zY} {p : Program} {e : Env} {s : State} {m : MethodId} {args : Array Value} {below : List Frame} {meth : Method} {c : Code} (hG : zG E p l s m args meth c cX11_ticksMadeUntilDone 3 RX11 (some .int) (zA Y s.heap.size)) {Q : Int32 → zS → Prop} : ∀ (n : Nat) (t0 : Nat) (v1 : Int32) (v2 : Int32) (σ : zS), wX11_ticksMadeUntilDone_2 (zln Y) Q n t0 v1 v2 σ → zT Y 3 t0 → WW E Y σ p l e rX11_ticksMadeUntilDone s m args below meth c (zA Y s.heap.size) 3 0 0 (MQ below (va_Qi Q (zB E Y s.heap.size) (zA Y s.heap.size)) args s 0 0 (zA Y s.heap.size)) [(0, .ref (za Y t0)), (1, .int v1), (2, .int v2)] 2 [] := by
  intro n
  induction n with
  | zero => intro t0 v1 v2 σ hw
            exact hw.elim
  | succ n ih =>
    intro t0 v1 v2 σ hw h0
    rw [wX11_ticksMadeUntilDone_2] at hw
    refine z_iload_n hG dX11_ticksMadeUntilDone_2 rfl 2 rfl ?_
    refine z_iload_n hG dX11_ticksMadeUntilDone_3 rfl 1 rfl ?_
    refine z_icmp_ge (tgt := 25) hG dX11_ticksMadeUntilDone_4 (by decide) (fun c4 => ?_) (fun c4 => ?_)
    · have hw := hw.1 c4
      refine z_iload_n hG dX11_ticksMadeUntilDone_25 rfl 2 rfl ?_
      exact z_iret hG rfl rfl dX11_ticksMadeUntilDone_26 hw
    · have hw := hw.2 c4
      refine z_aload_n hG dX11_ticksMadeUntilDone_7 rfl 0 rfl ?_
      refine z_geti hG f_X11_197 h0 rfl dX11_ticksMadeUntilDone_8 ?_
      refine z_iconst (v := (-1)) hG dX11_ticksMadeUntilDone_11 (by decide) ?_
      refine z_icmp_eq (tgt := 25) hG dX11_ticksMadeUntilDone_12 (by decide) (fun c3 => ?_) (fun c3 => ?_)
      · have hw := hw.1 c3
        refine z_iload_n hG dX11_ticksMadeUntilDone_25 rfl 2 rfl ?_
        exact z_iret hG rfl rfl dX11_ticksMadeUntilDone_26 hw
      · have hw := hw.2 c3
        refine z_aload_n hG dX11_ticksMadeUntilDone_15 rfl 0 rfl ?_
        refine z_callv hG (z_runV (As := []) (st := []) hG k_X11_276 (MX3_tick l h0 hw) ⟨(Nat.le_of_ble_eq_true rfl), (Nat.le_of_ble_eq_true rfl)⟩ h0 (T := TX3) (N := 17) rfl (by decide) rfl (Nat.le_of_ble_eq_true rfl) dX11_ticksMadeUntilDone_16 ⟨Nat.zero_le _, Nat.zero_le _⟩ rfl) (fun σ1 hw => ?_)
        obtain ⟨x2, ex2⟩ : ∃ y : Int32, y = v2 + 1 := ⟨_, rfl⟩
        have hw := hw x2 ex2
        refine z_iinc (v := x2) (lv' := [(2, .int x2), (0, .ref (za Y t0)), (1, .int v1)]) hG dX11_ticksMadeUntilDone_19 2 rfl (by rw [ex2]; rfl) (by decide) rfl ?_
        refine z_goto (tgt := 2) hG dX11_ticksMadeUntilDone_22 (by decide) ?_
        refine zpick [1, 2, 0] (lv' := [(0, .ref (za Y t0)), (1, .int v1), (2, .int x2)]) rfl ?_
        exact ih t0 v1 x2 σ1 hw h0
set_option maxRecDepth 100000 in
set_option maxHeartbeats 4000000 in
theorem MX11_ticksMadeUntilDone (l : Launch) {E : zE} {Y : zY} {σ : zS} {t0 : Nat} {v1 : Int32} (h0 : zT Y 3 t0) {Q : Int32 → zS → Prop} (hw : wX11_ticksMadeUntilDone (zln Y) σ t0 v1 Q) : ∀ sz, Met l yX11_ticksMadeUntilDone (zw yX11_ticksMadeUntilDone cX11_ticksMadeUntilDone 3 (some .int)) rX11_ticksMadeUntilDone (zPc E Y σ sz [.ref (za Y t0), .int v1]) (va_Qi Q (zB E Y sz) (zA Y sz)) 0 0 (zA Y sz) := by
  refine z_met (own := RX11) (Qc := fun sz => va_Qi Q (zB E Y sz) (zA Y sz)) (by decide +kernel) rfl (Nat.le_of_ble_eq_true rfl) ?_
  intro p e s m args below meth c hG hinit
  unfold wX11_ticksMadeUntilDone at hw
  refine zlv (lv' := [(0, .ref (za Y t0)), (1, .int v1)]) rfl ?_
  refine z_iconst (v := 0) hG dX11_ticksMadeUntilDone_0 (by decide) ?_
  refine z_istore_n (lv' := [(2, .int 0), (0, .ref (za Y t0)), (1, .int v1)]) hG dX11_ticksMadeUntilDone_1 rfl (by decide) rfl ?_
  obtain ⟨n1, hw⟩ := hw
  refine zpick [1, 2, 0] (lv' := [(0, .ref (za Y t0)), (1, .int v1), (2, .int 0)]) rfl ?_
  exact BX11_ticksMadeUntilDone_2 hG n1 t0 v1 0 σ hw h0
-- TypeWheelTelegraph.runUntilDone(I)I
def wxX11_runUntilDone (ln : Nat → Nat) (σ : zS) (t0 : Nat) (v1 : Int32) (Q : Int32 → zS → Prop) (X : String → zS → Prop) : Prop := wxX11_requireRange ln σ v1 1 5000 (fun σ1 => wxX11_requireTimeFor ln σ1 t0 v1 (fun σ3 => ∃ j5 : Nat, gr σ3 t0 5 = some j5 ∧ ∃ j6 : Nat, gr σ3 t0 3 = some j6 ∧ wX1_keep ln σ3 j5 j6 (fun σ7 => ∃ j8 : Nat, gr σ7 t0 3 = some j8 ∧ wX11_ticksMadeUntilDone ln σ7 j8 v1 (fun r10 σ9 => Q r10 σ9))) X) X
abbrev rxX11_runUntilDone : Room := { frames := 9, cells := 2, slots := 12, locals := 196 }
set_option maxRecDepth 100000 in
set_option maxHeartbeats 4000000 in
theorem MxX11_runUntilDone (l : Launch) (hlt : l.stackTraces = false) {E : zE} {Y : zY} {σ : zS} {t0 : Nat} {v1 : Int32} (h0 : zT Y 11 t0) {Q : Int32 → zS → Prop} {X : String → zS → Prop} (hw : wxX11_runUntilDone (zln Y) σ t0 v1 Q X) : ∀ sz, vx_Met l yX11_runUntilDone (zw yX11_runUntilDone cX11_runUntilDone 2 (some .int)) rxX11_runUntilDone (zPc E Y σ sz [.ref (za Y t0), .int v1]) (va_Qi Q (zB E Y sz) (zA Y sz)) (zX X E Y sz) 2 12 (zA Y sz) := by
  refine z_metX (own := RX11) (Qc := fun sz => va_Qi Q (zB E Y sz) (zA Y sz)) (XC := fun sz => zX X E Y sz) (by decide +kernel) rfl (Nat.le_of_ble_eq_true rfl) ?_
  intro p e s m args below meth c hG hex
  unfold wxX11_runUntilDone at hw
  refine zlv (lv' := [(0, .ref (za Y t0)), (1, .int v1)]) rfl ?_
  refine z_iload_n hG dX11_runUntilDone_0 rfl 1 rfl ?_
  refine z_iconst (v := 1) hG dX11_runUntilDone_1 (by decide) ?_
  refine z_sipush (v := 5000) hG dX11_runUntilDone_2 (by decide) ?_
  refine z_callXv hG hex (z_runXS (As := [.int v1, .int 1, .int 5000]) (st := []) hG k_X11_265 (MxX11_requireRange l hlt hw) rfl rfl ⟨(Nat.le_of_ble_eq_true rfl), (Nat.le_of_ble_eq_true rfl)⟩ rfl (Nat.le_of_ble_eq_true rfl) dX11_runUntilDone_5 ⟨show 0 + 1 ≤ 2 from by omega, show 0 + 6 ≤ 12 from by omega⟩ rfl) (show 0 + 1 ≤ 2 from by omega) (show 0 + 6 ≤ 12 from by omega) (fun σ1 hw => ?_)
  refine zwiden (k := 1) (n := 6) (by omega) (by omega) ?_
  refine z_aload_n hG dX11_runUntilDone_8 rfl 0 rfl ?_
  refine z_iload_n hG dX11_runUntilDone_9 rfl 1 rfl ?_
  refine z_callXv hG hex (z_runXV (As := [.int v1]) (st := []) hG k_X11_269 (MxX11_requireTimeFor l hlt h0 hw) rfl rfl ⟨(Nat.le_of_ble_eq_true rfl), (Nat.le_of_ble_eq_true rfl)⟩ h0 (T := TX11) (N := 9) rfl (by decide) rfl (Nat.le_of_ble_eq_true rfl) dX11_runUntilDone_10 ⟨show 1 + 1 ≤ 2 from by omega, show 6 + 6 ≤ 12 from by omega⟩ rfl) (show 1 + 1 ≤ 2 from by omega) (show 6 + 6 ≤ 12 from by omega) (fun σ3 hw => ?_)
  refine zwiden (k := 2) (n := 12) (by omega) (by omega) ?_
  refine z_aload_n hG dX11_runUntilDone_13 rfl 0 rfl ?_
  obtain ⟨j5, ej5, hw⟩ := hw
  refine z_getr (kq := 1) hG f_X11_63 h0 rfl ej5 rfl (by decide) dX11_runUntilDone_14 (fun hj5 => ?_)
  refine z_aload_n hG dX11_runUntilDone_17 rfl 0 rfl ?_
  obtain ⟨j6, ej6, hw⟩ := hw
  refine z_getr (kq := 3) hG f_X11_53 h0 rfl ej6 rfl (by decide) dX11_runUntilDone_18 (fun hj6 => ?_)
  refine z_callv hG (z_runV (As := [.ref (za Y j6)]) (st := []) hG k_X11_272 (MX1_keep l hj5 hj6 hw) ⟨(Nat.le_of_ble_eq_true rfl), (Nat.le_of_ble_eq_true rfl)⟩ hj5 (T := TX1) (N := 3) rfl (by decide) rfl (Nat.le_of_ble_eq_true rfl) dX11_runUntilDone_21 ⟨show 2 + 0 ≤ 2 from by omega, show 12 + 0 ≤ 12 from by omega⟩ rfl) (fun σ7 hw => ?_)
  refine z_aload_n hG dX11_runUntilDone_24 rfl 0 rfl ?_
  obtain ⟨j8, ej8, hw⟩ := hw
  refine z_getr (kq := 3) hG f_X11_53 h0 rfl ej8 rfl (by decide) dX11_runUntilDone_25 (fun hj8 => ?_)
  refine z_iload_n hG dX11_runUntilDone_28 rfl 1 rfl ?_
  refine z_calli hG (z_runS (As := [.ref (za Y j8), .int v1]) (st := []) hG k_X11_279 (MX11_ticksMadeUntilDone l hj8 hw) ⟨(Nat.le_of_ble_eq_true rfl), (Nat.le_of_ble_eq_true rfl)⟩ rfl (Nat.le_of_ble_eq_true rfl) dX11_runUntilDone_29 ⟨show 2 + 0 ≤ 2 from by omega, show 12 + 0 ≤ 12 from by omega⟩ rfl) (fun r10 σ9 hw => ?_)
  refine zwiden (k := 2) (n := 12) (by omega) (by omega) (zvx ?_)
  exact z_iret hG rfl rfl dX11_runUntilDone_32 hw
-- TypeWheelTelegraph.start(I)I
def wxX11_start (ln : Nat → Nat) (σ : zS) (t0 : Nat) (v1 : Int32) (Q : Int32 → zS → Prop) (X : String → zS → Prop) : Prop := wxX11_officeAt ln σ t0 v1 (fun r2 σ1 => ∀ x3 : Int32, x3 = gi σ1 r2 2 → ∃ j4 : Nat, gr σ1 t0 3 = some j4 ∧ (((gi σ1 j4 3) = (-1) → wxX11_deskAt ln σ1 t0 v1 (fun r6 σ5 => ((x3 < (gi σ5 r6 2) → ∃ j7 : Nat, gr σ5 t0 5 = some j7 ∧ ∃ j8 : Nat, gr σ5 t0 3 = some j8 ∧ wX1_keep ln σ5 j7 j8 (fun σ9 => ∃ j10 : Nat, gr σ9 t0 3 = some j10 ∧ wX3_beginTransmission ln σ9 j10 v1 (fun σ11 => Q x3 σ11))) ∧ (¬ x3 < (gi σ5 r6 2) → X "java/lang/IllegalStateException" σ5))) X) ∧ (¬ (gi σ1 j4 3) = (-1) → X "java/lang/IllegalStateException" σ1))) X
abbrev rxX11_start : Room := { frames := 8, cells := 3, slots := 18, locals := 141 }
set_option maxRecDepth 100000 in
set_option maxHeartbeats 4000000 in
theorem MxX11_start (l : Launch) (hlt : l.stackTraces = false) {E : zE} {Y : zY} {σ : zS} {t0 : Nat} {v1 : Int32} (h0 : zT Y 11 t0) {Q : Int32 → zS → Prop} {X : String → zS → Prop} (hw : wxX11_start (zln Y) σ t0 v1 Q X) : ∀ sz, vx_Met l yX11_start (zw yX11_start cX11_start 3 (some .int)) rxX11_start (zPc E Y σ sz [.ref (za Y t0), .int v1]) (va_Qi Q (zB E Y sz) (zA Y sz)) (zX X E Y sz) 3 18 (zA Y sz) := by
  refine z_metX (own := RX11) (Qc := fun sz => va_Qi Q (zB E Y sz) (zA Y sz)) (XC := fun sz => zX X E Y sz) (by decide +kernel) rfl (Nat.le_of_ble_eq_true rfl) ?_
  intro p e s m args below meth c hG hex
  unfold wxX11_start at hw
  refine zlv (lv' := [(0, .ref (za Y t0)), (1, .int v1)]) rfl ?_
  refine z_aload_n hG dX11_start_0 rfl 0 rfl ?_
  refine z_iload_n hG dX11_start_1 rfl 1 rfl ?_
  refine z_callXr hG hex (z_runXV (As := [.int v1]) (st := []) hG k_X11_123 (MxX11_officeAt l hlt h0 hw) rfl rfl ⟨(Nat.le_of_ble_eq_true rfl), (Nat.le_of_ble_eq_true rfl)⟩ h0 (T := TX11) (N := 9) rfl (by decide) rfl (Nat.le_of_ble_eq_true rfl) dX11_start_2 ⟨show 0 + 1 ≤ 3 from by omega, show 0 + 6 ≤ 18 from by omega⟩ rfl) (show 0 + 1 ≤ 3 from by omega) (show 0 + 6 ≤ 18 from by omega) (fun r2 σ1 hr2 hw => ?_)
  refine zwiden (k := 1) (n := 6) (by omega) (by omega) ?_
  refine z_geti hG f_X11_166 hr2 rfl dX11_start_5 ?_
  refine z_topi (fun x3 ex3 => ?_)
  have hw := hw x3 ex3
  refine z_istore_n (lv' := [(2, .int x3), (0, .ref (za Y t0)), (1, .int v1)]) hG dX11_start_8 rfl (by decide) rfl ?_
  refine z_aload_n hG dX11_start_9 rfl 1 rfl ?_
  obtain ⟨j4, ej4, hw⟩ := hw
  refine z_getr (kq := 3) hG f_X11_53 h0 rfl ej4 rfl (by decide) dX11_start_10 (fun hj4 => ?_)
  refine z_geti hG f_X11_197 hj4 rfl dX11_start_13 ?_
  refine z_iconst (v := (-1)) hG dX11_start_16 (by decide) ?_
  refine z_icmp_eq (tgt := 31) hG dX11_start_17 (by decide) (fun c13 => ?_) (fun c13 => ?_)
  · have hw := hw.1 c13
    refine z_iload_n hG dX11_start_31 rfl 0 rfl ?_
    refine z_aload_n hG dX11_start_32 rfl 1 rfl ?_
    refine z_iload_n hG dX11_start_33 rfl 2 rfl ?_
    refine z_callXr hG hex (z_runXV (As := [.int v1]) (st := [.int x3]) hG k_X11_162 (MxX11_deskAt l hlt h0 hw) rfl rfl ⟨(Nat.le_of_ble_eq_true rfl), (Nat.le_of_ble_eq_true rfl)⟩ h0 (T := TX11) (N := 9) rfl (by decide) rfl (Nat.le_of_ble_eq_true rfl) dX11_start_34 ⟨show 1 + 1 ≤ 3 from by omega, show 6 + 6 ≤ 18 from by omega⟩ rfl) (show 1 + 1 ≤ 3 from by omega) (show 6 + 6 ≤ 18 from by omega) (fun r6 σ5 hr6 hw => ?_)
    refine zwiden (k := 2) (n := 12) (by omega) (by omega) ?_
    refine z_geti hG f_X11_109 hr6 rfl dX11_start_37 ?_
    refine z_icmp_lt (tgt := 54) hG dX11_start_40 (by decide) (fun c12 => ?_) (fun c12 => ?_)
    · have hw := hw.1 c12
      refine z_aload_n hG dX11_start_54 rfl 1 rfl ?_
      obtain ⟨j7, ej7, hw⟩ := hw
      refine z_getr (kq := 1) hG f_X11_63 h0 rfl ej7 rfl (by decide) dX11_start_55 (fun hj7 => ?_)
      refine z_aload_n hG dX11_start_58 rfl 1 rfl ?_
      obtain ⟨j8, ej8, hw⟩ := hw
      refine z_getr (kq := 3) hG f_X11_53 h0 rfl ej8 rfl (by decide) dX11_start_59 (fun hj8 => ?_)
      refine z_callv hG (z_runV (As := [.ref (za Y j8)]) (st := []) hG k_X11_272 (MX1_keep l hj7 hj8 hw) ⟨(Nat.le_of_ble_eq_true rfl), (Nat.le_of_ble_eq_true rfl)⟩ hj7 (T := TX1) (N := 3) rfl (by decide) rfl (Nat.le_of_ble_eq_true rfl) dX11_start_62 ⟨show 2 + 0 ≤ 3 from by omega, show 12 + 0 ≤ 18 from by omega⟩ rfl) (fun σ9 hw => ?_)
      refine z_aload_n hG dX11_start_65 rfl 1 rfl ?_
      obtain ⟨j10, ej10, hw⟩ := hw
      refine z_getr (kq := 3) hG f_X11_53 h0 rfl ej10 rfl (by decide) dX11_start_66 (fun hj10 => ?_)
      refine z_iload_n hG dX11_start_69 rfl 2 rfl ?_
      refine z_callv hG (z_runV (As := [.int v1]) (st := []) hG k_X11_287 (MX3_beginTransmission l hj10 hw) ⟨(Nat.le_of_ble_eq_true rfl), (Nat.le_of_ble_eq_true rfl)⟩ hj10 (T := TX3) (N := 17) rfl (by decide) rfl (Nat.le_of_ble_eq_true rfl) dX11_start_70 ⟨show 2 + 0 ≤ 3 from by omega, show 12 + 0 ≤ 18 from by omega⟩ rfl) (fun σ11 hw => ?_)
      refine z_iload_n hG dX11_start_73 rfl 0 rfl ?_
      refine zwiden (k := 3) (n := 18) (by omega) (by omega) (zvx ?_)
      exact z_iret hG rfl rfl dX11_start_74 hw
    · have hw := hw.2 c12
      exact z_throwSW (i := 21) (tx := "all lines of the office are done") hG hlt hex thr_ISE (by decide +kernel) dX11_start_43 dX11_start_46 dX11_start_47 dX11_start_50 dX11_start_53 (Nat.le_of_ble_eq_true rfl) (Nat.le_of_ble_eq_true rfl) (show 2 + 1 ≤ 3 from by omega) (show 12 + 6 ≤ 18 from by omega) (show 2 + 1 ≤ 3 from by omega) (show 12 + 6 ≤ 18 from by omega) hw
  · have hw := hw.2 c13
    exact z_throwSW (i := 20) (tx := "there is a sender") hG hlt hex thr_ISE (by decide +kernel) dX11_start_20 dX11_start_23 dX11_start_24 dX11_start_27 dX11_start_30 (Nat.le_of_ble_eq_true rfl) (Nat.le_of_ble_eq_true rfl) (show 1 + 1 ≤ 3 from by omega) (show 6 + 6 ≤ 18 from by omega) (show 1 + 1 ≤ 3 from by omega) (show 6 + 6 ≤ 18 from by omega) hw
-- TypeWheelTelegraph.breakIn()I
def wxX11_breakIn (ln : Nat → Nat) (σ : zS) (t0 : Nat) (Q : Int32 → zS → Prop) (X : String → zS → Prop) : Prop := ∃ j1 : Nat, gr σ t0 3 = some j1 ∧ (((gi σ j1 3) = (-1) → X "java/lang/IllegalStateException" σ) ∧ (¬ (gi σ j1 3) = (-1) → ∃ j2 : Nat, gr σ t0 5 = some j2 ∧ ∃ j3 : Nat, gr σ t0 3 = some j3 ∧ wX1_keep ln σ j2 j3 (fun σ4 => ∃ j5 : Nat, gr σ4 t0 3 = some j5 ∧ wX3_sendBreak ln σ4 j5 (fun r7 σ6 => Q r7 σ6))))
abbrev rxX11_breakIn : Room := { frames := 6, cells := 1, slots := 6, locals := 133 }
set_option maxRecDepth 100000 in
set_option maxHeartbeats 4000000 in
theorem MxX11_breakIn (l : Launch) (hlt : l.stackTraces = false) {E : zE} {Y : zY} {σ : zS} {t0 : Nat} (h0 : zT Y 11 t0) {Q : Int32 → zS → Prop} {X : String → zS → Prop} (hw : wxX11_breakIn (zln Y) σ t0 Q X) : ∀ sz, vx_Met l yX11_breakIn (zw yX11_breakIn cX11_breakIn 1 (some .int)) rxX11_breakIn (zPc E Y σ sz [.ref (za Y t0)]) (va_Qi Q (zB E Y sz) (zA Y sz)) (zX X E Y sz) 1 6 (zA Y sz) := by
  refine z_metX (own := RX11) (Qc := fun sz => va_Qi Q (zB E Y sz) (zA Y sz)) (XC := fun sz => zX X E Y sz) (by decide +kernel) rfl (Nat.le_of_ble_eq_true rfl) ?_
  intro p e s m args below meth c hG hex
  unfold wxX11_breakIn at hw
  refine zlv (lv' := [(0, .ref (za Y t0))]) rfl ?_
  refine z_aload_n hG dX11_breakIn_0 rfl 0 rfl ?_
  obtain ⟨j1, ej1, hw⟩ := hw
  refine z_getr (kq := 3) hG f_X11_53 h0 rfl ej1 rfl (by decide) dX11_breakIn_1 (fun hj1 => ?_)
  refine z_geti hG f_X11_197 hj1 rfl dX11_breakIn_4 ?_
  refine z_iconst (v := (-1)) hG dX11_breakIn_7 (by decide) ?_
  refine z_icmp_ne (tgt := 22) hG dX11_breakIn_8 (by decide) (fun c8 => ?_) (fun c8 => ?_)
  · have hw := hw.2 c8
    refine z_aload_n hG dX11_breakIn_22 rfl 0 rfl ?_
    obtain ⟨j2, ej2, hw⟩ := hw
    refine z_getr (kq := 1) hG f_X11_63 h0 rfl ej2 rfl (by decide) dX11_breakIn_23 (fun hj2 => ?_)
    refine z_aload_n hG dX11_breakIn_26 rfl 0 rfl ?_
    obtain ⟨j3, ej3, hw⟩ := hw
    refine z_getr (kq := 3) hG f_X11_53 h0 rfl ej3 rfl (by decide) dX11_breakIn_27 (fun hj3 => ?_)
    refine z_callv hG (z_runV (As := [.ref (za Y j3)]) (st := []) hG k_X11_272 (MX1_keep l hj2 hj3 hw) ⟨(Nat.le_of_ble_eq_true rfl), (Nat.le_of_ble_eq_true rfl)⟩ hj2 (T := TX1) (N := 3) rfl (by decide) rfl (Nat.le_of_ble_eq_true rfl) dX11_breakIn_30 ⟨show 0 + 0 ≤ 1 from by omega, show 0 + 0 ≤ 6 from by omega⟩ rfl) (fun σ4 hw => ?_)
    refine z_aload_n hG dX11_breakIn_33 rfl 0 rfl ?_
    obtain ⟨j5, ej5, hw⟩ := hw
    refine z_getr (kq := 3) hG f_X11_53 h0 rfl ej5 rfl (by decide) dX11_breakIn_34 (fun hj5 => ?_)
    refine z_calli hG (z_runV (As := []) (st := []) hG k_X11_292 (MX3_sendBreak l hj5 hw) ⟨(Nat.le_of_ble_eq_true rfl), (Nat.le_of_ble_eq_true rfl)⟩ hj5 (T := TX3) (N := 17) rfl (by decide) rfl (Nat.le_of_ble_eq_true rfl) dX11_breakIn_37 ⟨show 0 + 0 ≤ 1 from by omega, show 0 + 0 ≤ 6 from by omega⟩ rfl) (fun r7 σ6 hw => ?_)
    refine zwiden (k := 1) (n := 6) (by omega) (by omega) (zvx ?_)
    exact z_iret hG rfl rfl dX11_breakIn_40 hw
  · have hw := hw.1 c8
    exact z_throwSW (i := 22) (tx := "there is no sender") hG hlt hex thr_ISE (by decide +kernel) dX11_breakIn_11 dX11_breakIn_14 dX11_breakIn_15 dX11_breakIn_18 dX11_breakIn_21 (Nat.le_of_ble_eq_true rfl) (Nat.le_of_ble_eq_true rfl) (show 0 + 1 ≤ 1 from by omega) (show 0 + 6 ≤ 6 from by omega) (show 0 + 1 ≤ 1 from by omega) (show 0 + 6 ≤ 6 from by omega) hw
-- TypeWheelTelegraph.setRate(II)I
def wxX11_setRate (ln : Nat → Nat) (σ : zS) (t0 : Nat) (v1 : Int32) (v2 : Int32) (Q : Int32 → zS → Prop) (X : String → zS → Prop) : Prop := wxX11_officeAt ln σ t0 v1 (fun r2 σ1 => wxX11_requireRange ln σ1 v2 10 999 (fun σ3 => ∃ j5 : Nat, gr σ3 t0 5 = some j5 ∧ ∃ j6 : Nat, gr σ3 t0 3 = some j6 ∧ wX1_keep ln σ3 j5 j6 (fun σ7 => ∀ x8 : Int32, x8 = gi σ7 r2 1 → ∀ σ9 : zS, σ9 = si σ7 r2 1 v2 → Q x8 σ9)) X) X
abbrev rxX11_setRate : Room := { frames := 8, cells := 2, slots := 12, locals := 141 }
set_option maxRecDepth 100000 in
set_option maxHeartbeats 4000000 in
theorem MxX11_setRate (l : Launch) (hlt : l.stackTraces = false) {E : zE} {Y : zY} {σ : zS} {t0 : Nat} {v1 : Int32} {v2 : Int32} (h0 : zT Y 11 t0) {Q : Int32 → zS → Prop} {X : String → zS → Prop} (hw : wxX11_setRate (zln Y) σ t0 v1 v2 Q X) : ∀ sz, vx_Met l yX11_setRate (zw yX11_setRate cX11_setRate 5 (some .int)) rxX11_setRate (zPc E Y σ sz [.ref (za Y t0), .int v1, .int v2]) (va_Qi Q (zB E Y sz) (zA Y sz)) (zX X E Y sz) 2 12 (zA Y sz) := by
  refine z_metX (own := RX11) (Qc := fun sz => va_Qi Q (zB E Y sz) (zA Y sz)) (XC := fun sz => zX X E Y sz) (by decide +kernel) rfl (Nat.le_of_ble_eq_true rfl) ?_
  intro p e s m args below meth c hG hex
  unfold wxX11_setRate at hw
  refine zlv (lv' := [(0, .ref (za Y t0)), (1, .int v1), (2, .int v2)]) rfl ?_
  refine z_aload_n hG dX11_setRate_0 rfl 0 rfl ?_
  refine z_iload_n hG dX11_setRate_1 rfl 1 rfl ?_
  refine z_callXr hG hex (z_runXV (As := [.int v1]) (st := []) hG k_X11_123 (MxX11_officeAt l hlt h0 hw) rfl rfl ⟨(Nat.le_of_ble_eq_true rfl), (Nat.le_of_ble_eq_true rfl)⟩ h0 (T := TX11) (N := 9) rfl (by decide) rfl (Nat.le_of_ble_eq_true rfl) dX11_setRate_2 ⟨show 0 + 1 ≤ 2 from by omega, show 0 + 6 ≤ 12 from by omega⟩ rfl) (show 0 + 1 ≤ 2 from by omega) (show 0 + 6 ≤ 12 from by omega) (fun r2 σ1 hr2 hw => ?_)
  refine zwiden (k := 1) (n := 6) (by omega) (by omega) ?_
  refine z_astore_n (lv' := [(3, .ref (za Y r2)), (0, .ref (za Y t0)), (1, .int v1), (2, .int v2)]) hG dX11_setRate_5 rfl (by decide) rfl ?_
  refine z_iload_n hG dX11_setRate_6 rfl 3 rfl ?_
  refine z_bipush (v := 10) hG dX11_setRate_7 (by decide) ?_
  refine z_sipush (v := 999) hG dX11_setRate_9 (by decide) ?_
  refine z_callXv hG hex (z_runXS (As := [.int v2, .int 10, .int 999]) (st := []) hG k_X11_265 (MxX11_requireRange l hlt hw) rfl rfl ⟨(Nat.le_of_ble_eq_true rfl), (Nat.le_of_ble_eq_true rfl)⟩ rfl (Nat.le_of_ble_eq_true rfl) dX11_setRate_12 ⟨show 1 + 1 ≤ 2 from by omega, show 6 + 6 ≤ 12 from by omega⟩ rfl) (show 1 + 1 ≤ 2 from by omega) (show 6 + 6 ≤ 12 from by omega) (fun σ3 hw => ?_)
  refine zwiden (k := 2) (n := 12) (by omega) (by omega) ?_
  refine z_aload_n hG dX11_setRate_15 rfl 1 rfl ?_
  obtain ⟨j5, ej5, hw⟩ := hw
  refine z_getr (kq := 1) hG f_X11_63 h0 rfl ej5 rfl (by decide) dX11_setRate_16 (fun hj5 => ?_)
  refine z_aload_n hG dX11_setRate_19 rfl 1 rfl ?_
  obtain ⟨j6, ej6, hw⟩ := hw
  refine z_getr (kq := 3) hG f_X11_53 h0 rfl ej6 rfl (by decide) dX11_setRate_20 (fun hj6 => ?_)
  refine z_callv hG (z_runV (As := [.ref (za Y j6)]) (st := []) hG k_X11_272 (MX1_keep l hj5 hj6 hw) ⟨(Nat.le_of_ble_eq_true rfl), (Nat.le_of_ble_eq_true rfl)⟩ hj5 (T := TX1) (N := 3) rfl (by decide) rfl (Nat.le_of_ble_eq_true rfl) dX11_setRate_23 ⟨show 2 + 0 ≤ 2 from by omega, show 12 + 0 ≤ 12 from by omega⟩ rfl) (fun σ7 hw => ?_)
  refine z_aload_n hG dX11_setRate_26 rfl 0 rfl ?_
  refine z_geti hG f_X11_132 hr2 rfl dX11_setRate_27 ?_
  refine z_topi (fun x8 ex8 => ?_)
  have hw := hw x8 ex8
  refine z_istore (lv' := [(4, .int x8), (3, .ref (za Y r2)), (0, .ref (za Y t0)), (1, .int v1), (2, .int v2)]) hG dX11_setRate_30 (by decide) rfl ?_
  refine z_aload_n hG dX11_setRate_32 rfl 1 rfl ?_
  refine z_iload_n hG dX11_setRate_33 rfl 4 rfl ?_
  refine z_puti hG f_X11_132 hr2 rfl rfl (zN_int _) dX11_setRate_34 ?_
  refine z_topσ (fun σ9 eσ9 => ?_)
  have hw := hw σ9 eσ9
  refine z_iload hG dX11_setRate_37 0 rfl ?_
  refine zwiden (k := 2) (n := 12) (by omega) (by omega) (zvx ?_)
  exact z_iret hG rfl rfl dX11_setRate_39 hw
-- TypeWheelTelegraph.nudge(II)I
def wxX11_nudge (ln : Nat → Nat) (σ : zS) (t0 : Nat) (v1 : Int32) (v2 : Int32) (Q : Int32 → zS → Prop) (X : String → zS → Prop) : Prop := wxX11_officeAt ln σ t0 v1 (fun r2 σ1 => wxX11_requireRange ln σ1 v2 (-14000) 14000 (fun σ3 => ∃ j5 : Nat, gr σ3 t0 5 = some j5 ∧ ∃ j6 : Nat, gr σ3 t0 3 = some j6 ∧ wX1_keep ln σ3 j5 j6 (fun σ7 => ∃ j8 : Nat, gr σ7 t0 6 = some j8 ∧ wX6_circle ln σ7 j8 (fun r10 σ9 => wX4_turn ln σ9 r2 v2 r10 (fun σ11 => Q (gi σ11 r2 0) σ11)))) X) X
abbrev rxX11_nudge : Room := { frames := 8, cells := 2, slots := 12, locals := 141 }
set_option maxRecDepth 100000 in
set_option maxHeartbeats 4000000 in
theorem MxX11_nudge (l : Launch) (hlt : l.stackTraces = false) {E : zE} {Y : zY} {σ : zS} {t0 : Nat} {v1 : Int32} {v2 : Int32} (h0 : zT Y 11 t0) {Q : Int32 → zS → Prop} {X : String → zS → Prop} (hw : wxX11_nudge (zln Y) σ t0 v1 v2 Q X) : ∀ sz, vx_Met l yX11_nudge (zw yX11_nudge cX11_nudge 4 (some .int)) rxX11_nudge (zPc E Y σ sz [.ref (za Y t0), .int v1, .int v2]) (va_Qi Q (zB E Y sz) (zA Y sz)) (zX X E Y sz) 2 12 (zA Y sz) := by
  refine z_metX (own := RX11) (Qc := fun sz => va_Qi Q (zB E Y sz) (zA Y sz)) (XC := fun sz => zX X E Y sz) (by decide +kernel) rfl (Nat.le_of_ble_eq_true rfl) ?_
  intro p e s m args below meth c hG hex
  unfold wxX11_nudge at hw
  refine zlv (lv' := [(0, .ref (za Y t0)), (1, .int v1), (2, .int v2)]) rfl ?_
  refine z_aload_n hG dX11_nudge_0 rfl 0 rfl ?_
  refine z_iload_n hG dX11_nudge_1 rfl 1 rfl ?_
  refine z_callXr hG hex (z_runXV (As := [.int v1]) (st := []) hG k_X11_123 (MxX11_officeAt l hlt h0 hw) rfl rfl ⟨(Nat.le_of_ble_eq_true rfl), (Nat.le_of_ble_eq_true rfl)⟩ h0 (T := TX11) (N := 9) rfl (by decide) rfl (Nat.le_of_ble_eq_true rfl) dX11_nudge_2 ⟨show 0 + 1 ≤ 2 from by omega, show 0 + 6 ≤ 12 from by omega⟩ rfl) (show 0 + 1 ≤ 2 from by omega) (show 0 + 6 ≤ 12 from by omega) (fun r2 σ1 hr2 hw => ?_)
  refine zwiden (k := 1) (n := 6) (by omega) (by omega) ?_
  refine z_astore_n (lv' := [(3, .ref (za Y r2)), (0, .ref (za Y t0)), (1, .int v1), (2, .int v2)]) hG dX11_nudge_5 rfl (by decide) rfl ?_
  refine z_iload_n hG dX11_nudge_6 rfl 3 rfl ?_
  refine z_sipush (v := (-14000)) hG dX11_nudge_7 (by decide) ?_
  refine z_sipush (v := 14000) hG dX11_nudge_10 (by decide) ?_
  refine z_callXv hG hex (z_runXS (As := [.int v2, .int (-14000), .int 14000]) (st := []) hG k_X11_265 (MxX11_requireRange l hlt hw) rfl rfl ⟨(Nat.le_of_ble_eq_true rfl), (Nat.le_of_ble_eq_true rfl)⟩ rfl (Nat.le_of_ble_eq_true rfl) dX11_nudge_13 ⟨show 1 + 1 ≤ 2 from by omega, show 6 + 6 ≤ 12 from by omega⟩ rfl) (show 1 + 1 ≤ 2 from by omega) (show 6 + 6 ≤ 12 from by omega) (fun σ3 hw => ?_)
  refine zwiden (k := 2) (n := 12) (by omega) (by omega) ?_
  refine z_aload_n hG dX11_nudge_16 rfl 1 rfl ?_
  obtain ⟨j5, ej5, hw⟩ := hw
  refine z_getr (kq := 1) hG f_X11_63 h0 rfl ej5 rfl (by decide) dX11_nudge_17 (fun hj5 => ?_)
  refine z_aload_n hG dX11_nudge_20 rfl 1 rfl ?_
  obtain ⟨j6, ej6, hw⟩ := hw
  refine z_getr (kq := 3) hG f_X11_53 h0 rfl ej6 rfl (by decide) dX11_nudge_21 (fun hj6 => ?_)
  refine z_callv hG (z_runV (As := [.ref (za Y j6)]) (st := []) hG k_X11_272 (MX1_keep l hj5 hj6 hw) ⟨(Nat.le_of_ble_eq_true rfl), (Nat.le_of_ble_eq_true rfl)⟩ hj5 (T := TX1) (N := 3) rfl (by decide) rfl (Nat.le_of_ble_eq_true rfl) dX11_nudge_24 ⟨show 2 + 0 ≤ 2 from by omega, show 12 + 0 ≤ 12 from by omega⟩ rfl) (fun σ7 hw => ?_)
  refine z_aload_n hG dX11_nudge_27 rfl 0 rfl ?_
  refine z_iload_n hG dX11_nudge_28 rfl 3 rfl ?_
  refine z_aload_n hG dX11_nudge_29 rfl 1 rfl ?_
  obtain ⟨j8, ej8, hw⟩ := hw
  refine z_getr (kq := 6) hG f_X11_37 h0 rfl ej8 rfl (by decide) dX11_nudge_30 (fun hj8 => ?_)
  refine z_calli hG (z_runV (As := []) (st := [.int v2, .ref (za Y r2)]) hG k_X11_159 (MX6_circle l hj8 hw) ⟨(Nat.le_of_ble_eq_true rfl), (Nat.le_of_ble_eq_true rfl)⟩ hj8 (T := TX6) (N := 8) rfl (by decide) rfl (Nat.le_of_ble_eq_true rfl) dX11_nudge_33 ⟨show 2 + 0 ≤ 2 from by omega, show 12 + 0 ≤ 12 from by omega⟩ rfl) (fun r10 σ9 hw => ?_)
  refine z_callv hG (z_runV (As := [.int v2, .int r10]) (st := []) hG k_X11_295 (MX4_turn l hr2 hw) ⟨(Nat.le_of_ble_eq_true rfl), (Nat.le_of_ble_eq_true rfl)⟩ hr2 (T := TX4) (N := 8) rfl (by decide) rfl (Nat.le_of_ble_eq_true rfl) dX11_nudge_36 ⟨show 2 + 0 ≤ 2 from by omega, show 12 + 0 ≤ 12 from by omega⟩ rfl) (fun σ11 hw => ?_)
  refine z_aload_n hG dX11_nudge_39 rfl 0 rfl ?_
  refine z_geti hG f_X11_127 hr2 rfl dX11_nudge_40 ?_
  refine zwiden (k := 2) (n := 12) (by omega) (by omega) (zvx ?_)
  exact z_iret hG rfl rfl dX11_nudge_43 hw
-- TypeWheelTelegraph.setCorrection(I)I
def wxX11_setCorrection (ln : Nat → Nat) (σ : zS) (t0 : Nat) (v1 : Int32) (Q : Int32 → zS → Prop) (X : String → zS → Prop) : Prop := wxX11_requireRange ln σ v1 0 500 (fun σ1 => ∃ j3 : Nat, gr σ1 t0 5 = some j3 ∧ ∃ j4 : Nat, gr σ1 t0 3 = some j4 ∧ wX1_keep ln σ1 j3 j4 (fun σ5 => ∃ j6 : Nat, gr σ5 t0 3 = some j6 ∧ ∀ x7 : Int32, x7 = gi σ5 j6 2 → ∃ j8 : Nat, gr σ5 t0 3 = some j8 ∧ ∀ σ9 : zS, σ9 = si σ5 j8 2 v1 → Q x7 σ9)) X
abbrev rxX11_setCorrection : Room := { frames := 7, cells := 1, slots := 6, locals := 133 }
set_option maxRecDepth 100000 in
set_option maxHeartbeats 4000000 in
theorem MxX11_setCorrection (l : Launch) (hlt : l.stackTraces = false) {E : zE} {Y : zY} {σ : zS} {t0 : Nat} {v1 : Int32} (h0 : zT Y 11 t0) {Q : Int32 → zS → Prop} {X : String → zS → Prop} (hw : wxX11_setCorrection (zln Y) σ t0 v1 Q X) : ∀ sz, vx_Met l yX11_setCorrection (zw yX11_setCorrection cX11_setCorrection 3 (some .int)) rxX11_setCorrection (zPc E Y σ sz [.ref (za Y t0), .int v1]) (va_Qi Q (zB E Y sz) (zA Y sz)) (zX X E Y sz) 1 6 (zA Y sz) := by
  refine z_metX (own := RX11) (Qc := fun sz => va_Qi Q (zB E Y sz) (zA Y sz)) (XC := fun sz => zX X E Y sz) (by decide +kernel) rfl (Nat.le_of_ble_eq_true rfl) ?_
  intro p e s m args below meth c hG hex
  unfold wxX11_setCorrection at hw
  refine zlv (lv' := [(0, .ref (za Y t0)), (1, .int v1)]) rfl ?_
  refine z_iload_n hG dX11_setCorrection_0 rfl 1 rfl ?_
  refine z_iconst (v := 0) hG dX11_setCorrection_1 (by decide) ?_
  refine z_sipush (v := 500) hG dX11_setCorrection_2 (by decide) ?_
  refine z_callXv hG hex (z_runXS (As := [.int v1, .int 0, .int 500]) (st := []) hG k_X11_265 (MxX11_requireRange l hlt hw) rfl rfl ⟨(Nat.le_of_ble_eq_true rfl), (Nat.le_of_ble_eq_true rfl)⟩ rfl (Nat.le_of_ble_eq_true rfl) dX11_setCorrection_5 ⟨show 0 + 1 ≤ 1 from by omega, show 0 + 6 ≤ 6 from by omega⟩ rfl) (show 0 + 1 ≤ 1 from by omega) (show 0 + 6 ≤ 6 from by omega) (fun σ1 hw => ?_)
  refine zwiden (k := 1) (n := 6) (by omega) (by omega) ?_
  refine z_aload_n hG dX11_setCorrection_8 rfl 0 rfl ?_
  obtain ⟨j3, ej3, hw⟩ := hw
  refine z_getr (kq := 1) hG f_X11_63 h0 rfl ej3 rfl (by decide) dX11_setCorrection_9 (fun hj3 => ?_)
  refine z_aload_n hG dX11_setCorrection_12 rfl 0 rfl ?_
  obtain ⟨j4, ej4, hw⟩ := hw
  refine z_getr (kq := 3) hG f_X11_53 h0 rfl ej4 rfl (by decide) dX11_setCorrection_13 (fun hj4 => ?_)
  refine z_callv hG (z_runV (As := [.ref (za Y j4)]) (st := []) hG k_X11_272 (MX1_keep l hj3 hj4 hw) ⟨(Nat.le_of_ble_eq_true rfl), (Nat.le_of_ble_eq_true rfl)⟩ hj3 (T := TX1) (N := 3) rfl (by decide) rfl (Nat.le_of_ble_eq_true rfl) dX11_setCorrection_16 ⟨show 1 + 0 ≤ 1 from by omega, show 6 + 0 ≤ 6 from by omega⟩ rfl) (fun σ5 hw => ?_)
  refine z_aload_n hG dX11_setCorrection_19 rfl 0 rfl ?_
  obtain ⟨j6, ej6, hw⟩ := hw
  refine z_getr (kq := 3) hG f_X11_53 h0 rfl ej6 rfl (by decide) dX11_setCorrection_20 (fun hj6 => ?_)
  refine z_geti hG f_X11_299 hj6 rfl dX11_setCorrection_23 ?_
  refine z_topi (fun x7 ex7 => ?_)
  have hw := hw x7 ex7
  refine z_istore_n (lv' := [(2, .int x7), (0, .ref (za Y t0)), (1, .int v1)]) hG dX11_setCorrection_26 rfl (by decide) rfl ?_
  refine z_aload_n hG dX11_setCorrection_27 rfl 1 rfl ?_
  obtain ⟨j8, ej8, hw⟩ := hw
  refine z_getr (kq := 3) hG f_X11_53 h0 rfl ej8 rfl (by decide) dX11_setCorrection_28 (fun hj8 => ?_)
  refine z_iload_n hG dX11_setCorrection_31 rfl 2 rfl ?_
  refine z_puti hG f_X11_299 hj8 rfl rfl (zN_int _) dX11_setCorrection_32 ?_
  refine z_topσ (fun σ9 eσ9 => ?_)
  have hw := hw σ9 eσ9
  refine z_iload_n hG dX11_setCorrection_35 rfl 0 rfl ?_
  refine zwiden (k := 1) (n := 6) (by omega) (by omega) (zvx ?_)
  exact z_iret hG rfl rfl dX11_setCorrection_36 hw
-- TypeWheelTelegraph.lose(I)I
def wxX11_lose (ln : Nat → Nat) (σ : zS) (t0 : Nat) (v1 : Int32) (Q : Int32 → zS → Prop) (X : String → zS → Prop) : Prop := wxX11_requireRange ln σ v1 1 500 (fun σ1 => ∃ j3 : Nat, gr σ1 t0 3 = some j3 ∧ ∃ j4 : Nat, gr σ1 j3 16 = some j4 ∧ wX9_size ln σ1 j4 (fun r6 σ5 => ((r6 < 20 → ∃ j7 : Nat, gr σ5 t0 5 = some j7 ∧ ∃ j8 : Nat, gr σ5 t0 3 = some j8 ∧ wX1_keep ln σ5 j7 j8 (fun σ9 => ∃ j10 : Nat, gr σ9 t0 3 = some j10 ∧ ∀ x11 : Int32, x11 = (gi σ9 j10 9) + v1 → ∃ j12 : Nat, gr σ9 t0 3 = some j12 ∧ ∃ j13 : Nat, gr σ9 j12 16 = some j13 ∧ wX9_add ln σ9 j13 x11 (fun σ14 => Q x11 σ14))) ∧ (¬ r6 < 20 → X "java/lang/IllegalStateException" σ5)))) X
abbrev rxX11_lose : Room := { frames := 7, cells := 2, slots := 12, locals := 133 }
set_option maxRecDepth 100000 in
set_option maxHeartbeats 4000000 in
theorem MxX11_lose (l : Launch) (hlt : l.stackTraces = false) {E : zE} {Y : zY} {σ : zS} {t0 : Nat} {v1 : Int32} (h0 : zT Y 11 t0) {Q : Int32 → zS → Prop} {X : String → zS → Prop} (hw : wxX11_lose (zln Y) σ t0 v1 Q X) : ∀ sz, vx_Met l yX11_lose (zw yX11_lose cX11_lose 3 (some .int)) rxX11_lose (zPc E Y σ sz [.ref (za Y t0), .int v1]) (va_Qi Q (zB E Y sz) (zA Y sz)) (zX X E Y sz) 2 12 (zA Y sz) := by
  refine z_metX (own := RX11) (Qc := fun sz => va_Qi Q (zB E Y sz) (zA Y sz)) (XC := fun sz => zX X E Y sz) (by decide +kernel) rfl (Nat.le_of_ble_eq_true rfl) ?_
  intro p e s m args below meth c hG hex
  unfold wxX11_lose at hw
  refine zlv (lv' := [(0, .ref (za Y t0)), (1, .int v1)]) rfl ?_
  refine z_iload_n hG dX11_lose_0 rfl 1 rfl ?_
  refine z_iconst (v := 1) hG dX11_lose_1 (by decide) ?_
  refine z_sipush (v := 500) hG dX11_lose_2 (by decide) ?_
  refine z_callXv hG hex (z_runXS (As := [.int v1, .int 1, .int 500]) (st := []) hG k_X11_265 (MxX11_requireRange l hlt hw) rfl rfl ⟨(Nat.le_of_ble_eq_true rfl), (Nat.le_of_ble_eq_true rfl)⟩ rfl (Nat.le_of_ble_eq_true rfl) dX11_lose_5 ⟨show 0 + 1 ≤ 2 from by omega, show 0 + 6 ≤ 12 from by omega⟩ rfl) (show 0 + 1 ≤ 2 from by omega) (show 0 + 6 ≤ 12 from by omega) (fun σ1 hw => ?_)
  refine zwiden (k := 1) (n := 6) (by omega) (by omega) ?_
  refine z_aload_n hG dX11_lose_8 rfl 0 rfl ?_
  obtain ⟨j3, ej3, hw⟩ := hw
  refine z_getr (kq := 3) hG f_X11_53 h0 rfl ej3 rfl (by decide) dX11_lose_9 (fun hj3 => ?_)
  obtain ⟨j4, ej4, hw⟩ := hw
  refine z_getr (kq := 9) hG f_X11_302 hj3 rfl ej4 rfl (by decide) dX11_lose_12 (fun hj4 => ?_)
  refine z_calli hG (z_runV (As := []) (st := []) hG k_X11_67 (MX9_size l hj4 hw) ⟨(Nat.le_of_ble_eq_true rfl), (Nat.le_of_ble_eq_true rfl)⟩ hj4 (T := TX9) (N := 2) rfl (by decide) rfl (Nat.le_of_ble_eq_true rfl) dX11_lose_15 ⟨show 1 + 0 ≤ 2 from by omega, show 6 + 0 ≤ 12 from by omega⟩ rfl) (fun r6 σ5 hw => ?_)
  refine z_bipush (v := 20) hG dX11_lose_18 (by decide) ?_
  refine z_icmp_lt (tgt := 34) hG dX11_lose_20 (by decide) (fun c15 => ?_) (fun c15 => ?_)
  · have hw := hw.1 c15
    refine z_aload_n hG dX11_lose_34 rfl 0 rfl ?_
    obtain ⟨j7, ej7, hw⟩ := hw
    refine z_getr (kq := 1) hG f_X11_63 h0 rfl ej7 rfl (by decide) dX11_lose_35 (fun hj7 => ?_)
    refine z_aload_n hG dX11_lose_38 rfl 0 rfl ?_
    obtain ⟨j8, ej8, hw⟩ := hw
    refine z_getr (kq := 3) hG f_X11_53 h0 rfl ej8 rfl (by decide) dX11_lose_39 (fun hj8 => ?_)
    refine z_callv hG (z_runV (As := [.ref (za Y j8)]) (st := []) hG k_X11_272 (MX1_keep l hj7 hj8 hw) ⟨(Nat.le_of_ble_eq_true rfl), (Nat.le_of_ble_eq_true rfl)⟩ hj7 (T := TX1) (N := 3) rfl (by decide) rfl (Nat.le_of_ble_eq_true rfl) dX11_lose_42 ⟨show 1 + 0 ≤ 2 from by omega, show 6 + 0 ≤ 12 from by omega⟩ rfl) (fun σ9 hw => ?_)
    refine z_aload_n hG dX11_lose_45 rfl 0 rfl ?_
    obtain ⟨j10, ej10, hw⟩ := hw
    refine z_getr (kq := 3) hG f_X11_53 h0 rfl ej10 rfl (by decide) dX11_lose_46 (fun hj10 => ?_)
    refine z_geti hG f_X11_238 hj10 rfl dX11_lose_49 ?_
    refine z_iload_n hG dX11_lose_52 rfl 1 rfl ?_
    refine z_iadd hG dX11_lose_53 ?_
    refine z_topi (fun x11 ex11 => ?_)
    have hw := hw x11 ex11
    refine z_istore_n (lv' := [(2, .int x11), (0, .ref (za Y t0)), (1, .int v1)]) hG dX11_lose_54 rfl (by decide) rfl ?_
    refine z_aload_n hG dX11_lose_55 rfl 1 rfl ?_
    obtain ⟨j12, ej12, hw⟩ := hw
    refine z_getr (kq := 3) hG f_X11_53 h0 rfl ej12 rfl (by decide) dX11_lose_56 (fun hj12 => ?_)
    obtain ⟨j13, ej13, hw⟩ := hw
    refine z_getr (kq := 9) hG f_X11_302 hj12 rfl ej13 rfl (by decide) dX11_lose_59 (fun hj13 => ?_)
    refine z_iload_n hG dX11_lose_62 rfl 0 rfl ?_
    refine z_callv hG (z_runV (As := [.int x11]) (st := []) hG k_X11_81 (MX9_add l hj13 hw) ⟨(Nat.le_of_ble_eq_true rfl), (Nat.le_of_ble_eq_true rfl)⟩ hj13 (T := TX9) (N := 2) rfl (by decide) rfl (Nat.le_of_ble_eq_true rfl) dX11_lose_63 ⟨show 1 + 0 ≤ 2 from by omega, show 6 + 0 ≤ 12 from by omega⟩ rfl) (fun σ14 hw => ?_)
    refine z_iload_n hG dX11_lose_66 rfl 0 rfl ?_
    refine zwiden (k := 2) (n := 12) (by omega) (by omega) (zvx ?_)
    exact z_iret hG rfl rfl dX11_lose_67 hw
  · have hw := hw.2 c15
    exact z_throwSW (i := 23) (tx := "no further pulse can be named") hG hlt hex thr_ISE (by decide +kernel) dX11_lose_23 dX11_lose_26 dX11_lose_27 dX11_lose_30 dX11_lose_33 (Nat.le_of_ble_eq_true rfl) (Nat.le_of_ble_eq_true rfl) (show 1 + 1 ≤ 2 from by omega) (show 6 + 6 ≤ 12 from by omega) (show 1 + 1 ≤ 2 from by omega) (show 6 + 6 ≤ 12 from by omega) hw
-- TypeWheelTelegraph.undo()I
def wxX11_undo (ln : Nat → Nat) (σ : zS) (t0 : Nat) (Q : Int32 → zS → Prop) (X : String → zS → Prop) : Prop := ∃ j1 : Nat, gr σ t0 5 = some j1 ∧ wX1_size ln σ j1 (fun r3 σ2 => ((r3 = 0 → X "java/lang/IllegalStateException" σ2) ∧ (¬ r3 = 0 → ∃ j4 : Nat, gr σ2 t0 5 = some j4 ∧ ∃ j5 : Nat, gr σ2 t0 3 = some j5 ∧ wX1_restore ln σ2 j4 j5 (fun σ6 => ∃ j7 : Nat, gr σ6 t0 5 = some j7 ∧ wX1_size ln σ6 j7 (fun r9 σ8 => Q r9 σ8)))))
abbrev rxX11_undo : Room := { frames := 6, cells := 1, slots := 6, locals := 133 }
set_option maxRecDepth 100000 in
set_option maxHeartbeats 4000000 in
theorem MxX11_undo (l : Launch) (hlt : l.stackTraces = false) {E : zE} {Y : zY} {σ : zS} {t0 : Nat} (h0 : zT Y 11 t0) {Q : Int32 → zS → Prop} {X : String → zS → Prop} (hw : wxX11_undo (zln Y) σ t0 Q X) : ∀ sz, vx_Met l yX11_undo (zw yX11_undo cX11_undo 1 (some .int)) rxX11_undo (zPc E Y σ sz [.ref (za Y t0)]) (va_Qi Q (zB E Y sz) (zA Y sz)) (zX X E Y sz) 1 6 (zA Y sz) := by
  refine z_metX (own := RX11) (Qc := fun sz => va_Qi Q (zB E Y sz) (zA Y sz)) (XC := fun sz => zX X E Y sz) (by decide +kernel) rfl (Nat.le_of_ble_eq_true rfl) ?_
  intro p e s m args below meth c hG hex
  unfold wxX11_undo at hw
  refine zlv (lv' := [(0, .ref (za Y t0))]) rfl ?_
  refine z_aload_n hG dX11_undo_0 rfl 0 rfl ?_
  obtain ⟨j1, ej1, hw⟩ := hw
  refine z_getr (kq := 1) hG f_X11_63 h0 rfl ej1 rfl (by decide) dX11_undo_1 (fun hj1 => ?_)
  refine z_calli hG (z_runV (As := []) (st := []) hG k_X11_307 (MX1_size l hj1 hw) ⟨(Nat.le_of_ble_eq_true rfl), (Nat.le_of_ble_eq_true rfl)⟩ hj1 (T := TX1) (N := 3) rfl (by decide) rfl (Nat.le_of_ble_eq_true rfl) dX11_undo_4 ⟨show 0 + 0 ≤ 1 from by omega, show 0 + 0 ≤ 6 from by omega⟩ rfl) (fun r3 σ2 hw => ?_)
  refine z_if_ne (tgt := 21) hG dX11_undo_7 (by decide) (fun c10 => ?_) (fun c10 => ?_)
  · have hw := hw.2 c10
    refine z_aload_n hG dX11_undo_21 rfl 0 rfl ?_
    obtain ⟨j4, ej4, hw⟩ := hw
    refine z_getr (kq := 1) hG f_X11_63 h0 rfl ej4 rfl (by decide) dX11_undo_22 (fun hj4 => ?_)
    refine z_aload_n hG dX11_undo_25 rfl 0 rfl ?_
    obtain ⟨j5, ej5, hw⟩ := hw
    refine z_getr (kq := 3) hG f_X11_53 h0 rfl ej5 rfl (by decide) dX11_undo_26 (fun hj5 => ?_)
    refine z_callv hG (z_runV (As := [.ref (za Y j5)]) (st := []) hG k_X11_310 (MX1_restore l hj4 hj5 hw) ⟨(Nat.le_of_ble_eq_true rfl), (Nat.le_of_ble_eq_true rfl)⟩ hj4 (T := TX1) (N := 3) rfl (by decide) rfl (Nat.le_of_ble_eq_true rfl) dX11_undo_29 ⟨show 0 + 0 ≤ 1 from by omega, show 0 + 0 ≤ 6 from by omega⟩ rfl) (fun σ6 hw => ?_)
    refine z_aload_n hG dX11_undo_32 rfl 0 rfl ?_
    obtain ⟨j7, ej7, hw⟩ := hw
    refine z_getr (kq := 1) hG f_X11_63 h0 rfl ej7 rfl (by decide) dX11_undo_33 (fun hj7 => ?_)
    refine z_calli hG (z_runV (As := []) (st := []) hG k_X11_307 (MX1_size l hj7 hw) ⟨(Nat.le_of_ble_eq_true rfl), (Nat.le_of_ble_eq_true rfl)⟩ hj7 (T := TX1) (N := 3) rfl (by decide) rfl (Nat.le_of_ble_eq_true rfl) dX11_undo_36 ⟨show 0 + 0 ≤ 1 from by omega, show 0 + 0 ≤ 6 from by omega⟩ rfl) (fun r9 σ8 hw => ?_)
    refine zwiden (k := 1) (n := 6) (by omega) (by omega) (zvx ?_)
    exact z_iret hG rfl rfl dX11_undo_39 hw
  · have hw := hw.1 c10
    exact z_throwSW (i := 24) (tx := "there is no action to undo") hG hlt hex thr_ISE (by decide +kernel) dX11_undo_10 dX11_undo_13 dX11_undo_14 dX11_undo_17 dX11_undo_20 (Nat.le_of_ble_eq_true rfl) (Nat.le_of_ble_eq_true rfl) (show 0 + 1 ≤ 1 from by omega) (show 0 + 6 ≤ 6 from by omega) (show 0 + 1 ≤ 1 from by omega) (show 0 + 6 ≤ 6 from by omega) hw
-- TypeWheelTelegraph.misprintsOfTrial(I)I
def wX11_misprintsOfTrial_24 (ln : Nat → Nat) (Q : Int32 → zS → Prop) : Nat → Nat → Int32 → Int32 → Int32 → zS → Prop
  | 0, _, _, _, _, _ => False
  | n + 1, t0, v1, v2, v3, σ => ((v1 ≤ v3 → ∃ j1 : Nat, gr σ t0 4 = some j1 ∧ ∃ j2 : Nat, gr σ j1 11 = some j2 ∧ ∃ j3 : Nat, gr σ t0 4 = some j3 ∧ ∃ j4 : Nat, gr σ j3 12 = some j4 ∧ Q (((gi σ j2 4) + (gi σ j4 4)) - v2) σ) ∧ (¬ v1 ≤ v3 → ∃ j5 : Nat, gr σ t0 4 = some j5 ∧ wX3_tick ln σ j5 (fun σ6 => ∀ x7 : Int32, x7 = v3 + 1 → (wX11_misprintsOfTrial_24 ln Q n) t0 v1 v2 x7 σ6)))
def wX11_misprintsOfTrial (ln : Nat → Nat) (σ : zS) (t0 : Nat) (v1 : Int32) (Q : Int32 → zS → Prop) : Prop := ∃ j1 : Nat, gr σ t0 4 = some j1 ∧ ∃ j2 : Nat, gr σ j1 11 = some j2 ∧ ∃ j3 : Nat, gr σ t0 4 = some j3 ∧ ∃ j4 : Nat, gr σ j3 12 = some j4 ∧ ∀ x5 : Int32, x5 = (gi σ j2 4) + (gi σ j4 4) → ∃ n6 : Nat, wX11_misprintsOfTrial_24 ln Q n6 t0 v1 x5 0 σ
abbrev rX11_misprintsOfTrial : Room := { frames := 8, cells := 0, slots := 0, locals := 174 }
set_option maxRecDepth 100000 in
set_option maxHeartbeats 4000000 in
theorem BX11_misprintsOfTrial_24 {l : Launch} {E : zE} {Y : zY} {p : Program} {e : Env} {s : State} {m : MethodId} {args : Array Value} {below : List Frame} {meth : Method} {c : Code} (hG : zG E p l s m args meth c cX11_misprintsOfTrial 4 RX11 (some .int) (zA Y s.heap.size)) {Q : Int32 → zS → Prop} : ∀ (n : Nat) (t0 : Nat) (v1 : Int32) (v2 : Int32) (v3 : Int32) (σ : zS), wX11_misprintsOfTrial_24 (zln Y) Q n t0 v1 v2 v3 σ → zT Y 11 t0 → WW E Y σ p l e rX11_misprintsOfTrial s m args below meth c (zA Y s.heap.size) 4 0 0 (MQ below (va_Qi Q (zB E Y s.heap.size) (zA Y s.heap.size)) args s 0 0 (zA Y s.heap.size)) [(0, .ref (za Y t0)), (1, .int v1), (2, .int v2), (3, .int v3)] 24 [] := by
  intro n
  induction n with
  | zero => intro t0 v1 v2 v3 σ hw
            exact hw.elim
  | succ n ih =>
    intro t0 v1 v2 v3 σ hw h0
    rw [wX11_misprintsOfTrial_24] at hw
    refine z_iload_n hG dX11_misprintsOfTrial_24 rfl 3 rfl ?_
    refine z_iload_n hG dX11_misprintsOfTrial_25 rfl 1 rfl ?_
    refine z_icmp_ge (tgt := 42) hG dX11_misprintsOfTrial_26 (by decide) (fun c8 => ?_) (fun c8 => ?_)
    · have hw := hw.1 c8
      refine z_aload_n hG dX11_misprintsOfTrial_42 rfl 0 rfl ?_
      obtain ⟨j1, ej1, hw⟩ := hw
      refine z_getr (kq := 3) hG f_X11_57 h0 rfl ej1 rfl (by decide) dX11_misprintsOfTrial_43 (fun hj1 => ?_)
      obtain ⟨j2, ej2, hw⟩ := hw
      refine z_getr (kq := 4) hG f_X11_157 hj1 rfl ej2 rfl (by decide) dX11_misprintsOfTrial_46 (fun hj2 => ?_)
      refine z_geti hG f_X11_246 hj2 rfl dX11_misprintsOfTrial_49 ?_
      refine z_aload_n hG dX11_misprintsOfTrial_52 rfl 0 rfl ?_
      obtain ⟨j3, ej3, hw⟩ := hw
      refine z_getr (kq := 3) hG f_X11_57 h0 rfl ej3 rfl (by decide) dX11_misprintsOfTrial_53 (fun hj3 => ?_)
      obtain ⟨j4, ej4, hw⟩ := hw
      refine z_getr (kq := 4) hG f_X11_151 hj3 rfl ej4 rfl (by decide) dX11_misprintsOfTrial_56 (fun hj4 => ?_)
      refine z_geti hG f_X11_246 hj4 rfl dX11_misprintsOfTrial_59 ?_
      refine z_iadd hG dX11_misprintsOfTrial_62 ?_
      refine z_iload_n hG dX11_misprintsOfTrial_63 rfl 2 rfl ?_
      refine z_isub hG dX11_misprintsOfTrial_64 ?_
      exact z_iret hG rfl rfl dX11_misprintsOfTrial_65 hw
    · have hw := hw.2 c8
      refine z_aload_n hG dX11_misprintsOfTrial_29 rfl 0 rfl ?_
      obtain ⟨j5, ej5, hw⟩ := hw
      refine z_getr (kq := 3) hG f_X11_57 h0 rfl ej5 rfl (by decide) dX11_misprintsOfTrial_30 (fun hj5 => ?_)
      refine z_callv hG (z_runV (As := []) (st := []) hG k_X11_276 (MX3_tick l hj5 hw) ⟨(Nat.le_of_ble_eq_true rfl), (Nat.le_of_ble_eq_true rfl)⟩ hj5 (T := TX3) (N := 17) rfl (by decide) rfl (Nat.le_of_ble_eq_true rfl) dX11_misprintsOfTrial_33 ⟨Nat.zero_le _, Nat.zero_le _⟩ rfl) (fun σ6 hw => ?_)
      obtain ⟨x7, ex7⟩ : ∃ y : Int32, y = v3 + 1 := ⟨_, rfl⟩
      have hw := hw x7 ex7
      refine z_iinc (v := x7) (lv' := [(3, .int x7), (0, .ref (za Y t0)), (1, .int v1), (2, .int v2)]) hG dX11_misprintsOfTrial_36 3 rfl (by rw [ex7]; rfl) (by decide) rfl ?_
      refine z_goto (tgt := 24) hG dX11_misprintsOfTrial_39 (by decide) ?_
      refine zpick [1, 2, 3, 0] (lv' := [(0, .ref (za Y t0)), (1, .int v1), (2, .int v2), (3, .int x7)]) rfl ?_
      exact ih t0 v1 v2 x7 σ6 hw h0
set_option maxRecDepth 100000 in
set_option maxHeartbeats 4000000 in
theorem MX11_misprintsOfTrial (l : Launch) {E : zE} {Y : zY} {σ : zS} {t0 : Nat} {v1 : Int32} (h0 : zT Y 11 t0) {Q : Int32 → zS → Prop} (hw : wX11_misprintsOfTrial (zln Y) σ t0 v1 Q) : ∀ sz, Met l yX11_misprintsOfTrial (zw yX11_misprintsOfTrial cX11_misprintsOfTrial 4 (some .int)) rX11_misprintsOfTrial (zPc E Y σ sz [.ref (za Y t0), .int v1]) (va_Qi Q (zB E Y sz) (zA Y sz)) 0 0 (zA Y sz) := by
  refine z_met (own := RX11) (Qc := fun sz => va_Qi Q (zB E Y sz) (zA Y sz)) (by decide +kernel) rfl (Nat.le_of_ble_eq_true rfl) ?_
  intro p e s m args below meth c hG hinit
  unfold wX11_misprintsOfTrial at hw
  refine zlv (lv' := [(0, .ref (za Y t0)), (1, .int v1)]) rfl ?_
  refine z_aload_n hG dX11_misprintsOfTrial_0 rfl 0 rfl ?_
  obtain ⟨j1, ej1, hw⟩ := hw
  refine z_getr (kq := 3) hG f_X11_57 h0 rfl ej1 rfl (by decide) dX11_misprintsOfTrial_1 (fun hj1 => ?_)
  obtain ⟨j2, ej2, hw⟩ := hw
  refine z_getr (kq := 4) hG f_X11_157 hj1 rfl ej2 rfl (by decide) dX11_misprintsOfTrial_4 (fun hj2 => ?_)
  refine z_geti hG f_X11_246 hj2 rfl dX11_misprintsOfTrial_7 ?_
  refine z_aload_n hG dX11_misprintsOfTrial_10 rfl 0 rfl ?_
  obtain ⟨j3, ej3, hw⟩ := hw
  refine z_getr (kq := 3) hG f_X11_57 h0 rfl ej3 rfl (by decide) dX11_misprintsOfTrial_11 (fun hj3 => ?_)
  obtain ⟨j4, ej4, hw⟩ := hw
  refine z_getr (kq := 4) hG f_X11_151 hj3 rfl ej4 rfl (by decide) dX11_misprintsOfTrial_14 (fun hj4 => ?_)
  refine z_geti hG f_X11_246 hj4 rfl dX11_misprintsOfTrial_17 ?_
  refine z_iadd hG dX11_misprintsOfTrial_20 ?_
  refine z_topi (fun x5 ex5 => ?_)
  have hw := hw x5 ex5
  refine z_istore_n (lv' := [(2, .int x5), (0, .ref (za Y t0)), (1, .int v1)]) hG dX11_misprintsOfTrial_21 rfl (by decide) rfl ?_
  refine z_iconst (v := 0) hG dX11_misprintsOfTrial_22 (by decide) ?_
  refine z_istore_n (lv' := [(3, .int 0), (2, .int x5), (0, .ref (za Y t0)), (1, .int v1)]) hG dX11_misprintsOfTrial_23 rfl (by decide) rfl ?_
  obtain ⟨n6, hw⟩ := hw
  refine zpick [2, 3, 1, 0] (lv' := [(0, .ref (za Y t0)), (1, .int v1), (2, .int x5), (3, .int 0)]) rfl ?_
  exact BX11_misprintsOfTrial_24 hG n6 t0 v1 x5 0 σ hw h0
-- TypeWheelTelegraph.misprintsIn(I)I
def wxX11_misprintsIn (ln : Nat → Nat) (σ : zS) (t0 : Nat) (v1 : Int32) (Q : Int32 → zS → Prop) (X : String → zS → Prop) : Prop := wxX11_requireRange ln σ v1 1 2000 (fun σ1 => ∃ j3 : Nat, gr σ1 t0 4 = some j3 ∧ ∃ j4 : Nat, gr σ1 t0 3 = some j4 ∧ wX3_copyFrom ln σ1 j3 j4 (fun σ5 => wX11_misprintsOfTrial ln σ5 t0 v1 (fun r7 σ6 => Q r7 σ6))) X
abbrev rxX11_misprintsIn : Room := { frames := 9, cells := 1, slots := 6, locals := 197 }
set_option maxRecDepth 100000 in
set_option maxHeartbeats 4000000 in
theorem MxX11_misprintsIn (l : Launch) (hlt : l.stackTraces = false) {E : zE} {Y : zY} {σ : zS} {t0 : Nat} {v1 : Int32} (h0 : zT Y 11 t0) {Q : Int32 → zS → Prop} {X : String → zS → Prop} (hw : wxX11_misprintsIn (zln Y) σ t0 v1 Q X) : ∀ sz, vx_Met l yX11_misprintsIn (zw yX11_misprintsIn cX11_misprintsIn 2 (some .int)) rxX11_misprintsIn (zPc E Y σ sz [.ref (za Y t0), .int v1]) (va_Qi Q (zB E Y sz) (zA Y sz)) (zX X E Y sz) 1 6 (zA Y sz) := by
  refine z_metX (own := RX11) (Qc := fun sz => va_Qi Q (zB E Y sz) (zA Y sz)) (XC := fun sz => zX X E Y sz) (by decide +kernel) rfl (Nat.le_of_ble_eq_true rfl) ?_
  intro p e s m args below meth c hG hex
  unfold wxX11_misprintsIn at hw
  refine zlv (lv' := [(0, .ref (za Y t0)), (1, .int v1)]) rfl ?_
  refine z_iload_n hG dX11_misprintsIn_0 rfl 1 rfl ?_
  refine z_iconst (v := 1) hG dX11_misprintsIn_1 (by decide) ?_
  refine z_sipush (v := 2000) hG dX11_misprintsIn_2 (by decide) ?_
  refine z_callXv hG hex (z_runXS (As := [.int v1, .int 1, .int 2000]) (st := []) hG k_X11_265 (MxX11_requireRange l hlt hw) rfl rfl ⟨(Nat.le_of_ble_eq_true rfl), (Nat.le_of_ble_eq_true rfl)⟩ rfl (Nat.le_of_ble_eq_true rfl) dX11_misprintsIn_5 ⟨show 0 + 1 ≤ 1 from by omega, show 0 + 6 ≤ 6 from by omega⟩ rfl) (show 0 + 1 ≤ 1 from by omega) (show 0 + 6 ≤ 6 from by omega) (fun σ1 hw => ?_)
  refine zwiden (k := 1) (n := 6) (by omega) (by omega) ?_
  refine z_aload_n hG dX11_misprintsIn_8 rfl 0 rfl ?_
  obtain ⟨j3, ej3, hw⟩ := hw
  refine z_getr (kq := 3) hG f_X11_57 h0 rfl ej3 rfl (by decide) dX11_misprintsIn_9 (fun hj3 => ?_)
  refine z_aload_n hG dX11_misprintsIn_12 rfl 0 rfl ?_
  obtain ⟨j4, ej4, hw⟩ := hw
  refine z_getr (kq := 3) hG f_X11_53 h0 rfl ej4 rfl (by decide) dX11_misprintsIn_13 (fun hj4 => ?_)
  refine z_callv hG (z_runV (As := [.ref (za Y j4)]) (st := []) hG k_X11_313 (MX3_copyFrom l hj3 hj4 hw) ⟨(Nat.le_of_ble_eq_true rfl), (Nat.le_of_ble_eq_true rfl)⟩ hj3 (T := TX3) (N := 17) rfl (by decide) rfl (Nat.le_of_ble_eq_true rfl) dX11_misprintsIn_16 ⟨show 1 + 0 ≤ 1 from by omega, show 6 + 0 ≤ 6 from by omega⟩ rfl) (fun σ5 hw => ?_)
  refine z_aload_n hG dX11_misprintsIn_19 rfl 0 rfl ?_
  refine z_iload_n hG dX11_misprintsIn_20 rfl 1 rfl ?_
  refine z_calli hG (z_runV (As := [.int v1]) (st := []) hG k_X11_316 (MX11_misprintsOfTrial l h0 hw) ⟨(Nat.le_of_ble_eq_true rfl), (Nat.le_of_ble_eq_true rfl)⟩ h0 (T := TX11) (N := 9) rfl (by decide) rfl (Nat.le_of_ble_eq_true rfl) dX11_misprintsIn_21 ⟨show 1 + 0 ≤ 1 from by omega, show 6 + 0 ≤ 6 from by omega⟩ rfl) (fun r7 σ6 hw => ?_)
  refine zwiden (k := 1) (n := 6) (by omega) (by omega) (zvx ?_)
  exact z_iret hG rfl rfl dX11_misprintsIn_24 hw
-- TypeWheelTelegraph.ticksUntilDone(I)I
def wxX11_ticksUntilDone (ln : Nat → Nat) (σ : zS) (t0 : Nat) (v1 : Int32) (Q : Int32 → zS → Prop) (X : String → zS → Prop) : Prop := wxX11_requireRange ln σ v1 1 5000 (fun σ1 => ∃ j3 : Nat, gr σ1 t0 4 = some j3 ∧ ∃ j4 : Nat, gr σ1 t0 3 = some j4 ∧ wX3_copyFrom ln σ1 j3 j4 (fun σ5 => ∃ j6 : Nat, gr σ5 t0 4 = some j6 ∧ wX11_ticksMadeUntilDone ln σ5 j6 v1 (fun r8 σ7 => ∃ j9 : Nat, gr σ7 t0 4 = some j9 ∧ (((gi σ7 j9 3) = (-1) → Q r8 σ7) ∧ (¬ (gi σ7 j9 3) = (-1) → Q (-1) σ7))))) X
abbrev rxX11_ticksUntilDone : Room := { frames := 9, cells := 1, slots := 6, locals := 196 }
set_option maxRecDepth 100000 in
set_option maxHeartbeats 4000000 in
theorem MxX11_ticksUntilDone (l : Launch) (hlt : l.stackTraces = false) {E : zE} {Y : zY} {σ : zS} {t0 : Nat} {v1 : Int32} (h0 : zT Y 11 t0) {Q : Int32 → zS → Prop} {X : String → zS → Prop} (hw : wxX11_ticksUntilDone (zln Y) σ t0 v1 Q X) : ∀ sz, vx_Met l yX11_ticksUntilDone (zw yX11_ticksUntilDone cX11_ticksUntilDone 3 (some .int)) rxX11_ticksUntilDone (zPc E Y σ sz [.ref (za Y t0), .int v1]) (va_Qi Q (zB E Y sz) (zA Y sz)) (zX X E Y sz) 1 6 (zA Y sz) := by
  refine z_metX (own := RX11) (Qc := fun sz => va_Qi Q (zB E Y sz) (zA Y sz)) (XC := fun sz => zX X E Y sz) (by decide +kernel) rfl (Nat.le_of_ble_eq_true rfl) ?_
  intro p e s m args below meth c hG hex
  unfold wxX11_ticksUntilDone at hw
  refine zlv (lv' := [(0, .ref (za Y t0)), (1, .int v1)]) rfl ?_
  refine z_iload_n hG dX11_ticksUntilDone_0 rfl 1 rfl ?_
  refine z_iconst (v := 1) hG dX11_ticksUntilDone_1 (by decide) ?_
  refine z_sipush (v := 5000) hG dX11_ticksUntilDone_2 (by decide) ?_
  refine z_callXv hG hex (z_runXS (As := [.int v1, .int 1, .int 5000]) (st := []) hG k_X11_265 (MxX11_requireRange l hlt hw) rfl rfl ⟨(Nat.le_of_ble_eq_true rfl), (Nat.le_of_ble_eq_true rfl)⟩ rfl (Nat.le_of_ble_eq_true rfl) dX11_ticksUntilDone_5 ⟨show 0 + 1 ≤ 1 from by omega, show 0 + 6 ≤ 6 from by omega⟩ rfl) (show 0 + 1 ≤ 1 from by omega) (show 0 + 6 ≤ 6 from by omega) (fun σ1 hw => ?_)
  refine zwiden (k := 1) (n := 6) (by omega) (by omega) ?_
  refine z_aload_n hG dX11_ticksUntilDone_8 rfl 0 rfl ?_
  obtain ⟨j3, ej3, hw⟩ := hw
  refine z_getr (kq := 3) hG f_X11_57 h0 rfl ej3 rfl (by decide) dX11_ticksUntilDone_9 (fun hj3 => ?_)
  refine z_aload_n hG dX11_ticksUntilDone_12 rfl 0 rfl ?_
  obtain ⟨j4, ej4, hw⟩ := hw
  refine z_getr (kq := 3) hG f_X11_53 h0 rfl ej4 rfl (by decide) dX11_ticksUntilDone_13 (fun hj4 => ?_)
  refine z_callv hG (z_runV (As := [.ref (za Y j4)]) (st := []) hG k_X11_313 (MX3_copyFrom l hj3 hj4 hw) ⟨(Nat.le_of_ble_eq_true rfl), (Nat.le_of_ble_eq_true rfl)⟩ hj3 (T := TX3) (N := 17) rfl (by decide) rfl (Nat.le_of_ble_eq_true rfl) dX11_ticksUntilDone_16 ⟨show 1 + 0 ≤ 1 from by omega, show 6 + 0 ≤ 6 from by omega⟩ rfl) (fun σ5 hw => ?_)
  refine z_aload_n hG dX11_ticksUntilDone_19 rfl 0 rfl ?_
  obtain ⟨j6, ej6, hw⟩ := hw
  refine z_getr (kq := 3) hG f_X11_57 h0 rfl ej6 rfl (by decide) dX11_ticksUntilDone_20 (fun hj6 => ?_)
  refine z_iload_n hG dX11_ticksUntilDone_23 rfl 1 rfl ?_
  refine z_calli hG (z_runS (As := [.ref (za Y j6), .int v1]) (st := []) hG k_X11_279 (MX11_ticksMadeUntilDone l hj6 hw) ⟨(Nat.le_of_ble_eq_true rfl), (Nat.le_of_ble_eq_true rfl)⟩ rfl (Nat.le_of_ble_eq_true rfl) dX11_ticksUntilDone_24 ⟨show 1 + 0 ≤ 1 from by omega, show 6 + 0 ≤ 6 from by omega⟩ rfl) (fun r8 σ7 hw => ?_)
  refine z_istore_n (lv' := [(2, .int r8), (0, .ref (za Y t0)), (1, .int v1)]) hG dX11_ticksUntilDone_27 rfl (by decide) rfl ?_
  refine z_aload_n hG dX11_ticksUntilDone_28 rfl 1 rfl ?_
  obtain ⟨j9, ej9, hw⟩ := hw
  refine z_getr (kq := 3) hG f_X11_57 h0 rfl ej9 rfl (by decide) dX11_ticksUntilDone_29 (fun hj9 => ?_)
  refine z_geti hG f_X11_197 hj9 rfl dX11_ticksUntilDone_32 ?_
  refine z_iconst (v := (-1)) hG dX11_ticksUntilDone_35 (by decide) ?_
  refine z_icmp_ne (tgt := 43) hG dX11_ticksUntilDone_36 (by decide) (fun c10 => ?_) (fun c10 => ?_)
  · have hw := hw.2 c10
    refine z_iconst (v := (-1)) hG dX11_ticksUntilDone_43 (by decide) ?_
    refine zwiden (k := 1) (n := 6) (by omega) (by omega) (zvx ?_)
    exact z_iret hG rfl rfl dX11_ticksUntilDone_44 hw
  · have hw := hw.1 c10
    refine z_iload_n hG dX11_ticksUntilDone_39 rfl 0 rfl ?_
    refine z_goto (tgt := 44) hG dX11_ticksUntilDone_40 (by decide) ?_
    refine zwiden (k := 1) (n := 6) (by omega) (by omega) (zvx ?_)
    exact z_iret hG rfl rfl dX11_ticksUntilDone_44 hw
-- TypeWheelTelegraph.bestCorrection(I)I
def wxX11_bestCorrection_61 (ln : Nat → Nat) (Q : Int32 → zS → Prop) (X : String → zS → Prop) (kb15 : Nat → Int32 → Int32 → Int32 → Int32 → zS → Prop) (t0 : Nat) (v1 : Int32) (v4 : Int32) (v5 : Int32) (σ : zS) : Prop := ∀ x1 : Int32, x1 = v4 + 25 → kb15 t0 v1 v4 v5 x1 σ
def wxX11_bestCorrection_15 (ln : Nat → Nat) (Q : Int32 → zS → Prop) (X : String → zS → Prop) : Nat → Nat → Int32 → Int32 → Int32 → Int32 → zS → Prop
  | 0, _, _, _, _, _, _ => False
  | n + 1, t0, v1, v2, v3, v4, σ => ((500 < v4 → Q v2 σ) ∧ (¬ 500 < v4 → ∃ j1 : Nat, gr σ t0 4 = some j1 ∧ ∃ j2 : Nat, gr σ t0 3 = some j2 ∧ wX3_copyFrom ln σ j1 j2 (fun σ3 => ∃ j4 : Nat, gr σ3 t0 4 = some j4 ∧ ∀ σ5 : zS, σ5 = si σ3 j4 2 v4 → wX11_misprintsOfTrial ln σ5 t0 v1 (fun r7 σ6 => ((v2 = (-1) → wxX11_bestCorrection_61 ln Q X (wxX11_bestCorrection_15 ln Q X n) t0 v1 v4 r7 σ6) ∧ (¬ v2 = (-1) → ((v3 ≤ r7 → ∀ x8 : Int32, x8 = v4 + 25 → (wxX11_bestCorrection_15 ln Q X n) t0 v1 v2 v3 x8 σ6) ∧ (¬ v3 ≤ r7 → wxX11_bestCorrection_61 ln Q X (wxX11_bestCorrection_15 ln Q X n) t0 v1 v4 r7 σ6))))))))
def wxX11_bestCorrection (ln : Nat → Nat) (σ : zS) (t0 : Nat) (v1 : Int32) (Q : Int32 → zS → Prop) (X : String → zS → Prop) : Prop := wxX11_requireRange ln σ v1 1 1000 (fun σ1 => ∃ n3 : Nat, wxX11_bestCorrection_15 ln Q X n3 t0 v1 (-1) 0 0 σ1) X
abbrev rxX11_bestCorrection : Room := { frames := 9, cells := 1, slots := 6, locals := 197 }
set_option maxRecDepth 100000 in
set_option maxHeartbeats 4000000 in
theorem BxX11_bestCorrection_61 {l : Launch} {E : zE} {Y : zY} {p : Program} {e : Env} {s : State} {m : MethodId} {args : Array Value} {below : List Frame} {meth : Method} {c : Code} (hG : zG E p l s m args meth c cX11_bestCorrection 6 RX11 (some .int) (zA Y s.heap.size)) (hlt : l.stackTraces = false) (hex : ∀ x ∈ c.exceptionTable.toList, False) {Q : Int32 → zS → Prop} {X : String → zS → Prop} {kb15 : Nat → Int32 → Int32 → Int32 → Int32 → zS → Prop} (hkb15 : ∀ (t0 : Nat) (v1 : Int32) (v2 : Int32) (v3 : Int32) (v4 : Int32) (σ : zS) (cl sl : Nat), kb15 t0 v1 v2 v3 v4 σ → zT Y 11 t0 → cl + (0) ≤ 1 → sl + (0) ≤ 6 → WW E Y σ p l e rxX11_bestCorrection s m args below meth c (zA Y s.heap.size) 6 cl sl (vx_MQ below (va_Qi Q (zB E Y s.heap.size) (zA Y s.heap.size)) (zX X E Y s.heap.size) args s 1 6 (zA Y s.heap.size)) [(0, .ref (za Y t0)), (1, .int v1), (2, .int v2), (3, .int v3), (4, .int v4)] 15 []) : ∀ (t0 : Nat) (v1 : Int32) (v4 : Int32) (v5 : Int32) (σ : zS) (cl sl : Nat), wxX11_bestCorrection_61 (zln Y) Q X kb15 t0 v1 v4 v5 σ → zT Y 11 t0 → cl + (0) ≤ 1 → sl + (0) ≤ 6 → WW E Y σ p l e rxX11_bestCorrection s m args below meth c (zA Y s.heap.size) 6 cl sl (vx_MQ below (va_Qi Q (zB E Y s.heap.size) (zA Y s.heap.size)) (zX X E Y s.heap.size) args s 1 6 (zA Y s.heap.size)) [(0, .ref (za Y t0)), (1, .int v1), (4, .int v4), (5, .int v5)] 61 [] := by
  intro t0 v1 v4 v5 σ cl sl hw h0 hcl hsl
  unfold wxX11_bestCorrection_61 at hw
  refine z_iload hG dX11_bestCorrection_61 2 rfl ?_
  refine z_istore_n (lv' := [(2, .int v4), (0, .ref (za Y t0)), (1, .int v1), (4, .int v4), (5, .int v5)]) hG dX11_bestCorrection_63 rfl (by decide) rfl ?_
  refine z_iload hG dX11_bestCorrection_64 4 rfl ?_
  refine z_istore_n (lv' := [(3, .int v5), (2, .int v4), (0, .ref (za Y t0)), (1, .int v1), (4, .int v4), (5, .int v5)]) hG dX11_bestCorrection_66 rfl (by decide) rfl ?_
  obtain ⟨x1, ex1⟩ : ∃ y : Int32, y = v4 + 25 := ⟨_, rfl⟩
  have hw := hw x1 ex1
  refine z_iinc (v := x1) (lv' := [(4, .int x1), (3, .int v5), (2, .int v4), (0, .ref (za Y t0)), (1, .int v1), (5, .int v5)]) hG dX11_bestCorrection_67 4 rfl (by rw [ex1]; rfl) (by decide) rfl ?_
  refine z_goto (tgt := 15) hG dX11_bestCorrection_70 (by decide) ?_
  refine zpick [3, 4, 2, 1, 0] (lv' := [(0, .ref (za Y t0)), (1, .int v1), (2, .int v4), (3, .int v5), (4, .int x1)]) rfl ?_
  exact hkb15 t0 v1 v4 v5 x1 σ _ _ hw h0 (by omega) (by omega)
set_option maxRecDepth 100000 in
set_option maxHeartbeats 4000000 in
theorem BxX11_bestCorrection_15 {l : Launch} {E : zE} {Y : zY} {p : Program} {e : Env} {s : State} {m : MethodId} {args : Array Value} {below : List Frame} {meth : Method} {c : Code} (hG : zG E p l s m args meth c cX11_bestCorrection 6 RX11 (some .int) (zA Y s.heap.size)) (hlt : l.stackTraces = false) (hex : ∀ x ∈ c.exceptionTable.toList, False) {Q : Int32 → zS → Prop} {X : String → zS → Prop} : ∀ (n : Nat) (t0 : Nat) (v1 : Int32) (v2 : Int32) (v3 : Int32) (v4 : Int32) (σ : zS) (cl sl : Nat), wxX11_bestCorrection_15 (zln Y) Q X n t0 v1 v2 v3 v4 σ → zT Y 11 t0 → cl + (0) ≤ 1 → sl + (0) ≤ 6 → WW E Y σ p l e rxX11_bestCorrection s m args below meth c (zA Y s.heap.size) 6 cl sl (vx_MQ below (va_Qi Q (zB E Y s.heap.size) (zA Y s.heap.size)) (zX X E Y s.heap.size) args s 1 6 (zA Y s.heap.size)) [(0, .ref (za Y t0)), (1, .int v1), (2, .int v2), (3, .int v3), (4, .int v4)] 15 [] := by
  intro n
  induction n with
  | zero => intro t0 v1 v2 v3 v4 σ cl sl hw
            exact hw.elim
  | succ n ih =>
    intro t0 v1 v2 v3 v4 σ cl sl hw h0 hcl hsl
    rw [wxX11_bestCorrection_15] at hw
    refine z_iload hG dX11_bestCorrection_15 4 rfl ?_
    refine z_sipush (v := 500) hG dX11_bestCorrection_17 (by decide) ?_
    refine z_icmp_gt (tgt := 73) hG dX11_bestCorrection_20 (by decide) (fun c11 => ?_) (fun c11 => ?_)
    · have hw := hw.1 c11
      refine z_iload_n hG dX11_bestCorrection_73 rfl 2 rfl ?_
      refine zwiden (k := 1) (n := 6) (by omega) (by omega) (zvx ?_)
      exact z_iret hG rfl rfl dX11_bestCorrection_74 hw
    · have hw := hw.2 c11
      refine z_aload_n hG dX11_bestCorrection_23 rfl 0 rfl ?_
      obtain ⟨j1, ej1, hw⟩ := hw
      refine z_getr (kq := 3) hG f_X11_57 h0 rfl ej1 rfl (by decide) dX11_bestCorrection_24 (fun hj1 => ?_)
      refine z_aload_n hG dX11_bestCorrection_27 rfl 0 rfl ?_
      obtain ⟨j2, ej2, hw⟩ := hw
      refine z_getr (kq := 3) hG f_X11_53 h0 rfl ej2 rfl (by decide) dX11_bestCorrection_28 (fun hj2 => ?_)
      refine z_callv hG (z_runV (As := [.ref (za Y j2)]) (st := []) hG k_X11_313 (MX3_copyFrom l hj1 hj2 hw) ⟨(Nat.le_of_ble_eq_true rfl), (Nat.le_of_ble_eq_true rfl)⟩ hj1 (T := TX3) (N := 17) rfl (by decide) rfl (Nat.le_of_ble_eq_true rfl) dX11_bestCorrection_31 ⟨show cl + 0 + 0 ≤ 1 from by omega, show sl + 0 + 0 ≤ 6 from by omega⟩ rfl) (fun σ3 hw => ?_)
      refine z_aload_n hG dX11_bestCorrection_34 rfl 0 rfl ?_
      obtain ⟨j4, ej4, hw⟩ := hw
      refine z_getr (kq := 3) hG f_X11_57 h0 rfl ej4 rfl (by decide) dX11_bestCorrection_35 (fun hj4 => ?_)
      refine z_iload hG dX11_bestCorrection_38 4 rfl ?_
      refine z_puti hG f_X11_299 hj4 rfl rfl (zN_int _) dX11_bestCorrection_40 ?_
      refine z_topσ (fun σ5 eσ5 => ?_)
      have hw := hw σ5 eσ5
      refine z_aload_n hG dX11_bestCorrection_43 rfl 0 rfl ?_
      refine z_iload_n hG dX11_bestCorrection_44 rfl 1 rfl ?_
      refine z_calli hG (z_runV (As := [.int v1]) (st := []) hG k_X11_316 (MX11_misprintsOfTrial l h0 hw) ⟨(Nat.le_of_ble_eq_true rfl), (Nat.le_of_ble_eq_true rfl)⟩ h0 (T := TX11) (N := 9) rfl (by decide) rfl (Nat.le_of_ble_eq_true rfl) dX11_bestCorrection_45 ⟨show cl + 0 + 0 ≤ 1 from by omega, show sl + 0 + 0 ≤ 6 from by omega⟩ rfl) (fun r7 σ6 hw => ?_)
      refine z_istore (lv' := [(5, .int r7), (0, .ref (za Y t0)), (1, .int v1), (2, .int v2), (3, .int v3), (4, .int v4)]) hG dX11_bestCorrection_48 (by decide) rfl ?_
      refine z_iload_n hG dX11_bestCorrection_50 rfl 3 rfl ?_
      refine z_iconst (v := (-1)) hG dX11_bestCorrection_51 (by decide) ?_
      refine z_icmp_eq (tgt := 61) hG dX11_bestCorrection_52 (by decide) (fun c10 => ?_) (fun c10 => ?_)
      · have hw := hw.1 c10
        refine zpick [1, 2, 5, 0] (lv' := [(0, .ref (za Y t0)), (1, .int v1), (4, .int v4), (5, .int r7)]) rfl ?_
        exact BxX11_bestCorrection_61 hG hlt hex ih t0 v1 v4 r7 σ6 _ _ hw h0 (by omega) (by omega)
      · have hw := hw.2 c10
        refine z_iload hG dX11_bestCorrection_55 0 rfl ?_
        refine z_iload_n hG dX11_bestCorrection_57 rfl 4 rfl ?_
        refine z_icmp_ge (tgt := 67) hG dX11_bestCorrection_58 (by decide) (fun c9 => ?_) (fun c9 => ?_)
        · have hw := hw.1 c9
          obtain ⟨x8, ex8⟩ : ∃ y : Int32, y = v4 + 25 := ⟨_, rfl⟩
          have hw := hw x8 ex8
          refine z_iinc (v := x8) (lv' := [(4, .int x8), (5, .int r7), (0, .ref (za Y t0)), (1, .int v1), (2, .int v2), (3, .int v3)]) hG dX11_bestCorrection_67 5 rfl (by rw [ex8]; rfl) (by decide) rfl ?_
          refine z_goto (tgt := 15) hG dX11_bestCorrection_70 (by decide) ?_
          refine zpick [2, 3, 4, 5, 0] (lv' := [(0, .ref (za Y t0)), (1, .int v1), (2, .int v2), (3, .int v3), (4, .int x8)]) rfl ?_
          exact ih t0 v1 v2 v3 x8 σ6 _ _ hw h0 (by omega) (by omega)
        · have hw := hw.2 c9
          refine zpick [1, 2, 5, 0] (lv' := [(0, .ref (za Y t0)), (1, .int v1), (4, .int v4), (5, .int r7)]) rfl ?_
          exact BxX11_bestCorrection_61 hG hlt hex ih t0 v1 v4 r7 σ6 _ _ hw h0 (by omega) (by omega)
set_option maxRecDepth 100000 in
set_option maxHeartbeats 4000000 in
theorem MxX11_bestCorrection (l : Launch) (hlt : l.stackTraces = false) {E : zE} {Y : zY} {σ : zS} {t0 : Nat} {v1 : Int32} (h0 : zT Y 11 t0) {Q : Int32 → zS → Prop} {X : String → zS → Prop} (hw : wxX11_bestCorrection (zln Y) σ t0 v1 Q X) : ∀ sz, vx_Met l yX11_bestCorrection (zw yX11_bestCorrection cX11_bestCorrection 6 (some .int)) rxX11_bestCorrection (zPc E Y σ sz [.ref (za Y t0), .int v1]) (va_Qi Q (zB E Y sz) (zA Y sz)) (zX X E Y sz) 1 6 (zA Y sz) := by
  refine z_metX (own := RX11) (Qc := fun sz => va_Qi Q (zB E Y sz) (zA Y sz)) (XC := fun sz => zX X E Y sz) (by decide +kernel) rfl (Nat.le_of_ble_eq_true rfl) ?_
  intro p e s m args below meth c hG hex
  unfold wxX11_bestCorrection at hw
  refine zlv (lv' := [(0, .ref (za Y t0)), (1, .int v1)]) rfl ?_
  refine z_iload_n hG dX11_bestCorrection_0 rfl 1 rfl ?_
  refine z_iconst (v := 1) hG dX11_bestCorrection_1 (by decide) ?_
  refine z_sipush (v := 1000) hG dX11_bestCorrection_2 (by decide) ?_
  refine z_callXv hG hex (z_runXS (As := [.int v1, .int 1, .int 1000]) (st := []) hG k_X11_265 (MxX11_requireRange l hlt hw) rfl rfl ⟨(Nat.le_of_ble_eq_true rfl), (Nat.le_of_ble_eq_true rfl)⟩ rfl (Nat.le_of_ble_eq_true rfl) dX11_bestCorrection_5 ⟨show 0 + 1 ≤ 1 from by omega, show 0 + 6 ≤ 6 from by omega⟩ rfl) (show 0 + 1 ≤ 1 from by omega) (show 0 + 6 ≤ 6 from by omega) (fun σ1 hw => ?_)
  refine zwiden (k := 1) (n := 6) (by omega) (by omega) ?_
  refine z_iconst (v := (-1)) hG dX11_bestCorrection_8 (by decide) ?_
  refine z_istore_n (lv' := [(2, .int (-1)), (0, .ref (za Y t0)), (1, .int v1)]) hG dX11_bestCorrection_9 rfl (by decide) rfl ?_
  refine z_iconst (v := 0) hG dX11_bestCorrection_10 (by decide) ?_
  refine z_istore_n (lv' := [(3, .int 0), (2, .int (-1)), (0, .ref (za Y t0)), (1, .int v1)]) hG dX11_bestCorrection_11 rfl (by decide) rfl ?_
  refine z_iconst (v := 0) hG dX11_bestCorrection_12 (by decide) ?_
  refine z_istore (lv' := [(4, .int 0), (3, .int 0), (2, .int (-1)), (0, .ref (za Y t0)), (1, .int v1)]) hG dX11_bestCorrection_13 (by decide) rfl ?_
  obtain ⟨n3, hw⟩ := hw
  refine zpick [3, 4, 2, 1, 0] (lv' := [(0, .ref (za Y t0)), (1, .int v1), (2, .int (-1)), (3, .int 0), (4, .int 0)]) rfl ?_
  refine zwiden (k := 1) (n := 6) (by omega) (by omega) ?_
  exact BxX11_bestCorrection_15 hG hlt hex n3 t0 v1 (-1) 0 0 σ1 _ _ hw h0 (by omega) (by omega)
-- TypeWheelTelegraph.worstOffsetOfTrial(I)I
def wX11_worstOffsetOfTrial_24 (ln : Nat → Nat) (Q : Int32 → zS → Prop) : Nat → Nat → Int32 → Int32 → zS → Prop
  | 0, _, _, _, _ => False
  | n + 1, t0, v1, v2, σ => ((v1 ≤ v2 → ∃ j1 : Nat, gr σ t0 4 = some j1 ∧ ∃ j2 : Nat, gr σ j1 11 = some j2 ∧ ∃ j3 : Nat, gr σ t0 4 = some j3 ∧ ∃ j4 : Nat, gr σ j3 12 = some j4 ∧ ∀ x5 : Int32, x5 = gi σ j4 5 → ∀ x6 : Int32, x6 = gi σ j2 5 → Q (if x6 < x5 then x5 else x6) σ) ∧ (¬ v1 ≤ v2 → ∃ j7 : Nat, gr σ t0 4 = some j7 ∧ wX3_tick ln σ j7 (fun σ8 => ∀ x9 : Int32, x9 = v2 + 1 → (wX11_worstOffsetOfTrial_24 ln Q n) t0 v1 x9 σ8)))
def wX11_worstOffsetOfTrial (ln : Nat → Nat) (σ : zS) (t0 : Nat) (v1 : Int32) (Q : Int32 → zS → Prop) : Prop := ∃ j1 : Nat, gr σ t0 4 = some j1 ∧ ∃ j2 : Nat, gr σ j1 11 = some j2 ∧ ∀ σ3 : zS, σ3 = si σ j2 5 0 → ∃ j4 : Nat, gr σ3 t0 4 = some j4 ∧ ∃ j5 : Nat, gr σ3 j4 12 = some j5 ∧ ∀ σ6 : zS, σ6 = si σ3 j5 5 0 → ∃ n7 : Nat, wX11_worstOffsetOfTrial_24 ln Q n7 t0 v1 0 σ6
abbrev rX11_worstOffsetOfTrial : Room := { frames := 8, cells := 0, slots := 0, locals := 174 }
set_option maxRecDepth 100000 in
set_option maxHeartbeats 4000000 in
theorem BX11_worstOffsetOfTrial_24 {l : Launch} {E : zE} {Y : zY} {p : Program} {e : Env} {s : State} {m : MethodId} {args : Array Value} {below : List Frame} {meth : Method} {c : Code} (hG : zG E p l s m args meth c cX11_worstOffsetOfTrial 3 RX11 (some .int) (zA Y s.heap.size)) {Q : Int32 → zS → Prop} : ∀ (n : Nat) (t0 : Nat) (v1 : Int32) (v2 : Int32) (σ : zS), wX11_worstOffsetOfTrial_24 (zln Y) Q n t0 v1 v2 σ → zT Y 11 t0 → WW E Y σ p l e rX11_worstOffsetOfTrial s m args below meth c (zA Y s.heap.size) 3 0 0 (MQ below (va_Qi Q (zB E Y s.heap.size) (zA Y s.heap.size)) args s 0 0 (zA Y s.heap.size)) [(0, .ref (za Y t0)), (1, .int v1), (2, .int v2)] 24 [] := by
  intro n
  induction n with
  | zero => intro t0 v1 v2 σ hw
            exact hw.elim
  | succ n ih =>
    intro t0 v1 v2 σ hw h0
    rw [wX11_worstOffsetOfTrial_24] at hw
    refine z_iload_n hG dX11_worstOffsetOfTrial_24 rfl 2 rfl ?_
    refine z_iload_n hG dX11_worstOffsetOfTrial_25 rfl 1 rfl ?_
    refine z_icmp_ge (tgt := 42) hG dX11_worstOffsetOfTrial_26 (by decide) (fun c10 => ?_) (fun c10 => ?_)
    · have hw := hw.1 c10
      refine z_aload_n hG dX11_worstOffsetOfTrial_42 rfl 0 rfl ?_
      obtain ⟨j1, ej1, hw⟩ := hw
      refine z_getr (kq := 3) hG f_X11_57 h0 rfl ej1 rfl (by decide) dX11_worstOffsetOfTrial_43 (fun hj1 => ?_)
      obtain ⟨j2, ej2, hw⟩ := hw
      refine z_getr (kq := 4) hG f_X11_157 hj1 rfl ej2 rfl (by decide) dX11_worstOffsetOfTrial_46 (fun hj2 => ?_)
      refine z_geti hG f_X11_249 hj2 rfl dX11_worstOffsetOfTrial_49 ?_
      refine z_aload_n hG dX11_worstOffsetOfTrial_52 rfl 0 rfl ?_
      obtain ⟨j3, ej3, hw⟩ := hw
      refine z_getr (kq := 3) hG f_X11_57 h0 rfl ej3 rfl (by decide) dX11_worstOffsetOfTrial_53 (fun hj3 => ?_)
      obtain ⟨j4, ej4, hw⟩ := hw
      refine z_getr (kq := 4) hG f_X11_151 hj3 rfl ej4 rfl (by decide) dX11_worstOffsetOfTrial_56 (fun hj4 => ?_)
      refine z_geti hG f_X11_249 hj4 rfl dX11_worstOffsetOfTrial_59 ?_
      refine z_topi (fun x5 ex5 => ?_)
      have hw := hw x5 ex5
      obtain ⟨x6, ex6⟩ : ∃ y : Int32, y = gi σ j2 5 := ⟨_, rfl⟩
      refine zst (st' := [.int x5, .int x6]) (by rw [ex6]) ?_
      have hw := hw x6 ex6
      refine z_mmax hG k_X11_324 km_max_s km_i km_max_c (Nat.le_of_ble_eq_true rfl) (Nat.le_of_ble_eq_true rfl) (Nat.zero_le _) (Nat.zero_le _) dX11_worstOffsetOfTrial_62 ?_
      exact z_iret hG rfl rfl dX11_worstOffsetOfTrial_65 hw
    · have hw := hw.2 c10
      refine z_aload_n hG dX11_worstOffsetOfTrial_29 rfl 0 rfl ?_
      obtain ⟨j7, ej7, hw⟩ := hw
      refine z_getr (kq := 3) hG f_X11_57 h0 rfl ej7 rfl (by decide) dX11_worstOffsetOfTrial_30 (fun hj7 => ?_)
      refine z_callv hG (z_runV (As := []) (st := []) hG k_X11_276 (MX3_tick l hj7 hw) ⟨(Nat.le_of_ble_eq_true rfl), (Nat.le_of_ble_eq_true rfl)⟩ hj7 (T := TX3) (N := 17) rfl (by decide) rfl (Nat.le_of_ble_eq_true rfl) dX11_worstOffsetOfTrial_33 ⟨Nat.zero_le _, Nat.zero_le _⟩ rfl) (fun σ8 hw => ?_)
      obtain ⟨x9, ex9⟩ : ∃ y : Int32, y = v2 + 1 := ⟨_, rfl⟩
      have hw := hw x9 ex9
      refine z_iinc (v := x9) (lv' := [(2, .int x9), (0, .ref (za Y t0)), (1, .int v1)]) hG dX11_worstOffsetOfTrial_36 2 rfl (by rw [ex9]; rfl) (by decide) rfl ?_
      refine z_goto (tgt := 24) hG dX11_worstOffsetOfTrial_39 (by decide) ?_
      refine zpick [1, 2, 0] (lv' := [(0, .ref (za Y t0)), (1, .int v1), (2, .int x9)]) rfl ?_
      exact ih t0 v1 x9 σ8 hw h0
set_option maxRecDepth 100000 in
set_option maxHeartbeats 4000000 in
theorem MX11_worstOffsetOfTrial (l : Launch) {E : zE} {Y : zY} {σ : zS} {t0 : Nat} {v1 : Int32} (h0 : zT Y 11 t0) {Q : Int32 → zS → Prop} (hw : wX11_worstOffsetOfTrial (zln Y) σ t0 v1 Q) : ∀ sz, Met l yX11_worstOffsetOfTrial (zw yX11_worstOffsetOfTrial cX11_worstOffsetOfTrial 3 (some .int)) rX11_worstOffsetOfTrial (zPc E Y σ sz [.ref (za Y t0), .int v1]) (va_Qi Q (zB E Y sz) (zA Y sz)) 0 0 (zA Y sz) := by
  refine z_met (own := RX11) (Qc := fun sz => va_Qi Q (zB E Y sz) (zA Y sz)) (by decide +kernel) rfl (Nat.le_of_ble_eq_true rfl) ?_
  intro p e s m args below meth c hG hinit
  unfold wX11_worstOffsetOfTrial at hw
  refine zlv (lv' := [(0, .ref (za Y t0)), (1, .int v1)]) rfl ?_
  refine z_aload_n hG dX11_worstOffsetOfTrial_0 rfl 0 rfl ?_
  obtain ⟨j1, ej1, hw⟩ := hw
  refine z_getr (kq := 3) hG f_X11_57 h0 rfl ej1 rfl (by decide) dX11_worstOffsetOfTrial_1 (fun hj1 => ?_)
  obtain ⟨j2, ej2, hw⟩ := hw
  refine z_getr (kq := 4) hG f_X11_157 hj1 rfl ej2 rfl (by decide) dX11_worstOffsetOfTrial_4 (fun hj2 => ?_)
  refine z_iconst (v := 0) hG dX11_worstOffsetOfTrial_7 (by decide) ?_
  refine z_puti hG f_X11_249 hj2 rfl rfl (zN_int _) dX11_worstOffsetOfTrial_8 ?_
  refine z_topσ (fun σ3 eσ3 => ?_)
  have hw := hw σ3 eσ3
  refine z_aload_n hG dX11_worstOffsetOfTrial_11 rfl 0 rfl ?_
  obtain ⟨j4, ej4, hw⟩ := hw
  refine z_getr (kq := 3) hG f_X11_57 h0 rfl ej4 rfl (by decide) dX11_worstOffsetOfTrial_12 (fun hj4 => ?_)
  obtain ⟨j5, ej5, hw⟩ := hw
  refine z_getr (kq := 4) hG f_X11_151 hj4 rfl ej5 rfl (by decide) dX11_worstOffsetOfTrial_15 (fun hj5 => ?_)
  refine z_iconst (v := 0) hG dX11_worstOffsetOfTrial_18 (by decide) ?_
  refine z_puti hG f_X11_249 hj5 rfl rfl (zN_int _) dX11_worstOffsetOfTrial_19 ?_
  refine z_topσ (fun σ6 eσ6 => ?_)
  have hw := hw σ6 eσ6
  refine z_iconst (v := 0) hG dX11_worstOffsetOfTrial_22 (by decide) ?_
  refine z_istore_n (lv' := [(2, .int 0), (0, .ref (za Y t0)), (1, .int v1)]) hG dX11_worstOffsetOfTrial_23 rfl (by decide) rfl ?_
  obtain ⟨n7, hw⟩ := hw
  refine zpick [1, 2, 0] (lv' := [(0, .ref (za Y t0)), (1, .int v1), (2, .int 0)]) rfl ?_
  exact BX11_worstOffsetOfTrial_24 hG n7 t0 v1 0 σ6 hw h0
-- TypeWheelTelegraph.bestRate(II)I
def wxX11_bestRate_95 (ln : Nat → Nat) (Q : Int32 → zS → Prop) (X : String → zS → Prop) (kb44 : Nat → Int32 → Int32 → Int32 → Int32 → Int32 → Int32 → zS → Prop) (t0 : Nat) (v1 : Int32) (v2 : Int32) (v4 : Int32) (v7 : Int32) (v8 : Int32) (σ : zS) : Prop := ∀ x1 : Int32, x1 = v7 + 1 → kb44 t0 v1 v2 v4 v7 v8 x1 σ
def wxX11_bestRate_44 (ln : Nat → Nat) (Q : Int32 → zS → Prop) (X : String → zS → Prop) : Nat → Nat → Int32 → Int32 → Int32 → Int32 → Int32 → Int32 → zS → Prop
  | 0, _, _, _, _, _, _, _, _ => False
  | n + 1, t0, v1, v2, v4, v5, v6, v7, σ => ((v4 < v7 → Q v5 σ) ∧ (¬ v4 < v7 → ∃ j1 : Nat, gr σ t0 4 = some j1 ∧ ∃ j2 : Nat, gr σ t0 3 = some j2 ∧ wX3_copyFrom ln σ j1 j2 (fun σ3 => ∃ j4 : Nat, gr σ3 t0 4 = some j4 ∧ wX3_office ln σ3 j4 v1 (fun r6 σ5 => ∀ σ7 : zS, σ7 = si σ5 r6 1 v7 → wX11_worstOffsetOfTrial ln σ7 t0 v2 (fun r9 σ8 => ((v5 = (-1) → wxX11_bestRate_95 ln Q X (wxX11_bestRate_44 ln Q X n) t0 v1 v2 v4 v7 r9 σ8) ∧ (¬ v5 = (-1) → ((v6 ≤ r9 → ∀ x10 : Int32, x10 = v7 + 1 → (wxX11_bestRate_44 ln Q X n) t0 v1 v2 v4 v5 v6 x10 σ8) ∧ (¬ v6 ≤ r9 → wxX11_bestRate_95 ln Q X (wxX11_bestRate_44 ln Q X n) t0 v1 v2 v4 v7 r9 σ8)))))))))
def wxX11_bestRate (ln : Nat → Nat) (σ : zS) (t0 : Nat) (v1 : Int32) (v2 : Int32) (Q : Int32 → zS → Prop) (X : String → zS → Prop) : Prop := wxX11_officeAt ln σ t0 v1 (fun r2 σ1 => ∀ x3 : Int32, x3 = gi σ1 r2 1 → wxX11_requireRange ln σ1 v2 1 1000 (fun σ4 => ∀ x6 : Int32, x6 = x3 + 5 → ∀ x7 : Int32, x7 = (if 999 < x6 then 999 else x6) → ∀ x8 : Int32, x8 = x3 - 5 → ∀ x9 : Int32, x9 = (if x8 < 10 then 10 else x8) → ∃ n10 : Nat, wxX11_bestRate_44 ln Q X n10 t0 v1 v2 x7 (-1) 0 x9 σ4) X) X
abbrev rxX11_bestRate : Room := { frames := 9, cells := 2, slots := 12, locals := 196 }
set_option maxRecDepth 100000 in
set_option maxHeartbeats 4000000 in
theorem BxX11_bestRate_95 {l : Launch} {E : zE} {Y : zY} {p : Program} {e : Env} {s : State} {m : MethodId} {args : Array Value} {below : List Frame} {meth : Method} {c : Code} (hG : zG E p l s m args meth c cX11_bestRate 9 RX11 (some .int) (zA Y s.heap.size)) (hlt : l.stackTraces = false) (hex : ∀ x ∈ c.exceptionTable.toList, False) {Q : Int32 → zS → Prop} {X : String → zS → Prop} {kb44 : Nat → Int32 → Int32 → Int32 → Int32 → Int32 → Int32 → zS → Prop} (hkb44 : ∀ (t0 : Nat) (v1 : Int32) (v2 : Int32) (v4 : Int32) (v5 : Int32) (v6 : Int32) (v7 : Int32) (σ : zS) (cl sl : Nat), kb44 t0 v1 v2 v4 v5 v6 v7 σ → zT Y 11 t0 → cl + (0) ≤ 2 → sl + (0) ≤ 12 → WW E Y σ p l e rxX11_bestRate s m args below meth c (zA Y s.heap.size) 9 cl sl (vx_MQ below (va_Qi Q (zB E Y s.heap.size) (zA Y s.heap.size)) (zX X E Y s.heap.size) args s 2 12 (zA Y s.heap.size)) [(0, .ref (za Y t0)), (1, .int v1), (2, .int v2), (4, .int v4), (5, .int v5), (6, .int v6), (7, .int v7)] 44 []) : ∀ (t0 : Nat) (v1 : Int32) (v2 : Int32) (v4 : Int32) (v7 : Int32) (v8 : Int32) (σ : zS) (cl sl : Nat), wxX11_bestRate_95 (zln Y) Q X kb44 t0 v1 v2 v4 v7 v8 σ → zT Y 11 t0 → cl + (0) ≤ 2 → sl + (0) ≤ 12 → WW E Y σ p l e rxX11_bestRate s m args below meth c (zA Y s.heap.size) 9 cl sl (vx_MQ below (va_Qi Q (zB E Y s.heap.size) (zA Y s.heap.size)) (zX X E Y s.heap.size) args s 2 12 (zA Y s.heap.size)) [(0, .ref (za Y t0)), (1, .int v1), (2, .int v2), (4, .int v4), (7, .int v7), (8, .int v8)] 95 [] := by
  intro t0 v1 v2 v4 v7 v8 σ cl sl hw h0 hcl hsl
  unfold wxX11_bestRate_95 at hw
  refine z_iload hG dX11_bestRate_95 4 rfl ?_
  refine z_istore (lv' := [(5, .int v7), (0, .ref (za Y t0)), (1, .int v1), (2, .int v2), (4, .int v4), (7, .int v7), (8, .int v8)]) hG dX11_bestRate_97 (by decide) rfl ?_
  refine z_iload hG dX11_bestRate_99 6 rfl ?_
  refine z_istore (lv' := [(6, .int v8), (5, .int v7), (0, .ref (za Y t0)), (1, .int v1), (2, .int v2), (4, .int v4), (7, .int v7), (8, .int v8)]) hG dX11_bestRate_101 (by decide) rfl ?_
  obtain ⟨x1, ex1⟩ : ∃ y : Int32, y = v7 + 1 := ⟨_, rfl⟩
  have hw := hw x1 ex1
  refine z_iinc (v := x1) (lv' := [(7, .int x1), (6, .int v8), (5, .int v7), (0, .ref (za Y t0)), (1, .int v1), (2, .int v2), (4, .int v4), (8, .int v8)]) hG dX11_bestRate_103 6 rfl (by rw [ex1]; rfl) (by decide) rfl ?_
  refine z_goto (tgt := 44) hG dX11_bestRate_106 (by decide) ?_
  refine zpick [3, 4, 5, 6, 2, 1, 0] (lv' := [(0, .ref (za Y t0)), (1, .int v1), (2, .int v2), (4, .int v4), (5, .int v7), (6, .int v8), (7, .int x1)]) rfl ?_
  exact hkb44 t0 v1 v2 v4 v7 v8 x1 σ _ _ hw h0 (by omega) (by omega)
set_option maxRecDepth 100000 in
set_option maxHeartbeats 4000000 in
theorem BxX11_bestRate_44 {l : Launch} {E : zE} {Y : zY} {p : Program} {e : Env} {s : State} {m : MethodId} {args : Array Value} {below : List Frame} {meth : Method} {c : Code} (hG : zG E p l s m args meth c cX11_bestRate 9 RX11 (some .int) (zA Y s.heap.size)) (hlt : l.stackTraces = false) (hex : ∀ x ∈ c.exceptionTable.toList, False) {Q : Int32 → zS → Prop} {X : String → zS → Prop} : ∀ (n : Nat) (t0 : Nat) (v1 : Int32) (v2 : Int32) (v4 : Int32) (v5 : Int32) (v6 : Int32) (v7 : Int32) (σ : zS) (cl sl : Nat), wxX11_bestRate_44 (zln Y) Q X n t0 v1 v2 v4 v5 v6 v7 σ → zT Y 11 t0 → cl + (0) ≤ 2 → sl + (0) ≤ 12 → WW E Y σ p l e rxX11_bestRate s m args below meth c (zA Y s.heap.size) 9 cl sl (vx_MQ below (va_Qi Q (zB E Y s.heap.size) (zA Y s.heap.size)) (zX X E Y s.heap.size) args s 2 12 (zA Y s.heap.size)) [(0, .ref (za Y t0)), (1, .int v1), (2, .int v2), (4, .int v4), (5, .int v5), (6, .int v6), (7, .int v7)] 44 [] := by
  intro n
  induction n with
  | zero => intro t0 v1 v2 v4 v5 v6 v7 σ cl sl hw
            exact hw.elim
  | succ n ih =>
    intro t0 v1 v2 v4 v5 v6 v7 σ cl sl hw h0 hcl hsl
    rw [wxX11_bestRate_44] at hw
    refine z_iload hG dX11_bestRate_44 6 rfl ?_
    refine z_iload hG dX11_bestRate_46 3 rfl ?_
    refine z_icmp_gt (tgt := 109) hG dX11_bestRate_48 (by decide) (fun c13 => ?_) (fun c13 => ?_)
    · have hw := hw.1 c13
      refine z_iload hG dX11_bestRate_109 4 rfl ?_
      refine zwiden (k := 2) (n := 12) (by omega) (by omega) (zvx ?_)
      exact z_iret hG rfl rfl dX11_bestRate_111 hw
    · have hw := hw.2 c13
      refine z_aload_n hG dX11_bestRate_51 rfl 0 rfl ?_
      obtain ⟨j1, ej1, hw⟩ := hw
      refine z_getr (kq := 3) hG f_X11_57 h0 rfl ej1 rfl (by decide) dX11_bestRate_52 (fun hj1 => ?_)
      refine z_aload_n hG dX11_bestRate_55 rfl 0 rfl ?_
      obtain ⟨j2, ej2, hw⟩ := hw
      refine z_getr (kq := 3) hG f_X11_53 h0 rfl ej2 rfl (by decide) dX11_bestRate_56 (fun hj2 => ?_)
      refine z_callv hG (z_runV (As := [.ref (za Y j2)]) (st := []) hG k_X11_313 (MX3_copyFrom l hj1 hj2 hw) ⟨(Nat.le_of_ble_eq_true rfl), (Nat.le_of_ble_eq_true rfl)⟩ hj1 (T := TX3) (N := 17) rfl (by decide) rfl (Nat.le_of_ble_eq_true rfl) dX11_bestRate_59 ⟨show cl + 0 + 0 ≤ 2 from by omega, show sl + 0 + 0 ≤ 12 from by omega⟩ rfl) (fun σ3 hw => ?_)
      refine z_aload_n hG dX11_bestRate_62 rfl 0 rfl ?_
      obtain ⟨j4, ej4, hw⟩ := hw
      refine z_getr (kq := 3) hG f_X11_57 h0 rfl ej4 rfl (by decide) dX11_bestRate_63 (fun hj4 => ?_)
      refine z_iload_n hG dX11_bestRate_66 rfl 1 rfl ?_
      refine z_callr hG (z_runV (As := [.int v1]) (st := []) hG k_X11_220 (MX3_office l hj4 hw) ⟨(Nat.le_of_ble_eq_true rfl), (Nat.le_of_ble_eq_true rfl)⟩ hj4 (T := TX3) (N := 17) rfl (by decide) rfl (Nat.le_of_ble_eq_true rfl) dX11_bestRate_67 ⟨show cl + 0 + 0 ≤ 2 from by omega, show sl + 0 + 0 ≤ 12 from by omega⟩ rfl) (fun r6 σ5 hr6 hw => ?_)
      refine z_iload hG dX11_bestRate_70 6 rfl ?_
      refine z_puti hG f_X11_132 hr6 rfl rfl (zN_int _) dX11_bestRate_72 ?_
      refine z_topσ (fun σ7 eσ7 => ?_)
      have hw := hw σ7 eσ7
      refine z_aload_n hG dX11_bestRate_75 rfl 0 rfl ?_
      refine z_iload_n hG dX11_bestRate_76 rfl 2 rfl ?_
      refine z_calli hG (z_runV (As := [.int v2]) (st := []) hG k_X11_327 (MX11_worstOffsetOfTrial l h0 hw) ⟨(Nat.le_of_ble_eq_true rfl), (Nat.le_of_ble_eq_true rfl)⟩ h0 (T := TX11) (N := 9) rfl (by decide) rfl (Nat.le_of_ble_eq_true rfl) dX11_bestRate_77 ⟨show cl + 0 + 0 ≤ 2 from by omega, show sl + 0 + 0 ≤ 12 from by omega⟩ rfl) (fun r9 σ8 hw => ?_)
      refine z_istore (lv' := [(8, .int r9), (0, .ref (za Y t0)), (1, .int v1), (2, .int v2), (4, .int v4), (5, .int v5), (6, .int v6), (7, .int v7)]) hG dX11_bestRate_80 (by decide) rfl ?_
      refine z_iload hG dX11_bestRate_82 5 rfl ?_
      refine z_iconst (v := (-1)) hG dX11_bestRate_84 (by decide) ?_
      refine z_icmp_eq (tgt := 95) hG dX11_bestRate_85 (by decide) (fun c12 => ?_) (fun c12 => ?_)
      · have hw := hw.1 c12
        refine zpick [1, 2, 3, 4, 7, 0] (lv' := [(0, .ref (za Y t0)), (1, .int v1), (2, .int v2), (4, .int v4), (7, .int v7), (8, .int r9)]) rfl ?_
        exact BxX11_bestRate_95 hG hlt hex ih t0 v1 v2 v4 v7 r9 σ8 _ _ hw h0 (by omega) (by omega)
      · have hw := hw.2 c12
        refine z_iload hG dX11_bestRate_88 0 rfl ?_
        refine z_iload hG dX11_bestRate_90 6 rfl ?_
        refine z_icmp_ge (tgt := 103) hG dX11_bestRate_92 (by decide) (fun c11 => ?_) (fun c11 => ?_)
        · have hw := hw.1 c11
          obtain ⟨x10, ex10⟩ : ∃ y : Int32, y = v7 + 1 := ⟨_, rfl⟩
          have hw := hw x10 ex10
          refine z_iinc (v := x10) (lv' := [(7, .int x10), (8, .int r9), (0, .ref (za Y t0)), (1, .int v1), (2, .int v2), (4, .int v4), (5, .int v5), (6, .int v6)]) hG dX11_bestRate_103 7 rfl (by rw [ex10]; rfl) (by decide) rfl ?_
          refine z_goto (tgt := 44) hG dX11_bestRate_106 (by decide) ?_
          refine zpick [2, 3, 4, 5, 6, 7, 0] (lv' := [(0, .ref (za Y t0)), (1, .int v1), (2, .int v2), (4, .int v4), (5, .int v5), (6, .int v6), (7, .int x10)]) rfl ?_
          exact ih t0 v1 v2 v4 v5 v6 x10 σ8 _ _ hw h0 (by omega) (by omega)
        · have hw := hw.2 c11
          refine zpick [1, 2, 3, 4, 7, 0] (lv' := [(0, .ref (za Y t0)), (1, .int v1), (2, .int v2), (4, .int v4), (7, .int v7), (8, .int r9)]) rfl ?_
          exact BxX11_bestRate_95 hG hlt hex ih t0 v1 v2 v4 v7 r9 σ8 _ _ hw h0 (by omega) (by omega)
set_option maxRecDepth 100000 in
set_option maxHeartbeats 4000000 in
theorem MxX11_bestRate (l : Launch) (hlt : l.stackTraces = false) {E : zE} {Y : zY} {σ : zS} {t0 : Nat} {v1 : Int32} {v2 : Int32} (h0 : zT Y 11 t0) {Q : Int32 → zS → Prop} {X : String → zS → Prop} (hw : wxX11_bestRate (zln Y) σ t0 v1 v2 Q X) : ∀ sz, vx_Met l yX11_bestRate (zw yX11_bestRate cX11_bestRate 9 (some .int)) rxX11_bestRate (zPc E Y σ sz [.ref (za Y t0), .int v1, .int v2]) (va_Qi Q (zB E Y sz) (zA Y sz)) (zX X E Y sz) 2 12 (zA Y sz) := by
  refine z_metX (own := RX11) (Qc := fun sz => va_Qi Q (zB E Y sz) (zA Y sz)) (XC := fun sz => zX X E Y sz) (by decide +kernel) rfl (Nat.le_of_ble_eq_true rfl) ?_
  intro p e s m args below meth c hG hex
  unfold wxX11_bestRate at hw
  refine zlv (lv' := [(0, .ref (za Y t0)), (1, .int v1), (2, .int v2)]) rfl ?_
  refine z_aload_n hG dX11_bestRate_0 rfl 0 rfl ?_
  refine z_iload_n hG dX11_bestRate_1 rfl 1 rfl ?_
  refine z_callXr hG hex (z_runXV (As := [.int v1]) (st := []) hG k_X11_123 (MxX11_officeAt l hlt h0 hw) rfl rfl ⟨(Nat.le_of_ble_eq_true rfl), (Nat.le_of_ble_eq_true rfl)⟩ h0 (T := TX11) (N := 9) rfl (by decide) rfl (Nat.le_of_ble_eq_true rfl) dX11_bestRate_2 ⟨show 0 + 1 ≤ 2 from by omega, show 0 + 6 ≤ 12 from by omega⟩ rfl) (show 0 + 1 ≤ 2 from by omega) (show 0 + 6 ≤ 12 from by omega) (fun r2 σ1 hr2 hw => ?_)
  refine zwiden (k := 1) (n := 6) (by omega) (by omega) ?_
  refine z_geti hG f_X11_132 hr2 rfl dX11_bestRate_5 ?_
  refine z_topi (fun x3 ex3 => ?_)
  have hw := hw x3 ex3
  refine z_istore_n (lv' := [(3, .int x3), (0, .ref (za Y t0)), (1, .int v1), (2, .int v2)]) hG dX11_bestRate_8 rfl (by decide) rfl ?_
  refine z_iload_n hG dX11_bestRate_9 rfl 3 rfl ?_
  refine z_iconst (v := 1) hG dX11_bestRate_10 (by decide) ?_
  refine z_sipush (v := 1000) hG dX11_bestRate_11 (by decide) ?_
  refine z_callXv hG hex (z_runXS (As := [.int v2, .int 1, .int 1000]) (st := []) hG k_X11_265 (MxX11_requireRange l hlt hw) rfl rfl ⟨(Nat.le_of_ble_eq_true rfl), (Nat.le_of_ble_eq_true rfl)⟩ rfl (Nat.le_of_ble_eq_true rfl) dX11_bestRate_14 ⟨show 1 + 1 ≤ 2 from by omega, show 6 + 6 ≤ 12 from by omega⟩ rfl) (show 1 + 1 ≤ 2 from by omega) (show 6 + 6 ≤ 12 from by omega) (fun σ4 hw => ?_)
  refine zwiden (k := 2) (n := 12) (by omega) (by omega) ?_
  refine z_iload_n hG dX11_bestRate_17 rfl 0 rfl ?_
  refine z_iconst (v := 5) hG dX11_bestRate_18 (by decide) ?_
  refine z_iadd hG dX11_bestRate_19 ?_
  refine z_sipush (v := 999) hG dX11_bestRate_20 (by decide) ?_
  obtain ⟨x6, ex6⟩ : ∃ y : Int32, y = x3 + 5 := ⟨_, rfl⟩
  refine zst (st' := [.int 999, .int x6]) (by rw [ex6]) ?_
  have hw := hw x6 ex6
  refine z_mmin hG k_X11_319 km_min_s km_i km_min_c (Nat.le_of_ble_eq_true rfl) (Nat.le_of_ble_eq_true rfl) (show 2 ≤ 2 from by omega) (show 12 ≤ 12 from by omega) dX11_bestRate_23 ?_
  refine z_topi (fun x7 ex7 => ?_)
  have hw := hw x7 ex7
  refine z_istore (lv' := [(4, .int x7), (3, .int x3), (0, .ref (za Y t0)), (1, .int v1), (2, .int v2)]) hG dX11_bestRate_26 (by decide) rfl ?_
  refine z_iconst (v := (-1)) hG dX11_bestRate_28 (by decide) ?_
  refine z_istore (lv' := [(5, .int (-1)), (4, .int x7), (3, .int x3), (0, .ref (za Y t0)), (1, .int v1), (2, .int v2)]) hG dX11_bestRate_29 (by decide) rfl ?_
  refine z_iconst (v := 0) hG dX11_bestRate_31 (by decide) ?_
  refine z_istore (lv' := [(6, .int 0), (5, .int (-1)), (4, .int x7), (3, .int x3), (0, .ref (za Y t0)), (1, .int v1), (2, .int v2)]) hG dX11_bestRate_32 (by decide) rfl ?_
  refine z_iload_n hG dX11_bestRate_34 rfl 3 rfl ?_
  refine z_iconst (v := 5) hG dX11_bestRate_35 (by decide) ?_
  refine z_isub hG dX11_bestRate_36 ?_
  refine z_bipush (v := 10) hG dX11_bestRate_37 (by decide) ?_
  obtain ⟨x8, ex8⟩ : ∃ y : Int32, y = x3 - 5 := ⟨_, rfl⟩
  refine zst (st' := [.int 10, .int x8]) (by rw [ex8]) ?_
  have hw := hw x8 ex8
  refine z_mmax hG k_X11_324 km_max_s km_i km_max_c (Nat.le_of_ble_eq_true rfl) (Nat.le_of_ble_eq_true rfl) (show 2 ≤ 2 from by omega) (show 12 ≤ 12 from by omega) dX11_bestRate_39 ?_
  refine z_topi (fun x9 ex9 => ?_)
  have hw := hw x9 ex9
  refine z_istore (lv' := [(7, .int x9), (6, .int 0), (5, .int (-1)), (4, .int x7), (3, .int x3), (0, .ref (za Y t0)), (1, .int v1), (2, .int v2)]) hG dX11_bestRate_42 (by decide) rfl ?_
  obtain ⟨n10, hw⟩ := hw
  refine zpick [5, 6, 7, 3, 2, 1, 0] (lv' := [(0, .ref (za Y t0)), (1, .int v1), (2, .int v2), (4, .int x7), (5, .int (-1)), (6, .int 0), (7, .int x9)]) rfl ?_
  refine zwiden (k := 2) (n := 12) (by omega) (by omega) ?_
  exact BxX11_bestRate_44 hG hlt hex n10 t0 v1 v2 x7 (-1) 0 x9 σ4 _ _ hw h0 (by omega) (by omega)
-- TypeWheelTelegraph.bestNudge(II)I
def wxX11_bestNudge_108 (ln : Nat → Nat) (Q : Int32 → zS → Prop) (X : String → zS → Prop) (kb36 : Nat → Int32 → Int32 → Int32 → Int32 → Int32 → zS → Prop) (kb49 : Nat → Int32 → Int32 → Int32 → Int32 → Int32 → Int32 → zS → Prop) (t0 : Nat) (v1 : Int32) (v2 : Int32) (v3 : Int32) (v4 : Int32) (v5 : Int32) (v6 : Int32) (σ : zS) : Prop := ∀ x1 : Int32, x1 = v6 + (2 * v5) → kb49 t0 v1 v2 v3 v4 v5 x1 σ
def wxX11_bestNudge_49 (ln : Nat → Nat) (Q : Int32 → zS → Prop) (X : String → zS → Prop) (kb36 : Nat → Int32 → Int32 → Int32 → Int32 → Int32 → zS → Prop) : Nat → Nat → Int32 → Int32 → Int32 → Int32 → Int32 → Int32 → zS → Prop
  | 0, _, _, _, _, _, _, _, _ => False
  | n + 1, t0, v1, v2, v3, v4, v5, v6, σ => ((v5 < v6 → ∀ x1 : Int32, x1 = v5 + 100 → kb36 t0 v1 v2 v3 v4 x1 σ) ∧ (¬ v5 < v6 → ∃ j2 : Nat, gr σ t0 4 = some j2 ∧ ∃ j3 : Nat, gr σ t0 3 = some j3 ∧ wX3_copyFrom ln σ j2 j3 (fun σ4 => ∃ j5 : Nat, gr σ4 t0 4 = some j5 ∧ wX3_office ln σ4 j5 v1 (fun r7 σ6 => ∃ j8 : Nat, gr σ6 t0 6 = some j8 ∧ wX6_circle ln σ6 j8 (fun r10 σ9 => wX4_turn ln σ9 r7 v6 r10 (fun σ11 => wX11_misprintsOfTrial ln σ11 t0 v2 (fun r13 σ12 => ((v4 ≤ r13 → wxX11_bestNudge_108 ln Q X kb36 (wxX11_bestNudge_49 ln Q X kb36 n) t0 v1 v2 v3 v4 v5 v6 σ12) ∧ (¬ v4 ≤ r13 → wxX11_bestNudge_108 ln Q X kb36 (wxX11_bestNudge_49 ln Q X kb36 n) t0 v1 v2 v6 r13 v5 v6 σ12)))))))))
def wxX11_bestNudge_36 (ln : Nat → Nat) (Q : Int32 → zS → Prop) (X : String → zS → Prop) : Nat → Nat → Int32 → Int32 → Int32 → Int32 → Int32 → zS → Prop
  | 0, _, _, _, _, _, _, _ => False
  | n + 1, t0, v1, v2, v3, v4, v5, σ => ((500 < v5 → Q v3 σ) ∧ (¬ 500 < v5 → ∀ x1 : Int32, x1 = -v5 → ∃ n2 : Nat, wxX11_bestNudge_49 ln Q X (wxX11_bestNudge_36 ln Q X n) n2 t0 v1 v2 v3 v4 v5 x1 σ))
def wxX11_bestNudge (ln : Nat → Nat) (σ : zS) (t0 : Nat) (v1 : Int32) (v2 : Int32) (Q : Int32 → zS → Prop) (X : String → zS → Prop) : Prop := wxX11_requireOffice ln σ v1 (fun σ1 => wxX11_requireRange ln σ1 v2 1 1000 (fun σ3 => ∃ j5 : Nat, gr σ3 t0 4 = some j5 ∧ ∃ j6 : Nat, gr σ3 t0 3 = some j6 ∧ wX3_copyFrom ln σ3 j5 j6 (fun σ7 => wX11_misprintsOfTrial ln σ7 t0 v2 (fun r9 σ8 => ∃ n10 : Nat, wxX11_bestNudge_36 ln Q X n10 t0 v1 v2 0 r9 100 σ8))) X) X
abbrev rxX11_bestNudge : Room := { frames := 9, cells := 2, slots := 12, locals := 197 }
set_option maxRecDepth 100000 in
set_option maxHeartbeats 4000000 in
theorem BxX11_bestNudge_108 {l : Launch} {E : zE} {Y : zY} {p : Program} {e : Env} {s : State} {m : MethodId} {args : Array Value} {below : List Frame} {meth : Method} {c : Code} (hG : zG E p l s m args meth c cX11_bestNudge 8 RX11 (some .int) (zA Y s.heap.size)) (hlt : l.stackTraces = false) (hex : ∀ x ∈ c.exceptionTable.toList, False) {Q : Int32 → zS → Prop} {X : String → zS → Prop} {kb36 : Nat → Int32 → Int32 → Int32 → Int32 → Int32 → zS → Prop} (hkb36 : ∀ (t0 : Nat) (v1 : Int32) (v2 : Int32) (v3 : Int32) (v4 : Int32) (v5 : Int32) (σ : zS) (cl sl : Nat), kb36 t0 v1 v2 v3 v4 v5 σ → zT Y 11 t0 → cl + (0) ≤ 2 → sl + (0) ≤ 12 → WW E Y σ p l e rxX11_bestNudge s m args below meth c (zA Y s.heap.size) 8 cl sl (vx_MQ below (va_Qi Q (zB E Y s.heap.size) (zA Y s.heap.size)) (zX X E Y s.heap.size) args s 2 12 (zA Y s.heap.size)) [(0, .ref (za Y t0)), (1, .int v1), (2, .int v2), (3, .int v3), (4, .int v4), (5, .int v5)] 36 []) {kb49 : Nat → Int32 → Int32 → Int32 → Int32 → Int32 → Int32 → zS → Prop} (hkb49 : ∀ (t0 : Nat) (v1 : Int32) (v2 : Int32) (v3 : Int32) (v4 : Int32) (v5 : Int32) (v6 : Int32) (σ : zS) (cl sl : Nat), kb49 t0 v1 v2 v3 v4 v5 v6 σ → zT Y 11 t0 → cl + (0) ≤ 2 → sl + (0) ≤ 12 → WW E Y σ p l e rxX11_bestNudge s m args below meth c (zA Y s.heap.size) 8 cl sl (vx_MQ below (va_Qi Q (zB E Y s.heap.size) (zA Y s.heap.size)) (zX X E Y s.heap.size) args s 2 12 (zA Y s.heap.size)) [(0, .ref (za Y t0)), (1, .int v1), (2, .int v2), (3, .int v3), (4, .int v4), (5, .int v5), (6, .int v6)] 49 []) : ∀ (t0 : Nat) (v1 : Int32) (v2 : Int32) (v3 : Int32) (v4 : Int32) (v5 : Int32) (v6 : Int32) (σ : zS) (cl sl : Nat), wxX11_bestNudge_108 (zln Y) Q X kb36 kb49 t0 v1 v2 v3 v4 v5 v6 σ → zT Y 11 t0 → cl + (0) ≤ 2 → sl + (0) ≤ 12 → WW E Y σ p l e rxX11_bestNudge s m args below meth c (zA Y s.heap.size) 8 cl sl (vx_MQ below (va_Qi Q (zB E Y s.heap.size) (zA Y s.heap.size)) (zX X E Y s.heap.size) args s 2 12 (zA Y s.heap.size)) [(0, .ref (za Y t0)), (1, .int v1), (2, .int v2), (3, .int v3), (4, .int v4), (5, .int v5), (6, .int v6)] 108 [] := by
  intro t0 v1 v2 v3 v4 v5 v6 σ cl sl hw h0 hcl hsl
  unfold wxX11_bestNudge_108 at hw
  refine z_iload hG dX11_bestNudge_108 6 rfl ?_
  refine z_iconst (v := 2) hG dX11_bestNudge_110 (by decide) ?_
  refine z_iload hG dX11_bestNudge_111 5 rfl ?_
  refine z_imul hG dX11_bestNudge_113 ?_
  refine z_iadd hG dX11_bestNudge_114 ?_
  refine z_topi (fun x1 ex1 => ?_)
  have hw := hw x1 ex1
  refine z_istore (lv' := [(6, .int x1), (0, .ref (za Y t0)), (1, .int v1), (2, .int v2), (3, .int v3), (4, .int v4), (5, .int v5)]) hG dX11_bestNudge_115 (by decide) rfl ?_
  refine z_goto (tgt := 49) hG dX11_bestNudge_117 (by decide) ?_
  refine zpick [1, 2, 3, 4, 5, 6, 0] (lv' := [(0, .ref (za Y t0)), (1, .int v1), (2, .int v2), (3, .int v3), (4, .int v4), (5, .int v5), (6, .int x1)]) rfl ?_
  exact hkb49 t0 v1 v2 v3 v4 v5 x1 σ _ _ hw h0 (by omega) (by omega)
set_option maxRecDepth 100000 in
set_option maxHeartbeats 4000000 in
theorem BxX11_bestNudge_49 {l : Launch} {E : zE} {Y : zY} {p : Program} {e : Env} {s : State} {m : MethodId} {args : Array Value} {below : List Frame} {meth : Method} {c : Code} (hG : zG E p l s m args meth c cX11_bestNudge 8 RX11 (some .int) (zA Y s.heap.size)) (hlt : l.stackTraces = false) (hex : ∀ x ∈ c.exceptionTable.toList, False) {Q : Int32 → zS → Prop} {X : String → zS → Prop} {kb36 : Nat → Int32 → Int32 → Int32 → Int32 → Int32 → zS → Prop} (hkb36 : ∀ (t0 : Nat) (v1 : Int32) (v2 : Int32) (v3 : Int32) (v4 : Int32) (v5 : Int32) (σ : zS) (cl sl : Nat), kb36 t0 v1 v2 v3 v4 v5 σ → zT Y 11 t0 → cl + (0) ≤ 2 → sl + (0) ≤ 12 → WW E Y σ p l e rxX11_bestNudge s m args below meth c (zA Y s.heap.size) 8 cl sl (vx_MQ below (va_Qi Q (zB E Y s.heap.size) (zA Y s.heap.size)) (zX X E Y s.heap.size) args s 2 12 (zA Y s.heap.size)) [(0, .ref (za Y t0)), (1, .int v1), (2, .int v2), (3, .int v3), (4, .int v4), (5, .int v5)] 36 []) : ∀ (n : Nat) (t0 : Nat) (v1 : Int32) (v2 : Int32) (v3 : Int32) (v4 : Int32) (v5 : Int32) (v6 : Int32) (σ : zS) (cl sl : Nat), wxX11_bestNudge_49 (zln Y) Q X kb36 n t0 v1 v2 v3 v4 v5 v6 σ → zT Y 11 t0 → cl + (0) ≤ 2 → sl + (0) ≤ 12 → WW E Y σ p l e rxX11_bestNudge s m args below meth c (zA Y s.heap.size) 8 cl sl (vx_MQ below (va_Qi Q (zB E Y s.heap.size) (zA Y s.heap.size)) (zX X E Y s.heap.size) args s 2 12 (zA Y s.heap.size)) [(0, .ref (za Y t0)), (1, .int v1), (2, .int v2), (3, .int v3), (4, .int v4), (5, .int v5), (6, .int v6)] 49 [] := by
  intro n
  induction n with
  | zero => intro t0 v1 v2 v3 v4 v5 v6 σ cl sl hw
            exact hw.elim
  | succ n ih =>
    intro t0 v1 v2 v3 v4 v5 v6 σ cl sl hw h0 hcl hsl
    rw [wxX11_bestNudge_49] at hw
    refine z_iload hG dX11_bestNudge_49 6 rfl ?_
    refine z_iload hG dX11_bestNudge_51 5 rfl ?_
    refine z_icmp_gt (tgt := 120) hG dX11_bestNudge_53 (by decide) (fun c15 => ?_) (fun c15 => ?_)
    · have hw := hw.1 c15
      obtain ⟨x1, ex1⟩ : ∃ y : Int32, y = v5 + 100 := ⟨_, rfl⟩
      have hw := hw x1 ex1
      refine z_iinc (v := x1) (lv' := [(5, .int x1), (0, .ref (za Y t0)), (1, .int v1), (2, .int v2), (3, .int v3), (4, .int v4), (6, .int v6)]) hG dX11_bestNudge_120 5 rfl (by rw [ex1]; rfl) (by decide) rfl ?_
      refine z_goto (tgt := 36) hG dX11_bestNudge_123 (by decide) ?_
      refine zpick [1, 2, 3, 4, 5, 0] (lv' := [(0, .ref (za Y t0)), (1, .int v1), (2, .int v2), (3, .int v3), (4, .int v4), (5, .int x1)]) rfl ?_
      exact hkb36 t0 v1 v2 v3 v4 x1 σ _ _ hw h0 (by omega) (by omega)
    · have hw := hw.2 c15
      refine z_aload_n hG dX11_bestNudge_56 rfl 0 rfl ?_
      obtain ⟨j2, ej2, hw⟩ := hw
      refine z_getr (kq := 3) hG f_X11_57 h0 rfl ej2 rfl (by decide) dX11_bestNudge_57 (fun hj2 => ?_)
      refine z_aload_n hG dX11_bestNudge_60 rfl 0 rfl ?_
      obtain ⟨j3, ej3, hw⟩ := hw
      refine z_getr (kq := 3) hG f_X11_53 h0 rfl ej3 rfl (by decide) dX11_bestNudge_61 (fun hj3 => ?_)
      refine z_callv hG (z_runV (As := [.ref (za Y j3)]) (st := []) hG k_X11_313 (MX3_copyFrom l hj2 hj3 hw) ⟨(Nat.le_of_ble_eq_true rfl), (Nat.le_of_ble_eq_true rfl)⟩ hj2 (T := TX3) (N := 17) rfl (by decide) rfl (Nat.le_of_ble_eq_true rfl) dX11_bestNudge_64 ⟨show cl + 0 + 0 ≤ 2 from by omega, show sl + 0 + 0 ≤ 12 from by omega⟩ rfl) (fun σ4 hw => ?_)
      refine z_aload_n hG dX11_bestNudge_67 rfl 0 rfl ?_
      obtain ⟨j5, ej5, hw⟩ := hw
      refine z_getr (kq := 3) hG f_X11_57 h0 rfl ej5 rfl (by decide) dX11_bestNudge_68 (fun hj5 => ?_)
      refine z_iload_n hG dX11_bestNudge_71 rfl 1 rfl ?_
      refine z_callr hG (z_runV (As := [.int v1]) (st := []) hG k_X11_220 (MX3_office l hj5 hw) ⟨(Nat.le_of_ble_eq_true rfl), (Nat.le_of_ble_eq_true rfl)⟩ hj5 (T := TX3) (N := 17) rfl (by decide) rfl (Nat.le_of_ble_eq_true rfl) dX11_bestNudge_72 ⟨show cl + 0 + 0 ≤ 2 from by omega, show sl + 0 + 0 ≤ 12 from by omega⟩ rfl) (fun r7 σ6 hr7 hw => ?_)
      refine z_iload hG dX11_bestNudge_75 6 rfl ?_
      refine z_aload_n hG dX11_bestNudge_77 rfl 0 rfl ?_
      obtain ⟨j8, ej8, hw⟩ := hw
      refine z_getr (kq := 6) hG f_X11_37 h0 rfl ej8 rfl (by decide) dX11_bestNudge_78 (fun hj8 => ?_)
      refine z_calli hG (z_runV (As := []) (st := [.int v6, .ref (za Y r7)]) hG k_X11_159 (MX6_circle l hj8 hw) ⟨(Nat.le_of_ble_eq_true rfl), (Nat.le_of_ble_eq_true rfl)⟩ hj8 (T := TX6) (N := 8) rfl (by decide) rfl (Nat.le_of_ble_eq_true rfl) dX11_bestNudge_81 ⟨show cl + 0 + 0 ≤ 2 from by omega, show sl + 0 + 0 ≤ 12 from by omega⟩ rfl) (fun r10 σ9 hw => ?_)
      refine z_callv hG (z_runV (As := [.int v6, .int r10]) (st := []) hG k_X11_295 (MX4_turn l hr7 hw) ⟨(Nat.le_of_ble_eq_true rfl), (Nat.le_of_ble_eq_true rfl)⟩ hr7 (T := TX4) (N := 8) rfl (by decide) rfl (Nat.le_of_ble_eq_true rfl) dX11_bestNudge_84 ⟨show cl + 0 + 0 ≤ 2 from by omega, show sl + 0 + 0 ≤ 12 from by omega⟩ rfl) (fun σ11 hw => ?_)
      refine z_aload_n hG dX11_bestNudge_87 rfl 0 rfl ?_
      refine z_iload_n hG dX11_bestNudge_88 rfl 2 rfl ?_
      refine z_calli hG (z_runV (As := [.int v2]) (st := []) hG k_X11_316 (MX11_misprintsOfTrial l h0 hw) ⟨(Nat.le_of_ble_eq_true rfl), (Nat.le_of_ble_eq_true rfl)⟩ h0 (T := TX11) (N := 9) rfl (by decide) rfl (Nat.le_of_ble_eq_true rfl) dX11_bestNudge_89 ⟨show cl + 0 + 0 ≤ 2 from by omega, show sl + 0 + 0 ≤ 12 from by omega⟩ rfl) (fun r13 σ12 hw => ?_)
      refine z_istore (lv' := [(7, .int r13), (0, .ref (za Y t0)), (1, .int v1), (2, .int v2), (3, .int v3), (4, .int v4), (5, .int v5), (6, .int v6)]) hG dX11_bestNudge_92 (by decide) rfl ?_
      refine z_iload hG dX11_bestNudge_94 0 rfl ?_
      refine z_iload hG dX11_bestNudge_96 5 rfl ?_
      refine z_icmp_ge (tgt := 108) hG dX11_bestNudge_98 (by decide) (fun c14 => ?_) (fun c14 => ?_)
      · have hw := hw.1 c14
        refine zpick [1, 2, 3, 4, 5, 6, 7] (lv' := [(0, .ref (za Y t0)), (1, .int v1), (2, .int v2), (3, .int v3), (4, .int v4), (5, .int v5), (6, .int v6)]) rfl ?_
        exact BxX11_bestNudge_108 hG hlt hex hkb36 ih t0 v1 v2 v3 v4 v5 v6 σ12 _ _ hw h0 (by omega) (by omega)
      · have hw := hw.2 c14
        refine z_iload hG dX11_bestNudge_101 7 rfl ?_
        refine z_istore_n (lv' := [(3, .int v6), (7, .int r13), (0, .ref (za Y t0)), (1, .int v1), (2, .int v2), (4, .int v4), (5, .int v5), (6, .int v6)]) hG dX11_bestNudge_103 rfl (by decide) rfl ?_
        refine z_iload hG dX11_bestNudge_104 1 rfl ?_
        refine z_istore (lv' := [(4, .int r13), (3, .int v6), (7, .int r13), (0, .ref (za Y t0)), (1, .int v1), (2, .int v2), (5, .int v5), (6, .int v6)]) hG dX11_bestNudge_106 (by decide) rfl ?_
        refine zpick [3, 4, 5, 1, 0, 6, 7] (lv' := [(0, .ref (za Y t0)), (1, .int v1), (2, .int v2), (3, .int v6), (4, .int r13), (5, .int v5), (6, .int v6)]) rfl ?_
        exact BxX11_bestNudge_108 hG hlt hex hkb36 ih t0 v1 v2 v6 r13 v5 v6 σ12 _ _ hw h0 (by omega) (by omega)
set_option maxRecDepth 100000 in
set_option maxHeartbeats 4000000 in
theorem BxX11_bestNudge_36 {l : Launch} {E : zE} {Y : zY} {p : Program} {e : Env} {s : State} {m : MethodId} {args : Array Value} {below : List Frame} {meth : Method} {c : Code} (hG : zG E p l s m args meth c cX11_bestNudge 8 RX11 (some .int) (zA Y s.heap.size)) (hlt : l.stackTraces = false) (hex : ∀ x ∈ c.exceptionTable.toList, False) {Q : Int32 → zS → Prop} {X : String → zS → Prop} : ∀ (n : Nat) (t0 : Nat) (v1 : Int32) (v2 : Int32) (v3 : Int32) (v4 : Int32) (v5 : Int32) (σ : zS) (cl sl : Nat), wxX11_bestNudge_36 (zln Y) Q X n t0 v1 v2 v3 v4 v5 σ → zT Y 11 t0 → cl + (0) ≤ 2 → sl + (0) ≤ 12 → WW E Y σ p l e rxX11_bestNudge s m args below meth c (zA Y s.heap.size) 8 cl sl (vx_MQ below (va_Qi Q (zB E Y s.heap.size) (zA Y s.heap.size)) (zX X E Y s.heap.size) args s 2 12 (zA Y s.heap.size)) [(0, .ref (za Y t0)), (1, .int v1), (2, .int v2), (3, .int v3), (4, .int v4), (5, .int v5)] 36 [] := by
  intro n
  induction n with
  | zero => intro t0 v1 v2 v3 v4 v5 σ cl sl hw
            exact hw.elim
  | succ n ih =>
    intro t0 v1 v2 v3 v4 v5 σ cl sl hw h0 hcl hsl
    rw [wxX11_bestNudge_36] at hw
    refine z_iload hG dX11_bestNudge_36 5 rfl ?_
    refine z_sipush (v := 500) hG dX11_bestNudge_38 (by decide) ?_
    refine z_icmp_gt (tgt := 126) hG dX11_bestNudge_41 (by decide) (fun c3 => ?_) (fun c3 => ?_)
    · have hw := hw.1 c3
      refine z_iload_n hG dX11_bestNudge_126 rfl 3 rfl ?_
      refine zwiden (k := 2) (n := 12) (by omega) (by omega) (zvx ?_)
      exact z_iret hG rfl rfl dX11_bestNudge_127 hw
    · have hw := hw.2 c3
      refine z_iload hG dX11_bestNudge_44 5 rfl ?_
      refine z_ineg hG dX11_bestNudge_46 ?_
      refine z_topi (fun x1 ex1 => ?_)
      have hw := hw x1 ex1
      refine z_istore (lv' := [(6, .int x1), (0, .ref (za Y t0)), (1, .int v1), (2, .int v2), (3, .int v3), (4, .int v4), (5, .int v5)]) hG dX11_bestNudge_47 (by decide) rfl ?_
      obtain ⟨n2, hw⟩ := hw
      refine zpick [1, 2, 3, 4, 5, 6, 0] (lv' := [(0, .ref (za Y t0)), (1, .int v1), (2, .int v2), (3, .int v3), (4, .int v4), (5, .int v5), (6, .int x1)]) rfl ?_
      exact BxX11_bestNudge_49 hG hlt hex ih n2 t0 v1 v2 v3 v4 v5 x1 σ _ _ hw h0 (by omega) (by omega)
set_option maxRecDepth 100000 in
set_option maxHeartbeats 4000000 in
theorem MxX11_bestNudge (l : Launch) (hlt : l.stackTraces = false) {E : zE} {Y : zY} {σ : zS} {t0 : Nat} {v1 : Int32} {v2 : Int32} (h0 : zT Y 11 t0) {Q : Int32 → zS → Prop} {X : String → zS → Prop} (hw : wxX11_bestNudge (zln Y) σ t0 v1 v2 Q X) : ∀ sz, vx_Met l yX11_bestNudge (zw yX11_bestNudge cX11_bestNudge 8 (some .int)) rxX11_bestNudge (zPc E Y σ sz [.ref (za Y t0), .int v1, .int v2]) (va_Qi Q (zB E Y sz) (zA Y sz)) (zX X E Y sz) 2 12 (zA Y sz) := by
  refine z_metX (own := RX11) (Qc := fun sz => va_Qi Q (zB E Y sz) (zA Y sz)) (XC := fun sz => zX X E Y sz) (by decide +kernel) rfl (Nat.le_of_ble_eq_true rfl) ?_
  intro p e s m args below meth c hG hex
  unfold wxX11_bestNudge at hw
  refine zlv (lv' := [(0, .ref (za Y t0)), (1, .int v1), (2, .int v2)]) rfl ?_
  refine z_iload_n hG dX11_bestNudge_0 rfl 1 rfl ?_
  refine z_callXv hG hex (z_runXS (As := [.int v1]) (st := []) hG k_X11_330 (MxX11_requireOffice l hlt hw) rfl rfl ⟨(Nat.le_of_ble_eq_true rfl), (Nat.le_of_ble_eq_true rfl)⟩ rfl (Nat.le_of_ble_eq_true rfl) dX11_bestNudge_1 ⟨show 0 + 1 ≤ 2 from by omega, show 0 + 6 ≤ 12 from by omega⟩ rfl) (show 0 + 1 ≤ 2 from by omega) (show 0 + 6 ≤ 12 from by omega) (fun σ1 hw => ?_)
  refine zwiden (k := 1) (n := 6) (by omega) (by omega) ?_
  refine z_iload_n hG dX11_bestNudge_4 rfl 2 rfl ?_
  refine z_iconst (v := 1) hG dX11_bestNudge_5 (by decide) ?_
  refine z_sipush (v := 1000) hG dX11_bestNudge_6 (by decide) ?_
  refine z_callXv hG hex (z_runXS (As := [.int v2, .int 1, .int 1000]) (st := []) hG k_X11_265 (MxX11_requireRange l hlt hw) rfl rfl ⟨(Nat.le_of_ble_eq_true rfl), (Nat.le_of_ble_eq_true rfl)⟩ rfl (Nat.le_of_ble_eq_true rfl) dX11_bestNudge_9 ⟨show 1 + 1 ≤ 2 from by omega, show 6 + 6 ≤ 12 from by omega⟩ rfl) (show 1 + 1 ≤ 2 from by omega) (show 6 + 6 ≤ 12 from by omega) (fun σ3 hw => ?_)
  refine zwiden (k := 2) (n := 12) (by omega) (by omega) ?_
  refine z_aload_n hG dX11_bestNudge_12 rfl 0 rfl ?_
  obtain ⟨j5, ej5, hw⟩ := hw
  refine z_getr (kq := 3) hG f_X11_57 h0 rfl ej5 rfl (by decide) dX11_bestNudge_13 (fun hj5 => ?_)
  refine z_aload_n hG dX11_bestNudge_16 rfl 0 rfl ?_
  obtain ⟨j6, ej6, hw⟩ := hw
  refine z_getr (kq := 3) hG f_X11_53 h0 rfl ej6 rfl (by decide) dX11_bestNudge_17 (fun hj6 => ?_)
  refine z_callv hG (z_runV (As := [.ref (za Y j6)]) (st := []) hG k_X11_313 (MX3_copyFrom l hj5 hj6 hw) ⟨(Nat.le_of_ble_eq_true rfl), (Nat.le_of_ble_eq_true rfl)⟩ hj5 (T := TX3) (N := 17) rfl (by decide) rfl (Nat.le_of_ble_eq_true rfl) dX11_bestNudge_20 ⟨show 2 + 0 ≤ 2 from by omega, show 12 + 0 ≤ 12 from by omega⟩ rfl) (fun σ7 hw => ?_)
  refine z_iconst (v := 0) hG dX11_bestNudge_23 (by decide) ?_
  refine z_istore_n (lv' := [(3, .int 0), (0, .ref (za Y t0)), (1, .int v1), (2, .int v2)]) hG dX11_bestNudge_24 rfl (by decide) rfl ?_
  refine z_aload_n hG dX11_bestNudge_25 rfl 1 rfl ?_
  refine z_iload_n hG dX11_bestNudge_26 rfl 3 rfl ?_
  refine z_calli hG (z_runV (As := [.int v2]) (st := []) hG k_X11_316 (MX11_misprintsOfTrial l h0 hw) ⟨(Nat.le_of_ble_eq_true rfl), (Nat.le_of_ble_eq_true rfl)⟩ h0 (T := TX11) (N := 9) rfl (by decide) rfl (Nat.le_of_ble_eq_true rfl) dX11_bestNudge_27 ⟨show 2 + 0 ≤ 2 from by omega, show 12 + 0 ≤ 12 from by omega⟩ rfl) (fun r9 σ8 hw => ?_)
  refine z_istore (lv' := [(4, .int r9), (3, .int 0), (0, .ref (za Y t0)), (1, .int v1), (2, .int v2)]) hG dX11_bestNudge_30 (by decide) rfl ?_
  refine z_bipush (v := 100) hG dX11_bestNudge_32 (by decide) ?_
  refine z_istore (lv' := [(5, .int 100), (4, .int r9), (3, .int 0), (0, .ref (za Y t0)), (1, .int v1), (2, .int v2)]) hG dX11_bestNudge_34 (by decide) rfl ?_
  obtain ⟨n10, hw⟩ := hw
  refine zpick [3, 4, 5, 2, 1, 0] (lv' := [(0, .ref (za Y t0)), (1, .int v1), (2, .int v2), (3, .int 0), (4, .int r9), (5, .int 100)]) rfl ?_
  refine zwiden (k := 2) (n := 12) (by omega) (by omega) ?_
  exact BxX11_bestNudge_36 hG hlt hex n10 t0 v1 v2 0 r9 100 σ8 _ _ hw h0 (by omega) (by omega)
