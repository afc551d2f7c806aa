-- TypeWheelTelegraph.formatSending(LTypeWheelTelegraph$Office;)V
def wX11_formatSending (S : zSp) (σ : zS) (t0 : Nat) (t1 : Nat) (Q : zSp → zS → Prop) : Prop := ∃ j1 : Nat, gr σ t0 3 = some j1 ∧ (((gi σ j1 4) = 0 → ∃ j2 : Nat, gr σ t0 2 = some j2 ∧ wJ4_append_15ec4 S σ j2 33 (fun r5 S4 σ4 => ∃ j6 : Nat, gr σ4 t0 2 = some j6 ∧ ∀ x7 : Int32, x7 = gi σ4 t1 2 → wJ4_append_bf812 S4 σ4 j6 x7 (fun r9 S8 σ8 => Q S8 σ8))) ∧ (¬ (gi σ j1 4) = 0 → ∃ j10 : Nat, gr σ t0 2 = some j10 ∧ wJ4_append_15ec4 S σ j10 32 (fun r13 S12 σ12 => Q S12 σ12)))
abbrev rX11_formatSending : Room := { frames := 6, cells := 2, slots := 300, locals := 136 }
set_option maxRecDepth 100000 in
set_option maxHeartbeats 4000000 in
theorem MX11_formatSending (l : Launch) {E : zE} {Y : zY} {σ : zS} {t0 : Nat} {t1 : Nat} (h0 : zT Y 11 t0) (h1 : zT Y 4 t1) {Q : zSp → zS → Prop} (hw : wX11_formatSending (zsp Y) σ t0 t1 Q) : ∀ sz, Met l yX11_formatSending (zw yX11_formatSending cX11_formatSending 2 none) rX11_formatSending (zPc E Y σ sz [.ref (za Y t0), .ref (za Y t1)]) (va_Qv (fun (u : zY × zS) => Q (zsp u.1) u.2) (zBA E Y sz) (zA Y sz)) 2 300 (zA Y sz) := by
  refine z_met (own := RX11) (Qc := fun sz => va_Qv (fun (u : zY × zS) => Q (zsp u.1) u.2) (zBA E Y sz) (zA Y sz)) (by decide +kernel) rfl (Nat.le_of_ble_eq_true rfl) ?_
  intro p e s m args below meth c hG hinit
  unfold wX11_formatSending at hw
  refine zlv (lv' := [(0, .ref (za Y t0)), (1, .ref (za Y t1))]) rfl ?_
  have hx : zext Y Y := zext.rf
  refine z_aload_n hG dX11_formatSending_0 rfl 0 rfl ?_
  obtain ⟨j1, ej1, hw⟩ := hw
  refine z_getr (kq := 3) hG f_X11_53 h0 rfl ej1 rfl (by decide) dX11_formatSending_1 (fun hj1 => ?_)
  refine z_geti hG f_X11_200 hj1 rfl dX11_formatSending_4 ?_
  refine z_if_eq (tgt := 24) hG dX11_formatSending_7 (by decide) (fun c14 => ?_) (fun c14 => ?_)
  · have hw := hw.1 c14
    refine z_aload_n hG dX11_formatSending_24 rfl 0 rfl ?_
    obtain ⟨j2, ej2, hw⟩ := hw
    refine z_getr (kq := 13) hG f_X11_30 h0 rfl ej2 rfl (by decide) dX11_formatSending_25 (fun hj2 => ?_)
    refine z_ldcsw (i := 33) (tx := " sends ") hG (by decide +kernel) dX11_formatSending_28 ?_
    have hq3 : 33 < zS_n := by decide
    refine z_callAr hG (z_runV (As := [.ref (E.2.2.1 33)]) (st := []) hG k_X11_342 (MJ4_append_15ec4 l hj2 hq3 hw) ⟨(Nat.le_of_ble_eq_true rfl), (Nat.le_of_ble_eq_true rfl)⟩ hj2 (T := TJ4) (N := 4) rfl (by decide) rfl (Nat.le_of_ble_eq_true rfl) dX11_formatSending_31 ⟨show 0 + 1 ≤ 2 from by omega, show 0 + 150 ≤ 300 from by omega⟩ rfl) (fun Y4 r5 σ4 hx4 hr5 hw => ?_)
    refine zwiden (k := 1) (n := 150) (show 0 + 1 ≤ 1 from by omega) (show 0 + 150 ≤ 150 from by omega) ?_
    refine zlv (lv' := [(0, .ref (za Y4 t0)), (1, .ref (za Y4 t1))]) (by simp only [hx4.a h0, hx4.a h1]) ?_
    have h0 := hx4.T h0
    have h1 := hx4.T h1
    have hx := hx.tr hx4
    refine z_pop hG dX11_formatSending_34 rfl ?_
    refine z_aload_n hG dX11_formatSending_35 rfl 0 rfl ?_
    obtain ⟨j6, ej6, hw⟩ := hw
    refine z_getr (kq := 13) hG f_X11_30 h0 rfl ej6 rfl (by decide) dX11_formatSending_36 (fun hj6 => ?_)
    refine z_aload_n hG dX11_formatSending_39 rfl 1 rfl ?_
    refine z_geti hG f_X11_166 h1 rfl dX11_formatSending_40 ?_
    refine z_topi (fun x7 ex7 => ?_)
    have hw := hw x7 ex7
    refine z_callAr hG (z_runV (As := [.int x7]) (st := []) hG k_X11_336 (MJ4_append_bf812 l hj6 hw) ⟨(Nat.le_of_ble_eq_true rfl), (Nat.le_of_ble_eq_true rfl)⟩ hj6 (T := TJ4) (N := 4) rfl (by decide) rfl (Nat.le_of_ble_eq_true rfl) dX11_formatSending_43 ⟨show 1 + 1 ≤ 2 from by omega, show 150 + 150 ≤ 300 from by omega⟩ rfl) (fun Y8 r9 σ8 hx8 hr9 hw => ?_)
    refine zwiden (k := 2) (n := 300) (show 1 + 1 ≤ 2 from by omega) (show 150 + 150 ≤ 300 from by omega) ?_
    refine zlv (lv' := [(0, .ref (za Y8 t0)), (1, .ref (za Y8 t1))]) (by simp only [hx8.a h0, hx8.a h1]) ?_
    have h0 := hx8.T h0
    have h1 := hx8.T h1
    have hx := hx.tr hx8
    refine z_pop hG dX11_formatSending_46 rfl ?_
    refine zwiden (k := 2) (n := 300) (by omega) (by omega) ?_
    exact z_vretA hG hx rfl dX11_formatSending_47 hw
  · have hw := hw.2 c14
    refine z_aload_n hG dX11_formatSending_10 rfl 0 rfl ?_
    obtain ⟨j10, ej10, hw⟩ := hw
    refine z_getr (kq := 13) hG f_X11_30 h0 rfl ej10 rfl (by decide) dX11_formatSending_11 (fun hj10 => ?_)
    refine z_ldcsw (i := 32) (tx := " waits") hG (by decide +kernel) dX11_formatSending_14 ?_
    have hq11 : 32 < zS_n := by decide
    refine z_callAr hG (z_runV (As := [.ref (E.2.2.1 32)]) (st := []) hG k_X11_342 (MJ4_append_15ec4 l hj10 hq11 hw) ⟨(Nat.le_of_ble_eq_true rfl), (Nat.le_of_ble_eq_true rfl)⟩ hj10 (T := TJ4) (N := 4) rfl (by decide) rfl (Nat.le_of_ble_eq_true rfl) dX11_formatSending_17 ⟨show 0 + 1 ≤ 2 from by omega, show 0 + 150 ≤ 300 from by omega⟩ rfl) (fun Y12 r13 σ12 hx12 hr13 hw => ?_)
    refine zwiden (k := 1) (n := 150) (show 0 + 1 ≤ 1 from by omega) (show 0 + 150 ≤ 150 from by omega) ?_
    refine zlv (lv' := [(0, .ref (za Y12 t0)), (1, .ref (za Y12 t1))]) (by simp only [hx12.a h0, hx12.a h1]) ?_
    have h0 := hx12.T h0
    have h1 := hx12.T h1
    have hx := hx.tr hx12
    refine z_pop hG dX11_formatSending_20 rfl ?_
    refine z_goto (tgt := 47) hG dX11_formatSending_21 (by decide) ?_
    refine zwiden (k := 2) (n := 300) (by omega) (by omega) ?_
    exact z_vretA hG hx rfl dX11_formatSending_47 hw
-- TypeWheelTelegraph.formatPrinting()V
def wX11_formatPrinting_24 (Q : zSp → zS → Prop) : Nat → Nat → Nat → Int32 → zSp → zS → Prop
  | 0, _, _, _, _, _ => False
  | n + 1, t0, t1, v2, S, σ => wX9_size (zSl S) σ t1 (fun r2 σ1 => ((r2 ≤ v2 → Q S σ1) ∧ (¬ r2 ≤ v2 → ∃ j3 : Nat, gr σ1 t0 2 = some j3 ∧ wX9_get (zSl S) σ1 t1 v2 (fun r5 σ4 => ∀ x6 : Int32, x6 = (r5.toUInt32 % 65536).toInt32 → wJ4_append_cf468 S σ4 j3 x6 (fun r8 S7 σ7 => ∀ x9 : Int32, x9 = v2 + 1 → (wX11_formatPrinting_24 Q n) t0 t1 x9 S7 σ7)))))
def wX11_formatPrinting (S : zSp) (σ : zS) (t0 : Nat) (Q : zSp → zS → Prop) : Prop := ∃ j1 : Nat, gr σ t0 3 = some j1 ∧ ∃ j2 : Nat, gr σ j1 13 = some j2 ∧ ∃ j3 : Nat, gr σ j2 0 = some j3 ∧ ∃ j4 : Nat, gr σ t0 2 = some j4 ∧ wJ4_append_15ec4 S σ j4 34 (fun r7 S6 σ6 => ∃ n8 : Nat, n8 ≤ 42 ∧ wX11_formatPrinting_24 Q n8 t0 j3 0 S6 σ6)
abbrev rX11_formatPrinting : Room := { frames := 6, cells := 43, slots := 6450, locals := 136 }
set_option maxRecDepth 100000 in
set_option maxHeartbeats 4000000 in
theorem BX11_formatPrinting_24 {l : Launch} {E : zE} {Y0 : zY} {p : Program} {e : Env} {s : State} {m : MethodId} {args : Array Value} {below : List Frame} {meth : Method} {c : Code} (hG : zG E p l s m args meth c cX11_formatPrinting 3 RX11 none (zA Y0 s.heap.size)) {Q : zSp → zS → Prop} : ∀ (n : Nat) (t0 : Nat) (t1 : Nat) (v2 : Int32) (Y : zY) (σ : zS) (cl sl : Nat), wX11_formatPrinting_24 Q n t0 t1 v2 (zsp Y) σ → zext Y0 Y → zT Y 11 t0 → zT Y 9 t1 → cl + (n * 1 + 0) ≤ 43 → sl + (n * 150 + 0) ≤ 6450 → WW E Y σ p l e rX11_formatPrinting s m args below meth c (zA Y0 s.heap.size) 3 cl sl (MQ below (va_Qv (fun (u : zY × zS) => Q (zsp u.1) u.2) (zBA E Y0 s.heap.size) (zA Y0 s.heap.size)) args s 43 6450 (zA Y0 s.heap.size)) [(0, .ref (za Y t0)), (1, .ref (za Y t1)), (2, .int v2)] 24 [] := by
  intro n
  induction n with
  | zero => intro t0 t1 v2 Y σ cl sl hw
            exact hw.elim
  | succ n ih =>
    intro t0 t1 v2 Y σ cl sl hw hx h0 h1 hcl hsl
    rw [wX11_formatPrinting_24] at hw
    refine z_iload_n hG dX11_formatPrinting_24 rfl 2 rfl ?_
    refine z_aload_n hG dX11_formatPrinting_25 rfl 1 rfl ?_
    refine z_calli hG (z_runV (As := []) (st := [.int v2]) hG k_X11_67 (MX9_size l h1 hw) ⟨(Nat.le_of_ble_eq_true rfl), (Nat.le_of_ble_eq_true rfl)⟩ h1 (T := TX9) (N := 2) rfl (by decide) rfl (Nat.le_of_ble_eq_true rfl) dX11_formatPrinting_26 ⟨show cl + 0 + 0 ≤ 43 from by omega, show sl + 0 + 0 ≤ 6450 from by omega⟩ rfl) (fun r2 σ1 hw => ?_)
    refine z_icmp_ge (tgt := 52) hG dX11_formatPrinting_29 (by decide) (fun c10 => ?_) (fun c10 => ?_)
    · have hw := hw.1 c10
      refine zwiden (k := 43) (n := 6450) (by omega) (by omega) ?_
      exact z_vretA hG hx rfl dX11_formatPrinting_52 hw
    · have hw := hw.2 c10
      refine z_aload_n hG dX11_formatPrinting_32 rfl 0 rfl ?_
      obtain ⟨j3, ej3, hw⟩ := hw
      refine z_getr (kq := 13) hG f_X11_30 h0 rfl ej3 rfl (by decide) dX11_formatPrinting_33 (fun hj3 => ?_)
      refine z_aload_n hG dX11_formatPrinting_36 rfl 1 rfl ?_
      refine z_iload_n hG dX11_formatPrinting_37 rfl 2 rfl ?_
      refine z_calli hG (z_runV (As := [.int v2]) (st := [.ref (za Y j3)]) hG k_X11_189 (MX9_get l h1 hw) ⟨(Nat.le_of_ble_eq_true rfl), (Nat.le_of_ble_eq_true rfl)⟩ h1 (T := TX9) (N := 2) rfl (by decide) rfl (Nat.le_of_ble_eq_true rfl) dX11_formatPrinting_38 ⟨show cl + 0 + 0 ≤ 43 from by omega, show sl + 0 + 0 ≤ 6450 from by omega⟩ rfl) (fun r5 σ4 hw => ?_)
      refine z_i2c hG dX11_formatPrinting_41 ?_
      refine z_topi (fun x6 ex6 => ?_)
      have hw := hw x6 ex6
      refine z_callAr hG (z_runV (As := [.int x6]) (st := []) hG k_X11_345 (MJ4_append_cf468 l hj3 hw) ⟨(Nat.le_of_ble_eq_true rfl), (Nat.le_of_ble_eq_true rfl)⟩ hj3 (T := TJ4) (N := 4) rfl (by decide) rfl (Nat.le_of_ble_eq_true rfl) dX11_formatPrinting_42 ⟨show cl + 0 + 1 ≤ 43 from by omega, show sl + 0 + 150 ≤ 6450 from by omega⟩ rfl) (fun Y7 r8 σ7 hx7 hr8 hw => ?_)
      refine zwiden (k := cl + 1) (n := sl + 150) (show cl + 0 + 1 ≤ cl + 1 from by omega) (show sl + 0 + 150 ≤ sl + 150 from by omega) ?_
      refine zlv (lv' := [(0, .ref (za Y7 t0)), (1, .ref (za Y7 t1)), (2, .int v2)]) (by simp only [hx7.a h0, hx7.a h1]) ?_
      have h0 := hx7.T h0
      have h1 := hx7.T h1
      have hx := hx.tr hx7
      refine z_pop hG dX11_formatPrinting_45 rfl ?_
      obtain ⟨x9, ex9⟩ : ∃ y : Int32, y = v2 + 1 := ⟨_, rfl⟩
      have hw := hw x9 ex9
      refine z_iinc (v := x9) (lv' := [(2, .int x9), (0, .ref (za Y7 t0)), (1, .ref (za Y7 t1))]) hG dX11_formatPrinting_46 2 rfl (by rw [ex9]; rfl) (by decide) rfl ?_
      refine z_goto (tgt := 24) hG dX11_formatPrinting_49 (by decide) ?_
      refine zpick [1, 2, 0] (lv' := [(0, .ref (za Y7 t0)), (1, .ref (za Y7 t1)), (2, .int x9)]) rfl ?_
      refine zwiden (k := cl + 1) (n := sl + 150) (by omega) (by omega) ?_
      exact ih t0 t1 x9 Y7 σ7 _ _ hw hx h0 h1 (by omega) (by omega)
set_option maxRecDepth 100000 in
set_option maxHeartbeats 4000000 in
theorem MX11_formatPrinting (l : Launch) {E : zE} {Y : zY} {σ : zS} {t0 : Nat} (h0 : zT Y 11 t0) {Q : zSp → zS → Prop} (hw : wX11_formatPrinting (zsp Y) σ t0 Q) : ∀ sz, Met l yX11_formatPrinting (zw yX11_formatPrinting cX11_formatPrinting 3 none) rX11_formatPrinting (zPc E Y σ sz [.ref (za Y t0)]) (va_Qv (fun (u : zY × zS) => Q (zsp u.1) u.2) (zBA E Y sz) (zA Y sz)) 43 6450 (zA Y sz) := by
  refine z_met (own := RX11) (Qc := fun sz => va_Qv (fun (u : zY × zS) => Q (zsp u.1) u.2) (zBA E Y sz) (zA Y sz)) (by decide +kernel) rfl (Nat.le_of_ble_eq_true rfl) ?_
  intro p e s m args below meth c hG hinit
  unfold wX11_formatPrinting at hw
  refine zlv (lv' := [(0, .ref (za Y t0))]) rfl ?_
  have hx : zext Y Y := zext.rf
  refine z_aload_n hG dX11_formatPrinting_0 rfl 0 rfl ?_
  obtain ⟨j1, ej1, hw⟩ := hw
  refine z_getr (kq := 3) hG f_X11_53 h0 rfl ej1 rfl (by decide) dX11_formatPrinting_1 (fun hj1 => ?_)
  obtain ⟨j2, ej2, hw⟩ := hw
  refine z_getr (kq := 7) hG f_X11_226 hj1 rfl ej2 rfl (by decide) dX11_formatPrinting_4 (fun hj2 => ?_)
  obtain ⟨j3, ej3, hw⟩ := hw
  refine z_getr (kq := 9) hG f_X11_230 hj2 rfl ej3 rfl (by decide) dX11_formatPrinting_7 (fun hj3 => ?_)
  refine z_astore_n (lv' := [(1, .ref (za Y j3)), (0, .ref (za Y t0))]) hG dX11_formatPrinting_10 rfl (by decide) rfl ?_
  refine z_aload_n hG dX11_formatPrinting_11 rfl 1 rfl ?_
  obtain ⟨j4, ej4, hw⟩ := hw
  refine z_getr (kq := 13) hG f_X11_30 h0 rfl ej4 rfl (by decide) dX11_formatPrinting_12 (fun hj4 => ?_)
  refine z_ldcsw (i := 34) (tx := " prints ") hG (by decide +kernel) dX11_formatPrinting_15 ?_
  have hq5 : 34 < zS_n := by decide
  refine z_callAr hG (z_runV (As := [.ref (E.2.2.1 34)]) (st := []) hG k_X11_342 (MJ4_append_15ec4 l hj4 hq5 hw) ⟨(Nat.le_of_ble_eq_true rfl), (Nat.le_of_ble_eq_true rfl)⟩ hj4 (T := TJ4) (N := 4) rfl (by decide) rfl (Nat.le_of_ble_eq_true rfl) dX11_formatPrinting_18 ⟨show 0 + 1 ≤ 43 from by omega, show 0 + 150 ≤ 6450 from by omega⟩ rfl) (fun Y6 r7 σ6 hx6 hr7 hw => ?_)
  refine zwiden (k := 1) (n := 150) (show 0 + 1 ≤ 1 from by omega) (show 0 + 150 ≤ 150 from by omega) ?_
  refine zlv (lv' := [(1, .ref (za Y6 j3)), (0, .ref (za Y6 t0))]) (by simp only [hx6.a hj3, hx6.a h0]) ?_
  have hj3 := hx6.T hj3
  have h0 := hx6.T h0
  have hx := hx.tr hx6
  refine z_pop hG dX11_formatPrinting_21 rfl ?_
  refine z_iconst (v := 0) hG dX11_formatPrinting_22 (by decide) ?_
  refine z_istore_n (lv' := [(2, .int 0), (1, .ref (za Y6 j3)), (0, .ref (za Y6 t0))]) hG dX11_formatPrinting_23 rfl (by decide) rfl ?_
  obtain ⟨n8, hn8, hw⟩ := hw
  refine zpick [2, 1, 0] (lv' := [(0, .ref (za Y6 t0)), (1, .ref (za Y6 j3)), (2, .int 0)]) rfl ?_
  refine zwiden (k := 1) (n := 150) (by omega) (by omega) ?_
  exact BX11_formatPrinting_24 hG n8 t0 j3 0 Y6 σ6 _ _ hw hx h0 hj3 (by omega) (by omega)
-- TypeWheelTelegraph.format(I)I
def wxX11_format_102 (Q : Int32 → zSp → zS → Prop) (X : String → zS → Prop) (t0 : Nat) (S : zSp) (σ : zS) : Prop := ∃ j1 : Nat, gr σ t0 2 = some j1 ∧ wJ4_length_8abf5 (zSl S) σ j1 (fun r3 σ2 => Q r3 S σ2)
def wxX11_format (S : zSp) (σ : zS) (t0 : Nat) (v1 : Int32) (Q : Int32 → zSp → zS → Prop) (X : String → zS → Prop) : Prop := wxX11_officeAt (zSl S) σ t0 v1 (fun r2 σ1 => ∃ j3 : Nat, gr σ1 t0 2 = some j3 ∧ wJ4_setLength_d00df S σ1 j3 0 (fun S4 σ4 => ∃ j6 : Nat, gr σ4 t0 2 = some j6 ∧ wJ4_append_bf812 S4 σ4 j6 v1 (fun r8 S7 σ7 => ∃ j9 : Nat, gr σ7 t0 2 = some j9 ∧ wJ4_append_15ec4 S7 σ7 j9 31 (fun r12 S11 σ11 => ∃ j13 : Nat, gr σ11 t0 2 = some j13 ∧ ∀ x14 : Int32, x14 = gi σ11 r2 0 → wJ4_append_bf812 S11 σ11 j13 x14 (fun r16 S15 σ15 => ∃ j17 : Nat, gr σ15 t0 2 = some j17 ∧ wJ4_append_cf468 S15 σ15 j17 43 (fun r19 S18 σ18 => ∃ j20 : Nat, gr σ18 t0 2 = some j20 ∧ ∀ x21 : Int32, x21 = gi σ18 r2 1 → wJ4_append_bf812 S18 σ18 j20 x21 (fun r23 S22 σ22 => ∃ j24 : Nat, gr σ22 t0 3 = some j24 ∧ (((gi σ22 j24 3) = v1 → wX11_formatSending S22 σ22 t0 r2 (fun S29 σ29 => wxX11_format_102 Q X t0 S29 σ29)) ∧ (¬ (gi σ22 j24 3) = v1 → ∃ j25 : Nat, gr σ22 t0 3 = some j25 ∧ (((gi σ22 j25 3) = (-1) → wxX11_format_102 Q X t0 S22 σ22) ∧ (¬ (gi σ22 j25 3) = (-1) → wX11_formatPrinting S22 σ22 t0 (fun S26 σ26 => wxX11_format_102 Q X t0 S26 σ26)))))))))))) X
abbrev rxX11_format : Room := { frames := 8, cells := 50, slots := 7356, locals := 158 }
set_option maxRecDepth 100000 in
set_option maxHeartbeats 4000000 in
theorem BxX11_format_102 {l : Launch} {E : zE} {Y0 : zY} {p : Program} {e : Env} {s : State} {m : MethodId} {args : Array Value} {below : List Frame} {meth : Method} {c : Code} (hG : zG E p l s m args meth c cX11_format 3 RX11 (some .int) (zA Y0 s.heap.size)) (hlt : l.stackTraces = false) (hex : ∀ x ∈ c.exceptionTable.toList, False) {Q : Int32 → zSp → zS → Prop} {X : String → zS → Prop} : ∀ (t0 : Nat) (Y : zY) (σ : zS) (cl sl : Nat), wxX11_format_102 Q X t0 (zsp Y) σ → zext Y0 Y → zT Y 11 t0 → cl + (0) ≤ 50 → sl + (0) ≤ 7356 → WW E Y σ p l e rxX11_format s m args below meth c (zA Y0 s.heap.size) 3 cl sl (vx_MQ below (va_Qi (fun r (u : zY × zS) => Q r (zsp u.1) u.2) (zBA E Y0 s.heap.size) (zA Y0 s.heap.size)) (zX X E Y0 s.heap.size) args s 50 7356 (zA Y0 s.heap.size)) [(0, .ref (za Y t0))] 102 [] := by
  intro t0 Y σ cl sl hw hx h0 hcl hsl
  unfold wxX11_format_102 at hw
  refine z_aload_n hG dX11_format_102 rfl 0 rfl ?_
  obtain ⟨j1, ej1, hw⟩ := hw
  refine z_getr (kq := 13) hG f_X11_30 h0 rfl ej1 rfl (by decide) dX11_format_103 (fun hj1 => ?_)
  refine z_calli hG (z_runV (As := []) (st := []) hG k_X11_355 (MJ4_length_8abf5 l hj1 hw) ⟨(Nat.le_of_ble_eq_true rfl), (Nat.le_of_ble_eq_true rfl)⟩ hj1 (T := TJ4) (N := 4) rfl (by decide) rfl (Nat.le_of_ble_eq_true rfl) dX11_format_106 ⟨show cl + 0 + 0 ≤ 50 from by omega, show sl + 0 + 0 ≤ 7356 from by omega⟩ rfl) (fun r3 σ2 hw => ?_)
  refine zwiden (k := 50) (n := 7356) (by omega) (by omega) (zvx ?_)
  exact z_iretA hG hx rfl rfl dX11_format_109 hw
set_option maxRecDepth 100000 in
set_option maxHeartbeats 4000000 in
theorem MxX11_format (l : Launch) (hlt : l.stackTraces = false) {E : zE} {Y : zY} {σ : zS} {t0 : Nat} {v1 : Int32} (h0 : zT Y 11 t0) {Q : Int32 → zSp → zS → Prop} {X : String → zS → Prop} (hw : wxX11_format (zsp Y) σ t0 v1 Q X) : ∀ sz, vx_Met l yX11_format (zw yX11_format cX11_format 3 (some .int)) rxX11_format (zPc E Y σ sz [.ref (za Y t0), .int v1]) (va_Qi (fun r (u : zY × zS) => Q r (zsp u.1) u.2) (zBA E Y sz) (zA Y sz)) (zX X E Y sz) 50 7356 (zA Y sz) := by
  refine z_metX (own := RX11) (Qc := fun sz => va_Qi (fun r (u : zY × zS) => Q r (zsp u.1) u.2) (zBA E Y sz) (zA Y sz)) (XC := fun sz => zX X E Y sz) (by decide +kernel) rfl (Nat.le_of_ble_eq_true rfl) ?_
  intro p e s m args below meth c hG hex
  unfold wxX11_format at hw
  refine zlv (lv' := [(0, .ref (za Y t0)), (1, .int v1)]) rfl ?_
  have hx : zext Y Y := zext.rf
  refine z_aload_n hG dX11_format_0 rfl 0 rfl ?_
  refine z_iload_n hG dX11_format_1 rfl 1 rfl ?_
  refine z_callXr hG hex (z_runXV (As := [.int v1]) (st := []) hG k_X11_123 (MxX11_officeAt l hlt h0 hw) rfl rfl ⟨(Nat.le_of_ble_eq_true rfl), (Nat.le_of_ble_eq_true rfl)⟩ h0 (T := TX11) (N := 9) rfl (by decide) rfl (Nat.le_of_ble_eq_true rfl) dX11_format_2 ⟨show 0 + 1 ≤ 50 from by omega, show 0 + 6 ≤ 7356 from by omega⟩ rfl) (show 0 + 1 ≤ 50 from by omega) (show 0 + 6 ≤ 7356 from by omega) (fun r2 σ1 hr2 hw => ?_)
  refine zwiden (k := 1) (n := 6) (show 0 + 1 ≤ 1 from by omega) (show 0 + 6 ≤ 6 from by omega) ?_
  refine z_astore_n (lv' := [(2, .ref (za Y r2)), (0, .ref (za Y t0)), (1, .int v1)]) hG dX11_format_5 rfl (by decide) rfl ?_
  refine z_aload_n hG dX11_format_6 rfl 1 rfl ?_
  obtain ⟨j3, ej3, hw⟩ := hw
  refine z_getr (kq := 13) hG f_X11_30 h0 rfl ej3 rfl (by decide) dX11_format_7 (fun hj3 => ?_)
  refine z_iconst (v := 0) hG dX11_format_10 (by decide) ?_
  refine z_callAv hG (z_runV (As := [.int 0]) (st := []) hG k_X11_333 (MJ4_setLength_d00df l hj3 hw) ⟨(Nat.le_of_ble_eq_true rfl), (Nat.le_of_ble_eq_true rfl)⟩ hj3 (T := TJ4) (N := 4) rfl (by decide) rfl (Nat.le_of_ble_eq_true rfl) dX11_format_11 ⟨show 1 + 1 ≤ 50 from by omega, show 6 + 150 ≤ 7356 from by omega⟩ rfl) (fun Y4 σ4 hx4 hw => ?_)
  refine zwiden (k := 2) (n := 156) (show 1 + 1 ≤ 2 from by omega) (show 6 + 150 ≤ 156 from by omega) ?_
  refine zlv (lv' := [(2, .ref (za Y4 r2)), (0, .ref (za Y4 t0)), (1, .int v1)]) (by simp only [hx4.a hr2, hx4.a h0]) ?_
  have hr2 := hx4.T hr2
  have h0 := hx4.T h0
  have hx := hx.tr hx4
  refine z_aload_n hG dX11_format_14 rfl 1 rfl ?_
  obtain ⟨j6, ej6, hw⟩ := hw
  refine z_getr (kq := 13) hG f_X11_30 h0 rfl ej6 rfl (by decide) dX11_format_15 (fun hj6 => ?_)
  refine z_iload_n hG dX11_format_18 rfl 2 rfl ?_
  refine z_callAr hG (z_runV (As := [.int v1]) (st := []) hG k_X11_336 (MJ4_append_bf812 l hj6 hw) ⟨(Nat.le_of_ble_eq_true rfl), (Nat.le_of_ble_eq_true rfl)⟩ hj6 (T := TJ4) (N := 4) rfl (by decide) rfl (Nat.le_of_ble_eq_true rfl) dX11_format_19 ⟨show 2 + 1 ≤ 50 from by omega, show 156 + 150 ≤ 7356 from by omega⟩ rfl) (fun Y7 r8 σ7 hx7 hr8 hw => ?_)
  refine zwiden (k := 3) (n := 306) (show 2 + 1 ≤ 3 from by omega) (show 156 + 150 ≤ 306 from by omega) ?_
  refine zlv (lv' := [(2, .ref (za Y7 r2)), (0, .ref (za Y7 t0)), (1, .int v1)]) (by simp only [hx7.a hr2, hx7.a h0]) ?_
  have hr2 := hx7.T hr2
  have h0 := hx7.T h0
  have hx := hx.tr hx7
  refine z_pop hG dX11_format_22 rfl ?_
  refine z_aload_n hG dX11_format_23 rfl 1 rfl ?_
  obtain ⟨j9, ej9, hw⟩ := hw
  refine z_getr (kq := 13) hG f_X11_30 h0 rfl ej9 rfl (by decide) dX11_format_24 (fun hj9 => ?_)
  refine z_ldcsw (i := 31) (tx := ": ") hG (by decide +kernel) dX11_format_27 ?_
  have hq10 : 31 < zS_n := by decide
  refine z_callAr hG (z_runV (As := [.ref (E.2.2.1 31)]) (st := []) hG k_X11_342 (MJ4_append_15ec4 l hj9 hq10 hw) ⟨(Nat.le_of_ble_eq_true rfl), (Nat.le_of_ble_eq_true rfl)⟩ hj9 (T := TJ4) (N := 4) rfl (by decide) rfl (Nat.le_of_ble_eq_true rfl) dX11_format_30 ⟨show 3 + 1 ≤ 50 from by omega, show 306 + 150 ≤ 7356 from by omega⟩ rfl) (fun Y11 r12 σ11 hx11 hr12 hw => ?_)
  refine zwiden (k := 4) (n := 456) (show 3 + 1 ≤ 4 from by omega) (show 306 + 150 ≤ 456 from by omega) ?_
  refine zlv (lv' := [(2, .ref (za Y11 r2)), (0, .ref (za Y11 t0)), (1, .int v1)]) (by simp only [hx11.a hr2, hx11.a h0]) ?_
  have hr2 := hx11.T hr2
  have h0 := hx11.T h0
  have hx := hx.tr hx11
  refine z_pop hG dX11_format_33 rfl ?_
  refine z_aload_n hG dX11_format_34 rfl 1 rfl ?_
  obtain ⟨j13, ej13, hw⟩ := hw
  refine z_getr (kq := 13) hG f_X11_30 h0 rfl ej13 rfl (by decide) dX11_format_35 (fun hj13 => ?_)
  refine z_aload_n hG dX11_format_38 rfl 0 rfl ?_
  refine z_geti hG f_X11_127 hr2 rfl dX11_format_39 ?_
  refine z_topi (fun x14 ex14 => ?_)
  have hw := hw x14 ex14
  refine z_callAr hG (z_runV (As := [.int x14]) (st := []) hG k_X11_336 (MJ4_append_bf812 l hj13 hw) ⟨(Nat.le_of_ble_eq_true rfl), (Nat.le_of_ble_eq_true rfl)⟩ hj13 (T := TJ4) (N := 4) rfl (by decide) rfl (Nat.le_of_ble_eq_true rfl) dX11_format_42 ⟨show 4 + 1 ≤ 50 from by omega, show 456 + 150 ≤ 7356 from by omega⟩ rfl) (fun Y15 r16 σ15 hx15 hr16 hw => ?_)
  refine zwiden (k := 5) (n := 606) (show 4 + 1 ≤ 5 from by omega) (show 456 + 150 ≤ 606 from by omega) ?_
  refine zlv (lv' := [(2, .ref (za Y15 r2)), (0, .ref (za Y15 t0)), (1, .int v1)]) (by simp only [hx15.a hr2, hx15.a h0]) ?_
  have hr2 := hx15.T hr2
  have h0 := hx15.T h0
  have hx := hx.tr hx15
  refine z_pop hG dX11_format_45 rfl ?_
  refine z_aload_n hG dX11_format_46 rfl 1 rfl ?_
  obtain ⟨j17, ej17, hw⟩ := hw
  refine z_getr (kq := 13) hG f_X11_30 h0 rfl ej17 rfl (by decide) dX11_format_47 (fun hj17 => ?_)
  refine z_bipush (v := 43) hG dX11_format_50 (by decide) ?_
  refine z_callAr hG (z_runV (As := [.int 43]) (st := []) hG k_X11_345 (MJ4_append_cf468 l hj17 hw) ⟨(Nat.le_of_ble_eq_true rfl), (Nat.le_of_ble_eq_true rfl)⟩ hj17 (T := TJ4) (N := 4) rfl (by decide) rfl (Nat.le_of_ble_eq_true rfl) dX11_format_52 ⟨show 5 + 1 ≤ 50 from by omega, show 606 + 150 ≤ 7356 from by omega⟩ rfl) (fun Y18 r19 σ18 hx18 hr19 hw => ?_)
  refine zwiden (k := 6) (n := 756) (show 5 + 1 ≤ 6 from by omega) (show 606 + 150 ≤ 756 from by omega) ?_
  refine zlv (lv' := [(2, .ref (za Y18 r2)), (0, .ref (za Y18 t0)), (1, .int v1)]) (by simp only [hx18.a hr2, hx18.a h0]) ?_
  have hr2 := hx18.T hr2
  have h0 := hx18.T h0
  have hx := hx.tr hx18
  refine z_pop hG dX11_format_55 rfl ?_
  refine z_aload_n hG dX11_format_56 rfl 1 rfl ?_
  obtain ⟨j20, ej20, hw⟩ := hw
  refine z_getr (kq := 13) hG f_X11_30 h0 rfl ej20 rfl (by decide) dX11_format_57 (fun hj20 => ?_)
  refine z_aload_n hG dX11_format_60 rfl 0 rfl ?_
  refine z_geti hG f_X11_132 hr2 rfl dX11_format_61 ?_
  refine z_topi (fun x21 ex21 => ?_)
  have hw := hw x21 ex21
  refine z_callAr hG (z_runV (As := [.int x21]) (st := []) hG k_X11_336 (MJ4_append_bf812 l hj20 hw) ⟨(Nat.le_of_ble_eq_true rfl), (Nat.le_of_ble_eq_true rfl)⟩ hj20 (T := TJ4) (N := 4) rfl (by decide) rfl (Nat.le_of_ble_eq_true rfl) dX11_format_64 ⟨show 6 + 1 ≤ 50 from by omega, show 756 + 150 ≤ 7356 from by omega⟩ rfl) (fun Y22 r23 σ22 hx22 hr23 hw => ?_)
  refine zwiden (k := 7) (n := 906) (show 6 + 1 ≤ 7 from by omega) (show 756 + 150 ≤ 906 from by omega) ?_
  refine zlv (lv' := [(2, .ref (za Y22 r2)), (0, .ref (za Y22 t0)), (1, .int v1)]) (by simp only [hx22.a hr2, hx22.a h0]) ?_
  have hr2 := hx22.T hr2
  have h0 := hx22.T h0
  have hx := hx.tr hx22
  refine z_pop hG dX11_format_67 rfl ?_
  refine z_aload_n hG dX11_format_68 rfl 1 rfl ?_
  obtain ⟨j24, ej24, hw⟩ := hw
  refine z_getr (kq := 3) hG f_X11_53 h0 rfl ej24 rfl (by decide) dX11_format_69 (fun hj24 => ?_)
  refine z_geti hG f_X11_197 hj24 rfl dX11_format_72 ?_
  refine z_iload_n hG dX11_format_75 rfl 2 rfl ?_
  refine z_icmp_ne (tgt := 87) hG dX11_format_76 (by decide) (fun c31 => ?_) (fun c31 => ?_)
  · have hw := hw.2 c31
    refine z_aload_n hG dX11_format_87 rfl 1 rfl ?_
    obtain ⟨j25, ej25, hw⟩ := hw
    refine z_getr (kq := 3) hG f_X11_53 h0 rfl ej25 rfl (by decide) dX11_format_88 (fun hj25 => ?_)
    refine z_geti hG f_X11_197 hj25 rfl dX11_format_91 ?_
    refine z_iconst (v := (-1)) hG dX11_format_94 (by decide) ?_
    refine z_icmp_eq (tgt := 102) hG dX11_format_95 (by decide) (fun c28 => ?_) (fun c28 => ?_)
    · have hw := hw.1 c28
      refine zpick [1] (lv' := [(0, .ref (za Y22 t0))]) rfl ?_
      refine zwiden (k := 7) (n := 906) (by omega) (by omega) ?_
      exact BxX11_format_102 hG hlt hex t0 Y22 σ22 _ _ hw hx h0 (by omega) (by omega)
    · have hw := hw.2 c28
      refine z_aload_n hG dX11_format_98 rfl 1 rfl ?_
      refine z_callAv hG (z_runV (As := []) (st := []) hG k_X11_352 (MX11_formatPrinting l h0 hw) ⟨(Nat.le_of_ble_eq_true rfl), (Nat.le_of_ble_eq_true rfl)⟩ h0 (T := TX11) (N := 9) rfl (by decide) rfl (Nat.le_of_ble_eq_true rfl) dX11_format_99 ⟨show 7 + 43 ≤ 50 from by omega, show 906 + 6450 ≤ 7356 from by omega⟩ rfl) (fun Y26 σ26 hx26 hw => ?_)
      refine zwiden (k := 50) (n := 7356) (show 7 + 43 ≤ 50 from by omega) (show 906 + 6450 ≤ 7356 from by omega) ?_
      refine zlv (lv' := [(2, .ref (za Y26 r2)), (0, .ref (za Y26 t0)), (1, .int v1)]) (by simp only [hx26.a hr2, hx26.a h0]) ?_
      have hr2 := hx26.T hr2
      have h0 := hx26.T h0
      have hx := hx.tr hx26
      refine zpick [1] (lv' := [(0, .ref (za Y26 t0))]) rfl ?_
      refine zwiden (k := 50) (n := 7356) (by omega) (by omega) ?_
      exact BxX11_format_102 hG hlt hex t0 Y26 σ26 _ _ hw hx h0 (by omega) (by omega)
  · have hw := hw.1 c31
    refine z_aload_n hG dX11_format_79 rfl 1 rfl ?_
    refine z_aload_n hG dX11_format_80 rfl 0 rfl ?_
    refine z_callAv hG (z_runV (As := [.ref (za Y22 r2)]) (st := []) hG k_X11_348 (MX11_formatSending l h0 hr2 hw) ⟨(Nat.le_of_ble_eq_true rfl), (Nat.le_of_ble_eq_true rfl)⟩ h0 (T := TX11) (N := 9) rfl (by decide) rfl (Nat.le_of_ble_eq_true rfl) dX11_format_81 ⟨show 7 + 2 ≤ 50 from by omega, show 906 + 300 ≤ 7356 from by omega⟩ rfl) (fun Y29 σ29 hx29 hw => ?_)
    refine zwiden (k := 9) (n := 1206) (show 7 + 2 ≤ 9 from by omega) (show 906 + 300 ≤ 1206 from by omega) ?_
    refine zlv (lv' := [(2, .ref (za Y29 r2)), (0, .ref (za Y29 t0)), (1, .int v1)]) (by simp only [hx29.a hr2, hx29.a h0]) ?_
    have hr2 := hx29.T hr2
    have h0 := hx29.T h0
    have hx := hx.tr hx29
    refine z_goto (tgt := 102) hG dX11_format_84 (by decide) ?_
    refine zpick [1] (lv' := [(0, .ref (za Y29 t0))]) rfl ?_
    refine zwiden (k := 9) (n := 1206) (by omega) (by omega) ?_
    exact BxX11_format_102 hG hlt hex t0 Y29 σ29 _ _ hw hx h0 (by omega) (by omega)
-- TypeWheelTelegraph.formattedCharacter(I)C
def wxX11_formattedCharacter_15 (ln : Nat → Nat) (Q : Int32 → zS → Prop) (X : String → zS → Prop) (σ : zS) : Prop := X "java/lang/IndexOutOfBoundsException" σ
def wxX11_formattedCharacter (ln : Nat → Nat) (σ : zS) (t0 : Nat) (v1 : Int32) (Q : Int32 → zS → Prop) (X : String → zS → Prop) : Prop := ((v1 < 0 → wxX11_formattedCharacter_15 ln Q X σ) ∧ (¬ v1 < 0 → ∃ j1 : Nat, gr σ t0 2 = some j1 ∧ wJ4_length_8abf5 ln σ j1 (fun r3 σ2 => ((v1 < r3 → ∃ j4 : Nat, gr σ2 t0 2 = some j4 ∧ wJ4_charAt_5068e ln σ2 j4 v1 (fun r6 σ5 => narrow .char (.int r6) = .int r6 ∧ Q r6 σ5)) ∧ (¬ v1 < r3 → wxX11_formattedCharacter_15 ln Q X σ2)))))
abbrev rxX11_formattedCharacter : Room := { frames := 6, cells := 1, slots := 6, locals := 100 }
set_option maxRecDepth 100000 in
set_option maxHeartbeats 4000000 in
theorem BxX11_formattedCharacter_15 {l : Launch} {E : zE} {Y : zY} {p : Program} {e : Env} {s : State} {m : MethodId} {args : Array Value} {below : List Frame} {meth : Method} {c : Code} (hG : zG E p l s m args meth c cX11_formattedCharacter 2 RX11 (some .char) (zA Y s.heap.size)) (hlt : l.stackTraces = false) (hex : ∀ x ∈ c.exceptionTable.toList, False) {Q : Int32 → zS → Prop} {X : String → zS → Prop} : ∀ (σ : zS) (cl sl : Nat), wxX11_formattedCharacter_15 (zln Y) Q X σ → cl + (1) ≤ 1 → sl + (6) ≤ 6 → WW E Y σ p l e rxX11_formattedCharacter s m args below meth c (zA Y s.heap.size) 2 cl sl (vx_MQ below (va_Qi Q (zB E Y s.heap.size) (zA Y s.heap.size)) (zX X E Y s.heap.size) args s 1 6 (zA Y s.heap.size)) [] 15 [] := by
  intro σ cl sl hw  hcl hsl
  unfold wxX11_formattedCharacter_15 at hw
  exact z_throwSW (i := 35) (tx := "no such character of the formatted text") hG hlt hex thr_IOE (by decide +kernel) dX11_formattedCharacter_15 dX11_formattedCharacter_18 dX11_formattedCharacter_19 dX11_formattedCharacter_22 dX11_formattedCharacter_25 (Nat.le_of_ble_eq_true rfl) (Nat.le_of_ble_eq_true rfl) (show cl + 0 + 1 ≤ 1 from by omega) (show sl + 0 + 6 ≤ 6 from by omega) (show cl + 0 + 1 ≤ 1 from by omega) (show sl + 0 + 6 ≤ 6 from by omega) hw
set_option maxRecDepth 100000 in
set_option maxHeartbeats 4000000 in
theorem MxX11_formattedCharacter (l : Launch) (hlt : l.stackTraces = false) {E : zE} {Y : zY} {σ : zS} {t0 : Nat} {v1 : Int32} (h0 : zT Y 11 t0) {Q : Int32 → zS → Prop} {X : String → zS → Prop} (hw : wxX11_formattedCharacter (zln Y) σ t0 v1 Q X) : ∀ sz, vx_Met l yX11_formattedCharacter (zw yX11_formattedCharacter cX11_formattedCharacter 2 (some .char)) rxX11_formattedCharacter (zPc E Y σ sz [.ref (za Y t0), .int v1]) (va_Qi Q (zB E Y sz) (zA Y sz)) (zX X E Y sz) 1 6 (zA Y sz) := by
  refine z_metX (own := RX11) (Qc := fun sz => va_Qi Q (zB E Y sz) (zA Y sz)) (XC := fun sz => zX X E Y sz) (by decide +kernel) rfl (Nat.le_of_ble_eq_true rfl) ?_
  intro p e s m args below meth c hG hex
  unfold wxX11_formattedCharacter at hw
  refine zlv (lv' := [(0, .ref (za Y t0)), (1, .int v1)]) rfl ?_
  refine z_iload_n hG dX11_formattedCharacter_0 rfl 1 rfl ?_
  refine z_if_lt (tgt := 15) hG dX11_formattedCharacter_1 (by decide) (fun c9 => ?_) (fun c9 => ?_)
  · have hw := hw.1 c9
    refine zpick [] (lv' := []) rfl ?_
    refine zwiden (k := 0) (n := 0) (by omega) (by omega) ?_
    exact BxX11_formattedCharacter_15 hG hlt hex σ _ _ hw  (by omega) (by omega)
  · have hw := hw.2 c9
    refine z_iload_n hG dX11_formattedCharacter_4 rfl 1 rfl ?_
    refine z_aload_n hG dX11_formattedCharacter_5 rfl 0 rfl ?_
    obtain ⟨j1, ej1, hw⟩ := hw
    refine z_getr (kq := 13) hG f_X11_30 h0 rfl ej1 rfl (by decide) dX11_formattedCharacter_6 (fun hj1 => ?_)
    refine z_calli hG (z_runV (As := []) (st := [.int v1]) hG k_X11_355 (MJ4_length_8abf5 l hj1 hw) ⟨(Nat.le_of_ble_eq_true rfl), (Nat.le_of_ble_eq_true rfl)⟩ hj1 (T := TJ4) (N := 4) rfl (by decide) rfl (Nat.le_of_ble_eq_true rfl) dX11_formattedCharacter_9 ⟨show 0 + 0 ≤ 1 from by omega, show 0 + 0 ≤ 6 from by omega⟩ rfl) (fun r3 σ2 hw => ?_)
    refine z_icmp_lt (tgt := 26) hG dX11_formattedCharacter_12 (by decide) (fun c8 => ?_) (fun c8 => ?_)
    · have hw := hw.1 c8
      refine z_aload_n hG dX11_formattedCharacter_26 rfl 0 rfl ?_
      obtain ⟨j4, ej4, hw⟩ := hw
      refine z_getr (kq := 13) hG f_X11_30 h0 rfl ej4 rfl (by decide) dX11_formattedCharacter_27 (fun hj4 => ?_)
      refine z_iload_n hG dX11_formattedCharacter_30 rfl 1 rfl ?_
      refine z_calli hG (z_runV (As := [.int v1]) (st := []) hG k_X11_366 (MJ4_charAt_5068e l hj4 hw) ⟨(Nat.le_of_ble_eq_true rfl), (Nat.le_of_ble_eq_true rfl)⟩ hj4 (T := TJ4) (N := 4) rfl (by decide) rfl (Nat.le_of_ble_eq_true rfl) dX11_formattedCharacter_31 ⟨show 0 + 0 ≤ 1 from by omega, show 0 + 0 ≤ 6 from by omega⟩ rfl) (fun r6 σ5 hw => ?_)
      obtain ⟨q7, hw⟩ := hw
      refine zwiden (k := 1) (n := 6) (by omega) (by omega) (zvx ?_)
      exact z_iret hG rfl q7 dX11_formattedCharacter_34 hw
    · have hw := hw.2 c8
      refine zpick [] (lv' := []) rfl ?_
      refine zwiden (k := 0) (n := 0) (by omega) (by omega) ?_
      exact BxX11_formattedCharacter_15 hG hlt hex σ2 _ _ hw  (by omega) (by omega)
