-- TypeWheelTelegraphModel.characterOf(IZ)I
def wX12_characterOf (ln : Nat → Nat) (σ : zS) (t0 : Nat) (v1 : Int32) (v2 : Int32) (Q : Int32 → zS → Prop) : Prop := ((v2 = 0 → Q ((97 + v1) - 2) σ) ∧ (¬ v2 = 0 → ∀ x2 : Int32, x2 = v1 - 2 → wJ0_charAt_5068e ln σ 13 x2 (fun r4 σ3 => Q r4 σ3)))
abbrev rX12_characterOf : Room := { frames := 4, cells := 0, slots := 0, locals := 85 }
set_option maxRecDepth 100000 in
set_option maxHeartbeats 4000000 in
theorem MX12_characterOf (l : Launch) {E : zE} {Y : zY} {σ : zS} {t0 : Nat} {v1 : Int32} {v2 : Int32} (h0 : zT Y 12 t0) {Q : Int32 → zS → Prop} (hw : wX12_characterOf (zln Y) σ t0 v1 v2 Q) : ∀ sz, Met l yX12_characterOf (zw yX12_characterOf cX12_characterOf 3 (some .int)) rX12_characterOf (zPc E Y σ sz [.ref (za Y t0), .int v1, .int v2]) (va_Qi Q (zB E Y sz) (zA Y sz)) 0 0 (zA Y sz) := by
  refine z_met (own := RX12) (Qc := fun sz => va_Qi Q (zB E Y sz) (zA Y sz)) (by decide +kernel) rfl (Nat.le_of_ble_eq_true rfl) ?_
  intro p e s m args below meth c hG hinit
  unfold wX12_characterOf at hw
  refine zlv (lv' := [(0, .ref (za Y t0)), (1, .int v1), (2, .int v2)]) rfl ?_
  refine z_iload_n hG dX12_characterOf_0 rfl 2 rfl ?_
  refine z_if_eq (tgt := 15) hG dX12_characterOf_1 (by decide) (fun c5 => ?_) (fun c5 => ?_)
  · have hw := hw.1 c5
    refine z_bipush (v := 97) hG dX12_characterOf_15 (by decide) ?_
    refine z_iload_n hG dX12_characterOf_17 rfl 1 rfl ?_
    refine z_iadd hG dX12_characterOf_18 ?_
    refine z_iconst (v := 2) hG dX12_characterOf_19 (by decide) ?_
    refine z_isub hG dX12_characterOf_20 ?_
    exact z_iret hG rfl rfl dX12_characterOf_21 hw
  · have hw := hw.2 c5
    refine z_ldcs (i := 13) (tx := "0123456789.,:;?!+-=()*'\"_@") hG (by decide +kernel) dX12_characterOf_4 ?_
    have hq1 : 13 < zS_n := by decide
    refine z_iload_n hG dX12_characterOf_6 rfl 1 rfl ?_
    refine z_iconst (v := 2) hG dX12_characterOf_7 (by decide) ?_
    refine z_isub hG dX12_characterOf_8 ?_
    refine z_topi (fun x2 ex2 => ?_)
    have hw := hw x2 ex2
    refine z_calli hG (z_runVs (As := [.int x2]) (st := []) hG k_X12_126 (MJ0_charAt_5068e l hq1 hw) ⟨(Nat.le_of_ble_eq_true rfl), (Nat.le_of_ble_eq_true rfl)⟩ hq1 rfl (Nat.le_of_ble_eq_true rfl) dX12_characterOf_9 ⟨Nat.zero_le _, Nat.zero_le _⟩ rfl) (fun r4 σ3 hw => ?_)
    refine z_goto (tgt := 21) hG dX12_characterOf_12 (by decide) ?_
    exact z_iret hG rfl rfl dX12_characterOf_21 hw
-- TypeWheelTelegraphModel.means(I)V
def wX12_means_117 (ln : Nat → Nat) (Q : zS → Prop) (t0 : Nat) (σ : zS) : Prop := ∃ j1 : Nat, gr σ t0 1 = some j1 ∧ vp_in (12 : Int32) (ln j1) ∧ ∀ x3 : Int32, x3 = (gi σ j1 (12 : Int32).toNatClampNeg) + 1 → vp_in (12 : Int32) (ln j1) ∧ ∀ σ5 : zS, σ5 = si σ j1 (12 : Int32).toNatClampNeg x3 → Q σ5
def wX12_means_102 (ln : Nat → Nat) (Q : zS → Prop) (t0 : Nat) (tw0 : Nat) (vw1 : Int32) (tw2 : Nat) (vw3 : Int32) (vw4 : Int32) (σ : zS) : Prop := wX12_characterOf ln σ tw2 vw3 vw4 (fun r2 σ1 => vp_in vw1 (ln tw0) ∧ ∀ σ4 : zS, σ4 = si σ1 tw0 vw1.toNatClampNeg r2 → ∃ j5 : Nat, gr σ4 t0 1 = some j5 ∧ vp_in (11 : Int32) (ln j5) ∧ ∀ x7 : Int32, x7 = (gi σ4 j5 (11 : Int32).toNatClampNeg) + 1 → vp_in (11 : Int32) (ln j5) ∧ ∀ σ9 : zS, σ9 = si σ4 j5 (11 : Int32).toNatClampNeg x7 → wX12_means_117 ln Q t0 σ9)
def wX12_means_42 (ln : Nat → Nat) (Q : zS → Prop) (t0 : Nat) (v1 : Int32) (σ : zS) : Prop := ((2 ≤ v1 → ∃ j1 : Nat, gr σ t0 1 = some j1 ∧ vp_in (11 : Int32) (ln j1) ∧ ((40 ≤ (gi σ j1 (11 : Int32).toNatClampNeg) → wX12_means_117 ln Q t0 σ) ∧ (¬ 40 ≤ (gi σ j1 (11 : Int32).toNatClampNeg) → ∃ j3 : Nat, gr σ t0 1 = some j3 ∧ ∃ j4 : Nat, gr σ t0 1 = some j4 ∧ vp_in (11 : Int32) (ln j4) ∧ ∃ j6 : Nat, gr σ t0 1 = some j6 ∧ vp_in (13 : Int32) (ln j6) ∧ (((gi σ j6 (13 : Int32).toNatClampNeg) = 1 → wX12_means_102 ln Q t0 j3 (59 + (gi σ j4 (11 : Int32).toNatClampNeg)) t0 v1 1 σ) ∧ (¬ (gi σ j6 (13 : Int32).toNatClampNeg) = 1 → wX12_means_102 ln Q t0 j3 (59 + (gi σ j4 (11 : Int32).toNatClampNeg)) t0 v1 0 σ))))) ∧ (¬ 2 ≤ v1 → ∃ j10 : Nat, gr σ t0 1 = some j10 ∧ vp_in (13 : Int32) (ln j10) ∧ ∀ σ12 : zS, σ12 = si σ j10 (13 : Int32).toNatClampNeg v1 → wX12_means_117 ln Q t0 σ12))
def wX12_means (ln : Nat → Nat) (σ : zS) (t0 : Nat) (v1 : Int32) (Q : zS → Prop) : Prop := ∃ j1 : Nat, gr σ t0 1 = some j1 ∧ vp_in (14 : Int32) (ln j1) ∧ (((gi σ j1 (14 : Int32).toNatClampNeg) = 1 → wX12_checks ln σ t0 v1 (fun σ10 => Q σ10)) ∧ (¬ (gi σ j1 (14 : Int32).toNatClampNeg) = 1 → ((2 ≤ v1 → wX12_means_42 ln Q t0 v1 σ) ∧ (¬ 2 ≤ v1 → ∃ j3 : Nat, gr σ t0 1 = some j3 ∧ vp_in (13 : Int32) (ln j3) ∧ ((v1 = (gi σ j3 (13 : Int32).toNatClampNeg) → ∃ j5 : Nat, gr σ t0 1 = some j5 ∧ vp_in (14 : Int32) (ln j5) ∧ ∀ σ7 : zS, σ7 = si σ j5 (14 : Int32).toNatClampNeg 1 → Q σ7) ∧ (¬ v1 = (gi σ j3 (13 : Int32).toNatClampNeg) → wX12_means_42 ln Q t0 v1 σ))))))
abbrev rX12_means : Room := { frames := 5, cells := 0, slots := 0, locals := 107 }
set_option maxRecDepth 100000 in
set_option maxHeartbeats 4000000 in
theorem BX12_means_117 {l : Launch} {E : zE} {Y : zY} {p : Program} {e : Env} {s : State} {m : MethodId} {args : Array Value} {below : List Frame} {meth : Method} {c : Code} (hG : zG E p l s m args meth c cX12_means 2 RX12 none (zA Y s.heap.size)) {Q : zS → Prop} : ∀ (t0 : Nat) (σ : zS), wX12_means_117 (zln Y) Q t0 σ → zT Y 12 t0 → WW E Y σ p l e rX12_means s m args below meth c (zA Y s.heap.size) 2 0 0 (MQ below (va_Qv Q (zB E Y s.heap.size) (zA Y s.heap.size)) args s 0 0 (zA Y s.heap.size)) [(0, .ref (za Y t0))] 117 [] := by
  intro t0 σ hw h0
  unfold wX12_means_117 at hw
  refine z_aload_n hG dX12_means_117 rfl 0 rfl ?_
  obtain ⟨j1, ej1, hw⟩ := hw
  refine z_getr (kq := 20) hG f_X12_7 h0 rfl ej1 rfl (by decide) dX12_means_118 (fun hj1 => ?_)
  refine z_bipush (v := 12) hG dX12_means_121 (by decide) ?_
  refine z_dup2 hG dX12_means_123 rfl rfl ?_
  obtain ⟨q2, hw⟩ := hw
  refine z_iald hG hj1 q2 dX12_means_124 ?_
  refine z_iconst (v := 1) hG dX12_means_125 (by decide) ?_
  refine z_iadd hG dX12_means_126 ?_
  refine z_topi (fun x3 ex3 => ?_)
  have hw := hw x3 ex3
  obtain ⟨q4, hw⟩ := hw
  refine z_iast hG hj1 q4 dX12_means_127 ?_
  refine z_topσ (fun σ5 eσ5 => ?_)
  have hw := hw σ5 eσ5
  exact z_vret hG rfl dX12_means_128 hw
set_option maxRecDepth 100000 in
set_option maxHeartbeats 4000000 in
theorem BX12_means_102 {l : Launch} {E : zE} {Y : zY} {p : Program} {e : Env} {s : State} {m : MethodId} {args : Array Value} {below : List Frame} {meth : Method} {c : Code} (hG : zG E p l s m args meth c cX12_means 2 RX12 none (zA Y s.heap.size)) {Q : zS → Prop} : ∀ (t0 : Nat) (tw0 : Nat) (vw1 : Int32) (tw2 : Nat) (vw3 : Int32) (vw4 : Int32) (σ : zS), wX12_means_102 (zln Y) Q t0 tw0 vw1 tw2 vw3 vw4 σ → zT Y 12 t0 → zT Y 20 tw0 → zT Y 12 tw2 → WW E Y σ p l e rX12_means s m args below meth c (zA Y s.heap.size) 2 0 0 (MQ below (va_Qv Q (zB E Y s.heap.size) (zA Y s.heap.size)) args s 0 0 (zA Y s.heap.size)) [(0, .ref (za Y t0))] 102 [.int vw4, .int vw3, .ref (za Y tw2), .int vw1, .ref (za Y tw0)] := by
  intro t0 tw0 vw1 tw2 vw3 vw4 σ hw h0 hw0 hw2
  unfold wX12_means_102 at hw
  refine z_calli hG (z_runV (As := [.int vw3, .int vw4]) (st := [.int vw1, .ref (za Y tw0)]) hG k_X12_135 (MX12_characterOf l hw2 hw) ⟨(Nat.le_of_ble_eq_true rfl), (Nat.le_of_ble_eq_true rfl)⟩ hw2 (T := TX12) (N := 23) rfl (by decide) rfl (Nat.le_of_ble_eq_true rfl) dX12_means_102 ⟨Nat.zero_le _, Nat.zero_le _⟩ rfl) (fun r2 σ1 hw => ?_)
  obtain ⟨q3, hw⟩ := hw
  refine z_iast hG hw0 q3 dX12_means_105 ?_
  refine z_topσ (fun σ4 eσ4 => ?_)
  have hw := hw σ4 eσ4
  refine z_aload_n hG dX12_means_106 rfl 0 rfl ?_
  obtain ⟨j5, ej5, hw⟩ := hw
  refine z_getr (kq := 20) hG f_X12_7 h0 rfl ej5 rfl (by decide) dX12_means_107 (fun hj5 => ?_)
  refine z_bipush (v := 11) hG dX12_means_110 (by decide) ?_
  refine z_dup2 hG dX12_means_112 rfl rfl ?_
  obtain ⟨q6, hw⟩ := hw
  refine z_iald hG hj5 q6 dX12_means_113 ?_
  refine z_iconst (v := 1) hG dX12_means_114 (by decide) ?_
  refine z_iadd hG dX12_means_115 ?_
  refine z_topi (fun x7 ex7 => ?_)
  have hw := hw x7 ex7
  obtain ⟨q8, hw⟩ := hw
  refine z_iast hG hj5 q8 dX12_means_116 ?_
  refine z_topσ (fun σ9 eσ9 => ?_)
  have hw := hw σ9 eσ9
  refine zpick [0] (lv' := [(0, .ref (za Y t0))]) rfl ?_
  exact BX12_means_117 hG t0 σ9 hw h0
set_option maxRecDepth 100000 in
set_option maxHeartbeats 4000000 in
theorem BX12_means_42 {l : Launch} {E : zE} {Y : zY} {p : Program} {e : Env} {s : State} {m : MethodId} {args : Array Value} {below : List Frame} {meth : Method} {c : Code} (hG : zG E p l s m args meth c cX12_means 2 RX12 none (zA Y s.heap.size)) {Q : zS → Prop} : ∀ (t0 : Nat) (v1 : Int32) (σ : zS), wX12_means_42 (zln Y) Q t0 v1 σ → zT Y 12 t0 → WW E Y σ p l e rX12_means s m args below meth c (zA Y s.heap.size) 2 0 0 (MQ below (va_Qv Q (zB E Y s.heap.size) (zA Y s.heap.size)) args s 0 0 (zA Y s.heap.size)) [(0, .ref (za Y t0)), (1, .int v1)] 42 [] := by
  intro t0 v1 σ hw h0
  unfold wX12_means_42 at hw
  refine z_iload_n hG dX12_means_42 rfl 1 rfl ?_
  refine z_iconst (v := 2) hG dX12_means_43 (by decide) ?_
  refine z_icmp_ge (tgt := 58) hG dX12_means_44 (by decide) (fun c13 => ?_) (fun c13 => ?_)
  · have hw := hw.1 c13
    refine z_aload_n hG dX12_means_58 rfl 0 rfl ?_
    obtain ⟨j1, ej1, hw⟩ := hw
    refine z_getr (kq := 20) hG f_X12_7 h0 rfl ej1 rfl (by decide) dX12_means_59 (fun hj1 => ?_)
    refine z_bipush (v := 11) hG dX12_means_62 (by decide) ?_
    obtain ⟨q2, hw⟩ := hw
    refine z_iald hG hj1 q2 dX12_means_64 ?_
    refine z_bipush (v := 40) hG dX12_means_65 (by decide) ?_
    refine z_icmp_ge (tgt := 117) hG dX12_means_67 (by decide) (fun c9 => ?_) (fun c9 => ?_)
    · have hw := hw.1 c9
      refine zpick [0] (lv' := [(0, .ref (za Y t0))]) rfl ?_
      exact BX12_means_117 hG t0 σ hw h0
    · have hw := hw.2 c9
      refine z_aload_n hG dX12_means_70 rfl 0 rfl ?_
      obtain ⟨j3, ej3, hw⟩ := hw
      refine z_getr (kq := 20) hG f_X12_7 h0 rfl ej3 rfl (by decide) dX12_means_71 (fun hj3 => ?_)
      refine z_bipush (v := 59) hG dX12_means_74 (by decide) ?_
      refine z_aload_n hG dX12_means_76 rfl 0 rfl ?_
      obtain ⟨j4, ej4, hw⟩ := hw
      refine z_getr (kq := 20) hG f_X12_7 h0 rfl ej4 rfl (by decide) dX12_means_77 (fun hj4 => ?_)
      refine z_bipush (v := 11) hG dX12_means_80 (by decide) ?_
      obtain ⟨q5, hw⟩ := hw
      refine z_iald hG hj4 q5 dX12_means_82 ?_
      refine z_iadd hG dX12_means_83 ?_
      refine z_aload_n hG dX12_means_84 rfl 0 rfl ?_
      refine z_iload_n hG dX12_means_85 rfl 1 rfl ?_
      refine z_aload_n hG dX12_means_86 rfl 0 rfl ?_
      obtain ⟨j6, ej6, hw⟩ := hw
      refine z_getr (kq := 20) hG f_X12_7 h0 rfl ej6 rfl (by decide) dX12_means_87 (fun hj6 => ?_)
      refine z_bipush (v := 13) hG dX12_means_90 (by decide) ?_
      obtain ⟨q7, hw⟩ := hw
      refine z_iald hG hj6 q7 dX12_means_92 ?_
      refine z_iconst (v := 1) hG dX12_means_93 (by decide) ?_
      refine z_icmp_ne (tgt := 101) hG dX12_means_94 (by decide) (fun c8 => ?_) (fun c8 => ?_)
      · have hw := hw.2 c8
        refine z_iconst (v := 0) hG dX12_means_101 (by decide) ?_
        refine zpick [0] (lv' := [(0, .ref (za Y t0))]) rfl ?_
        exact BX12_means_102 hG t0 j3 (59 + (gi σ j4 (11 : Int32).toNatClampNeg)) t0 v1 0 σ hw h0 hj3 h0
      · have hw := hw.1 c8
        refine z_iconst (v := 1) hG dX12_means_97 (by decide) ?_
        refine z_goto (tgt := 102) hG dX12_means_98 (by decide) ?_
        refine zpick [0] (lv' := [(0, .ref (za Y t0))]) rfl ?_
        exact BX12_means_102 hG t0 j3 (59 + (gi σ j4 (11 : Int32).toNatClampNeg)) t0 v1 1 σ hw h0 hj3 h0
  · have hw := hw.2 c13
    refine z_aload_n hG dX12_means_47 rfl 0 rfl ?_
    obtain ⟨j10, ej10, hw⟩ := hw
    refine z_getr (kq := 20) hG f_X12_7 h0 rfl ej10 rfl (by decide) dX12_means_48 (fun hj10 => ?_)
    refine z_bipush (v := 13) hG dX12_means_51 (by decide) ?_
    refine z_iload_n hG dX12_means_53 rfl 1 rfl ?_
    obtain ⟨q11, hw⟩ := hw
    refine z_iast hG hj10 q11 dX12_means_54 ?_
    refine z_topσ (fun σ12 eσ12 => ?_)
    have hw := hw σ12 eσ12
    refine z_goto (tgt := 117) hG dX12_means_55 (by decide) ?_
    refine zpick [0] (lv' := [(0, .ref (za Y t0))]) rfl ?_
    exact BX12_means_117 hG t0 σ12 hw h0
set_option maxRecDepth 100000 in
set_option maxHeartbeats 4000000 in
theorem MX12_means (l : Launch) {E : zE} {Y : zY} {σ : zS} {t0 : Nat} {v1 : Int32} (h0 : zT Y 12 t0) {Q : zS → Prop} (hw : wX12_means (zln Y) σ t0 v1 Q) : ∀ sz, Met l yX12_means (zw yX12_means cX12_means 2 none) rX12_means (zPc E Y σ sz [.ref (za Y t0), .int v1]) (va_Qv Q (zB E Y sz) (zA Y sz)) 0 0 (zA Y sz) := by
  refine z_met (own := RX12) (Qc := fun sz => va_Qv Q (zB E Y sz) (zA Y sz)) (by decide +kernel) rfl (Nat.le_of_ble_eq_true rfl) ?_
  intro p e s m args below meth c hG hinit
  unfold wX12_means at hw
  refine zlv (lv' := [(0, .ref (za Y t0)), (1, .int v1)]) rfl ?_
  refine z_aload_n hG dX12_means_0 rfl 0 rfl ?_
  obtain ⟨j1, ej1, hw⟩ := hw
  refine z_getr (kq := 20) hG f_X12_7 h0 rfl ej1 rfl (by decide) dX12_means_1 (fun hj1 => ?_)
  refine z_bipush (v := 14) hG dX12_means_4 (by decide) ?_
  obtain ⟨q2, hw⟩ := hw
  refine z_iald hG hj1 q2 dX12_means_6 ?_
  refine z_iconst (v := 1) hG dX12_means_7 (by decide) ?_
  refine z_icmp_ne (tgt := 17) hG dX12_means_8 (by decide) (fun c11 => ?_) (fun c11 => ?_)
  · have hw := hw.2 c11
    refine z_iload_n hG dX12_means_17 rfl 1 rfl ?_
    refine z_iconst (v := 2) hG dX12_means_18 (by decide) ?_
    refine z_icmp_ge (tgt := 42) hG dX12_means_19 (by decide) (fun c9 => ?_) (fun c9 => ?_)
    · have hw := hw.1 c9
      refine zpick [0, 1] (lv' := [(0, .ref (za Y t0)), (1, .int v1)]) rfl ?_
      exact BX12_means_42 hG t0 v1 σ hw h0
    · have hw := hw.2 c9
      refine z_iload_n hG dX12_means_22 rfl 1 rfl ?_
      refine z_aload_n hG dX12_means_23 rfl 0 rfl ?_
      obtain ⟨j3, ej3, hw⟩ := hw
      refine z_getr (kq := 20) hG f_X12_7 h0 rfl ej3 rfl (by decide) dX12_means_24 (fun hj3 => ?_)
      refine z_bipush (v := 13) hG dX12_means_27 (by decide) ?_
      obtain ⟨q4, hw⟩ := hw
      refine z_iald hG hj3 q4 dX12_means_29 ?_
      refine z_icmp_ne (tgt := 42) hG dX12_means_30 (by decide) (fun c8 => ?_) (fun c8 => ?_)
      · have hw := hw.2 c8
        refine zpick [0, 1] (lv' := [(0, .ref (za Y t0)), (1, .int v1)]) rfl ?_
        exact BX12_means_42 hG t0 v1 σ hw h0
      · have hw := hw.1 c8
        refine z_aload_n hG dX12_means_33 rfl 0 rfl ?_
        obtain ⟨j5, ej5, hw⟩ := hw
        refine z_getr (kq := 20) hG f_X12_7 h0 rfl ej5 rfl (by decide) dX12_means_34 (fun hj5 => ?_)
        refine z_bipush (v := 14) hG dX12_means_37 (by decide) ?_
        refine z_iconst (v := 1) hG dX12_means_39 (by decide) ?_
        obtain ⟨q6, hw⟩ := hw
        refine z_iast hG hj5 q6 dX12_means_40 ?_
        refine z_topσ (fun σ7 eσ7 => ?_)
        have hw := hw σ7 eσ7
        exact z_vret hG rfl dX12_means_41 hw
  · have hw := hw.1 c11
    refine z_aload_n hG dX12_means_11 rfl 0 rfl ?_
    refine z_iload_n hG dX12_means_12 rfl 1 rfl ?_
    refine z_callv hG (z_runV (As := [.int v1]) (st := []) hG k_X12_132 (MX12_checks l h0 hw) ⟨(Nat.le_of_ble_eq_true rfl), (Nat.le_of_ble_eq_true rfl)⟩ h0 (T := TX12) (N := 23) rfl (by decide) rfl (Nat.le_of_ble_eq_true rfl) dX12_means_13 ⟨Nat.zero_le _, Nat.zero_le _⟩ rfl) (fun σ10 hw => ?_)
    exact z_vret hG rfl dX12_means_16 hw
-- TypeWheelTelegraphModel.printsAt(I)V
def wX12_printsAt_216 (ln : Nat → Nat) (Q : zS → Prop) (t0 : Nat) (v4 : Int32) (σ : zS) : Prop := ∃ j1 : Nat, gr σ t0 1 = some j1 ∧ ∃ j2 : Nat, gr σ t0 1 = some j2 ∧ vp_in (5 : Int32) (ln j2) ∧ ∀ x4 : Int32, x4 = gi σ j2 (5 : Int32).toNatClampNeg → vp_in (15 : Int32) (ln j1) ∧ ∀ σ6 : zS, σ6 = si σ j1 (15 : Int32).toNatClampNeg x4 → wX12_means ln σ6 t0 v4 (fun σ7 => Q σ7)
def wX12_printsAt_197 (ln : Nat → Nat) (Q : zS → Prop) (t0 : Nat) (v1 : Int32) (v2 : Int32) (v4 : Int32) (σ : zS) : Prop := ((v4 = v1 → wX12_printsAt_216 ln Q t0 v4 σ) ∧ (¬ v4 = v1 → ∃ j1 : Nat, gr σ t0 1 = some j1 ∧ ∀ x2 : Int32, x2 = 33 + v2 → vp_in x2 (ln j1) ∧ ∀ x4 : Int32, x4 = (gi σ j1 x2.toNatClampNeg) + 1 → vp_in x2 (ln j1) ∧ ∀ σ6 : zS, σ6 = si σ j1 x2.toNatClampNeg x4 → wX12_printsAt_216 ln Q t0 v4 σ6))
def wX12_printsAt_182 (ln : Nat → Nat) (Q : zS → Prop) (t0 : Nat) (v1 : Int32) (v2 : Int32) (v4 : Int32) (v8 : Int32) (σ : zS) : Prop := ((v8 ≤ (gi σ t0 9) → wX12_printsAt_197 ln Q t0 v1 v2 v4 σ) ∧ (¬ v8 ≤ (gi σ t0 9) → ∀ σ1 : zS, σ1 = si σ t0 9 v8 → wX12_printsAt_197 ln Q t0 v1 v2 v4 σ1))
def wX12_printsAt_128 (ln : Nat → Nat) (Q : zS → Prop) (t0 : Nat) (v1 : Int32) (v2 : Int32) (v4 : Int32) (v5 : Int32) (vw0 : Int32) (σ : zS) : Prop := ∃ j1 : Nat, gr σ t0 1 = some j1 ∧ ∀ x2 : Int32, x2 = 31 + v2 → vp_in x2 (ln j1) ∧ ∀ x4 : Int32, x4 = (gi σ j1 x2.toNatClampNeg) + 1 → vp_in x2 (ln j1) ∧ ∀ σ6 : zS, σ6 = si σ j1 x2.toNatClampNeg x4 → ∃ j7 : Nat, gr σ6 t0 1 = some j7 ∧ ∀ x8 : Int32, x8 = 37 + v2 → vp_in x8 (ln j7) ∧ ∀ x10 : Int32, x10 = (gi σ6 j7 x8.toNatClampNeg) + v5 → vp_in x8 (ln j7) ∧ ∀ σ12 : zS, σ12 = si σ6 j7 x8.toNatClampNeg x10 → ∃ j13 : Nat, gr σ12 t0 1 = some j13 ∧ ∀ x14 : Int32, x14 = 35 + v2 → vp_in x14 (ln j13) ∧ ((vw0 ≤ (gi σ12 j13 x14.toNatClampNeg) → wX12_printsAt_182 ln Q t0 v1 v2 v4 vw0 σ12) ∧ (¬ vw0 ≤ (gi σ12 j13 x14.toNatClampNeg) → ∃ j16 : Nat, gr σ12 t0 1 = some j16 ∧ ∀ x17 : Int32, x17 = 35 + v2 → vp_in x17 (ln j16) ∧ ∀ σ19 : zS, σ19 = si σ12 j16 x17.toNatClampNeg vw0 → wX12_printsAt_182 ln Q t0 v1 v2 v4 vw0 σ19))
def wX12_printsAt_86 (ln : Nat → Nat) (Q : zS → Prop) (t0 : Nat) (v1 : Int32) (v2 : Int32) (v4 : Int32) (v5 : Int32) (vw0 : Int32) (σ : zS) : Prop := ∃ j1 : Nat, gr σ t0 1 = some j1 ∧ ∃ j2 : Nat, gr σ t0 1 = some j2 ∧ ∀ x3 : Int32, x3 = 21 + v2 → vp_in x3 (ln j2) ∧ ∀ x5 : Int64, x5 = ((gi σ j2 x3.toNatClampNeg).toInt64) - vw0.toInt64 → wX12_within ln σ t0 x5 (fun r7 σ6 => ∀ x8 : Int32, x8 = 21 + v2 → vp_in x8 (ln j1) ∧ ∀ σ10 : zS, σ10 = si σ6 j1 x8.toNatClampNeg r7 → ((0 ≤ v5 → wX12_printsAt_128 ln Q t0 v1 v2 v4 v5 v5 σ10) ∧ (¬ 0 ≤ v5 → wX12_printsAt_128 ln Q t0 v1 v2 v4 v5 (-v5) σ10)))
def wX12_printsAt (ln : Nat → Nat) (σ : zS) (t0 : Nat) (v1 : Int32) (Q : zS → Prop) : Prop := wX12_receiver ln σ t0 (fun r2 σ1 => ∃ j3 : Nat, gr σ1 t0 1 = some j3 ∧ ∀ x4 : Int32, x4 = 21 + r2 → vp_in x4 (ln j3) ∧ ∀ x6 : Int32, x6 = ((gi σ1 j3 x4.toNatClampNeg) + 500) / 1000 → ∃ j7 : Nat, gr σ1 t0 1 = some j7 ∧ vp_in (0 : Int32) (ln j7) ∧ ∀ x9 : Int32, x9 = gi σ1 j7 (0 : Int32).toNatClampNeg → ¬ x9 = 0 ∧ ∀ x11 : Int32, x11 = x6 - x6 / x9 * x9 → ∃ j12 : Nat, gr σ1 t0 1 = some j12 ∧ ∀ x13 : Int32, x13 = 21 + r2 → vp_in x13 (ln j12) ∧ ∀ x15 : Int32, x15 = (gi σ1 j12 x13.toNatClampNeg) - (1000 * x6) → ∃ j16 : Nat, gr σ1 t0 1 = some j16 ∧ vp_in (2 : Int32) (ln j16) ∧ ∀ x18 : Int32, x18 = gi σ1 j16 (2 : Int32).toNatClampNeg → (((-x18) ≤ x15 → ((x15 ≤ x18 → wX12_printsAt_86 ln Q t0 v1 r2 x11 x15 x15 σ1) ∧ (¬ x15 ≤ x18 → wX12_printsAt_86 ln Q t0 v1 r2 x11 x15 x18 σ1))) ∧ (¬ (-x18) ≤ x15 → wX12_printsAt_86 ln Q t0 v1 r2 x11 x15 (-x18) σ1)))
abbrev rX12_printsAt : Room := { frames := 6, cells := 0, slots := 0, locals := 128 }
set_option maxRecDepth 100000 in
set_option maxHeartbeats 4000000 in
theorem BX12_printsAt_216 {l : Launch} {E : zE} {Y : zY} {p : Program} {e : Env} {s : State} {m : MethodId} {args : Array Value} {below : List Frame} {meth : Method} {c : Code} (hG : zG E p l s m args meth c cX12_printsAt 9 RX12 none (zA Y s.heap.size)) {Q : zS → Prop} : ∀ (t0 : Nat) (v4 : Int32) (σ : zS), wX12_printsAt_216 (zln Y) Q t0 v4 σ → zT Y 12 t0 → WW E Y σ p l e rX12_printsAt s m args below meth c (zA Y s.heap.size) 9 0 0 (MQ below (va_Qv Q (zB E Y s.heap.size) (zA Y s.heap.size)) args s 0 0 (zA Y s.heap.size)) [(0, .ref (za Y t0)), (4, .int v4)] 216 [] := by
  intro t0 v4 σ hw h0
  unfold wX12_printsAt_216 at hw
  refine z_aload_n hG dX12_printsAt_216 rfl 0 rfl ?_
  obtain ⟨j1, ej1, hw⟩ := hw
  refine z_getr (kq := 20) hG f_X12_7 h0 rfl ej1 rfl (by decide) dX12_printsAt_217 (fun hj1 => ?_)
  refine z_bipush (v := 15) hG dX12_printsAt_220 (by decide) ?_
  refine z_aload_n hG dX12_printsAt_222 rfl 0 rfl ?_
  obtain ⟨j2, ej2, hw⟩ := hw
  refine z_getr (kq := 20) hG f_X12_7 h0 rfl ej2 rfl (by decide) dX12_printsAt_223 (fun hj2 => ?_)
  refine z_iconst (v := 5) hG dX12_printsAt_226 (by decide) ?_
  obtain ⟨q3, hw⟩ := hw
  refine z_iald hG hj2 q3 dX12_printsAt_227 ?_
  refine z_topi (fun x4 ex4 => ?_)
  have hw := hw x4 ex4
  obtain ⟨q5, hw⟩ := hw
  refine z_iast hG hj1 q5 dX12_printsAt_228 ?_
  refine z_topσ (fun σ6 eσ6 => ?_)
  have hw := hw σ6 eσ6
  refine z_aload_n hG dX12_printsAt_229 rfl 0 rfl ?_
  refine z_iload hG dX12_printsAt_230 1 rfl ?_
  refine z_callv hG (z_runV (As := [.int v4]) (st := []) hG k_X12_142 (MX12_means l h0 hw) ⟨(Nat.le_of_ble_eq_true rfl), (Nat.le_of_ble_eq_true rfl)⟩ h0 (T := TX12) (N := 23) rfl (by decide) rfl (Nat.le_of_ble_eq_true rfl) dX12_printsAt_232 ⟨Nat.zero_le _, Nat.zero_le _⟩ rfl) (fun σ7 hw => ?_)
  exact z_vret hG rfl dX12_printsAt_235 hw
set_option maxRecDepth 100000 in
set_option maxHeartbeats 4000000 in
theorem BX12_printsAt_197 {l : Launch} {E : zE} {Y : zY} {p : Program} {e : Env} {s : State} {m : MethodId} {args : Array Value} {below : List Frame} {meth : Method} {c : Code} (hG : zG E p l s m args meth c cX12_printsAt 9 RX12 none (zA Y s.heap.size)) {Q : zS → Prop} : ∀ (t0 : Nat) (v1 : Int32) (v2 : Int32) (v4 : Int32) (σ : zS), wX12_printsAt_197 (zln Y) Q t0 v1 v2 v4 σ → zT Y 12 t0 → WW E Y σ p l e rX12_printsAt s m args below meth c (zA Y s.heap.size) 9 0 0 (MQ below (va_Qv Q (zB E Y s.heap.size) (zA Y s.heap.size)) args s 0 0 (zA Y s.heap.size)) [(0, .ref (za Y t0)), (1, .int v1), (2, .int v2), (4, .int v4)] 197 [] := by
  intro t0 v1 v2 v4 σ hw h0
  unfold wX12_printsAt_197 at hw
  refine z_iload hG dX12_printsAt_197 3 rfl ?_
  refine z_iload_n hG dX12_printsAt_199 rfl 1 rfl ?_
  refine z_icmp_eq (tgt := 216) hG dX12_printsAt_200 (by decide) (fun c7 => ?_) (fun c7 => ?_)
  · have hw := hw.1 c7
    refine zpick [0, 3] (lv' := [(0, .ref (za Y t0)), (4, .int v4)]) rfl ?_
    exact BX12_printsAt_216 hG t0 v4 σ hw h0
  · have hw := hw.2 c7
    refine z_aload_n hG dX12_printsAt_203 rfl 0 rfl ?_
    obtain ⟨j1, ej1, hw⟩ := hw
    refine z_getr (kq := 20) hG f_X12_7 h0 rfl ej1 rfl (by decide) dX12_printsAt_204 (fun hj1 => ?_)
    refine z_bipush (v := 33) hG dX12_printsAt_207 (by decide) ?_
    refine z_iload_n hG dX12_printsAt_209 rfl 2 rfl ?_
    refine z_iadd hG dX12_printsAt_210 ?_
    refine z_topi (fun x2 ex2 => ?_)
    have hw := hw x2 ex2
    refine z_dup2 hG dX12_printsAt_211 rfl rfl ?_
    obtain ⟨q3, hw⟩ := hw
    refine z_iald hG hj1 q3 dX12_printsAt_212 ?_
    refine z_iconst (v := 1) hG dX12_printsAt_213 (by decide) ?_
    refine z_iadd hG dX12_printsAt_214 ?_
    refine z_topi (fun x4 ex4 => ?_)
    have hw := hw x4 ex4
    obtain ⟨q5, hw⟩ := hw
    refine z_iast hG hj1 q5 dX12_printsAt_215 ?_
    refine z_topσ (fun σ6 eσ6 => ?_)
    have hw := hw σ6 eσ6
    refine zpick [0, 3] (lv' := [(0, .ref (za Y t0)), (4, .int v4)]) rfl ?_
    exact BX12_printsAt_216 hG t0 v4 σ6 hw h0
set_option maxRecDepth 100000 in
set_option maxHeartbeats 4000000 in
theorem BX12_printsAt_182 {l : Launch} {E : zE} {Y : zY} {p : Program} {e : Env} {s : State} {m : MethodId} {args : Array Value} {below : List Frame} {meth : Method} {c : Code} (hG : zG E p l s m args meth c cX12_printsAt 9 RX12 none (zA Y s.heap.size)) {Q : zS → Prop} : ∀ (t0 : Nat) (v1 : Int32) (v2 : Int32) (v4 : Int32) (v8 : Int32) (σ : zS), wX12_printsAt_182 (zln Y) Q t0 v1 v2 v4 v8 σ → zT Y 12 t0 → WW E Y σ p l e rX12_printsAt s m args below meth c (zA Y s.heap.size) 9 0 0 (MQ below (va_Qv Q (zB E Y s.heap.size) (zA Y s.heap.size)) args s 0 0 (zA Y s.heap.size)) [(0, .ref (za Y t0)), (1, .int v1), (2, .int v2), (4, .int v4), (8, .int v8)] 182 [] := by
  intro t0 v1 v2 v4 v8 σ hw h0
  unfold wX12_printsAt_182 at hw
  refine z_iload hG dX12_printsAt_182 4 rfl ?_
  refine z_aload_n hG dX12_printsAt_184 rfl 0 rfl ?_
  refine z_geti hG f_X12_139 h0 rfl dX12_printsAt_185 ?_
  refine z_icmp_le (tgt := 197) hG dX12_printsAt_188 (by decide) (fun c2 => ?_) (fun c2 => ?_)
  · have hw := hw.1 c2
    refine zpick [0, 1, 2, 3] (lv' := [(0, .ref (za Y t0)), (1, .int v1), (2, .int v2), (4, .int v4)]) rfl ?_
    exact BX12_printsAt_197 hG t0 v1 v2 v4 σ hw h0
  · have hw := hw.2 c2
    refine z_aload_n hG dX12_printsAt_191 rfl 0 rfl ?_
    refine z_iload hG dX12_printsAt_192 4 rfl ?_
    refine z_puti hG f_X12_139 h0 rfl rfl (zN_int _) dX12_printsAt_194 ?_
    refine z_topσ (fun σ1 eσ1 => ?_)
    have hw := hw σ1 eσ1
    refine zpick [0, 1, 2, 3] (lv' := [(0, .ref (za Y t0)), (1, .int v1), (2, .int v2), (4, .int v4)]) rfl ?_
    exact BX12_printsAt_197 hG t0 v1 v2 v4 σ1 hw h0
set_option maxRecDepth 100000 in
set_option maxHeartbeats 4000000 in
theorem BX12_printsAt_128 {l : Launch} {E : zE} {Y : zY} {p : Program} {e : Env} {s : State} {m : MethodId} {args : Array Value} {below : List Frame} {meth : Method} {c : Code} (hG : zG E p l s m args meth c cX12_printsAt 9 RX12 none (zA Y s.heap.size)) {Q : zS → Prop} : ∀ (t0 : Nat) (v1 : Int32) (v2 : Int32) (v4 : Int32) (v5 : Int32) (vw0 : Int32) (σ : zS), wX12_printsAt_128 (zln Y) Q t0 v1 v2 v4 v5 vw0 σ → zT Y 12 t0 → WW E Y σ p l e rX12_printsAt s m args below meth c (zA Y s.heap.size) 9 0 0 (MQ below (va_Qv Q (zB E Y s.heap.size) (zA Y s.heap.size)) args s 0 0 (zA Y s.heap.size)) [(0, .ref (za Y t0)), (1, .int v1), (2, .int v2), (4, .int v4), (5, .int v5)] 128 [.int vw0] := by
  intro t0 v1 v2 v4 v5 vw0 σ hw h0
  unfold wX12_printsAt_128 at hw
  refine z_istore (lv' := [(8, .int vw0), (0, .ref (za Y t0)), (1, .int v1), (2, .int v2), (4, .int v4), (5, .int v5)]) hG dX12_printsAt_128 (by decide) rfl ?_
  refine z_aload_n hG dX12_printsAt_130 rfl 1 rfl ?_
  obtain ⟨j1, ej1, hw⟩ := hw
  refine z_getr (kq := 20) hG f_X12_7 h0 rfl ej1 rfl (by decide) dX12_printsAt_131 (fun hj1 => ?_)
  refine z_bipush (v := 31) hG dX12_printsAt_134 (by decide) ?_
  refine z_iload_n hG dX12_printsAt_136 rfl 3 rfl ?_
  refine z_iadd hG dX12_printsAt_137 ?_
  refine z_topi (fun x2 ex2 => ?_)
  have hw := hw x2 ex2
  refine z_dup2 hG dX12_printsAt_138 rfl rfl ?_
  obtain ⟨q3, hw⟩ := hw
  refine z_iald hG hj1 q3 dX12_printsAt_139 ?_
  refine z_iconst (v := 1) hG dX12_printsAt_140 (by decide) ?_
  refine z_iadd hG dX12_printsAt_141 ?_
  refine z_topi (fun x4 ex4 => ?_)
  have hw := hw x4 ex4
  obtain ⟨q5, hw⟩ := hw
  refine z_iast hG hj1 q5 dX12_printsAt_142 ?_
  refine z_topσ (fun σ6 eσ6 => ?_)
  have hw := hw σ6 eσ6
  refine z_aload_n hG dX12_printsAt_143 rfl 1 rfl ?_
  obtain ⟨j7, ej7, hw⟩ := hw
  refine z_getr (kq := 20) hG f_X12_7 h0 rfl ej7 rfl (by decide) dX12_printsAt_144 (fun hj7 => ?_)
  refine z_bipush (v := 37) hG dX12_printsAt_147 (by decide) ?_
  refine z_iload_n hG dX12_printsAt_149 rfl 3 rfl ?_
  refine z_iadd hG dX12_printsAt_150 ?_
  refine z_topi (fun x8 ex8 => ?_)
  have hw := hw x8 ex8
  refine z_dup2 hG dX12_printsAt_151 rfl rfl ?_
  obtain ⟨q9, hw⟩ := hw
  refine z_iald hG hj7 q9 dX12_printsAt_152 ?_
  refine z_iload hG dX12_printsAt_153 5 rfl ?_
  refine z_iadd hG dX12_printsAt_155 ?_
  refine z_topi (fun x10 ex10 => ?_)
  have hw := hw x10 ex10
  obtain ⟨q11, hw⟩ := hw
  refine z_iast hG hj7 q11 dX12_printsAt_156 ?_
  refine z_topσ (fun σ12 eσ12 => ?_)
  have hw := hw σ12 eσ12
  refine z_iload hG dX12_printsAt_157 0 rfl ?_
  refine z_aload_n hG dX12_printsAt_159 rfl 1 rfl ?_
  obtain ⟨j13, ej13, hw⟩ := hw
  refine z_getr (kq := 20) hG f_X12_7 h0 rfl ej13 rfl (by decide) dX12_printsAt_160 (fun hj13 => ?_)
  refine z_bipush (v := 35) hG dX12_printsAt_163 (by decide) ?_
  refine z_iload_n hG dX12_printsAt_165 rfl 3 rfl ?_
  refine z_iadd hG dX12_printsAt_166 ?_
  refine z_topi (fun x14 ex14 => ?_)
  have hw := hw x14 ex14
  obtain ⟨q15, hw⟩ := hw
  refine z_iald hG hj13 q15 dX12_printsAt_167 ?_
  refine z_icmp_le (tgt := 182) hG dX12_printsAt_168 (by decide) (fun c20 => ?_) (fun c20 => ?_)
  · have hw := hw.1 c20
    refine zpick [1, 2, 3, 4, 0] (lv' := [(0, .ref (za Y t0)), (1, .int v1), (2, .int v2), (4, .int v4), (8, .int vw0)]) rfl ?_
    exact BX12_printsAt_182 hG t0 v1 v2 v4 vw0 σ12 hw h0
  · have hw := hw.2 c20
    refine z_aload_n hG dX12_printsAt_171 rfl 1 rfl ?_
    obtain ⟨j16, ej16, hw⟩ := hw
    refine z_getr (kq := 20) hG f_X12_7 h0 rfl ej16 rfl (by decide) dX12_printsAt_172 (fun hj16 => ?_)
    refine z_bipush (v := 35) hG dX12_printsAt_175 (by decide) ?_
    refine z_iload_n hG dX12_printsAt_177 rfl 3 rfl ?_
    refine z_iadd hG dX12_printsAt_178 ?_
    refine z_iload hG dX12_printsAt_179 0 rfl ?_
    obtain ⟨x17, ex17⟩ : ∃ y : Int32, y = 35 + v2 := ⟨_, rfl⟩
    refine zst (st' := [.int vw0, .int x17, .ref (za Y j16)]) (by rw [ex17]) ?_
    have hw := hw x17 ex17
    obtain ⟨q18, hw⟩ := hw
    refine z_iast hG hj16 q18 dX12_printsAt_181 ?_
    refine z_topσ (fun σ19 eσ19 => ?_)
    have hw := hw σ19 eσ19
    refine zpick [1, 2, 3, 4, 0] (lv' := [(0, .ref (za Y t0)), (1, .int v1), (2, .int v2), (4, .int v4), (8, .int vw0)]) rfl ?_
    exact BX12_printsAt_182 hG t0 v1 v2 v4 vw0 σ19 hw h0
set_option maxRecDepth 100000 in
set_option maxHeartbeats 4000000 in
theorem BX12_printsAt_86 {l : Launch} {E : zE} {Y : zY} {p : Program} {e : Env} {s : State} {m : MethodId} {args : Array Value} {below : List Frame} {meth : Method} {c : Code} (hG : zG E p l s m args meth c cX12_printsAt 9 RX12 none (zA Y s.heap.size)) {Q : zS → Prop} : ∀ (t0 : Nat) (v1 : Int32) (v2 : Int32) (v4 : Int32) (v5 : Int32) (vw0 : Int32) (σ : zS), wX12_printsAt_86 (zln Y) Q t0 v1 v2 v4 v5 vw0 σ → zT Y 12 t0 → WW E Y σ p l e rX12_printsAt s m args below meth c (zA Y s.heap.size) 9 0 0 (MQ below (va_Qv Q (zB E Y s.heap.size) (zA Y s.heap.size)) args s 0 0 (zA Y s.heap.size)) [(0, .ref (za Y t0)), (1, .int v1), (2, .int v2), (4, .int v4), (5, .int v5)] 86 [.int vw0] := by
  intro t0 v1 v2 v4 v5 vw0 σ hw h0
  unfold wX12_printsAt_86 at hw
  refine z_istore (lv' := [(7, .int vw0), (0, .ref (za Y t0)), (1, .int v1), (2, .int v2), (4, .int v4), (5, .int v5)]) hG dX12_printsAt_86 (by decide) rfl ?_
  refine z_aload_n hG dX12_printsAt_88 rfl 1 rfl ?_
  obtain ⟨j1, ej1, hw⟩ := hw
  refine z_getr (kq := 20) hG f_X12_7 h0 rfl ej1 rfl (by decide) dX12_printsAt_89 (fun hj1 => ?_)
  refine z_bipush (v := 21) hG dX12_printsAt_92 (by decide) ?_
  refine z_iload_n hG dX12_printsAt_94 rfl 3 rfl ?_
  refine z_iadd hG dX12_printsAt_95 ?_
  refine z_aload_n hG dX12_printsAt_96 rfl 1 rfl ?_
  refine z_aload_n hG dX12_printsAt_97 rfl 1 rfl ?_
  obtain ⟨j2, ej2, hw⟩ := hw
  refine z_getr (kq := 20) hG f_X12_7 h0 rfl ej2 rfl (by decide) dX12_printsAt_98 (fun hj2 => ?_)
  refine z_bipush (v := 21) hG dX12_printsAt_101 (by decide) ?_
  refine z_iload_n hG dX12_printsAt_103 rfl 3 rfl ?_
  refine z_iadd hG dX12_printsAt_104 ?_
  refine z_topi (fun x3 ex3 => ?_)
  have hw := hw x3 ex3
  obtain ⟨q4, hw⟩ := hw
  refine z_iald hG hj2 q4 dX12_printsAt_105 ?_
  refine z_i2l hG dX12_printsAt_106 ?_
  refine z_iload hG dX12_printsAt_107 0 rfl ?_
  refine z_i2l hG dX12_printsAt_109 ?_
  refine z_lsub hG dX12_printsAt_110 ?_
  refine z_topl (fun x5 ex5 => ?_)
  have hw := hw x5 ex5
  refine z_calli hG (z_runV (As := [.long x5]) (st := [.int (21 + v2), .ref (za Y j1)]) hG k_X12_94 (MX12_within l h0 hw) ⟨(Nat.le_of_ble_eq_true rfl), (Nat.le_of_ble_eq_true rfl)⟩ h0 (T := TX12) (N := 23) rfl (by decide) rfl (Nat.le_of_ble_eq_true rfl) dX12_printsAt_111 ⟨Nat.zero_le _, Nat.zero_le _⟩ rfl) (fun r7 σ6 hw => ?_)
  obtain ⟨x8, ex8⟩ : ∃ y : Int32, y = 21 + v2 := ⟨_, rfl⟩
  refine zst (st' := [.int r7, .int x8, .ref (za Y j1)]) (by rw [ex8]) ?_
  have hw := hw x8 ex8
  obtain ⟨q9, hw⟩ := hw
  refine z_iast hG hj1 q9 dX12_printsAt_114 ?_
  refine z_topσ (fun σ10 eσ10 => ?_)
  have hw := hw σ10 eσ10
  refine z_iload hG dX12_printsAt_115 5 rfl ?_
  refine z_if_ge (tgt := 126) hG dX12_printsAt_117 (by decide) (fun c11 => ?_) (fun c11 => ?_)
  · have hw := hw.1 c11
    refine z_iload hG dX12_printsAt_126 5 rfl ?_
    refine zpick [1, 2, 3, 4, 5] (lv' := [(0, .ref (za Y t0)), (1, .int v1), (2, .int v2), (4, .int v4), (5, .int v5)]) rfl ?_
    exact BX12_printsAt_128 hG t0 v1 v2 v4 v5 v5 σ10 hw h0
  · have hw := hw.2 c11
    refine z_iload hG dX12_printsAt_120 5 rfl ?_
    refine z_ineg hG dX12_printsAt_122 ?_
    refine z_goto (tgt := 128) hG dX12_printsAt_123 (by decide) ?_
    refine zpick [1, 2, 3, 4, 5] (lv' := [(0, .ref (za Y t0)), (1, .int v1), (2, .int v2), (4, .int v4), (5, .int v5)]) rfl ?_
    exact BX12_printsAt_128 hG t0 v1 v2 v4 v5 (-v5) σ10 hw h0
set_option maxRecDepth 100000 in
set_option maxHeartbeats 4000000 in
theorem MX12_printsAt (l : Launch) {E : zE} {Y : zY} {σ : zS} {t0 : Nat} {v1 : Int32} (h0 : zT Y 12 t0) {Q : zS → Prop} (hw : wX12_printsAt (zln Y) σ t0 v1 Q) : ∀ sz, Met l yX12_printsAt (zw yX12_printsAt cX12_printsAt 9 none) rX12_printsAt (zPc E Y σ sz [.ref (za Y t0), .int v1]) (va_Qv Q (zB E Y sz) (zA Y sz)) 0 0 (zA Y sz) := by
  refine z_met (own := RX12) (Qc := fun sz => va_Qv Q (zB E Y sz) (zA Y sz)) (by decide +kernel) rfl (Nat.le_of_ble_eq_true rfl) ?_
  intro p e s m args below meth c hG hinit
  unfold wX12_printsAt at hw
  refine zlv (lv' := [(0, .ref (za Y t0)), (1, .int v1)]) rfl ?_
  refine z_aload_n hG dX12_printsAt_0 rfl 0 rfl ?_
  refine z_calli hG (z_runV (As := []) (st := []) hG k_X12_117 (MX12_receiver l h0 hw) ⟨(Nat.le_of_ble_eq_true rfl), (Nat.le_of_ble_eq_true rfl)⟩ h0 (T := TX12) (N := 23) rfl (by decide) rfl (Nat.le_of_ble_eq_true rfl) dX12_printsAt_1 ⟨Nat.zero_le _, Nat.zero_le _⟩ rfl) (fun r2 σ1 hw => ?_)
  refine z_istore_n (lv' := [(2, .int r2), (0, .ref (za Y t0)), (1, .int v1)]) hG dX12_printsAt_4 rfl (by decide) rfl ?_
  refine z_aload_n hG dX12_printsAt_5 rfl 1 rfl ?_
  obtain ⟨j3, ej3, hw⟩ := hw
  refine z_getr (kq := 20) hG f_X12_7 h0 rfl ej3 rfl (by decide) dX12_printsAt_6 (fun hj3 => ?_)
  refine z_bipush (v := 21) hG dX12_printsAt_9 (by decide) ?_
  refine z_iload_n hG dX12_printsAt_11 rfl 0 rfl ?_
  refine z_iadd hG dX12_printsAt_12 ?_
  refine z_topi (fun x4 ex4 => ?_)
  have hw := hw x4 ex4
  obtain ⟨q5, hw⟩ := hw
  refine z_iald hG hj3 q5 dX12_printsAt_13 ?_
  refine z_sipush (v := 500) hG dX12_printsAt_14 (by decide) ?_
  refine z_iadd hG dX12_printsAt_17 ?_
  refine z_sipush (v := 1000) hG dX12_printsAt_18 (by decide) ?_
  refine z_idiv hG dX12_printsAt_21 (by decide) ?_
  refine z_topi (fun x6 ex6 => ?_)
  have hw := hw x6 ex6
  refine z_istore_n (lv' := [(3, .int x6), (2, .int r2), (0, .ref (za Y t0)), (1, .int v1)]) hG dX12_printsAt_22 rfl (by decide) rfl ?_
  refine z_iload_n hG dX12_printsAt_23 rfl 0 rfl ?_
  refine z_aload_n hG dX12_printsAt_24 rfl 2 rfl ?_
  obtain ⟨j7, ej7, hw⟩ := hw
  refine z_getr (kq := 20) hG f_X12_7 h0 rfl ej7 rfl (by decide) dX12_printsAt_25 (fun hj7 => ?_)
  refine z_iconst (v := 0) hG dX12_printsAt_28 (by decide) ?_
  obtain ⟨q8, hw⟩ := hw
  refine z_iald hG hj7 q8 dX12_printsAt_29 ?_
  refine z_topi (fun x9 ex9 => ?_)
  have hw := hw x9 ex9
  obtain ⟨q10, hw⟩ := hw
  refine z_irem hG dX12_printsAt_30 q10 ?_
  refine z_topi (fun x11 ex11 => ?_)
  have hw := hw x11 ex11
  refine z_istore (lv' := [(4, .int x11), (3, .int x6), (2, .int r2), (0, .ref (za Y t0)), (1, .int v1)]) hG dX12_printsAt_31 (by decide) rfl ?_
  refine z_aload_n hG dX12_printsAt_33 rfl 3 rfl ?_
  obtain ⟨j12, ej12, hw⟩ := hw
  refine z_getr (kq := 20) hG f_X12_7 h0 rfl ej12 rfl (by decide) dX12_printsAt_34 (fun hj12 => ?_)
  refine z_bipush (v := 21) hG dX12_printsAt_37 (by decide) ?_
  refine z_iload_n hG dX12_printsAt_39 rfl 2 rfl ?_
  refine z_iadd hG dX12_printsAt_40 ?_
  refine z_topi (fun x13 ex13 => ?_)
  have hw := hw x13 ex13
  obtain ⟨q14, hw⟩ := hw
  refine z_iald hG hj12 q14 dX12_printsAt_41 ?_
  refine z_sipush (v := 1000) hG dX12_printsAt_42 (by decide) ?_
  refine z_iload_n hG dX12_printsAt_45 rfl 1 rfl ?_
  refine z_imul hG dX12_printsAt_46 ?_
  refine z_isub hG dX12_printsAt_47 ?_
  refine z_topi (fun x15 ex15 => ?_)
  have hw := hw x15 ex15
  refine z_istore (lv' := [(5, .int x15), (4, .int x11), (3, .int x6), (2, .int r2), (0, .ref (za Y t0)), (1, .int v1)]) hG dX12_printsAt_48 (by decide) rfl ?_
  refine z_aload_n hG dX12_printsAt_50 rfl 4 rfl ?_
  obtain ⟨j16, ej16, hw⟩ := hw
  refine z_getr (kq := 20) hG f_X12_7 h0 rfl ej16 rfl (by decide) dX12_printsAt_51 (fun hj16 => ?_)
  refine z_iconst (v := 2) hG dX12_printsAt_54 (by decide) ?_
  obtain ⟨q17, hw⟩ := hw
  refine z_iald hG hj16 q17 dX12_printsAt_55 ?_
  refine z_topi (fun x18 ex18 => ?_)
  have hw := hw x18 ex18
  refine z_istore (lv' := [(6, .int x18), (5, .int x15), (4, .int x11), (3, .int x6), (2, .int r2), (0, .ref (za Y t0)), (1, .int v1)]) hG dX12_printsAt_56 (by decide) rfl ?_
  refine z_iload hG dX12_printsAt_58 1 rfl ?_
  refine z_iload hG dX12_printsAt_60 0 rfl ?_
  refine z_ineg hG dX12_printsAt_62 ?_
  refine z_icmp_ge (tgt := 72) hG dX12_printsAt_63 (by decide) (fun c20 => ?_) (fun c20 => ?_)
  · have hw := hw.1 c20
    refine z_iload hG dX12_printsAt_72 1 rfl ?_
    refine z_iload hG dX12_printsAt_74 0 rfl ?_
    refine z_icmp_le (tgt := 84) hG dX12_printsAt_76 (by decide) (fun c19 => ?_) (fun c19 => ?_)
    · have hw := hw.1 c19
      refine z_iload hG dX12_printsAt_84 1 rfl ?_
      refine zpick [5, 6, 4, 2, 1] (lv' := [(0, .ref (za Y t0)), (1, .int v1), (2, .int r2), (4, .int x11), (5, .int x15)]) rfl ?_
      exact BX12_printsAt_86 hG t0 v1 r2 x11 x15 x15 σ1 hw h0
    · have hw := hw.2 c19
      refine z_iload hG dX12_printsAt_79 0 rfl ?_
      refine z_goto (tgt := 86) hG dX12_printsAt_81 (by decide) ?_
      refine zpick [5, 6, 4, 2, 1] (lv' := [(0, .ref (za Y t0)), (1, .int v1), (2, .int r2), (4, .int x11), (5, .int x15)]) rfl ?_
      exact BX12_printsAt_86 hG t0 v1 r2 x11 x15 x18 σ1 hw h0
  · have hw := hw.2 c20
    refine z_iload hG dX12_printsAt_66 0 rfl ?_
    refine z_ineg hG dX12_printsAt_68 ?_
    refine z_goto (tgt := 86) hG dX12_printsAt_69 (by decide) ?_
    refine zpick [5, 6, 4, 2, 1] (lv' := [(0, .ref (za Y t0)), (1, .int v1), (2, .int r2), (4, .int x11), (5, .int x15)]) rfl ?_
    exact BX12_printsAt_86 hG t0 v1 r2 x11 x15 (-x18) σ1 hw h0
-- TypeWheelTelegraphModel.arrives()V
def wX12_arrives_58 (ln : Nat → Nat) (Q : zS → Prop) (kb0 : Nat → zS → Prop) : Nat → Nat → Int32 → Int32 → Int32 → zS → Prop
  | 0, _, _, _, _, _ => False
  | n + 1, t0, v1, v2, v3, σ => ∃ j1 : Nat, gr σ t0 1 = some j1 ∧ vp_in (19 : Int32) (ln j1) ∧ (((3 * (gi σ j1 (19 : Int32).toNatClampNeg)) ≤ v3 → ((v1 = 0 → wX12_printsAt ln σ t0 v2 (fun σ3 => kb0 t0 σ3)) ∧ (¬ v1 = 0 → ((v1 = 1 → wX12_answers ln σ t0 1 (fun σ5 => kb0 t0 σ5)) ∧ (¬ v1 = 1 → ((v1 = 2 → wX12_answers ln σ t0 0 (fun σ7 => kb0 t0 σ7)) ∧ (¬ v1 = 2 → wX12_breaks ln σ t0 (fun σ9 => kb0 t0 σ9)))))))) ∧ (¬ (3 * (gi σ j1 (19 : Int32).toNatClampNeg)) ≤ v3 → ∃ j10 : Nat, gr σ t0 1 = some j10 ∧ ∃ j11 : Nat, gr σ t0 1 = some j11 ∧ ∀ x12 : Int32, x12 = (2963 + v3) + 3 → vp_in x12 (ln j11) ∧ ∀ x14 : Int32, x14 = gi σ j11 x12.toNatClampNeg → ∀ x15 : Int32, x15 = 2963 + v3 → vp_in x15 (ln j10) ∧ ∀ σ17 : zS, σ17 = si σ j10 x15.toNatClampNeg x14 → ∀ x18 : Int32, x18 = v3 + 1 → (wX12_arrives_58 ln Q kb0 n) t0 v1 v2 x18 σ17))
def wX12_arrives_0 (ln : Nat → Nat) (Q : zS → Prop) : Nat → Nat → zS → Prop
  | 0, _, _ => False
  | n + 1, t0, σ => ∃ j1 : Nat, gr σ t0 1 = some j1 ∧ vp_in (19 : Int32) (ln j1) ∧ (((gi σ j1 (19 : Int32).toNatClampNeg) ≤ 0 → Q σ) ∧ (¬ (gi σ j1 (19 : Int32).toNatClampNeg) ≤ 0 → ∃ j3 : Nat, gr σ t0 1 = some j3 ∧ vp_in (2963 : Int32) (ln j3) ∧ ∃ j5 : Nat, gr σ t0 1 = some j5 ∧ vp_in (5 : Int32) (ln j5) ∧ (((gi σ j3 (2963 : Int32).toNatClampNeg) = (gi σ j5 (5 : Int32).toNatClampNeg) → ∃ j7 : Nat, gr σ t0 1 = some j7 ∧ vp_in (2964 : Int32) (ln j7) ∧ ∀ x9 : Int32, x9 = gi σ j7 (2964 : Int32).toNatClampNeg → ∃ j10 : Nat, gr σ t0 1 = some j10 ∧ vp_in (2965 : Int32) (ln j10) ∧ ∀ x12 : Int32, x12 = gi σ j10 (2965 : Int32).toNatClampNeg → ∃ j13 : Nat, gr σ t0 1 = some j13 ∧ vp_in (19 : Int32) (ln j13) ∧ ∀ x15 : Int32, x15 = (gi σ j13 (19 : Int32).toNatClampNeg) - 1 → vp_in (19 : Int32) (ln j13) ∧ ∀ σ17 : zS, σ17 = si σ j13 (19 : Int32).toNatClampNeg x15 → ∃ n18 : Nat, wX12_arrives_58 ln Q (wX12_arrives_0 ln Q n) n18 t0 x9 x12 0 σ17) ∧ (¬ (gi σ j3 (2963 : Int32).toNatClampNeg) = (gi σ j5 (5 : Int32).toNatClampNeg) → Q σ))))
def wX12_arrives (ln : Nat → Nat) (σ : zS) (t0 : Nat) (Q : zS → Prop) : Prop := ∃ n1 : Nat, wX12_arrives_0 ln Q n1 t0 σ
abbrev rX12_arrives : Room := { frames := 7, cells := 0, slots := 0, locals := 156 }
set_option maxRecDepth 100000 in
set_option maxHeartbeats 4000000 in
theorem BX12_arrives_58 {l : Launch} {E : zE} {Y : zY} {p : Program} {e : Env} {s : State} {m : MethodId} {args : Array Value} {below : List Frame} {meth : Method} {c : Code} (hG : zG E p l s m args meth c cX12_arrives 4 RX12 none (zA Y s.heap.size)) {Q : zS → Prop} {kb0 : Nat → zS → Prop} (hkb0 : ∀ (t0 : Nat) (σ : zS), kb0 t0 σ → zT Y 12 t0 → WW E Y σ p l e rX12_arrives s m args below meth c (zA Y s.heap.size) 4 0 0 (MQ below (va_Qv Q (zB E Y s.heap.size) (zA Y s.heap.size)) args s 0 0 (zA Y s.heap.size)) [(0, .ref (za Y t0))] 0 []) : ∀ (n : Nat) (t0 : Nat) (v1 : Int32) (v2 : Int32) (v3 : Int32) (σ : zS), wX12_arrives_58 (zln Y) Q kb0 n t0 v1 v2 v3 σ → zT Y 12 t0 → WW E Y σ p l e rX12_arrives s m args below meth c (zA Y s.heap.size) 4 0 0 (MQ below (va_Qv Q (zB E Y s.heap.size) (zA Y s.heap.size)) args s 0 0 (zA Y s.heap.size)) [(0, .ref (za Y t0)), (1, .int v1), (2, .int v2), (3, .int v3)] 58 [] := by
  intro n
  induction n with
  | zero => intro t0 v1 v2 v3 σ hw
            exact hw.elim
  | succ n ih =>
    intro t0 v1 v2 v3 σ hw h0
    rw [wX12_arrives_58] at hw
    refine z_iload_n hG dX12_arrives_58 rfl 3 rfl ?_
    refine z_iconst (v := 3) hG dX12_arrives_59 (by decide) ?_
    refine z_aload_n hG dX12_arrives_60 rfl 0 rfl ?_
    obtain ⟨j1, ej1, hw⟩ := hw
    refine z_getr (kq := 20) hG f_X12_7 h0 rfl ej1 rfl (by decide) dX12_arrives_61 (fun hj1 => ?_)
    refine z_bipush (v := 19) hG dX12_arrives_64 (by decide) ?_
    obtain ⟨q2, hw⟩ := hw
    refine z_iald hG hj1 q2 dX12_arrives_66 ?_
    refine z_imul hG dX12_arrives_67 ?_
    refine z_icmp_ge (tgt := 99) hG dX12_arrives_68 (by decide) (fun c19 => ?_) (fun c19 => ?_)
    · have hw := hw.1 c19
      refine z_iload_n hG dX12_arrives_99 rfl 1 rfl ?_
      by_cases c4 : v1 = 0
      · have hw := hw.1 c4
        refine z_tsw hG dX12_arrives_100 (tgt := 128) (by rw [c4]; decide +kernel) (by rw [c4]; decide +kernel) (off := 28) (by rw [c4]; decide +kernel) (by decide) ?_
        refine z_aload_n hG dX12_arrives_128 rfl 0 rfl ?_
        refine z_iload_n hG dX12_arrives_129 rfl 2 rfl ?_
        refine z_callv hG (z_runV (As := [.int v2]) (st := []) hG k_X12_148 (MX12_printsAt l h0 hw) ⟨(Nat.le_of_ble_eq_true rfl), (Nat.le_of_ble_eq_true rfl)⟩ h0 (T := TX12) (N := 23) rfl (by decide) rfl (Nat.le_of_ble_eq_true rfl) dX12_arrives_130 ⟨Nat.zero_le _, Nat.zero_le _⟩ rfl) (fun σ3 hw => ?_)
        refine z_goto (tgt := 156) hG dX12_arrives_133 (by decide) ?_
        refine z_goto (tgt := 0) hG dX12_arrives_156 (by decide) ?_
        refine zpick [0] (lv' := [(0, .ref (za Y t0))]) rfl ?_
        exact hkb0 t0 σ3 hw h0
      have hw := hw.2 c4
      by_cases c6 : v1 = 1
      · have hw := hw.1 c6
        refine z_tsw hG dX12_arrives_100 (tgt := 136) (by rw [c6]; decide +kernel) (by rw [c6]; decide +kernel) (off := 36) (by rw [c6]; decide +kernel) (by decide) ?_
        refine z_aload_n hG dX12_arrives_136 rfl 0 rfl ?_
        refine z_iconst (v := 1) hG dX12_arrives_137 (by decide) ?_
        refine z_callv hG (z_runV (As := [.int 1]) (st := []) hG k_X12_151 (MX12_answers l h0 hw) ⟨(Nat.le_of_ble_eq_true rfl), (Nat.le_of_ble_eq_true rfl)⟩ h0 (T := TX12) (N := 23) rfl (by decide) rfl (Nat.le_of_ble_eq_true rfl) dX12_arrives_138 ⟨Nat.zero_le _, Nat.zero_le _⟩ rfl) (fun σ5 hw => ?_)
        refine z_goto (tgt := 156) hG dX12_arrives_141 (by decide) ?_
        refine z_goto (tgt := 0) hG dX12_arrives_156 (by decide) ?_
        refine zpick [0] (lv' := [(0, .ref (za Y t0))]) rfl ?_
        exact hkb0 t0 σ5 hw h0
      have hw := hw.2 c6
      by_cases c8 : v1 = 2
      · have hw := hw.1 c8
        refine z_tsw hG dX12_arrives_100 (tgt := 144) (by rw [c8]; decide +kernel) (by rw [c8]; decide +kernel) (off := 44) (by rw [c8]; decide +kernel) (by decide) ?_
        refine z_aload_n hG dX12_arrives_144 rfl 0 rfl ?_
        refine z_iconst (v := 0) hG dX12_arrives_145 (by decide) ?_
        refine z_callv hG (z_runV (As := [.int 0]) (st := []) hG k_X12_151 (MX12_answers l h0 hw) ⟨(Nat.le_of_ble_eq_true rfl), (Nat.le_of_ble_eq_true rfl)⟩ h0 (T := TX12) (N := 23) rfl (by decide) rfl (Nat.le_of_ble_eq_true rfl) dX12_arrives_146 ⟨Nat.zero_le _, Nat.zero_le _⟩ rfl) (fun σ7 hw => ?_)
        refine z_goto (tgt := 156) hG dX12_arrives_149 (by decide) ?_
        refine z_goto (tgt := 0) hG dX12_arrives_156 (by decide) ?_
        refine zpick [0] (lv' := [(0, .ref (za Y t0))]) rfl ?_
        exact hkb0 t0 σ7 hw h0
      have hw := hw.2 c8
      refine z_tswD hG dX12_arrives_100 (tgt := 152) (z_out3 ‹¬ v1 = 0› ‹¬ v1 = 1› ‹¬ v1 = 2›) (by decide) ?_
      refine z_aload_n hG dX12_arrives_152 rfl 0 rfl ?_
      refine z_callv hG (z_runV (As := []) (st := []) hG k_X12_155 (MX12_breaks l h0 hw) ⟨(Nat.le_of_ble_eq_true rfl), (Nat.le_of_ble_eq_true rfl)⟩ h0 (T := TX12) (N := 23) rfl (by decide) rfl (Nat.le_of_ble_eq_true rfl) dX12_arrives_153 ⟨Nat.zero_le _, Nat.zero_le _⟩ rfl) (fun σ9 hw => ?_)
      refine z_goto (tgt := 0) hG dX12_arrives_156 (by decide) ?_
      refine zpick [0] (lv' := [(0, .ref (za Y t0))]) rfl ?_
      exact hkb0 t0 σ9 hw h0
    · have hw := hw.2 c19
      refine z_aload_n hG dX12_arrives_71 rfl 0 rfl ?_
      obtain ⟨j10, ej10, hw⟩ := hw
      refine z_getr (kq := 20) hG f_X12_7 h0 rfl ej10 rfl (by decide) dX12_arrives_72 (fun hj10 => ?_)
      refine z_sipush (v := 2963) hG dX12_arrives_75 (by decide) ?_
      refine z_iload_n hG dX12_arrives_78 rfl 3 rfl ?_
      refine z_iadd hG dX12_arrives_79 ?_
      refine z_aload_n hG dX12_arrives_80 rfl 0 rfl ?_
      obtain ⟨j11, ej11, hw⟩ := hw
      refine z_getr (kq := 20) hG f_X12_7 h0 rfl ej11 rfl (by decide) dX12_arrives_81 (fun hj11 => ?_)
      refine z_sipush (v := 2963) hG dX12_arrives_84 (by decide) ?_
      refine z_iload_n hG dX12_arrives_87 rfl 3 rfl ?_
      refine z_iadd hG dX12_arrives_88 ?_
      refine z_iconst (v := 3) hG dX12_arrives_89 (by decide) ?_
      refine z_iadd hG dX12_arrives_90 ?_
      refine z_topi (fun x12 ex12 => ?_)
      have hw := hw x12 ex12
      obtain ⟨q13, hw⟩ := hw
      refine z_iald hG hj11 q13 dX12_arrives_91 ?_
      refine z_topi (fun x14 ex14 => ?_)
      have hw := hw x14 ex14
      obtain ⟨x15, ex15⟩ : ∃ y : Int32, y = 2963 + v3 := ⟨_, rfl⟩
      refine zst (st' := [.int x14, .int x15, .ref (za Y j10)]) (by rw [ex15]) ?_
      have hw := hw x15 ex15
      obtain ⟨q16, hw⟩ := hw
      refine z_iast hG hj10 q16 dX12_arrives_92 ?_
      refine z_topσ (fun σ17 eσ17 => ?_)
      have hw := hw σ17 eσ17
      obtain ⟨x18, ex18⟩ : ∃ y : Int32, y = v3 + 1 := ⟨_, rfl⟩
      have hw := hw x18 ex18
      refine z_iinc (v := x18) (lv' := [(3, .int x18), (0, .ref (za Y t0)), (1, .int v1), (2, .int v2)]) hG dX12_arrives_93 3 rfl (by rw [ex18]; rfl) (by decide) rfl ?_
      refine z_goto (tgt := 58) hG dX12_arrives_96 (by decide) ?_
      refine zpick [1, 2, 3, 0] (lv' := [(0, .ref (za Y t0)), (1, .int v1), (2, .int v2), (3, .int x18)]) rfl ?_
      exact ih t0 v1 v2 x18 σ17 hw h0
set_option maxRecDepth 100000 in
set_option maxHeartbeats 4000000 in
theorem BX12_arrives_0 {l : Launch} {E : zE} {Y : zY} {p : Program} {e : Env} {s : State} {m : MethodId} {args : Array Value} {below : List Frame} {meth : Method} {c : Code} (hG : zG E p l s m args meth c cX12_arrives 4 RX12 none (zA Y s.heap.size)) {Q : zS → Prop} : ∀ (n : Nat) (t0 : Nat) (σ : zS), wX12_arrives_0 (zln Y) Q n t0 σ → zT Y 12 t0 → WW E Y σ p l e rX12_arrives s m args below meth c (zA Y s.heap.size) 4 0 0 (MQ below (va_Qv Q (zB E Y s.heap.size) (zA Y s.heap.size)) args s 0 0 (zA Y s.heap.size)) [(0, .ref (za Y t0))] 0 [] := by
  intro n
  induction n with
  | zero => intro t0 σ hw
            exact hw.elim
  | succ n ih =>
    intro t0 σ hw h0
    rw [wX12_arrives_0] at hw
    refine z_aload_n hG dX12_arrives_0 rfl 0 rfl ?_
    obtain ⟨j1, ej1, hw⟩ := hw
    refine z_getr (kq := 20) hG f_X12_7 h0 rfl ej1 rfl (by decide) dX12_arrives_1 (fun hj1 => ?_)
    refine z_bipush (v := 19) hG dX12_arrives_4 (by decide) ?_
    obtain ⟨q2, hw⟩ := hw
    refine z_iald hG hj1 q2 dX12_arrives_6 ?_
    refine z_if_le (tgt := 159) hG dX12_arrives_7 (by decide) (fun c20 => ?_) (fun c20 => ?_)
    · have hw := hw.1 c20
      exact z_vret hG rfl dX12_arrives_159 hw
    · have hw := hw.2 c20
      refine z_aload_n hG dX12_arrives_10 rfl 0 rfl ?_
      obtain ⟨j3, ej3, hw⟩ := hw
      refine z_getr (kq := 20) hG f_X12_7 h0 rfl ej3 rfl (by decide) dX12_arrives_11 (fun hj3 => ?_)
      refine z_sipush (v := 2963) hG dX12_arrives_14 (by decide) ?_
      obtain ⟨q4, hw⟩ := hw
      refine z_iald hG hj3 q4 dX12_arrives_17 ?_
      refine z_aload_n hG dX12_arrives_18 rfl 0 rfl ?_
      obtain ⟨j5, ej5, hw⟩ := hw
      refine z_getr (kq := 20) hG f_X12_7 h0 rfl ej5 rfl (by decide) dX12_arrives_19 (fun hj5 => ?_)
      refine z_iconst (v := 5) hG dX12_arrives_22 (by decide) ?_
      obtain ⟨q6, hw⟩ := hw
      refine z_iald hG hj5 q6 dX12_arrives_23 ?_
      refine z_icmp_ne (tgt := 159) hG dX12_arrives_24 (by decide) (fun c19 => ?_) (fun c19 => ?_)
      · have hw := hw.2 c19
        exact z_vret hG rfl dX12_arrives_159 hw
      · have hw := hw.1 c19
        refine z_aload_n hG dX12_arrives_27 rfl 0 rfl ?_
        obtain ⟨j7, ej7, hw⟩ := hw
        refine z_getr (kq := 20) hG f_X12_7 h0 rfl ej7 rfl (by decide) dX12_arrives_28 (fun hj7 => ?_)
        refine z_sipush (v := 2964) hG dX12_arrives_31 (by decide) ?_
        obtain ⟨q8, hw⟩ := hw
        refine z_iald hG hj7 q8 dX12_arrives_34 ?_
        refine z_topi (fun x9 ex9 => ?_)
        have hw := hw x9 ex9
        refine z_istore_n (lv' := [(1, .int x9), (0, .ref (za Y t0))]) hG dX12_arrives_35 rfl (by decide) rfl ?_
        refine z_aload_n hG dX12_arrives_36 rfl 1 rfl ?_
        obtain ⟨j10, ej10, hw⟩ := hw
        refine z_getr (kq := 20) hG f_X12_7 h0 rfl ej10 rfl (by decide) dX12_arrives_37 (fun hj10 => ?_)
        refine z_sipush (v := 2965) hG dX12_arrives_40 (by decide) ?_
        obtain ⟨q11, hw⟩ := hw
        refine z_iald hG hj10 q11 dX12_arrives_43 ?_
        refine z_topi (fun x12 ex12 => ?_)
        have hw := hw x12 ex12
        refine z_istore_n (lv' := [(2, .int x12), (1, .int x9), (0, .ref (za Y t0))]) hG dX12_arrives_44 rfl (by decide) rfl ?_
        refine z_aload_n hG dX12_arrives_45 rfl 2 rfl ?_
        obtain ⟨j13, ej13, hw⟩ := hw
        refine z_getr (kq := 20) hG f_X12_7 h0 rfl ej13 rfl (by decide) dX12_arrives_46 (fun hj13 => ?_)
        refine z_bipush (v := 19) hG dX12_arrives_49 (by decide) ?_
        refine z_dup2 hG dX12_arrives_51 rfl rfl ?_
        obtain ⟨q14, hw⟩ := hw
        refine z_iald hG hj13 q14 dX12_arrives_52 ?_
        refine z_iconst (v := 1) hG dX12_arrives_53 (by decide) ?_
        refine z_isub hG dX12_arrives_54 ?_
        refine z_topi (fun x15 ex15 => ?_)
        have hw := hw x15 ex15
        obtain ⟨q16, hw⟩ := hw
        refine z_iast hG hj13 q16 dX12_arrives_55 ?_
        refine z_topσ (fun σ17 eσ17 => ?_)
        have hw := hw σ17 eσ17
        refine z_iconst (v := 0) hG dX12_arrives_56 (by decide) ?_
        refine z_istore_n (lv' := [(3, .int 0), (2, .int x12), (1, .int x9), (0, .ref (za Y t0))]) hG dX12_arrives_57 rfl (by decide) rfl ?_
        obtain ⟨n18, hw⟩ := hw
        refine zpick [3, 2, 1, 0] (lv' := [(0, .ref (za Y t0)), (1, .int x9), (2, .int x12), (3, .int 0)]) rfl ?_
        exact BX12_arrives_58 hG ih n18 t0 x9 x12 0 σ17 hw h0
set_option maxRecDepth 100000 in
set_option maxHeartbeats 4000000 in
theorem MX12_arrives (l : Launch) {E : zE} {Y : zY} {σ : zS} {t0 : Nat} (h0 : zT Y 12 t0) {Q : zS → Prop} (hw : wX12_arrives (zln Y) σ t0 Q) : ∀ sz, Met l yX12_arrives (zw yX12_arrives cX12_arrives 4 none) rX12_arrives (zPc E Y σ sz [.ref (za Y t0)]) (va_Qv Q (zB E Y sz) (zA Y sz)) 0 0 (zA Y sz) := by
  refine z_met (own := RX12) (Qc := fun sz => va_Qv Q (zB E Y sz) (zA Y sz)) (by decide +kernel) rfl (Nat.le_of_ble_eq_true rfl) ?_
  intro p e s m args below meth c hG hinit
  unfold wX12_arrives at hw
  refine zlv (lv' := [(0, .ref (za Y t0))]) rfl ?_
  obtain ⟨n1, hw⟩ := hw
  refine zpick [0] (lv' := [(0, .ref (za Y t0))]) rfl ?_
  exact BX12_arrives_0 hG n1 t0 σ hw h0
-- TypeWheelTelegraphModel.ticks()V
def wX12_ticks_103 (ln : Nat → Nat) (Q : zS → Prop) (t0 : Nat) (σ : zS) : Prop := wX12_isSender ln σ t0 (fun r2 σ1 => ((r2 = 0 → Q σ1) ∧ (¬ r2 = 0 → ∃ j3 : Nat, gr σ1 t0 1 = some j3 ∧ vp_in (5 : Int32) (ln j3) ∧ ∃ j5 : Nat, gr σ1 t0 1 = some j5 ∧ vp_in (15 : Int32) (ln j5) ∧ ∃ j7 : Nat, gr σ1 t0 1 = some j7 ∧ vp_in (3 : Int32) (ln j7) ∧ ((((gi σ1 j3 (5 : Int32).toNatClampNeg) - (gi σ1 j5 (15 : Int32).toNatClampNeg)) < (gi σ1 j7 (3 : Int32).toNatClampNeg) → Q σ1) ∧ (¬ ((gi σ1 j3 (5 : Int32).toNatClampNeg) - (gi σ1 j5 (15 : Int32).toNatClampNeg)) < (gi σ1 j7 (3 : Int32).toNatClampNeg) → wX12_clears ln σ1 t0 (fun σ9 => Q σ9))))))
def wX12_ticks_12 (ln : Nat → Nat) (Q : zS → Prop) : Nat → Nat → Int32 → zS → Prop
  | 0, _, _, _ => False
  | n + 1, t0, v1, σ => ((2 ≤ v1 → wX12_arrives ln σ t0 (fun σ1 => wX12_looksForNext ln σ1 t0 (fun σ2 => wX12_isSender ln σ2 t0 (fun r4 σ3 => ((r4 = 0 → wX12_ticks_103 ln Q t0 σ3) ∧ (¬ r4 = 0 → ∃ j5 : Nat, gr σ3 t0 1 = some j5 ∧ vp_in (7 : Int32) (ln j5) ∧ (((gi σ3 j5 (7 : Int32).toNatClampNeg) = 1 → ∃ j7 : Nat, gr σ3 t0 1 = some j7 ∧ vp_in (5 : Int32) (ln j7) ∧ ∃ j9 : Nat, gr σ3 t0 1 = some j9 ∧ vp_in (8 : Int32) (ln j9) ∧ (((gi σ3 j7 (5 : Int32).toNatClampNeg) < (gi σ3 j9 (8 : Int32).toNatClampNeg) → wX12_ticks_103 ln Q t0 σ3) ∧ (¬ (gi σ3 j7 (5 : Int32).toNatClampNeg) < (gi σ3 j9 (8 : Int32).toNatClampNeg) → wX12_lineFailed ln σ3 t0 (fun σ11 => wX12_ticks_103 ln Q t0 σ11)))) ∧ (¬ (gi σ3 j5 (7 : Int32).toNatClampNeg) = 1 → wX12_ticks_103 ln Q t0 σ3)))))))) ∧ (¬ 2 ≤ v1 → ∃ j15 : Nat, gr σ t0 1 = some j15 ∧ ∃ j16 : Nat, gr σ t0 1 = some j16 ∧ ∀ x17 : Int32, x17 = 21 + v1 → vp_in x17 (ln j16) ∧ ∃ j19 : Nat, gr σ t0 1 = some j19 ∧ ∀ x20 : Int32, x20 = 23 + v1 → vp_in x20 (ln j19) ∧ ∀ x22 : Int64, x22 = ((gi σ j16 x17.toNatClampNeg).toInt64) + ((gi σ j19 x20.toNatClampNeg).toInt64) → wX12_within ln σ t0 x22 (fun r24 σ23 => ∀ x25 : Int32, x25 = 21 + v1 → vp_in x25 (ln j15) ∧ ∀ σ27 : zS, σ27 = si σ23 j15 x25.toNatClampNeg r24 → ∀ x28 : Int32, x28 = v1 + 1 → (wX12_ticks_12 ln Q n) t0 x28 σ27)))
def wX12_ticks (ln : Nat → Nat) (σ : zS) (t0 : Nat) (Q : zS → Prop) : Prop := ∃ j1 : Nat, gr σ t0 1 = some j1 ∧ vp_in (5 : Int32) (ln j1) ∧ ∀ x3 : Int32, x3 = (gi σ j1 (5 : Int32).toNatClampNeg) + 1 → vp_in (5 : Int32) (ln j1) ∧ ∀ σ5 : zS, σ5 = si σ j1 (5 : Int32).toNatClampNeg x3 → ∃ n6 : Nat, wX12_ticks_12 ln Q n6 t0 0 σ5
abbrev rX12_ticks : Room := { frames := 8, cells := 0, slots := 0, locals := 179 }
set_option maxRecDepth 100000 in
set_option maxHeartbeats 4000000 in
theorem BX12_ticks_103 {l : Launch} {E : zE} {Y : zY} {p : Program} {e : Env} {s : State} {m : MethodId} {args : Array Value} {below : List Frame} {meth : Method} {c : Code} (hG : zG E p l s m args meth c cX12_ticks 2 RX12 none (zA Y s.heap.size)) {Q : zS → Prop} : ∀ (t0 : Nat) (σ : zS), wX12_ticks_103 (zln Y) Q t0 σ → zT Y 12 t0 → WW E Y σ p l e rX12_ticks s m args below meth c (zA Y s.heap.size) 2 0 0 (MQ below (va_Qv Q (zB E Y s.heap.size) (zA Y s.heap.size)) args s 0 0 (zA Y s.heap.size)) [(0, .ref (za Y t0))] 103 [] := by
  intro t0 σ hw h0
  unfold wX12_ticks_103 at hw
  refine z_aload_n hG dX12_ticks_103 rfl 0 rfl ?_
  refine z_calli hG (z_runV (As := []) (st := []) hG k_X12_158 (MX12_isSender l h0 hw) ⟨(Nat.le_of_ble_eq_true rfl), (Nat.le_of_ble_eq_true rfl)⟩ h0 (T := TX12) (N := 23) rfl (by decide) rfl (Nat.le_of_ble_eq_true rfl) dX12_ticks_104 ⟨Nat.zero_le _, Nat.zero_le _⟩ rfl) (fun r2 σ1 hw => ?_)
  refine z_if_eq (tgt := 137) hG dX12_ticks_107 (by decide) (fun c11 => ?_) (fun c11 => ?_)
  · have hw := hw.1 c11
    exact z_vret hG rfl dX12_ticks_137 hw
  · have hw := hw.2 c11
    refine z_aload_n hG dX12_ticks_110 rfl 0 rfl ?_
    obtain ⟨j3, ej3, hw⟩ := hw
    refine z_getr (kq := 20) hG f_X12_7 h0 rfl ej3 rfl (by decide) dX12_ticks_111 (fun hj3 => ?_)
    refine z_iconst (v := 5) hG dX12_ticks_114 (by decide) ?_
    obtain ⟨q4, hw⟩ := hw
    refine z_iald hG hj3 q4 dX12_ticks_115 ?_
    refine z_aload_n hG dX12_ticks_116 rfl 0 rfl ?_
    obtain ⟨j5, ej5, hw⟩ := hw
    refine z_getr (kq := 20) hG f_X12_7 h0 rfl ej5 rfl (by decide) dX12_ticks_117 (fun hj5 => ?_)
    refine z_bipush (v := 15) hG dX12_ticks_120 (by decide) ?_
    obtain ⟨q6, hw⟩ := hw
    refine z_iald hG hj5 q6 dX12_ticks_122 ?_
    refine z_isub hG dX12_ticks_123 ?_
    refine z_aload_n hG dX12_ticks_124 rfl 0 rfl ?_
    obtain ⟨j7, ej7, hw⟩ := hw
    refine z_getr (kq := 20) hG f_X12_7 h0 rfl ej7 rfl (by decide) dX12_ticks_125 (fun hj7 => ?_)
    refine z_iconst (v := 3) hG dX12_ticks_128 (by decide) ?_
    obtain ⟨q8, hw⟩ := hw
    refine z_iald hG hj7 q8 dX12_ticks_129 ?_
    refine z_icmp_lt (tgt := 137) hG dX12_ticks_130 (by decide) (fun c10 => ?_) (fun c10 => ?_)
    · have hw := hw.1 c10
      exact z_vret hG rfl dX12_ticks_137 hw
    · have hw := hw.2 c10
      refine z_aload_n hG dX12_ticks_133 rfl 0 rfl ?_
      refine z_callv hG (z_runV (As := []) (st := []) hG k_X12_102 (MX12_clears l h0 hw) ⟨(Nat.le_of_ble_eq_true rfl), (Nat.le_of_ble_eq_true rfl)⟩ h0 (T := TX12) (N := 23) rfl (by decide) rfl (Nat.le_of_ble_eq_true rfl) dX12_ticks_134 ⟨Nat.zero_le _, Nat.zero_le _⟩ rfl) (fun σ9 hw => ?_)
      exact z_vret hG rfl dX12_ticks_137 hw
set_option maxRecDepth 100000 in
set_option maxHeartbeats 4000000 in
theorem BX12_ticks_12 {l : Launch} {E : zE} {Y : zY} {p : Program} {e : Env} {s : State} {m : MethodId} {args : Array Value} {below : List Frame} {meth : Method} {c : Code} (hG : zG E p l s m args meth c cX12_ticks 2 RX12 none (zA Y s.heap.size)) {Q : zS → Prop} : ∀ (n : Nat) (t0 : Nat) (v1 : Int32) (σ : zS), wX12_ticks_12 (zln Y) Q n t0 v1 σ → zT Y 12 t0 → WW E Y σ p l e rX12_ticks s m args below meth c (zA Y s.heap.size) 2 0 0 (MQ below (va_Qv Q (zB E Y s.heap.size) (zA Y s.heap.size)) args s 0 0 (zA Y s.heap.size)) [(0, .ref (za Y t0)), (1, .int v1)] 12 [] := by
  intro n
  induction n with
  | zero => intro t0 v1 σ hw
            exact hw.elim
  | succ n ih =>
    intro t0 v1 σ hw h0
    rw [wX12_ticks_12] at hw
    refine z_iload_n hG dX12_ticks_12 rfl 1 rfl ?_
    refine z_iconst (v := 2) hG dX12_ticks_13 (by decide) ?_
    refine z_icmp_ge (tgt := 57) hG dX12_ticks_14 (by decide) (fun c29 => ?_) (fun c29 => ?_)
    · have hw := hw.1 c29
      refine z_aload_n hG dX12_ticks_57 rfl 0 rfl ?_
      refine z_callv hG (z_runV (As := []) (st := []) hG k_X12_168 (MX12_arrives l h0 hw) ⟨(Nat.le_of_ble_eq_true rfl), (Nat.le_of_ble_eq_true rfl)⟩ h0 (T := TX12) (N := 23) rfl (by decide) rfl (Nat.le_of_ble_eq_true rfl) dX12_ticks_58 ⟨Nat.zero_le _, Nat.zero_le _⟩ rfl) (fun σ1 hw => ?_)
      refine z_aload_n hG dX12_ticks_61 rfl 0 rfl ?_
      refine z_callv hG (z_runV (As := []) (st := []) hG k_X12_171 (MX12_looksForNext l h0 hw) ⟨(Nat.le_of_ble_eq_true rfl), (Nat.le_of_ble_eq_true rfl)⟩ h0 (T := TX12) (N := 23) rfl (by decide) rfl (Nat.le_of_ble_eq_true rfl) dX12_ticks_62 ⟨Nat.zero_le _, Nat.zero_le _⟩ rfl) (fun σ2 hw => ?_)
      refine z_aload_n hG dX12_ticks_65 rfl 0 rfl ?_
      refine z_calli hG (z_runV (As := []) (st := []) hG k_X12_158 (MX12_isSender l h0 hw) ⟨(Nat.le_of_ble_eq_true rfl), (Nat.le_of_ble_eq_true rfl)⟩ h0 (T := TX12) (N := 23) rfl (by decide) rfl (Nat.le_of_ble_eq_true rfl) dX12_ticks_66 ⟨Nat.zero_le _, Nat.zero_le _⟩ rfl) (fun r4 σ3 hw => ?_)
      refine z_if_eq (tgt := 103) hG dX12_ticks_69 (by decide) (fun c14 => ?_) (fun c14 => ?_)
      · have hw := hw.1 c14
        refine zpick [0] (lv' := [(0, .ref (za Y t0))]) rfl ?_
        exact BX12_ticks_103 hG t0 σ3 hw h0
      · have hw := hw.2 c14
        refine z_aload_n hG dX12_ticks_72 rfl 0 rfl ?_
        obtain ⟨j5, ej5, hw⟩ := hw
        refine z_getr (kq := 20) hG f_X12_7 h0 rfl ej5 rfl (by decide) dX12_ticks_73 (fun hj5 => ?_)
        refine z_bipush (v := 7) hG dX12_ticks_76 (by decide) ?_
        obtain ⟨q6, hw⟩ := hw
        refine z_iald hG hj5 q6 dX12_ticks_78 ?_
        refine z_iconst (v := 1) hG dX12_ticks_79 (by decide) ?_
        refine z_icmp_ne (tgt := 103) hG dX12_ticks_80 (by decide) (fun c13 => ?_) (fun c13 => ?_)
        · have hw := hw.2 c13
          refine zpick [0] (lv' := [(0, .ref (za Y t0))]) rfl ?_
          exact BX12_ticks_103 hG t0 σ3 hw h0
        · have hw := hw.1 c13
          refine z_aload_n hG dX12_ticks_83 rfl 0 rfl ?_
          obtain ⟨j7, ej7, hw⟩ := hw
          refine z_getr (kq := 20) hG f_X12_7 h0 rfl ej7 rfl (by decide) dX12_ticks_84 (fun hj7 => ?_)
          refine z_iconst (v := 5) hG dX12_ticks_87 (by decide) ?_
          obtain ⟨q8, hw⟩ := hw
          refine z_iald hG hj7 q8 dX12_ticks_88 ?_
          refine z_aload_n hG dX12_ticks_89 rfl 0 rfl ?_
          obtain ⟨j9, ej9, hw⟩ := hw
          refine z_getr (kq := 20) hG f_X12_7 h0 rfl ej9 rfl (by decide) dX12_ticks_90 (fun hj9 => ?_)
          refine z_bipush (v := 8) hG dX12_ticks_93 (by decide) ?_
          obtain ⟨q10, hw⟩ := hw
          refine z_iald hG hj9 q10 dX12_ticks_95 ?_
          refine z_icmp_lt (tgt := 103) hG dX12_ticks_96 (by decide) (fun c12 => ?_) (fun c12 => ?_)
          · have hw := hw.1 c12
            refine zpick [0] (lv' := [(0, .ref (za Y t0))]) rfl ?_
            exact BX12_ticks_103 hG t0 σ3 hw h0
          · have hw := hw.2 c12
            refine z_aload_n hG dX12_ticks_99 rfl 0 rfl ?_
            refine z_callv hG (z_runV (As := []) (st := []) hG k_X12_145 (MX12_lineFailed l h0 hw) ⟨(Nat.le_of_ble_eq_true rfl), (Nat.le_of_ble_eq_true rfl)⟩ h0 (T := TX12) (N := 23) rfl (by decide) rfl (Nat.le_of_ble_eq_true rfl) dX12_ticks_100 ⟨Nat.zero_le _, Nat.zero_le _⟩ rfl) (fun σ11 hw => ?_)
            refine zpick [0] (lv' := [(0, .ref (za Y t0))]) rfl ?_
            exact BX12_ticks_103 hG t0 σ11 hw h0
    · have hw := hw.2 c29
      refine z_aload_n hG dX12_ticks_17 rfl 0 rfl ?_
      obtain ⟨j15, ej15, hw⟩ := hw
      refine z_getr (kq := 20) hG f_X12_7 h0 rfl ej15 rfl (by decide) dX12_ticks_18 (fun hj15 => ?_)
      refine z_bipush (v := 21) hG dX12_ticks_21 (by decide) ?_
      refine z_iload_n hG dX12_ticks_23 rfl 1 rfl ?_
      refine z_iadd hG dX12_ticks_24 ?_
      refine z_aload_n hG dX12_ticks_25 rfl 0 rfl ?_
      refine z_aload_n hG dX12_ticks_26 rfl 0 rfl ?_
      obtain ⟨j16, ej16, hw⟩ := hw
      refine z_getr (kq := 20) hG f_X12_7 h0 rfl ej16 rfl (by decide) dX12_ticks_27 (fun hj16 => ?_)
      refine z_bipush (v := 21) hG dX12_ticks_30 (by decide) ?_
      refine z_iload_n hG dX12_ticks_32 rfl 1 rfl ?_
      refine z_iadd hG dX12_ticks_33 ?_
      refine z_topi (fun x17 ex17 => ?_)
      have hw := hw x17 ex17
      obtain ⟨q18, hw⟩ := hw
      refine z_iald hG hj16 q18 dX12_ticks_34 ?_
      refine z_i2l hG dX12_ticks_35 ?_
      refine z_aload_n hG dX12_ticks_36 rfl 0 rfl ?_
      obtain ⟨j19, ej19, hw⟩ := hw
      refine z_getr (kq := 20) hG f_X12_7 h0 rfl ej19 rfl (by decide) dX12_ticks_37 (fun hj19 => ?_)
      refine z_bipush (v := 23) hG dX12_ticks_40 (by decide) ?_
      refine z_iload_n hG dX12_ticks_42 rfl 1 rfl ?_
      refine z_iadd hG dX12_ticks_43 ?_
      refine z_topi (fun x20 ex20 => ?_)
      have hw := hw x20 ex20
      obtain ⟨q21, hw⟩ := hw
      refine z_iald hG hj19 q21 dX12_ticks_44 ?_
      refine z_i2l hG dX12_ticks_45 ?_
      refine z_ladd hG dX12_ticks_46 ?_
      refine z_topl (fun x22 ex22 => ?_)
      have hw := hw x22 ex22
      refine z_calli hG (z_runV (As := [.long x22]) (st := [.int (21 + v1), .ref (za Y j15)]) hG k_X12_94 (MX12_within l h0 hw) ⟨(Nat.le_of_ble_eq_true rfl), (Nat.le_of_ble_eq_true rfl)⟩ h0 (T := TX12) (N := 23) rfl (by decide) rfl (Nat.le_of_ble_eq_true rfl) dX12_ticks_47 ⟨Nat.zero_le _, Nat.zero_le _⟩ rfl) (fun r24 σ23 hw => ?_)
      obtain ⟨x25, ex25⟩ : ∃ y : Int32, y = 21 + v1 := ⟨_, rfl⟩
      refine zst (st' := [.int r24, .int x25, .ref (za Y j15)]) (by rw [ex25]) ?_
      have hw := hw x25 ex25
      obtain ⟨q26, hw⟩ := hw
      refine z_iast hG hj15 q26 dX12_ticks_50 ?_
      refine z_topσ (fun σ27 eσ27 => ?_)
      have hw := hw σ27 eσ27
      obtain ⟨x28, ex28⟩ : ∃ y : Int32, y = v1 + 1 := ⟨_, rfl⟩
      have hw := hw x28 ex28
      refine z_iinc (v := x28) (lv' := [(1, .int x28), (0, .ref (za Y t0))]) hG dX12_ticks_51 1 rfl (by rw [ex28]; rfl) (by decide) rfl ?_
      refine z_goto (tgt := 12) hG dX12_ticks_54 (by decide) ?_
      refine zpick [1, 0] (lv' := [(0, .ref (za Y t0)), (1, .int x28)]) rfl ?_
      exact ih t0 x28 σ27 hw h0
set_option maxRecDepth 100000 in
set_option maxHeartbeats 4000000 in
theorem MX12_ticks (l : Launch) {E : zE} {Y : zY} {σ : zS} {t0 : Nat} (h0 : zT Y 12 t0) {Q : zS → Prop} (hw : wX12_ticks (zln Y) σ t0 Q) : ∀ sz, Met l yX12_ticks (zw yX12_ticks cX12_ticks 2 none) rX12_ticks (zPc E Y σ sz [.ref (za Y t0)]) (va_Qv Q (zB E Y sz) (zA Y sz)) 0 0 (zA Y sz) := by
  refine z_met (own := RX12) (Qc := fun sz => va_Qv Q (zB E Y sz) (zA Y sz)) (by decide +kernel) rfl (Nat.le_of_ble_eq_true rfl) ?_
  intro p e s m args below meth c hG hinit
  unfold wX12_ticks at hw
  refine zlv (lv' := [(0, .ref (za Y t0))]) rfl ?_
  refine z_aload_n hG dX12_ticks_0 rfl 0 rfl ?_
  obtain ⟨j1, ej1, hw⟩ := hw
  refine z_getr (kq := 20) hG f_X12_7 h0 rfl ej1 rfl (by decide) dX12_ticks_1 (fun hj1 => ?_)
  refine z_iconst (v := 5) hG dX12_ticks_4 (by decide) ?_
  refine z_dup2 hG dX12_ticks_5 rfl rfl ?_
  obtain ⟨q2, hw⟩ := hw
  refine z_iald hG hj1 q2 dX12_ticks_6 ?_
  refine z_iconst (v := 1) hG dX12_ticks_7 (by decide) ?_
  refine z_iadd hG dX12_ticks_8 ?_
  refine z_topi (fun x3 ex3 => ?_)
  have hw := hw x3 ex3
  obtain ⟨q4, hw⟩ := hw
  refine z_iast hG hj1 q4 dX12_ticks_9 ?_
  refine z_topσ (fun σ5 eσ5 => ?_)
  have hw := hw σ5 eσ5
  refine z_iconst (v := 0) hG dX12_ticks_10 (by decide) ?_
  refine z_istore_n (lv' := [(1, .int 0), (0, .ref (za Y t0))]) hG dX12_ticks_11 rfl (by decide) rfl ?_
  obtain ⟨n6, hw⟩ := hw
  refine zpick [1, 0] (lv' := [(0, .ref (za Y t0)), (1, .int 0)]) rfl ?_
  exact BX12_ticks_12 hG n6 t0 0 σ5 hw h0
-- TypeWheelTelegraphModel.character(IZ)C
def wX12_character (ln : Nat → Nat) (σ : zS) (t0 : Nat) (v1 : Int32) (v2 : Int32) (Q : Int32 → zS → Prop) : Prop := ∀ σ1 : zS, σ1 = si σ t0 0 0 → ∃ j2 : Nat, gr σ1 t0 1 = some j2 ∧ vp_in (0 : Int32) (ln j2) ∧ ∀ x4 : Int64, x4 = ((gi σ1 j2 (0 : Int32).toNatClampNeg) - 1).toInt64 → ∀ x5 : Int64, x5 = v1.toInt64 → wX12_isIn ln σ1 x5 2 x4 (fun r7 σ6 => ((r7 = 0 → wX12_raise ln σ6 t0 1 (fun r11 σ10 => Q ((r11.toUInt32 % 65536).toInt32) σ10)) ∧ (¬ r7 = 0 → wX12_characterOf ln σ6 t0 v1 v2 (fun r9 σ8 => Q ((r9.toUInt32 % 65536).toInt32) σ8))))
abbrev rX12_character : Room := { frames := 5, cells := 0, slots := 0, locals := 107 }
set_option maxRecDepth 100000 in
set_option maxHeartbeats 4000000 in
theorem MX12_character (l : Launch) {E : zE} {Y : zY} {σ : zS} {t0 : Nat} {v1 : Int32} {v2 : Int32} (h0 : zT Y 12 t0) {Q : Int32 → zS → Prop} (hw : wX12_character (zln Y) σ t0 v1 v2 Q) : ∀ sz, Met l yX12_character (zw yX12_character cX12_character 3 (some .char)) rX12_character (zPc E Y σ sz [.ref (za Y t0), .int v1, .int v2]) (va_Qi Q (zB E Y sz) (zA Y sz)) 0 0 (zA Y sz) := by
  refine z_met (own := RX12) (Qc := fun sz => va_Qi Q (zB E Y sz) (zA Y sz)) (by decide +kernel) rfl (Nat.le_of_ble_eq_true rfl) ?_
  intro p e s m args below meth c hG hinit
  unfold wX12_character at hw
  refine zlv (lv' := [(0, .ref (za Y t0)), (1, .int v1), (2, .int v2)]) rfl ?_
  refine z_aload_n hG dX12_character_0 rfl 0 rfl ?_
  refine z_iconst (v := 0) hG dX12_character_1 (by decide) ?_
  refine z_puti hG f_X12_47 h0 rfl rfl (zN_int _) dX12_character_2 ?_
  refine z_topσ (fun σ1 eσ1 => ?_)
  have hw := hw σ1 eσ1
  refine z_iload_n hG dX12_character_5 rfl 1 rfl ?_
  refine z_i2l hG dX12_character_6 ?_
  refine z_ldc2 (hc := c_X12_180) hG (hd := dX12_character_7) ?_
  refine z_aload_n hG dX12_character_10 rfl 0 rfl ?_
  obtain ⟨j2, ej2, hw⟩ := hw
  refine z_getr (kq := 20) hG f_X12_7 h0 rfl ej2 rfl (by decide) dX12_character_11 (fun hj2 => ?_)
  refine z_iconst (v := 0) hG dX12_character_14 (by decide) ?_
  obtain ⟨q3, hw⟩ := hw
  refine z_iald hG hj2 q3 dX12_character_15 ?_
  refine z_iconst (v := 1) hG dX12_character_16 (by decide) ?_
  refine z_isub hG dX12_character_17 ?_
  refine z_i2l hG dX12_character_18 ?_
  refine z_topl (fun x4 ex4 => ?_)
  have hw := hw x4 ex4
  obtain ⟨x5, ex5⟩ : ∃ y : Int64, y = v1.toInt64 := ⟨_, rfl⟩
  refine zst (st' := [.long x4, .long 2, .long x5]) (by rw [ex5]) ?_
  have hw := hw x5 ex5
  refine z_calli hG (z_runS (As := [.long x5, .long 2, .long x4]) (st := []) hG k_X12_58 (MX12_isIn l hw) ⟨(Nat.le_of_ble_eq_true rfl), (Nat.le_of_ble_eq_true rfl)⟩ rfl (Nat.le_of_ble_eq_true rfl) dX12_character_19 ⟨Nat.zero_le _, Nat.zero_le _⟩ rfl) (fun r7 σ6 hw => ?_)
  refine z_if_ne (tgt := 32) hG dX12_character_22 (by decide) (fun c12 => ?_) (fun c12 => ?_)
  · have hw := hw.2 c12
    refine z_aload_n hG dX12_character_32 rfl 0 rfl ?_
    refine z_iload_n hG dX12_character_33 rfl 1 rfl ?_
    refine z_iload_n hG dX12_character_34 rfl 2 rfl ?_
    refine z_calli hG (z_runV (As := [.int v1, .int v2]) (st := []) hG k_X12_135 (MX12_characterOf l h0 hw) ⟨(Nat.le_of_ble_eq_true rfl), (Nat.le_of_ble_eq_true rfl)⟩ h0 (T := TX12) (N := 23) rfl (by decide) rfl (Nat.le_of_ble_eq_true rfl) dX12_character_35 ⟨Nat.zero_le _, Nat.zero_le _⟩ rfl) (fun r9 σ8 hw => ?_)
    refine z_i2c hG dX12_character_38 ?_
    exact z_iret hG rfl (pk_nc _) dX12_character_39 hw
  · have hw := hw.1 c12
    refine z_aload_n hG dX12_character_25 rfl 0 rfl ?_
    refine z_iconst (v := 1) hG dX12_character_26 (by decide) ?_
    refine z_calli hG (z_runV (As := [.int 1]) (st := []) hG k_X12_174 (MX12_raise l h0 hw) ⟨(Nat.le_of_ble_eq_true rfl), (Nat.le_of_ble_eq_true rfl)⟩ h0 (T := TX12) (N := 23) rfl (by decide) rfl (Nat.le_of_ble_eq_true rfl) dX12_character_27 ⟨Nat.zero_le _, Nat.zero_le _⟩ rfl) (fun r11 σ10 hw => ?_)
    refine z_i2c hG dX12_character_30 ?_
    exact z_iret hG rfl (pk_nc _) dX12_character_31 hw
-- TypeWheelTelegraphModel.run(I)I
def wX12_run_56 (ln : Nat → Nat) (Q : Int32 → zS → Prop) : Nat → Nat → Int32 → Int32 → Int32 → zS → Prop
  | 0, _, _, _, _, _ => False
  | n + 1, t0, v1, v2, v3, σ => ((v1 ≤ v3 → ∃ j1 : Nat, gr σ t0 1 = some j1 ∧ vp_in (16 : Int32) (ln j1) ∧ Q ((gi σ j1 (16 : Int32).toNatClampNeg) - v2) σ) ∧ (¬ v1 ≤ v3 → wX12_ticks ln σ t0 (fun σ3 => ∀ x4 : Int32, x4 = v3 + 1 → (wX12_run_56 ln Q n) t0 v1 v2 x4 σ3)))
def wX12_run (ln : Nat → Nat) (σ : zS) (t0 : Nat) (v1 : Int32) (Q : Int32 → zS → Prop) : Prop := ∀ σ1 : zS, σ1 = si σ t0 0 0 → ∀ x2 : Int64, x2 = v1.toInt64 → wX12_isIn ln σ1 x2 1 2000 (fun r4 σ3 => ((r4 = 0 → wX12_raise ln σ3 t0 1 (fun r16 σ15 => Q r16 σ15)) ∧ (¬ r4 = 0 → ∃ j5 : Nat, gr σ3 t0 1 = some j5 ∧ vp_in (5 : Int32) (ln j5) ∧ ((((gi σ3 j5 (5 : Int32).toNatClampNeg) + v1) ≤ 100000 → wX12_records ln σ3 t0 (fun σ7 => ∃ j8 : Nat, gr σ7 t0 1 = some j8 ∧ vp_in (16 : Int32) (ln j8) ∧ ∀ x10 : Int32, x10 = gi σ7 j8 (16 : Int32).toNatClampNeg → ∃ n11 : Nat, wX12_run_56 ln Q n11 t0 v1 x10 0 σ7)) ∧ (¬ ((gi σ3 j5 (5 : Int32).toNatClampNeg) + v1) ≤ 100000 → wX12_raise ln σ3 t0 2 (fun r13 σ12 => Q r13 σ12))))))
abbrev rX12_run : Room := { frames := 9, cells := 0, slots := 0, locals := 200 }
set_option maxRecDepth 100000 in
set_option maxHeartbeats 4000000 in
theorem BX12_run_56 {l : Launch} {E : zE} {Y : zY} {p : Program} {e : Env} {s : State} {m : MethodId} {args : Array Value} {below : List Frame} {meth : Method} {c : Code} (hG : zG E p l s m args meth c cX12_run 4 RX12 (some .int) (zA Y s.heap.size)) {Q : Int32 → zS → Prop} : ∀ (n : Nat) (t0 : Nat) (v1 : Int32) (v2 : Int32) (v3 : Int32) (σ : zS), wX12_run_56 (zln Y) Q n t0 v1 v2 v3 σ → zT Y 12 t0 → WW E Y σ p l e rX12_run s m args below meth c (zA Y s.heap.size) 4 0 0 (MQ below (va_Qi Q (zB E Y s.heap.size) (zA Y s.heap.size)) args s 0 0 (zA Y s.heap.size)) [(0, .ref (za Y t0)), (1, .int v1), (2, .int v2), (3, .int v3)] 56 [] := by
  intro n
  induction n with
  | zero => intro t0 v1 v2 v3 σ hw
            exact hw.elim
  | succ n ih =>
    intro t0 v1 v2 v3 σ hw h0
    rw [wX12_run_56] at hw
    refine z_iload_n hG dX12_run_56 rfl 3 rfl ?_
    refine z_iload_n hG dX12_run_57 rfl 1 rfl ?_
    refine z_icmp_ge (tgt := 71) hG dX12_run_58 (by decide) (fun c5 => ?_) (fun c5 => ?_)
    · have hw := hw.1 c5
      refine z_aload_n hG dX12_run_71 rfl 0 rfl ?_
      obtain ⟨j1, ej1, hw⟩ := hw
      refine z_getr (kq := 20) hG f_X12_7 h0 rfl ej1 rfl (by decide) dX12_run_72 (fun hj1 => ?_)
      refine z_bipush (v := 16) hG dX12_run_75 (by decide) ?_
      obtain ⟨q2, hw⟩ := hw
      refine z_iald hG hj1 q2 dX12_run_77 ?_
      refine z_iload_n hG dX12_run_78 rfl 2 rfl ?_
      refine z_isub hG dX12_run_79 ?_
      exact z_iret hG rfl rfl dX12_run_80 hw
    · have hw := hw.2 c5
      refine z_aload_n hG dX12_run_61 rfl 0 rfl ?_
      refine z_callv hG (z_runV (As := []) (st := []) hG k_X12_198 (MX12_ticks l h0 hw) ⟨(Nat.le_of_ble_eq_true rfl), (Nat.le_of_ble_eq_true rfl)⟩ h0 (T := TX12) (N := 23) rfl (by decide) rfl (Nat.le_of_ble_eq_true rfl) dX12_run_62 ⟨Nat.zero_le _, Nat.zero_le _⟩ rfl) (fun σ3 hw => ?_)
      obtain ⟨x4, ex4⟩ : ∃ y : Int32, y = v3 + 1 := ⟨_, rfl⟩
      have hw := hw x4 ex4
      refine z_iinc (v := x4) (lv' := [(3, .int x4), (0, .ref (za Y t0)), (1, .int v1), (2, .int v2)]) hG dX12_run_65 3 rfl (by rw [ex4]; rfl) (by decide) rfl ?_
      refine z_goto (tgt := 56) hG dX12_run_68 (by decide) ?_
      refine zpick [1, 2, 3, 0] (lv' := [(0, .ref (za Y t0)), (1, .int v1), (2, .int v2), (3, .int x4)]) rfl ?_
      exact ih t0 v1 v2 x4 σ3 hw h0
set_option maxRecDepth 100000 in
set_option maxHeartbeats 4000000 in
theorem MX12_run (l : Launch) {E : zE} {Y : zY} {σ : zS} {t0 : Nat} {v1 : Int32} (h0 : zT Y 12 t0) {Q : Int32 → zS → Prop} (hw : wX12_run (zln Y) σ t0 v1 Q) : ∀ sz, Met l yX12_run (zw yX12_run cX12_run 4 (some .int)) rX12_run (zPc E Y σ sz [.ref (za Y t0), .int v1]) (va_Qi Q (zB E Y sz) (zA Y sz)) 0 0 (zA Y sz) := by
  refine z_met (own := RX12) (Qc := fun sz => va_Qi Q (zB E Y sz) (zA Y sz)) (by decide +kernel) rfl (Nat.le_of_ble_eq_true rfl) ?_
  intro p e s m args below meth c hG hinit
  unfold wX12_run at hw
  refine zlv (lv' := [(0, .ref (za Y t0)), (1, .int v1)]) rfl ?_
  refine z_aload_n hG dX12_run_0 rfl 0 rfl ?_
  refine z_iconst (v := 0) hG dX12_run_1 (by decide) ?_
  refine z_puti hG f_X12_47 h0 rfl rfl (zN_int _) dX12_run_2 ?_
  refine z_topσ (fun σ1 eσ1 => ?_)
  have hw := hw σ1 eσ1
  refine z_iload_n hG dX12_run_5 rfl 1 rfl ?_
  refine z_i2l hG dX12_run_6 ?_
  refine z_lconst (v := 1) hG dX12_run_7 (by decide) ?_
  refine z_ldc2 (hc := c_X12_192) hG (hd := dX12_run_8) ?_
  obtain ⟨x2, ex2⟩ : ∃ y : Int64, y = v1.toInt64 := ⟨_, rfl⟩
  refine zst (st' := [.long 2000, .long 1, .long x2]) (by rw [ex2]) ?_
  have hw := hw x2 ex2
  refine z_calli hG (z_runS (As := [.long x2, .long 1, .long 2000]) (st := []) hG k_X12_58 (MX12_isIn l hw) ⟨(Nat.le_of_ble_eq_true rfl), (Nat.le_of_ble_eq_true rfl)⟩ rfl (Nat.le_of_ble_eq_true rfl) dX12_run_11 ⟨Nat.zero_le _, Nat.zero_le _⟩ rfl) (fun r4 σ3 hw => ?_)
  refine z_if_ne (tgt := 23) hG dX12_run_14 (by decide) (fun c17 => ?_) (fun c17 => ?_)
  · have hw := hw.2 c17
    refine z_aload_n hG dX12_run_23 rfl 0 rfl ?_
    obtain ⟨j5, ej5, hw⟩ := hw
    refine z_getr (kq := 20) hG f_X12_7 h0 rfl ej5 rfl (by decide) dX12_run_24 (fun hj5 => ?_)
    refine z_iconst (v := 5) hG dX12_run_27 (by decide) ?_
    obtain ⟨q6, hw⟩ := hw
    refine z_iald hG hj5 q6 dX12_run_28 ?_
    refine z_iload_n hG dX12_run_29 rfl 1 rfl ?_
    refine z_iadd hG dX12_run_30 ?_
    refine z_ldc (hc := c_X12_194) hG (hd := dX12_run_31) ?_
    refine z_icmp_le (tgt := 42) hG dX12_run_33 (by decide) (fun c14 => ?_) (fun c14 => ?_)
    · have hw := hw.1 c14
      refine z_aload_n hG dX12_run_42 rfl 0 rfl ?_
      refine z_callv hG (z_runV (As := []) (st := []) hG k_X12_195 (MX12_records l h0 hw) ⟨(Nat.le_of_ble_eq_true rfl), (Nat.le_of_ble_eq_true rfl)⟩ h0 (T := TX12) (N := 23) rfl (by decide) rfl (Nat.le_of_ble_eq_true rfl) dX12_run_43 ⟨Nat.zero_le _, Nat.zero_le _⟩ rfl) (fun σ7 hw => ?_)
      refine z_aload_n hG dX12_run_46 rfl 0 rfl ?_
      obtain ⟨j8, ej8, hw⟩ := hw
      refine z_getr (kq := 20) hG f_X12_7 h0 rfl ej8 rfl (by decide) dX12_run_47 (fun hj8 => ?_)
      refine z_bipush (v := 16) hG dX12_run_50 (by decide) ?_
      obtain ⟨q9, hw⟩ := hw
      refine z_iald hG hj8 q9 dX12_run_52 ?_
      refine z_topi (fun x10 ex10 => ?_)
      have hw := hw x10 ex10
      refine z_istore_n (lv' := [(2, .int x10), (0, .ref (za Y t0)), (1, .int v1)]) hG dX12_run_53 rfl (by decide) rfl ?_
      refine z_iconst (v := 0) hG dX12_run_54 (by decide) ?_
      refine z_istore_n (lv' := [(3, .int 0), (2, .int x10), (0, .ref (za Y t0)), (1, .int v1)]) hG dX12_run_55 rfl (by decide) rfl ?_
      obtain ⟨n11, hw⟩ := hw
      refine zpick [2, 3, 1, 0] (lv' := [(0, .ref (za Y t0)), (1, .int v1), (2, .int x10), (3, .int 0)]) rfl ?_
      exact BX12_run_56 hG n11 t0 v1 x10 0 σ7 hw h0
    · have hw := hw.2 c14
      refine z_aload_n hG dX12_run_36 rfl 0 rfl ?_
      refine z_iconst (v := 2) hG dX12_run_37 (by decide) ?_
      refine z_calli hG (z_runV (As := [.int 2]) (st := []) hG k_X12_174 (MX12_raise l h0 hw) ⟨(Nat.le_of_ble_eq_true rfl), (Nat.le_of_ble_eq_true rfl)⟩ h0 (T := TX12) (N := 23) rfl (by decide) rfl (Nat.le_of_ble_eq_true rfl) dX12_run_38 ⟨Nat.zero_le _, Nat.zero_le _⟩ rfl) (fun r13 σ12 hw => ?_)
      exact z_iret hG rfl rfl dX12_run_41 hw
  · have hw := hw.1 c17
    refine z_aload_n hG dX12_run_17 rfl 0 rfl ?_
    refine z_iconst (v := 1) hG dX12_run_18 (by decide) ?_
    refine z_calli hG (z_runV (As := [.int 1]) (st := []) hG k_X12_174 (MX12_raise l h0 hw) ⟨(Nat.le_of_ble_eq_true rfl), (Nat.le_of_ble_eq_true rfl)⟩ h0 (T := TX12) (N := 23) rfl (by decide) rfl (Nat.le_of_ble_eq_true rfl) dX12_run_19 ⟨Nat.zero_le _, Nat.zero_le _⟩ rfl) (fun r16 σ15 hw => ?_)
    exact z_iret hG rfl rfl dX12_run_22 hw
-- TypeWheelTelegraphModel.goesOn(I)I
def wX12_goesOn_2 (ln : Nat → Nat) (Q : Int32 → zS → Prop) : Nat → Nat → Int32 → Int32 → zS → Prop
  | 0, _, _, _, _ => False
  | n + 1, t0, v1, v2, σ => ((v1 ≤ v2 → Q v2 σ) ∧ (¬ v1 ≤ v2 → wX12_isSender ln σ t0 (fun r2 σ1 => ((r2 = 0 → Q v2 σ1) ∧ (¬ r2 = 0 → wX12_ticks ln σ1 t0 (fun σ3 => ∀ x4 : Int32, x4 = v2 + 1 → (wX12_goesOn_2 ln Q n) t0 v1 x4 σ3))))))
def wX12_goesOn (ln : Nat → Nat) (σ : zS) (t0 : Nat) (v1 : Int32) (Q : Int32 → zS → Prop) : Prop := ∃ n1 : Nat, wX12_goesOn_2 ln Q n1 t0 v1 0 σ
abbrev rX12_goesOn : Room := { frames := 9, cells := 0, slots := 0, locals := 200 }
set_option maxRecDepth 100000 in
set_option maxHeartbeats 4000000 in
theorem BX12_goesOn_2 {l : Launch} {E : zE} {Y : zY} {p : Program} {e : Env} {s : State} {m : MethodId} {args : Array Value} {below : List Frame} {meth : Method} {c : Code} (hG : zG E p l s m args meth c cX12_goesOn 3 RX12 (some .int) (zA Y s.heap.size)) {Q : Int32 → zS → Prop} : ∀ (n : Nat) (t0 : Nat) (v1 : Int32) (v2 : Int32) (σ : zS), wX12_goesOn_2 (zln Y) Q n t0 v1 v2 σ → zT Y 12 t0 → WW E Y σ p l e rX12_goesOn s m args below meth c (zA Y s.heap.size) 3 0 0 (MQ below (va_Qi Q (zB E Y s.heap.size) (zA Y s.heap.size)) args s 0 0 (zA Y s.heap.size)) [(0, .ref (za Y t0)), (1, .int v1), (2, .int v2)] 2 [] := by
  intro n
  induction n with
  | zero => intro t0 v1 v2 σ hw
            exact hw.elim
  | succ n ih =>
    intro t0 v1 v2 σ hw h0
    rw [wX12_goesOn_2] at hw
    refine z_iload_n hG dX12_goesOn_2 rfl 2 rfl ?_
    refine z_iload_n hG dX12_goesOn_3 rfl 1 rfl ?_
    refine z_icmp_ge (tgt := 24) hG dX12_goesOn_4 (by decide) (fun c6 => ?_) (fun c6 => ?_)
    · have hw := hw.1 c6
      refine z_iload_n hG dX12_goesOn_24 rfl 2 rfl ?_
      exact z_iret hG rfl rfl dX12_goesOn_25 hw
    · have hw := hw.2 c6
      refine z_aload_n hG dX12_goesOn_7 rfl 0 rfl ?_
      refine z_calli hG (z_runV (As := []) (st := []) hG k_X12_158 (MX12_isSender l h0 hw) ⟨(Nat.le_of_ble_eq_true rfl), (Nat.le_of_ble_eq_true rfl)⟩ h0 (T := TX12) (N := 23) rfl (by decide) rfl (Nat.le_of_ble_eq_true rfl) dX12_goesOn_8 ⟨Nat.zero_le _, Nat.zero_le _⟩ rfl) (fun r2 σ1 hw => ?_)
      refine z_if_eq (tgt := 24) hG dX12_goesOn_11 (by decide) (fun c5 => ?_) (fun c5 => ?_)
      · have hw := hw.1 c5
        refine z_iload_n hG dX12_goesOn_24 rfl 2 rfl ?_
        exact z_iret hG rfl rfl dX12_goesOn_25 hw
      · have hw := hw.2 c5
        refine z_aload_n hG dX12_goesOn_14 rfl 0 rfl ?_
        refine z_callv hG (z_runV (As := []) (st := []) hG k_X12_198 (MX12_ticks l h0 hw) ⟨(Nat.le_of_ble_eq_true rfl), (Nat.le_of_ble_eq_true rfl)⟩ h0 (T := TX12) (N := 23) rfl (by decide) rfl (Nat.le_of_ble_eq_true rfl) dX12_goesOn_15 ⟨Nat.zero_le _, Nat.zero_le _⟩ rfl) (fun σ3 hw => ?_)
        obtain ⟨x4, ex4⟩ : ∃ y : Int32, y = v2 + 1 := ⟨_, rfl⟩
        have hw := hw x4 ex4
        refine z_iinc (v := x4) (lv' := [(2, .int x4), (0, .ref (za Y t0)), (1, .int v1)]) hG dX12_goesOn_18 2 rfl (by rw [ex4]; rfl) (by decide) rfl ?_
        refine z_goto (tgt := 2) hG dX12_goesOn_21 (by decide) ?_
        refine zpick [1, 2, 0] (lv' := [(0, .ref (za Y t0)), (1, .int v1), (2, .int x4)]) rfl ?_
        exact ih t0 v1 x4 σ3 hw h0
set_option maxRecDepth 100000 in
set_option maxHeartbeats 4000000 in
theorem MX12_goesOn (l : Launch) {E : zE} {Y : zY} {σ : zS} {t0 : Nat} {v1 : Int32} (h0 : zT Y 12 t0) {Q : Int32 → zS → Prop} (hw : wX12_goesOn (zln Y) σ t0 v1 Q) : ∀ sz, Met l yX12_goesOn (zw yX12_goesOn cX12_goesOn 3 (some .int)) rX12_goesOn (zPc E Y σ sz [.ref (za Y t0), .int v1]) (va_Qi Q (zB E Y sz) (zA Y sz)) 0 0 (zA Y sz) := by
  refine z_met (own := RX12) (Qc := fun sz => va_Qi Q (zB E Y sz) (zA Y sz)) (by decide +kernel) rfl (Nat.le_of_ble_eq_true rfl) ?_
  intro p e s m args below meth c hG hinit
  unfold wX12_goesOn at hw
  refine zlv (lv' := [(0, .ref (za Y t0)), (1, .int v1)]) rfl ?_
  refine z_iconst (v := 0) hG dX12_goesOn_0 (by decide) ?_
  refine z_istore_n (lv' := [(2, .int 0), (0, .ref (za Y t0)), (1, .int v1)]) hG dX12_goesOn_1 rfl (by decide) rfl ?_
  obtain ⟨n1, hw⟩ := hw
  refine zpick [1, 2, 0] (lv' := [(0, .ref (za Y t0)), (1, .int v1), (2, .int 0)]) rfl ?_
  exact BX12_goesOn_2 hG n1 t0 v1 0 σ hw h0
-- TypeWheelTelegraphModel.runUntilDone(I)I
def wX12_runUntilDone (ln : Nat → Nat) (σ : zS) (t0 : Nat) (v1 : Int32) (Q : Int32 → zS → Prop) : Prop := ∀ σ1 : zS, σ1 = si σ t0 0 0 → ∀ x2 : Int64, x2 = v1.toInt64 → wX12_isIn ln σ1 x2 1 5000 (fun r4 σ3 => ((r4 = 0 → wX12_raise ln σ3 t0 1 (fun r14 σ13 => Q r14 σ13)) ∧ (¬ r4 = 0 → ∃ j5 : Nat, gr σ3 t0 1 = some j5 ∧ vp_in (5 : Int32) (ln j5) ∧ ((((gi σ3 j5 (5 : Int32).toNatClampNeg) + v1) ≤ 100000 → wX12_records ln σ3 t0 (fun σ7 => wX12_goesOn ln σ7 t0 v1 (fun r9 σ8 => Q r9 σ8))) ∧ (¬ ((gi σ3 j5 (5 : Int32).toNatClampNeg) + v1) ≤ 100000 → wX12_raise ln σ3 t0 2 (fun r11 σ10 => Q r11 σ10))))))
abbrev rX12_runUntilDone : Room := { frames := 10, cells := 0, slots := 0, locals := 222 }
set_option maxRecDepth 100000 in
set_option maxHeartbeats 4000000 in
theorem MX12_runUntilDone (l : Launch) {E : zE} {Y : zY} {σ : zS} {t0 : Nat} {v1 : Int32} (h0 : zT Y 12 t0) {Q : Int32 → zS → Prop} (hw : wX12_runUntilDone (zln Y) σ t0 v1 Q) : ∀ sz, Met l yX12_runUntilDone (zw yX12_runUntilDone cX12_runUntilDone 2 (some .int)) rX12_runUntilDone (zPc E Y σ sz [.ref (za Y t0), .int v1]) (va_Qi Q (zB E Y sz) (zA Y sz)) 0 0 (zA Y sz) := by
  refine z_met (own := RX12) (Qc := fun sz => va_Qi Q (zB E Y sz) (zA Y sz)) (by decide +kernel) rfl (Nat.le_of_ble_eq_true rfl) ?_
  intro p e s m args below meth c hG hinit
  unfold wX12_runUntilDone at hw
  refine zlv (lv' := [(0, .ref (za Y t0)), (1, .int v1)]) rfl ?_
  refine z_aload_n hG dX12_runUntilDone_0 rfl 0 rfl ?_
  refine z_iconst (v := 0) hG dX12_runUntilDone_1 (by decide) ?_
  refine z_puti hG f_X12_47 h0 rfl rfl (zN_int _) dX12_runUntilDone_2 ?_
  refine z_topσ (fun σ1 eσ1 => ?_)
  have hw := hw σ1 eσ1
  refine z_iload_n hG dX12_runUntilDone_5 rfl 1 rfl ?_
  refine z_i2l hG dX12_runUntilDone_6 ?_
  refine z_lconst (v := 1) hG dX12_runUntilDone_7 (by decide) ?_
  refine z_ldc2 (hc := c_X12_201) hG (hd := dX12_runUntilDone_8) ?_
  obtain ⟨x2, ex2⟩ : ∃ y : Int64, y = v1.toInt64 := ⟨_, rfl⟩
  refine zst (st' := [.long 5000, .long 1, .long x2]) (by rw [ex2]) ?_
  have hw := hw x2 ex2
  refine z_calli hG (z_runS (As := [.long x2, .long 1, .long 5000]) (st := []) hG k_X12_58 (MX12_isIn l hw) ⟨(Nat.le_of_ble_eq_true rfl), (Nat.le_of_ble_eq_true rfl)⟩ rfl (Nat.le_of_ble_eq_true rfl) dX12_runUntilDone_11 ⟨Nat.zero_le _, Nat.zero_le _⟩ rfl) (fun r4 σ3 hw => ?_)
  refine z_if_ne (tgt := 23) hG dX12_runUntilDone_14 (by decide) (fun c15 => ?_) (fun c15 => ?_)
  · have hw := hw.2 c15
    refine z_aload_n hG dX12_runUntilDone_23 rfl 0 rfl ?_
    obtain ⟨j5, ej5, hw⟩ := hw
    refine z_getr (kq := 20) hG f_X12_7 h0 rfl ej5 rfl (by decide) dX12_runUntilDone_24 (fun hj5 => ?_)
    refine z_iconst (v := 5) hG dX12_runUntilDone_27 (by decide) ?_
    obtain ⟨q6, hw⟩ := hw
    refine z_iald hG hj5 q6 dX12_runUntilDone_28 ?_
    refine z_iload_n hG dX12_runUntilDone_29 rfl 1 rfl ?_
    refine z_iadd hG dX12_runUntilDone_30 ?_
    refine z_ldc (hc := c_X12_194) hG (hd := dX12_runUntilDone_31) ?_
    refine z_icmp_le (tgt := 42) hG dX12_runUntilDone_33 (by decide) (fun c12 => ?_) (fun c12 => ?_)
    · have hw := hw.1 c12
      refine z_aload_n hG dX12_runUntilDone_42 rfl 0 rfl ?_
      refine z_callv hG (z_runV (As := []) (st := []) hG k_X12_195 (MX12_records l h0 hw) ⟨(Nat.le_of_ble_eq_true rfl), (Nat.le_of_ble_eq_true rfl)⟩ h0 (T := TX12) (N := 23) rfl (by decide) rfl (Nat.le_of_ble_eq_true rfl) dX12_runUntilDone_43 ⟨Nat.zero_le _, Nat.zero_le _⟩ rfl) (fun σ7 hw => ?_)
      refine z_aload_n hG dX12_runUntilDone_46 rfl 0 rfl ?_
      refine z_iload_n hG dX12_runUntilDone_47 rfl 1 rfl ?_
      refine z_calli hG (z_runV (As := [.int v1]) (st := []) hG k_X12_203 (MX12_goesOn l h0 hw) ⟨(Nat.le_of_ble_eq_true rfl), (Nat.le_of_ble_eq_true rfl)⟩ h0 (T := TX12) (N := 23) rfl (by decide) rfl (Nat.le_of_ble_eq_true rfl) dX12_runUntilDone_48 ⟨Nat.zero_le _, Nat.zero_le _⟩ rfl) (fun r9 σ8 hw => ?_)
      exact z_iret hG rfl rfl dX12_runUntilDone_51 hw
    · have hw := hw.2 c12
      refine z_aload_n hG dX12_runUntilDone_36 rfl 0 rfl ?_
      refine z_iconst (v := 2) hG dX12_runUntilDone_37 (by decide) ?_
      refine z_calli hG (z_runV (As := [.int 2]) (st := []) hG k_X12_174 (MX12_raise l h0 hw) ⟨(Nat.le_of_ble_eq_true rfl), (Nat.le_of_ble_eq_true rfl)⟩ h0 (T := TX12) (N := 23) rfl (by decide) rfl (Nat.le_of_ble_eq_true rfl) dX12_runUntilDone_38 ⟨Nat.zero_le _, Nat.zero_le _⟩ rfl) (fun r11 σ10 hw => ?_)
      exact z_iret hG rfl rfl dX12_runUntilDone_41 hw
  · have hw := hw.1 c15
    refine z_aload_n hG dX12_runUntilDone_17 rfl 0 rfl ?_
    refine z_iconst (v := 1) hG dX12_runUntilDone_18 (by decide) ?_
    refine z_calli hG (z_runV (As := [.int 1]) (st := []) hG k_X12_174 (MX12_raise l h0 hw) ⟨(Nat.le_of_ble_eq_true rfl), (Nat.le_of_ble_eq_true rfl)⟩ h0 (T := TX12) (N := 23) rfl (by decide) rfl (Nat.le_of_ble_eq_true rfl) dX12_runUntilDone_19 ⟨Nat.zero_le _, Nat.zero_le _⟩ rfl) (fun r14 σ13 hw => ?_)
    exact z_iret hG rfl rfl dX12_runUntilDone_22 hw
-- TypeWheelTelegraphModel.wrongIn(I)I
def wX12_wrongIn_7 (ln : Nat → Nat) (Q : Int32 → zS → Prop) : Nat → Nat → Int32 → Int32 → Int32 → zS → Prop
  | 0, _, _, _, _, _ => False
  | n + 1, t0, v1, v2, v3, σ => ((v1 ≤ v3 → wX12_wrongs ln σ t0 (fun r2 σ1 => Q (r2 - v2) σ1)) ∧ (¬ v1 ≤ v3 → wX12_ticks ln σ t0 (fun σ3 => ∀ x4 : Int32, x4 = v3 + 1 → (wX12_wrongIn_7 ln Q n) t0 v1 v2 x4 σ3)))
def wX12_wrongIn (ln : Nat → Nat) (σ : zS) (t0 : Nat) (v1 : Int32) (Q : Int32 → zS → Prop) : Prop := wX12_wrongs ln σ t0 (fun r2 σ1 => ∃ n3 : Nat, wX12_wrongIn_7 ln Q n3 t0 v1 r2 0 σ1)
abbrev rX12_wrongIn : Room := { frames := 9, cells := 0, slots := 0, locals := 200 }
set_option maxRecDepth 100000 in
set_option maxHeartbeats 4000000 in
theorem BX12_wrongIn_7 {l : Launch} {E : zE} {Y : zY} {p : Program} {e : Env} {s : State} {m : MethodId} {args : Array Value} {below : List Frame} {meth : Method} {c : Code} (hG : zG E p l s m args meth c cX12_wrongIn 4 RX12 (some .int) (zA Y s.heap.size)) {Q : Int32 → zS → Prop} : ∀ (n : Nat) (t0 : Nat) (v1 : Int32) (v2 : Int32) (v3 : Int32) (σ : zS), wX12_wrongIn_7 (zln Y) Q n t0 v1 v2 v3 σ → zT Y 12 t0 → WW E Y σ p l e rX12_wrongIn s m args below meth c (zA Y s.heap.size) 4 0 0 (MQ below (va_Qi Q (zB E Y s.heap.size) (zA Y s.heap.size)) args s 0 0 (zA Y s.heap.size)) [(0, .ref (za Y t0)), (1, .int v1), (2, .int v2), (3, .int v3)] 7 [] := by
  intro n
  induction n with
  | zero => intro t0 v1 v2 v3 σ hw
            exact hw.elim
  | succ n ih =>
    intro t0 v1 v2 v3 σ hw h0
    rw [wX12_wrongIn_7] at hw
    refine z_iload_n hG dX12_wrongIn_7 rfl 3 rfl ?_
    refine z_iload_n hG dX12_wrongIn_8 rfl 1 rfl ?_
    refine z_icmp_ge (tgt := 22) hG dX12_wrongIn_9 (by decide) (fun c5 => ?_) (fun c5 => ?_)
    · have hw := hw.1 c5
      refine z_aload_n hG dX12_wrongIn_22 rfl 0 rfl ?_
      refine z_calli hG (z_runV (As := []) (st := []) hG k_X12_216 (MX12_wrongs l h0 hw) ⟨(Nat.le_of_ble_eq_true rfl), (Nat.le_of_ble_eq_true rfl)⟩ h0 (T := TX12) (N := 23) rfl (by decide) rfl (Nat.le_of_ble_eq_true rfl) dX12_wrongIn_23 ⟨Nat.zero_le _, Nat.zero_le _⟩ rfl) (fun r2 σ1 hw => ?_)
      refine z_iload_n hG dX12_wrongIn_26 rfl 2 rfl ?_
      refine z_isub hG dX12_wrongIn_27 ?_
      exact z_iret hG rfl rfl dX12_wrongIn_28 hw
    · have hw := hw.2 c5
      refine z_aload_n hG dX12_wrongIn_12 rfl 0 rfl ?_
      refine z_callv hG (z_runV (As := []) (st := []) hG k_X12_198 (MX12_ticks l h0 hw) ⟨(Nat.le_of_ble_eq_true rfl), (Nat.le_of_ble_eq_true rfl)⟩ h0 (T := TX12) (N := 23) rfl (by decide) rfl (Nat.le_of_ble_eq_true rfl) dX12_wrongIn_13 ⟨Nat.zero_le _, Nat.zero_le _⟩ rfl) (fun σ3 hw => ?_)
      obtain ⟨x4, ex4⟩ : ∃ y : Int32, y = v3 + 1 := ⟨_, rfl⟩
      have hw := hw x4 ex4
      refine z_iinc (v := x4) (lv' := [(3, .int x4), (0, .ref (za Y t0)), (1, .int v1), (2, .int v2)]) hG dX12_wrongIn_16 3 rfl (by rw [ex4]; rfl) (by decide) rfl ?_
      refine z_goto (tgt := 7) hG dX12_wrongIn_19 (by decide) ?_
      refine zpick [1, 2, 3, 0] (lv' := [(0, .ref (za Y t0)), (1, .int v1), (2, .int v2), (3, .int x4)]) rfl ?_
      exact ih t0 v1 v2 x4 σ3 hw h0
set_option maxRecDepth 100000 in
set_option maxHeartbeats 4000000 in
theorem MX12_wrongIn (l : Launch) {E : zE} {Y : zY} {σ : zS} {t0 : Nat} {v1 : Int32} (h0 : zT Y 12 t0) {Q : Int32 → zS → Prop} (hw : wX12_wrongIn (zln Y) σ t0 v1 Q) : ∀ sz, Met l yX12_wrongIn (zw yX12_wrongIn cX12_wrongIn 4 (some .int)) rX12_wrongIn (zPc E Y σ sz [.ref (za Y t0), .int v1]) (va_Qi Q (zB E Y sz) (zA Y sz)) 0 0 (zA Y sz) := by
  refine z_met (own := RX12) (Qc := fun sz => va_Qi Q (zB E Y sz) (zA Y sz)) (by decide +kernel) rfl (Nat.le_of_ble_eq_true rfl) ?_
  intro p e s m args below meth c hG hinit
  unfold wX12_wrongIn at hw
  refine zlv (lv' := [(0, .ref (za Y t0)), (1, .int v1)]) rfl ?_
  refine z_aload_n hG dX12_wrongIn_0 rfl 0 rfl ?_
  refine z_calli hG (z_runV (As := []) (st := []) hG k_X12_216 (MX12_wrongs l h0 hw) ⟨(Nat.le_of_ble_eq_true rfl), (Nat.le_of_ble_eq_true rfl)⟩ h0 (T := TX12) (N := 23) rfl (by decide) rfl (Nat.le_of_ble_eq_true rfl) dX12_wrongIn_1 ⟨Nat.zero_le _, Nat.zero_le _⟩ rfl) (fun r2 σ1 hw => ?_)
  refine z_istore_n (lv' := [(2, .int r2), (0, .ref (za Y t0)), (1, .int v1)]) hG dX12_wrongIn_4 rfl (by decide) rfl ?_
  refine z_iconst (v := 0) hG dX12_wrongIn_5 (by decide) ?_
  refine z_istore_n (lv' := [(3, .int 0), (2, .int r2), (0, .ref (za Y t0)), (1, .int v1)]) hG dX12_wrongIn_6 rfl (by decide) rfl ?_
  obtain ⟨n3, hw⟩ := hw
  refine zpick [2, 3, 1, 0] (lv' := [(0, .ref (za Y t0)), (1, .int v1), (2, .int r2), (3, .int 0)]) rfl ?_
  exact BX12_wrongIn_7 hG n3 t0 v1 r2 0 σ1 hw h0
-- TypeWheelTelegraphModel.misprintsIn(I)I
def wX12_misprintsIn (ln : Nat → Nat) (σ : zS) (t0 : Nat) (v1 : Int32) (Q : Int32 → zS → Prop) : Prop := ∀ σ1 : zS, σ1 = si σ t0 0 0 → ∀ x2 : Int64, x2 = v1.toInt64 → wX12_isIn ln σ1 x2 1 2000 (fun r4 σ3 => ((r4 = 0 → wX12_raise ln σ3 t0 1 (fun r14 σ13 => Q r14 σ13)) ∧ (¬ r4 = 0 → ∃ j5 : Nat, gr σ3 t0 1 = some j5 ∧ ∃ j6 : Nat, gr σ3 t0 3 = some j6 ∧ wX12_copies ln σ3 j5 j6 (fun σ7 => wX12_wrongIn ln σ7 t0 v1 (fun r9 σ8 => ∃ j10 : Nat, gr σ8 t0 3 = some j10 ∧ ∃ j11 : Nat, gr σ8 t0 1 = some j11 ∧ wX12_copies ln σ8 j10 j11 (fun σ12 => Q r9 σ12))))))
abbrev rX12_misprintsIn : Room := { frames := 10, cells := 0, slots := 0, locals := 223 }
set_option maxRecDepth 100000 in
set_option maxHeartbeats 4000000 in
theorem MX12_misprintsIn (l : Launch) {E : zE} {Y : zY} {σ : zS} {t0 : Nat} {v1 : Int32} (h0 : zT Y 12 t0) {Q : Int32 → zS → Prop} (hw : wX12_misprintsIn (zln Y) σ t0 v1 Q) : ∀ sz, Met l yX12_misprintsIn (zw yX12_misprintsIn cX12_misprintsIn 3 (some .int)) rX12_misprintsIn (zPc E Y σ sz [.ref (za Y t0), .int v1]) (va_Qi Q (zB E Y sz) (zA Y sz)) 0 0 (zA Y sz) := by
  refine z_met (own := RX12) (Qc := fun sz => va_Qi Q (zB E Y sz) (zA Y sz)) (by decide +kernel) rfl (Nat.le_of_ble_eq_true rfl) ?_
  intro p e s m args below meth c hG hinit
  unfold wX12_misprintsIn at hw
  refine zlv (lv' := [(0, .ref (za Y t0)), (1, .int v1)]) rfl ?_
  refine z_aload_n hG dX12_misprintsIn_0 rfl 0 rfl ?_
  refine z_iconst (v := 0) hG dX12_misprintsIn_1 (by decide) ?_
  refine z_puti hG f_X12_47 h0 rfl rfl (zN_int _) dX12_misprintsIn_2 ?_
  refine z_topσ (fun σ1 eσ1 => ?_)
  have hw := hw σ1 eσ1
  refine z_iload_n hG dX12_misprintsIn_5 rfl 1 rfl ?_
  refine z_i2l hG dX12_misprintsIn_6 ?_
  refine z_lconst (v := 1) hG dX12_misprintsIn_7 (by decide) ?_
  refine z_ldc2 (hc := c_X12_192) hG (hd := dX12_misprintsIn_8) ?_
  obtain ⟨x2, ex2⟩ : ∃ y : Int64, y = v1.toInt64 := ⟨_, rfl⟩
  refine zst (st' := [.long 2000, .long 1, .long x2]) (by rw [ex2]) ?_
  have hw := hw x2 ex2
  refine z_calli hG (z_runS (As := [.long x2, .long 1, .long 2000]) (st := []) hG k_X12_58 (MX12_isIn l hw) ⟨(Nat.le_of_ble_eq_true rfl), (Nat.le_of_ble_eq_true rfl)⟩ rfl (Nat.le_of_ble_eq_true rfl) dX12_misprintsIn_11 ⟨Nat.zero_le _, Nat.zero_le _⟩ rfl) (fun r4 σ3 hw => ?_)
  refine z_if_ne (tgt := 23) hG dX12_misprintsIn_14 (by decide) (fun c15 => ?_) (fun c15 => ?_)
  · have hw := hw.2 c15
    refine z_aload_n hG dX12_misprintsIn_23 rfl 0 rfl ?_
    obtain ⟨j5, ej5, hw⟩ := hw
    refine z_getr (kq := 20) hG f_X12_7 h0 rfl ej5 rfl (by decide) dX12_misprintsIn_24 (fun hj5 => ?_)
    refine z_aload_n hG dX12_misprintsIn_27 rfl 0 rfl ?_
    obtain ⟨j6, ej6, hw⟩ := hw
    refine z_getr (kq := 20) hG f_X12_16 h0 rfl ej6 rfl (by decide) dX12_misprintsIn_28 (fun hj6 => ?_)
    refine z_callv hG (z_runS (As := [.ref (za Y j5), .ref (za Y j6)]) (st := []) hG k_X12_219 (MX12_copies l hj5 hj6 hw) ⟨(Nat.le_of_ble_eq_true rfl), (Nat.le_of_ble_eq_true rfl)⟩ rfl (Nat.le_of_ble_eq_true rfl) dX12_misprintsIn_31 ⟨Nat.zero_le _, Nat.zero_le _⟩ rfl) (fun σ7 hw => ?_)
    refine z_aload_n hG dX12_misprintsIn_34 rfl 0 rfl ?_
    refine z_iload_n hG dX12_misprintsIn_35 rfl 1 rfl ?_
    refine z_calli hG (z_runV (As := [.int v1]) (st := []) hG k_X12_223 (MX12_wrongIn l h0 hw) ⟨(Nat.le_of_ble_eq_true rfl), (Nat.le_of_ble_eq_true rfl)⟩ h0 (T := TX12) (N := 23) rfl (by decide) rfl (Nat.le_of_ble_eq_true rfl) dX12_misprintsIn_36 ⟨Nat.zero_le _, Nat.zero_le _⟩ rfl) (fun r9 σ8 hw => ?_)
    refine z_istore_n (lv' := [(2, .int r9), (0, .ref (za Y t0)), (1, .int v1)]) hG dX12_misprintsIn_39 rfl (by decide) rfl ?_
    refine z_aload_n hG dX12_misprintsIn_40 rfl 1 rfl ?_
    obtain ⟨j10, ej10, hw⟩ := hw
    refine z_getr (kq := 20) hG f_X12_16 h0 rfl ej10 rfl (by decide) dX12_misprintsIn_41 (fun hj10 => ?_)
    refine z_aload_n hG dX12_misprintsIn_44 rfl 1 rfl ?_
    obtain ⟨j11, ej11, hw⟩ := hw
    refine z_getr (kq := 20) hG f_X12_7 h0 rfl ej11 rfl (by decide) dX12_misprintsIn_45 (fun hj11 => ?_)
    refine z_callv hG (z_runS (As := [.ref (za Y j10), .ref (za Y j11)]) (st := []) hG k_X12_219 (MX12_copies l hj10 hj11 hw) ⟨(Nat.le_of_ble_eq_true rfl), (Nat.le_of_ble_eq_true rfl)⟩ rfl (Nat.le_of_ble_eq_true rfl) dX12_misprintsIn_48 ⟨Nat.zero_le _, Nat.zero_le _⟩ rfl) (fun σ12 hw => ?_)
    refine z_iload_n hG dX12_misprintsIn_51 rfl 0 rfl ?_
    exact z_iret hG rfl rfl dX12_misprintsIn_52 hw
  · have hw := hw.1 c15
    refine z_aload_n hG dX12_misprintsIn_17 rfl 0 rfl ?_
    refine z_iconst (v := 1) hG dX12_misprintsIn_18 (by decide) ?_
    refine z_calli hG (z_runV (As := [.int 1]) (st := []) hG k_X12_174 (MX12_raise l h0 hw) ⟨(Nat.le_of_ble_eq_true rfl), (Nat.le_of_ble_eq_true rfl)⟩ h0 (T := TX12) (N := 23) rfl (by decide) rfl (Nat.le_of_ble_eq_true rfl) dX12_misprintsIn_19 ⟨Nat.zero_le _, Nat.zero_le _⟩ rfl) (fun r14 σ13 hw => ?_)
    exact z_iret hG rfl rfl dX12_misprintsIn_22 hw
-- TypeWheelTelegraphModel.ticksUntilDone(I)I
def wX12_ticksUntilDone (ln : Nat → Nat) (σ : zS) (t0 : Nat) (v1 : Int32) (Q : Int32 → zS → Prop) : Prop := ∀ σ1 : zS, σ1 = si σ t0 0 0 → ∀ x2 : Int64, x2 = v1.toInt64 → wX12_isIn ln σ1 x2 1 5000 (fun r4 σ3 => ((r4 = 0 → wX12_raise ln σ3 t0 1 (fun r17 σ16 => Q r17 σ16)) ∧ (¬ r4 = 0 → ∃ j5 : Nat, gr σ3 t0 1 = some j5 ∧ ∃ j6 : Nat, gr σ3 t0 3 = some j6 ∧ wX12_copies ln σ3 j5 j6 (fun σ7 => wX12_goesOn ln σ7 t0 v1 (fun r9 σ8 => wX12_isSender ln σ8 t0 (fun r11 σ10 => ∃ j12 : Nat, gr σ10 t0 3 = some j12 ∧ ∃ j13 : Nat, gr σ10 t0 1 = some j13 ∧ wX12_copies ln σ10 j12 j13 (fun σ14 => ((r11 = 0 → Q r9 σ14) ∧ (¬ r11 = 0 → Q (-1) σ14)))))))))
abbrev rX12_ticksUntilDone : Room := { frames := 10, cells := 0, slots := 0, locals := 222 }
set_option maxRecDepth 100000 in
set_option maxHeartbeats 4000000 in
theorem MX12_ticksUntilDone (l : Launch) {E : zE} {Y : zY} {σ : zS} {t0 : Nat} {v1 : Int32} (h0 : zT Y 12 t0) {Q : Int32 → zS → Prop} (hw : wX12_ticksUntilDone (zln Y) σ t0 v1 Q) : ∀ sz, Met l yX12_ticksUntilDone (zw yX12_ticksUntilDone cX12_ticksUntilDone 4 (some .int)) rX12_ticksUntilDone (zPc E Y σ sz [.ref (za Y t0), .int v1]) (va_Qi Q (zB E Y sz) (zA Y sz)) 0 0 (zA Y sz) := by
  refine z_met (own := RX12) (Qc := fun sz => va_Qi Q (zB E Y sz) (zA Y sz)) (by decide +kernel) rfl (Nat.le_of_ble_eq_true rfl) ?_
  intro p e s m args below meth c hG hinit
  unfold wX12_ticksUntilDone at hw
  refine zlv (lv' := [(0, .ref (za Y t0)), (1, .int v1)]) rfl ?_
  refine z_aload_n hG dX12_ticksUntilDone_0 rfl 0 rfl ?_
  refine z_iconst (v := 0) hG dX12_ticksUntilDone_1 (by decide) ?_
  refine z_puti hG f_X12_47 h0 rfl rfl (zN_int _) dX12_ticksUntilDone_2 ?_
  refine z_topσ (fun σ1 eσ1 => ?_)
  have hw := hw σ1 eσ1
  refine z_iload_n hG dX12_ticksUntilDone_5 rfl 1 rfl ?_
  refine z_i2l hG dX12_ticksUntilDone_6 ?_
  refine z_lconst (v := 1) hG dX12_ticksUntilDone_7 (by decide) ?_
  refine z_ldc2 (hc := c_X12_201) hG (hd := dX12_ticksUntilDone_8) ?_
  obtain ⟨x2, ex2⟩ : ∃ y : Int64, y = v1.toInt64 := ⟨_, rfl⟩
  refine zst (st' := [.long 5000, .long 1, .long x2]) (by rw [ex2]) ?_
  have hw := hw x2 ex2
  refine z_calli hG (z_runS (As := [.long x2, .long 1, .long 5000]) (st := []) hG k_X12_58 (MX12_isIn l hw) ⟨(Nat.le_of_ble_eq_true rfl), (Nat.le_of_ble_eq_true rfl)⟩ rfl (Nat.le_of_ble_eq_true rfl) dX12_ticksUntilDone_11 ⟨Nat.zero_le _, Nat.zero_le _⟩ rfl) (fun r4 σ3 hw => ?_)
  refine z_if_ne (tgt := 23) hG dX12_ticksUntilDone_14 (by decide) (fun c18 => ?_) (fun c18 => ?_)
  · have hw := hw.2 c18
    refine z_aload_n hG dX12_ticksUntilDone_23 rfl 0 rfl ?_
    obtain ⟨j5, ej5, hw⟩ := hw
    refine z_getr (kq := 20) hG f_X12_7 h0 rfl ej5 rfl (by decide) dX12_ticksUntilDone_24 (fun hj5 => ?_)
    refine z_aload_n hG dX12_ticksUntilDone_27 rfl 0 rfl ?_
    obtain ⟨j6, ej6, hw⟩ := hw
    refine z_getr (kq := 20) hG f_X12_16 h0 rfl ej6 rfl (by decide) dX12_ticksUntilDone_28 (fun hj6 => ?_)
    refine z_callv hG (z_runS (As := [.ref (za Y j5), .ref (za Y j6)]) (st := []) hG k_X12_219 (MX12_copies l hj5 hj6 hw) ⟨(Nat.le_of_ble_eq_true rfl), (Nat.le_of_ble_eq_true rfl)⟩ rfl (Nat.le_of_ble_eq_true rfl) dX12_ticksUntilDone_31 ⟨Nat.zero_le _, Nat.zero_le _⟩ rfl) (fun σ7 hw => ?_)
    refine z_aload_n hG dX12_ticksUntilDone_34 rfl 0 rfl ?_
    refine z_iload_n hG dX12_ticksUntilDone_35 rfl 1 rfl ?_
    refine z_calli hG (z_runV (As := [.int v1]) (st := []) hG k_X12_203 (MX12_goesOn l h0 hw) ⟨(Nat.le_of_ble_eq_true rfl), (Nat.le_of_ble_eq_true rfl)⟩ h0 (T := TX12) (N := 23) rfl (by decide) rfl (Nat.le_of_ble_eq_true rfl) dX12_ticksUntilDone_36 ⟨Nat.zero_le _, Nat.zero_le _⟩ rfl) (fun r9 σ8 hw => ?_)
    refine z_istore_n (lv' := [(2, .int r9), (0, .ref (za Y t0)), (1, .int v1)]) hG dX12_ticksUntilDone_39 rfl (by decide) rfl ?_
    refine z_aload_n hG dX12_ticksUntilDone_40 rfl 1 rfl ?_
    refine z_calli hG (z_runV (As := []) (st := []) hG k_X12_158 (MX12_isSender l h0 hw) ⟨(Nat.le_of_ble_eq_true rfl), (Nat.le_of_ble_eq_true rfl)⟩ h0 (T := TX12) (N := 23) rfl (by decide) rfl (Nat.le_of_ble_eq_true rfl) dX12_ticksUntilDone_41 ⟨Nat.zero_le _, Nat.zero_le _⟩ rfl) (fun r11 σ10 hw => ?_)
    refine z_istore_n (lv' := [(3, .int r11), (2, .int r9), (0, .ref (za Y t0)), (1, .int v1)]) hG dX12_ticksUntilDone_44 rfl (by decide) rfl ?_
    refine z_aload_n hG dX12_ticksUntilDone_45 rfl 2 rfl ?_
    obtain ⟨j12, ej12, hw⟩ := hw
    refine z_getr (kq := 20) hG f_X12_16 h0 rfl ej12 rfl (by decide) dX12_ticksUntilDone_46 (fun hj12 => ?_)
    refine z_aload_n hG dX12_ticksUntilDone_49 rfl 2 rfl ?_
    obtain ⟨j13, ej13, hw⟩ := hw
    refine z_getr (kq := 20) hG f_X12_7 h0 rfl ej13 rfl (by decide) dX12_ticksUntilDone_50 (fun hj13 => ?_)
    refine z_callv hG (z_runS (As := [.ref (za Y j12), .ref (za Y j13)]) (st := []) hG k_X12_219 (MX12_copies l hj12 hj13 hw) ⟨(Nat.le_of_ble_eq_true rfl), (Nat.le_of_ble_eq_true rfl)⟩ rfl (Nat.le_of_ble_eq_true rfl) dX12_ticksUntilDone_53 ⟨Nat.zero_le _, Nat.zero_le _⟩ rfl) (fun σ14 hw => ?_)
    refine z_iload_n hG dX12_ticksUntilDone_56 rfl 0 rfl ?_
    refine z_if_eq (tgt := 64) hG dX12_ticksUntilDone_57 (by decide) (fun c15 => ?_) (fun c15 => ?_)
    · have hw := hw.1 c15
      refine z_iload_n hG dX12_ticksUntilDone_64 rfl 1 rfl ?_
      exact z_iret hG rfl rfl dX12_ticksUntilDone_65 hw
    · have hw := hw.2 c15
      refine z_iconst (v := (-1)) hG dX12_ticksUntilDone_60 (by decide) ?_
      refine z_goto (tgt := 65) hG dX12_ticksUntilDone_61 (by decide) ?_
      exact z_iret hG rfl rfl dX12_ticksUntilDone_65 hw
  · have hw := hw.1 c18
    refine z_aload_n hG dX12_ticksUntilDone_17 rfl 0 rfl ?_
    refine z_iconst (v := 1) hG dX12_ticksUntilDone_18 (by decide) ?_
    refine z_calli hG (z_runV (As := [.int 1]) (st := []) hG k_X12_174 (MX12_raise l h0 hw) ⟨(Nat.le_of_ble_eq_true rfl), (Nat.le_of_ble_eq_true rfl)⟩ h0 (T := TX12) (N := 23) rfl (by decide) rfl (Nat.le_of_ble_eq_true rfl) dX12_ticksUntilDone_19 ⟨Nat.zero_le _, Nat.zero_le _⟩ rfl) (fun r17 σ16 hw => ?_)
    exact z_iret hG rfl rfl dX12_ticksUntilDone_22 hw
-- TypeWheelTelegraphModel.bestCorrection(I)I
def wX12_bestCorrection_89 (ln : Nat → Nat) (Q : Int32 → zS → Prop) (kb41 : Nat → Int32 → Int32 → Int32 → Int32 → zS → Prop) (t0 : Nat) (v1 : Int32) (v4 : Int32) (v5 : Int32) (σ : zS) : Prop := ∀ x1 : Int32, x1 = v4 + 25 → kb41 t0 v1 v4 v5 x1 σ
def wX12_bestCorrection_41 (ln : Nat → Nat) (Q : Int32 → zS → Prop) : Nat → Nat → Int32 → Int32 → Int32 → Int32 → zS → Prop
  | 0, _, _, _, _, _, _ => False
  | n + 1, t0, v1, v2, v3, v4, σ => ((500 < v4 → Q v2 σ) ∧ (¬ 500 < v4 → ∃ j1 : Nat, gr σ t0 1 = some j1 ∧ vp_in (2 : Int32) (ln j1) ∧ ∀ σ3 : zS, σ3 = si σ j1 (2 : Int32).toNatClampNeg v4 → wX12_wrongIn ln σ3 t0 v1 (fun r5 σ4 => ∃ j6 : Nat, gr σ4 t0 3 = some j6 ∧ ∃ j7 : Nat, gr σ4 t0 1 = some j7 ∧ wX12_copies ln σ4 j6 j7 (fun σ8 => ((v2 = (-1) → wX12_bestCorrection_89 ln Q (wX12_bestCorrection_41 ln Q n) t0 v1 v4 r5 σ8) ∧ (¬ v2 = (-1) → ((r5 < v3 → wX12_bestCorrection_89 ln Q (wX12_bestCorrection_41 ln Q n) t0 v1 v4 r5 σ8) ∧ (¬ r5 < v3 → ∀ x9 : Int32, x9 = v4 + 25 → (wX12_bestCorrection_41 ln Q n) t0 v1 v2 v3 x9 σ8))))))))
def wX12_bestCorrection (ln : Nat → Nat) (σ : zS) (t0 : Nat) (v1 : Int32) (Q : Int32 → zS → Prop) : Prop := ∀ σ1 : zS, σ1 = si σ t0 0 0 → ∀ x2 : Int64, x2 = v1.toInt64 → wX12_isIn ln σ1 x2 1 1000 (fun r4 σ3 => ((r4 = 0 → wX12_raise ln σ3 t0 1 (fun r10 σ9 => Q r10 σ9)) ∧ (¬ r4 = 0 → ∃ j5 : Nat, gr σ3 t0 1 = some j5 ∧ ∃ j6 : Nat, gr σ3 t0 3 = some j6 ∧ wX12_copies ln σ3 j5 j6 (fun σ7 => ∃ n8 : Nat, wX12_bestCorrection_41 ln Q n8 t0 v1 (-1) 0 0 σ7))))
abbrev rX12_bestCorrection : Room := { frames := 10, cells := 0, slots := 0, locals := 223 }
set_option maxRecDepth 100000 in
set_option maxHeartbeats 4000000 in
theorem BX12_bestCorrection_89 {l : Launch} {E : zE} {Y : zY} {p : Program} {e : Env} {s : State} {m : MethodId} {args : Array Value} {below : List Frame} {meth : Method} {c : Code} (hG : zG E p l s m args meth c cX12_bestCorrection 6 RX12 (some .int) (zA Y s.heap.size)) {Q : Int32 → zS → Prop} {kb41 : Nat → Int32 → Int32 → Int32 → Int32 → zS → Prop} (hkb41 : ∀ (t0 : Nat) (v1 : Int32) (v2 : Int32) (v3 : Int32) (v4 : Int32) (σ : zS), kb41 t0 v1 v2 v3 v4 σ → zT Y 12 t0 → WW E Y σ p l e rX12_bestCorrection s m args below meth c (zA Y s.heap.size) 6 0 0 (MQ below (va_Qi Q (zB E Y s.heap.size) (zA Y s.heap.size)) args s 0 0 (zA Y s.heap.size)) [(0, .ref (za Y t0)), (1, .int v1), (2, .int v2), (3, .int v3), (4, .int v4)] 41 []) : ∀ (t0 : Nat) (v1 : Int32) (v4 : Int32) (v5 : Int32) (σ : zS), wX12_bestCorrection_89 (zln Y) Q kb41 t0 v1 v4 v5 σ → zT Y 12 t0 → WW E Y σ p l e rX12_bestCorrection s m args below meth c (zA Y s.heap.size) 6 0 0 (MQ below (va_Qi Q (zB E Y s.heap.size) (zA Y s.heap.size)) args s 0 0 (zA Y s.heap.size)) [(0, .ref (za Y t0)), (1, .int v1), (4, .int v4), (5, .int v5)] 89 [] := by
  intro t0 v1 v4 v5 σ hw h0
  unfold wX12_bestCorrection_89 at hw
  refine z_iload hG dX12_bestCorrection_89 2 rfl ?_
  refine z_istore_n (lv' := [(2, .int v4), (0, .ref (za Y t0)), (1, .int v1), (4, .int v4), (5, .int v5)]) hG dX12_bestCorrection_91 rfl (by decide) rfl ?_
  refine z_iload hG dX12_bestCorrection_92 4 rfl ?_
  refine z_istore_n (lv' := [(3, .int v5), (2, .int v4), (0, .ref (za Y t0)), (1, .int v1), (4, .int v4), (5, .int v5)]) hG dX12_bestCorrection_94 rfl (by decide) rfl ?_
  obtain ⟨x1, ex1⟩ : ∃ y : Int32, y = v4 + 25 := ⟨_, rfl⟩
  have hw := hw x1 ex1
  refine z_iinc (v := x1) (lv' := [(4, .int x1), (3, .int v5), (2, .int v4), (0, .ref (za Y t0)), (1, .int v1), (5, .int v5)]) hG dX12_bestCorrection_95 4 rfl (by rw [ex1]; rfl) (by decide) rfl ?_
  refine z_goto (tgt := 41) hG dX12_bestCorrection_98 (by decide) ?_
  refine zpick [3, 4, 2, 1, 0] (lv' := [(0, .ref (za Y t0)), (1, .int v1), (2, .int v4), (3, .int v5), (4, .int x1)]) rfl ?_
  exact hkb41 t0 v1 v4 v5 x1 σ hw h0
set_option maxRecDepth 100000 in
set_option maxHeartbeats 4000000 in
theorem BX12_bestCorrection_41 {l : Launch} {E : zE} {Y : zY} {p : Program} {e : Env} {s : State} {m : MethodId} {args : Array Value} {below : List Frame} {meth : Method} {c : Code} (hG : zG E p l s m args meth c cX12_bestCorrection 6 RX12 (some .int) (zA Y s.heap.size)) {Q : Int32 → zS → Prop} : ∀ (n : Nat) (t0 : Nat) (v1 : Int32) (v2 : Int32) (v3 : Int32) (v4 : Int32) (σ : zS), wX12_bestCorrection_41 (zln Y) Q n t0 v1 v2 v3 v4 σ → zT Y 12 t0 → WW E Y σ p l e rX12_bestCorrection s m args below meth c (zA Y s.heap.size) 6 0 0 (MQ below (va_Qi Q (zB E Y s.heap.size) (zA Y s.heap.size)) args s 0 0 (zA Y s.heap.size)) [(0, .ref (za Y t0)), (1, .int v1), (2, .int v2), (3, .int v3), (4, .int v4)] 41 [] := by
  intro n
  induction n with
  | zero => intro t0 v1 v2 v3 v4 σ hw
            exact hw.elim
  | succ n ih =>
    intro t0 v1 v2 v3 v4 σ hw h0
    rw [wX12_bestCorrection_41] at hw
    refine z_iload hG dX12_bestCorrection_41 4 rfl ?_
    refine z_sipush (v := 500) hG dX12_bestCorrection_43 (by decide) ?_
    refine z_icmp_gt (tgt := 101) hG dX12_bestCorrection_46 (by decide) (fun c12 => ?_) (fun c12 => ?_)
    · have hw := hw.1 c12
      refine z_iload_n hG dX12_bestCorrection_101 rfl 2 rfl ?_
      exact z_iret hG rfl rfl dX12_bestCorrection_102 hw
    · have hw := hw.2 c12
      refine z_aload_n hG dX12_bestCorrection_49 rfl 0 rfl ?_
      obtain ⟨j1, ej1, hw⟩ := hw
      refine z_getr (kq := 20) hG f_X12_7 h0 rfl ej1 rfl (by decide) dX12_bestCorrection_50 (fun hj1 => ?_)
      refine z_iconst (v := 2) hG dX12_bestCorrection_53 (by decide) ?_
      refine z_iload hG dX12_bestCorrection_54 4 rfl ?_
      obtain ⟨q2, hw⟩ := hw
      refine z_iast hG hj1 q2 dX12_bestCorrection_56 ?_
      refine z_topσ (fun σ3 eσ3 => ?_)
      have hw := hw σ3 eσ3
      refine z_aload_n hG dX12_bestCorrection_57 rfl 0 rfl ?_
      refine z_iload_n hG dX12_bestCorrection_58 rfl 1 rfl ?_
      refine z_calli hG (z_runV (As := [.int v1]) (st := []) hG k_X12_223 (MX12_wrongIn l h0 hw) ⟨(Nat.le_of_ble_eq_true rfl), (Nat.le_of_ble_eq_true rfl)⟩ h0 (T := TX12) (N := 23) rfl (by decide) rfl (Nat.le_of_ble_eq_true rfl) dX12_bestCorrection_59 ⟨Nat.zero_le _, Nat.zero_le _⟩ rfl) (fun r5 σ4 hw => ?_)
      refine z_istore (lv' := [(5, .int r5), (0, .ref (za Y t0)), (1, .int v1), (2, .int v2), (3, .int v3), (4, .int v4)]) hG dX12_bestCorrection_62 (by decide) rfl ?_
      refine z_aload_n hG dX12_bestCorrection_64 rfl 1 rfl ?_
      obtain ⟨j6, ej6, hw⟩ := hw
      refine z_getr (kq := 20) hG f_X12_16 h0 rfl ej6 rfl (by decide) dX12_bestCorrection_65 (fun hj6 => ?_)
      refine z_aload_n hG dX12_bestCorrection_68 rfl 1 rfl ?_
      obtain ⟨j7, ej7, hw⟩ := hw
      refine z_getr (kq := 20) hG f_X12_7 h0 rfl ej7 rfl (by decide) dX12_bestCorrection_69 (fun hj7 => ?_)
      refine z_callv hG (z_runS (As := [.ref (za Y j6), .ref (za Y j7)]) (st := []) hG k_X12_219 (MX12_copies l hj6 hj7 hw) ⟨(Nat.le_of_ble_eq_true rfl), (Nat.le_of_ble_eq_true rfl)⟩ rfl (Nat.le_of_ble_eq_true rfl) dX12_bestCorrection_72 ⟨Nat.zero_le _, Nat.zero_le _⟩ rfl) (fun σ8 hw => ?_)
      refine z_iload_n hG dX12_bestCorrection_75 rfl 3 rfl ?_
      refine z_iconst (v := (-1)) hG dX12_bestCorrection_76 (by decide) ?_
      refine z_icmp_eq (tgt := 89) hG dX12_bestCorrection_77 (by decide) (fun c11 => ?_) (fun c11 => ?_)
      · have hw := hw.1 c11
        refine zpick [1, 2, 5, 0] (lv' := [(0, .ref (za Y t0)), (1, .int v1), (4, .int v4), (5, .int r5)]) rfl ?_
        exact BX12_bestCorrection_89 hG ih t0 v1 v4 r5 σ8 hw h0
      · have hw := hw.2 c11
        refine z_iload hG dX12_bestCorrection_80 0 rfl ?_
        refine z_iload_n hG dX12_bestCorrection_82 rfl 4 rfl ?_
        refine z_icmp_lt (tgt := 89) hG dX12_bestCorrection_83 (by decide) (fun c10 => ?_) (fun c10 => ?_)
        · have hw := hw.1 c10
          refine zpick [1, 2, 5, 0] (lv' := [(0, .ref (za Y t0)), (1, .int v1), (4, .int v4), (5, .int r5)]) rfl ?_
          exact BX12_bestCorrection_89 hG ih t0 v1 v4 r5 σ8 hw h0
        · have hw := hw.2 c10
          refine z_goto (tgt := 95) hG dX12_bestCorrection_86 (by decide) ?_
          obtain ⟨x9, ex9⟩ : ∃ y : Int32, y = v4 + 25 := ⟨_, rfl⟩
          have hw := hw x9 ex9
          refine z_iinc (v := x9) (lv' := [(4, .int x9), (5, .int r5), (0, .ref (za Y t0)), (1, .int v1), (2, .int v2), (3, .int v3)]) hG dX12_bestCorrection_95 5 rfl (by rw [ex9]; rfl) (by decide) rfl ?_
          refine z_goto (tgt := 41) hG dX12_bestCorrection_98 (by decide) ?_
          refine zpick [2, 3, 4, 5, 0] (lv' := [(0, .ref (za Y t0)), (1, .int v1), (2, .int v2), (3, .int v3), (4, .int x9)]) rfl ?_
          exact ih t0 v1 v2 v3 x9 σ8 hw h0
set_option maxRecDepth 100000 in
set_option maxHeartbeats 4000000 in
theorem MX12_bestCorrection (l : Launch) {E : zE} {Y : zY} {σ : zS} {t0 : Nat} {v1 : Int32} (h0 : zT Y 12 t0) {Q : Int32 → zS → Prop} (hw : wX12_bestCorrection (zln Y) σ t0 v1 Q) : ∀ sz, Met l yX12_bestCorrection (zw yX12_bestCorrection cX12_bestCorrection 6 (some .int)) rX12_bestCorrection (zPc E Y σ sz [.ref (za Y t0), .int v1]) (va_Qi Q (zB E Y sz) (zA Y sz)) 0 0 (zA Y sz) := by
  refine z_met (own := RX12) (Qc := fun sz => va_Qi Q (zB E Y sz) (zA Y sz)) (by decide +kernel) rfl (Nat.le_of_ble_eq_true rfl) ?_
  intro p e s m args below meth c hG hinit
  unfold wX12_bestCorrection at hw
  refine zlv (lv' := [(0, .ref (za Y t0)), (1, .int v1)]) rfl ?_
  refine z_aload_n hG dX12_bestCorrection_0 rfl 0 rfl ?_
  refine z_iconst (v := 0) hG dX12_bestCorrection_1 (by decide) ?_
  refine z_puti hG f_X12_47 h0 rfl rfl (zN_int _) dX12_bestCorrection_2 ?_
  refine z_topσ (fun σ1 eσ1 => ?_)
  have hw := hw σ1 eσ1
  refine z_iload_n hG dX12_bestCorrection_5 rfl 1 rfl ?_
  refine z_i2l hG dX12_bestCorrection_6 ?_
  refine z_lconst (v := 1) hG dX12_bestCorrection_7 (by decide) ?_
  refine z_ldc2 (hc := c_X12_92) hG (hd := dX12_bestCorrection_8) ?_
  obtain ⟨x2, ex2⟩ : ∃ y : Int64, y = v1.toInt64 := ⟨_, rfl⟩
  refine zst (st' := [.long 1000, .long 1, .long x2]) (by rw [ex2]) ?_
  have hw := hw x2 ex2
  refine z_calli hG (z_runS (As := [.long x2, .long 1, .long 1000]) (st := []) hG k_X12_58 (MX12_isIn l hw) ⟨(Nat.le_of_ble_eq_true rfl), (Nat.le_of_ble_eq_true rfl)⟩ rfl (Nat.le_of_ble_eq_true rfl) dX12_bestCorrection_11 ⟨Nat.zero_le _, Nat.zero_le _⟩ rfl) (fun r4 σ3 hw => ?_)
  refine z_if_ne (tgt := 23) hG dX12_bestCorrection_14 (by decide) (fun c11 => ?_) (fun c11 => ?_)
  · have hw := hw.2 c11
    refine z_aload_n hG dX12_bestCorrection_23 rfl 0 rfl ?_
    obtain ⟨j5, ej5, hw⟩ := hw
    refine z_getr (kq := 20) hG f_X12_7 h0 rfl ej5 rfl (by decide) dX12_bestCorrection_24 (fun hj5 => ?_)
    refine z_aload_n hG dX12_bestCorrection_27 rfl 0 rfl ?_
    obtain ⟨j6, ej6, hw⟩ := hw
    refine z_getr (kq := 20) hG f_X12_16 h0 rfl ej6 rfl (by decide) dX12_bestCorrection_28 (fun hj6 => ?_)
    refine z_callv hG (z_runS (As := [.ref (za Y j5), .ref (za Y j6)]) (st := []) hG k_X12_219 (MX12_copies l hj5 hj6 hw) ⟨(Nat.le_of_ble_eq_true rfl), (Nat.le_of_ble_eq_true rfl)⟩ rfl (Nat.le_of_ble_eq_true rfl) dX12_bestCorrection_31 ⟨Nat.zero_le _, Nat.zero_le _⟩ rfl) (fun σ7 hw => ?_)
    refine z_iconst (v := (-1)) hG dX12_bestCorrection_34 (by decide) ?_
    refine z_istore_n (lv' := [(2, .int (-1)), (0, .ref (za Y t0)), (1, .int v1)]) hG dX12_bestCorrection_35 rfl (by decide) rfl ?_
    refine z_iconst (v := 0) hG dX12_bestCorrection_36 (by decide) ?_
    refine z_istore_n (lv' := [(3, .int 0), (2, .int (-1)), (0, .ref (za Y t0)), (1, .int v1)]) hG dX12_bestCorrection_37 rfl (by decide) rfl ?_
    refine z_iconst (v := 0) hG dX12_bestCorrection_38 (by decide) ?_
    refine z_istore (lv' := [(4, .int 0), (3, .int 0), (2, .int (-1)), (0, .ref (za Y t0)), (1, .int v1)]) hG dX12_bestCorrection_39 (by decide) rfl ?_
    obtain ⟨n8, hw⟩ := hw
    refine zpick [3, 4, 2, 1, 0] (lv' := [(0, .ref (za Y t0)), (1, .int v1), (2, .int (-1)), (3, .int 0), (4, .int 0)]) rfl ?_
    exact BX12_bestCorrection_41 hG n8 t0 v1 (-1) 0 0 σ7 hw h0
  · have hw := hw.1 c11
    refine z_aload_n hG dX12_bestCorrection_17 rfl 0 rfl ?_
    refine z_iconst (v := 1) hG dX12_bestCorrection_18 (by decide) ?_
    refine z_calli hG (z_runV (As := [.int 1]) (st := []) hG k_X12_174 (MX12_raise l h0 hw) ⟨(Nat.le_of_ble_eq_true rfl), (Nat.le_of_ble_eq_true rfl)⟩ h0 (T := TX12) (N := 23) rfl (by decide) rfl (Nat.le_of_ble_eq_true rfl) dX12_bestCorrection_19 ⟨Nat.zero_le _, Nat.zero_le _⟩ rfl) (fun r10 σ9 hw => ?_)
    exact z_iret hG rfl rfl dX12_bestCorrection_22 hw
-- TypeWheelTelegraphModel.bestRate(II)I
def wX12_bestRate_146 (ln : Nat → Nat) (Q : Int32 → zS → Prop) (kb69 : Nat → Int32 → Int32 → Int32 → Int32 → Int32 → Int32 → zS → Prop) (t0 : Nat) (v1 : Int32) (v2 : Int32) (v5 : Int32) (v6 : Int32) (σ : zS) : Prop := ∀ x1 : Int32, x1 = gi σ t0 9 → ∀ x2 : Int32, x2 = v6 + 1 → kb69 t0 v1 v2 v6 x1 v5 x2 σ
def wX12_bestRate_69 (ln : Nat → Nat) (Q : Int32 → zS → Prop) : Nat → Nat → Int32 → Int32 → Int32 → Int32 → Int32 → Int32 → zS → Prop
  | 0, _, _, _, _, _, _, _, _ => False
  | n + 1, t0, v1, v2, v3, v4, v5, v6, σ => (((v5 + 5) < v6 → Q v3 σ) ∧ (¬ (v5 + 5) < v6 → ∀ x1 : Int64, x1 = v6.toInt64 → wX12_isIn ln σ x1 10 999 (fun r3 σ2 => ((r3 = 0 → ∀ x17 : Int32, x17 = v6 + 1 → (wX12_bestRate_69 ln Q n) t0 v1 v2 v3 v4 v5 x17 σ2) ∧ (¬ r3 = 0 → ∃ j4 : Nat, gr σ2 t0 1 = some j4 ∧ ∀ x5 : Int32, x5 = 23 + v1 → vp_in x5 (ln j4) ∧ ∀ σ7 : zS, σ7 = si σ2 j4 x5.toNatClampNeg v6 → ∀ σ8 : zS, σ8 = si σ7 t0 9 0 → wX12_wrongIn ln σ8 t0 v2 (fun r10 σ9 => ∃ j11 : Nat, gr σ9 t0 3 = some j11 ∧ ∃ j12 : Nat, gr σ9 t0 1 = some j12 ∧ wX12_copies ln σ9 j11 j12 (fun σ13 => ((v3 = (-1) → wX12_bestRate_146 ln Q (wX12_bestRate_69 ln Q n) t0 v1 v2 v5 v6 σ13) ∧ (¬ v3 = (-1) → (((gi σ13 t0 9) < v4 → wX12_bestRate_146 ln Q (wX12_bestRate_69 ln Q n) t0 v1 v2 v5 v6 σ13) ∧ (¬ (gi σ13 t0 9) < v4 → ∀ x14 : Int32, x14 = v6 + 1 → (wX12_bestRate_69 ln Q n) t0 v1 v2 v3 v4 v5 x14 σ13)))))))))))
def wX12_bestRate (ln : Nat → Nat) (σ : zS) (t0 : Nat) (v1 : Int32) (v2 : Int32) (Q : Int32 → zS → Prop) : Prop := ∀ σ1 : zS, σ1 = si σ t0 0 0 → wX12_isOffice ln σ1 v1 (fun r3 σ2 => ((r3 = 0 → wX12_raise ln σ2 t0 1 (fun r20 σ19 => Q r20 σ19)) ∧ (¬ r3 = 0 → ∀ x4 : Int64, x4 = v2.toInt64 → wX12_isIn ln σ2 x4 1 1000 (fun r6 σ5 => ((r6 = 0 → wX12_raise ln σ5 t0 2 (fun r17 σ16 => Q r17 σ16)) ∧ (¬ r6 = 0 → ∃ j7 : Nat, gr σ5 t0 1 = some j7 ∧ ∃ j8 : Nat, gr σ5 t0 3 = some j8 ∧ wX12_copies ln σ5 j7 j8 (fun σ9 => ∃ j10 : Nat, gr σ9 t0 1 = some j10 ∧ ∀ x11 : Int32, x11 = 23 + v1 → vp_in x11 (ln j10) ∧ ∀ x13 : Int32, x13 = gi σ9 j10 x11.toNatClampNeg → ∀ x14 : Int32, x14 = x13 - 5 → ∃ n15 : Nat, wX12_bestRate_69 ln Q n15 t0 v1 v2 (-1) 0 x13 x14 σ9)))))))
abbrev rX12_bestRate : Room := { frames := 10, cells := 0, slots := 0, locals := 223 }
set_option maxRecDepth 100000 in
set_option maxHeartbeats 4000000 in
theorem BX12_bestRate_146 {l : Launch} {E : zE} {Y : zY} {p : Program} {e : Env} {s : State} {m : MethodId} {args : Array Value} {below : List Frame} {meth : Method} {c : Code} (hG : zG E p l s m args meth c cX12_bestRate 7 RX12 (some .int) (zA Y s.heap.size)) {Q : Int32 → zS → Prop} {kb69 : Nat → Int32 → Int32 → Int32 → Int32 → Int32 → Int32 → zS → Prop} (hkb69 : ∀ (t0 : Nat) (v1 : Int32) (v2 : Int32) (v3 : Int32) (v4 : Int32) (v5 : Int32) (v6 : Int32) (σ : zS), kb69 t0 v1 v2 v3 v4 v5 v6 σ → zT Y 12 t0 → WW E Y σ p l e rX12_bestRate s m args below meth c (zA Y s.heap.size) 7 0 0 (MQ below (va_Qi Q (zB E Y s.heap.size) (zA Y s.heap.size)) args s 0 0 (zA Y s.heap.size)) [(0, .ref (za Y t0)), (1, .int v1), (2, .int v2), (3, .int v3), (4, .int v4), (5, .int v5), (6, .int v6)] 69 []) : ∀ (t0 : Nat) (v1 : Int32) (v2 : Int32) (v5 : Int32) (v6 : Int32) (σ : zS), wX12_bestRate_146 (zln Y) Q kb69 t0 v1 v2 v5 v6 σ → zT Y 12 t0 → WW E Y σ p l e rX12_bestRate s m args below meth c (zA Y s.heap.size) 7 0 0 (MQ below (va_Qi Q (zB E Y s.heap.size) (zA Y s.heap.size)) args s 0 0 (zA Y s.heap.size)) [(0, .ref (za Y t0)), (1, .int v1), (2, .int v2), (5, .int v5), (6, .int v6)] 146 [] := by
  intro t0 v1 v2 v5 v6 σ hw h0
  unfold wX12_bestRate_146 at hw
  refine z_iload hG dX12_bestRate_146 4 rfl ?_
  refine z_istore_n (lv' := [(3, .int v6), (0, .ref (za Y t0)), (1, .int v1), (2, .int v2), (5, .int v5), (6, .int v6)]) hG dX12_bestRate_148 rfl (by decide) rfl ?_
  refine z_aload_n hG dX12_bestRate_149 rfl 1 rfl ?_
  refine z_geti hG f_X12_139 h0 rfl dX12_bestRate_150 ?_
  refine z_topi (fun x1 ex1 => ?_)
  have hw := hw x1 ex1
  refine z_istore (lv' := [(4, .int x1), (3, .int v6), (0, .ref (za Y t0)), (1, .int v1), (2, .int v2), (5, .int v5), (6, .int v6)]) hG dX12_bestRate_153 (by decide) rfl ?_
  obtain ⟨x2, ex2⟩ : ∃ y : Int32, y = v6 + 1 := ⟨_, rfl⟩
  have hw := hw x2 ex2
  refine z_iinc (v := x2) (lv' := [(6, .int x2), (4, .int x1), (3, .int v6), (0, .ref (za Y t0)), (1, .int v1), (2, .int v2), (5, .int v5)]) hG dX12_bestRate_155 6 rfl (by rw [ex2]; rfl) (by decide) rfl ?_
  refine z_goto (tgt := 69) hG dX12_bestRate_158 (by decide) ?_
  refine zpick [3, 4, 5, 2, 1, 6, 0] (lv' := [(0, .ref (za Y t0)), (1, .int v1), (2, .int v2), (3, .int v6), (4, .int x1), (5, .int v5), (6, .int x2)]) rfl ?_
  exact hkb69 t0 v1 v2 v6 x1 v5 x2 σ hw h0
set_option maxRecDepth 100000 in
set_option maxHeartbeats 4000000 in
theorem BX12_bestRate_69 {l : Launch} {E : zE} {Y : zY} {p : Program} {e : Env} {s : State} {m : MethodId} {args : Array Value} {below : List Frame} {meth : Method} {c : Code} (hG : zG E p l s m args meth c cX12_bestRate 7 RX12 (some .int) (zA Y s.heap.size)) {Q : Int32 → zS → Prop} : ∀ (n : Nat) (t0 : Nat) (v1 : Int32) (v2 : Int32) (v3 : Int32) (v4 : Int32) (v5 : Int32) (v6 : Int32) (σ : zS), wX12_bestRate_69 (zln Y) Q n t0 v1 v2 v3 v4 v5 v6 σ → zT Y 12 t0 → WW E Y σ p l e rX12_bestRate s m args below meth c (zA Y s.heap.size) 7 0 0 (MQ below (va_Qi Q (zB E Y s.heap.size) (zA Y s.heap.size)) args s 0 0 (zA Y s.heap.size)) [(0, .ref (za Y t0)), (1, .int v1), (2, .int v2), (3, .int v3), (4, .int v4), (5, .int v5), (6, .int v6)] 69 [] := by
  intro n
  induction n with
  | zero => intro t0 v1 v2 v3 v4 v5 v6 σ hw
            exact hw.elim
  | succ n ih =>
    intro t0 v1 v2 v3 v4 v5 v6 σ hw h0
    rw [wX12_bestRate_69] at hw
    refine z_iload hG dX12_bestRate_69 6 rfl ?_
    refine z_iload hG dX12_bestRate_71 5 rfl ?_
    refine z_iconst (v := 5) hG dX12_bestRate_73 (by decide) ?_
    refine z_iadd hG dX12_bestRate_74 ?_
    refine z_icmp_gt (tgt := 161) hG dX12_bestRate_75 (by decide) (fun c19 => ?_) (fun c19 => ?_)
    · have hw := hw.1 c19
      refine z_iload_n hG dX12_bestRate_161 rfl 3 rfl ?_
      exact z_iret hG rfl rfl dX12_bestRate_162 hw
    · have hw := hw.2 c19
      refine z_iload hG dX12_bestRate_78 6 rfl ?_
      refine z_i2l hG dX12_bestRate_80 ?_
      refine z_ldc2 (hc := c_X12_206) hG (hd := dX12_bestRate_81) ?_
      refine z_ldc2 (hc := c_X12_208) hG (hd := dX12_bestRate_84) ?_
      obtain ⟨x1, ex1⟩ : ∃ y : Int64, y = v6.toInt64 := ⟨_, rfl⟩
      refine zst (st' := [.long 999, .long 10, .long x1]) (by rw [ex1]) ?_
      have hw := hw x1 ex1
      refine z_calli hG (z_runS (As := [.long x1, .long 10, .long 999]) (st := []) hG k_X12_58 (MX12_isIn l hw) ⟨(Nat.le_of_ble_eq_true rfl), (Nat.le_of_ble_eq_true rfl)⟩ rfl (Nat.le_of_ble_eq_true rfl) dX12_bestRate_87 ⟨Nat.zero_le _, Nat.zero_le _⟩ rfl) (fun r3 σ2 hw => ?_)
      refine z_if_ne (tgt := 96) hG dX12_bestRate_90 (by decide) (fun c18 => ?_) (fun c18 => ?_)
      · have hw := hw.2 c18
        refine z_aload_n hG dX12_bestRate_96 rfl 0 rfl ?_
        obtain ⟨j4, ej4, hw⟩ := hw
        refine z_getr (kq := 20) hG f_X12_7 h0 rfl ej4 rfl (by decide) dX12_bestRate_97 (fun hj4 => ?_)
        refine z_bipush (v := 23) hG dX12_bestRate_100 (by decide) ?_
        refine z_iload_n hG dX12_bestRate_102 rfl 1 rfl ?_
        refine z_iadd hG dX12_bestRate_103 ?_
        refine z_iload hG dX12_bestRate_104 6 rfl ?_
        obtain ⟨x5, ex5⟩ : ∃ y : Int32, y = 23 + v1 := ⟨_, rfl⟩
        refine zst (st' := [.int v6, .int x5, .ref (za Y j4)]) (by rw [ex5]) ?_
        have hw := hw x5 ex5
        obtain ⟨q6, hw⟩ := hw
        refine z_iast hG hj4 q6 dX12_bestRate_106 ?_
        refine z_topσ (fun σ7 eσ7 => ?_)
        have hw := hw σ7 eσ7
        refine z_aload_n hG dX12_bestRate_107 rfl 0 rfl ?_
        refine z_iconst (v := 0) hG dX12_bestRate_108 (by decide) ?_
        refine z_puti hG f_X12_139 h0 rfl rfl (zN_int _) dX12_bestRate_109 ?_
        refine z_topσ (fun σ8 eσ8 => ?_)
        have hw := hw σ8 eσ8
        refine z_aload_n hG dX12_bestRate_112 rfl 0 rfl ?_
        refine z_iload_n hG dX12_bestRate_113 rfl 2 rfl ?_
        refine z_calli hG (z_runV (As := [.int v2]) (st := []) hG k_X12_223 (MX12_wrongIn l h0 hw) ⟨(Nat.le_of_ble_eq_true rfl), (Nat.le_of_ble_eq_true rfl)⟩ h0 (T := TX12) (N := 23) rfl (by decide) rfl (Nat.le_of_ble_eq_true rfl) dX12_bestRate_114 ⟨Nat.zero_le _, Nat.zero_le _⟩ rfl) (fun r10 σ9 hw => ?_)
        refine z_pop hG dX12_bestRate_117 rfl ?_
        refine z_aload_n hG dX12_bestRate_118 rfl 0 rfl ?_
        obtain ⟨j11, ej11, hw⟩ := hw
        refine z_getr (kq := 20) hG f_X12_16 h0 rfl ej11 rfl (by decide) dX12_bestRate_119 (fun hj11 => ?_)
        refine z_aload_n hG dX12_bestRate_122 rfl 0 rfl ?_
        obtain ⟨j12, ej12, hw⟩ := hw
        refine z_getr (kq := 20) hG f_X12_7 h0 rfl ej12 rfl (by decide) dX12_bestRate_123 (fun hj12 => ?_)
        refine z_callv hG (z_runS (As := [.ref (za Y j11), .ref (za Y j12)]) (st := []) hG k_X12_219 (MX12_copies l hj11 hj12 hw) ⟨(Nat.le_of_ble_eq_true rfl), (Nat.le_of_ble_eq_true rfl)⟩ rfl (Nat.le_of_ble_eq_true rfl) dX12_bestRate_126 ⟨Nat.zero_le _, Nat.zero_le _⟩ rfl) (fun σ13 hw => ?_)
        refine z_iload_n hG dX12_bestRate_129 rfl 3 rfl ?_
        refine z_iconst (v := (-1)) hG dX12_bestRate_130 (by decide) ?_
        refine z_icmp_eq (tgt := 146) hG dX12_bestRate_131 (by decide) (fun c16 => ?_) (fun c16 => ?_)
        · have hw := hw.1 c16
          refine zpick [0, 1, 2, 5, 6] (lv' := [(0, .ref (za Y t0)), (1, .int v1), (2, .int v2), (5, .int v5), (6, .int v6)]) rfl ?_
          exact BX12_bestRate_146 hG ih t0 v1 v2 v5 v6 σ13 hw h0
        · have hw := hw.2 c16
          refine z_aload_n hG dX12_bestRate_134 rfl 0 rfl ?_
          refine z_geti hG f_X12_139 h0 rfl dX12_bestRate_135 ?_
          refine z_iload hG dX12_bestRate_138 4 rfl ?_
          refine z_icmp_lt (tgt := 146) hG dX12_bestRate_140 (by decide) (fun c15 => ?_) (fun c15 => ?_)
          · have hw := hw.1 c15
            refine zpick [0, 1, 2, 5, 6] (lv' := [(0, .ref (za Y t0)), (1, .int v1), (2, .int v2), (5, .int v5), (6, .int v6)]) rfl ?_
            exact BX12_bestRate_146 hG ih t0 v1 v2 v5 v6 σ13 hw h0
          · have hw := hw.2 c15
            refine z_goto (tgt := 155) hG dX12_bestRate_143 (by decide) ?_
            obtain ⟨x14, ex14⟩ : ∃ y : Int32, y = v6 + 1 := ⟨_, rfl⟩
            have hw := hw x14 ex14
            refine z_iinc (v := x14) (lv' := [(6, .int x14), (0, .ref (za Y t0)), (1, .int v1), (2, .int v2), (3, .int v3), (4, .int v4), (5, .int v5)]) hG dX12_bestRate_155 6 rfl (by rw [ex14]; rfl) (by decide) rfl ?_
            refine z_goto (tgt := 69) hG dX12_bestRate_158 (by decide) ?_
            refine zpick [1, 2, 3, 4, 5, 6, 0] (lv' := [(0, .ref (za Y t0)), (1, .int v1), (2, .int v2), (3, .int v3), (4, .int v4), (5, .int v5), (6, .int x14)]) rfl ?_
            exact ih t0 v1 v2 v3 v4 v5 x14 σ13 hw h0
      · have hw := hw.1 c18
        refine z_goto (tgt := 155) hG dX12_bestRate_93 (by decide) ?_
        obtain ⟨x17, ex17⟩ : ∃ y : Int32, y = v6 + 1 := ⟨_, rfl⟩
        have hw := hw x17 ex17
        refine z_iinc (v := x17) (lv' := [(6, .int x17), (0, .ref (za Y t0)), (1, .int v1), (2, .int v2), (3, .int v3), (4, .int v4), (5, .int v5)]) hG dX12_bestRate_155 6 rfl (by rw [ex17]; rfl) (by decide) rfl ?_
        refine z_goto (tgt := 69) hG dX12_bestRate_158 (by decide) ?_
        refine zpick [1, 2, 3, 4, 5, 6, 0] (lv' := [(0, .ref (za Y t0)), (1, .int v1), (2, .int v2), (3, .int v3), (4, .int v4), (5, .int v5), (6, .int x17)]) rfl ?_
        exact ih t0 v1 v2 v3 v4 v5 x17 σ2 hw h0
set_option maxRecDepth 100000 in
set_option maxHeartbeats 4000000 in
theorem MX12_bestRate (l : Launch) {E : zE} {Y : zY} {σ : zS} {t0 : Nat} {v1 : Int32} {v2 : Int32} (h0 : zT Y 12 t0) {Q : Int32 → zS → Prop} (hw : wX12_bestRate (zln Y) σ t0 v1 v2 Q) : ∀ sz, Met l yX12_bestRate (zw yX12_bestRate cX12_bestRate 7 (some .int)) rX12_bestRate (zPc E Y σ sz [.ref (za Y t0), .int v1, .int v2]) (va_Qi Q (zB E Y sz) (zA Y sz)) 0 0 (zA Y sz) := by
  refine z_met (own := RX12) (Qc := fun sz => va_Qi Q (zB E Y sz) (zA Y sz)) (by decide +kernel) rfl (Nat.le_of_ble_eq_true rfl) ?_
  intro p e s m args below meth c hG hinit
  unfold wX12_bestRate at hw
  refine zlv (lv' := [(0, .ref (za Y t0)), (1, .int v1), (2, .int v2)]) rfl ?_
  refine z_aload_n hG dX12_bestRate_0 rfl 0 rfl ?_
  refine z_iconst (v := 0) hG dX12_bestRate_1 (by decide) ?_
  refine z_puti hG f_X12_47 h0 rfl rfl (zN_int _) dX12_bestRate_2 ?_
  refine z_topσ (fun σ1 eσ1 => ?_)
  have hw := hw σ1 eσ1
  refine z_iload_n hG dX12_bestRate_5 rfl 1 rfl ?_
  refine z_calli hG (z_runS (As := [.int v1]) (st := []) hG k_X12_54 (MX12_isOffice l hw) ⟨(Nat.le_of_ble_eq_true rfl), (Nat.le_of_ble_eq_true rfl)⟩ rfl (Nat.le_of_ble_eq_true rfl) dX12_bestRate_6 ⟨Nat.zero_le _, Nat.zero_le _⟩ rfl) (fun r3 σ2 hw => ?_)
  refine z_if_ne (tgt := 18) hG dX12_bestRate_9 (by decide) (fun c21 => ?_) (fun c21 => ?_)
  · have hw := hw.2 c21
    refine z_iload_n hG dX12_bestRate_18 rfl 2 rfl ?_
    refine z_i2l hG dX12_bestRate_19 ?_
    refine z_lconst (v := 1) hG dX12_bestRate_20 (by decide) ?_
    refine z_ldc2 (hc := c_X12_92) hG (hd := dX12_bestRate_21) ?_
    obtain ⟨x4, ex4⟩ : ∃ y : Int64, y = v2.toInt64 := ⟨_, rfl⟩
    refine zst (st' := [.long 1000, .long 1, .long x4]) (by rw [ex4]) ?_
    have hw := hw x4 ex4
    refine z_calli hG (z_runS (As := [.long x4, .long 1, .long 1000]) (st := []) hG k_X12_58 (MX12_isIn l hw) ⟨(Nat.le_of_ble_eq_true rfl), (Nat.le_of_ble_eq_true rfl)⟩ rfl (Nat.le_of_ble_eq_true rfl) dX12_bestRate_24 ⟨Nat.zero_le _, Nat.zero_le _⟩ rfl) (fun r6 σ5 hw => ?_)
    refine z_if_ne (tgt := 36) hG dX12_bestRate_27 (by decide) (fun c18 => ?_) (fun c18 => ?_)
    · have hw := hw.2 c18
      refine z_aload_n hG dX12_bestRate_36 rfl 0 rfl ?_
      obtain ⟨j7, ej7, hw⟩ := hw
      refine z_getr (kq := 20) hG f_X12_7 h0 rfl ej7 rfl (by decide) dX12_bestRate_37 (fun hj7 => ?_)
      refine z_aload_n hG dX12_bestRate_40 rfl 0 rfl ?_
      obtain ⟨j8, ej8, hw⟩ := hw
      refine z_getr (kq := 20) hG f_X12_16 h0 rfl ej8 rfl (by decide) dX12_bestRate_41 (fun hj8 => ?_)
      refine z_callv hG (z_runS (As := [.ref (za Y j7), .ref (za Y j8)]) (st := []) hG k_X12_219 (MX12_copies l hj7 hj8 hw) ⟨(Nat.le_of_ble_eq_true rfl), (Nat.le_of_ble_eq_true rfl)⟩ rfl (Nat.le_of_ble_eq_true rfl) dX12_bestRate_44 ⟨Nat.zero_le _, Nat.zero_le _⟩ rfl) (fun σ9 hw => ?_)
      refine z_iconst (v := (-1)) hG dX12_bestRate_47 (by decide) ?_
      refine z_istore_n (lv' := [(3, .int (-1)), (0, .ref (za Y t0)), (1, .int v1), (2, .int v2)]) hG dX12_bestRate_48 rfl (by decide) rfl ?_
      refine z_iconst (v := 0) hG dX12_bestRate_49 (by decide) ?_
      refine z_istore (lv' := [(4, .int 0), (3, .int (-1)), (0, .ref (za Y t0)), (1, .int v1), (2, .int v2)]) hG dX12_bestRate_50 (by decide) rfl ?_
      refine z_aload_n hG dX12_bestRate_52 rfl 2 rfl ?_
      obtain ⟨j10, ej10, hw⟩ := hw
      refine z_getr (kq := 20) hG f_X12_7 h0 rfl ej10 rfl (by decide) dX12_bestRate_53 (fun hj10 => ?_)
      refine z_bipush (v := 23) hG dX12_bestRate_56 (by decide) ?_
      refine z_iload_n hG dX12_bestRate_58 rfl 3 rfl ?_
      refine z_iadd hG dX12_bestRate_59 ?_
      refine z_topi (fun x11 ex11 => ?_)
      have hw := hw x11 ex11
      obtain ⟨q12, hw⟩ := hw
      refine z_iald hG hj10 q12 dX12_bestRate_60 ?_
      refine z_topi (fun x13 ex13 => ?_)
      have hw := hw x13 ex13
      refine z_istore (lv' := [(5, .int x13), (4, .int 0), (3, .int (-1)), (0, .ref (za Y t0)), (1, .int v1), (2, .int v2)]) hG dX12_bestRate_61 (by decide) rfl ?_
      refine z_iload hG dX12_bestRate_63 0 rfl ?_
      refine z_iconst (v := 5) hG dX12_bestRate_65 (by decide) ?_
      refine z_isub hG dX12_bestRate_66 ?_
      refine z_topi (fun x14 ex14 => ?_)
      have hw := hw x14 ex14
      refine z_istore (lv' := [(6, .int x14), (5, .int x13), (4, .int 0), (3, .int (-1)), (0, .ref (za Y t0)), (1, .int v1), (2, .int v2)]) hG dX12_bestRate_67 (by decide) rfl ?_
      obtain ⟨n15, hw⟩ := hw
      refine zpick [4, 5, 6, 3, 2, 1, 0] (lv' := [(0, .ref (za Y t0)), (1, .int v1), (2, .int v2), (3, .int (-1)), (4, .int 0), (5, .int x13), (6, .int x14)]) rfl ?_
      exact BX12_bestRate_69 hG n15 t0 v1 v2 (-1) 0 x13 x14 σ9 hw h0
    · have hw := hw.1 c18
      refine z_aload_n hG dX12_bestRate_30 rfl 0 rfl ?_
      refine z_iconst (v := 2) hG dX12_bestRate_31 (by decide) ?_
      refine z_calli hG (z_runV (As := [.int 2]) (st := []) hG k_X12_174 (MX12_raise l h0 hw) ⟨(Nat.le_of_ble_eq_true rfl), (Nat.le_of_ble_eq_true rfl)⟩ h0 (T := TX12) (N := 23) rfl (by decide) rfl (Nat.le_of_ble_eq_true rfl) dX12_bestRate_32 ⟨Nat.zero_le _, Nat.zero_le _⟩ rfl) (fun r17 σ16 hw => ?_)
      exact z_iret hG rfl rfl dX12_bestRate_35 hw
  · have hw := hw.1 c21
    refine z_aload_n hG dX12_bestRate_12 rfl 0 rfl ?_
    refine z_iconst (v := 1) hG dX12_bestRate_13 (by decide) ?_
    refine z_calli hG (z_runV (As := [.int 1]) (st := []) hG k_X12_174 (MX12_raise l h0 hw) ⟨(Nat.le_of_ble_eq_true rfl), (Nat.le_of_ble_eq_true rfl)⟩ h0 (T := TX12) (N := 23) rfl (by decide) rfl (Nat.le_of_ble_eq_true rfl) dX12_bestRate_14 ⟨Nat.zero_le _, Nat.zero_le _⟩ rfl) (fun r20 σ19 hw => ?_)
    exact z_iret hG rfl rfl dX12_bestRate_17 hw
-- TypeWheelTelegraphModel.bestNudge(II)I
def wX12_bestNudge_136 (ln : Nat → Nat) (Q : Int32 → zS → Prop) (kb55 : Nat → Int32 → Int32 → Int32 → Int32 → Int32 → zS → Prop) (kb66 : Nat → Int32 → Int32 → Int32 → Int32 → Int32 → Int32 → zS → Prop) (t0 : Nat) (v1 : Int32) (v2 : Int32) (v5 : Int32) (v6 : Int32) (v7 : Int32) (σ : zS) : Prop := ∀ x1 : Int32, x1 = v6 * v5 → ∀ x2 : Int32, x2 = v6 + 2 → kb66 t0 v1 v2 x1 v7 v5 x2 σ
def wX12_bestNudge_66 (ln : Nat → Nat) (Q : Int32 → zS → Prop) (kb55 : Nat → Int32 → Int32 → Int32 → Int32 → Int32 → zS → Prop) : Nat → Nat → Int32 → Int32 → Int32 → Int32 → Int32 → Int32 → zS → Prop
  | 0, _, _, _, _, _, _, _, _ => False
  | n + 1, t0, v1, v2, v3, v4, v5, v6, σ => ((1 < v6 → ∀ x1 : Int32, x1 = v5 + 100 → kb55 t0 v1 v2 v3 v4 x1 σ) ∧ (¬ 1 < v6 → ∃ j2 : Nat, gr σ t0 1 = some j2 ∧ ∃ j3 : Nat, gr σ t0 1 = some j3 ∧ ∀ x4 : Int32, x4 = 21 + v1 → vp_in x4 (ln j3) ∧ ∀ x6 : Int64, x6 = ((gi σ j3 x4.toNatClampNeg).toInt64) + ((v6 * v5).toInt64) → wX12_within ln σ t0 x6 (fun r8 σ7 => ∀ x9 : Int32, x9 = 21 + v1 → vp_in x9 (ln j2) ∧ ∀ σ11 : zS, σ11 = si σ7 j2 x9.toNatClampNeg r8 → wX12_wrongIn ln σ11 t0 v2 (fun r13 σ12 => ∃ j14 : Nat, gr σ12 t0 3 = some j14 ∧ ∃ j15 : Nat, gr σ12 t0 1 = some j15 ∧ wX12_copies ln σ12 j14 j15 (fun σ16 => ((v4 = (-1) → wX12_bestNudge_136 ln Q kb55 (wX12_bestNudge_66 ln Q kb55 n) t0 v1 v2 v5 v6 r13 σ16) ∧ (¬ v4 = (-1) → ((r13 < v4 → wX12_bestNudge_136 ln Q kb55 (wX12_bestNudge_66 ln Q kb55 n) t0 v1 v2 v5 v6 r13 σ16) ∧ (¬ r13 < v4 → ∀ x17 : Int32, x17 = v6 + 2 → (wX12_bestNudge_66 ln Q kb55 n) t0 v1 v2 v3 v4 v5 x17 σ16)))))))))
def wX12_bestNudge_55 (ln : Nat → Nat) (Q : Int32 → zS → Prop) : Nat → Nat → Int32 → Int32 → Int32 → Int32 → Int32 → zS → Prop
  | 0, _, _, _, _, _, _, _ => False
  | n + 1, t0, v1, v2, v3, v4, v5, σ => ((500 < v5 → Q v3 σ) ∧ (¬ 500 < v5 → ∃ n1 : Nat, wX12_bestNudge_66 ln Q (wX12_bestNudge_55 ln Q n) n1 t0 v1 v2 v3 v4 v5 (-1) σ))
def wX12_bestNudge (ln : Nat → Nat) (σ : zS) (t0 : Nat) (v1 : Int32) (v2 : Int32) (Q : Int32 → zS → Prop) : Prop := ∀ σ1 : zS, σ1 = si σ t0 0 0 → wX12_isOffice ln σ1 v1 (fun r3 σ2 => ((r3 = 0 → wX12_raise ln σ2 t0 1 (fun r15 σ14 => Q r15 σ14)) ∧ (¬ r3 = 0 → ∀ x4 : Int64, x4 = v2.toInt64 → wX12_isIn ln σ2 x4 1 1000 (fun r6 σ5 => ((r6 = 0 → wX12_raise ln σ5 t0 2 (fun r12 σ11 => Q r12 σ11)) ∧ (¬ r6 = 0 → ∃ j7 : Nat, gr σ5 t0 1 = some j7 ∧ ∃ j8 : Nat, gr σ5 t0 3 = some j8 ∧ wX12_copies ln σ5 j7 j8 (fun σ9 => ∃ n10 : Nat, wX12_bestNudge_55 ln Q n10 t0 v1 v2 0 (-1) 0 σ9)))))))
abbrev rX12_bestNudge : Room := { frames := 10, cells := 0, slots := 0, locals := 223 }
set_option maxRecDepth 100000 in
set_option maxHeartbeats 4000000 in
theorem BX12_bestNudge_136 {l : Launch} {E : zE} {Y : zY} {p : Program} {e : Env} {s : State} {m : MethodId} {args : Array Value} {below : List Frame} {meth : Method} {c : Code} (hG : zG E p l s m args meth c cX12_bestNudge 8 RX12 (some .int) (zA Y s.heap.size)) {Q : Int32 → zS → Prop} {kb55 : Nat → Int32 → Int32 → Int32 → Int32 → Int32 → zS → Prop} (hkb55 : ∀ (t0 : Nat) (v1 : Int32) (v2 : Int32) (v3 : Int32) (v4 : Int32) (v5 : Int32) (σ : zS), kb55 t0 v1 v2 v3 v4 v5 σ → zT Y 12 t0 → WW E Y σ p l e rX12_bestNudge s m args below meth c (zA Y s.heap.size) 8 0 0 (MQ below (va_Qi Q (zB E Y s.heap.size) (zA Y s.heap.size)) args s 0 0 (zA Y s.heap.size)) [(0, .ref (za Y t0)), (1, .int v1), (2, .int v2), (3, .int v3), (4, .int v4), (5, .int v5)] 55 []) {kb66 : Nat → Int32 → Int32 → Int32 → Int32 → Int32 → Int32 → zS → Prop} (hkb66 : ∀ (t0 : Nat) (v1 : Int32) (v2 : Int32) (v3 : Int32) (v4 : Int32) (v5 : Int32) (v6 : Int32) (σ : zS), kb66 t0 v1 v2 v3 v4 v5 v6 σ → zT Y 12 t0 → WW E Y σ p l e rX12_bestNudge s m args below meth c (zA Y s.heap.size) 8 0 0 (MQ below (va_Qi Q (zB E Y s.heap.size) (zA Y s.heap.size)) args s 0 0 (zA Y s.heap.size)) [(0, .ref (za Y t0)), (1, .int v1), (2, .int v2), (3, .int v3), (4, .int v4), (5, .int v5), (6, .int v6)] 66 []) : ∀ (t0 : Nat) (v1 : Int32) (v2 : Int32) (v5 : Int32) (v6 : Int32) (v7 : Int32) (σ : zS), wX12_bestNudge_136 (zln Y) Q kb55 kb66 t0 v1 v2 v5 v6 v7 σ → zT Y 12 t0 → WW E Y σ p l e rX12_bestNudge s m args below meth c (zA Y s.heap.size) 8 0 0 (MQ below (va_Qi Q (zB E Y s.heap.size) (zA Y s.heap.size)) args s 0 0 (zA Y s.heap.size)) [(0, .ref (za Y t0)), (1, .int v1), (2, .int v2), (5, .int v5), (6, .int v6), (7, .int v7)] 136 [] := by
  intro t0 v1 v2 v5 v6 v7 σ hw h0
  unfold wX12_bestNudge_136 at hw
  refine z_iload hG dX12_bestNudge_136 4 rfl ?_
  refine z_iload hG dX12_bestNudge_138 3 rfl ?_
  refine z_imul hG dX12_bestNudge_140 ?_
  refine z_topi (fun x1 ex1 => ?_)
  have hw := hw x1 ex1
  refine z_istore_n (lv' := [(3, .int x1), (0, .ref (za Y t0)), (1, .int v1), (2, .int v2), (5, .int v5), (6, .int v6), (7, .int v7)]) hG dX12_bestNudge_141 rfl (by decide) rfl ?_
  refine z_iload hG dX12_bestNudge_142 6 rfl ?_
  refine z_istore (lv' := [(4, .int v7), (3, .int x1), (0, .ref (za Y t0)), (1, .int v1), (2, .int v2), (5, .int v5), (6, .int v6), (7, .int v7)]) hG dX12_bestNudge_144 (by decide) rfl ?_
  obtain ⟨x2, ex2⟩ : ∃ y : Int32, y = v6 + 2 := ⟨_, rfl⟩
  have hw := hw x2 ex2
  refine z_iinc (v := x2) (lv' := [(6, .int x2), (4, .int v7), (3, .int x1), (0, .ref (za Y t0)), (1, .int v1), (2, .int v2), (5, .int v5), (7, .int v7)]) hG dX12_bestNudge_146 6 rfl (by rw [ex2]; rfl) (by decide) rfl ?_
  refine z_goto (tgt := 66) hG dX12_bestNudge_149 (by decide) ?_
  refine zpick [3, 4, 5, 2, 1, 6, 0] (lv' := [(0, .ref (za Y t0)), (1, .int v1), (2, .int v2), (3, .int x1), (4, .int v7), (5, .int v5), (6, .int x2)]) rfl ?_
  exact hkb66 t0 v1 v2 x1 v7 v5 x2 σ hw h0
set_option maxRecDepth 100000 in
set_option maxHeartbeats 4000000 in
theorem BX12_bestNudge_66 {l : Launch} {E : zE} {Y : zY} {p : Program} {e : Env} {s : State} {m : MethodId} {args : Array Value} {below : List Frame} {meth : Method} {c : Code} (hG : zG E p l s m args meth c cX12_bestNudge 8 RX12 (some .int) (zA Y s.heap.size)) {Q : Int32 → zS → Prop} {kb55 : Nat → Int32 → Int32 → Int32 → Int32 → Int32 → zS → Prop} (hkb55 : ∀ (t0 : Nat) (v1 : Int32) (v2 : Int32) (v3 : Int32) (v4 : Int32) (v5 : Int32) (σ : zS), kb55 t0 v1 v2 v3 v4 v5 σ → zT Y 12 t0 → WW E Y σ p l e rX12_bestNudge s m args below meth c (zA Y s.heap.size) 8 0 0 (MQ below (va_Qi Q (zB E Y s.heap.size) (zA Y s.heap.size)) args s 0 0 (zA Y s.heap.size)) [(0, .ref (za Y t0)), (1, .int v1), (2, .int v2), (3, .int v3), (4, .int v4), (5, .int v5)] 55 []) : ∀ (n : Nat) (t0 : Nat) (v1 : Int32) (v2 : Int32) (v3 : Int32) (v4 : Int32) (v5 : Int32) (v6 : Int32) (σ : zS), wX12_bestNudge_66 (zln Y) Q kb55 n t0 v1 v2 v3 v4 v5 v6 σ → zT Y 12 t0 → WW E Y σ p l e rX12_bestNudge s m args below meth c (zA Y s.heap.size) 8 0 0 (MQ below (va_Qi Q (zB E Y s.heap.size) (zA Y s.heap.size)) args s 0 0 (zA Y s.heap.size)) [(0, .ref (za Y t0)), (1, .int v1), (2, .int v2), (3, .int v3), (4, .int v4), (5, .int v5), (6, .int v6)] 66 [] := by
  intro n
  induction n with
  | zero => intro t0 v1 v2 v3 v4 v5 v6 σ hw
            exact hw.elim
  | succ n ih =>
    intro t0 v1 v2 v3 v4 v5 v6 σ hw h0
    rw [wX12_bestNudge_66] at hw
    refine z_iload hG dX12_bestNudge_66 6 rfl ?_
    refine z_iconst (v := 1) hG dX12_bestNudge_68 (by decide) ?_
    refine z_icmp_gt (tgt := 152) hG dX12_bestNudge_69 (by decide) (fun c20 => ?_) (fun c20 => ?_)
    · have hw := hw.1 c20
      obtain ⟨x1, ex1⟩ : ∃ y : Int32, y = v5 + 100 := ⟨_, rfl⟩
      have hw := hw x1 ex1
      refine z_iinc (v := x1) (lv' := [(5, .int x1), (0, .ref (za Y t0)), (1, .int v1), (2, .int v2), (3, .int v3), (4, .int v4), (6, .int v6)]) hG dX12_bestNudge_152 5 rfl (by rw [ex1]; rfl) (by decide) rfl ?_
      refine z_goto (tgt := 55) hG dX12_bestNudge_155 (by decide) ?_
      refine zpick [1, 2, 3, 4, 5, 0] (lv' := [(0, .ref (za Y t0)), (1, .int v1), (2, .int v2), (3, .int v3), (4, .int v4), (5, .int x1)]) rfl ?_
      exact hkb55 t0 v1 v2 v3 v4 x1 σ hw h0
    · have hw := hw.2 c20
      refine z_aload_n hG dX12_bestNudge_72 rfl 0 rfl ?_
      obtain ⟨j2, ej2, hw⟩ := hw
      refine z_getr (kq := 20) hG f_X12_7 h0 rfl ej2 rfl (by decide) dX12_bestNudge_73 (fun hj2 => ?_)
      refine z_bipush (v := 21) hG dX12_bestNudge_76 (by decide) ?_
      refine z_iload_n hG dX12_bestNudge_78 rfl 1 rfl ?_
      refine z_iadd hG dX12_bestNudge_79 ?_
      refine z_aload_n hG dX12_bestNudge_80 rfl 0 rfl ?_
      refine z_aload_n hG dX12_bestNudge_81 rfl 0 rfl ?_
      obtain ⟨j3, ej3, hw⟩ := hw
      refine z_getr (kq := 20) hG f_X12_7 h0 rfl ej3 rfl (by decide) dX12_bestNudge_82 (fun hj3 => ?_)
      refine z_bipush (v := 21) hG dX12_bestNudge_85 (by decide) ?_
      refine z_iload_n hG dX12_bestNudge_87 rfl 1 rfl ?_
      refine z_iadd hG dX12_bestNudge_88 ?_
      refine z_topi (fun x4 ex4 => ?_)
      have hw := hw x4 ex4
      obtain ⟨q5, hw⟩ := hw
      refine z_iald hG hj3 q5 dX12_bestNudge_89 ?_
      refine z_i2l hG dX12_bestNudge_90 ?_
      refine z_iload hG dX12_bestNudge_91 6 rfl ?_
      refine z_iload hG dX12_bestNudge_93 5 rfl ?_
      refine z_imul hG dX12_bestNudge_95 ?_
      refine z_i2l hG dX12_bestNudge_96 ?_
      refine z_ladd hG dX12_bestNudge_97 ?_
      refine z_topl (fun x6 ex6 => ?_)
      have hw := hw x6 ex6
      refine z_calli hG (z_runV (As := [.long x6]) (st := [.int (21 + v1), .ref (za Y j2)]) hG k_X12_94 (MX12_within l h0 hw) ⟨(Nat.le_of_ble_eq_true rfl), (Nat.le_of_ble_eq_true rfl)⟩ h0 (T := TX12) (N := 23) rfl (by decide) rfl (Nat.le_of_ble_eq_true rfl) dX12_bestNudge_98 ⟨Nat.zero_le _, Nat.zero_le _⟩ rfl) (fun r8 σ7 hw => ?_)
      obtain ⟨x9, ex9⟩ : ∃ y : Int32, y = 21 + v1 := ⟨_, rfl⟩
      refine zst (st' := [.int r8, .int x9, .ref (za Y j2)]) (by rw [ex9]) ?_
      have hw := hw x9 ex9
      obtain ⟨q10, hw⟩ := hw
      refine z_iast hG hj2 q10 dX12_bestNudge_101 ?_
      refine z_topσ (fun σ11 eσ11 => ?_)
      have hw := hw σ11 eσ11
      refine z_aload_n hG dX12_bestNudge_102 rfl 0 rfl ?_
      refine z_iload_n hG dX12_bestNudge_103 rfl 2 rfl ?_
      refine z_calli hG (z_runV (As := [.int v2]) (st := []) hG k_X12_223 (MX12_wrongIn l h0 hw) ⟨(Nat.le_of_ble_eq_true rfl), (Nat.le_of_ble_eq_true rfl)⟩ h0 (T := TX12) (N := 23) rfl (by decide) rfl (Nat.le_of_ble_eq_true rfl) dX12_bestNudge_104 ⟨Nat.zero_le _, Nat.zero_le _⟩ rfl) (fun r13 σ12 hw => ?_)
      refine z_istore (lv' := [(7, .int r13), (0, .ref (za Y t0)), (1, .int v1), (2, .int v2), (3, .int v3), (4, .int v4), (5, .int v5), (6, .int v6)]) hG dX12_bestNudge_107 (by decide) rfl ?_
      refine z_aload_n hG dX12_bestNudge_109 rfl 1 rfl ?_
      obtain ⟨j14, ej14, hw⟩ := hw
      refine z_getr (kq := 20) hG f_X12_16 h0 rfl ej14 rfl (by decide) dX12_bestNudge_110 (fun hj14 => ?_)
      refine z_aload_n hG dX12_bestNudge_113 rfl 1 rfl ?_
      obtain ⟨j15, ej15, hw⟩ := hw
      refine z_getr (kq := 20) hG f_X12_7 h0 rfl ej15 rfl (by decide) dX12_bestNudge_114 (fun hj15 => ?_)
      refine z_callv hG (z_runS (As := [.ref (za Y j14), .ref (za Y j15)]) (st := []) hG k_X12_219 (MX12_copies l hj14 hj15 hw) ⟨(Nat.le_of_ble_eq_true rfl), (Nat.le_of_ble_eq_true rfl)⟩ rfl (Nat.le_of_ble_eq_true rfl) dX12_bestNudge_117 ⟨Nat.zero_le _, Nat.zero_le _⟩ rfl) (fun σ16 hw => ?_)
      refine z_iload hG dX12_bestNudge_120 5 rfl ?_
      refine z_iconst (v := (-1)) hG dX12_bestNudge_122 (by decide) ?_
      refine z_icmp_eq (tgt := 136) hG dX12_bestNudge_123 (by decide) (fun c19 => ?_) (fun c19 => ?_)
      · have hw := hw.1 c19
        refine zpick [1, 2, 3, 6, 7, 0] (lv' := [(0, .ref (za Y t0)), (1, .int v1), (2, .int v2), (5, .int v5), (6, .int v6), (7, .int r13)]) rfl ?_
        exact BX12_bestNudge_136 hG hkb55 ih t0 v1 v2 v5 v6 r13 σ16 hw h0
      · have hw := hw.2 c19
        refine z_iload hG dX12_bestNudge_126 0 rfl ?_
        refine z_iload hG dX12_bestNudge_128 5 rfl ?_
        refine z_icmp_lt (tgt := 136) hG dX12_bestNudge_130 (by decide) (fun c18 => ?_) (fun c18 => ?_)
        · have hw := hw.1 c18
          refine zpick [1, 2, 3, 6, 7, 0] (lv' := [(0, .ref (za Y t0)), (1, .int v1), (2, .int v2), (5, .int v5), (6, .int v6), (7, .int r13)]) rfl ?_
          exact BX12_bestNudge_136 hG hkb55 ih t0 v1 v2 v5 v6 r13 σ16 hw h0
        · have hw := hw.2 c18
          refine z_goto (tgt := 146) hG dX12_bestNudge_133 (by decide) ?_
          obtain ⟨x17, ex17⟩ : ∃ y : Int32, y = v6 + 2 := ⟨_, rfl⟩
          have hw := hw x17 ex17
          refine z_iinc (v := x17) (lv' := [(6, .int x17), (7, .int r13), (0, .ref (za Y t0)), (1, .int v1), (2, .int v2), (3, .int v3), (4, .int v4), (5, .int v5)]) hG dX12_bestNudge_146 7 rfl (by rw [ex17]; rfl) (by decide) rfl ?_
          refine z_goto (tgt := 66) hG dX12_bestNudge_149 (by decide) ?_
          refine zpick [2, 3, 4, 5, 6, 7, 0] (lv' := [(0, .ref (za Y t0)), (1, .int v1), (2, .int v2), (3, .int v3), (4, .int v4), (5, .int v5), (6, .int x17)]) rfl ?_
          exact ih t0 v1 v2 v3 v4 v5 x17 σ16 hw h0
set_option maxRecDepth 100000 in
set_option maxHeartbeats 4000000 in
theorem BX12_bestNudge_55 {l : Launch} {E : zE} {Y : zY} {p : Program} {e : Env} {s : State} {m : MethodId} {args : Array Value} {below : List Frame} {meth : Method} {c : Code} (hG : zG E p l s m args meth c cX12_bestNudge 8 RX12 (some .int) (zA Y s.heap.size)) {Q : Int32 → zS → Prop} : ∀ (n : Nat) (t0 : Nat) (v1 : Int32) (v2 : Int32) (v3 : Int32) (v4 : Int32) (v5 : Int32) (σ : zS), wX12_bestNudge_55 (zln Y) Q n t0 v1 v2 v3 v4 v5 σ → zT Y 12 t0 → WW E Y σ p l e rX12_bestNudge s m args below meth c (zA Y s.heap.size) 8 0 0 (MQ below (va_Qi Q (zB E Y s.heap.size) (zA Y s.heap.size)) args s 0 0 (zA Y s.heap.size)) [(0, .ref (za Y t0)), (1, .int v1), (2, .int v2), (3, .int v3), (4, .int v4), (5, .int v5)] 55 [] := by
  intro n
  induction n with
  | zero => intro t0 v1 v2 v3 v4 v5 σ hw
            exact hw.elim
  | succ n ih =>
    intro t0 v1 v2 v3 v4 v5 σ hw h0
    rw [wX12_bestNudge_55] at hw
    refine z_iload hG dX12_bestNudge_55 5 rfl ?_
    refine z_sipush (v := 500) hG dX12_bestNudge_57 (by decide) ?_
    refine z_icmp_gt (tgt := 158) hG dX12_bestNudge_60 (by decide) (fun c2 => ?_) (fun c2 => ?_)
    · have hw := hw.1 c2
      refine z_iload_n hG dX12_bestNudge_158 rfl 3 rfl ?_
      exact z_iret hG rfl rfl dX12_bestNudge_159 hw
    · have hw := hw.2 c2
      refine z_iconst (v := (-1)) hG dX12_bestNudge_63 (by decide) ?_
      refine z_istore (lv' := [(6, .int (-1)), (0, .ref (za Y t0)), (1, .int v1), (2, .int v2), (3, .int v3), (4, .int v4), (5, .int v5)]) hG dX12_bestNudge_64 (by decide) rfl ?_
      obtain ⟨n1, hw⟩ := hw
      refine zpick [1, 2, 3, 4, 5, 6, 0] (lv' := [(0, .ref (za Y t0)), (1, .int v1), (2, .int v2), (3, .int v3), (4, .int v4), (5, .int v5), (6, .int (-1))]) rfl ?_
      exact BX12_bestNudge_66 hG ih n1 t0 v1 v2 v3 v4 v5 (-1) σ hw h0
set_option maxRecDepth 100000 in
set_option maxHeartbeats 4000000 in
theorem MX12_bestNudge (l : Launch) {E : zE} {Y : zY} {σ : zS} {t0 : Nat} {v1 : Int32} {v2 : Int32} (h0 : zT Y 12 t0) {Q : Int32 → zS → Prop} (hw : wX12_bestNudge (zln Y) σ t0 v1 v2 Q) : ∀ sz, Met l yX12_bestNudge (zw yX12_bestNudge cX12_bestNudge 8 (some .int)) rX12_bestNudge (zPc E Y σ sz [.ref (za Y t0), .int v1, .int v2]) (va_Qi Q (zB E Y sz) (zA Y sz)) 0 0 (zA Y sz) := by
  refine z_met (own := RX12) (Qc := fun sz => va_Qi Q (zB E Y sz) (zA Y sz)) (by decide +kernel) rfl (Nat.le_of_ble_eq_true rfl) ?_
  intro p e s m args below meth c hG hinit
  unfold wX12_bestNudge at hw
  refine zlv (lv' := [(0, .ref (za Y t0)), (1, .int v1), (2, .int v2)]) rfl ?_
  refine z_aload_n hG dX12_bestNudge_0 rfl 0 rfl ?_
  refine z_iconst (v := 0) hG dX12_bestNudge_1 (by decide) ?_
  refine z_puti hG f_X12_47 h0 rfl rfl (zN_int _) dX12_bestNudge_2 ?_
  refine z_topσ (fun σ1 eσ1 => ?_)
  have hw := hw σ1 eσ1
  refine z_iload_n hG dX12_bestNudge_5 rfl 1 rfl ?_
  refine z_calli hG (z_runS (As := [.int v1]) (st := []) hG k_X12_54 (MX12_isOffice l hw) ⟨(Nat.le_of_ble_eq_true rfl), (Nat.le_of_ble_eq_true rfl)⟩ rfl (Nat.le_of_ble_eq_true rfl) dX12_bestNudge_6 ⟨Nat.zero_le _, Nat.zero_le _⟩ rfl) (fun r3 σ2 hw => ?_)
  refine z_if_ne (tgt := 18) hG dX12_bestNudge_9 (by decide) (fun c16 => ?_) (fun c16 => ?_)
  · have hw := hw.2 c16
    refine z_iload_n hG dX12_bestNudge_18 rfl 2 rfl ?_
    refine z_i2l hG dX12_bestNudge_19 ?_
    refine z_lconst (v := 1) hG dX12_bestNudge_20 (by decide) ?_
    refine z_ldc2 (hc := c_X12_92) hG (hd := dX12_bestNudge_21) ?_
    obtain ⟨x4, ex4⟩ : ∃ y : Int64, y = v2.toInt64 := ⟨_, rfl⟩
    refine zst (st' := [.long 1000, .long 1, .long x4]) (by rw [ex4]) ?_
    have hw := hw x4 ex4
    refine z_calli hG (z_runS (As := [.long x4, .long 1, .long 1000]) (st := []) hG k_X12_58 (MX12_isIn l hw) ⟨(Nat.le_of_ble_eq_true rfl), (Nat.le_of_ble_eq_true rfl)⟩ rfl (Nat.le_of_ble_eq_true rfl) dX12_bestNudge_24 ⟨Nat.zero_le _, Nat.zero_le _⟩ rfl) (fun r6 σ5 hw => ?_)
    refine z_if_ne (tgt := 36) hG dX12_bestNudge_27 (by decide) (fun c13 => ?_) (fun c13 => ?_)
    · have hw := hw.2 c13
      refine z_aload_n hG dX12_bestNudge_36 rfl 0 rfl ?_
      obtain ⟨j7, ej7, hw⟩ := hw
      refine z_getr (kq := 20) hG f_X12_7 h0 rfl ej7 rfl (by decide) dX12_bestNudge_37 (fun hj7 => ?_)
      refine z_aload_n hG dX12_bestNudge_40 rfl 0 rfl ?_
      obtain ⟨j8, ej8, hw⟩ := hw
      refine z_getr (kq := 20) hG f_X12_16 h0 rfl ej8 rfl (by decide) dX12_bestNudge_41 (fun hj8 => ?_)
      refine z_callv hG (z_runS (As := [.ref (za Y j7), .ref (za Y j8)]) (st := []) hG k_X12_219 (MX12_copies l hj7 hj8 hw) ⟨(Nat.le_of_ble_eq_true rfl), (Nat.le_of_ble_eq_true rfl)⟩ rfl (Nat.le_of_ble_eq_true rfl) dX12_bestNudge_44 ⟨Nat.zero_le _, Nat.zero_le _⟩ rfl) (fun σ9 hw => ?_)
      refine z_iconst (v := 0) hG dX12_bestNudge_47 (by decide) ?_
      refine z_istore_n (lv' := [(3, .int 0), (0, .ref (za Y t0)), (1, .int v1), (2, .int v2)]) hG dX12_bestNudge_48 rfl (by decide) rfl ?_
      refine z_iconst (v := (-1)) hG dX12_bestNudge_49 (by decide) ?_
      refine z_istore (lv' := [(4, .int (-1)), (3, .int 0), (0, .ref (za Y t0)), (1, .int v1), (2, .int v2)]) hG dX12_bestNudge_50 (by decide) rfl ?_
      refine z_iconst (v := 0) hG dX12_bestNudge_52 (by decide) ?_
      refine z_istore (lv' := [(5, .int 0), (4, .int (-1)), (3, .int 0), (0, .ref (za Y t0)), (1, .int v1), (2, .int v2)]) hG dX12_bestNudge_53 (by decide) rfl ?_
      obtain ⟨n10, hw⟩ := hw
      refine zpick [3, 4, 5, 2, 1, 0] (lv' := [(0, .ref (za Y t0)), (1, .int v1), (2, .int v2), (3, .int 0), (4, .int (-1)), (5, .int 0)]) rfl ?_
      exact BX12_bestNudge_55 hG n10 t0 v1 v2 0 (-1) 0 σ9 hw h0
    · have hw := hw.1 c13
      refine z_aload_n hG dX12_bestNudge_30 rfl 0 rfl ?_
      refine z_iconst (v := 2) hG dX12_bestNudge_31 (by decide) ?_
      refine z_calli hG (z_runV (As := [.int 2]) (st := []) hG k_X12_174 (MX12_raise l h0 hw) ⟨(Nat.le_of_ble_eq_true rfl), (Nat.le_of_ble_eq_true rfl)⟩ h0 (T := TX12) (N := 23) rfl (by decide) rfl (Nat.le_of_ble_eq_true rfl) dX12_bestNudge_32 ⟨Nat.zero_le _, Nat.zero_le _⟩ rfl) (fun r12 σ11 hw => ?_)
      exact z_iret hG rfl rfl dX12_bestNudge_35 hw
  · have hw := hw.1 c16
    refine z_aload_n hG dX12_bestNudge_12 rfl 0 rfl ?_
    refine z_iconst (v := 1) hG dX12_bestNudge_13 (by decide) ?_
    refine z_calli hG (z_runV (As := [.int 1]) (st := []) hG k_X12_174 (MX12_raise l h0 hw) ⟨(Nat.le_of_ble_eq_true rfl), (Nat.le_of_ble_eq_true rfl)⟩ h0 (T := TX12) (N := 23) rfl (by decide) rfl (Nat.le_of_ble_eq_true rfl) dX12_bestNudge_14 ⟨Nat.zero_le _, Nat.zero_le _⟩ rfl) (fun r15 σ14 hw => ?_)
    exact z_iret hG rfl rfl dX12_bestNudge_17 hw
-- TypeWheelTelegraphModel.says(Ljava/lang/String;)V
def wX12_says_2 (ln : Nat → Nat) (Q : zS → Prop) : Nat → Nat → Nat → Int32 → zS → Prop
  | 0, _, _, _, _ => False
  | n + 1, t0, s1, v2, σ => wJ0_length_8abf5 ln σ s1 (fun r2 σ1 => ((r2 ≤ v2 → Q σ1) ∧ (¬ r2 ≤ v2 → wJ0_charAt_5068e ln σ1 s1 v2 (fun r4 σ3 => wX12_puts ln σ3 t0 r4 (fun σ5 => ∀ x6 : Int32, x6 = v2 + 1 → (wX12_says_2 ln Q n) t0 s1 x6 σ5)))))
def wX12_says (ln : Nat → Nat) (σ : zS) (t0 : Nat) (s1 : Nat) (Q : zS → Prop) : Prop := ∃ n1 : Nat, wX12_says_2 ln Q n1 t0 s1 0 σ
abbrev rX12_says : Room := { frames := 4, cells := 0, slots := 0, locals := 85 }
set_option maxRecDepth 100000 in
set_option maxHeartbeats 4000000 in
theorem BX12_says_2 {l : Launch} {E : zE} {Y : zY} {p : Program} {e : Env} {s : State} {m : MethodId} {args : Array Value} {below : List Frame} {meth : Method} {c : Code} (hG : zG E p l s m args meth c cX12_says 3 RX12 none (zA Y s.heap.size)) {Q : zS → Prop} : ∀ (n : Nat) (t0 : Nat) (s1 : Nat) (v2 : Int32) (σ : zS), wX12_says_2 (zln Y) Q n t0 s1 v2 σ → zT Y 12 t0 → s1 < zS_n → WW E Y σ p l e rX12_says s m args below meth c (zA Y s.heap.size) 3 0 0 (MQ below (va_Qv Q (zB E Y s.heap.size) (zA Y s.heap.size)) args s 0 0 (zA Y s.heap.size)) [(0, .ref (za Y t0)), (1, .ref (E.2.2.1 s1)), (2, .int v2)] 2 [] := by
  intro n
  induction n with
  | zero => intro t0 s1 v2 σ hw
            exact hw.elim
  | succ n ih =>
    intro t0 s1 v2 σ hw h0 h1
    rw [wX12_says_2] at hw
    refine z_iload_n hG dX12_says_2 rfl 2 rfl ?_
    refine z_aload_n hG dX12_says_3 rfl 1 rfl ?_
    refine z_calli hG (z_runVs (As := []) (st := [.int v2]) hG k_X12_229 (MJ0_length_8abf5 l h1 hw) ⟨(Nat.le_of_ble_eq_true rfl), (Nat.le_of_ble_eq_true rfl)⟩ h1 rfl (Nat.le_of_ble_eq_true rfl) dX12_says_4 ⟨Nat.zero_le _, Nat.zero_le _⟩ rfl) (fun r2 σ1 hw => ?_)
    refine z_icmp_ge (tgt := 25) hG dX12_says_7 (by decide) (fun c7 => ?_) (fun c7 => ?_)
    · have hw := hw.1 c7
      exact z_vret hG rfl dX12_says_25 hw
    · have hw := hw.2 c7
      refine z_aload_n hG dX12_says_10 rfl 0 rfl ?_
      refine z_aload_n hG dX12_says_11 rfl 1 rfl ?_
      refine z_iload_n hG dX12_says_12 rfl 2 rfl ?_
      refine z_calli hG (z_runVs (As := [.int v2]) (st := [.ref (za Y t0)]) hG k_X12_126 (MJ0_charAt_5068e l h1 hw) ⟨(Nat.le_of_ble_eq_true rfl), (Nat.le_of_ble_eq_true rfl)⟩ h1 rfl (Nat.le_of_ble_eq_true rfl) dX12_says_13 ⟨Nat.zero_le _, Nat.zero_le _⟩ rfl) (fun r4 σ3 hw => ?_)
      refine z_callv hG (z_runV (As := [.int r4]) (st := []) hG k_X12_232 (MX12_puts l h0 hw) ⟨(Nat.le_of_ble_eq_true rfl), (Nat.le_of_ble_eq_true rfl)⟩ h0 (T := TX12) (N := 23) rfl (by decide) rfl (Nat.le_of_ble_eq_true rfl) dX12_says_16 ⟨Nat.zero_le _, Nat.zero_le _⟩ rfl) (fun σ5 hw => ?_)
      obtain ⟨x6, ex6⟩ : ∃ y : Int32, y = v2 + 1 := ⟨_, rfl⟩
      have hw := hw x6 ex6
      refine z_iinc (v := x6) (lv' := [(2, .int x6), (0, .ref (za Y t0)), (1, .ref (E.2.2.1 s1))]) hG dX12_says_19 2 rfl (by rw [ex6]; rfl) (by decide) rfl ?_
      refine z_goto (tgt := 2) hG dX12_says_22 (by decide) ?_
      refine zpick [1, 2, 0] (lv' := [(0, .ref (za Y t0)), (1, .ref (E.2.2.1 s1)), (2, .int x6)]) rfl ?_
      exact ih t0 s1 x6 σ5 hw h0 h1
set_option maxRecDepth 100000 in
set_option maxHeartbeats 4000000 in
theorem MX12_says (l : Launch) {E : zE} {Y : zY} {σ : zS} {t0 : Nat} {s1 : Nat} (h0 : zT Y 12 t0) (h1 : s1 < zS_n) {Q : zS → Prop} (hw : wX12_says (zln Y) σ t0 s1 Q) : ∀ sz, Met l yX12_says (zw yX12_says cX12_says 3 none) rX12_says (zPc E Y σ sz [.ref (za Y t0), .ref (E.2.2.1 s1)]) (va_Qv Q (zB E Y sz) (zA Y sz)) 0 0 (zA Y sz) := by
  refine z_met (own := RX12) (Qc := fun sz => va_Qv Q (zB E Y sz) (zA Y sz)) (by decide +kernel) rfl (Nat.le_of_ble_eq_true rfl) ?_
  intro p e s m args below meth c hG hinit
  unfold wX12_says at hw
  refine zlv (lv' := [(0, .ref (za Y t0)), (1, .ref (E.2.2.1 s1))]) rfl ?_
  refine z_iconst (v := 0) hG dX12_says_0 (by decide) ?_
  refine z_istore_n (lv' := [(2, .int 0), (0, .ref (za Y t0)), (1, .ref (E.2.2.1 s1))]) hG dX12_says_1 rfl (by decide) rfl ?_
  obtain ⟨n1, hw⟩ := hw
  refine zpick [1, 2, 0] (lv' := [(0, .ref (za Y t0)), (1, .ref (E.2.2.1 s1)), (2, .int 0)]) rfl ?_
  exact BX12_says_2 hG n1 t0 s1 0 σ hw h0 h1
-- TypeWheelTelegraphModel.format(I)I
def wX12_format_145 (ln : Nat → Nat) (Q : Int32 → zS → Prop) : Nat → Nat → Int32 → zS → Prop
  | 0, _, _, _ => False
  | n + 1, t0, v2, σ => ∃ j1 : Nat, gr σ t0 1 = some j1 ∧ vp_in (11 : Int32) (ln j1) ∧ (((gi σ j1 (11 : Int32).toNatClampNeg) ≤ v2 → Q (gi σ t0 11) σ) ∧ (¬ (gi σ j1 (11 : Int32).toNatClampNeg) ≤ v2 → ∃ j3 : Nat, gr σ t0 1 = some j3 ∧ ∀ x4 : Int32, x4 = 59 + v2 → vp_in x4 (ln j3) ∧ ∀ x6 : Int32, x6 = gi σ j3 x4.toNatClampNeg → wX12_puts ln σ t0 x6 (fun σ7 => ∀ x8 : Int32, x8 = v2 + 1 → (wX12_format_145 ln Q n) t0 x8 σ7)))
def wX12_format_97 (ln : Nat → Nat) (Q : Int32 → zS → Prop) (t0 : Nat) (v1 : Int32) (σ : zS) : Prop := ∃ j1 : Nat, gr σ t0 1 = some j1 ∧ vp_in (6 : Int32) (ln j1) ∧ (((gi σ j1 (6 : Int32).toNatClampNeg) = v1 → wX12_says ln σ t0 33 (fun σ10 => ∃ j11 : Nat, gr σ10 t0 1 = some j11 ∧ ∀ x12 : Int32, x12 = 27 + v1 → vp_in x12 (ln j11) ∧ ∀ x14 : Int32, x14 = gi σ10 j11 x12.toNatClampNeg → wX12_digits ln σ10 t0 x14 (fun σ15 => Q (gi σ15 t0 11) σ15))) ∧ (¬ (gi σ j1 (6 : Int32).toNatClampNeg) = v1 → wX12_isSender ln σ t0 (fun r4 σ3 => ((r4 = 0 → Q (gi σ3 t0 11) σ3) ∧ (¬ r4 = 0 → wX12_says ln σ3 t0 34 (fun σ6 => ∃ n7 : Nat, wX12_format_145 ln Q n7 t0 0 σ6))))))
def wX12_format (ln : Nat → Nat) (σ : zS) (t0 : Nat) (v1 : Int32) (Q : Int32 → zS → Prop) : Prop := ∀ σ1 : zS, σ1 = si σ t0 0 0 → wX12_isOffice ln σ1 v1 (fun r3 σ2 => ((r3 = 0 → wX12_raise ln σ2 t0 1 (fun r28 σ27 => Q r28 σ27)) ∧ (¬ r3 = 0 → ∀ σ4 : zS, σ4 = si σ2 t0 11 0 → wX12_digits ln σ4 t0 v1 (fun σ5 => wX12_says ln σ5 t0 31 (fun σ7 => ∃ j8 : Nat, gr σ7 t0 1 = some j8 ∧ ∀ x9 : Int32, x9 = 21 + v1 → vp_in x9 (ln j8) ∧ ∀ x11 : Int32, x11 = gi σ7 j8 x9.toNatClampNeg → wX12_digits ln σ7 t0 x11 (fun σ12 => wX12_puts ln σ12 t0 43 (fun σ13 => ∃ j14 : Nat, gr σ13 t0 1 = some j14 ∧ ∀ x15 : Int32, x15 = 23 + v1 → vp_in x15 (ln j14) ∧ ∀ x17 : Int32, x17 = gi σ13 j14 x15.toNatClampNeg → wX12_digits ln σ13 t0 x17 (fun σ18 => ∃ j19 : Nat, gr σ18 t0 1 = some j19 ∧ vp_in (6 : Int32) (ln j19) ∧ (((gi σ18 j19 (6 : Int32).toNatClampNeg) = v1 → ∃ j21 : Nat, gr σ18 t0 1 = some j21 ∧ vp_in (7 : Int32) (ln j21) ∧ (((gi σ18 j21 (7 : Int32).toNatClampNeg) = 1 → wX12_says ln σ18 t0 32 (fun σ24 => Q (gi σ24 t0 11) σ24)) ∧ (¬ (gi σ18 j21 (7 : Int32).toNatClampNeg) = 1 → wX12_format_97 ln Q t0 v1 σ18))) ∧ (¬ (gi σ18 j19 (6 : Int32).toNatClampNeg) = v1 → wX12_format_97 ln Q t0 v1 σ18))))))))))
abbrev rX12_format : Room := { frames := 5, cells := 0, slots := 0, locals := 107 }
set_option maxRecDepth 100000 in
set_option maxHeartbeats 4000000 in
theorem BX12_format_145 {l : Launch} {E : zE} {Y : zY} {p : Program} {e : Env} {s : State} {m : MethodId} {args : Array Value} {below : List Frame} {meth : Method} {c : Code} (hG : zG E p l s m args meth c cX12_format 3 RX12 (some .int) (zA Y s.heap.size)) {Q : Int32 → zS → Prop} : ∀ (n : Nat) (t0 : Nat) (v2 : Int32) (σ : zS), wX12_format_145 (zln Y) Q n t0 v2 σ → zT Y 12 t0 → WW E Y σ p l e rX12_format s m args below meth c (zA Y s.heap.size) 3 0 0 (MQ below (va_Qi Q (zB E Y s.heap.size) (zA Y s.heap.size)) args s 0 0 (zA Y s.heap.size)) [(0, .ref (za Y t0)), (2, .int v2)] 145 [] := by
  intro n
  induction n with
  | zero => intro t0 v2 σ hw
            exact hw.elim
  | succ n ih =>
    intro t0 v2 σ hw h0
    rw [wX12_format_145] at hw
    refine z_iload_n hG dX12_format_145 rfl 1 rfl ?_
    refine z_aload_n hG dX12_format_146 rfl 0 rfl ?_
    obtain ⟨j1, ej1, hw⟩ := hw
    refine z_getr (kq := 20) hG f_X12_7 h0 rfl ej1 rfl (by decide) dX12_format_147 (fun hj1 => ?_)
    refine z_bipush (v := 11) hG dX12_format_150 (by decide) ?_
    obtain ⟨q2, hw⟩ := hw
    refine z_iald hG hj1 q2 dX12_format_152 ?_
    refine z_icmp_ge (tgt := 175) hG dX12_format_153 (by decide) (fun c9 => ?_) (fun c9 => ?_)
    · have hw := hw.1 c9
      refine z_aload_n hG dX12_format_175 rfl 0 rfl ?_
      refine z_geti hG f_X12_226 h0 rfl dX12_format_176 ?_
      exact z_iret hG rfl rfl dX12_format_179 hw
    · have hw := hw.2 c9
      refine z_aload_n hG dX12_format_156 rfl 0 rfl ?_
      refine z_aload_n hG dX12_format_157 rfl 0 rfl ?_
      obtain ⟨j3, ej3, hw⟩ := hw
      refine z_getr (kq := 20) hG f_X12_7 h0 rfl ej3 rfl (by decide) dX12_format_158 (fun hj3 => ?_)
      refine z_bipush (v := 59) hG dX12_format_161 (by decide) ?_
      refine z_iload_n hG dX12_format_163 rfl 1 rfl ?_
      refine z_iadd hG dX12_format_164 ?_
      refine z_topi (fun x4 ex4 => ?_)
      have hw := hw x4 ex4
      obtain ⟨q5, hw⟩ := hw
      refine z_iald hG hj3 q5 dX12_format_165 ?_
      refine z_topi (fun x6 ex6 => ?_)
      have hw := hw x6 ex6
      refine z_callv hG (z_runV (As := [.int x6]) (st := []) hG k_X12_232 (MX12_puts l h0 hw) ⟨(Nat.le_of_ble_eq_true rfl), (Nat.le_of_ble_eq_true rfl)⟩ h0 (T := TX12) (N := 23) rfl (by decide) rfl (Nat.le_of_ble_eq_true rfl) dX12_format_166 ⟨Nat.zero_le _, Nat.zero_le _⟩ rfl) (fun σ7 hw => ?_)
      obtain ⟨x8, ex8⟩ : ∃ y : Int32, y = v2 + 1 := ⟨_, rfl⟩
      have hw := hw x8 ex8
      refine z_iinc (v := x8) (lv' := [(2, .int x8), (0, .ref (za Y t0))]) hG dX12_format_169 1 rfl (by rw [ex8]; rfl) (by decide) rfl ?_
      refine z_goto (tgt := 145) hG dX12_format_172 (by decide) ?_
      refine zpick [1, 0] (lv' := [(0, .ref (za Y t0)), (2, .int x8)]) rfl ?_
      exact ih t0 x8 σ7 hw h0
set_option maxRecDepth 100000 in
set_option maxHeartbeats 4000000 in
theorem BX12_format_97 {l : Launch} {E : zE} {Y : zY} {p : Program} {e : Env} {s : State} {m : MethodId} {args : Array Value} {below : List Frame} {meth : Method} {c : Code} (hG : zG E p l s m args meth c cX12_format 3 RX12 (some .int) (zA Y s.heap.size)) {Q : Int32 → zS → Prop} : ∀ (t0 : Nat) (v1 : Int32) (σ : zS), wX12_format_97 (zln Y) Q t0 v1 σ → zT Y 12 t0 → WW E Y σ p l e rX12_format s m args below meth c (zA Y s.heap.size) 3 0 0 (MQ below (va_Qi Q (zB E Y s.heap.size) (zA Y s.heap.size)) args s 0 0 (zA Y s.heap.size)) [(0, .ref (za Y t0)), (1, .int v1)] 97 [] := by
  intro t0 v1 σ hw h0
  unfold wX12_format_97 at hw
  refine z_aload_n hG dX12_format_97 rfl 0 rfl ?_
  obtain ⟨j1, ej1, hw⟩ := hw
  refine z_getr (kq := 20) hG f_X12_7 h0 rfl ej1 rfl (by decide) dX12_format_98 (fun hj1 => ?_)
  refine z_bipush (v := 6) hG dX12_format_101 (by decide) ?_
  obtain ⟨q2, hw⟩ := hw
  refine z_iald hG hj1 q2 dX12_format_103 ?_
  refine z_iload_n hG dX12_format_104 rfl 1 rfl ?_
  refine z_icmp_ne (tgt := 130) hG dX12_format_105 (by decide) (fun c16 => ?_) (fun c16 => ?_)
  · have hw := hw.2 c16
    refine z_aload_n hG dX12_format_130 rfl 0 rfl ?_
    refine z_calli hG (z_runV (As := []) (st := []) hG k_X12_158 (MX12_isSender l h0 hw) ⟨(Nat.le_of_ble_eq_true rfl), (Nat.le_of_ble_eq_true rfl)⟩ h0 (T := TX12) (N := 23) rfl (by decide) rfl (Nat.le_of_ble_eq_true rfl) dX12_format_131 ⟨Nat.zero_le _, Nat.zero_le _⟩ rfl) (fun r4 σ3 hw => ?_)
    refine z_if_eq (tgt := 175) hG dX12_format_134 (by decide) (fun c8 => ?_) (fun c8 => ?_)
    · have hw := hw.1 c8
      refine z_aload_n hG dX12_format_175 rfl 0 rfl ?_
      refine z_geti hG f_X12_226 h0 rfl dX12_format_176 ?_
      exact z_iret hG rfl rfl dX12_format_179 hw
    · have hw := hw.2 c8
      refine z_aload_n hG dX12_format_137 rfl 0 rfl ?_
      refine z_ldcs (i := 34) (tx := " prints ") hG (by decide +kernel) dX12_format_138 ?_
      have hq5 : 34 < zS_n := by decide
      refine z_callv hG (z_runV (As := [.ref (E.2.2.1 34)]) (st := []) hG k_X12_240 (MX12_says l h0 hq5 hw) ⟨(Nat.le_of_ble_eq_true rfl), (Nat.le_of_ble_eq_true rfl)⟩ h0 (T := TX12) (N := 23) rfl (by decide) rfl (Nat.le_of_ble_eq_true rfl) dX12_format_140 ⟨Nat.zero_le _, Nat.zero_le _⟩ rfl) (fun σ6 hw => ?_)
      refine z_iconst (v := 0) hG dX12_format_143 (by decide) ?_
      refine z_istore_n (lv' := [(2, .int 0), (0, .ref (za Y t0)), (1, .int v1)]) hG dX12_format_144 rfl (by decide) rfl ?_
      obtain ⟨n7, hw⟩ := hw
      refine zpick [1, 0] (lv' := [(0, .ref (za Y t0)), (2, .int 0)]) rfl ?_
      exact BX12_format_145 hG n7 t0 0 σ6 hw h0
  · have hw := hw.1 c16
    refine z_aload_n hG dX12_format_108 rfl 0 rfl ?_
    refine z_ldcs (i := 33) (tx := " sends ") hG (by decide +kernel) dX12_format_109 ?_
    have hq9 : 33 < zS_n := by decide
    refine z_callv hG (z_runV (As := [.ref (E.2.2.1 33)]) (st := []) hG k_X12_240 (MX12_says l h0 hq9 hw) ⟨(Nat.le_of_ble_eq_true rfl), (Nat.le_of_ble_eq_true rfl)⟩ h0 (T := TX12) (N := 23) rfl (by decide) rfl (Nat.le_of_ble_eq_true rfl) dX12_format_111 ⟨Nat.zero_le _, Nat.zero_le _⟩ rfl) (fun σ10 hw => ?_)
    refine z_aload_n hG dX12_format_114 rfl 0 rfl ?_
    refine z_aload_n hG dX12_format_115 rfl 0 rfl ?_
    obtain ⟨j11, ej11, hw⟩ := hw
    refine z_getr (kq := 20) hG f_X12_7 h0 rfl ej11 rfl (by decide) dX12_format_116 (fun hj11 => ?_)
    refine z_bipush (v := 27) hG dX12_format_119 (by decide) ?_
    refine z_iload_n hG dX12_format_121 rfl 1 rfl ?_
    refine z_iadd hG dX12_format_122 ?_
    refine z_topi (fun x12 ex12 => ?_)
    have hw := hw x12 ex12
    obtain ⟨q13, hw⟩ := hw
    refine z_iald hG hj11 q13 dX12_format_123 ?_
    refine z_topi (fun x14 ex14 => ?_)
    have hw := hw x14 ex14
    refine z_callv hG (z_runV (As := [.int x14]) (st := []) hG k_X12_235 (MX12_digits l h0 hw) ⟨(Nat.le_of_ble_eq_true rfl), (Nat.le_of_ble_eq_true rfl)⟩ h0 (T := TX12) (N := 23) rfl (by decide) rfl (Nat.le_of_ble_eq_true rfl) dX12_format_124 ⟨Nat.zero_le _, Nat.zero_le _⟩ rfl) (fun σ15 hw => ?_)
    refine z_goto (tgt := 175) hG dX12_format_127 (by decide) ?_
    refine z_aload_n hG dX12_format_175 rfl 0 rfl ?_
    refine z_geti hG f_X12_226 h0 rfl dX12_format_176 ?_
    exact z_iret hG rfl rfl dX12_format_179 hw
set_option maxRecDepth 100000 in
set_option maxHeartbeats 4000000 in
theorem MX12_format (l : Launch) {E : zE} {Y : zY} {σ : zS} {t0 : Nat} {v1 : Int32} (h0 : zT Y 12 t0) {Q : Int32 → zS → Prop} (hw : wX12_format (zln Y) σ t0 v1 Q) : ∀ sz, Met l yX12_format (zw yX12_format cX12_format 3 (some .int)) rX12_format (zPc E Y σ sz [.ref (za Y t0), .int v1]) (va_Qi Q (zB E Y sz) (zA Y sz)) 0 0 (zA Y sz) := by
  refine z_met (own := RX12) (Qc := fun sz => va_Qi Q (zB E Y sz) (zA Y sz)) (by decide +kernel) rfl (Nat.le_of_ble_eq_true rfl) ?_
  intro p e s m args below meth c hG hinit
  unfold wX12_format at hw
  refine zlv (lv' := [(0, .ref (za Y t0)), (1, .int v1)]) rfl ?_
  refine z_aload_n hG dX12_format_0 rfl 0 rfl ?_
  refine z_iconst (v := 0) hG dX12_format_1 (by decide) ?_
  refine z_puti hG f_X12_47 h0 rfl rfl (zN_int _) dX12_format_2 ?_
  refine z_topσ (fun σ1 eσ1 => ?_)
  have hw := hw σ1 eσ1
  refine z_iload_n hG dX12_format_5 rfl 1 rfl ?_
  refine z_calli hG (z_runS (As := [.int v1]) (st := []) hG k_X12_54 (MX12_isOffice l hw) ⟨(Nat.le_of_ble_eq_true rfl), (Nat.le_of_ble_eq_true rfl)⟩ rfl (Nat.le_of_ble_eq_true rfl) dX12_format_6 ⟨Nat.zero_le _, Nat.zero_le _⟩ rfl) (fun r3 σ2 hw => ?_)
  refine z_if_ne (tgt := 18) hG dX12_format_9 (by decide) (fun c29 => ?_) (fun c29 => ?_)
  · have hw := hw.2 c29
    refine z_aload_n hG dX12_format_18 rfl 0 rfl ?_
    refine z_iconst (v := 0) hG dX12_format_19 (by decide) ?_
    refine z_puti hG f_X12_226 h0 rfl rfl (zN_int _) dX12_format_20 ?_
    refine z_topσ (fun σ4 eσ4 => ?_)
    have hw := hw σ4 eσ4
    refine z_aload_n hG dX12_format_23 rfl 0 rfl ?_
    refine z_iload_n hG dX12_format_24 rfl 1 rfl ?_
    refine z_callv hG (z_runV (As := [.int v1]) (st := []) hG k_X12_235 (MX12_digits l h0 hw) ⟨(Nat.le_of_ble_eq_true rfl), (Nat.le_of_ble_eq_true rfl)⟩ h0 (T := TX12) (N := 23) rfl (by decide) rfl (Nat.le_of_ble_eq_true rfl) dX12_format_25 ⟨Nat.zero_le _, Nat.zero_le _⟩ rfl) (fun σ5 hw => ?_)
    refine z_aload_n hG dX12_format_28 rfl 0 rfl ?_
    refine z_ldcs (i := 31) (tx := ": ") hG (by decide +kernel) dX12_format_29 ?_
    have hq6 : 31 < zS_n := by decide
    refine z_callv hG (z_runV (As := [.ref (E.2.2.1 31)]) (st := []) hG k_X12_240 (MX12_says l h0 hq6 hw) ⟨(Nat.le_of_ble_eq_true rfl), (Nat.le_of_ble_eq_true rfl)⟩ h0 (T := TX12) (N := 23) rfl (by decide) rfl (Nat.le_of_ble_eq_true rfl) dX12_format_31 ⟨Nat.zero_le _, Nat.zero_le _⟩ rfl) (fun σ7 hw => ?_)
    refine z_aload_n hG dX12_format_34 rfl 0 rfl ?_
    refine z_aload_n hG dX12_format_35 rfl 0 rfl ?_
    obtain ⟨j8, ej8, hw⟩ := hw
    refine z_getr (kq := 20) hG f_X12_7 h0 rfl ej8 rfl (by decide) dX12_format_36 (fun hj8 => ?_)
    refine z_bipush (v := 21) hG dX12_format_39 (by decide) ?_
    refine z_iload_n hG dX12_format_41 rfl 1 rfl ?_
    refine z_iadd hG dX12_format_42 ?_
    refine z_topi (fun x9 ex9 => ?_)
    have hw := hw x9 ex9
    obtain ⟨q10, hw⟩ := hw
    refine z_iald hG hj8 q10 dX12_format_43 ?_
    refine z_topi (fun x11 ex11 => ?_)
    have hw := hw x11 ex11
    refine z_callv hG (z_runV (As := [.int x11]) (st := []) hG k_X12_235 (MX12_digits l h0 hw) ⟨(Nat.le_of_ble_eq_true rfl), (Nat.le_of_ble_eq_true rfl)⟩ h0 (T := TX12) (N := 23) rfl (by decide) rfl (Nat.le_of_ble_eq_true rfl) dX12_format_44 ⟨Nat.zero_le _, Nat.zero_le _⟩ rfl) (fun σ12 hw => ?_)
    refine z_aload_n hG dX12_format_47 rfl 0 rfl ?_
    refine z_bipush (v := 43) hG dX12_format_48 (by decide) ?_
    refine z_callv hG (z_runV (As := [.int 43]) (st := []) hG k_X12_232 (MX12_puts l h0 hw) ⟨(Nat.le_of_ble_eq_true rfl), (Nat.le_of_ble_eq_true rfl)⟩ h0 (T := TX12) (N := 23) rfl (by decide) rfl (Nat.le_of_ble_eq_true rfl) dX12_format_50 ⟨Nat.zero_le _, Nat.zero_le _⟩ rfl) (fun σ13 hw => ?_)
    refine z_aload_n hG dX12_format_53 rfl 0 rfl ?_
    refine z_aload_n hG dX12_format_54 rfl 0 rfl ?_
    obtain ⟨j14, ej14, hw⟩ := hw
    refine z_getr (kq := 20) hG f_X12_7 h0 rfl ej14 rfl (by decide) dX12_format_55 (fun hj14 => ?_)
    refine z_bipush (v := 23) hG dX12_format_58 (by decide) ?_
    refine z_iload_n hG dX12_format_60 rfl 1 rfl ?_
    refine z_iadd hG dX12_format_61 ?_
    refine z_topi (fun x15 ex15 => ?_)
    have hw := hw x15 ex15
    obtain ⟨q16, hw⟩ := hw
    refine z_iald hG hj14 q16 dX12_format_62 ?_
    refine z_topi (fun x17 ex17 => ?_)
    have hw := hw x17 ex17
    refine z_callv hG (z_runV (As := [.int x17]) (st := []) hG k_X12_235 (MX12_digits l h0 hw) ⟨(Nat.le_of_ble_eq_true rfl), (Nat.le_of_ble_eq_true rfl)⟩ h0 (T := TX12) (N := 23) rfl (by decide) rfl (Nat.le_of_ble_eq_true rfl) dX12_format_63 ⟨Nat.zero_le _, Nat.zero_le _⟩ rfl) (fun σ18 hw => ?_)
    refine z_aload_n hG dX12_format_66 rfl 0 rfl ?_
    obtain ⟨j19, ej19, hw⟩ := hw
    refine z_getr (kq := 20) hG f_X12_7 h0 rfl ej19 rfl (by decide) dX12_format_67 (fun hj19 => ?_)
    refine z_bipush (v := 6) hG dX12_format_70 (by decide) ?_
    obtain ⟨q20, hw⟩ := hw
    refine z_iald hG hj19 q20 dX12_format_72 ?_
    refine z_iload_n hG dX12_format_73 rfl 1 rfl ?_
    refine z_icmp_ne (tgt := 97) hG dX12_format_74 (by decide) (fun c26 => ?_) (fun c26 => ?_)
    · have hw := hw.2 c26
      refine zpick [0, 1] (lv' := [(0, .ref (za Y t0)), (1, .int v1)]) rfl ?_
      exact BX12_format_97 hG t0 v1 σ18 hw h0
    · have hw := hw.1 c26
      refine z_aload_n hG dX12_format_77 rfl 0 rfl ?_
      obtain ⟨j21, ej21, hw⟩ := hw
      refine z_getr (kq := 20) hG f_X12_7 h0 rfl ej21 rfl (by decide) dX12_format_78 (fun hj21 => ?_)
      refine z_bipush (v := 7) hG dX12_format_81 (by decide) ?_
      obtain ⟨q22, hw⟩ := hw
      refine z_iald hG hj21 q22 dX12_format_83 ?_
      refine z_iconst (v := 1) hG dX12_format_84 (by decide) ?_
      refine z_icmp_ne (tgt := 97) hG dX12_format_85 (by decide) (fun c25 => ?_) (fun c25 => ?_)
      · have hw := hw.2 c25
        refine zpick [0, 1] (lv' := [(0, .ref (za Y t0)), (1, .int v1)]) rfl ?_
        exact BX12_format_97 hG t0 v1 σ18 hw h0
      · have hw := hw.1 c25
        refine z_aload_n hG dX12_format_88 rfl 0 rfl ?_
        refine z_ldcs (i := 32) (tx := " waits") hG (by decide +kernel) dX12_format_89 ?_
        have hq23 : 32 < zS_n := by decide
        refine z_callv hG (z_runV (As := [.ref (E.2.2.1 32)]) (st := []) hG k_X12_240 (MX12_says l h0 hq23 hw) ⟨(Nat.le_of_ble_eq_true rfl), (Nat.le_of_ble_eq_true rfl)⟩ h0 (T := TX12) (N := 23) rfl (by decide) rfl (Nat.le_of_ble_eq_true rfl) dX12_format_91 ⟨Nat.zero_le _, Nat.zero_le _⟩ rfl) (fun σ24 hw => ?_)
        refine z_goto (tgt := 175) hG dX12_format_94 (by decide) ?_
        refine z_aload_n hG dX12_format_175 rfl 0 rfl ?_
        refine z_geti hG f_X12_226 h0 rfl dX12_format_176 ?_
        exact z_iret hG rfl rfl dX12_format_179 hw
  · have hw := hw.1 c29
    refine z_aload_n hG dX12_format_12 rfl 0 rfl ?_
    refine z_iconst (v := 1) hG dX12_format_13 (by decide) ?_
    refine z_calli hG (z_runV (As := [.int 1]) (st := []) hG k_X12_174 (MX12_raise l h0 hw) ⟨(Nat.le_of_ble_eq_true rfl), (Nat.le_of_ble_eq_true rfl)⟩ h0 (T := TX12) (N := 23) rfl (by decide) rfl (Nat.le_of_ble_eq_true rfl) dX12_format_14 ⟨Nat.zero_le _, Nat.zero_le _⟩ rfl) (fun r28 σ27 hw => ?_)
    exact z_iret hG rfl rfl dX12_format_17 hw
