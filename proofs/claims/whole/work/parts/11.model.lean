-- TypeWheelTelegraphModel.defaults([I)V
def wX12_defaults_2 (ln : Nat → Nat) (Q : zS → Prop) : Nat → Nat → Int32 → zS → Prop
  | 0, _, _, _ => False
  | n + 1, t0, v1, σ => ((4763 ≤ v1 → vp_in (0 : Int32) (ln t0) ∧ ∀ σ2 : zS, σ2 = si σ t0 (0 : Int32).toNatClampNeg 28 → vp_in (1 : Int32) (ln t0) ∧ ∀ σ4 : zS, σ4 = si σ2 t0 (1 : Int32).toNatClampNeg 1 → vp_in (2 : Int32) (ln t0) ∧ ∀ σ6 : zS, σ6 = si σ4 t0 (2 : Int32).toNatClampNeg 200 → vp_in (3 : Int32) (ln t0) ∧ ∀ σ8 : zS, σ8 = si σ6 t0 (3 : Int32).toNatClampNeg 600 → vp_in (4 : Int32) (ln t0) ∧ ∀ σ10 : zS, σ10 = si σ8 t0 (4 : Int32).toNatClampNeg 2 → vp_in (6 : Int32) (ln t0) ∧ ∀ σ12 : zS, σ12 = si σ10 t0 (6 : Int32).toNatClampNeg (-1) → vp_in (23 : Int32) (ln t0) ∧ ∀ σ14 : zS, σ14 = si σ12 t0 (23 : Int32).toNatClampNeg 100 → vp_in (24 : Int32) (ln t0) ∧ ∀ σ16 : zS, σ16 = si σ14 t0 (24 : Int32).toNatClampNeg 100 → Q σ16) ∧ (¬ 4763 ≤ v1 → vp_in v1 (ln t0) ∧ ∀ σ18 : zS, σ18 = si σ t0 v1.toNatClampNeg 0 → ∀ x19 : Int32, x19 = v1 + 1 → (wX12_defaults_2 ln Q n) t0 x19 σ18))
def wX12_defaults (ln : Nat → Nat) (σ : zS) (t0 : Nat) (Q : zS → Prop) : Prop := ∃ n1 : Nat, wX12_defaults_2 ln Q n1 t0 0 σ
abbrev rX12_defaults : Room := { frames := 0, cells := 0, slots := 0, locals := 0 }
set_option maxRecDepth 100000 in
set_option maxHeartbeats 4000000 in
theorem BX12_defaults_2 {l : Launch} {E : zE} {Y : zY} {p : Program} {e : Env} {s : State} {m : MethodId} {args : Array Value} {below : List Frame} {meth : Method} {c : Code} (hG : zG E p l s m args meth c cX12_defaults 2 RX12 none (zA Y s.heap.size)) {Q : zS → Prop} : ∀ (n : Nat) (t0 : Nat) (v1 : Int32) (σ : zS), wX12_defaults_2 (zln Y) Q n t0 v1 σ → zT Y 20 t0 → WW E Y σ p l e rX12_defaults s m args below meth c (zA Y s.heap.size) 2 0 0 (MQ below (va_Qv Q (zB E Y s.heap.size) (zA Y s.heap.size)) args s 0 0 (zA Y s.heap.size)) [(0, .ref (za Y t0)), (1, .int v1)] 2 [] := by
  intro n
  induction n with
  | zero => intro t0 v1 σ hw
            exact hw.elim
  | succ n ih =>
    intro t0 v1 σ hw h0
    rw [wX12_defaults_2] at hw
    refine z_iload_n hG dX12_defaults_2 rfl 1 rfl ?_
    refine z_sipush (v := 4763) hG dX12_defaults_3 (by decide) ?_
    refine z_icmp_ge (tgt := 19) hG dX12_defaults_6 (by decide) (fun c20 => ?_) (fun c20 => ?_)
    · have hw := hw.1 c20
      refine z_aload_n hG dX12_defaults_19 rfl 0 rfl ?_
      refine z_iconst (v := 0) hG dX12_defaults_20 (by decide) ?_
      refine z_bipush (v := 28) hG dX12_defaults_21 (by decide) ?_
      obtain ⟨q1, hw⟩ := hw
      refine z_iast hG h0 q1 dX12_defaults_23 ?_
      refine z_topσ (fun σ2 eσ2 => ?_)
      have hw := hw σ2 eσ2
      refine z_aload_n hG dX12_defaults_24 rfl 0 rfl ?_
      refine z_iconst (v := 1) hG dX12_defaults_25 (by decide) ?_
      refine z_iconst (v := 1) hG dX12_defaults_26 (by decide) ?_
      obtain ⟨q3, hw⟩ := hw
      refine z_iast hG h0 q3 dX12_defaults_27 ?_
      refine z_topσ (fun σ4 eσ4 => ?_)
      have hw := hw σ4 eσ4
      refine z_aload_n hG dX12_defaults_28 rfl 0 rfl ?_
      refine z_iconst (v := 2) hG dX12_defaults_29 (by decide) ?_
      refine z_sipush (v := 200) hG dX12_defaults_30 (by decide) ?_
      obtain ⟨q5, hw⟩ := hw
      refine z_iast hG h0 q5 dX12_defaults_33 ?_
      refine z_topσ (fun σ6 eσ6 => ?_)
      have hw := hw σ6 eσ6
      refine z_aload_n hG dX12_defaults_34 rfl 0 rfl ?_
      refine z_iconst (v := 3) hG dX12_defaults_35 (by decide) ?_
      refine z_sipush (v := 600) hG dX12_defaults_36 (by decide) ?_
      obtain ⟨q7, hw⟩ := hw
      refine z_iast hG h0 q7 dX12_defaults_39 ?_
      refine z_topσ (fun σ8 eσ8 => ?_)
      have hw := hw σ8 eσ8
      refine z_aload_n hG dX12_defaults_40 rfl 0 rfl ?_
      refine z_iconst (v := 4) hG dX12_defaults_41 (by decide) ?_
      refine z_iconst (v := 2) hG dX12_defaults_42 (by decide) ?_
      obtain ⟨q9, hw⟩ := hw
      refine z_iast hG h0 q9 dX12_defaults_43 ?_
      refine z_topσ (fun σ10 eσ10 => ?_)
      have hw := hw σ10 eσ10
      refine z_aload_n hG dX12_defaults_44 rfl 0 rfl ?_
      refine z_bipush (v := 6) hG dX12_defaults_45 (by decide) ?_
      refine z_iconst (v := (-1)) hG dX12_defaults_47 (by decide) ?_
      obtain ⟨q11, hw⟩ := hw
      refine z_iast hG h0 q11 dX12_defaults_48 ?_
      refine z_topσ (fun σ12 eσ12 => ?_)
      have hw := hw σ12 eσ12
      refine z_aload_n hG dX12_defaults_49 rfl 0 rfl ?_
      refine z_bipush (v := 23) hG dX12_defaults_50 (by decide) ?_
      refine z_bipush (v := 100) hG dX12_defaults_52 (by decide) ?_
      obtain ⟨q13, hw⟩ := hw
      refine z_iast hG h0 q13 dX12_defaults_54 ?_
      refine z_topσ (fun σ14 eσ14 => ?_)
      have hw := hw σ14 eσ14
      refine z_aload_n hG dX12_defaults_55 rfl 0 rfl ?_
      refine z_bipush (v := 24) hG dX12_defaults_56 (by decide) ?_
      refine z_bipush (v := 100) hG dX12_defaults_58 (by decide) ?_
      obtain ⟨q15, hw⟩ := hw
      refine z_iast hG h0 q15 dX12_defaults_60 ?_
      refine z_topσ (fun σ16 eσ16 => ?_)
      have hw := hw σ16 eσ16
      exact z_vret hG rfl dX12_defaults_61 hw
    · have hw := hw.2 c20
      refine z_aload_n hG dX12_defaults_9 rfl 0 rfl ?_
      refine z_iload_n hG dX12_defaults_10 rfl 1 rfl ?_
      refine z_iconst (v := 0) hG dX12_defaults_11 (by decide) ?_
      obtain ⟨q17, hw⟩ := hw
      refine z_iast hG h0 q17 dX12_defaults_12 ?_
      refine z_topσ (fun σ18 eσ18 => ?_)
      have hw := hw σ18 eσ18
      obtain ⟨x19, ex19⟩ : ∃ y : Int32, y = v1 + 1 := ⟨_, rfl⟩
      have hw := hw x19 ex19
      refine z_iinc (v := x19) (lv' := [(1, .int x19), (0, .ref (za Y t0))]) hG dX12_defaults_13 1 rfl (by rw [ex19]; rfl) (by decide) rfl ?_
      refine z_goto (tgt := 2) hG dX12_defaults_16 (by decide) ?_
      refine zpick [1, 0] (lv' := [(0, .ref (za Y t0)), (1, .int x19)]) rfl ?_
      exact ih t0 x19 σ18 hw h0
set_option maxRecDepth 100000 in
set_option maxHeartbeats 4000000 in
theorem MX12_defaults (l : Launch) {E : zE} {Y : zY} {σ : zS} {t0 : Nat} (h0 : zT Y 20 t0) {Q : zS → Prop} (hw : wX12_defaults (zln Y) σ t0 Q) : ∀ sz, Met l yX12_defaults (zw yX12_defaults cX12_defaults 2 none) rX12_defaults (zPc E Y σ sz [.ref (za Y t0)]) (va_Qv Q (zB E Y sz) (zA Y sz)) 0 0 (zA Y sz) := by
  refine z_met (own := RX12) (Qc := fun sz => va_Qv Q (zB E Y sz) (zA Y sz)) (by decide +kernel) rfl (Nat.le_of_ble_eq_true rfl) ?_
  intro p e s m args below meth c hG hinit
  unfold wX12_defaults at hw
  refine zlv (lv' := [(0, .ref (za Y t0))]) rfl ?_
  refine z_iconst (v := 0) hG dX12_defaults_0 (by decide) ?_
  refine z_istore_n (lv' := [(1, .int 0), (0, .ref (za Y t0))]) hG dX12_defaults_1 rfl (by decide) rfl ?_
  obtain ⟨n1, hw⟩ := hw
  refine zpick [1, 0] (lv' := [(0, .ref (za Y t0)), (1, .int 0)]) rfl ?_
  exact BX12_defaults_2 hG n1 t0 0 σ hw h0
-- TypeWheelTelegraphModel.thrown()I
def wX12_thrown (ln : Nat → Nat) (σ : zS) (t0 : Nat) (Q : Int32 → zS → Prop) : Prop := Q (gi σ t0 0) σ
abbrev rX12_thrown : Room := { frames := 0, cells := 0, slots := 0, locals := 0 }
set_option maxRecDepth 100000 in
set_option maxHeartbeats 4000000 in
theorem MX12_thrown (l : Launch) {E : zE} {Y : zY} {σ : zS} {t0 : Nat} (h0 : zT Y 12 t0) {Q : Int32 → zS → Prop} (hw : wX12_thrown (zln Y) σ t0 Q) : ∀ sz, Met l yX12_thrown (zw yX12_thrown cX12_thrown 1 (some .int)) rX12_thrown (zPc E Y σ sz [.ref (za Y t0)]) (va_Qi Q (zB E Y sz) (zA Y sz)) 0 0 (zA Y sz) := by
  refine z_met (own := RX12) (Qc := fun sz => va_Qi Q (zB E Y sz) (zA Y sz)) (by decide +kernel) rfl (Nat.le_of_ble_eq_true rfl) ?_
  intro p e s m args below meth c hG hinit
  unfold wX12_thrown at hw
  refine zlv (lv' := [(0, .ref (za Y t0))]) rfl ?_
  refine z_aload_n hG dX12_thrown_0 rfl 0 rfl ?_
  refine z_geti hG f_X12_47 h0 rfl dX12_thrown_1 ?_
  exact z_iret hG rfl rfl dX12_thrown_4 hw
-- TypeWheelTelegraphModel.raise(I)I
def wX12_raise (ln : Nat → Nat) (σ : zS) (t0 : Nat) (v1 : Int32) (Q : Int32 → zS → Prop) : Prop := ∀ σ1 : zS, σ1 = si σ t0 0 v1 → Q 0 σ1
abbrev rX12_raise : Room := { frames := 0, cells := 0, slots := 0, locals := 0 }
set_option maxRecDepth 100000 in
set_option maxHeartbeats 4000000 in
theorem MX12_raise (l : Launch) {E : zE} {Y : zY} {σ : zS} {t0 : Nat} {v1 : Int32} (h0 : zT Y 12 t0) {Q : Int32 → zS → Prop} (hw : wX12_raise (zln Y) σ t0 v1 Q) : ∀ sz, Met l yX12_raise (zw yX12_raise cX12_raise 2 (some .int)) rX12_raise (zPc E Y σ sz [.ref (za Y t0), .int v1]) (va_Qi Q (zB E Y sz) (zA Y sz)) 0 0 (zA Y sz) := by
  refine z_met (own := RX12) (Qc := fun sz => va_Qi Q (zB E Y sz) (zA Y sz)) (by decide +kernel) rfl (Nat.le_of_ble_eq_true rfl) ?_
  intro p e s m args below meth c hG hinit
  unfold wX12_raise at hw
  refine zlv (lv' := [(0, .ref (za Y t0)), (1, .int v1)]) rfl ?_
  refine z_aload_n hG dX12_raise_0 rfl 0 rfl ?_
  refine z_iload_n hG dX12_raise_1 rfl 1 rfl ?_
  refine z_puti hG f_X12_47 h0 rfl rfl (zN_int _) dX12_raise_2 ?_
  refine z_topσ (fun σ1 eσ1 => ?_)
  have hw := hw σ1 eσ1
  refine z_iconst (v := 0) hG dX12_raise_5 (by decide) ?_
  exact z_iret hG rfl rfl dX12_raise_6 hw
-- TypeWheelTelegraphModel.isIn(JJJ)Z
def wX12_isIn (ln : Nat → Nat) (σ : zS) (v0 : Int64) (v2 : Int64) (v4 : Int64) (Q : Int32 → zS → Prop) : Prop := (((lg_cmp v0 v2) < 0 → Q 0 σ) ∧ (¬ (lg_cmp v0 v2) < 0 → ((0 < (lg_cmp v0 v4) → Q 0 σ) ∧ (¬ 0 < (lg_cmp v0 v4) → Q 1 σ))))
abbrev rX12_isIn : Room := { frames := 0, cells := 0, slots := 0, locals := 0 }
set_option maxRecDepth 100000 in
set_option maxHeartbeats 4000000 in
theorem MX12_isIn (l : Launch) {E : zE} {Y : zY} {σ : zS} {v0 : Int64} {v2 : Int64} {v4 : Int64} {Q : Int32 → zS → Prop} (hw : wX12_isIn (zln Y) σ v0 v2 v4 Q) : ∀ sz, Met l yX12_isIn (zw yX12_isIn cX12_isIn 6 (some .boolean)) rX12_isIn (zPc E Y σ sz [.long v0, .long v2, .long v4]) (va_Qi Q (zB E Y sz) (zA Y sz)) 0 0 (zA Y sz) := by
  refine z_met (own := RX12) (Qc := fun sz => va_Qi Q (zB E Y sz) (zA Y sz)) (by decide +kernel) rfl (Nat.le_of_ble_eq_true rfl) ?_
  intro p e s m args below meth c hG hinit
  unfold wX12_isIn at hw
  refine zlv (lv' := [(0, .long v0), (2, .long v2), (4, .long v4)]) rfl ?_
  refine z_lload_n hG dX12_isIn_0 rfl 0 rfl ?_
  refine z_lload_n hG dX12_isIn_1 rfl 1 rfl ?_
  refine z_lcmp hG dX12_isIn_2 ?_
  refine z_if_lt (tgt := 17) hG dX12_isIn_3 (by decide) (fun c2 => ?_) (fun c2 => ?_)
  · have hw := hw.1 c2
    refine z_iconst (v := 0) hG dX12_isIn_17 (by decide) ?_
    exact z_iret hG rfl (by decide +kernel) dX12_isIn_18 hw
  · have hw := hw.2 c2
    refine z_lload_n hG dX12_isIn_6 rfl 0 rfl ?_
    refine z_lload hG dX12_isIn_7 2 rfl ?_
    refine z_lcmp hG dX12_isIn_9 ?_
    refine z_if_gt (tgt := 17) hG dX12_isIn_10 (by decide) (fun c1 => ?_) (fun c1 => ?_)
    · have hw := hw.1 c1
      refine z_iconst (v := 0) hG dX12_isIn_17 (by decide) ?_
      exact z_iret hG rfl (by decide +kernel) dX12_isIn_18 hw
    · have hw := hw.2 c1
      refine z_iconst (v := 1) hG dX12_isIn_13 (by decide) ?_
      refine z_goto (tgt := 18) hG dX12_isIn_14 (by decide) ?_
      exact z_iret hG rfl (by decide +kernel) dX12_isIn_18 hw
-- TypeWheelTelegraphModel.copies([I[I)V
def wX12_copies_2 (ln : Nat → Nat) (Q : zS → Prop) : Nat → Nat → Nat → Int32 → zS → Prop
  | 0, _, _, _, _ => False
  | n + 1, t0, t1, v2, σ => ((4763 ≤ v2 → Q σ) ∧ (¬ 4763 ≤ v2 → vp_in v2 (ln t0) ∧ ∀ x2 : Int32, x2 = gi σ t0 v2.toNatClampNeg → vp_in v2 (ln t1) ∧ ∀ σ4 : zS, σ4 = si σ t1 v2.toNatClampNeg x2 → ∀ x5 : Int32, x5 = v2 + 1 → (wX12_copies_2 ln Q n) t0 t1 x5 σ4))
def wX12_copies (ln : Nat → Nat) (σ : zS) (t0 : Nat) (t1 : Nat) (Q : zS → Prop) : Prop := ∃ n1 : Nat, wX12_copies_2 ln Q n1 t0 t1 0 σ
abbrev rX12_copies : Room := { frames := 0, cells := 0, slots := 0, locals := 0 }
set_option maxRecDepth 100000 in
set_option maxHeartbeats 4000000 in
theorem BX12_copies_2 {l : Launch} {E : zE} {Y : zY} {p : Program} {e : Env} {s : State} {m : MethodId} {args : Array Value} {below : List Frame} {meth : Method} {c : Code} (hG : zG E p l s m args meth c cX12_copies 3 RX12 none (zA Y s.heap.size)) {Q : zS → Prop} : ∀ (n : Nat) (t0 : Nat) (t1 : Nat) (v2 : Int32) (σ : zS), wX12_copies_2 (zln Y) Q n t0 t1 v2 σ → zT Y 20 t0 → zT Y 20 t1 → WW E Y σ p l e rX12_copies s m args below meth c (zA Y s.heap.size) 3 0 0 (MQ below (va_Qv Q (zB E Y s.heap.size) (zA Y s.heap.size)) args s 0 0 (zA Y s.heap.size)) [(0, .ref (za Y t0)), (1, .ref (za Y t1)), (2, .int v2)] 2 [] := by
  intro n
  induction n with
  | zero => intro t0 t1 v2 σ hw
            exact hw.elim
  | succ n ih =>
    intro t0 t1 v2 σ hw h0 h1
    rw [wX12_copies_2] at hw
    refine z_iload_n hG dX12_copies_2 rfl 2 rfl ?_
    refine z_sipush (v := 4763) hG dX12_copies_3 (by decide) ?_
    refine z_icmp_ge (tgt := 21) hG dX12_copies_6 (by decide) (fun c6 => ?_) (fun c6 => ?_)
    · have hw := hw.1 c6
      exact z_vret hG rfl dX12_copies_21 hw
    · have hw := hw.2 c6
      refine z_aload_n hG dX12_copies_9 rfl 1 rfl ?_
      refine z_iload_n hG dX12_copies_10 rfl 2 rfl ?_
      refine z_aload_n hG dX12_copies_11 rfl 0 rfl ?_
      refine z_iload_n hG dX12_copies_12 rfl 2 rfl ?_
      obtain ⟨q1, hw⟩ := hw
      refine z_iald hG h0 q1 dX12_copies_13 ?_
      refine z_topi (fun x2 ex2 => ?_)
      have hw := hw x2 ex2
      obtain ⟨q3, hw⟩ := hw
      refine z_iast hG h1 q3 dX12_copies_14 ?_
      refine z_topσ (fun σ4 eσ4 => ?_)
      have hw := hw σ4 eσ4
      obtain ⟨x5, ex5⟩ : ∃ y : Int32, y = v2 + 1 := ⟨_, rfl⟩
      have hw := hw x5 ex5
      refine z_iinc (v := x5) (lv' := [(2, .int x5), (0, .ref (za Y t0)), (1, .ref (za Y t1))]) hG dX12_copies_15 2 rfl (by rw [ex5]; rfl) (by decide) rfl ?_
      refine z_goto (tgt := 2) hG dX12_copies_18 (by decide) ?_
      refine zpick [1, 2, 0] (lv' := [(0, .ref (za Y t0)), (1, .ref (za Y t1)), (2, .int x5)]) rfl ?_
      exact ih t0 t1 x5 σ4 hw h0 h1
set_option maxRecDepth 100000 in
set_option maxHeartbeats 4000000 in
theorem MX12_copies (l : Launch) {E : zE} {Y : zY} {σ : zS} {t0 : Nat} {t1 : Nat} (h0 : zT Y 20 t0) (h1 : zT Y 20 t1) {Q : zS → Prop} (hw : wX12_copies (zln Y) σ t0 t1 Q) : ∀ sz, Met l yX12_copies (zw yX12_copies cX12_copies 3 none) rX12_copies (zPc E Y σ sz [.ref (za Y t0), .ref (za Y t1)]) (va_Qv Q (zB E Y sz) (zA Y sz)) 0 0 (zA Y sz) := by
  refine z_met (own := RX12) (Qc := fun sz => va_Qv Q (zB E Y sz) (zA Y sz)) (by decide +kernel) rfl (Nat.le_of_ble_eq_true rfl) ?_
  intro p e s m args below meth c hG hinit
  unfold wX12_copies at hw
  refine zlv (lv' := [(0, .ref (za Y t0)), (1, .ref (za Y t1))]) rfl ?_
  refine z_iconst (v := 0) hG dX12_copies_0 (by decide) ?_
  refine z_istore_n (lv' := [(2, .int 0), (0, .ref (za Y t0)), (1, .ref (za Y t1))]) hG dX12_copies_1 rfl (by decide) rfl ?_
  obtain ⟨n1, hw⟩ := hw
  refine zpick [1, 2, 0] (lv' := [(0, .ref (za Y t0)), (1, .ref (za Y t1)), (2, .int 0)]) rfl ?_
  exact BX12_copies_2 hG n1 t0 t1 0 σ hw h0 h1
-- TypeWheelTelegraphModel.records()V
def wX12_records_51 (ln : Nat → Nat) (Q : zS → Prop) : Nat → Nat → Int32 → zS → Prop
  | 0, _, _, _ => False
  | n + 1, t0, v1, σ => ((4763 ≤ v1 → ∀ x1 : Int32, x1 = (gi σ t0 5) + 1 → ∀ σ2 : zS, σ2 = si σ t0 5 x1 → Q σ2) ∧ (¬ 4763 ≤ v1 → ∃ j3 : Nat, gr σ t0 4 = some j3 ∧ ∃ j4 : Nat, gr σ t0 1 = some j4 ∧ vp_in v1 (ln j4) ∧ ∀ x6 : Int32, x6 = gi σ j4 v1.toNatClampNeg → ∀ x7 : Int32, x7 = (4763 * (gi σ t0 5)) + v1 → vp_in x7 (ln j3) ∧ ∀ σ9 : zS, σ9 = si σ j3 x7.toNatClampNeg x6 → ∀ x10 : Int32, x10 = v1 + 1 → (wX12_records_51 ln Q n) t0 x10 σ9))
def wX12_records_49 (ln : Nat → Nat) (Q : zS → Prop) (t0 : Nat) (σ : zS) : Prop := ∃ n1 : Nat, wX12_records_51 ln Q n1 t0 0 σ
def wX12_records_11 (ln : Nat → Nat) (Q : zS → Prop) : Nat → Nat → Int32 → zS → Prop
  | 0, _, _, _ => False
  | n + 1, t0, v1, σ => ((42867 ≤ v1 → ∀ x1 : Int32, x1 = (gi σ t0 5) - 1 → ∀ σ2 : zS, σ2 = si σ t0 5 x1 → wX12_records_49 ln Q t0 σ2) ∧ (¬ 42867 ≤ v1 → ∃ j3 : Nat, gr σ t0 4 = some j3 ∧ ∃ j4 : Nat, gr σ t0 4 = some j4 ∧ ∀ x5 : Int32, x5 = v1 + 4763 → vp_in x5 (ln j4) ∧ ∀ x7 : Int32, x7 = gi σ j4 x5.toNatClampNeg → vp_in v1 (ln j3) ∧ ∀ σ9 : zS, σ9 = si σ j3 v1.toNatClampNeg x7 → ∀ x10 : Int32, x10 = v1 + 1 → (wX12_records_11 ln Q n) t0 x10 σ9))
def wX12_records (ln : Nat → Nat) (σ : zS) (t0 : Nat) (Q : zS → Prop) : Prop := (((gi σ t0 5) = 10 → ∃ n1 : Nat, wX12_records_11 ln Q n1 t0 0 σ) ∧ (¬ (gi σ t0 5) = 10 → wX12_records_49 ln Q t0 σ))
abbrev rX12_records : Room := { frames := 0, cells := 0, slots := 0, locals := 0 }
set_option maxRecDepth 100000 in
set_option maxHeartbeats 4000000 in
theorem BX12_records_51 {l : Launch} {E : zE} {Y : zY} {p : Program} {e : Env} {s : State} {m : MethodId} {args : Array Value} {below : List Frame} {meth : Method} {c : Code} (hG : zG E p l s m args meth c cX12_records 2 RX12 none (zA Y s.heap.size)) {Q : zS → Prop} : ∀ (n : Nat) (t0 : Nat) (v1 : Int32) (σ : zS), wX12_records_51 (zln Y) Q n t0 v1 σ → zT Y 12 t0 → WW E Y σ p l e rX12_records s m args below meth c (zA Y s.heap.size) 2 0 0 (MQ below (va_Qv Q (zB E Y s.heap.size) (zA Y s.heap.size)) args s 0 0 (zA Y s.heap.size)) [(0, .ref (za Y t0)), (1, .int v1)] 51 [] := by
  intro n
  induction n with
  | zero => intro t0 v1 σ hw
            exact hw.elim
  | succ n ih =>
    intro t0 v1 σ hw h0
    rw [wX12_records_51] at hw
    refine z_iload_n hG dX12_records_51 rfl 1 rfl ?_
    refine z_sipush (v := 4763) hG dX12_records_52 (by decide) ?_
    refine z_icmp_ge (tgt := 85) hG dX12_records_55 (by decide) (fun c11 => ?_) (fun c11 => ?_)
    · have hw := hw.1 c11
      refine z_aload_n hG dX12_records_85 rfl 0 rfl ?_
      refine z_dup hG dX12_records_86 rfl ?_
      refine z_geti hG f_X12_50 h0 rfl dX12_records_87 ?_
      refine z_iconst (v := 1) hG dX12_records_90 (by decide) ?_
      refine z_iadd hG dX12_records_91 ?_
      refine z_topi (fun x1 ex1 => ?_)
      have hw := hw x1 ex1
      refine z_puti hG f_X12_50 h0 rfl rfl (zN_int _) dX12_records_92 ?_
      refine z_topσ (fun σ2 eσ2 => ?_)
      have hw := hw σ2 eσ2
      exact z_vret hG rfl dX12_records_95 hw
    · have hw := hw.2 c11
      refine z_aload_n hG dX12_records_58 rfl 0 rfl ?_
      obtain ⟨j3, ej3, hw⟩ := hw
      refine z_getr (kq := 20) hG f_X12_20 h0 rfl ej3 rfl (by decide) dX12_records_59 (fun hj3 => ?_)
      refine z_sipush (v := 4763) hG dX12_records_62 (by decide) ?_
      refine z_aload_n hG dX12_records_65 rfl 0 rfl ?_
      refine z_geti hG f_X12_50 h0 rfl dX12_records_66 ?_
      refine z_imul hG dX12_records_69 ?_
      refine z_iload_n hG dX12_records_70 rfl 1 rfl ?_
      refine z_iadd hG dX12_records_71 ?_
      refine z_aload_n hG dX12_records_72 rfl 0 rfl ?_
      obtain ⟨j4, ej4, hw⟩ := hw
      refine z_getr (kq := 20) hG f_X12_7 h0 rfl ej4 rfl (by decide) dX12_records_73 (fun hj4 => ?_)
      refine z_iload_n hG dX12_records_76 rfl 1 rfl ?_
      obtain ⟨q5, hw⟩ := hw
      refine z_iald hG hj4 q5 dX12_records_77 ?_
      refine z_topi (fun x6 ex6 => ?_)
      have hw := hw x6 ex6
      obtain ⟨x7, ex7⟩ : ∃ y : Int32, y = (4763 * (gi σ t0 5)) + v1 := ⟨_, rfl⟩
      refine zst (st' := [.int x6, .int x7, .ref (za Y j3)]) (by rw [ex7]) ?_
      have hw := hw x7 ex7
      obtain ⟨q8, hw⟩ := hw
      refine z_iast hG hj3 q8 dX12_records_78 ?_
      refine z_topσ (fun σ9 eσ9 => ?_)
      have hw := hw σ9 eσ9
      obtain ⟨x10, ex10⟩ : ∃ y : Int32, y = v1 + 1 := ⟨_, rfl⟩
      have hw := hw x10 ex10
      refine z_iinc (v := x10) (lv' := [(1, .int x10), (0, .ref (za Y t0))]) hG dX12_records_79 1 rfl (by rw [ex10]; rfl) (by decide) rfl ?_
      refine z_goto (tgt := 51) hG dX12_records_82 (by decide) ?_
      refine zpick [1, 0] (lv' := [(0, .ref (za Y t0)), (1, .int x10)]) rfl ?_
      exact ih t0 x10 σ9 hw h0
set_option maxRecDepth 100000 in
set_option maxHeartbeats 4000000 in
theorem BX12_records_49 {l : Launch} {E : zE} {Y : zY} {p : Program} {e : Env} {s : State} {m : MethodId} {args : Array Value} {below : List Frame} {meth : Method} {c : Code} (hG : zG E p l s m args meth c cX12_records 2 RX12 none (zA Y s.heap.size)) {Q : zS → Prop} : ∀ (t0 : Nat) (σ : zS), wX12_records_49 (zln Y) Q t0 σ → zT Y 12 t0 → WW E Y σ p l e rX12_records s m args below meth c (zA Y s.heap.size) 2 0 0 (MQ below (va_Qv Q (zB E Y s.heap.size) (zA Y s.heap.size)) args s 0 0 (zA Y s.heap.size)) [(0, .ref (za Y t0))] 49 [] := by
  intro t0 σ hw h0
  unfold wX12_records_49 at hw
  refine z_iconst (v := 0) hG dX12_records_49 (by decide) ?_
  refine z_istore_n (lv' := [(1, .int 0), (0, .ref (za Y t0))]) hG dX12_records_50 rfl (by decide) rfl ?_
  obtain ⟨n1, hw⟩ := hw
  refine zpick [1, 0] (lv' := [(0, .ref (za Y t0)), (1, .int 0)]) rfl ?_
  exact BX12_records_51 hG n1 t0 0 σ hw h0
set_option maxRecDepth 100000 in
set_option maxHeartbeats 4000000 in
theorem BX12_records_11 {l : Launch} {E : zE} {Y : zY} {p : Program} {e : Env} {s : State} {m : MethodId} {args : Array Value} {below : List Frame} {meth : Method} {c : Code} (hG : zG E p l s m args meth c cX12_records 2 RX12 none (zA Y s.heap.size)) {Q : zS → Prop} : ∀ (n : Nat) (t0 : Nat) (v1 : Int32) (σ : zS), wX12_records_11 (zln Y) Q n t0 v1 σ → zT Y 12 t0 → WW E Y σ p l e rX12_records s m args below meth c (zA Y s.heap.size) 2 0 0 (MQ below (va_Qv Q (zB E Y s.heap.size) (zA Y s.heap.size)) args s 0 0 (zA Y s.heap.size)) [(0, .ref (za Y t0)), (1, .int v1)] 11 [] := by
  intro n
  induction n with
  | zero => intro t0 v1 σ hw
            exact hw.elim
  | succ n ih =>
    intro t0 v1 σ hw h0
    rw [wX12_records_11] at hw
    refine z_iload_n hG dX12_records_11 rfl 1 rfl ?_
    refine z_ldc (hc := c_X12_53) hG (hd := dX12_records_12) ?_
    refine z_icmp_ge (tgt := 39) hG dX12_records_14 (by decide) (fun c11 => ?_) (fun c11 => ?_)
    · have hw := hw.1 c11
      refine z_aload_n hG dX12_records_39 rfl 0 rfl ?_
      refine z_dup hG dX12_records_40 rfl ?_
      refine z_geti hG f_X12_50 h0 rfl dX12_records_41 ?_
      refine z_iconst (v := 1) hG dX12_records_44 (by decide) ?_
      refine z_isub hG dX12_records_45 ?_
      refine z_topi (fun x1 ex1 => ?_)
      have hw := hw x1 ex1
      refine z_puti hG f_X12_50 h0 rfl rfl (zN_int _) dX12_records_46 ?_
      refine z_topσ (fun σ2 eσ2 => ?_)
      have hw := hw σ2 eσ2
      refine zpick [0] (lv' := [(0, .ref (za Y t0))]) rfl ?_
      exact BX12_records_49 hG t0 σ2 hw h0
    · have hw := hw.2 c11
      refine z_aload_n hG dX12_records_17 rfl 0 rfl ?_
      obtain ⟨j3, ej3, hw⟩ := hw
      refine z_getr (kq := 20) hG f_X12_20 h0 rfl ej3 rfl (by decide) dX12_records_18 (fun hj3 => ?_)
      refine z_iload_n hG dX12_records_21 rfl 1 rfl ?_
      refine z_aload_n hG dX12_records_22 rfl 0 rfl ?_
      obtain ⟨j4, ej4, hw⟩ := hw
      refine z_getr (kq := 20) hG f_X12_20 h0 rfl ej4 rfl (by decide) dX12_records_23 (fun hj4 => ?_)
      refine z_iload_n hG dX12_records_26 rfl 1 rfl ?_
      refine z_sipush (v := 4763) hG dX12_records_27 (by decide) ?_
      refine z_iadd hG dX12_records_30 ?_
      refine z_topi (fun x5 ex5 => ?_)
      have hw := hw x5 ex5
      obtain ⟨q6, hw⟩ := hw
      refine z_iald hG hj4 q6 dX12_records_31 ?_
      refine z_topi (fun x7 ex7 => ?_)
      have hw := hw x7 ex7
      obtain ⟨q8, hw⟩ := hw
      refine z_iast hG hj3 q8 dX12_records_32 ?_
      refine z_topσ (fun σ9 eσ9 => ?_)
      have hw := hw σ9 eσ9
      obtain ⟨x10, ex10⟩ : ∃ y : Int32, y = v1 + 1 := ⟨_, rfl⟩
      have hw := hw x10 ex10
      refine z_iinc (v := x10) (lv' := [(1, .int x10), (0, .ref (za Y t0))]) hG dX12_records_33 1 rfl (by rw [ex10]; rfl) (by decide) rfl ?_
      refine z_goto (tgt := 11) hG dX12_records_36 (by decide) ?_
      refine zpick [1, 0] (lv' := [(0, .ref (za Y t0)), (1, .int x10)]) rfl ?_
      exact ih t0 x10 σ9 hw h0
set_option maxRecDepth 100000 in
set_option maxHeartbeats 4000000 in
theorem MX12_records (l : Launch) {E : zE} {Y : zY} {σ : zS} {t0 : Nat} (h0 : zT Y 12 t0) {Q : zS → Prop} (hw : wX12_records (zln Y) σ t0 Q) : ∀ sz, Met l yX12_records (zw yX12_records cX12_records 2 none) rX12_records (zPc E Y σ sz [.ref (za Y t0)]) (va_Qv Q (zB E Y sz) (zA Y sz)) 0 0 (zA Y sz) := by
  refine z_met (own := RX12) (Qc := fun sz => va_Qv Q (zB E Y sz) (zA Y sz)) (by decide +kernel) rfl (Nat.le_of_ble_eq_true rfl) ?_
  intro p e s m args below meth c hG hinit
  unfold wX12_records at hw
  refine zlv (lv' := [(0, .ref (za Y t0))]) rfl ?_
  refine z_aload_n hG dX12_records_0 rfl 0 rfl ?_
  refine z_geti hG f_X12_50 h0 rfl dX12_records_1 ?_
  refine z_bipush (v := 10) hG dX12_records_4 (by decide) ?_
  refine z_icmp_ne (tgt := 49) hG dX12_records_6 (by decide) (fun c2 => ?_) (fun c2 => ?_)
  · have hw := hw.2 c2
    refine zpick [0] (lv' := [(0, .ref (za Y t0))]) rfl ?_
    exact BX12_records_49 hG t0 σ hw h0
  · have hw := hw.1 c2
    refine z_iconst (v := 0) hG dX12_records_9 (by decide) ?_
    refine z_istore_n (lv' := [(1, .int 0), (0, .ref (za Y t0))]) hG dX12_records_10 rfl (by decide) rfl ?_
    obtain ⟨n1, hw⟩ := hw
    refine zpick [1, 0] (lv' := [(0, .ref (za Y t0)), (1, .int 0)]) rfl ?_
    exact BX12_records_11 hG n1 t0 0 σ hw h0
-- TypeWheelTelegraphModel.isOffice(I)Z
def wX12_isOffice (ln : Nat → Nat) (σ : zS) (v0 : Int32) (Q : Int32 → zS → Prop) : Prop := ((v0 = 0 → Q 1 σ) ∧ (¬ v0 = 0 → ((v0 = 1 → Q 1 σ) ∧ (¬ v0 = 1 → Q 0 σ))))
abbrev rX12_isOffice : Room := { frames := 0, cells := 0, slots := 0, locals := 0 }
set_option maxRecDepth 100000 in
set_option maxHeartbeats 4000000 in
theorem MX12_isOffice (l : Launch) {E : zE} {Y : zY} {σ : zS} {v0 : Int32} {Q : Int32 → zS → Prop} (hw : wX12_isOffice (zln Y) σ v0 Q) : ∀ sz, Met l yX12_isOffice (zw yX12_isOffice cX12_isOffice 1 (some .boolean)) rX12_isOffice (zPc E Y σ sz [.int v0]) (va_Qi Q (zB E Y sz) (zA Y sz)) 0 0 (zA Y sz) := by
  refine z_met (own := RX12) (Qc := fun sz => va_Qi Q (zB E Y sz) (zA Y sz)) (by decide +kernel) rfl (Nat.le_of_ble_eq_true rfl) ?_
  intro p e s m args below meth c hG hinit
  unfold wX12_isOffice at hw
  refine zlv (lv' := [(0, .int v0)]) rfl ?_
  refine z_iload_n hG dX12_isOffice_0 rfl 0 rfl ?_
  refine z_if_eq (tgt := 9) hG dX12_isOffice_1 (by decide) (fun c2 => ?_) (fun c2 => ?_)
  · have hw := hw.1 c2
    refine z_iconst (v := 1) hG dX12_isOffice_9 (by decide) ?_
    refine z_goto (tgt := 14) hG dX12_isOffice_10 (by decide) ?_
    exact z_iret hG rfl (by decide +kernel) dX12_isOffice_14 hw
  · have hw := hw.2 c2
    refine z_iload_n hG dX12_isOffice_4 rfl 0 rfl ?_
    refine z_iconst (v := 1) hG dX12_isOffice_5 (by decide) ?_
    refine z_icmp_ne (tgt := 13) hG dX12_isOffice_6 (by decide) (fun c1 => ?_) (fun c1 => ?_)
    · have hw := hw.2 c1
      refine z_iconst (v := 0) hG dX12_isOffice_13 (by decide) ?_
      exact z_iret hG rfl (by decide +kernel) dX12_isOffice_14 hw
    · have hw := hw.1 c1
      refine z_iconst (v := 1) hG dX12_isOffice_9 (by decide) ?_
      refine z_goto (tgt := 14) hG dX12_isOffice_10 (by decide) ?_
      exact z_iret hG rfl (by decide +kernel) dX12_isOffice_14 hw
-- TypeWheelTelegraphModel.isLine(II)Z
def wX12_isLine (ln : Nat → Nat) (σ : zS) (t0 : Nat) (v1 : Int32) (v2 : Int32) (Q : Int32 → zS → Prop) : Prop := wX12_isOffice ln σ v1 (fun r2 σ1 => ((r2 = 0 → Q 0 σ1) ∧ (¬ r2 = 0 → ∃ j3 : Nat, gr σ1 t0 1 = some j3 ∧ ∀ x4 : Int32, x4 = 25 + v1 → vp_in x4 (ln j3) ∧ ∀ x6 : Int64, x6 = ((gi σ1 j3 x4.toNatClampNeg) - 1).toInt64 → ∀ x7 : Int64, x7 = v2.toInt64 → wX12_isIn ln σ1 x7 0 x6 (fun r9 σ8 => ((r9 = 0 → Q 0 σ8) ∧ (¬ r9 = 0 → Q 1 σ8))))))
abbrev rX12_isLine : Room := { frames := 1, cells := 0, slots := 0, locals := 25 }
set_option maxRecDepth 100000 in
set_option maxHeartbeats 4000000 in
theorem MX12_isLine (l : Launch) {E : zE} {Y : zY} {σ : zS} {t0 : Nat} {v1 : Int32} {v2 : Int32} (h0 : zT Y 12 t0) {Q : Int32 → zS → Prop} (hw : wX12_isLine (zln Y) σ t0 v1 v2 Q) : ∀ sz, Met l yX12_isLine (zw yX12_isLine cX12_isLine 3 (some .boolean)) rX12_isLine (zPc E Y σ sz [.ref (za Y t0), .int v1, .int v2]) (va_Qi Q (zB E Y sz) (zA Y sz)) 0 0 (zA Y sz) := by
  refine z_met (own := RX12) (Qc := fun sz => va_Qi Q (zB E Y sz) (zA Y sz)) (by decide +kernel) rfl (Nat.le_of_ble_eq_true rfl) ?_
  intro p e s m args below meth c hG hinit
  unfold wX12_isLine at hw
  refine zlv (lv' := [(0, .ref (za Y t0)), (1, .int v1), (2, .int v2)]) rfl ?_
  refine z_iload_n hG dX12_isLine_0 rfl 1 rfl ?_
  refine z_calli hG (z_runS (As := [.int v1]) (st := []) hG k_X12_54 (MX12_isOffice l hw) ⟨(Nat.le_of_ble_eq_true rfl), (Nat.le_of_ble_eq_true rfl)⟩ rfl (Nat.le_of_ble_eq_true rfl) dX12_isLine_1 ⟨Nat.zero_le _, Nat.zero_le _⟩ rfl) (fun r2 σ1 hw => ?_)
  refine z_if_eq (tgt := 32) hG dX12_isLine_4 (by decide) (fun c11 => ?_) (fun c11 => ?_)
  · have hw := hw.1 c11
    refine z_iconst (v := 0) hG dX12_isLine_32 (by decide) ?_
    exact z_iret hG rfl (by decide +kernel) dX12_isLine_33 hw
  · have hw := hw.2 c11
    refine z_iload_n hG dX12_isLine_7 rfl 2 rfl ?_
    refine z_i2l hG dX12_isLine_8 ?_
    refine z_lconst (v := 0) hG dX12_isLine_9 (by decide) ?_
    refine z_aload_n hG dX12_isLine_10 rfl 0 rfl ?_
    obtain ⟨j3, ej3, hw⟩ := hw
    refine z_getr (kq := 20) hG f_X12_7 h0 rfl ej3 rfl (by decide) dX12_isLine_11 (fun hj3 => ?_)
    refine z_bipush (v := 25) hG dX12_isLine_14 (by decide) ?_
    refine z_iload_n hG dX12_isLine_16 rfl 1 rfl ?_
    refine z_iadd hG dX12_isLine_17 ?_
    refine z_topi (fun x4 ex4 => ?_)
    have hw := hw x4 ex4
    obtain ⟨q5, hw⟩ := hw
    refine z_iald hG hj3 q5 dX12_isLine_18 ?_
    refine z_iconst (v := 1) hG dX12_isLine_19 (by decide) ?_
    refine z_isub hG dX12_isLine_20 ?_
    refine z_i2l hG dX12_isLine_21 ?_
    refine z_topl (fun x6 ex6 => ?_)
    have hw := hw x6 ex6
    obtain ⟨x7, ex7⟩ : ∃ y : Int64, y = v2.toInt64 := ⟨_, rfl⟩
    refine zst (st' := [.long x6, .long 0, .long x7]) (by rw [ex7]) ?_
    have hw := hw x7 ex7
    refine z_calli hG (z_runS (As := [.long x7, .long 0, .long x6]) (st := []) hG k_X12_58 (MX12_isIn l hw) ⟨(Nat.le_of_ble_eq_true rfl), (Nat.le_of_ble_eq_true rfl)⟩ rfl (Nat.le_of_ble_eq_true rfl) dX12_isLine_22 ⟨Nat.zero_le _, Nat.zero_le _⟩ rfl) (fun r9 σ8 hw => ?_)
    refine z_if_eq (tgt := 32) hG dX12_isLine_25 (by decide) (fun c10 => ?_) (fun c10 => ?_)
    · have hw := hw.1 c10
      refine z_iconst (v := 0) hG dX12_isLine_32 (by decide) ?_
      exact z_iret hG rfl (by decide +kernel) dX12_isLine_33 hw
    · have hw := hw.2 c10
      refine z_iconst (v := 1) hG dX12_isLine_28 (by decide) ?_
      refine z_goto (tgt := 33) hG dX12_isLine_29 (by decide) ?_
      exact z_iret hG rfl (by decide +kernel) dX12_isLine_33 hw
-- TypeWheelTelegraphModel.isSender()Z
def wX12_isSender (ln : Nat → Nat) (σ : zS) (t0 : Nat) (Q : Int32 → zS → Prop) : Prop := ∃ j1 : Nat, gr σ t0 1 = some j1 ∧ vp_in (6 : Int32) (ln j1) ∧ (((gi σ j1 (6 : Int32).toNatClampNeg) = (-1) → Q 0 σ) ∧ (¬ (gi σ j1 (6 : Int32).toNatClampNeg) = (-1) → Q 1 σ))
abbrev rX12_isSender : Room := { frames := 0, cells := 0, slots := 0, locals := 0 }
set_option maxRecDepth 100000 in
set_option maxHeartbeats 4000000 in
theorem MX12_isSender (l : Launch) {E : zE} {Y : zY} {σ : zS} {t0 : Nat} (h0 : zT Y 12 t0) {Q : Int32 → zS → Prop} (hw : wX12_isSender (zln Y) σ t0 Q) : ∀ sz, Met l yX12_isSender (zw yX12_isSender cX12_isSender 1 (some .boolean)) rX12_isSender (zPc E Y σ sz [.ref (za Y t0)]) (va_Qi Q (zB E Y sz) (zA Y sz)) 0 0 (zA Y sz) := by
  refine z_met (own := RX12) (Qc := fun sz => va_Qi Q (zB E Y sz) (zA Y sz)) (by decide +kernel) rfl (Nat.le_of_ble_eq_true rfl) ?_
  intro p e s m args below meth c hG hinit
  unfold wX12_isSender at hw
  refine zlv (lv' := [(0, .ref (za Y t0))]) rfl ?_
  refine z_aload_n hG dX12_isSender_0 rfl 0 rfl ?_
  obtain ⟨j1, ej1, hw⟩ := hw
  refine z_getr (kq := 20) hG f_X12_7 h0 rfl ej1 rfl (by decide) dX12_isSender_1 (fun hj1 => ?_)
  refine z_bipush (v := 6) hG dX12_isSender_4 (by decide) ?_
  obtain ⟨q2, hw⟩ := hw
  refine z_iald hG hj1 q2 dX12_isSender_6 ?_
  refine z_iconst (v := (-1)) hG dX12_isSender_7 (by decide) ?_
  refine z_icmp_eq (tgt := 15) hG dX12_isSender_8 (by decide) (fun c3 => ?_) (fun c3 => ?_)
  · have hw := hw.1 c3
    refine z_iconst (v := 0) hG dX12_isSender_15 (by decide) ?_
    exact z_iret hG rfl (by decide +kernel) dX12_isSender_16 hw
  · have hw := hw.2 c3
    refine z_iconst (v := 1) hG dX12_isSender_11 (by decide) ?_
    refine z_goto (tgt := 16) hG dX12_isSender_12 (by decide) ?_
    exact z_iret hG rfl (by decide +kernel) dX12_isSender_16 hw
-- TypeWheelTelegraphModel.receiver()I
def wX12_receiver (ln : Nat → Nat) (σ : zS) (t0 : Nat) (Q : Int32 → zS → Prop) : Prop := ∃ j1 : Nat, gr σ t0 1 = some j1 ∧ vp_in (6 : Int32) (ln j1) ∧ Q (1 - (gi σ j1 (6 : Int32).toNatClampNeg)) σ
abbrev rX12_receiver : Room := { frames := 0, cells := 0, slots := 0, locals := 0 }
set_option maxRecDepth 100000 in
set_option maxHeartbeats 4000000 in
theorem MX12_receiver (l : Launch) {E : zE} {Y : zY} {σ : zS} {t0 : Nat} (h0 : zT Y 12 t0) {Q : Int32 → zS → Prop} (hw : wX12_receiver (zln Y) σ t0 Q) : ∀ sz, Met l yX12_receiver (zw yX12_receiver cX12_receiver 1 (some .int)) rX12_receiver (zPc E Y σ sz [.ref (za Y t0)]) (va_Qi Q (zB E Y sz) (zA Y sz)) 0 0 (zA Y sz) := by
  refine z_met (own := RX12) (Qc := fun sz => va_Qi Q (zB E Y sz) (zA Y sz)) (by decide +kernel) rfl (Nat.le_of_ble_eq_true rfl) ?_
  intro p e s m args below meth c hG hinit
  unfold wX12_receiver at hw
  refine zlv (lv' := [(0, .ref (za Y t0))]) rfl ?_
  refine z_iconst (v := 1) hG dX12_receiver_0 (by decide) ?_
  refine z_aload_n hG dX12_receiver_1 rfl 0 rfl ?_
  obtain ⟨j1, ej1, hw⟩ := hw
  refine z_getr (kq := 20) hG f_X12_7 h0 rfl ej1 rfl (by decide) dX12_receiver_2 (fun hj1 => ?_)
  refine z_bipush (v := 6) hG dX12_receiver_5 (by decide) ?_
  obtain ⟨q2, hw⟩ := hw
  refine z_iald hG hj1 q2 dX12_receiver_7 ?_
  refine z_isub hG dX12_receiver_8 ?_
  exact z_iret hG rfl rfl dX12_receiver_9 hw
-- TypeWheelTelegraphModel.round()I
def wX12_round (ln : Nat → Nat) (σ : zS) (t0 : Nat) (Q : Int32 → zS → Prop) : Prop := ∃ j1 : Nat, gr σ t0 1 = some j1 ∧ vp_in (0 : Int32) (ln j1) ∧ Q (1000 * (gi σ j1 (0 : Int32).toNatClampNeg)) σ
abbrev rX12_round : Room := { frames := 0, cells := 0, slots := 0, locals := 0 }
set_option maxRecDepth 100000 in
set_option maxHeartbeats 4000000 in
theorem MX12_round (l : Launch) {E : zE} {Y : zY} {σ : zS} {t0 : Nat} (h0 : zT Y 12 t0) {Q : Int32 → zS → Prop} (hw : wX12_round (zln Y) σ t0 Q) : ∀ sz, Met l yX12_round (zw yX12_round cX12_round 1 (some .int)) rX12_round (zPc E Y σ sz [.ref (za Y t0)]) (va_Qi Q (zB E Y sz) (zA Y sz)) 0 0 (zA Y sz) := by
  refine z_met (own := RX12) (Qc := fun sz => va_Qi Q (zB E Y sz) (zA Y sz)) (by decide +kernel) rfl (Nat.le_of_ble_eq_true rfl) ?_
  intro p e s m args below meth c hG hinit
  unfold wX12_round at hw
  refine zlv (lv' := [(0, .ref (za Y t0))]) rfl ?_
  refine z_sipush (v := 1000) hG dX12_round_0 (by decide) ?_
  refine z_aload_n hG dX12_round_3 rfl 0 rfl ?_
  obtain ⟨j1, ej1, hw⟩ := hw
  refine z_getr (kq := 20) hG f_X12_7 h0 rfl ej1 rfl (by decide) dX12_round_4 (fun hj1 => ?_)
  refine z_iconst (v := 0) hG dX12_round_7 (by decide) ?_
  obtain ⟨q2, hw⟩ := hw
  refine z_iald hG hj1 q2 dX12_round_8 ?_
  refine z_imul hG dX12_round_9 ?_
  exact z_iret hG rfl rfl dX12_round_10 hw
-- TypeWheelTelegraphModel.within(J)I
def wX12_within (ln : Nat → Nat) (σ : zS) (t0 : Nat) (v1 : Int64) (Q : Int32 → zS → Prop) : Prop := wX12_round ln σ t0 (fun r2 σ1 => ∀ x3 : Int64, x3 = r2.toInt64 → ¬ x3 = 0 ∧ ∀ x5 : Int32, x5 = (v1 - v1 / x3 * x3).toInt32 → ((0 ≤ x5 → Q x5 σ1) ∧ (¬ 0 ≤ x5 → wX12_round ln σ1 t0 (fun r7 σ6 => Q (x5 + r7) σ6))))
abbrev rX12_within : Room := { frames := 1, cells := 0, slots := 0, locals := 20 }
set_option maxRecDepth 100000 in
set_option maxHeartbeats 4000000 in
theorem MX12_within (l : Launch) {E : zE} {Y : zY} {σ : zS} {t0 : Nat} {v1 : Int64} (h0 : zT Y 12 t0) {Q : Int32 → zS → Prop} (hw : wX12_within (zln Y) σ t0 v1 Q) : ∀ sz, Met l yX12_within (zw yX12_within cX12_within 4 (some .int)) rX12_within (zPc E Y σ sz [.ref (za Y t0), .long v1]) (va_Qi Q (zB E Y sz) (zA Y sz)) 0 0 (zA Y sz) := by
  refine z_met (own := RX12) (Qc := fun sz => va_Qi Q (zB E Y sz) (zA Y sz)) (by decide +kernel) rfl (Nat.le_of_ble_eq_true rfl) ?_
  intro p e s m args below meth c hG hinit
  unfold wX12_within at hw
  refine zlv (lv' := [(0, .ref (za Y t0)), (1, .long v1)]) rfl ?_
  refine z_lload_n hG dX12_within_0 rfl 1 rfl ?_
  refine z_aload_n hG dX12_within_1 rfl 0 rfl ?_
  refine z_calli hG (z_runV (As := []) (st := [.long v1]) hG k_X12_62 (MX12_round l h0 hw) ⟨(Nat.le_of_ble_eq_true rfl), (Nat.le_of_ble_eq_true rfl)⟩ h0 (T := TX12) (N := 23) rfl (by decide) rfl (Nat.le_of_ble_eq_true rfl) dX12_within_2 ⟨Nat.zero_le _, Nat.zero_le _⟩ rfl) (fun r2 σ1 hw => ?_)
  refine z_i2l hG dX12_within_5 ?_
  refine z_topl (fun x3 ex3 => ?_)
  have hw := hw x3 ex3
  obtain ⟨q4, hw⟩ := hw
  refine z_lrem hG dX12_within_6 q4 ?_
  refine z_l2i hG dX12_within_7 ?_
  refine z_topi (fun x5 ex5 => ?_)
  have hw := hw x5 ex5
  refine z_istore_n (lv' := [(3, .int x5), (0, .ref (za Y t0)), (1, .long v1)]) hG dX12_within_8 rfl (by decide) rfl ?_
  refine z_iload_n hG dX12_within_9 rfl 0 rfl ?_
  refine z_if_ge (tgt := 22) hG dX12_within_10 (by decide) (fun c8 => ?_) (fun c8 => ?_)
  · have hw := hw.1 c8
    refine z_iload_n hG dX12_within_22 rfl 0 rfl ?_
    exact z_iret hG rfl rfl dX12_within_23 hw
  · have hw := hw.2 c8
    refine z_iload_n hG dX12_within_13 rfl 0 rfl ?_
    refine z_aload_n hG dX12_within_14 rfl 1 rfl ?_
    refine z_calli hG (z_runV (As := []) (st := [.int x5]) hG k_X12_62 (MX12_round l h0 hw) ⟨(Nat.le_of_ble_eq_true rfl), (Nat.le_of_ble_eq_true rfl)⟩ h0 (T := TX12) (N := 23) rfl (by decide) rfl (Nat.le_of_ble_eq_true rfl) dX12_within_15 ⟨Nat.zero_le _, Nat.zero_le _⟩ rfl) (fun r7 σ6 hw => ?_)
    refine z_iadd hG dX12_within_18 ?_
    refine z_goto (tgt := 23) hG dX12_within_19 (by decide) ?_
    exact z_iret hG rfl rfl dX12_within_23 hw
-- TypeWheelTelegraphModel.goesBy(I)V
def wX12_goesBy (ln : Nat → Nat) (σ : zS) (t0 : Nat) (v1 : Int32) (Q : zS → Prop) : Prop := ∃ j1 : Nat, gr σ t0 6 = some j1 ∧ ∀ x2 : Int32, x2 = gi σ t0 7 → vp_in x2 (ln j1) ∧ ∀ σ4 : zS, σ4 = si σ j1 x2.toNatClampNeg v1 → ∀ x5 : Int32, x5 = (gi σ4 t0 7) + 1 → ∀ σ6 : zS, σ6 = si σ4 t0 7 x5 → Q σ6
abbrev rX12_goesBy : Room := { frames := 0, cells := 0, slots := 0, locals := 0 }
set_option maxRecDepth 100000 in
set_option maxHeartbeats 4000000 in
theorem MX12_goesBy (l : Launch) {E : zE} {Y : zY} {σ : zS} {t0 : Nat} {v1 : Int32} (h0 : zT Y 12 t0) {Q : zS → Prop} (hw : wX12_goesBy (zln Y) σ t0 v1 Q) : ∀ sz, Met l yX12_goesBy (zw yX12_goesBy cX12_goesBy 2 none) rX12_goesBy (zPc E Y σ sz [.ref (za Y t0), .int v1]) (va_Qv Q (zB E Y sz) (zA Y sz)) 0 0 (zA Y sz) := by
  refine z_met (own := RX12) (Qc := fun sz => va_Qv Q (zB E Y sz) (zA Y sz)) (by decide +kernel) rfl (Nat.le_of_ble_eq_true rfl) ?_
  intro p e s m args below meth c hG hinit
  unfold wX12_goesBy at hw
  refine zlv (lv' := [(0, .ref (za Y t0)), (1, .int v1)]) rfl ?_
  refine z_aload_n hG dX12_goesBy_0 rfl 0 rfl ?_
  obtain ⟨j1, ej1, hw⟩ := hw
  refine z_getr (kq := 20) hG f_X12_23 h0 rfl ej1 rfl (by decide) dX12_goesBy_1 (fun hj1 => ?_)
  refine z_aload_n hG dX12_goesBy_4 rfl 0 rfl ?_
  refine z_geti hG f_X12_66 h0 rfl dX12_goesBy_5 ?_
  refine z_iload_n hG dX12_goesBy_8 rfl 1 rfl ?_
  obtain ⟨x2, ex2⟩ : ∃ y : Int32, y = gi σ t0 7 := ⟨_, rfl⟩
  refine zst (st' := [.int v1, .int x2, .ref (za Y j1)]) (by rw [ex2]) ?_
  have hw := hw x2 ex2
  obtain ⟨q3, hw⟩ := hw
  refine z_iast hG hj1 q3 dX12_goesBy_9 ?_
  refine z_topσ (fun σ4 eσ4 => ?_)
  have hw := hw σ4 eσ4
  refine z_aload_n hG dX12_goesBy_10 rfl 0 rfl ?_
  refine z_dup hG dX12_goesBy_11 rfl ?_
  refine z_geti hG f_X12_66 h0 rfl dX12_goesBy_12 ?_
  refine z_iconst (v := 1) hG dX12_goesBy_15 (by decide) ?_
  refine z_iadd hG dX12_goesBy_16 ?_
  refine z_topi (fun x5 ex5 => ?_)
  have hw := hw x5 ex5
  refine z_puti hG f_X12_66 h0 rfl rfl (zN_int _) dX12_goesBy_17 ?_
  refine z_topσ (fun σ6 eσ6 => ?_)
  have hw := hw σ6 eσ6
  exact z_vret hG rfl dX12_goesBy_20 hw
-- TypeWheelTelegraphModel.isDigit(I)Z
def wX12_isDigit (ln : Nat → Nat) (σ : zS) (v0 : Int32) (Q : Int32 → zS → Prop) : Prop := ∀ x1 : Int64, x1 = v0.toInt64 → wX12_isIn ln σ x1 48 57 (fun r3 σ2 => zB1 r3 ∧ Q r3 σ2)
abbrev rX12_isDigit : Room := { frames := 1, cells := 0, slots := 0, locals := 25 }
set_option maxRecDepth 100000 in
set_option maxHeartbeats 4000000 in
theorem MX12_isDigit (l : Launch) {E : zE} {Y : zY} {σ : zS} {v0 : Int32} {Q : Int32 → zS → Prop} (hw : wX12_isDigit (zln Y) σ v0 Q) : ∀ sz, Met l yX12_isDigit (zw yX12_isDigit cX12_isDigit 1 (some .boolean)) rX12_isDigit (zPc E Y σ sz [.int v0]) (va_Qi Q (zB E Y sz) (zA Y sz)) 0 0 (zA Y sz) := by
  refine z_met (own := RX12) (Qc := fun sz => va_Qi Q (zB E Y sz) (zA Y sz)) (by decide +kernel) rfl (Nat.le_of_ble_eq_true rfl) ?_
  intro p e s m args below meth c hG hinit
  unfold wX12_isDigit at hw
  refine zlv (lv' := [(0, .int v0)]) rfl ?_
  refine z_iload_n hG dX12_isDigit_0 rfl 0 rfl ?_
  refine z_i2l hG dX12_isDigit_1 ?_
  refine z_ldc2 (hc := c_X12_69) hG (hd := dX12_isDigit_2) ?_
  refine z_ldc2 (hc := c_X12_71) hG (hd := dX12_isDigit_5) ?_
  obtain ⟨x1, ex1⟩ : ∃ y : Int64, y = v0.toInt64 := ⟨_, rfl⟩
  refine zst (st' := [.long 57, .long 48, .long x1]) (by rw [ex1]) ?_
  have hw := hw x1 ex1
  refine z_calli hG (z_runS (As := [.long x1, .long 48, .long 57]) (st := []) hG k_X12_58 (MX12_isIn l hw) ⟨(Nat.le_of_ble_eq_true rfl), (Nat.le_of_ble_eq_true rfl)⟩ rfl (Nat.le_of_ble_eq_true rfl) dX12_isDigit_8 ⟨Nat.zero_le _, Nat.zero_le _⟩ rfl) (fun r3 σ2 hw => ?_)
  obtain ⟨q4, hw⟩ := hw
  exact z_iret hG rfl (zN_b q4).1 dX12_isDigit_11 hw
-- TypeWheelTelegraphModel.indexOf(I)I
def wX12_indexOf (ln : Nat → Nat) (σ : zS) (v0 : Int32) (Q : Int32 → zS → Prop) : Prop := wX12_isDigit ln σ v0 (fun r2 σ1 => ((r2 = 0 → Q (v0 - 97) σ1) ∧ (¬ r2 = 0 → Q (v0 - 48) σ1)))
abbrev rX12_indexOf : Room := { frames := 2, cells := 0, slots := 0, locals := 45 }
set_option maxRecDepth 100000 in
set_option maxHeartbeats 4000000 in
theorem MX12_indexOf (l : Launch) {E : zE} {Y : zY} {σ : zS} {v0 : Int32} {Q : Int32 → zS → Prop} (hw : wX12_indexOf (zln Y) σ v0 Q) : ∀ sz, Met l yX12_indexOf (zw yX12_indexOf cX12_indexOf 1 (some .int)) rX12_indexOf (zPc E Y σ sz [.int v0]) (va_Qi Q (zB E Y sz) (zA Y sz)) 0 0 (zA Y sz) := by
  refine z_met (own := RX12) (Qc := fun sz => va_Qi Q (zB E Y sz) (zA Y sz)) (by decide +kernel) rfl (Nat.le_of_ble_eq_true rfl) ?_
  intro p e s m args below meth c hG hinit
  unfold wX12_indexOf at hw
  refine zlv (lv' := [(0, .int v0)]) rfl ?_
  refine z_iload_n hG dX12_indexOf_0 rfl 0 rfl ?_
  refine z_calli hG (z_runS (As := [.int v0]) (st := []) hG k_X12_73 (MX12_isDigit l hw) ⟨(Nat.le_of_ble_eq_true rfl), (Nat.le_of_ble_eq_true rfl)⟩ rfl (Nat.le_of_ble_eq_true rfl) dX12_indexOf_1 ⟨Nat.zero_le _, Nat.zero_le _⟩ rfl) (fun r2 σ1 hw => ?_)
  refine z_if_eq (tgt := 14) hG dX12_indexOf_4 (by decide) (fun c3 => ?_) (fun c3 => ?_)
  · have hw := hw.1 c3
    refine z_iload_n hG dX12_indexOf_14 rfl 0 rfl ?_
    refine z_bipush (v := 97) hG dX12_indexOf_15 (by decide) ?_
    refine z_isub hG dX12_indexOf_17 ?_
    exact z_iret hG rfl rfl dX12_indexOf_18 hw
  · have hw := hw.2 c3
    refine z_iload_n hG dX12_indexOf_7 rfl 0 rfl ?_
    refine z_bipush (v := 48) hG dX12_indexOf_8 (by decide) ?_
    refine z_isub hG dX12_indexOf_10 ?_
    refine z_goto (tgt := 18) hG dX12_indexOf_11 (by decide) ?_
    exact z_iret hG rfl rfl dX12_indexOf_18 hw
-- TypeWheelTelegraphModel.lineAt(II)I
def wX12_lineAt (ln : Nat → Nat) (σ : zS) (t0 : Nat) (v1 : Int32) (v2 : Int32) (Q : Int32 → zS → Prop) : Prop := Q ((12 * v1) + v2) σ
abbrev rX12_lineAt : Room := { frames := 0, cells := 0, slots := 0, locals := 0 }
set_option maxRecDepth 100000 in
set_option maxHeartbeats 4000000 in
theorem MX12_lineAt (l : Launch) {E : zE} {Y : zY} {σ : zS} {t0 : Nat} {v1 : Int32} {v2 : Int32} (h0 : zT Y 12 t0) {Q : Int32 → zS → Prop} (hw : wX12_lineAt (zln Y) σ t0 v1 v2 Q) : ∀ sz, Met l yX12_lineAt (zw yX12_lineAt cX12_lineAt 3 (some .int)) rX12_lineAt (zPc E Y σ sz [.ref (za Y t0), .int v1, .int v2]) (va_Qi Q (zB E Y sz) (zA Y sz)) 0 0 (zA Y sz) := by
  refine z_met (own := RX12) (Qc := fun sz => va_Qi Q (zB E Y sz) (zA Y sz)) (by decide +kernel) rfl (Nat.le_of_ble_eq_true rfl) ?_
  intro p e s m args below meth c hG hinit
  unfold wX12_lineAt at hw
  refine zlv (lv' := [(0, .ref (za Y t0)), (1, .int v1), (2, .int v2)]) rfl ?_
  refine z_bipush (v := 12) hG dX12_lineAt_0 (by decide) ?_
  refine z_iload_n hG dX12_lineAt_2 rfl 1 rfl ?_
  refine z_imul hG dX12_lineAt_3 ?_
  refine z_iload_n hG dX12_lineAt_4 rfl 2 rfl ?_
  refine z_iadd hG dX12_lineAt_5 ?_
  exact z_iret hG rfl rfl dX12_lineAt_6 hw
-- TypeWheelTelegraphModel.finds(II)V
def wX12_finds_82 (ln : Nat → Nat) (Q : zS → Prop) (kb18 : Nat → Int32 → Int32 → Int32 → zS → Prop) (t0 : Nat) (v3 : Int32) (v4 : Int32) (v5 : Int32) (v6 : Int32) (σ : zS) : Prop := wX12_indexOf ln σ v6 (fun r2 σ1 => ∀ x3 : Int32, x3 = 2 + r2 → wX12_goesBy ln σ1 t0 x3 (fun σ4 => ∀ x5 : Int32, x5 = v5 + 1 → kb18 t0 v3 v4 x5 σ4))
def wX12_finds_66 (ln : Nat → Nat) (Q : zS → Prop) (kb18 : Nat → Int32 → Int32 → Int32 → zS → Prop) (t0 : Nat) (v3 : Int32) (v4 : Int32) (v5 : Int32) (v6 : Int32) (vw0 : Int32) (σ : zS) : Prop := ((vw0 = v3 → wX12_finds_82 ln Q kb18 t0 v3 v4 v5 v6 σ) ∧ (¬ vw0 = v3 → wX12_goesBy ln σ t0 vw0 (fun σ1 => wX12_finds_82 ln Q kb18 t0 vw0 v4 v5 v6 σ1)))
def wX12_finds_18 (ln : Nat → Nat) (Q : zS → Prop) : Nat → Nat → Int32 → Int32 → Int32 → zS → Prop
  | 0, _, _, _, _, _ => False
  | n + 1, t0, v3, v4, v5, σ => ∃ j1 : Nat, gr σ t0 1 = some j1 ∧ ∀ x2 : Int32, x2 = 219 + v4 → vp_in x2 (ln j1) ∧ (((gi σ j1 x2.toNatClampNeg) ≤ v5 → ∀ x4 : Int32, x4 = gi σ t0 7 → wX12_goesBy ln σ t0 v3 (fun σ5 => ∃ j6 : Nat, gr σ5 t0 1 = some j6 ∧ vp_in (0 : Int32) (ln j6) ∧ ∀ x8 : Int32, x8 = (gi σ5 j6 (0 : Int32).toNatClampNeg) - 2 → ¬ x8 = 0 ∧ ∀ x10 : Int32, x10 = 2 + (x4 - x4 / x8 * x8) → wX12_goesBy ln σ5 t0 x10 (fun σ11 => Q σ11))) ∧ (¬ (gi σ j1 x2.toNatClampNeg) ≤ v5 → ∃ j12 : Nat, gr σ t0 1 = some j12 ∧ ∀ x13 : Int32, x13 = (243 + (30 * v4)) + v5 → vp_in x13 (ln j12) ∧ ∀ x15 : Int32, x15 = gi σ j12 x13.toNatClampNeg → wX12_isDigit ln σ x15 (fun r17 σ16 => ((r17 = 0 → wX12_finds_66 ln Q (wX12_finds_18 ln Q n) t0 v3 v4 v5 x15 0 σ16) ∧ (¬ r17 = 0 → wX12_finds_66 ln Q (wX12_finds_18 ln Q n) t0 v3 v4 v5 x15 1 σ16)))))
def wX12_finds (ln : Nat → Nat) (σ : zS) (t0 : Nat) (v1 : Int32) (v2 : Int32) (Q : zS → Prop) : Prop := ∀ σ1 : zS, σ1 = si σ t0 7 0 → wX12_lineAt ln σ1 t0 v1 v2 (fun r3 σ2 => ∃ n4 : Nat, wX12_finds_18 ln Q n4 t0 0 r3 0 σ2)
abbrev rX12_finds : Room := { frames := 3, cells := 0, slots := 0, locals := 65 }
set_option maxRecDepth 100000 in
set_option maxHeartbeats 4000000 in
theorem BX12_finds_82 {l : Launch} {E : zE} {Y : zY} {p : Program} {e : Env} {s : State} {m : MethodId} {args : Array Value} {below : List Frame} {meth : Method} {c : Code} (hG : zG E p l s m args meth c cX12_finds 8 RX12 none (zA Y s.heap.size)) {Q : zS → Prop} {kb18 : Nat → Int32 → Int32 → Int32 → zS → Prop} (hkb18 : ∀ (t0 : Nat) (v3 : Int32) (v4 : Int32) (v5 : Int32) (σ : zS), kb18 t0 v3 v4 v5 σ → zT Y 12 t0 → WW E Y σ p l e rX12_finds s m args below meth c (zA Y s.heap.size) 8 0 0 (MQ below (va_Qv Q (zB E Y s.heap.size) (zA Y s.heap.size)) args s 0 0 (zA Y s.heap.size)) [(0, .ref (za Y t0)), (3, .int v3), (4, .int v4), (5, .int v5)] 18 []) : ∀ (t0 : Nat) (v3 : Int32) (v4 : Int32) (v5 : Int32) (v6 : Int32) (σ : zS), wX12_finds_82 (zln Y) Q kb18 t0 v3 v4 v5 v6 σ → zT Y 12 t0 → WW E Y σ p l e rX12_finds s m args below meth c (zA Y s.heap.size) 8 0 0 (MQ below (va_Qv Q (zB E Y s.heap.size) (zA Y s.heap.size)) args s 0 0 (zA Y s.heap.size)) [(0, .ref (za Y t0)), (3, .int v3), (4, .int v4), (5, .int v5), (6, .int v6)] 82 [] := by
  intro t0 v3 v4 v5 v6 σ hw h0
  unfold wX12_finds_82 at hw
  refine z_aload_n hG dX12_finds_82 rfl 0 rfl ?_
  refine z_iconst (v := 2) hG dX12_finds_83 (by decide) ?_
  refine z_iload hG dX12_finds_84 4 rfl ?_
  refine z_calli hG (z_runS (As := [.int v6]) (st := [.int 2, .ref (za Y t0)]) hG k_X12_84 (MX12_indexOf l hw) ⟨(Nat.le_of_ble_eq_true rfl), (Nat.le_of_ble_eq_true rfl)⟩ rfl (Nat.le_of_ble_eq_true rfl) dX12_finds_86 ⟨Nat.zero_le _, Nat.zero_le _⟩ rfl) (fun r2 σ1 hw => ?_)
  refine z_iadd hG dX12_finds_89 ?_
  refine z_topi (fun x3 ex3 => ?_)
  have hw := hw x3 ex3
  refine z_callv hG (z_runV (As := [.int x3]) (st := []) hG k_X12_80 (MX12_goesBy l h0 hw) ⟨(Nat.le_of_ble_eq_true rfl), (Nat.le_of_ble_eq_true rfl)⟩ h0 (T := TX12) (N := 23) rfl (by decide) rfl (Nat.le_of_ble_eq_true rfl) dX12_finds_90 ⟨Nat.zero_le _, Nat.zero_le _⟩ rfl) (fun σ4 hw => ?_)
  obtain ⟨x5, ex5⟩ : ∃ y : Int32, y = v5 + 1 := ⟨_, rfl⟩
  have hw := hw x5 ex5
  refine z_iinc (v := x5) (lv' := [(5, .int x5), (0, .ref (za Y t0)), (3, .int v3), (4, .int v4), (6, .int v6)]) hG dX12_finds_93 3 rfl (by rw [ex5]; rfl) (by decide) rfl ?_
  refine z_goto (tgt := 18) hG dX12_finds_96 (by decide) ?_
  refine zpick [1, 2, 3, 0] (lv' := [(0, .ref (za Y t0)), (3, .int v3), (4, .int v4), (5, .int x5)]) rfl ?_
  exact hkb18 t0 v3 v4 x5 σ4 hw h0
set_option maxRecDepth 100000 in
set_option maxHeartbeats 4000000 in
theorem BX12_finds_66 {l : Launch} {E : zE} {Y : zY} {p : Program} {e : Env} {s : State} {m : MethodId} {args : Array Value} {below : List Frame} {meth : Method} {c : Code} (hG : zG E p l s m args meth c cX12_finds 8 RX12 none (zA Y s.heap.size)) {Q : zS → Prop} {kb18 : Nat → Int32 → Int32 → Int32 → zS → Prop} (hkb18 : ∀ (t0 : Nat) (v3 : Int32) (v4 : Int32) (v5 : Int32) (σ : zS), kb18 t0 v3 v4 v5 σ → zT Y 12 t0 → WW E Y σ p l e rX12_finds s m args below meth c (zA Y s.heap.size) 8 0 0 (MQ below (va_Qv Q (zB E Y s.heap.size) (zA Y s.heap.size)) args s 0 0 (zA Y s.heap.size)) [(0, .ref (za Y t0)), (3, .int v3), (4, .int v4), (5, .int v5)] 18 []) : ∀ (t0 : Nat) (v3 : Int32) (v4 : Int32) (v5 : Int32) (v6 : Int32) (vw0 : Int32) (σ : zS), wX12_finds_66 (zln Y) Q kb18 t0 v3 v4 v5 v6 vw0 σ → zT Y 12 t0 → WW E Y σ p l e rX12_finds s m args below meth c (zA Y s.heap.size) 8 0 0 (MQ below (va_Qv Q (zB E Y s.heap.size) (zA Y s.heap.size)) args s 0 0 (zA Y s.heap.size)) [(0, .ref (za Y t0)), (3, .int v3), (4, .int v4), (5, .int v5), (6, .int v6)] 66 [.int vw0] := by
  intro t0 v3 v4 v5 v6 vw0 σ hw h0
  unfold wX12_finds_66 at hw
  refine z_istore (lv' := [(7, .int vw0), (0, .ref (za Y t0)), (3, .int v3), (4, .int v4), (5, .int v5), (6, .int v6)]) hG dX12_finds_66 (by decide) rfl ?_
  refine z_iload hG dX12_finds_68 0 rfl ?_
  refine z_iload_n hG dX12_finds_70 rfl 2 rfl ?_
  refine z_icmp_eq (tgt := 82) hG dX12_finds_71 (by decide) (fun c2 => ?_) (fun c2 => ?_)
  · have hw := hw.1 c2
    refine zpick [1, 2, 3, 4, 5] (lv' := [(0, .ref (za Y t0)), (3, .int v3), (4, .int v4), (5, .int v5), (6, .int v6)]) rfl ?_
    exact BX12_finds_82 hG hkb18 t0 v3 v4 v5 v6 σ hw h0
  · have hw := hw.2 c2
    refine z_iload hG dX12_finds_74 0 rfl ?_
    refine z_istore_n (lv' := [(3, .int vw0), (7, .int vw0), (0, .ref (za Y t0)), (4, .int v4), (5, .int v5), (6, .int v6)]) hG dX12_finds_76 rfl (by decide) rfl ?_
    refine z_aload_n hG dX12_finds_77 rfl 2 rfl ?_
    refine z_iload_n hG dX12_finds_78 rfl 0 rfl ?_
    refine z_callv hG (z_runV (As := [.int vw0]) (st := []) hG k_X12_80 (MX12_goesBy l h0 hw) ⟨(Nat.le_of_ble_eq_true rfl), (Nat.le_of_ble_eq_true rfl)⟩ h0 (T := TX12) (N := 23) rfl (by decide) rfl (Nat.le_of_ble_eq_true rfl) dX12_finds_79 ⟨Nat.zero_le _, Nat.zero_le _⟩ rfl) (fun σ1 hw => ?_)
    refine zpick [2, 0, 3, 4, 5] (lv' := [(0, .ref (za Y t0)), (3, .int vw0), (4, .int v4), (5, .int v5), (6, .int v6)]) rfl ?_
    exact BX12_finds_82 hG hkb18 t0 vw0 v4 v5 v6 σ1 hw h0
set_option maxRecDepth 100000 in
set_option maxHeartbeats 4000000 in
theorem BX12_finds_18 {l : Launch} {E : zE} {Y : zY} {p : Program} {e : Env} {s : State} {m : MethodId} {args : Array Value} {below : List Frame} {meth : Method} {c : Code} (hG : zG E p l s m args meth c cX12_finds 8 RX12 none (zA Y s.heap.size)) {Q : zS → Prop} : ∀ (n : Nat) (t0 : Nat) (v3 : Int32) (v4 : Int32) (v5 : Int32) (σ : zS), wX12_finds_18 (zln Y) Q n t0 v3 v4 v5 σ → zT Y 12 t0 → WW E Y σ p l e rX12_finds s m args below meth c (zA Y s.heap.size) 8 0 0 (MQ below (va_Qv Q (zB E Y s.heap.size) (zA Y s.heap.size)) args s 0 0 (zA Y s.heap.size)) [(0, .ref (za Y t0)), (3, .int v3), (4, .int v4), (5, .int v5)] 18 [] := by
  intro n
  induction n with
  | zero => intro t0 v3 v4 v5 σ hw
            exact hw.elim
  | succ n ih =>
    intro t0 v3 v4 v5 σ hw h0
    rw [wX12_finds_18] at hw
    refine z_iload hG dX12_finds_18 3 rfl ?_
    refine z_aload_n hG dX12_finds_20 rfl 0 rfl ?_
    obtain ⟨j1, ej1, hw⟩ := hw
    refine z_getr (kq := 20) hG f_X12_7 h0 rfl ej1 rfl (by decide) dX12_finds_21 (fun hj1 => ?_)
    refine z_sipush (v := 219) hG dX12_finds_24 (by decide) ?_
    refine z_iload hG dX12_finds_27 2 rfl ?_
    refine z_iadd hG dX12_finds_29 ?_
    refine z_topi (fun x2 ex2 => ?_)
    have hw := hw x2 ex2
    obtain ⟨q3, hw⟩ := hw
    refine z_iald hG hj1 q3 dX12_finds_30 ?_
    refine z_icmp_ge (tgt := 99) hG dX12_finds_31 (by decide) (fun c19 => ?_) (fun c19 => ?_)
    · have hw := hw.1 c19
      refine z_aload_n hG dX12_finds_99 rfl 0 rfl ?_
      refine z_geti hG f_X12_66 h0 rfl dX12_finds_100 ?_
      refine z_topi (fun x4 ex4 => ?_)
      have hw := hw x4 ex4
      refine z_istore (lv' := [(5, .int x4), (0, .ref (za Y t0)), (3, .int v3), (4, .int v4)]) hG dX12_finds_103 (by decide) rfl ?_
      refine z_aload_n hG dX12_finds_105 rfl 1 rfl ?_
      refine z_iload_n hG dX12_finds_106 rfl 2 rfl ?_
      refine z_callv hG (z_runV (As := [.int v3]) (st := []) hG k_X12_80 (MX12_goesBy l h0 hw) ⟨(Nat.le_of_ble_eq_true rfl), (Nat.le_of_ble_eq_true rfl)⟩ h0 (T := TX12) (N := 23) rfl (by decide) rfl (Nat.le_of_ble_eq_true rfl) dX12_finds_107 ⟨Nat.zero_le _, Nat.zero_le _⟩ rfl) (fun σ5 hw => ?_)
      refine z_aload_n hG dX12_finds_110 rfl 1 rfl ?_
      refine z_iconst (v := 2) hG dX12_finds_111 (by decide) ?_
      refine z_iload hG dX12_finds_112 0 rfl ?_
      refine z_aload_n hG dX12_finds_114 rfl 1 rfl ?_
      obtain ⟨j6, ej6, hw⟩ := hw
      refine z_getr (kq := 20) hG f_X12_7 h0 rfl ej6 rfl (by decide) dX12_finds_115 (fun hj6 => ?_)
      refine z_iconst (v := 0) hG dX12_finds_118 (by decide) ?_
      obtain ⟨q7, hw⟩ := hw
      refine z_iald hG hj6 q7 dX12_finds_119 ?_
      refine z_iconst (v := 2) hG dX12_finds_120 (by decide) ?_
      refine z_isub hG dX12_finds_121 ?_
      refine z_topi (fun x8 ex8 => ?_)
      have hw := hw x8 ex8
      obtain ⟨q9, hw⟩ := hw
      refine z_irem hG dX12_finds_122 q9 ?_
      refine z_iadd hG dX12_finds_123 ?_
      refine z_topi (fun x10 ex10 => ?_)
      have hw := hw x10 ex10
      refine z_callv hG (z_runV (As := [.int x10]) (st := []) hG k_X12_80 (MX12_goesBy l h0 hw) ⟨(Nat.le_of_ble_eq_true rfl), (Nat.le_of_ble_eq_true rfl)⟩ h0 (T := TX12) (N := 23) rfl (by decide) rfl (Nat.le_of_ble_eq_true rfl) dX12_finds_124 ⟨Nat.zero_le _, Nat.zero_le _⟩ rfl) (fun σ11 hw => ?_)
      exact z_vret hG rfl dX12_finds_127 hw
    · have hw := hw.2 c19
      refine z_aload_n hG dX12_finds_34 rfl 0 rfl ?_
      obtain ⟨j12, ej12, hw⟩ := hw
      refine z_getr (kq := 20) hG f_X12_7 h0 rfl ej12 rfl (by decide) dX12_finds_35 (fun hj12 => ?_)
      refine z_sipush (v := 243) hG dX12_finds_38 (by decide) ?_
      refine z_bipush (v := 30) hG dX12_finds_41 (by decide) ?_
      refine z_iload hG dX12_finds_43 2 rfl ?_
      refine z_imul hG dX12_finds_45 ?_
      refine z_iadd hG dX12_finds_46 ?_
      refine z_iload hG dX12_finds_47 3 rfl ?_
      refine z_iadd hG dX12_finds_49 ?_
      refine z_topi (fun x13 ex13 => ?_)
      have hw := hw x13 ex13
      obtain ⟨q14, hw⟩ := hw
      refine z_iald hG hj12 q14 dX12_finds_50 ?_
      refine z_topi (fun x15 ex15 => ?_)
      have hw := hw x15 ex15
      refine z_istore (lv' := [(6, .int x15), (0, .ref (za Y t0)), (3, .int v3), (4, .int v4), (5, .int v5)]) hG dX12_finds_51 (by decide) rfl ?_
      refine z_iload hG dX12_finds_53 0 rfl ?_
      refine z_calli hG (z_runS (As := [.int x15]) (st := []) hG k_X12_73 (MX12_isDigit l hw) ⟨(Nat.le_of_ble_eq_true rfl), (Nat.le_of_ble_eq_true rfl)⟩ rfl (Nat.le_of_ble_eq_true rfl) dX12_finds_55 ⟨Nat.zero_le _, Nat.zero_le _⟩ rfl) (fun r17 σ16 hw => ?_)
      refine z_if_eq (tgt := 65) hG dX12_finds_58 (by decide) (fun c18 => ?_) (fun c18 => ?_)
      · have hw := hw.1 c18
        refine z_iconst (v := 0) hG dX12_finds_65 (by decide) ?_
        refine zpick [1, 2, 3, 4, 0] (lv' := [(0, .ref (za Y t0)), (3, .int v3), (4, .int v4), (5, .int v5), (6, .int x15)]) rfl ?_
        exact BX12_finds_66 hG ih t0 v3 v4 v5 x15 0 σ16 hw h0
      · have hw := hw.2 c18
        refine z_iconst (v := 1) hG dX12_finds_61 (by decide) ?_
        refine z_goto (tgt := 66) hG dX12_finds_62 (by decide) ?_
        refine zpick [1, 2, 3, 4, 0] (lv' := [(0, .ref (za Y t0)), (3, .int v3), (4, .int v4), (5, .int v5), (6, .int x15)]) rfl ?_
        exact BX12_finds_66 hG ih t0 v3 v4 v5 x15 1 σ16 hw h0
set_option maxRecDepth 100000 in
set_option maxHeartbeats 4000000 in
theorem MX12_finds (l : Launch) {E : zE} {Y : zY} {σ : zS} {t0 : Nat} {v1 : Int32} {v2 : Int32} (h0 : zT Y 12 t0) {Q : zS → Prop} (hw : wX12_finds (zln Y) σ t0 v1 v2 Q) : ∀ sz, Met l yX12_finds (zw yX12_finds cX12_finds 8 none) rX12_finds (zPc E Y σ sz [.ref (za Y t0), .int v1, .int v2]) (va_Qv Q (zB E Y sz) (zA Y sz)) 0 0 (zA Y sz) := by
  refine z_met (own := RX12) (Qc := fun sz => va_Qv Q (zB E Y sz) (zA Y sz)) (by decide +kernel) rfl (Nat.le_of_ble_eq_true rfl) ?_
  intro p e s m args below meth c hG hinit
  unfold wX12_finds at hw
  refine zlv (lv' := [(0, .ref (za Y t0)), (1, .int v1), (2, .int v2)]) rfl ?_
  refine z_aload_n hG dX12_finds_0 rfl 0 rfl ?_
  refine z_iconst (v := 0) hG dX12_finds_1 (by decide) ?_
  refine z_puti hG f_X12_66 h0 rfl rfl (zN_int _) dX12_finds_2 ?_
  refine z_topσ (fun σ1 eσ1 => ?_)
  have hw := hw σ1 eσ1
  refine z_iconst (v := 0) hG dX12_finds_5 (by decide) ?_
  refine z_istore_n (lv' := [(3, .int 0), (0, .ref (za Y t0)), (1, .int v1), (2, .int v2)]) hG dX12_finds_6 rfl (by decide) rfl ?_
  refine z_aload_n hG dX12_finds_7 rfl 1 rfl ?_
  refine z_iload_n hG dX12_finds_8 rfl 2 rfl ?_
  refine z_iload_n hG dX12_finds_9 rfl 3 rfl ?_
  refine z_calli hG (z_runV (As := [.int v1, .int v2]) (st := []) hG k_X12_76 (MX12_lineAt l h0 hw) ⟨(Nat.le_of_ble_eq_true rfl), (Nat.le_of_ble_eq_true rfl)⟩ h0 (T := TX12) (N := 23) rfl (by decide) rfl (Nat.le_of_ble_eq_true rfl) dX12_finds_10 ⟨Nat.zero_le _, Nat.zero_le _⟩ rfl) (fun r3 σ2 hw => ?_)
  refine z_istore (lv' := [(4, .int r3), (3, .int 0), (0, .ref (za Y t0)), (1, .int v1), (2, .int v2)]) hG dX12_finds_13 (by decide) rfl ?_
  refine z_iconst (v := 0) hG dX12_finds_15 (by decide) ?_
  refine z_istore (lv' := [(5, .int 0), (4, .int r3), (3, .int 0), (0, .ref (za Y t0)), (1, .int v1), (2, .int v2)]) hG dX12_finds_16 (by decide) rfl ?_
  obtain ⟨n4, hw⟩ := hw
  refine zpick [3, 2, 1, 0] (lv' := [(0, .ref (za Y t0)), (3, .int 0), (4, .int r3), (5, .int 0)]) rfl ?_
  exact BX12_finds_18 hG n4 t0 0 r3 0 σ2 hw h0
-- TypeWheelTelegraphModel.findsOwn()V
def wX12_findsOwn (ln : Nat → Nat) (σ : zS) (t0 : Nat) (Q : zS → Prop) : Prop := ∃ j1 : Nat, gr σ t0 1 = some j1 ∧ vp_in (6 : Int32) (ln j1) ∧ ∃ j3 : Nat, gr σ t0 1 = some j3 ∧ ∃ j4 : Nat, gr σ t0 1 = some j4 ∧ vp_in (6 : Int32) (ln j4) ∧ ∀ x6 : Int32, x6 = 27 + (gi σ j4 (6 : Int32).toNatClampNeg) → vp_in x6 (ln j3) ∧ ∀ x8 : Int32, x8 = gi σ j3 x6.toNatClampNeg → ∀ x9 : Int32, x9 = gi σ j1 (6 : Int32).toNatClampNeg → wX12_finds ln σ t0 x9 x8 (fun σ10 => Q σ10)
abbrev rX12_findsOwn : Room := { frames := 4, cells := 0, slots := 0, locals := 92 }
set_option maxRecDepth 100000 in
set_option maxHeartbeats 4000000 in
theorem MX12_findsOwn (l : Launch) {E : zE} {Y : zY} {σ : zS} {t0 : Nat} (h0 : zT Y 12 t0) {Q : zS → Prop} (hw : wX12_findsOwn (zln Y) σ t0 Q) : ∀ sz, Met l yX12_findsOwn (zw yX12_findsOwn cX12_findsOwn 1 none) rX12_findsOwn (zPc E Y σ sz [.ref (za Y t0)]) (va_Qv Q (zB E Y sz) (zA Y sz)) 0 0 (zA Y sz) := by
  refine z_met (own := RX12) (Qc := fun sz => va_Qv Q (zB E Y sz) (zA Y sz)) (by decide +kernel) rfl (Nat.le_of_ble_eq_true rfl) ?_
  intro p e s m args below meth c hG hinit
  unfold wX12_findsOwn at hw
  refine zlv (lv' := [(0, .ref (za Y t0))]) rfl ?_
  refine z_aload_n hG dX12_findsOwn_0 rfl 0 rfl ?_
  refine z_aload_n hG dX12_findsOwn_1 rfl 0 rfl ?_
  obtain ⟨j1, ej1, hw⟩ := hw
  refine z_getr (kq := 20) hG f_X12_7 h0 rfl ej1 rfl (by decide) dX12_findsOwn_2 (fun hj1 => ?_)
  refine z_bipush (v := 6) hG dX12_findsOwn_5 (by decide) ?_
  obtain ⟨q2, hw⟩ := hw
  refine z_iald hG hj1 q2 dX12_findsOwn_7 ?_
  refine z_aload_n hG dX12_findsOwn_8 rfl 0 rfl ?_
  obtain ⟨j3, ej3, hw⟩ := hw
  refine z_getr (kq := 20) hG f_X12_7 h0 rfl ej3 rfl (by decide) dX12_findsOwn_9 (fun hj3 => ?_)
  refine z_bipush (v := 27) hG dX12_findsOwn_12 (by decide) ?_
  refine z_aload_n hG dX12_findsOwn_14 rfl 0 rfl ?_
  obtain ⟨j4, ej4, hw⟩ := hw
  refine z_getr (kq := 20) hG f_X12_7 h0 rfl ej4 rfl (by decide) dX12_findsOwn_15 (fun hj4 => ?_)
  refine z_bipush (v := 6) hG dX12_findsOwn_18 (by decide) ?_
  obtain ⟨q5, hw⟩ := hw
  refine z_iald hG hj4 q5 dX12_findsOwn_20 ?_
  refine z_iadd hG dX12_findsOwn_21 ?_
  refine z_topi (fun x6 ex6 => ?_)
  have hw := hw x6 ex6
  obtain ⟨q7, hw⟩ := hw
  refine z_iald hG hj3 q7 dX12_findsOwn_22 ?_
  refine z_topi (fun x8 ex8 => ?_)
  have hw := hw x8 ex8
  obtain ⟨x9, ex9⟩ : ∃ y : Int32, y = gi σ j1 (6 : Int32).toNatClampNeg := ⟨_, rfl⟩
  refine zst (st' := [.int x8, .int x9, .ref (za Y t0)]) (by rw [ex9]) ?_
  have hw := hw x9 ex9
  refine z_callv hG (z_runV (As := [.int x9, .int x8]) (st := []) hG k_X12_88 (MX12_finds l h0 hw) ⟨(Nat.le_of_ble_eq_true rfl), (Nat.le_of_ble_eq_true rfl)⟩ h0 (T := TX12) (N := 23) rfl (by decide) rfl (Nat.le_of_ble_eq_true rfl) dX12_findsOwn_23 ⟨Nat.zero_le _, Nat.zero_le _⟩ rfl) (fun σ10 hw => ?_)
  exact z_vret hG rfl dX12_findsOwn_26 hw
-- TypeWheelTelegraphModel.passes(III)I
def wX12_passes_26 (ln : Nat → Nat) (Q : Int32 → zS → Prop) (v2 : Int32) (v4 : Int32) (σ : zS) : Prop := ¬ v2 = 0 ∧ Q (((v4 + v2) - 1) / v2) σ
def wX12_passes (ln : Nat → Nat) (σ : zS) (t0 : Nat) (v1 : Int32) (v2 : Int32) (v3 : Int32) (Q : Int32 → zS → Prop) : Prop := ∀ x1 : Int64, x1 = (1000 * v3.toInt64) - v1.toInt64 → wX12_within ln σ t0 x1 (fun r3 σ2 => ((r3 = 0 → wX12_round ln σ2 t0 (fun r5 σ4 => wX12_passes_26 ln Q v2 r5 σ4)) ∧ (¬ r3 = 0 → wX12_passes_26 ln Q v2 r3 σ2)))
abbrev rX12_passes : Room := { frames := 2, cells := 0, slots := 0, locals := 43 }
set_option maxRecDepth 100000 in
set_option maxHeartbeats 4000000 in
theorem BX12_passes_26 {l : Launch} {E : zE} {Y : zY} {p : Program} {e : Env} {s : State} {m : MethodId} {args : Array Value} {below : List Frame} {meth : Method} {c : Code} (hG : zG E p l s m args meth c cX12_passes 5 RX12 (some .int) (zA Y s.heap.size)) {Q : Int32 → zS → Prop} : ∀ (v2 : Int32) (v4 : Int32) (σ : zS), wX12_passes_26 (zln Y) Q v2 v4 σ → WW E Y σ p l e rX12_passes s m args below meth c (zA Y s.heap.size) 5 0 0 (MQ below (va_Qi Q (zB E Y s.heap.size) (zA Y s.heap.size)) args s 0 0 (zA Y s.heap.size)) [(2, .int v2), (4, .int v4)] 26 [] := by
  intro v2 v4 σ hw 
  unfold wX12_passes_26 at hw
  refine z_iload hG dX12_passes_26 1 rfl ?_
  refine z_iload_n hG dX12_passes_28 rfl 0 rfl ?_
  refine z_iadd hG dX12_passes_29 ?_
  refine z_iconst (v := 1) hG dX12_passes_30 (by decide) ?_
  refine z_isub hG dX12_passes_31 ?_
  refine z_iload_n hG dX12_passes_32 rfl 0 rfl ?_
  obtain ⟨q1, hw⟩ := hw
  refine z_idiv hG dX12_passes_33 q1 ?_
  exact z_iret hG rfl rfl dX12_passes_34 hw
set_option maxRecDepth 100000 in
set_option maxHeartbeats 4000000 in
theorem MX12_passes (l : Launch) {E : zE} {Y : zY} {σ : zS} {t0 : Nat} {v1 : Int32} {v2 : Int32} {v3 : Int32} (h0 : zT Y 12 t0) {Q : Int32 → zS → Prop} (hw : wX12_passes (zln Y) σ t0 v1 v2 v3 Q) : ∀ sz, Met l yX12_passes (zw yX12_passes cX12_passes 5 (some .int)) rX12_passes (zPc E Y σ sz [.ref (za Y t0), .int v1, .int v2, .int v3]) (va_Qi Q (zB E Y sz) (zA Y sz)) 0 0 (zA Y sz) := by
  refine z_met (own := RX12) (Qc := fun sz => va_Qi Q (zB E Y sz) (zA Y sz)) (by decide +kernel) rfl (Nat.le_of_ble_eq_true rfl) ?_
  intro p e s m args below meth c hG hinit
  unfold wX12_passes at hw
  refine zlv (lv' := [(0, .ref (za Y t0)), (1, .int v1), (2, .int v2), (3, .int v3)]) rfl ?_
  refine z_aload_n hG dX12_passes_0 rfl 0 rfl ?_
  refine z_ldc2 (hc := c_X12_92) hG (hd := dX12_passes_1) ?_
  refine z_iload_n hG dX12_passes_4 rfl 3 rfl ?_
  refine z_i2l hG dX12_passes_5 ?_
  refine z_lmul hG dX12_passes_6 ?_
  refine z_iload_n hG dX12_passes_7 rfl 1 rfl ?_
  refine z_i2l hG dX12_passes_8 ?_
  refine z_lsub hG dX12_passes_9 ?_
  refine z_topl (fun x1 ex1 => ?_)
  have hw := hw x1 ex1
  refine z_calli hG (z_runV (As := [.long x1]) (st := []) hG k_X12_94 (MX12_within l h0 hw) ⟨(Nat.le_of_ble_eq_true rfl), (Nat.le_of_ble_eq_true rfl)⟩ h0 (T := TX12) (N := 23) rfl (by decide) rfl (Nat.le_of_ble_eq_true rfl) dX12_passes_10 ⟨Nat.zero_le _, Nat.zero_le _⟩ rfl) (fun r3 σ2 hw => ?_)
  refine z_istore (lv' := [(4, .int r3), (0, .ref (za Y t0)), (1, .int v1), (2, .int v2), (3, .int v3)]) hG dX12_passes_13 (by decide) rfl ?_
  refine z_iload hG dX12_passes_15 0 rfl ?_
  refine z_if_ne (tgt := 26) hG dX12_passes_17 (by decide) (fun c6 => ?_) (fun c6 => ?_)
  · have hw := hw.2 c6
    refine zpick [3, 0] (lv' := [(2, .int v2), (4, .int r3)]) rfl ?_
    exact BX12_passes_26 hG v2 r3 σ2 hw 
  · have hw := hw.1 c6
    refine z_aload_n hG dX12_passes_20 rfl 1 rfl ?_
    refine z_calli hG (z_runV (As := []) (st := []) hG k_X12_62 (MX12_round l h0 hw) ⟨(Nat.le_of_ble_eq_true rfl), (Nat.le_of_ble_eq_true rfl)⟩ h0 (T := TX12) (N := 23) rfl (by decide) rfl (Nat.le_of_ble_eq_true rfl) dX12_passes_21 ⟨Nat.zero_le _, Nat.zero_le _⟩ rfl) (fun r5 σ4 hw => ?_)
    refine z_istore (lv' := [(4, .int r5), (0, .ref (za Y t0)), (1, .int v1), (2, .int v2), (3, .int v3)]) hG dX12_passes_24 (by decide) rfl ?_
    refine zpick [3, 0] (lv' := [(2, .int v2), (4, .int r5)]) rfl ?_
    exact BX12_passes_26 hG v2 r5 σ4 hw 
-- TypeWheelTelegraphModel.ticksOf(II)I
def wX12_ticksOf_33 (ln : Nat → Nat) (Q : Int32 → zS → Prop) : Nat → Nat → Int32 → Int32 → Int32 → Int32 → zS → Prop
  | 0, _, _, _, _, _, _ => False
  | n + 1, t0, v3, v4, v5, v6, σ => (((gi σ t0 7) ≤ v6 → Q v5 σ) ∧ (¬ (gi σ t0 7) ≤ v6 → ∃ j1 : Nat, gr σ t0 6 = some j1 ∧ vp_in v6 (ln j1) ∧ ∀ x3 : Int32, x3 = gi σ j1 v6.toNatClampNeg → wX12_passes ln σ t0 v3 v4 x3 (fun r5 σ4 => ∀ x6 : Int32, x6 = v5 + r5 → ∀ x7 : Int64, x7 = v3.toInt64 + (r5.toInt64 * v4.toInt64) → wX12_within ln σ4 t0 x7 (fun r9 σ8 => ∀ x10 : Int32, x10 = v6 + 1 → (wX12_ticksOf_33 ln Q n) t0 r9 v4 x6 x10 σ8))))
def wX12_ticksOf (ln : Nat → Nat) (σ : zS) (t0 : Nat) (v1 : Int32) (v2 : Int32) (Q : Int32 → zS → Prop) : Prop := wX12_finds ln σ t0 v1 v2 (fun σ1 => ∃ j2 : Nat, gr σ1 t0 1 = some j2 ∧ ∀ x3 : Int32, x3 = 21 + v1 → vp_in x3 (ln j2) ∧ ∀ x5 : Int32, x5 = gi σ1 j2 x3.toNatClampNeg → ∃ j6 : Nat, gr σ1 t0 1 = some j6 ∧ ∀ x7 : Int32, x7 = 23 + v1 → vp_in x7 (ln j6) ∧ ∀ x9 : Int32, x9 = gi σ1 j6 x7.toNatClampNeg → ∃ n10 : Nat, wX12_ticksOf_33 ln Q n10 t0 x5 x9 0 0 σ1)
abbrev rX12_ticksOf : Room := { frames := 4, cells := 0, slots := 0, locals := 92 }
set_option maxRecDepth 100000 in
set_option maxHeartbeats 4000000 in
theorem BX12_ticksOf_33 {l : Launch} {E : zE} {Y : zY} {p : Program} {e : Env} {s : State} {m : MethodId} {args : Array Value} {below : List Frame} {meth : Method} {c : Code} (hG : zG E p l s m args meth c cX12_ticksOf 8 RX12 (some .int) (zA Y s.heap.size)) {Q : Int32 → zS → Prop} : ∀ (n : Nat) (t0 : Nat) (v3 : Int32) (v4 : Int32) (v5 : Int32) (v6 : Int32) (σ : zS), wX12_ticksOf_33 (zln Y) Q n t0 v3 v4 v5 v6 σ → zT Y 12 t0 → WW E Y σ p l e rX12_ticksOf s m args below meth c (zA Y s.heap.size) 8 0 0 (MQ below (va_Qi Q (zB E Y s.heap.size) (zA Y s.heap.size)) args s 0 0 (zA Y s.heap.size)) [(0, .ref (za Y t0)), (3, .int v3), (4, .int v4), (5, .int v5), (6, .int v6)] 33 [] := by
  intro n
  induction n with
  | zero => intro t0 v3 v4 v5 v6 σ hw
            exact hw.elim
  | succ n ih =>
    intro t0 v3 v4 v5 v6 σ hw h0
    rw [wX12_ticksOf_33] at hw
    refine z_iload hG dX12_ticksOf_33 4 rfl ?_
    refine z_aload_n hG dX12_ticksOf_35 rfl 0 rfl ?_
    refine z_geti hG f_X12_66 h0 rfl dX12_ticksOf_36 ?_
    refine z_icmp_ge (tgt := 86) hG dX12_ticksOf_39 (by decide) (fun c11 => ?_) (fun c11 => ?_)
    · have hw := hw.1 c11
      refine z_iload hG dX12_ticksOf_86 3 rfl ?_
      exact z_iret hG rfl rfl dX12_ticksOf_88 hw
    · have hw := hw.2 c11
      refine z_aload_n hG dX12_ticksOf_42 rfl 0 rfl ?_
      refine z_iload_n hG dX12_ticksOf_43 rfl 1 rfl ?_
      refine z_iload hG dX12_ticksOf_44 2 rfl ?_
      refine z_aload_n hG dX12_ticksOf_46 rfl 0 rfl ?_
      obtain ⟨j1, ej1, hw⟩ := hw
      refine z_getr (kq := 20) hG f_X12_23 h0 rfl ej1 rfl (by decide) dX12_ticksOf_47 (fun hj1 => ?_)
      refine z_iload hG dX12_ticksOf_50 4 rfl ?_
      obtain ⟨q2, hw⟩ := hw
      refine z_iald hG hj1 q2 dX12_ticksOf_52 ?_
      refine z_topi (fun x3 ex3 => ?_)
      have hw := hw x3 ex3
      refine z_calli hG (z_runV (As := [.int v3, .int v4, .int x3]) (st := []) hG k_X12_98 (MX12_passes l h0 hw) ⟨(Nat.le_of_ble_eq_true rfl), (Nat.le_of_ble_eq_true rfl)⟩ h0 (T := TX12) (N := 23) rfl (by decide) rfl (Nat.le_of_ble_eq_true rfl) dX12_ticksOf_53 ⟨Nat.zero_le _, Nat.zero_le _⟩ rfl) (fun r5 σ4 hw => ?_)
      refine z_istore (lv' := [(7, .int r5), (0, .ref (za Y t0)), (3, .int v3), (4, .int v4), (5, .int v5), (6, .int v6)]) hG dX12_ticksOf_56 (by decide) rfl ?_
      refine z_iload hG dX12_ticksOf_58 4 rfl ?_
      refine z_iload hG dX12_ticksOf_60 0 rfl ?_
      refine z_iadd hG dX12_ticksOf_62 ?_
      refine z_topi (fun x6 ex6 => ?_)
      have hw := hw x6 ex6
      refine z_istore (lv' := [(5, .int x6), (7, .int r5), (0, .ref (za Y t0)), (3, .int v3), (4, .int v4), (6, .int v6)]) hG dX12_ticksOf_63 (by decide) rfl ?_
      refine z_aload_n hG dX12_ticksOf_65 rfl 2 rfl ?_
      refine z_iload_n hG dX12_ticksOf_66 rfl 3 rfl ?_
      refine z_i2l hG dX12_ticksOf_67 ?_
      refine z_iload hG dX12_ticksOf_68 1 rfl ?_
      refine z_i2l hG dX12_ticksOf_70 ?_
      refine z_iload hG dX12_ticksOf_71 4 rfl ?_
      refine z_i2l hG dX12_ticksOf_73 ?_
      refine z_lmul hG dX12_ticksOf_74 ?_
      refine z_ladd hG dX12_ticksOf_75 ?_
      refine z_topl (fun x7 ex7 => ?_)
      have hw := hw x7 ex7
      refine z_calli hG (z_runV (As := [.long x7]) (st := []) hG k_X12_94 (MX12_within l h0 hw) ⟨(Nat.le_of_ble_eq_true rfl), (Nat.le_of_ble_eq_true rfl)⟩ h0 (T := TX12) (N := 23) rfl (by decide) rfl (Nat.le_of_ble_eq_true rfl) dX12_ticksOf_76 ⟨Nat.zero_le _, Nat.zero_le _⟩ rfl) (fun r9 σ8 hw => ?_)
      refine z_istore_n (lv' := [(3, .int r9), (5, .int x6), (7, .int r5), (0, .ref (za Y t0)), (4, .int v4), (6, .int v6)]) hG dX12_ticksOf_79 rfl (by decide) rfl ?_
      obtain ⟨x10, ex10⟩ : ∃ y : Int32, y = v6 + 1 := ⟨_, rfl⟩
      have hw := hw x10 ex10
      refine z_iinc (v := x10) (lv' := [(6, .int x10), (3, .int r9), (5, .int x6), (7, .int r5), (0, .ref (za Y t0)), (4, .int v4)]) hG dX12_ticksOf_80 5 rfl (by rw [ex10]; rfl) (by decide) rfl ?_
      refine z_goto (tgt := 33) hG dX12_ticksOf_83 (by decide) ?_
      refine zpick [4, 1, 5, 2, 0] (lv' := [(0, .ref (za Y t0)), (3, .int r9), (4, .int v4), (5, .int x6), (6, .int x10)]) rfl ?_
      exact ih t0 r9 v4 x6 x10 σ8 hw h0
set_option maxRecDepth 100000 in
set_option maxHeartbeats 4000000 in
theorem MX12_ticksOf (l : Launch) {E : zE} {Y : zY} {σ : zS} {t0 : Nat} {v1 : Int32} {v2 : Int32} (h0 : zT Y 12 t0) {Q : Int32 → zS → Prop} (hw : wX12_ticksOf (zln Y) σ t0 v1 v2 Q) : ∀ sz, Met l yX12_ticksOf (zw yX12_ticksOf cX12_ticksOf 8 (some .int)) rX12_ticksOf (zPc E Y σ sz [.ref (za Y t0), .int v1, .int v2]) (va_Qi Q (zB E Y sz) (zA Y sz)) 0 0 (zA Y sz) := by
  refine z_met (own := RX12) (Qc := fun sz => va_Qi Q (zB E Y sz) (zA Y sz)) (by decide +kernel) rfl (Nat.le_of_ble_eq_true rfl) ?_
  intro p e s m args below meth c hG hinit
  unfold wX12_ticksOf at hw
  refine zlv (lv' := [(0, .ref (za Y t0)), (1, .int v1), (2, .int v2)]) rfl ?_
  refine z_aload_n hG dX12_ticksOf_0 rfl 0 rfl ?_
  refine z_iload_n hG dX12_ticksOf_1 rfl 1 rfl ?_
  refine z_iload_n hG dX12_ticksOf_2 rfl 2 rfl ?_
  refine z_callv hG (z_runV (As := [.int v1, .int v2]) (st := []) hG k_X12_88 (MX12_finds l h0 hw) ⟨(Nat.le_of_ble_eq_true rfl), (Nat.le_of_ble_eq_true rfl)⟩ h0 (T := TX12) (N := 23) rfl (by decide) rfl (Nat.le_of_ble_eq_true rfl) dX12_ticksOf_3 ⟨Nat.zero_le _, Nat.zero_le _⟩ rfl) (fun σ1 hw => ?_)
  refine z_aload_n hG dX12_ticksOf_6 rfl 0 rfl ?_
  obtain ⟨j2, ej2, hw⟩ := hw
  refine z_getr (kq := 20) hG f_X12_7 h0 rfl ej2 rfl (by decide) dX12_ticksOf_7 (fun hj2 => ?_)
  refine z_bipush (v := 21) hG dX12_ticksOf_10 (by decide) ?_
  refine z_iload_n hG dX12_ticksOf_12 rfl 1 rfl ?_
  refine z_iadd hG dX12_ticksOf_13 ?_
  refine z_topi (fun x3 ex3 => ?_)
  have hw := hw x3 ex3
  obtain ⟨q4, hw⟩ := hw
  refine z_iald hG hj2 q4 dX12_ticksOf_14 ?_
  refine z_topi (fun x5 ex5 => ?_)
  have hw := hw x5 ex5
  refine z_istore_n (lv' := [(3, .int x5), (0, .ref (za Y t0)), (1, .int v1), (2, .int v2)]) hG dX12_ticksOf_15 rfl (by decide) rfl ?_
  refine z_aload_n hG dX12_ticksOf_16 rfl 1 rfl ?_
  obtain ⟨j6, ej6, hw⟩ := hw
  refine z_getr (kq := 20) hG f_X12_7 h0 rfl ej6 rfl (by decide) dX12_ticksOf_17 (fun hj6 => ?_)
  refine z_bipush (v := 23) hG dX12_ticksOf_20 (by decide) ?_
  refine z_iload_n hG dX12_ticksOf_22 rfl 2 rfl ?_
  refine z_iadd hG dX12_ticksOf_23 ?_
  refine z_topi (fun x7 ex7 => ?_)
  have hw := hw x7 ex7
  obtain ⟨q8, hw⟩ := hw
  refine z_iald hG hj6 q8 dX12_ticksOf_24 ?_
  refine z_topi (fun x9 ex9 => ?_)
  have hw := hw x9 ex9
  refine z_istore (lv' := [(4, .int x9), (3, .int x5), (0, .ref (za Y t0)), (1, .int v1), (2, .int v2)]) hG dX12_ticksOf_25 (by decide) rfl ?_
  refine z_iconst (v := 0) hG dX12_ticksOf_27 (by decide) ?_
  refine z_istore (lv' := [(5, .int 0), (4, .int x9), (3, .int x5), (0, .ref (za Y t0)), (1, .int v1), (2, .int v2)]) hG dX12_ticksOf_28 (by decide) rfl ?_
  refine z_iconst (v := 0) hG dX12_ticksOf_30 (by decide) ?_
  refine z_istore (lv' := [(6, .int 0), (5, .int 0), (4, .int x9), (3, .int x5), (0, .ref (za Y t0)), (1, .int v1), (2, .int v2)]) hG dX12_ticksOf_31 (by decide) rfl ?_
  obtain ⟨n10, hw⟩ := hw
  refine zpick [4, 3, 2, 1, 0] (lv' := [(0, .ref (za Y t0)), (3, .int x5), (4, .int x9), (5, .int 0), (6, .int 0)]) rfl ?_
  exact BX12_ticksOf_33 hG n10 t0 x5 x9 0 0 σ1 hw h0
-- TypeWheelTelegraphModel.notes(II)V
def wX12_notes_57 (ln : Nat → Nat) (Q : zS → Prop) (t0 : Nat) (v1 : Int32) (v2 : Int32) (σ : zS) : Prop := ∃ j1 : Nat, gr σ t0 1 = some j1 ∧ vp_in (18 : Int32) (ln j1) ∧ ∀ x3 : Int32, x3 = 99 + (3 * (gi σ j1 (18 : Int32).toNatClampNeg)) → ∃ j4 : Nat, gr σ t0 1 = some j4 ∧ ∃ j5 : Nat, gr σ t0 1 = some j5 ∧ vp_in (5 : Int32) (ln j5) ∧ ∀ x7 : Int32, x7 = gi σ j5 (5 : Int32).toNatClampNeg → vp_in x3 (ln j4) ∧ ∀ σ9 : zS, σ9 = si σ j4 x3.toNatClampNeg x7 → ∃ j10 : Nat, gr σ9 t0 1 = some j10 ∧ ∀ x11 : Int32, x11 = x3 + 1 → vp_in x11 (ln j10) ∧ ∀ σ13 : zS, σ13 = si σ9 j10 x11.toNatClampNeg v1 → ∃ j14 : Nat, gr σ13 t0 1 = some j14 ∧ ∀ x15 : Int32, x15 = x3 + 2 → vp_in x15 (ln j14) ∧ ∀ σ17 : zS, σ17 = si σ13 j14 x15.toNatClampNeg v2 → ∃ j18 : Nat, gr σ17 t0 1 = some j18 ∧ vp_in (18 : Int32) (ln j18) ∧ ∀ x20 : Int32, x20 = (gi σ17 j18 (18 : Int32).toNatClampNeg) + 1 → vp_in (18 : Int32) (ln j18) ∧ ∀ σ22 : zS, σ22 = si σ17 j18 (18 : Int32).toNatClampNeg x20 → Q σ22
def wX12_notes_14 (ln : Nat → Nat) (Q : zS → Prop) : Nat → Nat → Int32 → Int32 → Int32 → zS → Prop
  | 0, _, _, _, _, _ => False
  | n + 1, t0, v1, v2, v3, σ => ((117 ≤ v3 → ∃ j1 : Nat, gr σ t0 1 = some j1 ∧ vp_in (18 : Int32) (ln j1) ∧ ∀ x3 : Int32, x3 = (gi σ j1 (18 : Int32).toNatClampNeg) - 1 → vp_in (18 : Int32) (ln j1) ∧ ∀ σ5 : zS, σ5 = si σ j1 (18 : Int32).toNatClampNeg x3 → wX12_notes_57 ln Q t0 v1 v2 σ5) ∧ (¬ 117 ≤ v3 → ∃ j6 : Nat, gr σ t0 1 = some j6 ∧ ∃ j7 : Nat, gr σ t0 1 = some j7 ∧ ∀ x8 : Int32, x8 = (99 + v3) + 3 → vp_in x8 (ln j7) ∧ ∀ x10 : Int32, x10 = gi σ j7 x8.toNatClampNeg → ∀ x11 : Int32, x11 = 99 + v3 → vp_in x11 (ln j6) ∧ ∀ σ13 : zS, σ13 = si σ j6 x11.toNatClampNeg x10 → ∀ x14 : Int32, x14 = v3 + 1 → (wX12_notes_14 ln Q n) t0 v1 v2 x14 σ13))
def wX12_notes (ln : Nat → Nat) (σ : zS) (t0 : Nat) (v1 : Int32) (v2 : Int32) (Q : zS → Prop) : Prop := ∃ j1 : Nat, gr σ t0 1 = some j1 ∧ vp_in (18 : Int32) (ln j1) ∧ (((gi σ j1 (18 : Int32).toNatClampNeg) = 40 → ∃ n3 : Nat, wX12_notes_14 ln Q n3 t0 v1 v2 0 σ) ∧ (¬ (gi σ j1 (18 : Int32).toNatClampNeg) = 40 → wX12_notes_57 ln Q t0 v1 v2 σ))
abbrev rX12_notes : Room := { frames := 0, cells := 0, slots := 0, locals := 0 }
set_option maxRecDepth 100000 in
set_option maxHeartbeats 4000000 in
theorem BX12_notes_57 {l : Launch} {E : zE} {Y : zY} {p : Program} {e : Env} {s : State} {m : MethodId} {args : Array Value} {below : List Frame} {meth : Method} {c : Code} (hG : zG E p l s m args meth c cX12_notes 4 RX12 none (zA Y s.heap.size)) {Q : zS → Prop} : ∀ (t0 : Nat) (v1 : Int32) (v2 : Int32) (σ : zS), wX12_notes_57 (zln Y) Q t0 v1 v2 σ → zT Y 12 t0 → WW E Y σ p l e rX12_notes s m args below meth c (zA Y s.heap.size) 4 0 0 (MQ below (va_Qv Q (zB E Y s.heap.size) (zA Y s.heap.size)) args s 0 0 (zA Y s.heap.size)) [(0, .ref (za Y t0)), (1, .int v1), (2, .int v2)] 57 [] := by
  intro t0 v1 v2 σ hw h0
  unfold wX12_notes_57 at hw
  refine z_bipush (v := 99) hG dX12_notes_57 (by decide) ?_
  refine z_iconst (v := 3) hG dX12_notes_59 (by decide) ?_
  refine z_aload_n hG dX12_notes_60 rfl 0 rfl ?_
  obtain ⟨j1, ej1, hw⟩ := hw
  refine z_getr (kq := 20) hG f_X12_7 h0 rfl ej1 rfl (by decide) dX12_notes_61 (fun hj1 => ?_)
  refine z_bipush (v := 18) hG dX12_notes_64 (by decide) ?_
  obtain ⟨q2, hw⟩ := hw
  refine z_iald hG hj1 q2 dX12_notes_66 ?_
  refine z_imul hG dX12_notes_67 ?_
  refine z_iadd hG dX12_notes_68 ?_
  refine z_topi (fun x3 ex3 => ?_)
  have hw := hw x3 ex3
  refine z_istore_n (lv' := [(3, .int x3), (0, .ref (za Y t0)), (1, .int v1), (2, .int v2)]) hG dX12_notes_69 rfl (by decide) rfl ?_
  refine z_aload_n hG dX12_notes_70 rfl 1 rfl ?_
  obtain ⟨j4, ej4, hw⟩ := hw
  refine z_getr (kq := 20) hG f_X12_7 h0 rfl ej4 rfl (by decide) dX12_notes_71 (fun hj4 => ?_)
  refine z_iload_n hG dX12_notes_74 rfl 0 rfl ?_
  refine z_aload_n hG dX12_notes_75 rfl 1 rfl ?_
  obtain ⟨j5, ej5, hw⟩ := hw
  refine z_getr (kq := 20) hG f_X12_7 h0 rfl ej5 rfl (by decide) dX12_notes_76 (fun hj5 => ?_)
  refine z_iconst (v := 5) hG dX12_notes_79 (by decide) ?_
  obtain ⟨q6, hw⟩ := hw
  refine z_iald hG hj5 q6 dX12_notes_80 ?_
  refine z_topi (fun x7 ex7 => ?_)
  have hw := hw x7 ex7
  obtain ⟨q8, hw⟩ := hw
  refine z_iast hG hj4 q8 dX12_notes_81 ?_
  refine z_topσ (fun σ9 eσ9 => ?_)
  have hw := hw σ9 eσ9
  refine z_aload_n hG dX12_notes_82 rfl 1 rfl ?_
  obtain ⟨j10, ej10, hw⟩ := hw
  refine z_getr (kq := 20) hG f_X12_7 h0 rfl ej10 rfl (by decide) dX12_notes_83 (fun hj10 => ?_)
  refine z_iload_n hG dX12_notes_86 rfl 0 rfl ?_
  refine z_iconst (v := 1) hG dX12_notes_87 (by decide) ?_
  refine z_iadd hG dX12_notes_88 ?_
  refine z_iload_n hG dX12_notes_89 rfl 2 rfl ?_
  obtain ⟨x11, ex11⟩ : ∃ y : Int32, y = x3 + 1 := ⟨_, rfl⟩
  refine zst (st' := [.int v1, .int x11, .ref (za Y j10)]) (by rw [ex11]) ?_
  have hw := hw x11 ex11
  obtain ⟨q12, hw⟩ := hw
  refine z_iast hG hj10 q12 dX12_notes_90 ?_
  refine z_topσ (fun σ13 eσ13 => ?_)
  have hw := hw σ13 eσ13
  refine z_aload_n hG dX12_notes_91 rfl 1 rfl ?_
  obtain ⟨j14, ej14, hw⟩ := hw
  refine z_getr (kq := 20) hG f_X12_7 h0 rfl ej14 rfl (by decide) dX12_notes_92 (fun hj14 => ?_)
  refine z_iload_n hG dX12_notes_95 rfl 0 rfl ?_
  refine z_iconst (v := 2) hG dX12_notes_96 (by decide) ?_
  refine z_iadd hG dX12_notes_97 ?_
  refine z_iload_n hG dX12_notes_98 rfl 3 rfl ?_
  obtain ⟨x15, ex15⟩ : ∃ y : Int32, y = x3 + 2 := ⟨_, rfl⟩
  refine zst (st' := [.int v2, .int x15, .ref (za Y j14)]) (by rw [ex15]) ?_
  have hw := hw x15 ex15
  obtain ⟨q16, hw⟩ := hw
  refine z_iast hG hj14 q16 dX12_notes_99 ?_
  refine z_topσ (fun σ17 eσ17 => ?_)
  have hw := hw σ17 eσ17
  refine z_aload_n hG dX12_notes_100 rfl 1 rfl ?_
  obtain ⟨j18, ej18, hw⟩ := hw
  refine z_getr (kq := 20) hG f_X12_7 h0 rfl ej18 rfl (by decide) dX12_notes_101 (fun hj18 => ?_)
  refine z_bipush (v := 18) hG dX12_notes_104 (by decide) ?_
  refine z_dup2 hG dX12_notes_106 rfl rfl ?_
  obtain ⟨q19, hw⟩ := hw
  refine z_iald hG hj18 q19 dX12_notes_107 ?_
  refine z_iconst (v := 1) hG dX12_notes_108 (by decide) ?_
  refine z_iadd hG dX12_notes_109 ?_
  refine z_topi (fun x20 ex20 => ?_)
  have hw := hw x20 ex20
  obtain ⟨q21, hw⟩ := hw
  refine z_iast hG hj18 q21 dX12_notes_110 ?_
  refine z_topσ (fun σ22 eσ22 => ?_)
  have hw := hw σ22 eσ22
  exact z_vret hG rfl dX12_notes_111 hw
set_option maxRecDepth 100000 in
set_option maxHeartbeats 4000000 in
theorem BX12_notes_14 {l : Launch} {E : zE} {Y : zY} {p : Program} {e : Env} {s : State} {m : MethodId} {args : Array Value} {below : List Frame} {meth : Method} {c : Code} (hG : zG E p l s m args meth c cX12_notes 4 RX12 none (zA Y s.heap.size)) {Q : zS → Prop} : ∀ (n : Nat) (t0 : Nat) (v1 : Int32) (v2 : Int32) (v3 : Int32) (σ : zS), wX12_notes_14 (zln Y) Q n t0 v1 v2 v3 σ → zT Y 12 t0 → WW E Y σ p l e rX12_notes s m args below meth c (zA Y s.heap.size) 4 0 0 (MQ below (va_Qv Q (zB E Y s.heap.size) (zA Y s.heap.size)) args s 0 0 (zA Y s.heap.size)) [(0, .ref (za Y t0)), (1, .int v1), (2, .int v2), (3, .int v3)] 14 [] := by
  intro n
  induction n with
  | zero => intro t0 v1 v2 v3 σ hw
            exact hw.elim
  | succ n ih =>
    intro t0 v1 v2 v3 σ hw h0
    rw [wX12_notes_14] at hw
    refine z_iload_n hG dX12_notes_14 rfl 3 rfl ?_
    refine z_bipush (v := 117) hG dX12_notes_15 (by decide) ?_
    refine z_icmp_ge (tgt := 46) hG dX12_notes_17 (by decide) (fun c15 => ?_) (fun c15 => ?_)
    · have hw := hw.1 c15
      refine z_aload_n hG dX12_notes_46 rfl 0 rfl ?_
      obtain ⟨j1, ej1, hw⟩ := hw
      refine z_getr (kq := 20) hG f_X12_7 h0 rfl ej1 rfl (by decide) dX12_notes_47 (fun hj1 => ?_)
      refine z_bipush (v := 18) hG dX12_notes_50 (by decide) ?_
      refine z_dup2 hG dX12_notes_52 rfl rfl ?_
      obtain ⟨q2, hw⟩ := hw
      refine z_iald hG hj1 q2 dX12_notes_53 ?_
      refine z_iconst (v := 1) hG dX12_notes_54 (by decide) ?_
      refine z_isub hG dX12_notes_55 ?_
      refine z_topi (fun x3 ex3 => ?_)
      have hw := hw x3 ex3
      obtain ⟨q4, hw⟩ := hw
      refine z_iast hG hj1 q4 dX12_notes_56 ?_
      refine z_topσ (fun σ5 eσ5 => ?_)
      have hw := hw σ5 eσ5
      refine zpick [0, 1, 2] (lv' := [(0, .ref (za Y t0)), (1, .int v1), (2, .int v2)]) rfl ?_
      exact BX12_notes_57 hG t0 v1 v2 σ5 hw h0
    · have hw := hw.2 c15
      refine z_aload_n hG dX12_notes_20 rfl 0 rfl ?_
      obtain ⟨j6, ej6, hw⟩ := hw
      refine z_getr (kq := 20) hG f_X12_7 h0 rfl ej6 rfl (by decide) dX12_notes_21 (fun hj6 => ?_)
      refine z_bipush (v := 99) hG dX12_notes_24 (by decide) ?_
      refine z_iload_n hG dX12_notes_26 rfl 3 rfl ?_
      refine z_iadd hG dX12_notes_27 ?_
      refine z_aload_n hG dX12_notes_28 rfl 0 rfl ?_
      obtain ⟨j7, ej7, hw⟩ := hw
      refine z_getr (kq := 20) hG f_X12_7 h0 rfl ej7 rfl (by decide) dX12_notes_29 (fun hj7 => ?_)
      refine z_bipush (v := 99) hG dX12_notes_32 (by decide) ?_
      refine z_iload_n hG dX12_notes_34 rfl 3 rfl ?_
      refine z_iadd hG dX12_notes_35 ?_
      refine z_iconst (v := 3) hG dX12_notes_36 (by decide) ?_
      refine z_iadd hG dX12_notes_37 ?_
      refine z_topi (fun x8 ex8 => ?_)
      have hw := hw x8 ex8
      obtain ⟨q9, hw⟩ := hw
      refine z_iald hG hj7 q9 dX12_notes_38 ?_
      refine z_topi (fun x10 ex10 => ?_)
      have hw := hw x10 ex10
      obtain ⟨x11, ex11⟩ : ∃ y : Int32, y = 99 + v3 := ⟨_, rfl⟩
      refine zst (st' := [.int x10, .int x11, .ref (za Y j6)]) (by rw [ex11]) ?_
      have hw := hw x11 ex11
      obtain ⟨q12, hw⟩ := hw
      refine z_iast hG hj6 q12 dX12_notes_39 ?_
      refine z_topσ (fun σ13 eσ13 => ?_)
      have hw := hw σ13 eσ13
      obtain ⟨x14, ex14⟩ : ∃ y : Int32, y = v3 + 1 := ⟨_, rfl⟩
      have hw := hw x14 ex14
      refine z_iinc (v := x14) (lv' := [(3, .int x14), (0, .ref (za Y t0)), (1, .int v1), (2, .int v2)]) hG dX12_notes_40 3 rfl (by rw [ex14]; rfl) (by decide) rfl ?_
      refine z_goto (tgt := 14) hG dX12_notes_43 (by decide) ?_
      refine zpick [1, 2, 3, 0] (lv' := [(0, .ref (za Y t0)), (1, .int v1), (2, .int v2), (3, .int x14)]) rfl ?_
      exact ih t0 v1 v2 x14 σ13 hw h0
set_option maxRecDepth 100000 in
set_option maxHeartbeats 4000000 in
theorem MX12_notes (l : Launch) {E : zE} {Y : zY} {σ : zS} {t0 : Nat} {v1 : Int32} {v2 : Int32} (h0 : zT Y 12 t0) {Q : zS → Prop} (hw : wX12_notes (zln Y) σ t0 v1 v2 Q) : ∀ sz, Met l yX12_notes (zw yX12_notes cX12_notes 4 none) rX12_notes (zPc E Y σ sz [.ref (za Y t0), .int v1, .int v2]) (va_Qv Q (zB E Y sz) (zA Y sz)) 0 0 (zA Y sz) := by
  refine z_met (own := RX12) (Qc := fun sz => va_Qv Q (zB E Y sz) (zA Y sz)) (by decide +kernel) rfl (Nat.le_of_ble_eq_true rfl) ?_
  intro p e s m args below meth c hG hinit
  unfold wX12_notes at hw
  refine zlv (lv' := [(0, .ref (za Y t0)), (1, .int v1), (2, .int v2)]) rfl ?_
  refine z_aload_n hG dX12_notes_0 rfl 0 rfl ?_
  obtain ⟨j1, ej1, hw⟩ := hw
  refine z_getr (kq := 20) hG f_X12_7 h0 rfl ej1 rfl (by decide) dX12_notes_1 (fun hj1 => ?_)
  refine z_bipush (v := 18) hG dX12_notes_4 (by decide) ?_
  obtain ⟨q2, hw⟩ := hw
  refine z_iald hG hj1 q2 dX12_notes_6 ?_
  refine z_bipush (v := 40) hG dX12_notes_7 (by decide) ?_
  refine z_icmp_ne (tgt := 57) hG dX12_notes_9 (by decide) (fun c4 => ?_) (fun c4 => ?_)
  · have hw := hw.2 c4
    refine zpick [0, 1, 2] (lv' := [(0, .ref (za Y t0)), (1, .int v1), (2, .int v2)]) rfl ?_
    exact BX12_notes_57 hG t0 v1 v2 σ hw h0
  · have hw := hw.1 c4
    refine z_iconst (v := 0) hG dX12_notes_12 (by decide) ?_
    refine z_istore_n (lv' := [(3, .int 0), (0, .ref (za Y t0)), (1, .int v1), (2, .int v2)]) hG dX12_notes_13 rfl (by decide) rfl ?_
    obtain ⟨n3, hw⟩ := hw
    refine zpick [1, 2, 3, 0] (lv' := [(0, .ref (za Y t0)), (1, .int v1), (2, .int v2), (3, .int 0)]) rfl ?_
    exact BX12_notes_14 hG n3 t0 v1 v2 0 σ hw h0
-- TypeWheelTelegraphModel.sends(II)V
def wX12_sends (ln : Nat → Nat) (σ : zS) (t0 : Nat) (v1 : Int32) (v2 : Int32) (Q : zS → Prop) : Prop := ∃ j1 : Nat, gr σ t0 1 = some j1 ∧ vp_in (19 : Int32) (ln j1) ∧ ∀ x3 : Int32, x3 = 2963 + (3 * (gi σ j1 (19 : Int32).toNatClampNeg)) → ∃ j4 : Nat, gr σ t0 1 = some j4 ∧ ∃ j5 : Nat, gr σ t0 1 = some j5 ∧ vp_in (5 : Int32) (ln j5) ∧ ∃ j7 : Nat, gr σ t0 1 = some j7 ∧ vp_in (1 : Int32) (ln j7) ∧ ∀ x9 : Int32, x9 = (gi σ j5 (5 : Int32).toNatClampNeg) + (gi σ j7 (1 : Int32).toNatClampNeg) → vp_in x3 (ln j4) ∧ ∀ σ11 : zS, σ11 = si σ j4 x3.toNatClampNeg x9 → ∃ j12 : Nat, gr σ11 t0 1 = some j12 ∧ ∀ x13 : Int32, x13 = x3 + 1 → vp_in x13 (ln j12) ∧ ∀ σ15 : zS, σ15 = si σ11 j12 x13.toNatClampNeg v1 → ∃ j16 : Nat, gr σ15 t0 1 = some j16 ∧ ∀ x17 : Int32, x17 = x3 + 2 → vp_in x17 (ln j16) ∧ ∀ σ19 : zS, σ19 = si σ15 j16 x17.toNatClampNeg v2 → ∃ j20 : Nat, gr σ19 t0 1 = some j20 ∧ vp_in (19 : Int32) (ln j20) ∧ ∀ x22 : Int32, x22 = (gi σ19 j20 (19 : Int32).toNatClampNeg) + 1 → vp_in (19 : Int32) (ln j20) ∧ ∀ σ24 : zS, σ24 = si σ19 j20 (19 : Int32).toNatClampNeg x22 → Q σ24
abbrev rX12_sends : Room := { frames := 0, cells := 0, slots := 0, locals := 0 }
set_option maxRecDepth 100000 in
set_option maxHeartbeats 4000000 in
theorem MX12_sends (l : Launch) {E : zE} {Y : zY} {σ : zS} {t0 : Nat} {v1 : Int32} {v2 : Int32} (h0 : zT Y 12 t0) {Q : zS → Prop} (hw : wX12_sends (zln Y) σ t0 v1 v2 Q) : ∀ sz, Met l yX12_sends (zw yX12_sends cX12_sends 4 none) rX12_sends (zPc E Y σ sz [.ref (za Y t0), .int v1, .int v2]) (va_Qv Q (zB E Y sz) (zA Y sz)) 0 0 (zA Y sz) := by
  refine z_met (own := RX12) (Qc := fun sz => va_Qv Q (zB E Y sz) (zA Y sz)) (by decide +kernel) rfl (Nat.le_of_ble_eq_true rfl) ?_
  intro p e s m args below meth c hG hinit
  unfold wX12_sends at hw
  refine zlv (lv' := [(0, .ref (za Y t0)), (1, .int v1), (2, .int v2)]) rfl ?_
  refine z_sipush (v := 2963) hG dX12_sends_0 (by decide) ?_
  refine z_iconst (v := 3) hG dX12_sends_3 (by decide) ?_
  refine z_aload_n hG dX12_sends_4 rfl 0 rfl ?_
  obtain ⟨j1, ej1, hw⟩ := hw
  refine z_getr (kq := 20) hG f_X12_7 h0 rfl ej1 rfl (by decide) dX12_sends_5 (fun hj1 => ?_)
  refine z_bipush (v := 19) hG dX12_sends_8 (by decide) ?_
  obtain ⟨q2, hw⟩ := hw
  refine z_iald hG hj1 q2 dX12_sends_10 ?_
  refine z_imul hG dX12_sends_11 ?_
  refine z_iadd hG dX12_sends_12 ?_
  refine z_topi (fun x3 ex3 => ?_)
  have hw := hw x3 ex3
  refine z_istore_n (lv' := [(3, .int x3), (0, .ref (za Y t0)), (1, .int v1), (2, .int v2)]) hG dX12_sends_13 rfl (by decide) rfl ?_
  refine z_aload_n hG dX12_sends_14 rfl 1 rfl ?_
  obtain ⟨j4, ej4, hw⟩ := hw
  refine z_getr (kq := 20) hG f_X12_7 h0 rfl ej4 rfl (by decide) dX12_sends_15 (fun hj4 => ?_)
  refine z_iload_n hG dX12_sends_18 rfl 0 rfl ?_
  refine z_aload_n hG dX12_sends_19 rfl 1 rfl ?_
  obtain ⟨j5, ej5, hw⟩ := hw
  refine z_getr (kq := 20) hG f_X12_7 h0 rfl ej5 rfl (by decide) dX12_sends_20 (fun hj5 => ?_)
  refine z_iconst (v := 5) hG dX12_sends_23 (by decide) ?_
  obtain ⟨q6, hw⟩ := hw
  refine z_iald hG hj5 q6 dX12_sends_24 ?_
  refine z_aload_n hG dX12_sends_25 rfl 1 rfl ?_
  obtain ⟨j7, ej7, hw⟩ := hw
  refine z_getr (kq := 20) hG f_X12_7 h0 rfl ej7 rfl (by decide) dX12_sends_26 (fun hj7 => ?_)
  refine z_iconst (v := 1) hG dX12_sends_29 (by decide) ?_
  obtain ⟨q8, hw⟩ := hw
  refine z_iald hG hj7 q8 dX12_sends_30 ?_
  refine z_iadd hG dX12_sends_31 ?_
  refine z_topi (fun x9 ex9 => ?_)
  have hw := hw x9 ex9
  obtain ⟨q10, hw⟩ := hw
  refine z_iast hG hj4 q10 dX12_sends_32 ?_
  refine z_topσ (fun σ11 eσ11 => ?_)
  have hw := hw σ11 eσ11
  refine z_aload_n hG dX12_sends_33 rfl 1 rfl ?_
  obtain ⟨j12, ej12, hw⟩ := hw
  refine z_getr (kq := 20) hG f_X12_7 h0 rfl ej12 rfl (by decide) dX12_sends_34 (fun hj12 => ?_)
  refine z_iload_n hG dX12_sends_37 rfl 0 rfl ?_
  refine z_iconst (v := 1) hG dX12_sends_38 (by decide) ?_
  refine z_iadd hG dX12_sends_39 ?_
  refine z_iload_n hG dX12_sends_40 rfl 2 rfl ?_
  obtain ⟨x13, ex13⟩ : ∃ y : Int32, y = x3 + 1 := ⟨_, rfl⟩
  refine zst (st' := [.int v1, .int x13, .ref (za Y j12)]) (by rw [ex13]) ?_
  have hw := hw x13 ex13
  obtain ⟨q14, hw⟩ := hw
  refine z_iast hG hj12 q14 dX12_sends_41 ?_
  refine z_topσ (fun σ15 eσ15 => ?_)
  have hw := hw σ15 eσ15
  refine z_aload_n hG dX12_sends_42 rfl 1 rfl ?_
  obtain ⟨j16, ej16, hw⟩ := hw
  refine z_getr (kq := 20) hG f_X12_7 h0 rfl ej16 rfl (by decide) dX12_sends_43 (fun hj16 => ?_)
  refine z_iload_n hG dX12_sends_46 rfl 0 rfl ?_
  refine z_iconst (v := 2) hG dX12_sends_47 (by decide) ?_
  refine z_iadd hG dX12_sends_48 ?_
  refine z_iload_n hG dX12_sends_49 rfl 3 rfl ?_
  obtain ⟨x17, ex17⟩ : ∃ y : Int32, y = x3 + 2 := ⟨_, rfl⟩
  refine zst (st' := [.int v2, .int x17, .ref (za Y j16)]) (by rw [ex17]) ?_
  have hw := hw x17 ex17
  obtain ⟨q18, hw⟩ := hw
  refine z_iast hG hj16 q18 dX12_sends_50 ?_
  refine z_topσ (fun σ19 eσ19 => ?_)
  have hw := hw σ19 eσ19
  refine z_aload_n hG dX12_sends_51 rfl 1 rfl ?_
  obtain ⟨j20, ej20, hw⟩ := hw
  refine z_getr (kq := 20) hG f_X12_7 h0 rfl ej20 rfl (by decide) dX12_sends_52 (fun hj20 => ?_)
  refine z_bipush (v := 19) hG dX12_sends_55 (by decide) ?_
  refine z_dup2 hG dX12_sends_57 rfl rfl ?_
  obtain ⟨q21, hw⟩ := hw
  refine z_iald hG hj20 q21 dX12_sends_58 ?_
  refine z_iconst (v := 1) hG dX12_sends_59 (by decide) ?_
  refine z_iadd hG dX12_sends_60 ?_
  refine z_topi (fun x22 ex22 => ?_)
  have hw := hw x22 ex22
  obtain ⟨q23, hw⟩ := hw
  refine z_iast hG hj20 q23 dX12_sends_61 ?_
  refine z_topσ (fun σ24 eσ24 => ?_)
  have hw := hw σ24 eσ24
  exact z_vret hG rfl dX12_sends_62 hw
-- TypeWheelTelegraphModel.clears()V
def wX12_clears (ln : Nat → Nat) (σ : zS) (t0 : Nat) (Q : zS → Prop) : Prop := ∃ j1 : Nat, gr σ t0 1 = some j1 ∧ vp_in (11 : Int32) (ln j1) ∧ ∀ σ3 : zS, σ3 = si σ j1 (11 : Int32).toNatClampNeg 0 → ∃ j4 : Nat, gr σ3 t0 1 = some j4 ∧ vp_in (12 : Int32) (ln j4) ∧ ∀ σ6 : zS, σ6 = si σ3 j4 (12 : Int32).toNatClampNeg 0 → ∃ j7 : Nat, gr σ6 t0 1 = some j7 ∧ vp_in (13 : Int32) (ln j7) ∧ ∀ σ9 : zS, σ9 = si σ6 j7 (13 : Int32).toNatClampNeg 0 → ∃ j10 : Nat, gr σ9 t0 1 = some j10 ∧ vp_in (14 : Int32) (ln j10) ∧ ∀ σ12 : zS, σ12 = si σ9 j10 (14 : Int32).toNatClampNeg 0 → Q σ12
abbrev rX12_clears : Room := { frames := 0, cells := 0, slots := 0, locals := 0 }
set_option maxRecDepth 100000 in
set_option maxHeartbeats 4000000 in
theorem MX12_clears (l : Launch) {E : zE} {Y : zY} {σ : zS} {t0 : Nat} (h0 : zT Y 12 t0) {Q : zS → Prop} (hw : wX12_clears (zln Y) σ t0 Q) : ∀ sz, Met l yX12_clears (zw yX12_clears cX12_clears 1 none) rX12_clears (zPc E Y σ sz [.ref (za Y t0)]) (va_Qv Q (zB E Y sz) (zA Y sz)) 0 0 (zA Y sz) := by
  refine z_met (own := RX12) (Qc := fun sz => va_Qv Q (zB E Y sz) (zA Y sz)) (by decide +kernel) rfl (Nat.le_of_ble_eq_true rfl) ?_
  intro p e s m args below meth c hG hinit
  unfold wX12_clears at hw
  refine zlv (lv' := [(0, .ref (za Y t0))]) rfl ?_
  refine z_aload_n hG dX12_clears_0 rfl 0 rfl ?_
  obtain ⟨j1, ej1, hw⟩ := hw
  refine z_getr (kq := 20) hG f_X12_7 h0 rfl ej1 rfl (by decide) dX12_clears_1 (fun hj1 => ?_)
  refine z_bipush (v := 11) hG dX12_clears_4 (by decide) ?_
  refine z_iconst (v := 0) hG dX12_clears_6 (by decide) ?_
  obtain ⟨q2, hw⟩ := hw
  refine z_iast hG hj1 q2 dX12_clears_7 ?_
  refine z_topσ (fun σ3 eσ3 => ?_)
  have hw := hw σ3 eσ3
  refine z_aload_n hG dX12_clears_8 rfl 0 rfl ?_
  obtain ⟨j4, ej4, hw⟩ := hw
  refine z_getr (kq := 20) hG f_X12_7 h0 rfl ej4 rfl (by decide) dX12_clears_9 (fun hj4 => ?_)
  refine z_bipush (v := 12) hG dX12_clears_12 (by decide) ?_
  refine z_iconst (v := 0) hG dX12_clears_14 (by decide) ?_
  obtain ⟨q5, hw⟩ := hw
  refine z_iast hG hj4 q5 dX12_clears_15 ?_
  refine z_topσ (fun σ6 eσ6 => ?_)
  have hw := hw σ6 eσ6
  refine z_aload_n hG dX12_clears_16 rfl 0 rfl ?_
  obtain ⟨j7, ej7, hw⟩ := hw
  refine z_getr (kq := 20) hG f_X12_7 h0 rfl ej7 rfl (by decide) dX12_clears_17 (fun hj7 => ?_)
  refine z_bipush (v := 13) hG dX12_clears_20 (by decide) ?_
  refine z_iconst (v := 0) hG dX12_clears_22 (by decide) ?_
  obtain ⟨q8, hw⟩ := hw
  refine z_iast hG hj7 q8 dX12_clears_23 ?_
  refine z_topσ (fun σ9 eσ9 => ?_)
  have hw := hw σ9 eσ9
  refine z_aload_n hG dX12_clears_24 rfl 0 rfl ?_
  obtain ⟨j10, ej10, hw⟩ := hw
  refine z_getr (kq := 20) hG f_X12_7 h0 rfl ej10 rfl (by decide) dX12_clears_25 (fun hj10 => ?_)
  refine z_bipush (v := 14) hG dX12_clears_28 (by decide) ?_
  refine z_iconst (v := 0) hG dX12_clears_30 (by decide) ?_
  obtain ⟨q11, hw⟩ := hw
  refine z_iast hG hj10 q11 dX12_clears_31 ?_
  refine z_topσ (fun σ12 eσ12 => ?_)
  have hw := hw σ12 eσ12
  exact z_vret hG rfl dX12_clears_32 hw
-- TypeWheelTelegraphModel.ends()V
def wX12_ends (ln : Nat → Nat) (σ : zS) (t0 : Nat) (Q : zS → Prop) : Prop := ∃ j1 : Nat, gr σ t0 1 = some j1 ∧ vp_in (6 : Int32) (ln j1) ∧ ∀ σ3 : zS, σ3 = si σ j1 (6 : Int32).toNatClampNeg (-1) → ∃ j4 : Nat, gr σ3 t0 1 = some j4 ∧ vp_in (7 : Int32) (ln j4) ∧ ∀ σ6 : zS, σ6 = si σ3 j4 (7 : Int32).toNatClampNeg 0 → ∃ j7 : Nat, gr σ6 t0 1 = some j7 ∧ vp_in (9 : Int32) (ln j7) ∧ ∀ σ9 : zS, σ9 = si σ6 j7 (9 : Int32).toNatClampNeg 0 → ∃ j10 : Nat, gr σ9 t0 1 = some j10 ∧ vp_in (10 : Int32) (ln j10) ∧ ∀ σ12 : zS, σ12 = si σ9 j10 (10 : Int32).toNatClampNeg 0 → ∃ j13 : Nat, gr σ12 t0 1 = some j13 ∧ vp_in (19 : Int32) (ln j13) ∧ ∀ σ15 : zS, σ15 = si σ12 j13 (19 : Int32).toNatClampNeg 0 → wX12_clears ln σ15 t0 (fun σ16 => Q σ16)
abbrev rX12_ends : Room := { frames := 1, cells := 0, slots := 0, locals := 20 }
set_option maxRecDepth 100000 in
set_option maxHeartbeats 4000000 in
theorem MX12_ends (l : Launch) {E : zE} {Y : zY} {σ : zS} {t0 : Nat} (h0 : zT Y 12 t0) {Q : zS → Prop} (hw : wX12_ends (zln Y) σ t0 Q) : ∀ sz, Met l yX12_ends (zw yX12_ends cX12_ends 1 none) rX12_ends (zPc E Y σ sz [.ref (za Y t0)]) (va_Qv Q (zB E Y sz) (zA Y sz)) 0 0 (zA Y sz) := by
  refine z_met (own := RX12) (Qc := fun sz => va_Qv Q (zB E Y sz) (zA Y sz)) (by decide +kernel) rfl (Nat.le_of_ble_eq_true rfl) ?_
  intro p e s m args below meth c hG hinit
  unfold wX12_ends at hw
  refine zlv (lv' := [(0, .ref (za Y t0))]) rfl ?_
  refine z_aload_n hG dX12_ends_0 rfl 0 rfl ?_
  obtain ⟨j1, ej1, hw⟩ := hw
  refine z_getr (kq := 20) hG f_X12_7 h0 rfl ej1 rfl (by decide) dX12_ends_1 (fun hj1 => ?_)
  refine z_bipush (v := 6) hG dX12_ends_4 (by decide) ?_
  refine z_iconst (v := (-1)) hG dX12_ends_6 (by decide) ?_
  obtain ⟨q2, hw⟩ := hw
  refine z_iast hG hj1 q2 dX12_ends_7 ?_
  refine z_topσ (fun σ3 eσ3 => ?_)
  have hw := hw σ3 eσ3
  refine z_aload_n hG dX12_ends_8 rfl 0 rfl ?_
  obtain ⟨j4, ej4, hw⟩ := hw
  refine z_getr (kq := 20) hG f_X12_7 h0 rfl ej4 rfl (by decide) dX12_ends_9 (fun hj4 => ?_)
  refine z_bipush (v := 7) hG dX12_ends_12 (by decide) ?_
  refine z_iconst (v := 0) hG dX12_ends_14 (by decide) ?_
  obtain ⟨q5, hw⟩ := hw
  refine z_iast hG hj4 q5 dX12_ends_15 ?_
  refine z_topσ (fun σ6 eσ6 => ?_)
  have hw := hw σ6 eσ6
  refine z_aload_n hG dX12_ends_16 rfl 0 rfl ?_
  obtain ⟨j7, ej7, hw⟩ := hw
  refine z_getr (kq := 20) hG f_X12_7 h0 rfl ej7 rfl (by decide) dX12_ends_17 (fun hj7 => ?_)
  refine z_bipush (v := 9) hG dX12_ends_20 (by decide) ?_
  refine z_iconst (v := 0) hG dX12_ends_22 (by decide) ?_
  obtain ⟨q8, hw⟩ := hw
  refine z_iast hG hj7 q8 dX12_ends_23 ?_
  refine z_topσ (fun σ9 eσ9 => ?_)
  have hw := hw σ9 eσ9
  refine z_aload_n hG dX12_ends_24 rfl 0 rfl ?_
  obtain ⟨j10, ej10, hw⟩ := hw
  refine z_getr (kq := 20) hG f_X12_7 h0 rfl ej10 rfl (by decide) dX12_ends_25 (fun hj10 => ?_)
  refine z_bipush (v := 10) hG dX12_ends_28 (by decide) ?_
  refine z_iconst (v := 0) hG dX12_ends_30 (by decide) ?_
  obtain ⟨q11, hw⟩ := hw
  refine z_iast hG hj10 q11 dX12_ends_31 ?_
  refine z_topσ (fun σ12 eσ12 => ?_)
  have hw := hw σ12 eσ12
  refine z_aload_n hG dX12_ends_32 rfl 0 rfl ?_
  obtain ⟨j13, ej13, hw⟩ := hw
  refine z_getr (kq := 20) hG f_X12_7 h0 rfl ej13 rfl (by decide) dX12_ends_33 (fun hj13 => ?_)
  refine z_bipush (v := 19) hG dX12_ends_36 (by decide) ?_
  refine z_iconst (v := 0) hG dX12_ends_38 (by decide) ?_
  obtain ⟨q14, hw⟩ := hw
  refine z_iast hG hj13 q14 dX12_ends_39 ?_
  refine z_topσ (fun σ15 eσ15 => ?_)
  have hw := hw σ15 eσ15
  refine z_aload_n hG dX12_ends_40 rfl 0 rfl ?_
  refine z_callv hG (z_runV (As := []) (st := []) hG k_X12_102 (MX12_clears l h0 hw) ⟨(Nat.le_of_ble_eq_true rfl), (Nat.le_of_ble_eq_true rfl)⟩ h0 (T := TX12) (N := 23) rfl (by decide) rfl (Nat.le_of_ble_eq_true rfl) dX12_ends_41 ⟨Nat.zero_le _, Nat.zero_le _⟩ rfl) (fun σ16 hw => ?_)
  exact z_vret hG rfl dX12_ends_44 hw
-- TypeWheelTelegraphModel.begins()V
def wX12_begins (ln : Nat → Nat) (σ : zS) (t0 : Nat) (Q : zS → Prop) : Prop := ∃ j1 : Nat, gr σ t0 1 = some j1 ∧ vp_in (7 : Int32) (ln j1) ∧ ∀ σ3 : zS, σ3 = si σ j1 (7 : Int32).toNatClampNeg 0 → ∃ j4 : Nat, gr σ3 t0 1 = some j4 ∧ vp_in (9 : Int32) (ln j4) ∧ ∀ σ6 : zS, σ6 = si σ3 j4 (9 : Int32).toNatClampNeg 0 → Q σ6
abbrev rX12_begins : Room := { frames := 0, cells := 0, slots := 0, locals := 0 }
set_option maxRecDepth 100000 in
set_option maxHeartbeats 4000000 in
theorem MX12_begins (l : Launch) {E : zE} {Y : zY} {σ : zS} {t0 : Nat} (h0 : zT Y 12 t0) {Q : zS → Prop} (hw : wX12_begins (zln Y) σ t0 Q) : ∀ sz, Met l yX12_begins (zw yX12_begins cX12_begins 1 none) rX12_begins (zPc E Y σ sz [.ref (za Y t0)]) (va_Qv Q (zB E Y sz) (zA Y sz)) 0 0 (zA Y sz) := by
  refine z_met (own := RX12) (Qc := fun sz => va_Qv Q (zB E Y sz) (zA Y sz)) (by decide +kernel) rfl (Nat.le_of_ble_eq_true rfl) ?_
  intro p e s m args below meth c hG hinit
  unfold wX12_begins at hw
  refine zlv (lv' := [(0, .ref (za Y t0))]) rfl ?_
  refine z_aload_n hG dX12_begins_0 rfl 0 rfl ?_
  obtain ⟨j1, ej1, hw⟩ := hw
  refine z_getr (kq := 20) hG f_X12_7 h0 rfl ej1 rfl (by decide) dX12_begins_1 (fun hj1 => ?_)
  refine z_bipush (v := 7) hG dX12_begins_4 (by decide) ?_
  refine z_iconst (v := 0) hG dX12_begins_6 (by decide) ?_
  obtain ⟨q2, hw⟩ := hw
  refine z_iast hG hj1 q2 dX12_begins_7 ?_
  refine z_topσ (fun σ3 eσ3 => ?_)
  have hw := hw σ3 eσ3
  refine z_aload_n hG dX12_begins_8 rfl 0 rfl ?_
  obtain ⟨j4, ej4, hw⟩ := hw
  refine z_getr (kq := 20) hG f_X12_7 h0 rfl ej4 rfl (by decide) dX12_begins_9 (fun hj4 => ?_)
  refine z_bipush (v := 9) hG dX12_begins_12 (by decide) ?_
  refine z_iconst (v := 0) hG dX12_begins_14 (by decide) ?_
  obtain ⟨q5, hw⟩ := hw
  refine z_iast hG hj4 q5 dX12_begins_15 ?_
  refine z_topσ (fun σ6 eσ6 => ?_)
  have hw := hw σ6 eσ6
  exact z_vret hG rfl dX12_begins_16 hw
-- TypeWheelTelegraphModel.lineDone()V
def wX12_lineDone (ln : Nat → Nat) (σ : zS) (t0 : Nat) (Q : zS → Prop) : Prop := ∃ j1 : Nat, gr σ t0 1 = some j1 ∧ vp_in (6 : Int32) (ln j1) ∧ ∀ x3 : Int32, x3 = gi σ j1 (6 : Int32).toNatClampNeg → ∃ j4 : Nat, gr σ t0 1 = some j4 ∧ ∀ x5 : Int32, x5 = 27 + x3 → vp_in x5 (ln j4) ∧ ∀ x7 : Int32, x7 = (gi σ j4 x5.toNatClampNeg) + 1 → vp_in x5 (ln j4) ∧ ∀ σ9 : zS, σ9 = si σ j4 x5.toNatClampNeg x7 → ∃ j10 : Nat, gr σ9 t0 1 = some j10 ∧ vp_in (10 : Int32) (ln j10) ∧ ∀ σ12 : zS, σ12 = si σ9 j10 (10 : Int32).toNatClampNeg 0 → ∃ j13 : Nat, gr σ12 t0 1 = some j13 ∧ ∀ x14 : Int32, x14 = 27 + x3 → vp_in x14 (ln j13) ∧ ∃ j16 : Nat, gr σ12 t0 1 = some j16 ∧ ∀ x17 : Int32, x17 = 25 + x3 → vp_in x17 (ln j16) ∧ (((gi σ12 j16 x17.toNatClampNeg) ≤ (gi σ12 j13 x14.toNatClampNeg) → wX12_ends ln σ12 t0 (fun σ19 => wX12_notes ln σ19 t0 6 x3 (fun σ20 => Q σ20))) ∧ (¬ (gi σ12 j16 x17.toNatClampNeg) ≤ (gi σ12 j13 x14.toNatClampNeg) → wX12_begins ln σ12 t0 (fun σ21 => Q σ21)))
abbrev rX12_lineDone : Room := { frames := 2, cells := 0, slots := 0, locals := 40 }
set_option maxRecDepth 100000 in
set_option maxHeartbeats 4000000 in
theorem MX12_lineDone (l : Launch) {E : zE} {Y : zY} {σ : zS} {t0 : Nat} (h0 : zT Y 12 t0) {Q : zS → Prop} (hw : wX12_lineDone (zln Y) σ t0 Q) : ∀ sz, Met l yX12_lineDone (zw yX12_lineDone cX12_lineDone 2 none) rX12_lineDone (zPc E Y σ sz [.ref (za Y t0)]) (va_Qv Q (zB E Y sz) (zA Y sz)) 0 0 (zA Y sz) := by
  refine z_met (own := RX12) (Qc := fun sz => va_Qv Q (zB E Y sz) (zA Y sz)) (by decide +kernel) rfl (Nat.le_of_ble_eq_true rfl) ?_
  intro p e s m args below meth c hG hinit
  unfold wX12_lineDone at hw
  refine zlv (lv' := [(0, .ref (za Y t0))]) rfl ?_
  refine z_aload_n hG dX12_lineDone_0 rfl 0 rfl ?_
  obtain ⟨j1, ej1, hw⟩ := hw
  refine z_getr (kq := 20) hG f_X12_7 h0 rfl ej1 rfl (by decide) dX12_lineDone_1 (fun hj1 => ?_)
  refine z_bipush (v := 6) hG dX12_lineDone_4 (by decide) ?_
  obtain ⟨q2, hw⟩ := hw
  refine z_iald hG hj1 q2 dX12_lineDone_6 ?_
  refine z_topi (fun x3 ex3 => ?_)
  have hw := hw x3 ex3
  refine z_istore_n (lv' := [(1, .int x3), (0, .ref (za Y t0))]) hG dX12_lineDone_7 rfl (by decide) rfl ?_
  refine z_aload_n hG dX12_lineDone_8 rfl 1 rfl ?_
  obtain ⟨j4, ej4, hw⟩ := hw
  refine z_getr (kq := 20) hG f_X12_7 h0 rfl ej4 rfl (by decide) dX12_lineDone_9 (fun hj4 => ?_)
  refine z_bipush (v := 27) hG dX12_lineDone_12 (by decide) ?_
  refine z_iload_n hG dX12_lineDone_14 rfl 0 rfl ?_
  refine z_iadd hG dX12_lineDone_15 ?_
  refine z_topi (fun x5 ex5 => ?_)
  have hw := hw x5 ex5
  refine z_dup2 hG dX12_lineDone_16 rfl rfl ?_
  obtain ⟨q6, hw⟩ := hw
  refine z_iald hG hj4 q6 dX12_lineDone_17 ?_
  refine z_iconst (v := 1) hG dX12_lineDone_18 (by decide) ?_
  refine z_iadd hG dX12_lineDone_19 ?_
  refine z_topi (fun x7 ex7 => ?_)
  have hw := hw x7 ex7
  obtain ⟨q8, hw⟩ := hw
  refine z_iast hG hj4 q8 dX12_lineDone_20 ?_
  refine z_topσ (fun σ9 eσ9 => ?_)
  have hw := hw σ9 eσ9
  refine z_aload_n hG dX12_lineDone_21 rfl 1 rfl ?_
  obtain ⟨j10, ej10, hw⟩ := hw
  refine z_getr (kq := 20) hG f_X12_7 h0 rfl ej10 rfl (by decide) dX12_lineDone_22 (fun hj10 => ?_)
  refine z_bipush (v := 10) hG dX12_lineDone_25 (by decide) ?_
  refine z_iconst (v := 0) hG dX12_lineDone_27 (by decide) ?_
  obtain ⟨q11, hw⟩ := hw
  refine z_iast hG hj10 q11 dX12_lineDone_28 ?_
  refine z_topσ (fun σ12 eσ12 => ?_)
  have hw := hw σ12 eσ12
  refine z_aload_n hG dX12_lineDone_29 rfl 1 rfl ?_
  obtain ⟨j13, ej13, hw⟩ := hw
  refine z_getr (kq := 20) hG f_X12_7 h0 rfl ej13 rfl (by decide) dX12_lineDone_30 (fun hj13 => ?_)
  refine z_bipush (v := 27) hG dX12_lineDone_33 (by decide) ?_
  refine z_iload_n hG dX12_lineDone_35 rfl 0 rfl ?_
  refine z_iadd hG dX12_lineDone_36 ?_
  refine z_topi (fun x14 ex14 => ?_)
  have hw := hw x14 ex14
  obtain ⟨q15, hw⟩ := hw
  refine z_iald hG hj13 q15 dX12_lineDone_37 ?_
  refine z_aload_n hG dX12_lineDone_38 rfl 1 rfl ?_
  obtain ⟨j16, ej16, hw⟩ := hw
  refine z_getr (kq := 20) hG f_X12_7 h0 rfl ej16 rfl (by decide) dX12_lineDone_39 (fun hj16 => ?_)
  refine z_bipush (v := 25) hG dX12_lineDone_42 (by decide) ?_
  refine z_iload_n hG dX12_lineDone_44 rfl 0 rfl ?_
  refine z_iadd hG dX12_lineDone_45 ?_
  refine z_topi (fun x17 ex17 => ?_)
  have hw := hw x17 ex17
  obtain ⟨q18, hw⟩ := hw
  refine z_iald hG hj16 q18 dX12_lineDone_46 ?_
  refine z_icmp_ge (tgt := 57) hG dX12_lineDone_47 (by decide) (fun c22 => ?_) (fun c22 => ?_)
  · have hw := hw.1 c22
    refine z_aload_n hG dX12_lineDone_57 rfl 1 rfl ?_
    refine z_callv hG (z_runV (As := []) (st := []) hG k_X12_108 (MX12_ends l h0 hw) ⟨(Nat.le_of_ble_eq_true rfl), (Nat.le_of_ble_eq_true rfl)⟩ h0 (T := TX12) (N := 23) rfl (by decide) rfl (Nat.le_of_ble_eq_true rfl) dX12_lineDone_58 ⟨Nat.zero_le _, Nat.zero_le _⟩ rfl) (fun σ19 hw => ?_)
    refine z_aload_n hG dX12_lineDone_61 rfl 1 rfl ?_
    refine z_bipush (v := 6) hG dX12_lineDone_62 (by decide) ?_
    refine z_iload_n hG dX12_lineDone_64 rfl 0 rfl ?_
    refine z_callv hG (z_runV (As := [.int 6, .int x3]) (st := []) hG k_X12_111 (MX12_notes l h0 hw) ⟨(Nat.le_of_ble_eq_true rfl), (Nat.le_of_ble_eq_true rfl)⟩ h0 (T := TX12) (N := 23) rfl (by decide) rfl (Nat.le_of_ble_eq_true rfl) dX12_lineDone_65 ⟨Nat.zero_le _, Nat.zero_le _⟩ rfl) (fun σ20 hw => ?_)
    exact z_vret hG rfl dX12_lineDone_68 hw
  · have hw := hw.2 c22
    refine z_aload_n hG dX12_lineDone_50 rfl 1 rfl ?_
    refine z_callv hG (z_runV (As := []) (st := []) hG k_X12_105 (MX12_begins l h0 hw) ⟨(Nat.le_of_ble_eq_true rfl), (Nat.le_of_ble_eq_true rfl)⟩ h0 (T := TX12) (N := 23) rfl (by decide) rfl (Nat.le_of_ble_eq_true rfl) dX12_lineDone_51 ⟨Nat.zero_le _, Nat.zero_le _⟩ rfl) (fun σ21 hw => ?_)
    refine z_goto (tgt := 68) hG dX12_lineDone_54 (by decide) ?_
    exact z_vret hG rfl dX12_lineDone_68 hw
-- TypeWheelTelegraphModel.lineFailed()V
def wX12_lineFailed (ln : Nat → Nat) (σ : zS) (t0 : Nat) (Q : zS → Prop) : Prop := ∃ j1 : Nat, gr σ t0 1 = some j1 ∧ ∃ j2 : Nat, gr σ t0 1 = some j2 ∧ vp_in (6 : Int32) (ln j2) ∧ ∀ x4 : Int32, x4 = 27 + (gi σ j2 (6 : Int32).toNatClampNeg) → vp_in x4 (ln j1) ∧ ∀ x6 : Int32, x6 = gi σ j1 x4.toNatClampNeg → ∃ j7 : Nat, gr σ t0 1 = some j7 ∧ vp_in (10 : Int32) (ln j7) ∧ ∃ j9 : Nat, gr σ t0 1 = some j9 ∧ vp_in (4 : Int32) (ln j9) ∧ (((gi σ j9 (4 : Int32).toNatClampNeg) ≤ (gi σ j7 (10 : Int32).toNatClampNeg) → wX12_notes ln σ t0 4 x6 (fun σ11 => wX12_lineDone ln σ11 t0 (fun σ12 => Q σ12))) ∧ (¬ (gi σ j9 (4 : Int32).toNatClampNeg) ≤ (gi σ j7 (10 : Int32).toNatClampNeg) → ∃ j13 : Nat, gr σ t0 1 = some j13 ∧ vp_in (10 : Int32) (ln j13) ∧ ∀ x15 : Int32, x15 = (gi σ j13 (10 : Int32).toNatClampNeg) + 1 → vp_in (10 : Int32) (ln j13) ∧ ∀ σ17 : zS, σ17 = si σ j13 (10 : Int32).toNatClampNeg x15 → wX12_begins ln σ17 t0 (fun σ18 => wX12_notes ln σ18 t0 3 x6 (fun σ19 => Q σ19))))
abbrev rX12_lineFailed : Room := { frames := 3, cells := 0, slots := 0, locals := 61 }
set_option maxRecDepth 100000 in
set_option maxHeartbeats 4000000 in
theorem MX12_lineFailed (l : Launch) {E : zE} {Y : zY} {σ : zS} {t0 : Nat} (h0 : zT Y 12 t0) {Q : zS → Prop} (hw : wX12_lineFailed (zln Y) σ t0 Q) : ∀ sz, Met l yX12_lineFailed (zw yX12_lineFailed cX12_lineFailed 2 none) rX12_lineFailed (zPc E Y σ sz [.ref (za Y t0)]) (va_Qv Q (zB E Y sz) (zA Y sz)) 0 0 (zA Y sz) := by
  refine z_met (own := RX12) (Qc := fun sz => va_Qv Q (zB E Y sz) (zA Y sz)) (by decide +kernel) rfl (Nat.le_of_ble_eq_true rfl) ?_
  intro p e s m args below meth c hG hinit
  unfold wX12_lineFailed at hw
  refine zlv (lv' := [(0, .ref (za Y t0))]) rfl ?_
  refine z_aload_n hG dX12_lineFailed_0 rfl 0 rfl ?_
  obtain ⟨j1, ej1, hw⟩ := hw
  refine z_getr (kq := 20) hG f_X12_7 h0 rfl ej1 rfl (by decide) dX12_lineFailed_1 (fun hj1 => ?_)
  refine z_bipush (v := 27) hG dX12_lineFailed_4 (by decide) ?_
  refine z_aload_n hG dX12_lineFailed_6 rfl 0 rfl ?_
  obtain ⟨j2, ej2, hw⟩ := hw
  refine z_getr (kq := 20) hG f_X12_7 h0 rfl ej2 rfl (by decide) dX12_lineFailed_7 (fun hj2 => ?_)
  refine z_bipush (v := 6) hG dX12_lineFailed_10 (by decide) ?_
  obtain ⟨q3, hw⟩ := hw
  refine z_iald hG hj2 q3 dX12_lineFailed_12 ?_
  refine z_iadd hG dX12_lineFailed_13 ?_
  refine z_topi (fun x4 ex4 => ?_)
  have hw := hw x4 ex4
  obtain ⟨q5, hw⟩ := hw
  refine z_iald hG hj1 q5 dX12_lineFailed_14 ?_
  refine z_topi (fun x6 ex6 => ?_)
  have hw := hw x6 ex6
  refine z_istore_n (lv' := [(1, .int x6), (0, .ref (za Y t0))]) hG dX12_lineFailed_15 rfl (by decide) rfl ?_
  refine z_aload_n hG dX12_lineFailed_16 rfl 1 rfl ?_
  obtain ⟨j7, ej7, hw⟩ := hw
  refine z_getr (kq := 20) hG f_X12_7 h0 rfl ej7 rfl (by decide) dX12_lineFailed_17 (fun hj7 => ?_)
  refine z_bipush (v := 10) hG dX12_lineFailed_20 (by decide) ?_
  obtain ⟨q8, hw⟩ := hw
  refine z_iald hG hj7 q8 dX12_lineFailed_22 ?_
  refine z_aload_n hG dX12_lineFailed_23 rfl 1 rfl ?_
  obtain ⟨j9, ej9, hw⟩ := hw
  refine z_getr (kq := 20) hG f_X12_7 h0 rfl ej9 rfl (by decide) dX12_lineFailed_24 (fun hj9 => ?_)
  refine z_iconst (v := 4) hG dX12_lineFailed_27 (by decide) ?_
  obtain ⟨q10, hw⟩ := hw
  refine z_iald hG hj9 q10 dX12_lineFailed_28 ?_
  refine z_icmp_ge (tgt := 56) hG dX12_lineFailed_29 (by decide) (fun c20 => ?_) (fun c20 => ?_)
  · have hw := hw.1 c20
    refine z_aload_n hG dX12_lineFailed_56 rfl 1 rfl ?_
    refine z_iconst (v := 4) hG dX12_lineFailed_57 (by decide) ?_
    refine z_iload_n hG dX12_lineFailed_58 rfl 0 rfl ?_
    refine z_callv hG (z_runV (As := [.int 4, .int x6]) (st := []) hG k_X12_111 (MX12_notes l h0 hw) ⟨(Nat.le_of_ble_eq_true rfl), (Nat.le_of_ble_eq_true rfl)⟩ h0 (T := TX12) (N := 23) rfl (by decide) rfl (Nat.le_of_ble_eq_true rfl) dX12_lineFailed_59 ⟨Nat.zero_le _, Nat.zero_le _⟩ rfl) (fun σ11 hw => ?_)
    refine z_aload_n hG dX12_lineFailed_62 rfl 1 rfl ?_
    refine z_callv hG (z_runV (As := []) (st := []) hG k_X12_114 (MX12_lineDone l h0 hw) ⟨(Nat.le_of_ble_eq_true rfl), (Nat.le_of_ble_eq_true rfl)⟩ h0 (T := TX12) (N := 23) rfl (by decide) rfl (Nat.le_of_ble_eq_true rfl) dX12_lineFailed_63 ⟨Nat.zero_le _, Nat.zero_le _⟩ rfl) (fun σ12 hw => ?_)
    exact z_vret hG rfl dX12_lineFailed_66 hw
  · have hw := hw.2 c20
    refine z_aload_n hG dX12_lineFailed_32 rfl 1 rfl ?_
    obtain ⟨j13, ej13, hw⟩ := hw
    refine z_getr (kq := 20) hG f_X12_7 h0 rfl ej13 rfl (by decide) dX12_lineFailed_33 (fun hj13 => ?_)
    refine z_bipush (v := 10) hG dX12_lineFailed_36 (by decide) ?_
    refine z_dup2 hG dX12_lineFailed_38 rfl rfl ?_
    obtain ⟨q14, hw⟩ := hw
    refine z_iald hG hj13 q14 dX12_lineFailed_39 ?_
    refine z_iconst (v := 1) hG dX12_lineFailed_40 (by decide) ?_
    refine z_iadd hG dX12_lineFailed_41 ?_
    refine z_topi (fun x15 ex15 => ?_)
    have hw := hw x15 ex15
    obtain ⟨q16, hw⟩ := hw
    refine z_iast hG hj13 q16 dX12_lineFailed_42 ?_
    refine z_topσ (fun σ17 eσ17 => ?_)
    have hw := hw σ17 eσ17
    refine z_aload_n hG dX12_lineFailed_43 rfl 1 rfl ?_
    refine z_callv hG (z_runV (As := []) (st := []) hG k_X12_105 (MX12_begins l h0 hw) ⟨(Nat.le_of_ble_eq_true rfl), (Nat.le_of_ble_eq_true rfl)⟩ h0 (T := TX12) (N := 23) rfl (by decide) rfl (Nat.le_of_ble_eq_true rfl) dX12_lineFailed_44 ⟨Nat.zero_le _, Nat.zero_le _⟩ rfl) (fun σ18 hw => ?_)
    refine z_aload_n hG dX12_lineFailed_47 rfl 1 rfl ?_
    refine z_iconst (v := 3) hG dX12_lineFailed_48 (by decide) ?_
    refine z_iload_n hG dX12_lineFailed_49 rfl 0 rfl ?_
    refine z_callv hG (z_runV (As := [.int 3, .int x6]) (st := []) hG k_X12_111 (MX12_notes l h0 hw) ⟨(Nat.le_of_ble_eq_true rfl), (Nat.le_of_ble_eq_true rfl)⟩ h0 (T := TX12) (N := 23) rfl (by decide) rfl (Nat.le_of_ble_eq_true rfl) dX12_lineFailed_50 ⟨Nat.zero_le _, Nat.zero_le _⟩ rfl) (fun σ19 hw => ?_)
    refine z_goto (tgt := 66) hG dX12_lineFailed_53 (by decide) ?_
    exact z_vret hG rfl dX12_lineFailed_66 hw
-- TypeWheelTelegraphModel.receives(II)V
def wX12_receives (ln : Nat → Nat) (σ : zS) (t0 : Nat) (v1 : Int32) (v2 : Int32) (Q : zS → Prop) : Prop := ∃ j1 : Nat, gr σ t0 1 = some j1 ∧ ∀ x2 : Int32, x2 = 29 + v1 → vp_in x2 (ln j1) ∧ (((gi σ j1 x2.toNatClampNeg) = 1000 → Q σ) ∧ (¬ (gi σ j1 x2.toNatClampNeg) = 1000 → ∃ j4 : Nat, gr σ t0 1 = some j4 ∧ ∃ j5 : Nat, gr σ t0 1 = some j5 ∧ ∀ x6 : Int32, x6 = 29 + v1 → vp_in x6 (ln j5) ∧ ∀ x8 : Int32, x8 = (963 + (1000 * v1)) + (gi σ j5 x6.toNatClampNeg) → vp_in x8 (ln j4) ∧ ∀ σ10 : zS, σ10 = si σ j4 x8.toNatClampNeg v2 → ∃ j11 : Nat, gr σ10 t0 1 = some j11 ∧ ∀ x12 : Int32, x12 = 29 + v1 → vp_in x12 (ln j11) ∧ ∀ x14 : Int32, x14 = (gi σ10 j11 x12.toNatClampNeg) + 1 → vp_in x12 (ln j11) ∧ ∀ σ16 : zS, σ16 = si σ10 j11 x12.toNatClampNeg x14 → Q σ16))
abbrev rX12_receives : Room := { frames := 0, cells := 0, slots := 0, locals := 0 }
set_option maxRecDepth 100000 in
set_option maxHeartbeats 4000000 in
theorem MX12_receives (l : Launch) {E : zE} {Y : zY} {σ : zS} {t0 : Nat} {v1 : Int32} {v2 : Int32} (h0 : zT Y 12 t0) {Q : zS → Prop} (hw : wX12_receives (zln Y) σ t0 v1 v2 Q) : ∀ sz, Met l yX12_receives (zw yX12_receives cX12_receives 3 none) rX12_receives (zPc E Y σ sz [.ref (za Y t0), .int v1, .int v2]) (va_Qv Q (zB E Y sz) (zA Y sz)) 0 0 (zA Y sz) := by
  refine z_met (own := RX12) (Qc := fun sz => va_Qv Q (zB E Y sz) (zA Y sz)) (by decide +kernel) rfl (Nat.le_of_ble_eq_true rfl) ?_
  intro p e s m args below meth c hG hinit
  unfold wX12_receives at hw
  refine zlv (lv' := [(0, .ref (za Y t0)), (1, .int v1), (2, .int v2)]) rfl ?_
  refine z_aload_n hG dX12_receives_0 rfl 0 rfl ?_
  obtain ⟨j1, ej1, hw⟩ := hw
  refine z_getr (kq := 20) hG f_X12_7 h0 rfl ej1 rfl (by decide) dX12_receives_1 (fun hj1 => ?_)
  refine z_bipush (v := 29) hG dX12_receives_4 (by decide) ?_
  refine z_iload_n hG dX12_receives_6 rfl 1 rfl ?_
  refine z_iadd hG dX12_receives_7 ?_
  refine z_topi (fun x2 ex2 => ?_)
  have hw := hw x2 ex2
  obtain ⟨q3, hw⟩ := hw
  refine z_iald hG hj1 q3 dX12_receives_8 ?_
  refine z_sipush (v := 1000) hG dX12_receives_9 (by decide) ?_
  refine z_icmp_ne (tgt := 16) hG dX12_receives_12 (by decide) (fun c17 => ?_) (fun c17 => ?_)
  · have hw := hw.2 c17
    refine z_aload_n hG dX12_receives_16 rfl 0 rfl ?_
    obtain ⟨j4, ej4, hw⟩ := hw
    refine z_getr (kq := 20) hG f_X12_7 h0 rfl ej4 rfl (by decide) dX12_receives_17 (fun hj4 => ?_)
    refine z_sipush (v := 963) hG dX12_receives_20 (by decide) ?_
    refine z_sipush (v := 1000) hG dX12_receives_23 (by decide) ?_
    refine z_iload_n hG dX12_receives_26 rfl 1 rfl ?_
    refine z_imul hG dX12_receives_27 ?_
    refine z_iadd hG dX12_receives_28 ?_
    refine z_aload_n hG dX12_receives_29 rfl 0 rfl ?_
    obtain ⟨j5, ej5, hw⟩ := hw
    refine z_getr (kq := 20) hG f_X12_7 h0 rfl ej5 rfl (by decide) dX12_receives_30 (fun hj5 => ?_)
    refine z_bipush (v := 29) hG dX12_receives_33 (by decide) ?_
    refine z_iload_n hG dX12_receives_35 rfl 1 rfl ?_
    refine z_iadd hG dX12_receives_36 ?_
    refine z_topi (fun x6 ex6 => ?_)
    have hw := hw x6 ex6
    obtain ⟨q7, hw⟩ := hw
    refine z_iald hG hj5 q7 dX12_receives_37 ?_
    refine z_iadd hG dX12_receives_38 ?_
    refine z_iload_n hG dX12_receives_39 rfl 2 rfl ?_
    obtain ⟨x8, ex8⟩ : ∃ y : Int32, y = (963 + (1000 * v1)) + (gi σ j5 x6.toNatClampNeg) := ⟨_, rfl⟩
    refine zst (st' := [.int v2, .int x8, .ref (za Y j4)]) (by rw [ex8]) ?_
    have hw := hw x8 ex8
    obtain ⟨q9, hw⟩ := hw
    refine z_iast hG hj4 q9 dX12_receives_40 ?_
    refine z_topσ (fun σ10 eσ10 => ?_)
    have hw := hw σ10 eσ10
    refine z_aload_n hG dX12_receives_41 rfl 0 rfl ?_
    obtain ⟨j11, ej11, hw⟩ := hw
    refine z_getr (kq := 20) hG f_X12_7 h0 rfl ej11 rfl (by decide) dX12_receives_42 (fun hj11 => ?_)
    refine z_bipush (v := 29) hG dX12_receives_45 (by decide) ?_
    refine z_iload_n hG dX12_receives_47 rfl 1 rfl ?_
    refine z_iadd hG dX12_receives_48 ?_
    refine z_topi (fun x12 ex12 => ?_)
    have hw := hw x12 ex12
    refine z_dup2 hG dX12_receives_49 rfl rfl ?_
    obtain ⟨q13, hw⟩ := hw
    refine z_iald hG hj11 q13 dX12_receives_50 ?_
    refine z_iconst (v := 1) hG dX12_receives_51 (by decide) ?_
    refine z_iadd hG dX12_receives_52 ?_
    refine z_topi (fun x14 ex14 => ?_)
    have hw := hw x14 ex14
    obtain ⟨q15, hw⟩ := hw
    refine z_iast hG hj11 q15 dX12_receives_53 ?_
    refine z_topσ (fun σ16 eσ16 => ?_)
    have hw := hw σ16 eσ16
    exact z_vret hG rfl dX12_receives_54 hw
  · have hw := hw.1 c17
    exact z_vret hG rfl dX12_receives_15 hw
-- TypeWheelTelegraphModel.checks(I)V
def wX12_checks_117 (ln : Nat → Nat) (Q : zS → Prop) (t0 : Nat) (tw0 : Nat) (vw1 : Int32) (σ : zS) : Prop := wX12_sends ln σ tw0 vw1 0 (fun σ1 => wX12_clears ln σ1 t0 (fun σ2 => Q σ2))
def wX12_checks_107 (ln : Nat → Nat) (Q : zS → Prop) (t0 : Nat) (v3 : Int32) (σ : zS) : Prop := ((v3 = 0 → wX12_checks_117 ln Q t0 t0 2 σ) ∧ (¬ v3 = 0 → wX12_checks_117 ln Q t0 t0 1 σ))
def wX12_checks_52 (ln : Nat → Nat) (Q : zS → Prop) : Nat → Nat → Int32 → Int32 → Int32 → zS → Prop
  | 0, _, _, _, _, _ => False
  | n + 1, t0, v2, v3, v4, σ => ∃ j1 : Nat, gr σ t0 1 = some j1 ∧ vp_in (11 : Int32) (ln j1) ∧ (((gi σ j1 (11 : Int32).toNatClampNeg) ≤ v4 → wX12_receives ln σ t0 v2 47 (fun σ3 => wX12_checks_107 ln Q t0 v3 σ3)) ∧ (¬ (gi σ j1 (11 : Int32).toNatClampNeg) ≤ v4 → ∃ j4 : Nat, gr σ t0 1 = some j4 ∧ ∀ x5 : Int32, x5 = 59 + v4 → vp_in x5 (ln j4) ∧ ∀ x7 : Int32, x7 = gi σ j4 x5.toNatClampNeg → wX12_receives ln σ t0 v2 x7 (fun σ8 => ∀ x9 : Int32, x9 = v4 + 1 → (wX12_checks_52 ln Q n) t0 v2 v3 x9 σ8)))
def wX12_checks_32 (ln : Nat → Nat) (Q : zS → Prop) (t0 : Nat) (v2 : Int32) (vw0 : Int32) (σ : zS) : Prop := ((vw0 = 0 → ∃ j1 : Nat, gr σ t0 1 = some j1 ∧ vp_in (12 : Int32) (ln j1) ∧ ∀ x3 : Int32, x3 = gi σ j1 (12 : Int32).toNatClampNeg → wX12_notes ln σ t0 2 x3 (fun σ4 => wX12_checks_107 ln Q t0 vw0 σ4)) ∧ (¬ vw0 = 0 → ∃ j5 : Nat, gr σ t0 1 = some j5 ∧ vp_in (11 : Int32) (ln j5) ∧ ∀ x7 : Int32, x7 = gi σ j5 (11 : Int32).toNatClampNeg → wX12_notes ln σ t0 1 x7 (fun σ8 => ∃ n9 : Nat, wX12_checks_52 ln Q n9 t0 v2 vw0 0 σ8)))
def wX12_checks (ln : Nat → Nat) (σ : zS) (t0 : Nat) (v1 : Int32) (Q : zS → Prop) : Prop := wX12_receiver ln σ t0 (fun r2 σ1 => ∃ j3 : Nat, gr σ1 t0 1 = some j3 ∧ vp_in (12 : Int32) (ln j3) ∧ ∃ j5 : Nat, gr σ1 t0 1 = some j5 ∧ vp_in (0 : Int32) (ln j5) ∧ ∀ x7 : Int32, x7 = (gi σ1 j5 (0 : Int32).toNatClampNeg) - 2 → ∀ x8 : Int32, x8 = gi σ1 j3 (12 : Int32).toNatClampNeg → ¬ x7 = 0 ∧ ((v1 = (2 + (x8 - x8 / x7 * x7)) → wX12_checks_32 ln Q t0 r2 1 σ1) ∧ (¬ v1 = (2 + (x8 - x8 / x7 * x7)) → wX12_checks_32 ln Q t0 r2 0 σ1)))
abbrev rX12_checks : Room := { frames := 1, cells := 0, slots := 0, locals := 23 }
set_option maxRecDepth 100000 in
set_option maxHeartbeats 4000000 in
theorem BX12_checks_117 {l : Launch} {E : zE} {Y : zY} {p : Program} {e : Env} {s : State} {m : MethodId} {args : Array Value} {below : List Frame} {meth : Method} {c : Code} (hG : zG E p l s m args meth c cX12_checks 5 RX12 none (zA Y s.heap.size)) {Q : zS → Prop} : ∀ (t0 : Nat) (tw0 : Nat) (vw1 : Int32) (σ : zS), wX12_checks_117 (zln Y) Q t0 tw0 vw1 σ → zT Y 12 t0 → zT Y 12 tw0 → WW E Y σ p l e rX12_checks s m args below meth c (zA Y s.heap.size) 5 0 0 (MQ below (va_Qv Q (zB E Y s.heap.size) (zA Y s.heap.size)) args s 0 0 (zA Y s.heap.size)) [(0, .ref (za Y t0))] 117 [.int vw1, .ref (za Y tw0)] := by
  intro t0 tw0 vw1 σ hw h0 hw0
  unfold wX12_checks_117 at hw
  refine z_iconst (v := 0) hG dX12_checks_117 (by decide) ?_
  refine z_callv hG (z_runV (As := [.int vw1, .int 0]) (st := []) hG k_X12_123 (MX12_sends l hw0 hw) ⟨(Nat.le_of_ble_eq_true rfl), (Nat.le_of_ble_eq_true rfl)⟩ hw0 (T := TX12) (N := 23) rfl (by decide) rfl (Nat.le_of_ble_eq_true rfl) dX12_checks_118 ⟨Nat.zero_le _, Nat.zero_le _⟩ rfl) (fun σ1 hw => ?_)
  refine z_aload_n hG dX12_checks_121 rfl 0 rfl ?_
  refine z_callv hG (z_runV (As := []) (st := []) hG k_X12_102 (MX12_clears l h0 hw) ⟨(Nat.le_of_ble_eq_true rfl), (Nat.le_of_ble_eq_true rfl)⟩ h0 (T := TX12) (N := 23) rfl (by decide) rfl (Nat.le_of_ble_eq_true rfl) dX12_checks_122 ⟨Nat.zero_le _, Nat.zero_le _⟩ rfl) (fun σ2 hw => ?_)
  exact z_vret hG rfl dX12_checks_125 hw
set_option maxRecDepth 100000 in
set_option maxHeartbeats 4000000 in
theorem BX12_checks_107 {l : Launch} {E : zE} {Y : zY} {p : Program} {e : Env} {s : State} {m : MethodId} {args : Array Value} {below : List Frame} {meth : Method} {c : Code} (hG : zG E p l s m args meth c cX12_checks 5 RX12 none (zA Y s.heap.size)) {Q : zS → Prop} : ∀ (t0 : Nat) (v3 : Int32) (σ : zS), wX12_checks_107 (zln Y) Q t0 v3 σ → zT Y 12 t0 → WW E Y σ p l e rX12_checks s m args below meth c (zA Y s.heap.size) 5 0 0 (MQ below (va_Qv Q (zB E Y s.heap.size) (zA Y s.heap.size)) args s 0 0 (zA Y s.heap.size)) [(0, .ref (za Y t0)), (3, .int v3)] 107 [] := by
  intro t0 v3 σ hw h0
  unfold wX12_checks_107 at hw
  refine z_aload_n hG dX12_checks_107 rfl 0 rfl ?_
  refine z_iload_n hG dX12_checks_108 rfl 1 rfl ?_
  refine z_if_eq (tgt := 116) hG dX12_checks_109 (by decide) (fun c1 => ?_) (fun c1 => ?_)
  · have hw := hw.1 c1
    refine z_iconst (v := 2) hG dX12_checks_116 (by decide) ?_
    refine zpick [0] (lv' := [(0, .ref (za Y t0))]) rfl ?_
    exact BX12_checks_117 hG t0 t0 2 σ hw h0 h0
  · have hw := hw.2 c1
    refine z_iconst (v := 1) hG dX12_checks_112 (by decide) ?_
    refine z_goto (tgt := 117) hG dX12_checks_113 (by decide) ?_
    refine zpick [0] (lv' := [(0, .ref (za Y t0))]) rfl ?_
    exact BX12_checks_117 hG t0 t0 1 σ hw h0 h0
set_option maxRecDepth 100000 in
set_option maxHeartbeats 4000000 in
theorem BX12_checks_52 {l : Launch} {E : zE} {Y : zY} {p : Program} {e : Env} {s : State} {m : MethodId} {args : Array Value} {below : List Frame} {meth : Method} {c : Code} (hG : zG E p l s m args meth c cX12_checks 5 RX12 none (zA Y s.heap.size)) {Q : zS → Prop} : ∀ (n : Nat) (t0 : Nat) (v2 : Int32) (v3 : Int32) (v4 : Int32) (σ : zS), wX12_checks_52 (zln Y) Q n t0 v2 v3 v4 σ → zT Y 12 t0 → WW E Y σ p l e rX12_checks s m args below meth c (zA Y s.heap.size) 5 0 0 (MQ below (va_Qv Q (zB E Y s.heap.size) (zA Y s.heap.size)) args s 0 0 (zA Y s.heap.size)) [(0, .ref (za Y t0)), (2, .int v2), (3, .int v3), (4, .int v4)] 52 [] := by
  intro n
  induction n with
  | zero => intro t0 v2 v3 v4 σ hw
            exact hw.elim
  | succ n ih =>
    intro t0 v2 v3 v4 σ hw h0
    rw [wX12_checks_52] at hw
    refine z_iload hG dX12_checks_52 3 rfl ?_
    refine z_aload_n hG dX12_checks_54 rfl 0 rfl ?_
    obtain ⟨j1, ej1, hw⟩ := hw
    refine z_getr (kq := 20) hG f_X12_7 h0 rfl ej1 rfl (by decide) dX12_checks_55 (fun hj1 => ?_)
    refine z_bipush (v := 11) hG dX12_checks_58 (by decide) ?_
    obtain ⟨q2, hw⟩ := hw
    refine z_iald hG hj1 q2 dX12_checks_60 ?_
    refine z_icmp_ge (tgt := 85) hG dX12_checks_61 (by decide) (fun c10 => ?_) (fun c10 => ?_)
    · have hw := hw.1 c10
      refine z_aload_n hG dX12_checks_85 rfl 0 rfl ?_
      refine z_iload_n hG dX12_checks_86 rfl 1 rfl ?_
      refine z_bipush (v := 47) hG dX12_checks_87 (by decide) ?_
      refine z_callv hG (z_runV (As := [.int v2, .int 47]) (st := []) hG k_X12_120 (MX12_receives l h0 hw) ⟨(Nat.le_of_ble_eq_true rfl), (Nat.le_of_ble_eq_true rfl)⟩ h0 (T := TX12) (N := 23) rfl (by decide) rfl (Nat.le_of_ble_eq_true rfl) dX12_checks_89 ⟨Nat.zero_le _, Nat.zero_le _⟩ rfl) (fun σ3 hw => ?_)
      refine z_goto (tgt := 107) hG dX12_checks_92 (by decide) ?_
      refine zpick [0, 2] (lv' := [(0, .ref (za Y t0)), (3, .int v3)]) rfl ?_
      exact BX12_checks_107 hG t0 v3 σ3 hw h0
    · have hw := hw.2 c10
      refine z_aload_n hG dX12_checks_64 rfl 0 rfl ?_
      refine z_iload_n hG dX12_checks_65 rfl 1 rfl ?_
      refine z_aload_n hG dX12_checks_66 rfl 0 rfl ?_
      obtain ⟨j4, ej4, hw⟩ := hw
      refine z_getr (kq := 20) hG f_X12_7 h0 rfl ej4 rfl (by decide) dX12_checks_67 (fun hj4 => ?_)
      refine z_bipush (v := 59) hG dX12_checks_70 (by decide) ?_
      refine z_iload hG dX12_checks_72 3 rfl ?_
      refine z_iadd hG dX12_checks_74 ?_
      refine z_topi (fun x5 ex5 => ?_)
      have hw := hw x5 ex5
      obtain ⟨q6, hw⟩ := hw
      refine z_iald hG hj4 q6 dX12_checks_75 ?_
      refine z_topi (fun x7 ex7 => ?_)
      have hw := hw x7 ex7
      refine z_callv hG (z_runV (As := [.int v2, .int x7]) (st := []) hG k_X12_120 (MX12_receives l h0 hw) ⟨(Nat.le_of_ble_eq_true rfl), (Nat.le_of_ble_eq_true rfl)⟩ h0 (T := TX12) (N := 23) rfl (by decide) rfl (Nat.le_of_ble_eq_true rfl) dX12_checks_76 ⟨Nat.zero_le _, Nat.zero_le _⟩ rfl) (fun σ8 hw => ?_)
      obtain ⟨x9, ex9⟩ : ∃ y : Int32, y = v4 + 1 := ⟨_, rfl⟩
      have hw := hw x9 ex9
      refine z_iinc (v := x9) (lv' := [(4, .int x9), (0, .ref (za Y t0)), (2, .int v2), (3, .int v3)]) hG dX12_checks_79 3 rfl (by rw [ex9]; rfl) (by decide) rfl ?_
      refine z_goto (tgt := 52) hG dX12_checks_82 (by decide) ?_
      refine zpick [1, 2, 3, 0] (lv' := [(0, .ref (za Y t0)), (2, .int v2), (3, .int v3), (4, .int x9)]) rfl ?_
      exact ih t0 v2 v3 x9 σ8 hw h0
set_option maxRecDepth 100000 in
set_option maxHeartbeats 4000000 in
theorem BX12_checks_32 {l : Launch} {E : zE} {Y : zY} {p : Program} {e : Env} {s : State} {m : MethodId} {args : Array Value} {below : List Frame} {meth : Method} {c : Code} (hG : zG E p l s m args meth c cX12_checks 5 RX12 none (zA Y s.heap.size)) {Q : zS → Prop} : ∀ (t0 : Nat) (v2 : Int32) (vw0 : Int32) (σ : zS), wX12_checks_32 (zln Y) Q t0 v2 vw0 σ → zT Y 12 t0 → WW E Y σ p l e rX12_checks s m args below meth c (zA Y s.heap.size) 5 0 0 (MQ below (va_Qv Q (zB E Y s.heap.size) (zA Y s.heap.size)) args s 0 0 (zA Y s.heap.size)) [(0, .ref (za Y t0)), (2, .int v2)] 32 [.int vw0] := by
  intro t0 v2 vw0 σ hw h0
  unfold wX12_checks_32 at hw
  refine z_istore_n (lv' := [(3, .int vw0), (0, .ref (za Y t0)), (2, .int v2)]) hG dX12_checks_32 rfl (by decide) rfl ?_
  refine z_iload_n hG dX12_checks_33 rfl 0 rfl ?_
  refine z_if_eq (tgt := 95) hG dX12_checks_34 (by decide) (fun c10 => ?_) (fun c10 => ?_)
  · have hw := hw.1 c10
    refine z_aload_n hG dX12_checks_95 rfl 1 rfl ?_
    refine z_iconst (v := 2) hG dX12_checks_96 (by decide) ?_
    refine z_aload_n hG dX12_checks_97 rfl 1 rfl ?_
    obtain ⟨j1, ej1, hw⟩ := hw
    refine z_getr (kq := 20) hG f_X12_7 h0 rfl ej1 rfl (by decide) dX12_checks_98 (fun hj1 => ?_)
    refine z_bipush (v := 12) hG dX12_checks_101 (by decide) ?_
    obtain ⟨q2, hw⟩ := hw
    refine z_iald hG hj1 q2 dX12_checks_103 ?_
    refine z_topi (fun x3 ex3 => ?_)
    have hw := hw x3 ex3
    refine z_callv hG (z_runV (As := [.int 2, .int x3]) (st := []) hG k_X12_111 (MX12_notes l h0 hw) ⟨(Nat.le_of_ble_eq_true rfl), (Nat.le_of_ble_eq_true rfl)⟩ h0 (T := TX12) (N := 23) rfl (by decide) rfl (Nat.le_of_ble_eq_true rfl) dX12_checks_104 ⟨Nat.zero_le _, Nat.zero_le _⟩ rfl) (fun σ4 hw => ?_)
    refine zpick [1, 0] (lv' := [(0, .ref (za Y t0)), (3, .int vw0)]) rfl ?_
    exact BX12_checks_107 hG t0 vw0 σ4 hw h0
  · have hw := hw.2 c10
    refine z_aload_n hG dX12_checks_37 rfl 1 rfl ?_
    refine z_iconst (v := 1) hG dX12_checks_38 (by decide) ?_
    refine z_aload_n hG dX12_checks_39 rfl 1 rfl ?_
    obtain ⟨j5, ej5, hw⟩ := hw
    refine z_getr (kq := 20) hG f_X12_7 h0 rfl ej5 rfl (by decide) dX12_checks_40 (fun hj5 => ?_)
    refine z_bipush (v := 11) hG dX12_checks_43 (by decide) ?_
    obtain ⟨q6, hw⟩ := hw
    refine z_iald hG hj5 q6 dX12_checks_45 ?_
    refine z_topi (fun x7 ex7 => ?_)
    have hw := hw x7 ex7
    refine z_callv hG (z_runV (As := [.int 1, .int x7]) (st := []) hG k_X12_111 (MX12_notes l h0 hw) ⟨(Nat.le_of_ble_eq_true rfl), (Nat.le_of_ble_eq_true rfl)⟩ h0 (T := TX12) (N := 23) rfl (by decide) rfl (Nat.le_of_ble_eq_true rfl) dX12_checks_46 ⟨Nat.zero_le _, Nat.zero_le _⟩ rfl) (fun σ8 hw => ?_)
    refine z_iconst (v := 0) hG dX12_checks_49 (by decide) ?_
    refine z_istore (lv' := [(4, .int 0), (3, .int vw0), (0, .ref (za Y t0)), (2, .int v2)]) hG dX12_checks_50 (by decide) rfl ?_
    obtain ⟨n9, hw⟩ := hw
    refine zpick [2, 3, 1, 0] (lv' := [(0, .ref (za Y t0)), (2, .int v2), (3, .int vw0), (4, .int 0)]) rfl ?_
    exact BX12_checks_52 hG n9 t0 v2 vw0 0 σ8 hw h0
set_option maxRecDepth 100000 in
set_option maxHeartbeats 4000000 in
theorem MX12_checks (l : Launch) {E : zE} {Y : zY} {σ : zS} {t0 : Nat} {v1 : Int32} (h0 : zT Y 12 t0) {Q : zS → Prop} (hw : wX12_checks (zln Y) σ t0 v1 Q) : ∀ sz, Met l yX12_checks (zw yX12_checks cX12_checks 5 none) rX12_checks (zPc E Y σ sz [.ref (za Y t0), .int v1]) (va_Qv Q (zB E Y sz) (zA Y sz)) 0 0 (zA Y sz) := by
  refine z_met (own := RX12) (Qc := fun sz => va_Qv Q (zB E Y sz) (zA Y sz)) (by decide +kernel) rfl (Nat.le_of_ble_eq_true rfl) ?_
  intro p e s m args below meth c hG hinit
  unfold wX12_checks at hw
  refine zlv (lv' := [(0, .ref (za Y t0)), (1, .int v1)]) rfl ?_
  refine z_aload_n hG dX12_checks_0 rfl 0 rfl ?_
  refine z_calli hG (z_runV (As := []) (st := []) hG k_X12_117 (MX12_receiver l h0 hw) ⟨(Nat.le_of_ble_eq_true rfl), (Nat.le_of_ble_eq_true rfl)⟩ h0 (T := TX12) (N := 23) rfl (by decide) rfl (Nat.le_of_ble_eq_true rfl) dX12_checks_1 ⟨Nat.zero_le _, Nat.zero_le _⟩ rfl) (fun r2 σ1 hw => ?_)
  refine z_istore_n (lv' := [(2, .int r2), (0, .ref (za Y t0)), (1, .int v1)]) hG dX12_checks_4 rfl (by decide) rfl ?_
  refine z_iload_n hG dX12_checks_5 rfl 2 rfl ?_
  refine z_iconst (v := 2) hG dX12_checks_6 (by decide) ?_
  refine z_aload_n hG dX12_checks_7 rfl 1 rfl ?_
  obtain ⟨j3, ej3, hw⟩ := hw
  refine z_getr (kq := 20) hG f_X12_7 h0 rfl ej3 rfl (by decide) dX12_checks_8 (fun hj3 => ?_)
  refine z_bipush (v := 12) hG dX12_checks_11 (by decide) ?_
  obtain ⟨q4, hw⟩ := hw
  refine z_iald hG hj3 q4 dX12_checks_13 ?_
  refine z_aload_n hG dX12_checks_14 rfl 1 rfl ?_
  obtain ⟨j5, ej5, hw⟩ := hw
  refine z_getr (kq := 20) hG f_X12_7 h0 rfl ej5 rfl (by decide) dX12_checks_15 (fun hj5 => ?_)
  refine z_iconst (v := 0) hG dX12_checks_18 (by decide) ?_
  obtain ⟨q6, hw⟩ := hw
  refine z_iald hG hj5 q6 dX12_checks_19 ?_
  refine z_iconst (v := 2) hG dX12_checks_20 (by decide) ?_
  refine z_isub hG dX12_checks_21 ?_
  refine z_topi (fun x7 ex7 => ?_)
  have hw := hw x7 ex7
  obtain ⟨x8, ex8⟩ : ∃ y : Int32, y = gi σ1 j3 (12 : Int32).toNatClampNeg := ⟨_, rfl⟩
  refine zst (st' := [.int x7, .int x8, .int 2, .int v1]) (by rw [ex8]) ?_
  have hw := hw x8 ex8
  obtain ⟨q9, hw⟩ := hw
  refine z_irem hG dX12_checks_22 q9 ?_
  refine z_iadd hG dX12_checks_23 ?_
  refine z_icmp_ne (tgt := 31) hG dX12_checks_24 (by decide) (fun c10 => ?_) (fun c10 => ?_)
  · have hw := hw.2 c10
    refine z_iconst (v := 0) hG dX12_checks_31 (by decide) ?_
    refine zpick [1, 0] (lv' := [(0, .ref (za Y t0)), (2, .int r2)]) rfl ?_
    exact BX12_checks_32 hG t0 r2 0 σ1 hw h0
  · have hw := hw.1 c10
    refine z_iconst (v := 1) hG dX12_checks_27 (by decide) ?_
    refine z_goto (tgt := 32) hG dX12_checks_28 (by decide) ?_
    refine zpick [1, 0] (lv' := [(0, .ref (za Y t0)), (2, .int r2)]) rfl ?_
    exact BX12_checks_32 hG t0 r2 1 σ1 hw h0
-- TypeWheelTelegraphModel.answers(Z)V
def wX12_answers (ln : Nat → Nat) (σ : zS) (t0 : Nat) (v1 : Int32) (Q : zS → Prop) : Prop := ∃ j1 : Nat, gr σ t0 1 = some j1 ∧ vp_in (7 : Int32) (ln j1) ∧ (((gi σ j1 (7 : Int32).toNatClampNeg) = 0 → Q σ) ∧ (¬ (gi σ j1 (7 : Int32).toNatClampNeg) = 0 → ((v1 = 0 → wX12_lineFailed ln σ t0 (fun σ3 => Q σ3)) ∧ (¬ v1 = 0 → wX12_lineDone ln σ t0 (fun σ4 => Q σ4)))))
abbrev rX12_answers : Room := { frames := 4, cells := 0, slots := 0, locals := 82 }
set_option maxRecDepth 100000 in
set_option maxHeartbeats 4000000 in
theorem MX12_answers (l : Launch) {E : zE} {Y : zY} {σ : zS} {t0 : Nat} {v1 : Int32} (h0 : zT Y 12 t0) {Q : zS → Prop} (hw : wX12_answers (zln Y) σ t0 v1 Q) : ∀ sz, Met l yX12_answers (zw yX12_answers cX12_answers 2 none) rX12_answers (zPc E Y σ sz [.ref (za Y t0), .int v1]) (va_Qv Q (zB E Y sz) (zA Y sz)) 0 0 (zA Y sz) := by
  refine z_met (own := RX12) (Qc := fun sz => va_Qv Q (zB E Y sz) (zA Y sz)) (by decide +kernel) rfl (Nat.le_of_ble_eq_true rfl) ?_
  intro p e s m args below meth c hG hinit
  unfold wX12_answers at hw
  refine zlv (lv' := [(0, .ref (za Y t0)), (1, .int v1)]) rfl ?_
  refine z_aload_n hG dX12_answers_0 rfl 0 rfl ?_
  obtain ⟨j1, ej1, hw⟩ := hw
  refine z_getr (kq := 20) hG f_X12_7 h0 rfl ej1 rfl (by decide) dX12_answers_1 (fun hj1 => ?_)
  refine z_bipush (v := 7) hG dX12_answers_4 (by decide) ?_
  obtain ⟨q2, hw⟩ := hw
  refine z_iald hG hj1 q2 dX12_answers_6 ?_
  refine z_if_ne (tgt := 11) hG dX12_answers_7 (by decide) (fun c6 => ?_) (fun c6 => ?_)
  · have hw := hw.2 c6
    refine z_iload_n hG dX12_answers_11 rfl 1 rfl ?_
    refine z_if_eq (tgt := 22) hG dX12_answers_12 (by decide) (fun c5 => ?_) (fun c5 => ?_)
    · have hw := hw.1 c5
      refine z_aload_n hG dX12_answers_22 rfl 0 rfl ?_
      refine z_callv hG (z_runV (As := []) (st := []) hG k_X12_145 (MX12_lineFailed l h0 hw) ⟨(Nat.le_of_ble_eq_true rfl), (Nat.le_of_ble_eq_true rfl)⟩ h0 (T := TX12) (N := 23) rfl (by decide) rfl (Nat.le_of_ble_eq_true rfl) dX12_answers_23 ⟨Nat.zero_le _, Nat.zero_le _⟩ rfl) (fun σ3 hw => ?_)
      exact z_vret hG rfl dX12_answers_26 hw
    · have hw := hw.2 c5
      refine z_aload_n hG dX12_answers_15 rfl 0 rfl ?_
      refine z_callv hG (z_runV (As := []) (st := []) hG k_X12_114 (MX12_lineDone l h0 hw) ⟨(Nat.le_of_ble_eq_true rfl), (Nat.le_of_ble_eq_true rfl)⟩ h0 (T := TX12) (N := 23) rfl (by decide) rfl (Nat.le_of_ble_eq_true rfl) dX12_answers_16 ⟨Nat.zero_le _, Nat.zero_le _⟩ rfl) (fun σ4 hw => ?_)
      refine z_goto (tgt := 26) hG dX12_answers_19 (by decide) ?_
      exact z_vret hG rfl dX12_answers_26 hw
  · have hw := hw.1 c6
    exact z_vret hG rfl dX12_answers_10 hw
-- TypeWheelTelegraphModel.breaks()V
def wX12_breaks (ln : Nat → Nat) (σ : zS) (t0 : Nat) (Q : zS → Prop) : Prop := ∃ j1 : Nat, gr σ t0 1 = some j1 ∧ ∃ j2 : Nat, gr σ t0 1 = some j2 ∧ vp_in (6 : Int32) (ln j2) ∧ ∀ x4 : Int32, x4 = 27 + (gi σ j2 (6 : Int32).toNatClampNeg) → vp_in x4 (ln j1) ∧ ∀ x6 : Int32, x6 = gi σ j1 x4.toNatClampNeg → wX12_ends ln σ t0 (fun σ7 => wX12_notes ln σ7 t0 5 x6 (fun σ8 => Q σ8))
abbrev rX12_breaks : Room := { frames := 2, cells := 0, slots := 0, locals := 40 }
set_option maxRecDepth 100000 in
set_option maxHeartbeats 4000000 in
theorem MX12_breaks (l : Launch) {E : zE} {Y : zY} {σ : zS} {t0 : Nat} (h0 : zT Y 12 t0) {Q : zS → Prop} (hw : wX12_breaks (zln Y) σ t0 Q) : ∀ sz, Met l yX12_breaks (zw yX12_breaks cX12_breaks 2 none) rX12_breaks (zPc E Y σ sz [.ref (za Y t0)]) (va_Qv Q (zB E Y sz) (zA Y sz)) 0 0 (zA Y sz) := by
  refine z_met (own := RX12) (Qc := fun sz => va_Qv Q (zB E Y sz) (zA Y sz)) (by decide +kernel) rfl (Nat.le_of_ble_eq_true rfl) ?_
  intro p e s m args below meth c hG hinit
  unfold wX12_breaks at hw
  refine zlv (lv' := [(0, .ref (za Y t0))]) rfl ?_
  refine z_aload_n hG dX12_breaks_0 rfl 0 rfl ?_
  obtain ⟨j1, ej1, hw⟩ := hw
  refine z_getr (kq := 20) hG f_X12_7 h0 rfl ej1 rfl (by decide) dX12_breaks_1 (fun hj1 => ?_)
  refine z_bipush (v := 27) hG dX12_breaks_4 (by decide) ?_
  refine z_aload_n hG dX12_breaks_6 rfl 0 rfl ?_
  obtain ⟨j2, ej2, hw⟩ := hw
  refine z_getr (kq := 20) hG f_X12_7 h0 rfl ej2 rfl (by decide) dX12_breaks_7 (fun hj2 => ?_)
  refine z_bipush (v := 6) hG dX12_breaks_10 (by decide) ?_
  obtain ⟨q3, hw⟩ := hw
  refine z_iald hG hj2 q3 dX12_breaks_12 ?_
  refine z_iadd hG dX12_breaks_13 ?_
  refine z_topi (fun x4 ex4 => ?_)
  have hw := hw x4 ex4
  obtain ⟨q5, hw⟩ := hw
  refine z_iald hG hj1 q5 dX12_breaks_14 ?_
  refine z_topi (fun x6 ex6 => ?_)
  have hw := hw x6 ex6
  refine z_istore_n (lv' := [(1, .int x6), (0, .ref (za Y t0))]) hG dX12_breaks_15 rfl (by decide) rfl ?_
  refine z_aload_n hG dX12_breaks_16 rfl 1 rfl ?_
  refine z_callv hG (z_runV (As := []) (st := []) hG k_X12_108 (MX12_ends l h0 hw) ⟨(Nat.le_of_ble_eq_true rfl), (Nat.le_of_ble_eq_true rfl)⟩ h0 (T := TX12) (N := 23) rfl (by decide) rfl (Nat.le_of_ble_eq_true rfl) dX12_breaks_17 ⟨Nat.zero_le _, Nat.zero_le _⟩ rfl) (fun σ7 hw => ?_)
  refine z_aload_n hG dX12_breaks_20 rfl 1 rfl ?_
  refine z_iconst (v := 5) hG dX12_breaks_21 (by decide) ?_
  refine z_iload_n hG dX12_breaks_22 rfl 0 rfl ?_
  refine z_callv hG (z_runV (As := [.int 5, .int x6]) (st := []) hG k_X12_111 (MX12_notes l h0 hw) ⟨(Nat.le_of_ble_eq_true rfl), (Nat.le_of_ble_eq_true rfl)⟩ h0 (T := TX12) (N := 23) rfl (by decide) rfl (Nat.le_of_ble_eq_true rfl) dX12_breaks_23 ⟨Nat.zero_le _, Nat.zero_le _⟩ rfl) (fun σ8 hw => ?_)
  exact z_vret hG rfl dX12_breaks_26 hw
-- TypeWheelTelegraphModel.isLost(I)Z
def wX12_isLost_2 (ln : Nat → Nat) (Q : Int32 → zS → Prop) : Nat → Nat → Int32 → Int32 → zS → Prop
  | 0, _, _, _, _ => False
  | n + 1, t0, v1, v2, σ => ∃ j1 : Nat, gr σ t0 1 = some j1 ∧ vp_in (20 : Int32) (ln j1) ∧ (((gi σ j1 (20 : Int32).toNatClampNeg) ≤ v2 → Q 0 σ) ∧ (¬ (gi σ j1 (20 : Int32).toNatClampNeg) ≤ v2 → ∃ j3 : Nat, gr σ t0 1 = some j3 ∧ ∀ x4 : Int32, x4 = 39 + v2 → vp_in x4 (ln j3) ∧ (((gi σ j3 x4.toNatClampNeg) = v1 → Q 1 σ) ∧ (¬ (gi σ j3 x4.toNatClampNeg) = v1 → ∀ x6 : Int32, x6 = v2 + 1 → (wX12_isLost_2 ln Q n) t0 v1 x6 σ))))
def wX12_isLost (ln : Nat → Nat) (σ : zS) (t0 : Nat) (v1 : Int32) (Q : Int32 → zS → Prop) : Prop := ∃ n1 : Nat, wX12_isLost_2 ln Q n1 t0 v1 0 σ
abbrev rX12_isLost : Room := { frames := 0, cells := 0, slots := 0, locals := 0 }
set_option maxRecDepth 100000 in
set_option maxHeartbeats 4000000 in
theorem BX12_isLost_2 {l : Launch} {E : zE} {Y : zY} {p : Program} {e : Env} {s : State} {m : MethodId} {args : Array Value} {below : List Frame} {meth : Method} {c : Code} (hG : zG E p l s m args meth c cX12_isLost 3 RX12 (some .boolean) (zA Y s.heap.size)) {Q : Int32 → zS → Prop} : ∀ (n : Nat) (t0 : Nat) (v1 : Int32) (v2 : Int32) (σ : zS), wX12_isLost_2 (zln Y) Q n t0 v1 v2 σ → zT Y 12 t0 → WW E Y σ p l e rX12_isLost s m args below meth c (zA Y s.heap.size) 3 0 0 (MQ below (va_Qi Q (zB E Y s.heap.size) (zA Y s.heap.size)) args s 0 0 (zA Y s.heap.size)) [(0, .ref (za Y t0)), (1, .int v1), (2, .int v2)] 2 [] := by
  intro n
  induction n with
  | zero => intro t0 v1 v2 σ hw
            exact hw.elim
  | succ n ih =>
    intro t0 v1 v2 σ hw h0
    rw [wX12_isLost_2] at hw
    refine z_iload_n hG dX12_isLost_2 rfl 2 rfl ?_
    refine z_aload_n hG dX12_isLost_3 rfl 0 rfl ?_
    obtain ⟨j1, ej1, hw⟩ := hw
    refine z_getr (kq := 20) hG f_X12_7 h0 rfl ej1 rfl (by decide) dX12_isLost_4 (fun hj1 => ?_)
    refine z_bipush (v := 20) hG dX12_isLost_7 (by decide) ?_
    obtain ⟨q2, hw⟩ := hw
    refine z_iald hG hj1 q2 dX12_isLost_9 ?_
    refine z_icmp_ge (tgt := 34) hG dX12_isLost_10 (by decide) (fun c8 => ?_) (fun c8 => ?_)
    · have hw := hw.1 c8
      refine z_iconst (v := 0) hG dX12_isLost_34 (by decide) ?_
      exact z_iret hG rfl (by decide +kernel) dX12_isLost_35 hw
    · have hw := hw.2 c8
      refine z_aload_n hG dX12_isLost_13 rfl 0 rfl ?_
      obtain ⟨j3, ej3, hw⟩ := hw
      refine z_getr (kq := 20) hG f_X12_7 h0 rfl ej3 rfl (by decide) dX12_isLost_14 (fun hj3 => ?_)
      refine z_bipush (v := 39) hG dX12_isLost_17 (by decide) ?_
      refine z_iload_n hG dX12_isLost_19 rfl 2 rfl ?_
      refine z_iadd hG dX12_isLost_20 ?_
      refine z_topi (fun x4 ex4 => ?_)
      have hw := hw x4 ex4
      obtain ⟨q5, hw⟩ := hw
      refine z_iald hG hj3 q5 dX12_isLost_21 ?_
      refine z_iload_n hG dX12_isLost_22 rfl 1 rfl ?_
      refine z_icmp_ne (tgt := 28) hG dX12_isLost_23 (by decide) (fun c7 => ?_) (fun c7 => ?_)
      · have hw := hw.2 c7
        obtain ⟨x6, ex6⟩ : ∃ y : Int32, y = v2 + 1 := ⟨_, rfl⟩
        have hw := hw x6 ex6
        refine z_iinc (v := x6) (lv' := [(2, .int x6), (0, .ref (za Y t0)), (1, .int v1)]) hG dX12_isLost_28 2 rfl (by rw [ex6]; rfl) (by decide) rfl ?_
        refine z_goto (tgt := 2) hG dX12_isLost_31 (by decide) ?_
        refine zpick [1, 2, 0] (lv' := [(0, .ref (za Y t0)), (1, .int v1), (2, .int x6)]) rfl ?_
        exact ih t0 v1 x6 σ hw h0
      · have hw := hw.1 c7
        refine z_iconst (v := 1) hG dX12_isLost_26 (by decide) ?_
        exact z_iret hG rfl (by decide +kernel) dX12_isLost_27 hw
set_option maxRecDepth 100000 in
set_option maxHeartbeats 4000000 in
theorem MX12_isLost (l : Launch) {E : zE} {Y : zY} {σ : zS} {t0 : Nat} {v1 : Int32} (h0 : zT Y 12 t0) {Q : Int32 → zS → Prop} (hw : wX12_isLost (zln Y) σ t0 v1 Q) : ∀ sz, Met l yX12_isLost (zw yX12_isLost cX12_isLost 3 (some .boolean)) rX12_isLost (zPc E Y σ sz [.ref (za Y t0), .int v1]) (va_Qi Q (zB E Y sz) (zA Y sz)) 0 0 (zA Y sz) := by
  refine z_met (own := RX12) (Qc := fun sz => va_Qi Q (zB E Y sz) (zA Y sz)) (by decide +kernel) rfl (Nat.le_of_ble_eq_true rfl) ?_
  intro p e s m args below meth c hG hinit
  unfold wX12_isLost at hw
  refine zlv (lv' := [(0, .ref (za Y t0)), (1, .int v1)]) rfl ?_
  refine z_iconst (v := 0) hG dX12_isLost_0 (by decide) ?_
  refine z_istore_n (lv' := [(2, .int 0), (0, .ref (za Y t0)), (1, .int v1)]) hG dX12_isLost_1 rfl (by decide) rfl ?_
  obtain ⟨n1, hw⟩ := hw
  refine zpick [1, 2, 0] (lv' := [(0, .ref (za Y t0)), (1, .int v1), (2, .int 0)]) rfl ?_
  exact BX12_isLost_2 hG n1 t0 v1 0 σ hw h0
-- TypeWheelTelegraphModel.looksForNext()V
def wX12_looksForNext_123 (ln : Nat → Nat) (Q : zS → Prop) (t0 : Nat) (σ : zS) : Prop := ∃ j1 : Nat, gr σ t0 1 = some j1 ∧ vp_in (9 : Int32) (ln j1) ∧ ∀ x3 : Int32, x3 = (gi σ j1 (9 : Int32).toNatClampNeg) + 1 → vp_in (9 : Int32) (ln j1) ∧ ∀ σ5 : zS, σ5 = si σ j1 (9 : Int32).toNatClampNeg x3 → ∃ j6 : Nat, gr σ5 t0 1 = some j6 ∧ vp_in (9 : Int32) (ln j6) ∧ (((gi σ5 j6 (9 : Int32).toNatClampNeg) = (gi σ5 t0 7) → ∃ j8 : Nat, gr σ5 t0 1 = some j8 ∧ vp_in (7 : Int32) (ln j8) ∧ ∀ σ10 : zS, σ10 = si σ5 j8 (7 : Int32).toNatClampNeg 1 → ∃ j11 : Nat, gr σ10 t0 1 = some j11 ∧ ∃ j12 : Nat, gr σ10 t0 1 = some j12 ∧ vp_in (5 : Int32) (ln j12) ∧ ∃ j14 : Nat, gr σ10 t0 1 = some j14 ∧ vp_in (1 : Int32) (ln j14) ∧ ∃ j16 : Nat, gr σ10 t0 1 = some j16 ∧ vp_in (3 : Int32) (ln j16) ∧ ∀ x18 : Int32, x18 = ((gi σ10 j12 (5 : Int32).toNatClampNeg) + (2 * (gi σ10 j14 (1 : Int32).toNatClampNeg))) + (gi σ10 j16 (3 : Int32).toNatClampNeg) → vp_in (8 : Int32) (ln j11) ∧ ∀ σ20 : zS, σ20 = si σ10 j11 (8 : Int32).toNatClampNeg x18 → Q σ20) ∧ (¬ (gi σ5 j6 (9 : Int32).toNatClampNeg) = (gi σ5 t0 7) → Q σ5))
def wX12_looksForNext (ln : Nat → Nat) (σ : zS) (t0 : Nat) (Q : zS → Prop) : Prop := wX12_isSender ln σ t0 (fun r2 σ1 => ((r2 = 0 → Q σ1) ∧ (¬ r2 = 0 → ∃ j3 : Nat, gr σ1 t0 1 = some j3 ∧ vp_in (7 : Int32) (ln j3) ∧ (((gi σ1 j3 (7 : Int32).toNatClampNeg) = 1 → Q σ1) ∧ (¬ (gi σ1 j3 (7 : Int32).toNatClampNeg) = 1 → ∃ j5 : Nat, gr σ1 t0 1 = some j5 ∧ vp_in (6 : Int32) (ln j5) ∧ ∀ x7 : Int32, x7 = gi σ1 j5 (6 : Int32).toNatClampNeg → wX12_findsOwn ln σ1 t0 (fun σ8 => ∃ j9 : Nat, gr σ8 t0 6 = some j9 ∧ ∃ j10 : Nat, gr σ8 t0 1 = some j10 ∧ vp_in (9 : Int32) (ln j10) ∧ ∀ x12 : Int32, x12 = gi σ8 j10 (9 : Int32).toNatClampNeg → vp_in x12 (ln j9) ∧ ∀ x14 : Int32, x14 = gi σ8 j9 x12.toNatClampNeg → ∃ j15 : Nat, gr σ8 t0 1 = some j15 ∧ ∀ x16 : Int32, x16 = 21 + x7 → vp_in x16 (ln j15) ∧ ∀ x18 : Int64, x18 = ((gi σ8 j15 x16.toNatClampNeg).toInt64) - (1000 * x14.toInt64) → wX12_within ln σ8 t0 x18 (fun r20 σ19 => ∃ j21 : Nat, gr σ19 t0 1 = some j21 ∧ ∀ x22 : Int32, x22 = 23 + x7 → vp_in x22 (ln j21) ∧ ((r20 < (gi σ19 j21 x22.toNatClampNeg) → ∃ j24 : Nat, gr σ19 t0 1 = some j24 ∧ vp_in (16 : Int32) (ln j24) ∧ ∀ x26 : Int32, x26 = (gi σ19 j24 (16 : Int32).toNatClampNeg) + 1 → vp_in (16 : Int32) (ln j24) ∧ ∀ σ28 : zS, σ28 = si σ19 j24 (16 : Int32).toNatClampNeg x26 → ∃ j29 : Nat, gr σ28 t0 1 = some j29 ∧ vp_in (16 : Int32) (ln j29) ∧ ∀ x31 : Int32, x31 = gi σ28 j29 (16 : Int32).toNatClampNeg → wX12_isLost ln σ28 t0 x31 (fun r33 σ32 => ((r33 = 0 → wX12_sends ln σ32 t0 0 x14 (fun σ34 => wX12_looksForNext_123 ln Q t0 σ34)) ∧ (¬ r33 = 0 → ∃ j35 : Nat, gr σ32 t0 1 = some j35 ∧ vp_in (17 : Int32) (ln j35) ∧ ∀ x37 : Int32, x37 = (gi σ32 j35 (17 : Int32).toNatClampNeg) + 1 → vp_in (17 : Int32) (ln j35) ∧ ∀ σ39 : zS, σ39 = si σ32 j35 (17 : Int32).toNatClampNeg x37 → wX12_looksForNext_123 ln Q t0 σ39)))) ∧ (¬ r20 < (gi σ19 j21 x22.toNatClampNeg) → Q σ19)))))))))
abbrev rX12_looksForNext : Room := { frames := 5, cells := 0, slots := 0, locals := 112 }
set_option maxRecDepth 100000 in
set_option maxHeartbeats 4000000 in
theorem BX12_looksForNext_123 {l : Launch} {E : zE} {Y : zY} {p : Program} {e : Env} {s : State} {m : MethodId} {args : Array Value} {below : List Frame} {meth : Method} {c : Code} (hG : zG E p l s m args meth c cX12_looksForNext 3 RX12 none (zA Y s.heap.size)) {Q : zS → Prop} : ∀ (t0 : Nat) (σ : zS), wX12_looksForNext_123 (zln Y) Q t0 σ → zT Y 12 t0 → WW E Y σ p l e rX12_looksForNext s m args below meth c (zA Y s.heap.size) 3 0 0 (MQ below (va_Qv Q (zB E Y s.heap.size) (zA Y s.heap.size)) args s 0 0 (zA Y s.heap.size)) [(0, .ref (za Y t0))] 123 [] := by
  intro t0 σ hw h0
  unfold wX12_looksForNext_123 at hw
  refine z_aload_n hG dX12_looksForNext_123 rfl 0 rfl ?_
  obtain ⟨j1, ej1, hw⟩ := hw
  refine z_getr (kq := 20) hG f_X12_7 h0 rfl ej1 rfl (by decide) dX12_looksForNext_124 (fun hj1 => ?_)
  refine z_bipush (v := 9) hG dX12_looksForNext_127 (by decide) ?_
  refine z_dup2 hG dX12_looksForNext_129 rfl rfl ?_
  obtain ⟨q2, hw⟩ := hw
  refine z_iald hG hj1 q2 dX12_looksForNext_130 ?_
  refine z_iconst (v := 1) hG dX12_looksForNext_131 (by decide) ?_
  refine z_iadd hG dX12_looksForNext_132 ?_
  refine z_topi (fun x3 ex3 => ?_)
  have hw := hw x3 ex3
  obtain ⟨q4, hw⟩ := hw
  refine z_iast hG hj1 q4 dX12_looksForNext_133 ?_
  refine z_topσ (fun σ5 eσ5 => ?_)
  have hw := hw σ5 eσ5
  refine z_aload_n hG dX12_looksForNext_134 rfl 0 rfl ?_
  obtain ⟨j6, ej6, hw⟩ := hw
  refine z_getr (kq := 20) hG f_X12_7 h0 rfl ej6 rfl (by decide) dX12_looksForNext_135 (fun hj6 => ?_)
  refine z_bipush (v := 9) hG dX12_looksForNext_138 (by decide) ?_
  obtain ⟨q7, hw⟩ := hw
  refine z_iald hG hj6 q7 dX12_looksForNext_140 ?_
  refine z_aload_n hG dX12_looksForNext_141 rfl 0 rfl ?_
  refine z_geti hG f_X12_66 h0 rfl dX12_looksForNext_142 ?_
  refine z_icmp_ne (tgt := 185) hG dX12_looksForNext_145 (by decide) (fun c21 => ?_) (fun c21 => ?_)
  · have hw := hw.2 c21
    exact z_vret hG rfl dX12_looksForNext_185 hw
  · have hw := hw.1 c21
    refine z_aload_n hG dX12_looksForNext_148 rfl 0 rfl ?_
    obtain ⟨j8, ej8, hw⟩ := hw
    refine z_getr (kq := 20) hG f_X12_7 h0 rfl ej8 rfl (by decide) dX12_looksForNext_149 (fun hj8 => ?_)
    refine z_bipush (v := 7) hG dX12_looksForNext_152 (by decide) ?_
    refine z_iconst (v := 1) hG dX12_looksForNext_154 (by decide) ?_
    obtain ⟨q9, hw⟩ := hw
    refine z_iast hG hj8 q9 dX12_looksForNext_155 ?_
    refine z_topσ (fun σ10 eσ10 => ?_)
    have hw := hw σ10 eσ10
    refine z_aload_n hG dX12_looksForNext_156 rfl 0 rfl ?_
    obtain ⟨j11, ej11, hw⟩ := hw
    refine z_getr (kq := 20) hG f_X12_7 h0 rfl ej11 rfl (by decide) dX12_looksForNext_157 (fun hj11 => ?_)
    refine z_bipush (v := 8) hG dX12_looksForNext_160 (by decide) ?_
    refine z_aload_n hG dX12_looksForNext_162 rfl 0 rfl ?_
    obtain ⟨j12, ej12, hw⟩ := hw
    refine z_getr (kq := 20) hG f_X12_7 h0 rfl ej12 rfl (by decide) dX12_looksForNext_163 (fun hj12 => ?_)
    refine z_iconst (v := 5) hG dX12_looksForNext_166 (by decide) ?_
    obtain ⟨q13, hw⟩ := hw
    refine z_iald hG hj12 q13 dX12_looksForNext_167 ?_
    refine z_iconst (v := 2) hG dX12_looksForNext_168 (by decide) ?_
    refine z_aload_n hG dX12_looksForNext_169 rfl 0 rfl ?_
    obtain ⟨j14, ej14, hw⟩ := hw
    refine z_getr (kq := 20) hG f_X12_7 h0 rfl ej14 rfl (by decide) dX12_looksForNext_170 (fun hj14 => ?_)
    refine z_iconst (v := 1) hG dX12_looksForNext_173 (by decide) ?_
    obtain ⟨q15, hw⟩ := hw
    refine z_iald hG hj14 q15 dX12_looksForNext_174 ?_
    refine z_imul hG dX12_looksForNext_175 ?_
    refine z_iadd hG dX12_looksForNext_176 ?_
    refine z_aload_n hG dX12_looksForNext_177 rfl 0 rfl ?_
    obtain ⟨j16, ej16, hw⟩ := hw
    refine z_getr (kq := 20) hG f_X12_7 h0 rfl ej16 rfl (by decide) dX12_looksForNext_178 (fun hj16 => ?_)
    refine z_iconst (v := 3) hG dX12_looksForNext_181 (by decide) ?_
    obtain ⟨q17, hw⟩ := hw
    refine z_iald hG hj16 q17 dX12_looksForNext_182 ?_
    refine z_iadd hG dX12_looksForNext_183 ?_
    refine z_topi (fun x18 ex18 => ?_)
    have hw := hw x18 ex18
    obtain ⟨q19, hw⟩ := hw
    refine z_iast hG hj11 q19 dX12_looksForNext_184 ?_
    refine z_topσ (fun σ20 eσ20 => ?_)
    have hw := hw σ20 eσ20
    exact z_vret hG rfl dX12_looksForNext_185 hw
set_option maxRecDepth 100000 in
set_option maxHeartbeats 4000000 in
theorem MX12_looksForNext (l : Launch) {E : zE} {Y : zY} {σ : zS} {t0 : Nat} (h0 : zT Y 12 t0) {Q : zS → Prop} (hw : wX12_looksForNext (zln Y) σ t0 Q) : ∀ sz, Met l yX12_looksForNext (zw yX12_looksForNext cX12_looksForNext 3 none) rX12_looksForNext (zPc E Y σ sz [.ref (za Y t0)]) (va_Qv Q (zB E Y sz) (zA Y sz)) 0 0 (zA Y sz) := by
  refine z_met (own := RX12) (Qc := fun sz => va_Qv Q (zB E Y sz) (zA Y sz)) (by decide +kernel) rfl (Nat.le_of_ble_eq_true rfl) ?_
  intro p e s m args below meth c hG hinit
  unfold wX12_looksForNext at hw
  refine zlv (lv' := [(0, .ref (za Y t0))]) rfl ?_
  refine z_aload_n hG dX12_looksForNext_0 rfl 0 rfl ?_
  refine z_calli hG (z_runV (As := []) (st := []) hG k_X12_158 (MX12_isSender l h0 hw) ⟨(Nat.le_of_ble_eq_true rfl), (Nat.le_of_ble_eq_true rfl)⟩ h0 (T := TX12) (N := 23) rfl (by decide) rfl (Nat.le_of_ble_eq_true rfl) dX12_looksForNext_1 ⟨Nat.zero_le _, Nat.zero_le _⟩ rfl) (fun r2 σ1 hw => ?_)
  refine z_if_eq (tgt := 18) hG dX12_looksForNext_4 (by decide) (fun c43 => ?_) (fun c43 => ?_)
  · have hw := hw.1 c43
    exact z_vret hG rfl dX12_looksForNext_18 hw
  · have hw := hw.2 c43
    refine z_aload_n hG dX12_looksForNext_7 rfl 0 rfl ?_
    obtain ⟨j3, ej3, hw⟩ := hw
    refine z_getr (kq := 20) hG f_X12_7 h0 rfl ej3 rfl (by decide) dX12_looksForNext_8 (fun hj3 => ?_)
    refine z_bipush (v := 7) hG dX12_looksForNext_11 (by decide) ?_
    obtain ⟨q4, hw⟩ := hw
    refine z_iald hG hj3 q4 dX12_looksForNext_13 ?_
    refine z_iconst (v := 1) hG dX12_looksForNext_14 (by decide) ?_
    refine z_icmp_ne (tgt := 19) hG dX12_looksForNext_15 (by decide) (fun c42 => ?_) (fun c42 => ?_)
    · have hw := hw.2 c42
      refine z_aload_n hG dX12_looksForNext_19 rfl 0 rfl ?_
      obtain ⟨j5, ej5, hw⟩ := hw
      refine z_getr (kq := 20) hG f_X12_7 h0 rfl ej5 rfl (by decide) dX12_looksForNext_20 (fun hj5 => ?_)
      refine z_bipush (v := 6) hG dX12_looksForNext_23 (by decide) ?_
      obtain ⟨q6, hw⟩ := hw
      refine z_iald hG hj5 q6 dX12_looksForNext_25 ?_
      refine z_topi (fun x7 ex7 => ?_)
      have hw := hw x7 ex7
      refine z_istore_n (lv' := [(1, .int x7), (0, .ref (za Y t0))]) hG dX12_looksForNext_26 rfl (by decide) rfl ?_
      refine z_aload_n hG dX12_looksForNext_27 rfl 1 rfl ?_
      refine z_callv hG (z_runV (As := []) (st := []) hG k_X12_162 (MX12_findsOwn l h0 hw) ⟨(Nat.le_of_ble_eq_true rfl), (Nat.le_of_ble_eq_true rfl)⟩ h0 (T := TX12) (N := 23) rfl (by decide) rfl (Nat.le_of_ble_eq_true rfl) dX12_looksForNext_28 ⟨Nat.zero_le _, Nat.zero_le _⟩ rfl) (fun σ8 hw => ?_)
      refine z_aload_n hG dX12_looksForNext_31 rfl 1 rfl ?_
      obtain ⟨j9, ej9, hw⟩ := hw
      refine z_getr (kq := 20) hG f_X12_23 h0 rfl ej9 rfl (by decide) dX12_looksForNext_32 (fun hj9 => ?_)
      refine z_aload_n hG dX12_looksForNext_35 rfl 1 rfl ?_
      obtain ⟨j10, ej10, hw⟩ := hw
      refine z_getr (kq := 20) hG f_X12_7 h0 rfl ej10 rfl (by decide) dX12_looksForNext_36 (fun hj10 => ?_)
      refine z_bipush (v := 9) hG dX12_looksForNext_39 (by decide) ?_
      obtain ⟨q11, hw⟩ := hw
      refine z_iald hG hj10 q11 dX12_looksForNext_41 ?_
      refine z_topi (fun x12 ex12 => ?_)
      have hw := hw x12 ex12
      obtain ⟨q13, hw⟩ := hw
      refine z_iald hG hj9 q13 dX12_looksForNext_42 ?_
      refine z_topi (fun x14 ex14 => ?_)
      have hw := hw x14 ex14
      refine z_istore_n (lv' := [(2, .int x14), (1, .int x7), (0, .ref (za Y t0))]) hG dX12_looksForNext_43 rfl (by decide) rfl ?_
      refine z_aload_n hG dX12_looksForNext_44 rfl 2 rfl ?_
      refine z_aload_n hG dX12_looksForNext_45 rfl 2 rfl ?_
      obtain ⟨j15, ej15, hw⟩ := hw
      refine z_getr (kq := 20) hG f_X12_7 h0 rfl ej15 rfl (by decide) dX12_looksForNext_46 (fun hj15 => ?_)
      refine z_bipush (v := 21) hG dX12_looksForNext_49 (by decide) ?_
      refine z_iload_n hG dX12_looksForNext_51 rfl 1 rfl ?_
      refine z_iadd hG dX12_looksForNext_52 ?_
      refine z_topi (fun x16 ex16 => ?_)
      have hw := hw x16 ex16
      obtain ⟨q17, hw⟩ := hw
      refine z_iald hG hj15 q17 dX12_looksForNext_53 ?_
      refine z_i2l hG dX12_looksForNext_54 ?_
      refine z_ldc2 (hc := c_X12_92) hG (hd := dX12_looksForNext_55) ?_
      refine z_iload_n hG dX12_looksForNext_58 rfl 0 rfl ?_
      refine z_i2l hG dX12_looksForNext_59 ?_
      refine z_lmul hG dX12_looksForNext_60 ?_
      refine z_lsub hG dX12_looksForNext_61 ?_
      refine z_topl (fun x18 ex18 => ?_)
      have hw := hw x18 ex18
      refine z_calli hG (z_runV (As := [.long x18]) (st := []) hG k_X12_94 (MX12_within l h0 hw) ⟨(Nat.le_of_ble_eq_true rfl), (Nat.le_of_ble_eq_true rfl)⟩ h0 (T := TX12) (N := 23) rfl (by decide) rfl (Nat.le_of_ble_eq_true rfl) dX12_looksForNext_62 ⟨Nat.zero_le _, Nat.zero_le _⟩ rfl) (fun r20 σ19 hw => ?_)
      refine z_aload_n hG dX12_looksForNext_65 rfl 2 rfl ?_
      obtain ⟨j21, ej21, hw⟩ := hw
      refine z_getr (kq := 20) hG f_X12_7 h0 rfl ej21 rfl (by decide) dX12_looksForNext_66 (fun hj21 => ?_)
      refine z_bipush (v := 23) hG dX12_looksForNext_69 (by decide) ?_
      refine z_iload_n hG dX12_looksForNext_71 rfl 1 rfl ?_
      refine z_iadd hG dX12_looksForNext_72 ?_
      refine z_topi (fun x22 ex22 => ?_)
      have hw := hw x22 ex22
      obtain ⟨q23, hw⟩ := hw
      refine z_iald hG hj21 q23 dX12_looksForNext_73 ?_
      refine z_icmp_lt (tgt := 78) hG dX12_looksForNext_74 (by decide) (fun c41 => ?_) (fun c41 => ?_)
      · have hw := hw.1 c41
        refine z_aload_n hG dX12_looksForNext_78 rfl 2 rfl ?_
        obtain ⟨j24, ej24, hw⟩ := hw
        refine z_getr (kq := 20) hG f_X12_7 h0 rfl ej24 rfl (by decide) dX12_looksForNext_79 (fun hj24 => ?_)
        refine z_bipush (v := 16) hG dX12_looksForNext_82 (by decide) ?_
        refine z_dup2 hG dX12_looksForNext_84 rfl rfl ?_
        obtain ⟨q25, hw⟩ := hw
        refine z_iald hG hj24 q25 dX12_looksForNext_85 ?_
        refine z_iconst (v := 1) hG dX12_looksForNext_86 (by decide) ?_
        refine z_iadd hG dX12_looksForNext_87 ?_
        refine z_topi (fun x26 ex26 => ?_)
        have hw := hw x26 ex26
        obtain ⟨q27, hw⟩ := hw
        refine z_iast hG hj24 q27 dX12_looksForNext_88 ?_
        refine z_topσ (fun σ28 eσ28 => ?_)
        have hw := hw σ28 eσ28
        refine z_aload_n hG dX12_looksForNext_89 rfl 2 rfl ?_
        refine z_aload_n hG dX12_looksForNext_90 rfl 2 rfl ?_
        obtain ⟨j29, ej29, hw⟩ := hw
        refine z_getr (kq := 20) hG f_X12_7 h0 rfl ej29 rfl (by decide) dX12_looksForNext_91 (fun hj29 => ?_)
        refine z_bipush (v := 16) hG dX12_looksForNext_94 (by decide) ?_
        obtain ⟨q30, hw⟩ := hw
        refine z_iald hG hj29 q30 dX12_looksForNext_96 ?_
        refine z_topi (fun x31 ex31 => ?_)
        have hw := hw x31 ex31
        refine z_calli hG (z_runV (As := [.int x31]) (st := []) hG k_X12_165 (MX12_isLost l h0 hw) ⟨(Nat.le_of_ble_eq_true rfl), (Nat.le_of_ble_eq_true rfl)⟩ h0 (T := TX12) (N := 23) rfl (by decide) rfl (Nat.le_of_ble_eq_true rfl) dX12_looksForNext_97 ⟨Nat.zero_le _, Nat.zero_le _⟩ rfl) (fun r33 σ32 hw => ?_)
        refine z_if_eq (tgt := 117) hG dX12_looksForNext_100 (by decide) (fun c40 => ?_) (fun c40 => ?_)
        · have hw := hw.1 c40
          refine z_aload_n hG dX12_looksForNext_117 rfl 2 rfl ?_
          refine z_iconst (v := 0) hG dX12_looksForNext_118 (by decide) ?_
          refine z_iload_n hG dX12_looksForNext_119 rfl 0 rfl ?_
          refine z_callv hG (z_runV (As := [.int 0, .int x14]) (st := []) hG k_X12_123 (MX12_sends l h0 hw) ⟨(Nat.le_of_ble_eq_true rfl), (Nat.le_of_ble_eq_true rfl)⟩ h0 (T := TX12) (N := 23) rfl (by decide) rfl (Nat.le_of_ble_eq_true rfl) dX12_looksForNext_120 ⟨Nat.zero_le _, Nat.zero_le _⟩ rfl) (fun σ34 hw => ?_)
          refine zpick [2] (lv' := [(0, .ref (za Y t0))]) rfl ?_
          exact BX12_looksForNext_123 hG t0 σ34 hw h0
        · have hw := hw.2 c40
          refine z_aload_n hG dX12_looksForNext_103 rfl 2 rfl ?_
          obtain ⟨j35, ej35, hw⟩ := hw
          refine z_getr (kq := 20) hG f_X12_7 h0 rfl ej35 rfl (by decide) dX12_looksForNext_104 (fun hj35 => ?_)
          refine z_bipush (v := 17) hG dX12_looksForNext_107 (by decide) ?_
          refine z_dup2 hG dX12_looksForNext_109 rfl rfl ?_
          obtain ⟨q36, hw⟩ := hw
          refine z_iald hG hj35 q36 dX12_looksForNext_110 ?_
          refine z_iconst (v := 1) hG dX12_looksForNext_111 (by decide) ?_
          refine z_iadd hG dX12_looksForNext_112 ?_
          refine z_topi (fun x37 ex37 => ?_)
          have hw := hw x37 ex37
          obtain ⟨q38, hw⟩ := hw
          refine z_iast hG hj35 q38 dX12_looksForNext_113 ?_
          refine z_topσ (fun σ39 eσ39 => ?_)
          have hw := hw σ39 eσ39
          refine z_goto (tgt := 123) hG dX12_looksForNext_114 (by decide) ?_
          refine zpick [2] (lv' := [(0, .ref (za Y t0))]) rfl ?_
          exact BX12_looksForNext_123 hG t0 σ39 hw h0
      · have hw := hw.2 c41
        exact z_vret hG rfl dX12_looksForNext_77 hw
    · have hw := hw.1 c42
      exact z_vret hG rfl dX12_looksForNext_18 hw
-- TypeWheelTelegraphModel.positions()I
def wX12_positions (ln : Nat → Nat) (σ : zS) (t0 : Nat) (Q : Int32 → zS → Prop) : Prop := ∀ σ1 : zS, σ1 = si σ t0 0 0 → ∃ j2 : Nat, gr σ1 t0 1 = some j2 ∧ vp_in (0 : Int32) (ln j2) ∧ Q (gi σ1 j2 (0 : Int32).toNatClampNeg) σ1
abbrev rX12_positions : Room := { frames := 0, cells := 0, slots := 0, locals := 0 }
set_option maxRecDepth 100000 in
set_option maxHeartbeats 4000000 in
theorem MX12_positions (l : Launch) {E : zE} {Y : zY} {σ : zS} {t0 : Nat} (h0 : zT Y 12 t0) {Q : Int32 → zS → Prop} (hw : wX12_positions (zln Y) σ t0 Q) : ∀ sz, Met l yX12_positions (zw yX12_positions cX12_positions 1 (some .int)) rX12_positions (zPc E Y σ sz [.ref (za Y t0)]) (va_Qi Q (zB E Y sz) (zA Y sz)) 0 0 (zA Y sz) := by
  refine z_met (own := RX12) (Qc := fun sz => va_Qi Q (zB E Y sz) (zA Y sz)) (by decide +kernel) rfl (Nat.le_of_ble_eq_true rfl) ?_
  intro p e s m args below meth c hG hinit
  unfold wX12_positions at hw
  refine zlv (lv' := [(0, .ref (za Y t0))]) rfl ?_
  refine z_aload_n hG dX12_positions_0 rfl 0 rfl ?_
  refine z_iconst (v := 0) hG dX12_positions_1 (by decide) ?_
  refine z_puti hG f_X12_47 h0 rfl rfl (zN_int _) dX12_positions_2 ?_
  refine z_topσ (fun σ1 eσ1 => ?_)
  have hw := hw σ1 eσ1
  refine z_aload_n hG dX12_positions_5 rfl 0 rfl ?_
  obtain ⟨j2, ej2, hw⟩ := hw
  refine z_getr (kq := 20) hG f_X12_7 h0 rfl ej2 rfl (by decide) dX12_positions_6 (fun hj2 => ?_)
  refine z_iconst (v := 0) hG dX12_positions_9 (by decide) ?_
  obtain ⟨q3, hw⟩ := hw
  refine z_iald hG hj2 q3 dX12_positions_10 ?_
  exact z_iret hG rfl rfl dX12_positions_11 hw
-- TypeWheelTelegraphModel.time()I
def wX12_time (ln : Nat → Nat) (σ : zS) (t0 : Nat) (Q : Int32 → zS → Prop) : Prop := ∀ σ1 : zS, σ1 = si σ t0 0 0 → ∃ j2 : Nat, gr σ1 t0 1 = some j2 ∧ vp_in (5 : Int32) (ln j2) ∧ Q (gi σ1 j2 (5 : Int32).toNatClampNeg) σ1
abbrev rX12_time : Room := { frames := 0, cells := 0, slots := 0, locals := 0 }
set_option maxRecDepth 100000 in
set_option maxHeartbeats 4000000 in
theorem MX12_time (l : Launch) {E : zE} {Y : zY} {σ : zS} {t0 : Nat} (h0 : zT Y 12 t0) {Q : Int32 → zS → Prop} (hw : wX12_time (zln Y) σ t0 Q) : ∀ sz, Met l yX12_time (zw yX12_time cX12_time 1 (some .int)) rX12_time (zPc E Y σ sz [.ref (za Y t0)]) (va_Qi Q (zB E Y sz) (zA Y sz)) 0 0 (zA Y sz) := by
  refine z_met (own := RX12) (Qc := fun sz => va_Qi Q (zB E Y sz) (zA Y sz)) (by decide +kernel) rfl (Nat.le_of_ble_eq_true rfl) ?_
  intro p e s m args below meth c hG hinit
  unfold wX12_time at hw
  refine zlv (lv' := [(0, .ref (za Y t0))]) rfl ?_
  refine z_aload_n hG dX12_time_0 rfl 0 rfl ?_
  refine z_iconst (v := 0) hG dX12_time_1 (by decide) ?_
  refine z_puti hG f_X12_47 h0 rfl rfl (zN_int _) dX12_time_2 ?_
  refine z_topσ (fun σ1 eσ1 => ?_)
  have hw := hw σ1 eσ1
  refine z_aload_n hG dX12_time_5 rfl 0 rfl ?_
  obtain ⟨j2, ej2, hw⟩ := hw
  refine z_getr (kq := 20) hG f_X12_7 h0 rfl ej2 rfl (by decide) dX12_time_6 (fun hj2 => ?_)
  refine z_iconst (v := 5) hG dX12_time_9 (by decide) ?_
  obtain ⟨q3, hw⟩ := hw
  refine z_iald hG hj2 q3 dX12_time_10 ?_
  exact z_iret hG rfl rfl dX12_time_11 hw
-- TypeWheelTelegraphModel.ofOffice(II)I
def wX12_ofOffice (ln : Nat → Nat) (σ : zS) (t0 : Nat) (v1 : Int32) (v2 : Int32) (Q : Int32 → zS → Prop) : Prop := ∀ σ1 : zS, σ1 = si σ t0 0 0 → wX12_isOffice ln σ1 v1 (fun r3 σ2 => ((r3 = 0 → wX12_raise ln σ2 t0 1 (fun r5 σ4 => Q r5 σ4)) ∧ (¬ r3 = 0 → ∃ j6 : Nat, gr σ2 t0 1 = some j6 ∧ ∀ x7 : Int32, x7 = v2 + v1 → vp_in x7 (ln j6) ∧ Q (gi σ2 j6 x7.toNatClampNeg) σ2)))
abbrev rX12_ofOffice : Room := { frames := 1, cells := 0, slots := 0, locals := 21 }
set_option maxRecDepth 100000 in
set_option maxHeartbeats 4000000 in
theorem MX12_ofOffice (l : Launch) {E : zE} {Y : zY} {σ : zS} {t0 : Nat} {v1 : Int32} {v2 : Int32} (h0 : zT Y 12 t0) {Q : Int32 → zS → Prop} (hw : wX12_ofOffice (zln Y) σ t0 v1 v2 Q) : ∀ sz, Met l yX12_ofOffice (zw yX12_ofOffice cX12_ofOffice 3 (some .int)) rX12_ofOffice (zPc E Y σ sz [.ref (za Y t0), .int v1, .int v2]) (va_Qi Q (zB E Y sz) (zA Y sz)) 0 0 (zA Y sz) := by
  refine z_met (own := RX12) (Qc := fun sz => va_Qi Q (zB E Y sz) (zA Y sz)) (by decide +kernel) rfl (Nat.le_of_ble_eq_true rfl) ?_
  intro p e s m args below meth c hG hinit
  unfold wX12_ofOffice at hw
  refine zlv (lv' := [(0, .ref (za Y t0)), (1, .int v1), (2, .int v2)]) rfl ?_
  refine z_aload_n hG dX12_ofOffice_0 rfl 0 rfl ?_
  refine z_iconst (v := 0) hG dX12_ofOffice_1 (by decide) ?_
  refine z_puti hG f_X12_47 h0 rfl rfl (zN_int _) dX12_ofOffice_2 ?_
  refine z_topσ (fun σ1 eσ1 => ?_)
  have hw := hw σ1 eσ1
  refine z_iload_n hG dX12_ofOffice_5 rfl 1 rfl ?_
  refine z_calli hG (z_runS (As := [.int v1]) (st := []) hG k_X12_54 (MX12_isOffice l hw) ⟨(Nat.le_of_ble_eq_true rfl), (Nat.le_of_ble_eq_true rfl)⟩ rfl (Nat.le_of_ble_eq_true rfl) dX12_ofOffice_6 ⟨Nat.zero_le _, Nat.zero_le _⟩ rfl) (fun r3 σ2 hw => ?_)
  refine z_if_eq (tgt := 23) hG dX12_ofOffice_9 (by decide) (fun c9 => ?_) (fun c9 => ?_)
  · have hw := hw.1 c9
    refine z_aload_n hG dX12_ofOffice_23 rfl 0 rfl ?_
    refine z_iconst (v := 1) hG dX12_ofOffice_24 (by decide) ?_
    refine z_calli hG (z_runV (As := [.int 1]) (st := []) hG k_X12_174 (MX12_raise l h0 hw) ⟨(Nat.le_of_ble_eq_true rfl), (Nat.le_of_ble_eq_true rfl)⟩ h0 (T := TX12) (N := 23) rfl (by decide) rfl (Nat.le_of_ble_eq_true rfl) dX12_ofOffice_25 ⟨Nat.zero_le _, Nat.zero_le _⟩ rfl) (fun r5 σ4 hw => ?_)
    exact z_iret hG rfl rfl dX12_ofOffice_28 hw
  · have hw := hw.2 c9
    refine z_aload_n hG dX12_ofOffice_12 rfl 0 rfl ?_
    obtain ⟨j6, ej6, hw⟩ := hw
    refine z_getr (kq := 20) hG f_X12_7 h0 rfl ej6 rfl (by decide) dX12_ofOffice_13 (fun hj6 => ?_)
    refine z_iload_n hG dX12_ofOffice_16 rfl 2 rfl ?_
    refine z_iload_n hG dX12_ofOffice_17 rfl 1 rfl ?_
    refine z_iadd hG dX12_ofOffice_18 ?_
    refine z_topi (fun x7 ex7 => ?_)
    have hw := hw x7 ex7
    obtain ⟨q8, hw⟩ := hw
    refine z_iald hG hj6 q8 dX12_ofOffice_19 ?_
    refine z_goto (tgt := 28) hG dX12_ofOffice_20 (by decide) ?_
    exact z_iret hG rfl rfl dX12_ofOffice_28 hw
-- TypeWheelTelegraphModel.phase(I)I
def wX12_phase (ln : Nat → Nat) (σ : zS) (t0 : Nat) (v1 : Int32) (Q : Int32 → zS → Prop) : Prop := wX12_ofOffice ln σ t0 v1 21 (fun r2 σ1 => Q r2 σ1)
abbrev rX12_phase : Room := { frames := 2, cells := 0, slots := 0, locals := 43 }
set_option maxRecDepth 100000 in
set_option maxHeartbeats 4000000 in
theorem MX12_phase (l : Launch) {E : zE} {Y : zY} {σ : zS} {t0 : Nat} {v1 : Int32} (h0 : zT Y 12 t0) {Q : Int32 → zS → Prop} (hw : wX12_phase (zln Y) σ t0 v1 Q) : ∀ sz, Met l yX12_phase (zw yX12_phase cX12_phase 2 (some .int)) rX12_phase (zPc E Y σ sz [.ref (za Y t0), .int v1]) (va_Qi Q (zB E Y sz) (zA Y sz)) 0 0 (zA Y sz) := by
  refine z_met (own := RX12) (Qc := fun sz => va_Qi Q (zB E Y sz) (zA Y sz)) (by decide +kernel) rfl (Nat.le_of_ble_eq_true rfl) ?_
  intro p e s m args below meth c hG hinit
  unfold wX12_phase at hw
  refine zlv (lv' := [(0, .ref (za Y t0)), (1, .int v1)]) rfl ?_
  refine z_aload_n hG dX12_phase_0 rfl 0 rfl ?_
  refine z_iload_n hG dX12_phase_1 rfl 1 rfl ?_
  refine z_bipush (v := 21) hG dX12_phase_2 (by decide) ?_
  refine z_calli hG (z_runV (As := [.int v1, .int 21]) (st := []) hG k_X12_177 (MX12_ofOffice l h0 hw) ⟨(Nat.le_of_ble_eq_true rfl), (Nat.le_of_ble_eq_true rfl)⟩ h0 (T := TX12) (N := 23) rfl (by decide) rfl (Nat.le_of_ble_eq_true rfl) dX12_phase_4 ⟨Nat.zero_le _, Nat.zero_le _⟩ rfl) (fun r2 σ1 hw => ?_)
  exact z_iret hG rfl rfl dX12_phase_7 hw
-- TypeWheelTelegraphModel.rate(I)I
def wX12_rate (ln : Nat → Nat) (σ : zS) (t0 : Nat) (v1 : Int32) (Q : Int32 → zS → Prop) : Prop := wX12_ofOffice ln σ t0 v1 23 (fun r2 σ1 => Q r2 σ1)
abbrev rX12_rate : Room := { frames := 2, cells := 0, slots := 0, locals := 43 }
set_option maxRecDepth 100000 in
set_option maxHeartbeats 4000000 in
theorem MX12_rate (l : Launch) {E : zE} {Y : zY} {σ : zS} {t0 : Nat} {v1 : Int32} (h0 : zT Y 12 t0) {Q : Int32 → zS → Prop} (hw : wX12_rate (zln Y) σ t0 v1 Q) : ∀ sz, Met l yX12_rate (zw yX12_rate cX12_rate 2 (some .int)) rX12_rate (zPc E Y σ sz [.ref (za Y t0), .int v1]) (va_Qi Q (zB E Y sz) (zA Y sz)) 0 0 (zA Y sz) := by
  refine z_met (own := RX12) (Qc := fun sz => va_Qi Q (zB E Y sz) (zA Y sz)) (by decide +kernel) rfl (Nat.le_of_ble_eq_true rfl) ?_
  intro p e s m args below meth c hG hinit
  unfold wX12_rate at hw
  refine zlv (lv' := [(0, .ref (za Y t0)), (1, .int v1)]) rfl ?_
  refine z_aload_n hG dX12_rate_0 rfl 0 rfl ?_
  refine z_iload_n hG dX12_rate_1 rfl 1 rfl ?_
  refine z_bipush (v := 23) hG dX12_rate_2 (by decide) ?_
  refine z_calli hG (z_runV (As := [.int v1, .int 23]) (st := []) hG k_X12_177 (MX12_ofOffice l h0 hw) ⟨(Nat.le_of_ble_eq_true rfl), (Nat.le_of_ble_eq_true rfl)⟩ h0 (T := TX12) (N := 23) rfl (by decide) rfl (Nat.le_of_ble_eq_true rfl) dX12_rate_4 ⟨Nat.zero_le _, Nat.zero_le _⟩ rfl) (fun r2 σ1 hw => ?_)
  exact z_iret hG rfl rfl dX12_rate_7 hw
-- TypeWheelTelegraphModel.facing(I)I
def wX12_facing (ln : Nat → Nat) (σ : zS) (t0 : Nat) (v1 : Int32) (Q : Int32 → zS → Prop) : Prop := ∀ σ1 : zS, σ1 = si σ t0 0 0 → wX12_isOffice ln σ1 v1 (fun r3 σ2 => ((r3 = 0 → wX12_raise ln σ2 t0 1 (fun r13 σ12 => Q r13 σ12)) ∧ (¬ r3 = 0 → ∃ j4 : Nat, gr σ2 t0 1 = some j4 ∧ ∀ x5 : Int32, x5 = 21 + v1 → vp_in x5 (ln j4) ∧ ∃ j7 : Nat, gr σ2 t0 1 = some j7 ∧ vp_in (0 : Int32) (ln j7) ∧ ∀ x9 : Int32, x9 = gi σ2 j7 (0 : Int32).toNatClampNeg → ∀ x10 : Int32, x10 = ((gi σ2 j4 x5.toNatClampNeg) + 500) / 1000 → ¬ x9 = 0 ∧ Q (x10 - x10 / x9 * x9) σ2)))
abbrev rX12_facing : Room := { frames := 1, cells := 0, slots := 0, locals := 21 }
set_option maxRecDepth 100000 in
set_option maxHeartbeats 4000000 in
theorem MX12_facing (l : Launch) {E : zE} {Y : zY} {σ : zS} {t0 : Nat} {v1 : Int32} (h0 : zT Y 12 t0) {Q : Int32 → zS → Prop} (hw : wX12_facing (zln Y) σ t0 v1 Q) : ∀ sz, Met l yX12_facing (zw yX12_facing cX12_facing 2 (some .int)) rX12_facing (zPc E Y σ sz [.ref (za Y t0), .int v1]) (va_Qi Q (zB E Y sz) (zA Y sz)) 0 0 (zA Y sz) := by
  refine z_met (own := RX12) (Qc := fun sz => va_Qi Q (zB E Y sz) (zA Y sz)) (by decide +kernel) rfl (Nat.le_of_ble_eq_true rfl) ?_
  intro p e s m args below meth c hG hinit
  unfold wX12_facing at hw
  refine zlv (lv' := [(0, .ref (za Y t0)), (1, .int v1)]) rfl ?_
  refine z_aload_n hG dX12_facing_0 rfl 0 rfl ?_
  refine z_iconst (v := 0) hG dX12_facing_1 (by decide) ?_
  refine z_puti hG f_X12_47 h0 rfl rfl (zN_int _) dX12_facing_2 ?_
  refine z_topσ (fun σ1 eσ1 => ?_)
  have hw := hw σ1 eσ1
  refine z_iload_n hG dX12_facing_5 rfl 1 rfl ?_
  refine z_calli hG (z_runS (As := [.int v1]) (st := []) hG k_X12_54 (MX12_isOffice l hw) ⟨(Nat.le_of_ble_eq_true rfl), (Nat.le_of_ble_eq_true rfl)⟩ rfl (Nat.le_of_ble_eq_true rfl) dX12_facing_6 ⟨Nat.zero_le _, Nat.zero_le _⟩ rfl) (fun r3 σ2 hw => ?_)
  refine z_if_ne (tgt := 18) hG dX12_facing_9 (by decide) (fun c14 => ?_) (fun c14 => ?_)
  · have hw := hw.2 c14
    refine z_aload_n hG dX12_facing_18 rfl 0 rfl ?_
    obtain ⟨j4, ej4, hw⟩ := hw
    refine z_getr (kq := 20) hG f_X12_7 h0 rfl ej4 rfl (by decide) dX12_facing_19 (fun hj4 => ?_)
    refine z_bipush (v := 21) hG dX12_facing_22 (by decide) ?_
    refine z_iload_n hG dX12_facing_24 rfl 1 rfl ?_
    refine z_iadd hG dX12_facing_25 ?_
    refine z_topi (fun x5 ex5 => ?_)
    have hw := hw x5 ex5
    obtain ⟨q6, hw⟩ := hw
    refine z_iald hG hj4 q6 dX12_facing_26 ?_
    refine z_sipush (v := 500) hG dX12_facing_27 (by decide) ?_
    refine z_iadd hG dX12_facing_30 ?_
    refine z_sipush (v := 1000) hG dX12_facing_31 (by decide) ?_
    refine z_idiv hG dX12_facing_34 (by decide) ?_
    refine z_aload_n hG dX12_facing_35 rfl 0 rfl ?_
    obtain ⟨j7, ej7, hw⟩ := hw
    refine z_getr (kq := 20) hG f_X12_7 h0 rfl ej7 rfl (by decide) dX12_facing_36 (fun hj7 => ?_)
    refine z_iconst (v := 0) hG dX12_facing_39 (by decide) ?_
    obtain ⟨q8, hw⟩ := hw
    refine z_iald hG hj7 q8 dX12_facing_40 ?_
    refine z_topi (fun x9 ex9 => ?_)
    have hw := hw x9 ex9
    obtain ⟨x10, ex10⟩ : ∃ y : Int32, y = ((gi σ2 j4 x5.toNatClampNeg) + 500) / 1000 := ⟨_, rfl⟩
    refine zst (st' := [.int x9, .int x10]) (by rw [ex10]) ?_
    have hw := hw x10 ex10
    obtain ⟨q11, hw⟩ := hw
    refine z_irem hG dX12_facing_41 q11 ?_
    exact z_iret hG rfl rfl dX12_facing_42 hw
  · have hw := hw.1 c14
    refine z_aload_n hG dX12_facing_12 rfl 0 rfl ?_
    refine z_iconst (v := 1) hG dX12_facing_13 (by decide) ?_
    refine z_calli hG (z_runV (As := [.int 1]) (st := []) hG k_X12_174 (MX12_raise l h0 hw) ⟨(Nat.le_of_ble_eq_true rfl), (Nat.le_of_ble_eq_true rfl)⟩ h0 (T := TX12) (N := 23) rfl (by decide) rfl (Nat.le_of_ble_eq_true rfl) dX12_facing_14 ⟨Nat.zero_le _, Nat.zero_le _⟩ rfl) (fun r13 σ12 hw => ?_)
    exact z_iret hG rfl rfl dX12_facing_17 hw
-- TypeWheelTelegraphModel.lead()I
def wX12_lead (ln : Nat → Nat) (σ : zS) (t0 : Nat) (Q : Int32 → zS → Prop) : Prop := ∀ σ1 : zS, σ1 = si σ t0 0 0 → ∃ j2 : Nat, gr σ1 t0 1 = some j2 ∧ vp_in (22 : Int32) (ln j2) ∧ ∃ j4 : Nat, gr σ1 t0 1 = some j4 ∧ vp_in (1 : Int32) (ln j4) ∧ ∃ j6 : Nat, gr σ1 t0 1 = some j6 ∧ vp_in (24 : Int32) (ln j6) ∧ ∃ j8 : Nat, gr σ1 t0 1 = some j8 ∧ vp_in (21 : Int32) (ln j8) ∧ ∀ x10 : Int64, x10 = (((gi σ1 j2 (22 : Int32).toNatClampNeg).toInt64) + (((gi σ1 j4 (1 : Int32).toNatClampNeg).toInt64) * ((gi σ1 j6 (24 : Int32).toNatClampNeg).toInt64))) - ((gi σ1 j8 (21 : Int32).toNatClampNeg).toInt64) → wX12_within ln σ1 t0 x10 (fun r12 σ11 => wX12_round ln σ11 t0 (fun r14 σ13 => ((r12 < (r14 / 2) → Q r12 σ13) ∧ (¬ r12 < (r14 / 2) → wX12_round ln σ13 t0 (fun r16 σ15 => Q (r12 - r16) σ15)))))
abbrev rX12_lead : Room := { frames := 2, cells := 0, slots := 0, locals := 43 }
set_option maxRecDepth 100000 in
set_option maxHeartbeats 4000000 in
theorem MX12_lead (l : Launch) {E : zE} {Y : zY} {σ : zS} {t0 : Nat} (h0 : zT Y 12 t0) {Q : Int32 → zS → Prop} (hw : wX12_lead (zln Y) σ t0 Q) : ∀ sz, Met l yX12_lead (zw yX12_lead cX12_lead 2 (some .int)) rX12_lead (zPc E Y σ sz [.ref (za Y t0)]) (va_Qi Q (zB E Y sz) (zA Y sz)) 0 0 (zA Y sz) := by
  refine z_met (own := RX12) (Qc := fun sz => va_Qi Q (zB E Y sz) (zA Y sz)) (by decide +kernel) rfl (Nat.le_of_ble_eq_true rfl) ?_
  intro p e s m args below meth c hG hinit
  unfold wX12_lead at hw
  refine zlv (lv' := [(0, .ref (za Y t0))]) rfl ?_
  refine z_aload_n hG dX12_lead_0 rfl 0 rfl ?_
  refine z_iconst (v := 0) hG dX12_lead_1 (by decide) ?_
  refine z_puti hG f_X12_47 h0 rfl rfl (zN_int _) dX12_lead_2 ?_
  refine z_topσ (fun σ1 eσ1 => ?_)
  have hw := hw σ1 eσ1
  refine z_aload_n hG dX12_lead_5 rfl 0 rfl ?_
  refine z_aload_n hG dX12_lead_6 rfl 0 rfl ?_
  obtain ⟨j2, ej2, hw⟩ := hw
  refine z_getr (kq := 20) hG f_X12_7 h0 rfl ej2 rfl (by decide) dX12_lead_7 (fun hj2 => ?_)
  refine z_bipush (v := 22) hG dX12_lead_10 (by decide) ?_
  obtain ⟨q3, hw⟩ := hw
  refine z_iald hG hj2 q3 dX12_lead_12 ?_
  refine z_i2l hG dX12_lead_13 ?_
  refine z_aload_n hG dX12_lead_14 rfl 0 rfl ?_
  obtain ⟨j4, ej4, hw⟩ := hw
  refine z_getr (kq := 20) hG f_X12_7 h0 rfl ej4 rfl (by decide) dX12_lead_15 (fun hj4 => ?_)
  refine z_iconst (v := 1) hG dX12_lead_18 (by decide) ?_
  obtain ⟨q5, hw⟩ := hw
  refine z_iald hG hj4 q5 dX12_lead_19 ?_
  refine z_i2l hG dX12_lead_20 ?_
  refine z_aload_n hG dX12_lead_21 rfl 0 rfl ?_
  obtain ⟨j6, ej6, hw⟩ := hw
  refine z_getr (kq := 20) hG f_X12_7 h0 rfl ej6 rfl (by decide) dX12_lead_22 (fun hj6 => ?_)
  refine z_bipush (v := 24) hG dX12_lead_25 (by decide) ?_
  obtain ⟨q7, hw⟩ := hw
  refine z_iald hG hj6 q7 dX12_lead_27 ?_
  refine z_i2l hG dX12_lead_28 ?_
  refine z_lmul hG dX12_lead_29 ?_
  refine z_ladd hG dX12_lead_30 ?_
  refine z_aload_n hG dX12_lead_31 rfl 0 rfl ?_
  obtain ⟨j8, ej8, hw⟩ := hw
  refine z_getr (kq := 20) hG f_X12_7 h0 rfl ej8 rfl (by decide) dX12_lead_32 (fun hj8 => ?_)
  refine z_bipush (v := 21) hG dX12_lead_35 (by decide) ?_
  obtain ⟨q9, hw⟩ := hw
  refine z_iald hG hj8 q9 dX12_lead_37 ?_
  refine z_i2l hG dX12_lead_38 ?_
  refine z_lsub hG dX12_lead_39 ?_
  refine z_topl (fun x10 ex10 => ?_)
  have hw := hw x10 ex10
  refine z_calli hG (z_runV (As := [.long x10]) (st := []) hG k_X12_94 (MX12_within l h0 hw) ⟨(Nat.le_of_ble_eq_true rfl), (Nat.le_of_ble_eq_true rfl)⟩ h0 (T := TX12) (N := 23) rfl (by decide) rfl (Nat.le_of_ble_eq_true rfl) dX12_lead_40 ⟨Nat.zero_le _, Nat.zero_le _⟩ rfl) (fun r12 σ11 hw => ?_)
  refine z_istore_n (lv' := [(1, .int r12), (0, .ref (za Y t0))]) hG dX12_lead_43 rfl (by decide) rfl ?_
  refine z_iload_n hG dX12_lead_44 rfl 0 rfl ?_
  refine z_aload_n hG dX12_lead_45 rfl 1 rfl ?_
  refine z_calli hG (z_runV (As := []) (st := [.int r12]) hG k_X12_62 (MX12_round l h0 hw) ⟨(Nat.le_of_ble_eq_true rfl), (Nat.le_of_ble_eq_true rfl)⟩ h0 (T := TX12) (N := 23) rfl (by decide) rfl (Nat.le_of_ble_eq_true rfl) dX12_lead_46 ⟨Nat.zero_le _, Nat.zero_le _⟩ rfl) (fun r14 σ13 hw => ?_)
  refine z_iconst (v := 2) hG dX12_lead_49 (by decide) ?_
  refine z_idiv hG dX12_lead_50 (by decide) ?_
  refine z_icmp_lt (tgt := 63) hG dX12_lead_51 (by decide) (fun c17 => ?_) (fun c17 => ?_)
  · have hw := hw.1 c17
    refine z_iload_n hG dX12_lead_63 rfl 0 rfl ?_
    exact z_iret hG rfl rfl dX12_lead_64 hw
  · have hw := hw.2 c17
    refine z_iload_n hG dX12_lead_54 rfl 0 rfl ?_
    refine z_aload_n hG dX12_lead_55 rfl 1 rfl ?_
    refine z_calli hG (z_runV (As := []) (st := [.int r12]) hG k_X12_62 (MX12_round l h0 hw) ⟨(Nat.le_of_ble_eq_true rfl), (Nat.le_of_ble_eq_true rfl)⟩ h0 (T := TX12) (N := 23) rfl (by decide) rfl (Nat.le_of_ble_eq_true rfl) dX12_lead_56 ⟨Nat.zero_le _, Nat.zero_le _⟩ rfl) (fun r16 σ15 hw => ?_)
    refine z_isub hG dX12_lead_59 ?_
    refine z_goto (tgt := 64) hG dX12_lead_60 (by decide) ?_
    exact z_iret hG rfl rfl dX12_lead_64 hw
-- TypeWheelTelegraphModel.lineCount(I)I
def wX12_lineCount (ln : Nat → Nat) (σ : zS) (t0 : Nat) (v1 : Int32) (Q : Int32 → zS → Prop) : Prop := wX12_ofOffice ln σ t0 v1 25 (fun r2 σ1 => Q r2 σ1)
abbrev rX12_lineCount : Room := { frames := 2, cells := 0, slots := 0, locals := 43 }
set_option maxRecDepth 100000 in
set_option maxHeartbeats 4000000 in
theorem MX12_lineCount (l : Launch) {E : zE} {Y : zY} {σ : zS} {t0 : Nat} {v1 : Int32} (h0 : zT Y 12 t0) {Q : Int32 → zS → Prop} (hw : wX12_lineCount (zln Y) σ t0 v1 Q) : ∀ sz, Met l yX12_lineCount (zw yX12_lineCount cX12_lineCount 2 (some .int)) rX12_lineCount (zPc E Y σ sz [.ref (za Y t0), .int v1]) (va_Qi Q (zB E Y sz) (zA Y sz)) 0 0 (zA Y sz) := by
  refine z_met (own := RX12) (Qc := fun sz => va_Qi Q (zB E Y sz) (zA Y sz)) (by decide +kernel) rfl (Nat.le_of_ble_eq_true rfl) ?_
  intro p e s m args below meth c hG hinit
  unfold wX12_lineCount at hw
  refine zlv (lv' := [(0, .ref (za Y t0)), (1, .int v1)]) rfl ?_
  refine z_aload_n hG dX12_lineCount_0 rfl 0 rfl ?_
  refine z_iload_n hG dX12_lineCount_1 rfl 1 rfl ?_
  refine z_bipush (v := 25) hG dX12_lineCount_2 (by decide) ?_
  refine z_calli hG (z_runV (As := [.int v1, .int 25]) (st := []) hG k_X12_177 (MX12_ofOffice l h0 hw) ⟨(Nat.le_of_ble_eq_true rfl), (Nat.le_of_ble_eq_true rfl)⟩ h0 (T := TX12) (N := 23) rfl (by decide) rfl (Nat.le_of_ble_eq_true rfl) dX12_lineCount_4 ⟨Nat.zero_le _, Nat.zero_le _⟩ rfl) (fun r2 σ1 hw => ?_)
  exact z_iret hG rfl rfl dX12_lineCount_7 hw
-- TypeWheelTelegraphModel.linesDone(I)I
def wX12_linesDone (ln : Nat → Nat) (σ : zS) (t0 : Nat) (v1 : Int32) (Q : Int32 → zS → Prop) : Prop := wX12_ofOffice ln σ t0 v1 27 (fun r2 σ1 => Q r2 σ1)
abbrev rX12_linesDone : Room := { frames := 2, cells := 0, slots := 0, locals := 43 }
set_option maxRecDepth 100000 in
set_option maxHeartbeats 4000000 in
theorem MX12_linesDone (l : Launch) {E : zE} {Y : zY} {σ : zS} {t0 : Nat} {v1 : Int32} (h0 : zT Y 12 t0) {Q : Int32 → zS → Prop} (hw : wX12_linesDone (zln Y) σ t0 v1 Q) : ∀ sz, Met l yX12_linesDone (zw yX12_linesDone cX12_linesDone 2 (some .int)) rX12_linesDone (zPc E Y σ sz [.ref (za Y t0), .int v1]) (va_Qi Q (zB E Y sz) (zA Y sz)) 0 0 (zA Y sz) := by
  refine z_met (own := RX12) (Qc := fun sz => va_Qi Q (zB E Y sz) (zA Y sz)) (by decide +kernel) rfl (Nat.le_of_ble_eq_true rfl) ?_
  intro p e s m args below meth c hG hinit
  unfold wX12_linesDone at hw
  refine zlv (lv' := [(0, .ref (za Y t0)), (1, .int v1)]) rfl ?_
  refine z_aload_n hG dX12_linesDone_0 rfl 0 rfl ?_
  refine z_iload_n hG dX12_linesDone_1 rfl 1 rfl ?_
  refine z_bipush (v := 27) hG dX12_linesDone_2 (by decide) ?_
  refine z_calli hG (z_runV (As := [.int v1, .int 27]) (st := []) hG k_X12_177 (MX12_ofOffice l h0 hw) ⟨(Nat.le_of_ble_eq_true rfl), (Nat.le_of_ble_eq_true rfl)⟩ h0 (T := TX12) (N := 23) rfl (by decide) rfl (Nat.le_of_ble_eq_true rfl) dX12_linesDone_4 ⟨Nat.zero_le _, Nat.zero_le _⟩ rfl) (fun r2 σ1 hw => ?_)
  exact z_iret hG rfl rfl dX12_linesDone_7 hw
-- TypeWheelTelegraphModel.lineLength(II)I
def wX12_lineLength (ln : Nat → Nat) (σ : zS) (t0 : Nat) (v1 : Int32) (v2 : Int32) (Q : Int32 → zS → Prop) : Prop := ∀ σ1 : zS, σ1 = si σ t0 0 0 → wX12_isLine ln σ1 t0 v1 v2 (fun r3 σ2 => ((r3 = 0 → wX12_raise ln σ2 t0 1 (fun r10 σ9 => Q r10 σ9)) ∧ (¬ r3 = 0 → ∃ j4 : Nat, gr σ2 t0 1 = some j4 ∧ wX12_lineAt ln σ2 t0 v1 v2 (fun r6 σ5 => ∀ x7 : Int32, x7 = 219 + r6 → vp_in x7 (ln j4) ∧ Q (gi σ5 j4 x7.toNatClampNeg) σ5))))
abbrev rX12_lineLength : Room := { frames := 2, cells := 0, slots := 0, locals := 47 }
set_option maxRecDepth 100000 in
set_option maxHeartbeats 4000000 in
theorem MX12_lineLength (l : Launch) {E : zE} {Y : zY} {σ : zS} {t0 : Nat} {v1 : Int32} {v2 : Int32} (h0 : zT Y 12 t0) {Q : Int32 → zS → Prop} (hw : wX12_lineLength (zln Y) σ t0 v1 v2 Q) : ∀ sz, Met l yX12_lineLength (zw yX12_lineLength cX12_lineLength 3 (some .int)) rX12_lineLength (zPc E Y σ sz [.ref (za Y t0), .int v1, .int v2]) (va_Qi Q (zB E Y sz) (zA Y sz)) 0 0 (zA Y sz) := by
  refine z_met (own := RX12) (Qc := fun sz => va_Qi Q (zB E Y sz) (zA Y sz)) (by decide +kernel) rfl (Nat.le_of_ble_eq_true rfl) ?_
  intro p e s m args below meth c hG hinit
  unfold wX12_lineLength at hw
  refine zlv (lv' := [(0, .ref (za Y t0)), (1, .int v1), (2, .int v2)]) rfl ?_
  refine z_aload_n hG dX12_lineLength_0 rfl 0 rfl ?_
  refine z_iconst (v := 0) hG dX12_lineLength_1 (by decide) ?_
  refine z_puti hG f_X12_47 h0 rfl rfl (zN_int _) dX12_lineLength_2 ?_
  refine z_topσ (fun σ1 eσ1 => ?_)
  have hw := hw σ1 eσ1
  refine z_aload_n hG dX12_lineLength_5 rfl 0 rfl ?_
  refine z_iload_n hG dX12_lineLength_6 rfl 1 rfl ?_
  refine z_iload_n hG dX12_lineLength_7 rfl 2 rfl ?_
  refine z_calli hG (z_runV (As := [.int v1, .int v2]) (st := []) hG k_X12_182 (MX12_isLine l h0 hw) ⟨(Nat.le_of_ble_eq_true rfl), (Nat.le_of_ble_eq_true rfl)⟩ h0 (T := TX12) (N := 23) rfl (by decide) rfl (Nat.le_of_ble_eq_true rfl) dX12_lineLength_8 ⟨Nat.zero_le _, Nat.zero_le _⟩ rfl) (fun r3 σ2 hw => ?_)
  refine z_if_ne (tgt := 20) hG dX12_lineLength_11 (by decide) (fun c11 => ?_) (fun c11 => ?_)
  · have hw := hw.2 c11
    refine z_aload_n hG dX12_lineLength_20 rfl 0 rfl ?_
    obtain ⟨j4, ej4, hw⟩ := hw
    refine z_getr (kq := 20) hG f_X12_7 h0 rfl ej4 rfl (by decide) dX12_lineLength_21 (fun hj4 => ?_)
    refine z_sipush (v := 219) hG dX12_lineLength_24 (by decide) ?_
    refine z_aload_n hG dX12_lineLength_27 rfl 0 rfl ?_
    refine z_iload_n hG dX12_lineLength_28 rfl 1 rfl ?_
    refine z_iload_n hG dX12_lineLength_29 rfl 2 rfl ?_
    refine z_calli hG (z_runV (As := [.int v1, .int v2]) (st := [.int 219, .ref (za Y j4)]) hG k_X12_76 (MX12_lineAt l h0 hw) ⟨(Nat.le_of_ble_eq_true rfl), (Nat.le_of_ble_eq_true rfl)⟩ h0 (T := TX12) (N := 23) rfl (by decide) rfl (Nat.le_of_ble_eq_true rfl) dX12_lineLength_30 ⟨Nat.zero_le _, Nat.zero_le _⟩ rfl) (fun r6 σ5 hw => ?_)
    refine z_iadd hG dX12_lineLength_33 ?_
    refine z_topi (fun x7 ex7 => ?_)
    have hw := hw x7 ex7
    obtain ⟨q8, hw⟩ := hw
    refine z_iald hG hj4 q8 dX12_lineLength_34 ?_
    exact z_iret hG rfl rfl dX12_lineLength_35 hw
  · have hw := hw.1 c11
    refine z_aload_n hG dX12_lineLength_14 rfl 0 rfl ?_
    refine z_iconst (v := 1) hG dX12_lineLength_15 (by decide) ?_
    refine z_calli hG (z_runV (As := [.int 1]) (st := []) hG k_X12_174 (MX12_raise l h0 hw) ⟨(Nat.le_of_ble_eq_true rfl), (Nat.le_of_ble_eq_true rfl)⟩ h0 (T := TX12) (N := 23) rfl (by decide) rfl (Nat.le_of_ble_eq_true rfl) dX12_lineLength_16 ⟨Nat.zero_le _, Nat.zero_le _⟩ rfl) (fun r10 σ9 hw => ?_)
    exact z_iret hG rfl rfl dX12_lineLength_19 hw
-- TypeWheelTelegraphModel.pulsesOf(II)I
def wX12_pulsesOf (ln : Nat → Nat) (σ : zS) (t0 : Nat) (v1 : Int32) (v2 : Int32) (Q : Int32 → zS → Prop) : Prop := ∀ σ1 : zS, σ1 = si σ t0 0 0 → wX12_isLine ln σ1 t0 v1 v2 (fun r3 σ2 => ((r3 = 0 → wX12_raise ln σ2 t0 1 (fun r6 σ5 => Q r6 σ5)) ∧ (¬ r3 = 0 → wX12_finds ln σ2 t0 v1 v2 (fun σ4 => Q (gi σ4 t0 7) σ4))))
abbrev rX12_pulsesOf : Room := { frames := 4, cells := 0, slots := 0, locals := 92 }
set_option maxRecDepth 100000 in
set_option maxHeartbeats 4000000 in
theorem MX12_pulsesOf (l : Launch) {E : zE} {Y : zY} {σ : zS} {t0 : Nat} {v1 : Int32} {v2 : Int32} (h0 : zT Y 12 t0) {Q : Int32 → zS → Prop} (hw : wX12_pulsesOf (zln Y) σ t0 v1 v2 Q) : ∀ sz, Met l yX12_pulsesOf (zw yX12_pulsesOf cX12_pulsesOf 3 (some .int)) rX12_pulsesOf (zPc E Y σ sz [.ref (za Y t0), .int v1, .int v2]) (va_Qi Q (zB E Y sz) (zA Y sz)) 0 0 (zA Y sz) := by
  refine z_met (own := RX12) (Qc := fun sz => va_Qi Q (zB E Y sz) (zA Y sz)) (by decide +kernel) rfl (Nat.le_of_ble_eq_true rfl) ?_
  intro p e s m args below meth c hG hinit
  unfold wX12_pulsesOf at hw
  refine zlv (lv' := [(0, .ref (za Y t0)), (1, .int v1), (2, .int v2)]) rfl ?_
  refine z_aload_n hG dX12_pulsesOf_0 rfl 0 rfl ?_
  refine z_iconst (v := 0) hG dX12_pulsesOf_1 (by decide) ?_
  refine z_puti hG f_X12_47 h0 rfl rfl (zN_int _) dX12_pulsesOf_2 ?_
  refine z_topσ (fun σ1 eσ1 => ?_)
  have hw := hw σ1 eσ1
  refine z_aload_n hG dX12_pulsesOf_5 rfl 0 rfl ?_
  refine z_iload_n hG dX12_pulsesOf_6 rfl 1 rfl ?_
  refine z_iload_n hG dX12_pulsesOf_7 rfl 2 rfl ?_
  refine z_calli hG (z_runV (As := [.int v1, .int v2]) (st := []) hG k_X12_182 (MX12_isLine l h0 hw) ⟨(Nat.le_of_ble_eq_true rfl), (Nat.le_of_ble_eq_true rfl)⟩ h0 (T := TX12) (N := 23) rfl (by decide) rfl (Nat.le_of_ble_eq_true rfl) dX12_pulsesOf_8 ⟨Nat.zero_le _, Nat.zero_le _⟩ rfl) (fun r3 σ2 hw => ?_)
  refine z_if_ne (tgt := 20) hG dX12_pulsesOf_11 (by decide) (fun c7 => ?_) (fun c7 => ?_)
  · have hw := hw.2 c7
    refine z_aload_n hG dX12_pulsesOf_20 rfl 0 rfl ?_
    refine z_iload_n hG dX12_pulsesOf_21 rfl 1 rfl ?_
    refine z_iload_n hG dX12_pulsesOf_22 rfl 2 rfl ?_
    refine z_callv hG (z_runV (As := [.int v1, .int v2]) (st := []) hG k_X12_88 (MX12_finds l h0 hw) ⟨(Nat.le_of_ble_eq_true rfl), (Nat.le_of_ble_eq_true rfl)⟩ h0 (T := TX12) (N := 23) rfl (by decide) rfl (Nat.le_of_ble_eq_true rfl) dX12_pulsesOf_23 ⟨Nat.zero_le _, Nat.zero_le _⟩ rfl) (fun σ4 hw => ?_)
    refine z_aload_n hG dX12_pulsesOf_26 rfl 0 rfl ?_
    refine z_geti hG f_X12_66 h0 rfl dX12_pulsesOf_27 ?_
    exact z_iret hG rfl rfl dX12_pulsesOf_30 hw
  · have hw := hw.1 c7
    refine z_aload_n hG dX12_pulsesOf_14 rfl 0 rfl ?_
    refine z_iconst (v := 1) hG dX12_pulsesOf_15 (by decide) ?_
    refine z_calli hG (z_runV (As := [.int 1]) (st := []) hG k_X12_174 (MX12_raise l h0 hw) ⟨(Nat.le_of_ble_eq_true rfl), (Nat.le_of_ble_eq_true rfl)⟩ h0 (T := TX12) (N := 23) rfl (by decide) rfl (Nat.le_of_ble_eq_true rfl) dX12_pulsesOf_16 ⟨Nat.zero_le _, Nat.zero_le _⟩ rfl) (fun r6 σ5 hw => ?_)
    exact z_iret hG rfl rfl dX12_pulsesOf_19 hw
-- TypeWheelTelegraphModel.pulseOf(III)I
def wX12_pulseOf (ln : Nat → Nat) (σ : zS) (t0 : Nat) (v1 : Int32) (v2 : Int32) (v3 : Int32) (Q : Int32 → zS → Prop) : Prop := ∀ σ1 : zS, σ1 = si σ t0 0 0 → wX12_isLine ln σ1 t0 v1 v2 (fun r3 σ2 => ((r3 = 0 → wX12_raise ln σ2 t0 1 (fun r15 σ14 => Q r15 σ14)) ∧ (¬ r3 = 0 → wX12_finds ln σ2 t0 v1 v2 (fun σ4 => ∀ x5 : Int64, x5 = ((gi σ4 t0 7) - 1).toInt64 → ∀ x6 : Int64, x6 = v3.toInt64 → wX12_isIn ln σ4 x6 0 x5 (fun r8 σ7 => ((r8 = 0 → wX12_raise ln σ7 t0 1 (fun r10 σ9 => Q r10 σ9)) ∧ (¬ r8 = 0 → ∃ j11 : Nat, gr σ7 t0 6 = some j11 ∧ vp_in v3 (ln j11) ∧ Q (gi σ7 j11 v3.toNatClampNeg) σ7)))))))
abbrev rX12_pulseOf : Room := { frames := 4, cells := 0, slots := 0, locals := 92 }
set_option maxRecDepth 100000 in
set_option maxHeartbeats 4000000 in
theorem MX12_pulseOf (l : Launch) {E : zE} {Y : zY} {σ : zS} {t0 : Nat} {v1 : Int32} {v2 : Int32} {v3 : Int32} (h0 : zT Y 12 t0) {Q : Int32 → zS → Prop} (hw : wX12_pulseOf (zln Y) σ t0 v1 v2 v3 Q) : ∀ sz, Met l yX12_pulseOf (zw yX12_pulseOf cX12_pulseOf 4 (some .int)) rX12_pulseOf (zPc E Y σ sz [.ref (za Y t0), .int v1, .int v2, .int v3]) (va_Qi Q (zB E Y sz) (zA Y sz)) 0 0 (zA Y sz) := by
  refine z_met (own := RX12) (Qc := fun sz => va_Qi Q (zB E Y sz) (zA Y sz)) (by decide +kernel) rfl (Nat.le_of_ble_eq_true rfl) ?_
  intro p e s m args below meth c hG hinit
  unfold wX12_pulseOf at hw
  refine zlv (lv' := [(0, .ref (za Y t0)), (1, .int v1), (2, .int v2), (3, .int v3)]) rfl ?_
  refine z_aload_n hG dX12_pulseOf_0 rfl 0 rfl ?_
  refine z_iconst (v := 0) hG dX12_pulseOf_1 (by decide) ?_
  refine z_puti hG f_X12_47 h0 rfl rfl (zN_int _) dX12_pulseOf_2 ?_
  refine z_topσ (fun σ1 eσ1 => ?_)
  have hw := hw σ1 eσ1
  refine z_aload_n hG dX12_pulseOf_5 rfl 0 rfl ?_
  refine z_iload_n hG dX12_pulseOf_6 rfl 1 rfl ?_
  refine z_iload_n hG dX12_pulseOf_7 rfl 2 rfl ?_
  refine z_calli hG (z_runV (As := [.int v1, .int v2]) (st := []) hG k_X12_182 (MX12_isLine l h0 hw) ⟨(Nat.le_of_ble_eq_true rfl), (Nat.le_of_ble_eq_true rfl)⟩ h0 (T := TX12) (N := 23) rfl (by decide) rfl (Nat.le_of_ble_eq_true rfl) dX12_pulseOf_8 ⟨Nat.zero_le _, Nat.zero_le _⟩ rfl) (fun r3 σ2 hw => ?_)
  refine z_if_ne (tgt := 20) hG dX12_pulseOf_11 (by decide) (fun c16 => ?_) (fun c16 => ?_)
  · have hw := hw.2 c16
    refine z_aload_n hG dX12_pulseOf_20 rfl 0 rfl ?_
    refine z_iload_n hG dX12_pulseOf_21 rfl 1 rfl ?_
    refine z_iload_n hG dX12_pulseOf_22 rfl 2 rfl ?_
    refine z_callv hG (z_runV (As := [.int v1, .int v2]) (st := []) hG k_X12_88 (MX12_finds l h0 hw) ⟨(Nat.le_of_ble_eq_true rfl), (Nat.le_of_ble_eq_true rfl)⟩ h0 (T := TX12) (N := 23) rfl (by decide) rfl (Nat.le_of_ble_eq_true rfl) dX12_pulseOf_23 ⟨Nat.zero_le _, Nat.zero_le _⟩ rfl) (fun σ4 hw => ?_)
    refine z_iload_n hG dX12_pulseOf_26 rfl 3 rfl ?_
    refine z_i2l hG dX12_pulseOf_27 ?_
    refine z_lconst (v := 0) hG dX12_pulseOf_28 (by decide) ?_
    refine z_aload_n hG dX12_pulseOf_29 rfl 0 rfl ?_
    refine z_geti hG f_X12_66 h0 rfl dX12_pulseOf_30 ?_
    refine z_iconst (v := 1) hG dX12_pulseOf_33 (by decide) ?_
    refine z_isub hG dX12_pulseOf_34 ?_
    refine z_i2l hG dX12_pulseOf_35 ?_
    refine z_topl (fun x5 ex5 => ?_)
    have hw := hw x5 ex5
    obtain ⟨x6, ex6⟩ : ∃ y : Int64, y = v3.toInt64 := ⟨_, rfl⟩
    refine zst (st' := [.long x5, .long 0, .long x6]) (by rw [ex6]) ?_
    have hw := hw x6 ex6
    refine z_calli hG (z_runS (As := [.long x6, .long 0, .long x5]) (st := []) hG k_X12_58 (MX12_isIn l hw) ⟨(Nat.le_of_ble_eq_true rfl), (Nat.le_of_ble_eq_true rfl)⟩ rfl (Nat.le_of_ble_eq_true rfl) dX12_pulseOf_36 ⟨Nat.zero_le _, Nat.zero_le _⟩ rfl) (fun r8 σ7 hw => ?_)
    refine z_if_eq (tgt := 51) hG dX12_pulseOf_39 (by decide) (fun c13 => ?_) (fun c13 => ?_)
    · have hw := hw.1 c13
      refine z_aload_n hG dX12_pulseOf_51 rfl 0 rfl ?_
      refine z_iconst (v := 1) hG dX12_pulseOf_52 (by decide) ?_
      refine z_calli hG (z_runV (As := [.int 1]) (st := []) hG k_X12_174 (MX12_raise l h0 hw) ⟨(Nat.le_of_ble_eq_true rfl), (Nat.le_of_ble_eq_true rfl)⟩ h0 (T := TX12) (N := 23) rfl (by decide) rfl (Nat.le_of_ble_eq_true rfl) dX12_pulseOf_53 ⟨Nat.zero_le _, Nat.zero_le _⟩ rfl) (fun r10 σ9 hw => ?_)
      exact z_iret hG rfl rfl dX12_pulseOf_56 hw
    · have hw := hw.2 c13
      refine z_aload_n hG dX12_pulseOf_42 rfl 0 rfl ?_
      obtain ⟨j11, ej11, hw⟩ := hw
      refine z_getr (kq := 20) hG f_X12_23 h0 rfl ej11 rfl (by decide) dX12_pulseOf_43 (fun hj11 => ?_)
      refine z_iload_n hG dX12_pulseOf_46 rfl 3 rfl ?_
      obtain ⟨q12, hw⟩ := hw
      refine z_iald hG hj11 q12 dX12_pulseOf_47 ?_
      refine z_goto (tgt := 56) hG dX12_pulseOf_48 (by decide) ?_
      exact z_iret hG rfl rfl dX12_pulseOf_56 hw
  · have hw := hw.1 c16
    refine z_aload_n hG dX12_pulseOf_14 rfl 0 rfl ?_
    refine z_iconst (v := 1) hG dX12_pulseOf_15 (by decide) ?_
    refine z_calli hG (z_runV (As := [.int 1]) (st := []) hG k_X12_174 (MX12_raise l h0 hw) ⟨(Nat.le_of_ble_eq_true rfl), (Nat.le_of_ble_eq_true rfl)⟩ h0 (T := TX12) (N := 23) rfl (by decide) rfl (Nat.le_of_ble_eq_true rfl) dX12_pulseOf_16 ⟨Nat.zero_le _, Nat.zero_le _⟩ rfl) (fun r15 σ14 hw => ?_)
    exact z_iret hG rfl rfl dX12_pulseOf_19 hw
-- TypeWheelTelegraphModel.ticksFor(II)I
def wX12_ticksFor (ln : Nat → Nat) (σ : zS) (t0 : Nat) (v1 : Int32) (v2 : Int32) (Q : Int32 → zS → Prop) : Prop := ∀ σ1 : zS, σ1 = si σ t0 0 0 → wX12_isLine ln σ1 t0 v1 v2 (fun r3 σ2 => ((r3 = 0 → wX12_raise ln σ2 t0 1 (fun r7 σ6 => Q r7 σ6)) ∧ (¬ r3 = 0 → wX12_ticksOf ln σ2 t0 v1 v2 (fun r5 σ4 => Q r5 σ4))))
abbrev rX12_ticksFor : Room := { frames := 5, cells := 0, slots := 0, locals := 119 }
set_option maxRecDepth 100000 in
set_option maxHeartbeats 4000000 in
theorem MX12_ticksFor (l : Launch) {E : zE} {Y : zY} {σ : zS} {t0 : Nat} {v1 : Int32} {v2 : Int32} (h0 : zT Y 12 t0) {Q : Int32 → zS → Prop} (hw : wX12_ticksFor (zln Y) σ t0 v1 v2 Q) : ∀ sz, Met l yX12_ticksFor (zw yX12_ticksFor cX12_ticksFor 3 (some .int)) rX12_ticksFor (zPc E Y σ sz [.ref (za Y t0), .int v1, .int v2]) (va_Qi Q (zB E Y sz) (zA Y sz)) 0 0 (zA Y sz) := by
  refine z_met (own := RX12) (Qc := fun sz => va_Qi Q (zB E Y sz) (zA Y sz)) (by decide +kernel) rfl (Nat.le_of_ble_eq_true rfl) ?_
  intro p e s m args below meth c hG hinit
  unfold wX12_ticksFor at hw
  refine zlv (lv' := [(0, .ref (za Y t0)), (1, .int v1), (2, .int v2)]) rfl ?_
  refine z_aload_n hG dX12_ticksFor_0 rfl 0 rfl ?_
  refine z_iconst (v := 0) hG dX12_ticksFor_1 (by decide) ?_
  refine z_puti hG f_X12_47 h0 rfl rfl (zN_int _) dX12_ticksFor_2 ?_
  refine z_topσ (fun σ1 eσ1 => ?_)
  have hw := hw σ1 eσ1
  refine z_aload_n hG dX12_ticksFor_5 rfl 0 rfl ?_
  refine z_iload_n hG dX12_ticksFor_6 rfl 1 rfl ?_
  refine z_iload_n hG dX12_ticksFor_7 rfl 2 rfl ?_
  refine z_calli hG (z_runV (As := [.int v1, .int v2]) (st := []) hG k_X12_182 (MX12_isLine l h0 hw) ⟨(Nat.le_of_ble_eq_true rfl), (Nat.le_of_ble_eq_true rfl)⟩ h0 (T := TX12) (N := 23) rfl (by decide) rfl (Nat.le_of_ble_eq_true rfl) dX12_ticksFor_8 ⟨Nat.zero_le _, Nat.zero_le _⟩ rfl) (fun r3 σ2 hw => ?_)
  refine z_if_ne (tgt := 20) hG dX12_ticksFor_11 (by decide) (fun c8 => ?_) (fun c8 => ?_)
  · have hw := hw.2 c8
    refine z_aload_n hG dX12_ticksFor_20 rfl 0 rfl ?_
    refine z_iload_n hG dX12_ticksFor_21 rfl 1 rfl ?_
    refine z_iload_n hG dX12_ticksFor_22 rfl 2 rfl ?_
    refine z_calli hG (z_runV (As := [.int v1, .int v2]) (st := []) hG k_X12_186 (MX12_ticksOf l h0 hw) ⟨(Nat.le_of_ble_eq_true rfl), (Nat.le_of_ble_eq_true rfl)⟩ h0 (T := TX12) (N := 23) rfl (by decide) rfl (Nat.le_of_ble_eq_true rfl) dX12_ticksFor_23 ⟨Nat.zero_le _, Nat.zero_le _⟩ rfl) (fun r5 σ4 hw => ?_)
    exact z_iret hG rfl rfl dX12_ticksFor_26 hw
  · have hw := hw.1 c8
    refine z_aload_n hG dX12_ticksFor_14 rfl 0 rfl ?_
    refine z_iconst (v := 1) hG dX12_ticksFor_15 (by decide) ?_
    refine z_calli hG (z_runV (As := [.int 1]) (st := []) hG k_X12_174 (MX12_raise l h0 hw) ⟨(Nat.le_of_ble_eq_true rfl), (Nat.le_of_ble_eq_true rfl)⟩ h0 (T := TX12) (N := 23) rfl (by decide) rfl (Nat.le_of_ble_eq_true rfl) dX12_ticksFor_16 ⟨Nat.zero_le _, Nat.zero_le _⟩ rfl) (fun r7 σ6 hw => ?_)
    exact z_iret hG rfl rfl dX12_ticksFor_19 hw
-- TypeWheelTelegraphModel.slowestLine(I)I
def wX12_slowestLine_62 (ln : Nat → Nat) (Q : Int32 → zS → Prop) (kb25 : Nat → Int32 → Int32 → Int32 → Int32 → zS → Prop) (t0 : Nat) (v1 : Int32) (v4 : Int32) (v5 : Int32) (σ : zS) : Prop := ∀ x1 : Int32, x1 = v4 + 1 → kb25 t0 v1 v4 v5 x1 σ
def wX12_slowestLine_25 (ln : Nat → Nat) (Q : Int32 → zS → Prop) : Nat → Nat → Int32 → Int32 → Int32 → Int32 → zS → Prop
  | 0, _, _, _, _, _, _ => False
  | n + 1, t0, v1, v2, v3, v4, σ => ∃ j1 : Nat, gr σ t0 1 = some j1 ∧ ∀ x2 : Int32, x2 = 25 + v1 → vp_in x2 (ln j1) ∧ (((gi σ j1 x2.toNatClampNeg) ≤ v4 → Q v2 σ) ∧ (¬ (gi σ j1 x2.toNatClampNeg) ≤ v4 → wX12_ticksOf ln σ t0 v1 v4 (fun r5 σ4 => ((v2 = (-1) → wX12_slowestLine_62 ln Q (wX12_slowestLine_25 ln Q n) t0 v1 v4 r5 σ4) ∧ (¬ v2 = (-1) → ((v3 < r5 → wX12_slowestLine_62 ln Q (wX12_slowestLine_25 ln Q n) t0 v1 v4 r5 σ4) ∧ (¬ v3 < r5 → ∀ x6 : Int32, x6 = v4 + 1 → (wX12_slowestLine_25 ln Q n) t0 v1 v2 v3 x6 σ4)))))))
def wX12_slowestLine (ln : Nat → Nat) (σ : zS) (t0 : Nat) (v1 : Int32) (Q : Int32 → zS → Prop) : Prop := ∀ σ1 : zS, σ1 = si σ t0 0 0 → wX12_isOffice ln σ1 v1 (fun r3 σ2 => ((r3 = 0 → wX12_raise ln σ2 t0 1 (fun r6 σ5 => Q r6 σ5)) ∧ (¬ r3 = 0 → ∃ n4 : Nat, wX12_slowestLine_25 ln Q n4 t0 v1 (-1) 0 0 σ2)))
abbrev rX12_slowestLine : Room := { frames := 5, cells := 0, slots := 0, locals := 119 }
set_option maxRecDepth 100000 in
set_option maxHeartbeats 4000000 in
theorem BX12_slowestLine_62 {l : Launch} {E : zE} {Y : zY} {p : Program} {e : Env} {s : State} {m : MethodId} {args : Array Value} {below : List Frame} {meth : Method} {c : Code} (hG : zG E p l s m args meth c cX12_slowestLine 6 RX12 (some .int) (zA Y s.heap.size)) {Q : Int32 → zS → Prop} {kb25 : Nat → Int32 → Int32 → Int32 → Int32 → zS → Prop} (hkb25 : ∀ (t0 : Nat) (v1 : Int32) (v2 : Int32) (v3 : Int32) (v4 : Int32) (σ : zS), kb25 t0 v1 v2 v3 v4 σ → zT Y 12 t0 → WW E Y σ p l e rX12_slowestLine s m args below meth c (zA Y s.heap.size) 6 0 0 (MQ below (va_Qi Q (zB E Y s.heap.size) (zA Y s.heap.size)) args s 0 0 (zA Y s.heap.size)) [(0, .ref (za Y t0)), (1, .int v1), (2, .int v2), (3, .int v3), (4, .int v4)] 25 []) : ∀ (t0 : Nat) (v1 : Int32) (v4 : Int32) (v5 : Int32) (σ : zS), wX12_slowestLine_62 (zln Y) Q kb25 t0 v1 v4 v5 σ → zT Y 12 t0 → WW E Y σ p l e rX12_slowestLine s m args below meth c (zA Y s.heap.size) 6 0 0 (MQ below (va_Qi Q (zB E Y s.heap.size) (zA Y s.heap.size)) args s 0 0 (zA Y s.heap.size)) [(0, .ref (za Y t0)), (1, .int v1), (4, .int v4), (5, .int v5)] 62 [] := by
  intro t0 v1 v4 v5 σ hw h0
  unfold wX12_slowestLine_62 at hw
  refine z_iload hG dX12_slowestLine_62 2 rfl ?_
  refine z_istore_n (lv' := [(2, .int v4), (0, .ref (za Y t0)), (1, .int v1), (4, .int v4), (5, .int v5)]) hG dX12_slowestLine_64 rfl (by decide) rfl ?_
  refine z_iload hG dX12_slowestLine_65 4 rfl ?_
  refine z_istore_n (lv' := [(3, .int v5), (2, .int v4), (0, .ref (za Y t0)), (1, .int v1), (4, .int v4), (5, .int v5)]) hG dX12_slowestLine_67 rfl (by decide) rfl ?_
  obtain ⟨x1, ex1⟩ : ∃ y : Int32, y = v4 + 1 := ⟨_, rfl⟩
  have hw := hw x1 ex1
  refine z_iinc (v := x1) (lv' := [(4, .int x1), (3, .int v5), (2, .int v4), (0, .ref (za Y t0)), (1, .int v1), (5, .int v5)]) hG dX12_slowestLine_68 4 rfl (by rw [ex1]; rfl) (by decide) rfl ?_
  refine z_goto (tgt := 25) hG dX12_slowestLine_71 (by decide) ?_
  refine zpick [3, 4, 2, 1, 0] (lv' := [(0, .ref (za Y t0)), (1, .int v1), (2, .int v4), (3, .int v5), (4, .int x1)]) rfl ?_
  exact hkb25 t0 v1 v4 v5 x1 σ hw h0
set_option maxRecDepth 100000 in
set_option maxHeartbeats 4000000 in
theorem BX12_slowestLine_25 {l : Launch} {E : zE} {Y : zY} {p : Program} {e : Env} {s : State} {m : MethodId} {args : Array Value} {below : List Frame} {meth : Method} {c : Code} (hG : zG E p l s m args meth c cX12_slowestLine 6 RX12 (some .int) (zA Y s.heap.size)) {Q : Int32 → zS → Prop} : ∀ (n : Nat) (t0 : Nat) (v1 : Int32) (v2 : Int32) (v3 : Int32) (v4 : Int32) (σ : zS), wX12_slowestLine_25 (zln Y) Q n t0 v1 v2 v3 v4 σ → zT Y 12 t0 → WW E Y σ p l e rX12_slowestLine s m args below meth c (zA Y s.heap.size) 6 0 0 (MQ below (va_Qi Q (zB E Y s.heap.size) (zA Y s.heap.size)) args s 0 0 (zA Y s.heap.size)) [(0, .ref (za Y t0)), (1, .int v1), (2, .int v2), (3, .int v3), (4, .int v4)] 25 [] := by
  intro n
  induction n with
  | zero => intro t0 v1 v2 v3 v4 σ hw
            exact hw.elim
  | succ n ih =>
    intro t0 v1 v2 v3 v4 σ hw h0
    rw [wX12_slowestLine_25] at hw
    refine z_iload hG dX12_slowestLine_25 4 rfl ?_
    refine z_aload_n hG dX12_slowestLine_27 rfl 0 rfl ?_
    obtain ⟨j1, ej1, hw⟩ := hw
    refine z_getr (kq := 20) hG f_X12_7 h0 rfl ej1 rfl (by decide) dX12_slowestLine_28 (fun hj1 => ?_)
    refine z_bipush (v := 25) hG dX12_slowestLine_31 (by decide) ?_
    refine z_iload_n hG dX12_slowestLine_33 rfl 1 rfl ?_
    refine z_iadd hG dX12_slowestLine_34 ?_
    refine z_topi (fun x2 ex2 => ?_)
    have hw := hw x2 ex2
    obtain ⟨q3, hw⟩ := hw
    refine z_iald hG hj1 q3 dX12_slowestLine_35 ?_
    refine z_icmp_ge (tgt := 74) hG dX12_slowestLine_36 (by decide) (fun c9 => ?_) (fun c9 => ?_)
    · have hw := hw.1 c9
      refine z_iload_n hG dX12_slowestLine_74 rfl 2 rfl ?_
      exact z_iret hG rfl rfl dX12_slowestLine_75 hw
    · have hw := hw.2 c9
      refine z_aload_n hG dX12_slowestLine_39 rfl 0 rfl ?_
      refine z_iload_n hG dX12_slowestLine_40 rfl 1 rfl ?_
      refine z_iload hG dX12_slowestLine_41 4 rfl ?_
      refine z_calli hG (z_runV (As := [.int v1, .int v4]) (st := []) hG k_X12_186 (MX12_ticksOf l h0 hw) ⟨(Nat.le_of_ble_eq_true rfl), (Nat.le_of_ble_eq_true rfl)⟩ h0 (T := TX12) (N := 23) rfl (by decide) rfl (Nat.le_of_ble_eq_true rfl) dX12_slowestLine_43 ⟨Nat.zero_le _, Nat.zero_le _⟩ rfl) (fun r5 σ4 hw => ?_)
      refine z_istore (lv' := [(5, .int r5), (0, .ref (za Y t0)), (1, .int v1), (2, .int v2), (3, .int v3), (4, .int v4)]) hG dX12_slowestLine_46 (by decide) rfl ?_
      refine z_iload_n hG dX12_slowestLine_48 rfl 3 rfl ?_
      refine z_iconst (v := (-1)) hG dX12_slowestLine_49 (by decide) ?_
      refine z_icmp_eq (tgt := 62) hG dX12_slowestLine_50 (by decide) (fun c8 => ?_) (fun c8 => ?_)
      · have hw := hw.1 c8
        refine zpick [1, 2, 5, 0] (lv' := [(0, .ref (za Y t0)), (1, .int v1), (4, .int v4), (5, .int r5)]) rfl ?_
        exact BX12_slowestLine_62 hG ih t0 v1 v4 r5 σ4 hw h0
      · have hw := hw.2 c8
        refine z_iload hG dX12_slowestLine_53 0 rfl ?_
        refine z_iload_n hG dX12_slowestLine_55 rfl 4 rfl ?_
        refine z_icmp_gt (tgt := 62) hG dX12_slowestLine_56 (by decide) (fun c7 => ?_) (fun c7 => ?_)
        · have hw := hw.1 c7
          refine zpick [1, 2, 5, 0] (lv' := [(0, .ref (za Y t0)), (1, .int v1), (4, .int v4), (5, .int r5)]) rfl ?_
          exact BX12_slowestLine_62 hG ih t0 v1 v4 r5 σ4 hw h0
        · have hw := hw.2 c7
          refine z_goto (tgt := 68) hG dX12_slowestLine_59 (by decide) ?_
          obtain ⟨x6, ex6⟩ : ∃ y : Int32, y = v4 + 1 := ⟨_, rfl⟩
          have hw := hw x6 ex6
          refine z_iinc (v := x6) (lv' := [(4, .int x6), (5, .int r5), (0, .ref (za Y t0)), (1, .int v1), (2, .int v2), (3, .int v3)]) hG dX12_slowestLine_68 5 rfl (by rw [ex6]; rfl) (by decide) rfl ?_
          refine z_goto (tgt := 25) hG dX12_slowestLine_71 (by decide) ?_
          refine zpick [2, 3, 4, 5, 0] (lv' := [(0, .ref (za Y t0)), (1, .int v1), (2, .int v2), (3, .int v3), (4, .int x6)]) rfl ?_
          exact ih t0 v1 v2 v3 x6 σ4 hw h0
set_option maxRecDepth 100000 in
set_option maxHeartbeats 4000000 in
theorem MX12_slowestLine (l : Launch) {E : zE} {Y : zY} {σ : zS} {t0 : Nat} {v1 : Int32} (h0 : zT Y 12 t0) {Q : Int32 → zS → Prop} (hw : wX12_slowestLine (zln Y) σ t0 v1 Q) : ∀ sz, Met l yX12_slowestLine (zw yX12_slowestLine cX12_slowestLine 6 (some .int)) rX12_slowestLine (zPc E Y σ sz [.ref (za Y t0), .int v1]) (va_Qi Q (zB E Y sz) (zA Y sz)) 0 0 (zA Y sz) := by
  refine z_met (own := RX12) (Qc := fun sz => va_Qi Q (zB E Y sz) (zA Y sz)) (by decide +kernel) rfl (Nat.le_of_ble_eq_true rfl) ?_
  intro p e s m args below meth c hG hinit
  unfold wX12_slowestLine at hw
  refine zlv (lv' := [(0, .ref (za Y t0)), (1, .int v1)]) rfl ?_
  refine z_aload_n hG dX12_slowestLine_0 rfl 0 rfl ?_
  refine z_iconst (v := 0) hG dX12_slowestLine_1 (by decide) ?_
  refine z_puti hG f_X12_47 h0 rfl rfl (zN_int _) dX12_slowestLine_2 ?_
  refine z_topσ (fun σ1 eσ1 => ?_)
  have hw := hw σ1 eσ1
  refine z_iload_n hG dX12_slowestLine_5 rfl 1 rfl ?_
  refine z_calli hG (z_runS (As := [.int v1]) (st := []) hG k_X12_54 (MX12_isOffice l hw) ⟨(Nat.le_of_ble_eq_true rfl), (Nat.le_of_ble_eq_true rfl)⟩ rfl (Nat.le_of_ble_eq_true rfl) dX12_slowestLine_6 ⟨Nat.zero_le _, Nat.zero_le _⟩ rfl) (fun r3 σ2 hw => ?_)
  refine z_if_ne (tgt := 18) hG dX12_slowestLine_9 (by decide) (fun c7 => ?_) (fun c7 => ?_)
  · have hw := hw.2 c7
    refine z_iconst (v := (-1)) hG dX12_slowestLine_18 (by decide) ?_
    refine z_istore_n (lv' := [(2, .int (-1)), (0, .ref (za Y t0)), (1, .int v1)]) hG dX12_slowestLine_19 rfl (by decide) rfl ?_
    refine z_iconst (v := 0) hG dX12_slowestLine_20 (by decide) ?_
    refine z_istore_n (lv' := [(3, .int 0), (2, .int (-1)), (0, .ref (za Y t0)), (1, .int v1)]) hG dX12_slowestLine_21 rfl (by decide) rfl ?_
    refine z_iconst (v := 0) hG dX12_slowestLine_22 (by decide) ?_
    refine z_istore (lv' := [(4, .int 0), (3, .int 0), (2, .int (-1)), (0, .ref (za Y t0)), (1, .int v1)]) hG dX12_slowestLine_23 (by decide) rfl ?_
    obtain ⟨n4, hw⟩ := hw
    refine zpick [3, 4, 2, 1, 0] (lv' := [(0, .ref (za Y t0)), (1, .int v1), (2, .int (-1)), (3, .int 0), (4, .int 0)]) rfl ?_
    exact BX12_slowestLine_25 hG n4 t0 v1 (-1) 0 0 σ2 hw h0
  · have hw := hw.1 c7
    refine z_aload_n hG dX12_slowestLine_12 rfl 0 rfl ?_
    refine z_iconst (v := 1) hG dX12_slowestLine_13 (by decide) ?_
    refine z_calli hG (z_runV (As := [.int 1]) (st := []) hG k_X12_174 (MX12_raise l h0 hw) ⟨(Nat.le_of_ble_eq_true rfl), (Nat.le_of_ble_eq_true rfl)⟩ h0 (T := TX12) (N := 23) rfl (by decide) rfl (Nat.le_of_ble_eq_true rfl) dX12_slowestLine_14 ⟨Nat.zero_le _, Nat.zero_le _⟩ rfl) (fun r6 σ5 hw => ?_)
    exact z_iret hG rfl rfl dX12_slowestLine_17 hw
-- TypeWheelTelegraphModel.sender()I
def wX12_sender (ln : Nat → Nat) (σ : zS) (t0 : Nat) (Q : Int32 → zS → Prop) : Prop := ∀ σ1 : zS, σ1 = si σ t0 0 0 → ∃ j2 : Nat, gr σ1 t0 1 = some j2 ∧ vp_in (6 : Int32) (ln j2) ∧ Q (gi σ1 j2 (6 : Int32).toNatClampNeg) σ1
abbrev rX12_sender : Room := { frames := 0, cells := 0, slots := 0, locals := 0 }
set_option maxRecDepth 100000 in
set_option maxHeartbeats 4000000 in
theorem MX12_sender (l : Launch) {E : zE} {Y : zY} {σ : zS} {t0 : Nat} (h0 : zT Y 12 t0) {Q : Int32 → zS → Prop} (hw : wX12_sender (zln Y) σ t0 Q) : ∀ sz, Met l yX12_sender (zw yX12_sender cX12_sender 1 (some .int)) rX12_sender (zPc E Y σ sz [.ref (za Y t0)]) (va_Qi Q (zB E Y sz) (zA Y sz)) 0 0 (zA Y sz) := by
  refine z_met (own := RX12) (Qc := fun sz => va_Qi Q (zB E Y sz) (zA Y sz)) (by decide +kernel) rfl (Nat.le_of_ble_eq_true rfl) ?_
  intro p e s m args below meth c hG hinit
  unfold wX12_sender at hw
  refine zlv (lv' := [(0, .ref (za Y t0))]) rfl ?_
  refine z_aload_n hG dX12_sender_0 rfl 0 rfl ?_
  refine z_iconst (v := 0) hG dX12_sender_1 (by decide) ?_
  refine z_puti hG f_X12_47 h0 rfl rfl (zN_int _) dX12_sender_2 ?_
  refine z_topσ (fun σ1 eσ1 => ?_)
  have hw := hw σ1 eσ1
  refine z_aload_n hG dX12_sender_5 rfl 0 rfl ?_
  obtain ⟨j2, ej2, hw⟩ := hw
  refine z_getr (kq := 20) hG f_X12_7 h0 rfl ej2 rfl (by decide) dX12_sender_6 (fun hj2 => ?_)
  refine z_bipush (v := 6) hG dX12_sender_9 (by decide) ?_
  obtain ⟨q3, hw⟩ := hw
  refine z_iald hG hj2 q3 dX12_sender_11 ?_
  exact z_iret hG rfl rfl dX12_sender_12 hw
-- TypeWheelTelegraphModel.isWaiting()Z
def wX12_isWaiting (ln : Nat → Nat) (σ : zS) (t0 : Nat) (Q : Int32 → zS → Prop) : Prop := ∀ σ1 : zS, σ1 = si σ t0 0 0 → wX12_isSender ln σ1 t0 (fun r3 σ2 => ((r3 = 0 → Q 0 σ2) ∧ (¬ r3 = 0 → ∃ j4 : Nat, gr σ2 t0 1 = some j4 ∧ vp_in (7 : Int32) (ln j4) ∧ (((gi σ2 j4 (7 : Int32).toNatClampNeg) = 1 → Q 1 σ2) ∧ (¬ (gi σ2 j4 (7 : Int32).toNatClampNeg) = 1 → Q 0 σ2)))))
abbrev rX12_isWaiting : Room := { frames := 1, cells := 0, slots := 0, locals := 20 }
set_option maxRecDepth 100000 in
set_option maxHeartbeats 4000000 in
theorem MX12_isWaiting (l : Launch) {E : zE} {Y : zY} {σ : zS} {t0 : Nat} (h0 : zT Y 12 t0) {Q : Int32 → zS → Prop} (hw : wX12_isWaiting (zln Y) σ t0 Q) : ∀ sz, Met l yX12_isWaiting (zw yX12_isWaiting cX12_isWaiting 1 (some .boolean)) rX12_isWaiting (zPc E Y σ sz [.ref (za Y t0)]) (va_Qi Q (zB E Y sz) (zA Y sz)) 0 0 (zA Y sz) := by
  refine z_met (own := RX12) (Qc := fun sz => va_Qi Q (zB E Y sz) (zA Y sz)) (by decide +kernel) rfl (Nat.le_of_ble_eq_true rfl) ?_
  intro p e s m args below meth c hG hinit
  unfold wX12_isWaiting at hw
  refine zlv (lv' := [(0, .ref (za Y t0))]) rfl ?_
  refine z_aload_n hG dX12_isWaiting_0 rfl 0 rfl ?_
  refine z_iconst (v := 0) hG dX12_isWaiting_1 (by decide) ?_
  refine z_puti hG f_X12_47 h0 rfl rfl (zN_int _) dX12_isWaiting_2 ?_
  refine z_topσ (fun σ1 eσ1 => ?_)
  have hw := hw σ1 eσ1
  refine z_aload_n hG dX12_isWaiting_5 rfl 0 rfl ?_
  refine z_calli hG (z_runV (As := []) (st := []) hG k_X12_158 (MX12_isSender l h0 hw) ⟨(Nat.le_of_ble_eq_true rfl), (Nat.le_of_ble_eq_true rfl)⟩ h0 (T := TX12) (N := 23) rfl (by decide) rfl (Nat.le_of_ble_eq_true rfl) dX12_isWaiting_6 ⟨Nat.zero_le _, Nat.zero_le _⟩ rfl) (fun r3 σ2 hw => ?_)
  refine z_if_eq (tgt := 27) hG dX12_isWaiting_9 (by decide) (fun c7 => ?_) (fun c7 => ?_)
  · have hw := hw.1 c7
    refine z_iconst (v := 0) hG dX12_isWaiting_27 (by decide) ?_
    exact z_iret hG rfl (by decide +kernel) dX12_isWaiting_28 hw
  · have hw := hw.2 c7
    refine z_aload_n hG dX12_isWaiting_12 rfl 0 rfl ?_
    obtain ⟨j4, ej4, hw⟩ := hw
    refine z_getr (kq := 20) hG f_X12_7 h0 rfl ej4 rfl (by decide) dX12_isWaiting_13 (fun hj4 => ?_)
    refine z_bipush (v := 7) hG dX12_isWaiting_16 (by decide) ?_
    obtain ⟨q5, hw⟩ := hw
    refine z_iald hG hj4 q5 dX12_isWaiting_18 ?_
    refine z_iconst (v := 1) hG dX12_isWaiting_19 (by decide) ?_
    refine z_icmp_ne (tgt := 27) hG dX12_isWaiting_20 (by decide) (fun c6 => ?_) (fun c6 => ?_)
    · have hw := hw.2 c6
      refine z_iconst (v := 0) hG dX12_isWaiting_27 (by decide) ?_
      exact z_iret hG rfl (by decide +kernel) dX12_isWaiting_28 hw
    · have hw := hw.1 c6
      refine z_iconst (v := 1) hG dX12_isWaiting_23 (by decide) ?_
      refine z_goto (tgt := 28) hG dX12_isWaiting_24 (by decide) ?_
      exact z_iret hG rfl (by decide +kernel) dX12_isWaiting_28 hw
-- TypeWheelTelegraphModel.sentOfLine()I
def wX12_sentOfLine (ln : Nat → Nat) (σ : zS) (t0 : Nat) (Q : Int32 → zS → Prop) : Prop := ∀ σ1 : zS, σ1 = si σ t0 0 0 → wX12_isSender ln σ1 t0 (fun r3 σ2 => ((r3 = 0 → Q 0 σ2) ∧ (¬ r3 = 0 → ∃ j4 : Nat, gr σ2 t0 1 = some j4 ∧ vp_in (9 : Int32) (ln j4) ∧ Q (gi σ2 j4 (9 : Int32).toNatClampNeg) σ2)))
abbrev rX12_sentOfLine : Room := { frames := 1, cells := 0, slots := 0, locals := 20 }
set_option maxRecDepth 100000 in
set_option maxHeartbeats 4000000 in
theorem MX12_sentOfLine (l : Launch) {E : zE} {Y : zY} {σ : zS} {t0 : Nat} (h0 : zT Y 12 t0) {Q : Int32 → zS → Prop} (hw : wX12_sentOfLine (zln Y) σ t0 Q) : ∀ sz, Met l yX12_sentOfLine (zw yX12_sentOfLine cX12_sentOfLine 1 (some .int)) rX12_sentOfLine (zPc E Y σ sz [.ref (za Y t0)]) (va_Qi Q (zB E Y sz) (zA Y sz)) 0 0 (zA Y sz) := by
  refine z_met (own := RX12) (Qc := fun sz => va_Qi Q (zB E Y sz) (zA Y sz)) (by decide +kernel) rfl (Nat.le_of_ble_eq_true rfl) ?_
  intro p e s m args below meth c hG hinit
  unfold wX12_sentOfLine at hw
  refine zlv (lv' := [(0, .ref (za Y t0))]) rfl ?_
  refine z_aload_n hG dX12_sentOfLine_0 rfl 0 rfl ?_
  refine z_iconst (v := 0) hG dX12_sentOfLine_1 (by decide) ?_
  refine z_puti hG f_X12_47 h0 rfl rfl (zN_int _) dX12_sentOfLine_2 ?_
  refine z_topσ (fun σ1 eσ1 => ?_)
  have hw := hw σ1 eσ1
  refine z_aload_n hG dX12_sentOfLine_5 rfl 0 rfl ?_
  refine z_calli hG (z_runV (As := []) (st := []) hG k_X12_158 (MX12_isSender l h0 hw) ⟨(Nat.le_of_ble_eq_true rfl), (Nat.le_of_ble_eq_true rfl)⟩ h0 (T := TX12) (N := 23) rfl (by decide) rfl (Nat.le_of_ble_eq_true rfl) dX12_sentOfLine_6 ⟨Nat.zero_le _, Nat.zero_le _⟩ rfl) (fun r3 σ2 hw => ?_)
  refine z_if_eq (tgt := 22) hG dX12_sentOfLine_9 (by decide) (fun c6 => ?_) (fun c6 => ?_)
  · have hw := hw.1 c6
    refine z_iconst (v := 0) hG dX12_sentOfLine_22 (by decide) ?_
    exact z_iret hG rfl rfl dX12_sentOfLine_23 hw
  · have hw := hw.2 c6
    refine z_aload_n hG dX12_sentOfLine_12 rfl 0 rfl ?_
    obtain ⟨j4, ej4, hw⟩ := hw
    refine z_getr (kq := 20) hG f_X12_7 h0 rfl ej4 rfl (by decide) dX12_sentOfLine_13 (fun hj4 => ?_)
    refine z_bipush (v := 9) hG dX12_sentOfLine_16 (by decide) ?_
    obtain ⟨q5, hw⟩ := hw
    refine z_iald hG hj4 q5 dX12_sentOfLine_18 ?_
    refine z_goto (tgt := 23) hG dX12_sentOfLine_19 (by decide) ?_
    exact z_iret hG rfl rfl dX12_sentOfLine_23 hw
-- TypeWheelTelegraphModel.repetition()I
def wX12_repetition (ln : Nat → Nat) (σ : zS) (t0 : Nat) (Q : Int32 → zS → Prop) : Prop := ∀ σ1 : zS, σ1 = si σ t0 0 0 → wX12_isSender ln σ1 t0 (fun r3 σ2 => ((r3 = 0 → Q 0 σ2) ∧ (¬ r3 = 0 → ∃ j4 : Nat, gr σ2 t0 1 = some j4 ∧ vp_in (10 : Int32) (ln j4) ∧ Q (gi σ2 j4 (10 : Int32).toNatClampNeg) σ2)))
abbrev rX12_repetition : Room := { frames := 1, cells := 0, slots := 0, locals := 20 }
set_option maxRecDepth 100000 in
set_option maxHeartbeats 4000000 in
theorem MX12_repetition (l : Launch) {E : zE} {Y : zY} {σ : zS} {t0 : Nat} (h0 : zT Y 12 t0) {Q : Int32 → zS → Prop} (hw : wX12_repetition (zln Y) σ t0 Q) : ∀ sz, Met l yX12_repetition (zw yX12_repetition cX12_repetition 1 (some .int)) rX12_repetition (zPc E Y σ sz [.ref (za Y t0)]) (va_Qi Q (zB E Y sz) (zA Y sz)) 0 0 (zA Y sz) := by
  refine z_met (own := RX12) (Qc := fun sz => va_Qi Q (zB E Y sz) (zA Y sz)) (by decide +kernel) rfl (Nat.le_of_ble_eq_true rfl) ?_
  intro p e s m args below meth c hG hinit
  unfold wX12_repetition at hw
  refine zlv (lv' := [(0, .ref (za Y t0))]) rfl ?_
  refine z_aload_n hG dX12_repetition_0 rfl 0 rfl ?_
  refine z_iconst (v := 0) hG dX12_repetition_1 (by decide) ?_
  refine z_puti hG f_X12_47 h0 rfl rfl (zN_int _) dX12_repetition_2 ?_
  refine z_topσ (fun σ1 eσ1 => ?_)
  have hw := hw σ1 eσ1
  refine z_aload_n hG dX12_repetition_5 rfl 0 rfl ?_
  refine z_calli hG (z_runV (As := []) (st := []) hG k_X12_158 (MX12_isSender l h0 hw) ⟨(Nat.le_of_ble_eq_true rfl), (Nat.le_of_ble_eq_true rfl)⟩ h0 (T := TX12) (N := 23) rfl (by decide) rfl (Nat.le_of_ble_eq_true rfl) dX12_repetition_6 ⟨Nat.zero_le _, Nat.zero_le _⟩ rfl) (fun r3 σ2 hw => ?_)
  refine z_if_eq (tgt := 22) hG dX12_repetition_9 (by decide) (fun c6 => ?_) (fun c6 => ?_)
  · have hw := hw.1 c6
    refine z_iconst (v := 0) hG dX12_repetition_22 (by decide) ?_
    exact z_iret hG rfl rfl dX12_repetition_23 hw
  · have hw := hw.2 c6
    refine z_aload_n hG dX12_repetition_12 rfl 0 rfl ?_
    obtain ⟨j4, ej4, hw⟩ := hw
    refine z_getr (kq := 20) hG f_X12_7 h0 rfl ej4 rfl (by decide) dX12_repetition_13 (fun hj4 => ?_)
    refine z_bipush (v := 10) hG dX12_repetition_16 (by decide) ?_
    obtain ⟨q5, hw⟩ := hw
    refine z_iald hG hj4 q5 dX12_repetition_18 ?_
    refine z_goto (tgt := 23) hG dX12_repetition_19 (by decide) ?_
    exact z_iret hG rfl rfl dX12_repetition_23 hw
-- TypeWheelTelegraphModel.underWay()I
def wX12_underWay (ln : Nat → Nat) (σ : zS) (t0 : Nat) (Q : Int32 → zS → Prop) : Prop := ∀ σ1 : zS, σ1 = si σ t0 0 0 → ∃ j2 : Nat, gr σ1 t0 1 = some j2 ∧ vp_in (19 : Int32) (ln j2) ∧ Q (gi σ1 j2 (19 : Int32).toNatClampNeg) σ1
abbrev rX12_underWay : Room := { frames := 0, cells := 0, slots := 0, locals := 0 }
set_option maxRecDepth 100000 in
set_option maxHeartbeats 4000000 in
theorem MX12_underWay (l : Launch) {E : zE} {Y : zY} {σ : zS} {t0 : Nat} (h0 : zT Y 12 t0) {Q : Int32 → zS → Prop} (hw : wX12_underWay (zln Y) σ t0 Q) : ∀ sz, Met l yX12_underWay (zw yX12_underWay cX12_underWay 1 (some .int)) rX12_underWay (zPc E Y σ sz [.ref (za Y t0)]) (va_Qi Q (zB E Y sz) (zA Y sz)) 0 0 (zA Y sz) := by
  refine z_met (own := RX12) (Qc := fun sz => va_Qi Q (zB E Y sz) (zA Y sz)) (by decide +kernel) rfl (Nat.le_of_ble_eq_true rfl) ?_
  intro p e s m args below meth c hG hinit
  unfold wX12_underWay at hw
  refine zlv (lv' := [(0, .ref (za Y t0))]) rfl ?_
  refine z_aload_n hG dX12_underWay_0 rfl 0 rfl ?_
  refine z_iconst (v := 0) hG dX12_underWay_1 (by decide) ?_
  refine z_puti hG f_X12_47 h0 rfl rfl (zN_int _) dX12_underWay_2 ?_
  refine z_topσ (fun σ1 eσ1 => ?_)
  have hw := hw σ1 eσ1
  refine z_aload_n hG dX12_underWay_5 rfl 0 rfl ?_
  obtain ⟨j2, ej2, hw⟩ := hw
  refine z_getr (kq := 20) hG f_X12_7 h0 rfl ej2 rfl (by decide) dX12_underWay_6 (fun hj2 => ?_)
  refine z_bipush (v := 19) hG dX12_underWay_9 (by decide) ?_
  obtain ⟨q3, hw⟩ := hw
  refine z_iald hG hj2 q3 dX12_underWay_11 ?_
  exact z_iret hG rfl rfl dX12_underWay_12 hw
-- TypeWheelTelegraphModel.nextPulseIn()I
def wX12_nextPulseIn (ln : Nat → Nat) (σ : zS) (t0 : Nat) (Q : Int32 → zS → Prop) : Prop := ∀ σ1 : zS, σ1 = si σ t0 0 0 → wX12_isSender ln σ1 t0 (fun r3 σ2 => ((r3 = 0 → Q (-1) σ2) ∧ (¬ r3 = 0 → ∃ j4 : Nat, gr σ2 t0 1 = some j4 ∧ vp_in (7 : Int32) (ln j4) ∧ (((gi σ2 j4 (7 : Int32).toNatClampNeg) = 1 → Q (-1) σ2) ∧ (¬ (gi σ2 j4 (7 : Int32).toNatClampNeg) = 1 → wX12_findsOwn ln σ2 t0 (fun σ6 => ∃ j7 : Nat, gr σ6 t0 1 = some j7 ∧ vp_in (6 : Int32) (ln j7) ∧ ∀ x9 : Int32, x9 = gi σ6 j7 (6 : Int32).toNatClampNeg → ∃ j10 : Nat, gr σ6 t0 1 = some j10 ∧ ∀ x11 : Int32, x11 = 21 + x9 → vp_in x11 (ln j10) ∧ ∃ j13 : Nat, gr σ6 t0 1 = some j13 ∧ ∀ x14 : Int32, x14 = 23 + x9 → vp_in x14 (ln j13) ∧ ∃ j16 : Nat, gr σ6 t0 6 = some j16 ∧ ∃ j17 : Nat, gr σ6 t0 1 = some j17 ∧ vp_in (9 : Int32) (ln j17) ∧ ∀ x19 : Int32, x19 = gi σ6 j17 (9 : Int32).toNatClampNeg → vp_in x19 (ln j16) ∧ ∀ x21 : Int32, x21 = gi σ6 j16 x19.toNatClampNeg → ∀ x22 : Int32, x22 = gi σ6 j13 x14.toNatClampNeg → ∀ x23 : Int32, x23 = gi σ6 j10 x11.toNatClampNeg → wX12_passes ln σ6 t0 x23 x22 x21 (fun r25 σ24 => Q r25 σ24)))))))
abbrev rX12_nextPulseIn : Room := { frames := 5, cells := 0, slots := 0, locals := 112 }
set_option maxRecDepth 100000 in
set_option maxHeartbeats 4000000 in
theorem MX12_nextPulseIn (l : Launch) {E : zE} {Y : zY} {σ : zS} {t0 : Nat} (h0 : zT Y 12 t0) {Q : Int32 → zS → Prop} (hw : wX12_nextPulseIn (zln Y) σ t0 Q) : ∀ sz, Met l yX12_nextPulseIn (zw yX12_nextPulseIn cX12_nextPulseIn 2 (some .int)) rX12_nextPulseIn (zPc E Y σ sz [.ref (za Y t0)]) (va_Qi Q (zB E Y sz) (zA Y sz)) 0 0 (zA Y sz) := by
  refine z_met (own := RX12) (Qc := fun sz => va_Qi Q (zB E Y sz) (zA Y sz)) (by decide +kernel) rfl (Nat.le_of_ble_eq_true rfl) ?_
  intro p e s m args below meth c hG hinit
  unfold wX12_nextPulseIn at hw
  refine zlv (lv' := [(0, .ref (za Y t0))]) rfl ?_
  refine z_aload_n hG dX12_nextPulseIn_0 rfl 0 rfl ?_
  refine z_iconst (v := 0) hG dX12_nextPulseIn_1 (by decide) ?_
  refine z_puti hG f_X12_47 h0 rfl rfl (zN_int _) dX12_nextPulseIn_2 ?_
  refine z_topσ (fun σ1 eσ1 => ?_)
  have hw := hw σ1 eσ1
  refine z_aload_n hG dX12_nextPulseIn_5 rfl 0 rfl ?_
  refine z_calli hG (z_runV (As := []) (st := []) hG k_X12_158 (MX12_isSender l h0 hw) ⟨(Nat.le_of_ble_eq_true rfl), (Nat.le_of_ble_eq_true rfl)⟩ h0 (T := TX12) (N := 23) rfl (by decide) rfl (Nat.le_of_ble_eq_true rfl) dX12_nextPulseIn_6 ⟨Nat.zero_le _, Nat.zero_le _⟩ rfl) (fun r3 σ2 hw => ?_)
  refine z_if_eq (tgt := 23) hG dX12_nextPulseIn_9 (by decide) (fun c27 => ?_) (fun c27 => ?_)
  · have hw := hw.1 c27
    refine z_iconst (v := (-1)) hG dX12_nextPulseIn_23 (by decide) ?_
    exact z_iret hG rfl rfl dX12_nextPulseIn_24 hw
  · have hw := hw.2 c27
    refine z_aload_n hG dX12_nextPulseIn_12 rfl 0 rfl ?_
    obtain ⟨j4, ej4, hw⟩ := hw
    refine z_getr (kq := 20) hG f_X12_7 h0 rfl ej4 rfl (by decide) dX12_nextPulseIn_13 (fun hj4 => ?_)
    refine z_bipush (v := 7) hG dX12_nextPulseIn_16 (by decide) ?_
    obtain ⟨q5, hw⟩ := hw
    refine z_iald hG hj4 q5 dX12_nextPulseIn_18 ?_
    refine z_iconst (v := 1) hG dX12_nextPulseIn_19 (by decide) ?_
    refine z_icmp_ne (tgt := 25) hG dX12_nextPulseIn_20 (by decide) (fun c26 => ?_) (fun c26 => ?_)
    · have hw := hw.2 c26
      refine z_aload_n hG dX12_nextPulseIn_25 rfl 0 rfl ?_
      refine z_callv hG (z_runV (As := []) (st := []) hG k_X12_162 (MX12_findsOwn l h0 hw) ⟨(Nat.le_of_ble_eq_true rfl), (Nat.le_of_ble_eq_true rfl)⟩ h0 (T := TX12) (N := 23) rfl (by decide) rfl (Nat.le_of_ble_eq_true rfl) dX12_nextPulseIn_26 ⟨Nat.zero_le _, Nat.zero_le _⟩ rfl) (fun σ6 hw => ?_)
      refine z_aload_n hG dX12_nextPulseIn_29 rfl 0 rfl ?_
      obtain ⟨j7, ej7, hw⟩ := hw
      refine z_getr (kq := 20) hG f_X12_7 h0 rfl ej7 rfl (by decide) dX12_nextPulseIn_30 (fun hj7 => ?_)
      refine z_bipush (v := 6) hG dX12_nextPulseIn_33 (by decide) ?_
      obtain ⟨q8, hw⟩ := hw
      refine z_iald hG hj7 q8 dX12_nextPulseIn_35 ?_
      refine z_topi (fun x9 ex9 => ?_)
      have hw := hw x9 ex9
      refine z_istore_n (lv' := [(1, .int x9), (0, .ref (za Y t0))]) hG dX12_nextPulseIn_36 rfl (by decide) rfl ?_
      refine z_aload_n hG dX12_nextPulseIn_37 rfl 1 rfl ?_
      refine z_aload_n hG dX12_nextPulseIn_38 rfl 1 rfl ?_
      obtain ⟨j10, ej10, hw⟩ := hw
      refine z_getr (kq := 20) hG f_X12_7 h0 rfl ej10 rfl (by decide) dX12_nextPulseIn_39 (fun hj10 => ?_)
      refine z_bipush (v := 21) hG dX12_nextPulseIn_42 (by decide) ?_
      refine z_iload_n hG dX12_nextPulseIn_44 rfl 0 rfl ?_
      refine z_iadd hG dX12_nextPulseIn_45 ?_
      refine z_topi (fun x11 ex11 => ?_)
      have hw := hw x11 ex11
      obtain ⟨q12, hw⟩ := hw
      refine z_iald hG hj10 q12 dX12_nextPulseIn_46 ?_
      refine z_aload_n hG dX12_nextPulseIn_47 rfl 1 rfl ?_
      obtain ⟨j13, ej13, hw⟩ := hw
      refine z_getr (kq := 20) hG f_X12_7 h0 rfl ej13 rfl (by decide) dX12_nextPulseIn_48 (fun hj13 => ?_)
      refine z_bipush (v := 23) hG dX12_nextPulseIn_51 (by decide) ?_
      refine z_iload_n hG dX12_nextPulseIn_53 rfl 0 rfl ?_
      refine z_iadd hG dX12_nextPulseIn_54 ?_
      refine z_topi (fun x14 ex14 => ?_)
      have hw := hw x14 ex14
      obtain ⟨q15, hw⟩ := hw
      refine z_iald hG hj13 q15 dX12_nextPulseIn_55 ?_
      refine z_aload_n hG dX12_nextPulseIn_56 rfl 1 rfl ?_
      obtain ⟨j16, ej16, hw⟩ := hw
      refine z_getr (kq := 20) hG f_X12_23 h0 rfl ej16 rfl (by decide) dX12_nextPulseIn_57 (fun hj16 => ?_)
      refine z_aload_n hG dX12_nextPulseIn_60 rfl 1 rfl ?_
      obtain ⟨j17, ej17, hw⟩ := hw
      refine z_getr (kq := 20) hG f_X12_7 h0 rfl ej17 rfl (by decide) dX12_nextPulseIn_61 (fun hj17 => ?_)
      refine z_bipush (v := 9) hG dX12_nextPulseIn_64 (by decide) ?_
      obtain ⟨q18, hw⟩ := hw
      refine z_iald hG hj17 q18 dX12_nextPulseIn_66 ?_
      refine z_topi (fun x19 ex19 => ?_)
      have hw := hw x19 ex19
      obtain ⟨q20, hw⟩ := hw
      refine z_iald hG hj16 q20 dX12_nextPulseIn_67 ?_
      refine z_topi (fun x21 ex21 => ?_)
      have hw := hw x21 ex21
      obtain ⟨x22, ex22⟩ : ∃ y : Int32, y = gi σ6 j13 x14.toNatClampNeg := ⟨_, rfl⟩
      refine zst (st' := [.int x21, .int x22, .int (gi σ6 j10 x11.toNatClampNeg), .ref (za Y t0)]) (by rw [ex22]) ?_
      have hw := hw x22 ex22
      obtain ⟨x23, ex23⟩ : ∃ y : Int32, y = gi σ6 j10 x11.toNatClampNeg := ⟨_, rfl⟩
      refine zst (st' := [.int x21, .int x22, .int x23, .ref (za Y t0)]) (by rw [ex23]) ?_
      have hw := hw x23 ex23
      refine z_calli hG (z_runV (As := [.int x23, .int x22, .int x21]) (st := []) hG k_X12_98 (MX12_passes l h0 hw) ⟨(Nat.le_of_ble_eq_true rfl), (Nat.le_of_ble_eq_true rfl)⟩ h0 (T := TX12) (N := 23) rfl (by decide) rfl (Nat.le_of_ble_eq_true rfl) dX12_nextPulseIn_68 ⟨Nat.zero_le _, Nat.zero_le _⟩ rfl) (fun r25 σ24 hw => ?_)
      exact z_iret hG rfl rfl dX12_nextPulseIn_71 hw
    · have hw := hw.1 c26
      refine z_iconst (v := (-1)) hG dX12_nextPulseIn_23 (by decide) ?_
      exact z_iret hG rfl rfl dX12_nextPulseIn_24 hw
-- TypeWheelTelegraphModel.silence()I
def wX12_silence (ln : Nat → Nat) (σ : zS) (t0 : Nat) (Q : Int32 → zS → Prop) : Prop := ∀ σ1 : zS, σ1 = si σ t0 0 0 → wX12_isSender ln σ1 t0 (fun r3 σ2 => ((r3 = 0 → Q 0 σ2) ∧ (¬ r3 = 0 → ∃ j4 : Nat, gr σ2 t0 1 = some j4 ∧ vp_in (5 : Int32) (ln j4) ∧ ∃ j6 : Nat, gr σ2 t0 1 = some j6 ∧ vp_in (15 : Int32) (ln j6) ∧ Q ((gi σ2 j4 (5 : Int32).toNatClampNeg) - (gi σ2 j6 (15 : Int32).toNatClampNeg)) σ2)))
abbrev rX12_silence : Room := { frames := 1, cells := 0, slots := 0, locals := 20 }
set_option maxRecDepth 100000 in
set_option maxHeartbeats 4000000 in
theorem MX12_silence (l : Launch) {E : zE} {Y : zY} {σ : zS} {t0 : Nat} (h0 : zT Y 12 t0) {Q : Int32 → zS → Prop} (hw : wX12_silence (zln Y) σ t0 Q) : ∀ sz, Met l yX12_silence (zw yX12_silence cX12_silence 1 (some .int)) rX12_silence (zPc E Y σ sz [.ref (za Y t0)]) (va_Qi Q (zB E Y sz) (zA Y sz)) 0 0 (zA Y sz) := by
  refine z_met (own := RX12) (Qc := fun sz => va_Qi Q (zB E Y sz) (zA Y sz)) (by decide +kernel) rfl (Nat.le_of_ble_eq_true rfl) ?_
  intro p e s m args below meth c hG hinit
  unfold wX12_silence at hw
  refine zlv (lv' := [(0, .ref (za Y t0))]) rfl ?_
  refine z_aload_n hG dX12_silence_0 rfl 0 rfl ?_
  refine z_iconst (v := 0) hG dX12_silence_1 (by decide) ?_
  refine z_puti hG f_X12_47 h0 rfl rfl (zN_int _) dX12_silence_2 ?_
  refine z_topσ (fun σ1 eσ1 => ?_)
  have hw := hw σ1 eσ1
  refine z_aload_n hG dX12_silence_5 rfl 0 rfl ?_
  refine z_calli hG (z_runV (As := []) (st := []) hG k_X12_158 (MX12_isSender l h0 hw) ⟨(Nat.le_of_ble_eq_true rfl), (Nat.le_of_ble_eq_true rfl)⟩ h0 (T := TX12) (N := 23) rfl (by decide) rfl (Nat.le_of_ble_eq_true rfl) dX12_silence_6 ⟨Nat.zero_le _, Nat.zero_le _⟩ rfl) (fun r3 σ2 hw => ?_)
  refine z_if_eq (tgt := 29) hG dX12_silence_9 (by decide) (fun c8 => ?_) (fun c8 => ?_)
  · have hw := hw.1 c8
    refine z_iconst (v := 0) hG dX12_silence_29 (by decide) ?_
    exact z_iret hG rfl rfl dX12_silence_30 hw
  · have hw := hw.2 c8
    refine z_aload_n hG dX12_silence_12 rfl 0 rfl ?_
    obtain ⟨j4, ej4, hw⟩ := hw
    refine z_getr (kq := 20) hG f_X12_7 h0 rfl ej4 rfl (by decide) dX12_silence_13 (fun hj4 => ?_)
    refine z_iconst (v := 5) hG dX12_silence_16 (by decide) ?_
    obtain ⟨q5, hw⟩ := hw
    refine z_iald hG hj4 q5 dX12_silence_17 ?_
    refine z_aload_n hG dX12_silence_18 rfl 0 rfl ?_
    obtain ⟨j6, ej6, hw⟩ := hw
    refine z_getr (kq := 20) hG f_X12_7 h0 rfl ej6 rfl (by decide) dX12_silence_19 (fun hj6 => ?_)
    refine z_bipush (v := 15) hG dX12_silence_22 (by decide) ?_
    obtain ⟨q7, hw⟩ := hw
    refine z_iald hG hj6 q7 dX12_silence_24 ?_
    refine z_isub hG dX12_silence_25 ?_
    refine z_goto (tgt := 30) hG dX12_silence_26 (by decide) ?_
    exact z_iret hG rfl rfl dX12_silence_30 hw
-- TypeWheelTelegraphModel.bufferMany()I
def wX12_bufferMany (ln : Nat → Nat) (σ : zS) (t0 : Nat) (Q : Int32 → zS → Prop) : Prop := wX12_isSender ln σ t0 (fun r2 σ1 => ((r2 = 0 → Q 0 σ1) ∧ (¬ r2 = 0 → ∃ j3 : Nat, gr σ1 t0 1 = some j3 ∧ vp_in (11 : Int32) (ln j3) ∧ Q (gi σ1 j3 (11 : Int32).toNatClampNeg) σ1)))
abbrev rX12_bufferMany : Room := { frames := 1, cells := 0, slots := 0, locals := 20 }
set_option maxRecDepth 100000 in
set_option maxHeartbeats 4000000 in
theorem MX12_bufferMany (l : Launch) {E : zE} {Y : zY} {σ : zS} {t0 : Nat} (h0 : zT Y 12 t0) {Q : Int32 → zS → Prop} (hw : wX12_bufferMany (zln Y) σ t0 Q) : ∀ sz, Met l yX12_bufferMany (zw yX12_bufferMany cX12_bufferMany 1 (some .int)) rX12_bufferMany (zPc E Y σ sz [.ref (za Y t0)]) (va_Qi Q (zB E Y sz) (zA Y sz)) 0 0 (zA Y sz) := by
  refine z_met (own := RX12) (Qc := fun sz => va_Qi Q (zB E Y sz) (zA Y sz)) (by decide +kernel) rfl (Nat.le_of_ble_eq_true rfl) ?_
  intro p e s m args below meth c hG hinit
  unfold wX12_bufferMany at hw
  refine zlv (lv' := [(0, .ref (za Y t0))]) rfl ?_
  refine z_aload_n hG dX12_bufferMany_0 rfl 0 rfl ?_
  refine z_calli hG (z_runV (As := []) (st := []) hG k_X12_158 (MX12_isSender l h0 hw) ⟨(Nat.le_of_ble_eq_true rfl), (Nat.le_of_ble_eq_true rfl)⟩ h0 (T := TX12) (N := 23) rfl (by decide) rfl (Nat.le_of_ble_eq_true rfl) dX12_bufferMany_1 ⟨Nat.zero_le _, Nat.zero_le _⟩ rfl) (fun r2 σ1 hw => ?_)
  refine z_if_eq (tgt := 17) hG dX12_bufferMany_4 (by decide) (fun c5 => ?_) (fun c5 => ?_)
  · have hw := hw.1 c5
    refine z_iconst (v := 0) hG dX12_bufferMany_17 (by decide) ?_
    exact z_iret hG rfl rfl dX12_bufferMany_18 hw
  · have hw := hw.2 c5
    refine z_aload_n hG dX12_bufferMany_7 rfl 0 rfl ?_
    obtain ⟨j3, ej3, hw⟩ := hw
    refine z_getr (kq := 20) hG f_X12_7 h0 rfl ej3 rfl (by decide) dX12_bufferMany_8 (fun hj3 => ?_)
    refine z_bipush (v := 11) hG dX12_bufferMany_11 (by decide) ?_
    obtain ⟨q4, hw⟩ := hw
    refine z_iald hG hj3 q4 dX12_bufferMany_13 ?_
    refine z_goto (tgt := 18) hG dX12_bufferMany_14 (by decide) ?_
    exact z_iret hG rfl rfl dX12_bufferMany_18 hw
-- TypeWheelTelegraphModel.bufferLength()I
def wX12_bufferLength (ln : Nat → Nat) (σ : zS) (t0 : Nat) (Q : Int32 → zS → Prop) : Prop := ∀ σ1 : zS, σ1 = si σ t0 0 0 → wX12_bufferMany ln σ1 t0 (fun r3 σ2 => Q r3 σ2)
abbrev rX12_bufferLength : Room := { frames := 2, cells := 0, slots := 0, locals := 40 }
set_option maxRecDepth 100000 in
set_option maxHeartbeats 4000000 in
theorem MX12_bufferLength (l : Launch) {E : zE} {Y : zY} {σ : zS} {t0 : Nat} (h0 : zT Y 12 t0) {Q : Int32 → zS → Prop} (hw : wX12_bufferLength (zln Y) σ t0 Q) : ∀ sz, Met l yX12_bufferLength (zw yX12_bufferLength cX12_bufferLength 1 (some .int)) rX12_bufferLength (zPc E Y σ sz [.ref (za Y t0)]) (va_Qi Q (zB E Y sz) (zA Y sz)) 0 0 (zA Y sz) := by
  refine z_met (own := RX12) (Qc := fun sz => va_Qi Q (zB E Y sz) (zA Y sz)) (by decide +kernel) rfl (Nat.le_of_ble_eq_true rfl) ?_
  intro p e s m args below meth c hG hinit
  unfold wX12_bufferLength at hw
  refine zlv (lv' := [(0, .ref (za Y t0))]) rfl ?_
  refine z_aload_n hG dX12_bufferLength_0 rfl 0 rfl ?_
  refine z_iconst (v := 0) hG dX12_bufferLength_1 (by decide) ?_
  refine z_puti hG f_X12_47 h0 rfl rfl (zN_int _) dX12_bufferLength_2 ?_
  refine z_topσ (fun σ1 eσ1 => ?_)
  have hw := hw σ1 eσ1
  refine z_aload_n hG dX12_bufferLength_5 rfl 0 rfl ?_
  refine z_calli hG (z_runV (As := []) (st := []) hG k_X12_189 (MX12_bufferMany l h0 hw) ⟨(Nat.le_of_ble_eq_true rfl), (Nat.le_of_ble_eq_true rfl)⟩ h0 (T := TX12) (N := 23) rfl (by decide) rfl (Nat.le_of_ble_eq_true rfl) dX12_bufferLength_6 ⟨Nat.zero_le _, Nat.zero_le _⟩ rfl) (fun r3 σ2 hw => ?_)
  exact z_iret hG rfl rfl dX12_bufferLength_9 hw
-- TypeWheelTelegraphModel.bufferCharacter(I)C
def wX12_bufferCharacter (ln : Nat → Nat) (σ : zS) (t0 : Nat) (v1 : Int32) (Q : Int32 → zS → Prop) : Prop := ∀ σ1 : zS, σ1 = si σ t0 0 0 → wX12_bufferMany ln σ1 t0 (fun r3 σ2 => ∀ x4 : Int64, x4 = (r3 - 1).toInt64 → ∀ x5 : Int64, x5 = v1.toInt64 → wX12_isIn ln σ2 x5 0 x4 (fun r7 σ6 => ((r7 = 0 → wX12_raise ln σ6 t0 1 (fun r13 σ12 => Q ((r13.toUInt32 % 65536).toInt32) σ12)) ∧ (¬ r7 = 0 → ∃ j8 : Nat, gr σ6 t0 1 = some j8 ∧ ∀ x9 : Int32, x9 = 59 + v1 → vp_in x9 (ln j8) ∧ ∀ x11 : Int32, x11 = gi σ6 j8 x9.toNatClampNeg → Q ((x11.toUInt32 % 65536).toInt32) σ6))))
abbrev rX12_bufferCharacter : Room := { frames := 2, cells := 0, slots := 0, locals := 40 }
set_option maxRecDepth 100000 in
set_option maxHeartbeats 4000000 in
theorem MX12_bufferCharacter (l : Launch) {E : zE} {Y : zY} {σ : zS} {t0 : Nat} {v1 : Int32} (h0 : zT Y 12 t0) {Q : Int32 → zS → Prop} (hw : wX12_bufferCharacter (zln Y) σ t0 v1 Q) : ∀ sz, Met l yX12_bufferCharacter (zw yX12_bufferCharacter cX12_bufferCharacter 2 (some .char)) rX12_bufferCharacter (zPc E Y σ sz [.ref (za Y t0), .int v1]) (va_Qi Q (zB E Y sz) (zA Y sz)) 0 0 (zA Y sz) := by
  refine z_met (own := RX12) (Qc := fun sz => va_Qi Q (zB E Y sz) (zA Y sz)) (by decide +kernel) rfl (Nat.le_of_ble_eq_true rfl) ?_
  intro p e s m args below meth c hG hinit
  unfold wX12_bufferCharacter at hw
  refine zlv (lv' := [(0, .ref (za Y t0)), (1, .int v1)]) rfl ?_
  refine z_aload_n hG dX12_bufferCharacter_0 rfl 0 rfl ?_
  refine z_iconst (v := 0) hG dX12_bufferCharacter_1 (by decide) ?_
  refine z_puti hG f_X12_47 h0 rfl rfl (zN_int _) dX12_bufferCharacter_2 ?_
  refine z_topσ (fun σ1 eσ1 => ?_)
  have hw := hw σ1 eσ1
  refine z_iload_n hG dX12_bufferCharacter_5 rfl 1 rfl ?_
  refine z_i2l hG dX12_bufferCharacter_6 ?_
  refine z_lconst (v := 0) hG dX12_bufferCharacter_7 (by decide) ?_
  refine z_aload_n hG dX12_bufferCharacter_8 rfl 0 rfl ?_
  refine z_calli hG (z_runV (As := []) (st := [.long 0, .long v1.toInt64]) hG k_X12_189 (MX12_bufferMany l h0 hw) ⟨(Nat.le_of_ble_eq_true rfl), (Nat.le_of_ble_eq_true rfl)⟩ h0 (T := TX12) (N := 23) rfl (by decide) rfl (Nat.le_of_ble_eq_true rfl) dX12_bufferCharacter_9 ⟨Nat.zero_le _, Nat.zero_le _⟩ rfl) (fun r3 σ2 hw => ?_)
  refine z_iconst (v := 1) hG dX12_bufferCharacter_12 (by decide) ?_
  refine z_isub hG dX12_bufferCharacter_13 ?_
  refine z_i2l hG dX12_bufferCharacter_14 ?_
  refine z_topl (fun x4 ex4 => ?_)
  have hw := hw x4 ex4
  obtain ⟨x5, ex5⟩ : ∃ y : Int64, y = v1.toInt64 := ⟨_, rfl⟩
  refine zst (st' := [.long x4, .long 0, .long x5]) (by rw [ex5]) ?_
  have hw := hw x5 ex5
  refine z_calli hG (z_runS (As := [.long x5, .long 0, .long x4]) (st := []) hG k_X12_58 (MX12_isIn l hw) ⟨(Nat.le_of_ble_eq_true rfl), (Nat.le_of_ble_eq_true rfl)⟩ rfl (Nat.le_of_ble_eq_true rfl) dX12_bufferCharacter_15 ⟨Nat.zero_le _, Nat.zero_le _⟩ rfl) (fun r7 σ6 hw => ?_)
  refine z_if_ne (tgt := 28) hG dX12_bufferCharacter_18 (by decide) (fun c14 => ?_) (fun c14 => ?_)
  · have hw := hw.2 c14
    refine z_aload_n hG dX12_bufferCharacter_28 rfl 0 rfl ?_
    obtain ⟨j8, ej8, hw⟩ := hw
    refine z_getr (kq := 20) hG f_X12_7 h0 rfl ej8 rfl (by decide) dX12_bufferCharacter_29 (fun hj8 => ?_)
    refine z_bipush (v := 59) hG dX12_bufferCharacter_32 (by decide) ?_
    refine z_iload_n hG dX12_bufferCharacter_34 rfl 1 rfl ?_
    refine z_iadd hG dX12_bufferCharacter_35 ?_
    refine z_topi (fun x9 ex9 => ?_)
    have hw := hw x9 ex9
    obtain ⟨q10, hw⟩ := hw
    refine z_iald hG hj8 q10 dX12_bufferCharacter_36 ?_
    refine z_topi (fun x11 ex11 => ?_)
    have hw := hw x11 ex11
    refine z_i2c hG dX12_bufferCharacter_37 ?_
    exact z_iret hG rfl (pk_nc _) dX12_bufferCharacter_38 hw
  · have hw := hw.1 c14
    refine z_aload_n hG dX12_bufferCharacter_21 rfl 0 rfl ?_
    refine z_iconst (v := 1) hG dX12_bufferCharacter_22 (by decide) ?_
    refine z_calli hG (z_runV (As := [.int 1]) (st := []) hG k_X12_174 (MX12_raise l h0 hw) ⟨(Nat.le_of_ble_eq_true rfl), (Nat.le_of_ble_eq_true rfl)⟩ h0 (T := TX12) (N := 23) rfl (by decide) rfl (Nat.le_of_ble_eq_true rfl) dX12_bufferCharacter_23 ⟨Nat.zero_le _, Nat.zero_le _⟩ rfl) (fun r13 σ12 hw => ?_)
    refine z_i2c hG dX12_bufferCharacter_26 ?_
    exact z_iret hG rfl (pk_nc _) dX12_bufferCharacter_27 hw
-- TypeWheelTelegraphModel.receivedLength(I)I
def wX12_receivedLength (ln : Nat → Nat) (σ : zS) (t0 : Nat) (v1 : Int32) (Q : Int32 → zS → Prop) : Prop := wX12_ofOffice ln σ t0 v1 29 (fun r2 σ1 => Q r2 σ1)
abbrev rX12_receivedLength : Room := { frames := 2, cells := 0, slots := 0, locals := 43 }
set_option maxRecDepth 100000 in
set_option maxHeartbeats 4000000 in
theorem MX12_receivedLength (l : Launch) {E : zE} {Y : zY} {σ : zS} {t0 : Nat} {v1 : Int32} (h0 : zT Y 12 t0) {Q : Int32 → zS → Prop} (hw : wX12_receivedLength (zln Y) σ t0 v1 Q) : ∀ sz, Met l yX12_receivedLength (zw yX12_receivedLength cX12_receivedLength 2 (some .int)) rX12_receivedLength (zPc E Y σ sz [.ref (za Y t0), .int v1]) (va_Qi Q (zB E Y sz) (zA Y sz)) 0 0 (zA Y sz) := by
  refine z_met (own := RX12) (Qc := fun sz => va_Qi Q (zB E Y sz) (zA Y sz)) (by decide +kernel) rfl (Nat.le_of_ble_eq_true rfl) ?_
  intro p e s m args below meth c hG hinit
  unfold wX12_receivedLength at hw
  refine zlv (lv' := [(0, .ref (za Y t0)), (1, .int v1)]) rfl ?_
  refine z_aload_n hG dX12_receivedLength_0 rfl 0 rfl ?_
  refine z_iload_n hG dX12_receivedLength_1 rfl 1 rfl ?_
  refine z_bipush (v := 29) hG dX12_receivedLength_2 (by decide) ?_
  refine z_calli hG (z_runV (As := [.int v1, .int 29]) (st := []) hG k_X12_177 (MX12_ofOffice l h0 hw) ⟨(Nat.le_of_ble_eq_true rfl), (Nat.le_of_ble_eq_true rfl)⟩ h0 (T := TX12) (N := 23) rfl (by decide) rfl (Nat.le_of_ble_eq_true rfl) dX12_receivedLength_4 ⟨Nat.zero_le _, Nat.zero_le _⟩ rfl) (fun r2 σ1 hw => ?_)
  exact z_iret hG rfl rfl dX12_receivedLength_7 hw
-- TypeWheelTelegraphModel.receivedCharacter(II)C
def wX12_receivedCharacter_33 (ln : Nat → Nat) (Q : Int32 → zS → Prop) (t0 : Nat) (σ : zS) : Prop := wX12_raise ln σ t0 1 (fun r2 σ1 => Q ((r2.toUInt32 % 65536).toInt32) σ1)
def wX12_receivedCharacter (ln : Nat → Nat) (σ : zS) (t0 : Nat) (v1 : Int32) (v2 : Int32) (Q : Int32 → zS → Prop) : Prop := ∀ σ1 : zS, σ1 = si σ t0 0 0 → wX12_isOffice ln σ1 v1 (fun r3 σ2 => ((r3 = 0 → wX12_receivedCharacter_33 ln Q t0 σ2) ∧ (¬ r3 = 0 → ∃ j4 : Nat, gr σ2 t0 1 = some j4 ∧ ∀ x5 : Int32, x5 = 29 + v1 → vp_in x5 (ln j4) ∧ ∀ x7 : Int64, x7 = ((gi σ2 j4 x5.toNatClampNeg) - 1).toInt64 → ∀ x8 : Int64, x8 = v2.toInt64 → wX12_isIn ln σ2 x8 0 x7 (fun r10 σ9 => ((r10 = 0 → wX12_receivedCharacter_33 ln Q t0 σ9) ∧ (¬ r10 = 0 → ∃ j11 : Nat, gr σ9 t0 1 = some j11 ∧ ∀ x12 : Int32, x12 = (963 + (1000 * v1)) + v2 → vp_in x12 (ln j11) ∧ ∀ x14 : Int32, x14 = gi σ9 j11 x12.toNatClampNeg → Q ((x14.toUInt32 % 65536).toInt32) σ9))))))
abbrev rX12_receivedCharacter : Room := { frames := 1, cells := 0, slots := 0, locals := 25 }
set_option maxRecDepth 100000 in
set_option maxHeartbeats 4000000 in
theorem BX12_receivedCharacter_33 {l : Launch} {E : zE} {Y : zY} {p : Program} {e : Env} {s : State} {m : MethodId} {args : Array Value} {below : List Frame} {meth : Method} {c : Code} (hG : zG E p l s m args meth c cX12_receivedCharacter 3 RX12 (some .char) (zA Y s.heap.size)) {Q : Int32 → zS → Prop} : ∀ (t0 : Nat) (σ : zS), wX12_receivedCharacter_33 (zln Y) Q t0 σ → zT Y 12 t0 → WW E Y σ p l e rX12_receivedCharacter s m args below meth c (zA Y s.heap.size) 3 0 0 (MQ below (va_Qi Q (zB E Y s.heap.size) (zA Y s.heap.size)) args s 0 0 (zA Y s.heap.size)) [(0, .ref (za Y t0))] 33 [] := by
  intro t0 σ hw h0
  unfold wX12_receivedCharacter_33 at hw
  refine z_aload_n hG dX12_receivedCharacter_33 rfl 0 rfl ?_
  refine z_iconst (v := 1) hG dX12_receivedCharacter_34 (by decide) ?_
  refine z_calli hG (z_runV (As := [.int 1]) (st := []) hG k_X12_174 (MX12_raise l h0 hw) ⟨(Nat.le_of_ble_eq_true rfl), (Nat.le_of_ble_eq_true rfl)⟩ h0 (T := TX12) (N := 23) rfl (by decide) rfl (Nat.le_of_ble_eq_true rfl) dX12_receivedCharacter_35 ⟨Nat.zero_le _, Nat.zero_le _⟩ rfl) (fun r2 σ1 hw => ?_)
  refine z_i2c hG dX12_receivedCharacter_38 ?_
  exact z_iret hG rfl (pk_nc _) dX12_receivedCharacter_39 hw
set_option maxRecDepth 100000 in
set_option maxHeartbeats 4000000 in
theorem MX12_receivedCharacter (l : Launch) {E : zE} {Y : zY} {σ : zS} {t0 : Nat} {v1 : Int32} {v2 : Int32} (h0 : zT Y 12 t0) {Q : Int32 → zS → Prop} (hw : wX12_receivedCharacter (zln Y) σ t0 v1 v2 Q) : ∀ sz, Met l yX12_receivedCharacter (zw yX12_receivedCharacter cX12_receivedCharacter 3 (some .char)) rX12_receivedCharacter (zPc E Y σ sz [.ref (za Y t0), .int v1, .int v2]) (va_Qi Q (zB E Y sz) (zA Y sz)) 0 0 (zA Y sz) := by
  refine z_met (own := RX12) (Qc := fun sz => va_Qi Q (zB E Y sz) (zA Y sz)) (by decide +kernel) rfl (Nat.le_of_ble_eq_true rfl) ?_
  intro p e s m args below meth c hG hinit
  unfold wX12_receivedCharacter at hw
  refine zlv (lv' := [(0, .ref (za Y t0)), (1, .int v1), (2, .int v2)]) rfl ?_
  refine z_aload_n hG dX12_receivedCharacter_0 rfl 0 rfl ?_
  refine z_iconst (v := 0) hG dX12_receivedCharacter_1 (by decide) ?_
  refine z_puti hG f_X12_47 h0 rfl rfl (zN_int _) dX12_receivedCharacter_2 ?_
  refine z_topσ (fun σ1 eσ1 => ?_)
  have hw := hw σ1 eσ1
  refine z_iload_n hG dX12_receivedCharacter_5 rfl 1 rfl ?_
  refine z_calli hG (z_runS (As := [.int v1]) (st := []) hG k_X12_54 (MX12_isOffice l hw) ⟨(Nat.le_of_ble_eq_true rfl), (Nat.le_of_ble_eq_true rfl)⟩ rfl (Nat.le_of_ble_eq_true rfl) dX12_receivedCharacter_6 ⟨Nat.zero_le _, Nat.zero_le _⟩ rfl) (fun r3 σ2 hw => ?_)
  refine z_if_eq (tgt := 33) hG dX12_receivedCharacter_9 (by decide) (fun c16 => ?_) (fun c16 => ?_)
  · have hw := hw.1 c16
    refine zpick [0] (lv' := [(0, .ref (za Y t0))]) rfl ?_
    exact BX12_receivedCharacter_33 hG t0 σ2 hw h0
  · have hw := hw.2 c16
    refine z_iload_n hG dX12_receivedCharacter_12 rfl 2 rfl ?_
    refine z_i2l hG dX12_receivedCharacter_13 ?_
    refine z_lconst (v := 0) hG dX12_receivedCharacter_14 (by decide) ?_
    refine z_aload_n hG dX12_receivedCharacter_15 rfl 0 rfl ?_
    obtain ⟨j4, ej4, hw⟩ := hw
    refine z_getr (kq := 20) hG f_X12_7 h0 rfl ej4 rfl (by decide) dX12_receivedCharacter_16 (fun hj4 => ?_)
    refine z_bipush (v := 29) hG dX12_receivedCharacter_19 (by decide) ?_
    refine z_iload_n hG dX12_receivedCharacter_21 rfl 1 rfl ?_
    refine z_iadd hG dX12_receivedCharacter_22 ?_
    refine z_topi (fun x5 ex5 => ?_)
    have hw := hw x5 ex5
    obtain ⟨q6, hw⟩ := hw
    refine z_iald hG hj4 q6 dX12_receivedCharacter_23 ?_
    refine z_iconst (v := 1) hG dX12_receivedCharacter_24 (by decide) ?_
    refine z_isub hG dX12_receivedCharacter_25 ?_
    refine z_i2l hG dX12_receivedCharacter_26 ?_
    refine z_topl (fun x7 ex7 => ?_)
    have hw := hw x7 ex7
    obtain ⟨x8, ex8⟩ : ∃ y : Int64, y = v2.toInt64 := ⟨_, rfl⟩
    refine zst (st' := [.long x7, .long 0, .long x8]) (by rw [ex8]) ?_
    have hw := hw x8 ex8
    refine z_calli hG (z_runS (As := [.long x8, .long 0, .long x7]) (st := []) hG k_X12_58 (MX12_isIn l hw) ⟨(Nat.le_of_ble_eq_true rfl), (Nat.le_of_ble_eq_true rfl)⟩ rfl (Nat.le_of_ble_eq_true rfl) dX12_receivedCharacter_27 ⟨Nat.zero_le _, Nat.zero_le _⟩ rfl) (fun r10 σ9 hw => ?_)
    refine z_if_ne (tgt := 40) hG dX12_receivedCharacter_30 (by decide) (fun c15 => ?_) (fun c15 => ?_)
    · have hw := hw.2 c15
      refine z_aload_n hG dX12_receivedCharacter_40 rfl 0 rfl ?_
      obtain ⟨j11, ej11, hw⟩ := hw
      refine z_getr (kq := 20) hG f_X12_7 h0 rfl ej11 rfl (by decide) dX12_receivedCharacter_41 (fun hj11 => ?_)
      refine z_sipush (v := 963) hG dX12_receivedCharacter_44 (by decide) ?_
      refine z_sipush (v := 1000) hG dX12_receivedCharacter_47 (by decide) ?_
      refine z_iload_n hG dX12_receivedCharacter_50 rfl 1 rfl ?_
      refine z_imul hG dX12_receivedCharacter_51 ?_
      refine z_iadd hG dX12_receivedCharacter_52 ?_
      refine z_iload_n hG dX12_receivedCharacter_53 rfl 2 rfl ?_
      refine z_iadd hG dX12_receivedCharacter_54 ?_
      refine z_topi (fun x12 ex12 => ?_)
      have hw := hw x12 ex12
      obtain ⟨q13, hw⟩ := hw
      refine z_iald hG hj11 q13 dX12_receivedCharacter_55 ?_
      refine z_topi (fun x14 ex14 => ?_)
      have hw := hw x14 ex14
      refine z_i2c hG dX12_receivedCharacter_56 ?_
      exact z_iret hG rfl (pk_nc _) dX12_receivedCharacter_57 hw
    · have hw := hw.1 c15
      refine zpick [0] (lv' := [(0, .ref (za Y t0))]) rfl ?_
      exact BX12_receivedCharacter_33 hG t0 σ9 hw h0
-- TypeWheelTelegraphModel.pulses()I
def wX12_pulses (ln : Nat → Nat) (σ : zS) (t0 : Nat) (Q : Int32 → zS → Prop) : Prop := ∀ σ1 : zS, σ1 = si σ t0 0 0 → ∃ j2 : Nat, gr σ1 t0 1 = some j2 ∧ vp_in (16 : Int32) (ln j2) ∧ Q (gi σ1 j2 (16 : Int32).toNatClampNeg) σ1
abbrev rX12_pulses : Room := { frames := 0, cells := 0, slots := 0, locals := 0 }
set_option maxRecDepth 100000 in
set_option maxHeartbeats 4000000 in
theorem MX12_pulses (l : Launch) {E : zE} {Y : zY} {σ : zS} {t0 : Nat} (h0 : zT Y 12 t0) {Q : Int32 → zS → Prop} (hw : wX12_pulses (zln Y) σ t0 Q) : ∀ sz, Met l yX12_pulses (zw yX12_pulses cX12_pulses 1 (some .int)) rX12_pulses (zPc E Y σ sz [.ref (za Y t0)]) (va_Qi Q (zB E Y sz) (zA Y sz)) 0 0 (zA Y sz) := by
  refine z_met (own := RX12) (Qc := fun sz => va_Qi Q (zB E Y sz) (zA Y sz)) (by decide +kernel) rfl (Nat.le_of_ble_eq_true rfl) ?_
  intro p e s m args below meth c hG hinit
  unfold wX12_pulses at hw
  refine zlv (lv' := [(0, .ref (za Y t0))]) rfl ?_
  refine z_aload_n hG dX12_pulses_0 rfl 0 rfl ?_
  refine z_iconst (v := 0) hG dX12_pulses_1 (by decide) ?_
  refine z_puti hG f_X12_47 h0 rfl rfl (zN_int _) dX12_pulses_2 ?_
  refine z_topσ (fun σ1 eσ1 => ?_)
  have hw := hw σ1 eσ1
  refine z_aload_n hG dX12_pulses_5 rfl 0 rfl ?_
  obtain ⟨j2, ej2, hw⟩ := hw
  refine z_getr (kq := 20) hG f_X12_7 h0 rfl ej2 rfl (by decide) dX12_pulses_6 (fun hj2 => ?_)
  refine z_bipush (v := 16) hG dX12_pulses_9 (by decide) ?_
  obtain ⟨q3, hw⟩ := hw
  refine z_iald hG hj2 q3 dX12_pulses_11 ?_
  exact z_iret hG rfl rfl dX12_pulses_12 hw
-- TypeWheelTelegraphModel.lostPulses()I
def wX12_lostPulses (ln : Nat → Nat) (σ : zS) (t0 : Nat) (Q : Int32 → zS → Prop) : Prop := ∀ σ1 : zS, σ1 = si σ t0 0 0 → ∃ j2 : Nat, gr σ1 t0 1 = some j2 ∧ vp_in (17 : Int32) (ln j2) ∧ Q (gi σ1 j2 (17 : Int32).toNatClampNeg) σ1
abbrev rX12_lostPulses : Room := { frames := 0, cells := 0, slots := 0, locals := 0 }
set_option maxRecDepth 100000 in
set_option maxHeartbeats 4000000 in
theorem MX12_lostPulses (l : Launch) {E : zE} {Y : zY} {σ : zS} {t0 : Nat} (h0 : zT Y 12 t0) {Q : Int32 → zS → Prop} (hw : wX12_lostPulses (zln Y) σ t0 Q) : ∀ sz, Met l yX12_lostPulses (zw yX12_lostPulses cX12_lostPulses 1 (some .int)) rX12_lostPulses (zPc E Y σ sz [.ref (za Y t0)]) (va_Qi Q (zB E Y sz) (zA Y sz)) 0 0 (zA Y sz) := by
  refine z_met (own := RX12) (Qc := fun sz => va_Qi Q (zB E Y sz) (zA Y sz)) (by decide +kernel) rfl (Nat.le_of_ble_eq_true rfl) ?_
  intro p e s m args below meth c hG hinit
  unfold wX12_lostPulses at hw
  refine zlv (lv' := [(0, .ref (za Y t0))]) rfl ?_
  refine z_aload_n hG dX12_lostPulses_0 rfl 0 rfl ?_
  refine z_iconst (v := 0) hG dX12_lostPulses_1 (by decide) ?_
  refine z_puti hG f_X12_47 h0 rfl rfl (zN_int _) dX12_lostPulses_2 ?_
  refine z_topσ (fun σ1 eσ1 => ?_)
  have hw := hw σ1 eσ1
  refine z_aload_n hG dX12_lostPulses_5 rfl 0 rfl ?_
  obtain ⟨j2, ej2, hw⟩ := hw
  refine z_getr (kq := 20) hG f_X12_7 h0 rfl ej2 rfl (by decide) dX12_lostPulses_6 (fun hj2 => ?_)
  refine z_bipush (v := 17) hG dX12_lostPulses_9 (by decide) ?_
  obtain ⟨q3, hw⟩ := hw
  refine z_iald hG hj2 q3 dX12_lostPulses_11 ?_
  exact z_iret hG rfl rfl dX12_lostPulses_12 hw
-- TypeWheelTelegraphModel.prints(I)I
def wX12_prints (ln : Nat → Nat) (σ : zS) (t0 : Nat) (v1 : Int32) (Q : Int32 → zS → Prop) : Prop := wX12_ofOffice ln σ t0 v1 31 (fun r2 σ1 => Q r2 σ1)
abbrev rX12_prints : Room := { frames := 2, cells := 0, slots := 0, locals := 43 }
set_option maxRecDepth 100000 in
set_option maxHeartbeats 4000000 in
theorem MX12_prints (l : Launch) {E : zE} {Y : zY} {σ : zS} {t0 : Nat} {v1 : Int32} (h0 : zT Y 12 t0) {Q : Int32 → zS → Prop} (hw : wX12_prints (zln Y) σ t0 v1 Q) : ∀ sz, Met l yX12_prints (zw yX12_prints cX12_prints 2 (some .int)) rX12_prints (zPc E Y σ sz [.ref (za Y t0), .int v1]) (va_Qi Q (zB E Y sz) (zA Y sz)) 0 0 (zA Y sz) := by
  refine z_met (own := RX12) (Qc := fun sz => va_Qi Q (zB E Y sz) (zA Y sz)) (by decide +kernel) rfl (Nat.le_of_ble_eq_true rfl) ?_
  intro p e s m args below meth c hG hinit
  unfold wX12_prints at hw
  refine zlv (lv' := [(0, .ref (za Y t0)), (1, .int v1)]) rfl ?_
  refine z_aload_n hG dX12_prints_0 rfl 0 rfl ?_
  refine z_iload_n hG dX12_prints_1 rfl 1 rfl ?_
  refine z_bipush (v := 31) hG dX12_prints_2 (by decide) ?_
  refine z_calli hG (z_runV (As := [.int v1, .int 31]) (st := []) hG k_X12_177 (MX12_ofOffice l h0 hw) ⟨(Nat.le_of_ble_eq_true rfl), (Nat.le_of_ble_eq_true rfl)⟩ h0 (T := TX12) (N := 23) rfl (by decide) rfl (Nat.le_of_ble_eq_true rfl) dX12_prints_4 ⟨Nat.zero_le _, Nat.zero_le _⟩ rfl) (fun r2 σ1 hw => ?_)
  exact z_iret hG rfl rfl dX12_prints_7 hw
-- TypeWheelTelegraphModel.misprints(I)I
def wX12_misprints (ln : Nat → Nat) (σ : zS) (t0 : Nat) (v1 : Int32) (Q : Int32 → zS → Prop) : Prop := wX12_ofOffice ln σ t0 v1 33 (fun r2 σ1 => Q r2 σ1)
abbrev rX12_misprints : Room := { frames := 2, cells := 0, slots := 0, locals := 43 }
set_option maxRecDepth 100000 in
set_option maxHeartbeats 4000000 in
theorem MX12_misprints (l : Launch) {E : zE} {Y : zY} {σ : zS} {t0 : Nat} {v1 : Int32} (h0 : zT Y 12 t0) {Q : Int32 → zS → Prop} (hw : wX12_misprints (zln Y) σ t0 v1 Q) : ∀ sz, Met l yX12_misprints (zw yX12_misprints cX12_misprints 2 (some .int)) rX12_misprints (zPc E Y σ sz [.ref (za Y t0), .int v1]) (va_Qi Q (zB E Y sz) (zA Y sz)) 0 0 (zA Y sz) := by
  refine z_met (own := RX12) (Qc := fun sz => va_Qi Q (zB E Y sz) (zA Y sz)) (by decide +kernel) rfl (Nat.le_of_ble_eq_true rfl) ?_
  intro p e s m args below meth c hG hinit
  unfold wX12_misprints at hw
  refine zlv (lv' := [(0, .ref (za Y t0)), (1, .int v1)]) rfl ?_
  refine z_aload_n hG dX12_misprints_0 rfl 0 rfl ?_
  refine z_iload_n hG dX12_misprints_1 rfl 1 rfl ?_
  refine z_bipush (v := 33) hG dX12_misprints_2 (by decide) ?_
  refine z_calli hG (z_runV (As := [.int v1, .int 33]) (st := []) hG k_X12_177 (MX12_ofOffice l h0 hw) ⟨(Nat.le_of_ble_eq_true rfl), (Nat.le_of_ble_eq_true rfl)⟩ h0 (T := TX12) (N := 23) rfl (by decide) rfl (Nat.le_of_ble_eq_true rfl) dX12_misprints_4 ⟨Nat.zero_le _, Nat.zero_le _⟩ rfl) (fun r2 σ1 hw => ?_)
  exact z_iret hG rfl rfl dX12_misprints_7 hw
-- TypeWheelTelegraphModel.worstOffset(I)I
def wX12_worstOffset (ln : Nat → Nat) (σ : zS) (t0 : Nat) (v1 : Int32) (Q : Int32 → zS → Prop) : Prop := wX12_ofOffice ln σ t0 v1 35 (fun r2 σ1 => Q r2 σ1)
abbrev rX12_worstOffset : Room := { frames := 2, cells := 0, slots := 0, locals := 43 }
set_option maxRecDepth 100000 in
set_option maxHeartbeats 4000000 in
theorem MX12_worstOffset (l : Launch) {E : zE} {Y : zY} {σ : zS} {t0 : Nat} {v1 : Int32} (h0 : zT Y 12 t0) {Q : Int32 → zS → Prop} (hw : wX12_worstOffset (zln Y) σ t0 v1 Q) : ∀ sz, Met l yX12_worstOffset (zw yX12_worstOffset cX12_worstOffset 2 (some .int)) rX12_worstOffset (zPc E Y σ sz [.ref (za Y t0), .int v1]) (va_Qi Q (zB E Y sz) (zA Y sz)) 0 0 (zA Y sz) := by
  refine z_met (own := RX12) (Qc := fun sz => va_Qi Q (zB E Y sz) (zA Y sz)) (by decide +kernel) rfl (Nat.le_of_ble_eq_true rfl) ?_
  intro p e s m args below meth c hG hinit
  unfold wX12_worstOffset at hw
  refine zlv (lv' := [(0, .ref (za Y t0)), (1, .int v1)]) rfl ?_
  refine z_aload_n hG dX12_worstOffset_0 rfl 0 rfl ?_
  refine z_iload_n hG dX12_worstOffset_1 rfl 1 rfl ?_
  refine z_bipush (v := 35) hG dX12_worstOffset_2 (by decide) ?_
  refine z_calli hG (z_runV (As := [.int v1, .int 35]) (st := []) hG k_X12_177 (MX12_ofOffice l h0 hw) ⟨(Nat.le_of_ble_eq_true rfl), (Nat.le_of_ble_eq_true rfl)⟩ h0 (T := TX12) (N := 23) rfl (by decide) rfl (Nat.le_of_ble_eq_true rfl) dX12_worstOffset_4 ⟨Nat.zero_le _, Nat.zero_le _⟩ rfl) (fun r2 σ1 hw => ?_)
  exact z_iret hG rfl rfl dX12_worstOffset_7 hw
-- TypeWheelTelegraphModel.meanOffset(I)D
def wX12_meanOffset (ln : Nat → Nat) (σ : zS) (t0 : Nat) (v1 : Int32) (Q : UInt64 → zS → Prop) : Prop := ∀ σ1 : zS, σ1 = si σ t0 0 0 → wX12_isOffice ln σ1 v1 (fun r3 σ2 => ((r3 = 0 → wX12_raise ln σ2 t0 1 (fun r16 σ15 => Q FP.dconst0 σ15)) ∧ (¬ r3 = 0 → ∃ j4 : Nat, gr σ2 t0 1 = some j4 ∧ ∀ x5 : Int32, x5 = 31 + v1 → vp_in x5 (ln j4) ∧ (((gi σ2 j4 x5.toNatClampNeg) = 0 → Q FP.dconst0 σ2) ∧ (¬ (gi σ2 j4 x5.toNatClampNeg) = 0 → ∃ j7 : Nat, gr σ2 t0 1 = some j7 ∧ ∀ x8 : Int32, x8 = 37 + v1 → vp_in x8 (ln j7) ∧ ∃ j10 : Nat, gr σ2 t0 1 = some j10 ∧ ∀ x11 : Int32, x11 = 31 + v1 → vp_in x11 (ln j10) ∧ vf_n64 (FP.ddiv (FP.i2d (gi σ2 j7 x8.toNatClampNeg)) (FP.i2d (gi σ2 j10 x11.toNatClampNeg))) ∧ Q (FP.ddiv (FP.i2d (gi σ2 j7 x8.toNatClampNeg)) (FP.i2d (gi σ2 j10 x11.toNatClampNeg))) σ2)))))
abbrev rX12_meanOffset : Room := { frames := 1, cells := 0, slots := 0, locals := 21 }
set_option maxRecDepth 100000 in
set_option maxHeartbeats 4000000 in
theorem MX12_meanOffset (l : Launch) {E : zE} {Y : zY} {σ : zS} {t0 : Nat} {v1 : Int32} (h0 : zT Y 12 t0) {Q : UInt64 → zS → Prop} (hw : wX12_meanOffset (zln Y) σ t0 v1 Q) : ∀ sz, Met l yX12_meanOffset (zw yX12_meanOffset cX12_meanOffset 2 (some .double)) rX12_meanOffset (zPc E Y σ sz [.ref (za Y t0), .int v1]) (va_Qd Q (zB E Y sz) (zA Y sz)) 0 0 (zA Y sz) := by
  refine z_met (own := RX12) (Qc := fun sz => va_Qd Q (zB E Y sz) (zA Y sz)) (by decide +kernel) rfl (Nat.le_of_ble_eq_true rfl) ?_
  intro p e s m args below meth c hG hinit
  unfold wX12_meanOffset at hw
  refine zlv (lv' := [(0, .ref (za Y t0)), (1, .int v1)]) rfl ?_
  refine z_aload_n hG dX12_meanOffset_0 rfl 0 rfl ?_
  refine z_iconst (v := 0) hG dX12_meanOffset_1 (by decide) ?_
  refine z_puti hG f_X12_47 h0 rfl rfl (zN_int _) dX12_meanOffset_2 ?_
  refine z_topσ (fun σ1 eσ1 => ?_)
  have hw := hw σ1 eσ1
  refine z_iload_n hG dX12_meanOffset_5 rfl 1 rfl ?_
  refine z_calli hG (z_runS (As := [.int v1]) (st := []) hG k_X12_54 (MX12_isOffice l hw) ⟨(Nat.le_of_ble_eq_true rfl), (Nat.le_of_ble_eq_true rfl)⟩ rfl (Nat.le_of_ble_eq_true rfl) dX12_meanOffset_6 ⟨Nat.zero_le _, Nat.zero_le _⟩ rfl) (fun r3 σ2 hw => ?_)
  refine z_if_ne (tgt := 20) hG dX12_meanOffset_9 (by decide) (fun c17 => ?_) (fun c17 => ?_)
  · have hw := hw.2 c17
    refine z_aload_n hG dX12_meanOffset_20 rfl 0 rfl ?_
    obtain ⟨j4, ej4, hw⟩ := hw
    refine z_getr (kq := 20) hG f_X12_7 h0 rfl ej4 rfl (by decide) dX12_meanOffset_21 (fun hj4 => ?_)
    refine z_bipush (v := 31) hG dX12_meanOffset_24 (by decide) ?_
    refine z_iload_n hG dX12_meanOffset_26 rfl 1 rfl ?_
    refine z_iadd hG dX12_meanOffset_27 ?_
    refine z_topi (fun x5 ex5 => ?_)
    have hw := hw x5 ex5
    obtain ⟨q6, hw⟩ := hw
    refine z_iald hG hj4 q6 dX12_meanOffset_28 ?_
    refine z_if_ne (tgt := 34) hG dX12_meanOffset_29 (by decide) (fun c14 => ?_) (fun c14 => ?_)
    · have hw := hw.2 c14
      refine z_aload_n hG dX12_meanOffset_34 rfl 0 rfl ?_
      obtain ⟨j7, ej7, hw⟩ := hw
      refine z_getr (kq := 20) hG f_X12_7 h0 rfl ej7 rfl (by decide) dX12_meanOffset_35 (fun hj7 => ?_)
      refine z_bipush (v := 37) hG dX12_meanOffset_38 (by decide) ?_
      refine z_iload_n hG dX12_meanOffset_40 rfl 1 rfl ?_
      refine z_iadd hG dX12_meanOffset_41 ?_
      refine z_topi (fun x8 ex8 => ?_)
      have hw := hw x8 ex8
      obtain ⟨q9, hw⟩ := hw
      refine z_iald hG hj7 q9 dX12_meanOffset_42 ?_
      refine z_i2d hG dX12_meanOffset_43 ?_
      refine z_aload_n hG dX12_meanOffset_44 rfl 0 rfl ?_
      obtain ⟨j10, ej10, hw⟩ := hw
      refine z_getr (kq := 20) hG f_X12_7 h0 rfl ej10 rfl (by decide) dX12_meanOffset_45 (fun hj10 => ?_)
      refine z_bipush (v := 31) hG dX12_meanOffset_48 (by decide) ?_
      refine z_iload_n hG dX12_meanOffset_50 rfl 1 rfl ?_
      refine z_iadd hG dX12_meanOffset_51 ?_
      refine z_topi (fun x11 ex11 => ?_)
      have hw := hw x11 ex11
      obtain ⟨q12, hw⟩ := hw
      refine z_iald hG hj10 q12 dX12_meanOffset_52 ?_
      refine z_i2d hG dX12_meanOffset_53 ?_
      obtain ⟨q13, hw⟩ := hw
      refine z_ddiv hG dX12_meanOffset_54 q13 ?_
      exact z_dret hG rfl dX12_meanOffset_55 hw
    · have hw := hw.1 c14
      refine z_dconst0 hG dX12_meanOffset_32 ?_
      exact z_dret hG rfl dX12_meanOffset_33 hw
  · have hw := hw.1 c17
    refine z_aload_n hG dX12_meanOffset_12 rfl 0 rfl ?_
    refine z_iconst (v := 1) hG dX12_meanOffset_13 (by decide) ?_
    refine z_calli hG (z_runV (As := [.int 1]) (st := []) hG k_X12_174 (MX12_raise l h0 hw) ⟨(Nat.le_of_ble_eq_true rfl), (Nat.le_of_ble_eq_true rfl)⟩ h0 (T := TX12) (N := 23) rfl (by decide) rfl (Nat.le_of_ble_eq_true rfl) dX12_meanOffset_14 ⟨Nat.zero_le _, Nat.zero_le _⟩ rfl) (fun r16 σ15 hw => ?_)
    refine z_pop hG dX12_meanOffset_17 rfl ?_
    refine z_dconst0 hG dX12_meanOffset_18 ?_
    exact z_dret hG rfl dX12_meanOffset_19 hw
-- TypeWheelTelegraphModel.eventCount()I
def wX12_eventCount (ln : Nat → Nat) (σ : zS) (t0 : Nat) (Q : Int32 → zS → Prop) : Prop := ∀ σ1 : zS, σ1 = si σ t0 0 0 → ∃ j2 : Nat, gr σ1 t0 1 = some j2 ∧ vp_in (18 : Int32) (ln j2) ∧ Q (gi σ1 j2 (18 : Int32).toNatClampNeg) σ1
abbrev rX12_eventCount : Room := { frames := 0, cells := 0, slots := 0, locals := 0 }
set_option maxRecDepth 100000 in
set_option maxHeartbeats 4000000 in
theorem MX12_eventCount (l : Launch) {E : zE} {Y : zY} {σ : zS} {t0 : Nat} (h0 : zT Y 12 t0) {Q : Int32 → zS → Prop} (hw : wX12_eventCount (zln Y) σ t0 Q) : ∀ sz, Met l yX12_eventCount (zw yX12_eventCount cX12_eventCount 1 (some .int)) rX12_eventCount (zPc E Y σ sz [.ref (za Y t0)]) (va_Qi Q (zB E Y sz) (zA Y sz)) 0 0 (zA Y sz) := by
  refine z_met (own := RX12) (Qc := fun sz => va_Qi Q (zB E Y sz) (zA Y sz)) (by decide +kernel) rfl (Nat.le_of_ble_eq_true rfl) ?_
  intro p e s m args below meth c hG hinit
  unfold wX12_eventCount at hw
  refine zlv (lv' := [(0, .ref (za Y t0))]) rfl ?_
  refine z_aload_n hG dX12_eventCount_0 rfl 0 rfl ?_
  refine z_iconst (v := 0) hG dX12_eventCount_1 (by decide) ?_
  refine z_puti hG f_X12_47 h0 rfl rfl (zN_int _) dX12_eventCount_2 ?_
  refine z_topσ (fun σ1 eσ1 => ?_)
  have hw := hw σ1 eσ1
  refine z_aload_n hG dX12_eventCount_5 rfl 0 rfl ?_
  obtain ⟨j2, ej2, hw⟩ := hw
  refine z_getr (kq := 20) hG f_X12_7 h0 rfl ej2 rfl (by decide) dX12_eventCount_6 (fun hj2 => ?_)
  refine z_bipush (v := 18) hG dX12_eventCount_9 (by decide) ?_
  obtain ⟨q3, hw⟩ := hw
  refine z_iald hG hj2 q3 dX12_eventCount_11 ?_
  exact z_iret hG rfl rfl dX12_eventCount_12 hw
-- TypeWheelTelegraphModel.event(II)I
def wX12_event (ln : Nat → Nat) (σ : zS) (t0 : Nat) (v1 : Int32) (v2 : Int32) (Q : Int32 → zS → Prop) : Prop := ∀ σ1 : zS, σ1 = si σ t0 0 0 → ∃ j2 : Nat, gr σ1 t0 1 = some j2 ∧ vp_in (18 : Int32) (ln j2) ∧ ∀ x4 : Int64, x4 = ((gi σ1 j2 (18 : Int32).toNatClampNeg) - 1).toInt64 → ∀ x5 : Int64, x5 = v1.toInt64 → wX12_isIn ln σ1 x5 0 x4 (fun r7 σ6 => ((r7 = 0 → wX12_raise ln σ6 t0 1 (fun r18 σ17 => Q r18 σ17)) ∧ (¬ r7 = 0 → ∀ x8 : Int64, x8 = v2.toInt64 → wX12_isIn ln σ6 x8 0 2 (fun r10 σ9 => ((r10 = 0 → wX12_raise ln σ9 t0 2 (fun r15 σ14 => Q r15 σ14)) ∧ (¬ r10 = 0 → ∃ j11 : Nat, gr σ9 t0 1 = some j11 ∧ ∀ x12 : Int32, x12 = (99 + (3 * v1)) + v2 → vp_in x12 (ln j11) ∧ Q (gi σ9 j11 x12.toNatClampNeg) σ9))))))
abbrev rX12_event : Room := { frames := 1, cells := 0, slots := 0, locals := 25 }
set_option maxRecDepth 100000 in
set_option maxHeartbeats 4000000 in
theorem MX12_event (l : Launch) {E : zE} {Y : zY} {σ : zS} {t0 : Nat} {v1 : Int32} {v2 : Int32} (h0 : zT Y 12 t0) {Q : Int32 → zS → Prop} (hw : wX12_event (zln Y) σ t0 v1 v2 Q) : ∀ sz, Met l yX12_event (zw yX12_event cX12_event 3 (some .int)) rX12_event (zPc E Y σ sz [.ref (za Y t0), .int v1, .int v2]) (va_Qi Q (zB E Y sz) (zA Y sz)) 0 0 (zA Y sz) := by
  refine z_met (own := RX12) (Qc := fun sz => va_Qi Q (zB E Y sz) (zA Y sz)) (by decide +kernel) rfl (Nat.le_of_ble_eq_true rfl) ?_
  intro p e s m args below meth c hG hinit
  unfold wX12_event at hw
  refine zlv (lv' := [(0, .ref (za Y t0)), (1, .int v1), (2, .int v2)]) rfl ?_
  refine z_aload_n hG dX12_event_0 rfl 0 rfl ?_
  refine z_iconst (v := 0) hG dX12_event_1 (by decide) ?_
  refine z_puti hG f_X12_47 h0 rfl rfl (zN_int _) dX12_event_2 ?_
  refine z_topσ (fun σ1 eσ1 => ?_)
  have hw := hw σ1 eσ1
  refine z_iload_n hG dX12_event_5 rfl 1 rfl ?_
  refine z_i2l hG dX12_event_6 ?_
  refine z_lconst (v := 0) hG dX12_event_7 (by decide) ?_
  refine z_aload_n hG dX12_event_8 rfl 0 rfl ?_
  obtain ⟨j2, ej2, hw⟩ := hw
  refine z_getr (kq := 20) hG f_X12_7 h0 rfl ej2 rfl (by decide) dX12_event_9 (fun hj2 => ?_)
  refine z_bipush (v := 18) hG dX12_event_12 (by decide) ?_
  obtain ⟨q3, hw⟩ := hw
  refine z_iald hG hj2 q3 dX12_event_14 ?_
  refine z_iconst (v := 1) hG dX12_event_15 (by decide) ?_
  refine z_isub hG dX12_event_16 ?_
  refine z_i2l hG dX12_event_17 ?_
  refine z_topl (fun x4 ex4 => ?_)
  have hw := hw x4 ex4
  obtain ⟨x5, ex5⟩ : ∃ y : Int64, y = v1.toInt64 := ⟨_, rfl⟩
  refine zst (st' := [.long x4, .long 0, .long x5]) (by rw [ex5]) ?_
  have hw := hw x5 ex5
  refine z_calli hG (z_runS (As := [.long x5, .long 0, .long x4]) (st := []) hG k_X12_58 (MX12_isIn l hw) ⟨(Nat.le_of_ble_eq_true rfl), (Nat.le_of_ble_eq_true rfl)⟩ rfl (Nat.le_of_ble_eq_true rfl) dX12_event_18 ⟨Nat.zero_le _, Nat.zero_le _⟩ rfl) (fun r7 σ6 hw => ?_)
  refine z_if_ne (tgt := 30) hG dX12_event_21 (by decide) (fun c19 => ?_) (fun c19 => ?_)
  · have hw := hw.2 c19
    refine z_iload_n hG dX12_event_30 rfl 2 rfl ?_
    refine z_i2l hG dX12_event_31 ?_
    refine z_lconst (v := 0) hG dX12_event_32 (by decide) ?_
    refine z_ldc2 (hc := c_X12_180) hG (hd := dX12_event_33) ?_
    obtain ⟨x8, ex8⟩ : ∃ y : Int64, y = v2.toInt64 := ⟨_, rfl⟩
    refine zst (st' := [.long 2, .long 0, .long x8]) (by rw [ex8]) ?_
    have hw := hw x8 ex8
    refine z_calli hG (z_runS (As := [.long x8, .long 0, .long 2]) (st := []) hG k_X12_58 (MX12_isIn l hw) ⟨(Nat.le_of_ble_eq_true rfl), (Nat.le_of_ble_eq_true rfl)⟩ rfl (Nat.le_of_ble_eq_true rfl) dX12_event_36 ⟨Nat.zero_le _, Nat.zero_le _⟩ rfl) (fun r10 σ9 hw => ?_)
    refine z_if_ne (tgt := 48) hG dX12_event_39 (by decide) (fun c16 => ?_) (fun c16 => ?_)
    · have hw := hw.2 c16
      refine z_aload_n hG dX12_event_48 rfl 0 rfl ?_
      obtain ⟨j11, ej11, hw⟩ := hw
      refine z_getr (kq := 20) hG f_X12_7 h0 rfl ej11 rfl (by decide) dX12_event_49 (fun hj11 => ?_)
      refine z_bipush (v := 99) hG dX12_event_52 (by decide) ?_
      refine z_iconst (v := 3) hG dX12_event_54 (by decide) ?_
      refine z_iload_n hG dX12_event_55 rfl 1 rfl ?_
      refine z_imul hG dX12_event_56 ?_
      refine z_iadd hG dX12_event_57 ?_
      refine z_iload_n hG dX12_event_58 rfl 2 rfl ?_
      refine z_iadd hG dX12_event_59 ?_
      refine z_topi (fun x12 ex12 => ?_)
      have hw := hw x12 ex12
      obtain ⟨q13, hw⟩ := hw
      refine z_iald hG hj11 q13 dX12_event_60 ?_
      exact z_iret hG rfl rfl dX12_event_61 hw
    · have hw := hw.1 c16
      refine z_aload_n hG dX12_event_42 rfl 0 rfl ?_
      refine z_iconst (v := 2) hG dX12_event_43 (by decide) ?_
      refine z_calli hG (z_runV (As := [.int 2]) (st := []) hG k_X12_174 (MX12_raise l h0 hw) ⟨(Nat.le_of_ble_eq_true rfl), (Nat.le_of_ble_eq_true rfl)⟩ h0 (T := TX12) (N := 23) rfl (by decide) rfl (Nat.le_of_ble_eq_true rfl) dX12_event_44 ⟨Nat.zero_le _, Nat.zero_le _⟩ rfl) (fun r15 σ14 hw => ?_)
      exact z_iret hG rfl rfl dX12_event_47 hw
  · have hw := hw.1 c19
    refine z_aload_n hG dX12_event_24 rfl 0 rfl ?_
    refine z_iconst (v := 1) hG dX12_event_25 (by decide) ?_
    refine z_calli hG (z_runV (As := [.int 1]) (st := []) hG k_X12_174 (MX12_raise l h0 hw) ⟨(Nat.le_of_ble_eq_true rfl), (Nat.le_of_ble_eq_true rfl)⟩ h0 (T := TX12) (N := 23) rfl (by decide) rfl (Nat.le_of_ble_eq_true rfl) dX12_event_26 ⟨Nat.zero_le _, Nat.zero_le _⟩ rfl) (fun r18 σ17 hw => ?_)
    exact z_iret hG rfl rfl dX12_event_29 hw
-- TypeWheelTelegraphModel.start(I)I
def wX12_start_46 (ln : Nat → Nat) (Q : Int32 → zS → Prop) (t0 : Nat) (σ : zS) : Prop := wX12_raise ln σ t0 2 (fun r2 σ1 => Q r2 σ1)
def wX12_start (ln : Nat → Nat) (σ : zS) (t0 : Nat) (v1 : Int32) (Q : Int32 → zS → Prop) : Prop := ∀ σ1 : zS, σ1 = si σ t0 0 0 → wX12_isOffice ln σ1 v1 (fun r3 σ2 => ((r3 = 0 → wX12_raise ln σ2 t0 1 (fun r33 σ32 => Q r33 σ32)) ∧ (¬ r3 = 0 → wX12_isSender ln σ2 t0 (fun r5 σ4 => ((r5 = 0 → ∃ j6 : Nat, gr σ4 t0 1 = some j6 ∧ ∀ x7 : Int32, x7 = 27 + v1 → vp_in x7 (ln j6) ∧ ∃ j9 : Nat, gr σ4 t0 1 = some j9 ∧ ∀ x10 : Int32, x10 = 25 + v1 → vp_in x10 (ln j9) ∧ (((gi σ4 j6 x7.toNatClampNeg) = (gi σ4 j9 x10.toNatClampNeg) → wX12_start_46 ln Q t0 σ4) ∧ (¬ (gi σ4 j6 x7.toNatClampNeg) = (gi σ4 j9 x10.toNatClampNeg) → wX12_records ln σ4 t0 (fun σ12 => ∃ j13 : Nat, gr σ12 t0 1 = some j13 ∧ vp_in (6 : Int32) (ln j13) ∧ ∀ σ15 : zS, σ15 = si σ12 j13 (6 : Int32).toNatClampNeg v1 → ∃ j16 : Nat, gr σ15 t0 1 = some j16 ∧ vp_in (10 : Int32) (ln j16) ∧ ∀ σ18 : zS, σ18 = si σ15 j16 (10 : Int32).toNatClampNeg 0 → wX12_begins ln σ18 t0 (fun σ19 => wX12_clears ln σ19 t0 (fun σ20 => ∃ j21 : Nat, gr σ20 t0 1 = some j21 ∧ ∃ j22 : Nat, gr σ20 t0 1 = some j22 ∧ vp_in (5 : Int32) (ln j22) ∧ ∀ x24 : Int32, x24 = gi σ20 j22 (5 : Int32).toNatClampNeg → vp_in (15 : Int32) (ln j21) ∧ ∀ σ26 : zS, σ26 = si σ20 j21 (15 : Int32).toNatClampNeg x24 → ∃ j27 : Nat, gr σ26 t0 1 = some j27 ∧ ∀ x28 : Int32, x28 = 27 + v1 → vp_in x28 (ln j27) ∧ Q (gi σ26 j27 x28.toNatClampNeg) σ26)))))) ∧ (¬ r5 = 0 → wX12_start_46 ln Q t0 σ4))))))
abbrev rX12_start : Room := { frames := 1, cells := 0, slots := 0, locals := 21 }
set_option maxRecDepth 100000 in
set_option maxHeartbeats 4000000 in
theorem BX12_start_46 {l : Launch} {E : zE} {Y : zY} {p : Program} {e : Env} {s : State} {m : MethodId} {args : Array Value} {below : List Frame} {meth : Method} {c : Code} (hG : zG E p l s m args meth c cX12_start 2 RX12 (some .int) (zA Y s.heap.size)) {Q : Int32 → zS → Prop} : ∀ (t0 : Nat) (σ : zS), wX12_start_46 (zln Y) Q t0 σ → zT Y 12 t0 → WW E Y σ p l e rX12_start s m args below meth c (zA Y s.heap.size) 2 0 0 (MQ below (va_Qi Q (zB E Y s.heap.size) (zA Y s.heap.size)) args s 0 0 (zA Y s.heap.size)) [(0, .ref (za Y t0))] 46 [] := by
  intro t0 σ hw h0
  unfold wX12_start_46 at hw
  refine z_aload_n hG dX12_start_46 rfl 0 rfl ?_
  refine z_iconst (v := 2) hG dX12_start_47 (by decide) ?_
  refine z_calli hG (z_runV (As := [.int 2]) (st := []) hG k_X12_174 (MX12_raise l h0 hw) ⟨(Nat.le_of_ble_eq_true rfl), (Nat.le_of_ble_eq_true rfl)⟩ h0 (T := TX12) (N := 23) rfl (by decide) rfl (Nat.le_of_ble_eq_true rfl) dX12_start_48 ⟨Nat.zero_le _, Nat.zero_le _⟩ rfl) (fun r2 σ1 hw => ?_)
  exact z_iret hG rfl rfl dX12_start_51 hw
set_option maxRecDepth 100000 in
set_option maxHeartbeats 4000000 in
theorem MX12_start (l : Launch) {E : zE} {Y : zY} {σ : zS} {t0 : Nat} {v1 : Int32} (h0 : zT Y 12 t0) {Q : Int32 → zS → Prop} (hw : wX12_start (zln Y) σ t0 v1 Q) : ∀ sz, Met l yX12_start (zw yX12_start cX12_start 2 (some .int)) rX12_start (zPc E Y σ sz [.ref (za Y t0), .int v1]) (va_Qi Q (zB E Y sz) (zA Y sz)) 0 0 (zA Y sz) := by
  refine z_met (own := RX12) (Qc := fun sz => va_Qi Q (zB E Y sz) (zA Y sz)) (by decide +kernel) rfl (Nat.le_of_ble_eq_true rfl) ?_
  intro p e s m args below meth c hG hinit
  unfold wX12_start at hw
  refine zlv (lv' := [(0, .ref (za Y t0)), (1, .int v1)]) rfl ?_
  refine z_aload_n hG dX12_start_0 rfl 0 rfl ?_
  refine z_iconst (v := 0) hG dX12_start_1 (by decide) ?_
  refine z_puti hG f_X12_47 h0 rfl rfl (zN_int _) dX12_start_2 ?_
  refine z_topσ (fun σ1 eσ1 => ?_)
  have hw := hw σ1 eσ1
  refine z_iload_n hG dX12_start_5 rfl 1 rfl ?_
  refine z_calli hG (z_runS (As := [.int v1]) (st := []) hG k_X12_54 (MX12_isOffice l hw) ⟨(Nat.le_of_ble_eq_true rfl), (Nat.le_of_ble_eq_true rfl)⟩ rfl (Nat.le_of_ble_eq_true rfl) dX12_start_6 ⟨Nat.zero_le _, Nat.zero_le _⟩ rfl) (fun r3 σ2 hw => ?_)
  refine z_if_ne (tgt := 18) hG dX12_start_9 (by decide) (fun c34 => ?_) (fun c34 => ?_)
  · have hw := hw.2 c34
    refine z_aload_n hG dX12_start_18 rfl 0 rfl ?_
    refine z_calli hG (z_runV (As := []) (st := []) hG k_X12_158 (MX12_isSender l h0 hw) ⟨(Nat.le_of_ble_eq_true rfl), (Nat.le_of_ble_eq_true rfl)⟩ h0 (T := TX12) (N := 23) rfl (by decide) rfl (Nat.le_of_ble_eq_true rfl) dX12_start_19 ⟨Nat.zero_le _, Nat.zero_le _⟩ rfl) (fun r5 σ4 hw => ?_)
    refine z_if_ne (tgt := 46) hG dX12_start_22 (by decide) (fun c31 => ?_) (fun c31 => ?_)
    · have hw := hw.2 c31
      refine zpick [0] (lv' := [(0, .ref (za Y t0))]) rfl ?_
      exact BX12_start_46 hG t0 σ4 hw h0
    · have hw := hw.1 c31
      refine z_aload_n hG dX12_start_25 rfl 0 rfl ?_
      obtain ⟨j6, ej6, hw⟩ := hw
      refine z_getr (kq := 20) hG f_X12_7 h0 rfl ej6 rfl (by decide) dX12_start_26 (fun hj6 => ?_)
      refine z_bipush (v := 27) hG dX12_start_29 (by decide) ?_
      refine z_iload_n hG dX12_start_31 rfl 1 rfl ?_
      refine z_iadd hG dX12_start_32 ?_
      refine z_topi (fun x7 ex7 => ?_)
      have hw := hw x7 ex7
      obtain ⟨q8, hw⟩ := hw
      refine z_iald hG hj6 q8 dX12_start_33 ?_
      refine z_aload_n hG dX12_start_34 rfl 0 rfl ?_
      obtain ⟨j9, ej9, hw⟩ := hw
      refine z_getr (kq := 20) hG f_X12_7 h0 rfl ej9 rfl (by decide) dX12_start_35 (fun hj9 => ?_)
      refine z_bipush (v := 25) hG dX12_start_38 (by decide) ?_
      refine z_iload_n hG dX12_start_40 rfl 1 rfl ?_
      refine z_iadd hG dX12_start_41 ?_
      refine z_topi (fun x10 ex10 => ?_)
      have hw := hw x10 ex10
      obtain ⟨q11, hw⟩ := hw
      refine z_iald hG hj9 q11 dX12_start_42 ?_
      refine z_icmp_ne (tgt := 52) hG dX12_start_43 (by decide) (fun c30 => ?_) (fun c30 => ?_)
      · have hw := hw.2 c30
        refine z_aload_n hG dX12_start_52 rfl 0 rfl ?_
        refine z_callv hG (z_runV (As := []) (st := []) hG k_X12_195 (MX12_records l h0 hw) ⟨(Nat.le_of_ble_eq_true rfl), (Nat.le_of_ble_eq_true rfl)⟩ h0 (T := TX12) (N := 23) rfl (by decide) rfl (Nat.le_of_ble_eq_true rfl) dX12_start_53 ⟨Nat.zero_le _, Nat.zero_le _⟩ rfl) (fun σ12 hw => ?_)
        refine z_aload_n hG dX12_start_56 rfl 0 rfl ?_
        obtain ⟨j13, ej13, hw⟩ := hw
        refine z_getr (kq := 20) hG f_X12_7 h0 rfl ej13 rfl (by decide) dX12_start_57 (fun hj13 => ?_)
        refine z_bipush (v := 6) hG dX12_start_60 (by decide) ?_
        refine z_iload_n hG dX12_start_62 rfl 1 rfl ?_
        obtain ⟨q14, hw⟩ := hw
        refine z_iast hG hj13 q14 dX12_start_63 ?_
        refine z_topσ (fun σ15 eσ15 => ?_)
        have hw := hw σ15 eσ15
        refine z_aload_n hG dX12_start_64 rfl 0 rfl ?_
        obtain ⟨j16, ej16, hw⟩ := hw
        refine z_getr (kq := 20) hG f_X12_7 h0 rfl ej16 rfl (by decide) dX12_start_65 (fun hj16 => ?_)
        refine z_bipush (v := 10) hG dX12_start_68 (by decide) ?_
        refine z_iconst (v := 0) hG dX12_start_70 (by decide) ?_
        obtain ⟨q17, hw⟩ := hw
        refine z_iast hG hj16 q17 dX12_start_71 ?_
        refine z_topσ (fun σ18 eσ18 => ?_)
        have hw := hw σ18 eσ18
        refine z_aload_n hG dX12_start_72 rfl 0 rfl ?_
        refine z_callv hG (z_runV (As := []) (st := []) hG k_X12_105 (MX12_begins l h0 hw) ⟨(Nat.le_of_ble_eq_true rfl), (Nat.le_of_ble_eq_true rfl)⟩ h0 (T := TX12) (N := 23) rfl (by decide) rfl (Nat.le_of_ble_eq_true rfl) dX12_start_73 ⟨Nat.zero_le _, Nat.zero_le _⟩ rfl) (fun σ19 hw => ?_)
        refine z_aload_n hG dX12_start_76 rfl 0 rfl ?_
        refine z_callv hG (z_runV (As := []) (st := []) hG k_X12_102 (MX12_clears l h0 hw) ⟨(Nat.le_of_ble_eq_true rfl), (Nat.le_of_ble_eq_true rfl)⟩ h0 (T := TX12) (N := 23) rfl (by decide) rfl (Nat.le_of_ble_eq_true rfl) dX12_start_77 ⟨Nat.zero_le _, Nat.zero_le _⟩ rfl) (fun σ20 hw => ?_)
        refine z_aload_n hG dX12_start_80 rfl 0 rfl ?_
        obtain ⟨j21, ej21, hw⟩ := hw
        refine z_getr (kq := 20) hG f_X12_7 h0 rfl ej21 rfl (by decide) dX12_start_81 (fun hj21 => ?_)
        refine z_bipush (v := 15) hG dX12_start_84 (by decide) ?_
        refine z_aload_n hG dX12_start_86 rfl 0 rfl ?_
        obtain ⟨j22, ej22, hw⟩ := hw
        refine z_getr (kq := 20) hG f_X12_7 h0 rfl ej22 rfl (by decide) dX12_start_87 (fun hj22 => ?_)
        refine z_iconst (v := 5) hG dX12_start_90 (by decide) ?_
        obtain ⟨q23, hw⟩ := hw
        refine z_iald hG hj22 q23 dX12_start_91 ?_
        refine z_topi (fun x24 ex24 => ?_)
        have hw := hw x24 ex24
        obtain ⟨q25, hw⟩ := hw
        refine z_iast hG hj21 q25 dX12_start_92 ?_
        refine z_topσ (fun σ26 eσ26 => ?_)
        have hw := hw σ26 eσ26
        refine z_aload_n hG dX12_start_93 rfl 0 rfl ?_
        obtain ⟨j27, ej27, hw⟩ := hw
        refine z_getr (kq := 20) hG f_X12_7 h0 rfl ej27 rfl (by decide) dX12_start_94 (fun hj27 => ?_)
        refine z_bipush (v := 27) hG dX12_start_97 (by decide) ?_
        refine z_iload_n hG dX12_start_99 rfl 1 rfl ?_
        refine z_iadd hG dX12_start_100 ?_
        refine z_topi (fun x28 ex28 => ?_)
        have hw := hw x28 ex28
        obtain ⟨q29, hw⟩ := hw
        refine z_iald hG hj27 q29 dX12_start_101 ?_
        exact z_iret hG rfl rfl dX12_start_102 hw
      · have hw := hw.1 c30
        refine zpick [0] (lv' := [(0, .ref (za Y t0))]) rfl ?_
        exact BX12_start_46 hG t0 σ4 hw h0
  · have hw := hw.1 c34
    refine z_aload_n hG dX12_start_12 rfl 0 rfl ?_
    refine z_iconst (v := 1) hG dX12_start_13 (by decide) ?_
    refine z_calli hG (z_runV (As := [.int 1]) (st := []) hG k_X12_174 (MX12_raise l h0 hw) ⟨(Nat.le_of_ble_eq_true rfl), (Nat.le_of_ble_eq_true rfl)⟩ h0 (T := TX12) (N := 23) rfl (by decide) rfl (Nat.le_of_ble_eq_true rfl) dX12_start_14 ⟨Nat.zero_le _, Nat.zero_le _⟩ rfl) (fun r33 σ32 hw => ?_)
    exact z_iret hG rfl rfl dX12_start_17 hw
-- TypeWheelTelegraphModel.breakIn()I
def wX12_breakIn (ln : Nat → Nat) (σ : zS) (t0 : Nat) (Q : Int32 → zS → Prop) : Prop := ∀ σ1 : zS, σ1 = si σ t0 0 0 → wX12_isSender ln σ1 t0 (fun r3 σ2 => ((r3 = 0 → wX12_raise ln σ2 t0 1 (fun r11 σ10 => Q r11 σ10)) ∧ (¬ r3 = 0 → wX12_records ln σ2 t0 (fun σ4 => wX12_sends ln σ4 t0 3 0 (fun σ5 => ∃ j6 : Nat, gr σ5 t0 1 = some j6 ∧ vp_in (5 : Int32) (ln j6) ∧ ∃ j8 : Nat, gr σ5 t0 1 = some j8 ∧ vp_in (1 : Int32) (ln j8) ∧ Q ((gi σ5 j6 (5 : Int32).toNatClampNeg) + (gi σ5 j8 (1 : Int32).toNatClampNeg)) σ5)))))
abbrev rX12_breakIn : Room := { frames := 1, cells := 0, slots := 0, locals := 23 }
set_option maxRecDepth 100000 in
set_option maxHeartbeats 4000000 in
theorem MX12_breakIn (l : Launch) {E : zE} {Y : zY} {σ : zS} {t0 : Nat} (h0 : zT Y 12 t0) {Q : Int32 → zS → Prop} (hw : wX12_breakIn (zln Y) σ t0 Q) : ∀ sz, Met l yX12_breakIn (zw yX12_breakIn cX12_breakIn 1 (some .int)) rX12_breakIn (zPc E Y σ sz [.ref (za Y t0)]) (va_Qi Q (zB E Y sz) (zA Y sz)) 0 0 (zA Y sz) := by
  refine z_met (own := RX12) (Qc := fun sz => va_Qi Q (zB E Y sz) (zA Y sz)) (by decide +kernel) rfl (Nat.le_of_ble_eq_true rfl) ?_
  intro p e s m args below meth c hG hinit
  unfold wX12_breakIn at hw
  refine zlv (lv' := [(0, .ref (za Y t0))]) rfl ?_
  refine z_aload_n hG dX12_breakIn_0 rfl 0 rfl ?_
  refine z_iconst (v := 0) hG dX12_breakIn_1 (by decide) ?_
  refine z_puti hG f_X12_47 h0 rfl rfl (zN_int _) dX12_breakIn_2 ?_
  refine z_topσ (fun σ1 eσ1 => ?_)
  have hw := hw σ1 eσ1
  refine z_aload_n hG dX12_breakIn_5 rfl 0 rfl ?_
  refine z_calli hG (z_runV (As := []) (st := []) hG k_X12_158 (MX12_isSender l h0 hw) ⟨(Nat.le_of_ble_eq_true rfl), (Nat.le_of_ble_eq_true rfl)⟩ h0 (T := TX12) (N := 23) rfl (by decide) rfl (Nat.le_of_ble_eq_true rfl) dX12_breakIn_6 ⟨Nat.zero_le _, Nat.zero_le _⟩ rfl) (fun r3 σ2 hw => ?_)
  refine z_if_ne (tgt := 18) hG dX12_breakIn_9 (by decide) (fun c12 => ?_) (fun c12 => ?_)
  · have hw := hw.2 c12
    refine z_aload_n hG dX12_breakIn_18 rfl 0 rfl ?_
    refine z_callv hG (z_runV (As := []) (st := []) hG k_X12_195 (MX12_records l h0 hw) ⟨(Nat.le_of_ble_eq_true rfl), (Nat.le_of_ble_eq_true rfl)⟩ h0 (T := TX12) (N := 23) rfl (by decide) rfl (Nat.le_of_ble_eq_true rfl) dX12_breakIn_19 ⟨Nat.zero_le _, Nat.zero_le _⟩ rfl) (fun σ4 hw => ?_)
    refine z_aload_n hG dX12_breakIn_22 rfl 0 rfl ?_
    refine z_iconst (v := 3) hG dX12_breakIn_23 (by decide) ?_
    refine z_iconst (v := 0) hG dX12_breakIn_24 (by decide) ?_
    refine z_callv hG (z_runV (As := [.int 3, .int 0]) (st := []) hG k_X12_123 (MX12_sends l h0 hw) ⟨(Nat.le_of_ble_eq_true rfl), (Nat.le_of_ble_eq_true rfl)⟩ h0 (T := TX12) (N := 23) rfl (by decide) rfl (Nat.le_of_ble_eq_true rfl) dX12_breakIn_25 ⟨Nat.zero_le _, Nat.zero_le _⟩ rfl) (fun σ5 hw => ?_)
    refine z_aload_n hG dX12_breakIn_28 rfl 0 rfl ?_
    obtain ⟨j6, ej6, hw⟩ := hw
    refine z_getr (kq := 20) hG f_X12_7 h0 rfl ej6 rfl (by decide) dX12_breakIn_29 (fun hj6 => ?_)
    refine z_iconst (v := 5) hG dX12_breakIn_32 (by decide) ?_
    obtain ⟨q7, hw⟩ := hw
    refine z_iald hG hj6 q7 dX12_breakIn_33 ?_
    refine z_aload_n hG dX12_breakIn_34 rfl 0 rfl ?_
    obtain ⟨j8, ej8, hw⟩ := hw
    refine z_getr (kq := 20) hG f_X12_7 h0 rfl ej8 rfl (by decide) dX12_breakIn_35 (fun hj8 => ?_)
    refine z_iconst (v := 1) hG dX12_breakIn_38 (by decide) ?_
    obtain ⟨q9, hw⟩ := hw
    refine z_iald hG hj8 q9 dX12_breakIn_39 ?_
    refine z_iadd hG dX12_breakIn_40 ?_
    exact z_iret hG rfl rfl dX12_breakIn_41 hw
  · have hw := hw.1 c12
    refine z_aload_n hG dX12_breakIn_12 rfl 0 rfl ?_
    refine z_iconst (v := 1) hG dX12_breakIn_13 (by decide) ?_
    refine z_calli hG (z_runV (As := [.int 1]) (st := []) hG k_X12_174 (MX12_raise l h0 hw) ⟨(Nat.le_of_ble_eq_true rfl), (Nat.le_of_ble_eq_true rfl)⟩ h0 (T := TX12) (N := 23) rfl (by decide) rfl (Nat.le_of_ble_eq_true rfl) dX12_breakIn_14 ⟨Nat.zero_le _, Nat.zero_le _⟩ rfl) (fun r11 σ10 hw => ?_)
    exact z_iret hG rfl rfl dX12_breakIn_17 hw
-- TypeWheelTelegraphModel.setRate(II)I
def wX12_setRate (ln : Nat → Nat) (σ : zS) (t0 : Nat) (v1 : Int32) (v2 : Int32) (Q : Int32 → zS → Prop) : Prop := ∀ σ1 : zS, σ1 = si σ t0 0 0 → wX12_isOffice ln σ1 v1 (fun r3 σ2 => ((r3 = 0 → wX12_raise ln σ2 t0 1 (fun r20 σ19 => Q r20 σ19)) ∧ (¬ r3 = 0 → ∀ x4 : Int64, x4 = v2.toInt64 → wX12_isIn ln σ2 x4 10 999 (fun r6 σ5 => ((r6 = 0 → wX12_raise ln σ5 t0 2 (fun r17 σ16 => Q r17 σ16)) ∧ (¬ r6 = 0 → wX12_records ln σ5 t0 (fun σ7 => ∃ j8 : Nat, gr σ7 t0 1 = some j8 ∧ ∀ x9 : Int32, x9 = 23 + v1 → vp_in x9 (ln j8) ∧ ∀ x11 : Int32, x11 = gi σ7 j8 x9.toNatClampNeg → ∃ j12 : Nat, gr σ7 t0 1 = some j12 ∧ ∀ x13 : Int32, x13 = 23 + v1 → vp_in x13 (ln j12) ∧ ∀ σ15 : zS, σ15 = si σ7 j12 x13.toNatClampNeg v2 → Q x11 σ15)))))))
abbrev rX12_setRate : Room := { frames := 1, cells := 0, slots := 0, locals := 25 }
set_option maxRecDepth 100000 in
set_option maxHeartbeats 4000000 in
theorem MX12_setRate (l : Launch) {E : zE} {Y : zY} {σ : zS} {t0 : Nat} {v1 : Int32} {v2 : Int32} (h0 : zT Y 12 t0) {Q : Int32 → zS → Prop} (hw : wX12_setRate (zln Y) σ t0 v1 v2 Q) : ∀ sz, Met l yX12_setRate (zw yX12_setRate cX12_setRate 4 (some .int)) rX12_setRate (zPc E Y σ sz [.ref (za Y t0), .int v1, .int v2]) (va_Qi Q (zB E Y sz) (zA Y sz)) 0 0 (zA Y sz) := by
  refine z_met (own := RX12) (Qc := fun sz => va_Qi Q (zB E Y sz) (zA Y sz)) (by decide +kernel) rfl (Nat.le_of_ble_eq_true rfl) ?_
  intro p e s m args below meth c hG hinit
  unfold wX12_setRate at hw
  refine zlv (lv' := [(0, .ref (za Y t0)), (1, .int v1), (2, .int v2)]) rfl ?_
  refine z_aload_n hG dX12_setRate_0 rfl 0 rfl ?_
  refine z_iconst (v := 0) hG dX12_setRate_1 (by decide) ?_
  refine z_puti hG f_X12_47 h0 rfl rfl (zN_int _) dX12_setRate_2 ?_
  refine z_topσ (fun σ1 eσ1 => ?_)
  have hw := hw σ1 eσ1
  refine z_iload_n hG dX12_setRate_5 rfl 1 rfl ?_
  refine z_calli hG (z_runS (As := [.int v1]) (st := []) hG k_X12_54 (MX12_isOffice l hw) ⟨(Nat.le_of_ble_eq_true rfl), (Nat.le_of_ble_eq_true rfl)⟩ rfl (Nat.le_of_ble_eq_true rfl) dX12_setRate_6 ⟨Nat.zero_le _, Nat.zero_le _⟩ rfl) (fun r3 σ2 hw => ?_)
  refine z_if_ne (tgt := 18) hG dX12_setRate_9 (by decide) (fun c21 => ?_) (fun c21 => ?_)
  · have hw := hw.2 c21
    refine z_iload_n hG dX12_setRate_18 rfl 2 rfl ?_
    refine z_i2l hG dX12_setRate_19 ?_
    refine z_ldc2 (hc := c_X12_206) hG (hd := dX12_setRate_20) ?_
    refine z_ldc2 (hc := c_X12_208) hG (hd := dX12_setRate_23) ?_
    obtain ⟨x4, ex4⟩ : ∃ y : Int64, y = v2.toInt64 := ⟨_, rfl⟩
    refine zst (st' := [.long 999, .long 10, .long x4]) (by rw [ex4]) ?_
    have hw := hw x4 ex4
    refine z_calli hG (z_runS (As := [.long x4, .long 10, .long 999]) (st := []) hG k_X12_58 (MX12_isIn l hw) ⟨(Nat.le_of_ble_eq_true rfl), (Nat.le_of_ble_eq_true rfl)⟩ rfl (Nat.le_of_ble_eq_true rfl) dX12_setRate_26 ⟨Nat.zero_le _, Nat.zero_le _⟩ rfl) (fun r6 σ5 hw => ?_)
    refine z_if_ne (tgt := 38) hG dX12_setRate_29 (by decide) (fun c18 => ?_) (fun c18 => ?_)
    · have hw := hw.2 c18
      refine z_aload_n hG dX12_setRate_38 rfl 0 rfl ?_
      refine z_callv hG (z_runV (As := []) (st := []) hG k_X12_195 (MX12_records l h0 hw) ⟨(Nat.le_of_ble_eq_true rfl), (Nat.le_of_ble_eq_true rfl)⟩ h0 (T := TX12) (N := 23) rfl (by decide) rfl (Nat.le_of_ble_eq_true rfl) dX12_setRate_39 ⟨Nat.zero_le _, Nat.zero_le _⟩ rfl) (fun σ7 hw => ?_)
      refine z_aload_n hG dX12_setRate_42 rfl 0 rfl ?_
      obtain ⟨j8, ej8, hw⟩ := hw
      refine z_getr (kq := 20) hG f_X12_7 h0 rfl ej8 rfl (by decide) dX12_setRate_43 (fun hj8 => ?_)
      refine z_bipush (v := 23) hG dX12_setRate_46 (by decide) ?_
      refine z_iload_n hG dX12_setRate_48 rfl 1 rfl ?_
      refine z_iadd hG dX12_setRate_49 ?_
      refine z_topi (fun x9 ex9 => ?_)
      have hw := hw x9 ex9
      obtain ⟨q10, hw⟩ := hw
      refine z_iald hG hj8 q10 dX12_setRate_50 ?_
      refine z_topi (fun x11 ex11 => ?_)
      have hw := hw x11 ex11
      refine z_istore_n (lv' := [(3, .int x11), (0, .ref (za Y t0)), (1, .int v1), (2, .int v2)]) hG dX12_setRate_51 rfl (by decide) rfl ?_
      refine z_aload_n hG dX12_setRate_52 rfl 1 rfl ?_
      obtain ⟨j12, ej12, hw⟩ := hw
      refine z_getr (kq := 20) hG f_X12_7 h0 rfl ej12 rfl (by decide) dX12_setRate_53 (fun hj12 => ?_)
      refine z_bipush (v := 23) hG dX12_setRate_56 (by decide) ?_
      refine z_iload_n hG dX12_setRate_58 rfl 2 rfl ?_
      refine z_iadd hG dX12_setRate_59 ?_
      refine z_iload_n hG dX12_setRate_60 rfl 3 rfl ?_
      obtain ⟨x13, ex13⟩ : ∃ y : Int32, y = 23 + v1 := ⟨_, rfl⟩
      refine zst (st' := [.int v2, .int x13, .ref (za Y j12)]) (by rw [ex13]) ?_
      have hw := hw x13 ex13
      obtain ⟨q14, hw⟩ := hw
      refine z_iast hG hj12 q14 dX12_setRate_61 ?_
      refine z_topσ (fun σ15 eσ15 => ?_)
      have hw := hw σ15 eσ15
      refine z_iload_n hG dX12_setRate_62 rfl 0 rfl ?_
      exact z_iret hG rfl rfl dX12_setRate_63 hw
    · have hw := hw.1 c18
      refine z_aload_n hG dX12_setRate_32 rfl 0 rfl ?_
      refine z_iconst (v := 2) hG dX12_setRate_33 (by decide) ?_
      refine z_calli hG (z_runV (As := [.int 2]) (st := []) hG k_X12_174 (MX12_raise l h0 hw) ⟨(Nat.le_of_ble_eq_true rfl), (Nat.le_of_ble_eq_true rfl)⟩ h0 (T := TX12) (N := 23) rfl (by decide) rfl (Nat.le_of_ble_eq_true rfl) dX12_setRate_34 ⟨Nat.zero_le _, Nat.zero_le _⟩ rfl) (fun r17 σ16 hw => ?_)
      exact z_iret hG rfl rfl dX12_setRate_37 hw
  · have hw := hw.1 c21
    refine z_aload_n hG dX12_setRate_12 rfl 0 rfl ?_
    refine z_iconst (v := 1) hG dX12_setRate_13 (by decide) ?_
    refine z_calli hG (z_runV (As := [.int 1]) (st := []) hG k_X12_174 (MX12_raise l h0 hw) ⟨(Nat.le_of_ble_eq_true rfl), (Nat.le_of_ble_eq_true rfl)⟩ h0 (T := TX12) (N := 23) rfl (by decide) rfl (Nat.le_of_ble_eq_true rfl) dX12_setRate_14 ⟨Nat.zero_le _, Nat.zero_le _⟩ rfl) (fun r20 σ19 hw => ?_)
    exact z_iret hG rfl rfl dX12_setRate_17 hw
-- TypeWheelTelegraphModel.nudge(II)I
def wX12_nudge (ln : Nat → Nat) (σ : zS) (t0 : Nat) (v1 : Int32) (v2 : Int32) (Q : Int32 → zS → Prop) : Prop := ∀ σ1 : zS, σ1 = si σ t0 0 0 → wX12_isOffice ln σ1 v1 (fun r3 σ2 => ((r3 = 0 → wX12_raise ln σ2 t0 1 (fun r25 σ24 => Q r25 σ24)) ∧ (¬ r3 = 0 → ∀ x4 : Int64, x4 = v2.toInt64 → wX12_isIn ln σ2 x4 (-14000) 14000 (fun r6 σ5 => ((r6 = 0 → wX12_raise ln σ5 t0 2 (fun r22 σ21 => Q r22 σ21)) ∧ (¬ r6 = 0 → wX12_records ln σ5 t0 (fun σ7 => ∃ j8 : Nat, gr σ7 t0 1 = some j8 ∧ ∃ j9 : Nat, gr σ7 t0 1 = some j9 ∧ ∀ x10 : Int32, x10 = 21 + v1 → vp_in x10 (ln j9) ∧ ∀ x12 : Int64, x12 = ((gi σ7 j9 x10.toNatClampNeg).toInt64) + v2.toInt64 → wX12_within ln σ7 t0 x12 (fun r14 σ13 => ∀ x15 : Int32, x15 = 21 + v1 → vp_in x15 (ln j8) ∧ ∀ σ17 : zS, σ17 = si σ13 j8 x15.toNatClampNeg r14 → ∃ j18 : Nat, gr σ17 t0 1 = some j18 ∧ ∀ x19 : Int32, x19 = 21 + v1 → vp_in x19 (ln j18) ∧ Q (gi σ17 j18 x19.toNatClampNeg) σ17))))))))
abbrev rX12_nudge : Room := { frames := 2, cells := 0, slots := 0, locals := 43 }
set_option maxRecDepth 100000 in
set_option maxHeartbeats 4000000 in
theorem MX12_nudge (l : Launch) {E : zE} {Y : zY} {σ : zS} {t0 : Nat} {v1 : Int32} {v2 : Int32} (h0 : zT Y 12 t0) {Q : Int32 → zS → Prop} (hw : wX12_nudge (zln Y) σ t0 v1 v2 Q) : ∀ sz, Met l yX12_nudge (zw yX12_nudge cX12_nudge 3 (some .int)) rX12_nudge (zPc E Y σ sz [.ref (za Y t0), .int v1, .int v2]) (va_Qi Q (zB E Y sz) (zA Y sz)) 0 0 (zA Y sz) := by
  refine z_met (own := RX12) (Qc := fun sz => va_Qi Q (zB E Y sz) (zA Y sz)) (by decide +kernel) rfl (Nat.le_of_ble_eq_true rfl) ?_
  intro p e s m args below meth c hG hinit
  unfold wX12_nudge at hw
  refine zlv (lv' := [(0, .ref (za Y t0)), (1, .int v1), (2, .int v2)]) rfl ?_
  refine z_aload_n hG dX12_nudge_0 rfl 0 rfl ?_
  refine z_iconst (v := 0) hG dX12_nudge_1 (by decide) ?_
  refine z_puti hG f_X12_47 h0 rfl rfl (zN_int _) dX12_nudge_2 ?_
  refine z_topσ (fun σ1 eσ1 => ?_)
  have hw := hw σ1 eσ1
  refine z_iload_n hG dX12_nudge_5 rfl 1 rfl ?_
  refine z_calli hG (z_runS (As := [.int v1]) (st := []) hG k_X12_54 (MX12_isOffice l hw) ⟨(Nat.le_of_ble_eq_true rfl), (Nat.le_of_ble_eq_true rfl)⟩ rfl (Nat.le_of_ble_eq_true rfl) dX12_nudge_6 ⟨Nat.zero_le _, Nat.zero_le _⟩ rfl) (fun r3 σ2 hw => ?_)
  refine z_if_ne (tgt := 18) hG dX12_nudge_9 (by decide) (fun c26 => ?_) (fun c26 => ?_)
  · have hw := hw.2 c26
    refine z_iload_n hG dX12_nudge_18 rfl 2 rfl ?_
    refine z_i2l hG dX12_nudge_19 ?_
    refine z_ldc2 (hc := c_X12_210) hG (hd := dX12_nudge_20) ?_
    refine z_ldc2 (hc := c_X12_212) hG (hd := dX12_nudge_23) ?_
    obtain ⟨x4, ex4⟩ : ∃ y : Int64, y = v2.toInt64 := ⟨_, rfl⟩
    refine zst (st' := [.long 14000, .long (-14000), .long x4]) (by rw [ex4]) ?_
    have hw := hw x4 ex4
    refine z_calli hG (z_runS (As := [.long x4, .long (-14000), .long 14000]) (st := []) hG k_X12_58 (MX12_isIn l hw) ⟨(Nat.le_of_ble_eq_true rfl), (Nat.le_of_ble_eq_true rfl)⟩ rfl (Nat.le_of_ble_eq_true rfl) dX12_nudge_26 ⟨Nat.zero_le _, Nat.zero_le _⟩ rfl) (fun r6 σ5 hw => ?_)
    refine z_if_ne (tgt := 38) hG dX12_nudge_29 (by decide) (fun c23 => ?_) (fun c23 => ?_)
    · have hw := hw.2 c23
      refine z_aload_n hG dX12_nudge_38 rfl 0 rfl ?_
      refine z_callv hG (z_runV (As := []) (st := []) hG k_X12_195 (MX12_records l h0 hw) ⟨(Nat.le_of_ble_eq_true rfl), (Nat.le_of_ble_eq_true rfl)⟩ h0 (T := TX12) (N := 23) rfl (by decide) rfl (Nat.le_of_ble_eq_true rfl) dX12_nudge_39 ⟨Nat.zero_le _, Nat.zero_le _⟩ rfl) (fun σ7 hw => ?_)
      refine z_aload_n hG dX12_nudge_42 rfl 0 rfl ?_
      obtain ⟨j8, ej8, hw⟩ := hw
      refine z_getr (kq := 20) hG f_X12_7 h0 rfl ej8 rfl (by decide) dX12_nudge_43 (fun hj8 => ?_)
      refine z_bipush (v := 21) hG dX12_nudge_46 (by decide) ?_
      refine z_iload_n hG dX12_nudge_48 rfl 1 rfl ?_
      refine z_iadd hG dX12_nudge_49 ?_
      refine z_aload_n hG dX12_nudge_50 rfl 0 rfl ?_
      refine z_aload_n hG dX12_nudge_51 rfl 0 rfl ?_
      obtain ⟨j9, ej9, hw⟩ := hw
      refine z_getr (kq := 20) hG f_X12_7 h0 rfl ej9 rfl (by decide) dX12_nudge_52 (fun hj9 => ?_)
      refine z_bipush (v := 21) hG dX12_nudge_55 (by decide) ?_
      refine z_iload_n hG dX12_nudge_57 rfl 1 rfl ?_
      refine z_iadd hG dX12_nudge_58 ?_
      refine z_topi (fun x10 ex10 => ?_)
      have hw := hw x10 ex10
      obtain ⟨q11, hw⟩ := hw
      refine z_iald hG hj9 q11 dX12_nudge_59 ?_
      refine z_i2l hG dX12_nudge_60 ?_
      refine z_iload_n hG dX12_nudge_61 rfl 2 rfl ?_
      refine z_i2l hG dX12_nudge_62 ?_
      refine z_ladd hG dX12_nudge_63 ?_
      refine z_topl (fun x12 ex12 => ?_)
      have hw := hw x12 ex12
      refine z_calli hG (z_runV (As := [.long x12]) (st := [.int (21 + v1), .ref (za Y j8)]) hG k_X12_94 (MX12_within l h0 hw) ⟨(Nat.le_of_ble_eq_true rfl), (Nat.le_of_ble_eq_true rfl)⟩ h0 (T := TX12) (N := 23) rfl (by decide) rfl (Nat.le_of_ble_eq_true rfl) dX12_nudge_64 ⟨Nat.zero_le _, Nat.zero_le _⟩ rfl) (fun r14 σ13 hw => ?_)
      obtain ⟨x15, ex15⟩ : ∃ y : Int32, y = 21 + v1 := ⟨_, rfl⟩
      refine zst (st' := [.int r14, .int x15, .ref (za Y j8)]) (by rw [ex15]) ?_
      have hw := hw x15 ex15
      obtain ⟨q16, hw⟩ := hw
      refine z_iast hG hj8 q16 dX12_nudge_67 ?_
      refine z_topσ (fun σ17 eσ17 => ?_)
      have hw := hw σ17 eσ17
      refine z_aload_n hG dX12_nudge_68 rfl 0 rfl ?_
      obtain ⟨j18, ej18, hw⟩ := hw
      refine z_getr (kq := 20) hG f_X12_7 h0 rfl ej18 rfl (by decide) dX12_nudge_69 (fun hj18 => ?_)
      refine z_bipush (v := 21) hG dX12_nudge_72 (by decide) ?_
      refine z_iload_n hG dX12_nudge_74 rfl 1 rfl ?_
      refine z_iadd hG dX12_nudge_75 ?_
      refine z_topi (fun x19 ex19 => ?_)
      have hw := hw x19 ex19
      obtain ⟨q20, hw⟩ := hw
      refine z_iald hG hj18 q20 dX12_nudge_76 ?_
      exact z_iret hG rfl rfl dX12_nudge_77 hw
    · have hw := hw.1 c23
      refine z_aload_n hG dX12_nudge_32 rfl 0 rfl ?_
      refine z_iconst (v := 2) hG dX12_nudge_33 (by decide) ?_
      refine z_calli hG (z_runV (As := [.int 2]) (st := []) hG k_X12_174 (MX12_raise l h0 hw) ⟨(Nat.le_of_ble_eq_true rfl), (Nat.le_of_ble_eq_true rfl)⟩ h0 (T := TX12) (N := 23) rfl (by decide) rfl (Nat.le_of_ble_eq_true rfl) dX12_nudge_34 ⟨Nat.zero_le _, Nat.zero_le _⟩ rfl) (fun r22 σ21 hw => ?_)
      exact z_iret hG rfl rfl dX12_nudge_37 hw
  · have hw := hw.1 c26
    refine z_aload_n hG dX12_nudge_12 rfl 0 rfl ?_
    refine z_iconst (v := 1) hG dX12_nudge_13 (by decide) ?_
    refine z_calli hG (z_runV (As := [.int 1]) (st := []) hG k_X12_174 (MX12_raise l h0 hw) ⟨(Nat.le_of_ble_eq_true rfl), (Nat.le_of_ble_eq_true rfl)⟩ h0 (T := TX12) (N := 23) rfl (by decide) rfl (Nat.le_of_ble_eq_true rfl) dX12_nudge_14 ⟨Nat.zero_le _, Nat.zero_le _⟩ rfl) (fun r25 σ24 hw => ?_)
    exact z_iret hG rfl rfl dX12_nudge_17 hw
-- TypeWheelTelegraphModel.setCorrection(I)I
def wX12_setCorrection (ln : Nat → Nat) (σ : zS) (t0 : Nat) (v1 : Int32) (Q : Int32 → zS → Prop) : Prop := ∀ σ1 : zS, σ1 = si σ t0 0 0 → ∀ x2 : Int64, x2 = v1.toInt64 → wX12_isIn ln σ1 x2 0 500 (fun r4 σ3 => ((r4 = 0 → wX12_raise ln σ3 t0 1 (fun r13 σ12 => Q r13 σ12)) ∧ (¬ r4 = 0 → wX12_records ln σ3 t0 (fun σ5 => ∃ j6 : Nat, gr σ5 t0 1 = some j6 ∧ vp_in (2 : Int32) (ln j6) ∧ ∀ x8 : Int32, x8 = gi σ5 j6 (2 : Int32).toNatClampNeg → ∃ j9 : Nat, gr σ5 t0 1 = some j9 ∧ vp_in (2 : Int32) (ln j9) ∧ ∀ σ11 : zS, σ11 = si σ5 j9 (2 : Int32).toNatClampNeg v1 → Q x8 σ11))))
abbrev rX12_setCorrection : Room := { frames := 1, cells := 0, slots := 0, locals := 25 }
set_option maxRecDepth 100000 in
set_option maxHeartbeats 4000000 in
theorem MX12_setCorrection (l : Launch) {E : zE} {Y : zY} {σ : zS} {t0 : Nat} {v1 : Int32} (h0 : zT Y 12 t0) {Q : Int32 → zS → Prop} (hw : wX12_setCorrection (zln Y) σ t0 v1 Q) : ∀ sz, Met l yX12_setCorrection (zw yX12_setCorrection cX12_setCorrection 3 (some .int)) rX12_setCorrection (zPc E Y σ sz [.ref (za Y t0), .int v1]) (va_Qi Q (zB E Y sz) (zA Y sz)) 0 0 (zA Y sz) := by
  refine z_met (own := RX12) (Qc := fun sz => va_Qi Q (zB E Y sz) (zA Y sz)) (by decide +kernel) rfl (Nat.le_of_ble_eq_true rfl) ?_
  intro p e s m args below meth c hG hinit
  unfold wX12_setCorrection at hw
  refine zlv (lv' := [(0, .ref (za Y t0)), (1, .int v1)]) rfl ?_
  refine z_aload_n hG dX12_setCorrection_0 rfl 0 rfl ?_
  refine z_iconst (v := 0) hG dX12_setCorrection_1 (by decide) ?_
  refine z_puti hG f_X12_47 h0 rfl rfl (zN_int _) dX12_setCorrection_2 ?_
  refine z_topσ (fun σ1 eσ1 => ?_)
  have hw := hw σ1 eσ1
  refine z_iload_n hG dX12_setCorrection_5 rfl 1 rfl ?_
  refine z_i2l hG dX12_setCorrection_6 ?_
  refine z_lconst (v := 0) hG dX12_setCorrection_7 (by decide) ?_
  refine z_ldc2 (hc := c_X12_214) hG (hd := dX12_setCorrection_8) ?_
  obtain ⟨x2, ex2⟩ : ∃ y : Int64, y = v1.toInt64 := ⟨_, rfl⟩
  refine zst (st' := [.long 500, .long 0, .long x2]) (by rw [ex2]) ?_
  have hw := hw x2 ex2
  refine z_calli hG (z_runS (As := [.long x2, .long 0, .long 500]) (st := []) hG k_X12_58 (MX12_isIn l hw) ⟨(Nat.le_of_ble_eq_true rfl), (Nat.le_of_ble_eq_true rfl)⟩ rfl (Nat.le_of_ble_eq_true rfl) dX12_setCorrection_11 ⟨Nat.zero_le _, Nat.zero_le _⟩ rfl) (fun r4 σ3 hw => ?_)
  refine z_if_ne (tgt := 23) hG dX12_setCorrection_14 (by decide) (fun c14 => ?_) (fun c14 => ?_)
  · have hw := hw.2 c14
    refine z_aload_n hG dX12_setCorrection_23 rfl 0 rfl ?_
    refine z_callv hG (z_runV (As := []) (st := []) hG k_X12_195 (MX12_records l h0 hw) ⟨(Nat.le_of_ble_eq_true rfl), (Nat.le_of_ble_eq_true rfl)⟩ h0 (T := TX12) (N := 23) rfl (by decide) rfl (Nat.le_of_ble_eq_true rfl) dX12_setCorrection_24 ⟨Nat.zero_le _, Nat.zero_le _⟩ rfl) (fun σ5 hw => ?_)
    refine z_aload_n hG dX12_setCorrection_27 rfl 0 rfl ?_
    obtain ⟨j6, ej6, hw⟩ := hw
    refine z_getr (kq := 20) hG f_X12_7 h0 rfl ej6 rfl (by decide) dX12_setCorrection_28 (fun hj6 => ?_)
    refine z_iconst (v := 2) hG dX12_setCorrection_31 (by decide) ?_
    obtain ⟨q7, hw⟩ := hw
    refine z_iald hG hj6 q7 dX12_setCorrection_32 ?_
    refine z_topi (fun x8 ex8 => ?_)
    have hw := hw x8 ex8
    refine z_istore_n (lv' := [(2, .int x8), (0, .ref (za Y t0)), (1, .int v1)]) hG dX12_setCorrection_33 rfl (by decide) rfl ?_
    refine z_aload_n hG dX12_setCorrection_34 rfl 1 rfl ?_
    obtain ⟨j9, ej9, hw⟩ := hw
    refine z_getr (kq := 20) hG f_X12_7 h0 rfl ej9 rfl (by decide) dX12_setCorrection_35 (fun hj9 => ?_)
    refine z_iconst (v := 2) hG dX12_setCorrection_38 (by decide) ?_
    refine z_iload_n hG dX12_setCorrection_39 rfl 2 rfl ?_
    obtain ⟨q10, hw⟩ := hw
    refine z_iast hG hj9 q10 dX12_setCorrection_40 ?_
    refine z_topσ (fun σ11 eσ11 => ?_)
    have hw := hw σ11 eσ11
    refine z_iload_n hG dX12_setCorrection_41 rfl 0 rfl ?_
    exact z_iret hG rfl rfl dX12_setCorrection_42 hw
  · have hw := hw.1 c14
    refine z_aload_n hG dX12_setCorrection_17 rfl 0 rfl ?_
    refine z_iconst (v := 1) hG dX12_setCorrection_18 (by decide) ?_
    refine z_calli hG (z_runV (As := [.int 1]) (st := []) hG k_X12_174 (MX12_raise l h0 hw) ⟨(Nat.le_of_ble_eq_true rfl), (Nat.le_of_ble_eq_true rfl)⟩ h0 (T := TX12) (N := 23) rfl (by decide) rfl (Nat.le_of_ble_eq_true rfl) dX12_setCorrection_19 ⟨Nat.zero_le _, Nat.zero_le _⟩ rfl) (fun r13 σ12 hw => ?_)
    exact z_iret hG rfl rfl dX12_setCorrection_22 hw
-- TypeWheelTelegraphModel.lose(I)I
def wX12_lose (ln : Nat → Nat) (σ : zS) (t0 : Nat) (v1 : Int32) (Q : Int32 → zS → Prop) : Prop := ∀ σ1 : zS, σ1 = si σ t0 0 0 → ∀ x2 : Int64, x2 = v1.toInt64 → wX12_isIn ln σ1 x2 1 500 (fun r4 σ3 => ((r4 = 0 → wX12_raise ln σ3 t0 1 (fun r26 σ25 => Q r26 σ25)) ∧ (¬ r4 = 0 → ∃ j5 : Nat, gr σ3 t0 1 = some j5 ∧ vp_in (20 : Int32) (ln j5) ∧ (((gi σ3 j5 (20 : Int32).toNatClampNeg) = 20 → wX12_raise ln σ3 t0 2 (fun r23 σ22 => Q r23 σ22)) ∧ (¬ (gi σ3 j5 (20 : Int32).toNatClampNeg) = 20 → wX12_records ln σ3 t0 (fun σ7 => ∃ j8 : Nat, gr σ7 t0 1 = some j8 ∧ vp_in (16 : Int32) (ln j8) ∧ ∀ x10 : Int32, x10 = (gi σ7 j8 (16 : Int32).toNatClampNeg) + v1 → ∃ j11 : Nat, gr σ7 t0 1 = some j11 ∧ ∃ j12 : Nat, gr σ7 t0 1 = some j12 ∧ vp_in (20 : Int32) (ln j12) ∧ ∀ x14 : Int32, x14 = 39 + (gi σ7 j12 (20 : Int32).toNatClampNeg) → vp_in x14 (ln j11) ∧ ∀ σ16 : zS, σ16 = si σ7 j11 x14.toNatClampNeg x10 → ∃ j17 : Nat, gr σ16 t0 1 = some j17 ∧ vp_in (20 : Int32) (ln j17) ∧ ∀ x19 : Int32, x19 = (gi σ16 j17 (20 : Int32).toNatClampNeg) + 1 → vp_in (20 : Int32) (ln j17) ∧ ∀ σ21 : zS, σ21 = si σ16 j17 (20 : Int32).toNatClampNeg x19 → Q x10 σ21))))))
abbrev rX12_lose : Room := { frames := 1, cells := 0, slots := 0, locals := 25 }
set_option maxRecDepth 100000 in
set_option maxHeartbeats 4000000 in
theorem MX12_lose (l : Launch) {E : zE} {Y : zY} {σ : zS} {t0 : Nat} {v1 : Int32} (h0 : zT Y 12 t0) {Q : Int32 → zS → Prop} (hw : wX12_lose (zln Y) σ t0 v1 Q) : ∀ sz, Met l yX12_lose (zw yX12_lose cX12_lose 3 (some .int)) rX12_lose (zPc E Y σ sz [.ref (za Y t0), .int v1]) (va_Qi Q (zB E Y sz) (zA Y sz)) 0 0 (zA Y sz) := by
  refine z_met (own := RX12) (Qc := fun sz => va_Qi Q (zB E Y sz) (zA Y sz)) (by decide +kernel) rfl (Nat.le_of_ble_eq_true rfl) ?_
  intro p e s m args below meth c hG hinit
  unfold wX12_lose at hw
  refine zlv (lv' := [(0, .ref (za Y t0)), (1, .int v1)]) rfl ?_
  refine z_aload_n hG dX12_lose_0 rfl 0 rfl ?_
  refine z_iconst (v := 0) hG dX12_lose_1 (by decide) ?_
  refine z_puti hG f_X12_47 h0 rfl rfl (zN_int _) dX12_lose_2 ?_
  refine z_topσ (fun σ1 eσ1 => ?_)
  have hw := hw σ1 eσ1
  refine z_iload_n hG dX12_lose_5 rfl 1 rfl ?_
  refine z_i2l hG dX12_lose_6 ?_
  refine z_lconst (v := 1) hG dX12_lose_7 (by decide) ?_
  refine z_ldc2 (hc := c_X12_214) hG (hd := dX12_lose_8) ?_
  obtain ⟨x2, ex2⟩ : ∃ y : Int64, y = v1.toInt64 := ⟨_, rfl⟩
  refine zst (st' := [.long 500, .long 1, .long x2]) (by rw [ex2]) ?_
  have hw := hw x2 ex2
  refine z_calli hG (z_runS (As := [.long x2, .long 1, .long 500]) (st := []) hG k_X12_58 (MX12_isIn l hw) ⟨(Nat.le_of_ble_eq_true rfl), (Nat.le_of_ble_eq_true rfl)⟩ rfl (Nat.le_of_ble_eq_true rfl) dX12_lose_11 ⟨Nat.zero_le _, Nat.zero_le _⟩ rfl) (fun r4 σ3 hw => ?_)
  refine z_if_ne (tgt := 23) hG dX12_lose_14 (by decide) (fun c27 => ?_) (fun c27 => ?_)
  · have hw := hw.2 c27
    refine z_aload_n hG dX12_lose_23 rfl 0 rfl ?_
    obtain ⟨j5, ej5, hw⟩ := hw
    refine z_getr (kq := 20) hG f_X12_7 h0 rfl ej5 rfl (by decide) dX12_lose_24 (fun hj5 => ?_)
    refine z_bipush (v := 20) hG dX12_lose_27 (by decide) ?_
    obtain ⟨q6, hw⟩ := hw
    refine z_iald hG hj5 q6 dX12_lose_29 ?_
    refine z_bipush (v := 20) hG dX12_lose_30 (by decide) ?_
    refine z_icmp_ne (tgt := 41) hG dX12_lose_32 (by decide) (fun c24 => ?_) (fun c24 => ?_)
    · have hw := hw.2 c24
      refine z_aload_n hG dX12_lose_41 rfl 0 rfl ?_
      refine z_callv hG (z_runV (As := []) (st := []) hG k_X12_195 (MX12_records l h0 hw) ⟨(Nat.le_of_ble_eq_true rfl), (Nat.le_of_ble_eq_true rfl)⟩ h0 (T := TX12) (N := 23) rfl (by decide) rfl (Nat.le_of_ble_eq_true rfl) dX12_lose_42 ⟨Nat.zero_le _, Nat.zero_le _⟩ rfl) (fun σ7 hw => ?_)
      refine z_aload_n hG dX12_lose_45 rfl 0 rfl ?_
      obtain ⟨j8, ej8, hw⟩ := hw
      refine z_getr (kq := 20) hG f_X12_7 h0 rfl ej8 rfl (by decide) dX12_lose_46 (fun hj8 => ?_)
      refine z_bipush (v := 16) hG dX12_lose_49 (by decide) ?_
      obtain ⟨q9, hw⟩ := hw
      refine z_iald hG hj8 q9 dX12_lose_51 ?_
      refine z_iload_n hG dX12_lose_52 rfl 1 rfl ?_
      refine z_iadd hG dX12_lose_53 ?_
      refine z_topi (fun x10 ex10 => ?_)
      have hw := hw x10 ex10
      refine z_istore_n (lv' := [(2, .int x10), (0, .ref (za Y t0)), (1, .int v1)]) hG dX12_lose_54 rfl (by decide) rfl ?_
      refine z_aload_n hG dX12_lose_55 rfl 1 rfl ?_
      obtain ⟨j11, ej11, hw⟩ := hw
      refine z_getr (kq := 20) hG f_X12_7 h0 rfl ej11 rfl (by decide) dX12_lose_56 (fun hj11 => ?_)
      refine z_bipush (v := 39) hG dX12_lose_59 (by decide) ?_
      refine z_aload_n hG dX12_lose_61 rfl 1 rfl ?_
      obtain ⟨j12, ej12, hw⟩ := hw
      refine z_getr (kq := 20) hG f_X12_7 h0 rfl ej12 rfl (by decide) dX12_lose_62 (fun hj12 => ?_)
      refine z_bipush (v := 20) hG dX12_lose_65 (by decide) ?_
      obtain ⟨q13, hw⟩ := hw
      refine z_iald hG hj12 q13 dX12_lose_67 ?_
      refine z_iadd hG dX12_lose_68 ?_
      refine z_iload_n hG dX12_lose_69 rfl 0 rfl ?_
      obtain ⟨x14, ex14⟩ : ∃ y : Int32, y = 39 + (gi σ7 j12 (20 : Int32).toNatClampNeg) := ⟨_, rfl⟩
      refine zst (st' := [.int x10, .int x14, .ref (za Y j11)]) (by rw [ex14]) ?_
      have hw := hw x14 ex14
      obtain ⟨q15, hw⟩ := hw
      refine z_iast hG hj11 q15 dX12_lose_70 ?_
      refine z_topσ (fun σ16 eσ16 => ?_)
      have hw := hw σ16 eσ16
      refine z_aload_n hG dX12_lose_71 rfl 1 rfl ?_
      obtain ⟨j17, ej17, hw⟩ := hw
      refine z_getr (kq := 20) hG f_X12_7 h0 rfl ej17 rfl (by decide) dX12_lose_72 (fun hj17 => ?_)
      refine z_bipush (v := 20) hG dX12_lose_75 (by decide) ?_
      refine z_dup2 hG dX12_lose_77 rfl rfl ?_
      obtain ⟨q18, hw⟩ := hw
      refine z_iald hG hj17 q18 dX12_lose_78 ?_
      refine z_iconst (v := 1) hG dX12_lose_79 (by decide) ?_
      refine z_iadd hG dX12_lose_80 ?_
      refine z_topi (fun x19 ex19 => ?_)
      have hw := hw x19 ex19
      obtain ⟨q20, hw⟩ := hw
      refine z_iast hG hj17 q20 dX12_lose_81 ?_
      refine z_topσ (fun σ21 eσ21 => ?_)
      have hw := hw σ21 eσ21
      refine z_iload_n hG dX12_lose_82 rfl 0 rfl ?_
      exact z_iret hG rfl rfl dX12_lose_83 hw
    · have hw := hw.1 c24
      refine z_aload_n hG dX12_lose_35 rfl 0 rfl ?_
      refine z_iconst (v := 2) hG dX12_lose_36 (by decide) ?_
      refine z_calli hG (z_runV (As := [.int 2]) (st := []) hG k_X12_174 (MX12_raise l h0 hw) ⟨(Nat.le_of_ble_eq_true rfl), (Nat.le_of_ble_eq_true rfl)⟩ h0 (T := TX12) (N := 23) rfl (by decide) rfl (Nat.le_of_ble_eq_true rfl) dX12_lose_37 ⟨Nat.zero_le _, Nat.zero_le _⟩ rfl) (fun r23 σ22 hw => ?_)
      exact z_iret hG rfl rfl dX12_lose_40 hw
  · have hw := hw.1 c27
    refine z_aload_n hG dX12_lose_17 rfl 0 rfl ?_
    refine z_iconst (v := 1) hG dX12_lose_18 (by decide) ?_
    refine z_calli hG (z_runV (As := [.int 1]) (st := []) hG k_X12_174 (MX12_raise l h0 hw) ⟨(Nat.le_of_ble_eq_true rfl), (Nat.le_of_ble_eq_true rfl)⟩ h0 (T := TX12) (N := 23) rfl (by decide) rfl (Nat.le_of_ble_eq_true rfl) dX12_lose_19 ⟨Nat.zero_le _, Nat.zero_le _⟩ rfl) (fun r26 σ25 hw => ?_)
    exact z_iret hG rfl rfl dX12_lose_22 hw
-- TypeWheelTelegraphModel.undo()I
def wX12_undo_30 (ln : Nat → Nat) (Q : Int32 → zS → Prop) : Nat → Nat → Int32 → zS → Prop
  | 0, _, _, _ => False
  | n + 1, t0, v1, σ => ((4763 ≤ v1 → Q (gi σ t0 5) σ) ∧ (¬ 4763 ≤ v1 → ∃ j1 : Nat, gr σ t0 1 = some j1 ∧ ∃ j2 : Nat, gr σ t0 4 = some j2 ∧ ∀ x3 : Int32, x3 = (4763 * (gi σ t0 5)) + v1 → vp_in x3 (ln j2) ∧ ∀ x5 : Int32, x5 = gi σ j2 x3.toNatClampNeg → vp_in v1 (ln j1) ∧ ∀ σ7 : zS, σ7 = si σ j1 v1.toNatClampNeg x5 → ∀ x8 : Int32, x8 = v1 + 1 → (wX12_undo_30 ln Q n) t0 x8 σ7))
def wX12_undo (ln : Nat → Nat) (σ : zS) (t0 : Nat) (Q : Int32 → zS → Prop) : Prop := ∀ σ1 : zS, σ1 = si σ t0 0 0 → (((gi σ1 t0 5) = 0 → wX12_raise ln σ1 t0 1 (fun r6 σ5 => Q r6 σ5)) ∧ (¬ (gi σ1 t0 5) = 0 → ∀ x2 : Int32, x2 = (gi σ1 t0 5) - 1 → ∀ σ3 : zS, σ3 = si σ1 t0 5 x2 → ∃ n4 : Nat, wX12_undo_30 ln Q n4 t0 0 σ3))
abbrev rX12_undo : Room := { frames := 1, cells := 0, slots := 0, locals := 21 }
set_option maxRecDepth 100000 in
set_option maxHeartbeats 4000000 in
theorem BX12_undo_30 {l : Launch} {E : zE} {Y : zY} {p : Program} {e : Env} {s : State} {m : MethodId} {args : Array Value} {below : List Frame} {meth : Method} {c : Code} (hG : zG E p l s m args meth c cX12_undo 2 RX12 (some .int) (zA Y s.heap.size)) {Q : Int32 → zS → Prop} : ∀ (n : Nat) (t0 : Nat) (v1 : Int32) (σ : zS), wX12_undo_30 (zln Y) Q n t0 v1 σ → zT Y 12 t0 → WW E Y σ p l e rX12_undo s m args below meth c (zA Y s.heap.size) 2 0 0 (MQ below (va_Qi Q (zB E Y s.heap.size) (zA Y s.heap.size)) args s 0 0 (zA Y s.heap.size)) [(0, .ref (za Y t0)), (1, .int v1)] 30 [] := by
  intro n
  induction n with
  | zero => intro t0 v1 σ hw
            exact hw.elim
  | succ n ih =>
    intro t0 v1 σ hw h0
    rw [wX12_undo_30] at hw
    refine z_iload_n hG dX12_undo_30 rfl 1 rfl ?_
    refine z_sipush (v := 4763) hG dX12_undo_31 (by decide) ?_
    refine z_icmp_ge (tgt := 64) hG dX12_undo_34 (by decide) (fun c9 => ?_) (fun c9 => ?_)
    · have hw := hw.1 c9
      refine z_aload_n hG dX12_undo_64 rfl 0 rfl ?_
      refine z_geti hG f_X12_50 h0 rfl dX12_undo_65 ?_
      exact z_iret hG rfl rfl dX12_undo_68 hw
    · have hw := hw.2 c9
      refine z_aload_n hG dX12_undo_37 rfl 0 rfl ?_
      obtain ⟨j1, ej1, hw⟩ := hw
      refine z_getr (kq := 20) hG f_X12_7 h0 rfl ej1 rfl (by decide) dX12_undo_38 (fun hj1 => ?_)
      refine z_iload_n hG dX12_undo_41 rfl 1 rfl ?_
      refine z_aload_n hG dX12_undo_42 rfl 0 rfl ?_
      obtain ⟨j2, ej2, hw⟩ := hw
      refine z_getr (kq := 20) hG f_X12_20 h0 rfl ej2 rfl (by decide) dX12_undo_43 (fun hj2 => ?_)
      refine z_sipush (v := 4763) hG dX12_undo_46 (by decide) ?_
      refine z_aload_n hG dX12_undo_49 rfl 0 rfl ?_
      refine z_geti hG f_X12_50 h0 rfl dX12_undo_50 ?_
      refine z_imul hG dX12_undo_53 ?_
      refine z_iload_n hG dX12_undo_54 rfl 1 rfl ?_
      refine z_iadd hG dX12_undo_55 ?_
      refine z_topi (fun x3 ex3 => ?_)
      have hw := hw x3 ex3
      obtain ⟨q4, hw⟩ := hw
      refine z_iald hG hj2 q4 dX12_undo_56 ?_
      refine z_topi (fun x5 ex5 => ?_)
      have hw := hw x5 ex5
      obtain ⟨q6, hw⟩ := hw
      refine z_iast hG hj1 q6 dX12_undo_57 ?_
      refine z_topσ (fun σ7 eσ7 => ?_)
      have hw := hw σ7 eσ7
      obtain ⟨x8, ex8⟩ : ∃ y : Int32, y = v1 + 1 := ⟨_, rfl⟩
      have hw := hw x8 ex8
      refine z_iinc (v := x8) (lv' := [(1, .int x8), (0, .ref (za Y t0))]) hG dX12_undo_58 1 rfl (by rw [ex8]; rfl) (by decide) rfl ?_
      refine z_goto (tgt := 30) hG dX12_undo_61 (by decide) ?_
      refine zpick [1, 0] (lv' := [(0, .ref (za Y t0)), (1, .int x8)]) rfl ?_
      exact ih t0 x8 σ7 hw h0
set_option maxRecDepth 100000 in
set_option maxHeartbeats 4000000 in
theorem MX12_undo (l : Launch) {E : zE} {Y : zY} {σ : zS} {t0 : Nat} (h0 : zT Y 12 t0) {Q : Int32 → zS → Prop} (hw : wX12_undo (zln Y) σ t0 Q) : ∀ sz, Met l yX12_undo (zw yX12_undo cX12_undo 2 (some .int)) rX12_undo (zPc E Y σ sz [.ref (za Y t0)]) (va_Qi Q (zB E Y sz) (zA Y sz)) 0 0 (zA Y sz) := by
  refine z_met (own := RX12) (Qc := fun sz => va_Qi Q (zB E Y sz) (zA Y sz)) (by decide +kernel) rfl (Nat.le_of_ble_eq_true rfl) ?_
  intro p e s m args below meth c hG hinit
  unfold wX12_undo at hw
  refine zlv (lv' := [(0, .ref (za Y t0))]) rfl ?_
  refine z_aload_n hG dX12_undo_0 rfl 0 rfl ?_
  refine z_iconst (v := 0) hG dX12_undo_1 (by decide) ?_
  refine z_puti hG f_X12_47 h0 rfl rfl (zN_int _) dX12_undo_2 ?_
  refine z_topσ (fun σ1 eσ1 => ?_)
  have hw := hw σ1 eσ1
  refine z_aload_n hG dX12_undo_5 rfl 0 rfl ?_
  refine z_geti hG f_X12_50 h0 rfl dX12_undo_6 ?_
  refine z_if_ne (tgt := 18) hG dX12_undo_9 (by decide) (fun c7 => ?_) (fun c7 => ?_)
  · have hw := hw.2 c7
    refine z_aload_n hG dX12_undo_18 rfl 0 rfl ?_
    refine z_dup hG dX12_undo_19 rfl ?_
    refine z_geti hG f_X12_50 h0 rfl dX12_undo_20 ?_
    refine z_iconst (v := 1) hG dX12_undo_23 (by decide) ?_
    refine z_isub hG dX12_undo_24 ?_
    refine z_topi (fun x2 ex2 => ?_)
    have hw := hw x2 ex2
    refine z_puti hG f_X12_50 h0 rfl rfl (zN_int _) dX12_undo_25 ?_
    refine z_topσ (fun σ3 eσ3 => ?_)
    have hw := hw σ3 eσ3
    refine z_iconst (v := 0) hG dX12_undo_28 (by decide) ?_
    refine z_istore_n (lv' := [(1, .int 0), (0, .ref (za Y t0))]) hG dX12_undo_29 rfl (by decide) rfl ?_
    obtain ⟨n4, hw⟩ := hw
    refine zpick [1, 0] (lv' := [(0, .ref (za Y t0)), (1, .int 0)]) rfl ?_
    exact BX12_undo_30 hG n4 t0 0 σ3 hw h0
  · have hw := hw.1 c7
    refine z_aload_n hG dX12_undo_12 rfl 0 rfl ?_
    refine z_iconst (v := 1) hG dX12_undo_13 (by decide) ?_
    refine z_calli hG (z_runV (As := [.int 1]) (st := []) hG k_X12_174 (MX12_raise l h0 hw) ⟨(Nat.le_of_ble_eq_true rfl), (Nat.le_of_ble_eq_true rfl)⟩ h0 (T := TX12) (N := 23) rfl (by decide) rfl (Nat.le_of_ble_eq_true rfl) dX12_undo_14 ⟨Nat.zero_le _, Nat.zero_le _⟩ rfl) (fun r6 σ5 hw => ?_)
    exact z_iret hG rfl rfl dX12_undo_17 hw
-- TypeWheelTelegraphModel.wrongs()I
def wX12_wrongs (ln : Nat → Nat) (σ : zS) (t0 : Nat) (Q : Int32 → zS → Prop) : Prop := ∃ j1 : Nat, gr σ t0 1 = some j1 ∧ vp_in (33 : Int32) (ln j1) ∧ ∃ j3 : Nat, gr σ t0 1 = some j3 ∧ vp_in (34 : Int32) (ln j3) ∧ Q ((gi σ j1 (33 : Int32).toNatClampNeg) + (gi σ j3 (34 : Int32).toNatClampNeg)) σ
abbrev rX12_wrongs : Room := { frames := 0, cells := 0, slots := 0, locals := 0 }
set_option maxRecDepth 100000 in
set_option maxHeartbeats 4000000 in
theorem MX12_wrongs (l : Launch) {E : zE} {Y : zY} {σ : zS} {t0 : Nat} (h0 : zT Y 12 t0) {Q : Int32 → zS → Prop} (hw : wX12_wrongs (zln Y) σ t0 Q) : ∀ sz, Met l yX12_wrongs (zw yX12_wrongs cX12_wrongs 1 (some .int)) rX12_wrongs (zPc E Y σ sz [.ref (za Y t0)]) (va_Qi Q (zB E Y sz) (zA Y sz)) 0 0 (zA Y sz) := by
  refine z_met (own := RX12) (Qc := fun sz => va_Qi Q (zB E Y sz) (zA Y sz)) (by decide +kernel) rfl (Nat.le_of_ble_eq_true rfl) ?_
  intro p e s m args below meth c hG hinit
  unfold wX12_wrongs at hw
  refine zlv (lv' := [(0, .ref (za Y t0))]) rfl ?_
  refine z_aload_n hG dX12_wrongs_0 rfl 0 rfl ?_
  obtain ⟨j1, ej1, hw⟩ := hw
  refine z_getr (kq := 20) hG f_X12_7 h0 rfl ej1 rfl (by decide) dX12_wrongs_1 (fun hj1 => ?_)
  refine z_bipush (v := 33) hG dX12_wrongs_4 (by decide) ?_
  obtain ⟨q2, hw⟩ := hw
  refine z_iald hG hj1 q2 dX12_wrongs_6 ?_
  refine z_aload_n hG dX12_wrongs_7 rfl 0 rfl ?_
  obtain ⟨j3, ej3, hw⟩ := hw
  refine z_getr (kq := 20) hG f_X12_7 h0 rfl ej3 rfl (by decide) dX12_wrongs_8 (fun hj3 => ?_)
  refine z_bipush (v := 34) hG dX12_wrongs_11 (by decide) ?_
  obtain ⟨q4, hw⟩ := hw
  refine z_iald hG hj3 q4 dX12_wrongs_13 ?_
  refine z_iadd hG dX12_wrongs_14 ?_
  exact z_iret hG rfl rfl dX12_wrongs_15 hw
-- TypeWheelTelegraphModel.puts(I)V
def wX12_puts (ln : Nat → Nat) (σ : zS) (t0 : Nat) (v1 : Int32) (Q : zS → Prop) : Prop := ∃ j1 : Nat, gr σ t0 10 = some j1 ∧ ∀ x2 : Int32, x2 = gi σ t0 11 → vp_in x2 (ln j1) ∧ ∀ σ4 : zS, σ4 = si σ j1 x2.toNatClampNeg v1 → ∀ x5 : Int32, x5 = (gi σ4 t0 11) + 1 → ∀ σ6 : zS, σ6 = si σ4 t0 11 x5 → Q σ6
abbrev rX12_puts : Room := { frames := 0, cells := 0, slots := 0, locals := 0 }
set_option maxRecDepth 100000 in
set_option maxHeartbeats 4000000 in
theorem MX12_puts (l : Launch) {E : zE} {Y : zY} {σ : zS} {t0 : Nat} {v1 : Int32} (h0 : zT Y 12 t0) {Q : zS → Prop} (hw : wX12_puts (zln Y) σ t0 v1 Q) : ∀ sz, Met l yX12_puts (zw yX12_puts cX12_puts 2 none) rX12_puts (zPc E Y σ sz [.ref (za Y t0), .int v1]) (va_Qv Q (zB E Y sz) (zA Y sz)) 0 0 (zA Y sz) := by
  refine z_met (own := RX12) (Qc := fun sz => va_Qv Q (zB E Y sz) (zA Y sz)) (by decide +kernel) rfl (Nat.le_of_ble_eq_true rfl) ?_
  intro p e s m args below meth c hG hinit
  unfold wX12_puts at hw
  refine zlv (lv' := [(0, .ref (za Y t0)), (1, .int v1)]) rfl ?_
  refine z_aload_n hG dX12_puts_0 rfl 0 rfl ?_
  obtain ⟨j1, ej1, hw⟩ := hw
  refine z_getr (kq := 20) hG f_X12_32 h0 rfl ej1 rfl (by decide) dX12_puts_1 (fun hj1 => ?_)
  refine z_aload_n hG dX12_puts_4 rfl 0 rfl ?_
  refine z_geti hG f_X12_226 h0 rfl dX12_puts_5 ?_
  refine z_iload_n hG dX12_puts_8 rfl 1 rfl ?_
  obtain ⟨x2, ex2⟩ : ∃ y : Int32, y = gi σ t0 11 := ⟨_, rfl⟩
  refine zst (st' := [.int v1, .int x2, .ref (za Y j1)]) (by rw [ex2]) ?_
  have hw := hw x2 ex2
  obtain ⟨q3, hw⟩ := hw
  refine z_iast hG hj1 q3 dX12_puts_9 ?_
  refine z_topσ (fun σ4 eσ4 => ?_)
  have hw := hw σ4 eσ4
  refine z_aload_n hG dX12_puts_10 rfl 0 rfl ?_
  refine z_dup hG dX12_puts_11 rfl ?_
  refine z_geti hG f_X12_226 h0 rfl dX12_puts_12 ?_
  refine z_iconst (v := 1) hG dX12_puts_15 (by decide) ?_
  refine z_iadd hG dX12_puts_16 ?_
  refine z_topi (fun x5 ex5 => ?_)
  have hw := hw x5 ex5
  refine z_puti hG f_X12_226 h0 rfl rfl (zN_int _) dX12_puts_17 ?_
  refine z_topσ (fun σ6 eσ6 => ?_)
  have hw := hw σ6 eσ6
  exact z_vret hG rfl dX12_puts_20 hw
-- TypeWheelTelegraphModel.digits(I)V
def wX12_digits_20 (ln : Nat → Nat) (Q : zS → Prop) : Nat → Nat → Int32 → Int32 → zS → Prop
  | 0, _, _, _, _ => False
  | n + 1, t0, v1, v3, σ => ((v3 ≤ 0 → Q σ) ∧ (¬ v3 ≤ 0 → ¬ v3 = 0 ∧ ∀ x2 : Int32, x2 = v1 / v3 → ∀ x3 : Int32, x3 = 48 + (x2 - x2 / 10 * 10) → wX12_puts ln σ t0 x3 (fun σ4 => ∀ x5 : Int32, x5 = v3 / 10 → (wX12_digits_20 ln Q n) t0 v1 x5 σ4)))
def wX12_digits_2 (ln : Nat → Nat) (Q : zS → Prop) : Nat → Nat → Int32 → Int32 → zS → Prop
  | 0, _, _, _, _ => False
  | n + 1, t0, v1, v2, σ => ¬ v2 = 0 ∧ (((v1 / v2) ≤ 9 → ∃ n2 : Nat, wX12_digits_20 ln Q n2 t0 v1 v2 σ) ∧ (¬ (v1 / v2) ≤ 9 → ∀ x3 : Int32, x3 = v2 * 10 → (wX12_digits_2 ln Q n) t0 v1 x3 σ))
def wX12_digits (ln : Nat → Nat) (σ : zS) (t0 : Nat) (v1 : Int32) (Q : zS → Prop) : Prop := ∃ n1 : Nat, wX12_digits_2 ln Q n1 t0 v1 1 σ
abbrev rX12_digits : Room := { frames := 1, cells := 0, slots := 0, locals := 21 }
set_option maxRecDepth 100000 in
set_option maxHeartbeats 4000000 in
theorem BX12_digits_20 {l : Launch} {E : zE} {Y : zY} {p : Program} {e : Env} {s : State} {m : MethodId} {args : Array Value} {below : List Frame} {meth : Method} {c : Code} (hG : zG E p l s m args meth c cX12_digits 4 RX12 none (zA Y s.heap.size)) {Q : zS → Prop} : ∀ (n : Nat) (t0 : Nat) (v1 : Int32) (v3 : Int32) (σ : zS), wX12_digits_20 (zln Y) Q n t0 v1 v3 σ → zT Y 12 t0 → WW E Y σ p l e rX12_digits s m args below meth c (zA Y s.heap.size) 4 0 0 (MQ below (va_Qv Q (zB E Y s.heap.size) (zA Y s.heap.size)) args s 0 0 (zA Y s.heap.size)) [(0, .ref (za Y t0)), (1, .int v1), (3, .int v3)] 20 [] := by
  intro n
  induction n with
  | zero => intro t0 v1 v3 σ hw
            exact hw.elim
  | succ n ih =>
    intro t0 v1 v3 σ hw h0
    rw [wX12_digits_20] at hw
    refine z_iload_n hG dX12_digits_20 rfl 2 rfl ?_
    refine z_if_le (tgt := 45) hG dX12_digits_21 (by decide) (fun c6 => ?_) (fun c6 => ?_)
    · have hw := hw.1 c6
      exact z_vret hG rfl dX12_digits_45 hw
    · have hw := hw.2 c6
      refine z_aload_n hG dX12_digits_24 rfl 0 rfl ?_
      refine z_bipush (v := 48) hG dX12_digits_25 (by decide) ?_
      refine z_iload_n hG dX12_digits_27 rfl 1 rfl ?_
      refine z_iload_n hG dX12_digits_28 rfl 2 rfl ?_
      obtain ⟨q1, hw⟩ := hw
      refine z_idiv hG dX12_digits_29 q1 ?_
      refine z_bipush (v := 10) hG dX12_digits_30 (by decide) ?_
      obtain ⟨x2, ex2⟩ : ∃ y : Int32, y = v1 / v3 := ⟨_, rfl⟩
      refine zst (st' := [.int 10, .int x2, .int 48, .ref (za Y t0)]) (by rw [ex2]) ?_
      have hw := hw x2 ex2
      refine z_irem hG dX12_digits_32 (by decide) ?_
      refine z_iadd hG dX12_digits_33 ?_
      refine z_topi (fun x3 ex3 => ?_)
      have hw := hw x3 ex3
      refine z_callv hG (z_runV (As := [.int x3]) (st := []) hG k_X12_232 (MX12_puts l h0 hw) ⟨(Nat.le_of_ble_eq_true rfl), (Nat.le_of_ble_eq_true rfl)⟩ h0 (T := TX12) (N := 23) rfl (by decide) rfl (Nat.le_of_ble_eq_true rfl) dX12_digits_34 ⟨Nat.zero_le _, Nat.zero_le _⟩ rfl) (fun σ4 hw => ?_)
      refine z_iload_n hG dX12_digits_37 rfl 2 rfl ?_
      refine z_bipush (v := 10) hG dX12_digits_38 (by decide) ?_
      refine z_idiv hG dX12_digits_40 (by decide) ?_
      refine z_topi (fun x5 ex5 => ?_)
      have hw := hw x5 ex5
      refine z_istore_n (lv' := [(3, .int x5), (0, .ref (za Y t0)), (1, .int v1)]) hG dX12_digits_41 rfl (by decide) rfl ?_
      refine z_goto (tgt := 20) hG dX12_digits_42 (by decide) ?_
      refine zpick [1, 2, 0] (lv' := [(0, .ref (za Y t0)), (1, .int v1), (3, .int x5)]) rfl ?_
      exact ih t0 v1 x5 σ4 hw h0
set_option maxRecDepth 100000 in
set_option maxHeartbeats 4000000 in
theorem BX12_digits_2 {l : Launch} {E : zE} {Y : zY} {p : Program} {e : Env} {s : State} {m : MethodId} {args : Array Value} {below : List Frame} {meth : Method} {c : Code} (hG : zG E p l s m args meth c cX12_digits 4 RX12 none (zA Y s.heap.size)) {Q : zS → Prop} : ∀ (n : Nat) (t0 : Nat) (v1 : Int32) (v2 : Int32) (σ : zS), wX12_digits_2 (zln Y) Q n t0 v1 v2 σ → zT Y 12 t0 → WW E Y σ p l e rX12_digits s m args below meth c (zA Y s.heap.size) 4 0 0 (MQ below (va_Qv Q (zB E Y s.heap.size) (zA Y s.heap.size)) args s 0 0 (zA Y s.heap.size)) [(0, .ref (za Y t0)), (1, .int v1), (2, .int v2)] 2 [] := by
  intro n
  induction n with
  | zero => intro t0 v1 v2 σ hw
            exact hw.elim
  | succ n ih =>
    intro t0 v1 v2 σ hw h0
    rw [wX12_digits_2] at hw
    refine z_iload_n hG dX12_digits_2 rfl 1 rfl ?_
    refine z_iload_n hG dX12_digits_3 rfl 2 rfl ?_
    obtain ⟨q1, hw⟩ := hw
    refine z_idiv hG dX12_digits_4 q1 ?_
    refine z_bipush (v := 9) hG dX12_digits_5 (by decide) ?_
    refine z_icmp_le (tgt := 18) hG dX12_digits_7 (by decide) (fun c4 => ?_) (fun c4 => ?_)
    · have hw := hw.1 c4
      refine z_iload_n hG dX12_digits_18 rfl 2 rfl ?_
      refine z_istore_n (lv' := [(3, .int v2), (0, .ref (za Y t0)), (1, .int v1), (2, .int v2)]) hG dX12_digits_19 rfl (by decide) rfl ?_
      obtain ⟨n2, hw⟩ := hw
      refine zpick [1, 2, 0] (lv' := [(0, .ref (za Y t0)), (1, .int v1), (3, .int v2)]) rfl ?_
      exact BX12_digits_20 hG n2 t0 v1 v2 σ hw h0
    · have hw := hw.2 c4
      refine z_iload_n hG dX12_digits_10 rfl 2 rfl ?_
      refine z_bipush (v := 10) hG dX12_digits_11 (by decide) ?_
      refine z_imul hG dX12_digits_13 ?_
      refine z_topi (fun x3 ex3 => ?_)
      have hw := hw x3 ex3
      refine z_istore_n (lv' := [(2, .int x3), (0, .ref (za Y t0)), (1, .int v1)]) hG dX12_digits_14 rfl (by decide) rfl ?_
      refine z_goto (tgt := 2) hG dX12_digits_15 (by decide) ?_
      refine zpick [1, 2, 0] (lv' := [(0, .ref (za Y t0)), (1, .int v1), (2, .int x3)]) rfl ?_
      exact ih t0 v1 x3 σ hw h0
set_option maxRecDepth 100000 in
set_option maxHeartbeats 4000000 in
theorem MX12_digits (l : Launch) {E : zE} {Y : zY} {σ : zS} {t0 : Nat} {v1 : Int32} (h0 : zT Y 12 t0) {Q : zS → Prop} (hw : wX12_digits (zln Y) σ t0 v1 Q) : ∀ sz, Met l yX12_digits (zw yX12_digits cX12_digits 4 none) rX12_digits (zPc E Y σ sz [.ref (za Y t0), .int v1]) (va_Qv Q (zB E Y sz) (zA Y sz)) 0 0 (zA Y sz) := by
  refine z_met (own := RX12) (Qc := fun sz => va_Qv Q (zB E Y sz) (zA Y sz)) (by decide +kernel) rfl (Nat.le_of_ble_eq_true rfl) ?_
  intro p e s m args below meth c hG hinit
  unfold wX12_digits at hw
  refine zlv (lv' := [(0, .ref (za Y t0)), (1, .int v1)]) rfl ?_
  refine z_iconst (v := 1) hG dX12_digits_0 (by decide) ?_
  refine z_istore_n (lv' := [(2, .int 1), (0, .ref (za Y t0)), (1, .int v1)]) hG dX12_digits_1 rfl (by decide) rfl ?_
  obtain ⟨n1, hw⟩ := hw
  refine zpick [1, 2, 0] (lv' := [(0, .ref (za Y t0)), (1, .int v1), (2, .int 1)]) rfl ?_
  exact BX12_digits_2 hG n1 t0 v1 1 σ hw h0
-- TypeWheelTelegraphModel.formattedCharacter(I)C
def wX12_formattedCharacter (ln : Nat → Nat) (σ : zS) (t0 : Nat) (v1 : Int32) (Q : Int32 → zS → Prop) : Prop := ∀ σ1 : zS, σ1 = si σ t0 0 0 → ∀ x2 : Int64, x2 = ((gi σ1 t0 11) - 1).toInt64 → ∀ x3 : Int64, x3 = v1.toInt64 → wX12_isIn ln σ1 x3 0 x2 (fun r5 σ4 => ((r5 = 0 → wX12_raise ln σ4 t0 1 (fun r10 σ9 => Q ((r10.toUInt32 % 65536).toInt32) σ9)) ∧ (¬ r5 = 0 → ∃ j6 : Nat, gr σ4 t0 10 = some j6 ∧ vp_in v1 (ln j6) ∧ ∀ x8 : Int32, x8 = gi σ4 j6 v1.toNatClampNeg → Q ((x8.toUInt32 % 65536).toInt32) σ4)))
abbrev rX12_formattedCharacter : Room := { frames := 1, cells := 0, slots := 0, locals := 25 }
set_option maxRecDepth 100000 in
set_option maxHeartbeats 4000000 in
theorem MX12_formattedCharacter (l : Launch) {E : zE} {Y : zY} {σ : zS} {t0 : Nat} {v1 : Int32} (h0 : zT Y 12 t0) {Q : Int32 → zS → Prop} (hw : wX12_formattedCharacter (zln Y) σ t0 v1 Q) : ∀ sz, Met l yX12_formattedCharacter (zw yX12_formattedCharacter cX12_formattedCharacter 2 (some .char)) rX12_formattedCharacter (zPc E Y σ sz [.ref (za Y t0), .int v1]) (va_Qi Q (zB E Y sz) (zA Y sz)) 0 0 (zA Y sz) := by
  refine z_met (own := RX12) (Qc := fun sz => va_Qi Q (zB E Y sz) (zA Y sz)) (by decide +kernel) rfl (Nat.le_of_ble_eq_true rfl) ?_
  intro p e s m args below meth c hG hinit
  unfold wX12_formattedCharacter at hw
  refine zlv (lv' := [(0, .ref (za Y t0)), (1, .int v1)]) rfl ?_
  refine z_aload_n hG dX12_formattedCharacter_0 rfl 0 rfl ?_
  refine z_iconst (v := 0) hG dX12_formattedCharacter_1 (by decide) ?_
  refine z_puti hG f_X12_47 h0 rfl rfl (zN_int _) dX12_formattedCharacter_2 ?_
  refine z_topσ (fun σ1 eσ1 => ?_)
  have hw := hw σ1 eσ1
  refine z_iload_n hG dX12_formattedCharacter_5 rfl 1 rfl ?_
  refine z_i2l hG dX12_formattedCharacter_6 ?_
  refine z_lconst (v := 0) hG dX12_formattedCharacter_7 (by decide) ?_
  refine z_aload_n hG dX12_formattedCharacter_8 rfl 0 rfl ?_
  refine z_geti hG f_X12_226 h0 rfl dX12_formattedCharacter_9 ?_
  refine z_iconst (v := 1) hG dX12_formattedCharacter_12 (by decide) ?_
  refine z_isub hG dX12_formattedCharacter_13 ?_
  refine z_i2l hG dX12_formattedCharacter_14 ?_
  refine z_topl (fun x2 ex2 => ?_)
  have hw := hw x2 ex2
  obtain ⟨x3, ex3⟩ : ∃ y : Int64, y = v1.toInt64 := ⟨_, rfl⟩
  refine zst (st' := [.long x2, .long 0, .long x3]) (by rw [ex3]) ?_
  have hw := hw x3 ex3
  refine z_calli hG (z_runS (As := [.long x3, .long 0, .long x2]) (st := []) hG k_X12_58 (MX12_isIn l hw) ⟨(Nat.le_of_ble_eq_true rfl), (Nat.le_of_ble_eq_true rfl)⟩ rfl (Nat.le_of_ble_eq_true rfl) dX12_formattedCharacter_15 ⟨Nat.zero_le _, Nat.zero_le _⟩ rfl) (fun r5 σ4 hw => ?_)
  refine z_if_ne (tgt := 28) hG dX12_formattedCharacter_18 (by decide) (fun c11 => ?_) (fun c11 => ?_)
  · have hw := hw.2 c11
    refine z_aload_n hG dX12_formattedCharacter_28 rfl 0 rfl ?_
    obtain ⟨j6, ej6, hw⟩ := hw
    refine z_getr (kq := 20) hG f_X12_32 h0 rfl ej6 rfl (by decide) dX12_formattedCharacter_29 (fun hj6 => ?_)
    refine z_iload_n hG dX12_formattedCharacter_32 rfl 1 rfl ?_
    obtain ⟨q7, hw⟩ := hw
    refine z_iald hG hj6 q7 dX12_formattedCharacter_33 ?_
    refine z_topi (fun x8 ex8 => ?_)
    have hw := hw x8 ex8
    refine z_i2c hG dX12_formattedCharacter_34 ?_
    exact z_iret hG rfl (pk_nc _) dX12_formattedCharacter_35 hw
  · have hw := hw.1 c11
    refine z_aload_n hG dX12_formattedCharacter_21 rfl 0 rfl ?_
    refine z_iconst (v := 1) hG dX12_formattedCharacter_22 (by decide) ?_
    refine z_calli hG (z_runV (As := [.int 1]) (st := []) hG k_X12_174 (MX12_raise l h0 hw) ⟨(Nat.le_of_ble_eq_true rfl), (Nat.le_of_ble_eq_true rfl)⟩ h0 (T := TX12) (N := 23) rfl (by decide) rfl (Nat.le_of_ble_eq_true rfl) dX12_formattedCharacter_23 ⟨Nat.zero_le _, Nat.zero_le _⟩ rfl) (fun r10 σ9 hw => ?_)
    refine z_i2c hG dX12_formattedCharacter_26 ?_
    exact z_iret hG rfl (pk_nc _) dX12_formattedCharacter_27 hw
-- TypeWheelTelegraphModel.adds(I)V
def wX12_adds_3 (ln : Nat → Nat) (Q : zS → Prop) : Nat → Nat → Int32 → Int32 → zS → Prop
  | 0, _, _, _, _ => False
  | n + 1, t0, v1, v2, σ => ((v2 < 0 → Q σ) ∧ (¬ v2 < 0 → ∃ j1 : Nat, gr σ t0 12 = some j1 ∧ ∀ x2 : Int32, x2 = (v1 >>> (v2 &&& 31)).toInt8.toInt32 → ∀ x3 : Int32, x3 = gi σ t0 13 → vp_in x3 (ln j1) ∧ ∀ σ5 : zS, σ5 = si σ j1 x3.toNatClampNeg (vp_nar .byte x2) → ∀ x6 : Int32, x6 = (gi σ5 t0 13) + 1 → ∀ σ7 : zS, σ7 = si σ5 t0 13 x6 → ∀ x8 : Int32, x8 = v2 + (-8) → (wX12_adds_3 ln Q n) t0 v1 x8 σ7))
def wX12_adds (ln : Nat → Nat) (σ : zS) (t0 : Nat) (v1 : Int32) (Q : zS → Prop) : Prop := ∃ n1 : Nat, wX12_adds_3 ln Q n1 t0 v1 24 σ
abbrev rX12_adds : Room := { frames := 0, cells := 0, slots := 0, locals := 0 }
set_option maxRecDepth 100000 in
set_option maxHeartbeats 4000000 in
theorem BX12_adds_3 {l : Launch} {E : zE} {Y : zY} {p : Program} {e : Env} {s : State} {m : MethodId} {args : Array Value} {below : List Frame} {meth : Method} {c : Code} (hG : zG E p l s m args meth c cX12_adds 3 RX12 none (zA Y s.heap.size)) {Q : zS → Prop} : ∀ (n : Nat) (t0 : Nat) (v1 : Int32) (v2 : Int32) (σ : zS), wX12_adds_3 (zln Y) Q n t0 v1 v2 σ → zT Y 12 t0 → WW E Y σ p l e rX12_adds s m args below meth c (zA Y s.heap.size) 3 0 0 (MQ below (va_Qv Q (zB E Y s.heap.size) (zA Y s.heap.size)) args s 0 0 (zA Y s.heap.size)) [(0, .ref (za Y t0)), (1, .int v1), (2, .int v2)] 3 [] := by
  intro n
  induction n with
  | zero => intro t0 v1 v2 σ hw
            exact hw.elim
  | succ n ih =>
    intro t0 v1 v2 σ hw h0
    rw [wX12_adds_3] at hw
    refine z_iload_n hG dX12_adds_3 rfl 2 rfl ?_
    refine z_if_lt (tgt := 36) hG dX12_adds_4 (by decide) (fun c9 => ?_) (fun c9 => ?_)
    · have hw := hw.1 c9
      exact z_vret hG rfl dX12_adds_36 hw
    · have hw := hw.2 c9
      refine z_aload_n hG dX12_adds_7 rfl 0 rfl ?_
      obtain ⟨j1, ej1, hw⟩ := hw
      refine z_getr (kq := 21) hG f_X12_35 h0 rfl ej1 rfl (by decide) dX12_adds_8 (fun hj1 => ?_)
      refine z_aload_n hG dX12_adds_11 rfl 0 rfl ?_
      refine z_geti hG f_X12_250 h0 rfl dX12_adds_12 ?_
      refine z_iload_n hG dX12_adds_15 rfl 1 rfl ?_
      refine z_iload_n hG dX12_adds_16 rfl 2 rfl ?_
      refine z_ishr hG dX12_adds_17 ?_
      refine z_i2b hG dX12_adds_18 ?_
      refine z_topi (fun x2 ex2 => ?_)
      have hw := hw x2 ex2
      obtain ⟨x3, ex3⟩ : ∃ y : Int32, y = gi σ t0 13 := ⟨_, rfl⟩
      refine zst (st' := [.int x2, .int x3, .ref (za Y j1)]) (by rw [ex3]) ?_
      have hw := hw x3 ex3
      obtain ⟨q4, hw⟩ := hw
      refine z_bast hG hj1 q4 dX12_adds_19 ?_
      refine z_topσ (fun σ5 eσ5 => ?_)
      have hw := hw σ5 eσ5
      refine z_aload_n hG dX12_adds_20 rfl 0 rfl ?_
      refine z_dup hG dX12_adds_21 rfl ?_
      refine z_geti hG f_X12_250 h0 rfl dX12_adds_22 ?_
      refine z_iconst (v := 1) hG dX12_adds_25 (by decide) ?_
      refine z_iadd hG dX12_adds_26 ?_
      refine z_topi (fun x6 ex6 => ?_)
      have hw := hw x6 ex6
      refine z_puti hG f_X12_250 h0 rfl rfl (zN_int _) dX12_adds_27 ?_
      refine z_topσ (fun σ7 eσ7 => ?_)
      have hw := hw σ7 eσ7
      obtain ⟨x8, ex8⟩ : ∃ y : Int32, y = v2 + (-8) := ⟨_, rfl⟩
      have hw := hw x8 ex8
      refine z_iinc (v := x8) (lv' := [(2, .int x8), (0, .ref (za Y t0)), (1, .int v1)]) hG dX12_adds_30 2 rfl (by rw [ex8]; rfl) (by decide) rfl ?_
      refine z_goto (tgt := 3) hG dX12_adds_33 (by decide) ?_
      refine zpick [1, 2, 0] (lv' := [(0, .ref (za Y t0)), (1, .int v1), (2, .int x8)]) rfl ?_
      exact ih t0 v1 x8 σ7 hw h0
set_option maxRecDepth 100000 in
set_option maxHeartbeats 4000000 in
theorem MX12_adds (l : Launch) {E : zE} {Y : zY} {σ : zS} {t0 : Nat} {v1 : Int32} (h0 : zT Y 12 t0) {Q : zS → Prop} (hw : wX12_adds (zln Y) σ t0 v1 Q) : ∀ sz, Met l yX12_adds (zw yX12_adds cX12_adds 3 none) rX12_adds (zPc E Y σ sz [.ref (za Y t0), .int v1]) (va_Qv Q (zB E Y sz) (zA Y sz)) 0 0 (zA Y sz) := by
  refine z_met (own := RX12) (Qc := fun sz => va_Qv Q (zB E Y sz) (zA Y sz)) (by decide +kernel) rfl (Nat.le_of_ble_eq_true rfl) ?_
  intro p e s m args below meth c hG hinit
  unfold wX12_adds at hw
  refine zlv (lv' := [(0, .ref (za Y t0)), (1, .int v1)]) rfl ?_
  refine z_bipush (v := 24) hG dX12_adds_0 (by decide) ?_
  refine z_istore_n (lv' := [(2, .int 24), (0, .ref (za Y t0)), (1, .int v1)]) hG dX12_adds_2 rfl (by decide) rfl ?_
  obtain ⟨n1, hw⟩ := hw
  refine zpick [1, 2, 0] (lv' := [(0, .ref (za Y t0)), (1, .int v1), (2, .int 24)]) rfl ?_
  exact BX12_adds_3 hG n1 t0 v1 24 σ hw h0
-- TypeWheelTelegraphModel.append(IIIII)I
def wX12_append (ln : Nat → Nat) (σ : zS) (t0 : Nat) (v1 : Int32) (v2 : Int32) (v3 : Int32) (v4 : Int32) (v5 : Int32) (Q : Int32 → zS → Prop) : Prop := ∀ σ1 : zS, σ1 = si σ t0 0 0 → ((((gi σ1 t0 13) + 20) ≤ 600 → wX12_adds ln σ1 t0 v1 (fun σ2 => wX12_adds ln σ2 t0 v2 (fun σ3 => wX12_adds ln σ3 t0 v3 (fun σ4 => wX12_adds ln σ4 t0 v4 (fun σ5 => wX12_adds ln σ5 t0 v5 (fun σ6 => Q (gi σ6 t0 13) σ6)))))) ∧ (¬ ((gi σ1 t0 13) + 20) ≤ 600 → wX12_raise ln σ1 t0 1 (fun r8 σ7 => Q r8 σ7)))
abbrev rX12_append : Room := { frames := 1, cells := 0, slots := 0, locals := 22 }
set_option maxRecDepth 100000 in
set_option maxHeartbeats 4000000 in
theorem MX12_append (l : Launch) {E : zE} {Y : zY} {σ : zS} {t0 : Nat} {v1 : Int32} {v2 : Int32} {v3 : Int32} {v4 : Int32} {v5 : Int32} (h0 : zT Y 12 t0) {Q : Int32 → zS → Prop} (hw : wX12_append (zln Y) σ t0 v1 v2 v3 v4 v5 Q) : ∀ sz, Met l yX12_append (zw yX12_append cX12_append 6 (some .int)) rX12_append (zPc E Y σ sz [.ref (za Y t0), .int v1, .int v2, .int v3, .int v4, .int v5]) (va_Qi Q (zB E Y sz) (zA Y sz)) 0 0 (zA Y sz) := by
  refine z_met (own := RX12) (Qc := fun sz => va_Qi Q (zB E Y sz) (zA Y sz)) (by decide +kernel) rfl (Nat.le_of_ble_eq_true rfl) ?_
  intro p e s m args below meth c hG hinit
  unfold wX12_append at hw
  refine zlv (lv' := [(0, .ref (za Y t0)), (1, .int v1), (2, .int v2), (3, .int v3), (4, .int v4), (5, .int v5)]) rfl ?_
  refine z_aload_n hG dX12_append_0 rfl 0 rfl ?_
  refine z_iconst (v := 0) hG dX12_append_1 (by decide) ?_
  refine z_puti hG f_X12_47 h0 rfl rfl (zN_int _) dX12_append_2 ?_
  refine z_topσ (fun σ1 eσ1 => ?_)
  have hw := hw σ1 eσ1
  refine z_aload_n hG dX12_append_5 rfl 0 rfl ?_
  refine z_geti hG f_X12_250 h0 rfl dX12_append_6 ?_
  refine z_bipush (v := 20) hG dX12_append_9 (by decide) ?_
  refine z_iadd hG dX12_append_11 ?_
  refine z_sipush (v := 600) hG dX12_append_12 (by decide) ?_
  refine z_icmp_le (tgt := 24) hG dX12_append_15 (by decide) (fun c9 => ?_) (fun c9 => ?_)
  · have hw := hw.1 c9
    refine z_aload_n hG dX12_append_24 rfl 0 rfl ?_
    refine z_iload_n hG dX12_append_25 rfl 1 rfl ?_
    refine z_callv hG (z_runV (As := [.int v1]) (st := []) hG k_X12_253 (MX12_adds l h0 hw) ⟨(Nat.le_of_ble_eq_true rfl), (Nat.le_of_ble_eq_true rfl)⟩ h0 (T := TX12) (N := 23) rfl (by decide) rfl (Nat.le_of_ble_eq_true rfl) dX12_append_26 ⟨Nat.zero_le _, Nat.zero_le _⟩ rfl) (fun σ2 hw => ?_)
    refine z_aload_n hG dX12_append_29 rfl 0 rfl ?_
    refine z_iload_n hG dX12_append_30 rfl 2 rfl ?_
    refine z_callv hG (z_runV (As := [.int v2]) (st := []) hG k_X12_253 (MX12_adds l h0 hw) ⟨(Nat.le_of_ble_eq_true rfl), (Nat.le_of_ble_eq_true rfl)⟩ h0 (T := TX12) (N := 23) rfl (by decide) rfl (Nat.le_of_ble_eq_true rfl) dX12_append_31 ⟨Nat.zero_le _, Nat.zero_le _⟩ rfl) (fun σ3 hw => ?_)
    refine z_aload_n hG dX12_append_34 rfl 0 rfl ?_
    refine z_iload_n hG dX12_append_35 rfl 3 rfl ?_
    refine z_callv hG (z_runV (As := [.int v3]) (st := []) hG k_X12_253 (MX12_adds l h0 hw) ⟨(Nat.le_of_ble_eq_true rfl), (Nat.le_of_ble_eq_true rfl)⟩ h0 (T := TX12) (N := 23) rfl (by decide) rfl (Nat.le_of_ble_eq_true rfl) dX12_append_36 ⟨Nat.zero_le _, Nat.zero_le _⟩ rfl) (fun σ4 hw => ?_)
    refine z_aload_n hG dX12_append_39 rfl 0 rfl ?_
    refine z_iload hG dX12_append_40 4 rfl ?_
    refine z_callv hG (z_runV (As := [.int v4]) (st := []) hG k_X12_253 (MX12_adds l h0 hw) ⟨(Nat.le_of_ble_eq_true rfl), (Nat.le_of_ble_eq_true rfl)⟩ h0 (T := TX12) (N := 23) rfl (by decide) rfl (Nat.le_of_ble_eq_true rfl) dX12_append_42 ⟨Nat.zero_le _, Nat.zero_le _⟩ rfl) (fun σ5 hw => ?_)
    refine z_aload_n hG dX12_append_45 rfl 0 rfl ?_
    refine z_iload hG dX12_append_46 5 rfl ?_
    refine z_callv hG (z_runV (As := [.int v5]) (st := []) hG k_X12_253 (MX12_adds l h0 hw) ⟨(Nat.le_of_ble_eq_true rfl), (Nat.le_of_ble_eq_true rfl)⟩ h0 (T := TX12) (N := 23) rfl (by decide) rfl (Nat.le_of_ble_eq_true rfl) dX12_append_48 ⟨Nat.zero_le _, Nat.zero_le _⟩ rfl) (fun σ6 hw => ?_)
    refine z_aload_n hG dX12_append_51 rfl 0 rfl ?_
    refine z_geti hG f_X12_250 h0 rfl dX12_append_52 ?_
    exact z_iret hG rfl rfl dX12_append_55 hw
  · have hw := hw.2 c9
    refine z_aload_n hG dX12_append_18 rfl 0 rfl ?_
    refine z_iconst (v := 1) hG dX12_append_19 (by decide) ?_
    refine z_calli hG (z_runV (As := [.int 1]) (st := []) hG k_X12_174 (MX12_raise l h0 hw) ⟨(Nat.le_of_ble_eq_true rfl), (Nat.le_of_ble_eq_true rfl)⟩ h0 (T := TX12) (N := 23) rfl (by decide) rfl (Nat.le_of_ble_eq_true rfl) dX12_append_20 ⟨Nat.zero_le _, Nat.zero_le _⟩ rfl) (fun r8 σ7 hw => ?_)
    exact z_iret hG rfl rfl dX12_append_23 hw
-- TypeWheelTelegraphModel.truncate(I)V
def wX12_truncate (ln : Nat → Nat) (σ : zS) (t0 : Nat) (v1 : Int32) (Q : zS → Prop) : Prop := ∀ σ1 : zS, σ1 = si σ t0 0 0 → ∀ x2 : Int64, x2 = (gi σ1 t0 13).toInt64 → ∀ x3 : Int64, x3 = v1.toInt64 → wX12_isIn ln σ1 x3 0 x2 (fun r5 σ4 => ((r5 = 0 → ∀ σ7 : zS, σ7 = si σ4 t0 0 1 → Q σ7) ∧ (¬ r5 = 0 → ∀ σ6 : zS, σ6 = si σ4 t0 13 v1 → Q σ6)))
abbrev rX12_truncate : Room := { frames := 1, cells := 0, slots := 0, locals := 25 }
set_option maxRecDepth 100000 in
set_option maxHeartbeats 4000000 in
theorem MX12_truncate (l : Launch) {E : zE} {Y : zY} {σ : zS} {t0 : Nat} {v1 : Int32} (h0 : zT Y 12 t0) {Q : zS → Prop} (hw : wX12_truncate (zln Y) σ t0 v1 Q) : ∀ sz, Met l yX12_truncate (zw yX12_truncate cX12_truncate 2 none) rX12_truncate (zPc E Y σ sz [.ref (za Y t0), .int v1]) (va_Qv Q (zB E Y sz) (zA Y sz)) 0 0 (zA Y sz) := by
  refine z_met (own := RX12) (Qc := fun sz => va_Qv Q (zB E Y sz) (zA Y sz)) (by decide +kernel) rfl (Nat.le_of_ble_eq_true rfl) ?_
  intro p e s m args below meth c hG hinit
  unfold wX12_truncate at hw
  refine zlv (lv' := [(0, .ref (za Y t0)), (1, .int v1)]) rfl ?_
  refine z_aload_n hG dX12_truncate_0 rfl 0 rfl ?_
  refine z_iconst (v := 0) hG dX12_truncate_1 (by decide) ?_
  refine z_puti hG f_X12_47 h0 rfl rfl (zN_int _) dX12_truncate_2 ?_
  refine z_topσ (fun σ1 eσ1 => ?_)
  have hw := hw σ1 eσ1
  refine z_iload_n hG dX12_truncate_5 rfl 1 rfl ?_
  refine z_i2l hG dX12_truncate_6 ?_
  refine z_lconst (v := 0) hG dX12_truncate_7 (by decide) ?_
  refine z_aload_n hG dX12_truncate_8 rfl 0 rfl ?_
  refine z_geti hG f_X12_250 h0 rfl dX12_truncate_9 ?_
  refine z_i2l hG dX12_truncate_12 ?_
  refine z_topl (fun x2 ex2 => ?_)
  have hw := hw x2 ex2
  obtain ⟨x3, ex3⟩ : ∃ y : Int64, y = v1.toInt64 := ⟨_, rfl⟩
  refine zst (st' := [.long x2, .long 0, .long x3]) (by rw [ex3]) ?_
  have hw := hw x3 ex3
  refine z_calli hG (z_runS (As := [.long x3, .long 0, .long x2]) (st := []) hG k_X12_58 (MX12_isIn l hw) ⟨(Nat.le_of_ble_eq_true rfl), (Nat.le_of_ble_eq_true rfl)⟩ rfl (Nat.le_of_ble_eq_true rfl) dX12_truncate_13 ⟨Nat.zero_le _, Nat.zero_le _⟩ rfl) (fun r5 σ4 hw => ?_)
  refine z_if_ne (tgt := 25) hG dX12_truncate_16 (by decide) (fun c8 => ?_) (fun c8 => ?_)
  · have hw := hw.2 c8
    refine z_aload_n hG dX12_truncate_25 rfl 0 rfl ?_
    refine z_iload_n hG dX12_truncate_26 rfl 1 rfl ?_
    refine z_puti hG f_X12_250 h0 rfl rfl (zN_int _) dX12_truncate_27 ?_
    refine z_topσ (fun σ6 eσ6 => ?_)
    have hw := hw σ6 eσ6
    exact z_vret hG rfl dX12_truncate_30 hw
  · have hw := hw.1 c8
    refine z_aload_n hG dX12_truncate_19 rfl 0 rfl ?_
    refine z_iconst (v := 1) hG dX12_truncate_20 (by decide) ?_
    refine z_puti hG f_X12_47 h0 rfl rfl (zN_int _) dX12_truncate_21 ?_
    refine z_topσ (fun σ7 eσ7 => ?_)
    have hw := hw σ7 eσ7
    exact z_vret hG rfl dX12_truncate_24 hw
-- TypeWheelTelegraphModel.errorOffset()I
def wX12_errorOffset (ln : Nat → Nat) (σ : zS) (t0 : Nat) (Q : Int32 → zS → Prop) : Prop := ∀ σ1 : zS, σ1 = si σ t0 0 0 → Q (gi σ1 t0 14) σ1
abbrev rX12_errorOffset : Room := { frames := 0, cells := 0, slots := 0, locals := 0 }
set_option maxRecDepth 100000 in
set_option maxHeartbeats 4000000 in
theorem MX12_errorOffset (l : Launch) {E : zE} {Y : zY} {σ : zS} {t0 : Nat} (h0 : zT Y 12 t0) {Q : Int32 → zS → Prop} (hw : wX12_errorOffset (zln Y) σ t0 Q) : ∀ sz, Met l yX12_errorOffset (zw yX12_errorOffset cX12_errorOffset 1 (some .int)) rX12_errorOffset (zPc E Y σ sz [.ref (za Y t0)]) (va_Qi Q (zB E Y sz) (zA Y sz)) 0 0 (zA Y sz) := by
  refine z_met (own := RX12) (Qc := fun sz => va_Qi Q (zB E Y sz) (zA Y sz)) (by decide +kernel) rfl (Nat.le_of_ble_eq_true rfl) ?_
  intro p e s m args below meth c hG hinit
  unfold wX12_errorOffset at hw
  refine zlv (lv' := [(0, .ref (za Y t0))]) rfl ?_
  refine z_aload_n hG dX12_errorOffset_0 rfl 0 rfl ?_
  refine z_iconst (v := 0) hG dX12_errorOffset_1 (by decide) ?_
  refine z_puti hG f_X12_47 h0 rfl rfl (zN_int _) dX12_errorOffset_2 ?_
  refine z_topσ (fun σ1 eσ1 => ?_)
  have hw := hw σ1 eσ1
  refine z_aload_n hG dX12_errorOffset_5 rfl 0 rfl ?_
  refine z_geti hG f_X12_39 h0 rfl dX12_errorOffset_6 ?_
  exact z_iret hG rfl rfl dX12_errorOffset_9 hw
-- TypeWheelTelegraphModel.isOf(III)Z
def wX12_isOf (ln : Nat → Nat) (σ : zS) (t0 : Nat) (v1 : Int32) (v2 : Int32) (v3 : Int32) (Q : Int32 → zS → Prop) : Prop := (((gi σ t0 13) ≤ v1 → Q 0 σ) ∧ (¬ (gi σ t0 13) ≤ v1 → ∃ j1 : Nat, gr σ t0 12 = some j1 ∧ vp_in v1 (ln j1) ∧ ∀ x3 : Int64, x3 = v3.toInt64 → ∀ x4 : Int64, x4 = v2.toInt64 → ∀ x5 : Int64, x5 = (gi σ j1 v1.toNatClampNeg).toInt64 → wX12_isIn ln σ x5 x4 x3 (fun r7 σ6 => ((r7 = 0 → Q 0 σ6) ∧ (¬ r7 = 0 → Q 1 σ6)))))
abbrev rX12_isOf : Room := { frames := 1, cells := 0, slots := 0, locals := 25 }
set_option maxRecDepth 100000 in
set_option maxHeartbeats 4000000 in
theorem MX12_isOf (l : Launch) {E : zE} {Y : zY} {σ : zS} {t0 : Nat} {v1 : Int32} {v2 : Int32} {v3 : Int32} (h0 : zT Y 12 t0) {Q : Int32 → zS → Prop} (hw : wX12_isOf (zln Y) σ t0 v1 v2 v3 Q) : ∀ sz, Met l yX12_isOf (zw yX12_isOf cX12_isOf 4 (some .boolean)) rX12_isOf (zPc E Y σ sz [.ref (za Y t0), .int v1, .int v2, .int v3]) (va_Qi Q (zB E Y sz) (zA Y sz)) 0 0 (zA Y sz) := by
  refine z_met (own := RX12) (Qc := fun sz => va_Qi Q (zB E Y sz) (zA Y sz)) (by decide +kernel) rfl (Nat.le_of_ble_eq_true rfl) ?_
  intro p e s m args below meth c hG hinit
  unfold wX12_isOf at hw
  refine zlv (lv' := [(0, .ref (za Y t0)), (1, .int v1), (2, .int v2), (3, .int v3)]) rfl ?_
  refine z_iload_n hG dX12_isOf_0 rfl 1 rfl ?_
  refine z_aload_n hG dX12_isOf_1 rfl 0 rfl ?_
  refine z_geti hG f_X12_250 h0 rfl dX12_isOf_2 ?_
  refine z_icmp_ge (tgt := 29) hG dX12_isOf_5 (by decide) (fun c9 => ?_) (fun c9 => ?_)
  · have hw := hw.1 c9
    refine z_iconst (v := 0) hG dX12_isOf_29 (by decide) ?_
    exact z_iret hG rfl (by decide +kernel) dX12_isOf_30 hw
  · have hw := hw.2 c9
    refine z_aload_n hG dX12_isOf_8 rfl 0 rfl ?_
    obtain ⟨j1, ej1, hw⟩ := hw
    refine z_getr (kq := 21) hG f_X12_35 h0 rfl ej1 rfl (by decide) dX12_isOf_9 (fun hj1 => ?_)
    refine z_iload_n hG dX12_isOf_12 rfl 1 rfl ?_
    obtain ⟨q2, hw⟩ := hw
    refine z_bald hG hj1 q2 dX12_isOf_13 ?_
    refine z_i2l hG dX12_isOf_14 ?_
    refine z_iload_n hG dX12_isOf_15 rfl 2 rfl ?_
    refine z_i2l hG dX12_isOf_16 ?_
    refine z_iload_n hG dX12_isOf_17 rfl 3 rfl ?_
    refine z_i2l hG dX12_isOf_18 ?_
    refine z_topl (fun x3 ex3 => ?_)
    have hw := hw x3 ex3
    obtain ⟨x4, ex4⟩ : ∃ y : Int64, y = v2.toInt64 := ⟨_, rfl⟩
    refine zst (st' := [.long x3, .long x4, .long ((gi σ j1 v1.toNatClampNeg).toInt64)]) (by rw [ex4]) ?_
    have hw := hw x4 ex4
    obtain ⟨x5, ex5⟩ : ∃ y : Int64, y = (gi σ j1 v1.toNatClampNeg).toInt64 := ⟨_, rfl⟩
    refine zst (st' := [.long x3, .long x4, .long x5]) (by rw [ex5]) ?_
    have hw := hw x5 ex5
    refine z_calli hG (z_runS (As := [.long x5, .long x4, .long x3]) (st := []) hG k_X12_58 (MX12_isIn l hw) ⟨(Nat.le_of_ble_eq_true rfl), (Nat.le_of_ble_eq_true rfl)⟩ rfl (Nat.le_of_ble_eq_true rfl) dX12_isOf_19 ⟨Nat.zero_le _, Nat.zero_le _⟩ rfl) (fun r7 σ6 hw => ?_)
    refine z_if_eq (tgt := 29) hG dX12_isOf_22 (by decide) (fun c8 => ?_) (fun c8 => ?_)
    · have hw := hw.1 c8
      refine z_iconst (v := 0) hG dX12_isOf_29 (by decide) ?_
      exact z_iret hG rfl (by decide +kernel) dX12_isOf_30 hw
    · have hw := hw.2 c8
      refine z_iconst (v := 1) hG dX12_isOf_25 (by decide) ?_
      refine z_goto (tgt := 30) hG dX12_isOf_26 (by decide) ?_
      exact z_iret hG rfl (by decide +kernel) dX12_isOf_30 hw
-- TypeWheelTelegraphModel.next()V
def wX12_next_38 (ln : Nat → Nat) (Q : zS → Prop) (kb8 : Nat → zS → Prop) (t0 : Nat) (σ : zS) : Prop := ∀ x1 : Int32, x1 = (gi σ t0 15) + 1 → ∀ σ2 : zS, σ2 = si σ t0 15 x1 → kb8 t0 σ2
def wX12_next_202 (ln : Nat → Nat) (Q : zS → Prop) (kb145 : Nat → zS → Prop) (t0 : Nat) (tw0 : Nat) (vw1 : Int64) (σ : zS) : Prop := ∀ σ1 : zS, σ1 = sl σ tw0 22 vw1 → ∀ x2 : Int32, x2 = (gi σ1 t0 16) + 1 → ∀ σ3 : zS, σ3 = si σ1 t0 16 x2 → kb145 t0 σ3
def wX12_next_145 (ln : Nat → Nat) (Q : zS → Prop) : Nat → Nat → zS → Prop
  | 0, _, _ => False
  | n + 1, t0, σ => ∀ x1 : Int32, x1 = gi σ t0 16 → wX12_isOf ln σ t0 x1 97 122 (fun r3 σ2 => ((r3 = 0 → ((((gi σ2 t0 16) - (gi σ2 t0 15)) ≤ 12 → ∀ σ4 : zS, σ4 = si σ2 t0 17 1 → Q σ4) ∧ (¬ ((gi σ2 t0 16) - (gi σ2 t0 15)) ≤ 12 → ∀ σ5 : zS, σ5 = si σ2 t0 17 5 → Q σ5))) ∧ (¬ r3 = 0 → ((12 ≤ ((gi σ2 t0 16) - (gi σ2 t0 15)) → wX12_next_202 ln Q (wX12_next_145 ln Q n) t0 t0 0 σ2) ∧ (¬ 12 ≤ ((gi σ2 t0 16) - (gi σ2 t0 15)) → ∃ j7 : Nat, gr σ2 t0 12 = some j7 ∧ ∀ x8 : Int32, x8 = gi σ2 t0 16 → vp_in x8 (ln j7) ∧ wX12_next_202 ln Q (wX12_next_145 ln Q n) t0 t0 (((27 * (gl σ2 t0 22)) + ((gi σ2 j7 x8.toNatClampNeg).toInt64)) - 96) σ2)))))
def wX12_next_328 (ln : Nat → Nat) (Q : zS → Prop) (kb272 : Nat → zS → Prop) (t0 : Nat) (tw0 : Nat) (vw1 : Int32) (σ : zS) : Prop := ∀ σ1 : zS, σ1 = si σ tw0 18 vw1 → ∀ x2 : Int32, x2 = (gi σ1 t0 16) + 1 → ∀ σ3 : zS, σ3 = si σ1 t0 16 x2 → kb272 t0 σ3
def wX12_next_272 (ln : Nat → Nat) (Q : zS → Prop) : Nat → Nat → zS → Prop
  | 0, _, _ => False
  | n + 1, t0, σ => ∀ x1 : Int32, x1 = gi σ t0 16 → wX12_isOf ln σ t0 x1 48 57 (fun r3 σ2 => ((r3 = 0 → ((((gi σ2 t0 16) - (gi σ2 t0 15)) ≤ 5 → ∀ σ4 : zS, σ4 = si σ2 t0 17 2 → Q σ4) ∧ (¬ ((gi σ2 t0 16) - (gi σ2 t0 15)) ≤ 5 → ∀ σ5 : zS, σ5 = si σ2 t0 17 5 → Q σ5))) ∧ (¬ r3 = 0 → ((5 ≤ ((gi σ2 t0 16) - (gi σ2 t0 15)) → wX12_next_328 ln Q (wX12_next_272 ln Q n) t0 t0 (gi σ2 t0 18) σ2) ∧ (¬ 5 ≤ ((gi σ2 t0 16) - (gi σ2 t0 15)) → ∃ j7 : Nat, gr σ2 t0 12 = some j7 ∧ ∀ x8 : Int32, x8 = gi σ2 t0 16 → vp_in x8 (ln j7) ∧ wX12_next_328 ln Q (wX12_next_272 ln Q n) t0 t0 (((10 * (gi σ2 t0 18)) + (gi σ2 j7 x8.toNatClampNeg)) - 48) σ2)))))
def wX12_next_114 (ln : Nat → Nat) (Q : zS → Prop) (t0 : Nat) (tw0 : Nat) (vw1 : Int32) (σ : zS) : Prop := ∀ σ1 : zS, σ1 = si σ tw0 17 vw1 → ∀ x2 : Int32, x2 = gi σ1 t0 15 → wX12_isOf ln σ1 t0 x2 97 122 (fun r4 σ3 => ((r4 = 0 → ∀ x5 : Int32, x5 = gi σ3 t0 15 → wX12_isOf ln σ3 t0 x5 48 57 (fun r7 σ6 => ((r7 = 0 → Q σ6) ∧ (¬ r7 = 0 → ∀ σ8 : zS, σ8 = si σ6 t0 18 0 → ∀ x9 : Int32, x9 = gi σ8 t0 15 → ∀ σ10 : zS, σ10 = si σ8 t0 16 x9 → ∃ n11 : Nat, wX12_next_272 ln Q n11 t0 σ10)))) ∧ (¬ r4 = 0 → ∀ σ13 : zS, σ13 = sl σ3 t0 22 0 → ∀ x14 : Int32, x14 = gi σ13 t0 15 → ∀ σ15 : zS, σ15 = si σ13 t0 16 x14 → ∃ n16 : Nat, wX12_next_145 ln Q n16 t0 σ15)))
def wX12_next_8 (ln : Nat → Nat) (Q : zS → Prop) : Nat → Nat → zS → Prop
  | 0, _, _ => False
  | n + 1, t0, σ => ∀ x1 : Int32, x1 = gi σ t0 15 → wX12_isOf ln σ t0 x1 32 32 (fun r3 σ2 => ((r3 = 0 → ∀ x4 : Int32, x4 = gi σ2 t0 15 → wX12_isOf ln σ2 t0 x4 10 10 (fun r6 σ5 => ((r6 = 0 → ∀ x7 : Int32, x7 = (gi σ5 t0 15) + 1 → ∀ σ8 : zS, σ8 = si σ5 t0 16 x7 → (((gi σ8 t0 15) < (gi σ8 t0 13) → ∃ j9 : Nat, gr σ8 t0 12 = some j9 ∧ ∀ x10 : Int32, x10 = gi σ8 t0 15 → vp_in x10 (ln j9) ∧ (((gi σ8 j9 x10.toNatClampNeg) = 59 → wX12_next_114 ln Q t0 t0 3 σ8) ∧ (¬ (gi σ8 j9 x10.toNatClampNeg) = 59 → ∃ j12 : Nat, gr σ8 t0 12 = some j12 ∧ ∀ x13 : Int32, x13 = gi σ8 t0 15 → vp_in x13 (ln j12) ∧ (((gi σ8 j12 x13.toNatClampNeg) = 47 → wX12_next_114 ln Q t0 t0 4 σ8) ∧ (¬ (gi σ8 j12 x13.toNatClampNeg) = 47 → wX12_next_114 ln Q t0 t0 5 σ8))))) ∧ (¬ (gi σ8 t0 15) < (gi σ8 t0 13) → wX12_next_114 ln Q t0 t0 0 σ8))) ∧ (¬ r6 = 0 → wX12_next_38 ln Q (wX12_next_8 ln Q n) t0 σ5)))) ∧ (¬ r3 = 0 → wX12_next_38 ln Q (wX12_next_8 ln Q n) t0 σ2)))
def wX12_next (ln : Nat → Nat) (σ : zS) (t0 : Nat) (Q : zS → Prop) : Prop := ∀ x1 : Int32, x1 = gi σ t0 16 → ∀ σ2 : zS, σ2 = si σ t0 15 x1 → ∃ n3 : Nat, wX12_next_8 ln Q n3 t0 σ2
abbrev rX12_next : Room := { frames := 2, cells := 0, slots := 0, locals := 48 }
set_option maxRecDepth 100000 in
set_option maxHeartbeats 4000000 in
theorem BX12_next_38 {l : Launch} {E : zE} {Y : zY} {p : Program} {e : Env} {s : State} {m : MethodId} {args : Array Value} {below : List Frame} {meth : Method} {c : Code} (hG : zG E p l s m args meth c cX12_next 1 RX12 none (zA Y s.heap.size)) {Q : zS → Prop} {kb8 : Nat → zS → Prop} (hkb8 : ∀ (t0 : Nat) (σ : zS), kb8 t0 σ → zT Y 12 t0 → WW E Y σ p l e rX12_next s m args below meth c (zA Y s.heap.size) 1 0 0 (MQ below (va_Qv Q (zB E Y s.heap.size) (zA Y s.heap.size)) args s 0 0 (zA Y s.heap.size)) [(0, .ref (za Y t0))] 8 []) : ∀ (t0 : Nat) (σ : zS), wX12_next_38 (zln Y) Q kb8 t0 σ → zT Y 12 t0 → WW E Y σ p l e rX12_next s m args below meth c (zA Y s.heap.size) 1 0 0 (MQ below (va_Qv Q (zB E Y s.heap.size) (zA Y s.heap.size)) args s 0 0 (zA Y s.heap.size)) [(0, .ref (za Y t0))] 38 [] := by
  intro t0 σ hw h0
  unfold wX12_next_38 at hw
  refine z_aload_n hG dX12_next_38 rfl 0 rfl ?_
  refine z_dup hG dX12_next_39 rfl ?_
  refine z_geti hG f_X12_259 h0 rfl dX12_next_40 ?_
  refine z_iconst (v := 1) hG dX12_next_43 (by decide) ?_
  refine z_iadd hG dX12_next_44 ?_
  refine z_topi (fun x1 ex1 => ?_)
  have hw := hw x1 ex1
  refine z_puti hG f_X12_259 h0 rfl rfl (zN_int _) dX12_next_45 ?_
  refine z_topσ (fun σ2 eσ2 => ?_)
  have hw := hw σ2 eσ2
  refine z_goto (tgt := 8) hG dX12_next_48 (by decide) ?_
  refine zpick [0] (lv' := [(0, .ref (za Y t0))]) rfl ?_
  exact hkb8 t0 σ2 hw h0
set_option maxRecDepth 100000 in
set_option maxHeartbeats 4000000 in
theorem BX12_next_202 {l : Launch} {E : zE} {Y : zY} {p : Program} {e : Env} {s : State} {m : MethodId} {args : Array Value} {below : List Frame} {meth : Method} {c : Code} (hG : zG E p l s m args meth c cX12_next 1 RX12 none (zA Y s.heap.size)) {Q : zS → Prop} {kb145 : Nat → zS → Prop} (hkb145 : ∀ (t0 : Nat) (σ : zS), kb145 t0 σ → zT Y 12 t0 → WW E Y σ p l e rX12_next s m args below meth c (zA Y s.heap.size) 1 0 0 (MQ below (va_Qv Q (zB E Y s.heap.size) (zA Y s.heap.size)) args s 0 0 (zA Y s.heap.size)) [(0, .ref (za Y t0))] 145 []) : ∀ (t0 : Nat) (tw0 : Nat) (vw1 : Int64) (σ : zS), wX12_next_202 (zln Y) Q kb145 t0 tw0 vw1 σ → zT Y 12 t0 → zT Y 12 tw0 → WW E Y σ p l e rX12_next s m args below meth c (zA Y s.heap.size) 1 0 0 (MQ below (va_Qv Q (zB E Y s.heap.size) (zA Y s.heap.size)) args s 0 0 (zA Y s.heap.size)) [(0, .ref (za Y t0))] 202 [.long vw1, .ref (za Y tw0)] := by
  intro t0 tw0 vw1 σ hw h0 hw0
  unfold wX12_next_202 at hw
  refine z_putl hG f_X12_269 hw0 rfl rfl rfl dX12_next_202 ?_
  refine z_topσ (fun σ1 eσ1 => ?_)
  have hw := hw σ1 eσ1
  refine z_aload_n hG dX12_next_205 rfl 0 rfl ?_
  refine z_dup hG dX12_next_206 rfl ?_
  refine z_geti hG f_X12_256 h0 rfl dX12_next_207 ?_
  refine z_iconst (v := 1) hG dX12_next_210 (by decide) ?_
  refine z_iadd hG dX12_next_211 ?_
  refine z_topi (fun x2 ex2 => ?_)
  have hw := hw x2 ex2
  refine z_puti hG f_X12_256 h0 rfl rfl (zN_int _) dX12_next_212 ?_
  refine z_topσ (fun σ3 eσ3 => ?_)
  have hw := hw σ3 eσ3
  refine z_goto (tgt := 145) hG dX12_next_215 (by decide) ?_
  refine zpick [0] (lv' := [(0, .ref (za Y t0))]) rfl ?_
  exact hkb145 t0 σ3 hw h0
set_option maxRecDepth 100000 in
set_option maxHeartbeats 4000000 in
theorem BX12_next_145 {l : Launch} {E : zE} {Y : zY} {p : Program} {e : Env} {s : State} {m : MethodId} {args : Array Value} {below : List Frame} {meth : Method} {c : Code} (hG : zG E p l s m args meth c cX12_next 1 RX12 none (zA Y s.heap.size)) {Q : zS → Prop} : ∀ (n : Nat) (t0 : Nat) (σ : zS), wX12_next_145 (zln Y) Q n t0 σ → zT Y 12 t0 → WW E Y σ p l e rX12_next s m args below meth c (zA Y s.heap.size) 1 0 0 (MQ below (va_Qv Q (zB E Y s.heap.size) (zA Y s.heap.size)) args s 0 0 (zA Y s.heap.size)) [(0, .ref (za Y t0))] 145 [] := by
  intro n
  induction n with
  | zero => intro t0 σ hw
            exact hw.elim
  | succ n ih =>
    intro t0 σ hw h0
    rw [wX12_next_145] at hw
    refine z_aload_n hG dX12_next_145 rfl 0 rfl ?_
    refine z_aload_n hG dX12_next_146 rfl 0 rfl ?_
    refine z_geti hG f_X12_256 h0 rfl dX12_next_147 ?_
    refine z_bipush (v := 97) hG dX12_next_150 (by decide) ?_
    refine z_bipush (v := 122) hG dX12_next_152 (by decide) ?_
    obtain ⟨x1, ex1⟩ : ∃ y : Int32, y = gi σ t0 16 := ⟨_, rfl⟩
    refine zst (st' := [.int 122, .int 97, .int x1, .ref (za Y t0)]) (by rw [ex1]) ?_
    have hw := hw x1 ex1
    refine z_calli hG (z_runV (As := [.int x1, .int 97, .int 122]) (st := []) hG k_X12_262 (MX12_isOf l h0 hw) ⟨(Nat.le_of_ble_eq_true rfl), (Nat.le_of_ble_eq_true rfl)⟩ h0 (T := TX12) (N := 23) rfl (by decide) rfl (Nat.le_of_ble_eq_true rfl) dX12_next_154 ⟨Nat.zero_le _, Nat.zero_le _⟩ rfl) (fun r3 σ2 hw => ?_)
    refine z_if_eq (tgt := 218) hG dX12_next_157 (by decide) (fun c11 => ?_) (fun c11 => ?_)
    · have hw := hw.1 c11
      refine z_aload_n hG dX12_next_218 rfl 0 rfl ?_
      refine z_aload_n hG dX12_next_219 rfl 0 rfl ?_
      refine z_geti hG f_X12_256 h0 rfl dX12_next_220 ?_
      refine z_aload_n hG dX12_next_223 rfl 0 rfl ?_
      refine z_geti hG f_X12_259 h0 rfl dX12_next_224 ?_
      refine z_isub hG dX12_next_227 ?_
      refine z_bipush (v := 12) hG dX12_next_228 (by decide) ?_
      refine z_icmp_le (tgt := 237) hG dX12_next_230 (by decide) (fun c6 => ?_) (fun c6 => ?_)
      · have hw := hw.1 c6
        refine z_iconst (v := 1) hG dX12_next_237 (by decide) ?_
        refine z_puti hG f_X12_266 h0 rfl rfl (zN_int _) dX12_next_238 ?_
        refine z_topσ (fun σ4 eσ4 => ?_)
        have hw := hw σ4 eσ4
        refine z_goto (tgt := 366) hG dX12_next_241 (by decide) ?_
        exact z_vret hG rfl dX12_next_366 hw
      · have hw := hw.2 c6
        refine z_iconst (v := 5) hG dX12_next_233 (by decide) ?_
        refine z_goto (tgt := 238) hG dX12_next_234 (by decide) ?_
        refine z_puti hG f_X12_266 h0 rfl rfl (zN_int _) dX12_next_238 ?_
        refine z_topσ (fun σ5 eσ5 => ?_)
        have hw := hw σ5 eσ5
        refine z_goto (tgt := 366) hG dX12_next_241 (by decide) ?_
        exact z_vret hG rfl dX12_next_366 hw
    · have hw := hw.2 c11
      refine z_aload_n hG dX12_next_160 rfl 0 rfl ?_
      refine z_aload_n hG dX12_next_161 rfl 0 rfl ?_
      refine z_geti hG f_X12_256 h0 rfl dX12_next_162 ?_
      refine z_aload_n hG dX12_next_165 rfl 0 rfl ?_
      refine z_geti hG f_X12_259 h0 rfl dX12_next_166 ?_
      refine z_isub hG dX12_next_169 ?_
      refine z_bipush (v := 12) hG dX12_next_170 (by decide) ?_
      refine z_icmp_ge (tgt := 201) hG dX12_next_172 (by decide) (fun c10 => ?_) (fun c10 => ?_)
      · have hw := hw.1 c10
        refine z_lconst (v := 0) hG dX12_next_201 (by decide) ?_
        refine zpick [0] (lv' := [(0, .ref (za Y t0))]) rfl ?_
        exact BX12_next_202 hG ih t0 t0 0 σ2 hw h0 h0
      · have hw := hw.2 c10
        refine z_ldc2 (hc := c_X12_273) hG (hd := dX12_next_175) ?_
        refine z_aload_n hG dX12_next_178 rfl 0 rfl ?_
        refine z_getl hG f_X12_269 h0 rfl dX12_next_179 ?_
        refine z_lmul hG dX12_next_182 ?_
        refine z_aload_n hG dX12_next_183 rfl 0 rfl ?_
        obtain ⟨j7, ej7, hw⟩ := hw
        refine z_getr (kq := 21) hG f_X12_35 h0 rfl ej7 rfl (by decide) dX12_next_184 (fun hj7 => ?_)
        refine z_aload_n hG dX12_next_187 rfl 0 rfl ?_
        refine z_geti hG f_X12_256 h0 rfl dX12_next_188 ?_
        refine z_topi (fun x8 ex8 => ?_)
        have hw := hw x8 ex8
        obtain ⟨q9, hw⟩ := hw
        refine z_bald hG hj7 q9 dX12_next_191 ?_
        refine z_i2l hG dX12_next_192 ?_
        refine z_ladd hG dX12_next_193 ?_
        refine z_ldc2 (hc := c_X12_275) hG (hd := dX12_next_194) ?_
        refine z_lsub hG dX12_next_197 ?_
        refine z_goto (tgt := 202) hG dX12_next_198 (by decide) ?_
        refine zpick [0] (lv' := [(0, .ref (za Y t0))]) rfl ?_
        exact BX12_next_202 hG ih t0 t0 (((27 * (gl σ2 t0 22)) + ((gi σ2 j7 x8.toNatClampNeg).toInt64)) - 96) σ2 hw h0 h0
set_option maxRecDepth 100000 in
set_option maxHeartbeats 4000000 in
theorem BX12_next_328 {l : Launch} {E : zE} {Y : zY} {p : Program} {e : Env} {s : State} {m : MethodId} {args : Array Value} {below : List Frame} {meth : Method} {c : Code} (hG : zG E p l s m args meth c cX12_next 1 RX12 none (zA Y s.heap.size)) {Q : zS → Prop} {kb272 : Nat → zS → Prop} (hkb272 : ∀ (t0 : Nat) (σ : zS), kb272 t0 σ → zT Y 12 t0 → WW E Y σ p l e rX12_next s m args below meth c (zA Y s.heap.size) 1 0 0 (MQ below (va_Qv Q (zB E Y s.heap.size) (zA Y s.heap.size)) args s 0 0 (zA Y s.heap.size)) [(0, .ref (za Y t0))] 272 []) : ∀ (t0 : Nat) (tw0 : Nat) (vw1 : Int32) (σ : zS), wX12_next_328 (zln Y) Q kb272 t0 tw0 vw1 σ → zT Y 12 t0 → zT Y 12 tw0 → WW E Y σ p l e rX12_next s m args below meth c (zA Y s.heap.size) 1 0 0 (MQ below (va_Qv Q (zB E Y s.heap.size) (zA Y s.heap.size)) args s 0 0 (zA Y s.heap.size)) [(0, .ref (za Y t0))] 328 [.int vw1, .ref (za Y tw0)] := by
  intro t0 tw0 vw1 σ hw h0 hw0
  unfold wX12_next_328 at hw
  refine z_puti hG f_X12_277 hw0 rfl rfl (zN_int _) dX12_next_328 ?_
  refine z_topσ (fun σ1 eσ1 => ?_)
  have hw := hw σ1 eσ1
  refine z_aload_n hG dX12_next_331 rfl 0 rfl ?_
  refine z_dup hG dX12_next_332 rfl ?_
  refine z_geti hG f_X12_256 h0 rfl dX12_next_333 ?_
  refine z_iconst (v := 1) hG dX12_next_336 (by decide) ?_
  refine z_iadd hG dX12_next_337 ?_
  refine z_topi (fun x2 ex2 => ?_)
  have hw := hw x2 ex2
  refine z_puti hG f_X12_256 h0 rfl rfl (zN_int _) dX12_next_338 ?_
  refine z_topσ (fun σ3 eσ3 => ?_)
  have hw := hw σ3 eσ3
  refine z_goto (tgt := 272) hG dX12_next_341 (by decide) ?_
  refine zpick [0] (lv' := [(0, .ref (za Y t0))]) rfl ?_
  exact hkb272 t0 σ3 hw h0
set_option maxRecDepth 100000 in
set_option maxHeartbeats 4000000 in
theorem BX12_next_272 {l : Launch} {E : zE} {Y : zY} {p : Program} {e : Env} {s : State} {m : MethodId} {args : Array Value} {below : List Frame} {meth : Method} {c : Code} (hG : zG E p l s m args meth c cX12_next 1 RX12 none (zA Y s.heap.size)) {Q : zS → Prop} : ∀ (n : Nat) (t0 : Nat) (σ : zS), wX12_next_272 (zln Y) Q n t0 σ → zT Y 12 t0 → WW E Y σ p l e rX12_next s m args below meth c (zA Y s.heap.size) 1 0 0 (MQ below (va_Qv Q (zB E Y s.heap.size) (zA Y s.heap.size)) args s 0 0 (zA Y s.heap.size)) [(0, .ref (za Y t0))] 272 [] := by
  intro n
  induction n with
  | zero => intro t0 σ hw
            exact hw.elim
  | succ n ih =>
    intro t0 σ hw h0
    rw [wX12_next_272] at hw
    refine z_aload_n hG dX12_next_272 rfl 0 rfl ?_
    refine z_aload_n hG dX12_next_273 rfl 0 rfl ?_
    refine z_geti hG f_X12_256 h0 rfl dX12_next_274 ?_
    refine z_bipush (v := 48) hG dX12_next_277 (by decide) ?_
    refine z_bipush (v := 57) hG dX12_next_279 (by decide) ?_
    obtain ⟨x1, ex1⟩ : ∃ y : Int32, y = gi σ t0 16 := ⟨_, rfl⟩
    refine zst (st' := [.int 57, .int 48, .int x1, .ref (za Y t0)]) (by rw [ex1]) ?_
    have hw := hw x1 ex1
    refine z_calli hG (z_runV (As := [.int x1, .int 48, .int 57]) (st := []) hG k_X12_262 (MX12_isOf l h0 hw) ⟨(Nat.le_of_ble_eq_true rfl), (Nat.le_of_ble_eq_true rfl)⟩ h0 (T := TX12) (N := 23) rfl (by decide) rfl (Nat.le_of_ble_eq_true rfl) dX12_next_281 ⟨Nat.zero_le _, Nat.zero_le _⟩ rfl) (fun r3 σ2 hw => ?_)
    refine z_if_eq (tgt := 344) hG dX12_next_284 (by decide) (fun c11 => ?_) (fun c11 => ?_)
    · have hw := hw.1 c11
      refine z_aload_n hG dX12_next_344 rfl 0 rfl ?_
      refine z_aload_n hG dX12_next_345 rfl 0 rfl ?_
      refine z_geti hG f_X12_256 h0 rfl dX12_next_346 ?_
      refine z_aload_n hG dX12_next_349 rfl 0 rfl ?_
      refine z_geti hG f_X12_259 h0 rfl dX12_next_350 ?_
      refine z_isub hG dX12_next_353 ?_
      refine z_iconst (v := 5) hG dX12_next_354 (by decide) ?_
      refine z_icmp_le (tgt := 362) hG dX12_next_355 (by decide) (fun c6 => ?_) (fun c6 => ?_)
      · have hw := hw.1 c6
        refine z_iconst (v := 2) hG dX12_next_362 (by decide) ?_
        refine z_puti hG f_X12_266 h0 rfl rfl (zN_int _) dX12_next_363 ?_
        refine z_topσ (fun σ4 eσ4 => ?_)
        have hw := hw σ4 eσ4
        exact z_vret hG rfl dX12_next_366 hw
      · have hw := hw.2 c6
        refine z_iconst (v := 5) hG dX12_next_358 (by decide) ?_
        refine z_goto (tgt := 363) hG dX12_next_359 (by decide) ?_
        refine z_puti hG f_X12_266 h0 rfl rfl (zN_int _) dX12_next_363 ?_
        refine z_topσ (fun σ5 eσ5 => ?_)
        have hw := hw σ5 eσ5
        exact z_vret hG rfl dX12_next_366 hw
    · have hw := hw.2 c11
      refine z_aload_n hG dX12_next_287 rfl 0 rfl ?_
      refine z_aload_n hG dX12_next_288 rfl 0 rfl ?_
      refine z_geti hG f_X12_256 h0 rfl dX12_next_289 ?_
      refine z_aload_n hG dX12_next_292 rfl 0 rfl ?_
      refine z_geti hG f_X12_259 h0 rfl dX12_next_293 ?_
      refine z_isub hG dX12_next_296 ?_
      refine z_iconst (v := 5) hG dX12_next_297 (by decide) ?_
      refine z_icmp_ge (tgt := 324) hG dX12_next_298 (by decide) (fun c10 => ?_) (fun c10 => ?_)
      · have hw := hw.1 c10
        refine z_aload_n hG dX12_next_324 rfl 0 rfl ?_
        refine z_geti hG f_X12_277 h0 rfl dX12_next_325 ?_
        refine zpick [0] (lv' := [(0, .ref (za Y t0))]) rfl ?_
        exact BX12_next_328 hG ih t0 t0 (gi σ2 t0 18) σ2 hw h0 h0
      · have hw := hw.2 c10
        refine z_bipush (v := 10) hG dX12_next_301 (by decide) ?_
        refine z_aload_n hG dX12_next_303 rfl 0 rfl ?_
        refine z_geti hG f_X12_277 h0 rfl dX12_next_304 ?_
        refine z_imul hG dX12_next_307 ?_
        refine z_aload_n hG dX12_next_308 rfl 0 rfl ?_
        obtain ⟨j7, ej7, hw⟩ := hw
        refine z_getr (kq := 21) hG f_X12_35 h0 rfl ej7 rfl (by decide) dX12_next_309 (fun hj7 => ?_)
        refine z_aload_n hG dX12_next_312 rfl 0 rfl ?_
        refine z_geti hG f_X12_256 h0 rfl dX12_next_313 ?_
        refine z_topi (fun x8 ex8 => ?_)
        have hw := hw x8 ex8
        obtain ⟨q9, hw⟩ := hw
        refine z_bald hG hj7 q9 dX12_next_316 ?_
        refine z_iadd hG dX12_next_317 ?_
        refine z_bipush (v := 48) hG dX12_next_318 (by decide) ?_
        refine z_isub hG dX12_next_320 ?_
        refine z_goto (tgt := 328) hG dX12_next_321 (by decide) ?_
        refine zpick [0] (lv' := [(0, .ref (za Y t0))]) rfl ?_
        exact BX12_next_328 hG ih t0 t0 (((10 * (gi σ2 t0 18)) + (gi σ2 j7 x8.toNatClampNeg)) - 48) σ2 hw h0 h0
set_option maxRecDepth 100000 in
set_option maxHeartbeats 4000000 in
theorem BX12_next_114 {l : Launch} {E : zE} {Y : zY} {p : Program} {e : Env} {s : State} {m : MethodId} {args : Array Value} {below : List Frame} {meth : Method} {c : Code} (hG : zG E p l s m args meth c cX12_next 1 RX12 none (zA Y s.heap.size)) {Q : zS → Prop} : ∀ (t0 : Nat) (tw0 : Nat) (vw1 : Int32) (σ : zS), wX12_next_114 (zln Y) Q t0 tw0 vw1 σ → zT Y 12 t0 → zT Y 12 tw0 → WW E Y σ p l e rX12_next s m args below meth c (zA Y s.heap.size) 1 0 0 (MQ below (va_Qv Q (zB E Y s.heap.size) (zA Y s.heap.size)) args s 0 0 (zA Y s.heap.size)) [(0, .ref (za Y t0))] 114 [.int vw1, .ref (za Y tw0)] := by
  intro t0 tw0 vw1 σ hw h0 hw0
  unfold wX12_next_114 at hw
  refine z_puti hG f_X12_266 hw0 rfl rfl (zN_int _) dX12_next_114 ?_
  refine z_topσ (fun σ1 eσ1 => ?_)
  have hw := hw σ1 eσ1
  refine z_aload_n hG dX12_next_117 rfl 0 rfl ?_
  refine z_aload_n hG dX12_next_118 rfl 0 rfl ?_
  refine z_geti hG f_X12_259 h0 rfl dX12_next_119 ?_
  refine z_bipush (v := 97) hG dX12_next_122 (by decide) ?_
  refine z_bipush (v := 122) hG dX12_next_124 (by decide) ?_
  obtain ⟨x2, ex2⟩ : ∃ y : Int32, y = gi σ1 t0 15 := ⟨_, rfl⟩
  refine zst (st' := [.int 122, .int 97, .int x2, .ref (za Y t0)]) (by rw [ex2]) ?_
  have hw := hw x2 ex2
  refine z_calli hG (z_runV (As := [.int x2, .int 97, .int 122]) (st := []) hG k_X12_262 (MX12_isOf l h0 hw) ⟨(Nat.le_of_ble_eq_true rfl), (Nat.le_of_ble_eq_true rfl)⟩ h0 (T := TX12) (N := 23) rfl (by decide) rfl (Nat.le_of_ble_eq_true rfl) dX12_next_126 ⟨Nat.zero_le _, Nat.zero_le _⟩ rfl) (fun r4 σ3 hw => ?_)
  refine z_if_eq (tgt := 244) hG dX12_next_129 (by decide) (fun c17 => ?_) (fun c17 => ?_)
  · have hw := hw.1 c17
    refine z_aload_n hG dX12_next_244 rfl 0 rfl ?_
    refine z_aload_n hG dX12_next_245 rfl 0 rfl ?_
    refine z_geti hG f_X12_259 h0 rfl dX12_next_246 ?_
    refine z_bipush (v := 48) hG dX12_next_249 (by decide) ?_
    refine z_bipush (v := 57) hG dX12_next_251 (by decide) ?_
    obtain ⟨x5, ex5⟩ : ∃ y : Int32, y = gi σ3 t0 15 := ⟨_, rfl⟩
    refine zst (st' := [.int 57, .int 48, .int x5, .ref (za Y t0)]) (by rw [ex5]) ?_
    have hw := hw x5 ex5
    refine z_calli hG (z_runV (As := [.int x5, .int 48, .int 57]) (st := []) hG k_X12_262 (MX12_isOf l h0 hw) ⟨(Nat.le_of_ble_eq_true rfl), (Nat.le_of_ble_eq_true rfl)⟩ h0 (T := TX12) (N := 23) rfl (by decide) rfl (Nat.le_of_ble_eq_true rfl) dX12_next_253 ⟨Nat.zero_le _, Nat.zero_le _⟩ rfl) (fun r7 σ6 hw => ?_)
    refine z_if_eq (tgt := 366) hG dX12_next_256 (by decide) (fun c12 => ?_) (fun c12 => ?_)
    · have hw := hw.1 c12
      exact z_vret hG rfl dX12_next_366 hw
    · have hw := hw.2 c12
      refine z_aload_n hG dX12_next_259 rfl 0 rfl ?_
      refine z_iconst (v := 0) hG dX12_next_260 (by decide) ?_
      refine z_puti hG f_X12_277 h0 rfl rfl (zN_int _) dX12_next_261 ?_
      refine z_topσ (fun σ8 eσ8 => ?_)
      have hw := hw σ8 eσ8
      refine z_aload_n hG dX12_next_264 rfl 0 rfl ?_
      refine z_aload_n hG dX12_next_265 rfl 0 rfl ?_
      refine z_geti hG f_X12_259 h0 rfl dX12_next_266 ?_
      refine z_topi (fun x9 ex9 => ?_)
      have hw := hw x9 ex9
      refine z_puti hG f_X12_256 h0 rfl rfl (zN_int _) dX12_next_269 ?_
      refine z_topσ (fun σ10 eσ10 => ?_)
      have hw := hw σ10 eσ10
      obtain ⟨n11, hw⟩ := hw
      refine zpick [0] (lv' := [(0, .ref (za Y t0))]) rfl ?_
      exact BX12_next_272 hG n11 t0 σ10 hw h0
  · have hw := hw.2 c17
    refine z_aload_n hG dX12_next_132 rfl 0 rfl ?_
    refine z_lconst (v := 0) hG dX12_next_133 (by decide) ?_
    refine z_putl hG f_X12_269 h0 rfl rfl rfl dX12_next_134 ?_
    refine z_topσ (fun σ13 eσ13 => ?_)
    have hw := hw σ13 eσ13
    refine z_aload_n hG dX12_next_137 rfl 0 rfl ?_
    refine z_aload_n hG dX12_next_138 rfl 0 rfl ?_
    refine z_geti hG f_X12_259 h0 rfl dX12_next_139 ?_
    refine z_topi (fun x14 ex14 => ?_)
    have hw := hw x14 ex14
    refine z_puti hG f_X12_256 h0 rfl rfl (zN_int _) dX12_next_142 ?_
    refine z_topσ (fun σ15 eσ15 => ?_)
    have hw := hw σ15 eσ15
    obtain ⟨n16, hw⟩ := hw
    refine zpick [0] (lv' := [(0, .ref (za Y t0))]) rfl ?_
    exact BX12_next_145 hG n16 t0 σ15 hw h0
set_option maxRecDepth 100000 in
set_option maxHeartbeats 4000000 in
theorem BX12_next_8 {l : Launch} {E : zE} {Y : zY} {p : Program} {e : Env} {s : State} {m : MethodId} {args : Array Value} {below : List Frame} {meth : Method} {c : Code} (hG : zG E p l s m args meth c cX12_next 1 RX12 none (zA Y s.heap.size)) {Q : zS → Prop} : ∀ (n : Nat) (t0 : Nat) (σ : zS), wX12_next_8 (zln Y) Q n t0 σ → zT Y 12 t0 → WW E Y σ p l e rX12_next s m args below meth c (zA Y s.heap.size) 1 0 0 (MQ below (va_Qv Q (zB E Y s.heap.size) (zA Y s.heap.size)) args s 0 0 (zA Y s.heap.size)) [(0, .ref (za Y t0))] 8 [] := by
  intro n
  induction n with
  | zero => intro t0 σ hw
            exact hw.elim
  | succ n ih =>
    intro t0 σ hw h0
    rw [wX12_next_8] at hw
    refine z_aload_n hG dX12_next_8 rfl 0 rfl ?_
    refine z_aload_n hG dX12_next_9 rfl 0 rfl ?_
    refine z_geti hG f_X12_259 h0 rfl dX12_next_10 ?_
    refine z_bipush (v := 32) hG dX12_next_13 (by decide) ?_
    refine z_bipush (v := 32) hG dX12_next_15 (by decide) ?_
    obtain ⟨x1, ex1⟩ : ∃ y : Int32, y = gi σ t0 15 := ⟨_, rfl⟩
    refine zst (st' := [.int 32, .int 32, .int x1, .ref (za Y t0)]) (by rw [ex1]) ?_
    have hw := hw x1 ex1
    refine z_calli hG (z_runV (As := [.int x1, .int 32, .int 32]) (st := []) hG k_X12_262 (MX12_isOf l h0 hw) ⟨(Nat.le_of_ble_eq_true rfl), (Nat.le_of_ble_eq_true rfl)⟩ h0 (T := TX12) (N := 23) rfl (by decide) rfl (Nat.le_of_ble_eq_true rfl) dX12_next_17 ⟨Nat.zero_le _, Nat.zero_le _⟩ rfl) (fun r3 σ2 hw => ?_)
    refine z_if_ne (tgt := 38) hG dX12_next_20 (by decide) (fun c19 => ?_) (fun c19 => ?_)
    · have hw := hw.2 c19
      refine zpick [0] (lv' := [(0, .ref (za Y t0))]) rfl ?_
      exact BX12_next_38 hG ih t0 σ2 hw h0
    · have hw := hw.1 c19
      refine z_aload_n hG dX12_next_23 rfl 0 rfl ?_
      refine z_aload_n hG dX12_next_24 rfl 0 rfl ?_
      refine z_geti hG f_X12_259 h0 rfl dX12_next_25 ?_
      refine z_bipush (v := 10) hG dX12_next_28 (by decide) ?_
      refine z_bipush (v := 10) hG dX12_next_30 (by decide) ?_
      obtain ⟨x4, ex4⟩ : ∃ y : Int32, y = gi σ2 t0 15 := ⟨_, rfl⟩
      refine zst (st' := [.int 10, .int 10, .int x4, .ref (za Y t0)]) (by rw [ex4]) ?_
      have hw := hw x4 ex4
      refine z_calli hG (z_runV (As := [.int x4, .int 10, .int 10]) (st := []) hG k_X12_262 (MX12_isOf l h0 hw) ⟨(Nat.le_of_ble_eq_true rfl), (Nat.le_of_ble_eq_true rfl)⟩ h0 (T := TX12) (N := 23) rfl (by decide) rfl (Nat.le_of_ble_eq_true rfl) dX12_next_32 ⟨Nat.zero_le _, Nat.zero_le _⟩ rfl) (fun r6 σ5 hw => ?_)
      refine z_if_eq (tgt := 51) hG dX12_next_35 (by decide) (fun c18 => ?_) (fun c18 => ?_)
      · have hw := hw.1 c18
        refine z_aload_n hG dX12_next_51 rfl 0 rfl ?_
        refine z_aload_n hG dX12_next_52 rfl 0 rfl ?_
        refine z_geti hG f_X12_259 h0 rfl dX12_next_53 ?_
        refine z_iconst (v := 1) hG dX12_next_56 (by decide) ?_
        refine z_iadd hG dX12_next_57 ?_
        refine z_topi (fun x7 ex7 => ?_)
        have hw := hw x7 ex7
        refine z_puti hG f_X12_256 h0 rfl rfl (zN_int _) dX12_next_58 ?_
        refine z_topσ (fun σ8 eσ8 => ?_)
        have hw := hw σ8 eσ8
        refine z_aload_n hG dX12_next_61 rfl 0 rfl ?_
        refine z_aload_n hG dX12_next_62 rfl 0 rfl ?_
        refine z_geti hG f_X12_259 h0 rfl dX12_next_63 ?_
        refine z_aload_n hG dX12_next_66 rfl 0 rfl ?_
        refine z_geti hG f_X12_250 h0 rfl dX12_next_67 ?_
        refine z_icmp_lt (tgt := 77) hG dX12_next_70 (by decide) (fun c17 => ?_) (fun c17 => ?_)
        · have hw := hw.1 c17
          refine z_aload_n hG dX12_next_77 rfl 0 rfl ?_
          obtain ⟨j9, ej9, hw⟩ := hw
          refine z_getr (kq := 21) hG f_X12_35 h0 rfl ej9 rfl (by decide) dX12_next_78 (fun hj9 => ?_)
          refine z_aload_n hG dX12_next_81 rfl 0 rfl ?_
          refine z_geti hG f_X12_259 h0 rfl dX12_next_82 ?_
          refine z_topi (fun x10 ex10 => ?_)
          have hw := hw x10 ex10
          obtain ⟨q11, hw⟩ := hw
          refine z_bald hG hj9 q11 dX12_next_85 ?_
          refine z_bipush (v := 59) hG dX12_next_86 (by decide) ?_
          refine z_icmp_ne (tgt := 95) hG dX12_next_88 (by decide) (fun c16 => ?_) (fun c16 => ?_)
          · have hw := hw.2 c16
            refine z_aload_n hG dX12_next_95 rfl 0 rfl ?_
            obtain ⟨j12, ej12, hw⟩ := hw
            refine z_getr (kq := 21) hG f_X12_35 h0 rfl ej12 rfl (by decide) dX12_next_96 (fun hj12 => ?_)
            refine z_aload_n hG dX12_next_99 rfl 0 rfl ?_
            refine z_geti hG f_X12_259 h0 rfl dX12_next_100 ?_
            refine z_topi (fun x13 ex13 => ?_)
            have hw := hw x13 ex13
            obtain ⟨q14, hw⟩ := hw
            refine z_bald hG hj12 q14 dX12_next_103 ?_
            refine z_bipush (v := 47) hG dX12_next_104 (by decide) ?_
            refine z_icmp_ne (tgt := 113) hG dX12_next_106 (by decide) (fun c15 => ?_) (fun c15 => ?_)
            · have hw := hw.2 c15
              refine z_iconst (v := 5) hG dX12_next_113 (by decide) ?_
              refine zpick [0] (lv' := [(0, .ref (za Y t0))]) rfl ?_
              exact BX12_next_114 hG t0 t0 5 σ8 hw h0 h0
            · have hw := hw.1 c15
              refine z_iconst (v := 4) hG dX12_next_109 (by decide) ?_
              refine z_goto (tgt := 114) hG dX12_next_110 (by decide) ?_
              refine zpick [0] (lv' := [(0, .ref (za Y t0))]) rfl ?_
              exact BX12_next_114 hG t0 t0 4 σ8 hw h0 h0
          · have hw := hw.1 c16
            refine z_iconst (v := 3) hG dX12_next_91 (by decide) ?_
            refine z_goto (tgt := 114) hG dX12_next_92 (by decide) ?_
            refine zpick [0] (lv' := [(0, .ref (za Y t0))]) rfl ?_
            exact BX12_next_114 hG t0 t0 3 σ8 hw h0 h0
        · have hw := hw.2 c17
          refine z_iconst (v := 0) hG dX12_next_73 (by decide) ?_
          refine z_goto (tgt := 114) hG dX12_next_74 (by decide) ?_
          refine zpick [0] (lv' := [(0, .ref (za Y t0))]) rfl ?_
          exact BX12_next_114 hG t0 t0 0 σ8 hw h0 h0
      · have hw := hw.2 c18
        refine zpick [0] (lv' := [(0, .ref (za Y t0))]) rfl ?_
        exact BX12_next_38 hG ih t0 σ5 hw h0
set_option maxRecDepth 100000 in
set_option maxHeartbeats 4000000 in
theorem MX12_next (l : Launch) {E : zE} {Y : zY} {σ : zS} {t0 : Nat} (h0 : zT Y 12 t0) {Q : zS → Prop} (hw : wX12_next (zln Y) σ t0 Q) : ∀ sz, Met l yX12_next (zw yX12_next cX12_next 1 none) rX12_next (zPc E Y σ sz [.ref (za Y t0)]) (va_Qv Q (zB E Y sz) (zA Y sz)) 0 0 (zA Y sz) := by
  refine z_met (own := RX12) (Qc := fun sz => va_Qv Q (zB E Y sz) (zA Y sz)) (by decide +kernel) rfl (Nat.le_of_ble_eq_true rfl) ?_
  intro p e s m args below meth c hG hinit
  unfold wX12_next at hw
  refine zlv (lv' := [(0, .ref (za Y t0))]) rfl ?_
  refine z_aload_n hG dX12_next_0 rfl 0 rfl ?_
  refine z_aload_n hG dX12_next_1 rfl 0 rfl ?_
  refine z_geti hG f_X12_256 h0 rfl dX12_next_2 ?_
  refine z_topi (fun x1 ex1 => ?_)
  have hw := hw x1 ex1
  refine z_puti hG f_X12_259 h0 rfl rfl (zN_int _) dX12_next_5 ?_
  refine z_topσ (fun σ2 eσ2 => ?_)
  have hw := hw σ2 eσ2
  obtain ⟨n3, hw⟩ := hw
  refine zpick [0] (lv' := [(0, .ref (za Y t0))]) rfl ?_
  exact BX12_next_8 hG n3 t0 σ2 hw h0
-- TypeWheelTelegraphModel.must(Z)V
def wX12_must (ln : Nat → Nat) (σ : zS) (t0 : Nat) (v1 : Int32) (Q : zS → Prop) : Prop := ((v1 = 0 → (((gi σ t0 21) = 0 → ∀ σ1 : zS, σ1 = si σ t0 21 1 → ∀ x2 : Int32, x2 = gi σ1 t0 15 → ∀ σ3 : zS, σ3 = si σ1 t0 14 x2 → Q σ3) ∧ (¬ (gi σ t0 21) = 0 → Q σ))) ∧ (¬ v1 = 0 → Q σ))
abbrev rX12_must : Room := { frames := 0, cells := 0, slots := 0, locals := 0 }
set_option maxRecDepth 100000 in
set_option maxHeartbeats 4000000 in
theorem MX12_must (l : Launch) {E : zE} {Y : zY} {σ : zS} {t0 : Nat} {v1 : Int32} (h0 : zT Y 12 t0) {Q : zS → Prop} (hw : wX12_must (zln Y) σ t0 v1 Q) : ∀ sz, Met l yX12_must (zw yX12_must cX12_must 2 none) rX12_must (zPc E Y σ sz [.ref (za Y t0), .int v1]) (va_Qv Q (zB E Y sz) (zA Y sz)) 0 0 (zA Y sz) := by
  refine z_met (own := RX12) (Qc := fun sz => va_Qv Q (zB E Y sz) (zA Y sz)) (by decide +kernel) rfl (Nat.le_of_ble_eq_true rfl) ?_
  intro p e s m args below meth c hG hinit
  unfold wX12_must at hw
  refine zlv (lv' := [(0, .ref (za Y t0)), (1, .int v1)]) rfl ?_
  refine z_iload_n hG dX12_must_0 rfl 1 rfl ?_
  refine z_if_ne (tgt := 11) hG dX12_must_1 (by decide) (fun c5 => ?_) (fun c5 => ?_)
  · have hw := hw.2 c5
    exact z_vret hG rfl dX12_must_11 hw
  · have hw := hw.1 c5
    refine z_aload_n hG dX12_must_4 rfl 0 rfl ?_
    refine z_geti hG f_X12_280 h0 rfl dX12_must_5 ?_
    refine z_if_eq (tgt := 12) hG dX12_must_8 (by decide) (fun c4 => ?_) (fun c4 => ?_)
    · have hw := hw.1 c4
      refine z_aload_n hG dX12_must_12 rfl 0 rfl ?_
      refine z_iconst (v := 1) hG dX12_must_13 (by decide) ?_
      refine z_puti hG f_X12_280 h0 rfl rfl (zN_b (by decide)) dX12_must_14 ?_
      refine z_topσ (fun σ1 eσ1 => ?_)
      have hw := hw σ1 eσ1
      refine z_aload_n hG dX12_must_17 rfl 0 rfl ?_
      refine z_aload_n hG dX12_must_18 rfl 0 rfl ?_
      refine z_geti hG f_X12_259 h0 rfl dX12_must_19 ?_
      refine z_topi (fun x2 ex2 => ?_)
      have hw := hw x2 ex2
      refine z_puti hG f_X12_39 h0 rfl rfl (zN_int _) dX12_must_22 ?_
      refine z_topσ (fun σ3 eσ3 => ?_)
      have hw := hw σ3 eσ3
      exact z_vret hG rfl dX12_must_25 hw
    · have hw := hw.2 c4
      exact z_vret hG rfl dX12_must_11 hw
-- TypeWheelTelegraphModel.goesOver()V
def wX12_goesOver (ln : Nat → Nat) (σ : zS) (t0 : Nat) (Q : zS → Prop) : Prop := (((gi σ t0 21) = 0 → wX12_next ln σ t0 (fun σ1 => Q σ1)) ∧ (¬ (gi σ t0 21) = 0 → Q σ))
abbrev rX12_goesOver : Room := { frames := 3, cells := 0, slots := 0, locals := 68 }
set_option maxRecDepth 100000 in
set_option maxHeartbeats 4000000 in
theorem MX12_goesOver (l : Launch) {E : zE} {Y : zY} {σ : zS} {t0 : Nat} (h0 : zT Y 12 t0) {Q : zS → Prop} (hw : wX12_goesOver (zln Y) σ t0 Q) : ∀ sz, Met l yX12_goesOver (zw yX12_goesOver cX12_goesOver 1 none) rX12_goesOver (zPc E Y σ sz [.ref (za Y t0)]) (va_Qv Q (zB E Y sz) (zA Y sz)) 0 0 (zA Y sz) := by
  refine z_met (own := RX12) (Qc := fun sz => va_Qv Q (zB E Y sz) (zA Y sz)) (by decide +kernel) rfl (Nat.le_of_ble_eq_true rfl) ?_
  intro p e s m args below meth c hG hinit
  unfold wX12_goesOver at hw
  refine zlv (lv' := [(0, .ref (za Y t0))]) rfl ?_
  refine z_aload_n hG dX12_goesOver_0 rfl 0 rfl ?_
  refine z_geti hG f_X12_280 h0 rfl dX12_goesOver_1 ?_
  refine z_if_ne (tgt := 11) hG dX12_goesOver_4 (by decide) (fun c2 => ?_) (fun c2 => ?_)
  · have hw := hw.2 c2
    exact z_vret hG rfl dX12_goesOver_11 hw
  · have hw := hw.1 c2
    refine z_aload_n hG dX12_goesOver_7 rfl 0 rfl ?_
    refine z_callv hG (z_runV (As := []) (st := []) hG k_X12_284 (MX12_next l h0 hw) ⟨(Nat.le_of_ble_eq_true rfl), (Nat.le_of_ble_eq_true rfl)⟩ h0 (T := TX12) (N := 23) rfl (by decide) rfl (Nat.le_of_ble_eq_true rfl) dX12_goesOver_8 ⟨Nat.zero_le _, Nat.zero_le _⟩ rfl) (fun σ1 hw => ?_)
    exact z_vret hG rfl dX12_goesOver_11 hw
-- TypeWheelTelegraphModel.isWord(J)Z
def wX12_isWord (ln : Nat → Nat) (σ : zS) (t0 : Nat) (v1 : Int64) (Q : Int32 → zS → Prop) : Prop := (((gi σ t0 21) = 0 → (((gi σ t0 17) = 1 → (((lg_cmp (gl σ t0 22) v1) = 0 → Q 1 σ) ∧ (¬ (lg_cmp (gl σ t0 22) v1) = 0 → Q 0 σ))) ∧ (¬ (gi σ t0 17) = 1 → Q 0 σ))) ∧ (¬ (gi σ t0 21) = 0 → Q 0 σ))
abbrev rX12_isWord : Room := { frames := 0, cells := 0, slots := 0, locals := 0 }
set_option maxRecDepth 100000 in
set_option maxHeartbeats 4000000 in
theorem MX12_isWord (l : Launch) {E : zE} {Y : zY} {σ : zS} {t0 : Nat} {v1 : Int64} (h0 : zT Y 12 t0) {Q : Int32 → zS → Prop} (hw : wX12_isWord (zln Y) σ t0 v1 Q) : ∀ sz, Met l yX12_isWord (zw yX12_isWord cX12_isWord 3 (some .boolean)) rX12_isWord (zPc E Y σ sz [.ref (za Y t0), .long v1]) (va_Qi Q (zB E Y sz) (zA Y sz)) 0 0 (zA Y sz) := by
  refine z_met (own := RX12) (Qc := fun sz => va_Qi Q (zB E Y sz) (zA Y sz)) (by decide +kernel) rfl (Nat.le_of_ble_eq_true rfl) ?_
  intro p e s m args below meth c hG hinit
  unfold wX12_isWord at hw
  refine zlv (lv' := [(0, .ref (za Y t0)), (1, .long v1)]) rfl ?_
  refine z_aload_n hG dX12_isWord_0 rfl 0 rfl ?_
  refine z_geti hG f_X12_280 h0 rfl dX12_isWord_1 ?_
  refine z_if_ne (tgt := 28) hG dX12_isWord_4 (by decide) (fun c3 => ?_) (fun c3 => ?_)
  · have hw := hw.2 c3
    refine z_iconst (v := 0) hG dX12_isWord_28 (by decide) ?_
    exact z_iret hG rfl (by decide +kernel) dX12_isWord_29 hw
  · have hw := hw.1 c3
    refine z_aload_n hG dX12_isWord_7 rfl 0 rfl ?_
    refine z_geti hG f_X12_266 h0 rfl dX12_isWord_8 ?_
    refine z_iconst (v := 1) hG dX12_isWord_11 (by decide) ?_
    refine z_icmp_ne (tgt := 28) hG dX12_isWord_12 (by decide) (fun c2 => ?_) (fun c2 => ?_)
    · have hw := hw.2 c2
      refine z_iconst (v := 0) hG dX12_isWord_28 (by decide) ?_
      exact z_iret hG rfl (by decide +kernel) dX12_isWord_29 hw
    · have hw := hw.1 c2
      refine z_aload_n hG dX12_isWord_15 rfl 0 rfl ?_
      refine z_getl hG f_X12_269 h0 rfl dX12_isWord_16 ?_
      refine z_lload_n hG dX12_isWord_19 rfl 1 rfl ?_
      refine z_lcmp hG dX12_isWord_20 ?_
      refine z_if_ne (tgt := 28) hG dX12_isWord_21 (by decide) (fun c1 => ?_) (fun c1 => ?_)
      · have hw := hw.2 c1
        refine z_iconst (v := 0) hG dX12_isWord_28 (by decide) ?_
        exact z_iret hG rfl (by decide +kernel) dX12_isWord_29 hw
      · have hw := hw.1 c1
        refine z_iconst (v := 1) hG dX12_isWord_24 (by decide) ?_
        refine z_goto (tgt := 29) hG dX12_isWord_25 (by decide) ?_
        exact z_iret hG rfl (by decide +kernel) dX12_isWord_29 hw
-- TypeWheelTelegraphModel.takes(II)I
def wX12_takes_47 (ln : Nat → Nat) (Q : Int32 → zS → Prop) (t0 : Nat) (vw0 : Int32) (σ : zS) : Prop := wX12_goesOver ln σ t0 (fun σ1 => Q vw0 σ1)
def wX12_takes_29 (ln : Nat → Nat) (Q : Int32 → zS → Prop) (t0 : Nat) (v1 : Int32) (tw0 : Nat) (vw1 : Int32) (σ : zS) : Prop := wX12_must ln σ tw0 vw1 (fun σ1 => (((gi σ1 t0 21) = 0 → wX12_takes_47 ln Q t0 (gi σ1 t0 18) σ1) ∧ (¬ (gi σ1 t0 21) = 0 → wX12_takes_47 ln Q t0 v1 σ1)))
def wX12_takes_28 (ln : Nat → Nat) (Q : Int32 → zS → Prop) (t0 : Nat) (v1 : Int32) (tw0 : Nat) (σ : zS) : Prop := wX12_takes_29 ln Q t0 v1 tw0 0 σ
def wX12_takes (ln : Nat → Nat) (σ : zS) (t0 : Nat) (v1 : Int32) (v2 : Int32) (Q : Int32 → zS → Prop) : Prop := (((gi σ t0 17) = 2 → ∀ x1 : Int64, x1 = v2.toInt64 → ∀ x2 : Int64, x2 = v1.toInt64 → ∀ x3 : Int64, x3 = (gi σ t0 18).toInt64 → wX12_isIn ln σ x3 x2 x1 (fun r5 σ4 => ((r5 = 0 → wX12_takes_28 ln Q t0 v1 t0 σ4) ∧ (¬ r5 = 0 → wX12_takes_29 ln Q t0 v1 t0 1 σ4)))) ∧ (¬ (gi σ t0 17) = 2 → wX12_takes_28 ln Q t0 v1 t0 σ))
abbrev rX12_takes : Room := { frames := 4, cells := 0, slots := 0, locals := 88 }
set_option maxRecDepth 100000 in
set_option maxHeartbeats 4000000 in
theorem BX12_takes_47 {l : Launch} {E : zE} {Y : zY} {p : Program} {e : Env} {s : State} {m : MethodId} {args : Array Value} {below : List Frame} {meth : Method} {c : Code} (hG : zG E p l s m args meth c cX12_takes 4 RX12 (some .int) (zA Y s.heap.size)) {Q : Int32 → zS → Prop} : ∀ (t0 : Nat) (vw0 : Int32) (σ : zS), wX12_takes_47 (zln Y) Q t0 vw0 σ → zT Y 12 t0 → WW E Y σ p l e rX12_takes s m args below meth c (zA Y s.heap.size) 4 0 0 (MQ below (va_Qi Q (zB E Y s.heap.size) (zA Y s.heap.size)) args s 0 0 (zA Y s.heap.size)) [(0, .ref (za Y t0))] 47 [.int vw0] := by
  intro t0 vw0 σ hw h0
  unfold wX12_takes_47 at hw
  refine z_istore_n (lv' := [(3, .int vw0), (0, .ref (za Y t0))]) hG dX12_takes_47 rfl (by decide) rfl ?_
  refine z_aload_n hG dX12_takes_48 rfl 1 rfl ?_
  refine z_callv hG (z_runV (As := []) (st := []) hG k_X12_290 (MX12_goesOver l h0 hw) ⟨(Nat.le_of_ble_eq_true rfl), (Nat.le_of_ble_eq_true rfl)⟩ h0 (T := TX12) (N := 23) rfl (by decide) rfl (Nat.le_of_ble_eq_true rfl) dX12_takes_49 ⟨Nat.zero_le _, Nat.zero_le _⟩ rfl) (fun σ1 hw => ?_)
  refine z_iload_n hG dX12_takes_52 rfl 0 rfl ?_
  exact z_iret hG rfl rfl dX12_takes_53 hw
set_option maxRecDepth 100000 in
set_option maxHeartbeats 4000000 in
theorem BX12_takes_29 {l : Launch} {E : zE} {Y : zY} {p : Program} {e : Env} {s : State} {m : MethodId} {args : Array Value} {below : List Frame} {meth : Method} {c : Code} (hG : zG E p l s m args meth c cX12_takes 4 RX12 (some .int) (zA Y s.heap.size)) {Q : Int32 → zS → Prop} : ∀ (t0 : Nat) (v1 : Int32) (tw0 : Nat) (vw1 : Int32) (σ : zS), wX12_takes_29 (zln Y) Q t0 v1 tw0 vw1 σ → zT Y 12 t0 → zT Y 12 tw0 → WW E Y σ p l e rX12_takes s m args below meth c (zA Y s.heap.size) 4 0 0 (MQ below (va_Qi Q (zB E Y s.heap.size) (zA Y s.heap.size)) args s 0 0 (zA Y s.heap.size)) [(0, .ref (za Y t0)), (1, .int v1)] 29 [.int vw1, .ref (za Y tw0)] := by
  intro t0 v1 tw0 vw1 σ hw h0 hw0
  unfold wX12_takes_29 at hw
  refine z_callv hG (z_runV (As := [.int vw1]) (st := []) hG k_X12_287 (MX12_must l hw0 hw) ⟨(Nat.le_of_ble_eq_true rfl), (Nat.le_of_ble_eq_true rfl)⟩ hw0 (T := TX12) (N := 23) rfl (by decide) rfl (Nat.le_of_ble_eq_true rfl) dX12_takes_29 ⟨Nat.zero_le _, Nat.zero_le _⟩ rfl) (fun σ1 hw => ?_)
  refine z_aload_n hG dX12_takes_32 rfl 0 rfl ?_
  refine z_geti hG f_X12_280 h0 rfl dX12_takes_33 ?_
  refine z_if_eq (tgt := 43) hG dX12_takes_36 (by decide) (fun c2 => ?_) (fun c2 => ?_)
  · have hw := hw.1 c2
    refine z_aload_n hG dX12_takes_43 rfl 0 rfl ?_
    refine z_geti hG f_X12_277 h0 rfl dX12_takes_44 ?_
    refine zpick [0] (lv' := [(0, .ref (za Y t0))]) rfl ?_
    exact BX12_takes_47 hG t0 (gi σ1 t0 18) σ1 hw h0
  · have hw := hw.2 c2
    refine z_iload_n hG dX12_takes_39 rfl 1 rfl ?_
    refine z_goto (tgt := 47) hG dX12_takes_40 (by decide) ?_
    refine zpick [0] (lv' := [(0, .ref (za Y t0))]) rfl ?_
    exact BX12_takes_47 hG t0 v1 σ1 hw h0
set_option maxRecDepth 100000 in
set_option maxHeartbeats 4000000 in
theorem BX12_takes_28 {l : Launch} {E : zE} {Y : zY} {p : Program} {e : Env} {s : State} {m : MethodId} {args : Array Value} {below : List Frame} {meth : Method} {c : Code} (hG : zG E p l s m args meth c cX12_takes 4 RX12 (some .int) (zA Y s.heap.size)) {Q : Int32 → zS → Prop} : ∀ (t0 : Nat) (v1 : Int32) (tw0 : Nat) (σ : zS), wX12_takes_28 (zln Y) Q t0 v1 tw0 σ → zT Y 12 t0 → zT Y 12 tw0 → WW E Y σ p l e rX12_takes s m args below meth c (zA Y s.heap.size) 4 0 0 (MQ below (va_Qi Q (zB E Y s.heap.size) (zA Y s.heap.size)) args s 0 0 (zA Y s.heap.size)) [(0, .ref (za Y t0)), (1, .int v1)] 28 [.ref (za Y tw0)] := by
  intro t0 v1 tw0 σ hw h0 hw0
  unfold wX12_takes_28 at hw
  refine z_iconst (v := 0) hG dX12_takes_28 (by decide) ?_
  refine zpick [0, 1] (lv' := [(0, .ref (za Y t0)), (1, .int v1)]) rfl ?_
  exact BX12_takes_29 hG t0 v1 tw0 0 σ hw h0 hw0
set_option maxRecDepth 100000 in
set_option maxHeartbeats 4000000 in
theorem MX12_takes (l : Launch) {E : zE} {Y : zY} {σ : zS} {t0 : Nat} {v1 : Int32} {v2 : Int32} (h0 : zT Y 12 t0) {Q : Int32 → zS → Prop} (hw : wX12_takes (zln Y) σ t0 v1 v2 Q) : ∀ sz, Met l yX12_takes (zw yX12_takes cX12_takes 4 (some .int)) rX12_takes (zPc E Y σ sz [.ref (za Y t0), .int v1, .int v2]) (va_Qi Q (zB E Y sz) (zA Y sz)) 0 0 (zA Y sz) := by
  refine z_met (own := RX12) (Qc := fun sz => va_Qi Q (zB E Y sz) (zA Y sz)) (by decide +kernel) rfl (Nat.le_of_ble_eq_true rfl) ?_
  intro p e s m args below meth c hG hinit
  unfold wX12_takes at hw
  refine zlv (lv' := [(0, .ref (za Y t0)), (1, .int v1), (2, .int v2)]) rfl ?_
  refine z_aload_n hG dX12_takes_0 rfl 0 rfl ?_
  refine z_aload_n hG dX12_takes_1 rfl 0 rfl ?_
  refine z_geti hG f_X12_266 h0 rfl dX12_takes_2 ?_
  refine z_iconst (v := 2) hG dX12_takes_5 (by decide) ?_
  refine z_icmp_ne (tgt := 28) hG dX12_takes_6 (by decide) (fun c7 => ?_) (fun c7 => ?_)
  · have hw := hw.2 c7
    refine zpick [0, 1] (lv' := [(0, .ref (za Y t0)), (1, .int v1)]) rfl ?_
    exact BX12_takes_28 hG t0 v1 t0 σ hw h0 h0
  · have hw := hw.1 c7
    refine z_aload_n hG dX12_takes_9 rfl 0 rfl ?_
    refine z_geti hG f_X12_277 h0 rfl dX12_takes_10 ?_
    refine z_i2l hG dX12_takes_13 ?_
    refine z_iload_n hG dX12_takes_14 rfl 1 rfl ?_
    refine z_i2l hG dX12_takes_15 ?_
    refine z_iload_n hG dX12_takes_16 rfl 2 rfl ?_
    refine z_i2l hG dX12_takes_17 ?_
    refine z_topl (fun x1 ex1 => ?_)
    have hw := hw x1 ex1
    obtain ⟨x2, ex2⟩ : ∃ y : Int64, y = v1.toInt64 := ⟨_, rfl⟩
    refine zst (st' := [.long x1, .long x2, .long ((gi σ t0 18).toInt64), .ref (za Y t0)]) (by rw [ex2]) ?_
    have hw := hw x2 ex2
    obtain ⟨x3, ex3⟩ : ∃ y : Int64, y = (gi σ t0 18).toInt64 := ⟨_, rfl⟩
    refine zst (st' := [.long x1, .long x2, .long x3, .ref (za Y t0)]) (by rw [ex3]) ?_
    have hw := hw x3 ex3
    refine z_calli hG (z_runS (As := [.long x3, .long x2, .long x1]) (st := [.ref (za Y t0)]) hG k_X12_58 (MX12_isIn l hw) ⟨(Nat.le_of_ble_eq_true rfl), (Nat.le_of_ble_eq_true rfl)⟩ rfl (Nat.le_of_ble_eq_true rfl) dX12_takes_18 ⟨Nat.zero_le _, Nat.zero_le _⟩ rfl) (fun r5 σ4 hw => ?_)
    refine z_if_eq (tgt := 28) hG dX12_takes_21 (by decide) (fun c6 => ?_) (fun c6 => ?_)
    · have hw := hw.1 c6
      refine zpick [0, 1] (lv' := [(0, .ref (za Y t0)), (1, .int v1)]) rfl ?_
      exact BX12_takes_28 hG t0 v1 t0 σ4 hw h0 h0
    · have hw := hw.2 c6
      refine z_iconst (v := 1) hG dX12_takes_24 (by decide) ?_
      refine z_goto (tgt := 29) hG dX12_takes_25 (by decide) ?_
      refine zpick [0, 1] (lv' := [(0, .ref (za Y t0)), (1, .int v1)]) rfl ?_
      exact BX12_takes_29 hG t0 v1 t0 1 σ4 hw h0 h0
-- TypeWheelTelegraphModel.wheelLine()V
def wX12_wheelLine (ln : Nat → Nat) (σ : zS) (t0 : Nat) (Q : zS → Prop) : Prop := ∀ x1 : Int32, x1 = gi σ t0 20 → wX12_must ln σ t0 x1 (fun σ2 => wX12_goesOver ln σ2 t0 (fun σ3 => ∃ j4 : Nat, gr σ3 t0 2 = some j4 ∧ wX12_takes ln σ3 t0 6 28 (fun r6 σ5 => vp_in (0 : Int32) (ln j4) ∧ ∀ σ8 : zS, σ8 = si σ5 j4 (0 : Int32).toNatClampNeg r6 → Q σ8)))
abbrev rX12_wheelLine : Room := { frames := 5, cells := 0, slots := 0, locals := 111 }
set_option maxRecDepth 100000 in
set_option maxHeartbeats 4000000 in
theorem MX12_wheelLine (l : Launch) {E : zE} {Y : zY} {σ : zS} {t0 : Nat} (h0 : zT Y 12 t0) {Q : zS → Prop} (hw : wX12_wheelLine (zln Y) σ t0 Q) : ∀ sz, Met l yX12_wheelLine (zw yX12_wheelLine cX12_wheelLine 1 none) rX12_wheelLine (zPc E Y σ sz [.ref (za Y t0)]) (va_Qv Q (zB E Y sz) (zA Y sz)) 0 0 (zA Y sz) := by
  refine z_met (own := RX12) (Qc := fun sz => va_Qv Q (zB E Y sz) (zA Y sz)) (by decide +kernel) rfl (Nat.le_of_ble_eq_true rfl) ?_
  intro p e s m args below meth c hG hinit
  unfold wX12_wheelLine at hw
  refine zlv (lv' := [(0, .ref (za Y t0))]) rfl ?_
  refine z_aload_n hG dX12_wheelLine_0 rfl 0 rfl ?_
  refine z_aload_n hG dX12_wheelLine_1 rfl 0 rfl ?_
  refine z_geti hG f_X12_293 h0 rfl dX12_wheelLine_2 ?_
  refine z_topi (fun x1 ex1 => ?_)
  have hw := hw x1 ex1
  refine z_callv hG (z_runV (As := [.int x1]) (st := []) hG k_X12_287 (MX12_must l h0 hw) ⟨(Nat.le_of_ble_eq_true rfl), (Nat.le_of_ble_eq_true rfl)⟩ h0 (T := TX12) (N := 23) rfl (by decide) rfl (Nat.le_of_ble_eq_true rfl) dX12_wheelLine_5 ⟨Nat.zero_le _, Nat.zero_le _⟩ rfl) (fun σ2 hw => ?_)
  refine z_aload_n hG dX12_wheelLine_8 rfl 0 rfl ?_
  refine z_callv hG (z_runV (As := []) (st := []) hG k_X12_290 (MX12_goesOver l h0 hw) ⟨(Nat.le_of_ble_eq_true rfl), (Nat.le_of_ble_eq_true rfl)⟩ h0 (T := TX12) (N := 23) rfl (by decide) rfl (Nat.le_of_ble_eq_true rfl) dX12_wheelLine_9 ⟨Nat.zero_le _, Nat.zero_le _⟩ rfl) (fun σ3 hw => ?_)
  refine z_aload_n hG dX12_wheelLine_12 rfl 0 rfl ?_
  obtain ⟨j4, ej4, hw⟩ := hw
  refine z_getr (kq := 20) hG f_X12_13 h0 rfl ej4 rfl (by decide) dX12_wheelLine_13 (fun hj4 => ?_)
  refine z_iconst (v := 0) hG dX12_wheelLine_16 (by decide) ?_
  refine z_aload_n hG dX12_wheelLine_17 rfl 0 rfl ?_
  refine z_bipush (v := 6) hG dX12_wheelLine_18 (by decide) ?_
  refine z_bipush (v := 28) hG dX12_wheelLine_20 (by decide) ?_
  refine z_calli hG (z_runV (As := [.int 6, .int 28]) (st := [.int 0, .ref (za Y j4)]) hG k_X12_296 (MX12_takes l h0 hw) ⟨(Nat.le_of_ble_eq_true rfl), (Nat.le_of_ble_eq_true rfl)⟩ h0 (T := TX12) (N := 23) rfl (by decide) rfl (Nat.le_of_ble_eq_true rfl) dX12_wheelLine_22 ⟨Nat.zero_le _, Nat.zero_le _⟩ rfl) (fun r6 σ5 hw => ?_)
  obtain ⟨q7, hw⟩ := hw
  refine z_iast hG hj4 q7 dX12_wheelLine_25 ?_
  refine z_topσ (fun σ8 eσ8 => ?_)
  have hw := hw σ8 eσ8
  exact z_vret hG rfl dX12_wheelLine_26 hw
-- TypeWheelTelegraphModel.officeLine()V
def wX12_officeLine_14 (ln : Nat → Nat) (Q : zS → Prop) (t0 : Nat) (tw0 : Nat) (vw1 : Int32) (σ : zS) : Prop := wX12_must ln σ tw0 vw1 (fun σ1 => wX12_goesOver ln σ1 t0 (fun σ2 => ∃ j3 : Nat, gr σ2 t0 2 = some j3 ∧ vp_in (0 : Int32) (ln j3) ∧ ∀ x5 : Int32, x5 = (1000 * (gi σ2 j3 (0 : Int32).toNatClampNeg)) - 1 → wX12_takes ln σ2 t0 0 x5 (fun r7 σ6 => wX12_takes ln σ6 t0 10 999 (fun r9 σ8 => (((gi σ8 t0 21) = 0 → ∃ j10 : Nat, gr σ8 t0 2 = some j10 ∧ ∀ x11 : Int32, x11 = 21 + (gi σ8 t0 19) → vp_in x11 (ln j10) ∧ ∀ σ13 : zS, σ13 = si σ8 j10 x11.toNatClampNeg r7 → ∃ j14 : Nat, gr σ13 t0 2 = some j14 ∧ ∀ x15 : Int32, x15 = 23 + (gi σ13 t0 19) → vp_in x15 (ln j14) ∧ ∀ σ17 : zS, σ17 = si σ13 j14 x15.toNatClampNeg r9 → ∀ x18 : Int32, x18 = (gi σ17 t0 19) + 1 → ∀ σ19 : zS, σ19 = si σ17 t0 19 x18 → Q σ19) ∧ (¬ (gi σ8 t0 21) = 0 → Q σ8))))))
def wX12_officeLine (ln : Nat → Nat) (σ : zS) (t0 : Nat) (Q : zS → Prop) : Prop := ((2 ≤ (gi σ t0 19) → wX12_officeLine_14 ln Q t0 t0 0 σ) ∧ (¬ 2 ≤ (gi σ t0 19) → wX12_officeLine_14 ln Q t0 t0 1 σ))
abbrev rX12_officeLine : Room := { frames := 5, cells := 0, slots := 0, locals := 111 }
set_option maxRecDepth 100000 in
set_option maxHeartbeats 4000000 in
theorem BX12_officeLine_14 {l : Launch} {E : zE} {Y : zY} {p : Program} {e : Env} {s : State} {m : MethodId} {args : Array Value} {below : List Frame} {meth : Method} {c : Code} (hG : zG E p l s m args meth c cX12_officeLine 3 RX12 none (zA Y s.heap.size)) {Q : zS → Prop} : ∀ (t0 : Nat) (tw0 : Nat) (vw1 : Int32) (σ : zS), wX12_officeLine_14 (zln Y) Q t0 tw0 vw1 σ → zT Y 12 t0 → zT Y 12 tw0 → WW E Y σ p l e rX12_officeLine s m args below meth c (zA Y s.heap.size) 3 0 0 (MQ below (va_Qv Q (zB E Y s.heap.size) (zA Y s.heap.size)) args s 0 0 (zA Y s.heap.size)) [(0, .ref (za Y t0))] 14 [.int vw1, .ref (za Y tw0)] := by
  intro t0 tw0 vw1 σ hw h0 hw0
  unfold wX12_officeLine_14 at hw
  refine z_callv hG (z_runV (As := [.int vw1]) (st := []) hG k_X12_287 (MX12_must l hw0 hw) ⟨(Nat.le_of_ble_eq_true rfl), (Nat.le_of_ble_eq_true rfl)⟩ hw0 (T := TX12) (N := 23) rfl (by decide) rfl (Nat.le_of_ble_eq_true rfl) dX12_officeLine_14 ⟨Nat.zero_le _, Nat.zero_le _⟩ rfl) (fun σ1 hw => ?_)
  refine z_aload_n hG dX12_officeLine_17 rfl 0 rfl ?_
  refine z_callv hG (z_runV (As := []) (st := []) hG k_X12_290 (MX12_goesOver l h0 hw) ⟨(Nat.le_of_ble_eq_true rfl), (Nat.le_of_ble_eq_true rfl)⟩ h0 (T := TX12) (N := 23) rfl (by decide) rfl (Nat.le_of_ble_eq_true rfl) dX12_officeLine_18 ⟨Nat.zero_le _, Nat.zero_le _⟩ rfl) (fun σ2 hw => ?_)
  refine z_aload_n hG dX12_officeLine_21 rfl 0 rfl ?_
  refine z_iconst (v := 0) hG dX12_officeLine_22 (by decide) ?_
  refine z_sipush (v := 1000) hG dX12_officeLine_23 (by decide) ?_
  refine z_aload_n hG dX12_officeLine_26 rfl 0 rfl ?_
  obtain ⟨j3, ej3, hw⟩ := hw
  refine z_getr (kq := 20) hG f_X12_13 h0 rfl ej3 rfl (by decide) dX12_officeLine_27 (fun hj3 => ?_)
  refine z_iconst (v := 0) hG dX12_officeLine_30 (by decide) ?_
  obtain ⟨q4, hw⟩ := hw
  refine z_iald hG hj3 q4 dX12_officeLine_31 ?_
  refine z_imul hG dX12_officeLine_32 ?_
  refine z_iconst (v := 1) hG dX12_officeLine_33 (by decide) ?_
  refine z_isub hG dX12_officeLine_34 ?_
  refine z_topi (fun x5 ex5 => ?_)
  have hw := hw x5 ex5
  refine z_calli hG (z_runV (As := [.int 0, .int x5]) (st := []) hG k_X12_296 (MX12_takes l h0 hw) ⟨(Nat.le_of_ble_eq_true rfl), (Nat.le_of_ble_eq_true rfl)⟩ h0 (T := TX12) (N := 23) rfl (by decide) rfl (Nat.le_of_ble_eq_true rfl) dX12_officeLine_35 ⟨Nat.zero_le _, Nat.zero_le _⟩ rfl) (fun r7 σ6 hw => ?_)
  refine z_istore_n (lv' := [(1, .int r7), (0, .ref (za Y t0))]) hG dX12_officeLine_38 rfl (by decide) rfl ?_
  refine z_aload_n hG dX12_officeLine_39 rfl 1 rfl ?_
  refine z_bipush (v := 10) hG dX12_officeLine_40 (by decide) ?_
  refine z_sipush (v := 999) hG dX12_officeLine_42 (by decide) ?_
  refine z_calli hG (z_runV (As := [.int 10, .int 999]) (st := []) hG k_X12_296 (MX12_takes l h0 hw) ⟨(Nat.le_of_ble_eq_true rfl), (Nat.le_of_ble_eq_true rfl)⟩ h0 (T := TX12) (N := 23) rfl (by decide) rfl (Nat.le_of_ble_eq_true rfl) dX12_officeLine_45 ⟨Nat.zero_le _, Nat.zero_le _⟩ rfl) (fun r9 σ8 hw => ?_)
  refine z_istore_n (lv' := [(2, .int r9), (1, .int r7), (0, .ref (za Y t0))]) hG dX12_officeLine_48 rfl (by decide) rfl ?_
  refine z_aload_n hG dX12_officeLine_49 rfl 2 rfl ?_
  refine z_geti hG f_X12_280 h0 rfl dX12_officeLine_50 ?_
  refine z_if_eq (tgt := 57) hG dX12_officeLine_53 (by decide) (fun c20 => ?_) (fun c20 => ?_)
  · have hw := hw.1 c20
    refine z_aload_n hG dX12_officeLine_57 rfl 2 rfl ?_
    obtain ⟨j10, ej10, hw⟩ := hw
    refine z_getr (kq := 20) hG f_X12_13 h0 rfl ej10 rfl (by decide) dX12_officeLine_58 (fun hj10 => ?_)
    refine z_bipush (v := 21) hG dX12_officeLine_61 (by decide) ?_
    refine z_aload_n hG dX12_officeLine_63 rfl 2 rfl ?_
    refine z_geti hG f_X12_299 h0 rfl dX12_officeLine_64 ?_
    refine z_iadd hG dX12_officeLine_67 ?_
    refine z_iload_n hG dX12_officeLine_68 rfl 1 rfl ?_
    obtain ⟨x11, ex11⟩ : ∃ y : Int32, y = 21 + (gi σ8 t0 19) := ⟨_, rfl⟩
    refine zst (st' := [.int r7, .int x11, .ref (za Y j10)]) (by rw [ex11]) ?_
    have hw := hw x11 ex11
    obtain ⟨q12, hw⟩ := hw
    refine z_iast hG hj10 q12 dX12_officeLine_69 ?_
    refine z_topσ (fun σ13 eσ13 => ?_)
    have hw := hw σ13 eσ13
    refine z_aload_n hG dX12_officeLine_70 rfl 2 rfl ?_
    obtain ⟨j14, ej14, hw⟩ := hw
    refine z_getr (kq := 20) hG f_X12_13 h0 rfl ej14 rfl (by decide) dX12_officeLine_71 (fun hj14 => ?_)
    refine z_bipush (v := 23) hG dX12_officeLine_74 (by decide) ?_
    refine z_aload_n hG dX12_officeLine_76 rfl 2 rfl ?_
    refine z_geti hG f_X12_299 h0 rfl dX12_officeLine_77 ?_
    refine z_iadd hG dX12_officeLine_80 ?_
    refine z_iload_n hG dX12_officeLine_81 rfl 0 rfl ?_
    obtain ⟨x15, ex15⟩ : ∃ y : Int32, y = 23 + (gi σ13 t0 19) := ⟨_, rfl⟩
    refine zst (st' := [.int r9, .int x15, .ref (za Y j14)]) (by rw [ex15]) ?_
    have hw := hw x15 ex15
    obtain ⟨q16, hw⟩ := hw
    refine z_iast hG hj14 q16 dX12_officeLine_82 ?_
    refine z_topσ (fun σ17 eσ17 => ?_)
    have hw := hw σ17 eσ17
    refine z_aload_n hG dX12_officeLine_83 rfl 2 rfl ?_
    refine z_dup hG dX12_officeLine_84 rfl ?_
    refine z_geti hG f_X12_299 h0 rfl dX12_officeLine_85 ?_
    refine z_iconst (v := 1) hG dX12_officeLine_88 (by decide) ?_
    refine z_iadd hG dX12_officeLine_89 ?_
    refine z_topi (fun x18 ex18 => ?_)
    have hw := hw x18 ex18
    refine z_puti hG f_X12_299 h0 rfl rfl (zN_int _) dX12_officeLine_90 ?_
    refine z_topσ (fun σ19 eσ19 => ?_)
    have hw := hw σ19 eσ19
    exact z_vret hG rfl dX12_officeLine_93 hw
  · have hw := hw.2 c20
    exact z_vret hG rfl dX12_officeLine_56 hw
set_option maxRecDepth 100000 in
set_option maxHeartbeats 4000000 in
theorem MX12_officeLine (l : Launch) {E : zE} {Y : zY} {σ : zS} {t0 : Nat} (h0 : zT Y 12 t0) {Q : zS → Prop} (hw : wX12_officeLine (zln Y) σ t0 Q) : ∀ sz, Met l yX12_officeLine (zw yX12_officeLine cX12_officeLine 3 none) rX12_officeLine (zPc E Y σ sz [.ref (za Y t0)]) (va_Qv Q (zB E Y sz) (zA Y sz)) 0 0 (zA Y sz) := by
  refine z_met (own := RX12) (Qc := fun sz => va_Qv Q (zB E Y sz) (zA Y sz)) (by decide +kernel) rfl (Nat.le_of_ble_eq_true rfl) ?_
  intro p e s m args below meth c hG hinit
  unfold wX12_officeLine at hw
  refine zlv (lv' := [(0, .ref (za Y t0))]) rfl ?_
  refine z_aload_n hG dX12_officeLine_0 rfl 0 rfl ?_
  refine z_aload_n hG dX12_officeLine_1 rfl 0 rfl ?_
  refine z_geti hG f_X12_299 h0 rfl dX12_officeLine_2 ?_
  refine z_iconst (v := 2) hG dX12_officeLine_5 (by decide) ?_
  refine z_icmp_ge (tgt := 13) hG dX12_officeLine_6 (by decide) (fun c1 => ?_) (fun c1 => ?_)
  · have hw := hw.1 c1
    refine z_iconst (v := 0) hG dX12_officeLine_13 (by decide) ?_
    refine zpick [0] (lv' := [(0, .ref (za Y t0))]) rfl ?_
    exact BX12_officeLine_14 hG t0 t0 0 σ hw h0 h0
  · have hw := hw.2 c1
    refine z_iconst (v := 1) hG dX12_officeLine_9 (by decide) ?_
    refine z_goto (tgt := 14) hG dX12_officeLine_10 (by decide) ?_
    refine zpick [0] (lv' := [(0, .ref (za Y t0))]) rfl ?_
    exact BX12_officeLine_14 hG t0 t0 1 σ hw h0 h0
-- TypeWheelTelegraphModel.setting(III)V
def wX12_setting (ln : Nat → Nat) (σ : zS) (t0 : Nat) (v1 : Int32) (v2 : Int32) (v3 : Int32) (Q : zS → Prop) : Prop := wX12_goesOver ln σ t0 (fun σ1 => ∃ j2 : Nat, gr σ1 t0 2 = some j2 ∧ wX12_takes ln σ1 t0 v2 v3 (fun r4 σ3 => vp_in v1 (ln j2) ∧ ∀ σ6 : zS, σ6 = si σ3 j2 v1.toNatClampNeg r4 → Q σ6))
abbrev rX12_setting : Room := { frames := 5, cells := 0, slots := 0, locals := 111 }
set_option maxRecDepth 100000 in
set_option maxHeartbeats 4000000 in
theorem MX12_setting (l : Launch) {E : zE} {Y : zY} {σ : zS} {t0 : Nat} {v1 : Int32} {v2 : Int32} {v3 : Int32} (h0 : zT Y 12 t0) {Q : zS → Prop} (hw : wX12_setting (zln Y) σ t0 v1 v2 v3 Q) : ∀ sz, Met l yX12_setting (zw yX12_setting cX12_setting 4 none) rX12_setting (zPc E Y σ sz [.ref (za Y t0), .int v1, .int v2, .int v3]) (va_Qv Q (zB E Y sz) (zA Y sz)) 0 0 (zA Y sz) := by
  refine z_met (own := RX12) (Qc := fun sz => va_Qv Q (zB E Y sz) (zA Y sz)) (by decide +kernel) rfl (Nat.le_of_ble_eq_true rfl) ?_
  intro p e s m args below meth c hG hinit
  unfold wX12_setting at hw
  refine zlv (lv' := [(0, .ref (za Y t0)), (1, .int v1), (2, .int v2), (3, .int v3)]) rfl ?_
  refine z_aload_n hG dX12_setting_0 rfl 0 rfl ?_
  refine z_callv hG (z_runV (As := []) (st := []) hG k_X12_290 (MX12_goesOver l h0 hw) ⟨(Nat.le_of_ble_eq_true rfl), (Nat.le_of_ble_eq_true rfl)⟩ h0 (T := TX12) (N := 23) rfl (by decide) rfl (Nat.le_of_ble_eq_true rfl) dX12_setting_1 ⟨Nat.zero_le _, Nat.zero_le _⟩ rfl) (fun σ1 hw => ?_)
  refine z_aload_n hG dX12_setting_4 rfl 0 rfl ?_
  obtain ⟨j2, ej2, hw⟩ := hw
  refine z_getr (kq := 20) hG f_X12_13 h0 rfl ej2 rfl (by decide) dX12_setting_5 (fun hj2 => ?_)
  refine z_iload_n hG dX12_setting_8 rfl 1 rfl ?_
  refine z_aload_n hG dX12_setting_9 rfl 0 rfl ?_
  refine z_iload_n hG dX12_setting_10 rfl 2 rfl ?_
  refine z_iload_n hG dX12_setting_11 rfl 3 rfl ?_
  refine z_calli hG (z_runV (As := [.int v2, .int v3]) (st := [.int v1, .ref (za Y j2)]) hG k_X12_296 (MX12_takes l h0 hw) ⟨(Nat.le_of_ble_eq_true rfl), (Nat.le_of_ble_eq_true rfl)⟩ h0 (T := TX12) (N := 23) rfl (by decide) rfl (Nat.le_of_ble_eq_true rfl) dX12_setting_12 ⟨Nat.zero_le _, Nat.zero_le _⟩ rfl) (fun r4 σ3 hw => ?_)
  obtain ⟨q5, hw⟩ := hw
  refine z_iast hG hj2 q5 dX12_setting_15 ?_
  refine z_topσ (fun σ6 eσ6 => ?_)
  have hw := hw σ6 eσ6
  exact z_vret hG rfl dX12_setting_16 hw
-- TypeWheelTelegraphModel.loseLine()V
def wX12_loseLine_18 (ln : Nat → Nat) (Q : zS → Prop) (t0 : Nat) (tw0 : Nat) (vw1 : Int32) (σ : zS) : Prop := wX12_must ln σ tw0 vw1 (fun σ1 => wX12_goesOver ln σ1 t0 (fun σ2 => wX12_takes ln σ2 t0 1 9999 (fun r4 σ3 => (((gi σ3 t0 21) = 0 → ∃ j5 : Nat, gr σ3 t0 2 = some j5 ∧ ∃ j6 : Nat, gr σ3 t0 2 = some j6 ∧ vp_in (20 : Int32) (ln j6) ∧ ∀ x8 : Int32, x8 = 39 + (gi σ3 j6 (20 : Int32).toNatClampNeg) → vp_in x8 (ln j5) ∧ ∀ σ10 : zS, σ10 = si σ3 j5 x8.toNatClampNeg r4 → ∃ j11 : Nat, gr σ10 t0 2 = some j11 ∧ vp_in (20 : Int32) (ln j11) ∧ ∀ x13 : Int32, x13 = (gi σ10 j11 (20 : Int32).toNatClampNeg) + 1 → vp_in (20 : Int32) (ln j11) ∧ ∀ σ15 : zS, σ15 = si σ10 j11 (20 : Int32).toNatClampNeg x13 → Q σ15) ∧ (¬ (gi σ3 t0 21) = 0 → Q σ3)))))
def wX12_loseLine (ln : Nat → Nat) (σ : zS) (t0 : Nat) (Q : zS → Prop) : Prop := ∃ j1 : Nat, gr σ t0 2 = some j1 ∧ vp_in (20 : Int32) (ln j1) ∧ ((20 ≤ (gi σ j1 (20 : Int32).toNatClampNeg) → wX12_loseLine_18 ln Q t0 t0 0 σ) ∧ (¬ 20 ≤ (gi σ j1 (20 : Int32).toNatClampNeg) → wX12_loseLine_18 ln Q t0 t0 1 σ))
abbrev rX12_loseLine : Room := { frames := 5, cells := 0, slots := 0, locals := 111 }
set_option maxRecDepth 100000 in
set_option maxHeartbeats 4000000 in
theorem BX12_loseLine_18 {l : Launch} {E : zE} {Y : zY} {p : Program} {e : Env} {s : State} {m : MethodId} {args : Array Value} {below : List Frame} {meth : Method} {c : Code} (hG : zG E p l s m args meth c cX12_loseLine 2 RX12 none (zA Y s.heap.size)) {Q : zS → Prop} : ∀ (t0 : Nat) (tw0 : Nat) (vw1 : Int32) (σ : zS), wX12_loseLine_18 (zln Y) Q t0 tw0 vw1 σ → zT Y 12 t0 → zT Y 12 tw0 → WW E Y σ p l e rX12_loseLine s m args below meth c (zA Y s.heap.size) 2 0 0 (MQ below (va_Qv Q (zB E Y s.heap.size) (zA Y s.heap.size)) args s 0 0 (zA Y s.heap.size)) [(0, .ref (za Y t0))] 18 [.int vw1, .ref (za Y tw0)] := by
  intro t0 tw0 vw1 σ hw h0 hw0
  unfold wX12_loseLine_18 at hw
  refine z_callv hG (z_runV (As := [.int vw1]) (st := []) hG k_X12_287 (MX12_must l hw0 hw) ⟨(Nat.le_of_ble_eq_true rfl), (Nat.le_of_ble_eq_true rfl)⟩ hw0 (T := TX12) (N := 23) rfl (by decide) rfl (Nat.le_of_ble_eq_true rfl) dX12_loseLine_18 ⟨Nat.zero_le _, Nat.zero_le _⟩ rfl) (fun σ1 hw => ?_)
  refine z_aload_n hG dX12_loseLine_21 rfl 0 rfl ?_
  refine z_callv hG (z_runV (As := []) (st := []) hG k_X12_290 (MX12_goesOver l h0 hw) ⟨(Nat.le_of_ble_eq_true rfl), (Nat.le_of_ble_eq_true rfl)⟩ h0 (T := TX12) (N := 23) rfl (by decide) rfl (Nat.le_of_ble_eq_true rfl) dX12_loseLine_22 ⟨Nat.zero_le _, Nat.zero_le _⟩ rfl) (fun σ2 hw => ?_)
  refine z_aload_n hG dX12_loseLine_25 rfl 0 rfl ?_
  refine z_iconst (v := 1) hG dX12_loseLine_26 (by decide) ?_
  refine z_sipush (v := 9999) hG dX12_loseLine_27 (by decide) ?_
  refine z_calli hG (z_runV (As := [.int 1, .int 9999]) (st := []) hG k_X12_296 (MX12_takes l h0 hw) ⟨(Nat.le_of_ble_eq_true rfl), (Nat.le_of_ble_eq_true rfl)⟩ h0 (T := TX12) (N := 23) rfl (by decide) rfl (Nat.le_of_ble_eq_true rfl) dX12_loseLine_30 ⟨Nat.zero_le _, Nat.zero_le _⟩ rfl) (fun r4 σ3 hw => ?_)
  refine z_istore_n (lv' := [(1, .int r4), (0, .ref (za Y t0))]) hG dX12_loseLine_33 rfl (by decide) rfl ?_
  refine z_aload_n hG dX12_loseLine_34 rfl 1 rfl ?_
  refine z_geti hG f_X12_280 h0 rfl dX12_loseLine_35 ?_
  refine z_if_eq (tgt := 42) hG dX12_loseLine_38 (by decide) (fun c16 => ?_) (fun c16 => ?_)
  · have hw := hw.1 c16
    refine z_aload_n hG dX12_loseLine_42 rfl 1 rfl ?_
    obtain ⟨j5, ej5, hw⟩ := hw
    refine z_getr (kq := 20) hG f_X12_13 h0 rfl ej5 rfl (by decide) dX12_loseLine_43 (fun hj5 => ?_)
    refine z_bipush (v := 39) hG dX12_loseLine_46 (by decide) ?_
    refine z_aload_n hG dX12_loseLine_48 rfl 1 rfl ?_
    obtain ⟨j6, ej6, hw⟩ := hw
    refine z_getr (kq := 20) hG f_X12_13 h0 rfl ej6 rfl (by decide) dX12_loseLine_49 (fun hj6 => ?_)
    refine z_bipush (v := 20) hG dX12_loseLine_52 (by decide) ?_
    obtain ⟨q7, hw⟩ := hw
    refine z_iald hG hj6 q7 dX12_loseLine_54 ?_
    refine z_iadd hG dX12_loseLine_55 ?_
    refine z_iload_n hG dX12_loseLine_56 rfl 0 rfl ?_
    obtain ⟨x8, ex8⟩ : ∃ y : Int32, y = 39 + (gi σ3 j6 (20 : Int32).toNatClampNeg) := ⟨_, rfl⟩
    refine zst (st' := [.int r4, .int x8, .ref (za Y j5)]) (by rw [ex8]) ?_
    have hw := hw x8 ex8
    obtain ⟨q9, hw⟩ := hw
    refine z_iast hG hj5 q9 dX12_loseLine_57 ?_
    refine z_topσ (fun σ10 eσ10 => ?_)
    have hw := hw σ10 eσ10
    refine z_aload_n hG dX12_loseLine_58 rfl 1 rfl ?_
    obtain ⟨j11, ej11, hw⟩ := hw
    refine z_getr (kq := 20) hG f_X12_13 h0 rfl ej11 rfl (by decide) dX12_loseLine_59 (fun hj11 => ?_)
    refine z_bipush (v := 20) hG dX12_loseLine_62 (by decide) ?_
    refine z_dup2 hG dX12_loseLine_64 rfl rfl ?_
    obtain ⟨q12, hw⟩ := hw
    refine z_iald hG hj11 q12 dX12_loseLine_65 ?_
    refine z_iconst (v := 1) hG dX12_loseLine_66 (by decide) ?_
    refine z_iadd hG dX12_loseLine_67 ?_
    refine z_topi (fun x13 ex13 => ?_)
    have hw := hw x13 ex13
    obtain ⟨q14, hw⟩ := hw
    refine z_iast hG hj11 q14 dX12_loseLine_68 ?_
    refine z_topσ (fun σ15 eσ15 => ?_)
    have hw := hw σ15 eσ15
    exact z_vret hG rfl dX12_loseLine_69 hw
  · have hw := hw.2 c16
    exact z_vret hG rfl dX12_loseLine_41 hw
set_option maxRecDepth 100000 in
set_option maxHeartbeats 4000000 in
theorem MX12_loseLine (l : Launch) {E : zE} {Y : zY} {σ : zS} {t0 : Nat} (h0 : zT Y 12 t0) {Q : zS → Prop} (hw : wX12_loseLine (zln Y) σ t0 Q) : ∀ sz, Met l yX12_loseLine (zw yX12_loseLine cX12_loseLine 2 none) rX12_loseLine (zPc E Y σ sz [.ref (za Y t0)]) (va_Qv Q (zB E Y sz) (zA Y sz)) 0 0 (zA Y sz) := by
  refine z_met (own := RX12) (Qc := fun sz => va_Qv Q (zB E Y sz) (zA Y sz)) (by decide +kernel) rfl (Nat.le_of_ble_eq_true rfl) ?_
  intro p e s m args below meth c hG hinit
  unfold wX12_loseLine at hw
  refine zlv (lv' := [(0, .ref (za Y t0))]) rfl ?_
  refine z_aload_n hG dX12_loseLine_0 rfl 0 rfl ?_
  refine z_aload_n hG dX12_loseLine_1 rfl 0 rfl ?_
  obtain ⟨j1, ej1, hw⟩ := hw
  refine z_getr (kq := 20) hG f_X12_13 h0 rfl ej1 rfl (by decide) dX12_loseLine_2 (fun hj1 => ?_)
  refine z_bipush (v := 20) hG dX12_loseLine_5 (by decide) ?_
  obtain ⟨q2, hw⟩ := hw
  refine z_iald hG hj1 q2 dX12_loseLine_7 ?_
  refine z_bipush (v := 20) hG dX12_loseLine_8 (by decide) ?_
  refine z_icmp_ge (tgt := 17) hG dX12_loseLine_10 (by decide) (fun c3 => ?_) (fun c3 => ?_)
  · have hw := hw.1 c3
    refine z_iconst (v := 0) hG dX12_loseLine_17 (by decide) ?_
    refine zpick [0] (lv' := [(0, .ref (za Y t0))]) rfl ?_
    exact BX12_loseLine_18 hG t0 t0 0 σ hw h0 h0
  · have hw := hw.2 c3
    refine z_iconst (v := 1) hG dX12_loseLine_13 (by decide) ?_
    refine z_goto (tgt := 18) hG dX12_loseLine_14 (by decide) ?_
    refine zpick [0] (lv' := [(0, .ref (za Y t0))]) rfl ?_
    exact BX12_loseLine_18 hG t0 t0 1 σ hw h0 h0
-- TypeWheelTelegraphModel.newLine(I)V
def wX12_newLine_20 (ln : Nat → Nat) (Q : zS → Prop) (t0 : Nat) (v1 : Int32) (tw0 : Nat) (vw1 : Int32) (σ : zS) : Prop := wX12_must ln σ tw0 vw1 (fun σ1 => (((gi σ1 t0 21) = 0 → ∃ j2 : Nat, gr σ1 t0 2 = some j2 ∧ ∃ j3 : Nat, gr σ1 t0 2 = some j3 ∧ ∀ x4 : Int32, x4 = 25 + v1 → vp_in x4 (ln j3) ∧ ∀ x6 : Int32, x6 = (219 + (12 * v1)) + (gi σ1 j3 x4.toNatClampNeg) → vp_in x6 (ln j2) ∧ ∀ σ8 : zS, σ8 = si σ1 j2 x6.toNatClampNeg 0 → ∃ j9 : Nat, gr σ8 t0 2 = some j9 ∧ ∀ x10 : Int32, x10 = 25 + v1 → vp_in x10 (ln j9) ∧ ∀ x12 : Int32, x12 = (gi σ8 j9 x10.toNatClampNeg) + 1 → vp_in x10 (ln j9) ∧ ∀ σ14 : zS, σ14 = si σ8 j9 x10.toNatClampNeg x12 → Q σ14) ∧ (¬ (gi σ1 t0 21) = 0 → Q σ1)))
def wX12_newLine (ln : Nat → Nat) (σ : zS) (t0 : Nat) (v1 : Int32) (Q : zS → Prop) : Prop := ∃ j1 : Nat, gr σ t0 2 = some j1 ∧ ∀ x2 : Int32, x2 = 25 + v1 → vp_in x2 (ln j1) ∧ ((12 ≤ (gi σ j1 x2.toNatClampNeg) → wX12_newLine_20 ln Q t0 v1 t0 0 σ) ∧ (¬ 12 ≤ (gi σ j1 x2.toNatClampNeg) → wX12_newLine_20 ln Q t0 v1 t0 1 σ))
abbrev rX12_newLine : Room := { frames := 1, cells := 0, slots := 0, locals := 21 }
set_option maxRecDepth 100000 in
set_option maxHeartbeats 4000000 in
theorem BX12_newLine_20 {l : Launch} {E : zE} {Y : zY} {p : Program} {e : Env} {s : State} {m : MethodId} {args : Array Value} {below : List Frame} {meth : Method} {c : Code} (hG : zG E p l s m args meth c cX12_newLine 2 RX12 none (zA Y s.heap.size)) {Q : zS → Prop} : ∀ (t0 : Nat) (v1 : Int32) (tw0 : Nat) (vw1 : Int32) (σ : zS), wX12_newLine_20 (zln Y) Q t0 v1 tw0 vw1 σ → zT Y 12 t0 → zT Y 12 tw0 → WW E Y σ p l e rX12_newLine s m args below meth c (zA Y s.heap.size) 2 0 0 (MQ below (va_Qv Q (zB E Y s.heap.size) (zA Y s.heap.size)) args s 0 0 (zA Y s.heap.size)) [(0, .ref (za Y t0)), (1, .int v1)] 20 [.int vw1, .ref (za Y tw0)] := by
  intro t0 v1 tw0 vw1 σ hw h0 hw0
  unfold wX12_newLine_20 at hw
  refine z_callv hG (z_runV (As := [.int vw1]) (st := []) hG k_X12_287 (MX12_must l hw0 hw) ⟨(Nat.le_of_ble_eq_true rfl), (Nat.le_of_ble_eq_true rfl)⟩ hw0 (T := TX12) (N := 23) rfl (by decide) rfl (Nat.le_of_ble_eq_true rfl) dX12_newLine_20 ⟨Nat.zero_le _, Nat.zero_le _⟩ rfl) (fun σ1 hw => ?_)
  refine z_aload_n hG dX12_newLine_23 rfl 0 rfl ?_
  refine z_geti hG f_X12_280 h0 rfl dX12_newLine_24 ?_
  refine z_if_eq (tgt := 31) hG dX12_newLine_27 (by decide) (fun c15 => ?_) (fun c15 => ?_)
  · have hw := hw.1 c15
    refine z_aload_n hG dX12_newLine_31 rfl 0 rfl ?_
    obtain ⟨j2, ej2, hw⟩ := hw
    refine z_getr (kq := 20) hG f_X12_13 h0 rfl ej2 rfl (by decide) dX12_newLine_32 (fun hj2 => ?_)
    refine z_sipush (v := 219) hG dX12_newLine_35 (by decide) ?_
    refine z_bipush (v := 12) hG dX12_newLine_38 (by decide) ?_
    refine z_iload_n hG dX12_newLine_40 rfl 1 rfl ?_
    refine z_imul hG dX12_newLine_41 ?_
    refine z_iadd hG dX12_newLine_42 ?_
    refine z_aload_n hG dX12_newLine_43 rfl 0 rfl ?_
    obtain ⟨j3, ej3, hw⟩ := hw
    refine z_getr (kq := 20) hG f_X12_13 h0 rfl ej3 rfl (by decide) dX12_newLine_44 (fun hj3 => ?_)
    refine z_bipush (v := 25) hG dX12_newLine_47 (by decide) ?_
    refine z_iload_n hG dX12_newLine_49 rfl 1 rfl ?_
    refine z_iadd hG dX12_newLine_50 ?_
    refine z_topi (fun x4 ex4 => ?_)
    have hw := hw x4 ex4
    obtain ⟨q5, hw⟩ := hw
    refine z_iald hG hj3 q5 dX12_newLine_51 ?_
    refine z_iadd hG dX12_newLine_52 ?_
    refine z_iconst (v := 0) hG dX12_newLine_53 (by decide) ?_
    obtain ⟨x6, ex6⟩ : ∃ y : Int32, y = (219 + (12 * v1)) + (gi σ1 j3 x4.toNatClampNeg) := ⟨_, rfl⟩
    refine zst (st' := [.int 0, .int x6, .ref (za Y j2)]) (by rw [ex6]) ?_
    have hw := hw x6 ex6
    obtain ⟨q7, hw⟩ := hw
    refine z_iast hG hj2 q7 dX12_newLine_54 ?_
    refine z_topσ (fun σ8 eσ8 => ?_)
    have hw := hw σ8 eσ8
    refine z_aload_n hG dX12_newLine_55 rfl 0 rfl ?_
    obtain ⟨j9, ej9, hw⟩ := hw
    refine z_getr (kq := 20) hG f_X12_13 h0 rfl ej9 rfl (by decide) dX12_newLine_56 (fun hj9 => ?_)
    refine z_bipush (v := 25) hG dX12_newLine_59 (by decide) ?_
    refine z_iload_n hG dX12_newLine_61 rfl 1 rfl ?_
    refine z_iadd hG dX12_newLine_62 ?_
    refine z_topi (fun x10 ex10 => ?_)
    have hw := hw x10 ex10
    refine z_dup2 hG dX12_newLine_63 rfl rfl ?_
    obtain ⟨q11, hw⟩ := hw
    refine z_iald hG hj9 q11 dX12_newLine_64 ?_
    refine z_iconst (v := 1) hG dX12_newLine_65 (by decide) ?_
    refine z_iadd hG dX12_newLine_66 ?_
    refine z_topi (fun x12 ex12 => ?_)
    have hw := hw x12 ex12
    obtain ⟨q13, hw⟩ := hw
    refine z_iast hG hj9 q13 dX12_newLine_67 ?_
    refine z_topσ (fun σ14 eσ14 => ?_)
    have hw := hw σ14 eσ14
    exact z_vret hG rfl dX12_newLine_68 hw
  · have hw := hw.2 c15
    exact z_vret hG rfl dX12_newLine_30 hw
set_option maxRecDepth 100000 in
set_option maxHeartbeats 4000000 in
theorem MX12_newLine (l : Launch) {E : zE} {Y : zY} {σ : zS} {t0 : Nat} {v1 : Int32} (h0 : zT Y 12 t0) {Q : zS → Prop} (hw : wX12_newLine (zln Y) σ t0 v1 Q) : ∀ sz, Met l yX12_newLine (zw yX12_newLine cX12_newLine 2 none) rX12_newLine (zPc E Y σ sz [.ref (za Y t0), .int v1]) (va_Qv Q (zB E Y sz) (zA Y sz)) 0 0 (zA Y sz) := by
  refine z_met (own := RX12) (Qc := fun sz => va_Qv Q (zB E Y sz) (zA Y sz)) (by decide +kernel) rfl (Nat.le_of_ble_eq_true rfl) ?_
  intro p e s m args below meth c hG hinit
  unfold wX12_newLine at hw
  refine zlv (lv' := [(0, .ref (za Y t0)), (1, .int v1)]) rfl ?_
  refine z_aload_n hG dX12_newLine_0 rfl 0 rfl ?_
  refine z_aload_n hG dX12_newLine_1 rfl 0 rfl ?_
  obtain ⟨j1, ej1, hw⟩ := hw
  refine z_getr (kq := 20) hG f_X12_13 h0 rfl ej1 rfl (by decide) dX12_newLine_2 (fun hj1 => ?_)
  refine z_bipush (v := 25) hG dX12_newLine_5 (by decide) ?_
  refine z_iload_n hG dX12_newLine_7 rfl 1 rfl ?_
  refine z_iadd hG dX12_newLine_8 ?_
  refine z_topi (fun x2 ex2 => ?_)
  have hw := hw x2 ex2
  obtain ⟨q3, hw⟩ := hw
  refine z_iald hG hj1 q3 dX12_newLine_9 ?_
  refine z_bipush (v := 12) hG dX12_newLine_10 (by decide) ?_
  refine z_icmp_ge (tgt := 19) hG dX12_newLine_12 (by decide) (fun c4 => ?_) (fun c4 => ?_)
  · have hw := hw.1 c4
    refine z_iconst (v := 0) hG dX12_newLine_19 (by decide) ?_
    refine zpick [0, 1] (lv' := [(0, .ref (za Y t0)), (1, .int v1)]) rfl ?_
    exact BX12_newLine_20 hG t0 v1 t0 0 σ hw h0 h0
  · have hw := hw.2 c4
    refine z_iconst (v := 1) hG dX12_newLine_15 (by decide) ?_
    refine z_goto (tgt := 20) hG dX12_newLine_16 (by decide) ?_
    refine zpick [0, 1] (lv' := [(0, .ref (za Y t0)), (1, .int v1)]) rfl ?_
    exact BX12_newLine_20 hG t0 v1 t0 1 σ hw h0 h0
-- TypeWheelTelegraphModel.item(I)V
def wX12_item_56 (ln : Nat → Nat) (Q : zS → Prop) (kb22 : Nat → Int32 → Int32 → zS → Prop) (t0 : Nat) (v2 : Int32) (v3 : Int32) (tw0 : Nat) (vw1 : Int32) (σ : zS) : Prop := wX12_must ln σ tw0 vw1 (fun σ1 => ∀ x2 : Int32, x2 = v3 + 1 → kb22 t0 v2 x2 σ1)
def wX12_item_104 (ln : Nat → Nat) (Q : zS → Prop) : Nat → Nat → Int32 → Int32 → zS → Prop
  | 0, _, _, _, _ => False
  | n + 1, t0, v2, v3, σ => (((gi σ t0 16) ≤ v3 → Q σ) ∧ (¬ (gi σ t0 16) ≤ v3 → (((gi σ t0 21) = 0 → ∃ j1 : Nat, gr σ t0 2 = some j1 ∧ ∃ j2 : Nat, gr σ t0 2 = some j2 ∧ ∀ x3 : Int32, x3 = 219 + v2 → vp_in x3 (ln j2) ∧ ∃ j5 : Nat, gr σ t0 12 = some j5 ∧ vp_in v3 (ln j5) ∧ ∀ x7 : Int32, x7 = gi σ j5 v3.toNatClampNeg → ∀ x8 : Int32, x8 = (243 + (30 * v2)) + (gi σ j2 x3.toNatClampNeg) → vp_in x8 (ln j1) ∧ ∀ σ10 : zS, σ10 = si σ j1 x8.toNatClampNeg x7 → ∃ j11 : Nat, gr σ10 t0 2 = some j11 ∧ ∀ x12 : Int32, x12 = 219 + v2 → vp_in x12 (ln j11) ∧ ∀ x14 : Int32, x14 = (gi σ10 j11 x12.toNatClampNeg) + 1 → vp_in x12 (ln j11) ∧ ∀ σ16 : zS, σ16 = si σ10 j11 x12.toNatClampNeg x14 → ∀ x17 : Int32, x17 = v3 + 1 → (wX12_item_104 ln Q n) t0 v2 x17 σ16) ∧ (¬ (gi σ t0 21) = 0 → Q σ))))
def wX12_item_96 (ln : Nat → Nat) (Q : zS → Prop) (t0 : Nat) (v2 : Int32) (tw0 : Nat) (vw1 : Int32) (σ : zS) : Prop := wX12_must ln σ tw0 vw1 (fun σ1 => ∀ x2 : Int32, x2 = gi σ1 t0 15 → ∃ n3 : Nat, wX12_item_104 ln Q n3 t0 v2 x2 σ1)
def wX12_item_22 (ln : Nat → Nat) (Q : zS → Prop) : Nat → Nat → Int32 → Int32 → zS → Prop
  | 0, _, _, _, _ => False
  | n + 1, t0, v2, v3, σ => (((gi σ t0 16) ≤ v3 → ∃ j1 : Nat, gr σ t0 2 = some j1 ∧ ∀ x2 : Int32, x2 = 219 + v2 → vp_in x2 (ln j1) ∧ ((30 < (((gi σ j1 x2.toNatClampNeg) + (gi σ t0 16)) - (gi σ t0 15)) → wX12_item_96 ln Q t0 v2 t0 0 σ) ∧ (¬ 30 < (((gi σ j1 x2.toNatClampNeg) + (gi σ t0 16)) - (gi σ t0 15)) → wX12_item_96 ln Q t0 v2 t0 1 σ))) ∧ (¬ (gi σ t0 16) ≤ v3 → ∃ j5 : Nat, gr σ t0 12 = some j5 ∧ vp_in v3 (ln j5) ∧ ∀ x7 : Int32, x7 = gi σ j5 v3.toNatClampNeg → wX12_indexOf ln σ x7 (fun r9 σ8 => ∃ j10 : Nat, gr σ8 t0 2 = some j10 ∧ vp_in (0 : Int32) (ln j10) ∧ ((((gi σ8 j10 (0 : Int32).toNatClampNeg) - 2) ≤ r9 → wX12_item_56 ln Q (wX12_item_22 ln Q n) t0 v2 v3 t0 0 σ8) ∧ (¬ ((gi σ8 j10 (0 : Int32).toNatClampNeg) - 2) ≤ r9 → wX12_item_56 ln Q (wX12_item_22 ln Q n) t0 v2 v3 t0 1 σ8)))))
def wX12_item (ln : Nat → Nat) (σ : zS) (t0 : Nat) (v1 : Int32) (Q : zS → Prop) : Prop := ∃ j1 : Nat, gr σ t0 2 = some j1 ∧ ∀ x2 : Int32, x2 = 25 + v1 → vp_in x2 (ln j1) ∧ ∀ x4 : Int32, x4 = ((12 * v1) + (gi σ j1 x2.toNatClampNeg)) - 1 → ∀ x5 : Int32, x5 = gi σ t0 15 → ∃ n6 : Nat, wX12_item_22 ln Q n6 t0 x4 x5 σ
abbrev rX12_item : Room := { frames := 3, cells := 0, slots := 0, locals := 65 }
set_option maxRecDepth 100000 in
set_option maxHeartbeats 4000000 in
theorem BX12_item_56 {l : Launch} {E : zE} {Y : zY} {p : Program} {e : Env} {s : State} {m : MethodId} {args : Array Value} {below : List Frame} {meth : Method} {c : Code} (hG : zG E p l s m args meth c cX12_item 4 RX12 none (zA Y s.heap.size)) {Q : zS → Prop} {kb22 : Nat → Int32 → Int32 → zS → Prop} (hkb22 : ∀ (t0 : Nat) (v2 : Int32) (v3 : Int32) (σ : zS), kb22 t0 v2 v3 σ → zT Y 12 t0 → WW E Y σ p l e rX12_item s m args below meth c (zA Y s.heap.size) 4 0 0 (MQ below (va_Qv Q (zB E Y s.heap.size) (zA Y s.heap.size)) args s 0 0 (zA Y s.heap.size)) [(0, .ref (za Y t0)), (2, .int v2), (3, .int v3)] 22 []) : ∀ (t0 : Nat) (v2 : Int32) (v3 : Int32) (tw0 : Nat) (vw1 : Int32) (σ : zS), wX12_item_56 (zln Y) Q kb22 t0 v2 v3 tw0 vw1 σ → zT Y 12 t0 → zT Y 12 tw0 → WW E Y σ p l e rX12_item s m args below meth c (zA Y s.heap.size) 4 0 0 (MQ below (va_Qv Q (zB E Y s.heap.size) (zA Y s.heap.size)) args s 0 0 (zA Y s.heap.size)) [(0, .ref (za Y t0)), (2, .int v2), (3, .int v3)] 56 [.int vw1, .ref (za Y tw0)] := by
  intro t0 v2 v3 tw0 vw1 σ hw h0 hw0
  unfold wX12_item_56 at hw
  refine z_callv hG (z_runV (As := [.int vw1]) (st := []) hG k_X12_287 (MX12_must l hw0 hw) ⟨(Nat.le_of_ble_eq_true rfl), (Nat.le_of_ble_eq_true rfl)⟩ hw0 (T := TX12) (N := 23) rfl (by decide) rfl (Nat.le_of_ble_eq_true rfl) dX12_item_56 ⟨Nat.zero_le _, Nat.zero_le _⟩ rfl) (fun σ1 hw => ?_)
  obtain ⟨x2, ex2⟩ : ∃ y : Int32, y = v3 + 1 := ⟨_, rfl⟩
  have hw := hw x2 ex2
  refine z_iinc (v := x2) (lv' := [(3, .int x2), (0, .ref (za Y t0)), (2, .int v2)]) hG dX12_item_59 2 rfl (by rw [ex2]; rfl) (by decide) rfl ?_
  refine z_goto (tgt := 22) hG dX12_item_62 (by decide) ?_
  refine zpick [1, 2, 0] (lv' := [(0, .ref (za Y t0)), (2, .int v2), (3, .int x2)]) rfl ?_
  exact hkb22 t0 v2 x2 σ1 hw h0
set_option maxRecDepth 100000 in
set_option maxHeartbeats 4000000 in
theorem BX12_item_104 {l : Launch} {E : zE} {Y : zY} {p : Program} {e : Env} {s : State} {m : MethodId} {args : Array Value} {below : List Frame} {meth : Method} {c : Code} (hG : zG E p l s m args meth c cX12_item 4 RX12 none (zA Y s.heap.size)) {Q : zS → Prop} : ∀ (n : Nat) (t0 : Nat) (v2 : Int32) (v3 : Int32) (σ : zS), wX12_item_104 (zln Y) Q n t0 v2 v3 σ → zT Y 12 t0 → WW E Y σ p l e rX12_item s m args below meth c (zA Y s.heap.size) 4 0 0 (MQ below (va_Qv Q (zB E Y s.heap.size) (zA Y s.heap.size)) args s 0 0 (zA Y s.heap.size)) [(0, .ref (za Y t0)), (2, .int v2), (3, .int v3)] 104 [] := by
  intro n
  induction n with
  | zero => intro t0 v2 v3 σ hw
            exact hw.elim
  | succ n ih =>
    intro t0 v2 v3 σ hw h0
    rw [wX12_item_104] at hw
    refine z_iload_n hG dX12_item_104 rfl 2 rfl ?_
    refine z_aload_n hG dX12_item_105 rfl 0 rfl ?_
    refine z_geti hG f_X12_256 h0 rfl dX12_item_106 ?_
    refine z_icmp_ge (tgt := 169) hG dX12_item_109 (by decide) (fun c19 => ?_) (fun c19 => ?_)
    · have hw := hw.1 c19
      exact z_vret hG rfl dX12_item_169 hw
    · have hw := hw.2 c19
      refine z_aload_n hG dX12_item_112 rfl 0 rfl ?_
      refine z_geti hG f_X12_280 h0 rfl dX12_item_113 ?_
      refine z_if_ne (tgt := 169) hG dX12_item_116 (by decide) (fun c18 => ?_) (fun c18 => ?_)
      · have hw := hw.2 c18
        exact z_vret hG rfl dX12_item_169 hw
      · have hw := hw.1 c18
        refine z_aload_n hG dX12_item_119 rfl 0 rfl ?_
        obtain ⟨j1, ej1, hw⟩ := hw
        refine z_getr (kq := 20) hG f_X12_13 h0 rfl ej1 rfl (by decide) dX12_item_120 (fun hj1 => ?_)
        refine z_sipush (v := 243) hG dX12_item_123 (by decide) ?_
        refine z_bipush (v := 30) hG dX12_item_126 (by decide) ?_
        refine z_iload_n hG dX12_item_128 rfl 1 rfl ?_
        refine z_imul hG dX12_item_129 ?_
        refine z_iadd hG dX12_item_130 ?_
        refine z_aload_n hG dX12_item_131 rfl 0 rfl ?_
        obtain ⟨j2, ej2, hw⟩ := hw
        refine z_getr (kq := 20) hG f_X12_13 h0 rfl ej2 rfl (by decide) dX12_item_132 (fun hj2 => ?_)
        refine z_sipush (v := 219) hG dX12_item_135 (by decide) ?_
        refine z_iload_n hG dX12_item_138 rfl 1 rfl ?_
        refine z_iadd hG dX12_item_139 ?_
        refine z_topi (fun x3 ex3 => ?_)
        have hw := hw x3 ex3
        obtain ⟨q4, hw⟩ := hw
        refine z_iald hG hj2 q4 dX12_item_140 ?_
        refine z_iadd hG dX12_item_141 ?_
        refine z_aload_n hG dX12_item_142 rfl 0 rfl ?_
        obtain ⟨j5, ej5, hw⟩ := hw
        refine z_getr (kq := 21) hG f_X12_35 h0 rfl ej5 rfl (by decide) dX12_item_143 (fun hj5 => ?_)
        refine z_iload_n hG dX12_item_146 rfl 2 rfl ?_
        obtain ⟨q6, hw⟩ := hw
        refine z_bald hG hj5 q6 dX12_item_147 ?_
        refine z_topi (fun x7 ex7 => ?_)
        have hw := hw x7 ex7
        obtain ⟨x8, ex8⟩ : ∃ y : Int32, y = (243 + (30 * v2)) + (gi σ j2 x3.toNatClampNeg) := ⟨_, rfl⟩
        refine zst (st' := [.int x7, .int x8, .ref (za Y j1)]) (by rw [ex8]) ?_
        have hw := hw x8 ex8
        obtain ⟨q9, hw⟩ := hw
        refine z_iast hG hj1 q9 dX12_item_148 ?_
        refine z_topσ (fun σ10 eσ10 => ?_)
        have hw := hw σ10 eσ10
        refine z_aload_n hG dX12_item_149 rfl 0 rfl ?_
        obtain ⟨j11, ej11, hw⟩ := hw
        refine z_getr (kq := 20) hG f_X12_13 h0 rfl ej11 rfl (by decide) dX12_item_150 (fun hj11 => ?_)
        refine z_sipush (v := 219) hG dX12_item_153 (by decide) ?_
        refine z_iload_n hG dX12_item_156 rfl 1 rfl ?_
        refine z_iadd hG dX12_item_157 ?_
        refine z_topi (fun x12 ex12 => ?_)
        have hw := hw x12 ex12
        refine z_dup2 hG dX12_item_158 rfl rfl ?_
        obtain ⟨q13, hw⟩ := hw
        refine z_iald hG hj11 q13 dX12_item_159 ?_
        refine z_iconst (v := 1) hG dX12_item_160 (by decide) ?_
        refine z_iadd hG dX12_item_161 ?_
        refine z_topi (fun x14 ex14 => ?_)
        have hw := hw x14 ex14
        obtain ⟨q15, hw⟩ := hw
        refine z_iast hG hj11 q15 dX12_item_162 ?_
        refine z_topσ (fun σ16 eσ16 => ?_)
        have hw := hw σ16 eσ16
        obtain ⟨x17, ex17⟩ : ∃ y : Int32, y = v3 + 1 := ⟨_, rfl⟩
        have hw := hw x17 ex17
        refine z_iinc (v := x17) (lv' := [(3, .int x17), (0, .ref (za Y t0)), (2, .int v2)]) hG dX12_item_163 2 rfl (by rw [ex17]; rfl) (by decide) rfl ?_
        refine z_goto (tgt := 104) hG dX12_item_166 (by decide) ?_
        refine zpick [1, 2, 0] (lv' := [(0, .ref (za Y t0)), (2, .int v2), (3, .int x17)]) rfl ?_
        exact ih t0 v2 x17 σ16 hw h0
set_option maxRecDepth 100000 in
set_option maxHeartbeats 4000000 in
theorem BX12_item_96 {l : Launch} {E : zE} {Y : zY} {p : Program} {e : Env} {s : State} {m : MethodId} {args : Array Value} {below : List Frame} {meth : Method} {c : Code} (hG : zG E p l s m args meth c cX12_item 4 RX12 none (zA Y s.heap.size)) {Q : zS → Prop} : ∀ (t0 : Nat) (v2 : Int32) (tw0 : Nat) (vw1 : Int32) (σ : zS), wX12_item_96 (zln Y) Q t0 v2 tw0 vw1 σ → zT Y 12 t0 → zT Y 12 tw0 → WW E Y σ p l e rX12_item s m args below meth c (zA Y s.heap.size) 4 0 0 (MQ below (va_Qv Q (zB E Y s.heap.size) (zA Y s.heap.size)) args s 0 0 (zA Y s.heap.size)) [(0, .ref (za Y t0)), (2, .int v2)] 96 [.int vw1, .ref (za Y tw0)] := by
  intro t0 v2 tw0 vw1 σ hw h0 hw0
  unfold wX12_item_96 at hw
  refine z_callv hG (z_runV (As := [.int vw1]) (st := []) hG k_X12_287 (MX12_must l hw0 hw) ⟨(Nat.le_of_ble_eq_true rfl), (Nat.le_of_ble_eq_true rfl)⟩ hw0 (T := TX12) (N := 23) rfl (by decide) rfl (Nat.le_of_ble_eq_true rfl) dX12_item_96 ⟨Nat.zero_le _, Nat.zero_le _⟩ rfl) (fun σ1 hw => ?_)
  refine z_aload_n hG dX12_item_99 rfl 0 rfl ?_
  refine z_geti hG f_X12_259 h0 rfl dX12_item_100 ?_
  refine z_topi (fun x2 ex2 => ?_)
  have hw := hw x2 ex2
  refine z_istore_n (lv' := [(3, .int x2), (0, .ref (za Y t0)), (2, .int v2)]) hG dX12_item_103 rfl (by decide) rfl ?_
  obtain ⟨n3, hw⟩ := hw
  refine zpick [1, 2, 0] (lv' := [(0, .ref (za Y t0)), (2, .int v2), (3, .int x2)]) rfl ?_
  exact BX12_item_104 hG n3 t0 v2 x2 σ1 hw h0
set_option maxRecDepth 100000 in
set_option maxHeartbeats 4000000 in
theorem BX12_item_22 {l : Launch} {E : zE} {Y : zY} {p : Program} {e : Env} {s : State} {m : MethodId} {args : Array Value} {below : List Frame} {meth : Method} {c : Code} (hG : zG E p l s m args meth c cX12_item 4 RX12 none (zA Y s.heap.size)) {Q : zS → Prop} : ∀ (n : Nat) (t0 : Nat) (v2 : Int32) (v3 : Int32) (σ : zS), wX12_item_22 (zln Y) Q n t0 v2 v3 σ → zT Y 12 t0 → WW E Y σ p l e rX12_item s m args below meth c (zA Y s.heap.size) 4 0 0 (MQ below (va_Qv Q (zB E Y s.heap.size) (zA Y s.heap.size)) args s 0 0 (zA Y s.heap.size)) [(0, .ref (za Y t0)), (2, .int v2), (3, .int v3)] 22 [] := by
  intro n
  induction n with
  | zero => intro t0 v2 v3 σ hw
            exact hw.elim
  | succ n ih =>
    intro t0 v2 v3 σ hw h0
    rw [wX12_item_22] at hw
    refine z_iload_n hG dX12_item_22 rfl 2 rfl ?_
    refine z_aload_n hG dX12_item_23 rfl 0 rfl ?_
    refine z_geti hG f_X12_256 h0 rfl dX12_item_24 ?_
    refine z_icmp_ge (tgt := 65) hG dX12_item_27 (by decide) (fun c13 => ?_) (fun c13 => ?_)
    · have hw := hw.1 c13
      refine z_aload_n hG dX12_item_65 rfl 0 rfl ?_
      refine z_aload_n hG dX12_item_66 rfl 0 rfl ?_
      obtain ⟨j1, ej1, hw⟩ := hw
      refine z_getr (kq := 20) hG f_X12_13 h0 rfl ej1 rfl (by decide) dX12_item_67 (fun hj1 => ?_)
      refine z_sipush (v := 219) hG dX12_item_70 (by decide) ?_
      refine z_iload_n hG dX12_item_73 rfl 1 rfl ?_
      refine z_iadd hG dX12_item_74 ?_
      refine z_topi (fun x2 ex2 => ?_)
      have hw := hw x2 ex2
      obtain ⟨q3, hw⟩ := hw
      refine z_iald hG hj1 q3 dX12_item_75 ?_
      refine z_aload_n hG dX12_item_76 rfl 0 rfl ?_
      refine z_geti hG f_X12_256 h0 rfl dX12_item_77 ?_
      refine z_iadd hG dX12_item_80 ?_
      refine z_aload_n hG dX12_item_81 rfl 0 rfl ?_
      refine z_geti hG f_X12_259 h0 rfl dX12_item_82 ?_
      refine z_isub hG dX12_item_85 ?_
      refine z_bipush (v := 30) hG dX12_item_86 (by decide) ?_
      refine z_icmp_gt (tgt := 95) hG dX12_item_88 (by decide) (fun c4 => ?_) (fun c4 => ?_)
      · have hw := hw.1 c4
        refine z_iconst (v := 0) hG dX12_item_95 (by decide) ?_
        refine zpick [0, 1] (lv' := [(0, .ref (za Y t0)), (2, .int v2)]) rfl ?_
        exact BX12_item_96 hG t0 v2 t0 0 σ hw h0 h0
      · have hw := hw.2 c4
        refine z_iconst (v := 1) hG dX12_item_91 (by decide) ?_
        refine z_goto (tgt := 96) hG dX12_item_92 (by decide) ?_
        refine zpick [0, 1] (lv' := [(0, .ref (za Y t0)), (2, .int v2)]) rfl ?_
        exact BX12_item_96 hG t0 v2 t0 1 σ hw h0 h0
    · have hw := hw.2 c13
      refine z_aload_n hG dX12_item_30 rfl 0 rfl ?_
      refine z_aload_n hG dX12_item_31 rfl 0 rfl ?_
      obtain ⟨j5, ej5, hw⟩ := hw
      refine z_getr (kq := 21) hG f_X12_35 h0 rfl ej5 rfl (by decide) dX12_item_32 (fun hj5 => ?_)
      refine z_iload_n hG dX12_item_35 rfl 2 rfl ?_
      obtain ⟨q6, hw⟩ := hw
      refine z_bald hG hj5 q6 dX12_item_36 ?_
      refine z_topi (fun x7 ex7 => ?_)
      have hw := hw x7 ex7
      refine z_calli hG (z_runS (As := [.int x7]) (st := [.ref (za Y t0)]) hG k_X12_84 (MX12_indexOf l hw) ⟨(Nat.le_of_ble_eq_true rfl), (Nat.le_of_ble_eq_true rfl)⟩ rfl (Nat.le_of_ble_eq_true rfl) dX12_item_37 ⟨Nat.zero_le _, Nat.zero_le _⟩ rfl) (fun r9 σ8 hw => ?_)
      refine z_aload_n hG dX12_item_40 rfl 0 rfl ?_
      obtain ⟨j10, ej10, hw⟩ := hw
      refine z_getr (kq := 20) hG f_X12_13 h0 rfl ej10 rfl (by decide) dX12_item_41 (fun hj10 => ?_)
      refine z_iconst (v := 0) hG dX12_item_44 (by decide) ?_
      obtain ⟨q11, hw⟩ := hw
      refine z_iald hG hj10 q11 dX12_item_45 ?_
      refine z_iconst (v := 2) hG dX12_item_46 (by decide) ?_
      refine z_isub hG dX12_item_47 ?_
      refine z_icmp_ge (tgt := 55) hG dX12_item_48 (by decide) (fun c12 => ?_) (fun c12 => ?_)
      · have hw := hw.1 c12
        refine z_iconst (v := 0) hG dX12_item_55 (by decide) ?_
        refine zpick [0, 1, 2] (lv' := [(0, .ref (za Y t0)), (2, .int v2), (3, .int v3)]) rfl ?_
        exact BX12_item_56 hG ih t0 v2 v3 t0 0 σ8 hw h0 h0
      · have hw := hw.2 c12
        refine z_iconst (v := 1) hG dX12_item_51 (by decide) ?_
        refine z_goto (tgt := 56) hG dX12_item_52 (by decide) ?_
        refine zpick [0, 1, 2] (lv' := [(0, .ref (za Y t0)), (2, .int v2), (3, .int v3)]) rfl ?_
        exact BX12_item_56 hG ih t0 v2 v3 t0 1 σ8 hw h0 h0
set_option maxRecDepth 100000 in
set_option maxHeartbeats 4000000 in
theorem MX12_item (l : Launch) {E : zE} {Y : zY} {σ : zS} {t0 : Nat} {v1 : Int32} (h0 : zT Y 12 t0) {Q : zS → Prop} (hw : wX12_item (zln Y) σ t0 v1 Q) : ∀ sz, Met l yX12_item (zw yX12_item cX12_item 4 none) rX12_item (zPc E Y σ sz [.ref (za Y t0), .int v1]) (va_Qv Q (zB E Y sz) (zA Y sz)) 0 0 (zA Y sz) := by
  refine z_met (own := RX12) (Qc := fun sz => va_Qv Q (zB E Y sz) (zA Y sz)) (by decide +kernel) rfl (Nat.le_of_ble_eq_true rfl) ?_
  intro p e s m args below meth c hG hinit
  unfold wX12_item at hw
  refine zlv (lv' := [(0, .ref (za Y t0)), (1, .int v1)]) rfl ?_
  refine z_bipush (v := 12) hG dX12_item_0 (by decide) ?_
  refine z_iload_n hG dX12_item_2 rfl 1 rfl ?_
  refine z_imul hG dX12_item_3 ?_
  refine z_aload_n hG dX12_item_4 rfl 0 rfl ?_
  obtain ⟨j1, ej1, hw⟩ := hw
  refine z_getr (kq := 20) hG f_X12_13 h0 rfl ej1 rfl (by decide) dX12_item_5 (fun hj1 => ?_)
  refine z_bipush (v := 25) hG dX12_item_8 (by decide) ?_
  refine z_iload_n hG dX12_item_10 rfl 1 rfl ?_
  refine z_iadd hG dX12_item_11 ?_
  refine z_topi (fun x2 ex2 => ?_)
  have hw := hw x2 ex2
  obtain ⟨q3, hw⟩ := hw
  refine z_iald hG hj1 q3 dX12_item_12 ?_
  refine z_iadd hG dX12_item_13 ?_
  refine z_iconst (v := 1) hG dX12_item_14 (by decide) ?_
  refine z_isub hG dX12_item_15 ?_
  refine z_topi (fun x4 ex4 => ?_)
  have hw := hw x4 ex4
  refine z_istore_n (lv' := [(2, .int x4), (0, .ref (za Y t0)), (1, .int v1)]) hG dX12_item_16 rfl (by decide) rfl ?_
  refine z_aload_n hG dX12_item_17 rfl 1 rfl ?_
  refine z_geti hG f_X12_259 h0 rfl dX12_item_18 ?_
  refine z_topi (fun x5 ex5 => ?_)
  have hw := hw x5 ex5
  refine z_istore_n (lv' := [(3, .int x5), (2, .int x4), (0, .ref (za Y t0)), (1, .int v1)]) hG dX12_item_21 rfl (by decide) rfl ?_
  obtain ⟨n6, hw⟩ := hw
  refine zpick [2, 1, 0] (lv' := [(0, .ref (za Y t0)), (2, .int x4), (3, .int x5)]) rfl ?_
  exact BX12_item_22 hG n6 t0 x4 x5 σ hw h0
-- TypeWheelTelegraphModel.isItem()Z
def wX12_isItem (ln : Nat → Nat) (σ : zS) (t0 : Nat) (Q : Int32 → zS → Prop) : Prop := (((gi σ t0 21) = 0 → (((gi σ t0 17) = 1 → Q 1 σ) ∧ (¬ (gi σ t0 17) = 1 → (((gi σ t0 17) = 2 → Q 1 σ) ∧ (¬ (gi σ t0 17) = 2 → (((gi σ t0 17) = 4 → Q 1 σ) ∧ (¬ (gi σ t0 17) = 4 → Q 0 σ))))))) ∧ (¬ (gi σ t0 21) = 0 → Q 0 σ))
abbrev rX12_isItem : Room := { frames := 0, cells := 0, slots := 0, locals := 0 }
set_option maxRecDepth 100000 in
set_option maxHeartbeats 4000000 in
theorem MX12_isItem (l : Launch) {E : zE} {Y : zY} {σ : zS} {t0 : Nat} (h0 : zT Y 12 t0) {Q : Int32 → zS → Prop} (hw : wX12_isItem (zln Y) σ t0 Q) : ∀ sz, Met l yX12_isItem (zw yX12_isItem cX12_isItem 1 (some .boolean)) rX12_isItem (zPc E Y σ sz [.ref (za Y t0)]) (va_Qi Q (zB E Y sz) (zA Y sz)) 0 0 (zA Y sz) := by
  refine z_met (own := RX12) (Qc := fun sz => va_Qi Q (zB E Y sz) (zA Y sz)) (by decide +kernel) rfl (Nat.le_of_ble_eq_true rfl) ?_
  intro p e s m args below meth c hG hinit
  unfold wX12_isItem at hw
  refine zlv (lv' := [(0, .ref (za Y t0))]) rfl ?_
  refine z_aload_n hG dX12_isItem_0 rfl 0 rfl ?_
  refine z_geti hG f_X12_280 h0 rfl dX12_isItem_1 ?_
  refine z_if_ne (tgt := 35) hG dX12_isItem_4 (by decide) (fun c4 => ?_) (fun c4 => ?_)
  · have hw := hw.2 c4
    refine z_iconst (v := 0) hG dX12_isItem_35 (by decide) ?_
    exact z_iret hG rfl (by decide +kernel) dX12_isItem_36 hw
  · have hw := hw.1 c4
    refine z_aload_n hG dX12_isItem_7 rfl 0 rfl ?_
    refine z_geti hG f_X12_266 h0 rfl dX12_isItem_8 ?_
    refine z_iconst (v := 1) hG dX12_isItem_11 (by decide) ?_
    refine z_icmp_eq (tgt := 31) hG dX12_isItem_12 (by decide) (fun c3 => ?_) (fun c3 => ?_)
    · have hw := hw.1 c3
      refine z_iconst (v := 1) hG dX12_isItem_31 (by decide) ?_
      refine z_goto (tgt := 36) hG dX12_isItem_32 (by decide) ?_
      exact z_iret hG rfl (by decide +kernel) dX12_isItem_36 hw
    · have hw := hw.2 c3
      refine z_aload_n hG dX12_isItem_15 rfl 0 rfl ?_
      refine z_geti hG f_X12_266 h0 rfl dX12_isItem_16 ?_
      refine z_iconst (v := 2) hG dX12_isItem_19 (by decide) ?_
      refine z_icmp_eq (tgt := 31) hG dX12_isItem_20 (by decide) (fun c2 => ?_) (fun c2 => ?_)
      · have hw := hw.1 c2
        refine z_iconst (v := 1) hG dX12_isItem_31 (by decide) ?_
        refine z_goto (tgt := 36) hG dX12_isItem_32 (by decide) ?_
        exact z_iret hG rfl (by decide +kernel) dX12_isItem_36 hw
      · have hw := hw.2 c2
        refine z_aload_n hG dX12_isItem_23 rfl 0 rfl ?_
        refine z_geti hG f_X12_266 h0 rfl dX12_isItem_24 ?_
        refine z_iconst (v := 4) hG dX12_isItem_27 (by decide) ?_
        refine z_icmp_ne (tgt := 35) hG dX12_isItem_28 (by decide) (fun c1 => ?_) (fun c1 => ?_)
        · have hw := hw.2 c1
          refine z_iconst (v := 0) hG dX12_isItem_35 (by decide) ?_
          exact z_iret hG rfl (by decide +kernel) dX12_isItem_36 hw
        · have hw := hw.1 c1
          refine z_iconst (v := 1) hG dX12_isItem_31 (by decide) ?_
          refine z_goto (tgt := 36) hG dX12_isItem_32 (by decide) ?_
          exact z_iret hG rfl (by decide +kernel) dX12_isItem_36 hw
-- TypeWheelTelegraphModel.messageLine()V
def wX12_messageLine_95 (ln : Nat → Nat) (Q : zS → Prop) (kb67 : Nat → Int32 → zS → Prop) (t0 : Nat) (v1 : Int32) (σ : zS) : Prop := wX12_goesOver ln σ t0 (fun σ1 => kb67 t0 v1 σ1)
def wX12_messageLine_67 (ln : Nat → Nat) (Q : zS → Prop) : Nat → Nat → Int32 → zS → Prop
  | 0, _, _, _ => False
  | n + 1, t0, v1, σ => wX12_isItem ln σ t0 (fun r2 σ1 => ((r2 = 0 → Q σ1) ∧ (¬ r2 = 0 → (((gi σ1 t0 17) = 4 → wX12_newLine ln σ1 t0 v1 (fun σ4 => wX12_messageLine_95 ln Q (wX12_messageLine_67 ln Q n) t0 v1 σ4)) ∧ (¬ (gi σ1 t0 17) = 4 → wX12_item ln σ1 t0 v1 (fun σ3 => wX12_messageLine_95 ln Q (wX12_messageLine_67 ln Q n) t0 v1 σ3))))))
def wX12_messageLine_49 (ln : Nat → Nat) (Q : zS → Prop) (t0 : Nat) (vw0 : Int32) (σ : zS) : Prop := wX12_newLine ln σ t0 vw0 (fun σ1 => wX12_goesOver ln σ1 t0 (fun σ2 => wX12_isItem ln σ2 t0 (fun r4 σ3 => wX12_must ln σ3 t0 r4 (fun σ5 => ∃ n6 : Nat, wX12_messageLine_67 ln Q n6 t0 vw0 σ5))))
def wX12_messageLine_31 (ln : Nat → Nat) (Q : zS → Prop) (t0 : Nat) (tw0 : Nat) (vw1 : Int32) (σ : zS) : Prop := wX12_must ln σ tw0 vw1 (fun σ1 => (((gi σ1 t0 21) = 0 → wX12_messageLine_49 ln Q t0 (gi σ1 t0 18) σ1) ∧ (¬ (gi σ1 t0 21) = 0 → wX12_messageLine_49 ln Q t0 0 σ1)))
def wX12_messageLine_30 (ln : Nat → Nat) (Q : zS → Prop) (t0 : Nat) (tw0 : Nat) (σ : zS) : Prop := wX12_messageLine_31 ln Q t0 tw0 0 σ
def wX12_messageLine (ln : Nat → Nat) (σ : zS) (t0 : Nat) (Q : zS → Prop) : Prop := wX12_goesOver ln σ t0 (fun σ1 => (((gi σ1 t0 17) = 2 → ∀ x2 : Int64, x2 = (gi σ1 t0 18).toInt64 → wX12_isIn ln σ1 x2 0 1 (fun r4 σ3 => ((r4 = 0 → wX12_messageLine_30 ln Q t0 t0 σ3) ∧ (¬ r4 = 0 → wX12_messageLine_31 ln Q t0 t0 1 σ3)))) ∧ (¬ (gi σ1 t0 17) = 2 → wX12_messageLine_30 ln Q t0 t0 σ1)))
abbrev rX12_messageLine : Room := { frames := 4, cells := 0, slots := 0, locals := 88 }
set_option maxRecDepth 100000 in
set_option maxHeartbeats 4000000 in
theorem BX12_messageLine_95 {l : Launch} {E : zE} {Y : zY} {p : Program} {e : Env} {s : State} {m : MethodId} {args : Array Value} {below : List Frame} {meth : Method} {c : Code} (hG : zG E p l s m args meth c cX12_messageLine 2 RX12 none (zA Y s.heap.size)) {Q : zS → Prop} {kb67 : Nat → Int32 → zS → Prop} (hkb67 : ∀ (t0 : Nat) (v1 : Int32) (σ : zS), kb67 t0 v1 σ → zT Y 12 t0 → WW E Y σ p l e rX12_messageLine s m args below meth c (zA Y s.heap.size) 2 0 0 (MQ below (va_Qv Q (zB E Y s.heap.size) (zA Y s.heap.size)) args s 0 0 (zA Y s.heap.size)) [(0, .ref (za Y t0)), (1, .int v1)] 67 []) : ∀ (t0 : Nat) (v1 : Int32) (σ : zS), wX12_messageLine_95 (zln Y) Q kb67 t0 v1 σ → zT Y 12 t0 → WW E Y σ p l e rX12_messageLine s m args below meth c (zA Y s.heap.size) 2 0 0 (MQ below (va_Qv Q (zB E Y s.heap.size) (zA Y s.heap.size)) args s 0 0 (zA Y s.heap.size)) [(0, .ref (za Y t0)), (1, .int v1)] 95 [] := by
  intro t0 v1 σ hw h0
  unfold wX12_messageLine_95 at hw
  refine z_aload_n hG dX12_messageLine_95 rfl 0 rfl ?_
  refine z_callv hG (z_runV (As := []) (st := []) hG k_X12_290 (MX12_goesOver l h0 hw) ⟨(Nat.le_of_ble_eq_true rfl), (Nat.le_of_ble_eq_true rfl)⟩ h0 (T := TX12) (N := 23) rfl (by decide) rfl (Nat.le_of_ble_eq_true rfl) dX12_messageLine_96 ⟨Nat.zero_le _, Nat.zero_le _⟩ rfl) (fun σ1 hw => ?_)
  refine z_goto (tgt := 67) hG dX12_messageLine_99 (by decide) ?_
  refine zpick [0, 1] (lv' := [(0, .ref (za Y t0)), (1, .int v1)]) rfl ?_
  exact hkb67 t0 v1 σ1 hw h0
set_option maxRecDepth 100000 in
set_option maxHeartbeats 4000000 in
theorem BX12_messageLine_67 {l : Launch} {E : zE} {Y : zY} {p : Program} {e : Env} {s : State} {m : MethodId} {args : Array Value} {below : List Frame} {meth : Method} {c : Code} (hG : zG E p l s m args meth c cX12_messageLine 2 RX12 none (zA Y s.heap.size)) {Q : zS → Prop} : ∀ (n : Nat) (t0 : Nat) (v1 : Int32) (σ : zS), wX12_messageLine_67 (zln Y) Q n t0 v1 σ → zT Y 12 t0 → WW E Y σ p l e rX12_messageLine s m args below meth c (zA Y s.heap.size) 2 0 0 (MQ below (va_Qv Q (zB E Y s.heap.size) (zA Y s.heap.size)) args s 0 0 (zA Y s.heap.size)) [(0, .ref (za Y t0)), (1, .int v1)] 67 [] := by
  intro n
  induction n with
  | zero => intro t0 v1 σ hw
            exact hw.elim
  | succ n ih =>
    intro t0 v1 σ hw h0
    rw [wX12_messageLine_67] at hw
    refine z_aload_n hG dX12_messageLine_67 rfl 0 rfl ?_
    refine z_calli hG (z_runV (As := []) (st := []) hG k_X12_305 (MX12_isItem l h0 hw) ⟨(Nat.le_of_ble_eq_true rfl), (Nat.le_of_ble_eq_true rfl)⟩ h0 (T := TX12) (N := 23) rfl (by decide) rfl (Nat.le_of_ble_eq_true rfl) dX12_messageLine_68 ⟨Nat.zero_le _, Nat.zero_le _⟩ rfl) (fun r2 σ1 hw => ?_)
    refine z_if_eq (tgt := 102) hG dX12_messageLine_71 (by decide) (fun c6 => ?_) (fun c6 => ?_)
    · have hw := hw.1 c6
      exact z_vret hG rfl dX12_messageLine_102 hw
    · have hw := hw.2 c6
      refine z_aload_n hG dX12_messageLine_74 rfl 0 rfl ?_
      refine z_geti hG f_X12_266 h0 rfl dX12_messageLine_75 ?_
      refine z_iconst (v := 4) hG dX12_messageLine_78 (by decide) ?_
      refine z_icmp_ne (tgt := 90) hG dX12_messageLine_79 (by decide) (fun c5 => ?_) (fun c5 => ?_)
      · have hw := hw.2 c5
        refine z_aload_n hG dX12_messageLine_90 rfl 0 rfl ?_
        refine z_iload_n hG dX12_messageLine_91 rfl 1 rfl ?_
        refine z_callv hG (z_runV (As := [.int v1]) (st := []) hG k_X12_308 (MX12_item l h0 hw) ⟨(Nat.le_of_ble_eq_true rfl), (Nat.le_of_ble_eq_true rfl)⟩ h0 (T := TX12) (N := 23) rfl (by decide) rfl (Nat.le_of_ble_eq_true rfl) dX12_messageLine_92 ⟨Nat.zero_le _, Nat.zero_le _⟩ rfl) (fun σ3 hw => ?_)
        refine zpick [0, 1] (lv' := [(0, .ref (za Y t0)), (1, .int v1)]) rfl ?_
        exact BX12_messageLine_95 hG ih t0 v1 σ3 hw h0
      · have hw := hw.1 c5
        refine z_aload_n hG dX12_messageLine_82 rfl 0 rfl ?_
        refine z_iload_n hG dX12_messageLine_83 rfl 1 rfl ?_
        refine z_callv hG (z_runV (As := [.int v1]) (st := []) hG k_X12_302 (MX12_newLine l h0 hw) ⟨(Nat.le_of_ble_eq_true rfl), (Nat.le_of_ble_eq_true rfl)⟩ h0 (T := TX12) (N := 23) rfl (by decide) rfl (Nat.le_of_ble_eq_true rfl) dX12_messageLine_84 ⟨Nat.zero_le _, Nat.zero_le _⟩ rfl) (fun σ4 hw => ?_)
        refine z_goto (tgt := 95) hG dX12_messageLine_87 (by decide) ?_
        refine zpick [0, 1] (lv' := [(0, .ref (za Y t0)), (1, .int v1)]) rfl ?_
        exact BX12_messageLine_95 hG ih t0 v1 σ4 hw h0
set_option maxRecDepth 100000 in
set_option maxHeartbeats 4000000 in
theorem BX12_messageLine_49 {l : Launch} {E : zE} {Y : zY} {p : Program} {e : Env} {s : State} {m : MethodId} {args : Array Value} {below : List Frame} {meth : Method} {c : Code} (hG : zG E p l s m args meth c cX12_messageLine 2 RX12 none (zA Y s.heap.size)) {Q : zS → Prop} : ∀ (t0 : Nat) (vw0 : Int32) (σ : zS), wX12_messageLine_49 (zln Y) Q t0 vw0 σ → zT Y 12 t0 → WW E Y σ p l e rX12_messageLine s m args below meth c (zA Y s.heap.size) 2 0 0 (MQ below (va_Qv Q (zB E Y s.heap.size) (zA Y s.heap.size)) args s 0 0 (zA Y s.heap.size)) [(0, .ref (za Y t0))] 49 [.int vw0] := by
  intro t0 vw0 σ hw h0
  unfold wX12_messageLine_49 at hw
  refine z_istore_n (lv' := [(1, .int vw0), (0, .ref (za Y t0))]) hG dX12_messageLine_49 rfl (by decide) rfl ?_
  refine z_aload_n hG dX12_messageLine_50 rfl 1 rfl ?_
  refine z_iload_n hG dX12_messageLine_51 rfl 0 rfl ?_
  refine z_callv hG (z_runV (As := [.int vw0]) (st := []) hG k_X12_302 (MX12_newLine l h0 hw) ⟨(Nat.le_of_ble_eq_true rfl), (Nat.le_of_ble_eq_true rfl)⟩ h0 (T := TX12) (N := 23) rfl (by decide) rfl (Nat.le_of_ble_eq_true rfl) dX12_messageLine_52 ⟨Nat.zero_le _, Nat.zero_le _⟩ rfl) (fun σ1 hw => ?_)
  refine z_aload_n hG dX12_messageLine_55 rfl 1 rfl ?_
  refine z_callv hG (z_runV (As := []) (st := []) hG k_X12_290 (MX12_goesOver l h0 hw) ⟨(Nat.le_of_ble_eq_true rfl), (Nat.le_of_ble_eq_true rfl)⟩ h0 (T := TX12) (N := 23) rfl (by decide) rfl (Nat.le_of_ble_eq_true rfl) dX12_messageLine_56 ⟨Nat.zero_le _, Nat.zero_le _⟩ rfl) (fun σ2 hw => ?_)
  refine z_aload_n hG dX12_messageLine_59 rfl 1 rfl ?_
  refine z_aload_n hG dX12_messageLine_60 rfl 1 rfl ?_
  refine z_calli hG (z_runV (As := []) (st := [.ref (za Y t0)]) hG k_X12_305 (MX12_isItem l h0 hw) ⟨(Nat.le_of_ble_eq_true rfl), (Nat.le_of_ble_eq_true rfl)⟩ h0 (T := TX12) (N := 23) rfl (by decide) rfl (Nat.le_of_ble_eq_true rfl) dX12_messageLine_61 ⟨Nat.zero_le _, Nat.zero_le _⟩ rfl) (fun r4 σ3 hw => ?_)
  refine z_callv hG (z_runV (As := [.int r4]) (st := []) hG k_X12_287 (MX12_must l h0 hw) ⟨(Nat.le_of_ble_eq_true rfl), (Nat.le_of_ble_eq_true rfl)⟩ h0 (T := TX12) (N := 23) rfl (by decide) rfl (Nat.le_of_ble_eq_true rfl) dX12_messageLine_64 ⟨Nat.zero_le _, Nat.zero_le _⟩ rfl) (fun σ5 hw => ?_)
  obtain ⟨n6, hw⟩ := hw
  refine zpick [1, 0] (lv' := [(0, .ref (za Y t0)), (1, .int vw0)]) rfl ?_
  exact BX12_messageLine_67 hG n6 t0 vw0 σ5 hw h0
set_option maxRecDepth 100000 in
set_option maxHeartbeats 4000000 in
theorem BX12_messageLine_31 {l : Launch} {E : zE} {Y : zY} {p : Program} {e : Env} {s : State} {m : MethodId} {args : Array Value} {below : List Frame} {meth : Method} {c : Code} (hG : zG E p l s m args meth c cX12_messageLine 2 RX12 none (zA Y s.heap.size)) {Q : zS → Prop} : ∀ (t0 : Nat) (tw0 : Nat) (vw1 : Int32) (σ : zS), wX12_messageLine_31 (zln Y) Q t0 tw0 vw1 σ → zT Y 12 t0 → zT Y 12 tw0 → WW E Y σ p l e rX12_messageLine s m args below meth c (zA Y s.heap.size) 2 0 0 (MQ below (va_Qv Q (zB E Y s.heap.size) (zA Y s.heap.size)) args s 0 0 (zA Y s.heap.size)) [(0, .ref (za Y t0))] 31 [.int vw1, .ref (za Y tw0)] := by
  intro t0 tw0 vw1 σ hw h0 hw0
  unfold wX12_messageLine_31 at hw
  refine z_callv hG (z_runV (As := [.int vw1]) (st := []) hG k_X12_287 (MX12_must l hw0 hw) ⟨(Nat.le_of_ble_eq_true rfl), (Nat.le_of_ble_eq_true rfl)⟩ hw0 (T := TX12) (N := 23) rfl (by decide) rfl (Nat.le_of_ble_eq_true rfl) dX12_messageLine_31 ⟨Nat.zero_le _, Nat.zero_le _⟩ rfl) (fun σ1 hw => ?_)
  refine z_aload_n hG dX12_messageLine_34 rfl 0 rfl ?_
  refine z_geti hG f_X12_280 h0 rfl dX12_messageLine_35 ?_
  refine z_if_eq (tgt := 45) hG dX12_messageLine_38 (by decide) (fun c2 => ?_) (fun c2 => ?_)
  · have hw := hw.1 c2
    refine z_aload_n hG dX12_messageLine_45 rfl 0 rfl ?_
    refine z_geti hG f_X12_277 h0 rfl dX12_messageLine_46 ?_
    refine zpick [0] (lv' := [(0, .ref (za Y t0))]) rfl ?_
    exact BX12_messageLine_49 hG t0 (gi σ1 t0 18) σ1 hw h0
  · have hw := hw.2 c2
    refine z_iconst (v := 0) hG dX12_messageLine_41 (by decide) ?_
    refine z_goto (tgt := 49) hG dX12_messageLine_42 (by decide) ?_
    refine zpick [0] (lv' := [(0, .ref (za Y t0))]) rfl ?_
    exact BX12_messageLine_49 hG t0 0 σ1 hw h0
set_option maxRecDepth 100000 in
set_option maxHeartbeats 4000000 in
theorem BX12_messageLine_30 {l : Launch} {E : zE} {Y : zY} {p : Program} {e : Env} {s : State} {m : MethodId} {args : Array Value} {below : List Frame} {meth : Method} {c : Code} (hG : zG E p l s m args meth c cX12_messageLine 2 RX12 none (zA Y s.heap.size)) {Q : zS → Prop} : ∀ (t0 : Nat) (tw0 : Nat) (σ : zS), wX12_messageLine_30 (zln Y) Q t0 tw0 σ → zT Y 12 t0 → zT Y 12 tw0 → WW E Y σ p l e rX12_messageLine s m args below meth c (zA Y s.heap.size) 2 0 0 (MQ below (va_Qv Q (zB E Y s.heap.size) (zA Y s.heap.size)) args s 0 0 (zA Y s.heap.size)) [(0, .ref (za Y t0))] 30 [.ref (za Y tw0)] := by
  intro t0 tw0 σ hw h0 hw0
  unfold wX12_messageLine_30 at hw
  refine z_iconst (v := 0) hG dX12_messageLine_30 (by decide) ?_
  refine zpick [0] (lv' := [(0, .ref (za Y t0))]) rfl ?_
  exact BX12_messageLine_31 hG t0 tw0 0 σ hw h0 hw0
set_option maxRecDepth 100000 in
set_option maxHeartbeats 4000000 in
theorem MX12_messageLine (l : Launch) {E : zE} {Y : zY} {σ : zS} {t0 : Nat} (h0 : zT Y 12 t0) {Q : zS → Prop} (hw : wX12_messageLine (zln Y) σ t0 Q) : ∀ sz, Met l yX12_messageLine (zw yX12_messageLine cX12_messageLine 2 none) rX12_messageLine (zPc E Y σ sz [.ref (za Y t0)]) (va_Qv Q (zB E Y sz) (zA Y sz)) 0 0 (zA Y sz) := by
  refine z_met (own := RX12) (Qc := fun sz => va_Qv Q (zB E Y sz) (zA Y sz)) (by decide +kernel) rfl (Nat.le_of_ble_eq_true rfl) ?_
  intro p e s m args below meth c hG hinit
  unfold wX12_messageLine at hw
  refine zlv (lv' := [(0, .ref (za Y t0))]) rfl ?_
  refine z_aload_n hG dX12_messageLine_0 rfl 0 rfl ?_
  refine z_callv hG (z_runV (As := []) (st := []) hG k_X12_290 (MX12_goesOver l h0 hw) ⟨(Nat.le_of_ble_eq_true rfl), (Nat.le_of_ble_eq_true rfl)⟩ h0 (T := TX12) (N := 23) rfl (by decide) rfl (Nat.le_of_ble_eq_true rfl) dX12_messageLine_1 ⟨Nat.zero_le _, Nat.zero_le _⟩ rfl) (fun σ1 hw => ?_)
  refine z_aload_n hG dX12_messageLine_4 rfl 0 rfl ?_
  refine z_aload_n hG dX12_messageLine_5 rfl 0 rfl ?_
  refine z_geti hG f_X12_266 h0 rfl dX12_messageLine_6 ?_
  refine z_iconst (v := 2) hG dX12_messageLine_9 (by decide) ?_
  refine z_icmp_ne (tgt := 30) hG dX12_messageLine_10 (by decide) (fun c6 => ?_) (fun c6 => ?_)
  · have hw := hw.2 c6
    refine zpick [0] (lv' := [(0, .ref (za Y t0))]) rfl ?_
    exact BX12_messageLine_30 hG t0 t0 σ1 hw h0 h0
  · have hw := hw.1 c6
    refine z_aload_n hG dX12_messageLine_13 rfl 0 rfl ?_
    refine z_geti hG f_X12_277 h0 rfl dX12_messageLine_14 ?_
    refine z_i2l hG dX12_messageLine_17 ?_
    refine z_lconst (v := 0) hG dX12_messageLine_18 (by decide) ?_
    refine z_lconst (v := 1) hG dX12_messageLine_19 (by decide) ?_
    obtain ⟨x2, ex2⟩ : ∃ y : Int64, y = (gi σ1 t0 18).toInt64 := ⟨_, rfl⟩
    refine zst (st' := [.long 1, .long 0, .long x2, .ref (za Y t0)]) (by rw [ex2]) ?_
    have hw := hw x2 ex2
    refine z_calli hG (z_runS (As := [.long x2, .long 0, .long 1]) (st := [.ref (za Y t0)]) hG k_X12_58 (MX12_isIn l hw) ⟨(Nat.le_of_ble_eq_true rfl), (Nat.le_of_ble_eq_true rfl)⟩ rfl (Nat.le_of_ble_eq_true rfl) dX12_messageLine_20 ⟨Nat.zero_le _, Nat.zero_le _⟩ rfl) (fun r4 σ3 hw => ?_)
    refine z_if_eq (tgt := 30) hG dX12_messageLine_23 (by decide) (fun c5 => ?_) (fun c5 => ?_)
    · have hw := hw.1 c5
      refine zpick [0] (lv' := [(0, .ref (za Y t0))]) rfl ?_
      exact BX12_messageLine_30 hG t0 t0 σ3 hw h0 h0
    · have hw := hw.2 c5
      refine z_iconst (v := 1) hG dX12_messageLine_26 (by decide) ?_
      refine z_goto (tgt := 31) hG dX12_messageLine_27 (by decide) ?_
      refine zpick [0] (lv' := [(0, .ref (za Y t0))]) rfl ?_
      exact BX12_messageLine_31 hG t0 t0 1 σ3 hw h0 h0
-- TypeWheelTelegraphModel.statement()V
def wX12_statement_173 (ln : Nat → Nat) (Q : zS → Prop) (t0 : Nat) (tw0 : Nat) (vw1 : Int32) (σ : zS) : Prop := wX12_must ln σ tw0 vw1 (fun σ1 => wX12_goesOver ln σ1 t0 (fun σ2 => ∀ σ3 : zS, σ3 = si σ2 t0 20 0 → Q σ3))
def wX12_statement_159 (ln : Nat → Nat) (Q : zS → Prop) (t0 : Nat) (σ : zS) : Prop := (((gi σ t0 17) = 3 → wX12_statement_173 ln Q t0 t0 1 σ) ∧ (¬ (gi σ t0 17) = 3 → wX12_statement_173 ln Q t0 t0 0 σ))
def wX12_statement (ln : Nat → Nat) (σ : zS) (t0 : Nat) (Q : zS → Prop) : Prop := wX12_isWord ln σ t0 12384399 (fun r2 σ1 => ((r2 = 0 → wX12_isWord ln σ1 t0 218546996 (fun r4 σ3 => ((r4 = 0 → wX12_isWord ln σ3 t0 2232979 (fun r6 σ5 => ((r6 = 0 → wX12_isWord ln σ5 t0 1387419050 (fun r8 σ7 => ((r8 = 0 → wX12_isWord ln σ7 t0 4134649 (fun r10 σ9 => ((r10 = 0 → wX12_isWord ln σ9 t0 7056303166 (fun r12 σ11 => ((r12 = 0 → wX12_isWord ln σ11 t0 247649 (fun r14 σ13 => ((r14 = 0 → wX12_isWord ln σ13 t0 5118683171 (fun r16 σ15 => wX12_must ln σ15 t0 r16 (fun σ17 => (((gi σ17 t0 21) = 0 → wX12_messageLine ln σ17 t0 (fun σ18 => wX12_statement_159 ln Q t0 σ18)) ∧ (¬ (gi σ17 t0 21) = 0 → wX12_statement_159 ln Q t0 σ17))))) ∧ (¬ r14 = 0 → wX12_loseLine ln σ13 t0 (fun σ20 => wX12_statement_159 ln Q t0 σ20))))) ∧ (¬ r12 = 0 → wX12_setting ln σ11 t0 4 0 9 (fun σ22 => wX12_statement_159 ln Q t0 σ22))))) ∧ (¬ r10 = 0 → wX12_setting ln σ9 t0 3 1 5000 (fun σ24 => wX12_statement_159 ln Q t0 σ24))))) ∧ (¬ r8 = 0 → wX12_setting ln σ7 t0 2 0 500 (fun σ26 => wX12_statement_159 ln Q t0 σ26))))) ∧ (¬ r6 = 0 → wX12_setting ln σ5 t0 1 1 50 (fun σ28 => wX12_statement_159 ln Q t0 σ28))))) ∧ (¬ r4 = 0 → wX12_officeLine ln σ3 t0 (fun σ30 => wX12_statement_159 ln Q t0 σ30))))) ∧ (¬ r2 = 0 → wX12_wheelLine ln σ1 t0 (fun σ32 => wX12_statement_159 ln Q t0 σ32))))
abbrev rX12_statement : Room := { frames := 6, cells := 0, slots := 0, locals := 134 }
set_option maxRecDepth 100000 in
set_option maxHeartbeats 4000000 in
theorem BX12_statement_173 {l : Launch} {E : zE} {Y : zY} {p : Program} {e : Env} {s : State} {m : MethodId} {args : Array Value} {below : List Frame} {meth : Method} {c : Code} (hG : zG E p l s m args meth c cX12_statement 1 RX12 none (zA Y s.heap.size)) {Q : zS → Prop} : ∀ (t0 : Nat) (tw0 : Nat) (vw1 : Int32) (σ : zS), wX12_statement_173 (zln Y) Q t0 tw0 vw1 σ → zT Y 12 t0 → zT Y 12 tw0 → WW E Y σ p l e rX12_statement s m args below meth c (zA Y s.heap.size) 1 0 0 (MQ below (va_Qv Q (zB E Y s.heap.size) (zA Y s.heap.size)) args s 0 0 (zA Y s.heap.size)) [(0, .ref (za Y t0))] 173 [.int vw1, .ref (za Y tw0)] := by
  intro t0 tw0 vw1 σ hw h0 hw0
  unfold wX12_statement_173 at hw
  refine z_callv hG (z_runV (As := [.int vw1]) (st := []) hG k_X12_287 (MX12_must l hw0 hw) ⟨(Nat.le_of_ble_eq_true rfl), (Nat.le_of_ble_eq_true rfl)⟩ hw0 (T := TX12) (N := 23) rfl (by decide) rfl (Nat.le_of_ble_eq_true rfl) dX12_statement_173 ⟨Nat.zero_le _, Nat.zero_le _⟩ rfl) (fun σ1 hw => ?_)
  refine z_aload_n hG dX12_statement_176 rfl 0 rfl ?_
  refine z_callv hG (z_runV (As := []) (st := []) hG k_X12_290 (MX12_goesOver l h0 hw) ⟨(Nat.le_of_ble_eq_true rfl), (Nat.le_of_ble_eq_true rfl)⟩ h0 (T := TX12) (N := 23) rfl (by decide) rfl (Nat.le_of_ble_eq_true rfl) dX12_statement_177 ⟨Nat.zero_le _, Nat.zero_le _⟩ rfl) (fun σ2 hw => ?_)
  refine z_aload_n hG dX12_statement_180 rfl 0 rfl ?_
  refine z_iconst (v := 0) hG dX12_statement_181 (by decide) ?_
  refine z_puti hG f_X12_293 h0 rfl rfl (zN_b (by decide)) dX12_statement_182 ?_
  refine z_topσ (fun σ3 eσ3 => ?_)
  have hw := hw σ3 eσ3
  exact z_vret hG rfl dX12_statement_185 hw
set_option maxRecDepth 100000 in
set_option maxHeartbeats 4000000 in
theorem BX12_statement_159 {l : Launch} {E : zE} {Y : zY} {p : Program} {e : Env} {s : State} {m : MethodId} {args : Array Value} {below : List Frame} {meth : Method} {c : Code} (hG : zG E p l s m args meth c cX12_statement 1 RX12 none (zA Y s.heap.size)) {Q : zS → Prop} : ∀ (t0 : Nat) (σ : zS), wX12_statement_159 (zln Y) Q t0 σ → zT Y 12 t0 → WW E Y σ p l e rX12_statement s m args below meth c (zA Y s.heap.size) 1 0 0 (MQ below (va_Qv Q (zB E Y s.heap.size) (zA Y s.heap.size)) args s 0 0 (zA Y s.heap.size)) [(0, .ref (za Y t0))] 159 [] := by
  intro t0 σ hw h0
  unfold wX12_statement_159 at hw
  refine z_aload_n hG dX12_statement_159 rfl 0 rfl ?_
  refine z_aload_n hG dX12_statement_160 rfl 0 rfl ?_
  refine z_geti hG f_X12_266 h0 rfl dX12_statement_161 ?_
  refine z_iconst (v := 3) hG dX12_statement_164 (by decide) ?_
  refine z_icmp_ne (tgt := 172) hG dX12_statement_165 (by decide) (fun c1 => ?_) (fun c1 => ?_)
  · have hw := hw.2 c1
    refine z_iconst (v := 0) hG dX12_statement_172 (by decide) ?_
    refine zpick [0] (lv' := [(0, .ref (za Y t0))]) rfl ?_
    exact BX12_statement_173 hG t0 t0 0 σ hw h0 h0
  · have hw := hw.1 c1
    refine z_iconst (v := 1) hG dX12_statement_168 (by decide) ?_
    refine z_goto (tgt := 173) hG dX12_statement_169 (by decide) ?_
    refine zpick [0] (lv' := [(0, .ref (za Y t0))]) rfl ?_
    exact BX12_statement_173 hG t0 t0 1 σ hw h0 h0
set_option maxRecDepth 100000 in
set_option maxHeartbeats 4000000 in
theorem MX12_statement (l : Launch) {E : zE} {Y : zY} {σ : zS} {t0 : Nat} (h0 : zT Y 12 t0) {Q : zS → Prop} (hw : wX12_statement (zln Y) σ t0 Q) : ∀ sz, Met l yX12_statement (zw yX12_statement cX12_statement 1 none) rX12_statement (zPc E Y σ sz [.ref (za Y t0)]) (va_Qv Q (zB E Y sz) (zA Y sz)) 0 0 (zA Y sz) := by
  refine z_met (own := RX12) (Qc := fun sz => va_Qv Q (zB E Y sz) (zA Y sz)) (by decide +kernel) rfl (Nat.le_of_ble_eq_true rfl) ?_
  intro p e s m args below meth c hG hinit
  unfold wX12_statement at hw
  refine zlv (lv' := [(0, .ref (za Y t0))]) rfl ?_
  refine z_aload_n hG dX12_statement_0 rfl 0 rfl ?_
  refine z_ldc2 (hc := c_X12_311) hG (hd := dX12_statement_1) ?_
  refine z_calli hG (z_runV (As := [.long 12384399]) (st := []) hG k_X12_313 (MX12_isWord l h0 hw) ⟨(Nat.le_of_ble_eq_true rfl), (Nat.le_of_ble_eq_true rfl)⟩ h0 (T := TX12) (N := 23) rfl (by decide) rfl (Nat.le_of_ble_eq_true rfl) dX12_statement_4 ⟨Nat.zero_le _, Nat.zero_le _⟩ rfl) (fun r2 σ1 hw => ?_)
  refine z_if_eq (tgt := 17) hG dX12_statement_7 (by decide) (fun c33 => ?_) (fun c33 => ?_)
  · have hw := hw.1 c33
    refine z_aload_n hG dX12_statement_17 rfl 0 rfl ?_
    refine z_ldc2 (hc := c_X12_320) hG (hd := dX12_statement_18) ?_
    refine z_calli hG (z_runV (As := [.long 218546996]) (st := []) hG k_X12_313 (MX12_isWord l h0 hw) ⟨(Nat.le_of_ble_eq_true rfl), (Nat.le_of_ble_eq_true rfl)⟩ h0 (T := TX12) (N := 23) rfl (by decide) rfl (Nat.le_of_ble_eq_true rfl) dX12_statement_21 ⟨Nat.zero_le _, Nat.zero_le _⟩ rfl) (fun r4 σ3 hw => ?_)
    refine z_if_eq (tgt := 34) hG dX12_statement_24 (by decide) (fun c31 => ?_) (fun c31 => ?_)
    · have hw := hw.1 c31
      refine z_aload_n hG dX12_statement_34 rfl 0 rfl ?_
      refine z_ldc2 (hc := c_X12_325) hG (hd := dX12_statement_35) ?_
      refine z_calli hG (z_runV (As := [.long 2232979]) (st := []) hG k_X12_313 (MX12_isWord l h0 hw) ⟨(Nat.le_of_ble_eq_true rfl), (Nat.le_of_ble_eq_true rfl)⟩ h0 (T := TX12) (N := 23) rfl (by decide) rfl (Nat.le_of_ble_eq_true rfl) dX12_statement_38 ⟨Nat.zero_le _, Nat.zero_le _⟩ rfl) (fun r6 σ5 hw => ?_)
      refine z_if_eq (tgt := 55) hG dX12_statement_41 (by decide) (fun c29 => ?_) (fun c29 => ?_)
      · have hw := hw.1 c29
        refine z_aload_n hG dX12_statement_55 rfl 0 rfl ?_
        refine z_ldc2 (hc := c_X12_331) hG (hd := dX12_statement_56) ?_
        refine z_calli hG (z_runV (As := [.long 1387419050]) (st := []) hG k_X12_313 (MX12_isWord l h0 hw) ⟨(Nat.le_of_ble_eq_true rfl), (Nat.le_of_ble_eq_true rfl)⟩ h0 (T := TX12) (N := 23) rfl (by decide) rfl (Nat.le_of_ble_eq_true rfl) dX12_statement_59 ⟨Nat.zero_le _, Nat.zero_le _⟩ rfl) (fun r8 σ7 hw => ?_)
        refine z_if_eq (tgt := 77) hG dX12_statement_62 (by decide) (fun c27 => ?_) (fun c27 => ?_)
        · have hw := hw.1 c27
          refine z_aload_n hG dX12_statement_77 rfl 0 rfl ?_
          refine z_ldc2 (hc := c_X12_333) hG (hd := dX12_statement_78) ?_
          refine z_calli hG (z_runV (As := [.long 4134649]) (st := []) hG k_X12_313 (MX12_isWord l h0 hw) ⟨(Nat.le_of_ble_eq_true rfl), (Nat.le_of_ble_eq_true rfl)⟩ h0 (T := TX12) (N := 23) rfl (by decide) rfl (Nat.le_of_ble_eq_true rfl) dX12_statement_81 ⟨Nat.zero_le _, Nat.zero_le _⟩ rfl) (fun r10 σ9 hw => ?_)
          refine z_if_eq (tgt := 99) hG dX12_statement_84 (by decide) (fun c25 => ?_) (fun c25 => ?_)
          · have hw := hw.1 c25
            refine z_aload_n hG dX12_statement_99 rfl 0 rfl ?_
            refine z_ldc2 (hc := c_X12_335) hG (hd := dX12_statement_100) ?_
            refine z_calli hG (z_runV (As := [.long 7056303166]) (st := []) hG k_X12_313 (MX12_isWord l h0 hw) ⟨(Nat.le_of_ble_eq_true rfl), (Nat.le_of_ble_eq_true rfl)⟩ h0 (T := TX12) (N := 23) rfl (by decide) rfl (Nat.le_of_ble_eq_true rfl) dX12_statement_103 ⟨Nat.zero_le _, Nat.zero_le _⟩ rfl) (fun r12 σ11 hw => ?_)
            refine z_if_eq (tgt := 120) hG dX12_statement_106 (by decide) (fun c23 => ?_) (fun c23 => ?_)
            · have hw := hw.1 c23
              refine z_aload_n hG dX12_statement_120 rfl 0 rfl ?_
              refine z_ldc2 (hc := c_X12_337) hG (hd := dX12_statement_121) ?_
              refine z_calli hG (z_runV (As := [.long 247649]) (st := []) hG k_X12_313 (MX12_isWord l h0 hw) ⟨(Nat.le_of_ble_eq_true rfl), (Nat.le_of_ble_eq_true rfl)⟩ h0 (T := TX12) (N := 23) rfl (by decide) rfl (Nat.le_of_ble_eq_true rfl) dX12_statement_124 ⟨Nat.zero_le _, Nat.zero_le _⟩ rfl) (fun r14 σ13 hw => ?_)
              refine z_if_eq (tgt := 137) hG dX12_statement_127 (by decide) (fun c21 => ?_) (fun c21 => ?_)
              · have hw := hw.1 c21
                refine z_aload_n hG dX12_statement_137 rfl 0 rfl ?_
                refine z_aload_n hG dX12_statement_138 rfl 0 rfl ?_
                refine z_ldc2 (hc := c_X12_342) hG (hd := dX12_statement_139) ?_
                refine z_calli hG (z_runV (As := [.long 5118683171]) (st := [.ref (za Y t0)]) hG k_X12_313 (MX12_isWord l h0 hw) ⟨(Nat.le_of_ble_eq_true rfl), (Nat.le_of_ble_eq_true rfl)⟩ h0 (T := TX12) (N := 23) rfl (by decide) rfl (Nat.le_of_ble_eq_true rfl) dX12_statement_142 ⟨Nat.zero_le _, Nat.zero_le _⟩ rfl) (fun r16 σ15 hw => ?_)
                refine z_callv hG (z_runV (As := [.int r16]) (st := []) hG k_X12_287 (MX12_must l h0 hw) ⟨(Nat.le_of_ble_eq_true rfl), (Nat.le_of_ble_eq_true rfl)⟩ h0 (T := TX12) (N := 23) rfl (by decide) rfl (Nat.le_of_ble_eq_true rfl) dX12_statement_145 ⟨Nat.zero_le _, Nat.zero_le _⟩ rfl) (fun σ17 hw => ?_)
                refine z_aload_n hG dX12_statement_148 rfl 0 rfl ?_
                refine z_geti hG f_X12_280 h0 rfl dX12_statement_149 ?_
                refine z_if_ne (tgt := 159) hG dX12_statement_152 (by decide) (fun c19 => ?_) (fun c19 => ?_)
                · have hw := hw.2 c19
                  refine zpick [0] (lv' := [(0, .ref (za Y t0))]) rfl ?_
                  exact BX12_statement_159 hG t0 σ17 hw h0
                · have hw := hw.1 c19
                  refine z_aload_n hG dX12_statement_155 rfl 0 rfl ?_
                  refine z_callv hG (z_runV (As := []) (st := []) hG k_X12_344 (MX12_messageLine l h0 hw) ⟨(Nat.le_of_ble_eq_true rfl), (Nat.le_of_ble_eq_true rfl)⟩ h0 (T := TX12) (N := 23) rfl (by decide) rfl (Nat.le_of_ble_eq_true rfl) dX12_statement_156 ⟨Nat.zero_le _, Nat.zero_le _⟩ rfl) (fun σ18 hw => ?_)
                  refine zpick [0] (lv' := [(0, .ref (za Y t0))]) rfl ?_
                  exact BX12_statement_159 hG t0 σ18 hw h0
              · have hw := hw.2 c21
                refine z_aload_n hG dX12_statement_130 rfl 0 rfl ?_
                refine z_callv hG (z_runV (As := []) (st := []) hG k_X12_339 (MX12_loseLine l h0 hw) ⟨(Nat.le_of_ble_eq_true rfl), (Nat.le_of_ble_eq_true rfl)⟩ h0 (T := TX12) (N := 23) rfl (by decide) rfl (Nat.le_of_ble_eq_true rfl) dX12_statement_131 ⟨Nat.zero_le _, Nat.zero_le _⟩ rfl) (fun σ20 hw => ?_)
                refine z_goto (tgt := 159) hG dX12_statement_134 (by decide) ?_
                refine zpick [0] (lv' := [(0, .ref (za Y t0))]) rfl ?_
                exact BX12_statement_159 hG t0 σ20 hw h0
            · have hw := hw.2 c23
              refine z_aload_n hG dX12_statement_109 rfl 0 rfl ?_
              refine z_iconst (v := 4) hG dX12_statement_110 (by decide) ?_
              refine z_iconst (v := 0) hG dX12_statement_111 (by decide) ?_
              refine z_bipush (v := 9) hG dX12_statement_112 (by decide) ?_
              refine z_callv hG (z_runV (As := [.int 4, .int 0, .int 9]) (st := []) hG k_X12_327 (MX12_setting l h0 hw) ⟨(Nat.le_of_ble_eq_true rfl), (Nat.le_of_ble_eq_true rfl)⟩ h0 (T := TX12) (N := 23) rfl (by decide) rfl (Nat.le_of_ble_eq_true rfl) dX12_statement_114 ⟨Nat.zero_le _, Nat.zero_le _⟩ rfl) (fun σ22 hw => ?_)
              refine z_goto (tgt := 159) hG dX12_statement_117 (by decide) ?_
              refine zpick [0] (lv' := [(0, .ref (za Y t0))]) rfl ?_
              exact BX12_statement_159 hG t0 σ22 hw h0
          · have hw := hw.2 c25
            refine z_aload_n hG dX12_statement_87 rfl 0 rfl ?_
            refine z_iconst (v := 3) hG dX12_statement_88 (by decide) ?_
            refine z_iconst (v := 1) hG dX12_statement_89 (by decide) ?_
            refine z_sipush (v := 5000) hG dX12_statement_90 (by decide) ?_
            refine z_callv hG (z_runV (As := [.int 3, .int 1, .int 5000]) (st := []) hG k_X12_327 (MX12_setting l h0 hw) ⟨(Nat.le_of_ble_eq_true rfl), (Nat.le_of_ble_eq_true rfl)⟩ h0 (T := TX12) (N := 23) rfl (by decide) rfl (Nat.le_of_ble_eq_true rfl) dX12_statement_93 ⟨Nat.zero_le _, Nat.zero_le _⟩ rfl) (fun σ24 hw => ?_)
            refine z_goto (tgt := 159) hG dX12_statement_96 (by decide) ?_
            refine zpick [0] (lv' := [(0, .ref (za Y t0))]) rfl ?_
            exact BX12_statement_159 hG t0 σ24 hw h0
        · have hw := hw.2 c27
          refine z_aload_n hG dX12_statement_65 rfl 0 rfl ?_
          refine z_iconst (v := 2) hG dX12_statement_66 (by decide) ?_
          refine z_iconst (v := 0) hG dX12_statement_67 (by decide) ?_
          refine z_sipush (v := 500) hG dX12_statement_68 (by decide) ?_
          refine z_callv hG (z_runV (As := [.int 2, .int 0, .int 500]) (st := []) hG k_X12_327 (MX12_setting l h0 hw) ⟨(Nat.le_of_ble_eq_true rfl), (Nat.le_of_ble_eq_true rfl)⟩ h0 (T := TX12) (N := 23) rfl (by decide) rfl (Nat.le_of_ble_eq_true rfl) dX12_statement_71 ⟨Nat.zero_le _, Nat.zero_le _⟩ rfl) (fun σ26 hw => ?_)
          refine z_goto (tgt := 159) hG dX12_statement_74 (by decide) ?_
          refine zpick [0] (lv' := [(0, .ref (za Y t0))]) rfl ?_
          exact BX12_statement_159 hG t0 σ26 hw h0
      · have hw := hw.2 c29
        refine z_aload_n hG dX12_statement_44 rfl 0 rfl ?_
        refine z_iconst (v := 1) hG dX12_statement_45 (by decide) ?_
        refine z_iconst (v := 1) hG dX12_statement_46 (by decide) ?_
        refine z_bipush (v := 50) hG dX12_statement_47 (by decide) ?_
        refine z_callv hG (z_runV (As := [.int 1, .int 1, .int 50]) (st := []) hG k_X12_327 (MX12_setting l h0 hw) ⟨(Nat.le_of_ble_eq_true rfl), (Nat.le_of_ble_eq_true rfl)⟩ h0 (T := TX12) (N := 23) rfl (by decide) rfl (Nat.le_of_ble_eq_true rfl) dX12_statement_49 ⟨Nat.zero_le _, Nat.zero_le _⟩ rfl) (fun σ28 hw => ?_)
        refine z_goto (tgt := 159) hG dX12_statement_52 (by decide) ?_
        refine zpick [0] (lv' := [(0, .ref (za Y t0))]) rfl ?_
        exact BX12_statement_159 hG t0 σ28 hw h0
    · have hw := hw.2 c31
      refine z_aload_n hG dX12_statement_27 rfl 0 rfl ?_
      refine z_callv hG (z_runV (As := []) (st := []) hG k_X12_322 (MX12_officeLine l h0 hw) ⟨(Nat.le_of_ble_eq_true rfl), (Nat.le_of_ble_eq_true rfl)⟩ h0 (T := TX12) (N := 23) rfl (by decide) rfl (Nat.le_of_ble_eq_true rfl) dX12_statement_28 ⟨Nat.zero_le _, Nat.zero_le _⟩ rfl) (fun σ30 hw => ?_)
      refine z_goto (tgt := 159) hG dX12_statement_31 (by decide) ?_
      refine zpick [0] (lv' := [(0, .ref (za Y t0))]) rfl ?_
      exact BX12_statement_159 hG t0 σ30 hw h0
  · have hw := hw.2 c33
    refine z_aload_n hG dX12_statement_10 rfl 0 rfl ?_
    refine z_callv hG (z_runV (As := []) (st := []) hG k_X12_317 (MX12_wheelLine l h0 hw) ⟨(Nat.le_of_ble_eq_true rfl), (Nat.le_of_ble_eq_true rfl)⟩ h0 (T := TX12) (N := 23) rfl (by decide) rfl (Nat.le_of_ble_eq_true rfl) dX12_statement_11 ⟨Nat.zero_le _, Nat.zero_le _⟩ rfl) (fun σ32 hw => ?_)
    refine z_goto (tgt := 159) hG dX12_statement_14 (by decide) ?_
    refine zpick [0] (lv' := [(0, .ref (za Y t0))]) rfl ?_
    exact BX12_statement_159 hG t0 σ32 hw h0
-- TypeWheelTelegraphModel.load()I
def wX12_load_62 (ln : Nat → Nat) (Q : Int32 → zS → Prop) (t0 : Nat) (σ : zS) : Prop := ∀ σ1 : zS, σ1 = si σ t0 13 0 → (((gi σ1 t0 21) = 0 → ∃ j2 : Nat, gr σ1 t0 2 = some j2 ∧ ∃ j3 : Nat, gr σ1 t0 1 = some j3 ∧ wX12_copies ln σ1 j2 j3 (fun σ4 => ∀ σ5 : zS, σ5 = si σ4 t0 5 0 → ∃ j6 : Nat, gr σ5 t0 1 = some j6 ∧ vp_in (25 : Int32) (ln j6) ∧ ∃ j8 : Nat, gr σ5 t0 1 = some j8 ∧ vp_in (26 : Int32) (ln j8) ∧ Q ((gi σ5 j6 (25 : Int32).toNatClampNeg) + (gi σ5 j8 (26 : Int32).toNatClampNeg)) σ5)) ∧ (¬ (gi σ1 t0 21) = 0 → wX12_raise ln σ1 t0 1 (fun r11 σ10 => Q r11 σ10)))
def wX12_load_41 (ln : Nat → Nat) (Q : Int32 → zS → Prop) : Nat → Nat → zS → Prop
  | 0, _, _ => False
  | n + 1, t0, σ => (((gi σ t0 21) = 0 → (((gi σ t0 17) = 0 → wX12_load_62 ln Q t0 σ) ∧ (¬ (gi σ t0 17) = 0 → wX12_statement ln σ t0 (fun σ1 => (wX12_load_41 ln Q n) t0 σ1)))) ∧ (¬ (gi σ t0 21) = 0 → wX12_load_62 ln Q t0 σ))
def wX12_load (ln : Nat → Nat) (σ : zS) (t0 : Nat) (Q : Int32 → zS → Prop) : Prop := ∀ σ1 : zS, σ1 = si σ t0 0 0 → ∃ j2 : Nat, gr σ1 t0 2 = some j2 ∧ wX12_defaults ln σ1 j2 (fun σ3 => ∀ σ4 : zS, σ4 = si σ3 t0 16 0 → ∀ σ5 : zS, σ5 = si σ4 t0 19 0 → ∀ σ6 : zS, σ6 = si σ5 t0 20 1 → ∀ σ7 : zS, σ7 = si σ6 t0 21 0 → ∀ σ8 : zS, σ8 = si σ7 t0 14 (-1) → wX12_next ln σ8 t0 (fun σ9 => ∃ n10 : Nat, wX12_load_41 ln Q n10 t0 σ9))
abbrev rX12_load : Room := { frames := 7, cells := 0, slots := 0, locals := 154 }
set_option maxRecDepth 100000 in
set_option maxHeartbeats 4000000 in
theorem BX12_load_62 {l : Launch} {E : zE} {Y : zY} {p : Program} {e : Env} {s : State} {m : MethodId} {args : Array Value} {below : List Frame} {meth : Method} {c : Code} (hG : zG E p l s m args meth c cX12_load 1 RX12 (some .int) (zA Y s.heap.size)) {Q : Int32 → zS → Prop} : ∀ (t0 : Nat) (σ : zS), wX12_load_62 (zln Y) Q t0 σ → zT Y 12 t0 → WW E Y σ p l e rX12_load s m args below meth c (zA Y s.heap.size) 1 0 0 (MQ below (va_Qi Q (zB E Y s.heap.size) (zA Y s.heap.size)) args s 0 0 (zA Y s.heap.size)) [(0, .ref (za Y t0))] 62 [] := by
  intro t0 σ hw h0
  unfold wX12_load_62 at hw
  refine z_aload_n hG dX12_load_62 rfl 0 rfl ?_
  refine z_iconst (v := 0) hG dX12_load_63 (by decide) ?_
  refine z_puti hG f_X12_250 h0 rfl rfl (zN_int _) dX12_load_64 ?_
  refine z_topσ (fun σ1 eσ1 => ?_)
  have hw := hw σ1 eσ1
  refine z_aload_n hG dX12_load_67 rfl 0 rfl ?_
  refine z_geti hG f_X12_280 h0 rfl dX12_load_68 ?_
  refine z_if_eq (tgt := 80) hG dX12_load_71 (by decide) (fun c12 => ?_) (fun c12 => ?_)
  · have hw := hw.1 c12
    refine z_aload_n hG dX12_load_80 rfl 0 rfl ?_
    obtain ⟨j2, ej2, hw⟩ := hw
    refine z_getr (kq := 20) hG f_X12_13 h0 rfl ej2 rfl (by decide) dX12_load_81 (fun hj2 => ?_)
    refine z_aload_n hG dX12_load_84 rfl 0 rfl ?_
    obtain ⟨j3, ej3, hw⟩ := hw
    refine z_getr (kq := 20) hG f_X12_7 h0 rfl ej3 rfl (by decide) dX12_load_85 (fun hj3 => ?_)
    refine z_callv hG (z_runS (As := [.ref (za Y j2), .ref (za Y j3)]) (st := []) hG k_X12_219 (MX12_copies l hj2 hj3 hw) ⟨(Nat.le_of_ble_eq_true rfl), (Nat.le_of_ble_eq_true rfl)⟩ rfl (Nat.le_of_ble_eq_true rfl) dX12_load_88 ⟨Nat.zero_le _, Nat.zero_le _⟩ rfl) (fun σ4 hw => ?_)
    refine z_aload_n hG dX12_load_91 rfl 0 rfl ?_
    refine z_iconst (v := 0) hG dX12_load_92 (by decide) ?_
    refine z_puti hG f_X12_50 h0 rfl rfl (zN_int _) dX12_load_93 ?_
    refine z_topσ (fun σ5 eσ5 => ?_)
    have hw := hw σ5 eσ5
    refine z_aload_n hG dX12_load_96 rfl 0 rfl ?_
    obtain ⟨j6, ej6, hw⟩ := hw
    refine z_getr (kq := 20) hG f_X12_7 h0 rfl ej6 rfl (by decide) dX12_load_97 (fun hj6 => ?_)
    refine z_bipush (v := 25) hG dX12_load_100 (by decide) ?_
    obtain ⟨q7, hw⟩ := hw
    refine z_iald hG hj6 q7 dX12_load_102 ?_
    refine z_aload_n hG dX12_load_103 rfl 0 rfl ?_
    obtain ⟨j8, ej8, hw⟩ := hw
    refine z_getr (kq := 20) hG f_X12_7 h0 rfl ej8 rfl (by decide) dX12_load_104 (fun hj8 => ?_)
    refine z_bipush (v := 26) hG dX12_load_107 (by decide) ?_
    obtain ⟨q9, hw⟩ := hw
    refine z_iald hG hj8 q9 dX12_load_109 ?_
    refine z_iadd hG dX12_load_110 ?_
    exact z_iret hG rfl rfl dX12_load_111 hw
  · have hw := hw.2 c12
    refine z_aload_n hG dX12_load_74 rfl 0 rfl ?_
    refine z_iconst (v := 1) hG dX12_load_75 (by decide) ?_
    refine z_calli hG (z_runV (As := [.int 1]) (st := []) hG k_X12_174 (MX12_raise l h0 hw) ⟨(Nat.le_of_ble_eq_true rfl), (Nat.le_of_ble_eq_true rfl)⟩ h0 (T := TX12) (N := 23) rfl (by decide) rfl (Nat.le_of_ble_eq_true rfl) dX12_load_76 ⟨Nat.zero_le _, Nat.zero_le _⟩ rfl) (fun r11 σ10 hw => ?_)
    exact z_iret hG rfl rfl dX12_load_79 hw
set_option maxRecDepth 100000 in
set_option maxHeartbeats 4000000 in
theorem BX12_load_41 {l : Launch} {E : zE} {Y : zY} {p : Program} {e : Env} {s : State} {m : MethodId} {args : Array Value} {below : List Frame} {meth : Method} {c : Code} (hG : zG E p l s m args meth c cX12_load 1 RX12 (some .int) (zA Y s.heap.size)) {Q : Int32 → zS → Prop} : ∀ (n : Nat) (t0 : Nat) (σ : zS), wX12_load_41 (zln Y) Q n t0 σ → zT Y 12 t0 → WW E Y σ p l e rX12_load s m args below meth c (zA Y s.heap.size) 1 0 0 (MQ below (va_Qi Q (zB E Y s.heap.size) (zA Y s.heap.size)) args s 0 0 (zA Y s.heap.size)) [(0, .ref (za Y t0))] 41 [] := by
  intro n
  induction n with
  | zero => intro t0 σ hw
            exact hw.elim
  | succ n ih =>
    intro t0 σ hw h0
    rw [wX12_load_41] at hw
    refine z_aload_n hG dX12_load_41 rfl 0 rfl ?_
    refine z_geti hG f_X12_280 h0 rfl dX12_load_42 ?_
    refine z_if_ne (tgt := 62) hG dX12_load_45 (by decide) (fun c3 => ?_) (fun c3 => ?_)
    · have hw := hw.2 c3
      refine zpick [0] (lv' := [(0, .ref (za Y t0))]) rfl ?_
      exact BX12_load_62 hG t0 σ hw h0
    · have hw := hw.1 c3
      refine z_aload_n hG dX12_load_48 rfl 0 rfl ?_
      refine z_geti hG f_X12_266 h0 rfl dX12_load_49 ?_
      refine z_if_eq (tgt := 62) hG dX12_load_52 (by decide) (fun c2 => ?_) (fun c2 => ?_)
      · have hw := hw.1 c2
        refine zpick [0] (lv' := [(0, .ref (za Y t0))]) rfl ?_
        exact BX12_load_62 hG t0 σ hw h0
      · have hw := hw.2 c2
        refine z_aload_n hG dX12_load_55 rfl 0 rfl ?_
        refine z_callv hG (z_runV (As := []) (st := []) hG k_X12_347 (MX12_statement l h0 hw) ⟨(Nat.le_of_ble_eq_true rfl), (Nat.le_of_ble_eq_true rfl)⟩ h0 (T := TX12) (N := 23) rfl (by decide) rfl (Nat.le_of_ble_eq_true rfl) dX12_load_56 ⟨Nat.zero_le _, Nat.zero_le _⟩ rfl) (fun σ1 hw => ?_)
        refine z_goto (tgt := 41) hG dX12_load_59 (by decide) ?_
        refine zpick [0] (lv' := [(0, .ref (za Y t0))]) rfl ?_
        exact ih t0 σ1 hw h0
set_option maxRecDepth 100000 in
set_option maxHeartbeats 4000000 in
theorem MX12_load (l : Launch) {E : zE} {Y : zY} {σ : zS} {t0 : Nat} (h0 : zT Y 12 t0) {Q : Int32 → zS → Prop} (hw : wX12_load (zln Y) σ t0 Q) : ∀ sz, Met l yX12_load (zw yX12_load cX12_load 1 (some .int)) rX12_load (zPc E Y σ sz [.ref (za Y t0)]) (va_Qi Q (zB E Y sz) (zA Y sz)) 0 0 (zA Y sz) := by
  refine z_met (own := RX12) (Qc := fun sz => va_Qi Q (zB E Y sz) (zA Y sz)) (by decide +kernel) rfl (Nat.le_of_ble_eq_true rfl) ?_
  intro p e s m args below meth c hG hinit
  unfold wX12_load at hw
  refine zlv (lv' := [(0, .ref (za Y t0))]) rfl ?_
  refine z_aload_n hG dX12_load_0 rfl 0 rfl ?_
  refine z_iconst (v := 0) hG dX12_load_1 (by decide) ?_
  refine z_puti hG f_X12_47 h0 rfl rfl (zN_int _) dX12_load_2 ?_
  refine z_topσ (fun σ1 eσ1 => ?_)
  have hw := hw σ1 eσ1
  refine z_aload_n hG dX12_load_5 rfl 0 rfl ?_
  obtain ⟨j2, ej2, hw⟩ := hw
  refine z_getr (kq := 20) hG f_X12_13 h0 rfl ej2 rfl (by decide) dX12_load_6 (fun hj2 => ?_)
  refine z_callv hG (z_runS (As := [.ref (za Y j2)]) (st := []) hG k_X12_43 (MX12_defaults l hj2 hw) ⟨(Nat.le_of_ble_eq_true rfl), (Nat.le_of_ble_eq_true rfl)⟩ rfl (Nat.le_of_ble_eq_true rfl) dX12_load_9 ⟨Nat.zero_le _, Nat.zero_le _⟩ rfl) (fun σ3 hw => ?_)
  refine z_aload_n hG dX12_load_12 rfl 0 rfl ?_
  refine z_iconst (v := 0) hG dX12_load_13 (by decide) ?_
  refine z_puti hG f_X12_256 h0 rfl rfl (zN_int _) dX12_load_14 ?_
  refine z_topσ (fun σ4 eσ4 => ?_)
  have hw := hw σ4 eσ4
  refine z_aload_n hG dX12_load_17 rfl 0 rfl ?_
  refine z_iconst (v := 0) hG dX12_load_18 (by decide) ?_
  refine z_puti hG f_X12_299 h0 rfl rfl (zN_int _) dX12_load_19 ?_
  refine z_topσ (fun σ5 eσ5 => ?_)
  have hw := hw σ5 eσ5
  refine z_aload_n hG dX12_load_22 rfl 0 rfl ?_
  refine z_iconst (v := 1) hG dX12_load_23 (by decide) ?_
  refine z_puti hG f_X12_293 h0 rfl rfl (zN_b (by decide)) dX12_load_24 ?_
  refine z_topσ (fun σ6 eσ6 => ?_)
  have hw := hw σ6 eσ6
  refine z_aload_n hG dX12_load_27 rfl 0 rfl ?_
  refine z_iconst (v := 0) hG dX12_load_28 (by decide) ?_
  refine z_puti hG f_X12_280 h0 rfl rfl (zN_b (by decide)) dX12_load_29 ?_
  refine z_topσ (fun σ7 eσ7 => ?_)
  have hw := hw σ7 eσ7
  refine z_aload_n hG dX12_load_32 rfl 0 rfl ?_
  refine z_iconst (v := (-1)) hG dX12_load_33 (by decide) ?_
  refine z_puti hG f_X12_39 h0 rfl rfl (zN_int _) dX12_load_34 ?_
  refine z_topσ (fun σ8 eσ8 => ?_)
  have hw := hw σ8 eσ8
  refine z_aload_n hG dX12_load_37 rfl 0 rfl ?_
  refine z_callv hG (z_runV (As := []) (st := []) hG k_X12_284 (MX12_next l h0 hw) ⟨(Nat.le_of_ble_eq_true rfl), (Nat.le_of_ble_eq_true rfl)⟩ h0 (T := TX12) (N := 23) rfl (by decide) rfl (Nat.le_of_ble_eq_true rfl) dX12_load_38 ⟨Nat.zero_le _, Nat.zero_le _⟩ rfl) (fun σ9 hw => ?_)
  obtain ⟨n10, hw⟩ := hw
  refine zpick [0] (lv' := [(0, .ref (za Y t0))]) rfl ?_
  exact BX12_load_41 hG n10 t0 σ9 hw h0
