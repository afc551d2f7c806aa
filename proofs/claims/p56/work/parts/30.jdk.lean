-- java/lang/Math.floorMod(II)I
def wJ9_floorMod_7cf53 (ln : Nat → Nat) (σ : zS) (v0 : Int32) (v1 : Int32) (Q : Int32 → zS → Prop) : Prop := ¬ v1 = 0 ∧ ∀ x2 : Int32, x2 = v0 - v0 / v1 * v1 → ((0 ≤ (v0 ^^^ v1) → Q x2 σ) ∧ (¬ 0 ≤ (v0 ^^^ v1) → ((x2 = 0 → Q x2 σ) ∧ (¬ x2 = 0 → Q (x2 + v1) σ))))
abbrev rJ9_floorMod_7cf53 : Room := { frames := 0, cells := 0, slots := 0, locals := 0 }
set_option maxRecDepth 100000 in
set_option maxHeartbeats 4000000 in
theorem MJ9_floorMod_7cf53 (l : Launch) {E : zE} {Y : zY} {σ : zS} {v0 : Int32} {v1 : Int32} {Q : Int32 → zS → Prop} (hw : wJ9_floorMod_7cf53 (zln Y) σ v0 v1 Q) : ∀ sz, Met l yJ9_floorMod_7cf53 (zw yJ9_floorMod_7cf53 cJ9_floorMod_7cf53 3 (some .int)) rJ9_floorMod_7cf53 (zPc E Y σ sz [.int v0, .int v1]) (va_Qi Q (zB E Y sz) (zA Y sz)) 0 0 (zA Y sz) := by
  refine z_metF (own := RJ9) (Qc := fun sz => va_Qi Q (zB E Y sz) (zA Y sz)) (by decide +kernel) rfl (Nat.le_of_ble_eq_true rfl) ?_
  intro p e s m args below meth c hG hinit
  unfold wJ9_floorMod_7cf53 at hw
  refine zlv (lv' := [(0, .int v0), (1, .int v1)]) rfl ?_
  refine z_iload_n hG dJ9_floorMod_7cf53_0 rfl 0 rfl ?_
  refine z_iload_n hG dJ9_floorMod_7cf53_1 rfl 1 rfl ?_
  obtain ⟨q1, hw⟩ := hw
  refine z_irem hG dJ9_floorMod_7cf53_2 q1 ?_
  refine z_topi (fun x2 ex2 => ?_)
  have hw := hw x2 ex2
  refine z_istore_n (lv' := [(2, .int x2), (0, .int v0), (1, .int v1)]) hG dJ9_floorMod_7cf53_3 rfl (by decide) rfl ?_
  refine z_iload_n hG dJ9_floorMod_7cf53_4 rfl 1 rfl ?_
  refine z_iload_n hG dJ9_floorMod_7cf53_5 rfl 2 rfl ?_
  refine z_ixor hG dJ9_floorMod_7cf53_6 ?_
  refine z_if_ge (tgt := 18) hG dJ9_floorMod_7cf53_7 (by decide) (fun c4 => ?_) (fun c4 => ?_)
  · have hw := hw.1 c4
    refine z_iload_n hG dJ9_floorMod_7cf53_18 rfl 0 rfl ?_
    exact z_iret hG rfl rfl dJ9_floorMod_7cf53_19 hw
  · have hw := hw.2 c4
    refine z_iload_n hG dJ9_floorMod_7cf53_10 rfl 0 rfl ?_
    refine z_if_eq (tgt := 18) hG dJ9_floorMod_7cf53_11 (by decide) (fun c3 => ?_) (fun c3 => ?_)
    · have hw := hw.1 c3
      refine z_iload_n hG dJ9_floorMod_7cf53_18 rfl 0 rfl ?_
      exact z_iret hG rfl rfl dJ9_floorMod_7cf53_19 hw
    · have hw := hw.2 c3
      refine z_iload_n hG dJ9_floorMod_7cf53_14 rfl 0 rfl ?_
      refine z_iload_n hG dJ9_floorMod_7cf53_15 rfl 2 rfl ?_
      refine z_iadd hG dJ9_floorMod_7cf53_16 ?_
      exact z_iret hG rfl rfl dJ9_floorMod_7cf53_17 hw
-- jdk/internal/util/Preconditions.checkIndex(IILjava/util/function/BiFunction;)I
def wJ3_checkIndex_8e157 (ln : Nat → Nat) (σ : zS) (v0 : Int32) (v1 : Int32) (Q : Int32 → zS → Prop) : Prop := ((v0 < 0 → False) ∧ (¬ v0 < 0 → ((v0 < v1 → Q v0 σ) ∧ (¬ v0 < v1 → False))))
abbrev rJ3_checkIndex_8e157 : Room := { frames := 0, cells := 0, slots := 0, locals := 0 }
set_option maxRecDepth 100000 in
set_option maxHeartbeats 4000000 in
theorem MJ3_checkIndex_8e157 (l : Launch) {E : zE} {Y : zY} {σ : zS} {v0 : Int32} {v1 : Int32} {o2 : Option Nat} {Q : Int32 → zS → Prop} (hw : wJ3_checkIndex_8e157 (zln Y) σ v0 v1 Q) : ∀ sz, Met l yJ3_checkIndex_8e157 (zw yJ3_checkIndex_8e157 cJ3_checkIndex_8e157 3 (some .int)) rJ3_checkIndex_8e157 (zPc E Y σ sz [.int v0, .int v1, va_rf o2]) (va_Qi Q (zB E Y sz) (zA Y sz)) 0 0 (zA Y sz) := by
  refine z_met (own := RJ3) (Qc := fun sz => va_Qi Q (zB E Y sz) (zA Y sz)) (by decide +kernel) rfl (by cases o2 <;> exact Nat.le_of_ble_eq_true rfl) ?_
  intro p e s m args below meth c hG hinit
  unfold wJ3_checkIndex_8e157 at hw
  refine zlv (lv' := [(0, .int v0), (1, .int v1), (2, va_rf o2)]) rfl ?_
  refine z_iload_n hG dJ3_checkIndex_8e157_0 rfl 0 rfl ?_
  refine z_if_lt (tgt := 9) hG dJ3_checkIndex_8e157_1 (by decide) (fun c2 => ?_) (fun c2 => ?_)
  · have hw := hw.1 c2
    exact hw.elim
  · have hw := hw.2 c2
    refine z_iload_n hG dJ3_checkIndex_8e157_4 rfl 0 rfl ?_
    refine z_iload_n hG dJ3_checkIndex_8e157_5 rfl 1 rfl ?_
    refine z_icmp_lt (tgt := 16) hG dJ3_checkIndex_8e157_6 (by decide) (fun c1 => ?_) (fun c1 => ?_)
    · have hw := hw.1 c1
      refine z_iload_n hG dJ3_checkIndex_8e157_16 rfl 0 rfl ?_
      exact z_iret hG rfl rfl dJ3_checkIndex_8e157_17 hw
    · have hw := hw.2 c1
      exact hw.elim
-- java/lang/String.checkIndex(II)V
def wJ0_checkIndex_df160 (ln : Nat → Nat) (σ : zS) (v0 : Int32) (v1 : Int32) (Q : zS → Prop) : Prop := wJ3_checkIndex_8e157 ln σ v0 v1 (fun r3 σ2 => Q σ2)
abbrev rJ0_checkIndex_df160 : Room := { frames := 1, cells := 0, slots := 0, locals := 22 }
set_option maxRecDepth 100000 in
set_option maxHeartbeats 4000000 in
theorem MJ0_checkIndex_df160 (l : Launch) {E : zE} {Y : zY} {σ : zS} {v0 : Int32} {v1 : Int32} {Q : zS → Prop} (hw : wJ0_checkIndex_df160 (zln Y) σ v0 v1 Q) : ∀ sz, Met l yJ0_checkIndex_df160 (zw yJ0_checkIndex_df160 cJ0_checkIndex_df160 2 none) rJ0_checkIndex_df160 (zPc E Y σ sz [.int v0, .int v1]) (va_Qv Q (zB E Y sz) (zA Y sz)) 0 0 (zA Y sz) := by
  refine z_met (own := RJ0) (Qc := fun sz => va_Qv Q (zB E Y sz) (zA Y sz)) (by decide +kernel) rfl (Nat.le_of_ble_eq_true rfl) ?_
  intro p e s m args below meth c hG hinit
  unfold wJ0_checkIndex_df160 at hw
  refine zlv (lv' := [(0, .int v0), (1, .int v1)]) rfl ?_
  refine z_iload_n hG dJ0_checkIndex_df160_0 rfl 0 rfl ?_
  refine z_iload_n hG dJ0_checkIndex_df160_1 rfl 1 rfl ?_
  refine z_sioobe hG f_J0_1053 dJ0_checkIndex_df160_2 (fun o1 => ?_)
  refine z_calli hG (z_runS (As := [.int v0, .int v1, va_rf o1]) (st := []) hG k_J0_1059 (MJ3_checkIndex_8e157 l hw) ⟨(Nat.le_of_ble_eq_true rfl), (Nat.le_of_ble_eq_true rfl)⟩ rfl (Nat.le_of_ble_eq_true rfl) dJ0_checkIndex_df160_5 ⟨Nat.zero_le _, Nat.zero_le _⟩ rfl) (fun r3 σ2 hw => ?_)
  refine z_pop hG dJ0_checkIndex_df160_8 rfl ?_
  exact z_vret hG rfl dJ0_checkIndex_df160_9 hw
-- java/lang/String.coder()B
def wJ0_coder_7d493 (ln : Nat → Nat) (σ : zS) (s0 : Nat) (Q : Int32 → zS → Prop) : Prop := (((1 : Int32) = 0 → narrow .byte (.int 1) = .int 1 ∧ Q 1 σ) ∧ (¬ (1 : Int32) = 0 → narrow .byte (.int 0) = .int 0 ∧ Q 0 σ))
abbrev rJ0_coder_7d493 : Room := { frames := 0, cells := 0, slots := 0, locals := 0 }
set_option maxRecDepth 100000 in
set_option maxHeartbeats 4000000 in
theorem MJ0_coder_7d493 (l : Launch) {E : zE} {Y : zY} {σ : zS} {s0 : Nat} (h0 : s0 < zS_n) {Q : Int32 → zS → Prop} (hw : wJ0_coder_7d493 (zln Y) σ s0 Q) : ∀ sz, Met l yJ0_coder_7d493 (zw yJ0_coder_7d493 cJ0_coder_7d493 1 (some .byte)) rJ0_coder_7d493 (zPc E Y σ sz [.ref (E.2.2.1 s0)]) (va_Qi Q (zB E Y sz) (zA Y sz)) 0 0 (zA Y sz) := by
  refine z_met (own := RJ0) (Qc := fun sz => va_Qi Q (zB E Y sz) (zA Y sz)) (by decide +kernel) rfl (Nat.le_of_ble_eq_true rfl) ?_
  intro p e s m args below meth c hG hinit
  unfold wJ0_coder_7d493 at hw
  refine zlv (lv' := [(0, .ref (E.2.2.1 s0))]) rfl ?_
  refine z_compact hG f_J0_38 dJ0_coder_7d493_0 ?_
  refine z_if_eq (tgt := 13) hG dJ0_coder_7d493_3 (by decide) (fun c3 => ?_) (fun c3 => ?_)
  · have hw := hw.1 c3
    refine z_iconst (v := 1) hG dJ0_coder_7d493_13 (by decide) ?_
    obtain ⟨q1, hw⟩ := hw
    exact z_iret hG rfl q1 dJ0_coder_7d493_14 hw
  · have hw := hw.2 c3
    refine z_aload_n hG dJ0_coder_7d493_6 rfl 0 rfl ?_
    refine z_scod hG h0 fs_J0_15 dJ0_coder_7d493_7 ?_
    refine z_goto (tgt := 14) hG dJ0_coder_7d493_10 (by decide) ?_
    obtain ⟨q2, hw⟩ := hw
    exact z_iret hG rfl q2 dJ0_coder_7d493_14 hw
-- java/lang/String.isLatin1()Z
def wJ0_isLatin1_aae02 (ln : Nat → Nat) (σ : zS) (s0 : Nat) (Q : Int32 → zS → Prop) : Prop := (((1 : Int32) = 0 → Q 0 σ) ∧ (¬ (1 : Int32) = 0 → (((0 : Int32) = 0 → Q 1 σ) ∧ (¬ (0 : Int32) = 0 → Q 0 σ))))
abbrev rJ0_isLatin1_aae02 : Room := { frames := 0, cells := 0, slots := 0, locals := 0 }
set_option maxRecDepth 100000 in
set_option maxHeartbeats 4000000 in
theorem MJ0_isLatin1_aae02 (l : Launch) {E : zE} {Y : zY} {σ : zS} {s0 : Nat} (h0 : s0 < zS_n) {Q : Int32 → zS → Prop} (hw : wJ0_isLatin1_aae02 (zln Y) σ s0 Q) : ∀ sz, Met l yJ0_isLatin1_aae02 (zw yJ0_isLatin1_aae02 cJ0_isLatin1_aae02 1 (some .boolean)) rJ0_isLatin1_aae02 (zPc E Y σ sz [.ref (E.2.2.1 s0)]) (va_Qi Q (zB E Y sz) (zA Y sz)) 0 0 (zA Y sz) := by
  refine z_met (own := RJ0) (Qc := fun sz => va_Qi Q (zB E Y sz) (zA Y sz)) (by decide +kernel) rfl (Nat.le_of_ble_eq_true rfl) ?_
  intro p e s m args below meth c hG hinit
  unfold wJ0_isLatin1_aae02 at hw
  refine zlv (lv' := [(0, .ref (E.2.2.1 s0))]) rfl ?_
  refine z_compact hG f_J0_38 dJ0_isLatin1_aae02_0 ?_
  refine z_if_eq (tgt := 17) hG dJ0_isLatin1_aae02_3 (by decide) (fun c2 => ?_) (fun c2 => ?_)
  · have hw := hw.1 c2
    refine z_iconst (v := 0) hG dJ0_isLatin1_aae02_17 (by decide) ?_
    exact z_iret hG rfl (by decide +kernel) dJ0_isLatin1_aae02_18 hw
  · have hw := hw.2 c2
    refine z_aload_n hG dJ0_isLatin1_aae02_6 rfl 0 rfl ?_
    refine z_scod hG h0 fs_J0_15 dJ0_isLatin1_aae02_7 ?_
    refine z_if_ne (tgt := 17) hG dJ0_isLatin1_aae02_10 (by decide) (fun c1 => ?_) (fun c1 => ?_)
    · have hw := hw.2 c1
      refine z_iconst (v := 0) hG dJ0_isLatin1_aae02_17 (by decide) ?_
      exact z_iret hG rfl (by decide +kernel) dJ0_isLatin1_aae02_18 hw
    · have hw := hw.1 c1
      refine z_iconst (v := 1) hG dJ0_isLatin1_aae02_13 (by decide) ?_
      refine z_goto (tgt := 18) hG dJ0_isLatin1_aae02_14 (by decide) ?_
      exact z_iret hG rfl (by decide +kernel) dJ0_isLatin1_aae02_18 hw
-- java/lang/StringLatin1.charAt([BI)C
def wJ1_charAt_3b067_b0 (ln : Nat → Nat) (σ : zS) (s0 : Nat) (v1 : Int32) (Q : Int32 → zS → Prop) : Prop := ∀ x1 : Int32, x1 = nI (zSlen.getD s0 0) → wJ0_checkIndex_df160 ln σ v1 x1 (fun σ2 => vp_in v1 (zSlen.getD s0 0) ∧ ∀ x4 : Int32, x4 = ((zSbyt.getD s0 []).getD v1.toNatClampNeg 0) &&& 255 → Q ((x4.toUInt32 % 65536).toInt32) σ2)
abbrev rJ1_charAt_3b067_b0 : Room := { frames := 2, cells := 0, slots := 0, locals := 43 }
set_option maxRecDepth 100000 in
set_option maxHeartbeats 4000000 in
theorem MJ1_charAt_3b067_b0 (l : Launch) {E : zE} {Y : zY} {σ : zS} {s0 : Nat} {v1 : Int32} (h0 : s0 < zS_n) {Q : Int32 → zS → Prop} (hw : wJ1_charAt_3b067_b0 (zln Y) σ s0 v1 Q) : ∀ sz, Met l yJ1_charAt_3b067 (zw yJ1_charAt_3b067 cJ1_charAt_3b067 2 (some .char)) rJ1_charAt_3b067_b0 (zPc E Y σ sz [.ref (E.2.2.2 s0), .int v1]) (va_Qi Q (zB E Y sz) (zA Y sz)) 0 0 (zA Y sz) := by
  refine z_met (own := RJ1) (Qc := fun sz => va_Qi Q (zB E Y sz) (zA Y sz)) (by decide +kernel) rfl (Nat.le_of_ble_eq_true rfl) ?_
  intro p e s m args below meth c hG hinit
  unfold wJ1_charAt_3b067_b0 at hw
  refine zlv (lv' := [(0, .ref (E.2.2.2 s0)), (1, .int v1)]) rfl ?_
  refine z_iload_n hG dJ1_charAt_3b067_0 rfl 1 rfl ?_
  refine z_aload_n hG dJ1_charAt_3b067_1 rfl 0 rfl ?_
  refine z_salen hG h0 dJ1_charAt_3b067_2 ?_
  refine z_topi (fun x1 ex1 => ?_)
  have hw := hw x1 ex1
  refine z_callv hG (z_runS (As := [.int v1, .int x1]) (st := []) hG k_J1_9 (MJ0_checkIndex_df160 l hw) ⟨(Nat.le_of_ble_eq_true rfl), (Nat.le_of_ble_eq_true rfl)⟩ rfl (Nat.le_of_ble_eq_true rfl) dJ1_charAt_3b067_3 ⟨Nat.zero_le _, Nat.zero_le _⟩ rfl) (fun σ2 hw => ?_)
  refine z_aload_n hG dJ1_charAt_3b067_6 rfl 0 rfl ?_
  refine z_iload_n hG dJ1_charAt_3b067_7 rfl 1 rfl ?_
  obtain ⟨q3, hw⟩ := hw
  refine z_sbald hG h0 q3 dJ1_charAt_3b067_8 ?_
  refine z_sipush (v := 255) hG dJ1_charAt_3b067_9 (by decide) ?_
  refine z_iand hG dJ1_charAt_3b067_12 ?_
  refine z_topi (fun x4 ex4 => ?_)
  have hw := hw x4 ex4
  refine z_i2c hG dJ1_charAt_3b067_13 ?_
  exact z_iret hG rfl (pk_nc _) dJ1_charAt_3b067_14 hw
-- java/lang/StringLatin1.charAt([BI)C
def wJ1_charAt_3b067 (ln : Nat → Nat) (σ : zS) (t0 : Nat) (v1 : Int32) (Q : Int32 → zS → Prop) : Prop := ∀ x1 : Int32, x1 = nI (ln t0) → wJ0_checkIndex_df160 ln σ v1 x1 (fun σ2 => vp_in v1 (ln t0) ∧ ∀ x4 : Int32, x4 = (gi σ2 t0 v1.toNatClampNeg) &&& 255 → Q ((x4.toUInt32 % 65536).toInt32) σ2)
abbrev rJ1_charAt_3b067 : Room := { frames := 2, cells := 0, slots := 0, locals := 43 }
set_option maxRecDepth 100000 in
set_option maxHeartbeats 4000000 in
theorem MJ1_charAt_3b067 (l : Launch) {E : zE} {Y : zY} {σ : zS} {t0 : Nat} {v1 : Int32} (h0 : zT Y 21 t0) {Q : Int32 → zS → Prop} (hw : wJ1_charAt_3b067 (zln Y) σ t0 v1 Q) : ∀ sz, Met l yJ1_charAt_3b067 (zw yJ1_charAt_3b067 cJ1_charAt_3b067 2 (some .char)) rJ1_charAt_3b067 (zPc E Y σ sz [.ref (za Y t0), .int v1]) (va_Qi Q (zB E Y sz) (zA Y sz)) 0 0 (zA Y sz) := by
  refine z_met (own := RJ1) (Qc := fun sz => va_Qi Q (zB E Y sz) (zA Y sz)) (by decide +kernel) rfl (Nat.le_of_ble_eq_true rfl) ?_
  intro p e s m args below meth c hG hinit
  unfold wJ1_charAt_3b067 at hw
  refine zlv (lv' := [(0, .ref (za Y t0)), (1, .int v1)]) rfl ?_
  refine z_iload_n hG dJ1_charAt_3b067_0 rfl 1 rfl ?_
  refine z_aload_n hG dJ1_charAt_3b067_1 rfl 0 rfl ?_
  refine z_alen hG h0 (by decide) (t0 := 1) rfl dJ1_charAt_3b067_2 ?_
  refine z_topi (fun x1 ex1 => ?_)
  have hw := hw x1 ex1
  refine z_callv hG (z_runS (As := [.int v1, .int x1]) (st := []) hG k_J1_9 (MJ0_checkIndex_df160 l hw) ⟨(Nat.le_of_ble_eq_true rfl), (Nat.le_of_ble_eq_true rfl)⟩ rfl (Nat.le_of_ble_eq_true rfl) dJ1_charAt_3b067_3 ⟨Nat.zero_le _, Nat.zero_le _⟩ rfl) (fun σ2 hw => ?_)
  refine z_aload_n hG dJ1_charAt_3b067_6 rfl 0 rfl ?_
  refine z_iload_n hG dJ1_charAt_3b067_7 rfl 1 rfl ?_
  obtain ⟨q3, hw⟩ := hw
  refine z_bald hG h0 q3 dJ1_charAt_3b067_8 ?_
  refine z_sipush (v := 255) hG dJ1_charAt_3b067_9 (by decide) ?_
  refine z_iand hG dJ1_charAt_3b067_12 ?_
  refine z_topi (fun x4 ex4 => ?_)
  have hw := hw x4 ex4
  refine z_i2c hG dJ1_charAt_3b067_13 ?_
  exact z_iret hG rfl (pk_nc _) dJ1_charAt_3b067_14 hw
-- java/lang/String.length()I
def wJ0_length_8abf5 (ln : Nat → Nat) (σ : zS) (s0 : Nat) (Q : Int32 → zS → Prop) : Prop := wJ0_coder_7d493 ln σ s0 (fun r2 σ1 => Q ((nI (zSlen.getD s0 0)) >>> (r2 &&& 31)) σ1)
abbrev rJ0_length_8abf5 : Room := { frames := 1, cells := 0, slots := 0, locals := 20 }
set_option maxRecDepth 100000 in
set_option maxHeartbeats 4000000 in
theorem MJ0_length_8abf5 (l : Launch) {E : zE} {Y : zY} {σ : zS} {s0 : Nat} (h0 : s0 < zS_n) {Q : Int32 → zS → Prop} (hw : wJ0_length_8abf5 (zln Y) σ s0 Q) : ∀ sz, Met l yJ0_length_8abf5 (zw yJ0_length_8abf5 cJ0_length_8abf5 1 (some .int)) rJ0_length_8abf5 (zPc E Y σ sz [.ref (E.2.2.1 s0)]) (va_Qi Q (zB E Y sz) (zA Y sz)) 0 0 (zA Y sz) := by
  refine z_met (own := RJ0) (Qc := fun sz => va_Qi Q (zB E Y sz) (zA Y sz)) (by decide +kernel) rfl (Nat.le_of_ble_eq_true rfl) ?_
  intro p e s m args below meth c hG hinit
  unfold wJ0_length_8abf5 at hw
  refine zlv (lv' := [(0, .ref (E.2.2.1 s0))]) rfl ?_
  refine z_aload_n hG dJ0_length_8abf5_0 rfl 0 rfl ?_
  refine z_sval hG h0 fs_J0_9 dJ0_length_8abf5_1 ?_
  refine z_salen hG h0 dJ0_length_8abf5_4 ?_
  refine z_aload_n hG dJ0_length_8abf5_5 rfl 0 rfl ?_
  refine z_calli hG (z_runVs (As := []) (st := [.int (nI (zSlen.getD s0 0))]) hG k_J0_335 (MJ0_coder_7d493 l h0 hw) ⟨(Nat.le_of_ble_eq_true rfl), (Nat.le_of_ble_eq_true rfl)⟩ h0 rfl (Nat.le_of_ble_eq_true rfl) dJ0_length_8abf5_6 ⟨Nat.zero_le _, Nat.zero_le _⟩ rfl) (fun r2 σ1 hw => ?_)
  refine z_ishr hG dJ0_length_8abf5_9 ?_
  exact z_iret hG rfl rfl dJ0_length_8abf5_10 hw
-- java/lang/String.charAt(I)C
def wJ0_charAt_5068e (ln : Nat → Nat) (σ : zS) (s0 : Nat) (v1 : Int32) (Q : Int32 → zS → Prop) : Prop := wJ0_isLatin1_aae02 ln σ s0 (fun r2 σ1 => ((r2 = 0 → False) ∧ (¬ r2 = 0 → wJ1_charAt_3b067_b0 ln σ1 s0 v1 (fun r4 σ3 => narrow .char (.int r4) = .int r4 ∧ Q r4 σ3))))
abbrev rJ0_charAt_5068e : Room := { frames := 3, cells := 0, slots := 0, locals := 64 }
set_option maxRecDepth 100000 in
set_option maxHeartbeats 4000000 in
theorem MJ0_charAt_5068e (l : Launch) {E : zE} {Y : zY} {σ : zS} {s0 : Nat} {v1 : Int32} (h0 : s0 < zS_n) {Q : Int32 → zS → Prop} (hw : wJ0_charAt_5068e (zln Y) σ s0 v1 Q) : ∀ sz, Met l yJ0_charAt_5068e (zw yJ0_charAt_5068e cJ0_charAt_5068e 2 (some .char)) rJ0_charAt_5068e (zPc E Y σ sz [.ref (E.2.2.1 s0), .int v1]) (va_Qi Q (zB E Y sz) (zA Y sz)) 0 0 (zA Y sz) := by
  refine z_met (own := RJ0) (Qc := fun sz => va_Qi Q (zB E Y sz) (zA Y sz)) (by decide +kernel) rfl (Nat.le_of_ble_eq_true rfl) ?_
  intro p e s m args below meth c hG hinit
  unfold wJ0_charAt_5068e at hw
  refine zlv (lv' := [(0, .ref (E.2.2.1 s0)), (1, .int v1)]) rfl ?_
  refine z_aload_n hG dJ0_charAt_5068e_0 rfl 0 rfl ?_
  refine z_calli hG (z_runVs (As := []) (st := []) hG k_J0_492 (MJ0_isLatin1_aae02 l h0 hw) ⟨(Nat.le_of_ble_eq_true rfl), (Nat.le_of_ble_eq_true rfl)⟩ h0 rfl (Nat.le_of_ble_eq_true rfl) dJ0_charAt_5068e_1 ⟨Nat.zero_le _, Nat.zero_le _⟩ rfl) (fun r2 σ1 hw => ?_)
  refine z_if_eq (tgt := 16) hG dJ0_charAt_5068e_4 (by decide) (fun c6 => ?_) (fun c6 => ?_)
  · have hw := hw.1 c6
    exact hw.elim
  · have hw := hw.2 c6
    refine z_aload_n hG dJ0_charAt_5068e_7 rfl 0 rfl ?_
    refine z_sval hG h0 fs_J0_9 dJ0_charAt_5068e_8 ?_
    refine z_iload_n hG dJ0_charAt_5068e_11 rfl 1 rfl ?_
    refine z_calli hG (z_runS (As := [.ref (E.2.2.2 s0), .int v1]) (st := []) hG k_J0_495 (MJ1_charAt_3b067_b0 l h0 hw) ⟨(Nat.le_of_ble_eq_true rfl), (Nat.le_of_ble_eq_true rfl)⟩ rfl (Nat.le_of_ble_eq_true rfl) dJ0_charAt_5068e_12 ⟨Nat.zero_le _, Nat.zero_le _⟩ rfl) (fun r4 σ3 hw => ?_)
    obtain ⟨q5, hw⟩ := hw
    exact z_iret hG rfl q5 dJ0_charAt_5068e_15 hw
-- java/lang/String.coder()B
def wJ0_coder_7d493_r (ln : Nat → Nat) (σ : zS) (t0 : Nat) (Q : Int32 → zS → Prop) : Prop := (((1 : Int32) = 0 → narrow .byte (.int 1) = .int 1 ∧ Q 1 σ) ∧ (¬ (1 : Int32) = 0 → ∀ x2 : Int32, x2 = gi σ t0 1 → narrow .byte (.int x2) = .int x2 ∧ Q x2 σ))
abbrev rJ0_coder_7d493_r : Room := { frames := 0, cells := 0, slots := 0, locals := 0 }
set_option maxRecDepth 100000 in
set_option maxHeartbeats 4000000 in
theorem MJ0_coder_7d493_r (l : Launch) {E : zE} {Y : zY} {σ : zS} {t0 : Nat} (h0 : zT Y 12 t0) {Q : Int32 → zS → Prop} (hw : wJ0_coder_7d493_r (zln Y) σ t0 Q) : ∀ sz, Met l yJ0_coder_7d493 (zw yJ0_coder_7d493 cJ0_coder_7d493 1 (some .byte)) rJ0_coder_7d493_r (zPc E Y σ sz [.ref (za Y t0)]) (va_Qi Q (zB E Y sz) (zA Y sz)) 0 0 (zA Y sz) := by
  refine z_met (own := RJ0) (Qc := fun sz => va_Qi Q (zB E Y sz) (zA Y sz)) (by decide +kernel) rfl (Nat.le_of_ble_eq_true rfl) ?_
  intro p e s m args below meth c hG hinit
  unfold wJ0_coder_7d493_r at hw
  refine zlv (lv' := [(0, .ref (za Y t0))]) rfl ?_
  refine z_compact hG f_J0_38 dJ0_coder_7d493_0 ?_
  refine z_if_eq (tgt := 13) hG dJ0_coder_7d493_3 (by decide) (fun c4 => ?_) (fun c4 => ?_)
  · have hw := hw.1 c4
    refine z_iconst (v := 1) hG dJ0_coder_7d493_13 (by decide) ?_
    obtain ⟨q1, hw⟩ := hw
    exact z_iret hG rfl q1 dJ0_coder_7d493_14 hw
  · have hw := hw.2 c4
    refine z_aload_n hG dJ0_coder_7d493_6 rfl 0 rfl ?_
    refine z_geti hG f_J0_15 h0 rfl dJ0_coder_7d493_7 ?_
    refine z_goto (tgt := 14) hG dJ0_coder_7d493_10 (by decide) ?_
    refine z_topi (fun x2 ex2 => ?_)
    have hw := hw x2 ex2
    obtain ⟨q3, hw⟩ := hw
    exact z_iret hG rfl q3 dJ0_coder_7d493_14 hw
-- java/lang/String.isLatin1()Z
def wJ0_isLatin1_aae02_r (ln : Nat → Nat) (σ : zS) (t0 : Nat) (Q : Int32 → zS → Prop) : Prop := (((1 : Int32) = 0 → Q 0 σ) ∧ (¬ (1 : Int32) = 0 → (((gi σ t0 1) = 0 → Q 1 σ) ∧ (¬ (gi σ t0 1) = 0 → Q 0 σ))))
abbrev rJ0_isLatin1_aae02_r : Room := { frames := 0, cells := 0, slots := 0, locals := 0 }
set_option maxRecDepth 100000 in
set_option maxHeartbeats 4000000 in
theorem MJ0_isLatin1_aae02_r (l : Launch) {E : zE} {Y : zY} {σ : zS} {t0 : Nat} (h0 : zT Y 12 t0) {Q : Int32 → zS → Prop} (hw : wJ0_isLatin1_aae02_r (zln Y) σ t0 Q) : ∀ sz, Met l yJ0_isLatin1_aae02 (zw yJ0_isLatin1_aae02 cJ0_isLatin1_aae02 1 (some .boolean)) rJ0_isLatin1_aae02_r (zPc E Y σ sz [.ref (za Y t0)]) (va_Qi Q (zB E Y sz) (zA Y sz)) 0 0 (zA Y sz) := by
  refine z_met (own := RJ0) (Qc := fun sz => va_Qi Q (zB E Y sz) (zA Y sz)) (by decide +kernel) rfl (Nat.le_of_ble_eq_true rfl) ?_
  intro p e s m args below meth c hG hinit
  unfold wJ0_isLatin1_aae02_r at hw
  refine zlv (lv' := [(0, .ref (za Y t0))]) rfl ?_
  refine z_compact hG f_J0_38 dJ0_isLatin1_aae02_0 ?_
  refine z_if_eq (tgt := 17) hG dJ0_isLatin1_aae02_3 (by decide) (fun c2 => ?_) (fun c2 => ?_)
  · have hw := hw.1 c2
    refine z_iconst (v := 0) hG dJ0_isLatin1_aae02_17 (by decide) ?_
    exact z_iret hG rfl (by decide +kernel) dJ0_isLatin1_aae02_18 hw
  · have hw := hw.2 c2
    refine z_aload_n hG dJ0_isLatin1_aae02_6 rfl 0 rfl ?_
    refine z_geti hG f_J0_15 h0 rfl dJ0_isLatin1_aae02_7 ?_
    refine z_if_ne (tgt := 17) hG dJ0_isLatin1_aae02_10 (by decide) (fun c1 => ?_) (fun c1 => ?_)
    · have hw := hw.2 c1
      refine z_iconst (v := 0) hG dJ0_isLatin1_aae02_17 (by decide) ?_
      exact z_iret hG rfl (by decide +kernel) dJ0_isLatin1_aae02_18 hw
    · have hw := hw.1 c1
      refine z_iconst (v := 1) hG dJ0_isLatin1_aae02_13 (by decide) ?_
      refine z_goto (tgt := 18) hG dJ0_isLatin1_aae02_14 (by decide) ?_
      exact z_iret hG rfl (by decide +kernel) dJ0_isLatin1_aae02_18 hw
-- java/lang/String.length()I
def wJ0_length_8abf5_r (ln : Nat → Nat) (σ : zS) (t0 : Nat) (Q : Int32 → zS → Prop) : Prop := ∃ j1 : Nat, gr σ t0 0 = some j1 ∧ wJ0_coder_7d493_r ln σ t0 (fun r3 σ2 => Q ((nI (ln j1)) >>> (r3 &&& 31)) σ2)
abbrev rJ0_length_8abf5_r : Room := { frames := 1, cells := 0, slots := 0, locals := 20 }
set_option maxRecDepth 100000 in
set_option maxHeartbeats 4000000 in
theorem MJ0_length_8abf5_r (l : Launch) {E : zE} {Y : zY} {σ : zS} {t0 : Nat} (h0 : zT Y 12 t0) {Q : Int32 → zS → Prop} (hw : wJ0_length_8abf5_r (zln Y) σ t0 Q) : ∀ sz, Met l yJ0_length_8abf5 (zw yJ0_length_8abf5 cJ0_length_8abf5 1 (some .int)) rJ0_length_8abf5_r (zPc E Y σ sz [.ref (za Y t0)]) (va_Qi Q (zB E Y sz) (zA Y sz)) 0 0 (zA Y sz) := by
  refine z_met (own := RJ0) (Qc := fun sz => va_Qi Q (zB E Y sz) (zA Y sz)) (by decide +kernel) rfl (Nat.le_of_ble_eq_true rfl) ?_
  intro p e s m args below meth c hG hinit
  unfold wJ0_length_8abf5_r at hw
  refine zlv (lv' := [(0, .ref (za Y t0))]) rfl ?_
  refine z_aload_n hG dJ0_length_8abf5_0 rfl 0 rfl ?_
  obtain ⟨j1, ej1, hw⟩ := hw
  refine z_getr (kq := 21) hG f_J0_9 h0 rfl ej1 rfl (by decide) dJ0_length_8abf5_1 (fun hj1 => ?_)
  refine z_alen hG hj1 (by decide) (t0 := 1) rfl dJ0_length_8abf5_4 ?_
  refine z_aload_n hG dJ0_length_8abf5_5 rfl 0 rfl ?_
  refine z_calli hG (z_runV (As := []) (st := [.int (nI ((zln Y) j1))]) hG k_J0_335 (MJ0_coder_7d493_r l h0 hw) ⟨(Nat.le_of_ble_eq_true rfl), (Nat.le_of_ble_eq_true rfl)⟩ h0 (T := TJ0) (N := 4) rfl (by decide) rfl (Nat.le_of_ble_eq_true rfl) dJ0_length_8abf5_6 ⟨Nat.zero_le _, Nat.zero_le _⟩ rfl) (fun r3 σ2 hw => ?_)
  refine z_ishr hG dJ0_length_8abf5_9 ?_
  exact z_iret hG rfl rfl dJ0_length_8abf5_10 hw
-- java/lang/String.charAt(I)C
def wJ0_charAt_5068e_r (ln : Nat → Nat) (σ : zS) (t0 : Nat) (v1 : Int32) (Q : Int32 → zS → Prop) : Prop := wJ0_isLatin1_aae02_r ln σ t0 (fun r2 σ1 => ((r2 = 0 → False) ∧ (¬ r2 = 0 → ∃ j4 : Nat, gr σ1 t0 0 = some j4 ∧ wJ1_charAt_3b067 ln σ1 j4 v1 (fun r6 σ5 => narrow .char (.int r6) = .int r6 ∧ Q r6 σ5))))
abbrev rJ0_charAt_5068e_r : Room := { frames := 3, cells := 0, slots := 0, locals := 64 }
set_option maxRecDepth 100000 in
set_option maxHeartbeats 4000000 in
theorem MJ0_charAt_5068e_r (l : Launch) {E : zE} {Y : zY} {σ : zS} {t0 : Nat} {v1 : Int32} (h0 : zT Y 12 t0) {Q : Int32 → zS → Prop} (hw : wJ0_charAt_5068e_r (zln Y) σ t0 v1 Q) : ∀ sz, Met l yJ0_charAt_5068e (zw yJ0_charAt_5068e cJ0_charAt_5068e 2 (some .char)) rJ0_charAt_5068e_r (zPc E Y σ sz [.ref (za Y t0), .int v1]) (va_Qi Q (zB E Y sz) (zA Y sz)) 0 0 (zA Y sz) := by
  refine z_met (own := RJ0) (Qc := fun sz => va_Qi Q (zB E Y sz) (zA Y sz)) (by decide +kernel) rfl (Nat.le_of_ble_eq_true rfl) ?_
  intro p e s m args below meth c hG hinit
  unfold wJ0_charAt_5068e_r at hw
  refine zlv (lv' := [(0, .ref (za Y t0)), (1, .int v1)]) rfl ?_
  refine z_aload_n hG dJ0_charAt_5068e_0 rfl 0 rfl ?_
  refine z_calli hG (z_runV (As := []) (st := []) hG k_J0_492 (MJ0_isLatin1_aae02_r l h0 hw) ⟨(Nat.le_of_ble_eq_true rfl), (Nat.le_of_ble_eq_true rfl)⟩ h0 (T := TJ0) (N := 4) rfl (by decide) rfl (Nat.le_of_ble_eq_true rfl) dJ0_charAt_5068e_1 ⟨Nat.zero_le _, Nat.zero_le _⟩ rfl) (fun r2 σ1 hw => ?_)
  refine z_if_eq (tgt := 16) hG dJ0_charAt_5068e_4 (by decide) (fun c8 => ?_) (fun c8 => ?_)
  · have hw := hw.1 c8
    exact hw.elim
  · have hw := hw.2 c8
    refine z_aload_n hG dJ0_charAt_5068e_7 rfl 0 rfl ?_
    obtain ⟨j4, ej4, hw⟩ := hw
    refine z_getr (kq := 21) hG f_J0_9 h0 rfl ej4 rfl (by decide) dJ0_charAt_5068e_8 (fun hj4 => ?_)
    refine z_iload_n hG dJ0_charAt_5068e_11 rfl 1 rfl ?_
    refine z_calli hG (z_runS (As := [.ref (za Y j4), .int v1]) (st := []) hG k_J0_495 (MJ1_charAt_3b067 l hj4 hw) ⟨(Nat.le_of_ble_eq_true rfl), (Nat.le_of_ble_eq_true rfl)⟩ rfl (Nat.le_of_ble_eq_true rfl) dJ0_charAt_5068e_12 ⟨Nat.zero_le _, Nat.zero_le _⟩ rfl) (fun r6 σ5 hw => ?_)
    obtain ⟨q7, hw⟩ := hw
    exact z_iret hG rfl q7 dJ0_charAt_5068e_15 hw
-- java/lang/String.isEmpty()Z
def wJ0_isEmpty_aae02_r (ln : Nat → Nat) (σ : zS) (t0 : Nat) (Q : Int32 → zS → Prop) : Prop := ∃ j1 : Nat, gr σ t0 0 = some j1 ∧ (((nI (ln j1)) = 0 → Q 1 σ) ∧ (¬ (nI (ln j1)) = 0 → Q 0 σ))
abbrev rJ0_isEmpty_aae02_r : Room := { frames := 0, cells := 0, slots := 0, locals := 0 }
set_option maxRecDepth 100000 in
set_option maxHeartbeats 4000000 in
theorem MJ0_isEmpty_aae02_r (l : Launch) {E : zE} {Y : zY} {σ : zS} {t0 : Nat} (h0 : zT Y 12 t0) {Q : Int32 → zS → Prop} (hw : wJ0_isEmpty_aae02_r (zln Y) σ t0 Q) : ∀ sz, Met l yJ0_isEmpty_aae02 (zw yJ0_isEmpty_aae02 cJ0_isEmpty_aae02 1 (some .boolean)) rJ0_isEmpty_aae02_r (zPc E Y σ sz [.ref (za Y t0)]) (va_Qi Q (zB E Y sz) (zA Y sz)) 0 0 (zA Y sz) := by
  refine z_met (own := RJ0) (Qc := fun sz => va_Qi Q (zB E Y sz) (zA Y sz)) (by decide +kernel) rfl (Nat.le_of_ble_eq_true rfl) ?_
  intro p e s m args below meth c hG hinit
  unfold wJ0_isEmpty_aae02_r at hw
  refine zlv (lv' := [(0, .ref (za Y t0))]) rfl ?_
  refine z_aload_n hG dJ0_isEmpty_aae02_0 rfl 0 rfl ?_
  obtain ⟨j1, ej1, hw⟩ := hw
  refine z_getr (kq := 21) hG f_J0_9 h0 rfl ej1 rfl (by decide) dJ0_isEmpty_aae02_1 (fun hj1 => ?_)
  refine z_alen hG hj1 (by decide) (t0 := 1) rfl dJ0_isEmpty_aae02_4 ?_
  refine z_if_ne (tgt := 12) hG dJ0_isEmpty_aae02_5 (by decide) (fun c2 => ?_) (fun c2 => ?_)
  · have hw := hw.2 c2
    refine z_iconst (v := 0) hG dJ0_isEmpty_aae02_12 (by decide) ?_
    exact z_iret hG rfl (by decide +kernel) dJ0_isEmpty_aae02_13 hw
  · have hw := hw.1 c2
    refine z_iconst (v := 1) hG dJ0_isEmpty_aae02_8 (by decide) ?_
    refine z_goto (tgt := 13) hG dJ0_isEmpty_aae02_9 (by decide) ?_
    exact z_iret hG rfl (by decide +kernel) dJ0_isEmpty_aae02_13 hw
def wJ0_length_8abf5_q (ln : Nat → Nat) (σ : zS) (c0 : Nat) (Q : Int32 → zS → Prop) : Prop := (c0 % 2 = 0 → wJ0_length_8abf5 ln σ (c0 / 2) Q) ∧ (¬ c0 % 2 = 0 → wJ0_length_8abf5_r ln σ (c0 / 2) Q)
abbrev rJ0_length_8abf5_q : Room := rJ0_length_8abf5
theorem MJ0_length_8abf5_q (l : Launch) {E : zE} {Y : zY} {σ : zS} {c0 : Nat} (h0 : zSq Y c0) {Q : Int32 → zS → Prop} (hw : wJ0_length_8abf5_q (zln Y) σ c0 Q) : ∀ sz, Met l yJ0_length_8abf5 (zw yJ0_length_8abf5 cJ0_length_8abf5 1 (some .int)) rJ0_length_8abf5_q (zPc E Y σ sz [.ref (zSa E Y c0)]) (va_Qi Q (zB E Y sz) (zA Y sz)) 0 0 (zA Y sz) := by
  unfold zSq at h0
  unfold zSa
  split at h0
  · rename_i hz
    rw [if_pos hz]
    exact MJ0_length_8abf5 l h0 (hw.1 hz)
  · rename_i hz
    rw [if_neg hz]
    exact MJ0_length_8abf5_r l h0 (hw.2 hz)
def wJ0_charAt_5068e_q (ln : Nat → Nat) (σ : zS) (c0 : Nat) (v1 : Int32) (Q : Int32 → zS → Prop) : Prop := (c0 % 2 = 0 → wJ0_charAt_5068e ln σ (c0 / 2) v1 Q) ∧ (¬ c0 % 2 = 0 → wJ0_charAt_5068e_r ln σ (c0 / 2) v1 Q)
abbrev rJ0_charAt_5068e_q : Room := rJ0_charAt_5068e
theorem MJ0_charAt_5068e_q (l : Launch) {E : zE} {Y : zY} {σ : zS} {c0 : Nat} {v1 : Int32} (h0 : zSq Y c0) {Q : Int32 → zS → Prop} (hw : wJ0_charAt_5068e_q (zln Y) σ c0 v1 Q) : ∀ sz, Met l yJ0_charAt_5068e (zw yJ0_charAt_5068e cJ0_charAt_5068e 2 (some .char)) rJ0_charAt_5068e_q (zPc E Y σ sz [.ref (zSa E Y c0), .int v1]) (va_Qi Q (zB E Y sz) (zA Y sz)) 0 0 (zA Y sz) := by
  unfold zSq at h0
  unfold zSa
  split at h0
  · rename_i hz
    rw [if_pos hz]
    exact MJ0_charAt_5068e l h0 (hw.1 hz)
  · rename_i hz
    rw [if_neg hz]
    exact MJ0_charAt_5068e_r l h0 (hw.2 hz)
