-- java/lang/StringLatin1.canEncode(C)Z
def wJ1_canEncode_fc78d (ln : Nat → Nat) (σ : zS) (v0 : Int32) (Q : Int32 → zS → Prop) : Prop := ((255 < v0 → Q 0 σ) ∧ (¬ 255 < v0 → Q 1 σ))
abbrev rJ1_canEncode_fc78d : Room := { frames := 0, cells := 0, slots := 0, locals := 0 }
set_option maxRecDepth 100000 in
set_option maxHeartbeats 4000000 in
theorem MJ1_canEncode_fc78d (l : Launch) {E : zE} {Y : zY} {σ : zS} {v0 : Int32} {Q : Int32 → zS → Prop} (hw : wJ1_canEncode_fc78d (zln Y) σ v0 Q) : ∀ sz, Met l yJ1_canEncode_fc78d (zw yJ1_canEncode_fc78d cJ1_canEncode_fc78d 1 (some .boolean)) rJ1_canEncode_fc78d (zPc E Y σ sz [.int v0]) (va_Qi Q (zB E Y sz) (zA Y sz)) 0 0 (zA Y sz) := by
  refine z_met (own := RJ1) (Qc := fun sz => va_Qi Q (zB E Y sz) (zA Y sz)) (by decide +kernel) rfl (Nat.le_of_ble_eq_true rfl) ?_
  intro p e s m args below meth c hG hinit
  unfold wJ1_canEncode_fc78d at hw
  refine zlv (lv' := [(0, .int v0)]) rfl ?_
  refine z_iload_n hG dJ1_canEncode_fc78d_0 rfl 0 rfl ?_
  refine z_sipush (v := 255) hG dJ1_canEncode_fc78d_1 (by decide) ?_
  refine z_icmp_gt (tgt := 11) hG dJ1_canEncode_fc78d_4 (by decide) (fun c1 => ?_) (fun c1 => ?_)
  · have hw := hw.1 c1
    refine z_iconst (v := 0) hG dJ1_canEncode_fc78d_11 (by decide) ?_
    exact z_iret hG rfl (by decide +kernel) dJ1_canEncode_fc78d_12 hw
  · have hw := hw.2 c1
    refine z_iconst (v := 1) hG dJ1_canEncode_fc78d_7 (by decide) ?_
    refine z_goto (tgt := 12) hG dJ1_canEncode_fc78d_8 (by decide) ?_
    exact z_iret hG rfl (by decide +kernel) dJ1_canEncode_fc78d_12 hw
-- java/lang/Integer.stringSize(I)I
def wJ6_stringSize_0f7a4_16 (ln : Nat → Nat) (Q : Int32 → zS → Prop) : Nat → Int32 → Int32 → Int32 → Int32 → zS → Prop
  | 0, _, _, _, _, _ => False
  | n + 1, v0, v1, v2, v3, σ => ((10 ≤ v3 → Q (10 + v1) σ) ∧ (¬ 10 ≤ v3 → ((v0 ≤ v2 → ∀ x1 : Int32, x1 = 10 * v2 → ∀ x2 : Int32, x2 = v3 + 1 → (wJ6_stringSize_0f7a4_16 ln Q n) v0 v1 x1 x2 σ) ∧ (¬ v0 ≤ v2 → Q (v3 + v1) σ))))
def wJ6_stringSize_0f7a4_11 (ln : Nat → Nat) (Q : Int32 → zS → Prop) (v0 : Int32) (v1 : Int32) (σ : zS) : Prop := ∃ n1 : Nat, wJ6_stringSize_0f7a4_16 ln Q n1 v0 v1 (-10) 1 σ
def wJ6_stringSize_0f7a4 (ln : Nat → Nat) (σ : zS) (v0 : Int32) (Q : Int32 → zS → Prop) : Prop := ((v0 < 0 → wJ6_stringSize_0f7a4_11 ln Q v0 1 σ) ∧ (¬ v0 < 0 → ∀ x1 : Int32, x1 = -v0 → wJ6_stringSize_0f7a4_11 ln Q x1 0 σ))
abbrev rJ6_stringSize_0f7a4 : Room := { frames := 0, cells := 0, slots := 0, locals := 0 }
set_option maxRecDepth 100000 in
set_option maxHeartbeats 4000000 in
theorem BJ6_stringSize_0f7a4_16 {l : Launch} {E : zE} {Y : zY} {p : Program} {e : Env} {s : State} {m : MethodId} {args : Array Value} {below : List Frame} {meth : Method} {c : Code} (hG : zG E p l s m args meth c cJ6_stringSize_0f7a4 4 RJ6 (some .int) (zA Y s.heap.size)) {Q : Int32 → zS → Prop} : ∀ (n : Nat) (v0 : Int32) (v1 : Int32) (v2 : Int32) (v3 : Int32) (σ : zS), wJ6_stringSize_0f7a4_16 (zln Y) Q n v0 v1 v2 v3 σ → WW E Y σ p l e rJ6_stringSize_0f7a4 s m args below meth c (zA Y s.heap.size) 4 0 0 (MQ below (va_Qi Q (zB E Y s.heap.size) (zA Y s.heap.size)) args s 0 0 (zA Y s.heap.size)) [(0, .int v0), (1, .int v1), (2, .int v2), (3, .int v3)] 16 [] := by
  intro n
  induction n with
  | zero => intro v0 v1 v2 v3 σ hw
            exact hw.elim
  | succ n ih =>
    intro v0 v1 v2 v3 σ hw 
    rw [wJ6_stringSize_0f7a4_16] at hw
    refine z_iload_n hG dJ6_stringSize_0f7a4_16 rfl 3 rfl ?_
    refine z_bipush (v := 10) hG dJ6_stringSize_0f7a4_17 (by decide) ?_
    refine z_icmp_ge (tgt := 42) hG dJ6_stringSize_0f7a4_19 (by decide) (fun c4 => ?_) (fun c4 => ?_)
    · have hw := hw.1 c4
      refine z_bipush (v := 10) hG dJ6_stringSize_0f7a4_42 (by decide) ?_
      refine z_iload_n hG dJ6_stringSize_0f7a4_44 rfl 1 rfl ?_
      refine z_iadd hG dJ6_stringSize_0f7a4_45 ?_
      exact z_iret hG rfl rfl dJ6_stringSize_0f7a4_46 hw
    · have hw := hw.2 c4
      refine z_iload_n hG dJ6_stringSize_0f7a4_22 rfl 0 rfl ?_
      refine z_iload_n hG dJ6_stringSize_0f7a4_23 rfl 2 rfl ?_
      refine z_icmp_le (tgt := 31) hG dJ6_stringSize_0f7a4_24 (by decide) (fun c3 => ?_) (fun c3 => ?_)
      · have hw := hw.1 c3
        refine z_bipush (v := 10) hG dJ6_stringSize_0f7a4_31 (by decide) ?_
        refine z_iload_n hG dJ6_stringSize_0f7a4_33 rfl 2 rfl ?_
        refine z_imul hG dJ6_stringSize_0f7a4_34 ?_
        refine z_topi (fun x1 ex1 => ?_)
        have hw := hw x1 ex1
        refine z_istore_n (lv' := [(2, .int x1), (0, .int v0), (1, .int v1), (3, .int v3)]) hG dJ6_stringSize_0f7a4_35 rfl (by decide) rfl ?_
        obtain ⟨x2, ex2⟩ : ∃ y : Int32, y = v3 + 1 := ⟨_, rfl⟩
        have hw := hw x2 ex2
        refine z_iinc (v := x2) (lv' := [(3, .int x2), (2, .int x1), (0, .int v0), (1, .int v1)]) hG dJ6_stringSize_0f7a4_36 3 rfl (by rw [ex2]; rfl) (by decide) rfl ?_
        refine z_goto (tgt := 16) hG dJ6_stringSize_0f7a4_39 (by decide) ?_
        refine zpick [2, 3, 1, 0] (lv' := [(0, .int v0), (1, .int v1), (2, .int x1), (3, .int x2)]) rfl ?_
        exact ih v0 v1 x1 x2 σ hw 
      · have hw := hw.2 c3
        refine z_iload_n hG dJ6_stringSize_0f7a4_27 rfl 3 rfl ?_
        refine z_iload_n hG dJ6_stringSize_0f7a4_28 rfl 1 rfl ?_
        refine z_iadd hG dJ6_stringSize_0f7a4_29 ?_
        exact z_iret hG rfl rfl dJ6_stringSize_0f7a4_30 hw
set_option maxRecDepth 100000 in
set_option maxHeartbeats 4000000 in
theorem BJ6_stringSize_0f7a4_11 {l : Launch} {E : zE} {Y : zY} {p : Program} {e : Env} {s : State} {m : MethodId} {args : Array Value} {below : List Frame} {meth : Method} {c : Code} (hG : zG E p l s m args meth c cJ6_stringSize_0f7a4 4 RJ6 (some .int) (zA Y s.heap.size)) {Q : Int32 → zS → Prop} : ∀ (v0 : Int32) (v1 : Int32) (σ : zS), wJ6_stringSize_0f7a4_11 (zln Y) Q v0 v1 σ → WW E Y σ p l e rJ6_stringSize_0f7a4 s m args below meth c (zA Y s.heap.size) 4 0 0 (MQ below (va_Qi Q (zB E Y s.heap.size) (zA Y s.heap.size)) args s 0 0 (zA Y s.heap.size)) [(0, .int v0), (1, .int v1)] 11 [] := by
  intro v0 v1 σ hw 
  unfold wJ6_stringSize_0f7a4_11 at hw
  refine z_bipush (v := (-10)) hG dJ6_stringSize_0f7a4_11 (by decide) ?_
  refine z_istore_n (lv' := [(2, .int (-10)), (0, .int v0), (1, .int v1)]) hG dJ6_stringSize_0f7a4_13 rfl (by decide) rfl ?_
  refine z_iconst (v := 1) hG dJ6_stringSize_0f7a4_14 (by decide) ?_
  refine z_istore_n (lv' := [(3, .int 1), (2, .int (-10)), (0, .int v0), (1, .int v1)]) hG dJ6_stringSize_0f7a4_15 rfl (by decide) rfl ?_
  obtain ⟨n1, hw⟩ := hw
  refine zpick [2, 3, 1, 0] (lv' := [(0, .int v0), (1, .int v1), (2, .int (-10)), (3, .int 1)]) rfl ?_
  exact BJ6_stringSize_0f7a4_16 hG n1 v0 v1 (-10) 1 σ hw 
set_option maxRecDepth 100000 in
set_option maxHeartbeats 4000000 in
theorem MJ6_stringSize_0f7a4 (l : Launch) {E : zE} {Y : zY} {σ : zS} {v0 : Int32} {Q : Int32 → zS → Prop} (hw : wJ6_stringSize_0f7a4 (zln Y) σ v0 Q) : ∀ sz, Met l yJ6_stringSize_0f7a4 (zw yJ6_stringSize_0f7a4 cJ6_stringSize_0f7a4 4 (some .int)) rJ6_stringSize_0f7a4 (zPc E Y σ sz [.int v0]) (va_Qi Q (zB E Y sz) (zA Y sz)) 0 0 (zA Y sz) := by
  refine z_met (own := RJ6) (Qc := fun sz => va_Qi Q (zB E Y sz) (zA Y sz)) (by decide +kernel) rfl (Nat.le_of_ble_eq_true rfl) ?_
  intro p e s m args below meth c hG hinit
  unfold wJ6_stringSize_0f7a4 at hw
  refine zlv (lv' := [(0, .int v0)]) rfl ?_
  refine z_iconst (v := 1) hG dJ6_stringSize_0f7a4_0 (by decide) ?_
  refine z_istore_n (lv' := [(1, .int 1), (0, .int v0)]) hG dJ6_stringSize_0f7a4_1 rfl (by decide) rfl ?_
  refine z_iload_n hG dJ6_stringSize_0f7a4_2 rfl 1 rfl ?_
  refine z_if_lt (tgt := 11) hG dJ6_stringSize_0f7a4_3 (by decide) (fun c2 => ?_) (fun c2 => ?_)
  · have hw := hw.1 c2
    refine zpick [1, 0] (lv' := [(0, .int v0), (1, .int 1)]) rfl ?_
    exact BJ6_stringSize_0f7a4_11 hG v0 1 σ hw 
  · have hw := hw.2 c2
    refine z_iconst (v := 0) hG dJ6_stringSize_0f7a4_6 (by decide) ?_
    refine z_istore_n (lv' := [(1, .int 0), (0, .int v0)]) hG dJ6_stringSize_0f7a4_7 rfl (by decide) rfl ?_
    refine z_iload_n hG dJ6_stringSize_0f7a4_8 rfl 1 rfl ?_
    refine z_ineg hG dJ6_stringSize_0f7a4_9 ?_
    refine z_topi (fun x1 ex1 => ?_)
    have hw := hw x1 ex1
    refine z_istore_n (lv' := [(0, .int x1), (1, .int 0)]) hG dJ6_stringSize_0f7a4_10 rfl (by decide) rfl ?_
    refine zpick [0, 1] (lv' := [(0, .int x1), (1, .int 0)]) rfl ?_
    exact BJ6_stringSize_0f7a4_11 hG x1 0 σ hw 
-- java/lang/Integer.getChars(II[B)I
def wJ6_getChars_ba4f3_104 (ln : Nat → Nat) (Q : Int32 → zS → Prop) (t2 : Nat) (v5 : Int32) (v6 : Int32) (σ : zS) : Prop := ((v6 = 0 → Q v5 σ) ∧ (¬ v6 = 0 → ∀ x1 : Int32, x1 = v5 + (-1) → vp_in x1 (ln t2) ∧ ∀ σ3 : zS, σ3 = si σ t2 x1.toNatClampNeg (vp_nar .byte 45) → Q x1 σ3))
def wJ6_getChars_ba4f3_22 (ln : Nat → Nat) (Q : Int32 → zS → Prop) : Nat → Int32 → Nat → Int32 → Int32 → zS → Prop
  | 0, _, _, _, _, _ => False
  | n + 1, v0, t2, v5, v6, σ => (((-100) < v0 → ∀ x1 : Int32, x1 = v5 + (-1) → ∀ x2 : Int32, x2 = -v0 → vp_in x2 100 ∧ ∀ x4 : Int32, x4 = zDO x2.toNatClampNeg → vp_in x1 (ln t2) ∧ ∀ σ6 : zS, σ6 = si σ t2 x1.toNatClampNeg (vp_nar .byte x4) → (((-9) ≤ v0 → wJ6_getChars_ba4f3_104 ln Q t2 x1 v6 σ6) ∧ (¬ (-9) ≤ v0 → ∀ x7 : Int32, x7 = x1 + (-1) → ∀ x8 : Int32, x8 = -v0 → vp_in x8 100 ∧ ∀ x10 : Int32, x10 = zDT x8.toNatClampNeg → vp_in x7 (ln t2) ∧ ∀ σ12 : zS, σ12 = si σ6 t2 x7.toNatClampNeg (vp_nar .byte x10) → wJ6_getChars_ba4f3_104 ln Q t2 x7 v6 σ12))) ∧ (¬ (-100) < v0 → ∀ x14 : Int32, x14 = v0 / 100 → ∀ x15 : Int32, x15 = (x14 * 100) - v0 → ∀ x16 : Int32, x16 = v5 + (-1) → vp_in x15 100 ∧ ∀ x18 : Int32, x18 = zDO x15.toNatClampNeg → vp_in x16 (ln t2) ∧ ∀ σ20 : zS, σ20 = si σ t2 x16.toNatClampNeg (vp_nar .byte x18) → ∀ x21 : Int32, x21 = x16 + (-1) → vp_in x15 100 ∧ ∀ x23 : Int32, x23 = zDT x15.toNatClampNeg → vp_in x21 (ln t2) ∧ ∀ σ25 : zS, σ25 = si σ20 t2 x21.toNatClampNeg (vp_nar .byte x23) → (wJ6_getChars_ba4f3_22 ln Q n) x14 t2 x21 v6 σ25))
def wJ6_getChars_ba4f3_12 (ln : Nat → Nat) (Q : Int32 → zS → Prop) (v0 : Int32) (t2 : Nat) (v5 : Int32) (vw0 : Int32) (σ : zS) : Prop := ((vw0 = 0 → ∀ x2 : Int32, x2 = -v0 → ∃ n3 : Nat, wJ6_getChars_ba4f3_22 ln Q n3 x2 t2 v5 vw0 σ) ∧ (¬ vw0 = 0 → ∃ n1 : Nat, wJ6_getChars_ba4f3_22 ln Q n1 v0 t2 v5 vw0 σ))
def wJ6_getChars_ba4f3 (ln : Nat → Nat) (σ : zS) (v0 : Int32) (v1 : Int32) (t2 : Nat) (Q : Int32 → zS → Prop) : Prop := ((0 ≤ v0 → wJ6_getChars_ba4f3_12 ln Q v0 t2 v1 0 σ) ∧ (¬ 0 ≤ v0 → wJ6_getChars_ba4f3_12 ln Q v0 t2 v1 1 σ))
abbrev rJ6_getChars_ba4f3 : Room := { frames := 0, cells := 0, slots := 0, locals := 0 }
set_option maxRecDepth 100000 in
set_option maxHeartbeats 4000000 in
theorem BJ6_getChars_ba4f3_104 {l : Launch} {E : zE} {Y : zY} {p : Program} {e : Env} {s : State} {m : MethodId} {args : Array Value} {below : List Frame} {meth : Method} {c : Code} (hG : zG E p l s m args meth c cJ6_getChars_ba4f3 7 RJ6 (some .int) (zA Y s.heap.size)) {Q : Int32 → zS → Prop} : ∀ (t2 : Nat) (v5 : Int32) (v6 : Int32) (σ : zS), wJ6_getChars_ba4f3_104 (zln Y) Q t2 v5 v6 σ → zT Y 21 t2 → WW E Y σ p l e rJ6_getChars_ba4f3 s m args below meth c (zA Y s.heap.size) 7 0 0 (MQ below (va_Qi Q (zB E Y s.heap.size) (zA Y s.heap.size)) args s 0 0 (zA Y s.heap.size)) [(2, .ref (za Y t2)), (5, .int v5), (6, .int v6)] 104 [] := by
  intro t2 v5 v6 σ hw h2
  unfold wJ6_getChars_ba4f3_104 at hw
  refine z_iload hG dJ6_getChars_ba4f3_104 2 rfl ?_
  refine z_if_eq (tgt := 118) hG dJ6_getChars_ba4f3_106 (by decide) (fun c4 => ?_) (fun c4 => ?_)
  · have hw := hw.1 c4
    refine z_iload hG dJ6_getChars_ba4f3_118 1 rfl ?_
    exact z_iret hG rfl rfl dJ6_getChars_ba4f3_120 hw
  · have hw := hw.2 c4
    refine z_aload_n hG dJ6_getChars_ba4f3_109 rfl 0 rfl ?_
    obtain ⟨x1, ex1⟩ : ∃ y : Int32, y = v5 + (-1) := ⟨_, rfl⟩
    have hw := hw x1 ex1
    refine z_iinc (v := x1) (lv' := [(5, .int x1), (2, .ref (za Y t2)), (6, .int v6)]) hG dJ6_getChars_ba4f3_110 1 rfl (by rw [ex1]; rfl) (by decide) rfl ?_
    refine z_iload hG dJ6_getChars_ba4f3_113 0 rfl ?_
    refine z_bipush (v := 45) hG dJ6_getChars_ba4f3_115 (by decide) ?_
    obtain ⟨q2, hw⟩ := hw
    refine z_bast hG h2 q2 dJ6_getChars_ba4f3_117 ?_
    refine z_topσ (fun σ3 eσ3 => ?_)
    have hw := hw σ3 eσ3
    refine z_iload hG dJ6_getChars_ba4f3_118 0 rfl ?_
    exact z_iret hG rfl rfl dJ6_getChars_ba4f3_120 hw
set_option maxRecDepth 100000 in
set_option maxHeartbeats 4000000 in
theorem BJ6_getChars_ba4f3_22 {l : Launch} {E : zE} {Y : zY} {p : Program} {e : Env} {s : State} {m : MethodId} {args : Array Value} {below : List Frame} {meth : Method} {c : Code} (hG : zG E p l s m args meth c cJ6_getChars_ba4f3 7 RJ6 (some .int) (zA Y s.heap.size)) {Q : Int32 → zS → Prop} : ∀ (n : Nat) (v0 : Int32) (t2 : Nat) (v5 : Int32) (v6 : Int32) (σ : zS), wJ6_getChars_ba4f3_22 (zln Y) Q n v0 t2 v5 v6 σ → zT Y 21 t2 → WW E Y σ p l e rJ6_getChars_ba4f3 s m args below meth c (zA Y s.heap.size) 7 0 0 (MQ below (va_Qi Q (zB E Y s.heap.size) (zA Y s.heap.size)) args s 0 0 (zA Y s.heap.size)) [(0, .int v0), (2, .ref (za Y t2)), (5, .int v5), (6, .int v6)] 22 [] := by
  intro n
  induction n with
  | zero => intro v0 t2 v5 v6 σ hw
            exact hw.elim
  | succ n ih =>
    intro v0 t2 v5 v6 σ hw h2
    rw [wJ6_getChars_ba4f3_22] at hw
    refine z_iload_n hG dJ6_getChars_ba4f3_22 rfl 0 rfl ?_
    refine z_bipush (v := (-100)) hG dJ6_getChars_ba4f3_23 (by decide) ?_
    refine z_icmp_gt (tgt := 72) hG dJ6_getChars_ba4f3_25 (by decide) (fun c26 => ?_) (fun c26 => ?_)
    · have hw := hw.1 c26
      refine z_aload_n hG dJ6_getChars_ba4f3_72 rfl 1 rfl ?_
      obtain ⟨x1, ex1⟩ : ∃ y : Int32, y = v5 + (-1) := ⟨_, rfl⟩
      have hw := hw x1 ex1
      refine z_iinc (v := x1) (lv' := [(5, .int x1), (0, .int v0), (2, .ref (za Y t2)), (6, .int v6)]) hG dJ6_getChars_ba4f3_73 2 rfl (by rw [ex1]; rfl) (by decide) rfl ?_
      refine z_iload hG dJ6_getChars_ba4f3_76 0 rfl ?_
      refine z_digO hG f_J6_83 dJ6_getChars_ba4f3_78 ?_
      refine z_iload_n hG dJ6_getChars_ba4f3_81 rfl 1 rfl ?_
      refine z_ineg hG dJ6_getChars_ba4f3_82 ?_
      refine z_topi (fun x2 ex2 => ?_)
      have hw := hw x2 ex2
      obtain ⟨q3, hw⟩ := hw
      refine z_digOld hG q3 dJ6_getChars_ba4f3_83 ?_
      refine z_topi (fun x4 ex4 => ?_)
      have hw := hw x4 ex4
      obtain ⟨q5, hw⟩ := hw
      refine z_bast hG h2 q5 dJ6_getChars_ba4f3_84 ?_
      refine z_topσ (fun σ6 eσ6 => ?_)
      have hw := hw σ6 eσ6
      refine z_iload_n hG dJ6_getChars_ba4f3_85 rfl 1 rfl ?_
      refine z_bipush (v := (-9)) hG dJ6_getChars_ba4f3_86 (by decide) ?_
      refine z_icmp_ge (tgt := 104) hG dJ6_getChars_ba4f3_88 (by decide) (fun c13 => ?_) (fun c13 => ?_)
      · have hw := hw.1 c13
        refine zpick [2, 0, 3] (lv' := [(2, .ref (za Y t2)), (5, .int x1), (6, .int v6)]) rfl ?_
        exact BJ6_getChars_ba4f3_104 hG t2 x1 v6 σ6 hw h2
      · have hw := hw.2 c13
        refine z_aload_n hG dJ6_getChars_ba4f3_91 rfl 2 rfl ?_
        obtain ⟨x7, ex7⟩ : ∃ y : Int32, y = x1 + (-1) := ⟨_, rfl⟩
        have hw := hw x7 ex7
        refine z_iinc (v := x7) (lv' := [(5, .int x7), (0, .int v0), (2, .ref (za Y t2)), (6, .int v6)]) hG dJ6_getChars_ba4f3_92 0 rfl (by rw [ex7]; rfl) (by decide) rfl ?_
        refine z_iload hG dJ6_getChars_ba4f3_95 0 rfl ?_
        refine z_digT hG f_J6_87 dJ6_getChars_ba4f3_97 ?_
        refine z_iload_n hG dJ6_getChars_ba4f3_100 rfl 1 rfl ?_
        refine z_ineg hG dJ6_getChars_ba4f3_101 ?_
        refine z_topi (fun x8 ex8 => ?_)
        have hw := hw x8 ex8
        obtain ⟨q9, hw⟩ := hw
        refine z_digTld hG q9 dJ6_getChars_ba4f3_102 ?_
        refine z_topi (fun x10 ex10 => ?_)
        have hw := hw x10 ex10
        obtain ⟨q11, hw⟩ := hw
        refine z_bast hG h2 q11 dJ6_getChars_ba4f3_103 ?_
        refine z_topσ (fun σ12 eσ12 => ?_)
        have hw := hw σ12 eσ12
        refine zpick [2, 0, 3] (lv' := [(2, .ref (za Y t2)), (5, .int x7), (6, .int v6)]) rfl ?_
        exact BJ6_getChars_ba4f3_104 hG t2 x7 v6 σ12 hw h2
    · have hw := hw.2 c26
      refine z_iload_n hG dJ6_getChars_ba4f3_28 rfl 0 rfl ?_
      refine z_bipush (v := 100) hG dJ6_getChars_ba4f3_29 (by decide) ?_
      refine z_idiv hG dJ6_getChars_ba4f3_31 (by decide) ?_
      refine z_topi (fun x14 ex14 => ?_)
      have hw := hw x14 ex14
      refine z_istore_n (lv' := [(3, .int x14), (0, .int v0), (2, .ref (za Y t2)), (5, .int v5), (6, .int v6)]) hG dJ6_getChars_ba4f3_32 rfl (by decide) rfl ?_
      refine z_iload_n hG dJ6_getChars_ba4f3_33 rfl 0 rfl ?_
      refine z_bipush (v := 100) hG dJ6_getChars_ba4f3_34 (by decide) ?_
      refine z_imul hG dJ6_getChars_ba4f3_36 ?_
      refine z_iload_n hG dJ6_getChars_ba4f3_37 rfl 1 rfl ?_
      refine z_isub hG dJ6_getChars_ba4f3_38 ?_
      refine z_topi (fun x15 ex15 => ?_)
      have hw := hw x15 ex15
      refine z_istore (lv' := [(4, .int x15), (3, .int x14), (0, .int v0), (2, .ref (za Y t2)), (5, .int v5), (6, .int v6)]) hG dJ6_getChars_ba4f3_39 (by decide) rfl ?_
      refine z_iload_n hG dJ6_getChars_ba4f3_41 rfl 1 rfl ?_
      refine z_istore_n (lv' := [(0, .int x14), (4, .int x15), (3, .int x14), (2, .ref (za Y t2)), (5, .int v5), (6, .int v6)]) hG dJ6_getChars_ba4f3_42 rfl (by decide) rfl ?_
      refine z_aload_n hG dJ6_getChars_ba4f3_43 rfl 3 rfl ?_
      obtain ⟨x16, ex16⟩ : ∃ y : Int32, y = v5 + (-1) := ⟨_, rfl⟩
      have hw := hw x16 ex16
      refine z_iinc (v := x16) (lv' := [(5, .int x16), (0, .int x14), (4, .int x15), (3, .int x14), (2, .ref (za Y t2)), (6, .int v6)]) hG dJ6_getChars_ba4f3_44 4 rfl (by rw [ex16]; rfl) (by decide) rfl ?_
      refine z_iload hG dJ6_getChars_ba4f3_47 0 rfl ?_
      refine z_digO hG f_J6_83 dJ6_getChars_ba4f3_49 ?_
      refine z_iload hG dJ6_getChars_ba4f3_52 2 rfl ?_
      obtain ⟨q17, hw⟩ := hw
      refine z_digOld hG q17 dJ6_getChars_ba4f3_54 ?_
      refine z_topi (fun x18 ex18 => ?_)
      have hw := hw x18 ex18
      obtain ⟨q19, hw⟩ := hw
      refine z_bast hG h2 q19 dJ6_getChars_ba4f3_55 ?_
      refine z_topσ (fun σ20 eσ20 => ?_)
      have hw := hw σ20 eσ20
      refine z_aload_n hG dJ6_getChars_ba4f3_56 rfl 4 rfl ?_
      obtain ⟨x21, ex21⟩ : ∃ y : Int32, y = x16 + (-1) := ⟨_, rfl⟩
      have hw := hw x21 ex21
      refine z_iinc (v := x21) (lv' := [(5, .int x21), (0, .int x14), (4, .int x15), (3, .int x14), (2, .ref (za Y t2)), (6, .int v6)]) hG dJ6_getChars_ba4f3_57 0 rfl (by rw [ex21]; rfl) (by decide) rfl ?_
      refine z_iload hG dJ6_getChars_ba4f3_60 0 rfl ?_
      refine z_digT hG f_J6_87 dJ6_getChars_ba4f3_62 ?_
      refine z_iload hG dJ6_getChars_ba4f3_65 2 rfl ?_
      obtain ⟨q22, hw⟩ := hw
      refine z_digTld hG q22 dJ6_getChars_ba4f3_67 ?_
      refine z_topi (fun x23 ex23 => ?_)
      have hw := hw x23 ex23
      obtain ⟨q24, hw⟩ := hw
      refine z_bast hG h2 q24 dJ6_getChars_ba4f3_68 ?_
      refine z_topσ (fun σ25 eσ25 => ?_)
      have hw := hw σ25 eσ25
      refine z_goto (tgt := 22) hG dJ6_getChars_ba4f3_69 (by decide) ?_
      refine zpick [1, 4, 0, 5] (lv' := [(0, .int x14), (2, .ref (za Y t2)), (5, .int x21), (6, .int v6)]) rfl ?_
      exact ih x14 t2 x21 v6 σ25 hw h2
set_option maxRecDepth 100000 in
set_option maxHeartbeats 4000000 in
theorem BJ6_getChars_ba4f3_12 {l : Launch} {E : zE} {Y : zY} {p : Program} {e : Env} {s : State} {m : MethodId} {args : Array Value} {below : List Frame} {meth : Method} {c : Code} (hG : zG E p l s m args meth c cJ6_getChars_ba4f3 7 RJ6 (some .int) (zA Y s.heap.size)) {Q : Int32 → zS → Prop} : ∀ (v0 : Int32) (t2 : Nat) (v5 : Int32) (vw0 : Int32) (σ : zS), wJ6_getChars_ba4f3_12 (zln Y) Q v0 t2 v5 vw0 σ → zT Y 21 t2 → WW E Y σ p l e rJ6_getChars_ba4f3 s m args below meth c (zA Y s.heap.size) 7 0 0 (MQ below (va_Qi Q (zB E Y s.heap.size) (zA Y s.heap.size)) args s 0 0 (zA Y s.heap.size)) [(0, .int v0), (2, .ref (za Y t2)), (5, .int v5)] 12 [.int vw0] := by
  intro v0 t2 v5 vw0 σ hw h2
  unfold wJ6_getChars_ba4f3_12 at hw
  refine z_istore (lv' := [(6, .int vw0), (0, .int v0), (2, .ref (za Y t2)), (5, .int v5)]) hG dJ6_getChars_ba4f3_12 (by decide) rfl ?_
  refine z_iload hG dJ6_getChars_ba4f3_14 0 rfl ?_
  refine z_if_ne (tgt := 22) hG dJ6_getChars_ba4f3_16 (by decide) (fun c4 => ?_) (fun c4 => ?_)
  · have hw := hw.2 c4
    obtain ⟨n1, hw⟩ := hw
    refine zpick [1, 2, 3, 0] (lv' := [(0, .int v0), (2, .ref (za Y t2)), (5, .int v5), (6, .int vw0)]) rfl ?_
    exact BJ6_getChars_ba4f3_22 hG n1 v0 t2 v5 vw0 σ hw h2
  · have hw := hw.1 c4
    refine z_iload_n hG dJ6_getChars_ba4f3_19 rfl 1 rfl ?_
    refine z_ineg hG dJ6_getChars_ba4f3_20 ?_
    refine z_topi (fun x2 ex2 => ?_)
    have hw := hw x2 ex2
    refine z_istore_n (lv' := [(0, .int x2), (6, .int vw0), (2, .ref (za Y t2)), (5, .int v5)]) hG dJ6_getChars_ba4f3_21 rfl (by decide) rfl ?_
    obtain ⟨n3, hw⟩ := hw
    refine zpick [0, 2, 3, 1] (lv' := [(0, .int x2), (2, .ref (za Y t2)), (5, .int v5), (6, .int vw0)]) rfl ?_
    exact BJ6_getChars_ba4f3_22 hG n3 x2 t2 v5 vw0 σ hw h2
set_option maxRecDepth 100000 in
set_option maxHeartbeats 4000000 in
theorem MJ6_getChars_ba4f3 (l : Launch) {E : zE} {Y : zY} {σ : zS} {v0 : Int32} {v1 : Int32} {t2 : Nat} (h2 : zT Y 21 t2) {Q : Int32 → zS → Prop} (hw : wJ6_getChars_ba4f3 (zln Y) σ v0 v1 t2 Q) : ∀ sz, Met l yJ6_getChars_ba4f3 (zw yJ6_getChars_ba4f3 cJ6_getChars_ba4f3 7 (some .int)) rJ6_getChars_ba4f3 (zPc E Y σ sz [.int v0, .int v1, .ref (za Y t2)]) (va_Qi Q (zB E Y sz) (zA Y sz)) 0 0 (zA Y sz) := by
  refine z_met (own := RJ6) (Qc := fun sz => va_Qi Q (zB E Y sz) (zA Y sz)) (by decide +kernel) rfl (Nat.le_of_ble_eq_true rfl) ?_
  intro p e s m args below meth c hG hinit
  unfold wJ6_getChars_ba4f3 at hw
  refine zlv (lv' := [(0, .int v0), (1, .int v1), (2, .ref (za Y t2))]) rfl ?_
  refine z_iload_n hG dJ6_getChars_ba4f3_0 rfl 1 rfl ?_
  refine z_istore (lv' := [(5, .int v1), (0, .int v0), (1, .int v1), (2, .ref (za Y t2))]) hG dJ6_getChars_ba4f3_1 (by decide) rfl ?_
  refine z_iload_n hG dJ6_getChars_ba4f3_3 rfl 1 rfl ?_
  refine z_if_ge (tgt := 11) hG dJ6_getChars_ba4f3_4 (by decide) (fun c1 => ?_) (fun c1 => ?_)
  · have hw := hw.1 c1
    refine z_iconst (v := 0) hG dJ6_getChars_ba4f3_11 (by decide) ?_
    refine zpick [1, 3, 0] (lv' := [(0, .int v0), (2, .ref (za Y t2)), (5, .int v1)]) rfl ?_
    exact BJ6_getChars_ba4f3_12 hG v0 t2 v1 0 σ hw h2
  · have hw := hw.2 c1
    refine z_iconst (v := 1) hG dJ6_getChars_ba4f3_7 (by decide) ?_
    refine z_goto (tgt := 12) hG dJ6_getChars_ba4f3_8 (by decide) ?_
    refine zpick [1, 3, 0] (lv' := [(0, .int v0), (2, .ref (za Y t2)), (5, .int v1)]) rfl ?_
    exact BJ6_getChars_ba4f3_12 hG v0 t2 v1 1 σ hw h2
-- jdk/internal/util/ArraysSupport.newLength(III)I
def wJ8_newLength_cabcc (ln : Nat → Nat) (σ : zS) (v0 : Int32) (v1 : Int32) (v2 : Int32) (Q : Int32 → zS → Prop) : Prop := ∀ x1 : Int32, x1 = v0 + (if v1 < v2 then v2 else v1) → ((x1 ≤ 0 → False) ∧ (¬ x1 ≤ 0 → ((2147483639 < x1 → False) ∧ (¬ 2147483639 < x1 → Q x1 σ))))
abbrev rJ8_newLength_cabcc : Room := { frames := 1, cells := 0, slots := 0, locals := 21 }
set_option maxRecDepth 100000 in
set_option maxHeartbeats 4000000 in
theorem MJ8_newLength_cabcc (l : Launch) {E : zE} {Y : zY} {σ : zS} {v0 : Int32} {v1 : Int32} {v2 : Int32} {Q : Int32 → zS → Prop} (hw : wJ8_newLength_cabcc (zln Y) σ v0 v1 v2 Q) : ∀ sz, Met l yJ8_newLength_cabcc (zw yJ8_newLength_cabcc cJ8_newLength_cabcc 4 (some .int)) rJ8_newLength_cabcc (zPc E Y σ sz [.int v0, .int v1, .int v2]) (va_Qi Q (zB E Y sz) (zA Y sz)) 0 0 (zA Y sz) := by
  refine z_met (own := RJ8) (Qc := fun sz => va_Qi Q (zB E Y sz) (zA Y sz)) (by decide +kernel) rfl (Nat.le_of_ble_eq_true rfl) ?_
  intro p e s m args below meth c hG hinit
  unfold wJ8_newLength_cabcc at hw
  refine zlv (lv' := [(0, .int v0), (1, .int v1), (2, .int v2)]) rfl ?_
  refine z_iload_n hG dJ8_newLength_cabcc_0 rfl 0 rfl ?_
  refine z_iload_n hG dJ8_newLength_cabcc_1 rfl 1 rfl ?_
  refine z_iload_n hG dJ8_newLength_cabcc_2 rfl 2 rfl ?_
  refine z_mmax hG k_J8_194 km_max_s km_i km_max_c (Nat.le_of_ble_eq_true rfl) (Nat.le_of_ble_eq_true rfl) (Nat.zero_le _) (Nat.zero_le _) dJ8_newLength_cabcc_3 ?_
  refine z_iadd hG dJ8_newLength_cabcc_6 ?_
  refine z_topi (fun x1 ex1 => ?_)
  have hw := hw x1 ex1
  refine z_istore_n (lv' := [(3, .int x1), (0, .int v0), (1, .int v1), (2, .int v2)]) hG dJ8_newLength_cabcc_7 rfl (by decide) rfl ?_
  refine z_iconst (v := 0) hG dJ8_newLength_cabcc_8 (by decide) ?_
  refine z_iload_n hG dJ8_newLength_cabcc_9 rfl 0 rfl ?_
  refine z_icmp_ge (tgt := 21) hG dJ8_newLength_cabcc_10 (by decide) (fun c3 => ?_) (fun c3 => ?_)
  · have hw := hw.1 c3
    exact hw.elim
  · have hw := hw.2 c3
    refine z_iload_n hG dJ8_newLength_cabcc_13 rfl 0 rfl ?_
    refine z_ldc (hc := c_J8_200) hG (hd := dJ8_newLength_cabcc_14) ?_
    refine z_icmp_gt (tgt := 21) hG dJ8_newLength_cabcc_16 (by decide) (fun c2 => ?_) (fun c2 => ?_)
    · have hw := hw.1 c2
      exact hw.elim
    · have hw := hw.2 c2
      refine z_iload_n hG dJ8_newLength_cabcc_19 rfl 0 rfl ?_
      exact z_iret hG rfl rfl dJ8_newLength_cabcc_20 hw
-- java/util/Arrays.copyOf([BI)[B
def wJ7_copyOf_9075b (S : zSp) (σ : zS) (t0 : Nat) (v1 : Int32) (Q : Nat → zSp → zS → Prop) : Prop := ((v1 = (nI ((zSl S) t0)) → (∀ i : Nat, i < (zSl S) t0 → fits .byte (.int (gi σ t0 i)) = true) ∧ (zSl S) t0 ≤ 150 ∧ ∀ a14 : Nat, a14 = zSk S → ∀ S14 : zSp, S14 = zSpush S 21 ((zSl S) t0) → ∀ σ17 : zS, σ17 = sI (zfresh σ a14) a14 (gi σ t0) → Q a14 S14 σ17) ∧ (¬ v1 = (nI ((zSl S) t0)) → ¬ v1 < 0 ∧ v1.toNatClampNeg ≤ 150 ∧ ∀ a1 : Nat, a1 = zSk S → ∀ S1 : zSp, S1 = zSpush S 21 v1.toNatClampNeg → ∀ σ4 : zS, σ4 = zfresh σ a1 → ∀ x5 : Int32, x5 = nI ((zSl S1) t0) → ∀ x6 : Int32, x6 = (if v1 < x5 then v1 else x5) → (¬ (0 : Int32) < 0 ∧ ¬ (0 : Int32) < 0 ∧ ¬ x6 < 0 ∧ (0 : Int32).toNatClampNeg + x6.toNatClampNeg ≤ (zSl S1) t0 ∧ (0 : Int32).toNatClampNeg + x6.toNatClampNeg ≤ (zSl S1) a1 ∧ (∀ i : Nat, i < x6.toNatClampNeg → fits .byte (.int (gi σ4 t0 ((0 : Int32).toNatClampNeg + i))) = true)) ∧ ∀ σ13 : zS, σ13 = sI σ4 a1 (va_cpy (gi σ4 t0) (gi σ4 a1) (0 : Int32).toNatClampNeg (0 : Int32).toNatClampNeg x6.toNatClampNeg) → Q a1 S1 σ13))
abbrev rJ7_copyOf_9075b : Room := { frames := 1, cells := 1, slots := 150, locals := 48 }
set_option maxRecDepth 100000 in
set_option maxHeartbeats 4000000 in
theorem MJ7_copyOf_9075b (l : Launch) {E : zE} {Y : zY} {σ : zS} {t0 : Nat} {v1 : Int32} (h0 : zT Y 21 t0) {Q : Nat → zSp → zS → Prop} (hw : wJ7_copyOf_9075b (zsp Y) σ t0 v1 Q) : ∀ sz, Met l yJ7_copyOf_9075b (zw yJ7_copyOf_9075b cJ7_copyOf_9075b 3 (some (.array .byte))) rJ7_copyOf_9075b (zPc E Y σ sz [.ref (za Y t0), .int v1]) (va_Qr (fun (u : Nat × zY × zS) => Q u.1 (zsp u.2.1) u.2.2) (zBAr E Y sz 21) (zA Y sz)) 1 150 (zA Y sz) := by
  refine z_met (own := RJ7) (Qc := fun sz => va_Qr (fun (u : Nat × zY × zS) => Q u.1 (zsp u.2.1) u.2.2) (zBAr E Y sz 21) (zA Y sz)) (by decide +kernel) rfl (Nat.le_of_ble_eq_true rfl) ?_
  intro p e s m args below meth c hG hinit
  unfold wJ7_copyOf_9075b at hw
  refine zlv (lv' := [(0, .ref (za Y t0)), (1, .int v1)]) rfl ?_
  have hx : zext Y Y := zext.rf
  refine z_iload_n hG dJ7_copyOf_9075b_0 rfl 1 rfl ?_
  refine z_aload_n hG dJ7_copyOf_9075b_1 rfl 0 rfl ?_
  refine z_alen hG h0 (by decide) (t0 := 1) rfl dJ7_copyOf_9075b_2 ?_
  refine z_icmp_ne (tgt := 14) hG dJ7_copyOf_9075b_3 (by decide) (fun c18 => ?_) (fun c18 => ?_)
  · have hw := hw.2 c18
    refine z_iload_n hG dJ7_copyOf_9075b_14 rfl 1 rfl ?_
    obtain ⟨q2, q3, hw⟩ := hw
    refine z_newa (kd := 21) (t0 := 1) (ty := .byte) (atype := .byte) (n := v1) hG kA_21 rfl rfl (Or.inr (Or.inl ⟨rfl, rfl⟩)) q2 (show (v1).toNatClampNeg * 1 ≤ 536870912 from by omega) (show 0 + 1 ≤ 1 from by omega) (show 0 + (v1).toNatClampNeg ≤ 150 from by omega) dJ7_copyOf_9075b_15 (fun Y1 a1 ea1 hx1 eSa1 ha1 => ?_)
    have hw := hw a1 ea1 (zsp Y1) eSa1
    refine zwiden (k := 1) (n := 150) (by omega) (by omega) ?_
    refine z_topσ (fun σ4 eσ4 => ?_)
    have hw := hw σ4 eσ4
    refine zlv (lv' := [(0, .ref (za Y1 t0)), (1, .int v1)]) (by simp only [hx1.a h0]) ?_
    have h0 := hx1.T h0
    have hx := hx.tr hx1
    refine z_astore_n (lv' := [(2, .ref (za Y1 a1)), (0, .ref (za Y1 t0)), (1, .int v1)]) hG dJ7_copyOf_9075b_17 rfl (by decide) rfl ?_
    refine z_aload_n hG dJ7_copyOf_9075b_18 rfl 1 rfl ?_
    refine z_iconst (v := 0) hG dJ7_copyOf_9075b_19 (by decide) ?_
    refine z_aload_n hG dJ7_copyOf_9075b_20 rfl 0 rfl ?_
    refine z_iconst (v := 0) hG dJ7_copyOf_9075b_21 (by decide) ?_
    refine z_aload_n hG dJ7_copyOf_9075b_22 rfl 1 rfl ?_
    refine z_alen hG h0 (by decide) (t0 := 1) rfl dJ7_copyOf_9075b_23 ?_
    refine z_iload_n hG dJ7_copyOf_9075b_24 rfl 2 rfl ?_
    obtain ⟨x5, ex5⟩ : ∃ y : Int32, y = nI ((zSl (zsp Y1)) t0) := ⟨_, rfl⟩
    refine zst (st' := [.int v1, .int x5, .int 0, .ref (za Y1 a1), .int 0, .ref (za Y1 t0)]) (by rw [ex5] <;> rfl) ?_
    have hw := hw x5 ex5
    refine z_mmin hG k_J7_304 km_min_s km_i km_min_c (Nat.le_of_ble_eq_true rfl) (Nat.le_of_ble_eq_true rfl) (show 1 ≤ 1 from by omega) (show 150 ≤ 150 from by omega) dJ7_copyOf_9075b_25 ?_
    refine z_topi (fun x6 ex6 => ?_)
    have hw := hw x6 ex6
    obtain ⟨⟨q7, q8, q9, q10, q11, q12⟩, hw⟩ := hw
    refine z_copyb hG k_J7_150 ks_n ks_s ks_i h0 ha1 q7 q8 q9 q10 q11 q12 (by decide +kernel) (by decide +kernel) dJ7_copyOf_9075b_28 ?_
    refine z_topσ (fun σ13 eσ13 => ?_)
    have hw := hw σ13 eσ13
    refine z_aload_n hG dJ7_copyOf_9075b_31 rfl 0 rfl ?_
    refine zwiden (k := 1) (n := 150) (by omega) (by omega) ?_
    exact z_aretA hG hx rfl (Or.inr ⟨_, rfl⟩) ha1 dJ7_copyOf_9075b_32 hw
  · have hw := hw.1 c18
    refine z_aload_n hG dJ7_copyOf_9075b_6 rfl 0 rfl ?_
    obtain ⟨q15, q16, hw⟩ := hw
    refine z_clone hG k_J7_310 kq_same kq_nat kq_inst kq_sel kq_cast h0 q15 (Nat.le_of_ble_eq_true rfl) (Nat.le_of_ble_eq_true rfl) (show 0 + 1 ≤ 1 from by omega) (Nat.le_trans (Nat.add_le_add_left q16 _) (show 0 + 150 ≤ 150 from by omega)) dJ7_copyOf_9075b_7 (fun Y14 a14 ea14 hx14 eSa14 ha14 => ?_)
    have hw := hw a14 ea14 (zsp Y14) eSa14
    refine zwiden (k := 1) (n := 150) (Nat.le_refl _) (Nat.add_le_add_left q16 _) ?_
    refine z_topσ (fun σ17 eσ17 => ?_)
    have hw := hw σ17 eσ17
    refine zlv (lv' := [(0, .ref (za Y14 t0)), (1, .int v1)]) (by simp only [hx14.a h0]) ?_
    have h0 := hx14.T h0
    have hx := hx.tr hx14
    refine z_castB hG kc_J7_311 ha14 dJ7_copyOf_9075b_10 ?_
    refine zwiden (k := 1) (n := 150) (by omega) (by omega) ?_
    exact z_aretA hG hx rfl (Or.inr ⟨_, rfl⟩) ha14 dJ7_copyOf_9075b_13 hw
-- java/lang/AbstractStringBuilder.newCapacity(I)I
def wJ5_newCapacity_0f7a4 (ln : Nat → Nat) (σ : zS) (t0 : Nat) (v1 : Int32) (Q : Int32 → zS → Prop) : Prop := ∃ j1 : Nat, gr σ t0 0 = some j1 ∧ ∀ x2 : Int32, x2 = nI (ln j1) → ∀ x3 : Int32, x3 = v1 <<< ((gi σ t0 1) &&& 31) → ∀ x4 : Int32, x4 = x3 - x2 → ∀ x5 : Int32, x5 = x2 + (2 <<< ((gi σ t0 1) &&& 31)) → wJ8_newLength_cabcc ln σ x2 x4 x5 (fun r7 σ6 => ((r7 = 2147483647 → False) ∧ (¬ r7 = 2147483647 → Q (r7 >>> ((gi σ6 t0 1) &&& 31)) σ6)))
abbrev rJ5_newCapacity_0f7a4 : Room := { frames := 2, cells := 0, slots := 0, locals := 44 }
set_option maxRecDepth 100000 in
set_option maxHeartbeats 4000000 in
theorem MJ5_newCapacity_0f7a4 (l : Launch) {E : zE} {Y : zY} {σ : zS} {t0 : Nat} {v1 : Int32} (h0 : zT Y 13 t0) {Q : Int32 → zS → Prop} (hw : wJ5_newCapacity_0f7a4 (zln Y) σ t0 v1 Q) : ∀ sz, Met l yJ5_newCapacity_0f7a4 (zw yJ5_newCapacity_0f7a4 cJ5_newCapacity_0f7a4 6 (some .int)) rJ5_newCapacity_0f7a4 (zPc E Y σ sz [.ref (za Y t0), .int v1]) (va_Qi Q (zB E Y sz) (zA Y sz)) 0 0 (zA Y sz) := by
  refine z_met (own := RJ5) (Qc := fun sz => va_Qi Q (zB E Y sz) (zA Y sz)) (by decide +kernel) rfl (Nat.le_of_ble_eq_true rfl) ?_
  intro p e s m args below meth c hG hinit
  unfold wJ5_newCapacity_0f7a4 at hw
  refine zlv (lv' := [(0, .ref (za Y t0)), (1, .int v1)]) rfl ?_
  refine z_aload_n hG dJ5_newCapacity_0f7a4_0 rfl 0 rfl ?_
  obtain ⟨j1, ej1, hw⟩ := hw
  refine z_getr (kq := 21) hG f_J5_15 h0 rfl ej1 rfl (by decide) dJ5_newCapacity_0f7a4_1 (fun hj1 => ?_)
  refine z_alen hG hj1 (by decide) (t0 := 1) rfl dJ5_newCapacity_0f7a4_4 ?_
  refine z_topi (fun x2 ex2 => ?_)
  have hw := hw x2 ex2
  refine z_istore_n (lv' := [(2, .int x2), (0, .ref (za Y t0)), (1, .int v1)]) hG dJ5_newCapacity_0f7a4_5 rfl (by decide) rfl ?_
  refine z_iload_n hG dJ5_newCapacity_0f7a4_6 rfl 2 rfl ?_
  refine z_aload_n hG dJ5_newCapacity_0f7a4_7 rfl 1 rfl ?_
  refine z_geti hG f_J5_22 h0 rfl dJ5_newCapacity_0f7a4_8 ?_
  refine z_ishl hG dJ5_newCapacity_0f7a4_11 ?_
  refine z_topi (fun x3 ex3 => ?_)
  have hw := hw x3 ex3
  refine z_istore_n (lv' := [(3, .int x3), (2, .int x2), (0, .ref (za Y t0)), (1, .int v1)]) hG dJ5_newCapacity_0f7a4_12 rfl (by decide) rfl ?_
  refine z_iload_n hG dJ5_newCapacity_0f7a4_13 rfl 0 rfl ?_
  refine z_iload_n hG dJ5_newCapacity_0f7a4_14 rfl 1 rfl ?_
  refine z_isub hG dJ5_newCapacity_0f7a4_15 ?_
  refine z_topi (fun x4 ex4 => ?_)
  have hw := hw x4 ex4
  refine z_istore (lv' := [(4, .int x4), (3, .int x3), (2, .int x2), (0, .ref (za Y t0)), (1, .int v1)]) hG dJ5_newCapacity_0f7a4_16 (by decide) rfl ?_
  refine z_iload_n hG dJ5_newCapacity_0f7a4_18 rfl 2 rfl ?_
  refine z_iload hG dJ5_newCapacity_0f7a4_19 0 rfl ?_
  refine z_iload_n hG dJ5_newCapacity_0f7a4_21 rfl 2 rfl ?_
  refine z_iconst (v := 2) hG dJ5_newCapacity_0f7a4_22 (by decide) ?_
  refine z_aload_n hG dJ5_newCapacity_0f7a4_23 rfl 3 rfl ?_
  refine z_geti hG f_J5_22 h0 rfl dJ5_newCapacity_0f7a4_24 ?_
  refine z_ishl hG dJ5_newCapacity_0f7a4_27 ?_
  refine z_iadd hG dJ5_newCapacity_0f7a4_28 ?_
  refine z_topi (fun x5 ex5 => ?_)
  have hw := hw x5 ex5
  refine z_calli hG (z_runS (As := [.int x2, .int x4, .int x5]) (st := []) hG k_J5_114 (MJ8_newLength_cabcc l hw) ⟨(Nat.le_of_ble_eq_true rfl), (Nat.le_of_ble_eq_true rfl)⟩ rfl (Nat.le_of_ble_eq_true rfl) dJ5_newCapacity_0f7a4_29 ⟨Nat.zero_le _, Nat.zero_le _⟩ rfl) (fun r7 σ6 hw => ?_)
  refine z_istore (lv' := [(5, .int r7), (4, .int x4), (3, .int x3), (2, .int x2), (0, .ref (za Y t0)), (1, .int v1)]) hG dJ5_newCapacity_0f7a4_32 (by decide) rfl ?_
  refine z_iload hG dJ5_newCapacity_0f7a4_34 0 rfl ?_
  refine z_ldc (hc := c_J5_39) hG (hd := dJ5_newCapacity_0f7a4_36) ?_
  refine z_icmp_ne (tgt := 51) hG dJ5_newCapacity_0f7a4_38 (by decide) (fun c8 => ?_) (fun c8 => ?_)
  · have hw := hw.2 c8
    refine z_iload hG dJ5_newCapacity_0f7a4_51 0 rfl ?_
    refine z_aload_n hG dJ5_newCapacity_0f7a4_53 rfl 4 rfl ?_
    refine z_geti hG f_J5_22 h0 rfl dJ5_newCapacity_0f7a4_54 ?_
    refine z_ishr hG dJ5_newCapacity_0f7a4_57 ?_
    exact z_iret hG rfl rfl dJ5_newCapacity_0f7a4_58 hw
  · have hw := hw.1 c8
    exact hw.elim
-- java/lang/AbstractStringBuilder.isLatin1()Z
def wJ5_isLatin1_aae02 (ln : Nat → Nat) (σ : zS) (t0 : Nat) (Q : Int32 → zS → Prop) : Prop := (((1 : Int32) = 0 → Q 0 σ) ∧ (¬ (1 : Int32) = 0 → (((gi σ t0 1) = 0 → Q 1 σ) ∧ (¬ (gi σ t0 1) = 0 → Q 0 σ))))
abbrev rJ5_isLatin1_aae02 : Room := { frames := 0, cells := 0, slots := 0, locals := 0 }
set_option maxRecDepth 100000 in
set_option maxHeartbeats 4000000 in
theorem MJ5_isLatin1_aae02 (l : Launch) {E : zE} {Y : zY} {σ : zS} {t0 : Nat} (h0 : zT Y 13 t0) {Q : Int32 → zS → Prop} (hw : wJ5_isLatin1_aae02 (zln Y) σ t0 Q) : ∀ sz, Met l yJ5_isLatin1_aae02 (zw yJ5_isLatin1_aae02 cJ5_isLatin1_aae02 1 (some .boolean)) rJ5_isLatin1_aae02 (zPc E Y σ sz [.ref (za Y t0)]) (va_Qi Q (zB E Y sz) (zA Y sz)) 0 0 (zA Y sz) := by
  refine z_met (own := RJ5) (Qc := fun sz => va_Qi Q (zB E Y sz) (zA Y sz)) (by decide +kernel) rfl (Nat.le_of_ble_eq_true rfl) ?_
  intro p e s m args below meth c hG hinit
  unfold wJ5_isLatin1_aae02 at hw
  refine zlv (lv' := [(0, .ref (za Y t0))]) rfl ?_
  refine z_compact hG f_J5_18 dJ5_isLatin1_aae02_0 ?_
  refine z_if_eq (tgt := 17) hG dJ5_isLatin1_aae02_3 (by decide) (fun c2 => ?_) (fun c2 => ?_)
  · have hw := hw.1 c2
    refine z_iconst (v := 0) hG dJ5_isLatin1_aae02_17 (by decide) ?_
    exact z_iret hG rfl (by decide +kernel) dJ5_isLatin1_aae02_18 hw
  · have hw := hw.2 c2
    refine z_aload_n hG dJ5_isLatin1_aae02_6 rfl 0 rfl ?_
    refine z_geti hG f_J5_22 h0 rfl dJ5_isLatin1_aae02_7 ?_
    refine z_if_ne (tgt := 17) hG dJ5_isLatin1_aae02_10 (by decide) (fun c1 => ?_) (fun c1 => ?_)
    · have hw := hw.2 c1
      refine z_iconst (v := 0) hG dJ5_isLatin1_aae02_17 (by decide) ?_
      exact z_iret hG rfl (by decide +kernel) dJ5_isLatin1_aae02_18 hw
    · have hw := hw.1 c1
      refine z_iconst (v := 1) hG dJ5_isLatin1_aae02_13 (by decide) ?_
      refine z_goto (tgt := 18) hG dJ5_isLatin1_aae02_14 (by decide) ?_
      exact z_iret hG rfl (by decide +kernel) dJ5_isLatin1_aae02_18 hw
-- java/lang/AbstractStringBuilder.ensureCapacityInternal(I)V
def wJ5_ensureCapacityInternal_d00df (S : zSp) (σ : zS) (t0 : Nat) (v1 : Int32) (Q : zSp → zS → Prop) : Prop := ∃ j1 : Nat, gr σ t0 0 = some j1 ∧ ∀ x2 : Int32, x2 = (nI ((zSl S) j1)) >>> ((gi σ t0 1) &&& 31) → (((v1 - x2) ≤ 0 → Q S σ) ∧ (¬ (v1 - x2) ≤ 0 → ∃ j3 : Nat, gr σ t0 0 = some j3 ∧ wJ5_newCapacity_0f7a4 (zSl S) σ t0 v1 (fun r5 σ4 => ∀ x6 : Int32, x6 = r5 <<< ((gi σ4 t0 1) &&& 31) → wJ7_copyOf_9075b S σ4 j3 x6 (fun r8 S7 σ7 => ∀ σ9 : zS, σ9 = sr σ7 t0 0 (some r8) → Q S7 σ9))))
abbrev rJ5_ensureCapacityInternal_d00df : Room := { frames := 3, cells := 1, slots := 150, locals := 70 }
set_option maxRecDepth 100000 in
set_option maxHeartbeats 4000000 in
theorem MJ5_ensureCapacityInternal_d00df (l : Launch) {E : zE} {Y : zY} {σ : zS} {t0 : Nat} {v1 : Int32} (h0 : zT Y 13 t0) {Q : zSp → zS → Prop} (hw : wJ5_ensureCapacityInternal_d00df (zsp Y) σ t0 v1 Q) : ∀ sz, Met l yJ5_ensureCapacityInternal_d00df (zw yJ5_ensureCapacityInternal_d00df cJ5_ensureCapacityInternal_d00df 3 none) rJ5_ensureCapacityInternal_d00df (zPc E Y σ sz [.ref (za Y t0), .int v1]) (va_Qv (fun (u : zY × zS) => Q (zsp u.1) u.2) (zBA E Y sz) (zA Y sz)) 1 150 (zA Y sz) := by
  refine z_met (own := RJ5) (Qc := fun sz => va_Qv (fun (u : zY × zS) => Q (zsp u.1) u.2) (zBA E Y sz) (zA Y sz)) (by decide +kernel) rfl (Nat.le_of_ble_eq_true rfl) ?_
  intro p e s m args below meth c hG hinit
  unfold wJ5_ensureCapacityInternal_d00df at hw
  refine zlv (lv' := [(0, .ref (za Y t0)), (1, .int v1)]) rfl ?_
  have hx : zext Y Y := zext.rf
  refine z_aload_n hG dJ5_ensureCapacityInternal_d00df_0 rfl 0 rfl ?_
  obtain ⟨j1, ej1, hw⟩ := hw
  refine z_getr (kq := 21) hG f_J5_15 h0 rfl ej1 rfl (by decide) dJ5_ensureCapacityInternal_d00df_1 (fun hj1 => ?_)
  refine z_alen hG hj1 (by decide) (t0 := 1) rfl dJ5_ensureCapacityInternal_d00df_4 ?_
  refine z_aload_n hG dJ5_ensureCapacityInternal_d00df_5 rfl 0 rfl ?_
  refine z_geti hG f_J5_22 h0 rfl dJ5_ensureCapacityInternal_d00df_6 ?_
  refine z_ishr hG dJ5_ensureCapacityInternal_d00df_9 ?_
  refine z_topi (fun x2 ex2 => ?_)
  have hw := hw x2 ex2
  refine z_istore_n (lv' := [(2, .int x2), (0, .ref (za Y t0)), (1, .int v1)]) hG dJ5_ensureCapacityInternal_d00df_10 rfl (by decide) rfl ?_
  refine z_iload_n hG dJ5_ensureCapacityInternal_d00df_11 rfl 2 rfl ?_
  refine z_iload_n hG dJ5_ensureCapacityInternal_d00df_12 rfl 0 rfl ?_
  refine z_isub hG dJ5_ensureCapacityInternal_d00df_13 ?_
  refine z_if_le (tgt := 38) hG dJ5_ensureCapacityInternal_d00df_14 (by decide) (fun c10 => ?_) (fun c10 => ?_)
  · have hw := hw.1 c10
    refine zwiden (k := 1) (n := 150) (by omega) (by omega) ?_
    exact z_vretA hG hx rfl dJ5_ensureCapacityInternal_d00df_38 hw
  · have hw := hw.2 c10
    refine z_aload_n hG dJ5_ensureCapacityInternal_d00df_17 rfl 1 rfl ?_
    refine z_aload_n hG dJ5_ensureCapacityInternal_d00df_18 rfl 1 rfl ?_
    obtain ⟨j3, ej3, hw⟩ := hw
    refine z_getr (kq := 21) hG f_J5_15 h0 rfl ej3 rfl (by decide) dJ5_ensureCapacityInternal_d00df_19 (fun hj3 => ?_)
    refine z_aload_n hG dJ5_ensureCapacityInternal_d00df_22 rfl 1 rfl ?_
    refine z_iload_n hG dJ5_ensureCapacityInternal_d00df_23 rfl 2 rfl ?_
    refine z_calli hG (z_runU (As := [.int v1]) (st := [.ref (za Y j3), .ref (za Y t0)]) hG k_J5_104 (MJ5_newCapacity_0f7a4 l h0 hw) ⟨(Nat.le_of_ble_eq_true rfl), (Nat.le_of_ble_eq_true rfl)⟩ h0 (T := TJ4) (N := 4) rfl (by decide) rfl (Nat.le_of_ble_eq_true rfl) dJ5_ensureCapacityInternal_d00df_24 ⟨show 0 + 0 ≤ 1 from by omega, show 0 + 0 ≤ 150 from by omega⟩ rfl) (fun r5 σ4 hw => ?_)
    refine z_aload_n hG dJ5_ensureCapacityInternal_d00df_27 rfl 1 rfl ?_
    refine z_geti hG f_J5_22 h0 rfl dJ5_ensureCapacityInternal_d00df_28 ?_
    refine z_ishl hG dJ5_ensureCapacityInternal_d00df_31 ?_
    refine z_topi (fun x6 ex6 => ?_)
    have hw := hw x6 ex6
    refine z_callAr hG (z_runS (As := [.ref (za Y j3), .int x6]) (st := [.ref (za Y t0)]) hG k_J5_108 (MJ7_copyOf_9075b l hj3 hw) ⟨(Nat.le_of_ble_eq_true rfl), (Nat.le_of_ble_eq_true rfl)⟩ rfl (Nat.le_of_ble_eq_true rfl) dJ5_ensureCapacityInternal_d00df_32 ⟨show 0 + 1 ≤ 1 from by omega, show 0 + 150 ≤ 150 from by omega⟩ rfl) (fun Y7 r8 σ7 hx7 hr8 hw => ?_)
    refine zwiden (k := 1) (n := 150) (show 0 + 1 ≤ 1 from by omega) (show 0 + 150 ≤ 150 from by omega) ?_
    refine zst (st' := [.ref (za Y7 r8), .ref (za Y7 t0)]) (by simp only [hx7.a h0]) ?_
    refine zlv (lv' := [(2, .int x2), (0, .ref (za Y7 t0)), (1, .int v1)]) (by simp only [hx7.a h0]) ?_
    have h0 := hx7.T h0
    have hx := hx.tr hx7
    refine z_putrA hG f_J5_15 h0 rfl rfl (Or.inr ⟨_, rfl⟩) rfl (by decide) hr8 dJ5_ensureCapacityInternal_d00df_35 ?_
    refine z_topσ (fun σ9 eσ9 => ?_)
    have hw := hw σ9 eσ9
    refine zwiden (k := 1) (n := 150) (by omega) (by omega) ?_
    exact z_vretA hG hx rfl dJ5_ensureCapacityInternal_d00df_38 hw
-- java/lang/AbstractStringBuilder.inflateIfNeededFor(Ljava/lang/String;)V
def wJ5_inflateIfNeededFor_a7421 (ln : Nat → Nat) (σ : zS) (t0 : Nat) (s1 : Nat) (Q : zS → Prop) : Prop := (((1 : Int32) = 0 → Q σ) ∧ (¬ (1 : Int32) = 0 → wJ0_coder_7d493 ln σ s1 (fun r2 σ1 => (((gi σ t0 1) = r2 → Q σ1) ∧ (¬ (gi σ t0 1) = r2 → False)))))
abbrev rJ5_inflateIfNeededFor_a7421 : Room := { frames := 1, cells := 0, slots := 0, locals := 20 }
set_option maxRecDepth 100000 in
set_option maxHeartbeats 4000000 in
theorem MJ5_inflateIfNeededFor_a7421 (l : Launch) {E : zE} {Y : zY} {σ : zS} {t0 : Nat} {s1 : Nat} (h0 : zT Y 13 t0) (h1 : s1 < zS_n) {Q : zS → Prop} (hw : wJ5_inflateIfNeededFor_a7421 (zln Y) σ t0 s1 Q) : ∀ sz, Met l yJ5_inflateIfNeededFor_a7421 (zw yJ5_inflateIfNeededFor_a7421 cJ5_inflateIfNeededFor_a7421 2 none) rJ5_inflateIfNeededFor_a7421 (zPc E Y σ sz [.ref (za Y t0), .ref (E.2.2.1 s1)]) (va_Qv Q (zB E Y sz) (zA Y sz)) 0 0 (zA Y sz) := by
  refine z_met (own := RJ5) (Qc := fun sz => va_Qv Q (zB E Y sz) (zA Y sz)) (by decide +kernel) rfl (Nat.le_of_ble_eq_true rfl) ?_
  intro p e s m args below meth c hG hinit
  unfold wJ5_inflateIfNeededFor_a7421 at hw
  refine zlv (lv' := [(0, .ref (za Y t0)), (1, .ref (E.2.2.1 s1))]) rfl ?_
  refine z_compact hG f_J5_18 dJ5_inflateIfNeededFor_a7421_0 ?_
  refine z_if_eq (tgt := 21) hG dJ5_inflateIfNeededFor_a7421_3 (by decide) (fun c4 => ?_) (fun c4 => ?_)
  · have hw := hw.1 c4
    exact z_vret hG rfl dJ5_inflateIfNeededFor_a7421_21 hw
  · have hw := hw.2 c4
    refine z_aload_n hG dJ5_inflateIfNeededFor_a7421_6 rfl 0 rfl ?_
    refine z_geti hG f_J5_22 h0 rfl dJ5_inflateIfNeededFor_a7421_7 ?_
    refine z_aload_n hG dJ5_inflateIfNeededFor_a7421_10 rfl 1 rfl ?_
    refine z_calli hG (z_runVs (As := []) (st := [.int (gi σ t0 1)]) hG k_J5_40 (MJ0_coder_7d493 l h1 hw) ⟨(Nat.le_of_ble_eq_true rfl), (Nat.le_of_ble_eq_true rfl)⟩ h1 rfl (Nat.le_of_ble_eq_true rfl) dJ5_inflateIfNeededFor_a7421_11 ⟨Nat.zero_le _, Nat.zero_le _⟩ rfl) (fun r2 σ1 hw => ?_)
    refine z_icmp_eq (tgt := 21) hG dJ5_inflateIfNeededFor_a7421_14 (by decide) (fun c3 => ?_) (fun c3 => ?_)
    · have hw := hw.1 c3
      exact z_vret hG rfl dJ5_inflateIfNeededFor_a7421_21 hw
    · have hw := hw.2 c3
      exact hw.elim
-- java/lang/String.getBytes([BIB)V
def wJ0_getBytes_840e7 (ln : Nat → Nat) (σ : zS) (s0 : Nat) (t1 : Nat) (v2 : Int32) (v3 : Int32) (Q : zS → Prop) : Prop := wJ0_coder_7d493 ln σ s0 (fun r2 σ1 => ((r2 = v3 → ∀ x3 : Int32, x3 = nI (zSlen.getD s0 0) → ∀ x4 : Int32, x4 = v2 <<< (v3 &&& 31) → (¬ (0 : Int32) < 0 ∧ ¬ x4 < 0 ∧ ¬ x3 < 0 ∧ (0 : Int32).toNatClampNeg + x3.toNatClampNeg ≤ zSlen.getD s0 0 ∧ x4.toNatClampNeg + x3.toNatClampNeg ≤ ln t1) ∧ ∀ σ10 : zS, σ10 = sI σ1 t1 (va_cpy (fun j => (zSbyt.getD s0 []).getD j 0) (gi σ1 t1) (0 : Int32).toNatClampNeg x4.toNatClampNeg x3.toNatClampNeg) → Q σ10) ∧ (¬ r2 = v3 → False)))
abbrev rJ0_getBytes_840e7 : Room := { frames := 1, cells := 0, slots := 0, locals := 48 }
set_option maxRecDepth 100000 in
set_option maxHeartbeats 4000000 in
theorem MJ0_getBytes_840e7 (l : Launch) {E : zE} {Y : zY} {σ : zS} {s0 : Nat} {t1 : Nat} {v2 : Int32} {v3 : Int32} (h0 : s0 < zS_n) (h1 : zT Y 21 t1) {Q : zS → Prop} (hw : wJ0_getBytes_840e7 (zln Y) σ s0 t1 v2 v3 Q) : ∀ sz, Met l yJ0_getBytes_840e7 (zw yJ0_getBytes_840e7 cJ0_getBytes_840e7 4 none) rJ0_getBytes_840e7 (zPc E Y σ sz [.ref (E.2.2.1 s0), .ref (za Y t1), .int v2, .int v3]) (va_Qv Q (zB E Y sz) (zA Y sz)) 0 0 (zA Y sz) := by
  refine z_met (own := RJ0) (Qc := fun sz => va_Qv Q (zB E Y sz) (zA Y sz)) (by decide +kernel) rfl (Nat.le_of_ble_eq_true rfl) ?_
  intro p e s m args below meth c hG hinit
  unfold wJ0_getBytes_840e7 at hw
  refine zlv (lv' := [(0, .ref (E.2.2.1 s0)), (1, .ref (za Y t1)), (2, .int v2), (3, .int v3)]) rfl ?_
  refine z_aload_n hG dJ0_getBytes_840e7_0 rfl 0 rfl ?_
  refine z_calli hG (z_runVs (As := []) (st := []) hG k_J0_335 (MJ0_coder_7d493 l h0 hw) ⟨(Nat.le_of_ble_eq_true rfl), (Nat.le_of_ble_eq_true rfl)⟩ h0 rfl (Nat.le_of_ble_eq_true rfl) dJ0_getBytes_840e7_1 ⟨Nat.zero_le _, Nat.zero_le _⟩ rfl) (fun r2 σ1 hw => ?_)
  refine z_iload_n hG dJ0_getBytes_840e7_4 rfl 3 rfl ?_
  refine z_icmp_ne (tgt := 28) hG dJ0_getBytes_840e7_5 (by decide) (fun c11 => ?_) (fun c11 => ?_)
  · have hw := hw.2 c11
    exact hw.elim
  · have hw := hw.1 c11
    refine z_aload_n hG dJ0_getBytes_840e7_8 rfl 0 rfl ?_
    refine z_sval hG h0 fs_J0_9 dJ0_getBytes_840e7_9 ?_
    refine z_iconst (v := 0) hG dJ0_getBytes_840e7_12 (by decide) ?_
    refine z_aload_n hG dJ0_getBytes_840e7_13 rfl 1 rfl ?_
    refine z_iload_n hG dJ0_getBytes_840e7_14 rfl 2 rfl ?_
    refine z_iload_n hG dJ0_getBytes_840e7_15 rfl 3 rfl ?_
    refine z_ishl hG dJ0_getBytes_840e7_16 ?_
    refine z_aload_n hG dJ0_getBytes_840e7_17 rfl 0 rfl ?_
    refine z_sval hG h0 fs_J0_9 dJ0_getBytes_840e7_18 ?_
    refine z_salen hG h0 dJ0_getBytes_840e7_21 ?_
    refine z_topi (fun x3 ex3 => ?_)
    have hw := hw x3 ex3
    obtain ⟨x4, ex4⟩ : ∃ y : Int32, y = v2 <<< (v3 &&& 31) := ⟨_, rfl⟩
    refine zst (st' := [.int x3, .int x4, .ref (za Y t1), .int 0, .ref (E.2.2.2 s0)]) (by rw [ex4]) ?_
    have hw := hw x4 ex4
    obtain ⟨⟨q5, q6, q7, q8, q9⟩, hw⟩ := hw
    refine z_copyt hG k_J0_212 ks_n ks_s ks_i h0 h1 q5 q6 q7 q8 q9 (by decide +kernel) (by decide +kernel) dJ0_getBytes_840e7_22 ?_
    refine z_topσ (fun σ10 eσ10 => ?_)
    have hw := hw σ10 eσ10
    refine z_goto (tgt := 43) hG dJ0_getBytes_840e7_25 (by decide) ?_
    exact z_vret hG rfl dJ0_getBytes_840e7_43 hw
-- java/lang/AbstractStringBuilder.putStringAt(ILjava/lang/String;)V
def wJ5_putStringAt_47b60 (ln : Nat → Nat) (σ : zS) (t0 : Nat) (v1 : Int32) (s2 : Nat) (Q : zS → Prop) : Prop := wJ5_inflateIfNeededFor_a7421 ln σ t0 s2 (fun σ1 => ∃ j2 : Nat, gr σ1 t0 0 = some j2 ∧ ∀ x3 : Int32, x3 = gi σ1 t0 1 → wJ0_getBytes_840e7 ln σ1 s2 j2 v1 x3 (fun σ4 => Q σ4))
abbrev rJ5_putStringAt_47b60 : Room := { frames := 2, cells := 0, slots := 0, locals := 71 }
set_option maxRecDepth 100000 in
set_option maxHeartbeats 4000000 in
theorem MJ5_putStringAt_47b60 (l : Launch) {E : zE} {Y : zY} {σ : zS} {t0 : Nat} {v1 : Int32} {s2 : Nat} (h0 : zT Y 13 t0) (h2 : s2 < zS_n) {Q : zS → Prop} (hw : wJ5_putStringAt_47b60 (zln Y) σ t0 v1 s2 Q) : ∀ sz, Met l yJ5_putStringAt_47b60 (zw yJ5_putStringAt_47b60 cJ5_putStringAt_47b60 3 none) rJ5_putStringAt_47b60 (zPc E Y σ sz [.ref (za Y t0), .int v1, .ref (E.2.2.1 s2)]) (va_Qv Q (zB E Y sz) (zA Y sz)) 0 0 (zA Y sz) := by
  refine z_met (own := RJ5) (Qc := fun sz => va_Qv Q (zB E Y sz) (zA Y sz)) (by decide +kernel) rfl (Nat.le_of_ble_eq_true rfl) ?_
  intro p e s m args below meth c hG hinit
  unfold wJ5_putStringAt_47b60 at hw
  refine zlv (lv' := [(0, .ref (za Y t0)), (1, .int v1), (2, .ref (E.2.2.1 s2))]) rfl ?_
  refine z_aload_n hG dJ5_putStringAt_47b60_0 rfl 0 rfl ?_
  refine z_aload_n hG dJ5_putStringAt_47b60_1 rfl 2 rfl ?_
  refine z_callv hG (z_runU (As := [.ref (E.2.2.1 s2)]) (st := []) hG k_J5_397 (MJ5_inflateIfNeededFor_a7421 l h0 h2 hw) ⟨(Nat.le_of_ble_eq_true rfl), (Nat.le_of_ble_eq_true rfl)⟩ h0 (T := TJ4) (N := 4) rfl (by decide) rfl (Nat.le_of_ble_eq_true rfl) dJ5_putStringAt_47b60_2 ⟨Nat.zero_le _, Nat.zero_le _⟩ rfl) (fun σ1 hw => ?_)
  refine z_aload_n hG dJ5_putStringAt_47b60_5 rfl 2 rfl ?_
  refine z_aload_n hG dJ5_putStringAt_47b60_6 rfl 0 rfl ?_
  obtain ⟨j2, ej2, hw⟩ := hw
  refine z_getr (kq := 21) hG f_J5_15 h0 rfl ej2 rfl (by decide) dJ5_putStringAt_47b60_7 (fun hj2 => ?_)
  refine z_iload_n hG dJ5_putStringAt_47b60_10 rfl 1 rfl ?_
  refine z_aload_n hG dJ5_putStringAt_47b60_11 rfl 0 rfl ?_
  refine z_geti hG f_J5_22 h0 rfl dJ5_putStringAt_47b60_12 ?_
  refine z_topi (fun x3 ex3 => ?_)
  have hw := hw x3 ex3
  refine z_callv hG (z_runVs (As := [.ref (za Y j2), .int v1, .int x3]) (st := []) hG k_J5_399 (MJ0_getBytes_840e7 l h2 hj2 hw) ⟨(Nat.le_of_ble_eq_true rfl), (Nat.le_of_ble_eq_true rfl)⟩ h2 rfl (Nat.le_of_ble_eq_true rfl) dJ5_putStringAt_47b60_15 ⟨Nat.zero_le _, Nat.zero_le _⟩ rfl) (fun σ4 hw => ?_)
  exact z_vret hG rfl dJ5_putStringAt_47b60_18 hw
-- java/lang/AbstractStringBuilder.append(C)Ljava/lang/AbstractStringBuilder;
def wJ5_append_3fe6f_45 (Q : Nat → zSp → zS → Prop) (t0 : Nat) (v1 : Int32) (S : zSp) (σ : zS) : Prop := wJ5_isLatin1_aae02 (zSl S) σ t0 (fun r2 σ1 => ((r2 = 0 → False) ∧ (¬ r2 = 0 → False)))
def wJ5_append_3fe6f (S : zSp) (σ : zS) (t0 : Nat) (v1 : Int32) (Q : Nat → zSp → zS → Prop) : Prop := ∀ x1 : Int32, x1 = (gi σ t0 3) + 1 → wJ5_ensureCapacityInternal_d00df S σ t0 x1 (fun S2 σ2 => wJ5_isLatin1_aae02 (zSl S2) σ2 t0 (fun r5 σ4 => ((r5 = 0 → wJ5_append_3fe6f_45 Q t0 v1 S2 σ4) ∧ (¬ r5 = 0 → wJ1_canEncode_fc78d (zSl S2) σ4 v1 (fun r7 σ6 => ((r7 = 0 → wJ5_append_3fe6f_45 Q t0 v1 S2 σ6) ∧ (¬ r7 = 0 → ∃ j8 : Nat, gr σ6 t0 0 = some j8 ∧ ∀ x9 : Int32, x9 = gi σ6 t0 3 → ∀ x10 : Int32, x10 = x9 + 1 → ∀ σ11 : zS, σ11 = si σ6 t0 3 x10 → ∀ x12 : Int32, x12 = v1.toInt8.toInt32 → vp_in x9 ((zSl S2) j8) ∧ ∀ σ14 : zS, σ14 = si σ11 j8 x9.toNatClampNeg (vp_nar .byte x12) → Q t0 S2 σ14)))))))
abbrev rJ5_append_3fe6f : Room := { frames := 4, cells := 1, slots := 150, locals := 92 }
set_option maxRecDepth 100000 in
set_option maxHeartbeats 4000000 in
theorem BJ5_append_3fe6f_45 {l : Launch} {E : zE} {Y0 : zY} {p : Program} {e : Env} {s : State} {m : MethodId} {args : Array Value} {below : List Frame} {meth : Method} {c : Code} (hG : zG E p l s m args meth c cJ5_append_3fe6f 2 RJ5 (some (.object "java/lang/AbstractStringBuilder")) (zA Y0 s.heap.size)) {Q : Nat → zSp → zS → Prop} : ∀ (t0 : Nat) (v1 : Int32) (Y : zY) (σ : zS) (cl sl : Nat), wJ5_append_3fe6f_45 Q t0 v1 (zsp Y) σ → zext Y0 Y → zT Y 13 t0 → cl + (0) ≤ 1 → sl + (0) ≤ 150 → WW E Y σ p l e rJ5_append_3fe6f s m args below meth c (zA Y0 s.heap.size) 2 cl sl (MQ below (va_Qr (fun (u : Nat × zY × zS) => Q u.1 (zsp u.2.1) u.2.2) (zBAr E Y0 s.heap.size 13) (zA Y0 s.heap.size)) args s 1 150 (zA Y0 s.heap.size)) [(0, .ref (za Y t0)), (1, .int v1)] 45 [] := by
  intro t0 v1 Y σ cl sl hw hx h0 hcl hsl
  unfold wJ5_append_3fe6f_45 at hw
  refine z_aload_n hG dJ5_append_3fe6f_45 rfl 0 rfl ?_
  refine z_calli hG (z_runU (As := []) (st := []) hG k_J5_83 (MJ5_isLatin1_aae02 l h0 hw) ⟨(Nat.le_of_ble_eq_true rfl), (Nat.le_of_ble_eq_true rfl)⟩ h0 (T := TJ4) (N := 4) rfl (by decide) rfl (Nat.le_of_ble_eq_true rfl) dJ5_append_3fe6f_46 ⟨show cl + 0 + 0 ≤ 1 from by omega, show sl + 0 + 0 ≤ 150 from by omega⟩ rfl) (fun r2 σ1 hw => ?_)
  refine z_if_eq (tgt := 56) hG dJ5_append_3fe6f_49 (by decide) (fun c3 => ?_) (fun c3 => ?_)
  · have hw := hw.1 c3
    exact hw.elim
  · have hw := hw.2 c3
    exact hw.elim
set_option maxRecDepth 100000 in
set_option maxHeartbeats 4000000 in
theorem MJ5_append_3fe6f (l : Launch) {E : zE} {Y : zY} {σ : zS} {t0 : Nat} {v1 : Int32} (h0 : zT Y 13 t0) {Q : Nat → zSp → zS → Prop} (hw : wJ5_append_3fe6f (zsp Y) σ t0 v1 Q) : ∀ sz, Met l yJ5_append_3fe6f (zw yJ5_append_3fe6f cJ5_append_3fe6f 2 (some (.object "java/lang/AbstractStringBuilder"))) rJ5_append_3fe6f (zPc E Y σ sz [.ref (za Y t0), .int v1]) (va_Qr (fun (u : Nat × zY × zS) => Q u.1 (zsp u.2.1) u.2.2) (zBAr E Y sz 13) (zA Y sz)) 1 150 (zA Y sz) := by
  refine z_met (own := RJ5) (Qc := fun sz => va_Qr (fun (u : Nat × zY × zS) => Q u.1 (zsp u.2.1) u.2.2) (zBAr E Y sz 13) (zA Y sz)) (by decide +kernel) rfl (Nat.le_of_ble_eq_true rfl) ?_
  intro p e s m args below meth c hG hinit
  unfold wJ5_append_3fe6f at hw
  refine zlv (lv' := [(0, .ref (za Y t0)), (1, .int v1)]) rfl ?_
  have hx : zext Y Y := zext.rf
  refine z_aload_n hG dJ5_append_3fe6f_0 rfl 0 rfl ?_
  refine z_aload_n hG dJ5_append_3fe6f_1 rfl 0 rfl ?_
  refine z_geti hG f_J5_79 h0 rfl dJ5_append_3fe6f_2 ?_
  refine z_iconst (v := 1) hG dJ5_append_3fe6f_5 (by decide) ?_
  refine z_iadd hG dJ5_append_3fe6f_6 ?_
  refine z_topi (fun x1 ex1 => ?_)
  have hw := hw x1 ex1
  refine z_callAv hG (z_runU (As := [.int x1]) (st := []) hG k_J5_100 (MJ5_ensureCapacityInternal_d00df l h0 hw) ⟨(Nat.le_of_ble_eq_true rfl), (Nat.le_of_ble_eq_true rfl)⟩ h0 (T := TJ4) (N := 4) rfl (by decide) rfl (Nat.le_of_ble_eq_true rfl) dJ5_append_3fe6f_7 ⟨show 0 + 1 ≤ 1 from by omega, show 0 + 150 ≤ 150 from by omega⟩ rfl) (fun Y2 σ2 hx2 hw => ?_)
  refine zwiden (k := 1) (n := 150) (show 0 + 1 ≤ 1 from by omega) (show 0 + 150 ≤ 150 from by omega) ?_
  refine zlv (lv' := [(0, .ref (za Y2 t0)), (1, .int v1)]) (by simp only [hx2.a h0]) ?_
  have h0 := hx2.T h0
  have hx := hx.tr hx2
  refine z_aload_n hG dJ5_append_3fe6f_10 rfl 0 rfl ?_
  refine z_calli hG (z_runU (As := []) (st := []) hG k_J5_83 (MJ5_isLatin1_aae02 l h0 hw) ⟨(Nat.le_of_ble_eq_true rfl), (Nat.le_of_ble_eq_true rfl)⟩ h0 (T := TJ4) (N := 4) rfl (by decide) rfl (Nat.le_of_ble_eq_true rfl) dJ5_append_3fe6f_11 ⟨show 1 + 0 ≤ 1 from by omega, show 150 + 0 ≤ 150 from by omega⟩ rfl) (fun r5 σ4 hw => ?_)
  refine z_if_eq (tgt := 45) hG dJ5_append_3fe6f_14 (by decide) (fun c16 => ?_) (fun c16 => ?_)
  · have hw := hw.1 c16
    refine zpick [0, 1] (lv' := [(0, .ref (za Y2 t0)), (1, .int v1)]) rfl ?_
    refine zwiden (k := 1) (n := 150) (by omega) (by omega) ?_
    exact BJ5_append_3fe6f_45 hG t0 v1 Y2 σ4 _ _ hw hx h0 (by omega) (by omega)
  · have hw := hw.2 c16
    refine z_iload_n hG dJ5_append_3fe6f_17 rfl 1 rfl ?_
    refine z_calli hG (z_runS (As := [.int v1]) (st := []) hG k_J5_191 (MJ1_canEncode_fc78d l hw) ⟨(Nat.le_of_ble_eq_true rfl), (Nat.le_of_ble_eq_true rfl)⟩ rfl (Nat.le_of_ble_eq_true rfl) dJ5_append_3fe6f_18 ⟨show 1 + 0 ≤ 1 from by omega, show 150 + 0 ≤ 150 from by omega⟩ rfl) (fun r7 σ6 hw => ?_)
    refine z_if_eq (tgt := 45) hG dJ5_append_3fe6f_21 (by decide) (fun c15 => ?_) (fun c15 => ?_)
    · have hw := hw.1 c15
      refine zpick [0, 1] (lv' := [(0, .ref (za Y2 t0)), (1, .int v1)]) rfl ?_
      refine zwiden (k := 1) (n := 150) (by omega) (by omega) ?_
      exact BJ5_append_3fe6f_45 hG t0 v1 Y2 σ6 _ _ hw hx h0 (by omega) (by omega)
    · have hw := hw.2 c15
      refine z_aload_n hG dJ5_append_3fe6f_24 rfl 0 rfl ?_
      obtain ⟨j8, ej8, hw⟩ := hw
      refine z_getr (kq := 21) hG f_J5_15 h0 rfl ej8 rfl (by decide) dJ5_append_3fe6f_25 (fun hj8 => ?_)
      refine z_aload_n hG dJ5_append_3fe6f_28 rfl 0 rfl ?_
      refine z_dup hG dJ5_append_3fe6f_29 rfl ?_
      refine z_geti hG f_J5_79 h0 rfl dJ5_append_3fe6f_30 ?_
      refine z_topi (fun x9 ex9 => ?_)
      have hw := hw x9 ex9
      refine z_dup_x1 hG dJ5_append_3fe6f_33 rfl rfl ?_
      refine z_iconst (v := 1) hG dJ5_append_3fe6f_34 (by decide) ?_
      refine z_iadd hG dJ5_append_3fe6f_35 ?_
      refine z_topi (fun x10 ex10 => ?_)
      have hw := hw x10 ex10
      refine z_puti hG f_J5_79 h0 rfl rfl (zN_int _) dJ5_append_3fe6f_36 ?_
      refine z_topσ (fun σ11 eσ11 => ?_)
      have hw := hw σ11 eσ11
      refine z_iload_n hG dJ5_append_3fe6f_39 rfl 1 rfl ?_
      refine z_i2b hG dJ5_append_3fe6f_40 ?_
      refine z_topi (fun x12 ex12 => ?_)
      have hw := hw x12 ex12
      obtain ⟨q13, hw⟩ := hw
      refine z_bast hG hj8 q13 dJ5_append_3fe6f_41 ?_
      refine z_topσ (fun σ14 eσ14 => ?_)
      have hw := hw σ14 eσ14
      refine z_goto (tgt := 75) hG dJ5_append_3fe6f_42 (by decide) ?_
      refine z_aload_n hG dJ5_append_3fe6f_75 rfl 0 rfl ?_
      refine zwiden (k := 1) (n := 150) (by omega) (by omega) ?_
      exact z_aretA hG hx rfl (Or.inl ⟨_, rfl⟩) h0 dJ5_append_3fe6f_76 hw
-- java/lang/AbstractStringBuilder.append(I)Ljava/lang/AbstractStringBuilder;
def wJ5_append_c97b9 (S : zSp) (σ : zS) (t0 : Nat) (v1 : Int32) (Q : Nat → zSp → zS → Prop) : Prop := ∀ x1 : Int32, x1 = gi σ t0 3 → wJ6_stringSize_0f7a4 (zSl S) σ v1 (fun r3 σ2 => ∀ x4 : Int32, x4 = x1 + r3 → wJ5_ensureCapacityInternal_d00df S σ2 t0 x4 (fun S5 σ5 => wJ5_isLatin1_aae02 (zSl S5) σ5 t0 (fun r8 σ7 => ((r8 = 0 → False) ∧ (¬ r8 = 0 → ∃ j10 : Nat, gr σ7 t0 0 = some j10 ∧ wJ6_getChars_ba4f3 (zSl S5) σ7 v1 x4 j10 (fun r12 σ11 => ∀ σ13 : zS, σ13 = si σ11 t0 3 x4 → Q t0 S5 σ13))))))
abbrev rJ5_append_c97b9 : Room := { frames := 4, cells := 1, slots := 150, locals := 92 }
set_option maxRecDepth 100000 in
set_option maxHeartbeats 4000000 in
theorem MJ5_append_c97b9 (l : Launch) {E : zE} {Y : zY} {σ : zS} {t0 : Nat} {v1 : Int32} (h0 : zT Y 13 t0) {Q : Nat → zSp → zS → Prop} (hw : wJ5_append_c97b9 (zsp Y) σ t0 v1 Q) : ∀ sz, Met l yJ5_append_c97b9 (zw yJ5_append_c97b9 cJ5_append_c97b9 4 (some (.object "java/lang/AbstractStringBuilder"))) rJ5_append_c97b9 (zPc E Y σ sz [.ref (za Y t0), .int v1]) (va_Qr (fun (u : Nat × zY × zS) => Q u.1 (zsp u.2.1) u.2.2) (zBAr E Y sz 13) (zA Y sz)) 1 150 (zA Y sz) := by
  refine z_met (own := RJ5) (Qc := fun sz => va_Qr (fun (u : Nat × zY × zS) => Q u.1 (zsp u.2.1) u.2.2) (zBAr E Y sz 13) (zA Y sz)) (by decide +kernel) rfl (Nat.le_of_ble_eq_true rfl) ?_
  intro p e s m args below meth c hG hinit
  unfold wJ5_append_c97b9 at hw
  refine zlv (lv' := [(0, .ref (za Y t0)), (1, .int v1)]) rfl ?_
  have hx : zext Y Y := zext.rf
  refine z_aload_n hG dJ5_append_c97b9_0 rfl 0 rfl ?_
  refine z_geti hG f_J5_79 h0 rfl dJ5_append_c97b9_1 ?_
  refine z_topi (fun x1 ex1 => ?_)
  have hw := hw x1 ex1
  refine z_istore_n (lv' := [(2, .int x1), (0, .ref (za Y t0)), (1, .int v1)]) hG dJ5_append_c97b9_4 rfl (by decide) rfl ?_
  refine z_iload_n hG dJ5_append_c97b9_5 rfl 0 rfl ?_
  refine z_iload_n hG dJ5_append_c97b9_6 rfl 2 rfl ?_
  refine z_calli hG (z_runS (As := [.int v1]) (st := [.int x1]) hG k_J5_245 (MJ6_stringSize_0f7a4 l hw) ⟨(Nat.le_of_ble_eq_true rfl), (Nat.le_of_ble_eq_true rfl)⟩ rfl (Nat.le_of_ble_eq_true rfl) dJ5_append_c97b9_7 ⟨show 0 + 0 ≤ 1 from by omega, show 0 + 0 ≤ 150 from by omega⟩ rfl) (fun r3 σ2 hw => ?_)
  refine z_iadd hG dJ5_append_c97b9_10 ?_
  refine z_topi (fun x4 ex4 => ?_)
  have hw := hw x4 ex4
  refine z_istore_n (lv' := [(3, .int x4), (2, .int x1), (0, .ref (za Y t0)), (1, .int v1)]) hG dJ5_append_c97b9_11 rfl (by decide) rfl ?_
  refine z_aload_n hG dJ5_append_c97b9_12 rfl 2 rfl ?_
  refine z_iload_n hG dJ5_append_c97b9_13 rfl 0 rfl ?_
  refine z_callAv hG (z_runU (As := [.int x4]) (st := []) hG k_J5_100 (MJ5_ensureCapacityInternal_d00df l h0 hw) ⟨(Nat.le_of_ble_eq_true rfl), (Nat.le_of_ble_eq_true rfl)⟩ h0 (T := TJ4) (N := 4) rfl (by decide) rfl (Nat.le_of_ble_eq_true rfl) dJ5_append_c97b9_14 ⟨show 0 + 1 ≤ 1 from by omega, show 0 + 150 ≤ 150 from by omega⟩ rfl) (fun Y5 σ5 hx5 hw => ?_)
  refine zwiden (k := 1) (n := 150) (show 0 + 1 ≤ 1 from by omega) (show 0 + 150 ≤ 150 from by omega) ?_
  refine zlv (lv' := [(3, .int x4), (2, .int x1), (0, .ref (za Y5 t0)), (1, .int v1)]) (by simp only [hx5.a h0]) ?_
  have h0 := hx5.T h0
  have hx := hx.tr hx5
  refine z_aload_n hG dJ5_append_c97b9_17 rfl 2 rfl ?_
  refine z_calli hG (z_runU (As := []) (st := []) hG k_J5_83 (MJ5_isLatin1_aae02 l h0 hw) ⟨(Nat.le_of_ble_eq_true rfl), (Nat.le_of_ble_eq_true rfl)⟩ h0 (T := TJ4) (N := 4) rfl (by decide) rfl (Nat.le_of_ble_eq_true rfl) dJ5_append_c97b9_18 ⟨show 1 + 0 ≤ 1 from by omega, show 150 + 0 ≤ 150 from by omega⟩ rfl) (fun r8 σ7 hw => ?_)
  refine z_if_eq (tgt := 37) hG dJ5_append_c97b9_21 (by decide) (fun c14 => ?_) (fun c14 => ?_)
  · have hw := hw.1 c14
    exact hw.elim
  · have hw := hw.2 c14
    refine z_iload_n hG dJ5_append_c97b9_24 rfl 3 rfl ?_
    refine z_iload_n hG dJ5_append_c97b9_25 rfl 0 rfl ?_
    refine z_aload_n hG dJ5_append_c97b9_26 rfl 2 rfl ?_
    obtain ⟨j10, ej10, hw⟩ := hw
    refine z_getr (kq := 21) hG f_J5_15 h0 rfl ej10 rfl (by decide) dJ5_append_c97b9_27 (fun hj10 => ?_)
    refine z_calli hG (z_runS (As := [.int v1, .int x4, .ref (za Y5 j10)]) (st := []) hG k_J5_248 (MJ6_getChars_ba4f3 l hj10 hw) ⟨(Nat.le_of_ble_eq_true rfl), (Nat.le_of_ble_eq_true rfl)⟩ rfl (Nat.le_of_ble_eq_true rfl) dJ5_append_c97b9_30 ⟨show 1 + 0 ≤ 1 from by omega, show 150 + 0 ≤ 150 from by omega⟩ rfl) (fun r12 σ11 hw => ?_)
    refine z_pop hG dJ5_append_c97b9_33 rfl ?_
    refine z_goto (tgt := 48) hG dJ5_append_c97b9_34 (by decide) ?_
    refine z_aload_n hG dJ5_append_c97b9_48 rfl 2 rfl ?_
    refine z_iload_n hG dJ5_append_c97b9_49 rfl 0 rfl ?_
    refine z_puti hG f_J5_79 h0 rfl rfl (zN_int _) dJ5_append_c97b9_50 ?_
    refine z_topσ (fun σ13 eσ13 => ?_)
    have hw := hw σ13 eσ13
    refine z_aload_n hG dJ5_append_c97b9_53 rfl 2 rfl ?_
    refine zwiden (k := 1) (n := 150) (by omega) (by omega) ?_
    exact z_aretA hG hx rfl (Or.inl ⟨_, rfl⟩) h0 dJ5_append_c97b9_54 hw
-- java/lang/AbstractStringBuilder.append(Ljava/lang/String;)Ljava/lang/AbstractStringBuilder;
def wJ5_append_cf1ce (S : zSp) (σ : zS) (t0 : Nat) (s1 : Nat) (Q : Nat → zSp → zS → Prop) : Prop := wJ0_length_8abf5 (zSl S) σ s1 (fun r2 σ1 => ∀ x3 : Int32, x3 = (gi σ1 t0 3) + r2 → wJ5_ensureCapacityInternal_d00df S σ1 t0 x3 (fun S4 σ4 => ∀ x6 : Int32, x6 = gi σ4 t0 3 → wJ5_putStringAt_47b60 (zSl S4) σ4 t0 x6 s1 (fun σ7 => ∀ x8 : Int32, x8 = (gi σ7 t0 3) + r2 → ∀ σ9 : zS, σ9 = si σ7 t0 3 x8 → Q t0 S4 σ9)))
abbrev rJ5_append_cf1ce : Room := { frames := 4, cells := 1, slots := 150, locals := 93 }
set_option maxRecDepth 100000 in
set_option maxHeartbeats 4000000 in
theorem MJ5_append_cf1ce (l : Launch) {E : zE} {Y : zY} {σ : zS} {t0 : Nat} {s1 : Nat} (h0 : zT Y 13 t0) (h1 : s1 < zS_n) {Q : Nat → zSp → zS → Prop} (hw : wJ5_append_cf1ce (zsp Y) σ t0 s1 Q) : ∀ sz, Met l yJ5_append_cf1ce (zw yJ5_append_cf1ce cJ5_append_cf1ce 3 (some (.object "java/lang/AbstractStringBuilder"))) rJ5_append_cf1ce (zPc E Y σ sz [.ref (za Y t0), .ref (E.2.2.1 s1)]) (va_Qr (fun (u : Nat × zY × zS) => Q u.1 (zsp u.2.1) u.2.2) (zBAr E Y sz 13) (zA Y sz)) 1 150 (zA Y sz) := by
  refine z_met (own := RJ5) (Qc := fun sz => va_Qr (fun (u : Nat × zY × zS) => Q u.1 (zsp u.2.1) u.2.2) (zBAr E Y sz 13) (zA Y sz)) (by decide +kernel) rfl (Nat.le_of_ble_eq_true rfl) ?_
  intro p e s m args below meth c hG hinit
  unfold wJ5_append_cf1ce at hw
  refine zlv (lv' := [(0, .ref (za Y t0)), (1, .ref (E.2.2.1 s1))]) rfl ?_
  have hx : zext Y Y := zext.rf
  refine z_aload_n hG dJ5_append_cf1ce_0 rfl 1 rfl ?_
  refine z_ifnonnull_yes (tgt := 9) hG dJ5_append_cf1ce_1 (by decide) ?_
  refine z_aload_n hG dJ5_append_cf1ce_9 rfl 1 rfl ?_
  refine z_calli hG (z_runVs (As := []) (st := []) hG k_J5_32 (MJ0_length_8abf5 l h1 hw) ⟨(Nat.le_of_ble_eq_true rfl), (Nat.le_of_ble_eq_true rfl)⟩ h1 rfl (Nat.le_of_ble_eq_true rfl) dJ5_append_cf1ce_10 ⟨show 0 + 0 ≤ 1 from by omega, show 0 + 0 ≤ 150 from by omega⟩ rfl) (fun r2 σ1 hw => ?_)
  refine z_istore_n (lv' := [(2, .int r2), (0, .ref (za Y t0)), (1, .ref (E.2.2.1 s1))]) hG dJ5_append_cf1ce_13 rfl (by decide) rfl ?_
  refine z_aload_n hG dJ5_append_cf1ce_14 rfl 1 rfl ?_
  refine z_aload_n hG dJ5_append_cf1ce_15 rfl 1 rfl ?_
  refine z_geti hG f_J5_79 h0 rfl dJ5_append_cf1ce_16 ?_
  refine z_iload_n hG dJ5_append_cf1ce_19 rfl 0 rfl ?_
  refine z_iadd hG dJ5_append_cf1ce_20 ?_
  refine z_topi (fun x3 ex3 => ?_)
  have hw := hw x3 ex3
  refine z_callAv hG (z_runU (As := [.int x3]) (st := []) hG k_J5_100 (MJ5_ensureCapacityInternal_d00df l h0 hw) ⟨(Nat.le_of_ble_eq_true rfl), (Nat.le_of_ble_eq_true rfl)⟩ h0 (T := TJ4) (N := 4) rfl (by decide) rfl (Nat.le_of_ble_eq_true rfl) dJ5_append_cf1ce_21 ⟨show 0 + 1 ≤ 1 from by omega, show 0 + 150 ≤ 150 from by omega⟩ rfl) (fun Y4 σ4 hx4 hw => ?_)
  refine zwiden (k := 1) (n := 150) (show 0 + 1 ≤ 1 from by omega) (show 0 + 150 ≤ 150 from by omega) ?_
  refine zlv (lv' := [(2, .int r2), (0, .ref (za Y4 t0)), (1, .ref (E.2.2.1 s1))]) (by simp only [hx4.a h0]) ?_
  have h0 := hx4.T h0
  have hx := hx.tr hx4
  refine z_aload_n hG dJ5_append_cf1ce_24 rfl 1 rfl ?_
  refine z_aload_n hG dJ5_append_cf1ce_25 rfl 1 rfl ?_
  refine z_geti hG f_J5_79 h0 rfl dJ5_append_cf1ce_26 ?_
  refine z_aload_n hG dJ5_append_cf1ce_29 rfl 2 rfl ?_
  obtain ⟨x6, ex6⟩ : ∃ y : Int32, y = gi σ4 t0 3 := ⟨_, rfl⟩
  refine zst (st' := [.ref (E.2.2.1 s1), .int x6, .ref (za Y4 t0)]) (by rw [ex6] <;> rfl) ?_
  have hw := hw x6 ex6
  refine z_callv hG (z_runU (As := [.int x6, .ref (E.2.2.1 s1)]) (st := []) hG k_J5_208 (MJ5_putStringAt_47b60 l h0 h1 hw) ⟨(Nat.le_of_ble_eq_true rfl), (Nat.le_of_ble_eq_true rfl)⟩ h0 (T := TJ4) (N := 4) rfl (by decide) rfl (Nat.le_of_ble_eq_true rfl) dJ5_append_cf1ce_30 ⟨show 1 + 0 ≤ 1 from by omega, show 150 + 0 ≤ 150 from by omega⟩ rfl) (fun σ7 hw => ?_)
  refine z_aload_n hG dJ5_append_cf1ce_33 rfl 1 rfl ?_
  refine z_dup hG dJ5_append_cf1ce_34 rfl ?_
  refine z_geti hG f_J5_79 h0 rfl dJ5_append_cf1ce_35 ?_
  refine z_iload_n hG dJ5_append_cf1ce_38 rfl 0 rfl ?_
  refine z_iadd hG dJ5_append_cf1ce_39 ?_
  refine z_topi (fun x8 ex8 => ?_)
  have hw := hw x8 ex8
  refine z_puti hG f_J5_79 h0 rfl rfl (zN_int _) dJ5_append_cf1ce_40 ?_
  refine z_topσ (fun σ9 eσ9 => ?_)
  have hw := hw σ9 eσ9
  refine z_aload_n hG dJ5_append_cf1ce_43 rfl 1 rfl ?_
  refine zwiden (k := 1) (n := 150) (by omega) (by omega) ?_
  exact z_aretA hG hx rfl (Or.inl ⟨_, rfl⟩) h0 dJ5_append_cf1ce_44 hw
-- java/lang/AbstractStringBuilder.length()I
def wJ5_length_8abf5 (ln : Nat → Nat) (σ : zS) (t0 : Nat) (Q : Int32 → zS → Prop) : Prop := Q (gi σ t0 3) σ
abbrev rJ5_length_8abf5 : Room := { frames := 0, cells := 0, slots := 0, locals := 0 }
set_option maxRecDepth 100000 in
set_option maxHeartbeats 4000000 in
theorem MJ5_length_8abf5 (l : Launch) {E : zE} {Y : zY} {σ : zS} {t0 : Nat} (h0 : zT Y 13 t0) {Q : Int32 → zS → Prop} (hw : wJ5_length_8abf5 (zln Y) σ t0 Q) : ∀ sz, Met l yJ5_length_8abf5 (zw yJ5_length_8abf5 cJ5_length_8abf5 1 (some .int)) rJ5_length_8abf5 (zPc E Y σ sz [.ref (za Y t0)]) (va_Qi Q (zB E Y sz) (zA Y sz)) 0 0 (zA Y sz) := by
  refine z_met (own := RJ5) (Qc := fun sz => va_Qi Q (zB E Y sz) (zA Y sz)) (by decide +kernel) rfl (Nat.le_of_ble_eq_true rfl) ?_
  intro p e s m args below meth c hG hinit
  unfold wJ5_length_8abf5 at hw
  refine zlv (lv' := [(0, .ref (za Y t0))]) rfl ?_
  refine z_aload_n hG dJ5_length_8abf5_0 rfl 0 rfl ?_
  refine z_geti hG f_J5_79 h0 rfl dJ5_length_8abf5_1 ?_
  exact z_iret hG rfl rfl dJ5_length_8abf5_4 hw
-- java/lang/AbstractStringBuilder.charAt(I)C
def wJ5_charAt_5068e (ln : Nat → Nat) (σ : zS) (t0 : Nat) (v1 : Int32) (Q : Int32 → zS → Prop) : Prop := ∀ x1 : Int32, x1 = gi σ t0 1 → ∃ j2 : Nat, gr σ t0 0 = some j2 ∧ ∀ x3 : Int32, x3 = (nI (ln j2)) >>> (x1 &&& 31) → ∀ x4 : Int32, x4 = gi σ t0 3 → ∀ x5 : Int32, x5 = (if x3 < x4 then x3 else x4) → wJ0_checkIndex_df160 ln σ v1 x5 (fun σ6 => ((x1 = 0 → vp_in v1 (ln j2) ∧ ∀ x8 : Int32, x8 = (gi σ6 j2 v1.toNatClampNeg) &&& 255 → Q ((x8.toUInt32 % 65536).toInt32) σ6) ∧ (¬ x1 = 0 → False)))
abbrev rJ5_charAt_5068e : Room := { frames := 2, cells := 0, slots := 0, locals := 43 }
set_option maxRecDepth 100000 in
set_option maxHeartbeats 4000000 in
theorem MJ5_charAt_5068e (l : Launch) {E : zE} {Y : zY} {σ : zS} {t0 : Nat} {v1 : Int32} (h0 : zT Y 13 t0) {Q : Int32 → zS → Prop} (hw : wJ5_charAt_5068e (zln Y) σ t0 v1 Q) : ∀ sz, Met l yJ5_charAt_5068e (zw yJ5_charAt_5068e cJ5_charAt_5068e 5 (some .char)) rJ5_charAt_5068e (zPc E Y σ sz [.ref (za Y t0), .int v1]) (va_Qi Q (zB E Y sz) (zA Y sz)) 0 0 (zA Y sz) := by
  refine z_met (own := RJ5) (Qc := fun sz => va_Qi Q (zB E Y sz) (zA Y sz)) (by decide +kernel) rfl (Nat.le_of_ble_eq_true rfl) ?_
  intro p e s m args below meth c hG hinit
  unfold wJ5_charAt_5068e at hw
  refine zlv (lv' := [(0, .ref (za Y t0)), (1, .int v1)]) rfl ?_
  refine z_aload_n hG dJ5_charAt_5068e_0 rfl 0 rfl ?_
  refine z_geti hG f_J5_22 h0 rfl dJ5_charAt_5068e_1 ?_
  refine z_topi (fun x1 ex1 => ?_)
  have hw := hw x1 ex1
  refine z_istore_n (lv' := [(2, .int x1), (0, .ref (za Y t0)), (1, .int v1)]) hG dJ5_charAt_5068e_4 rfl (by decide) rfl ?_
  refine z_aload_n hG dJ5_charAt_5068e_5 rfl 1 rfl ?_
  obtain ⟨j2, ej2, hw⟩ := hw
  refine z_getr (kq := 21) hG f_J5_15 h0 rfl ej2 rfl (by decide) dJ5_charAt_5068e_6 (fun hj2 => ?_)
  refine z_astore_n (lv' := [(3, .ref (za Y j2)), (2, .int x1), (0, .ref (za Y t0)), (1, .int v1)]) hG dJ5_charAt_5068e_9 rfl (by decide) rfl ?_
  refine z_aload_n hG dJ5_charAt_5068e_10 rfl 2 rfl ?_
  refine z_geti hG f_J5_79 h0 rfl dJ5_charAt_5068e_11 ?_
  refine z_aload_n hG dJ5_charAt_5068e_14 rfl 0 rfl ?_
  refine z_alen hG hj2 (by decide) (t0 := 1) rfl dJ5_charAt_5068e_15 ?_
  refine z_iload_n hG dJ5_charAt_5068e_16 rfl 1 rfl ?_
  refine z_ishr hG dJ5_charAt_5068e_17 ?_
  refine z_topi (fun x3 ex3 => ?_)
  have hw := hw x3 ex3
  obtain ⟨x4, ex4⟩ : ∃ y : Int32, y = gi σ t0 3 := ⟨_, rfl⟩
  refine zst (st' := [.int x3, .int x4]) (by rw [ex4]) ?_
  have hw := hw x4 ex4
  refine z_mmin hG k_J5_138 km_min_s km_i km_min_c (Nat.le_of_ble_eq_true rfl) (Nat.le_of_ble_eq_true rfl) (Nat.zero_le _) (Nat.zero_le _) dJ5_charAt_5068e_18 ?_
  refine z_topi (fun x5 ex5 => ?_)
  have hw := hw x5 ex5
  refine z_istore (lv' := [(4, .int x5), (3, .ref (za Y j2)), (2, .int x1), (0, .ref (za Y t0)), (1, .int v1)]) hG dJ5_charAt_5068e_21 (by decide) rfl ?_
  refine z_iload_n hG dJ5_charAt_5068e_23 rfl 4 rfl ?_
  refine z_iload hG dJ5_charAt_5068e_24 0 rfl ?_
  refine z_callv hG (z_runS (As := [.int v1, .int x5]) (st := []) hG k_J5_144 (MJ0_checkIndex_df160 l hw) ⟨(Nat.le_of_ble_eq_true rfl), (Nat.le_of_ble_eq_true rfl)⟩ rfl (Nat.le_of_ble_eq_true rfl) dJ5_charAt_5068e_26 ⟨Nat.zero_le _, Nat.zero_le _⟩ rfl) (fun σ6 hw => ?_)
  refine z_iload_n hG dJ5_charAt_5068e_29 rfl 2 rfl ?_
  refine z_if_ne (tgt := 42) hG dJ5_charAt_5068e_30 (by decide) (fun c9 => ?_) (fun c9 => ?_)
  · have hw := hw.2 c9
    exact hw.elim
  · have hw := hw.1 c9
    refine z_aload_n hG dJ5_charAt_5068e_33 rfl 1 rfl ?_
    refine z_iload_n hG dJ5_charAt_5068e_34 rfl 4 rfl ?_
    obtain ⟨q7, hw⟩ := hw
    refine z_bald hG hj2 q7 dJ5_charAt_5068e_35 ?_
    refine z_sipush (v := 255) hG dJ5_charAt_5068e_36 (by decide) ?_
    refine z_iand hG dJ5_charAt_5068e_39 ?_
    refine z_topi (fun x8 ex8 => ?_)
    have hw := hw x8 ex8
    refine z_i2c hG dJ5_charAt_5068e_40 ?_
    exact z_iret hG rfl (pk_nc _) dJ5_charAt_5068e_41 hw
-- java/lang/AbstractStringBuilder.getValue()[B
def wJ5_getValue_6d5f1 (ln : Nat → Nat) (σ : zS) (t0 : Nat) (Q : Nat → zS → Prop) : Prop := ∃ j1 : Nat, gr σ t0 0 = some j1 ∧ Q j1 σ
abbrev rJ5_getValue_6d5f1 : Room := { frames := 0, cells := 0, slots := 0, locals := 0 }
set_option maxRecDepth 100000 in
set_option maxHeartbeats 4000000 in
theorem MJ5_getValue_6d5f1 (l : Launch) {E : zE} {Y : zY} {σ : zS} {t0 : Nat} (h0 : zT Y 13 t0) {Q : Nat → zS → Prop} (hw : wJ5_getValue_6d5f1 (zln Y) σ t0 Q) : ∀ sz, Met l yJ5_getValue_6d5f1 (zw yJ5_getValue_6d5f1 cJ5_getValue_6d5f1 1 (some (.array .byte))) rJ5_getValue_6d5f1 (zPc E Y σ sz [.ref (za Y t0)]) (va_Qe (za Y) (zQe (zSm Q)) (zBe E Y sz 21) (zA Y sz)) 0 0 (zA Y sz) := by
  refine z_met (own := RJ5) (Qc := fun sz => va_Qe (za Y) (zQe (zSm Q)) (zBe E Y sz 21) (zA Y sz)) (by decide +kernel) rfl (Nat.le_of_ble_eq_true rfl) ?_
  intro p e s m args below meth c hG hinit
  unfold wJ5_getValue_6d5f1 at hw
  refine zlv (lv' := [(0, .ref (za Y t0))]) rfl ?_
  refine z_aload_n hG dJ5_getValue_6d5f1_0 rfl 0 rfl ?_
  obtain ⟨j1, ej1, hw⟩ := hw
  refine z_getr (kq := 21) hG f_J5_15 h0 rfl ej1 rfl (by decide) dJ5_getValue_6d5f1_1 (fun hj1 => ?_)
  exact z_aret hG rfl (Or.inr ⟨_, rfl⟩) hj1 dJ5_getValue_6d5f1_4 ⟨_, rfl, hw⟩
-- java/lang/StringBuilder.append(C)Ljava/lang/StringBuilder;
def wJ4_append_cf468 (S : zSp) (σ : zS) (t0 : Nat) (v1 : Int32) (Q : Nat → zSp → zS → Prop) : Prop := wJ5_append_3fe6f S σ t0 v1 (fun r2 S1 σ1 => Q t0 S1 σ1)
abbrev rJ4_append_cf468 : Room := { frames := 5, cells := 1, slots := 150, locals := 113 }
set_option maxRecDepth 100000 in
set_option maxHeartbeats 4000000 in
theorem MJ4_append_cf468 (l : Launch) {E : zE} {Y : zY} {σ : zS} {t0 : Nat} {v1 : Int32} (h0 : zT Y 13 t0) {Q : Nat → zSp → zS → Prop} (hw : wJ4_append_cf468 (zsp Y) σ t0 v1 Q) : ∀ sz, Met l yJ4_append_cf468 (zw yJ4_append_cf468 cJ4_append_cf468 2 (some (.object "java/lang/StringBuilder"))) rJ4_append_cf468 (zPc E Y σ sz [.ref (za Y t0), .int v1]) (va_Qr (fun (u : Nat × zY × zS) => Q u.1 (zsp u.2.1) u.2.2) (zBAr E Y sz 13) (zA Y sz)) 1 150 (zA Y sz) := by
  refine z_met (own := RJ4) (Qc := fun sz => va_Qr (fun (u : Nat × zY × zS) => Q u.1 (zsp u.2.1) u.2.2) (zBAr E Y sz 13) (zA Y sz)) (by decide +kernel) rfl (Nat.le_of_ble_eq_true rfl) ?_
  intro p e s m args below meth c hG hinit
  unfold wJ4_append_cf468 at hw
  refine zlv (lv' := [(0, .ref (za Y t0)), (1, .int v1)]) rfl ?_
  have hx : zext Y Y := zext.rf
  refine z_aload_n hG dJ4_append_cf468_0 rfl 0 rfl ?_
  refine z_iload_n hG dJ4_append_cf468_1 rfl 1 rfl ?_
  refine z_callAr hG (z_runSU (As := [.int v1]) (st := []) hG k_J4_50 (MJ5_append_3fe6f l h0 hw) ⟨(Nat.le_of_ble_eq_true rfl), (Nat.le_of_ble_eq_true rfl)⟩ h0 (T := TJ4) (N := 4) rfl (by decide) rfl (Nat.le_of_ble_eq_true rfl) dJ4_append_cf468_2 ⟨show 0 + 1 ≤ 1 from by omega, show 0 + 150 ≤ 150 from by omega⟩ rfl) (fun Y1 r2 σ1 hx1 hr2 hw => ?_)
  refine zwiden (k := 1) (n := 150) (show 0 + 1 ≤ 1 from by omega) (show 0 + 150 ≤ 150 from by omega) ?_
  refine zlv (lv' := [(0, .ref (za Y1 t0)), (1, .int v1)]) (by simp only [hx1.a h0]) ?_
  have h0 := hx1.T h0
  have hx := hx.tr hx1
  refine z_pop hG dJ4_append_cf468_5 rfl ?_
  refine z_aload_n hG dJ4_append_cf468_6 rfl 0 rfl ?_
  refine zwiden (k := 1) (n := 150) (by omega) (by omega) ?_
  exact z_aretA hG hx rfl (Or.inl ⟨_, rfl⟩) h0 dJ4_append_cf468_7 hw
-- java/lang/StringBuilder.append(I)Ljava/lang/StringBuilder;
def wJ4_append_bf812 (S : zSp) (σ : zS) (t0 : Nat) (v1 : Int32) (Q : Nat → zSp → zS → Prop) : Prop := wJ5_append_c97b9 S σ t0 v1 (fun r2 S1 σ1 => Q t0 S1 σ1)
abbrev rJ4_append_bf812 : Room := { frames := 5, cells := 1, slots := 150, locals := 115 }
set_option maxRecDepth 100000 in
set_option maxHeartbeats 4000000 in
theorem MJ4_append_bf812 (l : Launch) {E : zE} {Y : zY} {σ : zS} {t0 : Nat} {v1 : Int32} (h0 : zT Y 13 t0) {Q : Nat → zSp → zS → Prop} (hw : wJ4_append_bf812 (zsp Y) σ t0 v1 Q) : ∀ sz, Met l yJ4_append_bf812 (zw yJ4_append_bf812 cJ4_append_bf812 2 (some (.object "java/lang/StringBuilder"))) rJ4_append_bf812 (zPc E Y σ sz [.ref (za Y t0), .int v1]) (va_Qr (fun (u : Nat × zY × zS) => Q u.1 (zsp u.2.1) u.2.2) (zBAr E Y sz 13) (zA Y sz)) 1 150 (zA Y sz) := by
  refine z_met (own := RJ4) (Qc := fun sz => va_Qr (fun (u : Nat × zY × zS) => Q u.1 (zsp u.2.1) u.2.2) (zBAr E Y sz 13) (zA Y sz)) (by decide +kernel) rfl (Nat.le_of_ble_eq_true rfl) ?_
  intro p e s m args below meth c hG hinit
  unfold wJ4_append_bf812 at hw
  refine zlv (lv' := [(0, .ref (za Y t0)), (1, .int v1)]) rfl ?_
  have hx : zext Y Y := zext.rf
  refine z_aload_n hG dJ4_append_bf812_0 rfl 0 rfl ?_
  refine z_iload_n hG dJ4_append_bf812_1 rfl 1 rfl ?_
  refine z_callAr hG (z_runSU (As := [.int v1]) (st := []) hG k_J4_53 (MJ5_append_c97b9 l h0 hw) ⟨(Nat.le_of_ble_eq_true rfl), (Nat.le_of_ble_eq_true rfl)⟩ h0 (T := TJ4) (N := 4) rfl (by decide) rfl (Nat.le_of_ble_eq_true rfl) dJ4_append_bf812_2 ⟨show 0 + 1 ≤ 1 from by omega, show 0 + 150 ≤ 150 from by omega⟩ rfl) (fun Y1 r2 σ1 hx1 hr2 hw => ?_)
  refine zwiden (k := 1) (n := 150) (show 0 + 1 ≤ 1 from by omega) (show 0 + 150 ≤ 150 from by omega) ?_
  refine zlv (lv' := [(0, .ref (za Y1 t0)), (1, .int v1)]) (by simp only [hx1.a h0]) ?_
  have h0 := hx1.T h0
  have hx := hx.tr hx1
  refine z_pop hG dJ4_append_bf812_5 rfl ?_
  refine z_aload_n hG dJ4_append_bf812_6 rfl 0 rfl ?_
  refine zwiden (k := 1) (n := 150) (by omega) (by omega) ?_
  exact z_aretA hG hx rfl (Or.inl ⟨_, rfl⟩) h0 dJ4_append_bf812_7 hw
-- java/lang/StringBuilder.append(Ljava/lang/String;)Ljava/lang/StringBuilder;
def wJ4_append_15ec4 (S : zSp) (σ : zS) (t0 : Nat) (s1 : Nat) (Q : Nat → zSp → zS → Prop) : Prop := wJ5_append_cf1ce S σ t0 s1 (fun r2 S1 σ1 => Q t0 S1 σ1)
abbrev rJ4_append_15ec4 : Room := { frames := 5, cells := 1, slots := 150, locals := 115 }
set_option maxRecDepth 100000 in
set_option maxHeartbeats 4000000 in
theorem MJ4_append_15ec4 (l : Launch) {E : zE} {Y : zY} {σ : zS} {t0 : Nat} {s1 : Nat} (h0 : zT Y 13 t0) (h1 : s1 < zS_n) {Q : Nat → zSp → zS → Prop} (hw : wJ4_append_15ec4 (zsp Y) σ t0 s1 Q) : ∀ sz, Met l yJ4_append_15ec4 (zw yJ4_append_15ec4 cJ4_append_15ec4 2 (some (.object "java/lang/StringBuilder"))) rJ4_append_15ec4 (zPc E Y σ sz [.ref (za Y t0), .ref (E.2.2.1 s1)]) (va_Qr (fun (u : Nat × zY × zS) => Q u.1 (zsp u.2.1) u.2.2) (zBAr E Y sz 13) (zA Y sz)) 1 150 (zA Y sz) := by
  refine z_met (own := RJ4) (Qc := fun sz => va_Qr (fun (u : Nat × zY × zS) => Q u.1 (zsp u.2.1) u.2.2) (zBAr E Y sz 13) (zA Y sz)) (by decide +kernel) rfl (Nat.le_of_ble_eq_true rfl) ?_
  intro p e s m args below meth c hG hinit
  unfold wJ4_append_15ec4 at hw
  refine zlv (lv' := [(0, .ref (za Y t0)), (1, .ref (E.2.2.1 s1))]) rfl ?_
  have hx : zext Y Y := zext.rf
  refine z_aload_n hG dJ4_append_15ec4_0 rfl 0 rfl ?_
  refine z_aload_n hG dJ4_append_15ec4_1 rfl 1 rfl ?_
  refine z_callAr hG (z_runSU (As := [.ref (E.2.2.1 s1)]) (st := []) hG k_J4_29 (MJ5_append_cf1ce l h0 h1 hw) ⟨(Nat.le_of_ble_eq_true rfl), (Nat.le_of_ble_eq_true rfl)⟩ h0 (T := TJ4) (N := 4) rfl (by decide) rfl (Nat.le_of_ble_eq_true rfl) dJ4_append_15ec4_2 ⟨show 0 + 1 ≤ 1 from by omega, show 0 + 150 ≤ 150 from by omega⟩ rfl) (fun Y1 r2 σ1 hx1 hr2 hw => ?_)
  refine zwiden (k := 1) (n := 150) (show 0 + 1 ≤ 1 from by omega) (show 0 + 150 ≤ 150 from by omega) ?_
  refine zlv (lv' := [(0, .ref (za Y1 t0)), (1, .ref (E.2.2.1 s1))]) (by simp only [hx1.a h0]) ?_
  have h0 := hx1.T h0
  have hx := hx.tr hx1
  refine z_pop hG dJ4_append_15ec4_5 rfl ?_
  refine z_aload_n hG dJ4_append_15ec4_6 rfl 0 rfl ?_
  refine zwiden (k := 1) (n := 150) (by omega) (by omega) ?_
  exact z_aretA hG hx rfl (Or.inl ⟨_, rfl⟩) h0 dJ4_append_15ec4_7 hw
-- java/lang/StringBuilder.length()I
def wJ4_length_8abf5 (ln : Nat → Nat) (σ : zS) (t0 : Nat) (Q : Int32 → zS → Prop) : Prop := wJ5_length_8abf5 ln σ t0 (fun r2 σ1 => Q r2 σ1)
abbrev rJ4_length_8abf5 : Room := { frames := 1, cells := 0, slots := 0, locals := 20 }
set_option maxRecDepth 100000 in
set_option maxHeartbeats 4000000 in
theorem MJ4_length_8abf5 (l : Launch) {E : zE} {Y : zY} {σ : zS} {t0 : Nat} (h0 : zT Y 13 t0) {Q : Int32 → zS → Prop} (hw : wJ4_length_8abf5 (zln Y) σ t0 Q) : ∀ sz, Met l yJ4_length_8abf5 (zw yJ4_length_8abf5 cJ4_length_8abf5 1 (some .int)) rJ4_length_8abf5 (zPc E Y σ sz [.ref (za Y t0)]) (va_Qi Q (zB E Y sz) (zA Y sz)) 0 0 (zA Y sz) := by
  refine z_met (own := RJ4) (Qc := fun sz => va_Qi Q (zB E Y sz) (zA Y sz)) (by decide +kernel) rfl (Nat.le_of_ble_eq_true rfl) ?_
  intro p e s m args below meth c hG hinit
  unfold wJ4_length_8abf5 at hw
  refine zlv (lv' := [(0, .ref (za Y t0))]) rfl ?_
  refine z_aload_n hG dJ4_length_8abf5_0 rfl 0 rfl ?_
  refine z_calli hG (z_runSU (As := []) (st := []) hG k_J4_343 (MJ5_length_8abf5 l h0 hw) ⟨(Nat.le_of_ble_eq_true rfl), (Nat.le_of_ble_eq_true rfl)⟩ h0 (T := TJ4) (N := 4) rfl (by decide) rfl (Nat.le_of_ble_eq_true rfl) dJ4_length_8abf5_1 ⟨Nat.zero_le _, Nat.zero_le _⟩ rfl) (fun r2 σ1 hw => ?_)
  exact z_iret hG rfl rfl dJ4_length_8abf5_4 hw
-- java/lang/StringBuilder.charAt(I)C
def wJ4_charAt_5068e (ln : Nat → Nat) (σ : zS) (t0 : Nat) (v1 : Int32) (Q : Int32 → zS → Prop) : Prop := wJ5_charAt_5068e ln σ t0 v1 (fun r2 σ1 => narrow .char (.int r2) = .int r2 ∧ Q r2 σ1)
abbrev rJ4_charAt_5068e : Room := { frames := 3, cells := 0, slots := 0, locals := 67 }
set_option maxRecDepth 100000 in
set_option maxHeartbeats 4000000 in
theorem MJ4_charAt_5068e (l : Launch) {E : zE} {Y : zY} {σ : zS} {t0 : Nat} {v1 : Int32} (h0 : zT Y 13 t0) {Q : Int32 → zS → Prop} (hw : wJ4_charAt_5068e (zln Y) σ t0 v1 Q) : ∀ sz, Met l yJ4_charAt_5068e (zw yJ4_charAt_5068e cJ4_charAt_5068e 2 (some .char)) rJ4_charAt_5068e (zPc E Y σ sz [.ref (za Y t0), .int v1]) (va_Qi Q (zB E Y sz) (zA Y sz)) 0 0 (zA Y sz) := by
  refine z_met (own := RJ4) (Qc := fun sz => va_Qi Q (zB E Y sz) (zA Y sz)) (by decide +kernel) rfl (Nat.le_of_ble_eq_true rfl) ?_
  intro p e s m args below meth c hG hinit
  unfold wJ4_charAt_5068e at hw
  refine zlv (lv' := [(0, .ref (za Y t0)), (1, .int v1)]) rfl ?_
  refine z_aload_n hG dJ4_charAt_5068e_0 rfl 0 rfl ?_
  refine z_iload_n hG dJ4_charAt_5068e_1 rfl 1 rfl ?_
  refine z_calli hG (z_runSU (As := [.int v1]) (st := []) hG k_J4_329 (MJ5_charAt_5068e l h0 hw) ⟨(Nat.le_of_ble_eq_true rfl), (Nat.le_of_ble_eq_true rfl)⟩ h0 (T := TJ4) (N := 4) rfl (by decide) rfl (Nat.le_of_ble_eq_true rfl) dJ4_charAt_5068e_2 ⟨Nat.zero_le _, Nat.zero_le _⟩ rfl) (fun r2 σ1 hw => ?_)
  obtain ⟨q3, hw⟩ := hw
  exact z_iret hG rfl q3 dJ4_charAt_5068e_5 hw
-- java/util/Arrays.checkLength(II)V
def wJ7_checkLength_df160 (ln : Nat → Nat) (σ : zS) (v0 : Int32) (v1 : Int32) (Q : zS → Prop) : Prop := ((v0 ≤ v1 → Q σ) ∧ (¬ v0 ≤ v1 → False))
abbrev rJ7_checkLength_df160 : Room := { frames := 0, cells := 0, slots := 0, locals := 0 }
set_option maxRecDepth 100000 in
set_option maxHeartbeats 4000000 in
theorem MJ7_checkLength_df160 (l : Launch) {E : zE} {Y : zY} {σ : zS} {v0 : Int32} {v1 : Int32} {Q : zS → Prop} (hw : wJ7_checkLength_df160 (zln Y) σ v0 v1 Q) : ∀ sz, Met l yJ7_checkLength_df160 (zw yJ7_checkLength_df160 cJ7_checkLength_df160 2 none) rJ7_checkLength_df160 (zPc E Y σ sz [.int v0, .int v1]) (va_Qv Q (zB E Y sz) (zA Y sz)) 0 0 (zA Y sz) := by
  refine z_met (own := RJ7) (Qc := fun sz => va_Qv Q (zB E Y sz) (zA Y sz)) (by decide +kernel) rfl (Nat.le_of_ble_eq_true rfl) ?_
  intro p e s m args below meth c hG hinit
  unfold wJ7_checkLength_df160 at hw
  refine zlv (lv' := [(0, .int v0), (1, .int v1)]) rfl ?_
  refine z_iload_n hG dJ7_checkLength_df160_0 rfl 1 rfl ?_
  refine z_iload_n hG dJ7_checkLength_df160_1 rfl 0 rfl ?_
  refine z_icmp_ge (tgt := 37) hG dJ7_checkLength_df160_2 (by decide) (fun c1 => ?_) (fun c1 => ?_)
  · have hw := hw.1 c1
    exact z_vret hG rfl dJ7_checkLength_df160_37 hw
  · have hw := hw.2 c1
    exact hw.elim
-- java/util/Arrays.copyOfRangeByte([BII)[B
def wJ7_copyOfRangeByte_39247 (S : zSp) (σ : zS) (t0 : Nat) (v1 : Int32) (v2 : Int32) (Q : Nat → zSp → zS → Prop) : Prop := wJ7_checkLength_df160 (zSl S) σ v1 v2 (fun σ1 => ∀ x2 : Int32, x2 = v2 - v1 → ¬ x2 < 0 ∧ x2.toNatClampNeg ≤ 150 ∧ ∀ a3 : Nat, a3 = zSk S → ∀ S3 : zSp, S3 = zSpush S 21 x2.toNatClampNeg → ∀ σ6 : zS, σ6 = zfresh σ1 a3 → ∀ x7 : Int32, x7 = (nI ((zSl S3) t0)) - v1 → ∀ x8 : Int32, x8 = (if x2 < x7 then x2 else x7) → (¬ v1 < 0 ∧ ¬ (0 : Int32) < 0 ∧ ¬ x8 < 0 ∧ v1.toNatClampNeg + x8.toNatClampNeg ≤ (zSl S3) t0 ∧ (0 : Int32).toNatClampNeg + x8.toNatClampNeg ≤ (zSl S3) a3 ∧ (∀ i : Nat, i < x8.toNatClampNeg → fits .byte (.int (gi σ6 t0 (v1.toNatClampNeg + i))) = true)) ∧ ∀ σ15 : zS, σ15 = sI σ6 a3 (va_cpy (gi σ6 t0) (gi σ6 a3) v1.toNatClampNeg (0 : Int32).toNatClampNeg x8.toNatClampNeg) → Q a3 S3 σ15)
abbrev rJ7_copyOfRangeByte_39247 : Room := { frames := 1, cells := 1, slots := 150, locals := 48 }
set_option maxRecDepth 100000 in
set_option maxHeartbeats 4000000 in
theorem MJ7_copyOfRangeByte_39247 (l : Launch) {E : zE} {Y : zY} {σ : zS} {t0 : Nat} {v1 : Int32} {v2 : Int32} (h0 : zT Y 21 t0) {Q : Nat → zSp → zS → Prop} (hw : wJ7_copyOfRangeByte_39247 (zsp Y) σ t0 v1 v2 Q) : ∀ sz, Met l yJ7_copyOfRangeByte_39247 (zw yJ7_copyOfRangeByte_39247 cJ7_copyOfRangeByte_39247 5 (some (.array .byte))) rJ7_copyOfRangeByte_39247 (zPc E Y σ sz [.ref (za Y t0), .int v1, .int v2]) (va_Qr (fun (u : Nat × zY × zS) => Q u.1 (zsp u.2.1) u.2.2) (zBAr E Y sz 21) (zA Y sz)) 1 150 (zA Y sz) := by
  refine z_met (own := RJ7) (Qc := fun sz => va_Qr (fun (u : Nat × zY × zS) => Q u.1 (zsp u.2.1) u.2.2) (zBAr E Y sz 21) (zA Y sz)) (by decide +kernel) rfl (Nat.le_of_ble_eq_true rfl) ?_
  intro p e s m args below meth c hG hinit
  unfold wJ7_copyOfRangeByte_39247 at hw
  refine zlv (lv' := [(0, .ref (za Y t0)), (1, .int v1), (2, .int v2)]) rfl ?_
  have hx : zext Y Y := zext.rf
  refine z_iload_n hG dJ7_copyOfRangeByte_39247_0 rfl 1 rfl ?_
  refine z_iload_n hG dJ7_copyOfRangeByte_39247_1 rfl 2 rfl ?_
  refine z_callv hG (z_runS (As := [.int v1, .int v2]) (st := []) hG k_J7_343 (MJ7_checkLength_df160 l hw) ⟨(Nat.le_of_ble_eq_true rfl), (Nat.le_of_ble_eq_true rfl)⟩ rfl (Nat.le_of_ble_eq_true rfl) dJ7_copyOfRangeByte_39247_2 ⟨show 0 + 0 ≤ 1 from by omega, show 0 + 0 ≤ 150 from by omega⟩ rfl) (fun σ1 hw => ?_)
  refine z_iload_n hG dJ7_copyOfRangeByte_39247_5 rfl 2 rfl ?_
  refine z_iload_n hG dJ7_copyOfRangeByte_39247_6 rfl 1 rfl ?_
  refine z_isub hG dJ7_copyOfRangeByte_39247_7 ?_
  refine z_topi (fun x2 ex2 => ?_)
  have hw := hw x2 ex2
  refine z_istore_n (lv' := [(3, .int x2), (0, .ref (za Y t0)), (1, .int v1), (2, .int v2)]) hG dJ7_copyOfRangeByte_39247_8 rfl (by decide) rfl ?_
  refine z_iload_n hG dJ7_copyOfRangeByte_39247_9 rfl 0 rfl ?_
  obtain ⟨q4, q5, hw⟩ := hw
  refine z_newa (kd := 21) (t0 := 1) (ty := .byte) (atype := .byte) (n := x2) hG kA_21 rfl rfl (Or.inr (Or.inl ⟨rfl, rfl⟩)) q4 (show (x2).toNatClampNeg * 1 ≤ 536870912 from by omega) (show 0 + 1 ≤ 1 from by omega) (show 0 + (x2).toNatClampNeg ≤ 150 from by omega) dJ7_copyOfRangeByte_39247_10 (fun Y3 a3 ea3 hx3 eSa3 ha3 => ?_)
  have hw := hw a3 ea3 (zsp Y3) eSa3
  refine zwiden (k := 1) (n := 150) (by omega) (by omega) ?_
  refine z_topσ (fun σ6 eσ6 => ?_)
  have hw := hw σ6 eσ6
  refine zlv (lv' := [(3, .int x2), (0, .ref (za Y3 t0)), (1, .int v1), (2, .int v2)]) (by simp only [hx3.a h0]) ?_
  have h0 := hx3.T h0
  have hx := hx.tr hx3
  refine z_astore (lv' := [(4, .ref (za Y3 a3)), (3, .int x2), (0, .ref (za Y3 t0)), (1, .int v1), (2, .int v2)]) hG dJ7_copyOfRangeByte_39247_12 (by decide) rfl ?_
  refine z_aload_n hG dJ7_copyOfRangeByte_39247_14 rfl 2 rfl ?_
  refine z_iload_n hG dJ7_copyOfRangeByte_39247_15 rfl 3 rfl ?_
  refine z_aload hG dJ7_copyOfRangeByte_39247_16 0 rfl ?_
  refine z_iconst (v := 0) hG dJ7_copyOfRangeByte_39247_18 (by decide) ?_
  refine z_aload_n hG dJ7_copyOfRangeByte_39247_19 rfl 2 rfl ?_
  refine z_alen hG h0 (by decide) (t0 := 1) rfl dJ7_copyOfRangeByte_39247_20 ?_
  refine z_iload_n hG dJ7_copyOfRangeByte_39247_21 rfl 3 rfl ?_
  refine z_isub hG dJ7_copyOfRangeByte_39247_22 ?_
  refine z_iload_n hG dJ7_copyOfRangeByte_39247_23 rfl 1 rfl ?_
  obtain ⟨x7, ex7⟩ : ∃ y : Int32, y = (nI ((zSl (zsp Y3)) t0)) - v1 := ⟨_, rfl⟩
  refine zst (st' := [.int x2, .int x7, .int 0, .ref (za Y3 a3), .int v1, .ref (za Y3 t0)]) (by rw [ex7] <;> rfl) ?_
  have hw := hw x7 ex7
  refine z_mmin hG k_J7_304 km_min_s km_i km_min_c (Nat.le_of_ble_eq_true rfl) (Nat.le_of_ble_eq_true rfl) (show 1 ≤ 1 from by omega) (show 150 ≤ 150 from by omega) dJ7_copyOfRangeByte_39247_24 ?_
  refine z_topi (fun x8 ex8 => ?_)
  have hw := hw x8 ex8
  obtain ⟨⟨q9, q10, q11, q12, q13, q14⟩, hw⟩ := hw
  refine z_copyb hG k_J7_150 ks_n ks_s ks_i h0 ha3 q9 q10 q11 q12 q13 q14 (by decide +kernel) (by decide +kernel) dJ7_copyOfRangeByte_39247_27 ?_
  refine z_topσ (fun σ15 eσ15 => ?_)
  have hw := hw σ15 eσ15
  refine z_aload hG dJ7_copyOfRangeByte_39247_30 0 rfl ?_
  refine zwiden (k := 1) (n := 150) (by omega) (by omega) ?_
  exact z_aretA hG hx rfl (Or.inr ⟨_, rfl⟩) ha3 dJ7_copyOfRangeByte_39247_32 hw
-- java/util/Arrays.copyOfRange([BII)[B
def wJ7_copyOfRange_39247_10 (Q : Nat → zSp → zS → Prop) (t0 : Nat) (v1 : Int32) (v2 : Int32) (S : zSp) (σ : zS) : Prop := wJ7_copyOfRangeByte_39247 S σ t0 v1 v2 (fun r2 S1 σ1 => Q r2 S1 σ1)
def wJ7_copyOfRange_39247 (S : zSp) (σ : zS) (t0 : Nat) (v1 : Int32) (v2 : Int32) (Q : Nat → zSp → zS → Prop) : Prop := ((v1 = 0 → ((v2 = (nI ((zSl S) t0)) → (∀ i : Nat, i < (zSl S) t0 → fits .byte (.int (gi σ t0 i)) = true) ∧ (zSl S) t0 ≤ 150 ∧ ∀ a1 : Nat, a1 = zSk S → ∀ S1 : zSp, S1 = zSpush S 21 ((zSl S) t0) → ∀ σ4 : zS, σ4 = sI (zfresh σ a1) a1 (gi σ t0) → Q a1 S1 σ4) ∧ (¬ v2 = (nI ((zSl S) t0)) → wJ7_copyOfRange_39247_10 Q t0 v1 v2 S σ))) ∧ (¬ v1 = 0 → wJ7_copyOfRange_39247_10 Q t0 v1 v2 S σ))
abbrev rJ7_copyOfRange_39247 : Room := { frames := 2, cells := 1, slots := 150, locals := 72 }
set_option maxRecDepth 100000 in
set_option maxHeartbeats 4000000 in
theorem BJ7_copyOfRange_39247_10 {l : Launch} {E : zE} {Y0 : zY} {p : Program} {e : Env} {s : State} {m : MethodId} {args : Array Value} {below : List Frame} {meth : Method} {c : Code} (hG : zG E p l s m args meth c cJ7_copyOfRange_39247 3 RJ7 (some (.array .byte)) (zA Y0 s.heap.size)) {Q : Nat → zSp → zS → Prop} : ∀ (t0 : Nat) (v1 : Int32) (v2 : Int32) (Y : zY) (σ : zS) (cl sl : Nat), wJ7_copyOfRange_39247_10 Q t0 v1 v2 (zsp Y) σ → zext Y0 Y → zT Y 21 t0 → cl + (1) ≤ 1 → sl + (150) ≤ 150 → WW E Y σ p l e rJ7_copyOfRange_39247 s m args below meth c (zA Y0 s.heap.size) 3 cl sl (MQ below (va_Qr (fun (u : Nat × zY × zS) => Q u.1 (zsp u.2.1) u.2.2) (zBAr E Y0 s.heap.size 21) (zA Y0 s.heap.size)) args s 1 150 (zA Y0 s.heap.size)) [(0, .ref (za Y t0)), (1, .int v1), (2, .int v2)] 10 [] := by
  intro t0 v1 v2 Y σ cl sl hw hx h0 hcl hsl
  unfold wJ7_copyOfRange_39247_10 at hw
  refine z_aload_n hG dJ7_copyOfRange_39247_10 rfl 0 rfl ?_
  refine z_iload_n hG dJ7_copyOfRange_39247_11 rfl 1 rfl ?_
  refine z_iload_n hG dJ7_copyOfRange_39247_12 rfl 2 rfl ?_
  refine z_callAr hG (z_runS (As := [.ref (za Y t0), .int v1, .int v2]) (st := []) hG k_J7_339 (MJ7_copyOfRangeByte_39247 l h0 hw) ⟨(Nat.le_of_ble_eq_true rfl), (Nat.le_of_ble_eq_true rfl)⟩ rfl (Nat.le_of_ble_eq_true rfl) dJ7_copyOfRange_39247_13 ⟨show cl + 0 + 1 ≤ 1 from by omega, show sl + 0 + 150 ≤ 150 from by omega⟩ rfl) (fun Y1 r2 σ1 hx1 hr2 hw => ?_)
  refine zwiden (k := cl + 1) (n := sl + 150) (show cl + 0 + 1 ≤ cl + 1 from by omega) (show sl + 0 + 150 ≤ sl + 150 from by omega) ?_
  refine zlv (lv' := [(0, .ref (za Y1 t0)), (1, .int v1), (2, .int v2)]) (by simp only [hx1.a h0]) ?_
  have h0 := hx1.T h0
  have hx := hx.tr hx1
  refine zwiden (k := 1) (n := 150) (by omega) (by omega) ?_
  exact z_aretA hG hx rfl (Or.inr ⟨_, rfl⟩) hr2 dJ7_copyOfRange_39247_16 hw
set_option maxRecDepth 100000 in
set_option maxHeartbeats 4000000 in
theorem MJ7_copyOfRange_39247 (l : Launch) {E : zE} {Y : zY} {σ : zS} {t0 : Nat} {v1 : Int32} {v2 : Int32} (h0 : zT Y 21 t0) {Q : Nat → zSp → zS → Prop} (hw : wJ7_copyOfRange_39247 (zsp Y) σ t0 v1 v2 Q) : ∀ sz, Met l yJ7_copyOfRange_39247 (zw yJ7_copyOfRange_39247 cJ7_copyOfRange_39247 3 (some (.array .byte))) rJ7_copyOfRange_39247 (zPc E Y σ sz [.ref (za Y t0), .int v1, .int v2]) (va_Qr (fun (u : Nat × zY × zS) => Q u.1 (zsp u.2.1) u.2.2) (zBAr E Y sz 21) (zA Y sz)) 1 150 (zA Y sz) := by
  refine z_met (own := RJ7) (Qc := fun sz => va_Qr (fun (u : Nat × zY × zS) => Q u.1 (zsp u.2.1) u.2.2) (zBAr E Y sz 21) (zA Y sz)) (by decide +kernel) rfl (Nat.le_of_ble_eq_true rfl) ?_
  intro p e s m args below meth c hG hinit
  unfold wJ7_copyOfRange_39247 at hw
  refine zlv (lv' := [(0, .ref (za Y t0)), (1, .int v1), (2, .int v2)]) rfl ?_
  have hx : zext Y Y := zext.rf
  refine z_iload_n hG dJ7_copyOfRange_39247_0 rfl 1 rfl ?_
  refine z_if_ne (tgt := 10) hG dJ7_copyOfRange_39247_1 (by decide) (fun c6 => ?_) (fun c6 => ?_)
  · have hw := hw.2 c6
    refine zpick [0, 1, 2] (lv' := [(0, .ref (za Y t0)), (1, .int v1), (2, .int v2)]) rfl ?_
    refine zwiden (k := 0) (n := 0) (by omega) (by omega) ?_
    exact BJ7_copyOfRange_39247_10 hG t0 v1 v2 Y σ _ _ hw hx h0 (by omega) (by omega)
  · have hw := hw.1 c6
    refine z_iload_n hG dJ7_copyOfRange_39247_4 rfl 2 rfl ?_
    refine z_aload_n hG dJ7_copyOfRange_39247_5 rfl 0 rfl ?_
    refine z_alen hG h0 (by decide) (t0 := 1) rfl dJ7_copyOfRange_39247_6 ?_
    refine z_icmp_eq (tgt := 17) hG dJ7_copyOfRange_39247_7 (by decide) (fun c5 => ?_) (fun c5 => ?_)
    · have hw := hw.1 c5
      refine z_aload_n hG dJ7_copyOfRange_39247_17 rfl 0 rfl ?_
      obtain ⟨q2, q3, hw⟩ := hw
      refine z_clone hG k_J7_310 kq_same kq_nat kq_inst kq_sel kq_cast h0 q2 (Nat.le_of_ble_eq_true rfl) (Nat.le_of_ble_eq_true rfl) (show 0 + 1 ≤ 1 from by omega) (Nat.le_trans (Nat.add_le_add_left q3 _) (show 0 + 150 ≤ 150 from by omega)) dJ7_copyOfRange_39247_18 (fun Y1 a1 ea1 hx1 eSa1 ha1 => ?_)
      have hw := hw a1 ea1 (zsp Y1) eSa1
      refine zwiden (k := 1) (n := 150) (Nat.le_refl _) (Nat.add_le_add_left q3 _) ?_
      refine z_topσ (fun σ4 eσ4 => ?_)
      have hw := hw σ4 eσ4
      refine zlv (lv' := [(0, .ref (za Y1 t0)), (1, .int v1), (2, .int v2)]) (by simp only [hx1.a h0]) ?_
      have h0 := hx1.T h0
      have hx := hx.tr hx1
      refine z_castB hG kc_J7_311 ha1 dJ7_copyOfRange_39247_21 ?_
      refine zwiden (k := 1) (n := 150) (by omega) (by omega) ?_
      exact z_aretA hG hx rfl (Or.inr ⟨_, rfl⟩) ha1 dJ7_copyOfRange_39247_24 hw
    · have hw := hw.2 c5
      refine zpick [0, 1, 2] (lv' := [(0, .ref (za Y t0)), (1, .int v1), (2, .int v2)]) rfl ?_
      refine zwiden (k := 0) (n := 0) (by omega) (by omega) ?_
      exact BJ7_copyOfRange_39247_10 hG t0 v1 v2 Y σ _ _ hw hx h0 (by omega) (by omega)
-- java/lang/String.<init>(Ljava/lang/AbstractStringBuilder;Ljava/lang/Void;)V
def wJ0_init_db425_79 (Q : zSp → zS → Prop) (t0 : Nat) (t3 : Nat) (v4 : Int32) (S : zSp) (σ : zS) : Prop := ∀ σ1 : zS, σ1 = si σ t0 1 1 → ∀ x2 : Int32, x2 = v4 <<< (1 &&& 31) → wJ7_copyOfRange_39247 S σ1 t3 0 x2 (fun r4 S3 σ3 => ∀ σ5 : zS, σ5 = sr σ3 t0 0 (some r4) → Q S3 σ5)
def wJ0_init_db425 (S : zSp) (σ : zS) (t0 : Nat) (t1 : Nat) (Q : zSp → zS → Prop) : Prop := wJ5_getValue_6d5f1 (zSl S) σ t1 (fun r2 σ1 => wJ4_length_8abf5 (zSl S) σ1 t1 (fun r4 σ3 => wJ5_isLatin1_aae02 (zSl S) σ3 t1 (fun r6 σ5 => ((r6 = 0 → (((1 : Int32) = 0 → wJ0_init_db425_79 Q t0 r2 r4 S σ5) ∧ (¬ (1 : Int32) = 0 → (((gi σ5 t1 2) = 0 → wJ0_init_db425_79 Q t0 r2 r4 S σ5) ∧ (¬ (gi σ5 t1 2) = 0 → False))))) ∧ (¬ r6 = 0 → ∀ σ9 : zS, σ9 = si σ5 t0 1 0 → wJ7_copyOfRange_39247 S σ9 r2 0 r4 (fun r11 S10 σ10 => ∀ σ12 : zS, σ12 = sr σ10 t0 0 (some r11) → Q S10 σ12))))))
abbrev rJ0_init_db425 : Room := { frames := 3, cells := 1, slots := 150, locals := 94 }
set_option maxRecDepth 100000 in
set_option maxHeartbeats 4000000 in
theorem BJ0_init_db425_79 {l : Launch} {E : zE} {Y0 : zY} {p : Program} {e : Env} {s : State} {m : MethodId} {args : Array Value} {below : List Frame} {meth : Method} {c : Code} (hG : zG E p l s m args meth c cJ0_init_db425 5 RJ0 none (zA Y0 s.heap.size)) (hinit : meth.name = "<init>") {Q : zSp → zS → Prop} : ∀ (t0 : Nat) (t3 : Nat) (v4 : Int32) (Y : zY) (σ : zS) (cl sl : Nat), wJ0_init_db425_79 Q t0 t3 v4 (zsp Y) σ → zext Y0 Y → zT Y 12 t0 → zT Y 21 t3 → cl + (1) ≤ 1 → sl + (150) ≤ 150 → WW E Y σ p l e rJ0_init_db425 s m args below meth c (zA Y0 s.heap.size) 5 cl sl (MQ below (va_Qv (fun (u : zY × zS) => Q (zsp u.1) u.2) (zBA E Y0 s.heap.size) (zA Y0 s.heap.size)) args s 1 150 (zA Y0 s.heap.size)) [(0, .ref (za Y t0)), (3, .ref (za Y t3)), (4, .int v4)] 79 [] := by
  intro t0 t3 v4 Y σ cl sl hw hx h0 h3 hcl hsl
  unfold wJ0_init_db425_79 at hw
  refine z_aload_n hG dJ0_init_db425_79 rfl 0 rfl ?_
  refine z_iconst (v := 1) hG dJ0_init_db425_80 (by decide) ?_
  refine z_putiF hG f_J0_15 hinit h0 rfl rfl rfl ⟨by decide +kernel, by decide +kernel⟩ dJ0_init_db425_81 ?_
  refine z_topσ (fun σ1 eσ1 => ?_)
  have hw := hw σ1 eσ1
  refine z_aload_n hG dJ0_init_db425_84 rfl 0 rfl ?_
  refine z_aload_n hG dJ0_init_db425_85 rfl 1 rfl ?_
  refine z_iconst (v := 0) hG dJ0_init_db425_86 (by decide) ?_
  refine z_iload hG dJ0_init_db425_87 2 rfl ?_
  refine z_iconst (v := 1) hG dJ0_init_db425_89 (by decide) ?_
  refine z_ishl hG dJ0_init_db425_90 ?_
  refine z_topi (fun x2 ex2 => ?_)
  have hw := hw x2 ex2
  refine z_callAr hG (z_runS (As := [.ref (za Y t3), .int 0, .int x2]) (st := [.ref (za Y t0)]) hG k_J0_54 (MJ7_copyOfRange_39247 l h3 hw) ⟨(Nat.le_of_ble_eq_true rfl), (Nat.le_of_ble_eq_true rfl)⟩ rfl (Nat.le_of_ble_eq_true rfl) dJ0_init_db425_91 ⟨show cl + 0 + 1 ≤ 1 from by omega, show sl + 0 + 150 ≤ 150 from by omega⟩ rfl) (fun Y3 r4 σ3 hx3 hr4 hw => ?_)
  refine zwiden (k := cl + 1) (n := sl + 150) (show cl + 0 + 1 ≤ cl + 1 from by omega) (show sl + 0 + 150 ≤ sl + 150 from by omega) ?_
  refine zst (st' := [.ref (za Y3 r4), .ref (za Y3 t0)]) (by simp only [hx3.a h0, hx3.a h3]) ?_
  refine zlv (lv' := [(0, .ref (za Y3 t0)), (3, .ref (za Y3 t3)), (4, .int v4)]) (by simp only [hx3.a h0, hx3.a h3]) ?_
  have h0 := hx3.T h0
  have h3 := hx3.T h3
  have hx := hx.tr hx3
  refine z_putrF hG f_J0_9 hinit h0 rfl rfl rfl (Or.inr ⟨_, rfl⟩) rfl (by decide) hr4 dJ0_init_db425_94 ?_
  refine z_topσ (fun σ5 eσ5 => ?_)
  have hw := hw σ5 eσ5
  refine zwiden (k := 1) (n := 150) (by omega) (by omega) ?_
  exact z_vretA hG hx rfl dJ0_init_db425_97 hw
set_option maxRecDepth 100000 in
set_option maxHeartbeats 4000000 in
theorem MJ0_init_db425 (l : Launch) {E : zE} {Y : zY} {σ : zS} {t0 : Nat} {t1 : Nat} (h0 : zT Y 12 t0) (h1 : zT Y 13 t1) {Q : zSp → zS → Prop} (hw : wJ0_init_db425 (zsp Y) σ t0 t1 Q) : ∀ sz, Met l yJ0_init_db425 (zw yJ0_init_db425 cJ0_init_db425 5 none) rJ0_init_db425 (zPc E Y σ sz [.ref (za Y t0), .ref (za Y t1), .null]) (va_Qv (fun (u : zY × zS) => Q (zsp u.1) u.2) (zBA E Y sz) (zA Y sz)) 1 150 (zA Y sz) := by
  refine z_met (own := RJ0) (Qc := fun sz => va_Qv (fun (u : zY × zS) => Q (zsp u.1) u.2) (zBA E Y sz) (zA Y sz)) (by decide +kernel) rfl (Nat.le_of_ble_eq_true rfl) ?_
  intro p e s m args below meth c hG hinit
  unfold wJ0_init_db425 at hw
  refine zlv (lv' := [(0, .ref (za Y t0)), (1, .ref (za Y t1)), (2, .null)]) rfl ?_
  have hx : zext Y Y := zext.rf
  refine z_aload_n hG dJ0_init_db425_0 rfl 0 rfl ?_
  refine z_objInit hG k_J0_1 ko_i ko_c (Nat.le_of_ble_eq_true rfl) (Nat.le_of_ble_eq_true rfl) dJ0_init_db425_1 ?_
  refine z_aload_n hG dJ0_init_db425_4 rfl 1 rfl ?_
  refine z_callr hG (z_runU (As := []) (st := []) hG k_J0_552 (MJ5_getValue_6d5f1 l h1 hw) ⟨(Nat.le_of_ble_eq_true rfl), (Nat.le_of_ble_eq_true rfl)⟩ h1 (T := TJ4) (N := 4) rfl (by decide) rfl (Nat.le_of_ble_eq_true rfl) dJ0_init_db425_5 ⟨show 0 + 0 ≤ 1 from by omega, show 0 + 0 ≤ 150 from by omega⟩ rfl) (fun r2 σ1 hr2 hw => ?_)
  refine z_astore_n (lv' := [(3, .ref (za Y r2)), (0, .ref (za Y t0)), (1, .ref (za Y t1)), (2, .null)]) hG dJ0_init_db425_8 rfl (by decide) rfl ?_
  refine z_aload_n hG dJ0_init_db425_9 rfl 2 rfl ?_
  refine z_calli hG (z_runO (As := []) (st := []) hG k_J0_549 (MJ4_length_8abf5 l h1 hw) ⟨(Nat.le_of_ble_eq_true rfl), (Nat.le_of_ble_eq_true rfl)⟩ h1 (T := TJ4) (N := 4) rfl (by decide) rfl (Nat.le_of_ble_eq_true rfl) dJ0_init_db425_10 ⟨show 0 + 0 ≤ 1 from by omega, show 0 + 0 ≤ 150 from by omega⟩ rfl) (fun r4 σ3 hw => ?_)
  refine z_istore (lv' := [(4, .int r4), (3, .ref (za Y r2)), (0, .ref (za Y t0)), (1, .ref (za Y t1)), (2, .null)]) hG dJ0_init_db425_13 (by decide) rfl ?_
  refine z_aload_n hG dJ0_init_db425_15 rfl 3 rfl ?_
  refine z_calli hG (z_runU (As := []) (st := []) hG k_J0_1047 (MJ5_isLatin1_aae02 l h1 hw) ⟨(Nat.le_of_ble_eq_true rfl), (Nat.le_of_ble_eq_true rfl)⟩ h1 (T := TJ4) (N := 4) rfl (by decide) rfl (Nat.le_of_ble_eq_true rfl) dJ0_init_db425_16 ⟨show 0 + 0 ≤ 1 from by omega, show 0 + 0 ≤ 150 from by omega⟩ rfl) (fun r6 σ5 hw => ?_)
  refine z_if_eq (tgt := 41) hG dJ0_init_db425_19 (by decide) (fun c13 => ?_) (fun c13 => ?_)
  · have hw := hw.1 c13
    refine z_compact hG f_J0_38 dJ0_init_db425_41 ?_
    refine z_if_eq (tgt := 79) hG dJ0_init_db425_44 (by decide) (fun c8 => ?_) (fun c8 => ?_)
    · have hw := hw.1 c8
      refine zpick [2, 1, 0] (lv' := [(0, .ref (za Y t0)), (3, .ref (za Y r2)), (4, .int r4)]) rfl ?_
      refine zwiden (k := 0) (n := 0) (by omega) (by omega) ?_
      exact BJ0_init_db425_79 hG hinit t0 r2 r4 Y σ5 _ _ hw hx h0 hr2 (by omega) (by omega)
    · have hw := hw.2 c8
      refine z_aload_n hG dJ0_init_db425_47 rfl 3 rfl ?_
      refine z_geti hG f_J0_1048 h1 rfl dJ0_init_db425_48 ?_
      refine z_if_eq (tgt := 79) hG dJ0_init_db425_51 (by decide) (fun c7 => ?_) (fun c7 => ?_)
      · have hw := hw.1 c7
        refine zpick [2, 1, 0] (lv' := [(0, .ref (za Y t0)), (3, .ref (za Y r2)), (4, .int r4)]) rfl ?_
        refine zwiden (k := 0) (n := 0) (by omega) (by omega) ?_
        exact BJ0_init_db425_79 hG hinit t0 r2 r4 Y σ5 _ _ hw hx h0 hr2 (by omega) (by omega)
      · have hw := hw.2 c7
        exact hw.elim
  · have hw := hw.2 c13
    refine z_aload_n hG dJ0_init_db425_22 rfl 2 rfl ?_
    refine z_iconst (v := 0) hG dJ0_init_db425_23 (by decide) ?_
    refine z_putiF hG f_J0_15 hinit h0 rfl rfl rfl ⟨by decide +kernel, by decide +kernel⟩ dJ0_init_db425_24 ?_
    refine z_topσ (fun σ9 eσ9 => ?_)
    have hw := hw σ9 eσ9
    refine z_aload_n hG dJ0_init_db425_27 rfl 2 rfl ?_
    refine z_aload_n hG dJ0_init_db425_28 rfl 1 rfl ?_
    refine z_iconst (v := 0) hG dJ0_init_db425_29 (by decide) ?_
    refine z_iload hG dJ0_init_db425_30 0 rfl ?_
    refine z_callAr hG (z_runS (As := [.ref (za Y r2), .int 0, .int r4]) (st := [.ref (za Y t0)]) hG k_J0_54 (MJ7_copyOfRange_39247 l hr2 hw) ⟨(Nat.le_of_ble_eq_true rfl), (Nat.le_of_ble_eq_true rfl)⟩ rfl (Nat.le_of_ble_eq_true rfl) dJ0_init_db425_32 ⟨show 0 + 1 ≤ 1 from by omega, show 0 + 150 ≤ 150 from by omega⟩ rfl) (fun Y10 r11 σ10 hx10 hr11 hw => ?_)
    refine zwiden (k := 1) (n := 150) (show 0 + 1 ≤ 1 from by omega) (show 0 + 150 ≤ 150 from by omega) ?_
    refine zst (st' := [.ref (za Y10 r11), .ref (za Y10 t0)]) (by simp only [hx10.a h0, hx10.a hr2, hx10.a h1]) ?_
    refine zlv (lv' := [(4, .int r4), (3, .ref (za Y10 r2)), (0, .ref (za Y10 t0)), (1, .ref (za Y10 t1)), (2, .null)]) (by simp only [hx10.a h0, hx10.a hr2, hx10.a h1]) ?_
    have h0 := hx10.T h0
    have hr2 := hx10.T hr2
    have h1 := hx10.T h1
    have hx := hx.tr hx10
    refine z_putrF hG f_J0_9 hinit h0 rfl rfl rfl (Or.inr ⟨_, rfl⟩) rfl (by decide) hr11 dJ0_init_db425_35 ?_
    refine z_topσ (fun σ12 eσ12 => ?_)
    have hw := hw σ12 eσ12
    refine z_goto (tgt := 97) hG dJ0_init_db425_38 (by decide) ?_
    refine zwiden (k := 1) (n := 150) (by omega) (by omega) ?_
    exact z_vretA hG hx rfl dJ0_init_db425_97 hw
-- java/lang/String.<init>(Ljava/lang/StringBuilder;)V
def wJ0_init_81219 (S : zSp) (σ : zS) (t0 : Nat) (t1 : Nat) (Q : zSp → zS → Prop) : Prop := wJ0_init_db425 S σ t0 t1 (fun S1 σ1 => Q S1 σ1)
abbrev rJ0_init_81219 : Room := { frames := 4, cells := 1, slots := 150, locals := 118 }
set_option maxRecDepth 100000 in
set_option maxHeartbeats 4000000 in
theorem MJ0_init_81219 (l : Launch) {E : zE} {Y : zY} {σ : zS} {t0 : Nat} {t1 : Nat} (h0 : zT Y 12 t0) (h1 : zT Y 13 t1) {Q : zSp → zS → Prop} (hw : wJ0_init_81219 (zsp Y) σ t0 t1 Q) : ∀ sz, Met l yJ0_init_81219 (zw yJ0_init_81219 cJ0_init_81219 2 none) rJ0_init_81219 (zPc E Y σ sz [.ref (za Y t0), .ref (za Y t1)]) (va_Qv (fun (u : zY × zS) => Q (zsp u.1) u.2) (zBA E Y sz) (zA Y sz)) 1 150 (zA Y sz) := by
  refine z_met (own := RJ0) (Qc := fun sz => va_Qv (fun (u : zY × zS) => Q (zsp u.1) u.2) (zBA E Y sz) (zA Y sz)) (by decide +kernel) rfl (Nat.le_of_ble_eq_true rfl) ?_
  intro p e s m args below meth c hG hinit
  unfold wJ0_init_81219 at hw
  refine zlv (lv' := [(0, .ref (za Y t0)), (1, .ref (za Y t1))]) rfl ?_
  have hx : zext Y Y := zext.rf
  refine z_aload_n hG dJ0_init_81219_0 rfl 0 rfl ?_
  refine z_aload_n hG dJ0_init_81219_1 rfl 1 rfl ?_
  refine z_null hG dJ0_init_81219_2 ?_
  refine z_callAv hG (z_runI (As := [.ref (za Y t1), .null]) (st := []) hG k_J0_489 (MJ0_init_db425 l h0 h1 hw) ⟨(Nat.le_of_ble_eq_true rfl), (Nat.le_of_ble_eq_true rfl)⟩ rfl (Nat.le_of_ble_eq_true rfl) dJ0_init_81219_3 ⟨show 0 + 1 ≤ 1 from by omega, show 0 + 150 ≤ 150 from by omega⟩ rfl) (fun Y1 σ1 hx1 hw => ?_)
  refine zwiden (k := 1) (n := 150) (show 0 + 1 ≤ 1 from by omega) (show 0 + 150 ≤ 150 from by omega) ?_
  refine zlv (lv' := [(0, .ref (za Y1 t0)), (1, .ref (za Y1 t1))]) (by simp only [hx1.a h0, hx1.a h1]) ?_
  have h0 := hx1.T h0
  have h1 := hx1.T h1
  have hx := hx.tr hx1
  refine zwiden (k := 1) (n := 150) (by omega) (by omega) ?_
  exact z_vretA hG hx rfl dJ0_init_81219_6 hw
-- java/lang/StringBuilder.toString()Ljava/lang/String;
def wJ4_toString_0e30d (S : zSp) (σ : zS) (t0 : Nat) (Q : Nat → zSp → zS → Prop) : Prop := ∀ a1 : Nat, a1 = zSk S → ∀ S1 : zSp, S1 = zSpush S 12 0 → ∀ σ2 : zS, σ2 = zfresh σ a1 → wJ0_init_81219 S1 σ2 a1 t0 (fun S3 σ3 => Q a1 S3 σ3)
abbrev rJ4_toString_0e30d : Room := { frames := 5, cells := 2, slots := 154, locals := 139 }
set_option maxRecDepth 100000 in
set_option maxHeartbeats 4000000 in
theorem MJ4_toString_0e30d (l : Launch) {E : zE} {Y : zY} {σ : zS} {t0 : Nat} (h0 : zT Y 13 t0) {Q : Nat → zSp → zS → Prop} (hw : wJ4_toString_0e30d (zsp Y) σ t0 Q) : ∀ sz, Met l yJ4_toString_0e30d (zw yJ4_toString_0e30d cJ4_toString_0e30d 1 (some (.object "java/lang/String"))) rJ4_toString_0e30d (zPc E Y σ sz [.ref (za Y t0)]) (va_Qr (fun (u : Nat × zY × zS) => Q u.1 (zsp u.2.1) u.2.2) (zBAr E Y sz 12) (zA Y sz)) 2 154 (zA Y sz) := by
  refine z_met (own := RJ4) (Qc := fun sz => va_Qr (fun (u : Nat × zY × zS) => Q u.1 (zsp u.2.1) u.2.2) (zBAr E Y sz 12) (zA Y sz)) (by decide +kernel) rfl (Nat.le_of_ble_eq_true rfl) ?_
  intro p e s m args below meth c hG hinit
  unfold wJ4_toString_0e30d at hw
  refine zlv (lv' := [(0, .ref (za Y t0))]) rfl ?_
  have hx : zext Y Y := zext.rf
  refine z_new hG ck_12 kc_J4_18 kn_12 ki_12 nw_12 (show 0 + 1 ≤ 2 from by omega) (show 0 + 4 ≤ 154 from by omega) dJ4_toString_0e30d_0 (fun Y1 a1 ea1 hx1 eSa1 ha1 => ?_)
  have hw := hw a1 ea1 (zsp Y1) eSa1
  refine zwiden (k := 1) (n := 4) (show 0 + 1 ≤ 1 from by omega) (show 0 + 4 ≤ 4 from by omega) ?_
  refine z_topσ (fun σ2 eσ2 => ?_)
  have hw := hw σ2 eσ2
  refine zlv (lv' := [(0, .ref (za Y1 t0))]) (by simp only [hx1.a h0]) ?_
  have h0 := hx1.T h0
  have hx := hx.tr hx1
  refine z_dup hG dJ4_toString_0e30d_3 rfl ?_
  refine z_aload_n hG dJ4_toString_0e30d_4 rfl 0 rfl ?_
  refine z_callAv hG (z_runI (As := [.ref (za Y1 t0)]) (st := [.ref (za Y1 a1)]) hG k_J4_137 (MJ0_init_81219 l ha1 h0 hw) ⟨(Nat.le_of_ble_eq_true rfl), (Nat.le_of_ble_eq_true rfl)⟩ rfl (Nat.le_of_ble_eq_true rfl) dJ4_toString_0e30d_5 ⟨show 1 + 1 ≤ 2 from by omega, show 4 + 150 ≤ 154 from by omega⟩ rfl) (fun Y3 σ3 hx3 hw => ?_)
  refine zwiden (k := 2) (n := 154) (show 1 + 1 ≤ 2 from by omega) (show 4 + 150 ≤ 154 from by omega) ?_
  refine zst (st' := [.ref (za Y3 a1)]) (by simp only [hx3.a ha1, hx3.a h0]) ?_
  refine zlv (lv' := [(0, .ref (za Y3 t0))]) (by simp only [hx3.a ha1, hx3.a h0]) ?_
  have ha1 := hx3.T ha1
  have h0 := hx3.T h0
  have hx := hx.tr hx3
  refine zwiden (k := 2) (n := 154) (by omega) (by omega) ?_
  exact z_aretA hG hx rfl (Or.inl ⟨_, rfl⟩) ha1 dJ4_toString_0e30d_8 hw
-- TypeWheelTelegraph.formattedCharacter(I)C
def wxX11_formattedCharacter_15 (ln : Nat → Nat) (Q : Int32 → zS → Prop) (X : String → zS → Prop) (σ : zS) : Prop := X "java/lang/IndexOutOfBoundsException" σ
def wxX11_formattedCharacter (ln : Nat → Nat) (σ : zS) (t0 : Nat) (v1 : Int32) (Q : Int32 → zS → Prop) (X : String → zS → Prop) : Prop := ((v1 < 0 → wxX11_formattedCharacter_15 ln Q X σ) ∧ (¬ v1 < 0 → ∃ j1 : Nat, gr σ t0 2 = some j1 ∧ wJ4_length_8abf5 ln σ j1 (fun r3 σ2 => ((v1 < r3 → ∃ j4 : Nat, gr σ2 t0 2 = some j4 ∧ wJ4_charAt_5068e ln σ2 j4 v1 (fun r6 σ5 => narrow .char (.int r6) = .int r6 ∧ Q r6 σ5)) ∧ (¬ v1 < r3 → wxX11_formattedCharacter_15 ln Q X σ2)))))
abbrev rxX11_formattedCharacter : Room := { frames := 6, cells := 1, slots := 6, locals := 100 }
set_option maxRecDepth 100000 in
set_option maxHeartbeats 4000000 in
theorem BxX11_formattedCharacter_15 {l : Launch} {E : zE} {Y : zY} {p : Program} {e : Env} {s : State} {m : MethodId} {args : Array Value} {below : List Frame} {meth : Method} {c : Code} (hG : zG E p l s m args meth c cX11_formattedCharacter 2 RX11 (some .char) (zA Y s.heap.size)) (hlt : l.stackTraces = false) (hex : ∀ x ∈ c.exceptionTable.toList, False) {Q : Int32 → zS → Prop} {X : String → zS → Prop} : ∀ (σ : zS) (cl sl : Nat), wxX11_formattedCharacter_15 (zln Y) Q X σ → cl + (1) ≤ 1 → sl + (6) ≤ 6 → WW E Y σ p l e rxX11_formattedCharacter s m args below meth c (zA Y s.heap.size) 2 cl sl (vx_MQ below (va_Qi Q (zB E Y s.heap.size) (zA Y s.heap.size)) (zX X E Y s.heap.size) args s 1 6 (zA Y s.heap.size)) [] 15 [] := by
  intro σ cl sl hw  hcl hsl
  unfold wxX11_formattedCharacter_15 at hw
  exact z_throwSW (i := 29) (tx := "no such character of the formatted text") hG hlt hex thr_IOE (by decide +kernel) dX11_formattedCharacter_15 dX11_formattedCharacter_18 dX11_formattedCharacter_19 dX11_formattedCharacter_22 dX11_formattedCharacter_25 (Nat.le_of_ble_eq_true rfl) (Nat.le_of_ble_eq_true rfl) (show cl + 0 + 1 ≤ 1 from by omega) (show sl + 0 + 6 ≤ 6 from by omega) (show cl + 0 + 1 ≤ 1 from by omega) (show sl + 0 + 6 ≤ 6 from by omega) hw
set_option maxRecDepth 100000 in
set_option maxHeartbeats 4000000 in
theorem MxX11_formattedCharacter (l : Launch) (hlt : l.stackTraces = false) {E : zE} {Y : zY} {σ : zS} {t0 : Nat} {v1 : Int32} (h0 : zT Y 11 t0) {Q : Int32 → zS → Prop} {X : String → zS → Prop} (hw : wxX11_formattedCharacter (zln Y) σ t0 v1 Q X) : ∀ sz, vx_Met l yX11_formattedCharacter (zw yX11_formattedCharacter cX11_formattedCharacter 2 (some .char)) rxX11_formattedCharacter (zPc E Y σ sz [.ref (za Y t0), .int v1]) (va_Qi Q (zB E Y sz) (zA Y sz)) (zX X E Y sz) 1 6 (zA Y sz) := by
  refine z_metX (own := RX11) (Qc := fun sz => va_Qi Q (zB E Y sz) (zA Y sz)) (XC := fun sz => zX X E Y sz) (by decide +kernel) rfl (Nat.le_of_ble_eq_true rfl) ?_
  intro p e s m args below meth c hG hex
  unfold wxX11_formattedCharacter at hw
  refine zlv (lv' := [(0, .ref (za Y t0)), (1, .int v1)]) rfl ?_
  refine z_iload_n hG dX11_formattedCharacter_0 rfl 1 rfl ?_
  refine z_if_lt (tgt := 15) hG dX11_formattedCharacter_1 (by decide) (fun c9 => ?_) (fun c9 => ?_)
  · have hw := hw.1 c9
    refine zpick [] (lv' := []) rfl ?_
    refine zwiden (k := 0) (n := 0) (by omega) (by omega) ?_
    exact BxX11_formattedCharacter_15 hG hlt hex σ _ _ hw  (by omega) (by omega)
  · have hw := hw.2 c9
    refine z_iload_n hG dX11_formattedCharacter_4 rfl 1 rfl ?_
    refine z_aload_n hG dX11_formattedCharacter_5 rfl 0 rfl ?_
    obtain ⟨j1, ej1, hw⟩ := hw
    refine z_getr (kq := 13) hG f_X11_30 h0 rfl ej1 rfl (by decide) dX11_formattedCharacter_6 (fun hj1 => ?_)
    refine z_calli hG (z_runV (As := []) (st := [.int v1]) hG k_X11_355 (MJ4_length_8abf5 l hj1 hw) ⟨(Nat.le_of_ble_eq_true rfl), (Nat.le_of_ble_eq_true rfl)⟩ hj1 (T := TJ4) (N := 4) rfl (by decide) rfl (Nat.le_of_ble_eq_true rfl) dX11_formattedCharacter_9 ⟨show 0 + 0 ≤ 1 from by omega, show 0 + 0 ≤ 6 from by omega⟩ rfl) (fun r3 σ2 hw => ?_)
    refine z_icmp_lt (tgt := 26) hG dX11_formattedCharacter_12 (by decide) (fun c8 => ?_) (fun c8 => ?_)
    · have hw := hw.1 c8
      refine z_aload_n hG dX11_formattedCharacter_26 rfl 0 rfl ?_
      obtain ⟨j4, ej4, hw⟩ := hw
      refine z_getr (kq := 13) hG f_X11_30 h0 rfl ej4 rfl (by decide) dX11_formattedCharacter_27 (fun hj4 => ?_)
      refine z_iload_n hG dX11_formattedCharacter_30 rfl 1 rfl ?_
      refine z_calli hG (z_runV (As := [.int v1]) (st := []) hG k_X11_366 (MJ4_charAt_5068e l hj4 hw) ⟨(Nat.le_of_ble_eq_true rfl), (Nat.le_of_ble_eq_true rfl)⟩ hj4 (T := TJ4) (N := 4) rfl (by decide) rfl (Nat.le_of_ble_eq_true rfl) dX11_formattedCharacter_31 ⟨show 0 + 0 ≤ 1 from by omega, show 0 + 0 ≤ 6 from by omega⟩ rfl) (fun r6 σ5 hw => ?_)
      obtain ⟨q7, hw⟩ := hw
      refine zwiden (k := 1) (n := 6) (by omega) (by omega) (zvx ?_)
      exact z_iret hG rfl q7 dX11_formattedCharacter_34 hw
    · have hw := hw.2 c8
      refine zpick [] (lv' := []) rfl ?_
      refine zwiden (k := 0) (n := 0) (by omega) (by omega) ?_
      exact BxX11_formattedCharacter_15 hG hlt hex σ2 _ _ hw  (by omega) (by omega)
