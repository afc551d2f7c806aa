-- TypeWheelTelegraph$Row.<init>(I)V
def wX9_init (S : zSp) (σ : zS) (t0 : Nat) (v1 : Int32) (Q : zSp → zS → Prop) : Prop := ∀ x1 : Int32, x1 = (if v1 < 0 then 0 else v1) → ¬ x1 < 0 ∧ x1.toNatClampNeg ≤ 1000 ∧ ∀ a2 : Nat, a2 = zSk S → ∀ S2 : zSp, S2 = zSpush S 20 x1.toNatClampNeg → ∀ σ5 : zS, σ5 = zfresh σ a2 → ∀ σ6 : zS, σ6 = sr σ5 t0 0 (some a2) → Q S2 σ6
abbrev rX9_init : Room := { frames := 1, cells := 1, slots := 1000, locals := 21 }
set_option maxRecDepth 100000 in
set_option maxHeartbeats 4000000 in
theorem MX9_init (l : Launch) {E : zE} {Y : zY} {σ : zS} {t0 : Nat} {v1 : Int32} (h0 : zT Y 9 t0) {Q : zSp → zS → Prop} (hw : wX9_init (zsp Y) σ t0 v1 Q) : ∀ sz, Met l yX9_init (zw yX9_init cX9_init 2 none) rX9_init (zPc E Y σ sz [.ref (za Y t0), .int v1]) (va_Qv (fun (u : zY × zS) => Q (zsp u.1) u.2) (zBA E Y sz) (zA Y sz)) 1 1000 (zA Y sz) := by
  refine z_met (own := RX9) (Qc := fun sz => va_Qv (fun (u : zY × zS) => Q (zsp u.1) u.2) (zBA E Y sz) (zA Y sz)) (by decide +kernel) rfl (Nat.le_of_ble_eq_true rfl) ?_
  intro p e s m args below meth c hG hinit
  unfold wX9_init at hw
  refine zlv (lv' := [(0, .ref (za Y t0)), (1, .int v1)]) rfl ?_
  have hx : zext Y Y := zext.rf
  refine z_aload_n hG dX9_init_0 rfl 0 rfl ?_
  refine z_objInit hG k_X9_3 ko_i ko_c (Nat.le_of_ble_eq_true rfl) (Nat.le_of_ble_eq_true rfl) dX9_init_1 ?_
  refine z_aload_n hG dX9_init_4 rfl 0 rfl ?_
  refine z_iload_n hG dX9_init_5 rfl 1 rfl ?_
  refine z_iconst (v := 0) hG dX9_init_6 (by decide) ?_
  refine z_mmax hG k_X9_9 km_max_s km_i km_max_c (Nat.le_of_ble_eq_true rfl) (Nat.le_of_ble_eq_true rfl) (show 0 ≤ 1 from by omega) (show 0 ≤ 1000 from by omega) dX9_init_7 ?_
  refine z_topi (fun x1 ex1 => ?_)
  have hw := hw x1 ex1
  obtain ⟨q3, q4, hw⟩ := hw
  refine z_newa (kd := 20) (t0 := 0) (ty := .int) (atype := .int) (n := x1) hG kA_20 rfl rfl (Or.inl ⟨rfl, rfl⟩) q3 (show (x1).toNatClampNeg * 4 ≤ 536870912 from by omega) (show 0 + 1 ≤ 1 from by omega) (show 0 + (x1).toNatClampNeg ≤ 1000 from by omega) dX9_init_10 (fun Y2 a2 ea2 hx2 eSa2 ha2 => ?_)
  have hw := hw a2 ea2 (zsp Y2) eSa2
  refine zwiden (k := 1) (n := 1000) (by omega) (by omega) ?_
  refine z_topσ (fun σ5 eσ5 => ?_)
  have hw := hw σ5 eσ5
  refine zst (st' := [.ref (za Y2 a2), .ref (za Y2 t0)]) (by simp only [hx2.a h0]) ?_
  refine zlv (lv' := [(0, .ref (za Y2 t0)), (1, .int v1)]) (by simp only [hx2.a h0]) ?_
  have h0 := hx2.T h0
  have hx := hx.tr hx2
  refine z_putrF hG f_X9_15 hinit h0 rfl rfl rfl (Or.inr ⟨_, rfl⟩) rfl (by decide) ha2 dX9_init_12 ?_
  refine z_topσ (fun σ6 eσ6 => ?_)
  have hw := hw σ6 eσ6
  refine zwiden (k := 1) (n := 1000) (by omega) (by omega) ?_
  exact z_vretA hG hx rfl dX9_init_15 hw
-- TypeWheelTelegraph$Records.<init>(I)V
def wX8_init (S : zSp) (σ : zS) (t0 : Nat) (v1 : Int32) (Q : zSp → zS → Prop) : Prop := ∀ x1 : Int32, x1 = (if v1 < 1 then 1 else v1) → ∀ σ2 : zS, σ2 = si σ t0 0 x1 → ∀ x3 : Int32, x3 = 3 * (gi σ2 t0 0) → ¬ x3 < 0 ∧ x3.toNatClampNeg ≤ 2000 ∧ ∀ a4 : Nat, a4 = zSk S → ∀ S4 : zSp, S4 = zSpush S 20 x3.toNatClampNeg → ∀ σ7 : zS, σ7 = zfresh σ2 a4 → ∀ σ8 : zS, σ8 = sr σ7 t0 1 (some a4) → Q S4 σ8
abbrev rX8_init : Room := { frames := 1, cells := 1, slots := 2000, locals := 21 }
set_option maxRecDepth 100000 in
set_option maxHeartbeats 4000000 in
theorem MX8_init (l : Launch) {E : zE} {Y : zY} {σ : zS} {t0 : Nat} {v1 : Int32} (h0 : zT Y 8 t0) {Q : zSp → zS → Prop} (hw : wX8_init (zsp Y) σ t0 v1 Q) : ∀ sz, Met l yX8_init (zw yX8_init cX8_init 2 none) rX8_init (zPc E Y σ sz [.ref (za Y t0), .int v1]) (va_Qv (fun (u : zY × zS) => Q (zsp u.1) u.2) (zBA E Y sz) (zA Y sz)) 1 2000 (zA Y sz) := by
  refine z_met (own := RX8) (Qc := fun sz => va_Qv (fun (u : zY × zS) => Q (zsp u.1) u.2) (zBA E Y sz) (zA Y sz)) (by decide +kernel) rfl (Nat.le_of_ble_eq_true rfl) ?_
  intro p e s m args below meth c hG hinit
  unfold wX8_init at hw
  refine zlv (lv' := [(0, .ref (za Y t0)), (1, .int v1)]) rfl ?_
  have hx : zext Y Y := zext.rf
  refine z_aload_n hG dX8_init_0 rfl 0 rfl ?_
  refine z_objInit hG k_X8_3 ko_i ko_c (Nat.le_of_ble_eq_true rfl) (Nat.le_of_ble_eq_true rfl) dX8_init_1 ?_
  refine z_aload_n hG dX8_init_4 rfl 0 rfl ?_
  refine z_iload_n hG dX8_init_5 rfl 1 rfl ?_
  refine z_iconst (v := 1) hG dX8_init_6 (by decide) ?_
  refine z_mmax hG k_X8_9 km_max_s km_i km_max_c (Nat.le_of_ble_eq_true rfl) (Nat.le_of_ble_eq_true rfl) (show 0 ≤ 1 from by omega) (show 0 ≤ 2000 from by omega) dX8_init_7 ?_
  refine z_topi (fun x1 ex1 => ?_)
  have hw := hw x1 ex1
  refine z_putiF hG f_X8_15 hinit h0 rfl rfl rfl (zN_int _) dX8_init_10 ?_
  refine z_topσ (fun σ2 eσ2 => ?_)
  have hw := hw σ2 eσ2
  refine z_aload_n hG dX8_init_13 rfl 0 rfl ?_
  refine z_iconst (v := 3) hG dX8_init_14 (by decide) ?_
  refine z_aload_n hG dX8_init_15 rfl 0 rfl ?_
  refine z_geti hG f_X8_15 h0 rfl dX8_init_16 ?_
  refine z_imul hG dX8_init_19 ?_
  refine z_topi (fun x3 ex3 => ?_)
  have hw := hw x3 ex3
  obtain ⟨q5, q6, hw⟩ := hw
  refine z_newa (kd := 20) (t0 := 0) (ty := .int) (atype := .int) (n := x3) hG kA_20 rfl rfl (Or.inl ⟨rfl, rfl⟩) q5 (show (x3).toNatClampNeg * 4 ≤ 536870912 from by omega) (show 0 + 1 ≤ 1 from by omega) (show 0 + (x3).toNatClampNeg ≤ 2000 from by omega) dX8_init_20 (fun Y4 a4 ea4 hx4 eSa4 ha4 => ?_)
  have hw := hw a4 ea4 (zsp Y4) eSa4
  refine zwiden (k := 1) (n := 2000) (by omega) (by omega) ?_
  refine z_topσ (fun σ7 eσ7 => ?_)
  have hw := hw σ7 eσ7
  refine zst (st' := [.ref (za Y4 a4), .ref (za Y4 t0)]) (by simp only [hx4.a h0]) ?_
  refine zlv (lv' := [(0, .ref (za Y4 t0)), (1, .int v1)]) (by simp only [hx4.a h0]) ?_
  have h0 := hx4.T h0
  have hx := hx.tr hx4
  refine z_putrF hG f_X8_21 hinit h0 rfl rfl rfl (Or.inr ⟨_, rfl⟩) rfl (by decide) ha4 dX8_init_22 ?_
  refine z_topσ (fun σ8 eσ8 => ?_)
  have hw := hw σ8 eσ8
  refine zwiden (k := 1) (n := 2000) (by omega) (by omega) ?_
  exact z_vretA hG hx rfl dX8_init_25 hw
-- TypeWheelTelegraph$Line.<init>()V
def wX2_init (S : zSp) (σ : zS) (t0 : Nat) (Q : zSp → zS → Prop) : Prop := ∀ a1 : Nat, a1 = zSk S → ∀ S1 : zSp, S1 = zSpush S 9 0 → ∀ σ2 : zS, σ2 = zfresh σ a1 → wX9_init S1 σ2 a1 30 (fun S3 σ3 => ∀ σ5 : zS, σ5 = sr σ3 t0 0 (some a1) → ∀ a6 : Nat, a6 = zSk S3 → ∀ S6 : zSp, S6 = zSpush S3 9 0 → ∀ σ7 : zS, σ7 = zfresh σ5 a6 → wX9_init S6 σ7 a6 62 (fun S8 σ8 => ∀ σ10 : zS, σ10 = sr σ8 t0 1 (some a6) → Q S8 σ10))
abbrev rX2_init : Room := { frames := 2, cells := 4, slots := 2004, locals := 42 }
set_option maxRecDepth 100000 in
set_option maxHeartbeats 4000000 in
theorem MX2_init (l : Launch) {E : zE} {Y : zY} {σ : zS} {t0 : Nat} (h0 : zT Y 2 t0) {Q : zSp → zS → Prop} (hw : wX2_init (zsp Y) σ t0 Q) : ∀ sz, Met l yX2_init (zw yX2_init cX2_init 1 none) rX2_init (zPc E Y σ sz [.ref (za Y t0)]) (va_Qv (fun (u : zY × zS) => Q (zsp u.1) u.2) (zBA E Y sz) (zA Y sz)) 4 2004 (zA Y sz) := by
  refine z_met (own := RX2) (Qc := fun sz => va_Qv (fun (u : zY × zS) => Q (zsp u.1) u.2) (zBA E Y sz) (zA Y sz)) (by decide +kernel) rfl (Nat.le_of_ble_eq_true rfl) ?_
  intro p e s m args below meth c hG hinit
  unfold wX2_init at hw
  refine zlv (lv' := [(0, .ref (za Y t0))]) rfl ?_
  have hx : zext Y Y := zext.rf
  refine z_aload_n hG dX2_init_0 rfl 0 rfl ?_
  refine z_objInit hG k_X2_3 ko_i ko_c (Nat.le_of_ble_eq_true rfl) (Nat.le_of_ble_eq_true rfl) dX2_init_1 ?_
  refine z_aload_n hG dX2_init_4 rfl 0 rfl ?_
  refine z_new hG ck_9 kc_X2_9 kn_9 ki_9 nw_9 (show 0 + 1 ≤ 4 from by omega) (show 0 + 2 ≤ 2004 from by omega) dX2_init_5 (fun Y1 a1 ea1 hx1 eSa1 ha1 => ?_)
  have hw := hw a1 ea1 (zsp Y1) eSa1
  refine zwiden (k := 1) (n := 2) (show 0 + 1 ≤ 1 from by omega) (show 0 + 2 ≤ 2 from by omega) ?_
  refine z_topσ (fun σ2 eσ2 => ?_)
  have hw := hw σ2 eσ2
  refine zst (st' := [.ref (za Y1 a1), .ref (za Y1 t0)]) (by simp only [hx1.a h0]) ?_
  refine zlv (lv' := [(0, .ref (za Y1 t0))]) (by simp only [hx1.a h0]) ?_
  have h0 := hx1.T h0
  have hx := hx.tr hx1
  refine z_dup hG dX2_init_8 rfl ?_
  refine z_bipush (v := 30) hG dX2_init_9 (by decide) ?_
  refine z_callAv hG (z_runI (As := [.int 30]) (st := [.ref (za Y1 a1), .ref (za Y1 t0)]) hG k_X2_11 (MX9_init l ha1 hw) ⟨(Nat.le_of_ble_eq_true rfl), (Nat.le_of_ble_eq_true rfl)⟩ rfl (Nat.le_of_ble_eq_true rfl) dX2_init_11 ⟨show 1 + 1 ≤ 4 from by omega, show 2 + 1000 ≤ 2004 from by omega⟩ rfl) (fun Y3 σ3 hx3 hw => ?_)
  refine zwiden (k := 2) (n := 1002) (show 1 + 1 ≤ 2 from by omega) (show 2 + 1000 ≤ 1002 from by omega) ?_
  refine zst (st' := [.ref (za Y3 a1), .ref (za Y3 t0)]) (by simp only [hx3.a ha1, hx3.a h0]) ?_
  refine zlv (lv' := [(0, .ref (za Y3 t0))]) (by simp only [hx3.a ha1, hx3.a h0]) ?_
  have ha1 := hx3.T ha1
  have h0 := hx3.T h0
  have hx := hx.tr hx3
  refine z_putrF hG f_X2_14 hinit h0 rfl rfl rfl (Or.inl ⟨_, rfl⟩) rfl (by decide) ha1 dX2_init_14 ?_
  refine z_topσ (fun σ5 eσ5 => ?_)
  have hw := hw σ5 eσ5
  refine z_aload_n hG dX2_init_17 rfl 0 rfl ?_
  refine z_new hG ck_9 kc_X2_9 kn_9 ki_9 nw_9 (show 2 + 1 ≤ 4 from by omega) (show 1002 + 2 ≤ 2004 from by omega) dX2_init_18 (fun Y6 a6 ea6 hx6 eSa6 ha6 => ?_)
  have hw := hw a6 ea6 (zsp Y6) eSa6
  refine zwiden (k := 3) (n := 1004) (show 2 + 1 ≤ 3 from by omega) (show 1002 + 2 ≤ 1004 from by omega) ?_
  refine z_topσ (fun σ7 eσ7 => ?_)
  have hw := hw σ7 eσ7
  refine zst (st' := [.ref (za Y6 a6), .ref (za Y6 t0)]) (by simp only [hx6.a h0]) ?_
  refine zlv (lv' := [(0, .ref (za Y6 t0))]) (by simp only [hx6.a h0]) ?_
  have h0 := hx6.T h0
  have hx := hx.tr hx6
  refine z_dup hG dX2_init_21 rfl ?_
  refine z_bipush (v := 62) hG dX2_init_22 (by decide) ?_
  refine z_callAv hG (z_runI (As := [.int 62]) (st := [.ref (za Y6 a6), .ref (za Y6 t0)]) hG k_X2_11 (MX9_init l ha6 hw) ⟨(Nat.le_of_ble_eq_true rfl), (Nat.le_of_ble_eq_true rfl)⟩ rfl (Nat.le_of_ble_eq_true rfl) dX2_init_24 ⟨show 3 + 1 ≤ 4 from by omega, show 1004 + 1000 ≤ 2004 from by omega⟩ rfl) (fun Y8 σ8 hx8 hw => ?_)
  refine zwiden (k := 4) (n := 2004) (show 3 + 1 ≤ 4 from by omega) (show 1004 + 1000 ≤ 2004 from by omega) ?_
  refine zst (st' := [.ref (za Y8 a6), .ref (za Y8 t0)]) (by simp only [hx8.a ha6, hx8.a h0]) ?_
  refine zlv (lv' := [(0, .ref (za Y8 t0))]) (by simp only [hx8.a ha6, hx8.a h0]) ?_
  have ha6 := hx8.T ha6
  have h0 := hx8.T h0
  have hx := hx.tr hx8
  refine z_putrF hG f_X2_20 hinit h0 rfl rfl rfl (Or.inl ⟨_, rfl⟩) rfl (by decide) ha6 dX2_init_27 ?_
  refine z_topσ (fun σ10 eσ10 => ?_)
  have hw := hw σ10 eσ10
  refine zwiden (k := 4) (n := 2004) (by omega) (by omega) ?_
  exact z_vretA hG hx rfl dX2_init_30 hw
-- TypeWheelTelegraph$Desk.<init>()V
def wX0_init_15 (Q : zSp → zS → Prop) : Nat → Nat → Int32 → zSp → zS → Prop
  | 0, _, _, _, _ => False
  | n + 1, t0, v1, S, σ => ∃ j1 : Nat, gr σ t0 3 = some j1 ∧ (((nI ((zSl S) j1)) ≤ v1 → Q S σ) ∧ (¬ (nI ((zSl S) j1)) ≤ v1 → ∃ j2 : Nat, gr σ t0 3 = some j2 ∧ ∀ a3 : Nat, a3 = zSk S → ∀ S3 : zSp, S3 = zSpush S 2 0 → ∀ σ4 : zS, σ4 = zfresh σ a3 → wX2_init S3 σ4 a3 (fun S5 σ5 => vp_in v1 ((zSl S5) j2) ∧ ∀ σ8 : zS, σ8 = sr σ5 j2 v1.toNatClampNeg (some a3) → ∀ x9 : Int32, x9 = v1 + 1 → (wX0_init_15 Q n) t0 x9 S5 σ8)))
def wX0_init (S : zSp) (σ : zS) (t0 : Nat) (Q : zSp → zS → Prop) : Prop := ∀ a1 : Nat, a1 = zSk S → ∀ S1 : zSp, S1 = zSpush S 22 12 → ∀ σ2 : zS, σ2 = zfresh σ a1 → ∀ σ3 : zS, σ3 = sr σ2 t0 3 (some a1) → ∃ n4 : Nat, n4 ≤ 13 ∧ wX0_init_15 Q n4 t0 0 S1 σ3
abbrev rX0_init : Room := { frames := 3, cells := 66, slots := 26090, locals := 62 }
set_option maxRecDepth 100000 in
set_option maxHeartbeats 4000000 in
theorem BX0_init_15 {l : Launch} {E : zE} {Y0 : zY} {p : Program} {e : Env} {s : State} {m : MethodId} {args : Array Value} {below : List Frame} {meth : Method} {c : Code} (hG : zG E p l s m args meth c cX0_init 2 RX0 none (zA Y0 s.heap.size)) (hinit : meth.name = "<init>") {Q : zSp → zS → Prop} : ∀ (n : Nat) (t0 : Nat) (v1 : Int32) (Y : zY) (σ : zS) (cl sl : Nat), wX0_init_15 Q n t0 v1 (zsp Y) σ → zext Y0 Y → zT Y 0 t0 → cl + (n * 5 + 0) ≤ 66 → sl + (n * 2006 + 0) ≤ 26090 → WW E Y σ p l e rX0_init s m args below meth c (zA Y0 s.heap.size) 2 cl sl (MQ below (va_Qv (fun (u : zY × zS) => Q (zsp u.1) u.2) (zBA E Y0 s.heap.size) (zA Y0 s.heap.size)) args s 66 26090 (zA Y0 s.heap.size)) [(0, .ref (za Y t0)), (1, .int v1)] 15 [] := by
  intro n
  induction n with
  | zero => intro t0 v1 Y σ cl sl hw
            exact hw.elim
  | succ n ih =>
    intro t0 v1 Y σ cl sl hw hx h0 hcl hsl
    rw [wX0_init_15] at hw
    refine z_iload_n hG dX0_init_15 rfl 1 rfl ?_
    refine z_aload_n hG dX0_init_16 rfl 0 rfl ?_
    obtain ⟨j1, ej1, hw⟩ := hw
    refine z_getr (kq := 22) hG f_X0_11 h0 rfl ej1 rfl (by decide) dX0_init_17 (fun hj1 => ?_)
    refine z_alen hG hj1 (by decide) (t0 := 2) rfl dX0_init_20 ?_
    refine z_icmp_ge (tgt := 43) hG dX0_init_21 (by decide) (fun c10 => ?_) (fun c10 => ?_)
    · have hw := hw.1 c10
      refine zwiden (k := 66) (n := 26090) (by omega) (by omega) ?_
      exact z_vretA hG hx rfl dX0_init_43 hw
    · have hw := hw.2 c10
      refine z_aload_n hG dX0_init_24 rfl 0 rfl ?_
      obtain ⟨j2, ej2, hw⟩ := hw
      refine z_getr (kq := 22) hG f_X0_11 h0 rfl ej2 rfl (by decide) dX0_init_25 (fun hj2 => ?_)
      refine z_iload_n hG dX0_init_28 rfl 1 rfl ?_
      refine z_new hG ck_2 kc_X0_9 kn_2 ki_2 nw_2 (show cl + 0 + 1 ≤ 66 from by omega) (show sl + 0 + 2 ≤ 26090 from by omega) dX0_init_29 (fun Y3 a3 ea3 hx3 eSa3 ha3 => ?_)
      have hw := hw a3 ea3 (zsp Y3) eSa3
      refine zwiden (k := cl + 1) (n := sl + 2) (show cl + 0 + 1 ≤ cl + 1 from by omega) (show sl + 0 + 2 ≤ sl + 2 from by omega) ?_
      refine z_topσ (fun σ4 eσ4 => ?_)
      have hw := hw σ4 eσ4
      refine zst (st' := [.ref (za Y3 a3), .int v1, .ref (za Y3 j2)]) (by simp only [hx3.a hj2, hx3.a h0]) ?_
      refine zlv (lv' := [(0, .ref (za Y3 t0)), (1, .int v1)]) (by simp only [hx3.a hj2, hx3.a h0]) ?_
      have hj2 := hx3.T hj2
      have h0 := hx3.T h0
      have hx := hx.tr hx3
      refine z_dup hG dX0_init_32 rfl ?_
      refine z_callAv hG (z_runIN (As := []) (st := [.ref (za Y3 a3), .int v1, .ref (za Y3 j2)]) hG k_X0_17 (MX2_init l ha3 hw) ⟨(Nat.le_of_ble_eq_true rfl), (Nat.le_of_ble_eq_true rfl)⟩ rfl (Nat.le_of_ble_eq_true rfl) dX0_init_33 ⟨show cl + 1 + 4 ≤ 66 from by omega, show sl + 2 + 2004 ≤ 26090 from by omega⟩ rfl) (fun Y5 σ5 hx5 hw => ?_)
      refine zwiden (k := cl + 5) (n := sl + 2006) (show cl + 1 + 4 ≤ cl + 5 from by omega) (show sl + 2 + 2004 ≤ sl + 2006 from by omega) ?_
      refine zst (st' := [.ref (za Y5 a3), .int v1, .ref (za Y5 j2)]) (by simp only [hx5.a ha3, hx5.a hj2, hx5.a h0]) ?_
      refine zlv (lv' := [(0, .ref (za Y5 t0)), (1, .int v1)]) (by simp only [hx5.a ha3, hx5.a hj2, hx5.a h0]) ?_
      have ha3 := hx5.T ha3
      have hj2 := hx5.T hj2
      have h0 := hx5.T h0
      have hx := hx.tr hx5
      obtain ⟨q7, hw⟩ := hw
      refine z_aast (kq := 2) (t0 := 2) (T := TX2) (N := 2) hG hj2 (by decide) rfl q7 (fun _ => rfl) (by decide) rfl (by decide) ha3 dX0_init_36 ?_
      refine z_topσ (fun σ8 eσ8 => ?_)
      have hw := hw σ8 eσ8
      obtain ⟨x9, ex9⟩ : ∃ y : Int32, y = v1 + 1 := ⟨_, rfl⟩
      have hw := hw x9 ex9
      refine z_iinc (v := x9) (lv' := [(1, .int x9), (0, .ref (za Y5 t0))]) hG dX0_init_37 1 rfl (by rw [ex9]; rfl) (by decide) rfl ?_
      refine z_goto (tgt := 15) hG dX0_init_40 (by decide) ?_
      refine zpick [1, 0] (lv' := [(0, .ref (za Y5 t0)), (1, .int x9)]) rfl ?_
      refine zwiden (k := cl + 5) (n := sl + 2006) (by omega) (by omega) ?_
      exact ih t0 x9 Y5 σ8 _ _ hw hx h0 (by omega) (by omega)
set_option maxRecDepth 100000 in
set_option maxHeartbeats 4000000 in
theorem MX0_init (l : Launch) {E : zE} {Y : zY} {σ : zS} {t0 : Nat} (h0 : zT Y 0 t0) {Q : zSp → zS → Prop} (hw : wX0_init (zsp Y) σ t0 Q) : ∀ sz, Met l yX0_init (zw yX0_init cX0_init 2 none) rX0_init (zPc E Y σ sz [.ref (za Y t0)]) (va_Qv (fun (u : zY × zS) => Q (zsp u.1) u.2) (zBA E Y sz) (zA Y sz)) 66 26090 (zA Y sz) := by
  refine z_met (own := RX0) (Qc := fun sz => va_Qv (fun (u : zY × zS) => Q (zsp u.1) u.2) (zBA E Y sz) (zA Y sz)) (by decide +kernel) rfl (Nat.le_of_ble_eq_true rfl) ?_
  intro p e s m args below meth c hG hinit
  unfold wX0_init at hw
  refine zlv (lv' := [(0, .ref (za Y t0))]) rfl ?_
  have hx : zext Y Y := zext.rf
  refine z_aload_n hG dX0_init_0 rfl 0 rfl ?_
  refine z_objInit hG k_X0_3 ko_i ko_c (Nat.le_of_ble_eq_true rfl) (Nat.le_of_ble_eq_true rfl) dX0_init_1 ?_
  refine z_aload_n hG dX0_init_4 rfl 0 rfl ?_
  refine z_bipush (v := 12) hG dX0_init_5 (by decide) ?_
  have eNa1 : ((12 : Int32)).toNatClampNeg = 12 := by decide +kernel
  refine z_newq (kd := 22) (t0 := 2) (n := 12) hG kc_X0_9 hG.2.2.2.2.2.2.2.1.2.2.2.2.2.2.2.2.2.2.1 rfl (Or.inl rfl) (by decide) (show ((12 : Int32)).toNatClampNeg * 4 ≤ 536870912 from by omega) (show 0 + 1 ≤ 66 from by omega) (show 0 + ((12 : Int32)).toNatClampNeg ≤ 26090 from by omega) dX0_init_7 (fun Y1 a1 ea1 hx1 eSa1 ha1 => ?_)
  rw [eNa1] at eSa1
  have hw := hw a1 ea1 (zsp Y1) eSa1
  refine zwiden (k := 1) (n := 12) (show 0 + 1 ≤ 1 from by omega) (show 0 + 12 ≤ 12 from by omega) ?_
  refine z_topσ (fun σ2 eσ2 => ?_)
  have hw := hw σ2 eσ2
  refine zst (st' := [.ref (za Y1 a1), .ref (za Y1 t0)]) (by simp only [hx1.a h0]) ?_
  refine zlv (lv' := [(0, .ref (za Y1 t0))]) (by simp only [hx1.a h0]) ?_
  have h0 := hx1.T h0
  have hx := hx.tr hx1
  refine z_putrF hG f_X0_11 hinit h0 rfl rfl rfl (Or.inr ⟨_, rfl⟩) rfl (by decide) ha1 dX0_init_10 ?_
  refine z_topσ (fun σ3 eσ3 => ?_)
  have hw := hw σ3 eσ3
  refine z_iconst (v := 0) hG dX0_init_13 (by decide) ?_
  refine z_istore_n (lv' := [(1, .int 0), (0, .ref (za Y1 t0))]) hG dX0_init_14 rfl (by decide) rfl ?_
  obtain ⟨n4, hn4, hw⟩ := hw
  refine zpick [1, 0] (lv' := [(0, .ref (za Y1 t0)), (1, .int 0)]) rfl ?_
  refine zwiden (k := 1) (n := 12) (by omega) (by omega) ?_
  exact BX0_init_15 hG hinit n4 t0 0 Y1 σ3 _ _ hw hx h0 (by omega) (by omega)
-- TypeWheelTelegraph$Plan.<init>()V
def wX6_init (S : zSp) (σ : zS) (t0 : Nat) (Q : zSp → zS → Prop) : Prop := ∀ a1 : Nat, a1 = zSk S → ∀ S1 : zSp, S1 = zSpush S 9 0 → ∀ σ2 : zS, σ2 = zfresh σ a1 → wX9_init S1 σ2 a1 20 (fun S3 σ3 => ∀ σ5 : zS, σ5 = sr σ3 t0 5 (some a1) → ∀ a6 : Nat, a6 = zSk S3 → ∀ S6 : zSp, S6 = zSpush S3 0 0 → ∀ σ7 : zS, σ7 = zfresh σ5 a6 → wX0_init S6 σ7 a6 (fun S8 σ8 => ∀ σ10 : zS, σ10 = sr σ8 t0 6 (some a6) → ∀ a11 : Nat, a11 = zSk S8 → ∀ S11 : zSp, S11 = zSpush S8 0 0 → ∀ σ12 : zS, σ12 = zfresh σ10 a11 → wX0_init S11 σ12 a11 (fun S13 σ13 => ∀ σ15 : zS, σ15 = sr σ13 t0 7 (some a11) → wX6_reset (zSl S13) σ15 t0 (fun σ16 => Q S13 σ16))))
abbrev rX6_init : Room := { frames := 4, cells := 136, slots := 53190, locals := 83 }
set_option maxRecDepth 100000 in
set_option maxHeartbeats 4000000 in
theorem MX6_init (l : Launch) {E : zE} {Y : zY} {σ : zS} {t0 : Nat} (h0 : zT Y 6 t0) {Q : zSp → zS → Prop} (hw : wX6_init (zsp Y) σ t0 Q) : ∀ sz, Met l yX6_init (zw yX6_init cX6_init 1 none) rX6_init (zPc E Y σ sz [.ref (za Y t0)]) (va_Qv (fun (u : zY × zS) => Q (zsp u.1) u.2) (zBA E Y sz) (zA Y sz)) 136 53190 (zA Y sz) := by
  refine z_met (own := RX6) (Qc := fun sz => va_Qv (fun (u : zY × zS) => Q (zsp u.1) u.2) (zBA E Y sz) (zA Y sz)) (by decide +kernel) rfl (Nat.le_of_ble_eq_true rfl) ?_
  intro p e s m args below meth c hG hinit
  unfold wX6_init at hw
  refine zlv (lv' := [(0, .ref (za Y t0))]) rfl ?_
  have hx : zext Y Y := zext.rf
  refine z_aload_n hG dX6_init_0 rfl 0 rfl ?_
  refine z_objInit hG k_X6_3 ko_i ko_c (Nat.le_of_ble_eq_true rfl) (Nat.le_of_ble_eq_true rfl) dX6_init_1 ?_
  refine z_aload_n hG dX6_init_4 rfl 0 rfl ?_
  refine z_new hG ck_9 kc_X6_9 kn_9 ki_9 nw_9 (show 0 + 1 ≤ 136 from by omega) (show 0 + 2 ≤ 53190 from by omega) dX6_init_5 (fun Y1 a1 ea1 hx1 eSa1 ha1 => ?_)
  have hw := hw a1 ea1 (zsp Y1) eSa1
  refine zwiden (k := 1) (n := 2) (show 0 + 1 ≤ 1 from by omega) (show 0 + 2 ≤ 2 from by omega) ?_
  refine z_topσ (fun σ2 eσ2 => ?_)
  have hw := hw σ2 eσ2
  refine zst (st' := [.ref (za Y1 a1), .ref (za Y1 t0)]) (by simp only [hx1.a h0]) ?_
  refine zlv (lv' := [(0, .ref (za Y1 t0))]) (by simp only [hx1.a h0]) ?_
  have h0 := hx1.T h0
  have hx := hx.tr hx1
  refine z_dup hG dX6_init_8 rfl ?_
  refine z_bipush (v := 20) hG dX6_init_9 (by decide) ?_
  refine z_callAv hG (z_runI (As := [.int 20]) (st := [.ref (za Y1 a1), .ref (za Y1 t0)]) hG k_X6_11 (MX9_init l ha1 hw) ⟨(Nat.le_of_ble_eq_true rfl), (Nat.le_of_ble_eq_true rfl)⟩ rfl (Nat.le_of_ble_eq_true rfl) dX6_init_11 ⟨show 1 + 1 ≤ 136 from by omega, show 2 + 1000 ≤ 53190 from by omega⟩ rfl) (fun Y3 σ3 hx3 hw => ?_)
  refine zwiden (k := 2) (n := 1002) (show 1 + 1 ≤ 2 from by omega) (show 2 + 1000 ≤ 1002 from by omega) ?_
  refine zst (st' := [.ref (za Y3 a1), .ref (za Y3 t0)]) (by simp only [hx3.a ha1, hx3.a h0]) ?_
  refine zlv (lv' := [(0, .ref (za Y3 t0))]) (by simp only [hx3.a ha1, hx3.a h0]) ?_
  have ha1 := hx3.T ha1
  have h0 := hx3.T h0
  have hx := hx.tr hx3
  refine z_putrF hG f_X6_14 hinit h0 rfl rfl rfl (Or.inl ⟨_, rfl⟩) rfl (by decide) ha1 dX6_init_14 ?_
  refine z_topσ (fun σ5 eσ5 => ?_)
  have hw := hw σ5 eσ5
  refine z_aload_n hG dX6_init_17 rfl 0 rfl ?_
  refine z_new hG ck_0 kc_X6_20 kn_0 ki_0 nw_0 (show 2 + 1 ≤ 136 from by omega) (show 1002 + 4 ≤ 53190 from by omega) dX6_init_18 (fun Y6 a6 ea6 hx6 eSa6 ha6 => ?_)
  have hw := hw a6 ea6 (zsp Y6) eSa6
  refine zwiden (k := 3) (n := 1006) (show 2 + 1 ≤ 3 from by omega) (show 1002 + 4 ≤ 1006 from by omega) ?_
  refine z_topσ (fun σ7 eσ7 => ?_)
  have hw := hw σ7 eσ7
  refine zst (st' := [.ref (za Y6 a6), .ref (za Y6 t0)]) (by simp only [hx6.a h0]) ?_
  refine zlv (lv' := [(0, .ref (za Y6 t0))]) (by simp only [hx6.a h0]) ?_
  have h0 := hx6.T h0
  have hx := hx.tr hx6
  refine z_dup hG dX6_init_21 rfl ?_
  refine z_callAv hG (z_runI (As := []) (st := [.ref (za Y6 a6), .ref (za Y6 t0)]) hG k_X6_22 (MX0_init l ha6 hw) ⟨(Nat.le_of_ble_eq_true rfl), (Nat.le_of_ble_eq_true rfl)⟩ rfl (Nat.le_of_ble_eq_true rfl) dX6_init_22 ⟨show 3 + 66 ≤ 136 from by omega, show 1006 + 26090 ≤ 53190 from by omega⟩ rfl) (fun Y8 σ8 hx8 hw => ?_)
  refine zwiden (k := 69) (n := 27096) (show 3 + 66 ≤ 69 from by omega) (show 1006 + 26090 ≤ 27096 from by omega) ?_
  refine zst (st' := [.ref (za Y8 a6), .ref (za Y8 t0)]) (by simp only [hx8.a ha6, hx8.a h0]) ?_
  refine zlv (lv' := [(0, .ref (za Y8 t0))]) (by simp only [hx8.a ha6, hx8.a h0]) ?_
  have ha6 := hx8.T ha6
  have h0 := hx8.T h0
  have hx := hx.tr hx8
  refine z_putrF hG f_X6_23 hinit h0 rfl rfl rfl (Or.inl ⟨_, rfl⟩) rfl (by decide) ha6 dX6_init_25 ?_
  refine z_topσ (fun σ10 eσ10 => ?_)
  have hw := hw σ10 eσ10
  refine z_aload_n hG dX6_init_28 rfl 0 rfl ?_
  refine z_new hG ck_0 kc_X6_20 kn_0 ki_0 nw_0 (show 69 + 1 ≤ 136 from by omega) (show 27096 + 4 ≤ 53190 from by omega) dX6_init_29 (fun Y11 a11 ea11 hx11 eSa11 ha11 => ?_)
  have hw := hw a11 ea11 (zsp Y11) eSa11
  refine zwiden (k := 70) (n := 27100) (show 69 + 1 ≤ 70 from by omega) (show 27096 + 4 ≤ 27100 from by omega) ?_
  refine z_topσ (fun σ12 eσ12 => ?_)
  have hw := hw σ12 eσ12
  refine zst (st' := [.ref (za Y11 a11), .ref (za Y11 t0)]) (by simp only [hx11.a h0]) ?_
  refine zlv (lv' := [(0, .ref (za Y11 t0))]) (by simp only [hx11.a h0]) ?_
  have h0 := hx11.T h0
  have hx := hx.tr hx11
  refine z_dup hG dX6_init_32 rfl ?_
  refine z_callAv hG (z_runI (As := []) (st := [.ref (za Y11 a11), .ref (za Y11 t0)]) hG k_X6_22 (MX0_init l ha11 hw) ⟨(Nat.le_of_ble_eq_true rfl), (Nat.le_of_ble_eq_true rfl)⟩ rfl (Nat.le_of_ble_eq_true rfl) dX6_init_33 ⟨show 70 + 66 ≤ 136 from by omega, show 27100 + 26090 ≤ 53190 from by omega⟩ rfl) (fun Y13 σ13 hx13 hw => ?_)
  refine zwiden (k := 136) (n := 53190) (show 70 + 66 ≤ 136 from by omega) (show 27100 + 26090 ≤ 53190 from by omega) ?_
  refine zst (st' := [.ref (za Y13 a11), .ref (za Y13 t0)]) (by simp only [hx13.a ha11, hx13.a h0]) ?_
  refine zlv (lv' := [(0, .ref (za Y13 t0))]) (by simp only [hx13.a ha11, hx13.a h0]) ?_
  have ha11 := hx13.T ha11
  have h0 := hx13.T h0
  have hx := hx.tr hx13
  refine z_putrF hG f_X6_27 hinit h0 rfl rfl rfl (Or.inl ⟨_, rfl⟩) rfl (by decide) ha11 dX6_init_36 ?_
  refine z_topσ (fun σ15 eσ15 => ?_)
  have hw := hw σ15 eσ15
  refine z_aload_n hG dX6_init_39 rfl 0 rfl ?_
  refine z_callv hG (z_runV (As := []) (st := []) hG k_X6_30 (MX6_reset l h0 hw) ⟨(Nat.le_of_ble_eq_true rfl), (Nat.le_of_ble_eq_true rfl)⟩ h0 (T := TX6) (N := 8) rfl (by decide) rfl (Nat.le_of_ble_eq_true rfl) dX6_init_40 ⟨show 136 + 0 ≤ 136 from by omega, show 53190 + 0 ≤ 53190 from by omega⟩ rfl) (fun σ16 hw => ?_)
  refine zwiden (k := 136) (n := 53190) (by omega) (by omega) ?_
  exact z_vretA hG hx rfl dX6_init_43 hw
-- TypeWheelTelegraph$Tokens.<init>(LTypeWheelTelegraph$Row;)V
def wX10_init (S : zSp) (σ : zS) (t0 : Nat) (t1 : Nat) (Q : zSp → zS → Prop) : Prop := ∀ σ1 : zS, σ1 = sr σ t0 2 (some t1) → Q S σ1
abbrev rX10_init : Room := { frames := 1, cells := 0, slots := 0, locals := 20 }
set_option maxRecDepth 100000 in
set_option maxHeartbeats 4000000 in
theorem MX10_init (l : Launch) {E : zE} {Y : zY} {σ : zS} {t0 : Nat} {t1 : Nat} (h0 : zT Y 10 t0) (h1 : zT Y 9 t1) {Q : zSp → zS → Prop} (hw : wX10_init (zsp Y) σ t0 t1 Q) : ∀ sz, Met l yX10_init (zw yX10_init cX10_init 2 none) rX10_init (zPc E Y σ sz [.ref (za Y t0), .ref (za Y t1)]) (va_Qv (fun (u : zY × zS) => Q (zsp u.1) u.2) (zBA E Y sz) (zA Y sz)) 0 0 (zA Y sz) := by
  refine z_met (own := RX10) (Qc := fun sz => va_Qv (fun (u : zY × zS) => Q (zsp u.1) u.2) (zBA E Y sz) (zA Y sz)) (by decide +kernel) rfl (Nat.le_of_ble_eq_true rfl) ?_
  intro p e s m args below meth c hG hinit
  unfold wX10_init at hw
  refine zlv (lv' := [(0, .ref (za Y t0)), (1, .ref (za Y t1))]) rfl ?_
  have hx : zext Y Y := zext.rf
  refine z_aload_n hG dX10_init_0 rfl 0 rfl ?_
  refine z_objInit hG k_X10_3 ko_i ko_c (Nat.le_of_ble_eq_true rfl) (Nat.le_of_ble_eq_true rfl) dX10_init_1 ?_
  refine z_aload_n hG dX10_init_4 rfl 0 rfl ?_
  refine z_aload_n hG dX10_init_5 rfl 1 rfl ?_
  refine z_putrF hG f_X10_9 hinit h0 rfl rfl rfl (Or.inl ⟨_, rfl⟩) rfl (by decide) h1 dX10_init_6 ?_
  refine z_topσ (fun σ1 eσ1 => ?_)
  have hw := hw σ1 eσ1
  refine zwiden (k := 0) (n := 0) (by omega) (by omega) ?_
  exact z_vretA hG hx rfl dX10_init_9 hw
-- TypeWheelTelegraph$Parser.<init>(LTypeWheelTelegraph$Row;)V
def wX5_init (S : zSp) (σ : zS) (t0 : Nat) (t1 : Nat) (Q : zSp → zS → Prop) : Prop := ∀ a1 : Nat, a1 = zSk S → ∀ S1 : zSp, S1 = zSpush S 10 0 → ∀ σ2 : zS, σ2 = zfresh σ a1 → wX10_init S1 σ2 a1 t1 (fun S3 σ3 => ∀ σ5 : zS, σ5 = sr σ3 t0 0 (some a1) → Q S3 σ5)
abbrev rX5_init : Room := { frames := 2, cells := 1, slots := 4, locals := 41 }
set_option maxRecDepth 100000 in
set_option maxHeartbeats 4000000 in
theorem MX5_init (l : Launch) {E : zE} {Y : zY} {σ : zS} {t0 : Nat} {t1 : Nat} (h0 : zT Y 5 t0) (h1 : zT Y 9 t1) {Q : zSp → zS → Prop} (hw : wX5_init (zsp Y) σ t0 t1 Q) : ∀ sz, Met l yX5_init (zw yX5_init cX5_init 2 none) rX5_init (zPc E Y σ sz [.ref (za Y t0), .ref (za Y t1)]) (va_Qv (fun (u : zY × zS) => Q (zsp u.1) u.2) (zBA E Y sz) (zA Y sz)) 1 4 (zA Y sz) := by
  refine z_met (own := RX5) (Qc := fun sz => va_Qv (fun (u : zY × zS) => Q (zsp u.1) u.2) (zBA E Y sz) (zA Y sz)) (by decide +kernel) rfl (Nat.le_of_ble_eq_true rfl) ?_
  intro p e s m args below meth c hG hinit
  unfold wX5_init at hw
  refine zlv (lv' := [(0, .ref (za Y t0)), (1, .ref (za Y t1))]) rfl ?_
  have hx : zext Y Y := zext.rf
  refine z_aload_n hG dX5_init_0 rfl 0 rfl ?_
  refine z_objInit hG k_X5_3 ko_i ko_c (Nat.le_of_ble_eq_true rfl) (Nat.le_of_ble_eq_true rfl) dX5_init_1 ?_
  refine z_aload_n hG dX5_init_4 rfl 0 rfl ?_
  refine z_new hG ck_10 kc_X5_9 kn_10 ki_10 nw_10 (show 0 + 1 ≤ 1 from by omega) (show 0 + 4 ≤ 4 from by omega) dX5_init_5 (fun Y1 a1 ea1 hx1 eSa1 ha1 => ?_)
  have hw := hw a1 ea1 (zsp Y1) eSa1
  refine zwiden (k := 1) (n := 4) (show 0 + 1 ≤ 1 from by omega) (show 0 + 4 ≤ 4 from by omega) ?_
  refine z_topσ (fun σ2 eσ2 => ?_)
  have hw := hw σ2 eσ2
  refine zst (st' := [.ref (za Y1 a1), .ref (za Y1 t0)]) (by simp only [hx1.a h0, hx1.a h1]) ?_
  refine zlv (lv' := [(0, .ref (za Y1 t0)), (1, .ref (za Y1 t1))]) (by simp only [hx1.a h0, hx1.a h1]) ?_
  have h0 := hx1.T h0
  have h1 := hx1.T h1
  have hx := hx.tr hx1
  refine z_dup hG dX5_init_8 rfl ?_
  refine z_aload_n hG dX5_init_9 rfl 1 rfl ?_
  refine z_callAv hG (z_runI (As := [.ref (za Y1 t1)]) (st := [.ref (za Y1 a1), .ref (za Y1 t0)]) hG k_X5_11 (MX10_init l ha1 h1 hw) ⟨(Nat.le_of_ble_eq_true rfl), (Nat.le_of_ble_eq_true rfl)⟩ rfl (Nat.le_of_ble_eq_true rfl) dX5_init_10 ⟨show 1 + 0 ≤ 1 from by omega, show 4 + 0 ≤ 4 from by omega⟩ rfl) (fun Y3 σ3 hx3 hw => ?_)
  refine zwiden (k := 1) (n := 4) (show 1 + 0 ≤ 1 from by omega) (show 4 + 0 ≤ 4 from by omega) ?_
  refine zst (st' := [.ref (za Y3 a1), .ref (za Y3 t0)]) (by simp only [hx3.a ha1, hx3.a h0, hx3.a h1]) ?_
  refine zlv (lv' := [(0, .ref (za Y3 t0)), (1, .ref (za Y3 t1))]) (by simp only [hx3.a ha1, hx3.a h0, hx3.a h1]) ?_
  have ha1 := hx3.T ha1
  have h0 := hx3.T h0
  have h1 := hx3.T h1
  have hx := hx.tr hx3
  refine z_putrF hG f_X5_14 hinit h0 rfl rfl rfl (Or.inl ⟨_, rfl⟩) rfl (by decide) ha1 dX5_init_13 ?_
  refine z_topσ (fun σ5 eσ5 => ?_)
  have hw := hw σ5 eσ5
  refine zwiden (k := 1) (n := 4) (by omega) (by omega) ?_
  exact z_vretA hG hx rfl dX5_init_16 hw
-- TypeWheelTelegraph$Office.<init>()V
def wX4_init (S : zSp) (σ : zS) (t0 : Nat) (Q : zSp → zS → Prop) : Prop := ∀ a1 : Nat, a1 = zSk S → ∀ S1 : zSp, S1 = zSpush S 9 0 → ∀ σ2 : zS, σ2 = zfresh σ a1 → wX9_init S1 σ2 a1 1000 (fun S3 σ3 => ∀ σ5 : zS, σ5 = sr σ3 t0 7 (some a1) → Q S3 σ5)
abbrev rX4_init : Room := { frames := 2, cells := 2, slots := 1002, locals := 42 }
set_option maxRecDepth 100000 in
set_option maxHeartbeats 4000000 in
theorem MX4_init (l : Launch) {E : zE} {Y : zY} {σ : zS} {t0 : Nat} (h0 : zT Y 4 t0) {Q : zSp → zS → Prop} (hw : wX4_init (zsp Y) σ t0 Q) : ∀ sz, Met l yX4_init (zw yX4_init cX4_init 1 none) rX4_init (zPc E Y σ sz [.ref (za Y t0)]) (va_Qv (fun (u : zY × zS) => Q (zsp u.1) u.2) (zBA E Y sz) (zA Y sz)) 2 1002 (zA Y sz) := by
  refine z_met (own := RX4) (Qc := fun sz => va_Qv (fun (u : zY × zS) => Q (zsp u.1) u.2) (zBA E Y sz) (zA Y sz)) (by decide +kernel) rfl (Nat.le_of_ble_eq_true rfl) ?_
  intro p e s m args below meth c hG hinit
  unfold wX4_init at hw
  refine zlv (lv' := [(0, .ref (za Y t0))]) rfl ?_
  have hx : zext Y Y := zext.rf
  refine z_aload_n hG dX4_init_0 rfl 0 rfl ?_
  refine z_objInit hG k_X4_3 ko_i ko_c (Nat.le_of_ble_eq_true rfl) (Nat.le_of_ble_eq_true rfl) dX4_init_1 ?_
  refine z_aload_n hG dX4_init_4 rfl 0 rfl ?_
  refine z_new hG ck_9 kc_X4_9 kn_9 ki_9 nw_9 (show 0 + 1 ≤ 2 from by omega) (show 0 + 2 ≤ 1002 from by omega) dX4_init_5 (fun Y1 a1 ea1 hx1 eSa1 ha1 => ?_)
  have hw := hw a1 ea1 (zsp Y1) eSa1
  refine zwiden (k := 1) (n := 2) (show 0 + 1 ≤ 1 from by omega) (show 0 + 2 ≤ 2 from by omega) ?_
  refine z_topσ (fun σ2 eσ2 => ?_)
  have hw := hw σ2 eσ2
  refine zst (st' := [.ref (za Y1 a1), .ref (za Y1 t0)]) (by simp only [hx1.a h0]) ?_
  refine zlv (lv' := [(0, .ref (za Y1 t0))]) (by simp only [hx1.a h0]) ?_
  have h0 := hx1.T h0
  have hx := hx.tr hx1
  refine z_dup hG dX4_init_8 rfl ?_
  refine z_sipush (v := 1000) hG dX4_init_9 (by decide) ?_
  refine z_callAv hG (z_runI (As := [.int 1000]) (st := [.ref (za Y1 a1), .ref (za Y1 t0)]) hG k_X4_13 (MX9_init l ha1 hw) ⟨(Nat.le_of_ble_eq_true rfl), (Nat.le_of_ble_eq_true rfl)⟩ rfl (Nat.le_of_ble_eq_true rfl) dX4_init_12 ⟨show 1 + 1 ≤ 2 from by omega, show 2 + 1000 ≤ 1002 from by omega⟩ rfl) (fun Y3 σ3 hx3 hw => ?_)
  refine zwiden (k := 2) (n := 1002) (show 1 + 1 ≤ 2 from by omega) (show 2 + 1000 ≤ 1002 from by omega) ?_
  refine zst (st' := [.ref (za Y3 a1), .ref (za Y3 t0)]) (by simp only [hx3.a ha1, hx3.a h0]) ?_
  refine zlv (lv' := [(0, .ref (za Y3 t0))]) (by simp only [hx3.a ha1, hx3.a h0]) ?_
  have ha1 := hx3.T ha1
  have h0 := hx3.T h0
  have hx := hx.tr hx3
  refine z_putrF hG f_X4_16 hinit h0 rfl rfl rfl (Or.inl ⟨_, rfl⟩) rfl (by decide) ha1 dX4_init_15 ?_
  refine z_topσ (fun σ5 eσ5 => ?_)
  have hw := hw σ5 eσ5
  refine zwiden (k := 2) (n := 1002) (by omega) (by omega) ?_
  exact z_vretA hG hx rfl dX4_init_18 hw
-- TypeWheelTelegraph$Receiver.<init>()V
def wX7_init (S : zSp) (σ : zS) (t0 : Nat) (Q : zSp → zS → Prop) : Prop := ∀ a1 : Nat, a1 = zSk S → ∀ S1 : zSp, S1 = zSpush S 9 0 → ∀ σ2 : zS, σ2 = zfresh σ a1 → wX9_init S1 σ2 a1 40 (fun S3 σ3 => ∀ σ5 : zS, σ5 = sr σ3 t0 0 (some a1) → Q S3 σ5)
abbrev rX7_init : Room := { frames := 2, cells := 2, slots := 1002, locals := 42 }
set_option maxRecDepth 100000 in
set_option maxHeartbeats 4000000 in
theorem MX7_init (l : Launch) {E : zE} {Y : zY} {σ : zS} {t0 : Nat} (h0 : zT Y 7 t0) {Q : zSp → zS → Prop} (hw : wX7_init (zsp Y) σ t0 Q) : ∀ sz, Met l yX7_init (zw yX7_init cX7_init 1 none) rX7_init (zPc E Y σ sz [.ref (za Y t0)]) (va_Qv (fun (u : zY × zS) => Q (zsp u.1) u.2) (zBA E Y sz) (zA Y sz)) 2 1002 (zA Y sz) := by
  refine z_met (own := RX7) (Qc := fun sz => va_Qv (fun (u : zY × zS) => Q (zsp u.1) u.2) (zBA E Y sz) (zA Y sz)) (by decide +kernel) rfl (Nat.le_of_ble_eq_true rfl) ?_
  intro p e s m args below meth c hG hinit
  unfold wX7_init at hw
  refine zlv (lv' := [(0, .ref (za Y t0))]) rfl ?_
  have hx : zext Y Y := zext.rf
  refine z_aload_n hG dX7_init_0 rfl 0 rfl ?_
  refine z_objInit hG k_X7_3 ko_i ko_c (Nat.le_of_ble_eq_true rfl) (Nat.le_of_ble_eq_true rfl) dX7_init_1 ?_
  refine z_aload_n hG dX7_init_4 rfl 0 rfl ?_
  refine z_new hG ck_9 kc_X7_9 kn_9 ki_9 nw_9 (show 0 + 1 ≤ 2 from by omega) (show 0 + 2 ≤ 1002 from by omega) dX7_init_5 (fun Y1 a1 ea1 hx1 eSa1 ha1 => ?_)
  have hw := hw a1 ea1 (zsp Y1) eSa1
  refine zwiden (k := 1) (n := 2) (show 0 + 1 ≤ 1 from by omega) (show 0 + 2 ≤ 2 from by omega) ?_
  refine z_topσ (fun σ2 eσ2 => ?_)
  have hw := hw σ2 eσ2
  refine zst (st' := [.ref (za Y1 a1), .ref (za Y1 t0)]) (by simp only [hx1.a h0]) ?_
  refine zlv (lv' := [(0, .ref (za Y1 t0))]) (by simp only [hx1.a h0]) ?_
  have h0 := hx1.T h0
  have hx := hx.tr hx1
  refine z_dup hG dX7_init_8 rfl ?_
  refine z_bipush (v := 40) hG dX7_init_9 (by decide) ?_
  refine z_callAv hG (z_runI (As := [.int 40]) (st := [.ref (za Y1 a1), .ref (za Y1 t0)]) hG k_X7_13 (MX9_init l ha1 hw) ⟨(Nat.le_of_ble_eq_true rfl), (Nat.le_of_ble_eq_true rfl)⟩ rfl (Nat.le_of_ble_eq_true rfl) dX7_init_11 ⟨show 1 + 1 ≤ 2 from by omega, show 2 + 1000 ≤ 1002 from by omega⟩ rfl) (fun Y3 σ3 hx3 hw => ?_)
  refine zwiden (k := 2) (n := 1002) (show 1 + 1 ≤ 2 from by omega) (show 2 + 1000 ≤ 1002 from by omega) ?_
  refine zst (st' := [.ref (za Y3 a1), .ref (za Y3 t0)]) (by simp only [hx3.a ha1, hx3.a h0]) ?_
  refine zlv (lv' := [(0, .ref (za Y3 t0))]) (by simp only [hx3.a ha1, hx3.a h0]) ?_
  have ha1 := hx3.T ha1
  have h0 := hx3.T h0
  have hx := hx.tr hx3
  refine z_putrF hG f_X7_16 hinit h0 rfl rfl rfl (Or.inl ⟨_, rfl⟩) rfl (by decide) ha1 dX7_init_14 ?_
  refine z_topσ (fun σ5 eσ5 => ?_)
  have hw := hw σ5 eσ5
  refine zwiden (k := 2) (n := 1002) (by omega) (by omega) ?_
  exact z_vretA hG hx rfl dX7_init_17 hw
-- TypeWheelTelegraph$Machine.<init>(LTypeWheelTelegraph$Plan;)V
def wX3_init (S : zSp) (σ : zS) (t0 : Nat) (t1 : Nat) (Q : zSp → zS → Prop) : Prop := ∀ σ1 : zS, σ1 = si σ t0 3 (-1) → ∀ a2 : Nat, a2 = zSk S → ∀ S2 : zSp, S2 = zSpush S 4 0 → ∀ σ3 : zS, σ3 = zfresh σ1 a2 → wX4_init S2 σ3 a2 (fun S4 σ4 => ∀ σ6 : zS, σ6 = sr σ4 t0 11 (some a2) → ∀ a7 : Nat, a7 = zSk S4 → ∀ S7 : zSp, S7 = zSpush S4 4 0 → ∀ σ8 : zS, σ8 = zfresh σ6 a7 → wX4_init S7 σ8 a7 (fun S9 σ9 => ∀ σ11 : zS, σ11 = sr σ9 t0 12 (some a7) → ∀ a12 : Nat, a12 = zSk S9 → ∀ S12 : zSp, S12 = zSpush S9 7 0 → ∀ σ13 : zS, σ13 = zfresh σ11 a12 → wX7_init S12 σ13 a12 (fun S14 σ14 => ∀ σ16 : zS, σ16 = sr σ14 t0 13 (some a12) → ∀ a17 : Nat, a17 = zSk S14 → ∀ S17 : zSp, S17 = zSpush S14 8 0 → ∀ σ18 : zS, σ18 = zfresh σ16 a17 → wX8_init S17 σ18 a17 640 (fun S19 σ19 => ∀ σ21 : zS, σ21 = sr σ19 t0 14 (some a17) → ∀ a22 : Nat, a22 = zSk S19 → ∀ S22 : zSp, S22 = zSpush S19 8 0 → ∀ σ23 : zS, σ23 = zfresh σ21 a22 → wX8_init S22 σ23 a22 40 (fun S24 σ24 => ∀ σ26 : zS, σ26 = sr σ24 t0 15 (some a22) → ∀ a27 : Nat, a27 = zSk S24 → ∀ S27 : zSp, S27 = zSpush S24 9 0 → ∀ σ28 : zS, σ28 = zfresh σ26 a27 → wX9_init S27 σ28 a27 20 (fun S29 σ29 => ∀ σ31 : zS, σ31 = sr σ29 t0 16 (some a27) → wX3_begin (zSl S29) σ31 t0 t1 (fun σ32 => Q S29 σ32)))))))
abbrev rX3_init : Room := { frames := 4, cells := 15, slots := 8036, locals := 90 }
set_option maxRecDepth 100000 in
set_option maxHeartbeats 4000000 in
theorem MX3_init (l : Launch) {E : zE} {Y : zY} {σ : zS} {t0 : Nat} {t1 : Nat} (h0 : zT Y 3 t0) (h1 : zT Y 6 t1) {Q : zSp → zS → Prop} (hw : wX3_init (zsp Y) σ t0 t1 Q) : ∀ sz, Met l yX3_init (zw yX3_init cX3_init 2 none) rX3_init (zPc E Y σ sz [.ref (za Y t0), .ref (za Y t1)]) (va_Qv (fun (u : zY × zS) => Q (zsp u.1) u.2) (zBA E Y sz) (zA Y sz)) 15 8036 (zA Y sz) := by
  refine z_met (own := RX3) (Qc := fun sz => va_Qv (fun (u : zY × zS) => Q (zsp u.1) u.2) (zBA E Y sz) (zA Y sz)) (by decide +kernel) rfl (Nat.le_of_ble_eq_true rfl) ?_
  intro p e s m args below meth c hG hinit
  unfold wX3_init at hw
  refine zlv (lv' := [(0, .ref (za Y t0)), (1, .ref (za Y t1))]) rfl ?_
  have hx : zext Y Y := zext.rf
  refine z_aload_n hG dX3_init_0 rfl 0 rfl ?_
  refine z_objInit hG k_X3_3 ko_i ko_c (Nat.le_of_ble_eq_true rfl) (Nat.le_of_ble_eq_true rfl) dX3_init_1 ?_
  refine z_aload_n hG dX3_init_4 rfl 0 rfl ?_
  refine z_iconst (v := (-1)) hG dX3_init_5 (by decide) ?_
  refine z_puti hG f_X3_9 h0 rfl rfl (zN_int _) dX3_init_6 ?_
  refine z_topσ (fun σ1 eσ1 => ?_)
  have hw := hw σ1 eσ1
  refine z_aload_n hG dX3_init_9 rfl 0 rfl ?_
  refine z_new hG ck_4 kc_X3_15 kn_4 ki_4 nw_4 (show 0 + 1 ≤ 15 from by omega) (show 0 + 8 ≤ 8036 from by omega) dX3_init_10 (fun Y2 a2 ea2 hx2 eSa2 ha2 => ?_)
  have hw := hw a2 ea2 (zsp Y2) eSa2
  refine zwiden (k := 1) (n := 8) (show 0 + 1 ≤ 1 from by omega) (show 0 + 8 ≤ 8 from by omega) ?_
  refine z_topσ (fun σ3 eσ3 => ?_)
  have hw := hw σ3 eσ3
  refine zst (st' := [.ref (za Y2 a2), .ref (za Y2 t0)]) (by simp only [hx2.a h0, hx2.a h1]) ?_
  refine zlv (lv' := [(0, .ref (za Y2 t0)), (1, .ref (za Y2 t1))]) (by simp only [hx2.a h0, hx2.a h1]) ?_
  have h0 := hx2.T h0
  have h1 := hx2.T h1
  have hx := hx.tr hx2
  refine z_dup hG dX3_init_13 rfl ?_
  refine z_callAv hG (z_runIN (As := []) (st := [.ref (za Y2 a2), .ref (za Y2 t0)]) hG k_X3_17 (MX4_init l ha2 hw) ⟨(Nat.le_of_ble_eq_true rfl), (Nat.le_of_ble_eq_true rfl)⟩ rfl (Nat.le_of_ble_eq_true rfl) dX3_init_14 ⟨show 1 + 2 ≤ 15 from by omega, show 8 + 1002 ≤ 8036 from by omega⟩ rfl) (fun Y4 σ4 hx4 hw => ?_)
  refine zwiden (k := 3) (n := 1010) (show 1 + 2 ≤ 3 from by omega) (show 8 + 1002 ≤ 1010 from by omega) ?_
  refine zst (st' := [.ref (za Y4 a2), .ref (za Y4 t0)]) (by simp only [hx4.a ha2, hx4.a h0, hx4.a h1]) ?_
  refine zlv (lv' := [(0, .ref (za Y4 t0)), (1, .ref (za Y4 t1))]) (by simp only [hx4.a ha2, hx4.a h0, hx4.a h1]) ?_
  have ha2 := hx4.T ha2
  have h0 := hx4.T h0
  have h1 := hx4.T h1
  have hx := hx.tr hx4
  refine z_putrF hG f_X3_18 hinit h0 rfl rfl rfl (Or.inl ⟨_, rfl⟩) rfl (by decide) ha2 dX3_init_17 ?_
  refine z_topσ (fun σ6 eσ6 => ?_)
  have hw := hw σ6 eσ6
  refine z_aload_n hG dX3_init_20 rfl 0 rfl ?_
  refine z_new hG ck_4 kc_X3_15 kn_4 ki_4 nw_4 (show 3 + 1 ≤ 15 from by omega) (show 1010 + 8 ≤ 8036 from by omega) dX3_init_21 (fun Y7 a7 ea7 hx7 eSa7 ha7 => ?_)
  have hw := hw a7 ea7 (zsp Y7) eSa7
  refine zwiden (k := 4) (n := 1018) (show 3 + 1 ≤ 4 from by omega) (show 1010 + 8 ≤ 1018 from by omega) ?_
  refine z_topσ (fun σ8 eσ8 => ?_)
  have hw := hw σ8 eσ8
  refine zst (st' := [.ref (za Y7 a7), .ref (za Y7 t0)]) (by simp only [hx7.a h0, hx7.a h1]) ?_
  refine zlv (lv' := [(0, .ref (za Y7 t0)), (1, .ref (za Y7 t1))]) (by simp only [hx7.a h0, hx7.a h1]) ?_
  have h0 := hx7.T h0
  have h1 := hx7.T h1
  have hx := hx.tr hx7
  refine z_dup hG dX3_init_24 rfl ?_
  refine z_callAv hG (z_runIN (As := []) (st := [.ref (za Y7 a7), .ref (za Y7 t0)]) hG k_X3_17 (MX4_init l ha7 hw) ⟨(Nat.le_of_ble_eq_true rfl), (Nat.le_of_ble_eq_true rfl)⟩ rfl (Nat.le_of_ble_eq_true rfl) dX3_init_25 ⟨show 4 + 2 ≤ 15 from by omega, show 1018 + 1002 ≤ 8036 from by omega⟩ rfl) (fun Y9 σ9 hx9 hw => ?_)
  refine zwiden (k := 6) (n := 2020) (show 4 + 2 ≤ 6 from by omega) (show 1018 + 1002 ≤ 2020 from by omega) ?_
  refine zst (st' := [.ref (za Y9 a7), .ref (za Y9 t0)]) (by simp only [hx9.a ha7, hx9.a h0, hx9.a h1]) ?_
  refine zlv (lv' := [(0, .ref (za Y9 t0)), (1, .ref (za Y9 t1))]) (by simp only [hx9.a ha7, hx9.a h0, hx9.a h1]) ?_
  have ha7 := hx9.T ha7
  have h0 := hx9.T h0
  have h1 := hx9.T h1
  have hx := hx.tr hx9
  refine z_putrF hG f_X3_22 hinit h0 rfl rfl rfl (Or.inl ⟨_, rfl⟩) rfl (by decide) ha7 dX3_init_28 ?_
  refine z_topσ (fun σ11 eσ11 => ?_)
  have hw := hw σ11 eσ11
  refine z_aload_n hG dX3_init_31 rfl 0 rfl ?_
  refine z_new hG ck_7 kc_X3_25 kn_7 ki_7 nw_7 (show 6 + 1 ≤ 15 from by omega) (show 2020 + 4 ≤ 8036 from by omega) dX3_init_32 (fun Y12 a12 ea12 hx12 eSa12 ha12 => ?_)
  have hw := hw a12 ea12 (zsp Y12) eSa12
  refine zwiden (k := 7) (n := 2024) (show 6 + 1 ≤ 7 from by omega) (show 2020 + 4 ≤ 2024 from by omega) ?_
  refine z_topσ (fun σ13 eσ13 => ?_)
  have hw := hw σ13 eσ13
  refine zst (st' := [.ref (za Y12 a12), .ref (za Y12 t0)]) (by simp only [hx12.a h0, hx12.a h1]) ?_
  refine zlv (lv' := [(0, .ref (za Y12 t0)), (1, .ref (za Y12 t1))]) (by simp only [hx12.a h0, hx12.a h1]) ?_
  have h0 := hx12.T h0
  have h1 := hx12.T h1
  have hx := hx.tr hx12
  refine z_dup hG dX3_init_35 rfl ?_
  refine z_callAv hG (z_runIN (As := []) (st := [.ref (za Y12 a12), .ref (za Y12 t0)]) hG k_X3_27 (MX7_init l ha12 hw) ⟨(Nat.le_of_ble_eq_true rfl), (Nat.le_of_ble_eq_true rfl)⟩ rfl (Nat.le_of_ble_eq_true rfl) dX3_init_36 ⟨show 7 + 2 ≤ 15 from by omega, show 2024 + 1002 ≤ 8036 from by omega⟩ rfl) (fun Y14 σ14 hx14 hw => ?_)
  refine zwiden (k := 9) (n := 3026) (show 7 + 2 ≤ 9 from by omega) (show 2024 + 1002 ≤ 3026 from by omega) ?_
  refine zst (st' := [.ref (za Y14 a12), .ref (za Y14 t0)]) (by simp only [hx14.a ha12, hx14.a h0, hx14.a h1]) ?_
  refine zlv (lv' := [(0, .ref (za Y14 t0)), (1, .ref (za Y14 t1))]) (by simp only [hx14.a ha12, hx14.a h0, hx14.a h1]) ?_
  have ha12 := hx14.T ha12
  have h0 := hx14.T h0
  have h1 := hx14.T h1
  have hx := hx.tr hx14
  refine z_putrF hG f_X3_28 hinit h0 rfl rfl rfl (Or.inl ⟨_, rfl⟩) rfl (by decide) ha12 dX3_init_39 ?_
  refine z_topσ (fun σ16 eσ16 => ?_)
  have hw := hw σ16 eσ16
  refine z_aload_n hG dX3_init_42 rfl 0 rfl ?_
  refine z_new hG ck_8 kc_X3_32 kn_8 ki_8 nw_8 (show 9 + 1 ≤ 15 from by omega) (show 3026 + 4 ≤ 8036 from by omega) dX3_init_43 (fun Y17 a17 ea17 hx17 eSa17 ha17 => ?_)
  have hw := hw a17 ea17 (zsp Y17) eSa17
  refine zwiden (k := 10) (n := 3030) (show 9 + 1 ≤ 10 from by omega) (show 3026 + 4 ≤ 3030 from by omega) ?_
  refine z_topσ (fun σ18 eσ18 => ?_)
  have hw := hw σ18 eσ18
  refine zst (st' := [.ref (za Y17 a17), .ref (za Y17 t0)]) (by simp only [hx17.a h0, hx17.a h1]) ?_
  refine zlv (lv' := [(0, .ref (za Y17 t0)), (1, .ref (za Y17 t1))]) (by simp only [hx17.a h0, hx17.a h1]) ?_
  have h0 := hx17.T h0
  have h1 := hx17.T h1
  have hx := hx.tr hx17
  refine z_dup hG dX3_init_46 rfl ?_
  refine z_sipush (v := 640) hG dX3_init_47 (by decide) ?_
  refine z_callAv hG (z_runI (As := [.int 640]) (st := [.ref (za Y17 a17), .ref (za Y17 t0)]) hG k_X3_34 (MX8_init l ha17 hw) ⟨(Nat.le_of_ble_eq_true rfl), (Nat.le_of_ble_eq_true rfl)⟩ rfl (Nat.le_of_ble_eq_true rfl) dX3_init_50 ⟨show 10 + 1 ≤ 15 from by omega, show 3030 + 2000 ≤ 8036 from by omega⟩ rfl) (fun Y19 σ19 hx19 hw => ?_)
  refine zwiden (k := 11) (n := 5030) (show 10 + 1 ≤ 11 from by omega) (show 3030 + 2000 ≤ 5030 from by omega) ?_
  refine zst (st' := [.ref (za Y19 a17), .ref (za Y19 t0)]) (by simp only [hx19.a ha17, hx19.a h0, hx19.a h1]) ?_
  refine zlv (lv' := [(0, .ref (za Y19 t0)), (1, .ref (za Y19 t1))]) (by simp only [hx19.a ha17, hx19.a h0, hx19.a h1]) ?_
  have ha17 := hx19.T ha17
  have h0 := hx19.T h0
  have h1 := hx19.T h1
  have hx := hx.tr hx19
  refine z_putrF hG f_X3_37 hinit h0 rfl rfl rfl (Or.inl ⟨_, rfl⟩) rfl (by decide) ha17 dX3_init_53 ?_
  refine z_topσ (fun σ21 eσ21 => ?_)
  have hw := hw σ21 eσ21
  refine z_aload_n hG dX3_init_56 rfl 0 rfl ?_
  refine z_new hG ck_8 kc_X3_32 kn_8 ki_8 nw_8 (show 11 + 1 ≤ 15 from by omega) (show 5030 + 4 ≤ 8036 from by omega) dX3_init_57 (fun Y22 a22 ea22 hx22 eSa22 ha22 => ?_)
  have hw := hw a22 ea22 (zsp Y22) eSa22
  refine zwiden (k := 12) (n := 5034) (show 11 + 1 ≤ 12 from by omega) (show 5030 + 4 ≤ 5034 from by omega) ?_
  refine z_topσ (fun σ23 eσ23 => ?_)
  have hw := hw σ23 eσ23
  refine zst (st' := [.ref (za Y22 a22), .ref (za Y22 t0)]) (by simp only [hx22.a h0, hx22.a h1]) ?_
  refine zlv (lv' := [(0, .ref (za Y22 t0)), (1, .ref (za Y22 t1))]) (by simp only [hx22.a h0, hx22.a h1]) ?_
  have h0 := hx22.T h0
  have h1 := hx22.T h1
  have hx := hx.tr hx22
  refine z_dup hG dX3_init_60 rfl ?_
  refine z_bipush (v := 40) hG dX3_init_61 (by decide) ?_
  refine z_callAv hG (z_runI (As := [.int 40]) (st := [.ref (za Y22 a22), .ref (za Y22 t0)]) hG k_X3_34 (MX8_init l ha22 hw) ⟨(Nat.le_of_ble_eq_true rfl), (Nat.le_of_ble_eq_true rfl)⟩ rfl (Nat.le_of_ble_eq_true rfl) dX3_init_63 ⟨show 12 + 1 ≤ 15 from by omega, show 5034 + 2000 ≤ 8036 from by omega⟩ rfl) (fun Y24 σ24 hx24 hw => ?_)
  refine zwiden (k := 13) (n := 7034) (show 12 + 1 ≤ 13 from by omega) (show 5034 + 2000 ≤ 7034 from by omega) ?_
  refine zst (st' := [.ref (za Y24 a22), .ref (za Y24 t0)]) (by simp only [hx24.a ha22, hx24.a h0, hx24.a h1]) ?_
  refine zlv (lv' := [(0, .ref (za Y24 t0)), (1, .ref (za Y24 t1))]) (by simp only [hx24.a ha22, hx24.a h0, hx24.a h1]) ?_
  have ha22 := hx24.T ha22
  have h0 := hx24.T h0
  have h1 := hx24.T h1
  have hx := hx.tr hx24
  refine z_putrF hG f_X3_41 hinit h0 rfl rfl rfl (Or.inl ⟨_, rfl⟩) rfl (by decide) ha22 dX3_init_66 ?_
  refine z_topσ (fun σ26 eσ26 => ?_)
  have hw := hw σ26 eσ26
  refine z_aload_n hG dX3_init_69 rfl 0 rfl ?_
  refine z_new hG ck_9 kc_X3_44 kn_9 ki_9 nw_9 (show 13 + 1 ≤ 15 from by omega) (show 7034 + 2 ≤ 8036 from by omega) dX3_init_70 (fun Y27 a27 ea27 hx27 eSa27 ha27 => ?_)
  have hw := hw a27 ea27 (zsp Y27) eSa27
  refine zwiden (k := 14) (n := 7036) (show 13 + 1 ≤ 14 from by omega) (show 7034 + 2 ≤ 7036 from by omega) ?_
  refine z_topσ (fun σ28 eσ28 => ?_)
  have hw := hw σ28 eσ28
  refine zst (st' := [.ref (za Y27 a27), .ref (za Y27 t0)]) (by simp only [hx27.a h0, hx27.a h1]) ?_
  refine zlv (lv' := [(0, .ref (za Y27 t0)), (1, .ref (za Y27 t1))]) (by simp only [hx27.a h0, hx27.a h1]) ?_
  have h0 := hx27.T h0
  have h1 := hx27.T h1
  have hx := hx.tr hx27
  refine z_dup hG dX3_init_73 rfl ?_
  refine z_bipush (v := 20) hG dX3_init_74 (by decide) ?_
  refine z_callAv hG (z_runI (As := [.int 20]) (st := [.ref (za Y27 a27), .ref (za Y27 t0)]) hG k_X3_46 (MX9_init l ha27 hw) ⟨(Nat.le_of_ble_eq_true rfl), (Nat.le_of_ble_eq_true rfl)⟩ rfl (Nat.le_of_ble_eq_true rfl) dX3_init_76 ⟨show 14 + 1 ≤ 15 from by omega, show 7036 + 1000 ≤ 8036 from by omega⟩ rfl) (fun Y29 σ29 hx29 hw => ?_)
  refine zwiden (k := 15) (n := 8036) (show 14 + 1 ≤ 15 from by omega) (show 7036 + 1000 ≤ 8036 from by omega) ?_
  refine zst (st' := [.ref (za Y29 a27), .ref (za Y29 t0)]) (by simp only [hx29.a ha27, hx29.a h0, hx29.a h1]) ?_
  refine zlv (lv' := [(0, .ref (za Y29 t0)), (1, .ref (za Y29 t1))]) (by simp only [hx29.a ha27, hx29.a h0, hx29.a h1]) ?_
  have ha27 := hx29.T ha27
  have h0 := hx29.T h0
  have h1 := hx29.T h1
  have hx := hx.tr hx29
  refine z_putrF hG f_X3_47 hinit h0 rfl rfl rfl (Or.inl ⟨_, rfl⟩) rfl (by decide) ha27 dX3_init_79 ?_
  refine z_topσ (fun σ31 eσ31 => ?_)
  have hw := hw σ31 eσ31
  refine z_aload_n hG dX3_init_82 rfl 0 rfl ?_
  refine z_aload_n hG dX3_init_83 rfl 1 rfl ?_
  refine z_callv hG (z_runV (As := [.ref (za Y29 t1)]) (st := []) hG k_X3_51 (MX3_begin l h0 h1 hw) ⟨(Nat.le_of_ble_eq_true rfl), (Nat.le_of_ble_eq_true rfl)⟩ h0 (T := TX3) (N := 17) rfl (by decide) rfl (Nat.le_of_ble_eq_true rfl) dX3_init_84 ⟨show 15 + 0 ≤ 15 from by omega, show 8036 + 0 ≤ 8036 from by omega⟩ rfl) (fun σ32 hw => ?_)
  refine zwiden (k := 15) (n := 8036) (by omega) (by omega) ?_
  exact z_vretA hG hx rfl dX3_init_87 hw
-- TypeWheelTelegraph$History.<init>(LTypeWheelTelegraph$Plan;)V
def wX1_init_15 (Q : zSp → zS → Prop) : Nat → Nat → Nat → Int32 → zSp → zS → Prop
  | 0, _, _, _, _, _ => False
  | n + 1, t0, t1, v2, S, σ => ∃ j1 : Nat, gr σ t0 0 = some j1 ∧ (((nI ((zSl S) j1)) ≤ v2 → Q S σ) ∧ (¬ (nI ((zSl S) j1)) ≤ v2 → ∃ j2 : Nat, gr σ t0 0 = some j2 ∧ ∀ a3 : Nat, a3 = zSk S → ∀ S3 : zSp, S3 = zSpush S 3 0 → ∀ σ4 : zS, σ4 = zfresh σ a3 → wX3_init S3 σ4 a3 t1 (fun S5 σ5 => vp_in v2 ((zSl S5) j2) ∧ ∀ σ8 : zS, σ8 = sr σ5 j2 v2.toNatClampNeg (some a3) → ∀ x9 : Int32, x9 = v2 + 1 → (wX1_init_15 Q n) t0 t1 x9 S5 σ8)))
def wX1_init (S : zSp) (σ : zS) (t0 : Nat) (t1 : Nat) (Q : zSp → zS → Prop) : Prop := ∀ a1 : Nat, a1 = zSk S → ∀ S1 : zSp, S1 = zSpush S 23 10 → ∀ σ2 : zS, σ2 = zfresh σ a1 → ∀ σ3 : zS, σ3 = sr σ2 t0 0 (some a1) → ∃ n4 : Nat, n4 ≤ 11 ∧ wX1_init_15 Q n4 t0 t1 0 S1 σ3
abbrev rX1_init : Room := { frames := 5, cells := 177, slots := 88593, locals := 111 }
set_option maxRecDepth 100000 in
set_option maxHeartbeats 4000000 in
theorem BX1_init_15 {l : Launch} {E : zE} {Y0 : zY} {p : Program} {e : Env} {s : State} {m : MethodId} {args : Array Value} {below : List Frame} {meth : Method} {c : Code} (hG : zG E p l s m args meth c cX1_init 3 RX1 none (zA Y0 s.heap.size)) (hinit : meth.name = "<init>") {Q : zSp → zS → Prop} : ∀ (n : Nat) (t0 : Nat) (t1 : Nat) (v2 : Int32) (Y : zY) (σ : zS) (cl sl : Nat), wX1_init_15 Q n t0 t1 v2 (zsp Y) σ → zext Y0 Y → zT Y 1 t0 → zT Y 6 t1 → cl + (n * 16 + 0) ≤ 177 → sl + (n * 8053 + 0) ≤ 88593 → WW E Y σ p l e rX1_init s m args below meth c (zA Y0 s.heap.size) 3 cl sl (MQ below (va_Qv (fun (u : zY × zS) => Q (zsp u.1) u.2) (zBA E Y0 s.heap.size) (zA Y0 s.heap.size)) args s 177 88593 (zA Y0 s.heap.size)) [(0, .ref (za Y t0)), (1, .ref (za Y t1)), (2, .int v2)] 15 [] := by
  intro n
  induction n with
  | zero => intro t0 t1 v2 Y σ cl sl hw
            exact hw.elim
  | succ n ih =>
    intro t0 t1 v2 Y σ cl sl hw hx h0 h1 hcl hsl
    rw [wX1_init_15] at hw
    refine z_iload_n hG dX1_init_15 rfl 2 rfl ?_
    refine z_aload_n hG dX1_init_16 rfl 0 rfl ?_
    obtain ⟨j1, ej1, hw⟩ := hw
    refine z_getr (kq := 23) hG f_X1_11 h0 rfl ej1 rfl (by decide) dX1_init_17 (fun hj1 => ?_)
    refine z_alen hG hj1 (by decide) (t0 := 3) rfl dX1_init_20 ?_
    refine z_icmp_ge (tgt := 44) hG dX1_init_21 (by decide) (fun c10 => ?_) (fun c10 => ?_)
    · have hw := hw.1 c10
      refine zwiden (k := 177) (n := 88593) (by omega) (by omega) ?_
      exact z_vretA hG hx rfl dX1_init_44 hw
    · have hw := hw.2 c10
      refine z_aload_n hG dX1_init_24 rfl 0 rfl ?_
      obtain ⟨j2, ej2, hw⟩ := hw
      refine z_getr (kq := 23) hG f_X1_11 h0 rfl ej2 rfl (by decide) dX1_init_25 (fun hj2 => ?_)
      refine z_iload_n hG dX1_init_28 rfl 2 rfl ?_
      refine z_new hG ck_3 kc_X1_9 kn_3 ki_3 nw_3 (show cl + 0 + 1 ≤ 177 from by omega) (show sl + 0 + 17 ≤ 88593 from by omega) dX1_init_29 (fun Y3 a3 ea3 hx3 eSa3 ha3 => ?_)
      have hw := hw a3 ea3 (zsp Y3) eSa3
      refine zwiden (k := cl + 1) (n := sl + 17) (show cl + 0 + 1 ≤ cl + 1 from by omega) (show sl + 0 + 17 ≤ sl + 17 from by omega) ?_
      refine z_topσ (fun σ4 eσ4 => ?_)
      have hw := hw σ4 eσ4
      refine zst (st' := [.ref (za Y3 a3), .int v2, .ref (za Y3 j2)]) (by simp only [hx3.a hj2, hx3.a h0, hx3.a h1]) ?_
      refine zlv (lv' := [(0, .ref (za Y3 t0)), (1, .ref (za Y3 t1)), (2, .int v2)]) (by simp only [hx3.a hj2, hx3.a h0, hx3.a h1]) ?_
      have hj2 := hx3.T hj2
      have h0 := hx3.T h0
      have h1 := hx3.T h1
      have hx := hx.tr hx3
      refine z_dup hG dX1_init_32 rfl ?_
      refine z_aload_n hG dX1_init_33 rfl 1 rfl ?_
      refine z_callAv hG (z_runI (As := [.ref (za Y3 t1)]) (st := [.ref (za Y3 a3), .int v2, .ref (za Y3 j2)]) hG k_X1_15 (MX3_init l ha3 h1 hw) ⟨(Nat.le_of_ble_eq_true rfl), (Nat.le_of_ble_eq_true rfl)⟩ rfl (Nat.le_of_ble_eq_true rfl) dX1_init_34 ⟨show cl + 1 + 15 ≤ 177 from by omega, show sl + 17 + 8036 ≤ 88593 from by omega⟩ rfl) (fun Y5 σ5 hx5 hw => ?_)
      refine zwiden (k := cl + 16) (n := sl + 8053) (show cl + 1 + 15 ≤ cl + 16 from by omega) (show sl + 17 + 8036 ≤ sl + 8053 from by omega) ?_
      refine zst (st' := [.ref (za Y5 a3), .int v2, .ref (za Y5 j2)]) (by simp only [hx5.a ha3, hx5.a hj2, hx5.a h0, hx5.a h1]) ?_
      refine zlv (lv' := [(0, .ref (za Y5 t0)), (1, .ref (za Y5 t1)), (2, .int v2)]) (by simp only [hx5.a ha3, hx5.a hj2, hx5.a h0, hx5.a h1]) ?_
      have ha3 := hx5.T ha3
      have hj2 := hx5.T hj2
      have h0 := hx5.T h0
      have h1 := hx5.T h1
      have hx := hx.tr hx5
      obtain ⟨q7, hw⟩ := hw
      refine z_aast (kq := 3) (t0 := 3) (T := TX3) (N := 17) hG hj2 (by decide) rfl q7 (fun _ => rfl) (by decide) rfl (by decide) ha3 dX1_init_37 ?_
      refine z_topσ (fun σ8 eσ8 => ?_)
      have hw := hw σ8 eσ8
      obtain ⟨x9, ex9⟩ : ∃ y : Int32, y = v2 + 1 := ⟨_, rfl⟩
      have hw := hw x9 ex9
      refine z_iinc (v := x9) (lv' := [(2, .int x9), (0, .ref (za Y5 t0)), (1, .ref (za Y5 t1))]) hG dX1_init_38 2 rfl (by rw [ex9]; rfl) (by decide) rfl ?_
      refine z_goto (tgt := 15) hG dX1_init_41 (by decide) ?_
      refine zpick [1, 2, 0] (lv' := [(0, .ref (za Y5 t0)), (1, .ref (za Y5 t1)), (2, .int x9)]) rfl ?_
      refine zwiden (k := cl + 16) (n := sl + 8053) (by omega) (by omega) ?_
      exact ih t0 t1 x9 Y5 σ8 _ _ hw hx h0 h1 (by omega) (by omega)
set_option maxRecDepth 100000 in
set_option maxHeartbeats 4000000 in
theorem MX1_init (l : Launch) {E : zE} {Y : zY} {σ : zS} {t0 : Nat} {t1 : Nat} (h0 : zT Y 1 t0) (h1 : zT Y 6 t1) {Q : zSp → zS → Prop} (hw : wX1_init (zsp Y) σ t0 t1 Q) : ∀ sz, Met l yX1_init (zw yX1_init cX1_init 3 none) rX1_init (zPc E Y σ sz [.ref (za Y t0), .ref (za Y t1)]) (va_Qv (fun (u : zY × zS) => Q (zsp u.1) u.2) (zBA E Y sz) (zA Y sz)) 177 88593 (zA Y sz) := by
  refine z_met (own := RX1) (Qc := fun sz => va_Qv (fun (u : zY × zS) => Q (zsp u.1) u.2) (zBA E Y sz) (zA Y sz)) (by decide +kernel) rfl (Nat.le_of_ble_eq_true rfl) ?_
  intro p e s m args below meth c hG hinit
  unfold wX1_init at hw
  refine zlv (lv' := [(0, .ref (za Y t0)), (1, .ref (za Y t1))]) rfl ?_
  have hx : zext Y Y := zext.rf
  refine z_aload_n hG dX1_init_0 rfl 0 rfl ?_
  refine z_objInit hG k_X1_1 ko_i ko_c (Nat.le_of_ble_eq_true rfl) (Nat.le_of_ble_eq_true rfl) dX1_init_1 ?_
  refine z_aload_n hG dX1_init_4 rfl 0 rfl ?_
  refine z_bipush (v := 10) hG dX1_init_5 (by decide) ?_
  have eNa1 : ((10 : Int32)).toNatClampNeg = 10 := by decide +kernel
  refine z_newq (kd := 23) (t0 := 3) (n := 10) hG kc_X1_9 hG.2.2.2.2.2.2.2.1.2.2.2.2.2.2.2.2.2.2.2.1 rfl (Or.inr rfl) (by decide) (show ((10 : Int32)).toNatClampNeg * 4 ≤ 536870912 from by omega) (show 0 + 1 ≤ 177 from by omega) (show 0 + ((10 : Int32)).toNatClampNeg ≤ 88593 from by omega) dX1_init_7 (fun Y1 a1 ea1 hx1 eSa1 ha1 => ?_)
  rw [eNa1] at eSa1
  have hw := hw a1 ea1 (zsp Y1) eSa1
  refine zwiden (k := 1) (n := 10) (show 0 + 1 ≤ 1 from by omega) (show 0 + 10 ≤ 10 from by omega) ?_
  refine z_topσ (fun σ2 eσ2 => ?_)
  have hw := hw σ2 eσ2
  refine zst (st' := [.ref (za Y1 a1), .ref (za Y1 t0)]) (by simp only [hx1.a h0, hx1.a h1]) ?_
  refine zlv (lv' := [(0, .ref (za Y1 t0)), (1, .ref (za Y1 t1))]) (by simp only [hx1.a h0, hx1.a h1]) ?_
  have h0 := hx1.T h0
  have h1 := hx1.T h1
  have hx := hx.tr hx1
  refine z_putrF hG f_X1_11 hinit h0 rfl rfl rfl (Or.inr ⟨_, rfl⟩) rfl (by decide) ha1 dX1_init_10 ?_
  refine z_topσ (fun σ3 eσ3 => ?_)
  have hw := hw σ3 eσ3
  refine z_iconst (v := 0) hG dX1_init_13 (by decide) ?_
  refine z_istore_n (lv' := [(2, .int 0), (0, .ref (za Y1 t0)), (1, .ref (za Y1 t1))]) hG dX1_init_14 rfl (by decide) rfl ?_
  obtain ⟨n4, hn4, hw⟩ := hw
  refine zpick [1, 2, 0] (lv' := [(0, .ref (za Y1 t0)), (1, .ref (za Y1 t1)), (2, .int 0)]) rfl ?_
  refine zwiden (k := 1) (n := 10) (by omega) (by omega) ?_
  exact BX1_init_15 hG hinit n4 t0 t1 0 Y1 σ3 _ _ hw hx h0 h1 (by omega) (by omega)
-- java/lang/AbstractStringBuilder.<init>(I)V
def wJ5_init_d00df (S : zSp) (σ : zS) (t0 : Nat) (v1 : Int32) (Q : zSp → zS → Prop) : Prop := (((1 : Int32) = 0 → False) ∧ (¬ (1 : Int32) = 0 → ¬ v1 < 0 ∧ v1.toNatClampNeg ≤ 16 ∧ ∀ a1 : Nat, a1 = zSk S → ∀ S1 : zSp, S1 = zSpush S 21 v1.toNatClampNeg → ∀ σ4 : zS, σ4 = zfresh σ a1 → ∀ σ5 : zS, σ5 = sr σ4 t0 0 (some a1) → ∀ σ6 : zS, σ6 = si σ5 t0 1 0 → Q S1 σ6))
abbrev rJ5_init_d00df : Room := { frames := 1, cells := 1, slots := 16, locals := 20 }
set_option maxRecDepth 100000 in
set_option maxHeartbeats 4000000 in
theorem MJ5_init_d00df (l : Launch) {E : zE} {Y : zY} {σ : zS} {t0 : Nat} {v1 : Int32} (h0 : zT Y 13 t0) {Q : zSp → zS → Prop} (hw : wJ5_init_d00df (zsp Y) σ t0 v1 Q) : ∀ sz, Met l yJ5_init_d00df (zw yJ5_init_d00df cJ5_init_d00df 2 none) rJ5_init_d00df (zPc E Y σ sz [.ref (za Y t0), .int v1]) (va_Qv (fun (u : zY × zS) => Q (zsp u.1) u.2) (zBA E Y sz) (zA Y sz)) 1 16 (zA Y sz) := by
  refine z_met (own := RJ5) (Qc := fun sz => va_Qv (fun (u : zY × zS) => Q (zsp u.1) u.2) (zBA E Y sz) (zA Y sz)) (by decide +kernel) rfl (Nat.le_of_ble_eq_true rfl) ?_
  intro p e s m args below meth c hG hinit
  unfold wJ5_init_d00df at hw
  refine zlv (lv' := [(0, .ref (za Y t0)), (1, .int v1)]) rfl ?_
  have hx : zext Y Y := zext.rf
  refine z_aload_n hG dJ5_init_d00df_0 rfl 0 rfl ?_
  refine z_objInit hG k_J5_3 ko_i ko_c (Nat.le_of_ble_eq_true rfl) (Nat.le_of_ble_eq_true rfl) dJ5_init_d00df_1 ?_
  refine z_compact hG f_J5_18 dJ5_init_d00df_4 ?_
  refine z_if_eq (tgt := 25) hG dJ5_init_d00df_7 (by decide) (fun c7 => ?_) (fun c7 => ?_)
  · have hw := hw.1 c7
    exact hw.elim
  · have hw := hw.2 c7
    refine z_aload_n hG dJ5_init_d00df_10 rfl 0 rfl ?_
    refine z_iload_n hG dJ5_init_d00df_11 rfl 1 rfl ?_
    obtain ⟨q2, q3, hw⟩ := hw
    refine z_newa (kd := 21) (t0 := 1) (ty := .byte) (atype := .byte) (n := v1) hG kA_21 rfl rfl (Or.inr (Or.inl ⟨rfl, rfl⟩)) q2 (show (v1).toNatClampNeg * 1 ≤ 536870912 from by omega) (show 0 + 1 ≤ 1 from by omega) (show 0 + (v1).toNatClampNeg ≤ 16 from by omega) dJ5_init_d00df_12 (fun Y1 a1 ea1 hx1 eSa1 ha1 => ?_)
    have hw := hw a1 ea1 (zsp Y1) eSa1
    refine zwiden (k := 1) (n := 16) (by omega) (by omega) ?_
    refine z_topσ (fun σ4 eσ4 => ?_)
    have hw := hw σ4 eσ4
    refine zst (st' := [.ref (za Y1 a1), .ref (za Y1 t0)]) (by simp only [hx1.a h0]) ?_
    refine zlv (lv' := [(0, .ref (za Y1 t0)), (1, .int v1)]) (by simp only [hx1.a h0]) ?_
    have h0 := hx1.T h0
    have hx := hx.tr hx1
    refine z_putrA hG f_J5_15 h0 rfl rfl (Or.inr ⟨_, rfl⟩) rfl (by decide) ha1 dJ5_init_d00df_14 ?_
    refine z_topσ (fun σ5 eσ5 => ?_)
    have hw := hw σ5 eσ5
    refine z_aload_n hG dJ5_init_d00df_17 rfl 0 rfl ?_
    refine z_iconst (v := 0) hG dJ5_init_d00df_18 (by decide) ?_
    refine z_puti hG f_J5_22 h0 rfl rfl ⟨by decide +kernel, by decide +kernel⟩ dJ5_init_d00df_19 ?_
    refine z_topσ (fun σ6 eσ6 => ?_)
    have hw := hw σ6 eσ6
    refine z_goto (tgt := 38) hG dJ5_init_d00df_22 (by decide) ?_
    refine zwiden (k := 1) (n := 16) (by omega) (by omega) ?_
    exact z_vretA hG hx rfl dJ5_init_d00df_38 hw
-- java/lang/StringBuilder.<init>()V
def wJ4_init_da8c8 (S : zSp) (σ : zS) (t0 : Nat) (Q : zSp → zS → Prop) : Prop := wJ5_init_d00df S σ t0 16 (fun S1 σ1 => Q S1 σ1)
abbrev rJ4_init_da8c8 : Room := { frames := 2, cells := 1, slots := 16, locals := 41 }
set_option maxRecDepth 100000 in
set_option maxHeartbeats 4000000 in
theorem MJ4_init_da8c8 (l : Launch) {E : zE} {Y : zY} {σ : zS} {t0 : Nat} (h0 : zT Y 13 t0) {Q : zSp → zS → Prop} (hw : wJ4_init_da8c8 (zsp Y) σ t0 Q) : ∀ sz, Met l yJ4_init_da8c8 (zw yJ4_init_da8c8 cJ4_init_da8c8 1 none) rJ4_init_da8c8 (zPc E Y σ sz [.ref (za Y t0)]) (va_Qv (fun (u : zY × zS) => Q (zsp u.1) u.2) (zBA E Y sz) (zA Y sz)) 1 16 (zA Y sz) := by
  refine z_met (own := RJ4) (Qc := fun sz => va_Qv (fun (u : zY × zS) => Q (zsp u.1) u.2) (zBA E Y sz) (zA Y sz)) (by decide +kernel) rfl (Nat.le_of_ble_eq_true rfl) ?_
  intro p e s m args below meth c hG hinit
  unfold wJ4_init_da8c8 at hw
  refine zlv (lv' := [(0, .ref (za Y t0))]) rfl ?_
  have hx : zext Y Y := zext.rf
  refine z_aload_n hG dJ4_init_da8c8_0 rfl 0 rfl ?_
  refine z_bipush (v := 16) hG dJ4_init_da8c8_1 (by decide) ?_
  refine z_callAv hG (z_runI (As := [.int 16]) (st := []) hG k_J4_1 (MJ5_init_d00df l h0 hw) ⟨(Nat.le_of_ble_eq_true rfl), (Nat.le_of_ble_eq_true rfl)⟩ rfl (Nat.le_of_ble_eq_true rfl) dJ4_init_da8c8_3 ⟨show 0 + 1 ≤ 1 from by omega, show 0 + 16 ≤ 16 from by omega⟩ rfl) (fun Y1 σ1 hx1 hw => ?_)
  refine zwiden (k := 1) (n := 16) (show 0 + 1 ≤ 1 from by omega) (show 0 + 16 ≤ 16 from by omega) ?_
  refine zlv (lv' := [(0, .ref (za Y1 t0))]) (by simp only [hx1.a h0]) ?_
  have h0 := hx1.T h0
  have hx := hx.tr hx1
  refine zwiden (k := 1) (n := 16) (by omega) (by omega) ?_
  exact z_vretA hG hx rfl dJ4_init_da8c8_6 hw
-- TypeWheelTelegraph.<init>()V
def wX11_init (S : zSp) (σ : zS) (t0 : Nat) (Q : zSp → zS → Prop) : Prop := ∀ a1 : Nat, a1 = zSk S → ∀ S1 : zSp, S1 = zSpush S 9 0 → ∀ σ2 : zS, σ2 = zfresh σ a1 → wX9_init S1 σ2 a1 600 (fun S3 σ3 => ∀ σ5 : zS, σ5 = sr σ3 t0 0 (some a1) → ∀ a6 : Nat, a6 = zSk S3 → ∀ S6 : zSp, S6 = zSpush S3 5 0 → ∀ σ7 : zS, σ7 = zfresh σ5 a6 → ∃ j8 : Nat, gr σ7 t0 0 = some j8 ∧ wX5_init S6 σ7 a6 j8 (fun S9 σ9 => ∀ σ11 : zS, σ11 = sr σ9 t0 1 (some a6) → ∀ a12 : Nat, a12 = zSk S9 → ∀ S12 : zSp, S12 = zSpush S9 13 0 → ∀ σ13 : zS, σ13 = zfresh σ11 a12 → wJ4_init_da8c8 S12 σ13 a12 (fun S14 σ14 => ∀ σ16 : zS, σ16 = sr σ14 t0 2 (some a12) → ∀ a17 : Nat, a17 = zSk S14 → ∀ S17 : zSp, S17 = zSpush S14 6 0 → ∀ σ18 : zS, σ18 = zfresh σ16 a17 → wX6_init S17 σ18 a17 (fun S19 σ19 => ∀ σ21 : zS, σ21 = sr σ19 t0 6 (some a17) → ∀ a22 : Nat, a22 = zSk S19 → ∀ S22 : zSp, S22 = zSpush S19 6 0 → ∀ σ23 : zS, σ23 = zfresh σ21 a22 → wX6_init S22 σ23 a22 (fun S24 σ24 => ∀ σ26 : zS, σ26 = sr σ24 t0 7 (some a22) → ∀ σ27 : zS, σ27 = si σ26 t0 8 (-1) → ∀ a28 : Nat, a28 = zSk S24 → ∀ S28 : zSp, S28 = zSpush S24 3 0 → ∀ σ29 : zS, σ29 = zfresh σ27 a28 → ∃ j30 : Nat, gr σ29 t0 6 = some j30 ∧ wX3_init S28 σ29 a28 j30 (fun S31 σ31 => ∀ σ33 : zS, σ33 = sr σ31 t0 3 (some a28) → ∀ a34 : Nat, a34 = zSk S31 → ∀ S34 : zSp, S34 = zSpush S31 3 0 → ∀ σ35 : zS, σ35 = zfresh σ33 a34 → ∃ j36 : Nat, gr σ35 t0 6 = some j36 ∧ wX3_init S34 σ35 a34 j36 (fun S37 σ37 => ∀ σ39 : zS, σ39 = sr σ37 t0 4 (some a34) → ∀ a40 : Nat, a40 = zSk S37 → ∀ S40 : zSp, S40 = zSpush S37 1 0 → ∀ σ41 : zS, σ41 = zfresh σ39 a40 → ∃ j42 : Nat, gr σ41 t0 6 = some j42 ∧ wX1_init S40 σ41 a40 j42 (fun S43 σ43 => ∀ σ45 : zS, σ45 = sr σ43 t0 5 (some a40) → Q S43 σ45))))))))
abbrev rX11_init : Room := { frames := 6, cells := 490, slots := 212127, locals := 133 }
set_option maxRecDepth 100000 in
set_option maxHeartbeats 4000000 in
theorem MX11_init (l : Launch) {E : zE} {Y : zY} {σ : zS} {t0 : Nat} (h0 : zT Y 11 t0) {Q : zSp → zS → Prop} (hw : wX11_init (zsp Y) σ t0 Q) : ∀ sz, Met l yX11_init (zw yX11_init cX11_init 1 none) rX11_init (zPc E Y σ sz [.ref (za Y t0)]) (va_Qv (fun (u : zY × zS) => Q (zsp u.1) u.2) (zBA E Y sz) (zA Y sz)) 490 212127 (zA Y sz) := by
  refine z_met (own := RX11) (Qc := fun sz => va_Qv (fun (u : zY × zS) => Q (zsp u.1) u.2) (zBA E Y sz) (zA Y sz)) (by decide +kernel) rfl (Nat.le_of_ble_eq_true rfl) ?_
  intro p e s m args below meth c hG hinit
  unfold wX11_init at hw
  refine zlv (lv' := [(0, .ref (za Y t0))]) rfl ?_
  have hx : zext Y Y := zext.rf
  refine z_aload_n hG dX11_init_0 rfl 0 rfl ?_
  refine z_objInit hG k_X11_1 ko_i ko_c (Nat.le_of_ble_eq_true rfl) (Nat.le_of_ble_eq_true rfl) dX11_init_1 ?_
  refine z_aload_n hG dX11_init_4 rfl 0 rfl ?_
  refine z_new hG ck_9 kc_X11_7 kn_9 ki_9 nw_9 (show 0 + 1 ≤ 490 from by omega) (show 0 + 2 ≤ 212127 from by omega) dX11_init_5 (fun Y1 a1 ea1 hx1 eSa1 ha1 => ?_)
  have hw := hw a1 ea1 (zsp Y1) eSa1
  refine zwiden (k := 1) (n := 2) (show 0 + 1 ≤ 1 from by omega) (show 0 + 2 ≤ 2 from by omega) ?_
  refine z_topσ (fun σ2 eσ2 => ?_)
  have hw := hw σ2 eσ2
  refine zst (st' := [.ref (za Y1 a1), .ref (za Y1 t0)]) (by simp only [hx1.a h0]) ?_
  refine zlv (lv' := [(0, .ref (za Y1 t0))]) (by simp only [hx1.a h0]) ?_
  have h0 := hx1.T h0
  have hx := hx.tr hx1
  refine z_dup hG dX11_init_8 rfl ?_
  refine z_sipush (v := 600) hG dX11_init_9 (by decide) ?_
  refine z_callAv hG (z_runI (As := [.int 600]) (st := [.ref (za Y1 a1), .ref (za Y1 t0)]) hG k_X11_11 (MX9_init l ha1 hw) ⟨(Nat.le_of_ble_eq_true rfl), (Nat.le_of_ble_eq_true rfl)⟩ rfl (Nat.le_of_ble_eq_true rfl) dX11_init_12 ⟨show 1 + 1 ≤ 490 from by omega, show 2 + 1000 ≤ 212127 from by omega⟩ rfl) (fun Y3 σ3 hx3 hw => ?_)
  refine zwiden (k := 2) (n := 1002) (show 1 + 1 ≤ 2 from by omega) (show 2 + 1000 ≤ 1002 from by omega) ?_
  refine zst (st' := [.ref (za Y3 a1), .ref (za Y3 t0)]) (by simp only [hx3.a ha1, hx3.a h0]) ?_
  refine zlv (lv' := [(0, .ref (za Y3 t0))]) (by simp only [hx3.a ha1, hx3.a h0]) ?_
  have ha1 := hx3.T ha1
  have h0 := hx3.T h0
  have hx := hx.tr hx3
  refine z_putrF hG f_X11_14 hinit h0 rfl rfl rfl (Or.inl ⟨_, rfl⟩) rfl (by decide) ha1 dX11_init_15 ?_
  refine z_topσ (fun σ5 eσ5 => ?_)
  have hw := hw σ5 eσ5
  refine z_aload_n hG dX11_init_18 rfl 0 rfl ?_
  refine z_new hG ck_5 kc_X11_18 kn_5 ki_5 nw_5 (show 2 + 1 ≤ 490 from by omega) (show 1002 + 3 ≤ 212127 from by omega) dX11_init_19 (fun Y6 a6 ea6 hx6 eSa6 ha6 => ?_)
  have hw := hw a6 ea6 (zsp Y6) eSa6
  refine zwiden (k := 3) (n := 1005) (show 2 + 1 ≤ 3 from by omega) (show 1002 + 3 ≤ 1005 from by omega) ?_
  refine z_topσ (fun σ7 eσ7 => ?_)
  have hw := hw σ7 eσ7
  refine zst (st' := [.ref (za Y6 a6), .ref (za Y6 t0)]) (by simp only [hx6.a h0]) ?_
  refine zlv (lv' := [(0, .ref (za Y6 t0))]) (by simp only [hx6.a h0]) ?_
  have h0 := hx6.T h0
  have hx := hx.tr hx6
  refine z_dup hG dX11_init_22 rfl ?_
  refine z_aload_n hG dX11_init_23 rfl 0 rfl ?_
  obtain ⟨j8, ej8, hw⟩ := hw
  refine z_getr (kq := 9) hG f_X11_14 h0 rfl ej8 rfl (by decide) dX11_init_24 (fun hj8 => ?_)
  refine z_callAv hG (z_runI (As := [.ref (za Y6 j8)]) (st := [.ref (za Y6 a6), .ref (za Y6 t0)]) hG k_X11_20 (MX5_init l ha6 hj8 hw) ⟨(Nat.le_of_ble_eq_true rfl), (Nat.le_of_ble_eq_true rfl)⟩ rfl (Nat.le_of_ble_eq_true rfl) dX11_init_27 ⟨show 3 + 1 ≤ 490 from by omega, show 1005 + 4 ≤ 212127 from by omega⟩ rfl) (fun Y9 σ9 hx9 hw => ?_)
  refine zwiden (k := 4) (n := 1009) (show 3 + 1 ≤ 4 from by omega) (show 1005 + 4 ≤ 1009 from by omega) ?_
  refine zst (st' := [.ref (za Y9 a6), .ref (za Y9 t0)]) (by simp only [hx9.a ha6, hx9.a h0]) ?_
  refine zlv (lv' := [(0, .ref (za Y9 t0))]) (by simp only [hx9.a ha6, hx9.a h0]) ?_
  have ha6 := hx9.T ha6
  have h0 := hx9.T h0
  have hx := hx.tr hx9
  refine z_putrF hG f_X11_23 hinit h0 rfl rfl rfl (Or.inl ⟨_, rfl⟩) rfl (by decide) ha6 dX11_init_30 ?_
  refine z_topσ (fun σ11 eσ11 => ?_)
  have hw := hw σ11 eσ11
  refine z_aload_n hG dX11_init_33 rfl 0 rfl ?_
  refine z_new hG ck_13 kc_X11_27 kn_13 ki_13 nw_13 (show 4 + 1 ≤ 490 from by omega) (show 1009 + 4 ≤ 212127 from by omega) dX11_init_34 (fun Y12 a12 ea12 hx12 eSa12 ha12 => ?_)
  have hw := hw a12 ea12 (zsp Y12) eSa12
  refine zwiden (k := 5) (n := 1013) (show 4 + 1 ≤ 5 from by omega) (show 1009 + 4 ≤ 1013 from by omega) ?_
  refine z_topσ (fun σ13 eσ13 => ?_)
  have hw := hw σ13 eσ13
  refine zst (st' := [.ref (za Y12 a12), .ref (za Y12 t0)]) (by simp only [hx12.a h0]) ?_
  refine zlv (lv' := [(0, .ref (za Y12 t0))]) (by simp only [hx12.a h0]) ?_
  have h0 := hx12.T h0
  have hx := hx.tr hx12
  refine z_dup hG dX11_init_37 rfl ?_
  refine z_callAv hG (z_runI (As := []) (st := [.ref (za Y12 a12), .ref (za Y12 t0)]) hG k_X11_29 (MJ4_init_da8c8 l ha12 hw) ⟨(Nat.le_of_ble_eq_true rfl), (Nat.le_of_ble_eq_true rfl)⟩ rfl (Nat.le_of_ble_eq_true rfl) dX11_init_38 ⟨show 5 + 1 ≤ 490 from by omega, show 1013 + 16 ≤ 212127 from by omega⟩ rfl) (fun Y14 σ14 hx14 hw => ?_)
  refine zwiden (k := 6) (n := 1029) (show 5 + 1 ≤ 6 from by omega) (show 1013 + 16 ≤ 1029 from by omega) ?_
  refine zst (st' := [.ref (za Y14 a12), .ref (za Y14 t0)]) (by simp only [hx14.a ha12, hx14.a h0]) ?_
  refine zlv (lv' := [(0, .ref (za Y14 t0))]) (by simp only [hx14.a ha12, hx14.a h0]) ?_
  have ha12 := hx14.T ha12
  have h0 := hx14.T h0
  have hx := hx.tr hx14
  refine z_putrF hG f_X11_30 hinit h0 rfl rfl rfl (Or.inl ⟨_, rfl⟩) rfl (by decide) ha12 dX11_init_41 ?_
  refine z_topσ (fun σ16 eσ16 => ?_)
  have hw := hw σ16 eσ16
  refine z_aload_n hG dX11_init_44 rfl 0 rfl ?_
  refine z_new hG ck_6 kc_X11_34 kn_6 ki_6 nw_6 (show 6 + 1 ≤ 490 from by omega) (show 1029 + 8 ≤ 212127 from by omega) dX11_init_45 (fun Y17 a17 ea17 hx17 eSa17 ha17 => ?_)
  have hw := hw a17 ea17 (zsp Y17) eSa17
  refine zwiden (k := 7) (n := 1037) (show 6 + 1 ≤ 7 from by omega) (show 1029 + 8 ≤ 1037 from by omega) ?_
  refine z_topσ (fun σ18 eσ18 => ?_)
  have hw := hw σ18 eσ18
  refine zst (st' := [.ref (za Y17 a17), .ref (za Y17 t0)]) (by simp only [hx17.a h0]) ?_
  refine zlv (lv' := [(0, .ref (za Y17 t0))]) (by simp only [hx17.a h0]) ?_
  have h0 := hx17.T h0
  have hx := hx.tr hx17
  refine z_dup hG dX11_init_48 rfl ?_
  refine z_callAv hG (z_runI (As := []) (st := [.ref (za Y17 a17), .ref (za Y17 t0)]) hG k_X11_36 (MX6_init l ha17 hw) ⟨(Nat.le_of_ble_eq_true rfl), (Nat.le_of_ble_eq_true rfl)⟩ rfl (Nat.le_of_ble_eq_true rfl) dX11_init_49 ⟨show 7 + 136 ≤ 490 from by omega, show 1037 + 53190 ≤ 212127 from by omega⟩ rfl) (fun Y19 σ19 hx19 hw => ?_)
  refine zwiden (k := 143) (n := 54227) (show 7 + 136 ≤ 143 from by omega) (show 1037 + 53190 ≤ 54227 from by omega) ?_
  refine zst (st' := [.ref (za Y19 a17), .ref (za Y19 t0)]) (by simp only [hx19.a ha17, hx19.a h0]) ?_
  refine zlv (lv' := [(0, .ref (za Y19 t0))]) (by simp only [hx19.a ha17, hx19.a h0]) ?_
  have ha17 := hx19.T ha17
  have h0 := hx19.T h0
  have hx := hx.tr hx19
  refine z_putrA hG f_X11_37 h0 rfl rfl (Or.inl ⟨_, rfl⟩) rfl (by decide) ha17 dX11_init_52 ?_
  refine z_topσ (fun σ21 eσ21 => ?_)
  have hw := hw σ21 eσ21
  refine z_aload_n hG dX11_init_55 rfl 0 rfl ?_
  refine z_new hG ck_6 kc_X11_34 kn_6 ki_6 nw_6 (show 143 + 1 ≤ 490 from by omega) (show 54227 + 8 ≤ 212127 from by omega) dX11_init_56 (fun Y22 a22 ea22 hx22 eSa22 ha22 => ?_)
  have hw := hw a22 ea22 (zsp Y22) eSa22
  refine zwiden (k := 144) (n := 54235) (show 143 + 1 ≤ 144 from by omega) (show 54227 + 8 ≤ 54235 from by omega) ?_
  refine z_topσ (fun σ23 eσ23 => ?_)
  have hw := hw σ23 eσ23
  refine zst (st' := [.ref (za Y22 a22), .ref (za Y22 t0)]) (by simp only [hx22.a h0]) ?_
  refine zlv (lv' := [(0, .ref (za Y22 t0))]) (by simp only [hx22.a h0]) ?_
  have h0 := hx22.T h0
  have hx := hx.tr hx22
  refine z_dup hG dX11_init_59 rfl ?_
  refine z_callAv hG (z_runI (As := []) (st := [.ref (za Y22 a22), .ref (za Y22 t0)]) hG k_X11_36 (MX6_init l ha22 hw) ⟨(Nat.le_of_ble_eq_true rfl), (Nat.le_of_ble_eq_true rfl)⟩ rfl (Nat.le_of_ble_eq_true rfl) dX11_init_60 ⟨show 144 + 136 ≤ 490 from by omega, show 54235 + 53190 ≤ 212127 from by omega⟩ rfl) (fun Y24 σ24 hx24 hw => ?_)
  refine zwiden (k := 280) (n := 107425) (show 144 + 136 ≤ 280 from by omega) (show 54235 + 53190 ≤ 107425 from by omega) ?_
  refine zst (st' := [.ref (za Y24 a22), .ref (za Y24 t0)]) (by simp only [hx24.a ha22, hx24.a h0]) ?_
  refine zlv (lv' := [(0, .ref (za Y24 t0))]) (by simp only [hx24.a ha22, hx24.a h0]) ?_
  have ha22 := hx24.T ha22
  have h0 := hx24.T h0
  have hx := hx.tr hx24
  refine z_putrA hG f_X11_41 h0 rfl rfl (Or.inl ⟨_, rfl⟩) rfl (by decide) ha22 dX11_init_63 ?_
  refine z_topσ (fun σ26 eσ26 => ?_)
  have hw := hw σ26 eσ26
  refine z_aload_n hG dX11_init_66 rfl 0 rfl ?_
  refine z_iconst (v := (-1)) hG dX11_init_67 (by decide) ?_
  refine z_puti hG f_X11_44 h0 rfl rfl (zN_int _) dX11_init_68 ?_
  refine z_topσ (fun σ27 eσ27 => ?_)
  have hw := hw σ27 eσ27
  refine z_aload_n hG dX11_init_71 rfl 0 rfl ?_
  refine z_new hG ck_3 kc_X11_48 kn_3 ki_3 nw_3 (show 280 + 1 ≤ 490 from by omega) (show 107425 + 17 ≤ 212127 from by omega) dX11_init_72 (fun Y28 a28 ea28 hx28 eSa28 ha28 => ?_)
  have hw := hw a28 ea28 (zsp Y28) eSa28
  refine zwiden (k := 281) (n := 107442) (show 280 + 1 ≤ 281 from by omega) (show 107425 + 17 ≤ 107442 from by omega) ?_
  refine z_topσ (fun σ29 eσ29 => ?_)
  have hw := hw σ29 eσ29
  refine zst (st' := [.ref (za Y28 a28), .ref (za Y28 t0)]) (by simp only [hx28.a h0]) ?_
  refine zlv (lv' := [(0, .ref (za Y28 t0))]) (by simp only [hx28.a h0]) ?_
  have h0 := hx28.T h0
  have hx := hx.tr hx28
  refine z_dup hG dX11_init_75 rfl ?_
  refine z_aload_n hG dX11_init_76 rfl 0 rfl ?_
  obtain ⟨j30, ej30, hw⟩ := hw
  refine z_getr (kq := 6) hG f_X11_37 h0 rfl ej30 rfl (by decide) dX11_init_77 (fun hj30 => ?_)
  refine z_callAv hG (z_runI (As := [.ref (za Y28 j30)]) (st := [.ref (za Y28 a28), .ref (za Y28 t0)]) hG k_X11_50 (MX3_init l ha28 hj30 hw) ⟨(Nat.le_of_ble_eq_true rfl), (Nat.le_of_ble_eq_true rfl)⟩ rfl (Nat.le_of_ble_eq_true rfl) dX11_init_80 ⟨show 281 + 15 ≤ 490 from by omega, show 107442 + 8036 ≤ 212127 from by omega⟩ rfl) (fun Y31 σ31 hx31 hw => ?_)
  refine zwiden (k := 296) (n := 115478) (show 281 + 15 ≤ 296 from by omega) (show 107442 + 8036 ≤ 115478 from by omega) ?_
  refine zst (st' := [.ref (za Y31 a28), .ref (za Y31 t0)]) (by simp only [hx31.a ha28, hx31.a h0]) ?_
  refine zlv (lv' := [(0, .ref (za Y31 t0))]) (by simp only [hx31.a ha28, hx31.a h0]) ?_
  have ha28 := hx31.T ha28
  have h0 := hx31.T h0
  have hx := hx.tr hx31
  refine z_putrF hG f_X11_53 hinit h0 rfl rfl rfl (Or.inl ⟨_, rfl⟩) rfl (by decide) ha28 dX11_init_83 ?_
  refine z_topσ (fun σ33 eσ33 => ?_)
  have hw := hw σ33 eσ33
  refine z_aload_n hG dX11_init_86 rfl 0 rfl ?_
  refine z_new hG ck_3 kc_X11_48 kn_3 ki_3 nw_3 (show 296 + 1 ≤ 490 from by omega) (show 115478 + 17 ≤ 212127 from by omega) dX11_init_87 (fun Y34 a34 ea34 hx34 eSa34 ha34 => ?_)
  have hw := hw a34 ea34 (zsp Y34) eSa34
  refine zwiden (k := 297) (n := 115495) (show 296 + 1 ≤ 297 from by omega) (show 115478 + 17 ≤ 115495 from by omega) ?_
  refine z_topσ (fun σ35 eσ35 => ?_)
  have hw := hw σ35 eσ35
  refine zst (st' := [.ref (za Y34 a34), .ref (za Y34 t0)]) (by simp only [hx34.a h0]) ?_
  refine zlv (lv' := [(0, .ref (za Y34 t0))]) (by simp only [hx34.a h0]) ?_
  have h0 := hx34.T h0
  have hx := hx.tr hx34
  refine z_dup hG dX11_init_90 rfl ?_
  refine z_aload_n hG dX11_init_91 rfl 0 rfl ?_
  obtain ⟨j36, ej36, hw⟩ := hw
  refine z_getr (kq := 6) hG f_X11_37 h0 rfl ej36 rfl (by decide) dX11_init_92 (fun hj36 => ?_)
  refine z_callAv hG (z_runI (As := [.ref (za Y34 j36)]) (st := [.ref (za Y34 a34), .ref (za Y34 t0)]) hG k_X11_50 (MX3_init l ha34 hj36 hw) ⟨(Nat.le_of_ble_eq_true rfl), (Nat.le_of_ble_eq_true rfl)⟩ rfl (Nat.le_of_ble_eq_true rfl) dX11_init_95 ⟨show 297 + 15 ≤ 490 from by omega, show 115495 + 8036 ≤ 212127 from by omega⟩ rfl) (fun Y37 σ37 hx37 hw => ?_)
  refine zwiden (k := 312) (n := 123531) (show 297 + 15 ≤ 312 from by omega) (show 115495 + 8036 ≤ 123531 from by omega) ?_
  refine zst (st' := [.ref (za Y37 a34), .ref (za Y37 t0)]) (by simp only [hx37.a ha34, hx37.a h0]) ?_
  refine zlv (lv' := [(0, .ref (za Y37 t0))]) (by simp only [hx37.a ha34, hx37.a h0]) ?_
  have ha34 := hx37.T ha34
  have h0 := hx37.T h0
  have hx := hx.tr hx37
  refine z_putrF hG f_X11_57 hinit h0 rfl rfl rfl (Or.inl ⟨_, rfl⟩) rfl (by decide) ha34 dX11_init_98 ?_
  refine z_topσ (fun σ39 eσ39 => ?_)
  have hw := hw σ39 eσ39
  refine z_aload_n hG dX11_init_101 rfl 0 rfl ?_
  refine z_new hG ck_1 kc_X11_60 kn_1 ki_1 nw_1 (show 312 + 1 ≤ 490 from by omega) (show 123531 + 3 ≤ 212127 from by omega) dX11_init_102 (fun Y40 a40 ea40 hx40 eSa40 ha40 => ?_)
  have hw := hw a40 ea40 (zsp Y40) eSa40
  refine zwiden (k := 313) (n := 123534) (show 312 + 1 ≤ 313 from by omega) (show 123531 + 3 ≤ 123534 from by omega) ?_
  refine z_topσ (fun σ41 eσ41 => ?_)
  have hw := hw σ41 eσ41
  refine zst (st' := [.ref (za Y40 a40), .ref (za Y40 t0)]) (by simp only [hx40.a h0]) ?_
  refine zlv (lv' := [(0, .ref (za Y40 t0))]) (by simp only [hx40.a h0]) ?_
  have h0 := hx40.T h0
  have hx := hx.tr hx40
  refine z_dup hG dX11_init_105 rfl ?_
  refine z_aload_n hG dX11_init_106 rfl 0 rfl ?_
  obtain ⟨j42, ej42, hw⟩ := hw
  refine z_getr (kq := 6) hG f_X11_37 h0 rfl ej42 rfl (by decide) dX11_init_107 (fun hj42 => ?_)
  refine z_callAv hG (z_runI (As := [.ref (za Y40 j42)]) (st := [.ref (za Y40 a40), .ref (za Y40 t0)]) hG k_X11_62 (MX1_init l ha40 hj42 hw) ⟨(Nat.le_of_ble_eq_true rfl), (Nat.le_of_ble_eq_true rfl)⟩ rfl (Nat.le_of_ble_eq_true rfl) dX11_init_110 ⟨show 313 + 177 ≤ 490 from by omega, show 123534 + 88593 ≤ 212127 from by omega⟩ rfl) (fun Y43 σ43 hx43 hw => ?_)
  refine zwiden (k := 490) (n := 212127) (show 313 + 177 ≤ 490 from by omega) (show 123534 + 88593 ≤ 212127 from by omega) ?_
  refine zst (st' := [.ref (za Y43 a40), .ref (za Y43 t0)]) (by simp only [hx43.a ha40, hx43.a h0]) ?_
  refine zlv (lv' := [(0, .ref (za Y43 t0))]) (by simp only [hx43.a ha40, hx43.a h0]) ?_
  have ha40 := hx43.T ha40
  have h0 := hx43.T h0
  have hx := hx.tr hx43
  refine z_putrF hG f_X11_63 hinit h0 rfl rfl rfl (Or.inl ⟨_, rfl⟩) rfl (by decide) ha40 dX11_init_113 ?_
  refine z_topσ (fun σ45 eσ45 => ?_)
  have hw := hw σ45 eσ45
  refine zwiden (k := 490) (n := 212127) (by omega) (by omega) ?_
  exact z_vretA hG hx rfl dX11_init_116 hw
