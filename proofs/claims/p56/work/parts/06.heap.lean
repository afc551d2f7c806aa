/-! ROWS: fields and arrays -/
/-- a class of the system and its kind -/
def zck (ci : Nat) (C : String) (T : u_T) (N : Nat) (ty : Nat → FieldType) : Prop := zcl[ci]? = some (C, T, N) ∧ ci < 20 ∧ (∀ w ∈ u_ws C T N, w ∈ zGL) ∧ (∀ k, k < N → parseFieldDescriptor (T k).2.2.1 = some (ty k)) ∧ (∀ a, a < N → ∀ b, b < N → a ≠ b → (T a).2.1 ≠ (T b).2.1) ∧ (zft ci).length = N
/-- a field, as an instruction of the class own names it by its entry -/
def zfk (own : String) (index ci k : Nat) (C : String) (T : u_T) (N : Nat) (ty : Nat → FieldType) : Prop := zck ci C T N ty ∧ k < N ∧ Cond.fieldLink own index (T k).1 (T k).2.1 (T k).2.2.1 ∈ zGL
def zN (t : FieldType) (v : Int32) : Prop := narrow t (.int v) = .int v ∧ fits t (.int v) = true
theorem zN_int (v : Int32) : zN .int v := ⟨rfl, rfl⟩
theorem zN_b {v : Int32} (h : v = 0 ∨ v = 1) : zN .boolean v := by
  rcases h with rfl | rfl <;> exact ⟨by decide +kernel, by decide +kernel⟩
def zB1 (v : Int32) : Prop := v = 0 ∨ v = 1
theorem zB1_0 : zB1 0 := Or.inl rfl
theorem zB1_1 : zB1 1 := Or.inr rfl
theorem zfl_fld {E : zE} {Y : zY} {σ : zS} {a ci k t : Nat} (h : zT Y ci a) (hci : ci < 20) (ht : (zft ci)[k]? = some t) : (zws E Y σ)[a]? = some (za Y a, .inr (ci, zfl E Y σ a 0 (zft ci))) ∧ (zfl E Y σ a 0 (zft ci))[k]? = some (zfv E Y σ a k t) := by
  refine ⟨?_, ?_⟩
  · rw [zws_at h.1, zcell_obj h.2 hci]
  · rw [zfl_at _ 0 k t ht, Nat.zero_add]
theorem zfl_arr {E : zE} {Y : zY} {σ : zS} {a kd : Nat} (h : zT Y kd a) (hk : ¬ kd < 20) : (zws E Y σ)[a]? = some (za Y a, .inl (E.2.1 kd, zln Y a, zac Y σ a kd)) := by
  rw [zws_at h.1, zcell_arr h.2 hk]
theorem zok_T {Y : zY} {σ : zS} {a kd k q kq : Nat} (hW : zWT Y σ) (h : zT Y kd a) (hq : gr σ a k = some q) (hr : zrt kd k = kq) (hn : ¬ kq = 99) : zT Y kq q := by
  have h1 := hW a k q h.1 hq
  rw [h.2, hr] at h1
  unfold zok at h1
  rwa [if_neg hn] at h1
theorem zok_S {Y : zY} {σ : zS} {a kd k q : Nat} (hW : zWT Y σ) (h : zT Y kd a) (hq : gr σ a k = some q) (hr : zrt kd k = 99) : q < zS_n := by
  have h1 := hW a k q h.1 hq
  rw [h.2, hr] at h1
  unfold zok at h1
  rwa [if_pos rfl] at h1
theorem gi_sI_self (σ : zS) (a : Nat) (f : Nat → Int32) : gi (sI σ a f) a = f := if_pos rfl
section ZH
variable {E : zE} {Y : zY} {σ : zS} {p : Program} {l : Launch} {e : Env} {R : Room} {s : State} {m : MethodId} {args : Array Value} {below : List Frame} {meth : Method} {c : Code} {A : Nat → Prop} {nL cells slots : Nat} {Q : State → Prop} {lv lv' : zLV} {pc : Nat} {st : List Value} {cc : ByteArray} {own : String} {ret : Option FieldType}
theorem z_geti (G : zG E p l s m args meth c cc nL own ret A) {index ci k a : Nat} {C : String} {T : u_T} {N : Nat} {ty : Nat → FieldType} (F : zfk own index ci k C T N ty) (ha : zT Y ci a) (ht : (zft ci)[k]? = some 0) (hd : decode cc pc = .ok (.getfield index, 3)) (kk : WW E Y σ p l e R s m args below meth c A nL cells slots Q lv (pc + 3) (.int (gi σ a k) :: st)) : WW E Y σ p l e R s m args below meth c A nL cells slots Q lv pc (.ref (za Y a) :: st) := fun H locs ls hH hS hl =>
  va_get G.1 G.2.1 G.2.2.2.2.1 F.1.2.2.1 G.2.2.2.1 G.2.2.2.2.2.2.2.1.1 hH.1 a (zfl_fld ha F.1.2.1 ht).1 F.1.1 k F.2.1 (G.2.2.2.2.1 _ F.2.2) (fun _ h => h) (v := .int (gi σ a k)) (zfl_fld ha F.1.2.1 ht).2 hd (kk H locs ls hH hS hl)
theorem z_getl (G : zG E p l s m args meth c cc nL own ret A) {index ci k a : Nat} {C : String} {T : u_T} {N : Nat} {ty : Nat → FieldType} (F : zfk own index ci k C T N ty) (ha : zT Y ci a) (ht : (zft ci)[k]? = some 2) (hd : decode cc pc = .ok (.getfield index, 3)) (kk : WW E Y σ p l e R s m args below meth c A nL cells slots Q lv (pc + 3) (.long (gl σ a k) :: st)) : WW E Y σ p l e R s m args below meth c A nL cells slots Q lv pc (.ref (za Y a) :: st) := fun H locs ls hH hS hl =>
  va_get G.1 G.2.1 G.2.2.2.2.1 F.1.2.2.1 G.2.2.2.1 G.2.2.2.2.2.2.2.1.1 hH.1 a (zfl_fld ha F.1.2.1 ht).1 F.1.1 k F.2.1 (G.2.2.2.2.1 _ F.2.2) (fun _ h => h) (v := .long (gl σ a k)) (zfl_fld ha F.1.2.1 ht).2 hd (kk H locs ls hH hS hl)
theorem z_getr (G : zG E p l s m args meth c cc nL own ret A) {index ci k a q kq : Nat} {C : String} {T : u_T} {N : Nat} {ty : Nat → FieldType} (F : zfk own index ci k C T N ty) (ha : zT Y ci a) (ht : (zft ci)[k]? = some 1) (hq : gr σ a k = some q) (hr : zrt ci k = kq) (hn : ¬ kq = 99) (hd : decode cc pc = .ok (.getfield index, 3)) (kk : zT Y kq q → WW E Y σ p l e R s m args below meth c A nL cells slots Q lv (pc + 3) (.ref (za Y q) :: st)) : WW E Y σ p l e R s m args below meth c A nL cells slots Q lv pc (.ref (za Y a) :: st) := fun H locs ls hH hS hl =>
  va_get G.1 G.2.1 G.2.2.2.2.1 F.1.2.2.1 G.2.2.2.1 G.2.2.2.2.2.2.2.1.1 hH.1 a (zfl_fld ha F.1.2.1 ht).1 F.1.1 k F.2.1 (G.2.2.2.2.1 _ F.2.2) (fun _ h => h) (v := .ref (za Y q)) ((zfl_fld (E := E) (σ := σ) ha F.1.2.1 ht).2.trans (congrArg some (by show va_re (za Y) (gr σ a k) = _; rw [hq]; rfl))) hd (kk (zok_T hH.2.2 ha hq hr hn) H locs ls hH hS hl)
theorem z_gets (G : zG E p l s m args meth c cc nL own ret A) {index ci k a q : Nat} {C : String} {T : u_T} {N : Nat} {ty : Nat → FieldType} (F : zfk own index ci k C T N ty) (ha : zT Y ci a) (ht : (zft ci)[k]? = some 3) (hq : gr σ a k = some q) (hr : zrt ci k = 99) (hd : decode cc pc = .ok (.getfield index, 3)) (kk : q < zS_n → WW E Y σ p l e R s m args below meth c A nL cells slots Q lv (pc + 3) (.ref (E.2.2.1 q) :: st)) : WW E Y σ p l e R s m args below meth c A nL cells slots Q lv pc (.ref (za Y a) :: st) := fun H locs ls hH hS hl =>
  va_get G.1 G.2.1 G.2.2.2.2.1 F.1.2.2.1 G.2.2.2.1 G.2.2.2.2.2.2.2.1.1 hH.1 a (zfl_fld ha F.1.2.1 ht).1 F.1.1 k F.2.1 (G.2.2.2.2.1 _ F.2.2) (fun _ h => h) (v := .ref (E.2.2.1 q)) ((zfl_fld (E := E) (σ := σ) ha F.1.2.1 ht).2.trans (congrArg some (by show va_re E.2.2.1 (gr σ a k) = _; rw [hq]; rfl))) hd (kk (zok_S hH.2.2 ha hq hr) H locs ls hH hS hl)
theorem z_puti (G : zG E p l s m args meth c cc nL own ret A) {index ci k a : Nat} {C : String} {T : u_T} {N : Nat} {ty : Nat → FieldType} {v : Int32} (F : zfk own index ci k C T N ty) (ha : zT Y ci a) (ht : (zft ci)[k]? = some 0) (hfin : (T k).2.2.2 = false) (hv : zN (ty k) v) (hd : decode cc pc = .ok (.putfield index, 3)) (kk : WW E Y (si σ a k v) p l e R s m args below meth c A nL cells slots Q lv (pc + 3) st) : WW E Y σ p l e R s m args below meth c A nL cells slots Q lv pc (.int v :: .ref (za Y a) :: st) := fun H locs ls hH hS hl =>
  va_put G.1 G.2.1 G.2.2.2.2.1 F.1.2.2.1 ty F.1.2.2.2.1 F.1.2.2.2.2.1 G.2.2.2.1 G.2.2.2.2.2.2.2.1.1 hH.1 hH.2.1 hS a (zfl_fld ha F.1.2.1 ht).1 F.1.1 k F.2.1 (G.2.2.2.2.1 _ F.2.2) (fun _ h => h) hfin (F.1.2.2.2.1 k F.2.1) hv.1 hv.2 (by rw [zfl_len, F.1.2.2.2.2.2]; exact F.2.1) hd (fun H1 locs1 hP hD hS1 => by
    rw [zws_set (σ' := si σ a k v) ha.1 (zcell_si ha.2 F.1.2.1 ht rfl) (fun b hb => zcell_si_ne hb)] at hP hD
    exact kk H1 locs1 ls ⟨hP, hD, hH.2.2⟩ hS1 hl)
theorem z_putl (G : zG E p l s m args meth c cc nL own ret A) {index ci k a : Nat} {C : String} {T : u_T} {N : Nat} {ty : Nat → FieldType} {v : Int64} (F : zfk own index ci k C T N ty) (ha : zT Y ci a) (ht : (zft ci)[k]? = some 2) (hfin : (T k).2.2.2 = false) (hty : ty k = .long) (hd : decode cc pc = .ok (.putfield index, 3)) (kk : WW E Y (sl σ a k v) p l e R s m args below meth c A nL cells slots Q lv (pc + 3) st) : WW E Y σ p l e R s m args below meth c A nL cells slots Q lv pc (.long v :: .ref (za Y a) :: st) := fun H locs ls hH hS hl =>
  va_put G.1 G.2.1 G.2.2.2.2.1 F.1.2.2.1 ty F.1.2.2.2.1 F.1.2.2.2.2.1 G.2.2.2.1 G.2.2.2.2.2.2.2.1.1 hH.1 hH.2.1 hS a (zfl_fld ha F.1.2.1 ht).1 F.1.1 k F.2.1 (G.2.2.2.2.1 _ F.2.2) (fun _ h => h) hfin (F.1.2.2.2.1 k F.2.1) (by rw [hty]; rfl) (by rw [hty]; rfl) (by rw [zfl_len, F.1.2.2.2.2.2]; exact F.2.1) hd (fun H1 locs1 hP hD hS1 => by
    rw [zws_set (σ' := sl σ a k v) ha.1 (zcell_sl ha.2 F.1.2.1 ht rfl) (fun b hb => zcell_sl_ne hb)] at hP hD
    exact kk H1 locs1 ls ⟨hP, hD, hH.2.2⟩ hS1 hl)
theorem z_putr (G : zG E p l s m args meth c cc nL own ret A) {index ci k a q kq : Nat} {C : String} {T : u_T} {N : Nat} {ty : Nat → FieldType} {C2 : String} (F : zfk own index ci k C T N ty) (ha : zT Y ci a) (ht : (zft ci)[k]? = some 1) (hfin : (T k).2.2.2 = false) (hty : ty k = .object C2) (hr : zrt ci k = kq) (hn : ¬ kq = 99) (hqT : zT Y kq q) (hd : decode cc pc = .ok (.putfield index, 3)) (kk : WW E Y (sr σ a k (some q)) p l e R s m args below meth c A nL cells slots Q lv (pc + 3) st) : WW E Y σ p l e R s m args below meth c A nL cells slots Q lv pc (.ref (za Y q) :: .ref (za Y a) :: st) := fun H locs ls hH hS hl =>
  va_put G.1 G.2.1 G.2.2.2.2.1 F.1.2.2.1 ty F.1.2.2.2.1 F.1.2.2.2.2.1 G.2.2.2.1 G.2.2.2.2.2.2.2.1.1 hH.1 hH.2.1 hS a (zfl_fld ha F.1.2.1 ht).1 F.1.1 k F.2.1 (G.2.2.2.2.1 _ F.2.2) (fun _ h => h) hfin (F.1.2.2.2.1 k F.2.1) (by rw [hty]; rfl) (by rw [hty]; rfl) (by rw [zfl_len, F.1.2.2.2.2.2]; exact F.2.1) hd (fun H1 locs1 hP hD hS1 => by
    rw [zws_set (σ' := sr σ a k (some q)) ha.1 (show zcell E Y (sr σ a k (some q)) a = .inr (ci, (zfl E Y σ a 0 (zft ci)).set k (.ref (za Y q))) from zcell_sr ha.2 F.1.2.1 ht rfl) (fun b hb => zcell_sr_ne hb)] at hP hD
    exact kk H1 locs1 ls ⟨hP, hD, zWT_sr hH.2.2 (fun q' e => by cases e; rw [ha.2, hr]; unfold zok; rw [if_neg hn]; exact hqT)⟩ hS1 hl)
theorem z_alen (G : zG E p l s m args meth c cc nL own ret A) {a kd t0 : Nat} {ty : FieldType} (ha : zT Y kd a) (hk : ¬ kd < 20) (hty : (zty E)[t0]? = some (E.2.1 kd, ty)) (hd : decode cc pc = .ok (.arraylength, 1)) (kk : WW E Y σ p l e R s m args below meth c A nL cells slots Q lv (pc + 1) (.int (nI (zln Y a)) :: st)) : WW E Y σ p l e R s m args below meth c A nL cells slots Q lv pc (.ref (za Y a) :: st) := fun H locs ls hH hS hl =>
  va_alen G.1 G.2.1 G.2.2.2.2.2.2.2.1.1 hH.1 a t0 (zfl_arr ha hk) hty rfl hd (kk H locs ls hH hS hl)
theorem z_iald (G : zG E p l s m args meth c cc nL own ret A) {a : Nat} {i : Int32} (ha : zT Y 20 a) (hi : vp_in i (zln Y a)) (hd : decode cc pc = .ok (.iaload, 1)) (kk : WW E Y σ p l e R s m args below meth c A nL cells slots Q lv (pc + 1) (.int (gi σ a i.toNatClampNeg) :: st)) : WW E Y σ p l e R s m args below meth c A nL cells slots Q lv pc (.int i :: .ref (za Y a) :: st) := fun H locs ls hH hS hl =>
  va_iald G.1 G.2.1 G.2.2.2.2.2.2.2.1.1 hH.1 a 0 (f := gi σ a) (zfl_arr ha (by decide)) rfl hi hd (kk H locs ls hH hS hl)
theorem z_bald (G : zG E p l s m args meth c cc nL own ret A) {a : Nat} {i : Int32} (ha : zT Y 21 a) (hi : vp_in i (zln Y a)) (hd : decode cc pc = .ok (.baload, 1)) (kk : WW E Y σ p l e R s m args below meth c A nL cells slots Q lv (pc + 1) (.int (gi σ a i.toNatClampNeg) :: st)) : WW E Y σ p l e R s m args below meth c A nL cells slots Q lv pc (.int i :: .ref (za Y a) :: st) := fun H locs ls hH hS hl =>
  va_bald G.1 G.2.1 G.2.2.2.2.2.2.2.1.1 hH.1 a 1 (f := gi σ a) (zfl_arr ha (by decide)) rfl hi hd (kk H locs ls hH hS hl)
theorem z_aald (G : zG E p l s m args meth c cc nL own ret A) {a kd t0 q kq : Nat} {C : String} {i : Int32} (ha : zT Y kd a) (hkd : kd = 22 ∨ kd = 23) (hty : (zty E)[t0]? = some (E.2.1 kd, .object C)) (hi : vp_in i (zln Y a)) (hq : gr σ a i.toNatClampNeg = some q) (hr : ∀ j, zrt kd j = kq) (hn : ¬ kq = 99) (hd : decode cc pc = .ok (.aaload, 1)) (kk : zT Y kq q → WW E Y σ p l e R s m args below meth c A nL cells slots Q lv (pc + 1) (.ref (za Y q) :: st)) : WW E Y σ p l e R s m args below meth c A nL cells slots Q lv pc (.int i :: .ref (za Y a) :: st) := fun H locs ls hH hS hl => by
  have hk : ¬ kd < 20 := by rcases hkd with rfl | rfl <;> decide
  have e : zac Y σ a kd = .inr (.inr (.inr (.inr (fun j => (gr σ a j).map (za Y))))) := by rcases hkd with rfl | rfl <;> rfl
  have h1 := zfl_arr (E := E) (σ := σ) ha hk
  rw [e] at h1
  refine va_aldq G.1 G.2.1 G.2.2.2.2.2.2.2.1.1 hH.1 a t0 h1 hty hi hd ?_
  rw [hq]
  exact kk (zok_T hH.2.2 ha hq (hr _) hn) H locs ls hH hS hl
theorem z_iast (G : zG E p l s m args meth c cc nL own ret A) {a : Nat} {i x : Int32} (ha : zT Y 20 a) (hi : vp_in i (zln Y a)) (hd : decode cc pc = .ok (.iastore, 1)) (kk : WW E Y (si σ a i.toNatClampNeg x) p l e R s m args below meth c A nL cells slots Q lv (pc + 1) st) : WW E Y σ p l e R s m args below meth c A nL cells slots Q lv pc (.int x :: .int i :: .ref (za Y a) :: st) := fun H locs ls hH hS hl =>
  va_iast G.1 G.2.1 G.2.2.2.2.2.2.2.1.1 hH.1 hH.2.1 hS a 0 (f := gi σ a) (zfl_arr ha (by decide)) rfl hi hd (fun H1 locs1 hP hD hS1 => by
    rw [zws_set (σ' := si σ a i.toNatClampNeg x) ha.1 ((zcell_arr ha.2 (by decide)).trans (by show Sum.inl (_, _, Sum.inl (z2 σ.1 a i.toNatClampNeg x a)) = _; rw [z2_eq]; rfl)) (fun b hb => zcell_si_ne hb)] at hP hD
    exact kk H1 locs1 ls ⟨hP, hD, hH.2.2⟩ hS1 hl)
theorem z_bast (G : zG E p l s m args meth c cc nL own ret A) {a : Nat} {i x : Int32} (ha : zT Y 21 a) (hi : vp_in i (zln Y a)) (hd : decode cc pc = .ok (.bastore, 1)) (kk : WW E Y (si σ a i.toNatClampNeg (vp_nar .byte x)) p l e R s m args below meth c A nL cells slots Q lv (pc + 1) st) : WW E Y σ p l e R s m args below meth c A nL cells slots Q lv pc (.int x :: .int i :: .ref (za Y a) :: st) := fun H locs ls hH hS hl =>
  va_bast G.1 G.2.1 G.2.2.2.2.2.2.2.1.1 hH.1 hH.2.1 hS a 1 (f := gi σ a) (zfl_arr ha (by decide)) rfl hi hd (fun H1 locs1 hP hD hS1 => by
    rw [zws_set (σ' := si σ a i.toNatClampNeg (vp_nar .byte x)) ha.1 ((zcell_arr ha.2 (by decide)).trans (by show Sum.inl (_, _, Sum.inl (z2 σ.1 a i.toNatClampNeg (vp_nar .byte x) a)) = _; rw [z2_eq]; rfl)) (fun b hb => zcell_si_ne hb)] at hP hD
    exact kk H1 locs1 ls ⟨hP, hD, hH.2.2⟩ hS1 hl)
theorem z_copyi (G : zG E p l s m args meth c cc nL own ret A) {index a b : Nat} {sp dp n : Int32} (hlink : Cond.methodLink own index arraycopyName ∈ zGL) (hnat : Cond.native arraycopyName ∈ zGL) (hstat : Cond.static arraycopyName ∈ zGL) (hini : Cond.initialized "java/lang/System" ∈ zGL) (ha : zT Y 20 a) (hb : zT Y 20 b) (h1 : ¬ sp < 0) (h2 : ¬ dp < 0) (h3 : ¬ n < 0) (h4 : sp.toNatClampNeg + n.toNatClampNeg ≤ zln Y a) (h5 : dp.toNatClampNeg + n.toNatClampNeg ≤ zln Y b) (hfr : 1 ≤ R.frames) (hlo : (st.map fun v => v.category).sum + (nativeFrameWords "java/lang/System" "arraycopy" 5 + 11) ≤ R.locals) (hd : decode cc pc = .ok (.invokestatic index, 3)) (kk : WW E Y (sI σ b (va_cpy (gi σ a) (gi σ b) sp.toNatClampNeg dp.toNatClampNeg n.toNatClampNeg)) p l e R s m args below meth c A nL cells slots Q lv (pc + 3) st) : WW E Y σ p l e R s m args below meth c A nL cells slots Q lv pc (.int n :: .int dp :: .ref (za Y b) :: .int sp :: .ref (za Y a) :: st) := fun H locs ls hH hS hl =>
  va_copyi G.1 G.2.1 (G.2.2.1.trans hl.1.symm) G.2.2.2.1 (G.2.2.2.2.1 _ hlink) (G.2.2.2.2.1 _ hnat) (G.2.2.2.2.1 _ hstat) (G.2.2.2.2.1 _ hini) G.2.2.2.2.2.2.2.1.1 hH.1 hH.2.1 hS a b 0 0 (ty := .int) (f := gi σ a) (g := gi σ b) (zfl_arr ha (by decide)) (zfl_arr hb (by decide)) rfl rfl rfl h1 h2 h3 h4 h5 (fun _ _ => rfl) hfr hlo hd (fun H1 locs1 hP hD hS1 => by
    rw [zws_set (σ' := sI σ b (va_cpy (gi σ a) (gi σ b) sp.toNatClampNeg dp.toNatClampNeg n.toNatClampNeg)) hb.1 ((zcell_arr hb.2 (by decide)).trans (congrArg (fun f : Nat → Int32 => (Sum.inl (E.2.1 20, zln Y b, Sum.inl f) : va_E)) (gi_sI_self σ b _))) (fun q hq => zcell_sI_ne hq)] at hP hD
    exact kk H1 locs1 ls ⟨hP, hD, hH.2.2⟩ hS1 hl)
end ZH
