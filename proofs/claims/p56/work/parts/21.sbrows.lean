/-! STRINGBUILDER: private methods of the class above, super calls, copies of bytes, the digit tables -/
/-- a private method of the class above is chosen as it stands -/
theorem zsel_up {C : String} {x y : MethodName} {s : State} {args : Array Value} (hy : y.cls ≠ "java/lang/invoke/MethodHandle" ∧ y.cls ≠ "java/lang/invoke/VarHandle") (hx : x.cls = y.cls) (hsel : (Cond.selects C x x).before args s = true) (hpriv : (Cond.privateMethod y).before args s = true) (hinst : (Cond.instanceMethod y).before args s = true) : (Cond.selects C y y).before args s = true := by
  obtain ⟨c, r, mx, hc, -, hnx, -, mk, hmk, hmi⟩ := Cond.selects_spec hsel
  obtain ⟨my, methM, hnamed, hmethM, -, -⟩ := Cond.instanceMethod_spec hinst
  have hfound : s.methodFound? y.cls y.name y.desc = some my := State.methodFound?_of_named hnamed hy
  have h1 : my.cls = mx.cls := Option.some.inj ((findClass_of_methodNamed hnamed).symm.trans (hx ▸ findClass_of_methodNamed hnx))
  have hs : selectMethod {} s.vm c my = .method my := selectMethod_private hmethM (Cond.privateMethod_at hpriv my methM hnamed hmethM)
  have hk : s.vm.classes[my.cls]? = some mk := by rw [h1]; exact hmk
  simp only [Cond.before, Cond.holds, Cond.value, hc, hfound, hnamed, hs, hk]
  simp; exact hmi
def zkU (own : String) (index : Nat) (C : String) (y : MethodName) (bytes : ByteArray) (maxL : Nat) (ret : Option FieldType) (n : Nat) : Prop := zkC own index y bytes maxL ret n ∧ Cond.instanceMethod y ∈ zGL ∧ Cond.sameMethod y.cls y.cls y.name y.desc ∈ zGL ∧ (Cond.selects C y y ∈ zGL ∨ Cond.selects C y y ∈ zUp)
def zkP (own : String) (index : Nat) (y : MethodName) (bytes : ByteArray) (maxL : Nat) (ret : Option FieldType) (n : Nat) : Prop := zkC own index y bytes maxL ret n ∧ Cond.instanceMethod y ∈ zGL ∧ Cond.sameMethod y.cls y.cls y.name y.desc ∈ zGL ∧ Cond.superclass own y.cls ∈ zGL ∧ y.name ≠ "<init>"
theorem zSb_fit0 : ∀ i, i < 30 → ∀ j, j < 40 → fits .byte (.int ((zSbyt.getD i []).getD j 0)) = true := by decide +kernel
theorem zSb_len : ∀ i, i < 30 → (zSbyt.getD i []).length ≤ 40 := by decide +kernel
theorem zSb_fit {i : Nat} (hi : i < zS_n) (j : Nat) : fits .byte (.int ((zSbyt.getD i []).getD j 0)) = true := by
  have hi' : i < 30 := hi
  by_cases hj : j < 40
  · exact zSb_fit0 i hi' j hj
  · have h1 := zSb_len i hi'
    rw [List.getD_eq_getElem?_getD, List.getElem?_eq_none (by omega)]
    decide
section ZSB
variable {E : zE} {Y Y0 : zY} {σ : zS} {p : Program} {l : Launch} {e : Env} {R : Room} {s : State} {m : MethodId} {args : Array Value} {below : List Frame} {meth : Method} {c : Code} {A : Nat → Prop} {nL cells slots : Nat} {Q : State → Prop} {lv lv' : zLV} {pc : Nat} {st st0 : List Value} {cc : ByteArray} {own : String} {ret : Option FieldType}
theorem z_runU (G : zG E p l s m args meth c cc nL own ret A) {C : String} {index maxL n ci t0 : Nat} {y : MethodName} {bytes : ByteArray} {ret' : Option FieldType} {rm : Room} {T : u_T} {N : Nat} {As : List Value} {Qc : Nat → Array Value → State → Outcome → State → Prop} (K : zkU own index C y bytes maxL ret' n) (hM : ∀ sz, Met l y (zw y bytes maxL ret') rm (zPc E Y σ sz (.ref (za Y t0) :: As)) (Qc sz) rm.cells rm.slots (zA Y sz)) (hR : rm.frames + 1 ≤ R.frames ∧ 8 + (maxL + 11) + rm.locals ≤ R.locals) (ht : zT Y ci t0) (hc : zcl[ci]? = some (C, T, N)) (hci : ci < 20) (hn : As.length = n) (hst : (st.map fun v => v.category).sum ≤ 8) (hd : decode cc pc = .ok (.invokevirtual index, 3)) (hf : cells + rm.cells ≤ R.cells ∧ slots + rm.slots ≤ R.slots) (h0 : As.reverse ++ .ref (za Y t0) :: st = st0) : zRun E Y σ p l e R s m args below meth c A nL cells slots rm.cells rm.slots pc st0 st (fun sz => Qc sz (Value.ref (za Y t0) :: As).toArray) := by
  subst h0
  intro H locs ls hH hS hl
  have hts := G.2.2.2.2.1
  have hcd := hts _ K.1.2.2.1
  have hin := hts _ K.2.1
  have hy : y.cls ≠ "java/lang/invoke/MethodHandle" ∧ y.cls ≠ "java/lang/invoke/VarHandle" := ⟨K.1.2.2.2.1, K.1.2.2.2.2.1⟩
  have hsel : (Cond.selects C y y).before args s = true := by
    rcases K.2.2.2 with h | h
    · exact hts _ h
    · exact va_Nw.use rfl (G.2.2.2.2.2.2.2.1.2.1.2.2 _ h)
  have hdc : va_Decl s ⟨y.cls, y.name, y.desc⟩ := va_Decl.of (args := args) (hts _ K.2.1) hcd
  exact va_runU (C := C) (owner := y.cls) (x := y) (y := y) ⟨G.1, G.2.1, G.2.2.1, G.2.2.2.1, hts⟩ (hM H.size)
    ⟨⟨rfl, rfl, hR.1, hR.2, pay_in hts (zw_good K.1.2.2.1), List.mem_cons_self⟩, hcd, hts _ K.1.2.1, hy, fun sig h => by
      have h2 := K.1.2.2.2.2.2
      rw [h] at h2
      exact (Option.some.inj h2).symm, hts _ K.1.1, hts _ K.2.2.1, hdc, hsel, hin⟩
    ⟨zPc.blind, va_recv G.2.2.2.2.2.2.2.1.1 hH.1 hc (by rw [zws_at ht.1, zcell_obj ht.2 hci]), (zpreS hH hS G.2.2.2.2.2.2.2.2 G.2.2.2.2.2.2.2.1).2⟩ rfl hn hl rfl (lv_room hst) hd hf
theorem z_runSU (G : zG E p l s m args meth c cc nL own ret A) {C : String} {index maxL n ci t0 : Nat} {y : MethodName} {bytes : ByteArray} {ret' : Option FieldType} {rm : Room} {T : u_T} {N : Nat} {As : List Value} {Qc : Nat → Array Value → State → Outcome → State → Prop} (K : zkP own index y bytes maxL ret' n) (hM : ∀ sz, Met l y (zw y bytes maxL ret') rm (zPc E Y σ sz (.ref (za Y t0) :: As)) (Qc sz) rm.cells rm.slots (zA Y sz)) (hR : rm.frames + 1 ≤ R.frames ∧ 8 + (maxL + 11) + rm.locals ≤ R.locals) (ht : zT Y ci t0) (hc : zcl[ci]? = some (C, T, N)) (hci : ci < 20) (hn : As.length = n) (hst : (st.map fun v => v.category).sum ≤ 8) (hd : decode cc pc = .ok (.invokespecial index, 3)) (hf : cells + rm.cells ≤ R.cells ∧ slots + rm.slots ≤ R.slots) (h0 : As.reverse ++ .ref (za Y t0) :: st = st0) : zRun E Y σ p l e R s m args below meth c A nL cells slots rm.cells rm.slots pc st0 st (fun sz => Qc sz (Value.ref (za Y t0) :: As).toArray) := by
  subst h0
  intro H locs ls hH hS hl
  have hts := G.2.2.2.2.1
  exact va_runSU (C := C) ((G.2.2.2.2.2.2.2.1.1.1 ci _ hc).2) ⟨G.1, G.2.1, G.2.2.1, G.2.2.2.1, hts⟩ (hM H.size)
    ⟨⟨rfl, rfl, hR.1, hR.2, pay_in hts (zw_good K.1.2.2.1), List.mem_cons_self⟩, hts _ K.1.1, hts _ K.2.2.1, hts _ K.2.2.2.1, hts _ K.2.1, hts _ K.1.2.1, hts _ K.1.2.2.1, K.2.2.2.2, fun sig h => by
      have h2 := K.1.2.2.2.2.2
      rw [h] at h2
      exact (Option.some.inj h2).symm⟩
    ⟨zPc.blind, va_recv G.2.2.2.2.2.2.2.1.1 hH.1 hc (by rw [zws_at ht.1, zcell_obj ht.2 hci]), (zpreS hH hS G.2.2.2.2.2.2.2.2 G.2.2.2.2.2.2.2.1).2⟩ rfl hn hl rfl (lv_room hst) hd hf
theorem z_copyb (G : zG E p l s m args meth c cc nL own ret A) {index a b : Nat} {sp dp n : Int32} (hlink : Cond.methodLink own index arraycopyName ∈ zGL) (hnat : Cond.native arraycopyName ∈ zGL) (hstat : Cond.static arraycopyName ∈ zGL) (hini : Cond.initialized "java/lang/System" ∈ zGL) (ha : zT Y 21 a) (hb : zT Y 21 b) (h1 : ¬ sp < 0) (h2 : ¬ dp < 0) (h3 : ¬ n < 0) (h4 : sp.toNatClampNeg + n.toNatClampNeg ≤ zln Y a) (h5 : dp.toNatClampNeg + n.toNatClampNeg ≤ zln Y b) (hfit : ∀ i : Nat, i < n.toNatClampNeg → fits .byte (.int (gi σ a (sp.toNatClampNeg + i))) = true) (hfr : 1 ≤ R.frames) (hlo : (st.map fun v => v.category).sum + (nativeFrameWords "java/lang/System" "arraycopy" 5 + 11) ≤ R.locals) (hd : decode cc pc = .ok (.invokestatic index, 3)) (kk : WW E Y (sI σ b (va_cpy (gi σ a) (gi σ b) sp.toNatClampNeg dp.toNatClampNeg n.toNatClampNeg)) p l e R s m args below meth c A nL cells slots Q lv (pc + 3) st) : WW E Y σ p l e R s m args below meth c A nL cells slots Q lv pc (.int n :: .int dp :: .ref (za Y b) :: .int sp :: .ref (za Y a) :: st) := fun H locs ls hH hS hl =>
  va_copyi G.1 G.2.1 (G.2.2.1.trans hl.1.symm) G.2.2.2.1 (G.2.2.2.2.1 _ hlink) (G.2.2.2.2.1 _ hnat) (G.2.2.2.2.1 _ hstat) (G.2.2.2.2.1 _ hini) G.2.2.2.2.2.2.2.1.1 hH.1 hH.2.1 hS a b 1 1 (ty := .byte) (f := gi σ a) (g := gi σ b) (zfl_arr ha (by decide)) (zfl_arr hb (by decide)) rfl rfl rfl h1 h2 h3 h4 h5 hfit hfr hlo hd (fun H1 locs1 hP hD hS1 => by
    rw [zws_set (σ' := sI σ b (va_cpy (gi σ a) (gi σ b) sp.toNatClampNeg dp.toNatClampNeg n.toNatClampNeg)) hb.1 ((zcell_arr hb.2 (by decide)).trans (congrArg (fun f : Nat → Int32 => (Sum.inl (E.2.1 21, zln Y b, Sum.inl f) : va_E)) (gi_sI_self σ b _))) (fun q hq => zcell_sI_ne hq)] at hP hD
    exact kk H1 locs1 ls ⟨hP, hD, hH.2.2⟩ hS1 hl)
theorem z_copyt (G : zG E p l s m args meth c cc nL own ret (zA Y0 s.heap.size)) {index i b : Nat} {sp dp n : Int32} (hlink : Cond.methodLink own index arraycopyName ∈ zGL) (hnat : Cond.native arraycopyName ∈ zGL) (hstat : Cond.static arraycopyName ∈ zGL) (hini : Cond.initialized "java/lang/System" ∈ zGL) (hi : i < zS_n) (hb : zT Y 21 b) (h1 : ¬ sp < 0) (h2 : ¬ dp < 0) (h3 : ¬ n < 0) (h4 : sp.toNatClampNeg + n.toNatClampNeg ≤ zSlen.getD i 0) (h5 : dp.toNatClampNeg + n.toNatClampNeg ≤ zln Y b) (hfr : 1 ≤ R.frames) (hlo : (st.map fun v => v.category).sum + (nativeFrameWords "java/lang/System" "arraycopy" 5 + 11) ≤ R.locals) (hd : decode cc pc = .ok (.invokestatic index, 3)) (kk : WW E Y (sI σ b (va_cpy (fun j => (zSbyt.getD i []).getD j 0) (gi σ b) sp.toNatClampNeg dp.toNatClampNeg n.toNatClampNeg)) p l e R s m args below meth c (zA Y0 s.heap.size) nL cells slots Q lv (pc + 3) st) : WW E Y σ p l e R s m args below meth c (zA Y0 s.heap.size) nL cells slots Q lv pc (.int n :: .int dp :: .ref (za Y b) :: .int sp :: .ref (E.2.2.2 i) :: st) := fun H locs ls hH hS hl =>
  vk_copyt G.1 G.2.1 (G.2.2.1.trans hl.1.symm) G.2.2.2.1 (G.2.2.2.2.1 _ hlink) (G.2.2.2.2.1 _ hnat) (G.2.2.2.2.1 _ hstat) (G.2.2.2.2.1 _ hini) G.2.2.2.2.2.2.2.1.1 hH.1 hH.2.1 hS (f := fun j => (zSbyt.getD i []).getD j 0) (G.2.2.2.2.2.2.2.1.2.2.1.1 i hi).2.2.2 b 1 (g := gi σ b) (zfl_arr hb (by decide)) rfl h1 h2 h3 h4 h5 (fun j _ => zSb_fit hi _) hfr hlo hd (fun H1 locs1 hP hD hS1 => by
    rw [zws_set (σ' := sI σ b (va_cpy (fun j => (zSbyt.getD i []).getD j 0) (gi σ b) sp.toNatClampNeg dp.toNatClampNeg n.toNatClampNeg)) hb.1 ((zcell_arr hb.2 (by decide)).trans (congrArg (fun f : Nat → Int32 => (Sum.inl (E.2.1 21, zln Y b, Sum.inl f) : va_E)) (gi_sI_self σ b _))) (fun q hq => zcell_sI_ne hq)] at hP hD
    exact kk H1 locs1 ls ⟨hP, hD, hH.2.2⟩ hS1 hl)
theorem z_digT (G : zG E p l s m args meth c cc nL own ret A) {index : Nat} (hlink : Cond.fieldLink own index "java/lang/Integer" "DigitTens" "[B" ∈ zGL) (hd : decode cc pc = .ok (.getstatic index, 3)) (k : WW E Y σ p l e R s m args below meth c A nL cells slots Q lv (pc + 3) (.ref (E.2.2.2 1001) :: st)) : WW E Y σ p l e R s m args below meth c A nL cells slots Q lv pc st := fun H locs ls hH hS hl =>
  va_gets G.1 G.2.1 G.2.2.2.2.2.2.2.1.2.2.2.2.2.2.2.1.1 hS G.2.2.2.1 (G.2.2.2.2.1 _ hlink) (fun _ h => h) hd (k H locs ls hH hS hl)
theorem z_digOld (G : zG E p l s m args meth c cc nL own ret (zA Y0 s.heap.size)) {j : Int32} (hj : vp_in j 100) (hd : decode cc pc = .ok (.baload, 1)) (k : WW E Y σ p l e R s m args below meth c (zA Y0 s.heap.size) nL cells slots Q lv (pc + 1) (.int (zDO j.toNatClampNeg) :: st)) : WW E Y σ p l e R s m args below meth c (zA Y0 s.heap.size) nL cells slots Q lv pc (.int j :: .ref (E.2.2.2 1000) :: st) := fun H locs ls hH hS hl =>
  va_tb G.1 G.2.1 G.2.2.2.2.2.2.2.1.2.2.2.2.2.2.1.2 hS hj rfl hd (k H locs ls hH hS hl)
theorem z_digTld (G : zG E p l s m args meth c cc nL own ret (zA Y0 s.heap.size)) {j : Int32} (hj : vp_in j 100) (hd : decode cc pc = .ok (.baload, 1)) (k : WW E Y σ p l e R s m args below meth c (zA Y0 s.heap.size) nL cells slots Q lv (pc + 1) (.int (zDT j.toNatClampNeg) :: st)) : WW E Y σ p l e R s m args below meth c (zA Y0 s.heap.size) nL cells slots Q lv pc (.int j :: .ref (E.2.2.2 1001) :: st) := fun H locs ls hH hS hl =>
  va_tb G.1 G.2.1 G.2.2.2.2.2.2.2.1.2.2.2.2.2.2.2.1.2 hS hj rfl hd (k H locs ls hH hS hl)
end ZSB
