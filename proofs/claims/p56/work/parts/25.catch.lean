/-! CATCHING: methods with a table of handlers -/
def zwH (y : MethodName) (cc : ByteArray) (n : Nat) (ret : Option FieldType) (hh : List (Nat × Nat × Nat × Nat)) : List Cond := Cond.codeWith y cc n ret hh :: zGL
theorem z_metH {l : Launch} {y : MethodName} {cc : ByteArray} {n : Nat} {ret : Option FieldType} {hh : List (Nat × Nat × Nat × Nat)} {rm : Room} {E : zE} {Y : zY} {σ : zS} {avs : List Value} {Qc : Nat → Array Value → State → Outcome → State → Prop} {mc ms : Nat} {own : String} (hy : plainName y.cls = true) (hown : y.cls = own) (hlen : (lg_sl avs).length ≤ n)
    (body : ∀ (p : Program) (e : Env) (s : State) (m : MethodId) (args : Array Value) (below : List Frame) (meth : Method) (c : Code), zG E p l s m args meth c cc n own ret (zA Y s.heap.size) → c.exceptionTable.toList = tableOf hh → WW E Y σ p l e rm s m args below meth c (zA Y s.heap.size) n 0 0 (MQ below (Qc s.heap.size) args s mc ms (zA Y s.heap.size)) (lv_args 0 avs) 0 []) :
    ∀ sz, Met l y (zwH y cc n ret hh) rm (zPc E Y σ sz avs) (Qc sz) mc ms (zA Y sz) := by
  intro sz
  refine MetFree.of_bodyS (code := cc) (maxLocals := n) (ret := ret) hy ?_ ?_
  · intro args s m h hn
    obtain ⟨m9, meth, c, hn9, h1, h2, h3, h4, -, h5, h6, -⟩ := Cond.codeWith_spec (atoms_spec (ws := zwH y cc n ret hh) h _ List.mem_cons_self)
    cases hn.symm.trans hn9
    exact ⟨meth, c, h1, h2, h3, h4, h5, h6⟩
  · intro p e s m args below meth c s₁ B hml hv _
    have hh0 : s₁.heap = s.heap := by rw [B.state]; rfl
    obtain ⟨rfl, hsz, hH, hF⟩ := hv
    subst hsz
    have hts := atoms_spec (ws := zwH y cc n ret hh) B.pre
    have hfc : s.vm.findClass own = some m.cls := hown ▸ findClass_of_methodNamed B.named
    have htab := vx_table (x := y) B (hts _ List.mem_cons_self)
    have hl := lv_entry avs (n := n) hlen
    have key : W p l e rm s m avs.toArray below meth c s.heap [] 0 0 (MQ below (Qc s.heap.size) avs.toArray s mc ms (zA Y s.heap.size)) (entryFrame m avs.toArray n) := by
      rw [lg_entry_eq]
      exact body p e s m _ below meth c ⟨B.exec, B.bytes, hml, hfc, fun w hw => hts w (List.mem_cons_of_mem _ hw), B.returns, B.notSynchronized, hF, fun _ h => Or.inr h⟩ htab s.heap [] _ hH va_S.rf hl
    obtain ⟨t, a1, o, b1, b2, b3⟩ := key s₁ hh0 (Stand.of_body B)
    exact ⟨t, o, a1, b1, b2, ⟨b3.1, b3.2⟩⟩
/-- the handler at h takes what is thrown at pc -/
def zCatch (own : String) (pc : Nat) (hh : List (Nat × Nat × Nat × Nat)) (C : String) (h : Nat) : Prop :=
  ∃ (pre : List ExceptionTableEntry) (x : ExceptionTableEntry) (suf : List ExceptionTableEntry), tableOf hh = pre ++ x :: suf ∧ x.handlerPc = h ∧ covers x pc = true ∧ x.catchType ≠ 0 ∧ Cond.classLink own x.catchType C ∈ zGL ∧ Cond.castable C C ∈ zNL ∧ ∀ z ∈ pre, z.catchType ≠ 0 ∧ ∃ nm, Cond.classLink own z.catchType nm ∈ zGL ∧ (C, nm) ∈ zNc
section ZCT
variable {E : zE} {Y : zY} {σ : zS} {p : Program} {l : Launch} {e : Env} {R : Room} {s : State} {m : MethodId} {args : Array Value} {below : List Frame} {meth : Method} {c : Code} {A : Nat → Prop} {nL cells slots : Nat} {Q : State → Prop} {lv lv' : zLV} {pc : Nat} {st st0 : List Value} {cc : ByteArray} {own : String} {ret : Option FieldType} {hh : List (Nat × Nat × Nat × Nat)}
theorem z_kxH (G : zG E p l s m args meth c cc nL own ret A) (htab : c.exceptionTable.toList = tableOf hh) {k n h : Nat} {C : String} (K : zCatch own pc hh C h) {ls : Array Slot} {H1 : Heap} {locs1 : List Loc} {ce : Cell} {q9 : Addr} {σ' : zS} (hH : zH E Y σ' A H1) (hS1 : va_S A s.heap H1 locs1) (hl : lv_has ls nL lv) (hce : H1[q9]? = some ce) (hv : ce.vm = .none) (hcl : s.vm.findClass C = some ce.cls) (kk : WW E Y σ' p l e R s m args below meth c A nL k n Q lv h [.ref q9]) : vx_W p l e R s m args below meth c H1 locs1 k n Q (F0 m pc ls st) q9 := by
  obtain ⟨pre, x, suf, h1, rfl, h3, h4, h5, h6, h7⟩ := K
  exact vx_catch G.2.2.2.1 pre x suf (htab.trans h1) (fun z hz => by
    obtain ⟨a1, nm, a2, a3⟩ := h7 z hz
    exact Or.inr ⟨a1, nm, G.2.2.2.2.1 _ a2, G.2.2.2.2.2.2.2.1.2.2.2.2.2.2.2.2.2.1 _ a3⟩) h3 h4 (G.2.2.2.2.1 _ h5) (va_Nw.use rfl (G.2.2.2.2.2.2.2.1.2.1.1 _ h6)) hce hv hcl (kk H1 locs1 ls hH hS1 hl)
theorem z_callHi (G : zG E p l s m args meth c cc nL own ret A) (htab : c.exceptionTable.toList = tableOf hh) {mc ms : Nat} {X : String → zS → Prop} {Q1 : Int32 → zS → Prop} {as : Array Value} (hr : zRunX E Y σ p l e R s m args below meth c A nL cells slots mc ms pc st0 st (fun sz => va_Qi Q1 (zB E Y sz) (zA Y sz) as) (fun sz => zX X E Y sz)) (kx : ∀ (C : String) (σ' : zS) (q : Nat), X C σ' → ∃ h, zCatch own pc hh C h ∧ WW E Y σ' p l e R s m args below meth c A nL (cells + mc) (slots + ms) Q lv h [.ref q]) (kk : ∀ (r : Int32) (σ' : zS), Q1 r σ' → WW E Y σ' p l e R s m args below meth c A nL (cells + mc) (slots + ms) Q lv (pc + 3) (.int r :: st)) : WW E Y σ p l e R s m args below meth c A nL cells slots Q lv pc st0 := fun H locs ls hH hS hl =>
  vx_calli (hr H locs ls hH hS hl.1) hS (fun q _ h => hH.in hS G.2.2.2.2.2.2.2.2 q h) (hH.in hS G.2.2.2.2.2.2.2.2) (fun q _ h => hH.in hS G.2.2.2.2.2.2.2.2 q h)
    (fun E' ce q9 u t H1 locs1 ht _ hp hB _ _ hS1 hce hv hcl => by
      obtain ⟨u1, u2⟩ := u
      obtain ⟨rfl, hB⟩ := hB
      obtain ⟨h, K, k1⟩ := kx u1 u2 q9 hp
      exact z_kxH G htab K (by rw [← ht]; exact zH.weaken hB (hH.in hS G.2.2.2.2.2.2.2.2)) hS1 hl hce hv hcl k1)
    (fun r u t H1 locs1 ht _ hp hB _ _ hS1 => kk r u hp H1 locs1 ls (by rw [← ht]; exact zH.weaken hB (hH.in hS G.2.2.2.2.2.2.2.2)) hS1 hl)
theorem z_callHd (G : zG E p l s m args meth c cc nL own ret A) (htab : c.exceptionTable.toList = tableOf hh) {mc ms : Nat} {X : String → zS → Prop} {Q1 : UInt64 → zS → Prop} {as : Array Value} (hr : zRunX E Y σ p l e R s m args below meth c A nL cells slots mc ms pc st0 st (fun sz => va_Qd Q1 (zB E Y sz) (zA Y sz) as) (fun sz => zX X E Y sz)) (kx : ∀ (C : String) (σ' : zS) (q : Nat), X C σ' → ∃ h, zCatch own pc hh C h ∧ WW E Y σ' p l e R s m args below meth c A nL (cells + mc) (slots + ms) Q lv h [.ref q]) (kk : ∀ (r : UInt64) (σ' : zS), Q1 r σ' → WW E Y σ' p l e R s m args below meth c A nL (cells + mc) (slots + ms) Q lv (pc + 3) (.double r :: st)) : WW E Y σ p l e R s m args below meth c A nL cells slots Q lv pc st0 := fun H locs ls hH hS hl =>
  vx_calld (hr H locs ls hH hS hl.1) hS (fun q _ h => hH.in hS G.2.2.2.2.2.2.2.2 q h) (hH.in hS G.2.2.2.2.2.2.2.2) (fun q _ h => hH.in hS G.2.2.2.2.2.2.2.2 q h)
    (fun E' ce q9 u t H1 locs1 ht _ hp hB _ _ hS1 hce hv hcl => by
      obtain ⟨u1, u2⟩ := u
      obtain ⟨rfl, hB⟩ := hB
      obtain ⟨h, K, k1⟩ := kx u1 u2 q9 hp
      exact z_kxH G htab K (by rw [← ht]; exact zH.weaken hB (hH.in hS G.2.2.2.2.2.2.2.2)) hS1 hl hce hv hcl k1)
    (fun r u t H1 locs1 ht _ hp hB _ _ hS1 => kk r u hp H1 locs1 ls (by rw [← ht]; exact zH.weaken hB (hH.in hS G.2.2.2.2.2.2.2.2)) hS1 hl)
theorem z_callHv (G : zG E p l s m args meth c cc nL own ret A) (htab : c.exceptionTable.toList = tableOf hh) {mc ms : Nat} {X : String → zS → Prop} {Q1 : zS → Prop} {as : Array Value} (hr : zRunX E Y σ p l e R s m args below meth c A nL cells slots mc ms pc st0 st (fun sz => va_Qv Q1 (zB E Y sz) (zA Y sz) as) (fun sz => zX X E Y sz)) (kx : ∀ (C : String) (σ' : zS) (q : Nat), X C σ' → ∃ h, zCatch own pc hh C h ∧ WW E Y σ' p l e R s m args below meth c A nL (cells + mc) (slots + ms) Q lv h [.ref q]) (kk : ∀ (σ' : zS), Q1 σ' → WW E Y σ' p l e R s m args below meth c A nL (cells + mc) (slots + ms) Q lv (pc + 3) st) : WW E Y σ p l e R s m args below meth c A nL cells slots Q lv pc st0 := fun H locs ls hH hS hl =>
  vx_callv (hr H locs ls hH hS hl.1) hS (fun q _ h => hH.in hS G.2.2.2.2.2.2.2.2 q h) (hH.in hS G.2.2.2.2.2.2.2.2) (fun q _ h => hH.in hS G.2.2.2.2.2.2.2.2 q h)
    (fun E' ce q9 u t H1 locs1 ht _ hp hB _ _ hS1 hce hv hcl => by
      obtain ⟨u1, u2⟩ := u
      obtain ⟨rfl, hB⟩ := hB
      obtain ⟨h, K, k1⟩ := kx u1 u2 q9 hp
      exact z_kxH G htab K (by rw [← ht]; exact zH.weaken hB (hH.in hS G.2.2.2.2.2.2.2.2)) hS1 hl hce hv hcl k1)
    (fun u t H1 locs1 ht _ hp hB _ _ hS1 => kk u hp H1 locs1 ls (by rw [← ht]; exact zH.weaken hB (hH.in hS G.2.2.2.2.2.2.2.2)) hS1 hl)
theorem z_callHAi (G : zG E p l s m args meth c cc nL own ret A) (htab : c.exceptionTable.toList = tableOf hh) {mc ms : Nat} {X : String → zS → Prop} {Q1 : Int32 → zSp → zS → Prop} {as : Array Value} (hr : zRunX E Y σ p l e R s m args below meth c A nL cells slots mc ms pc st0 st (fun sz => va_Qi (fun r (u : zY × zS) => Q1 r (zsp u.1) u.2) (zBA E Y sz) (zA Y sz) as) (fun sz => zX X E Y sz)) (kx : ∀ (C : String) (σ' : zS) (q : Nat), X C σ' → ∃ h, zCatch own pc hh C h ∧ WW E Y σ' p l e R s m args below meth c A nL (cells + mc) (slots + ms) Q lv h [.ref q]) (kk : ∀ (Y1 : zY) (r : Int32) (σ' : zS), zext Y Y1 → Q1 r (zsp Y1) σ' → WW E Y1 σ' p l e R s m args below meth c A nL (cells + mc) (slots + ms) Q lv (pc + 3) (.int r :: st)) : WW E Y σ p l e R s m args below meth c A nL cells slots Q lv pc st0 := fun H locs ls hH hS hl =>
  vx_calli (hr H locs ls hH hS hl.1) hS (fun q _ h => hH.in hS G.2.2.2.2.2.2.2.2 q h) (hH.in hS G.2.2.2.2.2.2.2.2) (fun q _ h => hH.in hS G.2.2.2.2.2.2.2.2 q h)
    (fun E' ce q9 u t H1 locs1 ht _ hp hB _ _ hS1 hce hv hcl => by
      obtain ⟨u1, u2⟩ := u
      obtain ⟨rfl, hB⟩ := hB
      obtain ⟨h, K, k1⟩ := kx u1 u2 q9 hp
      exact z_kxH G htab K (by rw [← ht]; exact zH.weaken hB (hH.in hS G.2.2.2.2.2.2.2.2)) hS1 hl hce hv hcl k1)
    (fun r u t H1 locs1 ht _ hp hB _ _ hS1 => kk u.1 r u.2 hB.1 hp H1 locs1 ls (by rw [← ht]; exact zH.weaken hB.2 (hH.in hS G.2.2.2.2.2.2.2.2)) hS1 hl)
/-- a call of a static method that has handlers -/
def zkSH (own : String) (index : Nat) (y : MethodName) (bytes : ByteArray) (maxL : Nat) (ret : Option FieldType) (hh : List (Nat × Nat × Nat × Nat)) (n : Nat) : Prop := Cond.methodLink own index y ∈ zGL ∧ Cond.initialized y.cls ∈ zGL ∧ Cond.codeWith y bytes maxL ret hh ∈ zGL ∧ (y.cls ≠ "java/lang/invoke/MethodHandle" ∧ y.cls ≠ "java/lang/invoke/VarHandle" ∧ (parseMethodDescriptor y.desc).map (fun d => d.parameters.length) = some n) ∧ Cond.static y ∈ zGL
theorem z_runSH (G : zG E p l s m args meth c cc nL own ret A) {index maxL n : Nat} {y : MethodName} {bytes : ByteArray} {ret' : Option FieldType} {h2 : List (Nat × Nat × Nat × Nat)} {rm : Room} {As : List Value} {Qc : Nat → Array Value → State → Outcome → State → Prop} (K : zkSH own index y bytes maxL ret' h2 n) (hM : ∀ sz, Met l y (zwH y bytes maxL ret' h2) rm (zPc E Y σ sz As) (Qc sz) rm.cells rm.slots (zA Y sz)) (hR : rm.frames + 1 ≤ R.frames ∧ 8 + (maxL + 11) + rm.locals ≤ R.locals) (hn : As.length = n) (hst : (st.map fun v => v.category).sum ≤ 8) (hd : decode cc pc = .ok (.invokestatic index, 3)) (hf : cells + rm.cells ≤ R.cells ∧ slots + rm.slots ≤ R.slots) (h0 : As.reverse ++ st = st0) : zRun E Y σ p l e R s m args below meth c A nL cells slots rm.cells rm.slots pc st0 st (fun sz => Qc sz As.toArray) := by
  subst h0
  intro H locs ls hH hS hl
  have hts := G.2.2.2.2.1
  exact vx_runSW (hh := h2) ⟨G.1, G.2.1, G.2.2.1, G.2.2.2.1, hts⟩ (hM H.size) ⟨⟨rfl, rfl, hR.1, hR.2, pay_in hts (fun w hw => (List.mem_cons.mp hw).elim (fun e => e ▸ zGL_good K.2.2.1) (fun h => zGL_good h)), List.mem_cons_self⟩, hts _ K.2.2.1, hts _ K.2.1, ⟨K.2.2.2.1.1, K.2.2.2.1.2.1⟩, fun sig h => by
      have h2 := K.2.2.2.1.2.2
      rw [h] at h2
      exact (Option.some.inj h2).symm, hts _ K.1, hts _ K.2.2.2.2⟩ (zpreS hH hS G.2.2.2.2.2.2.2.2 G.2.2.2.2.2.2.2.1) rfl hn hl rfl (lv_room hst) hd hf
end ZCT
