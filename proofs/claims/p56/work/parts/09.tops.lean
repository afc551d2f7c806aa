theorem z_metF {l : Launch} {y : MethodName} {cc : ByteArray} {n : Nat} {ret : Option FieldType} {rm : Room} {E : zE} {Y : zY} {σ : zS} {avs : List Value} {Qc : Nat → Array Value → State → Outcome → State → Prop} {mc ms : Nat} {own : String} (hy : plainFor y = true) (hown : y.cls = own) (hlen : (lg_sl avs).length ≤ n)
    (body : ∀ (p : Program) (e : Env) (s : State) (m : MethodId) (args : Array Value) (below : List Frame) (meth : Method) (c : Code), zG E p l s m args meth c cc n own ret (zA Y s.heap.size) → meth.name = y.name → WW E Y σ p l e rm s m args below meth c (zA Y s.heap.size) n 0 0 (MQ below (Qc s.heap.size) args s mc ms (zA Y s.heap.size)) (lv_args 0 avs) 0 []) :
    ∀ sz, Met l y (zw y cc n ret) rm (zPc E Y σ sz avs) (Qc sz) mc ms (zA Y sz) := by
  intro sz
  refine MetFree.of_bodySF (code := cc) (maxLocals := n) (ret := ret) hy ?_ ?_
  · intro args s m h hn
    obtain ⟨meth, c, h1, h2, h3, h4, h5, h6, -, -⟩ := Cond.code_spec hn (atoms_spec (ws := zw y cc n ret) h _ List.mem_cons_self)
    exact ⟨meth, c, h1, h2, h3, h4, h5, h6⟩
  · intro p e s m args below meth c s₁ B hml hv _
    have hh0 : s₁.heap = s.heap := by rw [B.state]; rfl
    obtain ⟨rfl, hsz, hH, hF⟩ := hv
    subst hsz
    have hts := atoms_spec (ws := zw y cc n ret) B.pre
    have hfc : s.vm.findClass own = some m.cls := hown ▸ findClass_of_methodNamed B.named
    have hl := lv_entry avs (n := n) hlen
    have key : W p l e rm s m avs.toArray below meth c s.heap [] 0 0 (MQ below (Qc s.heap.size) avs.toArray s mc ms (zA Y s.heap.size)) (entryFrame m avs.toArray n) := by
      rw [lg_entry_eq]
      exact body p e s m _ below meth c ⟨B.exec, B.bytes, hml, hfc, fun w hw => hts w (List.mem_cons_of_mem _ hw), B.returns, B.notSynchronized, hF, fun _ h => Or.inr h⟩ (name_of_methodNamed B.named B.method).1 s.heap [] _ hH va_S.rf hl
    obtain ⟨t, a1, o, b1, b2, b3⟩ := key s₁ hh0 (Stand.of_body B)
    exact ⟨t, o, a1, b1, b2, ⟨b3.1, b3.2⟩⟩
theorem z_topi {E : zE} {Y : zY} {σ : zS} {p : Program} {l : Launch} {e : Env} {R : Room} {s : State} {m : MethodId} {args : Array Value} {below : List Frame} {meth : Method} {c : Code} {A : Nat → Prop} {nL cells slots : Nat} {Q : State → Prop} {lv : zLV} {pc : Nat} {st : List Value} {x : Int32} (k : ∀ y : Int32, y = x → WW E Y σ p l e R s m args below meth c A nL cells slots Q lv pc (.int y :: st)) : WW E Y σ p l e R s m args below meth c A nL cells slots Q lv pc (.int x :: st) := k x rfl
theorem z_topl {E : zE} {Y : zY} {σ : zS} {p : Program} {l : Launch} {e : Env} {R : Room} {s : State} {m : MethodId} {args : Array Value} {below : List Frame} {meth : Method} {c : Code} {A : Nat → Prop} {nL cells slots : Nat} {Q : State → Prop} {lv : zLV} {pc : Nat} {st : List Value} {x : Int64} (k : ∀ y : Int64, y = x → WW E Y σ p l e R s m args below meth c A nL cells slots Q lv pc (.long y :: st)) : WW E Y σ p l e R s m args below meth c A nL cells slots Q lv pc (.long x :: st) := k x rfl
theorem z_topd {E : zE} {Y : zY} {σ : zS} {p : Program} {l : Launch} {e : Env} {R : Room} {s : State} {m : MethodId} {args : Array Value} {below : List Frame} {meth : Method} {c : Code} {A : Nat → Prop} {nL cells slots : Nat} {Q : State → Prop} {lv : zLV} {pc : Nat} {st : List Value} {x : UInt64} (k : ∀ y : UInt64, y = x → WW E Y σ p l e R s m args below meth c A nL cells slots Q lv pc (.double y :: st)) : WW E Y σ p l e R s m args below meth c A nL cells slots Q lv pc (.double x :: st) := k x rfl
theorem z_topσ {E : zE} {Y : zY} {σ : zS} {p : Program} {l : Launch} {e : Env} {R : Room} {s : State} {m : MethodId} {args : Array Value} {below : List Frame} {meth : Method} {c : Code} {A : Nat → Prop} {nL cells slots : Nat} {Q : State → Prop} {lv : zLV} {pc : Nat} {st : List Value} (k : ∀ σ' : zS, σ' = σ → WW E Y σ' p l e R s m args below meth c A nL cells slots Q lv pc st) : WW E Y σ p l e R s m args below meth c A nL cells slots Q lv pc st := k σ rfl
theorem z_tsw {E : zE} {Y : zY} {σ : zS} {p : Program} {l : Launch} {e : Env} {R : Room} {s : State} {m : MethodId} {args : Array Value} {below : List Frame} {meth : Method} {c : Code} {A : Nat → Prop} {nL cells slots : Nat} {Q : State → Prop} {lv : zLV} {pc : Nat} {st : List Value} {cc : ByteArray} {own : String} {ret : Option FieldType} (G : zG E p l s m args meth c cc nL own ret A) {dflt lo hi : Int} {offs : Array Int} {len : Nat} {x : Int32} {off : Int} {tgt : Nat} (hdg : decode cc pc = .ok (.tableswitch dflt lo hi offs, len)) (h12 : ¬ x.toInt < lo) (h2 : ¬ hi < x.toInt) (ho : offs[(x.toInt - lo).toNat]? = some off) (ht : (pc : Int) + off = (tgt : Int)) (k : WW E Y σ p l e R s m args below meth c A nL cells slots Q lv tgt st) : WW E Y σ p l e R s m args below meth c A nL cells slots Q lv pc (.int x :: st) := fun H locs ls hH hS hl => lv_tableIn G.1 G.2.1 hdg h12 h2 ho ht (k H locs ls hH hS hl)
theorem z_tswD {E : zE} {Y : zY} {σ : zS} {p : Program} {l : Launch} {e : Env} {R : Room} {s : State} {m : MethodId} {args : Array Value} {below : List Frame} {meth : Method} {c : Code} {A : Nat → Prop} {nL cells slots : Nat} {Q : State → Prop} {lv : zLV} {pc : Nat} {st : List Value} {cc : ByteArray} {own : String} {ret : Option FieldType} (G : zG E p l s m args meth c cc nL own ret A) {dflt lo hi : Int} {offs : Array Int} {len : Nat} {x : Int32} {tgt : Nat} (hdg : decode cc pc = .ok (.tableswitch dflt lo hi offs, len)) (h : x.toInt < lo ∨ hi < x.toInt) (ht : (pc : Int) + dflt = (tgt : Int)) (k : WW E Y σ p l e R s m args below meth c A nL cells slots Q lv tgt st) : WW E Y σ p l e R s m args below meth c A nL cells slots Q lv pc (.int x :: st) := fun H locs ls hH hS hl => lv_tableOut G.1 G.2.1 hdg h ht (k H locs ls hH hS hl)
theorem z_out3 {x : Int32} (h0 : ¬ x = 0) (h1 : ¬ x = 1) (h2 : ¬ x = 2) : x.toInt < 0 ∨ 2 < x.toInt := by
  have a0 : x.toInt ≠ 0 := fun e => h0 (Int32.toInt_inj.mp e)
  have a1 : x.toInt ≠ 1 := fun e => h1 (Int32.toInt_inj.mp e)
  have a2 : x.toInt ≠ 2 := fun e => h2 (Int32.toInt_inj.mp e)
  omega
