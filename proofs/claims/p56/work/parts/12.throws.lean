section VXE
variable {p : Program} {l : Launch} {e : Env} {R : Room} {s : State} {m : MethodId} {args : Array Value} {below : List Frame} {meth : Method} {c : Code} {H : Heap} {locs : List Loc} {cells slots : Nat} {Q : State → Prop}
variable {pc mc ms : Nat} {free : Addr → Prop} {A0 A1 : Nat → Prop} {H0 : Heap} {a : Array Value} {ls : Array Slot} {st0 rest : List Value}
theorem vx_calle {ad : Nat → Nat} {S SX : Type} {post : Option Nat → S → Prop} {px : SX → Prop} {B : S → State → Prop} {BX : String → SX → State → Prop} {AX : Nat → Prop} (hr : vx_Run p l e R s m args below meth c H locs cells slots mc ms (F0 m pc ls st0) rest (va_Qe ad post B A1 a) (vx_X px BX AX) free) (hS : va_S A0 H0 H locs) (hA : ∀ q, q < H.size → A1 q → A0 q) (hf : ∀ q, free q → A0 q) (hAX : ∀ q, q < H.size → AX q → A0 q)
    (kx : ∀ (E : String) (ce : Cell) (q9 : Addr) (u : SX) (t : State) (H1 : Heap) (locs1 : List Loc), t.heap = H1 → s.vm.Alike t.vm → px u → BX E u t → H.size ≤ H1.size → (∀ q : Nat, q < H.size → ¬ AX q → H1[q]? = H[q]?) → va_S A0 H0 H1 locs1 → H1[q9]? = some ce → ce.vm = .none → s.vm.findClass E = some ce.cls → vx_W p l e R s m args below meth c H1 locs1 (cells + mc) (slots + ms) Q (F0 m pc ls rest) q9)
    (kk : ∀ (r : Option Nat) (u : S) (t : State) (H1 : Heap) (locs1 : List Loc), t.heap = H1 → s.vm.Alike t.vm → post r u → B u t → H.size ≤ H1.size → (∀ q : Nat, q < H.size → ¬ A1 q → H1[q]? = H[q]?) → va_S A0 H0 H1 locs1 → W p l e R s m args below meth c H1 locs1 (cells + mc) (slots + ms) Q (F0 m (pc + 3) ls (va_re ad r :: rest))) : W p l e R s m args below meth c H locs cells slots Q (F0 m pc ls st0) := by
  intro T hT X
  rcases hr T hT X with ⟨v, st₀, t, T', L, h0, X', hL, e1, e2, ⟨⟨r, u, hv, hp, hb⟩, hF⟩, st⟩ | ⟨q, st₀, t, T', L, E, ce, h0, X', hL, e1, e2, ⟨u, hp, hb, hF⟩, hce, hcv, hcl, st⟩
  · cases hv
    obtain ⟨k1, k2, k3⟩ := vx_keep h0 e1 hS hA hf hL hF
    obtain ⟨t2, a1, b1⟩ := kk r u t T'.heap (locs ++ L) e1.symm (by rw [← e2]; exact X'.warmed.alike) hp hb k1 k2 k3 T' rfl X'
    exact ⟨t2, st t2 a1, b1⟩
  · obtain ⟨k1, k2, k3⟩ := vx_keep h0 e1 hS hAX hf hL hF
    obtain ⟨t2, a1, b1⟩ := kx E ce q u t T'.heap (locs ++ L) e1.symm (by rw [← e2]; exact X'.warmed.alike) hp hb k1 k2 k3 (by rw [e1]; exact hce) hcv hcl T' rfl X'
    exact ⟨t2, st.trans a1, b1⟩
end VXE

/-! THROWS: what a method that may throw owes; the texts; calls that may throw -/
def zX (X : String → zS → Prop) (E : zE) (Y : zY) (sz : Nat) : String → State → State → Prop := vx_X (S := String × zS) (fun u => X u.1 u.2) (fun E' u t => u.1 = E' ∧ zH E Y u.2 (zA Y sz) t.heap) (zA Y sz)
def zthr (own : String) (ik ic : Nat) (cls : String) (names : List String) : Prop := Cond.classLink own ik cls ∈ zGL ∧ Cond.initialized cls ∈ zGL ∧ (∀ w ∈ vx_atS own ic cls names, w ∈ zGL ∨ w ∈ zNL) ∧ Bundle.fit cls = true ∧ ∀ n ∈ names, Bundle.fit n = true
theorem zGN_ot {w : Cond} (h : w ∈ zGL ∨ w ∈ zNL) : vx_ot w = true := by
  rcases h with h | h
  · have h1 := (List.mem_filter.mp h).2
    unfold vx_ot
    rw [h1, Bool.or_true]
  · have h1 := (List.mem_filter.mp h).2
    cases w <;> first | (simp [zNest] at h1; done) | rfl
theorem zGN_b {w : Cond} {s : State} {args : Array Value} (h : w ∈ zGL ∨ w ∈ zNL) (hg : ∀ w ∈ zGL, w.before args s = true) (hn : ∀ w ∈ zNL, va_Nw w s) : w.before args s = true := by
  rcases h with h | h
  · exact hg w h
  · have h1 := (List.mem_filter.mp h).2
    have h2 := hn w h
    cases w <;> first | (simp [zNest] at h1; done) | exact va_Nw.use rfl h2
theorem zmemL {ws : List Cond} (h : ws.all (fun w => decide (w ∈ lw_tbl) && (goodWord w || zNest w)) = true) : ∀ w ∈ ws, w ∈ zGL ∨ w ∈ zNL := by
  intro w hw
  have h1 := List.all_eq_true.mp h w hw
  simp only [Bool.and_eq_true, decide_eq_true_eq, Bool.or_eq_true] at h1
  rcases h1.2 with h2 | h2
  · exact Or.inl (List.mem_filter.mpr ⟨h1.1, h2⟩)
  · exact Or.inr (List.mem_filter.mpr ⟨h1.1, h2⟩)
theorem z_metX {l : Launch} {y : MethodName} {cc : ByteArray} {n : Nat} {ret : Option FieldType} {rm : Room} {E : zE} {Y : zY} {σ : zS} {avs : List Value} {Qc : Nat → Array Value → State → Outcome → State → Prop} {XC : Nat → String → State → State → Prop} {mc ms : Nat} {own : String} (hy : plainName y.cls = true) (hown : y.cls = own) (hlen : (lg_sl avs).length ≤ n)
    (body : ∀ (p : Program) (e : Env) (s : State) (m : MethodId) (args : Array Value) (below : List Frame) (meth : Method) (c : Code), zG E p l s m args meth c cc n own ret (zA Y s.heap.size) → (∀ x ∈ c.exceptionTable.toList, False) → WW E Y σ p l e rm s m args below meth c (zA Y s.heap.size) n 0 0 (vx_MQ below (Qc s.heap.size) (XC s.heap.size) args s mc ms (zA Y s.heap.size)) (lv_args 0 avs) 0 []) :
    ∀ sz, vx_Met l y (zw y cc n ret) rm (zPc E Y σ sz avs) (Qc sz) (XC sz) mc ms (zA Y sz) := by
  intro sz
  refine vx_ofW (cc := cc) (maxL := n) (ret := ret) hy rfl ?_
  intro p e s m args below meth c s₁ B hml hex hv
  obtain ⟨rfl, hsz, hH, hF⟩ := hv
  subst hsz
  have hts := atoms_spec (ws := zw y cc n ret) B.pre
  have hfc : s.vm.findClass own = some m.cls := hown ▸ findClass_of_methodNamed B.named
  have hl := lv_entry avs (n := n) hlen
  rw [lg_entry_eq]
  exact body p e s m _ below meth c ⟨B.exec, B.bytes, hml, hfc, fun w hw => hts w (List.mem_cons_of_mem _ hw), B.returns, B.notSynchronized, hF, fun _ h => Or.inr h⟩ hex s.heap [] _ hH va_S.rf hl
theorem va_P.moved {D : va_G} {cl : List vw_C} {ws : va_W} {H H1 : Heap} (h : va_P D cl ws H) (hq : ∀ q : Nat, q < H.size → H1[q]? = H[q]?) : va_P D cl ws H1 := h.kept (fun k q hk => hq q.1 (h k q hk).lt)
section ZX
variable {E : zE} {Y : zY} {σ : zS} {p : Program} {l : Launch} {e : Env} {R : Room} {s : State} {m : MethodId} {args : Array Value} {below : List Frame} {meth : Method} {c : Code} {A : Nat → Prop} {nL cells slots : Nat} {Q : State → Prop} {lv lv' : zLV} {pc : Nat} {st st0 : List Value} {cc : ByteArray} {own : String} {ret : Option FieldType}
theorem zvx {Qc : Array Value → State → Outcome → State → Prop} {XC : String → State → State → Prop} {mc ms : Nat} {free : Addr → Prop} (k : WW E Y σ p l e R s m args below meth c A nL cells slots (MQ below Qc args s mc ms free) lv pc st) : WW E Y σ p l e R s m args below meth c A nL cells slots (vx_MQ below Qc XC args s mc ms free) lv pc st := fun H locs ls hH hS hl => vx_ret (k H locs ls hH hS hl)
theorem z_ldcw (G : zG E p l s m args meth c cc nL own ret A) {index : Nat} {v : Int32} (hc : Cond.constant own index v ∈ zGL) (hd : decode cc pc = .ok (.ldc_w index, 3)) (k : WW E Y σ p l e R s m args below meth c A nL cells slots Q lv (pc + 3) (.int v :: st)) : WW E Y σ p l e R s m args below meth c A nL cells slots Q lv pc st := fun H locs ls hH hS hl => lv_ldcw G.1 G.2.1 G.2.2.2.1 (G.2.2.2.2.1 _ hc) hd (k H locs ls hH hS hl)
theorem z_ldcs (G : zG E p l s m args meth c cc nL own ret A) {index i : Nat} {tx : String} (hc : (own, index, tx, i) ∈ zStr) (hd : decode cc pc = .ok (.ldc index, 2)) (k : WW E Y σ p l e R s m args below meth c A nL cells slots Q lv (pc + 2) (.ref (E.2.2.1 i) :: st)) : WW E Y σ p l e R s m args below meth c A nL cells slots Q lv pc st := fun H locs ls hH hS hl => va_ldcS G.1 G.2.1 G.2.2.2.1 (G.2.2.2.2.2.2.2.1.2.1.2.1 _ hc) hd (k H locs ls hH hS hl)
theorem z_ldcsw (G : zG E p l s m args meth c cc nL own ret A) {index i : Nat} {tx : String} (hc : (own, index, tx, i) ∈ zStr) (hd : decode cc pc = .ok (.ldc_w index, 3)) (k : WW E Y σ p l e R s m args below meth c A nL cells slots Q lv (pc + 3) (.ref (E.2.2.1 i) :: st)) : WW E Y σ p l e R s m args below meth c A nL cells slots Q lv pc st := fun H locs ls hH hS hl => by
  intro T hT X
  obtain ⟨t, a1, b1⟩ := k H locs ls hH hS hl T hT X
  have hZ := G.2.2.2.2.2.2.2.1.2.1.2.1 _ hc
  exact ⟨t, X.ldcStringW G.1 G.2.2.2.1 (text := tx) (a := E.2.2.1 i) hZ.1 hZ.2 (g := F0 m pc ls st) rfl (by rw [G.2.1]; exact hd) t a1, b1⟩
theorem z_throwS (G : zG E p l s m args meth c cc nL own ret (zA Y s.heap.size)) (hlt : l.stackTraces = false) (hex : ∀ x ∈ c.exceptionTable.toList, False) {cls tx : String} {names : List String} {ik is ic i mc ms : Nat} {Qc : Array Value → State → Outcome → State → Prop} {X : String → zS → Prop} (K : zthr own ik ic cls names) (hc : (own, is, tx, i) ∈ zStr)
    (d0 : decode cc pc = .ok (.new ik, 3)) (d3 : decode cc (pc + 3) = .ok (.dup, 1)) (d4 : decode cc (pc + 4) = .ok (.ldc is, 2)) (d6 : decode cc (pc + 6) = .ok (.invokespecial ic, 3)) (d9 : decode cc (pc + 9) = .ok (.athrow, 1)) (hRf : names.length + 3 < R.frames) (hRl : (st.map fun v => v.category).sum + (13 * (names.length + 1) + 43) ≤ R.locals) (hRc : cells + 1 ≤ R.cells) (hRs : slots + 6 ≤ R.slots) (hmc : cells + 1 ≤ mc) (hms : slots + 6 ≤ ms) (hq : X cls σ) :
    WW E Y σ p l e R s m args below meth c (zA Y s.heap.size) nL cells slots (vx_MQ below Qc (zX X E Y s.heap.size) args s mc ms (zA Y s.heap.size)) lv pc st := fun H locs ls hH hS hl =>
  vx_throwS (A := zA Y s.heap.size) (sa := E.2.2.1 i) G.1 G.2.1 hlt G.2.2.2.1 K.2.2.2.1 K.2.2.2.2 (G.2.2.2.2.1 _ K.1) (G.2.2.2.2.1 _ K.2.1) (G.2.2.2.2.2.2.2.1.2.1.2.1 _ hc) (fun w hw => zGN_b (K.2.2.1 w hw) G.2.2.2.2.1 G.2.2.2.2.2.2.2.1.2.1.1)
    (fun w hw => by
      rcases List.mem_cons.mp hw with rfl | hw
      · exact zGN_ot (Or.inl K.1)
      · rcases List.mem_cons.mp hw with rfl | hw
        · exact zGN_ot (Or.inl K.2.1)
        · exact zGN_ot (K.2.2.1 w hw))
    G.2.2.2.2.2.2.2.1.2.2.2.1 G.2.2.2.2.2.2.2.1.2.2.2.2.1 hS (hl.1.trans G.2.2.1.symm) d0 d3 d4 d6 d9 (fun x hx => (hex x hx).elim) hRf hRl hRc hRs G.2.2.2.2.2.2.1
    (fun t _ hz hk => ⟨(cls, σ), hq, ⟨rfl, hH.1.moved hk, hH.2⟩, Nat.le_trans hS.1 hz, fun q h1 h2 => (hk q (Nat.lt_of_lt_of_le h1 hS.1)).trans (hS.2.1 q h1 h2)⟩) hS.2.2 hmc hms
theorem z_throwSW (G : zG E p l s m args meth c cc nL own ret (zA Y s.heap.size)) (hlt : l.stackTraces = false) (hex : ∀ x ∈ c.exceptionTable.toList, False) {cls tx : String} {names : List String} {ik is ic i mc ms : Nat} {Qc : Array Value → State → Outcome → State → Prop} {X : String → zS → Prop} (K : zthr own ik ic cls names) (hc : (own, is, tx, i) ∈ zStr)
    (d0 : decode cc pc = .ok (.new ik, 3)) (d3 : decode cc (pc + 3) = .ok (.dup, 1)) (d4 : decode cc (pc + 4) = .ok (.ldc_w is, 3)) (d7 : decode cc (pc + 7) = .ok (.invokespecial ic, 3)) (d10 : decode cc (pc + 10) = .ok (.athrow, 1)) (hRf : names.length + 3 < R.frames) (hRl : (st.map fun v => v.category).sum + (13 * (names.length + 1) + 43) ≤ R.locals) (hRc : cells + 1 ≤ R.cells) (hRs : slots + 6 ≤ R.slots) (hmc : cells + 1 ≤ mc) (hms : slots + 6 ≤ ms) (hq : X cls σ) :
    WW E Y σ p l e R s m args below meth c (zA Y s.heap.size) nL cells slots (vx_MQ below Qc (zX X E Y s.heap.size) args s mc ms (zA Y s.heap.size)) lv pc st := fun H locs ls hH hS hl =>
  vx_throwSW (A := zA Y s.heap.size) (sa := E.2.2.1 i) G.1 G.2.1 hlt G.2.2.2.1 K.2.2.2.1 K.2.2.2.2 (G.2.2.2.2.1 _ K.1) (G.2.2.2.2.1 _ K.2.1) (G.2.2.2.2.2.2.2.1.2.1.2.1 _ hc) (fun w hw => zGN_b (K.2.2.1 w hw) G.2.2.2.2.1 G.2.2.2.2.2.2.2.1.2.1.1)
    (fun w hw => by
      rcases List.mem_cons.mp hw with rfl | hw
      · exact zGN_ot (Or.inl K.1)
      · rcases List.mem_cons.mp hw with rfl | hw
        · exact zGN_ot (Or.inl K.2.1)
        · exact zGN_ot (K.2.2.1 w hw))
    G.2.2.2.2.2.2.2.1.2.2.2.1 G.2.2.2.2.2.2.2.1.2.2.2.2.1 hS (hl.1.trans G.2.2.1.symm) d0 d3 d4 d7 d10 (fun x hx => (hex x hx).elim) hRf hRl hRc hRs G.2.2.2.2.2.2.1
    (fun t _ hz hk => ⟨(cls, σ), hq, ⟨rfl, hH.1.moved hk, hH.2⟩, Nat.le_trans hS.1 hz, fun q h1 h2 => (hk q (Nat.lt_of_lt_of_le h1 hS.1)).trans (hS.2.1 q h1 h2)⟩) hS.2.2 hmc hms
/-- a call that may throw -/
def zRunX (E : zE) (Y : zY) (σ : zS) (p : Program) (l : Launch) (e : Env) (R : Room) (s : State) (m : MethodId) (args : Array Value) (below : List Frame) (meth : Method) (c : Code) (A : Nat → Prop) (nL cells slots mc ms pc : Nat) (st0 rest : List Value) (Qa : Nat → State → Outcome → State → Prop) (XC : Nat → String → State → State → Prop) : Prop :=
  ∀ (H : Heap) (locs : List Loc) (ls : Array Slot), zH E Y σ A H → va_S A s.heap H locs → ls.size = nL → vx_Run p l e R s m args below meth c H locs cells slots mc ms (F0 m pc ls st0) rest (Qa H.size) (XC H.size) (zA Y H.size)
theorem z_runXV (G : zG E p l s m args meth c cc nL own ret A) {C : String} {index maxL n ci t0 mc ms : Nat} {y : MethodName} {bytes : ByteArray} {ret' : Option FieldType} {rm : Room} {T : u_T} {N : Nat} {As : List Value} {Qc : Nat → Array Value → State → Outcome → State → Prop} {XC : Nat → String → State → State → Prop} (K : zkV own index C y bytes maxL ret' n) (hM : ∀ sz, vx_Met l y (zw y bytes maxL ret') rm (zPc E Y σ sz (.ref (za Y t0) :: As)) (Qc sz) (XC sz) mc ms (zA Y sz)) (hmc : rm.cells = mc) (hms : rm.slots = ms) (hR : rm.frames + 1 ≤ R.frames ∧ 8 + (maxL + 11) + rm.locals ≤ R.locals) (ht : zT Y ci t0) (hc : zcl[ci]? = some (C, T, N)) (hci : ci < 20) (hn : As.length = n) (hst : (st.map fun v => v.category).sum ≤ 8) (hd : decode cc pc = .ok (.invokevirtual index, 3)) (hf : cells + mc ≤ R.cells ∧ slots + ms ≤ R.slots) (h0 : As.reverse ++ .ref (za Y t0) :: st = st0) : zRunX E Y σ p l e R s m args below meth c A nL cells slots mc ms pc st0 st (fun sz => Qc sz (Value.ref (za Y t0) :: As).toArray) XC := by
  subst h0; subst hmc; subst hms
  intro H locs ls hH hS hl
  exact vx_runV ⟨G.1, G.2.1, G.2.2.1, G.2.2.2.1, G.2.2.2.2.1⟩ (hM H.size) ⟨K.1.cb G.2.2.2.2.1 hR, G.2.2.2.2.1 _ K.2.1, G.2.2.2.2.1 _ K.2.2.1⟩ ⟨zPc.blind, va_recv G.2.2.2.2.2.2.2.1.1 hH.1 hc (by rw [zws_at ht.1, zcell_obj ht.2 hci]), (zpreS hH hS G.2.2.2.2.2.2.2.2 G.2.2.2.2.2.2.2.1).2⟩ rfl hn hl rfl (lv_room hst) hd hf
theorem z_runXS (G : zG E p l s m args meth c cc nL own ret A) {index maxL n mc ms : Nat} {y : MethodName} {bytes : ByteArray} {ret' : Option FieldType} {rm : Room} {As : List Value} {Qc : Nat → Array Value → State → Outcome → State → Prop} {XC : Nat → String → State → State → Prop} (K : zkS own index y bytes maxL ret' n) (hM : ∀ sz, vx_Met l y (zw y bytes maxL ret') rm (zPc E Y σ sz As) (Qc sz) (XC sz) mc ms (zA Y sz)) (hmc : rm.cells = mc) (hms : rm.slots = ms) (hR : rm.frames + 1 ≤ R.frames ∧ 8 + (maxL + 11) + rm.locals ≤ R.locals) (hn : As.length = n) (hst : (st.map fun v => v.category).sum ≤ 8) (hd : decode cc pc = .ok (.invokestatic index, 3)) (hf : cells + mc ≤ R.cells ∧ slots + ms ≤ R.slots) (h0 : As.reverse ++ st = st0) : zRunX E Y σ p l e R s m args below meth c A nL cells slots mc ms pc st0 st (fun sz => Qc sz As.toArray) XC := by
  subst h0; subst hmc; subst hms
  intro H locs ls hH hS hl
  exact vx_runS ⟨G.1, G.2.1, G.2.2.1, G.2.2.2.1, G.2.2.2.2.1⟩ (hM H.size) ⟨K.1.cb G.2.2.2.2.1 hR, G.2.2.2.2.1 _ K.2⟩ (zpreS hH hS G.2.2.2.2.2.2.2.2 G.2.2.2.2.2.2.2.1) rfl hn hl rfl (lv_room hst) hd hf
/-- thrown on -/
theorem z_kx (G : zG E p l s m args meth c cc nL own ret (zA Y s.heap.size)) (hex : ∀ x ∈ c.exceptionTable.toList, False) {mc ms k n : Nat} {Qc : Array Value → State → Outcome → State → Prop} {X : String → zS → Prop} {ls : Array Slot} {H1 : Heap} {locs1 : List Loc} {E' : String} {ce : Cell} {q9 : Addr} {u : String × zS} {t : State} {sz : Nat} (hin : ∀ q, zA Y sz q → zA Y s.heap.size q) (ht : t.heap = H1) (hp : X u.1 u.2) (hB : u.1 = E' ∧ zH E Y u.2 (zA Y sz) t.heap) (hS1 : va_S (zA Y s.heap.size) s.heap H1 locs1) (hce : H1[q9]? = some ce) (hv : ce.vm = .none) (hcl : s.vm.findClass E' = some ce.cls) (hc : k ≤ mc) (hs : n ≤ ms) : vx_W p l e R s m args below meth c H1 locs1 k n (vx_MQ below Qc (zX X E Y s.heap.size) args s mc ms (zA Y s.heap.size)) (F0 m pc ls st) q9 := by
  obtain ⟨u1, u2⟩ := u
  obtain ⟨rfl, hB⟩ := hB
  exact vx_out (fun x hx => (hex x hx).elim) G.2.2.2.2.2.2.1 hce hv hcl (fun t2 ht2 _ => ⟨(u1, u2), hp, ⟨rfl, by rw [ht2, ← ht]; exact hB.weaken hin⟩, by rw [ht2]; exact hS1.1, fun q h1 h2 => by rw [ht2]; exact hS1.2.1 q h1 h2⟩) hS1.2.2 hc hs
theorem z_callXi (G : zG E p l s m args meth c cc nL own ret (zA Y s.heap.size)) (hex : ∀ x ∈ c.exceptionTable.toList, False) {mc ms mc' ms' : Nat} {Qc : Array Value → State → Outcome → State → Prop} {X : String → zS → Prop} {Q1 : Int32 → zS → Prop} {as : Array Value} (hr : zRunX E Y σ p l e R s m args below meth c (zA Y s.heap.size) nL cells slots mc ms pc st0 st (fun sz => va_Qi Q1 (zB E Y sz) (zA Y sz) as) (fun sz => zX X E Y sz)) (hc : cells + mc ≤ mc') (hs : slots + ms ≤ ms') (kk : ∀ (r : Int32) (σ' : zS), Q1 r σ' → WW E Y σ' p l e R s m args below meth c (zA Y s.heap.size) nL (cells + mc) (slots + ms) (vx_MQ below Qc (zX X E Y s.heap.size) args s mc' ms' (zA Y s.heap.size)) lv (pc + 3) (.int r :: st)) : WW E Y σ p l e R s m args below meth c (zA Y s.heap.size) nL cells slots (vx_MQ below Qc (zX X E Y s.heap.size) args s mc' ms' (zA Y s.heap.size)) lv pc st0 := fun H locs ls hH hS hl =>
  vx_calli (hr H locs ls hH hS hl.1) hS (fun q _ h => hH.in hS G.2.2.2.2.2.2.2.2 q h) (hH.in hS G.2.2.2.2.2.2.2.2) (fun q _ h => hH.in hS G.2.2.2.2.2.2.2.2 q h)
    (fun E' ce q9 u t H1 locs1 ht _ hp hB _ _ hS1 hce hv hcl => z_kx G hex (hH.in hS G.2.2.2.2.2.2.2.2) ht hp hB hS1 hce hv hcl hc hs)
    (fun r u t H1 locs1 ht _ hp hB _ _ hS1 => kk r u hp H1 locs1 ls (by rw [← ht]; exact zH.weaken hB (hH.in hS G.2.2.2.2.2.2.2.2)) hS1 hl)
theorem z_callXd (G : zG E p l s m args meth c cc nL own ret (zA Y s.heap.size)) (hex : ∀ x ∈ c.exceptionTable.toList, False) {mc ms mc' ms' : Nat} {Qc : Array Value → State → Outcome → State → Prop} {X : String → zS → Prop} {Q1 : UInt64 → zS → Prop} {as : Array Value} (hr : zRunX E Y σ p l e R s m args below meth c (zA Y s.heap.size) nL cells slots mc ms pc st0 st (fun sz => va_Qd Q1 (zB E Y sz) (zA Y sz) as) (fun sz => zX X E Y sz)) (hc : cells + mc ≤ mc') (hs : slots + ms ≤ ms') (kk : ∀ (r : UInt64) (σ' : zS), Q1 r σ' → WW E Y σ' p l e R s m args below meth c (zA Y s.heap.size) nL (cells + mc) (slots + ms) (vx_MQ below Qc (zX X E Y s.heap.size) args s mc' ms' (zA Y s.heap.size)) lv (pc + 3) (.double r :: st)) : WW E Y σ p l e R s m args below meth c (zA Y s.heap.size) nL cells slots (vx_MQ below Qc (zX X E Y s.heap.size) args s mc' ms' (zA Y s.heap.size)) lv pc st0 := fun H locs ls hH hS hl =>
  vx_calld (hr H locs ls hH hS hl.1) hS (fun q _ h => hH.in hS G.2.2.2.2.2.2.2.2 q h) (hH.in hS G.2.2.2.2.2.2.2.2) (fun q _ h => hH.in hS G.2.2.2.2.2.2.2.2 q h)
    (fun E' ce q9 u t H1 locs1 ht _ hp hB _ _ hS1 hce hv hcl => z_kx G hex (hH.in hS G.2.2.2.2.2.2.2.2) ht hp hB hS1 hce hv hcl hc hs)
    (fun r u t H1 locs1 ht _ hp hB _ _ hS1 => kk r u hp H1 locs1 ls (by rw [← ht]; exact zH.weaken hB (hH.in hS G.2.2.2.2.2.2.2.2)) hS1 hl)
theorem z_callXv (G : zG E p l s m args meth c cc nL own ret (zA Y s.heap.size)) (hex : ∀ x ∈ c.exceptionTable.toList, False) {mc ms mc' ms' : Nat} {Qc : Array Value → State → Outcome → State → Prop} {X : String → zS → Prop} {Q1 : zS → Prop} {as : Array Value} (hr : zRunX E Y σ p l e R s m args below meth c (zA Y s.heap.size) nL cells slots mc ms pc st0 st (fun sz => va_Qv Q1 (zB E Y sz) (zA Y sz) as) (fun sz => zX X E Y sz)) (hc : cells + mc ≤ mc') (hs : slots + ms ≤ ms') (kk : ∀ (σ' : zS), Q1 σ' → WW E Y σ' p l e R s m args below meth c (zA Y s.heap.size) nL (cells + mc) (slots + ms) (vx_MQ below Qc (zX X E Y s.heap.size) args s mc' ms' (zA Y s.heap.size)) lv (pc + 3) (st)) : WW E Y σ p l e R s m args below meth c (zA Y s.heap.size) nL cells slots (vx_MQ below Qc (zX X E Y s.heap.size) args s mc' ms' (zA Y s.heap.size)) lv pc st0 := fun H locs ls hH hS hl =>
  vx_callv (hr H locs ls hH hS hl.1) hS (fun q _ h => hH.in hS G.2.2.2.2.2.2.2.2 q h) (hH.in hS G.2.2.2.2.2.2.2.2) (fun q _ h => hH.in hS G.2.2.2.2.2.2.2.2 q h)
    (fun E' ce q9 u t H1 locs1 ht _ hp hB _ _ hS1 hce hv hcl => z_kx G hex (hH.in hS G.2.2.2.2.2.2.2.2) ht hp hB hS1 hce hv hcl hc hs)
    (fun u t H1 locs1 ht _ hp hB _ _ hS1 => kk u hp H1 locs1 ls (by rw [← ht]; exact zH.weaken hB (hH.in hS G.2.2.2.2.2.2.2.2)) hS1 hl)
theorem z_callXr (G : zG E p l s m args meth c cc nL own ret (zA Y s.heap.size)) (hex : ∀ x ∈ c.exceptionTable.toList, False) {mc ms mc' ms' kq : Nat} {Qc : Array Value → State → Outcome → State → Prop} {X : String → zS → Prop} {Q1 : Nat → zS → Prop} {as : Array Value} (hr : zRunX E Y σ p l e R s m args below meth c (zA Y s.heap.size) nL cells slots mc ms pc st0 st (fun sz => va_Qe (za Y) (zQe (zSm Q1)) (zBe E Y sz kq) (zA Y sz) as) (fun sz => zX X E Y sz)) (hc : cells + mc ≤ mc') (hs : slots + ms ≤ ms') (kk : ∀ (j : Nat) (σ' : zS), zT Y kq j → Q1 j σ' → WW E Y σ' p l e R s m args below meth c (zA Y s.heap.size) nL (cells + mc) (slots + ms) (vx_MQ below Qc (zX X E Y s.heap.size) args s mc' ms' (zA Y s.heap.size)) lv (pc + 3) (.ref (za Y j) :: st)) : WW E Y σ p l e R s m args below meth c (zA Y s.heap.size) nL cells slots (vx_MQ below Qc (zX X E Y s.heap.size) args s mc' ms' (zA Y s.heap.size)) lv pc st0 := fun H locs ls hH hS hl =>
  vx_calle (hr H locs ls hH hS hl.1) hS (fun q _ h => hH.in hS G.2.2.2.2.2.2.2.2 q h) (hH.in hS G.2.2.2.2.2.2.2.2) (fun q _ h => hH.in hS G.2.2.2.2.2.2.2.2 q h)
    (fun E' ce q9 u t H1 locs1 ht _ hp hB _ _ hS1 hce hv hcl => z_kx G hex (hH.in hS G.2.2.2.2.2.2.2.2) ht hp hB hS1 hce hv hcl hc hs)
    (fun r u t H1 locs1 ht _ hp hB _ _ hS1 => by
      obtain ⟨u1, u2⟩ := u
      obtain ⟨rfl, j, hj, hq⟩ := hp
      have hj' : u1 = some j := hj
      subst hj'
      exact kk j u2 (hB.2 j rfl) hq H1 locs1 ls (by rw [← ht]; exact zH.weaken hB.1 (hH.in hS G.2.2.2.2.2.2.2.2)) hS1 hl)
end ZX
theorem thr_ISE : zthr RX11 71 75 "java/lang/IllegalStateException" ["java/lang/RuntimeException", "java/lang/Exception"] := ⟨zmem 727 (by decide +kernel) (by decide +kernel), zmem 55 (by decide +kernel) (by decide +kernel), zmemL (by decide +kernel), by decide +kernel, by decide +kernel⟩
theorem thr_IAE : zthr RX11 84 88 "java/lang/IllegalArgumentException" ["java/lang/RuntimeException", "java/lang/Exception"] := ⟨zmem 755 (by decide +kernel) (by decide +kernel), zmem 54 (by decide +kernel) (by decide +kernel), zmemL (by decide +kernel), by decide +kernel, by decide +kernel⟩
theorem thr_IOE : zthr RX11 142 146 "java/lang/IndexOutOfBoundsException" ["java/lang/RuntimeException", "java/lang/Exception"] := ⟨zmem 517 (by decide +kernel) (by decide +kernel), zmem 48 (by decide +kernel) (by decide +kernel), zmemL (by decide +kernel), by decide +kernel, by decide +kernel⟩
