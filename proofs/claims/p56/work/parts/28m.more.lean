/-! THE SCRIPT'S READS; an array's clone; a String that is a constant or a cell -/
/-- a String by its code: 2i is the constant i, 2t + 1 the cell t -/
def zSa (E : zE) (Y : zY) (c : Nat) : Nat := if c % 2 = 0 then E.2.2.1 (c / 2) else za Y (c / 2)
def zSq (Y : zY) (c : Nat) : Prop := if c % 2 = 0 then c / 2 < zS_n else zT Y 12 (c / 2)
theorem zSa_s {E : zE} {Y : zY} {i : Nat} : zSa E Y (2 * i) = E.2.2.1 i := by
  unfold zSa
  rw [if_pos (by omega), Nat.mul_div_cancel_left i (by omega)]
theorem zSa_r {E : zE} {Y : zY} {i : Nat} : zSa E Y (2 * i + 1) = za Y i := by
  unfold zSa
  rw [if_neg (by omega), show (2 * i + 1) / 2 = i by omega]
theorem zSq_s {Y : zY} {i : Nat} (h : i < zS_n) : zSq Y (2 * i) := by
  unfold zSq
  rw [if_pos (by omega), Nat.mul_div_cancel_left i (by omega)]
  exact h
theorem zSq_r {Y : zY} {i : Nat} (h : zT Y 12 i) : zSq Y (2 * i + 1) := by
  unfold zSq
  rw [if_neg (by omega), show (2 * i + 1) / 2 = i by omega]
  exact h
theorem zext.Q {Y Y' : zY} (h : zext Y Y') {c : Nat} (hc : zSq Y c) : zSq Y' c := by
  unfold zSq at hc ⊢
  split
  · rename_i h0
    rwa [if_pos h0] at hc
  · rename_i h0
    rw [if_neg h0] at hc
    exact h.T hc
theorem zext.qa {E : zE} {Y Y' : zY} (h : zext Y Y') {c : Nat} (hc : zSq Y c) : zSa E Y' c = zSa E Y c := by
  unfold zSq at hc
  unfold zSa
  split
  · rfl
  · rename_i h0
    rw [if_neg h0] at hc
    exact h.a hc
def zBAq (E : zE) (Y : zY) (sz : Nat) : (Nat × zY × zS) → Nat → State → Prop := fun u ra t => ra = zSa E u.2.1 u.1 ∧ zSq u.2.1 u.1 ∧ zext Y u.2.1 ∧ zH E u.2.1 u.2.2 (zA Y sz) t.heap
theorem zws_pushI {E : zE} {Y : zY} {σ : zS} {kd n q : Nat} {f : Nat → Int32} {e0 : va_E} (hW : zWT Y σ) (he : zcell E (zpush Y kd n q) (sI (zfresh σ (zK Y)) (zK Y) f) (zK Y) = e0) : zws E Y σ ++ [(q, e0)] = zws E (zpush Y kd n q) (sI (zfresh σ (zK Y)) (zK Y) f) := by
  unfold zws
  rw [show zK (zpush Y kd n q) = zK Y + 1 from rfl, List.range_succ, List.map_append, List.map_singleton, zpush_a, he]
  congr 1
  apply List.map_congr_left
  intro b hb
  have hb' := List.mem_range.mp hb
  rw [zcell_sI_ne (show b ≠ zK Y from by omega), zcell_push hW hb', zext.a (kd := zsh Y b) zpush_ext ⟨hb', rfl⟩]
theorem zcl_B {E : zE} {p : Program} {l : Launch} {s : State} {m : MethodId} {args : Array Value} {meth : Method} {c : Code} {A : Nat → Prop} {nL : Nat} {cc : ByteArray} {own : String} {ret : Option FieldType} (G : zG E p l s m args meth c cc nL own ret A) : s.vm.findClass "[B" = some (E.2.1 21) := (G.2.2.2.2.2.2.2.1.1.2 1 (E.2.1 21, .byte) rfl).2
section ZSC
variable {E : zE} {Y : zY} {σ : zS} {p : Program} {l : Launch} {e : Env} {R : Room} {s : State} {m : MethodId} {args : Array Value} {below : List Frame} {meth : Method} {c : Code} {A : Nat → Prop} {nL cells slots : Nat} {Q : State → Prop} {lv lv' : zLV} {pc : Nat} {st st0 : List Value} {cc : ByteArray} {own : String} {ret : Option FieldType}
theorem zScr_of (G : zG E p l s m args meth c cc nL own ret A) : zScr E A s s.heap := G.2.2.2.2.2.2.2.1.2.2.2.2.2.2.2.2.2.2.2.2
theorem z_scrld (G : zG E p l s m args meth c cc nL own ret A) {i : Int32} (hi : vp_in i (zScL E)) (hd : decode cc pc = .ok (.iaload, 1)) (k : WW E Y σ p l e R s m args below meth c A nL cells slots Q lv (pc + 1) (.int (zScX E i.toNatClampNeg) :: st)) : WW E Y σ p l e R s m args below meth c A nL cells slots Q lv pc (.int i :: .ref (E.2.2.2 1002) :: st) := fun H locs ls hH hS hl =>
  va_sld G.1 G.2.1 (zScr_of G).1 (zScr_of G).lt (zScr_of G).2 hS hi hd (k H locs ls hH hS hl)
theorem z_scrlen (G : zG E p l s m args meth c cc nL own ret A) (hd : decode cc pc = .ok (.arraylength, 1)) (k : WW E Y σ p l e R s m args below meth c A nL cells slots Q lv (pc + 1) (.int (nI (zScL E)) :: st)) : WW E Y σ p l e R s m args below meth c A nL cells slots Q lv pc (.ref (E.2.2.2 1002) :: st) := fun H locs ls hH hS hl =>
  va_slen G.1 G.2.1 (zScr_of G).1 (zScr_of G).lt (zScr_of G).2 hS hd (k H locs ls hH hS hl)
theorem z_castB (G : zG E p l s m args meth c cc nL own ret A) {index a : Nat} (hcl : Cond.classLink own index "[B" ∈ zGL) (ha : zT Y 21 a) (hd : decode cc pc = .ok (.checkcast index, 3)) (k : WW E Y σ p l e R s m args below meth c A nL cells slots Q lv (pc + 3) (.ref (za Y a) :: st)) : WW E Y σ p l e R s m args below meth c A nL cells slots Q lv pc (.ref (za Y a) :: st) := fun H locs ls hH hS hl =>
  va_castA G.1 G.2.1 G.2.2.2.1 (G.2.2.2.2.1 _ hcl) hH.1 a (zfl_arr ha (by decide)) (zcl_B G) hd (k H locs ls hH hS hl)
theorem z_clone (G : zG E p l s m args meth c cc nL own ret A) {index a : Nat} (hlink : Cond.methodLink own index ⟨"[B", "clone", "()Ljava/lang/Object;"⟩ ∈ zGL) (hsame : Cond.sameMethod "[B" "java/lang/Object" "clone" "()Ljava/lang/Object;" ∈ zGL) (hnat : Cond.native ⟨"java/lang/Object", "clone", "()Ljava/lang/Object;"⟩ ∈ zGL) (hinst : Cond.instanceMethod ⟨"java/lang/Object", "clone", "()Ljava/lang/Object;"⟩ ∈ zGL) (hsel : Cond.selects "[B" ⟨"[B", "clone", "()Ljava/lang/Object;"⟩ ⟨"java/lang/Object", "clone", "()Ljava/lang/Object;"⟩ ∈ zGL) (hcl : Cond.castable "[B" "java/lang/Cloneable" ∈ zNL) (ha : zT Y 21 a) (hfit : ∀ i : Nat, i < zln Y a → fits .byte (.int (gi σ a i)) = true) (hfr : 1 ≤ R.frames) (hlo : (st.map fun v => v.category).sum + 14 ≤ R.locals) (hc : cells + 1 ≤ R.cells) (hs : slots + zln Y a ≤ R.slots) (hd : decode cc pc = .ok (.invokevirtual index, 3))
    (kk : ∀ (Y1 : zY) (a1 : Nat), a1 = zSk (zsp Y) → zext Y Y1 → zsp Y1 = zSpush (zsp Y) 21 (zln Y a) → zT Y1 21 a1 → WW E Y1 (sI (zfresh σ a1) a1 (gi σ a)) p l e R s m args below meth c A nL (cells + 1) (slots + zln Y a) Q lv (pc + 3) (.ref (za Y1 a1) :: st)) : WW E Y σ p l e R s m args below meth c A nL cells slots Q lv pc (.ref (za Y a) :: st) := fun H locs ls hH hS hl => by
  refine va_clone G.1 G.2.1 (G.2.2.1.trans hl.1.symm) G.2.2.2.1 (G.2.2.2.2.1 _ hlink) (G.2.2.2.2.1 _ hsame) (G.2.2.2.2.1 _ hnat) (G.2.2.2.2.1 _ hinst) (G.2.2.2.2.1 _ hsel) (G.2.2.2.2.2.2.2.1.2.1.1 _ hcl) G.2.2.2.2.2.2.2.1.1 hH.1 hH.2.1 hS G.2.2.2.2.2.2.2.2 a 1 (x := (zln Y a, .inl (gi σ a))) (ty := .byte) (zfl_arr ha (by decide)) rfl (zcl_B G) ?_ hfr hlo hc hs hd ?_
  · intro i v hv
    rw [vp_cell_i] at hv
    have hi : i < zln Y a := by
      have h9 := (Array.getElem?_eq_some_iff.mp hv).1
      rwa [arrV_size] at h9
    rw [arrV_read _ _ hi] at hv
    cases hv
    exact hfit i hi
  · intro q H1 hK hP hD hS1
    have e0 : zcell E (zpush Y 21 (zln Y a) q) (sI (zfresh σ (zK Y)) (zK Y) (gi σ a)) (zK Y) = .inl (E.2.1 21, zln Y a, .inl (gi σ a)) := by
      rw [zcell_arr (show zsh (zpush Y 21 (zln Y a) q) (zK Y) = 21 from if_pos rfl) (by decide), zpush_n]
      exact congrArg (fun f : Nat → Int32 => (Sum.inl (E.2.1 21, zln Y a, Sum.inl f) : va_E)) (gi_sI_self _ _ _)
    rw [zws_pushI hH.2.2 e0] at hP hD
    have key := kk (zpush Y 21 (zln Y a) q) (zK Y) rfl zpush_ext rfl zpush_T
    rw [zpush_a] at key
    exact key H1 locs ls ⟨hP, hD, zWT_sI (zWT_push hH.2.2)⟩ hS1 hl
theorem z_aretQ {Y0 : zY} (G : zG E p l s m args meth c cc nL own ret (zA Y0 s.heap.size)) (hx : zext Y0 Y) {q : Nat} {rt : FieldType} {Q1 : Nat → zSp → zS → Prop} (hty : ret = some rt) (hrt : (∃ n, rt = .object n) ∨ ∃ t, rt = .array t) (hqT : zSq Y q) (hd : decode cc pc = .ok (.areturn, 1)) (hq : Q1 q (zsp Y) σ) : WW E Y σ p l e R s m args below meth c (zA Y0 s.heap.size) nL cells slots (MQ below (va_Qr (fun (u : Nat × zY × zS) => Q1 u.1 (zsp u.2.1) u.2.2) (zBAq E Y0 s.heap.size) (zA Y0 s.heap.size)) args s cells slots (zA Y0 s.heap.size)) lv pc [.ref (zSa E Y q)] := fun H locs ls hH hS hl =>
  W.aret G.1 G.2.1 (G.2.2.2.2.2.1.trans hty) hrt (Or.inr ⟨_, rfl⟩) (fun t ht _ => ⟨⟨(q, Y, σ), zSa E Y q, rfl, hq, rfl, hqT, hx, by show zH E Y σ _ t.heap; rw [ht]; exact hH⟩, hS.F ht⟩) hS.2.2 hd G.2.2.2.2.2.2.1
theorem z_callAq (G : zG E p l s m args meth c cc nL own ret A) {mc ms : Nat} {Q1 : Nat → zSp → zS → Prop} {as : Array Value} (hr : zRun E Y σ p l e R s m args below meth c A nL cells slots mc ms pc st0 st (fun sz => va_Qr (fun (u : Nat × zY × zS) => Q1 u.1 (zsp u.2.1) u.2.2) (zBAq E Y sz) (zA Y sz) as)) (kk : ∀ (Y1 : zY) (j : Nat) (σ' : zS), zext Y Y1 → zSq Y1 j → Q1 j (zsp Y1) σ' → WW E Y1 σ' p l e R s m args below meth c A nL (cells + mc) (slots + ms) Q lv (pc + 3) (.ref (zSa E Y1 j) :: st)) : WW E Y σ p l e R s m args below meth c A nL cells slots Q lv pc st0 := fun H locs ls hH hS hl =>
  va_callr (hr H locs ls hH hS hl.1) hS (fun q _ h => hH.in hS G.2.2.2.2.2.2.2.2 q h) (hH.in hS G.2.2.2.2.2.2.2.2) (fun u ra t H1 locs1 ht _ hp hB _ _ hS1 => by
    obtain ⟨hra, hT, hx, hB⟩ := hB
    subst hra
    exact kk u.2.1 u.1 u.2.2 hx hT hp H1 locs1 ls (by rw [← ht]; exact zH.weaken hB (hH.in hS G.2.2.2.2.2.2.2.2)) hS1 hl)
theorem z_runVq {Y0 : zY} (G : zG E p l s m args meth c cc nL own ret (zA Y0 s.heap.size)) {index maxL n c0 : Nat} {y : MethodName} {bytes : ByteArray} {ret' : Option FieldType} {rm : Room} {As : List Value} {Qc : Nat → Array Value → State → Outcome → State → Prop} (K : zkV own index "java/lang/String" y bytes maxL ret' n) (hM : ∀ sz, Met l y (zw y bytes maxL ret') rm (zPc E Y σ sz (.ref (zSa E Y c0) :: As)) (Qc sz) rm.cells rm.slots (zA Y sz)) (hR : rm.frames + 1 ≤ R.frames ∧ 8 + (maxL + 11) + rm.locals ≤ R.locals) (hi : zSq Y c0) (hn : As.length = n) (hst : (st.map fun v => v.category).sum ≤ 8) (hd : decode cc pc = .ok (.invokevirtual index, 3)) (hf : cells + rm.cells ≤ R.cells ∧ slots + rm.slots ≤ R.slots) (h0 : As.reverse ++ .ref (zSa E Y c0) :: st = st0) : zRun E Y σ p l e R s m args below meth c (zA Y0 s.heap.size) nL cells slots rm.cells rm.slots pc st0 st (fun sz => Qc sz (Value.ref (zSa E Y c0) :: As).toArray) := by
  unfold zSq at hi
  unfold zSa at hM h0 ⊢
  split at hi
  · rename_i hz
    rw [if_pos hz] at hM h0 ⊢
    exact z_runVs G K hM hR hi hn hst hd hf h0
  · rename_i hz
    rw [if_neg hz] at hM h0 ⊢
    exact z_runV (T := TJ0) (N := 4) G K hM hR hi rfl (by decide) hn hst hd hf h0
def zkO (own : String) (index : Nat) (C : String) (x y : MethodName) (b0 : ByteArray) (m0 : Nat) (r0 : Option FieldType) (bytes : ByteArray) (maxL : Nat) (ret : Option FieldType) (n : Nat) : Prop := Cond.methodLink own index x ∈ zGL ∧ Cond.initialized y.cls ∈ zGL ∧ Cond.code y bytes maxL ret ∈ zGL ∧ (x.cls ≠ "java/lang/invoke/MethodHandle" ∧ x.cls ≠ "java/lang/invoke/VarHandle" ∧ (parseMethodDescriptor x.desc).map (fun d => d.parameters.length) = some n) ∧ Cond.instanceMethod x ∈ zGL ∧ Cond.sameMethod x.cls x.cls x.name x.desc ∈ zGL ∧ Cond.selects C x y ∈ zGL ∧ Cond.instanceMethod y ∈ zGL ∧ Cond.code x b0 m0 r0 ∈ zGL
theorem z_runO (G : zG E p l s m args meth c cc nL own ret A) {C : String} {index maxL n ci t0 m0 : Nat} {x y : MethodName} {bytes b0 : ByteArray} {ret' r0 : Option FieldType} {rm : Room} {T : u_T} {N : Nat} {As : List Value} {Qc : Nat → Array Value → State → Outcome → State → Prop} (K : zkO own index C x y b0 m0 r0 bytes maxL ret' n) (hM : ∀ sz, Met l y (zw y bytes maxL ret') rm (zPc E Y σ sz (.ref (za Y t0) :: As)) (Qc sz) rm.cells rm.slots (zA Y sz)) (hR : rm.frames + 1 ≤ R.frames ∧ 8 + (maxL + 11) + rm.locals ≤ R.locals) (ht : zT Y ci t0) (hc : zcl[ci]? = some (C, T, N)) (hci : ci < 20) (hn : As.length = n) (hst : (st.map fun v => v.category).sum ≤ 8) (hd : decode cc pc = .ok (.invokevirtual index, 3)) (hf : cells + rm.cells ≤ R.cells ∧ slots + rm.slots ≤ R.slots) (h0 : As.reverse ++ .ref (za Y t0) :: st = st0) : zRun E Y σ p l e R s m args below meth c A nL cells slots rm.cells rm.slots pc st0 st (fun sz => Qc sz (Value.ref (za Y t0) :: As).toArray) := by
  subst h0
  intro H locs ls hH hS hl
  have hts := G.2.2.2.2.1
  obtain ⟨K1, K2, K3, K4, K5, K6, K7, K8, K9⟩ := K
  have hdc : va_Decl s ⟨x.cls, x.name, x.desc⟩ := va_Decl.of (args := args) (hts _ K5) (hts _ K9)
  exact va_runU (C := C) (owner := x.cls) (x := x) (y := y) ⟨G.1, G.2.1, G.2.2.1, G.2.2.2.1, hts⟩ (hM H.size)
    ⟨⟨rfl, rfl, hR.1, hR.2, pay_in hts (zw_good K3), List.mem_cons_self⟩, hts _ K3, hts _ K2, ⟨K4.1, K4.2.1⟩, fun sig h => by
      have h2 := K4.2.2
      rw [h] at h2
      exact (Option.some.inj h2).symm, hts _ K1, hts _ K6, hdc, hts _ K7, hts _ K8⟩
    ⟨zPc.blind, va_recv G.2.2.2.2.2.2.2.1.1 hH.1 hc (by rw [zws_at ht.1, zcell_obj ht.2 hci]), (zpreS hH hS G.2.2.2.2.2.2.2.2 G.2.2.2.2.2.2.2.1).2⟩ rfl hn hl rfl (lv_room hst) hd hf
end ZSC
