/-! THE SCRIPT'S READS; an array's clone -/
theorem zws_pushI {E : zE} {Y : zY} {σ : zS} {kd n q : Nat} {f : Nat → Int32} {e0 : va_E} (hW : zWT Y σ) (he : zcell E (zpush Y kd n q) (sI (zfresh σ (zK Y)) (zK Y) f) (zK Y) = e0) : zws E Y σ ++ [(q, e0)] = zws E (zpush Y kd n q) (sI (zfresh σ (zK Y)) (zK Y) f) := by
  unfold zws
  rw [show zK (zpush Y kd n q) = zK Y + 1 from rfl, List.range_succ, List.map_append, List.map_singleton, zpush_a, he]
  congr 1
  apply List.map_congr_left
  intro b hb
  have hb' := List.mem_range.mp hb
  rw [zcell_sI_ne (show b ≠ zK Y from by omega), zcell_push hW hb', zext.a (kd := zsh Y b) zpush_ext ⟨hb', rfl⟩]
theorem zcl_B {E : zE} {p : Program} {l : Launch} {s : State} {m : MethodId} {args : Array Value} {meth : Method} {c : Code} {A : Nat → Prop} {nL : Nat} {cc : ByteArray} {own : String} {ret : Option FieldType} (G : zG E p l s m args meth c cc nL own ret A) : s.vm.findClass "[B" = some (E.2.1 21) := (G.2.2.2.2.2.2.2.1.1.2 1 (E.2.1 21, .byte) rfl).2
section ZSC
variable {E : zE} {Y : zY} {σ : zS} {p : Program} {l : Launch} {e : Env} {R : Room} {s : State} {m : MethodId} {args : Array Value} {below : List Frame} {meth : Method} {c : Code} {A : Nat → Prop} {nL cells slots : Nat} {Q : State → Prop} {lv lv' : zLV} {pc : Nat} {st st0 : List Value} {cc : ByteArray} {own : String} {ret : Option FieldType}
theorem zScr_of (G : zG E p l s m args meth c cc nL own ret A) : zScr E A s s.heap := G.2.2.2.2.2.2.2.1.2.2.2.2.2.2.2.2.2.2.2.2
theorem z_scrld (G : zG E p l s m args meth c cc nL own ret A) {i : Int32} (hi : vp_in i (zL E)) (hd : decode cc pc = .ok (.iaload, 1)) (k : WW E Y σ p l e R s m args below meth c A nL cells slots Q lv (pc + 1) (.int (zX E i.toNatClampNeg) :: st)) : WW E Y σ p l e R s m args below meth c A nL cells slots Q lv pc (.int i :: .ref (E.2.2.2 1002) :: st) := fun H locs ls hH hS hl =>
  va_sld G.1 G.2.1 (zScr_of G).1 (zScr_of G).lt (zScr_of G).2 hS hi hd (k H locs ls hH hS hl)
theorem z_scrlen (G : zG E p l s m args meth c cc nL own ret A) (hd : decode cc pc = .ok (.arraylength, 1)) (k : WW E Y σ p l e R s m args below meth c A nL cells slots Q lv (pc + 1) (.int (nI (zL E)) :: st)) : WW E Y σ p l e R s m args below meth c A nL cells slots Q lv pc (.ref (E.2.2.2 1002) :: st) := fun H locs ls hH hS hl =>
  va_slen G.1 G.2.1 (zScr_of G).1 (zScr_of G).lt (zScr_of G).2 hS hd (k H locs ls hH hS hl)
theorem z_castB (G : zG E p l s m args meth c cc nL own ret A) {index a : Nat} (hcl : Cond.classLink own index "[B" ∈ zGL) (ha : zT Y 21 a) (hd : decode cc pc = .ok (.checkcast index, 3)) (k : WW E Y σ p l e R s m args below meth c A nL cells slots Q lv (pc + 3) (.ref (za Y a) :: st)) : WW E Y σ p l e R s m args below meth c A nL cells slots Q lv pc (.ref (za Y a) :: st) := fun H locs ls hH hS hl =>
  va_castA G.1 G.2.1 G.2.2.2.1 (G.2.2.2.2.1 _ hcl) hH.1 a (zfl_arr ha (by decide)) (zcl_B G) hd (k H locs ls hH hS hl)
theorem z_clone (G : zG E p l s m args meth c cc nL own ret A) {index a : Nat} (hlink : Cond.methodLink own index ⟨"[B", "clone", "()Ljava/lang/Object;"⟩ ∈ zGL) (hsame : Cond.sameMethod "[B" "java/lang/Object" "clone" "()Ljava/lang/Object;" ∈ zGL) (hnat : Cond.native ⟨"java/lang/Object", "clone", "()Ljava/lang/Object;"⟩ ∈ zGL) (hinst : Cond.instanceMethod ⟨"java/lang/Object", "clone", "()Ljava/lang/Object;"⟩ ∈ zGL) (hsel : Cond.selects "[B" ⟨"[B", "clone", "()Ljava/lang/Object;"⟩ ⟨"java/lang/Object", "clone", "()Ljava/lang/Object;"⟩ ∈ zGL) (hcl : Cond.castable "[B" "java/lang/Cloneable" ∈ zNL) (ha : zT Y 21 a) (hfit : ∀ i : Nat, i < zln Y a → fits .byte (.int (gi σ a i)) = true) (hfr : 1 ≤ R.frames) (hlo : (st.map fun v => v.category).sum + 14 ≤ R.locals) (hc : cells + 1 ≤ R.cells) (hs : slots + zln Y a ≤ R.slots) (hd : decode cc pc = .ok (.invokevirtual index, 3))
    (kk : ∀ (Y1 : zY) (a1 : Nat), a1 = zSk (zsp Y) → zext Y Y1 → zsp Y1 = zSpush (zsp Y) 21 (zln Y a) → zT Y1 21 a1 → WW E Y1 (sI (zfresh σ a1) a1 (gi σ a)) p l e R s m args below meth c A nL (cells + 1) (slots + zln Y a) Q lv (pc + 3) (.ref (za Y1 a1) :: st)) : WW E Y σ p l e R s m args below meth c A nL cells slots Q lv pc (.ref (za Y a) :: st) := fun H locs ls hH hS hl => by
  refine va_clone G.1 G.2.1 (G.2.2.1.trans hl.1.symm) G.2.2.2.1 (G.2.2.2.2.1 _ hlink) (G.2.2.2.2.1 _ hsame) (G.2.2.2.2.1 _ hnat) (G.2.2.2.2.1 _ hinst) (G.2.2.2.2.1 _ hsel) (G.2.2.2.2.2.2.2.1.2.1.1 _ hcl) G.2.2.2.2.2.2.2.1.1 hH.1 hH.2.1 hS G.2.2.2.2.2.2.2.2 a 1 (x := (zln Y a, .inl (gi σ a))) (ty := .byte) (zfl_arr ha (by decide)) rfl (zcl_B G) ?_ hfr hlo hc hs hd ?_
  · intro i v hv
    rw [vp_cell_i] at hv
    have hi : i < zln Y a := by
      have h9 := (Array.getElem?_eq_some_iff.mp hv).1
      rwa [arrV_size] at h9
    rw [arrV_read _ _ hi] at hv
    cases hv
    exact hfit i hi
  · intro q H1 hK hP hD hS1
    have e0 : zcell E (zpush Y 21 (zln Y a) q) (sI (zfresh σ (zK Y)) (zK Y) (gi σ a)) (zK Y) = .inl (E.2.1 21, zln Y a, .inl (gi σ a)) := by
      rw [zcell_arr (show zsh (zpush Y 21 (zln Y a) q) (zK Y) = 21 from if_pos rfl) (by decide), zpush_n]
      exact congrArg (fun f : Nat → Int32 => (Sum.inl (E.2.1 21, zln Y a, Sum.inl f) : va_E)) (gi_sI_self _ _ _)
    rw [zws_pushI hH.2.2 e0] at hP hD
    have key := kk (zpush Y 21 (zln Y a) q) (zK Y) rfl zpush_ext rfl zpush_T
    rw [zpush_a] at key
    exact key H1 locs ls ⟨hP, hD, zWT_sI (zWT_push hH.2.2)⟩ hS1 hl
end ZSC
