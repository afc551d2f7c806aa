/-! THE LAW: its script, its end, calls that make a little and return an int -/
def zLaw (b L : Nat) (xs : Nat → Int32) (s : State) (Y0 : zY) : Prop := va_X b L xs s s.heap ∧ b < s.heap.size ∧ ∀ q, zA Y0 s.heap.size q → s.heap.size ≤ q
theorem zLaw.nb {b L : Nat} {xs : Nat → Int32} {s : State} {Y0 : zY} (h : zLaw b L xs s Y0) : ¬ zA Y0 s.heap.size b := fun h1 => absurd (h.2.2 b h1) (Nat.not_le.mpr h.2.1)
theorem z_lawret {E : zE} {Y Y0 : zY} {σ : zS} {p : Program} {l : Launch} {e : Env} {s : State} {m : MethodId} {below : List Frame} {meth : Method} {c : Code} {nL cells slots : Nat} {lv : zLV} {pc : Nat} {own : String} {b L : Nat} {xs : Nat → Int32} (G : zG E p l s m #[Value.ref b] meth c code nL own ret (zA Y0 s.heap.size)) (hsc : zLaw b L xs s Y0) (hd : decode code pc = .ok (.ireturn, 1)) (hc : cells ≤ 601024) (hs : slots ≤ 7293034) : WW E Y σ p l e room_1 s m #[Value.ref b] below meth c (zA Y0 s.heap.size) nL cells slots (lw_Z below #[Value.ref b] s) lv pc [.int 1] := fun H locs ls hH hS hl => by
  refine va_forget (fun q hq => hsc.2.2 _ (hS.2.2 q hq)) ?_
  refine W.widen (k := 601024) (n := 7293034) hc hs ?_
  exact lw_ret (d0 := s.drawn) (Drawn.sameBut.refl s.drawn lw_cs) G.1 G.2.1 G.2.2.2.2.2.1 G.2.2.2.2.2.2.1 hd
section ZLW
variable {E : zE} {Y Y0 : zY} {σ : zS} {p : Program} {l : Launch} {e : Env} {R : Room} {s : State} {m : MethodId} {args : Array Value} {below : List Frame} {meth : Method} {c : Code} {A : Nat → Prop} {nL cells slots : Nat} {Q : State → Prop} {lv lv' : zLV} {pc : Nat} {st st0 : List Value} {cc : ByteArray} {own : String} {ret : Option FieldType} {b L : Nat} {xs : Nat → Int32}
theorem z_lawld (G : zG E p l s m args meth c cc nL own ret (zA Y0 s.heap.size)) (hsc : zLaw b L xs s Y0) {i : Int32} (hi : vp_in i L) (hd : decode cc pc = .ok (.iaload, 1)) (k : WW E Y σ p l e R s m args below meth c (zA Y0 s.heap.size) nL cells slots Q lv (pc + 1) (.int (xs i.toNatClampNeg) :: st)) : WW E Y σ p l e R s m args below meth c (zA Y0 s.heap.size) nL cells slots Q lv pc (.int i :: .ref b :: st) := fun H locs ls hH hS hl =>
  va_sld G.1 G.2.1 hsc.1 hsc.2.1 hsc.nb hS hi hd (k H locs ls hH hS hl)
theorem z_lawlen (G : zG E p l s m args meth c cc nL own ret (zA Y0 s.heap.size)) (hsc : zLaw b L xs s Y0) (hd : decode cc pc = .ok (.arraylength, 1)) (k : WW E Y σ p l e R s m args below meth c (zA Y0 s.heap.size) nL cells slots Q lv (pc + 1) (.int (nI L) :: st)) : WW E Y σ p l e R s m args below meth c (zA Y0 s.heap.size) nL cells slots Q lv pc (.ref b :: st) := fun H locs ls hH hS hl =>
  va_slen G.1 G.2.1 hsc.1 hsc.2.1 hsc.nb hS hd (k H locs ls hH hS hl)
theorem z_dcmp (G : zG E p l s m args meth c cc nL own ret A) {x y : UInt64} {op : CmpOp} (hd : decode cc pc = .ok (.dcmp op, 1)) (k : WW E Y σ p l e R s m args below meth c A nL cells slots Q lv (pc + 1) (.int (Op.cmpValue (FP.dcmp x y) op) :: st)) : WW E Y σ p l e R s m args below meth c A nL cells slots Q lv pc (.double y :: .double x :: st) := fun H locs ls hH hS hl =>
  lv_dcmp G.1 G.2.1 hd (k H locs ls hH hS hl)
theorem z_callCi (G : zG E p l s m args meth c cc nL own ret A) {mc ms : Nat} {Q1 : Int32 → zS → Prop} {as : Array Value} (hr : zRun E Y σ p l e R s m args below meth c A nL cells slots mc ms pc st0 st (fun sz => va_Qi Q1 (zB E Y sz) (zA Y sz) as)) (kk : ∀ (r : Int32) (σ' : zS), Q1 r σ' → WW E Y σ' p l e R s m args below meth c A nL (cells + mc) (slots + ms) Q lv (pc + 3) (.int r :: st)) : WW E Y σ p l e R s m args below meth c A nL cells slots Q lv pc st0 := fun H locs ls hH hS hl =>
  va_calli (hr H locs ls hH hS hl.1) hS (fun q _ h => hH.in hS G.2.2.2.2.2.2.2.2 q h) (hH.in hS G.2.2.2.2.2.2.2.2) (fun r u t H1 locs1 ht _ hp hB _ _ hS1 => kk r u hp H1 locs1 ls (by rw [← ht]; exact zH.weaken hB (hH.in hS G.2.2.2.2.2.2.2.2)) hS1 hl)
end ZLW
theorem z_out53 {x : Int32} (h : ∀ k : Nat, k < 53 → ¬ x = nI k) : x.toInt < 0 ∨ 52 < x.toInt := by
  rcases Int.lt_or_le x.toInt 0 with h0 | h0
  · exact Or.inl h0
  · rcases Int.lt_or_le 52 x.toInt with h1 | h1
    · exact Or.inr h1
    · refine absurd ?_ (h x.toInt.toNat (by omega))
      refine Int32.toInt_inj.mp ?_
      rw [nI_toInt (by omega)]
      omega
