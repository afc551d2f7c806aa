/-! THE ENTRY: what the claim says of the start gives the environment -/
def zfw : List Cond := flatC (Jvm.Cond.and given_1 narrow_1)
def zTMl : List Term := [.string "TypeWheelTelegraph" 370, .string "TypeWheelTelegraph" 384, .string "TypeWheelTelegraph" 73, .string "TypeWheelTelegraph" 86, .string "TypeWheelTelegraph$Parser" 61, .string "TypeWheelTelegraph$Parser" 70, .string "TypeWheelTelegraph$Parser" 74, .string "TypeWheelTelegraph$Parser" 78, .string "TypeWheelTelegraph$Parser" 97, .string "TypeWheelTelegraph$Parser" 101, .string "TypeWheelTelegraph$Parser" 106, .string "TypeWheelTelegraph$Parser" 110, .string "TypeWheelTelegraph" 99, .string "TypeWheelTelegraphLaw" 77, .string "TypeWheelTelegraphLaw" 85, .string "TypeWheelTelegraphLaw" 87, .string "TypeWheelTelegraphLaw" 89, .string "TypeWheelTelegraphLaw" 94, .string "TypeWheelTelegraphLaw" 99, .string "java/util/Arrays" 337, .string "TypeWheelTelegraphLaw" 109, .string "TypeWheelTelegraph" 372, .string "TypeWheelTelegraph" 375, .string "TypeWheelTelegraph" 391, .string "TypeWheelTelegraphLaw" 111, .string "TypeWheelTelegraph" 144, .string "TypeWheelTelegraph" 386, .string "TypeWheelTelegraph" 259, .string "TypeWheelTelegraph" 261, .string "TypeWheelTelegraph" 364]
def zTM (i : Nat) : Term := zTMl.getD i (.arg 0)
theorem zst_px : ∀ i, i < 30 → zfw[([283, 306, 337, 375, 413, 424, 433, 443, 451, 460, 471, 480, 491, 518, 528, 540, 551, 564, 578, 584, 591, 597, 629, 660, 690, 695, 728, 745, 762, 805] : List Nat).getD i 0]? = some (Cond.exactly (zTM i) "java/lang/String") := by decide +kernel
theorem zst_pc : ∀ i, i < 30 → zfw[([284, 307, 338, 376, 414, 425, 434, 444, 452, 461, 472, 481, 492, 519, 529, 541, 552, 565, 579, 585, 592, 598, 630, 661, 691, 696, 729, 746, 763, 806] : List Nat).getD i 0]? = some (Cond.eq (.field (zTM i) "java/lang/String" "coder" "B") (.int 0)) := by decide +kernel
theorem zst_pa : ∀ i, i < 30 → zfw[([285, 308, 339, 377, 415, 426, 435, 445, 453, 462, 473, 482, 493, 520, 530, 542, 553, 566, 580, 586, 593, 599, 631, 662, 692, 697, 730, 747, 764, 807] : List Nat).getD i 0]? = some (Cond.arrayOf (.field (zTM i) "java/lang/String" "value" "[B") .byte) := by decide +kernel
theorem zst_pl : ∀ i, i < 30 → zfw[([286, 309, 340, 378, 416, 427, 436, 446, 454, 463, 474, 483, 494, 521, 531, 543, 554, 567, 581, 587, 594, 600, 632, 663, 693, 698, 731, 748, 765, 808] : List Nat).getD i 0]? = some (Cond.eq (.length (.field (zTM i) "java/lang/String" "value" "[B")) (.int (Int32.ofNat (zSlen.getD i 0)))) := by decide +kernel
theorem zst_pe : ∀ i, i < 30 → ∀ j, j < zSlen.getD i 0 → zfw[([287, 310, 341, 379, 417, 428, 437, 447, 455, 464, 475, 484, 495, 522, 532, 544, 555, 568, 582, 588, 595, 601, 633, 664, 694, 699, 732, 749, 766, 809] : List Nat).getD i 0 + j]? = some (Cond.eq (.elem (.field (zTM i) "java/lang/String" "value" "[B") (.int (Int32.ofNat j))) (.int ((zSbyt.getD i []).getD j 0))) := by decide +kernel
theorem zst_zDOa : zfw[12]? = some (Cond.arrayOf (.static "java/lang/Integer" "DigitOnes" "[B") .byte) := by decide +kernel
theorem zst_zDOl : zfw[13]? = some (Cond.eq (.length (.static "java/lang/Integer" "DigitOnes" "[B")) (.int (Int32.ofNat 100))) := by decide +kernel
theorem zst_zDOe : ∀ j, j < 100 → zfw[([14, 15, 16, 17, 18, 19, 20, 21, 22, 23, 24, 25, 26, 27, 28, 29, 30, 31, 32, 33, 34, 35, 36, 37, 38, 39, 40, 41, 42, 43, 44, 45, 46, 47, 48, 49, 50, 51, 52, 53, 54, 55, 56, 57, 58, 59, 60, 61, 62, 63, 64, 65, 66, 67, 68, 69, 70, 71, 72, 73, 74, 75, 76, 77, 78, 79, 80, 81, 82, 83, 84, 85, 86, 87, 88, 89, 90, 91, 92, 93, 94, 95, 96, 97, 98, 99, 100, 101, 102, 103, 104, 105, 106, 107, 108, 109, 110, 111, 112, 113] : List Nat).getD j 0]? = some (Cond.eq (.elem (.static "java/lang/Integer" "DigitOnes" "[B") (.int (Int32.ofNat j))) (.int (zDO j))) := by decide +kernel
theorem zst_zDTa : zfw[115]? = some (Cond.arrayOf (.static "java/lang/Integer" "DigitTens" "[B") .byte) := by decide +kernel
theorem zst_zDTl : zfw[116]? = some (Cond.eq (.length (.static "java/lang/Integer" "DigitTens" "[B")) (.int (Int32.ofNat 100))) := by decide +kernel
theorem zst_zDTe : ∀ j, j < 100 → zfw[([117, 118, 119, 120, 121, 122, 123, 124, 125, 126, 127, 128, 129, 130, 131, 132, 133, 134, 135, 136, 137, 138, 139, 140, 141, 142, 143, 144, 145, 146, 147, 148, 149, 150, 151, 152, 153, 154, 155, 156, 157, 158, 159, 160, 161, 162, 163, 164, 165, 166, 167, 168, 169, 170, 171, 172, 173, 174, 175, 176, 177, 178, 179, 180, 181, 182, 183, 184, 185, 186, 187, 188, 189, 190, 191, 192, 193, 194, 195, 196, 197, 198, 199, 200, 201, 202, 203, 204, 205, 206, 207, 208, 209, 210, 211, 212, 213, 214, 215, 216] : List Nat).getD j 0]? = some (Cond.eq (.elem (.static "java/lang/Integer" "DigitTens" "[B") (.int (Int32.ofNat j))) (.int (zDT j))) := by decide +kernel
theorem zSb_inj : ∀ i, i < 30 → ∀ j, j < 30 → zSbyt.getD i [] = zSbyt.getD j [] → i = j := by decide +kernel
theorem zSb_ln : ∀ i, i < 30 → (zSbyt.getD i []).length = zSlen.getD i 0 ∧ zSlen.getD i 0 < 100 := by decide +kernel
theorem zgetD {l : List Int32} {q : Nat} (h : q < l.length) : l.getD q 0 = l[q] := by
  rw [List.getD_eq_getElem?_getD, List.getElem?_eq_getElem h]
  rfl
theorem zst_eqr {args : Array Value} {s : State} {t u : Term} {a : Nat} (h : (Cond.eq t u).before args s = true) (ht : t.eval args s none [] s = some (.ref a)) : u.eval args s none [] s = some (.ref a) := by
  cases hu : u.eval args s none [] s with
  | none => simp [Cond.before, Cond.holds, Cond.value, ht, hu] at h
  | some w =>
    simp only [Cond.before, Cond.holds, Cond.value, ht, hu] at h
    cases w <;> simp_all
theorem zSof {args : Array Value} {s : State} {A : Nat → Prop} (hs : ∀ w ∈ zfw, w.before args s = true) (hA : ∀ a : Nat, a < s.heap.size → ¬ A a) : ∃ adK adV : Nat → Nat, vk_S zS_n zSlen zSbyt adK adV A s s.heap ∧ ∀ i : Nat, i < 30 → (zTM i).eval args s none [] s = some (.ref (adK i)) := by
  have h0 : ∀ i : Nat, ∃ q : Nat × Nat, i < 30 → (zTM i).eval args s none [] s = some (.ref q.1) ∧ va_O "java/lang/String" q.1 A s s.heap ∧ va_OF "java/lang/String" "coder" "B" (.int 0) q.1 A s s.heap ∧ va_OF "java/lang/String" "value" "[B" (.ref q.2) q.1 A s s.heap ∧ va_T .byte q.2 (zSlen.getD i 0) (fun j => .int ((zSbyt.getD i []).getD j 0)) A s s.heap := by
    intro i
    by_cases hi : i < 30
    · have hex := hs _ (List.mem_of_getElem? (zst_px i hi))
      have hco := hs _ (List.mem_of_getElem? (zst_pc i hi))
      have har := hs _ (List.mem_of_getElem? (zst_pa i hi))
      have hle := hs _ (List.mem_of_getElem? (zst_pl i hi))
      obtain ⟨a, c, cA, kA, q1, q2, q3, q4, q5, q6, -⟩ := Cond.exactly_spec (args := args) (first := s) (o := none) (s := s) (idx := []) (t := zTM i) (cls := "java/lang/String") hex
      obtain ⟨t, ht, hT⟩ := va_Tof (f := fun j => .int ((zSbyt.getD i []).getD j 0)) (A := A) (Nat.lt_trans (zSb_ln i hi).2 (by decide)) har (va_eqt hle) (fun j hj => va_eqt (hs _ (List.mem_of_getElem? (zst_pe i hi j hj)))) hA
      exact ⟨(a, t), fun _ => ⟨q1, ⟨cA, q3, q5, by rw [q6]; exact q2, hA a (Array.getElem?_eq_some_iff.mp q3).1⟩, vk_OFof q1 (va_eqt hco) hA, vk_OFof q1 ht hA, hT⟩⟩
    · exact ⟨(0, 0), fun h => absurd h hi⟩
  obtain ⟨ad, had⟩ := Classical.axiomOfChoice h0
  refine ⟨fun i => (ad i).1, fun i => (ad i).2, ⟨fun i hi => (had i hi).2, fun i j hi hj e => ?_⟩, fun i hi => (had i hi).1⟩
  obtain ⟨-, -, -, ⟨cf, k, fi, f, cell, a1, -, a3, -, a5, -⟩, cl1, t1, -, -, t4, t5, t6, -⟩ := had i hi
  obtain ⟨-, -, -, ⟨cf', k', fi', f', cell', b1, -, b3, -, b5, -⟩, cl2, u1, -, -, u4, u5, u6, -⟩ := had j hj
  cases a1.symm.trans b1
  have e' : (ad i).1 = (ad j).1 := e
  rw [e'] at a3
  cases a3.symm.trans b3
  have hv : (ad i).2 = (ad j).2 := Value.ref.inj (Option.some.inj (a5.symm.trans b5))
  rw [hv] at t1
  cases t1.symm.trans u1
  have hi2 := zSb_ln i hi
  have hj2 := zSb_ln j hj
  have hl : zSlen.getD i 0 = zSlen.getD j 0 := by
    have h1 : Int32.ofNat (zSlen.getD i 0) = Int32.ofNat (zSlen.getD j 0) := t5.symm.trans u5
    exact (nI_eq (by omega) (by omega)).mp h1
  refine zSb_inj i hi j hj (List.ext_getElem (by rw [hi2.1, hj2.1, hl]) fun q h1 h2 => ?_)
  have h3 := t6 q (by rw [hi2.1] at h1; exact h1)
  have h4 := u6 q (by rw [hj2.1] at h2; exact h2)
  have h5 : (zSbyt.getD i []).getD q 0 = (zSbyt.getD j []).getD q 0 := Value.int.inj (Option.some.inj (h3.symm.trans h4))
  exact (zgetD h1).symm.trans (h5.trans (zgetD h2))
theorem zst_arr {args : Array Value} {s : State} {ty : FieldType} (h : (Cond.arrayClass ty).before args s = true) : ∃ cA : ClassId, ArrOfT s cA ty ∧ s.vm.findClass ("[" ++ ty.toString) = some cA := by
  obtain ⟨cA, kA, comp, h1, h2, h3⟩ := Cond.arrayClass_spec h
  exact ⟨cA, fun n z => ⟨fun k h => (by cases h), kA, h2, comp, h3⟩, h1⟩
theorem zst_arq {args : Array Value} {s : State} {C : String} (h : (Cond.arrayOver (.object C)).before args s = true) : ∃ cA : ClassId, ArrOfT s cA (.object C) ∧ va_RA s cA (.object C) := by
  obtain ⟨comp, cA, kA, h1, -, h2, h3, h4⟩ := Cond.arrayOver_spec h
  exact ⟨cA, fun n z => ⟨fun k h => (by cases h), kA, h2, comp, h3⟩, kA, comp, h2, h3, h1, h4⟩
/-- nothing is made yet -/
def zY0 : zY := (0, fun _ => 0, fun _ => 0, fun _ => 0)
def zσ0 : zS := (fun _ _ => 0, fun _ _ => none, fun _ _ => 0, fun _ _ => 0)
theorem zxs_of (v : Int32) : nI v.toUInt32.toNat = v := by
  apply Int32.toBitVec_inj.mp
  apply BitVec.eq_of_toNat_eq
  have h1 : v.toUInt32.toNat = v.toBitVec.toNat := rfl
  have h2 : v.toBitVec.toNat < 2 ^ 32 := v.toBitVec.isLt
  rw [h1]
  show (BitVec.ofNat 32 v.toBitVec.toNat).toNat = v.toBitVec.toNat
  rw [BitVec.toNat_ofNat]
  exact Nat.mod_eq_of_lt h2
theorem zA0 {sz q : Nat} (h : zA zY0 sz q) : sz ≤ q := by
  rcases h with ⟨a, h, -⟩ | h
  · exact absurd h (Nat.not_lt_zero a)
  · exact h
theorem zst_nc : ∀ q ∈ zNc, (Cond.not (.castable q.1 q.2)) ∈ zfw := by decide +kernel
theorem zst_sr : ∀ q ∈ zStr, (Cond.stringRef q.1 q.2.1 q.2.2.1) ∈ lw_tbl := by decide +kernel
theorem zst_up : ∀ y ∈ zUpM, Cond.privateMethod y ∈ lw_tbl ∧ Cond.instanceMethod y ∈ lw_tbl ∧ (y.cls ≠ "java/lang/invoke/MethodHandle" ∧ y.cls ≠ "java/lang/invoke/VarHandle") ∧ "java/lang/AbstractStringBuilder" = y.cls := by decide +kernel
theorem zst_ev0 : ∀ q ∈ zStr, q.2.2.2 < 30 ∧ (zTM q.2.2.2 = Term.string q.1 q.2.1 ∨ Cond.eq (zTM q.2.2.2) (Term.string q.1 q.2.1) ∈ zfw) := by decide +kernel
theorem zst_ev {args : Array Value} {s : State} {adK : Nat → Nat} (hs : ∀ w ∈ zfw, w.before args s = true) (hE : ∀ i : Nat, i < 30 → (zTM i).eval args s none [] s = some (.ref (adK i))) (q : String × Nat × String × Nat) (hq : q ∈ zStr) : (Term.string q.1 q.2.1).eval args s none [] s = some (.ref (adK q.2.2.2)) := by
  obtain ⟨h1, h2⟩ := zst_ev0 q hq
  rcases h2 with h2 | h2
  · rw [← h2]; exact hE _ h1
  · exact zst_eqr (hs _ h2) (hE _ h1)
set_option maxRecDepth 100000 in
theorem zEnv {p : Program} {s : State} {m : MethodId} {meth : Method} {c : Code} {b L : Nat} {xs : Nat → Int32} (C0 : lw_At p s m meth c b L xs) : ∃ E : zE, zF E (zA zY0 s.heap.size) s s.heap ∧ E.2.2.2 1002 = b ∧ zScL E = L ∧ zScX E = xs := by
  obtain ⟨-, -, -, -, -, hts, hX, hbl, -, hgv⟩ := C0
  have hs : ∀ w ∈ zfw, w.before #[Value.ref b] s = true := flat_of_before _ hgv
  have hA : ∀ a : Nat, a < s.heap.size → ¬ zA zY0 s.heap.size a := fun a h h1 => absurd (zA0 h1) (Nat.not_le.mpr h)
  have hg : ∀ w ∈ zGL, w.before #[Value.ref b] s = true := fun w hw => hts w (List.mem_filter.mp hw).1
  obtain ⟨c0, i0, K0⟩ := u_known (C := RX0) (T := TX0) (N := 4) hg ck_0.2.2.1 (hg _ kn_0)
  obtain ⟨c1, i1, K1⟩ := u_known (C := RX1) (T := TX1) (N := 3) hg ck_1.2.2.1 (hg _ kn_1)
  obtain ⟨c2, i2, K2⟩ := u_known (C := RX2) (T := TX2) (N := 2) hg ck_2.2.2.1 (hg _ kn_2)
  obtain ⟨c3, i3, K3⟩ := u_known (C := RX3) (T := TX3) (N := 17) hg ck_3.2.2.1 (hg _ kn_3)
  obtain ⟨c4, i4, K4⟩ := u_known (C := RX4) (T := TX4) (N := 8) hg ck_4.2.2.1 (hg _ kn_4)
  obtain ⟨c5, i5, K5⟩ := u_known (C := RX5) (T := TX5) (N := 3) hg ck_5.2.2.1 (hg _ kn_5)
  obtain ⟨c6, i6, K6⟩ := u_known (C := RX6) (T := TX6) (N := 8) hg ck_6.2.2.1 (hg _ kn_6)
  obtain ⟨c7, i7, K7⟩ := u_known (C := RX7) (T := TX7) (N := 4) hg ck_7.2.2.1 (hg _ kn_7)
  obtain ⟨c8, i8, K8⟩ := u_known (C := RX8) (T := TX8) (N := 4) hg ck_8.2.2.1 (hg _ kn_8)
  obtain ⟨c9, i9, K9⟩ := u_known (C := RX9) (T := TX9) (N := 2) hg ck_9.2.2.1 (hg _ kn_9)
  obtain ⟨c10, i10, K10⟩ := u_known (C := RX10) (T := TX10) (N := 4) hg ck_10.2.2.1 (hg _ kn_10)
  obtain ⟨c11, i11, K11⟩ := u_known (C := RX11) (T := TX11) (N := 9) hg ck_11.2.2.1 (hg _ kn_11)
  obtain ⟨c12, i12, K12⟩ := u_known (C := RJ0) (T := TJ0) (N := 4) hg ck_12.2.2.1 (hg _ kn_12)
  obtain ⟨c13, i13, K13⟩ := u_known (C := RJ4) (T := TJ4) (N := 4) hg ck_13.2.2.1 (hg _ kn_13)
  obtain ⟨a20, b20, d20⟩ := zst_arr (hg _ kA_20)
  obtain ⟨a21, b21, d21⟩ := zst_arr (hg _ kA_21)
  have o22 : (Cond.arrayOver (.object RX2)).before #[Value.ref b] s = true := hts _ (List.mem_of_getElem? (i := 165) (by decide +kernel))
  obtain ⟨a22, b22, d22⟩ := zst_arq o22
  have o23 : (Cond.arrayOver (.object RX3)).before #[Value.ref b] s = true := hts _ (List.mem_of_getElem? (i := 458) (by decide +kernel))
  obtain ⟨a23, b23, d23⟩ := zst_arq o23
  obtain ⟨adK, adV, hS, hE⟩ := zSof hs hA
  obtain ⟨tzDO, ezDO, TzDO⟩ := va_Tof (N := 100) (f := fun j => .int (zDO j)) (by decide) (hs _ (List.mem_of_getElem? zst_zDOa)) (va_eqt (hs _ (List.mem_of_getElem? zst_zDOl))) (fun j hj => va_eqt (hs _ (List.mem_of_getElem? (zst_zDOe j hj)))) hA
  obtain ⟨tzDT, ezDT, TzDT⟩ := va_Tof (N := 100) (f := fun j => .int (zDT j)) (by decide) (hs _ (List.mem_of_getElem? zst_zDTa)) (va_eqt (hs _ (List.mem_of_getElem? zst_zDTl))) (fun j hj => va_eqt (hs _ (List.mem_of_getElem? (zst_zDTe j hj)))) hA
  have hxs : (fun j : Nat => nI ((fun i : Nat => if i = 1000 then tzDO else if i = 1001 then tzDT else if i = 1002 then b else if i = 1003 then L else if 2000 ≤ i then (xs (i - 2000)).toUInt32.toNat else adV i) (2000 + j))) = xs := by
    funext j
    show nI (if 2000 + j = 1000 then tzDO else if 2000 + j = 1001 then tzDT else if 2000 + j = 1002 then b else if 2000 + j = 1003 then L else if 2000 ≤ 2000 + j then (xs (2000 + j - 2000)).toUInt32.toNat else adV (2000 + j)) = xs j
    rw [if_neg (by omega), if_neg (by omega), if_neg (by omega), if_neg (by omega), if_pos (by omega), Nat.add_sub_cancel_left]
    exact zxs_of (xs j)
  have hscr : va_X b L (fun j : Nat => nI ((fun i : Nat => if i = 1000 then tzDO else if i = 1001 then tzDT else if i = 1002 then b else if i = 1003 then L else if 2000 ≤ i then (xs (i - 2000)).toUInt32.toNat else adV i) (2000 + j))) s s.heap := by
    rw [hxs]
    exact hX
  refine ⟨((fun k => match k with | 0 => c0 | 1 => c1 | 2 => c2 | 3 => c3 | 4 => c4 | 5 => c5 | 6 => c6 | 7 => c7 | 8 => c8 | 9 => c9 | 10 => c10 | 11 => c11 | 12 => c12 | 13 => c13 | _ => c0, fun k => match k with | 0 => i0 | 1 => i1 | 2 => i2 | 3 => i3 | 4 => i4 | 5 => i5 | 6 => i6 | 7 => i7 | 8 => i8 | 9 => i9 | 10 => i10 | 11 => i11 | 12 => i12 | 13 => i13 | _ => i0), (fun k => match k with | 20 => a20 | 21 => a21 | 22 => a22 | _ => a23), adK, fun i => if i = 1000 then tzDO else if i = 1001 then tzDT else if i = 1002 then b else if i = 1003 then L else if 2000 ≤ i then (xs (i - 2000)).toUInt32.toNat else adV i), ⟨⟨?_, ?_⟩, ⟨?_, ?_, ?_⟩, ?_⟩, rfl, rfl, hxs⟩
  · intro k q hq
    match k, hq with
    | 0, hq => cases hq; exact K0
    | 1, hq => cases hq; exact K1
    | 2, hq => cases hq; exact K2
    | 3, hq => cases hq; exact K3
    | 4, hq => cases hq; exact K4
    | 5, hq => cases hq; exact K5
    | 6, hq => cases hq; exact K6
    | 7, hq => cases hq; exact K7
    | 8, hq => cases hq; exact K8
    | 9, hq => cases hq; exact K9
    | 10, hq => cases hq; exact K10
    | 11, hq => cases hq; exact K11
    | 12, hq => cases hq; exact K12
    | 13, hq => cases hq; exact K13
    | k + 14, hq => cases hq
  · intro k q hq
    match k, hq with
    | 0, hq => cases hq; exact ⟨b20, d20⟩
    | 1, hq => cases hq; exact ⟨b21, d21⟩
    | 2, hq => cases hq; exact ⟨b22, d22⟩
    | 3, hq => cases hq; exact ⟨b23, d23⟩
    | k + 4, hq => cases hq
  · intro w hw
    have h1 := List.mem_filter.mp hw
    have h2 := hts w h1.1
    have h3 := h1.2
    cases w <;> first | (simp [zNest] at h3; done) | exact va_Nw.of rfl h2
  · intro q hq
    have h1 : (Cond.stringRef q.1 q.2.1 q.2.2.1) ∈ lw_tbl := zst_sr q hq
    exact vk_R.of (hts _ h1) (zst_ev hs hE q hq)
  · intro w hw
    obtain ⟨y, hy, rfl⟩ := List.mem_map.mp hw
    obtain ⟨h1, h2, h3, h4⟩ := zst_up y hy
    exact va_Nw.of rfl (zsel_up (x := ⟨"java/lang/AbstractStringBuilder", "isLatin1", "()Z"⟩) h3 h4 (hts _ (List.mem_of_getElem? (i := 967) (by decide +kernel))) (hts _ h1) (hts _ h2))
  · refine ⟨⟨fun i hi => ?_, hS.2⟩, vx_Zqof (hts _ (List.mem_of_getElem? (i := 544) (by decide +kernel))) (hts _ (List.mem_of_getElem? (i := 45) (by decide +kernel))) (hs _ (List.mem_of_getElem? (i := 5) (by decide +kernel))) hA, vx_Zqof (hts _ (List.mem_of_getElem? (i := 546) (by decide +kernel))) (hts _ (List.mem_of_getElem? (i := 45) (by decide +kernel))) (hs _ (List.mem_of_getElem? (i := 6) (by decide +kernel))) hA, va_Zof (hts _ (List.mem_of_getElem? (i := 128) (by decide +kernel))) (hts _ (List.mem_of_getElem? (i := 34) (by decide +kernel))) (va_eqt (hs _ (List.mem_of_getElem? (i := 4) (by decide +kernel)))) hA, ⟨va_Zof (hts _ (List.mem_of_getElem? (i := 1033) (by decide +kernel))) (hts _ (List.mem_of_getElem? (i := 53) (by decide +kernel))) ezDO hA, TzDO⟩, ⟨va_Zof (hts _ (List.mem_of_getElem? (i := 1035) (by decide +kernel))) (hts _ (List.mem_of_getElem? (i := 53) (by decide +kernel))) ezDT hA, TzDT⟩, va_Zqof (hts _ (List.mem_of_getElem? (i := 700) (by decide +kernel))) (hts _ (List.mem_of_getElem? (i := 51) (by decide +kernel))) (hs _ (List.mem_of_getElem? (i := 7) (by decide +kernel))) hA, fun q hq => va_Nc.of (hs _ (zst_nc q hq)), va_AO.of o22, va_AO.of o23, ⟨hscr, fun h => absurd (zA0 h) (Nat.not_le.mpr hbl)⟩⟩
    have hi' : i < 30 := hi
    have h1 : ¬ i = 1000 := by omega
    have h2 : ¬ i = 1001 := by omega
    have h3 : ¬ i = 1002 := by omega
    have h4 : ¬ i = 1003 := by omega
    have h5 : ¬ 2000 ≤ i := by omega
    show _ ∧ _ ∧ va_OF _ _ _ (.ref (if i = 1000 then tzDO else if i = 1001 then tzDT else if i = 1002 then b else if i = 1003 then L else if 2000 ≤ i then (xs (i - 2000)).toUInt32.toNat else adV i)) _ _ _ _ ∧ va_T _ (if i = 1000 then tzDO else if i = 1001 then tzDT else if i = 1002 then b else if i = 1003 then L else if 2000 ≤ i then (xs (i - 2000)).toUInt32.toNat else adV i) _ _ _ _ _
    rw [if_neg h1, if_neg h2, if_neg h3, if_neg h4, if_neg h5]
    exact hS.1 i hi
/-- the law holds of a script as soon as its formula does -/
theorem zbegin {p : Program} {e : Env} {s : State} {m : MethodId} {below : List Frame} {meth : Method} {c : Code} (l : Launch) (hflags : l.flags = flags0) {b L : Nat} {xs : Nat → Int32} (C0 : lw_At p s m meth c b L xs) (hw : wL_law L xs (zsp zY0) zσ0) : W p l e room_1 s m #[Value.ref b] below meth c s.heap [] 0 0 (lw_Z below #[Value.ref b] s) (entryFrame m ([Value.ref b] : List Value).toArray 5) := by
  obtain ⟨E, hF, rfl, rfl, rfl⟩ := zEnv C0
  have hlt : l.stackTraces = false := by
    unfold Launch.stackTraces
    rw [hflags]
    decide +kernel
  have hl := lv_entry ([Value.ref (E.2.2.2 1002)]) (n := 5) (Nat.le_of_ble_eq_true rfl)
  have hG : zG E p l s m #[Value.ref (E.2.2.2 1002)] meth c cL_law 5 RL (some .boolean) (zA zY0 s.heap.size) := ⟨C0.1, C0.2.1, C0.2.2.2.1, C0.2.2.2.2.1, fun w hw => C0.2.2.2.2.2.1 w (List.mem_filter.mp hw).1, C0.2.2.1, C0.2.2.2.2.2.2.2.2.1, hF, fun _ h => Or.inr h⟩
  have hH : zH E zY0 zσ0 (zA zY0 s.heap.size) s.heap := ⟨fun k q hk => (by cases k <;> cases hk), ⟨fun i j p q hp => (by cases i <;> cases hp), fun k q hk => (by cases k <;> cases hk)⟩, fun a j q ha => absurd ha (Nat.not_lt_zero a)⟩
  rw [lg_entry_eq]
  exact ML_law hlt hG (fun q h => zA0 h) hw s.heap [] _ hH va_S.rf hl
