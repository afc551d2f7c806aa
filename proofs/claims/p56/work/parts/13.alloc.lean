/-! MAKING: a layout that grows by new cells -/
abbrev zSp : Type := Nat × (Nat → Nat) × (Nat → Nat)
def zsp (Y : zY) : zSp := (Y.1, Y.2.1, Y.2.2.1)
def zSk (S : zSp) : Nat := S.1
def zSs (S : zSp) (a : Nat) : Nat := S.2.1 a
def zSl (S : zSp) (a : Nat) : Nat := S.2.2 a
/-- one more cell, of kind kd and length n -/
def zSpush (S : zSp) (kd n : Nat) : zSp := (S.1 + 1, (fun a => if a = S.1 then kd else S.2.1 a), (fun a => if a = S.1 then n else S.2.2 a))
def zpush (Y : zY) (kd n q : Nat) : zY := (Y.1 + 1, (fun a => if a = Y.1 then kd else Y.2.1 a), (fun a => if a = Y.1 then n else Y.2.2.1 a), (fun a => if a = Y.1 then q else Y.2.2.2 a))
/-- a new cell holds nothing -/
def zfresh (σ : zS) (k : Nat) : zS := ((fun b => if b = k then fun _ => 0 else σ.1 b), (fun b => if b = k then fun _ => none else σ.2.1 b), (fun b => if b = k then fun _ => 0 else σ.2.2.1 b), (fun b => if b = k then fun _ => 0 else σ.2.2.2 b))
theorem gi_zf (σ : zS) (k b j : Nat) : gi (zfresh σ k) b j = if b = k then 0 else gi σ b j := by
  show (if b = k then fun _ => 0 else σ.1 b) j = _
  split <;> rfl
theorem gr_zf (σ : zS) (k b j : Nat) : gr (zfresh σ k) b j = if b = k then none else gr σ b j := by
  show (if b = k then fun _ => none else σ.2.1 b) j = _
  split <;> rfl
theorem gl_zf (σ : zS) (k b j : Nat) : gl (zfresh σ k) b j = if b = k then 0 else gl σ b j := by
  show (if b = k then fun _ => 0 else σ.2.2.1 b) j = _
  split <;> rfl
theorem gd_zf (σ : zS) (k b j : Nat) : gd (zfresh σ k) b j = if b = k then 0 else gd σ b j := by
  show (if b = k then fun _ => 0 else σ.2.2.2 b) j = _
  split <;> rfl
/-- a layout that has grown -/
def zext (Y Y' : zY) : Prop := zK Y ≤ zK Y' ∧ ∀ a, a < zK Y → zsh Y' a = zsh Y a ∧ zln Y' a = zln Y a ∧ za Y' a = za Y a
theorem zext.rf {Y : zY} : zext Y Y := ⟨Nat.le_refl _, fun _ _ => ⟨rfl, rfl, rfl⟩⟩
theorem zext.tr {Y1 Y2 Y3 : zY} (h : zext Y1 Y2) (g : zext Y2 Y3) : zext Y1 Y3 := ⟨Nat.le_trans h.1 g.1, fun a ha => by
  obtain ⟨h1, h2, h3⟩ := h.2 a ha
  obtain ⟨g1, g2, g3⟩ := g.2 a (Nat.lt_of_lt_of_le ha h.1)
  exact ⟨g1.trans h1, g2.trans h2, g3.trans h3⟩⟩
theorem zext.T {Y Y' : zY} (h : zext Y Y') {kd a : Nat} (ha : zT Y kd a) : zT Y' kd a := ⟨Nat.lt_of_lt_of_le ha.1 h.1, (h.2 a ha.1).1.trans ha.2⟩
theorem zext.a {Y Y' : zY} (h : zext Y Y') {kd a : Nat} (ha : zT Y kd a) : za Y' a = za Y a := (h.2 a ha.1).2.2
theorem zpush_ext {Y : zY} {kd n q : Nat} : zext Y (zpush Y kd n q) := ⟨Nat.le_succ _, fun a ha => by
  have h : a ≠ Y.1 := Nat.ne_of_lt ha
  exact ⟨if_neg h, if_neg h, if_neg h⟩⟩
theorem zpush_T {Y : zY} {kd n q : Nat} : zT (zpush Y kd n q) kd (zK Y) := ⟨Nat.lt_succ_self _, if_pos rfl⟩
theorem zpush_a {Y : zY} {kd n q : Nat} : za (zpush Y kd n q) (zK Y) = q := if_pos rfl
theorem zpush_n {Y : zY} {kd n q : Nat} : zln (zpush Y kd n q) (zK Y) = n := if_pos rfl
theorem zfl_cong2 {E : zE} {Y Y' : zY} {σ σ' : zS} {a : Nat} : ∀ (ts : List Nat) (k0 : Nat), (∀ k t, ts[k]? = some t → zfv E Y σ a (k0 + k) t = zfv E Y' σ' a (k0 + k) t) → zfl E Y σ a k0 ts = zfl E Y' σ' a k0 ts
  | [], _, _ => rfl
  | t :: ts, k0, h => by
    show _ :: _ = _ :: _
    have h0 : zfv E Y σ a k0 t = zfv E Y' σ' a k0 t := h 0 t rfl
    have h2 : zfl E Y σ a (k0 + 1) ts = zfl E Y' σ' a (k0 + 1) ts := zfl_cong2 ts (k0 + 1) (fun k u hu => by
      have h1 := h (k + 1) u hu
      have e : k0 + (k + 1) = k0 + 1 + k := by omega
      rw [e] at h1
      exact h1)
    rw [h0, h2]
theorem zrt_99 : ∀ kd, kd < 14 → ∀ k, k < 23 → (zft kd)[k]? = some 1 → ¬ zrt kd k = 99 := by decide +kernel
theorem zft_len : ∀ kd, kd < 14 → (zft kd).length ≤ 23 := by decide +kernel
theorem zrt_99' {kd k : Nat} (h : (zft kd)[k]? = some 1) : ¬ zrt kd k = 99 := by
  by_cases hk : kd < 14
  · exact zrt_99 kd hk k (Nat.lt_of_lt_of_le (List.getElem?_eq_some_iff.mp h).1 (zft_len kd hk)) h
  · have : zft kd = [] := by
      match kd, hk with
      | n + 14, _ => rfl
    rw [this] at h
    cases h
theorem zcell_push {E : zE} {Y : zY} {σ : zS} {kd n q b : Nat} (hW : zWT Y σ) (hb : b < zK Y) : zcell E (zpush Y kd n q) (zfresh σ (zK Y)) b = zcell E Y σ b := by
  have hne : b ≠ zK Y := Nat.ne_of_lt hb
  have e1 : gi (zfresh σ (zK Y)) b = gi σ b := if_neg hne
  have e2 : gr (zfresh σ (zK Y)) b = gr σ b := if_neg hne
  have e3 : gl (zfresh σ (zK Y)) b = gl σ b := if_neg hne
  have e4 : gd (zfresh σ (zK Y)) b = gd σ b := if_neg hne
  have es : zsh (zpush Y kd n q) b = zsh Y b := if_neg hne
  have el : zln (zpush Y kd n q) b = zln Y b := if_neg hne
  have hr : ∀ k, ¬ zrt (zsh Y b) k = 99 → (gr σ b k).map (za (zpush Y kd n q)) = (gr σ b k).map (za Y) := by
    intro k hk
    cases h : gr σ b k with
    | none => rfl
    | some j =>
      have h1 := hW b k j hb h
      unfold zok at h1
      rw [if_neg hk] at h1
      show some _ = some _
      rw [zext.a zpush_ext h1]
  unfold zcell
  rw [es, el]
  by_cases hk : zsh Y b < 20
  · rw [if_pos hk, if_pos hk, zfl_cong2 (E := E) (Y := zpush Y kd n q) (Y' := Y) (σ := zfresh σ (zK Y)) (σ' := σ) (a := b) (zft (zsh Y b)) 0 (fun k t ht => by
      unfold zfv
      rw [e1, e2, e3]
      by_cases h1 : t = 1
      · subst h1
        rw [if_neg (by decide), if_pos rfl, if_neg (by decide), if_pos rfl]
        unfold va_re
        rw [Nat.zero_add, hr k (zrt_99' ht)]
      · rw [if_neg h1, if_neg h1])]
  · rw [if_neg hk, if_neg hk]
    have : zac (zpush Y kd n q) (zfresh σ (zK Y)) b (zsh Y b) = zac Y σ b (zsh Y b) := by
      unfold zac
      rw [e1, e2, e3, e4]
      by_cases h22 : zsh Y b = 22
      · rw [h22, if_neg (by decide), if_neg (by decide), if_pos rfl, if_neg (by decide), if_neg (by decide), if_pos rfl]
        have : (fun j => (gr σ b j).map (za (zpush Y kd n q))) = (fun j => (gr σ b j).map (za Y)) := funext fun j => hr j (by rw [h22]; exact (by decide : ¬ (2 : Nat) = 99))
        rw [this]
      · by_cases h23 : zsh Y b = 23
        · rw [h23, if_neg (by decide), if_neg (by decide), if_neg (by decide), if_pos rfl, if_neg (by decide), if_neg (by decide), if_neg (by decide), if_pos rfl]
          have : (fun j => (gr σ b j).map (za (zpush Y kd n q))) = (fun j => (gr σ b j).map (za Y)) := funext fun j => hr j (by rw [h23]; exact (by decide : ¬ (3 : Nat) = 99))
          rw [this]
        · rw [if_neg h22, if_neg h22, if_neg h23, if_neg h23]
    rw [this]
theorem zws_push {E : zE} {Y : zY} {σ : zS} {kd n q : Nat} {e0 : va_E} (hW : zWT Y σ) (he : zcell E (zpush Y kd n q) (zfresh σ (zK Y)) (zK Y) = e0) : zws E Y σ ++ [(q, e0)] = zws E (zpush Y kd n q) (zfresh σ (zK Y)) := by
  unfold zws
  rw [show zK (zpush Y kd n q) = zK Y + 1 from rfl, List.range_succ, List.map_append, List.map_singleton, zpush_a, he]
  congr 1
  apply List.map_congr_left
  intro b hb
  have hb' := List.mem_range.mp hb
  rw [zcell_push hW hb', zext.a (kd := zsh Y b) zpush_ext ⟨hb', rfl⟩]
theorem zWT_push {Y : zY} {σ : zS} {kd n q : Nat} (h : zWT Y σ) : zWT (zpush Y kd n q) (zfresh σ (zK Y)) := by
  intro b j r hb hr
  rw [gr_zf] at hr
  by_cases hbk : b = zK Y
  · rw [if_pos hbk] at hr
    cases hr
  · rw [if_neg hbk] at hr
    have hb' : b < zK Y := by have : b < zK Y + 1 := hb; omega
    have h1 := h b j r hb' hr
    rw [show zsh (zpush Y kd n q) b = zsh Y b from if_neg hbk]
    unfold zok at h1 ⊢
    split
    · rename_i h99
      rw [if_pos h99] at h1
      exact h1
    · rename_i h99
      rw [if_neg h99] at h1
      exact zext.T zpush_ext h1
/-- what a maker owes at its end -/
def zBA (E : zE) (Y : zY) (sz : Nat) : (zY × zS) → State → Prop := fun u t => zext Y u.1 ∧ zH E u.1 u.2 (zA Y sz) t.heap
def zBAr (E : zE) (Y : zY) (sz kq : Nat) : (Nat × zY × zS) → Nat → State → Prop := fun u ra t => ra = za u.2.1 u.1 ∧ zT u.2.1 kq u.1 ∧ zext Y u.2.1 ∧ zH E u.2.1 u.2.2 (zA Y sz) t.heap
theorem zarr_uniq {E : zE} {s : State} (hK : va_K E.1 zcl (zty E) s) {t0 : Nat} {kd : Nat} {ty : FieldType} (ht : (zty E)[t0]? = some (E.2.1 kd, ty)) {cA : ClassId} (h : s.vm.findClass ("[" ++ ty.toString) = some cA) (hn : s.vm.findClass ("[" ++ ty.toString) = some (E.2.1 kd)) : cA = E.2.1 kd := Option.some.inj (h.symm.trans hn)
section ZM
variable {E : zE} {Y Y0 : zY} {σ : zS} {p : Program} {l : Launch} {e : Env} {R : Room} {s : State} {m : MethodId} {args : Array Value} {below : List Frame} {meth : Method} {c : Code} {A : Nat → Prop} {nL cells slots : Nat} {Q : State → Prop} {lv lv' : zLV} {pc : Nat} {st st0 : List Value} {cc : ByteArray} {own : String} {ret : Option FieldType}
theorem z_new (G : zG E p l s m args meth c cc nL own ret A) {index ci N : Nat} {C : String} {T : u_T} {ty : Nat → FieldType} (F : zck ci C T N ty) (hcl : Cond.classLink own index C ∈ zGL) (hinst : Cond.instantiable C N ∈ zGL) (hini : Cond.initialized C ∈ zGL) (hft : ∀ j, j < N → ∃ t, (zft ci)[j]? = some t ∧ (t = 0 → defaultValue (ty j) = .int 0) ∧ (t = 1 → defaultValue (ty j) = .null) ∧ (t = 2 → defaultValue (ty j) = .long 0) ∧ (t = 3 → defaultValue (ty j) = .null) ∧ t ≤ 3) (hc : cells + 1 ≤ R.cells) (hs : slots + N ≤ R.slots) (hd : decode cc pc = .ok (.new index, 3))
    (kk : ∀ (Y1 : zY) (a : Nat), a = zSk (zsp Y) → zext Y Y1 → zsp Y1 = zSpush (zsp Y) ci 0 → zT Y1 ci a → WW E Y1 (zfresh σ a) p l e R s m args below meth c A nL (cells + 1) (slots + N) Q lv (pc + 3) (.ref (za Y1 a) :: st)) : WW E Y σ p l e R s m args below meth c A nL cells slots Q lv pc st := fun H locs ls hH hS hl => by
  refine va_new G.1 G.2.1 G.2.2.2.2.1 F.2.2.1 ty F.2.2.2.1 G.2.2.2.1 (G.2.2.2.2.1 _ hcl) (G.2.2.2.2.1 _ hinst) (G.2.2.2.2.1 _ hini) G.2.2.2.2.2.2.2.1.1 hH.1 hH.2.1 hS G.2.2.2.2.2.2.2.2 F.1 (fs := zfl E (zpush Y ci 0 0) (zfresh σ (zK Y)) (zK Y) 0 (zft ci)) ?_ hc hs hd ?_
  · intro j hj
    obtain ⟨t, ht, h0, h1, h2, h3, h4⟩ := hft j hj
    unfold vp_V
    rw [List.getD_eq_getElem?_getD, zfl_at _ 0 j t ht]
    show _ = zfv _ _ _ _ _ _
    unfold zfv
    rw [Nat.zero_add, gi_zf, gr_zf, gl_zf, if_pos rfl, if_pos rfl, if_pos rfl]
    by_cases e0 : t = 0
    · rw [if_pos e0, h0 e0]
    · rw [if_neg e0]
      by_cases e1 : t = 1
      · rw [if_pos e1, h1 e1]; rfl
      · rw [if_neg e1]
        by_cases e2 : t = 2
        · rw [if_pos e2, h2 e2]
        · rw [if_neg e2, h3 (by omega)]; rfl
  · intro q H1 hP hD hS1
    have e0 : zcell E (zpush Y ci 0 q) (zfresh σ (zK Y)) (zK Y) = .inr (ci, zfl E (zpush Y ci 0 0) (zfresh σ (zK Y)) (zK Y) 0 (zft ci)) := by
      rw [zcell_obj (show zsh (zpush Y ci 0 q) (zK Y) = ci from if_pos rfl) F.2.1]
      congr 2
      apply zfl_cong2
      intro k t _
      unfold zfv
      rw [gi_zf, gr_zf, gl_zf, if_pos rfl, if_pos rfl, if_pos rfl]
      rfl
    rw [zws_push hH.2.2 e0] at hP hD
    have key := kk (zpush Y ci 0 q) (zK Y) rfl zpush_ext rfl zpush_T
    rw [zpush_a] at key
    exact key H1 locs ls ⟨hP, hD, zWT_push hH.2.2⟩ hS1 hl
theorem z_newa (G : zG E p l s m args meth c cc nL own ret A) {atype : ArrayType} {kd t0 : Nat} {ty : FieldType} {n : Int32} (harr : Cond.arrayClass (newarray.typeOf atype) ∈ zGL) (hty : newarray.typeOf atype = ty) (ht : (zty E)[t0]? = some (E.2.1 kd, ty)) (hkd : (kd = 20 ∧ ty = .int) ∨ (kd = 21 ∧ ty = .byte) ∨ (kd = 24 ∧ ty = .long) ∨ (kd = 25 ∧ ty = .double)) (hn : ¬ n < 0) (hb : n.toNatClampNeg * componentBytes ty ≤ 536870912) (hc : cells + 1 ≤ R.cells) (hs : slots + n.toNatClampNeg ≤ R.slots) (hd : decode cc pc = .ok (.newarray atype, 2))
    (kk : ∀ (Y1 : zY) (a : Nat), a = zSk (zsp Y) → zext Y Y1 → zsp Y1 = zSpush (zsp Y) kd n.toNatClampNeg → zT Y1 kd a → WW E Y1 (zfresh σ a) p l e R s m args below meth c A nL (cells + 1) (slots + n.toNatClampNeg) Q lv (pc + 2) (.ref (za Y1 a) :: st)) : WW E Y σ p l e R s m args below meth c A nL cells slots Q lv pc (.int n :: st) := fun H locs ls hH hS hl => by
  have hk20 : ¬ kd < 20 := by rcases hkd with ⟨rfl, -⟩ | ⟨rfl, -⟩ | ⟨rfl, -⟩ | ⟨rfl, -⟩ <;> decide
  have hprim : ∀ C, ty ≠ .object C := by rcases hkd with ⟨-, rfl⟩ | ⟨-, rfl⟩ | ⟨-, rfl⟩ | ⟨-, rfl⟩ <;> exact fun C h => by cases h
  have key0 : ∀ q, zac (zpush Y kd n.toNatClampNeg q) (zfresh σ (zK Y)) (zK Y) kd = zac (zpush Y kd n.toNatClampNeg 0) (zfresh σ (zK Y)) (zK Y) kd := by
    intro q
    rcases hkd with ⟨rfl, -⟩ | ⟨rfl, -⟩ | ⟨rfl, -⟩ | ⟨rfl, -⟩ <;> rfl
  refine va_newa G.1 G.2.1 (G.2.2.2.2.1 _ harr) hty G.2.2.2.2.2.2.2.1.1 hH.1 hH.2.1 hS G.2.2.2.2.2.2.2.2 (a0 := (n.toNatClampNeg, zac (zpush Y kd n.toNatClampNeg 0) (zfresh σ (zK Y)) (zK Y) kd)) ?_ hn rfl hb hc hs hd ?_
  · intro cA
    rcases hkd with ⟨rfl, rfl⟩ | ⟨rfl, rfl⟩ | ⟨rfl, rfl⟩ | ⟨rfl, rfl⟩
    · show vp_cell cA (_, .inl (fun j => gi (zfresh σ (zK Y)) (zK Y) j)) = _
      rw [vp_cell_i]
      congr 1
      funext j
      rw [gi_zf, if_pos rfl]
      rfl
    · show vp_cell cA (_, .inl (fun j => gi (zfresh σ (zK Y)) (zK Y) j)) = _
      rw [vp_cell_i]
      congr 1
      funext j
      rw [gi_zf, if_pos rfl]
      rfl
    · show vp_cell cA (_, .inr (.inl (fun j => gl (zfresh σ (zK Y)) (zK Y) j))) = _
      rw [vp_cell_l]
      congr 1
      funext j
      rw [gl_zf, if_pos rfl]
      rfl
    · show vp_cell cA (_, .inr (.inr (.inr (.inl (fun j => gd (zfresh σ (zK Y)) (zK Y) j))))) = _
      rw [vp_cell_d]
      congr 1
      funext j
      rw [gd_zf, if_pos rfl]
      rfl
  · intro q cA H1 hK hP hD hS1
    have hcA : cA = E.2.1 kd := by
      have h1 := (hK.2 (zty E).length (cA, ty) (by rw [List.getElem?_append_right (Nat.le_refl _), Nat.sub_self]; rfl)).2
      have h2 := (G.2.2.2.2.2.2.2.1.1.2 t0 _ ht).2
      rcases hkd with ⟨-, rfl⟩ | ⟨-, rfl⟩ | ⟨-, rfl⟩ | ⟨-, rfl⟩ <;> exact Option.some.inj (h1.symm.trans h2)
    subst hcA
    have e0 : zcell E (zpush Y kd n.toNatClampNeg q) (zfresh σ (zK Y)) (zK Y) = .inl (E.2.1 kd, n.toNatClampNeg, zac (zpush Y kd n.toNatClampNeg 0) (zfresh σ (zK Y)) (zK Y) kd) := by
      rw [zcell_arr (show zsh (zpush Y kd n.toNatClampNeg q) (zK Y) = kd from if_pos rfl) hk20, zpush_n, key0]
    rw [zws_push hH.2.2 e0] at hP hD
    have key := kk (zpush Y kd n.toNatClampNeg q) (zK Y) rfl zpush_ext rfl zpush_T
    rw [zpush_a] at key
    exact key H1 locs ls ⟨hP, hD, zWT_push hH.2.2⟩ hS1 hl
theorem z_newq (G : zG E p l s m args meth c cc nL own ret A) {kd t0 index : Nat} {C : String} {n : Int32} (hcl : Cond.classLink own index C ∈ zGL) (hao : va_AO C s) (ht : (zty E)[t0]? = some (E.2.1 kd, .object C)) (hkd : kd = 22 ∨ kd = 23) (hn : ¬ n < 0) (hb : n.toNatClampNeg * 4 ≤ 536870912) (hc : cells + 1 ≤ R.cells) (hs : slots + n.toNatClampNeg ≤ R.slots) (hd : decode cc pc = .ok (.anewarray index, 3))
    (kk : ∀ (Y1 : zY) (a : Nat), a = zSk (zsp Y) → zext Y Y1 → zsp Y1 = zSpush (zsp Y) kd n.toNatClampNeg → zT Y1 kd a → WW E Y1 (zfresh σ a) p l e R s m args below meth c A nL (cells + 1) (slots + n.toNatClampNeg) Q lv (pc + 3) (.ref (za Y1 a) :: st)) : WW E Y σ p l e R s m args below meth c A nL cells slots Q lv pc (.int n :: st) := fun H locs ls hH hS hl => by
  have hk20 : ¬ kd < 20 := by rcases hkd with rfl | rfl <;> decide
  have key0 : ∀ q, zac (zpush Y kd n.toNatClampNeg q) (zfresh σ (zK Y)) (zK Y) kd = .inr (.inr (.inr (.inr (fun _ => none)))) := by
    intro q
    have e : (fun j => (gr (zfresh σ (zK Y)) (zK Y) j).map (za (zpush Y kd n.toNatClampNeg q))) = (fun _ : Nat => (none : Option Nat)) := by
      funext j
      rw [gr_zf, if_pos rfl]
      rfl
    unfold zac
    rcases hkd with rfl | rfl
    · rw [if_neg (by decide), if_neg (by decide), if_pos rfl, e]
    · rw [if_neg (by decide), if_neg (by decide), if_neg (by decide), if_pos rfl, e]
  refine va_newq G.1 G.2.1 G.2.2.2.1 (G.2.2.2.2.1 _ hcl) hao G.2.2.2.2.2.2.2.1.1 hH.1 hH.2.1 hS G.2.2.2.2.2.2.2.2 hn rfl hb hc hs hd ?_
  intro q cA H1 hK hP hD hS1
  have hcA : cA = E.2.1 kd := by
    obtain ⟨-, -, -, -, -, h1⟩ := (hK.2 (zty E).length (cA, .object C) (by rw [List.getElem?_append_right (Nat.le_refl _), Nat.sub_self]; rfl)).2
    obtain ⟨-, -, -, -, -, h2⟩ := (G.2.2.2.2.2.2.2.1.1.2 t0 _ ht).2
    exact Option.some.inj (h1.symm.trans h2)
  subst hcA
  have e0 : zcell E (zpush Y kd n.toNatClampNeg q) (zfresh σ (zK Y)) (zK Y) = .inl (E.2.1 kd, n.toNatClampNeg, .inr (.inr (.inr (.inr (fun _ => none))))) := by
    rw [zcell_arr (show zsh (zpush Y kd n.toNatClampNeg q) (zK Y) = kd from if_pos rfl) hk20, zpush_n, key0]
  rw [zws_push hH.2.2 e0] at hP hD
  have key := kk (zpush Y kd n.toNatClampNeg q) (zK Y) rfl zpush_ext rfl zpush_T
  rw [zpush_a] at key
  exact key H1 locs ls ⟨hP, hD, zWT_push hH.2.2⟩ hS1 hl
theorem z_putiF (G : zG E p l s m args meth c cc nL own ret A) {index ci k a : Nat} {C : String} {T : u_T} {N : Nat} {ty : Nat → FieldType} {v : Int32} (F : zfk own index ci k C T N ty) (hinit : meth.name = "<init>") (ha : zT Y ci a) (ht : (zft ci)[k]? = some 0) (hfin : (T k).2.2.2 = true) (hown : (T k).1 = own) (hv : zN (ty k) v) (hd : decode cc pc = .ok (.putfield index, 3)) (kk : WW E Y (si σ a k v) p l e R s m args below meth c A nL cells slots Q lv (pc + 3) st) : WW E Y σ p l e R s m args below meth c A nL cells slots Q lv pc (.int v :: .ref (za Y a) :: st) := fun H locs ls hH hS hl =>
  va_putF G.1 G.2.1 G.2.2.2.2.1 F.1.2.2.1 ty F.1.2.2.2.1 F.1.2.2.2.2.1 G.2.2.2.1 G.2.2.2.2.2.2.2.1.1 hH.1 hH.2.1 hS a (zfl_fld ha F.1.2.1 ht).1 F.1.1 k F.2.1 (G.2.2.2.2.1 _ F.2.2) (fun _ h => h) hfin hinit hown (F.1.2.2.2.1 k F.2.1) hv.1 hv.2 (by rw [zfl_len, F.1.2.2.2.2.2]; exact F.2.1) hd (fun H1 locs1 hP hD hS1 => by
    rw [zws_set (σ' := si σ a k v) ha.1 (zcell_si ha.2 F.1.2.1 ht rfl) (fun b hb => zcell_si_ne hb)] at hP hD
    exact kk H1 locs1 ls ⟨hP, hD, hH.2.2⟩ hS1 hl)
theorem z_putrF (G : zG E p l s m args meth c cc nL own ret A) {index ci k a q kq : Nat} {C : String} {T : u_T} {N : Nat} {ty : Nat → FieldType} (F : zfk own index ci k C T N ty) (hinit : meth.name = "<init>") (ha : zT Y ci a) (ht : (zft ci)[k]? = some 1) (hfin : (T k).2.2.2 = true) (hown : (T k).1 = own) (hty : (∃ C2, ty k = .object C2) ∨ ∃ t, ty k = .array t) (hr : zrt ci k = kq) (hn : ¬ kq = 99) (hqT : zT Y kq q) (hd : decode cc pc = .ok (.putfield index, 3)) (kk : WW E Y (sr σ a k (some q)) p l e R s m args below meth c A nL cells slots Q lv (pc + 3) st) : WW E Y σ p l e R s m args below meth c A nL cells slots Q lv pc (.ref (za Y q) :: .ref (za Y a) :: st) := fun H locs ls hH hS hl =>
  va_putF G.1 G.2.1 G.2.2.2.2.1 F.1.2.2.1 ty F.1.2.2.2.1 F.1.2.2.2.2.1 G.2.2.2.1 G.2.2.2.2.2.2.2.1.1 hH.1 hH.2.1 hS a (zfl_fld ha F.1.2.1 ht).1 F.1.1 k F.2.1 (G.2.2.2.2.1 _ F.2.2) (fun _ h => h) hfin hinit hown (F.1.2.2.2.1 k F.2.1) (by rcases hty with ⟨_, h⟩ | ⟨_, h⟩ <;> rw [h] <;> rfl) (by rcases hty with ⟨_, h⟩ | ⟨_, h⟩ <;> rw [h] <;> rfl) (by rw [zfl_len, F.1.2.2.2.2.2]; exact F.2.1) hd (fun H1 locs1 hP hD hS1 => by
    rw [zws_set (σ' := sr σ a k (some q)) ha.1 (show zcell E Y (sr σ a k (some q)) a = .inr (ci, (zfl E Y σ a 0 (zft ci)).set k (.ref (za Y q))) from zcell_sr ha.2 F.1.2.1 ht rfl) (fun b hb => zcell_sr_ne hb)] at hP hD
    exact kk H1 locs1 ls ⟨hP, hD, zWT_sr hH.2.2 (fun q' e => by cases e; rw [ha.2, hr]; unfold zok; rw [if_neg hn]; exact hqT)⟩ hS1 hl)
theorem z_putrA (G : zG E p l s m args meth c cc nL own ret A) {index ci k a q kq : Nat} {C : String} {T : u_T} {N : Nat} {ty : Nat → FieldType} (F : zfk own index ci k C T N ty) (ha : zT Y ci a) (ht : (zft ci)[k]? = some 1) (hfin : (T k).2.2.2 = false) (hty : (∃ C2, ty k = .object C2) ∨ ∃ t, ty k = .array t) (hr : zrt ci k = kq) (hn : ¬ kq = 99) (hqT : zT Y kq q) (hd : decode cc pc = .ok (.putfield index, 3)) (kk : WW E Y (sr σ a k (some q)) p l e R s m args below meth c A nL cells slots Q lv (pc + 3) st) : WW E Y σ p l e R s m args below meth c A nL cells slots Q lv pc (.ref (za Y q) :: .ref (za Y a) :: st) := fun H locs ls hH hS hl =>
  va_put G.1 G.2.1 G.2.2.2.2.1 F.1.2.2.1 ty F.1.2.2.2.1 F.1.2.2.2.2.1 G.2.2.2.1 G.2.2.2.2.2.2.2.1.1 hH.1 hH.2.1 hS a (zfl_fld ha F.1.2.1 ht).1 F.1.1 k F.2.1 (G.2.2.2.2.1 _ F.2.2) (fun _ h => h) hfin (F.1.2.2.2.1 k F.2.1) (by rcases hty with ⟨_, h⟩ | ⟨_, h⟩ <;> rw [h] <;> rfl) (by rcases hty with ⟨_, h⟩ | ⟨_, h⟩ <;> rw [h] <;> rfl) (by rw [zfl_len, F.1.2.2.2.2.2]; exact F.2.1) hd (fun H1 locs1 hP hD hS1 => by
    rw [zws_set (σ' := sr σ a k (some q)) ha.1 (show zcell E Y (sr σ a k (some q)) a = .inr (ci, (zfl E Y σ a 0 (zft ci)).set k (.ref (za Y q))) from zcell_sr ha.2 F.1.2.1 ht rfl) (fun b hb => zcell_sr_ne hb)] at hP hD
    exact kk H1 locs1 ls ⟨hP, hD, zWT_sr hH.2.2 (fun q' e => by cases e; rw [ha.2, hr]; unfold zok; rw [if_neg hn]; exact hqT)⟩ hS1 hl)
theorem z_putsF (G : zG E p l s m args meth c cc nL own ret A) {index ci k a i : Nat} {C C2 : String} {T : u_T} {N : Nat} {ty : Nat → FieldType} (F : zfk own index ci k C T N ty) (hinit : meth.name = "<init>") (ha : zT Y ci a) (ht : (zft ci)[k]? = some 3) (hfin : (T k).2.2.2 = true) (hown : (T k).1 = own) (hty : ty k = .object C2) (hr : zrt ci k = 99) (hi : i < zS_n) (hd : decode cc pc = .ok (.putfield index, 3)) (kk : WW E Y (sr σ a k (some i)) p l e R s m args below meth c A nL cells slots Q lv (pc + 3) st) : WW E Y σ p l e R s m args below meth c A nL cells slots Q lv pc (.ref (E.2.2.1 i) :: .ref (za Y a) :: st) := fun H locs ls hH hS hl =>
  va_putF G.1 G.2.1 G.2.2.2.2.1 F.1.2.2.1 ty F.1.2.2.2.1 F.1.2.2.2.2.1 G.2.2.2.1 G.2.2.2.2.2.2.2.1.1 hH.1 hH.2.1 hS a (zfl_fld ha F.1.2.1 ht).1 F.1.1 k F.2.1 (G.2.2.2.2.1 _ F.2.2) (fun _ h => h) hfin hinit hown (F.1.2.2.2.1 k F.2.1) (by rw [hty]; rfl) (by rw [hty]; rfl) (by rw [zfl_len, F.1.2.2.2.2.2]; exact F.2.1) hd (fun H1 locs1 hP hD hS1 => by
    rw [zws_set (σ' := sr σ a k (some i)) ha.1 (show zcell E Y (sr σ a k (some i)) a = .inr (ci, (zfl E Y σ a 0 (zft ci)).set k (.ref (E.2.2.1 i))) from zcell_ss ha.2 F.1.2.1 ht rfl) (fun b hb => zcell_sr_ne hb)] at hP hD
    exact kk H1 locs1 ls ⟨hP, hD, zWT_sr hH.2.2 (fun q' e => by cases e; rw [ha.2, hr]; unfold zok; rw [if_pos rfl]; exact hi)⟩ hS1 hl)
end ZM
