/-! THE STORE: what the objects and arrays of the system hold, by cell and place; references are cells by number -/
abbrev zS : Type := (Nat → Nat → Int32) × (Nat → Nat → Option Nat) × (Nat → Nat → Int64) × (Nat → Nat → UInt64)
def z2 {α : Type} (f : Nat → Nat → α) (a k : Nat) (v : α) : Nat → Nat → α := fun b => if b = a then (fun j => if j = k then v else f b j) else f b
def gi (σ : zS) (a k : Nat) : Int32 := σ.1 a k
def gr (σ : zS) (a k : Nat) : Option Nat := σ.2.1 a k
def gl (σ : zS) (a k : Nat) : Int64 := σ.2.2.1 a k
def gd (σ : zS) (a k : Nat) : UInt64 := σ.2.2.2 a k
def si (σ : zS) (a k : Nat) (v : Int32) : zS := (z2 σ.1 a k v, σ.2)
def sr (σ : zS) (a k : Nat) (v : Option Nat) : zS := (σ.1, z2 σ.2.1 a k v, σ.2.2)
def sl (σ : zS) (a k : Nat) (v : Int64) : zS := (σ.1, σ.2.1, z2 σ.2.2.1 a k v, σ.2.2.2)
def sd (σ : zS) (a k : Nat) (v : UInt64) : zS := (σ.1, σ.2.1, σ.2.2.1, z2 σ.2.2.2 a k v)
/-- a row of ints is written anew -/
def sI (σ : zS) (a : Nat) (f : Nat → Int32) : zS := (fun b => if b = a then f else σ.1 b, σ.2)
theorem z2_ne {α : Type} {f : Nat → Nat → α} {a k : Nat} {v : α} {b : Nat} (h : b ≠ a) : z2 f a k v b = f b := if_neg h
theorem z2_eq {α : Type} {f : Nat → Nat → α} {a k : Nat} {v : α} : z2 f a k v a = (fun j => if j = k then v else f a j) := if_pos rfl
theorem gi_si (σ : zS) (a k : Nat) (v : Int32) (b j : Nat) : gi (si σ a k v) b j = if b = a then (if j = k then v else gi σ b j) else gi σ b j := by
  show z2 σ.1 a k v b j = _
  unfold z2
  split <;> rfl
theorem gr_sr (σ : zS) (a k : Nat) (v : Option Nat) (b j : Nat) : gr (sr σ a k v) b j = if b = a then (if j = k then v else gr σ b j) else gr σ b j := by
  show z2 σ.2.1 a k v b j = _
  unfold z2
  split <;> rfl
theorem gl_sl (σ : zS) (a k : Nat) (v : Int64) (b j : Nat) : gl (sl σ a k v) b j = if b = a then (if j = k then v else gl σ b j) else gl σ b j := by
  show z2 σ.2.2.1 a k v b j = _
  unfold z2
  split <;> rfl
theorem gd_sd (σ : zS) (a k : Nat) (v : UInt64) (b j : Nat) : gd (sd σ a k v) b j = if b = a then (if j = k then v else gd σ b j) else gd σ b j := by
  show z2 σ.2.2.2 a k v b j = _
  unfold z2
  split <;> rfl
theorem gi_sI (σ : zS) (a : Nat) (f : Nat → Int32) (b j : Nat) : gi (sI σ a f) b j = if b = a then f j else gi σ b j := by
  show (if b = a then f else σ.1 b) j = _
  split <;> rfl
theorem gr_si (σ : zS) (a k : Nat) (v : Int32) : gr (si σ a k v) = gr σ := rfl
theorem gl_si (σ : zS) (a k : Nat) (v : Int32) : gl (si σ a k v) = gl σ := rfl
theorem gd_si (σ : zS) (a k : Nat) (v : Int32) : gd (si σ a k v) = gd σ := rfl
theorem gr_sI (σ : zS) (a : Nat) (v : Nat → Int32) : gr (sI σ a v) = gr σ := rfl
theorem gl_sI (σ : zS) (a : Nat) (v : Nat → Int32) : gl (sI σ a v) = gl σ := rfl
theorem gd_sI (σ : zS) (a : Nat) (v : Nat → Int32) : gd (sI σ a v) = gd σ := rfl
theorem gi_sr (σ : zS) (a k : Nat) (v : Option Nat) : gi (sr σ a k v) = gi σ := rfl
theorem gl_sr (σ : zS) (a k : Nat) (v : Option Nat) : gl (sr σ a k v) = gl σ := rfl
theorem gd_sr (σ : zS) (a k : Nat) (v : Option Nat) : gd (sr σ a k v) = gd σ := rfl
theorem gi_sl (σ : zS) (a k : Nat) (v : Int64) : gi (sl σ a k v) = gi σ := rfl
theorem gr_sl (σ : zS) (a k : Nat) (v : Int64) : gr (sl σ a k v) = gr σ := rfl
theorem gd_sl (σ : zS) (a k : Nat) (v : Int64) : gd (sl σ a k v) = gd σ := rfl
theorem gi_sd (σ : zS) (a k : Nat) (v : UInt64) : gi (sd σ a k v) = gi σ := rfl
theorem gr_sd (σ : zS) (a k : Nat) (v : UInt64) : gr (sd σ a k v) = gr σ := rfl
theorem gl_sd (σ : zS) (a k : Nat) (v : UInt64) : gl (sd σ a k v) = gl σ := rfl
/-! THE LAYOUT: how many cells there are, the kind of each, the length of each array, the address of each -/
abbrev zY : Type := Nat × (Nat → Nat) × (Nat → Nat) × (Nat → Nat)
def zK (Y : zY) : Nat := Y.1
def zsh (Y : zY) (a : Nat) : Nat := Y.2.1 a
def zln (Y : zY) (a : Nat) : Nat := Y.2.2.1 a
def za (Y : zY) (a : Nat) : Nat := Y.2.2.2 a
/-- a cell of a kind -/
def zT (Y : zY) (kd a : Nat) : Prop := a < zK Y ∧ zsh Y a = kd
/-- classes and slots, array classes by kind, the addresses of the text constants and of their bytes -/
abbrev zE : Type := va_G × (Nat → ClassId) × (Nat → Nat) × (Nat → Nat)
/-- the classes by kind -/
abbrev zcl : List vw_C := [(RX0, TX0, 4), (RX1, TX1, 3), (RX2, TX2, 2), (RX3, TX3, 17), (RX4, TX4, 8), (RX5, TX5, 3), (RX6, TX6, 8), (RX7, TX7, 4), (RX8, TX8, 4), (RX9, TX9, 2), (RX10, TX10, 4), (RX11, TX11, 9), (RJ0, TJ0, 4), (RJ4, TJ4, 4)]
/-- the fields of a kind: 0 a number of 32 bits, 1 a reference into the system, 2 a long, 3 a text constant -/
def zft : Nat → List Nat
  | 0 => [0, 0, 0, 1]
  | 1 => [1, 0, 0]
  | 2 => [1, 1]
  | 3 => [1, 0, 0, 0, 0, 0, 0, 0, 0, 0, 0, 1, 1, 1, 1, 1, 1]
  | 4 => [0, 0, 0, 0, 0, 0, 2, 1]
  | 5 => [1, 0, 0]
  | 6 => [0, 0, 0, 0, 0, 1, 1, 1]
  | 7 => [1, 0, 0, 0]
  | 8 => [0, 1, 0, 0]
  | 9 => [1, 0]
  | 10 => [0, 0, 1, 0]
  | 11 => [1, 1, 1, 1, 1, 1, 1, 1, 0]
  | 12 => [1, 0, 0, 0]
  | 13 => [1, 0, 0, 0]
  | _ => []
/-- of what kind a reference is that stands in place j of a cell of kind kd; 99: a text constant -/
def zrt (kd j : Nat) : Nat :=
  if kd = 0 then 22 else if kd = 1 then 23 else if kd = 2 then 9 else
  if kd = 3 then (if j = 0 then 6 else if j = 11 then 4 else if j = 12 then 4 else if j = 13 then 7 else if j = 14 then 8 else if j = 15 then 8 else 9) else
  if kd = 4 then 9 else if kd = 5 then 10 else if kd = 6 then (if j = 5 then 9 else 0) else if kd = 7 then 9 else if kd = 8 then 20 else if kd = 9 then 20 else if kd = 10 then 9 else
  if kd = 11 then (if j = 0 then 9 else if j = 1 then 5 else if j = 2 then 13 else if j = 3 then 3 else if j = 4 then 3 else if j = 5 then 1 else 6) else
  if kd = 12 then 21 else if kd = 13 then 21 else if kd = 22 then 2 else 3
def zS_n : Nat := 30
/-- a reference that may stand there -/
def zok (Y : zY) (kd q : Nat) : Prop := if kd = 99 then q < zS_n else zT Y kd q
def zWT (Y : zY) (σ : zS) : Prop := ∀ a j q, a < zK Y → gr σ a j = some q → zok Y (zrt (zsh Y a) j) q
def zfv (E : zE) (Y : zY) (σ : zS) (a k t : Nat) : Value := if t = 0 then .int (gi σ a k) else if t = 1 then va_re (za Y) (gr σ a k) else if t = 2 then .long (gl σ a k) else va_re E.2.2.1 (gr σ a k)
def zfl (E : zE) (Y : zY) (σ : zS) (a : Nat) : Nat → List Nat → List Value
  | _, [] => []
  | k, t :: ts => zfv E Y σ a k t :: zfl E Y σ a (k + 1) ts
def zac (Y : zY) (σ : zS) (a kd : Nat) : (Nat → Int32) ⊕ (Nat → Int64) ⊕ (Nat → UInt32) ⊕ (Nat → UInt64) ⊕ (Nat → Option Nat) :=
  if kd = 24 then .inr (.inl (gl σ a)) else if kd = 25 then .inr (.inr (.inr (.inl (gd σ a)))) else if kd = 22 then .inr (.inr (.inr (.inr (fun j => (gr σ a j).map (za Y))))) else if kd = 23 then .inr (.inr (.inr (.inr (fun j => (gr σ a j).map (za Y))))) else .inl (gi σ a)
def zcell (E : zE) (Y : zY) (σ : zS) (a : Nat) : va_E := if zsh Y a < 20 then .inr (zsh Y a, zfl E Y σ a 0 (zft (zsh Y a))) else .inl (E.2.1 (zsh Y a), zln Y a, zac Y σ a (zsh Y a))
def zws (E : zE) (Y : zY) (σ : zS) : va_W := (List.range (zK Y)).map (fun a => (za Y a, zcell E Y σ a))
theorem zws_at {E : zE} {Y : zY} {σ : zS} {a : Nat} (h : a < zK Y) : (zws E Y σ)[a]? = some (za Y a, zcell E Y σ a) := by
  unfold zws
  rw [List.getElem?_map, List.getElem?_range h]
  rfl
theorem zws_len {E : zE} {Y : zY} {σ : zS} : (zws E Y σ).length = zK Y := by
  unfold zws
  rw [List.length_map, List.length_range]
theorem zws_of {E : zE} {Y : zY} {σ : zS} {k : Nat} {q : Nat × va_E} (h : (zws E Y σ)[k]? = some q) : k < zK Y ∧ q = (za Y k, zcell E Y σ k) := by
  have hk : k < zK Y := by
    have := (List.getElem?_eq_some_iff.mp h).1
    rwa [zws_len] at this
  rw [zws_at hk] at h
  exact ⟨hk, (Option.some.inj h).symm⟩
theorem zws_set {E : zE} {Y : zY} {σ σ' : zS} {a : Nat} {e : va_E} (h : a < zK Y) (he : zcell E Y σ' a = e) (ho : ∀ b, b ≠ a → zcell E Y σ' b = zcell E Y σ b) : (zws E Y σ).set a (za Y a, e) = zws E Y σ' := by
  apply List.ext_getElem?
  intro k
  by_cases hk : k < zK Y
  · rw [zws_at hk]
    by_cases hka : k = a
    · subst hka
      rw [List.getElem?_set_self (by rw [zws_len]; exact hk), he]
    · rw [List.getElem?_set_ne (Ne.symm hka), zws_at hk, ho k hka]
  · rw [List.getElem?_eq_none (by rw [List.length_set, zws_len]; omega), List.getElem?_eq_none (by rw [zws_len]; omega)]
theorem zfl_at {E : zE} {Y : zY} {σ : zS} {a : Nat} : ∀ (ts : List Nat) (k0 k t : Nat), ts[k]? = some t → (zfl E Y σ a k0 ts)[k]? = some (zfv E Y σ a (k0 + k) t)
  | [], _, _, _, h => by simp at h
  | u :: ts, k0, 0, t, h => by
    rw [List.getElem?_cons_zero] at h
    cases h
    rfl
  | u :: ts, k0, k + 1, t, h => by
    rw [List.getElem?_cons_succ] at h
    show (zfl E Y σ a (k0 + 1) ts)[k]? = _
    rw [zfl_at ts (k0 + 1) k t h, show k0 + 1 + k = k0 + (k + 1) by omega]
theorem zfl_len {E : zE} {Y : zY} {σ : zS} {a : Nat} : ∀ (ts : List Nat) (k0 : Nat), (zfl E Y σ a k0 ts).length = ts.length
  | [], _ => rfl
  | _ :: ts, k0 => by show (zfl E Y σ a (k0 + 1) ts).length + 1 = ts.length + 1; rw [zfl_len ts]
theorem zfl_cong {E : zE} {Y : zY} {σ σ' : zS} {a : Nat} (h : ∀ k t, zfv E Y σ a k t = zfv E Y σ' a k t) : ∀ (ts : List Nat) (k0 : Nat), zfl E Y σ a k0 ts = zfl E Y σ' a k0 ts
  | [], _ => rfl
  | t :: ts, k0 => by show _ :: _ = _ :: _; rw [h, zfl_cong h ts]
theorem zfl_set {E : zE} {Y : zY} {σ σ' : zS} {a k : Nat} {ts : List Nat} {t : Nat} {v : Value} (ht : ts[k]? = some t) (hv : zfv E Y σ' a k t = v) (ho : ∀ j u, j ≠ k → zfv E Y σ' a j u = zfv E Y σ a j u) : (zfl E Y σ a 0 ts).set k v = zfl E Y σ' a 0 ts := by
  apply List.ext_getElem?
  intro j
  by_cases hj : j < ts.length
  · have hu : ts[j]? = some ts[j] := List.getElem?_eq_getElem hj
    rw [zfl_at ts 0 j _ hu]
    by_cases hjk : j = k
    · subst hjk
      rw [List.getElem?_set_self (by rw [zfl_len]; exact hj), Nat.zero_add]
      rw [ht] at hu
      cases hu
      rw [hv]
    · rw [List.getElem?_set_ne (Ne.symm hjk), zfl_at ts 0 j _ hu, Nat.zero_add, ho j _ hjk]
  · rw [List.getElem?_eq_none (by rw [List.length_set, zfl_len]; omega), List.getElem?_eq_none (by rw [zfl_len]; omega)]
theorem zcell_cong {E : zE} {Y : zY} {σ σ' : zS} {a : Nat} (h1 : gi σ a = gi σ' a) (h2 : gr σ a = gr σ' a) (h3 : gl σ a = gl σ' a) (h4 : gd σ a = gd σ' a) : zcell E Y σ a = zcell E Y σ' a := by
  unfold zcell
  rw [zfl_cong (σ := σ) (σ' := σ') (fun k t => by unfold zfv; rw [h1, h2, h3])]
  have : zac Y σ a (zsh Y a) = zac Y σ' a (zsh Y a) := by unfold zac; rw [h1, h2, h3, h4]
  rw [this]
theorem zcell_obj {E : zE} {Y : zY} {σ : zS} {a kd : Nat} (h : zsh Y a = kd) (hk : kd < 20) : zcell E Y σ a = .inr (kd, zfl E Y σ a 0 (zft kd)) := by
  unfold zcell
  rw [h, if_pos hk]
theorem zcell_arr {E : zE} {Y : zY} {σ : zS} {a kd : Nat} (h : zsh Y a = kd) (hk : ¬ kd < 20) : zcell E Y σ a = .inl (E.2.1 kd, zln Y a, zac Y σ a kd) := by
  unfold zcell
  rw [h, if_neg hk]
/-- an object's field is written -/
theorem zcell_si {E : zE} {Y : zY} {σ : zS} {a k kd t : Nat} {v : Int32} (h : zsh Y a = kd) (hk : kd < 20) (ht : (zft kd)[k]? = some t) (h0 : t = 0) : zcell E Y (si σ a k v) a = .inr (kd, (zfl E Y σ a 0 (zft kd)).set k (.int v)) := by
  subst h0
  rw [zcell_obj h hk, zfl_set (σ' := si σ a k v) ht]
  · unfold zfv
    rw [if_pos rfl, gi_si, if_pos rfl, if_pos rfl]
  · intro j u hj
    unfold zfv
    rw [gi_si, if_pos rfl, if_neg hj]
    rfl
theorem zcell_sr {E : zE} {Y : zY} {σ : zS} {a k kd t : Nat} {v : Option Nat} (h : zsh Y a = kd) (hk : kd < 20) (ht : (zft kd)[k]? = some t) (h0 : t = 1) : zcell E Y (sr σ a k v) a = .inr (kd, (zfl E Y σ a 0 (zft kd)).set k (va_re (za Y) v)) := by
  subst h0
  rw [zcell_obj h hk, zfl_set (σ' := sr σ a k v) ht]
  · unfold zfv
    rw [if_neg (by decide), if_pos rfl, gr_sr, if_pos rfl, if_pos rfl]
  · intro j u hj
    unfold zfv
    rw [gr_sr, if_pos rfl, if_neg hj]
    rfl
theorem zcell_sl {E : zE} {Y : zY} {σ : zS} {a k kd t : Nat} {v : Int64} (h : zsh Y a = kd) (hk : kd < 20) (ht : (zft kd)[k]? = some t) (h0 : t = 2) : zcell E Y (sl σ a k v) a = .inr (kd, (zfl E Y σ a 0 (zft kd)).set k (.long v)) := by
  subst h0
  rw [zcell_obj h hk, zfl_set (σ' := sl σ a k v) ht]
  · unfold zfv
    rw [if_neg (by decide), if_neg (by decide), if_pos rfl, gl_sl, if_pos rfl, if_pos rfl]
  · intro j u hj
    unfold zfv
    rw [gl_sl, if_pos rfl, if_neg hj]
    rfl
theorem zcell_ss {E : zE} {Y : zY} {σ : zS} {a k kd t : Nat} {v : Option Nat} (h : zsh Y a = kd) (hk : kd < 20) (ht : (zft kd)[k]? = some t) (h0 : t = 3) : zcell E Y (sr σ a k v) a = .inr (kd, (zfl E Y σ a 0 (zft kd)).set k (va_re E.2.2.1 v)) := by
  subst h0
  rw [zcell_obj h hk, zfl_set (σ' := sr σ a k v) ht]
  · unfold zfv
    rw [if_neg (by decide), if_neg (by decide), if_neg (by decide), gr_sr, if_pos rfl, if_pos rfl]
  · intro j u hj
    unfold zfv
    rw [gr_sr, if_pos rfl, if_neg hj]
    rfl
theorem zcell_si_ne {E : zE} {Y : zY} {σ : zS} {a k b : Nat} {v : Int32} (h : b ≠ a) : zcell E Y (si σ a k v) b = zcell E Y σ b := zcell_cong (show z2 σ.1 a k v b = σ.1 b from z2_ne h) rfl rfl rfl
theorem zcell_sr_ne {E : zE} {Y : zY} {σ : zS} {a k b : Nat} {v : Option Nat} (h : b ≠ a) : zcell E Y (sr σ a k v) b = zcell E Y σ b := zcell_cong rfl (show z2 σ.2.1 a k v b = σ.2.1 b from z2_ne h) rfl rfl
theorem zcell_sl_ne {E : zE} {Y : zY} {σ : zS} {a k b : Nat} {v : Int64} (h : b ≠ a) : zcell E Y (sl σ a k v) b = zcell E Y σ b := zcell_cong rfl rfl (show z2 σ.2.2.1 a k v b = σ.2.2.1 b from z2_ne h) rfl
theorem zcell_sd_ne {E : zE} {Y : zY} {σ : zS} {a k b : Nat} {v : UInt64} (h : b ≠ a) : zcell E Y (sd σ a k v) b = zcell E Y σ b := zcell_cong rfl rfl rfl (show z2 σ.2.2.2 a k v b = σ.2.2.2 b from z2_ne h)
theorem zcell_sI_ne {E : zE} {Y : zY} {σ : zS} {a b : Nat} {f : Nat → Int32} (h : b ≠ a) : zcell E Y (sI σ a f) b = zcell E Y σ b := zcell_cong (show (if b = a then f else σ.1 b) = σ.1 b from if_neg h) rfl rfl rfl
theorem zWT_si {Y : zY} {σ : zS} {a k : Nat} {v : Int32} (h : zWT Y σ) : zWT Y (si σ a k v) := h
theorem zWT_sI {Y : zY} {σ : zS} {a : Nat} {f : Nat → Int32} (h : zWT Y σ) : zWT Y (sI σ a f) := h
theorem zWT_sl {Y : zY} {σ : zS} {a k : Nat} {v : Int64} (h : zWT Y σ) : zWT Y (sl σ a k v) := h
theorem zWT_sd {Y : zY} {σ : zS} {a k : Nat} {v : UInt64} (h : zWT Y σ) : zWT Y (sd σ a k v) := h
theorem zWT_sr {Y : zY} {σ : zS} {a k : Nat} {v : Option Nat} (h : zWT Y σ) (hv : ∀ q, v = some q → zok Y (zrt (zsh Y a) k) q) : zWT Y (sr σ a k v) := by
  intro b j q hb hq
  rw [gr_sr] at hq
  by_cases h1 : b = a
  · rw [if_pos h1] at hq
    subst h1
    by_cases h2 : j = k
    · rw [if_pos h2] at hq
      subst h2
      exact hv q hq
    · rw [if_neg h2] at hq
      exact h b j q hb hq
  · rw [if_neg h1] at hq
    exact h b j q hb hq
/-! THE WORLD -/
abbrev zty (E : zE) : List (ClassId × FieldType) := [(E.2.1 20, .int), (E.2.1 21, .byte), (E.2.1 22, .object RX2), (E.2.1 23, .object RX3)]
/-- the cells of the layout, and all that comes from sz on -/
def zA (Y : zY) (sz : Nat) : Nat → Prop := fun q => (∃ a, a < zK Y ∧ za Y a = q) ∨ sz ≤ q
def zH (E : zE) (Y : zY) (σ : zS) (A : Nat → Prop) (H : Heap) : Prop := va_P E.1 zcl (zws E Y σ) H ∧ va_D A (zws E Y σ) ∧ zWT Y σ
/-- good words of the tables -/
def zGL : List Cond := lw_tbl.filter goodWord
def zNest : Cond → Bool
  | .methodLinkNest .. => true
  | .declares _ => true
  | .castable .. => true
  | _ => false
def zNL : List Cond := lw_tbl.filter zNest
theorem zNest_moved {w : Cond} (h : zNest w = true) {s U : State} (hW : s.WarmedH U.vm) (hw : va_Nw w s) : va_Nw w U := by
  cases w <;> first | (simp [zNest] at h; done) | exact va_Nw.warmM hW hw | exact va_Nw.warmD hW hw | exact va_Nw.warmC hW hw
theorem zNest_same {w : Cond} (h : zNest w = true) {s U : State} (hv : s.vm = U.vm) (hw : va_Nw w s) : va_Nw w U := by
  cases w <;> first | (simp [zNest] at h; done) | exact va_Nw.same rfl hv hw
