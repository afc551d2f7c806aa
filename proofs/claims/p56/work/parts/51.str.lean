/-! STRINGS of the law, on the heap -/
def qA (T : List Int32) : Prop := ∀ k, k < T.length → 0 ≤ (T.getD k 0).toInt ∧ (T.getD k 0).toInt < 128
theorem qA_nil : qA [] := fun k hk => absurd hk (Nat.not_lt_zero k)
theorem qA_app {A B : List Int32} (ha : qA A) (hb : qA B) : qA (A ++ B) := fun k hk => by
  rw [List.length_append] at hk
  rw [getD_app2]
  by_cases e : k < A.length
  · rw [if_pos e]; exact ha k e
  · rw [if_neg e]; exact hb _ (by omega)
theorem qA_one {v : Int32} (h : 0 ≤ v.toInt ∧ v.toInt < 128) : qA [v] := fun k hk => by
  have hk : k < 1 := hk
  have : k = 0 := by omega
  subst this
  exact h
/-- the String t holds T -/
def qS (S : zSp) (σ : zS) (t : Nat) (T : List Int32) : Prop := ∃ a : Nat, gr σ t 0 = some a ∧ zSl S a = T.length ∧ gi σ t 1 = 0 ∧ (∀ k, k < T.length → gi σ a k = T.getD k 0) ∧ (455 ≤ t ∧ t < zSk S) ∧ (455 ≤ a ∧ a < zSk S) ∧ T.length ≤ 142
theorem s_len {S : zSp} {σ : zS} {t : Nat} {T : List Int32} (H : qS S σ t T) {Q : Int32 → zS → Prop} (hq : Q (nI T.length) σ) : wJ0_length_8abf5_r (zSl S) σ t Q := by
  obtain ⟨a, h1, h2, h3, h4, h5, h6, h7⟩ := H
  refine ⟨a, h1, fun h => absurd h (by decide), fun _ x2 e2 => ?_⟩
  rw [h3] at e2
  subst e2
  refine ⟨by decide +kernel, ?_⟩
  show Q (nI (zSl S a) >>> ((0 : Int32) &&& 31)) σ
  rw [shr0, h2]
  exact hq
theorem n_char {v : Int32} (h : 0 ≤ v.toInt ∧ v.toInt < 128) : ((v &&& 255).toUInt32 % 65536).toInt32 = v := by
  have h1 : (v &&& 255) = v := by rw [neq, n255]; omega
  rw [h1]
  obtain ⟨w, hw⟩ : ∃ w : Nat, v = nI w ∧ w < 128 := ⟨v.toNatClampNeg, by
    have := ncl h.1
    exact ⟨by rw [neq, nI_toInt (by omega)]; omega, by omega⟩⟩
  rw [hw.1]
  have : ∀ w, w < 128 → ((nI w).toUInt32 % 65536).toInt32 = nI w := by decide +kernel
  exact this w hw.2
theorem s_char {S : zSp} {σ : zS} {t k : Nat} {T : List Int32} (H : qS S σ t T) (hA : qA T) (hk : k < T.length) {Q : Int32 → zS → Prop} (hq : Q (T.getD k 0) σ) : wJ0_charAt_5068e_r (zSl S) σ t (nI k) Q := by
  obtain ⟨a, h1, h2, h3, h4, h5, h6, h7⟩ := H
  have z0 : (0 : Int32).toInt = 0 := rfl
  have ek := nI_toInt (n := k) (by omega)
  have el := nI_toInt (n := T.length) (by omega)
  refine ⟨fun h => absurd h (by decide), fun _ => ⟨fun _ => ⟨fun h => absurd h (by decide), fun _ => ⟨a, h1, fun x1 e1 => ?_⟩⟩, fun h => absurd h3 h⟩⟩
  rw [h2] at e1
  subst e1
  refine ⟨fun h => absurd h (by rw [nlt, ek, z0]; omega), fun _ => ⟨fun _ => ⟨?_, fun x4 e4 => ?_⟩, fun h => absurd (by rw [nlt, ek, el]; omega) h⟩⟩
  · rw [h2]; exact vp_in_nI (by omega) (by omega)
  · rw [nI_clamp (by omega), h4 k hk] at e4
    subst e4
    have hc := hA k hk
    rw [n_char hc]
    refine ⟨?_, hq⟩
    have h9 : ∀ w, w < 128 → narrow .char (.int (nI w)) = .int (nI w) := by decide +kernel
    have := ncl hc.1
    have ev : T.getD k 0 = nI (T.getD k 0).toNatClampNeg := by rw [neq, nI_toInt (by omega)]; omega
    rw [ev]
    exact h9 _ (by omega)
theorem s_empty {S : zSp} {σ : zS} {t : Nat} {T : List Int32} (H : qS S σ t T) {Q : Int32 → zS → Prop} (h1 : T = [] → Q 1 σ) (h0 : T ≠ [] → Q 0 σ) : wJ0_isEmpty_aae02_r (zSl S) σ t Q := by
  obtain ⟨a, q1, q2, q3, q4, q5, q6, q7⟩ := H
  have iff := nI_eq (a := T.length) (b := 0) (by omega) (by omega)
  refine ⟨a, q1, fun h => h1 ?_, fun h => h0 (fun e => h ?_)⟩
  · rw [q2] at h
    exact List.length_eq_zero_iff.mp (iff.mp h)
  · rw [q2, e]; rfl
/-- nothing below has changed -/
def qX (S : zSp) (σ : zS) (S' : zSp) (σ' : zS) : Prop := zSk S ≤ zSk S' ∧ ∀ a, a < zSk S → zSl S' a = zSl S a ∧ gr σ' a = gr σ a ∧ gi σ' a = gi σ a ∧ gl σ' a = gl σ a ∧ gd σ' a = gd σ a
theorem qX.rf {S : zSp} {σ : zS} : qX S σ S σ := ⟨Nat.le_refl _, fun _ _ => ⟨rfl, rfl, rfl, rfl, rfl⟩⟩
theorem qX.tr {S S' S'' : zSp} {σ σ' σ'' : zS} (h : qX S σ S' σ') (g : qX S' σ' S'' σ'') : qX S σ S'' σ'' := ⟨Nat.le_trans h.1 g.1, fun a ha => by
  obtain ⟨h1, h2, h3, h4, h5⟩ := h.2 a ha
  obtain ⟨g1, g2, g3, g4, g5⟩ := g.2 a (Nat.lt_of_lt_of_le ha h.1)
  exact ⟨g1.trans h1, g2.trans h2, g3.trans h3, g4.trans h4, g5.trans h5⟩⟩
theorem qX.q {S S' : zSp} {σ σ' : zS} (h : qX S σ S' σ') (hk : 455 ≤ zSk S) : q455 S S' σ σ' := ⟨h.1, fun a ha => by
  obtain ⟨h1, h2, h3, h4, -⟩ := h.2 a (by omega)
  exact ⟨h3, h2, h4⟩, fun a ha => (h.2 a (by omega)).1⟩
theorem qX_new (S : zSp) (σ : zS) (kd n : Nat) : qX S σ (zSpush S kd n) (zfresh σ (zSk S)) := ⟨by rw [zSk_push]; omega, fun a ha => ⟨zSl_push S ha, zfresh_r σ (by omega), zfresh_i σ (by omega), zfresh_l σ (by omega), zfresh_d σ (by omega)⟩⟩
theorem qS.x {S S' : zSp} {σ σ' : zS} {t : Nat} {T : List Int32} (H : qS S σ t T) (F : qX S σ S' σ') : qS S' σ' t T := by
  obtain ⟨a, h1, h2, h3, h4, h5, h6, h7⟩ := H
  have ft := F.2 t h5.2
  have fa := F.2 a h6.2
  exact ⟨a, by rw [ft.2.1]; exact h1, by rw [fa.1]; exact h2, by rw [ft.2.2.1]; exact h3, fun k hk => by rw [fa.2.2.1]; exact h4 k hk, ⟨h5.1, Nat.lt_of_lt_of_le h5.2 F.1⟩, ⟨h6.1, Nat.lt_of_lt_of_le h6.2 F.1⟩, h7⟩
theorem sbT_u {u : Nat} {S : zSp} {σ : zS} {t : List Int32} {m : Nat} (H : sbT u S σ t m) : 455 ≤ u ∧ u < zSk S := by
  obtain ⟨a, q1, q2, q3, q4, q5, -⟩ := H
  exact ⟨q5, by omega⟩
theorem sbT.x {u : Nat} {S S' : zSp} {σ σ' : zS} {t : List Int32} {m : Nat} (H : sbT u S σ t m) (F : qX S σ S' σ') : sbT u S' σ' t m := by
  obtain ⟨a, q1, q2, q3, q4, q5, q6, q7, q8, q9, q10⟩ := H
  have ft := F.2 u (by omega)
  have fa := F.2 a q4
  exact ⟨a, by rw [ft.2.1]; exact q1, by rw [fa.1]; exact q2, q3, Nat.lt_of_lt_of_le q4 F.1, q5, by rw [ft.2.2.1]; exact q6, by rw [ft.2.2.1]; exact q7, by rw [fa.1]; exact q8, fun k hk => by rw [fa.2.2.1]; exact q9 k hk, fun k hk => by rw [fa.1] at hk; rw [fa.2.2.1]; exact q10 k hk⟩
/-- the String t has nothing to do with the builder u -/
def qD (u : Nat) (σ : zS) (t : Nat) : Prop := t ≠ u ∧ gr σ u 0 ≠ some t ∧ ∀ a, gr σ t 0 = some a → a ≠ u ∧ gr σ u 0 ≠ some a
theorem qS.f {u : Nat} {S S' : zSp} {σ σ' : zS} {t : Nat} {T : List Int32} (H : qS S σ t T) (D : qD u σ t) (F : sbF u S σ S' σ') : qS S' σ' t T ∧ qD u σ' t := by
  obtain ⟨a, h1, h2, h3, h4, h5, h6, h7⟩ := H
  obtain ⟨d1, d2, d3⟩ := D
  obtain ⟨d4, d5⟩ := d3 a h1
  obtain ⟨f1, f2, f3, f4, f5, f6⟩ := F
  have e1 : gr σ' t 0 = gr σ t 0 := f3 t 0 h5.2 (fun x => d1 x.1)
  have e2 : gi σ' t = gi σ t := f4 t h5.2 d1 d2
  have e3 : gi σ' a = gi σ a := f4 a h6.2 d4 d5
  have n : ∀ b, b < zSk S → gr σ u 0 ≠ some b → gr σ' u 0 ≠ some b := fun b hb hn e => (f6 b e).elim hn (fun x => by omega)
  refine ⟨⟨a, by rw [e1]; exact h1, by rw [f2 a h6.2]; exact h2, by rw [e2]; exact h3, fun k hk => by rw [e3]; exact h4 k hk, ⟨h5.1, Nat.lt_of_lt_of_le h5.2 f1⟩, ⟨h6.1, Nat.lt_of_lt_of_le h6.2 f1⟩, h7⟩, d1, n t h5.2 d2, fun b hb => ?_⟩
  rw [e1, h1] at hb
  injection hb with hb
  subst hb
  exact ⟨d4, n a h6.2 d5⟩
/-- a builder that is newer than S0 leaves what was there -/
def qN (u : Nat) (S0 : zSp) (σ : zS) : Prop := zSk S0 ≤ u ∧ ∀ q, gr σ u 0 = some q → zSk S0 ≤ q
theorem qX.f {u : Nat} {S0 S S' : zSp} {σ0 σ σ' : zS} (B : qX S0 σ0 S σ) (hn : qN u S0 σ) (F : sbF u S σ S' σ') : qX S0 σ0 S' σ' ∧ qN u S0 σ' := by
  obtain ⟨f1, f2, f3, f4, f5, f6⟩ := F
  refine ⟨⟨Nat.le_trans B.1 f1, fun a ha => ?_⟩, hn.1, fun q hq => (f6 q hq).elim (hn.2 q) (fun x => Nat.le_trans B.1 x)⟩
  obtain ⟨b1, b2, b3, b4, b5⟩ := B.2 a ha
  have ha2 : a < zSk S := Nat.lt_of_lt_of_le ha B.1
  have hu : a ≠ u := fun e => by have := hn.1; omega
  exact ⟨(f2 a ha2).trans b1, (funext fun j => f3 a j ha2 (fun x => hu x.1)).trans b2, (f4 a ha2 hu (fun e => by have := hn.2 a e; omega)).trans b3, (f5 a ha2).1.trans b4, (f5 a ha2).2.trans b5⟩
/-- a new builder -/
theorem sb_new {S : zSp} {σ : zS} (hS : 455 ≤ zSk S) {Q : zSp → zS → Prop} (hq : ∀ S' σ', sbT (zSk S) S' σ' [] 0 → qX S σ S' σ' → qN (zSk S) S σ' → Q S' σ') : wJ4_init_da8c8 (zSpush S 13 0) (zfresh σ (zSk S)) (zSk S) Q := by
  have k1 : zSk (zSpush S 13 0) = zSk S + 1 := rfl
  have B1 := qX_new S σ 13 0
  have z1 := zfresh_0 σ (zSk S)
  generalize hu : zSk S = u at *
  generalize zSpush S 13 0 = S1 at *
  generalize zfresh σ u = σ1 at *
  refine ⟨fun h => absurd h (by decide), fun _ => ⟨by decide, by decide, fun a1 e1 S2 e2 σ4 e4 σ5 e5 σ6 e6 => ?_⟩⟩
  have c16 : (16 : Int32).toNatClampNeg = 16 := rfl
  rw [c16] at e2
  have B2 := qX_new S1 σ1 21 16
  rw [k1] at e1
  have k2 : zSk (zSpush S1 21 16) = u + 2 := by rw [zSk_push, k1]
  have l2 : zSl (zSpush S1 21 16) (u + 1) = 16 := by rw [← k1]; exact zSl_new S1 21 16
  rw [k1] at B2
  have z2 := zfresh_0 σ1 (u + 1)
  have zu1 : gi (zfresh σ1 (u + 1)) u = fun _ => 0 := by rw [zfresh_i σ1 (by omega)]; exact z1
  subst e1 e2 e4 e5 e6
  refine hq _ _ ⟨u + 1, ?_, Or.inl l2, by omega, by omega, hS, ?_, ?_, by rw [l2]; exact Nat.zero_le _, fun k hk => absurd hk (Nat.not_lt_zero k), fun k hk => ?_⟩ ⟨by rw [k2]; omega, fun a ha => ?_⟩ ⟨by omega, fun q hq => ?_⟩
  · show gr (sr _ u 0 (some (u + 1))) u 0 = _
    rw [gr_sr, if_pos rfl, if_pos rfl]
  · rw [si_at, zu_self]
  · rw [si_at, zu_ne (by decide), gi_sr, zu1]; rfl
  · rw [si_out _ _ (by omega), gi_sr, z2]; exact (by decide : -128 ≤ (0 : Int32).toInt ∧ (0 : Int32).toInt < 128)
  · have ha : a < u := by omega
    obtain ⟨b1, b2, b3, b4, b5⟩ := B1.2 a (by omega)
    obtain ⟨c1, c2, c3, c4, c5⟩ := B2.2 a (by omega)
    refine ⟨c1.trans b1, ?_, ?_, ?_, ?_⟩
    · rw [← b2, ← c2]
      funext j
      show gr (sr _ u 0 _) a j = _
      rw [gr_sr, if_neg (by omega)]
    · rw [si_out _ _ (by omega), gi_sr, c3, b3]
    · show gl (zfresh σ1 (u + 1)) a = _
      rw [c4, b4]
    · show gd (zfresh σ1 (u + 1)) a = _
      rw [c5, b5]
  · have e : gr (sr (zfresh σ1 (u + 1)) u 0 (some (u + 1))) u 0 = some q := hq
    rw [gr_sr, if_pos rfl, if_pos rfl] at e
    injection e with e
    omega
/-- a part of a row of bytes, copied -/
theorem c_copyR {S : zSp} {σ : zS} {a n : Nat} (ha : a < zSk S) (hn : n ≤ zSl S a) (hl : zSl S a ≤ 142) (hf : ∀ i, i < zSl S a → -128 ≤ (gi σ a i).toInt ∧ (gi σ a i).toInt < 128) {Q : Nat → zSp → zS → Prop} (hq : ∀ S' σ', zSk S' = zSk S + 1 → zSl S' (zSk S) = n → qX S σ S' σ' → (∀ j, j < n → gi σ' (zSk S) j = gi σ a j) → Q (zSk S) S' σ') : wJ7_copyOfRange_39247 S σ a 0 (nI n) Q := by
  have en := nI_toInt (n := n) (by omega)
  have z0 : (0 : Int32).toInt = 0 := rfl
  have el := nI_toInt (n := zSl S a) (by omega)
  refine ⟨fun _ => ⟨fun h => ?_, fun h => ?_⟩, fun h => absurd rfl h⟩
  · have hnl : n = zSl S a := (nI_eq (by omega) (by omega)).mp h
    refine ⟨fun i hi => fit_b (hf i hi), by omega, fun a1 e1 S1 e2 σ4 e4 => ?_⟩
    have B := qX_new S σ 21 (zSl S a)
    subst e1 e2 e4
    refine hq _ _ rfl (by rw [zSl_new]; exact hnl.symm) ⟨B.1, fun b hb => ?_⟩ (fun j hj => by rw [sI_at])
    obtain ⟨b1, b2, b3, b4, b5⟩ := B.2 b hb
    exact ⟨b1, b2, by rw [sI_out _ _ (by omega)]; exact b3, b4, b5⟩
  · refine ⟨fun _ x2 e2 => ?_, fun h => absurd (by rw [nle, en, z0]; omega) h⟩
    have e2' : x2 = nI n := by rw [e2, neq, nsub (by rw [en, z0]; omega) (by rw [en, z0]; omega), en, z0]; omega
    subst e2'
    refine ⟨by rw [nlt, en, z0]; omega, by rw [nI_clamp (by omega)]; omega, fun a3 e3 S3 eS3 σ6 e6 x7 e7 x8 e8 => ?_⟩
    have B := qX_new S σ 21 n
    rw [nI_clamp (by omega)] at eS3
    have l3 : zSl S3 a = zSl S a := by rw [eS3]; exact zSl_push S ha
    have l4 : zSl S3 (zSk S) = n := by rw [eS3]; exact zSl_new S 21 n
    rw [l3] at e7
    have e7' : x7 = nI (zSl S a) := by rw [e7, neq, nsub (by rw [el, z0]; omega) (by rw [el, z0]; omega), el, z0]; omega
    subst e7'
    have e8' : x8 = nI n := by
      rw [e8]
      split
      · rfl
      · rename_i hh
        rw [nlt, en, el] at hh
        have : zSl S a = n := by omega
        rw [this]
    subst e8' e3 e6
    rw [nI_clamp (by omega)]
    have i6 : gi (zfresh σ (zSk S)) a = gi σ a := zfresh_i σ (by omega)
    refine ⟨⟨by decide, by decide, by rw [nlt, en, z0]; omega, by rw [l3]; show 0 + n ≤ _; omega, by rw [l4]; show 0 + n ≤ n; omega, fun i hi => by rw [i6]; exact fit_b (hf _ (by show 0 + i < _; omega))⟩, fun σ15 e15 => ?_⟩
    subst eS3 e15
    refine hq _ _ rfl l4 ⟨B.1, fun b hb => ?_⟩ (fun j hj => ?_)
    · obtain ⟨b1, b2, b3, b4, b5⟩ := B.2 b hb
      exact ⟨b1, b2, by rw [sI_out _ _ (by omega)]; exact b3, b4, b5⟩
    · rw [sI_at, i6]
      show (if 0 ≤ j ∧ j < 0 + n then gi σ a (0 + (j - 0)) else _) = _
      rw [if_pos ⟨Nat.zero_le _, by omega⟩, Nat.zero_add, Nat.sub_zero]
/-- the text of a builder, as a String -/
theorem s_toString {u : Nat} {S : zSp} {σ : zS} {T : List Int32} (H : sbT u S σ T 0) {Q : Nat → zSp → zS → Prop} (hq : ∀ S' σ', qS S' σ' (zSk S) T → qX S σ S' σ' → (∀ a, gr σ' (zSk S) 0 = some a → zSk S ≤ a) → Q (zSk S) S' σ') : wJ4_toString_0e30d S σ u Q := by
  obtain ⟨a, q1, q2, q3, q4, q5, q6, q7, q8, q9, q10⟩ := H
  intro a1 e1 S1 eS1 σ2 e2
  have B1 := qX_new S σ 12 0
  have k1 : zSk (zSpush S 12 0) = zSk S + 1 := rfl
  have l1 : zSl (zSpush S 12 0) a = zSl S a := zSl_push S q4
  have i2 : ∀ b, b ≠ zSk S → gi (zfresh σ (zSk S)) b = gi σ b := fun b hb => zfresh_i σ hb
  have r2 : ∀ b, b ≠ zSk S → gr (zfresh σ (zSk S)) b = gr σ b := fun b hb => zfresh_r σ hb
  subst e1 eS1 e2
  refine ⟨a, by rw [r2 u (by omega)]; exact q1, ?_⟩
  refine ⟨fun h => absurd h (by decide), fun _ => ⟨fun _ => ⟨fun h => absurd h (by decide), fun _ σ9 e9 => ?_⟩, fun h => absurd (by rw [i2 u (by omega)]; exact q6) h⟩⟩
  rw [i2 u (by omega), q7]
  have i9 : ∀ b, b ≠ zSk S → gi σ9 b = gi σ b := fun b hb => by rw [e9, si_out _ _ hb]; exact i2 b hb
  have X9 : qX S σ (zSpush S 12 0) σ9 := ⟨B1.1, fun b hb => by
    obtain ⟨b1, b2, b3, b4, b5⟩ := B1.2 b hb
    exact ⟨b1, by rw [e9]; exact b2, i9 b (by omega), by rw [e9]; exact b4, by rw [e9]; exact b5⟩⟩
  have z9 : gi σ9 (zSk S) 1 = 0 := by rw [e9, si_at, zu_self]
  refine c_copyR (S := zSpush S 12 0) (by omega) (by rw [l1]; omega) (by rw [l1]; omega) (fun i hi => by rw [i9 a (by omega)]; rw [l1] at hi; exact q10 i hi) (fun S10 σ10 k10 l10 X10 h10 σ12 e12 => ?_)
  rw [k1] at k10 l10 h10 e12
  have X12 : qX S σ S10 σ12 := ⟨by omega, fun b hb => by
    obtain ⟨b1, b2, b3, b4, b5⟩ := (X9.tr X10).2 b hb
    refine ⟨b1, ?_, by rw [e12, gi_sr]; exact b3, by rw [e12]; exact b4, by rw [e12]; exact b5⟩
    rw [e12, ← b2]
    funext j
    rw [gr_sr, if_neg (by omega)]⟩
  have g12 : gr σ12 (zSk S) 0 = some (zSk S + 1) := by rw [e12, gr_sr, if_pos rfl, if_pos rfl]
  have hk := X10.2 (zSk S) (by omega)
  refine hq S10 σ12 ⟨zSk S + 1, g12, l10, ?_, fun k hk2 => ?_, ⟨by omega, by omega⟩, ⟨by omega, by omega⟩, by omega⟩ X12 (fun b hb => ?_)
  · rw [e12, gi_sr, hk.2.2.1]; exact z9
  · rw [e12, gi_sr, h10 k hk2, i9 a (by omega)]; exact q9 k hk2
  · rw [g12] at hb
    injection hb with hb
    omega
