/-! CALLS: looks that may throw -/
theorem chr_id {x : Int32} (h0 : 0 ≤ x.toInt) (h1 : x.toInt < 256) : (x.toUInt32 % 65536).toInt32 = x := by
  have e : x = nI x.toNatClampNeg := by rw [neq, nI_toInt (by rw [ncln]; omega), ncln]; omega
  rw [e]
  exact (sb_byte x.toNatClampNeg (by rw [ncln]; omega)).2.1
theorem nar_id {x : Int32} (h0 : 0 ≤ x.toInt) (h1 : x.toInt < 256) : narrow .char (.int x) = .int x := by
  have e : x = nI x.toNatClampNeg := by rw [neq, nI_toInt (by rw [ncln]; omega), ncln]; omega
  rw [e]
  exact (pk_charN (q := x.toNatClampNeg) (by rw [ncln]; omega)).1
theorem t64 (x : Int32) : x.toInt64.toInt = x.toInt := n64 x
/-- the model's test of a range -/
theorem n_isIn {ln : Nat → Nat} {σ : zS} {v lo hi : Int64} {Q : Int32 → zS → Prop} (h1 : lo.toInt ≤ v.toInt ∧ v.toInt ≤ hi.toInt → Q 1 σ) (h0 : ¬ (lo.toInt ≤ v.toInt ∧ v.toInt ≤ hi.toInt) → Q 0 σ) : wX12_isIn ln σ v lo hi Q := by
  refine w_isIn ?_
  by_cases h : lo.toInt ≤ v.toInt ∧ v.toInt ≤ hi.toInt
  · rw [if_pos h]; exact h1 h
  · rw [if_neg h]; exact h0 h
theorem n_raise {ln : Nat → Nat} {σ : zS} {k : Int32} {Q : Int32 → zS → Prop} (hq : Q 0 (si σ 455 0 k)) : wX12_raise ln σ 455 k Q := by
  intro σ1 e1
  subst e1
  exact hq
/-- an item of a row of the class -/
theorem c_itemAt {ln : Nat → Nat} {σ : zS} {a a' cap m : Nat} {v : Int32} (g : gr σ a 0 = some a') (l : ln a' = cap) (hcap : cap < 2 ^ 31) (hm : gi σ a 1 = nI m) (hm2 : m ≤ cap) {Q : Int32 → zS → Prop} {X : String → zS → Prop} (h1 : ∀ k, k < m → v = nI k → Q (gi σ a' k) σ) (h0 : ¬ (0 ≤ v.toInt ∧ v.toInt < m) → X "java/lang/IndexOutOfBoundsException" σ) : wxX11_itemAt ln σ a v Q X := by
  unfold wxX11_itemAt wxX11_itemAt_12 wX9_size
  rw [hm]
  refine ⟨fun h => h0 (fun e => ?_), fun hn => ⟨fun h => ?_, fun h => h0 (fun e => h ?_)⟩⟩
  · rw [nlt] at h
    have : (0 : Int32).toInt = 0 := rfl
    omega
  · rw [nlt, nI_toInt (by omega)] at h
    have h2 : 0 ≤ v.toInt := by
      rw [nlt] at hn
      have : (0 : Int32).toInt = 0 := rfl
      omega
    have hc := ncl h2
    have e : v = nI v.toNatClampNeg := by rw [neq, nI_toInt (by omega)]; omega
    exact w_rget g l hcap hm hm2 e (by omega) (h1 _ (by omega) e)
  · rw [nlt, nI_toInt (by omega)]
    exact e.2
theorem L_facing {S : zSp} {σ : zS} {N : Nat} (W : zWd S σ N) {v : Int32} {K : Int32 → Int32 → zS → Prop} (hK : zEnd S N K) : wL_facing (zSl S) σ 0 v 463 (fun r5 σ4 => wX12_facing (zSl S) σ4 455 v (fun r10 σ9 => K r5 r10 σ9)) := by
  obtain ⟨p, p', s, m, h, W⟩ := W
  have S1 := W.sm
  obtain ⟨⟨m1, m2, m3, m4, m5, m6⟩, ⟨a1, a2, a3, a4, a5, a6, a7, a8, a9⟩, ⟨l1, l2, l3, l4, l5, l6⟩⟩ := S1
  have K1 := W.km
  have X1 := W.x
  have OUT : ∀ r : Int32, wX12_facing (zSl S) (sl σ 463 0 r.toInt64) 455 v (fun r10 σ9 => K 0 r10 σ9) → ∀ x6 : Int64, x6 = r.toInt64 → vp_in (0 : Int32) (zSl S 463) ∧ ∀ σ8 : zS, σ8 = sl σ 463 (0 : Int32).toNatClampNeg x6 → wX12_facing (zSl S) σ8 455 v (fun r10 σ9 => K 0 r10 σ9) := fun r hq => c_out (σ := σ) W.l463 (Q := fun r5 σ4 => wX12_facing (zSl S) σ4 455 v (fun r10 σ9 => K r5 r10 σ9)) hq
  have hN := W.w.N
  have pn : gi σ p 0 = gi σ 456 0 := W.pl.1.1
  have t5 : (500 : Int32).toInt = 500 := rfl
  have t1 : (1000 : Int32).toInt = 1000 := rfl
  have key : ∀ q, q ≤ 1 → (mI (((gi σ 456 (21 + q) + 500) / 1000)).toInt (gi σ 456 0).toInt) = ((gi σ 456 (21 + q) + 500) / 1000) - ((gi σ 456 (21 + q) + 500) / 1000) / gi σ 456 0 * gi σ 456 0 := fun q hq => by
    have hp := W.w.ph hq
    have e1 : (gi σ 456 (21 + q) + 500).toInt = (gi σ 456 (21 + q)).toInt + 500 := by rw [nadd (by rw [t5]; omega) (by rw [t5]; omega), t5]
    have e2 : ((gi σ 456 (21 + q) + 500) / 1000).toInt = ((gi σ 456 (21 + q)).toInt + 500) / 1000 := by rw [ndiv (by rw [e1]; omega) (by rw [t1]; omega), e1, t1]
    have e3 : 0 ≤ ((gi σ 456 (21 + q) + 500) / 1000).toInt := by rw [e2]; omega
    rw [neq, nrem e3 (by omega), mIt (by omega) (by omega)]
  have hz : ¬ gi σ 456 0 = 0 := fun e => by
    rw [e] at hN
    exact absurd hN.1 (by decide)
  have md : ∀ q : Nat, (v = 0 ∧ q = 0 ∨ v = 1 ∧ q = 1) → ∀ σ1, σ1 = sl σ 463 0 ((mI (((gi σ 456 (21 + q) + 500) / 1000)).toInt (gi σ 456 0).toInt)).toInt64 → wX12_facing (zSl S) σ1 455 v (fun r10 σ9 => K 0 r10 σ9) := by
    intro q hq σ1 e1 σ2 e2
    subst e1 e2
    refine n_isOffice (fun _ => ⟨fun h => absurd h (by decide), fun _ => ⟨456, W.q1, fun x5 e5 => ?_⟩⟩) (fun hn => absurd (hq.elim (fun x => Or.inl x.1) (fun x => Or.inr x.1)) hn)
    subst e5
    refine ⟨W.v (oix hq 21 (by decide)).2, 456, W.q1, W.v vq0, fun x9 e9 x10 e10 => ?_⟩
    rw [cq0, row_t] at e9
    rw [show ((21 : Int32) + v).toNatClampNeg = 21 + q from (oix hq 21 (by decide)).1, row_t] at e10
    subst e9 e10
    exact ⟨hz, W.fin hK (key q (by omega)).symm⟩
  unfold wL_facing wxX11_facing
  refine c_office W.st (fun hv => ?_) (fun hv => ?_) (fun hv => ⟨rfl, ?_⟩)
  · have f0 : gi σ 262 0 = gi σ 456 (21 + 0) := K1.2.1.1.1
    refine ⟨p, W.gp, fun x6 e6 => ?_⟩
    rw [pn] at e6
    subst e6
    refine wmodulo (by omega) (OUT _ ?_)
    rw [f0]
    exact md 0 (Or.inl ⟨hv, rfl⟩) _ rfl
  · have f0 : gi σ 265 0 = gi σ 456 (21 + 1) := K1.2.1.2.1
    refine ⟨p, W.gp, fun x6 e6 => ?_⟩
    rw [pn] at e6
    subst e6
    refine wmodulo (by omega) (OUT _ ?_)
    rw [f0]
    exact md 1 (Or.inr ⟨hv, rfl⟩) _ rfl
  · intro σ1 e1
    subst e1
    refine n_isOffice (fun h => absurd h hv) (fun _ => ⟨fun _ => n_raise (W.thr hK (by decide)), fun h => absurd rfl h⟩)
theorem L_lineCount {S : zSp} {σ : zS} {N : Nat} (W : zWd S σ N) {v : Int32} {K : Int32 → Int32 → zS → Prop} (hK : zEnd S N K) : wL_lineCount (zSl S) σ 0 v 463 (fun r5 σ4 => wX12_lineCount (zSl S) σ4 455 v (fun r10 σ9 => K r5 r10 σ9)) := by
  obtain ⟨p, p', s, m, h, W⟩ := W
  have S1 := W.sm
  obtain ⟨⟨m1, m2, m3, m4, m5, m6⟩, ⟨a1, a2, a3, a4, a5, a6, a7, a8, a9⟩, ⟨l1, l2, l3, l4, l5, l6⟩⟩ := S1
  have K1 := W.km
  have X1 := W.x
  have OUT : ∀ r : Int32, wX12_lineCount (zSl S) (sl σ 463 0 r.toInt64) 455 v (fun r10 σ9 => K 0 r10 σ9) → ∀ x6 : Int64, x6 = r.toInt64 → vp_in (0 : Int32) (zSl S 463) ∧ ∀ σ8 : zS, σ8 = sl σ 463 (0 : Int32).toNatClampNeg x6 → wX12_lineCount (zSl S) σ8 455 v (fun r10 σ9 => K 0 r10 σ9) := fun r hq => c_out (σ := σ) W.l463 (Q := fun r5 σ4 => wX12_lineCount (zSl S) σ4 455 v (fun r10 σ9 => K r5 r10 σ9)) hq
  have e0 : gi σ (p + 3) 2 = gi σ 456 25 := W.pl.2.2.1.1
  have e1 : gi σ (p + 65) 2 = gi σ 456 26 := W.pl.2.2.1.2
  unfold wL_lineCount wxX11_lineCount
  refine c_desk W.st W.gp W.ps (fun hv => OUT _ ?_) (fun hv => OUT _ ?_) (fun hv => ⟨rfl, ?_⟩)
  · exact n_ofOffice (k := 25) (σ := sl σ 463 0 _) W.mg rfl (by decide) (fun _ => W.fin hK e0.symm) (fun e => by rw [hv] at e; exact absurd e (by decide)) (fun hn => absurd (Or.inl hv) hn)
  · exact n_ofOffice (k := 25) (σ := sl σ 463 0 _) W.mg rfl (by decide) (fun e => by rw [hv] at e; exact absurd e (by decide)) (fun _ => W.fin hK e1.symm) (fun hn => absurd (Or.inr hv) hn)
  · exact n_ofOffice (k := 25) W.mg rfl (by decide) (fun e => absurd (Or.inl e) hv) (fun e => absurd (Or.inr e) hv) (fun _ => W.thr hK (by decide))
theorem L_receivedLength {S : zSp} {σ : zS} {N : Nat} (W : zWd S σ N) {v : Int32} {K : Int32 → Int32 → zS → Prop} (hK : zEnd S N K) : wL_receivedLength (zSl S) σ 0 v 463 (fun r5 σ4 => wX12_receivedLength (zSl S) σ4 455 v (fun r10 σ9 => K r5 r10 σ9)) := by
  obtain ⟨p, p', s, m, h, W⟩ := W
  have S1 := W.sm
  obtain ⟨⟨m1, m2, m3, m4, m5, m6⟩, ⟨a1, a2, a3, a4, a5, a6, a7, a8, a9⟩, ⟨l1, l2, l3, l4, l5, l6⟩⟩ := S1
  have K1 := W.km
  have X1 := W.x
  have OUT : ∀ r : Int32, wX12_receivedLength (zSl S) (sl σ 463 0 r.toInt64) 455 v (fun r10 σ9 => K 0 r10 σ9) → ∀ x6 : Int64, x6 = r.toInt64 → vp_in (0 : Int32) (zSl S 463) ∧ ∀ σ8 : zS, σ8 = sl σ 463 (0 : Int32).toNatClampNeg x6 → wX12_receivedLength (zSl S) σ8 455 v (fun r10 σ9 => K 0 r10 σ9) := fun r hq => c_out (σ := σ) W.l463 (Q := fun r5 σ4 => wX12_receivedLength (zSl S) σ4 455 v (fun r10 σ9 => K r5 r10 σ9)) hq
  have e0 : gi σ 263 1 = gi σ 456 29 := K1.2.2.1.1.1
  have e1 : gi σ 266 1 = gi σ 456 30 := K1.2.2.1.2.1
  unfold wL_receivedLength wxX11_receivedLength
  refine c_office W.st (fun hv => ⟨263, a1, OUT _ ?_⟩) (fun hv => ⟨266, a2, OUT _ ?_⟩) (fun hv => ⟨rfl, ?_⟩)
  · exact n_ofOffice (k := 29) (σ := sl σ 463 0 _) W.mg rfl (by decide) (fun _ => W.fin hK e0.symm) (fun e => by rw [hv] at e; exact absurd e (by decide)) (fun hn => absurd (Or.inl hv) hn)
  · exact n_ofOffice (k := 29) (σ := sl σ 463 0 _) W.mg rfl (by decide) (fun e => by rw [hv] at e; exact absurd e (by decide)) (fun _ => W.fin hK e1.symm) (fun hn => absurd (Or.inr hv) hn)
  · exact n_ofOffice (k := 29) W.mg rfl (by decide) (fun e => absurd (Or.inl e) hv) (fun e => absurd (Or.inr e) hv) (fun _ => W.thr hK (by decide))
theorem L_character {S : zSp} {σ : zS} {N : Nat} (W : zWd S σ N) {v f : Int32} (hf : f = 0 ∨ f = 1) {K : Int32 → Int32 → zS → Prop} (hK : zEnd S N K) : wL_character (zSl S) σ 0 v f 463 (fun r5 σ4 => wX12_character (zSl S) σ4 455 v f (fun r10 σ9 => K r5 r10 σ9)) := by
  obtain ⟨p, p', s, m, h, W⟩ := W
  have S1 := W.sm
  obtain ⟨⟨m1, m2, m3, m4, m5, m6⟩, ⟨a1, a2, a3, a4, a5, a6, a7, a8, a9⟩, ⟨l1, l2, l3, l4, l5, l6⟩⟩ := S1
  have K1 := W.km
  have X1 := W.x
  have OUT : ∀ r : Int32, wX12_character (zSl S) (sl σ 463 0 r.toInt64) 455 v f (fun r10 σ9 => K 0 r10 σ9) → ∀ x6 : Int64, x6 = r.toInt64 → vp_in (0 : Int32) (zSl S 463) ∧ ∀ σ8 : zS, σ8 = sl σ 463 (0 : Int32).toNatClampNeg x6 → wX12_character (zSl S) σ8 455 v f (fun r10 σ9 => K 0 r10 σ9) := fun r hq => c_out (σ := σ) W.l463 (Q := fun r5 σ4 => wX12_character (zSl S) σ4 455 v f (fun r10 σ9 => K r5 r10 σ9)) hq
  have hN := W.w.N
  have pn : gi σ p 0 = gi σ 456 0 := W.pl.1.1
  have t2 : (2 : Int32).toInt = 2 := rfl
  have t1 : (1 : Int32).toInt = 1 := rfl
  have u2 : (2 : Int64).toInt = 2 := rfl
  have em : (gi σ 456 0 - 1).toInt = (gi σ 456 0).toInt - 1 := by rw [nsub (by rw [t1]; omega) (by rw [t1]; omega), t1]
  have thr : ¬ (2 ≤ v.toInt ∧ v.toInt < (gi σ 456 0).toInt) → wX12_character (zSl S) σ 455 v f (fun r10 σ9 => K 1 r10 σ9) := by
    intro hn σ1 e1
    subst e1
    refine ⟨456, W.q1, W.v vq0, fun x4 e4 x5 e5 => ?_⟩
    rw [cq0, row_t] at e4
    subst e4 e5
    refine n_isIn (fun hh => ?_) (fun _ => ⟨fun _ => n_raise (W.thr hK (by decide)), fun h => absurd rfl h⟩)
    rw [t64, t64, u2, em] at hh
    exact absurd (show 2 ≤ v.toInt ∧ v.toInt < (gi σ 456 0).toInt by omega) hn
  unfold wL_character wxX11_character wxX11_character_16
  refine ⟨fun hv => ⟨rfl, thr (fun e => ?_)⟩, fun hv => ⟨p, W.gp, ?_⟩⟩
  · rw [nlt, t2] at hv; omega
  rw [nlt, t2] at hv
  rw [pn]
  refine ⟨fun hv2 => ?_, fun hv2 => ⟨rfl, thr (fun e => ?_)⟩⟩
  · rw [nlt] at hv2
    have hb := zchr_b (p := v) (by omega) (by omega) (!decide (f = 0))
    refine w_chr (by omega) (by omega) ⟨nar_id hb.1 (by omega), OUT _ ?_⟩
    intro σ1 e1
    subst e1
    refine ⟨456, W.q1, W.v vq0, fun x4 e4 x5 e5 => ?_⟩
    rw [cq0, row_t] at e4
    subst e4 e5
    refine n_isIn (fun _ => ⟨fun h => absurd h (by decide), fun _ => ?_⟩) (fun hh => ?_)
    · refine m_characterOf (by omega) (by omega) ?_
      exact W.fin hK (chr_id hb.1 (by omega))
    · exfalso
      apply hh
      rw [t64, t64, u2]
      have em' : (gi (sl σ 463 0 (zchr v (!decide (f = 0))).toInt64) 456 0 - 1).toInt = (gi σ 456 0).toInt - 1 := em
      rw [em']
      omega
  · rw [nlt] at hv2; omega
theorem L_bufferCharacter {S : zSp} {σ : zS} {N : Nat} (W : zWd S σ N) {v : Int32} {K : Int32 → Int32 → zS → Prop} (hK : zEnd S N K) : wL_bufferCharacter (zSl S) σ 0 v 463 (fun r5 σ4 => wX12_bufferCharacter (zSl S) σ4 455 v (fun r10 σ9 => K r5 r10 σ9)) := by
  obtain ⟨p, p', s, m, h, W⟩ := W
  have S1 := W.sm
  obtain ⟨⟨m1, m2, m3, m4, m5, m6⟩, ⟨a1, a2, a3, a4, a5, a6, a7, a8, a9⟩, ⟨l1, l2, l3, l4, l5, l6⟩⟩ := S1
  have K1 := W.km
  have X1 := W.x
  have OUT : ∀ r : Int32, wX12_bufferCharacter (zSl S) (sl σ 463 0 r.toInt64) 455 v (fun r10 σ9 => K 0 r10 σ9) → ∀ x6 : Int64, x6 = r.toInt64 → vp_in (0 : Int32) (zSl S 463) ∧ ∀ σ8 : zS, σ8 = sl σ 463 (0 : Int32).toNatClampNeg x6 → wX12_bufferCharacter (zSl S) σ8 455 v (fun r10 σ9 => K 0 r10 σ9) := fun r hq => c_out (σ := σ) W.l463 (Q := fun r5 σ4 => wX12_bufferCharacter (zSl S) σ4 455 v (fun r10 σ9 => K r5 r10 σ9)) hq
  have hb := W.w.b
  have hc := ncl hb.1
  have em : gi σ 456 11 = nI (gi σ 456 11).toNatClampNeg := by rw [neq, nI_toInt (by omega)]; omega
  have e11 : gi σ 269 1 = nI (gi σ 456 11).toNatClampNeg := (show gi σ 269 1 = gi σ 456 11 from K1.2.2.2.1.2.2.2.1).trans em
  have t1 : (1 : Int32).toInt = 1 := rfl
  have u0 : (0 : Int64).toInt = 0 := rfl
  have e1 : (gi σ 456 11 - 1).toInt = (gi σ 456 11).toInt - 1 := by rw [nsub (by rw [t1]; omega) (by rw [t1]; omega), t1]
  have md : ∀ (σ1 : zS) (Q : Int32 → zS → Prop), gr σ1 = gr σ → gi σ1 456 = gi σ 456 → Q (gi σ 456 11) (si σ1 455 0 0) → wX12_bufferMany (zSl S) (si σ1 455 0 0) 455 Q := by
    intro σ1 Q g1 r1 hq
    refine M_isSender (σ := si σ1 455 0 0) (by show zMg (gr σ1) _; rw [g1]; exact W.mg) ?_
    rw [row_t, r1]
    by_cases h6 : gi σ 456 6 = -1
    · rw [if_pos h6]
      refine ⟨fun _ => ?_, fun h => absurd rfl h⟩
      rw [(X1.2.2.2.2.2.2.1 h6).2.2.2.1] at hq
      exact hq
    · rw [if_neg h6]
      refine ⟨fun h => absurd h (by decide), fun _ => ⟨456, by show gr σ1 455 1 = _; rw [g1]; exact W.q1, W.v vq11, ?_⟩⟩
      rw [cq11, row_t, r1]
      exact hq
  unfold wL_bufferCharacter wxX11_bufferCharacter
  refine ⟨261, W.g3, 268, m3, 269, a5, ?_⟩
  refine c_itemAt a6 l3 (by decide) e11 (by omega) (fun k hk hv => OUT _ ?_) (fun hn => ⟨rfl, ?_⟩)
  · have ek : gi σ 270 k = gi σ 456 (59 + k) := K1.2.2.2.1.2.2.2.2 k hk
    have hvt : v.toInt = k := by rw [hv, nI_toInt (by omega)]
    intro σ1 e1'
    subst e1'
    refine md (sl σ 463 0 _) _ rfl rfl (fun x4 e4 x5 e5 => ?_)
    subst e4 e5
    refine n_isIn (fun _ => ⟨fun h => absurd h (by decide), fun _ => ⟨456, W.q1, fun x9 e9 => ?_⟩⟩) (fun hh => ?_)
    · have x0 : (59 : Int32) + v = nI (59 + k) := by rw [hv]; exact nI_add 59 k
      rw [x0] at e9
      subst e9
      refine ⟨W.v (vp_in_nI (by omega) (by omega)), fun x11 e11' => ?_⟩
      rw [nI_clamp (by omega), row_t] at e11'
      have e11'' : x11 = gi σ 456 (59 + k) := e11'
      subst e11''
      exact W.fin hK (by rw [ek])
    · exfalso
      apply hh
      rw [t64, t64, u0, e1]
      omega
  · intro σ1 e1'
    subst e1'
    refine md σ _ rfl rfl (fun x4 e4 x5 e5 => ?_)
    subst e4 e5
    refine n_isIn (fun hh => ?_) (fun _ => ⟨fun _ => n_raise (W.thr hK (by decide)), fun h => absurd rfl h⟩)
    rw [t64, t64, u0, e1] at hh
    exact absurd (show 0 ≤ v.toInt ∧ v.toInt < ((gi σ 456 11).toNatClampNeg : Nat) by omega) hn
theorem L_receivedCharacter {S : zSp} {σ : zS} {N : Nat} (W : zWd S σ N) {v w : Int32} {K : Int32 → Int32 → zS → Prop} (hK : zEnd S N K) : wL_receivedCharacter (zSl S) σ 0 v w 463 (fun r5 σ4 => wX12_receivedCharacter (zSl S) σ4 455 v w (fun r10 σ9 => K r5 r10 σ9)) := by
  obtain ⟨p, p', s, m, h, W⟩ := W
  have S1 := W.sm
  obtain ⟨⟨m1, m2, m3, m4, m5, m6⟩, ⟨a1, a2, a3, a4, a5, a6, a7, a8, a9⟩, ⟨l1, l2, l3, l4, l5, l6⟩⟩ := S1
  have K1 := W.km
  have X1 := W.x
  have OUT : ∀ r : Int32, wX12_receivedCharacter (zSl S) (sl σ 463 0 r.toInt64) 455 v w (fun r10 σ9 => K 0 r10 σ9) → ∀ x6 : Int64, x6 = r.toInt64 → vp_in (0 : Int32) (zSl S 463) ∧ ∀ σ8 : zS, σ8 = sl σ 463 (0 : Int32).toNatClampNeg x6 → wX12_receivedCharacter (zSl S) σ8 455 v w (fun r10 σ9 => K 0 r10 σ9) := fun r hq => c_out (σ := σ) W.l463 (Q := fun r5 σ4 => wX12_receivedCharacter (zSl S) σ4 455 v w (fun r10 σ9 => K r5 r10 σ9)) hq
  have t1 : (1 : Int32).toInt = 1 := rfl
  have u0 : (0 : Int64).toInt = 0 := rfl
  have hm : ∀ q, q = 0 ∨ q = 1 → 0 ≤ (gi σ 456 (29 + q)).toInt ∧ (gi σ 456 (29 + q)).toInt ≤ 1000 := fun q hq => W.w.mq hq
  have em : ∀ q, q = 0 ∨ q = 1 → gi σ 456 (29 + q) = nI (gi σ 456 (29 + q)).toNatClampNeg := fun q hq => by
    have := hm q hq
    have := ncl this.1
    rw [neq, nI_toInt (by omega)]; omega
  have e1 : ∀ q, q = 0 ∨ q = 1 → (gi σ 456 (29 + q) - 1).toInt = (gi σ 456 (29 + q)).toInt - 1 := fun q hq => by
    have := hm q hq
    rw [nsub (by rw [t1]; omega) (by rw [t1]; omega), t1]
  have thr : ∀ q, (v = 0 ∧ q = 0 ∨ v = 1 ∧ q = 1) → ¬ (0 ≤ w.toInt ∧ w.toInt < ((gi σ 456 (29 + q)).toNatClampNeg : Nat)) → wX12_receivedCharacter (zSl S) σ 455 v w (fun r10 σ9 => K 1 r10 σ9) := by
    intro q hq hn σ1 e1'
    subst e1'
    have hq2 : q = 0 ∨ q = 1 := by omega
    refine n_isOffice (fun _ => ⟨fun h => absurd h (by decide), fun _ => ⟨456, W.q1, fun x5 e5 => ?_⟩⟩) (fun hn => absurd (hq.elim (fun x => Or.inl x.1) (fun x => Or.inr x.1)) hn)
    subst e5
    refine ⟨W.v (oix hq 29 (by decide)).2, fun x7 e7 x8 e8 => ?_⟩
    rw [show ((29 : Int32) + v).toNatClampNeg = 29 + q from (oix hq 29 (by decide)).1, row_t] at e7
    subst e7 e8
    refine n_isIn (fun hh => ?_) (fun _ => ⟨fun _ => n_raise (W.thr hK (by decide)), fun h => absurd rfl h⟩)
    rw [t64, t64, u0, e1 q hq2] at hh
    have := hm q hq2
    have := ncl this.1
    exact absurd (by omega) hn
  have go : ∀ q k, (v = 0 ∧ q = 0 ∨ v = 1 ∧ q = 1) → k < (gi σ 456 (29 + q)).toNatClampNeg → w = nI k → ∀ x : Int32, x = (((gi σ 456 (963 + 1000 * q + k)).toUInt32 % 65536).toInt32) → wX12_receivedCharacter (zSl S) (sl σ 463 0 x.toInt64) 455 v w (fun r10 σ9 => K 0 r10 σ9) := by
    intro q k hq hk hw x ex σ1 e1'
    subst e1'
    have hq2 : q = 0 ∨ q = 1 := by omega
    have hm2 := hm q hq2
    have hc2 := ncl hm2.1
    have hwt : w.toInt = k := by rw [hw, nI_toInt (by omega)]
    refine n_isOffice (fun _ => ⟨fun h => absurd h (by decide), fun _ => ⟨456, W.q1, fun x5 e5 => ?_⟩⟩) (fun hn => absurd (hq.elim (fun x => Or.inl x.1) (fun x => Or.inr x.1)) hn)
    subst e5
    refine ⟨W.v (oix hq 29 (by decide)).2, fun x7 e7 x8 e8 => ?_⟩
    rw [show ((29 : Int32) + v).toNatClampNeg = 29 + q from (oix hq 29 (by decide)).1, row_t] at e7
    have e7' : x7 = (gi σ 456 (29 + q) - 1).toInt64 := e7
    subst e7' e8
    refine n_isIn (fun _ => ⟨fun h => absurd h (by decide), fun _ => ⟨456, W.q1, fun x12 e12 => ?_⟩⟩) (fun hh => ?_)
    · have x0 : ((963 : Int32) + (1000 * v)) + w = nI (963 + 1000 * q + k) := by
        rw [hw]
        rcases hq with ⟨rfl, rfl⟩ | ⟨rfl, rfl⟩
        · have : (963 : Int32) + 1000 * 0 = nI 963 := by decide
          rw [this, nI_add]
        · have : (963 : Int32) + 1000 * 1 = nI 1963 := by decide
          rw [this, nI_add]
      rw [x0] at e12
      subst e12
      refine ⟨W.v (vp_in_nI (by omega) (by omega)), fun x14 e14 => ?_⟩
      rw [nI_clamp (by omega), row_t] at e14
      have e14' : x14 = gi σ 456 (963 + 1000 * q + k) := e14
      subst e14'
      exact W.fin hK ex.symm
    · exfalso
      apply hh
      rw [t64, t64, u0, e1 q hq2]
      omega
  unfold wL_receivedCharacter wxX11_receivedCharacter
  refine c_office W.st (fun hv => ⟨263, a1, ?_⟩) (fun hv => ⟨266, a2, ?_⟩) (fun hv => ⟨rfl, ?_⟩)
  · have eq1 : gi σ 263 1 = nI (gi σ 456 (29 + 0)).toNatClampNeg := (show gi σ 263 1 = gi σ 456 (29 + 0) from K1.2.2.1.1.1).trans (em 0 (Or.inl rfl))
    have hm0 := hm 0 (Or.inl rfl)
    have hc0 := ncl hm0.1
    refine c_itemAt a3 l1 (by decide) eq1 (by omega) (fun k hk hw => OUT _ (go 0 k (Or.inl ⟨hv, rfl⟩) hk hw _ ?_)) (fun hn => ⟨rfl, thr 0 (Or.inl ⟨hv, rfl⟩) hn⟩)
    rw [show gi σ 264 k = gi σ 456 (963 + 1000 * 0 + k) from K1.2.2.1.1.2 k hk]
  · have eq1 : gi σ 266 1 = nI (gi σ 456 (29 + 1)).toNatClampNeg := (show gi σ 266 1 = gi σ 456 (29 + 1) from K1.2.2.1.2.1).trans (em 1 (Or.inr rfl))
    have hm0 := hm 1 (Or.inr rfl)
    have hc0 := ncl hm0.1
    refine c_itemAt a4 l2 (by decide) eq1 (by omega) (fun k hk hw => OUT _ (go 1 k (Or.inr ⟨hv, rfl⟩) hk hw _ ?_)) (fun hn => ⟨rfl, thr 1 (Or.inr ⟨hv, rfl⟩) hn⟩)
    rw [show gi σ 267 k = gi σ 456 (963 + 1000 * 1 + k) from K1.2.2.1.2.2 k hk]
  · intro σ1 e1'
    subst e1'
    refine n_isOffice (fun h => absurd h hv) (fun _ => ⟨fun _ => n_raise (W.thr hK (by decide)), fun h => absurd rfl h⟩)
theorem L_event {S : zSp} {σ : zS} {N : Nat} (W : zWd S σ N) {v w : Int32} {K : Int32 → Int32 → zS → Prop} (hK : zEnd S N K) : wL_event (zSl S) σ 0 v w 463 (fun r5 σ4 => wX12_event (zSl S) σ4 455 v w (fun r10 σ9 => K r5 r10 σ9)) := by
  obtain ⟨p, p', s, m, h, W⟩ := W
  have S1 := W.sm
  obtain ⟨⟨m1, m2, m3, m4, m5, m6⟩, ⟨a1, a2, a3, a4, a5, a6, a7, a8, a9⟩, ⟨l1, l2, l3, l4, l5, l6⟩⟩ := S1
  have K1 := W.km
  have X1 := W.x
  have OUT : ∀ r : Int32, wX12_event (zSl S) (sl σ 463 0 r.toInt64) 455 v w (fun r10 σ9 => K 0 r10 σ9) → ∀ x6 : Int64, x6 = r.toInt64 → vp_in (0 : Int32) (zSl S 463) ∧ ∀ σ8 : zS, σ8 = sl σ 463 (0 : Int32).toNatClampNeg x6 → wX12_event (zSl S) σ8 455 v w (fun r10 σ9 => K 0 r10 σ9) := fun r hq => c_out (σ := σ) W.l463 (Q := fun r5 σ4 => wX12_event (zSl S) σ4 455 v w (fun r10 σ9 => K r5 r10 σ9)) hq
  have hb := W.w.e
  have hc := ncl hb.1
  have em : gi σ 456 18 = nI (gi σ 456 18).toNatClampNeg := by rw [neq, nI_toInt (by omega)]; omega
  obtain ⟨q1, q2, se, q3, q4, q5⟩ := K1.2.2.2.2.2.1
  have q2 : gi σ 273 3 = nI (gi σ 456 18).toNatClampNeg := q2.trans em
  have t0 : (0 : Int32).toInt = 0 := rfl
  have t1 : (1 : Int32).toInt = 1 := rfl
  have t3 : (3 : Int32).toInt = 3 := rfl
  have u0 : (0 : Int64).toInt = 0 := rfl
  have u2 : (2 : Int64).toInt = 2 := rfl
  have e1 : (gi σ 456 18 - 1).toInt = (gi σ 456 18).toInt - 1 := by rw [nsub (by rw [t1]; omega) (by rw [t1]; omega), t1]
  have thr1 : ¬ (0 ≤ v.toInt ∧ v.toInt < (gi σ 456 18).toInt) → wX12_event (zSl S) σ 455 v w (fun r10 σ9 => K 1 r10 σ9) := by
    intro hn σ1 e1'
    subst e1'
    refine ⟨456, W.q1, W.v vq18, fun x4 e4 x5 e5 => ?_⟩
    rw [cq18, row_t] at e4
    subst e4 e5
    refine n_isIn (fun hh => ?_) (fun _ => ⟨fun _ => n_raise (W.thr hK (by decide)), fun h => absurd rfl h⟩)
    rw [t64, t64, u0, e1] at hh
    exact absurd (by omega) hn
  have thr2 : (0 ≤ v.toInt ∧ v.toInt < (gi σ 456 18).toInt) → ¬ (0 ≤ w.toInt ∧ w.toInt < 3) → wX12_event (zSl S) σ 455 v w (fun r10 σ9 => K 2 r10 σ9) := by
    intro hv hn σ1 e1'
    subst e1'
    refine ⟨456, W.q1, W.v vq18, fun x4 e4 x5 e5 => ?_⟩
    rw [cq18, row_t] at e4
    subst e4 e5
    refine n_isIn (fun _ => ⟨fun h => absurd h (by decide), fun _ x8 e8 => ?_⟩) (fun hh => ?_)
    · subst e8
      refine n_isIn (fun hh => ?_) (fun _ => ⟨fun _ => n_raise (W.thr hK (by decide)), fun h => absurd rfl h⟩)
      rw [t64, u0, u2] at hh
      exact absurd (by omega) hn
    · exfalso
      apply hh
      rw [t64, t64, u0, e1]
      omega
  have key : ¬ ("java/lang/IllegalArgumentException" = "java/lang/IndexOutOfBoundsException") := by decide
  unfold wL_event wxX11_event wxX11_event_18 wxX11_event_38
  refine ⟨fun hv => ⟨fun _ => thr1 (fun e => ?_), fun h => absurd rfl h⟩, fun hv => ⟨261, W.g3, 273, m5, ?_⟩⟩
  · rw [nlt, t0] at hv; omega
  rw [nlt, t0] at hv
  unfold wX8_size
  rw [q2]
  refine ⟨fun hv2 => ?_, fun hv2 => ⟨fun _ => thr1 (fun e => hv2 ?_), fun h => absurd rfl h⟩⟩
  · rw [nlt, nI_toInt (by omega)] at hv2
    have hvr : 0 ≤ v.toInt ∧ v.toInt < (gi σ 456 18).toInt := by omega
    refine ⟨fun hw => ⟨fun h => absurd h key, fun _ => ⟨rfl, thr2 hvr (fun e => ?_)⟩⟩, fun hw => ⟨fun hw2 => ?_, fun hw2 => ⟨fun h => absurd h key, fun _ => ⟨rfl, thr2 hvr (fun e => ?_)⟩⟩⟩⟩
    · rw [nlt, t0] at hw; omega
    · rw [nlt, t0] at hw
      rw [nlt, t3] at hw2
      have cv := ncl hvr.1
      have cw := ncl (a := w) (by omega)
      have ev : v = nI v.toNatClampNeg := by rw [neq, nI_toInt (by omega)]; omega
      have ew : w = nI w.toNatClampNeg := by rw [neq, nI_toInt (by omega)]; omega
      refine ⟨261, W.g3, 273, m5, ?_⟩
      refine w_recget (cap := 40) (k := v.toNatClampNeg) (i := w.toNatClampNeg) a8 l5 (by decide) q1 q4 q2 q3 (by omega) (by omega) (by omega) ev ew (OUT _ ?_)
      have eg : gi σ 274 (3 * rix 40 se v.toNatClampNeg + w.toNatClampNeg) = gi σ 456 (99 + (3 * v.toNatClampNeg + w.toNatClampNeg)) := q5 _ (by omega) _ (by omega) (fun h => h.elim)
      rw [eg]
      intro σ1 e1'
      subst e1'
      refine ⟨456, W.q1, W.v vq18, fun x4 e4 x5 e5 => ?_⟩
      rw [cq18, row_t] at e4
      have e4' : x4 = (gi σ 456 18 - 1).toInt64 := e4
      subst e4' e5
      refine n_isIn (fun _ => ⟨fun h => absurd h (by decide), fun _ x8 e8 => ?_⟩) (fun hh => ?_)
      · subst e8
        refine n_isIn (fun _ => ⟨fun h => absurd h (by decide), fun _ => ⟨456, W.q1, fun x12 e12 => ?_⟩⟩) (fun hh => ?_)
        · have x0 : ((99 : Int32) + (3 * v)) + w = nI (99 + (3 * v.toNatClampNeg + w.toNatClampNeg)) := by
            rw [ev, ew]
            have : (3 : Int32) * nI v.toNatClampNeg = nI (3 * v.toNatClampNeg) := pk_mul 3 _
            rw [this, nI_clamp (by omega), nI_clamp (by omega)]
            have : (99 : Int32) + nI (3 * v.toNatClampNeg) = nI (99 + 3 * v.toNatClampNeg) := nI_add 99 _
            rw [this, nI_add, Nat.add_assoc]
          rw [x0] at e12
          subst e12
          refine ⟨W.v (vp_in_nI (by omega) (by omega)), ?_⟩
          rw [nI_clamp (by omega), row_t]
          exact W.fin hK rfl
        · exfalso
          apply hh
          rw [t64, u0, u2]
          omega
      · exfalso
        apply hh
        rw [t64, t64, u0, e1]
        omega
    · rw [nlt, t3] at hw2; omega
  · rw [nlt, nI_toInt (by omega)]
    omega
theorem l2d_i (x : Int32) : FP.l2d x.toInt64 = FP.i2d x := by
  show FP.Core.l2d x.toInt64 = FP.Core.i2d x
  unfold FP.Core.l2d FP.Core.i2d
  rw [n64]
/-- no quotient of two ints is a NaN, but by 0 -/
def zNaN : Prop := ∀ x y : Int32, ¬ y = 0 → vf_n64 (FP.ddiv (FP.i2d x) (FP.i2d y))
theorem L_meanOffset (hnan : zNaN) {S : zSp} {σ : zS} {N : Nat} (W : zWd S σ N) {v : Int32} {K : Int32 → UInt64 → zS → Prop} (hK : ∀ k b σ', zWd S σ' N → gi σ' 455 0 = k → (k = 0 → gd σ' 464 0 = b ∧ vf_n64 b) → K k b σ') : wL_meanOffset (zSl S) σ 0 v 464 (fun r5 σ4 => wX12_meanOffset (zSl S) σ4 455 v (fun r10 σ9 => K r5 r10 σ9)) := by
  obtain ⟨p, p', s, m, h, W⟩ := W
  have K1 := W.km
  have fin : ∀ b : UInt64, vf_n64 b → K 0 b (si (sd σ 464 0 b) 455 0 0) := fun b hb => hK _ _ _ ⟨p, p', s, m, h, zLk_W (zLk_d.tr zLk_t) W⟩ (gi_t _ _) (fun _ => ⟨by
    show gd (sd σ 464 0 b) 464 0 = b
    rw [gd_sd, if_pos rfl, if_pos rfl], hb⟩)
  have c0 : vf_n64 FP.dconst0 := by unfold vf_n64; decide
  have cl : ∀ q : Nat, (v = 0 ∧ q = 0 ∨ v = 1 ∧ q = 1) → ∀ (a : Nat), gi σ a 3 = gi σ 456 (31 + q) → gl σ a 6 = (gi σ 456 (37 + q)).toInt64 → ((gi σ a 3 = 0 → vp_in (0 : Int32) (zSl S 464) ∧ ∀ σ7 : zS, σ7 = sd σ 464 (0 : Int32).toNatClampNeg FP.dconst0 → wX12_meanOffset (zSl S) σ7 455 v (fun r10 σ9 => K 0 r10 σ9)) ∧ (¬ gi σ a 3 = 0 → vf_n64 (FP.ddiv (FP.l2d (gl σ a 6)) (FP.i2d (gi σ a 3))) ∧ vp_in (0 : Int32) (zSl S 464) ∧ ∀ σ7 : zS, σ7 = sd σ 464 (0 : Int32).toNatClampNeg (FP.ddiv (FP.l2d (gl σ a 6)) (FP.i2d (gi σ a 3))) → wX12_meanOffset (zSl S) σ7 455 v (fun r10 σ9 => K 0 r10 σ9))) := by
    intro q hq a ea el
    rw [ea, el, l2d_i, W.l464]
    refine ⟨fun hz => ⟨vp01, fun σ7 e7 => ?_⟩, fun hz => ⟨hnan _ _ hz, vp01, fun σ7 e7 => ?_⟩⟩
    · subst e7
      intro σ1 e1
      subst e1
      refine n_isOffice (fun _ => ⟨fun h => absurd h (by decide), fun _ => ⟨456, W.q1, fun x5 e5 => ?_⟩⟩) (fun hn => absurd (hq.elim (fun x => Or.inl x.1) (fun x => Or.inr x.1)) hn)
      subst e5
      refine ⟨W.v (oix hq 31 (by decide)).2, ?_⟩
      rw [show ((31 : Int32) + v).toNatClampNeg = 31 + q from (oix hq 31 (by decide)).1, row_t]
      exact ⟨fun _ => fin _ c0, fun hh => absurd hz hh⟩
    · subst e7
      intro σ1 e1
      subst e1
      refine n_isOffice (fun _ => ⟨fun h => absurd h (by decide), fun _ => ⟨456, W.q1, fun x5 e5 => ?_⟩⟩) (fun hn => absurd (hq.elim (fun x => Or.inl x.1) (fun x => Or.inr x.1)) hn)
      subst e5
      refine ⟨W.v (oix hq 31 (by decide)).2, ?_⟩
      rw [show ((31 : Int32) + v).toNatClampNeg = 31 + q from (oix hq 31 (by decide)).1, row_t]
      refine ⟨fun hh => absurd hh hz, fun _ => ⟨456, W.q1, fun x8 e8 => ?_⟩⟩
      subst e8
      refine ⟨W.v (oix hq 37 (by decide)).2, 456, W.q1, fun x11 e11 => ?_⟩
      subst e11
      refine ⟨W.v (oix hq 31 (by decide)).2, ?_⟩
      rw [show ((37 : Int32) + v).toNatClampNeg = 37 + q from (oix hq 37 (by decide)).1, show ((31 : Int32) + v).toNatClampNeg = 31 + q from (oix hq 31 (by decide)).1, row_t]
      exact ⟨hnan _ _ hz, fin _ (hnan _ _ hz)⟩
  unfold wL_meanOffset wxX11_meanOffset
  refine c_office W.st (fun hv => ?_) (fun hv => ?_) (fun hv => ⟨rfl, ?_⟩)
  · exact cl 0 (Or.inl ⟨hv, rfl⟩) 262 K1.2.1.1.2.2.2.1 K1.2.2.2.2.2.2.2.1
  · exact cl 1 (Or.inr ⟨hv, rfl⟩) 265 K1.2.1.2.2.2.2.1 K1.2.2.2.2.2.2.2.2
  · intro σ1 e1
    subst e1
    refine n_isOffice (fun h => absurd h hv) (fun _ => ⟨fun _ => n_raise ?_, fun h => absurd rfl h⟩)
    exact hK _ _ _ ⟨p, p', s, m, h, zLk_W (zLk_t.tr zLk_t) W⟩ (gi_t _ _) (fun e => absurd e (by decide))
