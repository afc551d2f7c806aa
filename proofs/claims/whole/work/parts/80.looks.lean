/-! CALLS: looks -/
theorem c_out {ln : Nat → Nat} {σ : zS} (hl : ln 463 = 1) {r : Int32} {Q : Int32 → zS → Prop} (hq : Q 0 (sl σ 463 0 r.toInt64)) : ∀ x6 : Int64, x6 = r.toInt64 → vp_in (0 : Int32) (ln 463) ∧ ∀ σ8 : zS, σ8 = sl σ 463 (0 : Int32).toNatClampNeg x6 → Q 0 σ8 := by
  intro x6 e6
  rw [hl]
  refine ⟨vp01, fun σ8 e8 => ?_⟩
  subst e6 e8
  exact hq
section ZEND
variable {S : zSp} {σ : zS} {N p p' s m : Nat} {h : Nat → Nat → Int32} {K : Int32 → Int32 → zS → Prop}
theorem zWp.fin (W : zWp S σ N p p' s m h) (hK : zEnd S N K) {r b : Int32} (hb : b = r) : K 0 b (si (sl σ 463 0 r.toInt64) 455 0 0) := hK _ _ _ ⟨p, p', s, m, h, zLk_W (zLk_o.tr zLk_t) W⟩ (gi_t _ _) (fun _ => by rw [gl_o, hb])
theorem zWp.thr (W : zWp S σ N p p' s m h) (hK : zEnd S N K) {k b : Int32} (hk : ¬ k = 0) : K k b (si (si σ 455 0 0) 455 0 k) := hK _ _ _ ⟨p, p', s, m, h, zLk_W (zLk_t.tr zLk_t) W⟩ (gi_t _ _) (fun e => absurd e hk)
theorem zWp.gt (W : zWp S σ N p p' s m h) {K : Int32 → Int32 → zS → Prop} (hK : ∀ r σ', zWd S σ' N → K r r σ') (r : Int32) : K r r (si σ 455 0 0) := hK r _ ⟨p, p', s, m, h, zLk_W zLk_t W⟩
theorem zWp.g3 (W : zWp S σ N p p' s m h) : gr σ 0 3 = some 261 := W.1.1.2.2.2.1
theorem zWp.q1 (W : zWp S σ N p p' s m h) : gr σ 455 1 = some 456 := W.mg.1.1
theorem zWp.v (W : zWp S σ N p p' s m h) {k : Int32} (hk : vp_in k 4763) : vp_in k (zSl S 456) := by rw [W.mg.2.1]; exact hk
end ZEND
theorem row_t (σ : zS) (v : Int32) : gi (si σ 455 0 v) 456 = gi σ 456 := si_out _ _ (by decide)
theorem M_within {ln : Nat → Nat} {σ : zS} (G : zMg (gr σ) ln) (hN : 6 ≤ (gi σ 456 0).toInt ∧ (gi σ 456 0).toInt ≤ 28) {v : Int64} (hv : -1000000000000000 ≤ v.toInt ∧ v.toInt ≤ 1000000000000000) {Q : Int32 → zS → Prop} (hq : Q (mI v.toInt (1000 * (gi σ 456 0).toInt)) σ) : wX12_within ln σ 455 v Q := by
  have := m_within (σ := σ) (r := gi σ 456) (pf := gi σ 460) (n := gi σ 455 7) (far := gi σ 455 9) (Q := Q) G.1.1 G.2.1 hN hv (by rw [zms_self]; exact hq)
  rw [zms_self] at this
  exact this
theorem M_round {ln : Nat → Nat} {σ : zS} (G : zMg (gr σ) ln) {Q : Int32 → zS → Prop} (hq : Q (1000 * gi σ 456 0) σ) : wX12_round ln σ 455 Q := ⟨456, G.1.1, by rw [G.2.1]; exact vq0, hq⟩
theorem L_errorOffset {S : zSp} {σ : zS} {N : Nat} (W : zWd S σ N) {K : Int32 → Int32 → zS → Prop} (hK : ∀ r σ', zWd S σ' N → K r r σ') : wX11_errorOffset (zSl S) σ 0 (fun r2 σ1 => wX12_errorOffset (zSl S) σ1 455 (fun r4 σ3 => K r2 r4 σ3)) := by
  obtain ⟨p, p', s, m, h, W⟩ := W
  have S1 := W.sm
  obtain ⟨⟨m1, m2, m3, m4, m5, m6⟩, ⟨a1, a2, a3, a4, a5, a6, a7, a8, a9⟩, -⟩ := S1
  have K1 := W.km
  have X1 := W.x
  have e : gi σ 0 8 = gi σ 455 14 := W.2.2.2.2.2.2.2.1
  unfold wX11_errorOffset
  rw [e]
  intro σ1 e1
  subst e1
  have e2 : gi (si σ 455 0 0) 455 14 = gi σ 455 14 := by rw [si_at, zu_ne (by decide)]
  rw [e2]
  exact W.gt hK _
theorem L_positions {S : zSp} {σ : zS} {N : Nat} (W : zWd S σ N) {K : Int32 → Int32 → zS → Prop} (hK : ∀ r σ', zWd S σ' N → K r r σ') : wX11_positions (zSl S) σ 0 (fun r2 σ1 => wX12_positions (zSl S) σ1 455 (fun r4 σ3 => K r2 r4 σ3)) := by
  obtain ⟨p, p', s, m, h, W⟩ := W
  have S1 := W.sm
  obtain ⟨⟨m1, m2, m3, m4, m5, m6⟩, ⟨a1, a2, a3, a4, a5, a6, a7, a8, a9⟩, -⟩ := S1
  have K1 := W.km
  have X1 := W.x
  have e : gi σ p 0 = gi σ 456 0 := W.pl.1.1
  refine ⟨p, W.gp, ?_⟩
  rw [e]
  intro σ1 e1
  subst e1
  refine ⟨456, W.q1, W.v vq0, ?_⟩
  rw [cq0, row_t]
  exact W.gt hK _
theorem L_time {S : zSp} {σ : zS} {N : Nat} (W : zWd S σ N) {K : Int32 → Int32 → zS → Prop} (hK : ∀ r σ', zWd S σ' N → K r r σ') : wX11_time (zSl S) σ 0 (fun r2 σ1 => wX12_time (zSl S) σ1 455 (fun r4 σ3 => K r2 r4 σ3)) := by
  obtain ⟨p, p', s, m, h, W⟩ := W
  have S1 := W.sm
  obtain ⟨⟨m1, m2, m3, m4, m5, m6⟩, ⟨a1, a2, a3, a4, a5, a6, a7, a8, a9⟩, -⟩ := S1
  have K1 := W.km
  have X1 := W.x
  have e : gi σ 261 1 = gi σ 456 5 := K1.1.1
  refine ⟨261, W.g3, ?_⟩
  rw [e]
  intro σ1 e1
  subst e1
  refine ⟨456, W.q1, W.v vq5, ?_⟩
  rw [cq5, row_t]
  exact W.gt hK _
theorem L_sender {S : zSp} {σ : zS} {N : Nat} (W : zWd S σ N) {K : Int32 → Int32 → zS → Prop} (hK : ∀ r σ', zWd S σ' N → K r r σ') : wX11_sender (zSl S) σ 0 (fun r2 σ1 => wX12_sender (zSl S) σ1 455 (fun r4 σ3 => K r2 r4 σ3)) := by
  obtain ⟨p, p', s, m, h, W⟩ := W
  have S1 := W.sm
  obtain ⟨⟨m1, m2, m3, m4, m5, m6⟩, ⟨a1, a2, a3, a4, a5, a6, a7, a8, a9⟩, -⟩ := S1
  have K1 := W.km
  have X1 := W.x
  have e : gi σ 261 3 = gi σ 456 6 := K1.1.2.2.1
  refine ⟨261, W.g3, ?_⟩
  rw [e]
  intro σ1 e1
  subst e1
  refine ⟨456, W.q1, W.v vq6, ?_⟩
  rw [cq6, row_t]
  exact W.gt hK _
theorem L_pulses {S : zSp} {σ : zS} {N : Nat} (W : zWd S σ N) {K : Int32 → Int32 → zS → Prop} (hK : ∀ r σ', zWd S σ' N → K r r σ') : wX11_pulses (zSl S) σ 0 (fun r2 σ1 => wX12_pulses (zSl S) σ1 455 (fun r4 σ3 => K r2 r4 σ3)) := by
  obtain ⟨p, p', s, m, h, W⟩ := W
  have S1 := W.sm
  obtain ⟨⟨m1, m2, m3, m4, m5, m6⟩, ⟨a1, a2, a3, a4, a5, a6, a7, a8, a9⟩, -⟩ := S1
  have K1 := W.km
  have X1 := W.x
  have e : gi σ 261 9 = gi σ 456 16 := K1.1.2.2.2.2.2.2.2.2.1
  refine ⟨261, W.g3, ?_⟩
  rw [e]
  intro σ1 e1
  subst e1
  refine ⟨456, W.q1, W.v vq16, ?_⟩
  rw [cq16, row_t]
  exact W.gt hK _
theorem L_lostPulses {S : zSp} {σ : zS} {N : Nat} (W : zWd S σ N) {K : Int32 → Int32 → zS → Prop} (hK : ∀ r σ', zWd S σ' N → K r r σ') : wX11_lostPulses (zSl S) σ 0 (fun r2 σ1 => wX12_lostPulses (zSl S) σ1 455 (fun r4 σ3 => K r2 r4 σ3)) := by
  obtain ⟨p, p', s, m, h, W⟩ := W
  have S1 := W.sm
  obtain ⟨⟨m1, m2, m3, m4, m5, m6⟩, ⟨a1, a2, a3, a4, a5, a6, a7, a8, a9⟩, -⟩ := S1
  have K1 := W.km
  have X1 := W.x
  have e : gi σ 261 10 = gi σ 456 17 := K1.1.2.2.2.2.2.2.2.2.2
  refine ⟨261, W.g3, ?_⟩
  rw [e]
  intro σ1 e1
  subst e1
  refine ⟨456, W.q1, W.v vq17, ?_⟩
  rw [cq17, row_t]
  exact W.gt hK _
theorem L_underWay {S : zSp} {σ : zS} {N : Nat} (W : zWd S σ N) {K : Int32 → Int32 → zS → Prop} (hK : ∀ r σ', zWd S σ' N → K r r σ') : wX11_underWay (zSl S) σ 0 (fun r2 σ1 => wX12_underWay (zSl S) σ1 455 (fun r4 σ3 => K r2 r4 σ3)) := by
  obtain ⟨p, p', s, m, h, W⟩ := W
  have S1 := W.sm
  obtain ⟨⟨m1, m2, m3, m4, m5, m6⟩, ⟨a1, a2, a3, a4, a5, a6, a7, a8, a9⟩, -⟩ := S1
  have K1 := W.km
  have X1 := W.x
  have e : gi σ 271 3 = gi σ 456 19 := (RR_u K1).1
  refine ⟨261, W.g3, 271, m4, ?_⟩
  unfold wX8_size
  rw [e]
  intro σ1 e1
  subst e1
  refine ⟨456, W.q1, W.v vq19, ?_⟩
  rw [cq19, row_t]
  exact W.gt hK _
theorem L_eventCount {S : zSp} {σ : zS} {N : Nat} (W : zWd S σ N) {K : Int32 → Int32 → zS → Prop} (hK : ∀ r σ', zWd S σ' N → K r r σ') : wX11_eventCount (zSl S) σ 0 (fun r2 σ1 => wX12_eventCount (zSl S) σ1 455 (fun r4 σ3 => K r2 r4 σ3)) := by
  obtain ⟨p, p', s, m, h, W⟩ := W
  have S1 := W.sm
  obtain ⟨⟨m1, m2, m3, m4, m5, m6⟩, ⟨a1, a2, a3, a4, a5, a6, a7, a8, a9⟩, -⟩ := S1
  have K1 := W.km
  have X1 := W.x
  have e : gi σ 273 3 = gi σ 456 18 := K1.2.2.2.2.2.1.2.1
  refine ⟨261, W.g3, 273, m5, ?_⟩
  unfold wX8_size
  rw [e]
  intro σ1 e1
  subst e1
  refine ⟨456, W.q1, W.v vq18, ?_⟩
  rw [cq18, row_t]
  exact W.gt hK _
theorem L_sentOfLine {S : zSp} {σ : zS} {N : Nat} (W : zWd S σ N) {K : Int32 → Int32 → zS → Prop} (hK : ∀ r σ', zWd S σ' N → K r r σ') : wX11_sentOfLine (zSl S) σ 0 (fun r2 σ1 => wX12_sentOfLine (zSl S) σ1 455 (fun r4 σ3 => K r2 r4 σ3)) := by
  obtain ⟨p, p', s, m, h, W⟩ := W
  have S1 := W.sm
  obtain ⟨⟨m1, m2, m3, m4, m5, m6⟩, ⟨a1, a2, a3, a4, a5, a6, a7, a8, a9⟩, -⟩ := S1
  have K1 := W.km
  have X1 := W.x
  have e : gi σ 261 6 = gi σ 456 9 := K1.1.2.2.2.2.2.1
  refine ⟨261, W.g3, ?_⟩
  rw [e]
  intro σ1 e1
  subst e1
  refine M_isSender (σ := si σ 455 0 0) W.mg ?_
  rw [row_t]
  by_cases h6 : gi σ 456 6 = -1
  · rw [if_pos h6]
    refine ⟨fun _ => ?_, fun h => absurd rfl h⟩
    rw [(X1.2.2.2.2.2.2.1 h6).2.1]
    exact W.gt hK _
  · rw [if_neg h6]
    refine ⟨fun h => absurd h (by decide), fun _ => ⟨456, W.q1, W.v vq9, ?_⟩⟩
    rw [cq9, row_t]
    exact W.gt hK _
theorem L_repetition {S : zSp} {σ : zS} {N : Nat} (W : zWd S σ N) {K : Int32 → Int32 → zS → Prop} (hK : ∀ r σ', zWd S σ' N → K r r σ') : wX11_repetition (zSl S) σ 0 (fun r2 σ1 => wX12_repetition (zSl S) σ1 455 (fun r4 σ3 => K r2 r4 σ3)) := by
  obtain ⟨p, p', s, m, h, W⟩ := W
  have S1 := W.sm
  obtain ⟨⟨m1, m2, m3, m4, m5, m6⟩, ⟨a1, a2, a3, a4, a5, a6, a7, a8, a9⟩, -⟩ := S1
  have K1 := W.km
  have X1 := W.x
  have e : gi σ 261 7 = gi σ 456 10 := K1.1.2.2.2.2.2.2.1
  refine ⟨261, W.g3, ?_⟩
  rw [e]
  intro σ1 e1
  subst e1
  refine M_isSender (σ := si σ 455 0 0) W.mg ?_
  rw [row_t]
  by_cases h6 : gi σ 456 6 = -1
  · rw [if_pos h6]
    refine ⟨fun _ => ?_, fun h => absurd rfl h⟩
    rw [(X1.2.2.2.2.2.2.1 h6).2.2.1]
    exact W.gt hK _
  · rw [if_neg h6]
    refine ⟨fun h => absurd h (by decide), fun _ => ⟨456, W.q1, W.v vq10, ?_⟩⟩
    rw [cq10, row_t]
    exact W.gt hK _
theorem L_bufferLength {S : zSp} {σ : zS} {N : Nat} (W : zWd S σ N) {K : Int32 → Int32 → zS → Prop} (hK : ∀ r σ', zWd S σ' N → K r r σ') : wX11_bufferLength (zSl S) σ 0 (fun r2 σ1 => wX12_bufferLength (zSl S) σ1 455 (fun r4 σ3 => K r2 r4 σ3)) := by
  obtain ⟨p, p', s, m, h, W⟩ := W
  have S1 := W.sm
  obtain ⟨⟨m1, m2, m3, m4, m5, m6⟩, ⟨a1, a2, a3, a4, a5, a6, a7, a8, a9⟩, -⟩ := S1
  have K1 := W.km
  have X1 := W.x
  have e : gi σ 269 1 = gi σ 456 11 := K1.2.2.2.1.2.2.2.1
  refine ⟨261, W.g3, 268, m3, 269, a5, ?_⟩
  unfold wX9_size
  rw [e]
  intro σ1 e1
  subst e1
  refine M_isSender (σ := si σ 455 0 0) W.mg ?_
  rw [row_t]
  by_cases h6 : gi σ 456 6 = -1
  · rw [if_pos h6]
    refine ⟨fun _ => ?_, fun h => absurd rfl h⟩
    rw [(X1.2.2.2.2.2.2.1 h6).2.2.2.1]
    exact W.gt hK _
  · rw [if_neg h6]
    refine ⟨fun h => absurd h (by decide), fun _ => ⟨456, W.q1, W.v vq11, ?_⟩⟩
    rw [cq11, row_t]
    exact W.gt hK _
theorem L_isWaiting {S : zSp} {σ : zS} {N : Nat} (W : zWd S σ N) {K : Int32 → Int32 → zS → Prop} (hK : ∀ r σ', zWd S σ' N → K r r σ') : wX11_isWaiting (zSl S) σ 0 (fun r2 σ1 => wX12_isWaiting (zSl S) σ1 455 (fun r4 σ3 => K r2 r4 σ3)) := by
  obtain ⟨p, p', s, m, h, W⟩ := W
  have S1 := W.sm
  obtain ⟨⟨m1, m2, m3, m4, m5, m6⟩, ⟨a1, a2, a3, a4, a5, a6, a7, a8, a9⟩, -⟩ := S1
  have K1 := W.km
  have X1 := W.x
  have e : gi σ 261 4 = gi σ 456 7 := K1.1.2.2.2.1
  refine ⟨261, W.g3, fun x2 e2 => ?_⟩
  rw [e] at e2
  subst e2
  refine ⟨W.w.w, ?_⟩
  intro σ1 e1
  subst e1
  refine M_isSender (σ := si σ 455 0 0) W.mg ?_
  rw [row_t]
  by_cases h6 : gi σ 456 6 = -1
  · rw [if_pos h6]
    refine ⟨fun _ => ?_, fun h => absurd rfl h⟩
    rw [(X1.2.2.2.2.2.2.1 h6).1]
    exact W.gt hK _
  · rw [if_neg h6]
    refine ⟨fun h => absurd h (by decide), fun _ => ⟨456, W.q1, W.v vq7, ?_⟩⟩
    rw [cq7, row_t]
    refine ⟨fun h7 => ?_, fun h7 => ?_⟩
    · rw [h7]; exact W.gt hK _
    · rw [W.w.w.elim id (fun e => absurd e h7)]; exact W.gt hK _
theorem L_silence {S : zSp} {σ : zS} {N : Nat} (W : zWd S σ N) {K : Int32 → Int32 → zS → Prop} (hK : ∀ r σ', zWd S σ' N → K r r σ') : wX11_silence (zSl S) σ 0 (fun r2 σ1 => wX12_silence (zSl S) σ1 455 (fun r4 σ3 => K r2 r4 σ3)) := by
  obtain ⟨p, p', s, m, h, W⟩ := W
  have S1 := W.sm
  obtain ⟨⟨m1, m2, m3, m4, m5, m6⟩, ⟨a1, a2, a3, a4, a5, a6, a7, a8, a9⟩, -⟩ := S1
  have K1 := W.km
  have X1 := W.x
  have e3 : gi σ 261 3 = gi σ 456 6 := K1.1.2.2.1
  have e1 : gi σ 261 1 = gi σ 456 5 := K1.1.1
  have e8 : gi σ 261 8 = gi σ 456 15 := K1.1.2.2.2.2.2.2.2.1
  have md : ∀ r : Int32, (r = if gi σ 456 6 = -1 then 0 else gi σ 456 5 - gi σ 456 15) → wX12_silence (zSl S) σ 455 (fun r4 σ3 => K r r4 σ3) := by
    intro r er σ1 e1
    subst e1
    refine M_isSender (σ := si σ 455 0 0) W.mg ?_
    rw [row_t]
    by_cases h6 : gi σ 456 6 = -1
    · rw [if_pos h6] at er ⊢
      refine ⟨fun _ => ?_, fun h => absurd rfl h⟩
      rw [er]
      exact W.gt hK _
    · rw [if_neg h6] at er ⊢
      refine ⟨fun h => absurd h (by decide), fun _ => ⟨456, W.q1, W.v vq5, 456, W.q1, W.v vq15, ?_⟩⟩
      rw [cq5, cq15, row_t, er]
      exact W.gt hK _
  refine ⟨261, W.g3, ?_⟩
  rw [e3]
  refine ⟨fun h6 => md 0 (by rw [if_pos h6]), fun h6 => ⟨261, W.g3, ?_⟩⟩
  unfold wX3_silentTicks
  rw [e1, e8]
  exact md _ (by rw [if_neg h6])
theorem L_lead {S : zSp} {σ : zS} {N : Nat} (W : zWd S σ N) {K : Int32 → Int32 → zS → Prop} (hK : ∀ r σ', zWd S σ' N → K r r σ') : wX11_lead (zSl S) σ 0 (fun r2 σ1 => wX12_lead (zSl S) σ1 455 (fun r4 σ3 => K r2 r4 σ3)) := by
  obtain ⟨p, p', s, m, h, W⟩ := W
  have S1 := W.sm
  obtain ⟨⟨m1, m2, m3, m4, m5, m6⟩, ⟨a1, a2, a3, a4, a5, a6, a7, a8, a9⟩, -⟩ := S1
  have K1 := W.km
  have X1 := W.x
  have hN := W.w.N
  have hd := W.w.d
  have hp0 := W.w.p0
  have hp1 := W.w.p1
  have hr1 := W.w.r1
  have f0 : gi σ 262 0 = gi σ 456 21 := K1.2.1.1.1
  have f1 : gi σ 265 0 = gi σ 456 22 := K1.2.1.2.1
  have f2 : gi σ 265 1 = gi σ 456 24 := K1.2.1.2.2.1
  have pn : gi σ p 0 = gi σ 456 0 := W.pl.1.1
  have pd : gi σ p 1 = gi σ 456 1 := W.pl.1.2.1
  have t1 : (1000 : Int32).toInt = 1000 := rfl
  have t2 : (2 : Int32).toInt = 2 := rfl
  have eN : (1000 * gi σ 456 0).toInt = 1000 * (gi σ 456 0).toInt := by rw [nmul (by rw [t1]; omega) (by rw [t1]; omega), t1]
  have eh : (1000 * gi σ 456 0 / 2).toInt = 500 * (gi σ 456 0).toInt := by rw [ndiv (by rw [eN]; omega) (by rw [t2]; omega), eN, t2]; omega
  have hpr : 10 ≤ (gi σ 456 1).toInt * (gi σ 456 24).toInt ∧ (gi σ 456 1).toInt * (gi σ 456 24).toInt ≤ 50000 := by
    have x1 : 1 * 10 ≤ (gi σ 456 1).toInt * (gi σ 456 24).toInt := Int.mul_le_mul hd.1 hr1.1 (by decide) (by omega)
    have x2 : (gi σ 456 1).toInt * (gi σ 456 24).toInt ≤ 50 * 999 := Int.mul_le_mul hd.2 hr1.2 (by omega) (by decide)
    omega
  have em : (gi σ 456 1 * gi σ 456 24).toInt = (gi σ 456 1).toInt * (gi σ 456 24).toInt := nmul (by omega) (by omega)
  have ea : (gi σ 456 22 + gi σ 456 1 * gi σ 456 24).toInt = (gi σ 456 22).toInt + (gi σ 456 1).toInt * (gi σ 456 24).toInt := by rw [nadd (by rw [em]; omega) (by rw [em]; omega), em]
  have eb : (gi σ 456 22 + gi σ 456 1 * gi σ 456 24 - gi σ 456 21).toInt = (gi σ 456 22).toInt + (gi σ 456 1).toInt * (gi σ 456 24).toInt - (gi σ 456 21).toInt := by rw [nsub (by rw [ea]; omega) (by rw [ea]; omega), ea]
  have ec : (gi σ 456 22 + gi σ 456 1 * gi σ 456 24 - gi σ 456 21 + 1000 * gi σ 456 0 / 2).toInt = (gi σ 456 22).toInt + (gi σ 456 1).toInt * (gi σ 456 24).toInt - (gi σ 456 21).toInt + 500 * (gi σ 456 0).toInt := by rw [nadd (by rw [eb, eh]; omega) (by rw [eb, eh]; omega), eb, eh]
  have e64 : (((gi σ 456 22).toInt64 + (gi σ 456 1).toInt64 * (gi σ 456 24).toInt64) - (gi σ 456 21).toInt64).toInt = (gi σ 456 22).toInt + (gi σ 456 1).toInt * (gi σ 456 24).toInt - (gi σ 456 21).toInt := by
    have y1 : ((gi σ 456 1).toInt64 * (gi σ 456 24).toInt64).toInt = (gi σ 456 1).toInt * (gi σ 456 24).toInt := by
      rw [Int64.toInt_mul, n64, n64]
      exact nbm64 (by omega) (by omega)
    have y2 : ((gi σ 456 22).toInt64 + (gi σ 456 1).toInt64 * (gi σ 456 24).toInt64).toInt = (gi σ 456 22).toInt + (gi σ 456 1).toInt * (gi σ 456 24).toInt := by
      rw [Int64.toInt_add, y1, n64]
      exact nbm64 (by omega) (by omega)
    rw [Int64.toInt_sub, y2, n64]
    exact nbm64 (by omega) (by omega)
  generalize hA : (gi σ 456 22).toInt + (gi σ 456 1).toInt * (gi σ 456 24).toInt - (gi σ 456 21).toInt = A at eb ec e64
  have hcl : ∀ r : Int32, r = mI (A + 500 * (gi σ 456 0).toInt) (1000 * (gi σ 456 0).toInt) - 1000 * gi σ 456 0 / 2 → (if mI A (1000 * (gi σ 456 0).toInt) < 1000 * gi σ 456 0 / 2 then mI A (1000 * (gi σ 456 0).toInt) else mI A (1000 * (gi σ 456 0).toInt) - 1000 * gi σ 456 0) = r := by
    intro r er
    have hP : 0 < 1000 * (gi σ 456 0).toInt := by omega
    have v1 := mIt (v := A) hP (by omega)
    have v2 := mIt (v := A + 500 * (gi σ 456 0).toInt) hP (by omega)
    have w1 := Int.emod_nonneg A (show 1000 * (gi σ 456 0).toInt ≠ 0 by omega)
    have w2 := Int.emod_lt_of_pos A hP
    have w3 : (A + 500 * (gi σ 456 0).toInt) % (1000 * (gi σ 456 0).toInt) = (A % (1000 * (gi σ 456 0).toInt) + 500 * (gi σ 456 0).toInt) % (1000 * (gi σ 456 0).toInt) := (Int.emod_add_emod A (1000 * (gi σ 456 0).toInt) (500 * (gi σ 456 0).toInt)).symm
    rw [w3] at v2
    generalize A % (1000 * (gi σ 456 0).toInt) = V at v1 v2 w1 w2
    rw [neq, er]
    by_cases hc : V < 500 * (gi σ 456 0).toInt
    · rw [Int.emod_eq_of_lt (by omega) (by omega)] at v2
      rw [if_pos (by rw [nlt, v1, eh]; exact hc), nsub (by rw [v2, eh]; omega) (by rw [v2, eh]; omega), v1, v2, eh]
      omega
    · have e9 : V + 500 * (gi σ 456 0).toInt = (V - 500 * (gi σ 456 0).toInt) + 1000 * (gi σ 456 0).toInt * 1 := by omega
      rw [e9, Int.add_mul_emod_self_left, Int.emod_eq_of_lt (by omega) (by omega)] at v2
      rw [if_neg (by rw [nlt, v1, eh]; exact hc), nsub (by rw [v1, eN]; omega) (by rw [v1, eN]; omega), nsub (by rw [v2, eh]; omega) (by rw [v2, eh]; omega), v1, v2, eh, eN]
      omega
  simp only [wX11_lead, W.g3, W.gp, m1, m2, Option.some.injEq, exists_eq_left', wX6_circle, f0, f1, f2, pn, pd, forall_eq]
  refine wmodulo (by omega) ?_
  rw [ec, eN]
  have hcl2 := hcl _ rfl
  generalize mI (A + 500 * (gi σ 456 0).toInt) (1000 * (gi σ 456 0).toInt) - 1000 * gi σ 456 0 / 2 = r at hcl2 ⊢
  intro σ1 e1
  subst e1
  refine ⟨456, W.q1, W.v vq22, 456, W.q1, W.v vq1, 456, W.q1, W.v vq24, 456, W.q1, W.v vq21, fun x10 e10 => ?_⟩
  rw [cq22, cq1, cq24, cq21, row_t] at e10
  subst e10
  refine M_within (σ := si σ 455 0 0) W.mg (by rw [row_t]; exact hN) (by rw [e64]; omega) ?_
  rw [e64, row_t]
  refine M_round (σ := si σ 455 0 0) W.mg ?_
  rw [row_t]
  refine ⟨fun hc => ?_, fun hc => M_round (σ := si σ 455 0 0) W.mg ?_⟩
  · rw [if_pos hc] at hcl2
    rw [hcl2]; exact W.gt hK _
  · rw [row_t]
    rw [if_neg hc] at hcl2
    rw [hcl2]; exact W.gt hK _
