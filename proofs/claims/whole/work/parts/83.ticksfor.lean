/-! CALLS: ticks for lines, the next pulse -/
theorem zdropc {l : List Int32} {k : Nat} {x : Int32} {t : List Int32} (h : l.drop k = x :: t) : k < l.length ∧ l.getD k 0 = x ∧ l.drop (k + 1) = t := by
  have h1 : (l.drop k)[0]? = some x := by rw [h]; rfl
  rw [List.getElem?_drop, Nat.add_zero] at h1
  refine ⟨(List.getElem?_eq_some_iff.mp h1).1, ?_, ?_⟩
  · rw [List.getD_eq_getElem?_getD, h1]; rfl
  · have : (l.drop k).drop 1 = t := by rw [h]; rfl
    rw [List.drop_drop] at this
    exact this
theorem C_send20 {ln : Nat → Nat} {σ : zS} {a c c' a2 : Nat} {pa : List Int32} {circ rt : Int32} (g1 : gr σ a 1 = some c) (g0 : gr σ c 0 = some c') (l : ln c' = 62) (hm : gi σ c 1 = nI pa.length) (hl : pa.length ≤ 62) (he : ∀ j, j < pa.length → gi σ c' j = pa.getD j 0) (hb : ∀ j, j < pa.length → 0 ≤ (pa.getD j 0).toInt ∧ (pa.getD j 0).toInt < 28) (hr : gi σ a2 1 = rt) (hrt : 10 ≤ rt.toInt ∧ rt.toInt ≤ 999) (hc : 6000 ≤ circ.toInt ∧ circ.toInt ≤ 28000) {Q : Int32 → zS → Prop} :
    ∀ (t : List Int32) (k : Nat) (ph : Int32) (acc : Int), pa.drop k = t → k ≤ pa.length → (0 ≤ ph.toInt ∧ ph.toInt < circ.toInt) → 0 ≤ acc ∧ acc ≤ 2900 * k → Q (iI (acc + tkS rt.toInt circ.toInt t ph.toInt)) σ → wX11_ticksToSend_20 ln Q (t.length + 1) a a2 circ ph (iI acc) (nI k) σ
  | [], k, ph, acc, hd, hkl, hp, ha, hq => by
    have hk : pa.length ≤ k := List.drop_eq_nil_iff.mp hd
    have e : tkS rt.toInt circ.toInt [] ph.toInt = 0 := rfl
    rw [e, Int.add_zero] at hq
    refine ⟨c, g1, ?_⟩
    unfold wX9_size
    rw [hm]
    exact ⟨fun _ => hq, fun h => absurd (nI_le hk (by omega)) h⟩
  | x :: t, k, ph, acc, hd, hkl, hp, ha, hq => by
    obtain ⟨hk, hx, hd2⟩ := zdropc hd
    have hxb := hb k hk
    rw [hx] at hxb
    obtain ⟨b1, b2, b3, b4⟩ := pTk_b (pos := x.toInt) (ph := ph.toInt) (rt := rt.toInt) (P := circ.toInt) (by omega) hrt
    have ei := iIt (v := pTk x.toInt ph.toInt rt.toInt circ.toInt) (by omega) (by omega)
    have em : (iI (pTk x.toInt ph.toInt rt.toInt circ.toInt) * rt).toInt = pTk x.toInt ph.toInt rt.toInt circ.toInt * rt.toInt := by rw [nmul (by rw [ei]; omega) (by rw [ei]; omega), ei]
    have es : (ph + iI (pTk x.toInt ph.toInt rt.toInt circ.toInt) * rt).toInt = ph.toInt + pTk x.toInt ph.toInt rt.toInt circ.toInt * rt.toInt := by rw [nadd (by rw [em]; omega) (by rw [em]; omega), em]
    refine ⟨c, g1, ?_⟩
    unfold wX9_size
    rw [hm]
    refine ⟨fun h => absurd h (nI_ge hk (by omega)), fun _ => ⟨c, g1, ?_⟩⟩
    refine w_rget g0 l (by decide) hm hl rfl hk (fun x7 e7 => ?_)
    rw [he k hk, hx]
    rw [hr] at e7
    rw [e7]
    refine C_pass hxb (by omega) hrt hc (fun x10 e10 => ?_)
    rw [hr] at e10
    subst e10
    refine wmodulo (by omega) (fun x13 e13 x14 e14 => ?_)
    subst e13 e14
    rw [es, nI_1, iI_add (by omega) (by omega)]
    have hmt := mIt (v := ph.toInt + pTk x.toInt ph.toInt rt.toInt circ.toInt * rt.toInt) (n := circ.toInt) (by omega) (by omega)
    refine C_send20 g1 g0 l hm hl he hb hr hrt hc t (k + 1) _ _ hd2 (by omega) ⟨mI_lo (by omega) (by omega), mI_hi (by omega) (by omega)⟩ (by omega) ?_
    rw [hmt]
    have e : tkS rt.toInt circ.toInt (x :: t) ph.toInt = pTk x.toInt ph.toInt rt.toInt circ.toInt + tkS rt.toInt circ.toInt t ((ph.toInt + pTk x.toInt ph.toInt rt.toInt circ.toInt * rt.toInt) % circ.toInt) := rfl
    rw [e, ← Int.add_assoc] at hq
    exact hq
theorem M_of33 {ln : Nat → Nat} {σ : zS} (G : zMg (gr σ) ln) (hN : 6 ≤ (gi σ 456 0).toInt ∧ (gi σ 456 0).toInt ≤ 28) {pa : List Int32} {rt : Int32} (hm : gi σ 455 7 = nI pa.length) (hl : pa.length ≤ 62) (he : zpre (gi σ 460) pa) (hb : ∀ j, j < pa.length → 0 ≤ (pa.getD j 0).toInt ∧ (pa.getD j 0).toInt < 28) (hrt : 10 ≤ rt.toInt ∧ rt.toInt ≤ 999) {Q : Int32 → zS → Prop} :
    ∀ (t : List Int32) (k : Nat) (ph : Int32) (acc : Int), pa.drop k = t → k ≤ pa.length → (0 ≤ ph.toInt ∧ ph.toInt < 1000 * (gi σ 456 0).toInt) → 0 ≤ acc ∧ acc ≤ 2900 * k → Q (iI (acc + tkS rt.toInt (1000 * (gi σ 456 0).toInt) t ph.toInt)) σ → wX12_ticksOf_33 ln Q (t.length + 1) 455 ph rt (iI acc) (nI k) σ
  | [], k, ph, acc, hd, hkl, hp, ha, hq => by
    have hk : pa.length ≤ k := List.drop_eq_nil_iff.mp hd
    have e : tkS rt.toInt (1000 * (gi σ 456 0).toInt) [] ph.toInt = 0 := rfl
    rw [e, Int.add_zero] at hq
    rw [wX12_ticksOf_33, hm]
    exact ⟨fun _ => hq, fun h => absurd (nI_le hk (by omega)) h⟩
  | x :: t, k, ph, acc, hd, hkl, hp, ha, hq => by
    obtain ⟨hk, hx, hd2⟩ := zdropc hd
    have hxb := hb k hk
    rw [hx] at hxb
    obtain ⟨b1, b2, b3, b4⟩ := pTk_b (pos := x.toInt) (ph := ph.toInt) (rt := rt.toInt) (P := 1000 * (gi σ 456 0).toInt) (by omega) hrt
    have ei := iIt (v := pTk x.toInt ph.toInt rt.toInt (1000 * (gi σ 456 0).toInt)) (by omega) (by omega)
    have hmt := mIt (v := ph.toInt + pTk x.toInt ph.toInt rt.toInt (1000 * (gi σ 456 0).toInt) * rt.toInt) (n := 1000 * (gi σ 456 0).toInt) (by omega) (by omega)
    have e : tkS rt.toInt (1000 * (gi σ 456 0).toInt) (x :: t) ph.toInt = pTk x.toInt ph.toInt rt.toInt (1000 * (gi σ 456 0).toInt) + tkS rt.toInt (1000 * (gi σ 456 0).toInt) t ((ph.toInt + pTk x.toInt ph.toInt rt.toInt (1000 * (gi σ 456 0).toInt) * rt.toInt) % (1000 * (gi σ 456 0).toInt)) := rfl
    rw [e, ← Int.add_assoc] at hq
    rw [wX12_ticksOf_33, hm]
    refine ⟨fun h => absurd h (nI_ge hk (by omega)), fun _ => ⟨460, G.1.2.2.2.2.1, by rw [G.2.2.2.2.2.1]; exact vp_in_nI (by omega) (by omega), fun x3 e3 => ?_⟩⟩
    rw [nI_clamp (by omega), he k hk, hx] at e3
    rw [e3]
    refine M_pass G hN hxb (by omega) hrt (fun x6 e6 x7 e7 => ?_)
    subst e6 e7
    have ey : (ph.toInt64 + (iI (pTk x.toInt ph.toInt rt.toInt (1000 * (gi σ 456 0).toInt))).toInt64 * rt.toInt64).toInt = ph.toInt + pTk x.toInt ph.toInt rt.toInt (1000 * (gi σ 456 0).toInt) * rt.toInt := by
      have y1 : ((iI (pTk x.toInt ph.toInt rt.toInt (1000 * (gi σ 456 0).toInt))).toInt64 * rt.toInt64).toInt = pTk x.toInt ph.toInt rt.toInt (1000 * (gi σ 456 0).toInt) * rt.toInt := by
        rw [Int64.toInt_mul, n64, n64, ei]
        exact nbm64 (by omega) (by omega)
      rw [Int64.toInt_add, y1, n64]
      exact nbm64 (by omega) (by omega)
    refine M_within G hN (by rw [ey]; omega) (fun x10 e10 => ?_)
    subst e10
    rw [ey, nI_1, iI_add (by omega) (by omega)]
    refine M_of33 G hN hm hl he hb hrt t (k + 1) _ _ hd2 (by omega) ⟨mI_lo (by omega) (by omega), mI_hi (by omega) (by omega)⟩ (by omega) ?_
    rw [hmt]
    exact hq
/-- the ticks for a line -/
def rTf (r : Nat → Int32) (q k : Nat) : Int := tkS (r (23 + q)).toInt (1000 * (r 0).toInt) (rPath r (12 * q + k)) (r (21 + q)).toInt
theorem zW.rt {r : Nat → Int32} (h : zW r) {q : Nat} (hq : q ≤ 1) : 10 ≤ (r (23 + q)).toInt ∧ (r (23 + q)).toInt ≤ 999 := by
  rcases (show q = 0 ∨ q = 1 by omega) with rfl | rfl
  · exact h.r0
  · exact h.r1
theorem zW.ph2 {r : Nat → Int32} (h : zW r) {q : Nat} (hq : q ≤ 1) : 0 ≤ (r (21 + q)).toInt ∧ (r (21 + q)).toInt < 1000 * (r 0).toInt := by
  rcases (show q = 0 ∨ q = 1 by omega) with rfl | rfl
  · exact h.p0
  · exact h.p1
theorem rTf_b {r : Nat → Int32} (h : zW r) {q k : Nat} (hq : q ≤ 1) (hk : k < 12) : 0 ≤ rTf r q k ∧ rTf r q k ≤ 179800 := by
  have hN := h.N
  have h1 := tkS_b (rt := (r (23 + q)).toInt) (P := 1000 * (r 0).toInt) (by omega) (h.rt hq) (rPath r (12 * q + k)) (r (21 + q)).toInt
  have h2 := rPath_len h (a := 12 * q + k) (by omega)
  unfold rTf
  omega
theorem zWp.hQ {S : zSp} {σ : zS} {N p p' s m : Nat} {h : Nat → Nat → Int32} (W : zWp S σ N p p' s m h) : zQp (gi σ 456) := W.x.2.2.2.2.2.2.2.2
theorem C_toSend {S : zSp} {σ : zS} {N p p' s m : Nat} {h : Nat → Nat → Int32} (W : zWp S σ N p p' s m h) {q k : Nat} (hq : q ≤ 1) (hk : k < 12) (hk2 : (k : Int) < (gi σ 456 (25 + q)).toInt) {Q : Int32 → zS → Prop} (hQ : Q (iI (rTf (gi σ 456) q k)) σ) : wX11_ticksToSend (zSl S) σ 0 (p + 5 + 62 * q + 5 * k) (262 + 3 * q) Q := by
  have hN := W.w.N
  have K1 := W.km
  obtain ⟨x1, x2, x3, x4, x5, x6, x7⟩ := W.ln (show q < 2 by omega) hk hk2
  have pn : gi σ p 0 = gi σ 456 0 := W.pl.1.1
  have tk : (1000 : Int32).toInt = 1000 := rfl
  have eN : (1000 * gi σ 456 0).toInt = 1000 * (gi σ 456 0).toInt := by rw [nmul (by rw [tk]; omega) (by rw [tk]; omega), tk]
  have e0 : gi σ (262 + 3 * q) 0 = gi σ 456 (21 + q) := by
    rcases (show q = 0 ∨ q = 1 by omega) with rfl | rfl
    · exact K1.2.1.1.1
    · exact K1.2.1.2.1
  have e1 : gi σ (262 + 3 * q) 1 = gi σ 456 (23 + q) := by
    rcases (show q = 0 ∨ q = 1 by omega) with rfl | rfl
    · exact K1.2.1.1.2.1
    · exact K1.2.1.2.2.1
  refine ⟨p, W.gp, ?_⟩
  unfold wX6_circle
  rw [pn]
  intro x4' e4
  rw [e0] at e4
  subst e4
  refine ⟨_, C_send20 (pa := rPath (gi σ 456) (12 * q + k)) x1 x2 x3 x4 x7 x5 (fun j hj => W.hQ q (by omega) k hk hk2 j hj) e1 (W.w.rt hq) (by omega) (rPath (gi σ 456) (12 * q + k)) 0 _ 0 rfl (Nat.zero_le _) (by have := W.w.ph2 hq; omega) ⟨Int.le_refl 0, Int.le_refl 0⟩ ?_⟩
  rw [eN, Int.zero_add]
  exact hQ
theorem M_ticksOf {ln : Nat → Nat} {σ : zS} (G : zMg (gr σ) ln) (hW : zW (gi σ 456)) (hQp : zQp (gi σ 456)) {v w : Int32} {q k : Nat} (hq : v = 0 ∧ q = 0 ∨ v = 1 ∧ q = 1) (hw : w = nI k) (hk : k < 12) (hk2 : (k : Int) < (gi σ 456 (25 + q)).toInt) {Q : Int32 → zS → Prop} (hQ : ∀ σ', gi σ' 456 = gi σ 456 → zMf σ σ' → Q (iI (rTf (gi σ 456) q k)) σ') : wX12_ticksOf ln σ 455 v w Q := by
  have hN := hW.N
  have hl := rPath_len hW (a := 12 * q + k) (by omega)
  refine M_finds G hW hq hw hk (fun σ' r1 r2 r3 r4 => ?_)
  refine ⟨456, by rw [r2.r]; exact G.1.1, fun x3 e3 => ?_⟩
  subst e3
  refine ⟨by rw [G.2.1]; exact (oix hq 21 (by decide)).2, fun x5 e5 => ⟨456, by rw [r2.r]; exact G.1.1, fun x7 e7 => ?_⟩⟩
  rw [show ((21 : Int32) + v).toNatClampNeg = 21 + q from (oix hq 21 (by decide)).1, r1] at e5
  subst e7
  refine ⟨by rw [G.2.1]; exact (oix hq 23 (by decide)).2, fun x9 e9 => ?_⟩
  rw [show ((23 : Int32) + v).toNatClampNeg = 23 + q from (oix hq 23 (by decide)).1, r1] at e9
  subst e5 e9
  refine ⟨_, M_of33 (pa := rPath (gi σ 456) (12 * q + k)) (by rw [r2.r]; exact G) (by rw [r1]; exact hN) r3 hl.2 r4 (fun j hj => hQp q (by omega) k hk hk2 j hj) (hW.rt (by omega)) (rPath (gi σ 456) (12 * q + k)) 0 _ 0 rfl (Nat.zero_le _) (by rw [r1]; exact hW.ph2 (by omega)) ⟨Int.le_refl 0, Int.le_refl 0⟩ ?_⟩
  rw [r1, Int.zero_add]
  exact hQ σ' r1 r2
theorem L_ticksFor {S : zSp} {σ : zS} {N : Nat} (W : zWd S σ N) {v w : Int32} {K : Int32 → Int32 → zS → Prop} (hK : zEnd S N K) : wL_ticksFor (zSl S) σ 0 v w 463 (fun r5 σ4 => wX12_ticksFor (zSl S) σ4 455 v w (fun r10 σ9 => K r5 r10 σ9)) := by
  obtain ⟨p, p', s, m, h, W⟩ := W
  have S1 := W.sm
  obtain ⟨⟨m1, m2, m3, m4, m5, m6⟩, ⟨a1, a2, a3, a4, a5, a6, a7, a8, a9⟩, ⟨l1, l2, l3, l4, l5, l6⟩⟩ := S1
  have K1 := W.km
  have X1 := W.x
  have OUT : ∀ r : Int32, wX12_ticksFor (zSl S) (sl σ 463 0 r.toInt64) 455 v w (fun r10 σ9 => K 0 r10 σ9) → ∀ x6 : Int64, x6 = r.toInt64 → vp_in (0 : Int32) (zSl S 463) ∧ ∀ σ8 : zS, σ8 = sl σ 463 (0 : Int32).toNatClampNeg x6 → wX12_ticksFor (zSl S) σ8 455 v w (fun r10 σ9 => K 0 r10 σ9) := fun r hq => c_out (σ := σ) W.l463 (Q := fun r5 σ4 => wX12_ticksFor (zSl S) σ4 455 v w (fun r10 σ9 => K r5 r10 σ9)) hq
  unfold wL_ticksFor wxX11_ticksFor
  refine c_lineAt W (fun q k hq hw hk hk2 => ?_) (fun hn => ⟨rfl, ?_⟩)
  · have fin : wX12_ticksFor (zSl S) (sl σ 463 0 (iI (rTf (gi σ 456) q k)).toInt64) 455 v w (fun r10 σ9 => K 0 r10 σ9) := by
      intro σ1 e1
      subst e1
      refine n_isLine (σ := si (sl σ 463 0 _) 455 0 0) W.mg (by rw [row_t]; exact W.w) (fun q' k' hq' hw' hk' _ => ⟨fun h => absurd h (by decide), fun _ => ?_⟩) (fun hx => absurd ⟨q, k, hq, hw, hk, by rw [row_t]; exact hk2⟩ hx)
      refine M_ticksOf (σ := si (sl σ 463 0 _) 455 0 0) W.mg (by rw [row_t]; exact W.w) (by rw [row_t]; exact W.hQ) hq hw hk (by rw [row_t]; exact hk2) (fun σ' r1 r2 => ?_)
      rw [row_t] at r1 ⊢
      exact W.fin2 hK rfl r2 r1
    rcases hq with ⟨hv, rfl⟩ | ⟨hv, rfl⟩
    · exact c_office W.st (fun _ => C_toSend W (q := 0) (by decide) hk hk2 (OUT _ fin)) (fun h => by rw [hv] at h; exact absurd h (by decide)) (fun h => absurd (Or.inl hv) h)
    · exact c_office W.st (fun h => by rw [hv] at h; exact absurd h (by decide)) (fun _ => C_toSend W (q := 1) (by decide) hk hk2 (OUT _ fin)) (fun h => absurd (Or.inr hv) h)
  · intro σ1 e1
    subst e1
    exact n_isLine (σ := si σ 455 0 0) W.mg (by rw [row_t]; exact W.w) (fun q' k' hq' hw' hk' hk2 => absurd ⟨q', k', hq', hw', hk', by rw [row_t] at hk2; exact hk2⟩ hn) (fun _ => ⟨fun _ => n_raise (W.thr hK (by decide)), fun h => absurd rfl h⟩)
/-- the slowest of lines -/
def slo (t : Nat → Int) : Nat → Nat → Int32 × Int → Int32 × Int
  | 0, _, s => s
  | d + 1, k, s => slo t d (k + 1) (if t k ≤ s.2 then s else (nI k, t k))
theorem iI_le {a b : Int} (ha : -1000000 ≤ a ∧ a ≤ 1000000) (hb : -1000000 ≤ b ∧ b ≤ 1000000) : iI a ≤ iI b ↔ a ≤ b := by
  rw [nle, iIt (by omega) (by omega), iIt (by omega) (by omega)]
theorem C_slow17 {S : zSp} {σ : zS} {N p p' s m : Nat} {h : Nat → Nat → Int32} (W : zWp S σ N p p' s m h) {v : Int32} {q : Nat} (hq : v = 0 ∧ q = 0 ∨ v = 1 ∧ q = 1) {cnt : Nat} (hc : (cnt : Int) = (gi σ 456 (25 + q)).toInt) (hc2 : cnt ≤ 12) {Q : Int32 → zS → Prop} {X : String → zS → Prop} : ∀ (d k : Nat) (b : Int32) (mo : Int), k + d = cnt → -1 ≤ mo ∧ mo ≤ 179800 → Q (slo (rTf (gi σ 456) q) d k (b, mo)).1 σ → wxX11_slowestLine_17 (zSl S) Q X (d + 1) 0 v (nI cnt) b (iI mo) (nI k) σ
  | 0, k, b, mo, hk, hm, hQ => by
    have e : nI cnt ≤ nI k := nI_le (by omega) (by omega)
    rw [wxX11_slowestLine_17]
    exact ⟨fun _ => hQ, fun h => absurd e h⟩
  | d + 1, k, b, mo, hk, hm, hQ => by
    have e : ¬ nI cnt ≤ nI k := nI_ge (by omega) (by omega)
    have hb := rTf_b W.w (q := q) (k := k) (by omega) (by omega)
    rw [slo] at hQ
    rw [wxX11_slowestLine_17]
    refine ⟨fun h => absurd h e, fun _ => ?_⟩
    have fin : ((iI (rTf (gi σ 456) q k) ≤ iI mo → ∀ x7 : Int32, x7 = nI k + 1 → (wxX11_slowestLine_17 (zSl S) Q X (d + 1)) 0 v (nI cnt) b (iI mo) x7 σ) ∧ (¬ iI (rTf (gi σ 456) q k) ≤ iI mo → ∀ x8 : Int32, x8 = nI k + 1 → (wxX11_slowestLine_17 (zSl S) Q X (d + 1)) 0 v (nI cnt) (nI k) (iI (rTf (gi σ 456) q k)) x8 σ)) := by
      refine ⟨fun hl x7 e7 => ?_, fun hl x8 e8 => ?_⟩
      · rw [iI_le (by omega) (by omega)] at hl
        rw [if_pos hl] at hQ
        subst e7
        rw [nI_1]
        exact C_slow17 W hq hc hc2 d (k + 1) b mo (by omega) hm hQ
      · rw [iI_le (by omega) (by omega)] at hl
        rw [if_neg hl] at hQ
        subst e8
        rw [nI_1]
        exact C_slow17 W hq hc hc2 d (k + 1) _ _ (by omega) (by omega) hQ
    show wxX11_lineAt (zSl S) σ 0 v (nI k) _ (fun _ _ => False)
    refine c_lineAt W (fun q' k' hq' hw' hk' hk2' => ?_) (fun hn => hn ⟨q, k, hq, rfl, by omega, by omega⟩)
    have hqq : q' = q := by
      rcases hq with ⟨x, rfl⟩ | ⟨x, rfl⟩ <;> rcases hq' with ⟨y, rfl⟩ | ⟨y, rfl⟩
      · rfl
      · rw [x] at y; exact absurd y (by decide)
      · rw [x] at y; exact absurd y (by decide)
      · rfl
    have hkk : k' = k := ((nI_eq (by omega) (by omega)).mp hw').symm
    subst hqq hkk
    show wxX11_officeAt (zSl S) σ 0 v _ (fun _ _ => False)
    rcases hq with ⟨hv, rfl⟩ | ⟨hv, rfl⟩
    · exact c_office W.st (fun _ => C_toSend W (q := 0) (by decide) hk' hk2' fin) (fun h => by rw [hv] at h; exact absurd h (by decide)) (fun h => h (Or.inl hv))
    · exact c_office W.st (fun h => by rw [hv] at h; exact absurd h (by decide)) (fun _ => C_toSend W (q := 1) (by decide) hk' hk2' fin) (fun h => h (Or.inr hv))
theorem M_slow25 {ln : Nat → Nat} {v : Int32} {q : Nat} (hq : v = 0 ∧ q = 0 ∨ v = 1 ∧ q = 1) {cnt : Nat} (hc2 : cnt ≤ 12) {Q : Int32 → zS → Prop} : ∀ (d k : Nat) (b : Int32) (mo : Int) (mo' : Int32) (σ : zS), zMg (gr σ) ln → zW (gi σ 456) → zQp (gi σ 456) → (cnt : Int) = (gi σ 456 (25 + q)).toInt → k + d = cnt → -1 ≤ mo ∧ mo ≤ 179800 → (b = -1 ∧ mo = -1 ∨ (∃ j, j < 12 ∧ b = nI j) ∧ 0 ≤ mo ∧ mo' = iI mo) → (∀ σ', gi σ' 456 = gi σ 456 → zMf σ σ' → Q (slo (rTf (gi σ 456) q) d k (b, mo)).1 σ') → wX12_slowestLine_25 ln Q (d + 1) 455 v b mo' (nI k) σ
  | 0, k, b, mo, mo', σ, G, hW, hQp, hc, hk, hm, hr, hQ => by
    have ec : gi σ 456 (25 + q) = nI cnt := by rw [neq, nI_toInt (by omega)]; omega
    have e : nI cnt ≤ nI k := nI_le (by omega) (by omega)
    rw [wX12_slowestLine_25]
    refine ⟨456, G.1.1, fun x2 e2 => ?_⟩
    subst e2
    rw [G.2.1, show ((25 : Int32) + v).toNatClampNeg = 25 + q from (oix hq 25 (by decide)).1, ec]
    exact ⟨(oix hq 25 (by decide)).2, fun _ => hQ σ rfl zMf.rf, fun h => absurd e h⟩
  | d + 1, k, b, mo, mo', σ, G, hW, hQp, hc, hk, hm, hr, hQ => by
    have ec : gi σ 456 (25 + q) = nI cnt := by rw [neq, nI_toInt (by omega)]; omega
    have e : ¬ nI cnt ≤ nI k := nI_ge (by omega) (by omega)
    have hb := rTf_b hW (q := q) (k := k) (by omega) (by omega)
    rw [slo] at hQ
    rw [wX12_slowestLine_25]
    refine ⟨456, G.1.1, fun x2 e2 => ?_⟩
    subst e2
    rw [G.2.1, show ((25 : Int32) + v).toNatClampNeg = 25 + q from (oix hq 25 (by decide)).1, ec]
    refine ⟨(oix hq 25 (by decide)).2, fun h => absurd h e, fun _ => ?_⟩
    refine M_ticksOf G hW hQp hq rfl (by omega) (by omega) (fun σ' r1 r2 => ?_)
    have G' : zMg (gr σ') ln := by rw [r2.r]; exact G
    have new : ¬ rTf (gi σ 456) q k ≤ mo → wX12_slowestLine_62 ln Q (wX12_slowestLine_25 ln Q (d + 1)) 455 v (nI k) (iI (rTf (gi σ 456) q k)) σ' := by
      intro hl x1 e1
      rw [if_neg hl] at hQ
      subst e1
      rw [nI_1]
      refine M_slow25 hq hc2 d (k + 1) _ (rTf (gi σ 456) q k) _ σ' G' (by rw [r1]; exact hW) (by rw [r1]; exact hQp) (by rw [r1]; exact hc) (by omega) (by omega) (Or.inr ⟨⟨k, by omega, rfl⟩, hb.1, rfl⟩) (fun σ2 s1 s2 => ?_)
      rw [r1] at s1 ⊢
      exact hQ σ2 s1 (r2.tr s2)
    refine ⟨fun hb1 => new ?_, fun hb1 => ?_⟩
    · rcases hr with ⟨_, h2⟩ | ⟨⟨j, hj, h2⟩, _⟩
      · omega
      · rw [hb1] at h2
        have := congrArg Int32.toInt h2
        rw [nI_toInt (by omega)] at this
        have h3 : (-1 : Int32).toInt = -1 := rfl
        omega
    · rcases hr with ⟨h2, _⟩ | ⟨hj, h3, h4⟩
      · exact absurd h2 hb1
      subst h4
      refine ⟨fun hl => new ?_, fun hl x6 e6 => ?_⟩
      · rw [nlt, iIt (by omega) (by omega), iIt (by omega) (by omega)] at hl
        omega
      · rw [nlt, iIt (by omega) (by omega), iIt (by omega) (by omega)] at hl
        rw [if_pos (by omega)] at hQ
        subst e6
        rw [nI_1]
        refine M_slow25 hq hc2 d (k + 1) b mo _ σ' G' (by rw [r1]; exact hW) (by rw [r1]; exact hQp) (by rw [r1]; exact hc) (by omega) hm (Or.inr ⟨hj, h3, rfl⟩) (fun σ2 s1 s2 => ?_)
        rw [r1] at s1 ⊢
        exact hQ σ2 s1 (r2.tr s2)
theorem L_slowestLine {S : zSp} {σ : zS} {N : Nat} (W : zWd S σ N) {v : Int32} {K : Int32 → Int32 → zS → Prop} (hK : zEnd S N K) : wL_slowestLine (zSl S) σ 0 v 463 (fun r5 σ4 => wX12_slowestLine (zSl S) σ4 455 v (fun r10 σ9 => K r5 r10 σ9)) := by
  obtain ⟨p, p', s, m, h, W⟩ := W
  have S1 := W.sm
  obtain ⟨⟨m1, m2, m3, m4, m5, m6⟩, ⟨a1, a2, a3, a4, a5, a6, a7, a8, a9⟩, ⟨l1, l2, l3, l4, l5, l6⟩⟩ := S1
  have K1 := W.km
  have X1 := W.x
  have OUT : ∀ r : Int32, wX12_slowestLine (zSl S) (sl σ 463 0 r.toInt64) 455 v (fun r10 σ9 => K 0 r10 σ9) → ∀ x6 : Int64, x6 = r.toInt64 → vp_in (0 : Int32) (zSl S 463) ∧ ∀ σ8 : zS, σ8 = sl σ 463 (0 : Int32).toNatClampNeg x6 → wX12_slowestLine (zSl S) σ8 455 v (fun r10 σ9 => K 0 r10 σ9) := fun r hq => c_out (σ := σ) W.l463 (Q := fun r5 σ4 => wX12_slowestLine (zSl S) σ4 455 v (fun r10 σ9 => K r5 r10 σ9)) hq
  have go : ∀ q, (v = 0 ∧ q = 0 ∨ v = 1 ∧ q = 1) → ∀ x3 : Int32, x3 = gi σ 456 (25 + q) → ∃ n4 : Nat, wxX11_slowestLine_17 (zSl S) (fun r2 σ1 => ∀ x6 : Int64, x6 = r2.toInt64 → vp_in (0 : Int32) (zSl S 463) ∧ ∀ σ8 : zS, σ8 = sl σ1 463 (0 : Int32).toNatClampNeg x6 → wX12_slowestLine (zSl S) σ8 455 v (fun r10 σ9 => K 0 r10 σ9)) (fun E5 σ3 => E5 = "java/lang/IndexOutOfBoundsException" ∧ wX12_slowestLine (zSl S) σ3 455 v (fun r10 σ9 => K 1 r10 σ9)) n4 0 v x3 (-1) (-1) 0 σ := by
    intro q hq x3 e3
    have hq1 : q ≤ 1 := by omega
    obtain ⟨_, c2, c3⟩ := W.cnt hq1
    have cc := ncl c2
    have ec : x3 = nI (gi σ 456 (25 + q)).toNatClampNeg := by rw [e3, neq, nI_toInt (by omega)]; omega
    subst ec
    have hfin : wX12_slowestLine (zSl S) (sl σ 463 0 (slo (rTf (gi σ 456) q) (gi σ 456 (25 + q)).toNatClampNeg 0 (-1, -1)).1.toInt64) 455 v (fun r10 σ9 => K 0 r10 σ9) := by
      intro σ1 e1
      subst e1
      refine n_isOffice (fun _ => ⟨fun h => absurd h (by decide), fun _ => ⟨(gi σ 456 (25 + q)).toNatClampNeg + 1, ?_⟩⟩) (fun hn => absurd (hq.elim (fun x => Or.inl x.1) (fun x => Or.inr x.1)) hn)
      refine M_slow25 hq (cnt := (gi σ 456 (25 + q)).toNatClampNeg) (by omega) _ 0 (-1) (-1) 0 _ W.mg (by rw [row_t]; exact W.w) (by rw [row_t]; exact W.hQ) (by rw [row_t]; show _ = (gi σ 456 (25 + q)).toInt; omega) (by omega) (by omega) (Or.inl ⟨rfl, rfl⟩) (fun σ' r1 r2 => ?_)
      rw [row_t] at r1 ⊢
      exact W.fin2 hK rfl r2 r1
    exact ⟨(gi σ 456 (25 + q)).toNatClampNeg + 1, C_slow17 W hq (cnt := (gi σ 456 (25 + q)).toNatClampNeg) (by omega) (by omega) (gi σ 456 (25 + q)).toNatClampNeg 0 (-1) (-1) (by omega) (by omega) (OUT _ hfin)⟩
  unfold wL_slowestLine wxX11_slowestLine
  have e0 : gi σ (p + 3) 2 = gi σ 456 (25 + 0) := W.pl.2.2.1.1
  have e1 : gi σ (p + 65) 2 = gi σ 456 (25 + 1) := W.pl.2.2.1.2
  refine c_desk W.st W.gp W.ps (fun hv => ?_) (fun hv => ?_) (fun hv => ⟨rfl, ?_⟩)
  · rw [e0]; exact go 0 (Or.inl ⟨hv, rfl⟩)
  · rw [e1]; exact go 1 (Or.inr ⟨hv, rfl⟩)
  · intro σ1 e1'
    subst e1'
    exact n_isOffice (fun h => absurd h hv) (fun _ => ⟨fun _ => n_raise (W.thr hK (by decide)), fun h => absurd rfl h⟩)
theorem L_nextPulseIn {S : zSp} {σ : zS} {N : Nat} (W : zWd S σ N) {K : Int32 → Int32 → zS → Prop} (hK : ∀ r σ', zWd S σ' N → K r r σ') : wX11_nextPulseIn (zSl S) σ 0 (fun r2 σ1 => wX12_nextPulseIn (zSl S) σ1 455 (fun r4 σ3 => K r2 r4 σ3)) := by
  obtain ⟨p, p', s, m, h, W⟩ := W
  have K1 := W.km
  have X1 := W.x
  have hN := W.w.N
  have pn : gi σ p 0 = gi σ 456 0 := W.pl.1.1
  have tk : (1000 : Int32).toInt = 1000 := rfl
  have eN : (1000 * gi σ 456 0).toInt = 1000 * (gi σ 456 0).toInt := by rw [nmul (by rw [tk]; omega) (by rw [tk]; omega), tk]
  have fin2 : ∀ (r : Int32) (σ' : zS), zMf (si σ 455 0 0) σ' → gi σ' 456 = gi σ 456 → K r r σ' := fun r σ' e e2 => hK r σ' ⟨p, p', s, m, h, zLk_W (zLk_t.tr (zMf_Lk e (by rw [e2, row_t]))) W⟩
  have no : ¬ zact (gi σ 456) → wX12_nextPulseIn (zSl S) σ 455 (fun r4 σ3 => K (-1) r4 σ3) := by
    intro hn σ1 e1
    subst e1
    refine M_isSender (σ := si σ 455 0 0) W.mg ?_
    rw [row_t]
    by_cases h6 : gi σ 456 6 = -1
    · rw [if_pos h6]
      exact ⟨fun _ => W.gt hK _, fun h => absurd rfl h⟩
    · rw [if_neg h6]
      refine ⟨fun h => absurd h (by decide), fun _ => ⟨456, W.q1, W.v vq7, ?_⟩⟩
      rw [cq7, row_t]
      exact ⟨fun _ => W.gt hK _, fun h7 => absurd ⟨h6, h7⟩ hn⟩
  refine ⟨261, W.g3, ?_⟩
  have hcn := C_next (σ := σ) W.sm W.gm (Or.inl W.pb) W.pl K1 W.w (fun ha => (X1.1 ha).1) (Q := fun r3 σ2 => ((r3 = (-1) → wX12_nextPulseIn (zSl S) σ2 455 (fun r4 σ3 => K (-1) r4 σ3)) ∧ (¬ r3 = (-1) → ∃ j4 : Nat, gr σ2 0 3 = some j4 ∧ ∃ j5 : Nat, gr σ2 0 3 = some j5 ∧ ∀ x6 : Int32, x6 = gi σ2 j5 3 → wX3_office (zSl S) σ2 j4 x6 (fun r8 σ7 => ∃ j9 : Nat, gr σ7 0 6 = some j9 ∧ wX6_circle (zSl S) σ7 j9 (fun r11 σ10 => ∀ x12 : Int32, x12 = gi σ7 r8 1 → ∀ x13 : Int32, x13 = gi σ7 r8 0 → wX11_ticksToPass (zSl S) σ10 r3 x13 x12 r11 (fun r15 σ14 => wX12_nextPulseIn (zSl S) σ14 455 (fun r4 σ3 => K r15 r4 σ3)))))))
  rw [zcs_self] at hcn
  refine hcn (fun hn => ⟨fun _ => no hn, fun h => absurd rfl h⟩) (fun ha => ?_)
  have h9 := X1.1 ha
  have hc9 := ncl h9.1
  have h7 : gi σ 456 7 = 0 := W.w.w.elim id (fun e => absurd e ha.2)
  have hlt : (gi σ 456 9).toNatClampNeg < (rPath (gi σ 456) (zLn (gi σ 456))).length := by omega
  have eNp : rNp (gi σ 456) = rPosn (gi σ 456) := by unfold rNp; rw [if_pos hlt]
  have hlen := zLn_len W.w ha.1
  have main : ∀ q : Nat, (gi σ 456 6 = 0 ∧ q = 0 ∨ gi σ 456 6 = 1 ∧ q = 1) → zo (gi σ 456) = q → zLn (gi σ 456) = 12 * q + (gi σ 456 (27 + q)).toNatClampNeg → (gi σ 456 (27 + q)).toNatClampNeg < 12 → (((gi σ 456 (27 + q)).toNatClampNeg : Nat) : Int) < (gi σ 456 (25 + q)).toInt → (0 ≤ (rPosn (gi σ 456)).toInt ∧ (rPosn (gi σ 456)).toInt < 28) → wX11_ticksToPass (zSl S) σ (rPosn (gi σ 456)) (gi σ 456 (21 + q)) (gi σ 456 (23 + q)) (1000 * gi σ 456 0) (fun r15 σ14 => wX12_nextPulseIn (zSl S) σ14 455 (fun r4 σ3 => K r15 r4 σ3)) := by
    intro q hq ez eL k12 kL hps
    have hph := W.w.ph2 (q := q) (by omega)
    have hrt := W.w.rt (q := q) (by omega)
    have hD : 0 ≤ (gi σ 456 (27 + q)).toInt ∧ (gi σ 456 (27 + q)).toInt ≤ 12 := by
      have d0 := W.w.D0
      have d1 := W.w.D1
      have l0 := W.w.L0
      have l1 := W.w.L1
      rcases hq with ⟨_, rfl⟩ | ⟨_, rfl⟩
      · exact ⟨d0.1, by show (gi σ 456 27).toInt ≤ 12; omega⟩
      · exact ⟨d1.1, by show (gi σ 456 28).toInt ≤ 12; omega⟩
    have cD := ncl hD.1
    have eD : gi σ 456 (27 + q) = nI (gi σ 456 (27 + q)).toNatClampNeg := by rw [neq, nI_toInt (by omega)]; omega
    refine C_pass hps ⟨hph.1, by omega⟩ hrt (by omega) ?_
    rw [eN]
    intro σ1 e1
    subst e1
    refine M_isSender (σ := si σ 455 0 0) W.mg ?_
    rw [row_t, if_neg ha.1]
    refine ⟨fun h => absurd h (by decide), fun _ => ⟨456, W.q1, W.v vq7, ?_⟩⟩
    rw [cq7, row_t]
    refine ⟨fun h => absurd h ha.2, fun _ => ?_⟩
    refine ⟨456, W.q1, W.v vq6, 456, W.q1, 456, W.q1, W.v vq6, fun x6 e6 => ?_⟩
    rw [cq6, row_t] at e6 ⊢
    subst e6
    refine ⟨W.v (oix hq 27 (by decide)).2, fun x8 e8 => ?_⟩
    rw [show ((27 : Int32) + gi σ 456 6).toNatClampNeg = 27 + q from (oix hq 27 (by decide)).1] at e8
    rw [eD] at e8
    intro xo eo
    subst eo
    refine M_finds (σ := si σ 455 0 0) W.mg (by rw [row_t]; exact W.w) hq e8 k12 (fun σ' r1 r2 r3 r4 => ?_)
    rw [row_t] at r1 r3 r4
    have q1' : gr σ' 455 1 = some 456 := by rw [r2.r]; exact W.q1
    refine ⟨456, q1', W.v vq6, fun x9 e9 => ?_⟩
    rw [r1] at e9
    subst e9
    refine ⟨456, q1', fun x11 e11 => ?_⟩
    subst e11
    refine ⟨W.v (oix hq 21 (by decide)).2, 456, q1', fun x14 e14 => ?_⟩
    subst e14
    refine ⟨W.v (oix hq 23 (by decide)).2, 460, by rw [r2.r]; exact W.mg.1.2.2.2.2.1, 456, q1', W.v vq9, fun x19 e19 => ?_⟩
    rw [cq9, r1] at e19
    subst e19
    refine ⟨by rw [W.mg.2.2.2.2.2.1]; exact nin h9.1 (by omega), fun x21 e21 x22 e22 x23 e23 => ?_⟩
    rw [r4 _ (by rw [← eL]; exact hlt)] at e21
    rw [show ((23 : Int32) + gi σ 456 6).toNatClampNeg = 23 + q from (oix hq 23 (by decide)).1, r1] at e22
    rw [show ((21 : Int32) + gi σ 456 6).toNatClampNeg = 21 + q from (oix hq 21 (by decide)).1, r1] at e23
    have e21' : x21 = rPosn (gi σ 456) := by
      rw [e21]
      unfold rPosn
      rw [eL]
    subst e21' e22 e23
    refine M_pass (by rw [r2.r]; exact W.mg) (by rw [r1]; exact hN) hps ⟨hph.1, by omega⟩ hrt ?_
    rw [r1]
    exact fin2 _ _ r2 r1
  rw [eNp]
  rcases zact_o W.w ha.1 with ⟨h6, ez, eL, k12, kL⟩ | ⟨h6, ez, eL, k12, kL⟩
  · have hps : 0 ≤ (rPosn (gi σ 456)).toInt ∧ (rPosn (gi σ 456)).toInt < 28 := by
      unfold rPosn
      rw [eL]
      exact W.hQ 0 (by decide) _ k12 kL _ (by rw [← eL]; exact hlt)
    refine ⟨fun e => ?_, fun _ => ⟨261, W.g3, 261, W.g3, fun x6 e6 => ?_⟩⟩
    · rw [e] at hps
      exact absurd hps.1 (by decide)
    have e63 : gi σ 261 3 = gi σ 456 6 := K1.1.2.2.1
    rw [e63, h6] at e6
    subst e6
    refine ⟨fun h => absurd h (by decide), fun _ => ⟨262, W.sm.1.1, p, W.gp, fun x12 e12 x13 e13 => ?_⟩⟩
    have f0 : gi σ 262 0 = gi σ 456 (21 + 0) := K1.2.1.1.1
    have f1 : gi σ 262 1 = gi σ 456 (23 + 0) := K1.2.1.1.2.1
    rw [f1] at e12
    rw [f0] at e13
    subst e12 e13
    rw [pn]
    exact main 0 (Or.inl ⟨h6, rfl⟩) ez eL k12 kL hps
  · have hps : 0 ≤ (rPosn (gi σ 456)).toInt ∧ (rPosn (gi σ 456)).toInt < 28 := by
      unfold rPosn
      rw [eL]
      exact W.hQ 1 (by decide) _ k12 kL _ (by rw [← eL]; exact hlt)
    refine ⟨fun e => ?_, fun _ => ⟨261, W.g3, 261, W.g3, fun x6 e6 => ?_⟩⟩
    · rw [e] at hps
      exact absurd hps.1 (by decide)
    have e63 : gi σ 261 3 = gi σ 456 6 := K1.1.2.2.1
    rw [e63, h6] at e6
    subst e6
    refine ⟨fun _ => ⟨265, W.sm.1.2.1, p, W.gp, fun x12 e12 x13 e13 => ?_⟩, fun h => absurd rfl h⟩
    have f0 : gi σ 265 0 = gi σ 456 (21 + 1) := K1.2.1.2.1
    have f1 : gi σ 265 1 = gi σ 456 (23 + 1) := K1.2.1.2.2.1
    rw [f1] at e12
    rw [f0] at e13
    subst e12 e13
    rw [pn]
    exact main 1 (Or.inr ⟨h6, rfl⟩) ez eL k12 kL hps
